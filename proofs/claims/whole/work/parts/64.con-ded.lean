theorem d_D_choicesWhere_0 : decode b_D_choicesWhere 0 = .ok (.lconst 0, 1) := by decide +kernel
theorem d_D_choicesWhere_1 : decode b_D_choicesWhere 1 = .ok (.lstore_n 3, 1) := by decide +kernel
theorem d_D_choicesWhere_2 : decode b_D_choicesWhere 2 = .ok (.iconst 0, 1) := by decide +kernel
theorem d_D_choicesWhere_3 : decode b_D_choicesWhere 3 = .ok (.istore 5, 2) := by decide +kernel
theorem d_D_choicesWhere_5 : decode b_D_choicesWhere 5 = .ok (.iload 5, 2) := by decide +kernel
theorem d_D_choicesWhere_7 : decode b_D_choicesWhere 7 = .ok (.bipush 16, 2) := by decide +kernel
theorem d_D_choicesWhere_9 : decode b_D_choicesWhere 9 = .ok (.if_icmp .ge 53, 3) := by decide +kernel
theorem d_D_choicesWhere_12 : decode b_D_choicesWhere 12 = .ok (.iload_n 0, 1) := by decide +kernel
theorem d_D_choicesWhere_13 : decode b_D_choicesWhere 13 = .ok (.iload 5, 2) := by decide +kernel
theorem d_D_choicesWhere_15 : decode b_D_choicesWhere 15 = .ok (.ishr, 1) := by decide +kernel
theorem d_D_choicesWhere_16 : decode b_D_choicesWhere 16 = .ok (.ifCond .eq 46, 3) := by decide +kernel
theorem d_D_choicesWhere_19 : decode b_D_choicesWhere 19 = .ok (.iload_n 0, 1) := by decide +kernel
theorem d_D_choicesWhere_20 : decode b_D_choicesWhere 20 = .ok (.iload 5, 2) := by decide +kernel
theorem d_D_choicesWhere_22 : decode b_D_choicesWhere 22 = .ok (.ishr, 1) := by decide +kernel
theorem d_D_choicesWhere_23 : decode b_D_choicesWhere 23 = .ok (.iconst 1, 1) := by decide +kernel
theorem d_D_choicesWhere_24 : decode b_D_choicesWhere 24 = .ok (.iand, 1) := by decide +kernel
theorem d_D_choicesWhere_25 : decode b_D_choicesWhere 25 = .ok (.ifCond .eq 31, 3) := by decide +kernel
theorem d_D_choicesWhere_28 : decode b_D_choicesWhere 28 = .ok (.lload_n 3, 1) := by decide +kernel
theorem d_D_choicesWhere_29 : decode b_D_choicesWhere 29 = .ok (.getstatic 52, 3) := by decide +kernel
theorem d_D_choicesWhere_32 : decode b_D_choicesWhere 32 = .ok (.iconst 4, 1) := by decide +kernel
theorem d_D_choicesWhere_33 : decode b_D_choicesWhere 33 = .ok (.iload_n 1, 1) := by decide +kernel
theorem d_D_choicesWhere_34 : decode b_D_choicesWhere 34 = .ok (.imul, 1) := by decide +kernel
theorem d_D_choicesWhere_35 : decode b_D_choicesWhere 35 = .ok (.iload 5, 2) := by decide +kernel
theorem d_D_choicesWhere_37 : decode b_D_choicesWhere 37 = .ok (.iconst 4, 1) := by decide +kernel
theorem d_D_choicesWhere_38 : decode b_D_choicesWhere 38 = .ok (.idiv, 1) := by decide +kernel
theorem d_D_choicesWhere_39 : decode b_D_choicesWhere 39 = .ok (.iadd, 1) := by decide +kernel
theorem d_D_choicesWhere_40 : decode b_D_choicesWhere 40 = .ok (.laload, 1) := by decide +kernel
theorem d_D_choicesWhere_41 : decode b_D_choicesWhere 41 = .ok (.getstatic 52, 3) := by decide +kernel
theorem d_D_choicesWhere_44 : decode b_D_choicesWhere 44 = .ok (.iconst 4, 1) := by decide +kernel
theorem d_D_choicesWhere_45 : decode b_D_choicesWhere 45 = .ok (.iload_n 2, 1) := by decide +kernel
theorem d_D_choicesWhere_46 : decode b_D_choicesWhere 46 = .ok (.imul, 1) := by decide +kernel
theorem d_D_choicesWhere_47 : decode b_D_choicesWhere 47 = .ok (.iload 5, 2) := by decide +kernel
theorem d_D_choicesWhere_49 : decode b_D_choicesWhere 49 = .ok (.iconst 4, 1) := by decide +kernel
theorem d_D_choicesWhere_50 : decode b_D_choicesWhere 50 = .ok (.irem, 1) := by decide +kernel
theorem d_D_choicesWhere_51 : decode b_D_choicesWhere 51 = .ok (.iadd, 1) := by decide +kernel
theorem d_D_choicesWhere_52 : decode b_D_choicesWhere 52 = .ok (.laload, 1) := by decide +kernel
theorem d_D_choicesWhere_53 : decode b_D_choicesWhere 53 = .ok (.land, 1) := by decide +kernel
theorem d_D_choicesWhere_54 : decode b_D_choicesWhere 54 = .ok (.lor, 1) := by decide +kernel
theorem d_D_choicesWhere_55 : decode b_D_choicesWhere 55 = .ok (.lstore_n 3, 1) := by decide +kernel
theorem d_D_choicesWhere_56 : decode b_D_choicesWhere 56 = .ok (.iinc 5 1, 3) := by decide +kernel
theorem d_D_choicesWhere_59 : decode b_D_choicesWhere 59 = .ok (.goto (-54), 3) := by decide +kernel
theorem d_D_choicesWhere_62 : decode b_D_choicesWhere 62 = .ok (.lload_n 3, 1) := by decide +kernel
theorem d_D_choicesWhere_63 : decode b_D_choicesWhere 63 = .ok (.lreturn, 1) := by decide +kernel
theorem d_D_pairsFrom_0 : decode b_D_pairsFrom 0 = .ok (.iload_n 1, 1) := by decide +kernel
theorem d_D_pairsFrom_1 : decode b_D_pairsFrom 1 = .ok (.ifCond .ne 5, 3) := by decide +kernel
theorem d_D_pairsFrom_4 : decode b_D_pairsFrom 4 = .ok (.iconst 0, 1) := by decide +kernel
theorem d_D_pairsFrom_5 : decode b_D_pairsFrom 5 = .ok (.ireturn, 1) := by decide +kernel
theorem d_D_pairsFrom_6 : decode b_D_pairsFrom 6 = .ok (.ldc2_w 43, 3) := by decide +kernel
theorem d_D_pairsFrom_9 : decode b_D_pairsFrom 9 = .ok (.lstore_n 2, 1) := by decide +kernel
theorem d_D_pairsFrom_10 : decode b_D_pairsFrom 10 = .ok (.iload_n 1, 1) := by decide +kernel
theorem d_D_pairsFrom_11 : decode b_D_pairsFrom 11 = .ok (.istore 4, 2) := by decide +kernel
theorem d_D_pairsFrom_13 : decode b_D_pairsFrom 13 = .ok (.iconst 0, 1) := by decide +kernel
theorem d_D_pairsFrom_14 : decode b_D_pairsFrom 14 = .ok (.istore 5, 2) := by decide +kernel
theorem d_D_pairsFrom_16 : decode b_D_pairsFrom 16 = .ok (.iload 5, 2) := by decide +kernel
theorem d_D_pairsFrom_18 : decode b_D_pairsFrom 18 = .ok (.iconst 3, 1) := by decide +kernel
theorem d_D_pairsFrom_19 : decode b_D_pairsFrom 19 = .ok (.if_icmp .ge 65, 3) := by decide +kernel
theorem d_D_pairsFrom_22 : decode b_D_pairsFrom 22 = .ok (.iload 4, 2) := by decide +kernel
theorem d_D_pairsFrom_24 : decode b_D_pairsFrom 24 = .ok (.ifCond .eq 60, 3) := by decide +kernel
theorem d_D_pairsFrom_27 : decode b_D_pairsFrom 27 = .ok (.iload 4, 2) := by decide +kernel
theorem d_D_pairsFrom_29 : decode b_D_pairsFrom 29 = .ok (.invokestatic 45, 3) := by decide +kernel
theorem d_D_pairsFrom_32 : decode b_D_pairsFrom 32 = .ok (.istore 6, 2) := by decide +kernel
theorem d_D_pairsFrom_34 : decode b_D_pairsFrom 34 = .ok (.lload_n 2, 1) := by decide +kernel
theorem d_D_pairsFrom_35 : decode b_D_pairsFrom 35 = .ok (.iload 6, 2) := by decide +kernel
theorem d_D_pairsFrom_37 : decode b_D_pairsFrom 37 = .ok (.bipush 18, 2) := by decide +kernel
theorem d_D_pairsFrom_39 : decode b_D_pairsFrom 39 = .ok (.if_icmp .ge 13, 3) := by decide +kernel
theorem d_D_pairsFrom_42 : decode b_D_pairsFrom 42 = .ok (.aload_n 0, 1) := by decide +kernel
theorem d_D_pairsFrom_43 : decode b_D_pairsFrom 43 = .ok (.getfield 9, 3) := by decide +kernel
theorem d_D_pairsFrom_46 : decode b_D_pairsFrom 46 = .ok (.iload 6, 2) := by decide +kernel
theorem d_D_pairsFrom_48 : decode b_D_pairsFrom 48 = .ok (.laload, 1) := by decide +kernel
theorem d_D_pairsFrom_49 : decode b_D_pairsFrom 49 = .ok (.goto 20, 3) := by decide +kernel
theorem d_D_pairsFrom_52 : decode b_D_pairsFrom 52 = .ok (.aload_n 0, 1) := by decide +kernel
theorem d_D_pairsFrom_53 : decode b_D_pairsFrom 53 = .ok (.getfield 19, 3) := by decide +kernel
theorem d_D_pairsFrom_56 : decode b_D_pairsFrom 56 = .ok (.iload 6, 2) := by decide +kernel
theorem d_D_pairsFrom_58 : decode b_D_pairsFrom 58 = .ok (.invokestatic 30, 3) := by decide +kernel
theorem d_D_pairsFrom_61 : decode b_D_pairsFrom 61 = .ok (.iload 6, 2) := by decide +kernel
theorem d_D_pairsFrom_63 : decode b_D_pairsFrom 63 = .ok (.invokestatic 33, 3) := by decide +kernel
theorem d_D_pairsFrom_66 : decode b_D_pairsFrom 66 = .ok (.invokestatic 36, 3) := by decide +kernel
theorem d_D_pairsFrom_69 : decode b_D_pairsFrom 69 = .ok (.land, 1) := by decide +kernel
theorem d_D_pairsFrom_70 : decode b_D_pairsFrom 70 = .ok (.lstore_n 2, 1) := by decide +kernel
theorem d_D_pairsFrom_71 : decode b_D_pairsFrom 71 = .ok (.iload 4, 2) := by decide +kernel
theorem d_D_pairsFrom_73 : decode b_D_pairsFrom 73 = .ok (.invokestatic 48, 3) := by decide +kernel
theorem d_D_pairsFrom_76 : decode b_D_pairsFrom 76 = .ok (.istore 4, 2) := by decide +kernel
theorem d_D_pairsFrom_78 : decode b_D_pairsFrom 78 = .ok (.iinc 5 1, 3) := by decide +kernel
theorem d_D_pairsFrom_81 : decode b_D_pairsFrom 81 = .ok (.goto (-65), 3) := by decide +kernel
theorem d_D_pairsFrom_84 : decode b_D_pairsFrom 84 = .ok (.lload_n 2, 1) := by decide +kernel
theorem d_D_pairsFrom_85 : decode b_D_pairsFrom 85 = .ok (.lload_n 2, 1) := by decide +kernel
theorem d_D_pairsFrom_86 : decode b_D_pairsFrom 86 = .ok (.bipush 16, 2) := by decide +kernel
theorem d_D_pairsFrom_88 : decode b_D_pairsFrom 88 = .ok (.lushr, 1) := by decide +kernel
theorem d_D_pairsFrom_89 : decode b_D_pairsFrom 89 = .ok (.lor, 1) := by decide +kernel
theorem d_D_pairsFrom_90 : decode b_D_pairsFrom 90 = .ok (.lload_n 2, 1) := by decide +kernel
theorem d_D_pairsFrom_91 : decode b_D_pairsFrom 91 = .ok (.bipush 32, 2) := by decide +kernel
theorem d_D_pairsFrom_93 : decode b_D_pairsFrom 93 = .ok (.lushr, 1) := by decide +kernel
theorem d_D_pairsFrom_94 : decode b_D_pairsFrom 94 = .ok (.lor, 1) := by decide +kernel
theorem d_D_pairsFrom_95 : decode b_D_pairsFrom 95 = .ok (.lload_n 2, 1) := by decide +kernel
theorem d_D_pairsFrom_96 : decode b_D_pairsFrom 96 = .ok (.bipush 48, 2) := by decide +kernel
theorem d_D_pairsFrom_98 : decode b_D_pairsFrom 98 = .ok (.lushr, 1) := by decide +kernel
theorem d_D_pairsFrom_99 : decode b_D_pairsFrom 99 = .ok (.lor, 1) := by decide +kernel
theorem d_D_pairsFrom_100 : decode b_D_pairsFrom 100 = .ok (.l2i, 1) := by decide +kernel
theorem d_D_pairsFrom_101 : decode b_D_pairsFrom 101 = .ok (.ldc 51, 2) := by decide +kernel
theorem d_D_pairsFrom_103 : decode b_D_pairsFrom 103 = .ok (.iand, 1) := by decide +kernel
theorem d_D_pairsFrom_104 : decode b_D_pairsFrom 104 = .ok (.ireturn, 1) := by decide +kernel
theorem d_D_roundOf_0 : decode b_D_roundOf 0 = .ok (.iconst 1, 1) := by decide +kernel
theorem d_D_roundOf_1 : decode b_D_roundOf 1 = .ok (.istore_n 2, 1) := by decide +kernel
theorem d_D_roundOf_2 : decode b_D_roundOf 2 = .ok (.iload_n 2, 1) := by decide +kernel
theorem d_D_roundOf_3 : decode b_D_roundOf 3 = .ok (.aload_n 0, 1) := by decide +kernel
theorem d_D_roundOf_4 : decode b_D_roundOf 4 = .ok (.getfield 23, 3) := by decide +kernel
theorem d_D_roundOf_7 : decode b_D_roundOf 7 = .ok (.if_icmp .gt 22, 3) := by decide +kernel
theorem d_D_roundOf_10 : decode b_D_roundOf 10 = .ok (.aload_n 0, 1) := by decide +kernel
theorem d_D_roundOf_11 : decode b_D_roundOf 11 = .ok (.getfield 15, 3) := by decide +kernel
theorem d_D_roundOf_14 : decode b_D_roundOf 14 = .ok (.iload_n 2, 1) := by decide +kernel
theorem d_D_roundOf_15 : decode b_D_roundOf 15 = .ok (.iaload, 1) := by decide +kernel
theorem d_D_roundOf_16 : decode b_D_roundOf 16 = .ok (.iload_n 1, 1) := by decide +kernel
theorem d_D_roundOf_17 : decode b_D_roundOf 17 = .ok (.iand, 1) := by decide +kernel
theorem d_D_roundOf_18 : decode b_D_roundOf 18 = .ok (.ifCond .eq 5, 3) := by decide +kernel
theorem d_D_roundOf_21 : decode b_D_roundOf 21 = .ok (.iload_n 2, 1) := by decide +kernel
theorem d_D_roundOf_22 : decode b_D_roundOf 22 = .ok (.ireturn, 1) := by decide +kernel
theorem d_D_roundOf_23 : decode b_D_roundOf 23 = .ok (.iinc 2 1, 3) := by decide +kernel
theorem d_D_roundOf_26 : decode b_D_roundOf 26 = .ok (.goto (-24), 3) := by decide +kernel
theorem d_D_roundOf_29 : decode b_D_roundOf 29 = .ok (.iconst 0, 1) := by decide +kernel
theorem d_D_roundOf_30 : decode b_D_roundOf 30 = .ok (.ireturn, 1) := by decide +kernel
theorem d_D_run_0 : decode b_D_run 0 = .ok (.aload_n 0, 1) := by decide +kernel
theorem d_D_run_1 : decode b_D_run 1 = .ok (.iconst 0, 1) := by decide +kernel
theorem d_D_run_2 : decode b_D_run 2 = .ok (.putfield 19, 3) := by decide +kernel
theorem d_D_run_5 : decode b_D_run 5 = .ok (.aload_n 0, 1) := by decide +kernel
theorem d_D_run_6 : decode b_D_run 6 = .ok (.iconst 0, 1) := by decide +kernel
theorem d_D_run_7 : decode b_D_run 7 = .ok (.putfield 23, 3) := by decide +kernel
theorem d_D_run_10 : decode b_D_run 10 = .ok (.iconst 1, 1) := by decide +kernel
theorem d_D_run_11 : decode b_D_run 11 = .ok (.istore_n 3, 1) := by decide +kernel
theorem d_D_run_12 : decode b_D_run 12 = .ok (.iload_n 3, 1) := by decide +kernel
theorem d_D_run_13 : decode b_D_run 13 = .ok (.bipush 16, 2) := by decide +kernel
theorem d_D_run_15 : decode b_D_run 15 = .ok (.if_icmp .gt 59, 3) := by decide +kernel
theorem d_D_run_18 : decode b_D_run 18 = .ok (.aload_n 0, 1) := by decide +kernel
theorem d_D_run_19 : decode b_D_run 19 = .ok (.iload_n 1, 1) := by decide +kernel
theorem d_D_run_20 : decode b_D_run 20 = .ok (.invokevirtual 40, 3) := by decide +kernel
theorem d_D_run_23 : decode b_D_run 23 = .ok (.aload_n 0, 1) := by decide +kernel
theorem d_D_run_24 : decode b_D_run 24 = .ok (.iload_n 2, 1) := by decide +kernel
theorem d_D_run_25 : decode b_D_run 25 = .ok (.invokevirtual 40, 3) := by decide +kernel
theorem d_D_run_28 : decode b_D_run 28 = .ok (.ior, 1) := by decide +kernel
theorem d_D_run_29 : decode b_D_run 29 = .ok (.aload_n 0, 1) := by decide +kernel
theorem d_D_run_30 : decode b_D_run 30 = .ok (.getfield 19, 3) := by decide +kernel
theorem d_D_run_33 : decode b_D_run 33 = .ok (.iconst (-1), 1) := by decide +kernel
theorem d_D_run_34 : decode b_D_run 34 = .ok (.ixor, 1) := by decide +kernel
theorem d_D_run_35 : decode b_D_run 35 = .ok (.iand, 1) := by decide +kernel
theorem d_D_run_36 : decode b_D_run 36 = .ok (.istore 4, 2) := by decide +kernel
theorem d_D_run_38 : decode b_D_run 38 = .ok (.iload 4, 2) := by decide +kernel
theorem d_D_run_40 : decode b_D_run 40 = .ok (.ifCond .ne 4, 3) := by decide +kernel
theorem d_D_run_43 : decode b_D_run 43 = .ok (.return_, 1) := by decide +kernel
theorem d_D_run_44 : decode b_D_run 44 = .ok (.aload_n 0, 1) := by decide +kernel
theorem d_D_run_45 : decode b_D_run 45 = .ok (.getfield 15, 3) := by decide +kernel
theorem d_D_run_48 : decode b_D_run 48 = .ok (.iload_n 3, 1) := by decide +kernel
theorem d_D_run_49 : decode b_D_run 49 = .ok (.iload 4, 2) := by decide +kernel
theorem d_D_run_51 : decode b_D_run 51 = .ok (.iastore, 1) := by decide +kernel
theorem d_D_run_52 : decode b_D_run 52 = .ok (.aload_n 0, 1) := by decide +kernel
theorem d_D_run_53 : decode b_D_run 53 = .ok (.dup, 1) := by decide +kernel
theorem d_D_run_54 : decode b_D_run 54 = .ok (.getfield 19, 3) := by decide +kernel
theorem d_D_run_57 : decode b_D_run 57 = .ok (.iload 4, 2) := by decide +kernel
theorem d_D_run_59 : decode b_D_run 59 = .ok (.ior, 1) := by decide +kernel
theorem d_D_run_60 : decode b_D_run 60 = .ok (.putfield 19, 3) := by decide +kernel
theorem d_D_run_63 : decode b_D_run 63 = .ok (.aload_n 0, 1) := by decide +kernel
theorem d_D_run_64 : decode b_D_run 64 = .ok (.iload_n 3, 1) := by decide +kernel
theorem d_D_run_65 : decode b_D_run 65 = .ok (.putfield 23, 3) := by decide +kernel
theorem d_D_run_68 : decode b_D_run 68 = .ok (.iinc 3 1, 3) := by decide +kernel
theorem d_D_run_71 : decode b_D_run 71 = .ok (.goto (-59), 3) := by decide +kernel
theorem d_D_run_74 : decode b_D_run 74 = .ok (.return_, 1) := by decide +kernel
theorem d_D_takeFacts_0 : decode b_D_takeFacts 0 = .ok (.iconst 0, 1) := by decide +kernel
theorem d_D_takeFacts_1 : decode b_D_takeFacts 1 = .ok (.istore_n 3, 1) := by decide +kernel
theorem d_D_takeFacts_2 : decode b_D_takeFacts 2 = .ok (.iload_n 3, 1) := by decide +kernel
theorem d_D_takeFacts_3 : decode b_D_takeFacts 3 = .ok (.bipush 18, 2) := by decide +kernel
theorem d_D_takeFacts_5 : decode b_D_takeFacts 5 = .ok (.if_icmp .ge 42, 3) := by decide +kernel
theorem d_D_takeFacts_8 : decode b_D_takeFacts 8 = .ok (.iload_n 3, 1) := by decide +kernel
theorem d_D_takeFacts_9 : decode b_D_takeFacts 9 = .ok (.invokestatic 26, 3) := by decide +kernel
theorem d_D_takeFacts_12 : decode b_D_takeFacts 12 = .ok (.ifCond .ne 7, 3) := by decide +kernel
theorem d_D_takeFacts_15 : decode b_D_takeFacts 15 = .ok (.iload_n 1, 1) := by decide +kernel
theorem d_D_takeFacts_16 : decode b_D_takeFacts 16 = .ok (.goto 4, 3) := by decide +kernel
theorem d_D_takeFacts_19 : decode b_D_takeFacts 19 = .ok (.iload_n 2, 1) := by decide +kernel
theorem d_D_takeFacts_20 : decode b_D_takeFacts 20 = .ok (.istore 4, 2) := by decide +kernel
theorem d_D_takeFacts_22 : decode b_D_takeFacts 22 = .ok (.aload_n 0, 1) := by decide +kernel
theorem d_D_takeFacts_23 : decode b_D_takeFacts 23 = .ok (.getfield 9, 3) := by decide +kernel
theorem d_D_takeFacts_26 : decode b_D_takeFacts 26 = .ok (.iload_n 3, 1) := by decide +kernel
theorem d_D_takeFacts_27 : decode b_D_takeFacts 27 = .ok (.iload 4, 2) := by decide +kernel
theorem d_D_takeFacts_29 : decode b_D_takeFacts 29 = .ok (.iload_n 3, 1) := by decide +kernel
theorem d_D_takeFacts_30 : decode b_D_takeFacts 30 = .ok (.invokestatic 30, 3) := by decide +kernel
theorem d_D_takeFacts_33 : decode b_D_takeFacts 33 = .ok (.iload_n 3, 1) := by decide +kernel
theorem d_D_takeFacts_34 : decode b_D_takeFacts 34 = .ok (.invokestatic 33, 3) := by decide +kernel
theorem d_D_takeFacts_37 : decode b_D_takeFacts 37 = .ok (.invokestatic 36, 3) := by decide +kernel
theorem d_D_takeFacts_40 : decode b_D_takeFacts 40 = .ok (.lastore, 1) := by decide +kernel
theorem d_D_takeFacts_41 : decode b_D_takeFacts 41 = .ok (.iinc 3 1, 3) := by decide +kernel
theorem d_D_takeFacts_44 : decode b_D_takeFacts 44 = .ok (.goto (-42), 3) := by decide +kernel
theorem d_D_takeFacts_47 : decode b_D_takeFacts 47 = .ok (.return_, 1) := by decide +kernel
set_option maxHeartbeats 1000000 in
set_option maxRecDepth 100000 in
theorem c_D_choicesWhere (l : Launch) (dC : Nat → ClassId) (dI : Nat → Nat → Nat) (tb : Nat) (ak av : Nat → Nat) (sz : Nat)  (x0 : Int32) (x1 : Int32) (x2 : Int32) (r0 : Int64) (u0 : Unit) (h : m_D_choicesWhere x0 x1 x2 = some (r0, u0)) : Met l y_D_choicesWhere w_D_choicesWhere ({ frames := 0, cells := 0, slots := 0, locals := 0 } : Room) (va_Pc [.int x0, .int x1, .int x2] (fun U => U.heap.size = sz ∧ va_P (dC, dI) classes [] U.heap ∧ va_K (dC, dI) classes [] U ∧ va_D (fun _ => True) [] ∧ kw tb ak av (va_A [] sz) U)) (va_Ql (fun (r : Int64) (u : Unit) => r = r0 ∧ u = u0) (fun (u : Unit) (t : State) => va_P (dC, dI) classes [] t.heap ∧ va_K (dC, dI) classes [] t ∧ va_D (va_A [] sz) []) (va_A [] sz)) 0 0 (va_A [] sz) := by
  refine Met.ofW (cc := b_D_choicesWhere) (maxL := 6) (ret := (some .long)) (by decide) rfl ?_
  intro p e s m args below meth c s₁ B hml hv
  obtain ⟨rfl, hsz, hP, hK, hD0, hC⟩ := hv
  have hx := B.exec
  have hb := B.bytes
  have hr := B.returns
  have hts0 := atoms_spec (ws := w_D_choicesWhere) B.pre
  have hts : ∀ w ∈ lw_gd, w.before ([.int x0, .int x1, .int x2] : List Value).toArray s = true := fun w h9 => hts0 w (List.mem_cons_of_mem _ h9)
  have hown : s.vm.findClass R_D = some m.cls := findClass_of_methodNamed B.named
  have hlocks := B.notSynchronized
  subst hsz
  have hD := hD0.self (sz := s.heap.size)
  generalize hAe : va_A [] s.heap.size = A at hD hC ⊢
  have hA : ∀ q : Nat, s.heap.size ≤ q → A q := fun q h9 => by rw [← hAe]; exact Or.inr h9
  obtain ⟨H, eH⟩ : ∃ H : Heap, H = s.heap := ⟨_, rfl⟩
  have hS : va_S A s.heap H [] := by rw [eH]; exact va_S.rf
  have hP : va_P (dC, dI) classes [] H := by rw [eH]; exact hP
  refine W_gen (fun Q hQ => ?_)
  refine W_heap eH ?_
  clear eH
  have hl := lv_entry ([.int x0, .int x1, .int x2]) (n := 6) (Nat.le_of_ble_eq_true rfl)
  rw [lg_entry_eq]
  generalize (lg_sl ([.int x0, .int x1, .int x2]) ++ List.replicate (6 - (lg_sl ([.int x0, .int x1, .int x2])).length) Slot.unset).toArray = ls at hl ⊢
  have hl : lv_has ls 6 [(0, .int x0), (1, .int x1), (2, .int x2)] := hl
  have J_56 : ∀ (k_5 : Int32 → Int32 → Int32 → Int64 → Int32 → Option (Int64 × Unit)) (hk_5 : ∀ (z0 : Int32) (z1 : Int32) (z2 : Int32) (z3 : Int64) (z5 : Int32), k_5 z0 z1 z2 z3 z5 = some (r0, u0) → ∀ (H : Heap) (locs : List Loc), va_P (dC, dI) classes [] H → va_D A [] → va_S A s.heap H locs → ∀ (ls : Array Slot), lv_has ls 6 [(0, .int z0), (1, .int z1), (2, .int z2), (3, .long z3), (5, .int z5)] → W p l e (headSpec w_D_choicesWhere ({ frames := 0, cells := 0, slots := 0, locals := 0 } : Room)).room s m ([.int x0, .int x1, .int x2] : List Value).toArray below meth c H locs 0 0 Q (F0 m 5 ls [])) (z0 : Int32) (z1 : Int32) (z2 : Int32) (z3 : Int64) (z5 : Int32), m_D_choicesWhere_56 k_5 z0 z1 z2 z3 z5 = some (r0, u0) → ∀ (H : Heap) (locs : List Loc), va_P (dC, dI) classes [] H → va_D A [] → va_S A s.heap H locs → ∀ (ls : Array Slot), lv_has ls 6 [(0, .int z0), (1, .int z1), (2, .int z2), (3, .long z3), (5, .int z5)] → W p l e (headSpec w_D_choicesWhere ({ frames := 0, cells := 0, slots := 0, locals := 0 } : Room)).room s m ([.int x0, .int x1, .int x2] : List Value).toArray below meth c H locs 0 0 Q (F0 m 56 ls []) := by
    intro k_5 hk_5 z0 z1 z2 z3 z5 h H locs hP hD hS ls hl
    unfold m_D_choicesWhere_56 at h
    refine lv_iinc (v := z5 + (nI 1)) (lv' := [(5, .int (z5 + (nI 1))), (0, .int z0), (1, .int z1), (2, .int z2), (3, .long z3)]) hx hb d_D_choicesWhere_56 hl (k := 4) rfl rfl (by decide) rfl (fun ls hl => ?_)
    refine lv_goto (tgt := 5) hx hb d_D_choicesWhere_59 (by decide) ?_
    exact hk_5 z0 z1 z2 z3 (z5 + (nI 1)) h _ _ hP hD hS ls (lv_sub hl [1, 2, 3, 4, 0] rfl)
  have J_5 : ∀ (n : Nat) (z0 : Int32) (z1 : Int32) (z2 : Int32) (z3 : Int64) (z5 : Int32), m_D_choicesWhere_5 n z0 z1 z2 z3 z5 = some (r0, u0) → ∀ (H : Heap) (locs : List Loc), va_P (dC, dI) classes [] H → va_D A [] → va_S A s.heap H locs → ∀ (ls : Array Slot), lv_has ls 6 [(0, .int z0), (1, .int z1), (2, .int z2), (3, .long z3), (5, .int z5)] → W p l e (headSpec w_D_choicesWhere ({ frames := 0, cells := 0, slots := 0, locals := 0 } : Room)).room s m ([.int x0, .int x1, .int x2] : List Value).toArray below meth c H locs 0 0 Q (F0 m 5 ls []) := by
    intro n
    induction n with
    | zero => intro z0 z1 z2 z3 z5 h; exact absurd h (by unfold m_D_choicesWhere_5; exact fun h9 => nomatch h9)
    | succ n ih =>
      intro z0 z1 z2 z3 z5 h H locs hP hD hS ls hl
      unfold m_D_choicesWhere_5 at h
      refine lv_iload hx hb d_D_choicesWhere_5 (lv_at hl 4 rfl) ?_
      refine lv_bipush (v := (nI 16)) hx hb d_D_choicesWhere_7 (by decide) ?_
      refine lv_icmp_ge (tgt := 62) hx hb d_D_choicesWhere_9 (by decide) (fun c_9 => ?_) (fun c_9 => ?_)
      · have h := of_pos h c_9
        refine lv_lload_n hx hb d_D_choicesWhere_62 rfl (lv_at hl 3 rfl) ?_
        rw [hQ]
        exact W.lret (v := z3) hx hb hr (fun t ht hW => ⟨⟨z3, (), rfl, Prod.mk.inj (Option.some.inj h), by rw [ht]; exact hP, va_K.moved hW.alike hK, hD⟩, hS.F ht⟩) hS.2.2 d_D_choicesWhere_63
      · have h := of_neg h c_9
        refine lv_iload_n hx hb d_D_choicesWhere_12 rfl (lv_at hl 0 rfl) ?_
        refine lv_iload hx hb d_D_choicesWhere_13 (lv_at hl 4 rfl) ?_
        refine lv_ishr hx hb d_D_choicesWhere_15 ?_
        refine lv_if_eq (tgt := 62) hx hb d_D_choicesWhere_16 (by decide) (fun c_16 => ?_) (fun c_16 => ?_)
        · have h := of_pos h c_16
          refine lv_lload_n hx hb d_D_choicesWhere_62 rfl (lv_at hl 3 rfl) ?_
          rw [hQ]
          exact W.lret (v := z3) hx hb hr (fun t ht hW => ⟨⟨z3, (), rfl, Prod.mk.inj (Option.some.inj h), by rw [ht]; exact hP, va_K.moved hW.alike hK, hD⟩, hS.F ht⟩) hS.2.2 d_D_choicesWhere_63
        · have h := of_neg h c_16
          refine lv_iload_n hx hb d_D_choicesWhere_19 rfl (lv_at hl 0 rfl) ?_
          refine lv_iload hx hb d_D_choicesWhere_20 (lv_at hl 4 rfl) ?_
          refine lv_ishr hx hb d_D_choicesWhere_22 ?_
          refine lv_iconst (v := (nI 1)) hx hb d_D_choicesWhere_23 (by decide) ?_
          refine lv_iand hx hb d_D_choicesWhere_24 ?_
          refine lv_if_eq (tgt := 56) hx hb d_D_choicesWhere_25 (by decide) (fun c_25 => ?_) (fun c_25 => ?_)
          · have h := of_pos h c_25
            exact J_56 (m_D_choicesWhere_5 n) ih z0 z1 z2 z3 z5 h _ _ hP hD hS ls (lv_sub hl [0, 1, 2, 3, 4] rfl)
          · have h := of_neg h c_25
            refine lv_lload_n hx hb d_D_choicesWhere_28 rfl (lv_at hl 3 rfl) ?_
            refine va_gets hx hb hC.tabz hS hown (hts _ flk_D_52) (fun _ h9 => h9) d_D_choicesWhere_29 ?_
            refine lv_iconst (v := (nI 4)) hx hb d_D_choicesWhere_32 (by decide) ?_
            refine lv_iload_n hx hb d_D_choicesWhere_33 rfl (lv_at hl 1 rfl) ?_
            refine lv_imul hx hb d_D_choicesWhere_34 ?_
            refine lv_iload hx hb d_D_choicesWhere_35 (lv_at hl 4 rfl) ?_
            refine lv_iconst (v := (nI 4)) hx hb d_D_choicesWhere_37 (by decide) ?_
            refine lv_idiv hx hb d_D_choicesWhere_38 (by decide) ?_
            refine lv_iadd hx hb d_D_choicesWhere_39 ?_
            obtain ⟨g_40, h⟩ := of_guard h
            refine va_tl hx hb hC.tab hS (inR_in g_40) rfl d_D_choicesWhere_40 ?_
            refine va_gets hx hb hC.tabz hS hown (hts _ flk_D_52) (fun _ h9 => h9) d_D_choicesWhere_41 ?_
            refine lv_iconst (v := (nI 4)) hx hb d_D_choicesWhere_44 (by decide) ?_
            refine lv_iload_n hx hb d_D_choicesWhere_45 rfl (lv_at hl 2 rfl) ?_
            refine lv_imul hx hb d_D_choicesWhere_46 ?_
            refine lv_iload hx hb d_D_choicesWhere_47 (lv_at hl 4 rfl) ?_
            refine lv_iconst (v := (nI 4)) hx hb d_D_choicesWhere_49 (by decide) ?_
            refine lv_irem hx hb d_D_choicesWhere_50 (by decide) ?_
            refine lv_iadd hx hb d_D_choicesWhere_51 ?_
            obtain ⟨g_52, h⟩ := of_guard h
            refine va_tl hx hb hC.tab hS (inR_in g_52) rfl d_D_choicesWhere_52 ?_
            refine lv_land hx hb d_D_choicesWhere_53 ?_
            refine lv_lor hx hb d_D_choicesWhere_54 ?_
            refine lv_topl (fun w_55 ew_55 => ?_)
            have h := of_let h ew_55
            refine lv_lstore_n (lv' := [(3, .long w_55), (0, .int z0), (1, .int z1), (2, .int z2), (5, .int z5)]) hx hb d_D_choicesWhere_55 rfl hl (by decide) rfl (fun ls hl => ?_)
            exact J_56 (m_D_choicesWhere_5 n) ih z0 z1 z2 w_55 z5 h _ _ hP hD hS ls (lv_sub hl [1, 2, 3, 0, 4] rfl)
  unfold m_D_choicesWhere at h
  refine lv_lconst (v := 0) hx hb d_D_choicesWhere_0 (by decide) ?_
  refine lv_lstore_n (lv' := [(3, .long (0 : Int64)), (0, .int x0), (1, .int x1), (2, .int x2)]) hx hb d_D_choicesWhere_1 rfl hl (by decide) rfl (fun ls hl => ?_)
  refine lv_iconst (v := (nI 0)) hx hb d_D_choicesWhere_2 (by decide) ?_
  refine lv_istore (lv' := [(5, .int (nI 0)), (3, .long (0 : Int64)), (0, .int x0), (1, .int x1), (2, .int x2)]) hx hb d_D_choicesWhere_3 hl (by decide) rfl (fun ls hl => ?_)
  exact J_5 40 x0 x1 x2 (0 : Int64) (nI 0) h _ _ hP hD hS ls (lv_sub hl [2, 3, 4, 1, 0] rfl)
set_option maxHeartbeats 1000000 in
set_option maxRecDepth 100000 in
theorem c_D_pairsFrom (l : Launch) (dC : Nat → ClassId) (dI : Nat → Nat → Nat) (h_o h_factChoices h_givenInRound : Nat) (k_factChoices : ClassId) (tb : Nat) (ak av : Nat → Nat) (sz : Nat) (v_givenPairs : Int32) (v_roundCount : Int32) (v_factChoices : Nat → Int64) (x1 : Int32) (r0 : Int32) (u0 : Unit) (h : m_D_pairsFrom v_givenPairs v_factChoices x1 = some (r0, u0)) : Met l y_D_pairsFrom w_D_pairsFrom ({ frames := 2, cells := 0, slots := 0, locals := 40 } : Room) (va_Pc [.ref h_o, .int x1] (fun U => U.heap.size = sz ∧ va_P (dC, dI) classes [(h_o, .inr (0, [.ref h_factChoices, .ref h_givenInRound, .int v_givenPairs, .int v_roundCount])), (h_factChoices, .inl (k_factChoices, 18, .inr (.inl v_factChoices)))] U.heap ∧ va_K (dC, dI) classes [(k_factChoices, .long)] U ∧ va_D (fun _ => True) [(h_o, .inr (0, [.ref h_factChoices, .ref h_givenInRound, .int v_givenPairs, .int v_roundCount])), (h_factChoices, .inl (k_factChoices, 18, .inr (.inl v_factChoices)))] ∧ kw tb ak av (va_A [(h_o, .inr (0, [.ref h_factChoices, .ref h_givenInRound, .int v_givenPairs, .int v_roundCount])), (h_factChoices, .inl (k_factChoices, 18, .inr (.inl v_factChoices)))] sz) U)) (va_Qi (fun (r : Int32) (u : Unit) => r = r0 ∧ u = u0) (fun (u : Unit) (t : State) => va_P (dC, dI) classes [(h_o, .inr (0, [.ref h_factChoices, .ref h_givenInRound, .int v_givenPairs, .int v_roundCount])), (h_factChoices, .inl (k_factChoices, 18, .inr (.inl v_factChoices)))] t.heap ∧ va_K (dC, dI) classes [(k_factChoices, .long)] t ∧ va_D (va_A [(h_o, .inr (0, [.ref h_factChoices, .ref h_givenInRound, .int v_givenPairs, .int v_roundCount])), (h_factChoices, .inl (k_factChoices, 18, .inr (.inl v_factChoices)))] sz) [(h_o, .inr (0, [.ref h_factChoices, .ref h_givenInRound, .int v_givenPairs, .int v_roundCount])), (h_factChoices, .inl (k_factChoices, 18, .inr (.inl v_factChoices)))]) (va_A [(h_o, .inr (0, [.ref h_factChoices, .ref h_givenInRound, .int v_givenPairs, .int v_roundCount])), (h_factChoices, .inl (k_factChoices, 18, .inr (.inl v_factChoices)))] sz)) 0 0 (va_A [(h_o, .inr (0, [.ref h_factChoices, .ref h_givenInRound, .int v_givenPairs, .int v_roundCount])), (h_factChoices, .inl (k_factChoices, 18, .inr (.inl v_factChoices)))] sz) := by
  refine Met.ofW (cc := b_D_pairsFrom) (maxL := 7) (ret := (some .int)) (by decide) rfl ?_
  intro p e s m args below meth c s₁ B hml hv
  obtain ⟨rfl, hsz, hP, hK, hD0, hC⟩ := hv
  have hx := B.exec
  have hb := B.bytes
  have hr := B.returns
  have hts0 := atoms_spec (ws := w_D_pairsFrom) B.pre
  have hts : ∀ w ∈ lw_gd, w.before ([.ref h_o, .int x1] : List Value).toArray s = true := fun w h9 => hts0 w (List.mem_cons_of_mem _ h9)
  have hown : s.vm.findClass R_D = some m.cls := findClass_of_methodNamed B.named
  have hlocks := B.notSynchronized
  subst hsz
  have hD := hD0.self (sz := s.heap.size)
  generalize hAe : va_A [(h_o, .inr (0, [.ref h_factChoices, .ref h_givenInRound, .int v_givenPairs, .int v_roundCount])), (h_factChoices, .inl (k_factChoices, 18, .inr (.inl v_factChoices)))] s.heap.size = A at hD hC ⊢
  have hA : ∀ q : Nat, s.heap.size ≤ q → A q := fun q h9 => by rw [← hAe]; exact Or.inr h9
  obtain ⟨H, eH⟩ : ∃ H : Heap, H = s.heap := ⟨_, rfl⟩
  have hS : va_S A s.heap H [] := by rw [eH]; exact va_S.rf
  have hP : va_P (dC, dI) classes [(h_o, .inr (0, [.ref h_factChoices, .ref h_givenInRound, .int v_givenPairs, .int v_roundCount])), (h_factChoices, .inl (k_factChoices, 18, .inr (.inl v_factChoices)))] H := by rw [eH]; exact hP
  refine W_gen (fun Q hQ => ?_)
  refine W_heap eH ?_
  clear eH
  have hl := lv_entry ([.ref h_o, .int x1]) (n := 7) (Nat.le_of_ble_eq_true rfl)
  rw [lg_entry_eq]
  generalize (lg_sl ([.ref h_o, .int x1]) ++ List.replicate (7 - (lg_sl ([.ref h_o, .int x1])).length) Slot.unset).toArray = ls at hl ⊢
  have hl : lv_has ls 7 [(0, .ref h_o), (1, .int x1)] := hl
  have J_84 : ∀ (z2 : Int64), m_D_pairsFrom_84 v_givenPairs v_factChoices z2 = some (r0, u0) → ∀ (H : Heap) (locs : List Loc), va_P (dC, dI) classes [(h_o, .inr (0, [.ref h_factChoices, .ref h_givenInRound, .int v_givenPairs, .int v_roundCount])), (h_factChoices, .inl (k_factChoices, 18, .inr (.inl v_factChoices)))] H → va_D A [(h_o, .inr (0, [.ref h_factChoices, .ref h_givenInRound, .int v_givenPairs, .int v_roundCount])), (h_factChoices, .inl (k_factChoices, 18, .inr (.inl v_factChoices)))] → va_S A s.heap H locs → ∀ (ls : Array Slot), lv_has ls 7 [(2, .long z2)] → W p l e (headSpec w_D_pairsFrom ({ frames := 2, cells := 0, slots := 0, locals := 40 } : Room)).room s m ([.ref h_o, .int x1] : List Value).toArray below meth c H locs 0 0 Q (F0 m 84 ls []) := by
    intro z2 h H locs hP hD hS ls hl
    unfold m_D_pairsFrom_84 at h
    refine lv_lload_n hx hb d_D_pairsFrom_84 rfl (lv_at hl 0 rfl) ?_
    refine lv_lload_n hx hb d_D_pairsFrom_85 rfl (lv_at hl 0 rfl) ?_
    refine lv_bipush (v := (nI 16)) hx hb d_D_pairsFrom_86 (by decide) ?_
    refine lv_lushr (v := lush z2 (nI 16)) hx hb d_D_pairsFrom_88 rfl ?_
    refine lv_lor hx hb d_D_pairsFrom_89 ?_
    refine lv_lload_n hx hb d_D_pairsFrom_90 rfl (lv_at hl 0 rfl) ?_
    refine lv_bipush (v := (nI 32)) hx hb d_D_pairsFrom_91 (by decide) ?_
    refine lv_lushr (v := lush z2 (nI 32)) hx hb d_D_pairsFrom_93 rfl ?_
    refine lv_lor hx hb d_D_pairsFrom_94 ?_
    refine lv_lload_n hx hb d_D_pairsFrom_95 rfl (lv_at hl 0 rfl) ?_
    refine lv_bipush (v := (nI 48)) hx hb d_D_pairsFrom_96 (by decide) ?_
    refine lv_lushr (v := lush z2 (nI 48)) hx hb d_D_pairsFrom_98 rfl ?_
    refine lv_lor hx hb d_D_pairsFrom_99 ?_
    refine lv_l2i (v := (((z2 ||| (lush z2 (nI 16))) ||| (lush z2 (nI 32))) ||| (lush z2 (nI 48))).toInt32) hx hb d_D_pairsFrom_100 rfl ?_
    refine lv_ldc (v := 65535) hx hb hown (hts _ con_D_51) d_D_pairsFrom_101 ?_
    refine lv_iand hx hb d_D_pairsFrom_103 ?_
    rw [hQ]
    exact W.iret (v := ((((z2 ||| (lush z2 (nI 16))) ||| (lush z2 (nI 32))) ||| (lush z2 (nI 48))).toInt32) &&& (nI 65535)) hx hb hr (fun t ht hW => ⟨⟨((((z2 ||| (lush z2 (nI 16))) ||| (lush z2 (nI 32))) ||| (lush z2 (nI 48))).toInt32) &&& (nI 65535), (), rfl, Prod.mk.inj (Option.some.inj h), by rw [ht]; exact hP, va_K.moved hW.alike hK, hD⟩, hS.F ht⟩) hS.2.2 d_D_pairsFrom_104
  have J_69 : ∀ (k_16 : Int64 → Int32 → Int32 → Option (Int32 × Unit)) (hk_16 : ∀ (z2 : Int64) (z4 : Int32) (z5 : Int32), k_16 z2 z4 z5 = some (r0, u0) → ∀ (H : Heap) (locs : List Loc), va_P (dC, dI) classes [(h_o, .inr (0, [.ref h_factChoices, .ref h_givenInRound, .int v_givenPairs, .int v_roundCount])), (h_factChoices, .inl (k_factChoices, 18, .inr (.inl v_factChoices)))] H → va_D A [(h_o, .inr (0, [.ref h_factChoices, .ref h_givenInRound, .int v_givenPairs, .int v_roundCount])), (h_factChoices, .inl (k_factChoices, 18, .inr (.inl v_factChoices)))] → va_S A s.heap H locs → ∀ (ls : Array Slot), lv_has ls 7 [(0, .ref h_o), (2, .long z2), (4, .int z4), (5, .int z5)] → W p l e (headSpec w_D_pairsFrom ({ frames := 2, cells := 0, slots := 0, locals := 40 } : Room)).room s m ([.ref h_o, .int x1] : List Value).toArray below meth c H locs 0 0 Q (F0 m 16 ls [])) (z4 : Int32) (z5 : Int32) (y0 : Int64) (y1 : Int64), m_D_pairsFrom_69 v_givenPairs v_factChoices k_16 z4 z5 y0 y1 = some (r0, u0) → ∀ (H : Heap) (locs : List Loc), va_P (dC, dI) classes [(h_o, .inr (0, [.ref h_factChoices, .ref h_givenInRound, .int v_givenPairs, .int v_roundCount])), (h_factChoices, .inl (k_factChoices, 18, .inr (.inl v_factChoices)))] H → va_D A [(h_o, .inr (0, [.ref h_factChoices, .ref h_givenInRound, .int v_givenPairs, .int v_roundCount])), (h_factChoices, .inl (k_factChoices, 18, .inr (.inl v_factChoices)))] → va_S A s.heap H locs → ∀ (ls : Array Slot), lv_has ls 7 [(0, .ref h_o), (4, .int z4), (5, .int z5)] → W p l e (headSpec w_D_pairsFrom ({ frames := 2, cells := 0, slots := 0, locals := 40 } : Room)).room s m ([.ref h_o, .int x1] : List Value).toArray below meth c H locs 0 0 Q (F0 m 69 ls [.long y0, .long y1]) := by
    intro k_16 hk_16 z4 z5 y0 y1 h H locs hP hD hS ls hl
    unfold m_D_pairsFrom_69 at h
    refine lv_land hx hb d_D_pairsFrom_69 ?_
    refine lv_lstore_n (lv' := [(2, .long (y1 &&& y0)), (0, .ref h_o), (4, .int z4), (5, .int z5)]) hx hb d_D_pairsFrom_70 rfl hl (by decide) rfl (fun ls hl => ?_)
    refine lv_iload hx hb d_D_pairsFrom_71 (lv_at hl 2 rfl) ?_
    have hPc := hP.sub (ws' := []) [] rfl
    have hDc := hD.sub (ws' := []) [] (by decide) rfl
    have hKc := hK.sub (tys' := []) [] rfl
    have hFc := va_free (wc := []) hD hS hA [] rfl
    obtain ⟨v_73, hc_73, h⟩ := of_bind h
    refine va_calli (va_runSN (As := [.int z4]) (rest := []) ⟨hx, hb, hml, hown, hts⟩ (c_H_withoutLeastCode l dC dI H.size z4 v_73.1 v_73.2 hc_73) ⟨va_cnB 1 hts (gI cod_H_withoutLeastCode) rfl rfl rfl hC.nst_D_48 (hts _ ini_H) (by decide +kernel) ⟨Nat.le_of_ble_eq_true rfl, Nat.le_of_ble_eq_true rfl⟩, hts _ sta_H_withoutLeastCode, trivial⟩ ⟨fun a U g mk q => by obtain ⟨q0, q1, qP, qK, qD⟩ := q; exact ⟨q0, q1, qP, va_K.moved (u := U) (U := U.calling g mk a) (Vm.Alike.refl U.vm) qK, qD⟩, fun U hU hW => ⟨rfl, by rw [hU], by rw [hU]; exact hPc, va_K.moved hW.alike hKc, hDc.weaken (fun _ _ _ _ => trivial)⟩⟩ rfl rfl hl.1 rfl (lv_room (Nat.le_of_ble_eq_true rfl)) d_D_pairsFrom_73 ⟨Nat.le_of_ble_eq_true rfl, Nat.le_of_ble_eq_true rfl⟩) hS (fun q _ h9 => hFc q h9) hFc (fun r_73 u t H1 locs ht hvm hw hB hz1 hk1 hS => ?_)
    obtain ⟨rfl, rfl⟩ := hw
    obtain ⟨hP1, hK1, hD1⟩ := hB
    rw [ht] at hP1
    obtain ⟨hP, hD⟩ := va_join (wr := [(h_o, .inr (0, [.ref h_factChoices, .ref h_givenInRound, .int v_givenPairs, .int v_roundCount])), (h_factChoices, .inl (k_factChoices, 18, .inr (.inl v_factChoices)))]) (w1 := []) hP hD [] [0, 1] rfl rfl (by decide) (by decide) hk1 hFc hP1 hD1
    have hP := hP.sub (ws' := [(h_o, .inr (0, [.ref h_factChoices, .ref h_givenInRound, .int v_givenPairs, .int v_roundCount])), (h_factChoices, .inl (k_factChoices, 18, .inr (.inl v_factChoices)))]) [0, 1] rfl
    have hD := hD.sub (ws' := [(h_o, .inr (0, [.ref h_factChoices, .ref h_givenInRound, .int v_givenPairs, .int v_roundCount])), (h_factChoices, .inl (k_factChoices, 18, .inr (.inl v_factChoices)))]) [0, 1] (by decide) rfl
    generalize H1 = H at hP hS ⊢
    refine lv_istore (lv' := [(4, .int v_73.1), (2, .long (y1 &&& y0)), (0, .ref h_o), (5, .int z5)]) hx hb d_D_pairsFrom_76 hl (by decide) rfl (fun ls hl => ?_)
    refine lv_iinc (v := z5 + (nI 1)) (lv' := [(5, .int (z5 + (nI 1))), (4, .int v_73.1), (2, .long (y1 &&& y0)), (0, .ref h_o)]) hx hb d_D_pairsFrom_78 hl (k := 3) rfl rfl (by decide) rfl (fun ls hl => ?_)
    refine lv_goto (tgt := 16) hx hb d_D_pairsFrom_81 (by decide) ?_
    exact hk_16 (y1 &&& y0) v_73.1 (z5 + (nI 1)) h _ _ hP hD hS ls (lv_sub hl [3, 2, 1, 0] rfl)
  have J_16 : ∀ (n : Nat) (z2 : Int64) (z4 : Int32) (z5 : Int32), m_D_pairsFrom_16 v_givenPairs v_factChoices n z2 z4 z5 = some (r0, u0) → ∀ (H : Heap) (locs : List Loc), va_P (dC, dI) classes [(h_o, .inr (0, [.ref h_factChoices, .ref h_givenInRound, .int v_givenPairs, .int v_roundCount])), (h_factChoices, .inl (k_factChoices, 18, .inr (.inl v_factChoices)))] H → va_D A [(h_o, .inr (0, [.ref h_factChoices, .ref h_givenInRound, .int v_givenPairs, .int v_roundCount])), (h_factChoices, .inl (k_factChoices, 18, .inr (.inl v_factChoices)))] → va_S A s.heap H locs → ∀ (ls : Array Slot), lv_has ls 7 [(0, .ref h_o), (2, .long z2), (4, .int z4), (5, .int z5)] → W p l e (headSpec w_D_pairsFrom ({ frames := 2, cells := 0, slots := 0, locals := 40 } : Room)).room s m ([.ref h_o, .int x1] : List Value).toArray below meth c H locs 0 0 Q (F0 m 16 ls []) := by
    intro n
    induction n with
    | zero => intro z2 z4 z5 h; exact absurd h (by unfold m_D_pairsFrom_16; exact fun h9 => nomatch h9)
    | succ n ih =>
      intro z2 z4 z5 h H locs hP hD hS ls hl
      unfold m_D_pairsFrom_16 at h
      refine lv_iload hx hb d_D_pairsFrom_16 (lv_at hl 3 rfl) ?_
      refine lv_iconst (v := (nI 3)) hx hb d_D_pairsFrom_18 (by decide) ?_
      refine lv_icmp_ge (tgt := 84) hx hb d_D_pairsFrom_19 (by decide) (fun c_19 => ?_) (fun c_19 => ?_)
      · have h := of_pos h c_19
        exact J_84 z2 h _ _ hP hD hS ls (lv_sub hl [1] rfl)
      · have h := of_neg h c_19
        refine lv_iload hx hb d_D_pairsFrom_22 (lv_at hl 2 rfl) ?_
        refine lv_if_eq (tgt := 84) hx hb d_D_pairsFrom_24 (by decide) (fun c_24 => ?_) (fun c_24 => ?_)
        · have h := of_pos h c_24
          exact J_84 z2 h _ _ hP hD hS ls (lv_sub hl [1] rfl)
        · have h := of_neg h c_24
          refine lv_iload hx hb d_D_pairsFrom_27 (lv_at hl 2 rfl) ?_
          have hPc := hP.sub (ws' := []) [] rfl
          have hDc := hD.sub (ws' := []) [] (by decide) rfl
          have hKc := hK.sub (tys' := []) [] rfl
          have hFc := va_free (wc := []) hD hS hA [] rfl
          obtain ⟨v_29, hc_29, h⟩ := of_bind h
          refine va_calli (va_runSN (As := [.int z4]) (rest := []) ⟨hx, hb, hml, hown, hts⟩ (c_H_leastCode l dC dI H.size z4 v_29.1 v_29.2 hc_29) ⟨va_cnB 1 hts (gI cod_H_leastCode) rfl rfl rfl hC.nst_D_45 (hts _ ini_H) (by decide +kernel) ⟨Nat.le_of_ble_eq_true rfl, Nat.le_of_ble_eq_true rfl⟩, hts _ sta_H_leastCode, trivial⟩ ⟨fun a U g mk q => by obtain ⟨q0, q1, qP, qK, qD⟩ := q; exact ⟨q0, q1, qP, va_K.moved (u := U) (U := U.calling g mk a) (Vm.Alike.refl U.vm) qK, qD⟩, fun U hU hW => ⟨rfl, by rw [hU], by rw [hU]; exact hPc, va_K.moved hW.alike hKc, hDc.weaken (fun _ _ _ _ => trivial)⟩⟩ rfl rfl hl.1 rfl (lv_room (Nat.le_of_ble_eq_true rfl)) d_D_pairsFrom_29 ⟨Nat.le_of_ble_eq_true rfl, Nat.le_of_ble_eq_true rfl⟩) hS (fun q _ h9 => hFc q h9) hFc (fun r_29 u t H1 locs ht hvm hw hB hz1 hk1 hS => ?_)
          obtain ⟨rfl, rfl⟩ := hw
          obtain ⟨hP1, hK1, hD1⟩ := hB
          rw [ht] at hP1
          obtain ⟨hP, hD⟩ := va_join (wr := [(h_o, .inr (0, [.ref h_factChoices, .ref h_givenInRound, .int v_givenPairs, .int v_roundCount])), (h_factChoices, .inl (k_factChoices, 18, .inr (.inl v_factChoices)))]) (w1 := []) hP hD [] [0, 1] rfl rfl (by decide) (by decide) hk1 hFc hP1 hD1
          have hP := hP.sub (ws' := [(h_o, .inr (0, [.ref h_factChoices, .ref h_givenInRound, .int v_givenPairs, .int v_roundCount])), (h_factChoices, .inl (k_factChoices, 18, .inr (.inl v_factChoices)))]) [0, 1] rfl
          have hD := hD.sub (ws' := [(h_o, .inr (0, [.ref h_factChoices, .ref h_givenInRound, .int v_givenPairs, .int v_roundCount])), (h_factChoices, .inl (k_factChoices, 18, .inr (.inl v_factChoices)))]) [0, 1] (by decide) rfl
          generalize H1 = H at hP hS ⊢
          refine lv_istore (lv' := [(6, .int v_29.1), (0, .ref h_o), (2, .long z2), (4, .int z4), (5, .int z5)]) hx hb d_D_pairsFrom_32 hl (by decide) rfl (fun ls hl => ?_)
          refine lv_lload_n hx hb d_D_pairsFrom_34 rfl (lv_at hl 2 rfl) ?_
          refine lv_iload hx hb d_D_pairsFrom_35 (lv_at hl 0 rfl) ?_
          refine lv_bipush (v := (nI 18)) hx hb d_D_pairsFrom_37 (by decide) ?_
          refine lv_icmp_ge (tgt := 52) hx hb d_D_pairsFrom_39 (by decide) (fun c_39 => ?_) (fun c_39 => ?_)
          · have h := of_pos h c_39
            refine lv_aload_n hx hb d_D_pairsFrom_52 rfl (lv_at hl 1 rfl) ?_
            refine va_get (D := (dC, dI)) (ci := 0) (v := .int v_givenPairs) (C := R_D) (T := F_D) (N := 4) hx hb hts lay_D hown hK hP 0 rfl rfl 2 (by decide) (hts _ flk_D_19) (fun _ h9 => h9) rfl d_D_pairsFrom_53 ?_
            refine lv_iload hx hb d_D_pairsFrom_56 (lv_at hl 0 rfl) ?_
            have hPc := hP.sub (ws' := []) [] rfl
            have hDc := hD.sub (ws' := []) [] (by decide) rfl
            have hKc := hK.sub (tys' := []) [] rfl
            have hFc := va_free (wc := []) hD hS hA [] rfl
            obtain ⟨v_58, hc_58, h⟩ := of_bind h
            refine va_calli (va_runSN (As := [.int v_29.1]) (rest := [.int v_givenPairs, .long z2]) ⟨hx, hb, hml, hown, hts⟩ (c_H_firstVariableOf l dC dI H.size v_29.1 v_58.1 v_58.2 hc_58) ⟨va_cnB 1 hts (gI cod_H_firstVariableOf) rfl rfl rfl hC.nst_D_30 (hts _ ini_H) (by decide +kernel) ⟨Nat.le_of_ble_eq_true rfl, Nat.le_of_ble_eq_true rfl⟩, hts _ sta_H_firstVariableOf, trivial⟩ ⟨fun a U g mk q => by obtain ⟨q0, q1, qP, qK, qD⟩ := q; exact ⟨q0, q1, qP, va_K.moved (u := U) (U := U.calling g mk a) (Vm.Alike.refl U.vm) qK, qD⟩, fun U hU hW => ⟨rfl, by rw [hU], by rw [hU]; exact hPc, va_K.moved hW.alike hKc, hDc.weaken (fun _ _ _ _ => trivial)⟩⟩ rfl rfl hl.1 rfl (lv_room (Nat.le_of_ble_eq_true rfl)) d_D_pairsFrom_58 ⟨Nat.le_of_ble_eq_true rfl, Nat.le_of_ble_eq_true rfl⟩) hS (fun q _ h9 => hFc q h9) hFc (fun r_58 u t H1 locs ht hvm hw hB hz1 hk1 hS => ?_)
            obtain ⟨rfl, rfl⟩ := hw
            obtain ⟨hP1, hK1, hD1⟩ := hB
            rw [ht] at hP1
            obtain ⟨hP, hD⟩ := va_join (wr := [(h_o, .inr (0, [.ref h_factChoices, .ref h_givenInRound, .int v_givenPairs, .int v_roundCount])), (h_factChoices, .inl (k_factChoices, 18, .inr (.inl v_factChoices)))]) (w1 := []) hP hD [] [0, 1] rfl rfl (by decide) (by decide) hk1 hFc hP1 hD1
            have hP := hP.sub (ws' := [(h_o, .inr (0, [.ref h_factChoices, .ref h_givenInRound, .int v_givenPairs, .int v_roundCount])), (h_factChoices, .inl (k_factChoices, 18, .inr (.inl v_factChoices)))]) [0, 1] rfl
            have hD := hD.sub (ws' := [(h_o, .inr (0, [.ref h_factChoices, .ref h_givenInRound, .int v_givenPairs, .int v_roundCount])), (h_factChoices, .inl (k_factChoices, 18, .inr (.inl v_factChoices)))]) [0, 1] (by decide) rfl
            generalize H1 = H at hP hS ⊢
            refine lv_iload hx hb d_D_pairsFrom_61 (lv_at hl 0 rfl) ?_
            have hPc := hP.sub (ws' := []) [] rfl
            have hDc := hD.sub (ws' := []) [] (by decide) rfl
            have hKc := hK.sub (tys' := []) [] rfl
            have hFc := va_free (wc := []) hD hS hA [] rfl
            obtain ⟨v_63, hc_63, h⟩ := of_bind h
            refine va_calli (va_runSN (As := [.int v_29.1]) (rest := [.int v_58.1, .int v_givenPairs, .long z2]) ⟨hx, hb, hml, hown, hts⟩ (c_H_secondVariableOf l dC dI H.size v_29.1 v_63.1 v_63.2 hc_63) ⟨va_cnB 1 hts (gI cod_H_secondVariableOf) rfl rfl rfl hC.nst_D_33 (hts _ ini_H) (by decide +kernel) ⟨Nat.le_of_ble_eq_true rfl, Nat.le_of_ble_eq_true rfl⟩, hts _ sta_H_secondVariableOf, trivial⟩ ⟨fun a U g mk q => by obtain ⟨q0, q1, qP, qK, qD⟩ := q; exact ⟨q0, q1, qP, va_K.moved (u := U) (U := U.calling g mk a) (Vm.Alike.refl U.vm) qK, qD⟩, fun U hU hW => ⟨rfl, by rw [hU], by rw [hU]; exact hPc, va_K.moved hW.alike hKc, hDc.weaken (fun _ _ _ _ => trivial)⟩⟩ rfl rfl hl.1 rfl (lv_room (Nat.le_of_ble_eq_true rfl)) d_D_pairsFrom_63 ⟨Nat.le_of_ble_eq_true rfl, Nat.le_of_ble_eq_true rfl⟩) hS (fun q _ h9 => hFc q h9) hFc (fun r_63 u t H1 locs ht hvm hw hB hz1 hk1 hS => ?_)
            obtain ⟨rfl, rfl⟩ := hw
            obtain ⟨hP1, hK1, hD1⟩ := hB
            rw [ht] at hP1
            obtain ⟨hP, hD⟩ := va_join (wr := [(h_o, .inr (0, [.ref h_factChoices, .ref h_givenInRound, .int v_givenPairs, .int v_roundCount])), (h_factChoices, .inl (k_factChoices, 18, .inr (.inl v_factChoices)))]) (w1 := []) hP hD [] [0, 1] rfl rfl (by decide) (by decide) hk1 hFc hP1 hD1
            have hP := hP.sub (ws' := [(h_o, .inr (0, [.ref h_factChoices, .ref h_givenInRound, .int v_givenPairs, .int v_roundCount])), (h_factChoices, .inl (k_factChoices, 18, .inr (.inl v_factChoices)))]) [0, 1] rfl
            have hD := hD.sub (ws' := [(h_o, .inr (0, [.ref h_factChoices, .ref h_givenInRound, .int v_givenPairs, .int v_roundCount])), (h_factChoices, .inl (k_factChoices, 18, .inr (.inl v_factChoices)))]) [0, 1] (by decide) rfl
            generalize H1 = H at hP hS ⊢
            have hPc := hP.sub (ws' := []) [] rfl
            have hDc := hD.sub (ws' := []) [] (by decide) rfl
            have hKc := hK.sub (tys' := []) [] rfl
            have hFc := va_free (wc := []) hD hS hA [] rfl
            obtain ⟨v_66, hc_66, h⟩ := of_bind h
            refine va_calll (va_runS (As := [.int v_givenPairs, .int v_58.1, .int v_63.1]) (rest := [.long z2]) ⟨hx, hb, hml, hown, hts⟩ (c_D_choicesWhere l dC dI tb ak av H.size v_givenPairs v_58.1 v_63.1 v_66.1 v_66.2 hc_66) (va_cwS 3 hts (gS mlk_D_36 sta_D_choicesWhere ini_D cod_D_choicesWhere) rfl rfl rfl (by decide +kernel) ⟨Nat.le_of_ble_eq_true rfl, Nat.le_of_ble_eq_true rfl⟩) ⟨fun a U g mk q => by obtain ⟨q0, q1, qP, qK, qD, qC⟩ := q; exact ⟨q0, q1, qP, va_K.moved (u := U) (U := U.calling g mk a) (Vm.Alike.refl U.vm) qK, qD, kw_blind qC⟩, fun U hU hW => ⟨rfl, by rw [hU], by rw [hU]; exact hPc, va_K.moved hW.alike hKc, hDc.weaken (fun _ _ _ _ => trivial), kw_call hC hS hFc hU hW⟩⟩ rfl rfl hl.1 rfl (lv_room (Nat.le_of_ble_eq_true rfl)) d_D_pairsFrom_66 ⟨Nat.le_of_ble_eq_true rfl, Nat.le_of_ble_eq_true rfl⟩) hS (fun q _ h9 => hFc q h9) hFc (fun r_66 u t H1 locs ht hvm hw hB hz1 hk1 hS => ?_)
            obtain ⟨rfl, rfl⟩ := hw
            obtain ⟨hP1, hK1, hD1⟩ := hB
            rw [ht] at hP1
            obtain ⟨hP, hD⟩ := va_join (wr := [(h_o, .inr (0, [.ref h_factChoices, .ref h_givenInRound, .int v_givenPairs, .int v_roundCount])), (h_factChoices, .inl (k_factChoices, 18, .inr (.inl v_factChoices)))]) (w1 := []) hP hD [] [0, 1] rfl rfl (by decide) (by decide) hk1 hFc hP1 hD1
            have hP := hP.sub (ws' := [(h_o, .inr (0, [.ref h_factChoices, .ref h_givenInRound, .int v_givenPairs, .int v_roundCount])), (h_factChoices, .inl (k_factChoices, 18, .inr (.inl v_factChoices)))]) [0, 1] rfl
            have hD := hD.sub (ws' := [(h_o, .inr (0, [.ref h_factChoices, .ref h_givenInRound, .int v_givenPairs, .int v_roundCount])), (h_factChoices, .inl (k_factChoices, 18, .inr (.inl v_factChoices)))]) [0, 1] (by decide) rfl
            generalize H1 = H at hP hS ⊢
            exact J_69 (m_D_pairsFrom_16 v_givenPairs v_factChoices n) ih z4 z5 v_66.1 z2 h _ _ hP hD hS ls (lv_sub hl [1, 3, 4] rfl)
          · have h := of_neg h c_39
            refine lv_aload_n hx hb d_D_pairsFrom_42 rfl (lv_at hl 1 rfl) ?_
            refine va_get (D := (dC, dI)) (ci := 0) (v := .ref h_factChoices) (C := R_D) (T := F_D) (N := 4) hx hb hts lay_D hown hK hP 0 rfl rfl 0 (by decide) (hts _ flk_D_9) (fun _ h9 => h9) rfl d_D_pairsFrom_43 ?_
            refine lv_iload hx hb d_D_pairsFrom_46 (lv_at hl 0 rfl) ?_
            obtain ⟨g_48, h⟩ := of_guard h
            refine va_lald hx hb hK hP 1 0 rfl rfl (inR_in g_48) d_D_pairsFrom_48 ?_
            refine lv_goto (tgt := 69) hx hb d_D_pairsFrom_49 (by decide) ?_
            exact J_69 (m_D_pairsFrom_16 v_givenPairs v_factChoices n) ih z4 z5 (v_factChoices v_29.1.toNatClampNeg) z2 h _ _ hP hD hS ls (lv_sub hl [1, 3, 4] rfl)
  unfold m_D_pairsFrom at h
  refine lv_iload_n hx hb d_D_pairsFrom_0 rfl (lv_at hl 1 rfl) ?_
  refine lv_if_ne (tgt := 6) hx hb d_D_pairsFrom_1 (by decide) (fun c_1 => ?_) (fun c_1 => ?_)
  · have h := of_neg h c_1
    refine lv_ldc2 (v := (-1)) hx hb hown (hts _ col_D_43) d_D_pairsFrom_6 ?_
    refine lv_lstore_n (lv' := [(2, .long (-1 : Int64)), (0, .ref h_o), (1, .int x1)]) hx hb d_D_pairsFrom_9 rfl hl (by decide) rfl (fun ls hl => ?_)
    refine lv_iload_n hx hb d_D_pairsFrom_10 rfl (lv_at hl 2 rfl) ?_
    refine lv_istore (lv' := [(4, .int x1), (2, .long (-1 : Int64)), (0, .ref h_o), (1, .int x1)]) hx hb d_D_pairsFrom_11 hl (by decide) rfl (fun ls hl => ?_)
    refine lv_iconst (v := (nI 0)) hx hb d_D_pairsFrom_13 (by decide) ?_
    refine lv_istore (lv' := [(5, .int (nI 0)), (4, .int x1), (2, .long (-1 : Int64)), (0, .ref h_o), (1, .int x1)]) hx hb d_D_pairsFrom_14 hl (by decide) rfl (fun ls hl => ?_)
    exact J_16 40 (-1 : Int64) x1 (nI 0) h _ _ hP hD hS ls (lv_sub hl [3, 2, 1, 0] rfl)
  · have h := of_pos h c_1
    refine lv_iconst (v := (nI 0)) hx hb d_D_pairsFrom_4 (by decide) ?_
    rw [hQ]
    exact W.iret (v := (nI 0)) hx hb hr (fun t ht hW => ⟨⟨(nI 0), (), rfl, Prod.mk.inj (Option.some.inj h), by rw [ht]; exact hP, va_K.moved hW.alike hK, hD⟩, hS.F ht⟩) hS.2.2 d_D_pairsFrom_5
set_option maxHeartbeats 1000000 in
set_option maxRecDepth 100000 in
theorem c_D_roundOf (l : Launch) (dC : Nat → ClassId) (dI : Nat → Nat → Nat) (h_o h_factChoices h_givenInRound : Nat) (k_givenInRound : ClassId) (sz : Nat) (v_givenPairs : Int32) (v_roundCount : Int32) (v_givenInRound : Nat → Int32) (x1 : Int32) (r0 : Int32) (u0 : Unit) (h : m_D_roundOf v_roundCount v_givenInRound x1 = some (r0, u0)) : Met l y_D_roundOf w_D_roundOf ({ frames := 0, cells := 0, slots := 0, locals := 0 } : Room) (va_Pc [.ref h_o, .int x1] (fun U => U.heap.size = sz ∧ va_P (dC, dI) classes [(h_o, .inr (0, [.ref h_factChoices, .ref h_givenInRound, .int v_givenPairs, .int v_roundCount])), (h_givenInRound, .inl (k_givenInRound, 17, .inl v_givenInRound))] U.heap ∧ va_K (dC, dI) classes [(k_givenInRound, .int)] U ∧ va_D (fun _ => True) [(h_o, .inr (0, [.ref h_factChoices, .ref h_givenInRound, .int v_givenPairs, .int v_roundCount])), (h_givenInRound, .inl (k_givenInRound, 17, .inl v_givenInRound))])) (va_Qi (fun (r : Int32) (u : Unit) => r = r0 ∧ u = u0) (fun (u : Unit) (t : State) => va_P (dC, dI) classes [(h_o, .inr (0, [.ref h_factChoices, .ref h_givenInRound, .int v_givenPairs, .int v_roundCount])), (h_givenInRound, .inl (k_givenInRound, 17, .inl v_givenInRound))] t.heap ∧ va_K (dC, dI) classes [(k_givenInRound, .int)] t ∧ va_D (va_A [(h_o, .inr (0, [.ref h_factChoices, .ref h_givenInRound, .int v_givenPairs, .int v_roundCount])), (h_givenInRound, .inl (k_givenInRound, 17, .inl v_givenInRound))] sz) [(h_o, .inr (0, [.ref h_factChoices, .ref h_givenInRound, .int v_givenPairs, .int v_roundCount])), (h_givenInRound, .inl (k_givenInRound, 17, .inl v_givenInRound))]) (va_A [(h_o, .inr (0, [.ref h_factChoices, .ref h_givenInRound, .int v_givenPairs, .int v_roundCount])), (h_givenInRound, .inl (k_givenInRound, 17, .inl v_givenInRound))] sz)) 0 0 (va_A [(h_o, .inr (0, [.ref h_factChoices, .ref h_givenInRound, .int v_givenPairs, .int v_roundCount])), (h_givenInRound, .inl (k_givenInRound, 17, .inl v_givenInRound))] sz) := by
  refine Met.ofW (cc := b_D_roundOf) (maxL := 3) (ret := (some .int)) (by decide) rfl ?_
  intro p e s m args below meth c s₁ B hml hv
  obtain ⟨rfl, hsz, hP, hK, hD0⟩ := hv
  have hx := B.exec
  have hb := B.bytes
  have hr := B.returns
  have hts0 := atoms_spec (ws := w_D_roundOf) B.pre
  have hts : ∀ w ∈ lw_gd, w.before ([.ref h_o, .int x1] : List Value).toArray s = true := fun w h9 => hts0 w (List.mem_cons_of_mem _ h9)
  have hown : s.vm.findClass R_D = some m.cls := findClass_of_methodNamed B.named
  have hlocks := B.notSynchronized
  subst hsz
  have hD := hD0.self (sz := s.heap.size)
  generalize hAe : va_A [(h_o, .inr (0, [.ref h_factChoices, .ref h_givenInRound, .int v_givenPairs, .int v_roundCount])), (h_givenInRound, .inl (k_givenInRound, 17, .inl v_givenInRound))] s.heap.size = A at hD ⊢
  have hA : ∀ q : Nat, s.heap.size ≤ q → A q := fun q h9 => by rw [← hAe]; exact Or.inr h9
  obtain ⟨H, eH⟩ : ∃ H : Heap, H = s.heap := ⟨_, rfl⟩
  have hS : va_S A s.heap H [] := by rw [eH]; exact va_S.rf
  have hP : va_P (dC, dI) classes [(h_o, .inr (0, [.ref h_factChoices, .ref h_givenInRound, .int v_givenPairs, .int v_roundCount])), (h_givenInRound, .inl (k_givenInRound, 17, .inl v_givenInRound))] H := by rw [eH]; exact hP
  refine W_gen (fun Q hQ => ?_)
  refine W_heap eH ?_
  clear eH
  have hl := lv_entry ([.ref h_o, .int x1]) (n := 3) (Nat.le_of_ble_eq_true rfl)
  rw [lg_entry_eq]
  generalize (lg_sl ([.ref h_o, .int x1]) ++ List.replicate (3 - (lg_sl ([.ref h_o, .int x1])).length) Slot.unset).toArray = ls at hl ⊢
  have hl : lv_has ls 3 [(0, .ref h_o), (1, .int x1)] := hl
  have J_2 : ∀ (n : Nat) (z1 : Int32) (z2 : Int32), m_D_roundOf_2 v_roundCount v_givenInRound n z1 z2 = some (r0, u0) → ∀ (H : Heap) (locs : List Loc), va_P (dC, dI) classes [(h_o, .inr (0, [.ref h_factChoices, .ref h_givenInRound, .int v_givenPairs, .int v_roundCount])), (h_givenInRound, .inl (k_givenInRound, 17, .inl v_givenInRound))] H → va_D A [(h_o, .inr (0, [.ref h_factChoices, .ref h_givenInRound, .int v_givenPairs, .int v_roundCount])), (h_givenInRound, .inl (k_givenInRound, 17, .inl v_givenInRound))] → va_S A s.heap H locs → ∀ (ls : Array Slot), lv_has ls 3 [(0, .ref h_o), (1, .int z1), (2, .int z2)] → W p l e (headSpec w_D_roundOf ({ frames := 0, cells := 0, slots := 0, locals := 0 } : Room)).room s m ([.ref h_o, .int x1] : List Value).toArray below meth c H locs 0 0 Q (F0 m 2 ls []) := by
    intro n
    induction n with
    | zero => intro z1 z2 h; exact absurd h (by unfold m_D_roundOf_2; exact fun h9 => nomatch h9)
    | succ n ih =>
      intro z1 z2 h H locs hP hD hS ls hl
      unfold m_D_roundOf_2 at h
      refine lv_iload_n hx hb d_D_roundOf_2 rfl (lv_at hl 2 rfl) ?_
      refine lv_aload_n hx hb d_D_roundOf_3 rfl (lv_at hl 0 rfl) ?_
      refine va_get (D := (dC, dI)) (ci := 0) (v := .int v_roundCount) (C := R_D) (T := F_D) (N := 4) hx hb hts lay_D hown hK hP 0 rfl rfl 3 (by decide) (hts _ flk_D_23) (fun _ h9 => h9) rfl d_D_roundOf_4 ?_
      refine lv_icmp_gt (tgt := 29) hx hb d_D_roundOf_7 (by decide) (fun c_7 => ?_) (fun c_7 => ?_)
      · have h := of_pos h c_7
        refine lv_iconst (v := (nI 0)) hx hb d_D_roundOf_29 (by decide) ?_
        rw [hQ]
        exact W.iret (v := (nI 0)) hx hb hr (fun t ht hW => ⟨⟨(nI 0), (), rfl, Prod.mk.inj (Option.some.inj h), by rw [ht]; exact hP, va_K.moved hW.alike hK, hD⟩, hS.F ht⟩) hS.2.2 d_D_roundOf_30
      · have h := of_neg h c_7
        refine lv_aload_n hx hb d_D_roundOf_10 rfl (lv_at hl 0 rfl) ?_
        refine va_get (D := (dC, dI)) (ci := 0) (v := .ref h_givenInRound) (C := R_D) (T := F_D) (N := 4) hx hb hts lay_D hown hK hP 0 rfl rfl 1 (by decide) (hts _ flk_D_15) (fun _ h9 => h9) rfl d_D_roundOf_11 ?_
        refine lv_iload_n hx hb d_D_roundOf_14 rfl (lv_at hl 2 rfl) ?_
        obtain ⟨g_15, h⟩ := of_guard h
        refine va_iald hx hb hK hP 1 0 rfl rfl (inR_in g_15) d_D_roundOf_15 ?_
        refine lv_iload_n hx hb d_D_roundOf_16 rfl (lv_at hl 1 rfl) ?_
        refine lv_iand hx hb d_D_roundOf_17 ?_
        refine lv_if_eq (tgt := 23) hx hb d_D_roundOf_18 (by decide) (fun c_18 => ?_) (fun c_18 => ?_)
        · have h := of_pos h c_18
          refine lv_iinc (v := z2 + (nI 1)) (lv' := [(2, .int (z2 + (nI 1))), (0, .ref h_o), (1, .int z1)]) hx hb d_D_roundOf_23 hl (k := 2) rfl rfl (by decide) rfl (fun ls hl => ?_)
          refine lv_goto (tgt := 2) hx hb d_D_roundOf_26 (by decide) ?_
          exact ih z1 (z2 + (nI 1)) h _ _ hP hD hS ls (lv_sub hl [1, 2, 0] rfl)
        · have h := of_neg h c_18
          refine lv_iload_n hx hb d_D_roundOf_21 rfl (lv_at hl 2 rfl) ?_
          rw [hQ]
          exact W.iret (v := z2) hx hb hr (fun t ht hW => ⟨⟨z2, (), rfl, Prod.mk.inj (Option.some.inj h), by rw [ht]; exact hP, va_K.moved hW.alike hK, hD⟩, hS.F ht⟩) hS.2.2 d_D_roundOf_22
  unfold m_D_roundOf at h
  refine lv_iconst (v := (nI 1)) hx hb d_D_roundOf_0 (by decide) ?_
  refine lv_istore_n (lv' := [(2, .int (nI 1)), (0, .ref h_o), (1, .int x1)]) hx hb d_D_roundOf_1 rfl hl (by decide) rfl (fun ls hl => ?_)
  exact J_2 40 x1 (nI 1) h _ _ hP hD hS ls (lv_sub hl [1, 2, 0] rfl)
set_option maxHeartbeats 1000000 in
set_option maxRecDepth 100000 in
theorem c_D_run (l : Launch) (dC : Nat → ClassId) (dI : Nat → Nat → Nat) (h_o h_factChoices h_givenInRound : Nat) (k_factChoices k_givenInRound : ClassId) (tb : Nat) (ak av : Nat → Nat) (sz : Nat) (v_givenPairs : Int32) (v_roundCount : Int32) (v_factChoices : Nat → Int64) (v_givenInRound : Nat → Int32) (x1 : Int32) (x2 : Int32) (u0 : Int32 × Int32 × (Nat → Int32)) (h : m_D_run v_givenPairs v_roundCount v_factChoices v_givenInRound x1 x2 = some u0) : Met l y_D_run w_D_run ({ frames := 3, cells := 0, slots := 0, locals := 66 } : Room) (va_Pc [.ref h_o, .int x1, .int x2] (fun U => U.heap.size = sz ∧ va_P (dC, dI) classes [(h_o, .inr (0, [.ref h_factChoices, .ref h_givenInRound, .int v_givenPairs, .int v_roundCount])), (h_factChoices, .inl (k_factChoices, 18, .inr (.inl v_factChoices))), (h_givenInRound, .inl (k_givenInRound, 17, .inl v_givenInRound))] U.heap ∧ va_K (dC, dI) classes [(k_factChoices, .long), (k_givenInRound, .int)] U ∧ va_D (fun _ => True) [(h_o, .inr (0, [.ref h_factChoices, .ref h_givenInRound, .int v_givenPairs, .int v_roundCount])), (h_factChoices, .inl (k_factChoices, 18, .inr (.inl v_factChoices))), (h_givenInRound, .inl (k_givenInRound, 17, .inl v_givenInRound))] ∧ kw tb ak av (va_A [(h_o, .inr (0, [.ref h_factChoices, .ref h_givenInRound, .int v_givenPairs, .int v_roundCount])), (h_factChoices, .inl (k_factChoices, 18, .inr (.inl v_factChoices))), (h_givenInRound, .inl (k_givenInRound, 17, .inl v_givenInRound))] sz) U)) (va_Qv (fun (u : Int32 × Int32 × (Nat → Int32)) => u = u0) (fun (u : Int32 × Int32 × (Nat → Int32)) (t : State) => va_P (dC, dI) classes [(h_o, .inr (0, [.ref h_factChoices, .ref h_givenInRound, .int u.1, .int u.2.1])), (h_factChoices, .inl (k_factChoices, 18, .inr (.inl v_factChoices))), (h_givenInRound, .inl (k_givenInRound, 17, .inl u.2.2))] t.heap ∧ va_K (dC, dI) classes [(k_factChoices, .long), (k_givenInRound, .int)] t ∧ va_D (va_A [(h_o, .inr (0, [.ref h_factChoices, .ref h_givenInRound, .int v_givenPairs, .int v_roundCount])), (h_factChoices, .inl (k_factChoices, 18, .inr (.inl v_factChoices))), (h_givenInRound, .inl (k_givenInRound, 17, .inl v_givenInRound))] sz) [(h_o, .inr (0, [.ref h_factChoices, .ref h_givenInRound, .int u.1, .int u.2.1])), (h_factChoices, .inl (k_factChoices, 18, .inr (.inl v_factChoices))), (h_givenInRound, .inl (k_givenInRound, 17, .inl u.2.2))]) (va_A [(h_o, .inr (0, [.ref h_factChoices, .ref h_givenInRound, .int v_givenPairs, .int v_roundCount])), (h_factChoices, .inl (k_factChoices, 18, .inr (.inl v_factChoices))), (h_givenInRound, .inl (k_givenInRound, 17, .inl v_givenInRound))] sz)) 0 0 (va_A [(h_o, .inr (0, [.ref h_factChoices, .ref h_givenInRound, .int v_givenPairs, .int v_roundCount])), (h_factChoices, .inl (k_factChoices, 18, .inr (.inl v_factChoices))), (h_givenInRound, .inl (k_givenInRound, 17, .inl v_givenInRound))] sz) := by
  refine Met.ofW (cc := b_D_run) (maxL := 5) (ret := none) (by decide) rfl ?_
  intro p e s m args below meth c s₁ B hml hv
  obtain ⟨rfl, hsz, hP, hK, hD0, hC⟩ := hv
  have hx := B.exec
  have hb := B.bytes
  have hr := B.returns
  have hts0 := atoms_spec (ws := w_D_run) B.pre
  have hts : ∀ w ∈ lw_gd, w.before ([.ref h_o, .int x1, .int x2] : List Value).toArray s = true := fun w h9 => hts0 w (List.mem_cons_of_mem _ h9)
  have hown : s.vm.findClass R_D = some m.cls := findClass_of_methodNamed B.named
  have hlocks := B.notSynchronized
  subst hsz
  have hD := hD0.self (sz := s.heap.size)
  generalize hAe : va_A [(h_o, .inr (0, [.ref h_factChoices, .ref h_givenInRound, .int v_givenPairs, .int v_roundCount])), (h_factChoices, .inl (k_factChoices, 18, .inr (.inl v_factChoices))), (h_givenInRound, .inl (k_givenInRound, 17, .inl v_givenInRound))] s.heap.size = A at hD hC ⊢
  have hA : ∀ q : Nat, s.heap.size ≤ q → A q := fun q h9 => by rw [← hAe]; exact Or.inr h9
  obtain ⟨H, eH⟩ : ∃ H : Heap, H = s.heap := ⟨_, rfl⟩
  have hS : va_S A s.heap H [] := by rw [eH]; exact va_S.rf
  have hP : va_P (dC, dI) classes [(h_o, .inr (0, [.ref h_factChoices, .ref h_givenInRound, .int v_givenPairs, .int v_roundCount])), (h_factChoices, .inl (k_factChoices, 18, .inr (.inl v_factChoices))), (h_givenInRound, .inl (k_givenInRound, 17, .inl v_givenInRound))] H := by rw [eH]; exact hP
  refine W_gen (fun Q hQ => ?_)
  refine W_heap eH ?_
  clear eH
  have hl := lv_entry ([.ref h_o, .int x1, .int x2]) (n := 5) (Nat.le_of_ble_eq_true rfl)
  rw [lg_entry_eq]
  generalize (lg_sl ([.ref h_o, .int x1, .int x2]) ++ List.replicate (5 - (lg_sl ([.ref h_o, .int x1, .int x2])).length) Slot.unset).toArray = ls at hl ⊢
  have hl : lv_has ls 5 [(0, .ref h_o), (1, .int x1), (2, .int x2)] := hl
  have J_12 : ∀ (n : Nat) (v_givenPairs : Int32) (v_roundCount : Int32) (v_givenInRound : Nat → Int32) (z1 : Int32) (z2 : Int32) (z3 : Int32), m_D_run_12 v_factChoices n v_givenPairs v_roundCount v_givenInRound z1 z2 z3 = some u0 → ∀ (H : Heap) (locs : List Loc), va_P (dC, dI) classes [(h_o, .inr (0, [.ref h_factChoices, .ref h_givenInRound, .int v_givenPairs, .int v_roundCount])), (h_factChoices, .inl (k_factChoices, 18, .inr (.inl v_factChoices))), (h_givenInRound, .inl (k_givenInRound, 17, .inl v_givenInRound))] H → va_D A [(h_o, .inr (0, [.ref h_factChoices, .ref h_givenInRound, .int v_givenPairs, .int v_roundCount])), (h_factChoices, .inl (k_factChoices, 18, .inr (.inl v_factChoices))), (h_givenInRound, .inl (k_givenInRound, 17, .inl v_givenInRound))] → va_S A s.heap H locs → ∀ (ls : Array Slot), lv_has ls 5 [(0, .ref h_o), (1, .int z1), (2, .int z2), (3, .int z3)] → W p l e (headSpec w_D_run ({ frames := 3, cells := 0, slots := 0, locals := 66 } : Room)).room s m ([.ref h_o, .int x1, .int x2] : List Value).toArray below meth c H locs 0 0 Q (F0 m 12 ls []) := by
    intro n
    induction n with
    | zero => intro v_givenPairs v_roundCount v_givenInRound z1 z2 z3 h; exact absurd h (by unfold m_D_run_12; exact fun h9 => nomatch h9)
    | succ n ih =>
      intro v_givenPairs v_roundCount v_givenInRound z1 z2 z3 h H locs hP hD hS ls hl
      unfold m_D_run_12 at h
      refine lv_iload_n hx hb d_D_run_12 rfl (lv_at hl 3 rfl) ?_
      refine lv_bipush (v := (nI 16)) hx hb d_D_run_13 (by decide) ?_
      refine lv_icmp_gt (tgt := 74) hx hb d_D_run_15 (by decide) (fun c_15 => ?_) (fun c_15 => ?_)
      · have h := of_pos h c_15
        rw [hQ]
        exact W.vret hx hb hr (fun t ht hW => ⟨⟨(v_givenPairs, v_roundCount, v_givenInRound), rfl, Option.some.inj h, by rw [ht]; exact hP, va_K.moved hW.alike hK, hD⟩, hS.F ht⟩) hS.2.2 d_D_run_74
      · have h := of_neg h c_15
        refine lv_aload_n hx hb d_D_run_18 rfl (lv_at hl 0 rfl) ?_
        refine lv_iload_n hx hb d_D_run_19 rfl (lv_at hl 1 rfl) ?_
        have hPc := hP.sub (ws' := [(h_o, .inr (0, [.ref h_factChoices, .ref h_givenInRound, .int v_givenPairs, .int v_roundCount])), (h_factChoices, .inl (k_factChoices, 18, .inr (.inl v_factChoices)))]) [0, 1] rfl
        have hDc := hD.sub (ws' := [(h_o, .inr (0, [.ref h_factChoices, .ref h_givenInRound, .int v_givenPairs, .int v_roundCount])), (h_factChoices, .inl (k_factChoices, 18, .inr (.inl v_factChoices)))]) [0, 1] (by decide) rfl
        have hKc := hK.sub (tys' := [(k_factChoices, .long)]) [0] rfl
        have hFc := va_free (wc := [(h_o, .inr (0, [.ref h_factChoices, .ref h_givenInRound, .int v_givenPairs, .int v_roundCount])), (h_factChoices, .inl (k_factChoices, 18, .inr (.inl v_factChoices)))]) hD hS hA [0, 1] rfl
        obtain ⟨v_20, hc_20, h⟩ := of_bind h
        refine va_calli (va_runV (As := [.int z1]) (rest := []) ⟨hx, hb, hml, hown, hts⟩ (c_D_pairsFrom l dC dI h_o h_factChoices h_givenInRound k_factChoices tb ak av H.size v_givenPairs v_roundCount v_factChoices z1 v_20.1 v_20.2 hc_20) (cwV 1 hts (gV mlk_D_40 ins_D_pairsFrom sel_D_pairsFrom ini_D cod_D_pairsFrom) rfl rfl rfl (by decide +kernel) ⟨Nat.le_of_ble_eq_true rfl, Nat.le_of_ble_eq_true rfl⟩) ⟨fun a U g mk q => by obtain ⟨q0, q1, qP, qK, qD, qC⟩ := q; exact ⟨q0, q1, qP, va_K.moved (u := U) (U := U.calling g mk a) (Vm.Alike.refl U.vm) qK, qD, kw_blind qC⟩, va_recv hKc hPc (ci := 0) (q0 := 0) rfl rfl, fun U hU hW => ⟨rfl, by rw [hU], by rw [hU]; exact hPc, va_K.moved hW.alike hKc, hDc.weaken (fun _ _ _ _ => trivial), kw_call hC hS hFc hU hW⟩⟩ rfl rfl hl.1 rfl (lv_room (Nat.le_of_ble_eq_true rfl)) d_D_run_20 ⟨Nat.le_of_ble_eq_true rfl, Nat.le_of_ble_eq_true rfl⟩) hS (fun q _ h9 => hFc q h9) hFc (fun r_20 u t H1 locs ht hvm hw hB hz1 hk1 hS => ?_)
        obtain ⟨rfl, rfl⟩ := hw
        obtain ⟨hP1, hK1, hD1⟩ := hB
        rw [ht] at hP1
        obtain ⟨hP, hD⟩ := va_join (wr := [(h_givenInRound, .inl (k_givenInRound, 17, .inl v_givenInRound))]) (w1 := [(h_o, .inr (0, [.ref h_factChoices, .ref h_givenInRound, .int v_givenPairs, .int v_roundCount])), (h_factChoices, .inl (k_factChoices, 18, .inr (.inl v_factChoices)))]) hP hD [0, 1] [2] rfl rfl (by decide) (by decide) hk1 hFc hP1 hD1
        have hP := hP.sub (ws' := [(h_o, .inr (0, [.ref h_factChoices, .ref h_givenInRound, .int v_givenPairs, .int v_roundCount])), (h_factChoices, .inl (k_factChoices, 18, .inr (.inl v_factChoices))), (h_givenInRound, .inl (k_givenInRound, 17, .inl v_givenInRound))]) [1, 2, 0] rfl
        have hD := hD.sub (ws' := [(h_o, .inr (0, [.ref h_factChoices, .ref h_givenInRound, .int v_givenPairs, .int v_roundCount])), (h_factChoices, .inl (k_factChoices, 18, .inr (.inl v_factChoices))), (h_givenInRound, .inl (k_givenInRound, 17, .inl v_givenInRound))]) [1, 2, 0] (by decide) rfl
        generalize H1 = H at hP hS ⊢
        refine lv_aload_n hx hb d_D_run_23 rfl (lv_at hl 0 rfl) ?_
        refine lv_iload_n hx hb d_D_run_24 rfl (lv_at hl 2 rfl) ?_
        have hPc := hP.sub (ws' := [(h_o, .inr (0, [.ref h_factChoices, .ref h_givenInRound, .int v_givenPairs, .int v_roundCount])), (h_factChoices, .inl (k_factChoices, 18, .inr (.inl v_factChoices)))]) [0, 1] rfl
        have hDc := hD.sub (ws' := [(h_o, .inr (0, [.ref h_factChoices, .ref h_givenInRound, .int v_givenPairs, .int v_roundCount])), (h_factChoices, .inl (k_factChoices, 18, .inr (.inl v_factChoices)))]) [0, 1] (by decide) rfl
        have hKc := hK.sub (tys' := [(k_factChoices, .long)]) [0] rfl
        have hFc := va_free (wc := [(h_o, .inr (0, [.ref h_factChoices, .ref h_givenInRound, .int v_givenPairs, .int v_roundCount])), (h_factChoices, .inl (k_factChoices, 18, .inr (.inl v_factChoices)))]) hD hS hA [0, 1] rfl
        obtain ⟨v_25, hc_25, h⟩ := of_bind h
        refine va_calli (va_runV (As := [.int z2]) (rest := [.int v_20.1]) ⟨hx, hb, hml, hown, hts⟩ (c_D_pairsFrom l dC dI h_o h_factChoices h_givenInRound k_factChoices tb ak av H.size v_givenPairs v_roundCount v_factChoices z2 v_25.1 v_25.2 hc_25) (cwV 1 hts (gV mlk_D_40 ins_D_pairsFrom sel_D_pairsFrom ini_D cod_D_pairsFrom) rfl rfl rfl (by decide +kernel) ⟨Nat.le_of_ble_eq_true rfl, Nat.le_of_ble_eq_true rfl⟩) ⟨fun a U g mk q => by obtain ⟨q0, q1, qP, qK, qD, qC⟩ := q; exact ⟨q0, q1, qP, va_K.moved (u := U) (U := U.calling g mk a) (Vm.Alike.refl U.vm) qK, qD, kw_blind qC⟩, va_recv hKc hPc (ci := 0) (q0 := 0) rfl rfl, fun U hU hW => ⟨rfl, by rw [hU], by rw [hU]; exact hPc, va_K.moved hW.alike hKc, hDc.weaken (fun _ _ _ _ => trivial), kw_call hC hS hFc hU hW⟩⟩ rfl rfl hl.1 rfl (lv_room (Nat.le_of_ble_eq_true rfl)) d_D_run_25 ⟨Nat.le_of_ble_eq_true rfl, Nat.le_of_ble_eq_true rfl⟩) hS (fun q _ h9 => hFc q h9) hFc (fun r_25 u t H1 locs ht hvm hw hB hz1 hk1 hS => ?_)
        obtain ⟨rfl, rfl⟩ := hw
        obtain ⟨hP1, hK1, hD1⟩ := hB
        rw [ht] at hP1
        obtain ⟨hP, hD⟩ := va_join (wr := [(h_givenInRound, .inl (k_givenInRound, 17, .inl v_givenInRound))]) (w1 := [(h_o, .inr (0, [.ref h_factChoices, .ref h_givenInRound, .int v_givenPairs, .int v_roundCount])), (h_factChoices, .inl (k_factChoices, 18, .inr (.inl v_factChoices)))]) hP hD [0, 1] [2] rfl rfl (by decide) (by decide) hk1 hFc hP1 hD1
        have hP := hP.sub (ws' := [(h_o, .inr (0, [.ref h_factChoices, .ref h_givenInRound, .int v_givenPairs, .int v_roundCount])), (h_factChoices, .inl (k_factChoices, 18, .inr (.inl v_factChoices))), (h_givenInRound, .inl (k_givenInRound, 17, .inl v_givenInRound))]) [1, 2, 0] rfl
        have hD := hD.sub (ws' := [(h_o, .inr (0, [.ref h_factChoices, .ref h_givenInRound, .int v_givenPairs, .int v_roundCount])), (h_factChoices, .inl (k_factChoices, 18, .inr (.inl v_factChoices))), (h_givenInRound, .inl (k_givenInRound, 17, .inl v_givenInRound))]) [1, 2, 0] (by decide) rfl
        generalize H1 = H at hP hS ⊢
        refine lv_ior hx hb d_D_run_28 ?_
        refine lv_aload_n hx hb d_D_run_29 rfl (lv_at hl 0 rfl) ?_
        refine va_get (D := (dC, dI)) (ci := 0) (v := .int v_givenPairs) (C := R_D) (T := F_D) (N := 4) hx hb hts lay_D hown hK hP 0 rfl rfl 2 (by decide) (hts _ flk_D_19) (fun _ h9 => h9) rfl d_D_run_30 ?_
        refine lv_iconst (v := (-1 : Int32)) hx hb d_D_run_33 (by decide) ?_
        refine lv_ixor hx hb d_D_run_34 ?_
        refine lv_iand hx hb d_D_run_35 ?_
        refine lv_istore (lv' := [(4, .int ((v_20.1 ||| v_25.1) &&& (v_givenPairs ^^^ (-1 : Int32)))), (0, .ref h_o), (1, .int z1), (2, .int z2), (3, .int z3)]) hx hb d_D_run_36 hl (by decide) rfl (fun ls hl => ?_)
        refine lv_iload hx hb d_D_run_38 (lv_at hl 0 rfl) ?_
        refine lv_if_ne (tgt := 44) hx hb d_D_run_40 (by decide) (fun c_40 => ?_) (fun c_40 => ?_)
        · have h := of_neg h c_40
          refine lv_aload_n hx hb d_D_run_44 rfl (lv_at hl 1 rfl) ?_
          refine va_get (D := (dC, dI)) (ci := 0) (v := .ref h_givenInRound) (C := R_D) (T := F_D) (N := 4) hx hb hts lay_D hown hK hP 0 rfl rfl 1 (by decide) (hts _ flk_D_15) (fun _ h9 => h9) rfl d_D_run_45 ?_
          refine lv_iload_n hx hb d_D_run_48 rfl (lv_at hl 4 rfl) ?_
          refine lv_iload hx hb d_D_run_49 (lv_at hl 0 rfl) ?_
          obtain ⟨g_51, h⟩ := of_guard h
          refine va_iast hx hb hK hP hD hS 2 1 rfl rfl (inR_in g_51) d_D_run_51 (fun H locs hP hD hS => ?_)
          have hP : va_P (dC, dI) classes [(h_o, .inr (0, [.ref h_factChoices, .ref h_givenInRound, .int v_givenPairs, .int v_roundCount])), (h_factChoices, .inl (k_factChoices, 18, .inr (.inl v_factChoices))), (h_givenInRound, .inl (k_givenInRound, 17, .inl (upd v_givenInRound z3.toNatClampNeg ((v_20.1 ||| v_25.1) &&& (v_givenPairs ^^^ (-1 : Int32))))))] H := hP
          have hD : va_D A [(h_o, .inr (0, [.ref h_factChoices, .ref h_givenInRound, .int v_givenPairs, .int v_roundCount])), (h_factChoices, .inl (k_factChoices, 18, .inr (.inl v_factChoices))), (h_givenInRound, .inl (k_givenInRound, 17, .inl (upd v_givenInRound z3.toNatClampNeg ((v_20.1 ||| v_25.1) &&& (v_givenPairs ^^^ (-1 : Int32))))))] := hD
          refine lv_aload_n hx hb d_D_run_52 rfl (lv_at hl 1 rfl) ?_
          refine lv_dup hx hb d_D_run_53 rfl ?_
          refine va_get (D := (dC, dI)) (ci := 0) (v := .int v_givenPairs) (C := R_D) (T := F_D) (N := 4) hx hb hts lay_D hown hK hP 0 rfl rfl 2 (by decide) (hts _ flk_D_19) (fun _ h9 => h9) rfl d_D_run_54 ?_
          refine lv_iload hx hb d_D_run_57 (lv_at hl 0 rfl) ?_
          refine lv_ior hx hb d_D_run_59 ?_
          refine va_put (D := (dC, dI)) (ci := 0) (v := .int (v_givenPairs ||| ((v_20.1 ||| v_25.1) &&& (v_givenPairs ^^^ (-1 : Int32))))) (ty := .int) (C := R_D) (T := F_D) (N := 4) hx hb hts lay_D t_D t_D_ok n_D hown hK hP hD hS 0 rfl rfl 2 (by decide) (hts _ flk_D_19) (fun _ h9 => h9) rfl (by decide +kernel) rfl rfl (Nat.le_of_ble_eq_true rfl) d_D_run_60 (fun H locs hP hD hS => ?_)
          have hP : va_P (dC, dI) classes [(h_o, .inr (0, [.ref h_factChoices, .ref h_givenInRound, .int (v_givenPairs ||| ((v_20.1 ||| v_25.1) &&& (v_givenPairs ^^^ (-1 : Int32)))), .int v_roundCount])), (h_factChoices, .inl (k_factChoices, 18, .inr (.inl v_factChoices))), (h_givenInRound, .inl (k_givenInRound, 17, .inl (upd v_givenInRound z3.toNatClampNeg ((v_20.1 ||| v_25.1) &&& (v_givenPairs ^^^ (-1 : Int32))))))] H := hP
          have hD : va_D A [(h_o, .inr (0, [.ref h_factChoices, .ref h_givenInRound, .int (v_givenPairs ||| ((v_20.1 ||| v_25.1) &&& (v_givenPairs ^^^ (-1 : Int32)))), .int v_roundCount])), (h_factChoices, .inl (k_factChoices, 18, .inr (.inl v_factChoices))), (h_givenInRound, .inl (k_givenInRound, 17, .inl (upd v_givenInRound z3.toNatClampNeg ((v_20.1 ||| v_25.1) &&& (v_givenPairs ^^^ (-1 : Int32))))))] := hD
          refine lv_aload_n hx hb d_D_run_63 rfl (lv_at hl 1 rfl) ?_
          refine lv_iload_n hx hb d_D_run_64 rfl (lv_at hl 4 rfl) ?_
          refine va_put (D := (dC, dI)) (ci := 0) (v := .int z3) (ty := .int) (C := R_D) (T := F_D) (N := 4) hx hb hts lay_D t_D t_D_ok n_D hown hK hP hD hS 0 rfl rfl 3 (by decide) (hts _ flk_D_23) (fun _ h9 => h9) rfl (by decide +kernel) rfl rfl (Nat.le_of_ble_eq_true rfl) d_D_run_65 (fun H locs hP hD hS => ?_)
          have hP : va_P (dC, dI) classes [(h_o, .inr (0, [.ref h_factChoices, .ref h_givenInRound, .int (v_givenPairs ||| ((v_20.1 ||| v_25.1) &&& (v_givenPairs ^^^ (-1 : Int32)))), .int z3])), (h_factChoices, .inl (k_factChoices, 18, .inr (.inl v_factChoices))), (h_givenInRound, .inl (k_givenInRound, 17, .inl (upd v_givenInRound z3.toNatClampNeg ((v_20.1 ||| v_25.1) &&& (v_givenPairs ^^^ (-1 : Int32))))))] H := hP
          have hD : va_D A [(h_o, .inr (0, [.ref h_factChoices, .ref h_givenInRound, .int (v_givenPairs ||| ((v_20.1 ||| v_25.1) &&& (v_givenPairs ^^^ (-1 : Int32)))), .int z3])), (h_factChoices, .inl (k_factChoices, 18, .inr (.inl v_factChoices))), (h_givenInRound, .inl (k_givenInRound, 17, .inl (upd v_givenInRound z3.toNatClampNeg ((v_20.1 ||| v_25.1) &&& (v_givenPairs ^^^ (-1 : Int32))))))] := hD
          refine lv_iinc (v := z3 + (nI 1)) (lv' := [(3, .int (z3 + (nI 1))), (4, .int ((v_20.1 ||| v_25.1) &&& (v_givenPairs ^^^ (-1 : Int32)))), (0, .ref h_o), (1, .int z1), (2, .int z2)]) hx hb d_D_run_68 hl (k := 4) rfl rfl (by decide) rfl (fun ls hl => ?_)
          refine lv_goto (tgt := 12) hx hb d_D_run_71 (by decide) ?_
          exact ih (v_givenPairs ||| ((v_20.1 ||| v_25.1) &&& (v_givenPairs ^^^ (-1 : Int32)))) z3 (upd v_givenInRound z3.toNatClampNeg ((v_20.1 ||| v_25.1) &&& (v_givenPairs ^^^ (-1 : Int32)))) z1 z2 (z3 + (nI 1)) h _ _ hP hD hS ls (lv_sub hl [2, 3, 4, 0] rfl)
        · have h := of_pos h c_40
          rw [hQ]
          exact W.vret hx hb hr (fun t ht hW => ⟨⟨(v_givenPairs, v_roundCount, v_givenInRound), rfl, Option.some.inj h, by rw [ht]; exact hP, va_K.moved hW.alike hK, hD⟩, hS.F ht⟩) hS.2.2 d_D_run_43
  unfold m_D_run at h
  refine lv_aload_n hx hb d_D_run_0 rfl (lv_at hl 0 rfl) ?_
  refine lv_iconst (v := (nI 0)) hx hb d_D_run_1 (by decide) ?_
  refine va_put (D := (dC, dI)) (ci := 0) (v := .int (nI 0)) (ty := .int) (C := R_D) (T := F_D) (N := 4) hx hb hts lay_D t_D t_D_ok n_D hown hK hP hD hS 0 rfl rfl 2 (by decide) (hts _ flk_D_19) (fun _ h9 => h9) rfl (by decide +kernel) rfl rfl (Nat.le_of_ble_eq_true rfl) d_D_run_2 (fun H locs hP hD hS => ?_)
  have hP : va_P (dC, dI) classes [(h_o, .inr (0, [.ref h_factChoices, .ref h_givenInRound, .int (nI 0), .int v_roundCount])), (h_factChoices, .inl (k_factChoices, 18, .inr (.inl v_factChoices))), (h_givenInRound, .inl (k_givenInRound, 17, .inl v_givenInRound))] H := hP
  have hD : va_D A [(h_o, .inr (0, [.ref h_factChoices, .ref h_givenInRound, .int (nI 0), .int v_roundCount])), (h_factChoices, .inl (k_factChoices, 18, .inr (.inl v_factChoices))), (h_givenInRound, .inl (k_givenInRound, 17, .inl v_givenInRound))] := hD
  refine lv_aload_n hx hb d_D_run_5 rfl (lv_at hl 0 rfl) ?_
  refine lv_iconst (v := (nI 0)) hx hb d_D_run_6 (by decide) ?_
  refine va_put (D := (dC, dI)) (ci := 0) (v := .int (nI 0)) (ty := .int) (C := R_D) (T := F_D) (N := 4) hx hb hts lay_D t_D t_D_ok n_D hown hK hP hD hS 0 rfl rfl 3 (by decide) (hts _ flk_D_23) (fun _ h9 => h9) rfl (by decide +kernel) rfl rfl (Nat.le_of_ble_eq_true rfl) d_D_run_7 (fun H locs hP hD hS => ?_)
  have hP : va_P (dC, dI) classes [(h_o, .inr (0, [.ref h_factChoices, .ref h_givenInRound, .int (nI 0), .int (nI 0)])), (h_factChoices, .inl (k_factChoices, 18, .inr (.inl v_factChoices))), (h_givenInRound, .inl (k_givenInRound, 17, .inl v_givenInRound))] H := hP
  have hD : va_D A [(h_o, .inr (0, [.ref h_factChoices, .ref h_givenInRound, .int (nI 0), .int (nI 0)])), (h_factChoices, .inl (k_factChoices, 18, .inr (.inl v_factChoices))), (h_givenInRound, .inl (k_givenInRound, 17, .inl v_givenInRound))] := hD
  refine lv_iconst (v := (nI 1)) hx hb d_D_run_10 (by decide) ?_
  refine lv_istore_n (lv' := [(3, .int (nI 1)), (0, .ref h_o), (1, .int x1), (2, .int x2)]) hx hb d_D_run_11 rfl hl (by decide) rfl (fun ls hl => ?_)
  exact J_12 40 (nI 0) (nI 0) v_givenInRound x1 x2 (nI 1) h _ _ hP hD hS ls (lv_sub hl [1, 2, 3, 0] rfl)
set_option maxHeartbeats 1000000 in
set_option maxRecDepth 100000 in
theorem c_D_takeFacts (l : Launch) (dC : Nat → ClassId) (dI : Nat → Nat → Nat) (h_o h_factChoices h_givenInRound : Nat) (k_factChoices : ClassId) (tb : Nat) (ak av : Nat → Nat) (sz : Nat) (v_givenPairs : Int32) (v_roundCount : Int32) (v_factChoices : Nat → Int64) (x1 : Int32) (x2 : Int32) (u0 : (Nat → Int64)) (h : m_D_takeFacts v_factChoices x1 x2 = some u0) : Met l y_D_takeFacts w_D_takeFacts ({ frames := 1, cells := 0, slots := 0, locals := 25 } : Room) (va_Pc [.ref h_o, .int x1, .int x2] (fun U => U.heap.size = sz ∧ va_P (dC, dI) classes [(h_o, .inr (0, [.ref h_factChoices, .ref h_givenInRound, .int v_givenPairs, .int v_roundCount])), (h_factChoices, .inl (k_factChoices, 18, .inr (.inl v_factChoices)))] U.heap ∧ va_K (dC, dI) classes [(k_factChoices, .long)] U ∧ va_D (fun _ => True) [(h_o, .inr (0, [.ref h_factChoices, .ref h_givenInRound, .int v_givenPairs, .int v_roundCount])), (h_factChoices, .inl (k_factChoices, 18, .inr (.inl v_factChoices)))] ∧ kw tb ak av (va_A [(h_o, .inr (0, [.ref h_factChoices, .ref h_givenInRound, .int v_givenPairs, .int v_roundCount])), (h_factChoices, .inl (k_factChoices, 18, .inr (.inl v_factChoices)))] sz) U)) (va_Qv (fun (u : (Nat → Int64)) => u = u0) (fun (u : (Nat → Int64)) (t : State) => va_P (dC, dI) classes [(h_o, .inr (0, [.ref h_factChoices, .ref h_givenInRound, .int v_givenPairs, .int v_roundCount])), (h_factChoices, .inl (k_factChoices, 18, .inr (.inl u)))] t.heap ∧ va_K (dC, dI) classes [(k_factChoices, .long)] t ∧ va_D (va_A [(h_o, .inr (0, [.ref h_factChoices, .ref h_givenInRound, .int v_givenPairs, .int v_roundCount])), (h_factChoices, .inl (k_factChoices, 18, .inr (.inl v_factChoices)))] sz) [(h_o, .inr (0, [.ref h_factChoices, .ref h_givenInRound, .int v_givenPairs, .int v_roundCount])), (h_factChoices, .inl (k_factChoices, 18, .inr (.inl u)))]) (va_A [(h_o, .inr (0, [.ref h_factChoices, .ref h_givenInRound, .int v_givenPairs, .int v_roundCount])), (h_factChoices, .inl (k_factChoices, 18, .inr (.inl v_factChoices)))] sz)) 0 0 (va_A [(h_o, .inr (0, [.ref h_factChoices, .ref h_givenInRound, .int v_givenPairs, .int v_roundCount])), (h_factChoices, .inl (k_factChoices, 18, .inr (.inl v_factChoices)))] sz) := by
  refine Met.ofW (cc := b_D_takeFacts) (maxL := 5) (ret := none) (by decide) rfl ?_
  intro p e s m args below meth c s₁ B hml hv
  obtain ⟨rfl, hsz, hP, hK, hD0, hC⟩ := hv
  have hx := B.exec
  have hb := B.bytes
  have hr := B.returns
  have hts0 := atoms_spec (ws := w_D_takeFacts) B.pre
  have hts : ∀ w ∈ lw_gd, w.before ([.ref h_o, .int x1, .int x2] : List Value).toArray s = true := fun w h9 => hts0 w (List.mem_cons_of_mem _ h9)
  have hown : s.vm.findClass R_D = some m.cls := findClass_of_methodNamed B.named
  have hlocks := B.notSynchronized
  subst hsz
  have hD := hD0.self (sz := s.heap.size)
  generalize hAe : va_A [(h_o, .inr (0, [.ref h_factChoices, .ref h_givenInRound, .int v_givenPairs, .int v_roundCount])), (h_factChoices, .inl (k_factChoices, 18, .inr (.inl v_factChoices)))] s.heap.size = A at hD hC ⊢
  have hA : ∀ q : Nat, s.heap.size ≤ q → A q := fun q h9 => by rw [← hAe]; exact Or.inr h9
  obtain ⟨H, eH⟩ : ∃ H : Heap, H = s.heap := ⟨_, rfl⟩
  have hS : va_S A s.heap H [] := by rw [eH]; exact va_S.rf
  have hP : va_P (dC, dI) classes [(h_o, .inr (0, [.ref h_factChoices, .ref h_givenInRound, .int v_givenPairs, .int v_roundCount])), (h_factChoices, .inl (k_factChoices, 18, .inr (.inl v_factChoices)))] H := by rw [eH]; exact hP
  refine W_gen (fun Q hQ => ?_)
  refine W_heap eH ?_
  clear eH
  have hl := lv_entry ([.ref h_o, .int x1, .int x2]) (n := 5) (Nat.le_of_ble_eq_true rfl)
  rw [lg_entry_eq]
  generalize (lg_sl ([.ref h_o, .int x1, .int x2]) ++ List.replicate (5 - (lg_sl ([.ref h_o, .int x1, .int x2])).length) Slot.unset).toArray = ls at hl ⊢
  have hl : lv_has ls 5 [(0, .ref h_o), (1, .int x1), (2, .int x2)] := hl
  have J_20 : ∀ (k_2 : (Nat → Int64) → Int32 → Int32 → Int32 → Option ((Nat → Int64))) (hk_2 : ∀ (v_factChoices : Nat → Int64) (z1 : Int32) (z2 : Int32) (z3 : Int32), k_2 v_factChoices z1 z2 z3 = some u0 → ∀ (H : Heap) (locs : List Loc), va_P (dC, dI) classes [(h_o, .inr (0, [.ref h_factChoices, .ref h_givenInRound, .int v_givenPairs, .int v_roundCount])), (h_factChoices, .inl (k_factChoices, 18, .inr (.inl v_factChoices)))] H → va_D A [(h_o, .inr (0, [.ref h_factChoices, .ref h_givenInRound, .int v_givenPairs, .int v_roundCount])), (h_factChoices, .inl (k_factChoices, 18, .inr (.inl v_factChoices)))] → va_S A s.heap H locs → ∀ (ls : Array Slot), lv_has ls 5 [(0, .ref h_o), (1, .int z1), (2, .int z2), (3, .int z3)] → W p l e (headSpec w_D_takeFacts ({ frames := 1, cells := 0, slots := 0, locals := 25 } : Room)).room s m ([.ref h_o, .int x1, .int x2] : List Value).toArray below meth c H locs 0 0 Q (F0 m 2 ls [])) (v_factChoices : Nat → Int64) (z1 : Int32) (z2 : Int32) (z3 : Int32) (y0 : Int32), m_D_takeFacts_20 k_2 v_factChoices z1 z2 z3 y0 = some u0 → ∀ (H : Heap) (locs : List Loc), va_P (dC, dI) classes [(h_o, .inr (0, [.ref h_factChoices, .ref h_givenInRound, .int v_givenPairs, .int v_roundCount])), (h_factChoices, .inl (k_factChoices, 18, .inr (.inl v_factChoices)))] H → va_D A [(h_o, .inr (0, [.ref h_factChoices, .ref h_givenInRound, .int v_givenPairs, .int v_roundCount])), (h_factChoices, .inl (k_factChoices, 18, .inr (.inl v_factChoices)))] → va_S A s.heap H locs → ∀ (ls : Array Slot), lv_has ls 5 [(0, .ref h_o), (1, .int z1), (2, .int z2), (3, .int z3)] → W p l e (headSpec w_D_takeFacts ({ frames := 1, cells := 0, slots := 0, locals := 25 } : Room)).room s m ([.ref h_o, .int x1, .int x2] : List Value).toArray below meth c H locs 0 0 Q (F0 m 20 ls [.int y0]) := by
    intro k_2 hk_2 v_factChoices z1 z2 z3 y0 h H locs hP hD hS ls hl
    unfold m_D_takeFacts_20 at h
    refine lv_istore (lv' := [(4, .int y0), (0, .ref h_o), (1, .int z1), (2, .int z2), (3, .int z3)]) hx hb d_D_takeFacts_20 hl (by decide) rfl (fun ls hl => ?_)
    refine lv_aload_n hx hb d_D_takeFacts_22 rfl (lv_at hl 1 rfl) ?_
    refine va_get (D := (dC, dI)) (ci := 0) (v := .ref h_factChoices) (C := R_D) (T := F_D) (N := 4) hx hb hts lay_D hown hK hP 0 rfl rfl 0 (by decide) (hts _ flk_D_9) (fun _ h9 => h9) rfl d_D_takeFacts_23 ?_
    refine lv_iload_n hx hb d_D_takeFacts_26 rfl (lv_at hl 4 rfl) ?_
    refine lv_iload hx hb d_D_takeFacts_27 (lv_at hl 0 rfl) ?_
    refine lv_iload_n hx hb d_D_takeFacts_29 rfl (lv_at hl 4 rfl) ?_
    have hPc := hP.sub (ws' := []) [] rfl
    have hDc := hD.sub (ws' := []) [] (by decide) rfl
    have hKc := hK.sub (tys' := []) [] rfl
    have hFc := va_free (wc := []) hD hS hA [] rfl
    obtain ⟨v_30, hc_30, h⟩ := of_bind h
    refine va_calli (va_runSN (As := [.int z3]) (rest := [.int y0, .int z3, .ref h_factChoices]) ⟨hx, hb, hml, hown, hts⟩ (c_H_firstVariableOf l dC dI H.size z3 v_30.1 v_30.2 hc_30) ⟨va_cnB 1 hts (gI cod_H_firstVariableOf) rfl rfl rfl hC.nst_D_30 (hts _ ini_H) (by decide +kernel) ⟨Nat.le_of_ble_eq_true rfl, Nat.le_of_ble_eq_true rfl⟩, hts _ sta_H_firstVariableOf, trivial⟩ ⟨fun a U g mk q => by obtain ⟨q0, q1, qP, qK, qD⟩ := q; exact ⟨q0, q1, qP, va_K.moved (u := U) (U := U.calling g mk a) (Vm.Alike.refl U.vm) qK, qD⟩, fun U hU hW => ⟨rfl, by rw [hU], by rw [hU]; exact hPc, va_K.moved hW.alike hKc, hDc.weaken (fun _ _ _ _ => trivial)⟩⟩ rfl rfl hl.1 rfl (lv_room (Nat.le_of_ble_eq_true rfl)) d_D_takeFacts_30 ⟨Nat.le_of_ble_eq_true rfl, Nat.le_of_ble_eq_true rfl⟩) hS (fun q _ h9 => hFc q h9) hFc (fun r_30 u t H1 locs ht hvm hw hB hz1 hk1 hS => ?_)
    obtain ⟨rfl, rfl⟩ := hw
    obtain ⟨hP1, hK1, hD1⟩ := hB
    rw [ht] at hP1
    obtain ⟨hP, hD⟩ := va_join (wr := [(h_o, .inr (0, [.ref h_factChoices, .ref h_givenInRound, .int v_givenPairs, .int v_roundCount])), (h_factChoices, .inl (k_factChoices, 18, .inr (.inl v_factChoices)))]) (w1 := []) hP hD [] [0, 1] rfl rfl (by decide) (by decide) hk1 hFc hP1 hD1
    have hP := hP.sub (ws' := [(h_o, .inr (0, [.ref h_factChoices, .ref h_givenInRound, .int v_givenPairs, .int v_roundCount])), (h_factChoices, .inl (k_factChoices, 18, .inr (.inl v_factChoices)))]) [0, 1] rfl
    have hD := hD.sub (ws' := [(h_o, .inr (0, [.ref h_factChoices, .ref h_givenInRound, .int v_givenPairs, .int v_roundCount])), (h_factChoices, .inl (k_factChoices, 18, .inr (.inl v_factChoices)))]) [0, 1] (by decide) rfl
    generalize H1 = H at hP hS ⊢
    refine lv_iload_n hx hb d_D_takeFacts_33 rfl (lv_at hl 4 rfl) ?_
    have hPc := hP.sub (ws' := []) [] rfl
    have hDc := hD.sub (ws' := []) [] (by decide) rfl
    have hKc := hK.sub (tys' := []) [] rfl
    have hFc := va_free (wc := []) hD hS hA [] rfl
    obtain ⟨v_34, hc_34, h⟩ := of_bind h
    refine va_calli (va_runSN (As := [.int z3]) (rest := [.int v_30.1, .int y0, .int z3, .ref h_factChoices]) ⟨hx, hb, hml, hown, hts⟩ (c_H_secondVariableOf l dC dI H.size z3 v_34.1 v_34.2 hc_34) ⟨va_cnB 1 hts (gI cod_H_secondVariableOf) rfl rfl rfl hC.nst_D_33 (hts _ ini_H) (by decide +kernel) ⟨Nat.le_of_ble_eq_true rfl, Nat.le_of_ble_eq_true rfl⟩, hts _ sta_H_secondVariableOf, trivial⟩ ⟨fun a U g mk q => by obtain ⟨q0, q1, qP, qK, qD⟩ := q; exact ⟨q0, q1, qP, va_K.moved (u := U) (U := U.calling g mk a) (Vm.Alike.refl U.vm) qK, qD⟩, fun U hU hW => ⟨rfl, by rw [hU], by rw [hU]; exact hPc, va_K.moved hW.alike hKc, hDc.weaken (fun _ _ _ _ => trivial)⟩⟩ rfl rfl hl.1 rfl (lv_room (Nat.le_of_ble_eq_true rfl)) d_D_takeFacts_34 ⟨Nat.le_of_ble_eq_true rfl, Nat.le_of_ble_eq_true rfl⟩) hS (fun q _ h9 => hFc q h9) hFc (fun r_34 u t H1 locs ht hvm hw hB hz1 hk1 hS => ?_)
    obtain ⟨rfl, rfl⟩ := hw
    obtain ⟨hP1, hK1, hD1⟩ := hB
    rw [ht] at hP1
    obtain ⟨hP, hD⟩ := va_join (wr := [(h_o, .inr (0, [.ref h_factChoices, .ref h_givenInRound, .int v_givenPairs, .int v_roundCount])), (h_factChoices, .inl (k_factChoices, 18, .inr (.inl v_factChoices)))]) (w1 := []) hP hD [] [0, 1] rfl rfl (by decide) (by decide) hk1 hFc hP1 hD1
    have hP := hP.sub (ws' := [(h_o, .inr (0, [.ref h_factChoices, .ref h_givenInRound, .int v_givenPairs, .int v_roundCount])), (h_factChoices, .inl (k_factChoices, 18, .inr (.inl v_factChoices)))]) [0, 1] rfl
    have hD := hD.sub (ws' := [(h_o, .inr (0, [.ref h_factChoices, .ref h_givenInRound, .int v_givenPairs, .int v_roundCount])), (h_factChoices, .inl (k_factChoices, 18, .inr (.inl v_factChoices)))]) [0, 1] (by decide) rfl
    generalize H1 = H at hP hS ⊢
    have hPc := hP.sub (ws' := []) [] rfl
    have hDc := hD.sub (ws' := []) [] (by decide) rfl
    have hKc := hK.sub (tys' := []) [] rfl
    have hFc := va_free (wc := []) hD hS hA [] rfl
    obtain ⟨v_37, hc_37, h⟩ := of_bind h
    refine va_calll (va_runS (As := [.int y0, .int v_30.1, .int v_34.1]) (rest := [.int z3, .ref h_factChoices]) ⟨hx, hb, hml, hown, hts⟩ (c_D_choicesWhere l dC dI tb ak av H.size y0 v_30.1 v_34.1 v_37.1 v_37.2 hc_37) (va_cwS 3 hts (gS mlk_D_36 sta_D_choicesWhere ini_D cod_D_choicesWhere) rfl rfl rfl (by decide +kernel) ⟨Nat.le_of_ble_eq_true rfl, Nat.le_of_ble_eq_true rfl⟩) ⟨fun a U g mk q => by obtain ⟨q0, q1, qP, qK, qD, qC⟩ := q; exact ⟨q0, q1, qP, va_K.moved (u := U) (U := U.calling g mk a) (Vm.Alike.refl U.vm) qK, qD, kw_blind qC⟩, fun U hU hW => ⟨rfl, by rw [hU], by rw [hU]; exact hPc, va_K.moved hW.alike hKc, hDc.weaken (fun _ _ _ _ => trivial), kw_call hC hS hFc hU hW⟩⟩ rfl rfl hl.1 rfl (lv_room (Nat.le_of_ble_eq_true rfl)) d_D_takeFacts_37 ⟨Nat.le_of_ble_eq_true rfl, Nat.le_of_ble_eq_true rfl⟩) hS (fun q _ h9 => hFc q h9) hFc (fun r_37 u t H1 locs ht hvm hw hB hz1 hk1 hS => ?_)
    obtain ⟨rfl, rfl⟩ := hw
    obtain ⟨hP1, hK1, hD1⟩ := hB
    rw [ht] at hP1
    obtain ⟨hP, hD⟩ := va_join (wr := [(h_o, .inr (0, [.ref h_factChoices, .ref h_givenInRound, .int v_givenPairs, .int v_roundCount])), (h_factChoices, .inl (k_factChoices, 18, .inr (.inl v_factChoices)))]) (w1 := []) hP hD [] [0, 1] rfl rfl (by decide) (by decide) hk1 hFc hP1 hD1
    have hP := hP.sub (ws' := [(h_o, .inr (0, [.ref h_factChoices, .ref h_givenInRound, .int v_givenPairs, .int v_roundCount])), (h_factChoices, .inl (k_factChoices, 18, .inr (.inl v_factChoices)))]) [0, 1] rfl
    have hD := hD.sub (ws' := [(h_o, .inr (0, [.ref h_factChoices, .ref h_givenInRound, .int v_givenPairs, .int v_roundCount])), (h_factChoices, .inl (k_factChoices, 18, .inr (.inl v_factChoices)))]) [0, 1] (by decide) rfl
    generalize H1 = H at hP hS ⊢
    obtain ⟨g_40, h⟩ := of_guard h
    refine va_last hx hb hK hP hD hS 1 0 rfl rfl (inR_in g_40) d_D_takeFacts_40 (fun H locs hP hD hS => ?_)
    have hP : va_P (dC, dI) classes [(h_o, .inr (0, [.ref h_factChoices, .ref h_givenInRound, .int v_givenPairs, .int v_roundCount])), (h_factChoices, .inl (k_factChoices, 18, .inr (.inl (vp_updL v_factChoices z3.toNatClampNeg v_37.1))))] H := hP
    have hD : va_D A [(h_o, .inr (0, [.ref h_factChoices, .ref h_givenInRound, .int v_givenPairs, .int v_roundCount])), (h_factChoices, .inl (k_factChoices, 18, .inr (.inl (vp_updL v_factChoices z3.toNatClampNeg v_37.1))))] := hD
    refine lv_iinc (v := z3 + (nI 1)) (lv' := [(3, .int (z3 + (nI 1))), (4, .int y0), (0, .ref h_o), (1, .int z1), (2, .int z2)]) hx hb d_D_takeFacts_41 hl (k := 4) rfl rfl (by decide) rfl (fun ls hl => ?_)
    refine lv_goto (tgt := 2) hx hb d_D_takeFacts_44 (by decide) ?_
    exact hk_2 (vp_updL v_factChoices z3.toNatClampNeg v_37.1) z1 z2 (z3 + (nI 1)) h _ _ hP hD hS ls (lv_sub hl [2, 3, 4, 0] rfl)
  have J_2 : ∀ (n : Nat) (v_factChoices : Nat → Int64) (z1 : Int32) (z2 : Int32) (z3 : Int32), m_D_takeFacts_2 n v_factChoices z1 z2 z3 = some u0 → ∀ (H : Heap) (locs : List Loc), va_P (dC, dI) classes [(h_o, .inr (0, [.ref h_factChoices, .ref h_givenInRound, .int v_givenPairs, .int v_roundCount])), (h_factChoices, .inl (k_factChoices, 18, .inr (.inl v_factChoices)))] H → va_D A [(h_o, .inr (0, [.ref h_factChoices, .ref h_givenInRound, .int v_givenPairs, .int v_roundCount])), (h_factChoices, .inl (k_factChoices, 18, .inr (.inl v_factChoices)))] → va_S A s.heap H locs → ∀ (ls : Array Slot), lv_has ls 5 [(0, .ref h_o), (1, .int z1), (2, .int z2), (3, .int z3)] → W p l e (headSpec w_D_takeFacts ({ frames := 1, cells := 0, slots := 0, locals := 25 } : Room)).room s m ([.ref h_o, .int x1, .int x2] : List Value).toArray below meth c H locs 0 0 Q (F0 m 2 ls []) := by
    intro n
    induction n with
    | zero => intro v_factChoices z1 z2 z3 h; exact absurd h (by unfold m_D_takeFacts_2; exact fun h9 => nomatch h9)
    | succ n ih =>
      intro v_factChoices z1 z2 z3 h H locs hP hD hS ls hl
      unfold m_D_takeFacts_2 at h
      refine lv_iload_n hx hb d_D_takeFacts_2 rfl (lv_at hl 3 rfl) ?_
      refine lv_bipush (v := (nI 18)) hx hb d_D_takeFacts_3 (by decide) ?_
      refine lv_icmp_ge (tgt := 47) hx hb d_D_takeFacts_5 (by decide) (fun c_5 => ?_) (fun c_5 => ?_)
      · have h := of_pos h c_5
        rw [hQ]
        exact W.vret hx hb hr (fun t ht hW => ⟨⟨v_factChoices, rfl, Option.some.inj h, by rw [ht]; exact hP, va_K.moved hW.alike hK, hD⟩, hS.F ht⟩) hS.2.2 d_D_takeFacts_47
      · have h := of_neg h c_5
        refine lv_iload_n hx hb d_D_takeFacts_8 rfl (lv_at hl 3 rfl) ?_
        have hPc := hP.sub (ws' := []) [] rfl
        have hDc := hD.sub (ws' := []) [] (by decide) rfl
        have hKc := hK.sub (tys' := []) [] rfl
        have hFc := va_free (wc := []) hD hS hA [] rfl
        obtain ⟨v_9, hc_9, h⟩ := of_bind h
        refine va_calli (va_runSN (As := [.int z3]) (rest := []) ⟨hx, hb, hml, hown, hts⟩ (c_H_relationOf l dC dI H.size z3 v_9.1 v_9.2 hc_9) ⟨va_cnB 1 hts (gI cod_H_relationOf) rfl rfl rfl hC.nst_D_26 (hts _ ini_H) (by decide +kernel) ⟨Nat.le_of_ble_eq_true rfl, Nat.le_of_ble_eq_true rfl⟩, hts _ sta_H_relationOf, trivial⟩ ⟨fun a U g mk q => by obtain ⟨q0, q1, qP, qK, qD⟩ := q; exact ⟨q0, q1, qP, va_K.moved (u := U) (U := U.calling g mk a) (Vm.Alike.refl U.vm) qK, qD⟩, fun U hU hW => ⟨rfl, by rw [hU], by rw [hU]; exact hPc, va_K.moved hW.alike hKc, hDc.weaken (fun _ _ _ _ => trivial)⟩⟩ rfl rfl hl.1 rfl (lv_room (Nat.le_of_ble_eq_true rfl)) d_D_takeFacts_9 ⟨Nat.le_of_ble_eq_true rfl, Nat.le_of_ble_eq_true rfl⟩) hS (fun q _ h9 => hFc q h9) hFc (fun r_9 u t H1 locs ht hvm hw hB hz1 hk1 hS => ?_)
        obtain ⟨rfl, rfl⟩ := hw
        obtain ⟨hP1, hK1, hD1⟩ := hB
        rw [ht] at hP1
        obtain ⟨hP, hD⟩ := va_join (wr := [(h_o, .inr (0, [.ref h_factChoices, .ref h_givenInRound, .int v_givenPairs, .int v_roundCount])), (h_factChoices, .inl (k_factChoices, 18, .inr (.inl v_factChoices)))]) (w1 := []) hP hD [] [0, 1] rfl rfl (by decide) (by decide) hk1 hFc hP1 hD1
        have hP := hP.sub (ws' := [(h_o, .inr (0, [.ref h_factChoices, .ref h_givenInRound, .int v_givenPairs, .int v_roundCount])), (h_factChoices, .inl (k_factChoices, 18, .inr (.inl v_factChoices)))]) [0, 1] rfl
        have hD := hD.sub (ws' := [(h_o, .inr (0, [.ref h_factChoices, .ref h_givenInRound, .int v_givenPairs, .int v_roundCount])), (h_factChoices, .inl (k_factChoices, 18, .inr (.inl v_factChoices)))]) [0, 1] (by decide) rfl
        generalize H1 = H at hP hS ⊢
        refine lv_if_ne (tgt := 19) hx hb d_D_takeFacts_12 (by decide) (fun c_12 => ?_) (fun c_12 => ?_)
        · have h := of_neg h c_12
          refine lv_iload_n hx hb d_D_takeFacts_19 rfl (lv_at hl 2 rfl) ?_
          exact J_20 (m_D_takeFacts_2 n) ih v_factChoices z1 z2 z3 z2 h _ _ hP hD hS ls (lv_sub hl [0, 1, 2, 3] rfl)
        · have h := of_pos h c_12
          refine lv_iload_n hx hb d_D_takeFacts_15 rfl (lv_at hl 1 rfl) ?_
          refine lv_goto (tgt := 20) hx hb d_D_takeFacts_16 (by decide) ?_
          exact J_20 (m_D_takeFacts_2 n) ih v_factChoices z1 z2 z3 z1 h _ _ hP hD hS ls (lv_sub hl [0, 1, 2, 3] rfl)
  unfold m_D_takeFacts at h
  refine lv_iconst (v := (nI 0)) hx hb d_D_takeFacts_0 (by decide) ?_
  refine lv_istore_n (lv' := [(3, .int (nI 0)), (0, .ref h_o), (1, .int x1), (2, .int x2)]) hx hb d_D_takeFacts_1 rfl hl (by decide) rfl (fun ls hl => ?_)
  exact J_2 40 v_factChoices x1 x2 (nI 0) h _ _ hP hD hS ls (lv_sub hl [1, 2, 3, 0] rfl)
