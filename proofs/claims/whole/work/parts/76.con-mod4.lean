theorem d_M_replaced_0 : decode b_M_replaced 0 = .ok (.iload_n 0, 1) := by decide +kernel
theorem d_M_replaced_1 : decode b_M_replaced 1 = .ok (.iconst 3, 1) := by decide +kernel
theorem d_M_replaced_2 : decode b_M_replaced 2 = .ok (.idiv, 1) := by decide +kernel
theorem d_M_replaced_3 : decode b_M_replaced 3 = .ok (.iconst 3, 1) := by decide +kernel
theorem d_M_replaced_4 : decode b_M_replaced 4 = .ok (.irem, 1) := by decide +kernel
theorem d_M_replaced_5 : decode b_M_replaced 5 = .ok (.iconst 2, 1) := by decide +kernel
theorem d_M_replaced_6 : decode b_M_replaced 6 = .ok (.if_icmp .ne 7, 3) := by decide +kernel
theorem d_M_replaced_9 : decode b_M_replaced 9 = .ok (.iload_n 1, 1) := by decide +kernel
theorem d_M_replaced_10 : decode b_M_replaced 10 = .ok (.goto 8, 3) := by decide +kernel
theorem d_M_replaced_13 : decode b_M_replaced 13 = .ok (.iload_n 0, 1) := by decide +kernel
theorem d_M_replaced_14 : decode b_M_replaced 14 = .ok (.iconst 3, 1) := by decide +kernel
theorem d_M_replaced_15 : decode b_M_replaced 15 = .ok (.idiv, 1) := by decide +kernel
theorem d_M_replaced_16 : decode b_M_replaced 16 = .ok (.iconst 3, 1) := by decide +kernel
theorem d_M_replaced_17 : decode b_M_replaced 17 = .ok (.irem, 1) := by decide +kernel
theorem d_M_replaced_18 : decode b_M_replaced 18 = .ok (.istore_n 2, 1) := by decide +kernel
theorem d_M_replaced_19 : decode b_M_replaced 19 = .ok (.iload_n 0, 1) := by decide +kernel
theorem d_M_replaced_20 : decode b_M_replaced 20 = .ok (.iconst 3, 1) := by decide +kernel
theorem d_M_replaced_21 : decode b_M_replaced 21 = .ok (.irem, 1) := by decide +kernel
theorem d_M_replaced_22 : decode b_M_replaced 22 = .ok (.iconst 2, 1) := by decide +kernel
theorem d_M_replaced_23 : decode b_M_replaced 23 = .ok (.if_icmp .ne 7, 3) := by decide +kernel
theorem d_M_replaced_26 : decode b_M_replaced 26 = .ok (.iload_n 1, 1) := by decide +kernel
theorem d_M_replaced_27 : decode b_M_replaced 27 = .ok (.goto 6, 3) := by decide +kernel
theorem d_M_replaced_30 : decode b_M_replaced 30 = .ok (.iload_n 0, 1) := by decide +kernel
theorem d_M_replaced_31 : decode b_M_replaced 31 = .ok (.iconst 3, 1) := by decide +kernel
theorem d_M_replaced_32 : decode b_M_replaced 32 = .ok (.irem, 1) := by decide +kernel
theorem d_M_replaced_33 : decode b_M_replaced 33 = .ok (.istore_n 3, 1) := by decide +kernel
theorem d_M_replaced_34 : decode b_M_replaced 34 = .ok (.iload_n 0, 1) := by decide +kernel
theorem d_M_replaced_35 : decode b_M_replaced 35 = .ok (.bipush 9, 2) := by decide +kernel
theorem d_M_replaced_37 : decode b_M_replaced 37 = .ok (.idiv, 1) := by decide +kernel
theorem d_M_replaced_38 : decode b_M_replaced 38 = .ok (.bipush 9, 2) := by decide +kernel
theorem d_M_replaced_40 : decode b_M_replaced 40 = .ok (.imul, 1) := by decide +kernel
theorem d_M_replaced_41 : decode b_M_replaced 41 = .ok (.iconst 3, 1) := by decide +kernel
theorem d_M_replaced_42 : decode b_M_replaced 42 = .ok (.iload_n 2, 1) := by decide +kernel
theorem d_M_replaced_43 : decode b_M_replaced 43 = .ok (.imul, 1) := by decide +kernel
theorem d_M_replaced_44 : decode b_M_replaced 44 = .ok (.iadd, 1) := by decide +kernel
theorem d_M_replaced_45 : decode b_M_replaced 45 = .ok (.iload_n 3, 1) := by decide +kernel
theorem d_M_replaced_46 : decode b_M_replaced 46 = .ok (.iadd, 1) := by decide +kernel
theorem d_M_replaced_47 : decode b_M_replaced 47 = .ok (.ireturn, 1) := by decide +kernel
theorem d_M_subsumes_0 : decode b_M_subsumes 0 = .ok (.aload_n 0, 1) := by decide +kernel
theorem d_M_subsumes_1 : decode b_M_subsumes 1 = .ok (.iload_n 1, 1) := by decide +kernel
theorem d_M_subsumes_2 : decode b_M_subsumes 2 = .ok (.invokevirtual 109, 3) := by decide +kernel
theorem d_M_subsumes_5 : decode b_M_subsumes 5 = .ok (.ifCond .eq 11, 3) := by decide +kernel
theorem d_M_subsumes_8 : decode b_M_subsumes 8 = .ok (.aload_n 0, 1) := by decide +kernel
theorem d_M_subsumes_9 : decode b_M_subsumes 9 = .ok (.iload_n 2, 1) := by decide +kernel
theorem d_M_subsumes_10 : decode b_M_subsumes 10 = .ok (.invokevirtual 109, 3) := by decide +kernel
theorem d_M_subsumes_13 : decode b_M_subsumes 13 = .ok (.ifCond .ne 5, 3) := by decide +kernel
theorem d_M_subsumes_16 : decode b_M_subsumes 16 = .ok (.iconst 0, 1) := by decide +kernel
theorem d_M_subsumes_17 : decode b_M_subsumes 17 = .ok (.ireturn, 1) := by decide +kernel
theorem d_M_subsumes_18 : decode b_M_subsumes 18 = .ok (.iconst 0, 1) := by decide +kernel
theorem d_M_subsumes_19 : decode b_M_subsumes 19 = .ok (.istore_n 3, 1) := by decide +kernel
theorem d_M_subsumes_20 : decode b_M_subsumes 20 = .ok (.iconst 0, 1) := by decide +kernel
theorem d_M_subsumes_21 : decode b_M_subsumes 21 = .ok (.istore 4, 2) := by decide +kernel
theorem d_M_subsumes_23 : decode b_M_subsumes 23 = .ok (.iload 4, 2) := by decide +kernel
theorem d_M_subsumes_25 : decode b_M_subsumes 25 = .ok (.iconst 3, 1) := by decide +kernel
theorem d_M_subsumes_26 : decode b_M_subsumes 26 = .ok (.if_icmp .ge 129, 3) := by decide +kernel
theorem d_M_subsumes_29 : decode b_M_subsumes 29 = .ok (.iconst 1, 1) := by decide +kernel
theorem d_M_subsumes_30 : decode b_M_subsumes 30 = .ok (.istore 5, 2) := by decide +kernel
theorem d_M_subsumes_32 : decode b_M_subsumes 32 = .ok (.iconst 0, 1) := by decide +kernel
theorem d_M_subsumes_33 : decode b_M_subsumes 33 = .ok (.istore 6, 2) := by decide +kernel
theorem d_M_subsumes_35 : decode b_M_subsumes 35 = .ok (.iload 6, 2) := by decide +kernel
theorem d_M_subsumes_37 : decode b_M_subsumes 37 = .ok (.aload_n 0, 1) := by decide +kernel
theorem d_M_subsumes_38 : decode b_M_subsumes 38 = .ok (.getfield 20, 3) := by decide +kernel
theorem d_M_subsumes_41 : decode b_M_subsumes 41 = .ok (.iload_n 1, 1) := by decide +kernel
theorem d_M_subsumes_42 : decode b_M_subsumes 42 = .ok (.iaload, 1) := by decide +kernel
theorem d_M_subsumes_43 : decode b_M_subsumes 43 = .ok (.if_icmp .ge 91, 3) := by decide +kernel
theorem d_M_subsumes_46 : decode b_M_subsumes 46 = .ok (.iconst 0, 1) := by decide +kernel
theorem d_M_subsumes_47 : decode b_M_subsumes 47 = .ok (.istore 7, 2) := by decide +kernel
theorem d_M_subsumes_49 : decode b_M_subsumes 49 = .ok (.iconst 0, 1) := by decide +kernel
theorem d_M_subsumes_50 : decode b_M_subsumes 50 = .ok (.istore 8, 2) := by decide +kernel
theorem d_M_subsumes_52 : decode b_M_subsumes 52 = .ok (.iload 8, 2) := by decide +kernel
theorem d_M_subsumes_54 : decode b_M_subsumes 54 = .ok (.aload_n 0, 1) := by decide +kernel
theorem d_M_subsumes_55 : decode b_M_subsumes 55 = .ok (.getfield 20, 3) := by decide +kernel
theorem d_M_subsumes_58 : decode b_M_subsumes 58 = .ok (.iload_n 2, 1) := by decide +kernel
theorem d_M_subsumes_59 : decode b_M_subsumes 59 = .ok (.iaload, 1) := by decide +kernel
theorem d_M_subsumes_60 : decode b_M_subsumes 60 = .ok (.if_icmp .ge 51, 3) := by decide +kernel
theorem d_M_subsumes_63 : decode b_M_subsumes 63 = .ok (.iload 7, 2) := by decide +kernel
theorem d_M_subsumes_65 : decode b_M_subsumes 65 = .ok (.ifCond .ne 33, 3) := by decide +kernel
theorem d_M_subsumes_68 : decode b_M_subsumes 68 = .ok (.aload_n 0, 1) := by decide +kernel
theorem d_M_subsumes_69 : decode b_M_subsumes 69 = .ok (.getfield 23, 3) := by decide +kernel
theorem d_M_subsumes_72 : decode b_M_subsumes 72 = .ok (.iconst 3, 1) := by decide +kernel
theorem d_M_subsumes_73 : decode b_M_subsumes 73 = .ok (.iload_n 1, 1) := by decide +kernel
theorem d_M_subsumes_74 : decode b_M_subsumes 74 = .ok (.imul, 1) := by decide +kernel
theorem d_M_subsumes_75 : decode b_M_subsumes 75 = .ok (.iload 6, 2) := by decide +kernel
theorem d_M_subsumes_77 : decode b_M_subsumes 77 = .ok (.iadd, 1) := by decide +kernel
theorem d_M_subsumes_78 : decode b_M_subsumes 78 = .ok (.iaload, 1) := by decide +kernel
theorem d_M_subsumes_79 : decode b_M_subsumes 79 = .ok (.iload 4, 2) := by decide +kernel
theorem d_M_subsumes_81 : decode b_M_subsumes 81 = .ok (.invokestatic 115, 3) := by decide +kernel
theorem d_M_subsumes_84 : decode b_M_subsumes 84 = .ok (.aload_n 0, 1) := by decide +kernel
theorem d_M_subsumes_85 : decode b_M_subsumes 85 = .ok (.getfield 23, 3) := by decide +kernel
theorem d_M_subsumes_88 : decode b_M_subsumes 88 = .ok (.iconst 3, 1) := by decide +kernel
theorem d_M_subsumes_89 : decode b_M_subsumes 89 = .ok (.iload_n 2, 1) := by decide +kernel
theorem d_M_subsumes_90 : decode b_M_subsumes 90 = .ok (.imul, 1) := by decide +kernel
theorem d_M_subsumes_91 : decode b_M_subsumes 91 = .ok (.iload 8, 2) := by decide +kernel
theorem d_M_subsumes_93 : decode b_M_subsumes 93 = .ok (.iadd, 1) := by decide +kernel
theorem d_M_subsumes_94 : decode b_M_subsumes 94 = .ok (.iaload, 1) := by decide +kernel
theorem d_M_subsumes_95 : decode b_M_subsumes 95 = .ok (.if_icmp .ne 7, 3) := by decide +kernel
theorem d_M_subsumes_98 : decode b_M_subsumes 98 = .ok (.iconst 1, 1) := by decide +kernel
theorem d_M_subsumes_99 : decode b_M_subsumes 99 = .ok (.goto 4, 3) := by decide +kernel
theorem d_M_subsumes_102 : decode b_M_subsumes 102 = .ok (.iconst 0, 1) := by decide +kernel
theorem d_M_subsumes_103 : decode b_M_subsumes 103 = .ok (.istore 7, 2) := by decide +kernel
theorem d_M_subsumes_105 : decode b_M_subsumes 105 = .ok (.iinc 8 1, 3) := by decide +kernel
theorem d_M_subsumes_108 : decode b_M_subsumes 108 = .ok (.goto (-56), 3) := by decide +kernel
theorem d_M_subsumes_111 : decode b_M_subsumes 111 = .ok (.iload 5, 2) := by decide +kernel
theorem d_M_subsumes_113 : decode b_M_subsumes 113 = .ok (.ifCond .eq 12, 3) := by decide +kernel
theorem d_M_subsumes_116 : decode b_M_subsumes 116 = .ok (.iload 7, 2) := by decide +kernel
theorem d_M_subsumes_118 : decode b_M_subsumes 118 = .ok (.ifCond .eq 7, 3) := by decide +kernel
theorem d_M_subsumes_121 : decode b_M_subsumes 121 = .ok (.iconst 1, 1) := by decide +kernel
theorem d_M_subsumes_122 : decode b_M_subsumes 122 = .ok (.goto 4, 3) := by decide +kernel
theorem d_M_subsumes_125 : decode b_M_subsumes 125 = .ok (.iconst 0, 1) := by decide +kernel
theorem d_M_subsumes_126 : decode b_M_subsumes 126 = .ok (.istore 5, 2) := by decide +kernel
theorem d_M_subsumes_128 : decode b_M_subsumes 128 = .ok (.iinc 6 1, 3) := by decide +kernel
theorem d_M_subsumes_131 : decode b_M_subsumes 131 = .ok (.goto (-96), 3) := by decide +kernel
theorem d_M_subsumes_134 : decode b_M_subsumes 134 = .ok (.iload_n 3, 1) := by decide +kernel
theorem d_M_subsumes_135 : decode b_M_subsumes 135 = .ok (.ifCond .ne 8, 3) := by decide +kernel
theorem d_M_subsumes_138 : decode b_M_subsumes 138 = .ok (.iload 5, 2) := by decide +kernel
theorem d_M_subsumes_140 : decode b_M_subsumes 140 = .ok (.ifCond .eq 7, 3) := by decide +kernel
theorem d_M_subsumes_143 : decode b_M_subsumes 143 = .ok (.iconst 1, 1) := by decide +kernel
theorem d_M_subsumes_144 : decode b_M_subsumes 144 = .ok (.goto 4, 3) := by decide +kernel
theorem d_M_subsumes_147 : decode b_M_subsumes 147 = .ok (.iconst 0, 1) := by decide +kernel
theorem d_M_subsumes_148 : decode b_M_subsumes 148 = .ok (.istore_n 3, 1) := by decide +kernel
theorem d_M_subsumes_149 : decode b_M_subsumes 149 = .ok (.iinc 4 1, 3) := by decide +kernel
theorem d_M_subsumes_152 : decode b_M_subsumes 152 = .ok (.goto (-129), 3) := by decide +kernel
theorem d_M_subsumes_155 : decode b_M_subsumes 155 = .ok (.iload_n 3, 1) := by decide +kernel
theorem d_M_subsumes_156 : decode b_M_subsumes 156 = .ok (.ireturn, 1) := by decide +kernel
theorem d_M_valueOf_0 : decode b_M_valueOf 0 = .ok (.iload_n 0, 1) := by decide +kernel
theorem d_M_valueOf_1 : decode b_M_valueOf 1 = .ok (.ifCond .ne 7, 3) := by decide +kernel
theorem d_M_valueOf_4 : decode b_M_valueOf 4 = .ok (.iload_n 1, 1) := by decide +kernel
theorem d_M_valueOf_5 : decode b_M_valueOf 5 = .ok (.goto 13, 3) := by decide +kernel
theorem d_M_valueOf_8 : decode b_M_valueOf 8 = .ok (.iload_n 0, 1) := by decide +kernel
theorem d_M_valueOf_9 : decode b_M_valueOf 9 = .ok (.iconst 1, 1) := by decide +kernel
theorem d_M_valueOf_10 : decode b_M_valueOf 10 = .ok (.if_icmp .ne 7, 3) := by decide +kernel
theorem d_M_valueOf_13 : decode b_M_valueOf 13 = .ok (.iload_n 2, 1) := by decide +kernel
theorem d_M_valueOf_14 : decode b_M_valueOf 14 = .ok (.goto 4, 3) := by decide +kernel
theorem d_M_valueOf_17 : decode b_M_valueOf 17 = .ok (.iload_n 3, 1) := by decide +kernel
theorem d_M_valueOf_18 : decode b_M_valueOf 18 = .ok (.ireturn, 1) := by decide +kernel
theorem d_M_literalHolds_0 : decode b_M_literalHolds 0 = .ok (.iload_n 1, 1) := by decide +kernel
theorem d_M_literalHolds_1 : decode b_M_literalHolds 1 = .ok (.iconst 3, 1) := by decide +kernel
theorem d_M_literalHolds_2 : decode b_M_literalHolds 2 = .ok (.idiv, 1) := by decide +kernel
theorem d_M_literalHolds_3 : decode b_M_literalHolds 3 = .ok (.iconst 3, 1) := by decide +kernel
theorem d_M_literalHolds_4 : decode b_M_literalHolds 4 = .ok (.irem, 1) := by decide +kernel
theorem d_M_literalHolds_5 : decode b_M_literalHolds 5 = .ok (.iload_n 2, 1) := by decide +kernel
theorem d_M_literalHolds_6 : decode b_M_literalHolds 6 = .ok (.iload_n 3, 1) := by decide +kernel
theorem d_M_literalHolds_7 : decode b_M_literalHolds 7 = .ok (.iload 4, 2) := by decide +kernel
theorem d_M_literalHolds_9 : decode b_M_literalHolds 9 = .ok (.invokestatic 118, 3) := by decide +kernel
theorem d_M_literalHolds_12 : decode b_M_literalHolds 12 = .ok (.istore 5, 2) := by decide +kernel
theorem d_M_literalHolds_14 : decode b_M_literalHolds 14 = .ok (.iload_n 1, 1) := by decide +kernel
theorem d_M_literalHolds_15 : decode b_M_literalHolds 15 = .ok (.iconst 3, 1) := by decide +kernel
theorem d_M_literalHolds_16 : decode b_M_literalHolds 16 = .ok (.irem, 1) := by decide +kernel
theorem d_M_literalHolds_17 : decode b_M_literalHolds 17 = .ok (.iload_n 2, 1) := by decide +kernel
theorem d_M_literalHolds_18 : decode b_M_literalHolds 18 = .ok (.iload_n 3, 1) := by decide +kernel
theorem d_M_literalHolds_19 : decode b_M_literalHolds 19 = .ok (.iload 4, 2) := by decide +kernel
theorem d_M_literalHolds_21 : decode b_M_literalHolds 21 = .ok (.invokestatic 118, 3) := by decide +kernel
theorem d_M_literalHolds_24 : decode b_M_literalHolds 24 = .ok (.istore 6, 2) := by decide +kernel
theorem d_M_literalHolds_26 : decode b_M_literalHolds 26 = .ok (.iconst 4, 1) := by decide +kernel
theorem d_M_literalHolds_27 : decode b_M_literalHolds 27 = .ok (.iload 5, 2) := by decide +kernel
theorem d_M_literalHolds_29 : decode b_M_literalHolds 29 = .ok (.imul, 1) := by decide +kernel
theorem d_M_literalHolds_30 : decode b_M_literalHolds 30 = .ok (.iload 6, 2) := by decide +kernel
theorem d_M_literalHolds_32 : decode b_M_literalHolds 32 = .ok (.iadd, 1) := by decide +kernel
theorem d_M_literalHolds_33 : decode b_M_literalHolds 33 = .ok (.istore 7, 2) := by decide +kernel
theorem d_M_literalHolds_35 : decode b_M_literalHolds 35 = .ok (.iload_n 1, 1) := by decide +kernel
theorem d_M_literalHolds_36 : decode b_M_literalHolds 36 = .ok (.bipush 18, 2) := by decide +kernel
theorem d_M_literalHolds_38 : decode b_M_literalHolds 38 = .ok (.if_icmp .ge 21, 3) := by decide +kernel
theorem d_M_literalHolds_41 : decode b_M_literalHolds 41 = .ok (.aload_n 0, 1) := by decide +kernel
theorem d_M_literalHolds_42 : decode b_M_literalHolds 42 = .ok (.getfield 13, 3) := by decide +kernel
theorem d_M_literalHolds_45 : decode b_M_literalHolds 45 = .ok (.bipush 16, 2) := by decide +kernel
theorem d_M_literalHolds_47 : decode b_M_literalHolds 47 = .ok (.iload_n 1, 1) := by decide +kernel
theorem d_M_literalHolds_48 : decode b_M_literalHolds 48 = .ok (.bipush 9, 2) := by decide +kernel
theorem d_M_literalHolds_50 : decode b_M_literalHolds 50 = .ok (.idiv, 1) := by decide +kernel
theorem d_M_literalHolds_51 : decode b_M_literalHolds 51 = .ok (.imul, 1) := by decide +kernel
theorem d_M_literalHolds_52 : decode b_M_literalHolds 52 = .ok (.iload 7, 2) := by decide +kernel
theorem d_M_literalHolds_54 : decode b_M_literalHolds 54 = .ok (.iadd, 1) := by decide +kernel
theorem d_M_literalHolds_55 : decode b_M_literalHolds 55 = .ok (.baload, 1) := by decide +kernel
theorem d_M_literalHolds_56 : decode b_M_literalHolds 56 = .ok (.goto 18, 3) := by decide +kernel
theorem d_M_literalHolds_59 : decode b_M_literalHolds 59 = .ok (.aload_n 0, 1) := by decide +kernel
theorem d_M_literalHolds_60 : decode b_M_literalHolds 60 = .ok (.getfield 35, 3) := by decide +kernel
theorem d_M_literalHolds_63 : decode b_M_literalHolds 63 = .ok (.iload 7, 2) := by decide +kernel
theorem d_M_literalHolds_65 : decode b_M_literalHolds 65 = .ok (.iaload, 1) := by decide +kernel
theorem d_M_literalHolds_66 : decode b_M_literalHolds 66 = .ok (.ifCond .le 7, 3) := by decide +kernel
theorem d_M_literalHolds_69 : decode b_M_literalHolds 69 = .ok (.iconst 1, 1) := by decide +kernel
theorem d_M_literalHolds_70 : decode b_M_literalHolds 70 = .ok (.goto 4, 3) := by decide +kernel
theorem d_M_literalHolds_73 : decode b_M_literalHolds 73 = .ok (.iconst 0, 1) := by decide +kernel
theorem d_M_literalHolds_74 : decode b_M_literalHolds 74 = .ok (.ireturn, 1) := by decide +kernel
set_option maxHeartbeats 1000000 in
set_option maxRecDepth 100000 in
theorem c_M_replaced (l : Launch) (dC : Nat → ClassId) (dI : Nat → Nat → Nat) (sz : Nat)  (x0 : Int32) (x1 : Int32) (r0 : Int32) (u0 : Unit) (h : m_M_replaced x0 x1 = some (r0, u0)) : Met l y_M_replaced w_M_replaced ({ frames := 0, cells := 0, slots := 0, locals := 0 } : Room) (va_Pc [.int x0, .int x1] (fun U => U.heap.size = sz ∧ va_P (dC, dI) classes [] U.heap ∧ va_K (dC, dI) classes [] U ∧ va_D (fun _ => True) [])) (va_Qi (fun (r : Int32) (u : Unit) => r = r0 ∧ u = u0) (fun (u : Unit) (t : State) => va_P (dC, dI) classes [] t.heap ∧ va_K (dC, dI) classes [] t ∧ va_D (va_A [] sz) []) (va_A [] sz)) 0 0 (va_A [] sz) := by
  refine Met.ofW (cc := b_M_replaced) (maxL := 4) (ret := (some .int)) (by decide) rfl ?_
  intro p e s m args below meth c s₁ B hml hv
  obtain ⟨rfl, hsz, hP, hK, hD0⟩ := hv
  have hx := B.exec
  have hb := B.bytes
  have hr := B.returns
  have hts0 := atoms_spec (ws := w_M_replaced) B.pre
  have hts : ∀ w ∈ lw_gd, w.before ([.int x0, .int x1] : List Value).toArray s = true := fun w h9 => hts0 w (List.mem_cons_of_mem _ h9)
  have hown : s.vm.findClass R_M = some m.cls := findClass_of_methodNamed B.named
  have hlocks := B.notSynchronized
  subst hsz
  have hD := hD0.self (sz := s.heap.size)
  generalize hAe : va_A [] s.heap.size = A at hD ⊢
  have hA : ∀ q : Nat, s.heap.size ≤ q → A q := fun q h9 => by rw [← hAe]; exact Or.inr h9
  obtain ⟨H, eH⟩ : ∃ H : Heap, H = s.heap := ⟨_, rfl⟩
  have hS : va_S A s.heap H [] := by rw [eH]; exact va_S.rf
  have hP : va_P (dC, dI) classes [] H := by rw [eH]; exact hP
  refine W_gen (fun Q hQ => ?_)
  refine W_heap eH ?_
  clear eH
  have hl := lv_entry ([.int x0, .int x1]) (n := 4) (Nat.le_of_ble_eq_true rfl)
  rw [lg_entry_eq]
  generalize (lg_sl ([.int x0, .int x1]) ++ List.replicate (4 - (lg_sl ([.int x0, .int x1])).length) Slot.unset).toArray = ls at hl ⊢
  have hl : lv_has ls 4 [(0, .int x0), (1, .int x1)] := hl
  have J_33 : ∀ (z0 : Int32) (z2 : Int32) (y0 : Int32), m_M_replaced_33 z0 z2 y0 = some (r0, u0) → ∀ (H : Heap) (locs : List Loc), va_P (dC, dI) classes [] H → va_D A [] → va_S A s.heap H locs → ∀ (ls : Array Slot), lv_has ls 4 [(0, .int z0), (2, .int z2)] → W p l e (headSpec w_M_replaced ({ frames := 0, cells := 0, slots := 0, locals := 0 } : Room)).room s m ([.int x0, .int x1] : List Value).toArray below meth c H locs 0 0 Q (F0 m 33 ls [.int y0]) := by
    intro z0 z2 y0 h H locs hP hD hS ls hl
    unfold m_M_replaced_33 at h
    refine lv_istore_n (lv' := [(3, .int y0), (0, .int z0), (2, .int z2)]) hx hb d_M_replaced_33 rfl hl (by decide) rfl (fun ls hl => ?_)
    refine lv_iload_n hx hb d_M_replaced_34 rfl (lv_at hl 1 rfl) ?_
    refine lv_bipush (v := (nI 9)) hx hb d_M_replaced_35 (by decide) ?_
    refine lv_idiv hx hb d_M_replaced_37 (by decide) ?_
    refine lv_bipush (v := (nI 9)) hx hb d_M_replaced_38 (by decide) ?_
    refine lv_imul hx hb d_M_replaced_40 ?_
    refine lv_iconst (v := (nI 3)) hx hb d_M_replaced_41 (by decide) ?_
    refine lv_iload_n hx hb d_M_replaced_42 rfl (lv_at hl 2 rfl) ?_
    refine lv_imul hx hb d_M_replaced_43 ?_
    refine lv_iadd hx hb d_M_replaced_44 ?_
    refine lv_iload_n hx hb d_M_replaced_45 rfl (lv_at hl 0 rfl) ?_
    refine lv_iadd hx hb d_M_replaced_46 ?_
    rw [hQ]
    exact W.iret (v := (((z0 / (nI 9)) * (nI 9)) + ((nI 3) * z2)) + y0) hx hb hr (fun t ht hW => ⟨⟨(((z0 / (nI 9)) * (nI 9)) + ((nI 3) * z2)) + y0, (), rfl, Prod.mk.inj (Option.some.inj h), by rw [ht]; exact hP, va_K.moved hW.alike hK, hD⟩, hS.F ht⟩) hS.2.2 d_M_replaced_47
  have J_18 : ∀ (z0 : Int32) (z1 : Int32) (y0 : Int32), m_M_replaced_18 z0 z1 y0 = some (r0, u0) → ∀ (H : Heap) (locs : List Loc), va_P (dC, dI) classes [] H → va_D A [] → va_S A s.heap H locs → ∀ (ls : Array Slot), lv_has ls 4 [(0, .int z0), (1, .int z1)] → W p l e (headSpec w_M_replaced ({ frames := 0, cells := 0, slots := 0, locals := 0 } : Room)).room s m ([.int x0, .int x1] : List Value).toArray below meth c H locs 0 0 Q (F0 m 18 ls [.int y0]) := by
    intro z0 z1 y0 h H locs hP hD hS ls hl
    unfold m_M_replaced_18 at h
    refine lv_istore_n (lv' := [(2, .int y0), (0, .int z0), (1, .int z1)]) hx hb d_M_replaced_18 rfl hl (by decide) rfl (fun ls hl => ?_)
    refine lv_iload_n hx hb d_M_replaced_19 rfl (lv_at hl 1 rfl) ?_
    refine lv_iconst (v := (nI 3)) hx hb d_M_replaced_20 (by decide) ?_
    refine lv_irem hx hb d_M_replaced_21 (by decide) ?_
    refine lv_iconst (v := (nI 2)) hx hb d_M_replaced_22 (by decide) ?_
    refine lv_icmp_ne (tgt := 30) hx hb d_M_replaced_23 (by decide) (fun c_23 => ?_) (fun c_23 => ?_)
    · have h := of_neg h c_23
      refine lv_iload_n hx hb d_M_replaced_30 rfl (lv_at hl 1 rfl) ?_
      refine lv_iconst (v := (nI 3)) hx hb d_M_replaced_31 (by decide) ?_
      refine lv_irem hx hb d_M_replaced_32 (by decide) ?_
      exact J_33 z0 y0 (irm z0 (nI 3)) h _ _ hP hD hS ls (lv_sub hl [1, 0] rfl)
    · have h := of_pos h c_23
      refine lv_iload_n hx hb d_M_replaced_26 rfl (lv_at hl 2 rfl) ?_
      refine lv_goto (tgt := 33) hx hb d_M_replaced_27 (by decide) ?_
      exact J_33 z0 y0 z1 h _ _ hP hD hS ls (lv_sub hl [1, 0] rfl)
  unfold m_M_replaced at h
  refine lv_iload_n hx hb d_M_replaced_0 rfl (lv_at hl 0 rfl) ?_
  refine lv_iconst (v := (nI 3)) hx hb d_M_replaced_1 (by decide) ?_
  refine lv_idiv hx hb d_M_replaced_2 (by decide) ?_
  refine lv_iconst (v := (nI 3)) hx hb d_M_replaced_3 (by decide) ?_
  refine lv_irem hx hb d_M_replaced_4 (by decide) ?_
  refine lv_iconst (v := (nI 2)) hx hb d_M_replaced_5 (by decide) ?_
  refine lv_icmp_ne (tgt := 13) hx hb d_M_replaced_6 (by decide) (fun c_6 => ?_) (fun c_6 => ?_)
  · have h := of_neg h c_6
    refine lv_iload_n hx hb d_M_replaced_13 rfl (lv_at hl 0 rfl) ?_
    refine lv_iconst (v := (nI 3)) hx hb d_M_replaced_14 (by decide) ?_
    refine lv_idiv hx hb d_M_replaced_15 (by decide) ?_
    refine lv_iconst (v := (nI 3)) hx hb d_M_replaced_16 (by decide) ?_
    refine lv_irem hx hb d_M_replaced_17 (by decide) ?_
    exact J_18 x0 x1 (irm (x0 / (nI 3)) (nI 3)) h _ _ hP hD hS ls (lv_sub hl [0, 1] rfl)
  · have h := of_pos h c_6
    refine lv_iload_n hx hb d_M_replaced_9 rfl (lv_at hl 1 rfl) ?_
    refine lv_goto (tgt := 18) hx hb d_M_replaced_10 (by decide) ?_
    exact J_18 x0 x1 x1 h _ _ hP hD hS ls (lv_sub hl [0, 1] rfl)
set_option maxHeartbeats 1000000 in
set_option maxRecDepth 100000 in
theorem c_M_subsumes (l : Launch) (dC : Nat → ClassId) (dI : Nat → Nat → Nat) (h_o h_line h_fact h_marked h_many h_codes h_oldMany h_oldCodes h_body h_roundOf h_fresh : Nat) (k_many k_codes : ClassId) (sz : Nat) (v_typed : Int32) (v_count : Int32) (v_oldCount : Int32) (v_read : Int32) (v_last : Int32) (v_many : Nat → Int32) (v_codes : Nat → Int32) (x1 : Int32) (x2 : Int32) (r0 : Int32) (u0 : Unit) (h : m_M_subsumes v_count v_many v_codes x1 x2 = some (r0, u0)) : Met l y_M_subsumes w_M_subsumes ({ frames := 1, cells := 0, slots := 0, locals := 23 } : Room) (va_Pc [.ref h_o, .int x1, .int x2] (fun U => U.heap.size = sz ∧ va_P (dC, dI) classes [(h_o, .inr (4, [.ref h_line, .int v_typed, .ref h_fact, .ref h_marked, .int v_count, .ref h_many, .ref h_codes, .int v_oldCount, .ref h_oldMany, .ref h_oldCodes, .int v_read, .ref h_body, .ref h_roundOf, .ref h_fresh, .int v_last])), (h_many, .inl (k_many, 2, .inl v_many)), (h_codes, .inl (k_codes, 6, .inl v_codes))] U.heap ∧ va_K (dC, dI) classes [(k_many, .int), (k_codes, .int)] U ∧ va_D (fun _ => True) [(h_o, .inr (4, [.ref h_line, .int v_typed, .ref h_fact, .ref h_marked, .int v_count, .ref h_many, .ref h_codes, .int v_oldCount, .ref h_oldMany, .ref h_oldCodes, .int v_read, .ref h_body, .ref h_roundOf, .ref h_fresh, .int v_last])), (h_many, .inl (k_many, 2, .inl v_many)), (h_codes, .inl (k_codes, 6, .inl v_codes))])) (va_Qi (fun (r : Int32) (u : Unit) => r = r0 ∧ u = u0) (fun (u : Unit) (t : State) => va_P (dC, dI) classes [(h_o, .inr (4, [.ref h_line, .int v_typed, .ref h_fact, .ref h_marked, .int v_count, .ref h_many, .ref h_codes, .int v_oldCount, .ref h_oldMany, .ref h_oldCodes, .int v_read, .ref h_body, .ref h_roundOf, .ref h_fresh, .int v_last])), (h_many, .inl (k_many, 2, .inl v_many)), (h_codes, .inl (k_codes, 6, .inl v_codes))] t.heap ∧ va_K (dC, dI) classes [(k_many, .int), (k_codes, .int)] t ∧ va_D (va_A [(h_o, .inr (4, [.ref h_line, .int v_typed, .ref h_fact, .ref h_marked, .int v_count, .ref h_many, .ref h_codes, .int v_oldCount, .ref h_oldMany, .ref h_oldCodes, .int v_read, .ref h_body, .ref h_roundOf, .ref h_fresh, .int v_last])), (h_many, .inl (k_many, 2, .inl v_many)), (h_codes, .inl (k_codes, 6, .inl v_codes))] sz) [(h_o, .inr (4, [.ref h_line, .int v_typed, .ref h_fact, .ref h_marked, .int v_count, .ref h_many, .ref h_codes, .int v_oldCount, .ref h_oldMany, .ref h_oldCodes, .int v_read, .ref h_body, .ref h_roundOf, .ref h_fresh, .int v_last])), (h_many, .inl (k_many, 2, .inl v_many)), (h_codes, .inl (k_codes, 6, .inl v_codes))]) (va_A [(h_o, .inr (4, [.ref h_line, .int v_typed, .ref h_fact, .ref h_marked, .int v_count, .ref h_many, .ref h_codes, .int v_oldCount, .ref h_oldMany, .ref h_oldCodes, .int v_read, .ref h_body, .ref h_roundOf, .ref h_fresh, .int v_last])), (h_many, .inl (k_many, 2, .inl v_many)), (h_codes, .inl (k_codes, 6, .inl v_codes))] sz)) 0 0 (va_A [(h_o, .inr (4, [.ref h_line, .int v_typed, .ref h_fact, .ref h_marked, .int v_count, .ref h_many, .ref h_codes, .int v_oldCount, .ref h_oldMany, .ref h_oldCodes, .int v_read, .ref h_body, .ref h_roundOf, .ref h_fresh, .int v_last])), (h_many, .inl (k_many, 2, .inl v_many)), (h_codes, .inl (k_codes, 6, .inl v_codes))] sz) := by
  refine Met.ofW (cc := b_M_subsumes) (maxL := 9) (ret := (some .boolean)) (by decide) rfl ?_
  intro p e s m args below meth c s₁ B hml hv
  obtain ⟨rfl, hsz, hP, hK, hD0⟩ := hv
  have hx := B.exec
  have hb := B.bytes
  have hr := B.returns
  have hts0 := atoms_spec (ws := w_M_subsumes) B.pre
  have hts : ∀ w ∈ lw_gd, w.before ([.ref h_o, .int x1, .int x2] : List Value).toArray s = true := fun w h9 => hts0 w (List.mem_cons_of_mem _ h9)
  have hown : s.vm.findClass R_M = some m.cls := findClass_of_methodNamed B.named
  have hlocks := B.notSynchronized
  subst hsz
  have hD := hD0.self (sz := s.heap.size)
  generalize hAe : va_A [(h_o, .inr (4, [.ref h_line, .int v_typed, .ref h_fact, .ref h_marked, .int v_count, .ref h_many, .ref h_codes, .int v_oldCount, .ref h_oldMany, .ref h_oldCodes, .int v_read, .ref h_body, .ref h_roundOf, .ref h_fresh, .int v_last])), (h_many, .inl (k_many, 2, .inl v_many)), (h_codes, .inl (k_codes, 6, .inl v_codes))] s.heap.size = A at hD ⊢
  have hA : ∀ q : Nat, s.heap.size ≤ q → A q := fun q h9 => by rw [← hAe]; exact Or.inr h9
  obtain ⟨H, eH⟩ : ∃ H : Heap, H = s.heap := ⟨_, rfl⟩
  have hS : va_S A s.heap H [] := by rw [eH]; exact va_S.rf
  have hP : va_P (dC, dI) classes [(h_o, .inr (4, [.ref h_line, .int v_typed, .ref h_fact, .ref h_marked, .int v_count, .ref h_many, .ref h_codes, .int v_oldCount, .ref h_oldMany, .ref h_oldCodes, .int v_read, .ref h_body, .ref h_roundOf, .ref h_fresh, .int v_last])), (h_many, .inl (k_many, 2, .inl v_many)), (h_codes, .inl (k_codes, 6, .inl v_codes))] H := by rw [eH]; exact hP
  refine W_gen (fun Q hQ => ?_)
  refine W_heap eH ?_
  clear eH
  have hl := lv_entry ([.ref h_o, .int x1, .int x2]) (n := 9) (Nat.le_of_ble_eq_true rfl)
  rw [lg_entry_eq]
  generalize (lg_sl ([.ref h_o, .int x1, .int x2]) ++ List.replicate (9 - (lg_sl ([.ref h_o, .int x1, .int x2])).length) Slot.unset).toArray = ls at hl ⊢
  have hl : lv_has ls 9 [(0, .ref h_o), (1, .int x1), (2, .int x2)] := hl
  have J_148 : ∀ (k_23 : Int32 → Int32 → Int32 → Int32 → Option (Int32 × Unit)) (hk_23 : ∀ (z1 : Int32) (z2 : Int32) (z3 : Int32) (z4 : Int32), k_23 z1 z2 z3 z4 = some (r0, u0) → ∀ (H : Heap) (locs : List Loc), va_P (dC, dI) classes [(h_o, .inr (4, [.ref h_line, .int v_typed, .ref h_fact, .ref h_marked, .int v_count, .ref h_many, .ref h_codes, .int v_oldCount, .ref h_oldMany, .ref h_oldCodes, .int v_read, .ref h_body, .ref h_roundOf, .ref h_fresh, .int v_last])), (h_many, .inl (k_many, 2, .inl v_many)), (h_codes, .inl (k_codes, 6, .inl v_codes))] H → va_D A [(h_o, .inr (4, [.ref h_line, .int v_typed, .ref h_fact, .ref h_marked, .int v_count, .ref h_many, .ref h_codes, .int v_oldCount, .ref h_oldMany, .ref h_oldCodes, .int v_read, .ref h_body, .ref h_roundOf, .ref h_fresh, .int v_last])), (h_many, .inl (k_many, 2, .inl v_many)), (h_codes, .inl (k_codes, 6, .inl v_codes))] → va_S A s.heap H locs → ∀ (ls : Array Slot), lv_has ls 9 [(0, .ref h_o), (1, .int z1), (2, .int z2), (3, .int z3), (4, .int z4)] → W p l e (headSpec w_M_subsumes ({ frames := 1, cells := 0, slots := 0, locals := 23 } : Room)).room s m ([.ref h_o, .int x1, .int x2] : List Value).toArray below meth c H locs 0 0 Q (F0 m 23 ls [])) (z1 : Int32) (z2 : Int32) (z4 : Int32) (y0 : Int32), m_M_subsumes_148 v_count v_many v_codes k_23 z1 z2 z4 y0 = some (r0, u0) → ∀ (H : Heap) (locs : List Loc), va_P (dC, dI) classes [(h_o, .inr (4, [.ref h_line, .int v_typed, .ref h_fact, .ref h_marked, .int v_count, .ref h_many, .ref h_codes, .int v_oldCount, .ref h_oldMany, .ref h_oldCodes, .int v_read, .ref h_body, .ref h_roundOf, .ref h_fresh, .int v_last])), (h_many, .inl (k_many, 2, .inl v_many)), (h_codes, .inl (k_codes, 6, .inl v_codes))] H → va_D A [(h_o, .inr (4, [.ref h_line, .int v_typed, .ref h_fact, .ref h_marked, .int v_count, .ref h_many, .ref h_codes, .int v_oldCount, .ref h_oldMany, .ref h_oldCodes, .int v_read, .ref h_body, .ref h_roundOf, .ref h_fresh, .int v_last])), (h_many, .inl (k_many, 2, .inl v_many)), (h_codes, .inl (k_codes, 6, .inl v_codes))] → va_S A s.heap H locs → ∀ (ls : Array Slot), lv_has ls 9 [(0, .ref h_o), (1, .int z1), (2, .int z2), (4, .int z4)] → W p l e (headSpec w_M_subsumes ({ frames := 1, cells := 0, slots := 0, locals := 23 } : Room)).room s m ([.ref h_o, .int x1, .int x2] : List Value).toArray below meth c H locs 0 0 Q (F0 m 148 ls [.int y0]) := by
    intro k_23 hk_23 z1 z2 z4 y0 h H locs hP hD hS ls hl
    unfold m_M_subsumes_148 at h
    refine lv_istore_n (lv' := [(3, .int y0), (0, .ref h_o), (1, .int z1), (2, .int z2), (4, .int z4)]) hx hb d_M_subsumes_148 rfl hl (by decide) rfl (fun ls hl => ?_)
    refine lv_iinc (v := z4 + (nI 1)) (lv' := [(4, .int (z4 + (nI 1))), (3, .int y0), (0, .ref h_o), (1, .int z1), (2, .int z2)]) hx hb d_M_subsumes_149 hl (k := 4) rfl rfl (by decide) rfl (fun ls hl => ?_)
    refine lv_goto (tgt := 23) hx hb d_M_subsumes_152 (by decide) ?_
    exact hk_23 z1 z2 y0 (z4 + (nI 1)) h _ _ hP hD hS ls (lv_sub hl [2, 3, 4, 1, 0] rfl)
  have J_143 : ∀ (k_23 : Int32 → Int32 → Int32 → Int32 → Option (Int32 × Unit)) (hk_23 : ∀ (z1 : Int32) (z2 : Int32) (z3 : Int32) (z4 : Int32), k_23 z1 z2 z3 z4 = some (r0, u0) → ∀ (H : Heap) (locs : List Loc), va_P (dC, dI) classes [(h_o, .inr (4, [.ref h_line, .int v_typed, .ref h_fact, .ref h_marked, .int v_count, .ref h_many, .ref h_codes, .int v_oldCount, .ref h_oldMany, .ref h_oldCodes, .int v_read, .ref h_body, .ref h_roundOf, .ref h_fresh, .int v_last])), (h_many, .inl (k_many, 2, .inl v_many)), (h_codes, .inl (k_codes, 6, .inl v_codes))] H → va_D A [(h_o, .inr (4, [.ref h_line, .int v_typed, .ref h_fact, .ref h_marked, .int v_count, .ref h_many, .ref h_codes, .int v_oldCount, .ref h_oldMany, .ref h_oldCodes, .int v_read, .ref h_body, .ref h_roundOf, .ref h_fresh, .int v_last])), (h_many, .inl (k_many, 2, .inl v_many)), (h_codes, .inl (k_codes, 6, .inl v_codes))] → va_S A s.heap H locs → ∀ (ls : Array Slot), lv_has ls 9 [(0, .ref h_o), (1, .int z1), (2, .int z2), (3, .int z3), (4, .int z4)] → W p l e (headSpec w_M_subsumes ({ frames := 1, cells := 0, slots := 0, locals := 23 } : Room)).room s m ([.ref h_o, .int x1, .int x2] : List Value).toArray below meth c H locs 0 0 Q (F0 m 23 ls [])) (z1 : Int32) (z2 : Int32) (z4 : Int32), m_M_subsumes_143 v_count v_many v_codes k_23 z1 z2 z4 = some (r0, u0) → ∀ (H : Heap) (locs : List Loc), va_P (dC, dI) classes [(h_o, .inr (4, [.ref h_line, .int v_typed, .ref h_fact, .ref h_marked, .int v_count, .ref h_many, .ref h_codes, .int v_oldCount, .ref h_oldMany, .ref h_oldCodes, .int v_read, .ref h_body, .ref h_roundOf, .ref h_fresh, .int v_last])), (h_many, .inl (k_many, 2, .inl v_many)), (h_codes, .inl (k_codes, 6, .inl v_codes))] H → va_D A [(h_o, .inr (4, [.ref h_line, .int v_typed, .ref h_fact, .ref h_marked, .int v_count, .ref h_many, .ref h_codes, .int v_oldCount, .ref h_oldMany, .ref h_oldCodes, .int v_read, .ref h_body, .ref h_roundOf, .ref h_fresh, .int v_last])), (h_many, .inl (k_many, 2, .inl v_many)), (h_codes, .inl (k_codes, 6, .inl v_codes))] → va_S A s.heap H locs → ∀ (ls : Array Slot), lv_has ls 9 [(0, .ref h_o), (1, .int z1), (2, .int z2), (4, .int z4)] → W p l e (headSpec w_M_subsumes ({ frames := 1, cells := 0, slots := 0, locals := 23 } : Room)).room s m ([.ref h_o, .int x1, .int x2] : List Value).toArray below meth c H locs 0 0 Q (F0 m 143 ls []) := by
    intro k_23 hk_23 z1 z2 z4 h H locs hP hD hS ls hl
    unfold m_M_subsumes_143 at h
    refine lv_iconst (v := (nI 1)) hx hb d_M_subsumes_143 (by decide) ?_
    refine lv_goto (tgt := 148) hx hb d_M_subsumes_144 (by decide) ?_
    exact J_148 k_23 hk_23 z1 z2 z4 (nI 1) h _ _ hP hD hS ls (lv_sub hl [0, 1, 2, 3] rfl)
  have J_126 : ∀ (k_35 : Int32 → Int32 → Int32 → Int32 → Int32 → Int32 → Option (Int32 × Unit)) (hk_35 : ∀ (z1 : Int32) (z2 : Int32) (z3 : Int32) (z4 : Int32) (z5 : Int32) (z6 : Int32), k_35 z1 z2 z3 z4 z5 z6 = some (r0, u0) → ∀ (H : Heap) (locs : List Loc), va_P (dC, dI) classes [(h_o, .inr (4, [.ref h_line, .int v_typed, .ref h_fact, .ref h_marked, .int v_count, .ref h_many, .ref h_codes, .int v_oldCount, .ref h_oldMany, .ref h_oldCodes, .int v_read, .ref h_body, .ref h_roundOf, .ref h_fresh, .int v_last])), (h_many, .inl (k_many, 2, .inl v_many)), (h_codes, .inl (k_codes, 6, .inl v_codes))] H → va_D A [(h_o, .inr (4, [.ref h_line, .int v_typed, .ref h_fact, .ref h_marked, .int v_count, .ref h_many, .ref h_codes, .int v_oldCount, .ref h_oldMany, .ref h_oldCodes, .int v_read, .ref h_body, .ref h_roundOf, .ref h_fresh, .int v_last])), (h_many, .inl (k_many, 2, .inl v_many)), (h_codes, .inl (k_codes, 6, .inl v_codes))] → va_S A s.heap H locs → ∀ (ls : Array Slot), lv_has ls 9 [(0, .ref h_o), (1, .int z1), (2, .int z2), (3, .int z3), (4, .int z4), (5, .int z5), (6, .int z6)] → W p l e (headSpec w_M_subsumes ({ frames := 1, cells := 0, slots := 0, locals := 23 } : Room)).room s m ([.ref h_o, .int x1, .int x2] : List Value).toArray below meth c H locs 0 0 Q (F0 m 35 ls [])) (z1 : Int32) (z2 : Int32) (z3 : Int32) (z4 : Int32) (z6 : Int32) (y0 : Int32), m_M_subsumes_126 v_count v_many v_codes k_35 z1 z2 z3 z4 z6 y0 = some (r0, u0) → ∀ (H : Heap) (locs : List Loc), va_P (dC, dI) classes [(h_o, .inr (4, [.ref h_line, .int v_typed, .ref h_fact, .ref h_marked, .int v_count, .ref h_many, .ref h_codes, .int v_oldCount, .ref h_oldMany, .ref h_oldCodes, .int v_read, .ref h_body, .ref h_roundOf, .ref h_fresh, .int v_last])), (h_many, .inl (k_many, 2, .inl v_many)), (h_codes, .inl (k_codes, 6, .inl v_codes))] H → va_D A [(h_o, .inr (4, [.ref h_line, .int v_typed, .ref h_fact, .ref h_marked, .int v_count, .ref h_many, .ref h_codes, .int v_oldCount, .ref h_oldMany, .ref h_oldCodes, .int v_read, .ref h_body, .ref h_roundOf, .ref h_fresh, .int v_last])), (h_many, .inl (k_many, 2, .inl v_many)), (h_codes, .inl (k_codes, 6, .inl v_codes))] → va_S A s.heap H locs → ∀ (ls : Array Slot), lv_has ls 9 [(0, .ref h_o), (1, .int z1), (2, .int z2), (3, .int z3), (4, .int z4), (6, .int z6)] → W p l e (headSpec w_M_subsumes ({ frames := 1, cells := 0, slots := 0, locals := 23 } : Room)).room s m ([.ref h_o, .int x1, .int x2] : List Value).toArray below meth c H locs 0 0 Q (F0 m 126 ls [.int y0]) := by
    intro k_35 hk_35 z1 z2 z3 z4 z6 y0 h H locs hP hD hS ls hl
    unfold m_M_subsumes_126 at h
    refine lv_istore (lv' := [(5, .int y0), (0, .ref h_o), (1, .int z1), (2, .int z2), (3, .int z3), (4, .int z4), (6, .int z6)]) hx hb d_M_subsumes_126 hl (by decide) rfl (fun ls hl => ?_)
    refine lv_iinc (v := z6 + (nI 1)) (lv' := [(6, .int (z6 + (nI 1))), (5, .int y0), (0, .ref h_o), (1, .int z1), (2, .int z2), (3, .int z3), (4, .int z4)]) hx hb d_M_subsumes_128 hl (k := 6) rfl rfl (by decide) rfl (fun ls hl => ?_)
    refine lv_goto (tgt := 35) hx hb d_M_subsumes_131 (by decide) ?_
    exact hk_35 z1 z2 z3 z4 y0 (z6 + (nI 1)) h _ _ hP hD hS ls (lv_sub hl [2, 3, 4, 5, 6, 1, 0] rfl)
  have J_125 : ∀ (k_35 : Int32 → Int32 → Int32 → Int32 → Int32 → Int32 → Option (Int32 × Unit)) (hk_35 : ∀ (z1 : Int32) (z2 : Int32) (z3 : Int32) (z4 : Int32) (z5 : Int32) (z6 : Int32), k_35 z1 z2 z3 z4 z5 z6 = some (r0, u0) → ∀ (H : Heap) (locs : List Loc), va_P (dC, dI) classes [(h_o, .inr (4, [.ref h_line, .int v_typed, .ref h_fact, .ref h_marked, .int v_count, .ref h_many, .ref h_codes, .int v_oldCount, .ref h_oldMany, .ref h_oldCodes, .int v_read, .ref h_body, .ref h_roundOf, .ref h_fresh, .int v_last])), (h_many, .inl (k_many, 2, .inl v_many)), (h_codes, .inl (k_codes, 6, .inl v_codes))] H → va_D A [(h_o, .inr (4, [.ref h_line, .int v_typed, .ref h_fact, .ref h_marked, .int v_count, .ref h_many, .ref h_codes, .int v_oldCount, .ref h_oldMany, .ref h_oldCodes, .int v_read, .ref h_body, .ref h_roundOf, .ref h_fresh, .int v_last])), (h_many, .inl (k_many, 2, .inl v_many)), (h_codes, .inl (k_codes, 6, .inl v_codes))] → va_S A s.heap H locs → ∀ (ls : Array Slot), lv_has ls 9 [(0, .ref h_o), (1, .int z1), (2, .int z2), (3, .int z3), (4, .int z4), (5, .int z5), (6, .int z6)] → W p l e (headSpec w_M_subsumes ({ frames := 1, cells := 0, slots := 0, locals := 23 } : Room)).room s m ([.ref h_o, .int x1, .int x2] : List Value).toArray below meth c H locs 0 0 Q (F0 m 35 ls [])) (z1 : Int32) (z2 : Int32) (z3 : Int32) (z4 : Int32) (z6 : Int32), m_M_subsumes_125 v_count v_many v_codes k_35 z1 z2 z3 z4 z6 = some (r0, u0) → ∀ (H : Heap) (locs : List Loc), va_P (dC, dI) classes [(h_o, .inr (4, [.ref h_line, .int v_typed, .ref h_fact, .ref h_marked, .int v_count, .ref h_many, .ref h_codes, .int v_oldCount, .ref h_oldMany, .ref h_oldCodes, .int v_read, .ref h_body, .ref h_roundOf, .ref h_fresh, .int v_last])), (h_many, .inl (k_many, 2, .inl v_many)), (h_codes, .inl (k_codes, 6, .inl v_codes))] H → va_D A [(h_o, .inr (4, [.ref h_line, .int v_typed, .ref h_fact, .ref h_marked, .int v_count, .ref h_many, .ref h_codes, .int v_oldCount, .ref h_oldMany, .ref h_oldCodes, .int v_read, .ref h_body, .ref h_roundOf, .ref h_fresh, .int v_last])), (h_many, .inl (k_many, 2, .inl v_many)), (h_codes, .inl (k_codes, 6, .inl v_codes))] → va_S A s.heap H locs → ∀ (ls : Array Slot), lv_has ls 9 [(0, .ref h_o), (1, .int z1), (2, .int z2), (3, .int z3), (4, .int z4), (6, .int z6)] → W p l e (headSpec w_M_subsumes ({ frames := 1, cells := 0, slots := 0, locals := 23 } : Room)).room s m ([.ref h_o, .int x1, .int x2] : List Value).toArray below meth c H locs 0 0 Q (F0 m 125 ls []) := by
    intro k_35 hk_35 z1 z2 z3 z4 z6 h H locs hP hD hS ls hl
    unfold m_M_subsumes_125 at h
    refine lv_iconst (v := (nI 0)) hx hb d_M_subsumes_125 (by decide) ?_
    exact J_126 k_35 hk_35 z1 z2 z3 z4 z6 (nI 0) h _ _ hP hD hS ls (lv_sub hl [0, 1, 2, 3, 4, 5] rfl)
  have J_103 : ∀ (k_52 : Int32 → Int32 → Int32 → Int32 → Int32 → Int32 → Int32 → Int32 → Option (Int32 × Unit)) (hk_52 : ∀ (z1 : Int32) (z2 : Int32) (z3 : Int32) (z4 : Int32) (z5 : Int32) (z6 : Int32) (z7 : Int32) (z8 : Int32), k_52 z1 z2 z3 z4 z5 z6 z7 z8 = some (r0, u0) → ∀ (H : Heap) (locs : List Loc), va_P (dC, dI) classes [(h_o, .inr (4, [.ref h_line, .int v_typed, .ref h_fact, .ref h_marked, .int v_count, .ref h_many, .ref h_codes, .int v_oldCount, .ref h_oldMany, .ref h_oldCodes, .int v_read, .ref h_body, .ref h_roundOf, .ref h_fresh, .int v_last])), (h_many, .inl (k_many, 2, .inl v_many)), (h_codes, .inl (k_codes, 6, .inl v_codes))] H → va_D A [(h_o, .inr (4, [.ref h_line, .int v_typed, .ref h_fact, .ref h_marked, .int v_count, .ref h_many, .ref h_codes, .int v_oldCount, .ref h_oldMany, .ref h_oldCodes, .int v_read, .ref h_body, .ref h_roundOf, .ref h_fresh, .int v_last])), (h_many, .inl (k_many, 2, .inl v_many)), (h_codes, .inl (k_codes, 6, .inl v_codes))] → va_S A s.heap H locs → ∀ (ls : Array Slot), lv_has ls 9 [(0, .ref h_o), (1, .int z1), (2, .int z2), (3, .int z3), (4, .int z4), (5, .int z5), (6, .int z6), (7, .int z7), (8, .int z8)] → W p l e (headSpec w_M_subsumes ({ frames := 1, cells := 0, slots := 0, locals := 23 } : Room)).room s m ([.ref h_o, .int x1, .int x2] : List Value).toArray below meth c H locs 0 0 Q (F0 m 52 ls [])) (z1 : Int32) (z2 : Int32) (z3 : Int32) (z4 : Int32) (z5 : Int32) (z6 : Int32) (z8 : Int32) (y0 : Int32), m_M_subsumes_103 v_count v_many v_codes k_52 z1 z2 z3 z4 z5 z6 z8 y0 = some (r0, u0) → ∀ (H : Heap) (locs : List Loc), va_P (dC, dI) classes [(h_o, .inr (4, [.ref h_line, .int v_typed, .ref h_fact, .ref h_marked, .int v_count, .ref h_many, .ref h_codes, .int v_oldCount, .ref h_oldMany, .ref h_oldCodes, .int v_read, .ref h_body, .ref h_roundOf, .ref h_fresh, .int v_last])), (h_many, .inl (k_many, 2, .inl v_many)), (h_codes, .inl (k_codes, 6, .inl v_codes))] H → va_D A [(h_o, .inr (4, [.ref h_line, .int v_typed, .ref h_fact, .ref h_marked, .int v_count, .ref h_many, .ref h_codes, .int v_oldCount, .ref h_oldMany, .ref h_oldCodes, .int v_read, .ref h_body, .ref h_roundOf, .ref h_fresh, .int v_last])), (h_many, .inl (k_many, 2, .inl v_many)), (h_codes, .inl (k_codes, 6, .inl v_codes))] → va_S A s.heap H locs → ∀ (ls : Array Slot), lv_has ls 9 [(0, .ref h_o), (1, .int z1), (2, .int z2), (3, .int z3), (4, .int z4), (5, .int z5), (6, .int z6), (8, .int z8)] → W p l e (headSpec w_M_subsumes ({ frames := 1, cells := 0, slots := 0, locals := 23 } : Room)).room s m ([.ref h_o, .int x1, .int x2] : List Value).toArray below meth c H locs 0 0 Q (F0 m 103 ls [.int y0]) := by
    intro k_52 hk_52 z1 z2 z3 z4 z5 z6 z8 y0 h H locs hP hD hS ls hl
    unfold m_M_subsumes_103 at h
    refine lv_istore (lv' := [(7, .int y0), (0, .ref h_o), (1, .int z1), (2, .int z2), (3, .int z3), (4, .int z4), (5, .int z5), (6, .int z6), (8, .int z8)]) hx hb d_M_subsumes_103 hl (by decide) rfl (fun ls hl => ?_)
    refine lv_iinc (v := z8 + (nI 1)) (lv' := [(8, .int (z8 + (nI 1))), (7, .int y0), (0, .ref h_o), (1, .int z1), (2, .int z2), (3, .int z3), (4, .int z4), (5, .int z5), (6, .int z6)]) hx hb d_M_subsumes_105 hl (k := 8) rfl rfl (by decide) rfl (fun ls hl => ?_)
    refine lv_goto (tgt := 52) hx hb d_M_subsumes_108 (by decide) ?_
    exact hk_52 z1 z2 z3 z4 z5 z6 y0 (z8 + (nI 1)) h _ _ hP hD hS ls (lv_sub hl [2, 3, 4, 5, 6, 7, 8, 1, 0] rfl)
  have J_98 : ∀ (k_52 : Int32 → Int32 → Int32 → Int32 → Int32 → Int32 → Int32 → Int32 → Option (Int32 × Unit)) (hk_52 : ∀ (z1 : Int32) (z2 : Int32) (z3 : Int32) (z4 : Int32) (z5 : Int32) (z6 : Int32) (z7 : Int32) (z8 : Int32), k_52 z1 z2 z3 z4 z5 z6 z7 z8 = some (r0, u0) → ∀ (H : Heap) (locs : List Loc), va_P (dC, dI) classes [(h_o, .inr (4, [.ref h_line, .int v_typed, .ref h_fact, .ref h_marked, .int v_count, .ref h_many, .ref h_codes, .int v_oldCount, .ref h_oldMany, .ref h_oldCodes, .int v_read, .ref h_body, .ref h_roundOf, .ref h_fresh, .int v_last])), (h_many, .inl (k_many, 2, .inl v_many)), (h_codes, .inl (k_codes, 6, .inl v_codes))] H → va_D A [(h_o, .inr (4, [.ref h_line, .int v_typed, .ref h_fact, .ref h_marked, .int v_count, .ref h_many, .ref h_codes, .int v_oldCount, .ref h_oldMany, .ref h_oldCodes, .int v_read, .ref h_body, .ref h_roundOf, .ref h_fresh, .int v_last])), (h_many, .inl (k_many, 2, .inl v_many)), (h_codes, .inl (k_codes, 6, .inl v_codes))] → va_S A s.heap H locs → ∀ (ls : Array Slot), lv_has ls 9 [(0, .ref h_o), (1, .int z1), (2, .int z2), (3, .int z3), (4, .int z4), (5, .int z5), (6, .int z6), (7, .int z7), (8, .int z8)] → W p l e (headSpec w_M_subsumes ({ frames := 1, cells := 0, slots := 0, locals := 23 } : Room)).room s m ([.ref h_o, .int x1, .int x2] : List Value).toArray below meth c H locs 0 0 Q (F0 m 52 ls [])) (z1 : Int32) (z2 : Int32) (z3 : Int32) (z4 : Int32) (z5 : Int32) (z6 : Int32) (z8 : Int32), m_M_subsumes_98 v_count v_many v_codes k_52 z1 z2 z3 z4 z5 z6 z8 = some (r0, u0) → ∀ (H : Heap) (locs : List Loc), va_P (dC, dI) classes [(h_o, .inr (4, [.ref h_line, .int v_typed, .ref h_fact, .ref h_marked, .int v_count, .ref h_many, .ref h_codes, .int v_oldCount, .ref h_oldMany, .ref h_oldCodes, .int v_read, .ref h_body, .ref h_roundOf, .ref h_fresh, .int v_last])), (h_many, .inl (k_many, 2, .inl v_many)), (h_codes, .inl (k_codes, 6, .inl v_codes))] H → va_D A [(h_o, .inr (4, [.ref h_line, .int v_typed, .ref h_fact, .ref h_marked, .int v_count, .ref h_many, .ref h_codes, .int v_oldCount, .ref h_oldMany, .ref h_oldCodes, .int v_read, .ref h_body, .ref h_roundOf, .ref h_fresh, .int v_last])), (h_many, .inl (k_many, 2, .inl v_many)), (h_codes, .inl (k_codes, 6, .inl v_codes))] → va_S A s.heap H locs → ∀ (ls : Array Slot), lv_has ls 9 [(0, .ref h_o), (1, .int z1), (2, .int z2), (3, .int z3), (4, .int z4), (5, .int z5), (6, .int z6), (8, .int z8)] → W p l e (headSpec w_M_subsumes ({ frames := 1, cells := 0, slots := 0, locals := 23 } : Room)).room s m ([.ref h_o, .int x1, .int x2] : List Value).toArray below meth c H locs 0 0 Q (F0 m 98 ls []) := by
    intro k_52 hk_52 z1 z2 z3 z4 z5 z6 z8 h H locs hP hD hS ls hl
    unfold m_M_subsumes_98 at h
    refine lv_iconst (v := (nI 1)) hx hb d_M_subsumes_98 (by decide) ?_
    refine lv_goto (tgt := 103) hx hb d_M_subsumes_99 (by decide) ?_
    exact J_103 k_52 hk_52 z1 z2 z3 z4 z5 z6 z8 (nI 1) h _ _ hP hD hS ls (lv_sub hl [0, 1, 2, 3, 4, 5, 6, 7] rfl)
  have J_52 : ∀ (k_35 : Int32 → Int32 → Int32 → Int32 → Int32 → Int32 → Option (Int32 × Unit)) (hk_35 : ∀ (z1 : Int32) (z2 : Int32) (z3 : Int32) (z4 : Int32) (z5 : Int32) (z6 : Int32), k_35 z1 z2 z3 z4 z5 z6 = some (r0, u0) → ∀ (H : Heap) (locs : List Loc), va_P (dC, dI) classes [(h_o, .inr (4, [.ref h_line, .int v_typed, .ref h_fact, .ref h_marked, .int v_count, .ref h_many, .ref h_codes, .int v_oldCount, .ref h_oldMany, .ref h_oldCodes, .int v_read, .ref h_body, .ref h_roundOf, .ref h_fresh, .int v_last])), (h_many, .inl (k_many, 2, .inl v_many)), (h_codes, .inl (k_codes, 6, .inl v_codes))] H → va_D A [(h_o, .inr (4, [.ref h_line, .int v_typed, .ref h_fact, .ref h_marked, .int v_count, .ref h_many, .ref h_codes, .int v_oldCount, .ref h_oldMany, .ref h_oldCodes, .int v_read, .ref h_body, .ref h_roundOf, .ref h_fresh, .int v_last])), (h_many, .inl (k_many, 2, .inl v_many)), (h_codes, .inl (k_codes, 6, .inl v_codes))] → va_S A s.heap H locs → ∀ (ls : Array Slot), lv_has ls 9 [(0, .ref h_o), (1, .int z1), (2, .int z2), (3, .int z3), (4, .int z4), (5, .int z5), (6, .int z6)] → W p l e (headSpec w_M_subsumes ({ frames := 1, cells := 0, slots := 0, locals := 23 } : Room)).room s m ([.ref h_o, .int x1, .int x2] : List Value).toArray below meth c H locs 0 0 Q (F0 m 35 ls [])) (n : Nat) (z1 : Int32) (z2 : Int32) (z3 : Int32) (z4 : Int32) (z5 : Int32) (z6 : Int32) (z7 : Int32) (z8 : Int32), m_M_subsumes_52 v_count v_many v_codes k_35 n z1 z2 z3 z4 z5 z6 z7 z8 = some (r0, u0) → ∀ (H : Heap) (locs : List Loc), va_P (dC, dI) classes [(h_o, .inr (4, [.ref h_line, .int v_typed, .ref h_fact, .ref h_marked, .int v_count, .ref h_many, .ref h_codes, .int v_oldCount, .ref h_oldMany, .ref h_oldCodes, .int v_read, .ref h_body, .ref h_roundOf, .ref h_fresh, .int v_last])), (h_many, .inl (k_many, 2, .inl v_many)), (h_codes, .inl (k_codes, 6, .inl v_codes))] H → va_D A [(h_o, .inr (4, [.ref h_line, .int v_typed, .ref h_fact, .ref h_marked, .int v_count, .ref h_many, .ref h_codes, .int v_oldCount, .ref h_oldMany, .ref h_oldCodes, .int v_read, .ref h_body, .ref h_roundOf, .ref h_fresh, .int v_last])), (h_many, .inl (k_many, 2, .inl v_many)), (h_codes, .inl (k_codes, 6, .inl v_codes))] → va_S A s.heap H locs → ∀ (ls : Array Slot), lv_has ls 9 [(0, .ref h_o), (1, .int z1), (2, .int z2), (3, .int z3), (4, .int z4), (5, .int z5), (6, .int z6), (7, .int z7), (8, .int z8)] → W p l e (headSpec w_M_subsumes ({ frames := 1, cells := 0, slots := 0, locals := 23 } : Room)).room s m ([.ref h_o, .int x1, .int x2] : List Value).toArray below meth c H locs 0 0 Q (F0 m 52 ls []) := by
    intro k_35 hk_35 n
    induction n with
    | zero => intro z1 z2 z3 z4 z5 z6 z7 z8 h; exact absurd h (by unfold m_M_subsumes_52; exact fun h9 => nomatch h9)
    | succ n ih =>
      intro z1 z2 z3 z4 z5 z6 z7 z8 h H locs hP hD hS ls hl
      unfold m_M_subsumes_52 at h
      refine lv_iload hx hb d_M_subsumes_52 (lv_at hl 8 rfl) ?_
      refine lv_aload_n hx hb d_M_subsumes_54 rfl (lv_at hl 0 rfl) ?_
      refine va_get (D := (dC, dI)) (ci := 4) (v := .ref h_many) (C := R_M) (T := F_M) (N := 15) hx hb hts lay_M hown hK hP 0 rfl rfl 5 (by decide) (hts _ flk_M_20) (fun _ h9 => h9) rfl d_M_subsumes_55 ?_
      refine lv_iload_n hx hb d_M_subsumes_58 rfl (lv_at hl 2 rfl) ?_
      obtain ⟨g_59, h⟩ := of_guard h
      refine va_iald hx hb hK hP 1 0 rfl rfl (inR_in g_59) d_M_subsumes_59 ?_
      refine lv_icmp_ge (tgt := 111) hx hb d_M_subsumes_60 (by decide) (fun c_60 => ?_) (fun c_60 => ?_)
      · have h := of_pos h c_60
        refine lv_iload hx hb d_M_subsumes_111 (lv_at hl 5 rfl) ?_
        refine lv_if_eq (tgt := 125) hx hb d_M_subsumes_113 (by decide) (fun c_113 => ?_) (fun c_113 => ?_)
        · have h := of_pos h c_113
          exact J_125 k_35 hk_35 z1 z2 z3 z4 z6 h _ _ hP hD hS ls (lv_sub hl [0, 1, 2, 3, 4, 6] rfl)
        · have h := of_neg h c_113
          refine lv_iload hx hb d_M_subsumes_116 (lv_at hl 7 rfl) ?_
          refine lv_if_eq (tgt := 125) hx hb d_M_subsumes_118 (by decide) (fun c_118 => ?_) (fun c_118 => ?_)
          · have h := of_pos h c_118
            exact J_125 k_35 hk_35 z1 z2 z3 z4 z6 h _ _ hP hD hS ls (lv_sub hl [0, 1, 2, 3, 4, 6] rfl)
          · have h := of_neg h c_118
            refine lv_iconst (v := (nI 1)) hx hb d_M_subsumes_121 (by decide) ?_
            refine lv_goto (tgt := 126) hx hb d_M_subsumes_122 (by decide) ?_
            exact J_126 k_35 hk_35 z1 z2 z3 z4 z6 (nI 1) h _ _ hP hD hS ls (lv_sub hl [0, 1, 2, 3, 4, 6] rfl)
      · have h := of_neg h c_60
        refine lv_iload hx hb d_M_subsumes_63 (lv_at hl 7 rfl) ?_
        refine lv_if_ne (tgt := 98) hx hb d_M_subsumes_65 (by decide) (fun c_65 => ?_) (fun c_65 => ?_)
        · have h := of_neg h c_65
          exact J_98 (m_M_subsumes_52 v_count v_many v_codes k_35 n) ih z1 z2 z3 z4 z5 z6 z8 h _ _ hP hD hS ls (lv_sub hl [0, 1, 2, 3, 4, 5, 6, 8] rfl)
        · have h := of_pos h c_65
          refine lv_aload_n hx hb d_M_subsumes_68 rfl (lv_at hl 0 rfl) ?_
          refine va_get (D := (dC, dI)) (ci := 4) (v := .ref h_codes) (C := R_M) (T := F_M) (N := 15) hx hb hts lay_M hown hK hP 0 rfl rfl 6 (by decide) (hts _ flk_M_23) (fun _ h9 => h9) rfl d_M_subsumes_69 ?_
          refine lv_iconst (v := (nI 3)) hx hb d_M_subsumes_72 (by decide) ?_
          refine lv_iload_n hx hb d_M_subsumes_73 rfl (lv_at hl 1 rfl) ?_
          refine lv_imul hx hb d_M_subsumes_74 ?_
          refine lv_iload hx hb d_M_subsumes_75 (lv_at hl 6 rfl) ?_
          refine lv_iadd hx hb d_M_subsumes_77 ?_
          obtain ⟨g_78, h⟩ := of_guard h
          refine va_iald hx hb hK hP 2 1 rfl rfl (inR_in g_78) d_M_subsumes_78 ?_
          refine lv_iload hx hb d_M_subsumes_79 (lv_at hl 4 rfl) ?_
          have hPc := hP.sub (ws' := []) [] rfl
          have hDc := hD.sub (ws' := []) [] (by decide) rfl
          have hKc := hK.sub (tys' := []) [] rfl
          have hFc := va_free (wc := []) hD hS hA [] rfl
          obtain ⟨v_81, hc_81, h⟩ := of_bind h
          refine va_calli (va_runS (As := [.int (v_codes (((nI 3) * z1) + z6).toNatClampNeg), .int z4]) (rest := []) ⟨hx, hb, hml, hown, hts⟩ (c_M_replaced l dC dI H.size (v_codes (((nI 3) * z1) + z6).toNatClampNeg) z4 v_81.1 v_81.2 hc_81) (va_cwS 2 hts (gS mlk_M_115 sta_M_replaced ini_M cod_M_replaced) rfl rfl rfl (by decide +kernel) ⟨Nat.le_of_ble_eq_true rfl, Nat.le_of_ble_eq_true rfl⟩) ⟨fun a U g mk q => by obtain ⟨q0, q1, qP, qK, qD⟩ := q; exact ⟨q0, q1, qP, va_K.moved (u := U) (U := U.calling g mk a) (Vm.Alike.refl U.vm) qK, qD⟩, fun U hU hW => ⟨rfl, by rw [hU], by rw [hU]; exact hPc, va_K.moved hW.alike hKc, hDc.weaken (fun _ _ _ _ => trivial)⟩⟩ rfl rfl hl.1 rfl (lv_room (Nat.le_of_ble_eq_true rfl)) d_M_subsumes_81 ⟨Nat.le_of_ble_eq_true rfl, Nat.le_of_ble_eq_true rfl⟩) hS (fun q _ h9 => hFc q h9) hFc (fun r_81 u t H1 locs ht hvm hw hB hz1 hk1 hS => ?_)
          obtain ⟨rfl, rfl⟩ := hw
          obtain ⟨hP1, hK1, hD1⟩ := hB
          rw [ht] at hP1
          obtain ⟨hP, hD⟩ := va_join (wr := [(h_o, .inr (4, [.ref h_line, .int v_typed, .ref h_fact, .ref h_marked, .int v_count, .ref h_many, .ref h_codes, .int v_oldCount, .ref h_oldMany, .ref h_oldCodes, .int v_read, .ref h_body, .ref h_roundOf, .ref h_fresh, .int v_last])), (h_many, .inl (k_many, 2, .inl v_many)), (h_codes, .inl (k_codes, 6, .inl v_codes))]) (w1 := []) hP hD [] [0, 1, 2] rfl rfl (by decide) (by decide) hk1 hFc hP1 hD1
          have hP := hP.sub (ws' := [(h_o, .inr (4, [.ref h_line, .int v_typed, .ref h_fact, .ref h_marked, .int v_count, .ref h_many, .ref h_codes, .int v_oldCount, .ref h_oldMany, .ref h_oldCodes, .int v_read, .ref h_body, .ref h_roundOf, .ref h_fresh, .int v_last])), (h_many, .inl (k_many, 2, .inl v_many)), (h_codes, .inl (k_codes, 6, .inl v_codes))]) [0, 1, 2] rfl
          have hD := hD.sub (ws' := [(h_o, .inr (4, [.ref h_line, .int v_typed, .ref h_fact, .ref h_marked, .int v_count, .ref h_many, .ref h_codes, .int v_oldCount, .ref h_oldMany, .ref h_oldCodes, .int v_read, .ref h_body, .ref h_roundOf, .ref h_fresh, .int v_last])), (h_many, .inl (k_many, 2, .inl v_many)), (h_codes, .inl (k_codes, 6, .inl v_codes))]) [0, 1, 2] (by decide) rfl
          generalize H1 = H at hP hS ⊢
          refine lv_aload_n hx hb d_M_subsumes_84 rfl (lv_at hl 0 rfl) ?_
          refine va_get (D := (dC, dI)) (ci := 4) (v := .ref h_codes) (C := R_M) (T := F_M) (N := 15) hx hb hts lay_M hown hK hP 0 rfl rfl 6 (by decide) (hts _ flk_M_23) (fun _ h9 => h9) rfl d_M_subsumes_85 ?_
          refine lv_iconst (v := (nI 3)) hx hb d_M_subsumes_88 (by decide) ?_
          refine lv_iload_n hx hb d_M_subsumes_89 rfl (lv_at hl 2 rfl) ?_
          refine lv_imul hx hb d_M_subsumes_90 ?_
          refine lv_iload hx hb d_M_subsumes_91 (lv_at hl 8 rfl) ?_
          refine lv_iadd hx hb d_M_subsumes_93 ?_
          obtain ⟨g_94, h⟩ := of_guard h
          refine va_iald hx hb hK hP 2 1 rfl rfl (inR_in g_94) d_M_subsumes_94 ?_
          refine lv_icmp_ne (tgt := 102) hx hb d_M_subsumes_95 (by decide) (fun c_95 => ?_) (fun c_95 => ?_)
          · have h := of_neg h c_95
            refine lv_iconst (v := (nI 0)) hx hb d_M_subsumes_102 (by decide) ?_
            exact J_103 (m_M_subsumes_52 v_count v_many v_codes k_35 n) ih z1 z2 z3 z4 z5 z6 z8 (nI 0) h _ _ hP hD hS ls (lv_sub hl [0, 1, 2, 3, 4, 5, 6, 8] rfl)
          · have h := of_pos h c_95
            exact J_98 (m_M_subsumes_52 v_count v_many v_codes k_35 n) ih z1 z2 z3 z4 z5 z6 z8 h _ _ hP hD hS ls (lv_sub hl [0, 1, 2, 3, 4, 5, 6, 8] rfl)
  have J_35 : ∀ (k_23 : Int32 → Int32 → Int32 → Int32 → Option (Int32 × Unit)) (hk_23 : ∀ (z1 : Int32) (z2 : Int32) (z3 : Int32) (z4 : Int32), k_23 z1 z2 z3 z4 = some (r0, u0) → ∀ (H : Heap) (locs : List Loc), va_P (dC, dI) classes [(h_o, .inr (4, [.ref h_line, .int v_typed, .ref h_fact, .ref h_marked, .int v_count, .ref h_many, .ref h_codes, .int v_oldCount, .ref h_oldMany, .ref h_oldCodes, .int v_read, .ref h_body, .ref h_roundOf, .ref h_fresh, .int v_last])), (h_many, .inl (k_many, 2, .inl v_many)), (h_codes, .inl (k_codes, 6, .inl v_codes))] H → va_D A [(h_o, .inr (4, [.ref h_line, .int v_typed, .ref h_fact, .ref h_marked, .int v_count, .ref h_many, .ref h_codes, .int v_oldCount, .ref h_oldMany, .ref h_oldCodes, .int v_read, .ref h_body, .ref h_roundOf, .ref h_fresh, .int v_last])), (h_many, .inl (k_many, 2, .inl v_many)), (h_codes, .inl (k_codes, 6, .inl v_codes))] → va_S A s.heap H locs → ∀ (ls : Array Slot), lv_has ls 9 [(0, .ref h_o), (1, .int z1), (2, .int z2), (3, .int z3), (4, .int z4)] → W p l e (headSpec w_M_subsumes ({ frames := 1, cells := 0, slots := 0, locals := 23 } : Room)).room s m ([.ref h_o, .int x1, .int x2] : List Value).toArray below meth c H locs 0 0 Q (F0 m 23 ls [])) (n : Nat) (z1 : Int32) (z2 : Int32) (z3 : Int32) (z4 : Int32) (z5 : Int32) (z6 : Int32), m_M_subsumes_35 v_count v_many v_codes k_23 n z1 z2 z3 z4 z5 z6 = some (r0, u0) → ∀ (H : Heap) (locs : List Loc), va_P (dC, dI) classes [(h_o, .inr (4, [.ref h_line, .int v_typed, .ref h_fact, .ref h_marked, .int v_count, .ref h_many, .ref h_codes, .int v_oldCount, .ref h_oldMany, .ref h_oldCodes, .int v_read, .ref h_body, .ref h_roundOf, .ref h_fresh, .int v_last])), (h_many, .inl (k_many, 2, .inl v_many)), (h_codes, .inl (k_codes, 6, .inl v_codes))] H → va_D A [(h_o, .inr (4, [.ref h_line, .int v_typed, .ref h_fact, .ref h_marked, .int v_count, .ref h_many, .ref h_codes, .int v_oldCount, .ref h_oldMany, .ref h_oldCodes, .int v_read, .ref h_body, .ref h_roundOf, .ref h_fresh, .int v_last])), (h_many, .inl (k_many, 2, .inl v_many)), (h_codes, .inl (k_codes, 6, .inl v_codes))] → va_S A s.heap H locs → ∀ (ls : Array Slot), lv_has ls 9 [(0, .ref h_o), (1, .int z1), (2, .int z2), (3, .int z3), (4, .int z4), (5, .int z5), (6, .int z6)] → W p l e (headSpec w_M_subsumes ({ frames := 1, cells := 0, slots := 0, locals := 23 } : Room)).room s m ([.ref h_o, .int x1, .int x2] : List Value).toArray below meth c H locs 0 0 Q (F0 m 35 ls []) := by
    intro k_23 hk_23 n
    induction n with
    | zero => intro z1 z2 z3 z4 z5 z6 h; exact absurd h (by unfold m_M_subsumes_35; exact fun h9 => nomatch h9)
    | succ n ih =>
      intro z1 z2 z3 z4 z5 z6 h H locs hP hD hS ls hl
      unfold m_M_subsumes_35 at h
      refine lv_iload hx hb d_M_subsumes_35 (lv_at hl 6 rfl) ?_
      refine lv_aload_n hx hb d_M_subsumes_37 rfl (lv_at hl 0 rfl) ?_
      refine va_get (D := (dC, dI)) (ci := 4) (v := .ref h_many) (C := R_M) (T := F_M) (N := 15) hx hb hts lay_M hown hK hP 0 rfl rfl 5 (by decide) (hts _ flk_M_20) (fun _ h9 => h9) rfl d_M_subsumes_38 ?_
      refine lv_iload_n hx hb d_M_subsumes_41 rfl (lv_at hl 1 rfl) ?_
      obtain ⟨g_42, h⟩ := of_guard h
      refine va_iald hx hb hK hP 1 0 rfl rfl (inR_in g_42) d_M_subsumes_42 ?_
      refine lv_icmp_ge (tgt := 134) hx hb d_M_subsumes_43 (by decide) (fun c_43 => ?_) (fun c_43 => ?_)
      · have h := of_pos h c_43
        refine lv_iload_n hx hb d_M_subsumes_134 rfl (lv_at hl 3 rfl) ?_
        refine lv_if_ne (tgt := 143) hx hb d_M_subsumes_135 (by decide) (fun c_135 => ?_) (fun c_135 => ?_)
        · have h := of_neg h c_135
          exact J_143 k_23 hk_23 z1 z2 z4 h _ _ hP hD hS ls (lv_sub hl [0, 1, 2, 4] rfl)
        · have h := of_pos h c_135
          refine lv_iload hx hb d_M_subsumes_138 (lv_at hl 5 rfl) ?_
          refine lv_if_eq (tgt := 147) hx hb d_M_subsumes_140 (by decide) (fun c_140 => ?_) (fun c_140 => ?_)
          · have h := of_pos h c_140
            refine lv_iconst (v := (nI 0)) hx hb d_M_subsumes_147 (by decide) ?_
            exact J_148 k_23 hk_23 z1 z2 z4 (nI 0) h _ _ hP hD hS ls (lv_sub hl [0, 1, 2, 4] rfl)
          · have h := of_neg h c_140
            exact J_143 k_23 hk_23 z1 z2 z4 h _ _ hP hD hS ls (lv_sub hl [0, 1, 2, 4] rfl)
      · have h := of_neg h c_43
        refine lv_iconst (v := (nI 0)) hx hb d_M_subsumes_46 (by decide) ?_
        refine lv_istore (lv' := [(7, .int (nI 0)), (0, .ref h_o), (1, .int z1), (2, .int z2), (3, .int z3), (4, .int z4), (5, .int z5), (6, .int z6)]) hx hb d_M_subsumes_47 hl (by decide) rfl (fun ls hl => ?_)
        refine lv_iconst (v := (nI 0)) hx hb d_M_subsumes_49 (by decide) ?_
        refine lv_istore (lv' := [(8, .int (nI 0)), (7, .int (nI 0)), (0, .ref h_o), (1, .int z1), (2, .int z2), (3, .int z3), (4, .int z4), (5, .int z5), (6, .int z6)]) hx hb d_M_subsumes_50 hl (by decide) rfl (fun ls hl => ?_)
        exact J_52 (m_M_subsumes_35 v_count v_many v_codes k_23 n) ih 40 z1 z2 z3 z4 z5 z6 (nI 0) (nI 0) h _ _ hP hD hS ls (lv_sub hl [2, 3, 4, 5, 6, 7, 8, 1, 0] rfl)
  have J_23 : ∀ (n : Nat) (z1 : Int32) (z2 : Int32) (z3 : Int32) (z4 : Int32), m_M_subsumes_23 v_count v_many v_codes n z1 z2 z3 z4 = some (r0, u0) → ∀ (H : Heap) (locs : List Loc), va_P (dC, dI) classes [(h_o, .inr (4, [.ref h_line, .int v_typed, .ref h_fact, .ref h_marked, .int v_count, .ref h_many, .ref h_codes, .int v_oldCount, .ref h_oldMany, .ref h_oldCodes, .int v_read, .ref h_body, .ref h_roundOf, .ref h_fresh, .int v_last])), (h_many, .inl (k_many, 2, .inl v_many)), (h_codes, .inl (k_codes, 6, .inl v_codes))] H → va_D A [(h_o, .inr (4, [.ref h_line, .int v_typed, .ref h_fact, .ref h_marked, .int v_count, .ref h_many, .ref h_codes, .int v_oldCount, .ref h_oldMany, .ref h_oldCodes, .int v_read, .ref h_body, .ref h_roundOf, .ref h_fresh, .int v_last])), (h_many, .inl (k_many, 2, .inl v_many)), (h_codes, .inl (k_codes, 6, .inl v_codes))] → va_S A s.heap H locs → ∀ (ls : Array Slot), lv_has ls 9 [(0, .ref h_o), (1, .int z1), (2, .int z2), (3, .int z3), (4, .int z4)] → W p l e (headSpec w_M_subsumes ({ frames := 1, cells := 0, slots := 0, locals := 23 } : Room)).room s m ([.ref h_o, .int x1, .int x2] : List Value).toArray below meth c H locs 0 0 Q (F0 m 23 ls []) := by
    intro n
    induction n with
    | zero => intro z1 z2 z3 z4 h; exact absurd h (by unfold m_M_subsumes_23; exact fun h9 => nomatch h9)
    | succ n ih =>
      intro z1 z2 z3 z4 h H locs hP hD hS ls hl
      unfold m_M_subsumes_23 at h
      refine lv_iload hx hb d_M_subsumes_23 (lv_at hl 4 rfl) ?_
      refine lv_iconst (v := (nI 3)) hx hb d_M_subsumes_25 (by decide) ?_
      refine lv_icmp_ge (tgt := 155) hx hb d_M_subsumes_26 (by decide) (fun c_26 => ?_) (fun c_26 => ?_)
      · have h := of_pos h c_26
        refine lv_iload_n hx hb d_M_subsumes_155 rfl (lv_at hl 3 rfl) ?_
        obtain ⟨g_156, h⟩ := of_guard h
        rw [hQ]
        exact W.zret (v := z3) hx hb hr (nrz g_156) (fun t ht hW => ⟨⟨z3, (), rfl, Prod.mk.inj (Option.some.inj h), by rw [ht]; exact hP, va_K.moved hW.alike hK, hD⟩, hS.F ht⟩) hS.2.2 d_M_subsumes_156
      · have h := of_neg h c_26
        refine lv_iconst (v := (nI 1)) hx hb d_M_subsumes_29 (by decide) ?_
        refine lv_istore (lv' := [(5, .int (nI 1)), (0, .ref h_o), (1, .int z1), (2, .int z2), (3, .int z3), (4, .int z4)]) hx hb d_M_subsumes_30 hl (by decide) rfl (fun ls hl => ?_)
        refine lv_iconst (v := (nI 0)) hx hb d_M_subsumes_32 (by decide) ?_
        refine lv_istore (lv' := [(6, .int (nI 0)), (5, .int (nI 1)), (0, .ref h_o), (1, .int z1), (2, .int z2), (3, .int z3), (4, .int z4)]) hx hb d_M_subsumes_33 hl (by decide) rfl (fun ls hl => ?_)
        exact J_35 (m_M_subsumes_23 v_count v_many v_codes n) ih 40 z1 z2 z3 z4 (nI 1) (nI 0) h _ _ hP hD hS ls (lv_sub hl [2, 3, 4, 5, 6, 1, 0] rfl)
  unfold m_M_subsumes at h
  refine lv_aload_n hx hb d_M_subsumes_0 rfl (lv_at hl 0 rfl) ?_
  refine lv_iload_n hx hb d_M_subsumes_1 rfl (lv_at hl 1 rfl) ?_
  have hPc := hP.sub (ws' := [(h_o, .inr (4, [.ref h_line, .int v_typed, .ref h_fact, .ref h_marked, .int v_count, .ref h_many, .ref h_codes, .int v_oldCount, .ref h_oldMany, .ref h_oldCodes, .int v_read, .ref h_body, .ref h_roundOf, .ref h_fresh, .int v_last]))]) [0] rfl
  have hDc := hD.sub (ws' := [(h_o, .inr (4, [.ref h_line, .int v_typed, .ref h_fact, .ref h_marked, .int v_count, .ref h_many, .ref h_codes, .int v_oldCount, .ref h_oldMany, .ref h_oldCodes, .int v_read, .ref h_body, .ref h_roundOf, .ref h_fresh, .int v_last]))]) [0] (by decide) rfl
  have hKc := hK.sub (tys' := []) [] rfl
  have hFc := va_free (wc := [(h_o, .inr (4, [.ref h_line, .int v_typed, .ref h_fact, .ref h_marked, .int v_count, .ref h_many, .ref h_codes, .int v_oldCount, .ref h_oldMany, .ref h_oldCodes, .int v_read, .ref h_body, .ref h_roundOf, .ref h_fresh, .int v_last]))]) hD hS hA [0] rfl
  obtain ⟨v_2, hc_2, h⟩ := of_bind h
  refine va_calli (va_runV (As := [.int x1]) (rest := []) ⟨hx, hb, hml, hown, hts⟩ (c_M_clause l dC dI h_o h_line h_fact h_marked h_many h_codes h_oldMany h_oldCodes h_body h_roundOf h_fresh H.size v_typed v_count v_oldCount v_read v_last x1 v_2.1 v_2.2 hc_2) (cwV 1 hts (gV mlk_M_109 ins_M_clause sel_M_clause ini_M cod_M_clause) rfl rfl rfl (by decide +kernel) ⟨Nat.le_of_ble_eq_true rfl, Nat.le_of_ble_eq_true rfl⟩) ⟨fun a U g mk q => by obtain ⟨q0, q1, qP, qK, qD⟩ := q; exact ⟨q0, q1, qP, va_K.moved (u := U) (U := U.calling g mk a) (Vm.Alike.refl U.vm) qK, qD⟩, va_recv hKc hPc (ci := 4) (q0 := 0) rfl rfl, fun U hU hW => ⟨rfl, by rw [hU], by rw [hU]; exact hPc, va_K.moved hW.alike hKc, hDc.weaken (fun _ _ _ _ => trivial)⟩⟩ rfl rfl hl.1 rfl (lv_room (Nat.le_of_ble_eq_true rfl)) d_M_subsumes_2 ⟨Nat.le_of_ble_eq_true rfl, Nat.le_of_ble_eq_true rfl⟩) hS (fun q _ h9 => hFc q h9) hFc (fun r_2 u t H1 locs ht hvm hw hB hz1 hk1 hS => ?_)
  obtain ⟨rfl, rfl⟩ := hw
  obtain ⟨hP1, hK1, hD1⟩ := hB
  rw [ht] at hP1
  obtain ⟨hP, hD⟩ := va_join (wr := [(h_many, .inl (k_many, 2, .inl v_many)), (h_codes, .inl (k_codes, 6, .inl v_codes))]) (w1 := [(h_o, .inr (4, [.ref h_line, .int v_typed, .ref h_fact, .ref h_marked, .int v_count, .ref h_many, .ref h_codes, .int v_oldCount, .ref h_oldMany, .ref h_oldCodes, .int v_read, .ref h_body, .ref h_roundOf, .ref h_fresh, .int v_last]))]) hP hD [0] [1, 2] rfl rfl (by decide) (by decide) hk1 hFc hP1 hD1
  have hP := hP.sub (ws' := [(h_o, .inr (4, [.ref h_line, .int v_typed, .ref h_fact, .ref h_marked, .int v_count, .ref h_many, .ref h_codes, .int v_oldCount, .ref h_oldMany, .ref h_oldCodes, .int v_read, .ref h_body, .ref h_roundOf, .ref h_fresh, .int v_last])), (h_many, .inl (k_many, 2, .inl v_many)), (h_codes, .inl (k_codes, 6, .inl v_codes))]) [2, 0, 1] rfl
  have hD := hD.sub (ws' := [(h_o, .inr (4, [.ref h_line, .int v_typed, .ref h_fact, .ref h_marked, .int v_count, .ref h_many, .ref h_codes, .int v_oldCount, .ref h_oldMany, .ref h_oldCodes, .int v_read, .ref h_body, .ref h_roundOf, .ref h_fresh, .int v_last])), (h_many, .inl (k_many, 2, .inl v_many)), (h_codes, .inl (k_codes, 6, .inl v_codes))]) [2, 0, 1] (by decide) rfl
  generalize H1 = H at hP hS ⊢
  refine lv_if_eq (tgt := 16) hx hb d_M_subsumes_5 (by decide) (fun c_5 => ?_) (fun c_5 => ?_)
  · have h := of_pos h c_5
    refine lv_iconst (v := (nI 0)) hx hb d_M_subsumes_16 (by decide) ?_
    rw [hQ]
    exact W.zret (v := (nI 0)) hx hb hr rfl (fun t ht hW => ⟨⟨(nI 0), (), rfl, Prod.mk.inj (Option.some.inj h), by rw [ht]; exact hP, va_K.moved hW.alike hK, hD⟩, hS.F ht⟩) hS.2.2 d_M_subsumes_17
  · have h := of_neg h c_5
    refine lv_aload_n hx hb d_M_subsumes_8 rfl (lv_at hl 0 rfl) ?_
    refine lv_iload_n hx hb d_M_subsumes_9 rfl (lv_at hl 2 rfl) ?_
    have hPc := hP.sub (ws' := [(h_o, .inr (4, [.ref h_line, .int v_typed, .ref h_fact, .ref h_marked, .int v_count, .ref h_many, .ref h_codes, .int v_oldCount, .ref h_oldMany, .ref h_oldCodes, .int v_read, .ref h_body, .ref h_roundOf, .ref h_fresh, .int v_last]))]) [0] rfl
    have hDc := hD.sub (ws' := [(h_o, .inr (4, [.ref h_line, .int v_typed, .ref h_fact, .ref h_marked, .int v_count, .ref h_many, .ref h_codes, .int v_oldCount, .ref h_oldMany, .ref h_oldCodes, .int v_read, .ref h_body, .ref h_roundOf, .ref h_fresh, .int v_last]))]) [0] (by decide) rfl
    have hKc := hK.sub (tys' := []) [] rfl
    have hFc := va_free (wc := [(h_o, .inr (4, [.ref h_line, .int v_typed, .ref h_fact, .ref h_marked, .int v_count, .ref h_many, .ref h_codes, .int v_oldCount, .ref h_oldMany, .ref h_oldCodes, .int v_read, .ref h_body, .ref h_roundOf, .ref h_fresh, .int v_last]))]) hD hS hA [0] rfl
    obtain ⟨v_10, hc_10, h⟩ := of_bind h
    refine va_calli (va_runV (As := [.int x2]) (rest := []) ⟨hx, hb, hml, hown, hts⟩ (c_M_clause l dC dI h_o h_line h_fact h_marked h_many h_codes h_oldMany h_oldCodes h_body h_roundOf h_fresh H.size v_typed v_count v_oldCount v_read v_last x2 v_10.1 v_10.2 hc_10) (cwV 1 hts (gV mlk_M_109 ins_M_clause sel_M_clause ini_M cod_M_clause) rfl rfl rfl (by decide +kernel) ⟨Nat.le_of_ble_eq_true rfl, Nat.le_of_ble_eq_true rfl⟩) ⟨fun a U g mk q => by obtain ⟨q0, q1, qP, qK, qD⟩ := q; exact ⟨q0, q1, qP, va_K.moved (u := U) (U := U.calling g mk a) (Vm.Alike.refl U.vm) qK, qD⟩, va_recv hKc hPc (ci := 4) (q0 := 0) rfl rfl, fun U hU hW => ⟨rfl, by rw [hU], by rw [hU]; exact hPc, va_K.moved hW.alike hKc, hDc.weaken (fun _ _ _ _ => trivial)⟩⟩ rfl rfl hl.1 rfl (lv_room (Nat.le_of_ble_eq_true rfl)) d_M_subsumes_10 ⟨Nat.le_of_ble_eq_true rfl, Nat.le_of_ble_eq_true rfl⟩) hS (fun q _ h9 => hFc q h9) hFc (fun r_10 u t H1 locs ht hvm hw hB hz1 hk1 hS => ?_)
    obtain ⟨rfl, rfl⟩ := hw
    obtain ⟨hP1, hK1, hD1⟩ := hB
    rw [ht] at hP1
    obtain ⟨hP, hD⟩ := va_join (wr := [(h_many, .inl (k_many, 2, .inl v_many)), (h_codes, .inl (k_codes, 6, .inl v_codes))]) (w1 := [(h_o, .inr (4, [.ref h_line, .int v_typed, .ref h_fact, .ref h_marked, .int v_count, .ref h_many, .ref h_codes, .int v_oldCount, .ref h_oldMany, .ref h_oldCodes, .int v_read, .ref h_body, .ref h_roundOf, .ref h_fresh, .int v_last]))]) hP hD [0] [1, 2] rfl rfl (by decide) (by decide) hk1 hFc hP1 hD1
    have hP := hP.sub (ws' := [(h_o, .inr (4, [.ref h_line, .int v_typed, .ref h_fact, .ref h_marked, .int v_count, .ref h_many, .ref h_codes, .int v_oldCount, .ref h_oldMany, .ref h_oldCodes, .int v_read, .ref h_body, .ref h_roundOf, .ref h_fresh, .int v_last])), (h_many, .inl (k_many, 2, .inl v_many)), (h_codes, .inl (k_codes, 6, .inl v_codes))]) [2, 0, 1] rfl
    have hD := hD.sub (ws' := [(h_o, .inr (4, [.ref h_line, .int v_typed, .ref h_fact, .ref h_marked, .int v_count, .ref h_many, .ref h_codes, .int v_oldCount, .ref h_oldMany, .ref h_oldCodes, .int v_read, .ref h_body, .ref h_roundOf, .ref h_fresh, .int v_last])), (h_many, .inl (k_many, 2, .inl v_many)), (h_codes, .inl (k_codes, 6, .inl v_codes))]) [2, 0, 1] (by decide) rfl
    generalize H1 = H at hP hS ⊢
    refine lv_if_ne (tgt := 18) hx hb d_M_subsumes_13 (by decide) (fun c_13 => ?_) (fun c_13 => ?_)
    · have h := of_neg h c_13
      refine lv_iconst (v := (nI 0)) hx hb d_M_subsumes_18 (by decide) ?_
      refine lv_istore_n (lv' := [(3, .int (nI 0)), (0, .ref h_o), (1, .int x1), (2, .int x2)]) hx hb d_M_subsumes_19 rfl hl (by decide) rfl (fun ls hl => ?_)
      refine lv_iconst (v := (nI 0)) hx hb d_M_subsumes_20 (by decide) ?_
      refine lv_istore (lv' := [(4, .int (nI 0)), (3, .int (nI 0)), (0, .ref h_o), (1, .int x1), (2, .int x2)]) hx hb d_M_subsumes_21 hl (by decide) rfl (fun ls hl => ?_)
      exact J_23 40 x1 x2 (nI 0) (nI 0) h _ _ hP hD hS ls (lv_sub hl [2, 3, 4, 1, 0] rfl)
    · have h := of_pos h c_13
      refine lv_iconst (v := (nI 0)) hx hb d_M_subsumes_16 (by decide) ?_
      rw [hQ]
      exact W.zret (v := (nI 0)) hx hb hr rfl (fun t ht hW => ⟨⟨(nI 0), (), rfl, Prod.mk.inj (Option.some.inj h), by rw [ht]; exact hP, va_K.moved hW.alike hK, hD⟩, hS.F ht⟩) hS.2.2 d_M_subsumes_17
set_option maxHeartbeats 1000000 in
set_option maxRecDepth 100000 in
theorem c_M_valueOf (l : Launch) (dC : Nat → ClassId) (dI : Nat → Nat → Nat) (sz : Nat)  (x0 : Int32) (x1 : Int32) (x2 : Int32) (x3 : Int32) (r0 : Int32) (u0 : Unit) (h : m_M_valueOf x0 x1 x2 x3 = some (r0, u0)) : Met l y_M_valueOf w_M_valueOf ({ frames := 0, cells := 0, slots := 0, locals := 0 } : Room) (va_Pc [.int x0, .int x1, .int x2, .int x3] (fun U => U.heap.size = sz ∧ va_P (dC, dI) classes [] U.heap ∧ va_K (dC, dI) classes [] U ∧ va_D (fun _ => True) [])) (va_Qi (fun (r : Int32) (u : Unit) => r = r0 ∧ u = u0) (fun (u : Unit) (t : State) => va_P (dC, dI) classes [] t.heap ∧ va_K (dC, dI) classes [] t ∧ va_D (va_A [] sz) []) (va_A [] sz)) 0 0 (va_A [] sz) := by
  refine Met.ofW (cc := b_M_valueOf) (maxL := 4) (ret := (some .int)) (by decide) rfl ?_
  intro p e s m args below meth c s₁ B hml hv
  obtain ⟨rfl, hsz, hP, hK, hD0⟩ := hv
  have hx := B.exec
  have hb := B.bytes
  have hr := B.returns
  have hts0 := atoms_spec (ws := w_M_valueOf) B.pre
  have hts : ∀ w ∈ lw_gd, w.before ([.int x0, .int x1, .int x2, .int x3] : List Value).toArray s = true := fun w h9 => hts0 w (List.mem_cons_of_mem _ h9)
  have hown : s.vm.findClass R_M = some m.cls := findClass_of_methodNamed B.named
  have hlocks := B.notSynchronized
  subst hsz
  have hD := hD0.self (sz := s.heap.size)
  generalize hAe : va_A [] s.heap.size = A at hD ⊢
  have hA : ∀ q : Nat, s.heap.size ≤ q → A q := fun q h9 => by rw [← hAe]; exact Or.inr h9
  obtain ⟨H, eH⟩ : ∃ H : Heap, H = s.heap := ⟨_, rfl⟩
  have hS : va_S A s.heap H [] := by rw [eH]; exact va_S.rf
  have hP : va_P (dC, dI) classes [] H := by rw [eH]; exact hP
  refine W_gen (fun Q hQ => ?_)
  refine W_heap eH ?_
  clear eH
  have hl := lv_entry ([.int x0, .int x1, .int x2, .int x3]) (n := 4) (Nat.le_of_ble_eq_true rfl)
  rw [lg_entry_eq]
  generalize (lg_sl ([.int x0, .int x1, .int x2, .int x3]) ++ List.replicate (4 - (lg_sl ([.int x0, .int x1, .int x2, .int x3])).length) Slot.unset).toArray = ls at hl ⊢
  have hl : lv_has ls 4 [(0, .int x0), (1, .int x1), (2, .int x2), (3, .int x3)] := hl
  unfold m_M_valueOf at h
  refine lv_iload_n hx hb d_M_valueOf_0 rfl (lv_at hl 0 rfl) ?_
  refine lv_if_ne (tgt := 8) hx hb d_M_valueOf_1 (by decide) (fun c_1 => ?_) (fun c_1 => ?_)
  · have h := of_neg h c_1
    refine lv_iload_n hx hb d_M_valueOf_8 rfl (lv_at hl 0 rfl) ?_
    refine lv_iconst (v := (nI 1)) hx hb d_M_valueOf_9 (by decide) ?_
    refine lv_icmp_ne (tgt := 17) hx hb d_M_valueOf_10 (by decide) (fun c_10 => ?_) (fun c_10 => ?_)
    · have h := of_neg h c_10
      refine lv_iload_n hx hb d_M_valueOf_17 rfl (lv_at hl 3 rfl) ?_
      rw [hQ]
      exact W.iret (v := x3) hx hb hr (fun t ht hW => ⟨⟨x3, (), rfl, Prod.mk.inj (Option.some.inj h), by rw [ht]; exact hP, va_K.moved hW.alike hK, hD⟩, hS.F ht⟩) hS.2.2 d_M_valueOf_18
    · have h := of_pos h c_10
      refine lv_iload_n hx hb d_M_valueOf_13 rfl (lv_at hl 2 rfl) ?_
      refine lv_goto (tgt := 18) hx hb d_M_valueOf_14 (by decide) ?_
      rw [hQ]
      exact W.iret (v := x2) hx hb hr (fun t ht hW => ⟨⟨x2, (), rfl, Prod.mk.inj (Option.some.inj h), by rw [ht]; exact hP, va_K.moved hW.alike hK, hD⟩, hS.F ht⟩) hS.2.2 d_M_valueOf_18
  · have h := of_pos h c_1
    refine lv_iload_n hx hb d_M_valueOf_4 rfl (lv_at hl 1 rfl) ?_
    refine lv_goto (tgt := 18) hx hb d_M_valueOf_5 (by decide) ?_
    rw [hQ]
    exact W.iret (v := x1) hx hb hr (fun t ht hW => ⟨⟨x1, (), rfl, Prod.mk.inj (Option.some.inj h), by rw [ht]; exact hP, va_K.moved hW.alike hK, hD⟩, hS.F ht⟩) hS.2.2 d_M_valueOf_18
set_option maxHeartbeats 1000000 in
set_option maxRecDepth 100000 in
theorem c_M_literalHolds (l : Launch) (dC : Nat → ClassId) (dI : Nat → Nat → Nat) (h_o h_line h_fact h_marked h_many h_codes h_oldMany h_oldCodes h_body h_roundOf h_fresh : Nat) (k_fact k_roundOf : ClassId) (sz : Nat) (v_typed : Int32) (v_count : Int32) (v_oldCount : Int32) (v_read : Int32) (v_last : Int32) (v_fact : Nat → Int32) (v_roundOf : Nat → Int32) (x1 : Int32) (x2 : Int32) (x3 : Int32) (x4 : Int32) (r0 : Int32) (u0 : Unit) (h : m_M_literalHolds v_fact v_roundOf x1 x2 x3 x4 = some (r0, u0)) : Met l y_M_literalHolds w_M_literalHolds ({ frames := 1, cells := 0, slots := 0, locals := 23 } : Room) (va_Pc [.ref h_o, .int x1, .int x2, .int x3, .int x4] (fun U => U.heap.size = sz ∧ va_P (dC, dI) classes [(h_o, .inr (4, [.ref h_line, .int v_typed, .ref h_fact, .ref h_marked, .int v_count, .ref h_many, .ref h_codes, .int v_oldCount, .ref h_oldMany, .ref h_oldCodes, .int v_read, .ref h_body, .ref h_roundOf, .ref h_fresh, .int v_last])), (h_fact, .inl (k_fact, 32, .inl v_fact)), (h_roundOf, .inl (k_roundOf, 16, .inl v_roundOf))] U.heap ∧ va_K (dC, dI) classes [(k_fact, .boolean), (k_roundOf, .int)] U ∧ va_D (fun _ => True) [(h_o, .inr (4, [.ref h_line, .int v_typed, .ref h_fact, .ref h_marked, .int v_count, .ref h_many, .ref h_codes, .int v_oldCount, .ref h_oldMany, .ref h_oldCodes, .int v_read, .ref h_body, .ref h_roundOf, .ref h_fresh, .int v_last])), (h_fact, .inl (k_fact, 32, .inl v_fact)), (h_roundOf, .inl (k_roundOf, 16, .inl v_roundOf))])) (va_Qi (fun (r : Int32) (u : Unit) => r = r0 ∧ u = u0) (fun (u : Unit) (t : State) => va_P (dC, dI) classes [(h_o, .inr (4, [.ref h_line, .int v_typed, .ref h_fact, .ref h_marked, .int v_count, .ref h_many, .ref h_codes, .int v_oldCount, .ref h_oldMany, .ref h_oldCodes, .int v_read, .ref h_body, .ref h_roundOf, .ref h_fresh, .int v_last])), (h_fact, .inl (k_fact, 32, .inl v_fact)), (h_roundOf, .inl (k_roundOf, 16, .inl v_roundOf))] t.heap ∧ va_K (dC, dI) classes [(k_fact, .boolean), (k_roundOf, .int)] t ∧ va_D (va_A [(h_o, .inr (4, [.ref h_line, .int v_typed, .ref h_fact, .ref h_marked, .int v_count, .ref h_many, .ref h_codes, .int v_oldCount, .ref h_oldMany, .ref h_oldCodes, .int v_read, .ref h_body, .ref h_roundOf, .ref h_fresh, .int v_last])), (h_fact, .inl (k_fact, 32, .inl v_fact)), (h_roundOf, .inl (k_roundOf, 16, .inl v_roundOf))] sz) [(h_o, .inr (4, [.ref h_line, .int v_typed, .ref h_fact, .ref h_marked, .int v_count, .ref h_many, .ref h_codes, .int v_oldCount, .ref h_oldMany, .ref h_oldCodes, .int v_read, .ref h_body, .ref h_roundOf, .ref h_fresh, .int v_last])), (h_fact, .inl (k_fact, 32, .inl v_fact)), (h_roundOf, .inl (k_roundOf, 16, .inl v_roundOf))]) (va_A [(h_o, .inr (4, [.ref h_line, .int v_typed, .ref h_fact, .ref h_marked, .int v_count, .ref h_many, .ref h_codes, .int v_oldCount, .ref h_oldMany, .ref h_oldCodes, .int v_read, .ref h_body, .ref h_roundOf, .ref h_fresh, .int v_last])), (h_fact, .inl (k_fact, 32, .inl v_fact)), (h_roundOf, .inl (k_roundOf, 16, .inl v_roundOf))] sz)) 0 0 (va_A [(h_o, .inr (4, [.ref h_line, .int v_typed, .ref h_fact, .ref h_marked, .int v_count, .ref h_many, .ref h_codes, .int v_oldCount, .ref h_oldMany, .ref h_oldCodes, .int v_read, .ref h_body, .ref h_roundOf, .ref h_fresh, .int v_last])), (h_fact, .inl (k_fact, 32, .inl v_fact)), (h_roundOf, .inl (k_roundOf, 16, .inl v_roundOf))] sz) := by
  refine Met.ofW (cc := b_M_literalHolds) (maxL := 8) (ret := (some .boolean)) (by decide) rfl ?_
  intro p e s m args below meth c s₁ B hml hv
  obtain ⟨rfl, hsz, hP, hK, hD0⟩ := hv
  have hx := B.exec
  have hb := B.bytes
  have hr := B.returns
  have hts0 := atoms_spec (ws := w_M_literalHolds) B.pre
  have hts : ∀ w ∈ lw_gd, w.before ([.ref h_o, .int x1, .int x2, .int x3, .int x4] : List Value).toArray s = true := fun w h9 => hts0 w (List.mem_cons_of_mem _ h9)
  have hown : s.vm.findClass R_M = some m.cls := findClass_of_methodNamed B.named
  have hlocks := B.notSynchronized
  subst hsz
  have hD := hD0.self (sz := s.heap.size)
  generalize hAe : va_A [(h_o, .inr (4, [.ref h_line, .int v_typed, .ref h_fact, .ref h_marked, .int v_count, .ref h_many, .ref h_codes, .int v_oldCount, .ref h_oldMany, .ref h_oldCodes, .int v_read, .ref h_body, .ref h_roundOf, .ref h_fresh, .int v_last])), (h_fact, .inl (k_fact, 32, .inl v_fact)), (h_roundOf, .inl (k_roundOf, 16, .inl v_roundOf))] s.heap.size = A at hD ⊢
  have hA : ∀ q : Nat, s.heap.size ≤ q → A q := fun q h9 => by rw [← hAe]; exact Or.inr h9
  obtain ⟨H, eH⟩ : ∃ H : Heap, H = s.heap := ⟨_, rfl⟩
  have hS : va_S A s.heap H [] := by rw [eH]; exact va_S.rf
  have hP : va_P (dC, dI) classes [(h_o, .inr (4, [.ref h_line, .int v_typed, .ref h_fact, .ref h_marked, .int v_count, .ref h_many, .ref h_codes, .int v_oldCount, .ref h_oldMany, .ref h_oldCodes, .int v_read, .ref h_body, .ref h_roundOf, .ref h_fresh, .int v_last])), (h_fact, .inl (k_fact, 32, .inl v_fact)), (h_roundOf, .inl (k_roundOf, 16, .inl v_roundOf))] H := by rw [eH]; exact hP
  refine W_gen (fun Q hQ => ?_)
  refine W_heap eH ?_
  clear eH
  have hl := lv_entry ([.ref h_o, .int x1, .int x2, .int x3, .int x4]) (n := 8) (Nat.le_of_ble_eq_true rfl)
  rw [lg_entry_eq]
  generalize (lg_sl ([.ref h_o, .int x1, .int x2, .int x3, .int x4]) ++ List.replicate (8 - (lg_sl ([.ref h_o, .int x1, .int x2, .int x3, .int x4])).length) Slot.unset).toArray = ls at hl ⊢
  have hl : lv_has ls 8 [(0, .ref h_o), (1, .int x1), (2, .int x2), (3, .int x3), (4, .int x4)] := hl
  unfold m_M_literalHolds at h
  refine lv_iload_n hx hb d_M_literalHolds_0 rfl (lv_at hl 1 rfl) ?_
  refine lv_iconst (v := (nI 3)) hx hb d_M_literalHolds_1 (by decide) ?_
  refine lv_idiv hx hb d_M_literalHolds_2 (by decide) ?_
  refine lv_iconst (v := (nI 3)) hx hb d_M_literalHolds_3 (by decide) ?_
  refine lv_irem hx hb d_M_literalHolds_4 (by decide) ?_
  refine lv_iload_n hx hb d_M_literalHolds_5 rfl (lv_at hl 2 rfl) ?_
  refine lv_iload_n hx hb d_M_literalHolds_6 rfl (lv_at hl 3 rfl) ?_
  refine lv_iload hx hb d_M_literalHolds_7 (lv_at hl 4 rfl) ?_
  have hPc := hP.sub (ws' := []) [] rfl
  have hDc := hD.sub (ws' := []) [] (by decide) rfl
  have hKc := hK.sub (tys' := []) [] rfl
  have hFc := va_free (wc := []) hD hS hA [] rfl
  obtain ⟨v_9, hc_9, h⟩ := of_bind h
  refine va_calli (va_runS (As := [.int (irm (x1 / (nI 3)) (nI 3)), .int x2, .int x3, .int x4]) (rest := []) ⟨hx, hb, hml, hown, hts⟩ (c_M_valueOf l dC dI H.size (irm (x1 / (nI 3)) (nI 3)) x2 x3 x4 v_9.1 v_9.2 hc_9) (va_cwS 4 hts (gS mlk_M_118 sta_M_valueOf ini_M cod_M_valueOf) rfl rfl rfl (by decide +kernel) ⟨Nat.le_of_ble_eq_true rfl, Nat.le_of_ble_eq_true rfl⟩) ⟨fun a U g mk q => by obtain ⟨q0, q1, qP, qK, qD⟩ := q; exact ⟨q0, q1, qP, va_K.moved (u := U) (U := U.calling g mk a) (Vm.Alike.refl U.vm) qK, qD⟩, fun U hU hW => ⟨rfl, by rw [hU], by rw [hU]; exact hPc, va_K.moved hW.alike hKc, hDc.weaken (fun _ _ _ _ => trivial)⟩⟩ rfl rfl hl.1 rfl (lv_room (Nat.le_of_ble_eq_true rfl)) d_M_literalHolds_9 ⟨Nat.le_of_ble_eq_true rfl, Nat.le_of_ble_eq_true rfl⟩) hS (fun q _ h9 => hFc q h9) hFc (fun r_9 u t H1 locs ht hvm hw hB hz1 hk1 hS => ?_)
  obtain ⟨rfl, rfl⟩ := hw
  obtain ⟨hP1, hK1, hD1⟩ := hB
  rw [ht] at hP1
  obtain ⟨hP, hD⟩ := va_join (wr := [(h_o, .inr (4, [.ref h_line, .int v_typed, .ref h_fact, .ref h_marked, .int v_count, .ref h_many, .ref h_codes, .int v_oldCount, .ref h_oldMany, .ref h_oldCodes, .int v_read, .ref h_body, .ref h_roundOf, .ref h_fresh, .int v_last])), (h_fact, .inl (k_fact, 32, .inl v_fact)), (h_roundOf, .inl (k_roundOf, 16, .inl v_roundOf))]) (w1 := []) hP hD [] [0, 1, 2] rfl rfl (by decide) (by decide) hk1 hFc hP1 hD1
  have hP := hP.sub (ws' := [(h_o, .inr (4, [.ref h_line, .int v_typed, .ref h_fact, .ref h_marked, .int v_count, .ref h_many, .ref h_codes, .int v_oldCount, .ref h_oldMany, .ref h_oldCodes, .int v_read, .ref h_body, .ref h_roundOf, .ref h_fresh, .int v_last])), (h_fact, .inl (k_fact, 32, .inl v_fact)), (h_roundOf, .inl (k_roundOf, 16, .inl v_roundOf))]) [0, 1, 2] rfl
  have hD := hD.sub (ws' := [(h_o, .inr (4, [.ref h_line, .int v_typed, .ref h_fact, .ref h_marked, .int v_count, .ref h_many, .ref h_codes, .int v_oldCount, .ref h_oldMany, .ref h_oldCodes, .int v_read, .ref h_body, .ref h_roundOf, .ref h_fresh, .int v_last])), (h_fact, .inl (k_fact, 32, .inl v_fact)), (h_roundOf, .inl (k_roundOf, 16, .inl v_roundOf))]) [0, 1, 2] (by decide) rfl
  generalize H1 = H at hP hS ⊢
  refine lv_istore (lv' := [(5, .int v_9.1), (0, .ref h_o), (1, .int x1), (2, .int x2), (3, .int x3), (4, .int x4)]) hx hb d_M_literalHolds_12 hl (by decide) rfl (fun ls hl => ?_)
  refine lv_iload_n hx hb d_M_literalHolds_14 rfl (lv_at hl 2 rfl) ?_
  refine lv_iconst (v := (nI 3)) hx hb d_M_literalHolds_15 (by decide) ?_
  refine lv_irem hx hb d_M_literalHolds_16 (by decide) ?_
  refine lv_iload_n hx hb d_M_literalHolds_17 rfl (lv_at hl 3 rfl) ?_
  refine lv_iload_n hx hb d_M_literalHolds_18 rfl (lv_at hl 4 rfl) ?_
  refine lv_iload hx hb d_M_literalHolds_19 (lv_at hl 5 rfl) ?_
  have hPc := hP.sub (ws' := []) [] rfl
  have hDc := hD.sub (ws' := []) [] (by decide) rfl
  have hKc := hK.sub (tys' := []) [] rfl
  have hFc := va_free (wc := []) hD hS hA [] rfl
  obtain ⟨v_21, hc_21, h⟩ := of_bind h
  refine va_calli (va_runS (As := [.int (irm x1 (nI 3)), .int x2, .int x3, .int x4]) (rest := []) ⟨hx, hb, hml, hown, hts⟩ (c_M_valueOf l dC dI H.size (irm x1 (nI 3)) x2 x3 x4 v_21.1 v_21.2 hc_21) (va_cwS 4 hts (gS mlk_M_118 sta_M_valueOf ini_M cod_M_valueOf) rfl rfl rfl (by decide +kernel) ⟨Nat.le_of_ble_eq_true rfl, Nat.le_of_ble_eq_true rfl⟩) ⟨fun a U g mk q => by obtain ⟨q0, q1, qP, qK, qD⟩ := q; exact ⟨q0, q1, qP, va_K.moved (u := U) (U := U.calling g mk a) (Vm.Alike.refl U.vm) qK, qD⟩, fun U hU hW => ⟨rfl, by rw [hU], by rw [hU]; exact hPc, va_K.moved hW.alike hKc, hDc.weaken (fun _ _ _ _ => trivial)⟩⟩ rfl rfl hl.1 rfl (lv_room (Nat.le_of_ble_eq_true rfl)) d_M_literalHolds_21 ⟨Nat.le_of_ble_eq_true rfl, Nat.le_of_ble_eq_true rfl⟩) hS (fun q _ h9 => hFc q h9) hFc (fun r_21 u t H1 locs ht hvm hw hB hz1 hk1 hS => ?_)
  obtain ⟨rfl, rfl⟩ := hw
  obtain ⟨hP1, hK1, hD1⟩ := hB
  rw [ht] at hP1
  obtain ⟨hP, hD⟩ := va_join (wr := [(h_o, .inr (4, [.ref h_line, .int v_typed, .ref h_fact, .ref h_marked, .int v_count, .ref h_many, .ref h_codes, .int v_oldCount, .ref h_oldMany, .ref h_oldCodes, .int v_read, .ref h_body, .ref h_roundOf, .ref h_fresh, .int v_last])), (h_fact, .inl (k_fact, 32, .inl v_fact)), (h_roundOf, .inl (k_roundOf, 16, .inl v_roundOf))]) (w1 := []) hP hD [] [0, 1, 2] rfl rfl (by decide) (by decide) hk1 hFc hP1 hD1
  have hP := hP.sub (ws' := [(h_o, .inr (4, [.ref h_line, .int v_typed, .ref h_fact, .ref h_marked, .int v_count, .ref h_many, .ref h_codes, .int v_oldCount, .ref h_oldMany, .ref h_oldCodes, .int v_read, .ref h_body, .ref h_roundOf, .ref h_fresh, .int v_last])), (h_fact, .inl (k_fact, 32, .inl v_fact)), (h_roundOf, .inl (k_roundOf, 16, .inl v_roundOf))]) [0, 1, 2] rfl
  have hD := hD.sub (ws' := [(h_o, .inr (4, [.ref h_line, .int v_typed, .ref h_fact, .ref h_marked, .int v_count, .ref h_many, .ref h_codes, .int v_oldCount, .ref h_oldMany, .ref h_oldCodes, .int v_read, .ref h_body, .ref h_roundOf, .ref h_fresh, .int v_last])), (h_fact, .inl (k_fact, 32, .inl v_fact)), (h_roundOf, .inl (k_roundOf, 16, .inl v_roundOf))]) [0, 1, 2] (by decide) rfl
  generalize H1 = H at hP hS ⊢
  refine lv_istore (lv' := [(6, .int v_21.1), (5, .int v_9.1), (0, .ref h_o), (1, .int x1), (2, .int x2), (3, .int x3), (4, .int x4)]) hx hb d_M_literalHolds_24 hl (by decide) rfl (fun ls hl => ?_)
  refine lv_iconst (v := (nI 4)) hx hb d_M_literalHolds_26 (by decide) ?_
  refine lv_iload hx hb d_M_literalHolds_27 (lv_at hl 1 rfl) ?_
  refine lv_imul hx hb d_M_literalHolds_29 ?_
  refine lv_iload hx hb d_M_literalHolds_30 (lv_at hl 0 rfl) ?_
  refine lv_iadd hx hb d_M_literalHolds_32 ?_
  refine lv_istore (lv' := [(7, .int (((nI 4) * v_9.1) + v_21.1)), (6, .int v_21.1), (5, .int v_9.1), (0, .ref h_o), (1, .int x1), (2, .int x2), (3, .int x3), (4, .int x4)]) hx hb d_M_literalHolds_33 hl (by decide) rfl (fun ls hl => ?_)
  refine lv_iload_n hx hb d_M_literalHolds_35 rfl (lv_at hl 4 rfl) ?_
  refine lv_bipush (v := (nI 18)) hx hb d_M_literalHolds_36 (by decide) ?_
  refine lv_icmp_ge (tgt := 59) hx hb d_M_literalHolds_38 (by decide) (fun c_38 => ?_) (fun c_38 => ?_)
  · have h := of_pos h c_38
    refine lv_aload_n hx hb d_M_literalHolds_59 rfl (lv_at hl 3 rfl) ?_
    refine va_get (D := (dC, dI)) (ci := 4) (v := .ref h_roundOf) (C := R_M) (T := F_M) (N := 15) hx hb hts lay_M hown hK hP 0 rfl rfl 12 (by decide) (hts _ flk_M_35) (fun _ h9 => h9) rfl d_M_literalHolds_60 ?_
    refine lv_iload hx hb d_M_literalHolds_63 (lv_at hl 0 rfl) ?_
    obtain ⟨g_65, h⟩ := of_guard h
    refine va_iald hx hb hK hP 2 1 rfl rfl (inR_in g_65) d_M_literalHolds_65 ?_
    refine lv_if_le (tgt := 73) hx hb d_M_literalHolds_66 (by decide) (fun c_66 => ?_) (fun c_66 => ?_)
    · have h := of_pos h c_66
      refine lv_iconst (v := (nI 0)) hx hb d_M_literalHolds_73 (by decide) ?_
      rw [hQ]
      exact W.zret (v := (nI 0)) hx hb hr rfl (fun t ht hW => ⟨⟨(nI 0), (), rfl, Prod.mk.inj (Option.some.inj h), by rw [ht]; exact hP, va_K.moved hW.alike hK, hD⟩, hS.F ht⟩) hS.2.2 d_M_literalHolds_74
    · have h := of_neg h c_66
      refine lv_iconst (v := (nI 1)) hx hb d_M_literalHolds_69 (by decide) ?_
      refine lv_goto (tgt := 74) hx hb d_M_literalHolds_70 (by decide) ?_
      rw [hQ]
      exact W.zret (v := (nI 1)) hx hb hr rfl (fun t ht hW => ⟨⟨(nI 1), (), rfl, Prod.mk.inj (Option.some.inj h), by rw [ht]; exact hP, va_K.moved hW.alike hK, hD⟩, hS.F ht⟩) hS.2.2 d_M_literalHolds_74
  · have h := of_neg h c_38
    refine lv_aload_n hx hb d_M_literalHolds_41 rfl (lv_at hl 3 rfl) ?_
    refine va_get (D := (dC, dI)) (ci := 4) (v := .ref h_fact) (C := R_M) (T := F_M) (N := 15) hx hb hts lay_M hown hK hP 0 rfl rfl 2 (by decide) (hts _ flk_M_13) (fun _ h9 => h9) rfl d_M_literalHolds_42 ?_
    refine lv_bipush (v := (nI 16)) hx hb d_M_literalHolds_45 (by decide) ?_
    refine lv_iload_n hx hb d_M_literalHolds_47 rfl (lv_at hl 4 rfl) ?_
    refine lv_bipush (v := (nI 9)) hx hb d_M_literalHolds_48 (by decide) ?_
    refine lv_idiv hx hb d_M_literalHolds_50 (by decide) ?_
    refine lv_imul hx hb d_M_literalHolds_51 ?_
    refine lv_iload hx hb d_M_literalHolds_52 (lv_at hl 0 rfl) ?_
    refine lv_iadd hx hb d_M_literalHolds_54 ?_
    obtain ⟨g_55, h⟩ := of_guard h
    refine va_zald hx hb hK hP 1 0 rfl rfl (inR_in g_55) d_M_literalHolds_55 ?_
    refine lv_goto (tgt := 74) hx hb d_M_literalHolds_56 (by decide) ?_
    obtain ⟨g_74, h⟩ := of_guard h
    rw [hQ]
    exact W.zret (v := v_fact (((nI 16) * (x1 / (nI 9))) + (((nI 4) * v_9.1) + v_21.1)).toNatClampNeg) hx hb hr (nrz g_74) (fun t ht hW => ⟨⟨v_fact (((nI 16) * (x1 / (nI 9))) + (((nI 4) * v_9.1) + v_21.1)).toNatClampNeg, (), rfl, Prod.mk.inj (Option.some.inj h), by rw [ht]; exact hP, va_K.moved hW.alike hK, hD⟩, hS.F ht⟩) hS.2.2 d_M_literalHolds_74
