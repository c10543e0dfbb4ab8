theorem d_S_coder_0 : decode b_S_coder 0 = .ok (.getstatic 38, 3) := by decide +kernel
theorem d_S_coder_3 : decode b_S_coder 3 = .ok (.ifCond .eq 10, 3) := by decide +kernel
theorem d_S_coder_6 : decode b_S_coder 6 = .ok (.aload_n 0, 1) := by decide +kernel
theorem d_S_coder_7 : decode b_S_coder 7 = .ok (.getfield 15, 3) := by decide +kernel
theorem d_S_coder_10 : decode b_S_coder 10 = .ok (.goto 4, 3) := by decide +kernel
theorem d_S_coder_13 : decode b_S_coder 13 = .ok (.iconst 1, 1) := by decide +kernel
theorem d_S_coder_14 : decode b_S_coder 14 = .ok (.ireturn, 1) := by decide +kernel
theorem d_S_isLatin1_0 : decode b_S_isLatin1 0 = .ok (.getstatic 38, 3) := by decide +kernel
theorem d_S_isLatin1_3 : decode b_S_isLatin1 3 = .ok (.ifCond .eq 14, 3) := by decide +kernel
theorem d_S_isLatin1_6 : decode b_S_isLatin1 6 = .ok (.aload_n 0, 1) := by decide +kernel
theorem d_S_isLatin1_7 : decode b_S_isLatin1 7 = .ok (.getfield 15, 3) := by decide +kernel
theorem d_S_isLatin1_10 : decode b_S_isLatin1 10 = .ok (.ifCond .ne 7, 3) := by decide +kernel
theorem d_S_isLatin1_13 : decode b_S_isLatin1 13 = .ok (.iconst 1, 1) := by decide +kernel
theorem d_S_isLatin1_14 : decode b_S_isLatin1 14 = .ok (.goto 4, 3) := by decide +kernel
theorem d_S_isLatin1_17 : decode b_S_isLatin1 17 = .ok (.iconst 0, 1) := by decide +kernel
theorem d_S_isLatin1_18 : decode b_S_isLatin1 18 = .ok (.ireturn, 1) := by decide +kernel
theorem d_S_length_0 : decode b_S_length 0 = .ok (.aload_n 0, 1) := by decide +kernel
theorem d_S_length_1 : decode b_S_length 1 = .ok (.getfield 9, 3) := by decide +kernel
theorem d_S_length_4 : decode b_S_length 4 = .ok (.arraylength, 1) := by decide +kernel
theorem d_S_length_5 : decode b_S_length 5 = .ok (.aload_n 0, 1) := by decide +kernel
theorem d_S_length_6 : decode b_S_length 6 = .ok (.invokevirtual 335, 3) := by decide +kernel
theorem d_S_length_9 : decode b_S_length 9 = .ok (.ishr, 1) := by decide +kernel
theorem d_S_length_10 : decode b_S_length 10 = .ok (.ireturn, 1) := by decide +kernel
theorem d_Q_checkIndex_0 : decode b_Q_checkIndex 0 = .ok (.iload_n 0, 1) := by decide +kernel
theorem d_Q_checkIndex_1 : decode b_Q_checkIndex 1 = .ok (.ifCond .lt 8, 3) := by decide +kernel
theorem d_Q_checkIndex_4 : decode b_Q_checkIndex 4 = .ok (.iload_n 0, 1) := by decide +kernel
theorem d_Q_checkIndex_5 : decode b_Q_checkIndex 5 = .ok (.iload_n 1, 1) := by decide +kernel
theorem d_Q_checkIndex_6 : decode b_Q_checkIndex 6 = .ok (.if_icmp .lt 10, 3) := by decide +kernel
theorem d_Q_checkIndex_9 : decode b_Q_checkIndex 9 = .ok (.aload_n 2, 1) := by decide +kernel
theorem d_Q_checkIndex_10 : decode b_Q_checkIndex 10 = .ok (.iload_n 0, 1) := by decide +kernel
theorem d_Q_checkIndex_11 : decode b_Q_checkIndex 11 = .ok (.iload_n 1, 1) := by decide +kernel
theorem d_Q_checkIndex_12 : decode b_Q_checkIndex 12 = .ok (.invokestatic 95, 3) := by decide +kernel
theorem d_Q_checkIndex_15 : decode b_Q_checkIndex 15 = .ok (.athrow, 1) := by decide +kernel
theorem d_Q_checkIndex_16 : decode b_Q_checkIndex 16 = .ok (.iload_n 0, 1) := by decide +kernel
theorem d_Q_checkIndex_17 : decode b_Q_checkIndex 17 = .ok (.ireturn, 1) := by decide +kernel
theorem d_S_checkIndex_0 : decode b_S_checkIndex 0 = .ok (.iload_n 0, 1) := by decide +kernel
theorem d_S_checkIndex_1 : decode b_S_checkIndex 1 = .ok (.iload_n 1, 1) := by decide +kernel
theorem d_S_checkIndex_2 : decode b_S_checkIndex 2 = .ok (.getstatic 1053, 3) := by decide +kernel
theorem d_S_checkIndex_5 : decode b_S_checkIndex 5 = .ok (.invokestatic 1059, 3) := by decide +kernel
theorem d_S_checkIndex_8 : decode b_S_checkIndex 8 = .ok (.pop, 1) := by decide +kernel
theorem d_S_checkIndex_9 : decode b_S_checkIndex 9 = .ok (.return_, 1) := by decide +kernel
theorem d_T_charAt_0 : decode b_T_charAt 0 = .ok (.iload_n 1, 1) := by decide +kernel
theorem d_T_charAt_1 : decode b_T_charAt 1 = .ok (.aload_n 0, 1) := by decide +kernel
theorem d_T_charAt_2 : decode b_T_charAt 2 = .ok (.arraylength, 1) := by decide +kernel
theorem d_T_charAt_3 : decode b_T_charAt 3 = .ok (.invokestatic 9, 3) := by decide +kernel
theorem d_T_charAt_6 : decode b_T_charAt 6 = .ok (.aload_n 0, 1) := by decide +kernel
theorem d_T_charAt_7 : decode b_T_charAt 7 = .ok (.iload_n 1, 1) := by decide +kernel
theorem d_T_charAt_8 : decode b_T_charAt 8 = .ok (.baload, 1) := by decide +kernel
theorem d_T_charAt_9 : decode b_T_charAt 9 = .ok (.sipush 255, 3) := by decide +kernel
theorem d_T_charAt_12 : decode b_T_charAt 12 = .ok (.iand, 1) := by decide +kernel
theorem d_T_charAt_13 : decode b_T_charAt 13 = .ok (.i2c, 1) := by decide +kernel
theorem d_T_charAt_14 : decode b_T_charAt 14 = .ok (.ireturn, 1) := by decide +kernel
theorem d_S_charAt_0 : decode b_S_charAt 0 = .ok (.aload_n 0, 1) := by decide +kernel
theorem d_S_charAt_1 : decode b_S_charAt 1 = .ok (.invokevirtual 492, 3) := by decide +kernel
theorem d_S_charAt_4 : decode b_S_charAt 4 = .ok (.ifCond .eq 12, 3) := by decide +kernel
theorem d_S_charAt_7 : decode b_S_charAt 7 = .ok (.aload_n 0, 1) := by decide +kernel
theorem d_S_charAt_8 : decode b_S_charAt 8 = .ok (.getfield 9, 3) := by decide +kernel
theorem d_S_charAt_11 : decode b_S_charAt 11 = .ok (.iload_n 1, 1) := by decide +kernel
theorem d_S_charAt_12 : decode b_S_charAt 12 = .ok (.invokestatic 495, 3) := by decide +kernel
theorem d_S_charAt_15 : decode b_S_charAt 15 = .ok (.ireturn, 1) := by decide +kernel
theorem d_S_charAt_16 : decode b_S_charAt 16 = .ok (.aload_n 0, 1) := by decide +kernel
theorem d_S_charAt_17 : decode b_S_charAt 17 = .ok (.getfield 9, 3) := by decide +kernel
theorem d_S_charAt_20 : decode b_S_charAt 20 = .ok (.iload_n 1, 1) := by decide +kernel
theorem d_S_charAt_21 : decode b_S_charAt 21 = .ok (.invokestatic 498, 3) := by decide +kernel
theorem d_S_charAt_24 : decode b_S_charAt 24 = .ok (.ireturn, 1) := by decide +kernel
theorem d_T_canEncode_0 : decode b_T_canEncode 0 = .ok (.iload_n 0, 1) := by decide +kernel
theorem d_T_canEncode_1 : decode b_T_canEncode 1 = .ok (.ifCond .lt 14, 3) := by decide +kernel
theorem d_T_canEncode_4 : decode b_T_canEncode 4 = .ok (.iload_n 0, 1) := by decide +kernel
theorem d_T_canEncode_5 : decode b_T_canEncode 5 = .ok (.sipush 255, 3) := by decide +kernel
theorem d_T_canEncode_8 : decode b_T_canEncode 8 = .ok (.if_icmp .gt 7, 3) := by decide +kernel
theorem d_T_canEncode_11 : decode b_T_canEncode 11 = .ok (.iconst 1, 1) := by decide +kernel
theorem d_T_canEncode_12 : decode b_T_canEncode 12 = .ok (.goto 4, 3) := by decide +kernel
theorem d_T_canEncode_15 : decode b_T_canEncode 15 = .ok (.iconst 0, 1) := by decide +kernel
theorem d_T_canEncode_16 : decode b_T_canEncode 16 = .ok (.ireturn, 1) := by decide +kernel
theorem d_T_indexOfChar_0 : decode b_T_indexOfChar 0 = .ok (.iload_n 1, 1) := by decide +kernel
theorem d_T_indexOfChar_1 : decode b_T_indexOfChar 1 = .ok (.i2b, 1) := by decide +kernel
theorem d_T_indexOfChar_2 : decode b_T_indexOfChar 2 = .ok (.istore 4, 2) := by decide +kernel
theorem d_T_indexOfChar_4 : decode b_T_indexOfChar 4 = .ok (.iload_n 2, 1) := by decide +kernel
theorem d_T_indexOfChar_5 : decode b_T_indexOfChar 5 = .ok (.istore 5, 2) := by decide +kernel
theorem d_T_indexOfChar_7 : decode b_T_indexOfChar 7 = .ok (.iload 5, 2) := by decide +kernel
theorem d_T_indexOfChar_9 : decode b_T_indexOfChar 9 = .ok (.iload_n 3, 1) := by decide +kernel
theorem d_T_indexOfChar_10 : decode b_T_indexOfChar 10 = .ok (.if_icmp .ge 21, 3) := by decide +kernel
theorem d_T_indexOfChar_13 : decode b_T_indexOfChar 13 = .ok (.aload_n 0, 1) := by decide +kernel
theorem d_T_indexOfChar_14 : decode b_T_indexOfChar 14 = .ok (.iload 5, 2) := by decide +kernel
theorem d_T_indexOfChar_16 : decode b_T_indexOfChar 16 = .ok (.baload, 1) := by decide +kernel
theorem d_T_indexOfChar_17 : decode b_T_indexOfChar 17 = .ok (.iload 4, 2) := by decide +kernel
theorem d_T_indexOfChar_19 : decode b_T_indexOfChar 19 = .ok (.if_icmp .ne 6, 3) := by decide +kernel
theorem d_T_indexOfChar_22 : decode b_T_indexOfChar 22 = .ok (.iload 5, 2) := by decide +kernel
theorem d_T_indexOfChar_24 : decode b_T_indexOfChar 24 = .ok (.ireturn, 1) := by decide +kernel
theorem d_T_indexOfChar_25 : decode b_T_indexOfChar 25 = .ok (.iinc 5 1, 3) := by decide +kernel
theorem d_T_indexOfChar_28 : decode b_T_indexOfChar 28 = .ok (.goto (-21), 3) := by decide +kernel
theorem d_T_indexOfChar_31 : decode b_T_indexOfChar 31 = .ok (.iconst (-1), 1) := by decide +kernel
theorem d_T_indexOfChar_32 : decode b_T_indexOfChar 32 = .ok (.ireturn, 1) := by decide +kernel
theorem d_T_indexOf_0 : decode b_T_indexOf 0 = .ok (.iload_n 1, 1) := by decide +kernel
theorem d_T_indexOf_1 : decode b_T_indexOf 1 = .ok (.invokestatic 88, 3) := by decide +kernel
theorem d_T_indexOf_4 : decode b_T_indexOf 4 = .ok (.ifCond .ne 5, 3) := by decide +kernel
theorem d_T_indexOf_7 : decode b_T_indexOf 7 = .ok (.iconst (-1), 1) := by decide +kernel
theorem d_T_indexOf_8 : decode b_T_indexOf 8 = .ok (.ireturn, 1) := by decide +kernel
theorem d_T_indexOf_9 : decode b_T_indexOf 9 = .ok (.iload_n 2, 1) := by decide +kernel
theorem d_T_indexOf_10 : decode b_T_indexOf 10 = .ok (.iconst 0, 1) := by decide +kernel
theorem d_T_indexOf_11 : decode b_T_indexOf 11 = .ok (.invokestatic 92, 3) := by decide +kernel
theorem d_T_indexOf_14 : decode b_T_indexOf 14 = .ok (.istore_n 2, 1) := by decide +kernel
theorem d_T_indexOf_15 : decode b_T_indexOf 15 = .ok (.iload_n 3, 1) := by decide +kernel
theorem d_T_indexOf_16 : decode b_T_indexOf 16 = .ok (.aload_n 0, 1) := by decide +kernel
theorem d_T_indexOf_17 : decode b_T_indexOf 17 = .ok (.arraylength, 1) := by decide +kernel
theorem d_T_indexOf_18 : decode b_T_indexOf 18 = .ok (.invokestatic 38, 3) := by decide +kernel
theorem d_T_indexOf_21 : decode b_T_indexOf 21 = .ok (.istore_n 3, 1) := by decide +kernel
theorem d_T_indexOf_22 : decode b_T_indexOf 22 = .ok (.iload_n 2, 1) := by decide +kernel
theorem d_T_indexOf_23 : decode b_T_indexOf 23 = .ok (.iload_n 3, 1) := by decide +kernel
theorem d_T_indexOf_24 : decode b_T_indexOf 24 = .ok (.if_icmp .lt 5, 3) := by decide +kernel
theorem d_T_indexOf_27 : decode b_T_indexOf 27 = .ok (.iconst (-1), 1) := by decide +kernel
theorem d_T_indexOf_28 : decode b_T_indexOf 28 = .ok (.ireturn, 1) := by decide +kernel
theorem d_T_indexOf_29 : decode b_T_indexOf 29 = .ok (.aload_n 0, 1) := by decide +kernel
theorem d_T_indexOf_30 : decode b_T_indexOf 30 = .ok (.iload_n 1, 1) := by decide +kernel
theorem d_T_indexOf_31 : decode b_T_indexOf 31 = .ok (.iload_n 2, 1) := by decide +kernel
theorem d_T_indexOf_32 : decode b_T_indexOf 32 = .ok (.iload_n 3, 1) := by decide +kernel
theorem d_T_indexOf_33 : decode b_T_indexOf 33 = .ok (.invokestatic 95, 3) := by decide +kernel
theorem d_T_indexOf_36 : decode b_T_indexOf 36 = .ok (.ireturn, 1) := by decide +kernel
theorem d_S_indexOf2_0 : decode b_S_indexOf2 0 = .ok (.aload_n 0, 1) := by decide +kernel
theorem d_S_indexOf2_1 : decode b_S_indexOf2 1 = .ok (.invokevirtual 492, 3) := by decide +kernel
theorem d_S_indexOf2_4 : decode b_S_indexOf2 4 = .ok (.ifCond .eq 19, 3) := by decide +kernel
theorem d_S_indexOf2_7 : decode b_S_indexOf2 7 = .ok (.aload_n 0, 1) := by decide +kernel
theorem d_S_indexOf2_8 : decode b_S_indexOf2 8 = .ok (.getfield 9, 3) := by decide +kernel
theorem d_S_indexOf2_11 : decode b_S_indexOf2 11 = .ok (.iload_n 1, 1) := by decide +kernel
theorem d_S_indexOf2_12 : decode b_S_indexOf2 12 = .ok (.iload_n 2, 1) := by decide +kernel
theorem d_S_indexOf2_13 : decode b_S_indexOf2 13 = .ok (.aload_n 0, 1) := by decide +kernel
theorem d_S_indexOf2_14 : decode b_S_indexOf2 14 = .ok (.invokevirtual 505, 3) := by decide +kernel
theorem d_S_indexOf2_17 : decode b_S_indexOf2 17 = .ok (.invokestatic 637, 3) := by decide +kernel
theorem d_S_indexOf2_20 : decode b_S_indexOf2 20 = .ok (.goto 16, 3) := by decide +kernel
theorem d_S_indexOf2_23 : decode b_S_indexOf2 23 = .ok (.aload_n 0, 1) := by decide +kernel
theorem d_S_indexOf2_24 : decode b_S_indexOf2 24 = .ok (.getfield 9, 3) := by decide +kernel
theorem d_S_indexOf2_27 : decode b_S_indexOf2 27 = .ok (.iload_n 1, 1) := by decide +kernel
theorem d_S_indexOf2_28 : decode b_S_indexOf2 28 = .ok (.iload_n 2, 1) := by decide +kernel
theorem d_S_indexOf2_29 : decode b_S_indexOf2 29 = .ok (.aload_n 0, 1) := by decide +kernel
theorem d_S_indexOf2_30 : decode b_S_indexOf2 30 = .ok (.invokevirtual 505, 3) := by decide +kernel
theorem d_S_indexOf2_33 : decode b_S_indexOf2 33 = .ok (.invokestatic 640, 3) := by decide +kernel
theorem d_S_indexOf2_36 : decode b_S_indexOf2 36 = .ok (.ireturn, 1) := by decide +kernel
theorem d_S_indexOf1_0 : decode b_S_indexOf1 0 = .ok (.aload_n 0, 1) := by decide +kernel
theorem d_S_indexOf1_1 : decode b_S_indexOf1 1 = .ok (.iload_n 1, 1) := by decide +kernel
theorem d_S_indexOf1_2 : decode b_S_indexOf1 2 = .ok (.iconst 0, 1) := by decide +kernel
theorem d_S_indexOf1_3 : decode b_S_indexOf1 3 = .ok (.invokevirtual 633, 3) := by decide +kernel
theorem d_S_indexOf1_6 : decode b_S_indexOf1 6 = .ok (.ireturn, 1) := by decide +kernel
set_option maxHeartbeats 1000000 in
set_option maxRecDepth 100000 in
theorem c_S_coder (l : Launch) (dC : Nat → ClassId) (dI : Nat → Nat → Nat) (tb : Nat) (ak av : Nat → Nat) (sz : Nat)  (x0 : Nat) (r0 : Int32) (u0 : Unit) (h : m_S_coder x0 = some (r0, u0)) : Met l y_S_coder w_S_coder ({ frames := 0, cells := 0, slots := 0, locals := 0 } : Room) (va_Pc [.ref (ak x0)] (fun U => U.heap.size = sz ∧ va_P (dC, dI) classes [] U.heap ∧ va_K (dC, dI) classes [] U ∧ va_D (fun _ => True) [] ∧ kw tb ak av (va_A [] sz) U)) (va_Qi (fun (r : Int32) (u : Unit) => r = r0 ∧ u = u0) (fun (u : Unit) (t : State) => va_P (dC, dI) classes [] t.heap ∧ va_K (dC, dI) classes [] t ∧ va_D (va_A [] sz) []) (va_A [] sz)) 0 0 (va_A [] sz) := by
  refine Met.ofW (cc := b_S_coder) (maxL := 1) (ret := (some .byte)) (by decide) rfl ?_
  intro p e s m args below meth c s₁ B hml hv
  obtain ⟨rfl, hsz, hP, hK, hD0, hC⟩ := hv
  have hx := B.exec
  have hb := B.bytes
  have hr := B.returns
  have hts0 := atoms_spec (ws := w_S_coder) B.pre
  have hts : ∀ w ∈ lw_gd, w.before ([.ref (ak x0)] : List Value).toArray s = true := fun w h9 => hts0 w (List.mem_cons_of_mem _ h9)
  have hown : s.vm.findClass R_S = some m.cls := findClass_of_methodNamed B.named
  have hlocks := B.notSynchronized
  subst hsz
  have hD := hD0.self (sz := s.heap.size)
  generalize hAe : va_A [] s.heap.size = A at hD hC ⊢
  have hA : ∀ q : Nat, s.heap.size ≤ q → A q := fun q h9 => by rw [← hAe]; exact Or.inr h9
  obtain ⟨H, eH⟩ : ∃ H : Heap, H = s.heap := ⟨_, rfl⟩
  have hS : va_S A s.heap H [] := by rw [eH]; exact va_S.rf
  have hP : va_P (dC, dI) classes [] H := by rw [eH]; exact hP
  refine W_gen (fun Q hQ => ?_)
  refine W_heap eH ?_
  clear eH
  have hl := lv_entry ([.ref (ak x0)]) (n := 1) (Nat.le_of_ble_eq_true rfl)
  rw [lg_entry_eq]
  generalize (lg_sl ([.ref (ak x0)]) ++ List.replicate (1 - (lg_sl ([.ref (ak x0)])).length) Slot.unset).toArray = ls at hl ⊢
  have hl : lv_has ls 1 [(0, .ref (ak x0))] := hl
  unfold m_S_coder at h
  refine va_gets hx hb hC.cmp hS hown (hts _ flk_S_38) (fun _ h9 => h9) d_S_coder_0 ?_
  refine lv_if_eq (tgt := 13) hx hb d_S_coder_3 (by decide) (fun c_3 => ?_) (fun c_3 => ?_)
  · have h := of_pos h c_3
    refine lv_iconst (v := (nI 1)) hx hb d_S_coder_13 (by decide) ?_
    rw [hQ]
    exact W.zret (v := (nI 1)) hx hb hr rfl (fun t ht hW => ⟨⟨(nI 1), (), rfl, Prod.mk.inj (Option.some.inj h), by rw [ht]; exact hP, va_K.moved hW.alike hK, hD⟩, hS.F ht⟩) hS.2.2 d_S_coder_14
  · have h := of_neg h c_3
    refine lv_aload_n hx hb d_S_coder_6 rfl (lv_at hl 0 rfl) ?_
    obtain ⟨g_7, h⟩ := of_guard h
    refine vk_getf hx hb (hC.cod (inN_lt g_7)) hS hown (hts _ flk_S_15) (fun _ h9 => h9) d_S_coder_7 ?_
    refine lv_goto (tgt := 14) hx hb d_S_coder_10 (by decide) ?_
    rw [hQ]
    exact W.zret (v := (nI 0)) hx hb hr rfl (fun t ht hW => ⟨⟨(nI 0), (), rfl, Prod.mk.inj (Option.some.inj h), by rw [ht]; exact hP, va_K.moved hW.alike hK, hD⟩, hS.F ht⟩) hS.2.2 d_S_coder_14
set_option maxHeartbeats 1000000 in
set_option maxRecDepth 100000 in
theorem c_S_isLatin1 (l : Launch) (dC : Nat → ClassId) (dI : Nat → Nat → Nat) (tb : Nat) (ak av : Nat → Nat) (sz : Nat)  (x0 : Nat) (r0 : Int32) (u0 : Unit) (h : m_S_isLatin1 x0 = some (r0, u0)) : Met l y_S_isLatin1 w_S_isLatin1 ({ frames := 0, cells := 0, slots := 0, locals := 0 } : Room) (va_Pc [.ref (ak x0)] (fun U => U.heap.size = sz ∧ va_P (dC, dI) classes [] U.heap ∧ va_K (dC, dI) classes [] U ∧ va_D (fun _ => True) [] ∧ kw tb ak av (va_A [] sz) U)) (va_Qi (fun (r : Int32) (u : Unit) => r = r0 ∧ u = u0) (fun (u : Unit) (t : State) => va_P (dC, dI) classes [] t.heap ∧ va_K (dC, dI) classes [] t ∧ va_D (va_A [] sz) []) (va_A [] sz)) 0 0 (va_A [] sz) := by
  refine Met.ofW (cc := b_S_isLatin1) (maxL := 1) (ret := (some .boolean)) (by decide) rfl ?_
  intro p e s m args below meth c s₁ B hml hv
  obtain ⟨rfl, hsz, hP, hK, hD0, hC⟩ := hv
  have hx := B.exec
  have hb := B.bytes
  have hr := B.returns
  have hts0 := atoms_spec (ws := w_S_isLatin1) B.pre
  have hts : ∀ w ∈ lw_gd, w.before ([.ref (ak x0)] : List Value).toArray s = true := fun w h9 => hts0 w (List.mem_cons_of_mem _ h9)
  have hown : s.vm.findClass R_S = some m.cls := findClass_of_methodNamed B.named
  have hlocks := B.notSynchronized
  subst hsz
  have hD := hD0.self (sz := s.heap.size)
  generalize hAe : va_A [] s.heap.size = A at hD hC ⊢
  have hA : ∀ q : Nat, s.heap.size ≤ q → A q := fun q h9 => by rw [← hAe]; exact Or.inr h9
  obtain ⟨H, eH⟩ : ∃ H : Heap, H = s.heap := ⟨_, rfl⟩
  have hS : va_S A s.heap H [] := by rw [eH]; exact va_S.rf
  have hP : va_P (dC, dI) classes [] H := by rw [eH]; exact hP
  refine W_gen (fun Q hQ => ?_)
  refine W_heap eH ?_
  clear eH
  have hl := lv_entry ([.ref (ak x0)]) (n := 1) (Nat.le_of_ble_eq_true rfl)
  rw [lg_entry_eq]
  generalize (lg_sl ([.ref (ak x0)]) ++ List.replicate (1 - (lg_sl ([.ref (ak x0)])).length) Slot.unset).toArray = ls at hl ⊢
  have hl : lv_has ls 1 [(0, .ref (ak x0))] := hl
  unfold m_S_isLatin1 at h
  refine va_gets hx hb hC.cmp hS hown (hts _ flk_S_38) (fun _ h9 => h9) d_S_isLatin1_0 ?_
  refine lv_if_eq (tgt := 17) hx hb d_S_isLatin1_3 (by decide) (fun c_3 => ?_) (fun c_3 => ?_)
  · have h := of_pos h c_3
    refine lv_iconst (v := (nI 0)) hx hb d_S_isLatin1_17 (by decide) ?_
    rw [hQ]
    exact W.zret (v := (nI 0)) hx hb hr rfl (fun t ht hW => ⟨⟨(nI 0), (), rfl, Prod.mk.inj (Option.some.inj h), by rw [ht]; exact hP, va_K.moved hW.alike hK, hD⟩, hS.F ht⟩) hS.2.2 d_S_isLatin1_18
  · have h := of_neg h c_3
    refine lv_aload_n hx hb d_S_isLatin1_6 rfl (lv_at hl 0 rfl) ?_
    obtain ⟨g_7, h⟩ := of_guard h
    refine vk_getf hx hb (hC.cod (inN_lt g_7)) hS hown (hts _ flk_S_15) (fun _ h9 => h9) d_S_isLatin1_7 ?_
    refine lv_if_ne (tgt := 17) hx hb d_S_isLatin1_10 (by decide) (fun c_10 => ?_) (fun c_10 => ?_)
    · have h := of_neg h c_10
      refine lv_iconst (v := (nI 0)) hx hb d_S_isLatin1_17 (by decide) ?_
      rw [hQ]
      exact W.zret (v := (nI 0)) hx hb hr rfl (fun t ht hW => ⟨⟨(nI 0), (), rfl, Prod.mk.inj (Option.some.inj h), by rw [ht]; exact hP, va_K.moved hW.alike hK, hD⟩, hS.F ht⟩) hS.2.2 d_S_isLatin1_18
    · have h := of_pos h c_10
      refine lv_iconst (v := (nI 1)) hx hb d_S_isLatin1_13 (by decide) ?_
      refine lv_goto (tgt := 18) hx hb d_S_isLatin1_14 (by decide) ?_
      rw [hQ]
      exact W.zret (v := (nI 1)) hx hb hr rfl (fun t ht hW => ⟨⟨(nI 1), (), rfl, Prod.mk.inj (Option.some.inj h), by rw [ht]; exact hP, va_K.moved hW.alike hK, hD⟩, hS.F ht⟩) hS.2.2 d_S_isLatin1_18
set_option maxHeartbeats 1000000 in
set_option maxRecDepth 100000 in
theorem c_S_length (l : Launch) (dC : Nat → ClassId) (dI : Nat → Nat → Nat) (tb : Nat) (ak av : Nat → Nat) (sz : Nat)  (x0 : Nat) (r0 : Int32) (u0 : Unit) (h : m_S_length x0 = some (r0, u0)) : Met l y_S_length w_S_length ({ frames := 1, cells := 0, slots := 0, locals := 20 } : Room) (va_Pc [.ref (ak x0)] (fun U => U.heap.size = sz ∧ va_P (dC, dI) classes [] U.heap ∧ va_K (dC, dI) classes [] U ∧ va_D (fun _ => True) [] ∧ kw tb ak av (va_A [] sz) U)) (va_Qi (fun (r : Int32) (u : Unit) => r = r0 ∧ u = u0) (fun (u : Unit) (t : State) => va_P (dC, dI) classes [] t.heap ∧ va_K (dC, dI) classes [] t ∧ va_D (va_A [] sz) []) (va_A [] sz)) 0 0 (va_A [] sz) := by
  refine Met.ofW (cc := b_S_length) (maxL := 1) (ret := (some .int)) (by decide) rfl ?_
  intro p e s m args below meth c s₁ B hml hv
  obtain ⟨rfl, hsz, hP, hK, hD0, hC⟩ := hv
  have hx := B.exec
  have hb := B.bytes
  have hr := B.returns
  have hts0 := atoms_spec (ws := w_S_length) B.pre
  have hts : ∀ w ∈ lw_gd, w.before ([.ref (ak x0)] : List Value).toArray s = true := fun w h9 => hts0 w (List.mem_cons_of_mem _ h9)
  have hown : s.vm.findClass R_S = some m.cls := findClass_of_methodNamed B.named
  have hlocks := B.notSynchronized
  subst hsz
  have hD := hD0.self (sz := s.heap.size)
  generalize hAe : va_A [] s.heap.size = A at hD hC ⊢
  have hA : ∀ q : Nat, s.heap.size ≤ q → A q := fun q h9 => by rw [← hAe]; exact Or.inr h9
  obtain ⟨H, eH⟩ : ∃ H : Heap, H = s.heap := ⟨_, rfl⟩
  have hS : va_S A s.heap H [] := by rw [eH]; exact va_S.rf
  have hP : va_P (dC, dI) classes [] H := by rw [eH]; exact hP
  refine W_gen (fun Q hQ => ?_)
  refine W_heap eH ?_
  clear eH
  have hl := lv_entry ([.ref (ak x0)]) (n := 1) (Nat.le_of_ble_eq_true rfl)
  rw [lg_entry_eq]
  generalize (lg_sl ([.ref (ak x0)]) ++ List.replicate (1 - (lg_sl ([.ref (ak x0)])).length) Slot.unset).toArray = ls at hl ⊢
  have hl : lv_has ls 1 [(0, .ref (ak x0))] := hl
  unfold m_S_length at h
  refine lv_aload_n hx hb d_S_length_0 rfl (lv_at hl 0 rfl) ?_
  obtain ⟨g_1, h⟩ := of_guard h
  refine vk_getf hx hb (hC.val (inN_lt g_1)) hS hown (hts _ flk_S_9) (fun _ h9 => h9) d_S_length_1 ?_
  obtain ⟨g_4, h⟩ := of_guard h
  refine va_tlen hx hb (hC.byt (inN_lt g_4)) hS rfl d_S_length_4 ?_
  refine lv_aload_n hx hb d_S_length_5 rfl (lv_at hl 0 rfl) ?_
  have hPc := hP.sub (ws' := []) [] rfl
  have hDc := hD.sub (ws' := []) [] (by decide) rfl
  have hKc := hK.sub (tys' := []) [] rfl
  have hFc := va_free (wc := []) hD hS hA [] rfl
  obtain ⟨gq_6, h⟩ := of_guard h
  obtain ⟨v_6, hc_6, h⟩ := of_bind h
  skip
  refine va_calli (va_runV (As := []) (rest := [.int (nI (xlen.getD x0 0))]) ⟨hx, hb, hml, hown, hts⟩ (c_S_coder l dC dI tb ak av H.size x0 v_6.1 v_6.2 hc_6) (cwV 0 hts (gV mlk_S_335 ins_S_coder sel_S_coder ini_S cod_S_coder) rfl rfl rfl (by decide +kernel) ⟨Nat.le_of_ble_eq_true rfl, Nat.le_of_ble_eq_true rfl⟩) ⟨fun a U g mk q => by obtain ⟨q0, q1, qP, qK, qD, qC⟩ := q; exact ⟨q0, q1, qP, va_K.moved (u := U) (U := U.calling g mk a) (Vm.Alike.refl U.vm) qK, qD, kw_blind qC⟩, hC.rcv (inN_lt gq_6) hS, fun U hU hW => ⟨rfl, by rw [hU], by rw [hU]; exact hPc, va_K.moved hW.alike hKc, hDc.weaken (fun _ _ _ _ => trivial), kw_call hC hS hFc hU hW⟩⟩ rfl rfl hl.1 rfl (lv_room (Nat.le_of_ble_eq_true rfl)) d_S_length_6 ⟨Nat.le_of_ble_eq_true rfl, Nat.le_of_ble_eq_true rfl⟩) hS (fun q _ h9 => hFc q h9) hFc (fun r_6 u t H1 locs ht hvm hw hB hz1 hk1 hS => ?_)
  obtain ⟨rfl, rfl⟩ := hw
  obtain ⟨hP1, hK1, hD1⟩ := hB
  rw [ht] at hP1
  obtain ⟨hP, hD⟩ := va_join (wr := []) (w1 := []) hP hD [] [] rfl rfl (by decide) (by decide) hk1 hFc hP1 hD1
  have hP := hP.sub (ws' := []) [] rfl
  have hD := hD.sub (ws' := []) [] (by decide) rfl
  generalize H1 = H at hP hS ⊢
  refine lv_ishr hx hb d_S_length_9 ?_
  rw [hQ]
  exact W.iret (v := (nI (xlen.getD x0 0)) >>> (v_6.1 &&& 31)) hx hb hr (fun t ht hW => ⟨⟨(nI (xlen.getD x0 0)) >>> (v_6.1 &&& 31), (), rfl, Prod.mk.inj (Option.some.inj h), by rw [ht]; exact hP, va_K.moved hW.alike hK, hD⟩, hS.F ht⟩) hS.2.2 d_S_length_10
set_option maxHeartbeats 1000000 in
set_option maxRecDepth 100000 in
theorem c_Q_checkIndex (l : Launch) (dC : Nat → ClassId) (dI : Nat → Nat → Nat) (sz : Nat)  (x0 : Int32) (x1 : Int32) (r0 : Int32) (u0 : Unit) (h : m_Q_checkIndex x0 x1 = some (r0, u0)) : Met l y_Q_checkIndex w_Q_checkIndex ({ frames := 0, cells := 0, slots := 0, locals := 0 } : Room) (va_Pc [.int x0, .int x1, .null] (fun U => U.heap.size = sz ∧ va_P (dC, dI) classes [] U.heap ∧ va_K (dC, dI) classes [] U ∧ va_D (fun _ => True) [])) (va_Qi (fun (r : Int32) (u : Unit) => r = r0 ∧ u = u0) (fun (u : Unit) (t : State) => va_P (dC, dI) classes [] t.heap ∧ va_K (dC, dI) classes [] t ∧ va_D (va_A [] sz) []) (va_A [] sz)) 0 0 (va_A [] sz) := by
  refine Met.ofW (cc := b_Q_checkIndex) (maxL := 3) (ret := (some .int)) (by decide) rfl ?_
  intro p e s m args below meth c s₁ B hml hv
  obtain ⟨rfl, hsz, hP, hK, hD0⟩ := hv
  have hx := B.exec
  have hb := B.bytes
  have hr := B.returns
  have hts0 := atoms_spec (ws := w_Q_checkIndex) B.pre
  have hts : ∀ w ∈ lw_gd, w.before ([.int x0, .int x1, .null] : List Value).toArray s = true := fun w h9 => hts0 w (List.mem_cons_of_mem _ h9)
  have hown : s.vm.findClass R_Q = some m.cls := findClass_of_methodNamed B.named
  have hlocks := B.notSynchronized
  subst hsz
  have hD := hD0.self (sz := s.heap.size)
  generalize hAe : va_A [] s.heap.size = A at hD ⊢
  have hA : ∀ q : Nat, s.heap.size ≤ q → A q := fun q h9 => by rw [← hAe]; exact Or.inr h9
  obtain ⟨H, eH⟩ : ∃ H : Heap, H = s.heap := ⟨_, rfl⟩
  have hS : va_S A s.heap H [] := by rw [eH]; exact va_S.rf
  have hP : va_P (dC, dI) classes [] H := by rw [eH]; exact hP
  refine W_gen (fun Q hQ => ?_)
  refine W_heap eH ?_
  clear eH
  have hl := lv_entry ([.int x0, .int x1, .null]) (n := 3) (Nat.le_of_ble_eq_true rfl)
  rw [lg_entry_eq]
  generalize (lg_sl ([.int x0, .int x1, .null]) ++ List.replicate (3 - (lg_sl ([.int x0, .int x1, .null])).length) Slot.unset).toArray = ls at hl ⊢
  have hl : lv_has ls 3 [(0, .int x0), (1, .int x1), (2, .null)] := hl
  unfold m_Q_checkIndex at h
  refine lv_iload_n hx hb d_Q_checkIndex_0 rfl (lv_at hl 0 rfl) ?_
  refine lv_if_lt (tgt := 9) hx hb d_Q_checkIndex_1 (by decide) (fun c_1 => ?_) (fun c_1 => ?_)
  · have h := of_pos h c_1
    exact nomatch h
  · have h := of_neg h c_1
    refine lv_iload_n hx hb d_Q_checkIndex_4 rfl (lv_at hl 0 rfl) ?_
    refine lv_iload_n hx hb d_Q_checkIndex_5 rfl (lv_at hl 1 rfl) ?_
    refine lv_icmp_lt (tgt := 16) hx hb d_Q_checkIndex_6 (by decide) (fun c_6 => ?_) (fun c_6 => ?_)
    · have h := of_pos h c_6
      refine lv_iload_n hx hb d_Q_checkIndex_16 rfl (lv_at hl 0 rfl) ?_
      rw [hQ]
      exact W.iret (v := x0) hx hb hr (fun t ht hW => ⟨⟨x0, (), rfl, Prod.mk.inj (Option.some.inj h), by rw [ht]; exact hP, va_K.moved hW.alike hK, hD⟩, hS.F ht⟩) hS.2.2 d_Q_checkIndex_17
    · have h := of_neg h c_6
      exact nomatch h
set_option maxHeartbeats 1000000 in
set_option maxRecDepth 100000 in
theorem c_Q_checkIndex_r (l : Launch) (dC : Nat → ClassId) (dI : Nat → Nat → Nat) (tq : Nat) (sz : Nat)  (x0 : Int32) (x1 : Int32) (r0 : Int32) (u0 : Unit) (h : m_Q_checkIndex x0 x1 = some (r0, u0)) : Met l y_Q_checkIndex w_Q_checkIndex ({ frames := 0, cells := 0, slots := 0, locals := 0 } : Room) (va_Pc [.int x0, .int x1, .ref tq] (fun U => U.heap.size = sz ∧ va_P (dC, dI) classes [] U.heap ∧ va_K (dC, dI) classes [] U ∧ va_D (fun _ => True) [])) (va_Qi (fun (r : Int32) (u : Unit) => r = r0 ∧ u = u0) (fun (u : Unit) (t : State) => va_P (dC, dI) classes [] t.heap ∧ va_K (dC, dI) classes [] t ∧ va_D (va_A [] sz) []) (va_A [] sz)) 0 0 (va_A [] sz) := by
  refine Met.ofW (cc := b_Q_checkIndex) (maxL := 3) (ret := (some .int)) (by decide) rfl ?_
  intro p e s m args below meth c s₁ B hml hv
  obtain ⟨rfl, hsz, hP, hK, hD0⟩ := hv
  have hx := B.exec
  have hb := B.bytes
  have hr := B.returns
  have hts0 := atoms_spec (ws := w_Q_checkIndex) B.pre
  have hts : ∀ w ∈ lw_gd, w.before ([.int x0, .int x1, .ref tq] : List Value).toArray s = true := fun w h9 => hts0 w (List.mem_cons_of_mem _ h9)
  have hown : s.vm.findClass R_Q = some m.cls := findClass_of_methodNamed B.named
  have hlocks := B.notSynchronized
  subst hsz
  have hD := hD0.self (sz := s.heap.size)
  generalize hAe : va_A [] s.heap.size = A at hD ⊢
  have hA : ∀ q : Nat, s.heap.size ≤ q → A q := fun q h9 => by rw [← hAe]; exact Or.inr h9
  obtain ⟨H, eH⟩ : ∃ H : Heap, H = s.heap := ⟨_, rfl⟩
  have hS : va_S A s.heap H [] := by rw [eH]; exact va_S.rf
  have hP : va_P (dC, dI) classes [] H := by rw [eH]; exact hP
  refine W_gen (fun Q hQ => ?_)
  refine W_heap eH ?_
  clear eH
  have hl := lv_entry ([.int x0, .int x1, .ref tq]) (n := 3) (Nat.le_of_ble_eq_true rfl)
  rw [lg_entry_eq]
  generalize (lg_sl ([.int x0, .int x1, .ref tq]) ++ List.replicate (3 - (lg_sl ([.int x0, .int x1, .ref tq])).length) Slot.unset).toArray = ls at hl ⊢
  have hl : lv_has ls 3 [(0, .int x0), (1, .int x1), (2, .ref tq)] := hl
  unfold m_Q_checkIndex at h
  refine lv_iload_n hx hb d_Q_checkIndex_0 rfl (lv_at hl 0 rfl) ?_
  refine lv_if_lt (tgt := 9) hx hb d_Q_checkIndex_1 (by decide) (fun c_1 => ?_) (fun c_1 => ?_)
  · have h := of_pos h c_1
    exact nomatch h
  · have h := of_neg h c_1
    refine lv_iload_n hx hb d_Q_checkIndex_4 rfl (lv_at hl 0 rfl) ?_
    refine lv_iload_n hx hb d_Q_checkIndex_5 rfl (lv_at hl 1 rfl) ?_
    refine lv_icmp_lt (tgt := 16) hx hb d_Q_checkIndex_6 (by decide) (fun c_6 => ?_) (fun c_6 => ?_)
    · have h := of_pos h c_6
      refine lv_iload_n hx hb d_Q_checkIndex_16 rfl (lv_at hl 0 rfl) ?_
      rw [hQ]
      exact W.iret (v := x0) hx hb hr (fun t ht hW => ⟨⟨x0, (), rfl, Prod.mk.inj (Option.some.inj h), by rw [ht]; exact hP, va_K.moved hW.alike hK, hD⟩, hS.F ht⟩) hS.2.2 d_Q_checkIndex_17
    · have h := of_neg h c_6
      exact nomatch h
set_option maxHeartbeats 1000000 in
set_option maxRecDepth 100000 in
theorem c_S_checkIndex (l : Launch) (dC : Nat → ClassId) (dI : Nat → Nat → Nat) (tb : Nat) (ak av : Nat → Nat) (sz : Nat)  (x0 : Int32) (x1 : Int32) (u0 : Unit) (h : m_S_checkIndex x0 x1 = some u0) : Met l y_S_checkIndex w_S_checkIndex ({ frames := 1, cells := 0, slots := 0, locals := 22 } : Room) (va_Pc [.int x0, .int x1] (fun U => U.heap.size = sz ∧ va_P (dC, dI) classes [] U.heap ∧ va_K (dC, dI) classes [] U ∧ va_D (fun _ => True) [] ∧ kw tb ak av (va_A [] sz) U)) (va_Qv (fun (u : Unit) => u = u0) (fun (u : Unit) (t : State) => va_P (dC, dI) classes [] t.heap ∧ va_K (dC, dI) classes [] t ∧ va_D (va_A [] sz) []) (va_A [] sz)) 0 0 (va_A [] sz) := by
  refine Met.ofW (cc := b_S_checkIndex) (maxL := 2) (ret := none) (by decide) rfl ?_
  intro p e s m args below meth c s₁ B hml hv
  obtain ⟨rfl, hsz, hP, hK, hD0, hC⟩ := hv
  have hx := B.exec
  have hb := B.bytes
  have hr := B.returns
  have hts0 := atoms_spec (ws := w_S_checkIndex) B.pre
  have hts : ∀ w ∈ lw_gd, w.before ([.int x0, .int x1] : List Value).toArray s = true := fun w h9 => hts0 w (List.mem_cons_of_mem _ h9)
  have hown : s.vm.findClass R_S = some m.cls := findClass_of_methodNamed B.named
  have hlocks := B.notSynchronized
  subst hsz
  have hD := hD0.self (sz := s.heap.size)
  generalize hAe : va_A [] s.heap.size = A at hD hC ⊢
  have hA : ∀ q : Nat, s.heap.size ≤ q → A q := fun q h9 => by rw [← hAe]; exact Or.inr h9
  obtain ⟨H, eH⟩ : ∃ H : Heap, H = s.heap := ⟨_, rfl⟩
  have hS : va_S A s.heap H [] := by rw [eH]; exact va_S.rf
  have hP : va_P (dC, dI) classes [] H := by rw [eH]; exact hP
  refine W_gen (fun Q hQ => ?_)
  refine W_heap eH ?_
  clear eH
  have hl := lv_entry ([.int x0, .int x1]) (n := 2) (Nat.le_of_ble_eq_true rfl)
  rw [lg_entry_eq]
  generalize (lg_sl ([.int x0, .int x1]) ++ List.replicate (2 - (lg_sl ([.int x0, .int x1])).length) Slot.unset).toArray = ls at hl ⊢
  have hl : lv_has ls 2 [(0, .int x0), (1, .int x1)] := hl
  unfold m_S_checkIndex at h
  refine lv_iload_n hx hb d_S_checkIndex_0 rfl (lv_at hl 0 rfl) ?_
  refine lv_iload_n hx hb d_S_checkIndex_1 rfl (lv_at hl 1 rfl) ?_
  rcases hC.fmt with hz | ⟨tq, hz⟩
  · refine va_gets hx hb hz hS hown (hts _ flk_S_1053) (fun _ h9 => h9) d_S_checkIndex_2 ?_
    have hPc := hP.sub (ws' := []) [] rfl
    have hDc := hD.sub (ws' := []) [] (by decide) rfl
    have hKc := hK.sub (tys' := []) [] rfl
    have hFc := va_free (wc := []) hD hS hA [] rfl
    obtain ⟨v_5, hc_5, h⟩ := of_bind h
    refine va_calli (va_runS (As := [.int x0, .int x1, .null]) (rest := []) ⟨hx, hb, hml, hown, hts⟩ (c_Q_checkIndex l dC dI H.size x0 x1 v_5.1 v_5.2 hc_5) (va_cwS 3 hts (gS mlk_S_1059 sta_Q_checkIndex ini_Q cod_Q_checkIndex) rfl rfl rfl (by decide +kernel) ⟨Nat.le_of_ble_eq_true rfl, Nat.le_of_ble_eq_true rfl⟩) ⟨fun a U g mk q => by obtain ⟨q0, q1, qP, qK, qD⟩ := q; exact ⟨q0, q1, qP, va_K.moved (u := U) (U := U.calling g mk a) (Vm.Alike.refl U.vm) qK, qD⟩, fun U hU hW => ⟨rfl, by rw [hU], by rw [hU]; exact hPc, va_K.moved hW.alike hKc, hDc.weaken (fun _ _ _ _ => trivial)⟩⟩ rfl rfl hl.1 rfl (lv_room (Nat.le_of_ble_eq_true rfl)) d_S_checkIndex_5 ⟨Nat.le_of_ble_eq_true rfl, Nat.le_of_ble_eq_true rfl⟩) hS (fun q _ h9 => hFc q h9) hFc (fun r_5 u t H1 locs ht hvm hw hB hz1 hk1 hS => ?_)
    obtain ⟨rfl, rfl⟩ := hw
    obtain ⟨hP1, hK1, hD1⟩ := hB
    rw [ht] at hP1
    obtain ⟨hP, hD⟩ := va_join (wr := []) (w1 := []) hP hD [] [] rfl rfl (by decide) (by decide) hk1 hFc hP1 hD1
    have hP := hP.sub (ws' := []) [] rfl
    have hD := hD.sub (ws' := []) [] (by decide) rfl
    generalize H1 = H at hP hS ⊢
    refine lv_pop hx hb d_S_checkIndex_8 rfl ?_
    rw [hQ]
    exact W.vret hx hb hr (fun t ht hW => ⟨⟨(), rfl, Option.some.inj h, by rw [ht]; exact hP, va_K.moved hW.alike hK, hD⟩, hS.F ht⟩) hS.2.2 d_S_checkIndex_9
  · refine va_gets hx hb hz hS hown (hts _ flk_S_1053) (fun _ h9 => h9) d_S_checkIndex_2 ?_
    have hPc := hP.sub (ws' := []) [] rfl
    have hDc := hD.sub (ws' := []) [] (by decide) rfl
    have hKc := hK.sub (tys' := []) [] rfl
    have hFc := va_free (wc := []) hD hS hA [] rfl
    obtain ⟨v_5, hc_5, h⟩ := of_bind h
    refine va_calli (va_runS (As := [.int x0, .int x1, .ref tq]) (rest := []) ⟨hx, hb, hml, hown, hts⟩ (c_Q_checkIndex_r l dC dI tq H.size x0 x1 v_5.1 v_5.2 hc_5) (va_cwS 3 hts (gS mlk_S_1059 sta_Q_checkIndex ini_Q cod_Q_checkIndex) rfl rfl rfl (by decide +kernel) ⟨Nat.le_of_ble_eq_true rfl, Nat.le_of_ble_eq_true rfl⟩) ⟨fun a U g mk q => by obtain ⟨q0, q1, qP, qK, qD⟩ := q; exact ⟨q0, q1, qP, va_K.moved (u := U) (U := U.calling g mk a) (Vm.Alike.refl U.vm) qK, qD⟩, fun U hU hW => ⟨rfl, by rw [hU], by rw [hU]; exact hPc, va_K.moved hW.alike hKc, hDc.weaken (fun _ _ _ _ => trivial)⟩⟩ rfl rfl hl.1 rfl (lv_room (Nat.le_of_ble_eq_true rfl)) d_S_checkIndex_5 ⟨Nat.le_of_ble_eq_true rfl, Nat.le_of_ble_eq_true rfl⟩) hS (fun q _ h9 => hFc q h9) hFc (fun r_5 u t H1 locs ht hvm hw hB hz1 hk1 hS => ?_)
    obtain ⟨rfl, rfl⟩ := hw
    obtain ⟨hP1, hK1, hD1⟩ := hB
    rw [ht] at hP1
    obtain ⟨hP, hD⟩ := va_join (wr := []) (w1 := []) hP hD [] [] rfl rfl (by decide) (by decide) hk1 hFc hP1 hD1
    have hP := hP.sub (ws' := []) [] rfl
    have hD := hD.sub (ws' := []) [] (by decide) rfl
    generalize H1 = H at hP hS ⊢
    refine lv_pop hx hb d_S_checkIndex_8 rfl ?_
    rw [hQ]
    exact W.vret hx hb hr (fun t ht hW => ⟨⟨(), rfl, Option.some.inj h, by rw [ht]; exact hP, va_K.moved hW.alike hK, hD⟩, hS.F ht⟩) hS.2.2 d_S_checkIndex_9
set_option maxHeartbeats 1000000 in
set_option maxRecDepth 100000 in
theorem c_T_charAt (l : Launch) (dC : Nat → ClassId) (dI : Nat → Nat → Nat) (tb : Nat) (ak av : Nat → Nat) (sz : Nat)  (x0 : Nat) (x1 : Int32) (r0 : Int32) (u0 : Unit) (h : m_T_charAt x0 x1 = some (r0, u0)) : Met l y_T_charAt w_T_charAt ({ frames := 2, cells := 0, slots := 0, locals := 43 } : Room) (va_Pc [.ref (av x0), .int x1] (fun U => U.heap.size = sz ∧ va_P (dC, dI) classes [] U.heap ∧ va_K (dC, dI) classes [] U ∧ va_D (fun _ => True) [] ∧ kw tb ak av (va_A [] sz) U)) (va_Qi (fun (r : Int32) (u : Unit) => r = r0 ∧ u = u0) (fun (u : Unit) (t : State) => va_P (dC, dI) classes [] t.heap ∧ va_K (dC, dI) classes [] t ∧ va_D (va_A [] sz) []) (va_A [] sz)) 0 0 (va_A [] sz) := by
  refine Met.ofW (cc := b_T_charAt) (maxL := 2) (ret := (some .char)) (by decide) rfl ?_
  intro p e s m args below meth c s₁ B hml hv
  obtain ⟨rfl, hsz, hP, hK, hD0, hC⟩ := hv
  have hx := B.exec
  have hb := B.bytes
  have hr := B.returns
  have hts0 := atoms_spec (ws := w_T_charAt) B.pre
  have hts : ∀ w ∈ lw_gd, w.before ([.ref (av x0), .int x1] : List Value).toArray s = true := fun w h9 => hts0 w (List.mem_cons_of_mem _ h9)
  have hown : s.vm.findClass R_T = some m.cls := findClass_of_methodNamed B.named
  have hlocks := B.notSynchronized
  subst hsz
  have hD := hD0.self (sz := s.heap.size)
  generalize hAe : va_A [] s.heap.size = A at hD hC ⊢
  have hA : ∀ q : Nat, s.heap.size ≤ q → A q := fun q h9 => by rw [← hAe]; exact Or.inr h9
  obtain ⟨H, eH⟩ : ∃ H : Heap, H = s.heap := ⟨_, rfl⟩
  have hS : va_S A s.heap H [] := by rw [eH]; exact va_S.rf
  have hP : va_P (dC, dI) classes [] H := by rw [eH]; exact hP
  refine W_gen (fun Q hQ => ?_)
  refine W_heap eH ?_
  clear eH
  have hl := lv_entry ([.ref (av x0), .int x1]) (n := 2) (Nat.le_of_ble_eq_true rfl)
  rw [lg_entry_eq]
  generalize (lg_sl ([.ref (av x0), .int x1]) ++ List.replicate (2 - (lg_sl ([.ref (av x0), .int x1])).length) Slot.unset).toArray = ls at hl ⊢
  have hl : lv_has ls 2 [(0, .ref (av x0)), (1, .int x1)] := hl
  unfold m_T_charAt at h
  refine lv_iload_n hx hb d_T_charAt_0 rfl (lv_at hl 1 rfl) ?_
  refine lv_aload_n hx hb d_T_charAt_1 rfl (lv_at hl 0 rfl) ?_
  obtain ⟨g_2, h⟩ := of_guard h
  refine va_tlen hx hb (hC.byt (inN_lt g_2)) hS rfl d_T_charAt_2 ?_
  have hPc := hP.sub (ws' := []) [] rfl
  have hDc := hD.sub (ws' := []) [] (by decide) rfl
  have hKc := hK.sub (tys' := []) [] rfl
  have hFc := va_free (wc := []) hD hS hA [] rfl
  obtain ⟨v_3, hc_3, h⟩ := of_bind h
  refine va_callv (va_runS (As := [.int x1, .int (nI (xlen.getD x0 0))]) (rest := []) ⟨hx, hb, hml, hown, hts⟩ (c_S_checkIndex l dC dI tb ak av H.size x1 (nI (xlen.getD x0 0))  v_3 hc_3) (va_cwS 2 hts (gS mlk_T_9 sta_S_checkIndex ini_S cod_S_checkIndex) rfl rfl rfl (by decide +kernel) ⟨Nat.le_of_ble_eq_true rfl, Nat.le_of_ble_eq_true rfl⟩) ⟨fun a U g mk q => by obtain ⟨q0, q1, qP, qK, qD, qC⟩ := q; exact ⟨q0, q1, qP, va_K.moved (u := U) (U := U.calling g mk a) (Vm.Alike.refl U.vm) qK, qD, kw_blind qC⟩, fun U hU hW => ⟨rfl, by rw [hU], by rw [hU]; exact hPc, va_K.moved hW.alike hKc, hDc.weaken (fun _ _ _ _ => trivial), kw_call hC hS hFc hU hW⟩⟩ rfl rfl hl.1 rfl (lv_room (Nat.le_of_ble_eq_true rfl)) d_T_charAt_3 ⟨Nat.le_of_ble_eq_true rfl, Nat.le_of_ble_eq_true rfl⟩) hS (fun q _ h9 => hFc q h9) hFc (fun u t H1 locs ht hvm hw hB hz1 hk1 hS => ?_)
  obtain rfl := (Eq.symm hw)
  obtain ⟨hP1, hK1, hD1⟩ := hB
  rw [ht] at hP1
  obtain ⟨hP, hD⟩ := va_join (wr := []) (w1 := []) hP hD [] [] rfl rfl (by decide) (by decide) hk1 hFc hP1 hD1
  have hP := hP.sub (ws' := []) [] rfl
  have hD := hD.sub (ws' := []) [] (by decide) rfl
  generalize H1 = H at hP hS ⊢
  refine lv_aload_n hx hb d_T_charAt_6 rfl (lv_at hl 0 rfl) ?_
  refine lv_iload_n hx hb d_T_charAt_7 rfl (lv_at hl 1 rfl) ?_
  obtain ⟨gn_8, h⟩ := of_guard h
  obtain ⟨g_8, h⟩ := of_guard h
  refine va_tb hx hb (hC.byt (inN_lt gn_8)) hS (inR_in g_8) rfl d_T_charAt_8 ?_
  refine lv_sipush (v := (nI 255)) hx hb d_T_charAt_9 (by decide) ?_
  refine lv_iand hx hb d_T_charAt_12 ?_
  refine lv_i2c (v := i2c (((xbyt.getD x0 []).getD x1.toNatClampNeg 0) &&& (nI 255))) hx hb d_T_charAt_13 rfl ?_
  obtain ⟨g_14, h⟩ := of_guard h
  rw [hQ]
  exact W.zret (v := i2c (((xbyt.getD x0 []).getD x1.toNatClampNeg 0) &&& (nI 255))) hx hb hr (nrc g_14) (fun t ht hW => ⟨⟨i2c (((xbyt.getD x0 []).getD x1.toNatClampNeg 0) &&& (nI 255)), (), rfl, Prod.mk.inj (Option.some.inj h), by rw [ht]; exact hP, va_K.moved hW.alike hK, hD⟩, hS.F ht⟩) hS.2.2 d_T_charAt_14
set_option maxHeartbeats 1000000 in
set_option maxRecDepth 100000 in
theorem c_S_charAt (l : Launch) (dC : Nat → ClassId) (dI : Nat → Nat → Nat) (tb : Nat) (ak av : Nat → Nat) (sz : Nat)  (x0 : Nat) (x1 : Int32) (r0 : Int32) (u0 : Unit) (h : m_S_charAt x0 x1 = some (r0, u0)) : Met l y_S_charAt w_S_charAt ({ frames := 3, cells := 0, slots := 0, locals := 64 } : Room) (va_Pc [.ref (ak x0), .int x1] (fun U => U.heap.size = sz ∧ va_P (dC, dI) classes [] U.heap ∧ va_K (dC, dI) classes [] U ∧ va_D (fun _ => True) [] ∧ kw tb ak av (va_A [] sz) U)) (va_Qi (fun (r : Int32) (u : Unit) => r = r0 ∧ u = u0) (fun (u : Unit) (t : State) => va_P (dC, dI) classes [] t.heap ∧ va_K (dC, dI) classes [] t ∧ va_D (va_A [] sz) []) (va_A [] sz)) 0 0 (va_A [] sz) := by
  refine Met.ofW (cc := b_S_charAt) (maxL := 2) (ret := (some .char)) (by decide) rfl ?_
  intro p e s m args below meth c s₁ B hml hv
  obtain ⟨rfl, hsz, hP, hK, hD0, hC⟩ := hv
  have hx := B.exec
  have hb := B.bytes
  have hr := B.returns
  have hts0 := atoms_spec (ws := w_S_charAt) B.pre
  have hts : ∀ w ∈ lw_gd, w.before ([.ref (ak x0), .int x1] : List Value).toArray s = true := fun w h9 => hts0 w (List.mem_cons_of_mem _ h9)
  have hown : s.vm.findClass R_S = some m.cls := findClass_of_methodNamed B.named
  have hlocks := B.notSynchronized
  subst hsz
  have hD := hD0.self (sz := s.heap.size)
  generalize hAe : va_A [] s.heap.size = A at hD hC ⊢
  have hA : ∀ q : Nat, s.heap.size ≤ q → A q := fun q h9 => by rw [← hAe]; exact Or.inr h9
  obtain ⟨H, eH⟩ : ∃ H : Heap, H = s.heap := ⟨_, rfl⟩
  have hS : va_S A s.heap H [] := by rw [eH]; exact va_S.rf
  have hP : va_P (dC, dI) classes [] H := by rw [eH]; exact hP
  refine W_gen (fun Q hQ => ?_)
  refine W_heap eH ?_
  clear eH
  have hl := lv_entry ([.ref (ak x0), .int x1]) (n := 2) (Nat.le_of_ble_eq_true rfl)
  rw [lg_entry_eq]
  generalize (lg_sl ([.ref (ak x0), .int x1]) ++ List.replicate (2 - (lg_sl ([.ref (ak x0), .int x1])).length) Slot.unset).toArray = ls at hl ⊢
  have hl : lv_has ls 2 [(0, .ref (ak x0)), (1, .int x1)] := hl
  unfold m_S_charAt at h
  refine lv_aload_n hx hb d_S_charAt_0 rfl (lv_at hl 0 rfl) ?_
  have hPc := hP.sub (ws' := []) [] rfl
  have hDc := hD.sub (ws' := []) [] (by decide) rfl
  have hKc := hK.sub (tys' := []) [] rfl
  have hFc := va_free (wc := []) hD hS hA [] rfl
  obtain ⟨gq_1, h⟩ := of_guard h
  obtain ⟨v_1, hc_1, h⟩ := of_bind h
  skip
  refine va_calli (va_runV (As := []) (rest := []) ⟨hx, hb, hml, hown, hts⟩ (c_S_isLatin1 l dC dI tb ak av H.size x0 v_1.1 v_1.2 hc_1) (cwV 0 hts (gV mlk_S_492 ins_S_isLatin1 sel_S_isLatin1 ini_S cod_S_isLatin1) rfl rfl rfl (by decide +kernel) ⟨Nat.le_of_ble_eq_true rfl, Nat.le_of_ble_eq_true rfl⟩) ⟨fun a U g mk q => by obtain ⟨q0, q1, qP, qK, qD, qC⟩ := q; exact ⟨q0, q1, qP, va_K.moved (u := U) (U := U.calling g mk a) (Vm.Alike.refl U.vm) qK, qD, kw_blind qC⟩, hC.rcv (inN_lt gq_1) hS, fun U hU hW => ⟨rfl, by rw [hU], by rw [hU]; exact hPc, va_K.moved hW.alike hKc, hDc.weaken (fun _ _ _ _ => trivial), kw_call hC hS hFc hU hW⟩⟩ rfl rfl hl.1 rfl (lv_room (Nat.le_of_ble_eq_true rfl)) d_S_charAt_1 ⟨Nat.le_of_ble_eq_true rfl, Nat.le_of_ble_eq_true rfl⟩) hS (fun q _ h9 => hFc q h9) hFc (fun r_1 u t H1 locs ht hvm hw hB hz1 hk1 hS => ?_)
  obtain ⟨rfl, rfl⟩ := hw
  obtain ⟨hP1, hK1, hD1⟩ := hB
  rw [ht] at hP1
  obtain ⟨hP, hD⟩ := va_join (wr := []) (w1 := []) hP hD [] [] rfl rfl (by decide) (by decide) hk1 hFc hP1 hD1
  have hP := hP.sub (ws' := []) [] rfl
  have hD := hD.sub (ws' := []) [] (by decide) rfl
  generalize H1 = H at hP hS ⊢
  refine lv_if_eq (tgt := 16) hx hb d_S_charAt_4 (by decide) (fun c_4 => ?_) (fun c_4 => ?_)
  · have h := of_pos h c_4
    exact nomatch h
  · have h := of_neg h c_4
    refine lv_aload_n hx hb d_S_charAt_7 rfl (lv_at hl 0 rfl) ?_
    obtain ⟨g_8, h⟩ := of_guard h
    refine vk_getf hx hb (hC.val (inN_lt g_8)) hS hown (hts _ flk_S_9) (fun _ h9 => h9) d_S_charAt_8 ?_
    refine lv_iload_n hx hb d_S_charAt_11 rfl (lv_at hl 1 rfl) ?_
    have hPc := hP.sub (ws' := []) [] rfl
    have hDc := hD.sub (ws' := []) [] (by decide) rfl
    have hKc := hK.sub (tys' := []) [] rfl
    have hFc := va_free (wc := []) hD hS hA [] rfl
    obtain ⟨v_12, hc_12, h⟩ := of_bind h
    refine va_calli (va_runS (As := [.ref (av x0), .int x1]) (rest := []) ⟨hx, hb, hml, hown, hts⟩ (c_T_charAt l dC dI tb ak av H.size x0 x1 v_12.1 v_12.2 hc_12) (va_cwS 2 hts (gS mlk_S_495 sta_T_charAt ini_T cod_T_charAt) rfl rfl rfl (by decide +kernel) ⟨Nat.le_of_ble_eq_true rfl, Nat.le_of_ble_eq_true rfl⟩) ⟨fun a U g mk q => by obtain ⟨q0, q1, qP, qK, qD, qC⟩ := q; exact ⟨q0, q1, qP, va_K.moved (u := U) (U := U.calling g mk a) (Vm.Alike.refl U.vm) qK, qD, kw_blind qC⟩, fun U hU hW => ⟨rfl, by rw [hU], by rw [hU]; exact hPc, va_K.moved hW.alike hKc, hDc.weaken (fun _ _ _ _ => trivial), kw_call hC hS hFc hU hW⟩⟩ rfl rfl hl.1 rfl (lv_room (Nat.le_of_ble_eq_true rfl)) d_S_charAt_12 ⟨Nat.le_of_ble_eq_true rfl, Nat.le_of_ble_eq_true rfl⟩) hS (fun q _ h9 => hFc q h9) hFc (fun r_12 u t H1 locs ht hvm hw hB hz1 hk1 hS => ?_)
    obtain ⟨rfl, rfl⟩ := hw
    obtain ⟨hP1, hK1, hD1⟩ := hB
    rw [ht] at hP1
    obtain ⟨hP, hD⟩ := va_join (wr := []) (w1 := []) hP hD [] [] rfl rfl (by decide) (by decide) hk1 hFc hP1 hD1
    have hP := hP.sub (ws' := []) [] rfl
    have hD := hD.sub (ws' := []) [] (by decide) rfl
    generalize H1 = H at hP hS ⊢
    obtain ⟨g_15, h⟩ := of_guard h
    rw [hQ]
    exact W.zret (v := v_12.1) hx hb hr (nrc g_15) (fun t ht hW => ⟨⟨v_12.1, (), rfl, Prod.mk.inj (Option.some.inj h), by rw [ht]; exact hP, va_K.moved hW.alike hK, hD⟩, hS.F ht⟩) hS.2.2 d_S_charAt_15
set_option maxHeartbeats 1000000 in
set_option maxRecDepth 100000 in
theorem c_T_canEncode (l : Launch) (dC : Nat → ClassId) (dI : Nat → Nat → Nat) (sz : Nat)  (x0 : Int32) (r0 : Int32) (u0 : Unit) (h : m_T_canEncode x0 = some (r0, u0)) : Met l y_T_canEncode w_T_canEncode ({ frames := 0, cells := 0, slots := 0, locals := 0 } : Room) (va_Pc [.int x0] (fun U => U.heap.size = sz ∧ va_P (dC, dI) classes [] U.heap ∧ va_K (dC, dI) classes [] U ∧ va_D (fun _ => True) [])) (va_Qi (fun (r : Int32) (u : Unit) => r = r0 ∧ u = u0) (fun (u : Unit) (t : State) => va_P (dC, dI) classes [] t.heap ∧ va_K (dC, dI) classes [] t ∧ va_D (va_A [] sz) []) (va_A [] sz)) 0 0 (va_A [] sz) := by
  refine Met.ofW (cc := b_T_canEncode) (maxL := 1) (ret := (some .boolean)) (by decide) rfl ?_
  intro p e s m args below meth c s₁ B hml hv
  obtain ⟨rfl, hsz, hP, hK, hD0⟩ := hv
  have hx := B.exec
  have hb := B.bytes
  have hr := B.returns
  have hts0 := atoms_spec (ws := w_T_canEncode) B.pre
  have hts : ∀ w ∈ lw_gd, w.before ([.int x0] : List Value).toArray s = true := fun w h9 => hts0 w (List.mem_cons_of_mem _ h9)
  have hown : s.vm.findClass R_T = some m.cls := findClass_of_methodNamed B.named
  have hlocks := B.notSynchronized
  subst hsz
  have hD := hD0.self (sz := s.heap.size)
  generalize hAe : va_A [] s.heap.size = A at hD ⊢
  have hA : ∀ q : Nat, s.heap.size ≤ q → A q := fun q h9 => by rw [← hAe]; exact Or.inr h9
  obtain ⟨H, eH⟩ : ∃ H : Heap, H = s.heap := ⟨_, rfl⟩
  have hS : va_S A s.heap H [] := by rw [eH]; exact va_S.rf
  have hP : va_P (dC, dI) classes [] H := by rw [eH]; exact hP
  refine W_gen (fun Q hQ => ?_)
  refine W_heap eH ?_
  clear eH
  have hl := lv_entry ([.int x0]) (n := 1) (Nat.le_of_ble_eq_true rfl)
  rw [lg_entry_eq]
  generalize (lg_sl ([.int x0]) ++ List.replicate (1 - (lg_sl ([.int x0])).length) Slot.unset).toArray = ls at hl ⊢
  have hl : lv_has ls 1 [(0, .int x0)] := hl
  unfold m_T_canEncode at h
  refine lv_iload_n hx hb d_T_canEncode_0 rfl (lv_at hl 0 rfl) ?_
  refine lv_if_lt (tgt := 15) hx hb d_T_canEncode_1 (by decide) (fun c_1 => ?_) (fun c_1 => ?_)
  · have h := of_pos h c_1
    refine lv_iconst (v := (nI 0)) hx hb d_T_canEncode_15 (by decide) ?_
    rw [hQ]
    exact W.zret (v := (nI 0)) hx hb hr rfl (fun t ht hW => ⟨⟨(nI 0), (), rfl, Prod.mk.inj (Option.some.inj h), by rw [ht]; exact hP, va_K.moved hW.alike hK, hD⟩, hS.F ht⟩) hS.2.2 d_T_canEncode_16
  · have h := of_neg h c_1
    refine lv_iload_n hx hb d_T_canEncode_4 rfl (lv_at hl 0 rfl) ?_
    refine lv_sipush (v := (nI 255)) hx hb d_T_canEncode_5 (by decide) ?_
    refine lv_icmp_gt (tgt := 15) hx hb d_T_canEncode_8 (by decide) (fun c_8 => ?_) (fun c_8 => ?_)
    · have h := of_pos h c_8
      refine lv_iconst (v := (nI 0)) hx hb d_T_canEncode_15 (by decide) ?_
      rw [hQ]
      exact W.zret (v := (nI 0)) hx hb hr rfl (fun t ht hW => ⟨⟨(nI 0), (), rfl, Prod.mk.inj (Option.some.inj h), by rw [ht]; exact hP, va_K.moved hW.alike hK, hD⟩, hS.F ht⟩) hS.2.2 d_T_canEncode_16
    · have h := of_neg h c_8
      refine lv_iconst (v := (nI 1)) hx hb d_T_canEncode_11 (by decide) ?_
      refine lv_goto (tgt := 16) hx hb d_T_canEncode_12 (by decide) ?_
      rw [hQ]
      exact W.zret (v := (nI 1)) hx hb hr rfl (fun t ht hW => ⟨⟨(nI 1), (), rfl, Prod.mk.inj (Option.some.inj h), by rw [ht]; exact hP, va_K.moved hW.alike hK, hD⟩, hS.F ht⟩) hS.2.2 d_T_canEncode_16
set_option maxHeartbeats 1000000 in
set_option maxRecDepth 100000 in
theorem c_T_indexOfChar (l : Launch) (dC : Nat → ClassId) (dI : Nat → Nat → Nat) (tb : Nat) (ak av : Nat → Nat) (sz : Nat)  (x0 : Nat) (x1 : Int32) (x2 : Int32) (x3 : Int32) (r0 : Int32) (u0 : Unit) (h : m_T_indexOfChar x0 x1 x2 x3 = some (r0, u0)) : Met l y_T_indexOfChar w_T_indexOfChar ({ frames := 0, cells := 0, slots := 0, locals := 0 } : Room) (va_Pc [.ref (av x0), .int x1, .int x2, .int x3] (fun U => U.heap.size = sz ∧ va_P (dC, dI) classes [] U.heap ∧ va_K (dC, dI) classes [] U ∧ va_D (fun _ => True) [] ∧ kw tb ak av (va_A [] sz) U)) (va_Qi (fun (r : Int32) (u : Unit) => r = r0 ∧ u = u0) (fun (u : Unit) (t : State) => va_P (dC, dI) classes [] t.heap ∧ va_K (dC, dI) classes [] t ∧ va_D (va_A [] sz) []) (va_A [] sz)) 0 0 (va_A [] sz) := by
  refine Met.ofW (cc := b_T_indexOfChar) (maxL := 6) (ret := (some .int)) (by decide) rfl ?_
  intro p e s m args below meth c s₁ B hml hv
  obtain ⟨rfl, hsz, hP, hK, hD0, hC⟩ := hv
  have hx := B.exec
  have hb := B.bytes
  have hr := B.returns
  have hts0 := atoms_spec (ws := w_T_indexOfChar) B.pre
  have hts : ∀ w ∈ lw_gd, w.before ([.ref (av x0), .int x1, .int x2, .int x3] : List Value).toArray s = true := fun w h9 => hts0 w (List.mem_cons_of_mem _ h9)
  have hown : s.vm.findClass R_T = some m.cls := findClass_of_methodNamed B.named
  have hlocks := B.notSynchronized
  subst hsz
  have hD := hD0.self (sz := s.heap.size)
  generalize hAe : va_A [] s.heap.size = A at hD hC ⊢
  have hA : ∀ q : Nat, s.heap.size ≤ q → A q := fun q h9 => by rw [← hAe]; exact Or.inr h9
  obtain ⟨H, eH⟩ : ∃ H : Heap, H = s.heap := ⟨_, rfl⟩
  have hS : va_S A s.heap H [] := by rw [eH]; exact va_S.rf
  have hP : va_P (dC, dI) classes [] H := by rw [eH]; exact hP
  refine W_gen (fun Q hQ => ?_)
  refine W_heap eH ?_
  clear eH
  have hl := lv_entry ([.ref (av x0), .int x1, .int x2, .int x3]) (n := 6) (Nat.le_of_ble_eq_true rfl)
  rw [lg_entry_eq]
  generalize (lg_sl ([.ref (av x0), .int x1, .int x2, .int x3]) ++ List.replicate (6 - (lg_sl ([.ref (av x0), .int x1, .int x2, .int x3])).length) Slot.unset).toArray = ls at hl ⊢
  have hl : lv_has ls 6 [(0, .ref (av x0)), (1, .int x1), (2, .int x2), (3, .int x3)] := hl
  have J_7 : ∀ (n : Nat) (z0 : Nat) (z3 : Int32) (z4 : Int32) (z5 : Int32), m_T_indexOfChar_7 n z0 z3 z4 z5 = some (r0, u0) → ∀ (H : Heap) (locs : List Loc), va_P (dC, dI) classes [] H → va_D A [] → va_S A s.heap H locs → ∀ (ls : Array Slot), lv_has ls 6 [(0, .ref (av z0)), (3, .int z3), (4, .int z4), (5, .int z5)] → W p l e (headSpec w_T_indexOfChar ({ frames := 0, cells := 0, slots := 0, locals := 0 } : Room)).room s m ([.ref (av x0), .int x1, .int x2, .int x3] : List Value).toArray below meth c H locs 0 0 Q (F0 m 7 ls []) := by
    intro n
    induction n with
    | zero => intro z0 z3 z4 z5 h; exact absurd h (by unfold m_T_indexOfChar_7; exact fun h9 => nomatch h9)
    | succ n ih =>
      intro z0 z3 z4 z5 h H locs hP hD hS ls hl
      unfold m_T_indexOfChar_7 at h
      refine lv_iload hx hb d_T_indexOfChar_7 (lv_at hl 3 rfl) ?_
      refine lv_iload_n hx hb d_T_indexOfChar_9 rfl (lv_at hl 1 rfl) ?_
      refine lv_icmp_ge (tgt := 31) hx hb d_T_indexOfChar_10 (by decide) (fun c_10 => ?_) (fun c_10 => ?_)
      · have h := of_pos h c_10
        refine lv_iconst (v := (-1 : Int32)) hx hb d_T_indexOfChar_31 (by decide) ?_
        rw [hQ]
        exact W.iret (v := (-1 : Int32)) hx hb hr (fun t ht hW => ⟨⟨(-1 : Int32), (), rfl, Prod.mk.inj (Option.some.inj h), by rw [ht]; exact hP, va_K.moved hW.alike hK, hD⟩, hS.F ht⟩) hS.2.2 d_T_indexOfChar_32
      · have h := of_neg h c_10
        refine lv_aload_n hx hb d_T_indexOfChar_13 rfl (lv_at hl 0 rfl) ?_
        refine lv_iload hx hb d_T_indexOfChar_14 (lv_at hl 3 rfl) ?_
        obtain ⟨gn_16, h⟩ := of_guard h
        obtain ⟨g_16, h⟩ := of_guard h
        refine va_tb hx hb (hC.byt (inN_lt gn_16)) hS (inR_in g_16) rfl d_T_indexOfChar_16 ?_
        refine lv_iload hx hb d_T_indexOfChar_17 (lv_at hl 2 rfl) ?_
        refine lv_icmp_ne (tgt := 25) hx hb d_T_indexOfChar_19 (by decide) (fun c_19 => ?_) (fun c_19 => ?_)
        · have h := of_neg h c_19
          refine lv_iinc (v := z5 + (nI 1)) (lv' := [(5, .int (z5 + (nI 1))), (0, .ref (av z0)), (3, .int z3), (4, .int z4)]) hx hb d_T_indexOfChar_25 hl (k := 3) rfl rfl (by decide) rfl (fun ls hl => ?_)
          refine lv_goto (tgt := 7) hx hb d_T_indexOfChar_28 (by decide) ?_
          exact ih z0 z3 z4 (z5 + (nI 1)) h _ _ hP hD hS ls (lv_sub hl [1, 2, 3, 0] rfl)
        · have h := of_pos h c_19
          refine lv_iload hx hb d_T_indexOfChar_22 (lv_at hl 3 rfl) ?_
          rw [hQ]
          exact W.iret (v := z5) hx hb hr (fun t ht hW => ⟨⟨z5, (), rfl, Prod.mk.inj (Option.some.inj h), by rw [ht]; exact hP, va_K.moved hW.alike hK, hD⟩, hS.F ht⟩) hS.2.2 d_T_indexOfChar_24
  unfold m_T_indexOfChar at h
  refine lv_iload_n hx hb d_T_indexOfChar_0 rfl (lv_at hl 1 rfl) ?_
  refine lv_i2b (v := x1.toInt8.toInt32) hx hb d_T_indexOfChar_1 rfl ?_
  refine lv_istore (lv' := [(4, .int x1.toInt8.toInt32), (0, .ref (av x0)), (1, .int x1), (2, .int x2), (3, .int x3)]) hx hb d_T_indexOfChar_2 hl (by decide) rfl (fun ls hl => ?_)
  refine lv_iload_n hx hb d_T_indexOfChar_4 rfl (lv_at hl 3 rfl) ?_
  refine lv_istore (lv' := [(5, .int x2), (4, .int x1.toInt8.toInt32), (0, .ref (av x0)), (1, .int x1), (2, .int x2), (3, .int x3)]) hx hb d_T_indexOfChar_5 hl (by decide) rfl (fun ls hl => ?_)
  exact J_7 40 x0 x3 x1.toInt8.toInt32 x2 h _ _ hP hD hS ls (lv_sub hl [2, 5, 1, 0] rfl)
set_option maxHeartbeats 1000000 in
set_option maxRecDepth 100000 in
theorem c_T_indexOf (l : Launch) (dC : Nat → ClassId) (dI : Nat → Nat → Nat) (tb : Nat) (ak av : Nat → Nat) (sz : Nat)  (x0 : Nat) (x1 : Int32) (x2 : Int32) (x3 : Int32) (r0 : Int32) (u0 : Unit) (h : m_T_indexOf x0 x1 x2 x3 = some (r0, u0)) : Met l y_T_indexOf w_T_indexOf ({ frames := 1, cells := 0, slots := 0, locals := 25 } : Room) (va_Pc [.ref (av x0), .int x1, .int x2, .int x3] (fun U => U.heap.size = sz ∧ va_P (dC, dI) classes [] U.heap ∧ va_K (dC, dI) classes [] U ∧ va_D (fun _ => True) [] ∧ kw tb ak av (va_A [] sz) U)) (va_Qi (fun (r : Int32) (u : Unit) => r = r0 ∧ u = u0) (fun (u : Unit) (t : State) => va_P (dC, dI) classes [] t.heap ∧ va_K (dC, dI) classes [] t ∧ va_D (va_A [] sz) []) (va_A [] sz)) 0 0 (va_A [] sz) := by
  refine Met.ofW (cc := b_T_indexOf) (maxL := 4) (ret := (some .int)) (by decide) rfl ?_
  intro p e s m args below meth c s₁ B hml hv
  obtain ⟨rfl, hsz, hP, hK, hD0, hC⟩ := hv
  have hx := B.exec
  have hb := B.bytes
  have hr := B.returns
  have hts0 := atoms_spec (ws := w_T_indexOf) B.pre
  have hts : ∀ w ∈ lw_gd, w.before ([.ref (av x0), .int x1, .int x2, .int x3] : List Value).toArray s = true := fun w h9 => hts0 w (List.mem_cons_of_mem _ h9)
  have hown : s.vm.findClass R_T = some m.cls := findClass_of_methodNamed B.named
  have hlocks := B.notSynchronized
  subst hsz
  have hD := hD0.self (sz := s.heap.size)
  generalize hAe : va_A [] s.heap.size = A at hD hC ⊢
  have hA : ∀ q : Nat, s.heap.size ≤ q → A q := fun q h9 => by rw [← hAe]; exact Or.inr h9
  obtain ⟨H, eH⟩ : ∃ H : Heap, H = s.heap := ⟨_, rfl⟩
  have hS : va_S A s.heap H [] := by rw [eH]; exact va_S.rf
  have hP : va_P (dC, dI) classes [] H := by rw [eH]; exact hP
  refine W_gen (fun Q hQ => ?_)
  refine W_heap eH ?_
  clear eH
  have hl := lv_entry ([.ref (av x0), .int x1, .int x2, .int x3]) (n := 4) (Nat.le_of_ble_eq_true rfl)
  rw [lg_entry_eq]
  generalize (lg_sl ([.ref (av x0), .int x1, .int x2, .int x3]) ++ List.replicate (4 - (lg_sl ([.ref (av x0), .int x1, .int x2, .int x3])).length) Slot.unset).toArray = ls at hl ⊢
  have hl : lv_has ls 4 [(0, .ref (av x0)), (1, .int x1), (2, .int x2), (3, .int x3)] := hl
  unfold m_T_indexOf at h
  refine lv_iload_n hx hb d_T_indexOf_0 rfl (lv_at hl 1 rfl) ?_
  have hPc := hP.sub (ws' := []) [] rfl
  have hDc := hD.sub (ws' := []) [] (by decide) rfl
  have hKc := hK.sub (tys' := []) [] rfl
  have hFc := va_free (wc := []) hD hS hA [] rfl
  obtain ⟨v_1, hc_1, h⟩ := of_bind h
  refine va_calli (va_runS (As := [.int x1]) (rest := []) ⟨hx, hb, hml, hown, hts⟩ (c_T_canEncode l dC dI H.size x1 v_1.1 v_1.2 hc_1) (va_cwS 1 hts (gS mlk_T_88 sta_T_canEncode ini_T cod_T_canEncode) rfl rfl rfl (by decide +kernel) ⟨Nat.le_of_ble_eq_true rfl, Nat.le_of_ble_eq_true rfl⟩) ⟨fun a U g mk q => by obtain ⟨q0, q1, qP, qK, qD⟩ := q; exact ⟨q0, q1, qP, va_K.moved (u := U) (U := U.calling g mk a) (Vm.Alike.refl U.vm) qK, qD⟩, fun U hU hW => ⟨rfl, by rw [hU], by rw [hU]; exact hPc, va_K.moved hW.alike hKc, hDc.weaken (fun _ _ _ _ => trivial)⟩⟩ rfl rfl hl.1 rfl (lv_room (Nat.le_of_ble_eq_true rfl)) d_T_indexOf_1 ⟨Nat.le_of_ble_eq_true rfl, Nat.le_of_ble_eq_true rfl⟩) hS (fun q _ h9 => hFc q h9) hFc (fun r_1 u t H1 locs ht hvm hw hB hz1 hk1 hS => ?_)
  obtain ⟨rfl, rfl⟩ := hw
  obtain ⟨hP1, hK1, hD1⟩ := hB
  rw [ht] at hP1
  obtain ⟨hP, hD⟩ := va_join (wr := []) (w1 := []) hP hD [] [] rfl rfl (by decide) (by decide) hk1 hFc hP1 hD1
  have hP := hP.sub (ws' := []) [] rfl
  have hD := hD.sub (ws' := []) [] (by decide) rfl
  generalize H1 = H at hP hS ⊢
  refine lv_if_ne (tgt := 9) hx hb d_T_indexOf_4 (by decide) (fun c_4 => ?_) (fun c_4 => ?_)
  · have h := of_neg h c_4
    refine lv_iload_n hx hb d_T_indexOf_9 rfl (lv_at hl 2 rfl) ?_
    refine lv_iconst (v := (nI 0)) hx hb d_T_indexOf_10 (by decide) ?_
    refine va_mmax hx hb (by rw [hml]; exact hl.1.symm) hown (hts _ mlk_T_92) (hts _ sta_A_max) (hts _ ini_A) (hts _ cod_A_max) (Nat.le_of_ble_eq_true rfl) (Nat.le_of_ble_eq_true rfl) (Nat.zero_le _) (Nat.zero_le _) d_T_indexOf_11 ?_
    refine lv_istore_n (lv' := [(2, .int (if x2 < (nI 0) then (nI 0) else x2)), (0, .ref (av x0)), (1, .int x1), (3, .int x3)]) hx hb d_T_indexOf_14 rfl hl (by decide) rfl (fun ls hl => ?_)
    refine lv_iload_n hx hb d_T_indexOf_15 rfl (lv_at hl 3 rfl) ?_
    refine lv_aload_n hx hb d_T_indexOf_16 rfl (lv_at hl 1 rfl) ?_
    obtain ⟨g_17, h⟩ := of_guard h
    refine va_tlen hx hb (hC.byt (inN_lt g_17)) hS rfl d_T_indexOf_17 ?_
    refine va_mmin hx hb (by rw [hml]; exact hl.1.symm) hown (hts _ mlk_T_38) (hts _ sta_A_min) (hts _ ini_A) (hts _ cod_A_min) (Nat.le_of_ble_eq_true rfl) (Nat.le_of_ble_eq_true rfl) (Nat.zero_le _) (Nat.zero_le _) d_T_indexOf_18 ?_
    refine lv_istore_n (lv' := [(3, .int (if nI (xlen.getD x0 0) < x3 then nI (xlen.getD x0 0) else x3)), (2, .int (if x2 < (nI 0) then (nI 0) else x2)), (0, .ref (av x0)), (1, .int x1)]) hx hb d_T_indexOf_21 rfl hl (by decide) rfl (fun ls hl => ?_)
    refine lv_iload_n hx hb d_T_indexOf_22 rfl (lv_at hl 1 rfl) ?_
    refine lv_iload_n hx hb d_T_indexOf_23 rfl (lv_at hl 0 rfl) ?_
    refine lv_icmp_lt (tgt := 29) hx hb d_T_indexOf_24 (by decide) (fun c_24 => ?_) (fun c_24 => ?_)
    · have h := of_pos h c_24
      refine lv_aload_n hx hb d_T_indexOf_29 rfl (lv_at hl 2 rfl) ?_
      refine lv_iload_n hx hb d_T_indexOf_30 rfl (lv_at hl 3 rfl) ?_
      refine lv_iload_n hx hb d_T_indexOf_31 rfl (lv_at hl 1 rfl) ?_
      refine lv_iload_n hx hb d_T_indexOf_32 rfl (lv_at hl 0 rfl) ?_
      have hPc := hP.sub (ws' := []) [] rfl
      have hDc := hD.sub (ws' := []) [] (by decide) rfl
      have hKc := hK.sub (tys' := []) [] rfl
      have hFc := va_free (wc := []) hD hS hA [] rfl
      obtain ⟨v_33, hc_33, h⟩ := of_bind h
      refine va_calli (va_runS (As := [.ref (av x0), .int x1, .int (if x2 < (nI 0) then (nI 0) else x2), .int (if nI (xlen.getD x0 0) < x3 then nI (xlen.getD x0 0) else x3)]) (rest := []) ⟨hx, hb, hml, hown, hts⟩ (c_T_indexOfChar l dC dI tb ak av H.size x0 x1 (if x2 < (nI 0) then (nI 0) else x2) (if nI (xlen.getD x0 0) < x3 then nI (xlen.getD x0 0) else x3) v_33.1 v_33.2 hc_33) (va_cwS 4 hts (gS mlk_T_95 sta_T_indexOfChar ini_T cod_T_indexOfChar) rfl rfl rfl (by decide +kernel) ⟨Nat.le_of_ble_eq_true rfl, Nat.le_of_ble_eq_true rfl⟩) ⟨fun a U g mk q => by obtain ⟨q0, q1, qP, qK, qD, qC⟩ := q; exact ⟨q0, q1, qP, va_K.moved (u := U) (U := U.calling g mk a) (Vm.Alike.refl U.vm) qK, qD, kw_blind qC⟩, fun U hU hW => ⟨rfl, by rw [hU], by rw [hU]; exact hPc, va_K.moved hW.alike hKc, hDc.weaken (fun _ _ _ _ => trivial), kw_call hC hS hFc hU hW⟩⟩ rfl rfl hl.1 rfl (lv_room (Nat.le_of_ble_eq_true rfl)) d_T_indexOf_33 ⟨Nat.le_of_ble_eq_true rfl, Nat.le_of_ble_eq_true rfl⟩) hS (fun q _ h9 => hFc q h9) hFc (fun r_33 u t H1 locs ht hvm hw hB hz1 hk1 hS => ?_)
      obtain ⟨rfl, rfl⟩ := hw
      obtain ⟨hP1, hK1, hD1⟩ := hB
      rw [ht] at hP1
      obtain ⟨hP, hD⟩ := va_join (wr := []) (w1 := []) hP hD [] [] rfl rfl (by decide) (by decide) hk1 hFc hP1 hD1
      have hP := hP.sub (ws' := []) [] rfl
      have hD := hD.sub (ws' := []) [] (by decide) rfl
      generalize H1 = H at hP hS ⊢
      rw [hQ]
      exact W.iret (v := v_33.1) hx hb hr (fun t ht hW => ⟨⟨v_33.1, (), rfl, Prod.mk.inj (Option.some.inj h), by rw [ht]; exact hP, va_K.moved hW.alike hK, hD⟩, hS.F ht⟩) hS.2.2 d_T_indexOf_36
    · have h := of_neg h c_24
      refine lv_iconst (v := (-1 : Int32)) hx hb d_T_indexOf_27 (by decide) ?_
      rw [hQ]
      exact W.iret (v := (-1 : Int32)) hx hb hr (fun t ht hW => ⟨⟨(-1 : Int32), (), rfl, Prod.mk.inj (Option.some.inj h), by rw [ht]; exact hP, va_K.moved hW.alike hK, hD⟩, hS.F ht⟩) hS.2.2 d_T_indexOf_28
  · have h := of_pos h c_4
    refine lv_iconst (v := (-1 : Int32)) hx hb d_T_indexOf_7 (by decide) ?_
    rw [hQ]
    exact W.iret (v := (-1 : Int32)) hx hb hr (fun t ht hW => ⟨⟨(-1 : Int32), (), rfl, Prod.mk.inj (Option.some.inj h), by rw [ht]; exact hP, va_K.moved hW.alike hK, hD⟩, hS.F ht⟩) hS.2.2 d_T_indexOf_8
set_option maxHeartbeats 1000000 in
set_option maxRecDepth 100000 in
theorem c_S_indexOf2 (l : Launch) (dC : Nat → ClassId) (dI : Nat → Nat → Nat) (tb : Nat) (ak av : Nat → Nat) (sz : Nat)  (x0 : Nat) (x1 : Int32) (x2 : Int32) (r0 : Int32) (u0 : Unit) (h : m_S_indexOf2 x0 x1 x2 = some (r0, u0)) : Met l y_S_indexOf2 w_S_indexOf2 ({ frames := 2, cells := 0, slots := 0, locals := 48 } : Room) (va_Pc [.ref (ak x0), .int x1, .int x2] (fun U => U.heap.size = sz ∧ va_P (dC, dI) classes [] U.heap ∧ va_K (dC, dI) classes [] U ∧ va_D (fun _ => True) [] ∧ kw tb ak av (va_A [] sz) U)) (va_Qi (fun (r : Int32) (u : Unit) => r = r0 ∧ u = u0) (fun (u : Unit) (t : State) => va_P (dC, dI) classes [] t.heap ∧ va_K (dC, dI) classes [] t ∧ va_D (va_A [] sz) []) (va_A [] sz)) 0 0 (va_A [] sz) := by
  refine Met.ofW (cc := b_S_indexOf2) (maxL := 3) (ret := (some .int)) (by decide) rfl ?_
  intro p e s m args below meth c s₁ B hml hv
  obtain ⟨rfl, hsz, hP, hK, hD0, hC⟩ := hv
  have hx := B.exec
  have hb := B.bytes
  have hr := B.returns
  have hts0 := atoms_spec (ws := w_S_indexOf2) B.pre
  have hts : ∀ w ∈ lw_gd, w.before ([.ref (ak x0), .int x1, .int x2] : List Value).toArray s = true := fun w h9 => hts0 w (List.mem_cons_of_mem _ h9)
  have hown : s.vm.findClass R_S = some m.cls := findClass_of_methodNamed B.named
  have hlocks := B.notSynchronized
  subst hsz
  have hD := hD0.self (sz := s.heap.size)
  generalize hAe : va_A [] s.heap.size = A at hD hC ⊢
  have hA : ∀ q : Nat, s.heap.size ≤ q → A q := fun q h9 => by rw [← hAe]; exact Or.inr h9
  obtain ⟨H, eH⟩ : ∃ H : Heap, H = s.heap := ⟨_, rfl⟩
  have hS : va_S A s.heap H [] := by rw [eH]; exact va_S.rf
  have hP : va_P (dC, dI) classes [] H := by rw [eH]; exact hP
  refine W_gen (fun Q hQ => ?_)
  refine W_heap eH ?_
  clear eH
  have hl := lv_entry ([.ref (ak x0), .int x1, .int x2]) (n := 3) (Nat.le_of_ble_eq_true rfl)
  rw [lg_entry_eq]
  generalize (lg_sl ([.ref (ak x0), .int x1, .int x2]) ++ List.replicate (3 - (lg_sl ([.ref (ak x0), .int x1, .int x2])).length) Slot.unset).toArray = ls at hl ⊢
  have hl : lv_has ls 3 [(0, .ref (ak x0)), (1, .int x1), (2, .int x2)] := hl
  unfold m_S_indexOf2 at h
  refine lv_aload_n hx hb d_S_indexOf2_0 rfl (lv_at hl 0 rfl) ?_
  have hPc := hP.sub (ws' := []) [] rfl
  have hDc := hD.sub (ws' := []) [] (by decide) rfl
  have hKc := hK.sub (tys' := []) [] rfl
  have hFc := va_free (wc := []) hD hS hA [] rfl
  obtain ⟨gq_1, h⟩ := of_guard h
  obtain ⟨v_1, hc_1, h⟩ := of_bind h
  skip
  refine va_calli (va_runV (As := []) (rest := []) ⟨hx, hb, hml, hown, hts⟩ (c_S_isLatin1 l dC dI tb ak av H.size x0 v_1.1 v_1.2 hc_1) (cwV 0 hts (gV mlk_S_492 ins_S_isLatin1 sel_S_isLatin1 ini_S cod_S_isLatin1) rfl rfl rfl (by decide +kernel) ⟨Nat.le_of_ble_eq_true rfl, Nat.le_of_ble_eq_true rfl⟩) ⟨fun a U g mk q => by obtain ⟨q0, q1, qP, qK, qD, qC⟩ := q; exact ⟨q0, q1, qP, va_K.moved (u := U) (U := U.calling g mk a) (Vm.Alike.refl U.vm) qK, qD, kw_blind qC⟩, hC.rcv (inN_lt gq_1) hS, fun U hU hW => ⟨rfl, by rw [hU], by rw [hU]; exact hPc, va_K.moved hW.alike hKc, hDc.weaken (fun _ _ _ _ => trivial), kw_call hC hS hFc hU hW⟩⟩ rfl rfl hl.1 rfl (lv_room (Nat.le_of_ble_eq_true rfl)) d_S_indexOf2_1 ⟨Nat.le_of_ble_eq_true rfl, Nat.le_of_ble_eq_true rfl⟩) hS (fun q _ h9 => hFc q h9) hFc (fun r_1 u t H1 locs ht hvm hw hB hz1 hk1 hS => ?_)
  obtain ⟨rfl, rfl⟩ := hw
  obtain ⟨hP1, hK1, hD1⟩ := hB
  rw [ht] at hP1
  obtain ⟨hP, hD⟩ := va_join (wr := []) (w1 := []) hP hD [] [] rfl rfl (by decide) (by decide) hk1 hFc hP1 hD1
  have hP := hP.sub (ws' := []) [] rfl
  have hD := hD.sub (ws' := []) [] (by decide) rfl
  generalize H1 = H at hP hS ⊢
  refine lv_if_eq (tgt := 23) hx hb d_S_indexOf2_4 (by decide) (fun c_4 => ?_) (fun c_4 => ?_)
  · have h := of_pos h c_4
    exact nomatch h
  · have h := of_neg h c_4
    refine lv_aload_n hx hb d_S_indexOf2_7 rfl (lv_at hl 0 rfl) ?_
    obtain ⟨g_8, h⟩ := of_guard h
    refine vk_getf hx hb (hC.val (inN_lt g_8)) hS hown (hts _ flk_S_9) (fun _ h9 => h9) d_S_indexOf2_8 ?_
    refine lv_iload_n hx hb d_S_indexOf2_11 rfl (lv_at hl 1 rfl) ?_
    refine lv_iload_n hx hb d_S_indexOf2_12 rfl (lv_at hl 2 rfl) ?_
    refine lv_aload_n hx hb d_S_indexOf2_13 rfl (lv_at hl 0 rfl) ?_
    have hPc := hP.sub (ws' := []) [] rfl
    have hDc := hD.sub (ws' := []) [] (by decide) rfl
    have hKc := hK.sub (tys' := []) [] rfl
    have hFc := va_free (wc := []) hD hS hA [] rfl
    obtain ⟨gq_14, h⟩ := of_guard h
    obtain ⟨v_14, hc_14, h⟩ := of_bind h
    skip
    refine va_calli (va_runV (As := []) (rest := [.int x2, .int x1, .ref (av x0)]) ⟨hx, hb, hml, hown, hts⟩ (c_S_length l dC dI tb ak av H.size x0 v_14.1 v_14.2 hc_14) (cwV 0 hts (gV mlk_S_505 ins_S_length sel_S_length ini_S cod_S_length) rfl rfl rfl (by decide +kernel) ⟨Nat.le_of_ble_eq_true rfl, Nat.le_of_ble_eq_true rfl⟩) ⟨fun a U g mk q => by obtain ⟨q0, q1, qP, qK, qD, qC⟩ := q; exact ⟨q0, q1, qP, va_K.moved (u := U) (U := U.calling g mk a) (Vm.Alike.refl U.vm) qK, qD, kw_blind qC⟩, hC.rcv (inN_lt gq_14) hS, fun U hU hW => ⟨rfl, by rw [hU], by rw [hU]; exact hPc, va_K.moved hW.alike hKc, hDc.weaken (fun _ _ _ _ => trivial), kw_call hC hS hFc hU hW⟩⟩ rfl rfl hl.1 rfl (lv_room (Nat.le_of_ble_eq_true rfl)) d_S_indexOf2_14 ⟨Nat.le_of_ble_eq_true rfl, Nat.le_of_ble_eq_true rfl⟩) hS (fun q _ h9 => hFc q h9) hFc (fun r_14 u t H1 locs ht hvm hw hB hz1 hk1 hS => ?_)
    obtain ⟨rfl, rfl⟩ := hw
    obtain ⟨hP1, hK1, hD1⟩ := hB
    rw [ht] at hP1
    obtain ⟨hP, hD⟩ := va_join (wr := []) (w1 := []) hP hD [] [] rfl rfl (by decide) (by decide) hk1 hFc hP1 hD1
    have hP := hP.sub (ws' := []) [] rfl
    have hD := hD.sub (ws' := []) [] (by decide) rfl
    generalize H1 = H at hP hS ⊢
    have hPc := hP.sub (ws' := []) [] rfl
    have hDc := hD.sub (ws' := []) [] (by decide) rfl
    have hKc := hK.sub (tys' := []) [] rfl
    have hFc := va_free (wc := []) hD hS hA [] rfl
    obtain ⟨v_17, hc_17, h⟩ := of_bind h
    refine va_calli (va_runS (As := [.ref (av x0), .int x1, .int x2, .int v_14.1]) (rest := []) ⟨hx, hb, hml, hown, hts⟩ (c_T_indexOf l dC dI tb ak av H.size x0 x1 x2 v_14.1 v_17.1 v_17.2 hc_17) (va_cwS 4 hts (gS mlk_S_637 sta_T_indexOf ini_T cod_T_indexOf) rfl rfl rfl (by decide +kernel) ⟨Nat.le_of_ble_eq_true rfl, Nat.le_of_ble_eq_true rfl⟩) ⟨fun a U g mk q => by obtain ⟨q0, q1, qP, qK, qD, qC⟩ := q; exact ⟨q0, q1, qP, va_K.moved (u := U) (U := U.calling g mk a) (Vm.Alike.refl U.vm) qK, qD, kw_blind qC⟩, fun U hU hW => ⟨rfl, by rw [hU], by rw [hU]; exact hPc, va_K.moved hW.alike hKc, hDc.weaken (fun _ _ _ _ => trivial), kw_call hC hS hFc hU hW⟩⟩ rfl rfl hl.1 rfl (lv_room (Nat.le_of_ble_eq_true rfl)) d_S_indexOf2_17 ⟨Nat.le_of_ble_eq_true rfl, Nat.le_of_ble_eq_true rfl⟩) hS (fun q _ h9 => hFc q h9) hFc (fun r_17 u t H1 locs ht hvm hw hB hz1 hk1 hS => ?_)
    obtain ⟨rfl, rfl⟩ := hw
    obtain ⟨hP1, hK1, hD1⟩ := hB
    rw [ht] at hP1
    obtain ⟨hP, hD⟩ := va_join (wr := []) (w1 := []) hP hD [] [] rfl rfl (by decide) (by decide) hk1 hFc hP1 hD1
    have hP := hP.sub (ws' := []) [] rfl
    have hD := hD.sub (ws' := []) [] (by decide) rfl
    generalize H1 = H at hP hS ⊢
    refine lv_goto (tgt := 36) hx hb d_S_indexOf2_20 (by decide) ?_
    rw [hQ]
    exact W.iret (v := v_17.1) hx hb hr (fun t ht hW => ⟨⟨v_17.1, (), rfl, Prod.mk.inj (Option.some.inj h), by rw [ht]; exact hP, va_K.moved hW.alike hK, hD⟩, hS.F ht⟩) hS.2.2 d_S_indexOf2_36
set_option maxHeartbeats 1000000 in
set_option maxRecDepth 100000 in
theorem c_S_indexOf1 (l : Launch) (dC : Nat → ClassId) (dI : Nat → Nat → Nat) (tb : Nat) (ak av : Nat → Nat) (sz : Nat)  (x0 : Nat) (x1 : Int32) (r0 : Int32) (u0 : Unit) (h : m_S_indexOf1 x0 x1 = some (r0, u0)) : Met l y_S_indexOf1 w_S_indexOf1 ({ frames := 3, cells := 0, slots := 0, locals := 70 } : Room) (va_Pc [.ref (ak x0), .int x1] (fun U => U.heap.size = sz ∧ va_P (dC, dI) classes [] U.heap ∧ va_K (dC, dI) classes [] U ∧ va_D (fun _ => True) [] ∧ kw tb ak av (va_A [] sz) U)) (va_Qi (fun (r : Int32) (u : Unit) => r = r0 ∧ u = u0) (fun (u : Unit) (t : State) => va_P (dC, dI) classes [] t.heap ∧ va_K (dC, dI) classes [] t ∧ va_D (va_A [] sz) []) (va_A [] sz)) 0 0 (va_A [] sz) := by
  refine Met.ofW (cc := b_S_indexOf1) (maxL := 2) (ret := (some .int)) (by decide) rfl ?_
  intro p e s m args below meth c s₁ B hml hv
  obtain ⟨rfl, hsz, hP, hK, hD0, hC⟩ := hv
  have hx := B.exec
  have hb := B.bytes
  have hr := B.returns
  have hts0 := atoms_spec (ws := w_S_indexOf1) B.pre
  have hts : ∀ w ∈ lw_gd, w.before ([.ref (ak x0), .int x1] : List Value).toArray s = true := fun w h9 => hts0 w (List.mem_cons_of_mem _ h9)
  have hown : s.vm.findClass R_S = some m.cls := findClass_of_methodNamed B.named
  have hlocks := B.notSynchronized
  subst hsz
  have hD := hD0.self (sz := s.heap.size)
  generalize hAe : va_A [] s.heap.size = A at hD hC ⊢
  have hA : ∀ q : Nat, s.heap.size ≤ q → A q := fun q h9 => by rw [← hAe]; exact Or.inr h9
  obtain ⟨H, eH⟩ : ∃ H : Heap, H = s.heap := ⟨_, rfl⟩
  have hS : va_S A s.heap H [] := by rw [eH]; exact va_S.rf
  have hP : va_P (dC, dI) classes [] H := by rw [eH]; exact hP
  refine W_gen (fun Q hQ => ?_)
  refine W_heap eH ?_
  clear eH
  have hl := lv_entry ([.ref (ak x0), .int x1]) (n := 2) (Nat.le_of_ble_eq_true rfl)
  rw [lg_entry_eq]
  generalize (lg_sl ([.ref (ak x0), .int x1]) ++ List.replicate (2 - (lg_sl ([.ref (ak x0), .int x1])).length) Slot.unset).toArray = ls at hl ⊢
  have hl : lv_has ls 2 [(0, .ref (ak x0)), (1, .int x1)] := hl
  unfold m_S_indexOf1 at h
  refine lv_aload_n hx hb d_S_indexOf1_0 rfl (lv_at hl 0 rfl) ?_
  refine lv_iload_n hx hb d_S_indexOf1_1 rfl (lv_at hl 1 rfl) ?_
  refine lv_iconst (v := (nI 0)) hx hb d_S_indexOf1_2 (by decide) ?_
  have hPc := hP.sub (ws' := []) [] rfl
  have hDc := hD.sub (ws' := []) [] (by decide) rfl
  have hKc := hK.sub (tys' := []) [] rfl
  have hFc := va_free (wc := []) hD hS hA [] rfl
  obtain ⟨gq_3, h⟩ := of_guard h
  obtain ⟨v_3, hc_3, h⟩ := of_bind h
  skip
  refine va_calli (va_runV (As := [.int x1, .int (nI 0)]) (rest := []) ⟨hx, hb, hml, hown, hts⟩ (c_S_indexOf2 l dC dI tb ak av H.size x0 x1 (nI 0) v_3.1 v_3.2 hc_3) (cwV 2 hts (gV mlk_S_633 ins_S_indexOf2 sel_S_indexOf2 ini_S cod_S_indexOf2) rfl rfl rfl (by decide +kernel) ⟨Nat.le_of_ble_eq_true rfl, Nat.le_of_ble_eq_true rfl⟩) ⟨fun a U g mk q => by obtain ⟨q0, q1, qP, qK, qD, qC⟩ := q; exact ⟨q0, q1, qP, va_K.moved (u := U) (U := U.calling g mk a) (Vm.Alike.refl U.vm) qK, qD, kw_blind qC⟩, hC.rcv (inN_lt gq_3) hS, fun U hU hW => ⟨rfl, by rw [hU], by rw [hU]; exact hPc, va_K.moved hW.alike hKc, hDc.weaken (fun _ _ _ _ => trivial), kw_call hC hS hFc hU hW⟩⟩ rfl rfl hl.1 rfl (lv_room (Nat.le_of_ble_eq_true rfl)) d_S_indexOf1_3 ⟨Nat.le_of_ble_eq_true rfl, Nat.le_of_ble_eq_true rfl⟩) hS (fun q _ h9 => hFc q h9) hFc (fun r_3 u t H1 locs ht hvm hw hB hz1 hk1 hS => ?_)
  obtain ⟨rfl, rfl⟩ := hw
  obtain ⟨hP1, hK1, hD1⟩ := hB
  rw [ht] at hP1
  obtain ⟨hP, hD⟩ := va_join (wr := []) (w1 := []) hP hD [] [] rfl rfl (by decide) (by decide) hk1 hFc hP1 hD1
  have hP := hP.sub (ws' := []) [] rfl
  have hD := hD.sub (ws' := []) [] (by decide) rfl
  generalize H1 = H at hP hS ⊢
  rw [hQ]
  exact W.iret (v := v_3.1) hx hb hr (fun t ht hW => ⟨⟨v_3.1, (), rfl, Prod.mk.inj (Option.some.inj h), by rw [ht]; exact hP, va_K.moved hW.alike hK, hD⟩, hS.F ht⟩) hS.2.2 d_S_indexOf1_6
