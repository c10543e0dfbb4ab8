theorem d_H_key_0 : decode b_H_key 0 = .ok (.aload_n 0, 1) := by decide +kernel
theorem d_H_key_1 : decode b_H_key 1 = .ok (.getfield 12, 3) := by decide +kernel
theorem d_H_key_4 : decode b_H_key 4 = .ok (.iload_n 1, 1) := by decide +kernel
theorem d_H_key_5 : decode b_H_key 5 = .ok (.invokevirtual 41, 3) := by decide +kernel
theorem d_H_key_8 : decode b_H_key 8 = .ok (.ireturn, 1) := by decide +kernel
theorem d_H_back_0 : decode b_H_back 0 = .ok (.aload_n 0, 1) := by decide +kernel
theorem d_H_back_1 : decode b_H_back 1 = .ok (.getfield 12, 3) := by decide +kernel
theorem d_H_back_4 : decode b_H_back 4 = .ok (.invokevirtual 45, 3) := by decide +kernel
theorem d_H_back_7 : decode b_H_back 7 = .ok (.ireturn, 1) := by decide +kernel
theorem d_H_facts_0 : decode b_H_facts 0 = .ok (.iload_n 1, 1) := by decide +kernel
theorem d_H_facts_1 : decode b_H_facts 1 = .ok (.invokestatic 63, 3) := by decide +kernel
theorem d_H_facts_4 : decode b_H_facts 4 = .ok (.ifCond .eq 15, 3) := by decide +kernel
theorem d_H_facts_7 : decode b_H_facts 7 = .ok (.aload_n 0, 1) := by decide +kernel
theorem d_H_facts_8 : decode b_H_facts 8 = .ok (.getfield 16, 3) := by decide +kernel
theorem d_H_facts_11 : decode b_H_facts 11 = .ok (.iload_n 1, 1) := by decide +kernel
theorem d_H_facts_12 : decode b_H_facts 12 = .ok (.iaload, 1) := by decide +kernel
theorem d_H_facts_13 : decode b_H_facts 13 = .ok (.invokestatic 66, 3) := by decide +kernel
theorem d_H_facts_16 : decode b_H_facts 16 = .ok (.goto 4, 3) := by decide +kernel
theorem d_H_facts_19 : decode b_H_facts 19 = .ok (.iconst (-1), 1) := by decide +kernel
theorem d_H_facts_20 : decode b_H_facts 20 = .ok (.ireturn, 1) := by decide +kernel
theorem d_H_holds_0 : decode b_H_holds 0 = .ok (.iload_n 1, 1) := by decide +kernel
theorem d_H_holds_1 : decode b_H_holds 1 = .ok (.invokestatic 63, 3) := by decide +kernel
theorem d_H_holds_4 : decode b_H_holds 4 = .ok (.ifCond .eq 22, 3) := by decide +kernel
theorem d_H_holds_7 : decode b_H_holds 7 = .ok (.aload_n 0, 1) := by decide +kernel
theorem d_H_holds_8 : decode b_H_holds 8 = .ok (.getfield 16, 3) := by decide +kernel
theorem d_H_holds_11 : decode b_H_holds 11 = .ok (.iload_n 1, 1) := by decide +kernel
theorem d_H_holds_12 : decode b_H_holds 12 = .ok (.iaload, 1) := by decide +kernel
theorem d_H_holds_13 : decode b_H_holds 13 = .ok (.iload_n 2, 1) := by decide +kernel
theorem d_H_holds_14 : decode b_H_holds 14 = .ok (.iload_n 3, 1) := by decide +kernel
theorem d_H_holds_15 : decode b_H_holds 15 = .ok (.invokestatic 72, 3) := by decide +kernel
theorem d_H_holds_18 : decode b_H_holds 18 = .ok (.iand, 1) := by decide +kernel
theorem d_H_holds_19 : decode b_H_holds 19 = .ok (.ifCond .eq 7, 3) := by decide +kernel
theorem d_H_holds_22 : decode b_H_holds 22 = .ok (.iconst 1, 1) := by decide +kernel
theorem d_H_holds_23 : decode b_H_holds 23 = .ok (.goto 4, 3) := by decide +kernel
theorem d_H_holds_26 : decode b_H_holds 26 = .ok (.iconst 0, 1) := by decide +kernel
theorem d_H_holds_27 : decode b_H_holds 27 = .ok (.ireturn, 1) := by decide +kernel
theorem d_H_mark_0 : decode b_H_mark 0 = .ok (.iload_n 1, 1) := by decide +kernel
theorem d_H_mark_1 : decode b_H_mark 1 = .ok (.iload_n 2, 1) := by decide +kernel
theorem d_H_mark_2 : decode b_H_mark 2 = .ok (.invokestatic 72, 3) := by decide +kernel
theorem d_H_mark_5 : decode b_H_mark 5 = .ok (.istore_n 3, 1) := by decide +kernel
theorem d_H_mark_6 : decode b_H_mark 6 = .ok (.aload_n 0, 1) := by decide +kernel
theorem d_H_mark_7 : decode b_H_mark 7 = .ok (.getfield 20, 3) := by decide +kernel
theorem d_H_mark_10 : decode b_H_mark 10 = .ok (.iload_n 3, 1) := by decide +kernel
theorem d_H_mark_11 : decode b_H_mark 11 = .ok (.iand, 1) := by decide +kernel
theorem d_H_mark_12 : decode b_H_mark 12 = .ok (.ifCond .eq 5, 3) := by decide +kernel
theorem d_H_mark_15 : decode b_H_mark 15 = .ok (.iconst 1, 1) := by decide +kernel
theorem d_H_mark_16 : decode b_H_mark 16 = .ok (.ireturn, 1) := by decide +kernel
theorem d_H_mark_17 : decode b_H_mark 17 = .ok (.aload_n 0, 1) := by decide +kernel
theorem d_H_mark_18 : decode b_H_mark 18 = .ok (.getfield 24, 3) := by decide +kernel
theorem d_H_mark_21 : decode b_H_mark 21 = .ok (.iload_n 3, 1) := by decide +kernel
theorem d_H_mark_22 : decode b_H_mark 22 = .ok (.iand, 1) := by decide +kernel
theorem d_H_mark_23 : decode b_H_mark 23 = .ok (.ifCond .eq 7, 3) := by decide +kernel
theorem d_H_mark_26 : decode b_H_mark 26 = .ok (.iconst (-1), 1) := by decide +kernel
theorem d_H_mark_27 : decode b_H_mark 27 = .ok (.goto 4, 3) := by decide +kernel
theorem d_H_mark_30 : decode b_H_mark 30 = .ok (.iconst 0, 1) := by decide +kernel
theorem d_H_mark_31 : decode b_H_mark 31 = .ok (.ireturn, 1) := by decide +kernel
theorem d_H_drop_0 : decode b_H_drop 0 = .ok (.aload_n 0, 1) := by decide +kernel
theorem d_H_drop_1 : decode b_H_drop 1 = .ok (.getfield 30, 3) := by decide +kernel
theorem d_H_drop_4 : decode b_H_drop 4 = .ok (.iload_n 1, 1) := by decide +kernel
theorem d_H_drop_5 : decode b_H_drop 5 = .ok (.invokevirtual 76, 3) := by decide +kernel
theorem d_H_drop_8 : decode b_H_drop 8 = .ok (.ireturn, 1) := by decide +kernel
theorem d_H_clauses_0 : decode b_H_clauses 0 = .ok (.aload_n 0, 1) := by decide +kernel
theorem d_H_clauses_1 : decode b_H_clauses 1 = .ok (.getfield 30, 3) := by decide +kernel
theorem d_H_clauses_4 : decode b_H_clauses 4 = .ok (.getfield 79, 3) := by decide +kernel
theorem d_H_clauses_7 : decode b_H_clauses 7 = .ok (.ireturn, 1) := by decide +kernel
theorem d_H_literals_0 : decode b_H_literals 0 = .ok (.aload_n 0, 1) := by decide +kernel
theorem d_H_literals_1 : decode b_H_literals 1 = .ok (.getfield 30, 3) := by decide +kernel
theorem d_H_literals_4 : decode b_H_literals 4 = .ok (.iload_n 1, 1) := by decide +kernel
theorem d_H_literals_5 : decode b_H_literals 5 = .ok (.invokevirtual 82, 3) := by decide +kernel
theorem d_H_literals_8 : decode b_H_literals 8 = .ok (.istore_n 2, 1) := by decide +kernel
theorem d_H_literals_9 : decode b_H_literals 9 = .ok (.iload_n 2, 1) := by decide +kernel
theorem d_H_literals_10 : decode b_H_literals 10 = .ok (.ifCond .ne 7, 3) := by decide +kernel
theorem d_H_literals_13 : decode b_H_literals 13 = .ok (.iconst (-1), 1) := by decide +kernel
theorem d_H_literals_14 : decode b_H_literals 14 = .ok (.goto 7, 3) := by decide +kernel
theorem d_H_literals_17 : decode b_H_literals 17 = .ok (.iload_n 2, 1) := by decide +kernel
theorem d_H_literals_18 : decode b_H_literals 18 = .ok (.invokestatic 66, 3) := by decide +kernel
theorem d_H_literals_21 : decode b_H_literals 21 = .ok (.ireturn, 1) := by decide +kernel
theorem d_H_literal_0 : decode b_H_literal 0 = .ok (.aload_n 0, 1) := by decide +kernel
theorem d_H_literal_1 : decode b_H_literal 1 = .ok (.getfield 30, 3) := by decide +kernel
theorem d_H_literal_4 : decode b_H_literal 4 = .ok (.iload_n 1, 1) := by decide +kernel
theorem d_H_literal_5 : decode b_H_literal 5 = .ok (.invokevirtual 82, 3) := by decide +kernel
theorem d_H_literal_8 : decode b_H_literal 8 = .ok (.iload_n 2, 1) := by decide +kernel
theorem d_H_literal_9 : decode b_H_literal 9 = .ok (.invokestatic 85, 3) := by decide +kernel
theorem d_H_literal_12 : decode b_H_literal 12 = .ok (.ireturn, 1) := by decide +kernel
theorem d_H_letter_0 : decode b_H_letter 0 = .ok (.aload_n 0, 1) := by decide +kernel
theorem d_H_letter_1 : decode b_H_letter 1 = .ok (.getfield 30, 3) := by decide +kernel
theorem d_H_letter_4 : decode b_H_letter 4 = .ok (.iload_n 1, 1) := by decide +kernel
theorem d_H_letter_5 : decode b_H_letter 5 = .ok (.invokevirtual 88, 3) := by decide +kernel
theorem d_H_letter_8 : decode b_H_letter 8 = .ok (.ireturn, 1) := by decide +kernel
set_option maxHeartbeats 1000000 in
set_option maxRecDepth 100000 in
theorem c_H_key (l : Launch) (dC : Nat → ClassId) (dI : Nat → Nat → Nat) (h_o h_line h_factSets h_program h_deduction h_line_typed : Nat) (k_line_typed : ClassId) (sz : Nat) (v_markedPlus : Int32) (v_markedMinus : Int32) (v_line_length : Int32) (v_line_typed : Nat → Int32) (x1 : Int32) (r0 : Int32) (u0 : Int32 × (Nat → Int32)) (h : m_H_key v_line_length v_line_typed x1 = some (r0, u0)) : Met l y_H_key w_H_key ({ frames := 1, cells := 0, slots := 0, locals := 21 } : Room) (va_Pc [.ref h_o, .int x1] (fun U => U.heap.size = sz ∧ va_P (dC, dI) classes [(h_o, .inr (3, [.ref h_line, .ref h_factSets, .int v_markedPlus, .int v_markedMinus, .ref h_program, .ref h_deduction])), (h_line, .inr (1, [.ref h_line_typed, .int v_line_length])), (h_line_typed, .inl (k_line_typed, 32, .inl v_line_typed))] U.heap ∧ va_K (dC, dI) classes [(k_line_typed, .char)] U ∧ va_D (fun _ => True) [(h_o, .inr (3, [.ref h_line, .ref h_factSets, .int v_markedPlus, .int v_markedMinus, .ref h_program, .ref h_deduction])), (h_line, .inr (1, [.ref h_line_typed, .int v_line_length])), (h_line_typed, .inl (k_line_typed, 32, .inl v_line_typed))])) (va_Qi (fun (r : Int32) (u : Int32 × (Nat → Int32)) => r = r0 ∧ u = u0) (fun (u : Int32 × (Nat → Int32)) (t : State) => va_P (dC, dI) classes [(h_o, .inr (3, [.ref h_line, .ref h_factSets, .int v_markedPlus, .int v_markedMinus, .ref h_program, .ref h_deduction])), (h_line, .inr (1, [.ref h_line_typed, .int u.1])), (h_line_typed, .inl (k_line_typed, 32, .inl u.2))] t.heap ∧ va_K (dC, dI) classes [(k_line_typed, .char)] t ∧ va_D (va_A [(h_o, .inr (3, [.ref h_line, .ref h_factSets, .int v_markedPlus, .int v_markedMinus, .ref h_program, .ref h_deduction])), (h_line, .inr (1, [.ref h_line_typed, .int v_line_length])), (h_line_typed, .inl (k_line_typed, 32, .inl v_line_typed))] sz) [(h_o, .inr (3, [.ref h_line, .ref h_factSets, .int v_markedPlus, .int v_markedMinus, .ref h_program, .ref h_deduction])), (h_line, .inr (1, [.ref h_line_typed, .int u.1])), (h_line_typed, .inl (k_line_typed, 32, .inl u.2))]) (va_A [(h_o, .inr (3, [.ref h_line, .ref h_factSets, .int v_markedPlus, .int v_markedMinus, .ref h_program, .ref h_deduction])), (h_line, .inr (1, [.ref h_line_typed, .int v_line_length])), (h_line_typed, .inl (k_line_typed, 32, .inl v_line_typed))] sz)) 0 0 (va_A [(h_o, .inr (3, [.ref h_line, .ref h_factSets, .int v_markedPlus, .int v_markedMinus, .ref h_program, .ref h_deduction])), (h_line, .inr (1, [.ref h_line_typed, .int v_line_length])), (h_line_typed, .inl (k_line_typed, 32, .inl v_line_typed))] sz) := by
  refine Met.ofW (cc := b_H_key) (maxL := 2) (ret := (some .boolean)) (by decide) rfl ?_
  intro p e s m args below meth c s₁ B hml hv
  obtain ⟨rfl, hsz, hP, hK, hD0⟩ := hv
  have hx := B.exec
  have hb := B.bytes
  have hr := B.returns
  have hts0 := atoms_spec (ws := w_H_key) B.pre
  have hts : ∀ w ∈ lw_gd, w.before ([.ref h_o, .int x1] : List Value).toArray s = true := fun w h9 => hts0 w (List.mem_cons_of_mem _ h9)
  have hown : s.vm.findClass R_H = some m.cls := findClass_of_methodNamed B.named
  have hlocks := B.notSynchronized
  subst hsz
  have hD := hD0.self (sz := s.heap.size)
  generalize hAe : va_A [(h_o, .inr (3, [.ref h_line, .ref h_factSets, .int v_markedPlus, .int v_markedMinus, .ref h_program, .ref h_deduction])), (h_line, .inr (1, [.ref h_line_typed, .int v_line_length])), (h_line_typed, .inl (k_line_typed, 32, .inl v_line_typed))] s.heap.size = A at hD ⊢
  have hA : ∀ q : Nat, s.heap.size ≤ q → A q := fun q h9 => by rw [← hAe]; exact Or.inr h9
  obtain ⟨H, eH⟩ : ∃ H : Heap, H = s.heap := ⟨_, rfl⟩
  have hS : va_S A s.heap H [] := by rw [eH]; exact va_S.rf
  have hP : va_P (dC, dI) classes [(h_o, .inr (3, [.ref h_line, .ref h_factSets, .int v_markedPlus, .int v_markedMinus, .ref h_program, .ref h_deduction])), (h_line, .inr (1, [.ref h_line_typed, .int v_line_length])), (h_line_typed, .inl (k_line_typed, 32, .inl v_line_typed))] H := by rw [eH]; exact hP
  refine W_gen (fun Q hQ => ?_)
  refine W_heap eH ?_
  clear eH
  have hl := lv_entry ([.ref h_o, .int x1]) (n := 2) (Nat.le_of_ble_eq_true rfl)
  rw [lg_entry_eq]
  generalize (lg_sl ([.ref h_o, .int x1]) ++ List.replicate (2 - (lg_sl ([.ref h_o, .int x1])).length) Slot.unset).toArray = ls at hl ⊢
  have hl : lv_has ls 2 [(0, .ref h_o), (1, .int x1)] := hl
  unfold m_H_key at h
  refine lv_aload_n hx hb d_H_key_0 rfl (lv_at hl 0 rfl) ?_
  refine va_get (D := (dC, dI)) (ci := 3) (v := .ref h_line) (C := R_H) (T := F_H) (N := 6) hx hb hts lay_H hown hK hP 0 rfl rfl 0 (by decide) (hts _ flk_H_12) (fun _ h9 => h9) rfl d_H_key_1 ?_
  refine lv_iload_n hx hb d_H_key_4 rfl (lv_at hl 1 rfl) ?_
  have hPc := hP.sub (ws' := [(h_line, .inr (1, [.ref h_line_typed, .int v_line_length])), (h_line_typed, .inl (k_line_typed, 32, .inl v_line_typed))]) [1, 2] rfl
  have hDc := hD.sub (ws' := [(h_line, .inr (1, [.ref h_line_typed, .int v_line_length])), (h_line_typed, .inl (k_line_typed, 32, .inl v_line_typed))]) [1, 2] (by decide) rfl
  have hKc := hK.sub (tys' := [(k_line_typed, .char)]) [0] rfl
  have hFc := va_free (wc := [(h_line, .inr (1, [.ref h_line_typed, .int v_line_length])), (h_line_typed, .inl (k_line_typed, 32, .inl v_line_typed))]) hD hS hA [1, 2] rfl
  obtain ⟨v_5, hc_5, h⟩ := of_bind h
  refine va_calli (va_runV (As := [.int x1]) (rest := []) ⟨hx, hb, hml, hown, hts⟩ (c_L_add l dC dI h_line h_line_typed k_line_typed H.size v_line_length v_line_typed x1 v_5.1 v_5.2 hc_5) (cwV 1 hts (gV mlk_H_41 ins_L_add sel_L_add ini_L cod_L_add) rfl rfl rfl (by decide +kernel) ⟨Nat.le_of_ble_eq_true rfl, Nat.le_of_ble_eq_true rfl⟩) ⟨fun a U g mk q => by obtain ⟨q0, q1, qP, qK, qD⟩ := q; exact ⟨q0, q1, qP, va_K.moved (u := U) (U := U.calling g mk a) (Vm.Alike.refl U.vm) qK, qD⟩, va_recv hKc hPc (ci := 1) (q0 := 0) rfl rfl, fun U hU hW => ⟨rfl, by rw [hU], by rw [hU]; exact hPc, va_K.moved hW.alike hKc, hDc.weaken (fun _ _ _ _ => trivial)⟩⟩ rfl rfl hl.1 rfl (lv_room (Nat.le_of_ble_eq_true rfl)) d_H_key_5 ⟨Nat.le_of_ble_eq_true rfl, Nat.le_of_ble_eq_true rfl⟩) hS (fun q _ h9 => hFc q h9) hFc (fun r_5 u t H1 locs ht hvm hw hB hz1 hk1 hS => ?_)
  obtain ⟨rfl, rfl⟩ := hw
  obtain ⟨hP1, hK1, hD1⟩ := hB
  rw [ht] at hP1
  obtain ⟨hP, hD⟩ := va_join (wr := [(h_o, .inr (3, [.ref h_line, .ref h_factSets, .int v_markedPlus, .int v_markedMinus, .ref h_program, .ref h_deduction]))]) (w1 := [(h_line, .inr (1, [.ref h_line_typed, .int v_5.2.1])), (h_line_typed, .inl (k_line_typed, 32, .inl v_5.2.2))]) hP hD [1, 2] [0] rfl rfl (by decide) (by decide) hk1 hFc hP1 hD1
  have hP := hP.sub (ws' := [(h_o, .inr (3, [.ref h_line, .ref h_factSets, .int v_markedPlus, .int v_markedMinus, .ref h_program, .ref h_deduction])), (h_line, .inr (1, [.ref h_line_typed, .int v_5.2.1])), (h_line_typed, .inl (k_line_typed, 32, .inl v_5.2.2))]) [0, 1, 2] rfl
  have hD := hD.sub (ws' := [(h_o, .inr (3, [.ref h_line, .ref h_factSets, .int v_markedPlus, .int v_markedMinus, .ref h_program, .ref h_deduction])), (h_line, .inr (1, [.ref h_line_typed, .int v_5.2.1])), (h_line_typed, .inl (k_line_typed, 32, .inl v_5.2.2))]) [0, 1, 2] (by decide) rfl
  generalize H1 = H at hP hS ⊢
  obtain ⟨g_8, h⟩ := of_guard h
  rw [hQ]
  exact W.zret (v := v_5.1) hx hb hr (nrz g_8) (fun t ht hW => ⟨⟨v_5.1, (v_5.2.1, v_5.2.2), rfl, Prod.mk.inj (Option.some.inj h), by rw [ht]; exact hP, va_K.moved hW.alike hK, hD⟩, hS.F ht⟩) hS.2.2 d_H_key_8
set_option maxHeartbeats 1000000 in
set_option maxRecDepth 100000 in
theorem c_H_back (l : Launch) (dC : Nat → ClassId) (dI : Nat → Nat → Nat) (h_o h_line h_factSets h_program h_deduction h_line_typed : Nat) (sz : Nat) (v_markedPlus : Int32) (v_markedMinus : Int32) (v_line_length : Int32) (r0 : Int32) (u0 : Int32) (h : m_H_back v_line_length = some (r0, u0)) : Met l y_H_back w_H_back ({ frames := 1, cells := 0, slots := 0, locals := 20 } : Room) (va_Pc [.ref h_o] (fun U => U.heap.size = sz ∧ va_P (dC, dI) classes [(h_o, .inr (3, [.ref h_line, .ref h_factSets, .int v_markedPlus, .int v_markedMinus, .ref h_program, .ref h_deduction])), (h_line, .inr (1, [.ref h_line_typed, .int v_line_length]))] U.heap ∧ va_K (dC, dI) classes [] U ∧ va_D (fun _ => True) [(h_o, .inr (3, [.ref h_line, .ref h_factSets, .int v_markedPlus, .int v_markedMinus, .ref h_program, .ref h_deduction])), (h_line, .inr (1, [.ref h_line_typed, .int v_line_length]))])) (va_Qi (fun (r : Int32) (u : Int32) => r = r0 ∧ u = u0) (fun (u : Int32) (t : State) => va_P (dC, dI) classes [(h_o, .inr (3, [.ref h_line, .ref h_factSets, .int v_markedPlus, .int v_markedMinus, .ref h_program, .ref h_deduction])), (h_line, .inr (1, [.ref h_line_typed, .int u]))] t.heap ∧ va_K (dC, dI) classes [] t ∧ va_D (va_A [(h_o, .inr (3, [.ref h_line, .ref h_factSets, .int v_markedPlus, .int v_markedMinus, .ref h_program, .ref h_deduction])), (h_line, .inr (1, [.ref h_line_typed, .int v_line_length]))] sz) [(h_o, .inr (3, [.ref h_line, .ref h_factSets, .int v_markedPlus, .int v_markedMinus, .ref h_program, .ref h_deduction])), (h_line, .inr (1, [.ref h_line_typed, .int u]))]) (va_A [(h_o, .inr (3, [.ref h_line, .ref h_factSets, .int v_markedPlus, .int v_markedMinus, .ref h_program, .ref h_deduction])), (h_line, .inr (1, [.ref h_line_typed, .int v_line_length]))] sz)) 0 0 (va_A [(h_o, .inr (3, [.ref h_line, .ref h_factSets, .int v_markedPlus, .int v_markedMinus, .ref h_program, .ref h_deduction])), (h_line, .inr (1, [.ref h_line_typed, .int v_line_length]))] sz) := by
  refine Met.ofW (cc := b_H_back) (maxL := 1) (ret := (some .boolean)) (by decide) rfl ?_
  intro p e s m args below meth c s₁ B hml hv
  obtain ⟨rfl, hsz, hP, hK, hD0⟩ := hv
  have hx := B.exec
  have hb := B.bytes
  have hr := B.returns
  have hts0 := atoms_spec (ws := w_H_back) B.pre
  have hts : ∀ w ∈ lw_gd, w.before ([.ref h_o] : List Value).toArray s = true := fun w h9 => hts0 w (List.mem_cons_of_mem _ h9)
  have hown : s.vm.findClass R_H = some m.cls := findClass_of_methodNamed B.named
  have hlocks := B.notSynchronized
  subst hsz
  have hD := hD0.self (sz := s.heap.size)
  generalize hAe : va_A [(h_o, .inr (3, [.ref h_line, .ref h_factSets, .int v_markedPlus, .int v_markedMinus, .ref h_program, .ref h_deduction])), (h_line, .inr (1, [.ref h_line_typed, .int v_line_length]))] s.heap.size = A at hD ⊢
  have hA : ∀ q : Nat, s.heap.size ≤ q → A q := fun q h9 => by rw [← hAe]; exact Or.inr h9
  obtain ⟨H, eH⟩ : ∃ H : Heap, H = s.heap := ⟨_, rfl⟩
  have hS : va_S A s.heap H [] := by rw [eH]; exact va_S.rf
  have hP : va_P (dC, dI) classes [(h_o, .inr (3, [.ref h_line, .ref h_factSets, .int v_markedPlus, .int v_markedMinus, .ref h_program, .ref h_deduction])), (h_line, .inr (1, [.ref h_line_typed, .int v_line_length]))] H := by rw [eH]; exact hP
  refine W_gen (fun Q hQ => ?_)
  refine W_heap eH ?_
  clear eH
  have hl := lv_entry ([.ref h_o]) (n := 1) (Nat.le_of_ble_eq_true rfl)
  rw [lg_entry_eq]
  generalize (lg_sl ([.ref h_o]) ++ List.replicate (1 - (lg_sl ([.ref h_o])).length) Slot.unset).toArray = ls at hl ⊢
  have hl : lv_has ls 1 [(0, .ref h_o)] := hl
  unfold m_H_back at h
  refine lv_aload_n hx hb d_H_back_0 rfl (lv_at hl 0 rfl) ?_
  refine va_get (D := (dC, dI)) (ci := 3) (v := .ref h_line) (C := R_H) (T := F_H) (N := 6) hx hb hts lay_H hown hK hP 0 rfl rfl 0 (by decide) (hts _ flk_H_12) (fun _ h9 => h9) rfl d_H_back_1 ?_
  have hPc := hP.sub (ws' := [(h_line, .inr (1, [.ref h_line_typed, .int v_line_length]))]) [1] rfl
  have hDc := hD.sub (ws' := [(h_line, .inr (1, [.ref h_line_typed, .int v_line_length]))]) [1] (by decide) rfl
  have hKc := hK.sub (tys' := []) [] rfl
  have hFc := va_free (wc := [(h_line, .inr (1, [.ref h_line_typed, .int v_line_length]))]) hD hS hA [1] rfl
  obtain ⟨v_4, hc_4, h⟩ := of_bind h
  refine va_calli (va_runV (As := []) (rest := []) ⟨hx, hb, hml, hown, hts⟩ (c_L_removeLast l dC dI h_line h_line_typed H.size v_line_length v_4.1 v_4.2 hc_4) (cwV 0 hts (gV mlk_H_45 ins_L_removeLast sel_L_removeLast ini_L cod_L_removeLast) rfl rfl rfl (by decide +kernel) ⟨Nat.le_of_ble_eq_true rfl, Nat.le_of_ble_eq_true rfl⟩) ⟨fun a U g mk q => by obtain ⟨q0, q1, qP, qK, qD⟩ := q; exact ⟨q0, q1, qP, va_K.moved (u := U) (U := U.calling g mk a) (Vm.Alike.refl U.vm) qK, qD⟩, va_recv hKc hPc (ci := 1) (q0 := 0) rfl rfl, fun U hU hW => ⟨rfl, by rw [hU], by rw [hU]; exact hPc, va_K.moved hW.alike hKc, hDc.weaken (fun _ _ _ _ => trivial)⟩⟩ rfl rfl hl.1 rfl (lv_room (Nat.le_of_ble_eq_true rfl)) d_H_back_4 ⟨Nat.le_of_ble_eq_true rfl, Nat.le_of_ble_eq_true rfl⟩) hS (fun q _ h9 => hFc q h9) hFc (fun r_4 u t H1 locs ht hvm hw hB hz1 hk1 hS => ?_)
  obtain ⟨rfl, rfl⟩ := hw
  obtain ⟨hP1, hK1, hD1⟩ := hB
  rw [ht] at hP1
  obtain ⟨hP, hD⟩ := va_join (wr := [(h_o, .inr (3, [.ref h_line, .ref h_factSets, .int v_markedPlus, .int v_markedMinus, .ref h_program, .ref h_deduction]))]) (w1 := [(h_line, .inr (1, [.ref h_line_typed, .int v_4.2]))]) hP hD [1] [0] rfl rfl (by decide) (by decide) hk1 hFc hP1 hD1
  have hP := hP.sub (ws' := [(h_o, .inr (3, [.ref h_line, .ref h_factSets, .int v_markedPlus, .int v_markedMinus, .ref h_program, .ref h_deduction])), (h_line, .inr (1, [.ref h_line_typed, .int v_4.2]))]) [0, 1] rfl
  have hD := hD.sub (ws' := [(h_o, .inr (3, [.ref h_line, .ref h_factSets, .int v_markedPlus, .int v_markedMinus, .ref h_program, .ref h_deduction])), (h_line, .inr (1, [.ref h_line_typed, .int v_4.2]))]) [0, 1] (by decide) rfl
  generalize H1 = H at hP hS ⊢
  obtain ⟨g_7, h⟩ := of_guard h
  rw [hQ]
  exact W.zret (v := v_4.1) hx hb hr (nrz g_7) (fun t ht hW => ⟨⟨v_4.1, v_4.2, rfl, Prod.mk.inj (Option.some.inj h), by rw [ht]; exact hP, va_K.moved hW.alike hK, hD⟩, hS.F ht⟩) hS.2.2 d_H_back_7
set_option maxHeartbeats 1000000 in
set_option maxRecDepth 100000 in
theorem c_H_facts (l : Launch) (dC : Nat → ClassId) (dI : Nat → Nat → Nat) (h_o h_line h_factSets h_program h_deduction : Nat) (k_factSets : ClassId) (sz : Nat) (v_markedPlus : Int32) (v_markedMinus : Int32) (v_factSets : Nat → Int32) (x1 : Int32) (r0 : Int32) (u0 : Unit) (h : m_H_facts v_factSets x1 = some (r0, u0)) : Met l y_H_facts w_H_facts ({ frames := 1, cells := 0, slots := 0, locals := 20 } : Room) (va_Pc [.ref h_o, .int x1] (fun U => U.heap.size = sz ∧ va_P (dC, dI) classes [(h_o, .inr (3, [.ref h_line, .ref h_factSets, .int v_markedPlus, .int v_markedMinus, .ref h_program, .ref h_deduction])), (h_factSets, .inl (k_factSets, 2, .inl v_factSets))] U.heap ∧ va_K (dC, dI) classes [(k_factSets, .int)] U ∧ va_D (fun _ => True) [(h_o, .inr (3, [.ref h_line, .ref h_factSets, .int v_markedPlus, .int v_markedMinus, .ref h_program, .ref h_deduction])), (h_factSets, .inl (k_factSets, 2, .inl v_factSets))])) (va_Qi (fun (r : Int32) (u : Unit) => r = r0 ∧ u = u0) (fun (u : Unit) (t : State) => va_P (dC, dI) classes [(h_o, .inr (3, [.ref h_line, .ref h_factSets, .int v_markedPlus, .int v_markedMinus, .ref h_program, .ref h_deduction])), (h_factSets, .inl (k_factSets, 2, .inl v_factSets))] t.heap ∧ va_K (dC, dI) classes [(k_factSets, .int)] t ∧ va_D (va_A [(h_o, .inr (3, [.ref h_line, .ref h_factSets, .int v_markedPlus, .int v_markedMinus, .ref h_program, .ref h_deduction])), (h_factSets, .inl (k_factSets, 2, .inl v_factSets))] sz) [(h_o, .inr (3, [.ref h_line, .ref h_factSets, .int v_markedPlus, .int v_markedMinus, .ref h_program, .ref h_deduction])), (h_factSets, .inl (k_factSets, 2, .inl v_factSets))]) (va_A [(h_o, .inr (3, [.ref h_line, .ref h_factSets, .int v_markedPlus, .int v_markedMinus, .ref h_program, .ref h_deduction])), (h_factSets, .inl (k_factSets, 2, .inl v_factSets))] sz)) 0 0 (va_A [(h_o, .inr (3, [.ref h_line, .ref h_factSets, .int v_markedPlus, .int v_markedMinus, .ref h_program, .ref h_deduction])), (h_factSets, .inl (k_factSets, 2, .inl v_factSets))] sz) := by
  refine Met.ofW (cc := b_H_facts) (maxL := 2) (ret := (some .int)) (by decide) rfl ?_
  intro p e s m args below meth c s₁ B hml hv
  obtain ⟨rfl, hsz, hP, hK, hD0⟩ := hv
  have hx := B.exec
  have hb := B.bytes
  have hr := B.returns
  have hts0 := atoms_spec (ws := w_H_facts) B.pre
  have hts : ∀ w ∈ lw_gd, w.before ([.ref h_o, .int x1] : List Value).toArray s = true := fun w h9 => hts0 w (List.mem_cons_of_mem _ h9)
  have hown : s.vm.findClass R_H = some m.cls := findClass_of_methodNamed B.named
  have hlocks := B.notSynchronized
  subst hsz
  have hD := hD0.self (sz := s.heap.size)
  generalize hAe : va_A [(h_o, .inr (3, [.ref h_line, .ref h_factSets, .int v_markedPlus, .int v_markedMinus, .ref h_program, .ref h_deduction])), (h_factSets, .inl (k_factSets, 2, .inl v_factSets))] s.heap.size = A at hD ⊢
  have hA : ∀ q : Nat, s.heap.size ≤ q → A q := fun q h9 => by rw [← hAe]; exact Or.inr h9
  obtain ⟨H, eH⟩ : ∃ H : Heap, H = s.heap := ⟨_, rfl⟩
  have hS : va_S A s.heap H [] := by rw [eH]; exact va_S.rf
  have hP : va_P (dC, dI) classes [(h_o, .inr (3, [.ref h_line, .ref h_factSets, .int v_markedPlus, .int v_markedMinus, .ref h_program, .ref h_deduction])), (h_factSets, .inl (k_factSets, 2, .inl v_factSets))] H := by rw [eH]; exact hP
  refine W_gen (fun Q hQ => ?_)
  refine W_heap eH ?_
  clear eH
  have hl := lv_entry ([.ref h_o, .int x1]) (n := 2) (Nat.le_of_ble_eq_true rfl)
  rw [lg_entry_eq]
  generalize (lg_sl ([.ref h_o, .int x1]) ++ List.replicate (2 - (lg_sl ([.ref h_o, .int x1])).length) Slot.unset).toArray = ls at hl ⊢
  have hl : lv_has ls 2 [(0, .ref h_o), (1, .int x1)] := hl
  unfold m_H_facts at h
  refine lv_iload_n hx hb d_H_facts_0 rfl (lv_at hl 1 rfl) ?_
  have hPc := hP.sub (ws' := []) [] rfl
  have hDc := hD.sub (ws' := []) [] (by decide) rfl
  have hKc := hK.sub (tys' := []) [] rfl
  have hFc := va_free (wc := []) hD hS hA [] rfl
  obtain ⟨v_1, hc_1, h⟩ := of_bind h
  refine va_calli (va_runS (As := [.int x1]) (rest := []) ⟨hx, hb, hml, hown, hts⟩ (c_H_isFactRelation l dC dI H.size x1 v_1.1 v_1.2 hc_1) (va_cwS 1 hts (gS mlk_H_63 sta_H_isFactRelation ini_H cod_H_isFactRelation) rfl rfl rfl (by decide +kernel) ⟨Nat.le_of_ble_eq_true rfl, Nat.le_of_ble_eq_true rfl⟩) ⟨fun a U g mk q => by obtain ⟨q0, q1, qP, qK, qD⟩ := q; exact ⟨q0, q1, qP, va_K.moved (u := U) (U := U.calling g mk a) (Vm.Alike.refl U.vm) qK, qD⟩, fun U hU hW => ⟨rfl, by rw [hU], by rw [hU]; exact hPc, va_K.moved hW.alike hKc, hDc.weaken (fun _ _ _ _ => trivial)⟩⟩ rfl rfl hl.1 rfl (lv_room (Nat.le_of_ble_eq_true rfl)) d_H_facts_1 ⟨Nat.le_of_ble_eq_true rfl, Nat.le_of_ble_eq_true rfl⟩) hS (fun q _ h9 => hFc q h9) hFc (fun r_1 u t H1 locs ht hvm hw hB hz1 hk1 hS => ?_)
  obtain ⟨rfl, rfl⟩ := hw
  obtain ⟨hP1, hK1, hD1⟩ := hB
  rw [ht] at hP1
  obtain ⟨hP, hD⟩ := va_join (wr := [(h_o, .inr (3, [.ref h_line, .ref h_factSets, .int v_markedPlus, .int v_markedMinus, .ref h_program, .ref h_deduction])), (h_factSets, .inl (k_factSets, 2, .inl v_factSets))]) (w1 := []) hP hD [] [0, 1] rfl rfl (by decide) (by decide) hk1 hFc hP1 hD1
  have hP := hP.sub (ws' := [(h_o, .inr (3, [.ref h_line, .ref h_factSets, .int v_markedPlus, .int v_markedMinus, .ref h_program, .ref h_deduction])), (h_factSets, .inl (k_factSets, 2, .inl v_factSets))]) [0, 1] rfl
  have hD := hD.sub (ws' := [(h_o, .inr (3, [.ref h_line, .ref h_factSets, .int v_markedPlus, .int v_markedMinus, .ref h_program, .ref h_deduction])), (h_factSets, .inl (k_factSets, 2, .inl v_factSets))]) [0, 1] (by decide) rfl
  generalize H1 = H at hP hS ⊢
  refine lv_if_eq (tgt := 19) hx hb d_H_facts_4 (by decide) (fun c_4 => ?_) (fun c_4 => ?_)
  · have h := of_pos h c_4
    refine lv_iconst (v := (-1 : Int32)) hx hb d_H_facts_19 (by decide) ?_
    rw [hQ]
    exact W.iret (v := (-1 : Int32)) hx hb hr (fun t ht hW => ⟨⟨(-1 : Int32), (), rfl, Prod.mk.inj (Option.some.inj h), by rw [ht]; exact hP, va_K.moved hW.alike hK, hD⟩, hS.F ht⟩) hS.2.2 d_H_facts_20
  · have h := of_neg h c_4
    refine lv_aload_n hx hb d_H_facts_7 rfl (lv_at hl 0 rfl) ?_
    refine va_get (D := (dC, dI)) (ci := 3) (v := .ref h_factSets) (C := R_H) (T := F_H) (N := 6) hx hb hts lay_H hown hK hP 0 rfl rfl 1 (by decide) (hts _ flk_H_16) (fun _ h9 => h9) rfl d_H_facts_8 ?_
    refine lv_iload_n hx hb d_H_facts_11 rfl (lv_at hl 1 rfl) ?_
    obtain ⟨g_12, h⟩ := of_guard h
    refine va_iald hx hb hK hP 1 0 rfl rfl (inR_in g_12) d_H_facts_12 ?_
    have hPc := hP.sub (ws' := []) [] rfl
    have hDc := hD.sub (ws' := []) [] (by decide) rfl
    have hKc := hK.sub (tys' := []) [] rfl
    have hFc := va_free (wc := []) hD hS hA [] rfl
    obtain ⟨v_13, hc_13, h⟩ := of_bind h
    refine va_calli (va_runS (As := [.int (v_factSets x1.toNatClampNeg)]) (rest := []) ⟨hx, hb, hml, hown, hts⟩ (c_I_bitCount l dC dI H.size (v_factSets x1.toNatClampNeg) v_13.1 v_13.2 hc_13) (va_cwS 1 hts (gS mlk_H_66 sta_I_bitCount ini_I cod_I_bitCount) rfl rfl rfl (by decide +kernel) ⟨Nat.le_of_ble_eq_true rfl, Nat.le_of_ble_eq_true rfl⟩) ⟨fun a U g mk q => by obtain ⟨q0, q1, qP, qK, qD⟩ := q; exact ⟨q0, q1, qP, va_K.moved (u := U) (U := U.calling g mk a) (Vm.Alike.refl U.vm) qK, qD⟩, fun U hU hW => ⟨rfl, by rw [hU], by rw [hU]; exact hPc, va_K.moved hW.alike hKc, hDc.weaken (fun _ _ _ _ => trivial)⟩⟩ rfl rfl hl.1 rfl (lv_room (Nat.le_of_ble_eq_true rfl)) d_H_facts_13 ⟨Nat.le_of_ble_eq_true rfl, Nat.le_of_ble_eq_true rfl⟩) hS (fun q _ h9 => hFc q h9) hFc (fun r_13 u t H1 locs ht hvm hw hB hz1 hk1 hS => ?_)
    obtain ⟨rfl, rfl⟩ := hw
    obtain ⟨hP1, hK1, hD1⟩ := hB
    rw [ht] at hP1
    obtain ⟨hP, hD⟩ := va_join (wr := [(h_o, .inr (3, [.ref h_line, .ref h_factSets, .int v_markedPlus, .int v_markedMinus, .ref h_program, .ref h_deduction])), (h_factSets, .inl (k_factSets, 2, .inl v_factSets))]) (w1 := []) hP hD [] [0, 1] rfl rfl (by decide) (by decide) hk1 hFc hP1 hD1
    have hP := hP.sub (ws' := [(h_o, .inr (3, [.ref h_line, .ref h_factSets, .int v_markedPlus, .int v_markedMinus, .ref h_program, .ref h_deduction])), (h_factSets, .inl (k_factSets, 2, .inl v_factSets))]) [0, 1] rfl
    have hD := hD.sub (ws' := [(h_o, .inr (3, [.ref h_line, .ref h_factSets, .int v_markedPlus, .int v_markedMinus, .ref h_program, .ref h_deduction])), (h_factSets, .inl (k_factSets, 2, .inl v_factSets))]) [0, 1] (by decide) rfl
    generalize H1 = H at hP hS ⊢
    refine lv_goto (tgt := 20) hx hb d_H_facts_16 (by decide) ?_
    rw [hQ]
    exact W.iret (v := v_13.1) hx hb hr (fun t ht hW => ⟨⟨v_13.1, (), rfl, Prod.mk.inj (Option.some.inj h), by rw [ht]; exact hP, va_K.moved hW.alike hK, hD⟩, hS.F ht⟩) hS.2.2 d_H_facts_20
set_option maxHeartbeats 1000000 in
set_option maxRecDepth 100000 in
theorem c_H_holds (l : Launch) (dC : Nat → ClassId) (dI : Nat → Nat → Nat) (h_o h_line h_factSets h_program h_deduction : Nat) (k_factSets : ClassId) (sz : Nat) (v_markedPlus : Int32) (v_markedMinus : Int32) (v_factSets : Nat → Int32) (x1 : Int32) (x2 : Int32) (x3 : Int32) (r0 : Int32) (u0 : Unit) (h : m_H_holds v_factSets x1 x2 x3 = some (r0, u0)) : Met l y_H_holds w_H_holds ({ frames := 1, cells := 0, slots := 0, locals := 22 } : Room) (va_Pc [.ref h_o, .int x1, .int x2, .int x3] (fun U => U.heap.size = sz ∧ va_P (dC, dI) classes [(h_o, .inr (3, [.ref h_line, .ref h_factSets, .int v_markedPlus, .int v_markedMinus, .ref h_program, .ref h_deduction])), (h_factSets, .inl (k_factSets, 2, .inl v_factSets))] U.heap ∧ va_K (dC, dI) classes [(k_factSets, .int)] U ∧ va_D (fun _ => True) [(h_o, .inr (3, [.ref h_line, .ref h_factSets, .int v_markedPlus, .int v_markedMinus, .ref h_program, .ref h_deduction])), (h_factSets, .inl (k_factSets, 2, .inl v_factSets))])) (va_Qi (fun (r : Int32) (u : Unit) => r = r0 ∧ u = u0) (fun (u : Unit) (t : State) => va_P (dC, dI) classes [(h_o, .inr (3, [.ref h_line, .ref h_factSets, .int v_markedPlus, .int v_markedMinus, .ref h_program, .ref h_deduction])), (h_factSets, .inl (k_factSets, 2, .inl v_factSets))] t.heap ∧ va_K (dC, dI) classes [(k_factSets, .int)] t ∧ va_D (va_A [(h_o, .inr (3, [.ref h_line, .ref h_factSets, .int v_markedPlus, .int v_markedMinus, .ref h_program, .ref h_deduction])), (h_factSets, .inl (k_factSets, 2, .inl v_factSets))] sz) [(h_o, .inr (3, [.ref h_line, .ref h_factSets, .int v_markedPlus, .int v_markedMinus, .ref h_program, .ref h_deduction])), (h_factSets, .inl (k_factSets, 2, .inl v_factSets))]) (va_A [(h_o, .inr (3, [.ref h_line, .ref h_factSets, .int v_markedPlus, .int v_markedMinus, .ref h_program, .ref h_deduction])), (h_factSets, .inl (k_factSets, 2, .inl v_factSets))] sz)) 0 0 (va_A [(h_o, .inr (3, [.ref h_line, .ref h_factSets, .int v_markedPlus, .int v_markedMinus, .ref h_program, .ref h_deduction])), (h_factSets, .inl (k_factSets, 2, .inl v_factSets))] sz) := by
  refine Met.ofW (cc := b_H_holds) (maxL := 4) (ret := (some .boolean)) (by decide) rfl ?_
  intro p e s m args below meth c s₁ B hml hv
  obtain ⟨rfl, hsz, hP, hK, hD0⟩ := hv
  have hx := B.exec
  have hb := B.bytes
  have hr := B.returns
  have hts0 := atoms_spec (ws := w_H_holds) B.pre
  have hts : ∀ w ∈ lw_gd, w.before ([.ref h_o, .int x1, .int x2, .int x3] : List Value).toArray s = true := fun w h9 => hts0 w (List.mem_cons_of_mem _ h9)
  have hown : s.vm.findClass R_H = some m.cls := findClass_of_methodNamed B.named
  have hlocks := B.notSynchronized
  subst hsz
  have hD := hD0.self (sz := s.heap.size)
  generalize hAe : va_A [(h_o, .inr (3, [.ref h_line, .ref h_factSets, .int v_markedPlus, .int v_markedMinus, .ref h_program, .ref h_deduction])), (h_factSets, .inl (k_factSets, 2, .inl v_factSets))] s.heap.size = A at hD ⊢
  have hA : ∀ q : Nat, s.heap.size ≤ q → A q := fun q h9 => by rw [← hAe]; exact Or.inr h9
  obtain ⟨H, eH⟩ : ∃ H : Heap, H = s.heap := ⟨_, rfl⟩
  have hS : va_S A s.heap H [] := by rw [eH]; exact va_S.rf
  have hP : va_P (dC, dI) classes [(h_o, .inr (3, [.ref h_line, .ref h_factSets, .int v_markedPlus, .int v_markedMinus, .ref h_program, .ref h_deduction])), (h_factSets, .inl (k_factSets, 2, .inl v_factSets))] H := by rw [eH]; exact hP
  refine W_gen (fun Q hQ => ?_)
  refine W_heap eH ?_
  clear eH
  have hl := lv_entry ([.ref h_o, .int x1, .int x2, .int x3]) (n := 4) (Nat.le_of_ble_eq_true rfl)
  rw [lg_entry_eq]
  generalize (lg_sl ([.ref h_o, .int x1, .int x2, .int x3]) ++ List.replicate (4 - (lg_sl ([.ref h_o, .int x1, .int x2, .int x3])).length) Slot.unset).toArray = ls at hl ⊢
  have hl : lv_has ls 4 [(0, .ref h_o), (1, .int x1), (2, .int x2), (3, .int x3)] := hl
  unfold m_H_holds at h
  refine lv_iload_n hx hb d_H_holds_0 rfl (lv_at hl 1 rfl) ?_
  have hPc := hP.sub (ws' := []) [] rfl
  have hDc := hD.sub (ws' := []) [] (by decide) rfl
  have hKc := hK.sub (tys' := []) [] rfl
  have hFc := va_free (wc := []) hD hS hA [] rfl
  obtain ⟨v_1, hc_1, h⟩ := of_bind h
  refine va_calli (va_runS (As := [.int x1]) (rest := []) ⟨hx, hb, hml, hown, hts⟩ (c_H_isFactRelation l dC dI H.size x1 v_1.1 v_1.2 hc_1) (va_cwS 1 hts (gS mlk_H_63 sta_H_isFactRelation ini_H cod_H_isFactRelation) rfl rfl rfl (by decide +kernel) ⟨Nat.le_of_ble_eq_true rfl, Nat.le_of_ble_eq_true rfl⟩) ⟨fun a U g mk q => by obtain ⟨q0, q1, qP, qK, qD⟩ := q; exact ⟨q0, q1, qP, va_K.moved (u := U) (U := U.calling g mk a) (Vm.Alike.refl U.vm) qK, qD⟩, fun U hU hW => ⟨rfl, by rw [hU], by rw [hU]; exact hPc, va_K.moved hW.alike hKc, hDc.weaken (fun _ _ _ _ => trivial)⟩⟩ rfl rfl hl.1 rfl (lv_room (Nat.le_of_ble_eq_true rfl)) d_H_holds_1 ⟨Nat.le_of_ble_eq_true rfl, Nat.le_of_ble_eq_true rfl⟩) hS (fun q _ h9 => hFc q h9) hFc (fun r_1 u t H1 locs ht hvm hw hB hz1 hk1 hS => ?_)
  obtain ⟨rfl, rfl⟩ := hw
  obtain ⟨hP1, hK1, hD1⟩ := hB
  rw [ht] at hP1
  obtain ⟨hP, hD⟩ := va_join (wr := [(h_o, .inr (3, [.ref h_line, .ref h_factSets, .int v_markedPlus, .int v_markedMinus, .ref h_program, .ref h_deduction])), (h_factSets, .inl (k_factSets, 2, .inl v_factSets))]) (w1 := []) hP hD [] [0, 1] rfl rfl (by decide) (by decide) hk1 hFc hP1 hD1
  have hP := hP.sub (ws' := [(h_o, .inr (3, [.ref h_line, .ref h_factSets, .int v_markedPlus, .int v_markedMinus, .ref h_program, .ref h_deduction])), (h_factSets, .inl (k_factSets, 2, .inl v_factSets))]) [0, 1] rfl
  have hD := hD.sub (ws' := [(h_o, .inr (3, [.ref h_line, .ref h_factSets, .int v_markedPlus, .int v_markedMinus, .ref h_program, .ref h_deduction])), (h_factSets, .inl (k_factSets, 2, .inl v_factSets))]) [0, 1] (by decide) rfl
  generalize H1 = H at hP hS ⊢
  refine lv_if_eq (tgt := 26) hx hb d_H_holds_4 (by decide) (fun c_4 => ?_) (fun c_4 => ?_)
  · have h := of_pos h c_4
    refine lv_iconst (v := (nI 0)) hx hb d_H_holds_26 (by decide) ?_
    rw [hQ]
    exact W.zret (v := (nI 0)) hx hb hr rfl (fun t ht hW => ⟨⟨(nI 0), (), rfl, Prod.mk.inj (Option.some.inj h), by rw [ht]; exact hP, va_K.moved hW.alike hK, hD⟩, hS.F ht⟩) hS.2.2 d_H_holds_27
  · have h := of_neg h c_4
    refine lv_aload_n hx hb d_H_holds_7 rfl (lv_at hl 0 rfl) ?_
    refine va_get (D := (dC, dI)) (ci := 3) (v := .ref h_factSets) (C := R_H) (T := F_H) (N := 6) hx hb hts lay_H hown hK hP 0 rfl rfl 1 (by decide) (hts _ flk_H_16) (fun _ h9 => h9) rfl d_H_holds_8 ?_
    refine lv_iload_n hx hb d_H_holds_11 rfl (lv_at hl 1 rfl) ?_
    obtain ⟨g_12, h⟩ := of_guard h
    refine va_iald hx hb hK hP 1 0 rfl rfl (inR_in g_12) d_H_holds_12 ?_
    refine lv_iload_n hx hb d_H_holds_13 rfl (lv_at hl 2 rfl) ?_
    refine lv_iload_n hx hb d_H_holds_14 rfl (lv_at hl 3 rfl) ?_
    have hPc := hP.sub (ws' := []) [] rfl
    have hDc := hD.sub (ws' := []) [] (by decide) rfl
    have hKc := hK.sub (tys' := []) [] rfl
    have hFc := va_free (wc := []) hD hS hA [] rfl
    obtain ⟨v_15, hc_15, h⟩ := of_bind h
    refine va_calli (va_runS (As := [.int x2, .int x3]) (rest := [.int (v_factSets x1.toNatClampNeg)]) ⟨hx, hb, hml, hown, hts⟩ (c_H_pairBit l dC dI H.size x2 x3 v_15.1 v_15.2 hc_15) (va_cwS 2 hts (gS mlk_H_72 sta_H_pairBit ini_H cod_H_pairBit) rfl rfl rfl (by decide +kernel) ⟨Nat.le_of_ble_eq_true rfl, Nat.le_of_ble_eq_true rfl⟩) ⟨fun a U g mk q => by obtain ⟨q0, q1, qP, qK, qD⟩ := q; exact ⟨q0, q1, qP, va_K.moved (u := U) (U := U.calling g mk a) (Vm.Alike.refl U.vm) qK, qD⟩, fun U hU hW => ⟨rfl, by rw [hU], by rw [hU]; exact hPc, va_K.moved hW.alike hKc, hDc.weaken (fun _ _ _ _ => trivial)⟩⟩ rfl rfl hl.1 rfl (lv_room (Nat.le_of_ble_eq_true rfl)) d_H_holds_15 ⟨Nat.le_of_ble_eq_true rfl, Nat.le_of_ble_eq_true rfl⟩) hS (fun q _ h9 => hFc q h9) hFc (fun r_15 u t H1 locs ht hvm hw hB hz1 hk1 hS => ?_)
    obtain ⟨rfl, rfl⟩ := hw
    obtain ⟨hP1, hK1, hD1⟩ := hB
    rw [ht] at hP1
    obtain ⟨hP, hD⟩ := va_join (wr := [(h_o, .inr (3, [.ref h_line, .ref h_factSets, .int v_markedPlus, .int v_markedMinus, .ref h_program, .ref h_deduction])), (h_factSets, .inl (k_factSets, 2, .inl v_factSets))]) (w1 := []) hP hD [] [0, 1] rfl rfl (by decide) (by decide) hk1 hFc hP1 hD1
    have hP := hP.sub (ws' := [(h_o, .inr (3, [.ref h_line, .ref h_factSets, .int v_markedPlus, .int v_markedMinus, .ref h_program, .ref h_deduction])), (h_factSets, .inl (k_factSets, 2, .inl v_factSets))]) [0, 1] rfl
    have hD := hD.sub (ws' := [(h_o, .inr (3, [.ref h_line, .ref h_factSets, .int v_markedPlus, .int v_markedMinus, .ref h_program, .ref h_deduction])), (h_factSets, .inl (k_factSets, 2, .inl v_factSets))]) [0, 1] (by decide) rfl
    generalize H1 = H at hP hS ⊢
    refine lv_iand hx hb d_H_holds_18 ?_
    refine lv_if_eq (tgt := 26) hx hb d_H_holds_19 (by decide) (fun c_19 => ?_) (fun c_19 => ?_)
    · have h := of_pos h c_19
      refine lv_iconst (v := (nI 0)) hx hb d_H_holds_26 (by decide) ?_
      rw [hQ]
      exact W.zret (v := (nI 0)) hx hb hr rfl (fun t ht hW => ⟨⟨(nI 0), (), rfl, Prod.mk.inj (Option.some.inj h), by rw [ht]; exact hP, va_K.moved hW.alike hK, hD⟩, hS.F ht⟩) hS.2.2 d_H_holds_27
    · have h := of_neg h c_19
      refine lv_iconst (v := (nI 1)) hx hb d_H_holds_22 (by decide) ?_
      refine lv_goto (tgt := 27) hx hb d_H_holds_23 (by decide) ?_
      rw [hQ]
      exact W.zret (v := (nI 1)) hx hb hr rfl (fun t ht hW => ⟨⟨(nI 1), (), rfl, Prod.mk.inj (Option.some.inj h), by rw [ht]; exact hP, va_K.moved hW.alike hK, hD⟩, hS.F ht⟩) hS.2.2 d_H_holds_27
set_option maxHeartbeats 1000000 in
set_option maxRecDepth 100000 in
theorem c_H_mark (l : Launch) (dC : Nat → ClassId) (dI : Nat → Nat → Nat) (h_o h_line h_factSets h_program h_deduction : Nat) (sz : Nat) (v_markedPlus : Int32) (v_markedMinus : Int32) (x1 : Int32) (x2 : Int32) (r0 : Int32) (u0 : Unit) (h : m_H_mark v_markedPlus v_markedMinus x1 x2 = some (r0, u0)) : Met l y_H_mark w_H_mark ({ frames := 1, cells := 0, slots := 0, locals := 22 } : Room) (va_Pc [.ref h_o, .int x1, .int x2] (fun U => U.heap.size = sz ∧ va_P (dC, dI) classes [(h_o, .inr (3, [.ref h_line, .ref h_factSets, .int v_markedPlus, .int v_markedMinus, .ref h_program, .ref h_deduction]))] U.heap ∧ va_K (dC, dI) classes [] U ∧ va_D (fun _ => True) [(h_o, .inr (3, [.ref h_line, .ref h_factSets, .int v_markedPlus, .int v_markedMinus, .ref h_program, .ref h_deduction]))])) (va_Qi (fun (r : Int32) (u : Unit) => r = r0 ∧ u = u0) (fun (u : Unit) (t : State) => va_P (dC, dI) classes [(h_o, .inr (3, [.ref h_line, .ref h_factSets, .int v_markedPlus, .int v_markedMinus, .ref h_program, .ref h_deduction]))] t.heap ∧ va_K (dC, dI) classes [] t ∧ va_D (va_A [(h_o, .inr (3, [.ref h_line, .ref h_factSets, .int v_markedPlus, .int v_markedMinus, .ref h_program, .ref h_deduction]))] sz) [(h_o, .inr (3, [.ref h_line, .ref h_factSets, .int v_markedPlus, .int v_markedMinus, .ref h_program, .ref h_deduction]))]) (va_A [(h_o, .inr (3, [.ref h_line, .ref h_factSets, .int v_markedPlus, .int v_markedMinus, .ref h_program, .ref h_deduction]))] sz)) 0 0 (va_A [(h_o, .inr (3, [.ref h_line, .ref h_factSets, .int v_markedPlus, .int v_markedMinus, .ref h_program, .ref h_deduction]))] sz) := by
  refine Met.ofW (cc := b_H_mark) (maxL := 4) (ret := (some .int)) (by decide) rfl ?_
  intro p e s m args below meth c s₁ B hml hv
  obtain ⟨rfl, hsz, hP, hK, hD0⟩ := hv
  have hx := B.exec
  have hb := B.bytes
  have hr := B.returns
  have hts0 := atoms_spec (ws := w_H_mark) B.pre
  have hts : ∀ w ∈ lw_gd, w.before ([.ref h_o, .int x1, .int x2] : List Value).toArray s = true := fun w h9 => hts0 w (List.mem_cons_of_mem _ h9)
  have hown : s.vm.findClass R_H = some m.cls := findClass_of_methodNamed B.named
  have hlocks := B.notSynchronized
  subst hsz
  have hD := hD0.self (sz := s.heap.size)
  generalize hAe : va_A [(h_o, .inr (3, [.ref h_line, .ref h_factSets, .int v_markedPlus, .int v_markedMinus, .ref h_program, .ref h_deduction]))] s.heap.size = A at hD ⊢
  have hA : ∀ q : Nat, s.heap.size ≤ q → A q := fun q h9 => by rw [← hAe]; exact Or.inr h9
  obtain ⟨H, eH⟩ : ∃ H : Heap, H = s.heap := ⟨_, rfl⟩
  have hS : va_S A s.heap H [] := by rw [eH]; exact va_S.rf
  have hP : va_P (dC, dI) classes [(h_o, .inr (3, [.ref h_line, .ref h_factSets, .int v_markedPlus, .int v_markedMinus, .ref h_program, .ref h_deduction]))] H := by rw [eH]; exact hP
  refine W_gen (fun Q hQ => ?_)
  refine W_heap eH ?_
  clear eH
  have hl := lv_entry ([.ref h_o, .int x1, .int x2]) (n := 4) (Nat.le_of_ble_eq_true rfl)
  rw [lg_entry_eq]
  generalize (lg_sl ([.ref h_o, .int x1, .int x2]) ++ List.replicate (4 - (lg_sl ([.ref h_o, .int x1, .int x2])).length) Slot.unset).toArray = ls at hl ⊢
  have hl : lv_has ls 4 [(0, .ref h_o), (1, .int x1), (2, .int x2)] := hl
  unfold m_H_mark at h
  refine lv_iload_n hx hb d_H_mark_0 rfl (lv_at hl 1 rfl) ?_
  refine lv_iload_n hx hb d_H_mark_1 rfl (lv_at hl 2 rfl) ?_
  have hPc := hP.sub (ws' := []) [] rfl
  have hDc := hD.sub (ws' := []) [] (by decide) rfl
  have hKc := hK.sub (tys' := []) [] rfl
  have hFc := va_free (wc := []) hD hS hA [] rfl
  obtain ⟨v_2, hc_2, h⟩ := of_bind h
  refine va_calli (va_runS (As := [.int x1, .int x2]) (rest := []) ⟨hx, hb, hml, hown, hts⟩ (c_H_pairBit l dC dI H.size x1 x2 v_2.1 v_2.2 hc_2) (va_cwS 2 hts (gS mlk_H_72 sta_H_pairBit ini_H cod_H_pairBit) rfl rfl rfl (by decide +kernel) ⟨Nat.le_of_ble_eq_true rfl, Nat.le_of_ble_eq_true rfl⟩) ⟨fun a U g mk q => by obtain ⟨q0, q1, qP, qK, qD⟩ := q; exact ⟨q0, q1, qP, va_K.moved (u := U) (U := U.calling g mk a) (Vm.Alike.refl U.vm) qK, qD⟩, fun U hU hW => ⟨rfl, by rw [hU], by rw [hU]; exact hPc, va_K.moved hW.alike hKc, hDc.weaken (fun _ _ _ _ => trivial)⟩⟩ rfl rfl hl.1 rfl (lv_room (Nat.le_of_ble_eq_true rfl)) d_H_mark_2 ⟨Nat.le_of_ble_eq_true rfl, Nat.le_of_ble_eq_true rfl⟩) hS (fun q _ h9 => hFc q h9) hFc (fun r_2 u t H1 locs ht hvm hw hB hz1 hk1 hS => ?_)
  obtain ⟨rfl, rfl⟩ := hw
  obtain ⟨hP1, hK1, hD1⟩ := hB
  rw [ht] at hP1
  obtain ⟨hP, hD⟩ := va_join (wr := [(h_o, .inr (3, [.ref h_line, .ref h_factSets, .int v_markedPlus, .int v_markedMinus, .ref h_program, .ref h_deduction]))]) (w1 := []) hP hD [] [0] rfl rfl (by decide) (by decide) hk1 hFc hP1 hD1
  have hP := hP.sub (ws' := [(h_o, .inr (3, [.ref h_line, .ref h_factSets, .int v_markedPlus, .int v_markedMinus, .ref h_program, .ref h_deduction]))]) [0] rfl
  have hD := hD.sub (ws' := [(h_o, .inr (3, [.ref h_line, .ref h_factSets, .int v_markedPlus, .int v_markedMinus, .ref h_program, .ref h_deduction]))]) [0] (by decide) rfl
  generalize H1 = H at hP hS ⊢
  refine lv_istore_n (lv' := [(3, .int v_2.1), (0, .ref h_o), (1, .int x1), (2, .int x2)]) hx hb d_H_mark_5 rfl hl (by decide) rfl (fun ls hl => ?_)
  refine lv_aload_n hx hb d_H_mark_6 rfl (lv_at hl 1 rfl) ?_
  refine va_get (D := (dC, dI)) (ci := 3) (v := .int v_markedPlus) (C := R_H) (T := F_H) (N := 6) hx hb hts lay_H hown hK hP 0 rfl rfl 2 (by decide) (hts _ flk_H_20) (fun _ h9 => h9) rfl d_H_mark_7 ?_
  refine lv_iload_n hx hb d_H_mark_10 rfl (lv_at hl 0 rfl) ?_
  refine lv_iand hx hb d_H_mark_11 ?_
  refine lv_if_eq (tgt := 17) hx hb d_H_mark_12 (by decide) (fun c_12 => ?_) (fun c_12 => ?_)
  · have h := of_pos h c_12
    refine lv_aload_n hx hb d_H_mark_17 rfl (lv_at hl 1 rfl) ?_
    refine va_get (D := (dC, dI)) (ci := 3) (v := .int v_markedMinus) (C := R_H) (T := F_H) (N := 6) hx hb hts lay_H hown hK hP 0 rfl rfl 3 (by decide) (hts _ flk_H_24) (fun _ h9 => h9) rfl d_H_mark_18 ?_
    refine lv_iload_n hx hb d_H_mark_21 rfl (lv_at hl 0 rfl) ?_
    refine lv_iand hx hb d_H_mark_22 ?_
    refine lv_if_eq (tgt := 30) hx hb d_H_mark_23 (by decide) (fun c_23 => ?_) (fun c_23 => ?_)
    · have h := of_pos h c_23
      refine lv_iconst (v := (nI 0)) hx hb d_H_mark_30 (by decide) ?_
      rw [hQ]
      exact W.iret (v := (nI 0)) hx hb hr (fun t ht hW => ⟨⟨(nI 0), (), rfl, Prod.mk.inj (Option.some.inj h), by rw [ht]; exact hP, va_K.moved hW.alike hK, hD⟩, hS.F ht⟩) hS.2.2 d_H_mark_31
    · have h := of_neg h c_23
      refine lv_iconst (v := (-1 : Int32)) hx hb d_H_mark_26 (by decide) ?_
      refine lv_goto (tgt := 31) hx hb d_H_mark_27 (by decide) ?_
      rw [hQ]
      exact W.iret (v := (-1 : Int32)) hx hb hr (fun t ht hW => ⟨⟨(-1 : Int32), (), rfl, Prod.mk.inj (Option.some.inj h), by rw [ht]; exact hP, va_K.moved hW.alike hK, hD⟩, hS.F ht⟩) hS.2.2 d_H_mark_31
  · have h := of_neg h c_12
    refine lv_iconst (v := (nI 1)) hx hb d_H_mark_15 (by decide) ?_
    rw [hQ]
    exact W.iret (v := (nI 1)) hx hb hr (fun t ht hW => ⟨⟨(nI 1), (), rfl, Prod.mk.inj (Option.some.inj h), by rw [ht]; exact hP, va_K.moved hW.alike hK, hD⟩, hS.F ht⟩) hS.2.2 d_H_mark_16
set_option maxHeartbeats 1000000 in
set_option maxRecDepth 100000 in
theorem c_H_drop (l : Launch) (dC : Nat → ClassId) (dI : Nat → Nat → Nat) (h_o h_line h_factSets h_program h_deduction h_program_bodies : Nat) (k_program_bodies : ClassId) (sz : Nat) (v_markedPlus : Int32) (v_markedMinus : Int32) (v_program_count : Int32) (v_program_bodies : Nat → Int32) (x1 : Int32) (r0 : Int32) (u0 : Int32 × (Nat → Int32)) (h : m_H_drop v_program_count v_program_bodies x1 = some (r0, u0)) : Met l y_H_drop w_H_drop ({ frames := 2, cells := 0, slots := 0, locals := 42 } : Room) (va_Pc [.ref h_o, .int x1] (fun U => U.heap.size = sz ∧ va_P (dC, dI) classes [(h_o, .inr (3, [.ref h_line, .ref h_factSets, .int v_markedPlus, .int v_markedMinus, .ref h_program, .ref h_deduction])), (h_program, .inr (2, [.ref h_program_bodies, .int v_program_count])), (h_program_bodies, .inl (k_program_bodies, 2, .inl v_program_bodies))] U.heap ∧ va_K (dC, dI) classes [(k_program_bodies, .int)] U ∧ va_D (fun _ => True) [(h_o, .inr (3, [.ref h_line, .ref h_factSets, .int v_markedPlus, .int v_markedMinus, .ref h_program, .ref h_deduction])), (h_program, .inr (2, [.ref h_program_bodies, .int v_program_count])), (h_program_bodies, .inl (k_program_bodies, 2, .inl v_program_bodies))])) (va_Qi (fun (r : Int32) (u : Int32 × (Nat → Int32)) => r = r0 ∧ u = u0) (fun (u : Int32 × (Nat → Int32)) (t : State) => va_P (dC, dI) classes [(h_o, .inr (3, [.ref h_line, .ref h_factSets, .int v_markedPlus, .int v_markedMinus, .ref h_program, .ref h_deduction])), (h_program, .inr (2, [.ref h_program_bodies, .int u.1])), (h_program_bodies, .inl (k_program_bodies, 2, .inl u.2))] t.heap ∧ va_K (dC, dI) classes [(k_program_bodies, .int)] t ∧ va_D (va_A [(h_o, .inr (3, [.ref h_line, .ref h_factSets, .int v_markedPlus, .int v_markedMinus, .ref h_program, .ref h_deduction])), (h_program, .inr (2, [.ref h_program_bodies, .int v_program_count])), (h_program_bodies, .inl (k_program_bodies, 2, .inl v_program_bodies))] sz) [(h_o, .inr (3, [.ref h_line, .ref h_factSets, .int v_markedPlus, .int v_markedMinus, .ref h_program, .ref h_deduction])), (h_program, .inr (2, [.ref h_program_bodies, .int u.1])), (h_program_bodies, .inl (k_program_bodies, 2, .inl u.2))]) (va_A [(h_o, .inr (3, [.ref h_line, .ref h_factSets, .int v_markedPlus, .int v_markedMinus, .ref h_program, .ref h_deduction])), (h_program, .inr (2, [.ref h_program_bodies, .int v_program_count])), (h_program_bodies, .inl (k_program_bodies, 2, .inl v_program_bodies))] sz)) 0 0 (va_A [(h_o, .inr (3, [.ref h_line, .ref h_factSets, .int v_markedPlus, .int v_markedMinus, .ref h_program, .ref h_deduction])), (h_program, .inr (2, [.ref h_program_bodies, .int v_program_count])), (h_program_bodies, .inl (k_program_bodies, 2, .inl v_program_bodies))] sz) := by
  refine Met.ofW (cc := b_H_drop) (maxL := 2) (ret := (some .boolean)) (by decide) rfl ?_
  intro p e s m args below meth c s₁ B hml hv
  obtain ⟨rfl, hsz, hP, hK, hD0⟩ := hv
  have hx := B.exec
  have hb := B.bytes
  have hr := B.returns
  have hts0 := atoms_spec (ws := w_H_drop) B.pre
  have hts : ∀ w ∈ lw_gd, w.before ([.ref h_o, .int x1] : List Value).toArray s = true := fun w h9 => hts0 w (List.mem_cons_of_mem _ h9)
  have hown : s.vm.findClass R_H = some m.cls := findClass_of_methodNamed B.named
  have hlocks := B.notSynchronized
  subst hsz
  have hD := hD0.self (sz := s.heap.size)
  generalize hAe : va_A [(h_o, .inr (3, [.ref h_line, .ref h_factSets, .int v_markedPlus, .int v_markedMinus, .ref h_program, .ref h_deduction])), (h_program, .inr (2, [.ref h_program_bodies, .int v_program_count])), (h_program_bodies, .inl (k_program_bodies, 2, .inl v_program_bodies))] s.heap.size = A at hD ⊢
  have hA : ∀ q : Nat, s.heap.size ≤ q → A q := fun q h9 => by rw [← hAe]; exact Or.inr h9
  obtain ⟨H, eH⟩ : ∃ H : Heap, H = s.heap := ⟨_, rfl⟩
  have hS : va_S A s.heap H [] := by rw [eH]; exact va_S.rf
  have hP : va_P (dC, dI) classes [(h_o, .inr (3, [.ref h_line, .ref h_factSets, .int v_markedPlus, .int v_markedMinus, .ref h_program, .ref h_deduction])), (h_program, .inr (2, [.ref h_program_bodies, .int v_program_count])), (h_program_bodies, .inl (k_program_bodies, 2, .inl v_program_bodies))] H := by rw [eH]; exact hP
  refine W_gen (fun Q hQ => ?_)
  refine W_heap eH ?_
  clear eH
  have hl := lv_entry ([.ref h_o, .int x1]) (n := 2) (Nat.le_of_ble_eq_true rfl)
  rw [lg_entry_eq]
  generalize (lg_sl ([.ref h_o, .int x1]) ++ List.replicate (2 - (lg_sl ([.ref h_o, .int x1])).length) Slot.unset).toArray = ls at hl ⊢
  have hl : lv_has ls 2 [(0, .ref h_o), (1, .int x1)] := hl
  unfold m_H_drop at h
  refine lv_aload_n hx hb d_H_drop_0 rfl (lv_at hl 0 rfl) ?_
  refine va_get (D := (dC, dI)) (ci := 3) (v := .ref h_program) (C := R_H) (T := F_H) (N := 6) hx hb hts lay_H hown hK hP 0 rfl rfl 4 (by decide) (hts _ flk_H_30) (fun _ h9 => h9) rfl d_H_drop_1 ?_
  refine lv_iload_n hx hb d_H_drop_4 rfl (lv_at hl 1 rfl) ?_
  have hPc := hP.sub (ws' := [(h_program, .inr (2, [.ref h_program_bodies, .int v_program_count])), (h_program_bodies, .inl (k_program_bodies, 2, .inl v_program_bodies))]) [1, 2] rfl
  have hDc := hD.sub (ws' := [(h_program, .inr (2, [.ref h_program_bodies, .int v_program_count])), (h_program_bodies, .inl (k_program_bodies, 2, .inl v_program_bodies))]) [1, 2] (by decide) rfl
  have hKc := hK.sub (tys' := [(k_program_bodies, .int)]) [0] rfl
  have hFc := va_free (wc := [(h_program, .inr (2, [.ref h_program_bodies, .int v_program_count])), (h_program_bodies, .inl (k_program_bodies, 2, .inl v_program_bodies))]) hD hS hA [1, 2] rfl
  obtain ⟨v_5, hc_5, h⟩ := of_bind h
  refine va_calli (va_runV (As := [.int x1]) (rest := []) ⟨hx, hb, hml, hown, hts⟩ (c_P_remove l dC dI h_program h_program_bodies k_program_bodies H.size v_program_count v_program_bodies x1 v_5.1 v_5.2 hc_5) (cwV 1 hts (gV mlk_H_76 ins_P_remove sel_P_remove ini_P cod_P_remove) rfl rfl rfl (by decide +kernel) ⟨Nat.le_of_ble_eq_true rfl, Nat.le_of_ble_eq_true rfl⟩) ⟨fun a U g mk q => by obtain ⟨q0, q1, qP, qK, qD⟩ := q; exact ⟨q0, q1, qP, va_K.moved (u := U) (U := U.calling g mk a) (Vm.Alike.refl U.vm) qK, qD⟩, va_recv hKc hPc (ci := 2) (q0 := 0) rfl rfl, fun U hU hW => ⟨rfl, by rw [hU], by rw [hU]; exact hPc, va_K.moved hW.alike hKc, hDc.weaken (fun _ _ _ _ => trivial)⟩⟩ rfl rfl hl.1 rfl (lv_room (Nat.le_of_ble_eq_true rfl)) d_H_drop_5 ⟨Nat.le_of_ble_eq_true rfl, Nat.le_of_ble_eq_true rfl⟩) hS (fun q _ h9 => hFc q h9) hFc (fun r_5 u t H1 locs ht hvm hw hB hz1 hk1 hS => ?_)
  obtain ⟨rfl, rfl⟩ := hw
  obtain ⟨hP1, hK1, hD1⟩ := hB
  rw [ht] at hP1
  obtain ⟨hP, hD⟩ := va_join (wr := [(h_o, .inr (3, [.ref h_line, .ref h_factSets, .int v_markedPlus, .int v_markedMinus, .ref h_program, .ref h_deduction]))]) (w1 := [(h_program, .inr (2, [.ref h_program_bodies, .int v_5.2.1])), (h_program_bodies, .inl (k_program_bodies, 2, .inl v_5.2.2))]) hP hD [1, 2] [0] rfl rfl (by decide) (by decide) hk1 hFc hP1 hD1
  have hP := hP.sub (ws' := [(h_o, .inr (3, [.ref h_line, .ref h_factSets, .int v_markedPlus, .int v_markedMinus, .ref h_program, .ref h_deduction])), (h_program, .inr (2, [.ref h_program_bodies, .int v_5.2.1])), (h_program_bodies, .inl (k_program_bodies, 2, .inl v_5.2.2))]) [0, 1, 2] rfl
  have hD := hD.sub (ws' := [(h_o, .inr (3, [.ref h_line, .ref h_factSets, .int v_markedPlus, .int v_markedMinus, .ref h_program, .ref h_deduction])), (h_program, .inr (2, [.ref h_program_bodies, .int v_5.2.1])), (h_program_bodies, .inl (k_program_bodies, 2, .inl v_5.2.2))]) [0, 1, 2] (by decide) rfl
  generalize H1 = H at hP hS ⊢
  obtain ⟨g_8, h⟩ := of_guard h
  rw [hQ]
  exact W.zret (v := v_5.1) hx hb hr (nrz g_8) (fun t ht hW => ⟨⟨v_5.1, (v_5.2.1, v_5.2.2), rfl, Prod.mk.inj (Option.some.inj h), by rw [ht]; exact hP, va_K.moved hW.alike hK, hD⟩, hS.F ht⟩) hS.2.2 d_H_drop_8
set_option maxHeartbeats 1000000 in
set_option maxRecDepth 100000 in
theorem c_H_clauses (l : Launch) (dC : Nat → ClassId) (dI : Nat → Nat → Nat) (h_o h_line h_factSets h_program h_deduction h_program_bodies : Nat) (sz : Nat) (v_markedPlus : Int32) (v_markedMinus : Int32) (v_program_count : Int32) (r0 : Int32) (u0 : Unit) (h : m_H_clauses v_program_count = some (r0, u0)) : Met l y_H_clauses w_H_clauses ({ frames := 0, cells := 0, slots := 0, locals := 0 } : Room) (va_Pc [.ref h_o] (fun U => U.heap.size = sz ∧ va_P (dC, dI) classes [(h_o, .inr (3, [.ref h_line, .ref h_factSets, .int v_markedPlus, .int v_markedMinus, .ref h_program, .ref h_deduction])), (h_program, .inr (2, [.ref h_program_bodies, .int v_program_count]))] U.heap ∧ va_K (dC, dI) classes [] U ∧ va_D (fun _ => True) [(h_o, .inr (3, [.ref h_line, .ref h_factSets, .int v_markedPlus, .int v_markedMinus, .ref h_program, .ref h_deduction])), (h_program, .inr (2, [.ref h_program_bodies, .int v_program_count]))])) (va_Qi (fun (r : Int32) (u : Unit) => r = r0 ∧ u = u0) (fun (u : Unit) (t : State) => va_P (dC, dI) classes [(h_o, .inr (3, [.ref h_line, .ref h_factSets, .int v_markedPlus, .int v_markedMinus, .ref h_program, .ref h_deduction])), (h_program, .inr (2, [.ref h_program_bodies, .int v_program_count]))] t.heap ∧ va_K (dC, dI) classes [] t ∧ va_D (va_A [(h_o, .inr (3, [.ref h_line, .ref h_factSets, .int v_markedPlus, .int v_markedMinus, .ref h_program, .ref h_deduction])), (h_program, .inr (2, [.ref h_program_bodies, .int v_program_count]))] sz) [(h_o, .inr (3, [.ref h_line, .ref h_factSets, .int v_markedPlus, .int v_markedMinus, .ref h_program, .ref h_deduction])), (h_program, .inr (2, [.ref h_program_bodies, .int v_program_count]))]) (va_A [(h_o, .inr (3, [.ref h_line, .ref h_factSets, .int v_markedPlus, .int v_markedMinus, .ref h_program, .ref h_deduction])), (h_program, .inr (2, [.ref h_program_bodies, .int v_program_count]))] sz)) 0 0 (va_A [(h_o, .inr (3, [.ref h_line, .ref h_factSets, .int v_markedPlus, .int v_markedMinus, .ref h_program, .ref h_deduction])), (h_program, .inr (2, [.ref h_program_bodies, .int v_program_count]))] sz) := by
  refine Met.ofW (cc := b_H_clauses) (maxL := 1) (ret := (some .int)) (by decide) rfl ?_
  intro p e s m args below meth c s₁ B hml hv
  obtain ⟨rfl, hsz, hP, hK, hD0⟩ := hv
  have hx := B.exec
  have hb := B.bytes
  have hr := B.returns
  have hts0 := atoms_spec (ws := w_H_clauses) B.pre
  have hts : ∀ w ∈ lw_gd, w.before ([.ref h_o] : List Value).toArray s = true := fun w h9 => hts0 w (List.mem_cons_of_mem _ h9)
  have hown : s.vm.findClass R_H = some m.cls := findClass_of_methodNamed B.named
  have hlocks := B.notSynchronized
  subst hsz
  have hD := hD0.self (sz := s.heap.size)
  generalize hAe : va_A [(h_o, .inr (3, [.ref h_line, .ref h_factSets, .int v_markedPlus, .int v_markedMinus, .ref h_program, .ref h_deduction])), (h_program, .inr (2, [.ref h_program_bodies, .int v_program_count]))] s.heap.size = A at hD ⊢
  have hA : ∀ q : Nat, s.heap.size ≤ q → A q := fun q h9 => by rw [← hAe]; exact Or.inr h9
  obtain ⟨H, eH⟩ : ∃ H : Heap, H = s.heap := ⟨_, rfl⟩
  have hS : va_S A s.heap H [] := by rw [eH]; exact va_S.rf
  have hP : va_P (dC, dI) classes [(h_o, .inr (3, [.ref h_line, .ref h_factSets, .int v_markedPlus, .int v_markedMinus, .ref h_program, .ref h_deduction])), (h_program, .inr (2, [.ref h_program_bodies, .int v_program_count]))] H := by rw [eH]; exact hP
  refine W_gen (fun Q hQ => ?_)
  refine W_heap eH ?_
  clear eH
  have hl := lv_entry ([.ref h_o]) (n := 1) (Nat.le_of_ble_eq_true rfl)
  rw [lg_entry_eq]
  generalize (lg_sl ([.ref h_o]) ++ List.replicate (1 - (lg_sl ([.ref h_o])).length) Slot.unset).toArray = ls at hl ⊢
  have hl : lv_has ls 1 [(0, .ref h_o)] := hl
  unfold m_H_clauses at h
  refine lv_aload_n hx hb d_H_clauses_0 rfl (lv_at hl 0 rfl) ?_
  refine va_get (D := (dC, dI)) (ci := 3) (v := .ref h_program) (C := R_H) (T := F_H) (N := 6) hx hb hts lay_H hown hK hP 0 rfl rfl 4 (by decide) (hts _ flk_H_30) (fun _ h9 => h9) rfl d_H_clauses_1 ?_
  refine va_get (D := (dC, dI)) (ci := 2) (v := .int v_program_count) (C := R_P) (T := F_P) (N := 2) hx hb hts lay_P hown hK hP 1 rfl rfl 1 (by decide) (hts _ flk_H_79) (fun _ h9 => h9) rfl d_H_clauses_4 ?_
  rw [hQ]
  exact W.iret (v := v_program_count) hx hb hr (fun t ht hW => ⟨⟨v_program_count, (), rfl, Prod.mk.inj (Option.some.inj h), by rw [ht]; exact hP, va_K.moved hW.alike hK, hD⟩, hS.F ht⟩) hS.2.2 d_H_clauses_7
set_option maxHeartbeats 1000000 in
set_option maxRecDepth 100000 in
theorem c_H_literals (l : Launch) (dC : Nat → ClassId) (dI : Nat → Nat → Nat) (h_o h_line h_factSets h_program h_deduction h_program_bodies : Nat) (k_program_bodies : ClassId) (sz : Nat) (v_markedPlus : Int32) (v_markedMinus : Int32) (v_program_count : Int32) (v_program_bodies : Nat → Int32) (x1 : Int32) (r0 : Int32) (u0 : Unit) (h : m_H_literals v_program_count v_program_bodies x1 = some (r0, u0)) : Met l y_H_literals w_H_literals ({ frames := 1, cells := 0, slots := 0, locals := 21 } : Room) (va_Pc [.ref h_o, .int x1] (fun U => U.heap.size = sz ∧ va_P (dC, dI) classes [(h_o, .inr (3, [.ref h_line, .ref h_factSets, .int v_markedPlus, .int v_markedMinus, .ref h_program, .ref h_deduction])), (h_program, .inr (2, [.ref h_program_bodies, .int v_program_count])), (h_program_bodies, .inl (k_program_bodies, 2, .inl v_program_bodies))] U.heap ∧ va_K (dC, dI) classes [(k_program_bodies, .int)] U ∧ va_D (fun _ => True) [(h_o, .inr (3, [.ref h_line, .ref h_factSets, .int v_markedPlus, .int v_markedMinus, .ref h_program, .ref h_deduction])), (h_program, .inr (2, [.ref h_program_bodies, .int v_program_count])), (h_program_bodies, .inl (k_program_bodies, 2, .inl v_program_bodies))])) (va_Qi (fun (r : Int32) (u : Unit) => r = r0 ∧ u = u0) (fun (u : Unit) (t : State) => va_P (dC, dI) classes [(h_o, .inr (3, [.ref h_line, .ref h_factSets, .int v_markedPlus, .int v_markedMinus, .ref h_program, .ref h_deduction])), (h_program, .inr (2, [.ref h_program_bodies, .int v_program_count])), (h_program_bodies, .inl (k_program_bodies, 2, .inl v_program_bodies))] t.heap ∧ va_K (dC, dI) classes [(k_program_bodies, .int)] t ∧ va_D (va_A [(h_o, .inr (3, [.ref h_line, .ref h_factSets, .int v_markedPlus, .int v_markedMinus, .ref h_program, .ref h_deduction])), (h_program, .inr (2, [.ref h_program_bodies, .int v_program_count])), (h_program_bodies, .inl (k_program_bodies, 2, .inl v_program_bodies))] sz) [(h_o, .inr (3, [.ref h_line, .ref h_factSets, .int v_markedPlus, .int v_markedMinus, .ref h_program, .ref h_deduction])), (h_program, .inr (2, [.ref h_program_bodies, .int v_program_count])), (h_program_bodies, .inl (k_program_bodies, 2, .inl v_program_bodies))]) (va_A [(h_o, .inr (3, [.ref h_line, .ref h_factSets, .int v_markedPlus, .int v_markedMinus, .ref h_program, .ref h_deduction])), (h_program, .inr (2, [.ref h_program_bodies, .int v_program_count])), (h_program_bodies, .inl (k_program_bodies, 2, .inl v_program_bodies))] sz)) 0 0 (va_A [(h_o, .inr (3, [.ref h_line, .ref h_factSets, .int v_markedPlus, .int v_markedMinus, .ref h_program, .ref h_deduction])), (h_program, .inr (2, [.ref h_program_bodies, .int v_program_count])), (h_program_bodies, .inl (k_program_bodies, 2, .inl v_program_bodies))] sz) := by
  refine Met.ofW (cc := b_H_literals) (maxL := 3) (ret := (some .int)) (by decide) rfl ?_
  intro p e s m args below meth c s₁ B hml hv
  obtain ⟨rfl, hsz, hP, hK, hD0⟩ := hv
  have hx := B.exec
  have hb := B.bytes
  have hr := B.returns
  have hts0 := atoms_spec (ws := w_H_literals) B.pre
  have hts : ∀ w ∈ lw_gd, w.before ([.ref h_o, .int x1] : List Value).toArray s = true := fun w h9 => hts0 w (List.mem_cons_of_mem _ h9)
  have hown : s.vm.findClass R_H = some m.cls := findClass_of_methodNamed B.named
  have hlocks := B.notSynchronized
  subst hsz
  have hD := hD0.self (sz := s.heap.size)
  generalize hAe : va_A [(h_o, .inr (3, [.ref h_line, .ref h_factSets, .int v_markedPlus, .int v_markedMinus, .ref h_program, .ref h_deduction])), (h_program, .inr (2, [.ref h_program_bodies, .int v_program_count])), (h_program_bodies, .inl (k_program_bodies, 2, .inl v_program_bodies))] s.heap.size = A at hD ⊢
  have hA : ∀ q : Nat, s.heap.size ≤ q → A q := fun q h9 => by rw [← hAe]; exact Or.inr h9
  obtain ⟨H, eH⟩ : ∃ H : Heap, H = s.heap := ⟨_, rfl⟩
  have hS : va_S A s.heap H [] := by rw [eH]; exact va_S.rf
  have hP : va_P (dC, dI) classes [(h_o, .inr (3, [.ref h_line, .ref h_factSets, .int v_markedPlus, .int v_markedMinus, .ref h_program, .ref h_deduction])), (h_program, .inr (2, [.ref h_program_bodies, .int v_program_count])), (h_program_bodies, .inl (k_program_bodies, 2, .inl v_program_bodies))] H := by rw [eH]; exact hP
  refine W_gen (fun Q hQ => ?_)
  refine W_heap eH ?_
  clear eH
  have hl := lv_entry ([.ref h_o, .int x1]) (n := 3) (Nat.le_of_ble_eq_true rfl)
  rw [lg_entry_eq]
  generalize (lg_sl ([.ref h_o, .int x1]) ++ List.replicate (3 - (lg_sl ([.ref h_o, .int x1])).length) Slot.unset).toArray = ls at hl ⊢
  have hl : lv_has ls 3 [(0, .ref h_o), (1, .int x1)] := hl
  unfold m_H_literals at h
  refine lv_aload_n hx hb d_H_literals_0 rfl (lv_at hl 0 rfl) ?_
  refine va_get (D := (dC, dI)) (ci := 3) (v := .ref h_program) (C := R_H) (T := F_H) (N := 6) hx hb hts lay_H hown hK hP 0 rfl rfl 4 (by decide) (hts _ flk_H_30) (fun _ h9 => h9) rfl d_H_literals_1 ?_
  refine lv_iload_n hx hb d_H_literals_4 rfl (lv_at hl 1 rfl) ?_
  have hPc := hP.sub (ws' := [(h_program, .inr (2, [.ref h_program_bodies, .int v_program_count])), (h_program_bodies, .inl (k_program_bodies, 2, .inl v_program_bodies))]) [1, 2] rfl
  have hDc := hD.sub (ws' := [(h_program, .inr (2, [.ref h_program_bodies, .int v_program_count])), (h_program_bodies, .inl (k_program_bodies, 2, .inl v_program_bodies))]) [1, 2] (by decide) rfl
  have hKc := hK.sub (tys' := [(k_program_bodies, .int)]) [0] rfl
  have hFc := va_free (wc := [(h_program, .inr (2, [.ref h_program_bodies, .int v_program_count])), (h_program_bodies, .inl (k_program_bodies, 2, .inl v_program_bodies))]) hD hS hA [1, 2] rfl
  obtain ⟨v_5, hc_5, h⟩ := of_bind h
  refine va_calli (va_runV (As := [.int x1]) (rest := []) ⟨hx, hb, hml, hown, hts⟩ (c_P_bodyOf l dC dI h_program h_program_bodies k_program_bodies H.size v_program_count v_program_bodies x1 v_5.1 v_5.2 hc_5) (cwV 1 hts (gV mlk_H_82 ins_P_bodyOf sel_P_bodyOf ini_P cod_P_bodyOf) rfl rfl rfl (by decide +kernel) ⟨Nat.le_of_ble_eq_true rfl, Nat.le_of_ble_eq_true rfl⟩) ⟨fun a U g mk q => by obtain ⟨q0, q1, qP, qK, qD⟩ := q; exact ⟨q0, q1, qP, va_K.moved (u := U) (U := U.calling g mk a) (Vm.Alike.refl U.vm) qK, qD⟩, va_recv hKc hPc (ci := 2) (q0 := 0) rfl rfl, fun U hU hW => ⟨rfl, by rw [hU], by rw [hU]; exact hPc, va_K.moved hW.alike hKc, hDc.weaken (fun _ _ _ _ => trivial)⟩⟩ rfl rfl hl.1 rfl (lv_room (Nat.le_of_ble_eq_true rfl)) d_H_literals_5 ⟨Nat.le_of_ble_eq_true rfl, Nat.le_of_ble_eq_true rfl⟩) hS (fun q _ h9 => hFc q h9) hFc (fun r_5 u t H1 locs ht hvm hw hB hz1 hk1 hS => ?_)
  obtain ⟨rfl, rfl⟩ := hw
  obtain ⟨hP1, hK1, hD1⟩ := hB
  rw [ht] at hP1
  obtain ⟨hP, hD⟩ := va_join (wr := [(h_o, .inr (3, [.ref h_line, .ref h_factSets, .int v_markedPlus, .int v_markedMinus, .ref h_program, .ref h_deduction]))]) (w1 := [(h_program, .inr (2, [.ref h_program_bodies, .int v_program_count])), (h_program_bodies, .inl (k_program_bodies, 2, .inl v_program_bodies))]) hP hD [1, 2] [0] rfl rfl (by decide) (by decide) hk1 hFc hP1 hD1
  have hP := hP.sub (ws' := [(h_o, .inr (3, [.ref h_line, .ref h_factSets, .int v_markedPlus, .int v_markedMinus, .ref h_program, .ref h_deduction])), (h_program, .inr (2, [.ref h_program_bodies, .int v_program_count])), (h_program_bodies, .inl (k_program_bodies, 2, .inl v_program_bodies))]) [0, 1, 2] rfl
  have hD := hD.sub (ws' := [(h_o, .inr (3, [.ref h_line, .ref h_factSets, .int v_markedPlus, .int v_markedMinus, .ref h_program, .ref h_deduction])), (h_program, .inr (2, [.ref h_program_bodies, .int v_program_count])), (h_program_bodies, .inl (k_program_bodies, 2, .inl v_program_bodies))]) [0, 1, 2] (by decide) rfl
  generalize H1 = H at hP hS ⊢
  refine lv_istore_n (lv' := [(2, .int v_5.1), (0, .ref h_o), (1, .int x1)]) hx hb d_H_literals_8 rfl hl (by decide) rfl (fun ls hl => ?_)
  refine lv_iload_n hx hb d_H_literals_9 rfl (lv_at hl 0 rfl) ?_
  refine lv_if_ne (tgt := 17) hx hb d_H_literals_10 (by decide) (fun c_10 => ?_) (fun c_10 => ?_)
  · have h := of_neg h c_10
    refine lv_iload_n hx hb d_H_literals_17 rfl (lv_at hl 0 rfl) ?_
    have hPc := hP.sub (ws' := []) [] rfl
    have hDc := hD.sub (ws' := []) [] (by decide) rfl
    have hKc := hK.sub (tys' := []) [] rfl
    have hFc := va_free (wc := []) hD hS hA [] rfl
    obtain ⟨v_18, hc_18, h⟩ := of_bind h
    refine va_calli (va_runS (As := [.int v_5.1]) (rest := []) ⟨hx, hb, hml, hown, hts⟩ (c_I_bitCount l dC dI H.size v_5.1 v_18.1 v_18.2 hc_18) (va_cwS 1 hts (gS mlk_H_66 sta_I_bitCount ini_I cod_I_bitCount) rfl rfl rfl (by decide +kernel) ⟨Nat.le_of_ble_eq_true rfl, Nat.le_of_ble_eq_true rfl⟩) ⟨fun a U g mk q => by obtain ⟨q0, q1, qP, qK, qD⟩ := q; exact ⟨q0, q1, qP, va_K.moved (u := U) (U := U.calling g mk a) (Vm.Alike.refl U.vm) qK, qD⟩, fun U hU hW => ⟨rfl, by rw [hU], by rw [hU]; exact hPc, va_K.moved hW.alike hKc, hDc.weaken (fun _ _ _ _ => trivial)⟩⟩ rfl rfl hl.1 rfl (lv_room (Nat.le_of_ble_eq_true rfl)) d_H_literals_18 ⟨Nat.le_of_ble_eq_true rfl, Nat.le_of_ble_eq_true rfl⟩) hS (fun q _ h9 => hFc q h9) hFc (fun r_18 u t H1 locs ht hvm hw hB hz1 hk1 hS => ?_)
    obtain ⟨rfl, rfl⟩ := hw
    obtain ⟨hP1, hK1, hD1⟩ := hB
    rw [ht] at hP1
    obtain ⟨hP, hD⟩ := va_join (wr := [(h_o, .inr (3, [.ref h_line, .ref h_factSets, .int v_markedPlus, .int v_markedMinus, .ref h_program, .ref h_deduction])), (h_program, .inr (2, [.ref h_program_bodies, .int v_program_count])), (h_program_bodies, .inl (k_program_bodies, 2, .inl v_program_bodies))]) (w1 := []) hP hD [] [0, 1, 2] rfl rfl (by decide) (by decide) hk1 hFc hP1 hD1
    have hP := hP.sub (ws' := [(h_o, .inr (3, [.ref h_line, .ref h_factSets, .int v_markedPlus, .int v_markedMinus, .ref h_program, .ref h_deduction])), (h_program, .inr (2, [.ref h_program_bodies, .int v_program_count])), (h_program_bodies, .inl (k_program_bodies, 2, .inl v_program_bodies))]) [0, 1, 2] rfl
    have hD := hD.sub (ws' := [(h_o, .inr (3, [.ref h_line, .ref h_factSets, .int v_markedPlus, .int v_markedMinus, .ref h_program, .ref h_deduction])), (h_program, .inr (2, [.ref h_program_bodies, .int v_program_count])), (h_program_bodies, .inl (k_program_bodies, 2, .inl v_program_bodies))]) [0, 1, 2] (by decide) rfl
    generalize H1 = H at hP hS ⊢
    rw [hQ]
    exact W.iret (v := v_18.1) hx hb hr (fun t ht hW => ⟨⟨v_18.1, (), rfl, Prod.mk.inj (Option.some.inj h), by rw [ht]; exact hP, va_K.moved hW.alike hK, hD⟩, hS.F ht⟩) hS.2.2 d_H_literals_21
  · have h := of_pos h c_10
    refine lv_iconst (v := (-1 : Int32)) hx hb d_H_literals_13 (by decide) ?_
    refine lv_goto (tgt := 21) hx hb d_H_literals_14 (by decide) ?_
    rw [hQ]
    exact W.iret (v := (-1 : Int32)) hx hb hr (fun t ht hW => ⟨⟨(-1 : Int32), (), rfl, Prod.mk.inj (Option.some.inj h), by rw [ht]; exact hP, va_K.moved hW.alike hK, hD⟩, hS.F ht⟩) hS.2.2 d_H_literals_21
set_option maxHeartbeats 1000000 in
set_option maxRecDepth 100000 in
theorem c_H_literal (l : Launch) (dC : Nat → ClassId) (dI : Nat → Nat → Nat) (h_o h_line h_factSets h_program h_deduction h_program_bodies : Nat) (k_program_bodies : ClassId) (sz : Nat) (v_markedPlus : Int32) (v_markedMinus : Int32) (v_program_count : Int32) (v_program_bodies : Nat → Int32) (x1 : Int32) (x2 : Int32) (r0 : Int32) (u0 : Unit) (h : m_H_literal v_program_count v_program_bodies x1 x2 = some (r0, u0)) : Met l y_H_literal w_H_literal ({ frames := 3, cells := 0, slots := 0, locals := 63 } : Room) (va_Pc [.ref h_o, .int x1, .int x2] (fun U => U.heap.size = sz ∧ va_P (dC, dI) classes [(h_o, .inr (3, [.ref h_line, .ref h_factSets, .int v_markedPlus, .int v_markedMinus, .ref h_program, .ref h_deduction])), (h_program, .inr (2, [.ref h_program_bodies, .int v_program_count])), (h_program_bodies, .inl (k_program_bodies, 2, .inl v_program_bodies))] U.heap ∧ va_K (dC, dI) classes [(k_program_bodies, .int)] U ∧ va_D (fun _ => True) [(h_o, .inr (3, [.ref h_line, .ref h_factSets, .int v_markedPlus, .int v_markedMinus, .ref h_program, .ref h_deduction])), (h_program, .inr (2, [.ref h_program_bodies, .int v_program_count])), (h_program_bodies, .inl (k_program_bodies, 2, .inl v_program_bodies))])) (va_Qi (fun (r : Int32) (u : Unit) => r = r0 ∧ u = u0) (fun (u : Unit) (t : State) => va_P (dC, dI) classes [(h_o, .inr (3, [.ref h_line, .ref h_factSets, .int v_markedPlus, .int v_markedMinus, .ref h_program, .ref h_deduction])), (h_program, .inr (2, [.ref h_program_bodies, .int v_program_count])), (h_program_bodies, .inl (k_program_bodies, 2, .inl v_program_bodies))] t.heap ∧ va_K (dC, dI) classes [(k_program_bodies, .int)] t ∧ va_D (va_A [(h_o, .inr (3, [.ref h_line, .ref h_factSets, .int v_markedPlus, .int v_markedMinus, .ref h_program, .ref h_deduction])), (h_program, .inr (2, [.ref h_program_bodies, .int v_program_count])), (h_program_bodies, .inl (k_program_bodies, 2, .inl v_program_bodies))] sz) [(h_o, .inr (3, [.ref h_line, .ref h_factSets, .int v_markedPlus, .int v_markedMinus, .ref h_program, .ref h_deduction])), (h_program, .inr (2, [.ref h_program_bodies, .int v_program_count])), (h_program_bodies, .inl (k_program_bodies, 2, .inl v_program_bodies))]) (va_A [(h_o, .inr (3, [.ref h_line, .ref h_factSets, .int v_markedPlus, .int v_markedMinus, .ref h_program, .ref h_deduction])), (h_program, .inr (2, [.ref h_program_bodies, .int v_program_count])), (h_program_bodies, .inl (k_program_bodies, 2, .inl v_program_bodies))] sz)) 0 0 (va_A [(h_o, .inr (3, [.ref h_line, .ref h_factSets, .int v_markedPlus, .int v_markedMinus, .ref h_program, .ref h_deduction])), (h_program, .inr (2, [.ref h_program_bodies, .int v_program_count])), (h_program_bodies, .inl (k_program_bodies, 2, .inl v_program_bodies))] sz) := by
  refine Met.ofW (cc := b_H_literal) (maxL := 3) (ret := (some .int)) (by decide) rfl ?_
  intro p e s m args below meth c s₁ B hml hv
  obtain ⟨rfl, hsz, hP, hK, hD0⟩ := hv
  have hx := B.exec
  have hb := B.bytes
  have hr := B.returns
  have hts0 := atoms_spec (ws := w_H_literal) B.pre
  have hts : ∀ w ∈ lw_gd, w.before ([.ref h_o, .int x1, .int x2] : List Value).toArray s = true := fun w h9 => hts0 w (List.mem_cons_of_mem _ h9)
  have hown : s.vm.findClass R_H = some m.cls := findClass_of_methodNamed B.named
  have hlocks := B.notSynchronized
  subst hsz
  have hD := hD0.self (sz := s.heap.size)
  generalize hAe : va_A [(h_o, .inr (3, [.ref h_line, .ref h_factSets, .int v_markedPlus, .int v_markedMinus, .ref h_program, .ref h_deduction])), (h_program, .inr (2, [.ref h_program_bodies, .int v_program_count])), (h_program_bodies, .inl (k_program_bodies, 2, .inl v_program_bodies))] s.heap.size = A at hD ⊢
  have hA : ∀ q : Nat, s.heap.size ≤ q → A q := fun q h9 => by rw [← hAe]; exact Or.inr h9
  obtain ⟨H, eH⟩ : ∃ H : Heap, H = s.heap := ⟨_, rfl⟩
  have hS : va_S A s.heap H [] := by rw [eH]; exact va_S.rf
  have hP : va_P (dC, dI) classes [(h_o, .inr (3, [.ref h_line, .ref h_factSets, .int v_markedPlus, .int v_markedMinus, .ref h_program, .ref h_deduction])), (h_program, .inr (2, [.ref h_program_bodies, .int v_program_count])), (h_program_bodies, .inl (k_program_bodies, 2, .inl v_program_bodies))] H := by rw [eH]; exact hP
  refine W_gen (fun Q hQ => ?_)
  refine W_heap eH ?_
  clear eH
  have hl := lv_entry ([.ref h_o, .int x1, .int x2]) (n := 3) (Nat.le_of_ble_eq_true rfl)
  rw [lg_entry_eq]
  generalize (lg_sl ([.ref h_o, .int x1, .int x2]) ++ List.replicate (3 - (lg_sl ([.ref h_o, .int x1, .int x2])).length) Slot.unset).toArray = ls at hl ⊢
  have hl : lv_has ls 3 [(0, .ref h_o), (1, .int x1), (2, .int x2)] := hl
  unfold m_H_literal at h
  refine lv_aload_n hx hb d_H_literal_0 rfl (lv_at hl 0 rfl) ?_
  refine va_get (D := (dC, dI)) (ci := 3) (v := .ref h_program) (C := R_H) (T := F_H) (N := 6) hx hb hts lay_H hown hK hP 0 rfl rfl 4 (by decide) (hts _ flk_H_30) (fun _ h9 => h9) rfl d_H_literal_1 ?_
  refine lv_iload_n hx hb d_H_literal_4 rfl (lv_at hl 1 rfl) ?_
  have hPc := hP.sub (ws' := [(h_program, .inr (2, [.ref h_program_bodies, .int v_program_count])), (h_program_bodies, .inl (k_program_bodies, 2, .inl v_program_bodies))]) [1, 2] rfl
  have hDc := hD.sub (ws' := [(h_program, .inr (2, [.ref h_program_bodies, .int v_program_count])), (h_program_bodies, .inl (k_program_bodies, 2, .inl v_program_bodies))]) [1, 2] (by decide) rfl
  have hKc := hK.sub (tys' := [(k_program_bodies, .int)]) [0] rfl
  have hFc := va_free (wc := [(h_program, .inr (2, [.ref h_program_bodies, .int v_program_count])), (h_program_bodies, .inl (k_program_bodies, 2, .inl v_program_bodies))]) hD hS hA [1, 2] rfl
  obtain ⟨v_5, hc_5, h⟩ := of_bind h
  refine va_calli (va_runV (As := [.int x1]) (rest := []) ⟨hx, hb, hml, hown, hts⟩ (c_P_bodyOf l dC dI h_program h_program_bodies k_program_bodies H.size v_program_count v_program_bodies x1 v_5.1 v_5.2 hc_5) (cwV 1 hts (gV mlk_H_82 ins_P_bodyOf sel_P_bodyOf ini_P cod_P_bodyOf) rfl rfl rfl (by decide +kernel) ⟨Nat.le_of_ble_eq_true rfl, Nat.le_of_ble_eq_true rfl⟩) ⟨fun a U g mk q => by obtain ⟨q0, q1, qP, qK, qD⟩ := q; exact ⟨q0, q1, qP, va_K.moved (u := U) (U := U.calling g mk a) (Vm.Alike.refl U.vm) qK, qD⟩, va_recv hKc hPc (ci := 2) (q0 := 0) rfl rfl, fun U hU hW => ⟨rfl, by rw [hU], by rw [hU]; exact hPc, va_K.moved hW.alike hKc, hDc.weaken (fun _ _ _ _ => trivial)⟩⟩ rfl rfl hl.1 rfl (lv_room (Nat.le_of_ble_eq_true rfl)) d_H_literal_5 ⟨Nat.le_of_ble_eq_true rfl, Nat.le_of_ble_eq_true rfl⟩) hS (fun q _ h9 => hFc q h9) hFc (fun r_5 u t H1 locs ht hvm hw hB hz1 hk1 hS => ?_)
  obtain ⟨rfl, rfl⟩ := hw
  obtain ⟨hP1, hK1, hD1⟩ := hB
  rw [ht] at hP1
  obtain ⟨hP, hD⟩ := va_join (wr := [(h_o, .inr (3, [.ref h_line, .ref h_factSets, .int v_markedPlus, .int v_markedMinus, .ref h_program, .ref h_deduction]))]) (w1 := [(h_program, .inr (2, [.ref h_program_bodies, .int v_program_count])), (h_program_bodies, .inl (k_program_bodies, 2, .inl v_program_bodies))]) hP hD [1, 2] [0] rfl rfl (by decide) (by decide) hk1 hFc hP1 hD1
  have hP := hP.sub (ws' := [(h_o, .inr (3, [.ref h_line, .ref h_factSets, .int v_markedPlus, .int v_markedMinus, .ref h_program, .ref h_deduction])), (h_program, .inr (2, [.ref h_program_bodies, .int v_program_count])), (h_program_bodies, .inl (k_program_bodies, 2, .inl v_program_bodies))]) [0, 1, 2] rfl
  have hD := hD.sub (ws' := [(h_o, .inr (3, [.ref h_line, .ref h_factSets, .int v_markedPlus, .int v_markedMinus, .ref h_program, .ref h_deduction])), (h_program, .inr (2, [.ref h_program_bodies, .int v_program_count])), (h_program_bodies, .inl (k_program_bodies, 2, .inl v_program_bodies))]) [0, 1, 2] (by decide) rfl
  generalize H1 = H at hP hS ⊢
  refine lv_iload_n hx hb d_H_literal_8 rfl (lv_at hl 2 rfl) ?_
  have hPc := hP.sub (ws' := []) [] rfl
  have hDc := hD.sub (ws' := []) [] (by decide) rfl
  have hKc := hK.sub (tys' := []) [] rfl
  have hFc := va_free (wc := []) hD hS hA [] rfl
  obtain ⟨v_9, hc_9, h⟩ := of_bind h
  refine va_calli (va_runS (As := [.int v_5.1, .int x2]) (rest := []) ⟨hx, hb, hml, hown, hts⟩ (c_H_codeAt l dC dI H.size v_5.1 x2 v_9.1 v_9.2 hc_9) (va_cwS 2 hts (gS mlk_H_85 sta_H_codeAt ini_H cod_H_codeAt) rfl rfl rfl (by decide +kernel) ⟨Nat.le_of_ble_eq_true rfl, Nat.le_of_ble_eq_true rfl⟩) ⟨fun a U g mk q => by obtain ⟨q0, q1, qP, qK, qD⟩ := q; exact ⟨q0, q1, qP, va_K.moved (u := U) (U := U.calling g mk a) (Vm.Alike.refl U.vm) qK, qD⟩, fun U hU hW => ⟨rfl, by rw [hU], by rw [hU]; exact hPc, va_K.moved hW.alike hKc, hDc.weaken (fun _ _ _ _ => trivial)⟩⟩ rfl rfl hl.1 rfl (lv_room (Nat.le_of_ble_eq_true rfl)) d_H_literal_9 ⟨Nat.le_of_ble_eq_true rfl, Nat.le_of_ble_eq_true rfl⟩) hS (fun q _ h9 => hFc q h9) hFc (fun r_9 u t H1 locs ht hvm hw hB hz1 hk1 hS => ?_)
  obtain ⟨rfl, rfl⟩ := hw
  obtain ⟨hP1, hK1, hD1⟩ := hB
  rw [ht] at hP1
  obtain ⟨hP, hD⟩ := va_join (wr := [(h_o, .inr (3, [.ref h_line, .ref h_factSets, .int v_markedPlus, .int v_markedMinus, .ref h_program, .ref h_deduction])), (h_program, .inr (2, [.ref h_program_bodies, .int v_program_count])), (h_program_bodies, .inl (k_program_bodies, 2, .inl v_program_bodies))]) (w1 := []) hP hD [] [0, 1, 2] rfl rfl (by decide) (by decide) hk1 hFc hP1 hD1
  have hP := hP.sub (ws' := [(h_o, .inr (3, [.ref h_line, .ref h_factSets, .int v_markedPlus, .int v_markedMinus, .ref h_program, .ref h_deduction])), (h_program, .inr (2, [.ref h_program_bodies, .int v_program_count])), (h_program_bodies, .inl (k_program_bodies, 2, .inl v_program_bodies))]) [0, 1, 2] rfl
  have hD := hD.sub (ws' := [(h_o, .inr (3, [.ref h_line, .ref h_factSets, .int v_markedPlus, .int v_markedMinus, .ref h_program, .ref h_deduction])), (h_program, .inr (2, [.ref h_program_bodies, .int v_program_count])), (h_program_bodies, .inl (k_program_bodies, 2, .inl v_program_bodies))]) [0, 1, 2] (by decide) rfl
  generalize H1 = H at hP hS ⊢
  rw [hQ]
  exact W.iret (v := v_9.1) hx hb hr (fun t ht hW => ⟨⟨v_9.1, (), rfl, Prod.mk.inj (Option.some.inj h), by rw [ht]; exact hP, va_K.moved hW.alike hK, hD⟩, hS.F ht⟩) hS.2.2 d_H_literal_12
set_option maxHeartbeats 1000000 in
set_option maxRecDepth 100000 in
theorem c_H_letter (l : Launch) (dC : Nat → ClassId) (dI : Nat → Nat → Nat) (h_o h_line h_factSets h_program h_deduction h_program_bodies : Nat) (k_program_bodies : ClassId) (tb : Nat) (ak av : Nat → Nat) (sz : Nat) (v_markedPlus : Int32) (v_markedMinus : Int32) (v_program_count : Int32) (v_program_bodies : Nat → Int32) (x1 : Int32) (r0 : Int32) (u0 : Unit) (h : m_H_letter v_program_count v_program_bodies x1 = some (r0, u0)) : Met l y_H_letter w_H_letter ({ frames := 6, cells := 0, slots := 0, locals := 131 } : Room) (va_Pc [.ref h_o, .int x1] (fun U => U.heap.size = sz ∧ va_P (dC, dI) classes [(h_o, .inr (3, [.ref h_line, .ref h_factSets, .int v_markedPlus, .int v_markedMinus, .ref h_program, .ref h_deduction])), (h_program, .inr (2, [.ref h_program_bodies, .int v_program_count])), (h_program_bodies, .inl (k_program_bodies, 2, .inl v_program_bodies))] U.heap ∧ va_K (dC, dI) classes [(k_program_bodies, .int)] U ∧ va_D (fun _ => True) [(h_o, .inr (3, [.ref h_line, .ref h_factSets, .int v_markedPlus, .int v_markedMinus, .ref h_program, .ref h_deduction])), (h_program, .inr (2, [.ref h_program_bodies, .int v_program_count])), (h_program_bodies, .inl (k_program_bodies, 2, .inl v_program_bodies))] ∧ kw tb ak av (va_A [(h_o, .inr (3, [.ref h_line, .ref h_factSets, .int v_markedPlus, .int v_markedMinus, .ref h_program, .ref h_deduction])), (h_program, .inr (2, [.ref h_program_bodies, .int v_program_count])), (h_program_bodies, .inl (k_program_bodies, 2, .inl v_program_bodies))] sz) U)) (va_Qi (fun (r : Int32) (u : Unit) => r = r0 ∧ u = u0) (fun (u : Unit) (t : State) => va_P (dC, dI) classes [(h_o, .inr (3, [.ref h_line, .ref h_factSets, .int v_markedPlus, .int v_markedMinus, .ref h_program, .ref h_deduction])), (h_program, .inr (2, [.ref h_program_bodies, .int v_program_count])), (h_program_bodies, .inl (k_program_bodies, 2, .inl v_program_bodies))] t.heap ∧ va_K (dC, dI) classes [(k_program_bodies, .int)] t ∧ va_D (va_A [(h_o, .inr (3, [.ref h_line, .ref h_factSets, .int v_markedPlus, .int v_markedMinus, .ref h_program, .ref h_deduction])), (h_program, .inr (2, [.ref h_program_bodies, .int v_program_count])), (h_program_bodies, .inl (k_program_bodies, 2, .inl v_program_bodies))] sz) [(h_o, .inr (3, [.ref h_line, .ref h_factSets, .int v_markedPlus, .int v_markedMinus, .ref h_program, .ref h_deduction])), (h_program, .inr (2, [.ref h_program_bodies, .int v_program_count])), (h_program_bodies, .inl (k_program_bodies, 2, .inl v_program_bodies))]) (va_A [(h_o, .inr (3, [.ref h_line, .ref h_factSets, .int v_markedPlus, .int v_markedMinus, .ref h_program, .ref h_deduction])), (h_program, .inr (2, [.ref h_program_bodies, .int v_program_count])), (h_program_bodies, .inl (k_program_bodies, 2, .inl v_program_bodies))] sz)) 0 0 (va_A [(h_o, .inr (3, [.ref h_line, .ref h_factSets, .int v_markedPlus, .int v_markedMinus, .ref h_program, .ref h_deduction])), (h_program, .inr (2, [.ref h_program_bodies, .int v_program_count])), (h_program_bodies, .inl (k_program_bodies, 2, .inl v_program_bodies))] sz) := by
  refine Met.ofW (cc := b_H_letter) (maxL := 2) (ret := (some .int)) (by decide) rfl ?_
  intro p e s m args below meth c s₁ B hml hv
  obtain ⟨rfl, hsz, hP, hK, hD0, hC⟩ := hv
  have hx := B.exec
  have hb := B.bytes
  have hr := B.returns
  have hts0 := atoms_spec (ws := w_H_letter) B.pre
  have hts : ∀ w ∈ lw_gd, w.before ([.ref h_o, .int x1] : List Value).toArray s = true := fun w h9 => hts0 w (List.mem_cons_of_mem _ h9)
  have hown : s.vm.findClass R_H = some m.cls := findClass_of_methodNamed B.named
  have hlocks := B.notSynchronized
  subst hsz
  have hD := hD0.self (sz := s.heap.size)
  generalize hAe : va_A [(h_o, .inr (3, [.ref h_line, .ref h_factSets, .int v_markedPlus, .int v_markedMinus, .ref h_program, .ref h_deduction])), (h_program, .inr (2, [.ref h_program_bodies, .int v_program_count])), (h_program_bodies, .inl (k_program_bodies, 2, .inl v_program_bodies))] s.heap.size = A at hD hC ⊢
  have hA : ∀ q : Nat, s.heap.size ≤ q → A q := fun q h9 => by rw [← hAe]; exact Or.inr h9
  obtain ⟨H, eH⟩ : ∃ H : Heap, H = s.heap := ⟨_, rfl⟩
  have hS : va_S A s.heap H [] := by rw [eH]; exact va_S.rf
  have hP : va_P (dC, dI) classes [(h_o, .inr (3, [.ref h_line, .ref h_factSets, .int v_markedPlus, .int v_markedMinus, .ref h_program, .ref h_deduction])), (h_program, .inr (2, [.ref h_program_bodies, .int v_program_count])), (h_program_bodies, .inl (k_program_bodies, 2, .inl v_program_bodies))] H := by rw [eH]; exact hP
  refine W_gen (fun Q hQ => ?_)
  refine W_heap eH ?_
  clear eH
  have hl := lv_entry ([.ref h_o, .int x1]) (n := 2) (Nat.le_of_ble_eq_true rfl)
  rw [lg_entry_eq]
  generalize (lg_sl ([.ref h_o, .int x1]) ++ List.replicate (2 - (lg_sl ([.ref h_o, .int x1])).length) Slot.unset).toArray = ls at hl ⊢
  have hl : lv_has ls 2 [(0, .ref h_o), (1, .int x1)] := hl
  unfold m_H_letter at h
  refine lv_aload_n hx hb d_H_letter_0 rfl (lv_at hl 0 rfl) ?_
  refine va_get (D := (dC, dI)) (ci := 3) (v := .ref h_program) (C := R_H) (T := F_H) (N := 6) hx hb hts lay_H hown hK hP 0 rfl rfl 4 (by decide) (hts _ flk_H_30) (fun _ h9 => h9) rfl d_H_letter_1 ?_
  refine lv_iload_n hx hb d_H_letter_4 rfl (lv_at hl 1 rfl) ?_
  have hPc := hP.sub (ws' := [(h_program, .inr (2, [.ref h_program_bodies, .int v_program_count])), (h_program_bodies, .inl (k_program_bodies, 2, .inl v_program_bodies))]) [1, 2] rfl
  have hDc := hD.sub (ws' := [(h_program, .inr (2, [.ref h_program_bodies, .int v_program_count])), (h_program_bodies, .inl (k_program_bodies, 2, .inl v_program_bodies))]) [1, 2] (by decide) rfl
  have hKc := hK.sub (tys' := [(k_program_bodies, .int)]) [0] rfl
  have hFc := va_free (wc := [(h_program, .inr (2, [.ref h_program_bodies, .int v_program_count])), (h_program_bodies, .inl (k_program_bodies, 2, .inl v_program_bodies))]) hD hS hA [1, 2] rfl
  obtain ⟨v_5, hc_5, h⟩ := of_bind h
  refine va_calli (va_runV (As := [.int x1]) (rest := []) ⟨hx, hb, hml, hown, hts⟩ (c_P_letterAt l dC dI h_program h_program_bodies k_program_bodies tb ak av H.size v_program_count v_program_bodies x1 v_5.1 v_5.2 hc_5) (cwV 1 hts (gV mlk_H_88 ins_P_letterAt sel_P_letterAt ini_P cod_P_letterAt) rfl rfl rfl (by decide +kernel) ⟨Nat.le_of_ble_eq_true rfl, Nat.le_of_ble_eq_true rfl⟩) ⟨fun a U g mk q => by obtain ⟨q0, q1, qP, qK, qD, qC⟩ := q; exact ⟨q0, q1, qP, va_K.moved (u := U) (U := U.calling g mk a) (Vm.Alike.refl U.vm) qK, qD, kw_blind qC⟩, va_recv hKc hPc (ci := 2) (q0 := 0) rfl rfl, fun U hU hW => ⟨rfl, by rw [hU], by rw [hU]; exact hPc, va_K.moved hW.alike hKc, hDc.weaken (fun _ _ _ _ => trivial), kw_call hC hS hFc hU hW⟩⟩ rfl rfl hl.1 rfl (lv_room (Nat.le_of_ble_eq_true rfl)) d_H_letter_5 ⟨Nat.le_of_ble_eq_true rfl, Nat.le_of_ble_eq_true rfl⟩) hS (fun q _ h9 => hFc q h9) hFc (fun r_5 u t H1 locs ht hvm hw hB hz1 hk1 hS => ?_)
  obtain ⟨rfl, rfl⟩ := hw
  obtain ⟨hP1, hK1, hD1⟩ := hB
  rw [ht] at hP1
  obtain ⟨hP, hD⟩ := va_join (wr := [(h_o, .inr (3, [.ref h_line, .ref h_factSets, .int v_markedPlus, .int v_markedMinus, .ref h_program, .ref h_deduction]))]) (w1 := [(h_program, .inr (2, [.ref h_program_bodies, .int v_program_count])), (h_program_bodies, .inl (k_program_bodies, 2, .inl v_program_bodies))]) hP hD [1, 2] [0] rfl rfl (by decide) (by decide) hk1 hFc hP1 hD1
  have hP := hP.sub (ws' := [(h_o, .inr (3, [.ref h_line, .ref h_factSets, .int v_markedPlus, .int v_markedMinus, .ref h_program, .ref h_deduction])), (h_program, .inr (2, [.ref h_program_bodies, .int v_program_count])), (h_program_bodies, .inl (k_program_bodies, 2, .inl v_program_bodies))]) [0, 1, 2] rfl
  have hD := hD.sub (ws' := [(h_o, .inr (3, [.ref h_line, .ref h_factSets, .int v_markedPlus, .int v_markedMinus, .ref h_program, .ref h_deduction])), (h_program, .inr (2, [.ref h_program_bodies, .int v_program_count])), (h_program_bodies, .inl (k_program_bodies, 2, .inl v_program_bodies))]) [0, 1, 2] (by decide) rfl
  generalize H1 = H at hP hS ⊢
  rw [hQ]
  exact W.iret (v := v_5.1) hx hb hr (fun t ht hW => ⟨⟨v_5.1, (), rfl, Prod.mk.inj (Option.some.inj h), by rw [ht]; exact hP, va_K.moved hW.alike hK, hD⟩, hS.F ht⟩) hS.2.2 d_H_letter_8
