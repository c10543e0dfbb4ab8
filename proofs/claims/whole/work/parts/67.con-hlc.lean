theorem d_H_deduceProgram_0 : decode b_H_deduceProgram 0 = .ok (.aload_n 0, 1) := by decide +kernel
theorem d_H_deduceProgram_1 : decode b_H_deduceProgram 1 = .ok (.getfield 37, 3) := by decide +kernel
theorem d_H_deduceProgram_4 : decode b_H_deduceProgram 4 = .ok (.aload_n 0, 1) := by decide +kernel
theorem d_H_deduceProgram_5 : decode b_H_deduceProgram 5 = .ok (.getfield 16, 3) := by decide +kernel
theorem d_H_deduceProgram_8 : decode b_H_deduceProgram 8 = .ok (.iconst 0, 1) := by decide +kernel
theorem d_H_deduceProgram_9 : decode b_H_deduceProgram 9 = .ok (.iaload, 1) := by decide +kernel
theorem d_H_deduceProgram_10 : decode b_H_deduceProgram 10 = .ok (.aload_n 0, 1) := by decide +kernel
theorem d_H_deduceProgram_11 : decode b_H_deduceProgram 11 = .ok (.getfield 16, 3) := by decide +kernel
theorem d_H_deduceProgram_14 : decode b_H_deduceProgram 14 = .ok (.iconst 1, 1) := by decide +kernel
theorem d_H_deduceProgram_15 : decode b_H_deduceProgram 15 = .ok (.iaload, 1) := by decide +kernel
theorem d_H_deduceProgram_16 : decode b_H_deduceProgram 16 = .ok (.invokevirtual 106, 3) := by decide +kernel
theorem d_H_deduceProgram_19 : decode b_H_deduceProgram 19 = .ok (.aload_n 0, 1) := by decide +kernel
theorem d_H_deduceProgram_20 : decode b_H_deduceProgram 20 = .ok (.getfield 37, 3) := by decide +kernel
theorem d_H_deduceProgram_23 : decode b_H_deduceProgram 23 = .ok (.aload_n 0, 1) := by decide +kernel
theorem d_H_deduceProgram_24 : decode b_H_deduceProgram 24 = .ok (.getfield 30, 3) := by decide +kernel
theorem d_H_deduceProgram_27 : decode b_H_deduceProgram 27 = .ok (.iconst 0, 1) := by decide +kernel
theorem d_H_deduceProgram_28 : decode b_H_deduceProgram 28 = .ok (.invokevirtual 82, 3) := by decide +kernel
theorem d_H_deduceProgram_31 : decode b_H_deduceProgram 31 = .ok (.aload_n 0, 1) := by decide +kernel
theorem d_H_deduceProgram_32 : decode b_H_deduceProgram 32 = .ok (.getfield 30, 3) := by decide +kernel
theorem d_H_deduceProgram_35 : decode b_H_deduceProgram 35 = .ok (.iconst 1, 1) := by decide +kernel
theorem d_H_deduceProgram_36 : decode b_H_deduceProgram 36 = .ok (.invokevirtual 82, 3) := by decide +kernel
theorem d_H_deduceProgram_39 : decode b_H_deduceProgram 39 = .ok (.invokevirtual 156, 3) := by decide +kernel
theorem d_H_deduceProgram_42 : decode b_H_deduceProgram 42 = .ok (.return_, 1) := by decide +kernel
theorem d_H_deductionFits_0 : decode b_H_deductionFits 0 = .ok (.aload_n 0, 1) := by decide +kernel
theorem d_H_deductionFits_1 : decode b_H_deductionFits 1 = .ok (.getfield 20, 3) := by decide +kernel
theorem d_H_deductionFits_4 : decode b_H_deductionFits 4 = .ok (.aload_n 0, 1) := by decide +kernel
theorem d_H_deductionFits_5 : decode b_H_deductionFits 5 = .ok (.getfield 37, 3) := by decide +kernel
theorem d_H_deductionFits_8 : decode b_H_deductionFits 8 = .ok (.getfield 159, 3) := by decide +kernel
theorem d_H_deductionFits_11 : decode b_H_deductionFits 11 = .ok (.iconst (-1), 1) := by decide +kernel
theorem d_H_deductionFits_12 : decode b_H_deductionFits 12 = .ok (.ixor, 1) := by decide +kernel
theorem d_H_deductionFits_13 : decode b_H_deductionFits 13 = .ok (.iand, 1) := by decide +kernel
theorem d_H_deductionFits_14 : decode b_H_deductionFits 14 = .ok (.ifCond .ne 22, 3) := by decide +kernel
theorem d_H_deductionFits_17 : decode b_H_deductionFits 17 = .ok (.aload_n 0, 1) := by decide +kernel
theorem d_H_deductionFits_18 : decode b_H_deductionFits 18 = .ok (.getfield 24, 3) := by decide +kernel
theorem d_H_deductionFits_21 : decode b_H_deductionFits 21 = .ok (.aload_n 0, 1) := by decide +kernel
theorem d_H_deductionFits_22 : decode b_H_deductionFits 22 = .ok (.getfield 37, 3) := by decide +kernel
theorem d_H_deductionFits_25 : decode b_H_deductionFits 25 = .ok (.getfield 159, 3) := by decide +kernel
theorem d_H_deductionFits_28 : decode b_H_deductionFits 28 = .ok (.iand, 1) := by decide +kernel
theorem d_H_deductionFits_29 : decode b_H_deductionFits 29 = .ok (.ifCond .ne 7, 3) := by decide +kernel
theorem d_H_deductionFits_32 : decode b_H_deductionFits 32 = .ok (.iconst 1, 1) := by decide +kernel
theorem d_H_deductionFits_33 : decode b_H_deductionFits 33 = .ok (.goto 4, 3) := by decide +kernel
theorem d_H_deductionFits_36 : decode b_H_deductionFits 36 = .ok (.iconst 0, 1) := by decide +kernel
theorem d_H_deductionFits_37 : decode b_H_deductionFits 37 = .ok (.ireturn, 1) := by decide +kernel
set_option maxHeartbeats 1000000 in
set_option maxRecDepth 100000 in
theorem c_H_deduceProgram (l : Launch) (dC : Nat → ClassId) (dI : Nat → Nat → Nat) (h_o h_line h_factSets h_program h_deduction h_program_bodies h_deduction_factChoices h_deduction_givenInRound : Nat) (k_factSets k_program_bodies k_deduction_factChoices k_deduction_givenInRound : ClassId) (tb : Nat) (ak av : Nat → Nat) (sz : Nat) (v_markedPlus : Int32) (v_markedMinus : Int32) (v_factSets : Nat → Int32) (v_program_count : Int32) (v_program_bodies : Nat → Int32) (v_deduction_givenPairs : Int32) (v_deduction_roundCount : Int32) (v_deduction_factChoices : Nat → Int64) (v_deduction_givenInRound : Nat → Int32) (u0 : Int32 × Int32 × (Nat → Int64) × (Nat → Int32)) (h : m_H_deduceProgram v_factSets v_program_count v_program_bodies v_deduction_givenPairs v_deduction_roundCount v_deduction_factChoices v_deduction_givenInRound = some u0) : Met l y_H_deduceProgram w_H_deduceProgram ({ frames := 4, cells := 0, slots := 0, locals := 90 } : Room) (va_Pc [.ref h_o] (fun U => U.heap.size = sz ∧ va_P (dC, dI) classes [(h_o, .inr (3, [.ref h_line, .ref h_factSets, .int v_markedPlus, .int v_markedMinus, .ref h_program, .ref h_deduction])), (h_factSets, .inl (k_factSets, 2, .inl v_factSets)), (h_program, .inr (2, [.ref h_program_bodies, .int v_program_count])), (h_program_bodies, .inl (k_program_bodies, 2, .inl v_program_bodies)), (h_deduction, .inr (0, [.ref h_deduction_factChoices, .ref h_deduction_givenInRound, .int v_deduction_givenPairs, .int v_deduction_roundCount])), (h_deduction_factChoices, .inl (k_deduction_factChoices, 18, .inr (.inl v_deduction_factChoices))), (h_deduction_givenInRound, .inl (k_deduction_givenInRound, 17, .inl v_deduction_givenInRound))] U.heap ∧ va_K (dC, dI) classes [(k_factSets, .int), (k_program_bodies, .int), (k_deduction_factChoices, .long), (k_deduction_givenInRound, .int)] U ∧ va_D (fun _ => True) [(h_o, .inr (3, [.ref h_line, .ref h_factSets, .int v_markedPlus, .int v_markedMinus, .ref h_program, .ref h_deduction])), (h_factSets, .inl (k_factSets, 2, .inl v_factSets)), (h_program, .inr (2, [.ref h_program_bodies, .int v_program_count])), (h_program_bodies, .inl (k_program_bodies, 2, .inl v_program_bodies)), (h_deduction, .inr (0, [.ref h_deduction_factChoices, .ref h_deduction_givenInRound, .int v_deduction_givenPairs, .int v_deduction_roundCount])), (h_deduction_factChoices, .inl (k_deduction_factChoices, 18, .inr (.inl v_deduction_factChoices))), (h_deduction_givenInRound, .inl (k_deduction_givenInRound, 17, .inl v_deduction_givenInRound))] ∧ kw tb ak av (va_A [(h_o, .inr (3, [.ref h_line, .ref h_factSets, .int v_markedPlus, .int v_markedMinus, .ref h_program, .ref h_deduction])), (h_factSets, .inl (k_factSets, 2, .inl v_factSets)), (h_program, .inr (2, [.ref h_program_bodies, .int v_program_count])), (h_program_bodies, .inl (k_program_bodies, 2, .inl v_program_bodies)), (h_deduction, .inr (0, [.ref h_deduction_factChoices, .ref h_deduction_givenInRound, .int v_deduction_givenPairs, .int v_deduction_roundCount])), (h_deduction_factChoices, .inl (k_deduction_factChoices, 18, .inr (.inl v_deduction_factChoices))), (h_deduction_givenInRound, .inl (k_deduction_givenInRound, 17, .inl v_deduction_givenInRound))] sz) U)) (va_Qv (fun (u : Int32 × Int32 × (Nat → Int64) × (Nat → Int32)) => u = u0) (fun (u : Int32 × Int32 × (Nat → Int64) × (Nat → Int32)) (t : State) => va_P (dC, dI) classes [(h_o, .inr (3, [.ref h_line, .ref h_factSets, .int v_markedPlus, .int v_markedMinus, .ref h_program, .ref h_deduction])), (h_factSets, .inl (k_factSets, 2, .inl v_factSets)), (h_program, .inr (2, [.ref h_program_bodies, .int v_program_count])), (h_program_bodies, .inl (k_program_bodies, 2, .inl v_program_bodies)), (h_deduction, .inr (0, [.ref h_deduction_factChoices, .ref h_deduction_givenInRound, .int u.1, .int u.2.1])), (h_deduction_factChoices, .inl (k_deduction_factChoices, 18, .inr (.inl u.2.2.1))), (h_deduction_givenInRound, .inl (k_deduction_givenInRound, 17, .inl u.2.2.2))] t.heap ∧ va_K (dC, dI) classes [(k_factSets, .int), (k_program_bodies, .int), (k_deduction_factChoices, .long), (k_deduction_givenInRound, .int)] t ∧ va_D (va_A [(h_o, .inr (3, [.ref h_line, .ref h_factSets, .int v_markedPlus, .int v_markedMinus, .ref h_program, .ref h_deduction])), (h_factSets, .inl (k_factSets, 2, .inl v_factSets)), (h_program, .inr (2, [.ref h_program_bodies, .int v_program_count])), (h_program_bodies, .inl (k_program_bodies, 2, .inl v_program_bodies)), (h_deduction, .inr (0, [.ref h_deduction_factChoices, .ref h_deduction_givenInRound, .int v_deduction_givenPairs, .int v_deduction_roundCount])), (h_deduction_factChoices, .inl (k_deduction_factChoices, 18, .inr (.inl v_deduction_factChoices))), (h_deduction_givenInRound, .inl (k_deduction_givenInRound, 17, .inl v_deduction_givenInRound))] sz) [(h_o, .inr (3, [.ref h_line, .ref h_factSets, .int v_markedPlus, .int v_markedMinus, .ref h_program, .ref h_deduction])), (h_factSets, .inl (k_factSets, 2, .inl v_factSets)), (h_program, .inr (2, [.ref h_program_bodies, .int v_program_count])), (h_program_bodies, .inl (k_program_bodies, 2, .inl v_program_bodies)), (h_deduction, .inr (0, [.ref h_deduction_factChoices, .ref h_deduction_givenInRound, .int u.1, .int u.2.1])), (h_deduction_factChoices, .inl (k_deduction_factChoices, 18, .inr (.inl u.2.2.1))), (h_deduction_givenInRound, .inl (k_deduction_givenInRound, 17, .inl u.2.2.2))]) (va_A [(h_o, .inr (3, [.ref h_line, .ref h_factSets, .int v_markedPlus, .int v_markedMinus, .ref h_program, .ref h_deduction])), (h_factSets, .inl (k_factSets, 2, .inl v_factSets)), (h_program, .inr (2, [.ref h_program_bodies, .int v_program_count])), (h_program_bodies, .inl (k_program_bodies, 2, .inl v_program_bodies)), (h_deduction, .inr (0, [.ref h_deduction_factChoices, .ref h_deduction_givenInRound, .int v_deduction_givenPairs, .int v_deduction_roundCount])), (h_deduction_factChoices, .inl (k_deduction_factChoices, 18, .inr (.inl v_deduction_factChoices))), (h_deduction_givenInRound, .inl (k_deduction_givenInRound, 17, .inl v_deduction_givenInRound))] sz)) 0 0 (va_A [(h_o, .inr (3, [.ref h_line, .ref h_factSets, .int v_markedPlus, .int v_markedMinus, .ref h_program, .ref h_deduction])), (h_factSets, .inl (k_factSets, 2, .inl v_factSets)), (h_program, .inr (2, [.ref h_program_bodies, .int v_program_count])), (h_program_bodies, .inl (k_program_bodies, 2, .inl v_program_bodies)), (h_deduction, .inr (0, [.ref h_deduction_factChoices, .ref h_deduction_givenInRound, .int v_deduction_givenPairs, .int v_deduction_roundCount])), (h_deduction_factChoices, .inl (k_deduction_factChoices, 18, .inr (.inl v_deduction_factChoices))), (h_deduction_givenInRound, .inl (k_deduction_givenInRound, 17, .inl v_deduction_givenInRound))] sz) := by
  refine Met.ofW (cc := b_H_deduceProgram) (maxL := 1) (ret := none) (by decide) rfl ?_
  intro p e s m args below meth c s₁ B hml hv
  obtain ⟨rfl, hsz, hP, hK, hD0, hC⟩ := hv
  have hx := B.exec
  have hb := B.bytes
  have hr := B.returns
  have hts0 := atoms_spec (ws := w_H_deduceProgram) B.pre
  have hts : ∀ w ∈ lw_gd, w.before ([.ref h_o] : List Value).toArray s = true := fun w h9 => hts0 w (List.mem_cons_of_mem _ h9)
  have hown : s.vm.findClass R_H = some m.cls := findClass_of_methodNamed B.named
  have hlocks := B.notSynchronized
  subst hsz
  have hD := hD0.self (sz := s.heap.size)
  generalize hAe : va_A [(h_o, .inr (3, [.ref h_line, .ref h_factSets, .int v_markedPlus, .int v_markedMinus, .ref h_program, .ref h_deduction])), (h_factSets, .inl (k_factSets, 2, .inl v_factSets)), (h_program, .inr (2, [.ref h_program_bodies, .int v_program_count])), (h_program_bodies, .inl (k_program_bodies, 2, .inl v_program_bodies)), (h_deduction, .inr (0, [.ref h_deduction_factChoices, .ref h_deduction_givenInRound, .int v_deduction_givenPairs, .int v_deduction_roundCount])), (h_deduction_factChoices, .inl (k_deduction_factChoices, 18, .inr (.inl v_deduction_factChoices))), (h_deduction_givenInRound, .inl (k_deduction_givenInRound, 17, .inl v_deduction_givenInRound))] s.heap.size = A at hD hC ⊢
  have hA : ∀ q : Nat, s.heap.size ≤ q → A q := fun q h9 => by rw [← hAe]; exact Or.inr h9
  obtain ⟨H, eH⟩ : ∃ H : Heap, H = s.heap := ⟨_, rfl⟩
  have hS : va_S A s.heap H [] := by rw [eH]; exact va_S.rf
  have hP : va_P (dC, dI) classes [(h_o, .inr (3, [.ref h_line, .ref h_factSets, .int v_markedPlus, .int v_markedMinus, .ref h_program, .ref h_deduction])), (h_factSets, .inl (k_factSets, 2, .inl v_factSets)), (h_program, .inr (2, [.ref h_program_bodies, .int v_program_count])), (h_program_bodies, .inl (k_program_bodies, 2, .inl v_program_bodies)), (h_deduction, .inr (0, [.ref h_deduction_factChoices, .ref h_deduction_givenInRound, .int v_deduction_givenPairs, .int v_deduction_roundCount])), (h_deduction_factChoices, .inl (k_deduction_factChoices, 18, .inr (.inl v_deduction_factChoices))), (h_deduction_givenInRound, .inl (k_deduction_givenInRound, 17, .inl v_deduction_givenInRound))] H := by rw [eH]; exact hP
  refine W_gen (fun Q hQ => ?_)
  refine W_heap eH ?_
  clear eH
  have hl := lv_entry ([.ref h_o]) (n := 1) (Nat.le_of_ble_eq_true rfl)
  rw [lg_entry_eq]
  generalize (lg_sl ([.ref h_o]) ++ List.replicate (1 - (lg_sl ([.ref h_o])).length) Slot.unset).toArray = ls at hl ⊢
  have hl : lv_has ls 1 [(0, .ref h_o)] := hl
  unfold m_H_deduceProgram at h
  refine lv_aload_n hx hb d_H_deduceProgram_0 rfl (lv_at hl 0 rfl) ?_
  refine va_get (D := (dC, dI)) (ci := 3) (v := .ref h_deduction) (C := R_H) (T := F_H) (N := 6) hx hb hts lay_H hown hK hP 0 rfl rfl 5 (by decide) (hts _ flk_H_37) (fun _ h9 => h9) rfl d_H_deduceProgram_1 ?_
  refine lv_aload_n hx hb d_H_deduceProgram_4 rfl (lv_at hl 0 rfl) ?_
  refine va_get (D := (dC, dI)) (ci := 3) (v := .ref h_factSets) (C := R_H) (T := F_H) (N := 6) hx hb hts lay_H hown hK hP 0 rfl rfl 1 (by decide) (hts _ flk_H_16) (fun _ h9 => h9) rfl d_H_deduceProgram_5 ?_
  refine lv_iconst (v := (nI 0)) hx hb d_H_deduceProgram_8 (by decide) ?_
  obtain ⟨g_9, h⟩ := of_guard h
  refine va_iald hx hb hK hP 1 0 rfl rfl (inR_in g_9) d_H_deduceProgram_9 ?_
  refine lv_aload_n hx hb d_H_deduceProgram_10 rfl (lv_at hl 0 rfl) ?_
  refine va_get (D := (dC, dI)) (ci := 3) (v := .ref h_factSets) (C := R_H) (T := F_H) (N := 6) hx hb hts lay_H hown hK hP 0 rfl rfl 1 (by decide) (hts _ flk_H_16) (fun _ h9 => h9) rfl d_H_deduceProgram_11 ?_
  refine lv_iconst (v := (nI 1)) hx hb d_H_deduceProgram_14 (by decide) ?_
  obtain ⟨g_15, h⟩ := of_guard h
  refine va_iald hx hb hK hP 1 0 rfl rfl (inR_in g_15) d_H_deduceProgram_15 ?_
  have hPc := hP.sub (ws' := [(h_deduction, .inr (0, [.ref h_deduction_factChoices, .ref h_deduction_givenInRound, .int v_deduction_givenPairs, .int v_deduction_roundCount])), (h_deduction_factChoices, .inl (k_deduction_factChoices, 18, .inr (.inl v_deduction_factChoices)))]) [4, 5] rfl
  have hDc := hD.sub (ws' := [(h_deduction, .inr (0, [.ref h_deduction_factChoices, .ref h_deduction_givenInRound, .int v_deduction_givenPairs, .int v_deduction_roundCount])), (h_deduction_factChoices, .inl (k_deduction_factChoices, 18, .inr (.inl v_deduction_factChoices)))]) [4, 5] (by decide) rfl
  have hKc := hK.sub (tys' := [(k_deduction_factChoices, .long)]) [2] rfl
  have hFc := va_free (wc := [(h_deduction, .inr (0, [.ref h_deduction_factChoices, .ref h_deduction_givenInRound, .int v_deduction_givenPairs, .int v_deduction_roundCount])), (h_deduction_factChoices, .inl (k_deduction_factChoices, 18, .inr (.inl v_deduction_factChoices)))]) hD hS hA [4, 5] rfl
  obtain ⟨v_16, hc_16, h⟩ := of_bind h
  refine va_callv (va_runV (As := [.int (v_factSets (nI 0).toNatClampNeg), .int (v_factSets (nI 1).toNatClampNeg)]) (rest := []) ⟨hx, hb, hml, hown, hts⟩ (c_D_takeFacts l dC dI h_deduction h_deduction_factChoices h_deduction_givenInRound k_deduction_factChoices tb ak av H.size v_deduction_givenPairs v_deduction_roundCount v_deduction_factChoices (v_factSets (nI 0).toNatClampNeg) (v_factSets (nI 1).toNatClampNeg)  v_16 hc_16) (cwV 2 hts (gV mlk_H_106 ins_D_takeFacts sel_D_takeFacts ini_D cod_D_takeFacts) rfl rfl rfl (by decide +kernel) ⟨Nat.le_of_ble_eq_true rfl, Nat.le_of_ble_eq_true rfl⟩) ⟨fun a U g mk q => by obtain ⟨q0, q1, qP, qK, qD, qC⟩ := q; exact ⟨q0, q1, qP, va_K.moved (u := U) (U := U.calling g mk a) (Vm.Alike.refl U.vm) qK, qD, kw_blind qC⟩, va_recv hKc hPc (ci := 0) (q0 := 0) rfl rfl, fun U hU hW => ⟨rfl, by rw [hU], by rw [hU]; exact hPc, va_K.moved hW.alike hKc, hDc.weaken (fun _ _ _ _ => trivial), kw_call hC hS hFc hU hW⟩⟩ rfl rfl hl.1 rfl (lv_room (Nat.le_of_ble_eq_true rfl)) d_H_deduceProgram_16 ⟨Nat.le_of_ble_eq_true rfl, Nat.le_of_ble_eq_true rfl⟩) hS (fun q _ h9 => hFc q h9) hFc (fun u t H1 locs ht hvm hw hB hz1 hk1 hS => ?_)
  obtain rfl := (Eq.symm hw)
  obtain ⟨hP1, hK1, hD1⟩ := hB
  rw [ht] at hP1
  obtain ⟨hP, hD⟩ := va_join (wr := [(h_o, .inr (3, [.ref h_line, .ref h_factSets, .int v_markedPlus, .int v_markedMinus, .ref h_program, .ref h_deduction])), (h_factSets, .inl (k_factSets, 2, .inl v_factSets)), (h_program, .inr (2, [.ref h_program_bodies, .int v_program_count])), (h_program_bodies, .inl (k_program_bodies, 2, .inl v_program_bodies)), (h_deduction_givenInRound, .inl (k_deduction_givenInRound, 17, .inl v_deduction_givenInRound))]) (w1 := [(h_deduction, .inr (0, [.ref h_deduction_factChoices, .ref h_deduction_givenInRound, .int v_deduction_givenPairs, .int v_deduction_roundCount])), (h_deduction_factChoices, .inl (k_deduction_factChoices, 18, .inr (.inl v_16)))]) hP hD [4, 5] [0, 1, 2, 3, 6] rfl rfl (by decide) (by decide) hk1 hFc hP1 hD1
  have hP := hP.sub (ws' := [(h_o, .inr (3, [.ref h_line, .ref h_factSets, .int v_markedPlus, .int v_markedMinus, .ref h_program, .ref h_deduction])), (h_factSets, .inl (k_factSets, 2, .inl v_factSets)), (h_program, .inr (2, [.ref h_program_bodies, .int v_program_count])), (h_program_bodies, .inl (k_program_bodies, 2, .inl v_program_bodies)), (h_deduction, .inr (0, [.ref h_deduction_factChoices, .ref h_deduction_givenInRound, .int v_deduction_givenPairs, .int v_deduction_roundCount])), (h_deduction_factChoices, .inl (k_deduction_factChoices, 18, .inr (.inl v_16))), (h_deduction_givenInRound, .inl (k_deduction_givenInRound, 17, .inl v_deduction_givenInRound))]) [0, 1, 2, 3, 5, 6, 4] rfl
  have hD := hD.sub (ws' := [(h_o, .inr (3, [.ref h_line, .ref h_factSets, .int v_markedPlus, .int v_markedMinus, .ref h_program, .ref h_deduction])), (h_factSets, .inl (k_factSets, 2, .inl v_factSets)), (h_program, .inr (2, [.ref h_program_bodies, .int v_program_count])), (h_program_bodies, .inl (k_program_bodies, 2, .inl v_program_bodies)), (h_deduction, .inr (0, [.ref h_deduction_factChoices, .ref h_deduction_givenInRound, .int v_deduction_givenPairs, .int v_deduction_roundCount])), (h_deduction_factChoices, .inl (k_deduction_factChoices, 18, .inr (.inl v_16))), (h_deduction_givenInRound, .inl (k_deduction_givenInRound, 17, .inl v_deduction_givenInRound))]) [0, 1, 2, 3, 5, 6, 4] (by decide) rfl
  generalize H1 = H at hP hS ⊢
  refine lv_aload_n hx hb d_H_deduceProgram_19 rfl (lv_at hl 0 rfl) ?_
  refine va_get (D := (dC, dI)) (ci := 3) (v := .ref h_deduction) (C := R_H) (T := F_H) (N := 6) hx hb hts lay_H hown hK hP 0 rfl rfl 5 (by decide) (hts _ flk_H_37) (fun _ h9 => h9) rfl d_H_deduceProgram_20 ?_
  refine lv_aload_n hx hb d_H_deduceProgram_23 rfl (lv_at hl 0 rfl) ?_
  refine va_get (D := (dC, dI)) (ci := 3) (v := .ref h_program) (C := R_H) (T := F_H) (N := 6) hx hb hts lay_H hown hK hP 0 rfl rfl 4 (by decide) (hts _ flk_H_30) (fun _ h9 => h9) rfl d_H_deduceProgram_24 ?_
  refine lv_iconst (v := (nI 0)) hx hb d_H_deduceProgram_27 (by decide) ?_
  have hPc := hP.sub (ws' := [(h_program, .inr (2, [.ref h_program_bodies, .int v_program_count])), (h_program_bodies, .inl (k_program_bodies, 2, .inl v_program_bodies))]) [2, 3] rfl
  have hDc := hD.sub (ws' := [(h_program, .inr (2, [.ref h_program_bodies, .int v_program_count])), (h_program_bodies, .inl (k_program_bodies, 2, .inl v_program_bodies))]) [2, 3] (by decide) rfl
  have hKc := hK.sub (tys' := [(k_program_bodies, .int)]) [1] rfl
  have hFc := va_free (wc := [(h_program, .inr (2, [.ref h_program_bodies, .int v_program_count])), (h_program_bodies, .inl (k_program_bodies, 2, .inl v_program_bodies))]) hD hS hA [2, 3] rfl
  obtain ⟨v_28, hc_28, h⟩ := of_bind h
  refine va_calli (va_runV (As := [.int (nI 0)]) (rest := [.ref h_deduction]) ⟨hx, hb, hml, hown, hts⟩ (c_P_bodyOf l dC dI h_program h_program_bodies k_program_bodies H.size v_program_count v_program_bodies (nI 0) v_28.1 v_28.2 hc_28) (cwV 1 hts (gV mlk_H_82 ins_P_bodyOf sel_P_bodyOf ini_P cod_P_bodyOf) rfl rfl rfl (by decide +kernel) ⟨Nat.le_of_ble_eq_true rfl, Nat.le_of_ble_eq_true rfl⟩) ⟨fun a U g mk q => by obtain ⟨q0, q1, qP, qK, qD⟩ := q; exact ⟨q0, q1, qP, va_K.moved (u := U) (U := U.calling g mk a) (Vm.Alike.refl U.vm) qK, qD⟩, va_recv hKc hPc (ci := 2) (q0 := 0) rfl rfl, fun U hU hW => ⟨rfl, by rw [hU], by rw [hU]; exact hPc, va_K.moved hW.alike hKc, hDc.weaken (fun _ _ _ _ => trivial)⟩⟩ rfl rfl hl.1 rfl (lv_room (Nat.le_of_ble_eq_true rfl)) d_H_deduceProgram_28 ⟨Nat.le_of_ble_eq_true rfl, Nat.le_of_ble_eq_true rfl⟩) hS (fun q _ h9 => hFc q h9) hFc (fun r_28 u t H1 locs ht hvm hw hB hz1 hk1 hS => ?_)
  obtain ⟨rfl, rfl⟩ := hw
  obtain ⟨hP1, hK1, hD1⟩ := hB
  rw [ht] at hP1
  obtain ⟨hP, hD⟩ := va_join (wr := [(h_o, .inr (3, [.ref h_line, .ref h_factSets, .int v_markedPlus, .int v_markedMinus, .ref h_program, .ref h_deduction])), (h_factSets, .inl (k_factSets, 2, .inl v_factSets)), (h_deduction, .inr (0, [.ref h_deduction_factChoices, .ref h_deduction_givenInRound, .int v_deduction_givenPairs, .int v_deduction_roundCount])), (h_deduction_factChoices, .inl (k_deduction_factChoices, 18, .inr (.inl v_16))), (h_deduction_givenInRound, .inl (k_deduction_givenInRound, 17, .inl v_deduction_givenInRound))]) (w1 := [(h_program, .inr (2, [.ref h_program_bodies, .int v_program_count])), (h_program_bodies, .inl (k_program_bodies, 2, .inl v_program_bodies))]) hP hD [2, 3] [0, 1, 4, 5, 6] rfl rfl (by decide) (by decide) hk1 hFc hP1 hD1
  have hP := hP.sub (ws' := [(h_o, .inr (3, [.ref h_line, .ref h_factSets, .int v_markedPlus, .int v_markedMinus, .ref h_program, .ref h_deduction])), (h_factSets, .inl (k_factSets, 2, .inl v_factSets)), (h_program, .inr (2, [.ref h_program_bodies, .int v_program_count])), (h_program_bodies, .inl (k_program_bodies, 2, .inl v_program_bodies)), (h_deduction, .inr (0, [.ref h_deduction_factChoices, .ref h_deduction_givenInRound, .int v_deduction_givenPairs, .int v_deduction_roundCount])), (h_deduction_factChoices, .inl (k_deduction_factChoices, 18, .inr (.inl v_16))), (h_deduction_givenInRound, .inl (k_deduction_givenInRound, 17, .inl v_deduction_givenInRound))]) [0, 1, 5, 6, 2, 3, 4] rfl
  have hD := hD.sub (ws' := [(h_o, .inr (3, [.ref h_line, .ref h_factSets, .int v_markedPlus, .int v_markedMinus, .ref h_program, .ref h_deduction])), (h_factSets, .inl (k_factSets, 2, .inl v_factSets)), (h_program, .inr (2, [.ref h_program_bodies, .int v_program_count])), (h_program_bodies, .inl (k_program_bodies, 2, .inl v_program_bodies)), (h_deduction, .inr (0, [.ref h_deduction_factChoices, .ref h_deduction_givenInRound, .int v_deduction_givenPairs, .int v_deduction_roundCount])), (h_deduction_factChoices, .inl (k_deduction_factChoices, 18, .inr (.inl v_16))), (h_deduction_givenInRound, .inl (k_deduction_givenInRound, 17, .inl v_deduction_givenInRound))]) [0, 1, 5, 6, 2, 3, 4] (by decide) rfl
  generalize H1 = H at hP hS ⊢
  refine lv_aload_n hx hb d_H_deduceProgram_31 rfl (lv_at hl 0 rfl) ?_
  refine va_get (D := (dC, dI)) (ci := 3) (v := .ref h_program) (C := R_H) (T := F_H) (N := 6) hx hb hts lay_H hown hK hP 0 rfl rfl 4 (by decide) (hts _ flk_H_30) (fun _ h9 => h9) rfl d_H_deduceProgram_32 ?_
  refine lv_iconst (v := (nI 1)) hx hb d_H_deduceProgram_35 (by decide) ?_
  have hPc := hP.sub (ws' := [(h_program, .inr (2, [.ref h_program_bodies, .int v_program_count])), (h_program_bodies, .inl (k_program_bodies, 2, .inl v_program_bodies))]) [2, 3] rfl
  have hDc := hD.sub (ws' := [(h_program, .inr (2, [.ref h_program_bodies, .int v_program_count])), (h_program_bodies, .inl (k_program_bodies, 2, .inl v_program_bodies))]) [2, 3] (by decide) rfl
  have hKc := hK.sub (tys' := [(k_program_bodies, .int)]) [1] rfl
  have hFc := va_free (wc := [(h_program, .inr (2, [.ref h_program_bodies, .int v_program_count])), (h_program_bodies, .inl (k_program_bodies, 2, .inl v_program_bodies))]) hD hS hA [2, 3] rfl
  obtain ⟨v_36, hc_36, h⟩ := of_bind h
  refine va_calli (va_runV (As := [.int (nI 1)]) (rest := [.int v_28.1, .ref h_deduction]) ⟨hx, hb, hml, hown, hts⟩ (c_P_bodyOf l dC dI h_program h_program_bodies k_program_bodies H.size v_program_count v_program_bodies (nI 1) v_36.1 v_36.2 hc_36) (cwV 1 hts (gV mlk_H_82 ins_P_bodyOf sel_P_bodyOf ini_P cod_P_bodyOf) rfl rfl rfl (by decide +kernel) ⟨Nat.le_of_ble_eq_true rfl, Nat.le_of_ble_eq_true rfl⟩) ⟨fun a U g mk q => by obtain ⟨q0, q1, qP, qK, qD⟩ := q; exact ⟨q0, q1, qP, va_K.moved (u := U) (U := U.calling g mk a) (Vm.Alike.refl U.vm) qK, qD⟩, va_recv hKc hPc (ci := 2) (q0 := 0) rfl rfl, fun U hU hW => ⟨rfl, by rw [hU], by rw [hU]; exact hPc, va_K.moved hW.alike hKc, hDc.weaken (fun _ _ _ _ => trivial)⟩⟩ rfl rfl hl.1 rfl (lv_room (Nat.le_of_ble_eq_true rfl)) d_H_deduceProgram_36 ⟨Nat.le_of_ble_eq_true rfl, Nat.le_of_ble_eq_true rfl⟩) hS (fun q _ h9 => hFc q h9) hFc (fun r_36 u t H1 locs ht hvm hw hB hz1 hk1 hS => ?_)
  obtain ⟨rfl, rfl⟩ := hw
  obtain ⟨hP1, hK1, hD1⟩ := hB
  rw [ht] at hP1
  obtain ⟨hP, hD⟩ := va_join (wr := [(h_o, .inr (3, [.ref h_line, .ref h_factSets, .int v_markedPlus, .int v_markedMinus, .ref h_program, .ref h_deduction])), (h_factSets, .inl (k_factSets, 2, .inl v_factSets)), (h_deduction, .inr (0, [.ref h_deduction_factChoices, .ref h_deduction_givenInRound, .int v_deduction_givenPairs, .int v_deduction_roundCount])), (h_deduction_factChoices, .inl (k_deduction_factChoices, 18, .inr (.inl v_16))), (h_deduction_givenInRound, .inl (k_deduction_givenInRound, 17, .inl v_deduction_givenInRound))]) (w1 := [(h_program, .inr (2, [.ref h_program_bodies, .int v_program_count])), (h_program_bodies, .inl (k_program_bodies, 2, .inl v_program_bodies))]) hP hD [2, 3] [0, 1, 4, 5, 6] rfl rfl (by decide) (by decide) hk1 hFc hP1 hD1
  have hP := hP.sub (ws' := [(h_o, .inr (3, [.ref h_line, .ref h_factSets, .int v_markedPlus, .int v_markedMinus, .ref h_program, .ref h_deduction])), (h_factSets, .inl (k_factSets, 2, .inl v_factSets)), (h_program, .inr (2, [.ref h_program_bodies, .int v_program_count])), (h_program_bodies, .inl (k_program_bodies, 2, .inl v_program_bodies)), (h_deduction, .inr (0, [.ref h_deduction_factChoices, .ref h_deduction_givenInRound, .int v_deduction_givenPairs, .int v_deduction_roundCount])), (h_deduction_factChoices, .inl (k_deduction_factChoices, 18, .inr (.inl v_16))), (h_deduction_givenInRound, .inl (k_deduction_givenInRound, 17, .inl v_deduction_givenInRound))]) [0, 1, 5, 6, 2, 3, 4] rfl
  have hD := hD.sub (ws' := [(h_o, .inr (3, [.ref h_line, .ref h_factSets, .int v_markedPlus, .int v_markedMinus, .ref h_program, .ref h_deduction])), (h_factSets, .inl (k_factSets, 2, .inl v_factSets)), (h_program, .inr (2, [.ref h_program_bodies, .int v_program_count])), (h_program_bodies, .inl (k_program_bodies, 2, .inl v_program_bodies)), (h_deduction, .inr (0, [.ref h_deduction_factChoices, .ref h_deduction_givenInRound, .int v_deduction_givenPairs, .int v_deduction_roundCount])), (h_deduction_factChoices, .inl (k_deduction_factChoices, 18, .inr (.inl v_16))), (h_deduction_givenInRound, .inl (k_deduction_givenInRound, 17, .inl v_deduction_givenInRound))]) [0, 1, 5, 6, 2, 3, 4] (by decide) rfl
  generalize H1 = H at hP hS ⊢
  have hPc := hP.sub (ws' := [(h_deduction, .inr (0, [.ref h_deduction_factChoices, .ref h_deduction_givenInRound, .int v_deduction_givenPairs, .int v_deduction_roundCount])), (h_deduction_factChoices, .inl (k_deduction_factChoices, 18, .inr (.inl v_16))), (h_deduction_givenInRound, .inl (k_deduction_givenInRound, 17, .inl v_deduction_givenInRound))]) [4, 5, 6] rfl
  have hDc := hD.sub (ws' := [(h_deduction, .inr (0, [.ref h_deduction_factChoices, .ref h_deduction_givenInRound, .int v_deduction_givenPairs, .int v_deduction_roundCount])), (h_deduction_factChoices, .inl (k_deduction_factChoices, 18, .inr (.inl v_16))), (h_deduction_givenInRound, .inl (k_deduction_givenInRound, 17, .inl v_deduction_givenInRound))]) [4, 5, 6] (by decide) rfl
  have hKc := hK.sub (tys' := [(k_deduction_factChoices, .long), (k_deduction_givenInRound, .int)]) [2, 3] rfl
  have hFc := va_free (wc := [(h_deduction, .inr (0, [.ref h_deduction_factChoices, .ref h_deduction_givenInRound, .int v_deduction_givenPairs, .int v_deduction_roundCount])), (h_deduction_factChoices, .inl (k_deduction_factChoices, 18, .inr (.inl v_16))), (h_deduction_givenInRound, .inl (k_deduction_givenInRound, 17, .inl v_deduction_givenInRound))]) hD hS hA [4, 5, 6] rfl
  obtain ⟨v_39, hc_39, h⟩ := of_bind h
  refine va_callv (va_runV (As := [.int v_28.1, .int v_36.1]) (rest := []) ⟨hx, hb, hml, hown, hts⟩ (c_D_run l dC dI h_deduction h_deduction_factChoices h_deduction_givenInRound k_deduction_factChoices k_deduction_givenInRound tb ak av H.size v_deduction_givenPairs v_deduction_roundCount v_16 v_deduction_givenInRound v_28.1 v_36.1  v_39 hc_39) (cwV 2 hts (gV mlk_H_156 ins_D_run sel_D_run ini_D cod_D_run) rfl rfl rfl (by decide +kernel) ⟨Nat.le_of_ble_eq_true rfl, Nat.le_of_ble_eq_true rfl⟩) ⟨fun a U g mk q => by obtain ⟨q0, q1, qP, qK, qD, qC⟩ := q; exact ⟨q0, q1, qP, va_K.moved (u := U) (U := U.calling g mk a) (Vm.Alike.refl U.vm) qK, qD, kw_blind qC⟩, va_recv hKc hPc (ci := 0) (q0 := 0) rfl rfl, fun U hU hW => ⟨rfl, by rw [hU], by rw [hU]; exact hPc, va_K.moved hW.alike hKc, hDc.weaken (fun _ _ _ _ => trivial), kw_call hC hS hFc hU hW⟩⟩ rfl rfl hl.1 rfl (lv_room (Nat.le_of_ble_eq_true rfl)) d_H_deduceProgram_39 ⟨Nat.le_of_ble_eq_true rfl, Nat.le_of_ble_eq_true rfl⟩) hS (fun q _ h9 => hFc q h9) hFc (fun u t H1 locs ht hvm hw hB hz1 hk1 hS => ?_)
  obtain rfl := (Eq.symm hw)
  obtain ⟨hP1, hK1, hD1⟩ := hB
  rw [ht] at hP1
  obtain ⟨hP, hD⟩ := va_join (wr := [(h_o, .inr (3, [.ref h_line, .ref h_factSets, .int v_markedPlus, .int v_markedMinus, .ref h_program, .ref h_deduction])), (h_factSets, .inl (k_factSets, 2, .inl v_factSets)), (h_program, .inr (2, [.ref h_program_bodies, .int v_program_count])), (h_program_bodies, .inl (k_program_bodies, 2, .inl v_program_bodies))]) (w1 := [(h_deduction, .inr (0, [.ref h_deduction_factChoices, .ref h_deduction_givenInRound, .int v_39.1, .int v_39.2.1])), (h_deduction_factChoices, .inl (k_deduction_factChoices, 18, .inr (.inl v_16))), (h_deduction_givenInRound, .inl (k_deduction_givenInRound, 17, .inl v_39.2.2))]) hP hD [4, 5, 6] [0, 1, 2, 3] rfl rfl (by decide) (by decide) hk1 hFc hP1 hD1
  have hP := hP.sub (ws' := [(h_o, .inr (3, [.ref h_line, .ref h_factSets, .int v_markedPlus, .int v_markedMinus, .ref h_program, .ref h_deduction])), (h_factSets, .inl (k_factSets, 2, .inl v_factSets)), (h_program, .inr (2, [.ref h_program_bodies, .int v_program_count])), (h_program_bodies, .inl (k_program_bodies, 2, .inl v_program_bodies)), (h_deduction, .inr (0, [.ref h_deduction_factChoices, .ref h_deduction_givenInRound, .int v_39.1, .int v_39.2.1])), (h_deduction_factChoices, .inl (k_deduction_factChoices, 18, .inr (.inl v_16))), (h_deduction_givenInRound, .inl (k_deduction_givenInRound, 17, .inl v_39.2.2))]) [0, 1, 2, 3, 4, 5, 6] rfl
  have hD := hD.sub (ws' := [(h_o, .inr (3, [.ref h_line, .ref h_factSets, .int v_markedPlus, .int v_markedMinus, .ref h_program, .ref h_deduction])), (h_factSets, .inl (k_factSets, 2, .inl v_factSets)), (h_program, .inr (2, [.ref h_program_bodies, .int v_program_count])), (h_program_bodies, .inl (k_program_bodies, 2, .inl v_program_bodies)), (h_deduction, .inr (0, [.ref h_deduction_factChoices, .ref h_deduction_givenInRound, .int v_39.1, .int v_39.2.1])), (h_deduction_factChoices, .inl (k_deduction_factChoices, 18, .inr (.inl v_16))), (h_deduction_givenInRound, .inl (k_deduction_givenInRound, 17, .inl v_39.2.2))]) [0, 1, 2, 3, 4, 5, 6] (by decide) rfl
  generalize H1 = H at hP hS ⊢
  rw [hQ]
  exact W.vret hx hb hr (fun t ht hW => ⟨⟨(v_39.1, v_39.2.1, v_16, v_39.2.2), rfl, Option.some.inj h, by rw [ht]; exact hP, va_K.moved hW.alike hK, hD⟩, hS.F ht⟩) hS.2.2 d_H_deduceProgram_42
set_option maxHeartbeats 1000000 in
set_option maxRecDepth 100000 in
theorem c_H_deductionFits (l : Launch) (dC : Nat → ClassId) (dI : Nat → Nat → Nat) (h_o h_line h_factSets h_program h_deduction h_deduction_factChoices h_deduction_givenInRound : Nat) (sz : Nat) (v_markedPlus : Int32) (v_markedMinus : Int32) (v_deduction_givenPairs : Int32) (v_deduction_roundCount : Int32) (r0 : Int32) (u0 : Unit) (h : m_H_deductionFits v_markedPlus v_markedMinus v_deduction_givenPairs = some (r0, u0)) : Met l y_H_deductionFits w_H_deductionFits ({ frames := 0, cells := 0, slots := 0, locals := 0 } : Room) (va_Pc [.ref h_o] (fun U => U.heap.size = sz ∧ va_P (dC, dI) classes [(h_o, .inr (3, [.ref h_line, .ref h_factSets, .int v_markedPlus, .int v_markedMinus, .ref h_program, .ref h_deduction])), (h_deduction, .inr (0, [.ref h_deduction_factChoices, .ref h_deduction_givenInRound, .int v_deduction_givenPairs, .int v_deduction_roundCount]))] U.heap ∧ va_K (dC, dI) classes [] U ∧ va_D (fun _ => True) [(h_o, .inr (3, [.ref h_line, .ref h_factSets, .int v_markedPlus, .int v_markedMinus, .ref h_program, .ref h_deduction])), (h_deduction, .inr (0, [.ref h_deduction_factChoices, .ref h_deduction_givenInRound, .int v_deduction_givenPairs, .int v_deduction_roundCount]))])) (va_Qi (fun (r : Int32) (u : Unit) => r = r0 ∧ u = u0) (fun (u : Unit) (t : State) => va_P (dC, dI) classes [(h_o, .inr (3, [.ref h_line, .ref h_factSets, .int v_markedPlus, .int v_markedMinus, .ref h_program, .ref h_deduction])), (h_deduction, .inr (0, [.ref h_deduction_factChoices, .ref h_deduction_givenInRound, .int v_deduction_givenPairs, .int v_deduction_roundCount]))] t.heap ∧ va_K (dC, dI) classes [] t ∧ va_D (va_A [(h_o, .inr (3, [.ref h_line, .ref h_factSets, .int v_markedPlus, .int v_markedMinus, .ref h_program, .ref h_deduction])), (h_deduction, .inr (0, [.ref h_deduction_factChoices, .ref h_deduction_givenInRound, .int v_deduction_givenPairs, .int v_deduction_roundCount]))] sz) [(h_o, .inr (3, [.ref h_line, .ref h_factSets, .int v_markedPlus, .int v_markedMinus, .ref h_program, .ref h_deduction])), (h_deduction, .inr (0, [.ref h_deduction_factChoices, .ref h_deduction_givenInRound, .int v_deduction_givenPairs, .int v_deduction_roundCount]))]) (va_A [(h_o, .inr (3, [.ref h_line, .ref h_factSets, .int v_markedPlus, .int v_markedMinus, .ref h_program, .ref h_deduction])), (h_deduction, .inr (0, [.ref h_deduction_factChoices, .ref h_deduction_givenInRound, .int v_deduction_givenPairs, .int v_deduction_roundCount]))] sz)) 0 0 (va_A [(h_o, .inr (3, [.ref h_line, .ref h_factSets, .int v_markedPlus, .int v_markedMinus, .ref h_program, .ref h_deduction])), (h_deduction, .inr (0, [.ref h_deduction_factChoices, .ref h_deduction_givenInRound, .int v_deduction_givenPairs, .int v_deduction_roundCount]))] sz) := by
  refine Met.ofW (cc := b_H_deductionFits) (maxL := 1) (ret := (some .boolean)) (by decide) rfl ?_
  intro p e s m args below meth c s₁ B hml hv
  obtain ⟨rfl, hsz, hP, hK, hD0⟩ := hv
  have hx := B.exec
  have hb := B.bytes
  have hr := B.returns
  have hts0 := atoms_spec (ws := w_H_deductionFits) B.pre
  have hts : ∀ w ∈ lw_gd, w.before ([.ref h_o] : List Value).toArray s = true := fun w h9 => hts0 w (List.mem_cons_of_mem _ h9)
  have hown : s.vm.findClass R_H = some m.cls := findClass_of_methodNamed B.named
  have hlocks := B.notSynchronized
  subst hsz
  have hD := hD0.self (sz := s.heap.size)
  generalize hAe : va_A [(h_o, .inr (3, [.ref h_line, .ref h_factSets, .int v_markedPlus, .int v_markedMinus, .ref h_program, .ref h_deduction])), (h_deduction, .inr (0, [.ref h_deduction_factChoices, .ref h_deduction_givenInRound, .int v_deduction_givenPairs, .int v_deduction_roundCount]))] s.heap.size = A at hD ⊢
  have hA : ∀ q : Nat, s.heap.size ≤ q → A q := fun q h9 => by rw [← hAe]; exact Or.inr h9
  obtain ⟨H, eH⟩ : ∃ H : Heap, H = s.heap := ⟨_, rfl⟩
  have hS : va_S A s.heap H [] := by rw [eH]; exact va_S.rf
  have hP : va_P (dC, dI) classes [(h_o, .inr (3, [.ref h_line, .ref h_factSets, .int v_markedPlus, .int v_markedMinus, .ref h_program, .ref h_deduction])), (h_deduction, .inr (0, [.ref h_deduction_factChoices, .ref h_deduction_givenInRound, .int v_deduction_givenPairs, .int v_deduction_roundCount]))] H := by rw [eH]; exact hP
  refine W_gen (fun Q hQ => ?_)
  refine W_heap eH ?_
  clear eH
  have hl := lv_entry ([.ref h_o]) (n := 1) (Nat.le_of_ble_eq_true rfl)
  rw [lg_entry_eq]
  generalize (lg_sl ([.ref h_o]) ++ List.replicate (1 - (lg_sl ([.ref h_o])).length) Slot.unset).toArray = ls at hl ⊢
  have hl : lv_has ls 1 [(0, .ref h_o)] := hl
  unfold m_H_deductionFits at h
  refine lv_aload_n hx hb d_H_deductionFits_0 rfl (lv_at hl 0 rfl) ?_
  refine va_get (D := (dC, dI)) (ci := 3) (v := .int v_markedPlus) (C := R_H) (T := F_H) (N := 6) hx hb hts lay_H hown hK hP 0 rfl rfl 2 (by decide) (hts _ flk_H_20) (fun _ h9 => h9) rfl d_H_deductionFits_1 ?_
  refine lv_aload_n hx hb d_H_deductionFits_4 rfl (lv_at hl 0 rfl) ?_
  refine va_get (D := (dC, dI)) (ci := 3) (v := .ref h_deduction) (C := R_H) (T := F_H) (N := 6) hx hb hts lay_H hown hK hP 0 rfl rfl 5 (by decide) (hts _ flk_H_37) (fun _ h9 => h9) rfl d_H_deductionFits_5 ?_
  refine va_get (D := (dC, dI)) (ci := 0) (v := .int v_deduction_givenPairs) (C := R_D) (T := F_D) (N := 4) hx hb hts lay_D hown hK hP 1 rfl rfl 2 (by decide) (hts _ flk_H_159) (fun _ h9 => h9) rfl d_H_deductionFits_8 ?_
  refine lv_iconst (v := (-1 : Int32)) hx hb d_H_deductionFits_11 (by decide) ?_
  refine lv_ixor hx hb d_H_deductionFits_12 ?_
  refine lv_iand hx hb d_H_deductionFits_13 ?_
  refine lv_if_ne (tgt := 36) hx hb d_H_deductionFits_14 (by decide) (fun c_14 => ?_) (fun c_14 => ?_)
  · have h := of_neg h c_14
    refine lv_iconst (v := (nI 0)) hx hb d_H_deductionFits_36 (by decide) ?_
    rw [hQ]
    exact W.zret (v := (nI 0)) hx hb hr rfl (fun t ht hW => ⟨⟨(nI 0), (), rfl, Prod.mk.inj (Option.some.inj h), by rw [ht]; exact hP, va_K.moved hW.alike hK, hD⟩, hS.F ht⟩) hS.2.2 d_H_deductionFits_37
  · have h := of_pos h c_14
    refine lv_aload_n hx hb d_H_deductionFits_17 rfl (lv_at hl 0 rfl) ?_
    refine va_get (D := (dC, dI)) (ci := 3) (v := .int v_markedMinus) (C := R_H) (T := F_H) (N := 6) hx hb hts lay_H hown hK hP 0 rfl rfl 3 (by decide) (hts _ flk_H_24) (fun _ h9 => h9) rfl d_H_deductionFits_18 ?_
    refine lv_aload_n hx hb d_H_deductionFits_21 rfl (lv_at hl 0 rfl) ?_
    refine va_get (D := (dC, dI)) (ci := 3) (v := .ref h_deduction) (C := R_H) (T := F_H) (N := 6) hx hb hts lay_H hown hK hP 0 rfl rfl 5 (by decide) (hts _ flk_H_37) (fun _ h9 => h9) rfl d_H_deductionFits_22 ?_
    refine va_get (D := (dC, dI)) (ci := 0) (v := .int v_deduction_givenPairs) (C := R_D) (T := F_D) (N := 4) hx hb hts lay_D hown hK hP 1 rfl rfl 2 (by decide) (hts _ flk_H_159) (fun _ h9 => h9) rfl d_H_deductionFits_25 ?_
    refine lv_iand hx hb d_H_deductionFits_28 ?_
    refine lv_if_ne (tgt := 36) hx hb d_H_deductionFits_29 (by decide) (fun c_29 => ?_) (fun c_29 => ?_)
    · have h := of_neg h c_29
      refine lv_iconst (v := (nI 0)) hx hb d_H_deductionFits_36 (by decide) ?_
      rw [hQ]
      exact W.zret (v := (nI 0)) hx hb hr rfl (fun t ht hW => ⟨⟨(nI 0), (), rfl, Prod.mk.inj (Option.some.inj h), by rw [ht]; exact hP, va_K.moved hW.alike hK, hD⟩, hS.F ht⟩) hS.2.2 d_H_deductionFits_37
    · have h := of_pos h c_29
      refine lv_iconst (v := (nI 1)) hx hb d_H_deductionFits_32 (by decide) ?_
      refine lv_goto (tgt := 37) hx hb d_H_deductionFits_33 (by decide) ?_
      rw [hQ]
      exact W.zret (v := (nI 1)) hx hb hr rfl (fun t ht hW => ⟨⟨(nI 1), (), rfl, Prod.mk.inj (Option.some.inj h), by rw [ht]; exact hP, va_K.moved hW.alike hK, hD⟩, hS.F ht⟩) hS.2.2 d_H_deductionFits_37
