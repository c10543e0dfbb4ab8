theorem d_H_subsumes_0 : decode b_H_subsumes 0 = .ok (.aload_n 0, 1) := by decide +kernel
theorem d_H_subsumes_1 : decode b_H_subsumes 1 = .ok (.getfield 30, 3) := by decide +kernel
theorem d_H_subsumes_4 : decode b_H_subsumes 4 = .ok (.iload_n 1, 1) := by decide +kernel
theorem d_H_subsumes_5 : decode b_H_subsumes 5 = .ok (.invokevirtual 82, 3) := by decide +kernel
theorem d_H_subsumes_8 : decode b_H_subsumes 8 = .ok (.istore_n 3, 1) := by decide +kernel
theorem d_H_subsumes_9 : decode b_H_subsumes 9 = .ok (.aload_n 0, 1) := by decide +kernel
theorem d_H_subsumes_10 : decode b_H_subsumes 10 = .ok (.getfield 30, 3) := by decide +kernel
theorem d_H_subsumes_13 : decode b_H_subsumes 13 = .ok (.iload_n 2, 1) := by decide +kernel
theorem d_H_subsumes_14 : decode b_H_subsumes 14 = .ok (.invokevirtual 82, 3) := by decide +kernel
theorem d_H_subsumes_17 : decode b_H_subsumes 17 = .ok (.istore 4, 2) := by decide +kernel
theorem d_H_subsumes_19 : decode b_H_subsumes 19 = .ok (.iload_n 3, 1) := by decide +kernel
theorem d_H_subsumes_20 : decode b_H_subsumes 20 = .ok (.ifCond .eq 8, 3) := by decide +kernel
theorem d_H_subsumes_23 : decode b_H_subsumes 23 = .ok (.iload 4, 2) := by decide +kernel
theorem d_H_subsumes_25 : decode b_H_subsumes 25 = .ok (.ifCond .ne 5, 3) := by decide +kernel
theorem d_H_subsumes_28 : decode b_H_subsumes 28 = .ok (.iconst 0, 1) := by decide +kernel
theorem d_H_subsumes_29 : decode b_H_subsumes 29 = .ok (.ireturn, 1) := by decide +kernel
theorem d_H_subsumes_30 : decode b_H_subsumes 30 = .ok (.iconst 0, 1) := by decide +kernel
theorem d_H_subsumes_31 : decode b_H_subsumes 31 = .ok (.istore 5, 2) := by decide +kernel
theorem d_H_subsumes_33 : decode b_H_subsumes 33 = .ok (.iload 5, 2) := by decide +kernel
theorem d_H_subsumes_35 : decode b_H_subsumes 35 = .ok (.iconst 3, 1) := by decide +kernel
theorem d_H_subsumes_36 : decode b_H_subsumes 36 = .ok (.if_icmp .ge 25, 3) := by decide +kernel
theorem d_H_subsumes_39 : decode b_H_subsumes 39 = .ok (.iload_n 3, 1) := by decide +kernel
theorem d_H_subsumes_40 : decode b_H_subsumes 40 = .ok (.iload 5, 2) := by decide +kernel
theorem d_H_subsumes_42 : decode b_H_subsumes 42 = .ok (.invokestatic 91, 3) := by decide +kernel
theorem d_H_subsumes_45 : decode b_H_subsumes 45 = .ok (.iload 4, 2) := by decide +kernel
theorem d_H_subsumes_47 : decode b_H_subsumes 47 = .ok (.iconst (-1), 1) := by decide +kernel
theorem d_H_subsumes_48 : decode b_H_subsumes 48 = .ok (.ixor, 1) := by decide +kernel
theorem d_H_subsumes_49 : decode b_H_subsumes 49 = .ok (.iand, 1) := by decide +kernel
theorem d_H_subsumes_50 : decode b_H_subsumes 50 = .ok (.ifCond .ne 5, 3) := by decide +kernel
theorem d_H_subsumes_53 : decode b_H_subsumes 53 = .ok (.iconst 1, 1) := by decide +kernel
theorem d_H_subsumes_54 : decode b_H_subsumes 54 = .ok (.ireturn, 1) := by decide +kernel
theorem d_H_subsumes_55 : decode b_H_subsumes 55 = .ok (.iinc 5 1, 3) := by decide +kernel
theorem d_H_subsumes_58 : decode b_H_subsumes 58 = .ok (.goto (-25), 3) := by decide +kernel
theorem d_H_subsumes_61 : decode b_H_subsumes 61 = .ok (.iconst 0, 1) := by decide +kernel
theorem d_H_subsumes_62 : decode b_H_subsumes 62 = .ok (.ireturn, 1) := by decide +kernel
set_option maxHeartbeats 1000000 in
set_option maxRecDepth 100000 in
theorem c_H_subsumes (l : Launch) (dC : Nat → ClassId) (dI : Nat → Nat → Nat) (h_o h_line h_factSets h_program h_deduction h_program_bodies : Nat) (k_program_bodies : ClassId) (sz : Nat) (v_markedPlus : Int32) (v_markedMinus : Int32) (v_program_count : Int32) (v_program_bodies : Nat → Int32) (x1 : Int32) (x2 : Int32) (r0 : Int32) (u0 : Unit) (h : m_H_subsumes v_program_count v_program_bodies x1 x2 = some (r0, u0)) : Met l y_H_subsumes w_H_subsumes ({ frames := 3, cells := 0, slots := 0, locals := 67 } : Room) (va_Pc [.ref h_o, .int x1, .int x2] (fun U => U.heap.size = sz ∧ va_P (dC, dI) classes [(h_o, .inr (3, [.ref h_line, .ref h_factSets, .int v_markedPlus, .int v_markedMinus, .ref h_program, .ref h_deduction])), (h_program, .inr (2, [.ref h_program_bodies, .int v_program_count])), (h_program_bodies, .inl (k_program_bodies, 2, .inl v_program_bodies))] U.heap ∧ va_K (dC, dI) classes [(k_program_bodies, .int)] U ∧ va_D (fun _ => True) [(h_o, .inr (3, [.ref h_line, .ref h_factSets, .int v_markedPlus, .int v_markedMinus, .ref h_program, .ref h_deduction])), (h_program, .inr (2, [.ref h_program_bodies, .int v_program_count])), (h_program_bodies, .inl (k_program_bodies, 2, .inl v_program_bodies))])) (va_Qi (fun (r : Int32) (u : Unit) => r = r0 ∧ u = u0) (fun (u : Unit) (t : State) => va_P (dC, dI) classes [(h_o, .inr (3, [.ref h_line, .ref h_factSets, .int v_markedPlus, .int v_markedMinus, .ref h_program, .ref h_deduction])), (h_program, .inr (2, [.ref h_program_bodies, .int v_program_count])), (h_program_bodies, .inl (k_program_bodies, 2, .inl v_program_bodies))] t.heap ∧ va_K (dC, dI) classes [(k_program_bodies, .int)] t ∧ va_D (va_A [(h_o, .inr (3, [.ref h_line, .ref h_factSets, .int v_markedPlus, .int v_markedMinus, .ref h_program, .ref h_deduction])), (h_program, .inr (2, [.ref h_program_bodies, .int v_program_count])), (h_program_bodies, .inl (k_program_bodies, 2, .inl v_program_bodies))] sz) [(h_o, .inr (3, [.ref h_line, .ref h_factSets, .int v_markedPlus, .int v_markedMinus, .ref h_program, .ref h_deduction])), (h_program, .inr (2, [.ref h_program_bodies, .int v_program_count])), (h_program_bodies, .inl (k_program_bodies, 2, .inl v_program_bodies))]) (va_A [(h_o, .inr (3, [.ref h_line, .ref h_factSets, .int v_markedPlus, .int v_markedMinus, .ref h_program, .ref h_deduction])), (h_program, .inr (2, [.ref h_program_bodies, .int v_program_count])), (h_program_bodies, .inl (k_program_bodies, 2, .inl v_program_bodies))] sz)) 0 0 (va_A [(h_o, .inr (3, [.ref h_line, .ref h_factSets, .int v_markedPlus, .int v_markedMinus, .ref h_program, .ref h_deduction])), (h_program, .inr (2, [.ref h_program_bodies, .int v_program_count])), (h_program_bodies, .inl (k_program_bodies, 2, .inl v_program_bodies))] sz) := by
  refine Met.ofW (cc := b_H_subsumes) (maxL := 6) (ret := (some .boolean)) (by decide) rfl ?_
  intro p e s m args below meth c s₁ B hml hv
  obtain ⟨rfl, hsz, hP, hK, hD0⟩ := hv
  have hx := B.exec
  have hb := B.bytes
  have hr := B.returns
  have hts0 := atoms_spec (ws := w_H_subsumes) B.pre
  have hts : ∀ w ∈ lw_gd, w.before ([.ref h_o, .int x1, .int x2] : List Value).toArray s = true := fun w h9 => hts0 w (List.mem_cons_of_mem _ h9)
  have hown : s.vm.findClass R_H = some m.cls := findClass_of_methodNamed B.named
  have hlocks := B.notSynchronized
  subst hsz
  have hD := hD0.self (sz := s.heap.size)
  generalize hAe : va_A [(h_o, .inr (3, [.ref h_line, .ref h_factSets, .int v_markedPlus, .int v_markedMinus, .ref h_program, .ref h_deduction])), (h_program, .inr (2, [.ref h_program_bodies, .int v_program_count])), (h_program_bodies, .inl (k_program_bodies, 2, .inl v_program_bodies))] s.heap.size = A at hD ⊢
  have hA : ∀ q : Nat, s.heap.size ≤ q → A q := fun q h9 => by rw [← hAe]; exact Or.inr h9
  obtain ⟨H, eH⟩ : ∃ H : Heap, H = s.heap := ⟨_, rfl⟩
  have hS : va_S A s.heap H [] := by rw [eH]; exact va_S.rf
  have hP : va_P (dC, dI) classes [(h_o, .inr (3, [.ref h_line, .ref h_factSets, .int v_markedPlus, .int v_markedMinus, .ref h_program, .ref h_deduction])), (h_program, .inr (2, [.ref h_program_bodies, .int v_program_count])), (h_program_bodies, .inl (k_program_bodies, 2, .inl v_program_bodies))] H := by rw [eH]; exact hP
  refine W_gen (fun Q hQ => ?_)
  refine W_heap eH ?_
  clear eH
  have hl := lv_entry ([.ref h_o, .int x1, .int x2]) (n := 6) (Nat.le_of_ble_eq_true rfl)
  rw [lg_entry_eq]
  generalize (lg_sl ([.ref h_o, .int x1, .int x2]) ++ List.replicate (6 - (lg_sl ([.ref h_o, .int x1, .int x2])).length) Slot.unset).toArray = ls at hl ⊢
  have hl : lv_has ls 6 [(0, .ref h_o), (1, .int x1), (2, .int x2)] := hl
  have J_33 : ∀ (n : Nat) (z3 : Int32) (z4 : Int32) (z5 : Int32), m_H_subsumes_33 v_program_count v_program_bodies n z3 z4 z5 = some (r0, u0) → ∀ (H : Heap) (locs : List Loc), va_P (dC, dI) classes [(h_o, .inr (3, [.ref h_line, .ref h_factSets, .int v_markedPlus, .int v_markedMinus, .ref h_program, .ref h_deduction])), (h_program, .inr (2, [.ref h_program_bodies, .int v_program_count])), (h_program_bodies, .inl (k_program_bodies, 2, .inl v_program_bodies))] H → va_D A [(h_o, .inr (3, [.ref h_line, .ref h_factSets, .int v_markedPlus, .int v_markedMinus, .ref h_program, .ref h_deduction])), (h_program, .inr (2, [.ref h_program_bodies, .int v_program_count])), (h_program_bodies, .inl (k_program_bodies, 2, .inl v_program_bodies))] → va_S A s.heap H locs → ∀ (ls : Array Slot), lv_has ls 6 [(3, .int z3), (4, .int z4), (5, .int z5)] → W p l e (headSpec w_H_subsumes ({ frames := 3, cells := 0, slots := 0, locals := 67 } : Room)).room s m ([.ref h_o, .int x1, .int x2] : List Value).toArray below meth c H locs 0 0 Q (F0 m 33 ls []) := by
    intro n
    induction n with
    | zero => intro z3 z4 z5 h; exact absurd h (by unfold m_H_subsumes_33; exact fun h9 => nomatch h9)
    | succ n ih =>
      intro z3 z4 z5 h H locs hP hD hS ls hl
      unfold m_H_subsumes_33 at h
      refine lv_iload hx hb d_H_subsumes_33 (lv_at hl 2 rfl) ?_
      refine lv_iconst (v := (nI 3)) hx hb d_H_subsumes_35 (by decide) ?_
      refine lv_icmp_ge (tgt := 61) hx hb d_H_subsumes_36 (by decide) (fun c_36 => ?_) (fun c_36 => ?_)
      · have h := of_pos h c_36
        refine lv_iconst (v := (nI 0)) hx hb d_H_subsumes_61 (by decide) ?_
        rw [hQ]
        exact W.zret (v := (nI 0)) hx hb hr rfl (fun t ht hW => ⟨⟨(nI 0), (), rfl, Prod.mk.inj (Option.some.inj h), by rw [ht]; exact hP, va_K.moved hW.alike hK, hD⟩, hS.F ht⟩) hS.2.2 d_H_subsumes_62
      · have h := of_neg h c_36
        refine lv_iload_n hx hb d_H_subsumes_39 rfl (lv_at hl 0 rfl) ?_
        refine lv_iload hx hb d_H_subsumes_40 (lv_at hl 2 rfl) ?_
        have hPc := hP.sub (ws' := []) [] rfl
        have hDc := hD.sub (ws' := []) [] (by decide) rfl
        have hKc := hK.sub (tys' := []) [] rfl
        have hFc := va_free (wc := []) hD hS hA [] rfl
        obtain ⟨v_42, hc_42, h⟩ := of_bind h
        refine va_calli (va_runS (As := [.int z3, .int z5]) (rest := []) ⟨hx, hb, hml, hown, hts⟩ (c_H_withVariableForZ l dC dI H.size z3 z5 v_42.1 v_42.2 hc_42) (va_cwS 2 hts (gS mlk_H_91 sta_H_withVariableForZ ini_H cod_H_withVariableForZ) rfl rfl rfl (by decide +kernel) ⟨Nat.le_of_ble_eq_true rfl, Nat.le_of_ble_eq_true rfl⟩) ⟨fun a U g mk q => by obtain ⟨q0, q1, qP, qK, qD⟩ := q; exact ⟨q0, q1, qP, va_K.moved (u := U) (U := U.calling g mk a) (Vm.Alike.refl U.vm) qK, qD⟩, fun U hU hW => ⟨rfl, by rw [hU], by rw [hU]; exact hPc, va_K.moved hW.alike hKc, hDc.weaken (fun _ _ _ _ => trivial)⟩⟩ rfl rfl hl.1 rfl (lv_room (Nat.le_of_ble_eq_true rfl)) d_H_subsumes_42 ⟨Nat.le_of_ble_eq_true rfl, Nat.le_of_ble_eq_true rfl⟩) hS (fun q _ h9 => hFc q h9) hFc (fun r_42 u t H1 locs ht hvm hw hB hz1 hk1 hS => ?_)
        obtain ⟨rfl, rfl⟩ := hw
        obtain ⟨hP1, hK1, hD1⟩ := hB
        rw [ht] at hP1
        obtain ⟨hP, hD⟩ := va_join (wr := [(h_o, .inr (3, [.ref h_line, .ref h_factSets, .int v_markedPlus, .int v_markedMinus, .ref h_program, .ref h_deduction])), (h_program, .inr (2, [.ref h_program_bodies, .int v_program_count])), (h_program_bodies, .inl (k_program_bodies, 2, .inl v_program_bodies))]) (w1 := []) hP hD [] [0, 1, 2] rfl rfl (by decide) (by decide) hk1 hFc hP1 hD1
        have hP := hP.sub (ws' := [(h_o, .inr (3, [.ref h_line, .ref h_factSets, .int v_markedPlus, .int v_markedMinus, .ref h_program, .ref h_deduction])), (h_program, .inr (2, [.ref h_program_bodies, .int v_program_count])), (h_program_bodies, .inl (k_program_bodies, 2, .inl v_program_bodies))]) [0, 1, 2] rfl
        have hD := hD.sub (ws' := [(h_o, .inr (3, [.ref h_line, .ref h_factSets, .int v_markedPlus, .int v_markedMinus, .ref h_program, .ref h_deduction])), (h_program, .inr (2, [.ref h_program_bodies, .int v_program_count])), (h_program_bodies, .inl (k_program_bodies, 2, .inl v_program_bodies))]) [0, 1, 2] (by decide) rfl
        generalize H1 = H at hP hS ⊢
        refine lv_iload hx hb d_H_subsumes_45 (lv_at hl 1 rfl) ?_
        refine lv_iconst (v := (-1 : Int32)) hx hb d_H_subsumes_47 (by decide) ?_
        refine lv_ixor hx hb d_H_subsumes_48 ?_
        refine lv_iand hx hb d_H_subsumes_49 ?_
        refine lv_if_ne (tgt := 55) hx hb d_H_subsumes_50 (by decide) (fun c_50 => ?_) (fun c_50 => ?_)
        · have h := of_neg h c_50
          refine lv_iinc (v := z5 + (nI 1)) (lv' := [(5, .int (z5 + (nI 1))), (3, .int z3), (4, .int z4)]) hx hb d_H_subsumes_55 hl (k := 2) rfl rfl (by decide) rfl (fun ls hl => ?_)
          refine lv_goto (tgt := 33) hx hb d_H_subsumes_58 (by decide) ?_
          exact ih z3 z4 (z5 + (nI 1)) h _ _ hP hD hS ls (lv_sub hl [1, 2, 0] rfl)
        · have h := of_pos h c_50
          refine lv_iconst (v := (nI 1)) hx hb d_H_subsumes_53 (by decide) ?_
          rw [hQ]
          exact W.zret (v := (nI 1)) hx hb hr rfl (fun t ht hW => ⟨⟨(nI 1), (), rfl, Prod.mk.inj (Option.some.inj h), by rw [ht]; exact hP, va_K.moved hW.alike hK, hD⟩, hS.F ht⟩) hS.2.2 d_H_subsumes_54
  unfold m_H_subsumes at h
  refine lv_aload_n hx hb d_H_subsumes_0 rfl (lv_at hl 0 rfl) ?_
  refine va_get (D := (dC, dI)) (ci := 3) (v := .ref h_program) (C := R_H) (T := F_H) (N := 6) hx hb hts lay_H hown hK hP 0 rfl rfl 4 (by decide) (hts _ flk_H_30) (fun _ h9 => h9) rfl d_H_subsumes_1 ?_
  refine lv_iload_n hx hb d_H_subsumes_4 rfl (lv_at hl 1 rfl) ?_
  have hPc := hP.sub (ws' := [(h_program, .inr (2, [.ref h_program_bodies, .int v_program_count])), (h_program_bodies, .inl (k_program_bodies, 2, .inl v_program_bodies))]) [1, 2] rfl
  have hDc := hD.sub (ws' := [(h_program, .inr (2, [.ref h_program_bodies, .int v_program_count])), (h_program_bodies, .inl (k_program_bodies, 2, .inl v_program_bodies))]) [1, 2] (by decide) rfl
  have hKc := hK.sub (tys' := [(k_program_bodies, .int)]) [0] rfl
  have hFc := va_free (wc := [(h_program, .inr (2, [.ref h_program_bodies, .int v_program_count])), (h_program_bodies, .inl (k_program_bodies, 2, .inl v_program_bodies))]) hD hS hA [1, 2] rfl
  obtain ⟨v_5, hc_5, h⟩ := of_bind h
  refine va_calli (va_runV (As := [.int x1]) (rest := []) ⟨hx, hb, hml, hown, hts⟩ (c_P_bodyOf l dC dI h_program h_program_bodies k_program_bodies H.size v_program_count v_program_bodies x1 v_5.1 v_5.2 hc_5) (cwV 1 hts (gV mlk_H_82 ins_P_bodyOf sel_P_bodyOf ini_P cod_P_bodyOf) rfl rfl rfl (by decide +kernel) ⟨Nat.le_of_ble_eq_true rfl, Nat.le_of_ble_eq_true rfl⟩) ⟨fun a U g mk q => by obtain ⟨q0, q1, qP, qK, qD⟩ := q; exact ⟨q0, q1, qP, va_K.moved (u := U) (U := U.calling g mk a) (Vm.Alike.refl U.vm) qK, qD⟩, va_recv hKc hPc (ci := 2) (q0 := 0) rfl rfl, fun U hU hW => ⟨rfl, by rw [hU], by rw [hU]; exact hPc, va_K.moved hW.alike hKc, hDc.weaken (fun _ _ _ _ => trivial)⟩⟩ rfl rfl hl.1 rfl (lv_room (Nat.le_of_ble_eq_true rfl)) d_H_subsumes_5 ⟨Nat.le_of_ble_eq_true rfl, Nat.le_of_ble_eq_true rfl⟩) hS (fun q _ h9 => hFc q h9) hFc (fun r_5 u t H1 locs ht hvm hw hB hz1 hk1 hS => ?_)
  obtain ⟨rfl, rfl⟩ := hw
  obtain ⟨hP1, hK1, hD1⟩ := hB
  rw [ht] at hP1
  obtain ⟨hP, hD⟩ := va_join (wr := [(h_o, .inr (3, [.ref h_line, .ref h_factSets, .int v_markedPlus, .int v_markedMinus, .ref h_program, .ref h_deduction]))]) (w1 := [(h_program, .inr (2, [.ref h_program_bodies, .int v_program_count])), (h_program_bodies, .inl (k_program_bodies, 2, .inl v_program_bodies))]) hP hD [1, 2] [0] rfl rfl (by decide) (by decide) hk1 hFc hP1 hD1
  have hP := hP.sub (ws' := [(h_o, .inr (3, [.ref h_line, .ref h_factSets, .int v_markedPlus, .int v_markedMinus, .ref h_program, .ref h_deduction])), (h_program, .inr (2, [.ref h_program_bodies, .int v_program_count])), (h_program_bodies, .inl (k_program_bodies, 2, .inl v_program_bodies))]) [0, 1, 2] rfl
  have hD := hD.sub (ws' := [(h_o, .inr (3, [.ref h_line, .ref h_factSets, .int v_markedPlus, .int v_markedMinus, .ref h_program, .ref h_deduction])), (h_program, .inr (2, [.ref h_program_bodies, .int v_program_count])), (h_program_bodies, .inl (k_program_bodies, 2, .inl v_program_bodies))]) [0, 1, 2] (by decide) rfl
  generalize H1 = H at hP hS ⊢
  refine lv_istore_n (lv' := [(3, .int v_5.1), (0, .ref h_o), (1, .int x1), (2, .int x2)]) hx hb d_H_subsumes_8 rfl hl (by decide) rfl (fun ls hl => ?_)
  refine lv_aload_n hx hb d_H_subsumes_9 rfl (lv_at hl 1 rfl) ?_
  refine va_get (D := (dC, dI)) (ci := 3) (v := .ref h_program) (C := R_H) (T := F_H) (N := 6) hx hb hts lay_H hown hK hP 0 rfl rfl 4 (by decide) (hts _ flk_H_30) (fun _ h9 => h9) rfl d_H_subsumes_10 ?_
  refine lv_iload_n hx hb d_H_subsumes_13 rfl (lv_at hl 3 rfl) ?_
  have hPc := hP.sub (ws' := [(h_program, .inr (2, [.ref h_program_bodies, .int v_program_count])), (h_program_bodies, .inl (k_program_bodies, 2, .inl v_program_bodies))]) [1, 2] rfl
  have hDc := hD.sub (ws' := [(h_program, .inr (2, [.ref h_program_bodies, .int v_program_count])), (h_program_bodies, .inl (k_program_bodies, 2, .inl v_program_bodies))]) [1, 2] (by decide) rfl
  have hKc := hK.sub (tys' := [(k_program_bodies, .int)]) [0] rfl
  have hFc := va_free (wc := [(h_program, .inr (2, [.ref h_program_bodies, .int v_program_count])), (h_program_bodies, .inl (k_program_bodies, 2, .inl v_program_bodies))]) hD hS hA [1, 2] rfl
  obtain ⟨v_14, hc_14, h⟩ := of_bind h
  refine va_calli (va_runV (As := [.int x2]) (rest := []) ⟨hx, hb, hml, hown, hts⟩ (c_P_bodyOf l dC dI h_program h_program_bodies k_program_bodies H.size v_program_count v_program_bodies x2 v_14.1 v_14.2 hc_14) (cwV 1 hts (gV mlk_H_82 ins_P_bodyOf sel_P_bodyOf ini_P cod_P_bodyOf) rfl rfl rfl (by decide +kernel) ⟨Nat.le_of_ble_eq_true rfl, Nat.le_of_ble_eq_true rfl⟩) ⟨fun a U g mk q => by obtain ⟨q0, q1, qP, qK, qD⟩ := q; exact ⟨q0, q1, qP, va_K.moved (u := U) (U := U.calling g mk a) (Vm.Alike.refl U.vm) qK, qD⟩, va_recv hKc hPc (ci := 2) (q0 := 0) rfl rfl, fun U hU hW => ⟨rfl, by rw [hU], by rw [hU]; exact hPc, va_K.moved hW.alike hKc, hDc.weaken (fun _ _ _ _ => trivial)⟩⟩ rfl rfl hl.1 rfl (lv_room (Nat.le_of_ble_eq_true rfl)) d_H_subsumes_14 ⟨Nat.le_of_ble_eq_true rfl, Nat.le_of_ble_eq_true rfl⟩) hS (fun q _ h9 => hFc q h9) hFc (fun r_14 u t H1 locs ht hvm hw hB hz1 hk1 hS => ?_)
  obtain ⟨rfl, rfl⟩ := hw
  obtain ⟨hP1, hK1, hD1⟩ := hB
  rw [ht] at hP1
  obtain ⟨hP, hD⟩ := va_join (wr := [(h_o, .inr (3, [.ref h_line, .ref h_factSets, .int v_markedPlus, .int v_markedMinus, .ref h_program, .ref h_deduction]))]) (w1 := [(h_program, .inr (2, [.ref h_program_bodies, .int v_program_count])), (h_program_bodies, .inl (k_program_bodies, 2, .inl v_program_bodies))]) hP hD [1, 2] [0] rfl rfl (by decide) (by decide) hk1 hFc hP1 hD1
  have hP := hP.sub (ws' := [(h_o, .inr (3, [.ref h_line, .ref h_factSets, .int v_markedPlus, .int v_markedMinus, .ref h_program, .ref h_deduction])), (h_program, .inr (2, [.ref h_program_bodies, .int v_program_count])), (h_program_bodies, .inl (k_program_bodies, 2, .inl v_program_bodies))]) [0, 1, 2] rfl
  have hD := hD.sub (ws' := [(h_o, .inr (3, [.ref h_line, .ref h_factSets, .int v_markedPlus, .int v_markedMinus, .ref h_program, .ref h_deduction])), (h_program, .inr (2, [.ref h_program_bodies, .int v_program_count])), (h_program_bodies, .inl (k_program_bodies, 2, .inl v_program_bodies))]) [0, 1, 2] (by decide) rfl
  generalize H1 = H at hP hS ⊢
  refine lv_istore (lv' := [(4, .int v_14.1), (3, .int v_5.1), (0, .ref h_o), (1, .int x1), (2, .int x2)]) hx hb d_H_subsumes_17 hl (by decide) rfl (fun ls hl => ?_)
  refine lv_iload_n hx hb d_H_subsumes_19 rfl (lv_at hl 1 rfl) ?_
  refine lv_if_eq (tgt := 28) hx hb d_H_subsumes_20 (by decide) (fun c_20 => ?_) (fun c_20 => ?_)
  · have h := of_pos h c_20
    refine lv_iconst (v := (nI 0)) hx hb d_H_subsumes_28 (by decide) ?_
    rw [hQ]
    exact W.zret (v := (nI 0)) hx hb hr rfl (fun t ht hW => ⟨⟨(nI 0), (), rfl, Prod.mk.inj (Option.some.inj h), by rw [ht]; exact hP, va_K.moved hW.alike hK, hD⟩, hS.F ht⟩) hS.2.2 d_H_subsumes_29
  · have h := of_neg h c_20
    refine lv_iload hx hb d_H_subsumes_23 (lv_at hl 0 rfl) ?_
    refine lv_if_ne (tgt := 30) hx hb d_H_subsumes_25 (by decide) (fun c_25 => ?_) (fun c_25 => ?_)
    · have h := of_neg h c_25
      refine lv_iconst (v := (nI 0)) hx hb d_H_subsumes_30 (by decide) ?_
      refine lv_istore (lv' := [(5, .int (nI 0)), (4, .int v_14.1), (3, .int v_5.1), (0, .ref h_o), (1, .int x1), (2, .int x2)]) hx hb d_H_subsumes_31 hl (by decide) rfl (fun ls hl => ?_)
      exact J_33 40 v_5.1 v_14.1 (nI 0) h _ _ hP hD hS ls (lv_sub hl [2, 1, 0] rfl)
    · have h := of_pos h c_25
      refine lv_iconst (v := (nI 0)) hx hb d_H_subsumes_28 (by decide) ?_
      rw [hQ]
      exact W.zret (v := (nI 0)) hx hb hr rfl (fun t ht hW => ⟨⟨(nI 0), (), rfl, Prod.mk.inj (Option.some.inj h), by rw [ht]; exact hP, va_K.moved hW.alike hK, hD⟩, hS.F ht⟩) hS.2.2 d_H_subsumes_29
