theorem d_L_init_0 : decode b_L_init 0 = .ok (.aload_n 0, 1) := by decide +kernel
theorem d_L_init_1 : decode b_L_init 1 = .ok (.invokespecial 3, 3) := by decide +kernel
theorem d_L_init_4 : decode b_L_init 4 = .ok (.aload_n 0, 1) := by decide +kernel
theorem d_L_init_5 : decode b_L_init 5 = .ok (.bipush 32, 2) := by decide +kernel
theorem d_L_init_7 : decode b_L_init 7 = .ok (.newarray .char, 2) := by decide +kernel
theorem d_L_init_9 : decode b_L_init 9 = .ok (.putfield 11, 3) := by decide +kernel
theorem d_L_init_12 : decode b_L_init 12 = .ok (.aload_n 0, 1) := by decide +kernel
theorem d_L_init_13 : decode b_L_init 13 = .ok (.iconst 0, 1) := by decide +kernel
theorem d_L_init_14 : decode b_L_init 14 = .ok (.putfield 15, 3) := by decide +kernel
theorem d_L_init_17 : decode b_L_init 17 = .ok (.return_, 1) := by decide +kernel
theorem d_P_init_0 : decode b_P_init 0 = .ok (.aload_n 0, 1) := by decide +kernel
theorem d_P_init_1 : decode b_P_init 1 = .ok (.invokespecial 3, 3) := by decide +kernel
theorem d_P_init_4 : decode b_P_init 4 = .ok (.aload_n 0, 1) := by decide +kernel
theorem d_P_init_5 : decode b_P_init 5 = .ok (.iconst 2, 1) := by decide +kernel
theorem d_P_init_6 : decode b_P_init 6 = .ok (.newarray .int, 2) := by decide +kernel
theorem d_P_init_8 : decode b_P_init 8 = .ok (.putfield 9, 3) := by decide +kernel
theorem d_P_init_11 : decode b_P_init 11 = .ok (.aload_n 0, 1) := by decide +kernel
theorem d_P_init_12 : decode b_P_init 12 = .ok (.iconst 0, 1) := by decide +kernel
theorem d_P_init_13 : decode b_P_init 13 = .ok (.putfield 15, 3) := by decide +kernel
theorem d_P_init_16 : decode b_P_init 16 = .ok (.return_, 1) := by decide +kernel
theorem d_D_init_0 : decode b_D_init 0 = .ok (.aload_n 0, 1) := by decide +kernel
theorem d_D_init_1 : decode b_D_init 1 = .ok (.invokespecial 3, 3) := by decide +kernel
theorem d_D_init_4 : decode b_D_init 4 = .ok (.aload_n 0, 1) := by decide +kernel
theorem d_D_init_5 : decode b_D_init 5 = .ok (.bipush 18, 2) := by decide +kernel
theorem d_D_init_7 : decode b_D_init 7 = .ok (.newarray .long, 2) := by decide +kernel
theorem d_D_init_9 : decode b_D_init 9 = .ok (.putfield 9, 3) := by decide +kernel
theorem d_D_init_12 : decode b_D_init 12 = .ok (.aload_n 0, 1) := by decide +kernel
theorem d_D_init_13 : decode b_D_init 13 = .ok (.bipush 17, 2) := by decide +kernel
theorem d_D_init_15 : decode b_D_init 15 = .ok (.newarray .int, 2) := by decide +kernel
theorem d_D_init_17 : decode b_D_init 17 = .ok (.putfield 15, 3) := by decide +kernel
theorem d_D_init_20 : decode b_D_init 20 = .ok (.aload_n 0, 1) := by decide +kernel
theorem d_D_init_21 : decode b_D_init 21 = .ok (.iconst 0, 1) := by decide +kernel
theorem d_D_init_22 : decode b_D_init 22 = .ok (.putfield 19, 3) := by decide +kernel
theorem d_D_init_25 : decode b_D_init 25 = .ok (.aload_n 0, 1) := by decide +kernel
theorem d_D_init_26 : decode b_D_init 26 = .ok (.iconst 0, 1) := by decide +kernel
theorem d_D_init_27 : decode b_D_init 27 = .ok (.putfield 23, 3) := by decide +kernel
theorem d_D_init_30 : decode b_D_init 30 = .ok (.return_, 1) := by decide +kernel
theorem d_H_init_0 : decode b_H_init 0 = .ok (.aload_n 0, 1) := by decide +kernel
theorem d_H_init_1 : decode b_H_init 1 = .ok (.invokespecial 3, 3) := by decide +kernel
theorem d_H_init_4 : decode b_H_init 4 = .ok (.aload_n 0, 1) := by decide +kernel
theorem d_H_init_5 : decode b_H_init 5 = .ok (.new 9, 3) := by decide +kernel
theorem d_H_init_8 : decode b_H_init 8 = .ok (.dup, 1) := by decide +kernel
theorem d_H_init_9 : decode b_H_init 9 = .ok (.invokespecial 11, 3) := by decide +kernel
theorem d_H_init_12 : decode b_H_init 12 = .ok (.putfield 12, 3) := by decide +kernel
theorem d_H_init_15 : decode b_H_init 15 = .ok (.aload_n 0, 1) := by decide +kernel
theorem d_H_init_16 : decode b_H_init 16 = .ok (.iconst 2, 1) := by decide +kernel
theorem d_H_init_17 : decode b_H_init 17 = .ok (.newarray .int, 2) := by decide +kernel
theorem d_H_init_19 : decode b_H_init 19 = .ok (.putfield 16, 3) := by decide +kernel
theorem d_H_init_22 : decode b_H_init 22 = .ok (.aload_n 0, 1) := by decide +kernel
theorem d_H_init_23 : decode b_H_init 23 = .ok (.iconst 0, 1) := by decide +kernel
theorem d_H_init_24 : decode b_H_init 24 = .ok (.putfield 20, 3) := by decide +kernel
theorem d_H_init_27 : decode b_H_init 27 = .ok (.aload_n 0, 1) := by decide +kernel
theorem d_H_init_28 : decode b_H_init 28 = .ok (.iconst 0, 1) := by decide +kernel
theorem d_H_init_29 : decode b_H_init 29 = .ok (.putfield 24, 3) := by decide +kernel
theorem d_H_init_32 : decode b_H_init 32 = .ok (.aload_n 0, 1) := by decide +kernel
theorem d_H_init_33 : decode b_H_init 33 = .ok (.new 27, 3) := by decide +kernel
theorem d_H_init_36 : decode b_H_init 36 = .ok (.dup, 1) := by decide +kernel
theorem d_H_init_37 : decode b_H_init 37 = .ok (.invokespecial 29, 3) := by decide +kernel
theorem d_H_init_40 : decode b_H_init 40 = .ok (.putfield 30, 3) := by decide +kernel
theorem d_H_init_43 : decode b_H_init 43 = .ok (.aload_n 0, 1) := by decide +kernel
theorem d_H_init_44 : decode b_H_init 44 = .ok (.new 34, 3) := by decide +kernel
theorem d_H_init_47 : decode b_H_init 47 = .ok (.dup, 1) := by decide +kernel
theorem d_H_init_48 : decode b_H_init 48 = .ok (.invokespecial 36, 3) := by decide +kernel
theorem d_H_init_51 : decode b_H_init 51 = .ok (.putfield 37, 3) := by decide +kernel
theorem d_H_init_54 : decode b_H_init 54 = .ok (.return_, 1) := by decide +kernel
theorem d_M_init_0 : decode b_M_init 0 = .ok (.aload_n 0, 1) := by decide +kernel
theorem d_M_init_1 : decode b_M_init 1 = .ok (.invokespecial 1, 3) := by decide +kernel
theorem d_M_init_4 : decode b_M_init 4 = .ok (.aload_n 0, 1) := by decide +kernel
theorem d_M_init_5 : decode b_M_init 5 = .ok (.bipush 32, 2) := by decide +kernel
theorem d_M_init_7 : decode b_M_init 7 = .ok (.newarray .int, 2) := by decide +kernel
theorem d_M_init_9 : decode b_M_init 9 = .ok (.putfield 7, 3) := by decide +kernel
theorem d_M_init_12 : decode b_M_init 12 = .ok (.aload_n 0, 1) := by decide +kernel
theorem d_M_init_13 : decode b_M_init 13 = .ok (.bipush 32, 2) := by decide +kernel
theorem d_M_init_15 : decode b_M_init 15 = .ok (.newarray .boolean, 2) := by decide +kernel
theorem d_M_init_17 : decode b_M_init 17 = .ok (.putfield 13, 3) := by decide +kernel
theorem d_M_init_20 : decode b_M_init 20 = .ok (.aload_n 0, 1) := by decide +kernel
theorem d_M_init_21 : decode b_M_init 21 = .ok (.bipush 16, 2) := by decide +kernel
theorem d_M_init_23 : decode b_M_init 23 = .ok (.newarray .int, 2) := by decide +kernel
theorem d_M_init_25 : decode b_M_init 25 = .ok (.putfield 17, 3) := by decide +kernel
theorem d_M_init_28 : decode b_M_init 28 = .ok (.aload_n 0, 1) := by decide +kernel
theorem d_M_init_29 : decode b_M_init 29 = .ok (.iconst 2, 1) := by decide +kernel
theorem d_M_init_30 : decode b_M_init 30 = .ok (.newarray .int, 2) := by decide +kernel
theorem d_M_init_32 : decode b_M_init 32 = .ok (.putfield 20, 3) := by decide +kernel
theorem d_M_init_35 : decode b_M_init 35 = .ok (.aload_n 0, 1) := by decide +kernel
theorem d_M_init_36 : decode b_M_init 36 = .ok (.bipush 6, 2) := by decide +kernel
theorem d_M_init_38 : decode b_M_init 38 = .ok (.newarray .int, 2) := by decide +kernel
theorem d_M_init_40 : decode b_M_init 40 = .ok (.putfield 23, 3) := by decide +kernel
theorem d_M_init_43 : decode b_M_init 43 = .ok (.aload_n 0, 1) := by decide +kernel
theorem d_M_init_44 : decode b_M_init 44 = .ok (.iconst 2, 1) := by decide +kernel
theorem d_M_init_45 : decode b_M_init 45 = .ok (.newarray .int, 2) := by decide +kernel
theorem d_M_init_47 : decode b_M_init 47 = .ok (.putfield 26, 3) := by decide +kernel
theorem d_M_init_50 : decode b_M_init 50 = .ok (.aload_n 0, 1) := by decide +kernel
theorem d_M_init_51 : decode b_M_init 51 = .ok (.bipush 6, 2) := by decide +kernel
theorem d_M_init_53 : decode b_M_init 53 = .ok (.newarray .int, 2) := by decide +kernel
theorem d_M_init_55 : decode b_M_init 55 = .ok (.putfield 29, 3) := by decide +kernel
theorem d_M_init_58 : decode b_M_init 58 = .ok (.aload_n 0, 1) := by decide +kernel
theorem d_M_init_59 : decode b_M_init 59 = .ok (.iconst 3, 1) := by decide +kernel
theorem d_M_init_60 : decode b_M_init 60 = .ok (.newarray .int, 2) := by decide +kernel
theorem d_M_init_62 : decode b_M_init 62 = .ok (.putfield 32, 3) := by decide +kernel
theorem d_M_init_65 : decode b_M_init 65 = .ok (.aload_n 0, 1) := by decide +kernel
theorem d_M_init_66 : decode b_M_init 66 = .ok (.bipush 16, 2) := by decide +kernel
theorem d_M_init_68 : decode b_M_init 68 = .ok (.newarray .int, 2) := by decide +kernel
theorem d_M_init_70 : decode b_M_init 70 = .ok (.putfield 35, 3) := by decide +kernel
theorem d_M_init_73 : decode b_M_init 73 = .ok (.aload_n 0, 1) := by decide +kernel
theorem d_M_init_74 : decode b_M_init 74 = .ok (.bipush 16, 2) := by decide +kernel
theorem d_M_init_76 : decode b_M_init 76 = .ok (.newarray .boolean, 2) := by decide +kernel
theorem d_M_init_78 : decode b_M_init 78 = .ok (.putfield 38, 3) := by decide +kernel
theorem d_M_init_81 : decode b_M_init 81 = .ok (.return_, 1) := by decide +kernel
set_option maxHeartbeats 4000000 in
set_option maxRecDepth 100000 in
theorem c_L_init (l : Launch) (dC : Nat → ClassId) (dI : Nat → Nat → Nat) (h_o : Nat) (sz : Nat) : Met l y_L_init w_L_init ({ frames := 1, cells := 1, slots := 32, locals := 20 } : Room) (va_Pc [.ref h_o] (fun U => U.heap.size = sz ∧ va_P (dC, dI) classes [(h_o, .inr (1, [.null, .int 0]))] U.heap ∧ va_K (dC, dI) classes [] U ∧ va_D (fun _ => True) [(h_o, .inr (1, [.null, .int 0]))])) (va_Qv (fun (_ : Nat × ClassId) => True) (fun (u : Nat × ClassId) (t : State) => va_P (dC, dI) classes [(h_o, .inr (1, [.ref u.1, .int 0])), (u.1, .inl (u.2, 32, .inl (fun _ => 0)))] t.heap ∧ va_K (dC, dI) classes [(u.2, .char)] t ∧ va_D (va_A [(h_o, .inr (1, [.null, .int 0]))] sz) [(h_o, .inr (1, [.ref u.1, .int 0])), (u.1, .inl (u.2, 32, .inl (fun _ => 0)))]) (va_A [(h_o, .inr (1, [.null, .int 0]))] sz)) 1 32 (va_A [(h_o, .inr (1, [.null, .int 0]))] sz) := by
  refine Met.ofW (cc := b_L_init) (maxL := 1) (ret := none) (by decide) rfl ?_
  intro p e s m args below meth c s₁ B hml hv
  obtain ⟨rfl, hsz, hP, hK, hD0⟩ := hv
  have hx := B.exec
  have hb := B.bytes
  have hr := B.returns
  have hts0 := atoms_spec (ws := w_L_init) B.pre
  have hts : ∀ w ∈ lw_gd, w.before ([.ref h_o] : List Value).toArray s = true := fun w h9 => hts0 w (List.mem_cons_of_mem _ h9)
  have hown : s.vm.findClass R_L = some m.cls := findClass_of_methodNamed B.named
  have hlocks := B.notSynchronized
  have hin : meth.name = "<init>" := (name_of_methodNamed B.named B.method).1
  subst hsz
  have hD := hD0.self (sz := s.heap.size)
  generalize hAe : va_A [(h_o, .inr (1, [.null, .int 0]))] s.heap.size = A at hD ⊢
  have hA : ∀ q : Nat, s.heap.size ≤ q → A q := fun q h9 => by rw [← hAe]; exact Or.inr h9
  obtain ⟨H, eH⟩ : ∃ H : Heap, H = s.heap := ⟨_, rfl⟩
  have hS : va_S A s.heap H [] := by rw [eH]; exact va_S.rf
  have hP : va_P (dC, dI) classes [(h_o, .inr (1, [.null, .int 0]))] H := by rw [eH]; exact hP
  refine W_heap eH ?_
  clear eH
  have hl := lv_entry ([.ref h_o]) (n := 1) (Nat.le_of_ble_eq_true rfl)
  rw [lg_entry_eq]
  generalize (lg_sl ([.ref h_o]) ++ List.replicate (1 - (lg_sl ([.ref h_o])).length) Slot.unset).toArray = ls at hl ⊢
  have hl : lv_has ls 1 [(0, .ref h_o)] := hl
  refine lv_aload_n hx hb d_L_init_0 rfl (lv_at hl 0 rfl) ?_
  refine W.objInit hx hb hown (hts _ mlk_L_3) (hts _ ins_O_init) (hts _ cod_O_init) rfl (by rw [hml]; exact hl.1) rfl d_L_init_1 (Nat.le_of_ble_eq_true rfl) (Nat.le_of_ble_eq_true rfl) ?_
  refine W.eq (g2 := F0 m 4 ls []) rfl ?_
  refine lv_aload_n hx hb d_L_init_4 rfl (lv_at hl 0 rfl) ?_
  refine lv_bipush (v := 32) hx hb d_L_init_5 (by decide) ?_
  refine va_newa (atype := .char) (ty := .char) (N' := 32) (a0 := (32, .inl (fun _ => 0))) hx hb (hts _ arc_char) rfl hK hP hD hS hA (fun _ => rfl) (by decide) (by decide) (by decide) (Nat.le_of_ble_eq_true rfl) (Nat.le_of_ble_eq_true rfl) d_L_init_7 (fun h_typed k_typed H hK hP hD hS => ?_)
  have hP : va_P (dC, dI) classes [(h_o, .inr (1, [.null, .int 0])), (h_typed, .inl (k_typed, 32, .inl (fun _ => 0)))] H := hP
  have hD : va_D A [(h_o, .inr (1, [.null, .int 0])), (h_typed, .inl (k_typed, 32, .inl (fun _ => 0)))] := hD
  have hK : va_K (dC, dI) classes [(k_typed, .char)] s := hK
  refine W.widen (k := 1) (n := 32) (by omega) (by omega) ?_
  refine va_putF (D := (dC, dI)) (ci := 1) (v := .ref h_typed) (ty := .array .char) (C := R_L) (T := F_L) (N := 2) hx hb hts lay_L t_L t_L_ok n_L hown hK hP hD hS 0 rfl rfl 0 (by decide) (hts _ flk_L_11) (fun _ h9 => h9) rfl hin rfl (by decide +kernel) rfl rfl (Nat.le_of_ble_eq_true rfl) d_L_init_9 (fun H locs hP hD hS => ?_)
  have hP : va_P (dC, dI) classes [(h_o, .inr (1, [.ref h_typed, .int 0])), (h_typed, .inl (k_typed, 32, .inl (fun _ => 0)))] H := hP
  have hD : va_D A [(h_o, .inr (1, [.ref h_typed, .int 0])), (h_typed, .inl (k_typed, 32, .inl (fun _ => 0)))] := hD
  refine lv_aload_n hx hb d_L_init_12 rfl (lv_at hl 0 rfl) ?_
  refine lv_iconst (v := 0) hx hb d_L_init_13 (by decide) ?_
  refine va_put (D := (dC, dI)) (ci := 1) (v := .int 0) (ty := .int) (C := R_L) (T := F_L) (N := 2) hx hb hts lay_L t_L t_L_ok n_L hown hK hP hD hS 0 rfl rfl 1 (by decide) (hts _ flk_L_15) (fun _ h9 => h9) rfl (by decide +kernel) rfl rfl (Nat.le_of_ble_eq_true rfl) d_L_init_14 (fun H locs hP hD hS => ?_)
  have hP : va_P (dC, dI) classes [(h_o, .inr (1, [.ref h_typed, .int 0])), (h_typed, .inl (k_typed, 32, .inl (fun _ => 0)))] H := hP
  have hD : va_D A [(h_o, .inr (1, [.ref h_typed, .int 0])), (h_typed, .inl (k_typed, 32, .inl (fun _ => 0)))] := hD
  exact W.vret hx hb hr (fun t ht hW => ⟨⟨(h_typed, k_typed), rfl, trivial, by rw [ht]; exact hP, va_K.moved hW.alike hK, hD⟩, hS.F ht⟩) hS.2.2 d_L_init_17
set_option maxHeartbeats 4000000 in
set_option maxRecDepth 100000 in
theorem c_P_init (l : Launch) (dC : Nat → ClassId) (dI : Nat → Nat → Nat) (h_o : Nat) (sz : Nat) : Met l y_P_init w_P_init ({ frames := 1, cells := 1, slots := 2, locals := 20 } : Room) (va_Pc [.ref h_o] (fun U => U.heap.size = sz ∧ va_P (dC, dI) classes [(h_o, .inr (2, [.null, .int 0]))] U.heap ∧ va_K (dC, dI) classes [] U ∧ va_D (fun _ => True) [(h_o, .inr (2, [.null, .int 0]))])) (va_Qv (fun (_ : Nat × ClassId) => True) (fun (u : Nat × ClassId) (t : State) => va_P (dC, dI) classes [(h_o, .inr (2, [.ref u.1, .int 0])), (u.1, .inl (u.2, 2, .inl (fun _ => 0)))] t.heap ∧ va_K (dC, dI) classes [(u.2, .int)] t ∧ va_D (va_A [(h_o, .inr (2, [.null, .int 0]))] sz) [(h_o, .inr (2, [.ref u.1, .int 0])), (u.1, .inl (u.2, 2, .inl (fun _ => 0)))]) (va_A [(h_o, .inr (2, [.null, .int 0]))] sz)) 1 2 (va_A [(h_o, .inr (2, [.null, .int 0]))] sz) := by
  refine Met.ofW (cc := b_P_init) (maxL := 1) (ret := none) (by decide) rfl ?_
  intro p e s m args below meth c s₁ B hml hv
  obtain ⟨rfl, hsz, hP, hK, hD0⟩ := hv
  have hx := B.exec
  have hb := B.bytes
  have hr := B.returns
  have hts0 := atoms_spec (ws := w_P_init) B.pre
  have hts : ∀ w ∈ lw_gd, w.before ([.ref h_o] : List Value).toArray s = true := fun w h9 => hts0 w (List.mem_cons_of_mem _ h9)
  have hown : s.vm.findClass R_P = some m.cls := findClass_of_methodNamed B.named
  have hlocks := B.notSynchronized
  have hin : meth.name = "<init>" := (name_of_methodNamed B.named B.method).1
  subst hsz
  have hD := hD0.self (sz := s.heap.size)
  generalize hAe : va_A [(h_o, .inr (2, [.null, .int 0]))] s.heap.size = A at hD ⊢
  have hA : ∀ q : Nat, s.heap.size ≤ q → A q := fun q h9 => by rw [← hAe]; exact Or.inr h9
  obtain ⟨H, eH⟩ : ∃ H : Heap, H = s.heap := ⟨_, rfl⟩
  have hS : va_S A s.heap H [] := by rw [eH]; exact va_S.rf
  have hP : va_P (dC, dI) classes [(h_o, .inr (2, [.null, .int 0]))] H := by rw [eH]; exact hP
  refine W_heap eH ?_
  clear eH
  have hl := lv_entry ([.ref h_o]) (n := 1) (Nat.le_of_ble_eq_true rfl)
  rw [lg_entry_eq]
  generalize (lg_sl ([.ref h_o]) ++ List.replicate (1 - (lg_sl ([.ref h_o])).length) Slot.unset).toArray = ls at hl ⊢
  have hl : lv_has ls 1 [(0, .ref h_o)] := hl
  refine lv_aload_n hx hb d_P_init_0 rfl (lv_at hl 0 rfl) ?_
  refine W.objInit hx hb hown (hts _ mlk_P_3) (hts _ ins_O_init) (hts _ cod_O_init) rfl (by rw [hml]; exact hl.1) rfl d_P_init_1 (Nat.le_of_ble_eq_true rfl) (Nat.le_of_ble_eq_true rfl) ?_
  refine W.eq (g2 := F0 m 4 ls []) rfl ?_
  refine lv_aload_n hx hb d_P_init_4 rfl (lv_at hl 0 rfl) ?_
  refine lv_iconst (v := 2) hx hb d_P_init_5 (by decide) ?_
  refine va_newa (atype := .int) (ty := .int) (N' := 2) (a0 := (2, .inl (fun _ => 0))) hx hb (hts _ arc_int) rfl hK hP hD hS hA (fun _ => rfl) (by decide) (by decide) (by decide) (Nat.le_of_ble_eq_true rfl) (Nat.le_of_ble_eq_true rfl) d_P_init_6 (fun h_bodies k_bodies H hK hP hD hS => ?_)
  have hP : va_P (dC, dI) classes [(h_o, .inr (2, [.null, .int 0])), (h_bodies, .inl (k_bodies, 2, .inl (fun _ => 0)))] H := hP
  have hD : va_D A [(h_o, .inr (2, [.null, .int 0])), (h_bodies, .inl (k_bodies, 2, .inl (fun _ => 0)))] := hD
  have hK : va_K (dC, dI) classes [(k_bodies, .int)] s := hK
  refine W.widen (k := 1) (n := 2) (by omega) (by omega) ?_
  refine va_putF (D := (dC, dI)) (ci := 2) (v := .ref h_bodies) (ty := .array .int) (C := R_P) (T := F_P) (N := 2) hx hb hts lay_P t_P t_P_ok n_P hown hK hP hD hS 0 rfl rfl 0 (by decide) (hts _ flk_P_9) (fun _ h9 => h9) rfl hin rfl (by decide +kernel) rfl rfl (Nat.le_of_ble_eq_true rfl) d_P_init_8 (fun H locs hP hD hS => ?_)
  have hP : va_P (dC, dI) classes [(h_o, .inr (2, [.ref h_bodies, .int 0])), (h_bodies, .inl (k_bodies, 2, .inl (fun _ => 0)))] H := hP
  have hD : va_D A [(h_o, .inr (2, [.ref h_bodies, .int 0])), (h_bodies, .inl (k_bodies, 2, .inl (fun _ => 0)))] := hD
  refine lv_aload_n hx hb d_P_init_11 rfl (lv_at hl 0 rfl) ?_
  refine lv_iconst (v := 0) hx hb d_P_init_12 (by decide) ?_
  refine va_put (D := (dC, dI)) (ci := 2) (v := .int 0) (ty := .int) (C := R_P) (T := F_P) (N := 2) hx hb hts lay_P t_P t_P_ok n_P hown hK hP hD hS 0 rfl rfl 1 (by decide) (hts _ flk_P_15) (fun _ h9 => h9) rfl (by decide +kernel) rfl rfl (Nat.le_of_ble_eq_true rfl) d_P_init_13 (fun H locs hP hD hS => ?_)
  have hP : va_P (dC, dI) classes [(h_o, .inr (2, [.ref h_bodies, .int 0])), (h_bodies, .inl (k_bodies, 2, .inl (fun _ => 0)))] H := hP
  have hD : va_D A [(h_o, .inr (2, [.ref h_bodies, .int 0])), (h_bodies, .inl (k_bodies, 2, .inl (fun _ => 0)))] := hD
  exact W.vret hx hb hr (fun t ht hW => ⟨⟨(h_bodies, k_bodies), rfl, trivial, by rw [ht]; exact hP, va_K.moved hW.alike hK, hD⟩, hS.F ht⟩) hS.2.2 d_P_init_16
set_option maxHeartbeats 4000000 in
set_option maxRecDepth 100000 in
theorem c_D_init (l : Launch) (dC : Nat → ClassId) (dI : Nat → Nat → Nat) (h_o : Nat) (sz : Nat) : Met l y_D_init w_D_init ({ frames := 1, cells := 2, slots := 35, locals := 20 } : Room) (va_Pc [.ref h_o] (fun U => U.heap.size = sz ∧ va_P (dC, dI) classes [(h_o, .inr (0, [.null, .null, .int 0, .int 0]))] U.heap ∧ va_K (dC, dI) classes [] U ∧ va_D (fun _ => True) [(h_o, .inr (0, [.null, .null, .int 0, .int 0]))])) (va_Qv (fun (_ : Nat × Nat × ClassId × ClassId) => True) (fun (u : Nat × Nat × ClassId × ClassId) (t : State) => va_P (dC, dI) classes [(h_o, .inr (0, [.ref u.1, .ref u.2.1, .int 0, .int 0])), (u.1, .inl (u.2.2.1, 18, .inr (.inl (fun _ => 0)))), (u.2.1, .inl (u.2.2.2, 17, .inl (fun _ => 0)))] t.heap ∧ va_K (dC, dI) classes [(u.2.2.1, .long), (u.2.2.2, .int)] t ∧ va_D (va_A [(h_o, .inr (0, [.null, .null, .int 0, .int 0]))] sz) [(h_o, .inr (0, [.ref u.1, .ref u.2.1, .int 0, .int 0])), (u.1, .inl (u.2.2.1, 18, .inr (.inl (fun _ => 0)))), (u.2.1, .inl (u.2.2.2, 17, .inl (fun _ => 0)))]) (va_A [(h_o, .inr (0, [.null, .null, .int 0, .int 0]))] sz)) 2 35 (va_A [(h_o, .inr (0, [.null, .null, .int 0, .int 0]))] sz) := by
  refine Met.ofW (cc := b_D_init) (maxL := 1) (ret := none) (by decide) rfl ?_
  intro p e s m args below meth c s₁ B hml hv
  obtain ⟨rfl, hsz, hP, hK, hD0⟩ := hv
  have hx := B.exec
  have hb := B.bytes
  have hr := B.returns
  have hts0 := atoms_spec (ws := w_D_init) B.pre
  have hts : ∀ w ∈ lw_gd, w.before ([.ref h_o] : List Value).toArray s = true := fun w h9 => hts0 w (List.mem_cons_of_mem _ h9)
  have hown : s.vm.findClass R_D = some m.cls := findClass_of_methodNamed B.named
  have hlocks := B.notSynchronized
  have hin : meth.name = "<init>" := (name_of_methodNamed B.named B.method).1
  subst hsz
  have hD := hD0.self (sz := s.heap.size)
  generalize hAe : va_A [(h_o, .inr (0, [.null, .null, .int 0, .int 0]))] s.heap.size = A at hD ⊢
  have hA : ∀ q : Nat, s.heap.size ≤ q → A q := fun q h9 => by rw [← hAe]; exact Or.inr h9
  obtain ⟨H, eH⟩ : ∃ H : Heap, H = s.heap := ⟨_, rfl⟩
  have hS : va_S A s.heap H [] := by rw [eH]; exact va_S.rf
  have hP : va_P (dC, dI) classes [(h_o, .inr (0, [.null, .null, .int 0, .int 0]))] H := by rw [eH]; exact hP
  refine W_heap eH ?_
  clear eH
  have hl := lv_entry ([.ref h_o]) (n := 1) (Nat.le_of_ble_eq_true rfl)
  rw [lg_entry_eq]
  generalize (lg_sl ([.ref h_o]) ++ List.replicate (1 - (lg_sl ([.ref h_o])).length) Slot.unset).toArray = ls at hl ⊢
  have hl : lv_has ls 1 [(0, .ref h_o)] := hl
  refine lv_aload_n hx hb d_D_init_0 rfl (lv_at hl 0 rfl) ?_
  refine W.objInit hx hb hown (hts _ mlk_D_3) (hts _ ins_O_init) (hts _ cod_O_init) rfl (by rw [hml]; exact hl.1) rfl d_D_init_1 (Nat.le_of_ble_eq_true rfl) (Nat.le_of_ble_eq_true rfl) ?_
  refine W.eq (g2 := F0 m 4 ls []) rfl ?_
  refine lv_aload_n hx hb d_D_init_4 rfl (lv_at hl 0 rfl) ?_
  refine lv_bipush (v := 18) hx hb d_D_init_5 (by decide) ?_
  refine va_newa (atype := .long) (ty := .long) (N' := 18) (a0 := (18, .inr (.inl (fun _ => 0)))) hx hb (hts _ arc_long) rfl hK hP hD hS hA (fun _ => rfl) (by decide) (by decide) (by decide) (Nat.le_of_ble_eq_true rfl) (Nat.le_of_ble_eq_true rfl) d_D_init_7 (fun h_factChoices k_factChoices H hK hP hD hS => ?_)
  have hP : va_P (dC, dI) classes [(h_o, .inr (0, [.null, .null, .int 0, .int 0])), (h_factChoices, .inl (k_factChoices, 18, .inr (.inl (fun _ => 0))))] H := hP
  have hD : va_D A [(h_o, .inr (0, [.null, .null, .int 0, .int 0])), (h_factChoices, .inl (k_factChoices, 18, .inr (.inl (fun _ => 0))))] := hD
  have hK : va_K (dC, dI) classes [(k_factChoices, .long)] s := hK
  refine W.widen (k := 1) (n := 18) (by omega) (by omega) ?_
  refine va_putF (D := (dC, dI)) (ci := 0) (v := .ref h_factChoices) (ty := .array .long) (C := R_D) (T := F_D) (N := 4) hx hb hts lay_D t_D t_D_ok n_D hown hK hP hD hS 0 rfl rfl 0 (by decide) (hts _ flk_D_9) (fun _ h9 => h9) rfl hin rfl (by decide +kernel) rfl rfl (Nat.le_of_ble_eq_true rfl) d_D_init_9 (fun H locs hP hD hS => ?_)
  have hP : va_P (dC, dI) classes [(h_o, .inr (0, [.ref h_factChoices, .null, .int 0, .int 0])), (h_factChoices, .inl (k_factChoices, 18, .inr (.inl (fun _ => 0))))] H := hP
  have hD : va_D A [(h_o, .inr (0, [.ref h_factChoices, .null, .int 0, .int 0])), (h_factChoices, .inl (k_factChoices, 18, .inr (.inl (fun _ => 0))))] := hD
  refine lv_aload_n hx hb d_D_init_12 rfl (lv_at hl 0 rfl) ?_
  refine lv_bipush (v := 17) hx hb d_D_init_13 (by decide) ?_
  refine va_newa (atype := .int) (ty := .int) (N' := 17) (a0 := (17, .inl (fun _ => 0))) hx hb (hts _ arc_int) rfl hK hP hD hS hA (fun _ => rfl) (by decide) (by decide) (by decide) (Nat.le_of_ble_eq_true rfl) (Nat.le_of_ble_eq_true rfl) d_D_init_15 (fun h_givenInRound k_givenInRound H hK hP hD hS => ?_)
  have hP : va_P (dC, dI) classes [(h_o, .inr (0, [.ref h_factChoices, .null, .int 0, .int 0])), (h_factChoices, .inl (k_factChoices, 18, .inr (.inl (fun _ => 0)))), (h_givenInRound, .inl (k_givenInRound, 17, .inl (fun _ => 0)))] H := hP
  have hD : va_D A [(h_o, .inr (0, [.ref h_factChoices, .null, .int 0, .int 0])), (h_factChoices, .inl (k_factChoices, 18, .inr (.inl (fun _ => 0)))), (h_givenInRound, .inl (k_givenInRound, 17, .inl (fun _ => 0)))] := hD
  have hK : va_K (dC, dI) classes [(k_factChoices, .long), (k_givenInRound, .int)] s := hK
  refine W.widen (k := 2) (n := 35) (by omega) (by omega) ?_
  refine va_putF (D := (dC, dI)) (ci := 0) (v := .ref h_givenInRound) (ty := .array .int) (C := R_D) (T := F_D) (N := 4) hx hb hts lay_D t_D t_D_ok n_D hown hK hP hD hS 0 rfl rfl 1 (by decide) (hts _ flk_D_15) (fun _ h9 => h9) rfl hin rfl (by decide +kernel) rfl rfl (Nat.le_of_ble_eq_true rfl) d_D_init_17 (fun H locs hP hD hS => ?_)
  have hP : va_P (dC, dI) classes [(h_o, .inr (0, [.ref h_factChoices, .ref h_givenInRound, .int 0, .int 0])), (h_factChoices, .inl (k_factChoices, 18, .inr (.inl (fun _ => 0)))), (h_givenInRound, .inl (k_givenInRound, 17, .inl (fun _ => 0)))] H := hP
  have hD : va_D A [(h_o, .inr (0, [.ref h_factChoices, .ref h_givenInRound, .int 0, .int 0])), (h_factChoices, .inl (k_factChoices, 18, .inr (.inl (fun _ => 0)))), (h_givenInRound, .inl (k_givenInRound, 17, .inl (fun _ => 0)))] := hD
  refine lv_aload_n hx hb d_D_init_20 rfl (lv_at hl 0 rfl) ?_
  refine lv_iconst (v := 0) hx hb d_D_init_21 (by decide) ?_
  refine va_put (D := (dC, dI)) (ci := 0) (v := .int 0) (ty := .int) (C := R_D) (T := F_D) (N := 4) hx hb hts lay_D t_D t_D_ok n_D hown hK hP hD hS 0 rfl rfl 2 (by decide) (hts _ flk_D_19) (fun _ h9 => h9) rfl (by decide +kernel) rfl rfl (Nat.le_of_ble_eq_true rfl) d_D_init_22 (fun H locs hP hD hS => ?_)
  have hP : va_P (dC, dI) classes [(h_o, .inr (0, [.ref h_factChoices, .ref h_givenInRound, .int 0, .int 0])), (h_factChoices, .inl (k_factChoices, 18, .inr (.inl (fun _ => 0)))), (h_givenInRound, .inl (k_givenInRound, 17, .inl (fun _ => 0)))] H := hP
  have hD : va_D A [(h_o, .inr (0, [.ref h_factChoices, .ref h_givenInRound, .int 0, .int 0])), (h_factChoices, .inl (k_factChoices, 18, .inr (.inl (fun _ => 0)))), (h_givenInRound, .inl (k_givenInRound, 17, .inl (fun _ => 0)))] := hD
  refine lv_aload_n hx hb d_D_init_25 rfl (lv_at hl 0 rfl) ?_
  refine lv_iconst (v := 0) hx hb d_D_init_26 (by decide) ?_
  refine va_put (D := (dC, dI)) (ci := 0) (v := .int 0) (ty := .int) (C := R_D) (T := F_D) (N := 4) hx hb hts lay_D t_D t_D_ok n_D hown hK hP hD hS 0 rfl rfl 3 (by decide) (hts _ flk_D_23) (fun _ h9 => h9) rfl (by decide +kernel) rfl rfl (Nat.le_of_ble_eq_true rfl) d_D_init_27 (fun H locs hP hD hS => ?_)
  have hP : va_P (dC, dI) classes [(h_o, .inr (0, [.ref h_factChoices, .ref h_givenInRound, .int 0, .int 0])), (h_factChoices, .inl (k_factChoices, 18, .inr (.inl (fun _ => 0)))), (h_givenInRound, .inl (k_givenInRound, 17, .inl (fun _ => 0)))] H := hP
  have hD : va_D A [(h_o, .inr (0, [.ref h_factChoices, .ref h_givenInRound, .int 0, .int 0])), (h_factChoices, .inl (k_factChoices, 18, .inr (.inl (fun _ => 0)))), (h_givenInRound, .inl (k_givenInRound, 17, .inl (fun _ => 0)))] := hD
  exact W.vret hx hb hr (fun t ht hW => ⟨⟨(h_factChoices, h_givenInRound, k_factChoices, k_givenInRound), rfl, trivial, by rw [ht]; exact hP, va_K.moved hW.alike hK, hD⟩, hS.F ht⟩) hS.2.2 d_D_init_30
set_option maxHeartbeats 4000000 in
set_option maxRecDepth 100000 in
theorem c_H_init (l : Launch) (dC : Nat → ClassId) (dI : Nat → Nat → Nat) (h_o : Nat) (sz : Nat) : Met l y_H_init w_H_init ({ frames := 2, cells := 8, slots := 79, locals := 40 } : Room) (va_Pc [.ref h_o] (fun U => U.heap.size = sz ∧ va_P (dC, dI) classes [(h_o, .inr (3, [.null, .null, .int 0, .int 0, .null, .null]))] U.heap ∧ va_K (dC, dI) classes [] U ∧ va_D (fun _ => True) [(h_o, .inr (3, [.null, .null, .int 0, .int 0, .null, .null]))])) (va_Qv (fun (_ : Nat × Nat × Nat × Nat × Nat × Nat × Nat × Nat × ClassId × ClassId × ClassId × ClassId × ClassId) => True) (fun (u : Nat × Nat × Nat × Nat × Nat × Nat × Nat × Nat × ClassId × ClassId × ClassId × ClassId × ClassId) (t : State) => va_P (dC, dI) classes [(h_o, .inr (3, [.ref u.1, .ref u.2.2.1, .int 0, .int 0, .ref u.2.2.2.1, .ref u.2.2.2.2.2.1])), (u.1, .inr (1, [.ref u.2.1, .int 0])), (u.2.1, .inl (u.2.2.2.2.2.2.2.2.1, 32, .inl (fun _ => 0))), (u.2.2.1, .inl (u.2.2.2.2.2.2.2.2.2.1, 2, .inl (fun _ => 0))), (u.2.2.2.1, .inr (2, [.ref u.2.2.2.2.1, .int 0])), (u.2.2.2.2.1, .inl (u.2.2.2.2.2.2.2.2.2.2.1, 2, .inl (fun _ => 0))), (u.2.2.2.2.2.1, .inr (0, [.ref u.2.2.2.2.2.2.1, .ref u.2.2.2.2.2.2.2.1, .int 0, .int 0])), (u.2.2.2.2.2.2.1, .inl (u.2.2.2.2.2.2.2.2.2.2.2.1, 18, .inr (.inl (fun _ => 0)))), (u.2.2.2.2.2.2.2.1, .inl (u.2.2.2.2.2.2.2.2.2.2.2.2, 17, .inl (fun _ => 0)))] t.heap ∧ va_K (dC, dI) classes [(u.2.2.2.2.2.2.2.2.1, .char), (u.2.2.2.2.2.2.2.2.2.1, .int), (u.2.2.2.2.2.2.2.2.2.2.1, .int), (u.2.2.2.2.2.2.2.2.2.2.2.1, .long), (u.2.2.2.2.2.2.2.2.2.2.2.2, .int)] t ∧ va_D (va_A [(h_o, .inr (3, [.null, .null, .int 0, .int 0, .null, .null]))] sz) [(h_o, .inr (3, [.ref u.1, .ref u.2.2.1, .int 0, .int 0, .ref u.2.2.2.1, .ref u.2.2.2.2.2.1])), (u.1, .inr (1, [.ref u.2.1, .int 0])), (u.2.1, .inl (u.2.2.2.2.2.2.2.2.1, 32, .inl (fun _ => 0))), (u.2.2.1, .inl (u.2.2.2.2.2.2.2.2.2.1, 2, .inl (fun _ => 0))), (u.2.2.2.1, .inr (2, [.ref u.2.2.2.2.1, .int 0])), (u.2.2.2.2.1, .inl (u.2.2.2.2.2.2.2.2.2.2.1, 2, .inl (fun _ => 0))), (u.2.2.2.2.2.1, .inr (0, [.ref u.2.2.2.2.2.2.1, .ref u.2.2.2.2.2.2.2.1, .int 0, .int 0])), (u.2.2.2.2.2.2.1, .inl (u.2.2.2.2.2.2.2.2.2.2.2.1, 18, .inr (.inl (fun _ => 0)))), (u.2.2.2.2.2.2.2.1, .inl (u.2.2.2.2.2.2.2.2.2.2.2.2, 17, .inl (fun _ => 0)))]) (va_A [(h_o, .inr (3, [.null, .null, .int 0, .int 0, .null, .null]))] sz)) 8 79 (va_A [(h_o, .inr (3, [.null, .null, .int 0, .int 0, .null, .null]))] sz) := by
  refine Met.ofW (cc := b_H_init) (maxL := 1) (ret := none) (by decide) rfl ?_
  intro p e s m args below meth c s₁ B hml hv
  obtain ⟨rfl, hsz, hP, hK, hD0⟩ := hv
  have hx := B.exec
  have hb := B.bytes
  have hr := B.returns
  have hts0 := atoms_spec (ws := w_H_init) B.pre
  have hts : ∀ w ∈ lw_gd, w.before ([.ref h_o] : List Value).toArray s = true := fun w h9 => hts0 w (List.mem_cons_of_mem _ h9)
  have hown : s.vm.findClass R_H = some m.cls := findClass_of_methodNamed B.named
  have hlocks := B.notSynchronized
  have hin : meth.name = "<init>" := (name_of_methodNamed B.named B.method).1
  subst hsz
  have hD := hD0.self (sz := s.heap.size)
  generalize hAe : va_A [(h_o, .inr (3, [.null, .null, .int 0, .int 0, .null, .null]))] s.heap.size = A at hD ⊢
  have hA : ∀ q : Nat, s.heap.size ≤ q → A q := fun q h9 => by rw [← hAe]; exact Or.inr h9
  obtain ⟨H, eH⟩ : ∃ H : Heap, H = s.heap := ⟨_, rfl⟩
  have hS : va_S A s.heap H [] := by rw [eH]; exact va_S.rf
  have hP : va_P (dC, dI) classes [(h_o, .inr (3, [.null, .null, .int 0, .int 0, .null, .null]))] H := by rw [eH]; exact hP
  refine W_heap eH ?_
  clear eH
  have hl := lv_entry ([.ref h_o]) (n := 1) (Nat.le_of_ble_eq_true rfl)
  rw [lg_entry_eq]
  generalize (lg_sl ([.ref h_o]) ++ List.replicate (1 - (lg_sl ([.ref h_o])).length) Slot.unset).toArray = ls at hl ⊢
  have hl : lv_has ls 1 [(0, .ref h_o)] := hl
  refine lv_aload_n hx hb d_H_init_0 rfl (lv_at hl 0 rfl) ?_
  refine W.objInit hx hb hown (hts _ mlk_H_3) (hts _ ins_O_init) (hts _ cod_O_init) rfl (by rw [hml]; exact hl.1) rfl d_H_init_1 (Nat.le_of_ble_eq_true rfl) (Nat.le_of_ble_eq_true rfl) ?_
  refine W.eq (g2 := F0 m 4 ls []) rfl ?_
  refine lv_aload_n hx hb d_H_init_4 rfl (lv_at hl 0 rfl) ?_
  refine va_new (ci := 1) (fs := [.null, .int 0]) (C := R_L) (T := F_L) (N := 2) hx hb hts lay_L t_L t_L_ok hown (hts _ clk_H_9) (hts _ itb_L) (hts _ ini_L) hK hP hD hS hA rfl (fun j hj => by rcases (show j = 0 ∨ j = 1 by omega) with rfl | rfl <;> rfl) (Nat.le_of_ble_eq_true rfl) (Nat.le_of_ble_eq_true rfl) d_H_init_5 (fun h_line H hP hD hS => ?_)
  have hP : va_P (dC, dI) classes [(h_o, .inr (3, [.null, .null, .int 0, .int 0, .null, .null])), (h_line, .inr (1, [.null, .int 0]))] H := hP
  have hD : va_D A [(h_o, .inr (3, [.null, .null, .int 0, .int 0, .null, .null])), (h_line, .inr (1, [.null, .int 0]))] := hD
  refine W.widen (k := 1) (n := 2) (by omega) (by omega) ?_
  refine lv_dup hx hb d_H_init_8 rfl ?_
  have hPc := hP.sub (ws' := [(h_line, .inr (1, [.null, .int 0]))]) [1] rfl
  have hDc := hD.sub (ws' := [(h_line, .inr (1, [.null, .int 0]))]) [1] (by decide) rfl
  have hKc := hK.sub (tys' := []) [] rfl
  have hFc := va_free (wc := [(h_line, .inr (1, [.null, .int 0]))]) hD hS hA [1] rfl
  refine va_callv (va_runI (As := []) (rest := [.ref h_line, .ref h_o]) ⟨hx, hb, hml, hown, hts⟩ (c_L_init l dC dI h_line H.size) (cwI 0 hts (gI cod_L_init) rfl rfl rfl (hts _ ini_L) (hts _ mlk_H_11) (hts _ ins_L_init) rfl (by decide +kernel) ⟨Nat.le_of_ble_eq_true rfl, Nat.le_of_ble_eq_true rfl⟩) ⟨fun a U g mk q => by obtain ⟨q0, q1, qP, qK, qD⟩ := q; exact ⟨q0, q1, qP, va_K.moved (u := U) (U := U.calling g mk a) (Vm.Alike.refl U.vm) qK, qD⟩, fun U hU hW => ⟨rfl, by rw [hU], by rw [hU]; exact hPc, va_K.moved hW.alike hKc, hDc.weaken (fun _ _ _ _ => trivial)⟩⟩ rfl rfl hl.1 rfl (lv_room (Nat.le_of_ble_eq_true rfl)) d_H_init_9 ⟨Nat.le_of_ble_eq_true rfl, Nat.le_of_ble_eq_true rfl⟩) hS (fun q _ h9 => hFc q h9) hFc (fun u t H1 locs ht hvm hw hB hz1 hk1 hS => ?_)
  obtain ⟨h_line_typed, k_line_typed⟩ := u
  obtain ⟨hP1, hK1, hD1⟩ := hB
  rw [ht] at hP1
  have hK1 := va_K.moved hvm.symm hK1
  obtain ⟨hP, hD⟩ := va_join (wr := [(h_o, .inr (3, [.null, .null, .int 0, .int 0, .null, .null]))]) (w1 := [(h_line, .inr (1, [.ref h_line_typed, .int 0])), (h_line_typed, .inl (k_line_typed, 32, .inl (fun _ => 0)))]) hP hD [1] [0] rfl rfl (by decide) (by decide) hk1 hFc hP1 hD1
  have hK := hK.app hK1
  generalize H1 = H at hP hS ⊢
  have hP : va_P (dC, dI) classes [(h_o, .inr (3, [.null, .null, .int 0, .int 0, .null, .null])), (h_line, .inr (1, [.ref h_line_typed, .int 0])), (h_line_typed, .inl (k_line_typed, 32, .inl (fun _ => 0)))] H := hP
  have hD : va_D A [(h_o, .inr (3, [.null, .null, .int 0, .int 0, .null, .null])), (h_line, .inr (1, [.ref h_line_typed, .int 0])), (h_line_typed, .inl (k_line_typed, 32, .inl (fun _ => 0)))] := hD
  have hK : va_K (dC, dI) classes [(k_line_typed, .char)] s := hK
  refine W.widen (k := 2) (n := 34) (by omega) (by omega) ?_
  refine va_putF (D := (dC, dI)) (ci := 3) (v := .ref h_line) (ty := .object "HornLearner$Line") (C := R_H) (T := F_H) (N := 6) hx hb hts lay_H t_H t_H_ok n_H hown hK hP hD hS 0 rfl rfl 0 (by decide) (hts _ flk_H_12) (fun _ h9 => h9) rfl hin rfl (by decide +kernel) rfl rfl (Nat.le_of_ble_eq_true rfl) d_H_init_12 (fun H locs hP hD hS => ?_)
  have hP : va_P (dC, dI) classes [(h_o, .inr (3, [.ref h_line, .null, .int 0, .int 0, .null, .null])), (h_line, .inr (1, [.ref h_line_typed, .int 0])), (h_line_typed, .inl (k_line_typed, 32, .inl (fun _ => 0)))] H := hP
  have hD : va_D A [(h_o, .inr (3, [.ref h_line, .null, .int 0, .int 0, .null, .null])), (h_line, .inr (1, [.ref h_line_typed, .int 0])), (h_line_typed, .inl (k_line_typed, 32, .inl (fun _ => 0)))] := hD
  refine lv_aload_n hx hb d_H_init_15 rfl (lv_at hl 0 rfl) ?_
  refine lv_iconst (v := 2) hx hb d_H_init_16 (by decide) ?_
  refine va_newa (atype := .int) (ty := .int) (N' := 2) (a0 := (2, .inl (fun _ => 0))) hx hb (hts _ arc_int) rfl hK hP hD hS hA (fun _ => rfl) (by decide) (by decide) (by decide) (Nat.le_of_ble_eq_true rfl) (Nat.le_of_ble_eq_true rfl) d_H_init_17 (fun h_factSets k_factSets H hK hP hD hS => ?_)
  have hP : va_P (dC, dI) classes [(h_o, .inr (3, [.ref h_line, .null, .int 0, .int 0, .null, .null])), (h_line, .inr (1, [.ref h_line_typed, .int 0])), (h_line_typed, .inl (k_line_typed, 32, .inl (fun _ => 0))), (h_factSets, .inl (k_factSets, 2, .inl (fun _ => 0)))] H := hP
  have hD : va_D A [(h_o, .inr (3, [.ref h_line, .null, .int 0, .int 0, .null, .null])), (h_line, .inr (1, [.ref h_line_typed, .int 0])), (h_line_typed, .inl (k_line_typed, 32, .inl (fun _ => 0))), (h_factSets, .inl (k_factSets, 2, .inl (fun _ => 0)))] := hD
  have hK : va_K (dC, dI) classes [(k_line_typed, .char), (k_factSets, .int)] s := hK
  refine W.widen (k := 3) (n := 36) (by omega) (by omega) ?_
  refine va_putF (D := (dC, dI)) (ci := 3) (v := .ref h_factSets) (ty := .array .int) (C := R_H) (T := F_H) (N := 6) hx hb hts lay_H t_H t_H_ok n_H hown hK hP hD hS 0 rfl rfl 1 (by decide) (hts _ flk_H_16) (fun _ h9 => h9) rfl hin rfl (by decide +kernel) rfl rfl (Nat.le_of_ble_eq_true rfl) d_H_init_19 (fun H locs hP hD hS => ?_)
  have hP : va_P (dC, dI) classes [(h_o, .inr (3, [.ref h_line, .ref h_factSets, .int 0, .int 0, .null, .null])), (h_line, .inr (1, [.ref h_line_typed, .int 0])), (h_line_typed, .inl (k_line_typed, 32, .inl (fun _ => 0))), (h_factSets, .inl (k_factSets, 2, .inl (fun _ => 0)))] H := hP
  have hD : va_D A [(h_o, .inr (3, [.ref h_line, .ref h_factSets, .int 0, .int 0, .null, .null])), (h_line, .inr (1, [.ref h_line_typed, .int 0])), (h_line_typed, .inl (k_line_typed, 32, .inl (fun _ => 0))), (h_factSets, .inl (k_factSets, 2, .inl (fun _ => 0)))] := hD
  refine lv_aload_n hx hb d_H_init_22 rfl (lv_at hl 0 rfl) ?_
  refine lv_iconst (v := 0) hx hb d_H_init_23 (by decide) ?_
  refine va_put (D := (dC, dI)) (ci := 3) (v := .int 0) (ty := .int) (C := R_H) (T := F_H) (N := 6) hx hb hts lay_H t_H t_H_ok n_H hown hK hP hD hS 0 rfl rfl 2 (by decide) (hts _ flk_H_20) (fun _ h9 => h9) rfl (by decide +kernel) rfl rfl (Nat.le_of_ble_eq_true rfl) d_H_init_24 (fun H locs hP hD hS => ?_)
  have hP : va_P (dC, dI) classes [(h_o, .inr (3, [.ref h_line, .ref h_factSets, .int 0, .int 0, .null, .null])), (h_line, .inr (1, [.ref h_line_typed, .int 0])), (h_line_typed, .inl (k_line_typed, 32, .inl (fun _ => 0))), (h_factSets, .inl (k_factSets, 2, .inl (fun _ => 0)))] H := hP
  have hD : va_D A [(h_o, .inr (3, [.ref h_line, .ref h_factSets, .int 0, .int 0, .null, .null])), (h_line, .inr (1, [.ref h_line_typed, .int 0])), (h_line_typed, .inl (k_line_typed, 32, .inl (fun _ => 0))), (h_factSets, .inl (k_factSets, 2, .inl (fun _ => 0)))] := hD
  refine lv_aload_n hx hb d_H_init_27 rfl (lv_at hl 0 rfl) ?_
  refine lv_iconst (v := 0) hx hb d_H_init_28 (by decide) ?_
  refine va_put (D := (dC, dI)) (ci := 3) (v := .int 0) (ty := .int) (C := R_H) (T := F_H) (N := 6) hx hb hts lay_H t_H t_H_ok n_H hown hK hP hD hS 0 rfl rfl 3 (by decide) (hts _ flk_H_24) (fun _ h9 => h9) rfl (by decide +kernel) rfl rfl (Nat.le_of_ble_eq_true rfl) d_H_init_29 (fun H locs hP hD hS => ?_)
  have hP : va_P (dC, dI) classes [(h_o, .inr (3, [.ref h_line, .ref h_factSets, .int 0, .int 0, .null, .null])), (h_line, .inr (1, [.ref h_line_typed, .int 0])), (h_line_typed, .inl (k_line_typed, 32, .inl (fun _ => 0))), (h_factSets, .inl (k_factSets, 2, .inl (fun _ => 0)))] H := hP
  have hD : va_D A [(h_o, .inr (3, [.ref h_line, .ref h_factSets, .int 0, .int 0, .null, .null])), (h_line, .inr (1, [.ref h_line_typed, .int 0])), (h_line_typed, .inl (k_line_typed, 32, .inl (fun _ => 0))), (h_factSets, .inl (k_factSets, 2, .inl (fun _ => 0)))] := hD
  refine lv_aload_n hx hb d_H_init_32 rfl (lv_at hl 0 rfl) ?_
  refine va_new (ci := 2) (fs := [.null, .int 0]) (C := R_P) (T := F_P) (N := 2) hx hb hts lay_P t_P t_P_ok hown (hts _ clk_H_27) (hts _ itb_P) (hts _ ini_P) hK hP hD hS hA rfl (fun j hj => by rcases (show j = 0 ∨ j = 1 by omega) with rfl | rfl <;> rfl) (Nat.le_of_ble_eq_true rfl) (Nat.le_of_ble_eq_true rfl) d_H_init_33 (fun h_program H hP hD hS => ?_)
  have hP : va_P (dC, dI) classes [(h_o, .inr (3, [.ref h_line, .ref h_factSets, .int 0, .int 0, .null, .null])), (h_line, .inr (1, [.ref h_line_typed, .int 0])), (h_line_typed, .inl (k_line_typed, 32, .inl (fun _ => 0))), (h_factSets, .inl (k_factSets, 2, .inl (fun _ => 0))), (h_program, .inr (2, [.null, .int 0]))] H := hP
  have hD : va_D A [(h_o, .inr (3, [.ref h_line, .ref h_factSets, .int 0, .int 0, .null, .null])), (h_line, .inr (1, [.ref h_line_typed, .int 0])), (h_line_typed, .inl (k_line_typed, 32, .inl (fun _ => 0))), (h_factSets, .inl (k_factSets, 2, .inl (fun _ => 0))), (h_program, .inr (2, [.null, .int 0]))] := hD
  refine W.widen (k := 4) (n := 38) (by omega) (by omega) ?_
  refine lv_dup hx hb d_H_init_36 rfl ?_
  have hPc := hP.sub (ws' := [(h_program, .inr (2, [.null, .int 0]))]) [4] rfl
  have hDc := hD.sub (ws' := [(h_program, .inr (2, [.null, .int 0]))]) [4] (by decide) rfl
  have hKc := hK.sub (tys' := []) [] rfl
  have hFc := va_free (wc := [(h_program, .inr (2, [.null, .int 0]))]) hD hS hA [4] rfl
  refine va_callv (va_runI (As := []) (rest := [.ref h_program, .ref h_o]) ⟨hx, hb, hml, hown, hts⟩ (c_P_init l dC dI h_program H.size) (cwI 0 hts (gI cod_P_init) rfl rfl rfl (hts _ ini_P) (hts _ mlk_H_29) (hts _ ins_P_init) rfl (by decide +kernel) ⟨Nat.le_of_ble_eq_true rfl, Nat.le_of_ble_eq_true rfl⟩) ⟨fun a U g mk q => by obtain ⟨q0, q1, qP, qK, qD⟩ := q; exact ⟨q0, q1, qP, va_K.moved (u := U) (U := U.calling g mk a) (Vm.Alike.refl U.vm) qK, qD⟩, fun U hU hW => ⟨rfl, by rw [hU], by rw [hU]; exact hPc, va_K.moved hW.alike hKc, hDc.weaken (fun _ _ _ _ => trivial)⟩⟩ rfl rfl hl.1 rfl (lv_room (Nat.le_of_ble_eq_true rfl)) d_H_init_37 ⟨Nat.le_of_ble_eq_true rfl, Nat.le_of_ble_eq_true rfl⟩) hS (fun q _ h9 => hFc q h9) hFc (fun u t H1 locs ht hvm hw hB hz1 hk1 hS => ?_)
  obtain ⟨h_program_bodies, k_program_bodies⟩ := u
  obtain ⟨hP1, hK1, hD1⟩ := hB
  rw [ht] at hP1
  have hK1 := va_K.moved hvm.symm hK1
  obtain ⟨hP, hD⟩ := va_join (wr := [(h_o, .inr (3, [.ref h_line, .ref h_factSets, .int 0, .int 0, .null, .null])), (h_line, .inr (1, [.ref h_line_typed, .int 0])), (h_line_typed, .inl (k_line_typed, 32, .inl (fun _ => 0))), (h_factSets, .inl (k_factSets, 2, .inl (fun _ => 0)))]) (w1 := [(h_program, .inr (2, [.ref h_program_bodies, .int 0])), (h_program_bodies, .inl (k_program_bodies, 2, .inl (fun _ => 0)))]) hP hD [4] [0, 1, 2, 3] rfl rfl (by decide) (by decide) hk1 hFc hP1 hD1
  have hK := hK.app hK1
  generalize H1 = H at hP hS ⊢
  have hP : va_P (dC, dI) classes [(h_o, .inr (3, [.ref h_line, .ref h_factSets, .int 0, .int 0, .null, .null])), (h_line, .inr (1, [.ref h_line_typed, .int 0])), (h_line_typed, .inl (k_line_typed, 32, .inl (fun _ => 0))), (h_factSets, .inl (k_factSets, 2, .inl (fun _ => 0))), (h_program, .inr (2, [.ref h_program_bodies, .int 0])), (h_program_bodies, .inl (k_program_bodies, 2, .inl (fun _ => 0)))] H := hP
  have hD : va_D A [(h_o, .inr (3, [.ref h_line, .ref h_factSets, .int 0, .int 0, .null, .null])), (h_line, .inr (1, [.ref h_line_typed, .int 0])), (h_line_typed, .inl (k_line_typed, 32, .inl (fun _ => 0))), (h_factSets, .inl (k_factSets, 2, .inl (fun _ => 0))), (h_program, .inr (2, [.ref h_program_bodies, .int 0])), (h_program_bodies, .inl (k_program_bodies, 2, .inl (fun _ => 0)))] := hD
  have hK : va_K (dC, dI) classes [(k_line_typed, .char), (k_factSets, .int), (k_program_bodies, .int)] s := hK
  refine W.widen (k := 5) (n := 40) (by omega) (by omega) ?_
  refine va_putF (D := (dC, dI)) (ci := 3) (v := .ref h_program) (ty := .object "HornLearner$Program") (C := R_H) (T := F_H) (N := 6) hx hb hts lay_H t_H t_H_ok n_H hown hK hP hD hS 0 rfl rfl 4 (by decide) (hts _ flk_H_30) (fun _ h9 => h9) rfl hin rfl (by decide +kernel) rfl rfl (Nat.le_of_ble_eq_true rfl) d_H_init_40 (fun H locs hP hD hS => ?_)
  have hP : va_P (dC, dI) classes [(h_o, .inr (3, [.ref h_line, .ref h_factSets, .int 0, .int 0, .ref h_program, .null])), (h_line, .inr (1, [.ref h_line_typed, .int 0])), (h_line_typed, .inl (k_line_typed, 32, .inl (fun _ => 0))), (h_factSets, .inl (k_factSets, 2, .inl (fun _ => 0))), (h_program, .inr (2, [.ref h_program_bodies, .int 0])), (h_program_bodies, .inl (k_program_bodies, 2, .inl (fun _ => 0)))] H := hP
  have hD : va_D A [(h_o, .inr (3, [.ref h_line, .ref h_factSets, .int 0, .int 0, .ref h_program, .null])), (h_line, .inr (1, [.ref h_line_typed, .int 0])), (h_line_typed, .inl (k_line_typed, 32, .inl (fun _ => 0))), (h_factSets, .inl (k_factSets, 2, .inl (fun _ => 0))), (h_program, .inr (2, [.ref h_program_bodies, .int 0])), (h_program_bodies, .inl (k_program_bodies, 2, .inl (fun _ => 0)))] := hD
  refine lv_aload_n hx hb d_H_init_43 rfl (lv_at hl 0 rfl) ?_
  refine va_new (ci := 0) (fs := [.null, .null, .int 0, .int 0]) (C := R_D) (T := F_D) (N := 4) hx hb hts lay_D t_D t_D_ok hown (hts _ clk_H_34) (hts _ itb_D) (hts _ ini_D) hK hP hD hS hA rfl (fun j hj => by rcases (show j = 0 ∨ j = 1 ∨ j = 2 ∨ j = 3 by omega) with rfl | rfl | rfl | rfl <;> rfl) (Nat.le_of_ble_eq_true rfl) (Nat.le_of_ble_eq_true rfl) d_H_init_44 (fun h_deduction H hP hD hS => ?_)
  have hP : va_P (dC, dI) classes [(h_o, .inr (3, [.ref h_line, .ref h_factSets, .int 0, .int 0, .ref h_program, .null])), (h_line, .inr (1, [.ref h_line_typed, .int 0])), (h_line_typed, .inl (k_line_typed, 32, .inl (fun _ => 0))), (h_factSets, .inl (k_factSets, 2, .inl (fun _ => 0))), (h_program, .inr (2, [.ref h_program_bodies, .int 0])), (h_program_bodies, .inl (k_program_bodies, 2, .inl (fun _ => 0))), (h_deduction, .inr (0, [.null, .null, .int 0, .int 0]))] H := hP
  have hD : va_D A [(h_o, .inr (3, [.ref h_line, .ref h_factSets, .int 0, .int 0, .ref h_program, .null])), (h_line, .inr (1, [.ref h_line_typed, .int 0])), (h_line_typed, .inl (k_line_typed, 32, .inl (fun _ => 0))), (h_factSets, .inl (k_factSets, 2, .inl (fun _ => 0))), (h_program, .inr (2, [.ref h_program_bodies, .int 0])), (h_program_bodies, .inl (k_program_bodies, 2, .inl (fun _ => 0))), (h_deduction, .inr (0, [.null, .null, .int 0, .int 0]))] := hD
  refine W.widen (k := 6) (n := 44) (by omega) (by omega) ?_
  refine lv_dup hx hb d_H_init_47 rfl ?_
  have hPc := hP.sub (ws' := [(h_deduction, .inr (0, [.null, .null, .int 0, .int 0]))]) [6] rfl
  have hDc := hD.sub (ws' := [(h_deduction, .inr (0, [.null, .null, .int 0, .int 0]))]) [6] (by decide) rfl
  have hKc := hK.sub (tys' := []) [] rfl
  have hFc := va_free (wc := [(h_deduction, .inr (0, [.null, .null, .int 0, .int 0]))]) hD hS hA [6] rfl
  refine va_callv (va_runI (As := []) (rest := [.ref h_deduction, .ref h_o]) ⟨hx, hb, hml, hown, hts⟩ (c_D_init l dC dI h_deduction H.size) (cwI 0 hts (gI cod_D_init) rfl rfl rfl (hts _ ini_D) (hts _ mlk_H_36) (hts _ ins_D_init) rfl (by decide +kernel) ⟨Nat.le_of_ble_eq_true rfl, Nat.le_of_ble_eq_true rfl⟩) ⟨fun a U g mk q => by obtain ⟨q0, q1, qP, qK, qD⟩ := q; exact ⟨q0, q1, qP, va_K.moved (u := U) (U := U.calling g mk a) (Vm.Alike.refl U.vm) qK, qD⟩, fun U hU hW => ⟨rfl, by rw [hU], by rw [hU]; exact hPc, va_K.moved hW.alike hKc, hDc.weaken (fun _ _ _ _ => trivial)⟩⟩ rfl rfl hl.1 rfl (lv_room (Nat.le_of_ble_eq_true rfl)) d_H_init_48 ⟨Nat.le_of_ble_eq_true rfl, Nat.le_of_ble_eq_true rfl⟩) hS (fun q _ h9 => hFc q h9) hFc (fun u t H1 locs ht hvm hw hB hz1 hk1 hS => ?_)
  obtain ⟨h_deduction_factChoices, h_deduction_givenInRound, k_deduction_factChoices, k_deduction_givenInRound⟩ := u
  obtain ⟨hP1, hK1, hD1⟩ := hB
  rw [ht] at hP1
  have hK1 := va_K.moved hvm.symm hK1
  obtain ⟨hP, hD⟩ := va_join (wr := [(h_o, .inr (3, [.ref h_line, .ref h_factSets, .int 0, .int 0, .ref h_program, .null])), (h_line, .inr (1, [.ref h_line_typed, .int 0])), (h_line_typed, .inl (k_line_typed, 32, .inl (fun _ => 0))), (h_factSets, .inl (k_factSets, 2, .inl (fun _ => 0))), (h_program, .inr (2, [.ref h_program_bodies, .int 0])), (h_program_bodies, .inl (k_program_bodies, 2, .inl (fun _ => 0)))]) (w1 := [(h_deduction, .inr (0, [.ref h_deduction_factChoices, .ref h_deduction_givenInRound, .int 0, .int 0])), (h_deduction_factChoices, .inl (k_deduction_factChoices, 18, .inr (.inl (fun _ => 0)))), (h_deduction_givenInRound, .inl (k_deduction_givenInRound, 17, .inl (fun _ => 0)))]) hP hD [6] [0, 1, 2, 3, 4, 5] rfl rfl (by decide) (by decide) hk1 hFc hP1 hD1
  have hK := hK.app hK1
  generalize H1 = H at hP hS ⊢
  have hP : va_P (dC, dI) classes [(h_o, .inr (3, [.ref h_line, .ref h_factSets, .int 0, .int 0, .ref h_program, .null])), (h_line, .inr (1, [.ref h_line_typed, .int 0])), (h_line_typed, .inl (k_line_typed, 32, .inl (fun _ => 0))), (h_factSets, .inl (k_factSets, 2, .inl (fun _ => 0))), (h_program, .inr (2, [.ref h_program_bodies, .int 0])), (h_program_bodies, .inl (k_program_bodies, 2, .inl (fun _ => 0))), (h_deduction, .inr (0, [.ref h_deduction_factChoices, .ref h_deduction_givenInRound, .int 0, .int 0])), (h_deduction_factChoices, .inl (k_deduction_factChoices, 18, .inr (.inl (fun _ => 0)))), (h_deduction_givenInRound, .inl (k_deduction_givenInRound, 17, .inl (fun _ => 0)))] H := hP
  have hD : va_D A [(h_o, .inr (3, [.ref h_line, .ref h_factSets, .int 0, .int 0, .ref h_program, .null])), (h_line, .inr (1, [.ref h_line_typed, .int 0])), (h_line_typed, .inl (k_line_typed, 32, .inl (fun _ => 0))), (h_factSets, .inl (k_factSets, 2, .inl (fun _ => 0))), (h_program, .inr (2, [.ref h_program_bodies, .int 0])), (h_program_bodies, .inl (k_program_bodies, 2, .inl (fun _ => 0))), (h_deduction, .inr (0, [.ref h_deduction_factChoices, .ref h_deduction_givenInRound, .int 0, .int 0])), (h_deduction_factChoices, .inl (k_deduction_factChoices, 18, .inr (.inl (fun _ => 0)))), (h_deduction_givenInRound, .inl (k_deduction_givenInRound, 17, .inl (fun _ => 0)))] := hD
  have hK : va_K (dC, dI) classes [(k_line_typed, .char), (k_factSets, .int), (k_program_bodies, .int), (k_deduction_factChoices, .long), (k_deduction_givenInRound, .int)] s := hK
  refine W.widen (k := 8) (n := 79) (by omega) (by omega) ?_
  refine va_putF (D := (dC, dI)) (ci := 3) (v := .ref h_deduction) (ty := .object "HornLearner$Deduction") (C := R_H) (T := F_H) (N := 6) hx hb hts lay_H t_H t_H_ok n_H hown hK hP hD hS 0 rfl rfl 5 (by decide) (hts _ flk_H_37) (fun _ h9 => h9) rfl hin rfl (by decide +kernel) rfl rfl (Nat.le_of_ble_eq_true rfl) d_H_init_51 (fun H locs hP hD hS => ?_)
  have hP : va_P (dC, dI) classes [(h_o, .inr (3, [.ref h_line, .ref h_factSets, .int 0, .int 0, .ref h_program, .ref h_deduction])), (h_line, .inr (1, [.ref h_line_typed, .int 0])), (h_line_typed, .inl (k_line_typed, 32, .inl (fun _ => 0))), (h_factSets, .inl (k_factSets, 2, .inl (fun _ => 0))), (h_program, .inr (2, [.ref h_program_bodies, .int 0])), (h_program_bodies, .inl (k_program_bodies, 2, .inl (fun _ => 0))), (h_deduction, .inr (0, [.ref h_deduction_factChoices, .ref h_deduction_givenInRound, .int 0, .int 0])), (h_deduction_factChoices, .inl (k_deduction_factChoices, 18, .inr (.inl (fun _ => 0)))), (h_deduction_givenInRound, .inl (k_deduction_givenInRound, 17, .inl (fun _ => 0)))] H := hP
  have hD : va_D A [(h_o, .inr (3, [.ref h_line, .ref h_factSets, .int 0, .int 0, .ref h_program, .ref h_deduction])), (h_line, .inr (1, [.ref h_line_typed, .int 0])), (h_line_typed, .inl (k_line_typed, 32, .inl (fun _ => 0))), (h_factSets, .inl (k_factSets, 2, .inl (fun _ => 0))), (h_program, .inr (2, [.ref h_program_bodies, .int 0])), (h_program_bodies, .inl (k_program_bodies, 2, .inl (fun _ => 0))), (h_deduction, .inr (0, [.ref h_deduction_factChoices, .ref h_deduction_givenInRound, .int 0, .int 0])), (h_deduction_factChoices, .inl (k_deduction_factChoices, 18, .inr (.inl (fun _ => 0)))), (h_deduction_givenInRound, .inl (k_deduction_givenInRound, 17, .inl (fun _ => 0)))] := hD
  exact W.vret hx hb hr (fun t ht hW => ⟨⟨(h_line, h_line_typed, h_factSets, h_program, h_program_bodies, h_deduction, h_deduction_factChoices, h_deduction_givenInRound, k_line_typed, k_factSets, k_program_bodies, k_deduction_factChoices, k_deduction_givenInRound), rfl, trivial, by rw [ht]; exact hP, va_K.moved hW.alike hK, hD⟩, hS.F ht⟩) hS.2.2 d_H_init_54
set_option maxHeartbeats 4000000 in
set_option maxRecDepth 100000 in
theorem c_M_init (l : Launch) (dC : Nat → ClassId) (dI : Nat → Nat → Nat) (h_o : Nat) (sz : Nat) : Met l y_M_init w_M_init ({ frames := 1, cells := 10, slots := 131, locals := 20 } : Room) (va_Pc [.ref h_o] (fun U => U.heap.size = sz ∧ va_P (dC, dI) classes [(h_o, .inr (4, [.null, .int 0, .null, .null, .int 0, .null, .null, .int 0, .null, .null, .int 0, .null, .null, .null, .int 0]))] U.heap ∧ va_K (dC, dI) classes [] U ∧ va_D (fun _ => True) [(h_o, .inr (4, [.null, .int 0, .null, .null, .int 0, .null, .null, .int 0, .null, .null, .int 0, .null, .null, .null, .int 0]))])) (va_Qv (fun (_ : Nat × Nat × Nat × Nat × Nat × Nat × Nat × Nat × Nat × Nat × ClassId × ClassId × ClassId × ClassId × ClassId × ClassId × ClassId × ClassId × ClassId × ClassId) => True) (fun (u : Nat × Nat × Nat × Nat × Nat × Nat × Nat × Nat × Nat × Nat × ClassId × ClassId × ClassId × ClassId × ClassId × ClassId × ClassId × ClassId × ClassId × ClassId) (t : State) => va_P (dC, dI) classes [(h_o, .inr (4, [.ref u.1, .int 0, .ref u.2.1, .ref u.2.2.1, .int 0, .ref u.2.2.2.1, .ref u.2.2.2.2.1, .int 0, .ref u.2.2.2.2.2.1, .ref u.2.2.2.2.2.2.1, .int 0, .ref u.2.2.2.2.2.2.2.1, .ref u.2.2.2.2.2.2.2.2.1, .ref u.2.2.2.2.2.2.2.2.2.1, .int 0])), (u.1, .inl (u.2.2.2.2.2.2.2.2.2.2.1, 32, .inl (fun _ => 0))), (u.2.1, .inl (u.2.2.2.2.2.2.2.2.2.2.2.1, 32, .inl (fun _ => 0))), (u.2.2.1, .inl (u.2.2.2.2.2.2.2.2.2.2.2.2.1, 16, .inl (fun _ => 0))), (u.2.2.2.1, .inl (u.2.2.2.2.2.2.2.2.2.2.2.2.2.1, 2, .inl (fun _ => 0))), (u.2.2.2.2.1, .inl (u.2.2.2.2.2.2.2.2.2.2.2.2.2.2.1, 6, .inl (fun _ => 0))), (u.2.2.2.2.2.1, .inl (u.2.2.2.2.2.2.2.2.2.2.2.2.2.2.2.1, 2, .inl (fun _ => 0))), (u.2.2.2.2.2.2.1, .inl (u.2.2.2.2.2.2.2.2.2.2.2.2.2.2.2.2.1, 6, .inl (fun _ => 0))), (u.2.2.2.2.2.2.2.1, .inl (u.2.2.2.2.2.2.2.2.2.2.2.2.2.2.2.2.2.1, 3, .inl (fun _ => 0))), (u.2.2.2.2.2.2.2.2.1, .inl (u.2.2.2.2.2.2.2.2.2.2.2.2.2.2.2.2.2.2.1, 16, .inl (fun _ => 0))), (u.2.2.2.2.2.2.2.2.2.1, .inl (u.2.2.2.2.2.2.2.2.2.2.2.2.2.2.2.2.2.2.2, 16, .inl (fun _ => 0)))] t.heap ∧ va_K (dC, dI) classes [(u.2.2.2.2.2.2.2.2.2.2.1, .int), (u.2.2.2.2.2.2.2.2.2.2.2.1, .boolean), (u.2.2.2.2.2.2.2.2.2.2.2.2.1, .int), (u.2.2.2.2.2.2.2.2.2.2.2.2.2.1, .int), (u.2.2.2.2.2.2.2.2.2.2.2.2.2.2.1, .int), (u.2.2.2.2.2.2.2.2.2.2.2.2.2.2.2.1, .int), (u.2.2.2.2.2.2.2.2.2.2.2.2.2.2.2.2.1, .int), (u.2.2.2.2.2.2.2.2.2.2.2.2.2.2.2.2.2.1, .int), (u.2.2.2.2.2.2.2.2.2.2.2.2.2.2.2.2.2.2.1, .int), (u.2.2.2.2.2.2.2.2.2.2.2.2.2.2.2.2.2.2.2, .boolean)] t ∧ va_D (va_A [(h_o, .inr (4, [.null, .int 0, .null, .null, .int 0, .null, .null, .int 0, .null, .null, .int 0, .null, .null, .null, .int 0]))] sz) [(h_o, .inr (4, [.ref u.1, .int 0, .ref u.2.1, .ref u.2.2.1, .int 0, .ref u.2.2.2.1, .ref u.2.2.2.2.1, .int 0, .ref u.2.2.2.2.2.1, .ref u.2.2.2.2.2.2.1, .int 0, .ref u.2.2.2.2.2.2.2.1, .ref u.2.2.2.2.2.2.2.2.1, .ref u.2.2.2.2.2.2.2.2.2.1, .int 0])), (u.1, .inl (u.2.2.2.2.2.2.2.2.2.2.1, 32, .inl (fun _ => 0))), (u.2.1, .inl (u.2.2.2.2.2.2.2.2.2.2.2.1, 32, .inl (fun _ => 0))), (u.2.2.1, .inl (u.2.2.2.2.2.2.2.2.2.2.2.2.1, 16, .inl (fun _ => 0))), (u.2.2.2.1, .inl (u.2.2.2.2.2.2.2.2.2.2.2.2.2.1, 2, .inl (fun _ => 0))), (u.2.2.2.2.1, .inl (u.2.2.2.2.2.2.2.2.2.2.2.2.2.2.1, 6, .inl (fun _ => 0))), (u.2.2.2.2.2.1, .inl (u.2.2.2.2.2.2.2.2.2.2.2.2.2.2.2.1, 2, .inl (fun _ => 0))), (u.2.2.2.2.2.2.1, .inl (u.2.2.2.2.2.2.2.2.2.2.2.2.2.2.2.2.1, 6, .inl (fun _ => 0))), (u.2.2.2.2.2.2.2.1, .inl (u.2.2.2.2.2.2.2.2.2.2.2.2.2.2.2.2.2.1, 3, .inl (fun _ => 0))), (u.2.2.2.2.2.2.2.2.1, .inl (u.2.2.2.2.2.2.2.2.2.2.2.2.2.2.2.2.2.2.1, 16, .inl (fun _ => 0))), (u.2.2.2.2.2.2.2.2.2.1, .inl (u.2.2.2.2.2.2.2.2.2.2.2.2.2.2.2.2.2.2.2, 16, .inl (fun _ => 0)))]) (va_A [(h_o, .inr (4, [.null, .int 0, .null, .null, .int 0, .null, .null, .int 0, .null, .null, .int 0, .null, .null, .null, .int 0]))] sz)) 10 131 (va_A [(h_o, .inr (4, [.null, .int 0, .null, .null, .int 0, .null, .null, .int 0, .null, .null, .int 0, .null, .null, .null, .int 0]))] sz) := by
  refine Met.ofW (cc := b_M_init) (maxL := 1) (ret := none) (by decide) rfl ?_
  intro p e s m args below meth c s₁ B hml hv
  obtain ⟨rfl, hsz, hP, hK, hD0⟩ := hv
  have hx := B.exec
  have hb := B.bytes
  have hr := B.returns
  have hts0 := atoms_spec (ws := w_M_init) B.pre
  have hts : ∀ w ∈ lw_gd, w.before ([.ref h_o] : List Value).toArray s = true := fun w h9 => hts0 w (List.mem_cons_of_mem _ h9)
  have hown : s.vm.findClass R_M = some m.cls := findClass_of_methodNamed B.named
  have hlocks := B.notSynchronized
  have hin : meth.name = "<init>" := (name_of_methodNamed B.named B.method).1
  subst hsz
  have hD := hD0.self (sz := s.heap.size)
  generalize hAe : va_A [(h_o, .inr (4, [.null, .int 0, .null, .null, .int 0, .null, .null, .int 0, .null, .null, .int 0, .null, .null, .null, .int 0]))] s.heap.size = A at hD ⊢
  have hA : ∀ q : Nat, s.heap.size ≤ q → A q := fun q h9 => by rw [← hAe]; exact Or.inr h9
  obtain ⟨H, eH⟩ : ∃ H : Heap, H = s.heap := ⟨_, rfl⟩
  have hS : va_S A s.heap H [] := by rw [eH]; exact va_S.rf
  have hP : va_P (dC, dI) classes [(h_o, .inr (4, [.null, .int 0, .null, .null, .int 0, .null, .null, .int 0, .null, .null, .int 0, .null, .null, .null, .int 0]))] H := by rw [eH]; exact hP
  refine W_heap eH ?_
  clear eH
  have hl := lv_entry ([.ref h_o]) (n := 1) (Nat.le_of_ble_eq_true rfl)
  rw [lg_entry_eq]
  generalize (lg_sl ([.ref h_o]) ++ List.replicate (1 - (lg_sl ([.ref h_o])).length) Slot.unset).toArray = ls at hl ⊢
  have hl : lv_has ls 1 [(0, .ref h_o)] := hl
  refine lv_aload_n hx hb d_M_init_0 rfl (lv_at hl 0 rfl) ?_
  refine W.objInit hx hb hown (hts _ mlk_M_1) (hts _ ins_O_init) (hts _ cod_O_init) rfl (by rw [hml]; exact hl.1) rfl d_M_init_1 (Nat.le_of_ble_eq_true rfl) (Nat.le_of_ble_eq_true rfl) ?_
  refine W.eq (g2 := F0 m 4 ls []) rfl ?_
  refine lv_aload_n hx hb d_M_init_4 rfl (lv_at hl 0 rfl) ?_
  refine lv_bipush (v := 32) hx hb d_M_init_5 (by decide) ?_
  refine va_newa (atype := .int) (ty := .int) (N' := 32) (a0 := (32, .inl (fun _ => 0))) hx hb (hts _ arc_int) rfl hK hP hD hS hA (fun _ => rfl) (by decide) (by decide) (by decide) (Nat.le_of_ble_eq_true rfl) (Nat.le_of_ble_eq_true rfl) d_M_init_7 (fun h_line k_line H hK hP hD hS => ?_)
  have hP : va_P (dC, dI) classes [(h_o, .inr (4, [.null, .int 0, .null, .null, .int 0, .null, .null, .int 0, .null, .null, .int 0, .null, .null, .null, .int 0])), (h_line, .inl (k_line, 32, .inl (fun _ => 0)))] H := hP
  have hD : va_D A [(h_o, .inr (4, [.null, .int 0, .null, .null, .int 0, .null, .null, .int 0, .null, .null, .int 0, .null, .null, .null, .int 0])), (h_line, .inl (k_line, 32, .inl (fun _ => 0)))] := hD
  have hK : va_K (dC, dI) classes [(k_line, .int)] s := hK
  refine W.widen (k := 1) (n := 32) (by omega) (by omega) ?_
  refine va_putF (D := (dC, dI)) (ci := 4) (v := .ref h_line) (ty := .array .int) (C := R_M) (T := F_M) (N := 15) hx hb hts lay_M t_M t_M_ok n_M hown hK hP hD hS 0 rfl rfl 0 (by decide) (hts _ flk_M_7) (fun _ h9 => h9) rfl hin rfl (by decide +kernel) rfl rfl (Nat.le_of_ble_eq_true rfl) d_M_init_9 (fun H locs hP hD hS => ?_)
  have hP : va_P (dC, dI) classes [(h_o, .inr (4, [.ref h_line, .int 0, .null, .null, .int 0, .null, .null, .int 0, .null, .null, .int 0, .null, .null, .null, .int 0])), (h_line, .inl (k_line, 32, .inl (fun _ => 0)))] H := hP
  have hD : va_D A [(h_o, .inr (4, [.ref h_line, .int 0, .null, .null, .int 0, .null, .null, .int 0, .null, .null, .int 0, .null, .null, .null, .int 0])), (h_line, .inl (k_line, 32, .inl (fun _ => 0)))] := hD
  refine lv_aload_n hx hb d_M_init_12 rfl (lv_at hl 0 rfl) ?_
  refine lv_bipush (v := 32) hx hb d_M_init_13 (by decide) ?_
  refine va_newa (atype := .boolean) (ty := .boolean) (N' := 32) (a0 := (32, .inl (fun _ => 0))) hx hb (hts _ arc_boolean) rfl hK hP hD hS hA (fun _ => rfl) (by decide) (by decide) (by decide) (Nat.le_of_ble_eq_true rfl) (Nat.le_of_ble_eq_true rfl) d_M_init_15 (fun h_fact k_fact H hK hP hD hS => ?_)
  have hP : va_P (dC, dI) classes [(h_o, .inr (4, [.ref h_line, .int 0, .null, .null, .int 0, .null, .null, .int 0, .null, .null, .int 0, .null, .null, .null, .int 0])), (h_line, .inl (k_line, 32, .inl (fun _ => 0))), (h_fact, .inl (k_fact, 32, .inl (fun _ => 0)))] H := hP
  have hD : va_D A [(h_o, .inr (4, [.ref h_line, .int 0, .null, .null, .int 0, .null, .null, .int 0, .null, .null, .int 0, .null, .null, .null, .int 0])), (h_line, .inl (k_line, 32, .inl (fun _ => 0))), (h_fact, .inl (k_fact, 32, .inl (fun _ => 0)))] := hD
  have hK : va_K (dC, dI) classes [(k_line, .int), (k_fact, .boolean)] s := hK
  refine W.widen (k := 2) (n := 64) (by omega) (by omega) ?_
  refine va_putF (D := (dC, dI)) (ci := 4) (v := .ref h_fact) (ty := .array .boolean) (C := R_M) (T := F_M) (N := 15) hx hb hts lay_M t_M t_M_ok n_M hown hK hP hD hS 0 rfl rfl 2 (by decide) (hts _ flk_M_13) (fun _ h9 => h9) rfl hin rfl (by decide +kernel) rfl rfl (Nat.le_of_ble_eq_true rfl) d_M_init_17 (fun H locs hP hD hS => ?_)
  have hP : va_P (dC, dI) classes [(h_o, .inr (4, [.ref h_line, .int 0, .ref h_fact, .null, .int 0, .null, .null, .int 0, .null, .null, .int 0, .null, .null, .null, .int 0])), (h_line, .inl (k_line, 32, .inl (fun _ => 0))), (h_fact, .inl (k_fact, 32, .inl (fun _ => 0)))] H := hP
  have hD : va_D A [(h_o, .inr (4, [.ref h_line, .int 0, .ref h_fact, .null, .int 0, .null, .null, .int 0, .null, .null, .int 0, .null, .null, .null, .int 0])), (h_line, .inl (k_line, 32, .inl (fun _ => 0))), (h_fact, .inl (k_fact, 32, .inl (fun _ => 0)))] := hD
  refine lv_aload_n hx hb d_M_init_20 rfl (lv_at hl 0 rfl) ?_
  refine lv_bipush (v := 16) hx hb d_M_init_21 (by decide) ?_
  refine va_newa (atype := .int) (ty := .int) (N' := 16) (a0 := (16, .inl (fun _ => 0))) hx hb (hts _ arc_int) rfl hK hP hD hS hA (fun _ => rfl) (by decide) (by decide) (by decide) (Nat.le_of_ble_eq_true rfl) (Nat.le_of_ble_eq_true rfl) d_M_init_23 (fun h_marked k_marked H hK hP hD hS => ?_)
  have hP : va_P (dC, dI) classes [(h_o, .inr (4, [.ref h_line, .int 0, .ref h_fact, .null, .int 0, .null, .null, .int 0, .null, .null, .int 0, .null, .null, .null, .int 0])), (h_line, .inl (k_line, 32, .inl (fun _ => 0))), (h_fact, .inl (k_fact, 32, .inl (fun _ => 0))), (h_marked, .inl (k_marked, 16, .inl (fun _ => 0)))] H := hP
  have hD : va_D A [(h_o, .inr (4, [.ref h_line, .int 0, .ref h_fact, .null, .int 0, .null, .null, .int 0, .null, .null, .int 0, .null, .null, .null, .int 0])), (h_line, .inl (k_line, 32, .inl (fun _ => 0))), (h_fact, .inl (k_fact, 32, .inl (fun _ => 0))), (h_marked, .inl (k_marked, 16, .inl (fun _ => 0)))] := hD
  have hK : va_K (dC, dI) classes [(k_line, .int), (k_fact, .boolean), (k_marked, .int)] s := hK
  refine W.widen (k := 3) (n := 80) (by omega) (by omega) ?_
  refine va_putF (D := (dC, dI)) (ci := 4) (v := .ref h_marked) (ty := .array .int) (C := R_M) (T := F_M) (N := 15) hx hb hts lay_M t_M t_M_ok n_M hown hK hP hD hS 0 rfl rfl 3 (by decide) (hts _ flk_M_17) (fun _ h9 => h9) rfl hin rfl (by decide +kernel) rfl rfl (Nat.le_of_ble_eq_true rfl) d_M_init_25 (fun H locs hP hD hS => ?_)
  have hP : va_P (dC, dI) classes [(h_o, .inr (4, [.ref h_line, .int 0, .ref h_fact, .ref h_marked, .int 0, .null, .null, .int 0, .null, .null, .int 0, .null, .null, .null, .int 0])), (h_line, .inl (k_line, 32, .inl (fun _ => 0))), (h_fact, .inl (k_fact, 32, .inl (fun _ => 0))), (h_marked, .inl (k_marked, 16, .inl (fun _ => 0)))] H := hP
  have hD : va_D A [(h_o, .inr (4, [.ref h_line, .int 0, .ref h_fact, .ref h_marked, .int 0, .null, .null, .int 0, .null, .null, .int 0, .null, .null, .null, .int 0])), (h_line, .inl (k_line, 32, .inl (fun _ => 0))), (h_fact, .inl (k_fact, 32, .inl (fun _ => 0))), (h_marked, .inl (k_marked, 16, .inl (fun _ => 0)))] := hD
  refine lv_aload_n hx hb d_M_init_28 rfl (lv_at hl 0 rfl) ?_
  refine lv_iconst (v := 2) hx hb d_M_init_29 (by decide) ?_
  refine va_newa (atype := .int) (ty := .int) (N' := 2) (a0 := (2, .inl (fun _ => 0))) hx hb (hts _ arc_int) rfl hK hP hD hS hA (fun _ => rfl) (by decide) (by decide) (by decide) (Nat.le_of_ble_eq_true rfl) (Nat.le_of_ble_eq_true rfl) d_M_init_30 (fun h_many k_many H hK hP hD hS => ?_)
  have hP : va_P (dC, dI) classes [(h_o, .inr (4, [.ref h_line, .int 0, .ref h_fact, .ref h_marked, .int 0, .null, .null, .int 0, .null, .null, .int 0, .null, .null, .null, .int 0])), (h_line, .inl (k_line, 32, .inl (fun _ => 0))), (h_fact, .inl (k_fact, 32, .inl (fun _ => 0))), (h_marked, .inl (k_marked, 16, .inl (fun _ => 0))), (h_many, .inl (k_many, 2, .inl (fun _ => 0)))] H := hP
  have hD : va_D A [(h_o, .inr (4, [.ref h_line, .int 0, .ref h_fact, .ref h_marked, .int 0, .null, .null, .int 0, .null, .null, .int 0, .null, .null, .null, .int 0])), (h_line, .inl (k_line, 32, .inl (fun _ => 0))), (h_fact, .inl (k_fact, 32, .inl (fun _ => 0))), (h_marked, .inl (k_marked, 16, .inl (fun _ => 0))), (h_many, .inl (k_many, 2, .inl (fun _ => 0)))] := hD
  have hK : va_K (dC, dI) classes [(k_line, .int), (k_fact, .boolean), (k_marked, .int), (k_many, .int)] s := hK
  refine W.widen (k := 4) (n := 82) (by omega) (by omega) ?_
  refine va_putF (D := (dC, dI)) (ci := 4) (v := .ref h_many) (ty := .array .int) (C := R_M) (T := F_M) (N := 15) hx hb hts lay_M t_M t_M_ok n_M hown hK hP hD hS 0 rfl rfl 5 (by decide) (hts _ flk_M_20) (fun _ h9 => h9) rfl hin rfl (by decide +kernel) rfl rfl (Nat.le_of_ble_eq_true rfl) d_M_init_32 (fun H locs hP hD hS => ?_)
  have hP : va_P (dC, dI) classes [(h_o, .inr (4, [.ref h_line, .int 0, .ref h_fact, .ref h_marked, .int 0, .ref h_many, .null, .int 0, .null, .null, .int 0, .null, .null, .null, .int 0])), (h_line, .inl (k_line, 32, .inl (fun _ => 0))), (h_fact, .inl (k_fact, 32, .inl (fun _ => 0))), (h_marked, .inl (k_marked, 16, .inl (fun _ => 0))), (h_many, .inl (k_many, 2, .inl (fun _ => 0)))] H := hP
  have hD : va_D A [(h_o, .inr (4, [.ref h_line, .int 0, .ref h_fact, .ref h_marked, .int 0, .ref h_many, .null, .int 0, .null, .null, .int 0, .null, .null, .null, .int 0])), (h_line, .inl (k_line, 32, .inl (fun _ => 0))), (h_fact, .inl (k_fact, 32, .inl (fun _ => 0))), (h_marked, .inl (k_marked, 16, .inl (fun _ => 0))), (h_many, .inl (k_many, 2, .inl (fun _ => 0)))] := hD
  refine lv_aload_n hx hb d_M_init_35 rfl (lv_at hl 0 rfl) ?_
  refine lv_bipush (v := 6) hx hb d_M_init_36 (by decide) ?_
  refine va_newa (atype := .int) (ty := .int) (N' := 6) (a0 := (6, .inl (fun _ => 0))) hx hb (hts _ arc_int) rfl hK hP hD hS hA (fun _ => rfl) (by decide) (by decide) (by decide) (Nat.le_of_ble_eq_true rfl) (Nat.le_of_ble_eq_true rfl) d_M_init_38 (fun h_codes k_codes H hK hP hD hS => ?_)
  have hP : va_P (dC, dI) classes [(h_o, .inr (4, [.ref h_line, .int 0, .ref h_fact, .ref h_marked, .int 0, .ref h_many, .null, .int 0, .null, .null, .int 0, .null, .null, .null, .int 0])), (h_line, .inl (k_line, 32, .inl (fun _ => 0))), (h_fact, .inl (k_fact, 32, .inl (fun _ => 0))), (h_marked, .inl (k_marked, 16, .inl (fun _ => 0))), (h_many, .inl (k_many, 2, .inl (fun _ => 0))), (h_codes, .inl (k_codes, 6, .inl (fun _ => 0)))] H := hP
  have hD : va_D A [(h_o, .inr (4, [.ref h_line, .int 0, .ref h_fact, .ref h_marked, .int 0, .ref h_many, .null, .int 0, .null, .null, .int 0, .null, .null, .null, .int 0])), (h_line, .inl (k_line, 32, .inl (fun _ => 0))), (h_fact, .inl (k_fact, 32, .inl (fun _ => 0))), (h_marked, .inl (k_marked, 16, .inl (fun _ => 0))), (h_many, .inl (k_many, 2, .inl (fun _ => 0))), (h_codes, .inl (k_codes, 6, .inl (fun _ => 0)))] := hD
  have hK : va_K (dC, dI) classes [(k_line, .int), (k_fact, .boolean), (k_marked, .int), (k_many, .int), (k_codes, .int)] s := hK
  refine W.widen (k := 5) (n := 88) (by omega) (by omega) ?_
  refine va_putF (D := (dC, dI)) (ci := 4) (v := .ref h_codes) (ty := .array .int) (C := R_M) (T := F_M) (N := 15) hx hb hts lay_M t_M t_M_ok n_M hown hK hP hD hS 0 rfl rfl 6 (by decide) (hts _ flk_M_23) (fun _ h9 => h9) rfl hin rfl (by decide +kernel) rfl rfl (Nat.le_of_ble_eq_true rfl) d_M_init_40 (fun H locs hP hD hS => ?_)
  have hP : va_P (dC, dI) classes [(h_o, .inr (4, [.ref h_line, .int 0, .ref h_fact, .ref h_marked, .int 0, .ref h_many, .ref h_codes, .int 0, .null, .null, .int 0, .null, .null, .null, .int 0])), (h_line, .inl (k_line, 32, .inl (fun _ => 0))), (h_fact, .inl (k_fact, 32, .inl (fun _ => 0))), (h_marked, .inl (k_marked, 16, .inl (fun _ => 0))), (h_many, .inl (k_many, 2, .inl (fun _ => 0))), (h_codes, .inl (k_codes, 6, .inl (fun _ => 0)))] H := hP
  have hD : va_D A [(h_o, .inr (4, [.ref h_line, .int 0, .ref h_fact, .ref h_marked, .int 0, .ref h_many, .ref h_codes, .int 0, .null, .null, .int 0, .null, .null, .null, .int 0])), (h_line, .inl (k_line, 32, .inl (fun _ => 0))), (h_fact, .inl (k_fact, 32, .inl (fun _ => 0))), (h_marked, .inl (k_marked, 16, .inl (fun _ => 0))), (h_many, .inl (k_many, 2, .inl (fun _ => 0))), (h_codes, .inl (k_codes, 6, .inl (fun _ => 0)))] := hD
  refine lv_aload_n hx hb d_M_init_43 rfl (lv_at hl 0 rfl) ?_
  refine lv_iconst (v := 2) hx hb d_M_init_44 (by decide) ?_
  refine va_newa (atype := .int) (ty := .int) (N' := 2) (a0 := (2, .inl (fun _ => 0))) hx hb (hts _ arc_int) rfl hK hP hD hS hA (fun _ => rfl) (by decide) (by decide) (by decide) (Nat.le_of_ble_eq_true rfl) (Nat.le_of_ble_eq_true rfl) d_M_init_45 (fun h_oldMany k_oldMany H hK hP hD hS => ?_)
  have hP : va_P (dC, dI) classes [(h_o, .inr (4, [.ref h_line, .int 0, .ref h_fact, .ref h_marked, .int 0, .ref h_many, .ref h_codes, .int 0, .null, .null, .int 0, .null, .null, .null, .int 0])), (h_line, .inl (k_line, 32, .inl (fun _ => 0))), (h_fact, .inl (k_fact, 32, .inl (fun _ => 0))), (h_marked, .inl (k_marked, 16, .inl (fun _ => 0))), (h_many, .inl (k_many, 2, .inl (fun _ => 0))), (h_codes, .inl (k_codes, 6, .inl (fun _ => 0))), (h_oldMany, .inl (k_oldMany, 2, .inl (fun _ => 0)))] H := hP
  have hD : va_D A [(h_o, .inr (4, [.ref h_line, .int 0, .ref h_fact, .ref h_marked, .int 0, .ref h_many, .ref h_codes, .int 0, .null, .null, .int 0, .null, .null, .null, .int 0])), (h_line, .inl (k_line, 32, .inl (fun _ => 0))), (h_fact, .inl (k_fact, 32, .inl (fun _ => 0))), (h_marked, .inl (k_marked, 16, .inl (fun _ => 0))), (h_many, .inl (k_many, 2, .inl (fun _ => 0))), (h_codes, .inl (k_codes, 6, .inl (fun _ => 0))), (h_oldMany, .inl (k_oldMany, 2, .inl (fun _ => 0)))] := hD
  have hK : va_K (dC, dI) classes [(k_line, .int), (k_fact, .boolean), (k_marked, .int), (k_many, .int), (k_codes, .int), (k_oldMany, .int)] s := hK
  refine W.widen (k := 6) (n := 90) (by omega) (by omega) ?_
  refine va_putF (D := (dC, dI)) (ci := 4) (v := .ref h_oldMany) (ty := .array .int) (C := R_M) (T := F_M) (N := 15) hx hb hts lay_M t_M t_M_ok n_M hown hK hP hD hS 0 rfl rfl 8 (by decide) (hts _ flk_M_26) (fun _ h9 => h9) rfl hin rfl (by decide +kernel) rfl rfl (Nat.le_of_ble_eq_true rfl) d_M_init_47 (fun H locs hP hD hS => ?_)
  have hP : va_P (dC, dI) classes [(h_o, .inr (4, [.ref h_line, .int 0, .ref h_fact, .ref h_marked, .int 0, .ref h_many, .ref h_codes, .int 0, .ref h_oldMany, .null, .int 0, .null, .null, .null, .int 0])), (h_line, .inl (k_line, 32, .inl (fun _ => 0))), (h_fact, .inl (k_fact, 32, .inl (fun _ => 0))), (h_marked, .inl (k_marked, 16, .inl (fun _ => 0))), (h_many, .inl (k_many, 2, .inl (fun _ => 0))), (h_codes, .inl (k_codes, 6, .inl (fun _ => 0))), (h_oldMany, .inl (k_oldMany, 2, .inl (fun _ => 0)))] H := hP
  have hD : va_D A [(h_o, .inr (4, [.ref h_line, .int 0, .ref h_fact, .ref h_marked, .int 0, .ref h_many, .ref h_codes, .int 0, .ref h_oldMany, .null, .int 0, .null, .null, .null, .int 0])), (h_line, .inl (k_line, 32, .inl (fun _ => 0))), (h_fact, .inl (k_fact, 32, .inl (fun _ => 0))), (h_marked, .inl (k_marked, 16, .inl (fun _ => 0))), (h_many, .inl (k_many, 2, .inl (fun _ => 0))), (h_codes, .inl (k_codes, 6, .inl (fun _ => 0))), (h_oldMany, .inl (k_oldMany, 2, .inl (fun _ => 0)))] := hD
  refine lv_aload_n hx hb d_M_init_50 rfl (lv_at hl 0 rfl) ?_
  refine lv_bipush (v := 6) hx hb d_M_init_51 (by decide) ?_
  refine va_newa (atype := .int) (ty := .int) (N' := 6) (a0 := (6, .inl (fun _ => 0))) hx hb (hts _ arc_int) rfl hK hP hD hS hA (fun _ => rfl) (by decide) (by decide) (by decide) (Nat.le_of_ble_eq_true rfl) (Nat.le_of_ble_eq_true rfl) d_M_init_53 (fun h_oldCodes k_oldCodes H hK hP hD hS => ?_)
  have hP : va_P (dC, dI) classes [(h_o, .inr (4, [.ref h_line, .int 0, .ref h_fact, .ref h_marked, .int 0, .ref h_many, .ref h_codes, .int 0, .ref h_oldMany, .null, .int 0, .null, .null, .null, .int 0])), (h_line, .inl (k_line, 32, .inl (fun _ => 0))), (h_fact, .inl (k_fact, 32, .inl (fun _ => 0))), (h_marked, .inl (k_marked, 16, .inl (fun _ => 0))), (h_many, .inl (k_many, 2, .inl (fun _ => 0))), (h_codes, .inl (k_codes, 6, .inl (fun _ => 0))), (h_oldMany, .inl (k_oldMany, 2, .inl (fun _ => 0))), (h_oldCodes, .inl (k_oldCodes, 6, .inl (fun _ => 0)))] H := hP
  have hD : va_D A [(h_o, .inr (4, [.ref h_line, .int 0, .ref h_fact, .ref h_marked, .int 0, .ref h_many, .ref h_codes, .int 0, .ref h_oldMany, .null, .int 0, .null, .null, .null, .int 0])), (h_line, .inl (k_line, 32, .inl (fun _ => 0))), (h_fact, .inl (k_fact, 32, .inl (fun _ => 0))), (h_marked, .inl (k_marked, 16, .inl (fun _ => 0))), (h_many, .inl (k_many, 2, .inl (fun _ => 0))), (h_codes, .inl (k_codes, 6, .inl (fun _ => 0))), (h_oldMany, .inl (k_oldMany, 2, .inl (fun _ => 0))), (h_oldCodes, .inl (k_oldCodes, 6, .inl (fun _ => 0)))] := hD
  have hK : va_K (dC, dI) classes [(k_line, .int), (k_fact, .boolean), (k_marked, .int), (k_many, .int), (k_codes, .int), (k_oldMany, .int), (k_oldCodes, .int)] s := hK
  refine W.widen (k := 7) (n := 96) (by omega) (by omega) ?_
  refine va_putF (D := (dC, dI)) (ci := 4) (v := .ref h_oldCodes) (ty := .array .int) (C := R_M) (T := F_M) (N := 15) hx hb hts lay_M t_M t_M_ok n_M hown hK hP hD hS 0 rfl rfl 9 (by decide) (hts _ flk_M_29) (fun _ h9 => h9) rfl hin rfl (by decide +kernel) rfl rfl (Nat.le_of_ble_eq_true rfl) d_M_init_55 (fun H locs hP hD hS => ?_)
  have hP : va_P (dC, dI) classes [(h_o, .inr (4, [.ref h_line, .int 0, .ref h_fact, .ref h_marked, .int 0, .ref h_many, .ref h_codes, .int 0, .ref h_oldMany, .ref h_oldCodes, .int 0, .null, .null, .null, .int 0])), (h_line, .inl (k_line, 32, .inl (fun _ => 0))), (h_fact, .inl (k_fact, 32, .inl (fun _ => 0))), (h_marked, .inl (k_marked, 16, .inl (fun _ => 0))), (h_many, .inl (k_many, 2, .inl (fun _ => 0))), (h_codes, .inl (k_codes, 6, .inl (fun _ => 0))), (h_oldMany, .inl (k_oldMany, 2, .inl (fun _ => 0))), (h_oldCodes, .inl (k_oldCodes, 6, .inl (fun _ => 0)))] H := hP
  have hD : va_D A [(h_o, .inr (4, [.ref h_line, .int 0, .ref h_fact, .ref h_marked, .int 0, .ref h_many, .ref h_codes, .int 0, .ref h_oldMany, .ref h_oldCodes, .int 0, .null, .null, .null, .int 0])), (h_line, .inl (k_line, 32, .inl (fun _ => 0))), (h_fact, .inl (k_fact, 32, .inl (fun _ => 0))), (h_marked, .inl (k_marked, 16, .inl (fun _ => 0))), (h_many, .inl (k_many, 2, .inl (fun _ => 0))), (h_codes, .inl (k_codes, 6, .inl (fun _ => 0))), (h_oldMany, .inl (k_oldMany, 2, .inl (fun _ => 0))), (h_oldCodes, .inl (k_oldCodes, 6, .inl (fun _ => 0)))] := hD
  refine lv_aload_n hx hb d_M_init_58 rfl (lv_at hl 0 rfl) ?_
  refine lv_iconst (v := 3) hx hb d_M_init_59 (by decide) ?_
  refine va_newa (atype := .int) (ty := .int) (N' := 3) (a0 := (3, .inl (fun _ => 0))) hx hb (hts _ arc_int) rfl hK hP hD hS hA (fun _ => rfl) (by decide) (by decide) (by decide) (Nat.le_of_ble_eq_true rfl) (Nat.le_of_ble_eq_true rfl) d_M_init_60 (fun h_body k_body H hK hP hD hS => ?_)
  have hP : va_P (dC, dI) classes [(h_o, .inr (4, [.ref h_line, .int 0, .ref h_fact, .ref h_marked, .int 0, .ref h_many, .ref h_codes, .int 0, .ref h_oldMany, .ref h_oldCodes, .int 0, .null, .null, .null, .int 0])), (h_line, .inl (k_line, 32, .inl (fun _ => 0))), (h_fact, .inl (k_fact, 32, .inl (fun _ => 0))), (h_marked, .inl (k_marked, 16, .inl (fun _ => 0))), (h_many, .inl (k_many, 2, .inl (fun _ => 0))), (h_codes, .inl (k_codes, 6, .inl (fun _ => 0))), (h_oldMany, .inl (k_oldMany, 2, .inl (fun _ => 0))), (h_oldCodes, .inl (k_oldCodes, 6, .inl (fun _ => 0))), (h_body, .inl (k_body, 3, .inl (fun _ => 0)))] H := hP
  have hD : va_D A [(h_o, .inr (4, [.ref h_line, .int 0, .ref h_fact, .ref h_marked, .int 0, .ref h_many, .ref h_codes, .int 0, .ref h_oldMany, .ref h_oldCodes, .int 0, .null, .null, .null, .int 0])), (h_line, .inl (k_line, 32, .inl (fun _ => 0))), (h_fact, .inl (k_fact, 32, .inl (fun _ => 0))), (h_marked, .inl (k_marked, 16, .inl (fun _ => 0))), (h_many, .inl (k_many, 2, .inl (fun _ => 0))), (h_codes, .inl (k_codes, 6, .inl (fun _ => 0))), (h_oldMany, .inl (k_oldMany, 2, .inl (fun _ => 0))), (h_oldCodes, .inl (k_oldCodes, 6, .inl (fun _ => 0))), (h_body, .inl (k_body, 3, .inl (fun _ => 0)))] := hD
  have hK : va_K (dC, dI) classes [(k_line, .int), (k_fact, .boolean), (k_marked, .int), (k_many, .int), (k_codes, .int), (k_oldMany, .int), (k_oldCodes, .int), (k_body, .int)] s := hK
  refine W.widen (k := 8) (n := 99) (by omega) (by omega) ?_
  refine va_putF (D := (dC, dI)) (ci := 4) (v := .ref h_body) (ty := .array .int) (C := R_M) (T := F_M) (N := 15) hx hb hts lay_M t_M t_M_ok n_M hown hK hP hD hS 0 rfl rfl 11 (by decide) (hts _ flk_M_32) (fun _ h9 => h9) rfl hin rfl (by decide +kernel) rfl rfl (Nat.le_of_ble_eq_true rfl) d_M_init_62 (fun H locs hP hD hS => ?_)
  have hP : va_P (dC, dI) classes [(h_o, .inr (4, [.ref h_line, .int 0, .ref h_fact, .ref h_marked, .int 0, .ref h_many, .ref h_codes, .int 0, .ref h_oldMany, .ref h_oldCodes, .int 0, .ref h_body, .null, .null, .int 0])), (h_line, .inl (k_line, 32, .inl (fun _ => 0))), (h_fact, .inl (k_fact, 32, .inl (fun _ => 0))), (h_marked, .inl (k_marked, 16, .inl (fun _ => 0))), (h_many, .inl (k_many, 2, .inl (fun _ => 0))), (h_codes, .inl (k_codes, 6, .inl (fun _ => 0))), (h_oldMany, .inl (k_oldMany, 2, .inl (fun _ => 0))), (h_oldCodes, .inl (k_oldCodes, 6, .inl (fun _ => 0))), (h_body, .inl (k_body, 3, .inl (fun _ => 0)))] H := hP
  have hD : va_D A [(h_o, .inr (4, [.ref h_line, .int 0, .ref h_fact, .ref h_marked, .int 0, .ref h_many, .ref h_codes, .int 0, .ref h_oldMany, .ref h_oldCodes, .int 0, .ref h_body, .null, .null, .int 0])), (h_line, .inl (k_line, 32, .inl (fun _ => 0))), (h_fact, .inl (k_fact, 32, .inl (fun _ => 0))), (h_marked, .inl (k_marked, 16, .inl (fun _ => 0))), (h_many, .inl (k_many, 2, .inl (fun _ => 0))), (h_codes, .inl (k_codes, 6, .inl (fun _ => 0))), (h_oldMany, .inl (k_oldMany, 2, .inl (fun _ => 0))), (h_oldCodes, .inl (k_oldCodes, 6, .inl (fun _ => 0))), (h_body, .inl (k_body, 3, .inl (fun _ => 0)))] := hD
  refine lv_aload_n hx hb d_M_init_65 rfl (lv_at hl 0 rfl) ?_
  refine lv_bipush (v := 16) hx hb d_M_init_66 (by decide) ?_
  refine va_newa (atype := .int) (ty := .int) (N' := 16) (a0 := (16, .inl (fun _ => 0))) hx hb (hts _ arc_int) rfl hK hP hD hS hA (fun _ => rfl) (by decide) (by decide) (by decide) (Nat.le_of_ble_eq_true rfl) (Nat.le_of_ble_eq_true rfl) d_M_init_68 (fun h_roundOf k_roundOf H hK hP hD hS => ?_)
  have hP : va_P (dC, dI) classes [(h_o, .inr (4, [.ref h_line, .int 0, .ref h_fact, .ref h_marked, .int 0, .ref h_many, .ref h_codes, .int 0, .ref h_oldMany, .ref h_oldCodes, .int 0, .ref h_body, .null, .null, .int 0])), (h_line, .inl (k_line, 32, .inl (fun _ => 0))), (h_fact, .inl (k_fact, 32, .inl (fun _ => 0))), (h_marked, .inl (k_marked, 16, .inl (fun _ => 0))), (h_many, .inl (k_many, 2, .inl (fun _ => 0))), (h_codes, .inl (k_codes, 6, .inl (fun _ => 0))), (h_oldMany, .inl (k_oldMany, 2, .inl (fun _ => 0))), (h_oldCodes, .inl (k_oldCodes, 6, .inl (fun _ => 0))), (h_body, .inl (k_body, 3, .inl (fun _ => 0))), (h_roundOf, .inl (k_roundOf, 16, .inl (fun _ => 0)))] H := hP
  have hD : va_D A [(h_o, .inr (4, [.ref h_line, .int 0, .ref h_fact, .ref h_marked, .int 0, .ref h_many, .ref h_codes, .int 0, .ref h_oldMany, .ref h_oldCodes, .int 0, .ref h_body, .null, .null, .int 0])), (h_line, .inl (k_line, 32, .inl (fun _ => 0))), (h_fact, .inl (k_fact, 32, .inl (fun _ => 0))), (h_marked, .inl (k_marked, 16, .inl (fun _ => 0))), (h_many, .inl (k_many, 2, .inl (fun _ => 0))), (h_codes, .inl (k_codes, 6, .inl (fun _ => 0))), (h_oldMany, .inl (k_oldMany, 2, .inl (fun _ => 0))), (h_oldCodes, .inl (k_oldCodes, 6, .inl (fun _ => 0))), (h_body, .inl (k_body, 3, .inl (fun _ => 0))), (h_roundOf, .inl (k_roundOf, 16, .inl (fun _ => 0)))] := hD
  have hK : va_K (dC, dI) classes [(k_line, .int), (k_fact, .boolean), (k_marked, .int), (k_many, .int), (k_codes, .int), (k_oldMany, .int), (k_oldCodes, .int), (k_body, .int), (k_roundOf, .int)] s := hK
  refine W.widen (k := 9) (n := 115) (by omega) (by omega) ?_
  refine va_putF (D := (dC, dI)) (ci := 4) (v := .ref h_roundOf) (ty := .array .int) (C := R_M) (T := F_M) (N := 15) hx hb hts lay_M t_M t_M_ok n_M hown hK hP hD hS 0 rfl rfl 12 (by decide) (hts _ flk_M_35) (fun _ h9 => h9) rfl hin rfl (by decide +kernel) rfl rfl (Nat.le_of_ble_eq_true rfl) d_M_init_70 (fun H locs hP hD hS => ?_)
  have hP : va_P (dC, dI) classes [(h_o, .inr (4, [.ref h_line, .int 0, .ref h_fact, .ref h_marked, .int 0, .ref h_many, .ref h_codes, .int 0, .ref h_oldMany, .ref h_oldCodes, .int 0, .ref h_body, .ref h_roundOf, .null, .int 0])), (h_line, .inl (k_line, 32, .inl (fun _ => 0))), (h_fact, .inl (k_fact, 32, .inl (fun _ => 0))), (h_marked, .inl (k_marked, 16, .inl (fun _ => 0))), (h_many, .inl (k_many, 2, .inl (fun _ => 0))), (h_codes, .inl (k_codes, 6, .inl (fun _ => 0))), (h_oldMany, .inl (k_oldMany, 2, .inl (fun _ => 0))), (h_oldCodes, .inl (k_oldCodes, 6, .inl (fun _ => 0))), (h_body, .inl (k_body, 3, .inl (fun _ => 0))), (h_roundOf, .inl (k_roundOf, 16, .inl (fun _ => 0)))] H := hP
  have hD : va_D A [(h_o, .inr (4, [.ref h_line, .int 0, .ref h_fact, .ref h_marked, .int 0, .ref h_many, .ref h_codes, .int 0, .ref h_oldMany, .ref h_oldCodes, .int 0, .ref h_body, .ref h_roundOf, .null, .int 0])), (h_line, .inl (k_line, 32, .inl (fun _ => 0))), (h_fact, .inl (k_fact, 32, .inl (fun _ => 0))), (h_marked, .inl (k_marked, 16, .inl (fun _ => 0))), (h_many, .inl (k_many, 2, .inl (fun _ => 0))), (h_codes, .inl (k_codes, 6, .inl (fun _ => 0))), (h_oldMany, .inl (k_oldMany, 2, .inl (fun _ => 0))), (h_oldCodes, .inl (k_oldCodes, 6, .inl (fun _ => 0))), (h_body, .inl (k_body, 3, .inl (fun _ => 0))), (h_roundOf, .inl (k_roundOf, 16, .inl (fun _ => 0)))] := hD
  refine lv_aload_n hx hb d_M_init_73 rfl (lv_at hl 0 rfl) ?_
  refine lv_bipush (v := 16) hx hb d_M_init_74 (by decide) ?_
  refine va_newa (atype := .boolean) (ty := .boolean) (N' := 16) (a0 := (16, .inl (fun _ => 0))) hx hb (hts _ arc_boolean) rfl hK hP hD hS hA (fun _ => rfl) (by decide) (by decide) (by decide) (Nat.le_of_ble_eq_true rfl) (Nat.le_of_ble_eq_true rfl) d_M_init_76 (fun h_fresh k_fresh H hK hP hD hS => ?_)
  have hP : va_P (dC, dI) classes [(h_o, .inr (4, [.ref h_line, .int 0, .ref h_fact, .ref h_marked, .int 0, .ref h_many, .ref h_codes, .int 0, .ref h_oldMany, .ref h_oldCodes, .int 0, .ref h_body, .ref h_roundOf, .null, .int 0])), (h_line, .inl (k_line, 32, .inl (fun _ => 0))), (h_fact, .inl (k_fact, 32, .inl (fun _ => 0))), (h_marked, .inl (k_marked, 16, .inl (fun _ => 0))), (h_many, .inl (k_many, 2, .inl (fun _ => 0))), (h_codes, .inl (k_codes, 6, .inl (fun _ => 0))), (h_oldMany, .inl (k_oldMany, 2, .inl (fun _ => 0))), (h_oldCodes, .inl (k_oldCodes, 6, .inl (fun _ => 0))), (h_body, .inl (k_body, 3, .inl (fun _ => 0))), (h_roundOf, .inl (k_roundOf, 16, .inl (fun _ => 0))), (h_fresh, .inl (k_fresh, 16, .inl (fun _ => 0)))] H := hP
  have hD : va_D A [(h_o, .inr (4, [.ref h_line, .int 0, .ref h_fact, .ref h_marked, .int 0, .ref h_many, .ref h_codes, .int 0, .ref h_oldMany, .ref h_oldCodes, .int 0, .ref h_body, .ref h_roundOf, .null, .int 0])), (h_line, .inl (k_line, 32, .inl (fun _ => 0))), (h_fact, .inl (k_fact, 32, .inl (fun _ => 0))), (h_marked, .inl (k_marked, 16, .inl (fun _ => 0))), (h_many, .inl (k_many, 2, .inl (fun _ => 0))), (h_codes, .inl (k_codes, 6, .inl (fun _ => 0))), (h_oldMany, .inl (k_oldMany, 2, .inl (fun _ => 0))), (h_oldCodes, .inl (k_oldCodes, 6, .inl (fun _ => 0))), (h_body, .inl (k_body, 3, .inl (fun _ => 0))), (h_roundOf, .inl (k_roundOf, 16, .inl (fun _ => 0))), (h_fresh, .inl (k_fresh, 16, .inl (fun _ => 0)))] := hD
  have hK : va_K (dC, dI) classes [(k_line, .int), (k_fact, .boolean), (k_marked, .int), (k_many, .int), (k_codes, .int), (k_oldMany, .int), (k_oldCodes, .int), (k_body, .int), (k_roundOf, .int), (k_fresh, .boolean)] s := hK
  refine W.widen (k := 10) (n := 131) (by omega) (by omega) ?_
  refine va_putF (D := (dC, dI)) (ci := 4) (v := .ref h_fresh) (ty := .array .boolean) (C := R_M) (T := F_M) (N := 15) hx hb hts lay_M t_M t_M_ok n_M hown hK hP hD hS 0 rfl rfl 13 (by decide) (hts _ flk_M_38) (fun _ h9 => h9) rfl hin rfl (by decide +kernel) rfl rfl (Nat.le_of_ble_eq_true rfl) d_M_init_78 (fun H locs hP hD hS => ?_)
  have hP : va_P (dC, dI) classes [(h_o, .inr (4, [.ref h_line, .int 0, .ref h_fact, .ref h_marked, .int 0, .ref h_many, .ref h_codes, .int 0, .ref h_oldMany, .ref h_oldCodes, .int 0, .ref h_body, .ref h_roundOf, .ref h_fresh, .int 0])), (h_line, .inl (k_line, 32, .inl (fun _ => 0))), (h_fact, .inl (k_fact, 32, .inl (fun _ => 0))), (h_marked, .inl (k_marked, 16, .inl (fun _ => 0))), (h_many, .inl (k_many, 2, .inl (fun _ => 0))), (h_codes, .inl (k_codes, 6, .inl (fun _ => 0))), (h_oldMany, .inl (k_oldMany, 2, .inl (fun _ => 0))), (h_oldCodes, .inl (k_oldCodes, 6, .inl (fun _ => 0))), (h_body, .inl (k_body, 3, .inl (fun _ => 0))), (h_roundOf, .inl (k_roundOf, 16, .inl (fun _ => 0))), (h_fresh, .inl (k_fresh, 16, .inl (fun _ => 0)))] H := hP
  have hD : va_D A [(h_o, .inr (4, [.ref h_line, .int 0, .ref h_fact, .ref h_marked, .int 0, .ref h_many, .ref h_codes, .int 0, .ref h_oldMany, .ref h_oldCodes, .int 0, .ref h_body, .ref h_roundOf, .ref h_fresh, .int 0])), (h_line, .inl (k_line, 32, .inl (fun _ => 0))), (h_fact, .inl (k_fact, 32, .inl (fun _ => 0))), (h_marked, .inl (k_marked, 16, .inl (fun _ => 0))), (h_many, .inl (k_many, 2, .inl (fun _ => 0))), (h_codes, .inl (k_codes, 6, .inl (fun _ => 0))), (h_oldMany, .inl (k_oldMany, 2, .inl (fun _ => 0))), (h_oldCodes, .inl (k_oldCodes, 6, .inl (fun _ => 0))), (h_body, .inl (k_body, 3, .inl (fun _ => 0))), (h_roundOf, .inl (k_roundOf, 16, .inl (fun _ => 0))), (h_fresh, .inl (k_fresh, 16, .inl (fun _ => 0)))] := hD
  exact W.vret hx hb hr (fun t ht hW => ⟨⟨(h_line, h_fact, h_marked, h_many, h_codes, h_oldMany, h_oldCodes, h_body, h_roundOf, h_fresh, k_line, k_fact, k_marked, k_many, k_codes, k_oldMany, k_oldCodes, k_body, k_roundOf, k_fresh), rfl, trivial, by rw [ht]; exact hP, va_K.moved hW.alike hK, hD⟩, hS.F ht⟩) hS.2.2 d_M_init_81
