theorem eqr {args : Array Value} {s : State} {X Y : Term} {a : Nat} (h : (Cond.eq X Y).before args s = true) (hx : X.eval args s none [] s = some (.ref a)) : Y.eval args s none [] s = some (.ref a) := by
  cases hv : Y.eval args s none [] s with
  | none => simp [Cond.before, Cond.holds, Cond.value, hx, hv] at h
  | some w =>
    simp only [Cond.before, Cond.holds, Cond.value, hx, hv] at h
    cases w <;> simp_all
def tmS (i : Nat) : Term := match i with
  | 0 => .string "HornLearner$Line" 46
  | 1 => .string "HornLearner$Line" 52
  | 2 => .string "HornLearner$Program" 35
  | 3 => .string "HornLearner$Line" 58
  | 4 => .string "HornLearner$Line" 60
  | 5 => .string "HornLearner$Line" 62
  | 6 => .string "HornLearner$Line" 64
  | 7 => .string "HornLearner$Line" 66
  | _ => .string "HornLearner$Line" 68
abbrev tmT : Term := .static "HornLearner$Deduction" "CHOICES_WITH" "[J"
abbrev prem : List Cond := flatC (Jvm.Cond.and given_1 narrow_1)
theorem pr_1 : Cond.arrayOf tmT .long ∈ prem := by decide +kernel
theorem pr_2 : Cond.eq (.length tmT) (.int (Int32.ofNat 12)) ∈ prem := by decide +kernel
theorem pr_3 : ∀ j, j < 12 → Cond.eq (.elem tmT (.int (Int32.ofNat j))) (.long (tabL j)) ∈ prem := by decide +kernel
theorem pr_4 : ∀ i, i < 9 → Cond.exactly (tmS i) "java/lang/String" ∈ prem := by decide +kernel
theorem pr_5 : ∀ i, i < 9 → Cond.eq (.field (tmS i) "java/lang/String" "coder" "B") (.int 0) ∈ prem := by decide +kernel
theorem pr_6 : ∀ i, i < 9 → Cond.arrayOf (.field (tmS i) "java/lang/String" "value" "[B") .byte ∈ prem := by decide +kernel
theorem pr_7 : ∀ i, i < 9 → Cond.eq (.length (.field (tmS i) "java/lang/String" "value" "[B")) (.int (Int32.ofNat (xlen.getD i 0))) ∈ prem := by decide +kernel
theorem pr_8 : ∀ i, i < 9 → ∀ j, j < xlen.getD i 0 → Cond.eq (.elem (.field (tmS i) "java/lang/String" "value" "[B") (.int (Int32.ofNat j))) (.int ((xbyt.getD i []).getD j 0)) ∈ prem := by decide +kernel
theorem pr_9 : ∀ i, i < 9 → ∀ j, j < 9 → i ≠ j → Cond.not (Cond.eq (tmS i) (tmS j)) ∈ prem ∨ Cond.not (Cond.eq (tmS j) (tmS i)) ∈ prem := by decide +kernel
theorem pr_10 : Cond.eq (.static "java/lang/String" "COMPACT_STRINGS" "Z") (.int 1) ∈ prem := by decide +kernel
theorem pr_11 : Cond.isRef (.static "jdk/internal/util/Preconditions" "SIOOBE_FORMATTER" "Ljava/util/function/BiFunction;") ∈ prem := by decide +kernel
theorem pr_12 : Cond.eq (.string "HornLearner$Line" 46) (.string "HornLearner" 136) ∈ prem := by decide +kernel
theorem pr_13 : Cond.eq (.string "HornLearner$Line" 46) (.string "HornLearner$Program" 46) ∈ prem := by decide +kernel
theorem pr_14 : Cond.eq (.string "HornLearner$Line" 52) (.string "HornLearner$Program" 51) ∈ prem := by decide +kernel
theorem ls_1 : Cond.laysStatic "HornLearner$Deduction" "CHOICES_WITH" "[J" ∈ lw_tbl := by decide +kernel
theorem ls_2 : Cond.laysStatic "java/lang/String" "COMPACT_STRINGS" "Z" ∈ lw_tbl := by decide +kernel
theorem ls_3 : Cond.laysStatic "jdk/internal/util/Preconditions" "SIOOBE_FORMATTER" "Ljava/util/function/BiFunction;" ∈ lw_tbl := by decide +kernel
theorem ls_4 : ∀ q ∈ strs, Cond.stringRef q.1 q.2.1 q.2.2.1 ∈ lw_tbl := by decide +kernel
theorem ls_5 : ∀ q ∈ nsts, Cond.methodLinkNest q.1 q.2.1 q.2.2.1 q.2.2.2 ∈ lw_tbl := by decide +kernel
theorem ls_6 : Cond.initialized "HornLearner$Deduction" ∈ lw_tbl ∧ Cond.initialized "java/lang/String" ∈ lw_tbl ∧ Cond.initialized "jdk/internal/util/Preconditions" ∈ lw_tbl := by decide +kernel
theorem kw_start {b : Nat} {s : State} {A : Nat → Prop} (hgv : (Jvm.Cond.and given_1 narrow_1).before #[Value.ref b] s = true) (hts : ∀ w ∈ lw_tbl, w.before #[Value.ref b] s = true) (hA : ∀ a : Nat, a < s.heap.size → ¬ A a) : ∃ (tb : Nat) (ak av : Nat → Nat), kw tb ak av A s := by
  have hs := flat_of_before _ hgv
  obtain ⟨tb, ht, hT⟩ := va_Tof (tm := tmT) (ty := .long) (N := 12) (f := fun j => .long (tabL j)) (A := A) (by decide) (hs _ pr_1) (va_eqt (hs _ pr_2)) (fun j hj => va_eqtl (hs _ (pr_3 j hj))) hA
  obtain ⟨ak, av, hV, hev⟩ := vk_Sof (N := 9) (tm := tmS) (len := xlen) (byt := xbyt) (A := A) (by decide +kernel) (fun i hi => hs _ (pr_4 i hi)) (fun i hi => hs _ (pr_5 i hi)) (fun i hi => hs _ (pr_6 i hi)) (fun i hi => hs _ (pr_7 i hi)) (fun i hi j hj => hs _ (pr_8 i hi j hj)) (fun i j hi hj hij => (pr_9 i hi j hj hij).imp (hs _) (hs _)) hA
  have h0 : ∀ i, i < 9 → (tmS i).eval #[Value.ref b] s none [] s = some (.ref (ak i)) := hev
  refine ⟨tb, ak, av, va_Zof (hts _ ls_1) (hts _ ls_6.1) ht hA, hT, hV, va_Zof (hts _ ls_2) (hts _ ls_6.2.1) (va_eqt (hs _ pr_10)) hA, va_Zqof (hts _ ls_3) (hts _ ls_6.2.2) (hs _ pr_11) hA, ?_, fun q hq => va_Nw.of rfl (hts _ (ls_5 q hq))⟩
  have hr := fun q hq => hts _ (ls_4 q hq)
  intro q hq
  have hq0 := hq
  simp only [strs, List.mem_cons, List.not_mem_nil, or_false] at hq
  rcases hq with rfl | rfl | rfl | rfl | rfl | rfl | rfl | rfl | rfl | rfl | rfl | rfl
  · exact vk_R.of (hr _ hq0) (h0 3 (by decide))
  · exact vk_R.of (hr _ hq0) (h0 4 (by decide))
  · exact vk_R.of (hr _ hq0) (h0 5 (by decide))
  · exact vk_R.of (hr _ hq0) (h0 6 (by decide))
  · exact vk_R.of (hr _ hq0) (h0 7 (by decide))
  · exact vk_R.of (hr _ hq0) (h0 8 (by decide))
  · exact vk_R.of (hr _ hq0) (h0 0 (by decide))
  · exact vk_R.of (hr _ hq0) (h0 1 (by decide))
  · exact vk_R.of (hr _ hq0) (eqr (hs _ pr_12) (h0 0 (by decide)))
  · exact vk_R.of (hr _ hq0) (h0 2 (by decide))
  · exact vk_R.of (hr _ hq0) (eqr (hs _ pr_13) (h0 0 (by decide)))
  · exact vk_R.of (hr _ hq0) (eqr (hs _ pr_14) (h0 1 (by decide)))
set_option maxHeartbeats 4000000 in
set_option maxRecDepth 100000 in
theorem law_start {p : Program} {e : Env} {s : State} {m : MethodId} {below : List Frame} {meth : Method} {c : Code} (l : Launch) {b L : Nat} {xs : Nat → Int32} (C0 : lw_At p s m meth c b L xs) (hp : m_W_law_18 xs L 520 0 0 0 (fun _ => 0) (fun _ => 0) 0 (fun _ => 0) 0 0 (fun _ => 0) (fun _ => 0) 0 0 0 0 0 (fun _ => 0) (fun _ => 0) (fun _ => 0) (fun _ => 0) (fun _ => 0) (fun _ => 0) (fun _ => 0) (fun _ => 0) (fun _ => 0) (fun _ => 0) (nI 0) = some 1) : W p l e room_1 s m #[Value.ref b] below meth c s.heap [] 0 0 (lw_Z below #[Value.ref b] s) (entryFrame m ([Value.ref b] : List Value).toArray 4) := by
  obtain ⟨hx, hb, hr, hml, hown, hts0, hX, hbl, hlocks, hgv⟩ := id C0
  have hts : ∀ w ∈ lw_gd, w.before #[Value.ref b] s = true := fun w h9 => hts0 w (List.mem_filter.mp h9).1
  obtain ⟨c0, iS0, hKn0⟩ := u_known (C := R_D) (T := F_D) (N := 4) (n := 4) hts lay_D (hts _ itb_D)
  obtain ⟨c1, iS1, hKn1⟩ := u_known (C := R_L) (T := F_L) (N := 2) (n := 2) hts lay_L (hts _ itb_L)
  obtain ⟨c2, iS2, hKn2⟩ := u_known (C := R_P) (T := F_P) (N := 2) (n := 2) hts lay_P (hts _ itb_P)
  obtain ⟨c3, iS3, hKn3⟩ := u_known (C := R_H) (T := F_H) (N := 6) (n := 6) hts lay_H (hts _ itb_H)
  obtain ⟨c4, iS4, hKn4⟩ := u_known (C := R_M) (T := F_M) (N := 15) (n := 15) hts lay_M (hts _ itb_M)
  obtain ⟨dC, dI, hKc⟩ : ∃ (dC : Nat → ClassId) (dI : Nat → Nat → Nat), ∀ (k : Nat) (q : vw_C), classes[k]? = some q → u_Kn s q.1 q.2.1 q.2.2 (dC k) (dI k) := by
    refine ⟨fun k => if k = 0 then c0 else if k = 1 then c1 else if k = 2 then c2 else if k = 3 then c3 else c4, fun k => if k = 0 then iS0 else if k = 1 then iS1 else if k = 2 then iS2 else if k = 3 then iS3 else iS4, ?_⟩
    intro k q hq
    match k, hq with
    | 0, hq => cases hq; exact hKn0
    | 1, hq => cases hq; exact hKn1
    | 2, hq => cases hq; exact hKn2
    | 3, hq => cases hq; exact hKn3
    | 4, hq => cases hq; exact hKn4
    | k + 5, hq => simp [classes] at hq
  obtain ⟨A, hAe⟩ : ∃ A : Nat → Prop, (fun q : Nat => s.heap.size ≤ q) = A := ⟨_, rfl⟩
  have hA : ∀ q : Nat, s.heap.size ≤ q → A q := fun q h9 => by rw [← hAe]; exact h9
  have hnA : ∀ q : Nat, q < s.heap.size → ¬ A q := fun q h9 => by rw [← hAe]; exact Nat.not_le.mpr h9
  obtain ⟨tb, ak, av, hC⟩ := kw_start hgv hts0 hnA
  obtain ⟨H, eH⟩ : ∃ H : Heap, H = s.heap := ⟨_, rfl⟩
  have hS : va_S A s.heap H [] := by rw [eH]; exact va_S.rf
  have hK : va_K (dC, dI) classes [] s := ⟨hKc, fun k q h => by simp at h⟩
  have hP : va_P (dC, dI) classes [] H := fun k q h => by simp at h
  have hD : va_D A [] := ⟨fun i j p q h => by simp at h, fun k q h => by simp at h⟩
  have hl := lv_entry ([.ref b]) (n := 4) (Nat.le_of_ble_eq_true rfl)
  rw [lg_entry_eq]
  refine W_heap eH ?_
  clear eH
  generalize (lg_sl ([.ref b]) ++ List.replicate (4 - (lg_sl ([.ref b])).length) Slot.unset).toArray = ls at hl ⊢
  have hl : lv_has ls 4 [(0, .ref b)] := hl
  refine va_new (ci := 3) (fs := [.null, .null, .int 0, .int 0, .null, .null]) (C := R_H) (T := F_H) (N := 6) hx hb hts lay_H t_H t_H_ok hown (hts _ clk_W_7) (hts _ itb_H) (hts _ ini_H) hK hP hD hS hA rfl (fun j hj => by rcases (show j = 0 ∨ j = 1 ∨ j = 2 ∨ j = 3 ∨ j = 4 ∨ j = 5 by omega) with rfl | rfl | rfl | rfl | rfl | rfl <;> rfl) (Nat.le_of_ble_eq_true rfl) (Nat.le_of_ble_eq_true rfl) d_W_law_0 (fun h_x H hP hD hS => ?_)
  have hP : va_P (dC, dI) classes [(h_x, .inr (3, [.null, .null, .int 0, .int 0, .null, .null]))] H := hP
  have hD : va_D A [(h_x, .inr (3, [.null, .null, .int 0, .int 0, .null, .null]))] := hD
  refine W.widen (k := 1) (n := 6) (by omega) (by omega) ?_
  refine lv_dup hx hb d_W_law_3 rfl ?_
  have hPc := hP.sub (ws' := [(h_x, .inr (3, [.null, .null, .int 0, .int 0, .null, .null]))]) [0] rfl
  have hDc := hD.sub (ws' := [(h_x, .inr (3, [.null, .null, .int 0, .int 0, .null, .null]))]) [0] (by decide) rfl
  have hKc := hK.sub (tys' := []) [] rfl
  have hFc := va_free (wc := [(h_x, .inr (3, [.null, .null, .int 0, .int 0, .null, .null]))]) hD hS hA [0] rfl
  refine va_callv (va_runI (As := []) (rest := [.ref h_x]) ⟨hx, hb, hml, hown, hts⟩ (c_H_init l dC dI h_x H.size) (cwI 0 hts (gI cod_H_init) rfl rfl rfl (hts _ ini_H) (hts _ mlk_W_9) (hts _ ins_H_init) rfl (by decide +kernel) ⟨Nat.le_of_ble_eq_true rfl, Nat.le_of_ble_eq_true rfl⟩) ⟨fun a U g mk q => by obtain ⟨q0, q1, qP, qK, qD⟩ := q; exact ⟨q0, q1, qP, va_K.moved (u := U) (U := U.calling g mk a) (Vm.Alike.refl U.vm) qK, qD⟩, fun U hU hW => ⟨rfl, by rw [hU], by rw [hU]; exact hPc, va_K.moved hW.alike hKc, hDc.weaken (fun _ _ _ _ => trivial)⟩⟩ rfl rfl hl.1 rfl (lv_room (Nat.le_of_ble_eq_true rfl)) d_W_law_4 ⟨Nat.le_of_ble_eq_true rfl, Nat.le_of_ble_eq_true rfl⟩) hS (fun q _ h9 => hFc q h9) hFc (fun u t H1 locs ht hvm hw hB hz1 hk1 hS => ?_)
  obtain ⟨h_x_line, h_x_line_typed, h_x_factSets, h_x_program, h_x_program_bodies, h_x_deduction, h_x_deduction_factChoices, h_x_deduction_givenInRound, k_x_line_typed, k_x_factSets, k_x_program_bodies, k_x_deduction_factChoices, k_x_deduction_givenInRound⟩ := u
  obtain ⟨hP1, hK1, hD1⟩ := hB
  rw [ht] at hP1
  have hK1 := va_K.moved hvm.symm hK1
  obtain ⟨hP, hD⟩ := va_join (wr := []) (w1 := [(h_x, .inr (3, [.ref h_x_line, .ref h_x_factSets, .int 0, .int 0, .ref h_x_program, .ref h_x_deduction])), (h_x_line, .inr (1, [.ref h_x_line_typed, .int 0])), (h_x_line_typed, .inl (k_x_line_typed, 32, .inl (fun _ => 0))), (h_x_factSets, .inl (k_x_factSets, 2, .inl (fun _ => 0))), (h_x_program, .inr (2, [.ref h_x_program_bodies, .int 0])), (h_x_program_bodies, .inl (k_x_program_bodies, 2, .inl (fun _ => 0))), (h_x_deduction, .inr (0, [.ref h_x_deduction_factChoices, .ref h_x_deduction_givenInRound, .int 0, .int 0])), (h_x_deduction_factChoices, .inl (k_x_deduction_factChoices, 18, .inr (.inl (fun _ => 0)))), (h_x_deduction_givenInRound, .inl (k_x_deduction_givenInRound, 17, .inl (fun _ => 0)))]) hP hD [0] [] rfl rfl (by decide) (by decide) hk1 hFc hP1 hD1
  have hK := hK.app hK1
  generalize H1 = H at hP hS ⊢
  have hP : va_P (dC, dI) classes [(h_x, .inr (3, [.ref h_x_line, .ref h_x_factSets, .int 0, .int 0, .ref h_x_program, .ref h_x_deduction])), (h_x_line, .inr (1, [.ref h_x_line_typed, .int 0])), (h_x_line_typed, .inl (k_x_line_typed, 32, .inl (fun _ => 0))), (h_x_factSets, .inl (k_x_factSets, 2, .inl (fun _ => 0))), (h_x_program, .inr (2, [.ref h_x_program_bodies, .int 0])), (h_x_program_bodies, .inl (k_x_program_bodies, 2, .inl (fun _ => 0))), (h_x_deduction, .inr (0, [.ref h_x_deduction_factChoices, .ref h_x_deduction_givenInRound, .int 0, .int 0])), (h_x_deduction_factChoices, .inl (k_x_deduction_factChoices, 18, .inr (.inl (fun _ => 0)))), (h_x_deduction_givenInRound, .inl (k_x_deduction_givenInRound, 17, .inl (fun _ => 0)))] H := hP
  have hD : va_D A [(h_x, .inr (3, [.ref h_x_line, .ref h_x_factSets, .int 0, .int 0, .ref h_x_program, .ref h_x_deduction])), (h_x_line, .inr (1, [.ref h_x_line_typed, .int 0])), (h_x_line_typed, .inl (k_x_line_typed, 32, .inl (fun _ => 0))), (h_x_factSets, .inl (k_x_factSets, 2, .inl (fun _ => 0))), (h_x_program, .inr (2, [.ref h_x_program_bodies, .int 0])), (h_x_program_bodies, .inl (k_x_program_bodies, 2, .inl (fun _ => 0))), (h_x_deduction, .inr (0, [.ref h_x_deduction_factChoices, .ref h_x_deduction_givenInRound, .int 0, .int 0])), (h_x_deduction_factChoices, .inl (k_x_deduction_factChoices, 18, .inr (.inl (fun _ => 0)))), (h_x_deduction_givenInRound, .inl (k_x_deduction_givenInRound, 17, .inl (fun _ => 0)))] := hD
  have hK : va_K (dC, dI) classes [(k_x_line_typed, .char), (k_x_factSets, .int), (k_x_program_bodies, .int), (k_x_deduction_factChoices, .long), (k_x_deduction_givenInRound, .int)] s := hK
  refine W.widen (k := 9) (n := 85) (by omega) (by omega) ?_
  refine lv_astore_n (lv' := [(1, .ref h_x), (0, .ref b)]) hx hb d_W_law_7 rfl hl (by decide) rfl (fun ls hl => ?_)
  refine va_new (ci := 4) (fs := [.null, .int 0, .null, .null, .int 0, .null, .null, .int 0, .null, .null, .int 0, .null, .null, .null, .int 0]) (C := R_M) (T := F_M) (N := 15) hx hb hts lay_M t_M t_M_ok hown (hts _ clk_W_10) (hts _ itb_M) (hts _ ini_M) hK hP hD hS hA rfl (fun j hj => by rcases (show j = 0 ∨ j = 1 ∨ j = 2 ∨ j = 3 ∨ j = 4 ∨ j = 5 ∨ j = 6 ∨ j = 7 ∨ j = 8 ∨ j = 9 ∨ j = 10 ∨ j = 11 ∨ j = 12 ∨ j = 13 ∨ j = 14 by omega) with rfl | rfl | rfl | rfl | rfl | rfl | rfl | rfl | rfl | rfl | rfl | rfl | rfl | rfl | rfl <;> rfl) (Nat.le_of_ble_eq_true rfl) (Nat.le_of_ble_eq_true rfl) d_W_law_8 (fun h_m H hP hD hS => ?_)
  have hP : va_P (dC, dI) classes [(h_x, .inr (3, [.ref h_x_line, .ref h_x_factSets, .int 0, .int 0, .ref h_x_program, .ref h_x_deduction])), (h_x_line, .inr (1, [.ref h_x_line_typed, .int 0])), (h_x_line_typed, .inl (k_x_line_typed, 32, .inl (fun _ => 0))), (h_x_factSets, .inl (k_x_factSets, 2, .inl (fun _ => 0))), (h_x_program, .inr (2, [.ref h_x_program_bodies, .int 0])), (h_x_program_bodies, .inl (k_x_program_bodies, 2, .inl (fun _ => 0))), (h_x_deduction, .inr (0, [.ref h_x_deduction_factChoices, .ref h_x_deduction_givenInRound, .int 0, .int 0])), (h_x_deduction_factChoices, .inl (k_x_deduction_factChoices, 18, .inr (.inl (fun _ => 0)))), (h_x_deduction_givenInRound, .inl (k_x_deduction_givenInRound, 17, .inl (fun _ => 0))), (h_m, .inr (4, [.null, .int 0, .null, .null, .int 0, .null, .null, .int 0, .null, .null, .int 0, .null, .null, .null, .int 0]))] H := hP
  have hD : va_D A [(h_x, .inr (3, [.ref h_x_line, .ref h_x_factSets, .int 0, .int 0, .ref h_x_program, .ref h_x_deduction])), (h_x_line, .inr (1, [.ref h_x_line_typed, .int 0])), (h_x_line_typed, .inl (k_x_line_typed, 32, .inl (fun _ => 0))), (h_x_factSets, .inl (k_x_factSets, 2, .inl (fun _ => 0))), (h_x_program, .inr (2, [.ref h_x_program_bodies, .int 0])), (h_x_program_bodies, .inl (k_x_program_bodies, 2, .inl (fun _ => 0))), (h_x_deduction, .inr (0, [.ref h_x_deduction_factChoices, .ref h_x_deduction_givenInRound, .int 0, .int 0])), (h_x_deduction_factChoices, .inl (k_x_deduction_factChoices, 18, .inr (.inl (fun _ => 0)))), (h_x_deduction_givenInRound, .inl (k_x_deduction_givenInRound, 17, .inl (fun _ => 0))), (h_m, .inr (4, [.null, .int 0, .null, .null, .int 0, .null, .null, .int 0, .null, .null, .int 0, .null, .null, .null, .int 0]))] := hD
  refine W.widen (k := 10) (n := 100) (by omega) (by omega) ?_
  refine lv_dup hx hb d_W_law_11 rfl ?_
  have hPc := hP.sub (ws' := [(h_m, .inr (4, [.null, .int 0, .null, .null, .int 0, .null, .null, .int 0, .null, .null, .int 0, .null, .null, .null, .int 0]))]) [9] rfl
  have hDc := hD.sub (ws' := [(h_m, .inr (4, [.null, .int 0, .null, .null, .int 0, .null, .null, .int 0, .null, .null, .int 0, .null, .null, .null, .int 0]))]) [9] (by decide) rfl
  have hKc := hK.sub (tys' := []) [] rfl
  have hFc := va_free (wc := [(h_m, .inr (4, [.null, .int 0, .null, .null, .int 0, .null, .null, .int 0, .null, .null, .int 0, .null, .null, .null, .int 0]))]) hD hS hA [9] rfl
  refine va_callv (va_runI (As := []) (rest := [.ref h_m]) ⟨hx, hb, hml, hown, hts⟩ (c_M_init l dC dI h_m H.size) (cwI 0 hts (gI cod_M_init) rfl rfl rfl (hts _ ini_M) (hts _ mlk_W_12) (hts _ ins_M_init) rfl (by decide +kernel) ⟨Nat.le_of_ble_eq_true rfl, Nat.le_of_ble_eq_true rfl⟩) ⟨fun a U g mk q => by obtain ⟨q0, q1, qP, qK, qD⟩ := q; exact ⟨q0, q1, qP, va_K.moved (u := U) (U := U.calling g mk a) (Vm.Alike.refl U.vm) qK, qD⟩, fun U hU hW => ⟨rfl, by rw [hU], by rw [hU]; exact hPc, va_K.moved hW.alike hKc, hDc.weaken (fun _ _ _ _ => trivial)⟩⟩ rfl rfl hl.1 rfl (lv_room (Nat.le_of_ble_eq_true rfl)) d_W_law_12 ⟨Nat.le_of_ble_eq_true rfl, Nat.le_of_ble_eq_true rfl⟩) hS (fun q _ h9 => hFc q h9) hFc (fun u t H1 locs ht hvm hw hB hz1 hk1 hS => ?_)
  obtain ⟨h_m_line, h_m_fact, h_m_marked, h_m_many, h_m_codes, h_m_oldMany, h_m_oldCodes, h_m_body, h_m_roundOf, h_m_fresh, k_m_line, k_m_fact, k_m_marked, k_m_many, k_m_codes, k_m_oldMany, k_m_oldCodes, k_m_body, k_m_roundOf, k_m_fresh⟩ := u
  obtain ⟨hP1, hK1, hD1⟩ := hB
  rw [ht] at hP1
  have hK1 := va_K.moved hvm.symm hK1
  obtain ⟨hP, hD⟩ := va_join (wr := [(h_x, .inr (3, [.ref h_x_line, .ref h_x_factSets, .int 0, .int 0, .ref h_x_program, .ref h_x_deduction])), (h_x_line, .inr (1, [.ref h_x_line_typed, .int 0])), (h_x_line_typed, .inl (k_x_line_typed, 32, .inl (fun _ => 0))), (h_x_factSets, .inl (k_x_factSets, 2, .inl (fun _ => 0))), (h_x_program, .inr (2, [.ref h_x_program_bodies, .int 0])), (h_x_program_bodies, .inl (k_x_program_bodies, 2, .inl (fun _ => 0))), (h_x_deduction, .inr (0, [.ref h_x_deduction_factChoices, .ref h_x_deduction_givenInRound, .int 0, .int 0])), (h_x_deduction_factChoices, .inl (k_x_deduction_factChoices, 18, .inr (.inl (fun _ => 0)))), (h_x_deduction_givenInRound, .inl (k_x_deduction_givenInRound, 17, .inl (fun _ => 0)))]) (w1 := [(h_m, .inr (4, [.ref h_m_line, .int 0, .ref h_m_fact, .ref h_m_marked, .int 0, .ref h_m_many, .ref h_m_codes, .int 0, .ref h_m_oldMany, .ref h_m_oldCodes, .int 0, .ref h_m_body, .ref h_m_roundOf, .ref h_m_fresh, .int 0])), (h_m_line, .inl (k_m_line, 32, .inl (fun _ => 0))), (h_m_fact, .inl (k_m_fact, 32, .inl (fun _ => 0))), (h_m_marked, .inl (k_m_marked, 16, .inl (fun _ => 0))), (h_m_many, .inl (k_m_many, 2, .inl (fun _ => 0))), (h_m_codes, .inl (k_m_codes, 6, .inl (fun _ => 0))), (h_m_oldMany, .inl (k_m_oldMany, 2, .inl (fun _ => 0))), (h_m_oldCodes, .inl (k_m_oldCodes, 6, .inl (fun _ => 0))), (h_m_body, .inl (k_m_body, 3, .inl (fun _ => 0))), (h_m_roundOf, .inl (k_m_roundOf, 16, .inl (fun _ => 0))), (h_m_fresh, .inl (k_m_fresh, 16, .inl (fun _ => 0)))]) hP hD [9] [0, 1, 2, 3, 4, 5, 6, 7, 8] rfl rfl (by decide) (by decide) hk1 hFc hP1 hD1
  have hK := hK.app hK1
  generalize H1 = H at hP hS ⊢
  have hP : va_P (dC, dI) classes [(h_x, .inr (3, [.ref h_x_line, .ref h_x_factSets, .int 0, .int 0, .ref h_x_program, .ref h_x_deduction])), (h_x_line, .inr (1, [.ref h_x_line_typed, .int 0])), (h_x_line_typed, .inl (k_x_line_typed, 32, .inl (fun _ => 0))), (h_x_factSets, .inl (k_x_factSets, 2, .inl (fun _ => 0))), (h_x_program, .inr (2, [.ref h_x_program_bodies, .int 0])), (h_x_program_bodies, .inl (k_x_program_bodies, 2, .inl (fun _ => 0))), (h_x_deduction, .inr (0, [.ref h_x_deduction_factChoices, .ref h_x_deduction_givenInRound, .int 0, .int 0])), (h_x_deduction_factChoices, .inl (k_x_deduction_factChoices, 18, .inr (.inl (fun _ => 0)))), (h_x_deduction_givenInRound, .inl (k_x_deduction_givenInRound, 17, .inl (fun _ => 0))), (h_m, .inr (4, [.ref h_m_line, .int 0, .ref h_m_fact, .ref h_m_marked, .int 0, .ref h_m_many, .ref h_m_codes, .int 0, .ref h_m_oldMany, .ref h_m_oldCodes, .int 0, .ref h_m_body, .ref h_m_roundOf, .ref h_m_fresh, .int 0])), (h_m_line, .inl (k_m_line, 32, .inl (fun _ => 0))), (h_m_fact, .inl (k_m_fact, 32, .inl (fun _ => 0))), (h_m_marked, .inl (k_m_marked, 16, .inl (fun _ => 0))), (h_m_many, .inl (k_m_many, 2, .inl (fun _ => 0))), (h_m_codes, .inl (k_m_codes, 6, .inl (fun _ => 0))), (h_m_oldMany, .inl (k_m_oldMany, 2, .inl (fun _ => 0))), (h_m_oldCodes, .inl (k_m_oldCodes, 6, .inl (fun _ => 0))), (h_m_body, .inl (k_m_body, 3, .inl (fun _ => 0))), (h_m_roundOf, .inl (k_m_roundOf, 16, .inl (fun _ => 0))), (h_m_fresh, .inl (k_m_fresh, 16, .inl (fun _ => 0)))] H := hP
  have hD : va_D A [(h_x, .inr (3, [.ref h_x_line, .ref h_x_factSets, .int 0, .int 0, .ref h_x_program, .ref h_x_deduction])), (h_x_line, .inr (1, [.ref h_x_line_typed, .int 0])), (h_x_line_typed, .inl (k_x_line_typed, 32, .inl (fun _ => 0))), (h_x_factSets, .inl (k_x_factSets, 2, .inl (fun _ => 0))), (h_x_program, .inr (2, [.ref h_x_program_bodies, .int 0])), (h_x_program_bodies, .inl (k_x_program_bodies, 2, .inl (fun _ => 0))), (h_x_deduction, .inr (0, [.ref h_x_deduction_factChoices, .ref h_x_deduction_givenInRound, .int 0, .int 0])), (h_x_deduction_factChoices, .inl (k_x_deduction_factChoices, 18, .inr (.inl (fun _ => 0)))), (h_x_deduction_givenInRound, .inl (k_x_deduction_givenInRound, 17, .inl (fun _ => 0))), (h_m, .inr (4, [.ref h_m_line, .int 0, .ref h_m_fact, .ref h_m_marked, .int 0, .ref h_m_many, .ref h_m_codes, .int 0, .ref h_m_oldMany, .ref h_m_oldCodes, .int 0, .ref h_m_body, .ref h_m_roundOf, .ref h_m_fresh, .int 0])), (h_m_line, .inl (k_m_line, 32, .inl (fun _ => 0))), (h_m_fact, .inl (k_m_fact, 32, .inl (fun _ => 0))), (h_m_marked, .inl (k_m_marked, 16, .inl (fun _ => 0))), (h_m_many, .inl (k_m_many, 2, .inl (fun _ => 0))), (h_m_codes, .inl (k_m_codes, 6, .inl (fun _ => 0))), (h_m_oldMany, .inl (k_m_oldMany, 2, .inl (fun _ => 0))), (h_m_oldCodes, .inl (k_m_oldCodes, 6, .inl (fun _ => 0))), (h_m_body, .inl (k_m_body, 3, .inl (fun _ => 0))), (h_m_roundOf, .inl (k_m_roundOf, 16, .inl (fun _ => 0))), (h_m_fresh, .inl (k_m_fresh, 16, .inl (fun _ => 0)))] := hD
  have hK : va_K (dC, dI) classes [(k_x_line_typed, .char), (k_x_factSets, .int), (k_x_program_bodies, .int), (k_x_deduction_factChoices, .long), (k_x_deduction_givenInRound, .int), (k_m_line, .int), (k_m_fact, .boolean), (k_m_marked, .int), (k_m_many, .int), (k_m_codes, .int), (k_m_oldMany, .int), (k_m_oldCodes, .int), (k_m_body, .int), (k_m_roundOf, .int), (k_m_fresh, .boolean)] s := hK
  refine W.widen (k := 20) (n := 231) (by omega) (by omega) ?_
  refine lv_astore_n (lv' := [(2, .ref h_m), (1, .ref h_x), (0, .ref b)]) hx hb d_W_law_15 rfl hl (by decide) rfl (fun ls hl => ?_)
  refine lv_iconst (v := (nI 0)) hx hb d_W_law_16 (by decide) ?_
  refine lv_istore_n (lv' := [(3, .int (nI 0)), (2, .ref h_m), (1, .ref h_x), (0, .ref b)]) hx hb d_W_law_17 rfl hl (by decide) rfl (fun ls hl => ?_)
  exact law_run h_x h_x_line h_x_factSets h_x_program h_x_deduction h_x_line_typed h_x_program_bodies h_x_deduction_factChoices h_x_deduction_givenInRound h_m h_m_line h_m_fact h_m_marked h_m_many h_m_codes h_m_oldMany h_m_oldCodes h_m_body h_m_roundOf h_m_fresh k_x_line_typed k_x_factSets k_x_program_bodies k_x_deduction_factChoices k_x_deduction_givenInRound k_m_line k_m_fact k_m_marked k_m_many k_m_codes k_m_oldMany k_m_oldCodes k_m_body k_m_roundOf k_m_fresh tb ak av C0 hK A hAe hC 520 0 0 0 (fun _ => 0) (fun _ => 0) 0 (fun _ => 0) 0 0 (fun _ => 0) (fun _ => 0) 0 0 0 0 0 (fun _ => 0) (fun _ => 0) (fun _ => 0) (fun _ => 0) (fun _ => 0) (fun _ => 0) (fun _ => 0) (fun _ => 0) (fun _ => 0) (fun _ => 0) (nI 0) hp _ _ hP hD hS ls (lv_sub hl [3, 2, 1, 0] rfl)
