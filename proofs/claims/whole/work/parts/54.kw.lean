def strs : List (String × Nat × String × Nat) := [("HornLearner$Line", 58, "f(c,c)", 3), ("HornLearner$Line", 60, "~r(c,c)", 4), ("HornLearner$Line", 62, "+t(c,c)", 5), ("HornLearner$Line", 64, "-t(c,c)", 6), ("HornLearner$Line", 66, "t(X,Y):-r(v,v),r(v,v),r(v,v)", 7), ("HornLearner$Line", 68, "", 8), ("HornLearner$Line", 46, "abt", 0), ("HornLearner$Line", 52, "XYZ", 1), ("HornLearner", 136, "abt", 0), ("HornLearner$Program", 35, "t(X,Y):-", 2), ("HornLearner$Program", 46, "abt", 0), ("HornLearner$Program", 51, "XYZ", 1)]
def nsts : List (String × Nat × MethodName × String) := [("HornLearner$Line", 54, y_H_codeOf, "HornLearner"), ("HornLearner$Line", 42, y_H_pairBit, "HornLearner"), ("HornLearner$Program", 43, y_H_codeAt, "HornLearner"), ("HornLearner$Program", 48, y_H_relationOf, "HornLearner"), ("HornLearner$Program", 53, y_H_firstVariableOf, "HornLearner"), ("HornLearner$Program", 56, y_H_secondVariableOf, "HornLearner"), ("HornLearner$Deduction", 26, y_H_relationOf, "HornLearner"), ("HornLearner$Deduction", 30, y_H_firstVariableOf, "HornLearner"), ("HornLearner$Deduction", 33, y_H_secondVariableOf, "HornLearner"), ("HornLearner$Deduction", 45, y_H_leastCode, "HornLearner"), ("HornLearner$Deduction", 48, y_H_withoutLeastCode, "HornLearner")]
def kw (tb : Nat) (ak av : Nat → Nat) (A : Nat → Prop) (U : State) : Prop := va_Z "HornLearner$Deduction" "CHOICES_WITH" "[J" (.ref tb) A U U.heap ∧ va_T .long tb 12 (fun j => .long (tabL j)) A U U.heap ∧ vk_S 9 xlen xbyt ak av A U U.heap ∧ va_Z "java/lang/String" "COMPACT_STRINGS" "Z" (.int (nI 1)) A U U.heap ∧ va_Zq "jdk/internal/util/Preconditions" "SIOOBE_FORMATTER" "Ljava/util/function/BiFunction;" A U U.heap ∧ (∀ q ∈ strs, vk_R q.1 q.2.1 q.2.2.1 (ak q.2.2.2) U) ∧ ∀ q ∈ nsts, va_Nw (.methodLinkNest q.1 q.2.1 q.2.2.1 q.2.2.2) U
section KWS
variable {tb : Nat} {ak av : Nat → Nat} {A A' : Nat → Prop} {U s : State}
theorem kw.tabz (h : kw tb ak av A U) : va_Z "HornLearner$Deduction" "CHOICES_WITH" "[J" (.ref tb) A U U.heap := h.1
theorem kw.tab (h : kw tb ak av A U) : va_T .long tb 12 (fun j => .long (tabL j)) A U U.heap := h.2.1
theorem kw.cod (h : kw tb ak av A U) {i : Nat} (hi : i < 9) : va_OF "java/lang/String" "coder" "B" (.int (nI 0)) (ak i) A U U.heap := (h.2.2.1.1 i hi).2.1
theorem kw.val (h : kw tb ak av A U) {i : Nat} (hi : i < 9) : va_OF "java/lang/String" "value" "[B" (.ref (av i)) (ak i) A U U.heap := (h.2.2.1.1 i hi).2.2.1
theorem kw.byt (h : kw tb ak av A U) {i : Nat} (hi : i < 9) : va_T .byte (av i) (xlen.getD i 0) (fun j => .int ((xbyt.getD i []).getD j 0)) A U U.heap := (h.2.2.1.1 i hi).2.2.2
theorem kw.rcv (h : kw tb ak av A s) {i : Nat} (hi : i < 9) {H : Heap} {locs : List Loc} (hS : va_S A s.heap H locs) : ∃ cell : Cell, H[ak i]? = some cell ∧ cell.vm.isStatics = false ∧ s.vm.findClass "java/lang/String" = some cell.cls := vk_recv h.2.2.1 hi hS
theorem kw.cmp (h : kw tb ak av A U) : va_Z "java/lang/String" "COMPACT_STRINGS" "Z" (.int (nI 1)) A U U.heap := h.2.2.2.1
theorem kw.fmt (h : kw tb ak av A U) : va_Zq "jdk/internal/util/Preconditions" "SIOOBE_FORMATTER" "Ljava/util/function/BiFunction;" A U U.heap := h.2.2.2.2.1
theorem kw.str_L_58 (h : kw tb ak av A U) : vk_R R_L 58 "f(c,c)" (ak 3) U := h.2.2.2.2.2.1 ("HornLearner$Line", 58, "f(c,c)", 3) (List.mem_of_getElem? (i := 0) rfl)
theorem kw.str_L_60 (h : kw tb ak av A U) : vk_R R_L 60 "~r(c,c)" (ak 4) U := h.2.2.2.2.2.1 ("HornLearner$Line", 60, "~r(c,c)", 4) (List.mem_of_getElem? (i := 1) rfl)
theorem kw.str_L_62 (h : kw tb ak av A U) : vk_R R_L 62 "+t(c,c)" (ak 5) U := h.2.2.2.2.2.1 ("HornLearner$Line", 62, "+t(c,c)", 5) (List.mem_of_getElem? (i := 2) rfl)
theorem kw.str_L_64 (h : kw tb ak av A U) : vk_R R_L 64 "-t(c,c)" (ak 6) U := h.2.2.2.2.2.1 ("HornLearner$Line", 64, "-t(c,c)", 6) (List.mem_of_getElem? (i := 3) rfl)
theorem kw.str_L_66 (h : kw tb ak av A U) : vk_R R_L 66 "t(X,Y):-r(v,v),r(v,v),r(v,v)" (ak 7) U := h.2.2.2.2.2.1 ("HornLearner$Line", 66, "t(X,Y):-r(v,v),r(v,v),r(v,v)", 7) (List.mem_of_getElem? (i := 4) rfl)
theorem kw.str_L_68 (h : kw tb ak av A U) : vk_R R_L 68 "" (ak 8) U := h.2.2.2.2.2.1 ("HornLearner$Line", 68, "", 8) (List.mem_of_getElem? (i := 5) rfl)
theorem kw.str_L_46 (h : kw tb ak av A U) : vk_R R_L 46 "abt" (ak 0) U := h.2.2.2.2.2.1 ("HornLearner$Line", 46, "abt", 0) (List.mem_of_getElem? (i := 6) rfl)
theorem kw.str_L_52 (h : kw tb ak av A U) : vk_R R_L 52 "XYZ" (ak 1) U := h.2.2.2.2.2.1 ("HornLearner$Line", 52, "XYZ", 1) (List.mem_of_getElem? (i := 7) rfl)
theorem kw.str_H_136 (h : kw tb ak av A U) : vk_R R_H 136 "abt" (ak 0) U := h.2.2.2.2.2.1 ("HornLearner", 136, "abt", 0) (List.mem_of_getElem? (i := 8) rfl)
theorem kw.str_P_35 (h : kw tb ak av A U) : vk_R R_P 35 "t(X,Y):-" (ak 2) U := h.2.2.2.2.2.1 ("HornLearner$Program", 35, "t(X,Y):-", 2) (List.mem_of_getElem? (i := 9) rfl)
theorem kw.str_P_46 (h : kw tb ak av A U) : vk_R R_P 46 "abt" (ak 0) U := h.2.2.2.2.2.1 ("HornLearner$Program", 46, "abt", 0) (List.mem_of_getElem? (i := 10) rfl)
theorem kw.str_P_51 (h : kw tb ak av A U) : vk_R R_P 51 "XYZ" (ak 1) U := h.2.2.2.2.2.1 ("HornLearner$Program", 51, "XYZ", 1) (List.mem_of_getElem? (i := 11) rfl)
theorem kw.nst_L_54 (h : kw tb ak av A U) : va_Nw (.methodLinkNest R_L 54 y_H_codeOf R_H) U := h.2.2.2.2.2.2 ("HornLearner$Line", 54, y_H_codeOf, "HornLearner") (List.mem_of_getElem? (i := 0) rfl)
theorem kw.nst_L_42 (h : kw tb ak av A U) : va_Nw (.methodLinkNest R_L 42 y_H_pairBit R_H) U := h.2.2.2.2.2.2 ("HornLearner$Line", 42, y_H_pairBit, "HornLearner") (List.mem_of_getElem? (i := 1) rfl)
theorem kw.nst_P_43 (h : kw tb ak av A U) : va_Nw (.methodLinkNest R_P 43 y_H_codeAt R_H) U := h.2.2.2.2.2.2 ("HornLearner$Program", 43, y_H_codeAt, "HornLearner") (List.mem_of_getElem? (i := 2) rfl)
theorem kw.nst_P_48 (h : kw tb ak av A U) : va_Nw (.methodLinkNest R_P 48 y_H_relationOf R_H) U := h.2.2.2.2.2.2 ("HornLearner$Program", 48, y_H_relationOf, "HornLearner") (List.mem_of_getElem? (i := 3) rfl)
theorem kw.nst_P_53 (h : kw tb ak av A U) : va_Nw (.methodLinkNest R_P 53 y_H_firstVariableOf R_H) U := h.2.2.2.2.2.2 ("HornLearner$Program", 53, y_H_firstVariableOf, "HornLearner") (List.mem_of_getElem? (i := 4) rfl)
theorem kw.nst_P_56 (h : kw tb ak av A U) : va_Nw (.methodLinkNest R_P 56 y_H_secondVariableOf R_H) U := h.2.2.2.2.2.2 ("HornLearner$Program", 56, y_H_secondVariableOf, "HornLearner") (List.mem_of_getElem? (i := 5) rfl)
theorem kw.nst_D_26 (h : kw tb ak av A U) : va_Nw (.methodLinkNest R_D 26 y_H_relationOf R_H) U := h.2.2.2.2.2.2 ("HornLearner$Deduction", 26, y_H_relationOf, "HornLearner") (List.mem_of_getElem? (i := 6) rfl)
theorem kw.nst_D_30 (h : kw tb ak av A U) : va_Nw (.methodLinkNest R_D 30 y_H_firstVariableOf R_H) U := h.2.2.2.2.2.2 ("HornLearner$Deduction", 30, y_H_firstVariableOf, "HornLearner") (List.mem_of_getElem? (i := 7) rfl)
theorem kw.nst_D_33 (h : kw tb ak av A U) : va_Nw (.methodLinkNest R_D 33 y_H_secondVariableOf R_H) U := h.2.2.2.2.2.2 ("HornLearner$Deduction", 33, y_H_secondVariableOf, "HornLearner") (List.mem_of_getElem? (i := 8) rfl)
theorem kw.nst_D_45 (h : kw tb ak av A U) : va_Nw (.methodLinkNest R_D 45 y_H_leastCode R_H) U := h.2.2.2.2.2.2 ("HornLearner$Deduction", 45, y_H_leastCode, "HornLearner") (List.mem_of_getElem? (i := 9) rfl)
theorem kw.nst_D_48 (h : kw tb ak av A U) : va_Nw (.methodLinkNest R_D 48 y_H_withoutLeastCode R_H) U := h.2.2.2.2.2.2 ("HornLearner$Deduction", 48, y_H_withoutLeastCode, "HornLearner") (List.mem_of_getElem? (i := 10) rfl)
theorem kw_call {H : Heap} {locs : List Loc} (h : kw tb ak av A s) (hS : va_S A s.heap H locs) (hF : ∀ q, A' q → A q) (hU : U.heap = H) (hW : s.WarmedH U.vm) : kw tb ak av A' U := by
  have hk : ∀ a : Nat, a < s.heap.size → ¬ A a → U.heap[a]? = s.heap[a]? := by rw [hU]; exact hS.2.1
  obtain ⟨h1, h2, h3, h4, h5, h6, h7⟩ := h
  exact ⟨((h1.kept hk).narrow hF).moved hW.alike, ((h2.kept hk).narrow hF).moved hW.alike, ((h3.kept hk).narrow hF).moved hW.alike, ((h4.kept hk).narrow hF).moved hW.alike, ((h5.kept hk).narrow hF).moved hW.alike, fun q hq => vk_R.warm hW (h6 q hq), fun q hq => va_Nw.warmM hW (h7 q hq)⟩
theorem kw_blind {g : JFrame} {m : MethodId} {a : Array Value} (h : kw tb ak av A U) : kw tb ak av A (U.calling g m a) := by
  obtain ⟨h1, h2, h3, h4, h5, h6, h7⟩ := h
  exact ⟨va_Z.moved (u := U) (U := U.calling g m a) (Vm.Alike.refl U.vm) h1, va_T.moved (u := U) (U := U.calling g m a) (Vm.Alike.refl U.vm) h2, vk_S.moved (u := U) (U := U.calling g m a) (Vm.Alike.refl U.vm) h3, va_Z.moved (u := U) (U := U.calling g m a) (Vm.Alike.refl U.vm) h4, va_Zq.moved (u := U) (U := U.calling g m a) (Vm.Alike.refl U.vm) h5, fun q hq => vk_R.same (u := U) (U := U.calling g m a) rfl (h6 q hq), fun q hq => va_Nw.same (u := U) (U := U.calling g m a) rfl rfl (h7 q hq)⟩
end KWS
