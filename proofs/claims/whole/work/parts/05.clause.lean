-- clauses as lists of codes
def okB : List Nat → Bool
  | [a] => decide (a < 27)
  | [a, b] => decide (a < b) && decide (b < 27)
  | [a, b, c] => decide (a < b) && decide (b < c) && decide (c < 27)
  | _ => false
theorem okB_ind {P : List Nat → Prop} (h1 : ∀ c, c < 27 → P [c]) (h2 : ∀ c, c < 27 → ∀ b, b < c → P [b, c]) (h3 : ∀ c, c < 27 → ∀ b, b < c → ∀ a, a < b → P [a, b, c]) : ∀ l, okB l = true → P l := by
  intro l h
  match l, h with
  | [a], h => exact h1 a (of_decide_eq_true h)
  | [a, b], h =>
    simp only [okB, Bool.and_eq_true, decide_eq_true_eq] at h
    exact h2 b h.2 a h.1
  | [a, b, c], h =>
    simp only [okB, Bool.and_eq_true, decide_eq_true_eq] at h
    exact h3 c h.2 b h.1.2 a h.1.1
def mk (l : List Nat) : Int32 := l.foldr (fun c m => (nI 1 <<< (nI c &&& 31)) ||| m) (nI 0)
theorem cl_bc : ∀ l, okB l = true → m_I_bitCount (mk l) = some (nI l.length, ()) := okB_ind (by decide +kernel) (by decide +kernel) (by decide +kernel)
theorem cl_ne : ∀ l, okB l = true → ¬ mk l = nI 0 := okB_ind (by decide +kernel) (by decide +kernel) (by decide +kernel)
theorem cl_least : ∀ l, okB l = true → m_H_leastCode (mk l) = some (nI (l.getD 0 0), ()) := okB_ind (by decide +kernel) (by decide +kernel) (by decide +kernel)
theorem cl_rest : ∀ l, okB l = true → m_H_withoutLeastCode (mk l) = some (mk (l.drop 1), ()) := okB_ind (by decide +kernel) (by decide +kernel) (by decide +kernel)
def hasX (l : List Nat) : Bool := l.any (fun c => decide (c / 3 % 3 = 0) || decide (c % 3 = 0))
def hasY (l : List Nat) : Bool := l.any (fun c => decide (c / 3 % 3 = 1) || decide (c % 3 = 1))
theorem cl_head : ∀ l, okB l = true → m_H_hasHeadVariables (mk l) = some (if hasX l && hasY l then nI 1 else nI 0, ()) := okB_ind (by decide +kernel) (by decide +kernel) (by decide +kernel)
theorem cl_codeAt0 : ∀ l, okB l = true → ((List.range l.length).all (fun j => decide (m_H_codeAt (mk l) (nI j) = some (nI (l.getD j 0), ())))) = true := okB_ind (by decide +kernel) (by decide +kernel) (by decide +kernel)
theorem cl_codeAt : ∀ l, okB l = true → ∀ j, j < l.length → m_H_codeAt (mk l) (nI j) = some (nI (l.getD j 0), ()) := fun l h j hj => of_decide_eq_true (List.all_eq_true.mp (cl_codeAt0 l h) j (List.mem_range.mpr hj))
theorem cl_len : ∀ l, okB l = true → 0 < l.length ∧ l.length ≤ 3 := okB_ind (by decide +kernel) (by decide +kernel) (by decide +kernel)
theorem cl_lt0 : ∀ l, okB l = true → (l.all (fun c => decide (c < 27))) = true := okB_ind (by decide +kernel) (by decide +kernel) (by decide +kernel)
theorem cl_mem {l : List Nat} (h : okB l = true) {c : Nat} (hc : c ∈ l) : c < 27 := of_decide_eq_true (List.all_eq_true.mp (cl_lt0 l h) c hc)
theorem cl_lt {l : List Nat} (h : okB l = true) {j : Nat} (hj : j < l.length) : l.getD j 0 < 27 := by
  have e : l.getD j 0 = l[j] := by simp [List.getD, hj]
  rw [e]
  exact cl_mem h (List.getElem_mem hj)
theorem bt_mk {l : List Nat} (h : ∀ c ∈ l, c < 32) {i : Nat} (hi : i < 32) : bt (mk l) i = decide (i ∈ l) := by
  induction l with
  | nil => exact b_0 i
  | cons a l ih =>
    show bt ((nI 1 <<< (nI a &&& 31)) ||| mk l) i = _
    rw [b_or, bt_bit a (h a List.mem_cons_self) i hi, ih (fun c hc => h c (List.mem_cons_of_mem _ hc))]
    simp [List.mem_cons]
