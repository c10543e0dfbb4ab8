-- subsumes: the class's side
def rp (v c : Nat) : Nat := c / 9 * 9 + 3 * (if c / 3 % 3 = 2 then v else c / 3 % 3) + (if c % 3 = 2 then v else c % 3)
theorem rp_lt {v c : Nat} (hv : v < 3) (hc : c < 27) : rp v c < 27 := by
  unfold rp
  split <;> split <;> omega
theorem rep_n {v c : Nat} (hv : v < 3) (hc : c < 27) : m_M_replaced (nI c) (nI v) = some (nI (rp v c), ()) := by
  unfold m_M_replaced m_M_replaced_18 m_M_replaced_33 rp
  have d3 : nI c / nI 3 = nI (c / 3) := pk_div (by omega) (by decide) (by decide)
  have d9 : nI c / nI 9 = nI (c / 9) := pk_div (by omega) (by decide) (by decide)
  rw [d3, d9, irm_n (by omega) (by decide) (by decide), irm_n (by omega) (by decide) (by decide)]
  simp (disch := omega) only [ni_eq]
  split <;> split <;> simp only [pk_mul, nI_add]
theorem wv_step {l : List Nat} {c : Nat} (hl : okB (c :: l) = true) {v k n : Nat} (hv : v < 3) (hk : k < 3) (z : Int32) : m_H_withVariableForZ_7 (n + 1) (nI v) z (mk (c :: l)) (nI k) = m_H_withVariableForZ_7 n (nI v) (z ||| bit (rp v c)) (mk l) (nI (k + 1)) := by
  have hc : c < 27 := cl_mem hl List.mem_cons_self
  have d3 : nI c / nI 3 = nI (c / 3) := pk_div (by omega) (by decide) (by decide)
  have d9 : nI c / nI 9 = nI (c / 9) := pk_div (by omega) (by decide) (by decide)
  have h1 := cl_least _ hl
  have h2 := cl_rest _ hl
  conv => lhs; unfold m_H_withVariableForZ_7
  rw [if_neg (by rw [ni_le (by decide) (by omega)]; omega), if_neg (cl_ne _ hl), h1, bs]
  unfold m_H_firstVariableOf m_H_secondVariableOf m_H_relationOf m_H_withVariableForZ_56 m_H_withVariableForZ_68 m_H_codeOf
  simp only [bs, h2, List.getD_cons_zero, List.drop_succ_cons, List.drop_zero]
  rw [d3, d9, irm_n (by omega) (by decide) (by decide), irm_n (by omega) (by decide) (by decide)]
  unfold rp
  simp (disch := omega) only [ni_eq, nI_add]
  split <;> split <;> simp only [pk_mul, nI_add, Nat.mul_comm 9 (c / 9)]
def ors (v : Nat) (l : List Nat) : Int32 := l.foldl (fun z c => z ||| bit (rp v c)) (nI 0)
theorem wv_end {v k n : Nat} (z : Int32) : m_H_withVariableForZ_7 (n + 1) (nI v) z (mk []) (nI k) = some (z, ()) := by
  conv => lhs; unfold m_H_withVariableForZ_7
  by_cases h : nI 3 ≤ nI k
  · rw [if_pos h]
  · rw [if_neg h, if_pos (show mk [] = nI 0 from rfl)]
theorem wv_n {l : List Nat} (hl : okB l = true) {v : Nat} (hv : v < 3) : m_H_withVariableForZ (mk l) (nI v) = some (ors v l, ()) := by
  unfold m_H_withVariableForZ
  match l, hl with
  | [a], hl => rw [wv_step hl hv (by decide), wv_end]; rfl
  | [a, b], hl =>
    have h2 : okB [b] = true := by simp only [okB, Bool.and_eq_true, decide_eq_true_eq] at hl ⊢; omega
    rw [wv_step hl hv (by decide), wv_step h2 hv (by decide), wv_end]; rfl
  | [a, b, c], hl =>
    have h2 : okB [b, c] = true := by simp only [okB, Bool.and_eq_true, decide_eq_true_eq] at hl ⊢; omega
    have h3 : okB [c] = true := by simp only [okB, Bool.and_eq_true, decide_eq_true_eq] at hl ⊢; omega
    rw [wv_step hl hv (by decide), wv_step h2 hv (by decide), wv_step h3 hv (by decide), wv_end]; rfl
theorem bt_ors {v : Nat} (hv : v < 3) {l : List Nat} (hl : ∀ c ∈ l, c < 27) (z : Int32) (i : Nat) : bt (l.foldl (fun z c => z ||| bit (rp v c)) z) i = (bt z i || l.any (fun c => decide (i = rp v c))) := by
  induction l generalizing z with
  | nil => simp
  | cons a l ih =>
    have := rp_lt hv (hl a List.mem_cons_self)
    rw [List.foldl_cons, ih (fun c hc => hl c (List.mem_cons_of_mem _ hc)), bt_or (by omega), List.any_cons, Bool.or_assoc]
def sA (v : Nat) (l1 l2 : List Nat) : Bool := l1.all (fun c => decide (rp v c ∈ l2))
theorem ors_sub {v : Nat} (hv : v < 3) {l1 l2 : List Nat} (h1 : okB l1 = true) (h2 : okB l2 = true) : (ors v l1 &&& (mk l2 ^^^ (-1 : Int32)) = nI 0) ↔ sA v l1 l2 = true := by
  have hb : ∀ i, i < 32 → bt (ors v l1 &&& (mk l2 ^^^ (-1 : Int32))) i = (l1.any (fun c => decide (i = rp v c)) && !decide (i ∈ l2)) := by
    intro i hi
    rw [b_and, b_xor, b_m1 i hi, Bool.xor_true, bt_mk (fun c hc => by have := cl_mem h2 hc; omega) hi]
    unfold ors
    rw [bt_ors hv (fun c hc => cl_mem h1 hc), b_n0, Bool.false_or]
  constructor
  · intro h
    refine List.all_eq_true.mpr (fun c hc => decide_eq_true ?_)
    have hr := rp_lt hv (cl_mem h1 hc)
    have h3 := hb (rp v c) (by omega)
    rw [h, b_n0] at h3
    have h4 : l1.any (fun c' => decide (rp v c = rp v c')) = true := List.any_eq_true.mpr ⟨c, hc, decide_eq_true rfl⟩
    rw [h4, Bool.true_and] at h3
    simpa using h3
  · intro h
    refine b_ext (fun i hi => ?_)
    rw [hb i hi, b_n0]
    by_cases h5 : l1.any (fun c => decide (i = rp v c)) = true
    · obtain ⟨c, hc, e⟩ := List.any_eq_true.mp h5
      have e := of_decide_eq_true e
      have h6 := of_decide_eq_true (List.all_eq_true.mp h c hc)
      rw [e, decide_eq_true h6, Bool.not_true, Bool.and_false]
    · have h5 : l1.any (fun c => decide (i = rp v c)) = false := by simpa using h5
      rw [h5, Bool.false_and]
