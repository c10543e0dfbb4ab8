/-- what a literal says of the choice t, over the facts a, b and the given pairs g -/
def gLit (a b g c t : Nat) : Bool := if c < 18 then fLit a b c t else g.testBit (4 * va3 (c / 3 % 3) t + va3 (c % 3) t)
theorem pf_step {a b g : Nat} (hg : g < 65536) {fc : Nat → Int64} (hfc : ∀ c, c < 18 → ∀ t, t < 64 → bl (fc c) t = fLit a b c t) {l : List Nat} {c : Nat} (hl : okB (c :: l) = true) {k n : Nat} (hk : k < 3) (z : Int64) : ∃ y : Int64, m_D_pairsFrom_16 (nI g) fc (n + 1) z (mk (c :: l)) (nI k) = m_D_pairsFrom_16 (nI g) fc n (z &&& y) (mk l) (nI (k + 1)) ∧ ∀ t, t < 64 → bl y t = gLit a b g c t := by
  have hc : c < 27 := cl_mem hl List.mem_cons_self
  have h1 : m_H_leastCode (mk (c :: l)) = some (nI c, ()) := cl_least _ hl
  have h2 : m_H_withoutLeastCode (mk (c :: l)) = some (mk l, ()) := cl_rest _ hl
  obtain ⟨e1, e2, -⟩ := fv_n hc
  have hu : m_D_pairsFrom_16 (nI g) fc (n + 1) z (mk (c :: l)) (nI k) = if nI 18 ≤ nI c then Option.bind (m_D_choicesWhere (nI g) (nI (c / 3 % 3)) (nI (c % 3))) (fun v => m_D_pairsFrom_16 (nI g) fc n (z &&& v.1) (mk l) (nI (k + 1))) else if inR (nI c) 18 = true then m_D_pairsFrom_16 (nI g) fc n (z &&& fc (nI c).toNatClampNeg) (mk l) (nI (k + 1)) else none := by
    conv => lhs; unfold m_D_pairsFrom_16
    unfold m_D_pairsFrom_69
    rw [if_neg (by rw [ni_le (by decide) (by omega)]; omega), if_neg (cl_ne _ hl), h1, bs, h2]
    dsimp only
    rw [e1, bs, e2, bs, nI_add]
    rfl
  rw [hu]
  by_cases h18 : 18 ≤ c
  · obtain ⟨r, hr, hbit⟩ := cw_n hg (show c / 3 % 3 < 3 by omega) (show c % 3 < 3 by omega)
    refine ⟨r, ?_, fun t ht => ?_⟩
    · rw [if_pos (by rw [ni_le (by decide) (by omega)]; exact h18), hr, bs]
    · unfold gLit
      rw [if_neg (by omega)]
      exact hbit t ht
  · refine ⟨fc c, ?_, fun t ht => ?_⟩
    · rw [if_neg (by rw [ni_le (by decide) (by omega)]; exact h18), inR_n (by omega), decide_eq_true (show c < 18 by omega), if_pos rfl, nI_clamp (by omega)]
    · unfold gLit
      rw [if_pos (by omega)]
      exact hfc c (by omega) t ht
theorem pf_end (g : Int32) (fc : Nat → Int64) {k n : Nat} (z : Int64) : m_D_pairsFrom_16 g fc (n + 1) z (mk []) (nI k) = m_D_pairsFrom_84 g fc z := by
  conv => lhs; unfold m_D_pairsFrom_16
  by_cases h : nI 3 ≤ nI k
  · rw [if_pos h]
  · rw [if_neg h, if_pos (show mk [] = nI 0 from rfl)]
theorem l_m1 : ∀ t, t < 64 → bl (-1) t = true := by decide +kernel
theorem pf_lits {a b g : Nat} (hg : g < 65536) {fc : Nat → Int64} (hfc : ∀ c, c < 18 → ∀ t, t < 64 → bl (fc c) t = fLit a b c t) {l : List Nat} (hl : okB l = true) : ∃ y : Int64, m_D_pairsFrom (nI g) fc (mk l) = m_D_pairsFrom_84 (nI g) fc y ∧ ∀ t, t < 64 → bl y t = l.all (fun c => gLit a b g c t) := by
  unfold m_D_pairsFrom
  rw [if_neg (cl_ne _ hl)]
  match l, hl with
  | [p], hl =>
    obtain ⟨y, e, h⟩ := pf_step hg hfc hl (k := 0) (n := 39) (by decide) (-1)
    refine ⟨-1 &&& y, ?_, fun t ht => ?_⟩
    · rw [e, pf_end]
    · rw [l_and, l_m1 t ht, h t ht]; simp
  | [p, q], hl =>
    have h2 : okB [q] = true := by simp only [okB, Bool.and_eq_true, decide_eq_true_eq] at hl ⊢; omega
    obtain ⟨y, e, h⟩ := pf_step hg hfc hl (k := 0) (n := 39) (by decide) (-1)
    obtain ⟨y2, e2, h3⟩ := pf_step hg hfc h2 (k := 1) (n := 38) (by decide) (-1 &&& y)
    refine ⟨-1 &&& y &&& y2, ?_, fun t ht => ?_⟩
    · rw [e]; show m_D_pairsFrom_16 (nI g) fc 39 (-1 &&& y) (mk [q]) (nI 1) = _; rw [e2, pf_end]
    · rw [l_and, l_and, l_m1 t ht, h t ht, h3 t ht]; simp
  | [p, q, r], hl =>
    have h2 : okB [q, r] = true := by simp only [okB, Bool.and_eq_true, decide_eq_true_eq] at hl ⊢; omega
    have h4 : okB [r] = true := by simp only [okB, Bool.and_eq_true, decide_eq_true_eq] at hl ⊢; omega
    obtain ⟨y, e, h⟩ := pf_step hg hfc hl (k := 0) (n := 39) (by decide) (-1)
    obtain ⟨y2, e2, h3⟩ := pf_step hg hfc h2 (k := 1) (n := 38) (by decide) (-1 &&& y)
    obtain ⟨y3, e3, h5⟩ := pf_step hg hfc h4 (k := 2) (n := 37) (by decide) (-1 &&& y &&& y2)
    refine ⟨-1 &&& y &&& y2 &&& y3, ?_, fun t ht => ?_⟩
    · rw [e]; show m_D_pairsFrom_16 (nI g) fc 39 (-1 &&& y) (mk [q, r]) (nI 1) = _
      rw [e2]; show m_D_pairsFrom_16 (nI g) fc 38 (-1 &&& y &&& y2) (mk [r]) (nI 2) = _
      rw [e3, pf_end]
    · rw [l_and, l_and, l_and, l_m1 t ht, h t ht, h3 t ht, h5 t ht]; simp [Bool.and_assoc]
