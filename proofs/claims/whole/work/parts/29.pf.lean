/-- pairsFrom of a clause, by the pairs that follow -/
theorem pf_n {a b g : Nat} (hg : g < 65536) {fc : Nat → Int64} (hfc : ∀ c, c < 18 → ∀ t, t < 64 → bl (fc c) t = fLit a b c t) {l : List Nat} (hl : okB l = true) : ∃ r : Nat, r < 65536 ∧ m_D_pairsFrom (nI g) fc (mk l) = some (nI r, ()) ∧ ∀ x, x < 4 → ∀ y, y < 4 → r.testBit (4 * x + y) = fol [l] a b g x y := by
  obtain ⟨w, e1, hw⟩ := pf_lits hg hfc hl
  obtain ⟨r, e2, hr, hz⟩ := quart (nI g) fc w
  obtain ⟨n, hn, rfl⟩ := set16 hz
  refine ⟨n, hn, by rw [e1, e2], fun x hx y hy => ?_⟩
  have h1 := hr (4 * x + y) (by omega)
  rw [nI_bt _ (by omega), hw _ (by omega), hw _ (by omega), hw _ (by omega), hw _ (by omega)] at h1
  rw [h1]
  unfold fol
  simp only [List.any_cons, List.any_nil, Bool.or_false, List.range'_succ, List.range'_zero]
  simp only [Nat.mul_zero, Nat.zero_add, Nat.mul_one, Nat.reduceAdd, Nat.reduceMul, Bool.or_assoc, ← Nat.add_assoc]
theorem pf_0 (g : Int32) (fc : Nat → Int64) : m_D_pairsFrom g fc (nI 0) = some (nI 0, ()) := by
  unfold m_D_pairsFrom
  rw [if_pos rfl]
