theorem nI_bt {n : Nat} (i : Nat) (h : n < 4294967296) : bt (nI n) i = n.testBit i := by
  unfold bt
  rw [BitVec.getLsbD, pk_tn h]
/-- a set of 16 is a number -/
theorem set16 {x : Int32} (h : ∀ i, 16 ≤ i → bt x i = false) : ∃ n : Nat, n < 65536 ∧ x = nI n := by
  obtain ⟨n, hn, e⟩ := pk_andE x (m := 65535) 16 (by decide)
  refine ⟨n, hn, ?_⟩
  rw [← e]
  refine b_ext (fun i hi => ?_)
  rw [b_and, b_65535]
  by_cases h1 : i < 16
  · simp [h1]
  · simp [h1, h i (by omega)]
theorem facts_loop {fa : Nat → Int32} {r : Nat} {g : Nat → Bool} (hr : r < 2) (hg : ∀ p, p < 16 → fa (16 * r + p) = if g p then nI 1 else nI 0) : ∀ d k, k + d = 16 → ∀ n, d < n → m_M_facts_15 fa n (nI r) (nI (cn g k)) (nI k) = some (nI (cn g 16), ()) := by
  intro d
  induction d with
  | zero =>
    intro k hk n hn
    have e : k = 16 := by omega
    subst e
    obtain ⟨m, rfl⟩ : ∃ m, n = m + 1 := ⟨n - 1, by omega⟩
    unfold m_M_facts_15
    rw [if_pos (by rw [ni_le (by decide) (by decide)]; exact Nat.le_refl 16)]
  | succ d ih =>
    intro k hk n hn
    obtain ⟨m, rfl⟩ : ∃ m, n = m + 1 := ⟨n - 1, by omega⟩
    have hk2 : k < 16 := by omega
    have hcn := cn_le g k
    have e1 := hg k hk2
    have step := ih (k + 1) (by omega) m (by omega)
    unfold m_M_facts_15
    rw [if_neg (by rw [ni_le (by decide) (by omega)]; omega)]
    simp (disch := omega) only [pk_mul, nI_add, inR_n, nI_clamp]
    simp only [show decide (16 * r + k < 32) = true from decide_eq_true (by omega), if_true, e1]
    have e2 : cn g (k + 1) = cn g k + (if g k then 1 else 0) := rfl
    rw [e2] at step
    unfold m_M_facts_42
    by_cases hb : g k = true
    · rw [hb] at step ⊢
      simp only [if_true] at step ⊢
      rw [if_neg (by decide), nI_add]
      exact step
    · have hb : g k = false := by simpa using hb
      rw [hb] at step ⊢
      simp only [Bool.false_eq_true, if_false, Nat.add_zero] at step ⊢
      rw [if_pos trivial, nI_add]
      exact step
theorem s_facts {fs fa : Nat → Int32} (h : RF fs fa) (x : Int32) : ∃ r : Int32, m_H_facts fs x = some (r, ()) ∧ m_M_facts fa x = some (r, ()) := by
  unfold m_H_facts m_M_facts m_H_isFactRelation
  rcases ix x (n := 2) (by decide) with h1 | h1 | ⟨r, hr, rfl⟩
  · exact ⟨-1, by rw [if_pos h1]; rfl, by rw [if_pos h1]⟩
  · refine ⟨-1, by rw [if_neg (ix_nn h1 (by decide)), if_pos h1]; rfl, ?_⟩
    rw [if_neg (ix_nn h1 (by decide)), if_neg]
    intro h2
    have a1 := Int32.le_iff_toInt_le.mp h1
    have a2 := Int32.le_iff_toInt_le.mp h2
    rw [nI_toInt (by decide)] at a1 a2
    omega
  · obtain ⟨n, hn, e⟩ := set16 (h r hr).2
    refine ⟨nI (cn (fun p => n.testBit p) 16), ?_, ?_⟩
    · simp (disch := omega) only [ni_lt, ni_le, Nat.not_lt_zero, Nat.not_le.mpr hr, if_false, bs, ni_eq, Nat.one_ne_zero, inR_n, nI_clamp]
      simp only [show decide (r < 2) = true from decide_eq_true hr, if_true, e, bc16 hn, bs]
    · simp (disch := omega) only [ni_lt, ni_le, Nat.not_lt_zero, if_false, if_pos (show r ≤ 1 by omega)]
      refine facts_loop (g := fun p => n.testBit p) hr ?_ 16 0 (by omega) 40 (by omega)
      intro p hp
      rw [(h r hr).1 p hp, e, nI_bt p (by omega)]
