section WK
variable {fa mn cs : Nat → Int32} {ct : Int32}
theorem wk_zero (la : Int32) (fr : Nat → Int32) : ∀ d k, k + d = 16 → ∀ n, d < n → ∀ ro : Nat → Int32, (∀ p, p < k → ro p = nI 0) → ∃ ro' : Nat → Int32, m_M_work_2 ct fa mn cs n la ro fr (nI k) = m_M_work_28 ct fa mn cs 40 (nI 0) ro' fr (nI 1) ∧ ∀ p, p < 16 → ro' p = nI 0 := by
  intro d
  induction d with
  | zero =>
    intro k hk n hn ro h
    obtain ⟨n, rfl⟩ : ∃ n', n = n' + 1 := ⟨n - 1, by omega⟩
    refine ⟨ro, ?_, fun p hp => h p (by omega)⟩
    unfold m_M_work_2
    rw [if_pos (by rw [ni_le (by decide) (by omega)]; omega)]
  | succ d ih =>
    intro k hk n hn ro h
    obtain ⟨n, rfl⟩ : ∃ n', n = n' + 1 := ⟨n - 1, by omega⟩
    obtain ⟨ro', e, h2⟩ := ih (k + 1) (by omega) n (by omega) (upd ro k (nI 0)) (fun p hp => by
      by_cases e : p = k
      · subst e; exact pk_us
      · rw [pk_un e]; exact h p (by omega))
    refine ⟨ro', ?_, h2⟩
    conv => lhs; unfold m_M_work_2
    rw [if_neg (by rw [ni_le (by decide) (by omega)]; omega), inR_n (by omega), decide_eq_true (show k < 16 by omega), nI_clamp (by omega), if_pos rfl, nI_add]
    exact e
theorem wk_set (K : Int32 → (Nat → Int32) → (Nat → Int32) → Int32 → Option (Int32 × (Nat → Int32) × (Nat → Int32))) (la z1 : Int32) (fr : Nat → Int32) : ∀ d k, k + d = 16 → ∀ n, d < n → ∀ ro : Nat → Int32, ∃ ro' : Nat → Int32, m_M_work_123 ct fa mn cs K n la ro fr z1 (nI k) = K la ro' fr z1 ∧ ∀ p, p < 16 → ro' p = if p < k then ro p else if fr p = nI 0 then ro p else la := by
  intro d
  induction d with
  | zero =>
    intro k hk n hn ro
    obtain ⟨n, rfl⟩ : ∃ n', n = n' + 1 := ⟨n - 1, by omega⟩
    refine ⟨ro, ?_, fun p hp => by rw [if_pos (by omega)]⟩
    unfold m_M_work_123
    rw [if_pos (by rw [ni_le (by decide) (by omega)]; omega)]
  | succ d ih =>
    intro k hk n hn ro
    obtain ⟨n, rfl⟩ : ∃ n', n = n' + 1 := ⟨n - 1, by omega⟩
    have hk2 : decide (k < 16) = true := decide_eq_true (by omega)
    obtain ⟨ro', e, h2⟩ := ih (k + 1) (by omega) n (by omega) (upd ro k (if fr k = nI 0 then ro k else la))
    refine ⟨ro', ?_, fun p hp => ?_⟩
    · conv => lhs; unfold m_M_work_123
      unfold m_M_work_156
      rw [if_neg (by rw [ni_le (by decide) (by omega)]; omega), inR_n (by omega), hk2, nI_clamp (by omega), nI_add]
      simp only [if_true]
      by_cases hf : fr k = nI 0
      · rw [if_pos hf] at e ⊢
        exact e
      · rw [if_neg hf] at e ⊢
        exact e
    · rw [h2 p hp]
      by_cases e1 : p = k
      · subst e1
        rw [if_pos (Nat.lt_succ_self p), pk_us, if_neg (Nat.lt_irrefl p)]
      · rw [pk_un e1]
        by_cases e2 : p < k
        · rw [if_pos (by omega), if_pos e2]
        · rw [if_neg (by omega), if_neg e2]
end WK
