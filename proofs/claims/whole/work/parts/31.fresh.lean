theorem isZ_bi (f : Bool) : isZ (bi f) = true := by cases f <;> decide
theorem bi_f : bi false = nI 0 := rfl
theorem bi_t : bi true = nI 1 := rfl
theorem n10 : ¬ (nI 1 : Int32) = nI 0 := by decide
theorem wk_74 {fa mn cs : Nat → Int32} {ct : Int32} (K : Int32 → (Nat → Int32) → (Nat → Int32) → Int32 → Int32 → Option (Int32 × (Nat → Int32) × (Nat → Int32))) (la : Int32) (ro fr : Nat → Int32) {k : Nat} (hk : k < 16) (μ f : Bool) : m_M_work_74 ct fa mn cs K la ro fr (bi μ) (nI k) (bi f) (nI k) = K la ro (upd fr k (bi f)) (bi (μ || f)) (nI (k + 1)) := by
  unfold m_M_work_74 m_M_work_88 m_M_work_93
  rw [inR_n (by omega), decide_eq_true hk, nI_clamp (by omega), nI_add, pk_us, isZ_bi]
  rw [if_pos rfl, if_pos rfl, if_pos rfl]
  cases μ
  · rw [bi_f, if_pos rfl]
    cases f
    · rw [bi_f, if_pos rfl]; rfl
    · rw [bi_t, if_neg n10]; rfl
  · rw [bi_t, if_neg n10]; rfl
theorem wk_fresh {fa mn cs ro : Nat → Int32} {ct : Int32} {F : Nat → Bool} (h1 : ∀ p, p < 16 → ro p = nI 0 → m_M_follows ct fa mn cs ro (nI (p / 4)) (nI (p % 4)) = some (bi (F p), ())) (h2 : ∀ p, p < 16 → ¬ ro p = nI 0 → F p = false) (K : Int32 → (Nat → Int32) → (Nat → Int32) → Int32 → Option (Int32 × (Nat → Int32) × (Nat → Int32))) (la : Int32) : ∀ d k, k + d = 16 → ∀ n, d < n → ∀ (fr : Nat → Int32) (μ : Bool), ∃ fr' : Nat → Int32, m_M_work_36 ct fa mn cs K n la ro fr (bi μ) (nI k) = (if (μ || (List.range' k d).any F) = true then m_M_work_118 ct fa mn cs K la ro fr' (nI 1) (la + nI 1) else m_M_work_118 ct fa mn cs K la ro fr' (nI 0) la) ∧ ∀ p, p < 16 → fr' p = if p < k then fr p else bi (F p) := by
  intro d
  induction d with
  | zero =>
    intro k hk n hn fr μ
    obtain ⟨n, rfl⟩ : ∃ n', n = n' + 1 := ⟨n - 1, by omega⟩
    refine ⟨fr, ?_, fun p hp => by rw [if_pos (by omega)]⟩
    conv => lhs; unfold m_M_work_36
    rw [if_pos (by rw [ni_le (by decide) (by omega)]; omega), List.range'_zero, List.any_nil, Bool.or_false]
    cases μ
    · rw [bi_f, if_pos rfl, if_neg (by decide)]
    · rw [bi_t, if_neg n10, if_pos rfl]
  | succ d ih =>
    intro k hk n hn fr μ
    obtain ⟨n, rfl⟩ : ∃ n', n = n' + 1 := ⟨n - 1, by omega⟩
    have hk2 : k < 16 := by omega
    obtain ⟨fr', e, h3⟩ := ih (k + 1) (by omega) n (by omega) (upd fr k (bi (F k))) (μ || F k)
    refine ⟨fr', ?_, fun p hp => ?_⟩
    · conv => lhs; unfold m_M_work_36
      unfold m_M_work_73
      rw [if_neg (by rw [ni_le (by decide) (by omega)]; omega), inR_n (by omega), decide_eq_true hk2, nI_clamp (by omega), if_pos rfl, pk_div (show k < 2 ^ 31 by omega) (by decide) (by decide), irm_n (by omega) (by decide) (by decide), List.range'_succ, List.any_cons, ← Bool.or_assoc]
      have w0 := wk_74 (fa := fa) (mn := mn) (cs := cs) (ct := ct) (m_M_work_36 ct fa mn cs K n) la ro fr hk2 μ (F k)
      by_cases hr : ro k = nI 0
      · rw [if_pos hr, h1 k hk2 hr, bs]
        dsimp only
        cases hF : F k
        · rw [hF] at w0 e
          rw [bi_f] at w0 ⊢
          rw [if_pos rfl]
          exact w0.trans e
        · rw [hF] at w0 e
          rw [bi_t] at w0 ⊢
          rw [if_neg n10]
          exact w0.trans e
      · have hF := h2 k hk2 hr
        rw [hF] at w0 e ⊢
        rw [bi_f] at w0
        rw [if_neg hr]
        exact w0.trans e
    · rw [h3 p hp]
      by_cases e1 : p = k
      · subst e1
        rw [if_pos (Nat.lt_succ_self p), pk_us, if_neg (Nat.lt_irrefl p)]
      · rw [pk_un e1]
        by_cases e2 : p < k
        · rw [if_pos (by omega), if_pos e2]
        · rw [if_neg (by omega), if_neg e2]
