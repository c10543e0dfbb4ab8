theorem fv_n {c : Nat} (hc : c < 27) : m_H_firstVariableOf (nI c) = some (nI (c / 3 % 3), ()) ∧ m_H_secondVariableOf (nI c) = some (nI (c % 3), ()) ∧ m_H_relationOf (nI c) = some (nI (c / 9), ()) := by
  unfold m_H_firstVariableOf m_H_secondVariableOf m_H_relationOf
  rw [pk_div (show c < 2 ^ 31 by omega) (by decide) (by decide), pk_div (show c < 2 ^ 31 by omega) (by decide) (by decide), irm_n (by omega) (by decide) (by decide), irm_n (by omega) (by decide) (by decide)]
  exact ⟨rfl, rfl, rfl⟩
/-- what a literal of a fact's relation says of the choice t -/
def fLit (a b c t : Nat) : Bool := (if c < 9 then a else b).testBit (4 * va3 (c / 3 % 3) t + va3 (c % 3) t)
theorem take_loop {a b : Nat} (ha : a < 65536) (hb : b < 65536) : ∀ d k, k + d = 18 → ∀ (n : Nat) (fc : Nat → Int64), d < n → (∀ c, c < k → ∀ t, t < 64 → bl (fc c) t = fLit a b c t) → ∃ fc' : Nat → Int64, m_D_takeFacts_2 n fc (nI a) (nI b) (nI k) = some fc' ∧ ∀ c, c < 18 → ∀ t, t < 64 → bl (fc' c) t = fLit a b c t := by
  intro d
  induction d with
  | zero =>
    intro k hk n fc hn h
    obtain ⟨n, rfl⟩ : ∃ n', n = n' + 1 := ⟨n - 1, by omega⟩
    refine ⟨fc, ?_, fun c hc => h c (by omega)⟩
    unfold m_D_takeFacts_2
    rw [if_pos (by rw [ni_le (by decide) (by omega)]; omega)]
  | succ d ih =>
    intro k hk n fc hn h
    obtain ⟨n, rfl⟩ : ∃ n', n = n' + 1 := ⟨n - 1, by omega⟩
    obtain ⟨e1, e2, e3⟩ := fv_n (show k < 27 by omega)
    obtain ⟨r, hr, hbit⟩ := cw_n (m := if k < 9 then a else b) (by split <;> assumption) (show k / 3 % 3 < 3 by omega) (show k % 3 < 3 by omega)
    obtain ⟨fc', g1, g2⟩ := ih (k + 1) (by omega) n (vp_updL fc k r) (by omega) (fun c hc t ht => by
      by_cases e : c = k
      · subst e
        rw [pk_uLs]
        exact hbit t ht
      · rw [pk_uLn e]
        exact h c (by omega) t ht)
    refine ⟨fc', ?_, g2⟩
    unfold m_D_takeFacts_2 m_D_takeFacts_20
    rw [if_neg (by rw [ni_le (by decide) (by omega)]; omega), e3, bs, e1, bs, e2, bs]
    dsimp only
    rw [bs, bs, inR_n (by omega), decide_eq_true (show k < 18 by omega), nI_clamp (by omega), nI_add]
    simp only [if_true]
    by_cases h9 : k < 9
    · rw [if_pos h9] at hr
      rw [if_pos (by rw [show k / 9 = 0 by omega]), hr, bs]
      exact g1
    · rw [if_neg h9] at hr
      rw [if_neg (by rw [ni_eq (by omega) (by decide)]; omega), hr, bs]
      exact g1
theorem take_n {a b : Nat} (ha : a < 65536) (hb : b < 65536) (fc : Nat → Int64) : ∃ fc' : Nat → Int64, m_D_takeFacts fc (nI a) (nI b) = some fc' ∧ ∀ c, c < 18 → ∀ t, t < 64 → bl (fc' c) t = fLit a b c t := by
  unfold m_D_takeFacts
  exact take_loop ha hb 18 0 (by omega) 40 fc (by omega) (fun c hc => absurd hc (Nat.not_lt_zero c))
