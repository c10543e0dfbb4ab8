theorem drop_loop (ct : Int32) (mn cs : Nat → Int32) : ∃ cs' : Nat → Int32, m_M_drop_28 40 ct mn cs (nI 0) = some (nI 1, (ct - nI 1, mn, cs')) ∧ ∀ k, k < 3 → cs' k = cs (3 + k) := by
  refine ⟨_, rfl, ?_⟩
  intro k hk
  rcases (show k = 0 ∨ k = 1 ∨ k = 2 by omega) with rfl | rfl | rfl <;> rfl
theorem s_drop {ct ct2 : Int32} {bd mn cs : Nat → Int32} (h : RP ct bd ct2 mn cs) (x : Int32) : ∃ (r a c : Int32) (b d e : Nat → Int32), m_H_drop ct bd x = some (r, a, b) ∧ m_M_drop ct2 mn cs x = some (r, c, d, e) ∧ RP a b c d e := by
  obtain ⟨P, hP, rfl, rfl, hc⟩ := h
  unfold m_H_drop m_P_remove m_M_drop
  rcases ix x (n := P.length) (by omega) with h1 | h1 | ⟨j, hj, rfl⟩
  · exact ⟨nI 0, nI P.length, nI P.length, bd, mn, cs, by rw [s_bodyOf_out (Or.inl h1)]; rfl, by rw [s_clause_out (Or.inl h1)]; rfl, P, hP, rfl, rfl, hc⟩
  · exact ⟨nI 0, nI P.length, nI P.length, bd, mn, cs, by rw [s_bodyOf_out (Or.inr h1)]; rfl, by rw [s_clause_out (Or.inr h1)]; rfl, P, hP, rfl, rfl, hc⟩
  · obtain ⟨hk, -, hb, -, -⟩ := hc j hj
    have hne : ¬ bd j = nI 0 := by rw [hb]; exact cl_ne _ hk
    rw [s_bodyOf_in hP hj, s_clause_in hP hj, bs, bs, if_neg (show ¬ (nI 1, ()).1 = nI 0 by decide)]
    dsimp only
    rw [if_neg hne]
    rcases Nat.eq_zero_or_pos j with rfl | hj1
    · obtain ⟨cs', e1, e2⟩ := drop_loop (nI P.length) (upd mn 0 (mn 1)) cs
      refine ⟨nI 1, nI (P.length - 1), nI (P.length - 1), upd (upd bd 0 (bd 1)) 1 (nI 0), upd mn 0 (mn 1), cs', ?_, ?_, P.drop 1, by simp; omega, by simp, by simp, ?_⟩
      · rw [← pk_sub (show 1 ≤ P.length by omega)]; rfl
      · rw [← pk_sub (show 1 ≤ P.length by omega)]; exact e1
      · intro i hi
        have hi2 : i = 0 ∧ 1 < P.length := by simp at hi; omega
        obtain ⟨rfl, hl⟩ := hi2
        obtain ⟨a1, a2, a3, a4, a5⟩ := hc 1 hl
        have e3 : (P.drop 1).getD 0 [] = P.getD 1 [] := by simp [List.getD]
        rw [e3]
        refine ⟨a1, a2, ?_, ?_, ?_⟩
        · rw [pk_un (by decide), pk_us]; exact a3
        · rw [pk_us]; exact a4
        · intro k hk3
          have := (cl_len _ a1).2
          rw [show 3 * 0 + k = k by omega, e2 k (by omega)]
          exact a5 k hk3
    · have hj2 : j = 1 := by omega
      subst hj2
      refine ⟨nI 1, nI (P.length - 1), nI (P.length - 1), upd bd 1 (nI 0), mn, cs, ?_, ?_, P.take 1, by simp; omega, by rw [List.length_take]; congr 1; omega, by rw [List.length_take]; congr 1; omega, ?_⟩
      · rw [← pk_sub (show 1 ≤ P.length by omega)]; rfl
      · rw [← pk_sub (show 1 ≤ P.length by omega)]; rfl
      · intro i hi
        have hi2 : i = 0 := by simp at hi; omega
        subst hi2
        obtain ⟨a1, a2, a3, a4, a5⟩ := hc 0 (by omega)
        have e3 : (P.take 1).getD 0 [] = P.getD 0 [] := by simp [List.getD]
        rw [e3]
        exact ⟨a1, a2, by rw [pk_un (by decide)]; exact a3, a4, a5⟩
-- how many bits
def cn (g : Nat → Bool) : Nat → Nat
  | 0 => 0
  | k + 1 => cn g k + (if g k then 1 else 0)
theorem cn_le (g : Nat → Bool) : ∀ k, cn g k ≤ k
  | 0 => Nat.le_refl 0
  | k + 1 => by
    have := cn_le g k
    show cn g k + (if g k then 1 else 0) ≤ k + 1
    split <;> omega
theorem cn_eq {g g' : Nat → Bool} : ∀ {k : Nat}, (∀ i, i < k → g i = g' i) → cn g k = cn g' k
  | 0, _ => rfl
  | k + 1, h => by
    show cn g k + (if g k then 1 else 0) = cn g' k + (if g' k then 1 else 0)
    rw [cn_eq (fun i hi => h i (by omega)), h k (by omega)]
