theorem tb_hi {r i : Nat} (h : r < 65536) (hi : 16 ≤ i) : r.testBit i = false := Nat.testBit_lt_two_pow (Nat.lt_of_lt_of_le (show r < 2 ^ 16 from h) (Nat.pow_le_pow_right (show 2 > 0 by decide) hi))
theorem more_n {r1 r2 g : Nat} (h1 : r1 < 65536) (h2 : r2 < 65536) (hg : g < 65536) : ∃ m : Nat, m < 65536 ∧ (nI r1 ||| nI r2) &&& (nI g ^^^ (-1 : Int32)) = nI m ∧ ∀ p, p < 16 → m.testBit p = ((r1.testBit p || r2.testBit p) && !g.testBit p) := by
  have hb : ∀ i, i < 32 → bt ((nI r1 ||| nI r2) &&& (nI g ^^^ (-1 : Int32))) i = ((r1.testBit i || r2.testBit i) && !g.testBit i) := by
    intro i hi
    rw [b_and, b_or, b_xor, b_m1 i hi, nI_bt i (by omega), nI_bt i (by omega), nI_bt i (by omega), Bool.xor_true]
  obtain ⟨m, hm, e⟩ := set16 (x := (nI r1 ||| nI r2) &&& (nI g ^^^ (-1 : Int32))) (fun i hi => by
    by_cases h : i < 32
    · rw [hb i h, tb_hi h1 hi, tb_hi h2 hi]; rfl
    · exact b_big (by omega))
  refine ⟨m, hm, e, fun p hp => ?_⟩
  rw [← hb p (by omega), e, nI_bt p (by omega)]
theorem or_n {g m : Nat} (hg : g < 65536) (hm : m < 65536) : nI g ||| nI m = nI (g ||| m) ∧ g ||| m < 65536 := by
  have h : g ||| m < 65536 := Nat.or_lt_two_pow (n := 16) hg hm
  refine ⟨b_ext (fun i hi => ?_), h⟩
  rw [b_or, nI_bt i (by omega), nI_bt i (by omega), nI_bt i (by omega), Nat.testBit_or]
theorem z_n {m : Nat} (hm : m < 65536) : (nI m = nI 0) ↔ ∀ p, p < 16 → m.testBit p = false := by
  rw [ni_eq (by omega) (by decide)]
  constructor
  · rintro rfl p hp
    exact Nat.zero_testBit p
  · intro h
    refine Nat.eq_of_testBit_eq (fun i => ?_)
    rw [Nat.zero_testBit]
    by_cases hi : i < 16
    · exact h i hi
    · exact tb_hi hm (by omega)
theorem cn_mono {f g : Nat → Bool} : ∀ {k : Nat}, (∀ i, i < k → f i = true → g i = true) → cn f k ≤ cn g k
  | 0, _ => Nat.le_refl _
  | k + 1, h => by
    have := cn_mono (k := k) (fun i hi => h i (by omega))
    have h2 := h k (by omega)
    show cn f k + (if f k then 1 else 0) ≤ cn g k + (if g k then 1 else 0)
    cases hf : f k
    · simp; omega
    · rw [h2 hf]; simp; omega
theorem cn_lt {f g : Nat → Bool} : ∀ {k : Nat}, (∀ i, i < k → f i = true → g i = true) → (∃ i, i < k ∧ f i = false ∧ g i = true) → cn f k < cn g k
  | 0, _, ⟨i, hi, _⟩ => absurd hi (Nat.not_lt_zero i)
  | k + 1, h, ⟨i, hi, hf, hg⟩ => by
    show cn f k + (if f k then 1 else 0) < cn g k + (if g k then 1 else 0)
    by_cases e : i = k
    · subst e
      have := cn_mono (k := i) (fun j hj => h j (by omega))
      rw [hf, hg]; simp; omega
    · have := cn_lt (k := k) (fun j hj => h j (by omega)) ⟨i, by omega, hf, hg⟩
      have h2 := h k (by omega)
      cases hf2 : f k
      · simp; omega
      · rw [h2 hf2]; simp; omega
theorem cn_full {f : Nat → Bool} : ∀ {k : Nat}, k ≤ cn f k → ∀ i, i < k → f i = true
  | 0, _, i, hi => absurd hi (Nat.not_lt_zero i)
  | k + 1, h, i, hi => by
    have h1 := cn_le f k
    have h3 : k + 1 ≤ cn f k + (if f k then 1 else 0) := h
    cases hf : f k
    · rw [hf] at h3; simp at h3; omega
    · rw [hf] at h3; simp at h3
      by_cases e : i = k
      · subst e; exact hf
      · exact cn_full (k := k) (by omega) i (by omega)
theorem any_r {F : Nat → Bool} : (List.range' 0 16).any F = true ↔ ∃ p, p < 16 ∧ F p = true := by
  rw [List.any_eq_true]
  constructor
  · rintro ⟨p, hp, h⟩
    rw [List.mem_range'_1] at hp
    exact ⟨p, by omega, h⟩
  · rintro ⟨p, hp, h⟩
    exact ⟨p, by rw [List.mem_range'_1]; omega, h⟩
/-- a round of the reference -/
theorem wk_round {fa mn cs ro : Nat → Int32} {ct : Int32} {F : Nat → Bool} (h1 : ∀ p, p < 16 → ro p = nI 0 → m_M_follows ct fa mn cs ro (nI (p / 4)) (nI (p % 4)) = some (bi (F p), ())) (h2 : ∀ p, p < 16 → ¬ ro p = nI 0 → F p = false) (k n : Nat) (fr : Nat → Int32) : ∃ ro' fr' : Nat → Int32, m_M_work_28 ct fa mn cs (n + 1) (nI k) ro fr (nI 1) = (if (List.range' 0 16).any F = true then m_M_work_28 ct fa mn cs n (nI (k + 1)) ro' fr' (nI 1) else m_M_work_28 ct fa mn cs n (nI k) ro' fr' (nI 0)) ∧ ∀ p, p < 16 → ro' p = if F p = true then nI (k + 1) else ro p := by
  obtain ⟨fr', e1, h3⟩ := wk_fresh h1 h2 (m_M_work_28 ct fa mn cs n) (nI k) 16 0 (by omega) 40 (by omega) fr false
  rw [bi_f, Bool.false_or] at e1
  by_cases ha : (List.range' 0 16).any F = true
  · obtain ⟨ro', e2, h4⟩ := wk_set (fa := fa) (mn := mn) (cs := cs) (ct := ct) (m_M_work_28 ct fa mn cs n) (nI (k + 1)) (nI 1) fr' 16 0 (by omega) 40 (by omega) ro
    refine ⟨ro', fr', ?_, fun p hp => ?_⟩
    · conv => lhs; unfold m_M_work_28
      rw [if_neg n10, e1, if_pos ha, if_pos ha, nI_add]
      unfold m_M_work_118
      exact e2
    · rw [h4 p hp, h3 p hp, if_neg (Nat.not_lt_zero p), if_neg (Nat.not_lt_zero p)]
      cases F p
      · rw [bi_f, if_pos rfl, if_neg (by decide)]
      · rw [bi_t, if_neg n10, if_pos rfl]
  · obtain ⟨ro', e2, h4⟩ := wk_set (fa := fa) (mn := mn) (cs := cs) (ct := ct) (m_M_work_28 ct fa mn cs n) (nI k) (nI 0) fr' 16 0 (by omega) 40 (by omega) ro
    refine ⟨ro', fr', ?_, fun p hp => ?_⟩
    · conv => lhs; unfold m_M_work_28
      rw [if_neg n10, e1, if_neg ha, if_neg ha]
      unfold m_M_work_118
      exact e2
    · have hF : F p = false := by
        cases hq : F p
        · rfl
        · exact absurd (any_r.mpr ⟨p, hp, hq⟩) ha
      rw [h4 p hp, h3 p hp, if_neg (Nat.not_lt_zero p), if_neg (Nat.not_lt_zero p), hF, bi_f, if_pos rfl, if_neg (by decide)]
def J (k g : Nat) (gi ro : Nat → Int32) : Prop := g < 65536 ∧ k ≤ cn (fun p => g.testBit p) 16 ∧ ∃ t : Nat → Nat, ∀ p, p < 16 → ro p = nI (t p) ∧ t p ≤ k ∧ g.testBit p = decide (t p ≠ 0) ∧ ∀ r, 1 ≤ r → r ≤ k → bt (gi r) p = decide (t p = r)
