theorem bs {α β : Type} (v : α) (f : α → Option β) : Option.bind (some v) f = f v := rfl
-- marks
def RM (pl mi : Int32) (mk : Nat → Int32) : Prop := (∀ p, p < 16 → mk p = if bt pl p then nI 1 else if bt mi p then (-1 : Int32) else nI 0) ∧ (∀ p, bt pl p = true → bt mi p = false) ∧ ∀ i, 16 ≤ i → bt pl i = false ∧ bt mi i = false
theorem s_mark {pl mi : Int32} {mk : Nat → Int32} (h : RM pl mi mk) (x1 x2 : Int32) : ∃ r : Int32, m_H_mark pl mi x1 x2 = some (r, ()) ∧ m_M_mark mk x1 x2 = some (r, ()) := by
  unfold m_H_mark m_M_mark m_M_constant
  have z0 : ((some (nI 0, ()) : Option (Int32 × Unit)).bind fun v_2 => if pl &&& v_2.1 = nI 0 then (if mi &&& v_2.1 = nI 0 then some (nI 0, ()) else some ((-1 : Int32), ())) else some (nI 1, ())) = some (nI 0, ()) := by
    show (if pl &&& nI 0 = nI 0 then (if mi &&& nI 0 = nI 0 then some (nI 0, ()) else some ((-1 : Int32), ())) else some (nI 1, ())) = some (nI 0, ())
    rw [if_pos (and_z _), if_pos (and_z _)]
  rcases ix x1 (n := 4) (by decide) with h2 | h2 | ⟨a, ha, rfl⟩
  · exact ⟨nI 0, by rw [s_pairBit_0 (Or.inl h2)]; exact z0, by rw [if_pos h2]; rfl⟩
  · exact ⟨nI 0, by rw [s_pairBit_0 (Or.inr (Or.inl h2))]; exact z0, by rw [if_neg (ix_nn h2 (by decide)), if_pos h2]; rfl⟩
  rcases ix x2 (n := 4) (by decide) with h3 | h3 | ⟨b, hb, rfl⟩
  · refine ⟨nI 0, by rw [s_pairBit_0 (Or.inr (Or.inr (Or.inl h3)))]; exact z0, ?_⟩
    simp (disch := omega) only [ni_lt, ni_le, ni_eq, Nat.not_lt_zero, Nat.not_le.mpr ha, if_false, Option.bind_some, Nat.one_ne_zero, if_pos h3, if_true]
  · refine ⟨nI 0, by rw [s_pairBit_0 (Or.inr (Or.inr (Or.inr h3)))]; exact z0, ?_⟩
    simp (disch := omega) only [ni_lt, ni_le, ni_eq, Nat.not_lt_zero, Nat.not_le.mpr ha, if_false, Option.bind_some, Nat.one_ne_zero, if_neg (ix_nn h3 (by decide)), if_pos h3, if_true]
  · rw [s_pairBit ha hb]
    have e1 := h.1 (4 * a + b) (by omega)
    have hk : 4 * a + b < 32 := by omega
    refine ⟨mk (4 * a + b), ?_, ?_⟩
    · rw [e1]
      show (if pl &&& (nI 1 <<< (nI (4 * a + b) &&& 31)) = nI 0 then (if mi &&& (nI 1 <<< (nI (4 * a + b) &&& 31)) = nI 0 then some (nI 0, ()) else some ((-1 : Int32), ())) else some (nI 1, ())) = _
      by_cases hp : bt pl (4 * a + b) = true
      · rw [if_neg (by rw [and_bit hk, hp]; decide), if_pos hp]
      · have hp : bt pl (4 * a + b) = false := by simpa using hp
        rw [if_pos ((and_bit hk).mpr hp), hp]
        by_cases hm : bt mi (4 * a + b) = true
        · rw [if_neg (by rw [and_bit hk, hm]; decide), if_pos hm]; rfl
        · have hm : bt mi (4 * a + b) = false := by simpa using hm
          rw [if_pos ((and_bit hk).mpr hm), hm]; rfl
    · simp (disch := omega) only [ni_lt, ni_le, ni_eq, Nat.not_lt_zero, Nat.not_le.mpr ha, Nat.not_le.mpr hb, if_false, Option.bind_some, Nat.one_ne_zero, pk_mul, nI_add, inR_n, nI_clamp]
      simp only [show decide (4 * a + b < 16) = true from decide_eq_true (by omega), if_true]
-- the program
def RP (ct : Int32) (bd : Nat → Int32) (ct2 : Int32) (mn cs : Nat → Int32) : Prop := ∃ P : List (List Nat), P.length ≤ 2 ∧ ct = nI P.length ∧ ct2 = nI P.length ∧ ∀ j, j < P.length → okB (P.getD j []) = true ∧ (hasX (P.getD j []) && hasY (P.getD j [])) = true ∧ bd j = mk (P.getD j []) ∧ mn j = nI (P.getD j []).length ∧ ∀ k, k < (P.getD j []).length → cs (3 * j + k) = nI ((P.getD j []).getD k 0)
theorem s_clauses {ct ct2 : Int32} {bd mn cs : Nat → Int32} (h : RP ct bd ct2 mn cs) : ∃ r : Int32, m_H_clauses ct = some (r, ()) ∧ m_M_clauses ct2 = some (r, ()) := by
  obtain ⟨P, hP, rfl, rfl, -⟩ := h
  exact ⟨nI P.length, rfl, rfl⟩
/-- bodyOf: 0 where there is no clause -/
theorem s_bodyOf_out {n : Nat} {bd : Nat → Int32} {x : Int32} (h : x < nI 0 ∨ nI n ≤ x) : m_P_bodyOf (nI n) bd x = some (nI 0, ()) := by
  unfold m_P_bodyOf
  by_cases h1 : x < nI 0
  · rw [if_pos h1]
  · rw [if_neg h1, if_pos (h.resolve_left h1)]
theorem s_bodyOf_in {n : Nat} {bd : Nat → Int32} {j : Nat} (hn : n ≤ 2) (h : j < n) : m_P_bodyOf (nI n) bd (nI j) = some (bd j, ()) := by
  unfold m_P_bodyOf
  simp (disch := omega) only [ni_lt, ni_le, Nat.not_lt_zero, Nat.not_le.mpr h, if_false, inR_n, nI_clamp]
  simp only [show decide (j < 2) = true from decide_eq_true (by omega), if_true]
theorem s_clause_out {n : Nat} {x : Int32} (h : x < nI 0 ∨ nI n ≤ x) : m_M_clause (nI n) x = some (nI 0, ()) := by
  unfold m_M_clause
  by_cases h1 : x < nI 0
  · rw [if_pos h1]
  · rw [if_neg h1, if_pos (h.resolve_left h1)]
theorem s_clause_in {n j : Nat} (hn : n ≤ 2) (h : j < n) : m_M_clause (nI n) (nI j) = some (nI 1, ()) := by
  unfold m_M_clause
  simp (disch := omega) only [ni_lt, ni_le, Nat.not_lt_zero, Nat.not_le.mpr h, if_false]
theorem s_literals {ct ct2 : Int32} {bd mn cs : Nat → Int32} (h : RP ct bd ct2 mn cs) (x : Int32) : ∃ r : Int32, m_H_literals ct bd x = some (r, ()) ∧ m_M_literals ct2 mn x = some (r, ()) := by
  obtain ⟨P, hP, rfl, rfl, hc⟩ := h
  unfold m_H_literals m_M_literals
  rcases ix x (n := P.length) (by omega) with h1 | h1 | ⟨j, hj, rfl⟩
  · exact ⟨-1, by rw [s_bodyOf_out (Or.inl h1)]; rfl, by rw [s_clause_out (Or.inl h1)]; rfl⟩
  · exact ⟨-1, by rw [s_bodyOf_out (Or.inr h1)]; rfl, by rw [s_clause_out (Or.inr h1)]; rfl⟩
  · obtain ⟨hk, -, hb, hm, -⟩ := hc j hj
    refine ⟨nI (P.getD j []).length, ?_, ?_⟩
    · rw [s_bodyOf_in hP hj]
      show (if bd j = nI 0 then _ else _) = _
      rw [hb, if_neg (cl_ne _ hk), cl_bc _ hk]
      rfl
    · rw [s_clause_in hP hj, bs, if_neg (by decide)]
      simp (disch := omega) only [inR_n, nI_clamp, hm]
      simp only [show decide (j < 2) = true from decide_eq_true (by omega), if_true]
theorem s_codeAt_out {l : List Nat} (h : okB l = true) {x : Int32} (hx : x < nI 0 ∨ nI l.length ≤ x) : m_H_codeAt (mk l) x = some (-1, ()) := by
  unfold m_H_codeAt
  by_cases h1 : x < nI 0
  · rw [if_pos h1]
  · rw [if_neg h1, cl_bc _ h]
    have h2 := hx.resolve_left h1
    have h3 : ¬ x < nI l.length := by
      rw [Int32.lt_iff_toInt_lt]
      have := Int32.le_iff_toInt_le.mp h2
      omega
    show (if x < nI l.length then _ else _) = _
    rw [if_neg h3]
theorem s_literal {ct ct2 : Int32} {bd mn cs : Nat → Int32} (h : RP ct bd ct2 mn cs) (x y : Int32) : ∃ r : Int32, m_H_literal ct bd x y = some (r, ()) ∧ m_M_literal ct2 mn cs x y = some (r, ()) := by
  obtain ⟨P, hP, rfl, rfl, hc⟩ := h
  unfold m_H_literal m_M_literal
  have z0 : m_H_codeAt (nI 0) y = some (-1, ()) := by
    unfold m_H_codeAt
    by_cases h1 : y < nI 0
    · rw [if_pos h1]
    · rw [if_neg h1, show m_I_bitCount (nI 0) = some (nI 0, ()) by decide +kernel]
      show (if y < nI 0 then _ else _) = _
      rw [if_neg h1]
  rcases ix x (n := P.length) (by omega) with h1 | h1 | ⟨j, hj, rfl⟩
  · refine ⟨-1, ?_, by rw [s_clause_out (Or.inl h1)]; rfl⟩
    rw [s_bodyOf_out (Or.inl h1)]
    show Option.bind (m_H_codeAt (nI 0) y) _ = _
    rw [z0]; rfl
  · refine ⟨-1, ?_, by rw [s_clause_out (Or.inr h1)]; rfl⟩
    rw [s_bodyOf_out (Or.inr h1)]
    show Option.bind (m_H_codeAt (nI 0) y) _ = _
    rw [z0]; rfl
  · obtain ⟨hk, -, hb, hm, hcs⟩ := hc j hj
    have hlen := cl_len _ hk
    rw [s_bodyOf_in hP hj, s_clause_in hP hj, bs, bs, if_neg (by decide)]
    dsimp only
    rw [hb]
    rcases ix y (n := (P.getD j []).length) (by omega) with h2 | h2 | ⟨k, hk2, rfl⟩
    · refine ⟨-1, ?_, by rw [if_pos h2]⟩
      rw [s_codeAt_out hk (Or.inl h2)]; rfl
    · refine ⟨-1, ?_, ?_⟩
      · rw [s_codeAt_out hk (Or.inr h2)]; rfl
      · rw [if_neg (ix_nn h2 (by omega))]
        simp (disch := omega) only [inR_n, nI_clamp, hm]
        simp only [show decide (j < 2) = true from decide_eq_true (by omega), if_true, if_pos h2]
    · refine ⟨nI ((P.getD j []).getD k 0), ?_, ?_⟩
      · rw [cl_codeAt _ hk k hk2]; rfl
      · simp (disch := omega) only [ni_lt, Nat.not_lt_zero, if_false, inR_n, nI_clamp, hm, ni_le, Nat.not_le.mpr hk2, pk_mul, nI_add]
        simp only [show decide (j < 2) = true from decide_eq_true (by omega), show decide (3 * j + k < 6) = true from decide_eq_true (by omega), if_true, hcs k hk2]
