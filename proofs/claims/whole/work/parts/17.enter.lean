theorem at_n {n : Nat} {ty : Nat → Int32} {c j : Nat} (hn : n ≤ 32) (hj : j < n) (h : ty j = nI c) (hc : 32 ≤ c ∧ c ≤ 126) : m_L_at (nI n) ty (nI j) = some (nI c, ()) := by
  unfold m_L_at
  rw [if_neg (by rw [ni_lt (by omega) (by decide)]; omega), if_neg (by rw [ni_le (by omega) (by omega)]; omega), if_pos (by rw [inR_n (by omega)]; exact decide_eq_true (by omega)), nI_clamp (by omega), h, if_pos (isC_n (by omega))]
theorem pair_n {n : Nat} {ty : Nat → Int32} {a b : Nat} (hn : n ≤ 32) (h4 : 4 ≤ n) (ha : a < 4) (hb : b < 4) (e1 : ty (n - 4) = nI (48 + a)) (e2 : ty (n - 2) = nI (48 + b)) : m_L_typedPair (nI n) ty = some (bit (4 * a + b), ()) := by
  unfold m_L_typedPair
  rw [pk_sub h4, pk_sub (show 2 ≤ n by omega), at_n hn (by omega) e1 (by omega), at_n hn (by omega) e2 (by omega), bs, bs]
  dsimp only
  rw [pk_sub (by omega), pk_sub (by omega), show 48 + a - 48 = a by omega, show 48 + b - 48 = b by omega, s_pairBit ha hb, bs]
theorem ix_r : m_S_indexOf1 0 (nI 97) = some (nI 0, ()) ∧ m_S_indexOf1 0 (nI 98) = some (nI 1, ()) ∧ m_S_indexOf1 0 (nI 116) = some (nI 2, ()) := by decide +kernel
/-- a statement: begun to its end, and whole -/
theorem enter_yes {n : Nat} {ty ln : Nat → Int32} {ch : Nat → Nat} (hn : n ≤ 32) (hty : ∀ j, j < n → ty j = nI (ch j) ∧ 32 ≤ ch j ∧ ch j ≤ 126) (hln : ∀ j, j < n → ln j = nI (ch j) ∧ 32 ≤ ch j ∧ ch j ≤ 126) (hq : fpos (fun p => kB (ch 0) (ch p) p) n 0 = n) (h0 : 0 < n) (hw : wB (ch 0) n = true) :
    (∀ (pl mi ct : Int32) (fs bd : Nat → Int32), m_H_enter pl mi (nI n) ty fs ct bd = Option.bind (m_H_carryOutLine pl mi (nI n) ty fs ct bd) (fun v => some (v.1, v.2.1, v.2.2.1, nI 0, v.2.2.2.1, v.2.2.2.2.1, v.2.2.2.2.2))) ∧ m_M_fault (nI n) ln = some (-1, ()) ∧ (∃ i, i < 6 ∧ ch 0 = fl i) ∧ ∀ p, p < n → kB (ch 0) (ch p) p = true := by
  have hall := @fpos_all (fun p => kB (ch 0) (ch p) p) n 0 (by omega)
  have hB : ∀ p, p < n → kB (ch 0) (ch p) p = true := fun p hp => hall p (by omega) (by omega)
  obtain ⟨e1, c1, c2⟩ := hty 0 h0
  obtain ⟨e2, -, -⟩ := hln 0 h0
  have h3 := kf_0 (ch 0 - 32) (by omega)
  rw [show 32 + (ch 0 - 32) = ch 0 by omega] at h3
  obtain ⟨i, hi, ei⟩ := fl_of (h3 (hB 0 h0))
  have a1 := ew_all i hi (n - 1) (by omega)
  have a2 := wv_all i hi (n - 1) (by omega)
  rw [show 1 + (n - 1) = n by omega, ← ei] at a1 a2
  rw [hw] at a2
  refine ⟨?_, ?_, ⟨i, hi, ei⟩, hB⟩
  · intro pl mi ct fs bd
    unfold m_H_enter m_H_enter_29 m_L_clear
    rw [begun_n hn hty, hq, bs]
    dsimp only
    rw [ends_ty e1, a1, a2, bs, if_neg (by decide)]
    rfl
  · unfold m_M_fault
    rw [fault_loop hn hln n 0 (by omega) (fun h => absurd h (Nat.lt_irrefl 0)) 40 (by omega), hq, if_neg (Nat.lt_irrefl n), whole_ln e2, a2, bs, if_neg (by decide)]
-- what the forms say of the characters
theorem wn_all0 : ∀ i, i < 6 → ∀ n, n < 32 → wB (fl i) (1 + n) = true → ((decide (i < 2) && decide (n = 5)) || (decide (2 < i) && decide (n = 6)) || (decide (i = 2) && (decide (n = 13) || decide (n = 20) || decide (n = 27)))) = true := by decide +kernel
theorem wn_all {i n : Nat} (hi : i < 6) (hn : n < 32) (h : wB (fl i) (1 + n) = true) : (i < 2 ∧ n = 5) ∨ (2 < i ∧ n = 6) ∨ (i = 2 ∧ (n = 13 ∨ n = 20 ∨ n = 27)) := by
  have := wn_all0 i hi n hn h
  simp only [Bool.or_eq_true, Bool.and_eq_true, decide_eq_true_eq] at this
  omega
theorem cf_d : ∀ i, i < 6 → i < 2 → ∀ c, c < 95 → (kB (fl i) (32 + c) 2 = true ∨ kB (fl i) (32 + c) 4 = true) → 48 ≤ 32 + c ∧ 32 + c < 52 := by decide +kernel
theorem cm_d : ∀ i, i < 6 → 2 < i → ∀ c, c < 95 → (kB (fl i) (32 + c) 3 = true ∨ kB (fl i) (32 + c) 5 = true) → 48 ≤ 32 + c ∧ 32 + c < 52 := by decide +kernel
theorem cm_r0 : ∀ i, i < 6 → 2 < i → ∀ c, c < 95 → kB (fl i) (32 + c) 1 = true → (decide (32 + c = 116) || (decide (i = 5) && (decide (32 + c = 97) || decide (32 + c = 98)))) = true := by decide +kernel
theorem cm_r {i c : Nat} (hi : i < 6) (h2 : 2 < i) (hc : 32 ≤ c ∧ c ≤ 126) (h : kB (fl i) c 1 = true) : c = 116 ∨ (i = 5 ∧ (c = 97 ∨ c = 98)) := by
  have := cm_r0 i hi h2 (c - 32) (by omega) (by rw [show 32 + (c - 32) = c by omega]; exact h)
  rw [show 32 + (c - 32) = c by omega] at this
  simp only [Bool.or_eq_true, Bool.and_eq_true, decide_eq_true_eq] at this
  omega
/-- enter on a statement for a fact -/
theorem enter_fact {n : Nat} {ty ln : Nat → Int32} {ch : Nat → Nat} (hty : ∀ j, j < n → ty j = nI (ch j) ∧ 32 ≤ ch j ∧ ch j ≤ 126) (hln : ∀ j, j < n → ln j = nI (ch j) ∧ 32 ≤ ch j ∧ ch j ≤ 126) (hq : fpos (fun p => kB (ch 0) (ch p) p) n 0 = n) (hn : n = 6) (hw : wB (ch 0) n = true) {i : Nat} (hi : i < 2) (hf : ch 0 = fl i) {fs fa : Nat → Int32} (hR : RF fs fa) (pl mi ct ct2 rd : Int32) (bd mk mn cs bo : Nat → Int32) :
    ∃ (r : Int32) (fs' fa' : Nat → Int32), m_H_enter pl mi (nI n) ty fs ct bd = some (r, pl, mi, nI 0, fs', ct, bd) ∧ m_M_enter (nI n) ct2 rd ln fa mk mn cs bo = some (r, nI 0, ct2, rd, fa', mk, mn, cs, bo) ∧ RF fs' fa' := by
  subst hn
  obtain ⟨hE, hF, -, hB⟩ := enter_yes (by decide) hty hln hq (by decide) hw
  obtain ⟨t0, b0, b0'⟩ := hty 0 (by decide)
  obtain ⟨t2, b2, b2'⟩ := hty 2 (by decide)
  obtain ⟨t4, b4, b4'⟩ := hty 4 (by decide)
  obtain ⟨l0, -, -⟩ := hln 0 (by decide)
  obtain ⟨l2, -, -⟩ := hln 2 (by decide)
  obtain ⟨l4, -, -⟩ := hln 4 (by decide)
  have d2 := cf_d i (by omega) hi (ch 2 - 32) (by omega) (Or.inl (by rw [show 32 + (ch 2 - 32) = ch 2 by omega, ← hf]; exact hB 2 (by decide)))
  have d4 := cf_d i (by omega) hi (ch 4 - 32) (by omega) (Or.inr (by rw [show 32 + (ch 4 - 32) = ch 4 by omega, ← hf]; exact hB 4 (by decide)))
  obtain ⟨a, ha, ea⟩ : ∃ a, a < 4 ∧ ch 2 = 48 + a := ⟨ch 2 - 48, by omega, by omega⟩
  obtain ⟨b, hb, eb⟩ : ∃ b, b < 4 ∧ ch 4 = 48 + b := ⟨ch 4 - 48, by omega, by omega⟩
  rw [ea] at t2 l2
  rw [eb] at t4 l4
  obtain ⟨r, fs', fa', k1, k2, k3⟩ := s_setFact hR (r := i) (p := 4 * a + b) (v := 1) hi (by omega) (by decide)
  have hix : m_S_indexOf1 0 (nI (ch 0)) = some (nI i, ()) := by
    rw [hf]
    rcases (show i = 0 ∨ i = 1 by omega) with rfl | rfl
    · exact ix_r.1
    · exact ix_r.2.1
  have hne : ¬ nI (ch 0) = nI 116 ∧ ¬ nI (ch 0) = nI 43 ∧ ¬ nI (ch 0) = nI 45 ∧ ¬ nI (ch 0) = nI 126 := by
    rw [hf]
    rcases (show i = 0 ∨ i = 1 by omega) with rfl | rfl <;> decide
  have hrel : m_M_relationOf (nI (ch 0)) = some (nI i, ()) := by
    rw [hf]
    rcases (show i = 0 ∨ i = 1 by omega) with rfl | rfl <;> decide
  refine ⟨r, fs', fa', ?_, ?_, k3⟩
  · rw [hE]
    unfold m_H_carryOutLine
    rw [at_n (by decide) (by decide) t0 ⟨b0, b0'⟩, bs]
    dsimp only
    rw [if_neg hne.1, pair_n (by decide) (by decide) ha hb t2 t4, bs]
    dsimp only
    rw [if_neg hne.2.1, if_neg hne.2.2.1, if_neg hne.2.2.2, if_pos (by decide), hix, bs]
    dsimp only
    rw [k1]
    rfl
  · unfold m_M_enter m_M_enter_154
    rw [hF, bs, if_pos (by decide), if_pos (by decide), show (nI 0).toNatClampNeg = 0 from rfl, l0, if_neg hne.1]
    rw [show (nI 6 - nI 4 : Int32) = nI 2 from rfl, show (nI 6 - nI 2 : Int32) = nI 4 from rfl, show (nI 6 - nI 6 : Int32) = nI 0 from rfl, if_pos (by decide), if_pos (by decide), show (nI 2).toNatClampNeg = 2 from rfl, show (nI 4).toNatClampNeg = 4 from rfl, l2, l4]
    unfold letN
    dsimp only
    rw [if_pos (by decide), show (nI 0).toNatClampNeg = 0 from rfl, l0, if_neg hne.1, hrel, bs, if_pos rfl]
    dsimp only
    rw [pk_sub (show 48 ≤ 48 + a by omega), show 48 + a - 48 = a by omega, pk_mul 4 a, nI_add, pk_sub (show 48 ≤ 4 * a + (48 + b) by omega), show 4 * a + (48 + b) - 48 = 4 * a + b by omega, pk_mul 16 i, nI_add, k2, bs]
