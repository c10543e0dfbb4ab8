def rl (c : Nat) : Nat := if c = 97 then 0 else if c = 98 then 1 else 2
def cdn (ch : Nat → Nat) (i : Nat) : Nat := 9 * rl (ch (8 + 7 * i)) + 3 * (ch (8 + 7 * i + 2) - 88) + (ch (8 + 7 * i + 4) - 88)
theorem kc_r0 : ∀ i, i < 3 → ∀ c, c < 95 → kB 116 (32 + c) (8 + 7 * i) = true → (decide (32 + c = 97) || decide (32 + c = 98) || decide (32 + c = 116)) = true := by decide +kernel
theorem kc_v0 : ∀ i, i < 3 → ∀ c, c < 95 → (kB 116 (32 + c) (8 + 7 * i + 2) = true ∨ kB 116 (32 + c) (8 + 7 * i + 4) = true) → 88 ≤ 32 + c ∧ 32 + c ≤ 90 := by decide +kernel
theorem kc_r {i c : Nat} (hi : i < 3) (hc : 32 ≤ c ∧ c ≤ 126) (h : kB 116 c (8 + 7 * i) = true) : c = 97 ∨ c = 98 ∨ c = 116 := by
  have := kc_r0 i hi (c - 32) (by omega) (by rw [show 32 + (c - 32) = c by omega]; exact h)
  rw [show 32 + (c - 32) = c by omega] at this
  simp only [Bool.or_eq_true, decide_eq_true_eq] at this
  omega
theorem kc_v {i c : Nat} (hi : i < 3) (hc : 32 ≤ c ∧ c ≤ 126) (h : kB 116 c (8 + 7 * i + 2) = true ∨ kB 116 c (8 + 7 * i + 4) = true) : 88 ≤ c ∧ c ≤ 90 := by
  have := kc_v0 i hi (c - 32) (by omega) (by rw [show 32 + (c - 32) = c by omega]; exact h)
  omega
def tyC (m : Nat) (ch : Nat → Nat) : Prop := ∀ i, i < m → (ch (8 + 7 * i) = 97 ∨ ch (8 + 7 * i) = 98 ∨ ch (8 + 7 * i) = 116) ∧ (88 ≤ ch (8 + 7 * i + 2) ∧ ch (8 + 7 * i + 2) ≤ 90) ∧ (88 ≤ ch (8 + 7 * i + 4) ∧ ch (8 + 7 * i + 4) ≤ 90)
theorem rl_lt (c : Nat) : rl c < 3 := by unfold rl; split <;> (try split) <;> omega
theorem cdn_lt {m : Nat} {ch : Nat → Nat} (h : tyC m ch) {i : Nat} (hi : i < m) : cdn ch i < 27 := by
  obtain ⟨-, h2, h3⟩ := h i hi
  have := rl_lt (ch (8 + 7 * i))
  unfold cdn
  omega
theorem ix_v : ∀ u, u < 3 → m_S_indexOf1 1 (nI (88 + u)) = some (nI u, ()) := by decide +kernel
theorem ix_rl {c : Nat} (h : c = 97 ∨ c = 98 ∨ c = 116) : m_S_indexOf1 0 (nI c) = some (nI (rl c), ()) ∧ m_M_relationOf (nI c) = some (nI (rl c), ()) := by
  rcases h with rfl | rfl | rfl <;> decide +kernel
theorem tb_step {m : Nat} {ty : Nat → Int32} {ch : Nat → Nat} (hm : m ≤ 3) (hty : ∀ j, j < 7 + 7 * m → ty j = nI (ch j) ∧ 32 ≤ ch j ∧ ch j ≤ 126) (h : tyC m ch) {i : Nat} (hi : i < m) (n : Nat) (z : Int32) : m_L_typedBody_5 (nI (7 + 7 * m)) ty (n + 1) z (nI (8 + 7 * i)) = m_L_typedBody_5 (nI (7 + 7 * m)) ty n (z ||| bit (cdn ch i)) (nI (8 + 7 * (i + 1))) := by
  obtain ⟨h1, h2, h3⟩ := h i hi
  obtain ⟨t1, b1⟩ := hty (8 + 7 * i) (by omega)
  obtain ⟨t2, b2⟩ := hty (8 + 7 * i + 2) (by omega)
  obtain ⟨t3, b3⟩ := hty (8 + 7 * i + 4) (by omega)
  have e2 := ix_v (ch (8 + 7 * i + 2) - 88) (by omega)
  have e3 := ix_v (ch (8 + 7 * i + 4) - 88) (by omega)
  rw [show 88 + (ch (8 + 7 * i + 2) - 88) = ch (8 + 7 * i + 2) by omega] at e2
  rw [show 88 + (ch (8 + 7 * i + 4) - 88) = ch (8 + 7 * i + 4) by omega] at e3
  conv => lhs; unfold m_L_typedBody_5
  rw [if_neg (by rw [ni_le (by omega) (by omega)]; omega), nI_add, nI_add, nI_add, at_n (by omega) (by omega) t1 b1, bs, if_pos (by decide), (ix_rl h1).1, bs, at_n (by omega) (by omega) t2 b2, bs, if_pos (by decide), e2, bs, at_n (by omega) (by omega) t3 b3, bs, if_pos (by decide), e3, bs]
  unfold m_H_codeOf
  rw [bs]
  dsimp only
  rw [pk_mul, pk_mul, nI_add, nI_add, show 8 + 7 * i + 7 = 8 + 7 * (i + 1) by omega]
  rfl
theorem tb_end {m : Nat} {ty : Nat → Int32} (hm : m ≤ 3) (n : Nat) (z : Int32) : m_L_typedBody_5 (nI (7 + 7 * m)) ty (n + 1) z (nI (8 + 7 * m)) = some (z, ()) := by
  unfold m_L_typedBody_5
  rw [if_pos (by rw [ni_le (by omega) (by omega)]; omega)]
def orc (ch : Nat → Nat) : Nat → Int32
  | 0 => nI 0
  | i + 1 => orc ch i ||| bit (cdn ch i)
theorem tb_n {m : Nat} {ty : Nat → Int32} {ch : Nat → Nat} (hm : m ≤ 3) (hty : ∀ j, j < 7 + 7 * m → ty j = nI (ch j) ∧ 32 ≤ ch j ∧ ch j ≤ 126) (h : tyC m ch) : m_L_typedBody (nI (7 + 7 * m)) ty = some (orc ch m, ()) := by
  have key : ∀ d i, i + d = m → ∀ n, d < n → m_L_typedBody_5 (nI (7 + 7 * m)) ty n (orc ch i) (nI (8 + 7 * i)) = some (orc ch m, ()) := by
    intro d
    induction d with
    | zero =>
      intro i hi n hn
      obtain ⟨n, rfl⟩ : ∃ n', n = n' + 1 := ⟨n - 1, by omega⟩
      have : i = m := by omega
      subst this
      exact tb_end hm n _
    | succ d ih =>
      intro i hi n hn
      obtain ⟨n, rfl⟩ : ∃ n', n = n' + 1 := ⟨n - 1, by omega⟩
      rw [tb_step hm hty h (by omega)]
      exact ih (i + 1) (by omega) n (by omega)
  unfold m_L_typedBody
  exact key m 0 (by omega) 40 (by omega)
theorem tl_n : ∀ m, m < 4 → m_L_typedLiterals (nI (7 + 7 * m)) = some (nI m, ()) := by decide +kernel
