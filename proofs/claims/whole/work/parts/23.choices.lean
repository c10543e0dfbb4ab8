-- sets of choices: Int64 by its bits
def bl (x : Int64) (i : Nat) : Bool := x.toBitVec.getLsbD i
theorem l_and (x y : Int64) (i : Nat) : bl (x &&& y) i = (bl x i && bl y i) := by unfold bl; rw [Int64.toBitVec_and, BitVec.getLsbD_and]
theorem l_or (x y : Int64) (i : Nat) : bl (x ||| y) i = (bl x i || bl y i) := by unfold bl; rw [Int64.toBitVec_or, BitVec.getLsbD_or]
theorem l_0 (i : Nat) : bl 0 i = false := BitVec.getLsbD_zero
def va3 (w t : Nat) : Nat := if w = 0 then t / 4 % 4 else if w = 1 then t % 4 else t / 16
theorem va3_lt {w t : Nat} (ht : t < 64) : va3 w t < 4 := by unfold va3; split <;> (try split) <;> omega
theorem tab_bit : ∀ w, w < 3 → ∀ c, c < 4 → ∀ t, t < 64 → bl (tabL (4 * w + c)) t = decide (va3 w t = c) := by decide +kernel
theorem shr_n {m p : Nat} (hm : m < 65536) (hp : p < 32) : nI m >>> (nI p &&& 31) = nI (m / 2 ^ p) := pk_shrN (by omega) _ p (s_l p hp)
theorem a1_n (k : Nat) : nI k &&& nI 1 = nI (k % 2) := by
  rw [nx_and]
  congr 1
  exact Nat.and_two_pow_sub_one_eq_mod k 1
theorem cw_loop {m u v : Nat} (hm : m < 65536) (hu : u < 3) (hv : v < 3) : ∀ d p, p + d = 16 → ∀ (n : Nat) (z : Int64), d < n → (∀ t, t < 64 → bl z t = (decide (4 * va3 u t + va3 v t < p) && m.testBit (4 * va3 u t + va3 v t))) → ∃ r : Int64, m_D_choicesWhere_5 n (nI m) (nI u) (nI v) z (nI p) = some (r, ()) ∧ ∀ t, t < 64 → bl r t = m.testBit (4 * va3 u t + va3 v t) := by
  intro d
  induction d with
  | zero =>
    intro p hp n z hn hz
    obtain ⟨n, rfl⟩ : ∃ n', n = n' + 1 := ⟨n - 1, by omega⟩
    refine ⟨z, ?_, fun t ht => ?_⟩
    · unfold m_D_choicesWhere_5
      rw [if_pos (by rw [ni_le (by decide) (by omega)]; omega)]
    · have h1 := va3_lt (w := u) ht
      have h2 := va3_lt (w := v) ht
      rw [hz t ht, decide_eq_true (by omega), Bool.true_and]
  | succ d ih =>
    intro p hp n z hn hz
    obtain ⟨n, rfl⟩ : ∃ n', n = n' + 1 := ⟨n - 1, by omega⟩
    have hq : m / 2 ^ p ≤ m := Nat.div_le_self _ _
    have htb : m.testBit p = decide (m / 2 ^ p % 2 = 1) := by rw [Nat.testBit_eq_decide_div_mod_eq]
    conv => rhs; ext r; lhs; lhs; unfold m_D_choicesWhere_5
    rw [if_neg (by rw [ni_le (by decide) (by omega)]; omega), shr_n hm (by omega)]
    by_cases h0 : m / 2 ^ p = 0
    · refine ⟨z, by rw [if_pos (by rw [h0])], fun t ht => ?_⟩
      rw [hz t ht]
      by_cases h9 : 4 * va3 u t + va3 v t < p
      · rw [decide_eq_true h9, Bool.true_and]
      · rw [decide_eq_false h9, Bool.false_and]
        have hlt : m < 2 ^ p := by
          rcases Nat.lt_or_ge m (2 ^ p) with h | h
          · exact h
          · exact absurd h0 (Nat.ne_of_gt (Nat.div_pos h (Nat.two_pow_pos p)))
        exact (Nat.testBit_lt_two_pow (Nat.lt_of_lt_of_le hlt (Nat.pow_le_pow_right (by decide) (by omega)))).symm
    · rw [if_neg (by rw [ni_eq (by omega) (by decide)]; exact h0), a1_n]
      unfold m_D_choicesWhere_56
      rw [nI_add]
      by_cases hb : m / 2 ^ p % 2 = 0
      · rw [if_pos (by rw [hb])]
        refine ih (p + 1) (by omega) n z (by omega) (fun t ht => ?_)
        rw [hz t ht]
        by_cases h9 : 4 * va3 u t + va3 v t = p
        · rw [h9, htb, decide_eq_false (show ¬ m / 2 ^ p % 2 = 1 by omega), Bool.and_false, Bool.and_false]
        · congr 1
          exact decide_eq_decide.mpr (by omega)
      · rw [if_neg (by rw [ni_eq (by omega) (by decide)]; exact hb)]
        rw [pk_div (show p < 2 ^ 31 by omega) (by decide) (by decide), irm_n (by omega) (by decide) (by decide), pk_mul 4 u, pk_mul 4 v, nI_add, nI_add, inR_n (by omega), inR_n (by omega), decide_eq_true (show 4 * u + p / 4 < 12 by omega), decide_eq_true (show 4 * v + p % 4 < 12 by omega), nI_clamp (by omega), nI_clamp (by omega), if_pos rfl, if_pos rfl]
        unfold letN
        dsimp only
        refine ih (p + 1) (by omega) n _ (by omega) (fun t ht => ?_)
        rw [l_or, l_and, hz t ht, tab_bit u hu (p / 4) (by omega) t ht, tab_bit v hv (p % 4) (by omega) t ht]
        have h1 := va3_lt (w := u) ht
        have h2 := va3_lt (w := v) ht
        by_cases h9 : 4 * va3 u t + va3 v t = p
        · rw [h9, htb, decide_eq_true (show m / 2 ^ p % 2 = 1 by omega), decide_eq_true (show va3 u t = p / 4 by omega), decide_eq_true (show va3 v t = p % 4 by omega), decide_eq_true (show p < p + 1 by omega)]
          simp
        · have e1 : (decide (va3 u t = p / 4) && decide (va3 v t = p % 4)) = false := by
            by_cases g1 : va3 u t = p / 4
            · rw [decide_eq_false (show ¬ va3 v t = p % 4 by omega), Bool.and_false]
            · rw [decide_eq_false g1, Bool.false_and]
          rw [e1, Bool.or_false]
          congr 1
          exact decide_eq_decide.mpr (by omega)
/-- the choices in which u and v are one of the pairs -/
theorem cw_n {m u v : Nat} (hm : m < 65536) (hu : u < 3) (hv : v < 3) : ∃ r : Int64, m_D_choicesWhere (nI m) (nI u) (nI v) = some (r, ()) ∧ ∀ t, t < 64 → bl r t = m.testBit (4 * va3 u t + va3 v t) := by
  unfold m_D_choicesWhere
  exact cw_loop hm hu hv 16 0 (by omega) 40 0 (by omega) (fun t ht => by rw [l_0, decide_eq_false (by omega), Bool.false_and])
