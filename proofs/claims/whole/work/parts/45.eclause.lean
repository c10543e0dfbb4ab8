section EC
variable {ty : Int32} {ln : Nat → Int32}
theorem ec_step {s : List Nat} (h2 : ∀ x ∈ s, x < 27) (h3 : s.length ≤ 3) {bo : Nat → Int32} (hB : BR s bo) (ct : Int32) (mn cs : Nat → Int32) {k : Nat} (hk : k < s.length) (n : Nat) (z : Int32) (α : Bool) : m_M_enterClause_10 ty ln (n + 1) ct (nI s.length) mn cs bo z (bi α) (nI k) = m_M_enterClause_10 ty ln n ct (nI s.length) mn cs bo (z ||| vrs (s.getD k 0)) (bi (α || (decide (0 < k) && decide (s.getD (k - 1) 0 = s.getD k 0)))) (nI (k + 1)) := by
  have hl : ∀ i, i < s.length → s.getD i 0 < 27 := fun i hi => by
    rw [List.getD_eq_getElem?_getD, List.getElem?_eq_getElem hi]
    exact h2 _ (List.getElem_mem hi)
  have hk27 := hl k hk
  conv => lhs; unfold m_M_enterClause_10
  unfold m_M_enterClause_59 m_M_enterClause_55 m_M_enterClause_60
  rw [if_neg (by rw [ni_le (by omega) (by omega)]; omega), inR_n (by omega), decide_eq_true (show k < 3 by omega), if_pos rfl, nI_clamp (by omega), hB k hk, var_n _ hk27, bs, nI_add]
  dsimp only
  cases α
  · rw [bi_f, if_pos rfl, Bool.false_or]
    by_cases h0 : k = 0
    · subst h0
      rw [if_pos (by decide), decide_eq_false (Nat.lt_irrefl 0), Bool.false_and]
      rfl
    · rw [if_neg (by rw [ni_le (by omega) (by decide)]; omega), pk_sub (by omega), inR_n (by omega), decide_eq_true (show k - 1 < 3 by omega), if_pos rfl, if_pos rfl, nI_clamp (by omega), hB (k - 1) (by omega), decide_eq_true (show 0 < k by omega), Bool.true_and]
      have hk1 := hl (k - 1) (by omega)
      by_cases e : s.getD (k - 1) 0 = s.getD k 0
      · rw [if_pos (by rw [e]), decide_eq_true e]; rfl
      · rw [if_neg (by rw [ni_eq (by omega) (by omega)]; exact e), decide_eq_false e]; rfl
  · rw [bi_t, if_neg n10, Bool.true_or]; rfl
theorem ec_end {s : List Nat} (h3 : s.length ≤ 3) (bo : Nat → Int32) (ct : Int32) (mn cs : Nat → Int32) (n : Nat) (z : Int32) (α : Bool) : m_M_enterClause_10 ty ln (n + 1) ct (nI s.length) mn cs bo z (bi α) (nI s.length) = if α = true then some (-100, ct, nI s.length, mn, cs, bo) else if z &&& nI 3 = nI 3 then m_M_enterClause_86 ty ln 40 ct (nI s.length) mn cs bo (nI 0) else some (-101, ct, nI s.length, mn, cs, bo) := by
  conv => lhs; unfold m_M_enterClause_10
  rw [if_pos (Int32.le_refl _)]
  cases α
  · rw [bi_f, if_pos rfl, if_neg (show ¬ false = true by decide)]
  · rw [bi_t, if_neg n10, if_pos rfl]
theorem ec_n {s : List Nat} (h2 : ∀ x ∈ s, x < 27) (h3 : 1 ≤ s.length ∧ s.length ≤ 3) {bo : Nat → Int32} (hB : BR s bo) (ct : Int32) (mn cs : Nat → Int32) : m_M_enterClause_10 ty ln 40 ct (nI s.length) mn cs bo (nI 0) (nI 0) (nI 0) = if tw s = true then some (-100, ct, nI s.length, mn, cs, bo) else if (hasX s && hasY s) = true then m_M_enterClause_86 ty ln 40 ct (nI s.length) mn cs bo (nI 0) else some (-101, ct, nI s.length, mn, cs, bo) := by
  have fin : ∀ (z : Int32), bt z 0 = hasX s → bt z 1 = hasY s → (if z &&& nI 3 = nI 3 then m_M_enterClause_86 ty ln 40 ct (nI s.length) mn cs bo (nI 0) else some (-101, ct, nI s.length, mn, cs, bo)) = if (hasX s && hasY s) = true then m_M_enterClause_86 ty ln 40 ct (nI s.length) mn cs bo (nI 0) else some (-101, ct, nI s.length, mn, cs, bo) := by
    intro z h0 h1
    by_cases h : (hasX s && hasY s) = true
    · rw [if_pos h, if_pos]
      rw [and3, h0, h1]
      exact (Bool.and_eq_true _ _).mp h
    · rw [if_neg h, if_neg]
      rw [and3, h0, h1, ← Bool.and_eq_true]
      exact h
  have hl3 := h3.2
  have st : ∀ k, k < s.length → ∀ (n : Nat) (z : Int32) (α : Bool), m_M_enterClause_10 ty ln (n + 1) ct (nI s.length) mn cs bo z (bi α) (nI k) = m_M_enterClause_10 ty ln n ct (nI s.length) mn cs bo (z ||| vrs (s.getD k 0)) (bi (α || (decide (0 < k) && decide (s.getD (k - 1) 0 = s.getD k 0)))) (nI (k + 1)) := fun k hk n z α => ec_step h2 hl3 hB ct mn cs hk n z α
  have en : ∀ (n : Nat) (z : Int32) (α : Bool), m_M_enterClause_10 ty ln (n + 1) ct (nI s.length) mn cs bo z (bi α) (nI s.length) = if α = true then some (-100, ct, nI s.length, mn, cs, bo) else if z &&& nI 3 = nI 3 then m_M_enterClause_86 ty ln 40 ct (nI s.length) mn cs bo (nI 0) else some (-101, ct, nI s.length, mn, cs, bo) := fun n z α => ec_end hl3 bo ct mn cs n z α
  rw [show m_M_enterClause_10 ty ln 40 ct (nI s.length) mn cs bo (nI 0) (nI 0) (nI 0) = m_M_enterClause_10 ty ln (39 + 1) ct (nI s.length) mn cs bo (nI 0) (bi false) (nI 0) from rfl]
  match s, h2, h3, fin, st, en with
  | [a], h2, _, fin, st, en =>
    have va := vrs_01 a (h2 a (by simp))
    rw [st 0 (by simp) 39, show nI (0 + 1) = nI [a].length from rfl, en 38]
    show (if tw [a] = true then _ else _) = _
    by_cases ht : tw [a] = true
    · rw [if_pos ht, if_pos ht]
    · rw [if_neg ht, if_neg ht]
      refine fin _ ?_ ?_
      · rw [b_or, b_n0, Bool.false_or]
        exact va.1.trans (by simp [hasX])
      · rw [b_or, b_n0, Bool.false_or]
        exact va.2.trans (by simp [hasY])
  | [a, b], h2, _, fin, st, en =>
    have va := vrs_01 a (h2 a (by simp))
    have vb := vrs_01 b (h2 b (by simp))
    rw [st 0 (by simp) 39, st (0 + 1) (by simp) 38, show nI (0 + 1 + 1) = nI [a, b].length from rfl, en 37]
    have et : (false || (decide (0 < 0) && decide ([a, b].getD (0 - 1) 0 = [a, b].getD 0 0)) || (decide (0 < 0 + 1) && decide ([a, b].getD (0 + 1 - 1) 0 = [a, b].getD (0 + 1) 0))) = tw [a, b] := by
      simp [tw]
    rw [et]
    by_cases ht : tw [a, b] = true
    · rw [if_pos ht, if_pos ht]
    · rw [if_neg ht, if_neg ht]
      refine fin _ ?_ ?_
      · rw [b_or, b_or, b_n0, Bool.false_or]
        show (bt (vrs a) 0 || bt (vrs b) 0) = _
        rw [va.1, vb.1]
        simp [hasX]
      · rw [b_or, b_or, b_n0, Bool.false_or]
        show (bt (vrs a) 1 || bt (vrs b) 1) = _
        rw [va.2, vb.2]
        simp [hasY]
  | [a, b, c], h2, _, fin, st, en =>
    have va := vrs_01 a (h2 a (by simp))
    have vb := vrs_01 b (h2 b (by simp))
    have vc := vrs_01 c (h2 c (by simp))
    rw [st 0 (by simp) 39, st (0 + 1) (by simp) 38, st (0 + 1 + 1) (by simp) 37, show nI (0 + 1 + 1 + 1) = nI [a, b, c].length from rfl, en 36]
    have et : (false || (decide (0 < 0) && decide ([a, b, c].getD (0 - 1) 0 = [a, b, c].getD 0 0)) || (decide (0 < 0 + 1) && decide ([a, b, c].getD (0 + 1 - 1) 0 = [a, b, c].getD (0 + 1) 0)) || (decide (0 < 0 + 1 + 1) && decide ([a, b, c].getD (0 + 1 + 1 - 1) 0 = [a, b, c].getD (0 + 1 + 1) 0))) = tw [a, b, c] := by
      simp [tw]
    rw [et]
    by_cases ht : tw [a, b, c] = true
    · rw [if_pos ht, if_pos ht]
    · rw [if_neg ht, if_neg ht]
      refine fin _ ?_ ?_
      · rw [b_or, b_or, b_or, b_n0, Bool.false_or]
        show (bt (vrs a) 0 || bt (vrs b) 0 || bt (vrs c) 0) = _
        rw [va.1, vb.1, vc.1]
        simp [hasX, Bool.or_assoc]
      · rw [b_or, b_or, b_or, b_n0, Bool.false_or]
        show (bt (vrs a) 1 || bt (vrs b) 1 || bt (vrs c) 1) = _
        rw [va.2, vb.2, vc.2]
        simp [hasY, Bool.or_assoc]
  | [], _, h3, _, _, _ => simp at h3
  | _ :: _ :: _ :: _ :: _, _, h3, _, _, _ => simp at h3
theorem kn_n {s l : List Nat} (h2 : ∀ x ∈ s, x < 27) (h3 : 1 ≤ s.length ∧ s.length ≤ 3) {bo mn cs : Nat → Int32} (hB : BR s bo) {j : Nat} (hj : j < 2) (hl : okB l = true) (hm : mn j = nI l.length) (hcs : ∀ k, k < l.length → cs (3 * j + k) = nI (l.getD k 0)) : m_M_known (nI s.length) mn cs bo (nI j) = some (bi (decide (l = s)), ()) := by
  have hL := (cl_len l hl).2
  have hs27 : ∀ i, i < s.length → s.getD i 0 < 27 := fun i hi => by
    rw [List.getD_eq_getElem?_getD, List.getElem?_eq_getElem hi]
    exact h2 _ (List.getElem_mem hi)
  unfold m_M_known m_M_known_18
  rw [inR_n (by omega), decide_eq_true hj, if_pos rfl, nI_clamp (by omega), hm]
  by_cases hlen : l.length = s.length
  · rw [if_pos (by rw [hlen])]
    have key : ∀ d k, k + d = s.length → ∀ n, d < n → ∀ α : Bool, m_M_known_21 (nI s.length) mn cs bo n (nI j) (bi α) (nI k) = some (bi (α && (List.range' k d).all (fun i => decide (l.getD i 0 = s.getD i 0))), ()) := by
      intro d
      induction d with
      | zero =>
        intro k hk n hn α
        obtain ⟨n, rfl⟩ : ∃ n', n = n' + 1 := ⟨n - 1, by omega⟩
        unfold m_M_known_21
        rw [if_pos (by rw [ni_le (by omega) (by omega)]; omega), isZ_bi, if_pos rfl, List.range'_zero, List.all_nil, Bool.and_true]
      | succ d ih =>
        intro k hk n hn α
        obtain ⟨n, rfl⟩ : ∃ n', n = n' + 1 := ⟨n - 1, by omega⟩
        have i0 := ih (k + 1) (by omega) n (by omega) false
        have i1 := ih (k + 1) (by omega) n (by omega) true
        rw [bi_f] at i0
        rw [bi_t] at i1
        conv => lhs; unfold m_M_known_21
        unfold m_M_known_57
        rw [if_neg (by rw [ni_le (by omega) (by omega)]; omega), isZ_bi, if_pos rfl, pk_mul 3 j, nI_add, inR_n (by omega), inR_n (by omega), decide_eq_true (show 3 * j + k < 6 by omega), decide_eq_true (show k < 3 by omega), if_pos rfl, if_pos rfl, nI_clamp (by omega), nI_clamp (by omega), hcs k (by omega), hB k (by omega), nI_add, i0, i1, List.range'_succ, List.all_cons]
        have b1 := cl_lt hl (show k < l.length by omega)
        have b2 := hs27 k (by omega)
        cases α
        · rw [bi_f, if_pos rfl]; rfl
        · rw [bi_t, if_neg n10]
          by_cases e : l.getD k 0 = s.getD k 0
          · rw [if_pos (by rw [e]), decide_eq_true e]; rfl
          · rw [if_neg (by rw [ni_eq (by omega) (by omega)]; exact e), decide_eq_false e]; rfl
    have h4 := key s.length 0 (by omega) 40 (by omega) true
    rw [bi_t, Bool.true_and] at h4
    rw [h4]
    congr 3
    by_cases e : l = s
    · rw [decide_eq_true e, List.all_eq_true]
      intro i hi
      rw [e]
      exact decide_eq_true rfl
    · rw [decide_eq_false e]
      cases ha : (List.range' 0 s.length).all (fun i => decide (l.getD i 0 = s.getD i 0))
      · rfl
      · exfalso
        apply e
        refine List.ext_getElem hlen (fun i h5 h6 => ?_)
        have h7 := List.all_eq_true.mp ha i (by rw [List.mem_range'_1]; omega)
        have h8 := of_decide_eq_true h7
        rw [List.getD_eq_getElem?_getD, List.getElem?_eq_getElem h5, List.getD_eq_getElem?_getD, List.getElem?_eq_getElem h6] at h8
        exact h8
  · rw [if_neg (by rw [ni_eq (by omega) (by omega)]; exact hlen), decide_eq_false (fun e => hlen (by rw [e]))]
    conv => lhs; unfold m_M_known_21
    rw [if_neg (by rw [ni_le (by omega) (by decide)]; omega), if_pos rfl, if_pos (by decide)]
    rfl
end EC
