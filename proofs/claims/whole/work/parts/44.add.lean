def tw (s : List Nat) : Bool := match s with
  | [a, b] => decide (a = b)
  | [a, b, c] => decide (a = b) || decide (b = c)
  | _ => false
theorem mk_dup (a : Nat) (x : Int32) : bit a ||| (bit a ||| x) = bit a ||| x := b_ext (fun i hi => by rw [b_or, b_or, ← Bool.or_assoc, Bool.or_self])
theorem tw_no {s : List Nat} (h1 : s.Pairwise (· ≤ ·)) (h2 : ∀ x ∈ s, x < 27) (h3 : 1 ≤ s.length ∧ s.length ≤ 3) (h : tw s = false) : okB s = true := by
  match s, h1, h2, h3, h with
  | [a], _, h2, _, _ => exact decide_eq_true (h2 a (by simp))
  | [a, b], h1, h2, _, h =>
    have hab : a ≤ b := by simpa using h1
    have hb := h2 b (by simp)
    have hn : ¬ a = b := of_decide_eq_false h
    simp only [okB, Bool.and_eq_true, decide_eq_true_eq]
    omega
  | [a, b, c], h1, h2, _, h =>
    have hc := h2 c (by simp)
    simp at h1
    simp only [tw, Bool.or_eq_false_iff, decide_eq_false_iff_not] at h
    simp only [okB, Bool.and_eq_true, decide_eq_true_eq]
    omega
  | [], _, _, h3, _ => simp at h3
  | _ :: _ :: _ :: _ :: _, _, _, h3, _ => simp at h3
theorem tw_yes {s : List Nat} (h1 : s.Pairwise (· ≤ ·)) (h2 : ∀ x ∈ s, x < 27) (h : tw s = true) : ∃ s', okB s' = true ∧ mk s' = mk s ∧ s'.length < s.length := by
  match s, h1, h2, h with
  | [a, b], _, h2, h =>
    have e : a = b := of_decide_eq_true h
    subst e
    exact ⟨[a], decide_eq_true (h2 a (by simp)), (mk_dup a (nI 0)).symm, by simp⟩
  | [a, b, c], h1, h2, h =>
    have hc := h2 c (by simp)
    simp at h1
    by_cases e : a = b
    · subst e
      by_cases e2 : a = c
      · subst e2
        refine ⟨[a], decide_eq_true hc, ?_, by simp⟩
        show bit a ||| nI 0 = bit a ||| (bit a ||| (bit a ||| nI 0))
        rw [mk_dup, mk_dup]
      · refine ⟨[a, c], ?_, (mk_dup a (mk [c])).symm, by simp⟩
        simp only [okB, Bool.and_eq_true, decide_eq_true_eq]
        omega
    · have e2 : b = c := by
        simp only [tw, Bool.or_eq_true, decide_eq_true_eq] at h
        omega
      subst e2
      refine ⟨[a, b], ?_, ?_, by simp⟩
      · simp only [okB, Bool.and_eq_true, decide_eq_true_eq]
        omega
      · show bit a ||| (bit b ||| nI 0) = bit a ||| (bit b ||| (bit b ||| nI 0))
        rw [mk_dup]
  | [], _, _, h => simp [tw] at h
  | [_], _, _, h => simp [tw] at h
  | _ :: _ :: _ :: _ :: _, _, _, h => simp [tw] at h
theorem mk_inj {l s : List Nat} (hl : okB l = true) (hs : okB s = true) (h : mk l = mk s) : l = s := by
  have e1 := cl_bc l hl
  rw [h, cl_bc s hs] at e1
  have e2 := (Prod.mk.inj (Option.some.inj e1)).1
  have L1 := (cl_len l hl).2
  have L2 := (cl_len s hs).2
  rw [ni_eq (by omega) (by omega)] at e2
  refine List.ext_getElem e2.symm (fun j h1 h2 => ?_)
  have a1 := cl_codeAt l hl j h1
  rw [h, cl_codeAt s hs j h2] at a1
  have a2 := (Prod.mk.inj (Option.some.inj a1)).1
  have b1 := cl_lt hl h1
  have b2 := cl_lt hs h2
  rw [ni_eq (by omega) (by omega)] at a2
  rw [List.getD_eq_getElem?_getD, List.getElem?_eq_getElem h2, List.getD_eq_getElem?_getD, List.getElem?_eq_getElem h1] at a2
  exact a2.symm
def kn (P : List (List Nat)) (s : List Nat) : Bool := P.any (fun l => decide (l = s))
theorem con_n {P : List (List Nat)} (hP : P.length ≤ 2) {bd : Nat → Int32} (hc : ∀ j, j < P.length → okB (P.getD j []) = true ∧ bd j = mk (P.getD j [])) {s : List Nat} (hs : okB s = true) : m_P_contains (nI P.length) bd (mk s) = some (bi (kn P s), ()) := by
  have hz : ¬ nI 0 = mk s := fun h => cl_ne s hs h.symm
  have hj : ∀ l, okB l = true → (mk l = mk s ↔ l = s) := fun l hl => ⟨mk_inj hl hs, fun h => by rw [h]⟩
  unfold m_P_contains
  match P, hP, hc with
  | [], _, _ =>
    have e0 := s_bodyOf_out (n := 0) (bd := bd) (x := nI 0) (Or.inr (by decide))
    have e1 := s_bodyOf_out (n := 0) (bd := bd) (x := nI 1) (Or.inr (by decide))
    rw [show nI ([] : List (List Nat)).length = nI 0 from rfl, e0, bs, if_neg hz, e1, bs, if_neg hz]
    rfl
  | [l], _, hc =>
    obtain ⟨a1, a2⟩ := hc 0 (by simp)
    have a2 : bd 0 = mk l := a2
    have e0 := s_bodyOf_in (n := 1) (bd := bd) (j := 0) (by decide) (by decide)
    rw [show nI [l].length = nI 1 from rfl, e0, bs, s_bodyOf_out (n := 1) (Or.inr (by decide)), bs, if_neg hz]
    dsimp only
    rw [a2]
    unfold kn
    rw [List.any_cons, List.any_nil, Bool.or_false]
    by_cases h : l = s
    · rw [if_pos ((hj l a1).mpr h), decide_eq_true h]; rfl
    · rw [if_neg (mt (hj l a1).mp h), decide_eq_false h]; rfl
  | [l, l2], _, hc =>
    obtain ⟨a1, a2⟩ := hc 0 (by simp)
    obtain ⟨b1, b2⟩ := hc 1 (by simp)
    have a2 : bd 0 = mk l := a2
    have b2 : bd 1 = mk l2 := b2
    have a1 : okB l = true := a1
    have b1 : okB l2 = true := b1
    have e0 := s_bodyOf_in (n := 2) (bd := bd) (j := 0) (by decide) (by decide)
    have e1 := s_bodyOf_in (n := 2) (bd := bd) (j := 1) (by decide) (by decide)
    rw [show nI [l, l2].length = nI 2 from rfl, e0, bs, e1, bs]
    dsimp only
    rw [a2, b2]
    unfold kn
    rw [List.any_cons, List.any_cons, List.any_nil, Bool.or_false]
    by_cases h : l = s
    · rw [if_pos ((hj l a1).mpr h), decide_eq_true h]; rfl
    · rw [if_neg (mt (hj l a1).mp h), decide_eq_false h, Bool.false_or]
      by_cases h2 : l2 = s
      · rw [if_pos ((hj l2 b1).mpr h2), decide_eq_true h2]; rfl
      · rw [if_neg (mt (hj l2 b1).mp h2), decide_eq_false h2]; rfl
  | _ :: _ :: _ :: _, hP, _ => simp at hP
/-- the class's addClause -/
theorem add_n {P : List (List Nat)} (hP : P.length ≤ 2) {bd : Nat → Int32} (hc : ∀ j, j < P.length → okB (P.getD j []) = true ∧ bd j = mk (P.getD j [])) {s : List Nat} (h1 : s.Pairwise (· ≤ ·)) (h2 : ∀ x ∈ s, x < 27) (h3 : 1 ≤ s.length ∧ s.length ≤ 3) : m_H_addClause (nI P.length) bd (mk s) (nI s.length) = if tw s = true then some (-100, nI P.length, bd) else if (hasX s && hasY s) = true then (if kn P s = true then some (-102, nI P.length, bd) else if P.length = 2 then some (-103, nI P.length, bd) else some (nI (10 + P.length), nI (P.length + 1), upd bd P.length (mk s))) else some (-101, nI P.length, bd) := by
  unfold m_H_addClause
  by_cases ht : tw s = true
  · obtain ⟨s', k1, k2, k3⟩ := tw_yes h1 h2 ht
    rw [if_pos ht, ← k2, cl_bc s' k1, bs, if_neg (by show ¬ nI s.length ≤ nI s'.length; rw [ni_le (by omega) (by omega)]; omega)]
  · have hs : okB s = true := tw_no h1 h2 h3 (by simpa using ht)
    rw [if_neg ht, cl_bc s hs, bs, if_pos (Int32.le_refl _), cl_head s hs, bs, con_n hP hc hs]
    dsimp only
    by_cases hh : (hasX s && hasY s) = true
    · rw [if_pos hh, if_pos hh, if_neg n10, bs]
      dsimp only
      cases hk : kn P s
      · rw [bi_f, if_pos rfl, if_neg (show ¬ false = true by decide)]
        by_cases h9 : P.length = 2
        · rw [if_neg (by rw [ni_lt (by omega) (by decide)]; omega), if_pos h9]
        · have h9' : P.length < 2 := by omega
          unfold m_P_append
          rw [if_pos (by rw [ni_lt (by omega) (by decide)]; omega), if_neg h9, if_pos (by rw [ni_lt (by omega) (by decide)]; omega), inR_n (by omega), decide_eq_true h9', if_pos rfl, bs]
          dsimp only
          rw [nI_add, pk_sub (by omega), nI_add, nI_clamp (by omega), show 10 + (P.length + 1 - 1) = 10 + P.length by omega]
      · rw [bi_t, if_neg n10, if_pos rfl]
    · rw [if_neg hh, if_neg hh, if_pos rfl]
