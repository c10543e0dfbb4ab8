theorem rf_ab {fs fa : Nat → Int32} (h : RF fs fa) : ∃ a b : Nat, a < 65536 ∧ b < 65536 ∧ fs 0 = nI a ∧ fs 1 = nI b ∧ ∀ r, r < 2 → ∀ p, p < 16 → fa (16 * r + p) = bi ((if r = 0 then a else b).testBit p) := by
  obtain ⟨a, ha, ea⟩ := set16 (h 0 (by decide)).2
  obtain ⟨b, hb, eb⟩ := set16 (h 1 (by decide)).2
  refine ⟨a, b, ha, hb, ea, eb, fun r hr p hp => ?_⟩
  rw [(h r hr).1 p hp]
  rcases (show r = 0 ∨ r = 1 by omega) with rfl | rfl
  · rw [ea, nI_bt p (by omega), if_pos rfl]; rfl
  · rw [eb, nI_bt p (by omega), if_neg (show ¬ (1 : Nat) = 0 by decide)]; rfl
def bo (Q : Option (List Nat)) : Int32 := match Q with | none => nI 0 | some l => mk l
theorem pf_o {a b g : Nat} (hg : g < 65536) {fc : Nat → Int64} (hfc : ∀ c, c < 18 → ∀ t, t < 64 → bl (fc c) t = fLit a b c t) {Q : Option (List Nat)} (hQ : ∀ l ∈ Q, okB l = true) : ∃ r : Nat, r < 65536 ∧ m_D_pairsFrom (nI g) fc (bo Q) = some (nI r, ()) ∧ ∀ x, x < 4 → ∀ y, y < 4 → r.testBit (4 * x + y) = fol Q.toList a b g x y := by
  cases Q with
  | none => exact ⟨0, by decide, pf_0 _ _, fun x _ y _ => Nat.zero_testBit _⟩
  | some l => exact pf_n hg hfc (hQ l rfl)
theorem hp_of {a b : Nat} {fc : Nat → Int64} (hfc : ∀ c, c < 18 → ∀ t, t < 64 → bl (fc c) t = fLit a b c t) {Q1 Q2 : Option (List Nat)} (h1 : ∀ l ∈ Q1, okB l = true) (h2 : ∀ l ∈ Q2, okB l = true) : ∀ g, g < 65536 → ∃ r1 r2 : Nat, r1 < 65536 ∧ r2 < 65536 ∧ m_D_pairsFrom (nI g) fc (bo Q1) = some (nI r1, ()) ∧ m_D_pairsFrom (nI g) fc (bo Q2) = some (nI r2, ()) ∧ ∀ p, p < 16 → (r1.testBit p || r2.testBit p) = fol (Q1.toList ++ Q2.toList) a b g (p / 4) (p % 4) := by
  intro g hg
  obtain ⟨r1, b1, e1, f1⟩ := pf_o hg hfc h1
  obtain ⟨r2, b2, e2, f2⟩ := pf_o hg hfc h2
  refine ⟨r1, r2, b1, b2, e1, e2, fun p hp => ?_⟩
  have a1 := f1 (p / 4) (by omega) (p % 4) (by omega)
  have a2 := f2 (p / 4) (by omega) (p % 4) (by omega)
  rw [show 4 * (p / 4) + p % 4 = p by omega] at a1 a2
  rw [a1, a2]
  unfold fol
  rw [List.any_append]
theorem ro_loop {k p t : Nat} {gi : Nat → Int32} (hk : k ≤ 16) (hp : p < 16) (ht : t ≤ k) (h : ∀ r, 1 ≤ r → r ≤ k → bt (gi r) p = decide (t = r)) : ∀ d r, r + d = k + 1 → 1 ≤ r → (t = 0 ∨ r ≤ t) → ∀ n, d < n → m_D_roundOf_2 (nI k) gi n (bit p) (nI r) = some (nI t, ()) := by
  intro d
  induction d with
  | zero =>
    intro r hr h1 h2 n hn
    obtain ⟨n, rfl⟩ : ∃ n', n = n' + 1 := ⟨n - 1, by omega⟩
    unfold m_D_roundOf_2
    rw [if_pos (by rw [ni_lt (by omega) (by omega)]; omega), show t = 0 by omega]
  | succ d ih =>
    intro r hr h1 h2 n hn
    obtain ⟨n, rfl⟩ : ∃ n', n = n' + 1 := ⟨n - 1, by omega⟩
    conv => lhs; unfold m_D_roundOf_2
    rw [if_neg (by rw [ni_lt (by omega) (by omega)]; omega), if_pos (by rw [inR_n (by omega)]; exact decide_eq_true (by omega)), nI_clamp (by omega)]
    have hb := h r h1 (by omega)
    by_cases e : t = r
    · rw [decide_eq_true e] at hb
      rw [if_neg (by rw [and_bit (by omega), hb]; decide), e]
    · rw [decide_eq_false e] at hb
      rw [if_pos ((and_bit (by omega)).mpr hb), nI_add]
      exact ih (r + 1) (by omega) (by omega) (by omega) n (by omega)
theorem ro_none {k : Nat} {gi : Nat → Int32} (hk : k ≤ 16) : ∀ d r, r + d = k + 1 → ∀ n, d < n → m_D_roundOf_2 (nI k) gi n (nI 0) (nI r) = some (nI 0, ()) := by
  intro d
  induction d with
  | zero =>
    intro r hr n hn
    obtain ⟨n, rfl⟩ : ∃ n', n = n' + 1 := ⟨n - 1, by omega⟩
    unfold m_D_roundOf_2
    rw [if_pos (by rw [ni_lt (by omega) (by omega)]; omega)]
  | succ d ih =>
    intro r hr n hn
    obtain ⟨n, rfl⟩ : ∃ n', n = n' + 1 := ⟨n - 1, by omega⟩
    conv => lhs; unfold m_D_roundOf_2
    rw [if_neg (by rw [ni_lt (by omega) (by omega)]; omega), if_pos (by rw [inR_n (by omega)]; exact decide_eq_true (by omega)), and_z, if_pos rfl, nI_add]
    exact ih (r + 1) (by omega) n (by omega)
theorem bodies_of {ct ct2 : Int32} {bd mn cs : Nat → Int32} (h : RP ct bd ct2 mn cs) : ∃ Q1 Q2 : Option (List Nat), (∀ l ∈ Q1, okB l = true) ∧ (∀ l ∈ Q2, okB l = true) ∧ m_P_bodyOf ct bd (nI 0) = some (bo Q1, ()) ∧ m_P_bodyOf ct bd (nI 1) = some (bo Q2, ()) ∧ ∀ (a b : Nat) (fa : Nat → Int32), (∀ r, r < 2 → ∀ p, p < 16 → fa (16 * r + p) = bi ((if r = 0 then a else b).testBit p)) → ∀ (g : Nat) (ro : Nat → Int32), (∀ p, p < 16 → (ro p ≤ nI 0 ↔ g.testBit p = false)) → ∀ p, p < 16 → m_M_follows ct2 fa mn cs ro (nI (p / 4)) (nI (p % 4)) = some (bi (fol (Q1.toList ++ Q2.toList) a b g (p / 4) (p % 4)), ()) := by
  obtain ⟨P, hP, rfl, rfl, hc⟩ := h
  have hfol : ∀ (a b : Nat) (fa : Nat → Int32), (∀ r, r < 2 → ∀ p, p < 16 → fa (16 * r + p) = bi ((if r = 0 then a else b).testBit p)) → ∀ (g : Nat) (ro : Nat → Int32), (∀ p, p < 16 → (ro p ≤ nI 0 ↔ g.testBit p = false)) → ∀ p, p < 16 → m_M_follows (nI P.length) fa mn cs ro (nI (p / 4)) (nI (p % 4)) = some (bi (fol P a b g (p / 4) (p % 4)), ()) := fun a b fa hfa g ro hro p hp => fol_n hfa hro (by omega) (by omega) hP (fun j hj => ⟨(hc j hj).1, (hc j hj).2.2.2.1, (hc j hj).2.2.2.2⟩)
  match P, hP, hc, hfol with
  | [], hP, hc, hfol => exact ⟨none, none, fun l hl => by simp at hl, fun l hl => by simp at hl, s_bodyOf_out (n := 0) (Or.inr (by decide)), s_bodyOf_out (n := 0) (Or.inr (by decide)), hfol⟩
  | [l], hP, hc, hfol =>
    obtain ⟨a1, -, a3, -, -⟩ := hc 0 (by simp)
    refine ⟨some l, none, fun l' hl => ?_, fun l hl => by simp at hl, ?_, s_bodyOf_out (n := 1) (Or.inr (by decide)), hfol⟩
    · simp at hl; subst hl; exact a1
    · have := s_bodyOf_in (n := 1) (bd := bd) (j := 0) (by decide) (by decide)
      rw [a3] at this
      exact this
  | [l, l2], hP, hc, hfol =>
    obtain ⟨a1, -, a3, -, -⟩ := hc 0 (by simp)
    obtain ⟨b1, -, b3, -, -⟩ := hc 1 (by simp)
    refine ⟨some l, some l2, fun l' hl => ?_, fun l' hl => ?_, ?_, ?_, hfol⟩
    · simp at hl; subst hl; exact a1
    · simp at hl; subst hl; exact b1
    · have := s_bodyOf_in (n := 2) (bd := bd) (j := 0) (by decide) (by decide)
      rw [a3] at this
      exact this
    · have := s_bodyOf_in (n := 2) (bd := bd) (j := 1) (by decide) (by decide)
      rw [b3] at this
      exact this
  | _ :: _ :: _ :: _, hP, _, _ => simp at hP
/-- deduceProgram and work -/
theorem s_deduce {ct ct2 : Int32} {bd mn cs fs fa : Nat → Int32} (h : RP ct bd ct2 mn cs) (hF : RF fs fa) (gp rc la : Int32) (fc : Nat → Int64) (gi ro fr : Nat → Int32) : ∃ (k g : Nat) (fc' : Nat → Int64) (gi' ro' fr' : Nat → Int32), m_H_deduceProgram fs ct bd gp rc fc gi = some (nI g, nI k, fc', gi') ∧ m_M_work ct2 la fa mn cs ro fr = some (nI k, ro', fr') ∧ k ≤ 16 ∧ J k g gi' ro' := by
  obtain ⟨a, b, ha, hb, ea, eb, hfa⟩ := rf_ab hF
  obtain ⟨Q1, Q2, k1, k2, e1, e2, hfol⟩ := bodies_of h
  obtain ⟨fc', ef, hfc⟩ := take_n ha hb fc
  obtain ⟨k, g, gi', ro', fr', c1, c2, c3, c4⟩ := s_ded (hp_of hfc k1 k2) (hfol a b fa hfa) gp rc la gi ro fr
  refine ⟨k, g, fc', gi', ro', fr', ?_, c2, c3, c4⟩
  unfold m_H_deduceProgram
  rw [if_pos (by decide), if_pos (by decide), show (nI 0).toNatClampNeg = 0 from rfl, show (nI 1).toNatClampNeg = 1 from rfl, ea, eb, ef, bs, e1, bs, e2, bs]
  dsimp only
  rw [c1, bs]
theorem s_given {ct ct2 : Int32} {bd mn cs fs fa : Nat → Int32} (h : RP ct bd ct2 mn cs) (hF : RF fs fa) (gp rc la : Int32) (fc : Nat → Int64) (gi ro fr : Nat → Int32) (x1 x2 : Int32) : ∃ (r gp' rc' la' : Int32) (fc' : Nat → Int64) (gi' ro' fr' : Nat → Int32), m_H_given fs ct bd gp rc fc gi x1 x2 = some (r, gp', rc', fc', gi') ∧ m_M_given ct2 la fa mn cs ro fr x1 x2 = some (r, la', ro', fr') := by
  obtain ⟨k, g, fc', gi', ro', fr', c1, c2, c3, hg, hc, t, ht⟩ := s_deduce h hF gp rc la fc gi ro fr
  unfold m_H_given m_M_given m_M_constant m_D_roundOf
  rw [c1, c2, bs, bs]
  dsimp only
  have z := ro_none (gi := gi') c3 k 1 (by omega) 40 (by omega)
  rcases ix x1 (n := 4) (by decide) with h2 | h2 | ⟨a, ha, rfl⟩
  · refine ⟨nI 0, nI g, nI k, nI k, fc', gi', ro', fr', ?_, ?_⟩
    · rw [s_pairBit_0 (Or.inl h2), bs]; dsimp only; rw [z, bs]
    · rw [if_pos h2]; rfl
  · refine ⟨nI 0, nI g, nI k, nI k, fc', gi', ro', fr', ?_, ?_⟩
    · rw [s_pairBit_0 (Or.inr (Or.inl h2)), bs]; dsimp only; rw [z, bs]
    · rw [if_neg (ix_nn h2 (by decide)), if_pos h2]; rfl
  rcases ix x2 (n := 4) (by decide) with h3 | h3 | ⟨b, hb, rfl⟩
  · refine ⟨nI 0, nI g, nI k, nI k, fc', gi', ro', fr', ?_, ?_⟩
    · rw [s_pairBit_0 (Or.inr (Or.inr (Or.inl h3))), bs]; dsimp only; rw [z, bs]
    · simp (disch := omega) only [ni_lt, ni_le, ni_eq, Nat.not_lt_zero, Nat.not_le.mpr ha, if_false, Option.bind_some, Nat.one_ne_zero, if_pos h3, if_true]
  · refine ⟨nI 0, nI g, nI k, nI k, fc', gi', ro', fr', ?_, ?_⟩
    · rw [s_pairBit_0 (Or.inr (Or.inr (Or.inr h3))), bs]; dsimp only; rw [z, bs]
    · simp (disch := omega) only [ni_lt, ni_le, ni_eq, Nat.not_lt_zero, Nat.not_le.mpr ha, if_false, Option.bind_some, Nat.one_ne_zero, if_neg (ix_nn h3 (by decide)), if_pos h3, if_true]
  · obtain ⟨a1, a2, a3, a4⟩ := ht (4 * a + b) (by omega)
    refine ⟨nI (t (4 * a + b)), nI g, nI k, nI k, fc', gi', ro', fr', ?_, ?_⟩
    · rw [s_pairBit ha hb, bs]
      dsimp only
      rw [ro_loop c3 (show 4 * a + b < 16 by omega) a2 a4 k 1 (by omega) (by omega) (by omega) 40 (by omega), bs]
    · simp (disch := omega) only [ni_lt, ni_le, ni_eq, Nat.not_lt_zero, Nat.not_le.mpr ha, Nat.not_le.mpr hb, if_false, Option.bind_some, Nat.one_ne_zero, pk_mul, nI_add, inR_n, nI_clamp, a1]
      simp only [show decide (4 * a + b < 16) = true from decide_eq_true (by omega), if_true]
theorem s_rounds {ct ct2 : Int32} {bd mn cs fs fa : Nat → Int32} (h : RP ct bd ct2 mn cs) (hF : RF fs fa) (gp rc la : Int32) (fc : Nat → Int64) (gi ro fr : Nat → Int32) : ∃ (r gp' rc' la' : Int32) (fc' : Nat → Int64) (gi' ro' fr' : Nat → Int32), m_H_rounds fs ct bd gp rc fc gi = some (r, gp', rc', fc', gi') ∧ m_M_rounds ct2 la fa mn cs ro fr = some (r, la', ro', fr') := by
  obtain ⟨k, g, fc', gi', ro', fr', c1, c2, c3, -⟩ := s_deduce h hF gp rc la fc gi ro fr
  refine ⟨nI k, nI g, nI k, nI k, fc', gi', ro', fr', ?_, ?_⟩
  · unfold m_H_rounds; rw [c1, bs]
  · unfold m_M_rounds; rw [c2, bs]
