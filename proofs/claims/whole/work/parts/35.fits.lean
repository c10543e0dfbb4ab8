def okp (pl mi : Int32) (g p : Nat) : Bool := (!bt pl p || g.testBit p) && (!bt mi p || !g.testBit p)
def fitN (pl mi : Int32) (g : Nat) : Bool := (List.range' 0 16).all (okp pl mi g)
theorem all_r {F : Nat → Bool} : (List.range' 0 16).all F = true ↔ ∀ p, p < 16 → F p = true := by
  rw [List.all_eq_true]
  constructor
  · intro h p hp
    exact h p (by rw [List.mem_range'_1]; omega)
  · intro h p hp
    rw [List.mem_range'_1] at hp
    exact h p (by omega)
theorem an_z {x y : Int32} (hx : ∀ i, 16 ≤ i → bt x i = false) : (x &&& y = nI 0) ↔ ∀ p, p < 16 → (bt x p && bt y p) = false := by
  constructor
  · intro h p hp
    have h2 := congrArg (fun z => bt z p) h
    simp only [b_and] at h2
    rw [h2, b_n0]
  · intro h
    refine b_ext (fun i hi => ?_)
    rw [b_and, b_n0]
    by_cases hi2 : i < 16
    · exact h i hi2
    · rw [hx i (by omega)]; rfl
theorem dfits {pl mi : Int32} {mk : Nat → Int32} (h : RM pl mi mk) {g : Nat} (hg : g < 65536) : m_H_deductionFits pl mi (nI g) = some (bi (fitN pl mi g), ()) := by
  have e1 : (pl &&& (nI g ^^^ (-1 : Int32)) = nI 0) ↔ ∀ p, p < 16 → (!bt pl p || g.testBit p) = true := by
    rw [an_z (fun i hi => (h.2.2 i hi).1)]
    refine forall_congr' (fun p => forall_congr' (fun hp => ?_))
    rw [b_xor, nI_bt p (by omega), b_m1 p (by omega), Bool.xor_true]
    cases bt pl p <;> cases g.testBit p <;> simp
  have e2 : (mi &&& nI g = nI 0) ↔ ∀ p, p < 16 → (!bt mi p || !g.testBit p) = true := by
    rw [an_z (fun i hi => (h.2.2 i hi).2)]
    refine forall_congr' (fun p => forall_congr' (fun hp => ?_))
    rw [nI_bt p (by omega)]
    cases bt mi p <;> cases g.testBit p <;> simp
  unfold m_H_deductionFits
  cases hf : fitN pl mi g
  · by_cases a1 : pl &&& (nI g ^^^ (-1 : Int32)) = nI 0
    · by_cases a2 : mi &&& nI g = nI 0
      · have : fitN pl mi g = true := by
          unfold fitN
          rw [all_r]
          intro p hp
          unfold okp
          rw [e1.mp a1 p hp, e2.mp a2 p hp]
          rfl
        rw [this] at hf
        exact absurd hf (by decide)
      · rw [if_pos a1, if_neg a2]; rfl
    · rw [if_neg a1]; rfl
  · unfold fitN at hf
    rw [all_r] at hf
    have h3 : ∀ p, p < 16 → (!bt pl p || g.testBit p) = true ∧ (!bt mi p || !g.testBit p) = true := by
      intro p hp
      have := hf p hp
      unfold okp at this
      exact (Bool.and_eq_true _ _).mp this
    rw [if_pos (e1.mpr (fun p hp => (h3 p hp).1)), if_pos (e2.mpr (fun p hp => (h3 p hp).2))]
    rfl
theorem fits_loop {pl mi ct la : Int32} {mk fa mn cs ro fr : Nat → Int32} (h : RM pl mi mk) {g : Nat} (h1 : ∀ p, p < 16 → (ro p ≤ nI 0 ↔ g.testBit p = false)) (h2 : ∀ p, p < 16 → (ro p = nI 0 ↔ g.testBit p = false)) : ∀ d k, k + d = 16 → ∀ n, d < n → ∀ α : Bool, m_M_fits_8 ct fa mk mn cs n la ro fr (bi α) (nI k) = some (bi (α && (List.range' k d).all (okp pl mi g)), la, ro, fr) := by
  intro d
  induction d with
  | zero =>
    intro k hk n hn α
    obtain ⟨n, rfl⟩ : ∃ n', n = n' + 1 := ⟨n - 1, by omega⟩
    unfold m_M_fits_8
    rw [if_pos (by rw [ni_le (by decide) (by omega)]; omega), isZ_bi, if_pos rfl, List.range'_zero, List.all_nil, Bool.and_true]
  | succ d ih =>
    intro k hk n hn α
    obtain ⟨n, rfl⟩ : ∃ n', n = n' + 1 := ⟨n - 1, by omega⟩
    have hk2 : k < 16 := by omega
    have hm := h.1 k hk2
    have hx := h.2.1 k
    have i0 := ih (k + 1) (by omega) n (by omega) false
    have i1 := ih (k + 1) (by omega) n (by omega) true
    rw [bi_f] at i0
    rw [bi_t] at i1
    conv => lhs; unfold m_M_fits_8
    unfold m_M_fits_37 m_M_fits_56 m_M_fits_60 m_M_fits_61
    rw [if_neg (by rw [ni_le (by decide) (by omega)]; omega), inR_n (by omega), decide_eq_true hk2, nI_clamp (by omega), if_pos rfl, if_pos rfl, if_pos rfl, if_pos rfl, nI_add, List.range'_succ, List.all_cons, i0, i1]
    cases α
    · rw [bi_f, if_pos rfl, Bool.false_and]; rfl
    · rw [bi_t, if_neg n10, Bool.true_and]
      have m1 : ¬ (-1 : Int32) = nI 1 := by decide
      have m2 : ¬ nI 1 = (-1 : Int32) := by decide
      have m3 : ¬ nI 0 = (-1 : Int32) := by decide
      have m4 : ¬ (nI 0 : Int32) = nI 1 := by decide
      cases hpl : bt pl k
      · cases hmi : bt mi k
        · have e : okp pl mi g k = true := by unfold okp; rw [hpl, hmi]; rfl
          rw [hpl, hmi] at hm
          have hm : mk k = nI 0 := hm
          rw [hm, if_neg m4, if_neg m3, e]
          rfl
        · rw [hpl, hmi] at hm
          have hm : mk k = (-1 : Int32) := hm
          rw [hm, if_neg m1, if_pos rfl]
          have e : okp pl mi g k = !g.testBit k := by unfold okp; rw [hpl, hmi]; simp
          cases hg : g.testBit k
          · rw [if_pos ((h2 k hk2).mpr hg), e, hg]; rfl
          · rw [if_neg (by rw [h2 k hk2, hg]; decide), e, hg]; rfl
      · rw [hpl] at hm
        have hm : mk k = nI 1 := hm
        have hmi := hx hpl
        have e : okp pl mi g k = g.testBit k := by unfold okp; rw [hpl, hmi]; simp
        rw [hm, if_pos rfl, if_neg m2]
        cases hg : g.testBit k
        · rw [if_pos ((h1 k hk2).mpr hg), e, hg]; rfl
        · rw [if_neg (by rw [h1 k hk2, hg]; decide), e, hg]; rfl
theorem J_ro {k g : Nat} {gi ro : Nat → Int32} (h : J k g gi ro) : k ≤ 16 → g < 65536 ∧ (∀ p, p < 16 → (ro p ≤ nI 0 ↔ g.testBit p = false)) ∧ (∀ p, p < 16 → (ro p = nI 0 ↔ g.testBit p = false)) := by
  intro hk
  obtain ⟨hg, hc, t, ht⟩ := h
  refine ⟨hg, fun p hp => ?_, fun p hp => ?_⟩
  · obtain ⟨a1, a2, a3, -⟩ := ht p hp
    rw [a1, ni_le (by omega) (by decide), a3, decide_eq_false_iff_not]
    omega
  · obtain ⟨a1, a2, a3, -⟩ := ht p hp
    rw [a1, ni_eq (by omega) (by decide), a3, decide_eq_false_iff_not]
    omega
theorem s_fits {ct ct2 pl mi : Int32} {bd mn cs fs fa mk : Nat → Int32} (h : RP ct bd ct2 mn cs) (hF : RF fs fa) (hM : RM pl mi mk) (gp rc la : Int32) (fc : Nat → Int64) (gi ro fr : Nat → Int32) : ∃ (r gp' rc' la' : Int32) (fc' : Nat → Int64) (gi' ro' fr' : Nat → Int32), m_H_fits pl mi fs ct bd gp rc fc gi = some (r, gp', rc', fc', gi') ∧ m_M_fits ct2 la fa mk mn cs ro fr = some (r, la', ro', fr') := by
  obtain ⟨k, g, fc', gi', ro', fr', c1, c2, c3, c4⟩ := s_deduce h hF gp rc la fc gi ro fr
  obtain ⟨hg, r1, r2⟩ := J_ro c4 c3
  refine ⟨bi (fitN pl mi g), nI g, nI k, nI k, fc', gi', ro', fr', ?_, ?_⟩
  · unfold m_H_fits
    rw [c1, bs]
    dsimp only
    rw [dfits hM hg, bs]
    dsimp only
    rw [isZ_bi, if_pos rfl]
  · unfold m_M_fits
    rw [c2, bs]
    dsimp only
    have := fits_loop (ct := ct2) (la := nI k) (fa := fa) (mn := mn) (cs := cs) (fr := fr') hM r1 r2 16 0 (by omega) 40 (by omega) true
    rw [bi_t, Bool.true_and] at this
    exact this
