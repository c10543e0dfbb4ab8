theorem i2c_n (x : Int32) : ∃ q : Nat, q < 65536 ∧ i2c x = nI q := by
  refine ⟨(x.toUInt32 % 65536).toNat, ?_, ?_⟩
  · rw [UInt32.toNat_mod]
    exact Nat.mod_lt _ (by decide)
  · unfold i2c nI
    refine Int32.toBitVec_inj.mp ?_
    rw [UInt32.toBitVec_toInt32]
    refine BitVec.eq_of_toNat_eq ?_
    show (x.toUInt32 % 65536).toBitVec.toNat = (BitVec.ofNat 32 (x.toUInt32 % 65536).toNat).toNat
    rw [BitVec.toNat_ofNat]
    exact (Nat.mod_eq_of_lt (UInt32.toNat_lt _)).symm
theorem isC_i2c (x : Int32) : isC (i2c x) = true := by
  obtain ⟨q, hq, e⟩ := i2c_n x
  rw [e]
  exact isC_n hq
theorem l4 {L i : Nat} (hL : L ≤ 2048) (hi : i < 4096) : (nI L - nI 4 < nI i) = (L < i + 4) := by
  by_cases h : 4 ≤ L
  · rw [pk_sub h, ni_lt (by omega) (by omega)]
    exact propext (by omega)
  · have e : (nI L - nI 4).toInt < 0 := by
      rcases (show L = 0 ∨ L = 1 ∨ L = 2 ∨ L = 3 by omega) with rfl | rfl | rfl | rfl <;> decide
    refine propext ⟨fun _ => by omega, fun _ => ?_⟩
    rw [Int32.lt_iff_toInt_lt, nI_toInt (by omega)]
    omega
theorem law_all {xs : Nat → Int32} {L : Nat} (hL : L ≤ 2048) : ∀ n i, L < i + 4 + 4 * n → i < 4096 - 8 → ∀ (pl : Int32) (mi : Int32) (len : Int32) (ty : Nat → Int32) (fs : Nat → Int32) (ct : Int32) (bd : Nat → Int32) (gp : Int32) (rc : Int32) (fc : Nat → Int64) (gi : Nat → Int32) (len2 : Int32) (ct2 : Int32) (oc : Int32) (rd : Int32) (la : Int32) (ln : Nat → Int32) (fa : Nat → Int32) (mk0 : Nat → Int32) (mn : Nat → Int32) (cs : Nat → Int32) (om : Nat → Int32) (ocs : Nat → Int32) (bo : Nat → Int32) (ro : Nat → Int32) (fr : Nat → Int32), RL len ty len2 ln → RF fs fa → RM pl mi mk0 → RP ct bd ct2 mn cs → m_W_law_18 xs L (n + 1) pl mi len ty fs ct bd gp rc fc gi len2 ct2 oc rd la ln fa mk0 mn cs om ocs bo ro fr (nI i) = some (nI 1) := by
  intro n
  induction n with
  | zero =>
    intro i hi hi2 pl mi len ty fs ct bd gp rc fc gi len2 ct2 oc rd la ln fa mk0 mn cs om ocs bo ro fr hRL hRF hRM hRP
    unfold m_W_law_18
    rw [if_pos (by rw [l4 hL (by omega)]; omega)]
  | succ n ih =>
    intro i hi hi2 pl mi len ty fs ct bd gp rc fc gi len2 ct2 oc rd la ln fa mk0 mn cs om ocs bo ro fr hRL hRF hRM hRP
    conv => lhs; unfold m_W_law_18
    by_cases hx : L < i + 4
    · rw [if_pos (by rw [l4 hL (by omega)]; exact hx)]
    have r0 : inR (nI i) L = true := by rw [inR_n (by omega)]; exact decide_eq_true (by omega)
    have r1 : inR (nI i + nI 1) L = true := by rw [nI_add, inR_n (by omega)]; exact decide_eq_true (by omega)
    have r2 : inR (nI i + nI 2) L = true := by rw [nI_add, inR_n (by omega)]; exact decide_eq_true (by omega)
    have r3 : inR (nI i + nI 3) L = true := by rw [nI_add, inR_n (by omega)]; exact decide_eq_true (by omega)
    have go := ih (i + 4) (by omega) (by omega)
    rw [if_neg (by rw [l4 hL (by omega)]; exact hx), if_pos r0]
    unfold letN m_W_law_482
    rw [nI_add i 4]
    generalize xs (nI i).toNatClampNeg &&& nI 15 = w
    generalize xs (nI i + nI 1).toNatClampNeg = x1
    generalize xs (nI i + nI 2).toNatClampNeg = x2
    generalize xs (nI i + nI 3).toNatClampNeg = x3
    dsimp only
    by_cases h0 : w = nI 0
    · obtain ⟨r, a, c, b, d, e1, e2, e3⟩ := s_key hRL (isC_i2c x1)
      rw [if_pos h0, if_pos r1, e1, bs, if_pos r1, e2, bs]
      dsimp only
      rw [if_pos rfl]
      exact go _ _ _ _ _ _ _ _ _ _ _ _ _ _ _ _ _ _ _ _ _ _ _ _ _ _ e3 hRF hRM hRP
    rw [if_neg h0]
    by_cases h1 : w = nI 1
    · obtain ⟨r, a, c, e1, e2, e3⟩ := s_back hRL
      rw [if_pos h1, e1, bs, e2, bs]
      dsimp only
      rw [if_pos rfl]
      exact go _ _ _ _ _ _ _ _ _ _ _ _ _ _ _ _ _ _ _ _ _ _ _ _ _ _ e3 hRF hRM hRP
    rw [if_neg h1]
    by_cases h2 : w = nI 2
    · obtain ⟨r, pl', mi', ct', ct2', rd', fs', bd', fa', mk', mn', cs', bo', e1, e2, e3, e4, e5⟩ := s_enter hRL hRF hRM hRP rd bo
      rw [if_pos h2, e1, bs, e2, bs]
      dsimp only
      rw [if_pos rfl]
      exact go _ _ _ _ _ _ _ _ _ _ _ _ _ _ _ _ _ _ _ _ _ _ _ _ _ _ ⟨0, by decide, rfl, rfl, fun j hj => absurd hj (Nat.not_lt_zero j)⟩ e3 e4 e5
    rw [if_neg h2]
    by_cases h3 : w = nI 3
    · obtain ⟨r, e1, e2⟩ := s_facts hRF x1
      rw [if_pos h3, if_pos r1, e1, bs, if_pos r1, e2, bs]
      dsimp only
      rw [if_pos rfl]
      exact go _ _ _ _ _ _ _ _ _ _ _ _ _ _ _ _ _ _ _ _ _ _ _ _ _ _ hRL hRF hRM hRP
    rw [if_neg h3]
    by_cases h4 : w = nI 4
    · obtain ⟨r, e1, e2⟩ := s_holds hRF x1 x2 x3
      rw [if_pos h4, if_pos r1, if_pos r2, if_pos r3, e1, bs, if_pos r1, if_pos r2, if_pos r3, e2, bs]
      dsimp only
      rw [if_pos rfl]
      exact go _ _ _ _ _ _ _ _ _ _ _ _ _ _ _ _ _ _ _ _ _ _ _ _ _ _ hRL hRF hRM hRP
    rw [if_neg h4]
    by_cases h5 : w = nI 5
    · obtain ⟨r, e1, e2⟩ := s_mark hRM x1 x2
      rw [if_pos h5, if_pos r1, if_pos r2, e1, bs, if_pos r1, if_pos r2, e2, bs]
      dsimp only
      rw [if_pos rfl]
      exact go _ _ _ _ _ _ _ _ _ _ _ _ _ _ _ _ _ _ _ _ _ _ _ _ _ _ hRL hRF hRM hRP
    rw [if_neg h5]
    by_cases h6 : w = nI 6
    · obtain ⟨r, a, c, b, d, e, e1, e2, e3⟩ := s_drop hRP x1
      rw [if_pos h6, if_pos r1, e1, bs, if_pos r1, e2, bs]
      dsimp only
      rw [if_pos rfl]
      exact go _ _ _ _ _ _ _ _ _ _ _ _ _ _ _ _ _ _ _ _ _ _ _ _ _ _ hRL hRF hRM e3
    rw [if_neg h6]
    by_cases h7 : w = nI 7
    · obtain ⟨r, e1, e2⟩ := s_clauses hRP
      rw [if_pos h7, e1, bs, e2, bs]
      dsimp only
      rw [if_pos rfl]
      exact go _ _ _ _ _ _ _ _ _ _ _ _ _ _ _ _ _ _ _ _ _ _ _ _ _ _ hRL hRF hRM hRP
    rw [if_neg h7]
    by_cases h8 : w = nI 8
    · obtain ⟨r, e1, e2⟩ := s_literals hRP x1
      rw [if_pos h8, if_pos r1, e1, bs, if_pos r1, e2, bs]
      dsimp only
      rw [if_pos rfl]
      exact go _ _ _ _ _ _ _ _ _ _ _ _ _ _ _ _ _ _ _ _ _ _ _ _ _ _ hRL hRF hRM hRP
    rw [if_neg h8]
    by_cases h9 : w = nI 9
    · obtain ⟨r, e1, e2⟩ := s_literal hRP x1 x2
      rw [if_pos h9, if_pos r1, if_pos r2, e1, bs, if_pos r1, if_pos r2, e2, bs]
      dsimp only
      rw [if_pos rfl]
      exact go _ _ _ _ _ _ _ _ _ _ _ _ _ _ _ _ _ _ _ _ _ _ _ _ _ _ hRL hRF hRM hRP
    rw [if_neg h9]
    by_cases h10 : w = nI 10
    · obtain ⟨r, e1, e2⟩ := s_letter hRP x1
      rw [if_pos h10, if_pos r1, e1, bs, if_pos r1, e2, bs]
      dsimp only
      rw [if_pos rfl]
      exact go _ _ _ _ _ _ _ _ _ _ _ _ _ _ _ _ _ _ _ _ _ _ _ _ _ _ hRL hRF hRM hRP
    rw [if_neg h10]
    by_cases h11 : w = nI 11
    · obtain ⟨r, e1, e2⟩ := s_subsumes hRP x1 x2
      rw [if_pos h11, if_pos r1, if_pos r2, e1, bs, if_pos r1, if_pos r2, e2, bs]
      dsimp only
      rw [if_pos rfl]
      exact go _ _ _ _ _ _ _ _ _ _ _ _ _ _ _ _ _ _ _ _ _ _ _ _ _ _ hRL hRF hRM hRP
    rw [if_neg h11]
    by_cases h12 : w = nI 12
    · obtain ⟨r, gp', rc', la', fc', gi', ro', fr', e1, e2⟩ := s_given hRP hRF gp rc la fc gi ro fr x1 x2
      rw [if_pos h12, if_pos r1, if_pos r2, e1, bs, if_pos r1, if_pos r2, e2, bs]
      dsimp only
      rw [if_pos rfl]
      exact go _ _ _ _ _ _ _ _ _ _ _ _ _ _ _ _ _ _ _ _ _ _ _ _ _ _ hRL hRF hRM hRP
    rw [if_neg h12]
    by_cases h13 : w = nI 13
    · obtain ⟨r, gp', rc', la', fc', gi', ro', fr', e1, e2⟩ := s_rounds hRP hRF gp rc la fc gi ro fr
      rw [if_pos h13, e1, bs, e2, bs]
      dsimp only
      rw [if_pos rfl]
      exact go _ _ _ _ _ _ _ _ _ _ _ _ _ _ _ _ _ _ _ _ _ _ _ _ _ _ hRL hRF hRM hRP
    rw [if_neg h13]
    by_cases h14 : w = nI 14
    · obtain ⟨r, gp', rc', la', fc', gi', ro', fr', e1, e2⟩ := s_fits hRP hRF hRM gp rc la fc gi ro fr
      rw [if_pos h14, e1, bs, e2, bs]
      dsimp only
      rw [if_pos rfl]
      exact go _ _ _ _ _ _ _ _ _ _ _ _ _ _ _ _ _ _ _ _ _ _ _ _ _ _ hRL hRF hRM hRP
    rw [if_neg h14]
    by_cases h15 : w = nI 15
    · obtain ⟨r, ct', gp', rc', cu', oc', la', bd', gi', mn', cs', om', ocs', ro', fr', fc', e1, e2, e3⟩ := s_learn hRP hRF hRM gp rc la oc fc gi ro fr om ocs
      rw [if_pos h15, e1, bs, e2, bs]
      dsimp only
      rw [if_pos rfl]
      exact go _ _ _ _ _ _ _ _ _ _ _ _ _ _ _ _ _ _ _ _ _ _ _ _ _ _ hRL hRF hRM e3
    rw [if_neg h15]
    exact go _ _ _ _ _ _ _ _ _ _ _ _ _ _ _ _ _ _ _ _ _ _ _ _ _ _ hRL hRF hRM hRP
theorem law_eq (xs : Nat → Int32) (L : Nat) (hL : L ≤ 2048) : m_W_law_18 xs L 520 0 0 0 (fun _ => 0) (fun _ => 0) 0 (fun _ => 0) 0 0 (fun _ => 0) (fun _ => 0) 0 0 0 0 0 (fun _ => 0) (fun _ => 0) (fun _ => 0) (fun _ => 0) (fun _ => 0) (fun _ => 0) (fun _ => 0) (fun _ => 0) (fun _ => 0) (fun _ => 0) (nI 0) = some (nI 1) := by
  refine law_all hL 519 0 (by omega) (by decide) _ _ _ _ _ _ _ _ _ _ _ _ _ _ _ _ _ _ _ _ _ _ _ _ _ _ ?_ ?_ ?_ ?_
  · exact ⟨0, by decide, rfl, rfl, fun j hj => absurd hj (Nat.not_lt_zero j)⟩
  · intro r hr
    refine ⟨fun p hp => ?_, fun i hi => b_0 i⟩
    rw [b_0]
    rfl
  · refine ⟨fun p hp => ?_, fun p h => absurd h (by rw [b_0]; decide), fun i hi => ⟨b_0 i, b_0 i⟩⟩
    rw [b_0]
    rfl
  · exact ⟨[], by decide, rfl, rfl, fun j hj => absurd hj (Nat.not_lt_zero j)⟩
