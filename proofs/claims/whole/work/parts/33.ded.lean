theorem ded_loop {fc : Nat → Int64} {x1 x2 : Int32} {fa mn cs : Nat → Int32} {ct : Int32} {Fo : Nat → Nat → Bool}
  (hp : ∀ g, g < 65536 → ∃ r1 r2 : Nat, r1 < 65536 ∧ r2 < 65536 ∧ m_D_pairsFrom (nI g) fc x1 = some (nI r1, ()) ∧ m_D_pairsFrom (nI g) fc x2 = some (nI r2, ()) ∧ ∀ p, p < 16 → (r1.testBit p || r2.testBit p) = Fo g p)
  (hf : ∀ (g : Nat) (ro : Nat → Int32), (∀ p, p < 16 → (ro p ≤ nI 0 ↔ g.testBit p = false)) → ∀ p, p < 16 → m_M_follows ct fa mn cs ro (nI (p / 4)) (nI (p % 4)) = some (bi (Fo g p), ())) :
  ∀ d k, k + d = 16 → ∀ n1 n2, d < n1 → d + 1 < n2 → ∀ (g : Nat) (gi ro fr : Nat → Int32), J k g gi ro → ∃ (k' g' : Nat) (gi' ro' fr' : Nat → Int32), m_D_run_12 fc n1 (nI g) (nI k) gi x1 x2 (nI (k + 1)) = some (nI g', nI k', gi') ∧ m_M_work_28 ct fa mn cs n2 (nI k) ro fr (nI 1) = some (nI k', ro', fr') ∧ k' ≤ 16 ∧ J k' g' gi' ro' := by
  intro d
  induction d with
  | zero =>
    intro k hk n1 n2 hn1 hn2 g gi ro fr hJ
    obtain ⟨n1, rfl⟩ : ∃ n', n1 = n' + 1 := ⟨n1 - 1, by omega⟩
    obtain ⟨n2, rfl⟩ : ∃ n', n2 = n' + 1 + 1 := ⟨n2 - 2, by omega⟩
    have hk16 : k = 16 := by omega
    subst hk16
    obtain ⟨hg, hc, t, ht⟩ := hJ
    have hfull := cn_full hc
    have hro : ∀ p, p < 16 → ¬ ro p = nI 0 := by
      intro p hp
      obtain ⟨a1, a2, a3, -⟩ := ht p hp
      rw [show g.testBit p = true from hfull p hp] at a3
      have := of_decide_eq_true a3.symm
      rw [a1, ni_eq (by omega) (by decide)]
      exact this
    obtain ⟨ro', fr', e, h⟩ := wk_round (F := fun _ => false) (ct := ct) (fa := fa) (mn := mn) (cs := cs) (ro := ro) (fun p hp h => absurd h (hro p hp)) (fun _ _ _ => rfl) 16 (n2 + 1) fr
    refine ⟨16, g, gi, ro', fr', ?_, ?_, Nat.le_refl _, hg, hc, t, fun p hp => ?_⟩
    · unfold m_D_run_12
      rw [if_pos (by rw [ni_lt (by decide) (by decide)]; decide)]
    · rw [e, if_neg (by decide)]
      conv => lhs; unfold m_M_work_28
      rw [if_pos rfl]
    · rw [h p hp, if_neg (by decide)]
      exact ht p hp
  | succ d ih =>
    intro k hk n1 n2 hn1 hn2 g gi ro fr hJ
    obtain ⟨n1, rfl⟩ : ∃ n', n1 = n' + 1 := ⟨n1 - 1, by omega⟩
    obtain ⟨n2, rfl⟩ : ∃ n', n2 = n' + 1 + 1 := ⟨n2 - 2, by omega⟩
    obtain ⟨hg, hc, t, ht⟩ := hJ
    obtain ⟨r1, r2, b1, b2, e1, e2, hr⟩ := hp g hg
    obtain ⟨m, hm, em, hmb⟩ := more_n b1 b2 hg
    have hro : ∀ p, p < 16 → (ro p ≤ nI 0 ↔ g.testBit p = false) := by
      intro p hp
      obtain ⟨a1, a2, a3, -⟩ := ht p hp
      rw [a1, ni_le (by omega) (by decide), a3, decide_eq_false_iff_not]
      omega
    have hF : ∀ p, p < 16 → m.testBit p = (Fo g p && !g.testBit p) := fun p hp => by rw [hmb p hp, hr p hp]
    obtain ⟨ro', fr', e, h⟩ := wk_round (F := fun p => m.testBit p) (ct := ct) (fa := fa) (mn := mn) (cs := cs) (ro := ro) (fun p hp h => by
        have hg0 : g.testBit p = false := (hro p hp).mp (by rw [h]; exact Int32.le_refl _)
        rw [hf g ro hro p hp]
        rw [hF p hp, hg0, Bool.not_false, Bool.and_true]) (fun p hp h => by
        obtain ⟨a1, a2, a3, -⟩ := ht p hp
        rw [a1, ni_eq (by omega) (by decide)] at h
        have hg1 : g.testBit p = true := by rw [a3]; exact decide_eq_true h
        rw [hF p hp, hg1, Bool.not_true, Bool.and_false]) k (n2 + 1) fr
    have hlt : ¬ nI 16 < nI (k + 1) := by rw [ni_lt (by decide) (by omega)]; omega
    by_cases hz : nI m = nI 0
    · have hz' := (z_n hm).mp hz
      have ha : ¬ (List.range' 0 16).any (fun p => m.testBit p) = true := by
        rw [any_r]
        rintro ⟨p, hp, h⟩
        rw [hz' p hp] at h
        exact absurd h (by decide)
      refine ⟨k, g, gi, ro', fr', ?_, ?_, by omega, hg, hc, t, fun p hp => ?_⟩
      · unfold m_D_run_12
        rw [if_neg hlt, e1, bs, e2, bs]
        dsimp only
        rw [em, if_pos hz]
      · rw [e, if_neg ha]
        conv => lhs; unfold m_M_work_28
        rw [if_pos rfl]
      · rw [h p hp]
        rw [hz' p hp, if_neg (by decide)]
        exact ht p hp
    · have hz' := mt (z_n hm).mpr hz
      obtain ⟨p0, hp0, hb0⟩ : ∃ p, p < 16 ∧ m.testBit p = true := by
        apply Classical.byContradiction
        intro hno
        apply hz'
        intro p hp
        cases hq : m.testBit p
        · rfl
        · exact absurd ⟨p, hp, hq⟩ hno
      have ha : (List.range' 0 16).any (fun p => m.testBit p) = true := any_r.mpr ⟨p0, hp0, hb0⟩
      obtain ⟨eo, ho⟩ := or_n hg hm
      have hng : ∀ p, p < 16 → m.testBit p = true → g.testBit p = false := by
        intro p hp hq
        have hb := hF p hp
        rw [hq] at hb
        cases hgp : g.testBit p
        · rfl
        · rw [hgp, Bool.not_true, Bool.and_false] at hb
          exact absurd hb (by decide)
      have hJ2 : J (k + 1) (g ||| m) (upd gi (k + 1) (nI m)) ro' := by
        obtain ⟨t', ht'⟩ : ∃ t' : Nat → Nat, ∀ p, t' p = if m.testBit p = true then k + 1 else t p := ⟨_, fun _ => rfl⟩
        refine ⟨ho, ?_, t', fun p hp => ?_⟩
        · have := cn_lt (f := fun p => g.testBit p) (g := fun p => (g ||| m).testBit p) (k := 16) (fun i hi h => by
            show (g ||| m).testBit i = true
            rw [Nat.testBit_or, show g.testBit i = true from h]
            rfl) ⟨p0, hp0, hng p0 hp0 hb0, by show (g ||| m).testBit p0 = true; rw [Nat.testBit_or, hb0, Bool.or_true]⟩
          omega
        · obtain ⟨a1, a2, a3, a4⟩ := ht p hp
          rw [h p hp, Nat.testBit_or]
          rcases Bool.eq_false_or_eq_true (m.testBit p) with hq | hq
          rotate_left
          · have hq2 : ¬ m.testBit p = true := by rw [hq]; decide
            have et : t' p = t p := by rw [ht', if_neg hq2]
            rw [if_neg hq2, et, hq]
            refine ⟨a1, by omega, by rw [Bool.or_false]; exact a3, fun r hr1 hr2 => ?_⟩
            by_cases er : r = k + 1
            · subst er
              rw [pk_us, nI_bt p (by omega), hq]
              exact (decide_eq_false (by omega)).symm
            · rw [pk_un er]
              exact a4 r hr1 (by omega)
          · have et : t' p = k + 1 := by rw [ht', if_pos hq]
            rw [if_pos hq, et, hq]
            have hgf := hng p hp hq
            refine ⟨rfl, Nat.le_refl _, by rw [Bool.or_true]; exact (decide_eq_true (by omega)).symm, fun r hr1 hr2 => ?_⟩
            by_cases er : r = k + 1
            · subst er
              rw [pk_us, nI_bt p (by omega), hq]
              exact (decide_eq_true rfl).symm
            · rw [pk_un er, a4 r hr1 (by omega)]
              rw [hgf] at a3
              have ht0 := of_decide_eq_false a3.symm
              rw [decide_eq_false (show ¬ t p = r by omega), decide_eq_false (show ¬ k + 1 = r by omega)]
      obtain ⟨k', g', gi', ro2, fr2, c1, c2, c3, c4⟩ := ih (k + 1) (by omega) n1 (n2 + 1) (by omega) (by omega) (g ||| m) (upd gi (k + 1) (nI m)) ro' fr' hJ2
      refine ⟨k', g', gi', ro2, fr2, ?_, ?_, c3, c4⟩
      · conv => lhs; unfold m_D_run_12
        rw [if_neg hlt, e1, bs, e2, bs]
        dsimp only
        rw [em, if_neg hz, if_pos (by rw [inR_n (by omega)]; exact decide_eq_true (by omega)), nI_clamp (by omega), eo, nI_add]
        exact c1
      · rw [e, if_pos ha]
        exact c2
/-- run and work side by side -/
theorem s_ded {fc : Nat → Int64} {x1 x2 : Int32} {fa mn cs : Nat → Int32} {ct : Int32} {Fo : Nat → Nat → Bool}
  (hp : ∀ g, g < 65536 → ∃ r1 r2 : Nat, r1 < 65536 ∧ r2 < 65536 ∧ m_D_pairsFrom (nI g) fc x1 = some (nI r1, ()) ∧ m_D_pairsFrom (nI g) fc x2 = some (nI r2, ()) ∧ ∀ p, p < 16 → (r1.testBit p || r2.testBit p) = Fo g p)
  (hf : ∀ (g : Nat) (ro : Nat → Int32), (∀ p, p < 16 → (ro p ≤ nI 0 ↔ g.testBit p = false)) → ∀ p, p < 16 → m_M_follows ct fa mn cs ro (nI (p / 4)) (nI (p % 4)) = some (bi (Fo g p), ()))
  (gp rc la : Int32) (gi ro fr : Nat → Int32) : ∃ (k' g' : Nat) (gi' ro' fr' : Nat → Int32), m_D_run gp rc fc gi x1 x2 = some (nI g', nI k', gi') ∧ m_M_work ct la fa mn cs ro fr = some (nI k', ro', fr') ∧ k' ≤ 16 ∧ J k' g' gi' ro' := by
  obtain ⟨ro0, e0, h0⟩ := wk_zero (fa := fa) (mn := mn) (cs := cs) (ct := ct) la fr 16 0 (by omega) 40 (by omega) ro (fun p hp => absurd hp (Nat.not_lt_zero p))
  have hJ : J 0 0 gi ro0 := by
    refine ⟨by decide, Nat.zero_le _, fun _ => 0, fun p hp => ⟨h0 p hp, Nat.le_refl _, ?_, fun r h1 h2 => by omega⟩⟩
    rw [Nat.zero_testBit]
    rfl
  obtain ⟨k', g', gi', ro', fr', c1, c2, c3, c4⟩ := ded_loop hp hf 16 0 (by omega) 40 40 (by omega) (by omega) 0 gi ro0 fr hJ
  refine ⟨k', g', gi', ro', fr', ?_, ?_, c3, c4⟩
  · unfold m_D_run
    exact c1
  · unfold m_M_work
    rw [e0]
    exact c2
