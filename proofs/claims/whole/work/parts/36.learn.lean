def phi (pl mi : Int32) (fc : Nat → Int64) (x1 x2 : Int32) : Bool := match m_D_run_12 fc 40 (nI 0) (nI 0) (fun _ => nI 0) x1 x2 (nI 1) with
  | some v => decide (m_H_deductionFits pl mi v.1 = some (nI 1, ()))
  | none => false
theorem run_gi (fc : Nat → Int64) (x1 x2 : Int32) : ∀ (n : Nat) (g k : Int32) (gi gi' : Nat → Int32) (z : Int32) (v : Int32 × Int32 × (Nat → Int32)), m_D_run_12 fc n g k gi x1 x2 z = some v → ∃ v', m_D_run_12 fc n g k gi' x1 x2 z = some v' ∧ v'.1 = v.1 := by
  intro n
  induction n with
  | zero => intro g k gi gi' z v h; exact absurd h (by unfold m_D_run_12; simp)
  | succ n ih =>
    intro g k gi gi' z v h
    unfold m_D_run_12 at h ⊢
    by_cases h1 : nI 16 < z
    · rw [if_pos h1] at h ⊢
      exact ⟨_, rfl, by rw [← Option.some.inj h]⟩
    · rw [if_neg h1] at h ⊢
      obtain ⟨v1, e1, h⟩ := of_bind h
      obtain ⟨v2, e2, h⟩ := of_bind h
      rw [e1, bs, e2, bs]
      by_cases h2 : (v1.1 ||| v2.1) &&& (g ^^^ (-1 : Int32)) = nI 0
      · rw [if_pos h2] at h ⊢
        exact ⟨_, rfl, by rw [← Option.some.inj h]⟩
      · rw [if_neg h2] at h ⊢
        by_cases h3 : inR z 17 = true
        · rw [if_pos h3] at h ⊢
          exact ih _ _ _ _ _ _ h
        · rw [if_neg h3] at h
          exact absurd h (by simp)
def rep (P : List (List Nat)) (mn cs : Nat → Int32) : Prop := ∀ j, j < P.length → mn j = nI (P.getD j []).length ∧ ∀ k, k < (P.getD j []).length → cs (3 * j + k) = nI ((P.getD j []).getD k 0)
theorem rep_ex (P : List (List Nat)) (hP : ∀ j, j < P.length → (P.getD j []).length ≤ 3) : ∃ mn cs : Nat → Int32, rep P mn cs := by
  refine ⟨fun j => nI (P.getD j []).length, fun i => nI ((P.getD (i / 3) []).getD (i % 3) 0), fun j hj => ⟨rfl, fun k hk => ?_⟩⟩
  have := hP j hj
  dsimp only
  rw [show (3 * j + k) / 3 = j by omega, show (3 * j + k) % 3 = k by omega]
section FIT
variable {pl mi : Int32} {mk0 fa : Nat → Int32} {a b : Nat} {fc : Nat → Int64}
theorem fit_r (hM : RM pl mi mk0) (hfa : ∀ r, r < 2 → ∀ p, p < 16 → fa (16 * r + p) = bi ((if r = 0 then a else b).testBit p)) (hfc : ∀ c, c < 18 → ∀ t, t < 64 → bl (fc c) t = fLit a b c t) {Q1 Q2 : Option (List Nat)} (k1 : ∀ l ∈ Q1, okB l = true) (k2 : ∀ l ∈ Q2, okB l = true) {mn cs : Nat → Int32} (hP : rep (Q1.toList ++ Q2.toList) mn cs) (la : Int32) (ro fr : Nat → Int32) : ∃ (la' : Int32) (ro' fr' : Nat → Int32), m_M_fits (nI (Q1.toList ++ Q2.toList).length) la fa mk0 mn cs ro fr = some (bi (phi pl mi fc (bo Q1) (bo Q2)), la', ro', fr') := by
  have hok : ∀ j, j < (Q1.toList ++ Q2.toList).length → okB ((Q1.toList ++ Q2.toList).getD j []) = true := by
    intro j hj
    have hm : (Q1.toList ++ Q2.toList).getD j [] ∈ Q1.toList ++ Q2.toList := by
      have e : (Q1.toList ++ Q2.toList).getD j [] = (Q1.toList ++ Q2.toList)[j] := by rw [List.getD_eq_getElem?_getD, List.getElem?_eq_getElem hj]; rfl
      rw [e]
      exact List.getElem_mem hj
    rcases List.mem_append.mp hm with h | h
    · exact k1 _ (by simpa using h)
    · exact k2 _ (by simpa using h)
  have hlen : (Q1.toList ++ Q2.toList).length ≤ 2 := by
    rw [List.length_append]
    cases Q1 <;> cases Q2 <;> simp
  have hf : ∀ (g : Nat) (ro : Nat → Int32), (∀ p, p < 16 → (ro p ≤ nI 0 ↔ g.testBit p = false)) → ∀ p, p < 16 → m_M_follows (nI (Q1.toList ++ Q2.toList).length) fa mn cs ro (nI (p / 4)) (nI (p % 4)) = some (bi (fol (Q1.toList ++ Q2.toList) a b g (p / 4) (p % 4)), ()) := fun g ro hro p hp => fol_n hfa hro (by omega) (by omega) hlen (fun j hj => ⟨hok j hj, (hP j hj).1, (hP j hj).2⟩)
  obtain ⟨k, g, gi', ro', fr', c1, c2, c3, c4⟩ := s_ded (hp_of hfc k1 k2) hf (nI 0) (nI 0) la (fun _ => nI 0) ro fr
  obtain ⟨hg, r1, r2⟩ := J_ro c4 c3
  refine ⟨nI k, ro', fr', ?_⟩
  have e : phi pl mi fc (bo Q1) (bo Q2) = fitN pl mi g := by
    unfold phi
    unfold m_D_run at c1
    rw [c1]
    dsimp only
    rw [dfits hM hg]
    cases fitN pl mi g
    · exact decide_eq_false (by decide)
    · exact decide_eq_true (by decide)
  rw [e]
  unfold m_M_fits
  rw [c2, bs]
  dsimp only
  have := fits_loop (ct := nI (Q1.toList ++ Q2.toList).length) (la := nI k) (fa := fa) (mn := mn) (cs := cs) (fr := fr') hM r1 r2 16 0 (by omega) 40 (by omega) true
  rw [bi_t, Bool.true_and] at this
  exact this
theorem fit_c (hM : RM pl mi mk0) (hfa : ∀ r, r < 2 → ∀ p, p < 16 → fa (16 * r + p) = bi ((if r = 0 then a else b).testBit p)) (hfc : ∀ c, c < 18 → ∀ t, t < 64 → bl (fc c) t = fLit a b c t) {Q1 Q2 : Option (List Nat)} (k1 : ∀ l ∈ Q1, okB l = true) (k2 : ∀ l ∈ Q2, okB l = true) (gp rc : Int32) (gi : Nat → Int32) : ∃ (gp' rc' : Int32) (gi' : Nat → Int32), m_D_run gp rc fc gi (bo Q1) (bo Q2) = some (gp', rc', gi') ∧ m_H_deductionFits pl mi gp' = some (bi (phi pl mi fc (bo Q1) (bo Q2)), ()) := by
  have hok : ∀ j, j < (Q1.toList ++ Q2.toList).length → okB ((Q1.toList ++ Q2.toList).getD j []) = true := by
    intro j hj
    have hm : (Q1.toList ++ Q2.toList).getD j [] ∈ Q1.toList ++ Q2.toList := by
      have e : (Q1.toList ++ Q2.toList).getD j [] = (Q1.toList ++ Q2.toList)[j] := by rw [List.getD_eq_getElem?_getD, List.getElem?_eq_getElem hj]; rfl
      rw [e]
      exact List.getElem_mem hj
    rcases List.mem_append.mp hm with h | h
    · exact k1 _ (by simpa using h)
    · exact k2 _ (by simpa using h)
  have hlen : (Q1.toList ++ Q2.toList).length ≤ 2 := by
    rw [List.length_append]
    cases Q1 <;> cases Q2 <;> simp
  obtain ⟨mn, cs, hP⟩ := rep_ex (Q1.toList ++ Q2.toList) (fun j hj => (cl_len _ (hok j hj)).2)
  have hf : ∀ (g : Nat) (ro : Nat → Int32), (∀ p, p < 16 → (ro p ≤ nI 0 ↔ g.testBit p = false)) → ∀ p, p < 16 → m_M_follows (nI (Q1.toList ++ Q2.toList).length) fa mn cs ro (nI (p / 4)) (nI (p % 4)) = some (bi (fol (Q1.toList ++ Q2.toList) a b g (p / 4) (p % 4)), ()) := fun g ro hro p hp => fol_n hfa hro (by omega) (by omega) hlen (fun j hj => ⟨hok j hj, (hP j hj).1, (hP j hj).2⟩)
  obtain ⟨k, g, gi', ro', fr', c1, c2, c3, c4⟩ := s_ded (hp_of hfc k1 k2) hf gp rc (nI 0) gi (fun _ => nI 0) (fun _ => nI 0)
  obtain ⟨hg, r1, r2⟩ := J_ro c4 c3
  refine ⟨nI g, nI k, gi', c1, ?_⟩
  unfold m_D_run at c1
  obtain ⟨v', e1, e2⟩ := run_gi fc (bo Q1) (bo Q2) 40 (nI 0) (nI 0) gi (fun _ => nI 0) (nI 1) _ c1
  have e : phi pl mi fc (bo Q1) (bo Q2) = fitN pl mi g := by
    unfold phi
    rw [e1]
    dsimp only
    rw [e2, dfits hM hg]
    cases fitN pl mi g
    · exact decide_eq_false (by decide)
    · exact decide_eq_true (by decide)
  rw [e, dfits hM hg]
def becm (Q : Option (List Nat)) (l : List Nat) (bd : Nat → Int32) : Int32 × (Nat → Int32) := match Q with
  | none => (nI 1, upd (upd bd 0 (mk l)) 1 (nI 0))
  | some l0 => (nI 2, upd (upd bd 0 (mk l0)) 1 (mk l))
theorem bec_n (ct : Int32) (bd : Nat → Int32) {Q : Option (List Nat)} (k1 : ∀ l ∈ Q, okB l = true) (l : List Nat) : m_P_become ct bd (bo Q) (mk l) = some (becm Q l bd) := by
  unfold m_P_become m_P_become_10 m_P_become_27 m_P_become_42
  cases Q with
  | none =>
    rw [show bo none = nI 0 from rfl, if_pos rfl, if_pos rfl, if_pos (by decide), if_pos rfl, if_pos (by decide)]
    rfl
  | some l0 =>
    have hn := cl_ne l0 (k1 l0 rfl)
    rw [show bo (some l0) = mk l0 from rfl, if_neg hn, if_neg hn, if_pos (by decide), if_neg hn, if_pos (by decide)]
    rfl
def tst (pl mi : Int32) (fc : Nat → Int64) (Q : Option (List Nat)) (l : List Nat) : Bool := (hasX l && hasY l) && phi pl mi fc (bo Q) (mk l)
theorem tk_n (hM : RM pl mi mk0) (hfa : ∀ r, r < 2 → ∀ p, p < 16 → fa (16 * r + p) = bi ((if r = 0 then a else b).testBit p)) (hfc : ∀ c, c < 18 → ∀ t, t < 64 → bl (fc c) t = fLit a b c t) {Q : Option (List Nat)} (k1 : ∀ l ∈ Q, okB l = true) {l : List Nat} (hl : okB l = true) (ct gp rc : Int32) (bd gi : Nat → Int32) : ∃ (gp' rc' : Int32) (gi' : Nat → Int32), m_H_takeIfFitting pl mi ct bd gp rc fc gi (bo Q) (mk l) = if tst pl mi fc Q l = true then some (nI 1, (becm Q l bd).1, (becm Q l bd).2, gp', rc', gi') else some (nI 0, ct, bd, gp', rc', gi') := by
  unfold m_H_takeIfFitting tst
  rw [cl_head l hl, bs]
  cases hh : (hasX l && hasY l)
  · refine ⟨gp, rc, gi, ?_⟩
    rw [if_pos (by decide), Bool.false_and, if_neg (by decide)]
  · obtain ⟨gp', rc', gi', e1, e2⟩ := fit_c hM hfa hfc k1 (Q2 := some l) (fun l' h => by cases h; exact hl) gp rc gi
    refine ⟨gp', rc', gi', ?_⟩
    rw [show bo (some l) = mk l from rfl] at e1 e2
    rw [if_neg (by decide), e1, bs]
    dsimp only
    rw [e2, bs, bec_n ct bd k1 l]
    dsimp only
    cases phi pl mi fc (bo Q) (mk l)
    · rw [bi_f, if_pos rfl]; rfl
    · rw [bi_t, if_neg n10]; rfl
end FIT
