def cand2 (s q r : Nat) : List Nat := if s = 2 then [q] else [q, r]
def candP (T : Nat → List Nat → Bool) (s p q r : Nat) : Option (Option (List Nat) × List Nat) := if (hd p && T p (cand2 s q r)) = true then some (some [p], cand2 s q r) else none
def q2 (s p : Nat) : Nat := if s ≤ 2 then p + 1 else 0
def rowP (T : Nat → List Nat → Bool) (s p q : Nat) : Option (Option (List Nat) × List Nat) := fs1 (candP T s p q) (27 - r0 s q) (r0 s q)
def rowT (T : Nat → List Nat → Bool) (s p : Nat) : Option (Option (List Nat) × List Nat) := fs1 (rowP T s p) (27 - q2 s p) (q2 s p)
theorem cand2_ok {s q r : Nat} (hs : s = 2 ∨ s = 3) (hq : q < 27) (hr : 2 < s → q < r ∧ r < 27) : okB (cand2 s q r) = true := by
  unfold cand2
  rcases hs with rfl | rfl
  · exact decide_eq_true hq
  · have := hr (by decide)
    rw [if_neg (by decide)]
    simp only [okB, Bool.and_eq_true, decide_eq_true_eq]
    omega
theorem cand2_ol {s q r : Nat} (hs : s = 2 ∨ s = 3) : ol (cand2 s q r) 0 = nI q ∧ ol (cand2 s q r) 1 = (if nI s ≤ nI 2 then (-1 : Int32) else nI r) ∧ ol (cand2 s q r) 2 = (-1 : Int32) := by
  rcases hs with rfl | rfl
  · exact ⟨rfl, rfl, rfl⟩
  · exact ⟨rfl, rfl, rfl⟩
section PA
variable {pl mi : Int32} {mk0 fa : Nat → Int32} {a b : Nat} {fc : Nat → Int64}
theorem pa_r (hM : RM pl mi mk0) (hfa : ∀ r, r < 2 → ∀ p, p < 16 → fa (16 * r + p) = bi ((if r = 0 then a else b).testBit p)) (hfc : ∀ c, c < 18 → ∀ t, t < 64 → bl (fc c) t = fLit a b c t) {s p q : Nat} (hs : s = 2 ∨ s = 3) (hp : p < 27) (hq : q < 27) (K : Int32 → Int32 → (Nat → Int32) → (Nat → Int32) → (Nat → Int32) → (Nat → Int32) → Int32 → Int32 → Int32 → Option RR) : ∀ d r, r + d = 27 → (2 < s → q < r) → ∀ n, d < n → ∀ (la : Int32) (mn cs ro fr : Nat → Int32), ∃ (la' : Int32) (mn' cs' ro' fr' : Nat → Int32), m_M_pair_47 fa mk0 K n (nI 2) la mn cs ro fr (nI s) (nI p) (nI q) (nI r) = rres (nI 2) (K (nI 2) la' mn' cs' ro' fr' (nI s) (nI p) (nI q + nI 1)) la' mn' cs' ro' fr' (fs1 (candP (fun p => tst pl mi fc (some [p])) s p q) d r) ∧ ∀ v, fs1 (candP (fun p => tst pl mi fc (some [p])) s p q) d r = some v → rep (v.1.toList ++ [v.2]) mn' cs' := by
  intro d
  induction d with
  | zero =>
    intro r hr hqr n hn la mn cs ro fr
    obtain ⟨n, rfl⟩ : ∃ n', n = n' + 1 := ⟨n - 1, by omega⟩
    refine ⟨la, mn, cs, ro, fr, ?_, fun l h => absurd h (by rw [fs1_0]; simp)⟩
    conv => lhs; unfold m_M_pair_47
    rw [if_pos (by rw [ni_le (by decide) (by omega)]; omega)]
    rfl
  | succ d ih =>
    intro r hr hqr n hn la mn cs ro fr
    obtain ⟨n, rfl⟩ : ∃ n', n = n' + 1 := ⟨n - 1, by omega⟩
    have hok1 : okB [p] = true := decide_eq_true hp
    have hok := cand2_ok (r := r) hs hq (fun h => ⟨hqr h, by omega⟩)
    obtain ⟨o0, o1, o2⟩ := cand2_ol (q := q) (r := r) hs
    obtain ⟨mn0, cs0, e0, g1, g2, g3, g4⟩ := set_n mn cs (show 0 < 2 by decide) hok1
    obtain ⟨mn1, cs1, e1, f1, f2, f3, f4⟩ := set_n mn0 cs0 (show 1 < 2 by decide) hok
    have hrep : rep ((some [p]).toList ++ [cand2 s q r]) mn1 cs1 := by
      intro j hj
      have hj : j < 2 := by simpa using hj
      rcases (show j = 0 ∨ j = 1 by omega) with rfl | rfl
      · refine ⟨(f2 0 (by decide)).trans g1, fun k hk => ?_⟩
        have hk0 : k < 1 := by simpa using hk
        rw [f4 _ (Or.inl (by omega))]
        exact g3 k (by simpa using hk)
      · exact ⟨f1, f3⟩
    have step : m_M_pair_47 fa mk0 K (n + 1) (nI 2) la mn cs ro fr (nI s) (nI p) (nI q) (nI r) = m_M_pair_78 fa mk0 (m_M_pair_47 fa mk0 K n) (nI 2) la mn0 cs0 ro fr (nI s) (nI p) (nI q) (nI r) (bi (hd p)) (ol (cand2 s q r) 1) (ol (cand2 s q r) 0) (nI 1) := by
      rw [show ol [p] 0 = nI p from rfl, show ol [p] 1 = (-1 : Int32) from rfl, show ol [p] 2 = (-1 : Int32) from rfl] at e0
      conv => lhs; unfold m_M_pair_47
      rw [if_neg (by rw [ni_le (by decide) (by omega)]; omega), e0, bs, o0, o1]
      by_cases h2 : nI s ≤ nI 2
      · rw [if_pos h2, if_pos h2]; rfl
      · rw [if_neg h2, if_neg h2]; rfl
    rw [o2] at e1
    rw [step]
    unfold m_M_pair_78 m_M_pair_103
    rw [e1, bs]
    dsimp only
    by_cases ht : (hd p && tst pl mi fc (some [p]) (cand2 s q r)) = true
    · have hc : candP (fun p => tst pl mi fc (some [p])) s p q r = some (some [p], cand2 s q r) := by unfold candP; rw [if_pos ht]
      unfold tst at ht
      rw [Bool.and_eq_true, Bool.and_eq_true] at ht
      obtain ⟨la1, ro1, fr1, e2⟩ := fit_r hM hfa hfc (Q1 := some [p]) (Q2 := some (cand2 s q r)) (fun l h => by cases h; exact hok1) (fun l h => by cases h; exact hok) hrep la ro fr
      refine ⟨la1, mn1, cs1, ro1, fr1, ?_, fun v h => ?_⟩
      · rw [ht.1, bi_t, if_neg n10, ht.2.1, bi_t, if_neg n10]
        have e3 : m_M_fits (nI 2) la fa mk0 mn1 cs1 ro fr = some (bi (phi pl mi fc (bo (some [p])) (mk (cand2 s q r))), la1, ro1, fr1) := e2
        rw [e3, bs]
        dsimp only
        rw [ht.2.2, bi_t, if_neg n10, fs1_s hc]
        rfl
      · rw [fs1_s hc] at h
        rw [← Option.some.inj h]
        exact hrep
    · have hc : candP (fun p => tst pl mi fc (some [p])) s p q r = none := by unfold candP; rw [if_neg ht]
      rw [fs1_n hc]
      have key : ∃ (la1 : Int32) (ro1 fr1 : Nat → Int32), (if bi (hd p) = nI 0 then m_M_pair_47 fa mk0 K n (nI 2) la mn1 cs1 ro fr (nI s) (nI p) (nI q) (nI r + nI 1) else if bi (hasX (cand2 s q r) && hasY (cand2 s q r)) = nI 0 then m_M_pair_47 fa mk0 K n (nI 2) la mn1 cs1 ro fr (nI s) (nI p) (nI q) (nI r + nI 1) else (Option.bind (m_M_fits (nI 2) la fa mk0 mn1 cs1 ro fr) (fun v_90 => (if v_90.1 = (nI 0) then m_M_pair_47 fa mk0 K n (nI 2) v_90.2.1 mn1 cs1 v_90.2.2.1 v_90.2.2.2 (nI s) (nI p) (nI q) (nI r + nI 1) else some ((nI 1), (nI 2, v_90.2.1, mn1, cs1, v_90.2.2.1, v_90.2.2.2)))))) = m_M_pair_47 fa mk0 K n (nI 2) la1 mn1 cs1 ro1 fr1 (nI s) (nI p) (nI q) (nI (r + 1)) := by
        rw [nI_add]
        cases hh0 : hd p
        · exact ⟨la, ro, fr, by rw [bi_f, if_pos rfl]⟩
        cases hh : (hasX (cand2 s q r) && hasY (cand2 s q r))
        · exact ⟨la, ro, fr, by rw [bi_t, if_neg n10, bi_f, if_pos rfl]⟩
        · obtain ⟨la1, ro1, fr1, e2⟩ := fit_r hM hfa hfc (Q1 := some [p]) (Q2 := some (cand2 s q r)) (fun l h => by cases h; exact hok1) (fun l h => by cases h; exact hok) hrep la ro fr
          have e3 : m_M_fits (nI 2) la fa mk0 mn1 cs1 ro fr = some (bi (phi pl mi fc (bo (some [p])) (mk (cand2 s q r))), la1, ro1, fr1) := e2
          have hph : phi pl mi fc (bo (some [p])) (mk (cand2 s q r)) = false := by
            unfold tst at ht
            rw [hh0, hh, Bool.true_and, Bool.true_and] at ht
            simpa using ht
          refine ⟨la1, ro1, fr1, ?_⟩
          rw [bi_t, if_neg n10, if_neg n10, e3, bs]
          dsimp only
          rw [hph, bi_f, if_pos rfl]
      obtain ⟨la1, ro1, fr1, e2⟩ := key
      obtain ⟨la2, mn2, cs2, ro2, fr2, e3, h3⟩ := ih (r + 1) (by omega) (fun h => by have := hqr h; omega) n (by omega) la1 mn1 cs1 ro1 fr1
      exact ⟨la2, mn2, cs2, ro2, fr2, e2.trans e3, h3⟩
theorem pa_q (hM : RM pl mi mk0) (hfa : ∀ r, r < 2 → ∀ p, p < 16 → fa (16 * r + p) = bi ((if r = 0 then a else b).testBit p)) (hfc : ∀ c, c < 18 → ∀ t, t < 64 → bl (fc c) t = fLit a b c t) {s p : Nat} (hs : s = 2 ∨ s = 3) (hp : p < 27) (K : Int32 → Int32 → (Nat → Int32) → (Nat → Int32) → (Nat → Int32) → (Nat → Int32) → Int32 → Int32 → Option RR) : ∀ d q, q + d = 27 → ∀ n, d < n → ∀ (la : Int32) (mn cs ro fr : Nat → Int32), ∃ (la' : Int32) (mn' cs' ro' fr' : Nat → Int32), m_M_pair_26 fa mk0 K n (nI 2) la mn cs ro fr (nI s) (nI p) (nI q) = rres (nI 2) (K (nI 2) la' mn' cs' ro' fr' (nI s) (nI p + nI 1)) la' mn' cs' ro' fr' (fs1 (rowP (fun p => tst pl mi fc (some [p])) s p) d q) ∧ ∀ v, fs1 (rowP (fun p => tst pl mi fc (some [p])) s p) d q = some v → rep (v.1.toList ++ [v.2]) mn' cs' := by
  intro d
  induction d with
  | zero =>
    intro q hq n hn la mn cs ro fr
    obtain ⟨n, rfl⟩ : ∃ n', n = n' + 1 := ⟨n - 1, by omega⟩
    refine ⟨la, mn, cs, ro, fr, ?_, fun l h => absurd h (by rw [fs1_0]; simp)⟩
    conv => lhs; unfold m_M_pair_26
    rw [if_pos (by rw [ni_le (by decide) (by omega)]; omega)]
    rfl
  | succ d ih =>
    intro q hq n hn la mn cs ro fr
    obtain ⟨n, rfl⟩ : ∃ n', n = n' + 1 := ⟨n - 1, by omega⟩
    have hr0 : r0 s q ≤ 27 ∧ (2 < s → q < r0 s q) := by unfold r0; split <;> omega
    obtain ⟨la1, mn1, cs1, ro1, fr1, e1, h1⟩ := pa_r hM hfa hfc hs hp (show q < 27 by omega) (m_M_pair_26 fa mk0 K n) (27 - r0 s q) (r0 s q) (by omega) hr0.2 40 (by omega) la mn cs ro fr
    have step : m_M_pair_26 fa mk0 K (n + 1) (nI 2) la mn cs ro fr (nI s) (nI p) (nI q) = m_M_pair_47 fa mk0 (m_M_pair_26 fa mk0 K n) 40 (nI 2) la mn cs ro fr (nI s) (nI p) (nI q) (nI (r0 s q)) := by
      conv => lhs; unfold m_M_pair_26
      unfold m_M_pair_45 r0
      rw [if_neg (by rw [ni_le (by decide) (by omega)]; omega)]
      by_cases h2 : s ≤ 2
      · rw [if_pos (by rw [ni_le (by omega) (by decide)]; exact h2), if_pos h2]
      · rw [if_neg (by rw [ni_le (by omega) (by decide)]; exact h2), if_neg h2, nI_add]
    rw [step, e1]
    cases hf : rowP (fun p => tst pl mi fc (some [p])) s p q with
    | none =>
      obtain ⟨la2, mn2, cs2, ro2, fr2, e2, h2⟩ := ih (q + 1) (by omega) n (by omega) la1 mn1 cs1 ro1 fr1
      refine ⟨la2, mn2, cs2, ro2, fr2, ?_, ?_⟩
      · rw [fs1_n hf]
        unfold rowP at hf
        rw [hf, ← e2, ← nI_add]
        rfl
      · rw [fs1_n hf]
        exact h2
    | some l =>
      refine ⟨la1, mn1, cs1, ro1, fr1, ?_, fun l' h => ?_⟩
      · rw [fs1_s hf]
        unfold rowP at hf
        rw [hf]
        rfl
      · rw [fs1_s hf] at h
        rw [← Option.some.inj h]
        exact h1 l hf
theorem pa_p (hM : RM pl mi mk0) (hfa : ∀ r, r < 2 → ∀ p, p < 16 → fa (16 * r + p) = bi ((if r = 0 then a else b).testBit p)) (hfc : ∀ c, c < 18 → ∀ t, t < 64 → bl (fc c) t = fLit a b c t) {s : Nat} (hs : s = 2 ∨ s = 3) : ∀ d p, p + d = 27 → ∀ n, d < n → ∀ (la : Int32) (mn cs ro fr : Nat → Int32), ∃ (la' : Int32) (mn' cs' ro' fr' : Nat → Int32), m_M_pair_7 fa mk0 n (nI 2) la mn cs ro fr (nI s) (nI p) = rres (nI 2) (some (nI 0, nI 2, la', mn', cs', ro', fr')) la' mn' cs' ro' fr' (fs1 (rowT (fun p => tst pl mi fc (some [p])) s) d p) ∧ ∀ v, fs1 (rowT (fun p => tst pl mi fc (some [p])) s) d p = some v → rep (v.1.toList ++ [v.2]) mn' cs' := by
  intro d
  induction d with
  | zero =>
    intro p hp n hn la mn cs ro fr
    obtain ⟨n, rfl⟩ : ∃ n', n = n' + 1 := ⟨n - 1, by omega⟩
    refine ⟨la, mn, cs, ro, fr, ?_, fun l h => absurd h (by rw [fs1_0]; simp)⟩
    conv => lhs; unfold m_M_pair_7
    rw [if_pos (by rw [ni_le (by decide) (by omega)]; omega)]
    rfl
  | succ d ih =>
    intro p hp n hn la mn cs ro fr
    obtain ⟨n, rfl⟩ : ∃ n', n = n' + 1 := ⟨n - 1, by omega⟩
    have hq0 : q2 s p ≤ 27 := by unfold q2; split <;> omega
    obtain ⟨la1, mn1, cs1, ro1, fr1, e1, h1⟩ := pa_q hM hfa hfc hs (show p < 27 by omega) (m_M_pair_7 fa mk0 n) (27 - q2 s p) (q2 s p) (by omega) 40 (by omega) la mn cs ro fr
    have step : m_M_pair_7 fa mk0 (n + 1) (nI 2) la mn cs ro fr (nI s) (nI p) = m_M_pair_26 fa mk0 (m_M_pair_7 fa mk0 n) 40 (nI 2) la mn cs ro fr (nI s) (nI p) (nI (q2 s p)) := by
      conv => lhs; unfold m_M_pair_7
      unfold m_M_pair_25 q2
      rw [if_neg (by rw [ni_le (by decide) (by omega)]; omega)]
      by_cases h2 : s ≤ 2
      · rw [if_pos (by rw [ni_le (by omega) (by decide)]; exact h2), if_pos h2, nI_add]
      · rw [if_neg (by rw [ni_le (by omega) (by decide)]; exact h2), if_neg h2]
    rw [step, e1]
    cases hf : rowT (fun p => tst pl mi fc (some [p])) s p with
    | none =>
      obtain ⟨la2, mn2, cs2, ro2, fr2, e2, h2⟩ := ih (p + 1) (by omega) n (by omega) la1 mn1 cs1 ro1 fr1
      refine ⟨la2, mn2, cs2, ro2, fr2, ?_, ?_⟩
      · rw [fs1_n hf]
        unfold rowT at hf
        rw [hf, ← e2, ← nI_add]
        rfl
      · rw [fs1_n hf]
        exact h2
    | some l =>
      refine ⟨la1, mn1, cs1, ro1, fr1, ?_, fun l' h => ?_⟩
      · rw [fs1_s hf]
        unfold rowT at hf
        rw [hf]
        rfl
      · rw [fs1_s hf] at h
        rw [← Option.some.inj h]
        exact h1 l hf
end PA
theorem map_fs {α β : Type} (f : Nat → Option α) (g : α → β) : ∀ d k, (fs1 f d k).map g = fs1 (fun c => (f c).map g) d k
  | 0, k => rfl
  | d + 1, k => by
    cases h : f k with
    | none => rw [fs1_n h, fs1_n (f := fun c => (f c).map g) (by show (f k).map g = none; rw [h]; rfl), map_fs f g d (k + 1)]
    | some v => rw [fs1_s h, fs1_s (f := fun c => (f c).map g) (v := g v) (by show (f k).map g = _; rw [h]; rfl)]; rfl
theorem fs1_no {α : Type} {f : Nat → Option α} (h : ∀ k, f k = none) : ∀ d k, fs1 f d k = none
  | 0, k => rfl
  | d + 1, k => by rw [fs1_n (h k)]; exact fs1_no h d (k + 1)
/-- both searches for two clauses -/
theorem find2_eq (pl mi : Int32) (fc : Nat → Int64) {s : Nat} (hs : s = 2 ∨ s = 3) : rowT (fun p => tst pl mi fc (some [p])) s = find2 pl mi fc s := by
  funext p
  unfold rowT find2
  cases hh : hd p
  · have e : ∀ q r, candP (fun p => tst pl mi fc (some [p])) s p q r = none := by
      intro q r
      unfold candP
      rw [hh, Bool.false_and, if_neg (by decide)]
    rw [if_neg (by decide)]
    exact fs1_no (fun q => fs1_no (fun r => e q r) _ _) _ _
  · have e : ∀ q r, candP (fun p => tst pl mi fc (some [p])) s p q r = (if tst pl mi fc (some [p]) (cand2 s q r) = true then some (cand2 s q r) else none).map (fun l => (some [p], l)) := by
      intro q r
      unfold candP
      rw [hh, Bool.true_and]
      by_cases ht : tst pl mi fc (some [p]) (cand2 s q r) = true
      · rw [if_pos ht, if_pos ht]; rfl
      · rw [if_neg ht, if_neg ht]; rfl
    rw [if_pos rfl]
    rcases hs with rfl | rfl
    · have e2 : rowP (fun p => tst pl mi fc (some [p])) 2 p = fun q => (find1 (tst pl mi fc (some [p])) 0 ([] ++ [q]) (q + 1)).map (fun l => (some [p], l)) := by
        funext q
        exact (fs1_1 _ _).trans (e q 26)
      rw [e2, if_pos rfl]
      exact (map_fs _ _ _ _).symm
    · have e2 : rowP (fun p => tst pl mi fc (some [p])) 3 p = fun q => (find1 (tst pl mi fc (some [p])) 1 ([] ++ [q]) (q + 1)).map (fun l => (some [p], l)) := by
        funext q
        have e3 : candP (fun p => tst pl mi fc (some [p])) 3 p q = fun r => (find1 (tst pl mi fc (some [p])) 0 (([] ++ [q]) ++ [r]) (r + 1)).map (fun l => (some [p], l)) := by
          funext r
          exact e q r
        unfold rowP
        rw [e3]
        exact (map_fs _ _ _ _).symm
      rw [e2, if_neg (by decide)]
      exact (map_fs _ _ _ _).symm
