def cand (s p q r : Nat) : List Nat := if s = 1 then [p] else if s = 2 then [p, q] else [p, q, r]
def candT (T : List Nat → Bool) (s p q r : Nat) : Option (List Nat) := if T (cand s p q r) = true then some (cand s p q r) else none
def r0 (s q : Nat) : Nat := if s ≤ 2 then 26 else q + 1
def q0 (s p : Nat) : Nat := if s ≤ 1 then 26 else p + 1
def rowR (T : List Nat → Bool) (s p q : Nat) : Option (List Nat) := fs1 (candT T s p q) (27 - r0 s q) (r0 s q)
def rowQ (T : List Nat → Bool) (s p : Nat) : Option (List Nat) := fs1 (rowR T s p) (27 - q0 s p) (q0 s p)
abbrev RR : Type := Int32 × Int32 × Int32 × (Nat → Int32) × (Nat → Int32) × (Nat → Int32) × (Nat → Int32)
def rres {β : Type} (ct : Int32) (miss : Option RR) (la : Int32) (mn cs ro fr : Nat → Int32) (o : Option β) : Option RR := match o with
  | none => miss
  | some _ => some (nI 1, ct, la, mn, cs, ro, fr)
theorem cand_ok {s p q r : Nat} (hs : s = 1 ∨ s = 2 ∨ s = 3) (hp : p < 27) (hq : 1 < s → p < q ∧ q < 27) (hr : 2 < s → q < r ∧ r < 27) : okB (cand s p q r) = true := by
  unfold cand
  rcases hs with rfl | rfl | rfl
  · exact decide_eq_true hp
  · have := hq (by decide)
    rw [if_neg (by decide), if_pos rfl]
    simp only [okB, Bool.and_eq_true, decide_eq_true_eq]
    omega
  · have := hq (by decide)
    have := hr (by decide)
    rw [if_neg (by decide), if_neg (by decide)]
    simp only [okB, Bool.and_eq_true, decide_eq_true_eq]
    omega
theorem cand_ol {s p q r : Nat} (hs : s = 1 ∨ s = 2 ∨ s = 3) : ol (cand s p q r) 0 = nI p ∧ ol (cand s p q r) 1 = (if nI s ≤ nI 1 then (-1 : Int32) else nI q) ∧ ol (cand s p q r) 2 = (if nI s ≤ nI 2 then (-1 : Int32) else nI r) := by
  rcases hs with rfl | rfl | rfl
  · exact ⟨rfl, rfl, rfl⟩
  · exact ⟨rfl, rfl, rfl⟩
  · exact ⟨rfl, rfl, rfl⟩
section AL
variable {pl mi : Int32} {mk0 fa : Nat → Int32} {a b : Nat} {fc : Nat → Int64}
theorem al_r (hM : RM pl mi mk0) (hfa : ∀ r, r < 2 → ∀ p, p < 16 → fa (16 * r + p) = bi ((if r = 0 then a else b).testBit p)) (hfc : ∀ c, c < 18 → ∀ t, t < 64 → bl (fc c) t = fLit a b c t) {s p q : Nat} (hs : s = 1 ∨ s = 2 ∨ s = 3) (hp : p < 27) (hq : 1 < s → p < q ∧ q < 27) (K : Int32 → Int32 → (Nat → Int32) → (Nat → Int32) → (Nat → Int32) → (Nat → Int32) → Int32 → Int32 → Int32 → Option RR) : ∀ d r, r + d = 27 → (2 < s → q < r) → ∀ n, d < n → ∀ (la : Int32) (mn cs ro fr : Nat → Int32), ∃ (la' : Int32) (mn' cs' ro' fr' : Nat → Int32), m_M_alone_48 fa mk0 K n (nI 1) la mn cs ro fr (nI s) (nI p) (nI q) (nI r) = rres (nI 1) (K (nI 1) la' mn' cs' ro' fr' (nI s) (nI p) (nI q + nI 1)) la' mn' cs' ro' fr' (fs1 (candT (tst pl mi fc none) s p q) d r) ∧ ∀ l, fs1 (candT (tst pl mi fc none) s p q) d r = some l → rep [l] mn' cs' := by
  intro d
  induction d with
  | zero =>
    intro r hr hqr n hn la mn cs ro fr
    obtain ⟨n, rfl⟩ : ∃ n', n = n' + 1 := ⟨n - 1, by omega⟩
    refine ⟨la, mn, cs, ro, fr, ?_, fun l h => absurd h (by rw [fs1_0]; simp)⟩
    conv => lhs; unfold m_M_alone_48
    rw [if_pos (by rw [ni_le (by decide) (by omega)]; omega)]
    rfl
  | succ d ih =>
    intro r hr hqr n hn la mn cs ro fr
    obtain ⟨n, rfl⟩ : ∃ n', n = n' + 1 := ⟨n - 1, by omega⟩
    have hok := cand_ok (r := r) hs hp hq (fun h => ⟨hqr h, by omega⟩)
    obtain ⟨o0, o1, o2⟩ := cand_ol (p := p) (q := q) (r := r) hs
    obtain ⟨mn1, cs1, e1, f1, f2, f3, f4⟩ := set_n mn cs (show 0 < 2 by decide) hok
    have hrep : rep [cand s p q r] mn1 cs1 := by
      intro j hj
      have : j = 0 := by simpa using hj
      subst this
      exact ⟨f1, f3⟩
    have step : m_M_alone_48 fa mk0 K (n + 1) (nI 1) la mn cs ro fr (nI s) (nI p) (nI q) (nI r) = m_M_alone_79 fa mk0 (m_M_alone_48 fa mk0 K n) (nI 1) la mn cs ro fr (nI s) (nI p) (nI q) (nI r) (ol (cand s p q r) 2) (ol (cand s p q r) 1) (ol (cand s p q r) 0) (nI 0) := by
      conv => lhs; unfold m_M_alone_48
      unfold m_M_alone_68
      rw [if_neg (by rw [ni_le (by decide) (by omega)]; omega), o0, o1, o2]
      by_cases h1 : nI s ≤ nI 1
      · rw [if_pos h1, if_pos h1]
        by_cases h2 : nI s ≤ nI 2
        · rw [if_pos h2, if_pos h2]
        · rw [if_neg h2, if_neg h2]
      · rw [if_neg h1, if_neg h1]
        by_cases h2 : nI s ≤ nI 2
        · rw [if_pos h2, if_pos h2]
        · rw [if_neg h2, if_neg h2]
    rw [step]
    unfold m_M_alone_79 m_M_alone_98
    rw [e1, bs]
    dsimp only
    by_cases ht : tst pl mi fc none (cand s p q r) = true
    · have hc : candT (tst pl mi fc none) s p q r = some (cand s p q r) := by unfold candT; rw [if_pos ht]
      unfold tst at ht
      rw [Bool.and_eq_true] at ht
      obtain ⟨la1, ro1, fr1, e2⟩ := fit_r hM hfa hfc (Q1 := none) (Q2 := some (cand s p q r)) (fun l h => by simp at h) (fun l h => by cases h; exact hok) hrep la ro fr
      refine ⟨la1, mn1, cs1, ro1, fr1, ?_, fun l h => ?_⟩
      · rw [ht.1, bi_t, if_neg n10]
        have e3 : m_M_fits (nI 1) la fa mk0 mn1 cs1 ro fr = some (bi (phi pl mi fc (bo none) (bo (some (cand s p q r)))), la1, ro1, fr1) := e2
        rw [e3, bs]
        dsimp only
        rw [show bo (some (cand s p q r)) = mk (cand s p q r) from rfl, ht.2, bi_t, if_neg n10, fs1_s hc]
        rfl
      · rw [fs1_s hc] at h
        rw [← Option.some.inj h]
        exact hrep
    · have hc : candT (tst pl mi fc none) s p q r = none := by unfold candT; rw [if_neg ht]
      rw [fs1_n hc]
      have key : ∃ (la1 : Int32) (ro1 fr1 : Nat → Int32), (if bi (hasX (cand s p q r) && hasY (cand s p q r)) = nI 0 then m_M_alone_48 fa mk0 K n (nI 1) la mn1 cs1 ro fr (nI s) (nI p) (nI q) (nI r + nI 1) else (Option.bind (m_M_fits (nI 1) la fa mk0 mn1 cs1 ro fr) (fun v_90 => (if v_90.1 = (nI 0) then m_M_alone_48 fa mk0 K n (nI 1) v_90.2.1 mn1 cs1 v_90.2.2.1 v_90.2.2.2 (nI s) (nI p) (nI q) (nI r + nI 1) else some ((nI 1), (nI 1, v_90.2.1, mn1, cs1, v_90.2.2.1, v_90.2.2.2)))))) = m_M_alone_48 fa mk0 K n (nI 1) la1 mn1 cs1 ro1 fr1 (nI s) (nI p) (nI q) (nI (r + 1)) := by
        rw [nI_add]
        cases hh : (hasX (cand s p q r) && hasY (cand s p q r))
        · exact ⟨la, ro, fr, by rw [bi_f, if_pos rfl]⟩
        · obtain ⟨la1, ro1, fr1, e2⟩ := fit_r hM hfa hfc (Q1 := none) (Q2 := some (cand s p q r)) (fun l h => by simp at h) (fun l h => by cases h; exact hok) hrep la ro fr
          have e3 : m_M_fits (nI 1) la fa mk0 mn1 cs1 ro fr = some (bi (phi pl mi fc (bo none) (bo (some (cand s p q r)))), la1, ro1, fr1) := e2
          have hph : phi pl mi fc (bo none) (mk (cand s p q r)) = false := by
            unfold tst at ht
            rw [hh, Bool.true_and] at ht
            simpa using ht
          refine ⟨la1, ro1, fr1, ?_⟩
          rw [bi_t, if_neg n10, e3, bs]
          dsimp only
          rw [show bo (some (cand s p q r)) = mk (cand s p q r) from rfl, hph, bi_f, if_pos rfl]
      obtain ⟨la1, ro1, fr1, e2⟩ := key
      obtain ⟨la2, mn2, cs2, ro2, fr2, e3, h3⟩ := ih (r + 1) (by omega) (fun h => by have := hqr h; omega) n (by omega) la1 mn1 cs1 ro1 fr1
      exact ⟨la2, mn2, cs2, ro2, fr2, e2.trans e3, h3⟩
theorem al_q (hM : RM pl mi mk0) (hfa : ∀ r, r < 2 → ∀ p, p < 16 → fa (16 * r + p) = bi ((if r = 0 then a else b).testBit p)) (hfc : ∀ c, c < 18 → ∀ t, t < 64 → bl (fc c) t = fLit a b c t) {s p : Nat} (hs : s = 1 ∨ s = 2 ∨ s = 3) (hp : p < 27) (K : Int32 → Int32 → (Nat → Int32) → (Nat → Int32) → (Nat → Int32) → (Nat → Int32) → Int32 → Int32 → Option RR) : ∀ d q, q + d = 27 → (1 < s → p < q) → ∀ n, d < n → ∀ (la : Int32) (mn cs ro fr : Nat → Int32), ∃ (la' : Int32) (mn' cs' ro' fr' : Nat → Int32), m_M_alone_27 fa mk0 K n (nI 1) la mn cs ro fr (nI s) (nI p) (nI q) = rres (nI 1) (K (nI 1) la' mn' cs' ro' fr' (nI s) (nI p + nI 1)) la' mn' cs' ro' fr' (fs1 (rowR (tst pl mi fc none) s p) d q) ∧ ∀ l, fs1 (rowR (tst pl mi fc none) s p) d q = some l → rep [l] mn' cs' := by
  intro d
  induction d with
  | zero =>
    intro q hq hpq n hn la mn cs ro fr
    obtain ⟨n, rfl⟩ : ∃ n', n = n' + 1 := ⟨n - 1, by omega⟩
    refine ⟨la, mn, cs, ro, fr, ?_, fun l h => absurd h (by rw [fs1_0]; simp)⟩
    conv => lhs; unfold m_M_alone_27
    rw [if_pos (by rw [ni_le (by decide) (by omega)]; omega)]
    rfl
  | succ d ih =>
    intro q hq hpq n hn la mn cs ro fr
    obtain ⟨n, rfl⟩ : ∃ n', n = n' + 1 := ⟨n - 1, by omega⟩
    have hr0 : r0 s q ≤ 27 ∧ (2 < s → q < r0 s q) := by unfold r0; split <;> omega
    obtain ⟨la1, mn1, cs1, ro1, fr1, e1, h1⟩ := al_r hM hfa hfc hs hp (fun h => ⟨hpq h, by omega⟩) (m_M_alone_27 fa mk0 K n) (27 - r0 s q) (r0 s q) (by omega) hr0.2 40 (by omega) la mn cs ro fr
    have step : m_M_alone_27 fa mk0 K (n + 1) (nI 1) la mn cs ro fr (nI s) (nI p) (nI q) = m_M_alone_48 fa mk0 (m_M_alone_27 fa mk0 K n) 40 (nI 1) la mn cs ro fr (nI s) (nI p) (nI q) (nI (r0 s q)) := by
      conv => lhs; unfold m_M_alone_27
      unfold m_M_alone_46 r0
      rw [if_neg (by rw [ni_le (by decide) (by omega)]; omega)]
      by_cases h2 : s ≤ 2
      · rw [if_pos (by rw [ni_le (by omega) (by decide)]; exact h2), if_pos h2]
      · rw [if_neg (by rw [ni_le (by omega) (by decide)]; exact h2), if_neg h2, nI_add]
    rw [step, e1]
    cases hf : rowR (tst pl mi fc none) s p q with
    | none =>
      obtain ⟨la2, mn2, cs2, ro2, fr2, e2, h2⟩ := ih (q + 1) (by omega) (fun h => by have := hpq h; omega) n (by omega) la1 mn1 cs1 ro1 fr1
      refine ⟨la2, mn2, cs2, ro2, fr2, ?_, ?_⟩
      · rw [fs1_n hf]
        unfold rowR at hf
        rw [hf, ← e2, ← nI_add]
        rfl
      · rw [fs1_n hf]
        exact h2
    | some l =>
      refine ⟨la1, mn1, cs1, ro1, fr1, ?_, fun l' h => ?_⟩
      · rw [fs1_s hf]
        unfold rowR at hf
        rw [hf]
        rfl
      · rw [fs1_s hf] at h
        rw [← Option.some.inj h]
        exact h1 l hf
theorem al_p (hM : RM pl mi mk0) (hfa : ∀ r, r < 2 → ∀ p, p < 16 → fa (16 * r + p) = bi ((if r = 0 then a else b).testBit p)) (hfc : ∀ c, c < 18 → ∀ t, t < 64 → bl (fc c) t = fLit a b c t) {s : Nat} (hs : s = 1 ∨ s = 2 ∨ s = 3) : ∀ d p, p + d = 27 → ∀ n, d < n → ∀ (la : Int32) (mn cs ro fr : Nat → Int32), ∃ (la' : Int32) (mn' cs' ro' fr' : Nat → Int32), m_M_alone_7 fa mk0 n (nI 1) la mn cs ro fr (nI s) (nI p) = rres (nI 1) (some (nI 0, nI 1, la', mn', cs', ro', fr')) la' mn' cs' ro' fr' (fs1 (rowQ (tst pl mi fc none) s) d p) ∧ ∀ l, fs1 (rowQ (tst pl mi fc none) s) d p = some l → rep [l] mn' cs' := by
  intro d
  induction d with
  | zero =>
    intro p hp n hn la mn cs ro fr
    obtain ⟨n, rfl⟩ : ∃ n', n = n' + 1 := ⟨n - 1, by omega⟩
    refine ⟨la, mn, cs, ro, fr, ?_, fun l h => absurd h (by rw [fs1_0]; simp)⟩
    conv => lhs; unfold m_M_alone_7
    rw [if_pos (by rw [ni_le (by decide) (by omega)]; omega)]
    rfl
  | succ d ih =>
    intro p hp n hn la mn cs ro fr
    obtain ⟨n, rfl⟩ : ∃ n', n = n' + 1 := ⟨n - 1, by omega⟩
    have hq0 : q0 s p ≤ 27 ∧ (1 < s → p < q0 s p) := by unfold q0; split <;> omega
    obtain ⟨la1, mn1, cs1, ro1, fr1, e1, h1⟩ := al_q hM hfa hfc hs (show p < 27 by omega) (m_M_alone_7 fa mk0 n) (27 - q0 s p) (q0 s p) (by omega) hq0.2 40 (by omega) la mn cs ro fr
    have step : m_M_alone_7 fa mk0 (n + 1) (nI 1) la mn cs ro fr (nI s) (nI p) = m_M_alone_27 fa mk0 (m_M_alone_7 fa mk0 n) 40 (nI 1) la mn cs ro fr (nI s) (nI p) (nI (q0 s p)) := by
      conv => lhs; unfold m_M_alone_7
      unfold m_M_alone_26 q0
      rw [if_neg (by rw [ni_le (by decide) (by omega)]; omega)]
      by_cases h2 : s ≤ 1
      · rw [if_pos (by rw [ni_le (by omega) (by decide)]; exact h2), if_pos h2]
      · rw [if_neg (by rw [ni_le (by omega) (by decide)]; exact h2), if_neg h2, nI_add]
    rw [step, e1]
    cases hf : rowQ (tst pl mi fc none) s p with
    | none =>
      obtain ⟨la2, mn2, cs2, ro2, fr2, e2, h2⟩ := ih (p + 1) (by omega) n (by omega) la1 mn1 cs1 ro1 fr1
      refine ⟨la2, mn2, cs2, ro2, fr2, ?_, ?_⟩
      · rw [fs1_n hf]
        unfold rowQ at hf
        rw [hf, ← e2, ← nI_add]
        rfl
      · rw [fs1_n hf]
        exact h2
    | some l =>
      refine ⟨la1, mn1, cs1, ro1, fr1, ?_, fun l' h => ?_⟩
      · rw [fs1_s hf]
        unfold rowQ at hf
        rw [hf]
        rfl
      · rw [fs1_s hf] at h
        rw [← Option.some.inj h]
        exact h1 l hf
end AL
theorem fs1_1 {α : Type} (f : Nat → Option α) (k : Nat) : fs1 f 1 k = f k := by
  cases h : f k with
  | none => rw [fs1_n h, fs1_0]
  | some v => rw [fs1_s h]
/-- both searches for one clause -/
theorem find_eq (T : List Nat → Bool) {s : Nat} (hs : s = 1 ∨ s = 2 ∨ s = 3) : fs1 (rowQ T s) 27 0 = find1 T s [] 0 := by
  rcases hs with rfl | rfl | rfl
  · have e : rowQ T 1 = fun c => find1 T 0 ([] ++ [c]) (c + 1) := by
      funext p
      exact (fs1_1 _ _).trans (fs1_1 _ _)
    rw [e]
    rfl
  · have e : ∀ p, rowR T 2 p = fun c => find1 T 0 (([] ++ [p]) ++ [c]) (c + 1) := by
      intro p
      funext q
      exact fs1_1 _ _
    have e2 : rowQ T 2 = fun p => find1 T 1 ([] ++ [p]) (p + 1) := by
      funext p
      show fs1 (rowR T 2 p) (27 - (p + 1)) (p + 1) = _
      rw [e]
      rfl
    rw [e2]
    rfl
  · rfl
