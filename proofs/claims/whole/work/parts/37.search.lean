def fs1 {α : Type} (f : Nat → Option α) : Nat → Nat → Option α
  | 0, _ => none
  | d + 1, k => match f k with
    | some v => some v
    | none => fs1 f d (k + 1)
theorem fs1_0 {α : Type} (f : Nat → Option α) (k : Nat) : fs1 f 0 k = none := rfl
theorem fs1_s {α : Type} {f : Nat → Option α} {d k : Nat} {v : α} (h : f k = some v) : fs1 f (d + 1) k = some v := by
  unfold fs1
  rw [h]
theorem fs1_n {α : Type} {f : Nat → Option α} {d k : Nat} (h : f k = none) : fs1 f (d + 1) k = fs1 f d (k + 1) := by
  conv => lhs; unfold fs1
  rw [h]
def find1 (T : List Nat → Bool) : Nat → List Nat → Nat → Option (List Nat)
  | 0, l, _ => if T l = true then some l else none
  | m + 1, l, k => fs1 (fun c => find1 T m (l ++ [c]) (c + 1)) (27 - k) k
theorem mk1 (c : Nat) : mk [c] = bit c := by
  show bit c ||| nI 0 = bit c
  exact b_ext (fun i hi => by rw [b_or, b_n0, Bool.or_false])
theorem mk_app (l : List Nat) (c : Nat) : mk (l ++ [c]) = mk l ||| bit c := by
  induction l with
  | nil =>
    show bit c ||| nI 0 = nI 0 ||| bit c
    exact b_ext (fun i hi => by rw [b_or, b_or, Bool.or_comm])
  | cons a l ih =>
    show bit a ||| mk (l ++ [c]) = (bit a ||| mk l) ||| bit c
    rw [ih]
    exact b_ext (fun i hi => by rw [b_or, b_or, b_or, b_or, Bool.or_assoc])
def asc (l : List Nat) (k : Nat) : Prop := l.Pairwise (· < ·) ∧ ∀ c ∈ l, c < k
theorem asc_app {l : List Nat} {k c : Nat} (h : asc l k) (hc : k ≤ c) : asc (l ++ [c]) (c + 1) := by
  refine ⟨List.pairwise_append.mpr ⟨h.1, List.pairwise_singleton _ _, fun x hx y hy => ?_⟩, fun x hx => ?_⟩
  · have := h.2 x hx
    rw [List.mem_singleton] at hy
    omega
  · rcases List.mem_append.mp hx with hx | hx
    · have := h.2 x hx
      omega
    · rw [List.mem_singleton] at hx
      omega
theorem asc_nil (k : Nat) : asc [] k := ⟨List.Pairwise.nil, fun c hc => by simp at hc⟩
theorem asc_ok {l : List Nat} {k : Nat} (h : asc l k) (hk : k ≤ 27) (h1 : 1 ≤ l.length) (h3 : l.length ≤ 3) : okB l = true := by
  match l, h, h1, h3 with
  | [a], h, _, _ =>
    have := h.2 a (by simp)
    exact decide_eq_true (by omega)
  | [a, b], h, _, _ =>
    have e := h.1
    have := h.2 b (by simp)
    simp at e
    simp only [okB, Bool.and_eq_true, decide_eq_true_eq]
    omega
  | [a, b, c], h, _, _ =>
    have e := h.1
    have := h.2 c (by simp)
    simp at e
    simp only [okB, Bool.and_eq_true, decide_eq_true_eq]
    omega
  | _ :: _ :: _ :: _ :: _, _, _, h3 => simp at h3
theorem fs1_spec {α : Type} {f : Nat → Option α} {v : α} : ∀ {d k : Nat}, fs1 f d k = some v → ∃ i, k ≤ i ∧ i < k + d ∧ f i = some v
  | 0, k, h => by rw [fs1_0] at h; exact absurd h (by simp)
  | d + 1, k, h => by
    cases hf : f k with
    | some w => rw [fs1_s hf] at h; exact ⟨k, Nat.le_refl _, by omega, by rw [hf, h]⟩
    | none =>
      rw [fs1_n hf] at h
      obtain ⟨i, h1, h2, h3⟩ := fs1_spec (d := d) (k := k + 1) h
      exact ⟨i, by omega, by omega, h3⟩
theorem find1_ok {T : List Nat → Bool} : ∀ {m : Nat} {l : List Nat} {k : Nat} {l' : List Nat}, asc l k → k ≤ 27 → 1 ≤ l.length + m → l.length + m ≤ 3 → find1 T m l k = some l' → okB l' = true ∧ T l' = true
  | 0, l, k, l', h, hk, h1, h3, e => by
    unfold find1 at e
    by_cases ht : T l = true
    · rw [if_pos ht] at e
      rw [← Option.some.inj e]
      exact ⟨asc_ok h hk (by omega) (by omega), ht⟩
    · rw [if_neg ht] at e
      exact absurd e (by simp)
  | m + 1, l, k, l', h, hk, h1, h3, e => by
    unfold find1 at e
    obtain ⟨c, c1, c2, c3⟩ := fs1_spec e
    exact find1_ok (m := m) (asc_app h c1) (by omega) (by rw [List.length_append, List.length_singleton]; omega) (by rw [List.length_append, List.length_singleton]; omega) c3
def cres (Q : Option (List Nat)) (ct : Int32) (bd : Nat → Int32) (gp rc : Int32) (gi : Nat → Int32) (o : Option (List Nat)) : Option (Int32 × Int32 × (Nat → Int32) × Int32 × Int32 × (Nat → Int32)) := match o with
  | none => some (nI 0, ct, bd, gp, rc, gi)
  | some l => some (nI 1, (becm Q l bd).1, (becm Q l bd).2, gp, rc, gi)
section LB
variable {pl mi : Int32} {mk0 fa : Nat → Int32} {a b : Nat} {fc : Nat → Int64}
theorem lb_n (hM : RM pl mi mk0) (hfa : ∀ r, r < 2 → ∀ p, p < 16 → fa (16 * r + p) = bi ((if r = 0 then a else b).testBit p)) (hfc : ∀ c, c < 18 → ∀ t, t < 64 → bl (fc c) t = fLit a b c t) {Q : Option (List Nat)} (k1 : ∀ l ∈ Q, okB l = true) (ct : Int32) (bd : Nat → Int32) : ∀ m n, m < n → ∀ l k, asc l k → k ≤ 27 → 1 ≤ l.length + m → l.length + m ≤ 3 → ∀ (gp rc : Int32) (gi : Nat → Int32), ∃ (gp' rc' : Int32) (gi' : Nat → Int32), m_H_learnBody pl mi fc n ct bd gp rc gi (bo Q) (mk l) (nI k) (nI m) = cres Q ct bd gp' rc' gi' (find1 (tst pl mi fc Q) m l k) := by
  intro m
  induction m with
  | zero =>
    intro n hn l k h hk h1 h3 gp rc gi
    obtain ⟨n, rfl⟩ : ∃ n', n = n' + 1 := ⟨n - 1, by omega⟩
    obtain ⟨gp', rc', gi', e⟩ := tk_n hM hfa hfc k1 (asc_ok h hk (by omega) (by omega)) ct gp rc bd gi
    refine ⟨gp', rc', gi', ?_⟩
    unfold m_H_learnBody m_H_learnBody_b find1
    rw [if_neg (by decide), e]
    by_cases ht : tst pl mi fc Q l = true
    · rw [if_pos ht, if_pos ht, bs, if_pos (show isZ (nI 1) = true by decide)]
      rfl
    · rw [if_neg ht, if_neg ht, bs, if_pos (show isZ (nI 0) = true by decide)]
      rfl
  | succ m ih =>
    intro n hn l k h hk h1 h3 gp rc gi
    obtain ⟨n, rfl⟩ : ∃ n', n = n' + 1 := ⟨n - 1, by omega⟩
    have inner : ∀ d k', k' + d = 27 → k ≤ k' → ∀ n2, d < n2 → ∀ (gp rc : Int32) (gi : Nat → Int32), ∃ (gp' rc' : Int32) (gi' : Nat → Int32), m_H_learnBody_15 pl mi fc (m_H_learnBody pl mi fc n) n2 ct bd gp rc gi (bo Q) (mk l) (nI (m + 1)) (nI k') = cres Q ct bd gp' rc' gi' (fs1 (fun c => find1 (tst pl mi fc Q) m (l ++ [c]) (c + 1)) d k') := by
      intro d
      induction d with
      | zero =>
        intro k' hk' hkk n2 hn2 gp rc gi
        obtain ⟨n2, rfl⟩ : ∃ n', n2 = n' + 1 := ⟨n2 - 1, by omega⟩
        refine ⟨gp, rc, gi, ?_⟩
        conv => lhs; unfold m_H_learnBody_15
        rw [if_pos (by rw [ni_le (by decide) (by omega)]; omega), fs1_0]
        rfl
      | succ d ihd =>
        intro k' hk' hkk n2 hn2 gp rc gi
        obtain ⟨n2, rfl⟩ : ∃ n', n2 = n' + 1 := ⟨n2 - 1, by omega⟩
        obtain ⟨gp1, rc1, gi1, e1⟩ := ih n (by omega) (l ++ [k']) (k' + 1) (asc_app h hkk) (by omega) (by rw [List.length_append, List.length_singleton]; omega) (by rw [List.length_append, List.length_singleton]; omega) gp rc gi
        rw [mk_app] at e1
        cases hf : find1 (tst pl mi fc Q) m (l ++ [k']) (k' + 1) with
        | none =>
          obtain ⟨gp2, rc2, gi2, e2⟩ := ihd (k' + 1) (by omega) (by omega) n2 (by omega) gp1 rc1 gi1
          refine ⟨gp2, rc2, gi2, ?_⟩
          conv => lhs; unfold m_H_learnBody_15
          rw [if_neg (by rw [ni_le (by decide) (by omega)]; omega), nI_add, pk_sub (by omega), show m + 1 - 1 = m by omega, e1, hf, fs1_n (f := fun c => find1 (tst pl mi fc Q) m (l ++ [c]) (c + 1)) hf]
          unfold cres
          rw [bs]
          dsimp only
          rw [if_pos rfl]
          exact e2
        | some l' =>
          refine ⟨gp1, rc1, gi1, ?_⟩
          conv => lhs; unfold m_H_learnBody_15
          rw [if_neg (by rw [ni_le (by decide) (by omega)]; omega), nI_add, pk_sub (by omega), show m + 1 - 1 = m by omega, e1, hf, fs1_s (f := fun c => find1 (tst pl mi fc Q) m (l ++ [c]) (c + 1)) hf]
          unfold cres
          rw [bs]
          dsimp only
          rw [if_neg n10]
    obtain ⟨gp', rc', gi', e⟩ := inner (27 - k) k (by omega) (Nat.le_refl _) 40 (by omega) gp rc gi
    refine ⟨gp', rc', gi', ?_⟩
    conv => lhs; unfold m_H_learnBody
    unfold m_H_learnBody_b
    rw [if_pos (by rw [ni_lt (by decide) (by omega)]; omega), e]
    rfl
def hd (p : Nat) : Bool := hasX [p] && hasY [p]
def find2 (pl mi : Int32) (fc : Nat → Int64) (s p : Nat) : Option (Option (List Nat) × List Nat) := if hd p = true then (find1 (tst pl mi fc (some [p])) (s - 1) [] (if s = 2 then p + 1 else 0)).map (fun l => (some [p], l)) else none
def cres2 (ct : Int32) (bd : Nat → Int32) (gp rc : Int32) (gi : Nat → Int32) (o : Option (Option (List Nat) × List Nat)) : Option (Int32 × Int32 × (Nat → Int32) × Int32 × Int32 × (Nat → Int32)) := match o with
  | none => some (nI 0, ct, bd, gp, rc, gi)
  | some v => some (nI 1, (becm v.1 v.2 bd).1, (becm v.1 v.2 bd).2, gp, rc, gi)
theorem lt_n (hM : RM pl mi mk0) (hfa : ∀ r, r < 2 → ∀ p, p < 16 → fa (16 * r + p) = bi ((if r = 0 then a else b).testBit p)) (hfc : ∀ c, c < 18 → ∀ t, t < 64 → bl (fc c) t = fLit a b c t) (ct : Int32) (bd : Nat → Int32) {s : Nat} (hs : s = 2 ∨ s = 3) : ∀ d k, k + d = 27 → ∀ n, d < n → ∀ (gp rc : Int32) (gi : Nat → Int32), ∃ (gp' rc' : Int32) (gi' : Nat → Int32), m_H_learnTwoClauses_2 pl mi fc n ct bd gp rc gi (nI s) (nI k) = cres2 ct bd gp' rc' gi' (fs1 (find2 pl mi fc s) d k) := by
  intro d
  induction d with
  | zero =>
    intro k hk n hn gp rc gi
    obtain ⟨n, rfl⟩ : ∃ n', n = n' + 1 := ⟨n - 1, by omega⟩
    refine ⟨gp, rc, gi, ?_⟩
    conv => lhs; unfold m_H_learnTwoClauses_2
    rw [if_pos (by rw [ni_le (by decide) (by omega)]; omega), fs1_0]
    rfl
  | succ d ih =>
    intro k hk n hn gp rc gi
    obtain ⟨n, rfl⟩ : ∃ n', n = n' + 1 := ⟨n - 1, by omega⟩
    have hok : okB [k] = true := decide_eq_true (by omega)
    have hh := cl_head [k] hok
    rw [mk1] at hh
    have step : ∀ x, m_H_learnTwoClauses_2 pl mi fc (n + 1) ct bd gp rc gi (nI s) (nI k) = x ↔ m_H_learnTwoClauses_20 pl mi fc (m_H_learnTwoClauses_2 pl mi fc n) ct bd gp rc gi (nI s) (nI k) (nI (if s = 2 then k + 1 else 0)) = x := by
      intro x
      conv => lhs; lhs; unfold m_H_learnTwoClauses_2
      rw [if_neg (by rw [ni_le (by decide) (by omega)]; omega)]
      rcases hs with rfl | rfl
      · rw [if_pos rfl, if_pos rfl, nI_add]
      · rw [if_neg (by decide), if_neg (by decide)]
    cases hd2 : hd k
    · obtain ⟨gp2, rc2, gi2, e2⟩ := ih (k + 1) (by omega) n (by omega) gp rc gi
      refine ⟨gp2, rc2, gi2, ?_⟩
      rw [step]
      have hf : find2 pl mi fc s k = none := by unfold find2; rw [hd2, if_neg (by decide)]
      unfold m_H_learnTwoClauses_20 m_H_learnTwoClauses_47
      rw [hh, bs, fs1_n hf]
      unfold hd at hd2
      rw [hd2]
      dsimp only
      rw [if_pos (by decide), nI_add]
      exact e2
    · obtain ⟨gp1, rc1, gi1, e1⟩ := lb_n hM hfa hfc (Q := some [k]) (fun l h => by cases h; exact hok) ct bd (s - 1) 5 (by omega) [] (if s = 2 then k + 1 else 0) (asc_nil _) (by split <;> omega) (by simp; omega) (by simp; omega) gp rc gi
      rw [show bo (some [k]) = bit k from mk1 k, show mk [] = nI 0 from rfl] at e1
      cases hf : find1 (tst pl mi fc (some [k])) (s - 1) [] (if s = 2 then k + 1 else 0) with
      | none =>
        obtain ⟨gp2, rc2, gi2, e2⟩ := ih (k + 1) (by omega) n (by omega) gp1 rc1 gi1
        refine ⟨gp2, rc2, gi2, ?_⟩
        rw [step]
        have hf2 : find2 pl mi fc s k = none := by unfold find2; rw [hd2, if_pos rfl, hf]; rfl
        unfold m_H_learnTwoClauses_20 m_H_learnTwoClauses_47
        rw [hh, bs, fs1_n hf2]
        unfold hd at hd2
        rw [hd2]
        dsimp only
        rw [if_neg (by decide), pk_sub (by omega), e1, hf]
        unfold cres
        rw [bs]
        dsimp only
        rw [if_pos rfl, nI_add]
        exact e2
      | some l' =>
        refine ⟨gp1, rc1, gi1, ?_⟩
        rw [step]
        have hf2 : find2 pl mi fc s k = some (some [k], l') := by unfold find2; rw [hd2, if_pos rfl, hf]; rfl
        unfold m_H_learnTwoClauses_20 m_H_learnTwoClauses_47
        rw [hh, bs, fs1_s hf2]
        unfold hd at hd2
        rw [hd2]
        dsimp only
        rw [if_neg (by decide), pk_sub (by omega), e1, hf]
        unfold cres
        rw [bs]
        dsimp only
        rw [if_neg n10]
        rfl
end LB
