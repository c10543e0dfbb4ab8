-- numbers: rows for simp
theorem inR_n {k n : Nat} (hk : k < 2147483648) : inR (nI k) n = decide (k < n) := by
  unfold inR
  rw [nI_toInt hk]
  have h0 : decide ((0 : Int) ≤ (k : Int)) = true := decide_eq_true (Int.natCast_nonneg k)
  rw [h0, Bool.true_and]
  exact decide_eq_decide.mpr Int.ofNat_lt
theorem irm_n {a d : Nat} (ha : a < 2147483648) (h0 : 0 < d) (hd : d < 2147483648) : irm (nI a) (nI d) = nI (a % d) := pk_rem ha h0 hd
theorem isC_n {q : Nat} (hq : q < 65536) : isC (nI q) = true := by
  rw [isC_iff, nI_toInt (by omega)]
  omega
theorem ni_lt {a b : Nat} (ha : a < 2147483648) (hb : b < 2147483648) : (nI a < nI b) = (a < b) := propext (nI_ltI ha hb)
theorem ni_le {a b : Nat} (ha : a < 2147483648) (hb : b < 2147483648) : (nI a ≤ nI b) = (a ≤ b) := propext (nI_leI ha hb)
theorem ni_eq {a b : Nat} (ha : a < 2147483648) (hb : b < 2147483648) : (nI a = nI b) = (a = b) := propext (nI_eq ha hb)
theorem ix_0 {x : Int32} (h : x < nI 0) {k : Nat} (hk : k < 2147483648) : ¬ x = nI k := by
  rintro rfl
  rw [ni_lt hk (by decide)] at h
  omega
theorem ix_n {x : Int32} {n k : Nat} (h : nI n ≤ x) (hk : k < n) (hn : n < 2147483648) : ¬ x = nI k := by
  rintro rfl
  rw [ni_le hn (by omega)] at h
  omega
theorem ix_nn {x : Int32} {n : Nat} (h : nI n ≤ x) (hn : n < 2147483648) : ¬ x < nI 0 := by
  intro h2
  have a1 := Int32.le_iff_toInt_le.mp h
  have a2 := Int32.lt_iff_toInt_lt.mp h2
  rw [nI_toInt hn] at a1
  rw [nI_toInt (by decide)] at a2
  omega
theorem ix_lt {x : Int32} {n k : Nat} (h : nI n ≤ x) (hk : k ≤ n) (hn : n < 2147483648) : nI k ≤ x := by
  have a1 := Int32.le_iff_toInt_le.mp h
  rw [nI_toInt hn] at a1
  refine Int32.le_iff_toInt_le.mpr ?_
  rw [nI_toInt (by omega)]
  omega
theorem ix (x : Int32) {n : Nat} (hn : n < 2147483648) : x < nI 0 ∨ nI n ≤ x ∨ ∃ j : Nat, j < n ∧ x = nI j := pk_ix x hn
-- the line
def RL (len : Int32) (ty : Nat → Int32) (len2 : Int32) (ln : Nat → Int32) : Prop := ∃ n : Nat, n ≤ 32 ∧ len = nI n ∧ len2 = nI n ∧ ∀ j, j < n → ty j = ln j ∧ ∃ c : Nat, 32 ≤ c ∧ c ≤ 126 ∧ ln j = nI c
theorem s_key {len len2 : Int32} {ty ln : Nat → Int32} (h : RL len ty len2 ln) {x : Int32} (hx : isC x = true) :
    ∃ (r a c : Int32) (b d : Nat → Int32), m_H_key len ty x = some (r, a, b) ∧ m_M_key len2 ln x = some (r, c, d) ∧ RL a b c d := by
  obtain ⟨n, hn, rfl, rfl, hj⟩ := h
  obtain ⟨q, hq, rfl⟩ := isC_nI hx
  have hq2 : q < 2147483648 := by omega
  unfold m_H_key m_L_add m_M_key
  rcases Nat.lt_or_ge q 32 with h1 | h1
  · refine ⟨nI 0, nI n, nI n, ty, ln, ?_, ?_, n, hn, rfl, rfl, hj⟩
    · simp (disch := omega) only [ni_lt, h1, if_true]; rfl
    · simp (disch := omega) only [ni_lt, h1, if_true]
  rcases Nat.lt_or_ge 126 q with h2 | h2
  · refine ⟨nI 0, nI n, nI n, ty, ln, ?_, ?_, n, hn, rfl, rfl, hj⟩
    · simp (disch := omega) only [ni_lt, h2, Nat.not_lt.mpr h1, if_true, if_false]; rfl
    · simp (disch := omega) only [ni_lt, h2, Nat.not_lt.mpr h1, if_true, if_false]
  rcases Nat.lt_or_ge n 32 with h3 | h3
  · refine ⟨nI 1, nI (n + 1), nI (n + 1), upd ty n (nI q), upd ln n (nI q), ?_, ?_, n + 1, by omega, rfl, rfl, ?_⟩
    · simp (disch := omega) only [ni_lt, h3, Nat.not_lt.mpr h1, Nat.not_lt.mpr h2, if_true, if_false, inR_n, decide_true, isC_n, nI_add, nI_clamp]
      rfl
    · simp (disch := omega) only [ni_lt, ni_eq, h3, Nat.ne_of_lt h3, Nat.not_lt.mpr h1, Nat.not_lt.mpr h2, if_true, if_false, inR_n, decide_true, nI_add, nI_clamp]
    · intro j hjn
      by_cases e : j = n
      · subst e
        exact ⟨by rw [pk_us, pk_us], q, h1, h2, pk_us⟩
      · rw [pk_un e, pk_un e]
        exact hj j (by omega)
  · have e : n = 32 := by omega
    subst e
    refine ⟨nI 0, nI 32, nI 32, ty, ln, ?_, ?_, 32, hn, rfl, rfl, hj⟩
    · simp (disch := omega) only [ni_lt, Nat.not_lt.mpr h1, Nat.not_lt.mpr h2, if_false, Nat.lt_irrefl]
      rfl
    · simp (disch := omega) only [ni_lt, Nat.not_lt.mpr h1, Nat.not_lt.mpr h2, if_false, if_true]
theorem s_back {len len2 : Int32} {ty ln : Nat → Int32} (h : RL len ty len2 ln) :
    ∃ (r a c : Int32), m_H_back len = some (r, a) ∧ m_M_back len2 = some (r, c) ∧ RL a ty c ln := by
  obtain ⟨n, hn, rfl, rfl, hj⟩ := h
  unfold m_H_back m_L_removeLast m_M_back
  rcases Nat.eq_zero_or_pos n with rfl | h1
  · exact ⟨nI 0, nI 0, nI 0, rfl, rfl, 0, hn, rfl, rfl, hj⟩
  · refine ⟨nI 1, nI (n - 1), nI (n - 1), ?_, ?_, n - 1, by omega, rfl, rfl, fun j h => hj j (by omega)⟩
    · simp (disch := omega) only [ni_eq, Nat.ne_of_gt h1, if_false, pk_sub]
      rfl
    · simp (disch := omega) only [ni_eq, Nat.ne_of_gt h1, if_false, pk_sub]
-- bits
theorem bt_bit : ∀ k, k < 32 → ∀ i, i < 32 → bt (nI 1 <<< (nI k &&& 31)) i = decide (i = k) := by decide +kernel
theorem b_n0 (i : Nat) : bt (nI 0) i = false := b_0 i
theorem and_z (x : Int32) : x &&& nI 0 = nI 0 := b_ext (fun i _ => by rw [b_and, b_n0, Bool.and_false])
theorem and_bit {x : Int32} {k : Nat} (hk : k < 32) : (x &&& (nI 1 <<< (nI k &&& 31)) = nI 0) ↔ bt x k = false := by
  constructor
  · intro h
    have h2 := congrArg (fun y => bt y k) h
    simp only [b_and, bt_bit k hk k hk] at h2
    rw [b_n0] at h2
    simpa using h2
  · intro h
    refine b_ext (fun i hi => ?_)
    rw [b_and, bt_bit k hk i hi]
    show _ = bt 0 i
    rw [b_0]
    by_cases e : i = k
    · subst e; rw [h]; rfl
    · simp [e]
theorem s_pairBit {a b : Nat} (ha : a < 4) (hb : b < 4) : m_H_pairBit (nI a) (nI b) = some (nI 1 <<< (nI (4 * a + b) &&& 31), ()) := by
  unfold m_H_pairBit m_H_pairBit_22 m_H_pairBit_23
  simp (disch := omega) only [ni_lt, ni_le, ni_eq, Nat.not_lt_zero, Nat.not_le.mpr ha, Nat.not_le.mpr hb, if_false, pk_mul, nI_add, Nat.one_ne_zero]
theorem s_pairBit_0 {x y : Int32} (h : x < nI 0 ∨ nI 4 ≤ x ∨ y < nI 0 ∨ nI 4 ≤ y) : m_H_pairBit x y = some (nI 0, ()) := by
  unfold m_H_pairBit m_H_pairBit_22 m_H_pairBit_23
  have e : (if (nI 0 : Int32) = nI 0 then some (nI 0, ()) else some (nI 1 <<< (nI 4 * x + y &&& 31), ())) = some (nI 0, ()) := if_pos rfl
  by_cases h1 : x < nI 0
  · rw [if_pos h1, if_pos rfl]
  by_cases h2 : nI 4 ≤ x
  · rw [if_neg h1, if_pos h2, if_pos rfl]
  by_cases h3 : y < nI 0
  · rw [if_neg h1, if_neg h2, if_pos h3, if_pos rfl]
  by_cases h4 : nI 4 ≤ y
  · rw [if_neg h1, if_neg h2, if_neg h3, if_pos h4, if_pos rfl]
  · exact absurd h (by simp [h1, h2, h3, h4])
-- facts
def RF (fs fa : Nat → Int32) : Prop := ∀ r, r < 2 → (∀ p, p < 16 → fa (16 * r + p) = if bt (fs r) p then nI 1 else nI 0) ∧ ∀ i, 16 ≤ i → bt (fs r) i = false
theorem s_holds {fs fa : Nat → Int32} (h : RF fs fa) (x1 x2 x3 : Int32) : ∃ r : Int32, m_H_holds fs x1 x2 x3 = some (r, ()) ∧ m_M_holds fa x1 x2 x3 = some (r, ()) := by
  unfold m_H_holds m_M_holds m_H_isFactRelation
  rcases ix x1 (n := 2) (by decide) with h1 | h1 | ⟨r, hr, rfl⟩
  · refine ⟨nI 0, ?_, ?_⟩
    · rw [if_pos h1]; rfl
    · rw [if_neg (ix_0 h1 (by decide)), if_neg (ix_0 h1 (by decide))]
  · refine ⟨nI 0, ?_, ?_⟩
    · rw [if_neg (ix_nn h1 (by decide)), if_pos h1]; rfl
    · rw [if_neg (ix_n h1 (by decide) (by decide)), if_neg (ix_n h1 (by decide) (by decide))]
  · have eH : (if nI r < nI 0 then some (nI 0, ()) else if nI 2 ≤ nI r then some (nI 0, ()) else some (nI 1, ())) = some ((nI 1, ()) : Int32 × Unit) := by
      simp (disch := omega) only [ni_lt, ni_le, Nat.not_lt_zero, Nat.not_le.mpr hr, if_false]
    have eM : (if nI r = nI 0 then m_M_holds_9 fa (nI r) x2 x3 else if nI r = nI 1 then m_M_holds_9 fa (nI r) x2 x3 else some (nI 0, ())) = m_M_holds_9 fa (nI r) x2 x3 := by
      rcases (show r = 0 ∨ r = 1 by omega) with rfl | rfl <;> rfl
    rw [eH, eM]
    simp (disch := omega) only [Option.bind_some, ni_eq, Nat.one_ne_zero, if_false, inR_n, hr, decide_true, if_true, nI_clamp]
    unfold m_M_holds_9 m_M_constant
    rcases ix x2 (n := 4) (by decide) with h2 | h2 | ⟨a, ha, rfl⟩
    · exact ⟨nI 0, by rw [s_pairBit_0 (Or.inl h2)]; exact if_pos (and_z _), by rw [if_pos h2]; rfl⟩
    · exact ⟨nI 0, by rw [s_pairBit_0 (Or.inr (Or.inl h2))]; exact if_pos (and_z _), by rw [if_neg (ix_nn h2 (by decide)), if_pos h2]; rfl⟩
    rcases ix x3 (n := 4) (by decide) with h3 | h3 | ⟨b, hb, rfl⟩
    · refine ⟨nI 0, by rw [s_pairBit_0 (Or.inr (Or.inr (Or.inl h3)))]; exact if_pos (and_z _), ?_⟩
      simp (disch := omega) only [ni_lt, ni_le, ni_eq, Nat.not_lt_zero, Nat.not_le.mpr ha, if_false, Option.bind_some, Nat.one_ne_zero, if_pos h3, if_true]
    · refine ⟨nI 0, by rw [s_pairBit_0 (Or.inr (Or.inr (Or.inr h3)))]; exact if_pos (and_z _), ?_⟩
      simp (disch := omega) only [ni_lt, ni_le, ni_eq, Nat.not_lt_zero, Nat.not_le.mpr ha, if_false, Option.bind_some, Nat.one_ne_zero, if_neg (ix_nn h3 (by decide)), if_pos h3, if_true]
    · rw [s_pairBit ha hb]
      have e1 := (h r hr).1 (4 * a + b) (by omega)
      by_cases hbit : bt (fs r) (4 * a + b) = true
      · refine ⟨nI 1, ?_, ?_⟩
        · have e2 : ¬ (fs r &&& (nI 1 <<< (nI (4 * a + b) &&& 31)) = nI 0) := by
            rw [and_bit (by omega), hbit]; decide
          simp only [Option.bind_some, if_neg e2]
        · rw [if_pos hbit] at e1
          have e3 : 16 * r + (4 * a + b) = 16 * r + 4 * a + b := by omega
          rw [e3] at e1
          simp (disch := omega) only [ni_lt, ni_le, ni_eq, Nat.not_lt_zero, Nat.not_le.mpr ha, Nat.not_le.mpr hb, if_false, Option.bind_some, Nat.one_ne_zero, pk_mul, nI_add, inR_n, nI_clamp, e1]
          simp only [show decide (16 * r + 4 * a + b < 32) = true from decide_eq_true (by omega), if_true]
      · have hbit : bt (fs r) (4 * a + b) = false := by simpa using hbit
        refine ⟨nI 0, ?_, ?_⟩
        · simp only [Option.bind_some, if_pos ((and_bit (show 4 * a + b < 32 by omega)).mpr hbit)]
        · rw [hbit] at e1
          have e3 : 16 * r + (4 * a + b) = 16 * r + 4 * a + b := by omega
          rw [e3] at e1
          have e1 : fa (16 * r + 4 * a + b) = nI 0 := e1
          simp (disch := omega) only [ni_lt, ni_le, ni_eq, Nat.not_lt_zero, Nat.not_le.mpr ha, Nat.not_le.mpr hb, if_false, Option.bind_some, Nat.one_ne_zero, pk_mul, nI_add, inR_n, nI_clamp, e1]
          simp only [show decide (16 * r + 4 * a + b < 32) = true from decide_eq_true (by omega), if_true]
