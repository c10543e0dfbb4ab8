def fpos (b : Nat → Bool) : Nat → Nat → Nat
  | 0, k => k
  | d + 1, k => if b k then fpos b d (k + 1) else k
theorem fix_lt (f : Nat) : fix f < 9 := by unfold fix; repeat' split <;> try decide
theorem len_n : ∀ i, i < 9 → m_S_length i = some (nI (xlen.getD i 0), ()) := by decide +kernel
theorem xl_lt : ∀ i, i < 9 → xlen.getD i 0 < 29 := by decide +kernel
theorem inN_t {i : Nat} (h : i < 9) : inN i = true := decide_eq_true h
theorem begun_loop {n f : Nat} {ty : Nat → Int32} {ch : Nat → Nat} (hn : n ≤ 32) (hty : ∀ j, j < n → ty j = nI (ch j) ∧ 32 ≤ ch j ∧ ch j ≤ 126) : ∀ d k, k + d = n → ∀ m, d < m → m_L_begunStatement_7 (nI n) ty m (fix f) (nI k) = some (nI (fpos (fun p => kB f (ch p) p) d k), ()) := by
  intro d
  induction d with
  | zero =>
    intro k hk m hm
    obtain ⟨m, rfl⟩ : ∃ m', m = m' + 1 := ⟨m - 1, by omega⟩
    unfold m_L_begunStatement_7
    rw [if_pos (by rw [ni_le (by omega) (by omega)]; omega)]
    rfl
  | succ d ih =>
    intro k hk m hm
    obtain ⟨m, rfl⟩ : ∃ m', m = m' + 1 := ⟨m - 1, by omega⟩
    obtain ⟨e1, c1, c2⟩ := hty k (by omega)
    have hv := kK_v (f := f) (c := ch k) (p := k) ⟨c1, c2⟩
    have hx := xl_lt (fix f) (fix_lt f)
    unfold m_L_begunStatement_7
    rw [if_neg (by rw [ni_le (by omega) (by omega)]; omega), if_pos (inN_t (fix_lt f)), len_n (fix f) (fix_lt f), bs, if_pos (inN_t (fix_lt f))]
    dsimp only
    show _ = some (nI (if kB f (ch k) k then fpos (fun p => kB f (ch p) p) d (k + 1) else k), ())
    by_cases hk2 : k < xlen.getD (fix f) 0
    · rw [if_neg (by rw [ni_le (by omega) (by omega)]; omega)]
      unfold kK at hv
      rw [if_pos hk2] at hv
      obtain ⟨v, hv1, hv2⟩ := of_bind hv
      rw [hv1, bs, if_pos (by rw [inR_n (by omega)]; exact decide_eq_true (by omega)), nI_clamp (by omega), e1, hv2, bs]
      dsimp only
      by_cases hb : kB f (ch k) k = true
      · rw [hb]
        simp only [if_true]
        rw [if_neg (by decide), nI_add]
        exact ih (k + 1) (by omega) m (by omega)
      · have hb : kB f (ch k) k = false := by simpa using hb
        rw [hb]
        simp only [Bool.false_eq_true, if_false, if_true]
    · rw [if_pos (by rw [ni_le (by omega) (by omega)]; omega)]
      have hb : kB f (ch k) k = false := by
        unfold kK at hv
        rw [if_neg hk2] at hv
        unfold kB kK
        rw [if_neg hk2]
        decide
      rw [hb]
      rfl
theorem goesOn_gen {ln : Nat → Int32} {p : Nat} (hp : p < 32) : m_M_goesOn ln (nI p) = m_M_goesOn (fun j => if j = 0 then ln 0 else ln p) (nI p) := by
  have e0 : (nI 0).toNatClampNeg = 0 := rfl
  have ep : (nI p).toNatClampNeg = p := nI_clamp (by omega)
  have q2 : (if p = 0 then ln 0 else ln p) = ln p := by
    split
    · next h => rw [h]
    · rfl
  unfold m_M_goesOn m_M_goesOn_98
  simp only [e0, ep, q2, if_true]
theorem goesOn_k {n : Nat} {ln : Nat → Int32} {ch : Nat → Nat} (hn : n ≤ 32) (hln : ∀ j, j < n → ln j = nI (ch j) ∧ 32 ≤ ch j ∧ ch j ≤ 126) {p : Nat} (hp : p < n) (h0 : 0 < p → kB (ch 0) (ch 0) 0 = true) : m_M_goesOn ln (nI p) = some (if kB (ch 0) (ch p) p then nI 1 else nI 0, ()) := by
  obtain ⟨e1, c1, c2⟩ := hln 0 (by omega)
  obtain ⟨e2, c3, c4⟩ := hln p hp
  rw [goesOn_gen (by omega), e1, e2, ← kK_v ⟨c3, c4⟩]
  have e3 : 32 + (ch 0 - 32) = ch 0 := by omega
  rcases Nat.eq_zero_or_pos p with rfl | hp1
  · have := lk_0 (ch 0 - 32) (by omega)
    rw [e3] at this
    exact this
  · have h2 := kf_0 (ch 0 - 32) (by omega)
    rw [e3] at h2
    exact kG_K (h2 (h0 hp1)) ⟨c3, c4⟩ ⟨hp1, by omega⟩
theorem fault_loop {n : Nat} {ln : Nat → Int32} {ch : Nat → Nat} (hn : n ≤ 32) (hln : ∀ j, j < n → ln j = nI (ch j) ∧ 32 ≤ ch j ∧ ch j ≤ 126) : ∀ d k, k + d = n → (0 < k → kB (ch 0) (ch 0) 0 = true) → ∀ m, d < m → m_M_fault_2 (nI n) ln m (nI k) = if fpos (fun p => kB (ch 0) (ch p) p) d k < n then some (nI (fpos (fun p => kB (ch 0) (ch p) p) d k), ()) else Option.bind (m_M_whole (nI n) ln) (fun v => if v.1 = nI 0 then some (nI n, ()) else some (-1, ())) := by
  intro d
  induction d with
  | zero =>
    intro k hk h0 m hm
    obtain ⟨m, rfl⟩ : ∃ m', m = m' + 1 := ⟨m - 1, by omega⟩
    unfold m_M_fault_2
    rw [if_pos (by rw [ni_le (by omega) (by omega)]; omega), if_neg (by show ¬ k < n; omega)]
  | succ d ih =>
    intro k hk h0 m hm
    obtain ⟨m, rfl⟩ : ∃ m', m = m' + 1 := ⟨m - 1, by omega⟩
    unfold m_M_fault_2
    rw [if_neg (by rw [ni_le (by omega) (by omega)]; omega), goesOn_k hn hln (by omega) h0, bs]
    dsimp only
    have ef : fpos (fun p => kB (ch 0) (ch p) p) (d + 1) k = if kB (ch 0) (ch k) k then fpos (fun p => kB (ch 0) (ch p) p) d (k + 1) else k := rfl
    rw [ef]
    by_cases hb : kB (ch 0) (ch k) k = true
    · rw [hb]
      simp only [if_true]
      rw [if_neg (by decide), nI_add]
      refine ih (k + 1) (by omega) (fun _ => ?_) m (by omega)
      rcases Nat.eq_zero_or_pos k with rfl | h1
      · exact hb
      · exact h0 h1
    · have hb : kB (ch 0) (ch k) k = false := by simpa using hb
      rw [hb]
      simp only [Bool.false_eq_true, if_false, if_true]
      rw [if_pos (by omega)]
