theorem lt_head : ∀ p, p < 8 → Option.bind (m_S_charAt 2 (nI p)) (fun v => some (v.1, ())) = Option.bind (m_M_head (nI p)) (fun v => (some (v.1, ()) : Option (Int32 × Unit))) := by decide +kernel
theorem lt_code : ∀ c, c < 27 → ∀ t, t < 7 → m_P_letterOf (mk [c]) (nI (8 + t)) = (if t = 6 then some (nI 44, ()) else Option.bind (m_M_letterOf (nI c) (nI t)) (fun v => some (v.1, ()))) := by decide +kernel
theorem lt_val : ∀ c, c < 27 → ∀ t, t < 7 → ∃ r, r < 127 ∧ m_P_letterOf (mk [c]) (nI (8 + t)) = some (nI r, ()) := by decide +kernel
theorem lt_hv : ∀ p, p < 8 → ∃ r, r < 127 ∧ Option.bind (m_S_charAt 2 (nI p)) (fun v => (some (v.1, ()) : Option (Int32 × Unit))) = some (nI r, ()) := by decide +kernel
theorem letterOf_1 {l : List Nat} (hl : okB l = true) {k t : Nat} (hk : k < l.length) (ht : t < 7) : m_P_letterOf (mk l) (nI (8 + (7 * k + t))) = m_P_letterOf (mk [l.getD k 0]) (nI (8 + t)) := by
  have hL := (cl_len l hl).2
  have hc := cl_lt hl hk
  have h1 : okB [l.getD k 0] = true := decide_eq_true hc
  unfold m_P_letterOf
  rw [if_pos (by rw [ni_le (by decide) (by omega)]; omega), if_pos (by rw [ni_le (by decide) (by omega)]; omega)]
  rw [pk_sub (show 8 ≤ 8 + (7 * k + t) by omega), pk_sub (show 8 ≤ 8 + t by omega), show 8 + (7 * k + t) - 8 = 7 * k + t by omega, show 8 + t - 8 = t by omega]
  rw [pk_div (show 7 * k + t < 2 ^ 31 by omega) (by decide) (by decide), pk_div (show t < 2 ^ 31 by omega) (by decide) (by decide), irm_n (by omega) (by decide) (by decide), irm_n (by omega) (by decide) (by decide)]
  rw [show (7 * k + t) / 7 = k by omega, show (7 * k + t) % 7 = t by omega, show t / 7 = 0 by omega, show t % 7 = t by omega]
  rw [cl_codeAt l hl k hk, cl_codeAt [l.getD k 0] h1 0 (by simp)]
  rfl
theorem s_letter {ct ct2 : Int32} {bd mn cs : Nat → Int32} (h : RP ct bd ct2 mn cs) (x : Int32) : ∃ r : Int32, m_H_letter ct bd x = some (r, ()) ∧ m_M_letter ct2 mn cs x = some (r, ()) := by
  obtain ⟨P, hP, rfl, rfl, hc⟩ := h
  have key : ∀ d j, j + d = P.length → ∀ (z : Int32) (n m : Nat), d < n → d < m → ∃ r : Int32, m_P_letterAt_4 (nI P.length) bd n z (nI j) = some (r, ()) ∧ m_M_letter_4 (nI P.length) mn cs m z (nI j) = some (r, ()) := by
    intro d
    induction d with
    | zero =>
      intro j hj z n m hn hm
      obtain ⟨n, rfl⟩ : ∃ n', n = n' + 1 := ⟨n - 1, by omega⟩
      obtain ⟨m, rfl⟩ : ∃ m', m = m' + 1 := ⟨m - 1, by omega⟩
      unfold m_P_letterAt_4 m_M_letter_4
      rw [if_pos (by rw [ni_le (by omega) (by omega)]; omega), if_pos (by rw [ni_le (by omega) (by omega)]; omega)]
      exact ⟨-1, rfl, rfl⟩
    | succ d ih =>
      intro j hj z n m hn hm
      obtain ⟨n, rfl⟩ : ∃ n', n = n' + 1 := ⟨n - 1, by omega⟩
      obtain ⟨m, rfl⟩ : ∃ m', m = m' + 1 := ⟨m - 1, by omega⟩
      obtain ⟨hk, -, hb, hmn, hcs⟩ := hc j (by omega)
      generalize P.getD j [] = l at hk hb hmn hcs
      have hL := cl_len l hk
      have hTL : m_P_textLength (bd j) = some (nI (7 + 7 * l.length), ()) := by
        unfold m_P_textLength
        rw [hb, cl_bc l hk, bs]
        dsimp only
        rw [pk_mul, nI_add, pk_sub (by omega), show 8 + 7 * l.length - 1 = 7 + 7 * l.length by omega]
      have e1 : m_P_letterAt_4 (nI P.length) bd (n + 1) z (nI j) = if z < nI 0 then some (-1, ()) else if nI (7 + 7 * l.length) ≤ z then (if z = nI (7 + 7 * l.length) then (if nI P.length ≤ nI (j + 1) then m_P_letterAt_63 (nI P.length) bd (m_P_letterAt_4 (nI P.length) bd n) z (nI j) (nI (7 + 7 * l.length)) else some (nI 59, ())) else m_P_letterAt_63 (nI P.length) bd (m_P_letterAt_4 (nI P.length) bd n) z (nI j) (nI (7 + 7 * l.length))) else Option.bind (m_P_letterOf (mk l) z) (fun v => some (v.1, ())) := by
        conv => lhs; unfold m_P_letterAt_4
        rw [if_neg (by rw [ni_le (by omega) (by omega)]; omega), inR_n (by omega), decide_eq_true (show j < 2 by omega), nI_clamp (by omega), if_pos rfl, if_pos rfl, hTL, bs, nI_add, hb]
      have e2 : m_M_letter_4 (nI P.length) mn cs (m + 1) z (nI j) = if z < nI 0 then some (-1, ()) else if nI (7 + 7 * l.length) ≤ z then (if z - nI (7 + 7 * l.length) = nI 0 then (if nI P.length ≤ nI (j + 1) then some (-1, ()) else some (nI 59, ())) else m_M_letter_4 (nI P.length) mn cs m (z - nI (7 + 7 * l.length) + (-1 : Int32)) (nI (j + 1))) else (if nI 0 ≤ z - nI 8 then (if irm (z - nI 8) (nI 7) = nI 6 then some (nI 44, ()) else (if inR (nI (3 * j) + (z - nI 8) / nI 7) 6 = true then Option.bind (m_M_letterOf (cs (nI (3 * j) + (z - nI 8) / nI 7).toNatClampNeg) (irm (z - nI 8) (nI 7))) (fun v => some (v.1, ())) else none)) else Option.bind (m_M_head z) (fun v => some (v.1, ()))) := by
        conv => lhs; unfold m_M_letter_4
        rw [if_neg (by rw [ni_le (by omega) (by omega)]; omega), inR_n (by omega), decide_eq_true (show j < 2 by omega), nI_clamp (by omega), if_pos rfl, hmn, pk_mul 7 l.length, nI_add, nI_add, pk_mul 3 j]
      rw [e1, e2]
      by_cases hz : z < nI 0
      · rw [if_pos hz, if_pos hz]; exact ⟨-1, rfl, rfl⟩
      rw [if_neg hz, if_neg hz]
      obtain ⟨p, hp, rfl⟩ := nI_of (x := z) hz
      by_cases h1 : 7 + 7 * l.length ≤ p
      · have h1' : nI (7 + 7 * l.length) ≤ nI p := by rw [ni_le (by omega) (by omega)]; exact h1
        rw [if_pos h1', if_pos h1', pk_sub h1]
        unfold m_P_letterAt_63
        rw [nI_add, nI_add]
        by_cases h2 : p = 7 + 7 * l.length
        · have h2a : nI p = nI (7 + 7 * l.length) := by rw [h2]
          have h2b : nI (p - (7 + 7 * l.length)) = nI 0 := by rw [h2, Nat.sub_self]
          rw [if_pos h2a, if_pos h2b]
          by_cases h3 : P.length ≤ j + 1
          · have h3' : nI P.length ≤ nI (j + 1) := by rw [ni_le (by omega) (by omega)]; exact h3
            rw [if_pos h3', if_pos h3']
            refine ⟨-1, ?_, rfl⟩
            obtain ⟨n, rfl⟩ : ∃ n', n = n' + 1 := ⟨n - 1, by omega⟩
            unfold m_P_letterAt_4
            rw [if_pos h3']
          · have h3' : ¬ nI P.length ≤ nI (j + 1) := by rw [ni_le (by omega) (by omega)]; exact h3
            rw [if_neg h3', if_neg h3']
            exact ⟨nI 59, rfl, rfl⟩
        · rw [if_neg (by rw [ni_eq (by omega) (by omega)]; exact h2), if_neg (by rw [ni_eq (by omega) (by decide)]; omega), pk_sub (show 7 + 7 * l.length + 1 ≤ p by omega)]
          have e3 : nI (p - (7 + 7 * l.length)) + (-1 : Int32) = nI (p - (7 + 7 * l.length + 1)) := by
            rw [show p - (7 + 7 * l.length) = (p - (7 + 7 * l.length + 1)) + 1 by omega]
            exact pk_m1 _
          rw [e3]
          exact ih (j + 1) (by omega) _ n m (by omega) (by omega)
      · have h1' : ¬ nI (7 + 7 * l.length) ≤ nI p := by rw [ni_le (by omega) (by omega)]; exact h1
        rw [if_neg h1', if_neg h1']
        by_cases h4 : p < 8
        · obtain ⟨r, -, hr⟩ := lt_hv p h4
          have hneg : ¬ nI 0 ≤ nI p - nI 8 := by
            have := pk_sneg (a := p) (b := 8) (by decide) h4
            intro h9
            have a1 := Int32.le_iff_toInt_le.mp h9
            have a2 := Int32.lt_iff_toInt_lt.mp this
            rw [nI_toInt (by decide)] at a1
            have a3 : (0 : Int32).toInt = 0 := rfl
            omega
          refine ⟨nI r, ?_, ?_⟩
          · unfold m_P_letterOf
            rw [if_neg (by rw [ni_le (by decide) (by omega)]; omega), if_pos (by decide), hr, bs]
          · rw [if_neg hneg, ← lt_head p h4, hr]
        · obtain ⟨k, t, ht, e5⟩ : ∃ k t, t < 7 ∧ p = 8 + (7 * k + t) := ⟨(p - 8) / 7, (p - 8) % 7, Nat.mod_lt _ (by decide), by omega⟩
          subst e5
          have hkl : k < l.length := by omega
          have hcl := cl_lt hk hkl
          obtain ⟨r, -, hr⟩ := lt_val (l.getD k 0) hcl t ht
          refine ⟨nI r, ?_, ?_⟩
          · rw [letterOf_1 hk hkl ht, hr, bs]
          · have hlc := lt_code (l.getD k 0) hcl t ht
            rw [hr] at hlc
            rw [pk_sub (show 8 ≤ 8 + (7 * k + t) by omega), show 8 + (7 * k + t) - 8 = 7 * k + t by omega, if_pos (by rw [ni_le (by decide) (by omega)]; omega), irm_n (by omega) (by decide) (by decide), show (7 * k + t) % 7 = t by omega, pk_div (show 7 * k + t < 2 ^ 31 by omega) (by decide) (by decide), show (7 * k + t) / 7 = k by omega, nI_add, nI_clamp (by omega), inR_n (by omega), decide_eq_true (show 3 * j + k < 6 by omega), hcs k hkl]
            by_cases h6 : t = 6
            · rw [if_pos (by rw [h6]), hlc, if_pos h6]
            · rw [if_neg (by rw [ni_eq (by omega) (by decide)]; exact h6), if_pos rfl, hlc, if_neg h6]
  obtain ⟨r, k1, k2⟩ := key P.length 0 (by omega) x 40 40 (by omega) (by omega)
  refine ⟨r, ?_, k2⟩
  unfold m_H_letter m_P_letterAt
  rw [k1, bs]
