theorem any_mem (x : Nat) (l : List Nat) : l.any (fun e => decide (x = e)) = decide (x ∈ l) := by
  induction l with
  | nil => rfl
  | cons a l ih => rw [List.any_cons, ih]; simp [List.mem_cons]
theorem rmid_loop {l1 l2 : List Nat} (h1 : okB l1 = true) (h2 : okB l2 = true) {mn cs : Nat → Int32} {i j v : Nat} (hi : i < 2) (hj : j < 2) (hv : v < 3) (hm1 : mn i = nI l1.length) (hm : mn j = nI l2.length) (hc1 : ∀ m, m < l1.length → cs (3 * i + m) = nI (l1.getD m 0)) (hcs : ∀ m, m < l2.length → cs (3 * j + m) = nI (l2.getD m 0)) (ct : Int32) (K : Int32 → Int32 → Int32 → Int32 → Option (Int32 × Unit)) (σ : Bool) :
    ∀ d k, k + d = l1.length → ∀ n, d < n → ∀ α : Bool, m_M_subsumes_35 ct mn cs K n (nI i) (nI j) (bi σ) (nI v) (bi α) (nI k) = K (nI i) (nI j) (bi (σ || (α && (l1.drop k).all (fun c => decide (rp v c ∈ l2))))) (nI (v + 1)) := by
  have hL1 := (cl_len l1 h1).2
  have hL2 := (cl_len l2 h2).2
  intro d
  induction d with
  | zero =>
    intro k hkd n hn α
    obtain ⟨n, rfl⟩ : ∃ n', n = n' + 1 := ⟨n - 1, by omega⟩
    unfold m_M_subsumes_35 m_M_subsumes_143 m_M_subsumes_148
    rw [inR_n (by omega), decide_eq_true hi, nI_clamp (by omega), hm1, if_pos rfl, if_pos (by rw [ni_le (by omega) (by omega)]; omega), nI_add, show l1.drop k = [] from List.drop_eq_nil_of_le (by omega)]
    cases σ
    · rw [if_pos (show bi false = nI 0 from rfl)]
      cases α
      · rw [if_pos (show bi false = nI 0 from rfl)]; rfl
      · rw [if_neg (show ¬ bi true = nI 0 by decide)]; rfl
    · rw [if_neg (show ¬ bi true = nI 0 by decide)]; rfl
  | succ d ih =>
    intro k hkd n hn α
    obtain ⟨n, rfl⟩ : ∃ n', n = n' + 1 := ⟨n - 1, by omega⟩
    have hkl : k < l1.length := by omega
    have he : l1.drop k = l1.getD k 0 :: l1.drop (k + 1) := by
      rw [List.drop_eq_getElem_cons hkl]
      simp [List.getD, hkl]
    have hlt := cl_lt h1 hkl
    conv => lhs; unfold m_M_subsumes_35
    rw [inR_n (by omega), decide_eq_true hi, nI_clamp (by omega), hm1, if_pos rfl, if_neg (by rw [ni_le (by omega) (by omega)]; omega)]
    have hr := rin_loop h2 hi hj (show k < 3 by omega) hv hlt hm hcs (hc1 k hkl) ct (bi σ) (bi α) (m_M_subsumes_35 ct mn cs K n) l2.length 0 (by omega) 40 (by omega) false
    rw [show bi false = nI 0 from rfl] at hr
    rw [hr, List.drop_zero, Bool.false_or, any_mem, he, List.all_cons]
    have hz : (if bi α = nI 0 then nI 0 else bi (decide (rp v (l1.getD k 0) ∈ l2))) = bi (α && decide (rp v (l1.getD k 0) ∈ l2)) := by
      cases α
      · rw [if_pos (show bi false = nI 0 from rfl)]; rfl
      · rw [if_neg (show ¬ bi true = nI 0 by decide)]; rfl
    rw [hz, ih (k + 1) (by omega) n (by omega), Bool.and_assoc]
theorem rout_n {l1 l2 : List Nat} (h1 : okB l1 = true) (h2 : okB l2 = true) {mn cs : Nat → Int32} {i j : Nat} (hi : i < 2) (hj : j < 2) (hm1 : mn i = nI l1.length) (hm : mn j = nI l2.length) (hc1 : ∀ m, m < l1.length → cs (3 * i + m) = nI (l1.getD m 0)) (hcs : ∀ m, m < l2.length → cs (3 * j + m) = nI (l2.getD m 0)) (ct : Int32) : m_M_subsumes_23 ct mn cs 40 (nI i) (nI j) (nI 0) (nI 0) = some (bi (sA 0 l1 l2 || (sA 1 l1 l2 || sA 2 l1 l2)), ()) := by
  have hL1 := (cl_len l1 h1).2
  have step : ∀ (n v : Nat) (σ : Bool), v < 3 → m_M_subsumes_23 ct mn cs (n + 1) (nI i) (nI j) (bi σ) (nI v) = m_M_subsumes_23 ct mn cs n (nI i) (nI j) (bi (σ || sA v l1 l2)) (nI (v + 1)) := by
    intro n v σ hv
    conv => lhs; unfold m_M_subsumes_23
    rw [if_neg (by rw [ni_le (by decide) (by omega)]; omega)]
    have hr := rmid_loop h1 h2 hi hj hv hm1 hm hc1 hcs ct (m_M_subsumes_23 ct mn cs n) σ l1.length 0 (by omega) 40 (by omega) true
    rw [show bi true = nI 1 from rfl] at hr
    rw [hr, List.drop_zero, Bool.true_and]
    rfl
  have s0 := step 39 0 false (by decide)
  have s1 := step 38 1 (sA 0 l1 l2) (by decide)
  have s2 := step 37 2 (sA 0 l1 l2 || sA 1 l1 l2) (by decide)
  rw [Bool.false_or] at s0
  rw [show (nI 0 : Int32) = bi false from rfl]
  rw [show bi false = nI 0 from rfl] at s0
  show m_M_subsumes_23 ct mn cs 40 (nI i) (nI j) (nI 0) (nI 0) = _
  rw [s0, s1, s2, ← Bool.or_assoc]
  unfold m_M_subsumes_23
  rw [if_pos (by decide), if_pos (by cases (sA 0 l1 l2 || sA 1 l1 l2 || sA 2 l1 l2) <;> decide)]
theorem s_subsumes {ct ct2 : Int32} {bd mn cs : Nat → Int32} (h : RP ct bd ct2 mn cs) (x y : Int32) : ∃ r : Int32, m_H_subsumes ct bd x y = some (r, ()) ∧ m_M_subsumes ct2 mn cs x y = some (r, ()) := by
  obtain ⟨P, hP, rfl, rfl, hc⟩ := h
  unfold m_H_subsumes m_M_subsumes
  have out : ∀ z : Int32, (z < nI 0 ∨ nI P.length ≤ z) ∨ ∃ j, j < P.length ∧ z = nI j := fun z => by
    rcases ix z (n := P.length) (by omega) with h | h | h
    · exact Or.inl (Or.inl h)
    · exact Or.inl (Or.inr h)
    · exact Or.inr h
  rcases out x with hx | ⟨i, hi, rfl⟩
  · refine ⟨nI 0, ?_, by rw [s_clause_out hx]; rfl⟩
    rw [s_bodyOf_out hx, bs]
    rcases out y with hy | ⟨j, hj, rfl⟩
    · rw [s_bodyOf_out hy]; rfl
    · rw [s_bodyOf_in hP hj]; rfl
  · obtain ⟨a1, -, a3, a4, a5⟩ := hc i hi
    rw [s_bodyOf_in hP hi, s_clause_in hP hi, bs, bs, if_neg (show ¬ (nI 1, ()).1 = nI 0 by decide)]
    rcases out y with hy | ⟨j, hj, rfl⟩
    · refine ⟨nI 0, ?_, by rw [s_clause_out hy]; rfl⟩
      rw [s_bodyOf_out hy, bs]
      dsimp only
      rw [a3, if_neg (cl_ne _ a1), if_pos rfl]
    · obtain ⟨b1, -, b3, b4, b5⟩ := hc j hj
      rw [s_bodyOf_in hP hj, s_clause_in hP hj, bs, bs, if_neg (show ¬ (nI 1, ()).1 = nI 0 by decide)]
      dsimp only
      rw [a3, b3, if_neg (cl_ne _ a1), if_neg (cl_ne _ b1), csub_n a1 b1, rout_n a1 b1 (by omega) (by omega) a4 b4 a5 b5]
      exact ⟨_, rfl, rfl⟩
