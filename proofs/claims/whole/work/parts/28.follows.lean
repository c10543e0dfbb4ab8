section FOL
variable {a b g x y : Nat} {fa ro mn cs : Nat → Int32} {ct : Int32}
theorem fol_in (hfa : ∀ r, r < 2 → ∀ p, p < 16 → fa (16 * r + p) = bi ((if r = 0 then a else b).testBit p)) (hro : ∀ p, p < 16 → (ro p ≤ nI 0 ↔ g.testBit p = false)) (hx : x < 4) (hy : y < 4) {z j : Nat} (hz : z < 4) (hj : j < 2) {l : List Nat} (hl : okB l = true) (hm : mn j = nI l.length) (hcs : ∀ m, m < l.length → cs (3 * j + m) = nI (l.getD m 0)) (K : Int32 → Int32 → Int32 → Int32 → Option (Int32 × Unit)) :
    ∀ d k, k + d = l.length → ∀ n, d < n → ∀ α : Bool, m_M_follows_25 ct fa mn cs ro K n (nI x) (nI y) (nI j) (nI z) (bi α) (nI k) = if (α && (l.drop k).all (fun c => gLit a b g c (16 * z + 4 * x + y))) = true then some (nI 1, ()) else K (nI x) (nI y) (nI j) (nI (z + 1)) := by
  have hL := (cl_len l hl).2
  intro d
  induction d with
  | zero =>
    intro k hk n hn α
    obtain ⟨n, rfl⟩ : ∃ n', n = n' + 1 := ⟨n - 1, by omega⟩
    unfold m_M_follows_25 m_M_follows_68
    rw [inR_n (by omega), decide_eq_true hj, nI_clamp (by omega), hm, if_pos rfl, if_pos (by rw [ni_le (by omega) (by omega)]; omega), nI_add, show l.drop k = [] from List.drop_eq_nil_of_le (by omega)]
    cases α
    · rw [if_pos (show bi false = nI 0 from rfl)]; rfl
    · rw [if_neg (show ¬ bi true = nI 0 by decide)]; rfl
  | succ d ih =>
    intro k hk n hn α
    obtain ⟨n, rfl⟩ : ∃ n', n = n' + 1 := ⟨n - 1, by omega⟩
    have hkl : k < l.length := by omega
    have he : l.drop k = l.getD k 0 :: l.drop (k + 1) := by
      rw [List.drop_eq_getElem_cons hkl]
      simp [List.getD, hkl]
    conv => lhs; unfold m_M_follows_25
    unfold m_M_follows_68
    rw [inR_n (by omega), decide_eq_true hj, nI_clamp (by omega), hm, if_pos rfl, if_neg (by rw [ni_le (by omega) (by omega)]; omega), pk_mul 3 j, nI_add, nI_add, nI_add, inR_n (by omega), decide_eq_true (show 3 * j + k < 6 by omega), nI_clamp (by omega), hcs k hkl, lit_n hfa hro (cl_lt hl hkl) hx hy hz, bs, if_pos rfl, he, List.all_cons]
    cases α
    · rw [if_pos (show bi false = nI 0 from rfl), if_pos (show bi false = nI 0 from rfl)]; rfl
    · rw [if_neg (show ¬ bi true = nI 0 by decide)]
      dsimp only
      rw [ih (k + 1) (by omega) n (by omega), Bool.true_and]
theorem fol_mid (hfa : ∀ r, r < 2 → ∀ p, p < 16 → fa (16 * r + p) = bi ((if r = 0 then a else b).testBit p)) (hro : ∀ p, p < 16 → (ro p ≤ nI 0 ↔ g.testBit p = false)) (hx : x < 4) (hy : y < 4) {j : Nat} (hj : j < 2) {l : List Nat} (hl : okB l = true) (hm : mn j = nI l.length) (hcs : ∀ m, m < l.length → cs (3 * j + m) = nI (l.getD m 0)) (K : Int32 → Int32 → Int32 → Option (Int32 × Unit)) :
    ∀ d z, z + d = 4 → ∀ n, d < n → m_M_follows_13 ct fa mn cs ro K n (nI x) (nI y) (nI j) (nI z) = if ((List.range' z d).any (fun z => l.all (fun c => gLit a b g c (16 * z + 4 * x + y)))) = true then some (nI 1, ()) else K (nI x) (nI y) (nI (j + 1)) := by
  have hL := (cl_len l hl).2
  intro d
  induction d with
  | zero =>
    intro z hz n hn
    obtain ⟨n, rfl⟩ : ∃ n', n = n' + 1 := ⟨n - 1, by omega⟩
    unfold m_M_follows_13
    rw [if_pos (by rw [ni_le (by decide) (by omega)]; omega), nI_add]
    rfl
  | succ d ih =>
    intro z hz n hn
    obtain ⟨n, rfl⟩ : ∃ n', n = n' + 1 := ⟨n - 1, by omega⟩
    conv => lhs; unfold m_M_follows_13
    rw [if_neg (by rw [ni_le (by decide) (by omega)]; omega)]
    have h1 := fol_in (ct := ct) hfa hro hx hy (show z < 4 by omega) hj hl hm hcs (m_M_follows_13 ct fa mn cs ro K n) l.length 0 (by omega) 40 (by omega) true
    rw [show bi true = nI 1 from rfl] at h1
    rw [h1, List.drop_zero, Bool.true_and, ih (z + 1) (by omega) n (by omega), List.range'_succ, List.any_cons]
    cases l.all (fun c => gLit a b g c (16 * z + 4 * x + y))
    · rfl
    · rfl
end FOL
def fol (P : List (List Nat)) (a b g x y : Nat) : Bool := P.any (fun l => (List.range' 0 4).any (fun z => l.all (fun c => gLit a b g c (16 * z + 4 * x + y))))
theorem fol_n {a b g x y : Nat} {fa ro mn cs : Nat → Int32} (hfa : ∀ r, r < 2 → ∀ p, p < 16 → fa (16 * r + p) = bi ((if r = 0 then a else b).testBit p)) (hro : ∀ p, p < 16 → (ro p ≤ nI 0 ↔ g.testBit p = false)) (hx : x < 4) (hy : y < 4) {P : List (List Nat)} (hP : P.length ≤ 2) (hc : ∀ j, j < P.length → okB (P.getD j []) = true ∧ mn j = nI (P.getD j []).length ∧ ∀ k, k < (P.getD j []).length → cs (3 * j + k) = nI ((P.getD j []).getD k 0)) : m_M_follows (nI P.length) fa mn cs ro (nI x) (nI y) = some (bi (fol P a b g x y), ()) := by
  have key : ∀ d j, j + d = P.length → ∀ n, d < n → m_M_follows_2 (nI P.length) fa mn cs ro n (nI x) (nI y) (nI j) = some (bi (fol (P.drop j) a b g x y), ()) := by
    intro d
    induction d with
    | zero =>
      intro j hj n hn
      obtain ⟨n, rfl⟩ : ∃ n', n = n' + 1 := ⟨n - 1, by omega⟩
      unfold m_M_follows_2
      rw [if_pos (by rw [ni_le (by omega) (by omega)]; omega), show P.drop j = [] from List.drop_eq_nil_of_le (by omega)]
      rfl
    | succ d ih =>
      intro j hj n hn
      obtain ⟨n, rfl⟩ : ∃ n', n = n' + 1 := ⟨n - 1, by omega⟩
      have hjl : j < P.length := by omega
      obtain ⟨a1, a2, a3⟩ := hc j hjl
      have he : P.drop j = P.getD j [] :: P.drop (j + 1) := by
        rw [List.drop_eq_getElem_cons hjl]
        simp [List.getD, hjl]
      conv => lhs; unfold m_M_follows_2
      rw [if_neg (by rw [ni_le (by omega) (by omega)]; omega), fol_mid hfa hro hx hy (by omega) a1 a2 a3 _ 4 0 (by omega) 40 (by omega), ih (j + 1) (by omega) n (by omega), he]
      unfold fol
      rw [List.any_cons]
      cases (List.range' 0 4).any (fun z => (P.getD j []).all (fun c => gLit a b g c (16 * z + 4 * x + y))) <;> rfl
  unfold m_M_follows
  exact key P.length 0 (by omega) 40 (by omega)
