def bi (b : Bool) : Int32 := if b then nI 1 else nI 0
theorem bi_0 (b : Bool) : (bi b = nI 0) = (b = false) := by cases b <;> simp [bi] <;> decide
theorem csub_step {l1 l2 : List Nat} (h1 : okB l1 = true) (h2 : okB l2 = true) (ct : Int32) (bd : Nat → Int32) {v n : Nat} (hv : v < 3) : m_H_subsumes_33 ct bd (n + 1) (mk l1) (mk l2) (nI v) = if sA v l1 l2 = true then some (nI 1, ()) else m_H_subsumes_33 ct bd n (mk l1) (mk l2) (nI (v + 1)) := by
  conv => lhs; unfold m_H_subsumes_33
  rw [if_neg (by rw [ni_le (by decide) (by omega)]; omega), wv_n h1 hv, bs, nI_add]
  dsimp only
  by_cases h : sA v l1 l2 = true
  · rw [if_pos h, if_pos ((ors_sub hv h1 h2).mpr h)]
  · rw [if_neg h, if_neg (fun h9 => h ((ors_sub hv h1 h2).mp h9))]
theorem csub_n {l1 l2 : List Nat} (h1 : okB l1 = true) (h2 : okB l2 = true) (ct : Int32) (bd : Nat → Int32) : m_H_subsumes_33 ct bd 40 (mk l1) (mk l2) (nI 0) = some (bi (sA 0 l1 l2 || (sA 1 l1 l2 || sA 2 l1 l2)), ()) := by
  rw [csub_step h1 h2 ct bd (by decide), csub_step h1 h2 ct bd (by decide), csub_step h1 h2 ct bd (by decide)]
  have e : m_H_subsumes_33 ct bd 37 (mk l1) (mk l2) (nI (0 + 1 + 1 + 1)) = some (nI 0, ()) := by
    unfold m_H_subsumes_33
    rw [if_pos (by decide)]
  show (if sA 0 l1 l2 = true then _ else if sA (0 + 1) l1 l2 = true then _ else if sA (0 + 1 + 1) l1 l2 = true then _ else m_H_subsumes_33 ct bd 37 (mk l1) (mk l2) (nI (0 + 1 + 1 + 1))) = _
  rw [e]
  show (if sA 0 l1 l2 = true then _ else if sA 1 l1 l2 = true then _ else if sA 2 l1 l2 = true then _ else _) = _
  cases sA 0 l1 l2 <;> cases sA 1 l1 l2 <;> cases sA 2 l1 l2 <;> rfl
theorem rin_loop {l2 : List Nat} (h2 : okB l2 = true) {mn cs : Nat → Int32} {i j k v c : Nat} (hi : i < 2) (hj : j < 2) (hk : k < 3) (hv : v < 3) (hc : c < 27) (hm : mn j = nI l2.length) (hcs : ∀ m, m < l2.length → cs (3 * j + m) = nI (l2.getD m 0)) (hci : cs (3 * i + k) = nI c) (ct z3 z5 : Int32) (K : Int32 → Int32 → Int32 → Int32 → Int32 → Int32 → Option (Int32 × Unit)) :
    ∀ d m, m + d = l2.length → ∀ n, d < n → ∀ β : Bool, m_M_subsumes_52 ct mn cs K n (nI i) (nI j) z3 (nI v) z5 (nI k) (bi β) (nI m) = K (nI i) (nI j) z3 (nI v) (if z5 = nI 0 then nI 0 else bi (β || (l2.drop m).any (fun e => decide (rp v c = e)))) (nI (k + 1)) := by
  have hL := (cl_len l2 h2).2
  intro d
  induction d with
  | zero =>
    intro m hmd n hn β
    obtain ⟨n, rfl⟩ : ∃ n', n = n' + 1 := ⟨n - 1, by omega⟩
    unfold m_M_subsumes_52 m_M_subsumes_125 m_M_subsumes_126
    rw [inR_n (by omega), decide_eq_true hj, nI_clamp (by omega), hm, if_pos rfl, if_pos (by rw [ni_le (by omega) (by omega)]; omega), nI_add, show l2.drop m = [] from List.drop_eq_nil_of_le (by omega)]
    by_cases h5 : z5 = nI 0
    · rw [if_pos h5, if_pos h5]
    · rw [if_neg h5, if_neg h5]
      cases β
      · rw [if_pos (show bi false = nI 0 from rfl)]; rfl
      · rw [if_neg (show ¬ bi true = nI 0 by decide)]; rfl
  | succ d ih =>
    intro m hmd n hn β
    obtain ⟨n, rfl⟩ : ∃ n', n = n' + 1 := ⟨n - 1, by omega⟩
    have hml : m < l2.length := by omega
    have he : l2.drop m = l2.getD m 0 :: l2.drop (m + 1) := by
      rw [List.drop_eq_getElem_cons hml]
      simp [List.getD, hml]
    have hlt := cl_lt h2 hml
    have hrp := rp_lt hv hc
    have i0 := ih (m + 1) (by omega) n (by omega)
    conv => lhs; unfold m_M_subsumes_52
    unfold m_M_subsumes_98 m_M_subsumes_103
    rw [inR_n (by omega), decide_eq_true hj, nI_clamp (by omega), hm, if_pos rfl, if_neg (by rw [ni_le (by omega) (by omega)]; omega), pk_mul 3 i, pk_mul 3 j, nI_add, nI_add, inR_n (by omega), inR_n (by omega), decide_eq_true (show 3 * i + k < 6 by omega), decide_eq_true (show 3 * j + m < 6 by omega), nI_clamp (by omega), nI_clamp (by omega), hci, hcs m hml, rep_n hv hc, bs, if_pos rfl, if_pos rfl, nI_add, he, List.any_cons]
    dsimp only
    cases β
    · rw [if_pos (show bi false = nI 0 from rfl)]
      by_cases hq : rp v c = l2.getD m 0
      · rw [if_pos (by rw [hq]), decide_eq_true hq]
        have := i0 true
        rw [show bi true = nI 1 from rfl] at this
        rw [this]
        simp
      · rw [if_neg (by rw [ni_eq (by omega) (by omega)]; exact hq), decide_eq_false hq]
        have := i0 false
        rw [show bi false = nI 0 from rfl] at this
        rw [this]
        simp
    · rw [if_neg (show ¬ bi true = nI 0 by decide)]
      have := i0 true
      rw [show bi true = nI 1 from rfl] at this
      rw [this]
      simp
