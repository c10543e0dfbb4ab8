theorem ap_n {ty : Int32} {ln : Nat → Int32} {s : List Nat} (h3 : s.length ≤ 3) {bo : Nat → Int32} (hB : BR s bo) {c : Nat} (hc : c < 2) (mn cs : Nat → Int32) : ∃ cs' : Nat → Int32, m_M_enterClause_137 ty ln 40 (nI c) (nI s.length) mn cs bo (nI 0) = some (nI (10 + c), nI (c + 1), nI s.length, mn, cs', bo) ∧ (∀ k, k < s.length → cs' (3 * c + k) = nI (s.getD k 0)) ∧ ∀ i, i < 3 * c → cs' i = cs i := by
  have key : ∀ d k, k + d = s.length → ∀ n, d < n → ∀ cs : Nat → Int32, (∀ i, i < k → cs (3 * c + i) = nI (s.getD i 0)) → ∃ cs' : Nat → Int32, m_M_enterClause_137 ty ln n (nI c) (nI s.length) mn cs bo (nI k) = some (nI (10 + c), nI (c + 1), nI s.length, mn, cs', bo) ∧ (∀ k, k < s.length → cs' (3 * c + k) = nI (s.getD k 0)) ∧ ∀ i, i < 3 * c → cs' i = cs i := by
    intro d
    induction d with
    | zero =>
      intro k hk n hn cs h
      obtain ⟨n, rfl⟩ : ∃ n', n = n' + 1 := ⟨n - 1, by omega⟩
      refine ⟨cs, ?_, fun i hi => h i (by omega), fun i hi => rfl⟩
      unfold m_M_enterClause_137
      rw [if_pos (by rw [ni_le (by omega) (by omega)]; omega), nI_add, nI_add, show 9 + (c + 1) = 10 + c by omega]
    | succ d ih =>
      intro k hk n hn cs h
      obtain ⟨n, rfl⟩ : ∃ n', n = n' + 1 := ⟨n - 1, by omega⟩
      obtain ⟨cs', e, g1, g2⟩ := ih (k + 1) (by omega) n (by omega) (upd cs (3 * c + k) (nI (s.getD k 0))) (fun i hi => by
        by_cases e : i = k
        · subst e; exact pk_us
        · rw [pk_un (by omega)]; exact h i (by omega))
      refine ⟨cs', ?_, g1, fun i hi => by rw [g2 i hi, pk_un (by omega)]⟩
      conv => lhs; unfold m_M_enterClause_137
      rw [if_neg (by rw [ni_le (by omega) (by omega)]; omega), pk_mul 3 c, nI_add, inR_n (by omega), inR_n (by omega), decide_eq_true (show k < 3 by omega), decide_eq_true (show 3 * c + k < 6 by omega), if_pos rfl, if_pos rfl, nI_clamp (by omega), nI_clamp (by omega), hB k (by omega), nI_add]
      exact e
  exact key s.length 0 (by omega) 40 (by omega) cs (fun i hi => absurd hi (Nat.not_lt_zero i))
theorem cl86 {ty : Int32} {ln : Nat → Int32} {s : List Nat} (h2 : ∀ x ∈ s, x < 27) (h3 : 1 ≤ s.length ∧ s.length ≤ 3) {bo mn cs : Nat → Int32} (hB : BR s bo) {P : List (List Nat)} (hP : P.length ≤ 2) (hc : ∀ j, j < P.length → okB (P.getD j []) = true ∧ mn j = nI (P.getD j []).length ∧ ∀ k, k < (P.getD j []).length → cs (3 * j + k) = nI ((P.getD j []).getD k 0)) : m_M_enterClause_86 ty ln 40 (nI P.length) (nI s.length) mn cs bo (nI 0) = if kn P s = true then some (-102, nI P.length, nI s.length, mn, cs, bo) else if P.length = 2 then some (-103, nI P.length, nI s.length, mn, cs, bo) else m_M_enterClause_137 ty ln 40 (nI P.length) (nI s.length) (upd mn P.length (nI s.length)) cs bo (nI 0) := by
  have key : ∀ d j, j + d = P.length → ∀ n, d < n → m_M_enterClause_86 ty ln n (nI P.length) (nI s.length) mn cs bo (nI j) = if kn (P.drop j) s = true then some (-102, nI P.length, nI s.length, mn, cs, bo) else if P.length = 2 then some (-103, nI P.length, nI s.length, mn, cs, bo) else m_M_enterClause_137 ty ln 40 (nI P.length) (nI s.length) (upd mn P.length (nI s.length)) cs bo (nI 0) := by
    intro d
    induction d with
    | zero =>
      intro j hj n hn
      obtain ⟨n, rfl⟩ : ∃ n', n = n' + 1 := ⟨n - 1, by omega⟩
      conv => lhs; unfold m_M_enterClause_86
      rw [if_pos (by rw [ni_le (by omega) (by omega)]; omega), show P.drop j = [] from List.drop_eq_nil_of_le (by omega), if_neg (show ¬ kn [] s = true by simp [kn])]
      by_cases h9 : P.length = 2
      · rw [if_pos (by rw [h9]), if_pos h9]
      · rw [if_neg (by rw [ni_eq (by omega) (by decide)]; exact h9), if_neg h9, inR_n (by omega), decide_eq_true (show P.length < 2 by omega), if_pos rfl, nI_clamp (by omega)]
    | succ d ih =>
      intro j hj n hn
      obtain ⟨n, rfl⟩ : ∃ n', n = n' + 1 := ⟨n - 1, by omega⟩
      have hjl : j < P.length := by omega
      obtain ⟨a1, a2, a3⟩ := hc j hjl
      have he : P.drop j = P.getD j [] :: P.drop (j + 1) := by
        rw [List.drop_eq_getElem_cons hjl]
        simp [List.getD, hjl]
      have hk : kn (P.drop j) s = (decide (P.getD j [] = s) || kn (P.drop (j + 1)) s) := by
        rw [he]
        rfl
      conv => lhs; unfold m_M_enterClause_86
      rw [if_neg (by rw [ni_le (by omega) (by omega)]; omega), kn_n h2 h3 hB (show j < 2 by omega) a1 a2 a3, bs, hk, nI_add, ih (j + 1) (by omega) n (by omega)]
      dsimp only
      by_cases e : P.getD j [] = s
      · rw [decide_eq_true e, bi_t, if_neg n10, Bool.true_or, if_pos rfl]
      · rw [decide_eq_false e, bi_f, if_pos rfl, Bool.false_or]
  have := key P.length 0 (by omega) 40 (by omega)
  rw [List.drop_zero] at this
  exact this
/-- a body that was read, on both sides -/
theorem s_add {ty ct ct2 : Int32} {ln bd mn cs bo : Nat → Int32} (hR : RP ct bd ct2 mn cs) {s : List Nat} (h1 : s.Pairwise (· ≤ ·)) (h2 : ∀ x ∈ s, x < 27) (h3 : 1 ≤ s.length ∧ s.length ≤ 3) (hB : BR s bo) : ∃ (r ct' ct2' : Int32) (bd' mn' cs' : Nat → Int32), m_H_addClause ct bd (mk s) (nI s.length) = some (r, ct', bd') ∧ m_M_enterClause_10 ty ln 40 ct2 (nI s.length) mn cs bo (nI 0) (nI 0) (nI 0) = some (r, ct2', nI s.length, mn', cs', bo) ∧ RP ct' bd' ct2' mn' cs' := by
  have hR' := hR
  obtain ⟨P, hP, rfl, rfl, hc⟩ := hR
  rw [add_n hP (fun j hj => ⟨(hc j hj).1, (hc j hj).2.2.1⟩) h1 h2 h3, ec_n h2 h3 hB, cl86 h2 h3 hB hP (fun j hj => ⟨(hc j hj).1, (hc j hj).2.2.2.1, (hc j hj).2.2.2.2⟩)]
  by_cases ht : tw s = true
  · rw [if_pos ht, if_pos ht]
    exact ⟨_, _, _, _, _, _, rfl, rfl, hR'⟩
  rw [if_neg ht, if_neg ht]
  by_cases hh : (hasX s && hasY s) = true
  rotate_left
  · rw [if_neg hh, if_neg hh]
    exact ⟨_, _, _, _, _, _, rfl, rfl, hR'⟩
  rw [if_pos hh, if_pos hh]
  by_cases hk : kn P s = true
  · rw [if_pos hk, if_pos hk]
    exact ⟨_, _, _, _, _, _, rfl, rfl, hR'⟩
  rw [if_neg hk, if_neg hk]
  by_cases h9 : P.length = 2
  · rw [if_pos h9, if_pos h9]
    exact ⟨_, _, _, _, _, _, rfl, rfl, hR'⟩
  rw [if_neg h9, if_neg h9]
  obtain ⟨cs', e, g1, g2⟩ := ap_n (ty := ty) (ln := ln) h3.2 hB (show P.length < 2 by omega) (upd mn P.length (nI s.length)) cs
  refine ⟨_, _, _, _, _, _, rfl, e, P ++ [s], by rw [List.length_append, List.length_singleton]; omega, by rw [List.length_append, List.length_singleton], by rw [List.length_append, List.length_singleton], fun j hj => ?_⟩
  rw [List.length_append, List.length_singleton] at hj
  by_cases hjl : j < P.length
  · have eg : (P ++ [s]).getD j [] = P.getD j [] := by
      rw [List.getD_eq_getElem?_getD, List.getD_eq_getElem?_getD, List.getElem?_append_left hjl]
    obtain ⟨a1, a2, a3, a4, a5⟩ := hc j hjl
    have hL := (cl_len _ a1).2
    rw [eg]
    exact ⟨a1, a2, by rw [pk_un (by omega)]; exact a3, by rw [pk_un (by omega)]; exact a4, fun k hk => by rw [g2 _ (by omega)]; exact a5 k hk⟩
  · have ej : j = P.length := by omega
    subst ej
    have eg : (P ++ [s]).getD P.length [] = s := by
      rw [List.getD_eq_getElem?_getD, List.getElem?_append_right (Nat.le_refl _), Nat.sub_self]
      rfl
    rw [eg]
    exact ⟨tw_no h1 h2 h3 (by simpa using ht), hh, pk_us, pk_us, g1⟩
/-- enter on a statement for a clause -/
theorem enter_clause {n m : Nat} {ty ln : Nat → Int32} {ch : Nat → Nat} (hty : ∀ j, j < n → ty j = nI (ch j) ∧ 32 ≤ ch j ∧ ch j ≤ 126) (hln : ∀ j, j < n → ln j = nI (ch j) ∧ 32 ≤ ch j ∧ ch j ≤ 126) (hq : fpos (fun p => kB (ch 0) (ch p) p) n 0 = n) (hm : 1 ≤ m ∧ m ≤ 3) (hn : n = 7 + 7 * m) (hw : wB (ch 0) n = true) (hf : ch 0 = 116) {ct ct2 : Int32} {bd mn cs : Nat → Int32} (hR : RP ct bd ct2 mn cs) (pl mi rd : Int32) (fs fa mk0 bo : Nat → Int32) :
    ∃ (r ct' ct2' rd' : Int32) (bd' mn' cs' bo' : Nat → Int32), m_H_enter pl mi (nI n) ty fs ct bd = some (r, pl, mi, nI 0, fs, ct', bd') ∧ m_M_enter (nI n) ct2 rd ln fa mk0 mn cs bo = some (r, nI 0, ct2', rd', fa, mk0, mn', cs', bo') ∧ RP ct' bd' ct2' mn' cs' := by
  subst hn
  obtain ⟨hE, hF, -, hK⟩ := enter_yes (by omega) hty hln hq (by omega) hw
  have hC : tyC m ch := by
    intro i hi
    have hK1 := hK (8 + 7 * i) (by omega)
    have hK2 := hK (8 + 7 * i + 2) (by omega)
    have hK3 := hK (8 + 7 * i + 4) (by omega)
    rw [hf] at hK1 hK2 hK3
    exact ⟨kc_r (by omega) (hty _ (by omega)).2 hK1, kc_v (by omega) (hty _ (by omega)).2 (Or.inl hK2), kc_v (by omega) (hty _ (by omega)).2 (Or.inr hK3)⟩
  obtain ⟨bo', e1, hB⟩ := rd_n hm.2 hln hC rd bo
  obtain ⟨t0, b0⟩ := hty 0 (by omega)
  obtain ⟨l0, -⟩ := hln 0 (by omega)
  have hl := srt_len ch m
  obtain ⟨r, ct', ct2', bd', mn', cs', k1, k2, k3⟩ := s_add (ty := nI (7 + 7 * m)) (ln := ln) hR (srt_srt ch m) (srt_lt hC m (Nat.le_refl _)) (by rw [hl]; exact hm) hB
  rw [hl] at k1 k2
  refine ⟨r, ct', ct2', nI m, bd', mn', cs', bo', ?_, ?_, k3⟩
  · rw [hE]
    unfold m_H_carryOutLine
    rw [at_n (by omega) (by omega) t0 b0, bs]
    dsimp only
    rw [hf, if_pos rfl, tb_n hm.2 hty hC, bs, tl_n m (by omega), bs]
    dsimp only
    rw [← srt_mk, k1]
    rfl
  · unfold m_M_enter
    rw [hF, bs, if_pos (by decide), if_pos (by decide), show (nI 0).toNatClampNeg = 0 from rfl, l0, hf, if_pos rfl]
    unfold m_M_enterClause
    rw [e1, bs]
    dsimp only
    rw [k2]
    rfl
theorem s_enter {len len2 pl mi ct ct2 : Int32} {ty ln fs fa mk0 bd mn cs : Nat → Int32} (hL : RL len ty len2 ln) (hF : RF fs fa) (hM : RM pl mi mk0) (hR : RP ct bd ct2 mn cs) (rd : Int32) (bo : Nat → Int32) :
    ∃ (r pl' mi' ct' ct2' rd' : Int32) (fs' bd' fa' mk' mn' cs' bo' : Nat → Int32), m_H_enter pl mi len ty fs ct bd = some (r, pl', mi', nI 0, fs', ct', bd') ∧ m_M_enter len2 ct2 rd ln fa mk0 mn cs bo = some (r, nI 0, ct2', rd', fa', mk', mn', cs', bo') ∧ RF fs' fa' ∧ RM pl' mi' mk' ∧ RP ct' bd' ct2' mn' cs' := by
  obtain ⟨n, hn, rfl, rfl, hj⟩ := hL
  obtain ⟨ch, hch⟩ : ∃ ch : Nat → Nat, ∀ j, ch j = (ln j).toNatClampNeg := ⟨_, fun _ => rfl⟩
  have hln : ∀ j, j < n → ln j = nI (ch j) ∧ 32 ≤ ch j ∧ ch j ≤ 126 := by
    intro j h
    obtain ⟨-, c, c1, c2, e⟩ := hj j h
    have : ch j = c := by rw [hch, e, nI_clamp (by omega)]
    rw [this]
    exact ⟨e, c1, c2⟩
  have hty : ∀ j, j < n → ty j = nI (ch j) ∧ 32 ≤ ch j ∧ ch j ≤ 126 := fun j h => ⟨(hj j h).1.trans (hln j h).1, (hln j h).2⟩
  by_cases hno : fpos (fun p => kB (ch 0) (ch p) p) n 0 < n ∨ n = 0 ∨ wB (ch 0) n = false
  · obtain ⟨e1, e2⟩ := enter_no hn hty hln hno pl mi ct ct2 rd fs bd fa mk0 mn cs bo
    exact ⟨_, _, _, _, _, _, _, _, _, _, _, _, _, e1, e2, hF, hM, hR⟩
  · have hle := (fpos_le (fun p => kB (ch 0) (ch p) p) n 0).2
    have hq : fpos (fun p => kB (ch 0) (ch p) p) n 0 = n := by omega
    have h0 : 0 < n := by omega
    have hw : wB (ch 0) n = true := by
      cases hwb : wB (ch 0) n
      · exact absurd (Or.inr (Or.inr hwb)) hno
      · rfl
    obtain ⟨-, -, ⟨i, hi, ei⟩, -⟩ := enter_yes hn hty hln hq h0 hw
    have hw2 := hw
    rw [ei, show n = 1 + (n - 1) by omega] at hw2
    rcases wn_all hi (by omega) hw2 with ⟨h1, h2⟩ | ⟨h1, h2⟩ | ⟨h1, h2⟩
    · obtain ⟨r, fs', fa', e1, e2, e3⟩ := enter_fact hty hln hq (by omega) hw h1 ei hF pl mi ct ct2 rd bd mk0 mn cs bo
      exact ⟨_, _, _, _, _, _, _, _, _, _, _, _, _, e1, e2, e3, hM, hR⟩
    · obtain ⟨r, pl', mi', fs', fa', mk', e1, e2, e3, e4⟩ := enter_mark hty hln hq (by omega) hw hi h1 ei hF hM ct ct2 rd bd mn cs bo
      exact ⟨_, _, _, _, _, _, _, _, _, _, _, _, _, e1, e2, e3, e4, hR⟩
    · obtain ⟨r, ct', ct2', rd', bd', mn', cs', bo', e1, e2, e3⟩ := enter_clause (m := (n - 7) / 7) hty hln hq (by omega) (by omega) hw (by rw [ei, h1]; rfl) hR pl mi rd fs fa mk0 bo
      exact ⟨_, _, _, _, _, _, _, _, _, _, _, _, _, e1, e2, hF, hM, e3⟩
