theorem keep_n (ct oc : Int32) (mn cs om ocs : Nat → Int32) : ∃ om' oc' : Nat → Int32, m_M_keep ct oc mn cs om ocs = some (ct, om', oc') ∧ (∀ i, i < 2 → om' i = mn i) ∧ ∀ i, i < 6 → oc' i = cs i := by
  refine ⟨_, _, rfl, ?_, ?_⟩
  · intro i hi
    rcases (show i = 0 ∨ i = 1 by omega) with rfl | rfl <;> rfl
  · intro i hi
    rcases (show i = 0 ∨ i = 1 ∨ i = 2 ∨ i = 3 ∨ i = 4 ∨ i = 5 by omega) with rfl | rfl | rfl | rfl | rfl | rfl <;> rfl
theorem put_n (ct oc : Int32) (mn cs om ocs : Nat → Int32) : ∃ mn' cs' : Nat → Int32, m_M_putBack ct oc mn cs om ocs = some (oc, mn', cs') ∧ (∀ i, i < 2 → mn' i = om i) ∧ ∀ i, i < 6 → cs' i = ocs i := by
  refine ⟨_, _, rfl, ?_, ?_⟩
  · intro i hi
    rcases (show i = 0 ∨ i = 1 by omega) with rfl | rfl <;> rfl
  · intro i hi
    rcases (show i = 0 ∨ i = 1 ∨ i = 2 ∨ i = 3 ∨ i = 4 ∨ i = 5 by omega) with rfl | rfl | rfl | rfl | rfl | rfl <;> rfl
theorem RP_same {ct ct2 : Int32} {bd mn cs mn' cs' : Nat → Int32} (h : RP ct bd ct2 mn cs) (h1 : ∀ i, i < 2 → mn' i = mn i) (h2 : ∀ i, i < 6 → cs' i = cs i) : RP ct bd ct2 mn' cs' := by
  obtain ⟨P, hP, e1, e2, hc⟩ := h
  refine ⟨P, hP, e1, e2, fun j hj => ?_⟩
  obtain ⟨a1, a2, a3, a4, a5⟩ := hc j hj
  have hL := (cl_len _ a1).2
  exact ⟨a1, a2, a3, by rw [h1 j (by omega)]; exact a4, fun k hk => by rw [h2 _ (by omega)]; exact a5 k hk⟩
theorem RP1 {l : List Nat} {mn cs : Nat → Int32} (bd : Nat → Int32) (h1 : okB l = true) (h2 : (hasX l && hasY l) = true) (h3 : rep [l] mn cs) : RP (becm none l bd).1 (becm none l bd).2 (nI 1) mn cs := by
  refine ⟨[l], by simp, rfl, rfl, fun j hj => ?_⟩
  have : j = 0 := by simpa using hj
  subst this
  obtain ⟨a4, a5⟩ := h3 0 (by simp)
  refine ⟨h1, h2, ?_, a4, a5⟩
  show upd (upd bd 0 (mk l)) 1 (nI 0) 0 = mk l
  rw [pk_un (by decide), pk_us]
theorem RP2 {l0 l : List Nat} {mn cs : Nat → Int32} (bd : Nat → Int32) (h0 : okB l0 = true) (h0' : (hasX l0 && hasY l0) = true) (h1 : okB l = true) (h2 : (hasX l && hasY l) = true) (h3 : rep ((some l0).toList ++ [l]) mn cs) : RP (becm (some l0) l bd).1 (becm (some l0) l bd).2 (nI 2) mn cs := by
  refine ⟨[l0, l], by simp, rfl, rfl, fun j hj => ?_⟩
  have hj : j < 2 := by simpa using hj
  rcases (show j = 0 ∨ j = 1 by omega) with rfl | rfl
  · obtain ⟨a4, a5⟩ := h3 0 (by simp)
    refine ⟨h0, h0', ?_, a4, a5⟩
    show upd (upd bd 0 (mk l0)) 1 (mk l) 0 = mk l0
    rw [pk_un (by decide), pk_us]
  · obtain ⟨a4, a5⟩ := h3 1 (by simp)
    refine ⟨h1, h2, ?_, a4, a5⟩
    show upd (upd bd 0 (mk l0)) 1 (mk l) 1 = mk l
    rw [pk_us]
theorem find2_ok {pl mi : Int32} {fc : Nat → Int64} {s : Nat} (hs : s = 2 ∨ s = 3) {v : Option (List Nat) × List Nat} (h : fs1 (find2 pl mi fc s) 27 0 = some v) : ∃ p : Nat, p < 27 ∧ (hasX [p] && hasY [p]) = true ∧ v.1 = some [p] ∧ okB v.2 = true ∧ (hasX v.2 && hasY v.2) = true := by
  obtain ⟨p, -, hp, e⟩ := fs1_spec h
  unfold find2 at e
  cases hh : hd p
  · rw [hh, if_neg (by decide)] at e
    exact absurd e (by simp)
  · rw [hh, if_pos rfl] at e
    cases hf : find1 (tst pl mi fc (some [p])) (s - 1) [] (if s = 2 then p + 1 else 0) with
    | none => rw [hf] at e; exact absurd e (by simp)
    | some l =>
      rw [hf] at e
      have e2 := Option.some.inj e
      obtain ⟨k1, k2⟩ := find1_ok (asc_nil _) (by split <;> omega) (by simp; omega) (by simp; omega) hf
      unfold tst at k2
      rw [Bool.and_eq_true] at k2
      exact ⟨p, by omega, hh, by rw [← e2], by rw [← e2]; exact k1, by rw [← e2]; exact k2.1⟩
theorem learn_loop {pl mi ct ct2 : Int32} {fs fa mk0 bd mn cs om oc : Nat → Int32} {a b : Nat} {fc : Nat → Int64} (hR : RP ct bd ct2 mn cs) (hM : RM pl mi mk0) (hfa : ∀ r, r < 2 → ∀ p, p < 16 → fa (16 * r + p) = bi ((if r = 0 then a else b).testBit p)) (hfc : ∀ c, c < 18 → ∀ t, t < 64 → bl (fc c) t = fLit a b c t) (hom : ∀ i, i < 2 → om i = mn i) (hoc : ∀ i, i < 6 → oc i = cs i) : ∀ d s, s + d = 4 → 1 ≤ s → ∀ n1 n2, d < n1 → d < n2 → ∀ (gp rc : Int32) (gi : Nat → Int32) (cu la : Int32) (mn1 cs1 ro fr : Nat → Int32), ∃ (r ct' gp' rc' cu' la' : Int32) (bd' gi' mn' cs' ro' fr' : Nat → Int32), m_H_learn_21 pl mi fs n1 ct bd gp rc fc gi (nI s) = some (r, ct', bd', gp', rc', fc, gi') ∧ m_M_learn_6 fa mk0 n2 cu ct2 la mn1 cs1 om oc ro fr (nI s) = some (r, cu', ct2, la', mn', cs', om, oc, ro', fr') ∧ RP ct' bd' cu' mn' cs' := by
  intro d
  induction d with
  | zero =>
    intro s hs h1 n1 n2 hn1 hn2 gp rc gi cu la mn1 cs1 ro fr
    obtain ⟨n1, rfl⟩ : ∃ n', n1 = n' + 1 := ⟨n1 - 1, by omega⟩
    obtain ⟨n2, rfl⟩ : ∃ n', n2 = n' + 1 := ⟨n2 - 1, by omega⟩
    have hs4 : s = 4 := by omega
    subst hs4
    obtain ⟨mn', cs', e, q1, q2⟩ := put_n cu ct2 mn1 cs1 om oc
    refine ⟨nI 0, ct, gp, rc, ct2, la, bd, gi, mn', cs', ro, fr, ?_, ?_, RP_same hR (fun i hi => (q1 i hi).trans (hom i hi)) (fun i hi => (q2 i hi).trans (hoc i hi))⟩
    · conv => lhs; unfold m_H_learn_21
      rw [if_pos (by decide)]
    · conv => lhs; unfold m_M_learn_6
      rw [if_pos (by decide), e, bs]
  | succ d ih =>
    intro s hs h1 n1 n2 hn1 hn2 gp rc gi cu la mn1 cs1 ro fr
    obtain ⟨n1, rfl⟩ : ∃ n', n1 = n' + 1 := ⟨n1 - 1, by omega⟩
    obtain ⟨n2, rfl⟩ : ∃ n', n2 = n' + 1 := ⟨n2 - 1, by omega⟩
    have hs3 : s = 1 ∨ s = 2 ∨ s = 3 := by omega
    obtain ⟨gp1, rc1, gi1, e1⟩ := lb_n hM hfa hfc (Q := none) (fun l h => by simp at h) ct bd s 5 (by omega) [] 0 (asc_nil _) (by decide) (by simp; omega) (by simp; omega) gp rc gi
    rw [show bo none = nI 0 from rfl, show mk [] = nI 0 from rfl] at e1
    obtain ⟨la1, mn2, cs2, ro1, fr1, e2, p2⟩ := al_p hM hfa hfc hs3 27 0 (by omega) 40 (by omega) la mn1 cs1 ro fr
    rw [find_eq (tst pl mi fc none) hs3] at e2 p2
    have hH : ∀ x, m_H_learn_21 pl mi fs (n1 + 1) ct bd gp rc fc gi (nI s) = x ↔ (Option.bind (cres none ct bd gp1 rc1 gi1 (find1 (tst pl mi fc none) s [] 0)) (fun v_31 => (if v_31.1 = (nI 0) then (if nI s ≤ (nI 1) then m_H_learn_21 pl mi fs n1 v_31.2.1 v_31.2.2.1 v_31.2.2.2.1 v_31.2.2.2.2.1 fc v_31.2.2.2.2.2 (nI (s + 1)) else (Option.bind (m_H_learnTwoClauses pl mi v_31.2.1 v_31.2.2.1 v_31.2.2.2.1 v_31.2.2.2.2.1 fc v_31.2.2.2.2.2 (nI s)) (fun v_44 => (if v_44.1 = (nI 0) then m_H_learn_21 pl mi fs n1 v_44.2.1 v_44.2.2.1 v_44.2.2.2.1 v_44.2.2.2.2.1 fc v_44.2.2.2.2.2 (nI (s + 1)) else some (nI s, (v_44.2.1, v_44.2.2.1, v_44.2.2.2.1, v_44.2.2.2.2.1, fc, v_44.2.2.2.2.2)))))) else some (nI s, (v_31.2.1, v_31.2.2.1, v_31.2.2.2.1, v_31.2.2.2.2.1, fc, v_31.2.2.2.2.2))))) = x := by
      intro x
      conv => lhs; lhs; unfold m_H_learn_21
      unfold m_H_learn_52
      rw [if_neg (by rw [ni_lt (by decide) (by omega)]; omega), e1, nI_add]
    have hMM : ∀ x, m_M_learn_6 fa mk0 (n2 + 1) cu ct2 la mn1 cs1 om oc ro fr (nI s) = x ↔ (Option.bind (rres (nI 1) (some (nI 0, nI 1, la1, mn2, cs2, ro1, fr1)) la1 mn2 cs2 ro1 fr1 (find1 (tst pl mi fc none) s [] 0)) (fun v_13 => (if v_13.1 = (nI 0) then (if nI s ≤ (nI 1) then m_M_learn_6 fa mk0 n2 v_13.2.1 ct2 v_13.2.2.1 v_13.2.2.2.1 v_13.2.2.2.2.1 om oc v_13.2.2.2.2.2.1 v_13.2.2.2.2.2.2 (nI (s + 1)) else (Option.bind (m_M_pair v_13.2.1 v_13.2.2.1 fa mk0 v_13.2.2.2.1 v_13.2.2.2.2.1 v_13.2.2.2.2.2.1 v_13.2.2.2.2.2.2 (nI s)) (fun v_26 => (if v_26.1 = (nI 0) then m_M_learn_6 fa mk0 n2 v_26.2.1 ct2 v_26.2.2.1 v_26.2.2.2.1 v_26.2.2.2.2.1 om oc v_26.2.2.2.2.2.1 v_26.2.2.2.2.2.2 (nI (s + 1)) else some (nI s, (v_26.2.1, ct2, v_26.2.2.1, v_26.2.2.2.1, v_26.2.2.2.2.1, om, oc, v_26.2.2.2.2.2.1, v_26.2.2.2.2.2.2)))))) else some (nI s, (v_13.2.1, ct2, v_13.2.2.1, v_13.2.2.2.1, v_13.2.2.2.2.1, om, oc, v_13.2.2.2.2.2.1, v_13.2.2.2.2.2.2))))) = x := by
      intro x
      conv => lhs; lhs; unfold m_M_learn_6
      unfold m_M_learn_34
      have e3 : m_M_alone cu la fa mk0 mn1 cs1 ro fr (nI s) = rres (nI 1) (some (nI 0, nI 1, la1, mn2, cs2, ro1, fr1)) la1 mn2 cs2 ro1 fr1 (find1 (tst pl mi fc none) s [] 0) := by
        unfold m_M_alone
        exact e2
      rw [if_neg (by rw [ni_le (by decide) (by omega)]; omega), e3, nI_add]
    cases hf : find1 (tst pl mi fc none) s [] 0 with
    | some l =>
      obtain ⟨k1, k2⟩ := find1_ok (asc_nil _) (by decide) (by simp; omega) (by simp; omega) hf
      unfold tst at k2
      rw [Bool.and_eq_true] at k2
      refine ⟨nI s, (becm none l bd).1, gp1, rc1, nI 1, la1, (becm none l bd).2, gi1, mn2, cs2, ro1, fr1, ?_, ?_, RP1 bd k1 k2.1 (p2 l hf)⟩
      · rw [hH, hf]
        unfold cres
        rw [bs]
        dsimp only
        rw [if_neg n10]
      · rw [hMM, hf]
        unfold rres
        rw [bs]
        dsimp only
        rw [if_neg n10]
    | none =>
      by_cases hs1 : s = 1
      · have hle : nI s ≤ nI 1 := by rw [ni_le (by omega) (by decide)]; omega
        obtain ⟨r, ct', gp', rc', cu', la', bd', gi', mn', cs', ro', fr', c1, c2, c3⟩ := ih (s + 1) (by omega) (by omega) n1 n2 (by omega) (by omega) gp1 rc1 gi1 (nI 1) la1 mn2 cs2 ro1 fr1
        refine ⟨r, ct', gp', rc', cu', la', bd', gi', mn', cs', ro', fr', ?_, ?_, c3⟩
        · rw [hH, hf]
          unfold cres
          rw [bs]
          dsimp only
          rw [if_pos rfl, if_pos hle]
          exact c1
        · rw [hMM, hf]
          unfold rres
          rw [bs]
          dsimp only
          rw [if_pos rfl, if_pos hle]
          exact c2
      · have hle : ¬ nI s ≤ nI 1 := by rw [ni_le (by omega) (by decide)]; omega
        have hs2 : s = 2 ∨ s = 3 := by omega
        obtain ⟨gp2, rc2, gi2, e4⟩ := lt_n hM hfa hfc ct bd hs2 27 0 (by omega) 40 (by omega) gp1 rc1 gi1
        obtain ⟨la2, mn3, cs3, ro2, fr2, e5, p5⟩ := pa_p hM hfa hfc hs2 27 0 (by omega) 40 (by omega) la1 mn2 cs2 ro1 fr1
        rw [find2_eq pl mi fc hs2] at e5 p5
        have e6 : m_H_learnTwoClauses pl mi ct bd gp1 rc1 fc gi1 (nI s) = cres2 ct bd gp2 rc2 gi2 (fs1 (find2 pl mi fc s) 27 0) := by
          unfold m_H_learnTwoClauses
          exact e4
        have e7 : m_M_pair (nI 1) la1 fa mk0 mn2 cs2 ro1 fr1 (nI s) = rres (nI 2) (some (nI 0, nI 2, la2, mn3, cs3, ro2, fr2)) la2 mn3 cs3 ro2 fr2 (fs1 (find2 pl mi fc s) 27 0) := by
          unfold m_M_pair
          exact e5
        cases hg : fs1 (find2 pl mi fc s) 27 0 with
        | some v =>
          obtain ⟨p, hp, k1, k2, k3, k4⟩ := find2_ok hs2 hg
          have hrep := p5 v hg
          rw [k2] at hrep
          refine ⟨nI s, (becm v.1 v.2 bd).1, gp2, rc2, nI 2, la2, (becm v.1 v.2 bd).2, gi2, mn3, cs3, ro2, fr2, ?_, ?_, by rw [k2]; exact RP2 bd (decide_eq_true hp) k1 k3 k4 hrep⟩
          · rw [hH, hf]
            unfold cres
            rw [bs]
            dsimp only
            rw [if_pos rfl, if_neg hle, e6, hg]
            unfold cres2
            rw [bs]
            dsimp only
            rw [if_neg n10]
          · rw [hMM, hf]
            unfold rres
            rw [bs]
            dsimp only
            rw [if_pos rfl, if_neg hle, e7, hg]
            unfold rres
            rw [bs]
            dsimp only
            rw [if_neg n10]
        | none =>
          obtain ⟨r, ct', gp', rc', cu', la', bd', gi', mn', cs', ro', fr', c1, c2, c3⟩ := ih (s + 1) (by omega) (by omega) n1 n2 (by omega) (by omega) gp2 rc2 gi2 (nI 2) la2 mn3 cs3 ro2 fr2
          refine ⟨r, ct', gp', rc', cu', la', bd', gi', mn', cs', ro', fr', ?_, ?_, c3⟩
          · rw [hH, hf]
            unfold cres
            rw [bs]
            dsimp only
            rw [if_pos rfl, if_neg hle, e6, hg]
            unfold cres2
            rw [bs]
            dsimp only
            rw [if_pos rfl]
            exact c1
          · rw [hMM, hf]
            unfold rres
            rw [bs]
            dsimp only
            rw [if_pos rfl, if_neg hle, e7, hg]
            unfold rres
            rw [bs]
            dsimp only
            rw [if_pos rfl]
            exact c2
theorem s_learn {ct ct2 pl mi : Int32} {bd mn cs fs fa mk0 : Nat → Int32} (h : RP ct bd ct2 mn cs) (hF : RF fs fa) (hM : RM pl mi mk0) (gp rc la oc : Int32) (fc : Nat → Int64) (gi ro fr om ocs : Nat → Int32) : ∃ (r ct' gp' rc' cu' oc' la' : Int32) (bd' gi' mn' cs' om' ocs' ro' fr' : Nat → Int32) (fc' : Nat → Int64), m_H_learn pl mi fs ct bd gp rc fc gi = some (r, ct', bd', gp', rc', fc', gi') ∧ m_M_learn ct2 oc la fa mk0 mn cs om ocs ro fr = some (r, cu', oc', la', mn', cs', om', ocs', ro', fr') ∧ RP ct' bd' cu' mn' cs' := by
  obtain ⟨a, b, ha, hb, ea, eb, hfa⟩ := rf_ab hF
  obtain ⟨fc', ef, hfc⟩ := take_n ha hb fc
  obtain ⟨om', ocs', ek, q1, q2⟩ := keep_n ct2 oc mn cs om ocs
  obtain ⟨r, ct', gp', rc', cu', la', bd', gi', mn', cs', ro', fr', c1, c2, c3⟩ := learn_loop (fs := fs) h hM hfa hfc q1 q2 3 1 (by omega) (by omega) 40 40 (by omega) (by omega) gp rc gi ct2 la mn cs ro fr
  refine ⟨r, ct', gp', rc', cu', ct2, la', bd', gi', mn', cs', om', ocs', ro', fr', fc', ?_, ?_, c3⟩
  · unfold m_H_learn
    rw [if_pos (by decide), if_pos (by decide), show (nI 0).toNatClampNeg = 0 from rfl, show (nI 1).toNatClampNeg = 1 from rfl, ea, eb, ef, bs]
    exact c1
  · unfold m_M_learn
    rw [ek, bs]
    exact c2
