/-- enter on a statement that begins with +, - or ~ -/
theorem enter_mark {n : Nat} {ty ln : Nat → Int32} {ch : Nat → Nat} (hty : ∀ j, j < n → ty j = nI (ch j) ∧ 32 ≤ ch j ∧ ch j ≤ 126) (hln : ∀ j, j < n → ln j = nI (ch j) ∧ 32 ≤ ch j ∧ ch j ≤ 126) (hq : fpos (fun p => kB (ch 0) (ch p) p) n 0 = n) (hn : n = 7) (hw : wB (ch 0) n = true) {i : Nat} (hi : i < 6) (hi2 : 2 < i) (hf : ch 0 = fl i) {fs fa : Nat → Int32} (hR : RF fs fa) {pl mi : Int32} {mk : Nat → Int32} (hM : RM pl mi mk) (ct ct2 rd : Int32) (bd mn cs bo : Nat → Int32) :
    ∃ (r pl' mi' : Int32) (fs' fa' mk' : Nat → Int32), m_H_enter pl mi (nI n) ty fs ct bd = some (r, pl', mi', nI 0, fs', ct, bd) ∧ m_M_enter (nI n) ct2 rd ln fa mk mn cs bo = some (r, nI 0, ct2, rd, fa', mk', mn, cs, bo) ∧ RF fs' fa' ∧ RM pl' mi' mk' := by
  subst hn
  obtain ⟨hE, hF, -, hB⟩ := enter_yes (by decide) hty hln hq (by decide) hw
  obtain ⟨t0, b0, b0'⟩ := hty 0 (by decide)
  obtain ⟨t1, b1, b1'⟩ := hty 1 (by decide)
  obtain ⟨t3, b3, b3'⟩ := hty 3 (by decide)
  obtain ⟨t5, b5, b5'⟩ := hty 5 (by decide)
  obtain ⟨l0, -, -⟩ := hln 0 (by decide)
  obtain ⟨l1, -, -⟩ := hln 1 (by decide)
  obtain ⟨l3, -, -⟩ := hln 3 (by decide)
  obtain ⟨l5, -, -⟩ := hln 5 (by decide)
  have d3 := cm_d i hi hi2 (ch 3 - 32) (by omega) (Or.inl (by rw [show 32 + (ch 3 - 32) = ch 3 by omega, ← hf]; exact hB 3 (by decide)))
  have d5 := cm_d i hi hi2 (ch 5 - 32) (by omega) (Or.inr (by rw [show 32 + (ch 5 - 32) = ch 5 by omega, ← hf]; exact hB 5 (by decide)))
  have d1 := cm_r hi hi2 ⟨b1, b1'⟩ (by rw [← hf]; exact hB 1 (by decide))
  obtain ⟨a, ha, ea⟩ : ∃ a, a < 4 ∧ ch 3 = 48 + a := ⟨ch 3 - 48, by omega, by omega⟩
  obtain ⟨b, hb, eb⟩ : ∃ b, b < 4 ∧ ch 5 = 48 + b := ⟨ch 5 - 48, by omega, by omega⟩
  rw [ea] at t3 l3
  rw [eb] at t5 l5
  have hp : 4 * a + b < 16 := by omega
  have hn116 : ¬ nI (ch 0) = nI 116 := by
    rw [hf]
    rcases (show i = 3 ∨ i = 4 ∨ i = 5 by omega) with rfl | rfl | rfl <;> decide
  have hH : m_H_enter pl mi (nI 7) ty fs ct bd = Option.bind (if nI (ch 0) = nI 43 then Option.bind (m_H_changeMarks pl mi (pl ||| bit (4 * a + b)) (mi &&& (bit (4 * a + b) ^^^ (-1 : Int32)))) (fun v => some (v.1, v.2.1, v.2.2, fs, ct, bd))
      else if nI (ch 0) = nI 45 then Option.bind (m_H_changeMarks pl mi (pl &&& (bit (4 * a + b) ^^^ (-1 : Int32))) (mi ||| bit (4 * a + b))) (fun v => some (v.1, v.2.1, v.2.2, fs, ct, bd))
      else if nI (ch 0) = nI 126 then Option.bind (m_S_indexOf1 0 (nI (ch 1))) (fun w => if w.1 = nI 2 then Option.bind (m_H_changeMarks pl mi (pl &&& (bit (4 * a + b) ^^^ (-1 : Int32))) (mi &&& (bit (4 * a + b) ^^^ (-1 : Int32)))) (fun v => some (v.1, v.2.1, v.2.2, fs, ct, bd)) else Option.bind (m_H_changeFacts fs w.1 (bit (4 * a + b)) (nI 0)) (fun v => some (v.1, pl, mi, v.2, ct, bd)))
      else Option.bind (m_S_indexOf1 0 (nI (ch 0))) (fun w => Option.bind (m_H_changeFacts fs w.1 (bit (4 * a + b)) (nI 1)) (fun v => some (v.1, pl, mi, v.2, ct, bd)))) (fun v => some (v.1, v.2.1, v.2.2.1, nI 0, v.2.2.2.1, v.2.2.2.2.1, v.2.2.2.2.2)) := by
    rw [hE]
    unfold m_H_carryOutLine
    rw [at_n (by decide) (by decide) t0 ⟨b0, b0'⟩, bs]
    dsimp only
    rw [if_neg hn116, pair_n (by decide) (by decide) ha hb t3 t5, bs]
    dsimp only
    rw [at_n (by decide) (by decide) t1 ⟨b1, b1'⟩, bs, if_pos (show inN 0 = true by decide), if_pos (show inN 0 = true by decide)]
  have hMe : m_M_enter (nI 7) ct2 rd ln fa mk mn cs bo = if nI (ch 1) = nI 116 then (if nI (ch 0) = nI 43 then m_M_enter_128 ln (nI 0) ct2 rd fa mk mn cs bo (nI 1) (nI (4 * a + b)) else if nI (ch 0) = nI 45 then m_M_enter_128 ln (nI 0) ct2 rd fa mk mn cs bo (-1) (nI (4 * a + b)) else m_M_enter_128 ln (nI 0) ct2 rd fa mk mn cs bo (nI 0) (nI (4 * a + b)))
      else Option.bind (m_M_relationOf (nI (ch 1))) (fun v => m_M_enter_154 ln (nI 0) ct2 rd fa mk mn cs bo (nI 0) (nI 16 * v.1 + nI (4 * a + b))) := by
    unfold m_M_enter
    rw [hF, bs, if_pos (by decide), if_pos (by decide), show (nI 0).toNatClampNeg = 0 from rfl, l0, if_neg hn116]
    rw [show (nI 7 - nI 4 : Int32) = nI 3 from rfl, show (nI 7 - nI 2 : Int32) = nI 5 from rfl, show (nI 7 - nI 6 : Int32) = nI 1 from rfl, if_pos (by decide), if_pos (by decide), show (nI 3).toNatClampNeg = 3 from rfl, show (nI 5).toNatClampNeg = 5 from rfl, l3, l5]
    unfold letN
    dsimp only
    rw [if_pos (by decide), show (nI 1).toNatClampNeg = 1 from rfl, l1]
    rw [pk_sub (show 48 ≤ 48 + a by omega), show 48 + a - 48 = a by omega, pk_mul 4 a, nI_add, pk_sub (show 48 ≤ 4 * a + (48 + b) by omega), show 4 * a + (48 + b) - 48 = 4 * a + b by omega]
    have g0 : inR (nI 0) 32 = true := by decide
    have g7 : ¬ (nI 7 : Int32) = nI 6 := by decide
    simp only [g0, if_true, if_neg g7]
  rw [hH, hMe]
  unfold m_M_enter_128 m_M_enter_154
  rcases (show i = 3 ∨ i = 4 ∨ i = 5 by omega) with rfl | rfl | rfl
  · have e1 : ch 1 = 116 := by omega
    have e0 : ch 0 = 43 := hf
    obtain ⟨r, mk', k1, k2, k3⟩ := s_markPlus hM hp
    refine ⟨r, _, _, fs, fa, mk', ?_, ?_, hR, k3⟩
    · rw [e0, if_pos rfl, k1]; rfl
    · rw [e0, e1, if_pos rfl, if_pos rfl, k2]; rfl
  · have e1 : ch 1 = 116 := by omega
    have e0 : ch 0 = 45 := hf
    obtain ⟨r, mk', k1, k2, k3⟩ := s_markMinus hM hp
    refine ⟨r, _, _, fs, fa, mk', ?_, ?_, hR, k3⟩
    · rw [e0, if_neg (by decide), if_pos rfl, k1]; rfl
    · rw [e0, e1, if_pos rfl, if_neg (by decide), if_pos rfl, k2]; rfl
  · have e0 : ch 0 = 126 := hf
    have n43 : ¬ (nI 126 : Int32) = nI 43 := by decide
    have n45 : ¬ (nI 126 : Int32) = nI 45 := by decide
    rw [e0]
    simp only [n43, n45, if_false, if_true]
    rcases d1 with e1 | ⟨-, e1⟩
    · obtain ⟨r, mk', k1, k2, k3⟩ := s_markNone hM hp
      refine ⟨r, _, _, fs, fa, mk', ?_, ?_, hR, k3⟩
      · rw [e1, ix_r.2.2, bs, if_pos rfl, k1]; rfl
      · rw [e1, if_pos rfl, k2]; rfl
    · obtain ⟨j, hj, ej⟩ : ∃ j, j < 2 ∧ ch 1 = fl j := by
        rcases e1 with e1 | e1
        · exact ⟨0, by decide, e1⟩
        · exact ⟨1, by decide, e1⟩
      obtain ⟨r, fs', fa', k1, k2, k3⟩ := s_setFact hR (r := j) (p := 4 * a + b) (v := 0) hj hp (by decide)
      refine ⟨r, pl, mi, fs', fa', mk, ?_, ?_, k3, hM⟩
      · have h1 : m_S_indexOf1 0 (nI (ch 1)) = some (nI j, ()) := by
          rw [ej]
          rcases (show j = 0 ∨ j = 1 by omega) with rfl | rfl
          · exact ix_r.1
          · exact ix_r.2.1
        rw [h1, bs, if_neg (by show ¬ nI j = nI 2; rw [ni_eq (by omega) (by decide)]; omega), k1]
        rfl
      · have h1 : m_M_relationOf (nI (ch 1)) = some (nI j, ()) ∧ ¬ nI (ch 1) = nI 116 := by
          rw [ej]
          rcases (show j = 0 ∨ j = 1 by omega) with rfl | rfl <;> decide
        rw [if_neg h1.2, h1.1, bs]
        dsimp only
        rw [pk_mul 16 j, nI_add, k2]
        rfl
