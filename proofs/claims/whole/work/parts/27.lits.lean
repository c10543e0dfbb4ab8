theorem val_n {w x y z : Nat} (hw : w < 3) (hx : x < 4) (hy : y < 4) (hz : z < 4) : m_M_valueOf (nI w) (nI x) (nI y) (nI z) = some (nI (va3 w (16 * z + 4 * x + y)), ()) := by
  unfold m_M_valueOf va3
  simp (disch := omega) only [ni_eq]
  rcases (show w = 0 ∨ w = 1 ∨ w = 2 by omega) with rfl | rfl | rfl
  · rw [if_pos rfl, if_pos rfl, show (16 * z + 4 * x + y) / 4 % 4 = x by omega]
  · rw [if_neg (by decide), if_pos rfl, if_neg (by decide), if_pos rfl, show (16 * z + 4 * x + y) % 4 = y by omega]
  · rw [if_neg (by decide), if_neg (by decide), if_neg (by decide), if_neg (by decide), show (16 * z + 4 * x + y) / 16 = z by omega]
/-- the reference's literal: the same as gLit -/
theorem lit_n {a b g : Nat} {fa ro : Nat → Int32} (hfa : ∀ r, r < 2 → ∀ p, p < 16 → fa (16 * r + p) = bi ((if r = 0 then a else b).testBit p)) (hro : ∀ p, p < 16 → (ro p ≤ nI 0 ↔ g.testBit p = false)) {c x y z : Nat} (hc : c < 27) (hx : x < 4) (hy : y < 4) (hz : z < 4) : m_M_literalHolds fa ro (nI c) (nI x) (nI y) (nI z) = some (bi (gLit a b g c (16 * z + 4 * x + y)), ()) := by
  have d3 : nI c / nI 3 = nI (c / 3) := pk_div (by omega) (by decide) (by decide)
  have d9 : nI c / nI 9 = nI (c / 9) := pk_div (by omega) (by decide) (by decide)
  have v1 := va3_lt (w := c / 3 % 3) (t := 16 * z + 4 * x + y) (by omega)
  have v2 := va3_lt (w := c % 3) (t := 16 * z + 4 * x + y) (by omega)
  unfold m_M_literalHolds gLit fLit
  rw [d3, d9, irm_n (by omega) (by decide) (by decide), irm_n (by omega) (by decide) (by decide), val_n (by omega) hx hy hz, val_n (by omega) hx hy hz, bs, bs]
  dsimp only
  generalize va3 (c / 3 % 3) (16 * z + 4 * x + y) = w1 at v1
  generalize va3 (c % 3) (16 * z + 4 * x + y) = w2 at v2
  rw [pk_mul 4 w1, nI_add]
  by_cases h : c < 18
  · have hr : c / 9 < 2 := by omega
    have e := hfa (c / 9) hr (4 * w1 + w2) (by omega)
    have e2 : (if c / 9 = 0 then a else b) = (if c < 9 then a else b) := by
      by_cases h9 : c < 9
      · rw [if_pos h9, if_pos (by omega)]
      · rw [if_neg h9, if_neg (by omega)]
    rw [e2] at e
    rw [if_neg (by rw [ni_le (by decide) (by omega)]; omega), if_pos h, pk_mul 16 (c / 9), nI_add, inR_n (by omega), decide_eq_true (show 16 * (c / 9) + (4 * w1 + w2) < 32 by omega), nI_clamp (by omega), if_pos rfl, e, if_pos (by cases (if c < 9 then a else b).testBit (4 * w1 + w2) <;> decide)]
  · rw [if_pos (by rw [ni_le (by decide) (by omega)]; omega), if_neg h, inR_n (by omega), decide_eq_true (show 4 * w1 + w2 < 16 by omega), nI_clamp (by omega), if_pos rfl]
    cases hb : g.testBit (4 * w1 + w2)
    · rw [if_pos ((hro _ (by omega)).mpr hb)]; rfl
    · rw [if_neg (fun h9 => by rw [(hro _ (by omega)).mp h9] at hb; cases hb)]; rfl
