def mv (g1 g2 : Bool) : Int32 := if g1 then nI 1 else if g2 then (-1 : Int32) else nI 0
theorem mv_inj : ∀ a b c d : Bool, (a = true → b = false) → (c = true → d = false) → (mv a b = mv c d ↔ a = c ∧ b = d) := by decide +kernel
theorem s_setMark0 {pl mi : Int32} {mk : Nat → Int32} (h : RM pl mi mk) {p : Nat} (hp : p < 16) {y1 y2 : Int32} {g1 g2 : Bool} (h1 : ∀ i, bt y1 i = if i = p then g1 else bt pl i) (h2 : ∀ i, bt y2 i = if i = p then g2 else bt mi i) (e1 : y1 = pl ↔ bt pl p = g1) (e2 : y2 = mi ↔ bt mi p = g2) (hg : g1 = true → g2 = false) :
    ∃ (a : Int32) (mk' : Nat → Int32), m_H_changeMarks pl mi y1 y2 = some (a, y1, y2) ∧ m_M_enterMark mk (nI p) (mv g1 g2) = some (a, mk') ∧ RM y1 y2 mk' := by
  obtain ⟨hm, hx, hz⟩ := h
  have ep : decide (p < 16) = true := decide_eq_true hp
  have hne : ¬ (nI 1 : Int32) = nI 0 := by decide
  have hv : mk p = mv g1 g2 ↔ bt pl p = g1 ∧ bt mi p = g2 := by
    rw [hm p hp]
    exact mv_inj _ _ _ _ (hx p) hg
  refine ⟨if bt pl p = g1 ∧ bt mi p = g2 then nI 0 else nI 1, upd mk p (mv g1 g2), ?_, ?_, ?_, ?_, ?_⟩
  · unfold m_H_changeMarks m_H_changeMarks_20 m_H_changeMarks_21
    by_cases a1 : bt pl p = g1
    · rw [if_pos (e1.mpr a1)]
      by_cases a2 : bt mi p = g2
      · rw [if_pos (e2.mpr a2), if_neg hne, if_pos ⟨a1, a2⟩]
      · rw [if_neg (fun h9 => a2 (e2.mp h9)), if_pos rfl, if_neg (fun h9 => a2 h9.2)]
    · rw [if_neg (fun h9 => a1 (e1.mp h9)), if_pos rfl, if_neg (fun h9 => a1 h9.1)]
  · unfold m_M_enterMark m_M_enterMark_15
    simp (disch := omega) only [inR_n, nI_clamp, ep, if_true]
    by_cases a : bt pl p = g1 ∧ bt mi p = g2
    · rw [if_pos (hv.mpr a), if_pos a]
    · rw [if_neg (fun h9 => a (hv.mp h9)), if_neg a, if_neg hne]
  · intro p2 hp2
    rw [h1, h2]
    by_cases e : p2 = p
    · subst e
      rw [pk_us, if_pos rfl, if_pos rfl]
      rfl
    · rw [pk_un e, if_neg e, if_neg e]
      exact hm p2 hp2
  · intro i hi
    rw [h1] at hi
    rw [h2]
    by_cases e : i = p
    · rw [if_pos e] at hi ⊢
      exact hg hi
    · rw [if_neg e] at hi ⊢
      exact hx i hi
  · intro i hi
    rw [h1, h2, if_neg (by omega), if_neg (by omega)]
    exact hz i hi
theorem bo_i {x : Int32} {p : Nat} (hp : p < 16) (i : Nat) : bt (x ||| bit p) i = if i = p then true else bt x i := by
  rw [bt_or (by omega)]
  by_cases e : i = p <;> simp [e]
theorem ba_i {x : Int32} {p : Nat} (hp : p < 16) (i : Nat) : bt (x &&& (bit p ^^^ (-1 : Int32))) i = if i = p then false else bt x i := by
  rw [bt_an (by omega)]
  by_cases e : i = p <;> simp [e]
theorem s_markPlus {pl mi : Int32} {mk : Nat → Int32} (h : RM pl mi mk) {p : Nat} (hp : p < 16) : ∃ (a : Int32) (mk' : Nat → Int32), m_H_changeMarks pl mi (pl ||| bit p) (mi &&& (bit p ^^^ (-1 : Int32))) = some (a, pl ||| bit p, mi &&& (bit p ^^^ (-1 : Int32))) ∧ m_M_enterMark mk (nI p) (nI 1) = some (a, mk') ∧ RM (pl ||| bit p) (mi &&& (bit p ^^^ (-1 : Int32))) mk' :=
  s_setMark0 (g1 := true) (g2 := false) h hp (bo_i hp) (ba_i hp) (or_eq (by omega)) (an_eq (by omega)) (fun _ => rfl)
theorem s_markMinus {pl mi : Int32} {mk : Nat → Int32} (h : RM pl mi mk) {p : Nat} (hp : p < 16) : ∃ (a : Int32) (mk' : Nat → Int32), m_H_changeMarks pl mi (pl &&& (bit p ^^^ (-1 : Int32))) (mi ||| bit p) = some (a, pl &&& (bit p ^^^ (-1 : Int32)), mi ||| bit p) ∧ m_M_enterMark mk (nI p) (-1) = some (a, mk') ∧ RM (pl &&& (bit p ^^^ (-1 : Int32))) (mi ||| bit p) mk' :=
  s_setMark0 (g1 := false) (g2 := true) h hp (ba_i hp) (bo_i hp) (an_eq (by omega)) (or_eq (by omega)) (fun h9 => absurd h9 (by decide))
theorem s_markNone {pl mi : Int32} {mk : Nat → Int32} (h : RM pl mi mk) {p : Nat} (hp : p < 16) : ∃ (a : Int32) (mk' : Nat → Int32), m_H_changeMarks pl mi (pl &&& (bit p ^^^ (-1 : Int32))) (mi &&& (bit p ^^^ (-1 : Int32))) = some (a, pl &&& (bit p ^^^ (-1 : Int32)), mi &&& (bit p ^^^ (-1 : Int32))) ∧ m_M_enterMark mk (nI p) (nI 0) = some (a, mk') ∧ RM (pl &&& (bit p ^^^ (-1 : Int32))) (mi &&& (bit p ^^^ (-1 : Int32))) mk' :=
  s_setMark0 (g1 := false) (g2 := false) h hp (ba_i hp) (ba_i hp) (an_eq (by omega)) (an_eq (by omega)) (fun _ => rfl)
