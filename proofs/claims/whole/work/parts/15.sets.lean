abbrev bit (k : Nat) : Int32 := nI 1 <<< (nI k &&& 31)
theorem bt_or {x : Int32} {k i : Nat} (hk : k < 32) : bt (x ||| bit k) i = (bt x i || decide (i = k)) := by
  by_cases hi : i < 32
  · rw [b_or, bt_bit k hk i hi]
  · rw [b_big (by omega), b_big (by omega), decide_eq_false (by omega)]; rfl
theorem bt_an {x : Int32} {k i : Nat} (hk : k < 32) : bt (x &&& (bit k ^^^ (-1 : Int32))) i = (bt x i && !decide (i = k)) := by
  by_cases hi : i < 32
  · rw [b_and, b_xor, bt_bit k hk i hi, b_m1 i hi, Bool.xor_true]
  · rw [b_big (by omega), b_big (by omega)]; rfl
theorem or_eq {x : Int32} {k : Nat} (hk : k < 32) : (x ||| bit k = x) ↔ bt x k = true := by
  constructor
  · intro h
    have h2 := congrArg (fun y => bt y k) h
    simp only [bt_or hk] at h2
    simpa using h2
  · intro h
    refine b_ext (fun i hi => ?_)
    rw [bt_or hk]
    by_cases e : i = k
    · subst e; rw [h]; rfl
    · simp [e]
theorem an_eq {x : Int32} {k : Nat} (hk : k < 32) : (x &&& (bit k ^^^ (-1 : Int32)) = x) ↔ bt x k = false := by
  constructor
  · intro h
    have h2 := congrArg (fun y => bt y k) h
    simp only [bt_an hk] at h2
    simpa using h2
  · intro h
    refine b_ext (fun i hi => ?_)
    rw [bt_an hk]
    by_cases e : i = k
    · subst e; rw [h]; rfl
    · simp [e]
theorem s_setFact {fs fa : Nat → Int32} (h : RF fs fa) {r p v : Nat} (hr : r < 2) (hp : p < 16) (hv : v < 2) : ∃ (a : Int32) (fs' fa' : Nat → Int32), m_H_changeFacts fs (nI r) (bit p) (nI v) = some (a, fs') ∧ m_M_enterFact fa (nI (16 * r + p)) (nI v) = some (a, fa') ∧ RF fs' fa' := by
  obtain ⟨hf, hz⟩ := h r hr
  have e1 := hf p hp
  have er : decide (r < 2) = true := decide_eq_true hr
  have ep : decide (16 * r + p < 32) = true := decide_eq_true (by omega)
  have hne : ¬ (nI 1 : Int32) = nI 0 := by decide
  have key : ∀ (y : Int32) (g : Bool), (∀ i, bt y i = if i = p then g else bt (fs r) i) → (y = fs r ↔ bt (fs r) p = g) → (g = true ↔ v = 1) →
      ∃ (a : Int32), m_H_changeFacts_39 fs (nI r) (fs r) y (nI r) = some (a, upd fs r y) ∧ m_M_enterFact fa (nI (16 * r + p)) (nI v) = some (a, upd fa (16 * r + p) (nI v)) ∧ RF (upd fs r y) (upd fa (16 * r + p) (nI v)) := by
    intro y g hy he hg
    have hvz : isZ (nI v) = true := by
      rcases (show v = 0 ∨ v = 1 by omega) with rfl | rfl <;> decide
    have hfv : fa (16 * r + p) = nI v ↔ bt (fs r) p = g := by
      have hne2 : ¬ (nI 0 : Int32) = nI 1 := by decide
      rw [e1]
      rcases (show v = 0 ∨ v = 1 by omega) with rfl | rfl
      · have hg0 : g = false := by cases g <;> simp_all
        subst hg0
        cases hb : bt (fs r) p <;> simp [hne]
      · have hg0 : g = true := hg.mpr rfl
        subst hg0
        cases hb : bt (fs r) p <;> simp [hne2]
    refine ⟨if bt (fs r) p = g then nI 0 else nI 1, ?_, ?_, ?_⟩
    · unfold m_H_changeFacts_39
      simp (disch := omega) only [inR_n, nI_clamp, er, if_true, pk_us]
      by_cases hb : bt (fs r) p = g
      · rw [if_pos (he.mpr hb), if_pos hb]
      · rw [if_neg (fun h9 => hb (he.mp h9)), if_neg hb]
    · unfold m_M_enterFact m_M_enterFact_15
      simp (disch := omega) only [inR_n, nI_clamp, ep, if_true, hvz]
      by_cases hb : bt (fs r) p = g
      · rw [if_pos (hfv.mpr hb), if_pos hb]
      · rw [if_neg (fun h9 => hb (hfv.mp h9)), if_neg hb, if_neg hne]
    · intro r2 hr2
      by_cases e : r2 = r
      · subst e
        refine ⟨fun p2 hp2 => ?_, fun i hi => ?_⟩
        · rw [pk_us, hy]
          by_cases e2 : p2 = p
          · subst e2
            rw [pk_us, if_pos rfl]
            rcases (show v = 0 ∨ v = 1 by omega) with rfl | rfl
            · have : g = false := by cases g <;> simp_all
              rw [this]; rfl
            · rw [hg.mpr rfl]; rfl
          · rw [pk_un (by omega), if_neg e2]
            exact hf p2 hp2
        · rw [pk_us, hy, if_neg (by omega)]
          exact hz i hi
      · refine ⟨fun p2 hp2 => ?_, fun i hi => ?_⟩
        · rw [pk_un e, pk_un (by omega)]
          exact (h r2 hr2).1 p2 hp2
        · rw [pk_un e]
          exact (h r2 hr2).2 i hi
  have hcf : ∀ y, m_H_changeFacts fs (nI r) y (nI v) = if nI v = nI 0 then m_H_changeFacts_39 fs (nI r) (fs r) (fs r &&& (y ^^^ (-1 : Int32))) (nI r) else m_H_changeFacts_39 fs (nI r) (fs r) (fs r ||| y) (nI r) := by
    intro y
    unfold m_H_changeFacts m_H_isFactRelation
    simp (disch := omega) only [ni_lt, ni_le, Nat.not_lt_zero, Nat.not_le.mpr hr, if_false, bs, inR_n, nI_clamp, er, if_true, if_neg hne]
  rw [hcf]
  rcases (show v = 0 ∨ v = 1 by omega) with rfl | rfl
  · obtain ⟨a, k1, k2, k3⟩ := key (fs r &&& (bit p ^^^ (-1 : Int32))) false (fun i => by
      rw [bt_an (by omega)]
      by_cases e : i = p
      · simp [e]
      · simp [e]) (an_eq (by omega)) (by simp)
    exact ⟨a, _, _, by rw [if_pos rfl]; exact k1, k2, k3⟩
  · obtain ⟨a, k1, k2, k3⟩ := key (fs r ||| bit p) true (fun i => by
      rw [bt_or (by omega)]
      by_cases e : i = p
      · simp [e]
      · simp [e]) (or_eq (by omega)) (by simp)
    exact ⟨a, _, _, by rw [if_neg hne]; exact k1, k2, k3⟩
