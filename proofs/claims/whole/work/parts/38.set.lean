def vrs (c : Nat) : Int32 := bit (c / 3 % 3) ||| bit (c % 3)
theorem var_n : ∀ c, c < 27 → m_M_variables (nI c) = some (vrs c, ()) := by decide +kernel
theorem vrs_01 : ∀ c, c < 27 → bt (vrs c) 0 = (decide (c / 3 % 3 = 0) || decide (c % 3 = 0)) ∧ bt (vrs c) 1 = (decide (c / 3 % 3 = 1) || decide (c % 3 = 1)) := by decide +kernel
theorem b_3 : ∀ i, i < 32 → bt (nI 3) i = decide (i < 2) := by decide +kernel
theorem and3 (x : Int32) : (x &&& nI 3 = nI 3) ↔ bt x 0 = true ∧ bt x 1 = true := by
  constructor
  · intro h
    have h0 := congrArg (fun z => bt z 0) h
    have h1 := congrArg (fun z => bt z 1) h
    simp only [b_and, b_3 0 (by decide), b_3 1 (by decide)] at h0 h1
    simp at h0 h1
    exact ⟨h0, h1⟩
  · rintro ⟨h0, h1⟩
    refine b_ext (fun i hi => ?_)
    rw [b_and, b_3 i hi]
    by_cases h : i < 2
    · rcases (show i = 0 ∨ i = 1 by omega) with rfl | rfl
      · rw [h0]; rfl
      · rw [h1]; rfl
    · rw [decide_eq_false h, Bool.and_false]
def ol (l : List Nat) (i : Nat) : Int32 := if i < l.length then nI (l.getD i 0) else (-1 : Int32)
theorem z_m1 : ¬ nI 0 ≤ (-1 : Int32) := by decide
theorem set_n (mn cs : Nat → Int32) {j : Nat} (hj : j < 2) {l : List Nat} (hl : okB l = true) : ∃ mn' cs' : Nat → Int32, m_M_set mn cs (nI j) (ol l 0) (ol l 1) (ol l 2) = some (bi (hasX l && hasY l), mn', cs') ∧ mn' j = nI l.length ∧ (∀ i, ¬ i = j → mn' i = mn i) ∧ (∀ k, k < l.length → cs' (3 * j + k) = nI (l.getD k 0)) ∧ ∀ i, (i < 3 * j ∨ 3 * j + 3 ≤ i) → cs' i = cs i := by
  have ho : ∀ {c : Nat}, c < 27 → nI 0 ≤ nI c := fun {c} h => by rw [ni_le (by decide) (by omega)]; omega
  have e87 : ∀ (mn' cs' : Nat → Int32) (x y : Int32), (bt (y ||| x) 0 = hasX l) → (bt (y ||| x) 1 = hasY l) → m_M_set_87 mn' cs' x y = some (bi (hasX l && hasY l), mn', cs') := by
    intro mn' cs' x y h0 h1
    unfold m_M_set_87
    cases hX : hasX l
    · rw [if_neg (by rw [and3, h0, hX]; simp)]; rfl
    · cases hY : hasY l
      · rw [if_neg (by rw [and3, h1, hY]; simp)]; rfl
      · rw [if_pos (by rw [and3, h0, h1, hX, hY]; simp)]; rfl
  have i0 : inR (nI j) 2 = true := by rw [inR_n (by omega)]; exact decide_eq_true hj
  have i1 : inR (nI (3 * j)) 6 = true := by rw [inR_n (by omega)]; exact decide_eq_true (by omega)
  have i2 : inR (nI (3 * j + 1)) 6 = true := by rw [inR_n (by omega)]; exact decide_eq_true (by omega)
  have i3 : inR (nI (3 * j + 2)) 6 = true := by rw [inR_n (by omega)]; exact decide_eq_true (by omega)
  have fin : ∀ (x y z : Int32), (∀ k, k < l.length → (if k = 0 then x else if k = 1 then y else z) = nI (l.getD k 0)) → ((upd mn j (nI l.length)) j = nI l.length) ∧ (∀ i, ¬ i = j → (upd mn j (nI l.length)) i = mn i) ∧ (∀ k, k < l.length → (upd (upd (upd cs (3 * j) x) (3 * j + 1) y) (3 * j + 2) z) (3 * j + k) = nI (l.getD k 0)) ∧ ∀ i, (i < 3 * j ∨ 3 * j + 3 ≤ i) → (upd (upd (upd cs (3 * j) x) (3 * j + 1) y) (3 * j + 2) z) i = cs i := by
    intro x y z h
    have hL := (cl_len l hl).2
    refine ⟨pk_us, fun i hi => pk_un hi, fun k hk => ?_, fun i hi => ?_⟩
    · rw [← h k hk]
      rcases (show k = 0 ∨ k = 1 ∨ k = 2 by omega) with rfl | rfl | rfl
      · rw [pk_un (by omega), pk_un (by omega), Nat.add_zero, pk_us]; rfl
      · rw [pk_un (by omega), pk_us]; rfl
      · rw [pk_us]; rfl
    · rw [pk_un (by omega), pk_un (by omega), pk_un (by omega)]
  unfold m_M_set m_M_set_23 m_M_set_72
  rw [pk_mul 3 j, nI_add, nI_add, i0, i1, i2, i3, nI_clamp (by omega), nI_clamp (by omega), nI_clamp (by omega), nI_clamp (by omega)]
  simp only [if_true]
  match l, hl with
  | [p], hl =>
    have hp : p < 27 := of_decide_eq_true hl
    refine ⟨_, _, ?_, fin (nI p) (-1) (-1) (fun k hk => ?_)⟩
    · rw [show ol [p] 0 = nI p from rfl, show ol [p] 1 = (-1 : Int32) from rfl, show ol [p] 2 = (-1 : Int32) from rfl, if_neg z_m1, var_n p hp, bs, if_neg z_m1, if_neg z_m1]
      refine e87 _ _ _ _ ?_ ?_
      · rw [b_or, b_or, b_n0, (vrs_01 p hp).1]; simp [hasX]
      · rw [b_or, b_or, b_n0, (vrs_01 p hp).2]; simp [hasY]
    · have : k = 0 := by simpa using hk
      subst this
      rfl
  | [p, q], hl =>
    simp only [okB, Bool.and_eq_true, decide_eq_true_eq] at hl
    have hq : q < 27 := hl.2
    have hp : p < 27 := by omega
    refine ⟨_, _, ?_, fin (nI p) (nI q) (-1) (fun k hk => ?_)⟩
    · rw [show ol [p, q] 0 = nI p from rfl, show ol [p, q] 1 = nI q from rfl, show ol [p, q] 2 = (-1 : Int32) from rfl, if_pos (ho hq), if_neg z_m1, var_n p hp, bs, if_pos (ho hq), var_n q hq, bs, if_neg z_m1]
      refine e87 _ _ _ _ ?_ ?_
      · rw [b_or, b_or, b_n0, (vrs_01 p hp).1, (vrs_01 q hq).1]; simp [hasX]
      · rw [b_or, b_or, b_n0, (vrs_01 p hp).2, (vrs_01 q hq).2]; simp [hasY]
    · have : k < 2 := by simpa using hk
      rcases (show k = 0 ∨ k = 1 by omega) with rfl | rfl <;> rfl
  | [p, q, r], hl =>
    simp only [okB, Bool.and_eq_true, decide_eq_true_eq] at hl
    have hr : r < 27 := hl.2
    have hq : q < 27 := by omega
    have hp : p < 27 := by omega
    refine ⟨_, _, ?_, fin (nI p) (nI q) (nI r) (fun k hk => ?_)⟩
    · rw [show ol [p, q, r] 0 = nI p from rfl, show ol [p, q, r] 1 = nI q from rfl, show ol [p, q, r] 2 = nI r from rfl, if_pos (ho hq), if_pos (ho hr), var_n p hp, bs, if_pos (ho hq), var_n q hq, bs, if_pos (ho hr), var_n r hr, bs]
      refine e87 _ _ _ _ ?_ ?_
      · rw [b_or, b_or, (vrs_01 p hp).1, (vrs_01 q hq).1, (vrs_01 r hr).1]; simp [hasX, Bool.or_assoc]
      · rw [b_or, b_or, (vrs_01 p hp).2, (vrs_01 q hq).2, (vrs_01 r hr).2]; simp [hasY, Bool.or_assoc]
    · have : k < 3 := by simpa using hk
      rcases (show k = 0 ∨ k = 1 ∨ k = 2 by omega) with rfl | rfl | rfl <;> rfl
