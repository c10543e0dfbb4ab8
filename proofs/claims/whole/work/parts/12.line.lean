-- the line: which characters go on
def fix (f : Nat) : Nat := if f = 43 then 5 else if f = 45 then 6 else if f = 97 then 3 else if f = 98 then 3 else if f = 116 then 7 else if f = 126 then 4 else 8
def kK (f c p : Nat) : Option (Int32 × Unit) := if p < xlen.getD (fix f) 0 then Option.bind (m_S_charAt (fix f) (nI p)) (fun v => m_L_allows v.1 (nI c)) else some (nI 0, ())
def kG (f c p : Nat) : Option (Int32 × Unit) := m_M_goesOn (fun j => if j = 0 then nI f else nI c) (nI p)
def kB (f c p : Nat) : Bool := decide (kK f c p = some (nI 1, ()))
theorem lk_97 : ∀ c, c < 95 → ∀ p, p < 31 → kG 97 (32 + c) (1 + p) = kK 97 (32 + c) (1 + p) := by decide +kernel
theorem lk_98 : ∀ c, c < 95 → ∀ p, p < 31 → kG 98 (32 + c) (1 + p) = kK 98 (32 + c) (1 + p) := by decide +kernel
theorem lk_116 : ∀ c, c < 95 → ∀ p, p < 31 → kG 116 (32 + c) (1 + p) = kK 116 (32 + c) (1 + p) := by decide +kernel
theorem lk_43 : ∀ c, c < 95 → ∀ p, p < 31 → kG 43 (32 + c) (1 + p) = kK 43 (32 + c) (1 + p) := by decide +kernel
theorem lk_45 : ∀ c, c < 95 → ∀ p, p < 31 → kG 45 (32 + c) (1 + p) = kK 45 (32 + c) (1 + p) := by decide +kernel
theorem lk_126 : ∀ c, c < 95 → ∀ p, p < 31 → kG 126 (32 + c) (1 + p) = kK 126 (32 + c) (1 + p) := by decide +kernel
theorem lk_0 : ∀ c, c < 95 → kG (32 + c) (32 + c) 0 = kK (32 + c) (32 + c) 0 := by decide +kernel
theorem kf_0 : ∀ c, c < 95 → kB (32 + c) (32 + c) 0 = true → (32 + c = 97 ∨ 32 + c = 98 ∨ 32 + c = 116 ∨ 32 + c = 43 ∨ 32 + c = 45 ∨ 32 + c = 126) := by decide +kernel
theorem kv_a : ∀ i, i < 9 → ∀ c, c < 95 → ∀ p, p < xlen.getD i 0 → ∃ b : Bool, Option.bind (m_S_charAt i (nI p)) (fun v => m_L_allows v.1 (nI (32 + c))) = some (if b then nI 1 else nI 0, ()) := by decide +kernel
theorem kK_v {f c p : Nat} (hc : 32 ≤ c ∧ c ≤ 126) : kK f c p = some (if kB f c p then nI 1 else nI 0, ()) := by
  have h1 : ∃ b : Bool, kK f c p = some (if b then nI 1 else nI 0, ()) := by
    unfold kK
    by_cases h : p < xlen.getD (fix f) 0
    · rw [if_pos h]
      have hi : fix f < 9 := by unfold fix; repeat' split <;> try decide
      have := kv_a (fix f) hi (c - 32) (by omega) p h
      rwa [show 32 + (c - 32) = c by omega] at this
    · rw [if_neg h]; exact ⟨false, rfl⟩
  obtain ⟨b, h⟩ := h1
  unfold kB
  rw [h]
  cases b
  · rw [decide_eq_false (by decide)]
  · rw [decide_eq_true (by decide)]
theorem kG_K {f c p : Nat} (hf : f = 97 ∨ f = 98 ∨ f = 116 ∨ f = 43 ∨ f = 45 ∨ f = 126) (hc : 32 ≤ c ∧ c ≤ 126) (hp : 1 ≤ p ∧ p < 32) : kG f c p = kK f c p := by
  have e1 : 32 + (c - 32) = c := by omega
  have e2 : 1 + (p - 1) = p := by omega
  rcases hf with rfl | rfl | rfl | rfl | rfl | rfl
  · have := lk_97 (c - 32) (by omega) (p - 1) (by omega); rwa [e1, e2] at this
  · have := lk_98 (c - 32) (by omega) (p - 1) (by omega); rwa [e1, e2] at this
  · have := lk_116 (c - 32) (by omega) (p - 1) (by omega); rwa [e1, e2] at this
  · have := lk_43 (c - 32) (by omega) (p - 1) (by omega); rwa [e1, e2] at this
  · have := lk_45 (c - 32) (by omega) (p - 1) (by omega); rwa [e1, e2] at this
  · have := lk_126 (c - 32) (by omega) (p - 1) (by omega); rwa [e1, e2] at this
