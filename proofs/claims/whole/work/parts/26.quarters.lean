theorem s_u64 : ∀ n, n < 64 → (((nI n).toInt64.toUInt64 &&& Int64.toUInt64 63).toBitVec % 64).toNat = n := by decide +kernel
theorem lush_b (x : Int64) {k : Nat} (hk : k < 64) (i : Nat) : bl (lush x (nI k)) i = bl x (k + i) := by
  show (x.toUInt64 >>> ((nI k).toInt64.toUInt64 &&& Int64.toUInt64 63)).toBitVec.getLsbD i = x.toUInt64.toBitVec.getLsbD (k + i)
  rw [UInt64.toBitVec_shiftRight]
  show (x.toUInt64.toBitVec >>> (((nI k).toInt64.toUInt64 &&& Int64.toUInt64 63).toBitVec % 64).toNat).getLsbD i = _
  rw [s_u64 k hk, BitVec.getLsbD_ushiftRight]
theorem l2i_b (x : Int64) {i : Nat} (hi : i < 32) : bt x.toInt32 i = bl x i := by
  unfold bt bl
  rw [Int64.toBitVec_toInt32]
  have h64 : i < 64 := by omega
  rw [BitVec.getLsbD_signExtend, if_pos h64, decide_eq_true hi, Bool.true_and]
theorem quart (g : Int32) (fc : Nat → Int64) (y : Int64) : ∃ r : Int32, m_D_pairsFrom_84 g fc y = some (r, ()) ∧ (∀ p, p < 16 → bt r p = (bl y p || bl y (16 + p) || bl y (32 + p) || bl y (48 + p))) ∧ ∀ i, 16 ≤ i → bt r i = false := by
  refine ⟨_, rfl, fun p hp => ?_, fun i hi => ?_⟩
  · rw [b_and, show (nI 65535 : Int32) = 65535 from rfl, b_65535, decide_eq_true hp, Bool.and_true, l2i_b _ (by omega), l_or, l_or, l_or, lush_b _ (by decide), lush_b _ (by decide), lush_b _ (by decide)]
  · rw [b_and, show (nI 65535 : Int32) = 65535 from rfl, b_65535, decide_eq_false (by omega), Bool.and_false]
