section
-- small rows for the mirrors
def inR (i : Int32) (n : Nat) : Bool := decide (0 ≤ i.toInt) && decide (i.toInt < n)
theorem inR_iff {i : Int32} {n : Nat} : inR i n = true ↔ 0 ≤ i.toInt ∧ i.toInt < n := by simp [inR]
theorem inR_in {i : Int32} {n : Nat} (h : inR i n = true) : vp_in i n := vp_in_iff.mpr (inR_iff.mp h)
def isZ (x : Int32) : Bool := decide (x = 0) || decide (x = 1)
theorem isZ_iff {x : Int32} : isZ x = true ↔ x = 0 ∨ x = 1 := by simp [isZ]
theorem nrz {x : Int32} (h : isZ x = true) : narrow .boolean (.int x) = .int x := by
  rcases isZ_iff.mp h with rfl | rfl <;> rfl
theorem nar_z {x : Int32} (h : isZ x = true) : vp_nar .boolean x = x := by
  rcases isZ_iff.mp h with rfl | rfl <;> rfl
def isC (x : Int32) : Bool := decide (0 ≤ x.toInt) && decide (x.toInt < 65536)
theorem isC_iff {x : Int32} : isC x = true ↔ 0 ≤ x.toInt ∧ x.toInt < 65536 := by simp [isC]
theorem isC_nI {x : Int32} (h : isC x = true) : ∃ q : Nat, q < 65536 ∧ x = nI q := by
  obtain ⟨h1, h2⟩ := isC_iff.mp h
  exact vp_in_of (vp_in_iff.mpr ⟨h1, h2⟩) (by decide)
theorem nrc {x : Int32} (h : isC x = true) : narrow .char (.int x) = .int x := by
  obtain ⟨q, hq, rfl⟩ := isC_nI h
  exact (pk_charN hq).1
theorem nar_c {x : Int32} (h : isC x = true) : vp_nar .char x = x := by
  unfold vp_nar
  rw [nrc h]
def irm (x y : Int32) : Int32 := x - x / y * y
def iush (x y : Int32) : Int32 := (x.toUInt32 >>> (y.toUInt32 &&& Int32.toUInt32 31)).toInt32
def lush (x : Int64) (y : Int32) : Int64 := (x.toUInt64 >>> (y.toInt64.toUInt64 &&& Int64.toUInt64 63)).toInt64
def i2c (x : Int32) : Int32 := (x.toUInt32 % 65536).toInt32
theorem of_pos {α : Type} {c : Prop} [Decidable c] {a b r : α} (h : (if c then a else b) = r) (hc : c) : a = r := by rw [if_pos hc] at h; exact h
theorem of_neg {α : Type} {c : Prop} [Decidable c] {a b r : α} (h : (if c then a else b) = r) (hc : ¬ c) : b = r := by rw [if_neg hc] at h; exact h
theorem of_guard {α : Type} {b : Bool} {x : Option α} {r : α} (h : (if b = true then x else none) = some r) : b = true ∧ x = some r := by
  by_cases hb : b = true
  · rw [if_pos hb] at h; exact ⟨hb, h⟩
  · rw [if_neg hb] at h; cases h
theorem of_bind {α β : Type} {x : Option α} {f : α → Option β} {r : β} (h : Option.bind x f = some r) : ∃ v, x = some v ∧ f v = some r := by
  cases x with
  | none => cases h
  | some v => exact ⟨v, rfl, h⟩
def letN {α β : Type} (x : α) (f : α → β) : β := f x
theorem of_let {α β : Type} {x y : α} {f : α → β} {r : β} (h : letN x f = r) (e : y = x) : f y = r := by subst e; exact h
theorem W_gen {p : Program} {l : Launch} {e : Env} {R : Room} {s : State} {m : MethodId} {args : Array Value} {below : List Frame} {meth : Method} {c : Code} {H : Heap} {locs : List Loc} {cells slots : Nat} {Q0 : State → Prop} {g : JFrame} (k : ∀ Q : State → Prop, Q = Q0 → W p l e R s m args below meth c H locs cells slots Q g) : W p l e R s m args below meth c H locs cells slots Q0 g := k Q0 rfl
theorem W_heap {p : Program} {l : Launch} {e : Env} {R : Room} {s : State} {m : MethodId} {args : Array Value} {below : List Frame} {meth : Method} {c : Code} {H H0 : Heap} {locs : List Loc} {cells slots : Nat} {Q : State → Prop} {g : JFrame} (e1 : H = H0) (k : W p l e R s m args below meth c H locs cells slots Q g) : W p l e R s m args below meth c H0 locs cells slots Q g := e1 ▸ k
def bt (x : Int32) (i : Nat) : Bool := x.toBitVec.getLsbD i
theorem b_ext {x y : Int32} (h : ∀ i, i < 32 → bt x i = bt y i) : x = y := Int32.toBitVec_inj.mp (BitVec.eq_of_getLsbD_eq (fun i hi => h i hi))
theorem b_or (x y : Int32) (i : Nat) : bt (x ||| y) i = (bt x i || bt y i) := by unfold bt; rw [Int32.toBitVec_or, BitVec.getLsbD_or]
theorem b_and (x y : Int32) (i : Nat) : bt (x &&& y) i = (bt x i && bt y i) := by unfold bt; rw [Int32.toBitVec_and, BitVec.getLsbD_and]
theorem b_xor (x y : Int32) (i : Nat) : bt (x ^^^ y) i = (bt x i ^^ bt y i) := by unfold bt; rw [Int32.toBitVec_xor, BitVec.getLsbD_xor]
theorem b_big {x : Int32} {i : Nat} (h : 32 ≤ i) : bt x i = false := BitVec.getLsbD_of_ge _ _ h
theorem b_255 (i : Nat) : bt 255 i = decide (i < 8) := by
  rcases Nat.lt_or_ge i 32 with h | h
  · exact (by decide +kernel : ∀ i, i < 32 → bt 255 i = decide (i < 8)) i h
  · rw [b_big h, decide_eq_false (by omega)]
theorem b_65535 (i : Nat) : bt 65535 i = decide (i < 16) := by
  rcases Nat.lt_or_ge i 32 with h | h
  · exact (by decide +kernel : ∀ i, i < 32 → bt 65535 i = decide (i < 16)) i h
  · rw [b_big h, decide_eq_false (by omega)]
theorem b_m1 : ∀ i, i < 32 → bt (-1) i = true := by decide +kernel
theorem b_0 (i : Nat) : bt 0 i = false := BitVec.getLsbD_zero
theorem s_l : ∀ n, n < 32 → ((nI n &&& 31).toBitVec.smod 32).toNat = n := by decide +kernel
theorem s_u : ∀ n, n < 32 → (((nI n).toUInt32 &&& Int32.toUInt32 31).toBitVec % 32).toNat = n := by decide +kernel
theorem b_shl (n : Nat) (hn : n < 32) (x : Int32) {i : Nat} (hi : i < 32) : bt (x <<< (nI n &&& 31)) i = (decide (n ≤ i) && bt x (i - n)) := by
  unfold bt
  rw [Int32.toBitVec_shiftLeft]
  show (x.toBitVec <<< ((nI n &&& 31).toBitVec.smod 32).toNat).getLsbD i = _
  rw [s_l n hn, BitVec.getLsbD_shiftLeft]
  rcases Nat.lt_or_ge i n with h | h
  · simp [h, Nat.not_le.mpr h]
  · simp [hi, h, Nat.not_lt.mpr h]
theorem b_ushr (n : Nat) (hn : n < 32) (x : Int32) (i : Nat) : bt ((x.toUInt32 >>> ((nI n).toUInt32 &&& Int32.toUInt32 31)).toInt32) i = bt x (n + i) := by
  show (x.toUInt32 >>> ((nI n).toUInt32 &&& Int32.toUInt32 31)).toBitVec.getLsbD i = x.toUInt32.toBitVec.getLsbD (n + i)
  rw [UInt32.toBitVec_shiftRight]
  show (x.toUInt32.toBitVec >>> (((nI n).toUInt32 &&& Int32.toUInt32 31).toBitVec % 32).toNat).getLsbD i = _
  rw [s_u n hn, BitVec.getLsbD_ushiftRight]
theorem b_sshr (n : Nat) (hn : n < 32) (x : Int32) {i : Nat} (hi : i < 32) : bt (x >>> (nI n &&& 31)) i = if n + i < 32 then bt x (n + i) else bt x 31 := by
  unfold bt
  rw [Int32.toBitVec_shiftRight]
  show (x.toBitVec.sshiftRight ((nI n &&& 31).toBitVec.smod 32).toNat).getLsbD i = _
  rw [s_l n hn, BitVec.getLsbD_sshiftRight, BitVec.msb_eq_getLsbD_last]
  simp [hi]
theorem b_shl8 (x : Int32) {i : Nat} (hi : i < 32) : bt (x <<< ((8 : Int32) &&& 31)) i = (decide (8 ≤ i) && bt x (i - 8)) := b_shl 8 (by omega) x hi
theorem b_shl16 (x : Int32) {i : Nat} (hi : i < 32) : bt (x <<< ((16 : Int32) &&& 31)) i = (decide (16 ≤ i) && bt x (i - 16)) := b_shl 16 (by omega) x hi
theorem b_shl24 (x : Int32) {i : Nat} (hi : i < 32) : bt (x <<< ((24 : Int32) &&& 31)) i = (decide (24 ≤ i) && bt x (i - 24)) := b_shl 24 (by omega) x hi
theorem b_sshr8 (x : Int32) {i : Nat} (hi : i < 32) : bt (x >>> ((8 : Int32) &&& 31)) i = if 8 + i < 32 then bt x (8 + i) else bt x 31 := b_sshr 8 (by omega) x hi
theorem nx_and (a b : Nat) : nI a &&& nI b = nI (a &&& b) := by
  apply Int32.toBitVec_inj.1
  show BitVec.ofNat 32 a &&& BitVec.ofNat 32 b = BitVec.ofNat 32 (a &&& b)
  apply BitVec.eq_of_getLsbD_eq
  intro i hi
  simp [hi]
-- the constants: the table of choices, the texts, two statics of the JDK's
def tabL (j : Nat) : Int64 := ([4222189076152335, 67555025218437360, 1080880403494997760, -1152657617789587456, 1229782938247303441, 2459565876494606882, 4919131752989213764, -8608480567731124088, 65535, 4294901760, 281470681743360, -281474976710656] : List Int64).getD j 0
def xlen : List Nat := [3, 3, 8, 6, 7, 7, 7, 28, 0]
def xbyt : List (List Int32) := [[97, 98, 116], [88, 89, 90], [116, 40, 88, 44, 89, 41, 58, 45], [102, 40, 99, 44, 99, 41], [126, 114, 40, 99, 44, 99, 41], [43, 116, 40, 99, 44, 99, 41], [45, 116, 40, 99, 44, 99, 41], [116, 40, 88, 44, 89, 41, 58, 45, 114, 40, 118, 44, 118, 41, 44, 114, 40, 118, 44, 118, 41, 44, 114, 40, 118, 44, 118, 41], []]
def inN (i : Nat) : Bool := decide (i < 9)
theorem inN_lt {i : Nat} (h : inN i = true) : i < 9 := of_decide_eq_true h
end
section
def m_I_bitCount (x0 : Int32) : Option (Int32 × Unit) := (letN (((x0 - ((iush x0 (nI 1)) &&& (nI 1431655765))) &&& (nI 858993459)) + ((iush (x0 - ((iush x0 (nI 1)) &&& (nI 1431655765))) (nI 2)) &&& (nI 858993459))) (fun w_23 => (letN (((w_23 + (iush w_23 (nI 4))) &&& (nI 252645135)) + (iush ((w_23 + (iush w_23 (nI 4))) &&& (nI 252645135)) (nI 8))) (fun w_40 => some ((w_40 + (iush w_40 (nI 16))) &&& (nI 63), ())))))
def m_S_coder (x0 : Nat) : Option (Int32 × Unit) := (if (nI 1) = (nI 0) then some ((nI 1), ()) else (if inN x0 = true then some ((nI 0), ()) else none))
def m_S_isLatin1 (x0 : Nat) : Option (Int32 × Unit) := (if (nI 1) = (nI 0) then some ((nI 0), ()) else (if inN x0 = true then (if (nI 0) = (nI 0) then some ((nI 1), ()) else some ((nI 0), ())) else none))
def m_S_length (x0 : Nat) : Option (Int32 × Unit) := (if inN x0 = true then (if inN x0 = true then (if inN x0 = true then (Option.bind (m_S_coder x0) (fun v_6 => some ((nI (xlen.getD x0 0)) >>> (v_6.1 &&& 31), ()))) else none) else none) else none)
def m_Q_checkIndex (x0 : Int32) (x1 : Int32) : Option (Int32 × Unit) := (if x0 < (nI 0) then none else (if x0 < x1 then some (x0, ()) else none))
def m_S_checkIndex (x0 : Int32) (x1 : Int32) : Option Unit := (Option.bind (m_Q_checkIndex x0 x1) (fun v_5 => some ()))
def m_T_charAt (x0 : Nat) (x1 : Int32) : Option (Int32 × Unit) := (if inN x0 = true then (Option.bind (m_S_checkIndex x1 (nI (xlen.getD x0 0))) (fun v_3 => (if inN x0 = true then (if inR x1 (xlen.getD x0 0) = true then (if isC (i2c (((xbyt.getD x0 []).getD x1.toNatClampNeg 0) &&& (nI 255))) = true then some (i2c (((xbyt.getD x0 []).getD x1.toNatClampNeg 0) &&& (nI 255)), ()) else none) else none) else none))) else none)
def m_S_charAt (x0 : Nat) (x1 : Int32) : Option (Int32 × Unit) := (if inN x0 = true then (Option.bind (m_S_isLatin1 x0) (fun v_1 => (if v_1.1 = (nI 0) then none else (if inN x0 = true then (Option.bind (m_T_charAt x0 x1) (fun v_12 => (if isC v_12.1 = true then some (v_12.1, ()) else none))) else none)))) else none)
def m_T_canEncode (x0 : Int32) : Option (Int32 × Unit) := (if x0 < (nI 0) then some ((nI 0), ()) else (if (nI 255) < x0 then some ((nI 0), ()) else some ((nI 1), ())))
def m_T_indexOfChar_7 : Nat → Nat → Int32 → Int32 → Int32 → Option (Int32 × Unit)
  | 0, _, _, _, _ => none
  | n + 1, z0, z3, z4, z5 => (if z3 ≤ z5 then some ((-1 : Int32), ()) else (if inN z0 = true then (if inR z5 (xlen.getD z0 0) = true then (if ((xbyt.getD z0 []).getD z5.toNatClampNeg 0) = z4 then some (z5, ()) else m_T_indexOfChar_7 n z0 z3 z4 (z5 + (nI 1))) else none) else none))
def m_T_indexOfChar (x0 : Nat) (x1 : Int32) (x2 : Int32) (x3 : Int32) : Option (Int32 × Unit) := m_T_indexOfChar_7 40 x0 x3 x1.toInt8.toInt32 x2
def m_T_indexOf (x0 : Nat) (x1 : Int32) (x2 : Int32) (x3 : Int32) : Option (Int32 × Unit) := (Option.bind (m_T_canEncode x1) (fun v_1 => (if v_1.1 = (nI 0) then some ((-1 : Int32), ()) else (if inN x0 = true then (if (if x2 < (nI 0) then (nI 0) else x2) < (if nI (xlen.getD x0 0) < x3 then nI (xlen.getD x0 0) else x3) then (Option.bind (m_T_indexOfChar x0 x1 (if x2 < (nI 0) then (nI 0) else x2) (if nI (xlen.getD x0 0) < x3 then nI (xlen.getD x0 0) else x3)) (fun v_33 => some (v_33.1, ()))) else some ((-1 : Int32), ())) else none))))
def m_S_indexOf2 (x0 : Nat) (x1 : Int32) (x2 : Int32) : Option (Int32 × Unit) := (if inN x0 = true then (Option.bind (m_S_isLatin1 x0) (fun v_1 => (if v_1.1 = (nI 0) then none else (if inN x0 = true then (if inN x0 = true then (Option.bind (m_S_length x0) (fun v_14 => (Option.bind (m_T_indexOf x0 x1 x2 v_14.1) (fun v_17 => some (v_17.1, ()))))) else none) else none)))) else none)
def m_S_indexOf1 (x0 : Nat) (x1 : Int32) : Option (Int32 × Unit) := (if inN x0 = true then (Option.bind (m_S_indexOf2 x0 x1 (nI 0)) (fun v_3 => some (v_3.1, ()))) else none)
def m_H_isFactRelation (x0 : Int32) : Option (Int32 × Unit) := (if x0 < (nI 0) then some ((nI 0), ()) else (if (nI 2) ≤ x0 then some ((nI 0), ()) else some ((nI 1), ())))
def m_H_pairBit_23 (z0 : Int32) (z1 : Int32) (y0 : Int32) : Option (Int32 × Unit) := (if y0 = (nI 0) then some ((nI 0), ()) else some ((nI 1) <<< ((((nI 4) * z0) + z1) &&& 31), ()))
def m_H_pairBit_22 (z0 : Int32) (z1 : Int32) : Option (Int32 × Unit) := m_H_pairBit_23 z0 z1 (nI 0)
def m_H_pairBit (x0 : Int32) (x1 : Int32) : Option (Int32 × Unit) := (if x0 < (nI 0) then m_H_pairBit_22 x0 x1 else (if (nI 4) ≤ x0 then m_H_pairBit_22 x0 x1 else (if x1 < (nI 0) then m_H_pairBit_22 x0 x1 else (if (nI 4) ≤ x1 then m_H_pairBit_22 x0 x1 else m_H_pairBit_23 x0 x1 (nI 1)))))
def m_H_hasHeadVariables (x0 : Int32) : Option (Int32 × Unit) := (if (x0 &&& (nI 20749903)) = (nI 0) then some ((nI 0), ()) else (if (x0 &&& (nI 48854202)) = (nI 0) then some ((nI 0), ()) else some ((nI 1), ())))
def m_H_codeOf (x0 : Int32) (x1 : Int32) (x2 : Int32) : Option (Int32 × Unit) := some ((((nI 9) * x0) + ((nI 3) * x1)) + x2, ())
def m_H_relationOf (x0 : Int32) : Option (Int32 × Unit) := some (x0 / (nI 9), ())
def m_H_firstVariableOf (x0 : Int32) : Option (Int32 × Unit) := some (irm (x0 / (nI 3)) (nI 3), ())
def m_H_secondVariableOf (x0 : Int32) : Option (Int32 × Unit) := some (irm x0 (nI 3), ())
def m_H_leastCode (x0 : Int32) : Option (Int32 × Unit) := (Option.bind (m_I_bitCount ((x0 &&& (-x0)) - (nI 1))) (fun v_6 => some (v_6.1, ())))
def m_H_withoutLeastCode (x0 : Int32) : Option (Int32 × Unit) := some (x0 &&& (x0 - (nI 1)), ())
def m_H_codeAt_18 : Nat → Int32 → Int32 → Int32 → Option (Int32 × Unit)
  | 0, _, _, _ => none
  | n + 1, z1, z2, z3 => (if z1 ≤ z3 then (Option.bind (m_H_leastCode z2) (fun v_35 => some (v_35.1, ()))) else (Option.bind (m_H_withoutLeastCode z2) (fun v_24 => m_H_codeAt_18 n z1 v_24.1 (z3 + (nI 1)))))
def m_H_codeAt (x0 : Int32) (x1 : Int32) : Option (Int32 × Unit) := (if x1 < (nI 0) then some ((-1 : Int32), ()) else (Option.bind (m_I_bitCount x0) (fun v_6 => (if x1 < v_6.1 then m_H_codeAt_18 40 x1 x0 (nI 0) else some ((-1 : Int32), ())))))
def m_H_withVariableForZ_68 (k_7 : Int32 → Int32 → Int32 → Int32 → Option (Int32 × Unit)) (z1 : Int32) (z3 : Int32) (z4 : Int32) (y0 : Int32) (y1 : Int32) (y2 : Int32) (y3 : Int32) (y4 : Int32) : Option (Int32 × Unit) := (Option.bind (m_H_codeOf y2 y1 y0) (fun v_68 => (Option.bind (m_H_withoutLeastCode z3) (fun v_75 => k_7 z1 (y4 ||| (y3 <<< (v_68.1 &&& 31))) v_75.1 (z4 + (nI 1))))))
def m_H_withVariableForZ_56 (k_7 : Int32 → Int32 → Int32 → Int32 → Option (Int32 × Unit)) (z1 : Int32) (z3 : Int32) (z4 : Int32) (z7 : Int32) (y0 : Int32) (y1 : Int32) (y2 : Int32) (y3 : Int32) : Option (Int32 × Unit) := (if z7 = (nI 2) then m_H_withVariableForZ_68 k_7 z1 z3 z4 z1 y0 y1 y2 y3 else m_H_withVariableForZ_68 k_7 z1 z3 z4 z7 y0 y1 y2 y3)
def m_H_withVariableForZ_7 : Nat → Int32 → Int32 → Int32 → Int32 → Option (Int32 × Unit)
  | 0, _, _, _, _ => none
  | n + 1, z1, z2, z3, z4 => (if (nI 3) ≤ z4 then some (z2, ()) else (if z3 = (nI 0) then some (z2, ()) else (Option.bind (m_H_leastCode z3) (fun v_18 => (Option.bind (m_H_firstVariableOf v_18.1) (fun v_25 => (Option.bind (m_H_secondVariableOf v_18.1) (fun v_32 => (Option.bind (m_H_relationOf v_18.1) (fun v_41 => (if v_25.1 = (nI 2) then m_H_withVariableForZ_56 (m_H_withVariableForZ_7 n) z1 z3 z4 v_32.1 z1 v_41.1 (nI 1) z2 else m_H_withVariableForZ_56 (m_H_withVariableForZ_7 n) z1 z3 z4 v_32.1 v_25.1 v_41.1 (nI 1) z2)))))))))))
def m_H_withVariableForZ (x0 : Int32) (x1 : Int32) : Option (Int32 × Unit) := m_H_withVariableForZ_7 40 x1 (nI 0) x0 (nI 0)
def m_L_add (v_length : Int32) (v_typed : Nat → Int32) (x1 : Int32) : Option (Int32 × Int32 × (Nat → Int32)) := (if x1 < (nI 32) then some ((nI 0), (v_length, v_typed)) else (if (nI 126) < x1 then some ((nI 0), (v_length, v_typed)) else (if v_length < (nI 32) then (if inR v_length 32 = true then (if isC x1 = true then some ((nI 1), (v_length + (nI 1), upd v_typed v_length.toNatClampNeg x1)) else none) else none) else some ((nI 0), (v_length, v_typed)))))
def m_L_removeLast (v_length : Int32) : Option (Int32 × Int32) := (if v_length = (nI 0) then some ((nI 0), v_length) else some ((nI 1), v_length - (nI 1)))
def m_L_clear (v_length : Int32) : Option Int32 := some (nI 0)
def m_L_at (v_length : Int32) (v_typed : Nat → Int32) (x1 : Int32) : Option (Int32 × Unit) := (if x1 < (nI 0) then some ((nI 0), ()) else (if v_length ≤ x1 then some ((nI 0), ()) else (if inR x1 32 = true then (if isC (v_typed x1.toNatClampNeg) = true then some (v_typed x1.toNatClampNeg, ()) else none) else none)))
def m_L_form (v_length : Int32) (v_typed : Nat → Int32) : Option (Nat × Unit) := (Option.bind (m_L_at v_length v_typed (nI 0)) (fun v_2 => (if v_2.1 = (nI 43) then some (5, ()) else (if v_2.1 = (nI 45) then some (6, ()) else (if v_2.1 = (nI 97) then some (3, ()) else (if v_2.1 = (nI 98) then some (3, ()) else (if v_2.1 = (nI 116) then some (7, ()) else (if v_2.1 = (nI 126) then some (4, ()) else some (8, ())))))))))
def m_L_allows (x0 : Int32) (x1 : Int32) : Option (Int32 × Unit) := (if x0 = (nI 99) then (if x1 < (nI 48) then some ((nI 0), ()) else (if (nI 51) < x1 then some ((nI 0), ()) else some ((nI 1), ()))) else (if x0 = (nI 102) then (if x1 = (nI 97) then some ((nI 1), ()) else (if x1 = (nI 98) then some ((nI 1), ()) else some ((nI 0), ()))) else (if x0 = (nI 114) then (if x1 = (nI 97) then some ((nI 1), ()) else (if x1 = (nI 98) then some ((nI 1), ()) else (if x1 = (nI 116) then some ((nI 1), ()) else some ((nI 0), ())))) else (if x0 = (nI 118) then (if x1 = (nI 88) then some ((nI 1), ()) else (if x1 = (nI 89) then some ((nI 1), ()) else (if x1 = (nI 90) then some ((nI 1), ()) else some ((nI 0), ())))) else (if x1 = x0 then some ((nI 1), ()) else some ((nI 0), ()))))))
def m_L_begunStatement_7 (v_length : Int32) (v_typed : Nat → Int32) : Nat → Nat → Int32 → Option (Int32 × Unit)
  | 0, _, _ => none
  | n + 1, z1, z2 => (if v_length ≤ z2 then some (z2, ()) else (if inN z1 = true then (Option.bind (m_S_length z1) (fun v_17 => (if v_17.1 ≤ z2 then some (z2, ()) else (if inN z1 = true then (Option.bind (m_S_charAt z1 z2) (fun v_25 => (if inR z2 32 = true then (Option.bind (m_L_allows v_25.1 (v_typed z2.toNatClampNeg)) (fun v_34 => (if v_34.1 = (nI 0) then some (z2, ()) else m_L_begunStatement_7 v_length v_typed n z1 (z2 + (nI 1))))) else none))) else none)))) else none))
def m_L_begunStatement (v_length : Int32) (v_typed : Nat → Int32) : Option (Int32 × Unit) := (Option.bind (m_L_form v_length v_typed) (fun v_1 => m_L_begunStatement_7 v_length v_typed 40 v_1.1 (nI 0)))
def m_L_typedPair (v_length : Int32) (v_typed : Nat → Int32) : Option (Int32 × Unit) := (Option.bind (m_L_at v_length v_typed (v_length - (nI 4))) (fun v_7 => (Option.bind (m_L_at v_length v_typed (v_length - (nI 2))) (fun v_20 => (Option.bind (m_H_pairBit (v_7.1 - (nI 48)) (v_20.1 - (nI 48))) (fun v_26 => some (v_26.1, ())))))))
def m_L_typedLiterals (v_length : Int32) : Option (Int32 × Unit) := some (((v_length + (nI 1)) - (nI 8)) / (nI 7), ())
def m_L_endsStatement (v_length : Int32) (v_typed : Nat → Int32) (x1 : Int32) : Option (Int32 × Unit) := (if x1 = (nI 0) then some ((nI 0), ()) else (if v_length ≤ x1 then (if inR (nI 0) 32 = true then (if (v_typed (nI 0).toNatClampNeg) = (nI 116) then (Option.bind (m_L_typedLiterals v_length) (fun v_34 => (if v_length = ((nI 7) + ((nI 7) * v_34.1)) then (Option.bind (m_L_typedLiterals v_length) (fun v_43 => (if v_43.1 ≤ (nI 0) then some ((nI 0), ()) else some ((nI 1), ())))) else some ((nI 0), ())))) else (Option.bind (m_L_form v_length v_typed) (fun v_60 => (if inN v_60.1 = true then (Option.bind (m_S_length v_60.1) (fun v_63 => (if v_length = v_63.1 then some ((nI 1), ()) else some ((nI 0), ())))) else none)))) else none) else some ((nI 0), ())))
def m_L_typedBody_5 (v_length : Int32) (v_typed : Nat → Int32) : Nat → Int32 → Int32 → Option (Int32 × Unit)
  | 0, _, _ => none
  | n + 1, z1, z2 => (if v_length ≤ z2 then some (z1, ()) else (Option.bind (m_L_at v_length v_typed z2) (fun v_17 => (if inN 0 = true then (Option.bind (m_S_indexOf1 0 v_17.1) (fun v_20 => (Option.bind (m_L_at v_length v_typed (z2 + (nI 2))) (fun v_30 => (if inN 1 = true then (Option.bind (m_S_indexOf1 1 v_30.1) (fun v_33 => (Option.bind (m_L_at v_length v_typed (z2 + (nI 4))) (fun v_44 => (if inN 1 = true then (Option.bind (m_S_indexOf1 1 v_44.1) (fun v_47 => (Option.bind (m_H_codeOf v_20.1 v_33.1 v_47.1) (fun v_59 => m_L_typedBody_5 v_length v_typed n (z1 ||| ((nI 1) <<< (v_59.1 &&& 31))) (z2 + (nI 7)))))) else none))))) else none))))) else none))))
def m_L_typedBody (v_length : Int32) (v_typed : Nat → Int32) : Option (Int32 × Unit) := m_L_typedBody_5 v_length v_typed 40 (nI 0) (nI 8)
def m_P_bodyOf (v_count : Int32) (v_bodies : Nat → Int32) (x1 : Int32) : Option (Int32 × Unit) := (if x1 < (nI 0) then some ((nI 0), ()) else (if v_count ≤ x1 then some ((nI 0), ()) else (if inR x1 2 = true then some (v_bodies x1.toNatClampNeg, ()) else none)))
def m_P_contains (v_count : Int32) (v_bodies : Nat → Int32) (x1 : Int32) : Option (Int32 × Unit) := (Option.bind (m_P_bodyOf v_count v_bodies (nI 0)) (fun v_2 => (if v_2.1 = x1 then some ((nI 1), ()) else (Option.bind (m_P_bodyOf v_count v_bodies (nI 1)) (fun v_11 => (if v_11.1 = x1 then some ((nI 1), ()) else some ((nI 0), ())))))))
def m_P_append (v_count : Int32) (v_bodies : Nat → Int32) (x1 : Int32) : Option (Int32 × Int32 × (Nat → Int32)) := (if v_count < (nI 2) then (if inR v_count 2 = true then some ((v_count + (nI 1)) - (nI 1), (v_count + (nI 1), upd v_bodies v_count.toNatClampNeg x1)) else none) else some ((-1 : Int32), (v_count, v_bodies)))
def m_P_remove_26 (v_count : Int32) (v_bodies : Nat → Int32) : Option (Int32 × Int32 × (Nat → Int32)) := (if inR (nI 1) 2 = true then some ((nI 1), (v_count - (nI 1), upd v_bodies (nI 1).toNatClampNeg (nI 0))) else none)
def m_P_remove (v_count : Int32) (v_bodies : Nat → Int32) (x1 : Int32) : Option (Int32 × Int32 × (Nat → Int32)) := (Option.bind (m_P_bodyOf v_count v_bodies x1) (fun v_2 => (if v_2.1 = (nI 0) then some ((nI 0), (v_count, v_bodies)) else (if x1 = (nI 0) then (if inR (nI 1) 2 = true then (if inR (nI 0) 2 = true then m_P_remove_26 v_count (upd v_bodies (nI 0).toNatClampNeg (v_bodies (nI 1).toNatClampNeg)) else none) else none) else m_P_remove_26 v_count v_bodies))))
def m_P_become_42 (v_count : Int32) (v_bodies : Nat → Int32) (y0 : Int32) (y1 : Int32) : Option (Int32 × (Nat → Int32)) := (if inR y1 2 = true then some (v_count, upd v_bodies y1.toNatClampNeg y0) else none)
def m_P_become_27 (v_count : Int32) (v_bodies : Nat → Int32) (z1 : Int32) (z2 : Int32) (y0 : Int32) (y1 : Int32) : Option (Int32 × (Nat → Int32)) := (if inR y1 2 = true then (if z1 = (nI 0) then m_P_become_42 v_count (upd v_bodies y1.toNatClampNeg y0) (nI 0) (nI 1) else m_P_become_42 v_count (upd v_bodies y1.toNatClampNeg y0) z2 (nI 1)) else none)
def m_P_become_10 (v_count : Int32) (v_bodies : Nat → Int32) (z1 : Int32) (z2 : Int32) (y0 : Int32) : Option (Int32 × (Nat → Int32)) := (if z1 = (nI 0) then m_P_become_27 y0 v_bodies z1 z2 z2 (nI 0) else m_P_become_27 y0 v_bodies z1 z2 z1 (nI 0))
def m_P_become (v_count : Int32) (v_bodies : Nat → Int32) (x1 : Int32) (x2 : Int32) : Option (Int32 × (Nat → Int32)) := (if x1 = (nI 0) then m_P_become_10 v_count v_bodies x1 x2 (nI 1) else m_P_become_10 v_count v_bodies x1 x2 (nI 2))
def m_P_textLength (x0 : Int32) : Option (Int32 × Unit) := (Option.bind (m_I_bitCount x0) (fun v_5 => some (((nI 8) + ((nI 7) * v_5.1)) - (nI 1), ())))
def m_P_letterOf (x0 : Int32) (x1 : Int32) : Option (Int32 × Unit) := (if (nI 8) ≤ x1 then (Option.bind (m_H_codeAt x0 ((x1 - (nI 8)) / (nI 7))) (fun v_21 => (if (nI 0) ≤ v_21.1 then (letN (irm (x1 - (nI 8)) (nI 7)) (fun w_38 => (if w_38 = (nI 0) then (Option.bind (m_H_relationOf v_21.1) (fun v_79 => (if inN 0 = true then (Option.bind (m_S_charAt 0 v_79.1) (fun v_82 => some (v_82.1, ()))) else none))) else (if w_38 = (nI 1) then some ((nI 40), ()) else (if w_38 = (nI 2) then (Option.bind (m_H_firstVariableOf v_21.1) (fun v_92 => (if inN 1 = true then (Option.bind (m_S_charAt 1 v_92.1) (fun v_95 => some (v_95.1, ()))) else none))) else (if w_38 = (nI 3) then some ((nI 44), ()) else (if w_38 = (nI 4) then (Option.bind (m_H_secondVariableOf v_21.1) (fun v_102 => (if inN 1 = true then (Option.bind (m_S_charAt 1 v_102.1) (fun v_105 => some (v_105.1, ()))) else none))) else (if w_38 = (nI 5) then some ((nI 41), ()) else some ((nI 44), ()))))))))) else some ((-1 : Int32), ())))) else (if inN 2 = true then (Option.bind (m_S_charAt 2 x1) (fun v_9 => some (v_9.1, ()))) else none))
def m_P_letterAt_63 (v_count : Int32) (v_bodies : Nat → Int32) (k_4 : Int32 → Int32 → Option (Int32 × Unit)) (z2 : Int32) (z3 : Int32) (z4 : Int32) : Option (Int32 × Unit) := k_4 (z2 - (z4 + (nI 1))) (z3 + (nI 1))
def m_P_letterAt_4 (v_count : Int32) (v_bodies : Nat → Int32) : Nat → Int32 → Int32 → Option (Int32 × Unit)
  | 0, _, _ => none
  | n + 1, z2, z3 => (if v_count ≤ z3 then some ((-1 : Int32), ()) else (if z2 < (nI 0) then some ((-1 : Int32), ()) else (if inR z3 2 = true then (Option.bind (m_P_textLength (v_bodies z3.toNatClampNeg)) (fun v_22 => (if v_22.1 ≤ z2 then (if z2 = v_22.1 then (if v_count ≤ (z3 + (nI 1)) then m_P_letterAt_63 v_count v_bodies (m_P_letterAt_4 v_count v_bodies n) z2 z3 v_22.1 else some ((nI 59), ())) else m_P_letterAt_63 v_count v_bodies (m_P_letterAt_4 v_count v_bodies n) z2 z3 v_22.1) else (if inR z3 2 = true then (Option.bind (m_P_letterOf (v_bodies z3.toNatClampNeg) z2) (fun v_40 => some (v_40.1, ()))) else none)))) else none)))
def m_P_letterAt (v_count : Int32) (v_bodies : Nat → Int32) (x1 : Int32) : Option (Int32 × Unit) := m_P_letterAt_4 v_count v_bodies 40 x1 (nI 0)
def m_D_choicesWhere_56 (k_5 : Int32 → Int32 → Int32 → Int64 → Int32 → Option (Int64 × Unit)) (z0 : Int32) (z1 : Int32) (z2 : Int32) (z3 : Int64) (z5 : Int32) : Option (Int64 × Unit) := k_5 z0 z1 z2 z3 (z5 + (nI 1))
def m_D_choicesWhere_5 : Nat → Int32 → Int32 → Int32 → Int64 → Int32 → Option (Int64 × Unit)
  | 0, _, _, _, _, _ => none
  | n + 1, z0, z1, z2, z3, z5 => (if (nI 16) ≤ z5 then some (z3, ()) else (if (z0 >>> (z5 &&& 31)) = (nI 0) then some (z3, ()) else (if ((z0 >>> (z5 &&& 31)) &&& (nI 1)) = (nI 0) then m_D_choicesWhere_56 (m_D_choicesWhere_5 n) z0 z1 z2 z3 z5 else (if inR (((nI 4) * z1) + (z5 / (nI 4))) 12 = true then (if inR (((nI 4) * z2) + (irm z5 (nI 4))) 12 = true then (letN (z3 ||| ((tabL (((nI 4) * z1) + (z5 / (nI 4))).toNatClampNeg) &&& (tabL (((nI 4) * z2) + (irm z5 (nI 4))).toNatClampNeg))) (fun w_55 => m_D_choicesWhere_56 (m_D_choicesWhere_5 n) z0 z1 z2 w_55 z5)) else none) else none))))
def m_D_choicesWhere (x0 : Int32) (x1 : Int32) (x2 : Int32) : Option (Int64 × Unit) := m_D_choicesWhere_5 40 x0 x1 x2 (0 : Int64) (nI 0)
def m_D_pairsFrom_84 (v_givenPairs : Int32) (v_factChoices : Nat → Int64) (z2 : Int64) : Option (Int32 × Unit) := some (((((z2 ||| (lush z2 (nI 16))) ||| (lush z2 (nI 32))) ||| (lush z2 (nI 48))).toInt32) &&& (nI 65535), ())
def m_D_pairsFrom_69 (v_givenPairs : Int32) (v_factChoices : Nat → Int64) (k_16 : Int64 → Int32 → Int32 → Option (Int32 × Unit)) (z4 : Int32) (z5 : Int32) (y0 : Int64) (y1 : Int64) : Option (Int32 × Unit) := (Option.bind (m_H_withoutLeastCode z4) (fun v_73 => k_16 (y1 &&& y0) v_73.1 (z5 + (nI 1))))
def m_D_pairsFrom_16 (v_givenPairs : Int32) (v_factChoices : Nat → Int64) : Nat → Int64 → Int32 → Int32 → Option (Int32 × Unit)
  | 0, _, _, _ => none
  | n + 1, z2, z4, z5 => (if (nI 3) ≤ z5 then m_D_pairsFrom_84 v_givenPairs v_factChoices z2 else (if z4 = (nI 0) then m_D_pairsFrom_84 v_givenPairs v_factChoices z2 else (Option.bind (m_H_leastCode z4) (fun v_29 => (if (nI 18) ≤ v_29.1 then (Option.bind (m_H_firstVariableOf v_29.1) (fun v_58 => (Option.bind (m_H_secondVariableOf v_29.1) (fun v_63 => (Option.bind (m_D_choicesWhere v_givenPairs v_58.1 v_63.1) (fun v_66 => m_D_pairsFrom_69 v_givenPairs v_factChoices (m_D_pairsFrom_16 v_givenPairs v_factChoices n) z4 z5 v_66.1 z2)))))) else (if inR v_29.1 18 = true then m_D_pairsFrom_69 v_givenPairs v_factChoices (m_D_pairsFrom_16 v_givenPairs v_factChoices n) z4 z5 (v_factChoices v_29.1.toNatClampNeg) z2 else none))))))
def m_D_pairsFrom (v_givenPairs : Int32) (v_factChoices : Nat → Int64) (x1 : Int32) : Option (Int32 × Unit) := (if x1 = (nI 0) then some ((nI 0), ()) else m_D_pairsFrom_16 v_givenPairs v_factChoices 40 (-1 : Int64) x1 (nI 0))
def m_D_roundOf_2 (v_roundCount : Int32) (v_givenInRound : Nat → Int32) : Nat → Int32 → Int32 → Option (Int32 × Unit)
  | 0, _, _ => none
  | n + 1, z1, z2 => (if v_roundCount < z2 then some ((nI 0), ()) else (if inR z2 17 = true then (if ((v_givenInRound z2.toNatClampNeg) &&& z1) = (nI 0) then m_D_roundOf_2 v_roundCount v_givenInRound n z1 (z2 + (nI 1)) else some (z2, ())) else none))
def m_D_roundOf (v_roundCount : Int32) (v_givenInRound : Nat → Int32) (x1 : Int32) : Option (Int32 × Unit) := m_D_roundOf_2 v_roundCount v_givenInRound 40 x1 (nI 1)
def m_D_run_12 (v_factChoices : Nat → Int64) : Nat → Int32 → Int32 → (Nat → Int32) → Int32 → Int32 → Int32 → Option (Int32 × Int32 × (Nat → Int32))
  | 0, _, _, _, _, _, _ => none
  | n + 1, v_givenPairs, v_roundCount, v_givenInRound, z1, z2, z3 => (if (nI 16) < z3 then some (v_givenPairs, v_roundCount, v_givenInRound) else (Option.bind (m_D_pairsFrom v_givenPairs v_factChoices z1) (fun v_20 => (Option.bind (m_D_pairsFrom v_givenPairs v_factChoices z2) (fun v_25 => (if ((v_20.1 ||| v_25.1) &&& (v_givenPairs ^^^ (-1 : Int32))) = (nI 0) then some (v_givenPairs, v_roundCount, v_givenInRound) else (if inR z3 17 = true then m_D_run_12 v_factChoices n (v_givenPairs ||| ((v_20.1 ||| v_25.1) &&& (v_givenPairs ^^^ (-1 : Int32)))) z3 (upd v_givenInRound z3.toNatClampNeg ((v_20.1 ||| v_25.1) &&& (v_givenPairs ^^^ (-1 : Int32)))) z1 z2 (z3 + (nI 1)) else none)))))))
def m_D_run (v_givenPairs : Int32) (v_roundCount : Int32) (v_factChoices : Nat → Int64) (v_givenInRound : Nat → Int32) (x1 : Int32) (x2 : Int32) : Option (Int32 × Int32 × (Nat → Int32)) := m_D_run_12 v_factChoices 40 (nI 0) (nI 0) v_givenInRound x1 x2 (nI 1)
def m_D_takeFacts_20 (k_2 : (Nat → Int64) → Int32 → Int32 → Int32 → Option ((Nat → Int64))) (v_factChoices : Nat → Int64) (z1 : Int32) (z2 : Int32) (z3 : Int32) (y0 : Int32) : Option ((Nat → Int64)) := (Option.bind (m_H_firstVariableOf z3) (fun v_30 => (Option.bind (m_H_secondVariableOf z3) (fun v_34 => (Option.bind (m_D_choicesWhere y0 v_30.1 v_34.1) (fun v_37 => (if inR z3 18 = true then k_2 (vp_updL v_factChoices z3.toNatClampNeg v_37.1) z1 z2 (z3 + (nI 1)) else none)))))))
def m_D_takeFacts_2 : Nat → (Nat → Int64) → Int32 → Int32 → Int32 → Option ((Nat → Int64))
  | 0, _, _, _, _ => none
  | n + 1, v_factChoices, z1, z2, z3 => (if (nI 18) ≤ z3 then some v_factChoices else (Option.bind (m_H_relationOf z3) (fun v_9 => (if v_9.1 = (nI 0) then m_D_takeFacts_20 (m_D_takeFacts_2 n) v_factChoices z1 z2 z3 z1 else m_D_takeFacts_20 (m_D_takeFacts_2 n) v_factChoices z1 z2 z3 z2))))
def m_D_takeFacts (v_factChoices : Nat → Int64) (x1 : Int32) (x2 : Int32) : Option ((Nat → Int64)) := m_D_takeFacts_2 40 v_factChoices x1 x2 (nI 0)
def m_H_key (v_line_length : Int32) (v_line_typed : Nat → Int32) (x1 : Int32) : Option (Int32 × Int32 × (Nat → Int32)) := (Option.bind (m_L_add v_line_length v_line_typed x1) (fun v_5 => (if isZ v_5.1 = true then some (v_5.1, (v_5.2.1, v_5.2.2)) else none)))
def m_H_back (v_line_length : Int32) : Option (Int32 × Int32) := (Option.bind (m_L_removeLast v_line_length) (fun v_4 => (if isZ v_4.1 = true then some (v_4.1, v_4.2) else none)))
def m_H_facts (v_factSets : Nat → Int32) (x1 : Int32) : Option (Int32 × Unit) := (Option.bind (m_H_isFactRelation x1) (fun v_1 => (if v_1.1 = (nI 0) then some ((-1 : Int32), ()) else (if inR x1 2 = true then (Option.bind (m_I_bitCount (v_factSets x1.toNatClampNeg)) (fun v_13 => some (v_13.1, ()))) else none))))
def m_H_holds (v_factSets : Nat → Int32) (x1 : Int32) (x2 : Int32) (x3 : Int32) : Option (Int32 × Unit) := (Option.bind (m_H_isFactRelation x1) (fun v_1 => (if v_1.1 = (nI 0) then some ((nI 0), ()) else (if inR x1 2 = true then (Option.bind (m_H_pairBit x2 x3) (fun v_15 => (if ((v_factSets x1.toNatClampNeg) &&& v_15.1) = (nI 0) then some ((nI 0), ()) else some ((nI 1), ())))) else none))))
def m_H_mark (v_markedPlus : Int32) (v_markedMinus : Int32) (x1 : Int32) (x2 : Int32) : Option (Int32 × Unit) := (Option.bind (m_H_pairBit x1 x2) (fun v_2 => (if (v_markedPlus &&& v_2.1) = (nI 0) then (if (v_markedMinus &&& v_2.1) = (nI 0) then some ((nI 0), ()) else some ((-1 : Int32), ())) else some ((nI 1), ()))))
def m_H_drop (v_program_count : Int32) (v_program_bodies : Nat → Int32) (x1 : Int32) : Option (Int32 × Int32 × (Nat → Int32)) := (Option.bind (m_P_remove v_program_count v_program_bodies x1) (fun v_5 => (if isZ v_5.1 = true then some (v_5.1, (v_5.2.1, v_5.2.2)) else none)))
def m_H_clauses (v_program_count : Int32) : Option (Int32 × Unit) := some (v_program_count, ())
def m_H_literals (v_program_count : Int32) (v_program_bodies : Nat → Int32) (x1 : Int32) : Option (Int32 × Unit) := (Option.bind (m_P_bodyOf v_program_count v_program_bodies x1) (fun v_5 => (if v_5.1 = (nI 0) then some ((-1 : Int32), ()) else (Option.bind (m_I_bitCount v_5.1) (fun v_18 => some (v_18.1, ()))))))
def m_H_literal (v_program_count : Int32) (v_program_bodies : Nat → Int32) (x1 : Int32) (x2 : Int32) : Option (Int32 × Unit) := (Option.bind (m_P_bodyOf v_program_count v_program_bodies x1) (fun v_5 => (Option.bind (m_H_codeAt v_5.1 x2) (fun v_9 => some (v_9.1, ())))))
def m_H_letter (v_program_count : Int32) (v_program_bodies : Nat → Int32) (x1 : Int32) : Option (Int32 × Unit) := (Option.bind (m_P_letterAt v_program_count v_program_bodies x1) (fun v_5 => some (v_5.1, ())))
def m_H_subsumes_33 (v_program_count : Int32) (v_program_bodies : Nat → Int32) : Nat → Int32 → Int32 → Int32 → Option (Int32 × Unit)
  | 0, _, _, _ => none
  | n + 1, z3, z4, z5 => (if (nI 3) ≤ z5 then some ((nI 0), ()) else (Option.bind (m_H_withVariableForZ z3 z5) (fun v_42 => (if (v_42.1 &&& (z4 ^^^ (-1 : Int32))) = (nI 0) then some ((nI 1), ()) else m_H_subsumes_33 v_program_count v_program_bodies n z3 z4 (z5 + (nI 1))))))
def m_H_subsumes (v_program_count : Int32) (v_program_bodies : Nat → Int32) (x1 : Int32) (x2 : Int32) : Option (Int32 × Unit) := (Option.bind (m_P_bodyOf v_program_count v_program_bodies x1) (fun v_5 => (Option.bind (m_P_bodyOf v_program_count v_program_bodies x2) (fun v_14 => (if v_5.1 = (nI 0) then some ((nI 0), ()) else (if v_14.1 = (nI 0) then some ((nI 0), ()) else m_H_subsumes_33 v_program_count v_program_bodies 40 v_5.1 v_14.1 (nI 0)))))))
def m_H_deduceProgram (v_factSets : Nat → Int32) (v_program_count : Int32) (v_program_bodies : Nat → Int32) (v_deduction_givenPairs : Int32) (v_deduction_roundCount : Int32) (v_deduction_factChoices : Nat → Int64) (v_deduction_givenInRound : Nat → Int32) : Option (Int32 × Int32 × (Nat → Int64) × (Nat → Int32)) := (if inR (nI 0) 2 = true then (if inR (nI 1) 2 = true then (Option.bind (m_D_takeFacts v_deduction_factChoices (v_factSets (nI 0).toNatClampNeg) (v_factSets (nI 1).toNatClampNeg)) (fun v_16 => (Option.bind (m_P_bodyOf v_program_count v_program_bodies (nI 0)) (fun v_28 => (Option.bind (m_P_bodyOf v_program_count v_program_bodies (nI 1)) (fun v_36 => (Option.bind (m_D_run v_deduction_givenPairs v_deduction_roundCount v_16 v_deduction_givenInRound v_28.1 v_36.1) (fun v_39 => some (v_39.1, v_39.2.1, v_16, v_39.2.2))))))))) else none) else none)
def m_H_deductionFits (v_markedPlus : Int32) (v_markedMinus : Int32) (v_deduction_givenPairs : Int32) : Option (Int32 × Unit) := (if (v_markedPlus &&& (v_deduction_givenPairs ^^^ (-1 : Int32))) = (nI 0) then (if (v_markedMinus &&& v_deduction_givenPairs) = (nI 0) then some ((nI 1), ()) else some ((nI 0), ())) else some ((nI 0), ()))
def m_H_given (v_factSets : Nat → Int32) (v_program_count : Int32) (v_program_bodies : Nat → Int32) (v_deduction_givenPairs : Int32) (v_deduction_roundCount : Int32) (v_deduction_factChoices : Nat → Int64) (v_deduction_givenInRound : Nat → Int32) (x1 : Int32) (x2 : Int32) : Option (Int32 × Int32 × Int32 × (Nat → Int64) × (Nat → Int32)) := (Option.bind (m_H_deduceProgram v_factSets v_program_count v_program_bodies v_deduction_givenPairs v_deduction_roundCount v_deduction_factChoices v_deduction_givenInRound) (fun v_1 => (Option.bind (m_H_pairBit x1 x2) (fun v_10 => (Option.bind (m_D_roundOf v_1.2.1 v_1.2.2.2 v_10.1) (fun v_13 => some (v_13.1, (v_1.1, v_1.2.1, v_1.2.2.1, v_1.2.2.2))))))))
def m_H_rounds (v_factSets : Nat → Int32) (v_program_count : Int32) (v_program_bodies : Nat → Int32) (v_deduction_givenPairs : Int32) (v_deduction_roundCount : Int32) (v_deduction_factChoices : Nat → Int64) (v_deduction_givenInRound : Nat → Int32) : Option (Int32 × Int32 × Int32 × (Nat → Int64) × (Nat → Int32)) := (Option.bind (m_H_deduceProgram v_factSets v_program_count v_program_bodies v_deduction_givenPairs v_deduction_roundCount v_deduction_factChoices v_deduction_givenInRound) (fun v_1 => some (v_1.2.1, (v_1.1, v_1.2.1, v_1.2.2.1, v_1.2.2.2))))
def m_H_fits (v_markedPlus : Int32) (v_markedMinus : Int32) (v_factSets : Nat → Int32) (v_program_count : Int32) (v_program_bodies : Nat → Int32) (v_deduction_givenPairs : Int32) (v_deduction_roundCount : Int32) (v_deduction_factChoices : Nat → Int64) (v_deduction_givenInRound : Nat → Int32) : Option (Int32 × Int32 × Int32 × (Nat → Int64) × (Nat → Int32)) := (Option.bind (m_H_deduceProgram v_factSets v_program_count v_program_bodies v_deduction_givenPairs v_deduction_roundCount v_deduction_factChoices v_deduction_givenInRound) (fun v_1 => (Option.bind (m_H_deductionFits v_markedPlus v_markedMinus v_1.1) (fun v_5 => (if isZ v_5.1 = true then some (v_5.1, (v_1.1, v_1.2.1, v_1.2.2.1, v_1.2.2.2)) else none)))))
def m_H_changeFacts_39 (v_factSets : Nat → Int32) (z1 : Int32) (z4 : Int32) (y0 : Int32) (y1 : Int32) : Option (Int32 × (Nat → Int32)) := (if inR y1 2 = true then (if inR z1 2 = true then (if ((upd v_factSets y1.toNatClampNeg y0) z1.toNatClampNeg) = z4 then some ((nI 0), upd v_factSets y1.toNatClampNeg y0) else some ((nI 1), upd v_factSets y1.toNatClampNeg y0)) else none) else none)
def m_H_changeFacts (v_factSets : Nat → Int32) (x1 : Int32) (x2 : Int32) (x3 : Int32) : Option (Int32 × (Nat → Int32)) := (Option.bind (m_H_isFactRelation x1) (fun v_1 => (if v_1.1 = (nI 0) then some ((nI 0), v_factSets) else (if inR x1 2 = true then (if x3 = (nI 0) then m_H_changeFacts_39 v_factSets x1 (v_factSets x1.toNatClampNeg) ((v_factSets x1.toNatClampNeg) &&& (x2 ^^^ (-1 : Int32))) x1 else m_H_changeFacts_39 v_factSets x1 (v_factSets x1.toNatClampNeg) ((v_factSets x1.toNatClampNeg) ||| x2) x1) else none))))
def m_H_changeMarks_21 (v_markedPlus : Int32) (v_markedMinus : Int32) (z1 : Int32) (z2 : Int32) (y0 : Int32) : Option (Int32 × Int32 × Int32) := (if y0 = (nI 0) then some ((nI 1), (z1, z2)) else some ((nI 0), (z1, z2)))
def m_H_changeMarks_20 (v_markedPlus : Int32) (v_markedMinus : Int32) (z1 : Int32) (z2 : Int32) : Option (Int32 × Int32 × Int32) := m_H_changeMarks_21 v_markedPlus v_markedMinus z1 z2 (nI 0)
def m_H_changeMarks (v_markedPlus : Int32) (v_markedMinus : Int32) (x1 : Int32) (x2 : Int32) : Option (Int32 × Int32 × Int32) := (if x1 = v_markedPlus then (if x2 = v_markedMinus then m_H_changeMarks_21 v_markedPlus v_markedMinus x1 x2 (nI 1) else m_H_changeMarks_20 v_markedPlus v_markedMinus x1 x2) else m_H_changeMarks_20 v_markedPlus v_markedMinus x1 x2)
def m_H_addClause (v_program_count : Int32) (v_program_bodies : Nat → Int32) (x1 : Int32) (x2 : Int32) : Option (Int32 × Int32 × (Nat → Int32)) := (Option.bind (m_I_bitCount x1) (fun v_1 => (if x2 ≤ v_1.1 then (Option.bind (m_H_hasHeadVariables x1) (fun v_12 => (if v_12.1 = (nI 0) then some ((-101 : Int32), (v_program_count, v_program_bodies)) else (Option.bind (m_P_contains v_program_count v_program_bodies x1) (fun v_26 => (if v_26.1 = (nI 0) then (if v_program_count < (nI 2) then (Option.bind (m_P_append v_program_count v_program_bodies x1) (fun v_56 => some ((nI 10) + v_56.1, (v_56.2.1, v_56.2.2)))) else some ((-103 : Int32), (v_program_count, v_program_bodies))) else some ((-102 : Int32), (v_program_count, v_program_bodies)))))))) else some ((-100 : Int32), (v_program_count, v_program_bodies)))))
def m_H_carryOutLine (v_markedPlus : Int32) (v_markedMinus : Int32) (v_line_length : Int32) (v_line_typed : Nat → Int32) (v_factSets : Nat → Int32) (v_program_count : Int32) (v_program_bodies : Nat → Int32) : Option (Int32 × Int32 × Int32 × (Nat → Int32) × Int32 × (Nat → Int32)) := (Option.bind (m_L_at v_line_length v_line_typed (nI 0)) (fun v_5 => (if v_5.1 = (nI 116) then (Option.bind (m_L_typedBody v_line_length v_line_typed) (fun v_20 => (Option.bind (m_L_typedLiterals v_line_length) (fun v_27 => (Option.bind (m_H_addClause v_program_count v_program_bodies v_20.1 v_27.1) (fun v_30 => some (v_30.1, (v_markedPlus, v_markedMinus, v_factSets, v_30.2.1, v_30.2.2)))))))) else (Option.bind (m_L_typedPair v_line_length v_line_typed) (fun v_38 => (if v_5.1 = (nI 43) then (Option.bind (m_H_changeMarks v_markedPlus v_markedMinus (v_markedPlus ||| v_38.1) (v_markedMinus &&& (v_38.1 ^^^ (-1 : Int32)))) (fun v_63 => some (v_63.1, (v_63.2.1, v_63.2.2, v_factSets, v_program_count, v_program_bodies)))) else (if v_5.1 = (nI 45) then (Option.bind (m_H_changeMarks v_markedPlus v_markedMinus (v_markedPlus &&& (v_38.1 ^^^ (-1 : Int32))) (v_markedMinus ||| v_38.1)) (fun v_88 => some (v_88.1, (v_88.2.1, v_88.2.2, v_factSets, v_program_count, v_program_bodies)))) else (if v_5.1 = (nI 126) then (Option.bind (m_L_at v_line_length v_line_typed (nI 1)) (fun v_118 => (if inN 0 = true then (Option.bind (m_S_indexOf1 0 v_118.1) (fun v_121 => (if v_121.1 = (nI 2) then (Option.bind (m_H_changeMarks v_markedPlus v_markedMinus (v_markedPlus &&& (v_38.1 ^^^ (-1 : Int32))) (v_markedMinus &&& (v_38.1 ^^^ (-1 : Int32)))) (fun v_147 => some (v_147.1, (v_147.2.1, v_147.2.2, v_factSets, v_program_count, v_program_bodies)))) else (Option.bind (m_H_changeFacts v_factSets v_121.1 v_38.1 (nI 0)) (fun v_155 => some (v_155.1, (v_markedPlus, v_markedMinus, v_155.2, v_program_count, v_program_bodies))))))) else none))) else (if inN 0 = true then (Option.bind (m_S_indexOf1 0 v_5.1) (fun v_102 => (Option.bind (m_H_changeFacts v_factSets v_102.1 v_38.1 (nI 1)) (fun v_107 => some (v_107.1, (v_markedPlus, v_markedMinus, v_107.2, v_program_count, v_program_bodies)))))) else none)))))))))
def m_H_enter_29 (v_line_typed : Nat → Int32) (v_markedPlus : Int32) (v_markedMinus : Int32) (v_line_length : Int32) (v_factSets : Nat → Int32) (v_program_count : Int32) (v_program_bodies : Nat → Int32) (y0 : Int32) : Option (Int32 × Int32 × Int32 × Int32 × (Nat → Int32) × Int32 × (Nat → Int32)) := (Option.bind (m_L_clear v_line_length) (fun v_34 => some (y0, (v_markedPlus, v_markedMinus, v_34, v_factSets, v_program_count, v_program_bodies))))
def m_H_enter (v_markedPlus : Int32) (v_markedMinus : Int32) (v_line_length : Int32) (v_line_typed : Nat → Int32) (v_factSets : Nat → Int32) (v_program_count : Int32) (v_program_bodies : Nat → Int32) : Option (Int32 × Int32 × Int32 × Int32 × (Nat → Int32) × Int32 × (Nat → Int32)) := (Option.bind (m_L_begunStatement v_line_length v_line_typed) (fun v_4 => (Option.bind (m_L_endsStatement v_line_length v_line_typed v_4.1) (fun v_13 => (if v_13.1 = (nI 0) then m_H_enter_29 v_line_typed v_markedPlus v_markedMinus v_line_length v_factSets v_program_count v_program_bodies ((-1 : Int32) - v_4.1) else (Option.bind (m_H_carryOutLine v_markedPlus v_markedMinus v_line_length v_line_typed v_factSets v_program_count v_program_bodies) (fun v_20 => m_H_enter_29 v_line_typed v_20.2.1 v_20.2.2.1 v_line_length v_20.2.2.2.1 v_20.2.2.2.2.1 v_20.2.2.2.2.2 v_20.1)))))))
def m_H_takeIfFitting (v_markedPlus : Int32) (v_markedMinus : Int32) (v_program_count : Int32) (v_program_bodies : Nat → Int32) (v_deduction_givenPairs : Int32) (v_deduction_roundCount : Int32) (v_deduction_factChoices : Nat → Int64) (v_deduction_givenInRound : Nat → Int32) (x1 : Int32) (x2 : Int32) : Option (Int32 × Int32 × (Nat → Int32) × Int32 × Int32 × (Nat → Int32)) := (Option.bind (m_H_hasHeadVariables x2) (fun v_1 => (if v_1.1 = (nI 0) then some ((nI 0), (v_program_count, v_program_bodies, v_deduction_givenPairs, v_deduction_roundCount, v_deduction_givenInRound)) else (Option.bind (m_D_run v_deduction_givenPairs v_deduction_roundCount v_deduction_factChoices v_deduction_givenInRound x1 x2) (fun v_15 => (Option.bind (m_H_deductionFits v_markedPlus v_markedMinus v_15.1) (fun v_19 => (if v_19.1 = (nI 0) then some ((nI 0), (v_program_count, v_program_bodies, v_15.1, v_15.2.1, v_15.2.2)) else (Option.bind (m_P_become v_program_count v_program_bodies x1 x2) (fun v_33 => some ((nI 1), (v_33.1, v_33.2, v_15.1, v_15.2.1, v_15.2.2))))))))))))
def m_H_learnBody_15 (v_markedPlus : Int32) (v_markedMinus : Int32) (v_deduction_factChoices : Nat → Int64) (self : Int32 → (Nat → Int32) → Int32 → Int32 → (Nat → Int32) → Int32 → Int32 → Int32 → Int32 → Option (Int32 × Int32 × (Nat → Int32) × Int32 × Int32 × (Nat → Int32))) : Nat → Int32 → (Nat → Int32) → Int32 → Int32 → (Nat → Int32) → Int32 → Int32 → Int32 → Int32 → Option (Int32 × Int32 × (Nat → Int32) × Int32 × Int32 × (Nat → Int32))
  | 0, _, _, _, _, _, _, _, _, _ => none
  | n + 1, v_program_count, v_program_bodies, v_deduction_givenPairs, v_deduction_roundCount, v_deduction_givenInRound, z1, z2, z4, z5 => (if (nI 27) ≤ z5 then some ((nI 0), (v_program_count, v_program_bodies, v_deduction_givenPairs, v_deduction_roundCount, v_deduction_givenInRound)) else (Option.bind (self v_program_count v_program_bodies v_deduction_givenPairs v_deduction_roundCount v_deduction_givenInRound z1 (z2 ||| ((nI 1) <<< (z5 &&& 31))) (z5 + (nI 1)) (z4 - (nI 1))) (fun v_38 => (if v_38.1 = (nI 0) then m_H_learnBody_15 v_markedPlus v_markedMinus v_deduction_factChoices self n v_38.2.1 v_38.2.2.1 v_38.2.2.2.1 v_38.2.2.2.2.1 v_38.2.2.2.2.2 z1 z2 z4 (z5 + (nI 1)) else some ((nI 1), (v_38.2.1, v_38.2.2.1, v_38.2.2.2.1, v_38.2.2.2.2.1, v_38.2.2.2.2.2))))))
def m_H_learnBody_b (v_markedPlus : Int32) (v_markedMinus : Int32) (v_deduction_factChoices : Nat → Int64) (self : Int32 → (Nat → Int32) → Int32 → Int32 → (Nat → Int32) → Int32 → Int32 → Int32 → Int32 → Option (Int32 × Int32 × (Nat → Int32) × Int32 × Int32 × (Nat → Int32))) (v_program_count : Int32) (v_program_bodies : Nat → Int32) (v_deduction_givenPairs : Int32) (v_deduction_roundCount : Int32) (v_deduction_givenInRound : Nat → Int32) (x1 : Int32) (x2 : Int32) (x3 : Int32) (x4 : Int32) : Option (Int32 × Int32 × (Nat → Int32) × Int32 × Int32 × (Nat → Int32)) := (if (nI 0) < x4 then m_H_learnBody_15 v_markedPlus v_markedMinus v_deduction_factChoices self 40 v_program_count v_program_bodies v_deduction_givenPairs v_deduction_roundCount v_deduction_givenInRound x1 x2 x4 x3 else (Option.bind (m_H_takeIfFitting v_markedPlus v_markedMinus v_program_count v_program_bodies v_deduction_givenPairs v_deduction_roundCount v_deduction_factChoices v_deduction_givenInRound x1 x2) (fun v_8 => (if isZ v_8.1 = true then some (v_8.1, (v_8.2.1, v_8.2.2.1, v_8.2.2.2.1, v_8.2.2.2.2.1, v_8.2.2.2.2.2)) else none))))
def m_H_learnBody (v_markedPlus : Int32) (v_markedMinus : Int32) (v_deduction_factChoices : Nat → Int64) : Nat → Int32 → (Nat → Int32) → Int32 → Int32 → (Nat → Int32) → Int32 → Int32 → Int32 → Int32 → Option (Int32 × Int32 × (Nat → Int32) × Int32 × Int32 × (Nat → Int32))
  | 0, _, _, _, _, _, _, _, _, _ => none
  | n + 1, v_program_count, v_program_bodies, v_deduction_givenPairs, v_deduction_roundCount, v_deduction_givenInRound, x1, x2, x3, x4 => m_H_learnBody_b v_markedPlus v_markedMinus v_deduction_factChoices (m_H_learnBody v_markedPlus v_markedMinus v_deduction_factChoices n) v_program_count v_program_bodies v_deduction_givenPairs v_deduction_roundCount v_deduction_givenInRound x1 x2 x3 x4
def m_H_learnTwoClauses_47 (v_markedPlus : Int32) (v_markedMinus : Int32) (v_deduction_factChoices : Nat → Int64) (k_2 : Int32 → (Nat → Int32) → Int32 → Int32 → (Nat → Int32) → Int32 → Int32 → Option (Int32 × Int32 × (Nat → Int32) × Int32 × Int32 × (Nat → Int32))) (v_program_count : Int32) (v_program_bodies : Nat → Int32) (v_deduction_givenPairs : Int32) (v_deduction_roundCount : Int32) (v_deduction_givenInRound : Nat → Int32) (z1 : Int32) (z2 : Int32) : Option (Int32 × Int32 × (Nat → Int32) × Int32 × Int32 × (Nat → Int32)) := k_2 v_program_count v_program_bodies v_deduction_givenPairs v_deduction_roundCount v_deduction_givenInRound z1 (z2 + (nI 1))
def m_H_learnTwoClauses_20 (v_markedPlus : Int32) (v_markedMinus : Int32) (v_deduction_factChoices : Nat → Int64) (k_2 : Int32 → (Nat → Int32) → Int32 → Int32 → (Nat → Int32) → Int32 → Int32 → Option (Int32 × Int32 × (Nat → Int32) × Int32 × Int32 × (Nat → Int32))) (v_program_count : Int32) (v_program_bodies : Nat → Int32) (v_deduction_givenPairs : Int32) (v_deduction_roundCount : Int32) (v_deduction_givenInRound : Nat → Int32) (z1 : Int32) (z2 : Int32) (y0 : Int32) : Option (Int32 × Int32 × (Nat → Int32) × Int32 × Int32 × (Nat → Int32)) := (Option.bind (m_H_hasHeadVariables ((nI 1) <<< (z2 &&& 31))) (fun v_24 => (if v_24.1 = (nI 0) then m_H_learnTwoClauses_47 v_markedPlus v_markedMinus v_deduction_factChoices k_2 v_program_count v_program_bodies v_deduction_givenPairs v_deduction_roundCount v_deduction_givenInRound z1 z2 else (Option.bind (m_H_learnBody v_markedPlus v_markedMinus v_deduction_factChoices 5 v_program_count v_program_bodies v_deduction_givenPairs v_deduction_roundCount v_deduction_givenInRound ((nI 1) <<< (z2 &&& 31)) (nI 0) y0 (z1 - (nI 1))) (fun v_39 => (if v_39.1 = (nI 0) then m_H_learnTwoClauses_47 v_markedPlus v_markedMinus v_deduction_factChoices k_2 v_39.2.1 v_39.2.2.1 v_39.2.2.2.1 v_39.2.2.2.2.1 v_39.2.2.2.2.2 z1 z2 else some ((nI 1), (v_39.2.1, v_39.2.2.1, v_39.2.2.2.1, v_39.2.2.2.2.1, v_39.2.2.2.2.2))))))))
def m_H_learnTwoClauses_2 (v_markedPlus : Int32) (v_markedMinus : Int32) (v_deduction_factChoices : Nat → Int64) : Nat → Int32 → (Nat → Int32) → Int32 → Int32 → (Nat → Int32) → Int32 → Int32 → Option (Int32 × Int32 × (Nat → Int32) × Int32 × Int32 × (Nat → Int32))
  | 0, _, _, _, _, _, _, _ => none
  | n + 1, v_program_count, v_program_bodies, v_deduction_givenPairs, v_deduction_roundCount, v_deduction_givenInRound, z1, z2 => (if (nI 27) ≤ z2 then some ((nI 0), (v_program_count, v_program_bodies, v_deduction_givenPairs, v_deduction_roundCount, v_deduction_givenInRound)) else (if z1 = (nI 2) then m_H_learnTwoClauses_20 v_markedPlus v_markedMinus v_deduction_factChoices (m_H_learnTwoClauses_2 v_markedPlus v_markedMinus v_deduction_factChoices n) v_program_count v_program_bodies v_deduction_givenPairs v_deduction_roundCount v_deduction_givenInRound z1 z2 (z2 + (nI 1)) else m_H_learnTwoClauses_20 v_markedPlus v_markedMinus v_deduction_factChoices (m_H_learnTwoClauses_2 v_markedPlus v_markedMinus v_deduction_factChoices n) v_program_count v_program_bodies v_deduction_givenPairs v_deduction_roundCount v_deduction_givenInRound z1 z2 (nI 0)))
def m_H_learnTwoClauses (v_markedPlus : Int32) (v_markedMinus : Int32) (v_program_count : Int32) (v_program_bodies : Nat → Int32) (v_deduction_givenPairs : Int32) (v_deduction_roundCount : Int32) (v_deduction_factChoices : Nat → Int64) (v_deduction_givenInRound : Nat → Int32) (x1 : Int32) : Option (Int32 × Int32 × (Nat → Int32) × Int32 × Int32 × (Nat → Int32)) := m_H_learnTwoClauses_2 v_markedPlus v_markedMinus v_deduction_factChoices 40 v_program_count v_program_bodies v_deduction_givenPairs v_deduction_roundCount v_deduction_givenInRound x1 (nI 0)
def m_H_learn_52 (v_markedPlus : Int32) (v_markedMinus : Int32) (v_factSets : Nat → Int32) (k_21 : Int32 → (Nat → Int32) → Int32 → Int32 → (Nat → Int64) → (Nat → Int32) → Int32 → Option (Int32 × Int32 × (Nat → Int32) × Int32 × Int32 × (Nat → Int64) × (Nat → Int32))) (v_program_count : Int32) (v_program_bodies : Nat → Int32) (v_deduction_givenPairs : Int32) (v_deduction_roundCount : Int32) (v_deduction_factChoices : Nat → Int64) (v_deduction_givenInRound : Nat → Int32) (z1 : Int32) : Option (Int32 × Int32 × (Nat → Int32) × Int32 × Int32 × (Nat → Int64) × (Nat → Int32)) := k_21 v_program_count v_program_bodies v_deduction_givenPairs v_deduction_roundCount v_deduction_factChoices v_deduction_givenInRound (z1 + (nI 1))
def m_H_learn_21 (v_markedPlus : Int32) (v_markedMinus : Int32) (v_factSets : Nat → Int32) : Nat → Int32 → (Nat → Int32) → Int32 → Int32 → (Nat → Int64) → (Nat → Int32) → Int32 → Option (Int32 × Int32 × (Nat → Int32) × Int32 × Int32 × (Nat → Int64) × (Nat → Int32))
  | 0, _, _, _, _, _, _, _ => none
  | n + 1, v_program_count, v_program_bodies, v_deduction_givenPairs, v_deduction_roundCount, v_deduction_factChoices, v_deduction_givenInRound, z1 => (if (nI 3) < z1 then some ((nI 0), (v_program_count, v_program_bodies, v_deduction_givenPairs, v_deduction_roundCount, v_deduction_factChoices, v_deduction_givenInRound)) else (Option.bind (m_H_learnBody v_markedPlus v_markedMinus v_deduction_factChoices 5 v_program_count v_program_bodies v_deduction_givenPairs v_deduction_roundCount v_deduction_givenInRound (nI 0) (nI 0) (nI 0) z1) (fun v_31 => (if v_31.1 = (nI 0) then (if z1 ≤ (nI 1) then m_H_learn_52 v_markedPlus v_markedMinus v_factSets (m_H_learn_21 v_markedPlus v_markedMinus v_factSets n) v_31.2.1 v_31.2.2.1 v_31.2.2.2.1 v_31.2.2.2.2.1 v_deduction_factChoices v_31.2.2.2.2.2 z1 else (Option.bind (m_H_learnTwoClauses v_markedPlus v_markedMinus v_31.2.1 v_31.2.2.1 v_31.2.2.2.1 v_31.2.2.2.2.1 v_deduction_factChoices v_31.2.2.2.2.2 z1) (fun v_44 => (if v_44.1 = (nI 0) then m_H_learn_52 v_markedPlus v_markedMinus v_factSets (m_H_learn_21 v_markedPlus v_markedMinus v_factSets n) v_44.2.1 v_44.2.2.1 v_44.2.2.2.1 v_44.2.2.2.2.1 v_deduction_factChoices v_44.2.2.2.2.2 z1 else some (z1, (v_44.2.1, v_44.2.2.1, v_44.2.2.2.1, v_44.2.2.2.2.1, v_deduction_factChoices, v_44.2.2.2.2.2)))))) else some (z1, (v_31.2.1, v_31.2.2.1, v_31.2.2.2.1, v_31.2.2.2.2.1, v_deduction_factChoices, v_31.2.2.2.2.2))))))
def m_H_learn (v_markedPlus : Int32) (v_markedMinus : Int32) (v_factSets : Nat → Int32) (v_program_count : Int32) (v_program_bodies : Nat → Int32) (v_deduction_givenPairs : Int32) (v_deduction_roundCount : Int32) (v_deduction_factChoices : Nat → Int64) (v_deduction_givenInRound : Nat → Int32) : Option (Int32 × Int32 × (Nat → Int32) × Int32 × Int32 × (Nat → Int64) × (Nat → Int32)) := (if inR (nI 0) 2 = true then (if inR (nI 1) 2 = true then (Option.bind (m_D_takeFacts v_deduction_factChoices (v_factSets (nI 0).toNatClampNeg) (v_factSets (nI 1).toNatClampNeg)) (fun v_16 => m_H_learn_21 v_markedPlus v_markedMinus v_factSets 40 v_program_count v_program_bodies v_deduction_givenPairs v_deduction_roundCount v_16 v_deduction_givenInRound (nI 1))) else none) else none)
def m_M_isConstant (x0 : Int32) : Option (Int32 × Unit) := (if x0 < (nI 48) then some ((nI 0), ()) else (if (nI 51) < x0 then some ((nI 0), ()) else some ((nI 1), ())))
def m_M_isVariable (x0 : Int32) : Option (Int32 × Unit) := (if x0 < (nI 88) then some ((nI 0), ()) else (if (nI 90) < x0 then some ((nI 0), ()) else some ((nI 1), ())))
def m_M_isRelation (x0 : Int32) : Option (Int32 × Unit) := (if x0 = (nI 97) then some ((nI 1), ()) else (if x0 = (nI 98) then some ((nI 1), ()) else (if x0 = (nI 116) then some ((nI 1), ()) else some ((nI 0), ()))))
def m_M_head (x0 : Int32) : Option (Int32 × Unit) := (if x0 = (nI 0) then some ((nI 116), ()) else (if x0 = (nI 1) then some ((nI 40), ()) else (if x0 = (nI 2) then some ((nI 88), ()) else (if x0 = (nI 3) then some ((nI 44), ()) else (if x0 = (nI 4) then some ((nI 89), ()) else (if x0 = (nI 5) then some ((nI 41), ()) else (if x0 = (nI 6) then some ((nI 58), ()) else some ((nI 45), ()))))))))
def m_M_argument_45 (z0 : Int32) (z1 : Int32) : Option (Int32 × Unit) := (if z0 = (nI 4) then (if z1 = (nI 41) then some ((nI 1), ()) else some ((nI 0), ())) else some ((nI 0), ()))
def m_M_argument_33 (z0 : Int32) (z1 : Int32) : Option (Int32 × Unit) := (if z0 = (nI 3) then (Option.bind (m_M_isConstant z1) (fun v_39 => (if v_39.1 = (nI 0) then m_M_argument_45 z0 z1 else some ((nI 1), ())))) else m_M_argument_45 z0 z1)
def m_M_argument_22 (z0 : Int32) (z1 : Int32) : Option (Int32 × Unit) := (if z0 = (nI 2) then (if z1 = (nI 44) then some ((nI 1), ()) else m_M_argument_33 z0 z1) else m_M_argument_33 z0 z1)
def m_M_argument_10 (z0 : Int32) (z1 : Int32) : Option (Int32 × Unit) := (if z0 = (nI 1) then (Option.bind (m_M_isConstant z1) (fun v_16 => (if v_16.1 = (nI 0) then m_M_argument_22 z0 z1 else some ((nI 1), ())))) else m_M_argument_22 z0 z1)
def m_M_argument (x0 : Int32) (x1 : Int32) : Option (Int32 × Unit) := (if x0 = (nI 0) then (if x1 = (nI 40) then some ((nI 1), ()) else m_M_argument_10 x0 x1) else m_M_argument_10 x0 x1)
def m_M_inBody_69 (z1 : Int32) (z2 : Int32) : Option (Int32 × Unit) := (if z2 = (nI 5) then (if z1 = (nI 41) then some ((nI 1), ()) else some ((nI 0), ())) else some ((nI 0), ()))
def m_M_inBody_63 (z1 : Int32) (z2 : Int32) : Option (Int32 × Unit) := (if z1 = (nI 44) then some ((nI 1), ()) else m_M_inBody_69 z1 z2)
def m_M_inBody_52 (z1 : Int32) (z2 : Int32) : Option (Int32 × Unit) := (if z2 = (nI 3) then m_M_inBody_63 z1 z2 else (if z2 = (nI 6) then m_M_inBody_63 z1 z2 else m_M_inBody_69 z1 z2))
def m_M_inBody_45 (z1 : Int32) (z2 : Int32) : Option (Int32 × Unit) := (Option.bind (m_M_isVariable z1) (fun v_46 => (if v_46.1 = (nI 0) then m_M_inBody_52 z1 z2 else some ((nI 1), ()))))
def m_M_inBody_35 (z1 : Int32) (z2 : Int32) : Option (Int32 × Unit) := (if z2 = (nI 2) then m_M_inBody_45 z1 z2 else (if z2 = (nI 4) then m_M_inBody_45 z1 z2 else m_M_inBody_52 z1 z2))
def m_M_inBody_24 (z1 : Int32) (z2 : Int32) : Option (Int32 × Unit) := (if z2 = (nI 1) then (if z1 = (nI 40) then some ((nI 1), ()) else m_M_inBody_35 z1 z2) else m_M_inBody_35 z1 z2)
def m_M_inBody (x0 : Int32) (x1 : Int32) : Option (Int32 × Unit) := (if x0 < (nI 20) then (if (irm x0 (nI 7)) = (nI 0) then (Option.bind (m_M_isRelation x1) (fun v_18 => (if v_18.1 = (nI 0) then m_M_inBody_24 x1 (irm x0 (nI 7)) else some ((nI 1), ())))) else m_M_inBody_24 x1 (irm x0 (nI 7))) else some ((nI 0), ()))
def m_M_goesOn_98 (v_line : Nat → Int32) (z1 : Int32) (z2 : Int32) : Option (Int32 × Unit) := (Option.bind (m_M_argument (z1 - (nI 1)) z2) (fun v_102 => (if isZ v_102.1 = true then some (v_102.1, ()) else none)))
def m_M_goesOn (v_line : Nat → Int32) (x1 : Int32) : Option (Int32 × Unit) := (if inR x1 32 = true then (if inR (nI 0) 32 = true then (if x1 = (nI 0) then (Option.bind (m_M_isRelation (v_line x1.toNatClampNeg)) (fun v_19 => (if v_19.1 = (nI 0) then (if (v_line x1.toNatClampNeg) = (nI 126) then some ((nI 1), ()) else (if (v_line x1.toNatClampNeg) = (nI 43) then some ((nI 1), ()) else (if (v_line x1.toNatClampNeg) = (nI 45) then some ((nI 1), ()) else some ((nI 0), ())))) else some ((nI 1), ())))) else (if (v_line (nI 0).toNatClampNeg) = (nI 116) then (if (nI 8) ≤ x1 then (Option.bind (m_M_inBody (x1 - (nI 8)) (v_line x1.toNatClampNeg)) (fun v_82 => (if isZ v_82.1 = true then some (v_82.1, ()) else none))) else (Option.bind (m_M_head x1) (fun v_63 => (if (v_line x1.toNatClampNeg) = v_63.1 then some ((nI 1), ()) else some ((nI 0), ()))))) else (if (v_line (nI 0).toNatClampNeg) = (nI 97) then m_M_goesOn_98 v_line x1 (v_line x1.toNatClampNeg) else (if (v_line (nI 0).toNatClampNeg) = (nI 98) then m_M_goesOn_98 v_line x1 (v_line x1.toNatClampNeg) else (if x1 = (nI 1) then (if (v_line x1.toNatClampNeg) = (nI 116) then some ((nI 1), ()) else (if (v_line (nI 0).toNatClampNeg) = (nI 126) then (Option.bind (m_M_isRelation (v_line x1.toNatClampNeg)) (fun v_124 => (if v_124.1 = (nI 0) then some ((nI 0), ()) else some ((nI 1), ())))) else some ((nI 0), ()))) else (Option.bind (m_M_argument (x1 - (nI 2)) (v_line x1.toNatClampNeg)) (fun v_142 => (if isZ v_142.1 = true then some (v_142.1, ()) else none)))))))) else none) else none)
def m_M_whole_75 (v_typed : Int32) (v_line : Nat → Int32) (y0 : Int32) (y1 : Int32) : Option (Int32 × Unit) := (if y1 = y0 then some ((nI 1), ()) else some ((nI 0), ()))
def m_M_whole_68 (v_typed : Int32) (v_line : Nat → Int32) (y0 : Int32) : Option (Int32 × Unit) := m_M_whole_75 v_typed v_line (nI 6) y0
def m_M_whole (v_typed : Int32) (v_line : Nat → Int32) : Option (Int32 × Unit) := (if v_typed = (nI 0) then some ((nI 0), ()) else (if inR (nI 0) 32 = true then (if (v_line (nI 0).toNatClampNeg) = (nI 116) then (if v_typed ≤ (nI 8) then some ((nI 0), ()) else (if (irm (v_typed - (nI 8)) (nI 7)) = (nI 6) then some ((nI 1), ()) else some ((nI 0), ()))) else (if (v_line (nI 0).toNatClampNeg) = (nI 97) then m_M_whole_68 v_typed v_line v_typed else (if (v_line (nI 0).toNatClampNeg) = (nI 98) then m_M_whole_68 v_typed v_line v_typed else m_M_whole_75 v_typed v_line (nI 7) v_typed))) else none))
def m_M_fault_2 (v_typed : Int32) (v_line : Nat → Int32) : Nat → Int32 → Option (Int32 × Unit)
  | 0, _ => none
  | n + 1, z1 => (if v_typed ≤ z1 then (Option.bind (m_M_whole v_typed v_line) (fun v_27 => (if v_27.1 = (nI 0) then some (v_typed, ()) else some ((-1 : Int32), ())))) else (Option.bind (m_M_goesOn v_line z1) (fun v_12 => (if v_12.1 = (nI 0) then some (z1, ()) else m_M_fault_2 v_typed v_line n (z1 + (nI 1))))))
def m_M_fault (v_typed : Int32) (v_line : Nat → Int32) : Option (Int32 × Unit) := m_M_fault_2 v_typed v_line 40 (nI 0)
def m_M_relationOf (x0 : Int32) : Option (Int32 × Unit) := (if x0 = (nI 97) then some ((nI 0), ()) else (if x0 = (nI 98) then some ((nI 1), ()) else some ((nI 2), ())))
def m_M_readBody_96 (v_typed : Int32) (v_line : Nat → Int32) (k_8 : Int32 → (Nat → Int32) → Int32 → Option (Int32 × (Nat → Int32))) (v_read : Int32) (v_body : Nat → Int32) (z1 : Int32) (z2 : Int32) (z3 : Int32) : Option (Int32 × (Nat → Int32)) := (if inR z3 3 = true then k_8 (v_read + (nI 1)) (upd v_body z3.toNatClampNeg z2) (z1 + (nI 7)) else none)
def m_M_readBody_60 (v_typed : Int32) (v_line : Nat → Int32) (k_8 : Int32 → (Nat → Int32) → Int32 → Option (Int32 × (Nat → Int32))) : Nat → Int32 → (Nat → Int32) → Int32 → Int32 → Int32 → Option (Int32 × (Nat → Int32))
  | 0, _, _, _, _, _ => none
  | n + 1, v_read, v_body, z1, z2, z3 => (if z3 ≤ (nI 0) then m_M_readBody_96 v_typed v_line k_8 v_read v_body z1 z2 z3 else (if inR (z3 - (nI 1)) 3 = true then (if (v_body (z3 - (nI 1)).toNatClampNeg) ≤ z2 then m_M_readBody_96 v_typed v_line k_8 v_read v_body z1 z2 z3 else (if inR (z3 - (nI 1)) 3 = true then (if inR z3 3 = true then m_M_readBody_60 v_typed v_line k_8 n v_read (upd v_body z3.toNatClampNeg (v_body (z3 - (nI 1)).toNatClampNeg)) z1 z2 (z3 + (-1 : Int32)) else none) else none)) else none))
def m_M_readBody_8 (v_typed : Int32) (v_line : Nat → Int32) : Nat → Int32 → (Nat → Int32) → Int32 → Option (Int32 × (Nat → Int32))
  | 0, _, _, _ => none
  | n + 1, v_read, v_body, z1 => (if v_typed ≤ z1 then some (v_read, v_body) else (if inR z1 32 = true then (Option.bind (m_M_relationOf (v_line z1.toNatClampNeg)) (fun v_24 => (if inR (z1 + (nI 2)) 32 = true then (if inR (z1 + (nI 4)) 32 = true then (letN (((((nI 9) * v_24.1) + ((nI 3) * ((v_line (z1 + (nI 2)).toNatClampNeg) - (nI 88)))) + (v_line (z1 + (nI 4)).toNatClampNeg)) - (nI 88)) (fun w_54 => m_M_readBody_60 v_typed v_line (m_M_readBody_8 v_typed v_line n) 40 v_read v_body z1 w_54 v_read)) else none) else none))) else none))
def m_M_readBody (v_typed : Int32) (v_read : Int32) (v_line : Nat → Int32) (v_body : Nat → Int32) : Option (Int32 × (Nat → Int32)) := m_M_readBody_8 v_typed v_line 40 (nI 0) v_body (nI 8)
def m_M_variables (x0 : Int32) : Option (Int32 × Unit) := some (((nI 1) <<< ((irm (x0 / (nI 3)) (nI 3)) &&& 31)) ||| ((nI 1) <<< ((irm x0 (nI 3)) &&& 31)), ())
def m_M_known_57 (v_read : Int32) (v_many : Nat → Int32) (v_codes : Nat → Int32) (v_body : Nat → Int32) (k_21 : Int32 → Int32 → Int32 → Option (Int32 × Unit)) (z1 : Int32) (z3 : Int32) (y0 : Int32) : Option (Int32 × Unit) := k_21 z1 y0 (z3 + (nI 1))
def m_M_known_21 (v_read : Int32) (v_many : Nat → Int32) (v_codes : Nat → Int32) (v_body : Nat → Int32) : Nat → Int32 → Int32 → Int32 → Option (Int32 × Unit)
  | 0, _, _, _ => none
  | n + 1, z1, z2, z3 => (if v_read ≤ z3 then (if isZ z2 = true then some (z2, ()) else none) else (if z2 = (nI 0) then (if isZ z2 = true then some (z2, ()) else none) else (if inR (((nI 3) * z1) + z3) 6 = true then (if inR z3 3 = true then (if (v_codes (((nI 3) * z1) + z3).toNatClampNeg) = (v_body z3.toNatClampNeg) then m_M_known_57 v_read v_many v_codes v_body (m_M_known_21 v_read v_many v_codes v_body n) z1 z3 (nI 1) else m_M_known_57 v_read v_many v_codes v_body (m_M_known_21 v_read v_many v_codes v_body n) z1 z3 (nI 0)) else none) else none)))
def m_M_known_18 (v_read : Int32) (v_many : Nat → Int32) (v_codes : Nat → Int32) (v_body : Nat → Int32) (z1 : Int32) (y0 : Int32) : Option (Int32 × Unit) := m_M_known_21 v_read v_many v_codes v_body 40 z1 y0 (nI 0)
def m_M_known (v_read : Int32) (v_many : Nat → Int32) (v_codes : Nat → Int32) (v_body : Nat → Int32) (x1 : Int32) : Option (Int32 × Unit) := (if inR x1 2 = true then (if (v_many x1.toNatClampNeg) = v_read then m_M_known_18 v_read v_many v_codes v_body x1 (nI 1) else m_M_known_18 v_read v_many v_codes v_body x1 (nI 0)) else none)
def m_M_enterClause_137 (v_typed : Int32) (v_line : Nat → Int32) : Nat → Int32 → Int32 → (Nat → Int32) → (Nat → Int32) → (Nat → Int32) → Int32 → Option (Int32 × Int32 × Int32 × (Nat → Int32) × (Nat → Int32) × (Nat → Int32))
  | 0, _, _, _, _, _, _ => none
  | n + 1, v_count, v_read, v_many, v_codes, v_body, z3 => (if v_read ≤ z3 then some ((nI 9) + (v_count + (nI 1)), (v_count + (nI 1), v_read, v_many, v_codes, v_body)) else (if inR z3 3 = true then (if inR (((nI 3) * v_count) + z3) 6 = true then m_M_enterClause_137 v_typed v_line n v_count v_read v_many (upd v_codes (((nI 3) * v_count) + z3).toNatClampNeg (v_body z3.toNatClampNeg)) v_body (z3 + (nI 1)) else none) else none))
def m_M_enterClause_86 (v_typed : Int32) (v_line : Nat → Int32) : Nat → Int32 → Int32 → (Nat → Int32) → (Nat → Int32) → (Nat → Int32) → Int32 → Option (Int32 × Int32 × Int32 × (Nat → Int32) × (Nat → Int32) × (Nat → Int32))
  | 0, _, _, _, _, _, _ => none
  | n + 1, v_count, v_read, v_many, v_codes, v_body, z3 => (if v_count ≤ z3 then (if v_count = (nI 2) then some ((-103 : Int32), (v_count, v_read, v_many, v_codes, v_body)) else (if inR v_count 2 = true then m_M_enterClause_137 v_typed v_line 40 v_count v_read (upd v_many v_count.toNatClampNeg v_read) v_codes v_body (nI 0) else none)) else (Option.bind (m_M_known v_read v_many v_codes v_body z3) (fun v_96 => (if v_96.1 = (nI 0) then m_M_enterClause_86 v_typed v_line n v_count v_read v_many v_codes v_body (z3 + (nI 1)) else some ((-102 : Int32), (v_count, v_read, v_many, v_codes, v_body))))))
def m_M_enterClause_60 (v_typed : Int32) (v_line : Nat → Int32) (k_10 : Int32 → Int32 → (Nat → Int32) → (Nat → Int32) → (Nat → Int32) → Int32 → Int32 → Int32 → Option (Int32 × Int32 × Int32 × (Nat → Int32) × (Nat → Int32) × (Nat → Int32))) (v_count : Int32) (v_read : Int32) (v_many : Nat → Int32) (v_codes : Nat → Int32) (v_body : Nat → Int32) (z1 : Int32) (z3 : Int32) (y0 : Int32) : Option (Int32 × Int32 × Int32 × (Nat → Int32) × (Nat → Int32) × (Nat → Int32)) := k_10 v_count v_read v_many v_codes v_body z1 y0 (z3 + (nI 1))
def m_M_enterClause_55 (v_typed : Int32) (v_line : Nat → Int32) (k_10 : Int32 → Int32 → (Nat → Int32) → (Nat → Int32) → (Nat → Int32) → Int32 → Int32 → Int32 → Option (Int32 × Int32 × Int32 × (Nat → Int32) × (Nat → Int32) × (Nat → Int32))) (v_count : Int32) (v_read : Int32) (v_many : Nat → Int32) (v_codes : Nat → Int32) (v_body : Nat → Int32) (z1 : Int32) (z3 : Int32) : Option (Int32 × Int32 × Int32 × (Nat → Int32) × (Nat → Int32) × (Nat → Int32)) := m_M_enterClause_60 v_typed v_line k_10 v_count v_read v_many v_codes v_body z1 z3 (nI 1)
def m_M_enterClause_59 (v_typed : Int32) (v_line : Nat → Int32) (k_10 : Int32 → Int32 → (Nat → Int32) → (Nat → Int32) → (Nat → Int32) → Int32 → Int32 → Int32 → Option (Int32 × Int32 × Int32 × (Nat → Int32) × (Nat → Int32) × (Nat → Int32))) (v_count : Int32) (v_read : Int32) (v_many : Nat → Int32) (v_codes : Nat → Int32) (v_body : Nat → Int32) (z1 : Int32) (z3 : Int32) : Option (Int32 × Int32 × Int32 × (Nat → Int32) × (Nat → Int32) × (Nat → Int32)) := m_M_enterClause_60 v_typed v_line k_10 v_count v_read v_many v_codes v_body z1 z3 (nI 0)
def m_M_enterClause_10 (v_typed : Int32) (v_line : Nat → Int32) : Nat → Int32 → Int32 → (Nat → Int32) → (Nat → Int32) → (Nat → Int32) → Int32 → Int32 → Int32 → Option (Int32 × Int32 × Int32 × (Nat → Int32) × (Nat → Int32) × (Nat → Int32))
  | 0, _, _, _, _, _, _, _, _ => none
  | n + 1, v_count, v_read, v_many, v_codes, v_body, z1, z2, z3 => (if v_read ≤ z3 then (if z2 = (nI 0) then (if (z1 &&& (nI 3)) = (nI 3) then m_M_enterClause_86 v_typed v_line 40 v_count v_read v_many v_codes v_body (nI 0) else some ((-101 : Int32), (v_count, v_read, v_many, v_codes, v_body))) else some ((-100 : Int32), (v_count, v_read, v_many, v_codes, v_body))) else (if inR z3 3 = true then (Option.bind (m_M_variables (v_body z3.toNatClampNeg)) (fun v_25 => (if z2 = (nI 0) then (if z3 ≤ (nI 0) then m_M_enterClause_59 v_typed v_line (m_M_enterClause_10 v_typed v_line n) v_count v_read v_many v_codes v_body (z1 ||| v_25.1) z3 else (if inR (z3 - (nI 1)) 3 = true then (if inR z3 3 = true then (if (v_body (z3 - (nI 1)).toNatClampNeg) = (v_body z3.toNatClampNeg) then m_M_enterClause_55 v_typed v_line (m_M_enterClause_10 v_typed v_line n) v_count v_read v_many v_codes v_body (z1 ||| v_25.1) z3 else m_M_enterClause_59 v_typed v_line (m_M_enterClause_10 v_typed v_line n) v_count v_read v_many v_codes v_body (z1 ||| v_25.1) z3) else none) else none)) else m_M_enterClause_55 v_typed v_line (m_M_enterClause_10 v_typed v_line n) v_count v_read v_many v_codes v_body (z1 ||| v_25.1) z3))) else none))
def m_M_enterClause (v_typed : Int32) (v_count : Int32) (v_read : Int32) (v_line : Nat → Int32) (v_many : Nat → Int32) (v_codes : Nat → Int32) (v_body : Nat → Int32) : Option (Int32 × Int32 × Int32 × (Nat → Int32) × (Nat → Int32) × (Nat → Int32)) := (Option.bind (m_M_readBody v_typed v_read v_line v_body) (fun v_1 => m_M_enterClause_10 v_typed v_line 40 v_count v_1.1 v_many v_codes v_1.2 (nI 0) (nI 0) (nI 0)))
def m_M_enterMark_15 (v_marked : Nat → Int32) (z1 : Int32) (z2 : Int32) (y0 : Int32) : Option (Int32 × (Nat → Int32)) := (if inR z1 16 = true then (if y0 = (nI 0) then some ((nI 0), upd v_marked z1.toNatClampNeg z2) else some ((nI 1), upd v_marked z1.toNatClampNeg z2)) else none)
def m_M_enterMark (v_marked : Nat → Int32) (x1 : Int32) (x2 : Int32) : Option (Int32 × (Nat → Int32)) := (if inR x1 16 = true then (if (v_marked x1.toNatClampNeg) = x2 then m_M_enterMark_15 v_marked x1 x2 (nI 0) else m_M_enterMark_15 v_marked x1 x2 (nI 1)) else none)
def m_M_enterFact_15 (v_fact : Nat → Int32) (z1 : Int32) (z2 : Int32) (y0 : Int32) : Option (Int32 × (Nat → Int32)) := (if inR z1 32 = true then (if isZ z2 = true then (if y0 = (nI 0) then some ((nI 0), upd v_fact z1.toNatClampNeg z2) else some ((nI 1), upd v_fact z1.toNatClampNeg z2)) else none) else none)
def m_M_enterFact (v_fact : Nat → Int32) (x1 : Int32) (x2 : Int32) : Option (Int32 × (Nat → Int32)) := (if inR x1 32 = true then (if (v_fact x1.toNatClampNeg) = x2 then m_M_enterFact_15 v_fact x1 x2 (nI 0) else m_M_enterFact_15 v_fact x1 x2 (nI 1)) else none)
def m_M_enter_154 (v_line : Nat → Int32) (v_typed : Int32) (v_count : Int32) (v_read : Int32) (v_fact : Nat → Int32) (v_marked : Nat → Int32) (v_many : Nat → Int32) (v_codes : Nat → Int32) (v_body : Nat → Int32) (y0 : Int32) (y1 : Int32) : Option (Int32 × Int32 × Int32 × Int32 × (Nat → Int32) × (Nat → Int32) × (Nat → Int32) × (Nat → Int32) × (Nat → Int32)) := (Option.bind (m_M_enterFact v_fact y1 y0) (fun v_154 => some (v_154.1, (v_typed, v_count, v_read, v_154.2, v_marked, v_many, v_codes, v_body))))
def m_M_enter_128 (v_line : Nat → Int32) (v_typed : Int32) (v_count : Int32) (v_read : Int32) (v_fact : Nat → Int32) (v_marked : Nat → Int32) (v_many : Nat → Int32) (v_codes : Nat → Int32) (v_body : Nat → Int32) (y0 : Int32) (y1 : Int32) : Option (Int32 × Int32 × Int32 × Int32 × (Nat → Int32) × (Nat → Int32) × (Nat → Int32) × (Nat → Int32) × (Nat → Int32)) := (Option.bind (m_M_enterMark v_marked y1 y0) (fun v_128 => some (v_128.1, (v_typed, v_count, v_read, v_fact, v_128.2, v_many, v_codes, v_body))))
def m_M_enter (v_typed : Int32) (v_count : Int32) (v_read : Int32) (v_line : Nat → Int32) (v_fact : Nat → Int32) (v_marked : Nat → Int32) (v_many : Nat → Int32) (v_codes : Nat → Int32) (v_body : Nat → Int32) : Option (Int32 × Int32 × Int32 × Int32 × (Nat → Int32) × (Nat → Int32) × (Nat → Int32) × (Nat → Int32) × (Nat → Int32)) := (Option.bind (m_M_fault v_typed v_line) (fun v_1 => (if v_1.1 < (nI 0) then (if inR (nI 0) 32 = true then (if (v_line (nI 0).toNatClampNeg) = (nI 116) then (Option.bind (m_M_enterClause v_typed v_count v_read v_line v_many v_codes v_body) (fun v_35 => some (v_35.1, ((nI 0), v_35.2.1, v_35.2.2.1, v_fact, v_marked, v_35.2.2.2.1, v_35.2.2.2.2.1, v_35.2.2.2.2.2)))) else (if inR (v_typed - (nI 4)) 32 = true then (if inR (v_typed - (nI 2)) 32 = true then (letN ((((nI 4) * ((v_line (v_typed - (nI 4)).toNatClampNeg) - (nI 48))) + (v_line (v_typed - (nI 2)).toNatClampNeg)) - (nI 48)) (fun w_76 => (if inR (v_typed - (nI 6)) 32 = true then (if (v_line (v_typed - (nI 6)).toNatClampNeg) = (nI 116) then (if inR (nI 0) 32 = true then (if (v_line (nI 0).toNatClampNeg) = (nI 43) then m_M_enter_128 v_line (nI 0) v_count v_read v_fact v_marked v_many v_codes v_body (nI 1) w_76 else (if inR (nI 0) 32 = true then (if (v_line (nI 0).toNatClampNeg) = (nI 45) then m_M_enter_128 v_line (nI 0) v_count v_read v_fact v_marked v_many v_codes v_body (-1 : Int32) w_76 else m_M_enter_128 v_line (nI 0) v_count v_read v_fact v_marked v_many v_codes v_body (nI 0) w_76) else none)) else none) else (Option.bind (m_M_relationOf (v_line (v_typed - (nI 6)).toNatClampNeg)) (fun v_137 => (if v_typed = (nI 6) then m_M_enter_154 v_line (nI 0) v_count v_read v_fact v_marked v_many v_codes v_body (nI 1) (((nI 16) * v_137.1) + w_76) else m_M_enter_154 v_line (nI 0) v_count v_read v_fact v_marked v_many v_codes v_body (nI 0) (((nI 16) * v_137.1) + w_76))))) else none))) else none) else none)) else none) else some ((-1 : Int32) - v_1.1, ((nI 0), v_count, v_read, v_fact, v_marked, v_many, v_codes, v_body)))))
def m_M_constant (x0 : Int32) : Option (Int32 × Unit) := (if x0 < (nI 0) then some ((nI 0), ()) else (if (nI 4) ≤ x0 then some ((nI 0), ()) else some ((nI 1), ())))
def m_M_facts_42 (v_fact : Nat → Int32) (k_15 : Int32 → Int32 → Int32 → Option (Int32 × Unit)) (z1 : Int32) (z3 : Int32) (y0 : Int32) : Option (Int32 × Unit) := k_15 z1 y0 (z3 + (nI 1))
def m_M_facts_15 (v_fact : Nat → Int32) : Nat → Int32 → Int32 → Int32 → Option (Int32 × Unit)
  | 0, _, _, _ => none
  | n + 1, z1, z2, z3 => (if (nI 16) ≤ z3 then some (z2, ()) else (if inR (((nI 16) * z1) + z3) 32 = true then (if (v_fact (((nI 16) * z1) + z3).toNatClampNeg) = (nI 0) then m_M_facts_42 v_fact (m_M_facts_15 v_fact n) z1 z3 z2 else m_M_facts_42 v_fact (m_M_facts_15 v_fact n) z1 z3 (z2 + (nI 1))) else none))
def m_M_facts (v_fact : Nat → Int32) (x1 : Int32) : Option (Int32 × Unit) := (if x1 < (nI 0) then some ((-1 : Int32), ()) else (if x1 ≤ (nI 1) then m_M_facts_15 v_fact 40 x1 (nI 0) (nI 0) else some ((-1 : Int32), ())))
def m_M_holds_9 (v_fact : Nat → Int32) (z1 : Int32) (z2 : Int32) (z3 : Int32) : Option (Int32 × Unit) := (Option.bind (m_M_constant z2) (fun v_10 => (if v_10.1 = (nI 0) then some ((nI 0), ()) else (Option.bind (m_M_constant z3) (fun v_17 => (if v_17.1 = (nI 0) then some ((nI 0), ()) else (if inR ((((nI 16) * z1) + ((nI 4) * z2)) + z3) 32 = true then (if (v_fact ((((nI 16) * z1) + ((nI 4) * z2)) + z3).toNatClampNeg) = (nI 0) then some ((nI 0), ()) else some ((nI 1), ())) else none)))))))
def m_M_holds (v_fact : Nat → Int32) (x1 : Int32) (x2 : Int32) (x3 : Int32) : Option (Int32 × Unit) := (if x1 = (nI 0) then m_M_holds_9 v_fact x1 x2 x3 else (if x1 = (nI 1) then m_M_holds_9 v_fact x1 x2 x3 else some ((nI 0), ())))
def m_M_mark (v_marked : Nat → Int32) (x1 : Int32) (x2 : Int32) : Option (Int32 × Unit) := (Option.bind (m_M_constant x1) (fun v_1 => (if v_1.1 = (nI 0) then some ((nI 0), ()) else (Option.bind (m_M_constant x2) (fun v_8 => (if v_8.1 = (nI 0) then some ((nI 0), ()) else (if inR (((nI 4) * x1) + x2) 16 = true then some (v_marked (((nI 4) * x1) + x2).toNatClampNeg, ()) else none)))))))
def m_M_clause (v_count : Int32) (x1 : Int32) : Option (Int32 × Unit) := (if x1 < (nI 0) then some ((nI 0), ()) else (if v_count ≤ x1 then some ((nI 0), ()) else some ((nI 1), ())))
def m_M_drop_53 (v_count : Int32) (v_many : Nat → Int32) (v_codes : Nat → Int32) : Option (Int32 × Int32 × (Nat → Int32) × (Nat → Int32)) := some ((nI 1), (v_count - (nI 1), v_many, v_codes))
def m_M_drop_28 : Nat → Int32 → (Nat → Int32) → (Nat → Int32) → Int32 → Option (Int32 × Int32 × (Nat → Int32) × (Nat → Int32))
  | 0, _, _, _, _ => none
  | n + 1, v_count, v_many, v_codes, z2 => (if (nI 3) ≤ z2 then m_M_drop_53 v_count v_many v_codes else (if inR ((nI 3) + z2) 6 = true then (if inR z2 6 = true then m_M_drop_28 n v_count v_many (upd v_codes z2.toNatClampNeg (v_codes ((nI 3) + z2).toNatClampNeg)) (z2 + (nI 1)) else none) else none))
def m_M_drop (v_count : Int32) (v_many : Nat → Int32) (v_codes : Nat → Int32) (x1 : Int32) : Option (Int32 × Int32 × (Nat → Int32) × (Nat → Int32)) := (Option.bind (m_M_clause v_count x1) (fun v_2 => (if v_2.1 = (nI 0) then some ((nI 0), (v_count, v_many, v_codes)) else (if x1 = (nI 0) then (if inR (nI 1) 2 = true then (if inR (nI 0) 2 = true then m_M_drop_28 40 v_count (upd v_many (nI 0).toNatClampNeg (v_many (nI 1).toNatClampNeg)) v_codes (nI 0) else none) else none) else m_M_drop_53 v_count v_many v_codes))))
def m_M_clauses (v_count : Int32) : Option (Int32 × Unit) := some (v_count, ())
def m_M_literals (v_count : Int32) (v_many : Nat → Int32) (x1 : Int32) : Option (Int32 × Unit) := (Option.bind (m_M_clause v_count x1) (fun v_2 => (if v_2.1 = (nI 0) then some ((-1 : Int32), ()) else (if inR x1 2 = true then some (v_many x1.toNatClampNeg, ()) else none))))
def m_M_literal (v_count : Int32) (v_many : Nat → Int32) (v_codes : Nat → Int32) (x1 : Int32) (x2 : Int32) : Option (Int32 × Unit) := (Option.bind (m_M_clause v_count x1) (fun v_2 => (if v_2.1 = (nI 0) then some ((-1 : Int32), ()) else (if x2 < (nI 0) then some ((-1 : Int32), ()) else (if inR x1 2 = true then (if (v_many x1.toNatClampNeg) ≤ x2 then some ((-1 : Int32), ()) else (if inR (((nI 3) * x1) + x2) 6 = true then some (v_codes (((nI 3) * x1) + x2).toNatClampNeg, ()) else none)) else none)))))
def m_M_letterOf (x0 : Int32) (x1 : Int32) : Option (Int32 × Unit) := (if x1 = (nI 0) then (if (nI 9) ≤ x0 then (if (nI 18) ≤ x0 then some ((nI 116), ()) else some ((nI 98), ())) else some ((nI 97), ())) else (if x1 = (nI 1) then some ((nI 40), ()) else (if x1 = (nI 2) then some ((nI 88) + (irm (x0 / (nI 3)) (nI 3)), ()) else (if x1 = (nI 3) then some ((nI 44), ()) else (if x1 = (nI 4) then some ((nI 88) + (irm x0 (nI 3)), ()) else some ((nI 41), ()))))))
def m_M_letter_4 (v_count : Int32) (v_many : Nat → Int32) (v_codes : Nat → Int32) : Nat → Int32 → Int32 → Option (Int32 × Unit)
  | 0, _, _ => none
  | n + 1, z2, z3 => (if v_count ≤ z3 then some ((-1 : Int32), ()) else (if z2 < (nI 0) then some ((-1 : Int32), ()) else (if inR z3 2 = true then (if ((nI 7) + ((nI 7) * (v_many z3.toNatClampNeg))) ≤ z2 then (if (z2 - ((nI 7) + ((nI 7) * (v_many z3.toNatClampNeg)))) = (nI 0) then (if v_count ≤ (z3 + (nI 1)) then some ((-1 : Int32), ()) else some ((nI 59), ())) else m_M_letter_4 v_count v_many v_codes n ((z2 - ((nI 7) + ((nI 7) * (v_many z3.toNatClampNeg)))) + (-1 : Int32)) (z3 + (nI 1))) else (if (nI 0) ≤ (z2 - (nI 8)) then (if (irm (z2 - (nI 8)) (nI 7)) = (nI 6) then some ((nI 44), ()) else (if inR (((nI 3) * z3) + ((z2 - (nI 8)) / (nI 7))) 6 = true then (Option.bind (m_M_letterOf (v_codes (((nI 3) * z3) + ((z2 - (nI 8)) / (nI 7))).toNatClampNeg) (irm (z2 - (nI 8)) (nI 7))) (fun v_88 => some (v_88.1, ()))) else none)) else (Option.bind (m_M_head z2) (fun v_48 => some (v_48.1, ()))))) else none)))
def m_M_letter (v_count : Int32) (v_many : Nat → Int32) (v_codes : Nat → Int32) (x1 : Int32) : Option (Int32 × Unit) := m_M_letter_4 v_count v_many v_codes 40 x1 (nI 0)
def m_M_replaced_33 (z0 : Int32) (z2 : Int32) (y0 : Int32) : Option (Int32 × Unit) := some ((((z0 / (nI 9)) * (nI 9)) + ((nI 3) * z2)) + y0, ())
def m_M_replaced_18 (z0 : Int32) (z1 : Int32) (y0 : Int32) : Option (Int32 × Unit) := (if (irm z0 (nI 3)) = (nI 2) then m_M_replaced_33 z0 y0 z1 else m_M_replaced_33 z0 y0 (irm z0 (nI 3)))
def m_M_replaced (x0 : Int32) (x1 : Int32) : Option (Int32 × Unit) := (if (irm (x0 / (nI 3)) (nI 3)) = (nI 2) then m_M_replaced_18 x0 x1 x1 else m_M_replaced_18 x0 x1 (irm (x0 / (nI 3)) (nI 3)))
def m_M_subsumes_148 (v_count : Int32) (v_many : Nat → Int32) (v_codes : Nat → Int32) (k_23 : Int32 → Int32 → Int32 → Int32 → Option (Int32 × Unit)) (z1 : Int32) (z2 : Int32) (z4 : Int32) (y0 : Int32) : Option (Int32 × Unit) := k_23 z1 z2 y0 (z4 + (nI 1))
def m_M_subsumes_143 (v_count : Int32) (v_many : Nat → Int32) (v_codes : Nat → Int32) (k_23 : Int32 → Int32 → Int32 → Int32 → Option (Int32 × Unit)) (z1 : Int32) (z2 : Int32) (z4 : Int32) : Option (Int32 × Unit) := m_M_subsumes_148 v_count v_many v_codes k_23 z1 z2 z4 (nI 1)
def m_M_subsumes_126 (v_count : Int32) (v_many : Nat → Int32) (v_codes : Nat → Int32) (k_35 : Int32 → Int32 → Int32 → Int32 → Int32 → Int32 → Option (Int32 × Unit)) (z1 : Int32) (z2 : Int32) (z3 : Int32) (z4 : Int32) (z6 : Int32) (y0 : Int32) : Option (Int32 × Unit) := k_35 z1 z2 z3 z4 y0 (z6 + (nI 1))
def m_M_subsumes_125 (v_count : Int32) (v_many : Nat → Int32) (v_codes : Nat → Int32) (k_35 : Int32 → Int32 → Int32 → Int32 → Int32 → Int32 → Option (Int32 × Unit)) (z1 : Int32) (z2 : Int32) (z3 : Int32) (z4 : Int32) (z6 : Int32) : Option (Int32 × Unit) := m_M_subsumes_126 v_count v_many v_codes k_35 z1 z2 z3 z4 z6 (nI 0)
def m_M_subsumes_103 (v_count : Int32) (v_many : Nat → Int32) (v_codes : Nat → Int32) (k_52 : Int32 → Int32 → Int32 → Int32 → Int32 → Int32 → Int32 → Int32 → Option (Int32 × Unit)) (z1 : Int32) (z2 : Int32) (z3 : Int32) (z4 : Int32) (z5 : Int32) (z6 : Int32) (z8 : Int32) (y0 : Int32) : Option (Int32 × Unit) := k_52 z1 z2 z3 z4 z5 z6 y0 (z8 + (nI 1))
def m_M_subsumes_98 (v_count : Int32) (v_many : Nat → Int32) (v_codes : Nat → Int32) (k_52 : Int32 → Int32 → Int32 → Int32 → Int32 → Int32 → Int32 → Int32 → Option (Int32 × Unit)) (z1 : Int32) (z2 : Int32) (z3 : Int32) (z4 : Int32) (z5 : Int32) (z6 : Int32) (z8 : Int32) : Option (Int32 × Unit) := m_M_subsumes_103 v_count v_many v_codes k_52 z1 z2 z3 z4 z5 z6 z8 (nI 1)
def m_M_subsumes_52 (v_count : Int32) (v_many : Nat → Int32) (v_codes : Nat → Int32) (k_35 : Int32 → Int32 → Int32 → Int32 → Int32 → Int32 → Option (Int32 × Unit)) : Nat → Int32 → Int32 → Int32 → Int32 → Int32 → Int32 → Int32 → Int32 → Option (Int32 × Unit)
  | 0, _, _, _, _, _, _, _, _ => none
  | n + 1, z1, z2, z3, z4, z5, z6, z7, z8 => (if inR z2 2 = true then (if (v_many z2.toNatClampNeg) ≤ z8 then (if z5 = (nI 0) then m_M_subsumes_125 v_count v_many v_codes k_35 z1 z2 z3 z4 z6 else (if z7 = (nI 0) then m_M_subsumes_125 v_count v_many v_codes k_35 z1 z2 z3 z4 z6 else m_M_subsumes_126 v_count v_many v_codes k_35 z1 z2 z3 z4 z6 (nI 1))) else (if z7 = (nI 0) then (if inR (((nI 3) * z1) + z6) 6 = true then (Option.bind (m_M_replaced (v_codes (((nI 3) * z1) + z6).toNatClampNeg) z4) (fun v_81 => (if inR (((nI 3) * z2) + z8) 6 = true then (if v_81.1 = (v_codes (((nI 3) * z2) + z8).toNatClampNeg) then m_M_subsumes_98 v_count v_many v_codes (m_M_subsumes_52 v_count v_many v_codes k_35 n) z1 z2 z3 z4 z5 z6 z8 else m_M_subsumes_103 v_count v_many v_codes (m_M_subsumes_52 v_count v_many v_codes k_35 n) z1 z2 z3 z4 z5 z6 z8 (nI 0)) else none))) else none) else m_M_subsumes_98 v_count v_many v_codes (m_M_subsumes_52 v_count v_many v_codes k_35 n) z1 z2 z3 z4 z5 z6 z8)) else none)
def m_M_subsumes_35 (v_count : Int32) (v_many : Nat → Int32) (v_codes : Nat → Int32) (k_23 : Int32 → Int32 → Int32 → Int32 → Option (Int32 × Unit)) : Nat → Int32 → Int32 → Int32 → Int32 → Int32 → Int32 → Option (Int32 × Unit)
  | 0, _, _, _, _, _, _ => none
  | n + 1, z1, z2, z3, z4, z5, z6 => (if inR z1 2 = true then (if (v_many z1.toNatClampNeg) ≤ z6 then (if z3 = (nI 0) then (if z5 = (nI 0) then m_M_subsumes_148 v_count v_many v_codes k_23 z1 z2 z4 (nI 0) else m_M_subsumes_143 v_count v_many v_codes k_23 z1 z2 z4) else m_M_subsumes_143 v_count v_many v_codes k_23 z1 z2 z4) else m_M_subsumes_52 v_count v_many v_codes (m_M_subsumes_35 v_count v_many v_codes k_23 n) 40 z1 z2 z3 z4 z5 z6 (nI 0) (nI 0)) else none)
def m_M_subsumes_23 (v_count : Int32) (v_many : Nat → Int32) (v_codes : Nat → Int32) : Nat → Int32 → Int32 → Int32 → Int32 → Option (Int32 × Unit)
  | 0, _, _, _, _ => none
  | n + 1, z1, z2, z3, z4 => (if (nI 3) ≤ z4 then (if isZ z3 = true then some (z3, ()) else none) else m_M_subsumes_35 v_count v_many v_codes (m_M_subsumes_23 v_count v_many v_codes n) 40 z1 z2 z3 z4 (nI 1) (nI 0))
def m_M_subsumes (v_count : Int32) (v_many : Nat → Int32) (v_codes : Nat → Int32) (x1 : Int32) (x2 : Int32) : Option (Int32 × Unit) := (Option.bind (m_M_clause v_count x1) (fun v_2 => (if v_2.1 = (nI 0) then some ((nI 0), ()) else (Option.bind (m_M_clause v_count x2) (fun v_10 => (if v_10.1 = (nI 0) then some ((nI 0), ()) else m_M_subsumes_23 v_count v_many v_codes 40 x1 x2 (nI 0) (nI 0)))))))
def m_M_valueOf (x0 : Int32) (x1 : Int32) (x2 : Int32) (x3 : Int32) : Option (Int32 × Unit) := (if x0 = (nI 0) then some (x1, ()) else (if x0 = (nI 1) then some (x2, ()) else some (x3, ())))
def m_M_literalHolds (v_fact : Nat → Int32) (v_roundOf : Nat → Int32) (x1 : Int32) (x2 : Int32) (x3 : Int32) (x4 : Int32) : Option (Int32 × Unit) := (Option.bind (m_M_valueOf (irm (x1 / (nI 3)) (nI 3)) x2 x3 x4) (fun v_9 => (Option.bind (m_M_valueOf (irm x1 (nI 3)) x2 x3 x4) (fun v_21 => (if (nI 18) ≤ x1 then (if inR (((nI 4) * v_9.1) + v_21.1) 16 = true then (if (v_roundOf (((nI 4) * v_9.1) + v_21.1).toNatClampNeg) ≤ (nI 0) then some ((nI 0), ()) else some ((nI 1), ())) else none) else (if inR (((nI 16) * (x1 / (nI 9))) + (((nI 4) * v_9.1) + v_21.1)) 32 = true then (if isZ (v_fact (((nI 16) * (x1 / (nI 9))) + (((nI 4) * v_9.1) + v_21.1)).toNatClampNeg) = true then some (v_fact (((nI 16) * (x1 / (nI 9))) + (((nI 4) * v_9.1) + v_21.1)).toNatClampNeg, ()) else none) else none))))))
def m_M_follows_68 (v_count : Int32) (v_fact : Nat → Int32) (v_many : Nat → Int32) (v_codes : Nat → Int32) (v_roundOf : Nat → Int32) (k_13 : Int32 → Int32 → Int32 → Int32 → Option (Int32 × Unit)) (z1 : Int32) (z2 : Int32) (z3 : Int32) (z4 : Int32) (z5 : Int32) : Option (Int32 × Unit) := (if z5 = (nI 0) then k_13 z1 z2 z3 (z4 + (nI 1)) else some ((nI 1), ()))
def m_M_follows_25 (v_count : Int32) (v_fact : Nat → Int32) (v_many : Nat → Int32) (v_codes : Nat → Int32) (v_roundOf : Nat → Int32) (k_13 : Int32 → Int32 → Int32 → Int32 → Option (Int32 × Unit)) : Nat → Int32 → Int32 → Int32 → Int32 → Int32 → Int32 → Option (Int32 × Unit)
  | 0, _, _, _, _, _, _ => none
  | n + 1, z1, z2, z3, z4, z5, z6 => (if inR z3 2 = true then (if (v_many z3.toNatClampNeg) ≤ z6 then m_M_follows_68 v_count v_fact v_many v_codes v_roundOf k_13 z1 z2 z3 z4 z5 else (if z5 = (nI 0) then m_M_follows_68 v_count v_fact v_many v_codes v_roundOf k_13 z1 z2 z3 z4 z5 else (if inR (((nI 3) * z3) + z6) 6 = true then (Option.bind (m_M_literalHolds v_fact v_roundOf (v_codes (((nI 3) * z3) + z6).toNatClampNeg) z1 z2 z4) (fun v_57 => m_M_follows_25 v_count v_fact v_many v_codes v_roundOf k_13 n z1 z2 z3 z4 v_57.1 (z6 + (nI 1)))) else none))) else none)
def m_M_follows_13 (v_count : Int32) (v_fact : Nat → Int32) (v_many : Nat → Int32) (v_codes : Nat → Int32) (v_roundOf : Nat → Int32) (k_2 : Int32 → Int32 → Int32 → Option (Int32 × Unit)) : Nat → Int32 → Int32 → Int32 → Int32 → Option (Int32 × Unit)
  | 0, _, _, _, _ => none
  | n + 1, z1, z2, z3, z4 => (if (nI 4) ≤ z4 then k_2 z1 z2 (z3 + (nI 1)) else m_M_follows_25 v_count v_fact v_many v_codes v_roundOf (m_M_follows_13 v_count v_fact v_many v_codes v_roundOf k_2 n) 40 z1 z2 z3 z4 (nI 1) (nI 0))
def m_M_follows_2 (v_count : Int32) (v_fact : Nat → Int32) (v_many : Nat → Int32) (v_codes : Nat → Int32) (v_roundOf : Nat → Int32) : Nat → Int32 → Int32 → Int32 → Option (Int32 × Unit)
  | 0, _, _, _ => none
  | n + 1, z1, z2, z3 => (if v_count ≤ z3 then some ((nI 0), ()) else m_M_follows_13 v_count v_fact v_many v_codes v_roundOf (m_M_follows_2 v_count v_fact v_many v_codes v_roundOf n) 40 z1 z2 z3 (nI 0))
def m_M_follows (v_count : Int32) (v_fact : Nat → Int32) (v_many : Nat → Int32) (v_codes : Nat → Int32) (v_roundOf : Nat → Int32) (x1 : Int32) (x2 : Int32) : Option (Int32 × Unit) := m_M_follows_2 v_count v_fact v_many v_codes v_roundOf 40 x1 x2 (nI 0)
def m_M_work_156 (v_count : Int32) (v_fact : Nat → Int32) (v_many : Nat → Int32) (v_codes : Nat → Int32) (k_123 : Int32 → (Nat → Int32) → (Nat → Int32) → Int32 → Int32 → Option (Int32 × (Nat → Int32) × (Nat → Int32))) (v_last : Int32) (v_roundOf : Nat → Int32) (v_fresh : Nat → Int32) (z1 : Int32) (z2 : Int32) (y0 : Int32) (y1 : Int32) : Option (Int32 × (Nat → Int32) × (Nat → Int32)) := (if inR y1 16 = true then k_123 v_last (upd v_roundOf y1.toNatClampNeg y0) v_fresh z1 (z2 + (nI 1)) else none)
def m_M_work_123 (v_count : Int32) (v_fact : Nat → Int32) (v_many : Nat → Int32) (v_codes : Nat → Int32) (k_28 : Int32 → (Nat → Int32) → (Nat → Int32) → Int32 → Option (Int32 × (Nat → Int32) × (Nat → Int32))) : Nat → Int32 → (Nat → Int32) → (Nat → Int32) → Int32 → Int32 → Option (Int32 × (Nat → Int32) × (Nat → Int32))
  | 0, _, _, _, _, _ => none
  | n + 1, v_last, v_roundOf, v_fresh, z1, z2 => (if (nI 16) ≤ z2 then k_28 v_last v_roundOf v_fresh z1 else (if inR z2 16 = true then (if (v_fresh z2.toNatClampNeg) = (nI 0) then (if inR z2 16 = true then m_M_work_156 v_count v_fact v_many v_codes (m_M_work_123 v_count v_fact v_many v_codes k_28 n) v_last v_roundOf v_fresh z1 z2 (v_roundOf z2.toNatClampNeg) z2 else none) else m_M_work_156 v_count v_fact v_many v_codes (m_M_work_123 v_count v_fact v_many v_codes k_28 n) v_last v_roundOf v_fresh z1 z2 v_last z2) else none))
def m_M_work_118 (v_count : Int32) (v_fact : Nat → Int32) (v_many : Nat → Int32) (v_codes : Nat → Int32) (k_28 : Int32 → (Nat → Int32) → (Nat → Int32) → Int32 → Option (Int32 × (Nat → Int32) × (Nat → Int32))) (v_last : Int32) (v_roundOf : Nat → Int32) (v_fresh : Nat → Int32) (z1 : Int32) (y0 : Int32) : Option (Int32 × (Nat → Int32) × (Nat → Int32)) := m_M_work_123 v_count v_fact v_many v_codes k_28 40 y0 v_roundOf v_fresh z1 (nI 0)
def m_M_work_93 (v_count : Int32) (v_fact : Nat → Int32) (v_many : Nat → Int32) (v_codes : Nat → Int32) (k_36 : Int32 → (Nat → Int32) → (Nat → Int32) → Int32 → Int32 → Option (Int32 × (Nat → Int32) × (Nat → Int32))) (v_last : Int32) (v_roundOf : Nat → Int32) (v_fresh : Nat → Int32) (z2 : Int32) (y0 : Int32) : Option (Int32 × (Nat → Int32) × (Nat → Int32)) := k_36 v_last v_roundOf v_fresh y0 (z2 + (nI 1))
def m_M_work_88 (v_count : Int32) (v_fact : Nat → Int32) (v_many : Nat → Int32) (v_codes : Nat → Int32) (k_36 : Int32 → (Nat → Int32) → (Nat → Int32) → Int32 → Int32 → Option (Int32 × (Nat → Int32) × (Nat → Int32))) (v_last : Int32) (v_roundOf : Nat → Int32) (v_fresh : Nat → Int32) (z2 : Int32) : Option (Int32 × (Nat → Int32) × (Nat → Int32)) := m_M_work_93 v_count v_fact v_many v_codes k_36 v_last v_roundOf v_fresh z2 (nI 1)
def m_M_work_74 (v_count : Int32) (v_fact : Nat → Int32) (v_many : Nat → Int32) (v_codes : Nat → Int32) (k_36 : Int32 → (Nat → Int32) → (Nat → Int32) → Int32 → Int32 → Option (Int32 × (Nat → Int32) × (Nat → Int32))) (v_last : Int32) (v_roundOf : Nat → Int32) (v_fresh : Nat → Int32) (z1 : Int32) (z2 : Int32) (y0 : Int32) (y1 : Int32) : Option (Int32 × (Nat → Int32) × (Nat → Int32)) := (if inR y1 16 = true then (if isZ y0 = true then (if z1 = (nI 0) then (if inR z2 16 = true then (if ((upd v_fresh y1.toNatClampNeg y0) z2.toNatClampNeg) = (nI 0) then m_M_work_93 v_count v_fact v_many v_codes k_36 v_last v_roundOf (upd v_fresh y1.toNatClampNeg y0) z2 (nI 0) else m_M_work_88 v_count v_fact v_many v_codes k_36 v_last v_roundOf (upd v_fresh y1.toNatClampNeg y0) z2) else none) else m_M_work_88 v_count v_fact v_many v_codes k_36 v_last v_roundOf (upd v_fresh y1.toNatClampNeg y0) z2) else none) else none)
def m_M_work_73 (v_count : Int32) (v_fact : Nat → Int32) (v_many : Nat → Int32) (v_codes : Nat → Int32) (k_36 : Int32 → (Nat → Int32) → (Nat → Int32) → Int32 → Int32 → Option (Int32 × (Nat → Int32) × (Nat → Int32))) (v_last : Int32) (v_roundOf : Nat → Int32) (v_fresh : Nat → Int32) (z1 : Int32) (z2 : Int32) (y0 : Int32) : Option (Int32 × (Nat → Int32) × (Nat → Int32)) := m_M_work_74 v_count v_fact v_many v_codes k_36 v_last v_roundOf v_fresh z1 z2 (nI 0) y0
def m_M_work_36 (v_count : Int32) (v_fact : Nat → Int32) (v_many : Nat → Int32) (v_codes : Nat → Int32) (k_28 : Int32 → (Nat → Int32) → (Nat → Int32) → Int32 → Option (Int32 × (Nat → Int32) × (Nat → Int32))) : Nat → Int32 → (Nat → Int32) → (Nat → Int32) → Int32 → Int32 → Option (Int32 × (Nat → Int32) × (Nat → Int32))
  | 0, _, _, _, _, _ => none
  | n + 1, v_last, v_roundOf, v_fresh, z1, z2 => (if (nI 16) ≤ z2 then (if z1 = (nI 0) then m_M_work_118 v_count v_fact v_many v_codes k_28 v_last v_roundOf v_fresh z1 v_last else m_M_work_118 v_count v_fact v_many v_codes k_28 v_last v_roundOf v_fresh z1 (v_last + (nI 1))) else (if inR z2 16 = true then (if (v_roundOf z2.toNatClampNeg) = (nI 0) then (Option.bind (m_M_follows v_count v_fact v_many v_codes v_roundOf (z2 / (nI 4)) (irm z2 (nI 4))) (fun v_63 => (if v_63.1 = (nI 0) then m_M_work_73 v_count v_fact v_many v_codes (m_M_work_36 v_count v_fact v_many v_codes k_28 n) v_last v_roundOf v_fresh z1 z2 z2 else m_M_work_74 v_count v_fact v_many v_codes (m_M_work_36 v_count v_fact v_many v_codes k_28 n) v_last v_roundOf v_fresh z1 z2 (nI 1) z2))) else m_M_work_73 v_count v_fact v_many v_codes (m_M_work_36 v_count v_fact v_many v_codes k_28 n) v_last v_roundOf v_fresh z1 z2 z2) else none))
def m_M_work_28 (v_count : Int32) (v_fact : Nat → Int32) (v_many : Nat → Int32) (v_codes : Nat → Int32) : Nat → Int32 → (Nat → Int32) → (Nat → Int32) → Int32 → Option (Int32 × (Nat → Int32) × (Nat → Int32))
  | 0, _, _, _, _ => none
  | n + 1, v_last, v_roundOf, v_fresh, z1 => (if z1 = (nI 0) then some (v_last, v_roundOf, v_fresh) else m_M_work_36 v_count v_fact v_many v_codes (m_M_work_28 v_count v_fact v_many v_codes n) 40 v_last v_roundOf v_fresh (nI 0) (nI 0))
def m_M_work_2 (v_count : Int32) (v_fact : Nat → Int32) (v_many : Nat → Int32) (v_codes : Nat → Int32) : Nat → Int32 → (Nat → Int32) → (Nat → Int32) → Int32 → Option (Int32 × (Nat → Int32) × (Nat → Int32))
  | 0, _, _, _, _ => none
  | n + 1, v_last, v_roundOf, v_fresh, z1 => (if (nI 16) ≤ z1 then m_M_work_28 v_count v_fact v_many v_codes 40 (nI 0) v_roundOf v_fresh (nI 1) else (if inR z1 16 = true then m_M_work_2 v_count v_fact v_many v_codes n v_last (upd v_roundOf z1.toNatClampNeg (nI 0)) v_fresh (z1 + (nI 1)) else none))
def m_M_work (v_count : Int32) (v_last : Int32) (v_fact : Nat → Int32) (v_many : Nat → Int32) (v_codes : Nat → Int32) (v_roundOf : Nat → Int32) (v_fresh : Nat → Int32) : Option (Int32 × (Nat → Int32) × (Nat → Int32)) := m_M_work_2 v_count v_fact v_many v_codes 40 v_last v_roundOf v_fresh (nI 0)
def m_M_given (v_count : Int32) (v_last : Int32) (v_fact : Nat → Int32) (v_many : Nat → Int32) (v_codes : Nat → Int32) (v_roundOf : Nat → Int32) (v_fresh : Nat → Int32) (x1 : Int32) (x2 : Int32) : Option (Int32 × Int32 × (Nat → Int32) × (Nat → Int32)) := (Option.bind (m_M_work v_count v_last v_fact v_many v_codes v_roundOf v_fresh) (fun v_1 => (Option.bind (m_M_constant x1) (fun v_5 => (if v_5.1 = (nI 0) then some ((nI 0), (v_1.1, v_1.2.1, v_1.2.2)) else (Option.bind (m_M_constant x2) (fun v_12 => (if v_12.1 = (nI 0) then some ((nI 0), (v_1.1, v_1.2.1, v_1.2.2)) else (if inR (((nI 4) * x1) + x2) 16 = true then some (v_1.2.1 (((nI 4) * x1) + x2).toNatClampNeg, (v_1.1, v_1.2.1, v_1.2.2)) else none)))))))))
def m_M_rounds (v_count : Int32) (v_last : Int32) (v_fact : Nat → Int32) (v_many : Nat → Int32) (v_codes : Nat → Int32) (v_roundOf : Nat → Int32) (v_fresh : Nat → Int32) : Option (Int32 × Int32 × (Nat → Int32) × (Nat → Int32)) := (Option.bind (m_M_work v_count v_last v_fact v_many v_codes v_roundOf v_fresh) (fun v_1 => some (v_1.1, (v_1.1, v_1.2.1, v_1.2.2))))
def m_M_fits_61 (v_count : Int32) (v_fact : Nat → Int32) (v_marked : Nat → Int32) (v_many : Nat → Int32) (v_codes : Nat → Int32) (k_8 : Int32 → (Nat → Int32) → (Nat → Int32) → Int32 → Int32 → Option (Int32 × Int32 × (Nat → Int32) × (Nat → Int32))) (v_last : Int32) (v_roundOf : Nat → Int32) (v_fresh : Nat → Int32) (z2 : Int32) (y0 : Int32) : Option (Int32 × Int32 × (Nat → Int32) × (Nat → Int32)) := k_8 v_last v_roundOf v_fresh y0 (z2 + (nI 1))
def m_M_fits_60 (v_count : Int32) (v_fact : Nat → Int32) (v_marked : Nat → Int32) (v_many : Nat → Int32) (v_codes : Nat → Int32) (k_8 : Int32 → (Nat → Int32) → (Nat → Int32) → Int32 → Int32 → Option (Int32 × Int32 × (Nat → Int32) × (Nat → Int32))) (v_last : Int32) (v_roundOf : Nat → Int32) (v_fresh : Nat → Int32) (z2 : Int32) : Option (Int32 × Int32 × (Nat → Int32) × (Nat → Int32)) := m_M_fits_61 v_count v_fact v_marked v_many v_codes k_8 v_last v_roundOf v_fresh z2 (nI 0)
def m_M_fits_56 (v_count : Int32) (v_fact : Nat → Int32) (v_marked : Nat → Int32) (v_many : Nat → Int32) (v_codes : Nat → Int32) (k_8 : Int32 → (Nat → Int32) → (Nat → Int32) → Int32 → Int32 → Option (Int32 × Int32 × (Nat → Int32) × (Nat → Int32))) (v_last : Int32) (v_roundOf : Nat → Int32) (v_fresh : Nat → Int32) (z2 : Int32) : Option (Int32 × Int32 × (Nat → Int32) × (Nat → Int32)) := m_M_fits_61 v_count v_fact v_marked v_many v_codes k_8 v_last v_roundOf v_fresh z2 (nI 1)
def m_M_fits_37 (v_count : Int32) (v_fact : Nat → Int32) (v_marked : Nat → Int32) (v_many : Nat → Int32) (v_codes : Nat → Int32) (k_8 : Int32 → (Nat → Int32) → (Nat → Int32) → Int32 → Int32 → Option (Int32 × Int32 × (Nat → Int32) × (Nat → Int32))) (v_last : Int32) (v_roundOf : Nat → Int32) (v_fresh : Nat → Int32) (z2 : Int32) : Option (Int32 × Int32 × (Nat → Int32) × (Nat → Int32)) := (if inR z2 16 = true then (if (v_marked z2.toNatClampNeg) = (-1 : Int32) then (if inR z2 16 = true then (if (v_roundOf z2.toNatClampNeg) = (nI 0) then m_M_fits_56 v_count v_fact v_marked v_many v_codes k_8 v_last v_roundOf v_fresh z2 else m_M_fits_60 v_count v_fact v_marked v_many v_codes k_8 v_last v_roundOf v_fresh z2) else none) else m_M_fits_56 v_count v_fact v_marked v_many v_codes k_8 v_last v_roundOf v_fresh z2) else none)
def m_M_fits_8 (v_count : Int32) (v_fact : Nat → Int32) (v_marked : Nat → Int32) (v_many : Nat → Int32) (v_codes : Nat → Int32) : Nat → Int32 → (Nat → Int32) → (Nat → Int32) → Int32 → Int32 → Option (Int32 × Int32 × (Nat → Int32) × (Nat → Int32))
  | 0, _, _, _, _, _ => none
  | n + 1, v_last, v_roundOf, v_fresh, z1, z2 => (if (nI 16) ≤ z2 then (if isZ z1 = true then some (z1, (v_last, v_roundOf, v_fresh)) else none) else (if z1 = (nI 0) then m_M_fits_60 v_count v_fact v_marked v_many v_codes (m_M_fits_8 v_count v_fact v_marked v_many v_codes n) v_last v_roundOf v_fresh z2 else (if inR z2 16 = true then (if (v_marked z2.toNatClampNeg) = (nI 1) then (if inR z2 16 = true then (if (v_roundOf z2.toNatClampNeg) ≤ (nI 0) then m_M_fits_60 v_count v_fact v_marked v_many v_codes (m_M_fits_8 v_count v_fact v_marked v_many v_codes n) v_last v_roundOf v_fresh z2 else m_M_fits_37 v_count v_fact v_marked v_many v_codes (m_M_fits_8 v_count v_fact v_marked v_many v_codes n) v_last v_roundOf v_fresh z2) else none) else m_M_fits_37 v_count v_fact v_marked v_many v_codes (m_M_fits_8 v_count v_fact v_marked v_many v_codes n) v_last v_roundOf v_fresh z2) else none)))
def m_M_fits (v_count : Int32) (v_last : Int32) (v_fact : Nat → Int32) (v_marked : Nat → Int32) (v_many : Nat → Int32) (v_codes : Nat → Int32) (v_roundOf : Nat → Int32) (v_fresh : Nat → Int32) : Option (Int32 × Int32 × (Nat → Int32) × (Nat → Int32)) := (Option.bind (m_M_work v_count v_last v_fact v_many v_codes v_roundOf v_fresh) (fun v_1 => m_M_fits_8 v_count v_fact v_marked v_many v_codes 40 v_1.1 v_1.2.1 v_1.2.2 (nI 1) (nI 0)))
def m_M_set_87 (v_many : Nat → Int32) (v_codes : Nat → Int32) (y0 : Int32) (y1 : Int32) : Option (Int32 × (Nat → Int32) × (Nat → Int32)) := (if ((y1 ||| y0) &&& (nI 3)) = (nI 3) then some ((nI 1), (v_many, v_codes)) else some ((nI 0), (v_many, v_codes)))
def m_M_set_72 (v_many : Nat → Int32) (v_codes : Nat → Int32) (z4 : Int32) (y0 : Int32) (y1 : Int32) : Option (Int32 × (Nat → Int32) × (Nat → Int32)) := (if (nI 0) ≤ z4 then (Option.bind (m_M_variables z4) (fun v_84 => m_M_set_87 v_many v_codes v_84.1 (y1 ||| y0))) else m_M_set_87 v_many v_codes (nI 0) (y1 ||| y0))
def m_M_set_23 (v_many : Nat → Int32) (v_codes : Nat → Int32) (z1 : Int32) (z2 : Int32) (z3 : Int32) (z4 : Int32) (y0 : Int32) (y1 : Int32) : Option (Int32 × (Nat → Int32) × (Nat → Int32)) := (if inR y1 2 = true then (if inR ((nI 3) * z1) 6 = true then (if inR (((nI 3) * z1) + (nI 1)) 6 = true then (if inR (((nI 3) * z1) + (nI 2)) 6 = true then (Option.bind (m_M_variables z2) (fun v_57 => (if (nI 0) ≤ z3 then (Option.bind (m_M_variables z3) (fun v_69 => m_M_set_72 (upd v_many y1.toNatClampNeg y0) (upd (upd (upd v_codes ((nI 3) * z1).toNatClampNeg z2) (((nI 3) * z1) + (nI 1)).toNatClampNeg z3) (((nI 3) * z1) + (nI 2)).toNatClampNeg z4) z4 v_69.1 v_57.1)) else m_M_set_72 (upd v_many y1.toNatClampNeg y0) (upd (upd (upd v_codes ((nI 3) * z1).toNatClampNeg z2) (((nI 3) * z1) + (nI 1)).toNatClampNeg z3) (((nI 3) * z1) + (nI 2)).toNatClampNeg z4) z4 (nI 0) v_57.1))) else none) else none) else none) else none)
def m_M_set (v_many : Nat → Int32) (v_codes : Nat → Int32) (x1 : Int32) (x2 : Int32) (x3 : Int32) (x4 : Int32) : Option (Int32 × (Nat → Int32) × (Nat → Int32)) := (if (nI 0) ≤ x3 then (if (nI 0) ≤ x4 then m_M_set_23 v_many v_codes x1 x2 x3 x4 (nI 3) x1 else m_M_set_23 v_many v_codes x1 x2 x3 x4 (nI 2) x1) else m_M_set_23 v_many v_codes x1 x2 x3 x4 (nI 1) x1)
def m_M_keep_10 (v_count : Int32) (v_many : Nat → Int32) (v_codes : Nat → Int32) : Nat → Int32 → (Nat → Int32) → (Nat → Int32) → Int32 → Option (Int32 × (Nat → Int32) × (Nat → Int32))
  | 0, _, _, _, _ => none
  | n + 1, v_oldCount, v_oldMany, v_oldCodes, z1 => (if (nI 6) ≤ z1 then (if inR (nI 0) 2 = true then (if inR (nI 0) 2 = true then (if inR (nI 1) 2 = true then (if inR (nI 1) 2 = true then some (v_oldCount, upd (upd v_oldMany (nI 0).toNatClampNeg (v_many (nI 0).toNatClampNeg)) (nI 1).toNatClampNeg (v_many (nI 1).toNatClampNeg), v_oldCodes) else none) else none) else none) else none) else (if inR z1 6 = true then (if inR z1 6 = true then m_M_keep_10 v_count v_many v_codes n v_oldCount v_oldMany (upd v_oldCodes z1.toNatClampNeg (v_codes z1.toNatClampNeg)) (z1 + (nI 1)) else none) else none))
def m_M_keep (v_count : Int32) (v_oldCount : Int32) (v_many : Nat → Int32) (v_codes : Nat → Int32) (v_oldMany : Nat → Int32) (v_oldCodes : Nat → Int32) : Option (Int32 × (Nat → Int32) × (Nat → Int32)) := m_M_keep_10 v_count v_many v_codes 40 v_count v_oldMany v_oldCodes (nI 0)
def m_M_putBack_10 (v_oldCount : Int32) (v_oldMany : Nat → Int32) (v_oldCodes : Nat → Int32) : Nat → Int32 → (Nat → Int32) → (Nat → Int32) → Int32 → Option (Int32 × (Nat → Int32) × (Nat → Int32))
  | 0, _, _, _, _ => none
  | n + 1, v_count, v_many, v_codes, z1 => (if (nI 6) ≤ z1 then (if inR (nI 0) 2 = true then (if inR (nI 0) 2 = true then (if inR (nI 1) 2 = true then (if inR (nI 1) 2 = true then some (v_count, upd (upd v_many (nI 0).toNatClampNeg (v_oldMany (nI 0).toNatClampNeg)) (nI 1).toNatClampNeg (v_oldMany (nI 1).toNatClampNeg), v_codes) else none) else none) else none) else none) else (if inR z1 6 = true then (if inR z1 6 = true then m_M_putBack_10 v_oldCount v_oldMany v_oldCodes n v_count v_many (upd v_codes z1.toNatClampNeg (v_oldCodes z1.toNatClampNeg)) (z1 + (nI 1)) else none) else none))
def m_M_putBack (v_count : Int32) (v_oldCount : Int32) (v_many : Nat → Int32) (v_codes : Nat → Int32) (v_oldMany : Nat → Int32) (v_oldCodes : Nat → Int32) : Option (Int32 × (Nat → Int32) × (Nat → Int32)) := m_M_putBack_10 v_oldCount v_oldMany v_oldCodes 40 v_oldCount v_many v_codes (nI 0)
def m_M_alone_98 (v_fact : Nat → Int32) (v_marked : Nat → Int32) (k_48 : Int32 → Int32 → (Nat → Int32) → (Nat → Int32) → (Nat → Int32) → (Nat → Int32) → Int32 → Int32 → Int32 → Int32 → Option (Int32 × Int32 × Int32 × (Nat → Int32) × (Nat → Int32) × (Nat → Int32) × (Nat → Int32))) (v_count : Int32) (v_last : Int32) (v_many : Nat → Int32) (v_codes : Nat → Int32) (v_roundOf : Nat → Int32) (v_fresh : Nat → Int32) (z1 : Int32) (z2 : Int32) (z3 : Int32) (z4 : Int32) : Option (Int32 × Int32 × Int32 × (Nat → Int32) × (Nat → Int32) × (Nat → Int32) × (Nat → Int32)) := k_48 v_count v_last v_many v_codes v_roundOf v_fresh z1 z2 z3 (z4 + (nI 1))
def m_M_alone_79 (v_fact : Nat → Int32) (v_marked : Nat → Int32) (k_48 : Int32 → Int32 → (Nat → Int32) → (Nat → Int32) → (Nat → Int32) → (Nat → Int32) → Int32 → Int32 → Int32 → Int32 → Option (Int32 × Int32 × Int32 × (Nat → Int32) × (Nat → Int32) × (Nat → Int32) × (Nat → Int32))) (v_count : Int32) (v_last : Int32) (v_many : Nat → Int32) (v_codes : Nat → Int32) (v_roundOf : Nat → Int32) (v_fresh : Nat → Int32) (z1 : Int32) (z2 : Int32) (z3 : Int32) (z4 : Int32) (y0 : Int32) (y1 : Int32) (y2 : Int32) (y3 : Int32) : Option (Int32 × Int32 × Int32 × (Nat → Int32) × (Nat → Int32) × (Nat → Int32) × (Nat → Int32)) := (Option.bind (m_M_set v_many v_codes y3 y2 y1 y0) (fun v_79 => (if v_79.1 = (nI 0) then m_M_alone_98 v_fact v_marked k_48 v_count v_last v_79.2.1 v_79.2.2 v_roundOf v_fresh z1 z2 z3 z4 else (Option.bind (m_M_fits v_count v_last v_fact v_marked v_79.2.1 v_79.2.2 v_roundOf v_fresh) (fun v_90 => (if v_90.1 = (nI 0) then m_M_alone_98 v_fact v_marked k_48 v_count v_90.2.1 v_79.2.1 v_79.2.2 v_90.2.2.1 v_90.2.2.2 z1 z2 z3 z4 else some ((nI 1), (v_count, v_90.2.1, v_79.2.1, v_79.2.2, v_90.2.2.1, v_90.2.2.2))))))))
def m_M_alone_68 (v_fact : Nat → Int32) (v_marked : Nat → Int32) (k_48 : Int32 → Int32 → (Nat → Int32) → (Nat → Int32) → (Nat → Int32) → (Nat → Int32) → Int32 → Int32 → Int32 → Int32 → Option (Int32 × Int32 × Int32 × (Nat → Int32) × (Nat → Int32) × (Nat → Int32) × (Nat → Int32))) (v_count : Int32) (v_last : Int32) (v_many : Nat → Int32) (v_codes : Nat → Int32) (v_roundOf : Nat → Int32) (v_fresh : Nat → Int32) (z1 : Int32) (z2 : Int32) (z3 : Int32) (z4 : Int32) (y0 : Int32) (y1 : Int32) (y2 : Int32) : Option (Int32 × Int32 × Int32 × (Nat → Int32) × (Nat → Int32) × (Nat → Int32) × (Nat → Int32)) := (if z1 ≤ (nI 2) then m_M_alone_79 v_fact v_marked k_48 v_count v_last v_many v_codes v_roundOf v_fresh z1 z2 z3 z4 (-1 : Int32) y0 y1 y2 else m_M_alone_79 v_fact v_marked k_48 v_count v_last v_many v_codes v_roundOf v_fresh z1 z2 z3 z4 z4 y0 y1 y2)
def m_M_alone_48 (v_fact : Nat → Int32) (v_marked : Nat → Int32) (k_27 : Int32 → Int32 → (Nat → Int32) → (Nat → Int32) → (Nat → Int32) → (Nat → Int32) → Int32 → Int32 → Int32 → Option (Int32 × Int32 × Int32 × (Nat → Int32) × (Nat → Int32) × (Nat → Int32) × (Nat → Int32))) : Nat → Int32 → Int32 → (Nat → Int32) → (Nat → Int32) → (Nat → Int32) → (Nat → Int32) → Int32 → Int32 → Int32 → Int32 → Option (Int32 × Int32 × Int32 × (Nat → Int32) × (Nat → Int32) × (Nat → Int32) × (Nat → Int32))
  | 0, _, _, _, _, _, _, _, _, _, _ => none
  | n + 1, v_count, v_last, v_many, v_codes, v_roundOf, v_fresh, z1, z2, z3, z4 => (if (nI 27) ≤ z4 then k_27 v_count v_last v_many v_codes v_roundOf v_fresh z1 z2 (z3 + (nI 1)) else (if z1 ≤ (nI 1) then m_M_alone_68 v_fact v_marked (m_M_alone_48 v_fact v_marked k_27 n) v_count v_last v_many v_codes v_roundOf v_fresh z1 z2 z3 z4 (-1 : Int32) z2 (nI 0) else m_M_alone_68 v_fact v_marked (m_M_alone_48 v_fact v_marked k_27 n) v_count v_last v_many v_codes v_roundOf v_fresh z1 z2 z3 z4 z3 z2 (nI 0)))
def m_M_alone_46 (v_fact : Nat → Int32) (v_marked : Nat → Int32) (k_27 : Int32 → Int32 → (Nat → Int32) → (Nat → Int32) → (Nat → Int32) → (Nat → Int32) → Int32 → Int32 → Int32 → Option (Int32 × Int32 × Int32 × (Nat → Int32) × (Nat → Int32) × (Nat → Int32) × (Nat → Int32))) (v_count : Int32) (v_last : Int32) (v_many : Nat → Int32) (v_codes : Nat → Int32) (v_roundOf : Nat → Int32) (v_fresh : Nat → Int32) (z1 : Int32) (z2 : Int32) (z3 : Int32) (y0 : Int32) : Option (Int32 × Int32 × Int32 × (Nat → Int32) × (Nat → Int32) × (Nat → Int32) × (Nat → Int32)) := m_M_alone_48 v_fact v_marked k_27 40 v_count v_last v_many v_codes v_roundOf v_fresh z1 z2 z3 y0
def m_M_alone_27 (v_fact : Nat → Int32) (v_marked : Nat → Int32) (k_7 : Int32 → Int32 → (Nat → Int32) → (Nat → Int32) → (Nat → Int32) → (Nat → Int32) → Int32 → Int32 → Option (Int32 × Int32 × Int32 × (Nat → Int32) × (Nat → Int32) × (Nat → Int32) × (Nat → Int32))) : Nat → Int32 → Int32 → (Nat → Int32) → (Nat → Int32) → (Nat → Int32) → (Nat → Int32) → Int32 → Int32 → Int32 → Option (Int32 × Int32 × Int32 × (Nat → Int32) × (Nat → Int32) × (Nat → Int32) × (Nat → Int32))
  | 0, _, _, _, _, _, _, _, _, _ => none
  | n + 1, v_count, v_last, v_many, v_codes, v_roundOf, v_fresh, z1, z2, z3 => (if (nI 27) ≤ z3 then k_7 v_count v_last v_many v_codes v_roundOf v_fresh z1 (z2 + (nI 1)) else (if z1 ≤ (nI 2) then m_M_alone_46 v_fact v_marked (m_M_alone_27 v_fact v_marked k_7 n) v_count v_last v_many v_codes v_roundOf v_fresh z1 z2 z3 (nI 26) else m_M_alone_46 v_fact v_marked (m_M_alone_27 v_fact v_marked k_7 n) v_count v_last v_many v_codes v_roundOf v_fresh z1 z2 z3 (z3 + (nI 1))))
def m_M_alone_26 (v_fact : Nat → Int32) (v_marked : Nat → Int32) (k_7 : Int32 → Int32 → (Nat → Int32) → (Nat → Int32) → (Nat → Int32) → (Nat → Int32) → Int32 → Int32 → Option (Int32 × Int32 × Int32 × (Nat → Int32) × (Nat → Int32) × (Nat → Int32) × (Nat → Int32))) (v_count : Int32) (v_last : Int32) (v_many : Nat → Int32) (v_codes : Nat → Int32) (v_roundOf : Nat → Int32) (v_fresh : Nat → Int32) (z1 : Int32) (z2 : Int32) (y0 : Int32) : Option (Int32 × Int32 × Int32 × (Nat → Int32) × (Nat → Int32) × (Nat → Int32) × (Nat → Int32)) := m_M_alone_27 v_fact v_marked k_7 40 v_count v_last v_many v_codes v_roundOf v_fresh z1 z2 y0
def m_M_alone_7 (v_fact : Nat → Int32) (v_marked : Nat → Int32) : Nat → Int32 → Int32 → (Nat → Int32) → (Nat → Int32) → (Nat → Int32) → (Nat → Int32) → Int32 → Int32 → Option (Int32 × Int32 × Int32 × (Nat → Int32) × (Nat → Int32) × (Nat → Int32) × (Nat → Int32))
  | 0, _, _, _, _, _, _, _, _ => none
  | n + 1, v_count, v_last, v_many, v_codes, v_roundOf, v_fresh, z1, z2 => (if (nI 27) ≤ z2 then some ((nI 0), (v_count, v_last, v_many, v_codes, v_roundOf, v_fresh)) else (if z1 ≤ (nI 1) then m_M_alone_26 v_fact v_marked (m_M_alone_7 v_fact v_marked n) v_count v_last v_many v_codes v_roundOf v_fresh z1 z2 (nI 26) else m_M_alone_26 v_fact v_marked (m_M_alone_7 v_fact v_marked n) v_count v_last v_many v_codes v_roundOf v_fresh z1 z2 (z2 + (nI 1))))
def m_M_alone (v_count : Int32) (v_last : Int32) (v_fact : Nat → Int32) (v_marked : Nat → Int32) (v_many : Nat → Int32) (v_codes : Nat → Int32) (v_roundOf : Nat → Int32) (v_fresh : Nat → Int32) (x1 : Int32) : Option (Int32 × Int32 × Int32 × (Nat → Int32) × (Nat → Int32) × (Nat → Int32) × (Nat → Int32)) := m_M_alone_7 v_fact v_marked 40 (nI 1) v_last v_many v_codes v_roundOf v_fresh x1 (nI 0)
def m_M_pair_103 (v_fact : Nat → Int32) (v_marked : Nat → Int32) (k_47 : Int32 → Int32 → (Nat → Int32) → (Nat → Int32) → (Nat → Int32) → (Nat → Int32) → Int32 → Int32 → Int32 → Int32 → Option (Int32 × Int32 × Int32 × (Nat → Int32) × (Nat → Int32) × (Nat → Int32) × (Nat → Int32))) (v_count : Int32) (v_last : Int32) (v_many : Nat → Int32) (v_codes : Nat → Int32) (v_roundOf : Nat → Int32) (v_fresh : Nat → Int32) (z1 : Int32) (z2 : Int32) (z3 : Int32) (z4 : Int32) : Option (Int32 × Int32 × Int32 × (Nat → Int32) × (Nat → Int32) × (Nat → Int32) × (Nat → Int32)) := k_47 v_count v_last v_many v_codes v_roundOf v_fresh z1 z2 z3 (z4 + (nI 1))
def m_M_pair_78 (v_fact : Nat → Int32) (v_marked : Nat → Int32) (k_47 : Int32 → Int32 → (Nat → Int32) → (Nat → Int32) → (Nat → Int32) → (Nat → Int32) → Int32 → Int32 → Int32 → Int32 → Option (Int32 × Int32 × Int32 × (Nat → Int32) × (Nat → Int32) × (Nat → Int32) × (Nat → Int32))) (v_count : Int32) (v_last : Int32) (v_many : Nat → Int32) (v_codes : Nat → Int32) (v_roundOf : Nat → Int32) (v_fresh : Nat → Int32) (z1 : Int32) (z2 : Int32) (z3 : Int32) (z4 : Int32) (z5 : Int32) (y0 : Int32) (y1 : Int32) (y2 : Int32) : Option (Int32 × Int32 × Int32 × (Nat → Int32) × (Nat → Int32) × (Nat → Int32) × (Nat → Int32)) := (Option.bind (m_M_set v_many v_codes y2 y1 y0 (-1 : Int32)) (fun v_79 => (if z5 = (nI 0) then m_M_pair_103 v_fact v_marked k_47 v_count v_last v_79.2.1 v_79.2.2 v_roundOf v_fresh z1 z2 z3 z4 else (if v_79.1 = (nI 0) then m_M_pair_103 v_fact v_marked k_47 v_count v_last v_79.2.1 v_79.2.2 v_roundOf v_fresh z1 z2 z3 z4 else (Option.bind (m_M_fits v_count v_last v_fact v_marked v_79.2.1 v_79.2.2 v_roundOf v_fresh) (fun v_95 => (if v_95.1 = (nI 0) then m_M_pair_103 v_fact v_marked k_47 v_count v_95.2.1 v_79.2.1 v_79.2.2 v_95.2.2.1 v_95.2.2.2 z1 z2 z3 z4 else some ((nI 1), (v_count, v_95.2.1, v_79.2.1, v_79.2.2, v_95.2.2.1, v_95.2.2.2)))))))))
def m_M_pair_47 (v_fact : Nat → Int32) (v_marked : Nat → Int32) (k_26 : Int32 → Int32 → (Nat → Int32) → (Nat → Int32) → (Nat → Int32) → (Nat → Int32) → Int32 → Int32 → Int32 → Option (Int32 × Int32 × Int32 × (Nat → Int32) × (Nat → Int32) × (Nat → Int32) × (Nat → Int32))) : Nat → Int32 → Int32 → (Nat → Int32) → (Nat → Int32) → (Nat → Int32) → (Nat → Int32) → Int32 → Int32 → Int32 → Int32 → Option (Int32 × Int32 × Int32 × (Nat → Int32) × (Nat → Int32) × (Nat → Int32) × (Nat → Int32))
  | 0, _, _, _, _, _, _, _, _, _, _ => none
  | n + 1, v_count, v_last, v_many, v_codes, v_roundOf, v_fresh, z1, z2, z3, z4 => (if (nI 27) ≤ z4 then k_26 v_count v_last v_many v_codes v_roundOf v_fresh z1 z2 (z3 + (nI 1)) else (Option.bind (m_M_set v_many v_codes (nI 0) z2 (-1 : Int32) (-1 : Int32)) (fun v_59 => (if z1 ≤ (nI 2) then m_M_pair_78 v_fact v_marked (m_M_pair_47 v_fact v_marked k_26 n) v_count v_last v_59.2.1 v_59.2.2 v_roundOf v_fresh z1 z2 z3 z4 v_59.1 (-1 : Int32) z3 (nI 1) else m_M_pair_78 v_fact v_marked (m_M_pair_47 v_fact v_marked k_26 n) v_count v_last v_59.2.1 v_59.2.2 v_roundOf v_fresh z1 z2 z3 z4 v_59.1 z4 z3 (nI 1)))))
def m_M_pair_45 (v_fact : Nat → Int32) (v_marked : Nat → Int32) (k_26 : Int32 → Int32 → (Nat → Int32) → (Nat → Int32) → (Nat → Int32) → (Nat → Int32) → Int32 → Int32 → Int32 → Option (Int32 × Int32 × Int32 × (Nat → Int32) × (Nat → Int32) × (Nat → Int32) × (Nat → Int32))) (v_count : Int32) (v_last : Int32) (v_many : Nat → Int32) (v_codes : Nat → Int32) (v_roundOf : Nat → Int32) (v_fresh : Nat → Int32) (z1 : Int32) (z2 : Int32) (z3 : Int32) (y0 : Int32) : Option (Int32 × Int32 × Int32 × (Nat → Int32) × (Nat → Int32) × (Nat → Int32) × (Nat → Int32)) := m_M_pair_47 v_fact v_marked k_26 40 v_count v_last v_many v_codes v_roundOf v_fresh z1 z2 z3 y0
def m_M_pair_26 (v_fact : Nat → Int32) (v_marked : Nat → Int32) (k_7 : Int32 → Int32 → (Nat → Int32) → (Nat → Int32) → (Nat → Int32) → (Nat → Int32) → Int32 → Int32 → Option (Int32 × Int32 × Int32 × (Nat → Int32) × (Nat → Int32) × (Nat → Int32) × (Nat → Int32))) : Nat → Int32 → Int32 → (Nat → Int32) → (Nat → Int32) → (Nat → Int32) → (Nat → Int32) → Int32 → Int32 → Int32 → Option (Int32 × Int32 × Int32 × (Nat → Int32) × (Nat → Int32) × (Nat → Int32) × (Nat → Int32))
  | 0, _, _, _, _, _, _, _, _, _ => none
  | n + 1, v_count, v_last, v_many, v_codes, v_roundOf, v_fresh, z1, z2, z3 => (if (nI 27) ≤ z3 then k_7 v_count v_last v_many v_codes v_roundOf v_fresh z1 (z2 + (nI 1)) else (if z1 ≤ (nI 2) then m_M_pair_45 v_fact v_marked (m_M_pair_26 v_fact v_marked k_7 n) v_count v_last v_many v_codes v_roundOf v_fresh z1 z2 z3 (nI 26) else m_M_pair_45 v_fact v_marked (m_M_pair_26 v_fact v_marked k_7 n) v_count v_last v_many v_codes v_roundOf v_fresh z1 z2 z3 (z3 + (nI 1))))
def m_M_pair_25 (v_fact : Nat → Int32) (v_marked : Nat → Int32) (k_7 : Int32 → Int32 → (Nat → Int32) → (Nat → Int32) → (Nat → Int32) → (Nat → Int32) → Int32 → Int32 → Option (Int32 × Int32 × Int32 × (Nat → Int32) × (Nat → Int32) × (Nat → Int32) × (Nat → Int32))) (v_count : Int32) (v_last : Int32) (v_many : Nat → Int32) (v_codes : Nat → Int32) (v_roundOf : Nat → Int32) (v_fresh : Nat → Int32) (z1 : Int32) (z2 : Int32) (y0 : Int32) : Option (Int32 × Int32 × Int32 × (Nat → Int32) × (Nat → Int32) × (Nat → Int32) × (Nat → Int32)) := m_M_pair_26 v_fact v_marked k_7 40 v_count v_last v_many v_codes v_roundOf v_fresh z1 z2 y0
def m_M_pair_7 (v_fact : Nat → Int32) (v_marked : Nat → Int32) : Nat → Int32 → Int32 → (Nat → Int32) → (Nat → Int32) → (Nat → Int32) → (Nat → Int32) → Int32 → Int32 → Option (Int32 × Int32 × Int32 × (Nat → Int32) × (Nat → Int32) × (Nat → Int32) × (Nat → Int32))
  | 0, _, _, _, _, _, _, _, _ => none
  | n + 1, v_count, v_last, v_many, v_codes, v_roundOf, v_fresh, z1, z2 => (if (nI 27) ≤ z2 then some ((nI 0), (v_count, v_last, v_many, v_codes, v_roundOf, v_fresh)) else (if z1 ≤ (nI 2) then m_M_pair_25 v_fact v_marked (m_M_pair_7 v_fact v_marked n) v_count v_last v_many v_codes v_roundOf v_fresh z1 z2 (z2 + (nI 1)) else m_M_pair_25 v_fact v_marked (m_M_pair_7 v_fact v_marked n) v_count v_last v_many v_codes v_roundOf v_fresh z1 z2 (nI 0)))
def m_M_pair (v_count : Int32) (v_last : Int32) (v_fact : Nat → Int32) (v_marked : Nat → Int32) (v_many : Nat → Int32) (v_codes : Nat → Int32) (v_roundOf : Nat → Int32) (v_fresh : Nat → Int32) (x1 : Int32) : Option (Int32 × Int32 × Int32 × (Nat → Int32) × (Nat → Int32) × (Nat → Int32) × (Nat → Int32)) := m_M_pair_7 v_fact v_marked 40 (nI 2) v_last v_many v_codes v_roundOf v_fresh x1 (nI 0)
def m_M_learn_34 (v_fact : Nat → Int32) (v_marked : Nat → Int32) (k_6 : Int32 → Int32 → Int32 → (Nat → Int32) → (Nat → Int32) → (Nat → Int32) → (Nat → Int32) → (Nat → Int32) → (Nat → Int32) → Int32 → Option (Int32 × Int32 × Int32 × Int32 × (Nat → Int32) × (Nat → Int32) × (Nat → Int32) × (Nat → Int32) × (Nat → Int32) × (Nat → Int32))) (v_count : Int32) (v_oldCount : Int32) (v_last : Int32) (v_many : Nat → Int32) (v_codes : Nat → Int32) (v_oldMany : Nat → Int32) (v_oldCodes : Nat → Int32) (v_roundOf : Nat → Int32) (v_fresh : Nat → Int32) (z1 : Int32) : Option (Int32 × Int32 × Int32 × Int32 × (Nat → Int32) × (Nat → Int32) × (Nat → Int32) × (Nat → Int32) × (Nat → Int32) × (Nat → Int32)) := k_6 v_count v_oldCount v_last v_many v_codes v_oldMany v_oldCodes v_roundOf v_fresh (z1 + (nI 1))
def m_M_learn_6 (v_fact : Nat → Int32) (v_marked : Nat → Int32) : Nat → Int32 → Int32 → Int32 → (Nat → Int32) → (Nat → Int32) → (Nat → Int32) → (Nat → Int32) → (Nat → Int32) → (Nat → Int32) → Int32 → Option (Int32 × Int32 × Int32 × Int32 × (Nat → Int32) × (Nat → Int32) × (Nat → Int32) × (Nat → Int32) × (Nat → Int32) × (Nat → Int32))
  | 0, _, _, _, _, _, _, _, _, _, _ => none
  | n + 1, v_count, v_oldCount, v_last, v_many, v_codes, v_oldMany, v_oldCodes, v_roundOf, v_fresh, z1 => (if (nI 4) ≤ z1 then (Option.bind (m_M_putBack v_count v_oldCount v_many v_codes v_oldMany v_oldCodes) (fun v_41 => some ((nI 0), (v_41.1, v_oldCount, v_last, v_41.2.1, v_41.2.2, v_oldMany, v_oldCodes, v_roundOf, v_fresh)))) else (Option.bind (m_M_alone v_count v_last v_fact v_marked v_many v_codes v_roundOf v_fresh z1) (fun v_13 => (if v_13.1 = (nI 0) then (if z1 ≤ (nI 1) then m_M_learn_34 v_fact v_marked (m_M_learn_6 v_fact v_marked n) v_13.2.1 v_oldCount v_13.2.2.1 v_13.2.2.2.1 v_13.2.2.2.2.1 v_oldMany v_oldCodes v_13.2.2.2.2.2.1 v_13.2.2.2.2.2.2 z1 else (Option.bind (m_M_pair v_13.2.1 v_13.2.2.1 v_fact v_marked v_13.2.2.2.1 v_13.2.2.2.2.1 v_13.2.2.2.2.2.1 v_13.2.2.2.2.2.2 z1) (fun v_26 => (if v_26.1 = (nI 0) then m_M_learn_34 v_fact v_marked (m_M_learn_6 v_fact v_marked n) v_26.2.1 v_oldCount v_26.2.2.1 v_26.2.2.2.1 v_26.2.2.2.2.1 v_oldMany v_oldCodes v_26.2.2.2.2.2.1 v_26.2.2.2.2.2.2 z1 else some (z1, (v_26.2.1, v_oldCount, v_26.2.2.1, v_26.2.2.2.1, v_26.2.2.2.2.1, v_oldMany, v_oldCodes, v_26.2.2.2.2.2.1, v_26.2.2.2.2.2.2)))))) else some (z1, (v_13.2.1, v_oldCount, v_13.2.2.1, v_13.2.2.2.1, v_13.2.2.2.2.1, v_oldMany, v_oldCodes, v_13.2.2.2.2.2.1, v_13.2.2.2.2.2.2))))))
def m_M_learn (v_count : Int32) (v_oldCount : Int32) (v_last : Int32) (v_fact : Nat → Int32) (v_marked : Nat → Int32) (v_many : Nat → Int32) (v_codes : Nat → Int32) (v_oldMany : Nat → Int32) (v_oldCodes : Nat → Int32) (v_roundOf : Nat → Int32) (v_fresh : Nat → Int32) : Option (Int32 × Int32 × Int32 × Int32 × (Nat → Int32) × (Nat → Int32) × (Nat → Int32) × (Nat → Int32) × (Nat → Int32) × (Nat → Int32)) := (Option.bind (m_M_keep v_count v_oldCount v_many v_codes v_oldMany v_oldCodes) (fun v_1 => m_M_learn_6 v_fact v_marked 40 v_count v_1.1 v_last v_many v_codes v_1.2.1 v_1.2.2 v_roundOf v_fresh (nI 1)))
def m_M_key (v_typed : Int32) (v_line : Nat → Int32) (x1 : Int32) : Option (Int32 × Int32 × (Nat → Int32)) := (if x1 < (nI 32) then some ((nI 0), (v_typed, v_line)) else (if (nI 126) < x1 then some ((nI 0), (v_typed, v_line)) else (if v_typed = (nI 32) then some ((nI 0), (v_typed, v_line)) else (if inR v_typed 32 = true then some ((nI 1), (v_typed + (nI 1), upd v_line v_typed.toNatClampNeg x1)) else none))))
def m_M_back (v_typed : Int32) : Option (Int32 × Int32) := (if v_typed = (nI 0) then some ((nI 0), v_typed) else some ((nI 1), v_typed - (nI 1)))
def m_W_law_482 (xs : Nat → Int32) (L : Nat) (k_18 : Int32 → Int32 → Int32 → (Nat → Int32) → (Nat → Int32) → Int32 → (Nat → Int32) → Int32 → Int32 → (Nat → Int64) → (Nat → Int32) → Int32 → Int32 → Int32 → Int32 → Int32 → (Nat → Int32) → (Nat → Int32) → (Nat → Int32) → (Nat → Int32) → (Nat → Int32) → (Nat → Int32) → (Nat → Int32) → (Nat → Int32) → (Nat → Int32) → (Nat → Int32) → Int32 → Option Int32) (v_x_markedPlus : Int32) (v_x_markedMinus : Int32) (v_x_line_length : Int32) (v_x_line_typed : Nat → Int32) (v_x_factSets : Nat → Int32) (v_x_program_count : Int32) (v_x_program_bodies : Nat → Int32) (v_x_deduction_givenPairs : Int32) (v_x_deduction_roundCount : Int32) (v_x_deduction_factChoices : Nat → Int64) (v_x_deduction_givenInRound : Nat → Int32) (v_m_typed : Int32) (v_m_count : Int32) (v_m_oldCount : Int32) (v_m_read : Int32) (v_m_last : Int32) (v_m_line : Nat → Int32) (v_m_fact : Nat → Int32) (v_m_marked : Nat → Int32) (v_m_many : Nat → Int32) (v_m_codes : Nat → Int32) (v_m_oldMany : Nat → Int32) (v_m_oldCodes : Nat → Int32) (v_m_body : Nat → Int32) (v_m_roundOf : Nat → Int32) (v_m_fresh : Nat → Int32) (z3 : Int32) : Option Int32 := k_18 v_x_markedPlus v_x_markedMinus v_x_line_length v_x_line_typed v_x_factSets v_x_program_count v_x_program_bodies v_x_deduction_givenPairs v_x_deduction_roundCount v_x_deduction_factChoices v_x_deduction_givenInRound v_m_typed v_m_count v_m_oldCount v_m_read v_m_last v_m_line v_m_fact v_m_marked v_m_many v_m_codes v_m_oldMany v_m_oldCodes v_m_body v_m_roundOf v_m_fresh (z3 + (nI 4))
def m_W_law_18 (xs : Nat → Int32) (L : Nat) : Nat → Int32 → Int32 → Int32 → (Nat → Int32) → (Nat → Int32) → Int32 → (Nat → Int32) → Int32 → Int32 → (Nat → Int64) → (Nat → Int32) → Int32 → Int32 → Int32 → Int32 → Int32 → (Nat → Int32) → (Nat → Int32) → (Nat → Int32) → (Nat → Int32) → (Nat → Int32) → (Nat → Int32) → (Nat → Int32) → (Nat → Int32) → (Nat → Int32) → (Nat → Int32) → Int32 → Option Int32
  | 0, _, _, _, _, _, _, _, _, _, _, _, _, _, _, _, _, _, _, _, _, _, _, _, _, _, _, _ => none
  | n + 1, v_x_markedPlus, v_x_markedMinus, v_x_line_length, v_x_line_typed, v_x_factSets, v_x_program_count, v_x_program_bodies, v_x_deduction_givenPairs, v_x_deduction_roundCount, v_x_deduction_factChoices, v_x_deduction_givenInRound, v_m_typed, v_m_count, v_m_oldCount, v_m_read, v_m_last, v_m_line, v_m_fact, v_m_marked, v_m_many, v_m_codes, v_m_oldMany, v_m_oldCodes, v_m_body, v_m_roundOf, v_m_fresh, z3 => (if ((nI L) - (nI 4)) < z3 then some (nI 1) else (if inR z3 L = true then (letN ((xs z3.toNatClampNeg) &&& (nI 15)) (fun w_32 => (if w_32 = (nI 0) then (if inR (z3 + (nI 1)) L = true then (Option.bind (m_H_key v_x_line_length v_x_line_typed (i2c (xs (z3 + (nI 1)).toNatClampNeg))) (fun v_119 => (if inR (z3 + (nI 1)) L = true then (Option.bind (m_M_key v_m_typed v_m_line (i2c (xs (z3 + (nI 1)).toNatClampNeg))) (fun v_129 => (if v_119.1 = v_129.1 then m_W_law_482 xs L (m_W_law_18 xs L n) v_x_markedPlus v_x_markedMinus v_119.2.1 v_119.2.2 v_x_factSets v_x_program_count v_x_program_bodies v_x_deduction_givenPairs v_x_deduction_roundCount v_x_deduction_factChoices v_x_deduction_givenInRound v_129.2.1 v_m_count v_m_oldCount v_m_read v_m_last v_129.2.2 v_m_fact v_m_marked v_m_many v_m_codes v_m_oldMany v_m_oldCodes v_m_body v_m_roundOf v_m_fresh z3 else some (nI 0)))) else none))) else none) else (if w_32 = (nI 1) then (Option.bind (m_H_back v_x_line_length) (fun v_138 => (Option.bind (m_M_back v_m_typed) (fun v_142 => (if v_138.1 = v_142.1 then m_W_law_482 xs L (m_W_law_18 xs L n) v_x_markedPlus v_x_markedMinus v_138.2 v_x_line_typed v_x_factSets v_x_program_count v_x_program_bodies v_x_deduction_givenPairs v_x_deduction_roundCount v_x_deduction_factChoices v_x_deduction_givenInRound v_142.2 v_m_count v_m_oldCount v_m_read v_m_last v_m_line v_m_fact v_m_marked v_m_many v_m_codes v_m_oldMany v_m_oldCodes v_m_body v_m_roundOf v_m_fresh z3 else some (nI 0)))))) else (if w_32 = (nI 2) then (Option.bind (m_H_enter v_x_markedPlus v_x_markedMinus v_x_line_length v_x_line_typed v_x_factSets v_x_program_count v_x_program_bodies) (fun v_151 => (Option.bind (m_M_enter v_m_typed v_m_count v_m_read v_m_line v_m_fact v_m_marked v_m_many v_m_codes v_m_body) (fun v_155 => (if v_151.1 = v_155.1 then m_W_law_482 xs L (m_W_law_18 xs L n) v_151.2.1 v_151.2.2.1 v_151.2.2.2.1 v_x_line_typed v_151.2.2.2.2.1 v_151.2.2.2.2.2.1 v_151.2.2.2.2.2.2 v_x_deduction_givenPairs v_x_deduction_roundCount v_x_deduction_factChoices v_x_deduction_givenInRound v_155.2.1 v_155.2.2.1 v_m_oldCount v_155.2.2.2.1 v_m_last v_m_line v_155.2.2.2.2.1 v_155.2.2.2.2.2.1 v_155.2.2.2.2.2.2.1 v_155.2.2.2.2.2.2.2.1 v_m_oldMany v_m_oldCodes v_155.2.2.2.2.2.2.2.2 v_m_roundOf v_m_fresh z3 else some (nI 0)))))) else (if w_32 = (nI 3) then (if inR (z3 + (nI 1)) L = true then (Option.bind (m_H_facts v_x_factSets (xs (z3 + (nI 1)).toNatClampNeg)) (fun v_169 => (if inR (z3 + (nI 1)) L = true then (Option.bind (m_M_facts v_m_fact (xs (z3 + (nI 1)).toNatClampNeg)) (fun v_178 => (if v_169.1 = v_178.1 then m_W_law_482 xs L (m_W_law_18 xs L n) v_x_markedPlus v_x_markedMinus v_x_line_length v_x_line_typed v_x_factSets v_x_program_count v_x_program_bodies v_x_deduction_givenPairs v_x_deduction_roundCount v_x_deduction_factChoices v_x_deduction_givenInRound v_m_typed v_m_count v_m_oldCount v_m_read v_m_last v_m_line v_m_fact v_m_marked v_m_many v_m_codes v_m_oldMany v_m_oldCodes v_m_body v_m_roundOf v_m_fresh z3 else some (nI 0)))) else none))) else none) else (if w_32 = (nI 4) then (if inR (z3 + (nI 1)) L = true then (if inR (z3 + (nI 2)) L = true then (if inR (z3 + (nI 3)) L = true then (Option.bind (m_H_holds v_x_factSets (xs (z3 + (nI 1)).toNatClampNeg) (xs (z3 + (nI 2)).toNatClampNeg) (xs (z3 + (nI 3)).toNatClampNeg)) (fun v_202 => (if inR (z3 + (nI 1)) L = true then (if inR (z3 + (nI 2)) L = true then (if inR (z3 + (nI 3)) L = true then (Option.bind (m_M_holds v_m_fact (xs (z3 + (nI 1)).toNatClampNeg) (xs (z3 + (nI 2)).toNatClampNeg) (xs (z3 + (nI 3)).toNatClampNeg)) (fun v_221 => (if v_202.1 = v_221.1 then m_W_law_482 xs L (m_W_law_18 xs L n) v_x_markedPlus v_x_markedMinus v_x_line_length v_x_line_typed v_x_factSets v_x_program_count v_x_program_bodies v_x_deduction_givenPairs v_x_deduction_roundCount v_x_deduction_factChoices v_x_deduction_givenInRound v_m_typed v_m_count v_m_oldCount v_m_read v_m_last v_m_line v_m_fact v_m_marked v_m_many v_m_codes v_m_oldMany v_m_oldCodes v_m_body v_m_roundOf v_m_fresh z3 else some (nI 0)))) else none) else none) else none))) else none) else none) else none) else (if w_32 = (nI 5) then (if inR (z3 + (nI 1)) L = true then (if inR (z3 + (nI 2)) L = true then (Option.bind (m_H_mark v_x_markedPlus v_x_markedMinus (xs (z3 + (nI 1)).toNatClampNeg) (xs (z3 + (nI 2)).toNatClampNeg)) (fun v_240 => (if inR (z3 + (nI 1)) L = true then (if inR (z3 + (nI 2)) L = true then (Option.bind (m_M_mark v_m_marked (xs (z3 + (nI 1)).toNatClampNeg) (xs (z3 + (nI 2)).toNatClampNeg)) (fun v_254 => (if v_240.1 = v_254.1 then m_W_law_482 xs L (m_W_law_18 xs L n) v_x_markedPlus v_x_markedMinus v_x_line_length v_x_line_typed v_x_factSets v_x_program_count v_x_program_bodies v_x_deduction_givenPairs v_x_deduction_roundCount v_x_deduction_factChoices v_x_deduction_givenInRound v_m_typed v_m_count v_m_oldCount v_m_read v_m_last v_m_line v_m_fact v_m_marked v_m_many v_m_codes v_m_oldMany v_m_oldCodes v_m_body v_m_roundOf v_m_fresh z3 else some (nI 0)))) else none) else none))) else none) else none) else (if w_32 = (nI 6) then (if inR (z3 + (nI 1)) L = true then (Option.bind (m_H_drop v_x_program_count v_x_program_bodies (xs (z3 + (nI 1)).toNatClampNeg)) (fun v_268 => (if inR (z3 + (nI 1)) L = true then (Option.bind (m_M_drop v_m_count v_m_many v_m_codes (xs (z3 + (nI 1)).toNatClampNeg)) (fun v_277 => (if v_268.1 = v_277.1 then m_W_law_482 xs L (m_W_law_18 xs L n) v_x_markedPlus v_x_markedMinus v_x_line_length v_x_line_typed v_x_factSets v_268.2.1 v_268.2.2 v_x_deduction_givenPairs v_x_deduction_roundCount v_x_deduction_factChoices v_x_deduction_givenInRound v_m_typed v_277.2.1 v_m_oldCount v_m_read v_m_last v_m_line v_m_fact v_m_marked v_277.2.2.1 v_277.2.2.2 v_m_oldMany v_m_oldCodes v_m_body v_m_roundOf v_m_fresh z3 else some (nI 0)))) else none))) else none) else (if w_32 = (nI 7) then (Option.bind (m_H_clauses v_x_program_count) (fun v_286 => (Option.bind (m_M_clauses v_m_count) (fun v_290 => (if v_286.1 = v_290.1 then m_W_law_482 xs L (m_W_law_18 xs L n) v_x_markedPlus v_x_markedMinus v_x_line_length v_x_line_typed v_x_factSets v_x_program_count v_x_program_bodies v_x_deduction_givenPairs v_x_deduction_roundCount v_x_deduction_factChoices v_x_deduction_givenInRound v_m_typed v_m_count v_m_oldCount v_m_read v_m_last v_m_line v_m_fact v_m_marked v_m_many v_m_codes v_m_oldMany v_m_oldCodes v_m_body v_m_roundOf v_m_fresh z3 else some (nI 0)))))) else (if w_32 = (nI 8) then (if inR (z3 + (nI 1)) L = true then (Option.bind (m_H_literals v_x_program_count v_x_program_bodies (xs (z3 + (nI 1)).toNatClampNeg)) (fun v_304 => (if inR (z3 + (nI 1)) L = true then (Option.bind (m_M_literals v_m_count v_m_many (xs (z3 + (nI 1)).toNatClampNeg)) (fun v_313 => (if v_304.1 = v_313.1 then m_W_law_482 xs L (m_W_law_18 xs L n) v_x_markedPlus v_x_markedMinus v_x_line_length v_x_line_typed v_x_factSets v_x_program_count v_x_program_bodies v_x_deduction_givenPairs v_x_deduction_roundCount v_x_deduction_factChoices v_x_deduction_givenInRound v_m_typed v_m_count v_m_oldCount v_m_read v_m_last v_m_line v_m_fact v_m_marked v_m_many v_m_codes v_m_oldMany v_m_oldCodes v_m_body v_m_roundOf v_m_fresh z3 else some (nI 0)))) else none))) else none) else (if w_32 = (nI 9) then (if inR (z3 + (nI 1)) L = true then (if inR (z3 + (nI 2)) L = true then (Option.bind (m_H_literal v_x_program_count v_x_program_bodies (xs (z3 + (nI 1)).toNatClampNeg) (xs (z3 + (nI 2)).toNatClampNeg)) (fun v_332 => (if inR (z3 + (nI 1)) L = true then (if inR (z3 + (nI 2)) L = true then (Option.bind (m_M_literal v_m_count v_m_many v_m_codes (xs (z3 + (nI 1)).toNatClampNeg) (xs (z3 + (nI 2)).toNatClampNeg)) (fun v_346 => (if v_332.1 = v_346.1 then m_W_law_482 xs L (m_W_law_18 xs L n) v_x_markedPlus v_x_markedMinus v_x_line_length v_x_line_typed v_x_factSets v_x_program_count v_x_program_bodies v_x_deduction_givenPairs v_x_deduction_roundCount v_x_deduction_factChoices v_x_deduction_givenInRound v_m_typed v_m_count v_m_oldCount v_m_read v_m_last v_m_line v_m_fact v_m_marked v_m_many v_m_codes v_m_oldMany v_m_oldCodes v_m_body v_m_roundOf v_m_fresh z3 else some (nI 0)))) else none) else none))) else none) else none) else (if w_32 = (nI 10) then (if inR (z3 + (nI 1)) L = true then (Option.bind (m_H_letter v_x_program_count v_x_program_bodies (xs (z3 + (nI 1)).toNatClampNeg)) (fun v_360 => (if inR (z3 + (nI 1)) L = true then (Option.bind (m_M_letter v_m_count v_m_many v_m_codes (xs (z3 + (nI 1)).toNatClampNeg)) (fun v_369 => (if v_360.1 = v_369.1 then m_W_law_482 xs L (m_W_law_18 xs L n) v_x_markedPlus v_x_markedMinus v_x_line_length v_x_line_typed v_x_factSets v_x_program_count v_x_program_bodies v_x_deduction_givenPairs v_x_deduction_roundCount v_x_deduction_factChoices v_x_deduction_givenInRound v_m_typed v_m_count v_m_oldCount v_m_read v_m_last v_m_line v_m_fact v_m_marked v_m_many v_m_codes v_m_oldMany v_m_oldCodes v_m_body v_m_roundOf v_m_fresh z3 else some (nI 0)))) else none))) else none) else (if w_32 = (nI 11) then (if inR (z3 + (nI 1)) L = true then (if inR (z3 + (nI 2)) L = true then (Option.bind (m_H_subsumes v_x_program_count v_x_program_bodies (xs (z3 + (nI 1)).toNatClampNeg) (xs (z3 + (nI 2)).toNatClampNeg)) (fun v_388 => (if inR (z3 + (nI 1)) L = true then (if inR (z3 + (nI 2)) L = true then (Option.bind (m_M_subsumes v_m_count v_m_many v_m_codes (xs (z3 + (nI 1)).toNatClampNeg) (xs (z3 + (nI 2)).toNatClampNeg)) (fun v_402 => (if v_388.1 = v_402.1 then m_W_law_482 xs L (m_W_law_18 xs L n) v_x_markedPlus v_x_markedMinus v_x_line_length v_x_line_typed v_x_factSets v_x_program_count v_x_program_bodies v_x_deduction_givenPairs v_x_deduction_roundCount v_x_deduction_factChoices v_x_deduction_givenInRound v_m_typed v_m_count v_m_oldCount v_m_read v_m_last v_m_line v_m_fact v_m_marked v_m_many v_m_codes v_m_oldMany v_m_oldCodes v_m_body v_m_roundOf v_m_fresh z3 else some (nI 0)))) else none) else none))) else none) else none) else (if w_32 = (nI 12) then (if inR (z3 + (nI 1)) L = true then (if inR (z3 + (nI 2)) L = true then (Option.bind (m_H_given v_x_factSets v_x_program_count v_x_program_bodies v_x_deduction_givenPairs v_x_deduction_roundCount v_x_deduction_factChoices v_x_deduction_givenInRound (xs (z3 + (nI 1)).toNatClampNeg) (xs (z3 + (nI 2)).toNatClampNeg)) (fun v_421 => (if inR (z3 + (nI 1)) L = true then (if inR (z3 + (nI 2)) L = true then (Option.bind (m_M_given v_m_count v_m_last v_m_fact v_m_many v_m_codes v_m_roundOf v_m_fresh (xs (z3 + (nI 1)).toNatClampNeg) (xs (z3 + (nI 2)).toNatClampNeg)) (fun v_435 => (if v_421.1 = v_435.1 then m_W_law_482 xs L (m_W_law_18 xs L n) v_x_markedPlus v_x_markedMinus v_x_line_length v_x_line_typed v_x_factSets v_x_program_count v_x_program_bodies v_421.2.1 v_421.2.2.1 v_421.2.2.2.1 v_421.2.2.2.2 v_m_typed v_m_count v_m_oldCount v_m_read v_435.2.1 v_m_line v_m_fact v_m_marked v_m_many v_m_codes v_m_oldMany v_m_oldCodes v_m_body v_435.2.2.1 v_435.2.2.2 z3 else some (nI 0)))) else none) else none))) else none) else none) else (if w_32 = (nI 13) then (Option.bind (m_H_rounds v_x_factSets v_x_program_count v_x_program_bodies v_x_deduction_givenPairs v_x_deduction_roundCount v_x_deduction_factChoices v_x_deduction_givenInRound) (fun v_444 => (Option.bind (m_M_rounds v_m_count v_m_last v_m_fact v_m_many v_m_codes v_m_roundOf v_m_fresh) (fun v_448 => (if v_444.1 = v_448.1 then m_W_law_482 xs L (m_W_law_18 xs L n) v_x_markedPlus v_x_markedMinus v_x_line_length v_x_line_typed v_x_factSets v_x_program_count v_x_program_bodies v_444.2.1 v_444.2.2.1 v_444.2.2.2.1 v_444.2.2.2.2 v_m_typed v_m_count v_m_oldCount v_m_read v_448.2.1 v_m_line v_m_fact v_m_marked v_m_many v_m_codes v_m_oldMany v_m_oldCodes v_m_body v_448.2.2.1 v_448.2.2.2 z3 else some (nI 0)))))) else (if w_32 = (nI 14) then (Option.bind (m_H_fits v_x_markedPlus v_x_markedMinus v_x_factSets v_x_program_count v_x_program_bodies v_x_deduction_givenPairs v_x_deduction_roundCount v_x_deduction_factChoices v_x_deduction_givenInRound) (fun v_457 => (Option.bind (m_M_fits v_m_count v_m_last v_m_fact v_m_marked v_m_many v_m_codes v_m_roundOf v_m_fresh) (fun v_461 => (if v_457.1 = v_461.1 then m_W_law_482 xs L (m_W_law_18 xs L n) v_x_markedPlus v_x_markedMinus v_x_line_length v_x_line_typed v_x_factSets v_x_program_count v_x_program_bodies v_457.2.1 v_457.2.2.1 v_457.2.2.2.1 v_457.2.2.2.2 v_m_typed v_m_count v_m_oldCount v_m_read v_461.2.1 v_m_line v_m_fact v_m_marked v_m_many v_m_codes v_m_oldMany v_m_oldCodes v_m_body v_461.2.2.1 v_461.2.2.2 z3 else some (nI 0)))))) else (if w_32 = (nI 15) then (Option.bind (m_H_learn v_x_markedPlus v_x_markedMinus v_x_factSets v_x_program_count v_x_program_bodies v_x_deduction_givenPairs v_x_deduction_roundCount v_x_deduction_factChoices v_x_deduction_givenInRound) (fun v_470 => (Option.bind (m_M_learn v_m_count v_m_oldCount v_m_last v_m_fact v_m_marked v_m_many v_m_codes v_m_oldMany v_m_oldCodes v_m_roundOf v_m_fresh) (fun v_474 => (if v_470.1 = v_474.1 then m_W_law_482 xs L (m_W_law_18 xs L n) v_x_markedPlus v_x_markedMinus v_x_line_length v_x_line_typed v_x_factSets v_470.2.1 v_470.2.2.1 v_470.2.2.2.1 v_470.2.2.2.2.1 v_470.2.2.2.2.2.1 v_470.2.2.2.2.2.2 v_m_typed v_474.2.1 v_474.2.2.1 v_m_read v_474.2.2.2.1 v_m_line v_m_fact v_m_marked v_474.2.2.2.2.1 v_474.2.2.2.2.2.1 v_474.2.2.2.2.2.2.1 v_474.2.2.2.2.2.2.2.1 v_m_body v_474.2.2.2.2.2.2.2.2.1 v_474.2.2.2.2.2.2.2.2.2 z3 else some (nI 0)))))) else m_W_law_482 xs L (m_W_law_18 xs L n) v_x_markedPlus v_x_markedMinus v_x_line_length v_x_line_typed v_x_factSets v_x_program_count v_x_program_bodies v_x_deduction_givenPairs v_x_deduction_roundCount v_x_deduction_factChoices v_x_deduction_givenInRound v_m_typed v_m_count v_m_oldCount v_m_read v_m_last v_m_line v_m_fact v_m_marked v_m_many v_m_codes v_m_oldMany v_m_oldCodes v_m_body v_m_roundOf v_m_fresh z3)))))))))))))))))) else none))
end
section
-- numbers: rows for simp
theorem inR_n {k n : Nat} (hk : k < 2147483648) : inR (nI k) n = decide (k < n) := by
  unfold inR
  rw [nI_toInt hk]
  have h0 : decide ((0 : Int) ≤ (k : Int)) = true := decide_eq_true (Int.natCast_nonneg k)
  rw [h0, Bool.true_and]
  exact decide_eq_decide.mpr Int.ofNat_lt
theorem irm_n {a d : Nat} (ha : a < 2147483648) (h0 : 0 < d) (hd : d < 2147483648) : irm (nI a) (nI d) = nI (a % d) := pk_rem ha h0 hd
theorem isC_n {q : Nat} (hq : q < 65536) : isC (nI q) = true := by
  rw [isC_iff, nI_toInt (by omega)]
  omega
theorem ni_lt {a b : Nat} (ha : a < 2147483648) (hb : b < 2147483648) : (nI a < nI b) = (a < b) := propext (nI_ltI ha hb)
theorem ni_le {a b : Nat} (ha : a < 2147483648) (hb : b < 2147483648) : (nI a ≤ nI b) = (a ≤ b) := propext (nI_leI ha hb)
theorem ni_eq {a b : Nat} (ha : a < 2147483648) (hb : b < 2147483648) : (nI a = nI b) = (a = b) := propext (nI_eq ha hb)
theorem ix_0 {x : Int32} (h : x < nI 0) {k : Nat} (hk : k < 2147483648) : ¬ x = nI k := by
  rintro rfl
  rw [ni_lt hk (by decide)] at h
  omega
theorem ix_n {x : Int32} {n k : Nat} (h : nI n ≤ x) (hk : k < n) (hn : n < 2147483648) : ¬ x = nI k := by
  rintro rfl
  rw [ni_le hn (by omega)] at h
  omega
theorem ix_nn {x : Int32} {n : Nat} (h : nI n ≤ x) (hn : n < 2147483648) : ¬ x < nI 0 := by
  intro h2
  have a1 := Int32.le_iff_toInt_le.mp h
  have a2 := Int32.lt_iff_toInt_lt.mp h2
  rw [nI_toInt hn] at a1
  rw [nI_toInt (by decide)] at a2
  omega
theorem ix_lt {x : Int32} {n k : Nat} (h : nI n ≤ x) (hk : k ≤ n) (hn : n < 2147483648) : nI k ≤ x := by
  have a1 := Int32.le_iff_toInt_le.mp h
  rw [nI_toInt hn] at a1
  refine Int32.le_iff_toInt_le.mpr ?_
  rw [nI_toInt (by omega)]
  omega
theorem ix (x : Int32) {n : Nat} (hn : n < 2147483648) : x < nI 0 ∨ nI n ≤ x ∨ ∃ j : Nat, j < n ∧ x = nI j := pk_ix x hn
-- the line
def RL (len : Int32) (ty : Nat → Int32) (len2 : Int32) (ln : Nat → Int32) : Prop := ∃ n : Nat, n ≤ 32 ∧ len = nI n ∧ len2 = nI n ∧ ∀ j, j < n → ty j = ln j ∧ ∃ c : Nat, 32 ≤ c ∧ c ≤ 126 ∧ ln j = nI c
theorem s_key {len len2 : Int32} {ty ln : Nat → Int32} (h : RL len ty len2 ln) {x : Int32} (hx : isC x = true) :
    ∃ (r a c : Int32) (b d : Nat → Int32), m_H_key len ty x = some (r, a, b) ∧ m_M_key len2 ln x = some (r, c, d) ∧ RL a b c d := by
  obtain ⟨n, hn, rfl, rfl, hj⟩ := h
  obtain ⟨q, hq, rfl⟩ := isC_nI hx
  have hq2 : q < 2147483648 := by omega
  unfold m_H_key m_L_add m_M_key
  rcases Nat.lt_or_ge q 32 with h1 | h1
  · refine ⟨nI 0, nI n, nI n, ty, ln, ?_, ?_, n, hn, rfl, rfl, hj⟩
    · simp (disch := omega) only [ni_lt, h1, if_true]; rfl
    · simp (disch := omega) only [ni_lt, h1, if_true]
  rcases Nat.lt_or_ge 126 q with h2 | h2
  · refine ⟨nI 0, nI n, nI n, ty, ln, ?_, ?_, n, hn, rfl, rfl, hj⟩
    · simp (disch := omega) only [ni_lt, h2, Nat.not_lt.mpr h1, if_true, if_false]; rfl
    · simp (disch := omega) only [ni_lt, h2, Nat.not_lt.mpr h1, if_true, if_false]
  rcases Nat.lt_or_ge n 32 with h3 | h3
  · refine ⟨nI 1, nI (n + 1), nI (n + 1), upd ty n (nI q), upd ln n (nI q), ?_, ?_, n + 1, by omega, rfl, rfl, ?_⟩
    · simp (disch := omega) only [ni_lt, h3, Nat.not_lt.mpr h1, Nat.not_lt.mpr h2, if_true, if_false, inR_n, decide_true, isC_n, nI_add, nI_clamp]
      rfl
    · simp (disch := omega) only [ni_lt, ni_eq, h3, Nat.ne_of_lt h3, Nat.not_lt.mpr h1, Nat.not_lt.mpr h2, if_true, if_false, inR_n, decide_true, nI_add, nI_clamp]
    · intro j hjn
      by_cases e : j = n
      · subst e
        exact ⟨by rw [pk_us, pk_us], q, h1, h2, pk_us⟩
      · rw [pk_un e, pk_un e]
        exact hj j (by omega)
  · have e : n = 32 := by omega
    subst e
    refine ⟨nI 0, nI 32, nI 32, ty, ln, ?_, ?_, 32, hn, rfl, rfl, hj⟩
    · simp (disch := omega) only [ni_lt, Nat.not_lt.mpr h1, Nat.not_lt.mpr h2, if_false, Nat.lt_irrefl]
      rfl
    · simp (disch := omega) only [ni_lt, Nat.not_lt.mpr h1, Nat.not_lt.mpr h2, if_false, if_true]
theorem s_back {len len2 : Int32} {ty ln : Nat → Int32} (h : RL len ty len2 ln) :
    ∃ (r a c : Int32), m_H_back len = some (r, a) ∧ m_M_back len2 = some (r, c) ∧ RL a ty c ln := by
  obtain ⟨n, hn, rfl, rfl, hj⟩ := h
  unfold m_H_back m_L_removeLast m_M_back
  rcases Nat.eq_zero_or_pos n with rfl | h1
  · exact ⟨nI 0, nI 0, nI 0, rfl, rfl, 0, hn, rfl, rfl, hj⟩
  · refine ⟨nI 1, nI (n - 1), nI (n - 1), ?_, ?_, n - 1, by omega, rfl, rfl, fun j h => hj j (by omega)⟩
    · simp (disch := omega) only [ni_eq, Nat.ne_of_gt h1, if_false, pk_sub]
      rfl
    · simp (disch := omega) only [ni_eq, Nat.ne_of_gt h1, if_false, pk_sub]
-- bits
theorem bt_bit : ∀ k, k < 32 → ∀ i, i < 32 → bt (nI 1 <<< (nI k &&& 31)) i = decide (i = k) := by decide +kernel
theorem b_n0 (i : Nat) : bt (nI 0) i = false := b_0 i
theorem and_z (x : Int32) : x &&& nI 0 = nI 0 := b_ext (fun i _ => by rw [b_and, b_n0, Bool.and_false])
theorem and_bit {x : Int32} {k : Nat} (hk : k < 32) : (x &&& (nI 1 <<< (nI k &&& 31)) = nI 0) ↔ bt x k = false := by
  constructor
  · intro h
    have h2 := congrArg (fun y => bt y k) h
    simp only [b_and, bt_bit k hk k hk] at h2
    rw [b_n0] at h2
    simpa using h2
  · intro h
    refine b_ext (fun i hi => ?_)
    rw [b_and, bt_bit k hk i hi]
    show _ = bt 0 i
    rw [b_0]
    by_cases e : i = k
    · subst e; rw [h]; rfl
    · simp [e]
theorem s_pairBit {a b : Nat} (ha : a < 4) (hb : b < 4) : m_H_pairBit (nI a) (nI b) = some (nI 1 <<< (nI (4 * a + b) &&& 31), ()) := by
  unfold m_H_pairBit m_H_pairBit_22 m_H_pairBit_23
  simp (disch := omega) only [ni_lt, ni_le, ni_eq, Nat.not_lt_zero, Nat.not_le.mpr ha, Nat.not_le.mpr hb, if_false, pk_mul, nI_add, Nat.one_ne_zero]
theorem s_pairBit_0 {x y : Int32} (h : x < nI 0 ∨ nI 4 ≤ x ∨ y < nI 0 ∨ nI 4 ≤ y) : m_H_pairBit x y = some (nI 0, ()) := by
  unfold m_H_pairBit m_H_pairBit_22 m_H_pairBit_23
  have e : (if (nI 0 : Int32) = nI 0 then some (nI 0, ()) else some (nI 1 <<< (nI 4 * x + y &&& 31), ())) = some (nI 0, ()) := if_pos rfl
  by_cases h1 : x < nI 0
  · rw [if_pos h1, if_pos rfl]
  by_cases h2 : nI 4 ≤ x
  · rw [if_neg h1, if_pos h2, if_pos rfl]
  by_cases h3 : y < nI 0
  · rw [if_neg h1, if_neg h2, if_pos h3, if_pos rfl]
  by_cases h4 : nI 4 ≤ y
  · rw [if_neg h1, if_neg h2, if_neg h3, if_pos h4, if_pos rfl]
  · exact absurd h (by simp [h1, h2, h3, h4])
-- facts
def RF (fs fa : Nat → Int32) : Prop := ∀ r, r < 2 → (∀ p, p < 16 → fa (16 * r + p) = if bt (fs r) p then nI 1 else nI 0) ∧ ∀ i, 16 ≤ i → bt (fs r) i = false
theorem s_holds {fs fa : Nat → Int32} (h : RF fs fa) (x1 x2 x3 : Int32) : ∃ r : Int32, m_H_holds fs x1 x2 x3 = some (r, ()) ∧ m_M_holds fa x1 x2 x3 = some (r, ()) := by
  unfold m_H_holds m_M_holds m_H_isFactRelation
  rcases ix x1 (n := 2) (by decide) with h1 | h1 | ⟨r, hr, rfl⟩
  · refine ⟨nI 0, ?_, ?_⟩
    · rw [if_pos h1]; rfl
    · rw [if_neg (ix_0 h1 (by decide)), if_neg (ix_0 h1 (by decide))]
  · refine ⟨nI 0, ?_, ?_⟩
    · rw [if_neg (ix_nn h1 (by decide)), if_pos h1]; rfl
    · rw [if_neg (ix_n h1 (by decide) (by decide)), if_neg (ix_n h1 (by decide) (by decide))]
  · have eH : (if nI r < nI 0 then some (nI 0, ()) else if nI 2 ≤ nI r then some (nI 0, ()) else some (nI 1, ())) = some ((nI 1, ()) : Int32 × Unit) := by
      simp (disch := omega) only [ni_lt, ni_le, Nat.not_lt_zero, Nat.not_le.mpr hr, if_false]
    have eM : (if nI r = nI 0 then m_M_holds_9 fa (nI r) x2 x3 else if nI r = nI 1 then m_M_holds_9 fa (nI r) x2 x3 else some (nI 0, ())) = m_M_holds_9 fa (nI r) x2 x3 := by
      rcases (show r = 0 ∨ r = 1 by omega) with rfl | rfl <;> rfl
    rw [eH, eM]
    simp (disch := omega) only [Option.bind_some, ni_eq, Nat.one_ne_zero, if_false, inR_n, hr, decide_true, if_true, nI_clamp]
    unfold m_M_holds_9 m_M_constant
    rcases ix x2 (n := 4) (by decide) with h2 | h2 | ⟨a, ha, rfl⟩
    · exact ⟨nI 0, by rw [s_pairBit_0 (Or.inl h2)]; exact if_pos (and_z _), by rw [if_pos h2]; rfl⟩
    · exact ⟨nI 0, by rw [s_pairBit_0 (Or.inr (Or.inl h2))]; exact if_pos (and_z _), by rw [if_neg (ix_nn h2 (by decide)), if_pos h2]; rfl⟩
    rcases ix x3 (n := 4) (by decide) with h3 | h3 | ⟨b, hb, rfl⟩
    · refine ⟨nI 0, by rw [s_pairBit_0 (Or.inr (Or.inr (Or.inl h3)))]; exact if_pos (and_z _), ?_⟩
      simp (disch := omega) only [ni_lt, ni_le, ni_eq, Nat.not_lt_zero, Nat.not_le.mpr ha, if_false, Option.bind_some, Nat.one_ne_zero, if_pos h3, if_true]
    · refine ⟨nI 0, by rw [s_pairBit_0 (Or.inr (Or.inr (Or.inr h3)))]; exact if_pos (and_z _), ?_⟩
      simp (disch := omega) only [ni_lt, ni_le, ni_eq, Nat.not_lt_zero, Nat.not_le.mpr ha, if_false, Option.bind_some, Nat.one_ne_zero, if_neg (ix_nn h3 (by decide)), if_pos h3, if_true]
    · rw [s_pairBit ha hb]
      have e1 := (h r hr).1 (4 * a + b) (by omega)
      by_cases hbit : bt (fs r) (4 * a + b) = true
      · refine ⟨nI 1, ?_, ?_⟩
        · have e2 : ¬ (fs r &&& (nI 1 <<< (nI (4 * a + b) &&& 31)) = nI 0) := by
            rw [and_bit (by omega), hbit]; decide
          simp only [Option.bind_some, if_neg e2]
        · rw [if_pos hbit] at e1
          have e3 : 16 * r + (4 * a + b) = 16 * r + 4 * a + b := by omega
          rw [e3] at e1
          simp (disch := omega) only [ni_lt, ni_le, ni_eq, Nat.not_lt_zero, Nat.not_le.mpr ha, Nat.not_le.mpr hb, if_false, Option.bind_some, Nat.one_ne_zero, pk_mul, nI_add, inR_n, nI_clamp, e1]
          simp only [show decide (16 * r + 4 * a + b < 32) = true from decide_eq_true (by omega), if_true]
      · have hbit : bt (fs r) (4 * a + b) = false := by simpa using hbit
        refine ⟨nI 0, ?_, ?_⟩
        · simp only [Option.bind_some, if_pos ((and_bit (show 4 * a + b < 32 by omega)).mpr hbit)]
        · rw [hbit] at e1
          have e3 : 16 * r + (4 * a + b) = 16 * r + 4 * a + b := by omega
          rw [e3] at e1
          have e1 : fa (16 * r + 4 * a + b) = nI 0 := e1
          simp (disch := omega) only [ni_lt, ni_le, ni_eq, Nat.not_lt_zero, Nat.not_le.mpr ha, Nat.not_le.mpr hb, if_false, Option.bind_some, Nat.one_ne_zero, pk_mul, nI_add, inR_n, nI_clamp, e1]
          simp only [show decide (16 * r + 4 * a + b < 32) = true from decide_eq_true (by omega), if_true]
end
section
-- clauses as lists of codes
def okB : List Nat → Bool
  | [a] => decide (a < 27)
  | [a, b] => decide (a < b) && decide (b < 27)
  | [a, b, c] => decide (a < b) && decide (b < c) && decide (c < 27)
  | _ => false
theorem okB_ind {P : List Nat → Prop} (h1 : ∀ c, c < 27 → P [c]) (h2 : ∀ c, c < 27 → ∀ b, b < c → P [b, c]) (h3 : ∀ c, c < 27 → ∀ b, b < c → ∀ a, a < b → P [a, b, c]) : ∀ l, okB l = true → P l := by
  intro l h
  match l, h with
  | [a], h => exact h1 a (of_decide_eq_true h)
  | [a, b], h =>
    simp only [okB, Bool.and_eq_true, decide_eq_true_eq] at h
    exact h2 b h.2 a h.1
  | [a, b, c], h =>
    simp only [okB, Bool.and_eq_true, decide_eq_true_eq] at h
    exact h3 c h.2 b h.1.2 a h.1.1
def mk (l : List Nat) : Int32 := l.foldr (fun c m => (nI 1 <<< (nI c &&& 31)) ||| m) (nI 0)
theorem cl_bc : ∀ l, okB l = true → m_I_bitCount (mk l) = some (nI l.length, ()) := okB_ind (by decide +kernel) (by decide +kernel) (by decide +kernel)
theorem cl_ne : ∀ l, okB l = true → ¬ mk l = nI 0 := okB_ind (by decide +kernel) (by decide +kernel) (by decide +kernel)
theorem cl_least : ∀ l, okB l = true → m_H_leastCode (mk l) = some (nI (l.getD 0 0), ()) := okB_ind (by decide +kernel) (by decide +kernel) (by decide +kernel)
theorem cl_rest : ∀ l, okB l = true → m_H_withoutLeastCode (mk l) = some (mk (l.drop 1), ()) := okB_ind (by decide +kernel) (by decide +kernel) (by decide +kernel)
def hasX (l : List Nat) : Bool := l.any (fun c => decide (c / 3 % 3 = 0) || decide (c % 3 = 0))
def hasY (l : List Nat) : Bool := l.any (fun c => decide (c / 3 % 3 = 1) || decide (c % 3 = 1))
theorem cl_head : ∀ l, okB l = true → m_H_hasHeadVariables (mk l) = some (if hasX l && hasY l then nI 1 else nI 0, ()) := okB_ind (by decide +kernel) (by decide +kernel) (by decide +kernel)
theorem cl_codeAt0 : ∀ l, okB l = true → ((List.range l.length).all (fun j => decide (m_H_codeAt (mk l) (nI j) = some (nI (l.getD j 0), ())))) = true := okB_ind (by decide +kernel) (by decide +kernel) (by decide +kernel)
theorem cl_codeAt : ∀ l, okB l = true → ∀ j, j < l.length → m_H_codeAt (mk l) (nI j) = some (nI (l.getD j 0), ()) := fun l h j hj => of_decide_eq_true (List.all_eq_true.mp (cl_codeAt0 l h) j (List.mem_range.mpr hj))
theorem cl_len : ∀ l, okB l = true → 0 < l.length ∧ l.length ≤ 3 := okB_ind (by decide +kernel) (by decide +kernel) (by decide +kernel)
theorem cl_lt0 : ∀ l, okB l = true → (l.all (fun c => decide (c < 27))) = true := okB_ind (by decide +kernel) (by decide +kernel) (by decide +kernel)
theorem cl_mem {l : List Nat} (h : okB l = true) {c : Nat} (hc : c ∈ l) : c < 27 := of_decide_eq_true (List.all_eq_true.mp (cl_lt0 l h) c hc)
theorem cl_lt {l : List Nat} (h : okB l = true) {j : Nat} (hj : j < l.length) : l.getD j 0 < 27 := by
  have e : l.getD j 0 = l[j] := by simp [List.getD, hj]
  rw [e]
  exact cl_mem h (List.getElem_mem hj)
theorem bt_mk {l : List Nat} (h : ∀ c ∈ l, c < 32) {i : Nat} (hi : i < 32) : bt (mk l) i = decide (i ∈ l) := by
  induction l with
  | nil => exact b_0 i
  | cons a l ih =>
    show bt ((nI 1 <<< (nI a &&& 31)) ||| mk l) i = _
    rw [b_or, bt_bit a (h a List.mem_cons_self) i hi, ih (fun c hc => h c (List.mem_cons_of_mem _ hc))]
    simp [List.mem_cons]
end
section
theorem bs {α β : Type} (v : α) (f : α → Option β) : Option.bind (some v) f = f v := rfl
-- marks
def RM (pl mi : Int32) (mk : Nat → Int32) : Prop := (∀ p, p < 16 → mk p = if bt pl p then nI 1 else if bt mi p then (-1 : Int32) else nI 0) ∧ (∀ p, bt pl p = true → bt mi p = false) ∧ ∀ i, 16 ≤ i → bt pl i = false ∧ bt mi i = false
theorem s_mark {pl mi : Int32} {mk : Nat → Int32} (h : RM pl mi mk) (x1 x2 : Int32) : ∃ r : Int32, m_H_mark pl mi x1 x2 = some (r, ()) ∧ m_M_mark mk x1 x2 = some (r, ()) := by
  unfold m_H_mark m_M_mark m_M_constant
  have z0 : ((some (nI 0, ()) : Option (Int32 × Unit)).bind fun v_2 => if pl &&& v_2.1 = nI 0 then (if mi &&& v_2.1 = nI 0 then some (nI 0, ()) else some ((-1 : Int32), ())) else some (nI 1, ())) = some (nI 0, ()) := by
    show (if pl &&& nI 0 = nI 0 then (if mi &&& nI 0 = nI 0 then some (nI 0, ()) else some ((-1 : Int32), ())) else some (nI 1, ())) = some (nI 0, ())
    rw [if_pos (and_z _), if_pos (and_z _)]
  rcases ix x1 (n := 4) (by decide) with h2 | h2 | ⟨a, ha, rfl⟩
  · exact ⟨nI 0, by rw [s_pairBit_0 (Or.inl h2)]; exact z0, by rw [if_pos h2]; rfl⟩
  · exact ⟨nI 0, by rw [s_pairBit_0 (Or.inr (Or.inl h2))]; exact z0, by rw [if_neg (ix_nn h2 (by decide)), if_pos h2]; rfl⟩
  rcases ix x2 (n := 4) (by decide) with h3 | h3 | ⟨b, hb, rfl⟩
  · refine ⟨nI 0, by rw [s_pairBit_0 (Or.inr (Or.inr (Or.inl h3)))]; exact z0, ?_⟩
    simp (disch := omega) only [ni_lt, ni_le, ni_eq, Nat.not_lt_zero, Nat.not_le.mpr ha, if_false, Option.bind_some, Nat.one_ne_zero, if_pos h3, if_true]
  · refine ⟨nI 0, by rw [s_pairBit_0 (Or.inr (Or.inr (Or.inr h3)))]; exact z0, ?_⟩
    simp (disch := omega) only [ni_lt, ni_le, ni_eq, Nat.not_lt_zero, Nat.not_le.mpr ha, if_false, Option.bind_some, Nat.one_ne_zero, if_neg (ix_nn h3 (by decide)), if_pos h3, if_true]
  · rw [s_pairBit ha hb]
    have e1 := h.1 (4 * a + b) (by omega)
    have hk : 4 * a + b < 32 := by omega
    refine ⟨mk (4 * a + b), ?_, ?_⟩
    · rw [e1]
      show (if pl &&& (nI 1 <<< (nI (4 * a + b) &&& 31)) = nI 0 then (if mi &&& (nI 1 <<< (nI (4 * a + b) &&& 31)) = nI 0 then some (nI 0, ()) else some ((-1 : Int32), ())) else some (nI 1, ())) = _
      by_cases hp : bt pl (4 * a + b) = true
      · rw [if_neg (by rw [and_bit hk, hp]; decide), if_pos hp]
      · have hp : bt pl (4 * a + b) = false := by simpa using hp
        rw [if_pos ((and_bit hk).mpr hp), hp]
        by_cases hm : bt mi (4 * a + b) = true
        · rw [if_neg (by rw [and_bit hk, hm]; decide), if_pos hm]; rfl
        · have hm : bt mi (4 * a + b) = false := by simpa using hm
          rw [if_pos ((and_bit hk).mpr hm), hm]; rfl
    · simp (disch := omega) only [ni_lt, ni_le, ni_eq, Nat.not_lt_zero, Nat.not_le.mpr ha, Nat.not_le.mpr hb, if_false, Option.bind_some, Nat.one_ne_zero, pk_mul, nI_add, inR_n, nI_clamp]
      simp only [show decide (4 * a + b < 16) = true from decide_eq_true (by omega), if_true]
-- the program
def RP (ct : Int32) (bd : Nat → Int32) (ct2 : Int32) (mn cs : Nat → Int32) : Prop := ∃ P : List (List Nat), P.length ≤ 2 ∧ ct = nI P.length ∧ ct2 = nI P.length ∧ ∀ j, j < P.length → okB (P.getD j []) = true ∧ (hasX (P.getD j []) && hasY (P.getD j [])) = true ∧ bd j = mk (P.getD j []) ∧ mn j = nI (P.getD j []).length ∧ ∀ k, k < (P.getD j []).length → cs (3 * j + k) = nI ((P.getD j []).getD k 0)
theorem s_clauses {ct ct2 : Int32} {bd mn cs : Nat → Int32} (h : RP ct bd ct2 mn cs) : ∃ r : Int32, m_H_clauses ct = some (r, ()) ∧ m_M_clauses ct2 = some (r, ()) := by
  obtain ⟨P, hP, rfl, rfl, -⟩ := h
  exact ⟨nI P.length, rfl, rfl⟩
/-- bodyOf: 0 where there is no clause -/
theorem s_bodyOf_out {n : Nat} {bd : Nat → Int32} {x : Int32} (h : x < nI 0 ∨ nI n ≤ x) : m_P_bodyOf (nI n) bd x = some (nI 0, ()) := by
  unfold m_P_bodyOf
  by_cases h1 : x < nI 0
  · rw [if_pos h1]
  · rw [if_neg h1, if_pos (h.resolve_left h1)]
theorem s_bodyOf_in {n : Nat} {bd : Nat → Int32} {j : Nat} (hn : n ≤ 2) (h : j < n) : m_P_bodyOf (nI n) bd (nI j) = some (bd j, ()) := by
  unfold m_P_bodyOf
  simp (disch := omega) only [ni_lt, ni_le, Nat.not_lt_zero, Nat.not_le.mpr h, if_false, inR_n, nI_clamp]
  simp only [show decide (j < 2) = true from decide_eq_true (by omega), if_true]
theorem s_clause_out {n : Nat} {x : Int32} (h : x < nI 0 ∨ nI n ≤ x) : m_M_clause (nI n) x = some (nI 0, ()) := by
  unfold m_M_clause
  by_cases h1 : x < nI 0
  · rw [if_pos h1]
  · rw [if_neg h1, if_pos (h.resolve_left h1)]
theorem s_clause_in {n j : Nat} (hn : n ≤ 2) (h : j < n) : m_M_clause (nI n) (nI j) = some (nI 1, ()) := by
  unfold m_M_clause
  simp (disch := omega) only [ni_lt, ni_le, Nat.not_lt_zero, Nat.not_le.mpr h, if_false]
theorem s_literals {ct ct2 : Int32} {bd mn cs : Nat → Int32} (h : RP ct bd ct2 mn cs) (x : Int32) : ∃ r : Int32, m_H_literals ct bd x = some (r, ()) ∧ m_M_literals ct2 mn x = some (r, ()) := by
  obtain ⟨P, hP, rfl, rfl, hc⟩ := h
  unfold m_H_literals m_M_literals
  rcases ix x (n := P.length) (by omega) with h1 | h1 | ⟨j, hj, rfl⟩
  · exact ⟨-1, by rw [s_bodyOf_out (Or.inl h1)]; rfl, by rw [s_clause_out (Or.inl h1)]; rfl⟩
  · exact ⟨-1, by rw [s_bodyOf_out (Or.inr h1)]; rfl, by rw [s_clause_out (Or.inr h1)]; rfl⟩
  · obtain ⟨hk, -, hb, hm, -⟩ := hc j hj
    refine ⟨nI (P.getD j []).length, ?_, ?_⟩
    · rw [s_bodyOf_in hP hj]
      show (if bd j = nI 0 then _ else _) = _
      rw [hb, if_neg (cl_ne _ hk), cl_bc _ hk]
      rfl
    · rw [s_clause_in hP hj, bs, if_neg (by decide)]
      simp (disch := omega) only [inR_n, nI_clamp, hm]
      simp only [show decide (j < 2) = true from decide_eq_true (by omega), if_true]
theorem s_codeAt_out {l : List Nat} (h : okB l = true) {x : Int32} (hx : x < nI 0 ∨ nI l.length ≤ x) : m_H_codeAt (mk l) x = some (-1, ()) := by
  unfold m_H_codeAt
  by_cases h1 : x < nI 0
  · rw [if_pos h1]
  · rw [if_neg h1, cl_bc _ h]
    have h2 := hx.resolve_left h1
    have h3 : ¬ x < nI l.length := by
      rw [Int32.lt_iff_toInt_lt]
      have := Int32.le_iff_toInt_le.mp h2
      omega
    show (if x < nI l.length then _ else _) = _
    rw [if_neg h3]
theorem s_literal {ct ct2 : Int32} {bd mn cs : Nat → Int32} (h : RP ct bd ct2 mn cs) (x y : Int32) : ∃ r : Int32, m_H_literal ct bd x y = some (r, ()) ∧ m_M_literal ct2 mn cs x y = some (r, ()) := by
  obtain ⟨P, hP, rfl, rfl, hc⟩ := h
  unfold m_H_literal m_M_literal
  have z0 : m_H_codeAt (nI 0) y = some (-1, ()) := by
    unfold m_H_codeAt
    by_cases h1 : y < nI 0
    · rw [if_pos h1]
    · rw [if_neg h1, show m_I_bitCount (nI 0) = some (nI 0, ()) by decide +kernel]
      show (if y < nI 0 then _ else _) = _
      rw [if_neg h1]
  rcases ix x (n := P.length) (by omega) with h1 | h1 | ⟨j, hj, rfl⟩
  · refine ⟨-1, ?_, by rw [s_clause_out (Or.inl h1)]; rfl⟩
    rw [s_bodyOf_out (Or.inl h1)]
    show Option.bind (m_H_codeAt (nI 0) y) _ = _
    rw [z0]; rfl
  · refine ⟨-1, ?_, by rw [s_clause_out (Or.inr h1)]; rfl⟩
    rw [s_bodyOf_out (Or.inr h1)]
    show Option.bind (m_H_codeAt (nI 0) y) _ = _
    rw [z0]; rfl
  · obtain ⟨hk, -, hb, hm, hcs⟩ := hc j hj
    have hlen := cl_len _ hk
    rw [s_bodyOf_in hP hj, s_clause_in hP hj, bs, bs, if_neg (by decide)]
    dsimp only
    rw [hb]
    rcases ix y (n := (P.getD j []).length) (by omega) with h2 | h2 | ⟨k, hk2, rfl⟩
    · refine ⟨-1, ?_, by rw [if_pos h2]⟩
      rw [s_codeAt_out hk (Or.inl h2)]; rfl
    · refine ⟨-1, ?_, ?_⟩
      · rw [s_codeAt_out hk (Or.inr h2)]; rfl
      · rw [if_neg (ix_nn h2 (by omega))]
        simp (disch := omega) only [inR_n, nI_clamp, hm]
        simp only [show decide (j < 2) = true from decide_eq_true (by omega), if_true, if_pos h2]
    · refine ⟨nI ((P.getD j []).getD k 0), ?_, ?_⟩
      · rw [cl_codeAt _ hk k hk2]; rfl
      · simp (disch := omega) only [ni_lt, Nat.not_lt_zero, if_false, inR_n, nI_clamp, hm, ni_le, Nat.not_le.mpr hk2, pk_mul, nI_add]
        simp only [show decide (j < 2) = true from decide_eq_true (by omega), show decide (3 * j + k < 6) = true from decide_eq_true (by omega), if_true, hcs k hk2]
end
section
theorem drop_loop (ct : Int32) (mn cs : Nat → Int32) : ∃ cs' : Nat → Int32, m_M_drop_28 40 ct mn cs (nI 0) = some (nI 1, (ct - nI 1, mn, cs')) ∧ ∀ k, k < 3 → cs' k = cs (3 + k) := by
  refine ⟨_, rfl, ?_⟩
  intro k hk
  rcases (show k = 0 ∨ k = 1 ∨ k = 2 by omega) with rfl | rfl | rfl <;> rfl
theorem s_drop {ct ct2 : Int32} {bd mn cs : Nat → Int32} (h : RP ct bd ct2 mn cs) (x : Int32) : ∃ (r a c : Int32) (b d e : Nat → Int32), m_H_drop ct bd x = some (r, a, b) ∧ m_M_drop ct2 mn cs x = some (r, c, d, e) ∧ RP a b c d e := by
  obtain ⟨P, hP, rfl, rfl, hc⟩ := h
  unfold m_H_drop m_P_remove m_M_drop
  rcases ix x (n := P.length) (by omega) with h1 | h1 | ⟨j, hj, rfl⟩
  · exact ⟨nI 0, nI P.length, nI P.length, bd, mn, cs, by rw [s_bodyOf_out (Or.inl h1)]; rfl, by rw [s_clause_out (Or.inl h1)]; rfl, P, hP, rfl, rfl, hc⟩
  · exact ⟨nI 0, nI P.length, nI P.length, bd, mn, cs, by rw [s_bodyOf_out (Or.inr h1)]; rfl, by rw [s_clause_out (Or.inr h1)]; rfl, P, hP, rfl, rfl, hc⟩
  · obtain ⟨hk, -, hb, -, -⟩ := hc j hj
    have hne : ¬ bd j = nI 0 := by rw [hb]; exact cl_ne _ hk
    rw [s_bodyOf_in hP hj, s_clause_in hP hj, bs, bs, if_neg (show ¬ (nI 1, ()).1 = nI 0 by decide)]
    dsimp only
    rw [if_neg hne]
    rcases Nat.eq_zero_or_pos j with rfl | hj1
    · obtain ⟨cs', e1, e2⟩ := drop_loop (nI P.length) (upd mn 0 (mn 1)) cs
      refine ⟨nI 1, nI (P.length - 1), nI (P.length - 1), upd (upd bd 0 (bd 1)) 1 (nI 0), upd mn 0 (mn 1), cs', ?_, ?_, P.drop 1, by simp; omega, by simp, by simp, ?_⟩
      · rw [← pk_sub (show 1 ≤ P.length by omega)]; rfl
      · rw [← pk_sub (show 1 ≤ P.length by omega)]; exact e1
      · intro i hi
        have hi2 : i = 0 ∧ 1 < P.length := by simp at hi; omega
        obtain ⟨rfl, hl⟩ := hi2
        obtain ⟨a1, a2, a3, a4, a5⟩ := hc 1 hl
        have e3 : (P.drop 1).getD 0 [] = P.getD 1 [] := by simp [List.getD]
        rw [e3]
        refine ⟨a1, a2, ?_, ?_, ?_⟩
        · rw [pk_un (by decide), pk_us]; exact a3
        · rw [pk_us]; exact a4
        · intro k hk3
          have := (cl_len _ a1).2
          rw [show 3 * 0 + k = k by omega, e2 k (by omega)]
          exact a5 k hk3
    · have hj2 : j = 1 := by omega
      subst hj2
      refine ⟨nI 1, nI (P.length - 1), nI (P.length - 1), upd bd 1 (nI 0), mn, cs, ?_, ?_, P.take 1, by simp; omega, by rw [List.length_take]; congr 1; omega, by rw [List.length_take]; congr 1; omega, ?_⟩
      · rw [← pk_sub (show 1 ≤ P.length by omega)]; rfl
      · rw [← pk_sub (show 1 ≤ P.length by omega)]; rfl
      · intro i hi
        have hi2 : i = 0 := by simp at hi; omega
        subst hi2
        obtain ⟨a1, a2, a3, a4, a5⟩ := hc 0 (by omega)
        have e3 : (P.take 1).getD 0 [] = P.getD 0 [] := by simp [List.getD]
        rw [e3]
        exact ⟨a1, a2, by rw [pk_un (by decide)]; exact a3, a4, a5⟩
-- how many bits
def cn (g : Nat → Bool) : Nat → Nat
  | 0 => 0
  | k + 1 => cn g k + (if g k then 1 else 0)
theorem cn_le (g : Nat → Bool) : ∀ k, cn g k ≤ k
  | 0 => Nat.le_refl 0
  | k + 1 => by
    have := cn_le g k
    show cn g k + (if g k then 1 else 0) ≤ k + 1
    split <;> omega
theorem cn_eq {g g' : Nat → Bool} : ∀ {k : Nat}, (∀ i, i < k → g i = g' i) → cn g k = cn g' k
  | 0, _ => rfl
  | k + 1, h => by
    show cn g k + (if g k then 1 else 0) = cn g' k + (if g' k then 1 else 0)
    rw [cn_eq (fun i hi => h i (by omega)), h k (by omega)]
end
section
-- bits counted
theorem ush_n {n : Nat} (j : Nat) (hn : n < 4294967296) (hj : j < 32) : iush (nI n) (nI j) = nI (n / 2 ^ j) := pk_ushrN hn (nI j) j (s_u j hj)
def bcN (n : Nat) : Nat :=
  letN (letN (n - (n / 2 ^ 1 &&& 1431655765)) (fun a => (a &&& 858993459) + (a / 2 ^ 2 &&& 858993459))) (fun b => letN (letN (b + b / 2 ^ 4 &&& 252645135) (fun c => c + c / 2 ^ 8)) (fun d => (d + d / 2 ^ 16) &&& 63))
theorem bc_N {n : Nat} (h : n < 65536) : m_I_bitCount (nI n) = some (nI (bcN n), ()) := by
  unfold m_I_bitCount bcN letN
  dsimp only
  have l1 : n / 2 ^ 1 &&& 1431655765 ≤ n / 2 ^ 1 := Nat.and_le_left
  have e1 : nI n - (iush (nI n) (nI 1) &&& nI 1431655765) = nI (n - (n / 2 ^ 1 &&& 1431655765)) := by
    rw [ush_n 1 (by omega) (by decide), nx_and, pk_sub (by omega)]
  rw [e1]
  have ha : n - (n / 2 ^ 1 &&& 1431655765) < 65536 := by omega
  generalize n - (n / 2 ^ 1 &&& 1431655765) = a at ha
  have e2 : (nI a &&& nI 858993459) + (iush (nI a) (nI 2) &&& nI 858993459) = nI ((a &&& 858993459) + (a / 2 ^ 2 &&& 858993459)) := by
    rw [ush_n 2 (by omega) (by decide), nx_and, nx_and, nI_add]
  rw [e2]
  have l2 : a &&& 858993459 ≤ a := Nat.and_le_left
  have l3 : a / 2 ^ 2 &&& 858993459 ≤ a / 2 ^ 2 := Nat.and_le_left
  have hb : (a &&& 858993459) + (a / 2 ^ 2 &&& 858993459) < 131072 := by omega
  generalize (a &&& 858993459) + (a / 2 ^ 2 &&& 858993459) = b at hb
  have e3 : (nI b + iush (nI b) (nI 4)) &&& nI 252645135 = nI (b + b / 2 ^ 4 &&& 252645135) := by
    rw [ush_n 4 (by omega) (by decide), nI_add, nx_and]
  rw [e3]
  have l4 : b + b / 2 ^ 4 &&& 252645135 ≤ b + b / 2 ^ 4 := Nat.and_le_left
  have hc : b + b / 2 ^ 4 &&& 252645135 < 262144 := by omega
  generalize (b + b / 2 ^ 4 &&& 252645135) = c at hc
  have e4 : nI c + iush (nI c) (nI 8) = nI (c + c / 2 ^ 8) := by
    rw [ush_n 8 (by omega) (by decide), nI_add]
  rw [e4]
  have hd : c + c / 2 ^ 8 < 524288 := by omega
  generalize c + c / 2 ^ 8 = d at hd
  rw [ush_n 16 (by omega) (by decide), nI_add, nx_and]
theorem lnd {a b c d : Nat} (hb : b < 256) (hd : d < 256) : (256 * a + b) &&& (256 * c + d) = 256 * (a &&& c) + (b &&& d) := by
  have hbd : b &&& d < 2 ^ 8 := Nat.lt_of_le_of_lt Nat.and_le_left hb
  apply Nat.eq_of_testBit_eq
  intro i
  rw [Nat.testBit_and, show (256 : Nat) = 2 ^ 8 from rfl, Nat.testBit_two_pow_mul_add a (show b < 2 ^ 8 from hb), Nat.testBit_two_pow_mul_add c (show d < 2 ^ 8 from hd), Nat.testBit_two_pow_mul_add _ hbd]
  split <;> simp
theorem lnd0 {b c d : Nat} (hb : b < 256) (hd : d < 256) : b &&& (256 * c + d) = b &&& d := by
  have h := lnd (a := 0) (c := c) hb hd
  simpa using h
theorem m55 : ∀ y, y < 128 → (128 + y) &&& 85 = y &&& 85 := by decide +kernel
theorem m33 : ∀ e, e < 4 → ∀ y, y < 64 → (64 * e + y) &&& 51 = y &&& 51 := by decide +kernel
def a8 (x : Nat) : Nat := x - (x / 2 &&& 85)
def b8 (x : Nat) : Nat := (x &&& 51) + (x / 4 &&& 51)
theorem b8_lt : ∀ x, x < 256 → b8 (a8 x) % 16 ≤ 4 ∧ b8 (a8 x) / 16 ≤ 4 := by decide +kernel
theorem c8_ok : ∀ x, x < 256 → (b8 (a8 x) + b8 (a8 x) / 16) % 16 = cn (fun p => x.testBit p) 8 := by decide +kernel
theorem a8_lt (x : Nat) : a8 x ≤ x := Nat.sub_le _ _
theorem and15 (x : Nat) : x &&& 15 = x % 16 := Nat.and_two_pow_sub_one_eq_mod x 4
theorem and63 (x : Nat) : x &&& 63 = x % 64 := Nat.and_two_pow_sub_one_eq_mod x 6
theorem st_a {h l : Nat} (hh : h < 256) (hl : l < 256) : (256 * h + l) - ((256 * h + l) / 2 ^ 1 &&& 1431655765) = 256 * a8 h + a8 l := by
  have e1 : (256 * h + l) / 2 ^ 1 = 256 * (h / 2) + (128 * (h % 2) + l / 2) := by omega
  have e2 : (1431655765 : Nat) = 256 * 5592405 + 85 := by decide
  have e3 : (5592405 : Nat) = 256 * 21845 + 85 := by decide
  have e4 : h / 2 &&& 5592405 = h / 2 &&& 85 := by rw [e3]; exact lnd0 (by omega) (by decide)
  have e5 : (128 * (h % 2) + l / 2) &&& 85 = l / 2 &&& 85 := by
    rcases (show h % 2 = 0 ∨ h % 2 = 1 by omega) with e | e
    · rw [e, Nat.mul_zero, Nat.zero_add]
    · rw [e, Nat.mul_one]; exact m55 _ (by omega)
  rw [e1, e2, lnd (by omega) (by decide), e4, e5]
  have l1 : h / 2 &&& 85 ≤ h / 2 := Nat.and_le_left
  have l2 : l / 2 &&& 85 ≤ l / 2 := Nat.and_le_left
  unfold a8
  omega
theorem st_b {p q : Nat} (hp : p < 256) (hq : q < 256) : (256 * p + q &&& 858993459) + ((256 * p + q) / 2 ^ 2 &&& 858993459) = 256 * b8 p + b8 q := by
  have e1 : (256 * p + q) / 2 ^ 2 = 256 * (p / 4) + (64 * (p % 4) + q / 4) := by omega
  have e2 : (858993459 : Nat) = 256 * 3355443 + 51 := by decide
  have e3 : (3355443 : Nat) = 256 * 13107 + 51 := by decide
  have e4 : p / 4 &&& 3355443 = p / 4 &&& 51 := by rw [e3]; exact lnd0 (by omega) (by decide)
  have e5 : p &&& 3355443 = p &&& 51 := by rw [e3]; exact lnd0 (by omega) (by decide)
  have e6 : (64 * (p % 4) + q / 4) &&& 51 = q / 4 &&& 51 := m33 _ (by omega) _ (by omega)
  rw [e1, e2, lnd (by omega) (by decide), lnd (by omega) (by decide), e4, e5, e6]
  unfold b8
  omega
theorem st_c {p q : Nat} (hp : p % 16 ≤ 4 ∧ p / 16 ≤ 4) (hq : q % 16 ≤ 4 ∧ q / 16 ≤ 4) : (256 * p + q + (256 * p + q) / 2 ^ 4 &&& 252645135) = 256 * ((p + p / 16) % 16) + (q + q / 16) % 16 := by
  have e1 : 256 * p + q + (256 * p + q) / 2 ^ 4 = 256 * (p + p / 16) + (16 * (p % 16) + (q + q / 16)) := by omega
  have e2 : (252645135 : Nat) = 256 * 986895 + 15 := by decide
  have e3 : (986895 : Nat) = 256 * 3855 + 15 := by decide
  have e4 : (p + p / 16) &&& 986895 = (p + p / 16) &&& 15 := by rw [e3]; exact lnd0 (by omega) (by decide)
  rw [e1, e2, lnd (by omega) (by decide), e4, and15, and15]
  omega
theorem cn_split (g : Nat → Bool) : cn g 16 = cn g 8 + cn (fun p => g (8 + p)) 8 := by
  simp only [cn, Nat.reduceAdd]
  omega
theorem bc16 {n : Nat} (h : n < 65536) : m_I_bitCount (nI n) = some (nI (cn (fun p => n.testBit p) 16), ()) := by
  rw [bc_N h]
  have e : n = 256 * (n / 256) + n % 256 := by omega
  have hh : n / 256 < 256 := by omega
  have hl : n % 256 < 256 := Nat.mod_lt _ (by decide)
  generalize n / 256 = a at e hh
  generalize n % 256 = b at e hl
  subst e
  have key : bcN (256 * a + b) = cn (fun p => (256 * a + b).testBit p) 16 := by
    have ha := c8_ok a hh
    have hb := c8_ok b hl
    unfold bcN letN
    dsimp only
    rw [st_a hh hl, st_b (Nat.lt_of_le_of_lt (a8_lt a) hh) (Nat.lt_of_le_of_lt (a8_lt b) hl), st_c (b8_lt a hh) (b8_lt b hl), ha, hb, and63, cn_split]
    have e1 : cn (fun p => (256 * a + b).testBit p) 8 = cn (fun p => b.testBit p) 8 := cn_eq (fun i hi => by
      rw [show (256 : Nat) = 2 ^ 8 from rfl, Nat.testBit_two_pow_mul_add a (show b < 2 ^ 8 from hl), if_pos hi])
    have e2 : cn (fun p => (256 * a + b).testBit (8 + p)) 8 = cn (fun p => a.testBit p) 8 := cn_eq (fun i hi => by
      rw [show (256 : Nat) = 2 ^ 8 from rfl, Nat.testBit_two_pow_mul_add a (show b < 2 ^ 8 from hl), if_neg (by omega)]
      congr 1
      omega)
    rw [e1, e2]
    have l1 := cn_le (fun p => a.testBit p) 8
    have l2 := cn_le (fun p => b.testBit p) 8
    clear ha hb e1 e2
    generalize cn (fun p => a.testBit p) 8 = u at l1 ⊢
    generalize cn (fun p => b.testBit p) 8 = v at l2 ⊢
    have d1 : (256 * u + v) / 2 ^ 8 = u := by omega
    rw [d1]
    have d2 : (256 * u + v + u) / 2 ^ 16 = 0 := by omega
    rw [d2, Nat.add_zero, show 256 * u + v + u = v + u + 64 * (4 * u) by omega, Nat.add_mul_mod_self_left, Nat.mod_eq_of_lt (by omega)]
  rw [key]
end
section
theorem lt_head : ∀ p, p < 8 → Option.bind (m_S_charAt 2 (nI p)) (fun v => some (v.1, ())) = Option.bind (m_M_head (nI p)) (fun v => (some (v.1, ()) : Option (Int32 × Unit))) := by decide +kernel
theorem lt_code : ∀ c, c < 27 → ∀ t, t < 7 → m_P_letterOf (mk [c]) (nI (8 + t)) = (if t = 6 then some (nI 44, ()) else Option.bind (m_M_letterOf (nI c) (nI t)) (fun v => some (v.1, ()))) := by decide +kernel
theorem lt_val : ∀ c, c < 27 → ∀ t, t < 7 → ∃ r, r < 127 ∧ m_P_letterOf (mk [c]) (nI (8 + t)) = some (nI r, ()) := by decide +kernel
theorem lt_hv : ∀ p, p < 8 → ∃ r, r < 127 ∧ Option.bind (m_S_charAt 2 (nI p)) (fun v => (some (v.1, ()) : Option (Int32 × Unit))) = some (nI r, ()) := by decide +kernel
theorem letterOf_1 {l : List Nat} (hl : okB l = true) {k t : Nat} (hk : k < l.length) (ht : t < 7) : m_P_letterOf (mk l) (nI (8 + (7 * k + t))) = m_P_letterOf (mk [l.getD k 0]) (nI (8 + t)) := by
  have hL := (cl_len l hl).2
  have hc := cl_lt hl hk
  have h1 : okB [l.getD k 0] = true := decide_eq_true hc
  unfold m_P_letterOf
  rw [if_pos (by rw [ni_le (by decide) (by omega)]; omega), if_pos (by rw [ni_le (by decide) (by omega)]; omega)]
  rw [pk_sub (show 8 ≤ 8 + (7 * k + t) by omega), pk_sub (show 8 ≤ 8 + t by omega), show 8 + (7 * k + t) - 8 = 7 * k + t by omega, show 8 + t - 8 = t by omega]
  rw [pk_div (show 7 * k + t < 2 ^ 31 by omega) (by decide) (by decide), pk_div (show t < 2 ^ 31 by omega) (by decide) (by decide), irm_n (by omega) (by decide) (by decide), irm_n (by omega) (by decide) (by decide)]
  rw [show (7 * k + t) / 7 = k by omega, show (7 * k + t) % 7 = t by omega, show t / 7 = 0 by omega, show t % 7 = t by omega]
  rw [cl_codeAt l hl k hk, cl_codeAt [l.getD k 0] h1 0 (by simp)]
  rfl
theorem s_letter {ct ct2 : Int32} {bd mn cs : Nat → Int32} (h : RP ct bd ct2 mn cs) (x : Int32) : ∃ r : Int32, m_H_letter ct bd x = some (r, ()) ∧ m_M_letter ct2 mn cs x = some (r, ()) := by
  obtain ⟨P, hP, rfl, rfl, hc⟩ := h
  have key : ∀ d j, j + d = P.length → ∀ (z : Int32) (n m : Nat), d < n → d < m → ∃ r : Int32, m_P_letterAt_4 (nI P.length) bd n z (nI j) = some (r, ()) ∧ m_M_letter_4 (nI P.length) mn cs m z (nI j) = some (r, ()) := by
    intro d
    induction d with
    | zero =>
      intro j hj z n m hn hm
      obtain ⟨n, rfl⟩ : ∃ n', n = n' + 1 := ⟨n - 1, by omega⟩
      obtain ⟨m, rfl⟩ : ∃ m', m = m' + 1 := ⟨m - 1, by omega⟩
      unfold m_P_letterAt_4 m_M_letter_4
      rw [if_pos (by rw [ni_le (by omega) (by omega)]; omega), if_pos (by rw [ni_le (by omega) (by omega)]; omega)]
      exact ⟨-1, rfl, rfl⟩
    | succ d ih =>
      intro j hj z n m hn hm
      obtain ⟨n, rfl⟩ : ∃ n', n = n' + 1 := ⟨n - 1, by omega⟩
      obtain ⟨m, rfl⟩ : ∃ m', m = m' + 1 := ⟨m - 1, by omega⟩
      obtain ⟨hk, -, hb, hmn, hcs⟩ := hc j (by omega)
      generalize P.getD j [] = l at hk hb hmn hcs
      have hL := cl_len l hk
      have hTL : m_P_textLength (bd j) = some (nI (7 + 7 * l.length), ()) := by
        unfold m_P_textLength
        rw [hb, cl_bc l hk, bs]
        dsimp only
        rw [pk_mul, nI_add, pk_sub (by omega), show 8 + 7 * l.length - 1 = 7 + 7 * l.length by omega]
      have e1 : m_P_letterAt_4 (nI P.length) bd (n + 1) z (nI j) = if z < nI 0 then some (-1, ()) else if nI (7 + 7 * l.length) ≤ z then (if z = nI (7 + 7 * l.length) then (if nI P.length ≤ nI (j + 1) then m_P_letterAt_63 (nI P.length) bd (m_P_letterAt_4 (nI P.length) bd n) z (nI j) (nI (7 + 7 * l.length)) else some (nI 59, ())) else m_P_letterAt_63 (nI P.length) bd (m_P_letterAt_4 (nI P.length) bd n) z (nI j) (nI (7 + 7 * l.length))) else Option.bind (m_P_letterOf (mk l) z) (fun v => some (v.1, ())) := by
        conv => lhs; unfold m_P_letterAt_4
        rw [if_neg (by rw [ni_le (by omega) (by omega)]; omega), inR_n (by omega), decide_eq_true (show j < 2 by omega), nI_clamp (by omega), if_pos rfl, if_pos rfl, hTL, bs, nI_add, hb]
      have e2 : m_M_letter_4 (nI P.length) mn cs (m + 1) z (nI j) = if z < nI 0 then some (-1, ()) else if nI (7 + 7 * l.length) ≤ z then (if z - nI (7 + 7 * l.length) = nI 0 then (if nI P.length ≤ nI (j + 1) then some (-1, ()) else some (nI 59, ())) else m_M_letter_4 (nI P.length) mn cs m (z - nI (7 + 7 * l.length) + (-1 : Int32)) (nI (j + 1))) else (if nI 0 ≤ z - nI 8 then (if irm (z - nI 8) (nI 7) = nI 6 then some (nI 44, ()) else (if inR (nI (3 * j) + (z - nI 8) / nI 7) 6 = true then Option.bind (m_M_letterOf (cs (nI (3 * j) + (z - nI 8) / nI 7).toNatClampNeg) (irm (z - nI 8) (nI 7))) (fun v => some (v.1, ())) else none)) else Option.bind (m_M_head z) (fun v => some (v.1, ()))) := by
        conv => lhs; unfold m_M_letter_4
        rw [if_neg (by rw [ni_le (by omega) (by omega)]; omega), inR_n (by omega), decide_eq_true (show j < 2 by omega), nI_clamp (by omega), if_pos rfl, hmn, pk_mul 7 l.length, nI_add, nI_add, pk_mul 3 j]
      rw [e1, e2]
      by_cases hz : z < nI 0
      · rw [if_pos hz, if_pos hz]; exact ⟨-1, rfl, rfl⟩
      rw [if_neg hz, if_neg hz]
      obtain ⟨p, hp, rfl⟩ := nI_of (x := z) hz
      by_cases h1 : 7 + 7 * l.length ≤ p
      · have h1' : nI (7 + 7 * l.length) ≤ nI p := by rw [ni_le (by omega) (by omega)]; exact h1
        rw [if_pos h1', if_pos h1', pk_sub h1]
        unfold m_P_letterAt_63
        rw [nI_add, nI_add]
        by_cases h2 : p = 7 + 7 * l.length
        · have h2a : nI p = nI (7 + 7 * l.length) := by rw [h2]
          have h2b : nI (p - (7 + 7 * l.length)) = nI 0 := by rw [h2, Nat.sub_self]
          rw [if_pos h2a, if_pos h2b]
          by_cases h3 : P.length ≤ j + 1
          · have h3' : nI P.length ≤ nI (j + 1) := by rw [ni_le (by omega) (by omega)]; exact h3
            rw [if_pos h3', if_pos h3']
            refine ⟨-1, ?_, rfl⟩
            obtain ⟨n, rfl⟩ : ∃ n', n = n' + 1 := ⟨n - 1, by omega⟩
            unfold m_P_letterAt_4
            rw [if_pos h3']
          · have h3' : ¬ nI P.length ≤ nI (j + 1) := by rw [ni_le (by omega) (by omega)]; exact h3
            rw [if_neg h3', if_neg h3']
            exact ⟨nI 59, rfl, rfl⟩
        · rw [if_neg (by rw [ni_eq (by omega) (by omega)]; exact h2), if_neg (by rw [ni_eq (by omega) (by decide)]; omega), pk_sub (show 7 + 7 * l.length + 1 ≤ p by omega)]
          have e3 : nI (p - (7 + 7 * l.length)) + (-1 : Int32) = nI (p - (7 + 7 * l.length + 1)) := by
            rw [show p - (7 + 7 * l.length) = (p - (7 + 7 * l.length + 1)) + 1 by omega]
            exact pk_m1 _
          rw [e3]
          exact ih (j + 1) (by omega) _ n m (by omega) (by omega)
      · have h1' : ¬ nI (7 + 7 * l.length) ≤ nI p := by rw [ni_le (by omega) (by omega)]; exact h1
        rw [if_neg h1', if_neg h1']
        by_cases h4 : p < 8
        · obtain ⟨r, -, hr⟩ := lt_hv p h4
          have hneg : ¬ nI 0 ≤ nI p - nI 8 := by
            have := pk_sneg (a := p) (b := 8) (by decide) h4
            intro h9
            have a1 := Int32.le_iff_toInt_le.mp h9
            have a2 := Int32.lt_iff_toInt_lt.mp this
            rw [nI_toInt (by decide)] at a1
            have a3 : (0 : Int32).toInt = 0 := rfl
            omega
          refine ⟨nI r, ?_, ?_⟩
          · unfold m_P_letterOf
            rw [if_neg (by rw [ni_le (by decide) (by omega)]; omega), if_pos (by decide), hr, bs]
          · rw [if_neg hneg, ← lt_head p h4, hr]
        · obtain ⟨k, t, ht, e5⟩ : ∃ k t, t < 7 ∧ p = 8 + (7 * k + t) := ⟨(p - 8) / 7, (p - 8) % 7, Nat.mod_lt _ (by decide), by omega⟩
          subst e5
          have hkl : k < l.length := by omega
          have hcl := cl_lt hk hkl
          obtain ⟨r, -, hr⟩ := lt_val (l.getD k 0) hcl t ht
          refine ⟨nI r, ?_, ?_⟩
          · rw [letterOf_1 hk hkl ht, hr, bs]
          · have hlc := lt_code (l.getD k 0) hcl t ht
            rw [hr] at hlc
            rw [pk_sub (show 8 ≤ 8 + (7 * k + t) by omega), show 8 + (7 * k + t) - 8 = 7 * k + t by omega, if_pos (by rw [ni_le (by decide) (by omega)]; omega), irm_n (by omega) (by decide) (by decide), show (7 * k + t) % 7 = t by omega, pk_div (show 7 * k + t < 2 ^ 31 by omega) (by decide) (by decide), show (7 * k + t) / 7 = k by omega, nI_add, nI_clamp (by omega), inR_n (by omega), decide_eq_true (show 3 * j + k < 6 by omega), hcs k hkl]
            by_cases h6 : t = 6
            · rw [if_pos (by rw [h6]), hlc, if_pos h6]
            · rw [if_neg (by rw [ni_eq (by omega) (by decide)]; exact h6), if_pos rfl, hlc, if_neg h6]
  obtain ⟨r, k1, k2⟩ := key P.length 0 (by omega) x 40 40 (by omega) (by omega)
  refine ⟨r, ?_, k2⟩
  unfold m_H_letter m_P_letterAt
  rw [k1, bs]
end
