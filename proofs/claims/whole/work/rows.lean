section
-- small rows for the mirrors
def inR (i : Int32) (n : Nat) : Bool := decide (0 ≤ i.toInt) && decide (i.toInt < n)
theorem inR_iff {i : Int32} {n : Nat} : inR i n = true ↔ 0 ≤ i.toInt ∧ i.toInt < n := by simp [inR]
theorem inR_in {i : Int32} {n : Nat} (h : inR i n = true) : vp_in i n := vp_in_iff.mpr (inR_iff.mp h)
def isZ (x : Int32) : Bool := decide (x = 0) || decide (x = 1)
theorem isZ_iff {x : Int32} : isZ x = true ↔ x = 0 ∨ x = 1 := by simp [isZ]
theorem nrz {x : Int32} (h : isZ x = true) : narrow .boolean (.int x) = .int x := by
  rcases isZ_iff.mp h with rfl | rfl <;> rfl
theorem nar_z {x : Int32} (h : isZ x = true) : vp_nar .boolean x = x := by
  rcases isZ_iff.mp h with rfl | rfl <;> rfl
def isC (x : Int32) : Bool := decide (0 ≤ x.toInt) && decide (x.toInt < 65536)
theorem isC_iff {x : Int32} : isC x = true ↔ 0 ≤ x.toInt ∧ x.toInt < 65536 := by simp [isC]
theorem isC_nI {x : Int32} (h : isC x = true) : ∃ q : Nat, q < 65536 ∧ x = nI q := by
  obtain ⟨h1, h2⟩ := isC_iff.mp h
  exact vp_in_of (vp_in_iff.mpr ⟨h1, h2⟩) (by decide)
theorem nrc {x : Int32} (h : isC x = true) : narrow .char (.int x) = .int x := by
  obtain ⟨q, hq, rfl⟩ := isC_nI h
  exact (pk_charN hq).1
theorem nar_c {x : Int32} (h : isC x = true) : vp_nar .char x = x := by
  unfold vp_nar
  rw [nrc h]
def irm (x y : Int32) : Int32 := x - x / y * y
def iush (x y : Int32) : Int32 := (x.toUInt32 >>> (y.toUInt32 &&& Int32.toUInt32 31)).toInt32
def lush (x : Int64) (y : Int32) : Int64 := (x.toUInt64 >>> (y.toInt64.toUInt64 &&& Int64.toUInt64 63)).toInt64
def i2c (x : Int32) : Int32 := (x.toUInt32 % 65536).toInt32
theorem of_pos {α : Type} {c : Prop} [Decidable c] {a b r : α} (h : (if c then a else b) = r) (hc : c) : a = r := by rw [if_pos hc] at h; exact h
theorem of_neg {α : Type} {c : Prop} [Decidable c] {a b r : α} (h : (if c then a else b) = r) (hc : ¬ c) : b = r := by rw [if_neg hc] at h; exact h
theorem of_guard {α : Type} {b : Bool} {x : Option α} {r : α} (h : (if b = true then x else none) = some r) : b = true ∧ x = some r := by
  by_cases hb : b = true
  · rw [if_pos hb] at h; exact ⟨hb, h⟩
  · rw [if_neg hb] at h; cases h
theorem of_bind {α β : Type} {x : Option α} {f : α → Option β} {r : β} (h : Option.bind x f = some r) : ∃ v, x = some v ∧ f v = some r := by
  cases x with
  | none => cases h
  | some v => exact ⟨v, rfl, h⟩
def letN {α β : Type} (x : α) (f : α → β) : β := f x
theorem of_let {α β : Type} {x y : α} {f : α → β} {r : β} (h : letN x f = r) (e : y = x) : f y = r := by subst e; exact h
theorem W_gen {p : Program} {l : Launch} {e : Env} {R : Room} {s : State} {m : MethodId} {args : Array Value} {below : List Frame} {meth : Method} {c : Code} {H : Heap} {locs : List Loc} {cells slots : Nat} {Q0 : State → Prop} {g : JFrame} (k : ∀ Q : State → Prop, Q = Q0 → W p l e R s m args below meth c H locs cells slots Q g) : W p l e R s m args below meth c H locs cells slots Q0 g := k Q0 rfl
theorem W_heap {p : Program} {l : Launch} {e : Env} {R : Room} {s : State} {m : MethodId} {args : Array Value} {below : List Frame} {meth : Method} {c : Code} {H H0 : Heap} {locs : List Loc} {cells slots : Nat} {Q : State → Prop} {g : JFrame} (e1 : H = H0) (k : W p l e R s m args below meth c H locs cells slots Q g) : W p l e R s m args below meth c H0 locs cells slots Q g := e1 ▸ k
def bt (x : Int32) (i : Nat) : Bool := x.toBitVec.getLsbD i
theorem b_ext {x y : Int32} (h : ∀ i, i < 32 → bt x i = bt y i) : x = y := Int32.toBitVec_inj.mp (BitVec.eq_of_getLsbD_eq (fun i hi => h i hi))
theorem b_or (x y : Int32) (i : Nat) : bt (x ||| y) i = (bt x i || bt y i) := by unfold bt; rw [Int32.toBitVec_or, BitVec.getLsbD_or]
theorem b_and (x y : Int32) (i : Nat) : bt (x &&& y) i = (bt x i && bt y i) := by unfold bt; rw [Int32.toBitVec_and, BitVec.getLsbD_and]
theorem b_xor (x y : Int32) (i : Nat) : bt (x ^^^ y) i = (bt x i ^^ bt y i) := by unfold bt; rw [Int32.toBitVec_xor, BitVec.getLsbD_xor]
theorem b_big {x : Int32} {i : Nat} (h : 32 ≤ i) : bt x i = false := BitVec.getLsbD_of_ge _ _ h
theorem b_255 (i : Nat) : bt 255 i = decide (i < 8) := by
  rcases Nat.lt_or_ge i 32 with h | h
  · exact (by decide +kernel : ∀ i, i < 32 → bt 255 i = decide (i < 8)) i h
  · rw [b_big h, decide_eq_false (by omega)]
theorem b_65535 (i : Nat) : bt 65535 i = decide (i < 16) := by
  rcases Nat.lt_or_ge i 32 with h | h
  · exact (by decide +kernel : ∀ i, i < 32 → bt 65535 i = decide (i < 16)) i h
  · rw [b_big h, decide_eq_false (by omega)]
theorem b_m1 : ∀ i, i < 32 → bt (-1) i = true := by decide +kernel
theorem b_0 (i : Nat) : bt 0 i = false := BitVec.getLsbD_zero
theorem s_l : ∀ n, n < 32 → ((nI n &&& 31).toBitVec.smod 32).toNat = n := by decide +kernel
theorem s_u : ∀ n, n < 32 → (((nI n).toUInt32 &&& Int32.toUInt32 31).toBitVec % 32).toNat = n := by decide +kernel
theorem b_shl (n : Nat) (hn : n < 32) (x : Int32) {i : Nat} (hi : i < 32) : bt (x <<< (nI n &&& 31)) i = (decide (n ≤ i) && bt x (i - n)) := by
  unfold bt
  rw [Int32.toBitVec_shiftLeft]
  show (x.toBitVec <<< ((nI n &&& 31).toBitVec.smod 32).toNat).getLsbD i = _
  rw [s_l n hn, BitVec.getLsbD_shiftLeft]
  rcases Nat.lt_or_ge i n with h | h
  · simp [h, Nat.not_le.mpr h]
  · simp [hi, h, Nat.not_lt.mpr h]
theorem b_ushr (n : Nat) (hn : n < 32) (x : Int32) (i : Nat) : bt ((x.toUInt32 >>> ((nI n).toUInt32 &&& Int32.toUInt32 31)).toInt32) i = bt x (n + i) := by
  show (x.toUInt32 >>> ((nI n).toUInt32 &&& Int32.toUInt32 31)).toBitVec.getLsbD i = x.toUInt32.toBitVec.getLsbD (n + i)
  rw [UInt32.toBitVec_shiftRight]
  show (x.toUInt32.toBitVec >>> (((nI n).toUInt32 &&& Int32.toUInt32 31).toBitVec % 32).toNat).getLsbD i = _
  rw [s_u n hn, BitVec.getLsbD_ushiftRight]
theorem b_sshr (n : Nat) (hn : n < 32) (x : Int32) {i : Nat} (hi : i < 32) : bt (x >>> (nI n &&& 31)) i = if n + i < 32 then bt x (n + i) else bt x 31 := by
  unfold bt
  rw [Int32.toBitVec_shiftRight]
  show (x.toBitVec.sshiftRight ((nI n &&& 31).toBitVec.smod 32).toNat).getLsbD i = _
  rw [s_l n hn, BitVec.getLsbD_sshiftRight, BitVec.msb_eq_getLsbD_last]
  simp [hi]
theorem b_shl8 (x : Int32) {i : Nat} (hi : i < 32) : bt (x <<< ((8 : Int32) &&& 31)) i = (decide (8 ≤ i) && bt x (i - 8)) := b_shl 8 (by omega) x hi
theorem b_shl16 (x : Int32) {i : Nat} (hi : i < 32) : bt (x <<< ((16 : Int32) &&& 31)) i = (decide (16 ≤ i) && bt x (i - 16)) := b_shl 16 (by omega) x hi
theorem b_shl24 (x : Int32) {i : Nat} (hi : i < 32) : bt (x <<< ((24 : Int32) &&& 31)) i = (decide (24 ≤ i) && bt x (i - 24)) := b_shl 24 (by omega) x hi
theorem b_sshr8 (x : Int32) {i : Nat} (hi : i < 32) : bt (x >>> ((8 : Int32) &&& 31)) i = if 8 + i < 32 then bt x (8 + i) else bt x 31 := b_sshr 8 (by omega) x hi
theorem nx_and (a b : Nat) : nI a &&& nI b = nI (a &&& b) := by
  apply Int32.toBitVec_inj.1
  show BitVec.ofNat 32 a &&& BitVec.ofNat 32 b = BitVec.ofNat 32 (a &&& b)
  apply BitVec.eq_of_getLsbD_eq
  intro i hi
  simp [hi]
-- the constants: the table of choices, the texts, two statics of the JDK's
def tabL (j : Nat) : Int64 := ([4222189076152335, 67555025218437360, 1080880403494997760, -1152657617789587456, 1229782938247303441, 2459565876494606882, 4919131752989213764, -8608480567731124088, 65535, 4294901760, 281470681743360, -281474976710656] : List Int64).getD j 0
def xlen : List Nat := [3, 3, 8, 6, 7, 7, 7, 28, 0]
def xbyt : List (List Int32) := [[97, 98, 116], [88, 89, 90], [116, 40, 88, 44, 89, 41, 58, 45], [102, 40, 99, 44, 99, 41], [126, 114, 40, 99, 44, 99, 41], [43, 116, 40, 99, 44, 99, 41], [45, 116, 40, 99, 44, 99, 41], [116, 40, 88, 44, 89, 41, 58, 45, 114, 40, 118, 44, 118, 41, 44, 114, 40, 118, 44, 118, 41, 44, 114, 40, 118, 44, 118, 41], []]
def inN (i : Nat) : Bool := decide (i < 9)
theorem inN_lt {i : Nat} (h : inN i = true) : i < 9 := of_decide_eq_true h
end
section
def m_I_bitCount (x0 : Int32) : Option (Int32 × Unit) := (letN (((x0 - ((iush x0 (nI 1)) &&& (nI 1431655765))) &&& (nI 858993459)) + ((iush (x0 - ((iush x0 (nI 1)) &&& (nI 1431655765))) (nI 2)) &&& (nI 858993459))) (fun w_23 => (letN (((w_23 + (iush w_23 (nI 4))) &&& (nI 252645135)) + (iush ((w_23 + (iush w_23 (nI 4))) &&& (nI 252645135)) (nI 8))) (fun w_40 => some ((w_40 + (iush w_40 (nI 16))) &&& (nI 63), ())))))
def m_S_coder (x0 : Nat) : Option (Int32 × Unit) := (if (nI 1) = (nI 0) then some ((nI 1), ()) else (if inN x0 = true then some ((nI 0), ()) else none))
def m_S_isLatin1 (x0 : Nat) : Option (Int32 × Unit) := (if (nI 1) = (nI 0) then some ((nI 0), ()) else (if inN x0 = true then (if (nI 0) = (nI 0) then some ((nI 1), ()) else some ((nI 0), ())) else none))
def m_S_length (x0 : Nat) : Option (Int32 × Unit) := (if inN x0 = true then (if inN x0 = true then (if inN x0 = true then (Option.bind (m_S_coder x0) (fun v_6 => some ((nI (xlen.getD x0 0)) >>> (v_6.1 &&& 31), ()))) else none) else none) else none)
def m_Q_checkIndex (x0 : Int32) (x1 : Int32) : Option (Int32 × Unit) := (if x0 < (nI 0) then none else (if x0 < x1 then some (x0, ()) else none))
def m_S_checkIndex (x0 : Int32) (x1 : Int32) : Option Unit := (Option.bind (m_Q_checkIndex x0 x1) (fun v_5 => some ()))
def m_T_charAt (x0 : Nat) (x1 : Int32) : Option (Int32 × Unit) := (if inN x0 = true then (Option.bind (m_S_checkIndex x1 (nI (xlen.getD x0 0))) (fun v_3 => (if inN x0 = true then (if inR x1 (xlen.getD x0 0) = true then (if isC (i2c (((xbyt.getD x0 []).getD x1.toNatClampNeg 0) &&& (nI 255))) = true then some (i2c (((xbyt.getD x0 []).getD x1.toNatClampNeg 0) &&& (nI 255)), ()) else none) else none) else none))) else none)
def m_S_charAt (x0 : Nat) (x1 : Int32) : Option (Int32 × Unit) := (if inN x0 = true then (Option.bind (m_S_isLatin1 x0) (fun v_1 => (if v_1.1 = (nI 0) then none else (if inN x0 = true then (Option.bind (m_T_charAt x0 x1) (fun v_12 => (if isC v_12.1 = true then some (v_12.1, ()) else none))) else none)))) else none)
def m_T_canEncode (x0 : Int32) : Option (Int32 × Unit) := (if x0 < (nI 0) then some ((nI 0), ()) else (if (nI 255) < x0 then some ((nI 0), ()) else some ((nI 1), ())))
def m_T_indexOfChar_7 : Nat → Nat → Int32 → Int32 → Int32 → Option (Int32 × Unit)
  | 0, _, _, _, _ => none
  | n + 1, z0, z3, z4, z5 => (if z3 ≤ z5 then some ((-1 : Int32), ()) else (if inN z0 = true then (if inR z5 (xlen.getD z0 0) = true then (if ((xbyt.getD z0 []).getD z5.toNatClampNeg 0) = z4 then some (z5, ()) else m_T_indexOfChar_7 n z0 z3 z4 (z5 + (nI 1))) else none) else none))
def m_T_indexOfChar (x0 : Nat) (x1 : Int32) (x2 : Int32) (x3 : Int32) : Option (Int32 × Unit) := m_T_indexOfChar_7 40 x0 x3 x1.toInt8.toInt32 x2
def m_T_indexOf (x0 : Nat) (x1 : Int32) (x2 : Int32) (x3 : Int32) : Option (Int32 × Unit) := (Option.bind (m_T_canEncode x1) (fun v_1 => (if v_1.1 = (nI 0) then some ((-1 : Int32), ()) else (if inN x0 = true then (if (if x2 < (nI 0) then (nI 0) else x2) < (if nI (xlen.getD x0 0) < x3 then nI (xlen.getD x0 0) else x3) then (Option.bind (m_T_indexOfChar x0 x1 (if x2 < (nI 0) then (nI 0) else x2) (if nI (xlen.getD x0 0) < x3 then nI (xlen.getD x0 0) else x3)) (fun v_33 => some (v_33.1, ()))) else some ((-1 : Int32), ())) else none))))
def m_S_indexOf2 (x0 : Nat) (x1 : Int32) (x2 : Int32) : Option (Int32 × Unit) := (if inN x0 = true then (Option.bind (m_S_isLatin1 x0) (fun v_1 => (if v_1.1 = (nI 0) then none else (if inN x0 = true then (if inN x0 = true then (Option.bind (m_S_length x0) (fun v_14 => (Option.bind (m_T_indexOf x0 x1 x2 v_14.1) (fun v_17 => some (v_17.1, ()))))) else none) else none)))) else none)
def m_S_indexOf1 (x0 : Nat) (x1 : Int32) : Option (Int32 × Unit) := (if inN x0 = true then (Option.bind (m_S_indexOf2 x0 x1 (nI 0)) (fun v_3 => some (v_3.1, ()))) else none)
def m_H_isFactRelation (x0 : Int32) : Option (Int32 × Unit) := (if x0 < (nI 0) then some ((nI 0), ()) else (if (nI 2) ≤ x0 then some ((nI 0), ()) else some ((nI 1), ())))
def m_H_pairBit_23 (z0 : Int32) (z1 : Int32) (y0 : Int32) : Option (Int32 × Unit) := (if y0 = (nI 0) then some ((nI 0), ()) else some ((nI 1) <<< ((((nI 4) * z0) + z1) &&& 31), ()))
def m_H_pairBit_22 (z0 : Int32) (z1 : Int32) : Option (Int32 × Unit) := m_H_pairBit_23 z0 z1 (nI 0)
def m_H_pairBit (x0 : Int32) (x1 : Int32) : Option (Int32 × Unit) := (if x0 < (nI 0) then m_H_pairBit_22 x0 x1 else (if (nI 4) ≤ x0 then m_H_pairBit_22 x0 x1 else (if x1 < (nI 0) then m_H_pairBit_22 x0 x1 else (if (nI 4) ≤ x1 then m_H_pairBit_22 x0 x1 else m_H_pairBit_23 x0 x1 (nI 1)))))
def m_H_hasHeadVariables (x0 : Int32) : Option (Int32 × Unit) := (if (x0 &&& (nI 20749903)) = (nI 0) then some ((nI 0), ()) else (if (x0 &&& (nI 48854202)) = (nI 0) then some ((nI 0), ()) else some ((nI 1), ())))
def m_H_codeOf (x0 : Int32) (x1 : Int32) (x2 : Int32) : Option (Int32 × Unit) := some ((((nI 9) * x0) + ((nI 3) * x1)) + x2, ())
def m_H_relationOf (x0 : Int32) : Option (Int32 × Unit) := some (x0 / (nI 9), ())
def m_H_firstVariableOf (x0 : Int32) : Option (Int32 × Unit) := some (irm (x0 / (nI 3)) (nI 3), ())
def m_H_secondVariableOf (x0 : Int32) : Option (Int32 × Unit) := some (irm x0 (nI 3), ())
def m_H_leastCode (x0 : Int32) : Option (Int32 × Unit) := (Option.bind (m_I_bitCount ((x0 &&& (-x0)) - (nI 1))) (fun v_6 => some (v_6.1, ())))
def m_H_withoutLeastCode (x0 : Int32) : Option (Int32 × Unit) := some (x0 &&& (x0 - (nI 1)), ())
def m_H_codeAt_18 : Nat → Int32 → Int32 → Int32 → Option (Int32 × Unit)
  | 0, _, _, _ => none
  | n + 1, z1, z2, z3 => (if z1 ≤ z3 then (Option.bind (m_H_leastCode z2) (fun v_35 => some (v_35.1, ()))) else (Option.bind (m_H_withoutLeastCode z2) (fun v_24 => m_H_codeAt_18 n z1 v_24.1 (z3 + (nI 1)))))
def m_H_codeAt (x0 : Int32) (x1 : Int32) : Option (Int32 × Unit) := (if x1 < (nI 0) then some ((-1 : Int32), ()) else (Option.bind (m_I_bitCount x0) (fun v_6 => (if x1 < v_6.1 then m_H_codeAt_18 40 x1 x0 (nI 0) else some ((-1 : Int32), ())))))
def m_H_withVariableForZ_68 (k_7 : Int32 → Int32 → Int32 → Int32 → Option (Int32 × Unit)) (z1 : Int32) (z3 : Int32) (z4 : Int32) (y0 : Int32) (y1 : Int32) (y2 : Int32) (y3 : Int32) (y4 : Int32) : Option (Int32 × Unit) := (Option.bind (m_H_codeOf y2 y1 y0) (fun v_68 => (Option.bind (m_H_withoutLeastCode z3) (fun v_75 => k_7 z1 (y4 ||| (y3 <<< (v_68.1 &&& 31))) v_75.1 (z4 + (nI 1))))))
def m_H_withVariableForZ_56 (k_7 : Int32 → Int32 → Int32 → Int32 → Option (Int32 × Unit)) (z1 : Int32) (z3 : Int32) (z4 : Int32) (z7 : Int32) (y0 : Int32) (y1 : Int32) (y2 : Int32) (y3 : Int32) : Option (Int32 × Unit) := (if z7 = (nI 2) then m_H_withVariableForZ_68 k_7 z1 z3 z4 z1 y0 y1 y2 y3 else m_H_withVariableForZ_68 k_7 z1 z3 z4 z7 y0 y1 y2 y3)
def m_H_withVariableForZ_7 : Nat → Int32 → Int32 → Int32 → Int32 → Option (Int32 × Unit)
  | 0, _, _, _, _ => none
  | n + 1, z1, z2, z3, z4 => (if (nI 3) ≤ z4 then some (z2, ()) else (if z3 = (nI 0) then some (z2, ()) else (Option.bind (m_H_leastCode z3) (fun v_18 => (Option.bind (m_H_firstVariableOf v_18.1) (fun v_25 => (Option.bind (m_H_secondVariableOf v_18.1) (fun v_32 => (Option.bind (m_H_relationOf v_18.1) (fun v_41 => (if v_25.1 = (nI 2) then m_H_withVariableForZ_56 (m_H_withVariableForZ_7 n) z1 z3 z4 v_32.1 z1 v_41.1 (nI 1) z2 else m_H_withVariableForZ_56 (m_H_withVariableForZ_7 n) z1 z3 z4 v_32.1 v_25.1 v_41.1 (nI 1) z2)))))))))))
def m_H_withVariableForZ (x0 : Int32) (x1 : Int32) : Option (Int32 × Unit) := m_H_withVariableForZ_7 40 x1 (nI 0) x0 (nI 0)
def m_L_add (v_length : Int32) (v_typed : Nat → Int32) (x1 : Int32) : Option (Int32 × Int32 × (Nat → Int32)) := (if x1 < (nI 32) then some ((nI 0), (v_length, v_typed)) else (if (nI 126) < x1 then some ((nI 0), (v_length, v_typed)) else (if v_length < (nI 32) then (if inR v_length 32 = true then (if isC x1 = true then some ((nI 1), (v_length + (nI 1), upd v_typed v_length.toNatClampNeg x1)) else none) else none) else some ((nI 0), (v_length, v_typed)))))
def m_L_removeLast (v_length : Int32) : Option (Int32 × Int32) := (if v_length = (nI 0) then some ((nI 0), v_length) else some ((nI 1), v_length - (nI 1)))
def m_L_clear (v_length : Int32) : Option Int32 := some (nI 0)
def m_L_at (v_length : Int32) (v_typed : Nat → Int32) (x1 : Int32) : Option (Int32 × Unit) := (if x1 < (nI 0) then some ((nI 0), ()) else (if v_length ≤ x1 then some ((nI 0), ()) else (if inR x1 32 = true then (if isC (v_typed x1.toNatClampNeg) = true then some (v_typed x1.toNatClampNeg, ()) else none) else none)))
def m_L_form (v_length : Int32) (v_typed : Nat → Int32) : Option (Nat × Unit) := (Option.bind (m_L_at v_length v_typed (nI 0)) (fun v_2 => (if v_2.1 = (nI 43) then some (5, ()) else (if v_2.1 = (nI 45) then some (6, ()) else (if v_2.1 = (nI 97) then some (3, ()) else (if v_2.1 = (nI 98) then some (3, ()) else (if v_2.1 = (nI 116) then some (7, ()) else (if v_2.1 = (nI 126) then some (4, ()) else some (8, ())))))))))
def m_L_allows (x0 : Int32) (x1 : Int32) : Option (Int32 × Unit) := (if x0 = (nI 99) then (if x1 < (nI 48) then some ((nI 0), ()) else (if (nI 51) < x1 then some ((nI 0), ()) else some ((nI 1), ()))) else (if x0 = (nI 102) then (if x1 = (nI 97) then some ((nI 1), ()) else (if x1 = (nI 98) then some ((nI 1), ()) else some ((nI 0), ()))) else (if x0 = (nI 114) then (if x1 = (nI 97) then some ((nI 1), ()) else (if x1 = (nI 98) then some ((nI 1), ()) else (if x1 = (nI 116) then some ((nI 1), ()) else some ((nI 0), ())))) else (if x0 = (nI 118) then (if x1 = (nI 88) then some ((nI 1), ()) else (if x1 = (nI 89) then some ((nI 1), ()) else (if x1 = (nI 90) then some ((nI 1), ()) else some ((nI 0), ())))) else (if x1 = x0 then some ((nI 1), ()) else some ((nI 0), ()))))))
def m_L_begunStatement_7 (v_length : Int32) (v_typed : Nat → Int32) : Nat → Nat → Int32 → Option (Int32 × Unit)
  | 0, _, _ => none
  | n + 1, z1, z2 => (if v_length ≤ z2 then some (z2, ()) else (if inN z1 = true then (Option.bind (m_S_length z1) (fun v_17 => (if v_17.1 ≤ z2 then some (z2, ()) else (if inN z1 = true then (Option.bind (m_S_charAt z1 z2) (fun v_25 => (if inR z2 32 = true then (Option.bind (m_L_allows v_25.1 (v_typed z2.toNatClampNeg)) (fun v_34 => (if v_34.1 = (nI 0) then some (z2, ()) else m_L_begunStatement_7 v_length v_typed n z1 (z2 + (nI 1))))) else none))) else none)))) else none))
def m_L_begunStatement (v_length : Int32) (v_typed : Nat → Int32) : Option (Int32 × Unit) := (Option.bind (m_L_form v_length v_typed) (fun v_1 => m_L_begunStatement_7 v_length v_typed 40 v_1.1 (nI 0)))
def m_L_typedPair (v_length : Int32) (v_typed : Nat → Int32) : Option (Int32 × Unit) := (Option.bind (m_L_at v_length v_typed (v_length - (nI 4))) (fun v_7 => (Option.bind (m_L_at v_length v_typed (v_length - (nI 2))) (fun v_20 => (Option.bind (m_H_pairBit (v_7.1 - (nI 48)) (v_20.1 - (nI 48))) (fun v_26 => some (v_26.1, ())))))))
def m_L_typedLiterals (v_length : Int32) : Option (Int32 × Unit) := some (((v_length + (nI 1)) - (nI 8)) / (nI 7), ())
def m_L_endsStatement (v_length : Int32) (v_typed : Nat → Int32) (x1 : Int32) : Option (Int32 × Unit) := (if x1 = (nI 0) then some ((nI 0), ()) else (if v_length ≤ x1 then (if inR (nI 0) 32 = true then (if (v_typed (nI 0).toNatClampNeg) = (nI 116) then (Option.bind (m_L_typedLiterals v_length) (fun v_34 => (if v_length = ((nI 7) + ((nI 7) * v_34.1)) then (Option.bind (m_L_typedLiterals v_length) (fun v_43 => (if v_43.1 ≤ (nI 0) then some ((nI 0), ()) else some ((nI 1), ())))) else some ((nI 0), ())))) else (Option.bind (m_L_form v_length v_typed) (fun v_60 => (if inN v_60.1 = true then (Option.bind (m_S_length v_60.1) (fun v_63 => (if v_length = v_63.1 then some ((nI 1), ()) else some ((nI 0), ())))) else none)))) else none) else some ((nI 0), ())))
def m_L_typedBody_5 (v_length : Int32) (v_typed : Nat → Int32) : Nat → Int32 → Int32 → Option (Int32 × Unit)
  | 0, _, _ => none
  | n + 1, z1, z2 => (if v_length ≤ z2 then some (z1, ()) else (Option.bind (m_L_at v_length v_typed z2) (fun v_17 => (if inN 0 = true then (Option.bind (m_S_indexOf1 0 v_17.1) (fun v_20 => (Option.bind (m_L_at v_length v_typed (z2 + (nI 2))) (fun v_30 => (if inN 1 = true then (Option.bind (m_S_indexOf1 1 v_30.1) (fun v_33 => (Option.bind (m_L_at v_length v_typed (z2 + (nI 4))) (fun v_44 => (if inN 1 = true then (Option.bind (m_S_indexOf1 1 v_44.1) (fun v_47 => (Option.bind (m_H_codeOf v_20.1 v_33.1 v_47.1) (fun v_59 => m_L_typedBody_5 v_length v_typed n (z1 ||| ((nI 1) <<< (v_59.1 &&& 31))) (z2 + (nI 7)))))) else none))))) else none))))) else none))))
def m_L_typedBody (v_length : Int32) (v_typed : Nat → Int32) : Option (Int32 × Unit) := m_L_typedBody_5 v_length v_typed 40 (nI 0) (nI 8)
def m_P_bodyOf (v_count : Int32) (v_bodies : Nat → Int32) (x1 : Int32) : Option (Int32 × Unit) := (if x1 < (nI 0) then some ((nI 0), ()) else (if v_count ≤ x1 then some ((nI 0), ()) else (if inR x1 2 = true then some (v_bodies x1.toNatClampNeg, ()) else none)))
def m_P_contains (v_count : Int32) (v_bodies : Nat → Int32) (x1 : Int32) : Option (Int32 × Unit) := (Option.bind (m_P_bodyOf v_count v_bodies (nI 0)) (fun v_2 => (if v_2.1 = x1 then some ((nI 1), ()) else (Option.bind (m_P_bodyOf v_count v_bodies (nI 1)) (fun v_11 => (if v_11.1 = x1 then some ((nI 1), ()) else some ((nI 0), ())))))))
def m_P_append (v_count : Int32) (v_bodies : Nat → Int32) (x1 : Int32) : Option (Int32 × Int32 × (Nat → Int32)) := (if v_count < (nI 2) then (if inR v_count 2 = true then some ((v_count + (nI 1)) - (nI 1), (v_count + (nI 1), upd v_bodies v_count.toNatClampNeg x1)) else none) else some ((-1 : Int32), (v_count, v_bodies)))
def m_P_remove_26 (v_count : Int32) (v_bodies : Nat → Int32) : Option (Int32 × Int32 × (Nat → Int32)) := (if inR (nI 1) 2 = true then some ((nI 1), (v_count - (nI 1), upd v_bodies (nI 1).toNatClampNeg (nI 0))) else none)
def m_P_remove (v_count : Int32) (v_bodies : Nat → Int32) (x1 : Int32) : Option (Int32 × Int32 × (Nat → Int32)) := (Option.bind (m_P_bodyOf v_count v_bodies x1) (fun v_2 => (if v_2.1 = (nI 0) then some ((nI 0), (v_count, v_bodies)) else (if x1 = (nI 0) then (if inR (nI 1) 2 = true then (if inR (nI 0) 2 = true then m_P_remove_26 v_count (upd v_bodies (nI 0).toNatClampNeg (v_bodies (nI 1).toNatClampNeg)) else none) else none) else m_P_remove_26 v_count v_bodies))))
def m_P_become_42 (v_count : Int32) (v_bodies : Nat → Int32) (y0 : Int32) (y1 : Int32) : Option (Int32 × (Nat → Int32)) := (if inR y1 2 = true then some (v_count, upd v_bodies y1.toNatClampNeg y0) else none)
def m_P_become_27 (v_count : Int32) (v_bodies : Nat → Int32) (z1 : Int32) (z2 : Int32) (y0 : Int32) (y1 : Int32) : Option (Int32 × (Nat → Int32)) := (if inR y1 2 = true then (if z1 = (nI 0) then m_P_become_42 v_count (upd v_bodies y1.toNatClampNeg y0) (nI 0) (nI 1) else m_P_become_42 v_count (upd v_bodies y1.toNatClampNeg y0) z2 (nI 1)) else none)
def m_P_become_10 (v_count : Int32) (v_bodies : Nat → Int32) (z1 : Int32) (z2 : Int32) (y0 : Int32) : Option (Int32 × (Nat → Int32)) := (if z1 = (nI 0) then m_P_become_27 y0 v_bodies z1 z2 z2 (nI 0) else m_P_become_27 y0 v_bodies z1 z2 z1 (nI 0))
def m_P_become (v_count : Int32) (v_bodies : Nat → Int32) (x1 : Int32) (x2 : Int32) : Option (Int32 × (Nat → Int32)) := (if x1 = (nI 0) then m_P_become_10 v_count v_bodies x1 x2 (nI 1) else m_P_become_10 v_count v_bodies x1 x2 (nI 2))
def m_P_textLength (x0 : Int32) : Option (Int32 × Unit) := (Option.bind (m_I_bitCount x0) (fun v_5 => some (((nI 8) + ((nI 7) * v_5.1)) - (nI 1), ())))
def m_P_letterOf (x0 : Int32) (x1 : Int32) : Option (Int32 × Unit) := (if (nI 8) ≤ x1 then (Option.bind (m_H_codeAt x0 ((x1 - (nI 8)) / (nI 7))) (fun v_21 => (if (nI 0) ≤ v_21.1 then (letN (irm (x1 - (nI 8)) (nI 7)) (fun w_38 => (if w_38 = (nI 0) then (Option.bind (m_H_relationOf v_21.1) (fun v_79 => (if inN 0 = true then (Option.bind (m_S_charAt 0 v_79.1) (fun v_82 => some (v_82.1, ()))) else none))) else (if w_38 = (nI 1) then some ((nI 40), ()) else (if w_38 = (nI 2) then (Option.bind (m_H_firstVariableOf v_21.1) (fun v_92 => (if inN 1 = true then (Option.bind (m_S_charAt 1 v_92.1) (fun v_95 => some (v_95.1, ()))) else none))) else (if w_38 = (nI 3) then some ((nI 44), ()) else (if w_38 = (nI 4) then (Option.bind (m_H_secondVariableOf v_21.1) (fun v_102 => (if inN 1 = true then (Option.bind (m_S_charAt 1 v_102.1) (fun v_105 => some (v_105.1, ()))) else none))) else (if w_38 = (nI 5) then some ((nI 41), ()) else some ((nI 44), ()))))))))) else some ((-1 : Int32), ())))) else (if inN 2 = true then (Option.bind (m_S_charAt 2 x1) (fun v_9 => some (v_9.1, ()))) else none))
def m_P_letterAt_63 (v_count : Int32) (v_bodies : Nat → Int32) (k_4 : Int32 → Int32 → Option (Int32 × Unit)) (z2 : Int32) (z3 : Int32) (z4 : Int32) : Option (Int32 × Unit) := k_4 (z2 - (z4 + (nI 1))) (z3 + (nI 1))
def m_P_letterAt_4 (v_count : Int32) (v_bodies : Nat → Int32) : Nat → Int32 → Int32 → Option (Int32 × Unit)
  | 0, _, _ => none
  | n + 1, z2, z3 => (if v_count ≤ z3 then some ((-1 : Int32), ()) else (if z2 < (nI 0) then some ((-1 : Int32), ()) else (if inR z3 2 = true then (Option.bind (m_P_textLength (v_bodies z3.toNatClampNeg)) (fun v_22 => (if v_22.1 ≤ z2 then (if z2 = v_22.1 then (if v_count ≤ (z3 + (nI 1)) then m_P_letterAt_63 v_count v_bodies (m_P_letterAt_4 v_count v_bodies n) z2 z3 v_22.1 else some ((nI 59), ())) else m_P_letterAt_63 v_count v_bodies (m_P_letterAt_4 v_count v_bodies n) z2 z3 v_22.1) else (if inR z3 2 = true then (Option.bind (m_P_letterOf (v_bodies z3.toNatClampNeg) z2) (fun v_40 => some (v_40.1, ()))) else none)))) else none)))
def m_P_letterAt (v_count : Int32) (v_bodies : Nat → Int32) (x1 : Int32) : Option (Int32 × Unit) := m_P_letterAt_4 v_count v_bodies 40 x1 (nI 0)
def m_D_choicesWhere_56 (k_5 : Int32 → Int32 → Int32 → Int64 → Int32 → Option (Int64 × Unit)) (z0 : Int32) (z1 : Int32) (z2 : Int32) (z3 : Int64) (z5 : Int32) : Option (Int64 × Unit) := k_5 z0 z1 z2 z3 (z5 + (nI 1))
def m_D_choicesWhere_5 : Nat → Int32 → Int32 → Int32 → Int64 → Int32 → Option (Int64 × Unit)
  | 0, _, _, _, _, _ => none
  | n + 1, z0, z1, z2, z3, z5 => (if (nI 16) ≤ z5 then some (z3, ()) else (if (z0 >>> (z5 &&& 31)) = (nI 0) then some (z3, ()) else (if ((z0 >>> (z5 &&& 31)) &&& (nI 1)) = (nI 0) then m_D_choicesWhere_56 (m_D_choicesWhere_5 n) z0 z1 z2 z3 z5 else (if inR (((nI 4) * z1) + (z5 / (nI 4))) 12 = true then (if inR (((nI 4) * z2) + (irm z5 (nI 4))) 12 = true then (letN (z3 ||| ((tabL (((nI 4) * z1) + (z5 / (nI 4))).toNatClampNeg) &&& (tabL (((nI 4) * z2) + (irm z5 (nI 4))).toNatClampNeg))) (fun w_55 => m_D_choicesWhere_56 (m_D_choicesWhere_5 n) z0 z1 z2 w_55 z5)) else none) else none))))
def m_D_choicesWhere (x0 : Int32) (x1 : Int32) (x2 : Int32) : Option (Int64 × Unit) := m_D_choicesWhere_5 40 x0 x1 x2 (0 : Int64) (nI 0)
def m_D_pairsFrom_84 (v_givenPairs : Int32) (v_factChoices : Nat → Int64) (z2 : Int64) : Option (Int32 × Unit) := some (((((z2 ||| (lush z2 (nI 16))) ||| (lush z2 (nI 32))) ||| (lush z2 (nI 48))).toInt32) &&& (nI 65535), ())
def m_D_pairsFrom_69 (v_givenPairs : Int32) (v_factChoices : Nat → Int64) (k_16 : Int64 → Int32 → Int32 → Option (Int32 × Unit)) (z4 : Int32) (z5 : Int32) (y0 : Int64) (y1 : Int64) : Option (Int32 × Unit) := (Option.bind (m_H_withoutLeastCode z4) (fun v_73 => k_16 (y1 &&& y0) v_73.1 (z5 + (nI 1))))
def m_D_pairsFrom_16 (v_givenPairs : Int32) (v_factChoices : Nat → Int64) : Nat → Int64 → Int32 → Int32 → Option (Int32 × Unit)
  | 0, _, _, _ => none
  | n + 1, z2, z4, z5 => (if (nI 3) ≤ z5 then m_D_pairsFrom_84 v_givenPairs v_factChoices z2 else (if z4 = (nI 0) then m_D_pairsFrom_84 v_givenPairs v_factChoices z2 else (Option.bind (m_H_leastCode z4) (fun v_29 => (if (nI 18) ≤ v_29.1 then (Option.bind (m_H_firstVariableOf v_29.1) (fun v_58 => (Option.bind (m_H_secondVariableOf v_29.1) (fun v_63 => (Option.bind (m_D_choicesWhere v_givenPairs v_58.1 v_63.1) (fun v_66 => m_D_pairsFrom_69 v_givenPairs v_factChoices (m_D_pairsFrom_16 v_givenPairs v_factChoices n) z4 z5 v_66.1 z2)))))) else (if inR v_29.1 18 = true then m_D_pairsFrom_69 v_givenPairs v_factChoices (m_D_pairsFrom_16 v_givenPairs v_factChoices n) z4 z5 (v_factChoices v_29.1.toNatClampNeg) z2 else none))))))
def m_D_pairsFrom (v_givenPairs : Int32) (v_factChoices : Nat → Int64) (x1 : Int32) : Option (Int32 × Unit) := (if x1 = (nI 0) then some ((nI 0), ()) else m_D_pairsFrom_16 v_givenPairs v_factChoices 40 (-1 : Int64) x1 (nI 0))
def m_D_roundOf_2 (v_roundCount : Int32) (v_givenInRound : Nat → Int32) : Nat → Int32 → Int32 → Option (Int32 × Unit)
  | 0, _, _ => none
  | n + 1, z1, z2 => (if v_roundCount < z2 then some ((nI 0), ()) else (if inR z2 17 = true then (if ((v_givenInRound z2.toNatClampNeg) &&& z1) = (nI 0) then m_D_roundOf_2 v_roundCount v_givenInRound n z1 (z2 + (nI 1)) else some (z2, ())) else none))
def m_D_roundOf (v_roundCount : Int32) (v_givenInRound : Nat → Int32) (x1 : Int32) : Option (Int32 × Unit) := m_D_roundOf_2 v_roundCount v_givenInRound 40 x1 (nI 1)
def m_D_run_12 (v_factChoices : Nat → Int64) : Nat → Int32 → Int32 → (Nat → Int32) → Int32 → Int32 → Int32 → Option (Int32 × Int32 × (Nat → Int32))
  | 0, _, _, _, _, _, _ => none
  | n + 1, v_givenPairs, v_roundCount, v_givenInRound, z1, z2, z3 => (if (nI 16) < z3 then some (v_givenPairs, v_roundCount, v_givenInRound) else (Option.bind (m_D_pairsFrom v_givenPairs v_factChoices z1) (fun v_20 => (Option.bind (m_D_pairsFrom v_givenPairs v_factChoices z2) (fun v_25 => (if ((v_20.1 ||| v_25.1) &&& (v_givenPairs ^^^ (-1 : Int32))) = (nI 0) then some (v_givenPairs, v_roundCount, v_givenInRound) else (if inR z3 17 = true then m_D_run_12 v_factChoices n (v_givenPairs ||| ((v_20.1 ||| v_25.1) &&& (v_givenPairs ^^^ (-1 : Int32)))) z3 (upd v_givenInRound z3.toNatClampNeg ((v_20.1 ||| v_25.1) &&& (v_givenPairs ^^^ (-1 : Int32)))) z1 z2 (z3 + (nI 1)) else none)))))))
def m_D_run (v_givenPairs : Int32) (v_roundCount : Int32) (v_factChoices : Nat → Int64) (v_givenInRound : Nat → Int32) (x1 : Int32) (x2 : Int32) : Option (Int32 × Int32 × (Nat → Int32)) := m_D_run_12 v_factChoices 40 (nI 0) (nI 0) v_givenInRound x1 x2 (nI 1)
def m_D_takeFacts_20 (k_2 : (Nat → Int64) → Int32 → Int32 → Int32 → Option ((Nat → Int64))) (v_factChoices : Nat → Int64) (z1 : Int32) (z2 : Int32) (z3 : Int32) (y0 : Int32) : Option ((Nat → Int64)) := (Option.bind (m_H_firstVariableOf z3) (fun v_30 => (Option.bind (m_H_secondVariableOf z3) (fun v_34 => (Option.bind (m_D_choicesWhere y0 v_30.1 v_34.1) (fun v_37 => (if inR z3 18 = true then k_2 (vp_updL v_factChoices z3.toNatClampNeg v_37.1) z1 z2 (z3 + (nI 1)) else none)))))))
def m_D_takeFacts_2 : Nat → (Nat → Int64) → Int32 → Int32 → Int32 → Option ((Nat → Int64))
  | 0, _, _, _, _ => none
  | n + 1, v_factChoices, z1, z2, z3 => (if (nI 18) ≤ z3 then some v_factChoices else (Option.bind (m_H_relationOf z3) (fun v_9 => (if v_9.1 = (nI 0) then m_D_takeFacts_20 (m_D_takeFacts_2 n) v_factChoices z1 z2 z3 z1 else m_D_takeFacts_20 (m_D_takeFacts_2 n) v_factChoices z1 z2 z3 z2))))
def m_D_takeFacts (v_factChoices : Nat → Int64) (x1 : Int32) (x2 : Int32) : Option ((Nat → Int64)) := m_D_takeFacts_2 40 v_factChoices x1 x2 (nI 0)
def m_H_key (v_line_length : Int32) (v_line_typed : Nat → Int32) (x1 : Int32) : Option (Int32 × Int32 × (Nat → Int32)) := (Option.bind (m_L_add v_line_length v_line_typed x1) (fun v_5 => (if isZ v_5.1 = true then some (v_5.1, (v_5.2.1, v_5.2.2)) else none)))
def m_H_back (v_line_length : Int32) : Option (Int32 × Int32) := (Option.bind (m_L_removeLast v_line_length) (fun v_4 => (if isZ v_4.1 = true then some (v_4.1, v_4.2) else none)))
def m_H_facts (v_factSets : Nat → Int32) (x1 : Int32) : Option (Int32 × Unit) := (Option.bind (m_H_isFactRelation x1) (fun v_1 => (if v_1.1 = (nI 0) then some ((-1 : Int32), ()) else (if inR x1 2 = true then (Option.bind (m_I_bitCount (v_factSets x1.toNatClampNeg)) (fun v_13 => some (v_13.1, ()))) else none))))
def m_H_holds (v_factSets : Nat → Int32) (x1 : Int32) (x2 : Int32) (x3 : Int32) : Option (Int32 × Unit) := (Option.bind (m_H_isFactRelation x1) (fun v_1 => (if v_1.1 = (nI 0) then some ((nI 0), ()) else (if inR x1 2 = true then (Option.bind (m_H_pairBit x2 x3) (fun v_15 => (if ((v_factSets x1.toNatClampNeg) &&& v_15.1) = (nI 0) then some ((nI 0), ()) else some ((nI 1), ())))) else none))))
def m_H_mark (v_markedPlus : Int32) (v_markedMinus : Int32) (x1 : Int32) (x2 : Int32) : Option (Int32 × Unit) := (Option.bind (m_H_pairBit x1 x2) (fun v_2 => (if (v_markedPlus &&& v_2.1) = (nI 0) then (if (v_markedMinus &&& v_2.1) = (nI 0) then some ((nI 0), ()) else some ((-1 : Int32), ())) else some ((nI 1), ()))))
def m_H_drop (v_program_count : Int32) (v_program_bodies : Nat → Int32) (x1 : Int32) : Option (Int32 × Int32 × (Nat → Int32)) := (Option.bind (m_P_remove v_program_count v_program_bodies x1) (fun v_5 => (if isZ v_5.1 = true then some (v_5.1, (v_5.2.1, v_5.2.2)) else none)))
def m_H_clauses (v_program_count : Int32) : Option (Int32 × Unit) := some (v_program_count, ())
def m_H_literals (v_program_count : Int32) (v_program_bodies : Nat → Int32) (x1 : Int32) : Option (Int32 × Unit) := (Option.bind (m_P_bodyOf v_program_count v_program_bodies x1) (fun v_5 => (if v_5.1 = (nI 0) then some ((-1 : Int32), ()) else (Option.bind (m_I_bitCount v_5.1) (fun v_18 => some (v_18.1, ()))))))
def m_H_literal (v_program_count : Int32) (v_program_bodies : Nat → Int32) (x1 : Int32) (x2 : Int32) : Option (Int32 × Unit) := (Option.bind (m_P_bodyOf v_program_count v_program_bodies x1) (fun v_5 => (Option.bind (m_H_codeAt v_5.1 x2) (fun v_9 => some (v_9.1, ())))))
def m_H_letter (v_program_count : Int32) (v_program_bodies : Nat → Int32) (x1 : Int32) : Option (Int32 × Unit) := (Option.bind (m_P_letterAt v_program_count v_program_bodies x1) (fun v_5 => some (v_5.1, ())))
def m_H_subsumes_33 (v_program_count : Int32) (v_program_bodies : Nat → Int32) : Nat → Int32 → Int32 → Int32 → Option (Int32 × Unit)
  | 0, _, _, _ => none
  | n + 1, z3, z4, z5 => (if (nI 3) ≤ z5 then some ((nI 0), ()) else (Option.bind (m_H_withVariableForZ z3 z5) (fun v_42 => (if (v_42.1 &&& (z4 ^^^ (-1 : Int32))) = (nI 0) then some ((nI 1), ()) else m_H_subsumes_33 v_program_count v_program_bodies n z3 z4 (z5 + (nI 1))))))
def m_H_subsumes (v_program_count : Int32) (v_program_bodies : Nat → Int32) (x1 : Int32) (x2 : Int32) : Option (Int32 × Unit) := (Option.bind (m_P_bodyOf v_program_count v_program_bodies x1) (fun v_5 => (Option.bind (m_P_bodyOf v_program_count v_program_bodies x2) (fun v_14 => (if v_5.1 = (nI 0) then some ((nI 0), ()) else (if v_14.1 = (nI 0) then some ((nI 0), ()) else m_H_subsumes_33 v_program_count v_program_bodies 40 v_5.1 v_14.1 (nI 0)))))))
def m_H_deduceProgram (v_factSets : Nat → Int32) (v_program_count : Int32) (v_program_bodies : Nat → Int32) (v_deduction_givenPairs : Int32) (v_deduction_roundCount : Int32) (v_deduction_factChoices : Nat → Int64) (v_deduction_givenInRound : Nat → Int32) : Option (Int32 × Int32 × (Nat → Int64) × (Nat → Int32)) := (if inR (nI 0) 2 = true then (if inR (nI 1) 2 = true then (Option.bind (m_D_takeFacts v_deduction_factChoices (v_factSets (nI 0).toNatClampNeg) (v_factSets (nI 1).toNatClampNeg)) (fun v_16 => (Option.bind (m_P_bodyOf v_program_count v_program_bodies (nI 0)) (fun v_28 => (Option.bind (m_P_bodyOf v_program_count v_program_bodies (nI 1)) (fun v_36 => (Option.bind (m_D_run v_deduction_givenPairs v_deduction_roundCount v_16 v_deduction_givenInRound v_28.1 v_36.1) (fun v_39 => some (v_39.1, v_39.2.1, v_16, v_39.2.2))))))))) else none) else none)
def m_H_deductionFits (v_markedPlus : Int32) (v_markedMinus : Int32) (v_deduction_givenPairs : Int32) : Option (Int32 × Unit) := (if (v_markedPlus &&& (v_deduction_givenPairs ^^^ (-1 : Int32))) = (nI 0) then (if (v_markedMinus &&& v_deduction_givenPairs) = (nI 0) then some ((nI 1), ()) else some ((nI 0), ())) else some ((nI 0), ()))
def m_H_given (v_factSets : Nat → Int32) (v_program_count : Int32) (v_program_bodies : Nat → Int32) (v_deduction_givenPairs : Int32) (v_deduction_roundCount : Int32) (v_deduction_factChoices : Nat → Int64) (v_deduction_givenInRound : Nat → Int32) (x1 : Int32) (x2 : Int32) : Option (Int32 × Int32 × Int32 × (Nat → Int64) × (Nat → Int32)) := (Option.bind (m_H_deduceProgram v_factSets v_program_count v_program_bodies v_deduction_givenPairs v_deduction_roundCount v_deduction_factChoices v_deduction_givenInRound) (fun v_1 => (Option.bind (m_H_pairBit x1 x2) (fun v_10 => (Option.bind (m_D_roundOf v_1.2.1 v_1.2.2.2 v_10.1) (fun v_13 => some (v_13.1, (v_1.1, v_1.2.1, v_1.2.2.1, v_1.2.2.2))))))))
def m_H_rounds (v_factSets : Nat → Int32) (v_program_count : Int32) (v_program_bodies : Nat → Int32) (v_deduction_givenPairs : Int32) (v_deduction_roundCount : Int32) (v_deduction_factChoices : Nat → Int64) (v_deduction_givenInRound : Nat → Int32) : Option (Int32 × Int32 × Int32 × (Nat → Int64) × (Nat → Int32)) := (Option.bind (m_H_deduceProgram v_factSets v_program_count v_program_bodies v_deduction_givenPairs v_deduction_roundCount v_deduction_factChoices v_deduction_givenInRound) (fun v_1 => some (v_1.2.1, (v_1.1, v_1.2.1, v_1.2.2.1, v_1.2.2.2))))
def m_H_fits (v_markedPlus : Int32) (v_markedMinus : Int32) (v_factSets : Nat → Int32) (v_program_count : Int32) (v_program_bodies : Nat → Int32) (v_deduction_givenPairs : Int32) (v_deduction_roundCount : Int32) (v_deduction_factChoices : Nat → Int64) (v_deduction_givenInRound : Nat → Int32) : Option (Int32 × Int32 × Int32 × (Nat → Int64) × (Nat → Int32)) := (Option.bind (m_H_deduceProgram v_factSets v_program_count v_program_bodies v_deduction_givenPairs v_deduction_roundCount v_deduction_factChoices v_deduction_givenInRound) (fun v_1 => (Option.bind (m_H_deductionFits v_markedPlus v_markedMinus v_1.1) (fun v_5 => (if isZ v_5.1 = true then some (v_5.1, (v_1.1, v_1.2.1, v_1.2.2.1, v_1.2.2.2)) else none)))))
def m_H_changeFacts_39 (v_factSets : Nat → Int32) (z1 : Int32) (z4 : Int32) (y0 : Int32) (y1 : Int32) : Option (Int32 × (Nat → Int32)) := (if inR y1 2 = true then (if inR z1 2 = true then (if ((upd v_factSets y1.toNatClampNeg y0) z1.toNatClampNeg) = z4 then some ((nI 0), upd v_factSets y1.toNatClampNeg y0) else some ((nI 1), upd v_factSets y1.toNatClampNeg y0)) else none) else none)
def m_H_changeFacts (v_factSets : Nat → Int32) (x1 : Int32) (x2 : Int32) (x3 : Int32) : Option (Int32 × (Nat → Int32)) := (Option.bind (m_H_isFactRelation x1) (fun v_1 => (if v_1.1 = (nI 0) then some ((nI 0), v_factSets) else (if inR x1 2 = true then (if x3 = (nI 0) then m_H_changeFacts_39 v_factSets x1 (v_factSets x1.toNatClampNeg) ((v_factSets x1.toNatClampNeg) &&& (x2 ^^^ (-1 : Int32))) x1 else m_H_changeFacts_39 v_factSets x1 (v_factSets x1.toNatClampNeg) ((v_factSets x1.toNatClampNeg) ||| x2) x1) else none))))
def m_H_changeMarks_21 (v_markedPlus : Int32) (v_markedMinus : Int32) (z1 : Int32) (z2 : Int32) (y0 : Int32) : Option (Int32 × Int32 × Int32) := (if y0 = (nI 0) then some ((nI 1), (z1, z2)) else some ((nI 0), (z1, z2)))
def m_H_changeMarks_20 (v_markedPlus : Int32) (v_markedMinus : Int32) (z1 : Int32) (z2 : Int32) : Option (Int32 × Int32 × Int32) := m_H_changeMarks_21 v_markedPlus v_markedMinus z1 z2 (nI 0)
def m_H_changeMarks (v_markedPlus : Int32) (v_markedMinus : Int32) (x1 : Int32) (x2 : Int32) : Option (Int32 × Int32 × Int32) := (if x1 = v_markedPlus then (if x2 = v_markedMinus then m_H_changeMarks_21 v_markedPlus v_markedMinus x1 x2 (nI 1) else m_H_changeMarks_20 v_markedPlus v_markedMinus x1 x2) else m_H_changeMarks_20 v_markedPlus v_markedMinus x1 x2)
def m_H_addClause (v_program_count : Int32) (v_program_bodies : Nat → Int32) (x1 : Int32) (x2 : Int32) : Option (Int32 × Int32 × (Nat → Int32)) := (Option.bind (m_I_bitCount x1) (fun v_1 => (if x2 ≤ v_1.1 then (Option.bind (m_H_hasHeadVariables x1) (fun v_12 => (if v_12.1 = (nI 0) then some ((-101 : Int32), (v_program_count, v_program_bodies)) else (Option.bind (m_P_contains v_program_count v_program_bodies x1) (fun v_26 => (if v_26.1 = (nI 0) then (if v_program_count < (nI 2) then (Option.bind (m_P_append v_program_count v_program_bodies x1) (fun v_56 => some ((nI 10) + v_56.1, (v_56.2.1, v_56.2.2)))) else some ((-103 : Int32), (v_program_count, v_program_bodies))) else some ((-102 : Int32), (v_program_count, v_program_bodies)))))))) else some ((-100 : Int32), (v_program_count, v_program_bodies)))))
def m_H_carryOutLine (v_markedPlus : Int32) (v_markedMinus : Int32) (v_line_length : Int32) (v_line_typed : Nat → Int32) (v_factSets : Nat → Int32) (v_program_count : Int32) (v_program_bodies : Nat → Int32) : Option (Int32 × Int32 × Int32 × (Nat → Int32) × Int32 × (Nat → Int32)) := (Option.bind (m_L_at v_line_length v_line_typed (nI 0)) (fun v_5 => (if v_5.1 = (nI 116) then (Option.bind (m_L_typedBody v_line_length v_line_typed) (fun v_20 => (Option.bind (m_L_typedLiterals v_line_length) (fun v_27 => (Option.bind (m_H_addClause v_program_count v_program_bodies v_20.1 v_27.1) (fun v_30 => some (v_30.1, (v_markedPlus, v_markedMinus, v_factSets, v_30.2.1, v_30.2.2)))))))) else (Option.bind (m_L_typedPair v_line_length v_line_typed) (fun v_38 => (if v_5.1 = (nI 43) then (Option.bind (m_H_changeMarks v_markedPlus v_markedMinus (v_markedPlus ||| v_38.1) (v_markedMinus &&& (v_38.1 ^^^ (-1 : Int32)))) (fun v_63 => some (v_63.1, (v_63.2.1, v_63.2.2, v_factSets, v_program_count, v_program_bodies)))) else (if v_5.1 = (nI 45) then (Option.bind (m_H_changeMarks v_markedPlus v_markedMinus (v_markedPlus &&& (v_38.1 ^^^ (-1 : Int32))) (v_markedMinus ||| v_38.1)) (fun v_88 => some (v_88.1, (v_88.2.1, v_88.2.2, v_factSets, v_program_count, v_program_bodies)))) else (if v_5.1 = (nI 126) then (Option.bind (m_L_at v_line_length v_line_typed (nI 1)) (fun v_118 => (if inN 0 = true then (Option.bind (m_S_indexOf1 0 v_118.1) (fun v_121 => (if v_121.1 = (nI 2) then (Option.bind (m_H_changeMarks v_markedPlus v_markedMinus (v_markedPlus &&& (v_38.1 ^^^ (-1 : Int32))) (v_markedMinus &&& (v_38.1 ^^^ (-1 : Int32)))) (fun v_147 => some (v_147.1, (v_147.2.1, v_147.2.2, v_factSets, v_program_count, v_program_bodies)))) else (Option.bind (m_H_changeFacts v_factSets v_121.1 v_38.1 (nI 0)) (fun v_155 => some (v_155.1, (v_markedPlus, v_markedMinus, v_155.2, v_program_count, v_program_bodies))))))) else none))) else (if inN 0 = true then (Option.bind (m_S_indexOf1 0 v_5.1) (fun v_102 => (Option.bind (m_H_changeFacts v_factSets v_102.1 v_38.1 (nI 1)) (fun v_107 => some (v_107.1, (v_markedPlus, v_markedMinus, v_107.2, v_program_count, v_program_bodies)))))) else none)))))))))
def m_H_enter_29 (v_line_typed : Nat → Int32) (v_markedPlus : Int32) (v_markedMinus : Int32) (v_line_length : Int32) (v_factSets : Nat → Int32) (v_program_count : Int32) (v_program_bodies : Nat → Int32) (y0 : Int32) : Option (Int32 × Int32 × Int32 × Int32 × (Nat → Int32) × Int32 × (Nat → Int32)) := (Option.bind (m_L_clear v_line_length) (fun v_34 => some (y0, (v_markedPlus, v_markedMinus, v_34, v_factSets, v_program_count, v_program_bodies))))
def m_H_enter (v_markedPlus : Int32) (v_markedMinus : Int32) (v_line_length : Int32) (v_line_typed : Nat → Int32) (v_factSets : Nat → Int32) (v_program_count : Int32) (v_program_bodies : Nat → Int32) : Option (Int32 × Int32 × Int32 × Int32 × (Nat → Int32) × Int32 × (Nat → Int32)) := (Option.bind (m_L_begunStatement v_line_length v_line_typed) (fun v_4 => (Option.bind (m_L_endsStatement v_line_length v_line_typed v_4.1) (fun v_13 => (if v_13.1 = (nI 0) then m_H_enter_29 v_line_typed v_markedPlus v_markedMinus v_line_length v_factSets v_program_count v_program_bodies ((-1 : Int32) - v_4.1) else (Option.bind (m_H_carryOutLine v_markedPlus v_markedMinus v_line_length v_line_typed v_factSets v_program_count v_program_bodies) (fun v_20 => m_H_enter_29 v_line_typed v_20.2.1 v_20.2.2.1 v_line_length v_20.2.2.2.1 v_20.2.2.2.2.1 v_20.2.2.2.2.2 v_20.1)))))))
def m_H_takeIfFitting (v_markedPlus : Int32) (v_markedMinus : Int32) (v_program_count : Int32) (v_program_bodies : Nat → Int32) (v_deduction_givenPairs : Int32) (v_deduction_roundCount : Int32) (v_deduction_factChoices : Nat → Int64) (v_deduction_givenInRound : Nat → Int32) (x1 : Int32) (x2 : Int32) : Option (Int32 × Int32 × (Nat → Int32) × Int32 × Int32 × (Nat → Int32)) := (Option.bind (m_H_hasHeadVariables x2) (fun v_1 => (if v_1.1 = (nI 0) then some ((nI 0), (v_program_count, v_program_bodies, v_deduction_givenPairs, v_deduction_roundCount, v_deduction_givenInRound)) else (Option.bind (m_D_run v_deduction_givenPairs v_deduction_roundCount v_deduction_factChoices v_deduction_givenInRound x1 x2) (fun v_15 => (Option.bind (m_H_deductionFits v_markedPlus v_markedMinus v_15.1) (fun v_19 => (if v_19.1 = (nI 0) then some ((nI 0), (v_program_count, v_program_bodies, v_15.1, v_15.2.1, v_15.2.2)) else (Option.bind (m_P_become v_program_count v_program_bodies x1 x2) (fun v_33 => some ((nI 1), (v_33.1, v_33.2, v_15.1, v_15.2.1, v_15.2.2))))))))))))
def m_H_learnBody_15 (v_markedPlus : Int32) (v_markedMinus : Int32) (v_deduction_factChoices : Nat → Int64) (self : Int32 → (Nat → Int32) → Int32 → Int32 → (Nat → Int32) → Int32 → Int32 → Int32 → Int32 → Option (Int32 × Int32 × (Nat → Int32) × Int32 × Int32 × (Nat → Int32))) : Nat → Int32 → (Nat → Int32) → Int32 → Int32 → (Nat → Int32) → Int32 → Int32 → Int32 → Int32 → Option (Int32 × Int32 × (Nat → Int32) × Int32 × Int32 × (Nat → Int32))
  | 0, _, _, _, _, _, _, _, _, _ => none
  | n + 1, v_program_count, v_program_bodies, v_deduction_givenPairs, v_deduction_roundCount, v_deduction_givenInRound, z1, z2, z4, z5 => (if (nI 27) ≤ z5 then some ((nI 0), (v_program_count, v_program_bodies, v_deduction_givenPairs, v_deduction_roundCount, v_deduction_givenInRound)) else (Option.bind (self v_program_count v_program_bodies v_deduction_givenPairs v_deduction_roundCount v_deduction_givenInRound z1 (z2 ||| ((nI 1) <<< (z5 &&& 31))) (z5 + (nI 1)) (z4 - (nI 1))) (fun v_38 => (if v_38.1 = (nI 0) then m_H_learnBody_15 v_markedPlus v_markedMinus v_deduction_factChoices self n v_38.2.1 v_38.2.2.1 v_38.2.2.2.1 v_38.2.2.2.2.1 v_38.2.2.2.2.2 z1 z2 z4 (z5 + (nI 1)) else some ((nI 1), (v_38.2.1, v_38.2.2.1, v_38.2.2.2.1, v_38.2.2.2.2.1, v_38.2.2.2.2.2))))))
def m_H_learnBody_b (v_markedPlus : Int32) (v_markedMinus : Int32) (v_deduction_factChoices : Nat → Int64) (self : Int32 → (Nat → Int32) → Int32 → Int32 → (Nat → Int32) → Int32 → Int32 → Int32 → Int32 → Option (Int32 × Int32 × (Nat → Int32) × Int32 × Int32 × (Nat → Int32))) (v_program_count : Int32) (v_program_bodies : Nat → Int32) (v_deduction_givenPairs : Int32) (v_deduction_roundCount : Int32) (v_deduction_givenInRound : Nat → Int32) (x1 : Int32) (x2 : Int32) (x3 : Int32) (x4 : Int32) : Option (Int32 × Int32 × (Nat → Int32) × Int32 × Int32 × (Nat → Int32)) := (if (nI 0) < x4 then m_H_learnBody_15 v_markedPlus v_markedMinus v_deduction_factChoices self 40 v_program_count v_program_bodies v_deduction_givenPairs v_deduction_roundCount v_deduction_givenInRound x1 x2 x4 x3 else (Option.bind (m_H_takeIfFitting v_markedPlus v_markedMinus v_program_count v_program_bodies v_deduction_givenPairs v_deduction_roundCount v_deduction_factChoices v_deduction_givenInRound x1 x2) (fun v_8 => (if isZ v_8.1 = true then some (v_8.1, (v_8.2.1, v_8.2.2.1, v_8.2.2.2.1, v_8.2.2.2.2.1, v_8.2.2.2.2.2)) else none))))
def m_H_learnBody (v_markedPlus : Int32) (v_markedMinus : Int32) (v_deduction_factChoices : Nat → Int64) : Nat → Int32 → (Nat → Int32) → Int32 → Int32 → (Nat → Int32) → Int32 → Int32 → Int32 → Int32 → Option (Int32 × Int32 × (Nat → Int32) × Int32 × Int32 × (Nat → Int32))
  | 0, _, _, _, _, _, _, _, _, _ => none
  | n + 1, v_program_count, v_program_bodies, v_deduction_givenPairs, v_deduction_roundCount, v_deduction_givenInRound, x1, x2, x3, x4 => m_H_learnBody_b v_markedPlus v_markedMinus v_deduction_factChoices (m_H_learnBody v_markedPlus v_markedMinus v_deduction_factChoices n) v_program_count v_program_bodies v_deduction_givenPairs v_deduction_roundCount v_deduction_givenInRound x1 x2 x3 x4
def m_H_learnTwoClauses_47 (v_markedPlus : Int32) (v_markedMinus : Int32) (v_deduction_factChoices : Nat → Int64) (k_2 : Int32 → (Nat → Int32) → Int32 → Int32 → (Nat → Int32) → Int32 → Int32 → Option (Int32 × Int32 × (Nat → Int32) × Int32 × Int32 × (Nat → Int32))) (v_program_count : Int32) (v_program_bodies : Nat → Int32) (v_deduction_givenPairs : Int32) (v_deduction_roundCount : Int32) (v_deduction_givenInRound : Nat → Int32) (z1 : Int32) (z2 : Int32) : Option (Int32 × Int32 × (Nat → Int32) × Int32 × Int32 × (Nat → Int32)) := k_2 v_program_count v_program_bodies v_deduction_givenPairs v_deduction_roundCount v_deduction_givenInRound z1 (z2 + (nI 1))
def m_H_learnTwoClauses_20 (v_markedPlus : Int32) (v_markedMinus : Int32) (v_deduction_factChoices : Nat → Int64) (k_2 : Int32 → (Nat → Int32) → Int32 → Int32 → (Nat → Int32) → Int32 → Int32 → Option (Int32 × Int32 × (Nat → Int32) × Int32 × Int32 × (Nat → Int32))) (v_program_count : Int32) (v_program_bodies : Nat → Int32) (v_deduction_givenPairs : Int32) (v_deduction_roundCount : Int32) (v_deduction_givenInRound : Nat → Int32) (z1 : Int32) (z2 : Int32) (y0 : Int32) : Option (Int32 × Int32 × (Nat → Int32) × Int32 × Int32 × (Nat → Int32)) := (Option.bind (m_H_hasHeadVariables ((nI 1) <<< (z2 &&& 31))) (fun v_24 => (if v_24.1 = (nI 0) then m_H_learnTwoClauses_47 v_markedPlus v_markedMinus v_deduction_factChoices k_2 v_program_count v_program_bodies v_deduction_givenPairs v_deduction_roundCount v_deduction_givenInRound z1 z2 else (Option.bind (m_H_learnBody v_markedPlus v_markedMinus v_deduction_factChoices 5 v_program_count v_program_bodies v_deduction_givenPairs v_deduction_roundCount v_deduction_givenInRound ((nI 1) <<< (z2 &&& 31)) (nI 0) y0 (z1 - (nI 1))) (fun v_39 => (if v_39.1 = (nI 0) then m_H_learnTwoClauses_47 v_markedPlus v_markedMinus v_deduction_factChoices k_2 v_39.2.1 v_39.2.2.1 v_39.2.2.2.1 v_39.2.2.2.2.1 v_39.2.2.2.2.2 z1 z2 else some ((nI 1), (v_39.2.1, v_39.2.2.1, v_39.2.2.2.1, v_39.2.2.2.2.1, v_39.2.2.2.2.2))))))))
def m_H_learnTwoClauses_2 (v_markedPlus : Int32) (v_markedMinus : Int32) (v_deduction_factChoices : Nat → Int64) : Nat → Int32 → (Nat → Int32) → Int32 → Int32 → (Nat → Int32) → Int32 → Int32 → Option (Int32 × Int32 × (Nat → Int32) × Int32 × Int32 × (Nat → Int32))
  | 0, _, _, _, _, _, _, _ => none
  | n + 1, v_program_count, v_program_bodies, v_deduction_givenPairs, v_deduction_roundCount, v_deduction_givenInRound, z1, z2 => (if (nI 27) ≤ z2 then some ((nI 0), (v_program_count, v_program_bodies, v_deduction_givenPairs, v_deduction_roundCount, v_deduction_givenInRound)) else (if z1 = (nI 2) then m_H_learnTwoClauses_20 v_markedPlus v_markedMinus v_deduction_factChoices (m_H_learnTwoClauses_2 v_markedPlus v_markedMinus v_deduction_factChoices n) v_program_count v_program_bodies v_deduction_givenPairs v_deduction_roundCount v_deduction_givenInRound z1 z2 (z2 + (nI 1)) else m_H_learnTwoClauses_20 v_markedPlus v_markedMinus v_deduction_factChoices (m_H_learnTwoClauses_2 v_markedPlus v_markedMinus v_deduction_factChoices n) v_program_count v_program_bodies v_deduction_givenPairs v_deduction_roundCount v_deduction_givenInRound z1 z2 (nI 0)))
def m_H_learnTwoClauses (v_markedPlus : Int32) (v_markedMinus : Int32) (v_program_count : Int32) (v_program_bodies : Nat → Int32) (v_deduction_givenPairs : Int32) (v_deduction_roundCount : Int32) (v_deduction_factChoices : Nat → Int64) (v_deduction_givenInRound : Nat → Int32) (x1 : Int32) : Option (Int32 × Int32 × (Nat → Int32) × Int32 × Int32 × (Nat → Int32)) := m_H_learnTwoClauses_2 v_markedPlus v_markedMinus v_deduction_factChoices 40 v_program_count v_program_bodies v_deduction_givenPairs v_deduction_roundCount v_deduction_givenInRound x1 (nI 0)
def m_H_learn_52 (v_markedPlus : Int32) (v_markedMinus : Int32) (v_factSets : Nat → Int32) (k_21 : Int32 → (Nat → Int32) → Int32 → Int32 → (Nat → Int64) → (Nat → Int32) → Int32 → Option (Int32 × Int32 × (Nat → Int32) × Int32 × Int32 × (Nat → Int64) × (Nat → Int32))) (v_program_count : Int32) (v_program_bodies : Nat → Int32) (v_deduction_givenPairs : Int32) (v_deduction_roundCount : Int32) (v_deduction_factChoices : Nat → Int64) (v_deduction_givenInRound : Nat → Int32) (z1 : Int32) : Option (Int32 × Int32 × (Nat → Int32) × Int32 × Int32 × (Nat → Int64) × (Nat → Int32)) := k_21 v_program_count v_program_bodies v_deduction_givenPairs v_deduction_roundCount v_deduction_factChoices v_deduction_givenInRound (z1 + (nI 1))
def m_H_learn_21 (v_markedPlus : Int32) (v_markedMinus : Int32) (v_factSets : Nat → Int32) : Nat → Int32 → (Nat → Int32) → Int32 → Int32 → (Nat → Int64) → (Nat → Int32) → Int32 → Option (Int32 × Int32 × (Nat → Int32) × Int32 × Int32 × (Nat → Int64) × (Nat → Int32))
  | 0, _, _, _, _, _, _, _ => none
  | n + 1, v_program_count, v_program_bodies, v_deduction_givenPairs, v_deduction_roundCount, v_deduction_factChoices, v_deduction_givenInRound, z1 => (if (nI 3) < z1 then some ((nI 0), (v_program_count, v_program_bodies, v_deduction_givenPairs, v_deduction_roundCount, v_deduction_factChoices, v_deduction_givenInRound)) else (Option.bind (m_H_learnBody v_markedPlus v_markedMinus v_deduction_factChoices 5 v_program_count v_program_bodies v_deduction_givenPairs v_deduction_roundCount v_deduction_givenInRound (nI 0) (nI 0) (nI 0) z1) (fun v_31 => (if v_31.1 = (nI 0) then (if z1 ≤ (nI 1) then m_H_learn_52 v_markedPlus v_markedMinus v_factSets (m_H_learn_21 v_markedPlus v_markedMinus v_factSets n) v_31.2.1 v_31.2.2.1 v_31.2.2.2.1 v_31.2.2.2.2.1 v_deduction_factChoices v_31.2.2.2.2.2 z1 else (Option.bind (m_H_learnTwoClauses v_markedPlus v_markedMinus v_31.2.1 v_31.2.2.1 v_31.2.2.2.1 v_31.2.2.2.2.1 v_deduction_factChoices v_31.2.2.2.2.2 z1) (fun v_44 => (if v_44.1 = (nI 0) then m_H_learn_52 v_markedPlus v_markedMinus v_factSets (m_H_learn_21 v_markedPlus v_markedMinus v_factSets n) v_44.2.1 v_44.2.2.1 v_44.2.2.2.1 v_44.2.2.2.2.1 v_deduction_factChoices v_44.2.2.2.2.2 z1 else some (z1, (v_44.2.1, v_44.2.2.1, v_44.2.2.2.1, v_44.2.2.2.2.1, v_deduction_factChoices, v_44.2.2.2.2.2)))))) else some (z1, (v_31.2.1, v_31.2.2.1, v_31.2.2.2.1, v_31.2.2.2.2.1, v_deduction_factChoices, v_31.2.2.2.2.2))))))
def m_H_learn (v_markedPlus : Int32) (v_markedMinus : Int32) (v_factSets : Nat → Int32) (v_program_count : Int32) (v_program_bodies : Nat → Int32) (v_deduction_givenPairs : Int32) (v_deduction_roundCount : Int32) (v_deduction_factChoices : Nat → Int64) (v_deduction_givenInRound : Nat → Int32) : Option (Int32 × Int32 × (Nat → Int32) × Int32 × Int32 × (Nat → Int64) × (Nat → Int32)) := (if inR (nI 0) 2 = true then (if inR (nI 1) 2 = true then (Option.bind (m_D_takeFacts v_deduction_factChoices (v_factSets (nI 0).toNatClampNeg) (v_factSets (nI 1).toNatClampNeg)) (fun v_16 => m_H_learn_21 v_markedPlus v_markedMinus v_factSets 40 v_program_count v_program_bodies v_deduction_givenPairs v_deduction_roundCount v_16 v_deduction_givenInRound (nI 1))) else none) else none)
def m_M_isConstant (x0 : Int32) : Option (Int32 × Unit) := (if x0 < (nI 48) then some ((nI 0), ()) else (if (nI 51) < x0 then some ((nI 0), ()) else some ((nI 1), ())))
def m_M_isVariable (x0 : Int32) : Option (Int32 × Unit) := (if x0 < (nI 88) then some ((nI 0), ()) else (if (nI 90) < x0 then some ((nI 0), ()) else some ((nI 1), ())))
def m_M_isRelation (x0 : Int32) : Option (Int32 × Unit) := (if x0 = (nI 97) then some ((nI 1), ()) else (if x0 = (nI 98) then some ((nI 1), ()) else (if x0 = (nI 116) then some ((nI 1), ()) else some ((nI 0), ()))))
def m_M_head (x0 : Int32) : Option (Int32 × Unit) := (if x0 = (nI 0) then some ((nI 116), ()) else (if x0 = (nI 1) then some ((nI 40), ()) else (if x0 = (nI 2) then some ((nI 88), ()) else (if x0 = (nI 3) then some ((nI 44), ()) else (if x0 = (nI 4) then some ((nI 89), ()) else (if x0 = (nI 5) then some ((nI 41), ()) else (if x0 = (nI 6) then some ((nI 58), ()) else some ((nI 45), ()))))))))
def m_M_argument_45 (z0 : Int32) (z1 : Int32) : Option (Int32 × Unit) := (if z0 = (nI 4) then (if z1 = (nI 41) then some ((nI 1), ()) else some ((nI 0), ())) else some ((nI 0), ()))
def m_M_argument_33 (z0 : Int32) (z1 : Int32) : Option (Int32 × Unit) := (if z0 = (nI 3) then (Option.bind (m_M_isConstant z1) (fun v_39 => (if v_39.1 = (nI 0) then m_M_argument_45 z0 z1 else some ((nI 1), ())))) else m_M_argument_45 z0 z1)
def m_M_argument_22 (z0 : Int32) (z1 : Int32) : Option (Int32 × Unit) := (if z0 = (nI 2) then (if z1 = (nI 44) then some ((nI 1), ()) else m_M_argument_33 z0 z1) else m_M_argument_33 z0 z1)
def m_M_argument_10 (z0 : Int32) (z1 : Int32) : Option (Int32 × Unit) := (if z0 = (nI 1) then (Option.bind (m_M_isConstant z1) (fun v_16 => (if v_16.1 = (nI 0) then m_M_argument_22 z0 z1 else some ((nI 1), ())))) else m_M_argument_22 z0 z1)
def m_M_argument (x0 : Int32) (x1 : Int32) : Option (Int32 × Unit) := (if x0 = (nI 0) then (if x1 = (nI 40) then some ((nI 1), ()) else m_M_argument_10 x0 x1) else m_M_argument_10 x0 x1)
def m_M_inBody_69 (z1 : Int32) (z2 : Int32) : Option (Int32 × Unit) := (if z2 = (nI 5) then (if z1 = (nI 41) then some ((nI 1), ()) else some ((nI 0), ())) else some ((nI 0), ()))
def m_M_inBody_63 (z1 : Int32) (z2 : Int32) : Option (Int32 × Unit) := (if z1 = (nI 44) then some ((nI 1), ()) else m_M_inBody_69 z1 z2)
def m_M_inBody_52 (z1 : Int32) (z2 : Int32) : Option (Int32 × Unit) := (if z2 = (nI 3) then m_M_inBody_63 z1 z2 else (if z2 = (nI 6) then m_M_inBody_63 z1 z2 else m_M_inBody_69 z1 z2))
def m_M_inBody_45 (z1 : Int32) (z2 : Int32) : Option (Int32 × Unit) := (Option.bind (m_M_isVariable z1) (fun v_46 => (if v_46.1 = (nI 0) then m_M_inBody_52 z1 z2 else some ((nI 1), ()))))
def m_M_inBody_35 (z1 : Int32) (z2 : Int32) : Option (Int32 × Unit) := (if z2 = (nI 2) then m_M_inBody_45 z1 z2 else (if z2 = (nI 4) then m_M_inBody_45 z1 z2 else m_M_inBody_52 z1 z2))
def m_M_inBody_24 (z1 : Int32) (z2 : Int32) : Option (Int32 × Unit) := (if z2 = (nI 1) then (if z1 = (nI 40) then some ((nI 1), ()) else m_M_inBody_35 z1 z2) else m_M_inBody_35 z1 z2)
def m_M_inBody (x0 : Int32) (x1 : Int32) : Option (Int32 × Unit) := (if x0 < (nI 20) then (if (irm x0 (nI 7)) = (nI 0) then (Option.bind (m_M_isRelation x1) (fun v_18 => (if v_18.1 = (nI 0) then m_M_inBody_24 x1 (irm x0 (nI 7)) else some ((nI 1), ())))) else m_M_inBody_24 x1 (irm x0 (nI 7))) else some ((nI 0), ()))
def m_M_goesOn_98 (v_line : Nat → Int32) (z1 : Int32) (z2 : Int32) : Option (Int32 × Unit) := (Option.bind (m_M_argument (z1 - (nI 1)) z2) (fun v_102 => (if isZ v_102.1 = true then some (v_102.1, ()) else none)))
def m_M_goesOn (v_line : Nat → Int32) (x1 : Int32) : Option (Int32 × Unit) := (if inR x1 32 = true then (if inR (nI 0) 32 = true then (if x1 = (nI 0) then (Option.bind (m_M_isRelation (v_line x1.toNatClampNeg)) (fun v_19 => (if v_19.1 = (nI 0) then (if (v_line x1.toNatClampNeg) = (nI 126) then some ((nI 1), ()) else (if (v_line x1.toNatClampNeg) = (nI 43) then some ((nI 1), ()) else (if (v_line x1.toNatClampNeg) = (nI 45) then some ((nI 1), ()) else some ((nI 0), ())))) else some ((nI 1), ())))) else (if (v_line (nI 0).toNatClampNeg) = (nI 116) then (if (nI 8) ≤ x1 then (Option.bind (m_M_inBody (x1 - (nI 8)) (v_line x1.toNatClampNeg)) (fun v_82 => (if isZ v_82.1 = true then some (v_82.1, ()) else none))) else (Option.bind (m_M_head x1) (fun v_63 => (if (v_line x1.toNatClampNeg) = v_63.1 then some ((nI 1), ()) else some ((nI 0), ()))))) else (if (v_line (nI 0).toNatClampNeg) = (nI 97) then m_M_goesOn_98 v_line x1 (v_line x1.toNatClampNeg) else (if (v_line (nI 0).toNatClampNeg) = (nI 98) then m_M_goesOn_98 v_line x1 (v_line x1.toNatClampNeg) else (if x1 = (nI 1) then (if (v_line x1.toNatClampNeg) = (nI 116) then some ((nI 1), ()) else (if (v_line (nI 0).toNatClampNeg) = (nI 126) then (Option.bind (m_M_isRelation (v_line x1.toNatClampNeg)) (fun v_124 => (if v_124.1 = (nI 0) then some ((nI 0), ()) else some ((nI 1), ())))) else some ((nI 0), ()))) else (Option.bind (m_M_argument (x1 - (nI 2)) (v_line x1.toNatClampNeg)) (fun v_142 => (if isZ v_142.1 = true then some (v_142.1, ()) else none)))))))) else none) else none)
def m_M_whole_75 (v_typed : Int32) (v_line : Nat → Int32) (y0 : Int32) (y1 : Int32) : Option (Int32 × Unit) := (if y1 = y0 then some ((nI 1), ()) else some ((nI 0), ()))
def m_M_whole_68 (v_typed : Int32) (v_line : Nat → Int32) (y0 : Int32) : Option (Int32 × Unit) := m_M_whole_75 v_typed v_line (nI 6) y0
def m_M_whole (v_typed : Int32) (v_line : Nat → Int32) : Option (Int32 × Unit) := (if v_typed = (nI 0) then some ((nI 0), ()) else (if inR (nI 0) 32 = true then (if (v_line (nI 0).toNatClampNeg) = (nI 116) then (if v_typed ≤ (nI 8) then some ((nI 0), ()) else (if (irm (v_typed - (nI 8)) (nI 7)) = (nI 6) then some ((nI 1), ()) else some ((nI 0), ()))) else (if (v_line (nI 0).toNatClampNeg) = (nI 97) then m_M_whole_68 v_typed v_line v_typed else (if (v_line (nI 0).toNatClampNeg) = (nI 98) then m_M_whole_68 v_typed v_line v_typed else m_M_whole_75 v_typed v_line (nI 7) v_typed))) else none))
def m_M_fault_2 (v_typed : Int32) (v_line : Nat → Int32) : Nat → Int32 → Option (Int32 × Unit)
  | 0, _ => none
  | n + 1, z1 => (if v_typed ≤ z1 then (Option.bind (m_M_whole v_typed v_line) (fun v_27 => (if v_27.1 = (nI 0) then some (v_typed, ()) else some ((-1 : Int32), ())))) else (Option.bind (m_M_goesOn v_line z1) (fun v_12 => (if v_12.1 = (nI 0) then some (z1, ()) else m_M_fault_2 v_typed v_line n (z1 + (nI 1))))))
def m_M_fault (v_typed : Int32) (v_line : Nat → Int32) : Option (Int32 × Unit) := m_M_fault_2 v_typed v_line 40 (nI 0)
def m_M_relationOf (x0 : Int32) : Option (Int32 × Unit) := (if x0 = (nI 97) then some ((nI 0), ()) else (if x0 = (nI 98) then some ((nI 1), ()) else some ((nI 2), ())))
def m_M_readBody_96 (v_typed : Int32) (v_line : Nat → Int32) (k_8 : Int32 → (Nat → Int32) → Int32 → Option (Int32 × (Nat → Int32))) (v_read : Int32) (v_body : Nat → Int32) (z1 : Int32) (z2 : Int32) (z3 : Int32) : Option (Int32 × (Nat → Int32)) := (if inR z3 3 = true then k_8 (v_read + (nI 1)) (upd v_body z3.toNatClampNeg z2) (z1 + (nI 7)) else none)
def m_M_readBody_60 (v_typed : Int32) (v_line : Nat → Int32) (k_8 : Int32 → (Nat → Int32) → Int32 → Option (Int32 × (Nat → Int32))) : Nat → Int32 → (Nat → Int32) → Int32 → Int32 → Int32 → Option (Int32 × (Nat → Int32))
  | 0, _, _, _, _, _ => none
  | n + 1, v_read, v_body, z1, z2, z3 => (if z3 ≤ (nI 0) then m_M_readBody_96 v_typed v_line k_8 v_read v_body z1 z2 z3 else (if inR (z3 - (nI 1)) 3 = true then (if (v_body (z3 - (nI 1)).toNatClampNeg) ≤ z2 then m_M_readBody_96 v_typed v_line k_8 v_read v_body z1 z2 z3 else (if inR (z3 - (nI 1)) 3 = true then (if inR z3 3 = true then m_M_readBody_60 v_typed v_line k_8 n v_read (upd v_body z3.toNatClampNeg (v_body (z3 - (nI 1)).toNatClampNeg)) z1 z2 (z3 + (-1 : Int32)) else none) else none)) else none))
def m_M_readBody_8 (v_typed : Int32) (v_line : Nat → Int32) : Nat → Int32 → (Nat → Int32) → Int32 → Option (Int32 × (Nat → Int32))
  | 0, _, _, _ => none
  | n + 1, v_read, v_body, z1 => (if v_typed ≤ z1 then some (v_read, v_body) else (if inR z1 32 = true then (Option.bind (m_M_relationOf (v_line z1.toNatClampNeg)) (fun v_24 => (if inR (z1 + (nI 2)) 32 = true then (if inR (z1 + (nI 4)) 32 = true then (letN (((((nI 9) * v_24.1) + ((nI 3) * ((v_line (z1 + (nI 2)).toNatClampNeg) - (nI 88)))) + (v_line (z1 + (nI 4)).toNatClampNeg)) - (nI 88)) (fun w_54 => m_M_readBody_60 v_typed v_line (m_M_readBody_8 v_typed v_line n) 40 v_read v_body z1 w_54 v_read)) else none) else none))) else none))
def m_M_readBody (v_typed : Int32) (v_read : Int32) (v_line : Nat → Int32) (v_body : Nat → Int32) : Option (Int32 × (Nat → Int32)) := m_M_readBody_8 v_typed v_line 40 (nI 0) v_body (nI 8)
def m_M_variables (x0 : Int32) : Option (Int32 × Unit) := some (((nI 1) <<< ((irm (x0 / (nI 3)) (nI 3)) &&& 31)) ||| ((nI 1) <<< ((irm x0 (nI 3)) &&& 31)), ())
def m_M_known_57 (v_read : Int32) (v_many : Nat → Int32) (v_codes : Nat → Int32) (v_body : Nat → Int32) (k_21 : Int32 → Int32 → Int32 → Option (Int32 × Unit)) (z1 : Int32) (z3 : Int32) (y0 : Int32) : Option (Int32 × Unit) := k_21 z1 y0 (z3 + (nI 1))
def m_M_known_21 (v_read : Int32) (v_many : Nat → Int32) (v_codes : Nat → Int32) (v_body : Nat → Int32) : Nat → Int32 → Int32 → Int32 → Option (Int32 × Unit)
  | 0, _, _, _ => none
  | n + 1, z1, z2, z3 => (if v_read ≤ z3 then (if isZ z2 = true then some (z2, ()) else none) else (if z2 = (nI 0) then (if isZ z2 = true then some (z2, ()) else none) else (if inR (((nI 3) * z1) + z3) 6 = true then (if inR z3 3 = true then (if (v_codes (((nI 3) * z1) + z3).toNatClampNeg) = (v_body z3.toNatClampNeg) then m_M_known_57 v_read v_many v_codes v_body (m_M_known_21 v_read v_many v_codes v_body n) z1 z3 (nI 1) else m_M_known_57 v_read v_many v_codes v_body (m_M_known_21 v_read v_many v_codes v_body n) z1 z3 (nI 0)) else none) else none)))
def m_M_known_18 (v_read : Int32) (v_many : Nat → Int32) (v_codes : Nat → Int32) (v_body : Nat → Int32) (z1 : Int32) (y0 : Int32) : Option (Int32 × Unit) := m_M_known_21 v_read v_many v_codes v_body 40 z1 y0 (nI 0)
def m_M_known (v_read : Int32) (v_many : Nat → Int32) (v_codes : Nat → Int32) (v_body : Nat → Int32) (x1 : Int32) : Option (Int32 × Unit) := (if inR x1 2 = true then (if (v_many x1.toNatClampNeg) = v_read then m_M_known_18 v_read v_many v_codes v_body x1 (nI 1) else m_M_known_18 v_read v_many v_codes v_body x1 (nI 0)) else none)
def m_M_enterClause_137 (v_typed : Int32) (v_line : Nat → Int32) : Nat → Int32 → Int32 → (Nat → Int32) → (Nat → Int32) → (Nat → Int32) → Int32 → Option (Int32 × Int32 × Int32 × (Nat → Int32) × (Nat → Int32) × (Nat → Int32))
  | 0, _, _, _, _, _, _ => none
  | n + 1, v_count, v_read, v_many, v_codes, v_body, z3 => (if v_read ≤ z3 then some ((nI 9) + (v_count + (nI 1)), (v_count + (nI 1), v_read, v_many, v_codes, v_body)) else (if inR z3 3 = true then (if inR (((nI 3) * v_count) + z3) 6 = true then m_M_enterClause_137 v_typed v_line n v_count v_read v_many (upd v_codes (((nI 3) * v_count) + z3).toNatClampNeg (v_body z3.toNatClampNeg)) v_body (z3 + (nI 1)) else none) else none))
def m_M_enterClause_86 (v_typed : Int32) (v_line : Nat → Int32) : Nat → Int32 → Int32 → (Nat → Int32) → (Nat → Int32) → (Nat → Int32) → Int32 → Option (Int32 × Int32 × Int32 × (Nat → Int32) × (Nat → Int32) × (Nat → Int32))
  | 0, _, _, _, _, _, _ => none
  | n + 1, v_count, v_read, v_many, v_codes, v_body, z3 => (if v_count ≤ z3 then (if v_count = (nI 2) then some ((-103 : Int32), (v_count, v_read, v_many, v_codes, v_body)) else (if inR v_count 2 = true then m_M_enterClause_137 v_typed v_line 40 v_count v_read (upd v_many v_count.toNatClampNeg v_read) v_codes v_body (nI 0) else none)) else (Option.bind (m_M_known v_read v_many v_codes v_body z3) (fun v_96 => (if v_96.1 = (nI 0) then m_M_enterClause_86 v_typed v_line n v_count v_read v_many v_codes v_body (z3 + (nI 1)) else some ((-102 : Int32), (v_count, v_read, v_many, v_codes, v_body))))))
def m_M_enterClause_60 (v_typed : Int32) (v_line : Nat → Int32) (k_10 : Int32 → Int32 → (Nat → Int32) → (Nat → Int32) → (Nat → Int32) → Int32 → Int32 → Int32 → Option (Int32 × Int32 × Int32 × (Nat → Int32) × (Nat → Int32) × (Nat → Int32))) (v_count : Int32) (v_read : Int32) (v_many : Nat → Int32) (v_codes : Nat → Int32) (v_body : Nat → Int32) (z1 : Int32) (z3 : Int32) (y0 : Int32) : Option (Int32 × Int32 × Int32 × (Nat → Int32) × (Nat → Int32) × (Nat → Int32)) := k_10 v_count v_read v_many v_codes v_body z1 y0 (z3 + (nI 1))
def m_M_enterClause_55 (v_typed : Int32) (v_line : Nat → Int32) (k_10 : Int32 → Int32 → (Nat → Int32) → (Nat → Int32) → (Nat → Int32) → Int32 → Int32 → Int32 → Option (Int32 × Int32 × Int32 × (Nat → Int32) × (Nat → Int32) × (Nat → Int32))) (v_count : Int32) (v_read : Int32) (v_many : Nat → Int32) (v_codes : Nat → Int32) (v_body : Nat → Int32) (z1 : Int32) (z3 : Int32) : Option (Int32 × Int32 × Int32 × (Nat → Int32) × (Nat → Int32) × (Nat → Int32)) := m_M_enterClause_60 v_typed v_line k_10 v_count v_read v_many v_codes v_body z1 z3 (nI 1)
def m_M_enterClause_59 (v_typed : Int32) (v_line : Nat → Int32) (k_10 : Int32 → Int32 → (Nat → Int32) → (Nat → Int32) → (Nat → Int32) → Int32 → Int32 → Int32 → Option (Int32 × Int32 × Int32 × (Nat → Int32) × (Nat → Int32) × (Nat → Int32))) (v_count : Int32) (v_read : Int32) (v_many : Nat → Int32) (v_codes : Nat → Int32) (v_body : Nat → Int32) (z1 : Int32) (z3 : Int32) : Option (Int32 × Int32 × Int32 × (Nat → Int32) × (Nat → Int32) × (Nat → Int32)) := m_M_enterClause_60 v_typed v_line k_10 v_count v_read v_many v_codes v_body z1 z3 (nI 0)
def m_M_enterClause_10 (v_typed : Int32) (v_line : Nat → Int32) : Nat → Int32 → Int32 → (Nat → Int32) → (Nat → Int32) → (Nat → Int32) → Int32 → Int32 → Int32 → Option (Int32 × Int32 × Int32 × (Nat → Int32) × (Nat → Int32) × (Nat → Int32))
  | 0, _, _, _, _, _, _, _, _ => none
  | n + 1, v_count, v_read, v_many, v_codes, v_body, z1, z2, z3 => (if v_read ≤ z3 then (if z2 = (nI 0) then (if (z1 &&& (nI 3)) = (nI 3) then m_M_enterClause_86 v_typed v_line 40 v_count v_read v_many v_codes v_body (nI 0) else some ((-101 : Int32), (v_count, v_read, v_many, v_codes, v_body))) else some ((-100 : Int32), (v_count, v_read, v_many, v_codes, v_body))) else (if inR z3 3 = true then (Option.bind (m_M_variables (v_body z3.toNatClampNeg)) (fun v_25 => (if z2 = (nI 0) then (if z3 ≤ (nI 0) then m_M_enterClause_59 v_typed v_line (m_M_enterClause_10 v_typed v_line n) v_count v_read v_many v_codes v_body (z1 ||| v_25.1) z3 else (if inR (z3 - (nI 1)) 3 = true then (if inR z3 3 = true then (if (v_body (z3 - (nI 1)).toNatClampNeg) = (v_body z3.toNatClampNeg) then m_M_enterClause_55 v_typed v_line (m_M_enterClause_10 v_typed v_line n) v_count v_read v_many v_codes v_body (z1 ||| v_25.1) z3 else m_M_enterClause_59 v_typed v_line (m_M_enterClause_10 v_typed v_line n) v_count v_read v_many v_codes v_body (z1 ||| v_25.1) z3) else none) else none)) else m_M_enterClause_55 v_typed v_line (m_M_enterClause_10 v_typed v_line n) v_count v_read v_many v_codes v_body (z1 ||| v_25.1) z3))) else none))
def m_M_enterClause (v_typed : Int32) (v_count : Int32) (v_read : Int32) (v_line : Nat → Int32) (v_many : Nat → Int32) (v_codes : Nat → Int32) (v_body : Nat → Int32) : Option (Int32 × Int32 × Int32 × (Nat → Int32) × (Nat → Int32) × (Nat → Int32)) := (Option.bind (m_M_readBody v_typed v_read v_line v_body) (fun v_1 => m_M_enterClause_10 v_typed v_line 40 v_count v_1.1 v_many v_codes v_1.2 (nI 0) (nI 0) (nI 0)))
def m_M_enterMark_15 (v_marked : Nat → Int32) (z1 : Int32) (z2 : Int32) (y0 : Int32) : Option (Int32 × (Nat → Int32)) := (if inR z1 16 = true then (if y0 = (nI 0) then some ((nI 0), upd v_marked z1.toNatClampNeg z2) else some ((nI 1), upd v_marked z1.toNatClampNeg z2)) else none)
def m_M_enterMark (v_marked : Nat → Int32) (x1 : Int32) (x2 : Int32) : Option (Int32 × (Nat → Int32)) := (if inR x1 16 = true then (if (v_marked x1.toNatClampNeg) = x2 then m_M_enterMark_15 v_marked x1 x2 (nI 0) else m_M_enterMark_15 v_marked x1 x2 (nI 1)) else none)
def m_M_enterFact_15 (v_fact : Nat → Int32) (z1 : Int32) (z2 : Int32) (y0 : Int32) : Option (Int32 × (Nat → Int32)) := (if inR z1 32 = true then (if isZ z2 = true then (if y0 = (nI 0) then some ((nI 0), upd v_fact z1.toNatClampNeg z2) else some ((nI 1), upd v_fact z1.toNatClampNeg z2)) else none) else none)
def m_M_enterFact (v_fact : Nat → Int32) (x1 : Int32) (x2 : Int32) : Option (Int32 × (Nat → Int32)) := (if inR x1 32 = true then (if (v_fact x1.toNatClampNeg) = x2 then m_M_enterFact_15 v_fact x1 x2 (nI 0) else m_M_enterFact_15 v_fact x1 x2 (nI 1)) else none)
def m_M_enter_154 (v_line : Nat → Int32) (v_typed : Int32) (v_count : Int32) (v_read : Int32) (v_fact : Nat → Int32) (v_marked : Nat → Int32) (v_many : Nat → Int32) (v_codes : Nat → Int32) (v_body : Nat → Int32) (y0 : Int32) (y1 : Int32) : Option (Int32 × Int32 × Int32 × Int32 × (Nat → Int32) × (Nat → Int32) × (Nat → Int32) × (Nat → Int32) × (Nat → Int32)) := (Option.bind (m_M_enterFact v_fact y1 y0) (fun v_154 => some (v_154.1, (v_typed, v_count, v_read, v_154.2, v_marked, v_many, v_codes, v_body))))
def m_M_enter_128 (v_line : Nat → Int32) (v_typed : Int32) (v_count : Int32) (v_read : Int32) (v_fact : Nat → Int32) (v_marked : Nat → Int32) (v_many : Nat → Int32) (v_codes : Nat → Int32) (v_body : Nat → Int32) (y0 : Int32) (y1 : Int32) : Option (Int32 × Int32 × Int32 × Int32 × (Nat → Int32) × (Nat → Int32) × (Nat → Int32) × (Nat → Int32) × (Nat → Int32)) := (Option.bind (m_M_enterMark v_marked y1 y0) (fun v_128 => some (v_128.1, (v_typed, v_count, v_read, v_fact, v_128.2, v_many, v_codes, v_body))))
def m_M_enter (v_typed : Int32) (v_count : Int32) (v_read : Int32) (v_line : Nat → Int32) (v_fact : Nat → Int32) (v_marked : Nat → Int32) (v_many : Nat → Int32) (v_codes : Nat → Int32) (v_body : Nat → Int32) : Option (Int32 × Int32 × Int32 × Int32 × (Nat → Int32) × (Nat → Int32) × (Nat → Int32) × (Nat → Int32) × (Nat → Int32)) := (Option.bind (m_M_fault v_typed v_line) (fun v_1 => (if v_1.1 < (nI 0) then (if inR (nI 0) 32 = true then (if (v_line (nI 0).toNatClampNeg) = (nI 116) then (Option.bind (m_M_enterClause v_typed v_count v_read v_line v_many v_codes v_body) (fun v_35 => some (v_35.1, ((nI 0), v_35.2.1, v_35.2.2.1, v_fact, v_marked, v_35.2.2.2.1, v_35.2.2.2.2.1, v_35.2.2.2.2.2)))) else (if inR (v_typed - (nI 4)) 32 = true then (if inR (v_typed - (nI 2)) 32 = true then (letN ((((nI 4) * ((v_line (v_typed - (nI 4)).toNatClampNeg) - (nI 48))) + (v_line (v_typed - (nI 2)).toNatClampNeg)) - (nI 48)) (fun w_76 => (if inR (v_typed - (nI 6)) 32 = true then (if (v_line (v_typed - (nI 6)).toNatClampNeg) = (nI 116) then (if inR (nI 0) 32 = true then (if (v_line (nI 0).toNatClampNeg) = (nI 43) then m_M_enter_128 v_line (nI 0) v_count v_read v_fact v_marked v_many v_codes v_body (nI 1) w_76 else (if inR (nI 0) 32 = true then (if (v_line (nI 0).toNatClampNeg) = (nI 45) then m_M_enter_128 v_line (nI 0) v_count v_read v_fact v_marked v_many v_codes v_body (-1 : Int32) w_76 else m_M_enter_128 v_line (nI 0) v_count v_read v_fact v_marked v_many v_codes v_body (nI 0) w_76) else none)) else none) else (Option.bind (m_M_relationOf (v_line (v_typed - (nI 6)).toNatClampNeg)) (fun v_137 => (if v_typed = (nI 6) then m_M_enter_154 v_line (nI 0) v_count v_read v_fact v_marked v_many v_codes v_body (nI 1) (((nI 16) * v_137.1) + w_76) else m_M_enter_154 v_line (nI 0) v_count v_read v_fact v_marked v_many v_codes v_body (nI 0) (((nI 16) * v_137.1) + w_76))))) else none))) else none) else none)) else none) else some ((-1 : Int32) - v_1.1, ((nI 0), v_count, v_read, v_fact, v_marked, v_many, v_codes, v_body)))))
def m_M_constant (x0 : Int32) : Option (Int32 × Unit) := (if x0 < (nI 0) then some ((nI 0), ()) else (if (nI 4) ≤ x0 then some ((nI 0), ()) else some ((nI 1), ())))
def m_M_facts_42 (v_fact : Nat → Int32) (k_15 : Int32 → Int32 → Int32 → Option (Int32 × Unit)) (z1 : Int32) (z3 : Int32) (y0 : Int32) : Option (Int32 × Unit) := k_15 z1 y0 (z3 + (nI 1))
def m_M_facts_15 (v_fact : Nat → Int32) : Nat → Int32 → Int32 → Int32 → Option (Int32 × Unit)
  | 0, _, _, _ => none
  | n + 1, z1, z2, z3 => (if (nI 16) ≤ z3 then some (z2, ()) else (if inR (((nI 16) * z1) + z3) 32 = true then (if (v_fact (((nI 16) * z1) + z3).toNatClampNeg) = (nI 0) then m_M_facts_42 v_fact (m_M_facts_15 v_fact n) z1 z3 z2 else m_M_facts_42 v_fact (m_M_facts_15 v_fact n) z1 z3 (z2 + (nI 1))) else none))
def m_M_facts (v_fact : Nat → Int32) (x1 : Int32) : Option (Int32 × Unit) := (if x1 < (nI 0) then some ((-1 : Int32), ()) else (if x1 ≤ (nI 1) then m_M_facts_15 v_fact 40 x1 (nI 0) (nI 0) else some ((-1 : Int32), ())))
def m_M_holds_9 (v_fact : Nat → Int32) (z1 : Int32) (z2 : Int32) (z3 : Int32) : Option (Int32 × Unit) := (Option.bind (m_M_constant z2) (fun v_10 => (if v_10.1 = (nI 0) then some ((nI 0), ()) else (Option.bind (m_M_constant z3) (fun v_17 => (if v_17.1 = (nI 0) then some ((nI 0), ()) else (if inR ((((nI 16) * z1) + ((nI 4) * z2)) + z3) 32 = true then (if (v_fact ((((nI 16) * z1) + ((nI 4) * z2)) + z3).toNatClampNeg) = (nI 0) then some ((nI 0), ()) else some ((nI 1), ())) else none)))))))
def m_M_holds (v_fact : Nat → Int32) (x1 : Int32) (x2 : Int32) (x3 : Int32) : Option (Int32 × Unit) := (if x1 = (nI 0) then m_M_holds_9 v_fact x1 x2 x3 else (if x1 = (nI 1) then m_M_holds_9 v_fact x1 x2 x3 else some ((nI 0), ())))
def m_M_mark (v_marked : Nat → Int32) (x1 : Int32) (x2 : Int32) : Option (Int32 × Unit) := (Option.bind (m_M_constant x1) (fun v_1 => (if v_1.1 = (nI 0) then some ((nI 0), ()) else (Option.bind (m_M_constant x2) (fun v_8 => (if v_8.1 = (nI 0) then some ((nI 0), ()) else (if inR (((nI 4) * x1) + x2) 16 = true then some (v_marked (((nI 4) * x1) + x2).toNatClampNeg, ()) else none)))))))
def m_M_clause (v_count : Int32) (x1 : Int32) : Option (Int32 × Unit) := (if x1 < (nI 0) then some ((nI 0), ()) else (if v_count ≤ x1 then some ((nI 0), ()) else some ((nI 1), ())))
def m_M_drop_53 (v_count : Int32) (v_many : Nat → Int32) (v_codes : Nat → Int32) : Option (Int32 × Int32 × (Nat → Int32) × (Nat → Int32)) := some ((nI 1), (v_count - (nI 1), v_many, v_codes))
def m_M_drop_28 : Nat → Int32 → (Nat → Int32) → (Nat → Int32) → Int32 → Option (Int32 × Int32 × (Nat → Int32) × (Nat → Int32))
  | 0, _, _, _, _ => none
  | n + 1, v_count, v_many, v_codes, z2 => (if (nI 3) ≤ z2 then m_M_drop_53 v_count v_many v_codes else (if inR ((nI 3) + z2) 6 = true then (if inR z2 6 = true then m_M_drop_28 n v_count v_many (upd v_codes z2.toNatClampNeg (v_codes ((nI 3) + z2).toNatClampNeg)) (z2 + (nI 1)) else none) else none))
def m_M_drop (v_count : Int32) (v_many : Nat → Int32) (v_codes : Nat → Int32) (x1 : Int32) : Option (Int32 × Int32 × (Nat → Int32) × (Nat → Int32)) := (Option.bind (m_M_clause v_count x1) (fun v_2 => (if v_2.1 = (nI 0) then some ((nI 0), (v_count, v_many, v_codes)) else (if x1 = (nI 0) then (if inR (nI 1) 2 = true then (if inR (nI 0) 2 = true then m_M_drop_28 40 v_count (upd v_many (nI 0).toNatClampNeg (v_many (nI 1).toNatClampNeg)) v_codes (nI 0) else none) else none) else m_M_drop_53 v_count v_many v_codes))))
def m_M_clauses (v_count : Int32) : Option (Int32 × Unit) := some (v_count, ())
def m_M_literals (v_count : Int32) (v_many : Nat → Int32) (x1 : Int32) : Option (Int32 × Unit) := (Option.bind (m_M_clause v_count x1) (fun v_2 => (if v_2.1 = (nI 0) then some ((-1 : Int32), ()) else (if inR x1 2 = true then some (v_many x1.toNatClampNeg, ()) else none))))
def m_M_literal (v_count : Int32) (v_many : Nat → Int32) (v_codes : Nat → Int32) (x1 : Int32) (x2 : Int32) : Option (Int32 × Unit) := (Option.bind (m_M_clause v_count x1) (fun v_2 => (if v_2.1 = (nI 0) then some ((-1 : Int32), ()) else (if x2 < (nI 0) then some ((-1 : Int32), ()) else (if inR x1 2 = true then (if (v_many x1.toNatClampNeg) ≤ x2 then some ((-1 : Int32), ()) else (if inR (((nI 3) * x1) + x2) 6 = true then some (v_codes (((nI 3) * x1) + x2).toNatClampNeg, ()) else none)) else none)))))
def m_M_letterOf (x0 : Int32) (x1 : Int32) : Option (Int32 × Unit) := (if x1 = (nI 0) then (if (nI 9) ≤ x0 then (if (nI 18) ≤ x0 then some ((nI 116), ()) else some ((nI 98), ())) else some ((nI 97), ())) else (if x1 = (nI 1) then some ((nI 40), ()) else (if x1 = (nI 2) then some ((nI 88) + (irm (x0 / (nI 3)) (nI 3)), ()) else (if x1 = (nI 3) then some ((nI 44), ()) else (if x1 = (nI 4) then some ((nI 88) + (irm x0 (nI 3)), ()) else some ((nI 41), ()))))))
def m_M_letter_4 (v_count : Int32) (v_many : Nat → Int32) (v_codes : Nat → Int32) : Nat → Int32 → Int32 → Option (Int32 × Unit)
  | 0, _, _ => none
  | n + 1, z2, z3 => (if v_count ≤ z3 then some ((-1 : Int32), ()) else (if z2 < (nI 0) then some ((-1 : Int32), ()) else (if inR z3 2 = true then (if ((nI 7) + ((nI 7) * (v_many z3.toNatClampNeg))) ≤ z2 then (if (z2 - ((nI 7) + ((nI 7) * (v_many z3.toNatClampNeg)))) = (nI 0) then (if v_count ≤ (z3 + (nI 1)) then some ((-1 : Int32), ()) else some ((nI 59), ())) else m_M_letter_4 v_count v_many v_codes n ((z2 - ((nI 7) + ((nI 7) * (v_many z3.toNatClampNeg)))) + (-1 : Int32)) (z3 + (nI 1))) else (if (nI 0) ≤ (z2 - (nI 8)) then (if (irm (z2 - (nI 8)) (nI 7)) = (nI 6) then some ((nI 44), ()) else (if inR (((nI 3) * z3) + ((z2 - (nI 8)) / (nI 7))) 6 = true then (Option.bind (m_M_letterOf (v_codes (((nI 3) * z3) + ((z2 - (nI 8)) / (nI 7))).toNatClampNeg) (irm (z2 - (nI 8)) (nI 7))) (fun v_88 => some (v_88.1, ()))) else none)) else (Option.bind (m_M_head z2) (fun v_48 => some (v_48.1, ()))))) else none)))
def m_M_letter (v_count : Int32) (v_many : Nat → Int32) (v_codes : Nat → Int32) (x1 : Int32) : Option (Int32 × Unit) := m_M_letter_4 v_count v_many v_codes 40 x1 (nI 0)
def m_M_replaced_33 (z0 : Int32) (z2 : Int32) (y0 : Int32) : Option (Int32 × Unit) := some ((((z0 / (nI 9)) * (nI 9)) + ((nI 3) * z2)) + y0, ())
def m_M_replaced_18 (z0 : Int32) (z1 : Int32) (y0 : Int32) : Option (Int32 × Unit) := (if (irm z0 (nI 3)) = (nI 2) then m_M_replaced_33 z0 y0 z1 else m_M_replaced_33 z0 y0 (irm z0 (nI 3)))
def m_M_replaced (x0 : Int32) (x1 : Int32) : Option (Int32 × Unit) := (if (irm (x0 / (nI 3)) (nI 3)) = (nI 2) then m_M_replaced_18 x0 x1 x1 else m_M_replaced_18 x0 x1 (irm (x0 / (nI 3)) (nI 3)))
def m_M_subsumes_148 (v_count : Int32) (v_many : Nat → Int32) (v_codes : Nat → Int32) (k_23 : Int32 → Int32 → Int32 → Int32 → Option (Int32 × Unit)) (z1 : Int32) (z2 : Int32) (z4 : Int32) (y0 : Int32) : Option (Int32 × Unit) := k_23 z1 z2 y0 (z4 + (nI 1))
def m_M_subsumes_143 (v_count : Int32) (v_many : Nat → Int32) (v_codes : Nat → Int32) (k_23 : Int32 → Int32 → Int32 → Int32 → Option (Int32 × Unit)) (z1 : Int32) (z2 : Int32) (z4 : Int32) : Option (Int32 × Unit) := m_M_subsumes_148 v_count v_many v_codes k_23 z1 z2 z4 (nI 1)
def m_M_subsumes_126 (v_count : Int32) (v_many : Nat → Int32) (v_codes : Nat → Int32) (k_35 : Int32 → Int32 → Int32 → Int32 → Int32 → Int32 → Option (Int32 × Unit)) (z1 : Int32) (z2 : Int32) (z3 : Int32) (z4 : Int32) (z6 : Int32) (y0 : Int32) : Option (Int32 × Unit) := k_35 z1 z2 z3 z4 y0 (z6 + (nI 1))
def m_M_subsumes_125 (v_count : Int32) (v_many : Nat → Int32) (v_codes : Nat → Int32) (k_35 : Int32 → Int32 → Int32 → Int32 → Int32 → Int32 → Option (Int32 × Unit)) (z1 : Int32) (z2 : Int32) (z3 : Int32) (z4 : Int32) (z6 : Int32) : Option (Int32 × Unit) := m_M_subsumes_126 v_count v_many v_codes k_35 z1 z2 z3 z4 z6 (nI 0)
def m_M_subsumes_103 (v_count : Int32) (v_many : Nat → Int32) (v_codes : Nat → Int32) (k_52 : Int32 → Int32 → Int32 → Int32 → Int32 → Int32 → Int32 → Int32 → Option (Int32 × Unit)) (z1 : Int32) (z2 : Int32) (z3 : Int32) (z4 : Int32) (z5 : Int32) (z6 : Int32) (z8 : Int32) (y0 : Int32) : Option (Int32 × Unit) := k_52 z1 z2 z3 z4 z5 z6 y0 (z8 + (nI 1))
def m_M_subsumes_98 (v_count : Int32) (v_many : Nat → Int32) (v_codes : Nat → Int32) (k_52 : Int32 → Int32 → Int32 → Int32 → Int32 → Int32 → Int32 → Int32 → Option (Int32 × Unit)) (z1 : Int32) (z2 : Int32) (z3 : Int32) (z4 : Int32) (z5 : Int32) (z6 : Int32) (z8 : Int32) : Option (Int32 × Unit) := m_M_subsumes_103 v_count v_many v_codes k_52 z1 z2 z3 z4 z5 z6 z8 (nI 1)
def m_M_subsumes_52 (v_count : Int32) (v_many : Nat → Int32) (v_codes : Nat → Int32) (k_35 : Int32 → Int32 → Int32 → Int32 → Int32 → Int32 → Option (Int32 × Unit)) : Nat → Int32 → Int32 → Int32 → Int32 → Int32 → Int32 → Int32 → Int32 → Option (Int32 × Unit)
  | 0, _, _, _, _, _, _, _, _ => none
  | n + 1, z1, z2, z3, z4, z5, z6, z7, z8 => (if inR z2 2 = true then (if (v_many z2.toNatClampNeg) ≤ z8 then (if z5 = (nI 0) then m_M_subsumes_125 v_count v_many v_codes k_35 z1 z2 z3 z4 z6 else (if z7 = (nI 0) then m_M_subsumes_125 v_count v_many v_codes k_35 z1 z2 z3 z4 z6 else m_M_subsumes_126 v_count v_many v_codes k_35 z1 z2 z3 z4 z6 (nI 1))) else (if z7 = (nI 0) then (if inR (((nI 3) * z1) + z6) 6 = true then (Option.bind (m_M_replaced (v_codes (((nI 3) * z1) + z6).toNatClampNeg) z4) (fun v_81 => (if inR (((nI 3) * z2) + z8) 6 = true then (if v_81.1 = (v_codes (((nI 3) * z2) + z8).toNatClampNeg) then m_M_subsumes_98 v_count v_many v_codes (m_M_subsumes_52 v_count v_many v_codes k_35 n) z1 z2 z3 z4 z5 z6 z8 else m_M_subsumes_103 v_count v_many v_codes (m_M_subsumes_52 v_count v_many v_codes k_35 n) z1 z2 z3 z4 z5 z6 z8 (nI 0)) else none))) else none) else m_M_subsumes_98 v_count v_many v_codes (m_M_subsumes_52 v_count v_many v_codes k_35 n) z1 z2 z3 z4 z5 z6 z8)) else none)
def m_M_subsumes_35 (v_count : Int32) (v_many : Nat → Int32) (v_codes : Nat → Int32) (k_23 : Int32 → Int32 → Int32 → Int32 → Option (Int32 × Unit)) : Nat → Int32 → Int32 → Int32 → Int32 → Int32 → Int32 → Option (Int32 × Unit)
  | 0, _, _, _, _, _, _ => none
  | n + 1, z1, z2, z3, z4, z5, z6 => (if inR z1 2 = true then (if (v_many z1.toNatClampNeg) ≤ z6 then (if z3 = (nI 0) then (if z5 = (nI 0) then m_M_subsumes_148 v_count v_many v_codes k_23 z1 z2 z4 (nI 0) else m_M_subsumes_143 v_count v_many v_codes k_23 z1 z2 z4) else m_M_subsumes_143 v_count v_many v_codes k_23 z1 z2 z4) else m_M_subsumes_52 v_count v_many v_codes (m_M_subsumes_35 v_count v_many v_codes k_23 n) 40 z1 z2 z3 z4 z5 z6 (nI 0) (nI 0)) else none)
def m_M_subsumes_23 (v_count : Int32) (v_many : Nat → Int32) (v_codes : Nat → Int32) : Nat → Int32 → Int32 → Int32 → Int32 → Option (Int32 × Unit)
  | 0, _, _, _, _ => none
  | n + 1, z1, z2, z3, z4 => (if (nI 3) ≤ z4 then (if isZ z3 = true then some (z3, ()) else none) else m_M_subsumes_35 v_count v_many v_codes (m_M_subsumes_23 v_count v_many v_codes n) 40 z1 z2 z3 z4 (nI 1) (nI 0))
def m_M_subsumes (v_count : Int32) (v_many : Nat → Int32) (v_codes : Nat → Int32) (x1 : Int32) (x2 : Int32) : Option (Int32 × Unit) := (Option.bind (m_M_clause v_count x1) (fun v_2 => (if v_2.1 = (nI 0) then some ((nI 0), ()) else (Option.bind (m_M_clause v_count x2) (fun v_10 => (if v_10.1 = (nI 0) then some ((nI 0), ()) else m_M_subsumes_23 v_count v_many v_codes 40 x1 x2 (nI 0) (nI 0)))))))
def m_M_valueOf (x0 : Int32) (x1 : Int32) (x2 : Int32) (x3 : Int32) : Option (Int32 × Unit) := (if x0 = (nI 0) then some (x1, ()) else (if x0 = (nI 1) then some (x2, ()) else some (x3, ())))
def m_M_literalHolds (v_fact : Nat → Int32) (v_roundOf : Nat → Int32) (x1 : Int32) (x2 : Int32) (x3 : Int32) (x4 : Int32) : Option (Int32 × Unit) := (Option.bind (m_M_valueOf (irm (x1 / (nI 3)) (nI 3)) x2 x3 x4) (fun v_9 => (Option.bind (m_M_valueOf (irm x1 (nI 3)) x2 x3 x4) (fun v_21 => (if (nI 18) ≤ x1 then (if inR (((nI 4) * v_9.1) + v_21.1) 16 = true then (if (v_roundOf (((nI 4) * v_9.1) + v_21.1).toNatClampNeg) ≤ (nI 0) then some ((nI 0), ()) else some ((nI 1), ())) else none) else (if inR (((nI 16) * (x1 / (nI 9))) + (((nI 4) * v_9.1) + v_21.1)) 32 = true then (if isZ (v_fact (((nI 16) * (x1 / (nI 9))) + (((nI 4) * v_9.1) + v_21.1)).toNatClampNeg) = true then some (v_fact (((nI 16) * (x1 / (nI 9))) + (((nI 4) * v_9.1) + v_21.1)).toNatClampNeg, ()) else none) else none))))))
def m_M_follows_68 (v_count : Int32) (v_fact : Nat → Int32) (v_many : Nat → Int32) (v_codes : Nat → Int32) (v_roundOf : Nat → Int32) (k_13 : Int32 → Int32 → Int32 → Int32 → Option (Int32 × Unit)) (z1 : Int32) (z2 : Int32) (z3 : Int32) (z4 : Int32) (z5 : Int32) : Option (Int32 × Unit) := (if z5 = (nI 0) then k_13 z1 z2 z3 (z4 + (nI 1)) else some ((nI 1), ()))
def m_M_follows_25 (v_count : Int32) (v_fact : Nat → Int32) (v_many : Nat → Int32) (v_codes : Nat → Int32) (v_roundOf : Nat → Int32) (k_13 : Int32 → Int32 → Int32 → Int32 → Option (Int32 × Unit)) : Nat → Int32 → Int32 → Int32 → Int32 → Int32 → Int32 → Option (Int32 × Unit)
  | 0, _, _, _, _, _, _ => none
  | n + 1, z1, z2, z3, z4, z5, z6 => (if inR z3 2 = true then (if (v_many z3.toNatClampNeg) ≤ z6 then m_M_follows_68 v_count v_fact v_many v_codes v_roundOf k_13 z1 z2 z3 z4 z5 else (if z5 = (nI 0) then m_M_follows_68 v_count v_fact v_many v_codes v_roundOf k_13 z1 z2 z3 z4 z5 else (if inR (((nI 3) * z3) + z6) 6 = true then (Option.bind (m_M_literalHolds v_fact v_roundOf (v_codes (((nI 3) * z3) + z6).toNatClampNeg) z1 z2 z4) (fun v_57 => m_M_follows_25 v_count v_fact v_many v_codes v_roundOf k_13 n z1 z2 z3 z4 v_57.1 (z6 + (nI 1)))) else none))) else none)
def m_M_follows_13 (v_count : Int32) (v_fact : Nat → Int32) (v_many : Nat → Int32) (v_codes : Nat → Int32) (v_roundOf : Nat → Int32) (k_2 : Int32 → Int32 → Int32 → Option (Int32 × Unit)) : Nat → Int32 → Int32 → Int32 → Int32 → Option (Int32 × Unit)
  | 0, _, _, _, _ => none
  | n + 1, z1, z2, z3, z4 => (if (nI 4) ≤ z4 then k_2 z1 z2 (z3 + (nI 1)) else m_M_follows_25 v_count v_fact v_many v_codes v_roundOf (m_M_follows_13 v_count v_fact v_many v_codes v_roundOf k_2 n) 40 z1 z2 z3 z4 (nI 1) (nI 0))
def m_M_follows_2 (v_count : Int32) (v_fact : Nat → Int32) (v_many : Nat → Int32) (v_codes : Nat → Int32) (v_roundOf : Nat → Int32) : Nat → Int32 → Int32 → Int32 → Option (Int32 × Unit)
  | 0, _, _, _ => none
  | n + 1, z1, z2, z3 => (if v_count ≤ z3 then some ((nI 0), ()) else m_M_follows_13 v_count v_fact v_many v_codes v_roundOf (m_M_follows_2 v_count v_fact v_many v_codes v_roundOf n) 40 z1 z2 z3 (nI 0))
def m_M_follows (v_count : Int32) (v_fact : Nat → Int32) (v_many : Nat → Int32) (v_codes : Nat → Int32) (v_roundOf : Nat → Int32) (x1 : Int32) (x2 : Int32) : Option (Int32 × Unit) := m_M_follows_2 v_count v_fact v_many v_codes v_roundOf 40 x1 x2 (nI 0)
def m_M_work_156 (v_count : Int32) (v_fact : Nat → Int32) (v_many : Nat → Int32) (v_codes : Nat → Int32) (k_123 : Int32 → (Nat → Int32) → (Nat → Int32) → Int32 → Int32 → Option (Int32 × (Nat → Int32) × (Nat → Int32))) (v_last : Int32) (v_roundOf : Nat → Int32) (v_fresh : Nat → Int32) (z1 : Int32) (z2 : Int32) (y0 : Int32) (y1 : Int32) : Option (Int32 × (Nat → Int32) × (Nat → Int32)) := (if inR y1 16 = true then k_123 v_last (upd v_roundOf y1.toNatClampNeg y0) v_fresh z1 (z2 + (nI 1)) else none)
def m_M_work_123 (v_count : Int32) (v_fact : Nat → Int32) (v_many : Nat → Int32) (v_codes : Nat → Int32) (k_28 : Int32 → (Nat → Int32) → (Nat → Int32) → Int32 → Option (Int32 × (Nat → Int32) × (Nat → Int32))) : Nat → Int32 → (Nat → Int32) → (Nat → Int32) → Int32 → Int32 → Option (Int32 × (Nat → Int32) × (Nat → Int32))
  | 0, _, _, _, _, _ => none
  | n + 1, v_last, v_roundOf, v_fresh, z1, z2 => (if (nI 16) ≤ z2 then k_28 v_last v_roundOf v_fresh z1 else (if inR z2 16 = true then (if (v_fresh z2.toNatClampNeg) = (nI 0) then (if inR z2 16 = true then m_M_work_156 v_count v_fact v_many v_codes (m_M_work_123 v_count v_fact v_many v_codes k_28 n) v_last v_roundOf v_fresh z1 z2 (v_roundOf z2.toNatClampNeg) z2 else none) else m_M_work_156 v_count v_fact v_many v_codes (m_M_work_123 v_count v_fact v_many v_codes k_28 n) v_last v_roundOf v_fresh z1 z2 v_last z2) else none))
def m_M_work_118 (v_count : Int32) (v_fact : Nat → Int32) (v_many : Nat → Int32) (v_codes : Nat → Int32) (k_28 : Int32 → (Nat → Int32) → (Nat → Int32) → Int32 → Option (Int32 × (Nat → Int32) × (Nat → Int32))) (v_last : Int32) (v_roundOf : Nat → Int32) (v_fresh : Nat → Int32) (z1 : Int32) (y0 : Int32) : Option (Int32 × (Nat → Int32) × (Nat → Int32)) := m_M_work_123 v_count v_fact v_many v_codes k_28 40 y0 v_roundOf v_fresh z1 (nI 0)
def m_M_work_93 (v_count : Int32) (v_fact : Nat → Int32) (v_many : Nat → Int32) (v_codes : Nat → Int32) (k_36 : Int32 → (Nat → Int32) → (Nat → Int32) → Int32 → Int32 → Option (Int32 × (Nat → Int32) × (Nat → Int32))) (v_last : Int32) (v_roundOf : Nat → Int32) (v_fresh : Nat → Int32) (z2 : Int32) (y0 : Int32) : Option (Int32 × (Nat → Int32) × (Nat → Int32)) := k_36 v_last v_roundOf v_fresh y0 (z2 + (nI 1))
def m_M_work_88 (v_count : Int32) (v_fact : Nat → Int32) (v_many : Nat → Int32) (v_codes : Nat → Int32) (k_36 : Int32 → (Nat → Int32) → (Nat → Int32) → Int32 → Int32 → Option (Int32 × (Nat → Int32) × (Nat → Int32))) (v_last : Int32) (v_roundOf : Nat → Int32) (v_fresh : Nat → Int32) (z2 : Int32) : Option (Int32 × (Nat → Int32) × (Nat → Int32)) := m_M_work_93 v_count v_fact v_many v_codes k_36 v_last v_roundOf v_fresh z2 (nI 1)
def m_M_work_74 (v_count : Int32) (v_fact : Nat → Int32) (v_many : Nat → Int32) (v_codes : Nat → Int32) (k_36 : Int32 → (Nat → Int32) → (Nat → Int32) → Int32 → Int32 → Option (Int32 × (Nat → Int32) × (Nat → Int32))) (v_last : Int32) (v_roundOf : Nat → Int32) (v_fresh : Nat → Int32) (z1 : Int32) (z2 : Int32) (y0 : Int32) (y1 : Int32) : Option (Int32 × (Nat → Int32) × (Nat → Int32)) := (if inR y1 16 = true then (if isZ y0 = true then (if z1 = (nI 0) then (if inR z2 16 = true then (if ((upd v_fresh y1.toNatClampNeg y0) z2.toNatClampNeg) = (nI 0) then m_M_work_93 v_count v_fact v_many v_codes k_36 v_last v_roundOf (upd v_fresh y1.toNatClampNeg y0) z2 (nI 0) else m_M_work_88 v_count v_fact v_many v_codes k_36 v_last v_roundOf (upd v_fresh y1.toNatClampNeg y0) z2) else none) else m_M_work_88 v_count v_fact v_many v_codes k_36 v_last v_roundOf (upd v_fresh y1.toNatClampNeg y0) z2) else none) else none)
def m_M_work_73 (v_count : Int32) (v_fact : Nat → Int32) (v_many : Nat → Int32) (v_codes : Nat → Int32) (k_36 : Int32 → (Nat → Int32) → (Nat → Int32) → Int32 → Int32 → Option (Int32 × (Nat → Int32) × (Nat → Int32))) (v_last : Int32) (v_roundOf : Nat → Int32) (v_fresh : Nat → Int32) (z1 : Int32) (z2 : Int32) (y0 : Int32) : Option (Int32 × (Nat → Int32) × (Nat → Int32)) := m_M_work_74 v_count v_fact v_many v_codes k_36 v_last v_roundOf v_fresh z1 z2 (nI 0) y0
def m_M_work_36 (v_count : Int32) (v_fact : Nat → Int32) (v_many : Nat → Int32) (v_codes : Nat → Int32) (k_28 : Int32 → (Nat → Int32) → (Nat → Int32) → Int32 → Option (Int32 × (Nat → Int32) × (Nat → Int32))) : Nat → Int32 → (Nat → Int32) → (Nat → Int32) → Int32 → Int32 → Option (Int32 × (Nat → Int32) × (Nat → Int32))
  | 0, _, _, _, _, _ => none
  | n + 1, v_last, v_roundOf, v_fresh, z1, z2 => (if (nI 16) ≤ z2 then (if z1 = (nI 0) then m_M_work_118 v_count v_fact v_many v_codes k_28 v_last v_roundOf v_fresh z1 v_last else m_M_work_118 v_count v_fact v_many v_codes k_28 v_last v_roundOf v_fresh z1 (v_last + (nI 1))) else (if inR z2 16 = true then (if (v_roundOf z2.toNatClampNeg) = (nI 0) then (Option.bind (m_M_follows v_count v_fact v_many v_codes v_roundOf (z2 / (nI 4)) (irm z2 (nI 4))) (fun v_63 => (if v_63.1 = (nI 0) then m_M_work_73 v_count v_fact v_many v_codes (m_M_work_36 v_count v_fact v_many v_codes k_28 n) v_last v_roundOf v_fresh z1 z2 z2 else m_M_work_74 v_count v_fact v_many v_codes (m_M_work_36 v_count v_fact v_many v_codes k_28 n) v_last v_roundOf v_fresh z1 z2 (nI 1) z2))) else m_M_work_73 v_count v_fact v_many v_codes (m_M_work_36 v_count v_fact v_many v_codes k_28 n) v_last v_roundOf v_fresh z1 z2 z2) else none))
def m_M_work_28 (v_count : Int32) (v_fact : Nat → Int32) (v_many : Nat → Int32) (v_codes : Nat → Int32) : Nat → Int32 → (Nat → Int32) → (Nat → Int32) → Int32 → Option (Int32 × (Nat → Int32) × (Nat → Int32))
  | 0, _, _, _, _ => none
  | n + 1, v_last, v_roundOf, v_fresh, z1 => (if z1 = (nI 0) then some (v_last, v_roundOf, v_fresh) else m_M_work_36 v_count v_fact v_many v_codes (m_M_work_28 v_count v_fact v_many v_codes n) 40 v_last v_roundOf v_fresh (nI 0) (nI 0))
def m_M_work_2 (v_count : Int32) (v_fact : Nat → Int32) (v_many : Nat → Int32) (v_codes : Nat → Int32) : Nat → Int32 → (Nat → Int32) → (Nat → Int32) → Int32 → Option (Int32 × (Nat → Int32) × (Nat → Int32))
  | 0, _, _, _, _ => none
  | n + 1, v_last, v_roundOf, v_fresh, z1 => (if (nI 16) ≤ z1 then m_M_work_28 v_count v_fact v_many v_codes 40 (nI 0) v_roundOf v_fresh (nI 1) else (if inR z1 16 = true then m_M_work_2 v_count v_fact v_many v_codes n v_last (upd v_roundOf z1.toNatClampNeg (nI 0)) v_fresh (z1 + (nI 1)) else none))
def m_M_work (v_count : Int32) (v_last : Int32) (v_fact : Nat → Int32) (v_many : Nat → Int32) (v_codes : Nat → Int32) (v_roundOf : Nat → Int32) (v_fresh : Nat → Int32) : Option (Int32 × (Nat → Int32) × (Nat → Int32)) := m_M_work_2 v_count v_fact v_many v_codes 40 v_last v_roundOf v_fresh (nI 0)
def m_M_given (v_count : Int32) (v_last : Int32) (v_fact : Nat → Int32) (v_many : Nat → Int32) (v_codes : Nat → Int32) (v_roundOf : Nat → Int32) (v_fresh : Nat → Int32) (x1 : Int32) (x2 : Int32) : Option (Int32 × Int32 × (Nat → Int32) × (Nat → Int32)) := (Option.bind (m_M_work v_count v_last v_fact v_many v_codes v_roundOf v_fresh) (fun v_1 => (Option.bind (m_M_constant x1) (fun v_5 => (if v_5.1 = (nI 0) then some ((nI 0), (v_1.1, v_1.2.1, v_1.2.2)) else (Option.bind (m_M_constant x2) (fun v_12 => (if v_12.1 = (nI 0) then some ((nI 0), (v_1.1, v_1.2.1, v_1.2.2)) else (if inR (((nI 4) * x1) + x2) 16 = true then some (v_1.2.1 (((nI 4) * x1) + x2).toNatClampNeg, (v_1.1, v_1.2.1, v_1.2.2)) else none)))))))))
def m_M_rounds (v_count : Int32) (v_last : Int32) (v_fact : Nat → Int32) (v_many : Nat → Int32) (v_codes : Nat → Int32) (v_roundOf : Nat → Int32) (v_fresh : Nat → Int32) : Option (Int32 × Int32 × (Nat → Int32) × (Nat → Int32)) := (Option.bind (m_M_work v_count v_last v_fact v_many v_codes v_roundOf v_fresh) (fun v_1 => some (v_1.1, (v_1.1, v_1.2.1, v_1.2.2))))
def m_M_fits_61 (v_count : Int32) (v_fact : Nat → Int32) (v_marked : Nat → Int32) (v_many : Nat → Int32) (v_codes : Nat → Int32) (k_8 : Int32 → (Nat → Int32) → (Nat → Int32) → Int32 → Int32 → Option (Int32 × Int32 × (Nat → Int32) × (Nat → Int32))) (v_last : Int32) (v_roundOf : Nat → Int32) (v_fresh : Nat → Int32) (z2 : Int32) (y0 : Int32) : Option (Int32 × Int32 × (Nat → Int32) × (Nat → Int32)) := k_8 v_last v_roundOf v_fresh y0 (z2 + (nI 1))
def m_M_fits_60 (v_count : Int32) (v_fact : Nat → Int32) (v_marked : Nat → Int32) (v_many : Nat → Int32) (v_codes : Nat → Int32) (k_8 : Int32 → (Nat → Int32) → (Nat → Int32) → Int32 → Int32 → Option (Int32 × Int32 × (Nat → Int32) × (Nat → Int32))) (v_last : Int32) (v_roundOf : Nat → Int32) (v_fresh : Nat → Int32) (z2 : Int32) : Option (Int32 × Int32 × (Nat → Int32) × (Nat → Int32)) := m_M_fits_61 v_count v_fact v_marked v_many v_codes k_8 v_last v_roundOf v_fresh z2 (nI 0)
def m_M_fits_56 (v_count : Int32) (v_fact : Nat → Int32) (v_marked : Nat → Int32) (v_many : Nat → Int32) (v_codes : Nat → Int32) (k_8 : Int32 → (Nat → Int32) → (Nat → Int32) → Int32 → Int32 → Option (Int32 × Int32 × (Nat → Int32) × (Nat → Int32))) (v_last : Int32) (v_roundOf : Nat → Int32) (v_fresh : Nat → Int32) (z2 : Int32) : Option (Int32 × Int32 × (Nat → Int32) × (Nat → Int32)) := m_M_fits_61 v_count v_fact v_marked v_many v_codes k_8 v_last v_roundOf v_fresh z2 (nI 1)
def m_M_fits_37 (v_count : Int32) (v_fact : Nat → Int32) (v_marked : Nat → Int32) (v_many : Nat → Int32) (v_codes : Nat → Int32) (k_8 : Int32 → (Nat → Int32) → (Nat → Int32) → Int32 → Int32 → Option (Int32 × Int32 × (Nat → Int32) × (Nat → Int32))) (v_last : Int32) (v_roundOf : Nat → Int32) (v_fresh : Nat → Int32) (z2 : Int32) : Option (Int32 × Int32 × (Nat → Int32) × (Nat → Int32)) := (if inR z2 16 = true then (if (v_marked z2.toNatClampNeg) = (-1 : Int32) then (if inR z2 16 = true then (if (v_roundOf z2.toNatClampNeg) = (nI 0) then m_M_fits_56 v_count v_fact v_marked v_many v_codes k_8 v_last v_roundOf v_fresh z2 else m_M_fits_60 v_count v_fact v_marked v_many v_codes k_8 v_last v_roundOf v_fresh z2) else none) else m_M_fits_56 v_count v_fact v_marked v_many v_codes k_8 v_last v_roundOf v_fresh z2) else none)
def m_M_fits_8 (v_count : Int32) (v_fact : Nat → Int32) (v_marked : Nat → Int32) (v_many : Nat → Int32) (v_codes : Nat → Int32) : Nat → Int32 → (Nat → Int32) → (Nat → Int32) → Int32 → Int32 → Option (Int32 × Int32 × (Nat → Int32) × (Nat → Int32))
  | 0, _, _, _, _, _ => none
  | n + 1, v_last, v_roundOf, v_fresh, z1, z2 => (if (nI 16) ≤ z2 then (if isZ z1 = true then some (z1, (v_last, v_roundOf, v_fresh)) else none) else (if z1 = (nI 0) then m_M_fits_60 v_count v_fact v_marked v_many v_codes (m_M_fits_8 v_count v_fact v_marked v_many v_codes n) v_last v_roundOf v_fresh z2 else (if inR z2 16 = true then (if (v_marked z2.toNatClampNeg) = (nI 1) then (if inR z2 16 = true then (if (v_roundOf z2.toNatClampNeg) ≤ (nI 0) then m_M_fits_60 v_count v_fact v_marked v_many v_codes (m_M_fits_8 v_count v_fact v_marked v_many v_codes n) v_last v_roundOf v_fresh z2 else m_M_fits_37 v_count v_fact v_marked v_many v_codes (m_M_fits_8 v_count v_fact v_marked v_many v_codes n) v_last v_roundOf v_fresh z2) else none) else m_M_fits_37 v_count v_fact v_marked v_many v_codes (m_M_fits_8 v_count v_fact v_marked v_many v_codes n) v_last v_roundOf v_fresh z2) else none)))
def m_M_fits (v_count : Int32) (v_last : Int32) (v_fact : Nat → Int32) (v_marked : Nat → Int32) (v_many : Nat → Int32) (v_codes : Nat → Int32) (v_roundOf : Nat → Int32) (v_fresh : Nat → Int32) : Option (Int32 × Int32 × (Nat → Int32) × (Nat → Int32)) := (Option.bind (m_M_work v_count v_last v_fact v_many v_codes v_roundOf v_fresh) (fun v_1 => m_M_fits_8 v_count v_fact v_marked v_many v_codes 40 v_1.1 v_1.2.1 v_1.2.2 (nI 1) (nI 0)))
def m_M_set_87 (v_many : Nat → Int32) (v_codes : Nat → Int32) (y0 : Int32) (y1 : Int32) : Option (Int32 × (Nat → Int32) × (Nat → Int32)) := (if ((y1 ||| y0) &&& (nI 3)) = (nI 3) then some ((nI 1), (v_many, v_codes)) else some ((nI 0), (v_many, v_codes)))
def m_M_set_72 (v_many : Nat → Int32) (v_codes : Nat → Int32) (z4 : Int32) (y0 : Int32) (y1 : Int32) : Option (Int32 × (Nat → Int32) × (Nat → Int32)) := (if (nI 0) ≤ z4 then (Option.bind (m_M_variables z4) (fun v_84 => m_M_set_87 v_many v_codes v_84.1 (y1 ||| y0))) else m_M_set_87 v_many v_codes (nI 0) (y1 ||| y0))
def m_M_set_23 (v_many : Nat → Int32) (v_codes : Nat → Int32) (z1 : Int32) (z2 : Int32) (z3 : Int32) (z4 : Int32) (y0 : Int32) (y1 : Int32) : Option (Int32 × (Nat → Int32) × (Nat → Int32)) := (if inR y1 2 = true then (if inR ((nI 3) * z1) 6 = true then (if inR (((nI 3) * z1) + (nI 1)) 6 = true then (if inR (((nI 3) * z1) + (nI 2)) 6 = true then (Option.bind (m_M_variables z2) (fun v_57 => (if (nI 0) ≤ z3 then (Option.bind (m_M_variables z3) (fun v_69 => m_M_set_72 (upd v_many y1.toNatClampNeg y0) (upd (upd (upd v_codes ((nI 3) * z1).toNatClampNeg z2) (((nI 3) * z1) + (nI 1)).toNatClampNeg z3) (((nI 3) * z1) + (nI 2)).toNatClampNeg z4) z4 v_69.1 v_57.1)) else m_M_set_72 (upd v_many y1.toNatClampNeg y0) (upd (upd (upd v_codes ((nI 3) * z1).toNatClampNeg z2) (((nI 3) * z1) + (nI 1)).toNatClampNeg z3) (((nI 3) * z1) + (nI 2)).toNatClampNeg z4) z4 (nI 0) v_57.1))) else none) else none) else none) else none)
def m_M_set (v_many : Nat → Int32) (v_codes : Nat → Int32) (x1 : Int32) (x2 : Int32) (x3 : Int32) (x4 : Int32) : Option (Int32 × (Nat → Int32) × (Nat → Int32)) := (if (nI 0) ≤ x3 then (if (nI 0) ≤ x4 then m_M_set_23 v_many v_codes x1 x2 x3 x4 (nI 3) x1 else m_M_set_23 v_many v_codes x1 x2 x3 x4 (nI 2) x1) else m_M_set_23 v_many v_codes x1 x2 x3 x4 (nI 1) x1)
def m_M_keep_10 (v_count : Int32) (v_many : Nat → Int32) (v_codes : Nat → Int32) : Nat → Int32 → (Nat → Int32) → (Nat → Int32) → Int32 → Option (Int32 × (Nat → Int32) × (Nat → Int32))
  | 0, _, _, _, _ => none
  | n + 1, v_oldCount, v_oldMany, v_oldCodes, z1 => (if (nI 6) ≤ z1 then (if inR (nI 0) 2 = true then (if inR (nI 0) 2 = true then (if inR (nI 1) 2 = true then (if inR (nI 1) 2 = true then some (v_oldCount, upd (upd v_oldMany (nI 0).toNatClampNeg (v_many (nI 0).toNatClampNeg)) (nI 1).toNatClampNeg (v_many (nI 1).toNatClampNeg), v_oldCodes) else none) else none) else none) else none) else (if inR z1 6 = true then (if inR z1 6 = true then m_M_keep_10 v_count v_many v_codes n v_oldCount v_oldMany (upd v_oldCodes z1.toNatClampNeg (v_codes z1.toNatClampNeg)) (z1 + (nI 1)) else none) else none))
def m_M_keep (v_count : Int32) (v_oldCount : Int32) (v_many : Nat → Int32) (v_codes : Nat → Int32) (v_oldMany : Nat → Int32) (v_oldCodes : Nat → Int32) : Option (Int32 × (Nat → Int32) × (Nat → Int32)) := m_M_keep_10 v_count v_many v_codes 40 v_count v_oldMany v_oldCodes (nI 0)
def m_M_putBack_10 (v_oldCount : Int32) (v_oldMany : Nat → Int32) (v_oldCodes : Nat → Int32) : Nat → Int32 → (Nat → Int32) → (Nat → Int32) → Int32 → Option (Int32 × (Nat → Int32) × (Nat → Int32))
  | 0, _, _, _, _ => none
  | n + 1, v_count, v_many, v_codes, z1 => (if (nI 6) ≤ z1 then (if inR (nI 0) 2 = true then (if inR (nI 0) 2 = true then (if inR (nI 1) 2 = true then (if inR (nI 1) 2 = true then some (v_count, upd (upd v_many (nI 0).toNatClampNeg (v_oldMany (nI 0).toNatClampNeg)) (nI 1).toNatClampNeg (v_oldMany (nI 1).toNatClampNeg), v_codes) else none) else none) else none) else none) else (if inR z1 6 = true then (if inR z1 6 = true then m_M_putBack_10 v_oldCount v_oldMany v_oldCodes n v_count v_many (upd v_codes z1.toNatClampNeg (v_oldCodes z1.toNatClampNeg)) (z1 + (nI 1)) else none) else none))
def m_M_putBack (v_count : Int32) (v_oldCount : Int32) (v_many : Nat → Int32) (v_codes : Nat → Int32) (v_oldMany : Nat → Int32) (v_oldCodes : Nat → Int32) : Option (Int32 × (Nat → Int32) × (Nat → Int32)) := m_M_putBack_10 v_oldCount v_oldMany v_oldCodes 40 v_oldCount v_many v_codes (nI 0)
def m_M_alone_98 (v_fact : Nat → Int32) (v_marked : Nat → Int32) (k_48 : Int32 → Int32 → (Nat → Int32) → (Nat → Int32) → (Nat → Int32) → (Nat → Int32) → Int32 → Int32 → Int32 → Int32 → Option (Int32 × Int32 × Int32 × (Nat → Int32) × (Nat → Int32) × (Nat → Int32) × (Nat → Int32))) (v_count : Int32) (v_last : Int32) (v_many : Nat → Int32) (v_codes : Nat → Int32) (v_roundOf : Nat → Int32) (v_fresh : Nat → Int32) (z1 : Int32) (z2 : Int32) (z3 : Int32) (z4 : Int32) : Option (Int32 × Int32 × Int32 × (Nat → Int32) × (Nat → Int32) × (Nat → Int32) × (Nat → Int32)) := k_48 v_count v_last v_many v_codes v_roundOf v_fresh z1 z2 z3 (z4 + (nI 1))
def m_M_alone_79 (v_fact : Nat → Int32) (v_marked : Nat → Int32) (k_48 : Int32 → Int32 → (Nat → Int32) → (Nat → Int32) → (Nat → Int32) → (Nat → Int32) → Int32 → Int32 → Int32 → Int32 → Option (Int32 × Int32 × Int32 × (Nat → Int32) × (Nat → Int32) × (Nat → Int32) × (Nat → Int32))) (v_count : Int32) (v_last : Int32) (v_many : Nat → Int32) (v_codes : Nat → Int32) (v_roundOf : Nat → Int32) (v_fresh : Nat → Int32) (z1 : Int32) (z2 : Int32) (z3 : Int32) (z4 : Int32) (y0 : Int32) (y1 : Int32) (y2 : Int32) (y3 : Int32) : Option (Int32 × Int32 × Int32 × (Nat → Int32) × (Nat → Int32) × (Nat → Int32) × (Nat → Int32)) := (Option.bind (m_M_set v_many v_codes y3 y2 y1 y0) (fun v_79 => (if v_79.1 = (nI 0) then m_M_alone_98 v_fact v_marked k_48 v_count v_last v_79.2.1 v_79.2.2 v_roundOf v_fresh z1 z2 z3 z4 else (Option.bind (m_M_fits v_count v_last v_fact v_marked v_79.2.1 v_79.2.2 v_roundOf v_fresh) (fun v_90 => (if v_90.1 = (nI 0) then m_M_alone_98 v_fact v_marked k_48 v_count v_90.2.1 v_79.2.1 v_79.2.2 v_90.2.2.1 v_90.2.2.2 z1 z2 z3 z4 else some ((nI 1), (v_count, v_90.2.1, v_79.2.1, v_79.2.2, v_90.2.2.1, v_90.2.2.2))))))))
def m_M_alone_68 (v_fact : Nat → Int32) (v_marked : Nat → Int32) (k_48 : Int32 → Int32 → (Nat → Int32) → (Nat → Int32) → (Nat → Int32) → (Nat → Int32) → Int32 → Int32 → Int32 → Int32 → Option (Int32 × Int32 × Int32 × (Nat → Int32) × (Nat → Int32) × (Nat → Int32) × (Nat → Int32))) (v_count : Int32) (v_last : Int32) (v_many : Nat → Int32) (v_codes : Nat → Int32) (v_roundOf : Nat → Int32) (v_fresh : Nat → Int32) (z1 : Int32) (z2 : Int32) (z3 : Int32) (z4 : Int32) (y0 : Int32) (y1 : Int32) (y2 : Int32) : Option (Int32 × Int32 × Int32 × (Nat → Int32) × (Nat → Int32) × (Nat → Int32) × (Nat → Int32)) := (if z1 ≤ (nI 2) then m_M_alone_79 v_fact v_marked k_48 v_count v_last v_many v_codes v_roundOf v_fresh z1 z2 z3 z4 (-1 : Int32) y0 y1 y2 else m_M_alone_79 v_fact v_marked k_48 v_count v_last v_many v_codes v_roundOf v_fresh z1 z2 z3 z4 z4 y0 y1 y2)
def m_M_alone_48 (v_fact : Nat → Int32) (v_marked : Nat → Int32) (k_27 : Int32 → Int32 → (Nat → Int32) → (Nat → Int32) → (Nat → Int32) → (Nat → Int32) → Int32 → Int32 → Int32 → Option (Int32 × Int32 × Int32 × (Nat → Int32) × (Nat → Int32) × (Nat → Int32) × (Nat → Int32))) : Nat → Int32 → Int32 → (Nat → Int32) → (Nat → Int32) → (Nat → Int32) → (Nat → Int32) → Int32 → Int32 → Int32 → Int32 → Option (Int32 × Int32 × Int32 × (Nat → Int32) × (Nat → Int32) × (Nat → Int32) × (Nat → Int32))
  | 0, _, _, _, _, _, _, _, _, _, _ => none
  | n + 1, v_count, v_last, v_many, v_codes, v_roundOf, v_fresh, z1, z2, z3, z4 => (if (nI 27) ≤ z4 then k_27 v_count v_last v_many v_codes v_roundOf v_fresh z1 z2 (z3 + (nI 1)) else (if z1 ≤ (nI 1) then m_M_alone_68 v_fact v_marked (m_M_alone_48 v_fact v_marked k_27 n) v_count v_last v_many v_codes v_roundOf v_fresh z1 z2 z3 z4 (-1 : Int32) z2 (nI 0) else m_M_alone_68 v_fact v_marked (m_M_alone_48 v_fact v_marked k_27 n) v_count v_last v_many v_codes v_roundOf v_fresh z1 z2 z3 z4 z3 z2 (nI 0)))
def m_M_alone_46 (v_fact : Nat → Int32) (v_marked : Nat → Int32) (k_27 : Int32 → Int32 → (Nat → Int32) → (Nat → Int32) → (Nat → Int32) → (Nat → Int32) → Int32 → Int32 → Int32 → Option (Int32 × Int32 × Int32 × (Nat → Int32) × (Nat → Int32) × (Nat → Int32) × (Nat → Int32))) (v_count : Int32) (v_last : Int32) (v_many : Nat → Int32) (v_codes : Nat → Int32) (v_roundOf : Nat → Int32) (v_fresh : Nat → Int32) (z1 : Int32) (z2 : Int32) (z3 : Int32) (y0 : Int32) : Option (Int32 × Int32 × Int32 × (Nat → Int32) × (Nat → Int32) × (Nat → Int32) × (Nat → Int32)) := m_M_alone_48 v_fact v_marked k_27 40 v_count v_last v_many v_codes v_roundOf v_fresh z1 z2 z3 y0
def m_M_alone_27 (v_fact : Nat → Int32) (v_marked : Nat → Int32) (k_7 : Int32 → Int32 → (Nat → Int32) → (Nat → Int32) → (Nat → Int32) → (Nat → Int32) → Int32 → Int32 → Option (Int32 × Int32 × Int32 × (Nat → Int32) × (Nat → Int32) × (Nat → Int32) × (Nat → Int32))) : Nat → Int32 → Int32 → (Nat → Int32) → (Nat → Int32) → (Nat → Int32) → (Nat → Int32) → Int32 → Int32 → Int32 → Option (Int32 × Int32 × Int32 × (Nat → Int32) × (Nat → Int32) × (Nat → Int32) × (Nat → Int32))
  | 0, _, _, _, _, _, _, _, _, _ => none
  | n + 1, v_count, v_last, v_many, v_codes, v_roundOf, v_fresh, z1, z2, z3 => (if (nI 27) ≤ z3 then k_7 v_count v_last v_many v_codes v_roundOf v_fresh z1 (z2 + (nI 1)) else (if z1 ≤ (nI 2) then m_M_alone_46 v_fact v_marked (m_M_alone_27 v_fact v_marked k_7 n) v_count v_last v_many v_codes v_roundOf v_fresh z1 z2 z3 (nI 26) else m_M_alone_46 v_fact v_marked (m_M_alone_27 v_fact v_marked k_7 n) v_count v_last v_many v_codes v_roundOf v_fresh z1 z2 z3 (z3 + (nI 1))))
def m_M_alone_26 (v_fact : Nat → Int32) (v_marked : Nat → Int32) (k_7 : Int32 → Int32 → (Nat → Int32) → (Nat → Int32) → (Nat → Int32) → (Nat → Int32) → Int32 → Int32 → Option (Int32 × Int32 × Int32 × (Nat → Int32) × (Nat → Int32) × (Nat → Int32) × (Nat → Int32))) (v_count : Int32) (v_last : Int32) (v_many : Nat → Int32) (v_codes : Nat → Int32) (v_roundOf : Nat → Int32) (v_fresh : Nat → Int32) (z1 : Int32) (z2 : Int32) (y0 : Int32) : Option (Int32 × Int32 × Int32 × (Nat → Int32) × (Nat → Int32) × (Nat → Int32) × (Nat → Int32)) := m_M_alone_27 v_fact v_marked k_7 40 v_count v_last v_many v_codes v_roundOf v_fresh z1 z2 y0
def m_M_alone_7 (v_fact : Nat → Int32) (v_marked : Nat → Int32) : Nat → Int32 → Int32 → (Nat → Int32) → (Nat → Int32) → (Nat → Int32) → (Nat → Int32) → Int32 → Int32 → Option (Int32 × Int32 × Int32 × (Nat → Int32) × (Nat → Int32) × (Nat → Int32) × (Nat → Int32))
  | 0, _, _, _, _, _, _, _, _ => none
  | n + 1, v_count, v_last, v_many, v_codes, v_roundOf, v_fresh, z1, z2 => (if (nI 27) ≤ z2 then some ((nI 0), (v_count, v_last, v_many, v_codes, v_roundOf, v_fresh)) else (if z1 ≤ (nI 1) then m_M_alone_26 v_fact v_marked (m_M_alone_7 v_fact v_marked n) v_count v_last v_many v_codes v_roundOf v_fresh z1 z2 (nI 26) else m_M_alone_26 v_fact v_marked (m_M_alone_7 v_fact v_marked n) v_count v_last v_many v_codes v_roundOf v_fresh z1 z2 (z2 + (nI 1))))
def m_M_alone (v_count : Int32) (v_last : Int32) (v_fact : Nat → Int32) (v_marked : Nat → Int32) (v_many : Nat → Int32) (v_codes : Nat → Int32) (v_roundOf : Nat → Int32) (v_fresh : Nat → Int32) (x1 : Int32) : Option (Int32 × Int32 × Int32 × (Nat → Int32) × (Nat → Int32) × (Nat → Int32) × (Nat → Int32)) := m_M_alone_7 v_fact v_marked 40 (nI 1) v_last v_many v_codes v_roundOf v_fresh x1 (nI 0)
def m_M_pair_103 (v_fact : Nat → Int32) (v_marked : Nat → Int32) (k_47 : Int32 → Int32 → (Nat → Int32) → (Nat → Int32) → (Nat → Int32) → (Nat → Int32) → Int32 → Int32 → Int32 → Int32 → Option (Int32 × Int32 × Int32 × (Nat → Int32) × (Nat → Int32) × (Nat → Int32) × (Nat → Int32))) (v_count : Int32) (v_last : Int32) (v_many : Nat → Int32) (v_codes : Nat → Int32) (v_roundOf : Nat → Int32) (v_fresh : Nat → Int32) (z1 : Int32) (z2 : Int32) (z3 : Int32) (z4 : Int32) : Option (Int32 × Int32 × Int32 × (Nat → Int32) × (Nat → Int32) × (Nat → Int32) × (Nat → Int32)) := k_47 v_count v_last v_many v_codes v_roundOf v_fresh z1 z2 z3 (z4 + (nI 1))
def m_M_pair_78 (v_fact : Nat → Int32) (v_marked : Nat → Int32) (k_47 : Int32 → Int32 → (Nat → Int32) → (Nat → Int32) → (Nat → Int32) → (Nat → Int32) → Int32 → Int32 → Int32 → Int32 → Option (Int32 × Int32 × Int32 × (Nat → Int32) × (Nat → Int32) × (Nat → Int32) × (Nat → Int32))) (v_count : Int32) (v_last : Int32) (v_many : Nat → Int32) (v_codes : Nat → Int32) (v_roundOf : Nat → Int32) (v_fresh : Nat → Int32) (z1 : Int32) (z2 : Int32) (z3 : Int32) (z4 : Int32) (z5 : Int32) (y0 : Int32) (y1 : Int32) (y2 : Int32) : Option (Int32 × Int32 × Int32 × (Nat → Int32) × (Nat → Int32) × (Nat → Int32) × (Nat → Int32)) := (Option.bind (m_M_set v_many v_codes y2 y1 y0 (-1 : Int32)) (fun v_79 => (if z5 = (nI 0) then m_M_pair_103 v_fact v_marked k_47 v_count v_last v_79.2.1 v_79.2.2 v_roundOf v_fresh z1 z2 z3 z4 else (if v_79.1 = (nI 0) then m_M_pair_103 v_fact v_marked k_47 v_count v_last v_79.2.1 v_79.2.2 v_roundOf v_fresh z1 z2 z3 z4 else (Option.bind (m_M_fits v_count v_last v_fact v_marked v_79.2.1 v_79.2.2 v_roundOf v_fresh) (fun v_95 => (if v_95.1 = (nI 0) then m_M_pair_103 v_fact v_marked k_47 v_count v_95.2.1 v_79.2.1 v_79.2.2 v_95.2.2.1 v_95.2.2.2 z1 z2 z3 z4 else some ((nI 1), (v_count, v_95.2.1, v_79.2.1, v_79.2.2, v_95.2.2.1, v_95.2.2.2)))))))))
def m_M_pair_47 (v_fact : Nat → Int32) (v_marked : Nat → Int32) (k_26 : Int32 → Int32 → (Nat → Int32) → (Nat → Int32) → (Nat → Int32) → (Nat → Int32) → Int32 → Int32 → Int32 → Option (Int32 × Int32 × Int32 × (Nat → Int32) × (Nat → Int32) × (Nat → Int32) × (Nat → Int32))) : Nat → Int32 → Int32 → (Nat → Int32) → (Nat → Int32) → (Nat → Int32) → (Nat → Int32) → Int32 → Int32 → Int32 → Int32 → Option (Int32 × Int32 × Int32 × (Nat → Int32) × (Nat → Int32) × (Nat → Int32) × (Nat → Int32))
  | 0, _, _, _, _, _, _, _, _, _, _ => none
  | n + 1, v_count, v_last, v_many, v_codes, v_roundOf, v_fresh, z1, z2, z3, z4 => (if (nI 27) ≤ z4 then k_26 v_count v_last v_many v_codes v_roundOf v_fresh z1 z2 (z3 + (nI 1)) else (Option.bind (m_M_set v_many v_codes (nI 0) z2 (-1 : Int32) (-1 : Int32)) (fun v_59 => (if z1 ≤ (nI 2) then m_M_pair_78 v_fact v_marked (m_M_pair_47 v_fact v_marked k_26 n) v_count v_last v_59.2.1 v_59.2.2 v_roundOf v_fresh z1 z2 z3 z4 v_59.1 (-1 : Int32) z3 (nI 1) else m_M_pair_78 v_fact v_marked (m_M_pair_47 v_fact v_marked k_26 n) v_count v_last v_59.2.1 v_59.2.2 v_roundOf v_fresh z1 z2 z3 z4 v_59.1 z4 z3 (nI 1)))))
def m_M_pair_45 (v_fact : Nat → Int32) (v_marked : Nat → Int32) (k_26 : Int32 → Int32 → (Nat → Int32) → (Nat → Int32) → (Nat → Int32) → (Nat → Int32) → Int32 → Int32 → Int32 → Option (Int32 × Int32 × Int32 × (Nat → Int32) × (Nat → Int32) × (Nat → Int32) × (Nat → Int32))) (v_count : Int32) (v_last : Int32) (v_many : Nat → Int32) (v_codes : Nat → Int32) (v_roundOf : Nat → Int32) (v_fresh : Nat → Int32) (z1 : Int32) (z2 : Int32) (z3 : Int32) (y0 : Int32) : Option (Int32 × Int32 × Int32 × (Nat → Int32) × (Nat → Int32) × (Nat → Int32) × (Nat → Int32)) := m_M_pair_47 v_fact v_marked k_26 40 v_count v_last v_many v_codes v_roundOf v_fresh z1 z2 z3 y0
def m_M_pair_26 (v_fact : Nat → Int32) (v_marked : Nat → Int32) (k_7 : Int32 → Int32 → (Nat → Int32) → (Nat → Int32) → (Nat → Int32) → (Nat → Int32) → Int32 → Int32 → Option (Int32 × Int32 × Int32 × (Nat → Int32) × (Nat → Int32) × (Nat → Int32) × (Nat → Int32))) : Nat → Int32 → Int32 → (Nat → Int32) → (Nat → Int32) → (Nat → Int32) → (Nat → Int32) → Int32 → Int32 → Int32 → Option (Int32 × Int32 × Int32 × (Nat → Int32) × (Nat → Int32) × (Nat → Int32) × (Nat → Int32))
  | 0, _, _, _, _, _, _, _, _, _ => none
  | n + 1, v_count, v_last, v_many, v_codes, v_roundOf, v_fresh, z1, z2, z3 => (if (nI 27) ≤ z3 then k_7 v_count v_last v_many v_codes v_roundOf v_fresh z1 (z2 + (nI 1)) else (if z1 ≤ (nI 2) then m_M_pair_45 v_fact v_marked (m_M_pair_26 v_fact v_marked k_7 n) v_count v_last v_many v_codes v_roundOf v_fresh z1 z2 z3 (nI 26) else m_M_pair_45 v_fact v_marked (m_M_pair_26 v_fact v_marked k_7 n) v_count v_last v_many v_codes v_roundOf v_fresh z1 z2 z3 (z3 + (nI 1))))
def m_M_pair_25 (v_fact : Nat → Int32) (v_marked : Nat → Int32) (k_7 : Int32 → Int32 → (Nat → Int32) → (Nat → Int32) → (Nat → Int32) → (Nat → Int32) → Int32 → Int32 → Option (Int32 × Int32 × Int32 × (Nat → Int32) × (Nat → Int32) × (Nat → Int32) × (Nat → Int32))) (v_count : Int32) (v_last : Int32) (v_many : Nat → Int32) (v_codes : Nat → Int32) (v_roundOf : Nat → Int32) (v_fresh : Nat → Int32) (z1 : Int32) (z2 : Int32) (y0 : Int32) : Option (Int32 × Int32 × Int32 × (Nat → Int32) × (Nat → Int32) × (Nat → Int32) × (Nat → Int32)) := m_M_pair_26 v_fact v_marked k_7 40 v_count v_last v_many v_codes v_roundOf v_fresh z1 z2 y0
def m_M_pair_7 (v_fact : Nat → Int32) (v_marked : Nat → Int32) : Nat → Int32 → Int32 → (Nat → Int32) → (Nat → Int32) → (Nat → Int32) → (Nat → Int32) → Int32 → Int32 → Option (Int32 × Int32 × Int32 × (Nat → Int32) × (Nat → Int32) × (Nat → Int32) × (Nat → Int32))
  | 0, _, _, _, _, _, _, _, _ => none
  | n + 1, v_count, v_last, v_many, v_codes, v_roundOf, v_fresh, z1, z2 => (if (nI 27) ≤ z2 then some ((nI 0), (v_count, v_last, v_many, v_codes, v_roundOf, v_fresh)) else (if z1 ≤ (nI 2) then m_M_pair_25 v_fact v_marked (m_M_pair_7 v_fact v_marked n) v_count v_last v_many v_codes v_roundOf v_fresh z1 z2 (z2 + (nI 1)) else m_M_pair_25 v_fact v_marked (m_M_pair_7 v_fact v_marked n) v_count v_last v_many v_codes v_roundOf v_fresh z1 z2 (nI 0)))
def m_M_pair (v_count : Int32) (v_last : Int32) (v_fact : Nat → Int32) (v_marked : Nat → Int32) (v_many : Nat → Int32) (v_codes : Nat → Int32) (v_roundOf : Nat → Int32) (v_fresh : Nat → Int32) (x1 : Int32) : Option (Int32 × Int32 × Int32 × (Nat → Int32) × (Nat → Int32) × (Nat → Int32) × (Nat → Int32)) := m_M_pair_7 v_fact v_marked 40 (nI 2) v_last v_many v_codes v_roundOf v_fresh x1 (nI 0)
def m_M_learn_34 (v_fact : Nat → Int32) (v_marked : Nat → Int32) (k_6 : Int32 → Int32 → Int32 → (Nat → Int32) → (Nat → Int32) → (Nat → Int32) → (Nat → Int32) → (Nat → Int32) → (Nat → Int32) → Int32 → Option (Int32 × Int32 × Int32 × Int32 × (Nat → Int32) × (Nat → Int32) × (Nat → Int32) × (Nat → Int32) × (Nat → Int32) × (Nat → Int32))) (v_count : Int32) (v_oldCount : Int32) (v_last : Int32) (v_many : Nat → Int32) (v_codes : Nat → Int32) (v_oldMany : Nat → Int32) (v_oldCodes : Nat → Int32) (v_roundOf : Nat → Int32) (v_fresh : Nat → Int32) (z1 : Int32) : Option (Int32 × Int32 × Int32 × Int32 × (Nat → Int32) × (Nat → Int32) × (Nat → Int32) × (Nat → Int32) × (Nat → Int32) × (Nat → Int32)) := k_6 v_count v_oldCount v_last v_many v_codes v_oldMany v_oldCodes v_roundOf v_fresh (z1 + (nI 1))
def m_M_learn_6 (v_fact : Nat → Int32) (v_marked : Nat → Int32) : Nat → Int32 → Int32 → Int32 → (Nat → Int32) → (Nat → Int32) → (Nat → Int32) → (Nat → Int32) → (Nat → Int32) → (Nat → Int32) → Int32 → Option (Int32 × Int32 × Int32 × Int32 × (Nat → Int32) × (Nat → Int32) × (Nat → Int32) × (Nat → Int32) × (Nat → Int32) × (Nat → Int32))
  | 0, _, _, _, _, _, _, _, _, _, _ => none
  | n + 1, v_count, v_oldCount, v_last, v_many, v_codes, v_oldMany, v_oldCodes, v_roundOf, v_fresh, z1 => (if (nI 4) ≤ z1 then (Option.bind (m_M_putBack v_count v_oldCount v_many v_codes v_oldMany v_oldCodes) (fun v_41 => some ((nI 0), (v_41.1, v_oldCount, v_last, v_41.2.1, v_41.2.2, v_oldMany, v_oldCodes, v_roundOf, v_fresh)))) else (Option.bind (m_M_alone v_count v_last v_fact v_marked v_many v_codes v_roundOf v_fresh z1) (fun v_13 => (if v_13.1 = (nI 0) then (if z1 ≤ (nI 1) then m_M_learn_34 v_fact v_marked (m_M_learn_6 v_fact v_marked n) v_13.2.1 v_oldCount v_13.2.2.1 v_13.2.2.2.1 v_13.2.2.2.2.1 v_oldMany v_oldCodes v_13.2.2.2.2.2.1 v_13.2.2.2.2.2.2 z1 else (Option.bind (m_M_pair v_13.2.1 v_13.2.2.1 v_fact v_marked v_13.2.2.2.1 v_13.2.2.2.2.1 v_13.2.2.2.2.2.1 v_13.2.2.2.2.2.2 z1) (fun v_26 => (if v_26.1 = (nI 0) then m_M_learn_34 v_fact v_marked (m_M_learn_6 v_fact v_marked n) v_26.2.1 v_oldCount v_26.2.2.1 v_26.2.2.2.1 v_26.2.2.2.2.1 v_oldMany v_oldCodes v_26.2.2.2.2.2.1 v_26.2.2.2.2.2.2 z1 else some (z1, (v_26.2.1, v_oldCount, v_26.2.2.1, v_26.2.2.2.1, v_26.2.2.2.2.1, v_oldMany, v_oldCodes, v_26.2.2.2.2.2.1, v_26.2.2.2.2.2.2)))))) else some (z1, (v_13.2.1, v_oldCount, v_13.2.2.1, v_13.2.2.2.1, v_13.2.2.2.2.1, v_oldMany, v_oldCodes, v_13.2.2.2.2.2.1, v_13.2.2.2.2.2.2))))))
def m_M_learn (v_count : Int32) (v_oldCount : Int32) (v_last : Int32) (v_fact : Nat → Int32) (v_marked : Nat → Int32) (v_many : Nat → Int32) (v_codes : Nat → Int32) (v_oldMany : Nat → Int32) (v_oldCodes : Nat → Int32) (v_roundOf : Nat → Int32) (v_fresh : Nat → Int32) : Option (Int32 × Int32 × Int32 × Int32 × (Nat → Int32) × (Nat → Int32) × (Nat → Int32) × (Nat → Int32) × (Nat → Int32) × (Nat → Int32)) := (Option.bind (m_M_keep v_count v_oldCount v_many v_codes v_oldMany v_oldCodes) (fun v_1 => m_M_learn_6 v_fact v_marked 40 v_count v_1.1 v_last v_many v_codes v_1.2.1 v_1.2.2 v_roundOf v_fresh (nI 1)))
def m_M_key (v_typed : Int32) (v_line : Nat → Int32) (x1 : Int32) : Option (Int32 × Int32 × (Nat → Int32)) := (if x1 < (nI 32) then some ((nI 0), (v_typed, v_line)) else (if (nI 126) < x1 then some ((nI 0), (v_typed, v_line)) else (if v_typed = (nI 32) then some ((nI 0), (v_typed, v_line)) else (if inR v_typed 32 = true then some ((nI 1), (v_typed + (nI 1), upd v_line v_typed.toNatClampNeg x1)) else none))))
def m_M_back (v_typed : Int32) : Option (Int32 × Int32) := (if v_typed = (nI 0) then some ((nI 0), v_typed) else some ((nI 1), v_typed - (nI 1)))
def m_W_law_482 (xs : Nat → Int32) (L : Nat) (k_18 : Int32 → Int32 → Int32 → (Nat → Int32) → (Nat → Int32) → Int32 → (Nat → Int32) → Int32 → Int32 → (Nat → Int64) → (Nat → Int32) → Int32 → Int32 → Int32 → Int32 → Int32 → (Nat → Int32) → (Nat → Int32) → (Nat → Int32) → (Nat → Int32) → (Nat → Int32) → (Nat → Int32) → (Nat → Int32) → (Nat → Int32) → (Nat → Int32) → (Nat → Int32) → Int32 → Option Int32) (v_x_markedPlus : Int32) (v_x_markedMinus : Int32) (v_x_line_length : Int32) (v_x_line_typed : Nat → Int32) (v_x_factSets : Nat → Int32) (v_x_program_count : Int32) (v_x_program_bodies : Nat → Int32) (v_x_deduction_givenPairs : Int32) (v_x_deduction_roundCount : Int32) (v_x_deduction_factChoices : Nat → Int64) (v_x_deduction_givenInRound : Nat → Int32) (v_m_typed : Int32) (v_m_count : Int32) (v_m_oldCount : Int32) (v_m_read : Int32) (v_m_last : Int32) (v_m_line : Nat → Int32) (v_m_fact : Nat → Int32) (v_m_marked : Nat → Int32) (v_m_many : Nat → Int32) (v_m_codes : Nat → Int32) (v_m_oldMany : Nat → Int32) (v_m_oldCodes : Nat → Int32) (v_m_body : Nat → Int32) (v_m_roundOf : Nat → Int32) (v_m_fresh : Nat → Int32) (z3 : Int32) : Option Int32 := k_18 v_x_markedPlus v_x_markedMinus v_x_line_length v_x_line_typed v_x_factSets v_x_program_count v_x_program_bodies v_x_deduction_givenPairs v_x_deduction_roundCount v_x_deduction_factChoices v_x_deduction_givenInRound v_m_typed v_m_count v_m_oldCount v_m_read v_m_last v_m_line v_m_fact v_m_marked v_m_many v_m_codes v_m_oldMany v_m_oldCodes v_m_body v_m_roundOf v_m_fresh (z3 + (nI 4))
def m_W_law_18 (xs : Nat → Int32) (L : Nat) : Nat → Int32 → Int32 → Int32 → (Nat → Int32) → (Nat → Int32) → Int32 → (Nat → Int32) → Int32 → Int32 → (Nat → Int64) → (Nat → Int32) → Int32 → Int32 → Int32 → Int32 → Int32 → (Nat → Int32) → (Nat → Int32) → (Nat → Int32) → (Nat → Int32) → (Nat → Int32) → (Nat → Int32) → (Nat → Int32) → (Nat → Int32) → (Nat → Int32) → (Nat → Int32) → Int32 → Option Int32
  | 0, _, _, _, _, _, _, _, _, _, _, _, _, _, _, _, _, _, _, _, _, _, _, _, _, _, _, _ => none
  | n + 1, v_x_markedPlus, v_x_markedMinus, v_x_line_length, v_x_line_typed, v_x_factSets, v_x_program_count, v_x_program_bodies, v_x_deduction_givenPairs, v_x_deduction_roundCount, v_x_deduction_factChoices, v_x_deduction_givenInRound, v_m_typed, v_m_count, v_m_oldCount, v_m_read, v_m_last, v_m_line, v_m_fact, v_m_marked, v_m_many, v_m_codes, v_m_oldMany, v_m_oldCodes, v_m_body, v_m_roundOf, v_m_fresh, z3 => (if ((nI L) - (nI 4)) < z3 then some (nI 1) else (if inR z3 L = true then (letN ((xs z3.toNatClampNeg) &&& (nI 15)) (fun w_32 => (if w_32 = (nI 0) then (if inR (z3 + (nI 1)) L = true then (Option.bind (m_H_key v_x_line_length v_x_line_typed (i2c (xs (z3 + (nI 1)).toNatClampNeg))) (fun v_119 => (if inR (z3 + (nI 1)) L = true then (Option.bind (m_M_key v_m_typed v_m_line (i2c (xs (z3 + (nI 1)).toNatClampNeg))) (fun v_129 => (if v_119.1 = v_129.1 then m_W_law_482 xs L (m_W_law_18 xs L n) v_x_markedPlus v_x_markedMinus v_119.2.1 v_119.2.2 v_x_factSets v_x_program_count v_x_program_bodies v_x_deduction_givenPairs v_x_deduction_roundCount v_x_deduction_factChoices v_x_deduction_givenInRound v_129.2.1 v_m_count v_m_oldCount v_m_read v_m_last v_129.2.2 v_m_fact v_m_marked v_m_many v_m_codes v_m_oldMany v_m_oldCodes v_m_body v_m_roundOf v_m_fresh z3 else some (nI 0)))) else none))) else none) else (if w_32 = (nI 1) then (Option.bind (m_H_back v_x_line_length) (fun v_138 => (Option.bind (m_M_back v_m_typed) (fun v_142 => (if v_138.1 = v_142.1 then m_W_law_482 xs L (m_W_law_18 xs L n) v_x_markedPlus v_x_markedMinus v_138.2 v_x_line_typed v_x_factSets v_x_program_count v_x_program_bodies v_x_deduction_givenPairs v_x_deduction_roundCount v_x_deduction_factChoices v_x_deduction_givenInRound v_142.2 v_m_count v_m_oldCount v_m_read v_m_last v_m_line v_m_fact v_m_marked v_m_many v_m_codes v_m_oldMany v_m_oldCodes v_m_body v_m_roundOf v_m_fresh z3 else some (nI 0)))))) else (if w_32 = (nI 2) then (Option.bind (m_H_enter v_x_markedPlus v_x_markedMinus v_x_line_length v_x_line_typed v_x_factSets v_x_program_count v_x_program_bodies) (fun v_151 => (Option.bind (m_M_enter v_m_typed v_m_count v_m_read v_m_line v_m_fact v_m_marked v_m_many v_m_codes v_m_body) (fun v_155 => (if v_151.1 = v_155.1 then m_W_law_482 xs L (m_W_law_18 xs L n) v_151.2.1 v_151.2.2.1 v_151.2.2.2.1 v_x_line_typed v_151.2.2.2.2.1 v_151.2.2.2.2.2.1 v_151.2.2.2.2.2.2 v_x_deduction_givenPairs v_x_deduction_roundCount v_x_deduction_factChoices v_x_deduction_givenInRound v_155.2.1 v_155.2.2.1 v_m_oldCount v_155.2.2.2.1 v_m_last v_m_line v_155.2.2.2.2.1 v_155.2.2.2.2.2.1 v_155.2.2.2.2.2.2.1 v_155.2.2.2.2.2.2.2.1 v_m_oldMany v_m_oldCodes v_155.2.2.2.2.2.2.2.2 v_m_roundOf v_m_fresh z3 else some (nI 0)))))) else (if w_32 = (nI 3) then (if inR (z3 + (nI 1)) L = true then (Option.bind (m_H_facts v_x_factSets (xs (z3 + (nI 1)).toNatClampNeg)) (fun v_169 => (if inR (z3 + (nI 1)) L = true then (Option.bind (m_M_facts v_m_fact (xs (z3 + (nI 1)).toNatClampNeg)) (fun v_178 => (if v_169.1 = v_178.1 then m_W_law_482 xs L (m_W_law_18 xs L n) v_x_markedPlus v_x_markedMinus v_x_line_length v_x_line_typed v_x_factSets v_x_program_count v_x_program_bodies v_x_deduction_givenPairs v_x_deduction_roundCount v_x_deduction_factChoices v_x_deduction_givenInRound v_m_typed v_m_count v_m_oldCount v_m_read v_m_last v_m_line v_m_fact v_m_marked v_m_many v_m_codes v_m_oldMany v_m_oldCodes v_m_body v_m_roundOf v_m_fresh z3 else some (nI 0)))) else none))) else none) else (if w_32 = (nI 4) then (if inR (z3 + (nI 1)) L = true then (if inR (z3 + (nI 2)) L = true then (if inR (z3 + (nI 3)) L = true then (Option.bind (m_H_holds v_x_factSets (xs (z3 + (nI 1)).toNatClampNeg) (xs (z3 + (nI 2)).toNatClampNeg) (xs (z3 + (nI 3)).toNatClampNeg)) (fun v_202 => (if inR (z3 + (nI 1)) L = true then (if inR (z3 + (nI 2)) L = true then (if inR (z3 + (nI 3)) L = true then (Option.bind (m_M_holds v_m_fact (xs (z3 + (nI 1)).toNatClampNeg) (xs (z3 + (nI 2)).toNatClampNeg) (xs (z3 + (nI 3)).toNatClampNeg)) (fun v_221 => (if v_202.1 = v_221.1 then m_W_law_482 xs L (m_W_law_18 xs L n) v_x_markedPlus v_x_markedMinus v_x_line_length v_x_line_typed v_x_factSets v_x_program_count v_x_program_bodies v_x_deduction_givenPairs v_x_deduction_roundCount v_x_deduction_factChoices v_x_deduction_givenInRound v_m_typed v_m_count v_m_oldCount v_m_read v_m_last v_m_line v_m_fact v_m_marked v_m_many v_m_codes v_m_oldMany v_m_oldCodes v_m_body v_m_roundOf v_m_fresh z3 else some (nI 0)))) else none) else none) else none))) else none) else none) else none) else (if w_32 = (nI 5) then (if inR (z3 + (nI 1)) L = true then (if inR (z3 + (nI 2)) L = true then (Option.bind (m_H_mark v_x_markedPlus v_x_markedMinus (xs (z3 + (nI 1)).toNatClampNeg) (xs (z3 + (nI 2)).toNatClampNeg)) (fun v_240 => (if inR (z3 + (nI 1)) L = true then (if inR (z3 + (nI 2)) L = true then (Option.bind (m_M_mark v_m_marked (xs (z3 + (nI 1)).toNatClampNeg) (xs (z3 + (nI 2)).toNatClampNeg)) (fun v_254 => (if v_240.1 = v_254.1 then m_W_law_482 xs L (m_W_law_18 xs L n) v_x_markedPlus v_x_markedMinus v_x_line_length v_x_line_typed v_x_factSets v_x_program_count v_x_program_bodies v_x_deduction_givenPairs v_x_deduction_roundCount v_x_deduction_factChoices v_x_deduction_givenInRound v_m_typed v_m_count v_m_oldCount v_m_read v_m_last v_m_line v_m_fact v_m_marked v_m_many v_m_codes v_m_oldMany v_m_oldCodes v_m_body v_m_roundOf v_m_fresh z3 else some (nI 0)))) else none) else none))) else none) else none) else (if w_32 = (nI 6) then (if inR (z3 + (nI 1)) L = true then (Option.bind (m_H_drop v_x_program_count v_x_program_bodies (xs (z3 + (nI 1)).toNatClampNeg)) (fun v_268 => (if inR (z3 + (nI 1)) L = true then (Option.bind (m_M_drop v_m_count v_m_many v_m_codes (xs (z3 + (nI 1)).toNatClampNeg)) (fun v_277 => (if v_268.1 = v_277.1 then m_W_law_482 xs L (m_W_law_18 xs L n) v_x_markedPlus v_x_markedMinus v_x_line_length v_x_line_typed v_x_factSets v_268.2.1 v_268.2.2 v_x_deduction_givenPairs v_x_deduction_roundCount v_x_deduction_factChoices v_x_deduction_givenInRound v_m_typed v_277.2.1 v_m_oldCount v_m_read v_m_last v_m_line v_m_fact v_m_marked v_277.2.2.1 v_277.2.2.2 v_m_oldMany v_m_oldCodes v_m_body v_m_roundOf v_m_fresh z3 else some (nI 0)))) else none))) else none) else (if w_32 = (nI 7) then (Option.bind (m_H_clauses v_x_program_count) (fun v_286 => (Option.bind (m_M_clauses v_m_count) (fun v_290 => (if v_286.1 = v_290.1 then m_W_law_482 xs L (m_W_law_18 xs L n) v_x_markedPlus v_x_markedMinus v_x_line_length v_x_line_typed v_x_factSets v_x_program_count v_x_program_bodies v_x_deduction_givenPairs v_x_deduction_roundCount v_x_deduction_factChoices v_x_deduction_givenInRound v_m_typed v_m_count v_m_oldCount v_m_read v_m_last v_m_line v_m_fact v_m_marked v_m_many v_m_codes v_m_oldMany v_m_oldCodes v_m_body v_m_roundOf v_m_fresh z3 else some (nI 0)))))) else (if w_32 = (nI 8) then (if inR (z3 + (nI 1)) L = true then (Option.bind (m_H_literals v_x_program_count v_x_program_bodies (xs (z3 + (nI 1)).toNatClampNeg)) (fun v_304 => (if inR (z3 + (nI 1)) L = true then (Option.bind (m_M_literals v_m_count v_m_many (xs (z3 + (nI 1)).toNatClampNeg)) (fun v_313 => (if v_304.1 = v_313.1 then m_W_law_482 xs L (m_W_law_18 xs L n) v_x_markedPlus v_x_markedMinus v_x_line_length v_x_line_typed v_x_factSets v_x_program_count v_x_program_bodies v_x_deduction_givenPairs v_x_deduction_roundCount v_x_deduction_factChoices v_x_deduction_givenInRound v_m_typed v_m_count v_m_oldCount v_m_read v_m_last v_m_line v_m_fact v_m_marked v_m_many v_m_codes v_m_oldMany v_m_oldCodes v_m_body v_m_roundOf v_m_fresh z3 else some (nI 0)))) else none))) else none) else (if w_32 = (nI 9) then (if inR (z3 + (nI 1)) L = true then (if inR (z3 + (nI 2)) L = true then (Option.bind (m_H_literal v_x_program_count v_x_program_bodies (xs (z3 + (nI 1)).toNatClampNeg) (xs (z3 + (nI 2)).toNatClampNeg)) (fun v_332 => (if inR (z3 + (nI 1)) L = true then (if inR (z3 + (nI 2)) L = true then (Option.bind (m_M_literal v_m_count v_m_many v_m_codes (xs (z3 + (nI 1)).toNatClampNeg) (xs (z3 + (nI 2)).toNatClampNeg)) (fun v_346 => (if v_332.1 = v_346.1 then m_W_law_482 xs L (m_W_law_18 xs L n) v_x_markedPlus v_x_markedMinus v_x_line_length v_x_line_typed v_x_factSets v_x_program_count v_x_program_bodies v_x_deduction_givenPairs v_x_deduction_roundCount v_x_deduction_factChoices v_x_deduction_givenInRound v_m_typed v_m_count v_m_oldCount v_m_read v_m_last v_m_line v_m_fact v_m_marked v_m_many v_m_codes v_m_oldMany v_m_oldCodes v_m_body v_m_roundOf v_m_fresh z3 else some (nI 0)))) else none) else none))) else none) else none) else (if w_32 = (nI 10) then (if inR (z3 + (nI 1)) L = true then (Option.bind (m_H_letter v_x_program_count v_x_program_bodies (xs (z3 + (nI 1)).toNatClampNeg)) (fun v_360 => (if inR (z3 + (nI 1)) L = true then (Option.bind (m_M_letter v_m_count v_m_many v_m_codes (xs (z3 + (nI 1)).toNatClampNeg)) (fun v_369 => (if v_360.1 = v_369.1 then m_W_law_482 xs L (m_W_law_18 xs L n) v_x_markedPlus v_x_markedMinus v_x_line_length v_x_line_typed v_x_factSets v_x_program_count v_x_program_bodies v_x_deduction_givenPairs v_x_deduction_roundCount v_x_deduction_factChoices v_x_deduction_givenInRound v_m_typed v_m_count v_m_oldCount v_m_read v_m_last v_m_line v_m_fact v_m_marked v_m_many v_m_codes v_m_oldMany v_m_oldCodes v_m_body v_m_roundOf v_m_fresh z3 else some (nI 0)))) else none))) else none) else (if w_32 = (nI 11) then (if inR (z3 + (nI 1)) L = true then (if inR (z3 + (nI 2)) L = true then (Option.bind (m_H_subsumes v_x_program_count v_x_program_bodies (xs (z3 + (nI 1)).toNatClampNeg) (xs (z3 + (nI 2)).toNatClampNeg)) (fun v_388 => (if inR (z3 + (nI 1)) L = true then (if inR (z3 + (nI 2)) L = true then (Option.bind (m_M_subsumes v_m_count v_m_many v_m_codes (xs (z3 + (nI 1)).toNatClampNeg) (xs (z3 + (nI 2)).toNatClampNeg)) (fun v_402 => (if v_388.1 = v_402.1 then m_W_law_482 xs L (m_W_law_18 xs L n) v_x_markedPlus v_x_markedMinus v_x_line_length v_x_line_typed v_x_factSets v_x_program_count v_x_program_bodies v_x_deduction_givenPairs v_x_deduction_roundCount v_x_deduction_factChoices v_x_deduction_givenInRound v_m_typed v_m_count v_m_oldCount v_m_read v_m_last v_m_line v_m_fact v_m_marked v_m_many v_m_codes v_m_oldMany v_m_oldCodes v_m_body v_m_roundOf v_m_fresh z3 else some (nI 0)))) else none) else none))) else none) else none) else (if w_32 = (nI 12) then (if inR (z3 + (nI 1)) L = true then (if inR (z3 + (nI 2)) L = true then (Option.bind (m_H_given v_x_factSets v_x_program_count v_x_program_bodies v_x_deduction_givenPairs v_x_deduction_roundCount v_x_deduction_factChoices v_x_deduction_givenInRound (xs (z3 + (nI 1)).toNatClampNeg) (xs (z3 + (nI 2)).toNatClampNeg)) (fun v_421 => (if inR (z3 + (nI 1)) L = true then (if inR (z3 + (nI 2)) L = true then (Option.bind (m_M_given v_m_count v_m_last v_m_fact v_m_many v_m_codes v_m_roundOf v_m_fresh (xs (z3 + (nI 1)).toNatClampNeg) (xs (z3 + (nI 2)).toNatClampNeg)) (fun v_435 => (if v_421.1 = v_435.1 then m_W_law_482 xs L (m_W_law_18 xs L n) v_x_markedPlus v_x_markedMinus v_x_line_length v_x_line_typed v_x_factSets v_x_program_count v_x_program_bodies v_421.2.1 v_421.2.2.1 v_421.2.2.2.1 v_421.2.2.2.2 v_m_typed v_m_count v_m_oldCount v_m_read v_435.2.1 v_m_line v_m_fact v_m_marked v_m_many v_m_codes v_m_oldMany v_m_oldCodes v_m_body v_435.2.2.1 v_435.2.2.2 z3 else some (nI 0)))) else none) else none))) else none) else none) else (if w_32 = (nI 13) then (Option.bind (m_H_rounds v_x_factSets v_x_program_count v_x_program_bodies v_x_deduction_givenPairs v_x_deduction_roundCount v_x_deduction_factChoices v_x_deduction_givenInRound) (fun v_444 => (Option.bind (m_M_rounds v_m_count v_m_last v_m_fact v_m_many v_m_codes v_m_roundOf v_m_fresh) (fun v_448 => (if v_444.1 = v_448.1 then m_W_law_482 xs L (m_W_law_18 xs L n) v_x_markedPlus v_x_markedMinus v_x_line_length v_x_line_typed v_x_factSets v_x_program_count v_x_program_bodies v_444.2.1 v_444.2.2.1 v_444.2.2.2.1 v_444.2.2.2.2 v_m_typed v_m_count v_m_oldCount v_m_read v_448.2.1 v_m_line v_m_fact v_m_marked v_m_many v_m_codes v_m_oldMany v_m_oldCodes v_m_body v_448.2.2.1 v_448.2.2.2 z3 else some (nI 0)))))) else (if w_32 = (nI 14) then (Option.bind (m_H_fits v_x_markedPlus v_x_markedMinus v_x_factSets v_x_program_count v_x_program_bodies v_x_deduction_givenPairs v_x_deduction_roundCount v_x_deduction_factChoices v_x_deduction_givenInRound) (fun v_457 => (Option.bind (m_M_fits v_m_count v_m_last v_m_fact v_m_marked v_m_many v_m_codes v_m_roundOf v_m_fresh) (fun v_461 => (if v_457.1 = v_461.1 then m_W_law_482 xs L (m_W_law_18 xs L n) v_x_markedPlus v_x_markedMinus v_x_line_length v_x_line_typed v_x_factSets v_x_program_count v_x_program_bodies v_457.2.1 v_457.2.2.1 v_457.2.2.2.1 v_457.2.2.2.2 v_m_typed v_m_count v_m_oldCount v_m_read v_461.2.1 v_m_line v_m_fact v_m_marked v_m_many v_m_codes v_m_oldMany v_m_oldCodes v_m_body v_461.2.2.1 v_461.2.2.2 z3 else some (nI 0)))))) else (if w_32 = (nI 15) then (Option.bind (m_H_learn v_x_markedPlus v_x_markedMinus v_x_factSets v_x_program_count v_x_program_bodies v_x_deduction_givenPairs v_x_deduction_roundCount v_x_deduction_factChoices v_x_deduction_givenInRound) (fun v_470 => (Option.bind (m_M_learn v_m_count v_m_oldCount v_m_last v_m_fact v_m_marked v_m_many v_m_codes v_m_oldMany v_m_oldCodes v_m_roundOf v_m_fresh) (fun v_474 => (if v_470.1 = v_474.1 then m_W_law_482 xs L (m_W_law_18 xs L n) v_x_markedPlus v_x_markedMinus v_x_line_length v_x_line_typed v_x_factSets v_470.2.1 v_470.2.2.1 v_470.2.2.2.1 v_470.2.2.2.2.1 v_470.2.2.2.2.2.1 v_470.2.2.2.2.2.2 v_m_typed v_474.2.1 v_474.2.2.1 v_m_read v_474.2.2.2.1 v_m_line v_m_fact v_m_marked v_474.2.2.2.2.1 v_474.2.2.2.2.2.1 v_474.2.2.2.2.2.2.1 v_474.2.2.2.2.2.2.2.1 v_m_body v_474.2.2.2.2.2.2.2.2.1 v_474.2.2.2.2.2.2.2.2.2 z3 else some (nI 0)))))) else m_W_law_482 xs L (m_W_law_18 xs L n) v_x_markedPlus v_x_markedMinus v_x_line_length v_x_line_typed v_x_factSets v_x_program_count v_x_program_bodies v_x_deduction_givenPairs v_x_deduction_roundCount v_x_deduction_factChoices v_x_deduction_givenInRound v_m_typed v_m_count v_m_oldCount v_m_read v_m_last v_m_line v_m_fact v_m_marked v_m_many v_m_codes v_m_oldMany v_m_oldCodes v_m_body v_m_roundOf v_m_fresh z3)))))))))))))))))) else none))
end
section
-- numbers: rows for simp
theorem inR_n {k n : Nat} (hk : k < 2147483648) : inR (nI k) n = decide (k < n) := by
  unfold inR
  rw [nI_toInt hk]
  have h0 : decide ((0 : Int) ≤ (k : Int)) = true := decide_eq_true (Int.natCast_nonneg k)
  rw [h0, Bool.true_and]
  exact decide_eq_decide.mpr Int.ofNat_lt
theorem irm_n {a d : Nat} (ha : a < 2147483648) (h0 : 0 < d) (hd : d < 2147483648) : irm (nI a) (nI d) = nI (a % d) := pk_rem ha h0 hd
theorem isC_n {q : Nat} (hq : q < 65536) : isC (nI q) = true := by
  rw [isC_iff, nI_toInt (by omega)]
  omega
theorem ni_lt {a b : Nat} (ha : a < 2147483648) (hb : b < 2147483648) : (nI a < nI b) = (a < b) := propext (nI_ltI ha hb)
theorem ni_le {a b : Nat} (ha : a < 2147483648) (hb : b < 2147483648) : (nI a ≤ nI b) = (a ≤ b) := propext (nI_leI ha hb)
theorem ni_eq {a b : Nat} (ha : a < 2147483648) (hb : b < 2147483648) : (nI a = nI b) = (a = b) := propext (nI_eq ha hb)
theorem ix_0 {x : Int32} (h : x < nI 0) {k : Nat} (hk : k < 2147483648) : ¬ x = nI k := by
  rintro rfl
  rw [ni_lt hk (by decide)] at h
  omega
theorem ix_n {x : Int32} {n k : Nat} (h : nI n ≤ x) (hk : k < n) (hn : n < 2147483648) : ¬ x = nI k := by
  rintro rfl
  rw [ni_le hn (by omega)] at h
  omega
theorem ix_nn {x : Int32} {n : Nat} (h : nI n ≤ x) (hn : n < 2147483648) : ¬ x < nI 0 := by
  intro h2
  have a1 := Int32.le_iff_toInt_le.mp h
  have a2 := Int32.lt_iff_toInt_lt.mp h2
  rw [nI_toInt hn] at a1
  rw [nI_toInt (by decide)] at a2
  omega
theorem ix_lt {x : Int32} {n k : Nat} (h : nI n ≤ x) (hk : k ≤ n) (hn : n < 2147483648) : nI k ≤ x := by
  have a1 := Int32.le_iff_toInt_le.mp h
  rw [nI_toInt hn] at a1
  refine Int32.le_iff_toInt_le.mpr ?_
  rw [nI_toInt (by omega)]
  omega
theorem ix (x : Int32) {n : Nat} (hn : n < 2147483648) : x < nI 0 ∨ nI n ≤ x ∨ ∃ j : Nat, j < n ∧ x = nI j := pk_ix x hn
-- the line
def RL (len : Int32) (ty : Nat → Int32) (len2 : Int32) (ln : Nat → Int32) : Prop := ∃ n : Nat, n ≤ 32 ∧ len = nI n ∧ len2 = nI n ∧ ∀ j, j < n → ty j = ln j ∧ ∃ c : Nat, 32 ≤ c ∧ c ≤ 126 ∧ ln j = nI c
theorem s_key {len len2 : Int32} {ty ln : Nat → Int32} (h : RL len ty len2 ln) {x : Int32} (hx : isC x = true) :
    ∃ (r a c : Int32) (b d : Nat → Int32), m_H_key len ty x = some (r, a, b) ∧ m_M_key len2 ln x = some (r, c, d) ∧ RL a b c d := by
  obtain ⟨n, hn, rfl, rfl, hj⟩ := h
  obtain ⟨q, hq, rfl⟩ := isC_nI hx
  have hq2 : q < 2147483648 := by omega
  unfold m_H_key m_L_add m_M_key
  rcases Nat.lt_or_ge q 32 with h1 | h1
  · refine ⟨nI 0, nI n, nI n, ty, ln, ?_, ?_, n, hn, rfl, rfl, hj⟩
    · simp (disch := omega) only [ni_lt, h1, if_true]; rfl
    · simp (disch := omega) only [ni_lt, h1, if_true]
  rcases Nat.lt_or_ge 126 q with h2 | h2
  · refine ⟨nI 0, nI n, nI n, ty, ln, ?_, ?_, n, hn, rfl, rfl, hj⟩
    · simp (disch := omega) only [ni_lt, h2, Nat.not_lt.mpr h1, if_true, if_false]; rfl
    · simp (disch := omega) only [ni_lt, h2, Nat.not_lt.mpr h1, if_true, if_false]
  rcases Nat.lt_or_ge n 32 with h3 | h3
  · refine ⟨nI 1, nI (n + 1), nI (n + 1), upd ty n (nI q), upd ln n (nI q), ?_, ?_, n + 1, by omega, rfl, rfl, ?_⟩
    · simp (disch := omega) only [ni_lt, h3, Nat.not_lt.mpr h1, Nat.not_lt.mpr h2, if_true, if_false, inR_n, decide_true, isC_n, nI_add, nI_clamp]
      rfl
    · simp (disch := omega) only [ni_lt, ni_eq, h3, Nat.ne_of_lt h3, Nat.not_lt.mpr h1, Nat.not_lt.mpr h2, if_true, if_false, inR_n, decide_true, nI_add, nI_clamp]
    · intro j hjn
      by_cases e : j = n
      · subst e
        exact ⟨by rw [pk_us, pk_us], q, h1, h2, pk_us⟩
      · rw [pk_un e, pk_un e]
        exact hj j (by omega)
  · have e : n = 32 := by omega
    subst e
    refine ⟨nI 0, nI 32, nI 32, ty, ln, ?_, ?_, 32, hn, rfl, rfl, hj⟩
    · simp (disch := omega) only [ni_lt, Nat.not_lt.mpr h1, Nat.not_lt.mpr h2, if_false, Nat.lt_irrefl]
      rfl
    · simp (disch := omega) only [ni_lt, Nat.not_lt.mpr h1, Nat.not_lt.mpr h2, if_false, if_true]
theorem s_back {len len2 : Int32} {ty ln : Nat → Int32} (h : RL len ty len2 ln) :
    ∃ (r a c : Int32), m_H_back len = some (r, a) ∧ m_M_back len2 = some (r, c) ∧ RL a ty c ln := by
  obtain ⟨n, hn, rfl, rfl, hj⟩ := h
  unfold m_H_back m_L_removeLast m_M_back
  rcases Nat.eq_zero_or_pos n with rfl | h1
  · exact ⟨nI 0, nI 0, nI 0, rfl, rfl, 0, hn, rfl, rfl, hj⟩
  · refine ⟨nI 1, nI (n - 1), nI (n - 1), ?_, ?_, n - 1, by omega, rfl, rfl, fun j h => hj j (by omega)⟩
    · simp (disch := omega) only [ni_eq, Nat.ne_of_gt h1, if_false, pk_sub]
      rfl
    · simp (disch := omega) only [ni_eq, Nat.ne_of_gt h1, if_false, pk_sub]
-- bits
theorem bt_bit : ∀ k, k < 32 → ∀ i, i < 32 → bt (nI 1 <<< (nI k &&& 31)) i = decide (i = k) := by decide +kernel
theorem b_n0 (i : Nat) : bt (nI 0) i = false := b_0 i
theorem and_z (x : Int32) : x &&& nI 0 = nI 0 := b_ext (fun i _ => by rw [b_and, b_n0, Bool.and_false])
theorem and_bit {x : Int32} {k : Nat} (hk : k < 32) : (x &&& (nI 1 <<< (nI k &&& 31)) = nI 0) ↔ bt x k = false := by
  constructor
  · intro h
    have h2 := congrArg (fun y => bt y k) h
    simp only [b_and, bt_bit k hk k hk] at h2
    rw [b_n0] at h2
    simpa using h2
  · intro h
    refine b_ext (fun i hi => ?_)
    rw [b_and, bt_bit k hk i hi]
    show _ = bt 0 i
    rw [b_0]
    by_cases e : i = k
    · subst e; rw [h]; rfl
    · simp [e]
theorem s_pairBit {a b : Nat} (ha : a < 4) (hb : b < 4) : m_H_pairBit (nI a) (nI b) = some (nI 1 <<< (nI (4 * a + b) &&& 31), ()) := by
  unfold m_H_pairBit m_H_pairBit_22 m_H_pairBit_23
  simp (disch := omega) only [ni_lt, ni_le, ni_eq, Nat.not_lt_zero, Nat.not_le.mpr ha, Nat.not_le.mpr hb, if_false, pk_mul, nI_add, Nat.one_ne_zero]
theorem s_pairBit_0 {x y : Int32} (h : x < nI 0 ∨ nI 4 ≤ x ∨ y < nI 0 ∨ nI 4 ≤ y) : m_H_pairBit x y = some (nI 0, ()) := by
  unfold m_H_pairBit m_H_pairBit_22 m_H_pairBit_23
  have e : (if (nI 0 : Int32) = nI 0 then some (nI 0, ()) else some (nI 1 <<< (nI 4 * x + y &&& 31), ())) = some (nI 0, ()) := if_pos rfl
  by_cases h1 : x < nI 0
  · rw [if_pos h1, if_pos rfl]
  by_cases h2 : nI 4 ≤ x
  · rw [if_neg h1, if_pos h2, if_pos rfl]
  by_cases h3 : y < nI 0
  · rw [if_neg h1, if_neg h2, if_pos h3, if_pos rfl]
  by_cases h4 : nI 4 ≤ y
  · rw [if_neg h1, if_neg h2, if_neg h3, if_pos h4, if_pos rfl]
  · exact absurd h (by simp [h1, h2, h3, h4])
-- facts
def RF (fs fa : Nat → Int32) : Prop := ∀ r, r < 2 → (∀ p, p < 16 → fa (16 * r + p) = if bt (fs r) p then nI 1 else nI 0) ∧ ∀ i, 16 ≤ i → bt (fs r) i = false
theorem s_holds {fs fa : Nat → Int32} (h : RF fs fa) (x1 x2 x3 : Int32) : ∃ r : Int32, m_H_holds fs x1 x2 x3 = some (r, ()) ∧ m_M_holds fa x1 x2 x3 = some (r, ()) := by
  unfold m_H_holds m_M_holds m_H_isFactRelation
  rcases ix x1 (n := 2) (by decide) with h1 | h1 | ⟨r, hr, rfl⟩
  · refine ⟨nI 0, ?_, ?_⟩
    · rw [if_pos h1]; rfl
    · rw [if_neg (ix_0 h1 (by decide)), if_neg (ix_0 h1 (by decide))]
  · refine ⟨nI 0, ?_, ?_⟩
    · rw [if_neg (ix_nn h1 (by decide)), if_pos h1]; rfl
    · rw [if_neg (ix_n h1 (by decide) (by decide)), if_neg (ix_n h1 (by decide) (by decide))]
  · have eH : (if nI r < nI 0 then some (nI 0, ()) else if nI 2 ≤ nI r then some (nI 0, ()) else some (nI 1, ())) = some ((nI 1, ()) : Int32 × Unit) := by
      simp (disch := omega) only [ni_lt, ni_le, Nat.not_lt_zero, Nat.not_le.mpr hr, if_false]
    have eM : (if nI r = nI 0 then m_M_holds_9 fa (nI r) x2 x3 else if nI r = nI 1 then m_M_holds_9 fa (nI r) x2 x3 else some (nI 0, ())) = m_M_holds_9 fa (nI r) x2 x3 := by
      rcases (show r = 0 ∨ r = 1 by omega) with rfl | rfl <;> rfl
    rw [eH, eM]
    simp (disch := omega) only [Option.bind_some, ni_eq, Nat.one_ne_zero, if_false, inR_n, hr, decide_true, if_true, nI_clamp]
    unfold m_M_holds_9 m_M_constant
    rcases ix x2 (n := 4) (by decide) with h2 | h2 | ⟨a, ha, rfl⟩
    · exact ⟨nI 0, by rw [s_pairBit_0 (Or.inl h2)]; exact if_pos (and_z _), by rw [if_pos h2]; rfl⟩
    · exact ⟨nI 0, by rw [s_pairBit_0 (Or.inr (Or.inl h2))]; exact if_pos (and_z _), by rw [if_neg (ix_nn h2 (by decide)), if_pos h2]; rfl⟩
    rcases ix x3 (n := 4) (by decide) with h3 | h3 | ⟨b, hb, rfl⟩
    · refine ⟨nI 0, by rw [s_pairBit_0 (Or.inr (Or.inr (Or.inl h3)))]; exact if_pos (and_z _), ?_⟩
      simp (disch := omega) only [ni_lt, ni_le, ni_eq, Nat.not_lt_zero, Nat.not_le.mpr ha, if_false, Option.bind_some, Nat.one_ne_zero, if_pos h3, if_true]
    · refine ⟨nI 0, by rw [s_pairBit_0 (Or.inr (Or.inr (Or.inr h3)))]; exact if_pos (and_z _), ?_⟩
      simp (disch := omega) only [ni_lt, ni_le, ni_eq, Nat.not_lt_zero, Nat.not_le.mpr ha, if_false, Option.bind_some, Nat.one_ne_zero, if_neg (ix_nn h3 (by decide)), if_pos h3, if_true]
    · rw [s_pairBit ha hb]
      have e1 := (h r hr).1 (4 * a + b) (by omega)
      by_cases hbit : bt (fs r) (4 * a + b) = true
      · refine ⟨nI 1, ?_, ?_⟩
        · have e2 : ¬ (fs r &&& (nI 1 <<< (nI (4 * a + b) &&& 31)) = nI 0) := by
            rw [and_bit (by omega), hbit]; decide
          simp only [Option.bind_some, if_neg e2]
        · rw [if_pos hbit] at e1
          have e3 : 16 * r + (4 * a + b) = 16 * r + 4 * a + b := by omega
          rw [e3] at e1
          simp (disch := omega) only [ni_lt, ni_le, ni_eq, Nat.not_lt_zero, Nat.not_le.mpr ha, Nat.not_le.mpr hb, if_false, Option.bind_some, Nat.one_ne_zero, pk_mul, nI_add, inR_n, nI_clamp, e1]
          simp only [show decide (16 * r + 4 * a + b < 32) = true from decide_eq_true (by omega), if_true]
      · have hbit : bt (fs r) (4 * a + b) = false := by simpa using hbit
        refine ⟨nI 0, ?_, ?_⟩
        · simp only [Option.bind_some, if_pos ((and_bit (show 4 * a + b < 32 by omega)).mpr hbit)]
        · rw [hbit] at e1
          have e3 : 16 * r + (4 * a + b) = 16 * r + 4 * a + b := by omega
          rw [e3] at e1
          have e1 : fa (16 * r + 4 * a + b) = nI 0 := e1
          simp (disch := omega) only [ni_lt, ni_le, ni_eq, Nat.not_lt_zero, Nat.not_le.mpr ha, Nat.not_le.mpr hb, if_false, Option.bind_some, Nat.one_ne_zero, pk_mul, nI_add, inR_n, nI_clamp, e1]
          simp only [show decide (16 * r + 4 * a + b < 32) = true from decide_eq_true (by omega), if_true]
end
section
-- clauses as lists of codes
def okB : List Nat → Bool
  | [a] => decide (a < 27)
  | [a, b] => decide (a < b) && decide (b < 27)
  | [a, b, c] => decide (a < b) && decide (b < c) && decide (c < 27)
  | _ => false
theorem okB_ind {P : List Nat → Prop} (h1 : ∀ c, c < 27 → P [c]) (h2 : ∀ c, c < 27 → ∀ b, b < c → P [b, c]) (h3 : ∀ c, c < 27 → ∀ b, b < c → ∀ a, a < b → P [a, b, c]) : ∀ l, okB l = true → P l := by
  intro l h
  match l, h with
  | [a], h => exact h1 a (of_decide_eq_true h)
  | [a, b], h =>
    simp only [okB, Bool.and_eq_true, decide_eq_true_eq] at h
    exact h2 b h.2 a h.1
  | [a, b, c], h =>
    simp only [okB, Bool.and_eq_true, decide_eq_true_eq] at h
    exact h3 c h.2 b h.1.2 a h.1.1
def mk (l : List Nat) : Int32 := l.foldr (fun c m => (nI 1 <<< (nI c &&& 31)) ||| m) (nI 0)
theorem cl_bc : ∀ l, okB l = true → m_I_bitCount (mk l) = some (nI l.length, ()) := okB_ind (by decide +kernel) (by decide +kernel) (by decide +kernel)
theorem cl_ne : ∀ l, okB l = true → ¬ mk l = nI 0 := okB_ind (by decide +kernel) (by decide +kernel) (by decide +kernel)
theorem cl_least : ∀ l, okB l = true → m_H_leastCode (mk l) = some (nI (l.getD 0 0), ()) := okB_ind (by decide +kernel) (by decide +kernel) (by decide +kernel)
theorem cl_rest : ∀ l, okB l = true → m_H_withoutLeastCode (mk l) = some (mk (l.drop 1), ()) := okB_ind (by decide +kernel) (by decide +kernel) (by decide +kernel)
def hasX (l : List Nat) : Bool := l.any (fun c => decide (c / 3 % 3 = 0) || decide (c % 3 = 0))
def hasY (l : List Nat) : Bool := l.any (fun c => decide (c / 3 % 3 = 1) || decide (c % 3 = 1))
theorem cl_head : ∀ l, okB l = true → m_H_hasHeadVariables (mk l) = some (if hasX l && hasY l then nI 1 else nI 0, ()) := okB_ind (by decide +kernel) (by decide +kernel) (by decide +kernel)
theorem cl_codeAt0 : ∀ l, okB l = true → ((List.range l.length).all (fun j => decide (m_H_codeAt (mk l) (nI j) = some (nI (l.getD j 0), ())))) = true := okB_ind (by decide +kernel) (by decide +kernel) (by decide +kernel)
theorem cl_codeAt : ∀ l, okB l = true → ∀ j, j < l.length → m_H_codeAt (mk l) (nI j) = some (nI (l.getD j 0), ()) := fun l h j hj => of_decide_eq_true (List.all_eq_true.mp (cl_codeAt0 l h) j (List.mem_range.mpr hj))
theorem cl_len : ∀ l, okB l = true → 0 < l.length ∧ l.length ≤ 3 := okB_ind (by decide +kernel) (by decide +kernel) (by decide +kernel)
theorem cl_lt0 : ∀ l, okB l = true → (l.all (fun c => decide (c < 27))) = true := okB_ind (by decide +kernel) (by decide +kernel) (by decide +kernel)
theorem cl_mem {l : List Nat} (h : okB l = true) {c : Nat} (hc : c ∈ l) : c < 27 := of_decide_eq_true (List.all_eq_true.mp (cl_lt0 l h) c hc)
theorem cl_lt {l : List Nat} (h : okB l = true) {j : Nat} (hj : j < l.length) : l.getD j 0 < 27 := by
  have e : l.getD j 0 = l[j] := by simp [List.getD, hj]
  rw [e]
  exact cl_mem h (List.getElem_mem hj)
theorem bt_mk {l : List Nat} (h : ∀ c ∈ l, c < 32) {i : Nat} (hi : i < 32) : bt (mk l) i = decide (i ∈ l) := by
  induction l with
  | nil => exact b_0 i
  | cons a l ih =>
    show bt ((nI 1 <<< (nI a &&& 31)) ||| mk l) i = _
    rw [b_or, bt_bit a (h a List.mem_cons_self) i hi, ih (fun c hc => h c (List.mem_cons_of_mem _ hc))]
    simp [List.mem_cons]
end
section
theorem bs {α β : Type} (v : α) (f : α → Option β) : Option.bind (some v) f = f v := rfl
-- marks
def RM (pl mi : Int32) (mk : Nat → Int32) : Prop := (∀ p, p < 16 → mk p = if bt pl p then nI 1 else if bt mi p then (-1 : Int32) else nI 0) ∧ (∀ p, bt pl p = true → bt mi p = false) ∧ ∀ i, 16 ≤ i → bt pl i = false ∧ bt mi i = false
theorem s_mark {pl mi : Int32} {mk : Nat → Int32} (h : RM pl mi mk) (x1 x2 : Int32) : ∃ r : Int32, m_H_mark pl mi x1 x2 = some (r, ()) ∧ m_M_mark mk x1 x2 = some (r, ()) := by
  unfold m_H_mark m_M_mark m_M_constant
  have z0 : ((some (nI 0, ()) : Option (Int32 × Unit)).bind fun v_2 => if pl &&& v_2.1 = nI 0 then (if mi &&& v_2.1 = nI 0 then some (nI 0, ()) else some ((-1 : Int32), ())) else some (nI 1, ())) = some (nI 0, ()) := by
    show (if pl &&& nI 0 = nI 0 then (if mi &&& nI 0 = nI 0 then some (nI 0, ()) else some ((-1 : Int32), ())) else some (nI 1, ())) = some (nI 0, ())
    rw [if_pos (and_z _), if_pos (and_z _)]
  rcases ix x1 (n := 4) (by decide) with h2 | h2 | ⟨a, ha, rfl⟩
  · exact ⟨nI 0, by rw [s_pairBit_0 (Or.inl h2)]; exact z0, by rw [if_pos h2]; rfl⟩
  · exact ⟨nI 0, by rw [s_pairBit_0 (Or.inr (Or.inl h2))]; exact z0, by rw [if_neg (ix_nn h2 (by decide)), if_pos h2]; rfl⟩
  rcases ix x2 (n := 4) (by decide) with h3 | h3 | ⟨b, hb, rfl⟩
  · refine ⟨nI 0, by rw [s_pairBit_0 (Or.inr (Or.inr (Or.inl h3)))]; exact z0, ?_⟩
    simp (disch := omega) only [ni_lt, ni_le, ni_eq, Nat.not_lt_zero, Nat.not_le.mpr ha, if_false, Option.bind_some, Nat.one_ne_zero, if_pos h3, if_true]
  · refine ⟨nI 0, by rw [s_pairBit_0 (Or.inr (Or.inr (Or.inr h3)))]; exact z0, ?_⟩
    simp (disch := omega) only [ni_lt, ni_le, ni_eq, Nat.not_lt_zero, Nat.not_le.mpr ha, if_false, Option.bind_some, Nat.one_ne_zero, if_neg (ix_nn h3 (by decide)), if_pos h3, if_true]
  · rw [s_pairBit ha hb]
    have e1 := h.1 (4 * a + b) (by omega)
    have hk : 4 * a + b < 32 := by omega
    refine ⟨mk (4 * a + b), ?_, ?_⟩
    · rw [e1]
      show (if pl &&& (nI 1 <<< (nI (4 * a + b) &&& 31)) = nI 0 then (if mi &&& (nI 1 <<< (nI (4 * a + b) &&& 31)) = nI 0 then some (nI 0, ()) else some ((-1 : Int32), ())) else some (nI 1, ())) = _
      by_cases hp : bt pl (4 * a + b) = true
      · rw [if_neg (by rw [and_bit hk, hp]; decide), if_pos hp]
      · have hp : bt pl (4 * a + b) = false := by simpa using hp
        rw [if_pos ((and_bit hk).mpr hp), hp]
        by_cases hm : bt mi (4 * a + b) = true
        · rw [if_neg (by rw [and_bit hk, hm]; decide), if_pos hm]; rfl
        · have hm : bt mi (4 * a + b) = false := by simpa using hm
          rw [if_pos ((and_bit hk).mpr hm), hm]; rfl
    · simp (disch := omega) only [ni_lt, ni_le, ni_eq, Nat.not_lt_zero, Nat.not_le.mpr ha, Nat.not_le.mpr hb, if_false, Option.bind_some, Nat.one_ne_zero, pk_mul, nI_add, inR_n, nI_clamp]
      simp only [show decide (4 * a + b < 16) = true from decide_eq_true (by omega), if_true]
-- the program
def RP (ct : Int32) (bd : Nat → Int32) (ct2 : Int32) (mn cs : Nat → Int32) : Prop := ∃ P : List (List Nat), P.length ≤ 2 ∧ ct = nI P.length ∧ ct2 = nI P.length ∧ ∀ j, j < P.length → okB (P.getD j []) = true ∧ (hasX (P.getD j []) && hasY (P.getD j [])) = true ∧ bd j = mk (P.getD j []) ∧ mn j = nI (P.getD j []).length ∧ ∀ k, k < (P.getD j []).length → cs (3 * j + k) = nI ((P.getD j []).getD k 0)
theorem s_clauses {ct ct2 : Int32} {bd mn cs : Nat → Int32} (h : RP ct bd ct2 mn cs) : ∃ r : Int32, m_H_clauses ct = some (r, ()) ∧ m_M_clauses ct2 = some (r, ()) := by
  obtain ⟨P, hP, rfl, rfl, -⟩ := h
  exact ⟨nI P.length, rfl, rfl⟩
/-- bodyOf: 0 where there is no clause -/
theorem s_bodyOf_out {n : Nat} {bd : Nat → Int32} {x : Int32} (h : x < nI 0 ∨ nI n ≤ x) : m_P_bodyOf (nI n) bd x = some (nI 0, ()) := by
  unfold m_P_bodyOf
  by_cases h1 : x < nI 0
  · rw [if_pos h1]
  · rw [if_neg h1, if_pos (h.resolve_left h1)]
theorem s_bodyOf_in {n : Nat} {bd : Nat → Int32} {j : Nat} (hn : n ≤ 2) (h : j < n) : m_P_bodyOf (nI n) bd (nI j) = some (bd j, ()) := by
  unfold m_P_bodyOf
  simp (disch := omega) only [ni_lt, ni_le, Nat.not_lt_zero, Nat.not_le.mpr h, if_false, inR_n, nI_clamp]
  simp only [show decide (j < 2) = true from decide_eq_true (by omega), if_true]
theorem s_clause_out {n : Nat} {x : Int32} (h : x < nI 0 ∨ nI n ≤ x) : m_M_clause (nI n) x = some (nI 0, ()) := by
  unfold m_M_clause
  by_cases h1 : x < nI 0
  · rw [if_pos h1]
  · rw [if_neg h1, if_pos (h.resolve_left h1)]
theorem s_clause_in {n j : Nat} (hn : n ≤ 2) (h : j < n) : m_M_clause (nI n) (nI j) = some (nI 1, ()) := by
  unfold m_M_clause
  simp (disch := omega) only [ni_lt, ni_le, Nat.not_lt_zero, Nat.not_le.mpr h, if_false]
theorem s_literals {ct ct2 : Int32} {bd mn cs : Nat → Int32} (h : RP ct bd ct2 mn cs) (x : Int32) : ∃ r : Int32, m_H_literals ct bd x = some (r, ()) ∧ m_M_literals ct2 mn x = some (r, ()) := by
  obtain ⟨P, hP, rfl, rfl, hc⟩ := h
  unfold m_H_literals m_M_literals
  rcases ix x (n := P.length) (by omega) with h1 | h1 | ⟨j, hj, rfl⟩
  · exact ⟨-1, by rw [s_bodyOf_out (Or.inl h1)]; rfl, by rw [s_clause_out (Or.inl h1)]; rfl⟩
  · exact ⟨-1, by rw [s_bodyOf_out (Or.inr h1)]; rfl, by rw [s_clause_out (Or.inr h1)]; rfl⟩
  · obtain ⟨hk, -, hb, hm, -⟩ := hc j hj
    refine ⟨nI (P.getD j []).length, ?_, ?_⟩
    · rw [s_bodyOf_in hP hj]
      show (if bd j = nI 0 then _ else _) = _
      rw [hb, if_neg (cl_ne _ hk), cl_bc _ hk]
      rfl
    · rw [s_clause_in hP hj, bs, if_neg (by decide)]
      simp (disch := omega) only [inR_n, nI_clamp, hm]
      simp only [show decide (j < 2) = true from decide_eq_true (by omega), if_true]
theorem s_codeAt_out {l : List Nat} (h : okB l = true) {x : Int32} (hx : x < nI 0 ∨ nI l.length ≤ x) : m_H_codeAt (mk l) x = some (-1, ()) := by
  unfold m_H_codeAt
  by_cases h1 : x < nI 0
  · rw [if_pos h1]
  · rw [if_neg h1, cl_bc _ h]
    have h2 := hx.resolve_left h1
    have h3 : ¬ x < nI l.length := by
      rw [Int32.lt_iff_toInt_lt]
      have := Int32.le_iff_toInt_le.mp h2
      omega
    show (if x < nI l.length then _ else _) = _
    rw [if_neg h3]
theorem s_literal {ct ct2 : Int32} {bd mn cs : Nat → Int32} (h : RP ct bd ct2 mn cs) (x y : Int32) : ∃ r : Int32, m_H_literal ct bd x y = some (r, ()) ∧ m_M_literal ct2 mn cs x y = some (r, ()) := by
  obtain ⟨P, hP, rfl, rfl, hc⟩ := h
  unfold m_H_literal m_M_literal
  have z0 : m_H_codeAt (nI 0) y = some (-1, ()) := by
    unfold m_H_codeAt
    by_cases h1 : y < nI 0
    · rw [if_pos h1]
    · rw [if_neg h1, show m_I_bitCount (nI 0) = some (nI 0, ()) by decide +kernel]
      show (if y < nI 0 then _ else _) = _
      rw [if_neg h1]
  rcases ix x (n := P.length) (by omega) with h1 | h1 | ⟨j, hj, rfl⟩
  · refine ⟨-1, ?_, by rw [s_clause_out (Or.inl h1)]; rfl⟩
    rw [s_bodyOf_out (Or.inl h1)]
    show Option.bind (m_H_codeAt (nI 0) y) _ = _
    rw [z0]; rfl
  · refine ⟨-1, ?_, by rw [s_clause_out (Or.inr h1)]; rfl⟩
    rw [s_bodyOf_out (Or.inr h1)]
    show Option.bind (m_H_codeAt (nI 0) y) _ = _
    rw [z0]; rfl
  · obtain ⟨hk, -, hb, hm, hcs⟩ := hc j hj
    have hlen := cl_len _ hk
    rw [s_bodyOf_in hP hj, s_clause_in hP hj, bs, bs, if_neg (by decide)]
    dsimp only
    rw [hb]
    rcases ix y (n := (P.getD j []).length) (by omega) with h2 | h2 | ⟨k, hk2, rfl⟩
    · refine ⟨-1, ?_, by rw [if_pos h2]⟩
      rw [s_codeAt_out hk (Or.inl h2)]; rfl
    · refine ⟨-1, ?_, ?_⟩
      · rw [s_codeAt_out hk (Or.inr h2)]; rfl
      · rw [if_neg (ix_nn h2 (by omega))]
        simp (disch := omega) only [inR_n, nI_clamp, hm]
        simp only [show decide (j < 2) = true from decide_eq_true (by omega), if_true, if_pos h2]
    · refine ⟨nI ((P.getD j []).getD k 0), ?_, ?_⟩
      · rw [cl_codeAt _ hk k hk2]; rfl
      · simp (disch := omega) only [ni_lt, Nat.not_lt_zero, if_false, inR_n, nI_clamp, hm, ni_le, Nat.not_le.mpr hk2, pk_mul, nI_add]
        simp only [show decide (j < 2) = true from decide_eq_true (by omega), show decide (3 * j + k < 6) = true from decide_eq_true (by omega), if_true, hcs k hk2]
end
section
theorem drop_loop (ct : Int32) (mn cs : Nat → Int32) : ∃ cs' : Nat → Int32, m_M_drop_28 40 ct mn cs (nI 0) = some (nI 1, (ct - nI 1, mn, cs')) ∧ ∀ k, k < 3 → cs' k = cs (3 + k) := by
  refine ⟨_, rfl, ?_⟩
  intro k hk
  rcases (show k = 0 ∨ k = 1 ∨ k = 2 by omega) with rfl | rfl | rfl <;> rfl
theorem s_drop {ct ct2 : Int32} {bd mn cs : Nat → Int32} (h : RP ct bd ct2 mn cs) (x : Int32) : ∃ (r a c : Int32) (b d e : Nat → Int32), m_H_drop ct bd x = some (r, a, b) ∧ m_M_drop ct2 mn cs x = some (r, c, d, e) ∧ RP a b c d e := by
  obtain ⟨P, hP, rfl, rfl, hc⟩ := h
  unfold m_H_drop m_P_remove m_M_drop
  rcases ix x (n := P.length) (by omega) with h1 | h1 | ⟨j, hj, rfl⟩
  · exact ⟨nI 0, nI P.length, nI P.length, bd, mn, cs, by rw [s_bodyOf_out (Or.inl h1)]; rfl, by rw [s_clause_out (Or.inl h1)]; rfl, P, hP, rfl, rfl, hc⟩
  · exact ⟨nI 0, nI P.length, nI P.length, bd, mn, cs, by rw [s_bodyOf_out (Or.inr h1)]; rfl, by rw [s_clause_out (Or.inr h1)]; rfl, P, hP, rfl, rfl, hc⟩
  · obtain ⟨hk, -, hb, -, -⟩ := hc j hj
    have hne : ¬ bd j = nI 0 := by rw [hb]; exact cl_ne _ hk
    rw [s_bodyOf_in hP hj, s_clause_in hP hj, bs, bs, if_neg (show ¬ (nI 1, ()).1 = nI 0 by decide)]
    dsimp only
    rw [if_neg hne]
    rcases Nat.eq_zero_or_pos j with rfl | hj1
    · obtain ⟨cs', e1, e2⟩ := drop_loop (nI P.length) (upd mn 0 (mn 1)) cs
      refine ⟨nI 1, nI (P.length - 1), nI (P.length - 1), upd (upd bd 0 (bd 1)) 1 (nI 0), upd mn 0 (mn 1), cs', ?_, ?_, P.drop 1, by simp; omega, by simp, by simp, ?_⟩
      · rw [← pk_sub (show 1 ≤ P.length by omega)]; rfl
      · rw [← pk_sub (show 1 ≤ P.length by omega)]; exact e1
      · intro i hi
        have hi2 : i = 0 ∧ 1 < P.length := by simp at hi; omega
        obtain ⟨rfl, hl⟩ := hi2
        obtain ⟨a1, a2, a3, a4, a5⟩ := hc 1 hl
        have e3 : (P.drop 1).getD 0 [] = P.getD 1 [] := by simp [List.getD]
        rw [e3]
        refine ⟨a1, a2, ?_, ?_, ?_⟩
        · rw [pk_un (by decide), pk_us]; exact a3
        · rw [pk_us]; exact a4
        · intro k hk3
          have := (cl_len _ a1).2
          rw [show 3 * 0 + k = k by omega, e2 k (by omega)]
          exact a5 k hk3
    · have hj2 : j = 1 := by omega
      subst hj2
      refine ⟨nI 1, nI (P.length - 1), nI (P.length - 1), upd bd 1 (nI 0), mn, cs, ?_, ?_, P.take 1, by simp; omega, by rw [List.length_take]; congr 1; omega, by rw [List.length_take]; congr 1; omega, ?_⟩
      · rw [← pk_sub (show 1 ≤ P.length by omega)]; rfl
      · rw [← pk_sub (show 1 ≤ P.length by omega)]; rfl
      · intro i hi
        have hi2 : i = 0 := by simp at hi; omega
        subst hi2
        obtain ⟨a1, a2, a3, a4, a5⟩ := hc 0 (by omega)
        have e3 : (P.take 1).getD 0 [] = P.getD 0 [] := by simp [List.getD]
        rw [e3]
        exact ⟨a1, a2, by rw [pk_un (by decide)]; exact a3, a4, a5⟩
-- how many bits
def cn (g : Nat → Bool) : Nat → Nat
  | 0 => 0
  | k + 1 => cn g k + (if g k then 1 else 0)
theorem cn_le (g : Nat → Bool) : ∀ k, cn g k ≤ k
  | 0 => Nat.le_refl 0
  | k + 1 => by
    have := cn_le g k
    show cn g k + (if g k then 1 else 0) ≤ k + 1
    split <;> omega
theorem cn_eq {g g' : Nat → Bool} : ∀ {k : Nat}, (∀ i, i < k → g i = g' i) → cn g k = cn g' k
  | 0, _ => rfl
  | k + 1, h => by
    show cn g k + (if g k then 1 else 0) = cn g' k + (if g' k then 1 else 0)
    rw [cn_eq (fun i hi => h i (by omega)), h k (by omega)]
end
section
-- bits counted
theorem ush_n {n : Nat} (j : Nat) (hn : n < 4294967296) (hj : j < 32) : iush (nI n) (nI j) = nI (n / 2 ^ j) := pk_ushrN hn (nI j) j (s_u j hj)
def bcN (n : Nat) : Nat :=
  letN (letN (n - (n / 2 ^ 1 &&& 1431655765)) (fun a => (a &&& 858993459) + (a / 2 ^ 2 &&& 858993459))) (fun b => letN (letN (b + b / 2 ^ 4 &&& 252645135) (fun c => c + c / 2 ^ 8)) (fun d => (d + d / 2 ^ 16) &&& 63))
theorem bc_N {n : Nat} (h : n < 65536) : m_I_bitCount (nI n) = some (nI (bcN n), ()) := by
  unfold m_I_bitCount bcN letN
  dsimp only
  have l1 : n / 2 ^ 1 &&& 1431655765 ≤ n / 2 ^ 1 := Nat.and_le_left
  have e1 : nI n - (iush (nI n) (nI 1) &&& nI 1431655765) = nI (n - (n / 2 ^ 1 &&& 1431655765)) := by
    rw [ush_n 1 (by omega) (by decide), nx_and, pk_sub (by omega)]
  rw [e1]
  have ha : n - (n / 2 ^ 1 &&& 1431655765) < 65536 := by omega
  generalize n - (n / 2 ^ 1 &&& 1431655765) = a at ha
  have e2 : (nI a &&& nI 858993459) + (iush (nI a) (nI 2) &&& nI 858993459) = nI ((a &&& 858993459) + (a / 2 ^ 2 &&& 858993459)) := by
    rw [ush_n 2 (by omega) (by decide), nx_and, nx_and, nI_add]
  rw [e2]
  have l2 : a &&& 858993459 ≤ a := Nat.and_le_left
  have l3 : a / 2 ^ 2 &&& 858993459 ≤ a / 2 ^ 2 := Nat.and_le_left
  have hb : (a &&& 858993459) + (a / 2 ^ 2 &&& 858993459) < 131072 := by omega
  generalize (a &&& 858993459) + (a / 2 ^ 2 &&& 858993459) = b at hb
  have e3 : (nI b + iush (nI b) (nI 4)) &&& nI 252645135 = nI (b + b / 2 ^ 4 &&& 252645135) := by
    rw [ush_n 4 (by omega) (by decide), nI_add, nx_and]
  rw [e3]
  have l4 : b + b / 2 ^ 4 &&& 252645135 ≤ b + b / 2 ^ 4 := Nat.and_le_left
  have hc : b + b / 2 ^ 4 &&& 252645135 < 262144 := by omega
  generalize (b + b / 2 ^ 4 &&& 252645135) = c at hc
  have e4 : nI c + iush (nI c) (nI 8) = nI (c + c / 2 ^ 8) := by
    rw [ush_n 8 (by omega) (by decide), nI_add]
  rw [e4]
  have hd : c + c / 2 ^ 8 < 524288 := by omega
  generalize c + c / 2 ^ 8 = d at hd
  rw [ush_n 16 (by omega) (by decide), nI_add, nx_and]
theorem lnd {a b c d : Nat} (hb : b < 256) (hd : d < 256) : (256 * a + b) &&& (256 * c + d) = 256 * (a &&& c) + (b &&& d) := by
  have hbd : b &&& d < 2 ^ 8 := Nat.lt_of_le_of_lt Nat.and_le_left hb
  apply Nat.eq_of_testBit_eq
  intro i
  rw [Nat.testBit_and, show (256 : Nat) = 2 ^ 8 from rfl, Nat.testBit_two_pow_mul_add a (show b < 2 ^ 8 from hb), Nat.testBit_two_pow_mul_add c (show d < 2 ^ 8 from hd), Nat.testBit_two_pow_mul_add _ hbd]
  split <;> simp
theorem lnd0 {b c d : Nat} (hb : b < 256) (hd : d < 256) : b &&& (256 * c + d) = b &&& d := by
  have h := lnd (a := 0) (c := c) hb hd
  simpa using h
theorem m55 : ∀ y, y < 128 → (128 + y) &&& 85 = y &&& 85 := by decide +kernel
theorem m33 : ∀ e, e < 4 → ∀ y, y < 64 → (64 * e + y) &&& 51 = y &&& 51 := by decide +kernel
def a8 (x : Nat) : Nat := x - (x / 2 &&& 85)
def b8 (x : Nat) : Nat := (x &&& 51) + (x / 4 &&& 51)
theorem b8_lt : ∀ x, x < 256 → b8 (a8 x) % 16 ≤ 4 ∧ b8 (a8 x) / 16 ≤ 4 := by decide +kernel
theorem c8_ok : ∀ x, x < 256 → (b8 (a8 x) + b8 (a8 x) / 16) % 16 = cn (fun p => x.testBit p) 8 := by decide +kernel
theorem a8_lt (x : Nat) : a8 x ≤ x := Nat.sub_le _ _
theorem and15 (x : Nat) : x &&& 15 = x % 16 := Nat.and_two_pow_sub_one_eq_mod x 4
theorem and63 (x : Nat) : x &&& 63 = x % 64 := Nat.and_two_pow_sub_one_eq_mod x 6
theorem st_a {h l : Nat} (hh : h < 256) (hl : l < 256) : (256 * h + l) - ((256 * h + l) / 2 ^ 1 &&& 1431655765) = 256 * a8 h + a8 l := by
  have e1 : (256 * h + l) / 2 ^ 1 = 256 * (h / 2) + (128 * (h % 2) + l / 2) := by omega
  have e2 : (1431655765 : Nat) = 256 * 5592405 + 85 := by decide
  have e3 : (5592405 : Nat) = 256 * 21845 + 85 := by decide
  have e4 : h / 2 &&& 5592405 = h / 2 &&& 85 := by rw [e3]; exact lnd0 (by omega) (by decide)
  have e5 : (128 * (h % 2) + l / 2) &&& 85 = l / 2 &&& 85 := by
    rcases (show h % 2 = 0 ∨ h % 2 = 1 by omega) with e | e
    · rw [e, Nat.mul_zero, Nat.zero_add]
    · rw [e, Nat.mul_one]; exact m55 _ (by omega)
  rw [e1, e2, lnd (by omega) (by decide), e4, e5]
  have l1 : h / 2 &&& 85 ≤ h / 2 := Nat.and_le_left
  have l2 : l / 2 &&& 85 ≤ l / 2 := Nat.and_le_left
  unfold a8
  omega
theorem st_b {p q : Nat} (hp : p < 256) (hq : q < 256) : (256 * p + q &&& 858993459) + ((256 * p + q) / 2 ^ 2 &&& 858993459) = 256 * b8 p + b8 q := by
  have e1 : (256 * p + q) / 2 ^ 2 = 256 * (p / 4) + (64 * (p % 4) + q / 4) := by omega
  have e2 : (858993459 : Nat) = 256 * 3355443 + 51 := by decide
  have e3 : (3355443 : Nat) = 256 * 13107 + 51 := by decide
  have e4 : p / 4 &&& 3355443 = p / 4 &&& 51 := by rw [e3]; exact lnd0 (by omega) (by decide)
  have e5 : p &&& 3355443 = p &&& 51 := by rw [e3]; exact lnd0 (by omega) (by decide)
  have e6 : (64 * (p % 4) + q / 4) &&& 51 = q / 4 &&& 51 := m33 _ (by omega) _ (by omega)
  rw [e1, e2, lnd (by omega) (by decide), lnd (by omega) (by decide), e4, e5, e6]
  unfold b8
  omega
theorem st_c {p q : Nat} (hp : p % 16 ≤ 4 ∧ p / 16 ≤ 4) (hq : q % 16 ≤ 4 ∧ q / 16 ≤ 4) : (256 * p + q + (256 * p + q) / 2 ^ 4 &&& 252645135) = 256 * ((p + p / 16) % 16) + (q + q / 16) % 16 := by
  have e1 : 256 * p + q + (256 * p + q) / 2 ^ 4 = 256 * (p + p / 16) + (16 * (p % 16) + (q + q / 16)) := by omega
  have e2 : (252645135 : Nat) = 256 * 986895 + 15 := by decide
  have e3 : (986895 : Nat) = 256 * 3855 + 15 := by decide
  have e4 : (p + p / 16) &&& 986895 = (p + p / 16) &&& 15 := by rw [e3]; exact lnd0 (by omega) (by decide)
  rw [e1, e2, lnd (by omega) (by decide), e4, and15, and15]
  omega
theorem cn_split (g : Nat → Bool) : cn g 16 = cn g 8 + cn (fun p => g (8 + p)) 8 := by
  simp only [cn, Nat.reduceAdd]
  omega
theorem bc16 {n : Nat} (h : n < 65536) : m_I_bitCount (nI n) = some (nI (cn (fun p => n.testBit p) 16), ()) := by
  rw [bc_N h]
  have e : n = 256 * (n / 256) + n % 256 := by omega
  have hh : n / 256 < 256 := by omega
  have hl : n % 256 < 256 := Nat.mod_lt _ (by decide)
  generalize n / 256 = a at e hh
  generalize n % 256 = b at e hl
  subst e
  have key : bcN (256 * a + b) = cn (fun p => (256 * a + b).testBit p) 16 := by
    have ha := c8_ok a hh
    have hb := c8_ok b hl
    unfold bcN letN
    dsimp only
    rw [st_a hh hl, st_b (Nat.lt_of_le_of_lt (a8_lt a) hh) (Nat.lt_of_le_of_lt (a8_lt b) hl), st_c (b8_lt a hh) (b8_lt b hl), ha, hb, and63, cn_split]
    have e1 : cn (fun p => (256 * a + b).testBit p) 8 = cn (fun p => b.testBit p) 8 := cn_eq (fun i hi => by
      rw [show (256 : Nat) = 2 ^ 8 from rfl, Nat.testBit_two_pow_mul_add a (show b < 2 ^ 8 from hl), if_pos hi])
    have e2 : cn (fun p => (256 * a + b).testBit (8 + p)) 8 = cn (fun p => a.testBit p) 8 := cn_eq (fun i hi => by
      rw [show (256 : Nat) = 2 ^ 8 from rfl, Nat.testBit_two_pow_mul_add a (show b < 2 ^ 8 from hl), if_neg (by omega)]
      congr 1
      omega)
    rw [e1, e2]
    have l1 := cn_le (fun p => a.testBit p) 8
    have l2 := cn_le (fun p => b.testBit p) 8
    clear ha hb e1 e2
    generalize cn (fun p => a.testBit p) 8 = u at l1 ⊢
    generalize cn (fun p => b.testBit p) 8 = v at l2 ⊢
    have d1 : (256 * u + v) / 2 ^ 8 = u := by omega
    rw [d1]
    have d2 : (256 * u + v + u) / 2 ^ 16 = 0 := by omega
    rw [d2, Nat.add_zero, show 256 * u + v + u = v + u + 64 * (4 * u) by omega, Nat.add_mul_mod_self_left, Nat.mod_eq_of_lt (by omega)]
  rw [key]
end
section
theorem nI_bt {n : Nat} (i : Nat) (h : n < 4294967296) : bt (nI n) i = n.testBit i := by
  unfold bt
  rw [BitVec.getLsbD, pk_tn h]
/-- a set of 16 is a number -/
theorem set16 {x : Int32} (h : ∀ i, 16 ≤ i → bt x i = false) : ∃ n : Nat, n < 65536 ∧ x = nI n := by
  obtain ⟨n, hn, e⟩ := pk_andE x (m := 65535) 16 (by decide)
  refine ⟨n, hn, ?_⟩
  rw [← e]
  refine b_ext (fun i hi => ?_)
  rw [b_and, b_65535]
  by_cases h1 : i < 16
  · simp [h1]
  · simp [h1, h i (by omega)]
theorem facts_loop {fa : Nat → Int32} {r : Nat} {g : Nat → Bool} (hr : r < 2) (hg : ∀ p, p < 16 → fa (16 * r + p) = if g p then nI 1 else nI 0) : ∀ d k, k + d = 16 → ∀ n, d < n → m_M_facts_15 fa n (nI r) (nI (cn g k)) (nI k) = some (nI (cn g 16), ()) := by
  intro d
  induction d with
  | zero =>
    intro k hk n hn
    have e : k = 16 := by omega
    subst e
    obtain ⟨m, rfl⟩ : ∃ m, n = m + 1 := ⟨n - 1, by omega⟩
    unfold m_M_facts_15
    rw [if_pos (by rw [ni_le (by decide) (by decide)]; exact Nat.le_refl 16)]
  | succ d ih =>
    intro k hk n hn
    obtain ⟨m, rfl⟩ : ∃ m, n = m + 1 := ⟨n - 1, by omega⟩
    have hk2 : k < 16 := by omega
    have hcn := cn_le g k
    have e1 := hg k hk2
    have step := ih (k + 1) (by omega) m (by omega)
    unfold m_M_facts_15
    rw [if_neg (by rw [ni_le (by decide) (by omega)]; omega)]
    simp (disch := omega) only [pk_mul, nI_add, inR_n, nI_clamp]
    simp only [show decide (16 * r + k < 32) = true from decide_eq_true (by omega), if_true, e1]
    have e2 : cn g (k + 1) = cn g k + (if g k then 1 else 0) := rfl
    rw [e2] at step
    unfold m_M_facts_42
    by_cases hb : g k = true
    · rw [hb] at step ⊢
      simp only [if_true] at step ⊢
      rw [if_neg (by decide), nI_add]
      exact step
    · have hb : g k = false := by simpa using hb
      rw [hb] at step ⊢
      simp only [Bool.false_eq_true, if_false, Nat.add_zero] at step ⊢
      rw [if_pos trivial, nI_add]
      exact step
theorem s_facts {fs fa : Nat → Int32} (h : RF fs fa) (x : Int32) : ∃ r : Int32, m_H_facts fs x = some (r, ()) ∧ m_M_facts fa x = some (r, ()) := by
  unfold m_H_facts m_M_facts m_H_isFactRelation
  rcases ix x (n := 2) (by decide) with h1 | h1 | ⟨r, hr, rfl⟩
  · exact ⟨-1, by rw [if_pos h1]; rfl, by rw [if_pos h1]⟩
  · refine ⟨-1, by rw [if_neg (ix_nn h1 (by decide)), if_pos h1]; rfl, ?_⟩
    rw [if_neg (ix_nn h1 (by decide)), if_neg]
    intro h2
    have a1 := Int32.le_iff_toInt_le.mp h1
    have a2 := Int32.le_iff_toInt_le.mp h2
    rw [nI_toInt (by decide)] at a1 a2
    omega
  · obtain ⟨n, hn, e⟩ := set16 (h r hr).2
    refine ⟨nI (cn (fun p => n.testBit p) 16), ?_, ?_⟩
    · simp (disch := omega) only [ni_lt, ni_le, Nat.not_lt_zero, Nat.not_le.mpr hr, if_false, bs, ni_eq, Nat.one_ne_zero, inR_n, nI_clamp]
      simp only [show decide (r < 2) = true from decide_eq_true hr, if_true, e, bc16 hn, bs]
    · simp (disch := omega) only [ni_lt, ni_le, Nat.not_lt_zero, if_false, if_pos (show r ≤ 1 by omega)]
      refine facts_loop (g := fun p => n.testBit p) hr ?_ 16 0 (by omega) 40 (by omega)
      intro p hp
      rw [(h r hr).1 p hp, e, nI_bt p (by omega)]
end
section
-- the line: which characters go on
def fix (f : Nat) : Nat := if f = 43 then 5 else if f = 45 then 6 else if f = 97 then 3 else if f = 98 then 3 else if f = 116 then 7 else if f = 126 then 4 else 8
def kK (f c p : Nat) : Option (Int32 × Unit) := if p < xlen.getD (fix f) 0 then Option.bind (m_S_charAt (fix f) (nI p)) (fun v => m_L_allows v.1 (nI c)) else some (nI 0, ())
def kG (f c p : Nat) : Option (Int32 × Unit) := m_M_goesOn (fun j => if j = 0 then nI f else nI c) (nI p)
def kB (f c p : Nat) : Bool := decide (kK f c p = some (nI 1, ()))
theorem lk_97 : ∀ c, c < 95 → ∀ p, p < 31 → kG 97 (32 + c) (1 + p) = kK 97 (32 + c) (1 + p) := by decide +kernel
theorem lk_98 : ∀ c, c < 95 → ∀ p, p < 31 → kG 98 (32 + c) (1 + p) = kK 98 (32 + c) (1 + p) := by decide +kernel
theorem lk_116 : ∀ c, c < 95 → ∀ p, p < 31 → kG 116 (32 + c) (1 + p) = kK 116 (32 + c) (1 + p) := by decide +kernel
theorem lk_43 : ∀ c, c < 95 → ∀ p, p < 31 → kG 43 (32 + c) (1 + p) = kK 43 (32 + c) (1 + p) := by decide +kernel
theorem lk_45 : ∀ c, c < 95 → ∀ p, p < 31 → kG 45 (32 + c) (1 + p) = kK 45 (32 + c) (1 + p) := by decide +kernel
theorem lk_126 : ∀ c, c < 95 → ∀ p, p < 31 → kG 126 (32 + c) (1 + p) = kK 126 (32 + c) (1 + p) := by decide +kernel
theorem lk_0 : ∀ c, c < 95 → kG (32 + c) (32 + c) 0 = kK (32 + c) (32 + c) 0 := by decide +kernel
theorem kf_0 : ∀ c, c < 95 → kB (32 + c) (32 + c) 0 = true → (32 + c = 97 ∨ 32 + c = 98 ∨ 32 + c = 116 ∨ 32 + c = 43 ∨ 32 + c = 45 ∨ 32 + c = 126) := by decide +kernel
theorem kv_a : ∀ i, i < 9 → ∀ c, c < 95 → ∀ p, p < xlen.getD i 0 → ∃ b : Bool, Option.bind (m_S_charAt i (nI p)) (fun v => m_L_allows v.1 (nI (32 + c))) = some (if b then nI 1 else nI 0, ()) := by decide +kernel
theorem kK_v {f c p : Nat} (hc : 32 ≤ c ∧ c ≤ 126) : kK f c p = some (if kB f c p then nI 1 else nI 0, ()) := by
  have h1 : ∃ b : Bool, kK f c p = some (if b then nI 1 else nI 0, ()) := by
    unfold kK
    by_cases h : p < xlen.getD (fix f) 0
    · rw [if_pos h]
      have hi : fix f < 9 := by unfold fix; repeat' split <;> try decide
      have := kv_a (fix f) hi (c - 32) (by omega) p h
      rwa [show 32 + (c - 32) = c by omega] at this
    · rw [if_neg h]; exact ⟨false, rfl⟩
  obtain ⟨b, h⟩ := h1
  unfold kB
  rw [h]
  cases b
  · rw [decide_eq_false (by decide)]
  · rw [decide_eq_true (by decide)]
theorem kG_K {f c p : Nat} (hf : f = 97 ∨ f = 98 ∨ f = 116 ∨ f = 43 ∨ f = 45 ∨ f = 126) (hc : 32 ≤ c ∧ c ≤ 126) (hp : 1 ≤ p ∧ p < 32) : kG f c p = kK f c p := by
  have e1 : 32 + (c - 32) = c := by omega
  have e2 : 1 + (p - 1) = p := by omega
  rcases hf with rfl | rfl | rfl | rfl | rfl | rfl
  · have := lk_97 (c - 32) (by omega) (p - 1) (by omega); rwa [e1, e2] at this
  · have := lk_98 (c - 32) (by omega) (p - 1) (by omega); rwa [e1, e2] at this
  · have := lk_116 (c - 32) (by omega) (p - 1) (by omega); rwa [e1, e2] at this
  · have := lk_43 (c - 32) (by omega) (p - 1) (by omega); rwa [e1, e2] at this
  · have := lk_45 (c - 32) (by omega) (p - 1) (by omega); rwa [e1, e2] at this
  · have := lk_126 (c - 32) (by omega) (p - 1) (by omega); rwa [e1, e2] at this
end
section
def fpos (b : Nat → Bool) : Nat → Nat → Nat
  | 0, k => k
  | d + 1, k => if b k then fpos b d (k + 1) else k
theorem fix_lt (f : Nat) : fix f < 9 := by unfold fix; repeat' split <;> try decide
theorem len_n : ∀ i, i < 9 → m_S_length i = some (nI (xlen.getD i 0), ()) := by decide +kernel
theorem xl_lt : ∀ i, i < 9 → xlen.getD i 0 < 29 := by decide +kernel
theorem inN_t {i : Nat} (h : i < 9) : inN i = true := decide_eq_true h
theorem begun_loop {n f : Nat} {ty : Nat → Int32} {ch : Nat → Nat} (hn : n ≤ 32) (hty : ∀ j, j < n → ty j = nI (ch j) ∧ 32 ≤ ch j ∧ ch j ≤ 126) : ∀ d k, k + d = n → ∀ m, d < m → m_L_begunStatement_7 (nI n) ty m (fix f) (nI k) = some (nI (fpos (fun p => kB f (ch p) p) d k), ()) := by
  intro d
  induction d with
  | zero =>
    intro k hk m hm
    obtain ⟨m, rfl⟩ : ∃ m', m = m' + 1 := ⟨m - 1, by omega⟩
    unfold m_L_begunStatement_7
    rw [if_pos (by rw [ni_le (by omega) (by omega)]; omega)]
    rfl
  | succ d ih =>
    intro k hk m hm
    obtain ⟨m, rfl⟩ : ∃ m', m = m' + 1 := ⟨m - 1, by omega⟩
    obtain ⟨e1, c1, c2⟩ := hty k (by omega)
    have hv := kK_v (f := f) (c := ch k) (p := k) ⟨c1, c2⟩
    have hx := xl_lt (fix f) (fix_lt f)
    unfold m_L_begunStatement_7
    rw [if_neg (by rw [ni_le (by omega) (by omega)]; omega), if_pos (inN_t (fix_lt f)), len_n (fix f) (fix_lt f), bs, if_pos (inN_t (fix_lt f))]
    dsimp only
    show _ = some (nI (if kB f (ch k) k then fpos (fun p => kB f (ch p) p) d (k + 1) else k), ())
    by_cases hk2 : k < xlen.getD (fix f) 0
    · rw [if_neg (by rw [ni_le (by omega) (by omega)]; omega)]
      unfold kK at hv
      rw [if_pos hk2] at hv
      obtain ⟨v, hv1, hv2⟩ := of_bind hv
      rw [hv1, bs, if_pos (by rw [inR_n (by omega)]; exact decide_eq_true (by omega)), nI_clamp (by omega), e1, hv2, bs]
      dsimp only
      by_cases hb : kB f (ch k) k = true
      · rw [hb]
        simp only [if_true]
        rw [if_neg (by decide), nI_add]
        exact ih (k + 1) (by omega) m (by omega)
      · have hb : kB f (ch k) k = false := by simpa using hb
        rw [hb]
        simp only [Bool.false_eq_true, if_false, if_true]
    · rw [if_pos (by rw [ni_le (by omega) (by omega)]; omega)]
      have hb : kB f (ch k) k = false := by
        unfold kK at hv
        rw [if_neg hk2] at hv
        unfold kB kK
        rw [if_neg hk2]
        decide
      rw [hb]
      rfl
theorem goesOn_gen {ln : Nat → Int32} {p : Nat} (hp : p < 32) : m_M_goesOn ln (nI p) = m_M_goesOn (fun j => if j = 0 then ln 0 else ln p) (nI p) := by
  have e0 : (nI 0).toNatClampNeg = 0 := rfl
  have ep : (nI p).toNatClampNeg = p := nI_clamp (by omega)
  have q2 : (if p = 0 then ln 0 else ln p) = ln p := by
    split
    · next h => rw [h]
    · rfl
  unfold m_M_goesOn m_M_goesOn_98
  simp only [e0, ep, q2, if_true]
theorem goesOn_k {n : Nat} {ln : Nat → Int32} {ch : Nat → Nat} (hn : n ≤ 32) (hln : ∀ j, j < n → ln j = nI (ch j) ∧ 32 ≤ ch j ∧ ch j ≤ 126) {p : Nat} (hp : p < n) (h0 : 0 < p → kB (ch 0) (ch 0) 0 = true) : m_M_goesOn ln (nI p) = some (if kB (ch 0) (ch p) p then nI 1 else nI 0, ()) := by
  obtain ⟨e1, c1, c2⟩ := hln 0 (by omega)
  obtain ⟨e2, c3, c4⟩ := hln p hp
  rw [goesOn_gen (by omega), e1, e2, ← kK_v ⟨c3, c4⟩]
  have e3 : 32 + (ch 0 - 32) = ch 0 := by omega
  rcases Nat.eq_zero_or_pos p with rfl | hp1
  · have := lk_0 (ch 0 - 32) (by omega)
    rw [e3] at this
    exact this
  · have h2 := kf_0 (ch 0 - 32) (by omega)
    rw [e3] at h2
    exact kG_K (h2 (h0 hp1)) ⟨c3, c4⟩ ⟨hp1, by omega⟩
theorem fault_loop {n : Nat} {ln : Nat → Int32} {ch : Nat → Nat} (hn : n ≤ 32) (hln : ∀ j, j < n → ln j = nI (ch j) ∧ 32 ≤ ch j ∧ ch j ≤ 126) : ∀ d k, k + d = n → (0 < k → kB (ch 0) (ch 0) 0 = true) → ∀ m, d < m → m_M_fault_2 (nI n) ln m (nI k) = if fpos (fun p => kB (ch 0) (ch p) p) d k < n then some (nI (fpos (fun p => kB (ch 0) (ch p) p) d k), ()) else Option.bind (m_M_whole (nI n) ln) (fun v => if v.1 = nI 0 then some (nI n, ()) else some (-1, ())) := by
  intro d
  induction d with
  | zero =>
    intro k hk h0 m hm
    obtain ⟨m, rfl⟩ : ∃ m', m = m' + 1 := ⟨m - 1, by omega⟩
    unfold m_M_fault_2
    rw [if_pos (by rw [ni_le (by omega) (by omega)]; omega), if_neg (by show ¬ k < n; omega)]
  | succ d ih =>
    intro k hk h0 m hm
    obtain ⟨m, rfl⟩ : ∃ m', m = m' + 1 := ⟨m - 1, by omega⟩
    unfold m_M_fault_2
    rw [if_neg (by rw [ni_le (by omega) (by omega)]; omega), goesOn_k hn hln (by omega) h0, bs]
    dsimp only
    have ef : fpos (fun p => kB (ch 0) (ch p) p) (d + 1) k = if kB (ch 0) (ch k) k then fpos (fun p => kB (ch 0) (ch p) p) d (k + 1) else k := rfl
    rw [ef]
    by_cases hb : kB (ch 0) (ch k) k = true
    · rw [hb]
      simp only [if_true]
      rw [if_neg (by decide), nI_add]
      refine ih (k + 1) (by omega) (fun _ => ?_) m (by omega)
      rcases Nat.eq_zero_or_pos k with rfl | h1
      · exact hb
      · exact h0 h1
    · have hb : kB (ch 0) (ch k) k = false := by simpa using hb
      rw [hb]
      simp only [Bool.false_eq_true, if_false, if_true]
      rw [if_pos (by omega)]
end
section
theorem ends_ty {n f : Nat} {ty : Nat → Int32} (h : ty 0 = nI f) (x : Int32) : m_L_endsStatement (nI n) ty x = m_L_endsStatement (nI n) (fun _ => nI f) x := by
  unfold m_L_endsStatement m_L_form m_L_at
  simp only [show (nI 0).toNatClampNeg = 0 from rfl, h]
theorem whole_ln {n f : Nat} {ln : Nat → Int32} (h : ln 0 = nI f) : m_M_whole (nI n) ln = m_M_whole (nI n) (fun _ => nI f) := by
  unfold m_M_whole m_M_whole_68 m_M_whole_75
  simp only [show (nI 0).toNatClampNeg = 0 from rfl, h]
def fl (i : Nat) : Nat := [97, 98, 116, 43, 45, 126].getD i 0
theorem ew_all : ∀ i, i < 6 → ∀ n, n < 32 → m_L_endsStatement (nI (1 + n)) (fun _ => nI (fl i)) (nI (1 + n)) = m_M_whole (nI (1 + n)) (fun _ => nI (fl i)) := by decide +kernel
def wB (f n : Nat) : Bool := decide (m_M_whole (nI n) (fun _ => nI f) = some (nI 1, ()))
theorem wv_all : ∀ i, i < 6 → ∀ n, n < 32 → m_M_whole (nI (1 + n)) (fun _ => nI (fl i)) = some (if wB (fl i) (1 + n) then nI 1 else nI 0, ()) := by decide +kernel
theorem fl_of {f : Nat} (h : f = 97 ∨ f = 98 ∨ f = 116 ∨ f = 43 ∨ f = 45 ∨ f = 126) : ∃ i, i < 6 ∧ f = fl i := by
  rcases h with rfl | rfl | rfl | rfl | rfl | rfl
  · exact ⟨0, by decide, rfl⟩
  · exact ⟨1, by decide, rfl⟩
  · exact ⟨2, by decide, rfl⟩
  · exact ⟨3, by decide, rfl⟩
  · exact ⟨4, by decide, rfl⟩
  · exact ⟨5, by decide, rfl⟩
theorem form_n {n : Nat} {ty : Nat → Int32} {c : Nat} (hn : 0 < n ∧ n ≤ 32) (h : ty 0 = nI c) (hc : 32 ≤ c ∧ c ≤ 126) : m_L_form (nI n) ty = some (fix c, ()) := by
  have e : m_L_at (nI n) ty (nI 0) = some (nI c, ()) := by
    unfold m_L_at
    rw [if_neg (by decide), if_neg (by rw [ni_le (by omega) (by decide)]; omega), if_pos (by decide), show (nI 0).toNatClampNeg = 0 from rfl, h, if_pos (isC_n (by omega))]
  unfold m_L_form fix
  rw [e, bs]
  simp (disch := omega) only [ni_eq]
  repeat' split
  all_goals first | rfl | omega
theorem begun_n {n : Nat} {ty : Nat → Int32} {ch : Nat → Nat} (hn : n ≤ 32) (hty : ∀ j, j < n → ty j = nI (ch j) ∧ 32 ≤ ch j ∧ ch j ≤ 126) : m_L_begunStatement (nI n) ty = some (nI (fpos (fun p => kB (ch 0) (ch p) p) n 0), ()) := by
  unfold m_L_begunStatement
  rcases Nat.eq_zero_or_pos n with rfl | h
  · rfl
  · obtain ⟨e, c1, c2⟩ := hty 0 h
    rw [form_n ⟨h, hn⟩ e ⟨c1, c2⟩, bs]
    exact begun_loop hn hty n 0 (by omega) 40 (by omega)
theorem fpos_le (b : Nat → Bool) : ∀ d k, k ≤ fpos b d k ∧ fpos b d k ≤ k + d
  | 0, k => ⟨Nat.le_refl _, Nat.le_refl _⟩
  | d + 1, k => by
    have := fpos_le b d (k + 1)
    show k ≤ (if b k then _ else _) ∧ (if b k then _ else _) ≤ _
    split <;> omega
theorem fpos_all {b : Nat → Bool} : ∀ {d k : Nat}, fpos b d k = k + d → ∀ i, k ≤ i → i < k + d → b i = true
  | 0, k, _, i, h1, h2 => by omega
  | d + 1, k, h, i, h1, h2 => by
    have e : fpos b (d + 1) k = if b k then fpos b d (k + 1) else k := rfl
    rw [e] at h
    by_cases hb : b k = true
    · rw [if_pos hb] at h
      rcases Nat.eq_or_lt_of_le h1 with rfl | h3
      · exact hb
      · exact fpos_all (d := d) (k := k + 1) (by omega) i (by omega) (by omega)
    · rw [if_neg hb] at h
      omega
/-- a line that is no statement -/
theorem enter_no {n : Nat} {ty ln : Nat → Int32} {ch : Nat → Nat} (hn : n ≤ 32) (hty : ∀ j, j < n → ty j = nI (ch j) ∧ 32 ≤ ch j ∧ ch j ≤ 126) (hln : ∀ j, j < n → ln j = nI (ch j) ∧ 32 ≤ ch j ∧ ch j ≤ 126) (hno : fpos (fun p => kB (ch 0) (ch p) p) n 0 < n ∨ n = 0 ∨ wB (ch 0) n = false) (pl mi ct ct2 rd : Int32) (fs bd fa mk mn cs bo : Nat → Int32) :
    m_H_enter pl mi (nI n) ty fs ct bd = some ((-1 : Int32) - nI (fpos (fun p => kB (ch 0) (ch p) p) n 0), pl, mi, nI 0, fs, ct, bd) ∧ m_M_enter (nI n) ct2 rd ln fa mk mn cs bo = some ((-1 : Int32) - nI (fpos (fun p => kB (ch 0) (ch p) p) n 0), nI 0, ct2, rd, fa, mk, mn, cs, bo) := by
  have hb := begun_n hn hty
  have hf := fault_loop hn hln n 0 (by omega) (fun h => absurd h (Nat.lt_irrefl 0)) 40 (by omega)
  have hq := fpos_le (fun p => kB (ch 0) (ch p) p) n 0
  have hall := @fpos_all (fun p => kB (ch 0) (ch p) p) n 0
  generalize fpos (fun p => kB (ch 0) (ch p) p) n 0 = q at hb hf hq hno hall ⊢
  have hE : m_L_endsStatement (nI n) ty (nI q) = some (nI 0, ()) ∧ (q < n ∨ q = n ∧ m_M_whole (nI n) ln = some (nI 0, ())) := by
    rcases Nat.eq_zero_or_pos q with rfl | h1
    · refine ⟨by unfold m_L_endsStatement; rw [if_pos rfl], ?_⟩
      rcases Nat.eq_zero_or_pos n with rfl | h2
      · exact Or.inr ⟨rfl, by unfold m_M_whole; rw [if_pos rfl]⟩
      · exact Or.inl h2
    · by_cases h2 : q < n
      · refine ⟨?_, Or.inl h2⟩
        unfold m_L_endsStatement
        rw [if_neg (by rw [ni_eq (by omega) (by decide)]; omega), if_neg (by rw [ni_le (by omega) (by omega)]; omega)]
      · have e : q = n := by omega
        subst e
        have h0 := hall (by omega) 0 (by omega) (by omega)
        obtain ⟨e1, c1, c2⟩ := hty 0 h1
        obtain ⟨e2, -, -⟩ := hln 0 h1
        have h3 := kf_0 (ch 0 - 32) (by omega)
        rw [show 32 + (ch 0 - 32) = ch 0 by omega] at h3
        obtain ⟨i, hi, ei⟩ := fl_of (h3 h0)
        have hw : wB (ch 0) q = false := by
          rcases hno with h | h | h
          · omega
          · omega
          · exact h
        have a1 := ew_all i hi (q - 1) (by omega)
        have a2 := wv_all i hi (q - 1) (by omega)
        rw [show 1 + (q - 1) = q by omega, ← ei] at a1 a2
        rw [hw] at a2
        rw [ends_ty e1, a1, whole_ln e2, a2]
        exact ⟨rfl, Or.inr ⟨rfl, rfl⟩⟩
  have hF : m_M_fault (nI n) ln = some (nI q, ()) := by
    unfold m_M_fault
    rw [hf]
    rcases hE.2 with h | ⟨h, hw⟩
    · rw [if_pos h]
    · rw [if_neg (by omega), hw, bs, if_pos rfl, h]
  constructor
  · unfold m_H_enter m_H_enter_29 m_L_clear
    rw [hb, bs]
    dsimp only
    rw [hE.1, bs, if_pos rfl, bs]
  · unfold m_M_enter
    rw [hF, bs, if_neg (by show ¬ nI q < nI 0; rw [ni_lt (by omega) (by decide)]; omega)]
end
section
abbrev bit (k : Nat) : Int32 := nI 1 <<< (nI k &&& 31)
theorem bt_or {x : Int32} {k i : Nat} (hk : k < 32) : bt (x ||| bit k) i = (bt x i || decide (i = k)) := by
  by_cases hi : i < 32
  · rw [b_or, bt_bit k hk i hi]
  · rw [b_big (by omega), b_big (by omega), decide_eq_false (by omega)]; rfl
theorem bt_an {x : Int32} {k i : Nat} (hk : k < 32) : bt (x &&& (bit k ^^^ (-1 : Int32))) i = (bt x i && !decide (i = k)) := by
  by_cases hi : i < 32
  · rw [b_and, b_xor, bt_bit k hk i hi, b_m1 i hi, Bool.xor_true]
  · rw [b_big (by omega), b_big (by omega)]; rfl
theorem or_eq {x : Int32} {k : Nat} (hk : k < 32) : (x ||| bit k = x) ↔ bt x k = true := by
  constructor
  · intro h
    have h2 := congrArg (fun y => bt y k) h
    simp only [bt_or hk] at h2
    simpa using h2
  · intro h
    refine b_ext (fun i hi => ?_)
    rw [bt_or hk]
    by_cases e : i = k
    · subst e; rw [h]; rfl
    · simp [e]
theorem an_eq {x : Int32} {k : Nat} (hk : k < 32) : (x &&& (bit k ^^^ (-1 : Int32)) = x) ↔ bt x k = false := by
  constructor
  · intro h
    have h2 := congrArg (fun y => bt y k) h
    simp only [bt_an hk] at h2
    simpa using h2
  · intro h
    refine b_ext (fun i hi => ?_)
    rw [bt_an hk]
    by_cases e : i = k
    · subst e; rw [h]; rfl
    · simp [e]
theorem s_setFact {fs fa : Nat → Int32} (h : RF fs fa) {r p v : Nat} (hr : r < 2) (hp : p < 16) (hv : v < 2) : ∃ (a : Int32) (fs' fa' : Nat → Int32), m_H_changeFacts fs (nI r) (bit p) (nI v) = some (a, fs') ∧ m_M_enterFact fa (nI (16 * r + p)) (nI v) = some (a, fa') ∧ RF fs' fa' := by
  obtain ⟨hf, hz⟩ := h r hr
  have e1 := hf p hp
  have er : decide (r < 2) = true := decide_eq_true hr
  have ep : decide (16 * r + p < 32) = true := decide_eq_true (by omega)
  have hne : ¬ (nI 1 : Int32) = nI 0 := by decide
  have key : ∀ (y : Int32) (g : Bool), (∀ i, bt y i = if i = p then g else bt (fs r) i) → (y = fs r ↔ bt (fs r) p = g) → (g = true ↔ v = 1) →
      ∃ (a : Int32), m_H_changeFacts_39 fs (nI r) (fs r) y (nI r) = some (a, upd fs r y) ∧ m_M_enterFact fa (nI (16 * r + p)) (nI v) = some (a, upd fa (16 * r + p) (nI v)) ∧ RF (upd fs r y) (upd fa (16 * r + p) (nI v)) := by
    intro y g hy he hg
    have hvz : isZ (nI v) = true := by
      rcases (show v = 0 ∨ v = 1 by omega) with rfl | rfl <;> decide
    have hfv : fa (16 * r + p) = nI v ↔ bt (fs r) p = g := by
      have hne2 : ¬ (nI 0 : Int32) = nI 1 := by decide
      rw [e1]
      rcases (show v = 0 ∨ v = 1 by omega) with rfl | rfl
      · have hg0 : g = false := by cases g <;> simp_all
        subst hg0
        cases hb : bt (fs r) p <;> simp [hne]
      · have hg0 : g = true := hg.mpr rfl
        subst hg0
        cases hb : bt (fs r) p <;> simp [hne2]
    refine ⟨if bt (fs r) p = g then nI 0 else nI 1, ?_, ?_, ?_⟩
    · unfold m_H_changeFacts_39
      simp (disch := omega) only [inR_n, nI_clamp, er, if_true, pk_us]
      by_cases hb : bt (fs r) p = g
      · rw [if_pos (he.mpr hb), if_pos hb]
      · rw [if_neg (fun h9 => hb (he.mp h9)), if_neg hb]
    · unfold m_M_enterFact m_M_enterFact_15
      simp (disch := omega) only [inR_n, nI_clamp, ep, if_true, hvz]
      by_cases hb : bt (fs r) p = g
      · rw [if_pos (hfv.mpr hb), if_pos hb]
      · rw [if_neg (fun h9 => hb (hfv.mp h9)), if_neg hb, if_neg hne]
    · intro r2 hr2
      by_cases e : r2 = r
      · subst e
        refine ⟨fun p2 hp2 => ?_, fun i hi => ?_⟩
        · rw [pk_us, hy]
          by_cases e2 : p2 = p
          · subst e2
            rw [pk_us, if_pos rfl]
            rcases (show v = 0 ∨ v = 1 by omega) with rfl | rfl
            · have : g = false := by cases g <;> simp_all
              rw [this]; rfl
            · rw [hg.mpr rfl]; rfl
          · rw [pk_un (by omega), if_neg e2]
            exact hf p2 hp2
        · rw [pk_us, hy, if_neg (by omega)]
          exact hz i hi
      · refine ⟨fun p2 hp2 => ?_, fun i hi => ?_⟩
        · rw [pk_un e, pk_un (by omega)]
          exact (h r2 hr2).1 p2 hp2
        · rw [pk_un e]
          exact (h r2 hr2).2 i hi
  have hcf : ∀ y, m_H_changeFacts fs (nI r) y (nI v) = if nI v = nI 0 then m_H_changeFacts_39 fs (nI r) (fs r) (fs r &&& (y ^^^ (-1 : Int32))) (nI r) else m_H_changeFacts_39 fs (nI r) (fs r) (fs r ||| y) (nI r) := by
    intro y
    unfold m_H_changeFacts m_H_isFactRelation
    simp (disch := omega) only [ni_lt, ni_le, Nat.not_lt_zero, Nat.not_le.mpr hr, if_false, bs, inR_n, nI_clamp, er, if_true, if_neg hne]
  rw [hcf]
  rcases (show v = 0 ∨ v = 1 by omega) with rfl | rfl
  · obtain ⟨a, k1, k2, k3⟩ := key (fs r &&& (bit p ^^^ (-1 : Int32))) false (fun i => by
      rw [bt_an (by omega)]
      by_cases e : i = p
      · simp [e]
      · simp [e]) (an_eq (by omega)) (by simp)
    exact ⟨a, _, _, by rw [if_pos rfl]; exact k1, k2, k3⟩
  · obtain ⟨a, k1, k2, k3⟩ := key (fs r ||| bit p) true (fun i => by
      rw [bt_or (by omega)]
      by_cases e : i = p
      · simp [e]
      · simp [e]) (or_eq (by omega)) (by simp)
    exact ⟨a, _, _, by rw [if_neg hne]; exact k1, k2, k3⟩
end
section
def mv (g1 g2 : Bool) : Int32 := if g1 then nI 1 else if g2 then (-1 : Int32) else nI 0
theorem mv_inj : ∀ a b c d : Bool, (a = true → b = false) → (c = true → d = false) → (mv a b = mv c d ↔ a = c ∧ b = d) := by decide +kernel
theorem s_setMark0 {pl mi : Int32} {mk : Nat → Int32} (h : RM pl mi mk) {p : Nat} (hp : p < 16) {y1 y2 : Int32} {g1 g2 : Bool} (h1 : ∀ i, bt y1 i = if i = p then g1 else bt pl i) (h2 : ∀ i, bt y2 i = if i = p then g2 else bt mi i) (e1 : y1 = pl ↔ bt pl p = g1) (e2 : y2 = mi ↔ bt mi p = g2) (hg : g1 = true → g2 = false) :
    ∃ (a : Int32) (mk' : Nat → Int32), m_H_changeMarks pl mi y1 y2 = some (a, y1, y2) ∧ m_M_enterMark mk (nI p) (mv g1 g2) = some (a, mk') ∧ RM y1 y2 mk' := by
  obtain ⟨hm, hx, hz⟩ := h
  have ep : decide (p < 16) = true := decide_eq_true hp
  have hne : ¬ (nI 1 : Int32) = nI 0 := by decide
  have hv : mk p = mv g1 g2 ↔ bt pl p = g1 ∧ bt mi p = g2 := by
    rw [hm p hp]
    exact mv_inj _ _ _ _ (hx p) hg
  refine ⟨if bt pl p = g1 ∧ bt mi p = g2 then nI 0 else nI 1, upd mk p (mv g1 g2), ?_, ?_, ?_, ?_, ?_⟩
  · unfold m_H_changeMarks m_H_changeMarks_20 m_H_changeMarks_21
    by_cases a1 : bt pl p = g1
    · rw [if_pos (e1.mpr a1)]
      by_cases a2 : bt mi p = g2
      · rw [if_pos (e2.mpr a2), if_neg hne, if_pos ⟨a1, a2⟩]
      · rw [if_neg (fun h9 => a2 (e2.mp h9)), if_pos rfl, if_neg (fun h9 => a2 h9.2)]
    · rw [if_neg (fun h9 => a1 (e1.mp h9)), if_pos rfl, if_neg (fun h9 => a1 h9.1)]
  · unfold m_M_enterMark m_M_enterMark_15
    simp (disch := omega) only [inR_n, nI_clamp, ep, if_true]
    by_cases a : bt pl p = g1 ∧ bt mi p = g2
    · rw [if_pos (hv.mpr a), if_pos a]
    · rw [if_neg (fun h9 => a (hv.mp h9)), if_neg a, if_neg hne]
  · intro p2 hp2
    rw [h1, h2]
    by_cases e : p2 = p
    · subst e
      rw [pk_us, if_pos rfl, if_pos rfl]
      rfl
    · rw [pk_un e, if_neg e, if_neg e]
      exact hm p2 hp2
  · intro i hi
    rw [h1] at hi
    rw [h2]
    by_cases e : i = p
    · rw [if_pos e] at hi ⊢
      exact hg hi
    · rw [if_neg e] at hi ⊢
      exact hx i hi
  · intro i hi
    rw [h1, h2, if_neg (by omega), if_neg (by omega)]
    exact hz i hi
theorem bo_i {x : Int32} {p : Nat} (hp : p < 16) (i : Nat) : bt (x ||| bit p) i = if i = p then true else bt x i := by
  rw [bt_or (by omega)]
  by_cases e : i = p <;> simp [e]
theorem ba_i {x : Int32} {p : Nat} (hp : p < 16) (i : Nat) : bt (x &&& (bit p ^^^ (-1 : Int32))) i = if i = p then false else bt x i := by
  rw [bt_an (by omega)]
  by_cases e : i = p <;> simp [e]
theorem s_markPlus {pl mi : Int32} {mk : Nat → Int32} (h : RM pl mi mk) {p : Nat} (hp : p < 16) : ∃ (a : Int32) (mk' : Nat → Int32), m_H_changeMarks pl mi (pl ||| bit p) (mi &&& (bit p ^^^ (-1 : Int32))) = some (a, pl ||| bit p, mi &&& (bit p ^^^ (-1 : Int32))) ∧ m_M_enterMark mk (nI p) (nI 1) = some (a, mk') ∧ RM (pl ||| bit p) (mi &&& (bit p ^^^ (-1 : Int32))) mk' :=
  s_setMark0 (g1 := true) (g2 := false) h hp (bo_i hp) (ba_i hp) (or_eq (by omega)) (an_eq (by omega)) (fun _ => rfl)
theorem s_markMinus {pl mi : Int32} {mk : Nat → Int32} (h : RM pl mi mk) {p : Nat} (hp : p < 16) : ∃ (a : Int32) (mk' : Nat → Int32), m_H_changeMarks pl mi (pl &&& (bit p ^^^ (-1 : Int32))) (mi ||| bit p) = some (a, pl &&& (bit p ^^^ (-1 : Int32)), mi ||| bit p) ∧ m_M_enterMark mk (nI p) (-1) = some (a, mk') ∧ RM (pl &&& (bit p ^^^ (-1 : Int32))) (mi ||| bit p) mk' :=
  s_setMark0 (g1 := false) (g2 := true) h hp (ba_i hp) (bo_i hp) (an_eq (by omega)) (or_eq (by omega)) (fun h9 => absurd h9 (by decide))
theorem s_markNone {pl mi : Int32} {mk : Nat → Int32} (h : RM pl mi mk) {p : Nat} (hp : p < 16) : ∃ (a : Int32) (mk' : Nat → Int32), m_H_changeMarks pl mi (pl &&& (bit p ^^^ (-1 : Int32))) (mi &&& (bit p ^^^ (-1 : Int32))) = some (a, pl &&& (bit p ^^^ (-1 : Int32)), mi &&& (bit p ^^^ (-1 : Int32))) ∧ m_M_enterMark mk (nI p) (nI 0) = some (a, mk') ∧ RM (pl &&& (bit p ^^^ (-1 : Int32))) (mi &&& (bit p ^^^ (-1 : Int32))) mk' :=
  s_setMark0 (g1 := false) (g2 := false) h hp (ba_i hp) (ba_i hp) (an_eq (by omega)) (an_eq (by omega)) (fun _ => rfl)
end
section
theorem at_n {n : Nat} {ty : Nat → Int32} {c j : Nat} (hn : n ≤ 32) (hj : j < n) (h : ty j = nI c) (hc : 32 ≤ c ∧ c ≤ 126) : m_L_at (nI n) ty (nI j) = some (nI c, ()) := by
  unfold m_L_at
  rw [if_neg (by rw [ni_lt (by omega) (by decide)]; omega), if_neg (by rw [ni_le (by omega) (by omega)]; omega), if_pos (by rw [inR_n (by omega)]; exact decide_eq_true (by omega)), nI_clamp (by omega), h, if_pos (isC_n (by omega))]
theorem pair_n {n : Nat} {ty : Nat → Int32} {a b : Nat} (hn : n ≤ 32) (h4 : 4 ≤ n) (ha : a < 4) (hb : b < 4) (e1 : ty (n - 4) = nI (48 + a)) (e2 : ty (n - 2) = nI (48 + b)) : m_L_typedPair (nI n) ty = some (bit (4 * a + b), ()) := by
  unfold m_L_typedPair
  rw [pk_sub h4, pk_sub (show 2 ≤ n by omega), at_n hn (by omega) e1 (by omega), at_n hn (by omega) e2 (by omega), bs, bs]
  dsimp only
  rw [pk_sub (by omega), pk_sub (by omega), show 48 + a - 48 = a by omega, show 48 + b - 48 = b by omega, s_pairBit ha hb, bs]
theorem ix_r : m_S_indexOf1 0 (nI 97) = some (nI 0, ()) ∧ m_S_indexOf1 0 (nI 98) = some (nI 1, ()) ∧ m_S_indexOf1 0 (nI 116) = some (nI 2, ()) := by decide +kernel
/-- a statement: begun to its end, and whole -/
theorem enter_yes {n : Nat} {ty ln : Nat → Int32} {ch : Nat → Nat} (hn : n ≤ 32) (hty : ∀ j, j < n → ty j = nI (ch j) ∧ 32 ≤ ch j ∧ ch j ≤ 126) (hln : ∀ j, j < n → ln j = nI (ch j) ∧ 32 ≤ ch j ∧ ch j ≤ 126) (hq : fpos (fun p => kB (ch 0) (ch p) p) n 0 = n) (h0 : 0 < n) (hw : wB (ch 0) n = true) :
    (∀ (pl mi ct : Int32) (fs bd : Nat → Int32), m_H_enter pl mi (nI n) ty fs ct bd = Option.bind (m_H_carryOutLine pl mi (nI n) ty fs ct bd) (fun v => some (v.1, v.2.1, v.2.2.1, nI 0, v.2.2.2.1, v.2.2.2.2.1, v.2.2.2.2.2))) ∧ m_M_fault (nI n) ln = some (-1, ()) ∧ (∃ i, i < 6 ∧ ch 0 = fl i) ∧ ∀ p, p < n → kB (ch 0) (ch p) p = true := by
  have hall := @fpos_all (fun p => kB (ch 0) (ch p) p) n 0 (by omega)
  have hB : ∀ p, p < n → kB (ch 0) (ch p) p = true := fun p hp => hall p (by omega) (by omega)
  obtain ⟨e1, c1, c2⟩ := hty 0 h0
  obtain ⟨e2, -, -⟩ := hln 0 h0
  have h3 := kf_0 (ch 0 - 32) (by omega)
  rw [show 32 + (ch 0 - 32) = ch 0 by omega] at h3
  obtain ⟨i, hi, ei⟩ := fl_of (h3 (hB 0 h0))
  have a1 := ew_all i hi (n - 1) (by omega)
  have a2 := wv_all i hi (n - 1) (by omega)
  rw [show 1 + (n - 1) = n by omega, ← ei] at a1 a2
  rw [hw] at a2
  refine ⟨?_, ?_, ⟨i, hi, ei⟩, hB⟩
  · intro pl mi ct fs bd
    unfold m_H_enter m_H_enter_29 m_L_clear
    rw [begun_n hn hty, hq, bs]
    dsimp only
    rw [ends_ty e1, a1, a2, bs, if_neg (by decide)]
    rfl
  · unfold m_M_fault
    rw [fault_loop hn hln n 0 (by omega) (fun h => absurd h (Nat.lt_irrefl 0)) 40 (by omega), hq, if_neg (Nat.lt_irrefl n), whole_ln e2, a2, bs, if_neg (by decide)]
-- what the forms say of the characters
theorem wn_all0 : ∀ i, i < 6 → ∀ n, n < 32 → wB (fl i) (1 + n) = true → ((decide (i < 2) && decide (n = 5)) || (decide (2 < i) && decide (n = 6)) || (decide (i = 2) && (decide (n = 13) || decide (n = 20) || decide (n = 27)))) = true := by decide +kernel
theorem wn_all {i n : Nat} (hi : i < 6) (hn : n < 32) (h : wB (fl i) (1 + n) = true) : (i < 2 ∧ n = 5) ∨ (2 < i ∧ n = 6) ∨ (i = 2 ∧ (n = 13 ∨ n = 20 ∨ n = 27)) := by
  have := wn_all0 i hi n hn h
  simp only [Bool.or_eq_true, Bool.and_eq_true, decide_eq_true_eq] at this
  omega
theorem cf_d : ∀ i, i < 6 → i < 2 → ∀ c, c < 95 → (kB (fl i) (32 + c) 2 = true ∨ kB (fl i) (32 + c) 4 = true) → 48 ≤ 32 + c ∧ 32 + c < 52 := by decide +kernel
theorem cm_d : ∀ i, i < 6 → 2 < i → ∀ c, c < 95 → (kB (fl i) (32 + c) 3 = true ∨ kB (fl i) (32 + c) 5 = true) → 48 ≤ 32 + c ∧ 32 + c < 52 := by decide +kernel
theorem cm_r0 : ∀ i, i < 6 → 2 < i → ∀ c, c < 95 → kB (fl i) (32 + c) 1 = true → (decide (32 + c = 116) || (decide (i = 5) && (decide (32 + c = 97) || decide (32 + c = 98)))) = true := by decide +kernel
theorem cm_r {i c : Nat} (hi : i < 6) (h2 : 2 < i) (hc : 32 ≤ c ∧ c ≤ 126) (h : kB (fl i) c 1 = true) : c = 116 ∨ (i = 5 ∧ (c = 97 ∨ c = 98)) := by
  have := cm_r0 i hi h2 (c - 32) (by omega) (by rw [show 32 + (c - 32) = c by omega]; exact h)
  rw [show 32 + (c - 32) = c by omega] at this
  simp only [Bool.or_eq_true, Bool.and_eq_true, decide_eq_true_eq] at this
  omega
/-- enter on a statement for a fact -/
theorem enter_fact {n : Nat} {ty ln : Nat → Int32} {ch : Nat → Nat} (hty : ∀ j, j < n → ty j = nI (ch j) ∧ 32 ≤ ch j ∧ ch j ≤ 126) (hln : ∀ j, j < n → ln j = nI (ch j) ∧ 32 ≤ ch j ∧ ch j ≤ 126) (hq : fpos (fun p => kB (ch 0) (ch p) p) n 0 = n) (hn : n = 6) (hw : wB (ch 0) n = true) {i : Nat} (hi : i < 2) (hf : ch 0 = fl i) {fs fa : Nat → Int32} (hR : RF fs fa) (pl mi ct ct2 rd : Int32) (bd mk mn cs bo : Nat → Int32) :
    ∃ (r : Int32) (fs' fa' : Nat → Int32), m_H_enter pl mi (nI n) ty fs ct bd = some (r, pl, mi, nI 0, fs', ct, bd) ∧ m_M_enter (nI n) ct2 rd ln fa mk mn cs bo = some (r, nI 0, ct2, rd, fa', mk, mn, cs, bo) ∧ RF fs' fa' := by
  subst hn
  obtain ⟨hE, hF, -, hB⟩ := enter_yes (by decide) hty hln hq (by decide) hw
  obtain ⟨t0, b0, b0'⟩ := hty 0 (by decide)
  obtain ⟨t2, b2, b2'⟩ := hty 2 (by decide)
  obtain ⟨t4, b4, b4'⟩ := hty 4 (by decide)
  obtain ⟨l0, -, -⟩ := hln 0 (by decide)
  obtain ⟨l2, -, -⟩ := hln 2 (by decide)
  obtain ⟨l4, -, -⟩ := hln 4 (by decide)
  have d2 := cf_d i (by omega) hi (ch 2 - 32) (by omega) (Or.inl (by rw [show 32 + (ch 2 - 32) = ch 2 by omega, ← hf]; exact hB 2 (by decide)))
  have d4 := cf_d i (by omega) hi (ch 4 - 32) (by omega) (Or.inr (by rw [show 32 + (ch 4 - 32) = ch 4 by omega, ← hf]; exact hB 4 (by decide)))
  obtain ⟨a, ha, ea⟩ : ∃ a, a < 4 ∧ ch 2 = 48 + a := ⟨ch 2 - 48, by omega, by omega⟩
  obtain ⟨b, hb, eb⟩ : ∃ b, b < 4 ∧ ch 4 = 48 + b := ⟨ch 4 - 48, by omega, by omega⟩
  rw [ea] at t2 l2
  rw [eb] at t4 l4
  obtain ⟨r, fs', fa', k1, k2, k3⟩ := s_setFact hR (r := i) (p := 4 * a + b) (v := 1) hi (by omega) (by decide)
  have hix : m_S_indexOf1 0 (nI (ch 0)) = some (nI i, ()) := by
    rw [hf]
    rcases (show i = 0 ∨ i = 1 by omega) with rfl | rfl
    · exact ix_r.1
    · exact ix_r.2.1
  have hne : ¬ nI (ch 0) = nI 116 ∧ ¬ nI (ch 0) = nI 43 ∧ ¬ nI (ch 0) = nI 45 ∧ ¬ nI (ch 0) = nI 126 := by
    rw [hf]
    rcases (show i = 0 ∨ i = 1 by omega) with rfl | rfl <;> decide
  have hrel : m_M_relationOf (nI (ch 0)) = some (nI i, ()) := by
    rw [hf]
    rcases (show i = 0 ∨ i = 1 by omega) with rfl | rfl <;> decide
  refine ⟨r, fs', fa', ?_, ?_, k3⟩
  · rw [hE]
    unfold m_H_carryOutLine
    rw [at_n (by decide) (by decide) t0 ⟨b0, b0'⟩, bs]
    dsimp only
    rw [if_neg hne.1, pair_n (by decide) (by decide) ha hb t2 t4, bs]
    dsimp only
    rw [if_neg hne.2.1, if_neg hne.2.2.1, if_neg hne.2.2.2, if_pos (by decide), hix, bs]
    dsimp only
    rw [k1]
    rfl
  · unfold m_M_enter m_M_enter_154
    rw [hF, bs, if_pos (by decide), if_pos (by decide), show (nI 0).toNatClampNeg = 0 from rfl, l0, if_neg hne.1]
    rw [show (nI 6 - nI 4 : Int32) = nI 2 from rfl, show (nI 6 - nI 2 : Int32) = nI 4 from rfl, show (nI 6 - nI 6 : Int32) = nI 0 from rfl, if_pos (by decide), if_pos (by decide), show (nI 2).toNatClampNeg = 2 from rfl, show (nI 4).toNatClampNeg = 4 from rfl, l2, l4]
    unfold letN
    dsimp only
    rw [if_pos (by decide), show (nI 0).toNatClampNeg = 0 from rfl, l0, if_neg hne.1, hrel, bs, if_pos rfl]
    dsimp only
    rw [pk_sub (show 48 ≤ 48 + a by omega), show 48 + a - 48 = a by omega, pk_mul 4 a, nI_add, pk_sub (show 48 ≤ 4 * a + (48 + b) by omega), show 4 * a + (48 + b) - 48 = 4 * a + b by omega, pk_mul 16 i, nI_add, k2, bs]
end
section
/-- enter on a statement that begins with +, - or ~ -/
theorem enter_mark {n : Nat} {ty ln : Nat → Int32} {ch : Nat → Nat} (hty : ∀ j, j < n → ty j = nI (ch j) ∧ 32 ≤ ch j ∧ ch j ≤ 126) (hln : ∀ j, j < n → ln j = nI (ch j) ∧ 32 ≤ ch j ∧ ch j ≤ 126) (hq : fpos (fun p => kB (ch 0) (ch p) p) n 0 = n) (hn : n = 7) (hw : wB (ch 0) n = true) {i : Nat} (hi : i < 6) (hi2 : 2 < i) (hf : ch 0 = fl i) {fs fa : Nat → Int32} (hR : RF fs fa) {pl mi : Int32} {mk : Nat → Int32} (hM : RM pl mi mk) (ct ct2 rd : Int32) (bd mn cs bo : Nat → Int32) :
    ∃ (r pl' mi' : Int32) (fs' fa' mk' : Nat → Int32), m_H_enter pl mi (nI n) ty fs ct bd = some (r, pl', mi', nI 0, fs', ct, bd) ∧ m_M_enter (nI n) ct2 rd ln fa mk mn cs bo = some (r, nI 0, ct2, rd, fa', mk', mn, cs, bo) ∧ RF fs' fa' ∧ RM pl' mi' mk' := by
  subst hn
  obtain ⟨hE, hF, -, hB⟩ := enter_yes (by decide) hty hln hq (by decide) hw
  obtain ⟨t0, b0, b0'⟩ := hty 0 (by decide)
  obtain ⟨t1, b1, b1'⟩ := hty 1 (by decide)
  obtain ⟨t3, b3, b3'⟩ := hty 3 (by decide)
  obtain ⟨t5, b5, b5'⟩ := hty 5 (by decide)
  obtain ⟨l0, -, -⟩ := hln 0 (by decide)
  obtain ⟨l1, -, -⟩ := hln 1 (by decide)
  obtain ⟨l3, -, -⟩ := hln 3 (by decide)
  obtain ⟨l5, -, -⟩ := hln 5 (by decide)
  have d3 := cm_d i hi hi2 (ch 3 - 32) (by omega) (Or.inl (by rw [show 32 + (ch 3 - 32) = ch 3 by omega, ← hf]; exact hB 3 (by decide)))
  have d5 := cm_d i hi hi2 (ch 5 - 32) (by omega) (Or.inr (by rw [show 32 + (ch 5 - 32) = ch 5 by omega, ← hf]; exact hB 5 (by decide)))
  have d1 := cm_r hi hi2 ⟨b1, b1'⟩ (by rw [← hf]; exact hB 1 (by decide))
  obtain ⟨a, ha, ea⟩ : ∃ a, a < 4 ∧ ch 3 = 48 + a := ⟨ch 3 - 48, by omega, by omega⟩
  obtain ⟨b, hb, eb⟩ : ∃ b, b < 4 ∧ ch 5 = 48 + b := ⟨ch 5 - 48, by omega, by omega⟩
  rw [ea] at t3 l3
  rw [eb] at t5 l5
  have hp : 4 * a + b < 16 := by omega
  have hn116 : ¬ nI (ch 0) = nI 116 := by
    rw [hf]
    rcases (show i = 3 ∨ i = 4 ∨ i = 5 by omega) with rfl | rfl | rfl <;> decide
  have hH : m_H_enter pl mi (nI 7) ty fs ct bd = Option.bind (if nI (ch 0) = nI 43 then Option.bind (m_H_changeMarks pl mi (pl ||| bit (4 * a + b)) (mi &&& (bit (4 * a + b) ^^^ (-1 : Int32)))) (fun v => some (v.1, v.2.1, v.2.2, fs, ct, bd))
      else if nI (ch 0) = nI 45 then Option.bind (m_H_changeMarks pl mi (pl &&& (bit (4 * a + b) ^^^ (-1 : Int32))) (mi ||| bit (4 * a + b))) (fun v => some (v.1, v.2.1, v.2.2, fs, ct, bd))
      else if nI (ch 0) = nI 126 then Option.bind (m_S_indexOf1 0 (nI (ch 1))) (fun w => if w.1 = nI 2 then Option.bind (m_H_changeMarks pl mi (pl &&& (bit (4 * a + b) ^^^ (-1 : Int32))) (mi &&& (bit (4 * a + b) ^^^ (-1 : Int32)))) (fun v => some (v.1, v.2.1, v.2.2, fs, ct, bd)) else Option.bind (m_H_changeFacts fs w.1 (bit (4 * a + b)) (nI 0)) (fun v => some (v.1, pl, mi, v.2, ct, bd)))
      else Option.bind (m_S_indexOf1 0 (nI (ch 0))) (fun w => Option.bind (m_H_changeFacts fs w.1 (bit (4 * a + b)) (nI 1)) (fun v => some (v.1, pl, mi, v.2, ct, bd)))) (fun v => some (v.1, v.2.1, v.2.2.1, nI 0, v.2.2.2.1, v.2.2.2.2.1, v.2.2.2.2.2)) := by
    rw [hE]
    unfold m_H_carryOutLine
    rw [at_n (by decide) (by decide) t0 ⟨b0, b0'⟩, bs]
    dsimp only
    rw [if_neg hn116, pair_n (by decide) (by decide) ha hb t3 t5, bs]
    dsimp only
    rw [at_n (by decide) (by decide) t1 ⟨b1, b1'⟩, bs, if_pos (show inN 0 = true by decide), if_pos (show inN 0 = true by decide)]
  have hMe : m_M_enter (nI 7) ct2 rd ln fa mk mn cs bo = if nI (ch 1) = nI 116 then (if nI (ch 0) = nI 43 then m_M_enter_128 ln (nI 0) ct2 rd fa mk mn cs bo (nI 1) (nI (4 * a + b)) else if nI (ch 0) = nI 45 then m_M_enter_128 ln (nI 0) ct2 rd fa mk mn cs bo (-1) (nI (4 * a + b)) else m_M_enter_128 ln (nI 0) ct2 rd fa mk mn cs bo (nI 0) (nI (4 * a + b)))
      else Option.bind (m_M_relationOf (nI (ch 1))) (fun v => m_M_enter_154 ln (nI 0) ct2 rd fa mk mn cs bo (nI 0) (nI 16 * v.1 + nI (4 * a + b))) := by
    unfold m_M_enter
    rw [hF, bs, if_pos (by decide), if_pos (by decide), show (nI 0).toNatClampNeg = 0 from rfl, l0, if_neg hn116]
    rw [show (nI 7 - nI 4 : Int32) = nI 3 from rfl, show (nI 7 - nI 2 : Int32) = nI 5 from rfl, show (nI 7 - nI 6 : Int32) = nI 1 from rfl, if_pos (by decide), if_pos (by decide), show (nI 3).toNatClampNeg = 3 from rfl, show (nI 5).toNatClampNeg = 5 from rfl, l3, l5]
    unfold letN
    dsimp only
    rw [if_pos (by decide), show (nI 1).toNatClampNeg = 1 from rfl, l1]
    rw [pk_sub (show 48 ≤ 48 + a by omega), show 48 + a - 48 = a by omega, pk_mul 4 a, nI_add, pk_sub (show 48 ≤ 4 * a + (48 + b) by omega), show 4 * a + (48 + b) - 48 = 4 * a + b by omega]
    have g0 : inR (nI 0) 32 = true := by decide
    have g7 : ¬ (nI 7 : Int32) = nI 6 := by decide
    simp only [g0, if_true, if_neg g7]
  rw [hH, hMe]
  unfold m_M_enter_128 m_M_enter_154
  rcases (show i = 3 ∨ i = 4 ∨ i = 5 by omega) with rfl | rfl | rfl
  · have e1 : ch 1 = 116 := by omega
    have e0 : ch 0 = 43 := hf
    obtain ⟨r, mk', k1, k2, k3⟩ := s_markPlus hM hp
    refine ⟨r, _, _, fs, fa, mk', ?_, ?_, hR, k3⟩
    · rw [e0, if_pos rfl, k1]; rfl
    · rw [e0, e1, if_pos rfl, if_pos rfl, k2]; rfl
  · have e1 : ch 1 = 116 := by omega
    have e0 : ch 0 = 45 := hf
    obtain ⟨r, mk', k1, k2, k3⟩ := s_markMinus hM hp
    refine ⟨r, _, _, fs, fa, mk', ?_, ?_, hR, k3⟩
    · rw [e0, if_neg (by decide), if_pos rfl, k1]; rfl
    · rw [e0, e1, if_pos rfl, if_neg (by decide), if_pos rfl, k2]; rfl
  · have e0 : ch 0 = 126 := hf
    have n43 : ¬ (nI 126 : Int32) = nI 43 := by decide
    have n45 : ¬ (nI 126 : Int32) = nI 45 := by decide
    rw [e0]
    simp only [n43, n45, if_false, if_true]
    rcases d1 with e1 | ⟨-, e1⟩
    · obtain ⟨r, mk', k1, k2, k3⟩ := s_markNone hM hp
      refine ⟨r, _, _, fs, fa, mk', ?_, ?_, hR, k3⟩
      · rw [e1, ix_r.2.2, bs, if_pos rfl, k1]; rfl
      · rw [e1, if_pos rfl, k2]; rfl
    · obtain ⟨j, hj, ej⟩ : ∃ j, j < 2 ∧ ch 1 = fl j := by
        rcases e1 with e1 | e1
        · exact ⟨0, by decide, e1⟩
        · exact ⟨1, by decide, e1⟩
      obtain ⟨r, fs', fa', k1, k2, k3⟩ := s_setFact hR (r := j) (p := 4 * a + b) (v := 0) hj hp (by decide)
      refine ⟨r, pl, mi, fs', fa', mk, ?_, ?_, k3, hM⟩
      · have h1 : m_S_indexOf1 0 (nI (ch 1)) = some (nI j, ()) := by
          rw [ej]
          rcases (show j = 0 ∨ j = 1 by omega) with rfl | rfl
          · exact ix_r.1
          · exact ix_r.2.1
        rw [h1, bs, if_neg (by show ¬ nI j = nI 2; rw [ni_eq (by omega) (by decide)]; omega), k1]
        rfl
      · have h1 : m_M_relationOf (nI (ch 1)) = some (nI j, ()) ∧ ¬ nI (ch 1) = nI 116 := by
          rw [ej]
          rcases (show j = 0 ∨ j = 1 by omega) with rfl | rfl <;> decide
        rw [if_neg h1.2, h1.1, bs]
        dsimp only
        rw [pk_mul 16 j, nI_add, k2]
        rfl
end
section
theorem lt_head : ∀ p, p < 8 → Option.bind (m_S_charAt 2 (nI p)) (fun v => some (v.1, ())) = Option.bind (m_M_head (nI p)) (fun v => (some (v.1, ()) : Option (Int32 × Unit))) := by decide +kernel
theorem lt_code : ∀ c, c < 27 → ∀ t, t < 7 → m_P_letterOf (mk [c]) (nI (8 + t)) = (if t = 6 then some (nI 44, ()) else Option.bind (m_M_letterOf (nI c) (nI t)) (fun v => some (v.1, ()))) := by decide +kernel
theorem lt_val : ∀ c, c < 27 → ∀ t, t < 7 → ∃ r, r < 127 ∧ m_P_letterOf (mk [c]) (nI (8 + t)) = some (nI r, ()) := by decide +kernel
theorem lt_hv : ∀ p, p < 8 → ∃ r, r < 127 ∧ Option.bind (m_S_charAt 2 (nI p)) (fun v => (some (v.1, ()) : Option (Int32 × Unit))) = some (nI r, ()) := by decide +kernel
theorem letterOf_1 {l : List Nat} (hl : okB l = true) {k t : Nat} (hk : k < l.length) (ht : t < 7) : m_P_letterOf (mk l) (nI (8 + (7 * k + t))) = m_P_letterOf (mk [l.getD k 0]) (nI (8 + t)) := by
  have hL := (cl_len l hl).2
  have hc := cl_lt hl hk
  have h1 : okB [l.getD k 0] = true := decide_eq_true hc
  unfold m_P_letterOf
  rw [if_pos (by rw [ni_le (by decide) (by omega)]; omega), if_pos (by rw [ni_le (by decide) (by omega)]; omega)]
  rw [pk_sub (show 8 ≤ 8 + (7 * k + t) by omega), pk_sub (show 8 ≤ 8 + t by omega), show 8 + (7 * k + t) - 8 = 7 * k + t by omega, show 8 + t - 8 = t by omega]
  rw [pk_div (show 7 * k + t < 2 ^ 31 by omega) (by decide) (by decide), pk_div (show t < 2 ^ 31 by omega) (by decide) (by decide), irm_n (by omega) (by decide) (by decide), irm_n (by omega) (by decide) (by decide)]
  rw [show (7 * k + t) / 7 = k by omega, show (7 * k + t) % 7 = t by omega, show t / 7 = 0 by omega, show t % 7 = t by omega]
  rw [cl_codeAt l hl k hk, cl_codeAt [l.getD k 0] h1 0 (by simp)]
  rfl
theorem s_letter {ct ct2 : Int32} {bd mn cs : Nat → Int32} (h : RP ct bd ct2 mn cs) (x : Int32) : ∃ r : Int32, m_H_letter ct bd x = some (r, ()) ∧ m_M_letter ct2 mn cs x = some (r, ()) := by
  obtain ⟨P, hP, rfl, rfl, hc⟩ := h
  have key : ∀ d j, j + d = P.length → ∀ (z : Int32) (n m : Nat), d < n → d < m → ∃ r : Int32, m_P_letterAt_4 (nI P.length) bd n z (nI j) = some (r, ()) ∧ m_M_letter_4 (nI P.length) mn cs m z (nI j) = some (r, ()) := by
    intro d
    induction d with
    | zero =>
      intro j hj z n m hn hm
      obtain ⟨n, rfl⟩ : ∃ n', n = n' + 1 := ⟨n - 1, by omega⟩
      obtain ⟨m, rfl⟩ : ∃ m', m = m' + 1 := ⟨m - 1, by omega⟩
      unfold m_P_letterAt_4 m_M_letter_4
      rw [if_pos (by rw [ni_le (by omega) (by omega)]; omega), if_pos (by rw [ni_le (by omega) (by omega)]; omega)]
      exact ⟨-1, rfl, rfl⟩
    | succ d ih =>
      intro j hj z n m hn hm
      obtain ⟨n, rfl⟩ : ∃ n', n = n' + 1 := ⟨n - 1, by omega⟩
      obtain ⟨m, rfl⟩ : ∃ m', m = m' + 1 := ⟨m - 1, by omega⟩
      obtain ⟨hk, -, hb, hmn, hcs⟩ := hc j (by omega)
      generalize P.getD j [] = l at hk hb hmn hcs
      have hL := cl_len l hk
      have hTL : m_P_textLength (bd j) = some (nI (7 + 7 * l.length), ()) := by
        unfold m_P_textLength
        rw [hb, cl_bc l hk, bs]
        dsimp only
        rw [pk_mul, nI_add, pk_sub (by omega), show 8 + 7 * l.length - 1 = 7 + 7 * l.length by omega]
      have e1 : m_P_letterAt_4 (nI P.length) bd (n + 1) z (nI j) = if z < nI 0 then some (-1, ()) else if nI (7 + 7 * l.length) ≤ z then (if z = nI (7 + 7 * l.length) then (if nI P.length ≤ nI (j + 1) then m_P_letterAt_63 (nI P.length) bd (m_P_letterAt_4 (nI P.length) bd n) z (nI j) (nI (7 + 7 * l.length)) else some (nI 59, ())) else m_P_letterAt_63 (nI P.length) bd (m_P_letterAt_4 (nI P.length) bd n) z (nI j) (nI (7 + 7 * l.length))) else Option.bind (m_P_letterOf (mk l) z) (fun v => some (v.1, ())) := by
        conv => lhs; unfold m_P_letterAt_4
        rw [if_neg (by rw [ni_le (by omega) (by omega)]; omega), inR_n (by omega), decide_eq_true (show j < 2 by omega), nI_clamp (by omega), if_pos rfl, if_pos rfl, hTL, bs, nI_add, hb]
      have e2 : m_M_letter_4 (nI P.length) mn cs (m + 1) z (nI j) = if z < nI 0 then some (-1, ()) else if nI (7 + 7 * l.length) ≤ z then (if z - nI (7 + 7 * l.length) = nI 0 then (if nI P.length ≤ nI (j + 1) then some (-1, ()) else some (nI 59, ())) else m_M_letter_4 (nI P.length) mn cs m (z - nI (7 + 7 * l.length) + (-1 : Int32)) (nI (j + 1))) else (if nI 0 ≤ z - nI 8 then (if irm (z - nI 8) (nI 7) = nI 6 then some (nI 44, ()) else (if inR (nI (3 * j) + (z - nI 8) / nI 7) 6 = true then Option.bind (m_M_letterOf (cs (nI (3 * j) + (z - nI 8) / nI 7).toNatClampNeg) (irm (z - nI 8) (nI 7))) (fun v => some (v.1, ())) else none)) else Option.bind (m_M_head z) (fun v => some (v.1, ()))) := by
        conv => lhs; unfold m_M_letter_4
        rw [if_neg (by rw [ni_le (by omega) (by omega)]; omega), inR_n (by omega), decide_eq_true (show j < 2 by omega), nI_clamp (by omega), if_pos rfl, hmn, pk_mul 7 l.length, nI_add, nI_add, pk_mul 3 j]
      rw [e1, e2]
      by_cases hz : z < nI 0
      · rw [if_pos hz, if_pos hz]; exact ⟨-1, rfl, rfl⟩
      rw [if_neg hz, if_neg hz]
      obtain ⟨p, hp, rfl⟩ := nI_of (x := z) hz
      by_cases h1 : 7 + 7 * l.length ≤ p
      · have h1' : nI (7 + 7 * l.length) ≤ nI p := by rw [ni_le (by omega) (by omega)]; exact h1
        rw [if_pos h1', if_pos h1', pk_sub h1]
        unfold m_P_letterAt_63
        rw [nI_add, nI_add]
        by_cases h2 : p = 7 + 7 * l.length
        · have h2a : nI p = nI (7 + 7 * l.length) := by rw [h2]
          have h2b : nI (p - (7 + 7 * l.length)) = nI 0 := by rw [h2, Nat.sub_self]
          rw [if_pos h2a, if_pos h2b]
          by_cases h3 : P.length ≤ j + 1
          · have h3' : nI P.length ≤ nI (j + 1) := by rw [ni_le (by omega) (by omega)]; exact h3
            rw [if_pos h3', if_pos h3']
            refine ⟨-1, ?_, rfl⟩
            obtain ⟨n, rfl⟩ : ∃ n', n = n' + 1 := ⟨n - 1, by omega⟩
            unfold m_P_letterAt_4
            rw [if_pos h3']
          · have h3' : ¬ nI P.length ≤ nI (j + 1) := by rw [ni_le (by omega) (by omega)]; exact h3
            rw [if_neg h3', if_neg h3']
            exact ⟨nI 59, rfl, rfl⟩
        · rw [if_neg (by rw [ni_eq (by omega) (by omega)]; exact h2), if_neg (by rw [ni_eq (by omega) (by decide)]; omega), pk_sub (show 7 + 7 * l.length + 1 ≤ p by omega)]
          have e3 : nI (p - (7 + 7 * l.length)) + (-1 : Int32) = nI (p - (7 + 7 * l.length + 1)) := by
            rw [show p - (7 + 7 * l.length) = (p - (7 + 7 * l.length + 1)) + 1 by omega]
            exact pk_m1 _
          rw [e3]
          exact ih (j + 1) (by omega) _ n m (by omega) (by omega)
      · have h1' : ¬ nI (7 + 7 * l.length) ≤ nI p := by rw [ni_le (by omega) (by omega)]; exact h1
        rw [if_neg h1', if_neg h1']
        by_cases h4 : p < 8
        · obtain ⟨r, -, hr⟩ := lt_hv p h4
          have hneg : ¬ nI 0 ≤ nI p - nI 8 := by
            have := pk_sneg (a := p) (b := 8) (by decide) h4
            intro h9
            have a1 := Int32.le_iff_toInt_le.mp h9
            have a2 := Int32.lt_iff_toInt_lt.mp this
            rw [nI_toInt (by decide)] at a1
            have a3 : (0 : Int32).toInt = 0 := rfl
            omega
          refine ⟨nI r, ?_, ?_⟩
          · unfold m_P_letterOf
            rw [if_neg (by rw [ni_le (by decide) (by omega)]; omega), if_pos (by decide), hr, bs]
          · rw [if_neg hneg, ← lt_head p h4, hr]
        · obtain ⟨k, t, ht, e5⟩ : ∃ k t, t < 7 ∧ p = 8 + (7 * k + t) := ⟨(p - 8) / 7, (p - 8) % 7, Nat.mod_lt _ (by decide), by omega⟩
          subst e5
          have hkl : k < l.length := by omega
          have hcl := cl_lt hk hkl
          obtain ⟨r, -, hr⟩ := lt_val (l.getD k 0) hcl t ht
          refine ⟨nI r, ?_, ?_⟩
          · rw [letterOf_1 hk hkl ht, hr, bs]
          · have hlc := lt_code (l.getD k 0) hcl t ht
            rw [hr] at hlc
            rw [pk_sub (show 8 ≤ 8 + (7 * k + t) by omega), show 8 + (7 * k + t) - 8 = 7 * k + t by omega, if_pos (by rw [ni_le (by decide) (by omega)]; omega), irm_n (by omega) (by decide) (by decide), show (7 * k + t) % 7 = t by omega, pk_div (show 7 * k + t < 2 ^ 31 by omega) (by decide) (by decide), show (7 * k + t) / 7 = k by omega, nI_add, nI_clamp (by omega), inR_n (by omega), decide_eq_true (show 3 * j + k < 6 by omega), hcs k hkl]
            by_cases h6 : t = 6
            · rw [if_pos (by rw [h6]), hlc, if_pos h6]
            · rw [if_neg (by rw [ni_eq (by omega) (by decide)]; exact h6), if_pos rfl, hlc, if_neg h6]
  obtain ⟨r, k1, k2⟩ := key P.length 0 (by omega) x 40 40 (by omega) (by omega)
  refine ⟨r, ?_, k2⟩
  unfold m_H_letter m_P_letterAt
  rw [k1, bs]
end
section
-- subsumes: the class's side
def rp (v c : Nat) : Nat := c / 9 * 9 + 3 * (if c / 3 % 3 = 2 then v else c / 3 % 3) + (if c % 3 = 2 then v else c % 3)
theorem rp_lt {v c : Nat} (hv : v < 3) (hc : c < 27) : rp v c < 27 := by
  unfold rp
  split <;> split <;> omega
theorem rep_n {v c : Nat} (hv : v < 3) (hc : c < 27) : m_M_replaced (nI c) (nI v) = some (nI (rp v c), ()) := by
  unfold m_M_replaced m_M_replaced_18 m_M_replaced_33 rp
  have d3 : nI c / nI 3 = nI (c / 3) := pk_div (by omega) (by decide) (by decide)
  have d9 : nI c / nI 9 = nI (c / 9) := pk_div (by omega) (by decide) (by decide)
  rw [d3, d9, irm_n (by omega) (by decide) (by decide), irm_n (by omega) (by decide) (by decide)]
  simp (disch := omega) only [ni_eq]
  split <;> split <;> simp only [pk_mul, nI_add]
theorem wv_step {l : List Nat} {c : Nat} (hl : okB (c :: l) = true) {v k n : Nat} (hv : v < 3) (hk : k < 3) (z : Int32) : m_H_withVariableForZ_7 (n + 1) (nI v) z (mk (c :: l)) (nI k) = m_H_withVariableForZ_7 n (nI v) (z ||| bit (rp v c)) (mk l) (nI (k + 1)) := by
  have hc : c < 27 := cl_mem hl List.mem_cons_self
  have d3 : nI c / nI 3 = nI (c / 3) := pk_div (by omega) (by decide) (by decide)
  have d9 : nI c / nI 9 = nI (c / 9) := pk_div (by omega) (by decide) (by decide)
  have h1 := cl_least _ hl
  have h2 := cl_rest _ hl
  conv => lhs; unfold m_H_withVariableForZ_7
  rw [if_neg (by rw [ni_le (by decide) (by omega)]; omega), if_neg (cl_ne _ hl), h1, bs]
  unfold m_H_firstVariableOf m_H_secondVariableOf m_H_relationOf m_H_withVariableForZ_56 m_H_withVariableForZ_68 m_H_codeOf
  simp only [bs, h2, List.getD_cons_zero, List.drop_succ_cons, List.drop_zero]
  rw [d3, d9, irm_n (by omega) (by decide) (by decide), irm_n (by omega) (by decide) (by decide)]
  unfold rp
  simp (disch := omega) only [ni_eq, nI_add]
  split <;> split <;> simp only [pk_mul, nI_add, Nat.mul_comm 9 (c / 9)]
def ors (v : Nat) (l : List Nat) : Int32 := l.foldl (fun z c => z ||| bit (rp v c)) (nI 0)
theorem wv_end {v k n : Nat} (z : Int32) : m_H_withVariableForZ_7 (n + 1) (nI v) z (mk []) (nI k) = some (z, ()) := by
  conv => lhs; unfold m_H_withVariableForZ_7
  by_cases h : nI 3 ≤ nI k
  · rw [if_pos h]
  · rw [if_neg h, if_pos (show mk [] = nI 0 from rfl)]
theorem wv_n {l : List Nat} (hl : okB l = true) {v : Nat} (hv : v < 3) : m_H_withVariableForZ (mk l) (nI v) = some (ors v l, ()) := by
  unfold m_H_withVariableForZ
  match l, hl with
  | [a], hl => rw [wv_step hl hv (by decide), wv_end]; rfl
  | [a, b], hl =>
    have h2 : okB [b] = true := by simp only [okB, Bool.and_eq_true, decide_eq_true_eq] at hl ⊢; omega
    rw [wv_step hl hv (by decide), wv_step h2 hv (by decide), wv_end]; rfl
  | [a, b, c], hl =>
    have h2 : okB [b, c] = true := by simp only [okB, Bool.and_eq_true, decide_eq_true_eq] at hl ⊢; omega
    have h3 : okB [c] = true := by simp only [okB, Bool.and_eq_true, decide_eq_true_eq] at hl ⊢; omega
    rw [wv_step hl hv (by decide), wv_step h2 hv (by decide), wv_step h3 hv (by decide), wv_end]; rfl
theorem bt_ors {v : Nat} (hv : v < 3) {l : List Nat} (hl : ∀ c ∈ l, c < 27) (z : Int32) (i : Nat) : bt (l.foldl (fun z c => z ||| bit (rp v c)) z) i = (bt z i || l.any (fun c => decide (i = rp v c))) := by
  induction l generalizing z with
  | nil => simp
  | cons a l ih =>
    have := rp_lt hv (hl a List.mem_cons_self)
    rw [List.foldl_cons, ih (fun c hc => hl c (List.mem_cons_of_mem _ hc)), bt_or (by omega), List.any_cons, Bool.or_assoc]
def sA (v : Nat) (l1 l2 : List Nat) : Bool := l1.all (fun c => decide (rp v c ∈ l2))
theorem ors_sub {v : Nat} (hv : v < 3) {l1 l2 : List Nat} (h1 : okB l1 = true) (h2 : okB l2 = true) : (ors v l1 &&& (mk l2 ^^^ (-1 : Int32)) = nI 0) ↔ sA v l1 l2 = true := by
  have hb : ∀ i, i < 32 → bt (ors v l1 &&& (mk l2 ^^^ (-1 : Int32))) i = (l1.any (fun c => decide (i = rp v c)) && !decide (i ∈ l2)) := by
    intro i hi
    rw [b_and, b_xor, b_m1 i hi, Bool.xor_true, bt_mk (fun c hc => by have := cl_mem h2 hc; omega) hi]
    unfold ors
    rw [bt_ors hv (fun c hc => cl_mem h1 hc), b_n0, Bool.false_or]
  constructor
  · intro h
    refine List.all_eq_true.mpr (fun c hc => decide_eq_true ?_)
    have hr := rp_lt hv (cl_mem h1 hc)
    have h3 := hb (rp v c) (by omega)
    rw [h, b_n0] at h3
    have h4 : l1.any (fun c' => decide (rp v c = rp v c')) = true := List.any_eq_true.mpr ⟨c, hc, decide_eq_true rfl⟩
    rw [h4, Bool.true_and] at h3
    simpa using h3
  · intro h
    refine b_ext (fun i hi => ?_)
    rw [hb i hi, b_n0]
    by_cases h5 : l1.any (fun c => decide (i = rp v c)) = true
    · obtain ⟨c, hc, e⟩ := List.any_eq_true.mp h5
      have e := of_decide_eq_true e
      have h6 := of_decide_eq_true (List.all_eq_true.mp h c hc)
      rw [e, decide_eq_true h6, Bool.not_true, Bool.and_false]
    · have h5 : l1.any (fun c => decide (i = rp v c)) = false := by simpa using h5
      rw [h5, Bool.false_and]
end
section
def bi (b : Bool) : Int32 := if b then nI 1 else nI 0
theorem bi_0 (b : Bool) : (bi b = nI 0) = (b = false) := by cases b <;> simp [bi] <;> decide
theorem csub_step {l1 l2 : List Nat} (h1 : okB l1 = true) (h2 : okB l2 = true) (ct : Int32) (bd : Nat → Int32) {v n : Nat} (hv : v < 3) : m_H_subsumes_33 ct bd (n + 1) (mk l1) (mk l2) (nI v) = if sA v l1 l2 = true then some (nI 1, ()) else m_H_subsumes_33 ct bd n (mk l1) (mk l2) (nI (v + 1)) := by
  conv => lhs; unfold m_H_subsumes_33
  rw [if_neg (by rw [ni_le (by decide) (by omega)]; omega), wv_n h1 hv, bs, nI_add]
  dsimp only
  by_cases h : sA v l1 l2 = true
  · rw [if_pos h, if_pos ((ors_sub hv h1 h2).mpr h)]
  · rw [if_neg h, if_neg (fun h9 => h ((ors_sub hv h1 h2).mp h9))]
theorem csub_n {l1 l2 : List Nat} (h1 : okB l1 = true) (h2 : okB l2 = true) (ct : Int32) (bd : Nat → Int32) : m_H_subsumes_33 ct bd 40 (mk l1) (mk l2) (nI 0) = some (bi (sA 0 l1 l2 || (sA 1 l1 l2 || sA 2 l1 l2)), ()) := by
  rw [csub_step h1 h2 ct bd (by decide), csub_step h1 h2 ct bd (by decide), csub_step h1 h2 ct bd (by decide)]
  have e : m_H_subsumes_33 ct bd 37 (mk l1) (mk l2) (nI (0 + 1 + 1 + 1)) = some (nI 0, ()) := by
    unfold m_H_subsumes_33
    rw [if_pos (by decide)]
  show (if sA 0 l1 l2 = true then _ else if sA (0 + 1) l1 l2 = true then _ else if sA (0 + 1 + 1) l1 l2 = true then _ else m_H_subsumes_33 ct bd 37 (mk l1) (mk l2) (nI (0 + 1 + 1 + 1))) = _
  rw [e]
  show (if sA 0 l1 l2 = true then _ else if sA 1 l1 l2 = true then _ else if sA 2 l1 l2 = true then _ else _) = _
  cases sA 0 l1 l2 <;> cases sA 1 l1 l2 <;> cases sA 2 l1 l2 <;> rfl
theorem rin_loop {l2 : List Nat} (h2 : okB l2 = true) {mn cs : Nat → Int32} {i j k v c : Nat} (hi : i < 2) (hj : j < 2) (hk : k < 3) (hv : v < 3) (hc : c < 27) (hm : mn j = nI l2.length) (hcs : ∀ m, m < l2.length → cs (3 * j + m) = nI (l2.getD m 0)) (hci : cs (3 * i + k) = nI c) (ct z3 z5 : Int32) (K : Int32 → Int32 → Int32 → Int32 → Int32 → Int32 → Option (Int32 × Unit)) :
    ∀ d m, m + d = l2.length → ∀ n, d < n → ∀ β : Bool, m_M_subsumes_52 ct mn cs K n (nI i) (nI j) z3 (nI v) z5 (nI k) (bi β) (nI m) = K (nI i) (nI j) z3 (nI v) (if z5 = nI 0 then nI 0 else bi (β || (l2.drop m).any (fun e => decide (rp v c = e)))) (nI (k + 1)) := by
  have hL := (cl_len l2 h2).2
  intro d
  induction d with
  | zero =>
    intro m hmd n hn β
    obtain ⟨n, rfl⟩ : ∃ n', n = n' + 1 := ⟨n - 1, by omega⟩
    unfold m_M_subsumes_52 m_M_subsumes_125 m_M_subsumes_126
    rw [inR_n (by omega), decide_eq_true hj, nI_clamp (by omega), hm, if_pos rfl, if_pos (by rw [ni_le (by omega) (by omega)]; omega), nI_add, show l2.drop m = [] from List.drop_eq_nil_of_le (by omega)]
    by_cases h5 : z5 = nI 0
    · rw [if_pos h5, if_pos h5]
    · rw [if_neg h5, if_neg h5]
      cases β
      · rw [if_pos (show bi false = nI 0 from rfl)]; rfl
      · rw [if_neg (show ¬ bi true = nI 0 by decide)]; rfl
  | succ d ih =>
    intro m hmd n hn β
    obtain ⟨n, rfl⟩ : ∃ n', n = n' + 1 := ⟨n - 1, by omega⟩
    have hml : m < l2.length := by omega
    have he : l2.drop m = l2.getD m 0 :: l2.drop (m + 1) := by
      rw [List.drop_eq_getElem_cons hml]
      simp [List.getD, hml]
    have hlt := cl_lt h2 hml
    have hrp := rp_lt hv hc
    have i0 := ih (m + 1) (by omega) n (by omega)
    conv => lhs; unfold m_M_subsumes_52
    unfold m_M_subsumes_98 m_M_subsumes_103
    rw [inR_n (by omega), decide_eq_true hj, nI_clamp (by omega), hm, if_pos rfl, if_neg (by rw [ni_le (by omega) (by omega)]; omega), pk_mul 3 i, pk_mul 3 j, nI_add, nI_add, inR_n (by omega), inR_n (by omega), decide_eq_true (show 3 * i + k < 6 by omega), decide_eq_true (show 3 * j + m < 6 by omega), nI_clamp (by omega), nI_clamp (by omega), hci, hcs m hml, rep_n hv hc, bs, if_pos rfl, if_pos rfl, nI_add, he, List.any_cons]
    dsimp only
    cases β
    · rw [if_pos (show bi false = nI 0 from rfl)]
      by_cases hq : rp v c = l2.getD m 0
      · rw [if_pos (by rw [hq]), decide_eq_true hq]
        have := i0 true
        rw [show bi true = nI 1 from rfl] at this
        rw [this]
        simp
      · rw [if_neg (by rw [ni_eq (by omega) (by omega)]; exact hq), decide_eq_false hq]
        have := i0 false
        rw [show bi false = nI 0 from rfl] at this
        rw [this]
        simp
    · rw [if_neg (show ¬ bi true = nI 0 by decide)]
      have := i0 true
      rw [show bi true = nI 1 from rfl] at this
      rw [this]
      simp
end
section
theorem any_mem (x : Nat) (l : List Nat) : l.any (fun e => decide (x = e)) = decide (x ∈ l) := by
  induction l with
  | nil => rfl
  | cons a l ih => rw [List.any_cons, ih]; simp [List.mem_cons]
theorem rmid_loop {l1 l2 : List Nat} (h1 : okB l1 = true) (h2 : okB l2 = true) {mn cs : Nat → Int32} {i j v : Nat} (hi : i < 2) (hj : j < 2) (hv : v < 3) (hm1 : mn i = nI l1.length) (hm : mn j = nI l2.length) (hc1 : ∀ m, m < l1.length → cs (3 * i + m) = nI (l1.getD m 0)) (hcs : ∀ m, m < l2.length → cs (3 * j + m) = nI (l2.getD m 0)) (ct : Int32) (K : Int32 → Int32 → Int32 → Int32 → Option (Int32 × Unit)) (σ : Bool) :
    ∀ d k, k + d = l1.length → ∀ n, d < n → ∀ α : Bool, m_M_subsumes_35 ct mn cs K n (nI i) (nI j) (bi σ) (nI v) (bi α) (nI k) = K (nI i) (nI j) (bi (σ || (α && (l1.drop k).all (fun c => decide (rp v c ∈ l2))))) (nI (v + 1)) := by
  have hL1 := (cl_len l1 h1).2
  have hL2 := (cl_len l2 h2).2
  intro d
  induction d with
  | zero =>
    intro k hkd n hn α
    obtain ⟨n, rfl⟩ : ∃ n', n = n' + 1 := ⟨n - 1, by omega⟩
    unfold m_M_subsumes_35 m_M_subsumes_143 m_M_subsumes_148
    rw [inR_n (by omega), decide_eq_true hi, nI_clamp (by omega), hm1, if_pos rfl, if_pos (by rw [ni_le (by omega) (by omega)]; omega), nI_add, show l1.drop k = [] from List.drop_eq_nil_of_le (by omega)]
    cases σ
    · rw [if_pos (show bi false = nI 0 from rfl)]
      cases α
      · rw [if_pos (show bi false = nI 0 from rfl)]; rfl
      · rw [if_neg (show ¬ bi true = nI 0 by decide)]; rfl
    · rw [if_neg (show ¬ bi true = nI 0 by decide)]; rfl
  | succ d ih =>
    intro k hkd n hn α
    obtain ⟨n, rfl⟩ : ∃ n', n = n' + 1 := ⟨n - 1, by omega⟩
    have hkl : k < l1.length := by omega
    have he : l1.drop k = l1.getD k 0 :: l1.drop (k + 1) := by
      rw [List.drop_eq_getElem_cons hkl]
      simp [List.getD, hkl]
    have hlt := cl_lt h1 hkl
    conv => lhs; unfold m_M_subsumes_35
    rw [inR_n (by omega), decide_eq_true hi, nI_clamp (by omega), hm1, if_pos rfl, if_neg (by rw [ni_le (by omega) (by omega)]; omega)]
    have hr := rin_loop h2 hi hj (show k < 3 by omega) hv hlt hm hcs (hc1 k hkl) ct (bi σ) (bi α) (m_M_subsumes_35 ct mn cs K n) l2.length 0 (by omega) 40 (by omega) false
    rw [show bi false = nI 0 from rfl] at hr
    rw [hr, List.drop_zero, Bool.false_or, any_mem, he, List.all_cons]
    have hz : (if bi α = nI 0 then nI 0 else bi (decide (rp v (l1.getD k 0) ∈ l2))) = bi (α && decide (rp v (l1.getD k 0) ∈ l2)) := by
      cases α
      · rw [if_pos (show bi false = nI 0 from rfl)]; rfl
      · rw [if_neg (show ¬ bi true = nI 0 by decide)]; rfl
    rw [hz, ih (k + 1) (by omega) n (by omega), Bool.and_assoc]
theorem rout_n {l1 l2 : List Nat} (h1 : okB l1 = true) (h2 : okB l2 = true) {mn cs : Nat → Int32} {i j : Nat} (hi : i < 2) (hj : j < 2) (hm1 : mn i = nI l1.length) (hm : mn j = nI l2.length) (hc1 : ∀ m, m < l1.length → cs (3 * i + m) = nI (l1.getD m 0)) (hcs : ∀ m, m < l2.length → cs (3 * j + m) = nI (l2.getD m 0)) (ct : Int32) : m_M_subsumes_23 ct mn cs 40 (nI i) (nI j) (nI 0) (nI 0) = some (bi (sA 0 l1 l2 || (sA 1 l1 l2 || sA 2 l1 l2)), ()) := by
  have hL1 := (cl_len l1 h1).2
  have step : ∀ (n v : Nat) (σ : Bool), v < 3 → m_M_subsumes_23 ct mn cs (n + 1) (nI i) (nI j) (bi σ) (nI v) = m_M_subsumes_23 ct mn cs n (nI i) (nI j) (bi (σ || sA v l1 l2)) (nI (v + 1)) := by
    intro n v σ hv
    conv => lhs; unfold m_M_subsumes_23
    rw [if_neg (by rw [ni_le (by decide) (by omega)]; omega)]
    have hr := rmid_loop h1 h2 hi hj hv hm1 hm hc1 hcs ct (m_M_subsumes_23 ct mn cs n) σ l1.length 0 (by omega) 40 (by omega) true
    rw [show bi true = nI 1 from rfl] at hr
    rw [hr, List.drop_zero, Bool.true_and]
    rfl
  have s0 := step 39 0 false (by decide)
  have s1 := step 38 1 (sA 0 l1 l2) (by decide)
  have s2 := step 37 2 (sA 0 l1 l2 || sA 1 l1 l2) (by decide)
  rw [Bool.false_or] at s0
  rw [show (nI 0 : Int32) = bi false from rfl]
  rw [show bi false = nI 0 from rfl] at s0
  show m_M_subsumes_23 ct mn cs 40 (nI i) (nI j) (nI 0) (nI 0) = _
  rw [s0, s1, s2, ← Bool.or_assoc]
  unfold m_M_subsumes_23
  rw [if_pos (by decide), if_pos (by cases (sA 0 l1 l2 || sA 1 l1 l2 || sA 2 l1 l2) <;> decide)]
theorem s_subsumes {ct ct2 : Int32} {bd mn cs : Nat → Int32} (h : RP ct bd ct2 mn cs) (x y : Int32) : ∃ r : Int32, m_H_subsumes ct bd x y = some (r, ()) ∧ m_M_subsumes ct2 mn cs x y = some (r, ()) := by
  obtain ⟨P, hP, rfl, rfl, hc⟩ := h
  unfold m_H_subsumes m_M_subsumes
  have out : ∀ z : Int32, (z < nI 0 ∨ nI P.length ≤ z) ∨ ∃ j, j < P.length ∧ z = nI j := fun z => by
    rcases ix z (n := P.length) (by omega) with h | h | h
    · exact Or.inl (Or.inl h)
    · exact Or.inl (Or.inr h)
    · exact Or.inr h
  rcases out x with hx | ⟨i, hi, rfl⟩
  · refine ⟨nI 0, ?_, by rw [s_clause_out hx]; rfl⟩
    rw [s_bodyOf_out hx, bs]
    rcases out y with hy | ⟨j, hj, rfl⟩
    · rw [s_bodyOf_out hy]; rfl
    · rw [s_bodyOf_in hP hj]; rfl
  · obtain ⟨a1, -, a3, a4, a5⟩ := hc i hi
    rw [s_bodyOf_in hP hi, s_clause_in hP hi, bs, bs, if_neg (show ¬ (nI 1, ()).1 = nI 0 by decide)]
    rcases out y with hy | ⟨j, hj, rfl⟩
    · refine ⟨nI 0, ?_, by rw [s_clause_out hy]; rfl⟩
      rw [s_bodyOf_out hy, bs]
      dsimp only
      rw [a3, if_neg (cl_ne _ a1), if_pos rfl]
    · obtain ⟨b1, -, b3, b4, b5⟩ := hc j hj
      rw [s_bodyOf_in hP hj, s_clause_in hP hj, bs, bs, if_neg (show ¬ (nI 1, ()).1 = nI 0 by decide)]
      dsimp only
      rw [a3, b3, if_neg (cl_ne _ a1), if_neg (cl_ne _ b1), csub_n a1 b1, rout_n a1 b1 (by omega) (by omega) a4 b4 a5 b5]
      exact ⟨_, rfl, rfl⟩
end
section
-- sets of choices: Int64 by its bits
def bl (x : Int64) (i : Nat) : Bool := x.toBitVec.getLsbD i
theorem l_and (x y : Int64) (i : Nat) : bl (x &&& y) i = (bl x i && bl y i) := by unfold bl; rw [Int64.toBitVec_and, BitVec.getLsbD_and]
theorem l_or (x y : Int64) (i : Nat) : bl (x ||| y) i = (bl x i || bl y i) := by unfold bl; rw [Int64.toBitVec_or, BitVec.getLsbD_or]
theorem l_0 (i : Nat) : bl 0 i = false := BitVec.getLsbD_zero
def va3 (w t : Nat) : Nat := if w = 0 then t / 4 % 4 else if w = 1 then t % 4 else t / 16
theorem va3_lt {w t : Nat} (ht : t < 64) : va3 w t < 4 := by unfold va3; split <;> (try split) <;> omega
theorem tab_bit : ∀ w, w < 3 → ∀ c, c < 4 → ∀ t, t < 64 → bl (tabL (4 * w + c)) t = decide (va3 w t = c) := by decide +kernel
theorem shr_n {m p : Nat} (hm : m < 65536) (hp : p < 32) : nI m >>> (nI p &&& 31) = nI (m / 2 ^ p) := pk_shrN (by omega) _ p (s_l p hp)
theorem a1_n (k : Nat) : nI k &&& nI 1 = nI (k % 2) := by
  rw [nx_and]
  congr 1
  exact Nat.and_two_pow_sub_one_eq_mod k 1
theorem cw_loop {m u v : Nat} (hm : m < 65536) (hu : u < 3) (hv : v < 3) : ∀ d p, p + d = 16 → ∀ (n : Nat) (z : Int64), d < n → (∀ t, t < 64 → bl z t = (decide (4 * va3 u t + va3 v t < p) && m.testBit (4 * va3 u t + va3 v t))) → ∃ r : Int64, m_D_choicesWhere_5 n (nI m) (nI u) (nI v) z (nI p) = some (r, ()) ∧ ∀ t, t < 64 → bl r t = m.testBit (4 * va3 u t + va3 v t) := by
  intro d
  induction d with
  | zero =>
    intro p hp n z hn hz
    obtain ⟨n, rfl⟩ : ∃ n', n = n' + 1 := ⟨n - 1, by omega⟩
    refine ⟨z, ?_, fun t ht => ?_⟩
    · unfold m_D_choicesWhere_5
      rw [if_pos (by rw [ni_le (by decide) (by omega)]; omega)]
    · have h1 := va3_lt (w := u) ht
      have h2 := va3_lt (w := v) ht
      rw [hz t ht, decide_eq_true (by omega), Bool.true_and]
  | succ d ih =>
    intro p hp n z hn hz
    obtain ⟨n, rfl⟩ : ∃ n', n = n' + 1 := ⟨n - 1, by omega⟩
    have hq : m / 2 ^ p ≤ m := Nat.div_le_self _ _
    have htb : m.testBit p = decide (m / 2 ^ p % 2 = 1) := by rw [Nat.testBit_eq_decide_div_mod_eq]
    conv => rhs; ext r; lhs; lhs; unfold m_D_choicesWhere_5
    rw [if_neg (by rw [ni_le (by decide) (by omega)]; omega), shr_n hm (by omega)]
    by_cases h0 : m / 2 ^ p = 0
    · refine ⟨z, by rw [if_pos (by rw [h0])], fun t ht => ?_⟩
      rw [hz t ht]
      by_cases h9 : 4 * va3 u t + va3 v t < p
      · rw [decide_eq_true h9, Bool.true_and]
      · rw [decide_eq_false h9, Bool.false_and]
        have hlt : m < 2 ^ p := by
          rcases Nat.lt_or_ge m (2 ^ p) with h | h
          · exact h
          · exact absurd h0 (Nat.ne_of_gt (Nat.div_pos h (Nat.two_pow_pos p)))
        exact (Nat.testBit_lt_two_pow (Nat.lt_of_lt_of_le hlt (Nat.pow_le_pow_right (by decide) (by omega)))).symm
    · rw [if_neg (by rw [ni_eq (by omega) (by decide)]; exact h0), a1_n]
      unfold m_D_choicesWhere_56
      rw [nI_add]
      by_cases hb : m / 2 ^ p % 2 = 0
      · rw [if_pos (by rw [hb])]
        refine ih (p + 1) (by omega) n z (by omega) (fun t ht => ?_)
        rw [hz t ht]
        by_cases h9 : 4 * va3 u t + va3 v t = p
        · rw [h9, htb, decide_eq_false (show ¬ m / 2 ^ p % 2 = 1 by omega), Bool.and_false, Bool.and_false]
        · congr 1
          exact decide_eq_decide.mpr (by omega)
      · rw [if_neg (by rw [ni_eq (by omega) (by decide)]; exact hb)]
        rw [pk_div (show p < 2 ^ 31 by omega) (by decide) (by decide), irm_n (by omega) (by decide) (by decide), pk_mul 4 u, pk_mul 4 v, nI_add, nI_add, inR_n (by omega), inR_n (by omega), decide_eq_true (show 4 * u + p / 4 < 12 by omega), decide_eq_true (show 4 * v + p % 4 < 12 by omega), nI_clamp (by omega), nI_clamp (by omega), if_pos rfl, if_pos rfl]
        unfold letN
        dsimp only
        refine ih (p + 1) (by omega) n _ (by omega) (fun t ht => ?_)
        rw [l_or, l_and, hz t ht, tab_bit u hu (p / 4) (by omega) t ht, tab_bit v hv (p % 4) (by omega) t ht]
        have h1 := va3_lt (w := u) ht
        have h2 := va3_lt (w := v) ht
        by_cases h9 : 4 * va3 u t + va3 v t = p
        · rw [h9, htb, decide_eq_true (show m / 2 ^ p % 2 = 1 by omega), decide_eq_true (show va3 u t = p / 4 by omega), decide_eq_true (show va3 v t = p % 4 by omega), decide_eq_true (show p < p + 1 by omega)]
          simp
        · have e1 : (decide (va3 u t = p / 4) && decide (va3 v t = p % 4)) = false := by
            by_cases g1 : va3 u t = p / 4
            · rw [decide_eq_false (show ¬ va3 v t = p % 4 by omega), Bool.and_false]
            · rw [decide_eq_false g1, Bool.false_and]
          rw [e1, Bool.or_false]
          congr 1
          exact decide_eq_decide.mpr (by omega)
/-- the choices in which u and v are one of the pairs -/
theorem cw_n {m u v : Nat} (hm : m < 65536) (hu : u < 3) (hv : v < 3) : ∃ r : Int64, m_D_choicesWhere (nI m) (nI u) (nI v) = some (r, ()) ∧ ∀ t, t < 64 → bl r t = m.testBit (4 * va3 u t + va3 v t) := by
  unfold m_D_choicesWhere
  exact cw_loop hm hu hv 16 0 (by omega) 40 0 (by omega) (fun t ht => by rw [l_0, decide_eq_false (by omega), Bool.false_and])
end
section
theorem fv_n {c : Nat} (hc : c < 27) : m_H_firstVariableOf (nI c) = some (nI (c / 3 % 3), ()) ∧ m_H_secondVariableOf (nI c) = some (nI (c % 3), ()) ∧ m_H_relationOf (nI c) = some (nI (c / 9), ()) := by
  unfold m_H_firstVariableOf m_H_secondVariableOf m_H_relationOf
  rw [pk_div (show c < 2 ^ 31 by omega) (by decide) (by decide), pk_div (show c < 2 ^ 31 by omega) (by decide) (by decide), irm_n (by omega) (by decide) (by decide), irm_n (by omega) (by decide) (by decide)]
  exact ⟨rfl, rfl, rfl⟩
/-- what a literal of a fact's relation says of the choice t -/
def fLit (a b c t : Nat) : Bool := (if c < 9 then a else b).testBit (4 * va3 (c / 3 % 3) t + va3 (c % 3) t)
theorem take_loop {a b : Nat} (ha : a < 65536) (hb : b < 65536) : ∀ d k, k + d = 18 → ∀ (n : Nat) (fc : Nat → Int64), d < n → (∀ c, c < k → ∀ t, t < 64 → bl (fc c) t = fLit a b c t) → ∃ fc' : Nat → Int64, m_D_takeFacts_2 n fc (nI a) (nI b) (nI k) = some fc' ∧ ∀ c, c < 18 → ∀ t, t < 64 → bl (fc' c) t = fLit a b c t := by
  intro d
  induction d with
  | zero =>
    intro k hk n fc hn h
    obtain ⟨n, rfl⟩ : ∃ n', n = n' + 1 := ⟨n - 1, by omega⟩
    refine ⟨fc, ?_, fun c hc => h c (by omega)⟩
    unfold m_D_takeFacts_2
    rw [if_pos (by rw [ni_le (by decide) (by omega)]; omega)]
  | succ d ih =>
    intro k hk n fc hn h
    obtain ⟨n, rfl⟩ : ∃ n', n = n' + 1 := ⟨n - 1, by omega⟩
    obtain ⟨e1, e2, e3⟩ := fv_n (show k < 27 by omega)
    obtain ⟨r, hr, hbit⟩ := cw_n (m := if k < 9 then a else b) (by split <;> assumption) (show k / 3 % 3 < 3 by omega) (show k % 3 < 3 by omega)
    obtain ⟨fc', g1, g2⟩ := ih (k + 1) (by omega) n (vp_updL fc k r) (by omega) (fun c hc t ht => by
      by_cases e : c = k
      · subst e
        rw [pk_uLs]
        exact hbit t ht
      · rw [pk_uLn e]
        exact h c (by omega) t ht)
    refine ⟨fc', ?_, g2⟩
    unfold m_D_takeFacts_2 m_D_takeFacts_20
    rw [if_neg (by rw [ni_le (by decide) (by omega)]; omega), e3, bs, e1, bs, e2, bs]
    dsimp only
    rw [bs, bs, inR_n (by omega), decide_eq_true (show k < 18 by omega), nI_clamp (by omega), nI_add]
    simp only [if_true]
    by_cases h9 : k < 9
    · rw [if_pos h9] at hr
      rw [if_pos (by rw [show k / 9 = 0 by omega]), hr, bs]
      exact g1
    · rw [if_neg h9] at hr
      rw [if_neg (by rw [ni_eq (by omega) (by decide)]; omega), hr, bs]
      exact g1
theorem take_n {a b : Nat} (ha : a < 65536) (hb : b < 65536) (fc : Nat → Int64) : ∃ fc' : Nat → Int64, m_D_takeFacts fc (nI a) (nI b) = some fc' ∧ ∀ c, c < 18 → ∀ t, t < 64 → bl (fc' c) t = fLit a b c t := by
  unfold m_D_takeFacts
  exact take_loop ha hb 18 0 (by omega) 40 fc (by omega) (fun c hc => absurd hc (Nat.not_lt_zero c))
end
section
/-- what a literal says of the choice t, over the facts a, b and the given pairs g -/
def gLit (a b g c t : Nat) : Bool := if c < 18 then fLit a b c t else g.testBit (4 * va3 (c / 3 % 3) t + va3 (c % 3) t)
theorem pf_step {a b g : Nat} (hg : g < 65536) {fc : Nat → Int64} (hfc : ∀ c, c < 18 → ∀ t, t < 64 → bl (fc c) t = fLit a b c t) {l : List Nat} {c : Nat} (hl : okB (c :: l) = true) {k n : Nat} (hk : k < 3) (z : Int64) : ∃ y : Int64, m_D_pairsFrom_16 (nI g) fc (n + 1) z (mk (c :: l)) (nI k) = m_D_pairsFrom_16 (nI g) fc n (z &&& y) (mk l) (nI (k + 1)) ∧ ∀ t, t < 64 → bl y t = gLit a b g c t := by
  have hc : c < 27 := cl_mem hl List.mem_cons_self
  have h1 : m_H_leastCode (mk (c :: l)) = some (nI c, ()) := cl_least _ hl
  have h2 : m_H_withoutLeastCode (mk (c :: l)) = some (mk l, ()) := cl_rest _ hl
  obtain ⟨e1, e2, -⟩ := fv_n hc
  have hu : m_D_pairsFrom_16 (nI g) fc (n + 1) z (mk (c :: l)) (nI k) = if nI 18 ≤ nI c then Option.bind (m_D_choicesWhere (nI g) (nI (c / 3 % 3)) (nI (c % 3))) (fun v => m_D_pairsFrom_16 (nI g) fc n (z &&& v.1) (mk l) (nI (k + 1))) else if inR (nI c) 18 = true then m_D_pairsFrom_16 (nI g) fc n (z &&& fc (nI c).toNatClampNeg) (mk l) (nI (k + 1)) else none := by
    conv => lhs; unfold m_D_pairsFrom_16
    unfold m_D_pairsFrom_69
    rw [if_neg (by rw [ni_le (by decide) (by omega)]; omega), if_neg (cl_ne _ hl), h1, bs, h2]
    dsimp only
    rw [e1, bs, e2, bs, nI_add]
    rfl
  rw [hu]
  by_cases h18 : 18 ≤ c
  · obtain ⟨r, hr, hbit⟩ := cw_n hg (show c / 3 % 3 < 3 by omega) (show c % 3 < 3 by omega)
    refine ⟨r, ?_, fun t ht => ?_⟩
    · rw [if_pos (by rw [ni_le (by decide) (by omega)]; exact h18), hr, bs]
    · unfold gLit
      rw [if_neg (by omega)]
      exact hbit t ht
  · refine ⟨fc c, ?_, fun t ht => ?_⟩
    · rw [if_neg (by rw [ni_le (by decide) (by omega)]; exact h18), inR_n (by omega), decide_eq_true (show c < 18 by omega), if_pos rfl, nI_clamp (by omega)]
    · unfold gLit
      rw [if_pos (by omega)]
      exact hfc c (by omega) t ht
theorem pf_end (g : Int32) (fc : Nat → Int64) {k n : Nat} (z : Int64) : m_D_pairsFrom_16 g fc (n + 1) z (mk []) (nI k) = m_D_pairsFrom_84 g fc z := by
  conv => lhs; unfold m_D_pairsFrom_16
  by_cases h : nI 3 ≤ nI k
  · rw [if_pos h]
  · rw [if_neg h, if_pos (show mk [] = nI 0 from rfl)]
theorem l_m1 : ∀ t, t < 64 → bl (-1) t = true := by decide +kernel
theorem pf_lits {a b g : Nat} (hg : g < 65536) {fc : Nat → Int64} (hfc : ∀ c, c < 18 → ∀ t, t < 64 → bl (fc c) t = fLit a b c t) {l : List Nat} (hl : okB l = true) : ∃ y : Int64, m_D_pairsFrom (nI g) fc (mk l) = m_D_pairsFrom_84 (nI g) fc y ∧ ∀ t, t < 64 → bl y t = l.all (fun c => gLit a b g c t) := by
  unfold m_D_pairsFrom
  rw [if_neg (cl_ne _ hl)]
  match l, hl with
  | [p], hl =>
    obtain ⟨y, e, h⟩ := pf_step hg hfc hl (k := 0) (n := 39) (by decide) (-1)
    refine ⟨-1 &&& y, ?_, fun t ht => ?_⟩
    · rw [e, pf_end]
    · rw [l_and, l_m1 t ht, h t ht]; simp
  | [p, q], hl =>
    have h2 : okB [q] = true := by simp only [okB, Bool.and_eq_true, decide_eq_true_eq] at hl ⊢; omega
    obtain ⟨y, e, h⟩ := pf_step hg hfc hl (k := 0) (n := 39) (by decide) (-1)
    obtain ⟨y2, e2, h3⟩ := pf_step hg hfc h2 (k := 1) (n := 38) (by decide) (-1 &&& y)
    refine ⟨-1 &&& y &&& y2, ?_, fun t ht => ?_⟩
    · rw [e]; show m_D_pairsFrom_16 (nI g) fc 39 (-1 &&& y) (mk [q]) (nI 1) = _; rw [e2, pf_end]
    · rw [l_and, l_and, l_m1 t ht, h t ht, h3 t ht]; simp
  | [p, q, r], hl =>
    have h2 : okB [q, r] = true := by simp only [okB, Bool.and_eq_true, decide_eq_true_eq] at hl ⊢; omega
    have h4 : okB [r] = true := by simp only [okB, Bool.and_eq_true, decide_eq_true_eq] at hl ⊢; omega
    obtain ⟨y, e, h⟩ := pf_step hg hfc hl (k := 0) (n := 39) (by decide) (-1)
    obtain ⟨y2, e2, h3⟩ := pf_step hg hfc h2 (k := 1) (n := 38) (by decide) (-1 &&& y)
    obtain ⟨y3, e3, h5⟩ := pf_step hg hfc h4 (k := 2) (n := 37) (by decide) (-1 &&& y &&& y2)
    refine ⟨-1 &&& y &&& y2 &&& y3, ?_, fun t ht => ?_⟩
    · rw [e]; show m_D_pairsFrom_16 (nI g) fc 39 (-1 &&& y) (mk [q, r]) (nI 1) = _
      rw [e2]; show m_D_pairsFrom_16 (nI g) fc 38 (-1 &&& y &&& y2) (mk [r]) (nI 2) = _
      rw [e3, pf_end]
    · rw [l_and, l_and, l_and, l_m1 t ht, h t ht, h3 t ht, h5 t ht]; simp [Bool.and_assoc]
end
section
theorem s_u64 : ∀ n, n < 64 → (((nI n).toInt64.toUInt64 &&& Int64.toUInt64 63).toBitVec % 64).toNat = n := by decide +kernel
theorem lush_b (x : Int64) {k : Nat} (hk : k < 64) (i : Nat) : bl (lush x (nI k)) i = bl x (k + i) := by
  show (x.toUInt64 >>> ((nI k).toInt64.toUInt64 &&& Int64.toUInt64 63)).toBitVec.getLsbD i = x.toUInt64.toBitVec.getLsbD (k + i)
  rw [UInt64.toBitVec_shiftRight]
  show (x.toUInt64.toBitVec >>> (((nI k).toInt64.toUInt64 &&& Int64.toUInt64 63).toBitVec % 64).toNat).getLsbD i = _
  rw [s_u64 k hk, BitVec.getLsbD_ushiftRight]
theorem l2i_b (x : Int64) {i : Nat} (hi : i < 32) : bt x.toInt32 i = bl x i := by
  unfold bt bl
  rw [Int64.toBitVec_toInt32]
  have h64 : i < 64 := by omega
  rw [BitVec.getLsbD_signExtend, if_pos h64, decide_eq_true hi, Bool.true_and]
theorem quart (g : Int32) (fc : Nat → Int64) (y : Int64) : ∃ r : Int32, m_D_pairsFrom_84 g fc y = some (r, ()) ∧ (∀ p, p < 16 → bt r p = (bl y p || bl y (16 + p) || bl y (32 + p) || bl y (48 + p))) ∧ ∀ i, 16 ≤ i → bt r i = false := by
  refine ⟨_, rfl, fun p hp => ?_, fun i hi => ?_⟩
  · rw [b_and, show (nI 65535 : Int32) = 65535 from rfl, b_65535, decide_eq_true hp, Bool.and_true, l2i_b _ (by omega), l_or, l_or, l_or, lush_b _ (by decide), lush_b _ (by decide), lush_b _ (by decide)]
  · rw [b_and, show (nI 65535 : Int32) = 65535 from rfl, b_65535, decide_eq_false (by omega), Bool.and_false]
end
section
theorem val_n {w x y z : Nat} (hw : w < 3) (hx : x < 4) (hy : y < 4) (hz : z < 4) : m_M_valueOf (nI w) (nI x) (nI y) (nI z) = some (nI (va3 w (16 * z + 4 * x + y)), ()) := by
  unfold m_M_valueOf va3
  simp (disch := omega) only [ni_eq]
  rcases (show w = 0 ∨ w = 1 ∨ w = 2 by omega) with rfl | rfl | rfl
  · rw [if_pos rfl, if_pos rfl, show (16 * z + 4 * x + y) / 4 % 4 = x by omega]
  · rw [if_neg (by decide), if_pos rfl, if_neg (by decide), if_pos rfl, show (16 * z + 4 * x + y) % 4 = y by omega]
  · rw [if_neg (by decide), if_neg (by decide), if_neg (by decide), if_neg (by decide), show (16 * z + 4 * x + y) / 16 = z by omega]
/-- the reference's literal: the same as gLit -/
theorem lit_n {a b g : Nat} {fa ro : Nat → Int32} (hfa : ∀ r, r < 2 → ∀ p, p < 16 → fa (16 * r + p) = bi ((if r = 0 then a else b).testBit p)) (hro : ∀ p, p < 16 → (ro p ≤ nI 0 ↔ g.testBit p = false)) {c x y z : Nat} (hc : c < 27) (hx : x < 4) (hy : y < 4) (hz : z < 4) : m_M_literalHolds fa ro (nI c) (nI x) (nI y) (nI z) = some (bi (gLit a b g c (16 * z + 4 * x + y)), ()) := by
  have d3 : nI c / nI 3 = nI (c / 3) := pk_div (by omega) (by decide) (by decide)
  have d9 : nI c / nI 9 = nI (c / 9) := pk_div (by omega) (by decide) (by decide)
  have v1 := va3_lt (w := c / 3 % 3) (t := 16 * z + 4 * x + y) (by omega)
  have v2 := va3_lt (w := c % 3) (t := 16 * z + 4 * x + y) (by omega)
  unfold m_M_literalHolds gLit fLit
  rw [d3, d9, irm_n (by omega) (by decide) (by decide), irm_n (by omega) (by decide) (by decide), val_n (by omega) hx hy hz, val_n (by omega) hx hy hz, bs, bs]
  dsimp only
  generalize va3 (c / 3 % 3) (16 * z + 4 * x + y) = w1 at v1
  generalize va3 (c % 3) (16 * z + 4 * x + y) = w2 at v2
  rw [pk_mul 4 w1, nI_add]
  by_cases h : c < 18
  · have hr : c / 9 < 2 := by omega
    have e := hfa (c / 9) hr (4 * w1 + w2) (by omega)
    have e2 : (if c / 9 = 0 then a else b) = (if c < 9 then a else b) := by
      by_cases h9 : c < 9
      · rw [if_pos h9, if_pos (by omega)]
      · rw [if_neg h9, if_neg (by omega)]
    rw [e2] at e
    rw [if_neg (by rw [ni_le (by decide) (by omega)]; omega), if_pos h, pk_mul 16 (c / 9), nI_add, inR_n (by omega), decide_eq_true (show 16 * (c / 9) + (4 * w1 + w2) < 32 by omega), nI_clamp (by omega), if_pos rfl, e, if_pos (by cases (if c < 9 then a else b).testBit (4 * w1 + w2) <;> decide)]
  · rw [if_pos (by rw [ni_le (by decide) (by omega)]; omega), if_neg h, inR_n (by omega), decide_eq_true (show 4 * w1 + w2 < 16 by omega), nI_clamp (by omega), if_pos rfl]
    cases hb : g.testBit (4 * w1 + w2)
    · rw [if_pos ((hro _ (by omega)).mpr hb)]; rfl
    · rw [if_neg (fun h9 => by rw [(hro _ (by omega)).mp h9] at hb; cases hb)]; rfl
end
section
section FOL
variable {a b g x y : Nat} {fa ro mn cs : Nat → Int32} {ct : Int32}
theorem fol_in (hfa : ∀ r, r < 2 → ∀ p, p < 16 → fa (16 * r + p) = bi ((if r = 0 then a else b).testBit p)) (hro : ∀ p, p < 16 → (ro p ≤ nI 0 ↔ g.testBit p = false)) (hx : x < 4) (hy : y < 4) {z j : Nat} (hz : z < 4) (hj : j < 2) {l : List Nat} (hl : okB l = true) (hm : mn j = nI l.length) (hcs : ∀ m, m < l.length → cs (3 * j + m) = nI (l.getD m 0)) (K : Int32 → Int32 → Int32 → Int32 → Option (Int32 × Unit)) :
    ∀ d k, k + d = l.length → ∀ n, d < n → ∀ α : Bool, m_M_follows_25 ct fa mn cs ro K n (nI x) (nI y) (nI j) (nI z) (bi α) (nI k) = if (α && (l.drop k).all (fun c => gLit a b g c (16 * z + 4 * x + y))) = true then some (nI 1, ()) else K (nI x) (nI y) (nI j) (nI (z + 1)) := by
  have hL := (cl_len l hl).2
  intro d
  induction d with
  | zero =>
    intro k hk n hn α
    obtain ⟨n, rfl⟩ : ∃ n', n = n' + 1 := ⟨n - 1, by omega⟩
    unfold m_M_follows_25 m_M_follows_68
    rw [inR_n (by omega), decide_eq_true hj, nI_clamp (by omega), hm, if_pos rfl, if_pos (by rw [ni_le (by omega) (by omega)]; omega), nI_add, show l.drop k = [] from List.drop_eq_nil_of_le (by omega)]
    cases α
    · rw [if_pos (show bi false = nI 0 from rfl)]; rfl
    · rw [if_neg (show ¬ bi true = nI 0 by decide)]; rfl
  | succ d ih =>
    intro k hk n hn α
    obtain ⟨n, rfl⟩ : ∃ n', n = n' + 1 := ⟨n - 1, by omega⟩
    have hkl : k < l.length := by omega
    have he : l.drop k = l.getD k 0 :: l.drop (k + 1) := by
      rw [List.drop_eq_getElem_cons hkl]
      simp [List.getD, hkl]
    conv => lhs; unfold m_M_follows_25
    unfold m_M_follows_68
    rw [inR_n (by omega), decide_eq_true hj, nI_clamp (by omega), hm, if_pos rfl, if_neg (by rw [ni_le (by omega) (by omega)]; omega), pk_mul 3 j, nI_add, nI_add, nI_add, inR_n (by omega), decide_eq_true (show 3 * j + k < 6 by omega), nI_clamp (by omega), hcs k hkl, lit_n hfa hro (cl_lt hl hkl) hx hy hz, bs, if_pos rfl, he, List.all_cons]
    cases α
    · rw [if_pos (show bi false = nI 0 from rfl), if_pos (show bi false = nI 0 from rfl)]; rfl
    · rw [if_neg (show ¬ bi true = nI 0 by decide)]
      dsimp only
      rw [ih (k + 1) (by omega) n (by omega), Bool.true_and]
theorem fol_mid (hfa : ∀ r, r < 2 → ∀ p, p < 16 → fa (16 * r + p) = bi ((if r = 0 then a else b).testBit p)) (hro : ∀ p, p < 16 → (ro p ≤ nI 0 ↔ g.testBit p = false)) (hx : x < 4) (hy : y < 4) {j : Nat} (hj : j < 2) {l : List Nat} (hl : okB l = true) (hm : mn j = nI l.length) (hcs : ∀ m, m < l.length → cs (3 * j + m) = nI (l.getD m 0)) (K : Int32 → Int32 → Int32 → Option (Int32 × Unit)) :
    ∀ d z, z + d = 4 → ∀ n, d < n → m_M_follows_13 ct fa mn cs ro K n (nI x) (nI y) (nI j) (nI z) = if ((List.range' z d).any (fun z => l.all (fun c => gLit a b g c (16 * z + 4 * x + y)))) = true then some (nI 1, ()) else K (nI x) (nI y) (nI (j + 1)) := by
  have hL := (cl_len l hl).2
  intro d
  induction d with
  | zero =>
    intro z hz n hn
    obtain ⟨n, rfl⟩ : ∃ n', n = n' + 1 := ⟨n - 1, by omega⟩
    unfold m_M_follows_13
    rw [if_pos (by rw [ni_le (by decide) (by omega)]; omega), nI_add]
    rfl
  | succ d ih =>
    intro z hz n hn
    obtain ⟨n, rfl⟩ : ∃ n', n = n' + 1 := ⟨n - 1, by omega⟩
    conv => lhs; unfold m_M_follows_13
    rw [if_neg (by rw [ni_le (by decide) (by omega)]; omega)]
    have h1 := fol_in (ct := ct) hfa hro hx hy (show z < 4 by omega) hj hl hm hcs (m_M_follows_13 ct fa mn cs ro K n) l.length 0 (by omega) 40 (by omega) true
    rw [show bi true = nI 1 from rfl] at h1
    rw [h1, List.drop_zero, Bool.true_and, ih (z + 1) (by omega) n (by omega), List.range'_succ, List.any_cons]
    cases l.all (fun c => gLit a b g c (16 * z + 4 * x + y))
    · rfl
    · rfl
end FOL
def fol (P : List (List Nat)) (a b g x y : Nat) : Bool := P.any (fun l => (List.range' 0 4).any (fun z => l.all (fun c => gLit a b g c (16 * z + 4 * x + y))))
theorem fol_n {a b g x y : Nat} {fa ro mn cs : Nat → Int32} (hfa : ∀ r, r < 2 → ∀ p, p < 16 → fa (16 * r + p) = bi ((if r = 0 then a else b).testBit p)) (hro : ∀ p, p < 16 → (ro p ≤ nI 0 ↔ g.testBit p = false)) (hx : x < 4) (hy : y < 4) {P : List (List Nat)} (hP : P.length ≤ 2) (hc : ∀ j, j < P.length → okB (P.getD j []) = true ∧ mn j = nI (P.getD j []).length ∧ ∀ k, k < (P.getD j []).length → cs (3 * j + k) = nI ((P.getD j []).getD k 0)) : m_M_follows (nI P.length) fa mn cs ro (nI x) (nI y) = some (bi (fol P a b g x y), ()) := by
  have key : ∀ d j, j + d = P.length → ∀ n, d < n → m_M_follows_2 (nI P.length) fa mn cs ro n (nI x) (nI y) (nI j) = some (bi (fol (P.drop j) a b g x y), ()) := by
    intro d
    induction d with
    | zero =>
      intro j hj n hn
      obtain ⟨n, rfl⟩ : ∃ n', n = n' + 1 := ⟨n - 1, by omega⟩
      unfold m_M_follows_2
      rw [if_pos (by rw [ni_le (by omega) (by omega)]; omega), show P.drop j = [] from List.drop_eq_nil_of_le (by omega)]
      rfl
    | succ d ih =>
      intro j hj n hn
      obtain ⟨n, rfl⟩ : ∃ n', n = n' + 1 := ⟨n - 1, by omega⟩
      have hjl : j < P.length := by omega
      obtain ⟨a1, a2, a3⟩ := hc j hjl
      have he : P.drop j = P.getD j [] :: P.drop (j + 1) := by
        rw [List.drop_eq_getElem_cons hjl]
        simp [List.getD, hjl]
      conv => lhs; unfold m_M_follows_2
      rw [if_neg (by rw [ni_le (by omega) (by omega)]; omega), fol_mid hfa hro hx hy (by omega) a1 a2 a3 _ 4 0 (by omega) 40 (by omega), ih (j + 1) (by omega) n (by omega), he]
      unfold fol
      rw [List.any_cons]
      cases (List.range' 0 4).any (fun z => (P.getD j []).all (fun c => gLit a b g c (16 * z + 4 * x + y))) <;> rfl
  unfold m_M_follows
  exact key P.length 0 (by omega) 40 (by omega)
end
section
/-- pairsFrom of a clause, by the pairs that follow -/
theorem pf_n {a b g : Nat} (hg : g < 65536) {fc : Nat → Int64} (hfc : ∀ c, c < 18 → ∀ t, t < 64 → bl (fc c) t = fLit a b c t) {l : List Nat} (hl : okB l = true) : ∃ r : Nat, r < 65536 ∧ m_D_pairsFrom (nI g) fc (mk l) = some (nI r, ()) ∧ ∀ x, x < 4 → ∀ y, y < 4 → r.testBit (4 * x + y) = fol [l] a b g x y := by
  obtain ⟨w, e1, hw⟩ := pf_lits hg hfc hl
  obtain ⟨r, e2, hr, hz⟩ := quart (nI g) fc w
  obtain ⟨n, hn, rfl⟩ := set16 hz
  refine ⟨n, hn, by rw [e1, e2], fun x hx y hy => ?_⟩
  have h1 := hr (4 * x + y) (by omega)
  rw [nI_bt _ (by omega), hw _ (by omega), hw _ (by omega), hw _ (by omega), hw _ (by omega)] at h1
  rw [h1]
  unfold fol
  simp only [List.any_cons, List.any_nil, Bool.or_false, List.range'_succ, List.range'_zero]
  simp only [Nat.mul_zero, Nat.zero_add, Nat.mul_one, Nat.reduceAdd, Nat.reduceMul, Bool.or_assoc, ← Nat.add_assoc]
theorem pf_0 (g : Int32) (fc : Nat → Int64) : m_D_pairsFrom g fc (nI 0) = some (nI 0, ()) := by
  unfold m_D_pairsFrom
  rw [if_pos rfl]
end
section
section WK
variable {fa mn cs : Nat → Int32} {ct : Int32}
theorem wk_zero (la : Int32) (fr : Nat → Int32) : ∀ d k, k + d = 16 → ∀ n, d < n → ∀ ro : Nat → Int32, (∀ p, p < k → ro p = nI 0) → ∃ ro' : Nat → Int32, m_M_work_2 ct fa mn cs n la ro fr (nI k) = m_M_work_28 ct fa mn cs 40 (nI 0) ro' fr (nI 1) ∧ ∀ p, p < 16 → ro' p = nI 0 := by
  intro d
  induction d with
  | zero =>
    intro k hk n hn ro h
    obtain ⟨n, rfl⟩ : ∃ n', n = n' + 1 := ⟨n - 1, by omega⟩
    refine ⟨ro, ?_, fun p hp => h p (by omega)⟩
    unfold m_M_work_2
    rw [if_pos (by rw [ni_le (by decide) (by omega)]; omega)]
  | succ d ih =>
    intro k hk n hn ro h
    obtain ⟨n, rfl⟩ : ∃ n', n = n' + 1 := ⟨n - 1, by omega⟩
    obtain ⟨ro', e, h2⟩ := ih (k + 1) (by omega) n (by omega) (upd ro k (nI 0)) (fun p hp => by
      by_cases e : p = k
      · subst e; exact pk_us
      · rw [pk_un e]; exact h p (by omega))
    refine ⟨ro', ?_, h2⟩
    conv => lhs; unfold m_M_work_2
    rw [if_neg (by rw [ni_le (by decide) (by omega)]; omega), inR_n (by omega), decide_eq_true (show k < 16 by omega), nI_clamp (by omega), if_pos rfl, nI_add]
    exact e
theorem wk_set (K : Int32 → (Nat → Int32) → (Nat → Int32) → Int32 → Option (Int32 × (Nat → Int32) × (Nat → Int32))) (la z1 : Int32) (fr : Nat → Int32) : ∀ d k, k + d = 16 → ∀ n, d < n → ∀ ro : Nat → Int32, ∃ ro' : Nat → Int32, m_M_work_123 ct fa mn cs K n la ro fr z1 (nI k) = K la ro' fr z1 ∧ ∀ p, p < 16 → ro' p = if p < k then ro p else if fr p = nI 0 then ro p else la := by
  intro d
  induction d with
  | zero =>
    intro k hk n hn ro
    obtain ⟨n, rfl⟩ : ∃ n', n = n' + 1 := ⟨n - 1, by omega⟩
    refine ⟨ro, ?_, fun p hp => by rw [if_pos (by omega)]⟩
    unfold m_M_work_123
    rw [if_pos (by rw [ni_le (by decide) (by omega)]; omega)]
  | succ d ih =>
    intro k hk n hn ro
    obtain ⟨n, rfl⟩ : ∃ n', n = n' + 1 := ⟨n - 1, by omega⟩
    have hk2 : decide (k < 16) = true := decide_eq_true (by omega)
    obtain ⟨ro', e, h2⟩ := ih (k + 1) (by omega) n (by omega) (upd ro k (if fr k = nI 0 then ro k else la))
    refine ⟨ro', ?_, fun p hp => ?_⟩
    · conv => lhs; unfold m_M_work_123
      unfold m_M_work_156
      rw [if_neg (by rw [ni_le (by decide) (by omega)]; omega), inR_n (by omega), hk2, nI_clamp (by omega), nI_add]
      simp only [if_true]
      by_cases hf : fr k = nI 0
      · rw [if_pos hf] at e ⊢
        exact e
      · rw [if_neg hf] at e ⊢
        exact e
    · rw [h2 p hp]
      by_cases e1 : p = k
      · subst e1
        rw [if_pos (Nat.lt_succ_self p), pk_us, if_neg (Nat.lt_irrefl p)]
      · rw [pk_un e1]
        by_cases e2 : p < k
        · rw [if_pos (by omega), if_pos e2]
        · rw [if_neg (by omega), if_neg e2]
end WK
end
section
theorem isZ_bi (f : Bool) : isZ (bi f) = true := by cases f <;> decide
theorem bi_f : bi false = nI 0 := rfl
theorem bi_t : bi true = nI 1 := rfl
theorem n10 : ¬ (nI 1 : Int32) = nI 0 := by decide
theorem wk_74 {fa mn cs : Nat → Int32} {ct : Int32} (K : Int32 → (Nat → Int32) → (Nat → Int32) → Int32 → Int32 → Option (Int32 × (Nat → Int32) × (Nat → Int32))) (la : Int32) (ro fr : Nat → Int32) {k : Nat} (hk : k < 16) (μ f : Bool) : m_M_work_74 ct fa mn cs K la ro fr (bi μ) (nI k) (bi f) (nI k) = K la ro (upd fr k (bi f)) (bi (μ || f)) (nI (k + 1)) := by
  unfold m_M_work_74 m_M_work_88 m_M_work_93
  rw [inR_n (by omega), decide_eq_true hk, nI_clamp (by omega), nI_add, pk_us, isZ_bi]
  rw [if_pos rfl, if_pos rfl, if_pos rfl]
  cases μ
  · rw [bi_f, if_pos rfl]
    cases f
    · rw [bi_f, if_pos rfl]; rfl
    · rw [bi_t, if_neg n10]; rfl
  · rw [bi_t, if_neg n10]; rfl
theorem wk_fresh {fa mn cs ro : Nat → Int32} {ct : Int32} {F : Nat → Bool} (h1 : ∀ p, p < 16 → ro p = nI 0 → m_M_follows ct fa mn cs ro (nI (p / 4)) (nI (p % 4)) = some (bi (F p), ())) (h2 : ∀ p, p < 16 → ¬ ro p = nI 0 → F p = false) (K : Int32 → (Nat → Int32) → (Nat → Int32) → Int32 → Option (Int32 × (Nat → Int32) × (Nat → Int32))) (la : Int32) : ∀ d k, k + d = 16 → ∀ n, d < n → ∀ (fr : Nat → Int32) (μ : Bool), ∃ fr' : Nat → Int32, m_M_work_36 ct fa mn cs K n la ro fr (bi μ) (nI k) = (if (μ || (List.range' k d).any F) = true then m_M_work_118 ct fa mn cs K la ro fr' (nI 1) (la + nI 1) else m_M_work_118 ct fa mn cs K la ro fr' (nI 0) la) ∧ ∀ p, p < 16 → fr' p = if p < k then fr p else bi (F p) := by
  intro d
  induction d with
  | zero =>
    intro k hk n hn fr μ
    obtain ⟨n, rfl⟩ : ∃ n', n = n' + 1 := ⟨n - 1, by omega⟩
    refine ⟨fr, ?_, fun p hp => by rw [if_pos (by omega)]⟩
    conv => lhs; unfold m_M_work_36
    rw [if_pos (by rw [ni_le (by decide) (by omega)]; omega), List.range'_zero, List.any_nil, Bool.or_false]
    cases μ
    · rw [bi_f, if_pos rfl, if_neg (by decide)]
    · rw [bi_t, if_neg n10, if_pos rfl]
  | succ d ih =>
    intro k hk n hn fr μ
    obtain ⟨n, rfl⟩ : ∃ n', n = n' + 1 := ⟨n - 1, by omega⟩
    have hk2 : k < 16 := by omega
    obtain ⟨fr', e, h3⟩ := ih (k + 1) (by omega) n (by omega) (upd fr k (bi (F k))) (μ || F k)
    refine ⟨fr', ?_, fun p hp => ?_⟩
    · conv => lhs; unfold m_M_work_36
      unfold m_M_work_73
      rw [if_neg (by rw [ni_le (by decide) (by omega)]; omega), inR_n (by omega), decide_eq_true hk2, nI_clamp (by omega), if_pos rfl, pk_div (show k < 2 ^ 31 by omega) (by decide) (by decide), irm_n (by omega) (by decide) (by decide), List.range'_succ, List.any_cons, ← Bool.or_assoc]
      have w0 := wk_74 (fa := fa) (mn := mn) (cs := cs) (ct := ct) (m_M_work_36 ct fa mn cs K n) la ro fr hk2 μ (F k)
      by_cases hr : ro k = nI 0
      · rw [if_pos hr, h1 k hk2 hr, bs]
        dsimp only
        cases hF : F k
        · rw [hF] at w0 e
          rw [bi_f] at w0 ⊢
          rw [if_pos rfl]
          exact w0.trans e
        · rw [hF] at w0 e
          rw [bi_t] at w0 ⊢
          rw [if_neg n10]
          exact w0.trans e
      · have hF := h2 k hk2 hr
        rw [hF] at w0 e ⊢
        rw [bi_f] at w0
        rw [if_neg hr]
        exact w0.trans e
    · rw [h3 p hp]
      by_cases e1 : p = k
      · subst e1
        rw [if_pos (Nat.lt_succ_self p), pk_us, if_neg (Nat.lt_irrefl p)]
      · rw [pk_un e1]
        by_cases e2 : p < k
        · rw [if_pos (by omega), if_pos e2]
        · rw [if_neg (by omega), if_neg e2]
end
section
theorem tb_hi {r i : Nat} (h : r < 65536) (hi : 16 ≤ i) : r.testBit i = false := Nat.testBit_lt_two_pow (Nat.lt_of_lt_of_le (show r < 2 ^ 16 from h) (Nat.pow_le_pow_right (show 2 > 0 by decide) hi))
theorem more_n {r1 r2 g : Nat} (h1 : r1 < 65536) (h2 : r2 < 65536) (hg : g < 65536) : ∃ m : Nat, m < 65536 ∧ (nI r1 ||| nI r2) &&& (nI g ^^^ (-1 : Int32)) = nI m ∧ ∀ p, p < 16 → m.testBit p = ((r1.testBit p || r2.testBit p) && !g.testBit p) := by
  have hb : ∀ i, i < 32 → bt ((nI r1 ||| nI r2) &&& (nI g ^^^ (-1 : Int32))) i = ((r1.testBit i || r2.testBit i) && !g.testBit i) := by
    intro i hi
    rw [b_and, b_or, b_xor, b_m1 i hi, nI_bt i (by omega), nI_bt i (by omega), nI_bt i (by omega), Bool.xor_true]
  obtain ⟨m, hm, e⟩ := set16 (x := (nI r1 ||| nI r2) &&& (nI g ^^^ (-1 : Int32))) (fun i hi => by
    by_cases h : i < 32
    · rw [hb i h, tb_hi h1 hi, tb_hi h2 hi]; rfl
    · exact b_big (by omega))
  refine ⟨m, hm, e, fun p hp => ?_⟩
  rw [← hb p (by omega), e, nI_bt p (by omega)]
theorem or_n {g m : Nat} (hg : g < 65536) (hm : m < 65536) : nI g ||| nI m = nI (g ||| m) ∧ g ||| m < 65536 := by
  have h : g ||| m < 65536 := Nat.or_lt_two_pow (n := 16) hg hm
  refine ⟨b_ext (fun i hi => ?_), h⟩
  rw [b_or, nI_bt i (by omega), nI_bt i (by omega), nI_bt i (by omega), Nat.testBit_or]
theorem z_n {m : Nat} (hm : m < 65536) : (nI m = nI 0) ↔ ∀ p, p < 16 → m.testBit p = false := by
  rw [ni_eq (by omega) (by decide)]
  constructor
  · rintro rfl p hp
    exact Nat.zero_testBit p
  · intro h
    refine Nat.eq_of_testBit_eq (fun i => ?_)
    rw [Nat.zero_testBit]
    by_cases hi : i < 16
    · exact h i hi
    · exact tb_hi hm (by omega)
theorem cn_mono {f g : Nat → Bool} : ∀ {k : Nat}, (∀ i, i < k → f i = true → g i = true) → cn f k ≤ cn g k
  | 0, _ => Nat.le_refl _
  | k + 1, h => by
    have := cn_mono (k := k) (fun i hi => h i (by omega))
    have h2 := h k (by omega)
    show cn f k + (if f k then 1 else 0) ≤ cn g k + (if g k then 1 else 0)
    cases hf : f k
    · simp; omega
    · rw [h2 hf]; simp; omega
theorem cn_lt {f g : Nat → Bool} : ∀ {k : Nat}, (∀ i, i < k → f i = true → g i = true) → (∃ i, i < k ∧ f i = false ∧ g i = true) → cn f k < cn g k
  | 0, _, ⟨i, hi, _⟩ => absurd hi (Nat.not_lt_zero i)
  | k + 1, h, ⟨i, hi, hf, hg⟩ => by
    show cn f k + (if f k then 1 else 0) < cn g k + (if g k then 1 else 0)
    by_cases e : i = k
    · subst e
      have := cn_mono (k := i) (fun j hj => h j (by omega))
      rw [hf, hg]; simp; omega
    · have := cn_lt (k := k) (fun j hj => h j (by omega)) ⟨i, by omega, hf, hg⟩
      have h2 := h k (by omega)
      cases hf2 : f k
      · simp; omega
      · rw [h2 hf2]; simp; omega
theorem cn_full {f : Nat → Bool} : ∀ {k : Nat}, k ≤ cn f k → ∀ i, i < k → f i = true
  | 0, _, i, hi => absurd hi (Nat.not_lt_zero i)
  | k + 1, h, i, hi => by
    have h1 := cn_le f k
    have h3 : k + 1 ≤ cn f k + (if f k then 1 else 0) := h
    cases hf : f k
    · rw [hf] at h3; simp at h3; omega
    · rw [hf] at h3; simp at h3
      by_cases e : i = k
      · subst e; exact hf
      · exact cn_full (k := k) (by omega) i (by omega)
theorem any_r {F : Nat → Bool} : (List.range' 0 16).any F = true ↔ ∃ p, p < 16 ∧ F p = true := by
  rw [List.any_eq_true]
  constructor
  · rintro ⟨p, hp, h⟩
    rw [List.mem_range'_1] at hp
    exact ⟨p, by omega, h⟩
  · rintro ⟨p, hp, h⟩
    exact ⟨p, by rw [List.mem_range'_1]; omega, h⟩
/-- a round of the reference -/
theorem wk_round {fa mn cs ro : Nat → Int32} {ct : Int32} {F : Nat → Bool} (h1 : ∀ p, p < 16 → ro p = nI 0 → m_M_follows ct fa mn cs ro (nI (p / 4)) (nI (p % 4)) = some (bi (F p), ())) (h2 : ∀ p, p < 16 → ¬ ro p = nI 0 → F p = false) (k n : Nat) (fr : Nat → Int32) : ∃ ro' fr' : Nat → Int32, m_M_work_28 ct fa mn cs (n + 1) (nI k) ro fr (nI 1) = (if (List.range' 0 16).any F = true then m_M_work_28 ct fa mn cs n (nI (k + 1)) ro' fr' (nI 1) else m_M_work_28 ct fa mn cs n (nI k) ro' fr' (nI 0)) ∧ ∀ p, p < 16 → ro' p = if F p = true then nI (k + 1) else ro p := by
  obtain ⟨fr', e1, h3⟩ := wk_fresh h1 h2 (m_M_work_28 ct fa mn cs n) (nI k) 16 0 (by omega) 40 (by omega) fr false
  rw [bi_f, Bool.false_or] at e1
  by_cases ha : (List.range' 0 16).any F = true
  · obtain ⟨ro', e2, h4⟩ := wk_set (fa := fa) (mn := mn) (cs := cs) (ct := ct) (m_M_work_28 ct fa mn cs n) (nI (k + 1)) (nI 1) fr' 16 0 (by omega) 40 (by omega) ro
    refine ⟨ro', fr', ?_, fun p hp => ?_⟩
    · conv => lhs; unfold m_M_work_28
      rw [if_neg n10, e1, if_pos ha, if_pos ha, nI_add]
      unfold m_M_work_118
      exact e2
    · rw [h4 p hp, h3 p hp, if_neg (Nat.not_lt_zero p), if_neg (Nat.not_lt_zero p)]
      cases F p
      · rw [bi_f, if_pos rfl, if_neg (by decide)]
      · rw [bi_t, if_neg n10, if_pos rfl]
  · obtain ⟨ro', e2, h4⟩ := wk_set (fa := fa) (mn := mn) (cs := cs) (ct := ct) (m_M_work_28 ct fa mn cs n) (nI k) (nI 0) fr' 16 0 (by omega) 40 (by omega) ro
    refine ⟨ro', fr', ?_, fun p hp => ?_⟩
    · conv => lhs; unfold m_M_work_28
      rw [if_neg n10, e1, if_neg ha, if_neg ha]
      unfold m_M_work_118
      exact e2
    · have hF : F p = false := by
        cases hq : F p
        · rfl
        · exact absurd (any_r.mpr ⟨p, hp, hq⟩) ha
      rw [h4 p hp, h3 p hp, if_neg (Nat.not_lt_zero p), if_neg (Nat.not_lt_zero p), hF, bi_f, if_pos rfl, if_neg (by decide)]
def J (k g : Nat) (gi ro : Nat → Int32) : Prop := g < 65536 ∧ k ≤ cn (fun p => g.testBit p) 16 ∧ ∃ t : Nat → Nat, ∀ p, p < 16 → ro p = nI (t p) ∧ t p ≤ k ∧ g.testBit p = decide (t p ≠ 0) ∧ ∀ r, 1 ≤ r → r ≤ k → bt (gi r) p = decide (t p = r)
end
section
theorem ded_loop {fc : Nat → Int64} {x1 x2 : Int32} {fa mn cs : Nat → Int32} {ct : Int32} {Fo : Nat → Nat → Bool}
  (hp : ∀ g, g < 65536 → ∃ r1 r2 : Nat, r1 < 65536 ∧ r2 < 65536 ∧ m_D_pairsFrom (nI g) fc x1 = some (nI r1, ()) ∧ m_D_pairsFrom (nI g) fc x2 = some (nI r2, ()) ∧ ∀ p, p < 16 → (r1.testBit p || r2.testBit p) = Fo g p)
  (hf : ∀ (g : Nat) (ro : Nat → Int32), (∀ p, p < 16 → (ro p ≤ nI 0 ↔ g.testBit p = false)) → ∀ p, p < 16 → m_M_follows ct fa mn cs ro (nI (p / 4)) (nI (p % 4)) = some (bi (Fo g p), ())) :
  ∀ d k, k + d = 16 → ∀ n1 n2, d < n1 → d + 1 < n2 → ∀ (g : Nat) (gi ro fr : Nat → Int32), J k g gi ro → ∃ (k' g' : Nat) (gi' ro' fr' : Nat → Int32), m_D_run_12 fc n1 (nI g) (nI k) gi x1 x2 (nI (k + 1)) = some (nI g', nI k', gi') ∧ m_M_work_28 ct fa mn cs n2 (nI k) ro fr (nI 1) = some (nI k', ro', fr') ∧ k' ≤ 16 ∧ J k' g' gi' ro' := by
  intro d
  induction d with
  | zero =>
    intro k hk n1 n2 hn1 hn2 g gi ro fr hJ
    obtain ⟨n1, rfl⟩ : ∃ n', n1 = n' + 1 := ⟨n1 - 1, by omega⟩
    obtain ⟨n2, rfl⟩ : ∃ n', n2 = n' + 1 + 1 := ⟨n2 - 2, by omega⟩
    have hk16 : k = 16 := by omega
    subst hk16
    obtain ⟨hg, hc, t, ht⟩ := hJ
    have hfull := cn_full hc
    have hro : ∀ p, p < 16 → ¬ ro p = nI 0 := by
      intro p hp
      obtain ⟨a1, a2, a3, -⟩ := ht p hp
      rw [show g.testBit p = true from hfull p hp] at a3
      have := of_decide_eq_true a3.symm
      rw [a1, ni_eq (by omega) (by decide)]
      exact this
    obtain ⟨ro', fr', e, h⟩ := wk_round (F := fun _ => false) (ct := ct) (fa := fa) (mn := mn) (cs := cs) (ro := ro) (fun p hp h => absurd h (hro p hp)) (fun _ _ _ => rfl) 16 (n2 + 1) fr
    refine ⟨16, g, gi, ro', fr', ?_, ?_, Nat.le_refl _, hg, hc, t, fun p hp => ?_⟩
    · unfold m_D_run_12
      rw [if_pos (by rw [ni_lt (by decide) (by decide)]; decide)]
    · rw [e, if_neg (by decide)]
      conv => lhs; unfold m_M_work_28
      rw [if_pos rfl]
    · rw [h p hp, if_neg (by decide)]
      exact ht p hp
  | succ d ih =>
    intro k hk n1 n2 hn1 hn2 g gi ro fr hJ
    obtain ⟨n1, rfl⟩ : ∃ n', n1 = n' + 1 := ⟨n1 - 1, by omega⟩
    obtain ⟨n2, rfl⟩ : ∃ n', n2 = n' + 1 + 1 := ⟨n2 - 2, by omega⟩
    obtain ⟨hg, hc, t, ht⟩ := hJ
    obtain ⟨r1, r2, b1, b2, e1, e2, hr⟩ := hp g hg
    obtain ⟨m, hm, em, hmb⟩ := more_n b1 b2 hg
    have hro : ∀ p, p < 16 → (ro p ≤ nI 0 ↔ g.testBit p = false) := by
      intro p hp
      obtain ⟨a1, a2, a3, -⟩ := ht p hp
      rw [a1, ni_le (by omega) (by decide), a3, decide_eq_false_iff_not]
      omega
    have hF : ∀ p, p < 16 → m.testBit p = (Fo g p && !g.testBit p) := fun p hp => by rw [hmb p hp, hr p hp]
    obtain ⟨ro', fr', e, h⟩ := wk_round (F := fun p => m.testBit p) (ct := ct) (fa := fa) (mn := mn) (cs := cs) (ro := ro) (fun p hp h => by
        have hg0 : g.testBit p = false := (hro p hp).mp (by rw [h]; exact Int32.le_refl _)
        rw [hf g ro hro p hp]
        rw [hF p hp, hg0, Bool.not_false, Bool.and_true]) (fun p hp h => by
        obtain ⟨a1, a2, a3, -⟩ := ht p hp
        rw [a1, ni_eq (by omega) (by decide)] at h
        have hg1 : g.testBit p = true := by rw [a3]; exact decide_eq_true h
        rw [hF p hp, hg1, Bool.not_true, Bool.and_false]) k (n2 + 1) fr
    have hlt : ¬ nI 16 < nI (k + 1) := by rw [ni_lt (by decide) (by omega)]; omega
    by_cases hz : nI m = nI 0
    · have hz' := (z_n hm).mp hz
      have ha : ¬ (List.range' 0 16).any (fun p => m.testBit p) = true := by
        rw [any_r]
        rintro ⟨p, hp, h⟩
        rw [hz' p hp] at h
        exact absurd h (by decide)
      refine ⟨k, g, gi, ro', fr', ?_, ?_, by omega, hg, hc, t, fun p hp => ?_⟩
      · unfold m_D_run_12
        rw [if_neg hlt, e1, bs, e2, bs]
        dsimp only
        rw [em, if_pos hz]
      · rw [e, if_neg ha]
        conv => lhs; unfold m_M_work_28
        rw [if_pos rfl]
      · rw [h p hp]
        rw [hz' p hp, if_neg (by decide)]
        exact ht p hp
    · have hz' := mt (z_n hm).mpr hz
      obtain ⟨p0, hp0, hb0⟩ : ∃ p, p < 16 ∧ m.testBit p = true := by
        apply Classical.byContradiction
        intro hno
        apply hz'
        intro p hp
        cases hq : m.testBit p
        · rfl
        · exact absurd ⟨p, hp, hq⟩ hno
      have ha : (List.range' 0 16).any (fun p => m.testBit p) = true := any_r.mpr ⟨p0, hp0, hb0⟩
      obtain ⟨eo, ho⟩ := or_n hg hm
      have hng : ∀ p, p < 16 → m.testBit p = true → g.testBit p = false := by
        intro p hp hq
        have hb := hF p hp
        rw [hq] at hb
        cases hgp : g.testBit p
        · rfl
        · rw [hgp, Bool.not_true, Bool.and_false] at hb
          exact absurd hb (by decide)
      have hJ2 : J (k + 1) (g ||| m) (upd gi (k + 1) (nI m)) ro' := by
        obtain ⟨t', ht'⟩ : ∃ t' : Nat → Nat, ∀ p, t' p = if m.testBit p = true then k + 1 else t p := ⟨_, fun _ => rfl⟩
        refine ⟨ho, ?_, t', fun p hp => ?_⟩
        · have := cn_lt (f := fun p => g.testBit p) (g := fun p => (g ||| m).testBit p) (k := 16) (fun i hi h => by
            show (g ||| m).testBit i = true
            rw [Nat.testBit_or, show g.testBit i = true from h]
            rfl) ⟨p0, hp0, hng p0 hp0 hb0, by show (g ||| m).testBit p0 = true; rw [Nat.testBit_or, hb0, Bool.or_true]⟩
          omega
        · obtain ⟨a1, a2, a3, a4⟩ := ht p hp
          rw [h p hp, Nat.testBit_or]
          rcases Bool.eq_false_or_eq_true (m.testBit p) with hq | hq
          rotate_left
          · have hq2 : ¬ m.testBit p = true := by rw [hq]; decide
            have et : t' p = t p := by rw [ht', if_neg hq2]
            rw [if_neg hq2, et, hq]
            refine ⟨a1, by omega, by rw [Bool.or_false]; exact a3, fun r hr1 hr2 => ?_⟩
            by_cases er : r = k + 1
            · subst er
              rw [pk_us, nI_bt p (by omega), hq]
              exact (decide_eq_false (by omega)).symm
            · rw [pk_un er]
              exact a4 r hr1 (by omega)
          · have et : t' p = k + 1 := by rw [ht', if_pos hq]
            rw [if_pos hq, et, hq]
            have hgf := hng p hp hq
            refine ⟨rfl, Nat.le_refl _, by rw [Bool.or_true]; exact (decide_eq_true (by omega)).symm, fun r hr1 hr2 => ?_⟩
            by_cases er : r = k + 1
            · subst er
              rw [pk_us, nI_bt p (by omega), hq]
              exact (decide_eq_true rfl).symm
            · rw [pk_un er, a4 r hr1 (by omega)]
              rw [hgf] at a3
              have ht0 := of_decide_eq_false a3.symm
              rw [decide_eq_false (show ¬ t p = r by omega), decide_eq_false (show ¬ k + 1 = r by omega)]
      obtain ⟨k', g', gi', ro2, fr2, c1, c2, c3, c4⟩ := ih (k + 1) (by omega) n1 (n2 + 1) (by omega) (by omega) (g ||| m) (upd gi (k + 1) (nI m)) ro' fr' hJ2
      refine ⟨k', g', gi', ro2, fr2, ?_, ?_, c3, c4⟩
      · conv => lhs; unfold m_D_run_12
        rw [if_neg hlt, e1, bs, e2, bs]
        dsimp only
        rw [em, if_neg hz, if_pos (by rw [inR_n (by omega)]; exact decide_eq_true (by omega)), nI_clamp (by omega), eo, nI_add]
        exact c1
      · rw [e, if_pos ha]
        exact c2
/-- run and work side by side -/
theorem s_ded {fc : Nat → Int64} {x1 x2 : Int32} {fa mn cs : Nat → Int32} {ct : Int32} {Fo : Nat → Nat → Bool}
  (hp : ∀ g, g < 65536 → ∃ r1 r2 : Nat, r1 < 65536 ∧ r2 < 65536 ∧ m_D_pairsFrom (nI g) fc x1 = some (nI r1, ()) ∧ m_D_pairsFrom (nI g) fc x2 = some (nI r2, ()) ∧ ∀ p, p < 16 → (r1.testBit p || r2.testBit p) = Fo g p)
  (hf : ∀ (g : Nat) (ro : Nat → Int32), (∀ p, p < 16 → (ro p ≤ nI 0 ↔ g.testBit p = false)) → ∀ p, p < 16 → m_M_follows ct fa mn cs ro (nI (p / 4)) (nI (p % 4)) = some (bi (Fo g p), ()))
  (gp rc la : Int32) (gi ro fr : Nat → Int32) : ∃ (k' g' : Nat) (gi' ro' fr' : Nat → Int32), m_D_run gp rc fc gi x1 x2 = some (nI g', nI k', gi') ∧ m_M_work ct la fa mn cs ro fr = some (nI k', ro', fr') ∧ k' ≤ 16 ∧ J k' g' gi' ro' := by
  obtain ⟨ro0, e0, h0⟩ := wk_zero (fa := fa) (mn := mn) (cs := cs) (ct := ct) la fr 16 0 (by omega) 40 (by omega) ro (fun p hp => absurd hp (Nat.not_lt_zero p))
  have hJ : J 0 0 gi ro0 := by
    refine ⟨by decide, Nat.zero_le _, fun _ => 0, fun p hp => ⟨h0 p hp, Nat.le_refl _, ?_, fun r h1 h2 => by omega⟩⟩
    rw [Nat.zero_testBit]
    rfl
  obtain ⟨k', g', gi', ro', fr', c1, c2, c3, c4⟩ := ded_loop hp hf 16 0 (by omega) 40 40 (by omega) (by omega) 0 gi ro0 fr hJ
  refine ⟨k', g', gi', ro', fr', ?_, ?_, c3, c4⟩
  · unfold m_D_run
    exact c1
  · unfold m_M_work
    rw [e0]
    exact c2
end
section
theorem rf_ab {fs fa : Nat → Int32} (h : RF fs fa) : ∃ a b : Nat, a < 65536 ∧ b < 65536 ∧ fs 0 = nI a ∧ fs 1 = nI b ∧ ∀ r, r < 2 → ∀ p, p < 16 → fa (16 * r + p) = bi ((if r = 0 then a else b).testBit p) := by
  obtain ⟨a, ha, ea⟩ := set16 (h 0 (by decide)).2
  obtain ⟨b, hb, eb⟩ := set16 (h 1 (by decide)).2
  refine ⟨a, b, ha, hb, ea, eb, fun r hr p hp => ?_⟩
  rw [(h r hr).1 p hp]
  rcases (show r = 0 ∨ r = 1 by omega) with rfl | rfl
  · rw [ea, nI_bt p (by omega), if_pos rfl]; rfl
  · rw [eb, nI_bt p (by omega), if_neg (show ¬ (1 : Nat) = 0 by decide)]; rfl
def bo (Q : Option (List Nat)) : Int32 := match Q with | none => nI 0 | some l => mk l
theorem pf_o {a b g : Nat} (hg : g < 65536) {fc : Nat → Int64} (hfc : ∀ c, c < 18 → ∀ t, t < 64 → bl (fc c) t = fLit a b c t) {Q : Option (List Nat)} (hQ : ∀ l ∈ Q, okB l = true) : ∃ r : Nat, r < 65536 ∧ m_D_pairsFrom (nI g) fc (bo Q) = some (nI r, ()) ∧ ∀ x, x < 4 → ∀ y, y < 4 → r.testBit (4 * x + y) = fol Q.toList a b g x y := by
  cases Q with
  | none => exact ⟨0, by decide, pf_0 _ _, fun x _ y _ => Nat.zero_testBit _⟩
  | some l => exact pf_n hg hfc (hQ l rfl)
theorem hp_of {a b : Nat} {fc : Nat → Int64} (hfc : ∀ c, c < 18 → ∀ t, t < 64 → bl (fc c) t = fLit a b c t) {Q1 Q2 : Option (List Nat)} (h1 : ∀ l ∈ Q1, okB l = true) (h2 : ∀ l ∈ Q2, okB l = true) : ∀ g, g < 65536 → ∃ r1 r2 : Nat, r1 < 65536 ∧ r2 < 65536 ∧ m_D_pairsFrom (nI g) fc (bo Q1) = some (nI r1, ()) ∧ m_D_pairsFrom (nI g) fc (bo Q2) = some (nI r2, ()) ∧ ∀ p, p < 16 → (r1.testBit p || r2.testBit p) = fol (Q1.toList ++ Q2.toList) a b g (p / 4) (p % 4) := by
  intro g hg
  obtain ⟨r1, b1, e1, f1⟩ := pf_o hg hfc h1
  obtain ⟨r2, b2, e2, f2⟩ := pf_o hg hfc h2
  refine ⟨r1, r2, b1, b2, e1, e2, fun p hp => ?_⟩
  have a1 := f1 (p / 4) (by omega) (p % 4) (by omega)
  have a2 := f2 (p / 4) (by omega) (p % 4) (by omega)
  rw [show 4 * (p / 4) + p % 4 = p by omega] at a1 a2
  rw [a1, a2]
  unfold fol
  rw [List.any_append]
theorem ro_loop {k p t : Nat} {gi : Nat → Int32} (hk : k ≤ 16) (hp : p < 16) (ht : t ≤ k) (h : ∀ r, 1 ≤ r → r ≤ k → bt (gi r) p = decide (t = r)) : ∀ d r, r + d = k + 1 → 1 ≤ r → (t = 0 ∨ r ≤ t) → ∀ n, d < n → m_D_roundOf_2 (nI k) gi n (bit p) (nI r) = some (nI t, ()) := by
  intro d
  induction d with
  | zero =>
    intro r hr h1 h2 n hn
    obtain ⟨n, rfl⟩ : ∃ n', n = n' + 1 := ⟨n - 1, by omega⟩
    unfold m_D_roundOf_2
    rw [if_pos (by rw [ni_lt (by omega) (by omega)]; omega), show t = 0 by omega]
  | succ d ih =>
    intro r hr h1 h2 n hn
    obtain ⟨n, rfl⟩ : ∃ n', n = n' + 1 := ⟨n - 1, by omega⟩
    conv => lhs; unfold m_D_roundOf_2
    rw [if_neg (by rw [ni_lt (by omega) (by omega)]; omega), if_pos (by rw [inR_n (by omega)]; exact decide_eq_true (by omega)), nI_clamp (by omega)]
    have hb := h r h1 (by omega)
    by_cases e : t = r
    · rw [decide_eq_true e] at hb
      rw [if_neg (by rw [and_bit (by omega), hb]; decide), e]
    · rw [decide_eq_false e] at hb
      rw [if_pos ((and_bit (by omega)).mpr hb), nI_add]
      exact ih (r + 1) (by omega) (by omega) (by omega) n (by omega)
theorem ro_none {k : Nat} {gi : Nat → Int32} (hk : k ≤ 16) : ∀ d r, r + d = k + 1 → ∀ n, d < n → m_D_roundOf_2 (nI k) gi n (nI 0) (nI r) = some (nI 0, ()) := by
  intro d
  induction d with
  | zero =>
    intro r hr n hn
    obtain ⟨n, rfl⟩ : ∃ n', n = n' + 1 := ⟨n - 1, by omega⟩
    unfold m_D_roundOf_2
    rw [if_pos (by rw [ni_lt (by omega) (by omega)]; omega)]
  | succ d ih =>
    intro r hr n hn
    obtain ⟨n, rfl⟩ : ∃ n', n = n' + 1 := ⟨n - 1, by omega⟩
    conv => lhs; unfold m_D_roundOf_2
    rw [if_neg (by rw [ni_lt (by omega) (by omega)]; omega), if_pos (by rw [inR_n (by omega)]; exact decide_eq_true (by omega)), and_z, if_pos rfl, nI_add]
    exact ih (r + 1) (by omega) n (by omega)
theorem bodies_of {ct ct2 : Int32} {bd mn cs : Nat → Int32} (h : RP ct bd ct2 mn cs) : ∃ Q1 Q2 : Option (List Nat), (∀ l ∈ Q1, okB l = true) ∧ (∀ l ∈ Q2, okB l = true) ∧ m_P_bodyOf ct bd (nI 0) = some (bo Q1, ()) ∧ m_P_bodyOf ct bd (nI 1) = some (bo Q2, ()) ∧ ∀ (a b : Nat) (fa : Nat → Int32), (∀ r, r < 2 → ∀ p, p < 16 → fa (16 * r + p) = bi ((if r = 0 then a else b).testBit p)) → ∀ (g : Nat) (ro : Nat → Int32), (∀ p, p < 16 → (ro p ≤ nI 0 ↔ g.testBit p = false)) → ∀ p, p < 16 → m_M_follows ct2 fa mn cs ro (nI (p / 4)) (nI (p % 4)) = some (bi (fol (Q1.toList ++ Q2.toList) a b g (p / 4) (p % 4)), ()) := by
  obtain ⟨P, hP, rfl, rfl, hc⟩ := h
  have hfol : ∀ (a b : Nat) (fa : Nat → Int32), (∀ r, r < 2 → ∀ p, p < 16 → fa (16 * r + p) = bi ((if r = 0 then a else b).testBit p)) → ∀ (g : Nat) (ro : Nat → Int32), (∀ p, p < 16 → (ro p ≤ nI 0 ↔ g.testBit p = false)) → ∀ p, p < 16 → m_M_follows (nI P.length) fa mn cs ro (nI (p / 4)) (nI (p % 4)) = some (bi (fol P a b g (p / 4) (p % 4)), ()) := fun a b fa hfa g ro hro p hp => fol_n hfa hro (by omega) (by omega) hP (fun j hj => ⟨(hc j hj).1, (hc j hj).2.2.2.1, (hc j hj).2.2.2.2⟩)
  match P, hP, hc, hfol with
  | [], hP, hc, hfol => exact ⟨none, none, fun l hl => by simp at hl, fun l hl => by simp at hl, s_bodyOf_out (n := 0) (Or.inr (by decide)), s_bodyOf_out (n := 0) (Or.inr (by decide)), hfol⟩
  | [l], hP, hc, hfol =>
    obtain ⟨a1, -, a3, -, -⟩ := hc 0 (by simp)
    refine ⟨some l, none, fun l' hl => ?_, fun l hl => by simp at hl, ?_, s_bodyOf_out (n := 1) (Or.inr (by decide)), hfol⟩
    · simp at hl; subst hl; exact a1
    · have := s_bodyOf_in (n := 1) (bd := bd) (j := 0) (by decide) (by decide)
      rw [a3] at this
      exact this
  | [l, l2], hP, hc, hfol =>
    obtain ⟨a1, -, a3, -, -⟩ := hc 0 (by simp)
    obtain ⟨b1, -, b3, -, -⟩ := hc 1 (by simp)
    refine ⟨some l, some l2, fun l' hl => ?_, fun l' hl => ?_, ?_, ?_, hfol⟩
    · simp at hl; subst hl; exact a1
    · simp at hl; subst hl; exact b1
    · have := s_bodyOf_in (n := 2) (bd := bd) (j := 0) (by decide) (by decide)
      rw [a3] at this
      exact this
    · have := s_bodyOf_in (n := 2) (bd := bd) (j := 1) (by decide) (by decide)
      rw [b3] at this
      exact this
  | _ :: _ :: _ :: _, hP, _, _ => simp at hP
/-- deduceProgram and work -/
theorem s_deduce {ct ct2 : Int32} {bd mn cs fs fa : Nat → Int32} (h : RP ct bd ct2 mn cs) (hF : RF fs fa) (gp rc la : Int32) (fc : Nat → Int64) (gi ro fr : Nat → Int32) : ∃ (k g : Nat) (fc' : Nat → Int64) (gi' ro' fr' : Nat → Int32), m_H_deduceProgram fs ct bd gp rc fc gi = some (nI g, nI k, fc', gi') ∧ m_M_work ct2 la fa mn cs ro fr = some (nI k, ro', fr') ∧ k ≤ 16 ∧ J k g gi' ro' := by
  obtain ⟨a, b, ha, hb, ea, eb, hfa⟩ := rf_ab hF
  obtain ⟨Q1, Q2, k1, k2, e1, e2, hfol⟩ := bodies_of h
  obtain ⟨fc', ef, hfc⟩ := take_n ha hb fc
  obtain ⟨k, g, gi', ro', fr', c1, c2, c3, c4⟩ := s_ded (hp_of hfc k1 k2) (hfol a b fa hfa) gp rc la gi ro fr
  refine ⟨k, g, fc', gi', ro', fr', ?_, c2, c3, c4⟩
  unfold m_H_deduceProgram
  rw [if_pos (by decide), if_pos (by decide), show (nI 0).toNatClampNeg = 0 from rfl, show (nI 1).toNatClampNeg = 1 from rfl, ea, eb, ef, bs, e1, bs, e2, bs]
  dsimp only
  rw [c1, bs]
theorem s_given {ct ct2 : Int32} {bd mn cs fs fa : Nat → Int32} (h : RP ct bd ct2 mn cs) (hF : RF fs fa) (gp rc la : Int32) (fc : Nat → Int64) (gi ro fr : Nat → Int32) (x1 x2 : Int32) : ∃ (r gp' rc' la' : Int32) (fc' : Nat → Int64) (gi' ro' fr' : Nat → Int32), m_H_given fs ct bd gp rc fc gi x1 x2 = some (r, gp', rc', fc', gi') ∧ m_M_given ct2 la fa mn cs ro fr x1 x2 = some (r, la', ro', fr') := by
  obtain ⟨k, g, fc', gi', ro', fr', c1, c2, c3, hg, hc, t, ht⟩ := s_deduce h hF gp rc la fc gi ro fr
  unfold m_H_given m_M_given m_M_constant m_D_roundOf
  rw [c1, c2, bs, bs]
  dsimp only
  have z := ro_none (gi := gi') c3 k 1 (by omega) 40 (by omega)
  rcases ix x1 (n := 4) (by decide) with h2 | h2 | ⟨a, ha, rfl⟩
  · refine ⟨nI 0, nI g, nI k, nI k, fc', gi', ro', fr', ?_, ?_⟩
    · rw [s_pairBit_0 (Or.inl h2), bs]; dsimp only; rw [z, bs]
    · rw [if_pos h2]; rfl
  · refine ⟨nI 0, nI g, nI k, nI k, fc', gi', ro', fr', ?_, ?_⟩
    · rw [s_pairBit_0 (Or.inr (Or.inl h2)), bs]; dsimp only; rw [z, bs]
    · rw [if_neg (ix_nn h2 (by decide)), if_pos h2]; rfl
  rcases ix x2 (n := 4) (by decide) with h3 | h3 | ⟨b, hb, rfl⟩
  · refine ⟨nI 0, nI g, nI k, nI k, fc', gi', ro', fr', ?_, ?_⟩
    · rw [s_pairBit_0 (Or.inr (Or.inr (Or.inl h3))), bs]; dsimp only; rw [z, bs]
    · simp (disch := omega) only [ni_lt, ni_le, ni_eq, Nat.not_lt_zero, Nat.not_le.mpr ha, if_false, Option.bind_some, Nat.one_ne_zero, if_pos h3, if_true]
  · refine ⟨nI 0, nI g, nI k, nI k, fc', gi', ro', fr', ?_, ?_⟩
    · rw [s_pairBit_0 (Or.inr (Or.inr (Or.inr h3))), bs]; dsimp only; rw [z, bs]
    · simp (disch := omega) only [ni_lt, ni_le, ni_eq, Nat.not_lt_zero, Nat.not_le.mpr ha, if_false, Option.bind_some, Nat.one_ne_zero, if_neg (ix_nn h3 (by decide)), if_pos h3, if_true]
  · obtain ⟨a1, a2, a3, a4⟩ := ht (4 * a + b) (by omega)
    refine ⟨nI (t (4 * a + b)), nI g, nI k, nI k, fc', gi', ro', fr', ?_, ?_⟩
    · rw [s_pairBit ha hb, bs]
      dsimp only
      rw [ro_loop c3 (show 4 * a + b < 16 by omega) a2 a4 k 1 (by omega) (by omega) (by omega) 40 (by omega), bs]
    · simp (disch := omega) only [ni_lt, ni_le, ni_eq, Nat.not_lt_zero, Nat.not_le.mpr ha, Nat.not_le.mpr hb, if_false, Option.bind_some, Nat.one_ne_zero, pk_mul, nI_add, inR_n, nI_clamp, a1]
      simp only [show decide (4 * a + b < 16) = true from decide_eq_true (by omega), if_true]
theorem s_rounds {ct ct2 : Int32} {bd mn cs fs fa : Nat → Int32} (h : RP ct bd ct2 mn cs) (hF : RF fs fa) (gp rc la : Int32) (fc : Nat → Int64) (gi ro fr : Nat → Int32) : ∃ (r gp' rc' la' : Int32) (fc' : Nat → Int64) (gi' ro' fr' : Nat → Int32), m_H_rounds fs ct bd gp rc fc gi = some (r, gp', rc', fc', gi') ∧ m_M_rounds ct2 la fa mn cs ro fr = some (r, la', ro', fr') := by
  obtain ⟨k, g, fc', gi', ro', fr', c1, c2, c3, -⟩ := s_deduce h hF gp rc la fc gi ro fr
  refine ⟨nI k, nI g, nI k, nI k, fc', gi', ro', fr', ?_, ?_⟩
  · unfold m_H_rounds; rw [c1, bs]
  · unfold m_M_rounds; rw [c2, bs]
end
section
def okp (pl mi : Int32) (g p : Nat) : Bool := (!bt pl p || g.testBit p) && (!bt mi p || !g.testBit p)
def fitN (pl mi : Int32) (g : Nat) : Bool := (List.range' 0 16).all (okp pl mi g)
theorem all_r {F : Nat → Bool} : (List.range' 0 16).all F = true ↔ ∀ p, p < 16 → F p = true := by
  rw [List.all_eq_true]
  constructor
  · intro h p hp
    exact h p (by rw [List.mem_range'_1]; omega)
  · intro h p hp
    rw [List.mem_range'_1] at hp
    exact h p (by omega)
theorem an_z {x y : Int32} (hx : ∀ i, 16 ≤ i → bt x i = false) : (x &&& y = nI 0) ↔ ∀ p, p < 16 → (bt x p && bt y p) = false := by
  constructor
  · intro h p hp
    have h2 := congrArg (fun z => bt z p) h
    simp only [b_and] at h2
    rw [h2, b_n0]
  · intro h
    refine b_ext (fun i hi => ?_)
    rw [b_and, b_n0]
    by_cases hi2 : i < 16
    · exact h i hi2
    · rw [hx i (by omega)]; rfl
theorem dfits {pl mi : Int32} {mk : Nat → Int32} (h : RM pl mi mk) {g : Nat} (hg : g < 65536) : m_H_deductionFits pl mi (nI g) = some (bi (fitN pl mi g), ()) := by
  have e1 : (pl &&& (nI g ^^^ (-1 : Int32)) = nI 0) ↔ ∀ p, p < 16 → (!bt pl p || g.testBit p) = true := by
    rw [an_z (fun i hi => (h.2.2 i hi).1)]
    refine forall_congr' (fun p => forall_congr' (fun hp => ?_))
    rw [b_xor, nI_bt p (by omega), b_m1 p (by omega), Bool.xor_true]
    cases bt pl p <;> cases g.testBit p <;> simp
  have e2 : (mi &&& nI g = nI 0) ↔ ∀ p, p < 16 → (!bt mi p || !g.testBit p) = true := by
    rw [an_z (fun i hi => (h.2.2 i hi).2)]
    refine forall_congr' (fun p => forall_congr' (fun hp => ?_))
    rw [nI_bt p (by omega)]
    cases bt mi p <;> cases g.testBit p <;> simp
  unfold m_H_deductionFits
  cases hf : fitN pl mi g
  · by_cases a1 : pl &&& (nI g ^^^ (-1 : Int32)) = nI 0
    · by_cases a2 : mi &&& nI g = nI 0
      · have : fitN pl mi g = true := by
          unfold fitN
          rw [all_r]
          intro p hp
          unfold okp
          rw [e1.mp a1 p hp, e2.mp a2 p hp]
          rfl
        rw [this] at hf
        exact absurd hf (by decide)
      · rw [if_pos a1, if_neg a2]; rfl
    · rw [if_neg a1]; rfl
  · unfold fitN at hf
    rw [all_r] at hf
    have h3 : ∀ p, p < 16 → (!bt pl p || g.testBit p) = true ∧ (!bt mi p || !g.testBit p) = true := by
      intro p hp
      have := hf p hp
      unfold okp at this
      exact (Bool.and_eq_true _ _).mp this
    rw [if_pos (e1.mpr (fun p hp => (h3 p hp).1)), if_pos (e2.mpr (fun p hp => (h3 p hp).2))]
    rfl
theorem fits_loop {pl mi ct la : Int32} {mk fa mn cs ro fr : Nat → Int32} (h : RM pl mi mk) {g : Nat} (h1 : ∀ p, p < 16 → (ro p ≤ nI 0 ↔ g.testBit p = false)) (h2 : ∀ p, p < 16 → (ro p = nI 0 ↔ g.testBit p = false)) : ∀ d k, k + d = 16 → ∀ n, d < n → ∀ α : Bool, m_M_fits_8 ct fa mk mn cs n la ro fr (bi α) (nI k) = some (bi (α && (List.range' k d).all (okp pl mi g)), la, ro, fr) := by
  intro d
  induction d with
  | zero =>
    intro k hk n hn α
    obtain ⟨n, rfl⟩ : ∃ n', n = n' + 1 := ⟨n - 1, by omega⟩
    unfold m_M_fits_8
    rw [if_pos (by rw [ni_le (by decide) (by omega)]; omega), isZ_bi, if_pos rfl, List.range'_zero, List.all_nil, Bool.and_true]
  | succ d ih =>
    intro k hk n hn α
    obtain ⟨n, rfl⟩ : ∃ n', n = n' + 1 := ⟨n - 1, by omega⟩
    have hk2 : k < 16 := by omega
    have hm := h.1 k hk2
    have hx := h.2.1 k
    have i0 := ih (k + 1) (by omega) n (by omega) false
    have i1 := ih (k + 1) (by omega) n (by omega) true
    rw [bi_f] at i0
    rw [bi_t] at i1
    conv => lhs; unfold m_M_fits_8
    unfold m_M_fits_37 m_M_fits_56 m_M_fits_60 m_M_fits_61
    rw [if_neg (by rw [ni_le (by decide) (by omega)]; omega), inR_n (by omega), decide_eq_true hk2, nI_clamp (by omega), if_pos rfl, if_pos rfl, if_pos rfl, if_pos rfl, nI_add, List.range'_succ, List.all_cons, i0, i1]
    cases α
    · rw [bi_f, if_pos rfl, Bool.false_and]; rfl
    · rw [bi_t, if_neg n10, Bool.true_and]
      have m1 : ¬ (-1 : Int32) = nI 1 := by decide
      have m2 : ¬ nI 1 = (-1 : Int32) := by decide
      have m3 : ¬ nI 0 = (-1 : Int32) := by decide
      have m4 : ¬ (nI 0 : Int32) = nI 1 := by decide
      cases hpl : bt pl k
      · cases hmi : bt mi k
        · have e : okp pl mi g k = true := by unfold okp; rw [hpl, hmi]; rfl
          rw [hpl, hmi] at hm
          have hm : mk k = nI 0 := hm
          rw [hm, if_neg m4, if_neg m3, e]
          rfl
        · rw [hpl, hmi] at hm
          have hm : mk k = (-1 : Int32) := hm
          rw [hm, if_neg m1, if_pos rfl]
          have e : okp pl mi g k = !g.testBit k := by unfold okp; rw [hpl, hmi]; simp
          cases hg : g.testBit k
          · rw [if_pos ((h2 k hk2).mpr hg), e, hg]; rfl
          · rw [if_neg (by rw [h2 k hk2, hg]; decide), e, hg]; rfl
      · rw [hpl] at hm
        have hm : mk k = nI 1 := hm
        have hmi := hx hpl
        have e : okp pl mi g k = g.testBit k := by unfold okp; rw [hpl, hmi]; simp
        rw [hm, if_pos rfl, if_neg m2]
        cases hg : g.testBit k
        · rw [if_pos ((h1 k hk2).mpr hg), e, hg]; rfl
        · rw [if_neg (by rw [h1 k hk2, hg]; decide), e, hg]; rfl
theorem J_ro {k g : Nat} {gi ro : Nat → Int32} (h : J k g gi ro) : k ≤ 16 → g < 65536 ∧ (∀ p, p < 16 → (ro p ≤ nI 0 ↔ g.testBit p = false)) ∧ (∀ p, p < 16 → (ro p = nI 0 ↔ g.testBit p = false)) := by
  intro hk
  obtain ⟨hg, hc, t, ht⟩ := h
  refine ⟨hg, fun p hp => ?_, fun p hp => ?_⟩
  · obtain ⟨a1, a2, a3, -⟩ := ht p hp
    rw [a1, ni_le (by omega) (by decide), a3, decide_eq_false_iff_not]
    omega
  · obtain ⟨a1, a2, a3, -⟩ := ht p hp
    rw [a1, ni_eq (by omega) (by decide), a3, decide_eq_false_iff_not]
    omega
theorem s_fits {ct ct2 pl mi : Int32} {bd mn cs fs fa mk : Nat → Int32} (h : RP ct bd ct2 mn cs) (hF : RF fs fa) (hM : RM pl mi mk) (gp rc la : Int32) (fc : Nat → Int64) (gi ro fr : Nat → Int32) : ∃ (r gp' rc' la' : Int32) (fc' : Nat → Int64) (gi' ro' fr' : Nat → Int32), m_H_fits pl mi fs ct bd gp rc fc gi = some (r, gp', rc', fc', gi') ∧ m_M_fits ct2 la fa mk mn cs ro fr = some (r, la', ro', fr') := by
  obtain ⟨k, g, fc', gi', ro', fr', c1, c2, c3, c4⟩ := s_deduce h hF gp rc la fc gi ro fr
  obtain ⟨hg, r1, r2⟩ := J_ro c4 c3
  refine ⟨bi (fitN pl mi g), nI g, nI k, nI k, fc', gi', ro', fr', ?_, ?_⟩
  · unfold m_H_fits
    rw [c1, bs]
    dsimp only
    rw [dfits hM hg, bs]
    dsimp only
    rw [isZ_bi, if_pos rfl]
  · unfold m_M_fits
    rw [c2, bs]
    dsimp only
    have := fits_loop (ct := ct2) (la := nI k) (fa := fa) (mn := mn) (cs := cs) (fr := fr') hM r1 r2 16 0 (by omega) 40 (by omega) true
    rw [bi_t, Bool.true_and] at this
    exact this
end
section
def phi (pl mi : Int32) (fc : Nat → Int64) (x1 x2 : Int32) : Bool := match m_D_run_12 fc 40 (nI 0) (nI 0) (fun _ => nI 0) x1 x2 (nI 1) with
  | some v => decide (m_H_deductionFits pl mi v.1 = some (nI 1, ()))
  | none => false
theorem run_gi (fc : Nat → Int64) (x1 x2 : Int32) : ∀ (n : Nat) (g k : Int32) (gi gi' : Nat → Int32) (z : Int32) (v : Int32 × Int32 × (Nat → Int32)), m_D_run_12 fc n g k gi x1 x2 z = some v → ∃ v', m_D_run_12 fc n g k gi' x1 x2 z = some v' ∧ v'.1 = v.1 := by
  intro n
  induction n with
  | zero => intro g k gi gi' z v h; exact absurd h (by unfold m_D_run_12; simp)
  | succ n ih =>
    intro g k gi gi' z v h
    unfold m_D_run_12 at h ⊢
    by_cases h1 : nI 16 < z
    · rw [if_pos h1] at h ⊢
      exact ⟨_, rfl, by rw [← Option.some.inj h]⟩
    · rw [if_neg h1] at h ⊢
      obtain ⟨v1, e1, h⟩ := of_bind h
      obtain ⟨v2, e2, h⟩ := of_bind h
      rw [e1, bs, e2, bs]
      by_cases h2 : (v1.1 ||| v2.1) &&& (g ^^^ (-1 : Int32)) = nI 0
      · rw [if_pos h2] at h ⊢
        exact ⟨_, rfl, by rw [← Option.some.inj h]⟩
      · rw [if_neg h2] at h ⊢
        by_cases h3 : inR z 17 = true
        · rw [if_pos h3] at h ⊢
          exact ih _ _ _ _ _ _ h
        · rw [if_neg h3] at h
          exact absurd h (by simp)
def rep (P : List (List Nat)) (mn cs : Nat → Int32) : Prop := ∀ j, j < P.length → mn j = nI (P.getD j []).length ∧ ∀ k, k < (P.getD j []).length → cs (3 * j + k) = nI ((P.getD j []).getD k 0)
theorem rep_ex (P : List (List Nat)) (hP : ∀ j, j < P.length → (P.getD j []).length ≤ 3) : ∃ mn cs : Nat → Int32, rep P mn cs := by
  refine ⟨fun j => nI (P.getD j []).length, fun i => nI ((P.getD (i / 3) []).getD (i % 3) 0), fun j hj => ⟨rfl, fun k hk => ?_⟩⟩
  have := hP j hj
  dsimp only
  rw [show (3 * j + k) / 3 = j by omega, show (3 * j + k) % 3 = k by omega]
section FIT
variable {pl mi : Int32} {mk0 fa : Nat → Int32} {a b : Nat} {fc : Nat → Int64}
theorem fit_r (hM : RM pl mi mk0) (hfa : ∀ r, r < 2 → ∀ p, p < 16 → fa (16 * r + p) = bi ((if r = 0 then a else b).testBit p)) (hfc : ∀ c, c < 18 → ∀ t, t < 64 → bl (fc c) t = fLit a b c t) {Q1 Q2 : Option (List Nat)} (k1 : ∀ l ∈ Q1, okB l = true) (k2 : ∀ l ∈ Q2, okB l = true) {mn cs : Nat → Int32} (hP : rep (Q1.toList ++ Q2.toList) mn cs) (la : Int32) (ro fr : Nat → Int32) : ∃ (la' : Int32) (ro' fr' : Nat → Int32), m_M_fits (nI (Q1.toList ++ Q2.toList).length) la fa mk0 mn cs ro fr = some (bi (phi pl mi fc (bo Q1) (bo Q2)), la', ro', fr') := by
  have hok : ∀ j, j < (Q1.toList ++ Q2.toList).length → okB ((Q1.toList ++ Q2.toList).getD j []) = true := by
    intro j hj
    have hm : (Q1.toList ++ Q2.toList).getD j [] ∈ Q1.toList ++ Q2.toList := by
      have e : (Q1.toList ++ Q2.toList).getD j [] = (Q1.toList ++ Q2.toList)[j] := by rw [List.getD_eq_getElem?_getD, List.getElem?_eq_getElem hj]; rfl
      rw [e]
      exact List.getElem_mem hj
    rcases List.mem_append.mp hm with h | h
    · exact k1 _ (by simpa using h)
    · exact k2 _ (by simpa using h)
  have hlen : (Q1.toList ++ Q2.toList).length ≤ 2 := by
    rw [List.length_append]
    cases Q1 <;> cases Q2 <;> simp
  have hf : ∀ (g : Nat) (ro : Nat → Int32), (∀ p, p < 16 → (ro p ≤ nI 0 ↔ g.testBit p = false)) → ∀ p, p < 16 → m_M_follows (nI (Q1.toList ++ Q2.toList).length) fa mn cs ro (nI (p / 4)) (nI (p % 4)) = some (bi (fol (Q1.toList ++ Q2.toList) a b g (p / 4) (p % 4)), ()) := fun g ro hro p hp => fol_n hfa hro (by omega) (by omega) hlen (fun j hj => ⟨hok j hj, (hP j hj).1, (hP j hj).2⟩)
  obtain ⟨k, g, gi', ro', fr', c1, c2, c3, c4⟩ := s_ded (hp_of hfc k1 k2) hf (nI 0) (nI 0) la (fun _ => nI 0) ro fr
  obtain ⟨hg, r1, r2⟩ := J_ro c4 c3
  refine ⟨nI k, ro', fr', ?_⟩
  have e : phi pl mi fc (bo Q1) (bo Q2) = fitN pl mi g := by
    unfold phi
    unfold m_D_run at c1
    rw [c1]
    dsimp only
    rw [dfits hM hg]
    cases fitN pl mi g
    · exact decide_eq_false (by decide)
    · exact decide_eq_true (by decide)
  rw [e]
  unfold m_M_fits
  rw [c2, bs]
  dsimp only
  have := fits_loop (ct := nI (Q1.toList ++ Q2.toList).length) (la := nI k) (fa := fa) (mn := mn) (cs := cs) (fr := fr') hM r1 r2 16 0 (by omega) 40 (by omega) true
  rw [bi_t, Bool.true_and] at this
  exact this
theorem fit_c (hM : RM pl mi mk0) (hfa : ∀ r, r < 2 → ∀ p, p < 16 → fa (16 * r + p) = bi ((if r = 0 then a else b).testBit p)) (hfc : ∀ c, c < 18 → ∀ t, t < 64 → bl (fc c) t = fLit a b c t) {Q1 Q2 : Option (List Nat)} (k1 : ∀ l ∈ Q1, okB l = true) (k2 : ∀ l ∈ Q2, okB l = true) (gp rc : Int32) (gi : Nat → Int32) : ∃ (gp' rc' : Int32) (gi' : Nat → Int32), m_D_run gp rc fc gi (bo Q1) (bo Q2) = some (gp', rc', gi') ∧ m_H_deductionFits pl mi gp' = some (bi (phi pl mi fc (bo Q1) (bo Q2)), ()) := by
  have hok : ∀ j, j < (Q1.toList ++ Q2.toList).length → okB ((Q1.toList ++ Q2.toList).getD j []) = true := by
    intro j hj
    have hm : (Q1.toList ++ Q2.toList).getD j [] ∈ Q1.toList ++ Q2.toList := by
      have e : (Q1.toList ++ Q2.toList).getD j [] = (Q1.toList ++ Q2.toList)[j] := by rw [List.getD_eq_getElem?_getD, List.getElem?_eq_getElem hj]; rfl
      rw [e]
      exact List.getElem_mem hj
    rcases List.mem_append.mp hm with h | h
    · exact k1 _ (by simpa using h)
    · exact k2 _ (by simpa using h)
  have hlen : (Q1.toList ++ Q2.toList).length ≤ 2 := by
    rw [List.length_append]
    cases Q1 <;> cases Q2 <;> simp
  obtain ⟨mn, cs, hP⟩ := rep_ex (Q1.toList ++ Q2.toList) (fun j hj => (cl_len _ (hok j hj)).2)
  have hf : ∀ (g : Nat) (ro : Nat → Int32), (∀ p, p < 16 → (ro p ≤ nI 0 ↔ g.testBit p = false)) → ∀ p, p < 16 → m_M_follows (nI (Q1.toList ++ Q2.toList).length) fa mn cs ro (nI (p / 4)) (nI (p % 4)) = some (bi (fol (Q1.toList ++ Q2.toList) a b g (p / 4) (p % 4)), ()) := fun g ro hro p hp => fol_n hfa hro (by omega) (by omega) hlen (fun j hj => ⟨hok j hj, (hP j hj).1, (hP j hj).2⟩)
  obtain ⟨k, g, gi', ro', fr', c1, c2, c3, c4⟩ := s_ded (hp_of hfc k1 k2) hf gp rc (nI 0) gi (fun _ => nI 0) (fun _ => nI 0)
  obtain ⟨hg, r1, r2⟩ := J_ro c4 c3
  refine ⟨nI g, nI k, gi', c1, ?_⟩
  unfold m_D_run at c1
  obtain ⟨v', e1, e2⟩ := run_gi fc (bo Q1) (bo Q2) 40 (nI 0) (nI 0) gi (fun _ => nI 0) (nI 1) _ c1
  have e : phi pl mi fc (bo Q1) (bo Q2) = fitN pl mi g := by
    unfold phi
    rw [e1]
    dsimp only
    rw [e2, dfits hM hg]
    cases fitN pl mi g
    · exact decide_eq_false (by decide)
    · exact decide_eq_true (by decide)
  rw [e, dfits hM hg]
def becm (Q : Option (List Nat)) (l : List Nat) (bd : Nat → Int32) : Int32 × (Nat → Int32) := match Q with
  | none => (nI 1, upd (upd bd 0 (mk l)) 1 (nI 0))
  | some l0 => (nI 2, upd (upd bd 0 (mk l0)) 1 (mk l))
theorem bec_n (ct : Int32) (bd : Nat → Int32) {Q : Option (List Nat)} (k1 : ∀ l ∈ Q, okB l = true) (l : List Nat) : m_P_become ct bd (bo Q) (mk l) = some (becm Q l bd) := by
  unfold m_P_become m_P_become_10 m_P_become_27 m_P_become_42
  cases Q with
  | none =>
    rw [show bo none = nI 0 from rfl, if_pos rfl, if_pos rfl, if_pos (by decide), if_pos rfl, if_pos (by decide)]
    rfl
  | some l0 =>
    have hn := cl_ne l0 (k1 l0 rfl)
    rw [show bo (some l0) = mk l0 from rfl, if_neg hn, if_neg hn, if_pos (by decide), if_neg hn, if_pos (by decide)]
    rfl
def tst (pl mi : Int32) (fc : Nat → Int64) (Q : Option (List Nat)) (l : List Nat) : Bool := (hasX l && hasY l) && phi pl mi fc (bo Q) (mk l)
theorem tk_n (hM : RM pl mi mk0) (hfa : ∀ r, r < 2 → ∀ p, p < 16 → fa (16 * r + p) = bi ((if r = 0 then a else b).testBit p)) (hfc : ∀ c, c < 18 → ∀ t, t < 64 → bl (fc c) t = fLit a b c t) {Q : Option (List Nat)} (k1 : ∀ l ∈ Q, okB l = true) {l : List Nat} (hl : okB l = true) (ct gp rc : Int32) (bd gi : Nat → Int32) : ∃ (gp' rc' : Int32) (gi' : Nat → Int32), m_H_takeIfFitting pl mi ct bd gp rc fc gi (bo Q) (mk l) = if tst pl mi fc Q l = true then some (nI 1, (becm Q l bd).1, (becm Q l bd).2, gp', rc', gi') else some (nI 0, ct, bd, gp', rc', gi') := by
  unfold m_H_takeIfFitting tst
  rw [cl_head l hl, bs]
  cases hh : (hasX l && hasY l)
  · refine ⟨gp, rc, gi, ?_⟩
    rw [if_pos (by decide), Bool.false_and, if_neg (by decide)]
  · obtain ⟨gp', rc', gi', e1, e2⟩ := fit_c hM hfa hfc k1 (Q2 := some l) (fun l' h => by cases h; exact hl) gp rc gi
    refine ⟨gp', rc', gi', ?_⟩
    rw [show bo (some l) = mk l from rfl] at e1 e2
    rw [if_neg (by decide), e1, bs]
    dsimp only
    rw [e2, bs, bec_n ct bd k1 l]
    dsimp only
    cases phi pl mi fc (bo Q) (mk l)
    · rw [bi_f, if_pos rfl]; rfl
    · rw [bi_t, if_neg n10]; rfl
end FIT
end
section
def fs1 {α : Type} (f : Nat → Option α) : Nat → Nat → Option α
  | 0, _ => none
  | d + 1, k => match f k with
    | some v => some v
    | none => fs1 f d (k + 1)
theorem fs1_0 {α : Type} (f : Nat → Option α) (k : Nat) : fs1 f 0 k = none := rfl
theorem fs1_s {α : Type} {f : Nat → Option α} {d k : Nat} {v : α} (h : f k = some v) : fs1 f (d + 1) k = some v := by
  unfold fs1
  rw [h]
theorem fs1_n {α : Type} {f : Nat → Option α} {d k : Nat} (h : f k = none) : fs1 f (d + 1) k = fs1 f d (k + 1) := by
  conv => lhs; unfold fs1
  rw [h]
def find1 (T : List Nat → Bool) : Nat → List Nat → Nat → Option (List Nat)
  | 0, l, _ => if T l = true then some l else none
  | m + 1, l, k => fs1 (fun c => find1 T m (l ++ [c]) (c + 1)) (27 - k) k
theorem mk1 (c : Nat) : mk [c] = bit c := by
  show bit c ||| nI 0 = bit c
  exact b_ext (fun i hi => by rw [b_or, b_n0, Bool.or_false])
theorem mk_app (l : List Nat) (c : Nat) : mk (l ++ [c]) = mk l ||| bit c := by
  induction l with
  | nil =>
    show bit c ||| nI 0 = nI 0 ||| bit c
    exact b_ext (fun i hi => by rw [b_or, b_or, Bool.or_comm])
  | cons a l ih =>
    show bit a ||| mk (l ++ [c]) = (bit a ||| mk l) ||| bit c
    rw [ih]
    exact b_ext (fun i hi => by rw [b_or, b_or, b_or, b_or, Bool.or_assoc])
def asc (l : List Nat) (k : Nat) : Prop := l.Pairwise (· < ·) ∧ ∀ c ∈ l, c < k
theorem asc_app {l : List Nat} {k c : Nat} (h : asc l k) (hc : k ≤ c) : asc (l ++ [c]) (c + 1) := by
  refine ⟨List.pairwise_append.mpr ⟨h.1, List.pairwise_singleton _ _, fun x hx y hy => ?_⟩, fun x hx => ?_⟩
  · have := h.2 x hx
    rw [List.mem_singleton] at hy
    omega
  · rcases List.mem_append.mp hx with hx | hx
    · have := h.2 x hx
      omega
    · rw [List.mem_singleton] at hx
      omega
theorem asc_nil (k : Nat) : asc [] k := ⟨List.Pairwise.nil, fun c hc => by simp at hc⟩
theorem asc_ok {l : List Nat} {k : Nat} (h : asc l k) (hk : k ≤ 27) (h1 : 1 ≤ l.length) (h3 : l.length ≤ 3) : okB l = true := by
  match l, h, h1, h3 with
  | [a], h, _, _ =>
    have := h.2 a (by simp)
    exact decide_eq_true (by omega)
  | [a, b], h, _, _ =>
    have e := h.1
    have := h.2 b (by simp)
    simp at e
    simp only [okB, Bool.and_eq_true, decide_eq_true_eq]
    omega
  | [a, b, c], h, _, _ =>
    have e := h.1
    have := h.2 c (by simp)
    simp at e
    simp only [okB, Bool.and_eq_true, decide_eq_true_eq]
    omega
  | _ :: _ :: _ :: _ :: _, _, _, h3 => simp at h3
theorem fs1_spec {α : Type} {f : Nat → Option α} {v : α} : ∀ {d k : Nat}, fs1 f d k = some v → ∃ i, k ≤ i ∧ i < k + d ∧ f i = some v
  | 0, k, h => by rw [fs1_0] at h; exact absurd h (by simp)
  | d + 1, k, h => by
    cases hf : f k with
    | some w => rw [fs1_s hf] at h; exact ⟨k, Nat.le_refl _, by omega, by rw [hf, h]⟩
    | none =>
      rw [fs1_n hf] at h
      obtain ⟨i, h1, h2, h3⟩ := fs1_spec (d := d) (k := k + 1) h
      exact ⟨i, by omega, by omega, h3⟩
theorem find1_ok {T : List Nat → Bool} : ∀ {m : Nat} {l : List Nat} {k : Nat} {l' : List Nat}, asc l k → k ≤ 27 → 1 ≤ l.length + m → l.length + m ≤ 3 → find1 T m l k = some l' → okB l' = true ∧ T l' = true
  | 0, l, k, l', h, hk, h1, h3, e => by
    unfold find1 at e
    by_cases ht : T l = true
    · rw [if_pos ht] at e
      rw [← Option.some.inj e]
      exact ⟨asc_ok h hk (by omega) (by omega), ht⟩
    · rw [if_neg ht] at e
      exact absurd e (by simp)
  | m + 1, l, k, l', h, hk, h1, h3, e => by
    unfold find1 at e
    obtain ⟨c, c1, c2, c3⟩ := fs1_spec e
    exact find1_ok (m := m) (asc_app h c1) (by omega) (by rw [List.length_append, List.length_singleton]; omega) (by rw [List.length_append, List.length_singleton]; omega) c3
def cres (Q : Option (List Nat)) (ct : Int32) (bd : Nat → Int32) (gp rc : Int32) (gi : Nat → Int32) (o : Option (List Nat)) : Option (Int32 × Int32 × (Nat → Int32) × Int32 × Int32 × (Nat → Int32)) := match o with
  | none => some (nI 0, ct, bd, gp, rc, gi)
  | some l => some (nI 1, (becm Q l bd).1, (becm Q l bd).2, gp, rc, gi)
section LB
variable {pl mi : Int32} {mk0 fa : Nat → Int32} {a b : Nat} {fc : Nat → Int64}
theorem lb_n (hM : RM pl mi mk0) (hfa : ∀ r, r < 2 → ∀ p, p < 16 → fa (16 * r + p) = bi ((if r = 0 then a else b).testBit p)) (hfc : ∀ c, c < 18 → ∀ t, t < 64 → bl (fc c) t = fLit a b c t) {Q : Option (List Nat)} (k1 : ∀ l ∈ Q, okB l = true) (ct : Int32) (bd : Nat → Int32) : ∀ m n, m < n → ∀ l k, asc l k → k ≤ 27 → 1 ≤ l.length + m → l.length + m ≤ 3 → ∀ (gp rc : Int32) (gi : Nat → Int32), ∃ (gp' rc' : Int32) (gi' : Nat → Int32), m_H_learnBody pl mi fc n ct bd gp rc gi (bo Q) (mk l) (nI k) (nI m) = cres Q ct bd gp' rc' gi' (find1 (tst pl mi fc Q) m l k) := by
  intro m
  induction m with
  | zero =>
    intro n hn l k h hk h1 h3 gp rc gi
    obtain ⟨n, rfl⟩ : ∃ n', n = n' + 1 := ⟨n - 1, by omega⟩
    obtain ⟨gp', rc', gi', e⟩ := tk_n hM hfa hfc k1 (asc_ok h hk (by omega) (by omega)) ct gp rc bd gi
    refine ⟨gp', rc', gi', ?_⟩
    unfold m_H_learnBody m_H_learnBody_b find1
    rw [if_neg (by decide), e]
    by_cases ht : tst pl mi fc Q l = true
    · rw [if_pos ht, if_pos ht, bs, if_pos (show isZ (nI 1) = true by decide)]
      rfl
    · rw [if_neg ht, if_neg ht, bs, if_pos (show isZ (nI 0) = true by decide)]
      rfl
  | succ m ih =>
    intro n hn l k h hk h1 h3 gp rc gi
    obtain ⟨n, rfl⟩ : ∃ n', n = n' + 1 := ⟨n - 1, by omega⟩
    have inner : ∀ d k', k' + d = 27 → k ≤ k' → ∀ n2, d < n2 → ∀ (gp rc : Int32) (gi : Nat → Int32), ∃ (gp' rc' : Int32) (gi' : Nat → Int32), m_H_learnBody_15 pl mi fc (m_H_learnBody pl mi fc n) n2 ct bd gp rc gi (bo Q) (mk l) (nI (m + 1)) (nI k') = cres Q ct bd gp' rc' gi' (fs1 (fun c => find1 (tst pl mi fc Q) m (l ++ [c]) (c + 1)) d k') := by
      intro d
      induction d with
      | zero =>
        intro k' hk' hkk n2 hn2 gp rc gi
        obtain ⟨n2, rfl⟩ : ∃ n', n2 = n' + 1 := ⟨n2 - 1, by omega⟩
        refine ⟨gp, rc, gi, ?_⟩
        conv => lhs; unfold m_H_learnBody_15
        rw [if_pos (by rw [ni_le (by decide) (by omega)]; omega), fs1_0]
        rfl
      | succ d ihd =>
        intro k' hk' hkk n2 hn2 gp rc gi
        obtain ⟨n2, rfl⟩ : ∃ n', n2 = n' + 1 := ⟨n2 - 1, by omega⟩
        obtain ⟨gp1, rc1, gi1, e1⟩ := ih n (by omega) (l ++ [k']) (k' + 1) (asc_app h hkk) (by omega) (by rw [List.length_append, List.length_singleton]; omega) (by rw [List.length_append, List.length_singleton]; omega) gp rc gi
        rw [mk_app] at e1
        cases hf : find1 (tst pl mi fc Q) m (l ++ [k']) (k' + 1) with
        | none =>
          obtain ⟨gp2, rc2, gi2, e2⟩ := ihd (k' + 1) (by omega) (by omega) n2 (by omega) gp1 rc1 gi1
          refine ⟨gp2, rc2, gi2, ?_⟩
          conv => lhs; unfold m_H_learnBody_15
          rw [if_neg (by rw [ni_le (by decide) (by omega)]; omega), nI_add, pk_sub (by omega), show m + 1 - 1 = m by omega, e1, hf, fs1_n (f := fun c => find1 (tst pl mi fc Q) m (l ++ [c]) (c + 1)) hf]
          unfold cres
          rw [bs]
          dsimp only
          rw [if_pos rfl]
          exact e2
        | some l' =>
          refine ⟨gp1, rc1, gi1, ?_⟩
          conv => lhs; unfold m_H_learnBody_15
          rw [if_neg (by rw [ni_le (by decide) (by omega)]; omega), nI_add, pk_sub (by omega), show m + 1 - 1 = m by omega, e1, hf, fs1_s (f := fun c => find1 (tst pl mi fc Q) m (l ++ [c]) (c + 1)) hf]
          unfold cres
          rw [bs]
          dsimp only
          rw [if_neg n10]
    obtain ⟨gp', rc', gi', e⟩ := inner (27 - k) k (by omega) (Nat.le_refl _) 40 (by omega) gp rc gi
    refine ⟨gp', rc', gi', ?_⟩
    conv => lhs; unfold m_H_learnBody
    unfold m_H_learnBody_b
    rw [if_pos (by rw [ni_lt (by decide) (by omega)]; omega), e]
    rfl
def hd (p : Nat) : Bool := hasX [p] && hasY [p]
def find2 (pl mi : Int32) (fc : Nat → Int64) (s p : Nat) : Option (Option (List Nat) × List Nat) := if hd p = true then (find1 (tst pl mi fc (some [p])) (s - 1) [] (if s = 2 then p + 1 else 0)).map (fun l => (some [p], l)) else none
def cres2 (ct : Int32) (bd : Nat → Int32) (gp rc : Int32) (gi : Nat → Int32) (o : Option (Option (List Nat) × List Nat)) : Option (Int32 × Int32 × (Nat → Int32) × Int32 × Int32 × (Nat → Int32)) := match o with
  | none => some (nI 0, ct, bd, gp, rc, gi)
  | some v => some (nI 1, (becm v.1 v.2 bd).1, (becm v.1 v.2 bd).2, gp, rc, gi)
theorem lt_n (hM : RM pl mi mk0) (hfa : ∀ r, r < 2 → ∀ p, p < 16 → fa (16 * r + p) = bi ((if r = 0 then a else b).testBit p)) (hfc : ∀ c, c < 18 → ∀ t, t < 64 → bl (fc c) t = fLit a b c t) (ct : Int32) (bd : Nat → Int32) {s : Nat} (hs : s = 2 ∨ s = 3) : ∀ d k, k + d = 27 → ∀ n, d < n → ∀ (gp rc : Int32) (gi : Nat → Int32), ∃ (gp' rc' : Int32) (gi' : Nat → Int32), m_H_learnTwoClauses_2 pl mi fc n ct bd gp rc gi (nI s) (nI k) = cres2 ct bd gp' rc' gi' (fs1 (find2 pl mi fc s) d k) := by
  intro d
  induction d with
  | zero =>
    intro k hk n hn gp rc gi
    obtain ⟨n, rfl⟩ : ∃ n', n = n' + 1 := ⟨n - 1, by omega⟩
    refine ⟨gp, rc, gi, ?_⟩
    conv => lhs; unfold m_H_learnTwoClauses_2
    rw [if_pos (by rw [ni_le (by decide) (by omega)]; omega), fs1_0]
    rfl
  | succ d ih =>
    intro k hk n hn gp rc gi
    obtain ⟨n, rfl⟩ : ∃ n', n = n' + 1 := ⟨n - 1, by omega⟩
    have hok : okB [k] = true := decide_eq_true (by omega)
    have hh := cl_head [k] hok
    rw [mk1] at hh
    have step : ∀ x, m_H_learnTwoClauses_2 pl mi fc (n + 1) ct bd gp rc gi (nI s) (nI k) = x ↔ m_H_learnTwoClauses_20 pl mi fc (m_H_learnTwoClauses_2 pl mi fc n) ct bd gp rc gi (nI s) (nI k) (nI (if s = 2 then k + 1 else 0)) = x := by
      intro x
      conv => lhs; lhs; unfold m_H_learnTwoClauses_2
      rw [if_neg (by rw [ni_le (by decide) (by omega)]; omega)]
      rcases hs with rfl | rfl
      · rw [if_pos rfl, if_pos rfl, nI_add]
      · rw [if_neg (by decide), if_neg (by decide)]
    cases hd2 : hd k
    · obtain ⟨gp2, rc2, gi2, e2⟩ := ih (k + 1) (by omega) n (by omega) gp rc gi
      refine ⟨gp2, rc2, gi2, ?_⟩
      rw [step]
      have hf : find2 pl mi fc s k = none := by unfold find2; rw [hd2, if_neg (by decide)]
      unfold m_H_learnTwoClauses_20 m_H_learnTwoClauses_47
      rw [hh, bs, fs1_n hf]
      unfold hd at hd2
      rw [hd2]
      dsimp only
      rw [if_pos (by decide), nI_add]
      exact e2
    · obtain ⟨gp1, rc1, gi1, e1⟩ := lb_n hM hfa hfc (Q := some [k]) (fun l h => by cases h; exact hok) ct bd (s - 1) 5 (by omega) [] (if s = 2 then k + 1 else 0) (asc_nil _) (by split <;> omega) (by simp; omega) (by simp; omega) gp rc gi
      rw [show bo (some [k]) = bit k from mk1 k, show mk [] = nI 0 from rfl] at e1
      cases hf : find1 (tst pl mi fc (some [k])) (s - 1) [] (if s = 2 then k + 1 else 0) with
      | none =>
        obtain ⟨gp2, rc2, gi2, e2⟩ := ih (k + 1) (by omega) n (by omega) gp1 rc1 gi1
        refine ⟨gp2, rc2, gi2, ?_⟩
        rw [step]
        have hf2 : find2 pl mi fc s k = none := by unfold find2; rw [hd2, if_pos rfl, hf]; rfl
        unfold m_H_learnTwoClauses_20 m_H_learnTwoClauses_47
        rw [hh, bs, fs1_n hf2]
        unfold hd at hd2
        rw [hd2]
        dsimp only
        rw [if_neg (by decide), pk_sub (by omega), e1, hf]
        unfold cres
        rw [bs]
        dsimp only
        rw [if_pos rfl, nI_add]
        exact e2
      | some l' =>
        refine ⟨gp1, rc1, gi1, ?_⟩
        rw [step]
        have hf2 : find2 pl mi fc s k = some (some [k], l') := by unfold find2; rw [hd2, if_pos rfl, hf]; rfl
        unfold m_H_learnTwoClauses_20 m_H_learnTwoClauses_47
        rw [hh, bs, fs1_s hf2]
        unfold hd at hd2
        rw [hd2]
        dsimp only
        rw [if_neg (by decide), pk_sub (by omega), e1, hf]
        unfold cres
        rw [bs]
        dsimp only
        rw [if_neg n10]
        rfl
end LB
end
section
def vrs (c : Nat) : Int32 := bit (c / 3 % 3) ||| bit (c % 3)
theorem var_n : ∀ c, c < 27 → m_M_variables (nI c) = some (vrs c, ()) := by decide +kernel
theorem vrs_01 : ∀ c, c < 27 → bt (vrs c) 0 = (decide (c / 3 % 3 = 0) || decide (c % 3 = 0)) ∧ bt (vrs c) 1 = (decide (c / 3 % 3 = 1) || decide (c % 3 = 1)) := by decide +kernel
theorem b_3 : ∀ i, i < 32 → bt (nI 3) i = decide (i < 2) := by decide +kernel
theorem and3 (x : Int32) : (x &&& nI 3 = nI 3) ↔ bt x 0 = true ∧ bt x 1 = true := by
  constructor
  · intro h
    have h0 := congrArg (fun z => bt z 0) h
    have h1 := congrArg (fun z => bt z 1) h
    simp only [b_and, b_3 0 (by decide), b_3 1 (by decide)] at h0 h1
    simp at h0 h1
    exact ⟨h0, h1⟩
  · rintro ⟨h0, h1⟩
    refine b_ext (fun i hi => ?_)
    rw [b_and, b_3 i hi]
    by_cases h : i < 2
    · rcases (show i = 0 ∨ i = 1 by omega) with rfl | rfl
      · rw [h0]; rfl
      · rw [h1]; rfl
    · rw [decide_eq_false h, Bool.and_false]
def ol (l : List Nat) (i : Nat) : Int32 := if i < l.length then nI (l.getD i 0) else (-1 : Int32)
theorem z_m1 : ¬ nI 0 ≤ (-1 : Int32) := by decide
theorem set_n (mn cs : Nat → Int32) {j : Nat} (hj : j < 2) {l : List Nat} (hl : okB l = true) : ∃ mn' cs' : Nat → Int32, m_M_set mn cs (nI j) (ol l 0) (ol l 1) (ol l 2) = some (bi (hasX l && hasY l), mn', cs') ∧ mn' j = nI l.length ∧ (∀ i, ¬ i = j → mn' i = mn i) ∧ (∀ k, k < l.length → cs' (3 * j + k) = nI (l.getD k 0)) ∧ ∀ i, (i < 3 * j ∨ 3 * j + 3 ≤ i) → cs' i = cs i := by
  have ho : ∀ {c : Nat}, c < 27 → nI 0 ≤ nI c := fun {c} h => by rw [ni_le (by decide) (by omega)]; omega
  have e87 : ∀ (mn' cs' : Nat → Int32) (x y : Int32), (bt (y ||| x) 0 = hasX l) → (bt (y ||| x) 1 = hasY l) → m_M_set_87 mn' cs' x y = some (bi (hasX l && hasY l), mn', cs') := by
    intro mn' cs' x y h0 h1
    unfold m_M_set_87
    cases hX : hasX l
    · rw [if_neg (by rw [and3, h0, hX]; simp)]; rfl
    · cases hY : hasY l
      · rw [if_neg (by rw [and3, h1, hY]; simp)]; rfl
      · rw [if_pos (by rw [and3, h0, h1, hX, hY]; simp)]; rfl
  have i0 : inR (nI j) 2 = true := by rw [inR_n (by omega)]; exact decide_eq_true hj
  have i1 : inR (nI (3 * j)) 6 = true := by rw [inR_n (by omega)]; exact decide_eq_true (by omega)
  have i2 : inR (nI (3 * j + 1)) 6 = true := by rw [inR_n (by omega)]; exact decide_eq_true (by omega)
  have i3 : inR (nI (3 * j + 2)) 6 = true := by rw [inR_n (by omega)]; exact decide_eq_true (by omega)
  have fin : ∀ (x y z : Int32), (∀ k, k < l.length → (if k = 0 then x else if k = 1 then y else z) = nI (l.getD k 0)) → ((upd mn j (nI l.length)) j = nI l.length) ∧ (∀ i, ¬ i = j → (upd mn j (nI l.length)) i = mn i) ∧ (∀ k, k < l.length → (upd (upd (upd cs (3 * j) x) (3 * j + 1) y) (3 * j + 2) z) (3 * j + k) = nI (l.getD k 0)) ∧ ∀ i, (i < 3 * j ∨ 3 * j + 3 ≤ i) → (upd (upd (upd cs (3 * j) x) (3 * j + 1) y) (3 * j + 2) z) i = cs i := by
    intro x y z h
    have hL := (cl_len l hl).2
    refine ⟨pk_us, fun i hi => pk_un hi, fun k hk => ?_, fun i hi => ?_⟩
    · rw [← h k hk]
      rcases (show k = 0 ∨ k = 1 ∨ k = 2 by omega) with rfl | rfl | rfl
      · rw [pk_un (by omega), pk_un (by omega), Nat.add_zero, pk_us]; rfl
      · rw [pk_un (by omega), pk_us]; rfl
      · rw [pk_us]; rfl
    · rw [pk_un (by omega), pk_un (by omega), pk_un (by omega)]
  unfold m_M_set m_M_set_23 m_M_set_72
  rw [pk_mul 3 j, nI_add, nI_add, i0, i1, i2, i3, nI_clamp (by omega), nI_clamp (by omega), nI_clamp (by omega), nI_clamp (by omega)]
  simp only [if_true]
  match l, hl with
  | [p], hl =>
    have hp : p < 27 := of_decide_eq_true hl
    refine ⟨_, _, ?_, fin (nI p) (-1) (-1) (fun k hk => ?_)⟩
    · rw [show ol [p] 0 = nI p from rfl, show ol [p] 1 = (-1 : Int32) from rfl, show ol [p] 2 = (-1 : Int32) from rfl, if_neg z_m1, var_n p hp, bs, if_neg z_m1, if_neg z_m1]
      refine e87 _ _ _ _ ?_ ?_
      · rw [b_or, b_or, b_n0, (vrs_01 p hp).1]; simp [hasX]
      · rw [b_or, b_or, b_n0, (vrs_01 p hp).2]; simp [hasY]
    · have : k = 0 := by simpa using hk
      subst this
      rfl
  | [p, q], hl =>
    simp only [okB, Bool.and_eq_true, decide_eq_true_eq] at hl
    have hq : q < 27 := hl.2
    have hp : p < 27 := by omega
    refine ⟨_, _, ?_, fin (nI p) (nI q) (-1) (fun k hk => ?_)⟩
    · rw [show ol [p, q] 0 = nI p from rfl, show ol [p, q] 1 = nI q from rfl, show ol [p, q] 2 = (-1 : Int32) from rfl, if_pos (ho hq), if_neg z_m1, var_n p hp, bs, if_pos (ho hq), var_n q hq, bs, if_neg z_m1]
      refine e87 _ _ _ _ ?_ ?_
      · rw [b_or, b_or, b_n0, (vrs_01 p hp).1, (vrs_01 q hq).1]; simp [hasX]
      · rw [b_or, b_or, b_n0, (vrs_01 p hp).2, (vrs_01 q hq).2]; simp [hasY]
    · have : k < 2 := by simpa using hk
      rcases (show k = 0 ∨ k = 1 by omega) with rfl | rfl <;> rfl
  | [p, q, r], hl =>
    simp only [okB, Bool.and_eq_true, decide_eq_true_eq] at hl
    have hr : r < 27 := hl.2
    have hq : q < 27 := by omega
    have hp : p < 27 := by omega
    refine ⟨_, _, ?_, fin (nI p) (nI q) (nI r) (fun k hk => ?_)⟩
    · rw [show ol [p, q, r] 0 = nI p from rfl, show ol [p, q, r] 1 = nI q from rfl, show ol [p, q, r] 2 = nI r from rfl, if_pos (ho hq), if_pos (ho hr), var_n p hp, bs, if_pos (ho hq), var_n q hq, bs, if_pos (ho hr), var_n r hr, bs]
      refine e87 _ _ _ _ ?_ ?_
      · rw [b_or, b_or, (vrs_01 p hp).1, (vrs_01 q hq).1, (vrs_01 r hr).1]; simp [hasX, Bool.or_assoc]
      · rw [b_or, b_or, (vrs_01 p hp).2, (vrs_01 q hq).2, (vrs_01 r hr).2]; simp [hasY, Bool.or_assoc]
    · have : k < 3 := by simpa using hk
      rcases (show k = 0 ∨ k = 1 ∨ k = 2 by omega) with rfl | rfl | rfl <;> rfl
end
section
def cand (s p q r : Nat) : List Nat := if s = 1 then [p] else if s = 2 then [p, q] else [p, q, r]
def candT (T : List Nat → Bool) (s p q r : Nat) : Option (List Nat) := if T (cand s p q r) = true then some (cand s p q r) else none
def r0 (s q : Nat) : Nat := if s ≤ 2 then 26 else q + 1
def q0 (s p : Nat) : Nat := if s ≤ 1 then 26 else p + 1
def rowR (T : List Nat → Bool) (s p q : Nat) : Option (List Nat) := fs1 (candT T s p q) (27 - r0 s q) (r0 s q)
def rowQ (T : List Nat → Bool) (s p : Nat) : Option (List Nat) := fs1 (rowR T s p) (27 - q0 s p) (q0 s p)
abbrev RR : Type := Int32 × Int32 × Int32 × (Nat → Int32) × (Nat → Int32) × (Nat → Int32) × (Nat → Int32)
def rres {β : Type} (ct : Int32) (miss : Option RR) (la : Int32) (mn cs ro fr : Nat → Int32) (o : Option β) : Option RR := match o with
  | none => miss
  | some _ => some (nI 1, ct, la, mn, cs, ro, fr)
theorem cand_ok {s p q r : Nat} (hs : s = 1 ∨ s = 2 ∨ s = 3) (hp : p < 27) (hq : 1 < s → p < q ∧ q < 27) (hr : 2 < s → q < r ∧ r < 27) : okB (cand s p q r) = true := by
  unfold cand
  rcases hs with rfl | rfl | rfl
  · exact decide_eq_true hp
  · have := hq (by decide)
    rw [if_neg (by decide), if_pos rfl]
    simp only [okB, Bool.and_eq_true, decide_eq_true_eq]
    omega
  · have := hq (by decide)
    have := hr (by decide)
    rw [if_neg (by decide), if_neg (by decide)]
    simp only [okB, Bool.and_eq_true, decide_eq_true_eq]
    omega
theorem cand_ol {s p q r : Nat} (hs : s = 1 ∨ s = 2 ∨ s = 3) : ol (cand s p q r) 0 = nI p ∧ ol (cand s p q r) 1 = (if nI s ≤ nI 1 then (-1 : Int32) else nI q) ∧ ol (cand s p q r) 2 = (if nI s ≤ nI 2 then (-1 : Int32) else nI r) := by
  rcases hs with rfl | rfl | rfl
  · exact ⟨rfl, rfl, rfl⟩
  · exact ⟨rfl, rfl, rfl⟩
  · exact ⟨rfl, rfl, rfl⟩
section AL
variable {pl mi : Int32} {mk0 fa : Nat → Int32} {a b : Nat} {fc : Nat → Int64}
theorem al_r (hM : RM pl mi mk0) (hfa : ∀ r, r < 2 → ∀ p, p < 16 → fa (16 * r + p) = bi ((if r = 0 then a else b).testBit p)) (hfc : ∀ c, c < 18 → ∀ t, t < 64 → bl (fc c) t = fLit a b c t) {s p q : Nat} (hs : s = 1 ∨ s = 2 ∨ s = 3) (hp : p < 27) (hq : 1 < s → p < q ∧ q < 27) (K : Int32 → Int32 → (Nat → Int32) → (Nat → Int32) → (Nat → Int32) → (Nat → Int32) → Int32 → Int32 → Int32 → Option RR) : ∀ d r, r + d = 27 → (2 < s → q < r) → ∀ n, d < n → ∀ (la : Int32) (mn cs ro fr : Nat → Int32), ∃ (la' : Int32) (mn' cs' ro' fr' : Nat → Int32), m_M_alone_48 fa mk0 K n (nI 1) la mn cs ro fr (nI s) (nI p) (nI q) (nI r) = rres (nI 1) (K (nI 1) la' mn' cs' ro' fr' (nI s) (nI p) (nI q + nI 1)) la' mn' cs' ro' fr' (fs1 (candT (tst pl mi fc none) s p q) d r) ∧ ∀ l, fs1 (candT (tst pl mi fc none) s p q) d r = some l → rep [l] mn' cs' := by
  intro d
  induction d with
  | zero =>
    intro r hr hqr n hn la mn cs ro fr
    obtain ⟨n, rfl⟩ : ∃ n', n = n' + 1 := ⟨n - 1, by omega⟩
    refine ⟨la, mn, cs, ro, fr, ?_, fun l h => absurd h (by rw [fs1_0]; simp)⟩
    conv => lhs; unfold m_M_alone_48
    rw [if_pos (by rw [ni_le (by decide) (by omega)]; omega)]
    rfl
  | succ d ih =>
    intro r hr hqr n hn la mn cs ro fr
    obtain ⟨n, rfl⟩ : ∃ n', n = n' + 1 := ⟨n - 1, by omega⟩
    have hok := cand_ok (r := r) hs hp hq (fun h => ⟨hqr h, by omega⟩)
    obtain ⟨o0, o1, o2⟩ := cand_ol (p := p) (q := q) (r := r) hs
    obtain ⟨mn1, cs1, e1, f1, f2, f3, f4⟩ := set_n mn cs (show 0 < 2 by decide) hok
    have hrep : rep [cand s p q r] mn1 cs1 := by
      intro j hj
      have : j = 0 := by simpa using hj
      subst this
      exact ⟨f1, f3⟩
    have step : m_M_alone_48 fa mk0 K (n + 1) (nI 1) la mn cs ro fr (nI s) (nI p) (nI q) (nI r) = m_M_alone_79 fa mk0 (m_M_alone_48 fa mk0 K n) (nI 1) la mn cs ro fr (nI s) (nI p) (nI q) (nI r) (ol (cand s p q r) 2) (ol (cand s p q r) 1) (ol (cand s p q r) 0) (nI 0) := by
      conv => lhs; unfold m_M_alone_48
      unfold m_M_alone_68
      rw [if_neg (by rw [ni_le (by decide) (by omega)]; omega), o0, o1, o2]
      by_cases h1 : nI s ≤ nI 1
      · rw [if_pos h1, if_pos h1]
        by_cases h2 : nI s ≤ nI 2
        · rw [if_pos h2, if_pos h2]
        · rw [if_neg h2, if_neg h2]
      · rw [if_neg h1, if_neg h1]
        by_cases h2 : nI s ≤ nI 2
        · rw [if_pos h2, if_pos h2]
        · rw [if_neg h2, if_neg h2]
    rw [step]
    unfold m_M_alone_79 m_M_alone_98
    rw [e1, bs]
    dsimp only
    by_cases ht : tst pl mi fc none (cand s p q r) = true
    · have hc : candT (tst pl mi fc none) s p q r = some (cand s p q r) := by unfold candT; rw [if_pos ht]
      unfold tst at ht
      rw [Bool.and_eq_true] at ht
      obtain ⟨la1, ro1, fr1, e2⟩ := fit_r hM hfa hfc (Q1 := none) (Q2 := some (cand s p q r)) (fun l h => by simp at h) (fun l h => by cases h; exact hok) hrep la ro fr
      refine ⟨la1, mn1, cs1, ro1, fr1, ?_, fun l h => ?_⟩
      · rw [ht.1, bi_t, if_neg n10]
        have e3 : m_M_fits (nI 1) la fa mk0 mn1 cs1 ro fr = some (bi (phi pl mi fc (bo none) (bo (some (cand s p q r)))), la1, ro1, fr1) := e2
        rw [e3, bs]
        dsimp only
        rw [show bo (some (cand s p q r)) = mk (cand s p q r) from rfl, ht.2, bi_t, if_neg n10, fs1_s hc]
        rfl
      · rw [fs1_s hc] at h
        rw [← Option.some.inj h]
        exact hrep
    · have hc : candT (tst pl mi fc none) s p q r = none := by unfold candT; rw [if_neg ht]
      rw [fs1_n hc]
      have key : ∃ (la1 : Int32) (ro1 fr1 : Nat → Int32), (if bi (hasX (cand s p q r) && hasY (cand s p q r)) = nI 0 then m_M_alone_48 fa mk0 K n (nI 1) la mn1 cs1 ro fr (nI s) (nI p) (nI q) (nI r + nI 1) else (Option.bind (m_M_fits (nI 1) la fa mk0 mn1 cs1 ro fr) (fun v_90 => (if v_90.1 = (nI 0) then m_M_alone_48 fa mk0 K n (nI 1) v_90.2.1 mn1 cs1 v_90.2.2.1 v_90.2.2.2 (nI s) (nI p) (nI q) (nI r + nI 1) else some ((nI 1), (nI 1, v_90.2.1, mn1, cs1, v_90.2.2.1, v_90.2.2.2)))))) = m_M_alone_48 fa mk0 K n (nI 1) la1 mn1 cs1 ro1 fr1 (nI s) (nI p) (nI q) (nI (r + 1)) := by
        rw [nI_add]
        cases hh : (hasX (cand s p q r) && hasY (cand s p q r))
        · exact ⟨la, ro, fr, by rw [bi_f, if_pos rfl]⟩
        · obtain ⟨la1, ro1, fr1, e2⟩ := fit_r hM hfa hfc (Q1 := none) (Q2 := some (cand s p q r)) (fun l h => by simp at h) (fun l h => by cases h; exact hok) hrep la ro fr
          have e3 : m_M_fits (nI 1) la fa mk0 mn1 cs1 ro fr = some (bi (phi pl mi fc (bo none) (bo (some (cand s p q r)))), la1, ro1, fr1) := e2
          have hph : phi pl mi fc (bo none) (mk (cand s p q r)) = false := by
            unfold tst at ht
            rw [hh, Bool.true_and] at ht
            simpa using ht
          refine ⟨la1, ro1, fr1, ?_⟩
          rw [bi_t, if_neg n10, e3, bs]
          dsimp only
          rw [show bo (some (cand s p q r)) = mk (cand s p q r) from rfl, hph, bi_f, if_pos rfl]
      obtain ⟨la1, ro1, fr1, e2⟩ := key
      obtain ⟨la2, mn2, cs2, ro2, fr2, e3, h3⟩ := ih (r + 1) (by omega) (fun h => by have := hqr h; omega) n (by omega) la1 mn1 cs1 ro1 fr1
      exact ⟨la2, mn2, cs2, ro2, fr2, e2.trans e3, h3⟩
theorem al_q (hM : RM pl mi mk0) (hfa : ∀ r, r < 2 → ∀ p, p < 16 → fa (16 * r + p) = bi ((if r = 0 then a else b).testBit p)) (hfc : ∀ c, c < 18 → ∀ t, t < 64 → bl (fc c) t = fLit a b c t) {s p : Nat} (hs : s = 1 ∨ s = 2 ∨ s = 3) (hp : p < 27) (K : Int32 → Int32 → (Nat → Int32) → (Nat → Int32) → (Nat → Int32) → (Nat → Int32) → Int32 → Int32 → Option RR) : ∀ d q, q + d = 27 → (1 < s → p < q) → ∀ n, d < n → ∀ (la : Int32) (mn cs ro fr : Nat → Int32), ∃ (la' : Int32) (mn' cs' ro' fr' : Nat → Int32), m_M_alone_27 fa mk0 K n (nI 1) la mn cs ro fr (nI s) (nI p) (nI q) = rres (nI 1) (K (nI 1) la' mn' cs' ro' fr' (nI s) (nI p + nI 1)) la' mn' cs' ro' fr' (fs1 (rowR (tst pl mi fc none) s p) d q) ∧ ∀ l, fs1 (rowR (tst pl mi fc none) s p) d q = some l → rep [l] mn' cs' := by
  intro d
  induction d with
  | zero =>
    intro q hq hpq n hn la mn cs ro fr
    obtain ⟨n, rfl⟩ : ∃ n', n = n' + 1 := ⟨n - 1, by omega⟩
    refine ⟨la, mn, cs, ro, fr, ?_, fun l h => absurd h (by rw [fs1_0]; simp)⟩
    conv => lhs; unfold m_M_alone_27
    rw [if_pos (by rw [ni_le (by decide) (by omega)]; omega)]
    rfl
  | succ d ih =>
    intro q hq hpq n hn la mn cs ro fr
    obtain ⟨n, rfl⟩ : ∃ n', n = n' + 1 := ⟨n - 1, by omega⟩
    have hr0 : r0 s q ≤ 27 ∧ (2 < s → q < r0 s q) := by unfold r0; split <;> omega
    obtain ⟨la1, mn1, cs1, ro1, fr1, e1, h1⟩ := al_r hM hfa hfc hs hp (fun h => ⟨hpq h, by omega⟩) (m_M_alone_27 fa mk0 K n) (27 - r0 s q) (r0 s q) (by omega) hr0.2 40 (by omega) la mn cs ro fr
    have step : m_M_alone_27 fa mk0 K (n + 1) (nI 1) la mn cs ro fr (nI s) (nI p) (nI q) = m_M_alone_48 fa mk0 (m_M_alone_27 fa mk0 K n) 40 (nI 1) la mn cs ro fr (nI s) (nI p) (nI q) (nI (r0 s q)) := by
      conv => lhs; unfold m_M_alone_27
      unfold m_M_alone_46 r0
      rw [if_neg (by rw [ni_le (by decide) (by omega)]; omega)]
      by_cases h2 : s ≤ 2
      · rw [if_pos (by rw [ni_le (by omega) (by decide)]; exact h2), if_pos h2]
      · rw [if_neg (by rw [ni_le (by omega) (by decide)]; exact h2), if_neg h2, nI_add]
    rw [step, e1]
    cases hf : rowR (tst pl mi fc none) s p q with
    | none =>
      obtain ⟨la2, mn2, cs2, ro2, fr2, e2, h2⟩ := ih (q + 1) (by omega) (fun h => by have := hpq h; omega) n (by omega) la1 mn1 cs1 ro1 fr1
      refine ⟨la2, mn2, cs2, ro2, fr2, ?_, ?_⟩
      · rw [fs1_n hf]
        unfold rowR at hf
        rw [hf, ← e2, ← nI_add]
        rfl
      · rw [fs1_n hf]
        exact h2
    | some l =>
      refine ⟨la1, mn1, cs1, ro1, fr1, ?_, fun l' h => ?_⟩
      · rw [fs1_s hf]
        unfold rowR at hf
        rw [hf]
        rfl
      · rw [fs1_s hf] at h
        rw [← Option.some.inj h]
        exact h1 l hf
theorem al_p (hM : RM pl mi mk0) (hfa : ∀ r, r < 2 → ∀ p, p < 16 → fa (16 * r + p) = bi ((if r = 0 then a else b).testBit p)) (hfc : ∀ c, c < 18 → ∀ t, t < 64 → bl (fc c) t = fLit a b c t) {s : Nat} (hs : s = 1 ∨ s = 2 ∨ s = 3) : ∀ d p, p + d = 27 → ∀ n, d < n → ∀ (la : Int32) (mn cs ro fr : Nat → Int32), ∃ (la' : Int32) (mn' cs' ro' fr' : Nat → Int32), m_M_alone_7 fa mk0 n (nI 1) la mn cs ro fr (nI s) (nI p) = rres (nI 1) (some (nI 0, nI 1, la', mn', cs', ro', fr')) la' mn' cs' ro' fr' (fs1 (rowQ (tst pl mi fc none) s) d p) ∧ ∀ l, fs1 (rowQ (tst pl mi fc none) s) d p = some l → rep [l] mn' cs' := by
  intro d
  induction d with
  | zero =>
    intro p hp n hn la mn cs ro fr
    obtain ⟨n, rfl⟩ : ∃ n', n = n' + 1 := ⟨n - 1, by omega⟩
    refine ⟨la, mn, cs, ro, fr, ?_, fun l h => absurd h (by rw [fs1_0]; simp)⟩
    conv => lhs; unfold m_M_alone_7
    rw [if_pos (by rw [ni_le (by decide) (by omega)]; omega)]
    rfl
  | succ d ih =>
    intro p hp n hn la mn cs ro fr
    obtain ⟨n, rfl⟩ : ∃ n', n = n' + 1 := ⟨n - 1, by omega⟩
    have hq0 : q0 s p ≤ 27 ∧ (1 < s → p < q0 s p) := by unfold q0; split <;> omega
    obtain ⟨la1, mn1, cs1, ro1, fr1, e1, h1⟩ := al_q hM hfa hfc hs (show p < 27 by omega) (m_M_alone_7 fa mk0 n) (27 - q0 s p) (q0 s p) (by omega) hq0.2 40 (by omega) la mn cs ro fr
    have step : m_M_alone_7 fa mk0 (n + 1) (nI 1) la mn cs ro fr (nI s) (nI p) = m_M_alone_27 fa mk0 (m_M_alone_7 fa mk0 n) 40 (nI 1) la mn cs ro fr (nI s) (nI p) (nI (q0 s p)) := by
      conv => lhs; unfold m_M_alone_7
      unfold m_M_alone_26 q0
      rw [if_neg (by rw [ni_le (by decide) (by omega)]; omega)]
      by_cases h2 : s ≤ 1
      · rw [if_pos (by rw [ni_le (by omega) (by decide)]; exact h2), if_pos h2]
      · rw [if_neg (by rw [ni_le (by omega) (by decide)]; exact h2), if_neg h2, nI_add]
    rw [step, e1]
    cases hf : rowQ (tst pl mi fc none) s p with
    | none =>
      obtain ⟨la2, mn2, cs2, ro2, fr2, e2, h2⟩ := ih (p + 1) (by omega) n (by omega) la1 mn1 cs1 ro1 fr1
      refine ⟨la2, mn2, cs2, ro2, fr2, ?_, ?_⟩
      · rw [fs1_n hf]
        unfold rowQ at hf
        rw [hf, ← e2, ← nI_add]
        rfl
      · rw [fs1_n hf]
        exact h2
    | some l =>
      refine ⟨la1, mn1, cs1, ro1, fr1, ?_, fun l' h => ?_⟩
      · rw [fs1_s hf]
        unfold rowQ at hf
        rw [hf]
        rfl
      · rw [fs1_s hf] at h
        rw [← Option.some.inj h]
        exact h1 l hf
end AL
theorem fs1_1 {α : Type} (f : Nat → Option α) (k : Nat) : fs1 f 1 k = f k := by
  cases h : f k with
  | none => rw [fs1_n h, fs1_0]
  | some v => rw [fs1_s h]
/-- both searches for one clause -/
theorem find_eq (T : List Nat → Bool) {s : Nat} (hs : s = 1 ∨ s = 2 ∨ s = 3) : fs1 (rowQ T s) 27 0 = find1 T s [] 0 := by
  rcases hs with rfl | rfl | rfl
  · have e : rowQ T 1 = fun c => find1 T 0 ([] ++ [c]) (c + 1) := by
      funext p
      exact (fs1_1 _ _).trans (fs1_1 _ _)
    rw [e]
    rfl
  · have e : ∀ p, rowR T 2 p = fun c => find1 T 0 (([] ++ [p]) ++ [c]) (c + 1) := by
      intro p
      funext q
      exact fs1_1 _ _
    have e2 : rowQ T 2 = fun p => find1 T 1 ([] ++ [p]) (p + 1) := by
      funext p
      show fs1 (rowR T 2 p) (27 - (p + 1)) (p + 1) = _
      rw [e]
      rfl
    rw [e2]
    rfl
  · rfl
end
section
def cand2 (s q r : Nat) : List Nat := if s = 2 then [q] else [q, r]
def candP (T : Nat → List Nat → Bool) (s p q r : Nat) : Option (Option (List Nat) × List Nat) := if (hd p && T p (cand2 s q r)) = true then some (some [p], cand2 s q r) else none
def q2 (s p : Nat) : Nat := if s ≤ 2 then p + 1 else 0
def rowP (T : Nat → List Nat → Bool) (s p q : Nat) : Option (Option (List Nat) × List Nat) := fs1 (candP T s p q) (27 - r0 s q) (r0 s q)
def rowT (T : Nat → List Nat → Bool) (s p : Nat) : Option (Option (List Nat) × List Nat) := fs1 (rowP T s p) (27 - q2 s p) (q2 s p)
theorem cand2_ok {s q r : Nat} (hs : s = 2 ∨ s = 3) (hq : q < 27) (hr : 2 < s → q < r ∧ r < 27) : okB (cand2 s q r) = true := by
  unfold cand2
  rcases hs with rfl | rfl
  · exact decide_eq_true hq
  · have := hr (by decide)
    rw [if_neg (by decide)]
    simp only [okB, Bool.and_eq_true, decide_eq_true_eq]
    omega
theorem cand2_ol {s q r : Nat} (hs : s = 2 ∨ s = 3) : ol (cand2 s q r) 0 = nI q ∧ ol (cand2 s q r) 1 = (if nI s ≤ nI 2 then (-1 : Int32) else nI r) ∧ ol (cand2 s q r) 2 = (-1 : Int32) := by
  rcases hs with rfl | rfl
  · exact ⟨rfl, rfl, rfl⟩
  · exact ⟨rfl, rfl, rfl⟩
section PA
variable {pl mi : Int32} {mk0 fa : Nat → Int32} {a b : Nat} {fc : Nat → Int64}
theorem pa_r (hM : RM pl mi mk0) (hfa : ∀ r, r < 2 → ∀ p, p < 16 → fa (16 * r + p) = bi ((if r = 0 then a else b).testBit p)) (hfc : ∀ c, c < 18 → ∀ t, t < 64 → bl (fc c) t = fLit a b c t) {s p q : Nat} (hs : s = 2 ∨ s = 3) (hp : p < 27) (hq : q < 27) (K : Int32 → Int32 → (Nat → Int32) → (Nat → Int32) → (Nat → Int32) → (Nat → Int32) → Int32 → Int32 → Int32 → Option RR) : ∀ d r, r + d = 27 → (2 < s → q < r) → ∀ n, d < n → ∀ (la : Int32) (mn cs ro fr : Nat → Int32), ∃ (la' : Int32) (mn' cs' ro' fr' : Nat → Int32), m_M_pair_47 fa mk0 K n (nI 2) la mn cs ro fr (nI s) (nI p) (nI q) (nI r) = rres (nI 2) (K (nI 2) la' mn' cs' ro' fr' (nI s) (nI p) (nI q + nI 1)) la' mn' cs' ro' fr' (fs1 (candP (fun p => tst pl mi fc (some [p])) s p q) d r) ∧ ∀ v, fs1 (candP (fun p => tst pl mi fc (some [p])) s p q) d r = some v → rep (v.1.toList ++ [v.2]) mn' cs' := by
  intro d
  induction d with
  | zero =>
    intro r hr hqr n hn la mn cs ro fr
    obtain ⟨n, rfl⟩ : ∃ n', n = n' + 1 := ⟨n - 1, by omega⟩
    refine ⟨la, mn, cs, ro, fr, ?_, fun l h => absurd h (by rw [fs1_0]; simp)⟩
    conv => lhs; unfold m_M_pair_47
    rw [if_pos (by rw [ni_le (by decide) (by omega)]; omega)]
    rfl
  | succ d ih =>
    intro r hr hqr n hn la mn cs ro fr
    obtain ⟨n, rfl⟩ : ∃ n', n = n' + 1 := ⟨n - 1, by omega⟩
    have hok1 : okB [p] = true := decide_eq_true hp
    have hok := cand2_ok (r := r) hs hq (fun h => ⟨hqr h, by omega⟩)
    obtain ⟨o0, o1, o2⟩ := cand2_ol (q := q) (r := r) hs
    obtain ⟨mn0, cs0, e0, g1, g2, g3, g4⟩ := set_n mn cs (show 0 < 2 by decide) hok1
    obtain ⟨mn1, cs1, e1, f1, f2, f3, f4⟩ := set_n mn0 cs0 (show 1 < 2 by decide) hok
    have hrep : rep ((some [p]).toList ++ [cand2 s q r]) mn1 cs1 := by
      intro j hj
      have hj : j < 2 := by simpa using hj
      rcases (show j = 0 ∨ j = 1 by omega) with rfl | rfl
      · refine ⟨(f2 0 (by decide)).trans g1, fun k hk => ?_⟩
        have hk0 : k < 1 := by simpa using hk
        rw [f4 _ (Or.inl (by omega))]
        exact g3 k (by simpa using hk)
      · exact ⟨f1, f3⟩
    have step : m_M_pair_47 fa mk0 K (n + 1) (nI 2) la mn cs ro fr (nI s) (nI p) (nI q) (nI r) = m_M_pair_78 fa mk0 (m_M_pair_47 fa mk0 K n) (nI 2) la mn0 cs0 ro fr (nI s) (nI p) (nI q) (nI r) (bi (hd p)) (ol (cand2 s q r) 1) (ol (cand2 s q r) 0) (nI 1) := by
      rw [show ol [p] 0 = nI p from rfl, show ol [p] 1 = (-1 : Int32) from rfl, show ol [p] 2 = (-1 : Int32) from rfl] at e0
      conv => lhs; unfold m_M_pair_47
      rw [if_neg (by rw [ni_le (by decide) (by omega)]; omega), e0, bs, o0, o1]
      by_cases h2 : nI s ≤ nI 2
      · rw [if_pos h2, if_pos h2]; rfl
      · rw [if_neg h2, if_neg h2]; rfl
    rw [o2] at e1
    rw [step]
    unfold m_M_pair_78 m_M_pair_103
    rw [e1, bs]
    dsimp only
    by_cases ht : (hd p && tst pl mi fc (some [p]) (cand2 s q r)) = true
    · have hc : candP (fun p => tst pl mi fc (some [p])) s p q r = some (some [p], cand2 s q r) := by unfold candP; rw [if_pos ht]
      unfold tst at ht
      rw [Bool.and_eq_true, Bool.and_eq_true] at ht
      obtain ⟨la1, ro1, fr1, e2⟩ := fit_r hM hfa hfc (Q1 := some [p]) (Q2 := some (cand2 s q r)) (fun l h => by cases h; exact hok1) (fun l h => by cases h; exact hok) hrep la ro fr
      refine ⟨la1, mn1, cs1, ro1, fr1, ?_, fun v h => ?_⟩
      · rw [ht.1, bi_t, if_neg n10, ht.2.1, bi_t, if_neg n10]
        have e3 : m_M_fits (nI 2) la fa mk0 mn1 cs1 ro fr = some (bi (phi pl mi fc (bo (some [p])) (mk (cand2 s q r))), la1, ro1, fr1) := e2
        rw [e3, bs]
        dsimp only
        rw [ht.2.2, bi_t, if_neg n10, fs1_s hc]
        rfl
      · rw [fs1_s hc] at h
        rw [← Option.some.inj h]
        exact hrep
    · have hc : candP (fun p => tst pl mi fc (some [p])) s p q r = none := by unfold candP; rw [if_neg ht]
      rw [fs1_n hc]
      have key : ∃ (la1 : Int32) (ro1 fr1 : Nat → Int32), (if bi (hd p) = nI 0 then m_M_pair_47 fa mk0 K n (nI 2) la mn1 cs1 ro fr (nI s) (nI p) (nI q) (nI r + nI 1) else if bi (hasX (cand2 s q r) && hasY (cand2 s q r)) = nI 0 then m_M_pair_47 fa mk0 K n (nI 2) la mn1 cs1 ro fr (nI s) (nI p) (nI q) (nI r + nI 1) else (Option.bind (m_M_fits (nI 2) la fa mk0 mn1 cs1 ro fr) (fun v_90 => (if v_90.1 = (nI 0) then m_M_pair_47 fa mk0 K n (nI 2) v_90.2.1 mn1 cs1 v_90.2.2.1 v_90.2.2.2 (nI s) (nI p) (nI q) (nI r + nI 1) else some ((nI 1), (nI 2, v_90.2.1, mn1, cs1, v_90.2.2.1, v_90.2.2.2)))))) = m_M_pair_47 fa mk0 K n (nI 2) la1 mn1 cs1 ro1 fr1 (nI s) (nI p) (nI q) (nI (r + 1)) := by
        rw [nI_add]
        cases hh0 : hd p
        · exact ⟨la, ro, fr, by rw [bi_f, if_pos rfl]⟩
        cases hh : (hasX (cand2 s q r) && hasY (cand2 s q r))
        · exact ⟨la, ro, fr, by rw [bi_t, if_neg n10, bi_f, if_pos rfl]⟩
        · obtain ⟨la1, ro1, fr1, e2⟩ := fit_r hM hfa hfc (Q1 := some [p]) (Q2 := some (cand2 s q r)) (fun l h => by cases h; exact hok1) (fun l h => by cases h; exact hok) hrep la ro fr
          have e3 : m_M_fits (nI 2) la fa mk0 mn1 cs1 ro fr = some (bi (phi pl mi fc (bo (some [p])) (mk (cand2 s q r))), la1, ro1, fr1) := e2
          have hph : phi pl mi fc (bo (some [p])) (mk (cand2 s q r)) = false := by
            unfold tst at ht
            rw [hh0, hh, Bool.true_and, Bool.true_and] at ht
            simpa using ht
          refine ⟨la1, ro1, fr1, ?_⟩
          rw [bi_t, if_neg n10, if_neg n10, e3, bs]
          dsimp only
          rw [hph, bi_f, if_pos rfl]
      obtain ⟨la1, ro1, fr1, e2⟩ := key
      obtain ⟨la2, mn2, cs2, ro2, fr2, e3, h3⟩ := ih (r + 1) (by omega) (fun h => by have := hqr h; omega) n (by omega) la1 mn1 cs1 ro1 fr1
      exact ⟨la2, mn2, cs2, ro2, fr2, e2.trans e3, h3⟩
theorem pa_q (hM : RM pl mi mk0) (hfa : ∀ r, r < 2 → ∀ p, p < 16 → fa (16 * r + p) = bi ((if r = 0 then a else b).testBit p)) (hfc : ∀ c, c < 18 → ∀ t, t < 64 → bl (fc c) t = fLit a b c t) {s p : Nat} (hs : s = 2 ∨ s = 3) (hp : p < 27) (K : Int32 → Int32 → (Nat → Int32) → (Nat → Int32) → (Nat → Int32) → (Nat → Int32) → Int32 → Int32 → Option RR) : ∀ d q, q + d = 27 → ∀ n, d < n → ∀ (la : Int32) (mn cs ro fr : Nat → Int32), ∃ (la' : Int32) (mn' cs' ro' fr' : Nat → Int32), m_M_pair_26 fa mk0 K n (nI 2) la mn cs ro fr (nI s) (nI p) (nI q) = rres (nI 2) (K (nI 2) la' mn' cs' ro' fr' (nI s) (nI p + nI 1)) la' mn' cs' ro' fr' (fs1 (rowP (fun p => tst pl mi fc (some [p])) s p) d q) ∧ ∀ v, fs1 (rowP (fun p => tst pl mi fc (some [p])) s p) d q = some v → rep (v.1.toList ++ [v.2]) mn' cs' := by
  intro d
  induction d with
  | zero =>
    intro q hq n hn la mn cs ro fr
    obtain ⟨n, rfl⟩ : ∃ n', n = n' + 1 := ⟨n - 1, by omega⟩
    refine ⟨la, mn, cs, ro, fr, ?_, fun l h => absurd h (by rw [fs1_0]; simp)⟩
    conv => lhs; unfold m_M_pair_26
    rw [if_pos (by rw [ni_le (by decide) (by omega)]; omega)]
    rfl
  | succ d ih =>
    intro q hq n hn la mn cs ro fr
    obtain ⟨n, rfl⟩ : ∃ n', n = n' + 1 := ⟨n - 1, by omega⟩
    have hr0 : r0 s q ≤ 27 ∧ (2 < s → q < r0 s q) := by unfold r0; split <;> omega
    obtain ⟨la1, mn1, cs1, ro1, fr1, e1, h1⟩ := pa_r hM hfa hfc hs hp (show q < 27 by omega) (m_M_pair_26 fa mk0 K n) (27 - r0 s q) (r0 s q) (by omega) hr0.2 40 (by omega) la mn cs ro fr
    have step : m_M_pair_26 fa mk0 K (n + 1) (nI 2) la mn cs ro fr (nI s) (nI p) (nI q) = m_M_pair_47 fa mk0 (m_M_pair_26 fa mk0 K n) 40 (nI 2) la mn cs ro fr (nI s) (nI p) (nI q) (nI (r0 s q)) := by
      conv => lhs; unfold m_M_pair_26
      unfold m_M_pair_45 r0
      rw [if_neg (by rw [ni_le (by decide) (by omega)]; omega)]
      by_cases h2 : s ≤ 2
      · rw [if_pos (by rw [ni_le (by omega) (by decide)]; exact h2), if_pos h2]
      · rw [if_neg (by rw [ni_le (by omega) (by decide)]; exact h2), if_neg h2, nI_add]
    rw [step, e1]
    cases hf : rowP (fun p => tst pl mi fc (some [p])) s p q with
    | none =>
      obtain ⟨la2, mn2, cs2, ro2, fr2, e2, h2⟩ := ih (q + 1) (by omega) n (by omega) la1 mn1 cs1 ro1 fr1
      refine ⟨la2, mn2, cs2, ro2, fr2, ?_, ?_⟩
      · rw [fs1_n hf]
        unfold rowP at hf
        rw [hf, ← e2, ← nI_add]
        rfl
      · rw [fs1_n hf]
        exact h2
    | some l =>
      refine ⟨la1, mn1, cs1, ro1, fr1, ?_, fun l' h => ?_⟩
      · rw [fs1_s hf]
        unfold rowP at hf
        rw [hf]
        rfl
      · rw [fs1_s hf] at h
        rw [← Option.some.inj h]
        exact h1 l hf
theorem pa_p (hM : RM pl mi mk0) (hfa : ∀ r, r < 2 → ∀ p, p < 16 → fa (16 * r + p) = bi ((if r = 0 then a else b).testBit p)) (hfc : ∀ c, c < 18 → ∀ t, t < 64 → bl (fc c) t = fLit a b c t) {s : Nat} (hs : s = 2 ∨ s = 3) : ∀ d p, p + d = 27 → ∀ n, d < n → ∀ (la : Int32) (mn cs ro fr : Nat → Int32), ∃ (la' : Int32) (mn' cs' ro' fr' : Nat → Int32), m_M_pair_7 fa mk0 n (nI 2) la mn cs ro fr (nI s) (nI p) = rres (nI 2) (some (nI 0, nI 2, la', mn', cs', ro', fr')) la' mn' cs' ro' fr' (fs1 (rowT (fun p => tst pl mi fc (some [p])) s) d p) ∧ ∀ v, fs1 (rowT (fun p => tst pl mi fc (some [p])) s) d p = some v → rep (v.1.toList ++ [v.2]) mn' cs' := by
  intro d
  induction d with
  | zero =>
    intro p hp n hn la mn cs ro fr
    obtain ⟨n, rfl⟩ : ∃ n', n = n' + 1 := ⟨n - 1, by omega⟩
    refine ⟨la, mn, cs, ro, fr, ?_, fun l h => absurd h (by rw [fs1_0]; simp)⟩
    conv => lhs; unfold m_M_pair_7
    rw [if_pos (by rw [ni_le (by decide) (by omega)]; omega)]
    rfl
  | succ d ih =>
    intro p hp n hn la mn cs ro fr
    obtain ⟨n, rfl⟩ : ∃ n', n = n' + 1 := ⟨n - 1, by omega⟩
    have hq0 : q2 s p ≤ 27 := by unfold q2; split <;> omega
    obtain ⟨la1, mn1, cs1, ro1, fr1, e1, h1⟩ := pa_q hM hfa hfc hs (show p < 27 by omega) (m_M_pair_7 fa mk0 n) (27 - q2 s p) (q2 s p) (by omega) 40 (by omega) la mn cs ro fr
    have step : m_M_pair_7 fa mk0 (n + 1) (nI 2) la mn cs ro fr (nI s) (nI p) = m_M_pair_26 fa mk0 (m_M_pair_7 fa mk0 n) 40 (nI 2) la mn cs ro fr (nI s) (nI p) (nI (q2 s p)) := by
      conv => lhs; unfold m_M_pair_7
      unfold m_M_pair_25 q2
      rw [if_neg (by rw [ni_le (by decide) (by omega)]; omega)]
      by_cases h2 : s ≤ 2
      · rw [if_pos (by rw [ni_le (by omega) (by decide)]; exact h2), if_pos h2, nI_add]
      · rw [if_neg (by rw [ni_le (by omega) (by decide)]; exact h2), if_neg h2]
    rw [step, e1]
    cases hf : rowT (fun p => tst pl mi fc (some [p])) s p with
    | none =>
      obtain ⟨la2, mn2, cs2, ro2, fr2, e2, h2⟩ := ih (p + 1) (by omega) n (by omega) la1 mn1 cs1 ro1 fr1
      refine ⟨la2, mn2, cs2, ro2, fr2, ?_, ?_⟩
      · rw [fs1_n hf]
        unfold rowT at hf
        rw [hf, ← e2, ← nI_add]
        rfl
      · rw [fs1_n hf]
        exact h2
    | some l =>
      refine ⟨la1, mn1, cs1, ro1, fr1, ?_, fun l' h => ?_⟩
      · rw [fs1_s hf]
        unfold rowT at hf
        rw [hf]
        rfl
      · rw [fs1_s hf] at h
        rw [← Option.some.inj h]
        exact h1 l hf
end PA
theorem map_fs {α β : Type} (f : Nat → Option α) (g : α → β) : ∀ d k, (fs1 f d k).map g = fs1 (fun c => (f c).map g) d k
  | 0, k => rfl
  | d + 1, k => by
    cases h : f k with
    | none => rw [fs1_n h, fs1_n (f := fun c => (f c).map g) (by show (f k).map g = none; rw [h]; rfl), map_fs f g d (k + 1)]
    | some v => rw [fs1_s h, fs1_s (f := fun c => (f c).map g) (v := g v) (by show (f k).map g = _; rw [h]; rfl)]; rfl
theorem fs1_no {α : Type} {f : Nat → Option α} (h : ∀ k, f k = none) : ∀ d k, fs1 f d k = none
  | 0, k => rfl
  | d + 1, k => by rw [fs1_n (h k)]; exact fs1_no h d (k + 1)
/-- both searches for two clauses -/
theorem find2_eq (pl mi : Int32) (fc : Nat → Int64) {s : Nat} (hs : s = 2 ∨ s = 3) : rowT (fun p => tst pl mi fc (some [p])) s = find2 pl mi fc s := by
  funext p
  unfold rowT find2
  cases hh : hd p
  · have e : ∀ q r, candP (fun p => tst pl mi fc (some [p])) s p q r = none := by
      intro q r
      unfold candP
      rw [hh, Bool.false_and, if_neg (by decide)]
    rw [if_neg (by decide)]
    exact fs1_no (fun q => fs1_no (fun r => e q r) _ _) _ _
  · have e : ∀ q r, candP (fun p => tst pl mi fc (some [p])) s p q r = (if tst pl mi fc (some [p]) (cand2 s q r) = true then some (cand2 s q r) else none).map (fun l => (some [p], l)) := by
      intro q r
      unfold candP
      rw [hh, Bool.true_and]
      by_cases ht : tst pl mi fc (some [p]) (cand2 s q r) = true
      · rw [if_pos ht, if_pos ht]; rfl
      · rw [if_neg ht, if_neg ht]; rfl
    rw [if_pos rfl]
    rcases hs with rfl | rfl
    · have e2 : rowP (fun p => tst pl mi fc (some [p])) 2 p = fun q => (find1 (tst pl mi fc (some [p])) 0 ([] ++ [q]) (q + 1)).map (fun l => (some [p], l)) := by
        funext q
        exact (fs1_1 _ _).trans (e q 26)
      rw [e2, if_pos rfl]
      exact (map_fs _ _ _ _).symm
    · have e2 : rowP (fun p => tst pl mi fc (some [p])) 3 p = fun q => (find1 (tst pl mi fc (some [p])) 1 ([] ++ [q]) (q + 1)).map (fun l => (some [p], l)) := by
        funext q
        have e3 : candP (fun p => tst pl mi fc (some [p])) 3 p q = fun r => (find1 (tst pl mi fc (some [p])) 0 (([] ++ [q]) ++ [r]) (r + 1)).map (fun l => (some [p], l)) := by
          funext r
          exact e q r
        unfold rowP
        rw [e3]
        exact (map_fs _ _ _ _).symm
      rw [e2, if_neg (by decide)]
      exact (map_fs _ _ _ _).symm
end
section
theorem keep_n (ct oc : Int32) (mn cs om ocs : Nat → Int32) : ∃ om' oc' : Nat → Int32, m_M_keep ct oc mn cs om ocs = some (ct, om', oc') ∧ (∀ i, i < 2 → om' i = mn i) ∧ ∀ i, i < 6 → oc' i = cs i := by
  refine ⟨_, _, rfl, ?_, ?_⟩
  · intro i hi
    rcases (show i = 0 ∨ i = 1 by omega) with rfl | rfl <;> rfl
  · intro i hi
    rcases (show i = 0 ∨ i = 1 ∨ i = 2 ∨ i = 3 ∨ i = 4 ∨ i = 5 by omega) with rfl | rfl | rfl | rfl | rfl | rfl <;> rfl
theorem put_n (ct oc : Int32) (mn cs om ocs : Nat → Int32) : ∃ mn' cs' : Nat → Int32, m_M_putBack ct oc mn cs om ocs = some (oc, mn', cs') ∧ (∀ i, i < 2 → mn' i = om i) ∧ ∀ i, i < 6 → cs' i = ocs i := by
  refine ⟨_, _, rfl, ?_, ?_⟩
  · intro i hi
    rcases (show i = 0 ∨ i = 1 by omega) with rfl | rfl <;> rfl
  · intro i hi
    rcases (show i = 0 ∨ i = 1 ∨ i = 2 ∨ i = 3 ∨ i = 4 ∨ i = 5 by omega) with rfl | rfl | rfl | rfl | rfl | rfl <;> rfl
theorem RP_same {ct ct2 : Int32} {bd mn cs mn' cs' : Nat → Int32} (h : RP ct bd ct2 mn cs) (h1 : ∀ i, i < 2 → mn' i = mn i) (h2 : ∀ i, i < 6 → cs' i = cs i) : RP ct bd ct2 mn' cs' := by
  obtain ⟨P, hP, e1, e2, hc⟩ := h
  refine ⟨P, hP, e1, e2, fun j hj => ?_⟩
  obtain ⟨a1, a2, a3, a4, a5⟩ := hc j hj
  have hL := (cl_len _ a1).2
  exact ⟨a1, a2, a3, by rw [h1 j (by omega)]; exact a4, fun k hk => by rw [h2 _ (by omega)]; exact a5 k hk⟩
theorem RP1 {l : List Nat} {mn cs : Nat → Int32} (bd : Nat → Int32) (h1 : okB l = true) (h2 : (hasX l && hasY l) = true) (h3 : rep [l] mn cs) : RP (becm none l bd).1 (becm none l bd).2 (nI 1) mn cs := by
  refine ⟨[l], by simp, rfl, rfl, fun j hj => ?_⟩
  have : j = 0 := by simpa using hj
  subst this
  obtain ⟨a4, a5⟩ := h3 0 (by simp)
  refine ⟨h1, h2, ?_, a4, a5⟩
  show upd (upd bd 0 (mk l)) 1 (nI 0) 0 = mk l
  rw [pk_un (by decide), pk_us]
theorem RP2 {l0 l : List Nat} {mn cs : Nat → Int32} (bd : Nat → Int32) (h0 : okB l0 = true) (h0' : (hasX l0 && hasY l0) = true) (h1 : okB l = true) (h2 : (hasX l && hasY l) = true) (h3 : rep ((some l0).toList ++ [l]) mn cs) : RP (becm (some l0) l bd).1 (becm (some l0) l bd).2 (nI 2) mn cs := by
  refine ⟨[l0, l], by simp, rfl, rfl, fun j hj => ?_⟩
  have hj : j < 2 := by simpa using hj
  rcases (show j = 0 ∨ j = 1 by omega) with rfl | rfl
  · obtain ⟨a4, a5⟩ := h3 0 (by simp)
    refine ⟨h0, h0', ?_, a4, a5⟩
    show upd (upd bd 0 (mk l0)) 1 (mk l) 0 = mk l0
    rw [pk_un (by decide), pk_us]
  · obtain ⟨a4, a5⟩ := h3 1 (by simp)
    refine ⟨h1, h2, ?_, a4, a5⟩
    show upd (upd bd 0 (mk l0)) 1 (mk l) 1 = mk l
    rw [pk_us]
theorem find2_ok {pl mi : Int32} {fc : Nat → Int64} {s : Nat} (hs : s = 2 ∨ s = 3) {v : Option (List Nat) × List Nat} (h : fs1 (find2 pl mi fc s) 27 0 = some v) : ∃ p : Nat, p < 27 ∧ (hasX [p] && hasY [p]) = true ∧ v.1 = some [p] ∧ okB v.2 = true ∧ (hasX v.2 && hasY v.2) = true := by
  obtain ⟨p, -, hp, e⟩ := fs1_spec h
  unfold find2 at e
  cases hh : hd p
  · rw [hh, if_neg (by decide)] at e
    exact absurd e (by simp)
  · rw [hh, if_pos rfl] at e
    cases hf : find1 (tst pl mi fc (some [p])) (s - 1) [] (if s = 2 then p + 1 else 0) with
    | none => rw [hf] at e; exact absurd e (by simp)
    | some l =>
      rw [hf] at e
      have e2 := Option.some.inj e
      obtain ⟨k1, k2⟩ := find1_ok (asc_nil _) (by split <;> omega) (by simp; omega) (by simp; omega) hf
      unfold tst at k2
      rw [Bool.and_eq_true] at k2
      exact ⟨p, by omega, hh, by rw [← e2], by rw [← e2]; exact k1, by rw [← e2]; exact k2.1⟩
theorem learn_loop {pl mi ct ct2 : Int32} {fs fa mk0 bd mn cs om oc : Nat → Int32} {a b : Nat} {fc : Nat → Int64} (hR : RP ct bd ct2 mn cs) (hM : RM pl mi mk0) (hfa : ∀ r, r < 2 → ∀ p, p < 16 → fa (16 * r + p) = bi ((if r = 0 then a else b).testBit p)) (hfc : ∀ c, c < 18 → ∀ t, t < 64 → bl (fc c) t = fLit a b c t) (hom : ∀ i, i < 2 → om i = mn i) (hoc : ∀ i, i < 6 → oc i = cs i) : ∀ d s, s + d = 4 → 1 ≤ s → ∀ n1 n2, d < n1 → d < n2 → ∀ (gp rc : Int32) (gi : Nat → Int32) (cu la : Int32) (mn1 cs1 ro fr : Nat → Int32), ∃ (r ct' gp' rc' cu' la' : Int32) (bd' gi' mn' cs' ro' fr' : Nat → Int32), m_H_learn_21 pl mi fs n1 ct bd gp rc fc gi (nI s) = some (r, ct', bd', gp', rc', fc, gi') ∧ m_M_learn_6 fa mk0 n2 cu ct2 la mn1 cs1 om oc ro fr (nI s) = some (r, cu', ct2, la', mn', cs', om, oc, ro', fr') ∧ RP ct' bd' cu' mn' cs' := by
  intro d
  induction d with
  | zero =>
    intro s hs h1 n1 n2 hn1 hn2 gp rc gi cu la mn1 cs1 ro fr
    obtain ⟨n1, rfl⟩ : ∃ n', n1 = n' + 1 := ⟨n1 - 1, by omega⟩
    obtain ⟨n2, rfl⟩ : ∃ n', n2 = n' + 1 := ⟨n2 - 1, by omega⟩
    have hs4 : s = 4 := by omega
    subst hs4
    obtain ⟨mn', cs', e, q1, q2⟩ := put_n cu ct2 mn1 cs1 om oc
    refine ⟨nI 0, ct, gp, rc, ct2, la, bd, gi, mn', cs', ro, fr, ?_, ?_, RP_same hR (fun i hi => (q1 i hi).trans (hom i hi)) (fun i hi => (q2 i hi).trans (hoc i hi))⟩
    · conv => lhs; unfold m_H_learn_21
      rw [if_pos (by decide)]
    · conv => lhs; unfold m_M_learn_6
      rw [if_pos (by decide), e, bs]
  | succ d ih =>
    intro s hs h1 n1 n2 hn1 hn2 gp rc gi cu la mn1 cs1 ro fr
    obtain ⟨n1, rfl⟩ : ∃ n', n1 = n' + 1 := ⟨n1 - 1, by omega⟩
    obtain ⟨n2, rfl⟩ : ∃ n', n2 = n' + 1 := ⟨n2 - 1, by omega⟩
    have hs3 : s = 1 ∨ s = 2 ∨ s = 3 := by omega
    obtain ⟨gp1, rc1, gi1, e1⟩ := lb_n hM hfa hfc (Q := none) (fun l h => by simp at h) ct bd s 5 (by omega) [] 0 (asc_nil _) (by decide) (by simp; omega) (by simp; omega) gp rc gi
    rw [show bo none = nI 0 from rfl, show mk [] = nI 0 from rfl] at e1
    obtain ⟨la1, mn2, cs2, ro1, fr1, e2, p2⟩ := al_p hM hfa hfc hs3 27 0 (by omega) 40 (by omega) la mn1 cs1 ro fr
    rw [find_eq (tst pl mi fc none) hs3] at e2 p2
    have hH : ∀ x, m_H_learn_21 pl mi fs (n1 + 1) ct bd gp rc fc gi (nI s) = x ↔ (Option.bind (cres none ct bd gp1 rc1 gi1 (find1 (tst pl mi fc none) s [] 0)) (fun v_31 => (if v_31.1 = (nI 0) then (if nI s ≤ (nI 1) then m_H_learn_21 pl mi fs n1 v_31.2.1 v_31.2.2.1 v_31.2.2.2.1 v_31.2.2.2.2.1 fc v_31.2.2.2.2.2 (nI (s + 1)) else (Option.bind (m_H_learnTwoClauses pl mi v_31.2.1 v_31.2.2.1 v_31.2.2.2.1 v_31.2.2.2.2.1 fc v_31.2.2.2.2.2 (nI s)) (fun v_44 => (if v_44.1 = (nI 0) then m_H_learn_21 pl mi fs n1 v_44.2.1 v_44.2.2.1 v_44.2.2.2.1 v_44.2.2.2.2.1 fc v_44.2.2.2.2.2 (nI (s + 1)) else some (nI s, (v_44.2.1, v_44.2.2.1, v_44.2.2.2.1, v_44.2.2.2.2.1, fc, v_44.2.2.2.2.2)))))) else some (nI s, (v_31.2.1, v_31.2.2.1, v_31.2.2.2.1, v_31.2.2.2.2.1, fc, v_31.2.2.2.2.2))))) = x := by
      intro x
      conv => lhs; lhs; unfold m_H_learn_21
      unfold m_H_learn_52
      rw [if_neg (by rw [ni_lt (by decide) (by omega)]; omega), e1, nI_add]
    have hMM : ∀ x, m_M_learn_6 fa mk0 (n2 + 1) cu ct2 la mn1 cs1 om oc ro fr (nI s) = x ↔ (Option.bind (rres (nI 1) (some (nI 0, nI 1, la1, mn2, cs2, ro1, fr1)) la1 mn2 cs2 ro1 fr1 (find1 (tst pl mi fc none) s [] 0)) (fun v_13 => (if v_13.1 = (nI 0) then (if nI s ≤ (nI 1) then m_M_learn_6 fa mk0 n2 v_13.2.1 ct2 v_13.2.2.1 v_13.2.2.2.1 v_13.2.2.2.2.1 om oc v_13.2.2.2.2.2.1 v_13.2.2.2.2.2.2 (nI (s + 1)) else (Option.bind (m_M_pair v_13.2.1 v_13.2.2.1 fa mk0 v_13.2.2.2.1 v_13.2.2.2.2.1 v_13.2.2.2.2.2.1 v_13.2.2.2.2.2.2 (nI s)) (fun v_26 => (if v_26.1 = (nI 0) then m_M_learn_6 fa mk0 n2 v_26.2.1 ct2 v_26.2.2.1 v_26.2.2.2.1 v_26.2.2.2.2.1 om oc v_26.2.2.2.2.2.1 v_26.2.2.2.2.2.2 (nI (s + 1)) else some (nI s, (v_26.2.1, ct2, v_26.2.2.1, v_26.2.2.2.1, v_26.2.2.2.2.1, om, oc, v_26.2.2.2.2.2.1, v_26.2.2.2.2.2.2)))))) else some (nI s, (v_13.2.1, ct2, v_13.2.2.1, v_13.2.2.2.1, v_13.2.2.2.2.1, om, oc, v_13.2.2.2.2.2.1, v_13.2.2.2.2.2.2))))) = x := by
      intro x
      conv => lhs; lhs; unfold m_M_learn_6
      unfold m_M_learn_34
      have e3 : m_M_alone cu la fa mk0 mn1 cs1 ro fr (nI s) = rres (nI 1) (some (nI 0, nI 1, la1, mn2, cs2, ro1, fr1)) la1 mn2 cs2 ro1 fr1 (find1 (tst pl mi fc none) s [] 0) := by
        unfold m_M_alone
        exact e2
      rw [if_neg (by rw [ni_le (by decide) (by omega)]; omega), e3, nI_add]
    cases hf : find1 (tst pl mi fc none) s [] 0 with
    | some l =>
      obtain ⟨k1, k2⟩ := find1_ok (asc_nil _) (by decide) (by simp; omega) (by simp; omega) hf
      unfold tst at k2
      rw [Bool.and_eq_true] at k2
      refine ⟨nI s, (becm none l bd).1, gp1, rc1, nI 1, la1, (becm none l bd).2, gi1, mn2, cs2, ro1, fr1, ?_, ?_, RP1 bd k1 k2.1 (p2 l hf)⟩
      · rw [hH, hf]
        unfold cres
        rw [bs]
        dsimp only
        rw [if_neg n10]
      · rw [hMM, hf]
        unfold rres
        rw [bs]
        dsimp only
        rw [if_neg n10]
    | none =>
      by_cases hs1 : s = 1
      · have hle : nI s ≤ nI 1 := by rw [ni_le (by omega) (by decide)]; omega
        obtain ⟨r, ct', gp', rc', cu', la', bd', gi', mn', cs', ro', fr', c1, c2, c3⟩ := ih (s + 1) (by omega) (by omega) n1 n2 (by omega) (by omega) gp1 rc1 gi1 (nI 1) la1 mn2 cs2 ro1 fr1
        refine ⟨r, ct', gp', rc', cu', la', bd', gi', mn', cs', ro', fr', ?_, ?_, c3⟩
        · rw [hH, hf]
          unfold cres
          rw [bs]
          dsimp only
          rw [if_pos rfl, if_pos hle]
          exact c1
        · rw [hMM, hf]
          unfold rres
          rw [bs]
          dsimp only
          rw [if_pos rfl, if_pos hle]
          exact c2
      · have hle : ¬ nI s ≤ nI 1 := by rw [ni_le (by omega) (by decide)]; omega
        have hs2 : s = 2 ∨ s = 3 := by omega
        obtain ⟨gp2, rc2, gi2, e4⟩ := lt_n hM hfa hfc ct bd hs2 27 0 (by omega) 40 (by omega) gp1 rc1 gi1
        obtain ⟨la2, mn3, cs3, ro2, fr2, e5, p5⟩ := pa_p hM hfa hfc hs2 27 0 (by omega) 40 (by omega) la1 mn2 cs2 ro1 fr1
        rw [find2_eq pl mi fc hs2] at e5 p5
        have e6 : m_H_learnTwoClauses pl mi ct bd gp1 rc1 fc gi1 (nI s) = cres2 ct bd gp2 rc2 gi2 (fs1 (find2 pl mi fc s) 27 0) := by
          unfold m_H_learnTwoClauses
          exact e4
        have e7 : m_M_pair (nI 1) la1 fa mk0 mn2 cs2 ro1 fr1 (nI s) = rres (nI 2) (some (nI 0, nI 2, la2, mn3, cs3, ro2, fr2)) la2 mn3 cs3 ro2 fr2 (fs1 (find2 pl mi fc s) 27 0) := by
          unfold m_M_pair
          exact e5
        cases hg : fs1 (find2 pl mi fc s) 27 0 with
        | some v =>
          obtain ⟨p, hp, k1, k2, k3, k4⟩ := find2_ok hs2 hg
          have hrep := p5 v hg
          rw [k2] at hrep
          refine ⟨nI s, (becm v.1 v.2 bd).1, gp2, rc2, nI 2, la2, (becm v.1 v.2 bd).2, gi2, mn3, cs3, ro2, fr2, ?_, ?_, by rw [k2]; exact RP2 bd (decide_eq_true hp) k1 k3 k4 hrep⟩
          · rw [hH, hf]
            unfold cres
            rw [bs]
            dsimp only
            rw [if_pos rfl, if_neg hle, e6, hg]
            unfold cres2
            rw [bs]
            dsimp only
            rw [if_neg n10]
          · rw [hMM, hf]
            unfold rres
            rw [bs]
            dsimp only
            rw [if_pos rfl, if_neg hle, e7, hg]
            unfold rres
            rw [bs]
            dsimp only
            rw [if_neg n10]
        | none =>
          obtain ⟨r, ct', gp', rc', cu', la', bd', gi', mn', cs', ro', fr', c1, c2, c3⟩ := ih (s + 1) (by omega) (by omega) n1 n2 (by omega) (by omega) gp2 rc2 gi2 (nI 2) la2 mn3 cs3 ro2 fr2
          refine ⟨r, ct', gp', rc', cu', la', bd', gi', mn', cs', ro', fr', ?_, ?_, c3⟩
          · rw [hH, hf]
            unfold cres
            rw [bs]
            dsimp only
            rw [if_pos rfl, if_neg hle, e6, hg]
            unfold cres2
            rw [bs]
            dsimp only
            rw [if_pos rfl]
            exact c1
          · rw [hMM, hf]
            unfold rres
            rw [bs]
            dsimp only
            rw [if_pos rfl, if_neg hle, e7, hg]
            unfold rres
            rw [bs]
            dsimp only
            rw [if_pos rfl]
            exact c2
theorem s_learn {ct ct2 pl mi : Int32} {bd mn cs fs fa mk0 : Nat → Int32} (h : RP ct bd ct2 mn cs) (hF : RF fs fa) (hM : RM pl mi mk0) (gp rc la oc : Int32) (fc : Nat → Int64) (gi ro fr om ocs : Nat → Int32) : ∃ (r ct' gp' rc' cu' oc' la' : Int32) (bd' gi' mn' cs' om' ocs' ro' fr' : Nat → Int32) (fc' : Nat → Int64), m_H_learn pl mi fs ct bd gp rc fc gi = some (r, ct', bd', gp', rc', fc', gi') ∧ m_M_learn ct2 oc la fa mk0 mn cs om ocs ro fr = some (r, cu', oc', la', mn', cs', om', ocs', ro', fr') ∧ RP ct' bd' cu' mn' cs' := by
  obtain ⟨a, b, ha, hb, ea, eb, hfa⟩ := rf_ab hF
  obtain ⟨fc', ef, hfc⟩ := take_n ha hb fc
  obtain ⟨om', ocs', ek, q1, q2⟩ := keep_n ct2 oc mn cs om ocs
  obtain ⟨r, ct', gp', rc', cu', la', bd', gi', mn', cs', ro', fr', c1, c2, c3⟩ := learn_loop (fs := fs) h hM hfa hfc q1 q2 3 1 (by omega) (by omega) 40 40 (by omega) (by omega) gp rc gi ct2 la mn cs ro fr
  refine ⟨r, ct', gp', rc', cu', ct2, la', bd', gi', mn', cs', om', ocs', ro', fr', fc', ?_, ?_, c3⟩
  · unfold m_H_learn
    rw [if_pos (by decide), if_pos (by decide), show (nI 0).toNatClampNeg = 0 from rfl, show (nI 1).toNatClampNeg = 1 from rfl, ea, eb, ef, bs]
    exact c1
  · unfold m_M_learn
    rw [ek, bs]
    exact c2
end
section
def rl (c : Nat) : Nat := if c = 97 then 0 else if c = 98 then 1 else 2
def cdn (ch : Nat → Nat) (i : Nat) : Nat := 9 * rl (ch (8 + 7 * i)) + 3 * (ch (8 + 7 * i + 2) - 88) + (ch (8 + 7 * i + 4) - 88)
theorem kc_r0 : ∀ i, i < 3 → ∀ c, c < 95 → kB 116 (32 + c) (8 + 7 * i) = true → (decide (32 + c = 97) || decide (32 + c = 98) || decide (32 + c = 116)) = true := by decide +kernel
theorem kc_v0 : ∀ i, i < 3 → ∀ c, c < 95 → (kB 116 (32 + c) (8 + 7 * i + 2) = true ∨ kB 116 (32 + c) (8 + 7 * i + 4) = true) → 88 ≤ 32 + c ∧ 32 + c ≤ 90 := by decide +kernel
theorem kc_r {i c : Nat} (hi : i < 3) (hc : 32 ≤ c ∧ c ≤ 126) (h : kB 116 c (8 + 7 * i) = true) : c = 97 ∨ c = 98 ∨ c = 116 := by
  have := kc_r0 i hi (c - 32) (by omega) (by rw [show 32 + (c - 32) = c by omega]; exact h)
  rw [show 32 + (c - 32) = c by omega] at this
  simp only [Bool.or_eq_true, decide_eq_true_eq] at this
  omega
theorem kc_v {i c : Nat} (hi : i < 3) (hc : 32 ≤ c ∧ c ≤ 126) (h : kB 116 c (8 + 7 * i + 2) = true ∨ kB 116 c (8 + 7 * i + 4) = true) : 88 ≤ c ∧ c ≤ 90 := by
  have := kc_v0 i hi (c - 32) (by omega) (by rw [show 32 + (c - 32) = c by omega]; exact h)
  omega
def tyC (m : Nat) (ch : Nat → Nat) : Prop := ∀ i, i < m → (ch (8 + 7 * i) = 97 ∨ ch (8 + 7 * i) = 98 ∨ ch (8 + 7 * i) = 116) ∧ (88 ≤ ch (8 + 7 * i + 2) ∧ ch (8 + 7 * i + 2) ≤ 90) ∧ (88 ≤ ch (8 + 7 * i + 4) ∧ ch (8 + 7 * i + 4) ≤ 90)
theorem rl_lt (c : Nat) : rl c < 3 := by unfold rl; split <;> (try split) <;> omega
theorem cdn_lt {m : Nat} {ch : Nat → Nat} (h : tyC m ch) {i : Nat} (hi : i < m) : cdn ch i < 27 := by
  obtain ⟨-, h2, h3⟩ := h i hi
  have := rl_lt (ch (8 + 7 * i))
  unfold cdn
  omega
theorem ix_v : ∀ u, u < 3 → m_S_indexOf1 1 (nI (88 + u)) = some (nI u, ()) := by decide +kernel
theorem ix_rl {c : Nat} (h : c = 97 ∨ c = 98 ∨ c = 116) : m_S_indexOf1 0 (nI c) = some (nI (rl c), ()) ∧ m_M_relationOf (nI c) = some (nI (rl c), ()) := by
  rcases h with rfl | rfl | rfl <;> decide +kernel
theorem tb_step {m : Nat} {ty : Nat → Int32} {ch : Nat → Nat} (hm : m ≤ 3) (hty : ∀ j, j < 7 + 7 * m → ty j = nI (ch j) ∧ 32 ≤ ch j ∧ ch j ≤ 126) (h : tyC m ch) {i : Nat} (hi : i < m) (n : Nat) (z : Int32) : m_L_typedBody_5 (nI (7 + 7 * m)) ty (n + 1) z (nI (8 + 7 * i)) = m_L_typedBody_5 (nI (7 + 7 * m)) ty n (z ||| bit (cdn ch i)) (nI (8 + 7 * (i + 1))) := by
  obtain ⟨h1, h2, h3⟩ := h i hi
  obtain ⟨t1, b1⟩ := hty (8 + 7 * i) (by omega)
  obtain ⟨t2, b2⟩ := hty (8 + 7 * i + 2) (by omega)
  obtain ⟨t3, b3⟩ := hty (8 + 7 * i + 4) (by omega)
  have e2 := ix_v (ch (8 + 7 * i + 2) - 88) (by omega)
  have e3 := ix_v (ch (8 + 7 * i + 4) - 88) (by omega)
  rw [show 88 + (ch (8 + 7 * i + 2) - 88) = ch (8 + 7 * i + 2) by omega] at e2
  rw [show 88 + (ch (8 + 7 * i + 4) - 88) = ch (8 + 7 * i + 4) by omega] at e3
  conv => lhs; unfold m_L_typedBody_5
  rw [if_neg (by rw [ni_le (by omega) (by omega)]; omega), nI_add, nI_add, nI_add, at_n (by omega) (by omega) t1 b1, bs, if_pos (by decide), (ix_rl h1).1, bs, at_n (by omega) (by omega) t2 b2, bs, if_pos (by decide), e2, bs, at_n (by omega) (by omega) t3 b3, bs, if_pos (by decide), e3, bs]
  unfold m_H_codeOf
  rw [bs]
  dsimp only
  rw [pk_mul, pk_mul, nI_add, nI_add, show 8 + 7 * i + 7 = 8 + 7 * (i + 1) by omega]
  rfl
theorem tb_end {m : Nat} {ty : Nat → Int32} (hm : m ≤ 3) (n : Nat) (z : Int32) : m_L_typedBody_5 (nI (7 + 7 * m)) ty (n + 1) z (nI (8 + 7 * m)) = some (z, ()) := by
  unfold m_L_typedBody_5
  rw [if_pos (by rw [ni_le (by omega) (by omega)]; omega)]
def orc (ch : Nat → Nat) : Nat → Int32
  | 0 => nI 0
  | i + 1 => orc ch i ||| bit (cdn ch i)
theorem tb_n {m : Nat} {ty : Nat → Int32} {ch : Nat → Nat} (hm : m ≤ 3) (hty : ∀ j, j < 7 + 7 * m → ty j = nI (ch j) ∧ 32 ≤ ch j ∧ ch j ≤ 126) (h : tyC m ch) : m_L_typedBody (nI (7 + 7 * m)) ty = some (orc ch m, ()) := by
  have key : ∀ d i, i + d = m → ∀ n, d < n → m_L_typedBody_5 (nI (7 + 7 * m)) ty n (orc ch i) (nI (8 + 7 * i)) = some (orc ch m, ()) := by
    intro d
    induction d with
    | zero =>
      intro i hi n hn
      obtain ⟨n, rfl⟩ : ∃ n', n = n' + 1 := ⟨n - 1, by omega⟩
      have : i = m := by omega
      subst this
      exact tb_end hm n _
    | succ d ih =>
      intro i hi n hn
      obtain ⟨n, rfl⟩ : ∃ n', n = n' + 1 := ⟨n - 1, by omega⟩
      rw [tb_step hm hty h (by omega)]
      exact ih (i + 1) (by omega) n (by omega)
  unfold m_L_typedBody
  exact key m 0 (by omega) 40 (by omega)
theorem tl_n : ∀ m, m < 4 → m_L_typedLiterals (nI (7 + 7 * m)) = some (nI m, ()) := by decide +kernel
end
section
def insl (c : Nat) : List Nat → List Nat
  | [] => [c]
  | a :: s => if a ≤ c then a :: insl c s else c :: a :: s
theorem insl_len (c : Nat) : ∀ s, (insl c s).length = s.length + 1
  | [] => rfl
  | a :: s => by
    unfold insl
    split
    · rw [List.length_cons, insl_len c s, List.length_cons]
    · rw [List.length_cons]
theorem insl_mem {c x : Nat} : ∀ {s : List Nat}, x ∈ insl c s → x = c ∨ x ∈ s
  | [], h => Or.inl (List.mem_singleton.mp h)
  | a :: s, h => by
    unfold insl at h
    split at h
    · rcases List.mem_cons.mp h with h | h
      · exact Or.inr (by rw [h]; exact List.mem_cons_self)
      · rcases insl_mem h with h | h
        · exact Or.inl h
        · exact Or.inr (List.mem_cons_of_mem _ h)
    · rcases List.mem_cons.mp h with h | h
      · exact Or.inl h
      · exact Or.inr h
theorem insl_srt {c : Nat} : ∀ {s : List Nat}, s.Pairwise (· ≤ ·) → (insl c s).Pairwise (· ≤ ·)
  | [], _ => List.pairwise_singleton _ _
  | a :: s, h => by
    have h2 := List.pairwise_cons.mp h
    unfold insl
    split
    · next hac =>
      refine List.pairwise_cons.mpr ⟨fun x hx => ?_, insl_srt h2.2⟩
      rcases insl_mem hx with e | e
      · omega
      · exact h2.1 x e
    · next hac =>
      refine List.pairwise_cons.mpr ⟨fun x hx => ?_, h⟩
      rcases List.mem_cons.mp hx with e | e
      · omega
      · have := h2.1 x e
        omega
theorem insl_mk (c : Nat) : ∀ s, mk (insl c s) = mk s ||| bit c
  | [] => by
    show bit c ||| nI 0 = nI 0 ||| bit c
    exact b_ext (fun i hi => by rw [b_or, b_or, Bool.or_comm])
  | a :: s => by
    unfold insl
    split
    · show bit a ||| mk (insl c s) = (bit a ||| mk s) ||| bit c
      rw [insl_mk c s]
      exact b_ext (fun i hi => by rw [b_or, b_or, b_or, b_or, Bool.or_assoc])
    · show bit c ||| (bit a ||| mk s) = (bit a ||| mk s) ||| bit c
      exact b_ext (fun i hi => by rw [b_or, b_or _ (bit c), Bool.or_comm])
def srt (ch : Nat → Nat) : Nat → List Nat
  | 0 => []
  | i + 1 => insl (cdn ch i) (srt ch i)
theorem srt_len (ch : Nat → Nat) : ∀ m, (srt ch m).length = m
  | 0 => rfl
  | i + 1 => by
    show (insl (cdn ch i) (srt ch i)).length = i + 1
    rw [insl_len, srt_len ch i]
theorem srt_srt (ch : Nat → Nat) : ∀ m, (srt ch m).Pairwise (· ≤ ·)
  | 0 => List.Pairwise.nil
  | i + 1 => insl_srt (srt_srt ch i)
theorem srt_mk (ch : Nat → Nat) : ∀ m, mk (srt ch m) = orc ch m
  | 0 => rfl
  | i + 1 => by
    show mk (insl (cdn ch i) (srt ch i)) = orc ch i ||| bit (cdn ch i)
    rw [insl_mk, srt_mk ch i]
theorem srt_lt {m : Nat} {ch : Nat → Nat} (h : tyC m ch) : ∀ i, i ≤ m → ∀ x ∈ srt ch i, x < 27
  | 0, _, x, hx => by simp [srt] at hx
  | i + 1, hi, x, hx => by
    rcases insl_mem (show x ∈ insl (cdn ch i) (srt ch i) from hx) with e | e
    · rw [e]; exact cdn_lt h (by omega)
    · exact srt_lt h i (by omega) x e
def BR (s : List Nat) (bo : Nat → Int32) : Prop := ∀ k, k < s.length → bo k = nI (s.getD k 0)
section RB
variable {ty : Int32} {ln : Nat → Int32} {K : Int32 → (Nat → Int32) → Int32 → Option (Int32 × (Nat → Int32))}
theorem rb_0 (n : Nat) (rd : Int32) (bo : Nat → Int32) (z1 z2 : Int32) : m_M_readBody_60 ty ln K (n + 1) rd bo z1 z2 (nI 0) = K (rd + nI 1) (upd bo 0 z2) (z1 + nI 7) := by
  conv => lhs; unfold m_M_readBody_60
  unfold m_M_readBody_96
  rw [if_pos (by decide), if_pos (by decide)]
  rfl
theorem rb_s {t : Nat} (ht : t < 2) (n : Nat) (rd : Int32) (bo : Nat → Int32) (z1 z2 : Int32) : m_M_readBody_60 ty ln K (n + 1) rd bo z1 z2 (nI (t + 1)) = if bo t ≤ z2 then K (rd + nI 1) (upd bo (t + 1) z2) (z1 + nI 7) else m_M_readBody_60 ty ln K n rd (upd bo (t + 1) (bo t)) z1 z2 (nI t) := by
  have e1 : nI (t + 1) - nI 1 = nI t := by rw [pk_sub (by omega)]; rfl
  have e2 : nI (t + 1) + (-1 : Int32) = nI t := by
    rcases (show t = 0 ∨ t = 1 by omega) with rfl | rfl <;> decide
  conv => lhs; unfold m_M_readBody_60
  unfold m_M_readBody_96
  rw [if_neg (by rw [ni_le (by omega) (by decide)]; omega), e1, e2, inR_n (by omega), inR_n (by omega), decide_eq_true (show t < 3 by omega), decide_eq_true (show t + 1 < 3 by omega), nI_clamp (by omega), nI_clamp (by omega)]
  simp only [if_true]
theorem ins_n {s : List Nat} {c : Nat} (hs : s.length ≤ 2) (h1 : s.Pairwise (· ≤ ·)) (h2 : ∀ x ∈ s, x < 27) (hc : c < 27) {bo : Nat → Int32} (hB : BR s bo) (z1 : Int32) : ∃ bo' : Nat → Int32, m_M_readBody_60 ty ln K 40 (nI s.length) bo z1 (nI c) (nI s.length) = K (nI (s.length + 1)) bo' (z1 + nI 7) ∧ BR (insl c s) bo' := by
  match s, hs, h1, h2, hB with
  | [], _, _, _, hB =>
    refine ⟨_, rb_0 39 _ bo z1 (nI c), ?_⟩
    intro k hk
    have : k = 0 := by simpa [insl] using hk
    subst this
    exact pk_us
  | [a], _, _, h2, hB =>
    have ha := h2 a (by simp)
    have b0 : bo 0 = nI a := hB 0 (by simp)
    have e := rb_s (ty := ty) (ln := ln) (K := K) (t := 0) (by decide) 39 (nI 1) bo z1 (nI c)
    have hl : (nI a ≤ nI c) ↔ a ≤ c := by rw [ni_le (by omega) (by omega)]
    rw [b0] at e
    by_cases h : a ≤ c
    · rw [if_pos (hl.mpr h)] at e
      refine ⟨_, e, ?_⟩
      rw [show insl c [a] = [a, c] by unfold insl; rw [if_pos h]; rfl]
      intro k hk
      have hk2 : k < 2 := by simpa using hk
      rcases (show k = 0 ∨ k = 1 by omega) with rfl | rfl
      · rw [pk_un (by decide)]; exact b0
      · exact pk_us
    · rw [if_neg (mt hl.mp h), rb_0 38] at e
      refine ⟨_, e, ?_⟩
      rw [show insl c [a] = [c, a] by unfold insl; rw [if_neg h]]
      intro k hk
      have hk2 : k < 2 := by simpa using hk
      rcases (show k = 0 ∨ k = 1 by omega) with rfl | rfl
      · exact pk_us
      · rw [pk_un (by decide)]; exact pk_us
  | [a, b], _, h1, h2, hB =>
    have ha := h2 a (by simp)
    have hb := h2 b (by simp)
    have hab : a ≤ b := by simpa using h1
    have b0 : bo 0 = nI a := hB 0 (by simp)
    have b1 : bo 1 = nI b := hB 1 (by simp)
    have e := rb_s (ty := ty) (ln := ln) (K := K) (t := 1) (by decide) 39 (nI 2) bo z1 (nI c)
    have hl : (nI b ≤ nI c) ↔ b ≤ c := by rw [ni_le (by omega) (by omega)]
    have hl2 : (nI a ≤ nI c) ↔ a ≤ c := by rw [ni_le (by omega) (by omega)]
    rw [b1] at e
    by_cases h : b ≤ c
    · rw [if_pos (hl.mpr h)] at e
      refine ⟨_, e, ?_⟩
      rw [show insl c [a, b] = [a, b, c] by unfold insl; rw [if_pos (by omega)]; unfold insl; rw [if_pos h]; rfl]
      intro k hk
      have hk2 : k < 3 := by simpa using hk
      rcases (show k = 0 ∨ k = 1 ∨ k = 2 by omega) with rfl | rfl | rfl
      · rw [pk_un (by decide)]; exact b0
      · rw [pk_un (by decide)]; exact b1
      · exact pk_us
    · rw [if_neg (mt hl.mp h)] at e
      have e4 := rb_s (ty := ty) (ln := ln) (K := K) (t := 0) (by decide) 38 (nI 2) (upd bo 2 (nI b)) z1 (nI c)
      rw [show upd bo 2 (nI b) 0 = nI a by rw [pk_un (by decide)]; exact b0] at e4
      have e5 := e.trans e4
      by_cases h3 : a ≤ c
      · rw [if_pos (hl2.mpr h3)] at e5
        refine ⟨_, e5, ?_⟩
        rw [show insl c [a, b] = [a, c, b] by unfold insl; rw [if_pos h3]; unfold insl; rw [if_neg h]]
        intro k hk
        have hk2 : k < 3 := by simpa using hk
        rcases (show k = 0 ∨ k = 1 ∨ k = 2 by omega) with rfl | rfl | rfl
        · rw [pk_un (by decide), pk_un (by decide)]; exact b0
        · exact pk_us
        · rw [pk_un (by decide)]; exact pk_us
      · rw [if_neg (mt hl2.mp h3), rb_0 37] at e5
        refine ⟨_, e5, ?_⟩
        rw [show insl c [a, b] = [c, a, b] by unfold insl; rw [if_neg h3]]
        intro k hk
        have hk2 : k < 3 := by simpa using hk
        rcases (show k = 0 ∨ k = 1 ∨ k = 2 by omega) with rfl | rfl | rfl
        · exact pk_us
        · rw [pk_un (by decide)]; exact pk_us
        · rw [pk_un (by decide), pk_un (by decide)]; exact pk_us
  | _ :: _ :: _ :: _, hs, _, _, _ => simp at hs
end RB
theorem rd_n {m : Nat} {ln : Nat → Int32} {ch : Nat → Nat} (hm : m ≤ 3) (hln : ∀ j, j < 7 + 7 * m → ln j = nI (ch j) ∧ 32 ≤ ch j ∧ ch j ≤ 126) (h : tyC m ch) (rd : Int32) (bo : Nat → Int32) : ∃ bo' : Nat → Int32, m_M_readBody (nI (7 + 7 * m)) rd ln bo = some (nI m, bo') ∧ BR (srt ch m) bo' := by
  have key : ∀ d i, i + d = m → ∀ n, d < n → ∀ bo : Nat → Int32, BR (srt ch i) bo → ∃ bo' : Nat → Int32, m_M_readBody_8 (nI (7 + 7 * m)) ln n (nI i) bo (nI (8 + 7 * i)) = some (nI m, bo') ∧ BR (srt ch m) bo' := by
    intro d
    induction d with
    | zero =>
      intro i hi n hn bo hB
      obtain ⟨n, rfl⟩ : ∃ n', n = n' + 1 := ⟨n - 1, by omega⟩
      have : i = m := by omega
      subst this
      refine ⟨bo, ?_, hB⟩
      unfold m_M_readBody_8
      rw [if_pos (by rw [ni_le (by omega) (by omega)]; omega)]
    | succ d ih =>
      intro i hi n hn bo hB
      obtain ⟨n, rfl⟩ : ∃ n', n = n' + 1 := ⟨n - 1, by omega⟩
      obtain ⟨h1, h2, h3⟩ := h i (by omega)
      obtain ⟨t1, -⟩ := hln (8 + 7 * i) (by omega)
      obtain ⟨t2, -⟩ := hln (8 + 7 * i + 2) (by omega)
      obtain ⟨t3, -⟩ := hln (8 + 7 * i + 4) (by omega)
      have hl := srt_len ch i
      obtain ⟨bo1, e1, hB1⟩ := ins_n (ty := nI (7 + 7 * m)) (ln := ln) (K := m_M_readBody_8 (nI (7 + 7 * m)) ln n) (by omega) (srt_srt ch i) (srt_lt h i (by omega)) (cdn_lt h (show i < m by omega)) hB (nI (8 + 7 * i))
      rw [hl] at e1
      obtain ⟨bo2, e2, hB2⟩ := ih (i + 1) (by omega) n (by omega) bo1 hB1
      refine ⟨bo2, ?_, hB2⟩
      conv => lhs; unfold m_M_readBody_8
      rw [if_neg (by rw [ni_le (by omega) (by omega)]; omega), nI_add, nI_add, inR_n (by omega), inR_n (by omega), inR_n (by omega), decide_eq_true (show 8 + 7 * i < 32 by omega), decide_eq_true (show 8 + 7 * i + 2 < 32 by omega), decide_eq_true (show 8 + 7 * i + 4 < 32 by omega), if_pos rfl, nI_clamp (by omega), nI_clamp (by omega), nI_clamp (by omega), t1, t2, t3, (ix_rl h1).2, bs, if_pos rfl, if_pos rfl]
      unfold letN
      dsimp only
      rw [pk_sub h2.1, pk_mul, pk_mul, nI_add, nI_add, pk_sub (by omega)]
      have e3 : 9 * rl (ch (8 + 7 * i)) + 3 * (ch (8 + 7 * i + 2) - 88) + ch (8 + 7 * i + 4) - 88 = cdn ch i := by unfold cdn; omega
      rw [e3, e1, nI_add, show 8 + 7 * i + 7 = 8 + 7 * (i + 1) by omega]
      exact e2
  unfold m_M_readBody
  exact key m 0 (by omega) 40 (by omega) bo (fun k hk => absurd hk (by simp [srt]))
end
section
def tw (s : List Nat) : Bool := match s with
  | [a, b] => decide (a = b)
  | [a, b, c] => decide (a = b) || decide (b = c)
  | _ => false
theorem mk_dup (a : Nat) (x : Int32) : bit a ||| (bit a ||| x) = bit a ||| x := b_ext (fun i hi => by rw [b_or, b_or, ← Bool.or_assoc, Bool.or_self])
theorem tw_no {s : List Nat} (h1 : s.Pairwise (· ≤ ·)) (h2 : ∀ x ∈ s, x < 27) (h3 : 1 ≤ s.length ∧ s.length ≤ 3) (h : tw s = false) : okB s = true := by
  match s, h1, h2, h3, h with
  | [a], _, h2, _, _ => exact decide_eq_true (h2 a (by simp))
  | [a, b], h1, h2, _, h =>
    have hab : a ≤ b := by simpa using h1
    have hb := h2 b (by simp)
    have hn : ¬ a = b := of_decide_eq_false h
    simp only [okB, Bool.and_eq_true, decide_eq_true_eq]
    omega
  | [a, b, c], h1, h2, _, h =>
    have hc := h2 c (by simp)
    simp at h1
    simp only [tw, Bool.or_eq_false_iff, decide_eq_false_iff_not] at h
    simp only [okB, Bool.and_eq_true, decide_eq_true_eq]
    omega
  | [], _, _, h3, _ => simp at h3
  | _ :: _ :: _ :: _ :: _, _, _, h3, _ => simp at h3
theorem tw_yes {s : List Nat} (h1 : s.Pairwise (· ≤ ·)) (h2 : ∀ x ∈ s, x < 27) (h : tw s = true) : ∃ s', okB s' = true ∧ mk s' = mk s ∧ s'.length < s.length := by
  match s, h1, h2, h with
  | [a, b], _, h2, h =>
    have e : a = b := of_decide_eq_true h
    subst e
    exact ⟨[a], decide_eq_true (h2 a (by simp)), (mk_dup a (nI 0)).symm, by simp⟩
  | [a, b, c], h1, h2, h =>
    have hc := h2 c (by simp)
    simp at h1
    by_cases e : a = b
    · subst e
      by_cases e2 : a = c
      · subst e2
        refine ⟨[a], decide_eq_true hc, ?_, by simp⟩
        show bit a ||| nI 0 = bit a ||| (bit a ||| (bit a ||| nI 0))
        rw [mk_dup, mk_dup]
      · refine ⟨[a, c], ?_, (mk_dup a (mk [c])).symm, by simp⟩
        simp only [okB, Bool.and_eq_true, decide_eq_true_eq]
        omega
    · have e2 : b = c := by
        simp only [tw, Bool.or_eq_true, decide_eq_true_eq] at h
        omega
      subst e2
      refine ⟨[a, b], ?_, ?_, by simp⟩
      · simp only [okB, Bool.and_eq_true, decide_eq_true_eq]
        omega
      · show bit a ||| (bit b ||| nI 0) = bit a ||| (bit b ||| (bit b ||| nI 0))
        rw [mk_dup]
  | [], _, _, h => simp [tw] at h
  | [_], _, _, h => simp [tw] at h
  | _ :: _ :: _ :: _ :: _, _, _, h => simp [tw] at h
theorem mk_inj {l s : List Nat} (hl : okB l = true) (hs : okB s = true) (h : mk l = mk s) : l = s := by
  have e1 := cl_bc l hl
  rw [h, cl_bc s hs] at e1
  have e2 := (Prod.mk.inj (Option.some.inj e1)).1
  have L1 := (cl_len l hl).2
  have L2 := (cl_len s hs).2
  rw [ni_eq (by omega) (by omega)] at e2
  refine List.ext_getElem e2.symm (fun j h1 h2 => ?_)
  have a1 := cl_codeAt l hl j h1
  rw [h, cl_codeAt s hs j h2] at a1
  have a2 := (Prod.mk.inj (Option.some.inj a1)).1
  have b1 := cl_lt hl h1
  have b2 := cl_lt hs h2
  rw [ni_eq (by omega) (by omega)] at a2
  rw [List.getD_eq_getElem?_getD, List.getElem?_eq_getElem h2, List.getD_eq_getElem?_getD, List.getElem?_eq_getElem h1] at a2
  exact a2.symm
def kn (P : List (List Nat)) (s : List Nat) : Bool := P.any (fun l => decide (l = s))
theorem con_n {P : List (List Nat)} (hP : P.length ≤ 2) {bd : Nat → Int32} (hc : ∀ j, j < P.length → okB (P.getD j []) = true ∧ bd j = mk (P.getD j [])) {s : List Nat} (hs : okB s = true) : m_P_contains (nI P.length) bd (mk s) = some (bi (kn P s), ()) := by
  have hz : ¬ nI 0 = mk s := fun h => cl_ne s hs h.symm
  have hj : ∀ l, okB l = true → (mk l = mk s ↔ l = s) := fun l hl => ⟨mk_inj hl hs, fun h => by rw [h]⟩
  unfold m_P_contains
  match P, hP, hc with
  | [], _, _ =>
    have e0 := s_bodyOf_out (n := 0) (bd := bd) (x := nI 0) (Or.inr (by decide))
    have e1 := s_bodyOf_out (n := 0) (bd := bd) (x := nI 1) (Or.inr (by decide))
    rw [show nI ([] : List (List Nat)).length = nI 0 from rfl, e0, bs, if_neg hz, e1, bs, if_neg hz]
    rfl
  | [l], _, hc =>
    obtain ⟨a1, a2⟩ := hc 0 (by simp)
    have a2 : bd 0 = mk l := a2
    have e0 := s_bodyOf_in (n := 1) (bd := bd) (j := 0) (by decide) (by decide)
    rw [show nI [l].length = nI 1 from rfl, e0, bs, s_bodyOf_out (n := 1) (Or.inr (by decide)), bs, if_neg hz]
    dsimp only
    rw [a2]
    unfold kn
    rw [List.any_cons, List.any_nil, Bool.or_false]
    by_cases h : l = s
    · rw [if_pos ((hj l a1).mpr h), decide_eq_true h]; rfl
    · rw [if_neg (mt (hj l a1).mp h), decide_eq_false h]; rfl
  | [l, l2], _, hc =>
    obtain ⟨a1, a2⟩ := hc 0 (by simp)
    obtain ⟨b1, b2⟩ := hc 1 (by simp)
    have a2 : bd 0 = mk l := a2
    have b2 : bd 1 = mk l2 := b2
    have a1 : okB l = true := a1
    have b1 : okB l2 = true := b1
    have e0 := s_bodyOf_in (n := 2) (bd := bd) (j := 0) (by decide) (by decide)
    have e1 := s_bodyOf_in (n := 2) (bd := bd) (j := 1) (by decide) (by decide)
    rw [show nI [l, l2].length = nI 2 from rfl, e0, bs, e1, bs]
    dsimp only
    rw [a2, b2]
    unfold kn
    rw [List.any_cons, List.any_cons, List.any_nil, Bool.or_false]
    by_cases h : l = s
    · rw [if_pos ((hj l a1).mpr h), decide_eq_true h]; rfl
    · rw [if_neg (mt (hj l a1).mp h), decide_eq_false h, Bool.false_or]
      by_cases h2 : l2 = s
      · rw [if_pos ((hj l2 b1).mpr h2), decide_eq_true h2]; rfl
      · rw [if_neg (mt (hj l2 b1).mp h2), decide_eq_false h2]; rfl
  | _ :: _ :: _ :: _, hP, _ => simp at hP
/-- the class's addClause -/
theorem add_n {P : List (List Nat)} (hP : P.length ≤ 2) {bd : Nat → Int32} (hc : ∀ j, j < P.length → okB (P.getD j []) = true ∧ bd j = mk (P.getD j [])) {s : List Nat} (h1 : s.Pairwise (· ≤ ·)) (h2 : ∀ x ∈ s, x < 27) (h3 : 1 ≤ s.length ∧ s.length ≤ 3) : m_H_addClause (nI P.length) bd (mk s) (nI s.length) = if tw s = true then some (-100, nI P.length, bd) else if (hasX s && hasY s) = true then (if kn P s = true then some (-102, nI P.length, bd) else if P.length = 2 then some (-103, nI P.length, bd) else some (nI (10 + P.length), nI (P.length + 1), upd bd P.length (mk s))) else some (-101, nI P.length, bd) := by
  unfold m_H_addClause
  by_cases ht : tw s = true
  · obtain ⟨s', k1, k2, k3⟩ := tw_yes h1 h2 ht
    rw [if_pos ht, ← k2, cl_bc s' k1, bs, if_neg (by show ¬ nI s.length ≤ nI s'.length; rw [ni_le (by omega) (by omega)]; omega)]
  · have hs : okB s = true := tw_no h1 h2 h3 (by simpa using ht)
    rw [if_neg ht, cl_bc s hs, bs, if_pos (Int32.le_refl _), cl_head s hs, bs, con_n hP hc hs]
    dsimp only
    by_cases hh : (hasX s && hasY s) = true
    · rw [if_pos hh, if_pos hh, if_neg n10, bs]
      dsimp only
      cases hk : kn P s
      · rw [bi_f, if_pos rfl, if_neg (show ¬ false = true by decide)]
        by_cases h9 : P.length = 2
        · rw [if_neg (by rw [ni_lt (by omega) (by decide)]; omega), if_pos h9]
        · have h9' : P.length < 2 := by omega
          unfold m_P_append
          rw [if_pos (by rw [ni_lt (by omega) (by decide)]; omega), if_neg h9, if_pos (by rw [ni_lt (by omega) (by decide)]; omega), inR_n (by omega), decide_eq_true h9', if_pos rfl, bs]
          dsimp only
          rw [nI_add, pk_sub (by omega), nI_add, nI_clamp (by omega), show 10 + (P.length + 1 - 1) = 10 + P.length by omega]
      · rw [bi_t, if_neg n10, if_pos rfl]
    · rw [if_neg hh, if_neg hh, if_pos rfl]
end
section
section EC
variable {ty : Int32} {ln : Nat → Int32}
theorem ec_step {s : List Nat} (h2 : ∀ x ∈ s, x < 27) (h3 : s.length ≤ 3) {bo : Nat → Int32} (hB : BR s bo) (ct : Int32) (mn cs : Nat → Int32) {k : Nat} (hk : k < s.length) (n : Nat) (z : Int32) (α : Bool) : m_M_enterClause_10 ty ln (n + 1) ct (nI s.length) mn cs bo z (bi α) (nI k) = m_M_enterClause_10 ty ln n ct (nI s.length) mn cs bo (z ||| vrs (s.getD k 0)) (bi (α || (decide (0 < k) && decide (s.getD (k - 1) 0 = s.getD k 0)))) (nI (k + 1)) := by
  have hl : ∀ i, i < s.length → s.getD i 0 < 27 := fun i hi => by
    rw [List.getD_eq_getElem?_getD, List.getElem?_eq_getElem hi]
    exact h2 _ (List.getElem_mem hi)
  have hk27 := hl k hk
  conv => lhs; unfold m_M_enterClause_10
  unfold m_M_enterClause_59 m_M_enterClause_55 m_M_enterClause_60
  rw [if_neg (by rw [ni_le (by omega) (by omega)]; omega), inR_n (by omega), decide_eq_true (show k < 3 by omega), if_pos rfl, nI_clamp (by omega), hB k hk, var_n _ hk27, bs, nI_add]
  dsimp only
  cases α
  · rw [bi_f, if_pos rfl, Bool.false_or]
    by_cases h0 : k = 0
    · subst h0
      rw [if_pos (by decide), decide_eq_false (Nat.lt_irrefl 0), Bool.false_and]
      rfl
    · rw [if_neg (by rw [ni_le (by omega) (by decide)]; omega), pk_sub (by omega), inR_n (by omega), decide_eq_true (show k - 1 < 3 by omega), if_pos rfl, if_pos rfl, nI_clamp (by omega), hB (k - 1) (by omega), decide_eq_true (show 0 < k by omega), Bool.true_and]
      have hk1 := hl (k - 1) (by omega)
      by_cases e : s.getD (k - 1) 0 = s.getD k 0
      · rw [if_pos (by rw [e]), decide_eq_true e]; rfl
      · rw [if_neg (by rw [ni_eq (by omega) (by omega)]; exact e), decide_eq_false e]; rfl
  · rw [bi_t, if_neg n10, Bool.true_or]; rfl
theorem ec_end {s : List Nat} (h3 : s.length ≤ 3) (bo : Nat → Int32) (ct : Int32) (mn cs : Nat → Int32) (n : Nat) (z : Int32) (α : Bool) : m_M_enterClause_10 ty ln (n + 1) ct (nI s.length) mn cs bo z (bi α) (nI s.length) = if α = true then some (-100, ct, nI s.length, mn, cs, bo) else if z &&& nI 3 = nI 3 then m_M_enterClause_86 ty ln 40 ct (nI s.length) mn cs bo (nI 0) else some (-101, ct, nI s.length, mn, cs, bo) := by
  conv => lhs; unfold m_M_enterClause_10
  rw [if_pos (Int32.le_refl _)]
  cases α
  · rw [bi_f, if_pos rfl, if_neg (show ¬ false = true by decide)]
  · rw [bi_t, if_neg n10, if_pos rfl]
theorem ec_n {s : List Nat} (h2 : ∀ x ∈ s, x < 27) (h3 : 1 ≤ s.length ∧ s.length ≤ 3) {bo : Nat → Int32} (hB : BR s bo) (ct : Int32) (mn cs : Nat → Int32) : m_M_enterClause_10 ty ln 40 ct (nI s.length) mn cs bo (nI 0) (nI 0) (nI 0) = if tw s = true then some (-100, ct, nI s.length, mn, cs, bo) else if (hasX s && hasY s) = true then m_M_enterClause_86 ty ln 40 ct (nI s.length) mn cs bo (nI 0) else some (-101, ct, nI s.length, mn, cs, bo) := by
  have fin : ∀ (z : Int32), bt z 0 = hasX s → bt z 1 = hasY s → (if z &&& nI 3 = nI 3 then m_M_enterClause_86 ty ln 40 ct (nI s.length) mn cs bo (nI 0) else some (-101, ct, nI s.length, mn, cs, bo)) = if (hasX s && hasY s) = true then m_M_enterClause_86 ty ln 40 ct (nI s.length) mn cs bo (nI 0) else some (-101, ct, nI s.length, mn, cs, bo) := by
    intro z h0 h1
    by_cases h : (hasX s && hasY s) = true
    · rw [if_pos h, if_pos]
      rw [and3, h0, h1]
      exact (Bool.and_eq_true _ _).mp h
    · rw [if_neg h, if_neg]
      rw [and3, h0, h1, ← Bool.and_eq_true]
      exact h
  have hl3 := h3.2
  have st : ∀ k, k < s.length → ∀ (n : Nat) (z : Int32) (α : Bool), m_M_enterClause_10 ty ln (n + 1) ct (nI s.length) mn cs bo z (bi α) (nI k) = m_M_enterClause_10 ty ln n ct (nI s.length) mn cs bo (z ||| vrs (s.getD k 0)) (bi (α || (decide (0 < k) && decide (s.getD (k - 1) 0 = s.getD k 0)))) (nI (k + 1)) := fun k hk n z α => ec_step h2 hl3 hB ct mn cs hk n z α
  have en : ∀ (n : Nat) (z : Int32) (α : Bool), m_M_enterClause_10 ty ln (n + 1) ct (nI s.length) mn cs bo z (bi α) (nI s.length) = if α = true then some (-100, ct, nI s.length, mn, cs, bo) else if z &&& nI 3 = nI 3 then m_M_enterClause_86 ty ln 40 ct (nI s.length) mn cs bo (nI 0) else some (-101, ct, nI s.length, mn, cs, bo) := fun n z α => ec_end hl3 bo ct mn cs n z α
  rw [show m_M_enterClause_10 ty ln 40 ct (nI s.length) mn cs bo (nI 0) (nI 0) (nI 0) = m_M_enterClause_10 ty ln (39 + 1) ct (nI s.length) mn cs bo (nI 0) (bi false) (nI 0) from rfl]
  match s, h2, h3, fin, st, en with
  | [a], h2, _, fin, st, en =>
    have va := vrs_01 a (h2 a (by simp))
    rw [st 0 (by simp) 39, show nI (0 + 1) = nI [a].length from rfl, en 38]
    show (if tw [a] = true then _ else _) = _
    by_cases ht : tw [a] = true
    · rw [if_pos ht, if_pos ht]
    · rw [if_neg ht, if_neg ht]
      refine fin _ ?_ ?_
      · rw [b_or, b_n0, Bool.false_or]
        exact va.1.trans (by simp [hasX])
      · rw [b_or, b_n0, Bool.false_or]
        exact va.2.trans (by simp [hasY])
  | [a, b], h2, _, fin, st, en =>
    have va := vrs_01 a (h2 a (by simp))
    have vb := vrs_01 b (h2 b (by simp))
    rw [st 0 (by simp) 39, st (0 + 1) (by simp) 38, show nI (0 + 1 + 1) = nI [a, b].length from rfl, en 37]
    have et : (false || (decide (0 < 0) && decide ([a, b].getD (0 - 1) 0 = [a, b].getD 0 0)) || (decide (0 < 0 + 1) && decide ([a, b].getD (0 + 1 - 1) 0 = [a, b].getD (0 + 1) 0))) = tw [a, b] := by
      simp [tw]
    rw [et]
    by_cases ht : tw [a, b] = true
    · rw [if_pos ht, if_pos ht]
    · rw [if_neg ht, if_neg ht]
      refine fin _ ?_ ?_
      · rw [b_or, b_or, b_n0, Bool.false_or]
        show (bt (vrs a) 0 || bt (vrs b) 0) = _
        rw [va.1, vb.1]
        simp [hasX]
      · rw [b_or, b_or, b_n0, Bool.false_or]
        show (bt (vrs a) 1 || bt (vrs b) 1) = _
        rw [va.2, vb.2]
        simp [hasY]
  | [a, b, c], h2, _, fin, st, en =>
    have va := vrs_01 a (h2 a (by simp))
    have vb := vrs_01 b (h2 b (by simp))
    have vc := vrs_01 c (h2 c (by simp))
    rw [st 0 (by simp) 39, st (0 + 1) (by simp) 38, st (0 + 1 + 1) (by simp) 37, show nI (0 + 1 + 1 + 1) = nI [a, b, c].length from rfl, en 36]
    have et : (false || (decide (0 < 0) && decide ([a, b, c].getD (0 - 1) 0 = [a, b, c].getD 0 0)) || (decide (0 < 0 + 1) && decide ([a, b, c].getD (0 + 1 - 1) 0 = [a, b, c].getD (0 + 1) 0)) || (decide (0 < 0 + 1 + 1) && decide ([a, b, c].getD (0 + 1 + 1 - 1) 0 = [a, b, c].getD (0 + 1 + 1) 0))) = tw [a, b, c] := by
      simp [tw]
    rw [et]
    by_cases ht : tw [a, b, c] = true
    · rw [if_pos ht, if_pos ht]
    · rw [if_neg ht, if_neg ht]
      refine fin _ ?_ ?_
      · rw [b_or, b_or, b_or, b_n0, Bool.false_or]
        show (bt (vrs a) 0 || bt (vrs b) 0 || bt (vrs c) 0) = _
        rw [va.1, vb.1, vc.1]
        simp [hasX, Bool.or_assoc]
      · rw [b_or, b_or, b_or, b_n0, Bool.false_or]
        show (bt (vrs a) 1 || bt (vrs b) 1 || bt (vrs c) 1) = _
        rw [va.2, vb.2, vc.2]
        simp [hasY, Bool.or_assoc]
  | [], _, h3, _, _, _ => simp at h3
  | _ :: _ :: _ :: _ :: _, _, h3, _, _, _ => simp at h3
theorem kn_n {s l : List Nat} (h2 : ∀ x ∈ s, x < 27) (h3 : 1 ≤ s.length ∧ s.length ≤ 3) {bo mn cs : Nat → Int32} (hB : BR s bo) {j : Nat} (hj : j < 2) (hl : okB l = true) (hm : mn j = nI l.length) (hcs : ∀ k, k < l.length → cs (3 * j + k) = nI (l.getD k 0)) : m_M_known (nI s.length) mn cs bo (nI j) = some (bi (decide (l = s)), ()) := by
  have hL := (cl_len l hl).2
  have hs27 : ∀ i, i < s.length → s.getD i 0 < 27 := fun i hi => by
    rw [List.getD_eq_getElem?_getD, List.getElem?_eq_getElem hi]
    exact h2 _ (List.getElem_mem hi)
  unfold m_M_known m_M_known_18
  rw [inR_n (by omega), decide_eq_true hj, if_pos rfl, nI_clamp (by omega), hm]
  by_cases hlen : l.length = s.length
  · rw [if_pos (by rw [hlen])]
    have key : ∀ d k, k + d = s.length → ∀ n, d < n → ∀ α : Bool, m_M_known_21 (nI s.length) mn cs bo n (nI j) (bi α) (nI k) = some (bi (α && (List.range' k d).all (fun i => decide (l.getD i 0 = s.getD i 0))), ()) := by
      intro d
      induction d with
      | zero =>
        intro k hk n hn α
        obtain ⟨n, rfl⟩ : ∃ n', n = n' + 1 := ⟨n - 1, by omega⟩
        unfold m_M_known_21
        rw [if_pos (by rw [ni_le (by omega) (by omega)]; omega), isZ_bi, if_pos rfl, List.range'_zero, List.all_nil, Bool.and_true]
      | succ d ih =>
        intro k hk n hn α
        obtain ⟨n, rfl⟩ : ∃ n', n = n' + 1 := ⟨n - 1, by omega⟩
        have i0 := ih (k + 1) (by omega) n (by omega) false
        have i1 := ih (k + 1) (by omega) n (by omega) true
        rw [bi_f] at i0
        rw [bi_t] at i1
        conv => lhs; unfold m_M_known_21
        unfold m_M_known_57
        rw [if_neg (by rw [ni_le (by omega) (by omega)]; omega), isZ_bi, if_pos rfl, pk_mul 3 j, nI_add, inR_n (by omega), inR_n (by omega), decide_eq_true (show 3 * j + k < 6 by omega), decide_eq_true (show k < 3 by omega), if_pos rfl, if_pos rfl, nI_clamp (by omega), nI_clamp (by omega), hcs k (by omega), hB k (by omega), nI_add, i0, i1, List.range'_succ, List.all_cons]
        have b1 := cl_lt hl (show k < l.length by omega)
        have b2 := hs27 k (by omega)
        cases α
        · rw [bi_f, if_pos rfl]; rfl
        · rw [bi_t, if_neg n10]
          by_cases e : l.getD k 0 = s.getD k 0
          · rw [if_pos (by rw [e]), decide_eq_true e]; rfl
          · rw [if_neg (by rw [ni_eq (by omega) (by omega)]; exact e), decide_eq_false e]; rfl
    have h4 := key s.length 0 (by omega) 40 (by omega) true
    rw [bi_t, Bool.true_and] at h4
    rw [h4]
    congr 3
    by_cases e : l = s
    · rw [decide_eq_true e, List.all_eq_true]
      intro i hi
      rw [e]
      exact decide_eq_true rfl
    · rw [decide_eq_false e]
      cases ha : (List.range' 0 s.length).all (fun i => decide (l.getD i 0 = s.getD i 0))
      · rfl
      · exfalso
        apply e
        refine List.ext_getElem hlen (fun i h5 h6 => ?_)
        have h7 := List.all_eq_true.mp ha i (by rw [List.mem_range'_1]; omega)
        have h8 := of_decide_eq_true h7
        rw [List.getD_eq_getElem?_getD, List.getElem?_eq_getElem h5, List.getD_eq_getElem?_getD, List.getElem?_eq_getElem h6] at h8
        exact h8
  · rw [if_neg (by rw [ni_eq (by omega) (by omega)]; exact hlen), decide_eq_false (fun e => hlen (by rw [e]))]
    conv => lhs; unfold m_M_known_21
    rw [if_neg (by rw [ni_le (by omega) (by decide)]; omega), if_pos rfl, if_pos (by decide)]
    rfl
end EC
end
section
theorem ap_n {ty : Int32} {ln : Nat → Int32} {s : List Nat} (h3 : s.length ≤ 3) {bo : Nat → Int32} (hB : BR s bo) {c : Nat} (hc : c < 2) (mn cs : Nat → Int32) : ∃ cs' : Nat → Int32, m_M_enterClause_137 ty ln 40 (nI c) (nI s.length) mn cs bo (nI 0) = some (nI (10 + c), nI (c + 1), nI s.length, mn, cs', bo) ∧ (∀ k, k < s.length → cs' (3 * c + k) = nI (s.getD k 0)) ∧ ∀ i, i < 3 * c → cs' i = cs i := by
  have key : ∀ d k, k + d = s.length → ∀ n, d < n → ∀ cs : Nat → Int32, (∀ i, i < k → cs (3 * c + i) = nI (s.getD i 0)) → ∃ cs' : Nat → Int32, m_M_enterClause_137 ty ln n (nI c) (nI s.length) mn cs bo (nI k) = some (nI (10 + c), nI (c + 1), nI s.length, mn, cs', bo) ∧ (∀ k, k < s.length → cs' (3 * c + k) = nI (s.getD k 0)) ∧ ∀ i, i < 3 * c → cs' i = cs i := by
    intro d
    induction d with
    | zero =>
      intro k hk n hn cs h
      obtain ⟨n, rfl⟩ : ∃ n', n = n' + 1 := ⟨n - 1, by omega⟩
      refine ⟨cs, ?_, fun i hi => h i (by omega), fun i hi => rfl⟩
      unfold m_M_enterClause_137
      rw [if_pos (by rw [ni_le (by omega) (by omega)]; omega), nI_add, nI_add, show 9 + (c + 1) = 10 + c by omega]
    | succ d ih =>
      intro k hk n hn cs h
      obtain ⟨n, rfl⟩ : ∃ n', n = n' + 1 := ⟨n - 1, by omega⟩
      obtain ⟨cs', e, g1, g2⟩ := ih (k + 1) (by omega) n (by omega) (upd cs (3 * c + k) (nI (s.getD k 0))) (fun i hi => by
        by_cases e : i = k
        · subst e; exact pk_us
        · rw [pk_un (by omega)]; exact h i (by omega))
      refine ⟨cs', ?_, g1, fun i hi => by rw [g2 i hi, pk_un (by omega)]⟩
      conv => lhs; unfold m_M_enterClause_137
      rw [if_neg (by rw [ni_le (by omega) (by omega)]; omega), pk_mul 3 c, nI_add, inR_n (by omega), inR_n (by omega), decide_eq_true (show k < 3 by omega), decide_eq_true (show 3 * c + k < 6 by omega), if_pos rfl, if_pos rfl, nI_clamp (by omega), nI_clamp (by omega), hB k (by omega), nI_add]
      exact e
  exact key s.length 0 (by omega) 40 (by omega) cs (fun i hi => absurd hi (Nat.not_lt_zero i))
theorem cl86 {ty : Int32} {ln : Nat → Int32} {s : List Nat} (h2 : ∀ x ∈ s, x < 27) (h3 : 1 ≤ s.length ∧ s.length ≤ 3) {bo mn cs : Nat → Int32} (hB : BR s bo) {P : List (List Nat)} (hP : P.length ≤ 2) (hc : ∀ j, j < P.length → okB (P.getD j []) = true ∧ mn j = nI (P.getD j []).length ∧ ∀ k, k < (P.getD j []).length → cs (3 * j + k) = nI ((P.getD j []).getD k 0)) : m_M_enterClause_86 ty ln 40 (nI P.length) (nI s.length) mn cs bo (nI 0) = if kn P s = true then some (-102, nI P.length, nI s.length, mn, cs, bo) else if P.length = 2 then some (-103, nI P.length, nI s.length, mn, cs, bo) else m_M_enterClause_137 ty ln 40 (nI P.length) (nI s.length) (upd mn P.length (nI s.length)) cs bo (nI 0) := by
  have key : ∀ d j, j + d = P.length → ∀ n, d < n → m_M_enterClause_86 ty ln n (nI P.length) (nI s.length) mn cs bo (nI j) = if kn (P.drop j) s = true then some (-102, nI P.length, nI s.length, mn, cs, bo) else if P.length = 2 then some (-103, nI P.length, nI s.length, mn, cs, bo) else m_M_enterClause_137 ty ln 40 (nI P.length) (nI s.length) (upd mn P.length (nI s.length)) cs bo (nI 0) := by
    intro d
    induction d with
    | zero =>
      intro j hj n hn
      obtain ⟨n, rfl⟩ : ∃ n', n = n' + 1 := ⟨n - 1, by omega⟩
      conv => lhs; unfold m_M_enterClause_86
      rw [if_pos (by rw [ni_le (by omega) (by omega)]; omega), show P.drop j = [] from List.drop_eq_nil_of_le (by omega), if_neg (show ¬ kn [] s = true by simp [kn])]
      by_cases h9 : P.length = 2
      · rw [if_pos (by rw [h9]), if_pos h9]
      · rw [if_neg (by rw [ni_eq (by omega) (by decide)]; exact h9), if_neg h9, inR_n (by omega), decide_eq_true (show P.length < 2 by omega), if_pos rfl, nI_clamp (by omega)]
    | succ d ih =>
      intro j hj n hn
      obtain ⟨n, rfl⟩ : ∃ n', n = n' + 1 := ⟨n - 1, by omega⟩
      have hjl : j < P.length := by omega
      obtain ⟨a1, a2, a3⟩ := hc j hjl
      have he : P.drop j = P.getD j [] :: P.drop (j + 1) := by
        rw [List.drop_eq_getElem_cons hjl]
        simp [List.getD, hjl]
      have hk : kn (P.drop j) s = (decide (P.getD j [] = s) || kn (P.drop (j + 1)) s) := by
        rw [he]
        rfl
      conv => lhs; unfold m_M_enterClause_86
      rw [if_neg (by rw [ni_le (by omega) (by omega)]; omega), kn_n h2 h3 hB (show j < 2 by omega) a1 a2 a3, bs, hk, nI_add, ih (j + 1) (by omega) n (by omega)]
      dsimp only
      by_cases e : P.getD j [] = s
      · rw [decide_eq_true e, bi_t, if_neg n10, Bool.true_or, if_pos rfl]
      · rw [decide_eq_false e, bi_f, if_pos rfl, Bool.false_or]
  have := key P.length 0 (by omega) 40 (by omega)
  rw [List.drop_zero] at this
  exact this
/-- a body that was read, on both sides -/
theorem s_add {ty ct ct2 : Int32} {ln bd mn cs bo : Nat → Int32} (hR : RP ct bd ct2 mn cs) {s : List Nat} (h1 : s.Pairwise (· ≤ ·)) (h2 : ∀ x ∈ s, x < 27) (h3 : 1 ≤ s.length ∧ s.length ≤ 3) (hB : BR s bo) : ∃ (r ct' ct2' : Int32) (bd' mn' cs' : Nat → Int32), m_H_addClause ct bd (mk s) (nI s.length) = some (r, ct', bd') ∧ m_M_enterClause_10 ty ln 40 ct2 (nI s.length) mn cs bo (nI 0) (nI 0) (nI 0) = some (r, ct2', nI s.length, mn', cs', bo) ∧ RP ct' bd' ct2' mn' cs' := by
  have hR' := hR
  obtain ⟨P, hP, rfl, rfl, hc⟩ := hR
  rw [add_n hP (fun j hj => ⟨(hc j hj).1, (hc j hj).2.2.1⟩) h1 h2 h3, ec_n h2 h3 hB, cl86 h2 h3 hB hP (fun j hj => ⟨(hc j hj).1, (hc j hj).2.2.2.1, (hc j hj).2.2.2.2⟩)]
  by_cases ht : tw s = true
  · rw [if_pos ht, if_pos ht]
    exact ⟨_, _, _, _, _, _, rfl, rfl, hR'⟩
  rw [if_neg ht, if_neg ht]
  by_cases hh : (hasX s && hasY s) = true
  rotate_left
  · rw [if_neg hh, if_neg hh]
    exact ⟨_, _, _, _, _, _, rfl, rfl, hR'⟩
  rw [if_pos hh, if_pos hh]
  by_cases hk : kn P s = true
  · rw [if_pos hk, if_pos hk]
    exact ⟨_, _, _, _, _, _, rfl, rfl, hR'⟩
  rw [if_neg hk, if_neg hk]
  by_cases h9 : P.length = 2
  · rw [if_pos h9, if_pos h9]
    exact ⟨_, _, _, _, _, _, rfl, rfl, hR'⟩
  rw [if_neg h9, if_neg h9]
  obtain ⟨cs', e, g1, g2⟩ := ap_n (ty := ty) (ln := ln) h3.2 hB (show P.length < 2 by omega) (upd mn P.length (nI s.length)) cs
  refine ⟨_, _, _, _, _, _, rfl, e, P ++ [s], by rw [List.length_append, List.length_singleton]; omega, by rw [List.length_append, List.length_singleton], by rw [List.length_append, List.length_singleton], fun j hj => ?_⟩
  rw [List.length_append, List.length_singleton] at hj
  by_cases hjl : j < P.length
  · have eg : (P ++ [s]).getD j [] = P.getD j [] := by
      rw [List.getD_eq_getElem?_getD, List.getD_eq_getElem?_getD, List.getElem?_append_left hjl]
    obtain ⟨a1, a2, a3, a4, a5⟩ := hc j hjl
    have hL := (cl_len _ a1).2
    rw [eg]
    exact ⟨a1, a2, by rw [pk_un (by omega)]; exact a3, by rw [pk_un (by omega)]; exact a4, fun k hk => by rw [g2 _ (by omega)]; exact a5 k hk⟩
  · have ej : j = P.length := by omega
    subst ej
    have eg : (P ++ [s]).getD P.length [] = s := by
      rw [List.getD_eq_getElem?_getD, List.getElem?_append_right (Nat.le_refl _), Nat.sub_self]
      rfl
    rw [eg]
    exact ⟨tw_no h1 h2 h3 (by simpa using ht), hh, pk_us, pk_us, g1⟩
/-- enter on a statement for a clause -/
theorem enter_clause {n m : Nat} {ty ln : Nat → Int32} {ch : Nat → Nat} (hty : ∀ j, j < n → ty j = nI (ch j) ∧ 32 ≤ ch j ∧ ch j ≤ 126) (hln : ∀ j, j < n → ln j = nI (ch j) ∧ 32 ≤ ch j ∧ ch j ≤ 126) (hq : fpos (fun p => kB (ch 0) (ch p) p) n 0 = n) (hm : 1 ≤ m ∧ m ≤ 3) (hn : n = 7 + 7 * m) (hw : wB (ch 0) n = true) (hf : ch 0 = 116) {ct ct2 : Int32} {bd mn cs : Nat → Int32} (hR : RP ct bd ct2 mn cs) (pl mi rd : Int32) (fs fa mk0 bo : Nat → Int32) :
    ∃ (r ct' ct2' rd' : Int32) (bd' mn' cs' bo' : Nat → Int32), m_H_enter pl mi (nI n) ty fs ct bd = some (r, pl, mi, nI 0, fs, ct', bd') ∧ m_M_enter (nI n) ct2 rd ln fa mk0 mn cs bo = some (r, nI 0, ct2', rd', fa, mk0, mn', cs', bo') ∧ RP ct' bd' ct2' mn' cs' := by
  subst hn
  obtain ⟨hE, hF, -, hK⟩ := enter_yes (by omega) hty hln hq (by omega) hw
  have hC : tyC m ch := by
    intro i hi
    have hK1 := hK (8 + 7 * i) (by omega)
    have hK2 := hK (8 + 7 * i + 2) (by omega)
    have hK3 := hK (8 + 7 * i + 4) (by omega)
    rw [hf] at hK1 hK2 hK3
    exact ⟨kc_r (by omega) (hty _ (by omega)).2 hK1, kc_v (by omega) (hty _ (by omega)).2 (Or.inl hK2), kc_v (by omega) (hty _ (by omega)).2 (Or.inr hK3)⟩
  obtain ⟨bo', e1, hB⟩ := rd_n hm.2 hln hC rd bo
  obtain ⟨t0, b0⟩ := hty 0 (by omega)
  obtain ⟨l0, -⟩ := hln 0 (by omega)
  have hl := srt_len ch m
  obtain ⟨r, ct', ct2', bd', mn', cs', k1, k2, k3⟩ := s_add (ty := nI (7 + 7 * m)) (ln := ln) hR (srt_srt ch m) (srt_lt hC m (Nat.le_refl _)) (by rw [hl]; exact hm) hB
  rw [hl] at k1 k2
  refine ⟨r, ct', ct2', nI m, bd', mn', cs', bo', ?_, ?_, k3⟩
  · rw [hE]
    unfold m_H_carryOutLine
    rw [at_n (by omega) (by omega) t0 b0, bs]
    dsimp only
    rw [hf, if_pos rfl, tb_n hm.2 hty hC, bs, tl_n m (by omega), bs]
    dsimp only
    rw [← srt_mk, k1]
    rfl
  · unfold m_M_enter
    rw [hF, bs, if_pos (by decide), if_pos (by decide), show (nI 0).toNatClampNeg = 0 from rfl, l0, hf, if_pos rfl]
    unfold m_M_enterClause
    rw [e1, bs]
    dsimp only
    rw [k2]
    rfl
theorem s_enter {len len2 pl mi ct ct2 : Int32} {ty ln fs fa mk0 bd mn cs : Nat → Int32} (hL : RL len ty len2 ln) (hF : RF fs fa) (hM : RM pl mi mk0) (hR : RP ct bd ct2 mn cs) (rd : Int32) (bo : Nat → Int32) :
    ∃ (r pl' mi' ct' ct2' rd' : Int32) (fs' bd' fa' mk' mn' cs' bo' : Nat → Int32), m_H_enter pl mi len ty fs ct bd = some (r, pl', mi', nI 0, fs', ct', bd') ∧ m_M_enter len2 ct2 rd ln fa mk0 mn cs bo = some (r, nI 0, ct2', rd', fa', mk', mn', cs', bo') ∧ RF fs' fa' ∧ RM pl' mi' mk' ∧ RP ct' bd' ct2' mn' cs' := by
  obtain ⟨n, hn, rfl, rfl, hj⟩ := hL
  obtain ⟨ch, hch⟩ : ∃ ch : Nat → Nat, ∀ j, ch j = (ln j).toNatClampNeg := ⟨_, fun _ => rfl⟩
  have hln : ∀ j, j < n → ln j = nI (ch j) ∧ 32 ≤ ch j ∧ ch j ≤ 126 := by
    intro j h
    obtain ⟨-, c, c1, c2, e⟩ := hj j h
    have : ch j = c := by rw [hch, e, nI_clamp (by omega)]
    rw [this]
    exact ⟨e, c1, c2⟩
  have hty : ∀ j, j < n → ty j = nI (ch j) ∧ 32 ≤ ch j ∧ ch j ≤ 126 := fun j h => ⟨(hj j h).1.trans (hln j h).1, (hln j h).2⟩
  by_cases hno : fpos (fun p => kB (ch 0) (ch p) p) n 0 < n ∨ n = 0 ∨ wB (ch 0) n = false
  · obtain ⟨e1, e2⟩ := enter_no hn hty hln hno pl mi ct ct2 rd fs bd fa mk0 mn cs bo
    exact ⟨_, _, _, _, _, _, _, _, _, _, _, _, _, e1, e2, hF, hM, hR⟩
  · have hle := (fpos_le (fun p => kB (ch 0) (ch p) p) n 0).2
    have hq : fpos (fun p => kB (ch 0) (ch p) p) n 0 = n := by omega
    have h0 : 0 < n := by omega
    have hw : wB (ch 0) n = true := by
      cases hwb : wB (ch 0) n
      · exact absurd (Or.inr (Or.inr hwb)) hno
      · rfl
    obtain ⟨-, -, ⟨i, hi, ei⟩, -⟩ := enter_yes hn hty hln hq h0 hw
    have hw2 := hw
    rw [ei, show n = 1 + (n - 1) by omega] at hw2
    rcases wn_all hi (by omega) hw2 with ⟨h1, h2⟩ | ⟨h1, h2⟩ | ⟨h1, h2⟩
    · obtain ⟨r, fs', fa', e1, e2, e3⟩ := enter_fact hty hln hq (by omega) hw h1 ei hF pl mi ct ct2 rd bd mk0 mn cs bo
      exact ⟨_, _, _, _, _, _, _, _, _, _, _, _, _, e1, e2, e3, hM, hR⟩
    · obtain ⟨r, pl', mi', fs', fa', mk', e1, e2, e3, e4⟩ := enter_mark hty hln hq (by omega) hw hi h1 ei hF hM ct ct2 rd bd mn cs bo
      exact ⟨_, _, _, _, _, _, _, _, _, _, _, _, _, e1, e2, e3, e4, hR⟩
    · obtain ⟨r, ct', ct2', rd', bd', mn', cs', bo', e1, e2, e3⟩ := enter_clause (m := (n - 7) / 7) hty hln hq (by omega) (by omega) hw (by rw [ei, h1]; rfl) hR pl mi rd fs fa mk0 bo
      exact ⟨_, _, _, _, _, _, _, _, _, _, _, _, _, e1, e2, hF, hM, e3⟩
end
section
theorem i2c_n (x : Int32) : ∃ q : Nat, q < 65536 ∧ i2c x = nI q := by
  refine ⟨(x.toUInt32 % 65536).toNat, ?_, ?_⟩
  · rw [UInt32.toNat_mod]
    exact Nat.mod_lt _ (by decide)
  · unfold i2c nI
    refine Int32.toBitVec_inj.mp ?_
    rw [UInt32.toBitVec_toInt32]
    refine BitVec.eq_of_toNat_eq ?_
    show (x.toUInt32 % 65536).toBitVec.toNat = (BitVec.ofNat 32 (x.toUInt32 % 65536).toNat).toNat
    rw [BitVec.toNat_ofNat]
    exact (Nat.mod_eq_of_lt (UInt32.toNat_lt _)).symm
theorem isC_i2c (x : Int32) : isC (i2c x) = true := by
  obtain ⟨q, hq, e⟩ := i2c_n x
  rw [e]
  exact isC_n hq
theorem l4 {L i : Nat} (hL : L ≤ 2048) (hi : i < 4096) : (nI L - nI 4 < nI i) = (L < i + 4) := by
  by_cases h : 4 ≤ L
  · rw [pk_sub h, ni_lt (by omega) (by omega)]
    exact propext (by omega)
  · have e : (nI L - nI 4).toInt < 0 := by
      rcases (show L = 0 ∨ L = 1 ∨ L = 2 ∨ L = 3 by omega) with rfl | rfl | rfl | rfl <;> decide
    refine propext ⟨fun _ => by omega, fun _ => ?_⟩
    rw [Int32.lt_iff_toInt_lt, nI_toInt (by omega)]
    omega
theorem law_all {xs : Nat → Int32} {L : Nat} (hL : L ≤ 2048) : ∀ n i, L < i + 4 + 4 * n → i < 4096 - 8 → ∀ (pl : Int32) (mi : Int32) (len : Int32) (ty : Nat → Int32) (fs : Nat → Int32) (ct : Int32) (bd : Nat → Int32) (gp : Int32) (rc : Int32) (fc : Nat → Int64) (gi : Nat → Int32) (len2 : Int32) (ct2 : Int32) (oc : Int32) (rd : Int32) (la : Int32) (ln : Nat → Int32) (fa : Nat → Int32) (mk0 : Nat → Int32) (mn : Nat → Int32) (cs : Nat → Int32) (om : Nat → Int32) (ocs : Nat → Int32) (bo : Nat → Int32) (ro : Nat → Int32) (fr : Nat → Int32), RL len ty len2 ln → RF fs fa → RM pl mi mk0 → RP ct bd ct2 mn cs → m_W_law_18 xs L (n + 1) pl mi len ty fs ct bd gp rc fc gi len2 ct2 oc rd la ln fa mk0 mn cs om ocs bo ro fr (nI i) = some (nI 1) := by
  intro n
  induction n with
  | zero =>
    intro i hi hi2 pl mi len ty fs ct bd gp rc fc gi len2 ct2 oc rd la ln fa mk0 mn cs om ocs bo ro fr hRL hRF hRM hRP
    unfold m_W_law_18
    rw [if_pos (by rw [l4 hL (by omega)]; omega)]
  | succ n ih =>
    intro i hi hi2 pl mi len ty fs ct bd gp rc fc gi len2 ct2 oc rd la ln fa mk0 mn cs om ocs bo ro fr hRL hRF hRM hRP
    conv => lhs; unfold m_W_law_18
    by_cases hx : L < i + 4
    · rw [if_pos (by rw [l4 hL (by omega)]; exact hx)]
    have r0 : inR (nI i) L = true := by rw [inR_n (by omega)]; exact decide_eq_true (by omega)
    have r1 : inR (nI i + nI 1) L = true := by rw [nI_add, inR_n (by omega)]; exact decide_eq_true (by omega)
    have r2 : inR (nI i + nI 2) L = true := by rw [nI_add, inR_n (by omega)]; exact decide_eq_true (by omega)
    have r3 : inR (nI i + nI 3) L = true := by rw [nI_add, inR_n (by omega)]; exact decide_eq_true (by omega)
    have go := ih (i + 4) (by omega) (by omega)
    rw [if_neg (by rw [l4 hL (by omega)]; exact hx), if_pos r0]
    unfold letN m_W_law_482
    rw [nI_add i 4]
    generalize xs (nI i).toNatClampNeg &&& nI 15 = w
    generalize xs (nI i + nI 1).toNatClampNeg = x1
    generalize xs (nI i + nI 2).toNatClampNeg = x2
    generalize xs (nI i + nI 3).toNatClampNeg = x3
    dsimp only
    by_cases h0 : w = nI 0
    · obtain ⟨r, a, c, b, d, e1, e2, e3⟩ := s_key hRL (isC_i2c x1)
      rw [if_pos h0, if_pos r1, e1, bs, if_pos r1, e2, bs]
      dsimp only
      rw [if_pos rfl]
      exact go _ _ _ _ _ _ _ _ _ _ _ _ _ _ _ _ _ _ _ _ _ _ _ _ _ _ e3 hRF hRM hRP
    rw [if_neg h0]
    by_cases h1 : w = nI 1
    · obtain ⟨r, a, c, e1, e2, e3⟩ := s_back hRL
      rw [if_pos h1, e1, bs, e2, bs]
      dsimp only
      rw [if_pos rfl]
      exact go _ _ _ _ _ _ _ _ _ _ _ _ _ _ _ _ _ _ _ _ _ _ _ _ _ _ e3 hRF hRM hRP
    rw [if_neg h1]
    by_cases h2 : w = nI 2
    · obtain ⟨r, pl', mi', ct', ct2', rd', fs', bd', fa', mk', mn', cs', bo', e1, e2, e3, e4, e5⟩ := s_enter hRL hRF hRM hRP rd bo
      rw [if_pos h2, e1, bs, e2, bs]
      dsimp only
      rw [if_pos rfl]
      exact go _ _ _ _ _ _ _ _ _ _ _ _ _ _ _ _ _ _ _ _ _ _ _ _ _ _ ⟨0, by decide, rfl, rfl, fun j hj => absurd hj (Nat.not_lt_zero j)⟩ e3 e4 e5
    rw [if_neg h2]
    by_cases h3 : w = nI 3
    · obtain ⟨r, e1, e2⟩ := s_facts hRF x1
      rw [if_pos h3, if_pos r1, e1, bs, if_pos r1, e2, bs]
      dsimp only
      rw [if_pos rfl]
      exact go _ _ _ _ _ _ _ _ _ _ _ _ _ _ _ _ _ _ _ _ _ _ _ _ _ _ hRL hRF hRM hRP
    rw [if_neg h3]
    by_cases h4 : w = nI 4
    · obtain ⟨r, e1, e2⟩ := s_holds hRF x1 x2 x3
      rw [if_pos h4, if_pos r1, if_pos r2, if_pos r3, e1, bs, if_pos r1, if_pos r2, if_pos r3, e2, bs]
      dsimp only
      rw [if_pos rfl]
      exact go _ _ _ _ _ _ _ _ _ _ _ _ _ _ _ _ _ _ _ _ _ _ _ _ _ _ hRL hRF hRM hRP
    rw [if_neg h4]
    by_cases h5 : w = nI 5
    · obtain ⟨r, e1, e2⟩ := s_mark hRM x1 x2
      rw [if_pos h5, if_pos r1, if_pos r2, e1, bs, if_pos r1, if_pos r2, e2, bs]
      dsimp only
      rw [if_pos rfl]
      exact go _ _ _ _ _ _ _ _ _ _ _ _ _ _ _ _ _ _ _ _ _ _ _ _ _ _ hRL hRF hRM hRP
    rw [if_neg h5]
    by_cases h6 : w = nI 6
    · obtain ⟨r, a, c, b, d, e, e1, e2, e3⟩ := s_drop hRP x1
      rw [if_pos h6, if_pos r1, e1, bs, if_pos r1, e2, bs]
      dsimp only
      rw [if_pos rfl]
      exact go _ _ _ _ _ _ _ _ _ _ _ _ _ _ _ _ _ _ _ _ _ _ _ _ _ _ hRL hRF hRM e3
    rw [if_neg h6]
    by_cases h7 : w = nI 7
    · obtain ⟨r, e1, e2⟩ := s_clauses hRP
      rw [if_pos h7, e1, bs, e2, bs]
      dsimp only
      rw [if_pos rfl]
      exact go _ _ _ _ _ _ _ _ _ _ _ _ _ _ _ _ _ _ _ _ _ _ _ _ _ _ hRL hRF hRM hRP
    rw [if_neg h7]
    by_cases h8 : w = nI 8
    · obtain ⟨r, e1, e2⟩ := s_literals hRP x1
      rw [if_pos h8, if_pos r1, e1, bs, if_pos r1, e2, bs]
      dsimp only
      rw [if_pos rfl]
      exact go _ _ _ _ _ _ _ _ _ _ _ _ _ _ _ _ _ _ _ _ _ _ _ _ _ _ hRL hRF hRM hRP
    rw [if_neg h8]
    by_cases h9 : w = nI 9
    · obtain ⟨r, e1, e2⟩ := s_literal hRP x1 x2
      rw [if_pos h9, if_pos r1, if_pos r2, e1, bs, if_pos r1, if_pos r2, e2, bs]
      dsimp only
      rw [if_pos rfl]
      exact go _ _ _ _ _ _ _ _ _ _ _ _ _ _ _ _ _ _ _ _ _ _ _ _ _ _ hRL hRF hRM hRP
    rw [if_neg h9]
    by_cases h10 : w = nI 10
    · obtain ⟨r, e1, e2⟩ := s_letter hRP x1
      rw [if_pos h10, if_pos r1, e1, bs, if_pos r1, e2, bs]
      dsimp only
      rw [if_pos rfl]
      exact go _ _ _ _ _ _ _ _ _ _ _ _ _ _ _ _ _ _ _ _ _ _ _ _ _ _ hRL hRF hRM hRP
    rw [if_neg h10]
    by_cases h11 : w = nI 11
    · obtain ⟨r, e1, e2⟩ := s_subsumes hRP x1 x2
      rw [if_pos h11, if_pos r1, if_pos r2, e1, bs, if_pos r1, if_pos r2, e2, bs]
      dsimp only
      rw [if_pos rfl]
      exact go _ _ _ _ _ _ _ _ _ _ _ _ _ _ _ _ _ _ _ _ _ _ _ _ _ _ hRL hRF hRM hRP
    rw [if_neg h11]
    by_cases h12 : w = nI 12
    · obtain ⟨r, gp', rc', la', fc', gi', ro', fr', e1, e2⟩ := s_given hRP hRF gp rc la fc gi ro fr x1 x2
      rw [if_pos h12, if_pos r1, if_pos r2, e1, bs, if_pos r1, if_pos r2, e2, bs]
      dsimp only
      rw [if_pos rfl]
      exact go _ _ _ _ _ _ _ _ _ _ _ _ _ _ _ _ _ _ _ _ _ _ _ _ _ _ hRL hRF hRM hRP
    rw [if_neg h12]
    by_cases h13 : w = nI 13
    · obtain ⟨r, gp', rc', la', fc', gi', ro', fr', e1, e2⟩ := s_rounds hRP hRF gp rc la fc gi ro fr
      rw [if_pos h13, e1, bs, e2, bs]
      dsimp only
      rw [if_pos rfl]
      exact go _ _ _ _ _ _ _ _ _ _ _ _ _ _ _ _ _ _ _ _ _ _ _ _ _ _ hRL hRF hRM hRP
    rw [if_neg h13]
    by_cases h14 : w = nI 14
    · obtain ⟨r, gp', rc', la', fc', gi', ro', fr', e1, e2⟩ := s_fits hRP hRF hRM gp rc la fc gi ro fr
      rw [if_pos h14, e1, bs, e2, bs]
      dsimp only
      rw [if_pos rfl]
      exact go _ _ _ _ _ _ _ _ _ _ _ _ _ _ _ _ _ _ _ _ _ _ _ _ _ _ hRL hRF hRM hRP
    rw [if_neg h14]
    by_cases h15 : w = nI 15
    · obtain ⟨r, ct', gp', rc', cu', oc', la', bd', gi', mn', cs', om', ocs', ro', fr', fc', e1, e2, e3⟩ := s_learn hRP hRF hRM gp rc la oc fc gi ro fr om ocs
      rw [if_pos h15, e1, bs, e2, bs]
      dsimp only
      rw [if_pos rfl]
      exact go _ _ _ _ _ _ _ _ _ _ _ _ _ _ _ _ _ _ _ _ _ _ _ _ _ _ hRL hRF hRM e3
    rw [if_neg h15]
    exact go _ _ _ _ _ _ _ _ _ _ _ _ _ _ _ _ _ _ _ _ _ _ _ _ _ _ hRL hRF hRM hRP
theorem law_eq (xs : Nat → Int32) (L : Nat) (hL : L ≤ 2048) : m_W_law_18 xs L 520 0 0 0 (fun _ => 0) (fun _ => 0) 0 (fun _ => 0) 0 0 (fun _ => 0) (fun _ => 0) 0 0 0 0 0 (fun _ => 0) (fun _ => 0) (fun _ => 0) (fun _ => 0) (fun _ => 0) (fun _ => 0) (fun _ => 0) (fun _ => 0) (fun _ => 0) (fun _ => 0) (nI 0) = some (nI 1) := by
  refine law_all hL 519 0 (by omega) (by decide) _ _ _ _ _ _ _ _ _ _ _ _ _ _ _ _ _ _ _ _ _ _ _ _ _ _ ?_ ?_ ?_ ?_
  · exact ⟨0, by decide, rfl, rfl, fun j hj => absurd hj (Nat.not_lt_zero j)⟩
  · intro r hr
    refine ⟨fun p hp => ?_, fun i hi => b_0 i⟩
    rw [b_0]
    rfl
  · refine ⟨fun p hp => ?_, fun p h => absurd h (by rw [b_0]; decide), fun i hi => ⟨b_0 i, b_0 i⟩⟩
    rw [b_0]
    rfl
  · exact ⟨[], by decide, rfl, rfl, fun j hj => absurd hj (Nat.not_lt_zero j)⟩
end
