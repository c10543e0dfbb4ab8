section
-- ===== PART A: goes FIRST, ahead of the names: the tables' words, and 'selects' of the private methods out of them =====
/-- a private method of a class that the tables say can be made, by its rows of tables_1 -/
def lw_okq (q : MethodName × Nat) : Prop := (q.1.cls ≠ "java/lang/invoke/MethodHandle" ∧ q.1.cls ≠ "java/lang/invoke/VarHandle") ∧ Cond.instantiable q.1.cls q.2 ∈ tables_1 ∧ Cond.privateMethod q.1 ∈ tables_1 ∧ Cond.instanceMethod q.1 ∈ tables_1
theorem lw_p0 : lw_okq (⟨"HornLearner$Line", "form", "()Ljava/lang/String;"⟩, 2) := ⟨⟨by decide +kernel, by decide +kernel⟩, List.mem_of_getElem? (i := 22) (by decide +kernel), List.mem_of_getElem? (i := 116) (by decide +kernel), List.mem_of_getElem? (i := 117) (by decide +kernel)⟩
theorem lw_p1 : lw_okq (⟨"HornLearner", "carryOutLine", "()I"⟩, 6) := ⟨⟨by decide +kernel, by decide +kernel⟩, List.mem_of_getElem? (i := 14) (by decide +kernel), List.mem_of_getElem? (i := 189) (by decide +kernel), List.mem_of_getElem? (i := 190) (by decide +kernel)⟩
theorem lw_p2 : lw_okq (⟨"HornLearner", "addClause", "(II)I"⟩, 6) := ⟨⟨by decide +kernel, by decide +kernel⟩, List.mem_of_getElem? (i := 14) (by decide +kernel), List.mem_of_getElem? (i := 263) (by decide +kernel), List.mem_of_getElem? (i := 264) (by decide +kernel)⟩
theorem lw_p3 : lw_okq (⟨"HornLearner", "changeMarks", "(II)I"⟩, 6) := ⟨⟨by decide +kernel, by decide +kernel⟩, List.mem_of_getElem? (i := 14) (by decide +kernel), List.mem_of_getElem? (i := 297) (by decide +kernel), List.mem_of_getElem? (i := 298) (by decide +kernel)⟩
theorem lw_p4 : lw_okq (⟨"HornLearner", "changeFacts", "(IIZ)I"⟩, 6) := ⟨⟨by decide +kernel, by decide +kernel⟩, List.mem_of_getElem? (i := 14) (by decide +kernel), List.mem_of_getElem? (i := 303) (by decide +kernel), List.mem_of_getElem? (i := 304) (by decide +kernel)⟩
theorem lw_p5 : lw_okq (⟨"HornLearner", "deduceProgram", "()V"⟩, 6) := ⟨⟨by decide +kernel, by decide +kernel⟩, List.mem_of_getElem? (i := 14) (by decide +kernel), List.mem_of_getElem? (i := 402) (by decide +kernel), List.mem_of_getElem? (i := 403) (by decide +kernel)⟩
theorem lw_p6 : lw_okq (⟨"HornLearner$Deduction", "pairsFrom", "(I)I"⟩, 4) := ⟨⟨by decide +kernel, by decide +kernel⟩, List.mem_of_getElem? (i := 51) (by decide +kernel), List.mem_of_getElem? (i := 422) (by decide +kernel), List.mem_of_getElem? (i := 423) (by decide +kernel)⟩
theorem lw_p7 : lw_okq (⟨"HornLearner", "deductionFits", "()Z"⟩, 6) := ⟨⟨by decide +kernel, by decide +kernel⟩, List.mem_of_getElem? (i := 14) (by decide +kernel), List.mem_of_getElem? (i := 442) (by decide +kernel), List.mem_of_getElem? (i := 443) (by decide +kernel)⟩
theorem lw_p8 : lw_okq (⟨"HornLearner", "takeIfFitting", "(II)Z"⟩, 6) := ⟨⟨by decide +kernel, by decide +kernel⟩, List.mem_of_getElem? (i := 14) (by decide +kernel), List.mem_of_getElem? (i := 453) (by decide +kernel), List.mem_of_getElem? (i := 454) (by decide +kernel)⟩
theorem lw_p9 : lw_okq (⟨"HornLearner", "learnTwoClauses", "(I)Z"⟩, 6) := ⟨⟨by decide +kernel, by decide +kernel⟩, List.mem_of_getElem? (i := 14) (by decide +kernel), List.mem_of_getElem? (i := 461) (by decide +kernel), List.mem_of_getElem? (i := 462) (by decide +kernel)⟩
theorem lw_p10 : lw_okq (⟨"HornLearnerModel", "fault", "()I"⟩, 15) := ⟨⟨by decide +kernel, by decide +kernel⟩, List.mem_of_getElem? (i := 465) (by decide +kernel), List.mem_of_getElem? (i := 530) (by decide +kernel), List.mem_of_getElem? (i := 531) (by decide +kernel)⟩
theorem lw_p11 : lw_okq (⟨"HornLearnerModel", "goesOn", "(I)Z"⟩, 15) := ⟨⟨by decide +kernel, by decide +kernel⟩, List.mem_of_getElem? (i := 465) (by decide +kernel), List.mem_of_getElem? (i := 534) (by decide +kernel), List.mem_of_getElem? (i := 535) (by decide +kernel)⟩
theorem lw_p12 : lw_okq (⟨"HornLearnerModel", "whole", "()Z"⟩, 15) := ⟨⟨by decide +kernel, by decide +kernel⟩, List.mem_of_getElem? (i := 465) (by decide +kernel), List.mem_of_getElem? (i := 556) (by decide +kernel), List.mem_of_getElem? (i := 557) (by decide +kernel)⟩
theorem lw_p13 : lw_okq (⟨"HornLearnerModel", "enterClause", "()I"⟩, 15) := ⟨⟨by decide +kernel, by decide +kernel⟩, List.mem_of_getElem? (i := 465) (by decide +kernel), List.mem_of_getElem? (i := 560) (by decide +kernel), List.mem_of_getElem? (i := 561) (by decide +kernel)⟩
theorem lw_p14 : lw_okq (⟨"HornLearnerModel", "readBody", "()V"⟩, 15) := ⟨⟨by decide +kernel, by decide +kernel⟩, List.mem_of_getElem? (i := 465) (by decide +kernel), List.mem_of_getElem? (i := 564) (by decide +kernel), List.mem_of_getElem? (i := 565) (by decide +kernel)⟩
theorem lw_p15 : lw_okq (⟨"HornLearnerModel", "known", "(I)Z"⟩, 15) := ⟨⟨by decide +kernel, by decide +kernel⟩, List.mem_of_getElem? (i := 465) (by decide +kernel), List.mem_of_getElem? (i := 574) (by decide +kernel), List.mem_of_getElem? (i := 575) (by decide +kernel)⟩
def lw_privs_1 : List (MethodName × Nat) := [(⟨"HornLearner$Line", "form", "()Ljava/lang/String;"⟩, 2), (⟨"HornLearner", "carryOutLine", "()I"⟩, 6), (⟨"HornLearner", "addClause", "(II)I"⟩, 6), (⟨"HornLearner", "changeMarks", "(II)I"⟩, 6), (⟨"HornLearner", "changeFacts", "(IIZ)I"⟩, 6), (⟨"HornLearner", "deduceProgram", "()V"⟩, 6), (⟨"HornLearner$Deduction", "pairsFrom", "(I)I"⟩, 4), (⟨"HornLearner", "deductionFits", "()Z"⟩, 6), (⟨"HornLearner", "takeIfFitting", "(II)Z"⟩, 6), (⟨"HornLearner", "learnTwoClauses", "(I)Z"⟩, 6), (⟨"HornLearnerModel", "fault", "()I"⟩, 15), (⟨"HornLearnerModel", "goesOn", "(I)Z"⟩, 15), (⟨"HornLearnerModel", "whole", "()Z"⟩, 15), (⟨"HornLearnerModel", "enterClause", "()I"⟩, 15), (⟨"HornLearnerModel", "readBody", "()V"⟩, 15), (⟨"HornLearnerModel", "known", "(I)Z"⟩, 15)]
theorem lw_r1 : ∀ q ∈ lw_privs_1, lw_okq q := List.forall_mem_cons.mpr ⟨lw_p0, List.forall_mem_cons.mpr ⟨lw_p1, List.forall_mem_cons.mpr ⟨lw_p2, List.forall_mem_cons.mpr ⟨lw_p3, List.forall_mem_cons.mpr ⟨lw_p4, List.forall_mem_cons.mpr ⟨lw_p5, List.forall_mem_cons.mpr ⟨lw_p6, List.forall_mem_cons.mpr ⟨lw_p7, List.forall_mem_cons.mpr ⟨lw_p8, List.forall_mem_cons.mpr ⟨lw_p9, List.forall_mem_cons.mpr ⟨lw_p10, List.forall_mem_cons.mpr ⟨lw_p11, List.forall_mem_cons.mpr ⟨lw_p12, List.forall_mem_cons.mpr ⟨lw_p13, List.forall_mem_cons.mpr ⟨lw_p14, List.forall_mem_cons.mpr ⟨lw_p15, fun _ h => absurd h List.not_mem_nil⟩⟩⟩⟩⟩⟩⟩⟩⟩⟩⟩⟩⟩⟩⟩⟩
theorem lw_p16 : lw_okq (⟨"HornLearnerModel", "enterMark", "(II)I"⟩, 15) := ⟨⟨by decide +kernel, by decide +kernel⟩, List.mem_of_getElem? (i := 465) (by decide +kernel), List.mem_of_getElem? (i := 578) (by decide +kernel), List.mem_of_getElem? (i := 579) (by decide +kernel)⟩
theorem lw_p17 : lw_okq (⟨"HornLearnerModel", "enterFact", "(IZ)I"⟩, 15) := ⟨⟨by decide +kernel, by decide +kernel⟩, List.mem_of_getElem? (i := 465) (by decide +kernel), List.mem_of_getElem? (i := 582) (by decide +kernel), List.mem_of_getElem? (i := 583) (by decide +kernel)⟩
theorem lw_p18 : lw_okq (⟨"HornLearnerModel", "clause", "(I)Z"⟩, 15) := ⟨⟨by decide +kernel, by decide +kernel⟩, List.mem_of_getElem? (i := 465) (by decide +kernel), List.mem_of_getElem? (i := 605) (by decide +kernel), List.mem_of_getElem? (i := 606) (by decide +kernel)⟩
theorem lw_p19 : lw_okq (⟨"HornLearnerModel", "work", "()V"⟩, 15) := ⟨⟨by decide +kernel, by decide +kernel⟩, List.mem_of_getElem? (i := 465) (by decide +kernel), List.mem_of_getElem? (i := 639) (by decide +kernel), List.mem_of_getElem? (i := 640) (by decide +kernel)⟩
theorem lw_p20 : lw_okq (⟨"HornLearnerModel", "follows", "(II)Z"⟩, 15) := ⟨⟨by decide +kernel, by decide +kernel⟩, List.mem_of_getElem? (i := 465) (by decide +kernel), List.mem_of_getElem? (i := 643) (by decide +kernel), List.mem_of_getElem? (i := 644) (by decide +kernel)⟩
theorem lw_p21 : lw_okq (⟨"HornLearnerModel", "literalHolds", "(IIII)Z"⟩, 15) := ⟨⟨by decide +kernel, by decide +kernel⟩, List.mem_of_getElem? (i := 465) (by decide +kernel), List.mem_of_getElem? (i := 647) (by decide +kernel), List.mem_of_getElem? (i := 648) (by decide +kernel)⟩
theorem lw_p22 : lw_okq (⟨"HornLearnerModel", "keep", "()V"⟩, 15) := ⟨⟨by decide +kernel, by decide +kernel⟩, List.mem_of_getElem? (i := 465) (by decide +kernel), List.mem_of_getElem? (i := 666) (by decide +kernel), List.mem_of_getElem? (i := 667) (by decide +kernel)⟩
theorem lw_p23 : lw_okq (⟨"HornLearnerModel", "alone", "(I)Z"⟩, 15) := ⟨⟨by decide +kernel, by decide +kernel⟩, List.mem_of_getElem? (i := 465) (by decide +kernel), List.mem_of_getElem? (i := 670) (by decide +kernel), List.mem_of_getElem? (i := 671) (by decide +kernel)⟩
theorem lw_p24 : lw_okq (⟨"HornLearnerModel", "set", "(IIII)Z"⟩, 15) := ⟨⟨by decide +kernel, by decide +kernel⟩, List.mem_of_getElem? (i := 465) (by decide +kernel), List.mem_of_getElem? (i := 674) (by decide +kernel), List.mem_of_getElem? (i := 675) (by decide +kernel)⟩
theorem lw_p25 : lw_okq (⟨"HornLearnerModel", "pair", "(I)Z"⟩, 15) := ⟨⟨by decide +kernel, by decide +kernel⟩, List.mem_of_getElem? (i := 465) (by decide +kernel), List.mem_of_getElem? (i := 679) (by decide +kernel), List.mem_of_getElem? (i := 680) (by decide +kernel)⟩
theorem lw_p26 : lw_okq (⟨"HornLearnerModel", "putBack", "()V"⟩, 15) := ⟨⟨by decide +kernel, by decide +kernel⟩, List.mem_of_getElem? (i := 465) (by decide +kernel), List.mem_of_getElem? (i := 683) (by decide +kernel), List.mem_of_getElem? (i := 684) (by decide +kernel)⟩
def lw_privs_2 : List (MethodName × Nat) := [(⟨"HornLearnerModel", "enterMark", "(II)I"⟩, 15), (⟨"HornLearnerModel", "enterFact", "(IZ)I"⟩, 15), (⟨"HornLearnerModel", "clause", "(I)Z"⟩, 15), (⟨"HornLearnerModel", "work", "()V"⟩, 15), (⟨"HornLearnerModel", "follows", "(II)Z"⟩, 15), (⟨"HornLearnerModel", "literalHolds", "(IIII)Z"⟩, 15), (⟨"HornLearnerModel", "keep", "()V"⟩, 15), (⟨"HornLearnerModel", "alone", "(I)Z"⟩, 15), (⟨"HornLearnerModel", "set", "(IIII)Z"⟩, 15), (⟨"HornLearnerModel", "pair", "(I)Z"⟩, 15), (⟨"HornLearnerModel", "putBack", "()V"⟩, 15)]
theorem lw_r2 : ∀ q ∈ lw_privs_2, lw_okq q := List.forall_mem_cons.mpr ⟨lw_p16, List.forall_mem_cons.mpr ⟨lw_p17, List.forall_mem_cons.mpr ⟨lw_p18, List.forall_mem_cons.mpr ⟨lw_p19, List.forall_mem_cons.mpr ⟨lw_p20, List.forall_mem_cons.mpr ⟨lw_p21, List.forall_mem_cons.mpr ⟨lw_p22, List.forall_mem_cons.mpr ⟨lw_p23, List.forall_mem_cons.mpr ⟨lw_p24, List.forall_mem_cons.mpr ⟨lw_p25, List.forall_mem_cons.mpr ⟨lw_p26, fun _ h => absurd h List.not_mem_nil⟩⟩⟩⟩⟩⟩⟩⟩⟩⟩⟩
def lw_privs : List (MethodName × Nat) := lw_privs_1 ++ (lw_privs_2)
def lw_tbl : List Cond := k2_sels lw_privs ++ tables_1
theorem lw_privs_ok : ∀ q ∈ lw_privs, lw_okq q := by
  show ∀ q ∈ lw_privs_1 ++ (lw_privs_2), lw_okq q
  exact List.forall_mem_append.mpr ⟨lw_r1, lw_r2⟩
end
section
-- small rows for the mirrors
def inR (i : Int32) (n : Nat) : Bool := decide (0 ≤ i.toInt) && decide (i.toInt < n)
theorem inR_iff {i : Int32} {n : Nat} : inR i n = true ↔ 0 ≤ i.toInt ∧ i.toInt < n := by simp [inR]
theorem inR_in {i : Int32} {n : Nat} (h : inR i n = true) : vp_in i n := vp_in_iff.mpr (inR_iff.mp h)
def isZ (x : Int32) : Bool := decide (x = 0) || decide (x = 1)
theorem isZ_iff {x : Int32} : isZ x = true ↔ x = 0 ∨ x = 1 := by simp [isZ]
theorem nrz {x : Int32} (h : isZ x = true) : narrow .boolean (.int x) = .int x := by
  rcases isZ_iff.mp h with rfl | rfl <;> rfl
theorem nar_z {x : Int32} (h : isZ x = true) : vp_nar .boolean x = x := by
  rcases isZ_iff.mp h with rfl | rfl <;> rfl
def isC (x : Int32) : Bool := decide (0 ≤ x.toInt) && decide (x.toInt < 65536)
theorem isC_iff {x : Int32} : isC x = true ↔ 0 ≤ x.toInt ∧ x.toInt < 65536 := by simp [isC]
theorem isC_nI {x : Int32} (h : isC x = true) : ∃ q : Nat, q < 65536 ∧ x = nI q := by
  obtain ⟨h1, h2⟩ := isC_iff.mp h
  exact vp_in_of (vp_in_iff.mpr ⟨h1, h2⟩) (by decide)
theorem nrc {x : Int32} (h : isC x = true) : narrow .char (.int x) = .int x := by
  obtain ⟨q, hq, rfl⟩ := isC_nI h
  exact (pk_charN hq).1
theorem nar_c {x : Int32} (h : isC x = true) : vp_nar .char x = x := by
  unfold vp_nar
  rw [nrc h]
def irm (x y : Int32) : Int32 := x - x / y * y
def iush (x y : Int32) : Int32 := (x.toUInt32 >>> (y.toUInt32 &&& Int32.toUInt32 31)).toInt32
def lush (x : Int64) (y : Int32) : Int64 := (x.toUInt64 >>> (y.toInt64.toUInt64 &&& Int64.toUInt64 63)).toInt64
def i2c (x : Int32) : Int32 := (x.toUInt32 % 65536).toInt32
theorem of_pos {α : Type} {c : Prop} [Decidable c] {a b r : α} (h : (if c then a else b) = r) (hc : c) : a = r := by rw [if_pos hc] at h; exact h
theorem of_neg {α : Type} {c : Prop} [Decidable c] {a b r : α} (h : (if c then a else b) = r) (hc : ¬ c) : b = r := by rw [if_neg hc] at h; exact h
theorem of_guard {α : Type} {b : Bool} {x : Option α} {r : α} (h : (if b = true then x else none) = some r) : b = true ∧ x = some r := by
  by_cases hb : b = true
  · rw [if_pos hb] at h; exact ⟨hb, h⟩
  · rw [if_neg hb] at h; cases h
theorem of_bind {α β : Type} {x : Option α} {f : α → Option β} {r : β} (h : Option.bind x f = some r) : ∃ v, x = some v ∧ f v = some r := by
  cases x with
  | none => cases h
  | some v => exact ⟨v, rfl, h⟩
def letN {α β : Type} (x : α) (f : α → β) : β := f x
theorem of_let {α β : Type} {x y : α} {f : α → β} {r : β} (h : letN x f = r) (e : y = x) : f y = r := by subst e; exact h
theorem W_gen {p : Program} {l : Launch} {e : Env} {R : Room} {s : State} {m : MethodId} {args : Array Value} {below : List Frame} {meth : Method} {c : Code} {H : Heap} {locs : List Loc} {cells slots : Nat} {Q0 : State → Prop} {g : JFrame} (k : ∀ Q : State → Prop, Q = Q0 → W p l e R s m args below meth c H locs cells slots Q g) : W p l e R s m args below meth c H locs cells slots Q0 g := k Q0 rfl
theorem W_heap {p : Program} {l : Launch} {e : Env} {R : Room} {s : State} {m : MethodId} {args : Array Value} {below : List Frame} {meth : Method} {c : Code} {H H0 : Heap} {locs : List Loc} {cells slots : Nat} {Q : State → Prop} {g : JFrame} (e1 : H = H0) (k : W p l e R s m args below meth c H locs cells slots Q g) : W p l e R s m args below meth c H0 locs cells slots Q g := e1 ▸ k
/-! ===== Int32 by its bits: bt x i ===== -/
def bt (x : Int32) (i : Nat) : Bool := x.toBitVec.getLsbD i
theorem b_ext {x y : Int32} (h : ∀ i, i < 32 → bt x i = bt y i) : x = y := Int32.toBitVec_inj.mp (BitVec.eq_of_getLsbD_eq (fun i hi => h i hi))
theorem b_or (x y : Int32) (i : Nat) : bt (x ||| y) i = (bt x i || bt y i) := by unfold bt; rw [Int32.toBitVec_or, BitVec.getLsbD_or]
theorem b_and (x y : Int32) (i : Nat) : bt (x &&& y) i = (bt x i && bt y i) := by unfold bt; rw [Int32.toBitVec_and, BitVec.getLsbD_and]
theorem b_xor (x y : Int32) (i : Nat) : bt (x ^^^ y) i = (bt x i ^^ bt y i) := by unfold bt; rw [Int32.toBitVec_xor, BitVec.getLsbD_xor]
theorem b_big {x : Int32} {i : Nat} (h : 32 ≤ i) : bt x i = false := BitVec.getLsbD_of_ge _ _ h
theorem b_255 (i : Nat) : bt 255 i = decide (i < 8) := by
  rcases Nat.lt_or_ge i 32 with h | h
  · exact (by decide +kernel : ∀ i, i < 32 → bt 255 i = decide (i < 8)) i h
  · rw [b_big h, decide_eq_false (by omega)]
theorem b_65535 (i : Nat) : bt 65535 i = decide (i < 16) := by
  rcases Nat.lt_or_ge i 32 with h | h
  · exact (by decide +kernel : ∀ i, i < 32 → bt 65535 i = decide (i < 16)) i h
  · rw [b_big h, decide_eq_false (by omega)]
theorem b_m1 : ∀ i, i < 32 → bt (-1) i = true := by decide +kernel
theorem b_0 (i : Nat) : bt 0 i = false := BitVec.getLsbD_zero
theorem s_l : ∀ n, n < 32 → ((nI n &&& 31).toBitVec.smod 32).toNat = n := by decide +kernel
theorem s_u : ∀ n, n < 32 → (((nI n).toUInt32 &&& Int32.toUInt32 31).toBitVec % 32).toNat = n := by decide +kernel
theorem b_shl (n : Nat) (hn : n < 32) (x : Int32) {i : Nat} (hi : i < 32) : bt (x <<< (nI n &&& 31)) i = (decide (n ≤ i) && bt x (i - n)) := by
  unfold bt
  rw [Int32.toBitVec_shiftLeft]
  show (x.toBitVec <<< ((nI n &&& 31).toBitVec.smod 32).toNat).getLsbD i = _
  rw [s_l n hn, BitVec.getLsbD_shiftLeft]
  rcases Nat.lt_or_ge i n with h | h
  · simp [h, Nat.not_le.mpr h]
  · simp [hi, h, Nat.not_lt.mpr h]
theorem b_ushr (n : Nat) (hn : n < 32) (x : Int32) (i : Nat) : bt ((x.toUInt32 >>> ((nI n).toUInt32 &&& Int32.toUInt32 31)).toInt32) i = bt x (n + i) := by
  show (x.toUInt32 >>> ((nI n).toUInt32 &&& Int32.toUInt32 31)).toBitVec.getLsbD i = x.toUInt32.toBitVec.getLsbD (n + i)
  rw [UInt32.toBitVec_shiftRight]
  show (x.toUInt32.toBitVec >>> (((nI n).toUInt32 &&& Int32.toUInt32 31).toBitVec % 32).toNat).getLsbD i = _
  rw [s_u n hn, BitVec.getLsbD_ushiftRight]
theorem b_sshr (n : Nat) (hn : n < 32) (x : Int32) {i : Nat} (hi : i < 32) : bt (x >>> (nI n &&& 31)) i = if n + i < 32 then bt x (n + i) else bt x 31 := by
  unfold bt
  rw [Int32.toBitVec_shiftRight]
  show (x.toBitVec.sshiftRight ((nI n &&& 31).toBitVec.smod 32).toNat).getLsbD i = _
  rw [s_l n hn, BitVec.getLsbD_sshiftRight, BitVec.msb_eq_getLsbD_last]
  simp [hi]
theorem b_shl8 (x : Int32) {i : Nat} (hi : i < 32) : bt (x <<< ((8 : Int32) &&& 31)) i = (decide (8 ≤ i) && bt x (i - 8)) := b_shl 8 (by omega) x hi
theorem b_shl16 (x : Int32) {i : Nat} (hi : i < 32) : bt (x <<< ((16 : Int32) &&& 31)) i = (decide (16 ≤ i) && bt x (i - 16)) := b_shl 16 (by omega) x hi
theorem b_shl24 (x : Int32) {i : Nat} (hi : i < 32) : bt (x <<< ((24 : Int32) &&& 31)) i = (decide (24 ≤ i) && bt x (i - 24)) := b_shl 24 (by omega) x hi
theorem b_sshr8 (x : Int32) {i : Nat} (hi : i < 32) : bt (x >>> ((8 : Int32) &&& 31)) i = if 8 + i < 32 then bt x (8 + i) else bt x 31 := b_sshr 8 (by omega) x hi
-- the constants: the table of choices, the texts, two statics of the JDK's
def tabL (j : Nat) : Int64 := ([4222189076152335, 67555025218437360, 1080880403494997760, -1152657617789587456, 1229782938247303441, 2459565876494606882, 4919131752989213764, -8608480567731124088, 65535, 4294901760, 281470681743360, -281474976710656] : List Int64).getD j 0
def xlen : List Nat := [3, 3, 8, 6, 7, 7, 7, 28, 0]
def xbyt : List (List Int32) := [[97, 98, 116], [88, 89, 90], [116, 40, 88, 44, 89, 41, 58, 45], [102, 40, 99, 44, 99, 41], [126, 114, 40, 99, 44, 99, 41], [43, 116, 40, 99, 44, 99, 41], [45, 116, 40, 99, 44, 99, 41], [116, 40, 88, 44, 89, 41, 58, 45, 114, 40, 118, 44, 118, 41, 44, 114, 40, 118, 44, 118, 41, 44, 114, 40, 118, 44, 118, 41], []]
def inN (i : Nat) : Bool := decide (i < 9)
theorem inN_lt {i : Nat} (h : inN i = true) : i < 9 := of_decide_eq_true h
end
section
def m_I_bitCount (x0 : Int32) : Option (Int32 × Unit) := (letN (((x0 - ((iush x0 (nI 1)) &&& (nI 1431655765))) &&& (nI 858993459)) + ((iush (x0 - ((iush x0 (nI 1)) &&& (nI 1431655765))) (nI 2)) &&& (nI 858993459))) (fun w_23 => (letN (((w_23 + (iush w_23 (nI 4))) &&& (nI 252645135)) + (iush ((w_23 + (iush w_23 (nI 4))) &&& (nI 252645135)) (nI 8))) (fun w_40 => some ((w_40 + (iush w_40 (nI 16))) &&& (nI 63), ())))))
def m_S_coder (x0 : Nat) : Option (Int32 × Unit) := (if (nI 1) = (nI 0) then some ((nI 1), ()) else (if inN x0 = true then some ((nI 0), ()) else none))
def m_S_isLatin1 (x0 : Nat) : Option (Int32 × Unit) := (if (nI 1) = (nI 0) then some ((nI 0), ()) else (if inN x0 = true then (if (nI 0) = (nI 0) then some ((nI 1), ()) else some ((nI 0), ())) else none))
def m_S_length (x0 : Nat) : Option (Int32 × Unit) := (if inN x0 = true then (if inN x0 = true then (if inN x0 = true then (Option.bind (m_S_coder x0) (fun v_6 => some ((nI (xlen.getD x0 0)) >>> (v_6.1 &&& 31), ()))) else none) else none) else none)
def m_Q_checkIndex (x0 : Int32) (x1 : Int32) : Option (Int32 × Unit) := (if x0 < (nI 0) then none else (if x0 < x1 then some (x0, ()) else none))
def m_S_checkIndex (x0 : Int32) (x1 : Int32) : Option Unit := (Option.bind (m_Q_checkIndex x0 x1) (fun v_5 => some ()))
def m_T_charAt (x0 : Nat) (x1 : Int32) : Option (Int32 × Unit) := (if inN x0 = true then (Option.bind (m_S_checkIndex x1 (nI (xlen.getD x0 0))) (fun v_3 => (if inN x0 = true then (if inR x1 (xlen.getD x0 0) = true then (if isC (i2c (((xbyt.getD x0 []).getD x1.toNatClampNeg 0) &&& (nI 255))) = true then some (i2c (((xbyt.getD x0 []).getD x1.toNatClampNeg 0) &&& (nI 255)), ()) else none) else none) else none))) else none)
def m_S_charAt (x0 : Nat) (x1 : Int32) : Option (Int32 × Unit) := (if inN x0 = true then (Option.bind (m_S_isLatin1 x0) (fun v_1 => (if v_1.1 = (nI 0) then none else (if inN x0 = true then (Option.bind (m_T_charAt x0 x1) (fun v_12 => (if isC v_12.1 = true then some (v_12.1, ()) else none))) else none)))) else none)
def m_T_canEncode (x0 : Int32) : Option (Int32 × Unit) := (if x0 < (nI 0) then some ((nI 0), ()) else (if (nI 255) < x0 then some ((nI 0), ()) else some ((nI 1), ())))
def m_T_indexOfChar_7 : Nat → Nat → Int32 → Int32 → Int32 → Option (Int32 × Unit)
  | 0, _, _, _, _ => none
  | n + 1, z0, z3, z4, z5 => (if z3 ≤ z5 then some ((-1 : Int32), ()) else (if inN z0 = true then (if inR z5 (xlen.getD z0 0) = true then (if ((xbyt.getD z0 []).getD z5.toNatClampNeg 0) = z4 then some (z5, ()) else m_T_indexOfChar_7 n z0 z3 z4 (z5 + (nI 1))) else none) else none))
def m_T_indexOfChar (x0 : Nat) (x1 : Int32) (x2 : Int32) (x3 : Int32) : Option (Int32 × Unit) := m_T_indexOfChar_7 40 x0 x3 x1.toInt8.toInt32 x2
def m_T_indexOf (x0 : Nat) (x1 : Int32) (x2 : Int32) (x3 : Int32) : Option (Int32 × Unit) := (Option.bind (m_T_canEncode x1) (fun v_1 => (if v_1.1 = (nI 0) then some ((-1 : Int32), ()) else (if inN x0 = true then (if (if x2 < (nI 0) then (nI 0) else x2) < (if nI (xlen.getD x0 0) < x3 then nI (xlen.getD x0 0) else x3) then (Option.bind (m_T_indexOfChar x0 x1 (if x2 < (nI 0) then (nI 0) else x2) (if nI (xlen.getD x0 0) < x3 then nI (xlen.getD x0 0) else x3)) (fun v_33 => some (v_33.1, ()))) else some ((-1 : Int32), ())) else none))))
def m_S_indexOf2 (x0 : Nat) (x1 : Int32) (x2 : Int32) : Option (Int32 × Unit) := (if inN x0 = true then (Option.bind (m_S_isLatin1 x0) (fun v_1 => (if v_1.1 = (nI 0) then none else (if inN x0 = true then (if inN x0 = true then (Option.bind (m_S_length x0) (fun v_14 => (Option.bind (m_T_indexOf x0 x1 x2 v_14.1) (fun v_17 => some (v_17.1, ()))))) else none) else none)))) else none)
def m_S_indexOf1 (x0 : Nat) (x1 : Int32) : Option (Int32 × Unit) := (if inN x0 = true then (Option.bind (m_S_indexOf2 x0 x1 (nI 0)) (fun v_3 => some (v_3.1, ()))) else none)
def m_H_isFactRelation (x0 : Int32) : Option (Int32 × Unit) := (if x0 < (nI 0) then some ((nI 0), ()) else (if (nI 2) ≤ x0 then some ((nI 0), ()) else some ((nI 1), ())))
def m_H_pairBit_23 (z0 : Int32) (z1 : Int32) (y0 : Int32) : Option (Int32 × Unit) := (if y0 = (nI 0) then some ((nI 0), ()) else some ((nI 1) <<< ((((nI 4) * z0) + z1) &&& 31), ()))
def m_H_pairBit_22 (z0 : Int32) (z1 : Int32) : Option (Int32 × Unit) := m_H_pairBit_23 z0 z1 (nI 0)
def m_H_pairBit (x0 : Int32) (x1 : Int32) : Option (Int32 × Unit) := (if x0 < (nI 0) then m_H_pairBit_22 x0 x1 else (if (nI 4) ≤ x0 then m_H_pairBit_22 x0 x1 else (if x1 < (nI 0) then m_H_pairBit_22 x0 x1 else (if (nI 4) ≤ x1 then m_H_pairBit_22 x0 x1 else m_H_pairBit_23 x0 x1 (nI 1)))))
def m_H_hasHeadVariables (x0 : Int32) : Option (Int32 × Unit) := (if (x0 &&& (nI 20749903)) = (nI 0) then some ((nI 0), ()) else (if (x0 &&& (nI 48854202)) = (nI 0) then some ((nI 0), ()) else some ((nI 1), ())))
def m_H_codeOf (x0 : Int32) (x1 : Int32) (x2 : Int32) : Option (Int32 × Unit) := some ((((nI 9) * x0) + ((nI 3) * x1)) + x2, ())
def m_H_relationOf (x0 : Int32) : Option (Int32 × Unit) := some (x0 / (nI 9), ())
def m_H_firstVariableOf (x0 : Int32) : Option (Int32 × Unit) := some (irm (x0 / (nI 3)) (nI 3), ())
def m_H_secondVariableOf (x0 : Int32) : Option (Int32 × Unit) := some (irm x0 (nI 3), ())
def m_H_leastCode (x0 : Int32) : Option (Int32 × Unit) := (Option.bind (m_I_bitCount ((x0 &&& (-x0)) - (nI 1))) (fun v_6 => some (v_6.1, ())))
def m_H_withoutLeastCode (x0 : Int32) : Option (Int32 × Unit) := some (x0 &&& (x0 - (nI 1)), ())
def m_H_codeAt_18 : Nat → Int32 → Int32 → Int32 → Option (Int32 × Unit)
  | 0, _, _, _ => none
  | n + 1, z1, z2, z3 => (if z1 ≤ z3 then (Option.bind (m_H_leastCode z2) (fun v_35 => some (v_35.1, ()))) else (Option.bind (m_H_withoutLeastCode z2) (fun v_24 => m_H_codeAt_18 n z1 v_24.1 (z3 + (nI 1)))))
def m_H_codeAt (x0 : Int32) (x1 : Int32) : Option (Int32 × Unit) := (if x1 < (nI 0) then some ((-1 : Int32), ()) else (Option.bind (m_I_bitCount x0) (fun v_6 => (if x1 < v_6.1 then m_H_codeAt_18 40 x1 x0 (nI 0) else some ((-1 : Int32), ())))))
def m_H_withVariableForZ_68 (k_7 : Int32 → Int32 → Int32 → Int32 → Option (Int32 × Unit)) (z1 : Int32) (z3 : Int32) (z4 : Int32) (y0 : Int32) (y1 : Int32) (y2 : Int32) (y3 : Int32) (y4 : Int32) : Option (Int32 × Unit) := (Option.bind (m_H_codeOf y2 y1 y0) (fun v_68 => (Option.bind (m_H_withoutLeastCode z3) (fun v_75 => k_7 z1 (y4 ||| (y3 <<< (v_68.1 &&& 31))) v_75.1 (z4 + (nI 1))))))
def m_H_withVariableForZ_56 (k_7 : Int32 → Int32 → Int32 → Int32 → Option (Int32 × Unit)) (z1 : Int32) (z3 : Int32) (z4 : Int32) (z7 : Int32) (y0 : Int32) (y1 : Int32) (y2 : Int32) (y3 : Int32) : Option (Int32 × Unit) := (if z7 = (nI 2) then m_H_withVariableForZ_68 k_7 z1 z3 z4 z1 y0 y1 y2 y3 else m_H_withVariableForZ_68 k_7 z1 z3 z4 z7 y0 y1 y2 y3)
def m_H_withVariableForZ_7 : Nat → Int32 → Int32 → Int32 → Int32 → Option (Int32 × Unit)
  | 0, _, _, _, _ => none
  | n + 1, z1, z2, z3, z4 => (if (nI 3) ≤ z4 then some (z2, ()) else (if z3 = (nI 0) then some (z2, ()) else (Option.bind (m_H_leastCode z3) (fun v_18 => (Option.bind (m_H_firstVariableOf v_18.1) (fun v_25 => (Option.bind (m_H_secondVariableOf v_18.1) (fun v_32 => (Option.bind (m_H_relationOf v_18.1) (fun v_41 => (if v_25.1 = (nI 2) then m_H_withVariableForZ_56 (m_H_withVariableForZ_7 n) z1 z3 z4 v_32.1 z1 v_41.1 (nI 1) z2 else m_H_withVariableForZ_56 (m_H_withVariableForZ_7 n) z1 z3 z4 v_32.1 v_25.1 v_41.1 (nI 1) z2)))))))))))
def m_H_withVariableForZ (x0 : Int32) (x1 : Int32) : Option (Int32 × Unit) := m_H_withVariableForZ_7 40 x1 (nI 0) x0 (nI 0)
def m_L_add (v_length : Int32) (v_typed : Nat → Int32) (x1 : Int32) : Option (Int32 × Int32 × (Nat → Int32)) := (if x1 < (nI 32) then some ((nI 0), (v_length, v_typed)) else (if (nI 126) < x1 then some ((nI 0), (v_length, v_typed)) else (if v_length < (nI 32) then (if inR v_length 32 = true then (if isC x1 = true then some ((nI 1), (v_length + (nI 1), upd v_typed v_length.toNatClampNeg x1)) else none) else none) else some ((nI 0), (v_length, v_typed)))))
def m_L_removeLast (v_length : Int32) : Option (Int32 × Int32) := (if v_length = (nI 0) then some ((nI 0), v_length) else some ((nI 1), v_length - (nI 1)))
def m_L_clear (v_length : Int32) : Option Int32 := some (nI 0)
def m_L_at (v_length : Int32) (v_typed : Nat → Int32) (x1 : Int32) : Option (Int32 × Unit) := (if x1 < (nI 0) then some ((nI 0), ()) else (if v_length ≤ x1 then some ((nI 0), ()) else (if inR x1 32 = true then (if isC (v_typed x1.toNatClampNeg) = true then some (v_typed x1.toNatClampNeg, ()) else none) else none)))
def m_L_form (v_length : Int32) (v_typed : Nat → Int32) : Option (Nat × Unit) := (Option.bind (m_L_at v_length v_typed (nI 0)) (fun v_2 => (if v_2.1 = (nI 43) then some (5, ()) else (if v_2.1 = (nI 45) then some (6, ()) else (if v_2.1 = (nI 97) then some (3, ()) else (if v_2.1 = (nI 98) then some (3, ()) else (if v_2.1 = (nI 116) then some (7, ()) else (if v_2.1 = (nI 126) then some (4, ()) else some (8, ())))))))))
def m_L_allows (x0 : Int32) (x1 : Int32) : Option (Int32 × Unit) := (if x0 = (nI 99) then (if x1 < (nI 48) then some ((nI 0), ()) else (if (nI 51) < x1 then some ((nI 0), ()) else some ((nI 1), ()))) else (if x0 = (nI 102) then (if x1 = (nI 97) then some ((nI 1), ()) else (if x1 = (nI 98) then some ((nI 1), ()) else some ((nI 0), ()))) else (if x0 = (nI 114) then (if x1 = (nI 97) then some ((nI 1), ()) else (if x1 = (nI 98) then some ((nI 1), ()) else (if x1 = (nI 116) then some ((nI 1), ()) else some ((nI 0), ())))) else (if x0 = (nI 118) then (if x1 = (nI 88) then some ((nI 1), ()) else (if x1 = (nI 89) then some ((nI 1), ()) else (if x1 = (nI 90) then some ((nI 1), ()) else some ((nI 0), ())))) else (if x1 = x0 then some ((nI 1), ()) else some ((nI 0), ()))))))
def m_L_begunStatement_7 (v_length : Int32) (v_typed : Nat → Int32) : Nat → Nat → Int32 → Option (Int32 × Unit)
  | 0, _, _ => none
  | n + 1, z1, z2 => (if v_length ≤ z2 then some (z2, ()) else (if inN z1 = true then (Option.bind (m_S_length z1) (fun v_17 => (if v_17.1 ≤ z2 then some (z2, ()) else (if inN z1 = true then (Option.bind (m_S_charAt z1 z2) (fun v_25 => (if inR z2 32 = true then (Option.bind (m_L_allows v_25.1 (v_typed z2.toNatClampNeg)) (fun v_34 => (if v_34.1 = (nI 0) then some (z2, ()) else m_L_begunStatement_7 v_length v_typed n z1 (z2 + (nI 1))))) else none))) else none)))) else none))
def m_L_begunStatement (v_length : Int32) (v_typed : Nat → Int32) : Option (Int32 × Unit) := (Option.bind (m_L_form v_length v_typed) (fun v_1 => m_L_begunStatement_7 v_length v_typed 40 v_1.1 (nI 0)))
def m_L_typedPair (v_length : Int32) (v_typed : Nat → Int32) : Option (Int32 × Unit) := (Option.bind (m_L_at v_length v_typed (v_length - (nI 4))) (fun v_7 => (Option.bind (m_L_at v_length v_typed (v_length - (nI 2))) (fun v_20 => (Option.bind (m_H_pairBit (v_7.1 - (nI 48)) (v_20.1 - (nI 48))) (fun v_26 => some (v_26.1, ())))))))
def m_L_typedLiterals (v_length : Int32) : Option (Int32 × Unit) := some (((v_length + (nI 1)) - (nI 8)) / (nI 7), ())
def m_L_endsStatement (v_length : Int32) (v_typed : Nat → Int32) (x1 : Int32) : Option (Int32 × Unit) := (if x1 = (nI 0) then some ((nI 0), ()) else (if v_length ≤ x1 then (if inR (nI 0) 32 = true then (if (v_typed (nI 0).toNatClampNeg) = (nI 116) then (Option.bind (m_L_typedLiterals v_length) (fun v_34 => (if v_length = ((nI 7) + ((nI 7) * v_34.1)) then (Option.bind (m_L_typedLiterals v_length) (fun v_43 => (if v_43.1 ≤ (nI 0) then some ((nI 0), ()) else some ((nI 1), ())))) else some ((nI 0), ())))) else (Option.bind (m_L_form v_length v_typed) (fun v_60 => (if inN v_60.1 = true then (Option.bind (m_S_length v_60.1) (fun v_63 => (if v_length = v_63.1 then some ((nI 1), ()) else some ((nI 0), ())))) else none)))) else none) else some ((nI 0), ())))
def m_L_typedBody_5 (v_length : Int32) (v_typed : Nat → Int32) : Nat → Int32 → Int32 → Option (Int32 × Unit)
  | 0, _, _ => none
  | n + 1, z1, z2 => (if v_length ≤ z2 then some (z1, ()) else (Option.bind (m_L_at v_length v_typed z2) (fun v_17 => (if inN 0 = true then (Option.bind (m_S_indexOf1 0 v_17.1) (fun v_20 => (Option.bind (m_L_at v_length v_typed (z2 + (nI 2))) (fun v_30 => (if inN 1 = true then (Option.bind (m_S_indexOf1 1 v_30.1) (fun v_33 => (Option.bind (m_L_at v_length v_typed (z2 + (nI 4))) (fun v_44 => (if inN 1 = true then (Option.bind (m_S_indexOf1 1 v_44.1) (fun v_47 => (Option.bind (m_H_codeOf v_20.1 v_33.1 v_47.1) (fun v_59 => m_L_typedBody_5 v_length v_typed n (z1 ||| ((nI 1) <<< (v_59.1 &&& 31))) (z2 + (nI 7)))))) else none))))) else none))))) else none))))
def m_L_typedBody (v_length : Int32) (v_typed : Nat → Int32) : Option (Int32 × Unit) := m_L_typedBody_5 v_length v_typed 40 (nI 0) (nI 8)
def m_P_bodyOf (v_count : Int32) (v_bodies : Nat → Int32) (x1 : Int32) : Option (Int32 × Unit) := (if x1 < (nI 0) then some ((nI 0), ()) else (if v_count ≤ x1 then some ((nI 0), ()) else (if inR x1 2 = true then some (v_bodies x1.toNatClampNeg, ()) else none)))
def m_P_contains (v_count : Int32) (v_bodies : Nat → Int32) (x1 : Int32) : Option (Int32 × Unit) := (Option.bind (m_P_bodyOf v_count v_bodies (nI 0)) (fun v_2 => (if v_2.1 = x1 then some ((nI 1), ()) else (Option.bind (m_P_bodyOf v_count v_bodies (nI 1)) (fun v_11 => (if v_11.1 = x1 then some ((nI 1), ()) else some ((nI 0), ())))))))
def m_P_append (v_count : Int32) (v_bodies : Nat → Int32) (x1 : Int32) : Option (Int32 × Int32 × (Nat → Int32)) := (if v_count < (nI 2) then (if inR v_count 2 = true then some ((v_count + (nI 1)) - (nI 1), (v_count + (nI 1), upd v_bodies v_count.toNatClampNeg x1)) else none) else some ((-1 : Int32), (v_count, v_bodies)))
def m_P_remove_26 (v_count : Int32) (v_bodies : Nat → Int32) : Option (Int32 × Int32 × (Nat → Int32)) := (if inR (nI 1) 2 = true then some ((nI 1), (v_count - (nI 1), upd v_bodies (nI 1).toNatClampNeg (nI 0))) else none)
def m_P_remove (v_count : Int32) (v_bodies : Nat → Int32) (x1 : Int32) : Option (Int32 × Int32 × (Nat → Int32)) := (Option.bind (m_P_bodyOf v_count v_bodies x1) (fun v_2 => (if v_2.1 = (nI 0) then some ((nI 0), (v_count, v_bodies)) else (if x1 = (nI 0) then (if inR (nI 1) 2 = true then (if inR (nI 0) 2 = true then m_P_remove_26 v_count (upd v_bodies (nI 0).toNatClampNeg (v_bodies (nI 1).toNatClampNeg)) else none) else none) else m_P_remove_26 v_count v_bodies))))
def m_P_become_42 (v_count : Int32) (v_bodies : Nat → Int32) (y0 : Int32) (y1 : Int32) : Option (Int32 × (Nat → Int32)) := (if inR y1 2 = true then some (v_count, upd v_bodies y1.toNatClampNeg y0) else none)
def m_P_become_27 (v_count : Int32) (v_bodies : Nat → Int32) (z1 : Int32) (z2 : Int32) (y0 : Int32) (y1 : Int32) : Option (Int32 × (Nat → Int32)) := (if inR y1 2 = true then (if z1 = (nI 0) then m_P_become_42 v_count (upd v_bodies y1.toNatClampNeg y0) (nI 0) (nI 1) else m_P_become_42 v_count (upd v_bodies y1.toNatClampNeg y0) z2 (nI 1)) else none)
def m_P_become_10 (v_count : Int32) (v_bodies : Nat → Int32) (z1 : Int32) (z2 : Int32) (y0 : Int32) : Option (Int32 × (Nat → Int32)) := (if z1 = (nI 0) then m_P_become_27 y0 v_bodies z1 z2 z2 (nI 0) else m_P_become_27 y0 v_bodies z1 z2 z1 (nI 0))
def m_P_become (v_count : Int32) (v_bodies : Nat → Int32) (x1 : Int32) (x2 : Int32) : Option (Int32 × (Nat → Int32)) := (if x1 = (nI 0) then m_P_become_10 v_count v_bodies x1 x2 (nI 1) else m_P_become_10 v_count v_bodies x1 x2 (nI 2))
def m_P_textLength (x0 : Int32) : Option (Int32 × Unit) := (Option.bind (m_I_bitCount x0) (fun v_5 => some (((nI 8) + ((nI 7) * v_5.1)) - (nI 1), ())))
def m_P_letterOf (x0 : Int32) (x1 : Int32) : Option (Int32 × Unit) := (if (nI 8) ≤ x1 then (Option.bind (m_H_codeAt x0 ((x1 - (nI 8)) / (nI 7))) (fun v_21 => (if (nI 0) ≤ v_21.1 then (letN (irm (x1 - (nI 8)) (nI 7)) (fun w_38 => (if w_38 = (nI 0) then (Option.bind (m_H_relationOf v_21.1) (fun v_79 => (if inN 0 = true then (Option.bind (m_S_charAt 0 v_79.1) (fun v_82 => some (v_82.1, ()))) else none))) else (if w_38 = (nI 1) then some ((nI 40), ()) else (if w_38 = (nI 2) then (Option.bind (m_H_firstVariableOf v_21.1) (fun v_92 => (if inN 1 = true then (Option.bind (m_S_charAt 1 v_92.1) (fun v_95 => some (v_95.1, ()))) else none))) else (if w_38 = (nI 3) then some ((nI 44), ()) else (if w_38 = (nI 4) then (Option.bind (m_H_secondVariableOf v_21.1) (fun v_102 => (if inN 1 = true then (Option.bind (m_S_charAt 1 v_102.1) (fun v_105 => some (v_105.1, ()))) else none))) else (if w_38 = (nI 5) then some ((nI 41), ()) else some ((nI 44), ()))))))))) else some ((-1 : Int32), ())))) else (if inN 2 = true then (Option.bind (m_S_charAt 2 x1) (fun v_9 => some (v_9.1, ()))) else none))
def m_P_letterAt_63 (v_count : Int32) (v_bodies : Nat → Int32) (k_4 : Int32 → Int32 → Option (Int32 × Unit)) (z2 : Int32) (z3 : Int32) (z4 : Int32) : Option (Int32 × Unit) := k_4 (z2 - (z4 + (nI 1))) (z3 + (nI 1))
def m_P_letterAt_4 (v_count : Int32) (v_bodies : Nat → Int32) : Nat → Int32 → Int32 → Option (Int32 × Unit)
  | 0, _, _ => none
  | n + 1, z2, z3 => (if v_count ≤ z3 then some ((-1 : Int32), ()) else (if z2 < (nI 0) then some ((-1 : Int32), ()) else (if inR z3 2 = true then (Option.bind (m_P_textLength (v_bodies z3.toNatClampNeg)) (fun v_22 => (if v_22.1 ≤ z2 then (if z2 = v_22.1 then (if v_count ≤ (z3 + (nI 1)) then m_P_letterAt_63 v_count v_bodies (m_P_letterAt_4 v_count v_bodies n) z2 z3 v_22.1 else some ((nI 59), ())) else m_P_letterAt_63 v_count v_bodies (m_P_letterAt_4 v_count v_bodies n) z2 z3 v_22.1) else (if inR z3 2 = true then (Option.bind (m_P_letterOf (v_bodies z3.toNatClampNeg) z2) (fun v_40 => some (v_40.1, ()))) else none)))) else none)))
def m_P_letterAt (v_count : Int32) (v_bodies : Nat → Int32) (x1 : Int32) : Option (Int32 × Unit) := m_P_letterAt_4 v_count v_bodies 40 x1 (nI 0)
def m_D_choicesWhere_56 (k_5 : Int32 → Int32 → Int32 → Int64 → Int32 → Option (Int64 × Unit)) (z0 : Int32) (z1 : Int32) (z2 : Int32) (z3 : Int64) (z5 : Int32) : Option (Int64 × Unit) := k_5 z0 z1 z2 z3 (z5 + (nI 1))
def m_D_choicesWhere_5 : Nat → Int32 → Int32 → Int32 → Int64 → Int32 → Option (Int64 × Unit)
  | 0, _, _, _, _, _ => none
  | n + 1, z0, z1, z2, z3, z5 => (if (nI 16) ≤ z5 then some (z3, ()) else (if (z0 >>> (z5 &&& 31)) = (nI 0) then some (z3, ()) else (if ((z0 >>> (z5 &&& 31)) &&& (nI 1)) = (nI 0) then m_D_choicesWhere_56 (m_D_choicesWhere_5 n) z0 z1 z2 z3 z5 else (if inR (((nI 4) * z1) + (z5 / (nI 4))) 12 = true then (if inR (((nI 4) * z2) + (irm z5 (nI 4))) 12 = true then (letN (z3 ||| ((tabL (((nI 4) * z1) + (z5 / (nI 4))).toNatClampNeg) &&& (tabL (((nI 4) * z2) + (irm z5 (nI 4))).toNatClampNeg))) (fun w_55 => m_D_choicesWhere_56 (m_D_choicesWhere_5 n) z0 z1 z2 w_55 z5)) else none) else none))))
def m_D_choicesWhere (x0 : Int32) (x1 : Int32) (x2 : Int32) : Option (Int64 × Unit) := m_D_choicesWhere_5 40 x0 x1 x2 (0 : Int64) (nI 0)
def m_D_pairsFrom_84 (v_givenPairs : Int32) (v_factChoices : Nat → Int64) (z2 : Int64) : Option (Int32 × Unit) := some (((((z2 ||| (lush z2 (nI 16))) ||| (lush z2 (nI 32))) ||| (lush z2 (nI 48))).toInt32) &&& (nI 65535), ())
def m_D_pairsFrom_69 (v_givenPairs : Int32) (v_factChoices : Nat → Int64) (k_16 : Int64 → Int32 → Int32 → Option (Int32 × Unit)) (z4 : Int32) (z5 : Int32) (y0 : Int64) (y1 : Int64) : Option (Int32 × Unit) := (Option.bind (m_H_withoutLeastCode z4) (fun v_73 => k_16 (y1 &&& y0) v_73.1 (z5 + (nI 1))))
def m_D_pairsFrom_16 (v_givenPairs : Int32) (v_factChoices : Nat → Int64) : Nat → Int64 → Int32 → Int32 → Option (Int32 × Unit)
  | 0, _, _, _ => none
  | n + 1, z2, z4, z5 => (if (nI 3) ≤ z5 then m_D_pairsFrom_84 v_givenPairs v_factChoices z2 else (if z4 = (nI 0) then m_D_pairsFrom_84 v_givenPairs v_factChoices z2 else (Option.bind (m_H_leastCode z4) (fun v_29 => (if (nI 18) ≤ v_29.1 then (Option.bind (m_H_firstVariableOf v_29.1) (fun v_58 => (Option.bind (m_H_secondVariableOf v_29.1) (fun v_63 => (Option.bind (m_D_choicesWhere v_givenPairs v_58.1 v_63.1) (fun v_66 => m_D_pairsFrom_69 v_givenPairs v_factChoices (m_D_pairsFrom_16 v_givenPairs v_factChoices n) z4 z5 v_66.1 z2)))))) else (if inR v_29.1 18 = true then m_D_pairsFrom_69 v_givenPairs v_factChoices (m_D_pairsFrom_16 v_givenPairs v_factChoices n) z4 z5 (v_factChoices v_29.1.toNatClampNeg) z2 else none))))))
def m_D_pairsFrom (v_givenPairs : Int32) (v_factChoices : Nat → Int64) (x1 : Int32) : Option (Int32 × Unit) := (if x1 = (nI 0) then some ((nI 0), ()) else m_D_pairsFrom_16 v_givenPairs v_factChoices 40 (-1 : Int64) x1 (nI 0))
def m_D_roundOf_2 (v_roundCount : Int32) (v_givenInRound : Nat → Int32) : Nat → Int32 → Int32 → Option (Int32 × Unit)
  | 0, _, _ => none
  | n + 1, z1, z2 => (if v_roundCount < z2 then some ((nI 0), ()) else (if inR z2 17 = true then (if ((v_givenInRound z2.toNatClampNeg) &&& z1) = (nI 0) then m_D_roundOf_2 v_roundCount v_givenInRound n z1 (z2 + (nI 1)) else some (z2, ())) else none))
def m_D_roundOf (v_roundCount : Int32) (v_givenInRound : Nat → Int32) (x1 : Int32) : Option (Int32 × Unit) := m_D_roundOf_2 v_roundCount v_givenInRound 40 x1 (nI 1)
def m_D_run_12 (v_factChoices : Nat → Int64) : Nat → Int32 → Int32 → (Nat → Int32) → Int32 → Int32 → Int32 → Option (Int32 × Int32 × (Nat → Int32))
  | 0, _, _, _, _, _, _ => none
  | n + 1, v_givenPairs, v_roundCount, v_givenInRound, z1, z2, z3 => (if (nI 16) < z3 then some (v_givenPairs, v_roundCount, v_givenInRound) else (Option.bind (m_D_pairsFrom v_givenPairs v_factChoices z1) (fun v_20 => (Option.bind (m_D_pairsFrom v_givenPairs v_factChoices z2) (fun v_25 => (if ((v_20.1 ||| v_25.1) &&& (v_givenPairs ^^^ (-1 : Int32))) = (nI 0) then some (v_givenPairs, v_roundCount, v_givenInRound) else (if inR z3 17 = true then m_D_run_12 v_factChoices n (v_givenPairs ||| ((v_20.1 ||| v_25.1) &&& (v_givenPairs ^^^ (-1 : Int32)))) z3 (upd v_givenInRound z3.toNatClampNeg ((v_20.1 ||| v_25.1) &&& (v_givenPairs ^^^ (-1 : Int32)))) z1 z2 (z3 + (nI 1)) else none)))))))
def m_D_run (v_givenPairs : Int32) (v_roundCount : Int32) (v_factChoices : Nat → Int64) (v_givenInRound : Nat → Int32) (x1 : Int32) (x2 : Int32) : Option (Int32 × Int32 × (Nat → Int32)) := m_D_run_12 v_factChoices 40 (nI 0) (nI 0) v_givenInRound x1 x2 (nI 1)
def m_D_takeFacts_20 (k_2 : (Nat → Int64) → Int32 → Int32 → Int32 → Option ((Nat → Int64))) (v_factChoices : Nat → Int64) (z1 : Int32) (z2 : Int32) (z3 : Int32) (y0 : Int32) : Option ((Nat → Int64)) := (Option.bind (m_H_firstVariableOf z3) (fun v_30 => (Option.bind (m_H_secondVariableOf z3) (fun v_34 => (Option.bind (m_D_choicesWhere y0 v_30.1 v_34.1) (fun v_37 => (if inR z3 18 = true then k_2 (vp_updL v_factChoices z3.toNatClampNeg v_37.1) z1 z2 (z3 + (nI 1)) else none)))))))
def m_D_takeFacts_2 : Nat → (Nat → Int64) → Int32 → Int32 → Int32 → Option ((Nat → Int64))
  | 0, _, _, _, _ => none
  | n + 1, v_factChoices, z1, z2, z3 => (if (nI 18) ≤ z3 then some v_factChoices else (Option.bind (m_H_relationOf z3) (fun v_9 => (if v_9.1 = (nI 0) then m_D_takeFacts_20 (m_D_takeFacts_2 n) v_factChoices z1 z2 z3 z1 else m_D_takeFacts_20 (m_D_takeFacts_2 n) v_factChoices z1 z2 z3 z2))))
def m_D_takeFacts (v_factChoices : Nat → Int64) (x1 : Int32) (x2 : Int32) : Option ((Nat → Int64)) := m_D_takeFacts_2 40 v_factChoices x1 x2 (nI 0)
def m_H_key (v_line_length : Int32) (v_line_typed : Nat → Int32) (x1 : Int32) : Option (Int32 × Int32 × (Nat → Int32)) := (Option.bind (m_L_add v_line_length v_line_typed x1) (fun v_5 => (if isZ v_5.1 = true then some (v_5.1, (v_5.2.1, v_5.2.2)) else none)))
def m_H_back (v_line_length : Int32) : Option (Int32 × Int32) := (Option.bind (m_L_removeLast v_line_length) (fun v_4 => (if isZ v_4.1 = true then some (v_4.1, v_4.2) else none)))
def m_H_facts (v_factSets : Nat → Int32) (x1 : Int32) : Option (Int32 × Unit) := (Option.bind (m_H_isFactRelation x1) (fun v_1 => (if v_1.1 = (nI 0) then some ((-1 : Int32), ()) else (if inR x1 2 = true then (Option.bind (m_I_bitCount (v_factSets x1.toNatClampNeg)) (fun v_13 => some (v_13.1, ()))) else none))))
def m_H_holds (v_factSets : Nat → Int32) (x1 : Int32) (x2 : Int32) (x3 : Int32) : Option (Int32 × Unit) := (Option.bind (m_H_isFactRelation x1) (fun v_1 => (if v_1.1 = (nI 0) then some ((nI 0), ()) else (if inR x1 2 = true then (Option.bind (m_H_pairBit x2 x3) (fun v_15 => (if ((v_factSets x1.toNatClampNeg) &&& v_15.1) = (nI 0) then some ((nI 0), ()) else some ((nI 1), ())))) else none))))
def m_H_mark (v_markedPlus : Int32) (v_markedMinus : Int32) (x1 : Int32) (x2 : Int32) : Option (Int32 × Unit) := (Option.bind (m_H_pairBit x1 x2) (fun v_2 => (if (v_markedPlus &&& v_2.1) = (nI 0) then (if (v_markedMinus &&& v_2.1) = (nI 0) then some ((nI 0), ()) else some ((-1 : Int32), ())) else some ((nI 1), ()))))
def m_H_drop (v_program_count : Int32) (v_program_bodies : Nat → Int32) (x1 : Int32) : Option (Int32 × Int32 × (Nat → Int32)) := (Option.bind (m_P_remove v_program_count v_program_bodies x1) (fun v_5 => (if isZ v_5.1 = true then some (v_5.1, (v_5.2.1, v_5.2.2)) else none)))
def m_H_clauses (v_program_count : Int32) : Option (Int32 × Unit) := some (v_program_count, ())
def m_H_literals (v_program_count : Int32) (v_program_bodies : Nat → Int32) (x1 : Int32) : Option (Int32 × Unit) := (Option.bind (m_P_bodyOf v_program_count v_program_bodies x1) (fun v_5 => (if v_5.1 = (nI 0) then some ((-1 : Int32), ()) else (Option.bind (m_I_bitCount v_5.1) (fun v_18 => some (v_18.1, ()))))))
def m_H_literal (v_program_count : Int32) (v_program_bodies : Nat → Int32) (x1 : Int32) (x2 : Int32) : Option (Int32 × Unit) := (Option.bind (m_P_bodyOf v_program_count v_program_bodies x1) (fun v_5 => (Option.bind (m_H_codeAt v_5.1 x2) (fun v_9 => some (v_9.1, ())))))
def m_H_letter (v_program_count : Int32) (v_program_bodies : Nat → Int32) (x1 : Int32) : Option (Int32 × Unit) := (Option.bind (m_P_letterAt v_program_count v_program_bodies x1) (fun v_5 => some (v_5.1, ())))
def m_H_subsumes_33 (v_program_count : Int32) (v_program_bodies : Nat → Int32) : Nat → Int32 → Int32 → Int32 → Option (Int32 × Unit)
  | 0, _, _, _ => none
  | n + 1, z3, z4, z5 => (if (nI 3) ≤ z5 then some ((nI 0), ()) else (Option.bind (m_H_withVariableForZ z3 z5) (fun v_42 => (if (v_42.1 &&& (z4 ^^^ (-1 : Int32))) = (nI 0) then some ((nI 1), ()) else m_H_subsumes_33 v_program_count v_program_bodies n z3 z4 (z5 + (nI 1))))))
def m_H_subsumes (v_program_count : Int32) (v_program_bodies : Nat → Int32) (x1 : Int32) (x2 : Int32) : Option (Int32 × Unit) := (Option.bind (m_P_bodyOf v_program_count v_program_bodies x1) (fun v_5 => (Option.bind (m_P_bodyOf v_program_count v_program_bodies x2) (fun v_14 => (if v_5.1 = (nI 0) then some ((nI 0), ()) else (if v_14.1 = (nI 0) then some ((nI 0), ()) else m_H_subsumes_33 v_program_count v_program_bodies 40 v_5.1 v_14.1 (nI 0)))))))
def m_H_deduceProgram (v_factSets : Nat → Int32) (v_program_count : Int32) (v_program_bodies : Nat → Int32) (v_deduction_givenPairs : Int32) (v_deduction_roundCount : Int32) (v_deduction_factChoices : Nat → Int64) (v_deduction_givenInRound : Nat → Int32) : Option (Int32 × Int32 × (Nat → Int64) × (Nat → Int32)) := (if inR (nI 0) 2 = true then (if inR (nI 1) 2 = true then (Option.bind (m_D_takeFacts v_deduction_factChoices (v_factSets (nI 0).toNatClampNeg) (v_factSets (nI 1).toNatClampNeg)) (fun v_16 => (Option.bind (m_P_bodyOf v_program_count v_program_bodies (nI 0)) (fun v_28 => (Option.bind (m_P_bodyOf v_program_count v_program_bodies (nI 1)) (fun v_36 => (Option.bind (m_D_run v_deduction_givenPairs v_deduction_roundCount v_16 v_deduction_givenInRound v_28.1 v_36.1) (fun v_39 => some (v_39.1, v_39.2.1, v_16, v_39.2.2))))))))) else none) else none)
def m_H_deductionFits (v_markedPlus : Int32) (v_markedMinus : Int32) (v_deduction_givenPairs : Int32) : Option (Int32 × Unit) := (if (v_markedPlus &&& (v_deduction_givenPairs ^^^ (-1 : Int32))) = (nI 0) then (if (v_markedMinus &&& v_deduction_givenPairs) = (nI 0) then some ((nI 1), ()) else some ((nI 0), ())) else some ((nI 0), ()))
def m_H_given (v_factSets : Nat → Int32) (v_program_count : Int32) (v_program_bodies : Nat → Int32) (v_deduction_givenPairs : Int32) (v_deduction_roundCount : Int32) (v_deduction_factChoices : Nat → Int64) (v_deduction_givenInRound : Nat → Int32) (x1 : Int32) (x2 : Int32) : Option (Int32 × Int32 × Int32 × (Nat → Int64) × (Nat → Int32)) := (Option.bind (m_H_deduceProgram v_factSets v_program_count v_program_bodies v_deduction_givenPairs v_deduction_roundCount v_deduction_factChoices v_deduction_givenInRound) (fun v_1 => (Option.bind (m_H_pairBit x1 x2) (fun v_10 => (Option.bind (m_D_roundOf v_1.2.1 v_1.2.2.2 v_10.1) (fun v_13 => some (v_13.1, (v_1.1, v_1.2.1, v_1.2.2.1, v_1.2.2.2))))))))
def m_H_rounds (v_factSets : Nat → Int32) (v_program_count : Int32) (v_program_bodies : Nat → Int32) (v_deduction_givenPairs : Int32) (v_deduction_roundCount : Int32) (v_deduction_factChoices : Nat → Int64) (v_deduction_givenInRound : Nat → Int32) : Option (Int32 × Int32 × Int32 × (Nat → Int64) × (Nat → Int32)) := (Option.bind (m_H_deduceProgram v_factSets v_program_count v_program_bodies v_deduction_givenPairs v_deduction_roundCount v_deduction_factChoices v_deduction_givenInRound) (fun v_1 => some (v_1.2.1, (v_1.1, v_1.2.1, v_1.2.2.1, v_1.2.2.2))))
def m_H_fits (v_markedPlus : Int32) (v_markedMinus : Int32) (v_factSets : Nat → Int32) (v_program_count : Int32) (v_program_bodies : Nat → Int32) (v_deduction_givenPairs : Int32) (v_deduction_roundCount : Int32) (v_deduction_factChoices : Nat → Int64) (v_deduction_givenInRound : Nat → Int32) : Option (Int32 × Int32 × Int32 × (Nat → Int64) × (Nat → Int32)) := (Option.bind (m_H_deduceProgram v_factSets v_program_count v_program_bodies v_deduction_givenPairs v_deduction_roundCount v_deduction_factChoices v_deduction_givenInRound) (fun v_1 => (Option.bind (m_H_deductionFits v_markedPlus v_markedMinus v_1.1) (fun v_5 => (if isZ v_5.1 = true then some (v_5.1, (v_1.1, v_1.2.1, v_1.2.2.1, v_1.2.2.2)) else none)))))
def m_H_changeFacts_39 (v_factSets : Nat → Int32) (z1 : Int32) (z4 : Int32) (y0 : Int32) (y1 : Int32) : Option (Int32 × (Nat → Int32)) := (if inR y1 2 = true then (if inR z1 2 = true then (if ((upd v_factSets y1.toNatClampNeg y0) z1.toNatClampNeg) = z4 then some ((nI 0), upd v_factSets y1.toNatClampNeg y0) else some ((nI 1), upd v_factSets y1.toNatClampNeg y0)) else none) else none)
def m_H_changeFacts (v_factSets : Nat → Int32) (x1 : Int32) (x2 : Int32) (x3 : Int32) : Option (Int32 × (Nat → Int32)) := (Option.bind (m_H_isFactRelation x1) (fun v_1 => (if v_1.1 = (nI 0) then some ((nI 0), v_factSets) else (if inR x1 2 = true then (if x3 = (nI 0) then m_H_changeFacts_39 v_factSets x1 (v_factSets x1.toNatClampNeg) ((v_factSets x1.toNatClampNeg) &&& (x2 ^^^ (-1 : Int32))) x1 else m_H_changeFacts_39 v_factSets x1 (v_factSets x1.toNatClampNeg) ((v_factSets x1.toNatClampNeg) ||| x2) x1) else none))))
def m_H_changeMarks_21 (v_markedPlus : Int32) (v_markedMinus : Int32) (z1 : Int32) (z2 : Int32) (y0 : Int32) : Option (Int32 × Int32 × Int32) := (if y0 = (nI 0) then some ((nI 1), (z1, z2)) else some ((nI 0), (z1, z2)))
def m_H_changeMarks_20 (v_markedPlus : Int32) (v_markedMinus : Int32) (z1 : Int32) (z2 : Int32) : Option (Int32 × Int32 × Int32) := m_H_changeMarks_21 v_markedPlus v_markedMinus z1 z2 (nI 0)
def m_H_changeMarks (v_markedPlus : Int32) (v_markedMinus : Int32) (x1 : Int32) (x2 : Int32) : Option (Int32 × Int32 × Int32) := (if x1 = v_markedPlus then (if x2 = v_markedMinus then m_H_changeMarks_21 v_markedPlus v_markedMinus x1 x2 (nI 1) else m_H_changeMarks_20 v_markedPlus v_markedMinus x1 x2) else m_H_changeMarks_20 v_markedPlus v_markedMinus x1 x2)
def m_H_addClause (v_program_count : Int32) (v_program_bodies : Nat → Int32) (x1 : Int32) (x2 : Int32) : Option (Int32 × Int32 × (Nat → Int32)) := (Option.bind (m_I_bitCount x1) (fun v_1 => (if x2 ≤ v_1.1 then (Option.bind (m_H_hasHeadVariables x1) (fun v_12 => (if v_12.1 = (nI 0) then some ((-101 : Int32), (v_program_count, v_program_bodies)) else (Option.bind (m_P_contains v_program_count v_program_bodies x1) (fun v_26 => (if v_26.1 = (nI 0) then (if v_program_count < (nI 2) then (Option.bind (m_P_append v_program_count v_program_bodies x1) (fun v_56 => some ((nI 10) + v_56.1, (v_56.2.1, v_56.2.2)))) else some ((-103 : Int32), (v_program_count, v_program_bodies))) else some ((-102 : Int32), (v_program_count, v_program_bodies)))))))) else some ((-100 : Int32), (v_program_count, v_program_bodies)))))
def m_H_carryOutLine (v_markedPlus : Int32) (v_markedMinus : Int32) (v_line_length : Int32) (v_line_typed : Nat → Int32) (v_factSets : Nat → Int32) (v_program_count : Int32) (v_program_bodies : Nat → Int32) : Option (Int32 × Int32 × Int32 × (Nat → Int32) × Int32 × (Nat → Int32)) := (Option.bind (m_L_at v_line_length v_line_typed (nI 0)) (fun v_5 => (if v_5.1 = (nI 116) then (Option.bind (m_L_typedBody v_line_length v_line_typed) (fun v_20 => (Option.bind (m_L_typedLiterals v_line_length) (fun v_27 => (Option.bind (m_H_addClause v_program_count v_program_bodies v_20.1 v_27.1) (fun v_30 => some (v_30.1, (v_markedPlus, v_markedMinus, v_factSets, v_30.2.1, v_30.2.2)))))))) else (Option.bind (m_L_typedPair v_line_length v_line_typed) (fun v_38 => (if v_5.1 = (nI 43) then (Option.bind (m_H_changeMarks v_markedPlus v_markedMinus (v_markedPlus ||| v_38.1) (v_markedMinus &&& (v_38.1 ^^^ (-1 : Int32)))) (fun v_63 => some (v_63.1, (v_63.2.1, v_63.2.2, v_factSets, v_program_count, v_program_bodies)))) else (if v_5.1 = (nI 45) then (Option.bind (m_H_changeMarks v_markedPlus v_markedMinus (v_markedPlus &&& (v_38.1 ^^^ (-1 : Int32))) (v_markedMinus ||| v_38.1)) (fun v_88 => some (v_88.1, (v_88.2.1, v_88.2.2, v_factSets, v_program_count, v_program_bodies)))) else (if v_5.1 = (nI 126) then (Option.bind (m_L_at v_line_length v_line_typed (nI 1)) (fun v_118 => (if inN 0 = true then (Option.bind (m_S_indexOf1 0 v_118.1) (fun v_121 => (if v_121.1 = (nI 2) then (Option.bind (m_H_changeMarks v_markedPlus v_markedMinus (v_markedPlus &&& (v_38.1 ^^^ (-1 : Int32))) (v_markedMinus &&& (v_38.1 ^^^ (-1 : Int32)))) (fun v_147 => some (v_147.1, (v_147.2.1, v_147.2.2, v_factSets, v_program_count, v_program_bodies)))) else (Option.bind (m_H_changeFacts v_factSets v_121.1 v_38.1 (nI 0)) (fun v_155 => some (v_155.1, (v_markedPlus, v_markedMinus, v_155.2, v_program_count, v_program_bodies))))))) else none))) else (if inN 0 = true then (Option.bind (m_S_indexOf1 0 v_5.1) (fun v_102 => (Option.bind (m_H_changeFacts v_factSets v_102.1 v_38.1 (nI 1)) (fun v_107 => some (v_107.1, (v_markedPlus, v_markedMinus, v_107.2, v_program_count, v_program_bodies)))))) else none)))))))))
def m_H_enter_29 (v_line_typed : Nat → Int32) (v_markedPlus : Int32) (v_markedMinus : Int32) (v_line_length : Int32) (v_factSets : Nat → Int32) (v_program_count : Int32) (v_program_bodies : Nat → Int32) (y0 : Int32) : Option (Int32 × Int32 × Int32 × Int32 × (Nat → Int32) × Int32 × (Nat → Int32)) := (Option.bind (m_L_clear v_line_length) (fun v_34 => some (y0, (v_markedPlus, v_markedMinus, v_34, v_factSets, v_program_count, v_program_bodies))))
def m_H_enter (v_markedPlus : Int32) (v_markedMinus : Int32) (v_line_length : Int32) (v_line_typed : Nat → Int32) (v_factSets : Nat → Int32) (v_program_count : Int32) (v_program_bodies : Nat → Int32) : Option (Int32 × Int32 × Int32 × Int32 × (Nat → Int32) × Int32 × (Nat → Int32)) := (Option.bind (m_L_begunStatement v_line_length v_line_typed) (fun v_4 => (Option.bind (m_L_endsStatement v_line_length v_line_typed v_4.1) (fun v_13 => (if v_13.1 = (nI 0) then m_H_enter_29 v_line_typed v_markedPlus v_markedMinus v_line_length v_factSets v_program_count v_program_bodies ((-1 : Int32) - v_4.1) else (Option.bind (m_H_carryOutLine v_markedPlus v_markedMinus v_line_length v_line_typed v_factSets v_program_count v_program_bodies) (fun v_20 => m_H_enter_29 v_line_typed v_20.2.1 v_20.2.2.1 v_line_length v_20.2.2.2.1 v_20.2.2.2.2.1 v_20.2.2.2.2.2 v_20.1)))))))
def m_H_takeIfFitting (v_markedPlus : Int32) (v_markedMinus : Int32) (v_program_count : Int32) (v_program_bodies : Nat → Int32) (v_deduction_givenPairs : Int32) (v_deduction_roundCount : Int32) (v_deduction_factChoices : Nat → Int64) (v_deduction_givenInRound : Nat → Int32) (x1 : Int32) (x2 : Int32) : Option (Int32 × Int32 × (Nat → Int32) × Int32 × Int32 × (Nat → Int32)) := (Option.bind (m_H_hasHeadVariables x2) (fun v_1 => (if v_1.1 = (nI 0) then some ((nI 0), (v_program_count, v_program_bodies, v_deduction_givenPairs, v_deduction_roundCount, v_deduction_givenInRound)) else (Option.bind (m_D_run v_deduction_givenPairs v_deduction_roundCount v_deduction_factChoices v_deduction_givenInRound x1 x2) (fun v_15 => (Option.bind (m_H_deductionFits v_markedPlus v_markedMinus v_15.1) (fun v_19 => (if v_19.1 = (nI 0) then some ((nI 0), (v_program_count, v_program_bodies, v_15.1, v_15.2.1, v_15.2.2)) else (Option.bind (m_P_become v_program_count v_program_bodies x1 x2) (fun v_33 => some ((nI 1), (v_33.1, v_33.2, v_15.1, v_15.2.1, v_15.2.2))))))))))))
def m_H_learnBody_15 (v_markedPlus : Int32) (v_markedMinus : Int32) (v_deduction_factChoices : Nat → Int64) (self : Int32 → (Nat → Int32) → Int32 → Int32 → (Nat → Int32) → Int32 → Int32 → Int32 → Int32 → Option (Int32 × Int32 × (Nat → Int32) × Int32 × Int32 × (Nat → Int32))) : Nat → Int32 → (Nat → Int32) → Int32 → Int32 → (Nat → Int32) → Int32 → Int32 → Int32 → Int32 → Option (Int32 × Int32 × (Nat → Int32) × Int32 × Int32 × (Nat → Int32))
  | 0, _, _, _, _, _, _, _, _, _ => none
  | n + 1, v_program_count, v_program_bodies, v_deduction_givenPairs, v_deduction_roundCount, v_deduction_givenInRound, z1, z2, z4, z5 => (if (nI 27) ≤ z5 then some ((nI 0), (v_program_count, v_program_bodies, v_deduction_givenPairs, v_deduction_roundCount, v_deduction_givenInRound)) else (Option.bind (self v_program_count v_program_bodies v_deduction_givenPairs v_deduction_roundCount v_deduction_givenInRound z1 (z2 ||| ((nI 1) <<< (z5 &&& 31))) (z5 + (nI 1)) (z4 - (nI 1))) (fun v_38 => (if v_38.1 = (nI 0) then m_H_learnBody_15 v_markedPlus v_markedMinus v_deduction_factChoices self n v_38.2.1 v_38.2.2.1 v_38.2.2.2.1 v_38.2.2.2.2.1 v_38.2.2.2.2.2 z1 z2 z4 (z5 + (nI 1)) else some ((nI 1), (v_38.2.1, v_38.2.2.1, v_38.2.2.2.1, v_38.2.2.2.2.1, v_38.2.2.2.2.2))))))
def m_H_learnBody_b (v_markedPlus : Int32) (v_markedMinus : Int32) (v_deduction_factChoices : Nat → Int64) (self : Int32 → (Nat → Int32) → Int32 → Int32 → (Nat → Int32) → Int32 → Int32 → Int32 → Int32 → Option (Int32 × Int32 × (Nat → Int32) × Int32 × Int32 × (Nat → Int32))) (v_program_count : Int32) (v_program_bodies : Nat → Int32) (v_deduction_givenPairs : Int32) (v_deduction_roundCount : Int32) (v_deduction_givenInRound : Nat → Int32) (x1 : Int32) (x2 : Int32) (x3 : Int32) (x4 : Int32) : Option (Int32 × Int32 × (Nat → Int32) × Int32 × Int32 × (Nat → Int32)) := (if (nI 0) < x4 then m_H_learnBody_15 v_markedPlus v_markedMinus v_deduction_factChoices self 40 v_program_count v_program_bodies v_deduction_givenPairs v_deduction_roundCount v_deduction_givenInRound x1 x2 x4 x3 else (Option.bind (m_H_takeIfFitting v_markedPlus v_markedMinus v_program_count v_program_bodies v_deduction_givenPairs v_deduction_roundCount v_deduction_factChoices v_deduction_givenInRound x1 x2) (fun v_8 => (if isZ v_8.1 = true then some (v_8.1, (v_8.2.1, v_8.2.2.1, v_8.2.2.2.1, v_8.2.2.2.2.1, v_8.2.2.2.2.2)) else none))))
def m_H_learnBody (v_markedPlus : Int32) (v_markedMinus : Int32) (v_deduction_factChoices : Nat → Int64) : Nat → Int32 → (Nat → Int32) → Int32 → Int32 → (Nat → Int32) → Int32 → Int32 → Int32 → Int32 → Option (Int32 × Int32 × (Nat → Int32) × Int32 × Int32 × (Nat → Int32))
  | 0, _, _, _, _, _, _, _, _, _ => none
  | n + 1, v_program_count, v_program_bodies, v_deduction_givenPairs, v_deduction_roundCount, v_deduction_givenInRound, x1, x2, x3, x4 => m_H_learnBody_b v_markedPlus v_markedMinus v_deduction_factChoices (m_H_learnBody v_markedPlus v_markedMinus v_deduction_factChoices n) v_program_count v_program_bodies v_deduction_givenPairs v_deduction_roundCount v_deduction_givenInRound x1 x2 x3 x4
def m_H_learnTwoClauses_47 (v_markedPlus : Int32) (v_markedMinus : Int32) (v_deduction_factChoices : Nat → Int64) (k_2 : Int32 → (Nat → Int32) → Int32 → Int32 → (Nat → Int32) → Int32 → Int32 → Option (Int32 × Int32 × (Nat → Int32) × Int32 × Int32 × (Nat → Int32))) (v_program_count : Int32) (v_program_bodies : Nat → Int32) (v_deduction_givenPairs : Int32) (v_deduction_roundCount : Int32) (v_deduction_givenInRound : Nat → Int32) (z1 : Int32) (z2 : Int32) : Option (Int32 × Int32 × (Nat → Int32) × Int32 × Int32 × (Nat → Int32)) := k_2 v_program_count v_program_bodies v_deduction_givenPairs v_deduction_roundCount v_deduction_givenInRound z1 (z2 + (nI 1))
def m_H_learnTwoClauses_20 (v_markedPlus : Int32) (v_markedMinus : Int32) (v_deduction_factChoices : Nat → Int64) (k_2 : Int32 → (Nat → Int32) → Int32 → Int32 → (Nat → Int32) → Int32 → Int32 → Option (Int32 × Int32 × (Nat → Int32) × Int32 × Int32 × (Nat → Int32))) (v_program_count : Int32) (v_program_bodies : Nat → Int32) (v_deduction_givenPairs : Int32) (v_deduction_roundCount : Int32) (v_deduction_givenInRound : Nat → Int32) (z1 : Int32) (z2 : Int32) (y0 : Int32) : Option (Int32 × Int32 × (Nat → Int32) × Int32 × Int32 × (Nat → Int32)) := (Option.bind (m_H_hasHeadVariables ((nI 1) <<< (z2 &&& 31))) (fun v_24 => (if v_24.1 = (nI 0) then m_H_learnTwoClauses_47 v_markedPlus v_markedMinus v_deduction_factChoices k_2 v_program_count v_program_bodies v_deduction_givenPairs v_deduction_roundCount v_deduction_givenInRound z1 z2 else (Option.bind (m_H_learnBody v_markedPlus v_markedMinus v_deduction_factChoices 5 v_program_count v_program_bodies v_deduction_givenPairs v_deduction_roundCount v_deduction_givenInRound ((nI 1) <<< (z2 &&& 31)) (nI 0) y0 (z1 - (nI 1))) (fun v_39 => (if v_39.1 = (nI 0) then m_H_learnTwoClauses_47 v_markedPlus v_markedMinus v_deduction_factChoices k_2 v_39.2.1 v_39.2.2.1 v_39.2.2.2.1 v_39.2.2.2.2.1 v_39.2.2.2.2.2 z1 z2 else some ((nI 1), (v_39.2.1, v_39.2.2.1, v_39.2.2.2.1, v_39.2.2.2.2.1, v_39.2.2.2.2.2))))))))
def m_H_learnTwoClauses_2 (v_markedPlus : Int32) (v_markedMinus : Int32) (v_deduction_factChoices : Nat → Int64) : Nat → Int32 → (Nat → Int32) → Int32 → Int32 → (Nat → Int32) → Int32 → Int32 → Option (Int32 × Int32 × (Nat → Int32) × Int32 × Int32 × (Nat → Int32))
  | 0, _, _, _, _, _, _, _ => none
  | n + 1, v_program_count, v_program_bodies, v_deduction_givenPairs, v_deduction_roundCount, v_deduction_givenInRound, z1, z2 => (if (nI 27) ≤ z2 then some ((nI 0), (v_program_count, v_program_bodies, v_deduction_givenPairs, v_deduction_roundCount, v_deduction_givenInRound)) else (if z1 = (nI 2) then m_H_learnTwoClauses_20 v_markedPlus v_markedMinus v_deduction_factChoices (m_H_learnTwoClauses_2 v_markedPlus v_markedMinus v_deduction_factChoices n) v_program_count v_program_bodies v_deduction_givenPairs v_deduction_roundCount v_deduction_givenInRound z1 z2 (z2 + (nI 1)) else m_H_learnTwoClauses_20 v_markedPlus v_markedMinus v_deduction_factChoices (m_H_learnTwoClauses_2 v_markedPlus v_markedMinus v_deduction_factChoices n) v_program_count v_program_bodies v_deduction_givenPairs v_deduction_roundCount v_deduction_givenInRound z1 z2 (nI 0)))
def m_H_learnTwoClauses (v_markedPlus : Int32) (v_markedMinus : Int32) (v_program_count : Int32) (v_program_bodies : Nat → Int32) (v_deduction_givenPairs : Int32) (v_deduction_roundCount : Int32) (v_deduction_factChoices : Nat → Int64) (v_deduction_givenInRound : Nat → Int32) (x1 : Int32) : Option (Int32 × Int32 × (Nat → Int32) × Int32 × Int32 × (Nat → Int32)) := m_H_learnTwoClauses_2 v_markedPlus v_markedMinus v_deduction_factChoices 40 v_program_count v_program_bodies v_deduction_givenPairs v_deduction_roundCount v_deduction_givenInRound x1 (nI 0)
def m_H_learn_52 (v_markedPlus : Int32) (v_markedMinus : Int32) (v_factSets : Nat → Int32) (k_21 : Int32 → (Nat → Int32) → Int32 → Int32 → (Nat → Int64) → (Nat → Int32) → Int32 → Option (Int32 × Int32 × (Nat → Int32) × Int32 × Int32 × (Nat → Int64) × (Nat → Int32))) (v_program_count : Int32) (v_program_bodies : Nat → Int32) (v_deduction_givenPairs : Int32) (v_deduction_roundCount : Int32) (v_deduction_factChoices : Nat → Int64) (v_deduction_givenInRound : Nat → Int32) (z1 : Int32) : Option (Int32 × Int32 × (Nat → Int32) × Int32 × Int32 × (Nat → Int64) × (Nat → Int32)) := k_21 v_program_count v_program_bodies v_deduction_givenPairs v_deduction_roundCount v_deduction_factChoices v_deduction_givenInRound (z1 + (nI 1))
def m_H_learn_21 (v_markedPlus : Int32) (v_markedMinus : Int32) (v_factSets : Nat → Int32) : Nat → Int32 → (Nat → Int32) → Int32 → Int32 → (Nat → Int64) → (Nat → Int32) → Int32 → Option (Int32 × Int32 × (Nat → Int32) × Int32 × Int32 × (Nat → Int64) × (Nat → Int32))
  | 0, _, _, _, _, _, _, _ => none
  | n + 1, v_program_count, v_program_bodies, v_deduction_givenPairs, v_deduction_roundCount, v_deduction_factChoices, v_deduction_givenInRound, z1 => (if (nI 3) < z1 then some ((nI 0), (v_program_count, v_program_bodies, v_deduction_givenPairs, v_deduction_roundCount, v_deduction_factChoices, v_deduction_givenInRound)) else (Option.bind (m_H_learnBody v_markedPlus v_markedMinus v_deduction_factChoices 5 v_program_count v_program_bodies v_deduction_givenPairs v_deduction_roundCount v_deduction_givenInRound (nI 0) (nI 0) (nI 0) z1) (fun v_31 => (if v_31.1 = (nI 0) then (if z1 ≤ (nI 1) then m_H_learn_52 v_markedPlus v_markedMinus v_factSets (m_H_learn_21 v_markedPlus v_markedMinus v_factSets n) v_31.2.1 v_31.2.2.1 v_31.2.2.2.1 v_31.2.2.2.2.1 v_deduction_factChoices v_31.2.2.2.2.2 z1 else (Option.bind (m_H_learnTwoClauses v_markedPlus v_markedMinus v_31.2.1 v_31.2.2.1 v_31.2.2.2.1 v_31.2.2.2.2.1 v_deduction_factChoices v_31.2.2.2.2.2 z1) (fun v_44 => (if v_44.1 = (nI 0) then m_H_learn_52 v_markedPlus v_markedMinus v_factSets (m_H_learn_21 v_markedPlus v_markedMinus v_factSets n) v_44.2.1 v_44.2.2.1 v_44.2.2.2.1 v_44.2.2.2.2.1 v_deduction_factChoices v_44.2.2.2.2.2 z1 else some (z1, (v_44.2.1, v_44.2.2.1, v_44.2.2.2.1, v_44.2.2.2.2.1, v_deduction_factChoices, v_44.2.2.2.2.2)))))) else some (z1, (v_31.2.1, v_31.2.2.1, v_31.2.2.2.1, v_31.2.2.2.2.1, v_deduction_factChoices, v_31.2.2.2.2.2))))))
def m_H_learn (v_markedPlus : Int32) (v_markedMinus : Int32) (v_factSets : Nat → Int32) (v_program_count : Int32) (v_program_bodies : Nat → Int32) (v_deduction_givenPairs : Int32) (v_deduction_roundCount : Int32) (v_deduction_factChoices : Nat → Int64) (v_deduction_givenInRound : Nat → Int32) : Option (Int32 × Int32 × (Nat → Int32) × Int32 × Int32 × (Nat → Int64) × (Nat → Int32)) := (if inR (nI 0) 2 = true then (if inR (nI 1) 2 = true then (Option.bind (m_D_takeFacts v_deduction_factChoices (v_factSets (nI 0).toNatClampNeg) (v_factSets (nI 1).toNatClampNeg)) (fun v_16 => m_H_learn_21 v_markedPlus v_markedMinus v_factSets 40 v_program_count v_program_bodies v_deduction_givenPairs v_deduction_roundCount v_16 v_deduction_givenInRound (nI 1))) else none) else none)
def m_M_isConstant (x0 : Int32) : Option (Int32 × Unit) := (if x0 < (nI 48) then some ((nI 0), ()) else (if (nI 51) < x0 then some ((nI 0), ()) else some ((nI 1), ())))
def m_M_isVariable (x0 : Int32) : Option (Int32 × Unit) := (if x0 < (nI 88) then some ((nI 0), ()) else (if (nI 90) < x0 then some ((nI 0), ()) else some ((nI 1), ())))
def m_M_isRelation (x0 : Int32) : Option (Int32 × Unit) := (if x0 = (nI 97) then some ((nI 1), ()) else (if x0 = (nI 98) then some ((nI 1), ()) else (if x0 = (nI 116) then some ((nI 1), ()) else some ((nI 0), ()))))
def m_M_head (x0 : Int32) : Option (Int32 × Unit) := (if x0 = (nI 0) then some ((nI 116), ()) else (if x0 = (nI 1) then some ((nI 40), ()) else (if x0 = (nI 2) then some ((nI 88), ()) else (if x0 = (nI 3) then some ((nI 44), ()) else (if x0 = (nI 4) then some ((nI 89), ()) else (if x0 = (nI 5) then some ((nI 41), ()) else (if x0 = (nI 6) then some ((nI 58), ()) else some ((nI 45), ()))))))))
def m_M_argument_45 (z0 : Int32) (z1 : Int32) : Option (Int32 × Unit) := (if z0 = (nI 4) then (if z1 = (nI 41) then some ((nI 1), ()) else some ((nI 0), ())) else some ((nI 0), ()))
def m_M_argument_33 (z0 : Int32) (z1 : Int32) : Option (Int32 × Unit) := (if z0 = (nI 3) then (Option.bind (m_M_isConstant z1) (fun v_39 => (if v_39.1 = (nI 0) then m_M_argument_45 z0 z1 else some ((nI 1), ())))) else m_M_argument_45 z0 z1)
def m_M_argument_22 (z0 : Int32) (z1 : Int32) : Option (Int32 × Unit) := (if z0 = (nI 2) then (if z1 = (nI 44) then some ((nI 1), ()) else m_M_argument_33 z0 z1) else m_M_argument_33 z0 z1)
def m_M_argument_10 (z0 : Int32) (z1 : Int32) : Option (Int32 × Unit) := (if z0 = (nI 1) then (Option.bind (m_M_isConstant z1) (fun v_16 => (if v_16.1 = (nI 0) then m_M_argument_22 z0 z1 else some ((nI 1), ())))) else m_M_argument_22 z0 z1)
def m_M_argument (x0 : Int32) (x1 : Int32) : Option (Int32 × Unit) := (if x0 = (nI 0) then (if x1 = (nI 40) then some ((nI 1), ()) else m_M_argument_10 x0 x1) else m_M_argument_10 x0 x1)
def m_M_inBody_69 (z1 : Int32) (z2 : Int32) : Option (Int32 × Unit) := (if z2 = (nI 5) then (if z1 = (nI 41) then some ((nI 1), ()) else some ((nI 0), ())) else some ((nI 0), ()))
def m_M_inBody_63 (z1 : Int32) (z2 : Int32) : Option (Int32 × Unit) := (if z1 = (nI 44) then some ((nI 1), ()) else m_M_inBody_69 z1 z2)
def m_M_inBody_52 (z1 : Int32) (z2 : Int32) : Option (Int32 × Unit) := (if z2 = (nI 3) then m_M_inBody_63 z1 z2 else (if z2 = (nI 6) then m_M_inBody_63 z1 z2 else m_M_inBody_69 z1 z2))
def m_M_inBody_45 (z1 : Int32) (z2 : Int32) : Option (Int32 × Unit) := (Option.bind (m_M_isVariable z1) (fun v_46 => (if v_46.1 = (nI 0) then m_M_inBody_52 z1 z2 else some ((nI 1), ()))))
def m_M_inBody_35 (z1 : Int32) (z2 : Int32) : Option (Int32 × Unit) := (if z2 = (nI 2) then m_M_inBody_45 z1 z2 else (if z2 = (nI 4) then m_M_inBody_45 z1 z2 else m_M_inBody_52 z1 z2))
def m_M_inBody_24 (z1 : Int32) (z2 : Int32) : Option (Int32 × Unit) := (if z2 = (nI 1) then (if z1 = (nI 40) then some ((nI 1), ()) else m_M_inBody_35 z1 z2) else m_M_inBody_35 z1 z2)
def m_M_inBody (x0 : Int32) (x1 : Int32) : Option (Int32 × Unit) := (if x0 < (nI 20) then (if (irm x0 (nI 7)) = (nI 0) then (Option.bind (m_M_isRelation x1) (fun v_18 => (if v_18.1 = (nI 0) then m_M_inBody_24 x1 (irm x0 (nI 7)) else some ((nI 1), ())))) else m_M_inBody_24 x1 (irm x0 (nI 7))) else some ((nI 0), ()))
def m_M_goesOn_98 (v_line : Nat → Int32) (z1 : Int32) (z2 : Int32) : Option (Int32 × Unit) := (Option.bind (m_M_argument (z1 - (nI 1)) z2) (fun v_102 => (if isZ v_102.1 = true then some (v_102.1, ()) else none)))
def m_M_goesOn (v_line : Nat → Int32) (x1 : Int32) : Option (Int32 × Unit) := (if inR x1 32 = true then (if inR (nI 0) 32 = true then (if x1 = (nI 0) then (Option.bind (m_M_isRelation (v_line x1.toNatClampNeg)) (fun v_19 => (if v_19.1 = (nI 0) then (if (v_line x1.toNatClampNeg) = (nI 126) then some ((nI 1), ()) else (if (v_line x1.toNatClampNeg) = (nI 43) then some ((nI 1), ()) else (if (v_line x1.toNatClampNeg) = (nI 45) then some ((nI 1), ()) else some ((nI 0), ())))) else some ((nI 1), ())))) else (if (v_line (nI 0).toNatClampNeg) = (nI 116) then (if (nI 8) ≤ x1 then (Option.bind (m_M_inBody (x1 - (nI 8)) (v_line x1.toNatClampNeg)) (fun v_82 => (if isZ v_82.1 = true then some (v_82.1, ()) else none))) else (Option.bind (m_M_head x1) (fun v_63 => (if (v_line x1.toNatClampNeg) = v_63.1 then some ((nI 1), ()) else some ((nI 0), ()))))) else (if (v_line (nI 0).toNatClampNeg) = (nI 97) then m_M_goesOn_98 v_line x1 (v_line x1.toNatClampNeg) else (if (v_line (nI 0).toNatClampNeg) = (nI 98) then m_M_goesOn_98 v_line x1 (v_line x1.toNatClampNeg) else (if x1 = (nI 1) then (if (v_line x1.toNatClampNeg) = (nI 116) then some ((nI 1), ()) else (if (v_line (nI 0).toNatClampNeg) = (nI 126) then (Option.bind (m_M_isRelation (v_line x1.toNatClampNeg)) (fun v_124 => (if v_124.1 = (nI 0) then some ((nI 0), ()) else some ((nI 1), ())))) else some ((nI 0), ()))) else (Option.bind (m_M_argument (x1 - (nI 2)) (v_line x1.toNatClampNeg)) (fun v_142 => (if isZ v_142.1 = true then some (v_142.1, ()) else none)))))))) else none) else none)
def m_M_whole_75 (v_typed : Int32) (v_line : Nat → Int32) (y0 : Int32) (y1 : Int32) : Option (Int32 × Unit) := (if y1 = y0 then some ((nI 1), ()) else some ((nI 0), ()))
def m_M_whole_68 (v_typed : Int32) (v_line : Nat → Int32) (y0 : Int32) : Option (Int32 × Unit) := m_M_whole_75 v_typed v_line (nI 6) y0
def m_M_whole (v_typed : Int32) (v_line : Nat → Int32) : Option (Int32 × Unit) := (if v_typed = (nI 0) then some ((nI 0), ()) else (if inR (nI 0) 32 = true then (if (v_line (nI 0).toNatClampNeg) = (nI 116) then (if v_typed ≤ (nI 8) then some ((nI 0), ()) else (if (irm (v_typed - (nI 8)) (nI 7)) = (nI 6) then some ((nI 1), ()) else some ((nI 0), ()))) else (if (v_line (nI 0).toNatClampNeg) = (nI 97) then m_M_whole_68 v_typed v_line v_typed else (if (v_line (nI 0).toNatClampNeg) = (nI 98) then m_M_whole_68 v_typed v_line v_typed else m_M_whole_75 v_typed v_line (nI 7) v_typed))) else none))
def m_M_fault_2 (v_typed : Int32) (v_line : Nat → Int32) : Nat → Int32 → Option (Int32 × Unit)
  | 0, _ => none
  | n + 1, z1 => (if v_typed ≤ z1 then (Option.bind (m_M_whole v_typed v_line) (fun v_27 => (if v_27.1 = (nI 0) then some (v_typed, ()) else some ((-1 : Int32), ())))) else (Option.bind (m_M_goesOn v_line z1) (fun v_12 => (if v_12.1 = (nI 0) then some (z1, ()) else m_M_fault_2 v_typed v_line n (z1 + (nI 1))))))
def m_M_fault (v_typed : Int32) (v_line : Nat → Int32) : Option (Int32 × Unit) := m_M_fault_2 v_typed v_line 40 (nI 0)
def m_M_relationOf (x0 : Int32) : Option (Int32 × Unit) := (if x0 = (nI 97) then some ((nI 0), ()) else (if x0 = (nI 98) then some ((nI 1), ()) else some ((nI 2), ())))
def m_M_readBody_96 (v_typed : Int32) (v_line : Nat → Int32) (k_8 : Int32 → (Nat → Int32) → Int32 → Option (Int32 × (Nat → Int32))) (v_read : Int32) (v_body : Nat → Int32) (z1 : Int32) (z2 : Int32) (z3 : Int32) : Option (Int32 × (Nat → Int32)) := (if inR z3 3 = true then k_8 (v_read + (nI 1)) (upd v_body z3.toNatClampNeg z2) (z1 + (nI 7)) else none)
def m_M_readBody_60 (v_typed : Int32) (v_line : Nat → Int32) (k_8 : Int32 → (Nat → Int32) → Int32 → Option (Int32 × (Nat → Int32))) : Nat → Int32 → (Nat → Int32) → Int32 → Int32 → Int32 → Option (Int32 × (Nat → Int32))
  | 0, _, _, _, _, _ => none
  | n + 1, v_read, v_body, z1, z2, z3 => (if z3 ≤ (nI 0) then m_M_readBody_96 v_typed v_line k_8 v_read v_body z1 z2 z3 else (if inR (z3 - (nI 1)) 3 = true then (if (v_body (z3 - (nI 1)).toNatClampNeg) ≤ z2 then m_M_readBody_96 v_typed v_line k_8 v_read v_body z1 z2 z3 else (if inR (z3 - (nI 1)) 3 = true then (if inR z3 3 = true then m_M_readBody_60 v_typed v_line k_8 n v_read (upd v_body z3.toNatClampNeg (v_body (z3 - (nI 1)).toNatClampNeg)) z1 z2 (z3 + (-1 : Int32)) else none) else none)) else none))
def m_M_readBody_8 (v_typed : Int32) (v_line : Nat → Int32) : Nat → Int32 → (Nat → Int32) → Int32 → Option (Int32 × (Nat → Int32))
  | 0, _, _, _ => none
  | n + 1, v_read, v_body, z1 => (if v_typed ≤ z1 then some (v_read, v_body) else (if inR z1 32 = true then (Option.bind (m_M_relationOf (v_line z1.toNatClampNeg)) (fun v_24 => (if inR (z1 + (nI 2)) 32 = true then (if inR (z1 + (nI 4)) 32 = true then (letN (((((nI 9) * v_24.1) + ((nI 3) * ((v_line (z1 + (nI 2)).toNatClampNeg) - (nI 88)))) + (v_line (z1 + (nI 4)).toNatClampNeg)) - (nI 88)) (fun w_54 => m_M_readBody_60 v_typed v_line (m_M_readBody_8 v_typed v_line n) 40 v_read v_body z1 w_54 v_read)) else none) else none))) else none))
def m_M_readBody (v_typed : Int32) (v_read : Int32) (v_line : Nat → Int32) (v_body : Nat → Int32) : Option (Int32 × (Nat → Int32)) := m_M_readBody_8 v_typed v_line 40 (nI 0) v_body (nI 8)
def m_M_variables (x0 : Int32) : Option (Int32 × Unit) := some (((nI 1) <<< ((irm (x0 / (nI 3)) (nI 3)) &&& 31)) ||| ((nI 1) <<< ((irm x0 (nI 3)) &&& 31)), ())
def m_M_known_57 (v_read : Int32) (v_many : Nat → Int32) (v_codes : Nat → Int32) (v_body : Nat → Int32) (k_21 : Int32 → Int32 → Int32 → Option (Int32 × Unit)) (z1 : Int32) (z3 : Int32) (y0 : Int32) : Option (Int32 × Unit) := k_21 z1 y0 (z3 + (nI 1))
def m_M_known_21 (v_read : Int32) (v_many : Nat → Int32) (v_codes : Nat → Int32) (v_body : Nat → Int32) : Nat → Int32 → Int32 → Int32 → Option (Int32 × Unit)
  | 0, _, _, _ => none
  | n + 1, z1, z2, z3 => (if v_read ≤ z3 then (if isZ z2 = true then some (z2, ()) else none) else (if z2 = (nI 0) then (if isZ z2 = true then some (z2, ()) else none) else (if inR (((nI 3) * z1) + z3) 6 = true then (if inR z3 3 = true then (if (v_codes (((nI 3) * z1) + z3).toNatClampNeg) = (v_body z3.toNatClampNeg) then m_M_known_57 v_read v_many v_codes v_body (m_M_known_21 v_read v_many v_codes v_body n) z1 z3 (nI 1) else m_M_known_57 v_read v_many v_codes v_body (m_M_known_21 v_read v_many v_codes v_body n) z1 z3 (nI 0)) else none) else none)))
def m_M_known_18 (v_read : Int32) (v_many : Nat → Int32) (v_codes : Nat → Int32) (v_body : Nat → Int32) (z1 : Int32) (y0 : Int32) : Option (Int32 × Unit) := m_M_known_21 v_read v_many v_codes v_body 40 z1 y0 (nI 0)
def m_M_known (v_read : Int32) (v_many : Nat → Int32) (v_codes : Nat → Int32) (v_body : Nat → Int32) (x1 : Int32) : Option (Int32 × Unit) := (if inR x1 2 = true then (if (v_many x1.toNatClampNeg) = v_read then m_M_known_18 v_read v_many v_codes v_body x1 (nI 1) else m_M_known_18 v_read v_many v_codes v_body x1 (nI 0)) else none)
def m_M_enterClause_137 (v_typed : Int32) (v_line : Nat → Int32) : Nat → Int32 → Int32 → (Nat → Int32) → (Nat → Int32) → (Nat → Int32) → Int32 → Option (Int32 × Int32 × Int32 × (Nat → Int32) × (Nat → Int32) × (Nat → Int32))
  | 0, _, _, _, _, _, _ => none
  | n + 1, v_count, v_read, v_many, v_codes, v_body, z3 => (if v_read ≤ z3 then some ((nI 9) + (v_count + (nI 1)), (v_count + (nI 1), v_read, v_many, v_codes, v_body)) else (if inR z3 3 = true then (if inR (((nI 3) * v_count) + z3) 6 = true then m_M_enterClause_137 v_typed v_line n v_count v_read v_many (upd v_codes (((nI 3) * v_count) + z3).toNatClampNeg (v_body z3.toNatClampNeg)) v_body (z3 + (nI 1)) else none) else none))
def m_M_enterClause_86 (v_typed : Int32) (v_line : Nat → Int32) : Nat → Int32 → Int32 → (Nat → Int32) → (Nat → Int32) → (Nat → Int32) → Int32 → Option (Int32 × Int32 × Int32 × (Nat → Int32) × (Nat → Int32) × (Nat → Int32))
  | 0, _, _, _, _, _, _ => none
  | n + 1, v_count, v_read, v_many, v_codes, v_body, z3 => (if v_count ≤ z3 then (if v_count = (nI 2) then some ((-103 : Int32), (v_count, v_read, v_many, v_codes, v_body)) else (if inR v_count 2 = true then m_M_enterClause_137 v_typed v_line 40 v_count v_read (upd v_many v_count.toNatClampNeg v_read) v_codes v_body (nI 0) else none)) else (Option.bind (m_M_known v_read v_many v_codes v_body z3) (fun v_96 => (if v_96.1 = (nI 0) then m_M_enterClause_86 v_typed v_line n v_count v_read v_many v_codes v_body (z3 + (nI 1)) else some ((-102 : Int32), (v_count, v_read, v_many, v_codes, v_body))))))
def m_M_enterClause_60 (v_typed : Int32) (v_line : Nat → Int32) (k_10 : Int32 → Int32 → (Nat → Int32) → (Nat → Int32) → (Nat → Int32) → Int32 → Int32 → Int32 → Option (Int32 × Int32 × Int32 × (Nat → Int32) × (Nat → Int32) × (Nat → Int32))) (v_count : Int32) (v_read : Int32) (v_many : Nat → Int32) (v_codes : Nat → Int32) (v_body : Nat → Int32) (z1 : Int32) (z3 : Int32) (y0 : Int32) : Option (Int32 × Int32 × Int32 × (Nat → Int32) × (Nat → Int32) × (Nat → Int32)) := k_10 v_count v_read v_many v_codes v_body z1 y0 (z3 + (nI 1))
def m_M_enterClause_55 (v_typed : Int32) (v_line : Nat → Int32) (k_10 : Int32 → Int32 → (Nat → Int32) → (Nat → Int32) → (Nat → Int32) → Int32 → Int32 → Int32 → Option (Int32 × Int32 × Int32 × (Nat → Int32) × (Nat → Int32) × (Nat → Int32))) (v_count : Int32) (v_read : Int32) (v_many : Nat → Int32) (v_codes : Nat → Int32) (v_body : Nat → Int32) (z1 : Int32) (z3 : Int32) : Option (Int32 × Int32 × Int32 × (Nat → Int32) × (Nat → Int32) × (Nat → Int32)) := m_M_enterClause_60 v_typed v_line k_10 v_count v_read v_many v_codes v_body z1 z3 (nI 1)
def m_M_enterClause_59 (v_typed : Int32) (v_line : Nat → Int32) (k_10 : Int32 → Int32 → (Nat → Int32) → (Nat → Int32) → (Nat → Int32) → Int32 → Int32 → Int32 → Option (Int32 × Int32 × Int32 × (Nat → Int32) × (Nat → Int32) × (Nat → Int32))) (v_count : Int32) (v_read : Int32) (v_many : Nat → Int32) (v_codes : Nat → Int32) (v_body : Nat → Int32) (z1 : Int32) (z3 : Int32) : Option (Int32 × Int32 × Int32 × (Nat → Int32) × (Nat → Int32) × (Nat → Int32)) := m_M_enterClause_60 v_typed v_line k_10 v_count v_read v_many v_codes v_body z1 z3 (nI 0)
def m_M_enterClause_10 (v_typed : Int32) (v_line : Nat → Int32) : Nat → Int32 → Int32 → (Nat → Int32) → (Nat → Int32) → (Nat → Int32) → Int32 → Int32 → Int32 → Option (Int32 × Int32 × Int32 × (Nat → Int32) × (Nat → Int32) × (Nat → Int32))
  | 0, _, _, _, _, _, _, _, _ => none
  | n + 1, v_count, v_read, v_many, v_codes, v_body, z1, z2, z3 => (if v_read ≤ z3 then (if z2 = (nI 0) then (if (z1 &&& (nI 3)) = (nI 3) then m_M_enterClause_86 v_typed v_line 40 v_count v_read v_many v_codes v_body (nI 0) else some ((-101 : Int32), (v_count, v_read, v_many, v_codes, v_body))) else some ((-100 : Int32), (v_count, v_read, v_many, v_codes, v_body))) else (if inR z3 3 = true then (Option.bind (m_M_variables (v_body z3.toNatClampNeg)) (fun v_25 => (if z2 = (nI 0) then (if z3 ≤ (nI 0) then m_M_enterClause_59 v_typed v_line (m_M_enterClause_10 v_typed v_line n) v_count v_read v_many v_codes v_body (z1 ||| v_25.1) z3 else (if inR (z3 - (nI 1)) 3 = true then (if inR z3 3 = true then (if (v_body (z3 - (nI 1)).toNatClampNeg) = (v_body z3.toNatClampNeg) then m_M_enterClause_55 v_typed v_line (m_M_enterClause_10 v_typed v_line n) v_count v_read v_many v_codes v_body (z1 ||| v_25.1) z3 else m_M_enterClause_59 v_typed v_line (m_M_enterClause_10 v_typed v_line n) v_count v_read v_many v_codes v_body (z1 ||| v_25.1) z3) else none) else none)) else m_M_enterClause_55 v_typed v_line (m_M_enterClause_10 v_typed v_line n) v_count v_read v_many v_codes v_body (z1 ||| v_25.1) z3))) else none))
def m_M_enterClause (v_typed : Int32) (v_count : Int32) (v_read : Int32) (v_line : Nat → Int32) (v_many : Nat → Int32) (v_codes : Nat → Int32) (v_body : Nat → Int32) : Option (Int32 × Int32 × Int32 × (Nat → Int32) × (Nat → Int32) × (Nat → Int32)) := (Option.bind (m_M_readBody v_typed v_read v_line v_body) (fun v_1 => m_M_enterClause_10 v_typed v_line 40 v_count v_1.1 v_many v_codes v_1.2 (nI 0) (nI 0) (nI 0)))
def m_M_enterMark_15 (v_marked : Nat → Int32) (z1 : Int32) (z2 : Int32) (y0 : Int32) : Option (Int32 × (Nat → Int32)) := (if inR z1 16 = true then (if y0 = (nI 0) then some ((nI 0), upd v_marked z1.toNatClampNeg z2) else some ((nI 1), upd v_marked z1.toNatClampNeg z2)) else none)
def m_M_enterMark (v_marked : Nat → Int32) (x1 : Int32) (x2 : Int32) : Option (Int32 × (Nat → Int32)) := (if inR x1 16 = true then (if (v_marked x1.toNatClampNeg) = x2 then m_M_enterMark_15 v_marked x1 x2 (nI 0) else m_M_enterMark_15 v_marked x1 x2 (nI 1)) else none)
def m_M_enterFact_15 (v_fact : Nat → Int32) (z1 : Int32) (z2 : Int32) (y0 : Int32) : Option (Int32 × (Nat → Int32)) := (if inR z1 32 = true then (if isZ z2 = true then (if y0 = (nI 0) then some ((nI 0), upd v_fact z1.toNatClampNeg z2) else some ((nI 1), upd v_fact z1.toNatClampNeg z2)) else none) else none)
def m_M_enterFact (v_fact : Nat → Int32) (x1 : Int32) (x2 : Int32) : Option (Int32 × (Nat → Int32)) := (if inR x1 32 = true then (if (v_fact x1.toNatClampNeg) = x2 then m_M_enterFact_15 v_fact x1 x2 (nI 0) else m_M_enterFact_15 v_fact x1 x2 (nI 1)) else none)
def m_M_enter_154 (v_line : Nat → Int32) (v_typed : Int32) (v_count : Int32) (v_read : Int32) (v_fact : Nat → Int32) (v_marked : Nat → Int32) (v_many : Nat → Int32) (v_codes : Nat → Int32) (v_body : Nat → Int32) (y0 : Int32) (y1 : Int32) : Option (Int32 × Int32 × Int32 × Int32 × (Nat → Int32) × (Nat → Int32) × (Nat → Int32) × (Nat → Int32) × (Nat → Int32)) := (Option.bind (m_M_enterFact v_fact y1 y0) (fun v_154 => some (v_154.1, (v_typed, v_count, v_read, v_154.2, v_marked, v_many, v_codes, v_body))))
def m_M_enter_128 (v_line : Nat → Int32) (v_typed : Int32) (v_count : Int32) (v_read : Int32) (v_fact : Nat → Int32) (v_marked : Nat → Int32) (v_many : Nat → Int32) (v_codes : Nat → Int32) (v_body : Nat → Int32) (y0 : Int32) (y1 : Int32) : Option (Int32 × Int32 × Int32 × Int32 × (Nat → Int32) × (Nat → Int32) × (Nat → Int32) × (Nat → Int32) × (Nat → Int32)) := (Option.bind (m_M_enterMark v_marked y1 y0) (fun v_128 => some (v_128.1, (v_typed, v_count, v_read, v_fact, v_128.2, v_many, v_codes, v_body))))
def m_M_enter (v_typed : Int32) (v_count : Int32) (v_read : Int32) (v_line : Nat → Int32) (v_fact : Nat → Int32) (v_marked : Nat → Int32) (v_many : Nat → Int32) (v_codes : Nat → Int32) (v_body : Nat → Int32) : Option (Int32 × Int32 × Int32 × Int32 × (Nat → Int32) × (Nat → Int32) × (Nat → Int32) × (Nat → Int32) × (Nat → Int32)) := (Option.bind (m_M_fault v_typed v_line) (fun v_1 => (if v_1.1 < (nI 0) then (if inR (nI 0) 32 = true then (if (v_line (nI 0).toNatClampNeg) = (nI 116) then (Option.bind (m_M_enterClause v_typed v_count v_read v_line v_many v_codes v_body) (fun v_35 => some (v_35.1, ((nI 0), v_35.2.1, v_35.2.2.1, v_fact, v_marked, v_35.2.2.2.1, v_35.2.2.2.2.1, v_35.2.2.2.2.2)))) else (if inR (v_typed - (nI 4)) 32 = true then (if inR (v_typed - (nI 2)) 32 = true then (letN ((((nI 4) * ((v_line (v_typed - (nI 4)).toNatClampNeg) - (nI 48))) + (v_line (v_typed - (nI 2)).toNatClampNeg)) - (nI 48)) (fun w_76 => (if inR (v_typed - (nI 6)) 32 = true then (if (v_line (v_typed - (nI 6)).toNatClampNeg) = (nI 116) then (if inR (nI 0) 32 = true then (if (v_line (nI 0).toNatClampNeg) = (nI 43) then m_M_enter_128 v_line (nI 0) v_count v_read v_fact v_marked v_many v_codes v_body (nI 1) w_76 else (if inR (nI 0) 32 = true then (if (v_line (nI 0).toNatClampNeg) = (nI 45) then m_M_enter_128 v_line (nI 0) v_count v_read v_fact v_marked v_many v_codes v_body (-1 : Int32) w_76 else m_M_enter_128 v_line (nI 0) v_count v_read v_fact v_marked v_many v_codes v_body (nI 0) w_76) else none)) else none) else (Option.bind (m_M_relationOf (v_line (v_typed - (nI 6)).toNatClampNeg)) (fun v_137 => (if v_typed = (nI 6) then m_M_enter_154 v_line (nI 0) v_count v_read v_fact v_marked v_many v_codes v_body (nI 1) (((nI 16) * v_137.1) + w_76) else m_M_enter_154 v_line (nI 0) v_count v_read v_fact v_marked v_many v_codes v_body (nI 0) (((nI 16) * v_137.1) + w_76))))) else none))) else none) else none)) else none) else some ((-1 : Int32) - v_1.1, ((nI 0), v_count, v_read, v_fact, v_marked, v_many, v_codes, v_body)))))
def m_M_constant (x0 : Int32) : Option (Int32 × Unit) := (if x0 < (nI 0) then some ((nI 0), ()) else (if (nI 4) ≤ x0 then some ((nI 0), ()) else some ((nI 1), ())))
def m_M_facts_42 (v_fact : Nat → Int32) (k_15 : Int32 → Int32 → Int32 → Option (Int32 × Unit)) (z1 : Int32) (z3 : Int32) (y0 : Int32) : Option (Int32 × Unit) := k_15 z1 y0 (z3 + (nI 1))
def m_M_facts_15 (v_fact : Nat → Int32) : Nat → Int32 → Int32 → Int32 → Option (Int32 × Unit)
  | 0, _, _, _ => none
  | n + 1, z1, z2, z3 => (if (nI 16) ≤ z3 then some (z2, ()) else (if inR (((nI 16) * z1) + z3) 32 = true then (if (v_fact (((nI 16) * z1) + z3).toNatClampNeg) = (nI 0) then m_M_facts_42 v_fact (m_M_facts_15 v_fact n) z1 z3 z2 else m_M_facts_42 v_fact (m_M_facts_15 v_fact n) z1 z3 (z2 + (nI 1))) else none))
def m_M_facts (v_fact : Nat → Int32) (x1 : Int32) : Option (Int32 × Unit) := (if x1 < (nI 0) then some ((-1 : Int32), ()) else (if x1 ≤ (nI 1) then m_M_facts_15 v_fact 40 x1 (nI 0) (nI 0) else some ((-1 : Int32), ())))
def m_M_holds_9 (v_fact : Nat → Int32) (z1 : Int32) (z2 : Int32) (z3 : Int32) : Option (Int32 × Unit) := (Option.bind (m_M_constant z2) (fun v_10 => (if v_10.1 = (nI 0) then some ((nI 0), ()) else (Option.bind (m_M_constant z3) (fun v_17 => (if v_17.1 = (nI 0) then some ((nI 0), ()) else (if inR ((((nI 16) * z1) + ((nI 4) * z2)) + z3) 32 = true then (if (v_fact ((((nI 16) * z1) + ((nI 4) * z2)) + z3).toNatClampNeg) = (nI 0) then some ((nI 0), ()) else some ((nI 1), ())) else none)))))))
def m_M_holds (v_fact : Nat → Int32) (x1 : Int32) (x2 : Int32) (x3 : Int32) : Option (Int32 × Unit) := (if x1 = (nI 0) then m_M_holds_9 v_fact x1 x2 x3 else (if x1 = (nI 1) then m_M_holds_9 v_fact x1 x2 x3 else some ((nI 0), ())))
def m_M_mark (v_marked : Nat → Int32) (x1 : Int32) (x2 : Int32) : Option (Int32 × Unit) := (Option.bind (m_M_constant x1) (fun v_1 => (if v_1.1 = (nI 0) then some ((nI 0), ()) else (Option.bind (m_M_constant x2) (fun v_8 => (if v_8.1 = (nI 0) then some ((nI 0), ()) else (if inR (((nI 4) * x1) + x2) 16 = true then some (v_marked (((nI 4) * x1) + x2).toNatClampNeg, ()) else none)))))))
def m_M_clause (v_count : Int32) (x1 : Int32) : Option (Int32 × Unit) := (if x1 < (nI 0) then some ((nI 0), ()) else (if v_count ≤ x1 then some ((nI 0), ()) else some ((nI 1), ())))
def m_M_drop_53 (v_count : Int32) (v_many : Nat → Int32) (v_codes : Nat → Int32) : Option (Int32 × Int32 × (Nat → Int32) × (Nat → Int32)) := some ((nI 1), (v_count - (nI 1), v_many, v_codes))
def m_M_drop_28 : Nat → Int32 → (Nat → Int32) → (Nat → Int32) → Int32 → Option (Int32 × Int32 × (Nat → Int32) × (Nat → Int32))
  | 0, _, _, _, _ => none
  | n + 1, v_count, v_many, v_codes, z2 => (if (nI 3) ≤ z2 then m_M_drop_53 v_count v_many v_codes else (if inR ((nI 3) + z2) 6 = true then (if inR z2 6 = true then m_M_drop_28 n v_count v_many (upd v_codes z2.toNatClampNeg (v_codes ((nI 3) + z2).toNatClampNeg)) (z2 + (nI 1)) else none) else none))
def m_M_drop (v_count : Int32) (v_many : Nat → Int32) (v_codes : Nat → Int32) (x1 : Int32) : Option (Int32 × Int32 × (Nat → Int32) × (Nat → Int32)) := (Option.bind (m_M_clause v_count x1) (fun v_2 => (if v_2.1 = (nI 0) then some ((nI 0), (v_count, v_many, v_codes)) else (if x1 = (nI 0) then (if inR (nI 1) 2 = true then (if inR (nI 0) 2 = true then m_M_drop_28 40 v_count (upd v_many (nI 0).toNatClampNeg (v_many (nI 1).toNatClampNeg)) v_codes (nI 0) else none) else none) else m_M_drop_53 v_count v_many v_codes))))
def m_M_clauses (v_count : Int32) : Option (Int32 × Unit) := some (v_count, ())
def m_M_literals (v_count : Int32) (v_many : Nat → Int32) (x1 : Int32) : Option (Int32 × Unit) := (Option.bind (m_M_clause v_count x1) (fun v_2 => (if v_2.1 = (nI 0) then some ((-1 : Int32), ()) else (if inR x1 2 = true then some (v_many x1.toNatClampNeg, ()) else none))))
def m_M_literal (v_count : Int32) (v_many : Nat → Int32) (v_codes : Nat → Int32) (x1 : Int32) (x2 : Int32) : Option (Int32 × Unit) := (Option.bind (m_M_clause v_count x1) (fun v_2 => (if v_2.1 = (nI 0) then some ((-1 : Int32), ()) else (if x2 < (nI 0) then some ((-1 : Int32), ()) else (if inR x1 2 = true then (if (v_many x1.toNatClampNeg) ≤ x2 then some ((-1 : Int32), ()) else (if inR (((nI 3) * x1) + x2) 6 = true then some (v_codes (((nI 3) * x1) + x2).toNatClampNeg, ()) else none)) else none)))))
def m_M_letterOf (x0 : Int32) (x1 : Int32) : Option (Int32 × Unit) := (if x1 = (nI 0) then (if (nI 9) ≤ x0 then (if (nI 18) ≤ x0 then some ((nI 116), ()) else some ((nI 98), ())) else some ((nI 97), ())) else (if x1 = (nI 1) then some ((nI 40), ()) else (if x1 = (nI 2) then some ((nI 88) + (irm (x0 / (nI 3)) (nI 3)), ()) else (if x1 = (nI 3) then some ((nI 44), ()) else (if x1 = (nI 4) then some ((nI 88) + (irm x0 (nI 3)), ()) else some ((nI 41), ()))))))
def m_M_letter_4 (v_count : Int32) (v_many : Nat → Int32) (v_codes : Nat → Int32) : Nat → Int32 → Int32 → Option (Int32 × Unit)
  | 0, _, _ => none
  | n + 1, z2, z3 => (if v_count ≤ z3 then some ((-1 : Int32), ()) else (if z2 < (nI 0) then some ((-1 : Int32), ()) else (if inR z3 2 = true then (if ((nI 7) + ((nI 7) * (v_many z3.toNatClampNeg))) ≤ z2 then (if (z2 - ((nI 7) + ((nI 7) * (v_many z3.toNatClampNeg)))) = (nI 0) then (if v_count ≤ (z3 + (nI 1)) then some ((-1 : Int32), ()) else some ((nI 59), ())) else m_M_letter_4 v_count v_many v_codes n ((z2 - ((nI 7) + ((nI 7) * (v_many z3.toNatClampNeg)))) + (-1 : Int32)) (z3 + (nI 1))) else (if (nI 0) ≤ (z2 - (nI 8)) then (if (irm (z2 - (nI 8)) (nI 7)) = (nI 6) then some ((nI 44), ()) else (if inR (((nI 3) * z3) + ((z2 - (nI 8)) / (nI 7))) 6 = true then (Option.bind (m_M_letterOf (v_codes (((nI 3) * z3) + ((z2 - (nI 8)) / (nI 7))).toNatClampNeg) (irm (z2 - (nI 8)) (nI 7))) (fun v_88 => some (v_88.1, ()))) else none)) else (Option.bind (m_M_head z2) (fun v_48 => some (v_48.1, ()))))) else none)))
def m_M_letter (v_count : Int32) (v_many : Nat → Int32) (v_codes : Nat → Int32) (x1 : Int32) : Option (Int32 × Unit) := m_M_letter_4 v_count v_many v_codes 40 x1 (nI 0)
def m_M_replaced_33 (z0 : Int32) (z2 : Int32) (y0 : Int32) : Option (Int32 × Unit) := some ((((z0 / (nI 9)) * (nI 9)) + ((nI 3) * z2)) + y0, ())
def m_M_replaced_18 (z0 : Int32) (z1 : Int32) (y0 : Int32) : Option (Int32 × Unit) := (if (irm z0 (nI 3)) = (nI 2) then m_M_replaced_33 z0 y0 z1 else m_M_replaced_33 z0 y0 (irm z0 (nI 3)))
def m_M_replaced (x0 : Int32) (x1 : Int32) : Option (Int32 × Unit) := (if (irm (x0 / (nI 3)) (nI 3)) = (nI 2) then m_M_replaced_18 x0 x1 x1 else m_M_replaced_18 x0 x1 (irm (x0 / (nI 3)) (nI 3)))
def m_M_subsumes_148 (v_count : Int32) (v_many : Nat → Int32) (v_codes : Nat → Int32) (k_23 : Int32 → Int32 → Int32 → Int32 → Option (Int32 × Unit)) (z1 : Int32) (z2 : Int32) (z4 : Int32) (y0 : Int32) : Option (Int32 × Unit) := k_23 z1 z2 y0 (z4 + (nI 1))
def m_M_subsumes_143 (v_count : Int32) (v_many : Nat → Int32) (v_codes : Nat → Int32) (k_23 : Int32 → Int32 → Int32 → Int32 → Option (Int32 × Unit)) (z1 : Int32) (z2 : Int32) (z4 : Int32) : Option (Int32 × Unit) := m_M_subsumes_148 v_count v_many v_codes k_23 z1 z2 z4 (nI 1)
def m_M_subsumes_126 (v_count : Int32) (v_many : Nat → Int32) (v_codes : Nat → Int32) (k_35 : Int32 → Int32 → Int32 → Int32 → Int32 → Int32 → Option (Int32 × Unit)) (z1 : Int32) (z2 : Int32) (z3 : Int32) (z4 : Int32) (z6 : Int32) (y0 : Int32) : Option (Int32 × Unit) := k_35 z1 z2 z3 z4 y0 (z6 + (nI 1))
def m_M_subsumes_125 (v_count : Int32) (v_many : Nat → Int32) (v_codes : Nat → Int32) (k_35 : Int32 → Int32 → Int32 → Int32 → Int32 → Int32 → Option (Int32 × Unit)) (z1 : Int32) (z2 : Int32) (z3 : Int32) (z4 : Int32) (z6 : Int32) : Option (Int32 × Unit) := m_M_subsumes_126 v_count v_many v_codes k_35 z1 z2 z3 z4 z6 (nI 0)
def m_M_subsumes_103 (v_count : Int32) (v_many : Nat → Int32) (v_codes : Nat → Int32) (k_52 : Int32 → Int32 → Int32 → Int32 → Int32 → Int32 → Int32 → Int32 → Option (Int32 × Unit)) (z1 : Int32) (z2 : Int32) (z3 : Int32) (z4 : Int32) (z5 : Int32) (z6 : Int32) (z8 : Int32) (y0 : Int32) : Option (Int32 × Unit) := k_52 z1 z2 z3 z4 z5 z6 y0 (z8 + (nI 1))
def m_M_subsumes_98 (v_count : Int32) (v_many : Nat → Int32) (v_codes : Nat → Int32) (k_52 : Int32 → Int32 → Int32 → Int32 → Int32 → Int32 → Int32 → Int32 → Option (Int32 × Unit)) (z1 : Int32) (z2 : Int32) (z3 : Int32) (z4 : Int32) (z5 : Int32) (z6 : Int32) (z8 : Int32) : Option (Int32 × Unit) := m_M_subsumes_103 v_count v_many v_codes k_52 z1 z2 z3 z4 z5 z6 z8 (nI 1)
def m_M_subsumes_52 (v_count : Int32) (v_many : Nat → Int32) (v_codes : Nat → Int32) (k_35 : Int32 → Int32 → Int32 → Int32 → Int32 → Int32 → Option (Int32 × Unit)) : Nat → Int32 → Int32 → Int32 → Int32 → Int32 → Int32 → Int32 → Int32 → Option (Int32 × Unit)
  | 0, _, _, _, _, _, _, _, _ => none
  | n + 1, z1, z2, z3, z4, z5, z6, z7, z8 => (if inR z2 2 = true then (if (v_many z2.toNatClampNeg) ≤ z8 then (if z5 = (nI 0) then m_M_subsumes_125 v_count v_many v_codes k_35 z1 z2 z3 z4 z6 else (if z7 = (nI 0) then m_M_subsumes_125 v_count v_many v_codes k_35 z1 z2 z3 z4 z6 else m_M_subsumes_126 v_count v_many v_codes k_35 z1 z2 z3 z4 z6 (nI 1))) else (if z7 = (nI 0) then (if inR (((nI 3) * z1) + z6) 6 = true then (Option.bind (m_M_replaced (v_codes (((nI 3) * z1) + z6).toNatClampNeg) z4) (fun v_81 => (if inR (((nI 3) * z2) + z8) 6 = true then (if v_81.1 = (v_codes (((nI 3) * z2) + z8).toNatClampNeg) then m_M_subsumes_98 v_count v_many v_codes (m_M_subsumes_52 v_count v_many v_codes k_35 n) z1 z2 z3 z4 z5 z6 z8 else m_M_subsumes_103 v_count v_many v_codes (m_M_subsumes_52 v_count v_many v_codes k_35 n) z1 z2 z3 z4 z5 z6 z8 (nI 0)) else none))) else none) else m_M_subsumes_98 v_count v_many v_codes (m_M_subsumes_52 v_count v_many v_codes k_35 n) z1 z2 z3 z4 z5 z6 z8)) else none)
def m_M_subsumes_35 (v_count : Int32) (v_many : Nat → Int32) (v_codes : Nat → Int32) (k_23 : Int32 → Int32 → Int32 → Int32 → Option (Int32 × Unit)) : Nat → Int32 → Int32 → Int32 → Int32 → Int32 → Int32 → Option (Int32 × Unit)
  | 0, _, _, _, _, _, _ => none
  | n + 1, z1, z2, z3, z4, z5, z6 => (if inR z1 2 = true then (if (v_many z1.toNatClampNeg) ≤ z6 then (if z3 = (nI 0) then (if z5 = (nI 0) then m_M_subsumes_148 v_count v_many v_codes k_23 z1 z2 z4 (nI 0) else m_M_subsumes_143 v_count v_many v_codes k_23 z1 z2 z4) else m_M_subsumes_143 v_count v_many v_codes k_23 z1 z2 z4) else m_M_subsumes_52 v_count v_many v_codes (m_M_subsumes_35 v_count v_many v_codes k_23 n) 40 z1 z2 z3 z4 z5 z6 (nI 0) (nI 0)) else none)
def m_M_subsumes_23 (v_count : Int32) (v_many : Nat → Int32) (v_codes : Nat → Int32) : Nat → Int32 → Int32 → Int32 → Int32 → Option (Int32 × Unit)
  | 0, _, _, _, _ => none
  | n + 1, z1, z2, z3, z4 => (if (nI 3) ≤ z4 then (if isZ z3 = true then some (z3, ()) else none) else m_M_subsumes_35 v_count v_many v_codes (m_M_subsumes_23 v_count v_many v_codes n) 40 z1 z2 z3 z4 (nI 1) (nI 0))
def m_M_subsumes (v_count : Int32) (v_many : Nat → Int32) (v_codes : Nat → Int32) (x1 : Int32) (x2 : Int32) : Option (Int32 × Unit) := (Option.bind (m_M_clause v_count x1) (fun v_2 => (if v_2.1 = (nI 0) then some ((nI 0), ()) else (Option.bind (m_M_clause v_count x2) (fun v_10 => (if v_10.1 = (nI 0) then some ((nI 0), ()) else m_M_subsumes_23 v_count v_many v_codes 40 x1 x2 (nI 0) (nI 0)))))))
def m_M_valueOf (x0 : Int32) (x1 : Int32) (x2 : Int32) (x3 : Int32) : Option (Int32 × Unit) := (if x0 = (nI 0) then some (x1, ()) else (if x0 = (nI 1) then some (x2, ()) else some (x3, ())))
def m_M_literalHolds (v_fact : Nat → Int32) (v_roundOf : Nat → Int32) (x1 : Int32) (x2 : Int32) (x3 : Int32) (x4 : Int32) : Option (Int32 × Unit) := (Option.bind (m_M_valueOf (irm (x1 / (nI 3)) (nI 3)) x2 x3 x4) (fun v_9 => (Option.bind (m_M_valueOf (irm x1 (nI 3)) x2 x3 x4) (fun v_21 => (if (nI 18) ≤ x1 then (if inR (((nI 4) * v_9.1) + v_21.1) 16 = true then (if (v_roundOf (((nI 4) * v_9.1) + v_21.1).toNatClampNeg) ≤ (nI 0) then some ((nI 0), ()) else some ((nI 1), ())) else none) else (if inR (((nI 16) * (x1 / (nI 9))) + (((nI 4) * v_9.1) + v_21.1)) 32 = true then (if isZ (v_fact (((nI 16) * (x1 / (nI 9))) + (((nI 4) * v_9.1) + v_21.1)).toNatClampNeg) = true then some (v_fact (((nI 16) * (x1 / (nI 9))) + (((nI 4) * v_9.1) + v_21.1)).toNatClampNeg, ()) else none) else none))))))
def m_M_follows_68 (v_count : Int32) (v_fact : Nat → Int32) (v_many : Nat → Int32) (v_codes : Nat → Int32) (v_roundOf : Nat → Int32) (k_13 : Int32 → Int32 → Int32 → Int32 → Option (Int32 × Unit)) (z1 : Int32) (z2 : Int32) (z3 : Int32) (z4 : Int32) (z5 : Int32) : Option (Int32 × Unit) := (if z5 = (nI 0) then k_13 z1 z2 z3 (z4 + (nI 1)) else some ((nI 1), ()))
def m_M_follows_25 (v_count : Int32) (v_fact : Nat → Int32) (v_many : Nat → Int32) (v_codes : Nat → Int32) (v_roundOf : Nat → Int32) (k_13 : Int32 → Int32 → Int32 → Int32 → Option (Int32 × Unit)) : Nat → Int32 → Int32 → Int32 → Int32 → Int32 → Int32 → Option (Int32 × Unit)
  | 0, _, _, _, _, _, _ => none
  | n + 1, z1, z2, z3, z4, z5, z6 => (if inR z3 2 = true then (if (v_many z3.toNatClampNeg) ≤ z6 then m_M_follows_68 v_count v_fact v_many v_codes v_roundOf k_13 z1 z2 z3 z4 z5 else (if z5 = (nI 0) then m_M_follows_68 v_count v_fact v_many v_codes v_roundOf k_13 z1 z2 z3 z4 z5 else (if inR (((nI 3) * z3) + z6) 6 = true then (Option.bind (m_M_literalHolds v_fact v_roundOf (v_codes (((nI 3) * z3) + z6).toNatClampNeg) z1 z2 z4) (fun v_57 => m_M_follows_25 v_count v_fact v_many v_codes v_roundOf k_13 n z1 z2 z3 z4 v_57.1 (z6 + (nI 1)))) else none))) else none)
def m_M_follows_13 (v_count : Int32) (v_fact : Nat → Int32) (v_many : Nat → Int32) (v_codes : Nat → Int32) (v_roundOf : Nat → Int32) (k_2 : Int32 → Int32 → Int32 → Option (Int32 × Unit)) : Nat → Int32 → Int32 → Int32 → Int32 → Option (Int32 × Unit)
  | 0, _, _, _, _ => none
  | n + 1, z1, z2, z3, z4 => (if (nI 4) ≤ z4 then k_2 z1 z2 (z3 + (nI 1)) else m_M_follows_25 v_count v_fact v_many v_codes v_roundOf (m_M_follows_13 v_count v_fact v_many v_codes v_roundOf k_2 n) 40 z1 z2 z3 z4 (nI 1) (nI 0))
def m_M_follows_2 (v_count : Int32) (v_fact : Nat → Int32) (v_many : Nat → Int32) (v_codes : Nat → Int32) (v_roundOf : Nat → Int32) : Nat → Int32 → Int32 → Int32 → Option (Int32 × Unit)
  | 0, _, _, _ => none
  | n + 1, z1, z2, z3 => (if v_count ≤ z3 then some ((nI 0), ()) else m_M_follows_13 v_count v_fact v_many v_codes v_roundOf (m_M_follows_2 v_count v_fact v_many v_codes v_roundOf n) 40 z1 z2 z3 (nI 0))
def m_M_follows (v_count : Int32) (v_fact : Nat → Int32) (v_many : Nat → Int32) (v_codes : Nat → Int32) (v_roundOf : Nat → Int32) (x1 : Int32) (x2 : Int32) : Option (Int32 × Unit) := m_M_follows_2 v_count v_fact v_many v_codes v_roundOf 40 x1 x2 (nI 0)
def m_M_work_156 (v_count : Int32) (v_fact : Nat → Int32) (v_many : Nat → Int32) (v_codes : Nat → Int32) (k_123 : Int32 → (Nat → Int32) → (Nat → Int32) → Int32 → Int32 → Option (Int32 × (Nat → Int32) × (Nat → Int32))) (v_last : Int32) (v_roundOf : Nat → Int32) (v_fresh : Nat → Int32) (z1 : Int32) (z2 : Int32) (y0 : Int32) (y1 : Int32) : Option (Int32 × (Nat → Int32) × (Nat → Int32)) := (if inR y1 16 = true then k_123 v_last (upd v_roundOf y1.toNatClampNeg y0) v_fresh z1 (z2 + (nI 1)) else none)
def m_M_work_123 (v_count : Int32) (v_fact : Nat → Int32) (v_many : Nat → Int32) (v_codes : Nat → Int32) (k_28 : Int32 → (Nat → Int32) → (Nat → Int32) → Int32 → Option (Int32 × (Nat → Int32) × (Nat → Int32))) : Nat → Int32 → (Nat → Int32) → (Nat → Int32) → Int32 → Int32 → Option (Int32 × (Nat → Int32) × (Nat → Int32))
  | 0, _, _, _, _, _ => none
  | n + 1, v_last, v_roundOf, v_fresh, z1, z2 => (if (nI 16) ≤ z2 then k_28 v_last v_roundOf v_fresh z1 else (if inR z2 16 = true then (if (v_fresh z2.toNatClampNeg) = (nI 0) then (if inR z2 16 = true then m_M_work_156 v_count v_fact v_many v_codes (m_M_work_123 v_count v_fact v_many v_codes k_28 n) v_last v_roundOf v_fresh z1 z2 (v_roundOf z2.toNatClampNeg) z2 else none) else m_M_work_156 v_count v_fact v_many v_codes (m_M_work_123 v_count v_fact v_many v_codes k_28 n) v_last v_roundOf v_fresh z1 z2 v_last z2) else none))
def m_M_work_118 (v_count : Int32) (v_fact : Nat → Int32) (v_many : Nat → Int32) (v_codes : Nat → Int32) (k_28 : Int32 → (Nat → Int32) → (Nat → Int32) → Int32 → Option (Int32 × (Nat → Int32) × (Nat → Int32))) (v_last : Int32) (v_roundOf : Nat → Int32) (v_fresh : Nat → Int32) (z1 : Int32) (y0 : Int32) : Option (Int32 × (Nat → Int32) × (Nat → Int32)) := m_M_work_123 v_count v_fact v_many v_codes k_28 40 y0 v_roundOf v_fresh z1 (nI 0)
def m_M_work_93 (v_count : Int32) (v_fact : Nat → Int32) (v_many : Nat → Int32) (v_codes : Nat → Int32) (k_36 : Int32 → (Nat → Int32) → (Nat → Int32) → Int32 → Int32 → Option (Int32 × (Nat → Int32) × (Nat → Int32))) (v_last : Int32) (v_roundOf : Nat → Int32) (v_fresh : Nat → Int32) (z2 : Int32) (y0 : Int32) : Option (Int32 × (Nat → Int32) × (Nat → Int32)) := k_36 v_last v_roundOf v_fresh y0 (z2 + (nI 1))
def m_M_work_88 (v_count : Int32) (v_fact : Nat → Int32) (v_many : Nat → Int32) (v_codes : Nat → Int32) (k_36 : Int32 → (Nat → Int32) → (Nat → Int32) → Int32 → Int32 → Option (Int32 × (Nat → Int32) × (Nat → Int32))) (v_last : Int32) (v_roundOf : Nat → Int32) (v_fresh : Nat → Int32) (z2 : Int32) : Option (Int32 × (Nat → Int32) × (Nat → Int32)) := m_M_work_93 v_count v_fact v_many v_codes k_36 v_last v_roundOf v_fresh z2 (nI 1)
def m_M_work_74 (v_count : Int32) (v_fact : Nat → Int32) (v_many : Nat → Int32) (v_codes : Nat → Int32) (k_36 : Int32 → (Nat → Int32) → (Nat → Int32) → Int32 → Int32 → Option (Int32 × (Nat → Int32) × (Nat → Int32))) (v_last : Int32) (v_roundOf : Nat → Int32) (v_fresh : Nat → Int32) (z1 : Int32) (z2 : Int32) (y0 : Int32) (y1 : Int32) : Option (Int32 × (Nat → Int32) × (Nat → Int32)) := (if inR y1 16 = true then (if isZ y0 = true then (if z1 = (nI 0) then (if inR z2 16 = true then (if ((upd v_fresh y1.toNatClampNeg y0) z2.toNatClampNeg) = (nI 0) then m_M_work_93 v_count v_fact v_many v_codes k_36 v_last v_roundOf (upd v_fresh y1.toNatClampNeg y0) z2 (nI 0) else m_M_work_88 v_count v_fact v_many v_codes k_36 v_last v_roundOf (upd v_fresh y1.toNatClampNeg y0) z2) else none) else m_M_work_88 v_count v_fact v_many v_codes k_36 v_last v_roundOf (upd v_fresh y1.toNatClampNeg y0) z2) else none) else none)
def m_M_work_73 (v_count : Int32) (v_fact : Nat → Int32) (v_many : Nat → Int32) (v_codes : Nat → Int32) (k_36 : Int32 → (Nat → Int32) → (Nat → Int32) → Int32 → Int32 → Option (Int32 × (Nat → Int32) × (Nat → Int32))) (v_last : Int32) (v_roundOf : Nat → Int32) (v_fresh : Nat → Int32) (z1 : Int32) (z2 : Int32) (y0 : Int32) : Option (Int32 × (Nat → Int32) × (Nat → Int32)) := m_M_work_74 v_count v_fact v_many v_codes k_36 v_last v_roundOf v_fresh z1 z2 (nI 0) y0
def m_M_work_36 (v_count : Int32) (v_fact : Nat → Int32) (v_many : Nat → Int32) (v_codes : Nat → Int32) (k_28 : Int32 → (Nat → Int32) → (Nat → Int32) → Int32 → Option (Int32 × (Nat → Int32) × (Nat → Int32))) : Nat → Int32 → (Nat → Int32) → (Nat → Int32) → Int32 → Int32 → Option (Int32 × (Nat → Int32) × (Nat → Int32))
  | 0, _, _, _, _, _ => none
  | n + 1, v_last, v_roundOf, v_fresh, z1, z2 => (if (nI 16) ≤ z2 then (if z1 = (nI 0) then m_M_work_118 v_count v_fact v_many v_codes k_28 v_last v_roundOf v_fresh z1 v_last else m_M_work_118 v_count v_fact v_many v_codes k_28 v_last v_roundOf v_fresh z1 (v_last + (nI 1))) else (if inR z2 16 = true then (if (v_roundOf z2.toNatClampNeg) = (nI 0) then (Option.bind (m_M_follows v_count v_fact v_many v_codes v_roundOf (z2 / (nI 4)) (irm z2 (nI 4))) (fun v_63 => (if v_63.1 = (nI 0) then m_M_work_73 v_count v_fact v_many v_codes (m_M_work_36 v_count v_fact v_many v_codes k_28 n) v_last v_roundOf v_fresh z1 z2 z2 else m_M_work_74 v_count v_fact v_many v_codes (m_M_work_36 v_count v_fact v_many v_codes k_28 n) v_last v_roundOf v_fresh z1 z2 (nI 1) z2))) else m_M_work_73 v_count v_fact v_many v_codes (m_M_work_36 v_count v_fact v_many v_codes k_28 n) v_last v_roundOf v_fresh z1 z2 z2) else none))
def m_M_work_28 (v_count : Int32) (v_fact : Nat → Int32) (v_many : Nat → Int32) (v_codes : Nat → Int32) : Nat → Int32 → (Nat → Int32) → (Nat → Int32) → Int32 → Option (Int32 × (Nat → Int32) × (Nat → Int32))
  | 0, _, _, _, _ => none
  | n + 1, v_last, v_roundOf, v_fresh, z1 => (if z1 = (nI 0) then some (v_last, v_roundOf, v_fresh) else m_M_work_36 v_count v_fact v_many v_codes (m_M_work_28 v_count v_fact v_many v_codes n) 40 v_last v_roundOf v_fresh (nI 0) (nI 0))
def m_M_work_2 (v_count : Int32) (v_fact : Nat → Int32) (v_many : Nat → Int32) (v_codes : Nat → Int32) : Nat → Int32 → (Nat → Int32) → (Nat → Int32) → Int32 → Option (Int32 × (Nat → Int32) × (Nat → Int32))
  | 0, _, _, _, _ => none
  | n + 1, v_last, v_roundOf, v_fresh, z1 => (if (nI 16) ≤ z1 then m_M_work_28 v_count v_fact v_many v_codes 40 (nI 0) v_roundOf v_fresh (nI 1) else (if inR z1 16 = true then m_M_work_2 v_count v_fact v_many v_codes n v_last (upd v_roundOf z1.toNatClampNeg (nI 0)) v_fresh (z1 + (nI 1)) else none))
def m_M_work (v_count : Int32) (v_last : Int32) (v_fact : Nat → Int32) (v_many : Nat → Int32) (v_codes : Nat → Int32) (v_roundOf : Nat → Int32) (v_fresh : Nat → Int32) : Option (Int32 × (Nat → Int32) × (Nat → Int32)) := m_M_work_2 v_count v_fact v_many v_codes 40 v_last v_roundOf v_fresh (nI 0)
def m_M_given (v_count : Int32) (v_last : Int32) (v_fact : Nat → Int32) (v_many : Nat → Int32) (v_codes : Nat → Int32) (v_roundOf : Nat → Int32) (v_fresh : Nat → Int32) (x1 : Int32) (x2 : Int32) : Option (Int32 × Int32 × (Nat → Int32) × (Nat → Int32)) := (Option.bind (m_M_work v_count v_last v_fact v_many v_codes v_roundOf v_fresh) (fun v_1 => (Option.bind (m_M_constant x1) (fun v_5 => (if v_5.1 = (nI 0) then some ((nI 0), (v_1.1, v_1.2.1, v_1.2.2)) else (Option.bind (m_M_constant x2) (fun v_12 => (if v_12.1 = (nI 0) then some ((nI 0), (v_1.1, v_1.2.1, v_1.2.2)) else (if inR (((nI 4) * x1) + x2) 16 = true then some (v_1.2.1 (((nI 4) * x1) + x2).toNatClampNeg, (v_1.1, v_1.2.1, v_1.2.2)) else none)))))))))
def m_M_rounds (v_count : Int32) (v_last : Int32) (v_fact : Nat → Int32) (v_many : Nat → Int32) (v_codes : Nat → Int32) (v_roundOf : Nat → Int32) (v_fresh : Nat → Int32) : Option (Int32 × Int32 × (Nat → Int32) × (Nat → Int32)) := (Option.bind (m_M_work v_count v_last v_fact v_many v_codes v_roundOf v_fresh) (fun v_1 => some (v_1.1, (v_1.1, v_1.2.1, v_1.2.2))))
def m_M_fits_61 (v_count : Int32) (v_fact : Nat → Int32) (v_marked : Nat → Int32) (v_many : Nat → Int32) (v_codes : Nat → Int32) (k_8 : Int32 → (Nat → Int32) → (Nat → Int32) → Int32 → Int32 → Option (Int32 × Int32 × (Nat → Int32) × (Nat → Int32))) (v_last : Int32) (v_roundOf : Nat → Int32) (v_fresh : Nat → Int32) (z2 : Int32) (y0 : Int32) : Option (Int32 × Int32 × (Nat → Int32) × (Nat → Int32)) := k_8 v_last v_roundOf v_fresh y0 (z2 + (nI 1))
def m_M_fits_60 (v_count : Int32) (v_fact : Nat → Int32) (v_marked : Nat → Int32) (v_many : Nat → Int32) (v_codes : Nat → Int32) (k_8 : Int32 → (Nat → Int32) → (Nat → Int32) → Int32 → Int32 → Option (Int32 × Int32 × (Nat → Int32) × (Nat → Int32))) (v_last : Int32) (v_roundOf : Nat → Int32) (v_fresh : Nat → Int32) (z2 : Int32) : Option (Int32 × Int32 × (Nat → Int32) × (Nat → Int32)) := m_M_fits_61 v_count v_fact v_marked v_many v_codes k_8 v_last v_roundOf v_fresh z2 (nI 0)
def m_M_fits_56 (v_count : Int32) (v_fact : Nat → Int32) (v_marked : Nat → Int32) (v_many : Nat → Int32) (v_codes : Nat → Int32) (k_8 : Int32 → (Nat → Int32) → (Nat → Int32) → Int32 → Int32 → Option (Int32 × Int32 × (Nat → Int32) × (Nat → Int32))) (v_last : Int32) (v_roundOf : Nat → Int32) (v_fresh : Nat → Int32) (z2 : Int32) : Option (Int32 × Int32 × (Nat → Int32) × (Nat → Int32)) := m_M_fits_61 v_count v_fact v_marked v_many v_codes k_8 v_last v_roundOf v_fresh z2 (nI 1)
def m_M_fits_37 (v_count : Int32) (v_fact : Nat → Int32) (v_marked : Nat → Int32) (v_many : Nat → Int32) (v_codes : Nat → Int32) (k_8 : Int32 → (Nat → Int32) → (Nat → Int32) → Int32 → Int32 → Option (Int32 × Int32 × (Nat → Int32) × (Nat → Int32))) (v_last : Int32) (v_roundOf : Nat → Int32) (v_fresh : Nat → Int32) (z2 : Int32) : Option (Int32 × Int32 × (Nat → Int32) × (Nat → Int32)) := (if inR z2 16 = true then (if (v_marked z2.toNatClampNeg) = (-1 : Int32) then (if inR z2 16 = true then (if (v_roundOf z2.toNatClampNeg) = (nI 0) then m_M_fits_56 v_count v_fact v_marked v_many v_codes k_8 v_last v_roundOf v_fresh z2 else m_M_fits_60 v_count v_fact v_marked v_many v_codes k_8 v_last v_roundOf v_fresh z2) else none) else m_M_fits_56 v_count v_fact v_marked v_many v_codes k_8 v_last v_roundOf v_fresh z2) else none)
def m_M_fits_8 (v_count : Int32) (v_fact : Nat → Int32) (v_marked : Nat → Int32) (v_many : Nat → Int32) (v_codes : Nat → Int32) : Nat → Int32 → (Nat → Int32) → (Nat → Int32) → Int32 → Int32 → Option (Int32 × Int32 × (Nat → Int32) × (Nat → Int32))
  | 0, _, _, _, _, _ => none
  | n + 1, v_last, v_roundOf, v_fresh, z1, z2 => (if (nI 16) ≤ z2 then (if isZ z1 = true then some (z1, (v_last, v_roundOf, v_fresh)) else none) else (if z1 = (nI 0) then m_M_fits_60 v_count v_fact v_marked v_many v_codes (m_M_fits_8 v_count v_fact v_marked v_many v_codes n) v_last v_roundOf v_fresh z2 else (if inR z2 16 = true then (if (v_marked z2.toNatClampNeg) = (nI 1) then (if inR z2 16 = true then (if (v_roundOf z2.toNatClampNeg) ≤ (nI 0) then m_M_fits_60 v_count v_fact v_marked v_many v_codes (m_M_fits_8 v_count v_fact v_marked v_many v_codes n) v_last v_roundOf v_fresh z2 else m_M_fits_37 v_count v_fact v_marked v_many v_codes (m_M_fits_8 v_count v_fact v_marked v_many v_codes n) v_last v_roundOf v_fresh z2) else none) else m_M_fits_37 v_count v_fact v_marked v_many v_codes (m_M_fits_8 v_count v_fact v_marked v_many v_codes n) v_last v_roundOf v_fresh z2) else none)))
def m_M_fits (v_count : Int32) (v_last : Int32) (v_fact : Nat → Int32) (v_marked : Nat → Int32) (v_many : Nat → Int32) (v_codes : Nat → Int32) (v_roundOf : Nat → Int32) (v_fresh : Nat → Int32) : Option (Int32 × Int32 × (Nat → Int32) × (Nat → Int32)) := (Option.bind (m_M_work v_count v_last v_fact v_many v_codes v_roundOf v_fresh) (fun v_1 => m_M_fits_8 v_count v_fact v_marked v_many v_codes 40 v_1.1 v_1.2.1 v_1.2.2 (nI 1) (nI 0)))
def m_M_set_87 (v_many : Nat → Int32) (v_codes : Nat → Int32) (y0 : Int32) (y1 : Int32) : Option (Int32 × (Nat → Int32) × (Nat → Int32)) := (if ((y1 ||| y0) &&& (nI 3)) = (nI 3) then some ((nI 1), (v_many, v_codes)) else some ((nI 0), (v_many, v_codes)))
def m_M_set_72 (v_many : Nat → Int32) (v_codes : Nat → Int32) (z4 : Int32) (y0 : Int32) (y1 : Int32) : Option (Int32 × (Nat → Int32) × (Nat → Int32)) := (if (nI 0) ≤ z4 then (Option.bind (m_M_variables z4) (fun v_84 => m_M_set_87 v_many v_codes v_84.1 (y1 ||| y0))) else m_M_set_87 v_many v_codes (nI 0) (y1 ||| y0))
def m_M_set_23 (v_many : Nat → Int32) (v_codes : Nat → Int32) (z1 : Int32) (z2 : Int32) (z3 : Int32) (z4 : Int32) (y0 : Int32) (y1 : Int32) : Option (Int32 × (Nat → Int32) × (Nat → Int32)) := (if inR y1 2 = true then (if inR ((nI 3) * z1) 6 = true then (if inR (((nI 3) * z1) + (nI 1)) 6 = true then (if inR (((nI 3) * z1) + (nI 2)) 6 = true then (Option.bind (m_M_variables z2) (fun v_57 => (if (nI 0) ≤ z3 then (Option.bind (m_M_variables z3) (fun v_69 => m_M_set_72 (upd v_many y1.toNatClampNeg y0) (upd (upd (upd v_codes ((nI 3) * z1).toNatClampNeg z2) (((nI 3) * z1) + (nI 1)).toNatClampNeg z3) (((nI 3) * z1) + (nI 2)).toNatClampNeg z4) z4 v_69.1 v_57.1)) else m_M_set_72 (upd v_many y1.toNatClampNeg y0) (upd (upd (upd v_codes ((nI 3) * z1).toNatClampNeg z2) (((nI 3) * z1) + (nI 1)).toNatClampNeg z3) (((nI 3) * z1) + (nI 2)).toNatClampNeg z4) z4 (nI 0) v_57.1))) else none) else none) else none) else none)
def m_M_set (v_many : Nat → Int32) (v_codes : Nat → Int32) (x1 : Int32) (x2 : Int32) (x3 : Int32) (x4 : Int32) : Option (Int32 × (Nat → Int32) × (Nat → Int32)) := (if (nI 0) ≤ x3 then (if (nI 0) ≤ x4 then m_M_set_23 v_many v_codes x1 x2 x3 x4 (nI 3) x1 else m_M_set_23 v_many v_codes x1 x2 x3 x4 (nI 2) x1) else m_M_set_23 v_many v_codes x1 x2 x3 x4 (nI 1) x1)
def m_M_keep_10 (v_count : Int32) (v_many : Nat → Int32) (v_codes : Nat → Int32) : Nat → Int32 → (Nat → Int32) → (Nat → Int32) → Int32 → Option (Int32 × (Nat → Int32) × (Nat → Int32))
  | 0, _, _, _, _ => none
  | n + 1, v_oldCount, v_oldMany, v_oldCodes, z1 => (if (nI 6) ≤ z1 then (if inR (nI 0) 2 = true then (if inR (nI 0) 2 = true then (if inR (nI 1) 2 = true then (if inR (nI 1) 2 = true then some (v_oldCount, upd (upd v_oldMany (nI 0).toNatClampNeg (v_many (nI 0).toNatClampNeg)) (nI 1).toNatClampNeg (v_many (nI 1).toNatClampNeg), v_oldCodes) else none) else none) else none) else none) else (if inR z1 6 = true then (if inR z1 6 = true then m_M_keep_10 v_count v_many v_codes n v_oldCount v_oldMany (upd v_oldCodes z1.toNatClampNeg (v_codes z1.toNatClampNeg)) (z1 + (nI 1)) else none) else none))
def m_M_keep (v_count : Int32) (v_oldCount : Int32) (v_many : Nat → Int32) (v_codes : Nat → Int32) (v_oldMany : Nat → Int32) (v_oldCodes : Nat → Int32) : Option (Int32 × (Nat → Int32) × (Nat → Int32)) := m_M_keep_10 v_count v_many v_codes 40 v_count v_oldMany v_oldCodes (nI 0)
def m_M_putBack_10 (v_oldCount : Int32) (v_oldMany : Nat → Int32) (v_oldCodes : Nat → Int32) : Nat → Int32 → (Nat → Int32) → (Nat → Int32) → Int32 → Option (Int32 × (Nat → Int32) × (Nat → Int32))
  | 0, _, _, _, _ => none
  | n + 1, v_count, v_many, v_codes, z1 => (if (nI 6) ≤ z1 then (if inR (nI 0) 2 = true then (if inR (nI 0) 2 = true then (if inR (nI 1) 2 = true then (if inR (nI 1) 2 = true then some (v_count, upd (upd v_many (nI 0).toNatClampNeg (v_oldMany (nI 0).toNatClampNeg)) (nI 1).toNatClampNeg (v_oldMany (nI 1).toNatClampNeg), v_codes) else none) else none) else none) else none) else (if inR z1 6 = true then (if inR z1 6 = true then m_M_putBack_10 v_oldCount v_oldMany v_oldCodes n v_count v_many (upd v_codes z1.toNatClampNeg (v_oldCodes z1.toNatClampNeg)) (z1 + (nI 1)) else none) else none))
def m_M_putBack (v_count : Int32) (v_oldCount : Int32) (v_many : Nat → Int32) (v_codes : Nat → Int32) (v_oldMany : Nat → Int32) (v_oldCodes : Nat → Int32) : Option (Int32 × (Nat → Int32) × (Nat → Int32)) := m_M_putBack_10 v_oldCount v_oldMany v_oldCodes 40 v_oldCount v_many v_codes (nI 0)
def m_M_alone_98 (v_fact : Nat → Int32) (v_marked : Nat → Int32) (k_48 : Int32 → Int32 → (Nat → Int32) → (Nat → Int32) → (Nat → Int32) → (Nat → Int32) → Int32 → Int32 → Int32 → Int32 → Option (Int32 × Int32 × Int32 × (Nat → Int32) × (Nat → Int32) × (Nat → Int32) × (Nat → Int32))) (v_count : Int32) (v_last : Int32) (v_many : Nat → Int32) (v_codes : Nat → Int32) (v_roundOf : Nat → Int32) (v_fresh : Nat → Int32) (z1 : Int32) (z2 : Int32) (z3 : Int32) (z4 : Int32) : Option (Int32 × Int32 × Int32 × (Nat → Int32) × (Nat → Int32) × (Nat → Int32) × (Nat → Int32)) := k_48 v_count v_last v_many v_codes v_roundOf v_fresh z1 z2 z3 (z4 + (nI 1))
def m_M_alone_79 (v_fact : Nat → Int32) (v_marked : Nat → Int32) (k_48 : Int32 → Int32 → (Nat → Int32) → (Nat → Int32) → (Nat → Int32) → (Nat → Int32) → Int32 → Int32 → Int32 → Int32 → Option (Int32 × Int32 × Int32 × (Nat → Int32) × (Nat → Int32) × (Nat → Int32) × (Nat → Int32))) (v_count : Int32) (v_last : Int32) (v_many : Nat → Int32) (v_codes : Nat → Int32) (v_roundOf : Nat → Int32) (v_fresh : Nat → Int32) (z1 : Int32) (z2 : Int32) (z3 : Int32) (z4 : Int32) (y0 : Int32) (y1 : Int32) (y2 : Int32) (y3 : Int32) : Option (Int32 × Int32 × Int32 × (Nat → Int32) × (Nat → Int32) × (Nat → Int32) × (Nat → Int32)) := (Option.bind (m_M_set v_many v_codes y3 y2 y1 y0) (fun v_79 => (if v_79.1 = (nI 0) then m_M_alone_98 v_fact v_marked k_48 v_count v_last v_79.2.1 v_79.2.2 v_roundOf v_fresh z1 z2 z3 z4 else (Option.bind (m_M_fits v_count v_last v_fact v_marked v_79.2.1 v_79.2.2 v_roundOf v_fresh) (fun v_90 => (if v_90.1 = (nI 0) then m_M_alone_98 v_fact v_marked k_48 v_count v_90.2.1 v_79.2.1 v_79.2.2 v_90.2.2.1 v_90.2.2.2 z1 z2 z3 z4 else some ((nI 1), (v_count, v_90.2.1, v_79.2.1, v_79.2.2, v_90.2.2.1, v_90.2.2.2))))))))
def m_M_alone_68 (v_fact : Nat → Int32) (v_marked : Nat → Int32) (k_48 : Int32 → Int32 → (Nat → Int32) → (Nat → Int32) → (Nat → Int32) → (Nat → Int32) → Int32 → Int32 → Int32 → Int32 → Option (Int32 × Int32 × Int32 × (Nat → Int32) × (Nat → Int32) × (Nat → Int32) × (Nat → Int32))) (v_count : Int32) (v_last : Int32) (v_many : Nat → Int32) (v_codes : Nat → Int32) (v_roundOf : Nat → Int32) (v_fresh : Nat → Int32) (z1 : Int32) (z2 : Int32) (z3 : Int32) (z4 : Int32) (y0 : Int32) (y1 : Int32) (y2 : Int32) : Option (Int32 × Int32 × Int32 × (Nat → Int32) × (Nat → Int32) × (Nat → Int32) × (Nat → Int32)) := (if z1 ≤ (nI 2) then m_M_alone_79 v_fact v_marked k_48 v_count v_last v_many v_codes v_roundOf v_fresh z1 z2 z3 z4 (-1 : Int32) y0 y1 y2 else m_M_alone_79 v_fact v_marked k_48 v_count v_last v_many v_codes v_roundOf v_fresh z1 z2 z3 z4 z4 y0 y1 y2)
def m_M_alone_48 (v_fact : Nat → Int32) (v_marked : Nat → Int32) (k_27 : Int32 → Int32 → (Nat → Int32) → (Nat → Int32) → (Nat → Int32) → (Nat → Int32) → Int32 → Int32 → Int32 → Option (Int32 × Int32 × Int32 × (Nat → Int32) × (Nat → Int32) × (Nat → Int32) × (Nat → Int32))) : Nat → Int32 → Int32 → (Nat → Int32) → (Nat → Int32) → (Nat → Int32) → (Nat → Int32) → Int32 → Int32 → Int32 → Int32 → Option (Int32 × Int32 × Int32 × (Nat → Int32) × (Nat → Int32) × (Nat → Int32) × (Nat → Int32))
  | 0, _, _, _, _, _, _, _, _, _, _ => none
  | n + 1, v_count, v_last, v_many, v_codes, v_roundOf, v_fresh, z1, z2, z3, z4 => (if (nI 27) ≤ z4 then k_27 v_count v_last v_many v_codes v_roundOf v_fresh z1 z2 (z3 + (nI 1)) else (if z1 ≤ (nI 1) then m_M_alone_68 v_fact v_marked (m_M_alone_48 v_fact v_marked k_27 n) v_count v_last v_many v_codes v_roundOf v_fresh z1 z2 z3 z4 (-1 : Int32) z2 (nI 0) else m_M_alone_68 v_fact v_marked (m_M_alone_48 v_fact v_marked k_27 n) v_count v_last v_many v_codes v_roundOf v_fresh z1 z2 z3 z4 z3 z2 (nI 0)))
def m_M_alone_46 (v_fact : Nat → Int32) (v_marked : Nat → Int32) (k_27 : Int32 → Int32 → (Nat → Int32) → (Nat → Int32) → (Nat → Int32) → (Nat → Int32) → Int32 → Int32 → Int32 → Option (Int32 × Int32 × Int32 × (Nat → Int32) × (Nat → Int32) × (Nat → Int32) × (Nat → Int32))) (v_count : Int32) (v_last : Int32) (v_many : Nat → Int32) (v_codes : Nat → Int32) (v_roundOf : Nat → Int32) (v_fresh : Nat → Int32) (z1 : Int32) (z2 : Int32) (z3 : Int32) (y0 : Int32) : Option (Int32 × Int32 × Int32 × (Nat → Int32) × (Nat → Int32) × (Nat → Int32) × (Nat → Int32)) := m_M_alone_48 v_fact v_marked k_27 40 v_count v_last v_many v_codes v_roundOf v_fresh z1 z2 z3 y0
def m_M_alone_27 (v_fact : Nat → Int32) (v_marked : Nat → Int32) (k_7 : Int32 → Int32 → (Nat → Int32) → (Nat → Int32) → (Nat → Int32) → (Nat → Int32) → Int32 → Int32 → Option (Int32 × Int32 × Int32 × (Nat → Int32) × (Nat → Int32) × (Nat → Int32) × (Nat → Int32))) : Nat → Int32 → Int32 → (Nat → Int32) → (Nat → Int32) → (Nat → Int32) → (Nat → Int32) → Int32 → Int32 → Int32 → Option (Int32 × Int32 × Int32 × (Nat → Int32) × (Nat → Int32) × (Nat → Int32) × (Nat → Int32))
  | 0, _, _, _, _, _, _, _, _, _ => none
  | n + 1, v_count, v_last, v_many, v_codes, v_roundOf, v_fresh, z1, z2, z3 => (if (nI 27) ≤ z3 then k_7 v_count v_last v_many v_codes v_roundOf v_fresh z1 (z2 + (nI 1)) else (if z1 ≤ (nI 2) then m_M_alone_46 v_fact v_marked (m_M_alone_27 v_fact v_marked k_7 n) v_count v_last v_many v_codes v_roundOf v_fresh z1 z2 z3 (nI 26) else m_M_alone_46 v_fact v_marked (m_M_alone_27 v_fact v_marked k_7 n) v_count v_last v_many v_codes v_roundOf v_fresh z1 z2 z3 (z3 + (nI 1))))
def m_M_alone_26 (v_fact : Nat → Int32) (v_marked : Nat → Int32) (k_7 : Int32 → Int32 → (Nat → Int32) → (Nat → Int32) → (Nat → Int32) → (Nat → Int32) → Int32 → Int32 → Option (Int32 × Int32 × Int32 × (Nat → Int32) × (Nat → Int32) × (Nat → Int32) × (Nat → Int32))) (v_count : Int32) (v_last : Int32) (v_many : Nat → Int32) (v_codes : Nat → Int32) (v_roundOf : Nat → Int32) (v_fresh : Nat → Int32) (z1 : Int32) (z2 : Int32) (y0 : Int32) : Option (Int32 × Int32 × Int32 × (Nat → Int32) × (Nat → Int32) × (Nat → Int32) × (Nat → Int32)) := m_M_alone_27 v_fact v_marked k_7 40 v_count v_last v_many v_codes v_roundOf v_fresh z1 z2 y0
def m_M_alone_7 (v_fact : Nat → Int32) (v_marked : Nat → Int32) : Nat → Int32 → Int32 → (Nat → Int32) → (Nat → Int32) → (Nat → Int32) → (Nat → Int32) → Int32 → Int32 → Option (Int32 × Int32 × Int32 × (Nat → Int32) × (Nat → Int32) × (Nat → Int32) × (Nat → Int32))
  | 0, _, _, _, _, _, _, _, _ => none
  | n + 1, v_count, v_last, v_many, v_codes, v_roundOf, v_fresh, z1, z2 => (if (nI 27) ≤ z2 then some ((nI 0), (v_count, v_last, v_many, v_codes, v_roundOf, v_fresh)) else (if z1 ≤ (nI 1) then m_M_alone_26 v_fact v_marked (m_M_alone_7 v_fact v_marked n) v_count v_last v_many v_codes v_roundOf v_fresh z1 z2 (nI 26) else m_M_alone_26 v_fact v_marked (m_M_alone_7 v_fact v_marked n) v_count v_last v_many v_codes v_roundOf v_fresh z1 z2 (z2 + (nI 1))))
def m_M_alone (v_count : Int32) (v_last : Int32) (v_fact : Nat → Int32) (v_marked : Nat → Int32) (v_many : Nat → Int32) (v_codes : Nat → Int32) (v_roundOf : Nat → Int32) (v_fresh : Nat → Int32) (x1 : Int32) : Option (Int32 × Int32 × Int32 × (Nat → Int32) × (Nat → Int32) × (Nat → Int32) × (Nat → Int32)) := m_M_alone_7 v_fact v_marked 40 (nI 1) v_last v_many v_codes v_roundOf v_fresh x1 (nI 0)
def m_M_pair_103 (v_fact : Nat → Int32) (v_marked : Nat → Int32) (k_47 : Int32 → Int32 → (Nat → Int32) → (Nat → Int32) → (Nat → Int32) → (Nat → Int32) → Int32 → Int32 → Int32 → Int32 → Option (Int32 × Int32 × Int32 × (Nat → Int32) × (Nat → Int32) × (Nat → Int32) × (Nat → Int32))) (v_count : Int32) (v_last : Int32) (v_many : Nat → Int32) (v_codes : Nat → Int32) (v_roundOf : Nat → Int32) (v_fresh : Nat → Int32) (z1 : Int32) (z2 : Int32) (z3 : Int32) (z4 : Int32) : Option (Int32 × Int32 × Int32 × (Nat → Int32) × (Nat → Int32) × (Nat → Int32) × (Nat → Int32)) := k_47 v_count v_last v_many v_codes v_roundOf v_fresh z1 z2 z3 (z4 + (nI 1))
def m_M_pair_78 (v_fact : Nat → Int32) (v_marked : Nat → Int32) (k_47 : Int32 → Int32 → (Nat → Int32) → (Nat → Int32) → (Nat → Int32) → (Nat → Int32) → Int32 → Int32 → Int32 → Int32 → Option (Int32 × Int32 × Int32 × (Nat → Int32) × (Nat → Int32) × (Nat → Int32) × (Nat → Int32))) (v_count : Int32) (v_last : Int32) (v_many : Nat → Int32) (v_codes : Nat → Int32) (v_roundOf : Nat → Int32) (v_fresh : Nat → Int32) (z1 : Int32) (z2 : Int32) (z3 : Int32) (z4 : Int32) (z5 : Int32) (y0 : Int32) (y1 : Int32) (y2 : Int32) : Option (Int32 × Int32 × Int32 × (Nat → Int32) × (Nat → Int32) × (Nat → Int32) × (Nat → Int32)) := (Option.bind (m_M_set v_many v_codes y2 y1 y0 (-1 : Int32)) (fun v_79 => (if z5 = (nI 0) then m_M_pair_103 v_fact v_marked k_47 v_count v_last v_79.2.1 v_79.2.2 v_roundOf v_fresh z1 z2 z3 z4 else (if v_79.1 = (nI 0) then m_M_pair_103 v_fact v_marked k_47 v_count v_last v_79.2.1 v_79.2.2 v_roundOf v_fresh z1 z2 z3 z4 else (Option.bind (m_M_fits v_count v_last v_fact v_marked v_79.2.1 v_79.2.2 v_roundOf v_fresh) (fun v_95 => (if v_95.1 = (nI 0) then m_M_pair_103 v_fact v_marked k_47 v_count v_95.2.1 v_79.2.1 v_79.2.2 v_95.2.2.1 v_95.2.2.2 z1 z2 z3 z4 else some ((nI 1), (v_count, v_95.2.1, v_79.2.1, v_79.2.2, v_95.2.2.1, v_95.2.2.2)))))))))
def m_M_pair_47 (v_fact : Nat → Int32) (v_marked : Nat → Int32) (k_26 : Int32 → Int32 → (Nat → Int32) → (Nat → Int32) → (Nat → Int32) → (Nat → Int32) → Int32 → Int32 → Int32 → Option (Int32 × Int32 × Int32 × (Nat → Int32) × (Nat → Int32) × (Nat → Int32) × (Nat → Int32))) : Nat → Int32 → Int32 → (Nat → Int32) → (Nat → Int32) → (Nat → Int32) → (Nat → Int32) → Int32 → Int32 → Int32 → Int32 → Option (Int32 × Int32 × Int32 × (Nat → Int32) × (Nat → Int32) × (Nat → Int32) × (Nat → Int32))
  | 0, _, _, _, _, _, _, _, _, _, _ => none
  | n + 1, v_count, v_last, v_many, v_codes, v_roundOf, v_fresh, z1, z2, z3, z4 => (if (nI 27) ≤ z4 then k_26 v_count v_last v_many v_codes v_roundOf v_fresh z1 z2 (z3 + (nI 1)) else (Option.bind (m_M_set v_many v_codes (nI 0) z2 (-1 : Int32) (-1 : Int32)) (fun v_59 => (if z1 ≤ (nI 2) then m_M_pair_78 v_fact v_marked (m_M_pair_47 v_fact v_marked k_26 n) v_count v_last v_59.2.1 v_59.2.2 v_roundOf v_fresh z1 z2 z3 z4 v_59.1 (-1 : Int32) z3 (nI 1) else m_M_pair_78 v_fact v_marked (m_M_pair_47 v_fact v_marked k_26 n) v_count v_last v_59.2.1 v_59.2.2 v_roundOf v_fresh z1 z2 z3 z4 v_59.1 z4 z3 (nI 1)))))
def m_M_pair_45 (v_fact : Nat → Int32) (v_marked : Nat → Int32) (k_26 : Int32 → Int32 → (Nat → Int32) → (Nat → Int32) → (Nat → Int32) → (Nat → Int32) → Int32 → Int32 → Int32 → Option (Int32 × Int32 × Int32 × (Nat → Int32) × (Nat → Int32) × (Nat → Int32) × (Nat → Int32))) (v_count : Int32) (v_last : Int32) (v_many : Nat → Int32) (v_codes : Nat → Int32) (v_roundOf : Nat → Int32) (v_fresh : Nat → Int32) (z1 : Int32) (z2 : Int32) (z3 : Int32) (y0 : Int32) : Option (Int32 × Int32 × Int32 × (Nat → Int32) × (Nat → Int32) × (Nat → Int32) × (Nat → Int32)) := m_M_pair_47 v_fact v_marked k_26 40 v_count v_last v_many v_codes v_roundOf v_fresh z1 z2 z3 y0
def m_M_pair_26 (v_fact : Nat → Int32) (v_marked : Nat → Int32) (k_7 : Int32 → Int32 → (Nat → Int32) → (Nat → Int32) → (Nat → Int32) → (Nat → Int32) → Int32 → Int32 → Option (Int32 × Int32 × Int32 × (Nat → Int32) × (Nat → Int32) × (Nat → Int32) × (Nat → Int32))) : Nat → Int32 → Int32 → (Nat → Int32) → (Nat → Int32) → (Nat → Int32) → (Nat → Int32) → Int32 → Int32 → Int32 → Option (Int32 × Int32 × Int32 × (Nat → Int32) × (Nat → Int32) × (Nat → Int32) × (Nat → Int32))
  | 0, _, _, _, _, _, _, _, _, _ => none
  | n + 1, v_count, v_last, v_many, v_codes, v_roundOf, v_fresh, z1, z2, z3 => (if (nI 27) ≤ z3 then k_7 v_count v_last v_many v_codes v_roundOf v_fresh z1 (z2 + (nI 1)) else (if z1 ≤ (nI 2) then m_M_pair_45 v_fact v_marked (m_M_pair_26 v_fact v_marked k_7 n) v_count v_last v_many v_codes v_roundOf v_fresh z1 z2 z3 (nI 26) else m_M_pair_45 v_fact v_marked (m_M_pair_26 v_fact v_marked k_7 n) v_count v_last v_many v_codes v_roundOf v_fresh z1 z2 z3 (z3 + (nI 1))))
def m_M_pair_25 (v_fact : Nat → Int32) (v_marked : Nat → Int32) (k_7 : Int32 → Int32 → (Nat → Int32) → (Nat → Int32) → (Nat → Int32) → (Nat → Int32) → Int32 → Int32 → Option (Int32 × Int32 × Int32 × (Nat → Int32) × (Nat → Int32) × (Nat → Int32) × (Nat → Int32))) (v_count : Int32) (v_last : Int32) (v_many : Nat → Int32) (v_codes : Nat → Int32) (v_roundOf : Nat → Int32) (v_fresh : Nat → Int32) (z1 : Int32) (z2 : Int32) (y0 : Int32) : Option (Int32 × Int32 × Int32 × (Nat → Int32) × (Nat → Int32) × (Nat → Int32) × (Nat → Int32)) := m_M_pair_26 v_fact v_marked k_7 40 v_count v_last v_many v_codes v_roundOf v_fresh z1 z2 y0
def m_M_pair_7 (v_fact : Nat → Int32) (v_marked : Nat → Int32) : Nat → Int32 → Int32 → (Nat → Int32) → (Nat → Int32) → (Nat → Int32) → (Nat → Int32) → Int32 → Int32 → Option (Int32 × Int32 × Int32 × (Nat → Int32) × (Nat → Int32) × (Nat → Int32) × (Nat → Int32))
  | 0, _, _, _, _, _, _, _, _ => none
  | n + 1, v_count, v_last, v_many, v_codes, v_roundOf, v_fresh, z1, z2 => (if (nI 27) ≤ z2 then some ((nI 0), (v_count, v_last, v_many, v_codes, v_roundOf, v_fresh)) else (if z1 ≤ (nI 2) then m_M_pair_25 v_fact v_marked (m_M_pair_7 v_fact v_marked n) v_count v_last v_many v_codes v_roundOf v_fresh z1 z2 (z2 + (nI 1)) else m_M_pair_25 v_fact v_marked (m_M_pair_7 v_fact v_marked n) v_count v_last v_many v_codes v_roundOf v_fresh z1 z2 (nI 0)))
def m_M_pair (v_count : Int32) (v_last : Int32) (v_fact : Nat → Int32) (v_marked : Nat → Int32) (v_many : Nat → Int32) (v_codes : Nat → Int32) (v_roundOf : Nat → Int32) (v_fresh : Nat → Int32) (x1 : Int32) : Option (Int32 × Int32 × Int32 × (Nat → Int32) × (Nat → Int32) × (Nat → Int32) × (Nat → Int32)) := m_M_pair_7 v_fact v_marked 40 (nI 2) v_last v_many v_codes v_roundOf v_fresh x1 (nI 0)
def m_M_learn_34 (v_fact : Nat → Int32) (v_marked : Nat → Int32) (k_6 : Int32 → Int32 → Int32 → (Nat → Int32) → (Nat → Int32) → (Nat → Int32) → (Nat → Int32) → (Nat → Int32) → (Nat → Int32) → Int32 → Option (Int32 × Int32 × Int32 × Int32 × (Nat → Int32) × (Nat → Int32) × (Nat → Int32) × (Nat → Int32) × (Nat → Int32) × (Nat → Int32))) (v_count : Int32) (v_oldCount : Int32) (v_last : Int32) (v_many : Nat → Int32) (v_codes : Nat → Int32) (v_oldMany : Nat → Int32) (v_oldCodes : Nat → Int32) (v_roundOf : Nat → Int32) (v_fresh : Nat → Int32) (z1 : Int32) : Option (Int32 × Int32 × Int32 × Int32 × (Nat → Int32) × (Nat → Int32) × (Nat → Int32) × (Nat → Int32) × (Nat → Int32) × (Nat → Int32)) := k_6 v_count v_oldCount v_last v_many v_codes v_oldMany v_oldCodes v_roundOf v_fresh (z1 + (nI 1))
def m_M_learn_6 (v_fact : Nat → Int32) (v_marked : Nat → Int32) : Nat → Int32 → Int32 → Int32 → (Nat → Int32) → (Nat → Int32) → (Nat → Int32) → (Nat → Int32) → (Nat → Int32) → (Nat → Int32) → Int32 → Option (Int32 × Int32 × Int32 × Int32 × (Nat → Int32) × (Nat → Int32) × (Nat → Int32) × (Nat → Int32) × (Nat → Int32) × (Nat → Int32))
  | 0, _, _, _, _, _, _, _, _, _, _ => none
  | n + 1, v_count, v_oldCount, v_last, v_many, v_codes, v_oldMany, v_oldCodes, v_roundOf, v_fresh, z1 => (if (nI 4) ≤ z1 then (Option.bind (m_M_putBack v_count v_oldCount v_many v_codes v_oldMany v_oldCodes) (fun v_41 => some ((nI 0), (v_41.1, v_oldCount, v_last, v_41.2.1, v_41.2.2, v_oldMany, v_oldCodes, v_roundOf, v_fresh)))) else (Option.bind (m_M_alone v_count v_last v_fact v_marked v_many v_codes v_roundOf v_fresh z1) (fun v_13 => (if v_13.1 = (nI 0) then (if z1 ≤ (nI 1) then m_M_learn_34 v_fact v_marked (m_M_learn_6 v_fact v_marked n) v_13.2.1 v_oldCount v_13.2.2.1 v_13.2.2.2.1 v_13.2.2.2.2.1 v_oldMany v_oldCodes v_13.2.2.2.2.2.1 v_13.2.2.2.2.2.2 z1 else (Option.bind (m_M_pair v_13.2.1 v_13.2.2.1 v_fact v_marked v_13.2.2.2.1 v_13.2.2.2.2.1 v_13.2.2.2.2.2.1 v_13.2.2.2.2.2.2 z1) (fun v_26 => (if v_26.1 = (nI 0) then m_M_learn_34 v_fact v_marked (m_M_learn_6 v_fact v_marked n) v_26.2.1 v_oldCount v_26.2.2.1 v_26.2.2.2.1 v_26.2.2.2.2.1 v_oldMany v_oldCodes v_26.2.2.2.2.2.1 v_26.2.2.2.2.2.2 z1 else some (z1, (v_26.2.1, v_oldCount, v_26.2.2.1, v_26.2.2.2.1, v_26.2.2.2.2.1, v_oldMany, v_oldCodes, v_26.2.2.2.2.2.1, v_26.2.2.2.2.2.2)))))) else some (z1, (v_13.2.1, v_oldCount, v_13.2.2.1, v_13.2.2.2.1, v_13.2.2.2.2.1, v_oldMany, v_oldCodes, v_13.2.2.2.2.2.1, v_13.2.2.2.2.2.2))))))
def m_M_learn (v_count : Int32) (v_oldCount : Int32) (v_last : Int32) (v_fact : Nat → Int32) (v_marked : Nat → Int32) (v_many : Nat → Int32) (v_codes : Nat → Int32) (v_oldMany : Nat → Int32) (v_oldCodes : Nat → Int32) (v_roundOf : Nat → Int32) (v_fresh : Nat → Int32) : Option (Int32 × Int32 × Int32 × Int32 × (Nat → Int32) × (Nat → Int32) × (Nat → Int32) × (Nat → Int32) × (Nat → Int32) × (Nat → Int32)) := (Option.bind (m_M_keep v_count v_oldCount v_many v_codes v_oldMany v_oldCodes) (fun v_1 => m_M_learn_6 v_fact v_marked 40 v_count v_1.1 v_last v_many v_codes v_1.2.1 v_1.2.2 v_roundOf v_fresh (nI 1)))
def m_M_key (v_typed : Int32) (v_line : Nat → Int32) (x1 : Int32) : Option (Int32 × Int32 × (Nat → Int32)) := (if x1 < (nI 32) then some ((nI 0), (v_typed, v_line)) else (if (nI 126) < x1 then some ((nI 0), (v_typed, v_line)) else (if v_typed = (nI 32) then some ((nI 0), (v_typed, v_line)) else (if inR v_typed 32 = true then some ((nI 1), (v_typed + (nI 1), upd v_line v_typed.toNatClampNeg x1)) else none))))
def m_M_back (v_typed : Int32) : Option (Int32 × Int32) := (if v_typed = (nI 0) then some ((nI 0), v_typed) else some ((nI 1), v_typed - (nI 1)))
def m_W_law_482 (xs : Nat → Int32) (L : Nat) (k_18 : Int32 → Int32 → Int32 → (Nat → Int32) → (Nat → Int32) → Int32 → (Nat → Int32) → Int32 → Int32 → (Nat → Int64) → (Nat → Int32) → Int32 → Int32 → Int32 → Int32 → Int32 → (Nat → Int32) → (Nat → Int32) → (Nat → Int32) → (Nat → Int32) → (Nat → Int32) → (Nat → Int32) → (Nat → Int32) → (Nat → Int32) → (Nat → Int32) → (Nat → Int32) → Int32 → Option Int32) (v_x_markedPlus : Int32) (v_x_markedMinus : Int32) (v_x_line_length : Int32) (v_x_line_typed : Nat → Int32) (v_x_factSets : Nat → Int32) (v_x_program_count : Int32) (v_x_program_bodies : Nat → Int32) (v_x_deduction_givenPairs : Int32) (v_x_deduction_roundCount : Int32) (v_x_deduction_factChoices : Nat → Int64) (v_x_deduction_givenInRound : Nat → Int32) (v_m_typed : Int32) (v_m_count : Int32) (v_m_oldCount : Int32) (v_m_read : Int32) (v_m_last : Int32) (v_m_line : Nat → Int32) (v_m_fact : Nat → Int32) (v_m_marked : Nat → Int32) (v_m_many : Nat → Int32) (v_m_codes : Nat → Int32) (v_m_oldMany : Nat → Int32) (v_m_oldCodes : Nat → Int32) (v_m_body : Nat → Int32) (v_m_roundOf : Nat → Int32) (v_m_fresh : Nat → Int32) (z3 : Int32) : Option Int32 := k_18 v_x_markedPlus v_x_markedMinus v_x_line_length v_x_line_typed v_x_factSets v_x_program_count v_x_program_bodies v_x_deduction_givenPairs v_x_deduction_roundCount v_x_deduction_factChoices v_x_deduction_givenInRound v_m_typed v_m_count v_m_oldCount v_m_read v_m_last v_m_line v_m_fact v_m_marked v_m_many v_m_codes v_m_oldMany v_m_oldCodes v_m_body v_m_roundOf v_m_fresh (z3 + (nI 4))
def m_W_law_18 (xs : Nat → Int32) (L : Nat) : Nat → Int32 → Int32 → Int32 → (Nat → Int32) → (Nat → Int32) → Int32 → (Nat → Int32) → Int32 → Int32 → (Nat → Int64) → (Nat → Int32) → Int32 → Int32 → Int32 → Int32 → Int32 → (Nat → Int32) → (Nat → Int32) → (Nat → Int32) → (Nat → Int32) → (Nat → Int32) → (Nat → Int32) → (Nat → Int32) → (Nat → Int32) → (Nat → Int32) → (Nat → Int32) → Int32 → Option Int32
  | 0, _, _, _, _, _, _, _, _, _, _, _, _, _, _, _, _, _, _, _, _, _, _, _, _, _, _, _ => none
  | n + 1, v_x_markedPlus, v_x_markedMinus, v_x_line_length, v_x_line_typed, v_x_factSets, v_x_program_count, v_x_program_bodies, v_x_deduction_givenPairs, v_x_deduction_roundCount, v_x_deduction_factChoices, v_x_deduction_givenInRound, v_m_typed, v_m_count, v_m_oldCount, v_m_read, v_m_last, v_m_line, v_m_fact, v_m_marked, v_m_many, v_m_codes, v_m_oldMany, v_m_oldCodes, v_m_body, v_m_roundOf, v_m_fresh, z3 => (if ((nI L) - (nI 4)) < z3 then some (nI 1) else (if inR z3 L = true then (letN ((xs z3.toNatClampNeg) &&& (nI 15)) (fun w_32 => (if w_32 = (nI 0) then (if inR (z3 + (nI 1)) L = true then (Option.bind (m_H_key v_x_line_length v_x_line_typed (i2c (xs (z3 + (nI 1)).toNatClampNeg))) (fun v_119 => (if inR (z3 + (nI 1)) L = true then (Option.bind (m_M_key v_m_typed v_m_line (i2c (xs (z3 + (nI 1)).toNatClampNeg))) (fun v_129 => (if v_119.1 = v_129.1 then m_W_law_482 xs L (m_W_law_18 xs L n) v_x_markedPlus v_x_markedMinus v_119.2.1 v_119.2.2 v_x_factSets v_x_program_count v_x_program_bodies v_x_deduction_givenPairs v_x_deduction_roundCount v_x_deduction_factChoices v_x_deduction_givenInRound v_129.2.1 v_m_count v_m_oldCount v_m_read v_m_last v_129.2.2 v_m_fact v_m_marked v_m_many v_m_codes v_m_oldMany v_m_oldCodes v_m_body v_m_roundOf v_m_fresh z3 else some (nI 0)))) else none))) else none) else (if w_32 = (nI 1) then (Option.bind (m_H_back v_x_line_length) (fun v_138 => (Option.bind (m_M_back v_m_typed) (fun v_142 => (if v_138.1 = v_142.1 then m_W_law_482 xs L (m_W_law_18 xs L n) v_x_markedPlus v_x_markedMinus v_138.2 v_x_line_typed v_x_factSets v_x_program_count v_x_program_bodies v_x_deduction_givenPairs v_x_deduction_roundCount v_x_deduction_factChoices v_x_deduction_givenInRound v_142.2 v_m_count v_m_oldCount v_m_read v_m_last v_m_line v_m_fact v_m_marked v_m_many v_m_codes v_m_oldMany v_m_oldCodes v_m_body v_m_roundOf v_m_fresh z3 else some (nI 0)))))) else (if w_32 = (nI 2) then (Option.bind (m_H_enter v_x_markedPlus v_x_markedMinus v_x_line_length v_x_line_typed v_x_factSets v_x_program_count v_x_program_bodies) (fun v_151 => (Option.bind (m_M_enter v_m_typed v_m_count v_m_read v_m_line v_m_fact v_m_marked v_m_many v_m_codes v_m_body) (fun v_155 => (if v_151.1 = v_155.1 then m_W_law_482 xs L (m_W_law_18 xs L n) v_151.2.1 v_151.2.2.1 v_151.2.2.2.1 v_x_line_typed v_151.2.2.2.2.1 v_151.2.2.2.2.2.1 v_151.2.2.2.2.2.2 v_x_deduction_givenPairs v_x_deduction_roundCount v_x_deduction_factChoices v_x_deduction_givenInRound v_155.2.1 v_155.2.2.1 v_m_oldCount v_155.2.2.2.1 v_m_last v_m_line v_155.2.2.2.2.1 v_155.2.2.2.2.2.1 v_155.2.2.2.2.2.2.1 v_155.2.2.2.2.2.2.2.1 v_m_oldMany v_m_oldCodes v_155.2.2.2.2.2.2.2.2 v_m_roundOf v_m_fresh z3 else some (nI 0)))))) else (if w_32 = (nI 3) then (if inR (z3 + (nI 1)) L = true then (Option.bind (m_H_facts v_x_factSets (xs (z3 + (nI 1)).toNatClampNeg)) (fun v_169 => (if inR (z3 + (nI 1)) L = true then (Option.bind (m_M_facts v_m_fact (xs (z3 + (nI 1)).toNatClampNeg)) (fun v_178 => (if v_169.1 = v_178.1 then m_W_law_482 xs L (m_W_law_18 xs L n) v_x_markedPlus v_x_markedMinus v_x_line_length v_x_line_typed v_x_factSets v_x_program_count v_x_program_bodies v_x_deduction_givenPairs v_x_deduction_roundCount v_x_deduction_factChoices v_x_deduction_givenInRound v_m_typed v_m_count v_m_oldCount v_m_read v_m_last v_m_line v_m_fact v_m_marked v_m_many v_m_codes v_m_oldMany v_m_oldCodes v_m_body v_m_roundOf v_m_fresh z3 else some (nI 0)))) else none))) else none) else (if w_32 = (nI 4) then (if inR (z3 + (nI 1)) L = true then (if inR (z3 + (nI 2)) L = true then (if inR (z3 + (nI 3)) L = true then (Option.bind (m_H_holds v_x_factSets (xs (z3 + (nI 1)).toNatClampNeg) (xs (z3 + (nI 2)).toNatClampNeg) (xs (z3 + (nI 3)).toNatClampNeg)) (fun v_202 => (if inR (z3 + (nI 1)) L = true then (if inR (z3 + (nI 2)) L = true then (if inR (z3 + (nI 3)) L = true then (Option.bind (m_M_holds v_m_fact (xs (z3 + (nI 1)).toNatClampNeg) (xs (z3 + (nI 2)).toNatClampNeg) (xs (z3 + (nI 3)).toNatClampNeg)) (fun v_221 => (if v_202.1 = v_221.1 then m_W_law_482 xs L (m_W_law_18 xs L n) v_x_markedPlus v_x_markedMinus v_x_line_length v_x_line_typed v_x_factSets v_x_program_count v_x_program_bodies v_x_deduction_givenPairs v_x_deduction_roundCount v_x_deduction_factChoices v_x_deduction_givenInRound v_m_typed v_m_count v_m_oldCount v_m_read v_m_last v_m_line v_m_fact v_m_marked v_m_many v_m_codes v_m_oldMany v_m_oldCodes v_m_body v_m_roundOf v_m_fresh z3 else some (nI 0)))) else none) else none) else none))) else none) else none) else none) else (if w_32 = (nI 5) then (if inR (z3 + (nI 1)) L = true then (if inR (z3 + (nI 2)) L = true then (Option.bind (m_H_mark v_x_markedPlus v_x_markedMinus (xs (z3 + (nI 1)).toNatClampNeg) (xs (z3 + (nI 2)).toNatClampNeg)) (fun v_240 => (if inR (z3 + (nI 1)) L = true then (if inR (z3 + (nI 2)) L = true then (Option.bind (m_M_mark v_m_marked (xs (z3 + (nI 1)).toNatClampNeg) (xs (z3 + (nI 2)).toNatClampNeg)) (fun v_254 => (if v_240.1 = v_254.1 then m_W_law_482 xs L (m_W_law_18 xs L n) v_x_markedPlus v_x_markedMinus v_x_line_length v_x_line_typed v_x_factSets v_x_program_count v_x_program_bodies v_x_deduction_givenPairs v_x_deduction_roundCount v_x_deduction_factChoices v_x_deduction_givenInRound v_m_typed v_m_count v_m_oldCount v_m_read v_m_last v_m_line v_m_fact v_m_marked v_m_many v_m_codes v_m_oldMany v_m_oldCodes v_m_body v_m_roundOf v_m_fresh z3 else some (nI 0)))) else none) else none))) else none) else none) else (if w_32 = (nI 6) then (if inR (z3 + (nI 1)) L = true then (Option.bind (m_H_drop v_x_program_count v_x_program_bodies (xs (z3 + (nI 1)).toNatClampNeg)) (fun v_268 => (if inR (z3 + (nI 1)) L = true then (Option.bind (m_M_drop v_m_count v_m_many v_m_codes (xs (z3 + (nI 1)).toNatClampNeg)) (fun v_277 => (if v_268.1 = v_277.1 then m_W_law_482 xs L (m_W_law_18 xs L n) v_x_markedPlus v_x_markedMinus v_x_line_length v_x_line_typed v_x_factSets v_268.2.1 v_268.2.2 v_x_deduction_givenPairs v_x_deduction_roundCount v_x_deduction_factChoices v_x_deduction_givenInRound v_m_typed v_277.2.1 v_m_oldCount v_m_read v_m_last v_m_line v_m_fact v_m_marked v_277.2.2.1 v_277.2.2.2 v_m_oldMany v_m_oldCodes v_m_body v_m_roundOf v_m_fresh z3 else some (nI 0)))) else none))) else none) else (if w_32 = (nI 7) then (Option.bind (m_H_clauses v_x_program_count) (fun v_286 => (Option.bind (m_M_clauses v_m_count) (fun v_290 => (if v_286.1 = v_290.1 then m_W_law_482 xs L (m_W_law_18 xs L n) v_x_markedPlus v_x_markedMinus v_x_line_length v_x_line_typed v_x_factSets v_x_program_count v_x_program_bodies v_x_deduction_givenPairs v_x_deduction_roundCount v_x_deduction_factChoices v_x_deduction_givenInRound v_m_typed v_m_count v_m_oldCount v_m_read v_m_last v_m_line v_m_fact v_m_marked v_m_many v_m_codes v_m_oldMany v_m_oldCodes v_m_body v_m_roundOf v_m_fresh z3 else some (nI 0)))))) else (if w_32 = (nI 8) then (if inR (z3 + (nI 1)) L = true then (Option.bind (m_H_literals v_x_program_count v_x_program_bodies (xs (z3 + (nI 1)).toNatClampNeg)) (fun v_304 => (if inR (z3 + (nI 1)) L = true then (Option.bind (m_M_literals v_m_count v_m_many (xs (z3 + (nI 1)).toNatClampNeg)) (fun v_313 => (if v_304.1 = v_313.1 then m_W_law_482 xs L (m_W_law_18 xs L n) v_x_markedPlus v_x_markedMinus v_x_line_length v_x_line_typed v_x_factSets v_x_program_count v_x_program_bodies v_x_deduction_givenPairs v_x_deduction_roundCount v_x_deduction_factChoices v_x_deduction_givenInRound v_m_typed v_m_count v_m_oldCount v_m_read v_m_last v_m_line v_m_fact v_m_marked v_m_many v_m_codes v_m_oldMany v_m_oldCodes v_m_body v_m_roundOf v_m_fresh z3 else some (nI 0)))) else none))) else none) else (if w_32 = (nI 9) then (if inR (z3 + (nI 1)) L = true then (if inR (z3 + (nI 2)) L = true then (Option.bind (m_H_literal v_x_program_count v_x_program_bodies (xs (z3 + (nI 1)).toNatClampNeg) (xs (z3 + (nI 2)).toNatClampNeg)) (fun v_332 => (if inR (z3 + (nI 1)) L = true then (if inR (z3 + (nI 2)) L = true then (Option.bind (m_M_literal v_m_count v_m_many v_m_codes (xs (z3 + (nI 1)).toNatClampNeg) (xs (z3 + (nI 2)).toNatClampNeg)) (fun v_346 => (if v_332.1 = v_346.1 then m_W_law_482 xs L (m_W_law_18 xs L n) v_x_markedPlus v_x_markedMinus v_x_line_length v_x_line_typed v_x_factSets v_x_program_count v_x_program_bodies v_x_deduction_givenPairs v_x_deduction_roundCount v_x_deduction_factChoices v_x_deduction_givenInRound v_m_typed v_m_count v_m_oldCount v_m_read v_m_last v_m_line v_m_fact v_m_marked v_m_many v_m_codes v_m_oldMany v_m_oldCodes v_m_body v_m_roundOf v_m_fresh z3 else some (nI 0)))) else none) else none))) else none) else none) else (if w_32 = (nI 10) then (if inR (z3 + (nI 1)) L = true then (Option.bind (m_H_letter v_x_program_count v_x_program_bodies (xs (z3 + (nI 1)).toNatClampNeg)) (fun v_360 => (if inR (z3 + (nI 1)) L = true then (Option.bind (m_M_letter v_m_count v_m_many v_m_codes (xs (z3 + (nI 1)).toNatClampNeg)) (fun v_369 => (if v_360.1 = v_369.1 then m_W_law_482 xs L (m_W_law_18 xs L n) v_x_markedPlus v_x_markedMinus v_x_line_length v_x_line_typed v_x_factSets v_x_program_count v_x_program_bodies v_x_deduction_givenPairs v_x_deduction_roundCount v_x_deduction_factChoices v_x_deduction_givenInRound v_m_typed v_m_count v_m_oldCount v_m_read v_m_last v_m_line v_m_fact v_m_marked v_m_many v_m_codes v_m_oldMany v_m_oldCodes v_m_body v_m_roundOf v_m_fresh z3 else some (nI 0)))) else none))) else none) else (if w_32 = (nI 11) then (if inR (z3 + (nI 1)) L = true then (if inR (z3 + (nI 2)) L = true then (Option.bind (m_H_subsumes v_x_program_count v_x_program_bodies (xs (z3 + (nI 1)).toNatClampNeg) (xs (z3 + (nI 2)).toNatClampNeg)) (fun v_388 => (if inR (z3 + (nI 1)) L = true then (if inR (z3 + (nI 2)) L = true then (Option.bind (m_M_subsumes v_m_count v_m_many v_m_codes (xs (z3 + (nI 1)).toNatClampNeg) (xs (z3 + (nI 2)).toNatClampNeg)) (fun v_402 => (if v_388.1 = v_402.1 then m_W_law_482 xs L (m_W_law_18 xs L n) v_x_markedPlus v_x_markedMinus v_x_line_length v_x_line_typed v_x_factSets v_x_program_count v_x_program_bodies v_x_deduction_givenPairs v_x_deduction_roundCount v_x_deduction_factChoices v_x_deduction_givenInRound v_m_typed v_m_count v_m_oldCount v_m_read v_m_last v_m_line v_m_fact v_m_marked v_m_many v_m_codes v_m_oldMany v_m_oldCodes v_m_body v_m_roundOf v_m_fresh z3 else some (nI 0)))) else none) else none))) else none) else none) else (if w_32 = (nI 12) then (if inR (z3 + (nI 1)) L = true then (if inR (z3 + (nI 2)) L = true then (Option.bind (m_H_given v_x_factSets v_x_program_count v_x_program_bodies v_x_deduction_givenPairs v_x_deduction_roundCount v_x_deduction_factChoices v_x_deduction_givenInRound (xs (z3 + (nI 1)).toNatClampNeg) (xs (z3 + (nI 2)).toNatClampNeg)) (fun v_421 => (if inR (z3 + (nI 1)) L = true then (if inR (z3 + (nI 2)) L = true then (Option.bind (m_M_given v_m_count v_m_last v_m_fact v_m_many v_m_codes v_m_roundOf v_m_fresh (xs (z3 + (nI 1)).toNatClampNeg) (xs (z3 + (nI 2)).toNatClampNeg)) (fun v_435 => (if v_421.1 = v_435.1 then m_W_law_482 xs L (m_W_law_18 xs L n) v_x_markedPlus v_x_markedMinus v_x_line_length v_x_line_typed v_x_factSets v_x_program_count v_x_program_bodies v_421.2.1 v_421.2.2.1 v_421.2.2.2.1 v_421.2.2.2.2 v_m_typed v_m_count v_m_oldCount v_m_read v_435.2.1 v_m_line v_m_fact v_m_marked v_m_many v_m_codes v_m_oldMany v_m_oldCodes v_m_body v_435.2.2.1 v_435.2.2.2 z3 else some (nI 0)))) else none) else none))) else none) else none) else (if w_32 = (nI 13) then (Option.bind (m_H_rounds v_x_factSets v_x_program_count v_x_program_bodies v_x_deduction_givenPairs v_x_deduction_roundCount v_x_deduction_factChoices v_x_deduction_givenInRound) (fun v_444 => (Option.bind (m_M_rounds v_m_count v_m_last v_m_fact v_m_many v_m_codes v_m_roundOf v_m_fresh) (fun v_448 => (if v_444.1 = v_448.1 then m_W_law_482 xs L (m_W_law_18 xs L n) v_x_markedPlus v_x_markedMinus v_x_line_length v_x_line_typed v_x_factSets v_x_program_count v_x_program_bodies v_444.2.1 v_444.2.2.1 v_444.2.2.2.1 v_444.2.2.2.2 v_m_typed v_m_count v_m_oldCount v_m_read v_448.2.1 v_m_line v_m_fact v_m_marked v_m_many v_m_codes v_m_oldMany v_m_oldCodes v_m_body v_448.2.2.1 v_448.2.2.2 z3 else some (nI 0)))))) else (if w_32 = (nI 14) then (Option.bind (m_H_fits v_x_markedPlus v_x_markedMinus v_x_factSets v_x_program_count v_x_program_bodies v_x_deduction_givenPairs v_x_deduction_roundCount v_x_deduction_factChoices v_x_deduction_givenInRound) (fun v_457 => (Option.bind (m_M_fits v_m_count v_m_last v_m_fact v_m_marked v_m_many v_m_codes v_m_roundOf v_m_fresh) (fun v_461 => (if v_457.1 = v_461.1 then m_W_law_482 xs L (m_W_law_18 xs L n) v_x_markedPlus v_x_markedMinus v_x_line_length v_x_line_typed v_x_factSets v_x_program_count v_x_program_bodies v_457.2.1 v_457.2.2.1 v_457.2.2.2.1 v_457.2.2.2.2 v_m_typed v_m_count v_m_oldCount v_m_read v_461.2.1 v_m_line v_m_fact v_m_marked v_m_many v_m_codes v_m_oldMany v_m_oldCodes v_m_body v_461.2.2.1 v_461.2.2.2 z3 else some (nI 0)))))) else (if w_32 = (nI 15) then (Option.bind (m_H_learn v_x_markedPlus v_x_markedMinus v_x_factSets v_x_program_count v_x_program_bodies v_x_deduction_givenPairs v_x_deduction_roundCount v_x_deduction_factChoices v_x_deduction_givenInRound) (fun v_470 => (Option.bind (m_M_learn v_m_count v_m_oldCount v_m_last v_m_fact v_m_marked v_m_many v_m_codes v_m_oldMany v_m_oldCodes v_m_roundOf v_m_fresh) (fun v_474 => (if v_470.1 = v_474.1 then m_W_law_482 xs L (m_W_law_18 xs L n) v_x_markedPlus v_x_markedMinus v_x_line_length v_x_line_typed v_x_factSets v_470.2.1 v_470.2.2.1 v_470.2.2.2.1 v_470.2.2.2.2.1 v_470.2.2.2.2.2.1 v_470.2.2.2.2.2.2 v_m_typed v_474.2.1 v_474.2.2.1 v_m_read v_474.2.2.2.1 v_m_line v_m_fact v_m_marked v_474.2.2.2.2.1 v_474.2.2.2.2.2.1 v_474.2.2.2.2.2.2.1 v_474.2.2.2.2.2.2.2.1 v_m_body v_474.2.2.2.2.2.2.2.2.1 v_474.2.2.2.2.2.2.2.2.2 z3 else some (nI 0)))))) else m_W_law_482 xs L (m_W_law_18 xs L n) v_x_markedPlus v_x_markedMinus v_x_line_length v_x_line_typed v_x_factSets v_x_program_count v_x_program_bodies v_x_deduction_givenPairs v_x_deduction_roundCount v_x_deduction_factChoices v_x_deduction_givenInRound v_m_typed v_m_count v_m_oldCount v_m_read v_m_last v_m_line v_m_fact v_m_marked v_m_many v_m_codes v_m_oldMany v_m_oldCodes v_m_body v_m_roundOf v_m_fresh z3)))))))))))))))))) else none))
end
section
def lw_gd : List Cond := lw_tbl.filter goodWord
abbrev R_H : String := "HornLearner"
abbrev R_L : String := "HornLearner$Line"
abbrev R_P : String := "HornLearner$Program"
abbrev R_D : String := "HornLearner$Deduction"
abbrev R_M : String := "HornLearnerModel"
abbrev R_S : String := "java/lang/String"
abbrev R_T : String := "java/lang/StringLatin1"
abbrev R_Q : String := "jdk/internal/util/Preconditions"
abbrev R_I : String := "java/lang/Integer"
abbrev R_A : String := "java/lang/Math"
def F_D : u_T := fun k => match k with
  | 0 => ("HornLearner$Deduction", "factChoices", "[J", true)
  | 1 => ("HornLearner$Deduction", "givenInRound", "[I", true)
  | 2 => ("HornLearner$Deduction", "givenPairs", "I", false)
  | _ => ("HornLearner$Deduction", "roundCount", "I", false)
def t_D : Nat → FieldType := fun k => match k with
  | 0 => .array .long
  | 1 => .array .int
  | 2 => .int
  | _ => .int
theorem n_D : ∀ a, a < 4 → ∀ b, b < 4 → a ≠ b → (F_D a).2.1 ≠ (F_D b).2.1 := by decide +kernel
theorem t_D_ok : ∀ k, k < 4 → parseFieldDescriptor (F_D k).2.2.1 = some (t_D k) := by decide +kernel
theorem lay_D : ∀ w ∈ u_ws R_D F_D 4, w ∈ lw_gd := fun w h => List.mem_filter.mpr ⟨(by decide +kernel : ∀ w ∈ u_ws R_D F_D 4, w ∈ lw_tbl) w h, (by decide +kernel : ∀ w ∈ u_ws R_D F_D 4, goodWord w = true) w h⟩
def F_L : u_T := fun k => match k with
  | 0 => ("HornLearner$Line", "typed", "[C", true)
  | _ => ("HornLearner$Line", "length", "I", false)
def t_L : Nat → FieldType := fun k => match k with
  | 0 => .array .char
  | _ => .int
theorem n_L : ∀ a, a < 2 → ∀ b, b < 2 → a ≠ b → (F_L a).2.1 ≠ (F_L b).2.1 := by decide +kernel
theorem t_L_ok : ∀ k, k < 2 → parseFieldDescriptor (F_L k).2.2.1 = some (t_L k) := by decide +kernel
theorem lay_L : ∀ w ∈ u_ws R_L F_L 2, w ∈ lw_gd := fun w h => List.mem_filter.mpr ⟨(by decide +kernel : ∀ w ∈ u_ws R_L F_L 2, w ∈ lw_tbl) w h, (by decide +kernel : ∀ w ∈ u_ws R_L F_L 2, goodWord w = true) w h⟩
def F_P : u_T := fun k => match k with
  | 0 => ("HornLearner$Program", "bodies", "[I", true)
  | _ => ("HornLearner$Program", "count", "I", false)
def t_P : Nat → FieldType := fun k => match k with
  | 0 => .array .int
  | _ => .int
theorem n_P : ∀ a, a < 2 → ∀ b, b < 2 → a ≠ b → (F_P a).2.1 ≠ (F_P b).2.1 := by decide +kernel
theorem t_P_ok : ∀ k, k < 2 → parseFieldDescriptor (F_P k).2.2.1 = some (t_P k) := by decide +kernel
theorem lay_P : ∀ w ∈ u_ws R_P F_P 2, w ∈ lw_gd := fun w h => List.mem_filter.mpr ⟨(by decide +kernel : ∀ w ∈ u_ws R_P F_P 2, w ∈ lw_tbl) w h, (by decide +kernel : ∀ w ∈ u_ws R_P F_P 2, goodWord w = true) w h⟩
def F_H : u_T := fun k => match k with
  | 0 => ("HornLearner", "line", "LHornLearner$Line;", true)
  | 1 => ("HornLearner", "factSets", "[I", true)
  | 2 => ("HornLearner", "markedPlus", "I", false)
  | 3 => ("HornLearner", "markedMinus", "I", false)
  | 4 => ("HornLearner", "program", "LHornLearner$Program;", true)
  | _ => ("HornLearner", "deduction", "LHornLearner$Deduction;", true)
def t_H : Nat → FieldType := fun k => match k with
  | 0 => .object "HornLearner$Line"
  | 1 => .array .int
  | 2 => .int
  | 3 => .int
  | 4 => .object "HornLearner$Program"
  | _ => .object "HornLearner$Deduction"
theorem n_H : ∀ a, a < 6 → ∀ b, b < 6 → a ≠ b → (F_H a).2.1 ≠ (F_H b).2.1 := by decide +kernel
theorem t_H_ok : ∀ k, k < 6 → parseFieldDescriptor (F_H k).2.2.1 = some (t_H k) := by decide +kernel
theorem lay_H : ∀ w ∈ u_ws R_H F_H 6, w ∈ lw_gd := fun w h => List.mem_filter.mpr ⟨(by decide +kernel : ∀ w ∈ u_ws R_H F_H 6, w ∈ lw_tbl) w h, (by decide +kernel : ∀ w ∈ u_ws R_H F_H 6, goodWord w = true) w h⟩
def F_M : u_T := fun k => match k with
  | 0 => ("HornLearnerModel", "line", "[I", true)
  | 1 => ("HornLearnerModel", "typed", "I", false)
  | 2 => ("HornLearnerModel", "fact", "[Z", true)
  | 3 => ("HornLearnerModel", "marked", "[I", true)
  | 4 => ("HornLearnerModel", "count", "I", false)
  | 5 => ("HornLearnerModel", "many", "[I", true)
  | 6 => ("HornLearnerModel", "codes", "[I", true)
  | 7 => ("HornLearnerModel", "oldCount", "I", false)
  | 8 => ("HornLearnerModel", "oldMany", "[I", true)
  | 9 => ("HornLearnerModel", "oldCodes", "[I", true)
  | 10 => ("HornLearnerModel", "read", "I", false)
  | 11 => ("HornLearnerModel", "body", "[I", true)
  | 12 => ("HornLearnerModel", "roundOf", "[I", true)
  | 13 => ("HornLearnerModel", "fresh", "[Z", true)
  | _ => ("HornLearnerModel", "last", "I", false)
def t_M : Nat → FieldType := fun k => match k with
  | 0 => .array .int
  | 1 => .int
  | 2 => .array .boolean
  | 3 => .array .int
  | 4 => .int
  | 5 => .array .int
  | 6 => .array .int
  | 7 => .int
  | 8 => .array .int
  | 9 => .array .int
  | 10 => .int
  | 11 => .array .int
  | 12 => .array .int
  | 13 => .array .boolean
  | _ => .int
theorem n_M : ∀ a, a < 15 → ∀ b, b < 15 → a ≠ b → (F_M a).2.1 ≠ (F_M b).2.1 := by decide +kernel
theorem t_M_ok : ∀ k, k < 15 → parseFieldDescriptor (F_M k).2.2.1 = some (t_M k) := by decide +kernel
theorem lay_M : ∀ w ∈ u_ws R_M F_M 15, w ∈ lw_gd := fun w h => List.mem_filter.mpr ⟨(by decide +kernel : ∀ w ∈ u_ws R_M F_M 15, w ∈ lw_tbl) w h, (by decide +kernel : ∀ w ∈ u_ws R_M F_M 15, goodWord w = true) w h⟩
abbrev classes : List vw_C := [(R_D, F_D, 4), (R_L, F_L, 2), (R_P, F_P, 2), (R_H, F_H, 6), (R_M, F_M, 15)]
abbrev b_H_init : ByteArray := prog_1_method_1_code
abbrev y_H_init : MethodName := ⟨R_H, "<init>", "()V"⟩
abbrev b_L_init : ByteArray := prog_3_method_1_code
abbrev y_L_init : MethodName := ⟨R_L, "<init>", "()V"⟩
abbrev b_P_init : ByteArray := prog_4_method_1_code
abbrev y_P_init : MethodName := ⟨R_P, "<init>", "()V"⟩
abbrev b_D_init : ByteArray := prog_2_method_1_code
abbrev y_D_init : MethodName := ⟨R_D, "<init>", "()V"⟩
abbrev b_H_key : ByteArray := prog_1_method_2_code
abbrev y_H_key : MethodName := ⟨R_H, "key", "(C)Z"⟩
abbrev b_L_add : ByteArray := prog_3_method_2_code
abbrev y_L_add : MethodName := ⟨R_L, "add", "(C)Z"⟩
abbrev b_H_back : ByteArray := prog_1_method_3_code
abbrev y_H_back : MethodName := ⟨R_H, "back", "()Z"⟩
abbrev b_L_removeLast : ByteArray := prog_3_method_3_code
abbrev y_L_removeLast : MethodName := ⟨R_L, "removeLast", "()Z"⟩
abbrev b_H_enter : ByteArray := prog_1_method_4_code
abbrev y_H_enter : MethodName := ⟨R_H, "enter", "()I"⟩
abbrev b_L_begunStatement : ByteArray := prog_3_method_6_code
abbrev y_L_begunStatement : MethodName := ⟨R_L, "begunStatement", "()I"⟩
abbrev b_L_form : ByteArray := prog_3_method_11_code
abbrev y_L_form : MethodName := ⟨R_L, "form", "()Ljava/lang/String;"⟩
abbrev b_L_at : ByteArray := prog_3_method_5_code
abbrev y_L_at : MethodName := ⟨R_L, "at", "(I)C"⟩
abbrev b_S_length : ByteArray := prog_10_method_54_code
abbrev y_S_length : MethodName := ⟨R_S, "length", "()I"⟩
abbrev b_S_coder : ByteArray := prog_10_method_152_code
abbrev y_S_coder : MethodName := ⟨R_S, "coder", "()B"⟩
abbrev b_S_charAt : ByteArray := prog_10_method_56_code
abbrev y_S_charAt : MethodName := ⟨R_S, "charAt", "(I)C"⟩
abbrev b_S_isLatin1 : ByteArray := prog_10_method_154_code
abbrev y_S_isLatin1 : MethodName := ⟨R_S, "isLatin1", "()Z"⟩
abbrev b_T_charAt : ByteArray := prog_11_method_2_code
abbrev y_T_charAt : MethodName := ⟨R_T, "charAt", "([BI)C"⟩
abbrev b_S_checkIndex : ByteArray := prog_10_method_155_code
abbrev y_S_checkIndex : MethodName := ⟨R_S, "checkIndex", "(II)V"⟩
abbrev b_Q_checkIndex : ByteArray := prog_13_method_11_code
abbrev y_Q_checkIndex : MethodName := ⟨R_Q, "checkIndex", "(IILjava/util/function/BiFunction;)I"⟩
abbrev b_L_allows : ByteArray := prog_3_method_12_code
abbrev y_L_allows : MethodName := ⟨R_L, "allows", "(CC)Z"⟩
abbrev b_L_endsStatement : ByteArray := prog_3_method_7_code
abbrev y_L_endsStatement : MethodName := ⟨R_L, "endsStatement", "(I)Z"⟩
abbrev b_L_typedLiterals : ByteArray := prog_3_method_9_code
abbrev y_L_typedLiterals : MethodName := ⟨R_L, "typedLiterals", "()I"⟩
abbrev b_H_carryOutLine : ByteArray := prog_1_method_18_code
abbrev y_H_carryOutLine : MethodName := ⟨R_H, "carryOutLine", "()I"⟩
abbrev b_L_typedBody : ByteArray := prog_3_method_10_code
abbrev y_L_typedBody : MethodName := ⟨R_L, "typedBody", "()I"⟩
abbrev b_S_indexOf1 : ByteArray := prog_10_method_79_code
abbrev y_S_indexOf1 : MethodName := ⟨R_S, "indexOf", "(I)I"⟩
abbrev b_S_indexOf2 : ByteArray := prog_10_method_80_code
abbrev y_S_indexOf2 : MethodName := ⟨R_S, "indexOf", "(II)I"⟩
abbrev b_T_indexOf : ByteArray := prog_11_method_22_code
abbrev y_T_indexOf : MethodName := ⟨R_T, "indexOf", "([BIII)I"⟩
abbrev b_T_canEncode : ByteArray := prog_11_method_4_code
abbrev y_T_canEncode : MethodName := ⟨R_T, "canEncode", "(I)Z"⟩
abbrev b_A_max : ByteArray := prog_9_method_65_code
abbrev y_A_max : MethodName := ⟨R_A, "max", "(II)I"⟩
abbrev b_A_min : ByteArray := prog_9_method_69_code
abbrev y_A_min : MethodName := ⟨R_A, "min", "(II)I"⟩
abbrev b_T_indexOfChar : ByteArray := prog_11_method_23_code
abbrev y_T_indexOfChar : MethodName := ⟨R_T, "indexOfChar", "([BIII)I"⟩
abbrev b_S_checkBoundsBeginEnd : ByteArray := prog_10_method_158_code
abbrev y_S_checkBoundsBeginEnd : MethodName := ⟨R_S, "checkBoundsBeginEnd", "(III)V"⟩
abbrev b_Q_checkFromToIndex : ByteArray := prog_13_method_12_code
abbrev y_Q_checkFromToIndex : MethodName := ⟨R_Q, "checkFromToIndex", "(IIILjava/util/function/BiFunction;)I"⟩
abbrev b_H_codeOf : ByteArray := prog_1_method_30_code
abbrev y_H_codeOf : MethodName := ⟨R_H, "codeOf", "(III)I"⟩
abbrev b_H_addClause : ByteArray := prog_1_method_21_code
abbrev y_H_addClause : MethodName := ⟨R_H, "addClause", "(II)I"⟩
abbrev b_I_bitCount : ByteArray := prog_8_method_49_code
abbrev y_I_bitCount : MethodName := ⟨R_I, "bitCount", "(I)I"⟩
abbrev b_H_hasHeadVariables : ByteArray := prog_1_method_29_code
abbrev y_H_hasHeadVariables : MethodName := ⟨R_H, "hasHeadVariables", "(I)Z"⟩
abbrev b_P_contains : ByteArray := prog_4_method_3_code
abbrev y_P_contains : MethodName := ⟨R_P, "contains", "(I)Z"⟩
abbrev b_P_bodyOf : ByteArray := prog_4_method_2_code
abbrev y_P_bodyOf : MethodName := ⟨R_P, "bodyOf", "(I)I"⟩
abbrev b_P_append : ByteArray := prog_4_method_4_code
abbrev y_P_append : MethodName := ⟨R_P, "append", "(I)I"⟩
abbrev b_L_typedPair : ByteArray := prog_3_method_8_code
abbrev y_L_typedPair : MethodName := ⟨R_L, "typedPair", "()I"⟩
abbrev b_H_pairBit : ByteArray := prog_1_method_28_code
abbrev y_H_pairBit : MethodName := ⟨R_H, "pairBit", "(II)I"⟩
abbrev b_H_changeMarks : ByteArray := prog_1_method_20_code
abbrev y_H_changeMarks : MethodName := ⟨R_H, "changeMarks", "(II)I"⟩
abbrev b_H_changeFacts : ByteArray := prog_1_method_19_code
abbrev y_H_changeFacts : MethodName := ⟨R_H, "changeFacts", "(IIZ)I"⟩
abbrev b_H_isFactRelation : ByteArray := prog_1_method_27_code
abbrev y_H_isFactRelation : MethodName := ⟨R_H, "isFactRelation", "(I)Z"⟩
abbrev b_L_clear : ByteArray := prog_3_method_4_code
abbrev y_L_clear : MethodName := ⟨R_L, "clear", "()V"⟩
abbrev b_H_facts : ByteArray := prog_1_method_5_code
abbrev y_H_facts : MethodName := ⟨R_H, "facts", "(I)I"⟩
abbrev b_H_holds : ByteArray := prog_1_method_6_code
abbrev y_H_holds : MethodName := ⟨R_H, "holds", "(III)Z"⟩
abbrev b_H_mark : ByteArray := prog_1_method_7_code
abbrev y_H_mark : MethodName := ⟨R_H, "mark", "(II)I"⟩
abbrev b_H_drop : ByteArray := prog_1_method_8_code
abbrev y_H_drop : MethodName := ⟨R_H, "drop", "(I)Z"⟩
abbrev b_P_remove : ByteArray := prog_4_method_5_code
abbrev y_P_remove : MethodName := ⟨R_P, "remove", "(I)Z"⟩
abbrev b_H_clauses : ByteArray := prog_1_method_9_code
abbrev y_H_clauses : MethodName := ⟨R_H, "clauses", "()I"⟩
abbrev b_H_literals : ByteArray := prog_1_method_10_code
abbrev y_H_literals : MethodName := ⟨R_H, "literals", "(I)I"⟩
abbrev b_H_literal : ByteArray := prog_1_method_11_code
abbrev y_H_literal : MethodName := ⟨R_H, "literal", "(II)I"⟩
abbrev b_H_codeAt : ByteArray := prog_1_method_36_code
abbrev y_H_codeAt : MethodName := ⟨R_H, "codeAt", "(II)I"⟩
abbrev b_H_withoutLeastCode : ByteArray := prog_1_method_35_code
abbrev y_H_withoutLeastCode : MethodName := ⟨R_H, "withoutLeastCode", "(I)I"⟩
abbrev b_H_leastCode : ByteArray := prog_1_method_34_code
abbrev y_H_leastCode : MethodName := ⟨R_H, "leastCode", "(I)I"⟩
abbrev b_H_letter : ByteArray := prog_1_method_12_code
abbrev y_H_letter : MethodName := ⟨R_H, "letter", "(I)I"⟩
abbrev b_P_letterAt : ByteArray := prog_4_method_7_code
abbrev y_P_letterAt : MethodName := ⟨R_P, "letterAt", "(I)I"⟩
abbrev b_P_textLength : ByteArray := prog_4_method_8_code
abbrev y_P_textLength : MethodName := ⟨R_P, "textLength", "(I)I"⟩
abbrev b_P_letterOf : ByteArray := prog_4_method_9_code
abbrev y_P_letterOf : MethodName := ⟨R_P, "letterOf", "(II)I"⟩
abbrev b_H_relationOf : ByteArray := prog_1_method_31_code
abbrev y_H_relationOf : MethodName := ⟨R_H, "relationOf", "(I)I"⟩
abbrev b_H_firstVariableOf : ByteArray := prog_1_method_32_code
abbrev y_H_firstVariableOf : MethodName := ⟨R_H, "firstVariableOf", "(I)I"⟩
abbrev b_H_secondVariableOf : ByteArray := prog_1_method_33_code
abbrev y_H_secondVariableOf : MethodName := ⟨R_H, "secondVariableOf", "(I)I"⟩
abbrev b_H_subsumes : ByteArray := prog_1_method_13_code
abbrev y_H_subsumes : MethodName := ⟨R_H, "subsumes", "(II)Z"⟩
abbrev b_H_withVariableForZ : ByteArray := prog_1_method_37_code
abbrev y_H_withVariableForZ : MethodName := ⟨R_H, "withVariableForZ", "(II)I"⟩
abbrev b_H_given : ByteArray := prog_1_method_14_code
abbrev y_H_given : MethodName := ⟨R_H, "given", "(II)I"⟩
abbrev b_H_deduceProgram : ByteArray := prog_1_method_22_code
abbrev y_H_deduceProgram : MethodName := ⟨R_H, "deduceProgram", "()V"⟩
abbrev b_D_takeFacts : ByteArray := prog_2_method_2_code
abbrev y_D_takeFacts : MethodName := ⟨R_D, "takeFacts", "(II)V"⟩
abbrev b_D_choicesWhere : ByteArray := prog_2_method_6_code
abbrev y_D_choicesWhere : MethodName := ⟨R_D, "choicesWhere", "(III)J"⟩
abbrev b_D_run : ByteArray := prog_2_method_3_code
abbrev y_D_run : MethodName := ⟨R_D, "run", "(II)V"⟩
abbrev b_D_pairsFrom : ByteArray := prog_2_method_5_code
abbrev y_D_pairsFrom : MethodName := ⟨R_D, "pairsFrom", "(I)I"⟩
abbrev b_D_roundOf : ByteArray := prog_2_method_4_code
abbrev y_D_roundOf : MethodName := ⟨R_D, "roundOf", "(I)I"⟩
abbrev b_H_rounds : ByteArray := prog_1_method_15_code
abbrev y_H_rounds : MethodName := ⟨R_H, "rounds", "()I"⟩
abbrev b_H_fits : ByteArray := prog_1_method_16_code
abbrev y_H_fits : MethodName := ⟨R_H, "fits", "()Z"⟩
abbrev b_H_deductionFits : ByteArray := prog_1_method_23_code
abbrev y_H_deductionFits : MethodName := ⟨R_H, "deductionFits", "()Z"⟩
abbrev b_H_learn : ByteArray := prog_1_method_17_code
abbrev y_H_learn : MethodName := ⟨R_H, "learn", "()I"⟩
abbrev b_H_learnBody : ByteArray := prog_1_method_25_code
abbrev y_H_learnBody : MethodName := ⟨R_H, "learnBody", "(LHornLearner;IIII)Z"⟩
abbrev b_H_takeIfFitting : ByteArray := prog_1_method_26_code
abbrev y_H_takeIfFitting : MethodName := ⟨R_H, "takeIfFitting", "(II)Z"⟩
abbrev b_P_become : ByteArray := prog_4_method_6_code
abbrev y_P_become : MethodName := ⟨R_P, "become", "(II)V"⟩
abbrev b_H_learnTwoClauses : ByteArray := prog_1_method_24_code
abbrev y_H_learnTwoClauses : MethodName := ⟨R_H, "learnTwoClauses", "(I)Z"⟩
abbrev b_M_init : ByteArray := prog_6_method_1_code
abbrev y_M_init : MethodName := ⟨R_M, "<init>", "()V"⟩
abbrev b_M_key : ByteArray := prog_6_method_2_code
abbrev y_M_key : MethodName := ⟨R_M, "key", "(C)Z"⟩
abbrev b_M_back : ByteArray := prog_6_method_3_code
abbrev y_M_back : MethodName := ⟨R_M, "back", "()Z"⟩
abbrev b_M_enter : ByteArray := prog_6_method_20_code
abbrev y_M_enter : MethodName := ⟨R_M, "enter", "()I"⟩
abbrev b_M_fault : ByteArray := prog_6_method_12_code
abbrev y_M_fault : MethodName := ⟨R_M, "fault", "()I"⟩
abbrev b_M_goesOn : ByteArray := prog_6_method_10_code
abbrev y_M_goesOn : MethodName := ⟨R_M, "goesOn", "(I)Z"⟩
abbrev b_M_isRelation : ByteArray := prog_6_method_6_code
abbrev y_M_isRelation : MethodName := ⟨R_M, "isRelation", "(I)Z"⟩
abbrev b_M_head : ByteArray := prog_6_method_7_code
abbrev y_M_head : MethodName := ⟨R_M, "head", "(I)I"⟩
abbrev b_M_inBody : ByteArray := prog_6_method_9_code
abbrev y_M_inBody : MethodName := ⟨R_M, "inBody", "(II)Z"⟩
abbrev b_M_isVariable : ByteArray := prog_6_method_5_code
abbrev y_M_isVariable : MethodName := ⟨R_M, "isVariable", "(I)Z"⟩
abbrev b_M_argument : ByteArray := prog_6_method_8_code
abbrev y_M_argument : MethodName := ⟨R_M, "argument", "(II)Z"⟩
abbrev b_M_isConstant : ByteArray := prog_6_method_4_code
abbrev y_M_isConstant : MethodName := ⟨R_M, "isConstant", "(I)Z"⟩
abbrev b_M_whole : ByteArray := prog_6_method_11_code
abbrev y_M_whole : MethodName := ⟨R_M, "whole", "()Z"⟩
abbrev b_M_enterClause : ByteArray := prog_6_method_17_code
abbrev y_M_enterClause : MethodName := ⟨R_M, "enterClause", "()I"⟩
abbrev b_M_readBody : ByteArray := prog_6_method_14_code
abbrev y_M_readBody : MethodName := ⟨R_M, "readBody", "()V"⟩
abbrev b_M_relationOf : ByteArray := prog_6_method_13_code
abbrev y_M_relationOf : MethodName := ⟨R_M, "relationOf", "(I)I"⟩
abbrev b_M_variables : ByteArray := prog_6_method_15_code
abbrev y_M_variables : MethodName := ⟨R_M, "variables", "(I)I"⟩
abbrev b_M_known : ByteArray := prog_6_method_16_code
abbrev y_M_known : MethodName := ⟨R_M, "known", "(I)Z"⟩
abbrev b_M_enterMark : ByteArray := prog_6_method_18_code
abbrev y_M_enterMark : MethodName := ⟨R_M, "enterMark", "(II)I"⟩
abbrev b_M_enterFact : ByteArray := prog_6_method_19_code
abbrev y_M_enterFact : MethodName := ⟨R_M, "enterFact", "(IZ)I"⟩
abbrev b_M_facts : ByteArray := prog_6_method_22_code
abbrev y_M_facts : MethodName := ⟨R_M, "facts", "(I)I"⟩
abbrev b_M_holds : ByteArray := prog_6_method_23_code
abbrev y_M_holds : MethodName := ⟨R_M, "holds", "(III)Z"⟩
abbrev b_M_constant : ByteArray := prog_6_method_21_code
abbrev y_M_constant : MethodName := ⟨R_M, "constant", "(I)Z"⟩
abbrev b_M_mark : ByteArray := prog_6_method_24_code
abbrev y_M_mark : MethodName := ⟨R_M, "mark", "(II)I"⟩
abbrev b_M_drop : ByteArray := prog_6_method_26_code
abbrev y_M_drop : MethodName := ⟨R_M, "drop", "(I)Z"⟩
abbrev b_M_clause : ByteArray := prog_6_method_25_code
abbrev y_M_clause : MethodName := ⟨R_M, "clause", "(I)Z"⟩
abbrev b_M_clauses : ByteArray := prog_6_method_27_code
abbrev y_M_clauses : MethodName := ⟨R_M, "clauses", "()I"⟩
abbrev b_M_literals : ByteArray := prog_6_method_28_code
abbrev y_M_literals : MethodName := ⟨R_M, "literals", "(I)I"⟩
abbrev b_M_literal : ByteArray := prog_6_method_29_code
abbrev y_M_literal : MethodName := ⟨R_M, "literal", "(II)I"⟩
abbrev b_M_letter : ByteArray := prog_6_method_31_code
abbrev y_M_letter : MethodName := ⟨R_M, "letter", "(I)I"⟩
abbrev b_M_letterOf : ByteArray := prog_6_method_30_code
abbrev y_M_letterOf : MethodName := ⟨R_M, "letterOf", "(II)I"⟩
abbrev b_M_subsumes : ByteArray := prog_6_method_33_code
abbrev y_M_subsumes : MethodName := ⟨R_M, "subsumes", "(II)Z"⟩
abbrev b_M_replaced : ByteArray := prog_6_method_32_code
abbrev y_M_replaced : MethodName := ⟨R_M, "replaced", "(II)I"⟩
abbrev b_M_given : ByteArray := prog_6_method_38_code
abbrev y_M_given : MethodName := ⟨R_M, "given", "(II)I"⟩
abbrev b_M_work : ByteArray := prog_6_method_37_code
abbrev y_M_work : MethodName := ⟨R_M, "work", "()V"⟩
abbrev b_M_follows : ByteArray := prog_6_method_36_code
abbrev y_M_follows : MethodName := ⟨R_M, "follows", "(II)Z"⟩
abbrev b_M_literalHolds : ByteArray := prog_6_method_35_code
abbrev y_M_literalHolds : MethodName := ⟨R_M, "literalHolds", "(IIII)Z"⟩
abbrev b_M_valueOf : ByteArray := prog_6_method_34_code
abbrev y_M_valueOf : MethodName := ⟨R_M, "valueOf", "(IIII)I"⟩
abbrev b_M_rounds : ByteArray := prog_6_method_39_code
abbrev y_M_rounds : MethodName := ⟨R_M, "rounds", "()I"⟩
abbrev b_M_fits : ByteArray := prog_6_method_40_code
abbrev y_M_fits : MethodName := ⟨R_M, "fits", "()Z"⟩
abbrev b_M_learn : ByteArray := prog_6_method_46_code
abbrev y_M_learn : MethodName := ⟨R_M, "learn", "()I"⟩
abbrev b_M_keep : ByteArray := prog_6_method_42_code
abbrev y_M_keep : MethodName := ⟨R_M, "keep", "()V"⟩
abbrev b_M_alone : ByteArray := prog_6_method_44_code
abbrev y_M_alone : MethodName := ⟨R_M, "alone", "(I)Z"⟩
abbrev b_M_set : ByteArray := prog_6_method_41_code
abbrev y_M_set : MethodName := ⟨R_M, "set", "(IIII)Z"⟩
abbrev b_M_pair : ByteArray := prog_6_method_45_code
abbrev y_M_pair : MethodName := ⟨R_M, "pair", "(I)Z"⟩
abbrev b_M_putBack : ByteArray := prog_6_method_43_code
abbrev y_M_putBack : MethodName := ⟨R_M, "putBack", "()V"⟩
end
section
set_option maxRecDepth 20000 in
theorem cod_H_init : (Cond.code y_H_init b_H_init 1 none : Cond) ∈ lw_gd := List.mem_filter.mpr ⟨List.mem_append_right _ (List.mem_of_getElem? (i := 17) rfl), rfl⟩
set_option maxRecDepth 20000 in
theorem cod_O_init : (Cond.code objectInit ⟨#[0xb1]⟩ 1 none : Cond) ∈ lw_gd := List.mem_filter.mpr ⟨List.mem_append_right _ (List.mem_of_getElem? (i := 20) rfl), rfl⟩
set_option maxRecDepth 20000 in
theorem cod_L_init : (Cond.code y_L_init b_L_init 1 none : Cond) ∈ lw_gd := List.mem_filter.mpr ⟨List.mem_append_right _ (List.mem_of_getElem? (i := 25) rfl), rfl⟩
set_option maxRecDepth 20000 in
theorem cod_P_init : (Cond.code y_P_init b_P_init 1 none : Cond) ∈ lw_gd := List.mem_filter.mpr ⟨List.mem_append_right _ (List.mem_of_getElem? (i := 39) rfl), rfl⟩
set_option maxRecDepth 20000 in
theorem cod_D_init : (Cond.code y_D_init b_D_init 1 none : Cond) ∈ lw_gd := List.mem_filter.mpr ⟨List.mem_append_right _ (List.mem_of_getElem? (i := 54) rfl), rfl⟩
set_option maxRecDepth 20000 in
theorem cod_H_key : (Cond.code y_H_key b_H_key 2 (some .boolean) : Cond) ∈ lw_gd := List.mem_filter.mpr ⟨List.mem_append_right _ (List.mem_of_getElem? (i := 94) rfl), rfl⟩
set_option maxRecDepth 20000 in
theorem cod_L_add : (Cond.code y_L_add b_L_add 2 (some .boolean) : Cond) ∈ lw_gd := List.mem_filter.mpr ⟨List.mem_append_right _ (List.mem_of_getElem? (i := 98) rfl), rfl⟩
set_option maxRecDepth 20000 in
theorem cod_H_back : (Cond.code y_H_back b_H_back 1 (some .boolean) : Cond) ∈ lw_gd := List.mem_filter.mpr ⟨List.mem_append_right _ (List.mem_of_getElem? (i := 102) rfl), rfl⟩
set_option maxRecDepth 20000 in
theorem cod_L_removeLast : (Cond.code y_L_removeLast b_L_removeLast 1 (some .boolean) : Cond) ∈ lw_gd := List.mem_filter.mpr ⟨List.mem_append_right _ (List.mem_of_getElem? (i := 106) rfl), rfl⟩
set_option maxRecDepth 20000 in
theorem cod_H_enter : (Cond.code y_H_enter b_H_enter 3 (some .int) : Cond) ∈ lw_gd := List.mem_filter.mpr ⟨List.mem_append_right _ (List.mem_of_getElem? (i := 110) rfl), rfl⟩
set_option maxRecDepth 20000 in
theorem cod_L_begunStatement : (Cond.code y_L_begunStatement b_L_begunStatement 3 (some .int) : Cond) ∈ lw_gd := List.mem_filter.mpr ⟨List.mem_append_right _ (List.mem_of_getElem? (i := 114) rfl), rfl⟩
set_option maxRecDepth 20000 in
theorem cod_L_form : (Cond.code y_L_form b_L_form 1 (some (.object "java/lang/String")) : Cond) ∈ lw_gd := List.mem_filter.mpr ⟨List.mem_append_right _ (List.mem_of_getElem? (i := 118) rfl), rfl⟩
set_option maxRecDepth 20000 in
theorem cod_L_at : (Cond.code y_L_at b_L_at 2 (some .char) : Cond) ∈ lw_gd := List.mem_filter.mpr ⟨List.mem_append_right _ (List.mem_of_getElem? (i := 122) rfl), rfl⟩
set_option maxRecDepth 20000 in
theorem cod_S_length : (Cond.code y_S_length b_S_length 1 (some .int) : Cond) ∈ lw_gd := List.mem_filter.mpr ⟨List.mem_append_right _ (List.mem_of_getElem? (i := 132) rfl), rfl⟩
set_option maxRecDepth 20000 in
theorem cod_S_coder : (Cond.code y_S_coder b_S_coder 1 (some .byte) : Cond) ∈ lw_gd := List.mem_filter.mpr ⟨List.mem_append_right _ (List.mem_of_getElem? (i := 136) rfl), rfl⟩
set_option maxRecDepth 20000 in
theorem cod_S_charAt : (Cond.code y_S_charAt b_S_charAt 2 (some .char) : Cond) ∈ lw_gd := List.mem_filter.mpr ⟨List.mem_append_right _ (List.mem_of_getElem? (i := 142) rfl), rfl⟩
set_option maxRecDepth 20000 in
theorem cod_S_isLatin1 : (Cond.code y_S_isLatin1 b_S_isLatin1 1 (some .boolean) : Cond) ∈ lw_gd := List.mem_filter.mpr ⟨List.mem_append_right _ (List.mem_of_getElem? (i := 146) rfl), rfl⟩
set_option maxRecDepth 20000 in
theorem cod_T_charAt : (Cond.code y_T_charAt b_T_charAt 2 (some .char) : Cond) ∈ lw_gd := List.mem_filter.mpr ⟨List.mem_append_right _ (List.mem_of_getElem? (i := 149) rfl), rfl⟩
set_option maxRecDepth 20000 in
theorem cod_S_checkIndex : (Cond.code y_S_checkIndex b_S_checkIndex 2 none : Cond) ∈ lw_gd := List.mem_filter.mpr ⟨List.mem_append_right _ (List.mem_of_getElem? (i := 152) rfl), rfl⟩
set_option maxRecDepth 20000 in
theorem cod_Q_checkIndex : (Cond.code y_Q_checkIndex b_Q_checkIndex 3 (some .int) : Cond) ∈ lw_gd := List.mem_filter.mpr ⟨List.mem_append_right _ (List.mem_of_getElem? (i := 157) rfl), rfl⟩
set_option maxRecDepth 20000 in
theorem cod_L_allows : (Cond.code y_L_allows b_L_allows 2 (some .boolean) : Cond) ∈ lw_gd := List.mem_filter.mpr ⟨List.mem_append_right _ (List.mem_of_getElem? (i := 179) rfl), rfl⟩
set_option maxRecDepth 20000 in
theorem cod_L_endsStatement : (Cond.code y_L_endsStatement b_L_endsStatement 2 (some .boolean) : Cond) ∈ lw_gd := List.mem_filter.mpr ⟨List.mem_append_right _ (List.mem_of_getElem? (i := 183) rfl), rfl⟩
set_option maxRecDepth 20000 in
theorem cod_L_typedLiterals : (Cond.code y_L_typedLiterals b_L_typedLiterals 1 (some .int) : Cond) ∈ lw_gd := List.mem_filter.mpr ⟨List.mem_append_right _ (List.mem_of_getElem? (i := 187) rfl), rfl⟩
set_option maxRecDepth 20000 in
theorem cod_H_carryOutLine : (Cond.code y_H_carryOutLine b_H_carryOutLine 4 (some .int) : Cond) ∈ lw_gd := List.mem_filter.mpr ⟨List.mem_append_right _ (List.mem_of_getElem? (i := 191) rfl), rfl⟩
set_option maxRecDepth 20000 in
theorem cod_L_typedBody : (Cond.code y_L_typedBody b_L_typedBody 6 (some .int) : Cond) ∈ lw_gd := List.mem_filter.mpr ⟨List.mem_append_right _ (List.mem_of_getElem? (i := 196) rfl), rfl⟩
set_option maxRecDepth 20000 in
theorem cod_S_indexOf1 : (Cond.code y_S_indexOf1 b_S_indexOf1 2 (some .int) : Cond) ∈ lw_gd := List.mem_filter.mpr ⟨List.mem_append_right _ (List.mem_of_getElem? (i := 201) rfl), rfl⟩
set_option maxRecDepth 20000 in
theorem cod_S_indexOf2 : (Cond.code y_S_indexOf2 b_S_indexOf2 3 (some .int) : Cond) ∈ lw_gd := List.mem_filter.mpr ⟨List.mem_append_right _ (List.mem_of_getElem? (i := 205) rfl), rfl⟩
set_option maxRecDepth 20000 in
theorem cod_T_indexOf : (Cond.code y_T_indexOf b_T_indexOf 4 (some .int) : Cond) ∈ lw_gd := List.mem_filter.mpr ⟨List.mem_append_right _ (List.mem_of_getElem? (i := 209) rfl), rfl⟩
set_option maxRecDepth 20000 in
theorem cod_T_canEncode : (Cond.code y_T_canEncode b_T_canEncode 1 (some .boolean) : Cond) ∈ lw_gd := List.mem_filter.mpr ⟨List.mem_append_right _ (List.mem_of_getElem? (i := 212) rfl), rfl⟩
set_option maxRecDepth 20000 in
theorem cod_A_max : (Cond.code y_A_max b_A_max 2 (some .int) : Cond) ∈ lw_gd := List.mem_filter.mpr ⟨List.mem_append_right _ (List.mem_of_getElem? (i := 215) rfl), rfl⟩
set_option maxRecDepth 20000 in
theorem cod_A_min : (Cond.code y_A_min b_A_min 2 (some .int) : Cond) ∈ lw_gd := List.mem_filter.mpr ⟨List.mem_append_right _ (List.mem_of_getElem? (i := 218) rfl), rfl⟩
set_option maxRecDepth 20000 in
theorem cod_T_indexOfChar : (Cond.code y_T_indexOfChar b_T_indexOfChar 6 (some .int) : Cond) ∈ lw_gd := List.mem_filter.mpr ⟨List.mem_append_right _ (List.mem_of_getElem? (i := 221) rfl), rfl⟩
set_option maxRecDepth 20000 in
theorem cod_S_checkBoundsBeginEnd : (Cond.code y_S_checkBoundsBeginEnd b_S_checkBoundsBeginEnd 3 none : Cond) ∈ lw_gd := List.mem_filter.mpr ⟨List.mem_append_right _ (List.mem_of_getElem? (i := 236) rfl), rfl⟩
set_option maxRecDepth 20000 in
theorem cod_Q_checkFromToIndex : (Cond.code y_Q_checkFromToIndex b_Q_checkFromToIndex 4 (some .int) : Cond) ∈ lw_gd := List.mem_filter.mpr ⟨List.mem_append_right _ (List.mem_of_getElem? (i := 239) rfl), rfl⟩
set_option maxRecDepth 20000 in
theorem cod_H_codeOf : (Cond.code y_H_codeOf b_H_codeOf 3 (some .int) : Cond) ∈ lw_gd := List.mem_filter.mpr ⟨List.mem_append_right _ (List.mem_of_getElem? (i := 260) rfl), rfl⟩
set_option maxRecDepth 20000 in
theorem cod_H_addClause : (Cond.code y_H_addClause b_H_addClause 3 (some .int) : Cond) ∈ lw_gd := List.mem_filter.mpr ⟨List.mem_append_right _ (List.mem_of_getElem? (i := 265) rfl), rfl⟩
set_option maxRecDepth 20000 in
theorem cod_I_bitCount : (Cond.code y_I_bitCount b_I_bitCount 1 (some .int) : Cond) ∈ lw_gd := List.mem_filter.mpr ⟨List.mem_append_right _ (List.mem_of_getElem? (i := 268) rfl), rfl⟩
set_option maxRecDepth 20000 in
theorem cod_H_hasHeadVariables : (Cond.code y_H_hasHeadVariables b_H_hasHeadVariables 1 (some .boolean) : Cond) ∈ lw_gd := List.mem_filter.mpr ⟨List.mem_append_right _ (List.mem_of_getElem? (i := 274) rfl), rfl⟩
set_option maxRecDepth 20000 in
theorem cod_P_contains : (Cond.code y_P_contains b_P_contains 2 (some .boolean) : Cond) ∈ lw_gd := List.mem_filter.mpr ⟨List.mem_append_right _ (List.mem_of_getElem? (i := 280) rfl), rfl⟩
set_option maxRecDepth 20000 in
theorem cod_P_bodyOf : (Cond.code y_P_bodyOf b_P_bodyOf 2 (some .int) : Cond) ∈ lw_gd := List.mem_filter.mpr ⟨List.mem_append_right _ (List.mem_of_getElem? (i := 284) rfl), rfl⟩
set_option maxRecDepth 20000 in
theorem cod_P_append : (Cond.code y_P_append b_P_append 2 (some .int) : Cond) ∈ lw_gd := List.mem_filter.mpr ⟨List.mem_append_right _ (List.mem_of_getElem? (i := 288) rfl), rfl⟩
set_option maxRecDepth 20000 in
theorem cod_L_typedPair : (Cond.code y_L_typedPair b_L_typedPair 1 (some .int) : Cond) ∈ lw_gd := List.mem_filter.mpr ⟨List.mem_append_right _ (List.mem_of_getElem? (i := 292) rfl), rfl⟩
set_option maxRecDepth 20000 in
theorem cod_H_pairBit : (Cond.code y_H_pairBit b_H_pairBit 3 (some .int) : Cond) ∈ lw_gd := List.mem_filter.mpr ⟨List.mem_append_right _ (List.mem_of_getElem? (i := 295) rfl), rfl⟩
set_option maxRecDepth 20000 in
theorem cod_H_changeMarks : (Cond.code y_H_changeMarks b_H_changeMarks 4 (some .int) : Cond) ∈ lw_gd := List.mem_filter.mpr ⟨List.mem_append_right _ (List.mem_of_getElem? (i := 299) rfl), rfl⟩
set_option maxRecDepth 20000 in
theorem cod_H_changeFacts : (Cond.code y_H_changeFacts b_H_changeFacts 5 (some .int) : Cond) ∈ lw_gd := List.mem_filter.mpr ⟨List.mem_append_right _ (List.mem_of_getElem? (i := 305) rfl), rfl⟩
set_option maxRecDepth 20000 in
theorem cod_H_isFactRelation : (Cond.code y_H_isFactRelation b_H_isFactRelation 1 (some .boolean) : Cond) ∈ lw_gd := List.mem_filter.mpr ⟨List.mem_append_right _ (List.mem_of_getElem? (i := 308) rfl), rfl⟩
set_option maxRecDepth 20000 in
theorem cod_L_clear : (Cond.code y_L_clear b_L_clear 1 none : Cond) ∈ lw_gd := List.mem_filter.mpr ⟨List.mem_append_right _ (List.mem_of_getElem? (i := 312) rfl), rfl⟩
set_option maxRecDepth 20000 in
theorem cod_H_facts : (Cond.code y_H_facts b_H_facts 2 (some .int) : Cond) ∈ lw_gd := List.mem_filter.mpr ⟨List.mem_append_right _ (List.mem_of_getElem? (i := 317) rfl), rfl⟩
set_option maxRecDepth 20000 in
theorem cod_H_holds : (Cond.code y_H_holds b_H_holds 4 (some .boolean) : Cond) ∈ lw_gd := List.mem_filter.mpr ⟨List.mem_append_right _ (List.mem_of_getElem? (i := 321) rfl), rfl⟩
set_option maxRecDepth 20000 in
theorem cod_H_mark : (Cond.code y_H_mark b_H_mark 4 (some .int) : Cond) ∈ lw_gd := List.mem_filter.mpr ⟨List.mem_append_right _ (List.mem_of_getElem? (i := 326) rfl), rfl⟩
set_option maxRecDepth 20000 in
theorem cod_H_drop : (Cond.code y_H_drop b_H_drop 2 (some .boolean) : Cond) ∈ lw_gd := List.mem_filter.mpr ⟨List.mem_append_right _ (List.mem_of_getElem? (i := 330) rfl), rfl⟩
set_option maxRecDepth 20000 in
theorem cod_P_remove : (Cond.code y_P_remove b_P_remove 2 (some .boolean) : Cond) ∈ lw_gd := List.mem_filter.mpr ⟨List.mem_append_right _ (List.mem_of_getElem? (i := 334) rfl), rfl⟩
set_option maxRecDepth 20000 in
theorem cod_H_clauses : (Cond.code y_H_clauses b_H_clauses 1 (some .int) : Cond) ∈ lw_gd := List.mem_filter.mpr ⟨List.mem_append_right _ (List.mem_of_getElem? (i := 338) rfl), rfl⟩
set_option maxRecDepth 20000 in
theorem cod_H_literals : (Cond.code y_H_literals b_H_literals 3 (some .int) : Cond) ∈ lw_gd := List.mem_filter.mpr ⟨List.mem_append_right _ (List.mem_of_getElem? (i := 342) rfl), rfl⟩
set_option maxRecDepth 20000 in
theorem cod_H_literal : (Cond.code y_H_literal b_H_literal 3 (some .int) : Cond) ∈ lw_gd := List.mem_filter.mpr ⟨List.mem_append_right _ (List.mem_of_getElem? (i := 347) rfl), rfl⟩
set_option maxRecDepth 20000 in
theorem cod_H_codeAt : (Cond.code y_H_codeAt b_H_codeAt 4 (some .int) : Cond) ∈ lw_gd := List.mem_filter.mpr ⟨List.mem_append_right _ (List.mem_of_getElem? (i := 350) rfl), rfl⟩
set_option maxRecDepth 20000 in
theorem cod_H_withoutLeastCode : (Cond.code y_H_withoutLeastCode b_H_withoutLeastCode 1 (some .int) : Cond) ∈ lw_gd := List.mem_filter.mpr ⟨List.mem_append_right _ (List.mem_of_getElem? (i := 353) rfl), rfl⟩
set_option maxRecDepth 20000 in
theorem cod_H_leastCode : (Cond.code y_H_leastCode b_H_leastCode 1 (some .int) : Cond) ∈ lw_gd := List.mem_filter.mpr ⟨List.mem_append_right _ (List.mem_of_getElem? (i := 356) rfl), rfl⟩
set_option maxRecDepth 20000 in
theorem cod_H_letter : (Cond.code y_H_letter b_H_letter 2 (some .int) : Cond) ∈ lw_gd := List.mem_filter.mpr ⟨List.mem_append_right _ (List.mem_of_getElem? (i := 360) rfl), rfl⟩
set_option maxRecDepth 20000 in
theorem cod_P_letterAt : (Cond.code y_P_letterAt b_P_letterAt 5 (some .int) : Cond) ∈ lw_gd := List.mem_filter.mpr ⟨List.mem_append_right _ (List.mem_of_getElem? (i := 364) rfl), rfl⟩
set_option maxRecDepth 20000 in
theorem cod_P_textLength : (Cond.code y_P_textLength b_P_textLength 1 (some .int) : Cond) ∈ lw_gd := List.mem_filter.mpr ⟨List.mem_append_right _ (List.mem_of_getElem? (i := 367) rfl), rfl⟩
set_option maxRecDepth 20000 in
theorem cod_P_letterOf : (Cond.code y_P_letterOf b_P_letterOf 3 (some .int) : Cond) ∈ lw_gd := List.mem_filter.mpr ⟨List.mem_append_right _ (List.mem_of_getElem? (i := 371) rfl), rfl⟩
set_option maxRecDepth 20000 in
theorem cod_H_relationOf : (Cond.code y_H_relationOf b_H_relationOf 1 (some .int) : Cond) ∈ lw_gd := List.mem_filter.mpr ⟨List.mem_append_right _ (List.mem_of_getElem? (i := 378) rfl), rfl⟩
set_option maxRecDepth 20000 in
theorem cod_H_firstVariableOf : (Cond.code y_H_firstVariableOf b_H_firstVariableOf 1 (some .int) : Cond) ∈ lw_gd := List.mem_filter.mpr ⟨List.mem_append_right _ (List.mem_of_getElem? (i := 382) rfl), rfl⟩
set_option maxRecDepth 20000 in
theorem cod_H_secondVariableOf : (Cond.code y_H_secondVariableOf b_H_secondVariableOf 1 (some .int) : Cond) ∈ lw_gd := List.mem_filter.mpr ⟨List.mem_append_right _ (List.mem_of_getElem? (i := 385) rfl), rfl⟩
set_option maxRecDepth 20000 in
theorem cod_H_subsumes : (Cond.code y_H_subsumes b_H_subsumes 6 (some .boolean) : Cond) ∈ lw_gd := List.mem_filter.mpr ⟨List.mem_append_right _ (List.mem_of_getElem? (i := 389) rfl), rfl⟩
set_option maxRecDepth 20000 in
theorem cod_H_withVariableForZ : (Cond.code y_H_withVariableForZ b_H_withVariableForZ 8 (some .int) : Cond) ∈ lw_gd := List.mem_filter.mpr ⟨List.mem_append_right _ (List.mem_of_getElem? (i := 392) rfl), rfl⟩
set_option maxRecDepth 20000 in
theorem cod_H_given : (Cond.code y_H_given b_H_given 3 (some .int) : Cond) ∈ lw_gd := List.mem_filter.mpr ⟨List.mem_append_right _ (List.mem_of_getElem? (i := 400) rfl), rfl⟩
set_option maxRecDepth 20000 in
theorem cod_H_deduceProgram : (Cond.code y_H_deduceProgram b_H_deduceProgram 1 none : Cond) ∈ lw_gd := List.mem_filter.mpr ⟨List.mem_append_right _ (List.mem_of_getElem? (i := 404) rfl), rfl⟩
set_option maxRecDepth 20000 in
theorem cod_D_takeFacts : (Cond.code y_D_takeFacts b_D_takeFacts 5 none : Cond) ∈ lw_gd := List.mem_filter.mpr ⟨List.mem_append_right _ (List.mem_of_getElem? (i := 408) rfl), rfl⟩
set_option maxRecDepth 20000 in
theorem cod_D_choicesWhere : (Cond.code y_D_choicesWhere b_D_choicesWhere 6 (some .long) : Cond) ∈ lw_gd := List.mem_filter.mpr ⟨List.mem_append_right _ (List.mem_of_getElem? (i := 414) rfl), rfl⟩
set_option maxRecDepth 20000 in
theorem cod_D_run : (Cond.code y_D_run b_D_run 5 none : Cond) ∈ lw_gd := List.mem_filter.mpr ⟨List.mem_append_right _ (List.mem_of_getElem? (i := 420) rfl), rfl⟩
set_option maxRecDepth 20000 in
theorem cod_D_pairsFrom : (Cond.code y_D_pairsFrom b_D_pairsFrom 7 (some .int) : Cond) ∈ lw_gd := List.mem_filter.mpr ⟨List.mem_append_right _ (List.mem_of_getElem? (i := 424) rfl), rfl⟩
set_option maxRecDepth 20000 in
theorem cod_D_roundOf : (Cond.code y_D_roundOf b_D_roundOf 3 (some .int) : Cond) ∈ lw_gd := List.mem_filter.mpr ⟨List.mem_append_right _ (List.mem_of_getElem? (i := 432) rfl), rfl⟩
set_option maxRecDepth 20000 in
theorem cod_H_rounds : (Cond.code y_H_rounds b_H_rounds 1 (some .int) : Cond) ∈ lw_gd := List.mem_filter.mpr ⟨List.mem_append_right _ (List.mem_of_getElem? (i := 436) rfl), rfl⟩
set_option maxRecDepth 20000 in
theorem cod_H_fits : (Cond.code y_H_fits b_H_fits 1 (some .boolean) : Cond) ∈ lw_gd := List.mem_filter.mpr ⟨List.mem_append_right _ (List.mem_of_getElem? (i := 440) rfl), rfl⟩
set_option maxRecDepth 20000 in
theorem cod_H_deductionFits : (Cond.code y_H_deductionFits b_H_deductionFits 1 (some .boolean) : Cond) ∈ lw_gd := List.mem_filter.mpr ⟨List.mem_append_right _ (List.mem_of_getElem? (i := 444) rfl), rfl⟩
set_option maxRecDepth 20000 in
theorem cod_H_learn : (Cond.code y_H_learn b_H_learn 2 (some .int) : Cond) ∈ lw_gd := List.mem_filter.mpr ⟨List.mem_append_right _ (List.mem_of_getElem? (i := 448) rfl), rfl⟩
set_option maxRecDepth 20000 in
theorem cod_H_learnBody : (Cond.code y_H_learnBody b_H_learnBody 6 (some .boolean) : Cond) ∈ lw_gd := List.mem_filter.mpr ⟨List.mem_append_right _ (List.mem_of_getElem? (i := 451) rfl), rfl⟩
set_option maxRecDepth 20000 in
theorem cod_H_takeIfFitting : (Cond.code y_H_takeIfFitting b_H_takeIfFitting 3 (some .boolean) : Cond) ∈ lw_gd := List.mem_filter.mpr ⟨List.mem_append_right _ (List.mem_of_getElem? (i := 455) rfl), rfl⟩
set_option maxRecDepth 20000 in
theorem cod_P_become : (Cond.code y_P_become b_P_become 3 none : Cond) ∈ lw_gd := List.mem_filter.mpr ⟨List.mem_append_right _ (List.mem_of_getElem? (i := 459) rfl), rfl⟩
set_option maxRecDepth 20000 in
theorem cod_H_learnTwoClauses : (Cond.code y_H_learnTwoClauses b_H_learnTwoClauses 4 (some .boolean) : Cond) ∈ lw_gd := List.mem_filter.mpr ⟨List.mem_append_right _ (List.mem_of_getElem? (i := 463) rfl), rfl⟩
set_option maxRecDepth 20000 in
theorem cod_M_init : (Cond.code y_M_init b_M_init 1 none : Cond) ∈ lw_gd := List.mem_filter.mpr ⟨List.mem_append_right _ (List.mem_of_getElem? (i := 468) rfl), rfl⟩
set_option maxRecDepth 20000 in
theorem cod_M_key : (Cond.code y_M_key b_M_key 2 (some .boolean) : Cond) ∈ lw_gd := List.mem_filter.mpr ⟨List.mem_append_right _ (List.mem_of_getElem? (i := 520) rfl), rfl⟩
set_option maxRecDepth 20000 in
theorem cod_M_back : (Cond.code y_M_back b_M_back 1 (some .boolean) : Cond) ∈ lw_gd := List.mem_filter.mpr ⟨List.mem_append_right _ (List.mem_of_getElem? (i := 524) rfl), rfl⟩
set_option maxRecDepth 20000 in
theorem cod_M_enter : (Cond.code y_M_enter b_M_enter 5 (some .int) : Cond) ∈ lw_gd := List.mem_filter.mpr ⟨List.mem_append_right _ (List.mem_of_getElem? (i := 528) rfl), rfl⟩
set_option maxRecDepth 20000 in
theorem cod_M_fault : (Cond.code y_M_fault b_M_fault 2 (some .int) : Cond) ∈ lw_gd := List.mem_filter.mpr ⟨List.mem_append_right _ (List.mem_of_getElem? (i := 532) rfl), rfl⟩
set_option maxRecDepth 20000 in
theorem cod_M_goesOn : (Cond.code y_M_goesOn b_M_goesOn 4 (some .boolean) : Cond) ∈ lw_gd := List.mem_filter.mpr ⟨List.mem_append_right _ (List.mem_of_getElem? (i := 536) rfl), rfl⟩
set_option maxRecDepth 20000 in
theorem cod_M_isRelation : (Cond.code y_M_isRelation b_M_isRelation 1 (some .boolean) : Cond) ∈ lw_gd := List.mem_filter.mpr ⟨List.mem_append_right _ (List.mem_of_getElem? (i := 539) rfl), rfl⟩
set_option maxRecDepth 20000 in
theorem cod_M_head : (Cond.code y_M_head b_M_head 1 (some .int) : Cond) ∈ lw_gd := List.mem_filter.mpr ⟨List.mem_append_right _ (List.mem_of_getElem? (i := 542) rfl), rfl⟩
set_option maxRecDepth 20000 in
theorem cod_M_inBody : (Cond.code y_M_inBody b_M_inBody 3 (some .boolean) : Cond) ∈ lw_gd := List.mem_filter.mpr ⟨List.mem_append_right _ (List.mem_of_getElem? (i := 545) rfl), rfl⟩
set_option maxRecDepth 20000 in
theorem cod_M_isVariable : (Cond.code y_M_isVariable b_M_isVariable 1 (some .boolean) : Cond) ∈ lw_gd := List.mem_filter.mpr ⟨List.mem_append_right _ (List.mem_of_getElem? (i := 548) rfl), rfl⟩
set_option maxRecDepth 20000 in
theorem cod_M_argument : (Cond.code y_M_argument b_M_argument 2 (some .boolean) : Cond) ∈ lw_gd := List.mem_filter.mpr ⟨List.mem_append_right _ (List.mem_of_getElem? (i := 551) rfl), rfl⟩
set_option maxRecDepth 20000 in
theorem cod_M_isConstant : (Cond.code y_M_isConstant b_M_isConstant 1 (some .boolean) : Cond) ∈ lw_gd := List.mem_filter.mpr ⟨List.mem_append_right _ (List.mem_of_getElem? (i := 554) rfl), rfl⟩
set_option maxRecDepth 20000 in
theorem cod_M_whole : (Cond.code y_M_whole b_M_whole 2 (some .boolean) : Cond) ∈ lw_gd := List.mem_filter.mpr ⟨List.mem_append_right _ (List.mem_of_getElem? (i := 558) rfl), rfl⟩
set_option maxRecDepth 20000 in
theorem cod_M_enterClause : (Cond.code y_M_enterClause b_M_enterClause 4 (some .int) : Cond) ∈ lw_gd := List.mem_filter.mpr ⟨List.mem_append_right _ (List.mem_of_getElem? (i := 562) rfl), rfl⟩
set_option maxRecDepth 20000 in
theorem cod_M_readBody : (Cond.code y_M_readBody b_M_readBody 4 none : Cond) ∈ lw_gd := List.mem_filter.mpr ⟨List.mem_append_right _ (List.mem_of_getElem? (i := 566) rfl), rfl⟩
set_option maxRecDepth 20000 in
theorem cod_M_relationOf : (Cond.code y_M_relationOf b_M_relationOf 1 (some .int) : Cond) ∈ lw_gd := List.mem_filter.mpr ⟨List.mem_append_right _ (List.mem_of_getElem? (i := 569) rfl), rfl⟩
set_option maxRecDepth 20000 in
theorem cod_M_variables : (Cond.code y_M_variables b_M_variables 1 (some .int) : Cond) ∈ lw_gd := List.mem_filter.mpr ⟨List.mem_append_right _ (List.mem_of_getElem? (i := 572) rfl), rfl⟩
set_option maxRecDepth 20000 in
theorem cod_M_known : (Cond.code y_M_known b_M_known 4 (some .boolean) : Cond) ∈ lw_gd := List.mem_filter.mpr ⟨List.mem_append_right _ (List.mem_of_getElem? (i := 576) rfl), rfl⟩
set_option maxRecDepth 20000 in
theorem cod_M_enterMark : (Cond.code y_M_enterMark b_M_enterMark 4 (some .int) : Cond) ∈ lw_gd := List.mem_filter.mpr ⟨List.mem_append_right _ (List.mem_of_getElem? (i := 580) rfl), rfl⟩
set_option maxRecDepth 20000 in
theorem cod_M_enterFact : (Cond.code y_M_enterFact b_M_enterFact 4 (some .int) : Cond) ∈ lw_gd := List.mem_filter.mpr ⟨List.mem_append_right _ (List.mem_of_getElem? (i := 584) rfl), rfl⟩
set_option maxRecDepth 20000 in
theorem cod_M_facts : (Cond.code y_M_facts b_M_facts 4 (some .int) : Cond) ∈ lw_gd := List.mem_filter.mpr ⟨List.mem_append_right _ (List.mem_of_getElem? (i := 588) rfl), rfl⟩
set_option maxRecDepth 20000 in
theorem cod_M_holds : (Cond.code y_M_holds b_M_holds 4 (some .boolean) : Cond) ∈ lw_gd := List.mem_filter.mpr ⟨List.mem_append_right _ (List.mem_of_getElem? (i := 592) rfl), rfl⟩
set_option maxRecDepth 20000 in
theorem cod_M_constant : (Cond.code y_M_constant b_M_constant 1 (some .boolean) : Cond) ∈ lw_gd := List.mem_filter.mpr ⟨List.mem_append_right _ (List.mem_of_getElem? (i := 595) rfl), rfl⟩
set_option maxRecDepth 20000 in
theorem cod_M_mark : (Cond.code y_M_mark b_M_mark 3 (some .int) : Cond) ∈ lw_gd := List.mem_filter.mpr ⟨List.mem_append_right _ (List.mem_of_getElem? (i := 599) rfl), rfl⟩
set_option maxRecDepth 20000 in
theorem cod_M_drop : (Cond.code y_M_drop b_M_drop 3 (some .boolean) : Cond) ∈ lw_gd := List.mem_filter.mpr ⟨List.mem_append_right _ (List.mem_of_getElem? (i := 603) rfl), rfl⟩
set_option maxRecDepth 20000 in
theorem cod_M_clause : (Cond.code y_M_clause b_M_clause 2 (some .boolean) : Cond) ∈ lw_gd := List.mem_filter.mpr ⟨List.mem_append_right _ (List.mem_of_getElem? (i := 607) rfl), rfl⟩
set_option maxRecDepth 20000 in
theorem cod_M_clauses : (Cond.code y_M_clauses b_M_clauses 1 (some .int) : Cond) ∈ lw_gd := List.mem_filter.mpr ⟨List.mem_append_right _ (List.mem_of_getElem? (i := 611) rfl), rfl⟩
set_option maxRecDepth 20000 in
theorem cod_M_literals : (Cond.code y_M_literals b_M_literals 2 (some .int) : Cond) ∈ lw_gd := List.mem_filter.mpr ⟨List.mem_append_right _ (List.mem_of_getElem? (i := 615) rfl), rfl⟩
set_option maxRecDepth 20000 in
theorem cod_M_literal : (Cond.code y_M_literal b_M_literal 3 (some .int) : Cond) ∈ lw_gd := List.mem_filter.mpr ⟨List.mem_append_right _ (List.mem_of_getElem? (i := 619) rfl), rfl⟩
set_option maxRecDepth 20000 in
theorem cod_M_letter : (Cond.code y_M_letter b_M_letter 6 (some .int) : Cond) ∈ lw_gd := List.mem_filter.mpr ⟨List.mem_append_right _ (List.mem_of_getElem? (i := 623) rfl), rfl⟩
set_option maxRecDepth 20000 in
theorem cod_M_letterOf : (Cond.code y_M_letterOf b_M_letterOf 2 (some .int) : Cond) ∈ lw_gd := List.mem_filter.mpr ⟨List.mem_append_right _ (List.mem_of_getElem? (i := 626) rfl), rfl⟩
set_option maxRecDepth 20000 in
theorem cod_M_subsumes : (Cond.code y_M_subsumes b_M_subsumes 9 (some .boolean) : Cond) ∈ lw_gd := List.mem_filter.mpr ⟨List.mem_append_right _ (List.mem_of_getElem? (i := 630) rfl), rfl⟩
set_option maxRecDepth 20000 in
theorem cod_M_replaced : (Cond.code y_M_replaced b_M_replaced 4 (some .int) : Cond) ∈ lw_gd := List.mem_filter.mpr ⟨List.mem_append_right _ (List.mem_of_getElem? (i := 633) rfl), rfl⟩
set_option maxRecDepth 20000 in
theorem cod_M_given : (Cond.code y_M_given b_M_given 3 (some .int) : Cond) ∈ lw_gd := List.mem_filter.mpr ⟨List.mem_append_right _ (List.mem_of_getElem? (i := 637) rfl), rfl⟩
set_option maxRecDepth 20000 in
theorem cod_M_work : (Cond.code y_M_work b_M_work 3 none : Cond) ∈ lw_gd := List.mem_filter.mpr ⟨List.mem_append_right _ (List.mem_of_getElem? (i := 641) rfl), rfl⟩
set_option maxRecDepth 20000 in
theorem cod_M_follows : (Cond.code y_M_follows b_M_follows 7 (some .boolean) : Cond) ∈ lw_gd := List.mem_filter.mpr ⟨List.mem_append_right _ (List.mem_of_getElem? (i := 645) rfl), rfl⟩
set_option maxRecDepth 20000 in
theorem cod_M_literalHolds : (Cond.code y_M_literalHolds b_M_literalHolds 8 (some .boolean) : Cond) ∈ lw_gd := List.mem_filter.mpr ⟨List.mem_append_right _ (List.mem_of_getElem? (i := 649) rfl), rfl⟩
set_option maxRecDepth 20000 in
theorem cod_M_valueOf : (Cond.code y_M_valueOf b_M_valueOf 4 (some .int) : Cond) ∈ lw_gd := List.mem_filter.mpr ⟨List.mem_append_right _ (List.mem_of_getElem? (i := 652) rfl), rfl⟩
set_option maxRecDepth 20000 in
theorem cod_M_rounds : (Cond.code y_M_rounds b_M_rounds 1 (some .int) : Cond) ∈ lw_gd := List.mem_filter.mpr ⟨List.mem_append_right _ (List.mem_of_getElem? (i := 656) rfl), rfl⟩
set_option maxRecDepth 20000 in
theorem cod_M_fits : (Cond.code y_M_fits b_M_fits 3 (some .boolean) : Cond) ∈ lw_gd := List.mem_filter.mpr ⟨List.mem_append_right _ (List.mem_of_getElem? (i := 660) rfl), rfl⟩
set_option maxRecDepth 20000 in
theorem cod_M_learn : (Cond.code y_M_learn b_M_learn 2 (some .int) : Cond) ∈ lw_gd := List.mem_filter.mpr ⟨List.mem_append_right _ (List.mem_of_getElem? (i := 664) rfl), rfl⟩
set_option maxRecDepth 20000 in
theorem cod_M_keep : (Cond.code y_M_keep b_M_keep 2 none : Cond) ∈ lw_gd := List.mem_filter.mpr ⟨List.mem_append_right _ (List.mem_of_getElem? (i := 668) rfl), rfl⟩
set_option maxRecDepth 20000 in
theorem cod_M_alone : (Cond.code y_M_alone b_M_alone 6 (some .boolean) : Cond) ∈ lw_gd := List.mem_filter.mpr ⟨List.mem_append_right _ (List.mem_of_getElem? (i := 672) rfl), rfl⟩
set_option maxRecDepth 20000 in
theorem cod_M_set : (Cond.code y_M_set b_M_set 6 (some .boolean) : Cond) ∈ lw_gd := List.mem_filter.mpr ⟨List.mem_append_right _ (List.mem_of_getElem? (i := 676) rfl), rfl⟩
set_option maxRecDepth 20000 in
theorem cod_M_pair : (Cond.code y_M_pair b_M_pair 7 (some .boolean) : Cond) ∈ lw_gd := List.mem_filter.mpr ⟨List.mem_append_right _ (List.mem_of_getElem? (i := 681) rfl), rfl⟩
set_option maxRecDepth 20000 in
theorem cod_M_putBack : (Cond.code y_M_putBack b_M_putBack 2 none : Cond) ∈ lw_gd := List.mem_filter.mpr ⟨List.mem_append_right _ (List.mem_of_getElem? (i := 685) rfl), rfl⟩
end
section
theorem ini_W : (Cond.initialized "HornLearnerLaw" : Cond) ∈ lw_gd := List.mem_filter.mpr ⟨List.mem_append_right _ (List.mem_of_getElem? (i := 0) (by decide +kernel)), rfl⟩
theorem ini_H : (Cond.initialized R_H : Cond) ∈ lw_gd := List.mem_filter.mpr ⟨List.mem_append_right _ (List.mem_of_getElem? (i := 1) (by decide +kernel)), rfl⟩
theorem ini_L : (Cond.initialized R_L : Cond) ∈ lw_gd := List.mem_filter.mpr ⟨List.mem_append_right _ (List.mem_of_getElem? (i := 2) (by decide +kernel)), rfl⟩
theorem ini_P : (Cond.initialized R_P : Cond) ∈ lw_gd := List.mem_filter.mpr ⟨List.mem_append_right _ (List.mem_of_getElem? (i := 3) (by decide +kernel)), rfl⟩
theorem ini_D : (Cond.initialized R_D : Cond) ∈ lw_gd := List.mem_filter.mpr ⟨List.mem_append_right _ (List.mem_of_getElem? (i := 4) (by decide +kernel)), rfl⟩
theorem ini_M : (Cond.initialized R_M : Cond) ∈ lw_gd := List.mem_filter.mpr ⟨List.mem_append_right _ (List.mem_of_getElem? (i := 5) (by decide +kernel)), rfl⟩
theorem ini_S : (Cond.initialized R_S : Cond) ∈ lw_gd := List.mem_filter.mpr ⟨List.mem_append_right _ (List.mem_of_getElem? (i := 6) (by decide +kernel)), rfl⟩
theorem ini_T : (Cond.initialized R_T : Cond) ∈ lw_gd := List.mem_filter.mpr ⟨List.mem_append_right _ (List.mem_of_getElem? (i := 7) (by decide +kernel)), rfl⟩
theorem ini_Q : (Cond.initialized R_Q : Cond) ∈ lw_gd := List.mem_filter.mpr ⟨List.mem_append_right _ (List.mem_of_getElem? (i := 8) (by decide +kernel)), rfl⟩
theorem ini_U : (Cond.initialized "java/lang/StringUTF16" : Cond) ∈ lw_gd := List.mem_filter.mpr ⟨List.mem_append_right _ (List.mem_of_getElem? (i := 9) (by decide +kernel)), rfl⟩
theorem ini_A : (Cond.initialized R_A : Cond) ∈ lw_gd := List.mem_filter.mpr ⟨List.mem_append_right _ (List.mem_of_getElem? (i := 10) (by decide +kernel)), rfl⟩
theorem ini_C : (Cond.initialized "java/lang/Character" : Cond) ∈ lw_gd := List.mem_filter.mpr ⟨List.mem_append_right _ (List.mem_of_getElem? (i := 11) (by decide +kernel)), rfl⟩
theorem ini_I : (Cond.initialized R_I : Cond) ∈ lw_gd := List.mem_filter.mpr ⟨List.mem_append_right _ (List.mem_of_getElem? (i := 12) (by decide +kernel)), rfl⟩
theorem clk_W_7 : (Cond.classLink "HornLearnerLaw" 7 R_H : Cond) ∈ lw_gd := List.mem_filter.mpr ⟨List.mem_append_right _ (List.mem_of_getElem? (i := 13) (by decide +kernel)), rfl⟩
theorem itb_H : (Cond.instantiable R_H 6 : Cond) ∈ lw_gd := List.mem_filter.mpr ⟨List.mem_append_right _ (List.mem_of_getElem? (i := 14) (by decide +kernel)), rfl⟩
theorem mlk_W_9 : (Cond.methodLink "HornLearnerLaw" 9 y_H_init : Cond) ∈ lw_gd := List.mem_filter.mpr ⟨List.mem_append_right _ (List.mem_of_getElem? (i := 15) (by decide +kernel)), rfl⟩
theorem ins_H_init : (Cond.instanceMethod y_H_init : Cond) ∈ lw_gd := List.mem_filter.mpr ⟨List.mem_append_right _ (List.mem_of_getElem? (i := 16) (by decide +kernel)), rfl⟩
theorem mlk_H_3 : (Cond.methodLink R_H 3 objectInit : Cond) ∈ lw_gd := List.mem_filter.mpr ⟨List.mem_append_right _ (List.mem_of_getElem? (i := 18) (by decide +kernel)), rfl⟩
theorem ins_O_init : (Cond.instanceMethod objectInit : Cond) ∈ lw_gd := List.mem_filter.mpr ⟨List.mem_append_right _ (List.mem_of_getElem? (i := 19) (by decide +kernel)), rfl⟩
theorem clk_H_9 : (Cond.classLink R_H 9 R_L : Cond) ∈ lw_gd := List.mem_filter.mpr ⟨List.mem_append_right _ (List.mem_of_getElem? (i := 21) (by decide +kernel)), rfl⟩
theorem itb_L : (Cond.instantiable R_L 2 : Cond) ∈ lw_gd := List.mem_filter.mpr ⟨List.mem_append_right _ (List.mem_of_getElem? (i := 22) (by decide +kernel)), rfl⟩
theorem mlk_H_11 : (Cond.methodLink R_H 11 y_L_init : Cond) ∈ lw_gd := List.mem_filter.mpr ⟨List.mem_append_right _ (List.mem_of_getElem? (i := 23) (by decide +kernel)), rfl⟩
theorem ins_L_init : (Cond.instanceMethod y_L_init : Cond) ∈ lw_gd := List.mem_filter.mpr ⟨List.mem_append_right _ (List.mem_of_getElem? (i := 24) (by decide +kernel)), rfl⟩
theorem mlk_L_3 : (Cond.methodLink R_L 3 objectInit : Cond) ∈ lw_gd := List.mem_filter.mpr ⟨List.mem_append_right _ (List.mem_of_getElem? (i := 26) (by decide +kernel)), rfl⟩
theorem flk_L_11 : (Cond.fieldLink R_L 11 "HornLearner$Line" "typed" "[C" : Cond) ∈ lw_gd := List.mem_filter.mpr ⟨List.mem_append_right _ (List.mem_of_getElem? (i := 27) (by decide +kernel)), rfl⟩
theorem flk_L_15 : (Cond.fieldLink R_L 15 "HornLearner$Line" "length" "I" : Cond) ∈ lw_gd := List.mem_filter.mpr ⟨List.mem_append_right _ (List.mem_of_getElem? (i := 28) (by decide +kernel)), rfl⟩
theorem arc_char : (Cond.arrayClass .char : Cond) ∈ lw_gd := List.mem_filter.mpr ⟨List.mem_append_right _ (List.mem_of_getElem? (i := 34) (by decide +kernel)), rfl⟩
theorem clk_H_27 : (Cond.classLink R_H 27 R_P : Cond) ∈ lw_gd := List.mem_filter.mpr ⟨List.mem_append_right _ (List.mem_of_getElem? (i := 35) (by decide +kernel)), rfl⟩
theorem itb_P : (Cond.instantiable R_P 2 : Cond) ∈ lw_gd := List.mem_filter.mpr ⟨List.mem_append_right _ (List.mem_of_getElem? (i := 36) (by decide +kernel)), rfl⟩
theorem mlk_H_29 : (Cond.methodLink R_H 29 y_P_init : Cond) ∈ lw_gd := List.mem_filter.mpr ⟨List.mem_append_right _ (List.mem_of_getElem? (i := 37) (by decide +kernel)), rfl⟩
theorem ins_P_init : (Cond.instanceMethod y_P_init : Cond) ∈ lw_gd := List.mem_filter.mpr ⟨List.mem_append_right _ (List.mem_of_getElem? (i := 38) (by decide +kernel)), rfl⟩
theorem mlk_P_3 : (Cond.methodLink R_P 3 objectInit : Cond) ∈ lw_gd := List.mem_filter.mpr ⟨List.mem_append_right _ (List.mem_of_getElem? (i := 40) (by decide +kernel)), rfl⟩
theorem flk_P_9 : (Cond.fieldLink R_P 9 "HornLearner$Program" "bodies" "[I" : Cond) ∈ lw_gd := List.mem_filter.mpr ⟨List.mem_append_right _ (List.mem_of_getElem? (i := 41) (by decide +kernel)), rfl⟩
theorem flk_P_15 : (Cond.fieldLink R_P 15 "HornLearner$Program" "count" "I" : Cond) ∈ lw_gd := List.mem_filter.mpr ⟨List.mem_append_right _ (List.mem_of_getElem? (i := 42) (by decide +kernel)), rfl⟩
theorem flk_H_79 : (Cond.fieldLink R_H 79 "HornLearner$Program" "count" "I" : Cond) ∈ lw_gd := List.mem_filter.mpr ⟨List.mem_append_right _ (List.mem_of_getElem? (i := 43) (by decide +kernel)), rfl⟩
theorem arc_int : (Cond.arrayClass .int : Cond) ∈ lw_gd := List.mem_filter.mpr ⟨List.mem_append_right _ (List.mem_of_getElem? (i := 49) (by decide +kernel)), rfl⟩
theorem clk_H_34 : (Cond.classLink R_H 34 R_D : Cond) ∈ lw_gd := List.mem_filter.mpr ⟨List.mem_append_right _ (List.mem_of_getElem? (i := 50) (by decide +kernel)), rfl⟩
theorem itb_D : (Cond.instantiable R_D 4 : Cond) ∈ lw_gd := List.mem_filter.mpr ⟨List.mem_append_right _ (List.mem_of_getElem? (i := 51) (by decide +kernel)), rfl⟩
theorem mlk_H_36 : (Cond.methodLink R_H 36 y_D_init : Cond) ∈ lw_gd := List.mem_filter.mpr ⟨List.mem_append_right _ (List.mem_of_getElem? (i := 52) (by decide +kernel)), rfl⟩
theorem ins_D_init : (Cond.instanceMethod y_D_init : Cond) ∈ lw_gd := List.mem_filter.mpr ⟨List.mem_append_right _ (List.mem_of_getElem? (i := 53) (by decide +kernel)), rfl⟩
theorem mlk_D_3 : (Cond.methodLink R_D 3 objectInit : Cond) ∈ lw_gd := List.mem_filter.mpr ⟨List.mem_append_right _ (List.mem_of_getElem? (i := 55) (by decide +kernel)), rfl⟩
theorem flk_D_9 : (Cond.fieldLink R_D 9 "HornLearner$Deduction" "factChoices" "[J" : Cond) ∈ lw_gd := List.mem_filter.mpr ⟨List.mem_append_right _ (List.mem_of_getElem? (i := 56) (by decide +kernel)), rfl⟩
theorem flk_D_15 : (Cond.fieldLink R_D 15 "HornLearner$Deduction" "givenInRound" "[I" : Cond) ∈ lw_gd := List.mem_filter.mpr ⟨List.mem_append_right _ (List.mem_of_getElem? (i := 57) (by decide +kernel)), rfl⟩
theorem flk_D_19 : (Cond.fieldLink R_D 19 "HornLearner$Deduction" "givenPairs" "I" : Cond) ∈ lw_gd := List.mem_filter.mpr ⟨List.mem_append_right _ (List.mem_of_getElem? (i := 58) (by decide +kernel)), rfl⟩
theorem flk_H_159 : (Cond.fieldLink R_H 159 "HornLearner$Deduction" "givenPairs" "I" : Cond) ∈ lw_gd := List.mem_filter.mpr ⟨List.mem_append_right _ (List.mem_of_getElem? (i := 59) (by decide +kernel)), rfl⟩
theorem flk_D_23 : (Cond.fieldLink R_D 23 "HornLearner$Deduction" "roundCount" "I" : Cond) ∈ lw_gd := List.mem_filter.mpr ⟨List.mem_append_right _ (List.mem_of_getElem? (i := 60) (by decide +kernel)), rfl⟩
theorem flk_H_100 : (Cond.fieldLink R_H 100 "HornLearner$Deduction" "roundCount" "I" : Cond) ∈ lw_gd := List.mem_filter.mpr ⟨List.mem_append_right _ (List.mem_of_getElem? (i := 61) (by decide +kernel)), rfl⟩
theorem arc_long : (Cond.arrayClass .long : Cond) ∈ lw_gd := List.mem_filter.mpr ⟨List.mem_append_right _ (List.mem_of_getElem? (i := 71) (by decide +kernel)), rfl⟩
theorem flk_H_12 : (Cond.fieldLink R_H 12 "HornLearner" "line" "LHornLearner$Line;" : Cond) ∈ lw_gd := List.mem_filter.mpr ⟨List.mem_append_right _ (List.mem_of_getElem? (i := 72) (by decide +kernel)), rfl⟩
theorem flk_H_16 : (Cond.fieldLink R_H 16 "HornLearner" "factSets" "[I" : Cond) ∈ lw_gd := List.mem_filter.mpr ⟨List.mem_append_right _ (List.mem_of_getElem? (i := 73) (by decide +kernel)), rfl⟩
theorem flk_H_20 : (Cond.fieldLink R_H 20 "HornLearner" "markedPlus" "I" : Cond) ∈ lw_gd := List.mem_filter.mpr ⟨List.mem_append_right _ (List.mem_of_getElem? (i := 74) (by decide +kernel)), rfl⟩
theorem flk_H_24 : (Cond.fieldLink R_H 24 "HornLearner" "markedMinus" "I" : Cond) ∈ lw_gd := List.mem_filter.mpr ⟨List.mem_append_right _ (List.mem_of_getElem? (i := 75) (by decide +kernel)), rfl⟩
theorem flk_H_30 : (Cond.fieldLink R_H 30 "HornLearner" "program" "LHornLearner$Program;" : Cond) ∈ lw_gd := List.mem_filter.mpr ⟨List.mem_append_right _ (List.mem_of_getElem? (i := 76) (by decide +kernel)), rfl⟩
theorem flk_H_37 : (Cond.fieldLink R_H 37 "HornLearner" "deduction" "LHornLearner$Deduction;" : Cond) ∈ lw_gd := List.mem_filter.mpr ⟨List.mem_append_right _ (List.mem_of_getElem? (i := 77) (by decide +kernel)), rfl⟩
theorem mlk_W_13 : (Cond.methodLink "HornLearnerLaw" 13 y_H_key : Cond) ∈ lw_gd := List.mem_filter.mpr ⟨List.mem_append_right _ (List.mem_of_getElem? (i := 91) (by decide +kernel)), rfl⟩
theorem ins_H_key : (Cond.instanceMethod y_H_key : Cond) ∈ lw_gd := List.mem_filter.mpr ⟨List.mem_append_right _ (List.mem_of_getElem? (i := 92) (by decide +kernel)), rfl⟩
theorem sel_H_key : (Cond.selects R_H y_H_key y_H_key : Cond) ∈ lw_gd := List.mem_filter.mpr ⟨List.mem_append_right _ (List.mem_of_getElem? (i := 93) (by decide +kernel)), rfl⟩
theorem mlk_H_41 : (Cond.methodLink R_H 41 y_L_add : Cond) ∈ lw_gd := List.mem_filter.mpr ⟨List.mem_append_right _ (List.mem_of_getElem? (i := 95) (by decide +kernel)), rfl⟩
theorem ins_L_add : (Cond.instanceMethod y_L_add : Cond) ∈ lw_gd := List.mem_filter.mpr ⟨List.mem_append_right _ (List.mem_of_getElem? (i := 96) (by decide +kernel)), rfl⟩
theorem sel_L_add : (Cond.selects R_L y_L_add y_L_add : Cond) ∈ lw_gd := List.mem_filter.mpr ⟨List.mem_append_right _ (List.mem_of_getElem? (i := 97) (by decide +kernel)), rfl⟩
theorem mlk_W_18 : (Cond.methodLink "HornLearnerLaw" 18 y_H_back : Cond) ∈ lw_gd := List.mem_filter.mpr ⟨List.mem_append_right _ (List.mem_of_getElem? (i := 99) (by decide +kernel)), rfl⟩
theorem ins_H_back : (Cond.instanceMethod y_H_back : Cond) ∈ lw_gd := List.mem_filter.mpr ⟨List.mem_append_right _ (List.mem_of_getElem? (i := 100) (by decide +kernel)), rfl⟩
theorem sel_H_back : (Cond.selects R_H y_H_back y_H_back : Cond) ∈ lw_gd := List.mem_filter.mpr ⟨List.mem_append_right _ (List.mem_of_getElem? (i := 101) (by decide +kernel)), rfl⟩
theorem mlk_H_45 : (Cond.methodLink R_H 45 y_L_removeLast : Cond) ∈ lw_gd := List.mem_filter.mpr ⟨List.mem_append_right _ (List.mem_of_getElem? (i := 103) (by decide +kernel)), rfl⟩
theorem ins_L_removeLast : (Cond.instanceMethod y_L_removeLast : Cond) ∈ lw_gd := List.mem_filter.mpr ⟨List.mem_append_right _ (List.mem_of_getElem? (i := 104) (by decide +kernel)), rfl⟩
theorem sel_L_removeLast : (Cond.selects R_L y_L_removeLast y_L_removeLast : Cond) ∈ lw_gd := List.mem_filter.mpr ⟨List.mem_append_right _ (List.mem_of_getElem? (i := 105) (by decide +kernel)), rfl⟩
theorem mlk_W_23 : (Cond.methodLink "HornLearnerLaw" 23 y_H_enter : Cond) ∈ lw_gd := List.mem_filter.mpr ⟨List.mem_append_right _ (List.mem_of_getElem? (i := 107) (by decide +kernel)), rfl⟩
theorem ins_H_enter : (Cond.instanceMethod y_H_enter : Cond) ∈ lw_gd := List.mem_filter.mpr ⟨List.mem_append_right _ (List.mem_of_getElem? (i := 108) (by decide +kernel)), rfl⟩
theorem sel_H_enter : (Cond.selects R_H y_H_enter y_H_enter : Cond) ∈ lw_gd := List.mem_filter.mpr ⟨List.mem_append_right _ (List.mem_of_getElem? (i := 109) (by decide +kernel)), rfl⟩
theorem mlk_H_49 : (Cond.methodLink R_H 49 y_L_begunStatement : Cond) ∈ lw_gd := List.mem_filter.mpr ⟨List.mem_append_right _ (List.mem_of_getElem? (i := 111) (by decide +kernel)), rfl⟩
theorem ins_L_begunStatement : (Cond.instanceMethod y_L_begunStatement : Cond) ∈ lw_gd := List.mem_filter.mpr ⟨List.mem_append_right _ (List.mem_of_getElem? (i := 112) (by decide +kernel)), rfl⟩
theorem sel_L_begunStatement : (Cond.selects R_L y_L_begunStatement y_L_begunStatement : Cond) ∈ lw_gd := List.mem_filter.mpr ⟨List.mem_append_right _ (List.mem_of_getElem? (i := 113) (by decide +kernel)), rfl⟩
theorem mlk_L_19 : (Cond.methodLink R_L 19 y_L_form : Cond) ∈ lw_gd := List.mem_filter.mpr ⟨List.mem_append_right _ (List.mem_of_getElem? (i := 115) (by decide +kernel)), rfl⟩
theorem ins_L_form : (Cond.instanceMethod y_L_form : Cond) ∈ lw_gd := List.mem_filter.mpr ⟨List.mem_append_right _ (List.mem_of_getElem? (i := 117) (by decide +kernel)), rfl⟩
theorem mlk_L_39 : (Cond.methodLink R_L 39 y_L_at : Cond) ∈ lw_gd := List.mem_filter.mpr ⟨List.mem_append_right _ (List.mem_of_getElem? (i := 119) (by decide +kernel)), rfl⟩
theorem ins_L_at : (Cond.instanceMethod y_L_at : Cond) ∈ lw_gd := List.mem_filter.mpr ⟨List.mem_append_right _ (List.mem_of_getElem? (i := 120) (by decide +kernel)), rfl⟩
theorem sel_L_at : (Cond.selects R_L y_L_at y_L_at : Cond) ∈ lw_gd := List.mem_filter.mpr ⟨List.mem_append_right _ (List.mem_of_getElem? (i := 121) (by decide +kernel)), rfl⟩
theorem str_L_58 : (Cond.stringRef R_L 58 "f(c,c)" : Cond) ∈ lw_tbl := List.mem_append_right _ (List.mem_of_getElem? (i := 123) (by decide +kernel))
theorem str_L_60 : (Cond.stringRef R_L 60 "~r(c,c)" : Cond) ∈ lw_tbl := List.mem_append_right _ (List.mem_of_getElem? (i := 124) (by decide +kernel))
theorem str_L_62 : (Cond.stringRef R_L 62 "+t(c,c)" : Cond) ∈ lw_tbl := List.mem_append_right _ (List.mem_of_getElem? (i := 125) (by decide +kernel))
theorem str_L_64 : (Cond.stringRef R_L 64 "-t(c,c)" : Cond) ∈ lw_tbl := List.mem_append_right _ (List.mem_of_getElem? (i := 126) (by decide +kernel))
theorem str_L_66 : (Cond.stringRef R_L 66 "t(X,Y):-r(v,v),r(v,v),r(v,v)" : Cond) ∈ lw_tbl := List.mem_append_right _ (List.mem_of_getElem? (i := 127) (by decide +kernel))
theorem str_L_68 : (Cond.stringRef R_L 68 "" : Cond) ∈ lw_tbl := List.mem_append_right _ (List.mem_of_getElem? (i := 128) (by decide +kernel))
theorem mlk_L_23 : (Cond.methodLink R_L 23 y_S_length : Cond) ∈ lw_gd := List.mem_filter.mpr ⟨List.mem_append_right _ (List.mem_of_getElem? (i := 129) (by decide +kernel)), rfl⟩
theorem ins_S_length : (Cond.instanceMethod y_S_length : Cond) ∈ lw_gd := List.mem_filter.mpr ⟨List.mem_append_right _ (List.mem_of_getElem? (i := 130) (by decide +kernel)), rfl⟩
theorem sel_S_length : (Cond.selects R_S y_S_length y_S_length : Cond) ∈ lw_gd := List.mem_filter.mpr ⟨List.mem_append_right _ (List.mem_of_getElem? (i := 131) (by decide +kernel)), rfl⟩
theorem mlk_S_335 : (Cond.methodLink R_S 335 y_S_coder : Cond) ∈ lw_gd := List.mem_filter.mpr ⟨List.mem_append_right _ (List.mem_of_getElem? (i := 133) (by decide +kernel)), rfl⟩
theorem ins_S_coder : (Cond.instanceMethod y_S_coder : Cond) ∈ lw_gd := List.mem_filter.mpr ⟨List.mem_append_right _ (List.mem_of_getElem? (i := 134) (by decide +kernel)), rfl⟩
theorem sel_S_coder : (Cond.selects R_S y_S_coder y_S_coder : Cond) ∈ lw_gd := List.mem_filter.mpr ⟨List.mem_append_right _ (List.mem_of_getElem? (i := 135) (by decide +kernel)), rfl⟩
theorem flk_S_38 : (Cond.fieldLink R_S 38 "java/lang/String" "COMPACT_STRINGS" "Z" : Cond) ∈ lw_gd := List.mem_filter.mpr ⟨List.mem_append_right _ (List.mem_of_getElem? (i := 137) (by decide +kernel)), rfl⟩
theorem lst_138 : (Cond.laysStatic "java/lang/String" "COMPACT_STRINGS" "Z" : Cond) ∈ lw_tbl := List.mem_append_right _ (List.mem_of_getElem? (i := 138) (by decide +kernel))
theorem mlk_L_28 : (Cond.methodLink R_L 28 y_S_charAt : Cond) ∈ lw_gd := List.mem_filter.mpr ⟨List.mem_append_right _ (List.mem_of_getElem? (i := 139) (by decide +kernel)), rfl⟩
theorem ins_S_charAt : (Cond.instanceMethod y_S_charAt : Cond) ∈ lw_gd := List.mem_filter.mpr ⟨List.mem_append_right _ (List.mem_of_getElem? (i := 140) (by decide +kernel)), rfl⟩
theorem sel_S_charAt : (Cond.selects R_S y_S_charAt y_S_charAt : Cond) ∈ lw_gd := List.mem_filter.mpr ⟨List.mem_append_right _ (List.mem_of_getElem? (i := 141) (by decide +kernel)), rfl⟩
theorem mlk_S_492 : (Cond.methodLink R_S 492 y_S_isLatin1 : Cond) ∈ lw_gd := List.mem_filter.mpr ⟨List.mem_append_right _ (List.mem_of_getElem? (i := 143) (by decide +kernel)), rfl⟩
theorem ins_S_isLatin1 : (Cond.instanceMethod y_S_isLatin1 : Cond) ∈ lw_gd := List.mem_filter.mpr ⟨List.mem_append_right _ (List.mem_of_getElem? (i := 144) (by decide +kernel)), rfl⟩
theorem sel_S_isLatin1 : (Cond.selects R_S y_S_isLatin1 y_S_isLatin1 : Cond) ∈ lw_gd := List.mem_filter.mpr ⟨List.mem_append_right _ (List.mem_of_getElem? (i := 145) (by decide +kernel)), rfl⟩
theorem mlk_S_495 : (Cond.methodLink R_S 495 y_T_charAt : Cond) ∈ lw_gd := List.mem_filter.mpr ⟨List.mem_append_right _ (List.mem_of_getElem? (i := 147) (by decide +kernel)), rfl⟩
theorem sta_T_charAt : (Cond.static y_T_charAt : Cond) ∈ lw_gd := List.mem_filter.mpr ⟨List.mem_append_right _ (List.mem_of_getElem? (i := 148) (by decide +kernel)), rfl⟩
theorem mlk_T_9 : (Cond.methodLink R_T 9 y_S_checkIndex : Cond) ∈ lw_gd := List.mem_filter.mpr ⟨List.mem_append_right _ (List.mem_of_getElem? (i := 150) (by decide +kernel)), rfl⟩
theorem sta_S_checkIndex : (Cond.static y_S_checkIndex : Cond) ∈ lw_gd := List.mem_filter.mpr ⟨List.mem_append_right _ (List.mem_of_getElem? (i := 151) (by decide +kernel)), rfl⟩
theorem flk_S_1053 : (Cond.fieldLink R_S 1053 "jdk/internal/util/Preconditions" "SIOOBE_FORMATTER" "Ljava/util/function/BiFunction;" : Cond) ∈ lw_gd := List.mem_filter.mpr ⟨List.mem_append_right _ (List.mem_of_getElem? (i := 153) (by decide +kernel)), rfl⟩
theorem lst_154 : (Cond.laysStatic "jdk/internal/util/Preconditions" "SIOOBE_FORMATTER" "Ljava/util/function/BiFunction;" : Cond) ∈ lw_tbl := List.mem_append_right _ (List.mem_of_getElem? (i := 154) (by decide +kernel))
theorem mlk_S_1059 : (Cond.methodLink R_S 1059 y_Q_checkIndex : Cond) ∈ lw_gd := List.mem_filter.mpr ⟨List.mem_append_right _ (List.mem_of_getElem? (i := 155) (by decide +kernel)), rfl⟩
theorem sta_Q_checkIndex : (Cond.static y_Q_checkIndex : Cond) ∈ lw_gd := List.mem_filter.mpr ⟨List.mem_append_right _ (List.mem_of_getElem? (i := 156) (by decide +kernel)), rfl⟩
theorem lst_172 : (Cond.laysStatic "java/lang/StringUTF16" "$assertionsDisabled" "Z" : Cond) ∈ lw_tbl := List.mem_append_right _ (List.mem_of_getElem? (i := 172) (by decide +kernel))
theorem lst_174 : (Cond.laysStatic "java/lang/StringUTF16" "HI_BYTE_SHIFT" "I" : Cond) ∈ lw_tbl := List.mem_append_right _ (List.mem_of_getElem? (i := 174) (by decide +kernel))
theorem lst_176 : (Cond.laysStatic "java/lang/StringUTF16" "LO_BYTE_SHIFT" "I" : Cond) ∈ lw_tbl := List.mem_append_right _ (List.mem_of_getElem? (i := 176) (by decide +kernel))
theorem mlk_L_32 : (Cond.methodLink R_L 32 y_L_allows : Cond) ∈ lw_gd := List.mem_filter.mpr ⟨List.mem_append_right _ (List.mem_of_getElem? (i := 177) (by decide +kernel)), rfl⟩
theorem sta_L_allows : (Cond.static y_L_allows : Cond) ∈ lw_gd := List.mem_filter.mpr ⟨List.mem_append_right _ (List.mem_of_getElem? (i := 178) (by decide +kernel)), rfl⟩
theorem mlk_H_53 : (Cond.methodLink R_H 53 y_L_endsStatement : Cond) ∈ lw_gd := List.mem_filter.mpr ⟨List.mem_append_right _ (List.mem_of_getElem? (i := 180) (by decide +kernel)), rfl⟩
theorem ins_L_endsStatement : (Cond.instanceMethod y_L_endsStatement : Cond) ∈ lw_gd := List.mem_filter.mpr ⟨List.mem_append_right _ (List.mem_of_getElem? (i := 181) (by decide +kernel)), rfl⟩
theorem sel_L_endsStatement : (Cond.selects R_L y_L_endsStatement y_L_endsStatement : Cond) ∈ lw_gd := List.mem_filter.mpr ⟨List.mem_append_right _ (List.mem_of_getElem? (i := 182) (by decide +kernel)), rfl⟩
theorem mlk_L_36 : (Cond.methodLink R_L 36 y_L_typedLiterals : Cond) ∈ lw_gd := List.mem_filter.mpr ⟨List.mem_append_right _ (List.mem_of_getElem? (i := 184) (by decide +kernel)), rfl⟩
theorem ins_L_typedLiterals : (Cond.instanceMethod y_L_typedLiterals : Cond) ∈ lw_gd := List.mem_filter.mpr ⟨List.mem_append_right _ (List.mem_of_getElem? (i := 185) (by decide +kernel)), rfl⟩
theorem sel_L_typedLiterals : (Cond.selects R_L y_L_typedLiterals y_L_typedLiterals : Cond) ∈ lw_gd := List.mem_filter.mpr ⟨List.mem_append_right _ (List.mem_of_getElem? (i := 186) (by decide +kernel)), rfl⟩
theorem mlk_H_57 : (Cond.methodLink R_H 57 y_H_carryOutLine : Cond) ∈ lw_gd := List.mem_filter.mpr ⟨List.mem_append_right _ (List.mem_of_getElem? (i := 188) (by decide +kernel)), rfl⟩
theorem ins_H_carryOutLine : (Cond.instanceMethod y_H_carryOutLine : Cond) ∈ lw_gd := List.mem_filter.mpr ⟨List.mem_append_right _ (List.mem_of_getElem? (i := 190) (by decide +kernel)), rfl⟩
theorem mlk_H_117 : (Cond.methodLink R_H 117 y_L_at : Cond) ∈ lw_gd := List.mem_filter.mpr ⟨List.mem_append_right _ (List.mem_of_getElem? (i := 192) (by decide +kernel)), rfl⟩
theorem mlk_H_121 : (Cond.methodLink R_H 121 y_L_typedBody : Cond) ∈ lw_gd := List.mem_filter.mpr ⟨List.mem_append_right _ (List.mem_of_getElem? (i := 193) (by decide +kernel)), rfl⟩
theorem ins_L_typedBody : (Cond.instanceMethod y_L_typedBody : Cond) ∈ lw_gd := List.mem_filter.mpr ⟨List.mem_append_right _ (List.mem_of_getElem? (i := 194) (by decide +kernel)), rfl⟩
theorem sel_L_typedBody : (Cond.selects R_L y_L_typedBody y_L_typedBody : Cond) ∈ lw_gd := List.mem_filter.mpr ⟨List.mem_append_right _ (List.mem_of_getElem? (i := 195) (by decide +kernel)), rfl⟩
theorem str_L_46 : (Cond.stringRef R_L 46 "abt" : Cond) ∈ lw_tbl := List.mem_append_right _ (List.mem_of_getElem? (i := 197) (by decide +kernel))
theorem mlk_L_48 : (Cond.methodLink R_L 48 y_S_indexOf1 : Cond) ∈ lw_gd := List.mem_filter.mpr ⟨List.mem_append_right _ (List.mem_of_getElem? (i := 198) (by decide +kernel)), rfl⟩
theorem ins_S_indexOf1 : (Cond.instanceMethod y_S_indexOf1 : Cond) ∈ lw_gd := List.mem_filter.mpr ⟨List.mem_append_right _ (List.mem_of_getElem? (i := 199) (by decide +kernel)), rfl⟩
theorem sel_S_indexOf1 : (Cond.selects R_S y_S_indexOf1 y_S_indexOf1 : Cond) ∈ lw_gd := List.mem_filter.mpr ⟨List.mem_append_right _ (List.mem_of_getElem? (i := 200) (by decide +kernel)), rfl⟩
theorem mlk_S_633 : (Cond.methodLink R_S 633 y_S_indexOf2 : Cond) ∈ lw_gd := List.mem_filter.mpr ⟨List.mem_append_right _ (List.mem_of_getElem? (i := 202) (by decide +kernel)), rfl⟩
theorem ins_S_indexOf2 : (Cond.instanceMethod y_S_indexOf2 : Cond) ∈ lw_gd := List.mem_filter.mpr ⟨List.mem_append_right _ (List.mem_of_getElem? (i := 203) (by decide +kernel)), rfl⟩
theorem sel_S_indexOf2 : (Cond.selects R_S y_S_indexOf2 y_S_indexOf2 : Cond) ∈ lw_gd := List.mem_filter.mpr ⟨List.mem_append_right _ (List.mem_of_getElem? (i := 204) (by decide +kernel)), rfl⟩
theorem mlk_S_505 : (Cond.methodLink R_S 505 y_S_length : Cond) ∈ lw_gd := List.mem_filter.mpr ⟨List.mem_append_right _ (List.mem_of_getElem? (i := 206) (by decide +kernel)), rfl⟩
theorem mlk_S_637 : (Cond.methodLink R_S 637 y_T_indexOf : Cond) ∈ lw_gd := List.mem_filter.mpr ⟨List.mem_append_right _ (List.mem_of_getElem? (i := 207) (by decide +kernel)), rfl⟩
theorem sta_T_indexOf : (Cond.static y_T_indexOf : Cond) ∈ lw_gd := List.mem_filter.mpr ⟨List.mem_append_right _ (List.mem_of_getElem? (i := 208) (by decide +kernel)), rfl⟩
theorem mlk_T_88 : (Cond.methodLink R_T 88 y_T_canEncode : Cond) ∈ lw_gd := List.mem_filter.mpr ⟨List.mem_append_right _ (List.mem_of_getElem? (i := 210) (by decide +kernel)), rfl⟩
theorem sta_T_canEncode : (Cond.static y_T_canEncode : Cond) ∈ lw_gd := List.mem_filter.mpr ⟨List.mem_append_right _ (List.mem_of_getElem? (i := 211) (by decide +kernel)), rfl⟩
theorem mlk_T_92 : (Cond.methodLink R_T 92 y_A_max : Cond) ∈ lw_gd := List.mem_filter.mpr ⟨List.mem_append_right _ (List.mem_of_getElem? (i := 213) (by decide +kernel)), rfl⟩
theorem sta_A_max : (Cond.static y_A_max : Cond) ∈ lw_gd := List.mem_filter.mpr ⟨List.mem_append_right _ (List.mem_of_getElem? (i := 214) (by decide +kernel)), rfl⟩
theorem mlk_T_38 : (Cond.methodLink R_T 38 y_A_min : Cond) ∈ lw_gd := List.mem_filter.mpr ⟨List.mem_append_right _ (List.mem_of_getElem? (i := 216) (by decide +kernel)), rfl⟩
theorem sta_A_min : (Cond.static y_A_min : Cond) ∈ lw_gd := List.mem_filter.mpr ⟨List.mem_append_right _ (List.mem_of_getElem? (i := 217) (by decide +kernel)), rfl⟩
theorem mlk_T_95 : (Cond.methodLink R_T 95 y_T_indexOfChar : Cond) ∈ lw_gd := List.mem_filter.mpr ⟨List.mem_append_right _ (List.mem_of_getElem? (i := 219) (by decide +kernel)), rfl⟩
theorem sta_T_indexOfChar : (Cond.static y_T_indexOfChar : Cond) ∈ lw_gd := List.mem_filter.mpr ⟨List.mem_append_right _ (List.mem_of_getElem? (i := 220) (by decide +kernel)), rfl⟩
theorem sta_S_checkBoundsBeginEnd : (Cond.static y_S_checkBoundsBeginEnd : Cond) ∈ lw_gd := List.mem_filter.mpr ⟨List.mem_append_right _ (List.mem_of_getElem? (i := 235) (by decide +kernel)), rfl⟩
theorem mlk_S_1062 : (Cond.methodLink R_S 1062 y_Q_checkFromToIndex : Cond) ∈ lw_gd := List.mem_filter.mpr ⟨List.mem_append_right _ (List.mem_of_getElem? (i := 237) (by decide +kernel)), rfl⟩
theorem sta_Q_checkFromToIndex : (Cond.static y_Q_checkFromToIndex : Cond) ∈ lw_gd := List.mem_filter.mpr ⟨List.mem_append_right _ (List.mem_of_getElem? (i := 238) (by decide +kernel)), rfl⟩
theorem str_L_52 : (Cond.stringRef R_L 52 "XYZ" : Cond) ∈ lw_tbl := List.mem_append_right _ (List.mem_of_getElem? (i := 257) (by decide +kernel))
theorem mln_L_54 : (Cond.methodLinkNest R_L 54 y_H_codeOf R_H : Cond) ∈ lw_tbl := List.mem_append_right _ (List.mem_of_getElem? (i := 258) (by decide +kernel))
theorem sta_H_codeOf : (Cond.static y_H_codeOf : Cond) ∈ lw_gd := List.mem_filter.mpr ⟨List.mem_append_right _ (List.mem_of_getElem? (i := 259) (by decide +kernel)), rfl⟩
theorem mlk_H_124 : (Cond.methodLink R_H 124 y_L_typedLiterals : Cond) ∈ lw_gd := List.mem_filter.mpr ⟨List.mem_append_right _ (List.mem_of_getElem? (i := 261) (by decide +kernel)), rfl⟩
theorem mlk_H_127 : (Cond.methodLink R_H 127 y_H_addClause : Cond) ∈ lw_gd := List.mem_filter.mpr ⟨List.mem_append_right _ (List.mem_of_getElem? (i := 262) (by decide +kernel)), rfl⟩
theorem ins_H_addClause : (Cond.instanceMethod y_H_addClause : Cond) ∈ lw_gd := List.mem_filter.mpr ⟨List.mem_append_right _ (List.mem_of_getElem? (i := 264) (by decide +kernel)), rfl⟩
theorem mlk_H_66 : (Cond.methodLink R_H 66 y_I_bitCount : Cond) ∈ lw_gd := List.mem_filter.mpr ⟨List.mem_append_right _ (List.mem_of_getElem? (i := 266) (by decide +kernel)), rfl⟩
theorem sta_I_bitCount : (Cond.static y_I_bitCount : Cond) ∈ lw_gd := List.mem_filter.mpr ⟨List.mem_append_right _ (List.mem_of_getElem? (i := 267) (by decide +kernel)), rfl⟩
theorem con_I_265 : (Cond.constant R_I 265 (1431655765) : Cond) ∈ lw_gd := List.mem_filter.mpr ⟨List.mem_append_right _ (List.mem_of_getElem? (i := 269) (by decide +kernel)), rfl⟩
theorem con_I_266 : (Cond.constant R_I 266 (858993459) : Cond) ∈ lw_gd := List.mem_filter.mpr ⟨List.mem_append_right _ (List.mem_of_getElem? (i := 270) (by decide +kernel)), rfl⟩
theorem con_I_267 : (Cond.constant R_I 267 (252645135) : Cond) ∈ lw_gd := List.mem_filter.mpr ⟨List.mem_append_right _ (List.mem_of_getElem? (i := 271) (by decide +kernel)), rfl⟩
theorem mlk_H_147 : (Cond.methodLink R_H 147 y_H_hasHeadVariables : Cond) ∈ lw_gd := List.mem_filter.mpr ⟨List.mem_append_right _ (List.mem_of_getElem? (i := 272) (by decide +kernel)), rfl⟩
theorem sta_H_hasHeadVariables : (Cond.static y_H_hasHeadVariables : Cond) ∈ lw_gd := List.mem_filter.mpr ⟨List.mem_append_right _ (List.mem_of_getElem? (i := 273) (by decide +kernel)), rfl⟩
theorem con_H_169 : (Cond.constant R_H 169 (20749903) : Cond) ∈ lw_gd := List.mem_filter.mpr ⟨List.mem_append_right _ (List.mem_of_getElem? (i := 275) (by decide +kernel)), rfl⟩
theorem con_H_170 : (Cond.constant R_H 170 (48854202) : Cond) ∈ lw_gd := List.mem_filter.mpr ⟨List.mem_append_right _ (List.mem_of_getElem? (i := 276) (by decide +kernel)), rfl⟩
theorem mlk_H_150 : (Cond.methodLink R_H 150 y_P_contains : Cond) ∈ lw_gd := List.mem_filter.mpr ⟨List.mem_append_right _ (List.mem_of_getElem? (i := 277) (by decide +kernel)), rfl⟩
theorem ins_P_contains : (Cond.instanceMethod y_P_contains : Cond) ∈ lw_gd := List.mem_filter.mpr ⟨List.mem_append_right _ (List.mem_of_getElem? (i := 278) (by decide +kernel)), rfl⟩
theorem sel_P_contains : (Cond.selects R_P y_P_contains y_P_contains : Cond) ∈ lw_gd := List.mem_filter.mpr ⟨List.mem_append_right _ (List.mem_of_getElem? (i := 279) (by decide +kernel)), rfl⟩
theorem mlk_P_19 : (Cond.methodLink R_P 19 y_P_bodyOf : Cond) ∈ lw_gd := List.mem_filter.mpr ⟨List.mem_append_right _ (List.mem_of_getElem? (i := 281) (by decide +kernel)), rfl⟩
theorem ins_P_bodyOf : (Cond.instanceMethod y_P_bodyOf : Cond) ∈ lw_gd := List.mem_filter.mpr ⟨List.mem_append_right _ (List.mem_of_getElem? (i := 282) (by decide +kernel)), rfl⟩
theorem sel_P_bodyOf : (Cond.selects R_P y_P_bodyOf y_P_bodyOf : Cond) ∈ lw_gd := List.mem_filter.mpr ⟨List.mem_append_right _ (List.mem_of_getElem? (i := 283) (by decide +kernel)), rfl⟩
theorem mlk_H_153 : (Cond.methodLink R_H 153 y_P_append : Cond) ∈ lw_gd := List.mem_filter.mpr ⟨List.mem_append_right _ (List.mem_of_getElem? (i := 285) (by decide +kernel)), rfl⟩
theorem ins_P_append : (Cond.instanceMethod y_P_append : Cond) ∈ lw_gd := List.mem_filter.mpr ⟨List.mem_append_right _ (List.mem_of_getElem? (i := 286) (by decide +kernel)), rfl⟩
theorem sel_P_append : (Cond.selects R_P y_P_append y_P_append : Cond) ∈ lw_gd := List.mem_filter.mpr ⟨List.mem_append_right _ (List.mem_of_getElem? (i := 287) (by decide +kernel)), rfl⟩
theorem mlk_H_130 : (Cond.methodLink R_H 130 y_L_typedPair : Cond) ∈ lw_gd := List.mem_filter.mpr ⟨List.mem_append_right _ (List.mem_of_getElem? (i := 289) (by decide +kernel)), rfl⟩
theorem ins_L_typedPair : (Cond.instanceMethod y_L_typedPair : Cond) ∈ lw_gd := List.mem_filter.mpr ⟨List.mem_append_right _ (List.mem_of_getElem? (i := 290) (by decide +kernel)), rfl⟩
theorem sel_L_typedPair : (Cond.selects R_L y_L_typedPair y_L_typedPair : Cond) ∈ lw_gd := List.mem_filter.mpr ⟨List.mem_append_right _ (List.mem_of_getElem? (i := 291) (by decide +kernel)), rfl⟩
theorem mln_L_42 : (Cond.methodLinkNest R_L 42 y_H_pairBit R_H : Cond) ∈ lw_tbl := List.mem_append_right _ (List.mem_of_getElem? (i := 293) (by decide +kernel))
theorem sta_H_pairBit : (Cond.static y_H_pairBit : Cond) ∈ lw_gd := List.mem_filter.mpr ⟨List.mem_append_right _ (List.mem_of_getElem? (i := 294) (by decide +kernel)), rfl⟩
theorem mlk_H_133 : (Cond.methodLink R_H 133 y_H_changeMarks : Cond) ∈ lw_gd := List.mem_filter.mpr ⟨List.mem_append_right _ (List.mem_of_getElem? (i := 296) (by decide +kernel)), rfl⟩
theorem ins_H_changeMarks : (Cond.instanceMethod y_H_changeMarks : Cond) ∈ lw_gd := List.mem_filter.mpr ⟨List.mem_append_right _ (List.mem_of_getElem? (i := 298) (by decide +kernel)), rfl⟩
theorem str_H_136 : (Cond.stringRef R_H 136 "abt" : Cond) ∈ lw_tbl := List.mem_append_right _ (List.mem_of_getElem? (i := 300) (by decide +kernel))
theorem mlk_H_138 : (Cond.methodLink R_H 138 y_S_indexOf1 : Cond) ∈ lw_gd := List.mem_filter.mpr ⟨List.mem_append_right _ (List.mem_of_getElem? (i := 301) (by decide +kernel)), rfl⟩
theorem mlk_H_143 : (Cond.methodLink R_H 143 y_H_changeFacts : Cond) ∈ lw_gd := List.mem_filter.mpr ⟨List.mem_append_right _ (List.mem_of_getElem? (i := 302) (by decide +kernel)), rfl⟩
theorem ins_H_changeFacts : (Cond.instanceMethod y_H_changeFacts : Cond) ∈ lw_gd := List.mem_filter.mpr ⟨List.mem_append_right _ (List.mem_of_getElem? (i := 304) (by decide +kernel)), rfl⟩
theorem mlk_H_63 : (Cond.methodLink R_H 63 y_H_isFactRelation : Cond) ∈ lw_gd := List.mem_filter.mpr ⟨List.mem_append_right _ (List.mem_of_getElem? (i := 306) (by decide +kernel)), rfl⟩
theorem sta_H_isFactRelation : (Cond.static y_H_isFactRelation : Cond) ∈ lw_gd := List.mem_filter.mpr ⟨List.mem_append_right _ (List.mem_of_getElem? (i := 307) (by decide +kernel)), rfl⟩
theorem mlk_H_60 : (Cond.methodLink R_H 60 y_L_clear : Cond) ∈ lw_gd := List.mem_filter.mpr ⟨List.mem_append_right _ (List.mem_of_getElem? (i := 309) (by decide +kernel)), rfl⟩
theorem ins_L_clear : (Cond.instanceMethod y_L_clear : Cond) ∈ lw_gd := List.mem_filter.mpr ⟨List.mem_append_right _ (List.mem_of_getElem? (i := 310) (by decide +kernel)), rfl⟩
theorem sel_L_clear : (Cond.selects R_L y_L_clear y_L_clear : Cond) ∈ lw_gd := List.mem_filter.mpr ⟨List.mem_append_right _ (List.mem_of_getElem? (i := 311) (by decide +kernel)), rfl⟩
theorem arc_byte : (Cond.arrayClass .byte : Cond) ∈ lw_gd := List.mem_filter.mpr ⟨List.mem_append_right _ (List.mem_of_getElem? (i := 313) (by decide +kernel)), rfl⟩
theorem mlk_W_28 : (Cond.methodLink "HornLearnerLaw" 28 y_H_facts : Cond) ∈ lw_gd := List.mem_filter.mpr ⟨List.mem_append_right _ (List.mem_of_getElem? (i := 314) (by decide +kernel)), rfl⟩
theorem ins_H_facts : (Cond.instanceMethod y_H_facts : Cond) ∈ lw_gd := List.mem_filter.mpr ⟨List.mem_append_right _ (List.mem_of_getElem? (i := 315) (by decide +kernel)), rfl⟩
theorem sel_H_facts : (Cond.selects R_H y_H_facts y_H_facts : Cond) ∈ lw_gd := List.mem_filter.mpr ⟨List.mem_append_right _ (List.mem_of_getElem? (i := 316) (by decide +kernel)), rfl⟩
theorem mlk_W_33 : (Cond.methodLink "HornLearnerLaw" 33 y_H_holds : Cond) ∈ lw_gd := List.mem_filter.mpr ⟨List.mem_append_right _ (List.mem_of_getElem? (i := 318) (by decide +kernel)), rfl⟩
theorem ins_H_holds : (Cond.instanceMethod y_H_holds : Cond) ∈ lw_gd := List.mem_filter.mpr ⟨List.mem_append_right _ (List.mem_of_getElem? (i := 319) (by decide +kernel)), rfl⟩
theorem sel_H_holds : (Cond.selects R_H y_H_holds y_H_holds : Cond) ∈ lw_gd := List.mem_filter.mpr ⟨List.mem_append_right _ (List.mem_of_getElem? (i := 320) (by decide +kernel)), rfl⟩
theorem mlk_H_72 : (Cond.methodLink R_H 72 y_H_pairBit : Cond) ∈ lw_gd := List.mem_filter.mpr ⟨List.mem_append_right _ (List.mem_of_getElem? (i := 322) (by decide +kernel)), rfl⟩
theorem mlk_W_38 : (Cond.methodLink "HornLearnerLaw" 38 y_H_mark : Cond) ∈ lw_gd := List.mem_filter.mpr ⟨List.mem_append_right _ (List.mem_of_getElem? (i := 323) (by decide +kernel)), rfl⟩
theorem ins_H_mark : (Cond.instanceMethod y_H_mark : Cond) ∈ lw_gd := List.mem_filter.mpr ⟨List.mem_append_right _ (List.mem_of_getElem? (i := 324) (by decide +kernel)), rfl⟩
theorem sel_H_mark : (Cond.selects R_H y_H_mark y_H_mark : Cond) ∈ lw_gd := List.mem_filter.mpr ⟨List.mem_append_right _ (List.mem_of_getElem? (i := 325) (by decide +kernel)), rfl⟩
theorem mlk_W_43 : (Cond.methodLink "HornLearnerLaw" 43 y_H_drop : Cond) ∈ lw_gd := List.mem_filter.mpr ⟨List.mem_append_right _ (List.mem_of_getElem? (i := 327) (by decide +kernel)), rfl⟩
theorem ins_H_drop : (Cond.instanceMethod y_H_drop : Cond) ∈ lw_gd := List.mem_filter.mpr ⟨List.mem_append_right _ (List.mem_of_getElem? (i := 328) (by decide +kernel)), rfl⟩
theorem sel_H_drop : (Cond.selects R_H y_H_drop y_H_drop : Cond) ∈ lw_gd := List.mem_filter.mpr ⟨List.mem_append_right _ (List.mem_of_getElem? (i := 329) (by decide +kernel)), rfl⟩
theorem mlk_H_76 : (Cond.methodLink R_H 76 y_P_remove : Cond) ∈ lw_gd := List.mem_filter.mpr ⟨List.mem_append_right _ (List.mem_of_getElem? (i := 331) (by decide +kernel)), rfl⟩
theorem ins_P_remove : (Cond.instanceMethod y_P_remove : Cond) ∈ lw_gd := List.mem_filter.mpr ⟨List.mem_append_right _ (List.mem_of_getElem? (i := 332) (by decide +kernel)), rfl⟩
theorem sel_P_remove : (Cond.selects R_P y_P_remove y_P_remove : Cond) ∈ lw_gd := List.mem_filter.mpr ⟨List.mem_append_right _ (List.mem_of_getElem? (i := 333) (by decide +kernel)), rfl⟩
theorem mlk_W_48 : (Cond.methodLink "HornLearnerLaw" 48 y_H_clauses : Cond) ∈ lw_gd := List.mem_filter.mpr ⟨List.mem_append_right _ (List.mem_of_getElem? (i := 335) (by decide +kernel)), rfl⟩
theorem ins_H_clauses : (Cond.instanceMethod y_H_clauses : Cond) ∈ lw_gd := List.mem_filter.mpr ⟨List.mem_append_right _ (List.mem_of_getElem? (i := 336) (by decide +kernel)), rfl⟩
theorem sel_H_clauses : (Cond.selects R_H y_H_clauses y_H_clauses : Cond) ∈ lw_gd := List.mem_filter.mpr ⟨List.mem_append_right _ (List.mem_of_getElem? (i := 337) (by decide +kernel)), rfl⟩
theorem mlk_W_52 : (Cond.methodLink "HornLearnerLaw" 52 y_H_literals : Cond) ∈ lw_gd := List.mem_filter.mpr ⟨List.mem_append_right _ (List.mem_of_getElem? (i := 339) (by decide +kernel)), rfl⟩
theorem ins_H_literals : (Cond.instanceMethod y_H_literals : Cond) ∈ lw_gd := List.mem_filter.mpr ⟨List.mem_append_right _ (List.mem_of_getElem? (i := 340) (by decide +kernel)), rfl⟩
theorem sel_H_literals : (Cond.selects R_H y_H_literals y_H_literals : Cond) ∈ lw_gd := List.mem_filter.mpr ⟨List.mem_append_right _ (List.mem_of_getElem? (i := 341) (by decide +kernel)), rfl⟩
theorem mlk_H_82 : (Cond.methodLink R_H 82 y_P_bodyOf : Cond) ∈ lw_gd := List.mem_filter.mpr ⟨List.mem_append_right _ (List.mem_of_getElem? (i := 343) (by decide +kernel)), rfl⟩
theorem mlk_W_56 : (Cond.methodLink "HornLearnerLaw" 56 y_H_literal : Cond) ∈ lw_gd := List.mem_filter.mpr ⟨List.mem_append_right _ (List.mem_of_getElem? (i := 344) (by decide +kernel)), rfl⟩
theorem ins_H_literal : (Cond.instanceMethod y_H_literal : Cond) ∈ lw_gd := List.mem_filter.mpr ⟨List.mem_append_right _ (List.mem_of_getElem? (i := 345) (by decide +kernel)), rfl⟩
theorem sel_H_literal : (Cond.selects R_H y_H_literal y_H_literal : Cond) ∈ lw_gd := List.mem_filter.mpr ⟨List.mem_append_right _ (List.mem_of_getElem? (i := 346) (by decide +kernel)), rfl⟩
theorem mlk_H_85 : (Cond.methodLink R_H 85 y_H_codeAt : Cond) ∈ lw_gd := List.mem_filter.mpr ⟨List.mem_append_right _ (List.mem_of_getElem? (i := 348) (by decide +kernel)), rfl⟩
theorem sta_H_codeAt : (Cond.static y_H_codeAt : Cond) ∈ lw_gd := List.mem_filter.mpr ⟨List.mem_append_right _ (List.mem_of_getElem? (i := 349) (by decide +kernel)), rfl⟩
theorem mlk_H_171 : (Cond.methodLink R_H 171 y_H_withoutLeastCode : Cond) ∈ lw_gd := List.mem_filter.mpr ⟨List.mem_append_right _ (List.mem_of_getElem? (i := 351) (by decide +kernel)), rfl⟩
theorem sta_H_withoutLeastCode : (Cond.static y_H_withoutLeastCode : Cond) ∈ lw_gd := List.mem_filter.mpr ⟨List.mem_append_right _ (List.mem_of_getElem? (i := 352) (by decide +kernel)), rfl⟩
theorem mlk_H_174 : (Cond.methodLink R_H 174 y_H_leastCode : Cond) ∈ lw_gd := List.mem_filter.mpr ⟨List.mem_append_right _ (List.mem_of_getElem? (i := 354) (by decide +kernel)), rfl⟩
theorem sta_H_leastCode : (Cond.static y_H_leastCode : Cond) ∈ lw_gd := List.mem_filter.mpr ⟨List.mem_append_right _ (List.mem_of_getElem? (i := 355) (by decide +kernel)), rfl⟩
theorem mlk_W_60 : (Cond.methodLink "HornLearnerLaw" 60 y_H_letter : Cond) ∈ lw_gd := List.mem_filter.mpr ⟨List.mem_append_right _ (List.mem_of_getElem? (i := 357) (by decide +kernel)), rfl⟩
theorem ins_H_letter : (Cond.instanceMethod y_H_letter : Cond) ∈ lw_gd := List.mem_filter.mpr ⟨List.mem_append_right _ (List.mem_of_getElem? (i := 358) (by decide +kernel)), rfl⟩
theorem sel_H_letter : (Cond.selects R_H y_H_letter y_H_letter : Cond) ∈ lw_gd := List.mem_filter.mpr ⟨List.mem_append_right _ (List.mem_of_getElem? (i := 359) (by decide +kernel)), rfl⟩
theorem mlk_H_88 : (Cond.methodLink R_H 88 y_P_letterAt : Cond) ∈ lw_gd := List.mem_filter.mpr ⟨List.mem_append_right _ (List.mem_of_getElem? (i := 361) (by decide +kernel)), rfl⟩
theorem ins_P_letterAt : (Cond.instanceMethod y_P_letterAt : Cond) ∈ lw_gd := List.mem_filter.mpr ⟨List.mem_append_right _ (List.mem_of_getElem? (i := 362) (by decide +kernel)), rfl⟩
theorem sel_P_letterAt : (Cond.selects R_P y_P_letterAt y_P_letterAt : Cond) ∈ lw_gd := List.mem_filter.mpr ⟨List.mem_append_right _ (List.mem_of_getElem? (i := 363) (by decide +kernel)), rfl⟩
theorem mlk_P_23 : (Cond.methodLink R_P 23 y_P_textLength : Cond) ∈ lw_gd := List.mem_filter.mpr ⟨List.mem_append_right _ (List.mem_of_getElem? (i := 365) (by decide +kernel)), rfl⟩
theorem sta_P_textLength : (Cond.static y_P_textLength : Cond) ∈ lw_gd := List.mem_filter.mpr ⟨List.mem_append_right _ (List.mem_of_getElem? (i := 366) (by decide +kernel)), rfl⟩
theorem mlk_P_30 : (Cond.methodLink R_P 30 y_I_bitCount : Cond) ∈ lw_gd := List.mem_filter.mpr ⟨List.mem_append_right _ (List.mem_of_getElem? (i := 368) (by decide +kernel)), rfl⟩
theorem mlk_P_26 : (Cond.methodLink R_P 26 y_P_letterOf : Cond) ∈ lw_gd := List.mem_filter.mpr ⟨List.mem_append_right _ (List.mem_of_getElem? (i := 369) (by decide +kernel)), rfl⟩
theorem sta_P_letterOf : (Cond.static y_P_letterOf : Cond) ∈ lw_gd := List.mem_filter.mpr ⟨List.mem_append_right _ (List.mem_of_getElem? (i := 370) (by decide +kernel)), rfl⟩
theorem str_P_35 : (Cond.stringRef R_P 35 "t(X,Y):-" : Cond) ∈ lw_tbl := List.mem_append_right _ (List.mem_of_getElem? (i := 372) (by decide +kernel))
theorem mlk_P_37 : (Cond.methodLink R_P 37 y_S_charAt : Cond) ∈ lw_gd := List.mem_filter.mpr ⟨List.mem_append_right _ (List.mem_of_getElem? (i := 373) (by decide +kernel)), rfl⟩
theorem mln_P_43 : (Cond.methodLinkNest R_P 43 y_H_codeAt R_H : Cond) ∈ lw_tbl := List.mem_append_right _ (List.mem_of_getElem? (i := 374) (by decide +kernel))
theorem str_P_46 : (Cond.stringRef R_P 46 "abt" : Cond) ∈ lw_tbl := List.mem_append_right _ (List.mem_of_getElem? (i := 375) (by decide +kernel))
theorem mln_P_48 : (Cond.methodLinkNest R_P 48 y_H_relationOf R_H : Cond) ∈ lw_tbl := List.mem_append_right _ (List.mem_of_getElem? (i := 376) (by decide +kernel))
theorem sta_H_relationOf : (Cond.static y_H_relationOf : Cond) ∈ lw_gd := List.mem_filter.mpr ⟨List.mem_append_right _ (List.mem_of_getElem? (i := 377) (by decide +kernel)), rfl⟩
theorem str_P_51 : (Cond.stringRef R_P 51 "XYZ" : Cond) ∈ lw_tbl := List.mem_append_right _ (List.mem_of_getElem? (i := 379) (by decide +kernel))
theorem mln_P_53 : (Cond.methodLinkNest R_P 53 y_H_firstVariableOf R_H : Cond) ∈ lw_tbl := List.mem_append_right _ (List.mem_of_getElem? (i := 380) (by decide +kernel))
theorem sta_H_firstVariableOf : (Cond.static y_H_firstVariableOf : Cond) ∈ lw_gd := List.mem_filter.mpr ⟨List.mem_append_right _ (List.mem_of_getElem? (i := 381) (by decide +kernel)), rfl⟩
theorem mln_P_56 : (Cond.methodLinkNest R_P 56 y_H_secondVariableOf R_H : Cond) ∈ lw_tbl := List.mem_append_right _ (List.mem_of_getElem? (i := 383) (by decide +kernel))
theorem sta_H_secondVariableOf : (Cond.static y_H_secondVariableOf : Cond) ∈ lw_gd := List.mem_filter.mpr ⟨List.mem_append_right _ (List.mem_of_getElem? (i := 384) (by decide +kernel)), rfl⟩
theorem mlk_W_64 : (Cond.methodLink "HornLearnerLaw" 64 y_H_subsumes : Cond) ∈ lw_gd := List.mem_filter.mpr ⟨List.mem_append_right _ (List.mem_of_getElem? (i := 386) (by decide +kernel)), rfl⟩
theorem ins_H_subsumes : (Cond.instanceMethod y_H_subsumes : Cond) ∈ lw_gd := List.mem_filter.mpr ⟨List.mem_append_right _ (List.mem_of_getElem? (i := 387) (by decide +kernel)), rfl⟩
theorem sel_H_subsumes : (Cond.selects R_H y_H_subsumes y_H_subsumes : Cond) ∈ lw_gd := List.mem_filter.mpr ⟨List.mem_append_right _ (List.mem_of_getElem? (i := 388) (by decide +kernel)), rfl⟩
theorem mlk_H_91 : (Cond.methodLink R_H 91 y_H_withVariableForZ : Cond) ∈ lw_gd := List.mem_filter.mpr ⟨List.mem_append_right _ (List.mem_of_getElem? (i := 390) (by decide +kernel)), rfl⟩
theorem sta_H_withVariableForZ : (Cond.static y_H_withVariableForZ : Cond) ∈ lw_gd := List.mem_filter.mpr ⟨List.mem_append_right _ (List.mem_of_getElem? (i := 391) (by decide +kernel)), rfl⟩
theorem mlk_H_177 : (Cond.methodLink R_H 177 y_H_firstVariableOf : Cond) ∈ lw_gd := List.mem_filter.mpr ⟨List.mem_append_right _ (List.mem_of_getElem? (i := 393) (by decide +kernel)), rfl⟩
theorem mlk_H_180 : (Cond.methodLink R_H 180 y_H_secondVariableOf : Cond) ∈ lw_gd := List.mem_filter.mpr ⟨List.mem_append_right _ (List.mem_of_getElem? (i := 394) (by decide +kernel)), rfl⟩
theorem mlk_H_183 : (Cond.methodLink R_H 183 y_H_relationOf : Cond) ∈ lw_gd := List.mem_filter.mpr ⟨List.mem_append_right _ (List.mem_of_getElem? (i := 395) (by decide +kernel)), rfl⟩
theorem mlk_H_186 : (Cond.methodLink R_H 186 y_H_codeOf : Cond) ∈ lw_gd := List.mem_filter.mpr ⟨List.mem_append_right _ (List.mem_of_getElem? (i := 396) (by decide +kernel)), rfl⟩
theorem mlk_W_69 : (Cond.methodLink "HornLearnerLaw" 69 y_H_given : Cond) ∈ lw_gd := List.mem_filter.mpr ⟨List.mem_append_right _ (List.mem_of_getElem? (i := 397) (by decide +kernel)), rfl⟩
theorem ins_H_given : (Cond.instanceMethod y_H_given : Cond) ∈ lw_gd := List.mem_filter.mpr ⟨List.mem_append_right _ (List.mem_of_getElem? (i := 398) (by decide +kernel)), rfl⟩
theorem sel_H_given : (Cond.selects R_H y_H_given y_H_given : Cond) ∈ lw_gd := List.mem_filter.mpr ⟨List.mem_append_right _ (List.mem_of_getElem? (i := 399) (by decide +kernel)), rfl⟩
theorem mlk_H_94 : (Cond.methodLink R_H 94 y_H_deduceProgram : Cond) ∈ lw_gd := List.mem_filter.mpr ⟨List.mem_append_right _ (List.mem_of_getElem? (i := 401) (by decide +kernel)), rfl⟩
theorem ins_H_deduceProgram : (Cond.instanceMethod y_H_deduceProgram : Cond) ∈ lw_gd := List.mem_filter.mpr ⟨List.mem_append_right _ (List.mem_of_getElem? (i := 403) (by decide +kernel)), rfl⟩
theorem mlk_H_106 : (Cond.methodLink R_H 106 y_D_takeFacts : Cond) ∈ lw_gd := List.mem_filter.mpr ⟨List.mem_append_right _ (List.mem_of_getElem? (i := 405) (by decide +kernel)), rfl⟩
theorem ins_D_takeFacts : (Cond.instanceMethod y_D_takeFacts : Cond) ∈ lw_gd := List.mem_filter.mpr ⟨List.mem_append_right _ (List.mem_of_getElem? (i := 406) (by decide +kernel)), rfl⟩
theorem sel_D_takeFacts : (Cond.selects R_D y_D_takeFacts y_D_takeFacts : Cond) ∈ lw_gd := List.mem_filter.mpr ⟨List.mem_append_right _ (List.mem_of_getElem? (i := 407) (by decide +kernel)), rfl⟩
theorem mln_D_26 : (Cond.methodLinkNest R_D 26 y_H_relationOf R_H : Cond) ∈ lw_tbl := List.mem_append_right _ (List.mem_of_getElem? (i := 409) (by decide +kernel))
theorem mln_D_30 : (Cond.methodLinkNest R_D 30 y_H_firstVariableOf R_H : Cond) ∈ lw_tbl := List.mem_append_right _ (List.mem_of_getElem? (i := 410) (by decide +kernel))
theorem mln_D_33 : (Cond.methodLinkNest R_D 33 y_H_secondVariableOf R_H : Cond) ∈ lw_tbl := List.mem_append_right _ (List.mem_of_getElem? (i := 411) (by decide +kernel))
theorem mlk_D_36 : (Cond.methodLink R_D 36 y_D_choicesWhere : Cond) ∈ lw_gd := List.mem_filter.mpr ⟨List.mem_append_right _ (List.mem_of_getElem? (i := 412) (by decide +kernel)), rfl⟩
theorem sta_D_choicesWhere : (Cond.static y_D_choicesWhere : Cond) ∈ lw_gd := List.mem_filter.mpr ⟨List.mem_append_right _ (List.mem_of_getElem? (i := 413) (by decide +kernel)), rfl⟩
theorem flk_D_52 : (Cond.fieldLink R_D 52 "HornLearner$Deduction" "CHOICES_WITH" "[J" : Cond) ∈ lw_gd := List.mem_filter.mpr ⟨List.mem_append_right _ (List.mem_of_getElem? (i := 415) (by decide +kernel)), rfl⟩
theorem lst_416 : (Cond.laysStatic "HornLearner$Deduction" "CHOICES_WITH" "[J" : Cond) ∈ lw_tbl := List.mem_append_right _ (List.mem_of_getElem? (i := 416) (by decide +kernel))
theorem mlk_H_156 : (Cond.methodLink R_H 156 y_D_run : Cond) ∈ lw_gd := List.mem_filter.mpr ⟨List.mem_append_right _ (List.mem_of_getElem? (i := 417) (by decide +kernel)), rfl⟩
theorem ins_D_run : (Cond.instanceMethod y_D_run : Cond) ∈ lw_gd := List.mem_filter.mpr ⟨List.mem_append_right _ (List.mem_of_getElem? (i := 418) (by decide +kernel)), rfl⟩
theorem sel_D_run : (Cond.selects R_D y_D_run y_D_run : Cond) ∈ lw_gd := List.mem_filter.mpr ⟨List.mem_append_right _ (List.mem_of_getElem? (i := 419) (by decide +kernel)), rfl⟩
theorem mlk_D_40 : (Cond.methodLink R_D 40 y_D_pairsFrom : Cond) ∈ lw_gd := List.mem_filter.mpr ⟨List.mem_append_right _ (List.mem_of_getElem? (i := 421) (by decide +kernel)), rfl⟩
theorem ins_D_pairsFrom : (Cond.instanceMethod y_D_pairsFrom : Cond) ∈ lw_gd := List.mem_filter.mpr ⟨List.mem_append_right _ (List.mem_of_getElem? (i := 423) (by decide +kernel)), rfl⟩
theorem col_D_43 : (Cond.constantLong R_D 43 (-1) : Cond) ∈ lw_gd := List.mem_filter.mpr ⟨List.mem_append_right _ (List.mem_of_getElem? (i := 425) (by decide +kernel)), rfl⟩
theorem mln_D_45 : (Cond.methodLinkNest R_D 45 y_H_leastCode R_H : Cond) ∈ lw_tbl := List.mem_append_right _ (List.mem_of_getElem? (i := 426) (by decide +kernel))
theorem mln_D_48 : (Cond.methodLinkNest R_D 48 y_H_withoutLeastCode R_H : Cond) ∈ lw_tbl := List.mem_append_right _ (List.mem_of_getElem? (i := 427) (by decide +kernel))
theorem con_D_51 : (Cond.constant R_D 51 (65535) : Cond) ∈ lw_gd := List.mem_filter.mpr ⟨List.mem_append_right _ (List.mem_of_getElem? (i := 428) (by decide +kernel)), rfl⟩
theorem mlk_H_97 : (Cond.methodLink R_H 97 y_D_roundOf : Cond) ∈ lw_gd := List.mem_filter.mpr ⟨List.mem_append_right _ (List.mem_of_getElem? (i := 429) (by decide +kernel)), rfl⟩
theorem ins_D_roundOf : (Cond.instanceMethod y_D_roundOf : Cond) ∈ lw_gd := List.mem_filter.mpr ⟨List.mem_append_right _ (List.mem_of_getElem? (i := 430) (by decide +kernel)), rfl⟩
theorem sel_D_roundOf : (Cond.selects R_D y_D_roundOf y_D_roundOf : Cond) ∈ lw_gd := List.mem_filter.mpr ⟨List.mem_append_right _ (List.mem_of_getElem? (i := 431) (by decide +kernel)), rfl⟩
theorem mlk_W_73 : (Cond.methodLink "HornLearnerLaw" 73 y_H_rounds : Cond) ∈ lw_gd := List.mem_filter.mpr ⟨List.mem_append_right _ (List.mem_of_getElem? (i := 433) (by decide +kernel)), rfl⟩
theorem ins_H_rounds : (Cond.instanceMethod y_H_rounds : Cond) ∈ lw_gd := List.mem_filter.mpr ⟨List.mem_append_right _ (List.mem_of_getElem? (i := 434) (by decide +kernel)), rfl⟩
theorem sel_H_rounds : (Cond.selects R_H y_H_rounds y_H_rounds : Cond) ∈ lw_gd := List.mem_filter.mpr ⟨List.mem_append_right _ (List.mem_of_getElem? (i := 435) (by decide +kernel)), rfl⟩
theorem mlk_W_77 : (Cond.methodLink "HornLearnerLaw" 77 y_H_fits : Cond) ∈ lw_gd := List.mem_filter.mpr ⟨List.mem_append_right _ (List.mem_of_getElem? (i := 437) (by decide +kernel)), rfl⟩
theorem ins_H_fits : (Cond.instanceMethod y_H_fits : Cond) ∈ lw_gd := List.mem_filter.mpr ⟨List.mem_append_right _ (List.mem_of_getElem? (i := 438) (by decide +kernel)), rfl⟩
theorem sel_H_fits : (Cond.selects R_H y_H_fits y_H_fits : Cond) ∈ lw_gd := List.mem_filter.mpr ⟨List.mem_append_right _ (List.mem_of_getElem? (i := 439) (by decide +kernel)), rfl⟩
theorem mlk_H_103 : (Cond.methodLink R_H 103 y_H_deductionFits : Cond) ∈ lw_gd := List.mem_filter.mpr ⟨List.mem_append_right _ (List.mem_of_getElem? (i := 441) (by decide +kernel)), rfl⟩
theorem ins_H_deductionFits : (Cond.instanceMethod y_H_deductionFits : Cond) ∈ lw_gd := List.mem_filter.mpr ⟨List.mem_append_right _ (List.mem_of_getElem? (i := 443) (by decide +kernel)), rfl⟩
theorem mlk_W_81 : (Cond.methodLink "HornLearnerLaw" 81 y_H_learn : Cond) ∈ lw_gd := List.mem_filter.mpr ⟨List.mem_append_right _ (List.mem_of_getElem? (i := 445) (by decide +kernel)), rfl⟩
theorem ins_H_learn : (Cond.instanceMethod y_H_learn : Cond) ∈ lw_gd := List.mem_filter.mpr ⟨List.mem_append_right _ (List.mem_of_getElem? (i := 446) (by decide +kernel)), rfl⟩
theorem sel_H_learn : (Cond.selects R_H y_H_learn y_H_learn : Cond) ∈ lw_gd := List.mem_filter.mpr ⟨List.mem_append_right _ (List.mem_of_getElem? (i := 447) (by decide +kernel)), rfl⟩
theorem mlk_H_110 : (Cond.methodLink R_H 110 y_H_learnBody : Cond) ∈ lw_gd := List.mem_filter.mpr ⟨List.mem_append_right _ (List.mem_of_getElem? (i := 449) (by decide +kernel)), rfl⟩
theorem sta_H_learnBody : (Cond.static y_H_learnBody : Cond) ∈ lw_gd := List.mem_filter.mpr ⟨List.mem_append_right _ (List.mem_of_getElem? (i := 450) (by decide +kernel)), rfl⟩
theorem mlk_H_162 : (Cond.methodLink R_H 162 y_H_takeIfFitting : Cond) ∈ lw_gd := List.mem_filter.mpr ⟨List.mem_append_right _ (List.mem_of_getElem? (i := 452) (by decide +kernel)), rfl⟩
theorem ins_H_takeIfFitting : (Cond.instanceMethod y_H_takeIfFitting : Cond) ∈ lw_gd := List.mem_filter.mpr ⟨List.mem_append_right _ (List.mem_of_getElem? (i := 454) (by decide +kernel)), rfl⟩
theorem mlk_H_166 : (Cond.methodLink R_H 166 y_P_become : Cond) ∈ lw_gd := List.mem_filter.mpr ⟨List.mem_append_right _ (List.mem_of_getElem? (i := 456) (by decide +kernel)), rfl⟩
theorem ins_P_become : (Cond.instanceMethod y_P_become : Cond) ∈ lw_gd := List.mem_filter.mpr ⟨List.mem_append_right _ (List.mem_of_getElem? (i := 457) (by decide +kernel)), rfl⟩
theorem sel_P_become : (Cond.selects R_P y_P_become y_P_become : Cond) ∈ lw_gd := List.mem_filter.mpr ⟨List.mem_append_right _ (List.mem_of_getElem? (i := 458) (by decide +kernel)), rfl⟩
theorem mlk_H_114 : (Cond.methodLink R_H 114 y_H_learnTwoClauses : Cond) ∈ lw_gd := List.mem_filter.mpr ⟨List.mem_append_right _ (List.mem_of_getElem? (i := 460) (by decide +kernel)), rfl⟩
theorem ins_H_learnTwoClauses : (Cond.instanceMethod y_H_learnTwoClauses : Cond) ∈ lw_gd := List.mem_filter.mpr ⟨List.mem_append_right _ (List.mem_of_getElem? (i := 462) (by decide +kernel)), rfl⟩
theorem clk_W_10 : (Cond.classLink "HornLearnerLaw" 10 R_M : Cond) ∈ lw_gd := List.mem_filter.mpr ⟨List.mem_append_right _ (List.mem_of_getElem? (i := 464) (by decide +kernel)), rfl⟩
theorem itb_M : (Cond.instantiable R_M 15 : Cond) ∈ lw_gd := List.mem_filter.mpr ⟨List.mem_append_right _ (List.mem_of_getElem? (i := 465) (by decide +kernel)), rfl⟩
theorem mlk_W_12 : (Cond.methodLink "HornLearnerLaw" 12 y_M_init : Cond) ∈ lw_gd := List.mem_filter.mpr ⟨List.mem_append_right _ (List.mem_of_getElem? (i := 466) (by decide +kernel)), rfl⟩
theorem ins_M_init : (Cond.instanceMethod y_M_init : Cond) ∈ lw_gd := List.mem_filter.mpr ⟨List.mem_append_right _ (List.mem_of_getElem? (i := 467) (by decide +kernel)), rfl⟩
theorem mlk_M_1 : (Cond.methodLink R_M 1 objectInit : Cond) ∈ lw_gd := List.mem_filter.mpr ⟨List.mem_append_right _ (List.mem_of_getElem? (i := 469) (by decide +kernel)), rfl⟩
theorem flk_M_7 : (Cond.fieldLink R_M 7 "HornLearnerModel" "line" "[I" : Cond) ∈ lw_gd := List.mem_filter.mpr ⟨List.mem_append_right _ (List.mem_of_getElem? (i := 470) (by decide +kernel)), rfl⟩
theorem flk_M_41 : (Cond.fieldLink R_M 41 "HornLearnerModel" "typed" "I" : Cond) ∈ lw_gd := List.mem_filter.mpr ⟨List.mem_append_right _ (List.mem_of_getElem? (i := 471) (by decide +kernel)), rfl⟩
theorem flk_M_13 : (Cond.fieldLink R_M 13 "HornLearnerModel" "fact" "[Z" : Cond) ∈ lw_gd := List.mem_filter.mpr ⟨List.mem_append_right _ (List.mem_of_getElem? (i := 472) (by decide +kernel)), rfl⟩
theorem flk_M_17 : (Cond.fieldLink R_M 17 "HornLearnerModel" "marked" "[I" : Cond) ∈ lw_gd := List.mem_filter.mpr ⟨List.mem_append_right _ (List.mem_of_getElem? (i := 473) (by decide +kernel)), rfl⟩
theorem flk_M_85 : (Cond.fieldLink R_M 85 "HornLearnerModel" "count" "I" : Cond) ∈ lw_gd := List.mem_filter.mpr ⟨List.mem_append_right _ (List.mem_of_getElem? (i := 474) (by decide +kernel)), rfl⟩
theorem flk_M_20 : (Cond.fieldLink R_M 20 "HornLearnerModel" "many" "[I" : Cond) ∈ lw_gd := List.mem_filter.mpr ⟨List.mem_append_right _ (List.mem_of_getElem? (i := 475) (by decide +kernel)), rfl⟩
theorem flk_M_23 : (Cond.fieldLink R_M 23 "HornLearnerModel" "codes" "[I" : Cond) ∈ lw_gd := List.mem_filter.mpr ⟨List.mem_append_right _ (List.mem_of_getElem? (i := 476) (by decide +kernel)), rfl⟩
theorem flk_M_135 : (Cond.fieldLink R_M 135 "HornLearnerModel" "oldCount" "I" : Cond) ∈ lw_gd := List.mem_filter.mpr ⟨List.mem_append_right _ (List.mem_of_getElem? (i := 477) (by decide +kernel)), rfl⟩
theorem flk_M_26 : (Cond.fieldLink R_M 26 "HornLearnerModel" "oldMany" "[I" : Cond) ∈ lw_gd := List.mem_filter.mpr ⟨List.mem_append_right _ (List.mem_of_getElem? (i := 478) (by decide +kernel)), rfl⟩
theorem flk_M_29 : (Cond.fieldLink R_M 29 "HornLearnerModel" "oldCodes" "[I" : Cond) ∈ lw_gd := List.mem_filter.mpr ⟨List.mem_append_right _ (List.mem_of_getElem? (i := 479) (by decide +kernel)), rfl⟩
theorem flk_M_73 : (Cond.fieldLink R_M 73 "HornLearnerModel" "read" "I" : Cond) ∈ lw_gd := List.mem_filter.mpr ⟨List.mem_append_right _ (List.mem_of_getElem? (i := 480) (by decide +kernel)), rfl⟩
theorem flk_M_32 : (Cond.fieldLink R_M 32 "HornLearnerModel" "body" "[I" : Cond) ∈ lw_gd := List.mem_filter.mpr ⟨List.mem_append_right _ (List.mem_of_getElem? (i := 481) (by decide +kernel)), rfl⟩
theorem flk_M_35 : (Cond.fieldLink R_M 35 "HornLearnerModel" "roundOf" "[I" : Cond) ∈ lw_gd := List.mem_filter.mpr ⟨List.mem_append_right _ (List.mem_of_getElem? (i := 482) (by decide +kernel)), rfl⟩
theorem flk_M_38 : (Cond.fieldLink R_M 38 "HornLearnerModel" "fresh" "[Z" : Cond) ∈ lw_gd := List.mem_filter.mpr ⟨List.mem_append_right _ (List.mem_of_getElem? (i := 483) (by decide +kernel)), rfl⟩
theorem flk_M_126 : (Cond.fieldLink R_M 126 "HornLearnerModel" "last" "I" : Cond) ∈ lw_gd := List.mem_filter.mpr ⟨List.mem_append_right _ (List.mem_of_getElem? (i := 484) (by decide +kernel)), rfl⟩
theorem arc_boolean : (Cond.arrayClass .boolean : Cond) ∈ lw_gd := List.mem_filter.mpr ⟨List.mem_append_right _ (List.mem_of_getElem? (i := 516) (by decide +kernel)), rfl⟩
theorem mlk_W_17 : (Cond.methodLink "HornLearnerLaw" 17 y_M_key : Cond) ∈ lw_gd := List.mem_filter.mpr ⟨List.mem_append_right _ (List.mem_of_getElem? (i := 517) (by decide +kernel)), rfl⟩
theorem ins_M_key : (Cond.instanceMethod y_M_key : Cond) ∈ lw_gd := List.mem_filter.mpr ⟨List.mem_append_right _ (List.mem_of_getElem? (i := 518) (by decide +kernel)), rfl⟩
theorem sel_M_key : (Cond.selects R_M y_M_key y_M_key : Cond) ∈ lw_gd := List.mem_filter.mpr ⟨List.mem_append_right _ (List.mem_of_getElem? (i := 519) (by decide +kernel)), rfl⟩
theorem mlk_W_22 : (Cond.methodLink "HornLearnerLaw" 22 y_M_back : Cond) ∈ lw_gd := List.mem_filter.mpr ⟨List.mem_append_right _ (List.mem_of_getElem? (i := 521) (by decide +kernel)), rfl⟩
theorem ins_M_back : (Cond.instanceMethod y_M_back : Cond) ∈ lw_gd := List.mem_filter.mpr ⟨List.mem_append_right _ (List.mem_of_getElem? (i := 522) (by decide +kernel)), rfl⟩
theorem sel_M_back : (Cond.selects R_M y_M_back y_M_back : Cond) ∈ lw_gd := List.mem_filter.mpr ⟨List.mem_append_right _ (List.mem_of_getElem? (i := 523) (by decide +kernel)), rfl⟩
theorem mlk_W_27 : (Cond.methodLink "HornLearnerLaw" 27 y_M_enter : Cond) ∈ lw_gd := List.mem_filter.mpr ⟨List.mem_append_right _ (List.mem_of_getElem? (i := 525) (by decide +kernel)), rfl⟩
theorem ins_M_enter : (Cond.instanceMethod y_M_enter : Cond) ∈ lw_gd := List.mem_filter.mpr ⟨List.mem_append_right _ (List.mem_of_getElem? (i := 526) (by decide +kernel)), rfl⟩
theorem sel_M_enter : (Cond.selects R_M y_M_enter y_M_enter : Cond) ∈ lw_gd := List.mem_filter.mpr ⟨List.mem_append_right _ (List.mem_of_getElem? (i := 527) (by decide +kernel)), rfl⟩
theorem mlk_M_91 : (Cond.methodLink R_M 91 y_M_fault : Cond) ∈ lw_gd := List.mem_filter.mpr ⟨List.mem_append_right _ (List.mem_of_getElem? (i := 529) (by decide +kernel)), rfl⟩
theorem ins_M_fault : (Cond.instanceMethod y_M_fault : Cond) ∈ lw_gd := List.mem_filter.mpr ⟨List.mem_append_right _ (List.mem_of_getElem? (i := 531) (by decide +kernel)), rfl⟩
theorem mlk_M_66 : (Cond.methodLink R_M 66 y_M_goesOn : Cond) ∈ lw_gd := List.mem_filter.mpr ⟨List.mem_append_right _ (List.mem_of_getElem? (i := 533) (by decide +kernel)), rfl⟩
theorem ins_M_goesOn : (Cond.instanceMethod y_M_goesOn : Cond) ∈ lw_gd := List.mem_filter.mpr ⟨List.mem_append_right _ (List.mem_of_getElem? (i := 535) (by decide +kernel)), rfl⟩
theorem mlk_M_49 : (Cond.methodLink R_M 49 y_M_isRelation : Cond) ∈ lw_gd := List.mem_filter.mpr ⟨List.mem_append_right _ (List.mem_of_getElem? (i := 537) (by decide +kernel)), rfl⟩
theorem sta_M_isRelation : (Cond.static y_M_isRelation : Cond) ∈ lw_gd := List.mem_filter.mpr ⟨List.mem_append_right _ (List.mem_of_getElem? (i := 538) (by decide +kernel)), rfl⟩
theorem mlk_M_55 : (Cond.methodLink R_M 55 y_M_head : Cond) ∈ lw_gd := List.mem_filter.mpr ⟨List.mem_append_right _ (List.mem_of_getElem? (i := 540) (by decide +kernel)), rfl⟩
theorem sta_M_head : (Cond.static y_M_head : Cond) ∈ lw_gd := List.mem_filter.mpr ⟨List.mem_append_right _ (List.mem_of_getElem? (i := 541) (by decide +kernel)), rfl⟩
theorem mlk_M_59 : (Cond.methodLink R_M 59 y_M_inBody : Cond) ∈ lw_gd := List.mem_filter.mpr ⟨List.mem_append_right _ (List.mem_of_getElem? (i := 543) (by decide +kernel)), rfl⟩
theorem sta_M_inBody : (Cond.static y_M_inBody : Cond) ∈ lw_gd := List.mem_filter.mpr ⟨List.mem_append_right _ (List.mem_of_getElem? (i := 544) (by decide +kernel)), rfl⟩
theorem mlk_M_52 : (Cond.methodLink R_M 52 y_M_isVariable : Cond) ∈ lw_gd := List.mem_filter.mpr ⟨List.mem_append_right _ (List.mem_of_getElem? (i := 546) (by decide +kernel)), rfl⟩
theorem sta_M_isVariable : (Cond.static y_M_isVariable : Cond) ∈ lw_gd := List.mem_filter.mpr ⟨List.mem_append_right _ (List.mem_of_getElem? (i := 547) (by decide +kernel)), rfl⟩
theorem mlk_M_63 : (Cond.methodLink R_M 63 y_M_argument : Cond) ∈ lw_gd := List.mem_filter.mpr ⟨List.mem_append_right _ (List.mem_of_getElem? (i := 549) (by decide +kernel)), rfl⟩
theorem sta_M_argument : (Cond.static y_M_argument : Cond) ∈ lw_gd := List.mem_filter.mpr ⟨List.mem_append_right _ (List.mem_of_getElem? (i := 550) (by decide +kernel)), rfl⟩
theorem mlk_M_45 : (Cond.methodLink R_M 45 y_M_isConstant : Cond) ∈ lw_gd := List.mem_filter.mpr ⟨List.mem_append_right _ (List.mem_of_getElem? (i := 552) (by decide +kernel)), rfl⟩
theorem sta_M_isConstant : (Cond.static y_M_isConstant : Cond) ∈ lw_gd := List.mem_filter.mpr ⟨List.mem_append_right _ (List.mem_of_getElem? (i := 553) (by decide +kernel)), rfl⟩
theorem mlk_M_69 : (Cond.methodLink R_M 69 y_M_whole : Cond) ∈ lw_gd := List.mem_filter.mpr ⟨List.mem_append_right _ (List.mem_of_getElem? (i := 555) (by decide +kernel)), rfl⟩
theorem ins_M_whole : (Cond.instanceMethod y_M_whole : Cond) ∈ lw_gd := List.mem_filter.mpr ⟨List.mem_append_right _ (List.mem_of_getElem? (i := 557) (by decide +kernel)), rfl⟩
theorem mlk_M_95 : (Cond.methodLink R_M 95 y_M_enterClause : Cond) ∈ lw_gd := List.mem_filter.mpr ⟨List.mem_append_right _ (List.mem_of_getElem? (i := 559) (by decide +kernel)), rfl⟩
theorem ins_M_enterClause : (Cond.instanceMethod y_M_enterClause : Cond) ∈ lw_gd := List.mem_filter.mpr ⟨List.mem_append_right _ (List.mem_of_getElem? (i := 561) (by decide +kernel)), rfl⟩
theorem mlk_M_79 : (Cond.methodLink R_M 79 y_M_readBody : Cond) ∈ lw_gd := List.mem_filter.mpr ⟨List.mem_append_right _ (List.mem_of_getElem? (i := 563) (by decide +kernel)), rfl⟩
theorem ins_M_readBody : (Cond.instanceMethod y_M_readBody : Cond) ∈ lw_gd := List.mem_filter.mpr ⟨List.mem_append_right _ (List.mem_of_getElem? (i := 565) (by decide +kernel)), rfl⟩
theorem mlk_M_76 : (Cond.methodLink R_M 76 y_M_relationOf : Cond) ∈ lw_gd := List.mem_filter.mpr ⟨List.mem_append_right _ (List.mem_of_getElem? (i := 567) (by decide +kernel)), rfl⟩
theorem sta_M_relationOf : (Cond.static y_M_relationOf : Cond) ∈ lw_gd := List.mem_filter.mpr ⟨List.mem_append_right _ (List.mem_of_getElem? (i := 568) (by decide +kernel)), rfl⟩
theorem mlk_M_82 : (Cond.methodLink R_M 82 y_M_variables : Cond) ∈ lw_gd := List.mem_filter.mpr ⟨List.mem_append_right _ (List.mem_of_getElem? (i := 570) (by decide +kernel)), rfl⟩
theorem sta_M_variables : (Cond.static y_M_variables : Cond) ∈ lw_gd := List.mem_filter.mpr ⟨List.mem_append_right _ (List.mem_of_getElem? (i := 571) (by decide +kernel)), rfl⟩
theorem mlk_M_88 : (Cond.methodLink R_M 88 y_M_known : Cond) ∈ lw_gd := List.mem_filter.mpr ⟨List.mem_append_right _ (List.mem_of_getElem? (i := 573) (by decide +kernel)), rfl⟩
theorem ins_M_known : (Cond.instanceMethod y_M_known : Cond) ∈ lw_gd := List.mem_filter.mpr ⟨List.mem_append_right _ (List.mem_of_getElem? (i := 575) (by decide +kernel)), rfl⟩
theorem mlk_M_98 : (Cond.methodLink R_M 98 y_M_enterMark : Cond) ∈ lw_gd := List.mem_filter.mpr ⟨List.mem_append_right _ (List.mem_of_getElem? (i := 577) (by decide +kernel)), rfl⟩
theorem ins_M_enterMark : (Cond.instanceMethod y_M_enterMark : Cond) ∈ lw_gd := List.mem_filter.mpr ⟨List.mem_append_right _ (List.mem_of_getElem? (i := 579) (by decide +kernel)), rfl⟩
theorem mlk_M_102 : (Cond.methodLink R_M 102 y_M_enterFact : Cond) ∈ lw_gd := List.mem_filter.mpr ⟨List.mem_append_right _ (List.mem_of_getElem? (i := 581) (by decide +kernel)), rfl⟩
theorem ins_M_enterFact : (Cond.instanceMethod y_M_enterFact : Cond) ∈ lw_gd := List.mem_filter.mpr ⟨List.mem_append_right _ (List.mem_of_getElem? (i := 583) (by decide +kernel)), rfl⟩
theorem mlk_W_32 : (Cond.methodLink "HornLearnerLaw" 32 y_M_facts : Cond) ∈ lw_gd := List.mem_filter.mpr ⟨List.mem_append_right _ (List.mem_of_getElem? (i := 585) (by decide +kernel)), rfl⟩
theorem ins_M_facts : (Cond.instanceMethod y_M_facts : Cond) ∈ lw_gd := List.mem_filter.mpr ⟨List.mem_append_right _ (List.mem_of_getElem? (i := 586) (by decide +kernel)), rfl⟩
theorem sel_M_facts : (Cond.selects R_M y_M_facts y_M_facts : Cond) ∈ lw_gd := List.mem_filter.mpr ⟨List.mem_append_right _ (List.mem_of_getElem? (i := 587) (by decide +kernel)), rfl⟩
theorem mlk_W_37 : (Cond.methodLink "HornLearnerLaw" 37 y_M_holds : Cond) ∈ lw_gd := List.mem_filter.mpr ⟨List.mem_append_right _ (List.mem_of_getElem? (i := 589) (by decide +kernel)), rfl⟩
theorem ins_M_holds : (Cond.instanceMethod y_M_holds : Cond) ∈ lw_gd := List.mem_filter.mpr ⟨List.mem_append_right _ (List.mem_of_getElem? (i := 590) (by decide +kernel)), rfl⟩
theorem sel_M_holds : (Cond.selects R_M y_M_holds y_M_holds : Cond) ∈ lw_gd := List.mem_filter.mpr ⟨List.mem_append_right _ (List.mem_of_getElem? (i := 591) (by decide +kernel)), rfl⟩
theorem mlk_M_106 : (Cond.methodLink R_M 106 y_M_constant : Cond) ∈ lw_gd := List.mem_filter.mpr ⟨List.mem_append_right _ (List.mem_of_getElem? (i := 593) (by decide +kernel)), rfl⟩
theorem sta_M_constant : (Cond.static y_M_constant : Cond) ∈ lw_gd := List.mem_filter.mpr ⟨List.mem_append_right _ (List.mem_of_getElem? (i := 594) (by decide +kernel)), rfl⟩
theorem mlk_W_42 : (Cond.methodLink "HornLearnerLaw" 42 y_M_mark : Cond) ∈ lw_gd := List.mem_filter.mpr ⟨List.mem_append_right _ (List.mem_of_getElem? (i := 596) (by decide +kernel)), rfl⟩
theorem ins_M_mark : (Cond.instanceMethod y_M_mark : Cond) ∈ lw_gd := List.mem_filter.mpr ⟨List.mem_append_right _ (List.mem_of_getElem? (i := 597) (by decide +kernel)), rfl⟩
theorem sel_M_mark : (Cond.selects R_M y_M_mark y_M_mark : Cond) ∈ lw_gd := List.mem_filter.mpr ⟨List.mem_append_right _ (List.mem_of_getElem? (i := 598) (by decide +kernel)), rfl⟩
theorem mlk_W_47 : (Cond.methodLink "HornLearnerLaw" 47 y_M_drop : Cond) ∈ lw_gd := List.mem_filter.mpr ⟨List.mem_append_right _ (List.mem_of_getElem? (i := 600) (by decide +kernel)), rfl⟩
theorem ins_M_drop : (Cond.instanceMethod y_M_drop : Cond) ∈ lw_gd := List.mem_filter.mpr ⟨List.mem_append_right _ (List.mem_of_getElem? (i := 601) (by decide +kernel)), rfl⟩
theorem sel_M_drop : (Cond.selects R_M y_M_drop y_M_drop : Cond) ∈ lw_gd := List.mem_filter.mpr ⟨List.mem_append_right _ (List.mem_of_getElem? (i := 602) (by decide +kernel)), rfl⟩
theorem mlk_M_109 : (Cond.methodLink R_M 109 y_M_clause : Cond) ∈ lw_gd := List.mem_filter.mpr ⟨List.mem_append_right _ (List.mem_of_getElem? (i := 604) (by decide +kernel)), rfl⟩
theorem ins_M_clause : (Cond.instanceMethod y_M_clause : Cond) ∈ lw_gd := List.mem_filter.mpr ⟨List.mem_append_right _ (List.mem_of_getElem? (i := 606) (by decide +kernel)), rfl⟩
theorem mlk_W_51 : (Cond.methodLink "HornLearnerLaw" 51 y_M_clauses : Cond) ∈ lw_gd := List.mem_filter.mpr ⟨List.mem_append_right _ (List.mem_of_getElem? (i := 608) (by decide +kernel)), rfl⟩
theorem ins_M_clauses : (Cond.instanceMethod y_M_clauses : Cond) ∈ lw_gd := List.mem_filter.mpr ⟨List.mem_append_right _ (List.mem_of_getElem? (i := 609) (by decide +kernel)), rfl⟩
theorem sel_M_clauses : (Cond.selects R_M y_M_clauses y_M_clauses : Cond) ∈ lw_gd := List.mem_filter.mpr ⟨List.mem_append_right _ (List.mem_of_getElem? (i := 610) (by decide +kernel)), rfl⟩
theorem mlk_W_55 : (Cond.methodLink "HornLearnerLaw" 55 y_M_literals : Cond) ∈ lw_gd := List.mem_filter.mpr ⟨List.mem_append_right _ (List.mem_of_getElem? (i := 612) (by decide +kernel)), rfl⟩
theorem ins_M_literals : (Cond.instanceMethod y_M_literals : Cond) ∈ lw_gd := List.mem_filter.mpr ⟨List.mem_append_right _ (List.mem_of_getElem? (i := 613) (by decide +kernel)), rfl⟩
theorem sel_M_literals : (Cond.selects R_M y_M_literals y_M_literals : Cond) ∈ lw_gd := List.mem_filter.mpr ⟨List.mem_append_right _ (List.mem_of_getElem? (i := 614) (by decide +kernel)), rfl⟩
theorem mlk_W_59 : (Cond.methodLink "HornLearnerLaw" 59 y_M_literal : Cond) ∈ lw_gd := List.mem_filter.mpr ⟨List.mem_append_right _ (List.mem_of_getElem? (i := 616) (by decide +kernel)), rfl⟩
theorem ins_M_literal : (Cond.instanceMethod y_M_literal : Cond) ∈ lw_gd := List.mem_filter.mpr ⟨List.mem_append_right _ (List.mem_of_getElem? (i := 617) (by decide +kernel)), rfl⟩
theorem sel_M_literal : (Cond.selects R_M y_M_literal y_M_literal : Cond) ∈ lw_gd := List.mem_filter.mpr ⟨List.mem_append_right _ (List.mem_of_getElem? (i := 618) (by decide +kernel)), rfl⟩
theorem mlk_W_63 : (Cond.methodLink "HornLearnerLaw" 63 y_M_letter : Cond) ∈ lw_gd := List.mem_filter.mpr ⟨List.mem_append_right _ (List.mem_of_getElem? (i := 620) (by decide +kernel)), rfl⟩
theorem ins_M_letter : (Cond.instanceMethod y_M_letter : Cond) ∈ lw_gd := List.mem_filter.mpr ⟨List.mem_append_right _ (List.mem_of_getElem? (i := 621) (by decide +kernel)), rfl⟩
theorem sel_M_letter : (Cond.selects R_M y_M_letter y_M_letter : Cond) ∈ lw_gd := List.mem_filter.mpr ⟨List.mem_append_right _ (List.mem_of_getElem? (i := 622) (by decide +kernel)), rfl⟩
theorem mlk_M_112 : (Cond.methodLink R_M 112 y_M_letterOf : Cond) ∈ lw_gd := List.mem_filter.mpr ⟨List.mem_append_right _ (List.mem_of_getElem? (i := 624) (by decide +kernel)), rfl⟩
theorem sta_M_letterOf : (Cond.static y_M_letterOf : Cond) ∈ lw_gd := List.mem_filter.mpr ⟨List.mem_append_right _ (List.mem_of_getElem? (i := 625) (by decide +kernel)), rfl⟩
theorem mlk_W_68 : (Cond.methodLink "HornLearnerLaw" 68 y_M_subsumes : Cond) ∈ lw_gd := List.mem_filter.mpr ⟨List.mem_append_right _ (List.mem_of_getElem? (i := 627) (by decide +kernel)), rfl⟩
theorem ins_M_subsumes : (Cond.instanceMethod y_M_subsumes : Cond) ∈ lw_gd := List.mem_filter.mpr ⟨List.mem_append_right _ (List.mem_of_getElem? (i := 628) (by decide +kernel)), rfl⟩
theorem sel_M_subsumes : (Cond.selects R_M y_M_subsumes y_M_subsumes : Cond) ∈ lw_gd := List.mem_filter.mpr ⟨List.mem_append_right _ (List.mem_of_getElem? (i := 629) (by decide +kernel)), rfl⟩
theorem mlk_M_115 : (Cond.methodLink R_M 115 y_M_replaced : Cond) ∈ lw_gd := List.mem_filter.mpr ⟨List.mem_append_right _ (List.mem_of_getElem? (i := 631) (by decide +kernel)), rfl⟩
theorem sta_M_replaced : (Cond.static y_M_replaced : Cond) ∈ lw_gd := List.mem_filter.mpr ⟨List.mem_append_right _ (List.mem_of_getElem? (i := 632) (by decide +kernel)), rfl⟩
theorem mlk_W_72 : (Cond.methodLink "HornLearnerLaw" 72 y_M_given : Cond) ∈ lw_gd := List.mem_filter.mpr ⟨List.mem_append_right _ (List.mem_of_getElem? (i := 634) (by decide +kernel)), rfl⟩
theorem ins_M_given : (Cond.instanceMethod y_M_given : Cond) ∈ lw_gd := List.mem_filter.mpr ⟨List.mem_append_right _ (List.mem_of_getElem? (i := 635) (by decide +kernel)), rfl⟩
theorem sel_M_given : (Cond.selects R_M y_M_given y_M_given : Cond) ∈ lw_gd := List.mem_filter.mpr ⟨List.mem_append_right _ (List.mem_of_getElem? (i := 636) (by decide +kernel)), rfl⟩
theorem mlk_M_132 : (Cond.methodLink R_M 132 y_M_work : Cond) ∈ lw_gd := List.mem_filter.mpr ⟨List.mem_append_right _ (List.mem_of_getElem? (i := 638) (by decide +kernel)), rfl⟩
theorem ins_M_work : (Cond.instanceMethod y_M_work : Cond) ∈ lw_gd := List.mem_filter.mpr ⟨List.mem_append_right _ (List.mem_of_getElem? (i := 640) (by decide +kernel)), rfl⟩
theorem mlk_M_129 : (Cond.methodLink R_M 129 y_M_follows : Cond) ∈ lw_gd := List.mem_filter.mpr ⟨List.mem_append_right _ (List.mem_of_getElem? (i := 642) (by decide +kernel)), rfl⟩
theorem ins_M_follows : (Cond.instanceMethod y_M_follows : Cond) ∈ lw_gd := List.mem_filter.mpr ⟨List.mem_append_right _ (List.mem_of_getElem? (i := 644) (by decide +kernel)), rfl⟩
theorem mlk_M_122 : (Cond.methodLink R_M 122 y_M_literalHolds : Cond) ∈ lw_gd := List.mem_filter.mpr ⟨List.mem_append_right _ (List.mem_of_getElem? (i := 646) (by decide +kernel)), rfl⟩
theorem ins_M_literalHolds : (Cond.instanceMethod y_M_literalHolds : Cond) ∈ lw_gd := List.mem_filter.mpr ⟨List.mem_append_right _ (List.mem_of_getElem? (i := 648) (by decide +kernel)), rfl⟩
theorem mlk_M_118 : (Cond.methodLink R_M 118 y_M_valueOf : Cond) ∈ lw_gd := List.mem_filter.mpr ⟨List.mem_append_right _ (List.mem_of_getElem? (i := 650) (by decide +kernel)), rfl⟩
theorem sta_M_valueOf : (Cond.static y_M_valueOf : Cond) ∈ lw_gd := List.mem_filter.mpr ⟨List.mem_append_right _ (List.mem_of_getElem? (i := 651) (by decide +kernel)), rfl⟩
theorem mlk_W_76 : (Cond.methodLink "HornLearnerLaw" 76 y_M_rounds : Cond) ∈ lw_gd := List.mem_filter.mpr ⟨List.mem_append_right _ (List.mem_of_getElem? (i := 653) (by decide +kernel)), rfl⟩
theorem ins_M_rounds : (Cond.instanceMethod y_M_rounds : Cond) ∈ lw_gd := List.mem_filter.mpr ⟨List.mem_append_right _ (List.mem_of_getElem? (i := 654) (by decide +kernel)), rfl⟩
theorem sel_M_rounds : (Cond.selects R_M y_M_rounds y_M_rounds : Cond) ∈ lw_gd := List.mem_filter.mpr ⟨List.mem_append_right _ (List.mem_of_getElem? (i := 655) (by decide +kernel)), rfl⟩
theorem mlk_W_80 : (Cond.methodLink "HornLearnerLaw" 80 y_M_fits : Cond) ∈ lw_gd := List.mem_filter.mpr ⟨List.mem_append_right _ (List.mem_of_getElem? (i := 657) (by decide +kernel)), rfl⟩
theorem ins_M_fits : (Cond.instanceMethod y_M_fits : Cond) ∈ lw_gd := List.mem_filter.mpr ⟨List.mem_append_right _ (List.mem_of_getElem? (i := 658) (by decide +kernel)), rfl⟩
theorem sel_M_fits : (Cond.selects R_M y_M_fits y_M_fits : Cond) ∈ lw_gd := List.mem_filter.mpr ⟨List.mem_append_right _ (List.mem_of_getElem? (i := 659) (by decide +kernel)), rfl⟩
theorem mlk_W_84 : (Cond.methodLink "HornLearnerLaw" 84 y_M_learn : Cond) ∈ lw_gd := List.mem_filter.mpr ⟨List.mem_append_right _ (List.mem_of_getElem? (i := 661) (by decide +kernel)), rfl⟩
theorem ins_M_learn : (Cond.instanceMethod y_M_learn : Cond) ∈ lw_gd := List.mem_filter.mpr ⟨List.mem_append_right _ (List.mem_of_getElem? (i := 662) (by decide +kernel)), rfl⟩
theorem sel_M_learn : (Cond.selects R_M y_M_learn y_M_learn : Cond) ∈ lw_gd := List.mem_filter.mpr ⟨List.mem_append_right _ (List.mem_of_getElem? (i := 663) (by decide +kernel)), rfl⟩
theorem mlk_M_144 : (Cond.methodLink R_M 144 y_M_keep : Cond) ∈ lw_gd := List.mem_filter.mpr ⟨List.mem_append_right _ (List.mem_of_getElem? (i := 665) (by decide +kernel)), rfl⟩
theorem ins_M_keep : (Cond.instanceMethod y_M_keep : Cond) ∈ lw_gd := List.mem_filter.mpr ⟨List.mem_append_right _ (List.mem_of_getElem? (i := 667) (by decide +kernel)), rfl⟩
theorem mlk_M_147 : (Cond.methodLink R_M 147 y_M_alone : Cond) ∈ lw_gd := List.mem_filter.mpr ⟨List.mem_append_right _ (List.mem_of_getElem? (i := 669) (by decide +kernel)), rfl⟩
theorem ins_M_alone : (Cond.instanceMethod y_M_alone : Cond) ∈ lw_gd := List.mem_filter.mpr ⟨List.mem_append_right _ (List.mem_of_getElem? (i := 671) (by decide +kernel)), rfl⟩
theorem mlk_M_138 : (Cond.methodLink R_M 138 y_M_set : Cond) ∈ lw_gd := List.mem_filter.mpr ⟨List.mem_append_right _ (List.mem_of_getElem? (i := 673) (by decide +kernel)), rfl⟩
theorem ins_M_set : (Cond.instanceMethod y_M_set : Cond) ∈ lw_gd := List.mem_filter.mpr ⟨List.mem_append_right _ (List.mem_of_getElem? (i := 675) (by decide +kernel)), rfl⟩
theorem mlk_M_141 : (Cond.methodLink R_M 141 y_M_fits : Cond) ∈ lw_gd := List.mem_filter.mpr ⟨List.mem_append_right _ (List.mem_of_getElem? (i := 677) (by decide +kernel)), rfl⟩
theorem mlk_M_150 : (Cond.methodLink R_M 150 y_M_pair : Cond) ∈ lw_gd := List.mem_filter.mpr ⟨List.mem_append_right _ (List.mem_of_getElem? (i := 678) (by decide +kernel)), rfl⟩
theorem ins_M_pair : (Cond.instanceMethod y_M_pair : Cond) ∈ lw_gd := List.mem_filter.mpr ⟨List.mem_append_right _ (List.mem_of_getElem? (i := 680) (by decide +kernel)), rfl⟩
theorem mlk_M_153 : (Cond.methodLink R_M 153 y_M_putBack : Cond) ∈ lw_gd := List.mem_filter.mpr ⟨List.mem_append_right _ (List.mem_of_getElem? (i := 682) (by decide +kernel)), rfl⟩
theorem ins_M_putBack : (Cond.instanceMethod y_M_putBack : Cond) ∈ lw_gd := List.mem_filter.mpr ⟨List.mem_append_right _ (List.mem_of_getElem? (i := 684) (by decide +kernel)), rfl⟩
theorem flk_S_9 : (Cond.fieldLink R_S 9 "java/lang/String" "value" "[B" : Cond) ∈ lw_gd := List.mem_filter.mpr ⟨List.mem_append_right _ (List.mem_of_getElem? (i := 686) (by decide +kernel)), rfl⟩
theorem flk_S_15 : (Cond.fieldLink R_S 15 "java/lang/String" "coder" "B" : Cond) ∈ lw_gd := List.mem_filter.mpr ⟨List.mem_append_right _ (List.mem_of_getElem? (i := 687) (by decide +kernel)), rfl⟩
def w_H_init : List Cond := .code y_H_init b_H_init 1 none :: lw_gd
def w_L_init : List Cond := .code y_L_init b_L_init 1 none :: lw_gd
def w_P_init : List Cond := .code y_P_init b_P_init 1 none :: lw_gd
def w_D_init : List Cond := .code y_D_init b_D_init 1 none :: lw_gd
def w_H_key : List Cond := .code y_H_key b_H_key 2 (some .boolean) :: lw_gd
def w_L_add : List Cond := .code y_L_add b_L_add 2 (some .boolean) :: lw_gd
def w_H_back : List Cond := .code y_H_back b_H_back 1 (some .boolean) :: lw_gd
def w_L_removeLast : List Cond := .code y_L_removeLast b_L_removeLast 1 (some .boolean) :: lw_gd
def w_H_enter : List Cond := .code y_H_enter b_H_enter 3 (some .int) :: lw_gd
def w_L_begunStatement : List Cond := .code y_L_begunStatement b_L_begunStatement 3 (some .int) :: lw_gd
def w_L_form : List Cond := .code y_L_form b_L_form 1 (some (.object "java/lang/String")) :: lw_gd
def w_L_at : List Cond := .code y_L_at b_L_at 2 (some .char) :: lw_gd
def w_S_length : List Cond := .code y_S_length b_S_length 1 (some .int) :: lw_gd
def w_S_coder : List Cond := .code y_S_coder b_S_coder 1 (some .byte) :: lw_gd
def w_S_charAt : List Cond := .code y_S_charAt b_S_charAt 2 (some .char) :: lw_gd
def w_S_isLatin1 : List Cond := .code y_S_isLatin1 b_S_isLatin1 1 (some .boolean) :: lw_gd
def w_T_charAt : List Cond := .code y_T_charAt b_T_charAt 2 (some .char) :: lw_gd
def w_S_checkIndex : List Cond := .code y_S_checkIndex b_S_checkIndex 2 none :: lw_gd
def w_Q_checkIndex : List Cond := .code y_Q_checkIndex b_Q_checkIndex 3 (some .int) :: lw_gd
def w_L_allows : List Cond := .code y_L_allows b_L_allows 2 (some .boolean) :: lw_gd
def w_L_endsStatement : List Cond := .code y_L_endsStatement b_L_endsStatement 2 (some .boolean) :: lw_gd
def w_L_typedLiterals : List Cond := .code y_L_typedLiterals b_L_typedLiterals 1 (some .int) :: lw_gd
def w_H_carryOutLine : List Cond := .code y_H_carryOutLine b_H_carryOutLine 4 (some .int) :: lw_gd
def w_L_typedBody : List Cond := .code y_L_typedBody b_L_typedBody 6 (some .int) :: lw_gd
def w_S_indexOf1 : List Cond := .code y_S_indexOf1 b_S_indexOf1 2 (some .int) :: lw_gd
def w_S_indexOf2 : List Cond := .code y_S_indexOf2 b_S_indexOf2 3 (some .int) :: lw_gd
def w_T_indexOf : List Cond := .code y_T_indexOf b_T_indexOf 4 (some .int) :: lw_gd
def w_T_canEncode : List Cond := .code y_T_canEncode b_T_canEncode 1 (some .boolean) :: lw_gd
def w_A_max : List Cond := .code y_A_max b_A_max 2 (some .int) :: lw_gd
def w_A_min : List Cond := .code y_A_min b_A_min 2 (some .int) :: lw_gd
def w_T_indexOfChar : List Cond := .code y_T_indexOfChar b_T_indexOfChar 6 (some .int) :: lw_gd
def w_S_checkBoundsBeginEnd : List Cond := .code y_S_checkBoundsBeginEnd b_S_checkBoundsBeginEnd 3 none :: lw_gd
def w_Q_checkFromToIndex : List Cond := .code y_Q_checkFromToIndex b_Q_checkFromToIndex 4 (some .int) :: lw_gd
def w_H_codeOf : List Cond := .code y_H_codeOf b_H_codeOf 3 (some .int) :: lw_gd
def w_H_addClause : List Cond := .code y_H_addClause b_H_addClause 3 (some .int) :: lw_gd
def w_I_bitCount : List Cond := .code y_I_bitCount b_I_bitCount 1 (some .int) :: lw_gd
def w_H_hasHeadVariables : List Cond := .code y_H_hasHeadVariables b_H_hasHeadVariables 1 (some .boolean) :: lw_gd
def w_P_contains : List Cond := .code y_P_contains b_P_contains 2 (some .boolean) :: lw_gd
def w_P_bodyOf : List Cond := .code y_P_bodyOf b_P_bodyOf 2 (some .int) :: lw_gd
def w_P_append : List Cond := .code y_P_append b_P_append 2 (some .int) :: lw_gd
def w_L_typedPair : List Cond := .code y_L_typedPair b_L_typedPair 1 (some .int) :: lw_gd
def w_H_pairBit : List Cond := .code y_H_pairBit b_H_pairBit 3 (some .int) :: lw_gd
def w_H_changeMarks : List Cond := .code y_H_changeMarks b_H_changeMarks 4 (some .int) :: lw_gd
def w_H_changeFacts : List Cond := .code y_H_changeFacts b_H_changeFacts 5 (some .int) :: lw_gd
def w_H_isFactRelation : List Cond := .code y_H_isFactRelation b_H_isFactRelation 1 (some .boolean) :: lw_gd
def w_L_clear : List Cond := .code y_L_clear b_L_clear 1 none :: lw_gd
def w_H_facts : List Cond := .code y_H_facts b_H_facts 2 (some .int) :: lw_gd
def w_H_holds : List Cond := .code y_H_holds b_H_holds 4 (some .boolean) :: lw_gd
def w_H_mark : List Cond := .code y_H_mark b_H_mark 4 (some .int) :: lw_gd
def w_H_drop : List Cond := .code y_H_drop b_H_drop 2 (some .boolean) :: lw_gd
def w_P_remove : List Cond := .code y_P_remove b_P_remove 2 (some .boolean) :: lw_gd
def w_H_clauses : List Cond := .code y_H_clauses b_H_clauses 1 (some .int) :: lw_gd
def w_H_literals : List Cond := .code y_H_literals b_H_literals 3 (some .int) :: lw_gd
def w_H_literal : List Cond := .code y_H_literal b_H_literal 3 (some .int) :: lw_gd
def w_H_codeAt : List Cond := .code y_H_codeAt b_H_codeAt 4 (some .int) :: lw_gd
def w_H_withoutLeastCode : List Cond := .code y_H_withoutLeastCode b_H_withoutLeastCode 1 (some .int) :: lw_gd
def w_H_leastCode : List Cond := .code y_H_leastCode b_H_leastCode 1 (some .int) :: lw_gd
def w_H_letter : List Cond := .code y_H_letter b_H_letter 2 (some .int) :: lw_gd
def w_P_letterAt : List Cond := .code y_P_letterAt b_P_letterAt 5 (some .int) :: lw_gd
def w_P_textLength : List Cond := .code y_P_textLength b_P_textLength 1 (some .int) :: lw_gd
def w_P_letterOf : List Cond := .code y_P_letterOf b_P_letterOf 3 (some .int) :: lw_gd
def w_H_relationOf : List Cond := .code y_H_relationOf b_H_relationOf 1 (some .int) :: lw_gd
def w_H_firstVariableOf : List Cond := .code y_H_firstVariableOf b_H_firstVariableOf 1 (some .int) :: lw_gd
def w_H_secondVariableOf : List Cond := .code y_H_secondVariableOf b_H_secondVariableOf 1 (some .int) :: lw_gd
def w_H_subsumes : List Cond := .code y_H_subsumes b_H_subsumes 6 (some .boolean) :: lw_gd
def w_H_withVariableForZ : List Cond := .code y_H_withVariableForZ b_H_withVariableForZ 8 (some .int) :: lw_gd
def w_H_given : List Cond := .code y_H_given b_H_given 3 (some .int) :: lw_gd
def w_H_deduceProgram : List Cond := .code y_H_deduceProgram b_H_deduceProgram 1 none :: lw_gd
def w_D_takeFacts : List Cond := .code y_D_takeFacts b_D_takeFacts 5 none :: lw_gd
def w_D_choicesWhere : List Cond := .code y_D_choicesWhere b_D_choicesWhere 6 (some .long) :: lw_gd
def w_D_run : List Cond := .code y_D_run b_D_run 5 none :: lw_gd
def w_D_pairsFrom : List Cond := .code y_D_pairsFrom b_D_pairsFrom 7 (some .int) :: lw_gd
def w_D_roundOf : List Cond := .code y_D_roundOf b_D_roundOf 3 (some .int) :: lw_gd
def w_H_rounds : List Cond := .code y_H_rounds b_H_rounds 1 (some .int) :: lw_gd
def w_H_fits : List Cond := .code y_H_fits b_H_fits 1 (some .boolean) :: lw_gd
def w_H_deductionFits : List Cond := .code y_H_deductionFits b_H_deductionFits 1 (some .boolean) :: lw_gd
def w_H_learn : List Cond := .code y_H_learn b_H_learn 2 (some .int) :: lw_gd
def w_H_learnBody : List Cond := .code y_H_learnBody b_H_learnBody 6 (some .boolean) :: lw_gd
def w_H_takeIfFitting : List Cond := .code y_H_takeIfFitting b_H_takeIfFitting 3 (some .boolean) :: lw_gd
def w_P_become : List Cond := .code y_P_become b_P_become 3 none :: lw_gd
def w_H_learnTwoClauses : List Cond := .code y_H_learnTwoClauses b_H_learnTwoClauses 4 (some .boolean) :: lw_gd
def w_M_init : List Cond := .code y_M_init b_M_init 1 none :: lw_gd
def w_M_key : List Cond := .code y_M_key b_M_key 2 (some .boolean) :: lw_gd
def w_M_back : List Cond := .code y_M_back b_M_back 1 (some .boolean) :: lw_gd
def w_M_enter : List Cond := .code y_M_enter b_M_enter 5 (some .int) :: lw_gd
def w_M_fault : List Cond := .code y_M_fault b_M_fault 2 (some .int) :: lw_gd
def w_M_goesOn : List Cond := .code y_M_goesOn b_M_goesOn 4 (some .boolean) :: lw_gd
def w_M_isRelation : List Cond := .code y_M_isRelation b_M_isRelation 1 (some .boolean) :: lw_gd
def w_M_head : List Cond := .code y_M_head b_M_head 1 (some .int) :: lw_gd
def w_M_inBody : List Cond := .code y_M_inBody b_M_inBody 3 (some .boolean) :: lw_gd
def w_M_isVariable : List Cond := .code y_M_isVariable b_M_isVariable 1 (some .boolean) :: lw_gd
def w_M_argument : List Cond := .code y_M_argument b_M_argument 2 (some .boolean) :: lw_gd
def w_M_isConstant : List Cond := .code y_M_isConstant b_M_isConstant 1 (some .boolean) :: lw_gd
def w_M_whole : List Cond := .code y_M_whole b_M_whole 2 (some .boolean) :: lw_gd
def w_M_enterClause : List Cond := .code y_M_enterClause b_M_enterClause 4 (some .int) :: lw_gd
def w_M_readBody : List Cond := .code y_M_readBody b_M_readBody 4 none :: lw_gd
def w_M_relationOf : List Cond := .code y_M_relationOf b_M_relationOf 1 (some .int) :: lw_gd
def w_M_variables : List Cond := .code y_M_variables b_M_variables 1 (some .int) :: lw_gd
def w_M_known : List Cond := .code y_M_known b_M_known 4 (some .boolean) :: lw_gd
def w_M_enterMark : List Cond := .code y_M_enterMark b_M_enterMark 4 (some .int) :: lw_gd
def w_M_enterFact : List Cond := .code y_M_enterFact b_M_enterFact 4 (some .int) :: lw_gd
def w_M_facts : List Cond := .code y_M_facts b_M_facts 4 (some .int) :: lw_gd
def w_M_holds : List Cond := .code y_M_holds b_M_holds 4 (some .boolean) :: lw_gd
def w_M_constant : List Cond := .code y_M_constant b_M_constant 1 (some .boolean) :: lw_gd
def w_M_mark : List Cond := .code y_M_mark b_M_mark 3 (some .int) :: lw_gd
def w_M_drop : List Cond := .code y_M_drop b_M_drop 3 (some .boolean) :: lw_gd
def w_M_clause : List Cond := .code y_M_clause b_M_clause 2 (some .boolean) :: lw_gd
def w_M_clauses : List Cond := .code y_M_clauses b_M_clauses 1 (some .int) :: lw_gd
def w_M_literals : List Cond := .code y_M_literals b_M_literals 2 (some .int) :: lw_gd
def w_M_literal : List Cond := .code y_M_literal b_M_literal 3 (some .int) :: lw_gd
def w_M_letter : List Cond := .code y_M_letter b_M_letter 6 (some .int) :: lw_gd
def w_M_letterOf : List Cond := .code y_M_letterOf b_M_letterOf 2 (some .int) :: lw_gd
def w_M_subsumes : List Cond := .code y_M_subsumes b_M_subsumes 9 (some .boolean) :: lw_gd
def w_M_replaced : List Cond := .code y_M_replaced b_M_replaced 4 (some .int) :: lw_gd
def w_M_given : List Cond := .code y_M_given b_M_given 3 (some .int) :: lw_gd
def w_M_work : List Cond := .code y_M_work b_M_work 3 none :: lw_gd
def w_M_follows : List Cond := .code y_M_follows b_M_follows 7 (some .boolean) :: lw_gd
def w_M_literalHolds : List Cond := .code y_M_literalHolds b_M_literalHolds 8 (some .boolean) :: lw_gd
def w_M_valueOf : List Cond := .code y_M_valueOf b_M_valueOf 4 (some .int) :: lw_gd
def w_M_rounds : List Cond := .code y_M_rounds b_M_rounds 1 (some .int) :: lw_gd
def w_M_fits : List Cond := .code y_M_fits b_M_fits 3 (some .boolean) :: lw_gd
def w_M_learn : List Cond := .code y_M_learn b_M_learn 2 (some .int) :: lw_gd
def w_M_keep : List Cond := .code y_M_keep b_M_keep 2 none :: lw_gd
def w_M_alone : List Cond := .code y_M_alone b_M_alone 6 (some .boolean) :: lw_gd
def w_M_set : List Cond := .code y_M_set b_M_set 6 (some .boolean) :: lw_gd
def w_M_pair : List Cond := .code y_M_pair b_M_pair 7 (some .boolean) :: lw_gd
def w_M_putBack : List Cond := .code y_M_putBack b_M_putBack 2 none :: lw_gd
end
section
theorem sel_L_form : (Cond.selects R_L y_L_form y_L_form : Cond) ∈ lw_gd := List.mem_filter.mpr ⟨by decide +kernel, rfl⟩
theorem sel_H_carryOutLine : (Cond.selects R_H y_H_carryOutLine y_H_carryOutLine : Cond) ∈ lw_gd := List.mem_filter.mpr ⟨by decide +kernel, rfl⟩
theorem sel_H_addClause : (Cond.selects R_H y_H_addClause y_H_addClause : Cond) ∈ lw_gd := List.mem_filter.mpr ⟨by decide +kernel, rfl⟩
theorem sel_H_changeMarks : (Cond.selects R_H y_H_changeMarks y_H_changeMarks : Cond) ∈ lw_gd := List.mem_filter.mpr ⟨by decide +kernel, rfl⟩
theorem sel_H_changeFacts : (Cond.selects R_H y_H_changeFacts y_H_changeFacts : Cond) ∈ lw_gd := List.mem_filter.mpr ⟨by decide +kernel, rfl⟩
theorem sel_H_deduceProgram : (Cond.selects R_H y_H_deduceProgram y_H_deduceProgram : Cond) ∈ lw_gd := List.mem_filter.mpr ⟨by decide +kernel, rfl⟩
theorem sel_D_pairsFrom : (Cond.selects R_D y_D_pairsFrom y_D_pairsFrom : Cond) ∈ lw_gd := List.mem_filter.mpr ⟨by decide +kernel, rfl⟩
theorem sel_H_deductionFits : (Cond.selects R_H y_H_deductionFits y_H_deductionFits : Cond) ∈ lw_gd := List.mem_filter.mpr ⟨by decide +kernel, rfl⟩
theorem sel_H_takeIfFitting : (Cond.selects R_H y_H_takeIfFitting y_H_takeIfFitting : Cond) ∈ lw_gd := List.mem_filter.mpr ⟨by decide +kernel, rfl⟩
theorem sel_H_learnTwoClauses : (Cond.selects R_H y_H_learnTwoClauses y_H_learnTwoClauses : Cond) ∈ lw_gd := List.mem_filter.mpr ⟨by decide +kernel, rfl⟩
theorem sel_M_fault : (Cond.selects R_M y_M_fault y_M_fault : Cond) ∈ lw_gd := List.mem_filter.mpr ⟨by decide +kernel, rfl⟩
theorem sel_M_goesOn : (Cond.selects R_M y_M_goesOn y_M_goesOn : Cond) ∈ lw_gd := List.mem_filter.mpr ⟨by decide +kernel, rfl⟩
theorem sel_M_whole : (Cond.selects R_M y_M_whole y_M_whole : Cond) ∈ lw_gd := List.mem_filter.mpr ⟨by decide +kernel, rfl⟩
theorem sel_M_enterClause : (Cond.selects R_M y_M_enterClause y_M_enterClause : Cond) ∈ lw_gd := List.mem_filter.mpr ⟨by decide +kernel, rfl⟩
theorem sel_M_readBody : (Cond.selects R_M y_M_readBody y_M_readBody : Cond) ∈ lw_gd := List.mem_filter.mpr ⟨by decide +kernel, rfl⟩
theorem sel_M_known : (Cond.selects R_M y_M_known y_M_known : Cond) ∈ lw_gd := List.mem_filter.mpr ⟨by decide +kernel, rfl⟩
theorem sel_M_enterMark : (Cond.selects R_M y_M_enterMark y_M_enterMark : Cond) ∈ lw_gd := List.mem_filter.mpr ⟨by decide +kernel, rfl⟩
theorem sel_M_enterFact : (Cond.selects R_M y_M_enterFact y_M_enterFact : Cond) ∈ lw_gd := List.mem_filter.mpr ⟨by decide +kernel, rfl⟩
theorem sel_M_clause : (Cond.selects R_M y_M_clause y_M_clause : Cond) ∈ lw_gd := List.mem_filter.mpr ⟨by decide +kernel, rfl⟩
theorem sel_M_work : (Cond.selects R_M y_M_work y_M_work : Cond) ∈ lw_gd := List.mem_filter.mpr ⟨by decide +kernel, rfl⟩
theorem sel_M_follows : (Cond.selects R_M y_M_follows y_M_follows : Cond) ∈ lw_gd := List.mem_filter.mpr ⟨by decide +kernel, rfl⟩
theorem sel_M_literalHolds : (Cond.selects R_M y_M_literalHolds y_M_literalHolds : Cond) ∈ lw_gd := List.mem_filter.mpr ⟨by decide +kernel, rfl⟩
theorem sel_M_keep : (Cond.selects R_M y_M_keep y_M_keep : Cond) ∈ lw_gd := List.mem_filter.mpr ⟨by decide +kernel, rfl⟩
theorem sel_M_alone : (Cond.selects R_M y_M_alone y_M_alone : Cond) ∈ lw_gd := List.mem_filter.mpr ⟨by decide +kernel, rfl⟩
theorem sel_M_set : (Cond.selects R_M y_M_set y_M_set : Cond) ∈ lw_gd := List.mem_filter.mpr ⟨by decide +kernel, rfl⟩
theorem sel_M_pair : (Cond.selects R_M y_M_pair y_M_pair : Cond) ∈ lw_gd := List.mem_filter.mpr ⟨by decide +kernel, rfl⟩
theorem sel_M_putBack : (Cond.selects R_M y_M_putBack y_M_putBack : Cond) ∈ lw_gd := List.mem_filter.mpr ⟨by decide +kernel, rfl⟩
end
section
def strs : List (String × Nat × String × Nat) := [("HornLearner$Line", 58, "f(c,c)", 3), ("HornLearner$Line", 60, "~r(c,c)", 4), ("HornLearner$Line", 62, "+t(c,c)", 5), ("HornLearner$Line", 64, "-t(c,c)", 6), ("HornLearner$Line", 66, "t(X,Y):-r(v,v),r(v,v),r(v,v)", 7), ("HornLearner$Line", 68, "", 8), ("HornLearner$Line", 46, "abt", 0), ("HornLearner$Line", 52, "XYZ", 1), ("HornLearner", 136, "abt", 0), ("HornLearner$Program", 35, "t(X,Y):-", 2), ("HornLearner$Program", 46, "abt", 0), ("HornLearner$Program", 51, "XYZ", 1)]
def nsts : List (String × Nat × MethodName × String) := [("HornLearner$Line", 54, y_H_codeOf, "HornLearner"), ("HornLearner$Line", 42, y_H_pairBit, "HornLearner"), ("HornLearner$Program", 43, y_H_codeAt, "HornLearner"), ("HornLearner$Program", 48, y_H_relationOf, "HornLearner"), ("HornLearner$Program", 53, y_H_firstVariableOf, "HornLearner"), ("HornLearner$Program", 56, y_H_secondVariableOf, "HornLearner"), ("HornLearner$Deduction", 26, y_H_relationOf, "HornLearner"), ("HornLearner$Deduction", 30, y_H_firstVariableOf, "HornLearner"), ("HornLearner$Deduction", 33, y_H_secondVariableOf, "HornLearner"), ("HornLearner$Deduction", 45, y_H_leastCode, "HornLearner"), ("HornLearner$Deduction", 48, y_H_withoutLeastCode, "HornLearner")]
def kw (tb : Nat) (ak av : Nat → Nat) (A : Nat → Prop) (U : State) : Prop := va_Z "HornLearner$Deduction" "CHOICES_WITH" "[J" (.ref tb) A U U.heap ∧ va_T .long tb 12 (fun j => .long (tabL j)) A U U.heap ∧ vk_S 9 xlen xbyt ak av A U U.heap ∧ va_Z "java/lang/String" "COMPACT_STRINGS" "Z" (.int (nI 1)) A U U.heap ∧ va_Zq "jdk/internal/util/Preconditions" "SIOOBE_FORMATTER" "Ljava/util/function/BiFunction;" A U U.heap ∧ (∀ q ∈ strs, vk_R q.1 q.2.1 q.2.2.1 (ak q.2.2.2) U) ∧ ∀ q ∈ nsts, va_Nw (.methodLinkNest q.1 q.2.1 q.2.2.1 q.2.2.2) U
section KWS
variable {tb : Nat} {ak av : Nat → Nat} {A A' : Nat → Prop} {U s : State}
theorem kw.tabz (h : kw tb ak av A U) : va_Z "HornLearner$Deduction" "CHOICES_WITH" "[J" (.ref tb) A U U.heap := h.1
theorem kw.tab (h : kw tb ak av A U) : va_T .long tb 12 (fun j => .long (tabL j)) A U U.heap := h.2.1
theorem kw.cod (h : kw tb ak av A U) {i : Nat} (hi : i < 9) : va_OF "java/lang/String" "coder" "B" (.int (nI 0)) (ak i) A U U.heap := (h.2.2.1.1 i hi).2.1
theorem kw.val (h : kw tb ak av A U) {i : Nat} (hi : i < 9) : va_OF "java/lang/String" "value" "[B" (.ref (av i)) (ak i) A U U.heap := (h.2.2.1.1 i hi).2.2.1
theorem kw.byt (h : kw tb ak av A U) {i : Nat} (hi : i < 9) : va_T .byte (av i) (xlen.getD i 0) (fun j => .int ((xbyt.getD i []).getD j 0)) A U U.heap := (h.2.2.1.1 i hi).2.2.2
theorem kw.rcv (h : kw tb ak av A s) {i : Nat} (hi : i < 9) {H : Heap} {locs : List Loc} (hS : va_S A s.heap H locs) : ∃ cell : Cell, H[ak i]? = some cell ∧ cell.vm.isStatics = false ∧ s.vm.findClass "java/lang/String" = some cell.cls := vk_recv h.2.2.1 hi hS
theorem kw.cmp (h : kw tb ak av A U) : va_Z "java/lang/String" "COMPACT_STRINGS" "Z" (.int (nI 1)) A U U.heap := h.2.2.2.1
theorem kw.fmt (h : kw tb ak av A U) : va_Zq "jdk/internal/util/Preconditions" "SIOOBE_FORMATTER" "Ljava/util/function/BiFunction;" A U U.heap := h.2.2.2.2.1
theorem kw.str_L_58 (h : kw tb ak av A U) : vk_R R_L 58 "f(c,c)" (ak 3) U := h.2.2.2.2.2.1 ("HornLearner$Line", 58, "f(c,c)", 3) (List.mem_of_getElem? (i := 0) rfl)
theorem kw.str_L_60 (h : kw tb ak av A U) : vk_R R_L 60 "~r(c,c)" (ak 4) U := h.2.2.2.2.2.1 ("HornLearner$Line", 60, "~r(c,c)", 4) (List.mem_of_getElem? (i := 1) rfl)
theorem kw.str_L_62 (h : kw tb ak av A U) : vk_R R_L 62 "+t(c,c)" (ak 5) U := h.2.2.2.2.2.1 ("HornLearner$Line", 62, "+t(c,c)", 5) (List.mem_of_getElem? (i := 2) rfl)
theorem kw.str_L_64 (h : kw tb ak av A U) : vk_R R_L 64 "-t(c,c)" (ak 6) U := h.2.2.2.2.2.1 ("HornLearner$Line", 64, "-t(c,c)", 6) (List.mem_of_getElem? (i := 3) rfl)
theorem kw.str_L_66 (h : kw tb ak av A U) : vk_R R_L 66 "t(X,Y):-r(v,v),r(v,v),r(v,v)" (ak 7) U := h.2.2.2.2.2.1 ("HornLearner$Line", 66, "t(X,Y):-r(v,v),r(v,v),r(v,v)", 7) (List.mem_of_getElem? (i := 4) rfl)
theorem kw.str_L_68 (h : kw tb ak av A U) : vk_R R_L 68 "" (ak 8) U := h.2.2.2.2.2.1 ("HornLearner$Line", 68, "", 8) (List.mem_of_getElem? (i := 5) rfl)
theorem kw.str_L_46 (h : kw tb ak av A U) : vk_R R_L 46 "abt" (ak 0) U := h.2.2.2.2.2.1 ("HornLearner$Line", 46, "abt", 0) (List.mem_of_getElem? (i := 6) rfl)
theorem kw.str_L_52 (h : kw tb ak av A U) : vk_R R_L 52 "XYZ" (ak 1) U := h.2.2.2.2.2.1 ("HornLearner$Line", 52, "XYZ", 1) (List.mem_of_getElem? (i := 7) rfl)
theorem kw.str_H_136 (h : kw tb ak av A U) : vk_R R_H 136 "abt" (ak 0) U := h.2.2.2.2.2.1 ("HornLearner", 136, "abt", 0) (List.mem_of_getElem? (i := 8) rfl)
theorem kw.str_P_35 (h : kw tb ak av A U) : vk_R R_P 35 "t(X,Y):-" (ak 2) U := h.2.2.2.2.2.1 ("HornLearner$Program", 35, "t(X,Y):-", 2) (List.mem_of_getElem? (i := 9) rfl)
theorem kw.str_P_46 (h : kw tb ak av A U) : vk_R R_P 46 "abt" (ak 0) U := h.2.2.2.2.2.1 ("HornLearner$Program", 46, "abt", 0) (List.mem_of_getElem? (i := 10) rfl)
theorem kw.str_P_51 (h : kw tb ak av A U) : vk_R R_P 51 "XYZ" (ak 1) U := h.2.2.2.2.2.1 ("HornLearner$Program", 51, "XYZ", 1) (List.mem_of_getElem? (i := 11) rfl)
theorem kw.nst_L_54 (h : kw tb ak av A U) : va_Nw (.methodLinkNest R_L 54 y_H_codeOf R_H) U := h.2.2.2.2.2.2 ("HornLearner$Line", 54, y_H_codeOf, "HornLearner") (List.mem_of_getElem? (i := 0) rfl)
theorem kw.nst_L_42 (h : kw tb ak av A U) : va_Nw (.methodLinkNest R_L 42 y_H_pairBit R_H) U := h.2.2.2.2.2.2 ("HornLearner$Line", 42, y_H_pairBit, "HornLearner") (List.mem_of_getElem? (i := 1) rfl)
theorem kw.nst_P_43 (h : kw tb ak av A U) : va_Nw (.methodLinkNest R_P 43 y_H_codeAt R_H) U := h.2.2.2.2.2.2 ("HornLearner$Program", 43, y_H_codeAt, "HornLearner") (List.mem_of_getElem? (i := 2) rfl)
theorem kw.nst_P_48 (h : kw tb ak av A U) : va_Nw (.methodLinkNest R_P 48 y_H_relationOf R_H) U := h.2.2.2.2.2.2 ("HornLearner$Program", 48, y_H_relationOf, "HornLearner") (List.mem_of_getElem? (i := 3) rfl)
theorem kw.nst_P_53 (h : kw tb ak av A U) : va_Nw (.methodLinkNest R_P 53 y_H_firstVariableOf R_H) U := h.2.2.2.2.2.2 ("HornLearner$Program", 53, y_H_firstVariableOf, "HornLearner") (List.mem_of_getElem? (i := 4) rfl)
theorem kw.nst_P_56 (h : kw tb ak av A U) : va_Nw (.methodLinkNest R_P 56 y_H_secondVariableOf R_H) U := h.2.2.2.2.2.2 ("HornLearner$Program", 56, y_H_secondVariableOf, "HornLearner") (List.mem_of_getElem? (i := 5) rfl)
theorem kw.nst_D_26 (h : kw tb ak av A U) : va_Nw (.methodLinkNest R_D 26 y_H_relationOf R_H) U := h.2.2.2.2.2.2 ("HornLearner$Deduction", 26, y_H_relationOf, "HornLearner") (List.mem_of_getElem? (i := 6) rfl)
theorem kw.nst_D_30 (h : kw tb ak av A U) : va_Nw (.methodLinkNest R_D 30 y_H_firstVariableOf R_H) U := h.2.2.2.2.2.2 ("HornLearner$Deduction", 30, y_H_firstVariableOf, "HornLearner") (List.mem_of_getElem? (i := 7) rfl)
theorem kw.nst_D_33 (h : kw tb ak av A U) : va_Nw (.methodLinkNest R_D 33 y_H_secondVariableOf R_H) U := h.2.2.2.2.2.2 ("HornLearner$Deduction", 33, y_H_secondVariableOf, "HornLearner") (List.mem_of_getElem? (i := 8) rfl)
theorem kw.nst_D_45 (h : kw tb ak av A U) : va_Nw (.methodLinkNest R_D 45 y_H_leastCode R_H) U := h.2.2.2.2.2.2 ("HornLearner$Deduction", 45, y_H_leastCode, "HornLearner") (List.mem_of_getElem? (i := 9) rfl)
theorem kw.nst_D_48 (h : kw tb ak av A U) : va_Nw (.methodLinkNest R_D 48 y_H_withoutLeastCode R_H) U := h.2.2.2.2.2.2 ("HornLearner$Deduction", 48, y_H_withoutLeastCode, "HornLearner") (List.mem_of_getElem? (i := 10) rfl)
theorem kw_call {H : Heap} {locs : List Loc} (h : kw tb ak av A s) (hS : va_S A s.heap H locs) (hF : ∀ q, A' q → A q) (hU : U.heap = H) (hW : s.WarmedH U.vm) : kw tb ak av A' U := by
  have hk : ∀ a : Nat, a < s.heap.size → ¬ A a → U.heap[a]? = s.heap[a]? := by rw [hU]; exact hS.2.1
  obtain ⟨h1, h2, h3, h4, h5, h6, h7⟩ := h
  exact ⟨((h1.kept hk).narrow hF).moved hW.alike, ((h2.kept hk).narrow hF).moved hW.alike, ((h3.kept hk).narrow hF).moved hW.alike, ((h4.kept hk).narrow hF).moved hW.alike, ((h5.kept hk).narrow hF).moved hW.alike, fun q hq => vk_R.warm hW (h6 q hq), fun q hq => va_Nw.warmM hW (h7 q hq)⟩
theorem kw_blind {g : JFrame} {m : MethodId} {a : Array Value} (h : kw tb ak av A U) : kw tb ak av A (U.calling g m a) := by
  obtain ⟨h1, h2, h3, h4, h5, h6, h7⟩ := h
  exact ⟨va_Z.moved (u := U) (U := U.calling g m a) (Vm.Alike.refl U.vm) h1, va_T.moved (u := U) (U := U.calling g m a) (Vm.Alike.refl U.vm) h2, vk_S.moved (u := U) (U := U.calling g m a) (Vm.Alike.refl U.vm) h3, va_Z.moved (u := U) (U := U.calling g m a) (Vm.Alike.refl U.vm) h4, va_Zq.moved (u := U) (U := U.calling g m a) (Vm.Alike.refl U.vm) h5, fun q hq => vk_R.same (u := U) (U := U.calling g m a) rfl (h6 q hq), fun q hq => va_Nw.same (u := U) (U := U.calling g m a) rfl rfl (h7 q hq)⟩
end KWS
end
section
theorem gW {w : Cond} (h : w ∈ lw_gd) : (w.onTables && w.keeps) = true ∨ ∃ ty, w = .arrayClass ty := good_of_word (List.mem_filter.mp h).2
theorem gI {y : MethodName} {bytes : ByteArray} {n : Nat} {r : Option FieldType} (h : Cond.code y bytes n r ∈ lw_gd) : GoodIn lw_gd (Cond.code y bytes n r :: lw_gd) := by
  intro w hw
  rcases List.mem_cons.mp hw with rfl | h1
  · exact ⟨h, gW h⟩
  · exact ⟨h1, gW h1⟩
theorem gV {own C : String} {idx : Nat} {y : MethodName} {bytes : ByteArray} {n : Nat} {r : Option FieldType} (h1 : Cond.methodLink own idx y ∈ lw_gd) (h2 : Cond.instanceMethod y ∈ lw_gd) (h3 : Cond.selects C y y ∈ lw_gd) (h4 : Cond.initialized C ∈ lw_gd) (h : Cond.code y bytes n r ∈ lw_gd) : GoodIn lw_gd (wsV own idx C y (Cond.code y bytes n r :: lw_gd)) := by
  intro w hw
  rcases List.mem_append.mp hw with hw | hw
  · simp only [List.mem_cons, List.not_mem_nil, or_false] at hw
    rcases hw with rfl | rfl | rfl | rfl
    · exact ⟨h1, gW h1⟩
    · exact ⟨h2, gW h2⟩
    · exact ⟨h3, gW h3⟩
    · exact ⟨h4, gW h4⟩
  · exact gI h w hw
theorem gS {own : String} {idx : Nat} {y : MethodName} {bytes : ByteArray} {n : Nat} {r : Option FieldType} (h1 : Cond.methodLink own idx y ∈ lw_gd) (h2 : Cond.static y ∈ lw_gd) (h4 : Cond.initialized y.cls ∈ lw_gd) (h : Cond.code y bytes n r ∈ lw_gd) : GoodIn lw_gd (va_wsS own idx y (Cond.code y bytes n r :: lw_gd)) := by
  intro w hw
  rcases List.mem_append.mp hw with hw | hw
  · simp only [List.mem_cons, List.not_mem_nil, or_false] at hw
    rcases hw with rfl | rfl | rfl
    · exact ⟨h1, gW h1⟩
    · exact ⟨h2, gW h2⟩
    · exact ⟨h4, gW h4⟩
  · exact gI h w hw
end
section
theorem d_I_bitCount_0 : decode b_I_bitCount 0 = .ok (.iload_n 0, 1) := by decide +kernel
theorem d_I_bitCount_1 : decode b_I_bitCount 1 = .ok (.iload_n 0, 1) := by decide +kernel
theorem d_I_bitCount_2 : decode b_I_bitCount 2 = .ok (.iconst 1, 1) := by decide +kernel
theorem d_I_bitCount_3 : decode b_I_bitCount 3 = .ok (.iushr, 1) := by decide +kernel
theorem d_I_bitCount_4 : decode b_I_bitCount 4 = .ok (.ldc_w 265, 3) := by decide +kernel
theorem d_I_bitCount_7 : decode b_I_bitCount 7 = .ok (.iand, 1) := by decide +kernel
theorem d_I_bitCount_8 : decode b_I_bitCount 8 = .ok (.isub, 1) := by decide +kernel
theorem d_I_bitCount_9 : decode b_I_bitCount 9 = .ok (.istore_n 0, 1) := by decide +kernel
theorem d_I_bitCount_10 : decode b_I_bitCount 10 = .ok (.iload_n 0, 1) := by decide +kernel
theorem d_I_bitCount_11 : decode b_I_bitCount 11 = .ok (.ldc_w 266, 3) := by decide +kernel
theorem d_I_bitCount_14 : decode b_I_bitCount 14 = .ok (.iand, 1) := by decide +kernel
theorem d_I_bitCount_15 : decode b_I_bitCount 15 = .ok (.iload_n 0, 1) := by decide +kernel
theorem d_I_bitCount_16 : decode b_I_bitCount 16 = .ok (.iconst 2, 1) := by decide +kernel
theorem d_I_bitCount_17 : decode b_I_bitCount 17 = .ok (.iushr, 1) := by decide +kernel
theorem d_I_bitCount_18 : decode b_I_bitCount 18 = .ok (.ldc_w 266, 3) := by decide +kernel
theorem d_I_bitCount_21 : decode b_I_bitCount 21 = .ok (.iand, 1) := by decide +kernel
theorem d_I_bitCount_22 : decode b_I_bitCount 22 = .ok (.iadd, 1) := by decide +kernel
theorem d_I_bitCount_23 : decode b_I_bitCount 23 = .ok (.istore_n 0, 1) := by decide +kernel
theorem d_I_bitCount_24 : decode b_I_bitCount 24 = .ok (.iload_n 0, 1) := by decide +kernel
theorem d_I_bitCount_25 : decode b_I_bitCount 25 = .ok (.iload_n 0, 1) := by decide +kernel
theorem d_I_bitCount_26 : decode b_I_bitCount 26 = .ok (.iconst 4, 1) := by decide +kernel
theorem d_I_bitCount_27 : decode b_I_bitCount 27 = .ok (.iushr, 1) := by decide +kernel
theorem d_I_bitCount_28 : decode b_I_bitCount 28 = .ok (.iadd, 1) := by decide +kernel
theorem d_I_bitCount_29 : decode b_I_bitCount 29 = .ok (.ldc_w 267, 3) := by decide +kernel
theorem d_I_bitCount_32 : decode b_I_bitCount 32 = .ok (.iand, 1) := by decide +kernel
theorem d_I_bitCount_33 : decode b_I_bitCount 33 = .ok (.istore_n 0, 1) := by decide +kernel
theorem d_I_bitCount_34 : decode b_I_bitCount 34 = .ok (.iload_n 0, 1) := by decide +kernel
theorem d_I_bitCount_35 : decode b_I_bitCount 35 = .ok (.iload_n 0, 1) := by decide +kernel
theorem d_I_bitCount_36 : decode b_I_bitCount 36 = .ok (.bipush 8, 2) := by decide +kernel
theorem d_I_bitCount_38 : decode b_I_bitCount 38 = .ok (.iushr, 1) := by decide +kernel
theorem d_I_bitCount_39 : decode b_I_bitCount 39 = .ok (.iadd, 1) := by decide +kernel
theorem d_I_bitCount_40 : decode b_I_bitCount 40 = .ok (.istore_n 0, 1) := by decide +kernel
theorem d_I_bitCount_41 : decode b_I_bitCount 41 = .ok (.iload_n 0, 1) := by decide +kernel
theorem d_I_bitCount_42 : decode b_I_bitCount 42 = .ok (.iload_n 0, 1) := by decide +kernel
theorem d_I_bitCount_43 : decode b_I_bitCount 43 = .ok (.bipush 16, 2) := by decide +kernel
theorem d_I_bitCount_45 : decode b_I_bitCount 45 = .ok (.iushr, 1) := by decide +kernel
theorem d_I_bitCount_46 : decode b_I_bitCount 46 = .ok (.iadd, 1) := by decide +kernel
theorem d_I_bitCount_47 : decode b_I_bitCount 47 = .ok (.istore_n 0, 1) := by decide +kernel
theorem d_I_bitCount_48 : decode b_I_bitCount 48 = .ok (.iload_n 0, 1) := by decide +kernel
theorem d_I_bitCount_49 : decode b_I_bitCount 49 = .ok (.bipush 63, 2) := by decide +kernel
theorem d_I_bitCount_51 : decode b_I_bitCount 51 = .ok (.iand, 1) := by decide +kernel
theorem d_I_bitCount_52 : decode b_I_bitCount 52 = .ok (.ireturn, 1) := by decide +kernel
theorem d_H_isFactRelation_0 : decode b_H_isFactRelation 0 = .ok (.iload_n 0, 1) := by decide +kernel
theorem d_H_isFactRelation_1 : decode b_H_isFactRelation 1 = .ok (.ifCond .lt 12, 3) := by decide +kernel
theorem d_H_isFactRelation_4 : decode b_H_isFactRelation 4 = .ok (.iload_n 0, 1) := by decide +kernel
theorem d_H_isFactRelation_5 : decode b_H_isFactRelation 5 = .ok (.iconst 2, 1) := by decide +kernel
theorem d_H_isFactRelation_6 : decode b_H_isFactRelation 6 = .ok (.if_icmp .ge 7, 3) := by decide +kernel
theorem d_H_isFactRelation_9 : decode b_H_isFactRelation 9 = .ok (.iconst 1, 1) := by decide +kernel
theorem d_H_isFactRelation_10 : decode b_H_isFactRelation 10 = .ok (.goto 4, 3) := by decide +kernel
theorem d_H_isFactRelation_13 : decode b_H_isFactRelation 13 = .ok (.iconst 0, 1) := by decide +kernel
theorem d_H_isFactRelation_14 : decode b_H_isFactRelation 14 = .ok (.ireturn, 1) := by decide +kernel
theorem d_H_pairBit_0 : decode b_H_pairBit 0 = .ok (.iload_n 0, 1) := by decide +kernel
theorem d_H_pairBit_1 : decode b_H_pairBit 1 = .ok (.ifCond .lt 21, 3) := by decide +kernel
theorem d_H_pairBit_4 : decode b_H_pairBit 4 = .ok (.iload_n 0, 1) := by decide +kernel
theorem d_H_pairBit_5 : decode b_H_pairBit 5 = .ok (.iconst 4, 1) := by decide +kernel
theorem d_H_pairBit_6 : decode b_H_pairBit 6 = .ok (.if_icmp .ge 16, 3) := by decide +kernel
theorem d_H_pairBit_9 : decode b_H_pairBit 9 = .ok (.iload_n 1, 1) := by decide +kernel
theorem d_H_pairBit_10 : decode b_H_pairBit 10 = .ok (.ifCond .lt 12, 3) := by decide +kernel
theorem d_H_pairBit_13 : decode b_H_pairBit 13 = .ok (.iload_n 1, 1) := by decide +kernel
theorem d_H_pairBit_14 : decode b_H_pairBit 14 = .ok (.iconst 4, 1) := by decide +kernel
theorem d_H_pairBit_15 : decode b_H_pairBit 15 = .ok (.if_icmp .ge 7, 3) := by decide +kernel
theorem d_H_pairBit_18 : decode b_H_pairBit 18 = .ok (.iconst 1, 1) := by decide +kernel
theorem d_H_pairBit_19 : decode b_H_pairBit 19 = .ok (.goto 4, 3) := by decide +kernel
theorem d_H_pairBit_22 : decode b_H_pairBit 22 = .ok (.iconst 0, 1) := by decide +kernel
theorem d_H_pairBit_23 : decode b_H_pairBit 23 = .ok (.istore_n 2, 1) := by decide +kernel
theorem d_H_pairBit_24 : decode b_H_pairBit 24 = .ok (.iload_n 2, 1) := by decide +kernel
theorem d_H_pairBit_25 : decode b_H_pairBit 25 = .ok (.ifCond .eq 13, 3) := by decide +kernel
theorem d_H_pairBit_28 : decode b_H_pairBit 28 = .ok (.iconst 1, 1) := by decide +kernel
theorem d_H_pairBit_29 : decode b_H_pairBit 29 = .ok (.iconst 4, 1) := by decide +kernel
theorem d_H_pairBit_30 : decode b_H_pairBit 30 = .ok (.iload_n 0, 1) := by decide +kernel
theorem d_H_pairBit_31 : decode b_H_pairBit 31 = .ok (.imul, 1) := by decide +kernel
theorem d_H_pairBit_32 : decode b_H_pairBit 32 = .ok (.iload_n 1, 1) := by decide +kernel
theorem d_H_pairBit_33 : decode b_H_pairBit 33 = .ok (.iadd, 1) := by decide +kernel
theorem d_H_pairBit_34 : decode b_H_pairBit 34 = .ok (.ishl, 1) := by decide +kernel
theorem d_H_pairBit_35 : decode b_H_pairBit 35 = .ok (.goto 4, 3) := by decide +kernel
theorem d_H_pairBit_38 : decode b_H_pairBit 38 = .ok (.iconst 0, 1) := by decide +kernel
theorem d_H_pairBit_39 : decode b_H_pairBit 39 = .ok (.ireturn, 1) := by decide +kernel
theorem d_H_hasHeadVariables_0 : decode b_H_hasHeadVariables 0 = .ok (.iload_n 0, 1) := by decide +kernel
theorem d_H_hasHeadVariables_1 : decode b_H_hasHeadVariables 1 = .ok (.ldc 169, 2) := by decide +kernel
theorem d_H_hasHeadVariables_3 : decode b_H_hasHeadVariables 3 = .ok (.iand, 1) := by decide +kernel
theorem d_H_hasHeadVariables_4 : decode b_H_hasHeadVariables 4 = .ok (.ifCond .eq 14, 3) := by decide +kernel
theorem d_H_hasHeadVariables_7 : decode b_H_hasHeadVariables 7 = .ok (.iload_n 0, 1) := by decide +kernel
theorem d_H_hasHeadVariables_8 : decode b_H_hasHeadVariables 8 = .ok (.ldc 170, 2) := by decide +kernel
theorem d_H_hasHeadVariables_10 : decode b_H_hasHeadVariables 10 = .ok (.iand, 1) := by decide +kernel
theorem d_H_hasHeadVariables_11 : decode b_H_hasHeadVariables 11 = .ok (.ifCond .eq 7, 3) := by decide +kernel
theorem d_H_hasHeadVariables_14 : decode b_H_hasHeadVariables 14 = .ok (.iconst 1, 1) := by decide +kernel
theorem d_H_hasHeadVariables_15 : decode b_H_hasHeadVariables 15 = .ok (.goto 4, 3) := by decide +kernel
theorem d_H_hasHeadVariables_18 : decode b_H_hasHeadVariables 18 = .ok (.iconst 0, 1) := by decide +kernel
theorem d_H_hasHeadVariables_19 : decode b_H_hasHeadVariables 19 = .ok (.ireturn, 1) := by decide +kernel
theorem d_H_codeOf_0 : decode b_H_codeOf 0 = .ok (.bipush 9, 2) := by decide +kernel
theorem d_H_codeOf_2 : decode b_H_codeOf 2 = .ok (.iload_n 0, 1) := by decide +kernel
theorem d_H_codeOf_3 : decode b_H_codeOf 3 = .ok (.imul, 1) := by decide +kernel
theorem d_H_codeOf_4 : decode b_H_codeOf 4 = .ok (.iconst 3, 1) := by decide +kernel
theorem d_H_codeOf_5 : decode b_H_codeOf 5 = .ok (.iload_n 1, 1) := by decide +kernel
theorem d_H_codeOf_6 : decode b_H_codeOf 6 = .ok (.imul, 1) := by decide +kernel
theorem d_H_codeOf_7 : decode b_H_codeOf 7 = .ok (.iadd, 1) := by decide +kernel
theorem d_H_codeOf_8 : decode b_H_codeOf 8 = .ok (.iload_n 2, 1) := by decide +kernel
theorem d_H_codeOf_9 : decode b_H_codeOf 9 = .ok (.iadd, 1) := by decide +kernel
theorem d_H_codeOf_10 : decode b_H_codeOf 10 = .ok (.ireturn, 1) := by decide +kernel
theorem d_H_relationOf_0 : decode b_H_relationOf 0 = .ok (.iload_n 0, 1) := by decide +kernel
theorem d_H_relationOf_1 : decode b_H_relationOf 1 = .ok (.bipush 9, 2) := by decide +kernel
theorem d_H_relationOf_3 : decode b_H_relationOf 3 = .ok (.idiv, 1) := by decide +kernel
theorem d_H_relationOf_4 : decode b_H_relationOf 4 = .ok (.ireturn, 1) := by decide +kernel
theorem d_H_firstVariableOf_0 : decode b_H_firstVariableOf 0 = .ok (.iload_n 0, 1) := by decide +kernel
theorem d_H_firstVariableOf_1 : decode b_H_firstVariableOf 1 = .ok (.iconst 3, 1) := by decide +kernel
theorem d_H_firstVariableOf_2 : decode b_H_firstVariableOf 2 = .ok (.idiv, 1) := by decide +kernel
theorem d_H_firstVariableOf_3 : decode b_H_firstVariableOf 3 = .ok (.iconst 3, 1) := by decide +kernel
theorem d_H_firstVariableOf_4 : decode b_H_firstVariableOf 4 = .ok (.irem, 1) := by decide +kernel
theorem d_H_firstVariableOf_5 : decode b_H_firstVariableOf 5 = .ok (.ireturn, 1) := by decide +kernel
theorem d_H_secondVariableOf_0 : decode b_H_secondVariableOf 0 = .ok (.iload_n 0, 1) := by decide +kernel
theorem d_H_secondVariableOf_1 : decode b_H_secondVariableOf 1 = .ok (.iconst 3, 1) := by decide +kernel
theorem d_H_secondVariableOf_2 : decode b_H_secondVariableOf 2 = .ok (.irem, 1) := by decide +kernel
theorem d_H_secondVariableOf_3 : decode b_H_secondVariableOf 3 = .ok (.ireturn, 1) := by decide +kernel
theorem d_H_leastCode_0 : decode b_H_leastCode 0 = .ok (.iload_n 0, 1) := by decide +kernel
theorem d_H_leastCode_1 : decode b_H_leastCode 1 = .ok (.iload_n 0, 1) := by decide +kernel
theorem d_H_leastCode_2 : decode b_H_leastCode 2 = .ok (.ineg, 1) := by decide +kernel
theorem d_H_leastCode_3 : decode b_H_leastCode 3 = .ok (.iand, 1) := by decide +kernel
theorem d_H_leastCode_4 : decode b_H_leastCode 4 = .ok (.iconst 1, 1) := by decide +kernel
theorem d_H_leastCode_5 : decode b_H_leastCode 5 = .ok (.isub, 1) := by decide +kernel
theorem d_H_leastCode_6 : decode b_H_leastCode 6 = .ok (.invokestatic 66, 3) := by decide +kernel
theorem d_H_leastCode_9 : decode b_H_leastCode 9 = .ok (.ireturn, 1) := by decide +kernel
theorem d_H_withoutLeastCode_0 : decode b_H_withoutLeastCode 0 = .ok (.iload_n 0, 1) := by decide +kernel
theorem d_H_withoutLeastCode_1 : decode b_H_withoutLeastCode 1 = .ok (.iload_n 0, 1) := by decide +kernel
theorem d_H_withoutLeastCode_2 : decode b_H_withoutLeastCode 2 = .ok (.iconst 1, 1) := by decide +kernel
theorem d_H_withoutLeastCode_3 : decode b_H_withoutLeastCode 3 = .ok (.isub, 1) := by decide +kernel
theorem d_H_withoutLeastCode_4 : decode b_H_withoutLeastCode 4 = .ok (.iand, 1) := by decide +kernel
theorem d_H_withoutLeastCode_5 : decode b_H_withoutLeastCode 5 = .ok (.ireturn, 1) := by decide +kernel
theorem d_H_codeAt_0 : decode b_H_codeAt 0 = .ok (.iload_n 1, 1) := by decide +kernel
theorem d_H_codeAt_1 : decode b_H_codeAt 1 = .ok (.ifCond .lt 11, 3) := by decide +kernel
theorem d_H_codeAt_4 : decode b_H_codeAt 4 = .ok (.iload_n 1, 1) := by decide +kernel
theorem d_H_codeAt_5 : decode b_H_codeAt 5 = .ok (.iload_n 0, 1) := by decide +kernel
theorem d_H_codeAt_6 : decode b_H_codeAt 6 = .ok (.invokestatic 66, 3) := by decide +kernel
theorem d_H_codeAt_9 : decode b_H_codeAt 9 = .ok (.if_icmp .lt 5, 3) := by decide +kernel
theorem d_H_codeAt_12 : decode b_H_codeAt 12 = .ok (.iconst (-1), 1) := by decide +kernel
theorem d_H_codeAt_13 : decode b_H_codeAt 13 = .ok (.ireturn, 1) := by decide +kernel
theorem d_H_codeAt_14 : decode b_H_codeAt 14 = .ok (.iload_n 0, 1) := by decide +kernel
theorem d_H_codeAt_15 : decode b_H_codeAt 15 = .ok (.istore_n 2, 1) := by decide +kernel
theorem d_H_codeAt_16 : decode b_H_codeAt 16 = .ok (.iconst 0, 1) := by decide +kernel
theorem d_H_codeAt_17 : decode b_H_codeAt 17 = .ok (.istore_n 3, 1) := by decide +kernel
theorem d_H_codeAt_18 : decode b_H_codeAt 18 = .ok (.iload_n 3, 1) := by decide +kernel
theorem d_H_codeAt_19 : decode b_H_codeAt 19 = .ok (.iload_n 1, 1) := by decide +kernel
theorem d_H_codeAt_20 : decode b_H_codeAt 20 = .ok (.if_icmp .ge 14, 3) := by decide +kernel
theorem d_H_codeAt_23 : decode b_H_codeAt 23 = .ok (.iload_n 2, 1) := by decide +kernel
theorem d_H_codeAt_24 : decode b_H_codeAt 24 = .ok (.invokestatic 171, 3) := by decide +kernel
theorem d_H_codeAt_27 : decode b_H_codeAt 27 = .ok (.istore_n 2, 1) := by decide +kernel
theorem d_H_codeAt_28 : decode b_H_codeAt 28 = .ok (.iinc 3 1, 3) := by decide +kernel
theorem d_H_codeAt_31 : decode b_H_codeAt 31 = .ok (.goto (-13), 3) := by decide +kernel
theorem d_H_codeAt_34 : decode b_H_codeAt 34 = .ok (.iload_n 2, 1) := by decide +kernel
theorem d_H_codeAt_35 : decode b_H_codeAt 35 = .ok (.invokestatic 174, 3) := by decide +kernel
theorem d_H_codeAt_38 : decode b_H_codeAt 38 = .ok (.ireturn, 1) := by decide +kernel
theorem d_H_withVariableForZ_0 : decode b_H_withVariableForZ 0 = .ok (.iconst 0, 1) := by decide +kernel
theorem d_H_withVariableForZ_1 : decode b_H_withVariableForZ 1 = .ok (.istore_n 2, 1) := by decide +kernel
theorem d_H_withVariableForZ_2 : decode b_H_withVariableForZ 2 = .ok (.iload_n 0, 1) := by decide +kernel
theorem d_H_withVariableForZ_3 : decode b_H_withVariableForZ 3 = .ok (.istore_n 3, 1) := by decide +kernel
theorem d_H_withVariableForZ_4 : decode b_H_withVariableForZ 4 = .ok (.iconst 0, 1) := by decide +kernel
theorem d_H_withVariableForZ_5 : decode b_H_withVariableForZ 5 = .ok (.istore 4, 2) := by decide +kernel
theorem d_H_withVariableForZ_7 : decode b_H_withVariableForZ 7 = .ok (.iload 4, 2) := by decide +kernel
theorem d_H_withVariableForZ_9 : decode b_H_withVariableForZ 9 = .ok (.iconst 3, 1) := by decide +kernel
theorem d_H_withVariableForZ_10 : decode b_H_withVariableForZ 10 = .ok (.if_icmp .ge 75, 3) := by decide +kernel
theorem d_H_withVariableForZ_13 : decode b_H_withVariableForZ 13 = .ok (.iload_n 3, 1) := by decide +kernel
theorem d_H_withVariableForZ_14 : decode b_H_withVariableForZ 14 = .ok (.ifCond .eq 71, 3) := by decide +kernel
theorem d_H_withVariableForZ_17 : decode b_H_withVariableForZ 17 = .ok (.iload_n 3, 1) := by decide +kernel
theorem d_H_withVariableForZ_18 : decode b_H_withVariableForZ 18 = .ok (.invokestatic 174, 3) := by decide +kernel
theorem d_H_withVariableForZ_21 : decode b_H_withVariableForZ 21 = .ok (.istore 5, 2) := by decide +kernel
theorem d_H_withVariableForZ_23 : decode b_H_withVariableForZ 23 = .ok (.iload 5, 2) := by decide +kernel
theorem d_H_withVariableForZ_25 : decode b_H_withVariableForZ 25 = .ok (.invokestatic 177, 3) := by decide +kernel
theorem d_H_withVariableForZ_28 : decode b_H_withVariableForZ 28 = .ok (.istore 6, 2) := by decide +kernel
theorem d_H_withVariableForZ_30 : decode b_H_withVariableForZ 30 = .ok (.iload 5, 2) := by decide +kernel
theorem d_H_withVariableForZ_32 : decode b_H_withVariableForZ 32 = .ok (.invokestatic 180, 3) := by decide +kernel
theorem d_H_withVariableForZ_35 : decode b_H_withVariableForZ 35 = .ok (.istore 7, 2) := by decide +kernel
theorem d_H_withVariableForZ_37 : decode b_H_withVariableForZ 37 = .ok (.iload_n 2, 1) := by decide +kernel
theorem d_H_withVariableForZ_38 : decode b_H_withVariableForZ 38 = .ok (.iconst 1, 1) := by decide +kernel
theorem d_H_withVariableForZ_39 : decode b_H_withVariableForZ 39 = .ok (.iload 5, 2) := by decide +kernel
theorem d_H_withVariableForZ_41 : decode b_H_withVariableForZ 41 = .ok (.invokestatic 183, 3) := by decide +kernel
theorem d_H_withVariableForZ_44 : decode b_H_withVariableForZ 44 = .ok (.iload 6, 2) := by decide +kernel
theorem d_H_withVariableForZ_46 : decode b_H_withVariableForZ 46 = .ok (.iconst 2, 1) := by decide +kernel
theorem d_H_withVariableForZ_47 : decode b_H_withVariableForZ 47 = .ok (.if_icmp .ne 7, 3) := by decide +kernel
theorem d_H_withVariableForZ_50 : decode b_H_withVariableForZ 50 = .ok (.iload_n 1, 1) := by decide +kernel
theorem d_H_withVariableForZ_51 : decode b_H_withVariableForZ 51 = .ok (.goto 5, 3) := by decide +kernel
theorem d_H_withVariableForZ_54 : decode b_H_withVariableForZ 54 = .ok (.iload 6, 2) := by decide +kernel
theorem d_H_withVariableForZ_56 : decode b_H_withVariableForZ 56 = .ok (.iload 7, 2) := by decide +kernel
theorem d_H_withVariableForZ_58 : decode b_H_withVariableForZ 58 = .ok (.iconst 2, 1) := by decide +kernel
theorem d_H_withVariableForZ_59 : decode b_H_withVariableForZ 59 = .ok (.if_icmp .ne 7, 3) := by decide +kernel
theorem d_H_withVariableForZ_62 : decode b_H_withVariableForZ 62 = .ok (.iload_n 1, 1) := by decide +kernel
theorem d_H_withVariableForZ_63 : decode b_H_withVariableForZ 63 = .ok (.goto 5, 3) := by decide +kernel
theorem d_H_withVariableForZ_66 : decode b_H_withVariableForZ 66 = .ok (.iload 7, 2) := by decide +kernel
theorem d_H_withVariableForZ_68 : decode b_H_withVariableForZ 68 = .ok (.invokestatic 186, 3) := by decide +kernel
theorem d_H_withVariableForZ_71 : decode b_H_withVariableForZ 71 = .ok (.ishl, 1) := by decide +kernel
theorem d_H_withVariableForZ_72 : decode b_H_withVariableForZ 72 = .ok (.ior, 1) := by decide +kernel
theorem d_H_withVariableForZ_73 : decode b_H_withVariableForZ 73 = .ok (.istore_n 2, 1) := by decide +kernel
theorem d_H_withVariableForZ_74 : decode b_H_withVariableForZ 74 = .ok (.iload_n 3, 1) := by decide +kernel
theorem d_H_withVariableForZ_75 : decode b_H_withVariableForZ 75 = .ok (.invokestatic 171, 3) := by decide +kernel
theorem d_H_withVariableForZ_78 : decode b_H_withVariableForZ 78 = .ok (.istore_n 3, 1) := by decide +kernel
theorem d_H_withVariableForZ_79 : decode b_H_withVariableForZ 79 = .ok (.iinc 4 1, 3) := by decide +kernel
theorem d_H_withVariableForZ_82 : decode b_H_withVariableForZ 82 = .ok (.goto (-75), 3) := by decide +kernel
theorem d_H_withVariableForZ_85 : decode b_H_withVariableForZ 85 = .ok (.iload_n 2, 1) := by decide +kernel
theorem d_H_withVariableForZ_86 : decode b_H_withVariableForZ 86 = .ok (.ireturn, 1) := by decide +kernel
set_option maxHeartbeats 4000000 in
set_option maxRecDepth 100000 in
theorem c_I_bitCount (l : Launch) (dC : Nat → ClassId) (dI : Nat → Nat → Nat) (sz : Nat)  (x0 : Int32) (r0 : Int32) (u0 : Unit) (h : m_I_bitCount x0 = some (r0, u0)) : Met l y_I_bitCount w_I_bitCount ({ frames := 0, cells := 0, slots := 0, locals := 0 } : Room) (va_Pc [.int x0] (fun U => U.heap.size = sz ∧ va_P (dC, dI) classes [] U.heap ∧ va_K (dC, dI) classes [] U ∧ va_D (fun _ => True) [])) (va_Qi (fun (r : Int32) (u : Unit) => r = r0 ∧ u = u0) (fun (u : Unit) (t : State) => va_P (dC, dI) classes [] t.heap ∧ va_K (dC, dI) classes [] t ∧ va_D (va_A [] sz) []) (va_A [] sz)) 0 0 (va_A [] sz) := by
  refine Met.ofW (cc := b_I_bitCount) (maxL := 1) (ret := (some .int)) (by decide) rfl ?_
  intro p e s m args below meth c s₁ B hml hv
  obtain ⟨rfl, hsz, hP, hK, hD0⟩ := hv
  have hx := B.exec
  have hb := B.bytes
  have hr := B.returns
  have hts0 := atoms_spec (ws := w_I_bitCount) B.pre
  have hts : ∀ w ∈ lw_gd, w.before ([.int x0] : List Value).toArray s = true := fun w h9 => hts0 w (List.mem_cons_of_mem _ h9)
  have hown : s.vm.findClass R_I = some m.cls := findClass_of_methodNamed B.named
  have hlocks := B.notSynchronized
  subst hsz
  have hD := hD0.self (sz := s.heap.size)
  generalize hAe : va_A [] s.heap.size = A at hD ⊢
  have hA : ∀ q : Nat, s.heap.size ≤ q → A q := fun q h9 => by rw [← hAe]; exact Or.inr h9
  obtain ⟨H, eH⟩ : ∃ H : Heap, H = s.heap := ⟨_, rfl⟩
  have hS : va_S A s.heap H [] := by rw [eH]; exact va_S.rf
  have hP : va_P (dC, dI) classes [] H := by rw [eH]; exact hP
  refine W_gen (fun Q hQ => ?_)
  refine W_heap eH ?_
  clear eH
  have hl := lv_entry ([.int x0]) (n := 1) (Nat.le_of_ble_eq_true rfl)
  rw [lg_entry_eq]
  generalize (lg_sl ([.int x0]) ++ List.replicate (1 - (lg_sl ([.int x0])).length) Slot.unset).toArray = ls at hl ⊢
  have hl : lv_has ls 1 [(0, .int x0)] := hl
  unfold m_I_bitCount at h
  refine lv_iload_n hx hb d_I_bitCount_0 rfl (lv_at hl 0 rfl) ?_
  refine lv_iload_n hx hb d_I_bitCount_1 rfl (lv_at hl 0 rfl) ?_
  refine lv_iconst (v := (nI 1)) hx hb d_I_bitCount_2 (by decide) ?_
  refine lv_iushr (v := iush x0 (nI 1)) hx hb d_I_bitCount_3 rfl ?_
  refine lv_ldcw (v := 1431655765) hx hb hown (hts _ con_I_265) d_I_bitCount_4 ?_
  refine lv_iand hx hb d_I_bitCount_7 ?_
  refine lv_isub hx hb d_I_bitCount_8 ?_
  refine lv_istore_n (lv' := [(0, .int (x0 - ((iush x0 (nI 1)) &&& (nI 1431655765))))]) hx hb d_I_bitCount_9 rfl hl (by decide) rfl (fun ls hl => ?_)
  refine lv_iload_n hx hb d_I_bitCount_10 rfl (lv_at hl 0 rfl) ?_
  refine lv_ldcw (v := 858993459) hx hb hown (hts _ con_I_266) d_I_bitCount_11 ?_
  refine lv_iand hx hb d_I_bitCount_14 ?_
  refine lv_iload_n hx hb d_I_bitCount_15 rfl (lv_at hl 0 rfl) ?_
  refine lv_iconst (v := (nI 2)) hx hb d_I_bitCount_16 (by decide) ?_
  refine lv_iushr (v := iush (x0 - ((iush x0 (nI 1)) &&& (nI 1431655765))) (nI 2)) hx hb d_I_bitCount_17 rfl ?_
  refine lv_ldcw (v := 858993459) hx hb hown (hts _ con_I_266) d_I_bitCount_18 ?_
  refine lv_iand hx hb d_I_bitCount_21 ?_
  refine lv_iadd hx hb d_I_bitCount_22 ?_
  refine lv_topi (fun w_23 ew_23 => ?_)
  have h := of_let h ew_23
  refine lv_istore_n (lv' := [(0, .int w_23)]) hx hb d_I_bitCount_23 rfl hl (by decide) rfl (fun ls hl => ?_)
  refine lv_iload_n hx hb d_I_bitCount_24 rfl (lv_at hl 0 rfl) ?_
  refine lv_iload_n hx hb d_I_bitCount_25 rfl (lv_at hl 0 rfl) ?_
  refine lv_iconst (v := (nI 4)) hx hb d_I_bitCount_26 (by decide) ?_
  refine lv_iushr (v := iush w_23 (nI 4)) hx hb d_I_bitCount_27 rfl ?_
  refine lv_iadd hx hb d_I_bitCount_28 ?_
  refine lv_ldcw (v := 252645135) hx hb hown (hts _ con_I_267) d_I_bitCount_29 ?_
  refine lv_iand hx hb d_I_bitCount_32 ?_
  refine lv_istore_n (lv' := [(0, .int ((w_23 + (iush w_23 (nI 4))) &&& (nI 252645135)))]) hx hb d_I_bitCount_33 rfl hl (by decide) rfl (fun ls hl => ?_)
  refine lv_iload_n hx hb d_I_bitCount_34 rfl (lv_at hl 0 rfl) ?_
  refine lv_iload_n hx hb d_I_bitCount_35 rfl (lv_at hl 0 rfl) ?_
  refine lv_bipush (v := (nI 8)) hx hb d_I_bitCount_36 (by decide) ?_
  refine lv_iushr (v := iush ((w_23 + (iush w_23 (nI 4))) &&& (nI 252645135)) (nI 8)) hx hb d_I_bitCount_38 rfl ?_
  refine lv_iadd hx hb d_I_bitCount_39 ?_
  refine lv_topi (fun w_40 ew_40 => ?_)
  have h := of_let h ew_40
  refine lv_istore_n (lv' := [(0, .int w_40)]) hx hb d_I_bitCount_40 rfl hl (by decide) rfl (fun ls hl => ?_)
  refine lv_iload_n hx hb d_I_bitCount_41 rfl (lv_at hl 0 rfl) ?_
  refine lv_iload_n hx hb d_I_bitCount_42 rfl (lv_at hl 0 rfl) ?_
  refine lv_bipush (v := (nI 16)) hx hb d_I_bitCount_43 (by decide) ?_
  refine lv_iushr (v := iush w_40 (nI 16)) hx hb d_I_bitCount_45 rfl ?_
  refine lv_iadd hx hb d_I_bitCount_46 ?_
  refine lv_istore_n (lv' := [(0, .int (w_40 + (iush w_40 (nI 16))))]) hx hb d_I_bitCount_47 rfl hl (by decide) rfl (fun ls hl => ?_)
  refine lv_iload_n hx hb d_I_bitCount_48 rfl (lv_at hl 0 rfl) ?_
  refine lv_bipush (v := (nI 63)) hx hb d_I_bitCount_49 (by decide) ?_
  refine lv_iand hx hb d_I_bitCount_51 ?_
  rw [hQ]
  exact W.iret (v := (w_40 + (iush w_40 (nI 16))) &&& (nI 63)) hx hb hr (fun t ht hW => ⟨⟨(w_40 + (iush w_40 (nI 16))) &&& (nI 63), (), rfl, Prod.mk.inj (Option.some.inj h), by rw [ht]; exact hP, va_K.moved hW.alike hK, hD⟩, hS.F ht⟩) hS.2.2 d_I_bitCount_52
set_option maxHeartbeats 4000000 in
set_option maxRecDepth 100000 in
theorem c_H_isFactRelation (l : Launch) (dC : Nat → ClassId) (dI : Nat → Nat → Nat) (sz : Nat)  (x0 : Int32) (r0 : Int32) (u0 : Unit) (h : m_H_isFactRelation x0 = some (r0, u0)) : Met l y_H_isFactRelation w_H_isFactRelation ({ frames := 0, cells := 0, slots := 0, locals := 0 } : Room) (va_Pc [.int x0] (fun U => U.heap.size = sz ∧ va_P (dC, dI) classes [] U.heap ∧ va_K (dC, dI) classes [] U ∧ va_D (fun _ => True) [])) (va_Qi (fun (r : Int32) (u : Unit) => r = r0 ∧ u = u0) (fun (u : Unit) (t : State) => va_P (dC, dI) classes [] t.heap ∧ va_K (dC, dI) classes [] t ∧ va_D (va_A [] sz) []) (va_A [] sz)) 0 0 (va_A [] sz) := by
  refine Met.ofW (cc := b_H_isFactRelation) (maxL := 1) (ret := (some .boolean)) (by decide) rfl ?_
  intro p e s m args below meth c s₁ B hml hv
  obtain ⟨rfl, hsz, hP, hK, hD0⟩ := hv
  have hx := B.exec
  have hb := B.bytes
  have hr := B.returns
  have hts0 := atoms_spec (ws := w_H_isFactRelation) B.pre
  have hts : ∀ w ∈ lw_gd, w.before ([.int x0] : List Value).toArray s = true := fun w h9 => hts0 w (List.mem_cons_of_mem _ h9)
  have hown : s.vm.findClass R_H = some m.cls := findClass_of_methodNamed B.named
  have hlocks := B.notSynchronized
  subst hsz
  have hD := hD0.self (sz := s.heap.size)
  generalize hAe : va_A [] s.heap.size = A at hD ⊢
  have hA : ∀ q : Nat, s.heap.size ≤ q → A q := fun q h9 => by rw [← hAe]; exact Or.inr h9
  obtain ⟨H, eH⟩ : ∃ H : Heap, H = s.heap := ⟨_, rfl⟩
  have hS : va_S A s.heap H [] := by rw [eH]; exact va_S.rf
  have hP : va_P (dC, dI) classes [] H := by rw [eH]; exact hP
  refine W_gen (fun Q hQ => ?_)
  refine W_heap eH ?_
  clear eH
  have hl := lv_entry ([.int x0]) (n := 1) (Nat.le_of_ble_eq_true rfl)
  rw [lg_entry_eq]
  generalize (lg_sl ([.int x0]) ++ List.replicate (1 - (lg_sl ([.int x0])).length) Slot.unset).toArray = ls at hl ⊢
  have hl : lv_has ls 1 [(0, .int x0)] := hl
  unfold m_H_isFactRelation at h
  refine lv_iload_n hx hb d_H_isFactRelation_0 rfl (lv_at hl 0 rfl) ?_
  refine lv_if_lt (tgt := 13) hx hb d_H_isFactRelation_1 (by decide) (fun c_1 => ?_) (fun c_1 => ?_)
  · have h := of_pos h c_1
    refine lv_iconst (v := (nI 0)) hx hb d_H_isFactRelation_13 (by decide) ?_
    rw [hQ]
    exact W.zret (v := (nI 0)) hx hb hr rfl (fun t ht hW => ⟨⟨(nI 0), (), rfl, Prod.mk.inj (Option.some.inj h), by rw [ht]; exact hP, va_K.moved hW.alike hK, hD⟩, hS.F ht⟩) hS.2.2 d_H_isFactRelation_14
  · have h := of_neg h c_1
    refine lv_iload_n hx hb d_H_isFactRelation_4 rfl (lv_at hl 0 rfl) ?_
    refine lv_iconst (v := (nI 2)) hx hb d_H_isFactRelation_5 (by decide) ?_
    refine lv_icmp_ge (tgt := 13) hx hb d_H_isFactRelation_6 (by decide) (fun c_6 => ?_) (fun c_6 => ?_)
    · have h := of_pos h c_6
      refine lv_iconst (v := (nI 0)) hx hb d_H_isFactRelation_13 (by decide) ?_
      rw [hQ]
      exact W.zret (v := (nI 0)) hx hb hr rfl (fun t ht hW => ⟨⟨(nI 0), (), rfl, Prod.mk.inj (Option.some.inj h), by rw [ht]; exact hP, va_K.moved hW.alike hK, hD⟩, hS.F ht⟩) hS.2.2 d_H_isFactRelation_14
    · have h := of_neg h c_6
      refine lv_iconst (v := (nI 1)) hx hb d_H_isFactRelation_9 (by decide) ?_
      refine lv_goto (tgt := 14) hx hb d_H_isFactRelation_10 (by decide) ?_
      rw [hQ]
      exact W.zret (v := (nI 1)) hx hb hr rfl (fun t ht hW => ⟨⟨(nI 1), (), rfl, Prod.mk.inj (Option.some.inj h), by rw [ht]; exact hP, va_K.moved hW.alike hK, hD⟩, hS.F ht⟩) hS.2.2 d_H_isFactRelation_14
set_option maxHeartbeats 4000000 in
set_option maxRecDepth 100000 in
theorem c_H_pairBit (l : Launch) (dC : Nat → ClassId) (dI : Nat → Nat → Nat) (sz : Nat)  (x0 : Int32) (x1 : Int32) (r0 : Int32) (u0 : Unit) (h : m_H_pairBit x0 x1 = some (r0, u0)) : Met l y_H_pairBit w_H_pairBit ({ frames := 0, cells := 0, slots := 0, locals := 0 } : Room) (va_Pc [.int x0, .int x1] (fun U => U.heap.size = sz ∧ va_P (dC, dI) classes [] U.heap ∧ va_K (dC, dI) classes [] U ∧ va_D (fun _ => True) [])) (va_Qi (fun (r : Int32) (u : Unit) => r = r0 ∧ u = u0) (fun (u : Unit) (t : State) => va_P (dC, dI) classes [] t.heap ∧ va_K (dC, dI) classes [] t ∧ va_D (va_A [] sz) []) (va_A [] sz)) 0 0 (va_A [] sz) := by
  refine Met.ofW (cc := b_H_pairBit) (maxL := 3) (ret := (some .int)) (by decide) rfl ?_
  intro p e s m args below meth c s₁ B hml hv
  obtain ⟨rfl, hsz, hP, hK, hD0⟩ := hv
  have hx := B.exec
  have hb := B.bytes
  have hr := B.returns
  have hts0 := atoms_spec (ws := w_H_pairBit) B.pre
  have hts : ∀ w ∈ lw_gd, w.before ([.int x0, .int x1] : List Value).toArray s = true := fun w h9 => hts0 w (List.mem_cons_of_mem _ h9)
  have hown : s.vm.findClass R_H = some m.cls := findClass_of_methodNamed B.named
  have hlocks := B.notSynchronized
  subst hsz
  have hD := hD0.self (sz := s.heap.size)
  generalize hAe : va_A [] s.heap.size = A at hD ⊢
  have hA : ∀ q : Nat, s.heap.size ≤ q → A q := fun q h9 => by rw [← hAe]; exact Or.inr h9
  obtain ⟨H, eH⟩ : ∃ H : Heap, H = s.heap := ⟨_, rfl⟩
  have hS : va_S A s.heap H [] := by rw [eH]; exact va_S.rf
  have hP : va_P (dC, dI) classes [] H := by rw [eH]; exact hP
  refine W_gen (fun Q hQ => ?_)
  refine W_heap eH ?_
  clear eH
  have hl := lv_entry ([.int x0, .int x1]) (n := 3) (Nat.le_of_ble_eq_true rfl)
  rw [lg_entry_eq]
  generalize (lg_sl ([.int x0, .int x1]) ++ List.replicate (3 - (lg_sl ([.int x0, .int x1])).length) Slot.unset).toArray = ls at hl ⊢
  have hl : lv_has ls 3 [(0, .int x0), (1, .int x1)] := hl
  have J_23 : ∀ (z0 : Int32) (z1 : Int32) (y0 : Int32), m_H_pairBit_23 z0 z1 y0 = some (r0, u0) → ∀ (H : Heap) (locs : List Loc), va_P (dC, dI) classes [] H → va_D A [] → va_S A s.heap H locs → ∀ (ls : Array Slot), lv_has ls 3 [(0, .int z0), (1, .int z1)] → W p l e (headSpec w_H_pairBit ({ frames := 0, cells := 0, slots := 0, locals := 0 } : Room)).room s m ([.int x0, .int x1] : List Value).toArray below meth c H locs 0 0 Q (F0 m 23 ls [.int y0]) := by
    intro z0 z1 y0 h H locs hP hD hS ls hl
    unfold m_H_pairBit_23 at h
    refine lv_istore_n (lv' := [(2, .int y0), (0, .int z0), (1, .int z1)]) hx hb d_H_pairBit_23 rfl hl (by decide) rfl (fun ls hl => ?_)
    refine lv_iload_n hx hb d_H_pairBit_24 rfl (lv_at hl 0 rfl) ?_
    refine lv_if_eq (tgt := 38) hx hb d_H_pairBit_25 (by decide) (fun c_25 => ?_) (fun c_25 => ?_)
    · have h := of_pos h c_25
      refine lv_iconst (v := (nI 0)) hx hb d_H_pairBit_38 (by decide) ?_
      rw [hQ]
      exact W.iret (v := (nI 0)) hx hb hr (fun t ht hW => ⟨⟨(nI 0), (), rfl, Prod.mk.inj (Option.some.inj h), by rw [ht]; exact hP, va_K.moved hW.alike hK, hD⟩, hS.F ht⟩) hS.2.2 d_H_pairBit_39
    · have h := of_neg h c_25
      refine lv_iconst (v := (nI 1)) hx hb d_H_pairBit_28 (by decide) ?_
      refine lv_iconst (v := (nI 4)) hx hb d_H_pairBit_29 (by decide) ?_
      refine lv_iload_n hx hb d_H_pairBit_30 rfl (lv_at hl 1 rfl) ?_
      refine lv_imul hx hb d_H_pairBit_31 ?_
      refine lv_iload_n hx hb d_H_pairBit_32 rfl (lv_at hl 2 rfl) ?_
      refine lv_iadd hx hb d_H_pairBit_33 ?_
      refine lv_ishl hx hb d_H_pairBit_34 ?_
      refine lv_goto (tgt := 39) hx hb d_H_pairBit_35 (by decide) ?_
      rw [hQ]
      exact W.iret (v := (nI 1) <<< ((((nI 4) * z0) + z1) &&& 31)) hx hb hr (fun t ht hW => ⟨⟨(nI 1) <<< ((((nI 4) * z0) + z1) &&& 31), (), rfl, Prod.mk.inj (Option.some.inj h), by rw [ht]; exact hP, va_K.moved hW.alike hK, hD⟩, hS.F ht⟩) hS.2.2 d_H_pairBit_39
  have J_22 : ∀ (z0 : Int32) (z1 : Int32), m_H_pairBit_22 z0 z1 = some (r0, u0) → ∀ (H : Heap) (locs : List Loc), va_P (dC, dI) classes [] H → va_D A [] → va_S A s.heap H locs → ∀ (ls : Array Slot), lv_has ls 3 [(0, .int z0), (1, .int z1)] → W p l e (headSpec w_H_pairBit ({ frames := 0, cells := 0, slots := 0, locals := 0 } : Room)).room s m ([.int x0, .int x1] : List Value).toArray below meth c H locs 0 0 Q (F0 m 22 ls []) := by
    intro z0 z1 h H locs hP hD hS ls hl
    unfold m_H_pairBit_22 at h
    refine lv_iconst (v := (nI 0)) hx hb d_H_pairBit_22 (by decide) ?_
    exact J_23 z0 z1 (nI 0) h _ _ hP hD hS ls (lv_sub hl [0, 1] rfl)
  unfold m_H_pairBit at h
  refine lv_iload_n hx hb d_H_pairBit_0 rfl (lv_at hl 0 rfl) ?_
  refine lv_if_lt (tgt := 22) hx hb d_H_pairBit_1 (by decide) (fun c_1 => ?_) (fun c_1 => ?_)
  · have h := of_pos h c_1
    exact J_22 x0 x1 h _ _ hP hD hS ls (lv_sub hl [0, 1] rfl)
  · have h := of_neg h c_1
    refine lv_iload_n hx hb d_H_pairBit_4 rfl (lv_at hl 0 rfl) ?_
    refine lv_iconst (v := (nI 4)) hx hb d_H_pairBit_5 (by decide) ?_
    refine lv_icmp_ge (tgt := 22) hx hb d_H_pairBit_6 (by decide) (fun c_6 => ?_) (fun c_6 => ?_)
    · have h := of_pos h c_6
      exact J_22 x0 x1 h _ _ hP hD hS ls (lv_sub hl [0, 1] rfl)
    · have h := of_neg h c_6
      refine lv_iload_n hx hb d_H_pairBit_9 rfl (lv_at hl 1 rfl) ?_
      refine lv_if_lt (tgt := 22) hx hb d_H_pairBit_10 (by decide) (fun c_10 => ?_) (fun c_10 => ?_)
      · have h := of_pos h c_10
        exact J_22 x0 x1 h _ _ hP hD hS ls (lv_sub hl [0, 1] rfl)
      · have h := of_neg h c_10
        refine lv_iload_n hx hb d_H_pairBit_13 rfl (lv_at hl 1 rfl) ?_
        refine lv_iconst (v := (nI 4)) hx hb d_H_pairBit_14 (by decide) ?_
        refine lv_icmp_ge (tgt := 22) hx hb d_H_pairBit_15 (by decide) (fun c_15 => ?_) (fun c_15 => ?_)
        · have h := of_pos h c_15
          exact J_22 x0 x1 h _ _ hP hD hS ls (lv_sub hl [0, 1] rfl)
        · have h := of_neg h c_15
          refine lv_iconst (v := (nI 1)) hx hb d_H_pairBit_18 (by decide) ?_
          refine lv_goto (tgt := 23) hx hb d_H_pairBit_19 (by decide) ?_
          exact J_23 x0 x1 (nI 1) h _ _ hP hD hS ls (lv_sub hl [0, 1] rfl)
set_option maxHeartbeats 4000000 in
set_option maxRecDepth 100000 in
theorem c_H_hasHeadVariables (l : Launch) (dC : Nat → ClassId) (dI : Nat → Nat → Nat) (sz : Nat)  (x0 : Int32) (r0 : Int32) (u0 : Unit) (h : m_H_hasHeadVariables x0 = some (r0, u0)) : Met l y_H_hasHeadVariables w_H_hasHeadVariables ({ frames := 0, cells := 0, slots := 0, locals := 0 } : Room) (va_Pc [.int x0] (fun U => U.heap.size = sz ∧ va_P (dC, dI) classes [] U.heap ∧ va_K (dC, dI) classes [] U ∧ va_D (fun _ => True) [])) (va_Qi (fun (r : Int32) (u : Unit) => r = r0 ∧ u = u0) (fun (u : Unit) (t : State) => va_P (dC, dI) classes [] t.heap ∧ va_K (dC, dI) classes [] t ∧ va_D (va_A [] sz) []) (va_A [] sz)) 0 0 (va_A [] sz) := by
  refine Met.ofW (cc := b_H_hasHeadVariables) (maxL := 1) (ret := (some .boolean)) (by decide) rfl ?_
  intro p e s m args below meth c s₁ B hml hv
  obtain ⟨rfl, hsz, hP, hK, hD0⟩ := hv
  have hx := B.exec
  have hb := B.bytes
  have hr := B.returns
  have hts0 := atoms_spec (ws := w_H_hasHeadVariables) B.pre
  have hts : ∀ w ∈ lw_gd, w.before ([.int x0] : List Value).toArray s = true := fun w h9 => hts0 w (List.mem_cons_of_mem _ h9)
  have hown : s.vm.findClass R_H = some m.cls := findClass_of_methodNamed B.named
  have hlocks := B.notSynchronized
  subst hsz
  have hD := hD0.self (sz := s.heap.size)
  generalize hAe : va_A [] s.heap.size = A at hD ⊢
  have hA : ∀ q : Nat, s.heap.size ≤ q → A q := fun q h9 => by rw [← hAe]; exact Or.inr h9
  obtain ⟨H, eH⟩ : ∃ H : Heap, H = s.heap := ⟨_, rfl⟩
  have hS : va_S A s.heap H [] := by rw [eH]; exact va_S.rf
  have hP : va_P (dC, dI) classes [] H := by rw [eH]; exact hP
  refine W_gen (fun Q hQ => ?_)
  refine W_heap eH ?_
  clear eH
  have hl := lv_entry ([.int x0]) (n := 1) (Nat.le_of_ble_eq_true rfl)
  rw [lg_entry_eq]
  generalize (lg_sl ([.int x0]) ++ List.replicate (1 - (lg_sl ([.int x0])).length) Slot.unset).toArray = ls at hl ⊢
  have hl : lv_has ls 1 [(0, .int x0)] := hl
  unfold m_H_hasHeadVariables at h
  refine lv_iload_n hx hb d_H_hasHeadVariables_0 rfl (lv_at hl 0 rfl) ?_
  refine lv_ldc (v := 20749903) hx hb hown (hts _ con_H_169) d_H_hasHeadVariables_1 ?_
  refine lv_iand hx hb d_H_hasHeadVariables_3 ?_
  refine lv_if_eq (tgt := 18) hx hb d_H_hasHeadVariables_4 (by decide) (fun c_4 => ?_) (fun c_4 => ?_)
  · have h := of_pos h c_4
    refine lv_iconst (v := (nI 0)) hx hb d_H_hasHeadVariables_18 (by decide) ?_
    rw [hQ]
    exact W.zret (v := (nI 0)) hx hb hr rfl (fun t ht hW => ⟨⟨(nI 0), (), rfl, Prod.mk.inj (Option.some.inj h), by rw [ht]; exact hP, va_K.moved hW.alike hK, hD⟩, hS.F ht⟩) hS.2.2 d_H_hasHeadVariables_19
  · have h := of_neg h c_4
    refine lv_iload_n hx hb d_H_hasHeadVariables_7 rfl (lv_at hl 0 rfl) ?_
    refine lv_ldc (v := 48854202) hx hb hown (hts _ con_H_170) d_H_hasHeadVariables_8 ?_
    refine lv_iand hx hb d_H_hasHeadVariables_10 ?_
    refine lv_if_eq (tgt := 18) hx hb d_H_hasHeadVariables_11 (by decide) (fun c_11 => ?_) (fun c_11 => ?_)
    · have h := of_pos h c_11
      refine lv_iconst (v := (nI 0)) hx hb d_H_hasHeadVariables_18 (by decide) ?_
      rw [hQ]
      exact W.zret (v := (nI 0)) hx hb hr rfl (fun t ht hW => ⟨⟨(nI 0), (), rfl, Prod.mk.inj (Option.some.inj h), by rw [ht]; exact hP, va_K.moved hW.alike hK, hD⟩, hS.F ht⟩) hS.2.2 d_H_hasHeadVariables_19
    · have h := of_neg h c_11
      refine lv_iconst (v := (nI 1)) hx hb d_H_hasHeadVariables_14 (by decide) ?_
      refine lv_goto (tgt := 19) hx hb d_H_hasHeadVariables_15 (by decide) ?_
      rw [hQ]
      exact W.zret (v := (nI 1)) hx hb hr rfl (fun t ht hW => ⟨⟨(nI 1), (), rfl, Prod.mk.inj (Option.some.inj h), by rw [ht]; exact hP, va_K.moved hW.alike hK, hD⟩, hS.F ht⟩) hS.2.2 d_H_hasHeadVariables_19
set_option maxHeartbeats 4000000 in
set_option maxRecDepth 100000 in
theorem c_H_codeOf (l : Launch) (dC : Nat → ClassId) (dI : Nat → Nat → Nat) (sz : Nat)  (x0 : Int32) (x1 : Int32) (x2 : Int32) (r0 : Int32) (u0 : Unit) (h : m_H_codeOf x0 x1 x2 = some (r0, u0)) : Met l y_H_codeOf w_H_codeOf ({ frames := 0, cells := 0, slots := 0, locals := 0 } : Room) (va_Pc [.int x0, .int x1, .int x2] (fun U => U.heap.size = sz ∧ va_P (dC, dI) classes [] U.heap ∧ va_K (dC, dI) classes [] U ∧ va_D (fun _ => True) [])) (va_Qi (fun (r : Int32) (u : Unit) => r = r0 ∧ u = u0) (fun (u : Unit) (t : State) => va_P (dC, dI) classes [] t.heap ∧ va_K (dC, dI) classes [] t ∧ va_D (va_A [] sz) []) (va_A [] sz)) 0 0 (va_A [] sz) := by
  refine Met.ofW (cc := b_H_codeOf) (maxL := 3) (ret := (some .int)) (by decide) rfl ?_
  intro p e s m args below meth c s₁ B hml hv
  obtain ⟨rfl, hsz, hP, hK, hD0⟩ := hv
  have hx := B.exec
  have hb := B.bytes
  have hr := B.returns
  have hts0 := atoms_spec (ws := w_H_codeOf) B.pre
  have hts : ∀ w ∈ lw_gd, w.before ([.int x0, .int x1, .int x2] : List Value).toArray s = true := fun w h9 => hts0 w (List.mem_cons_of_mem _ h9)
  have hown : s.vm.findClass R_H = some m.cls := findClass_of_methodNamed B.named
  have hlocks := B.notSynchronized
  subst hsz
  have hD := hD0.self (sz := s.heap.size)
  generalize hAe : va_A [] s.heap.size = A at hD ⊢
  have hA : ∀ q : Nat, s.heap.size ≤ q → A q := fun q h9 => by rw [← hAe]; exact Or.inr h9
  obtain ⟨H, eH⟩ : ∃ H : Heap, H = s.heap := ⟨_, rfl⟩
  have hS : va_S A s.heap H [] := by rw [eH]; exact va_S.rf
  have hP : va_P (dC, dI) classes [] H := by rw [eH]; exact hP
  refine W_gen (fun Q hQ => ?_)
  refine W_heap eH ?_
  clear eH
  have hl := lv_entry ([.int x0, .int x1, .int x2]) (n := 3) (Nat.le_of_ble_eq_true rfl)
  rw [lg_entry_eq]
  generalize (lg_sl ([.int x0, .int x1, .int x2]) ++ List.replicate (3 - (lg_sl ([.int x0, .int x1, .int x2])).length) Slot.unset).toArray = ls at hl ⊢
  have hl : lv_has ls 3 [(0, .int x0), (1, .int x1), (2, .int x2)] := hl
  unfold m_H_codeOf at h
  refine lv_bipush (v := (nI 9)) hx hb d_H_codeOf_0 (by decide) ?_
  refine lv_iload_n hx hb d_H_codeOf_2 rfl (lv_at hl 0 rfl) ?_
  refine lv_imul hx hb d_H_codeOf_3 ?_
  refine lv_iconst (v := (nI 3)) hx hb d_H_codeOf_4 (by decide) ?_
  refine lv_iload_n hx hb d_H_codeOf_5 rfl (lv_at hl 1 rfl) ?_
  refine lv_imul hx hb d_H_codeOf_6 ?_
  refine lv_iadd hx hb d_H_codeOf_7 ?_
  refine lv_iload_n hx hb d_H_codeOf_8 rfl (lv_at hl 2 rfl) ?_
  refine lv_iadd hx hb d_H_codeOf_9 ?_
  rw [hQ]
  exact W.iret (v := (((nI 9) * x0) + ((nI 3) * x1)) + x2) hx hb hr (fun t ht hW => ⟨⟨(((nI 9) * x0) + ((nI 3) * x1)) + x2, (), rfl, Prod.mk.inj (Option.some.inj h), by rw [ht]; exact hP, va_K.moved hW.alike hK, hD⟩, hS.F ht⟩) hS.2.2 d_H_codeOf_10
set_option maxHeartbeats 4000000 in
set_option maxRecDepth 100000 in
theorem c_H_relationOf (l : Launch) (dC : Nat → ClassId) (dI : Nat → Nat → Nat) (sz : Nat)  (x0 : Int32) (r0 : Int32) (u0 : Unit) (h : m_H_relationOf x0 = some (r0, u0)) : Met l y_H_relationOf w_H_relationOf ({ frames := 0, cells := 0, slots := 0, locals := 0 } : Room) (va_Pc [.int x0] (fun U => U.heap.size = sz ∧ va_P (dC, dI) classes [] U.heap ∧ va_K (dC, dI) classes [] U ∧ va_D (fun _ => True) [])) (va_Qi (fun (r : Int32) (u : Unit) => r = r0 ∧ u = u0) (fun (u : Unit) (t : State) => va_P (dC, dI) classes [] t.heap ∧ va_K (dC, dI) classes [] t ∧ va_D (va_A [] sz) []) (va_A [] sz)) 0 0 (va_A [] sz) := by
  refine Met.ofW (cc := b_H_relationOf) (maxL := 1) (ret := (some .int)) (by decide) rfl ?_
  intro p e s m args below meth c s₁ B hml hv
  obtain ⟨rfl, hsz, hP, hK, hD0⟩ := hv
  have hx := B.exec
  have hb := B.bytes
  have hr := B.returns
  have hts0 := atoms_spec (ws := w_H_relationOf) B.pre
  have hts : ∀ w ∈ lw_gd, w.before ([.int x0] : List Value).toArray s = true := fun w h9 => hts0 w (List.mem_cons_of_mem _ h9)
  have hown : s.vm.findClass R_H = some m.cls := findClass_of_methodNamed B.named
  have hlocks := B.notSynchronized
  subst hsz
  have hD := hD0.self (sz := s.heap.size)
  generalize hAe : va_A [] s.heap.size = A at hD ⊢
  have hA : ∀ q : Nat, s.heap.size ≤ q → A q := fun q h9 => by rw [← hAe]; exact Or.inr h9
  obtain ⟨H, eH⟩ : ∃ H : Heap, H = s.heap := ⟨_, rfl⟩
  have hS : va_S A s.heap H [] := by rw [eH]; exact va_S.rf
  have hP : va_P (dC, dI) classes [] H := by rw [eH]; exact hP
  refine W_gen (fun Q hQ => ?_)
  refine W_heap eH ?_
  clear eH
  have hl := lv_entry ([.int x0]) (n := 1) (Nat.le_of_ble_eq_true rfl)
  rw [lg_entry_eq]
  generalize (lg_sl ([.int x0]) ++ List.replicate (1 - (lg_sl ([.int x0])).length) Slot.unset).toArray = ls at hl ⊢
  have hl : lv_has ls 1 [(0, .int x0)] := hl
  unfold m_H_relationOf at h
  refine lv_iload_n hx hb d_H_relationOf_0 rfl (lv_at hl 0 rfl) ?_
  refine lv_bipush (v := (nI 9)) hx hb d_H_relationOf_1 (by decide) ?_
  refine lv_idiv hx hb d_H_relationOf_3 (by decide) ?_
  rw [hQ]
  exact W.iret (v := x0 / (nI 9)) hx hb hr (fun t ht hW => ⟨⟨x0 / (nI 9), (), rfl, Prod.mk.inj (Option.some.inj h), by rw [ht]; exact hP, va_K.moved hW.alike hK, hD⟩, hS.F ht⟩) hS.2.2 d_H_relationOf_4
set_option maxHeartbeats 4000000 in
set_option maxRecDepth 100000 in
theorem c_H_firstVariableOf (l : Launch) (dC : Nat → ClassId) (dI : Nat → Nat → Nat) (sz : Nat)  (x0 : Int32) (r0 : Int32) (u0 : Unit) (h : m_H_firstVariableOf x0 = some (r0, u0)) : Met l y_H_firstVariableOf w_H_firstVariableOf ({ frames := 0, cells := 0, slots := 0, locals := 0 } : Room) (va_Pc [.int x0] (fun U => U.heap.size = sz ∧ va_P (dC, dI) classes [] U.heap ∧ va_K (dC, dI) classes [] U ∧ va_D (fun _ => True) [])) (va_Qi (fun (r : Int32) (u : Unit) => r = r0 ∧ u = u0) (fun (u : Unit) (t : State) => va_P (dC, dI) classes [] t.heap ∧ va_K (dC, dI) classes [] t ∧ va_D (va_A [] sz) []) (va_A [] sz)) 0 0 (va_A [] sz) := by
  refine Met.ofW (cc := b_H_firstVariableOf) (maxL := 1) (ret := (some .int)) (by decide) rfl ?_
  intro p e s m args below meth c s₁ B hml hv
  obtain ⟨rfl, hsz, hP, hK, hD0⟩ := hv
  have hx := B.exec
  have hb := B.bytes
  have hr := B.returns
  have hts0 := atoms_spec (ws := w_H_firstVariableOf) B.pre
  have hts : ∀ w ∈ lw_gd, w.before ([.int x0] : List Value).toArray s = true := fun w h9 => hts0 w (List.mem_cons_of_mem _ h9)
  have hown : s.vm.findClass R_H = some m.cls := findClass_of_methodNamed B.named
  have hlocks := B.notSynchronized
  subst hsz
  have hD := hD0.self (sz := s.heap.size)
  generalize hAe : va_A [] s.heap.size = A at hD ⊢
  have hA : ∀ q : Nat, s.heap.size ≤ q → A q := fun q h9 => by rw [← hAe]; exact Or.inr h9
  obtain ⟨H, eH⟩ : ∃ H : Heap, H = s.heap := ⟨_, rfl⟩
  have hS : va_S A s.heap H [] := by rw [eH]; exact va_S.rf
  have hP : va_P (dC, dI) classes [] H := by rw [eH]; exact hP
  refine W_gen (fun Q hQ => ?_)
  refine W_heap eH ?_
  clear eH
  have hl := lv_entry ([.int x0]) (n := 1) (Nat.le_of_ble_eq_true rfl)
  rw [lg_entry_eq]
  generalize (lg_sl ([.int x0]) ++ List.replicate (1 - (lg_sl ([.int x0])).length) Slot.unset).toArray = ls at hl ⊢
  have hl : lv_has ls 1 [(0, .int x0)] := hl
  unfold m_H_firstVariableOf at h
  refine lv_iload_n hx hb d_H_firstVariableOf_0 rfl (lv_at hl 0 rfl) ?_
  refine lv_iconst (v := (nI 3)) hx hb d_H_firstVariableOf_1 (by decide) ?_
  refine lv_idiv hx hb d_H_firstVariableOf_2 (by decide) ?_
  refine lv_iconst (v := (nI 3)) hx hb d_H_firstVariableOf_3 (by decide) ?_
  refine lv_irem hx hb d_H_firstVariableOf_4 (by decide) ?_
  rw [hQ]
  exact W.iret (v := irm (x0 / (nI 3)) (nI 3)) hx hb hr (fun t ht hW => ⟨⟨irm (x0 / (nI 3)) (nI 3), (), rfl, Prod.mk.inj (Option.some.inj h), by rw [ht]; exact hP, va_K.moved hW.alike hK, hD⟩, hS.F ht⟩) hS.2.2 d_H_firstVariableOf_5
set_option maxHeartbeats 4000000 in
set_option maxRecDepth 100000 in
theorem c_H_secondVariableOf (l : Launch) (dC : Nat → ClassId) (dI : Nat → Nat → Nat) (sz : Nat)  (x0 : Int32) (r0 : Int32) (u0 : Unit) (h : m_H_secondVariableOf x0 = some (r0, u0)) : Met l y_H_secondVariableOf w_H_secondVariableOf ({ frames := 0, cells := 0, slots := 0, locals := 0 } : Room) (va_Pc [.int x0] (fun U => U.heap.size = sz ∧ va_P (dC, dI) classes [] U.heap ∧ va_K (dC, dI) classes [] U ∧ va_D (fun _ => True) [])) (va_Qi (fun (r : Int32) (u : Unit) => r = r0 ∧ u = u0) (fun (u : Unit) (t : State) => va_P (dC, dI) classes [] t.heap ∧ va_K (dC, dI) classes [] t ∧ va_D (va_A [] sz) []) (va_A [] sz)) 0 0 (va_A [] sz) := by
  refine Met.ofW (cc := b_H_secondVariableOf) (maxL := 1) (ret := (some .int)) (by decide) rfl ?_
  intro p e s m args below meth c s₁ B hml hv
  obtain ⟨rfl, hsz, hP, hK, hD0⟩ := hv
  have hx := B.exec
  have hb := B.bytes
  have hr := B.returns
  have hts0 := atoms_spec (ws := w_H_secondVariableOf) B.pre
  have hts : ∀ w ∈ lw_gd, w.before ([.int x0] : List Value).toArray s = true := fun w h9 => hts0 w (List.mem_cons_of_mem _ h9)
  have hown : s.vm.findClass R_H = some m.cls := findClass_of_methodNamed B.named
  have hlocks := B.notSynchronized
  subst hsz
  have hD := hD0.self (sz := s.heap.size)
  generalize hAe : va_A [] s.heap.size = A at hD ⊢
  have hA : ∀ q : Nat, s.heap.size ≤ q → A q := fun q h9 => by rw [← hAe]; exact Or.inr h9
  obtain ⟨H, eH⟩ : ∃ H : Heap, H = s.heap := ⟨_, rfl⟩
  have hS : va_S A s.heap H [] := by rw [eH]; exact va_S.rf
  have hP : va_P (dC, dI) classes [] H := by rw [eH]; exact hP
  refine W_gen (fun Q hQ => ?_)
  refine W_heap eH ?_
  clear eH
  have hl := lv_entry ([.int x0]) (n := 1) (Nat.le_of_ble_eq_true rfl)
  rw [lg_entry_eq]
  generalize (lg_sl ([.int x0]) ++ List.replicate (1 - (lg_sl ([.int x0])).length) Slot.unset).toArray = ls at hl ⊢
  have hl : lv_has ls 1 [(0, .int x0)] := hl
  unfold m_H_secondVariableOf at h
  refine lv_iload_n hx hb d_H_secondVariableOf_0 rfl (lv_at hl 0 rfl) ?_
  refine lv_iconst (v := (nI 3)) hx hb d_H_secondVariableOf_1 (by decide) ?_
  refine lv_irem hx hb d_H_secondVariableOf_2 (by decide) ?_
  rw [hQ]
  exact W.iret (v := irm x0 (nI 3)) hx hb hr (fun t ht hW => ⟨⟨irm x0 (nI 3), (), rfl, Prod.mk.inj (Option.some.inj h), by rw [ht]; exact hP, va_K.moved hW.alike hK, hD⟩, hS.F ht⟩) hS.2.2 d_H_secondVariableOf_3
set_option maxHeartbeats 4000000 in
set_option maxRecDepth 100000 in
theorem c_H_leastCode (l : Launch) (dC : Nat → ClassId) (dI : Nat → Nat → Nat) (sz : Nat)  (x0 : Int32) (r0 : Int32) (u0 : Unit) (h : m_H_leastCode x0 = some (r0, u0)) : Met l y_H_leastCode w_H_leastCode ({ frames := 1, cells := 0, slots := 0, locals := 20 } : Room) (va_Pc [.int x0] (fun U => U.heap.size = sz ∧ va_P (dC, dI) classes [] U.heap ∧ va_K (dC, dI) classes [] U ∧ va_D (fun _ => True) [])) (va_Qi (fun (r : Int32) (u : Unit) => r = r0 ∧ u = u0) (fun (u : Unit) (t : State) => va_P (dC, dI) classes [] t.heap ∧ va_K (dC, dI) classes [] t ∧ va_D (va_A [] sz) []) (va_A [] sz)) 0 0 (va_A [] sz) := by
  refine Met.ofW (cc := b_H_leastCode) (maxL := 1) (ret := (some .int)) (by decide) rfl ?_
  intro p e s m args below meth c s₁ B hml hv
  obtain ⟨rfl, hsz, hP, hK, hD0⟩ := hv
  have hx := B.exec
  have hb := B.bytes
  have hr := B.returns
  have hts0 := atoms_spec (ws := w_H_leastCode) B.pre
  have hts : ∀ w ∈ lw_gd, w.before ([.int x0] : List Value).toArray s = true := fun w h9 => hts0 w (List.mem_cons_of_mem _ h9)
  have hown : s.vm.findClass R_H = some m.cls := findClass_of_methodNamed B.named
  have hlocks := B.notSynchronized
  subst hsz
  have hD := hD0.self (sz := s.heap.size)
  generalize hAe : va_A [] s.heap.size = A at hD ⊢
  have hA : ∀ q : Nat, s.heap.size ≤ q → A q := fun q h9 => by rw [← hAe]; exact Or.inr h9
  obtain ⟨H, eH⟩ : ∃ H : Heap, H = s.heap := ⟨_, rfl⟩
  have hS : va_S A s.heap H [] := by rw [eH]; exact va_S.rf
  have hP : va_P (dC, dI) classes [] H := by rw [eH]; exact hP
  refine W_gen (fun Q hQ => ?_)
  refine W_heap eH ?_
  clear eH
  have hl := lv_entry ([.int x0]) (n := 1) (Nat.le_of_ble_eq_true rfl)
  rw [lg_entry_eq]
  generalize (lg_sl ([.int x0]) ++ List.replicate (1 - (lg_sl ([.int x0])).length) Slot.unset).toArray = ls at hl ⊢
  have hl : lv_has ls 1 [(0, .int x0)] := hl
  unfold m_H_leastCode at h
  refine lv_iload_n hx hb d_H_leastCode_0 rfl (lv_at hl 0 rfl) ?_
  refine lv_iload_n hx hb d_H_leastCode_1 rfl (lv_at hl 0 rfl) ?_
  refine lv_ineg hx hb d_H_leastCode_2 ?_
  refine lv_iand hx hb d_H_leastCode_3 ?_
  refine lv_iconst (v := (nI 1)) hx hb d_H_leastCode_4 (by decide) ?_
  refine lv_isub hx hb d_H_leastCode_5 ?_
  have hPc := hP.sub (ws' := []) [] rfl
  have hDc := hD.sub (ws' := []) [] (by decide) rfl
  have hKc := hK.sub (tys' := []) [] rfl
  have hFc := va_free (wc := []) hD hS hA [] rfl
  obtain ⟨v_6, hc_6, h⟩ := of_bind h
  refine va_calli (va_runS (As := [.int ((x0 &&& (-x0)) - (nI 1))]) (rest := []) ⟨hx, hb, hml, hown, hts⟩ (c_I_bitCount l dC dI H.size ((x0 &&& (-x0)) - (nI 1)) v_6.1 v_6.2 hc_6) (va_cwS 1 hts (gS mlk_H_66 sta_I_bitCount ini_I cod_I_bitCount) rfl rfl rfl (by decide +kernel) ⟨Nat.le_of_ble_eq_true rfl, Nat.le_of_ble_eq_true rfl⟩) ⟨fun a U g mk q => by obtain ⟨q0, q1, qP, qK, qD⟩ := q; exact ⟨q0, q1, qP, va_K.moved (u := U) (U := U.calling g mk a) (Vm.Alike.refl U.vm) qK, qD⟩, fun U hU hW => ⟨rfl, by rw [hU], by rw [hU]; exact hPc, va_K.moved hW.alike hKc, hDc.weaken (fun _ _ _ _ => trivial)⟩⟩ rfl rfl hl.1 rfl (lv_room (Nat.le_of_ble_eq_true rfl)) d_H_leastCode_6 ⟨Nat.le_of_ble_eq_true rfl, Nat.le_of_ble_eq_true rfl⟩) hS (fun q _ h9 => hFc q h9) hFc (fun r_6 u t H1 locs ht hvm hw hB hz1 hk1 hS => ?_)
  obtain ⟨rfl, rfl⟩ := hw
  obtain ⟨hP1, hK1, hD1⟩ := hB
  rw [ht] at hP1
  obtain ⟨hP, hD⟩ := va_join (wr := []) (w1 := []) hP hD [] [] rfl rfl (by decide) (by decide) hk1 hFc hP1 hD1
  have hP := hP.sub (ws' := []) [] rfl
  have hD := hD.sub (ws' := []) [] (by decide) rfl
  generalize H1 = H at hP hS ⊢
  rw [hQ]
  exact W.iret (v := v_6.1) hx hb hr (fun t ht hW => ⟨⟨v_6.1, (), rfl, Prod.mk.inj (Option.some.inj h), by rw [ht]; exact hP, va_K.moved hW.alike hK, hD⟩, hS.F ht⟩) hS.2.2 d_H_leastCode_9
set_option maxHeartbeats 4000000 in
set_option maxRecDepth 100000 in
theorem c_H_withoutLeastCode (l : Launch) (dC : Nat → ClassId) (dI : Nat → Nat → Nat) (sz : Nat)  (x0 : Int32) (r0 : Int32) (u0 : Unit) (h : m_H_withoutLeastCode x0 = some (r0, u0)) : Met l y_H_withoutLeastCode w_H_withoutLeastCode ({ frames := 0, cells := 0, slots := 0, locals := 0 } : Room) (va_Pc [.int x0] (fun U => U.heap.size = sz ∧ va_P (dC, dI) classes [] U.heap ∧ va_K (dC, dI) classes [] U ∧ va_D (fun _ => True) [])) (va_Qi (fun (r : Int32) (u : Unit) => r = r0 ∧ u = u0) (fun (u : Unit) (t : State) => va_P (dC, dI) classes [] t.heap ∧ va_K (dC, dI) classes [] t ∧ va_D (va_A [] sz) []) (va_A [] sz)) 0 0 (va_A [] sz) := by
  refine Met.ofW (cc := b_H_withoutLeastCode) (maxL := 1) (ret := (some .int)) (by decide) rfl ?_
  intro p e s m args below meth c s₁ B hml hv
  obtain ⟨rfl, hsz, hP, hK, hD0⟩ := hv
  have hx := B.exec
  have hb := B.bytes
  have hr := B.returns
  have hts0 := atoms_spec (ws := w_H_withoutLeastCode) B.pre
  have hts : ∀ w ∈ lw_gd, w.before ([.int x0] : List Value).toArray s = true := fun w h9 => hts0 w (List.mem_cons_of_mem _ h9)
  have hown : s.vm.findClass R_H = some m.cls := findClass_of_methodNamed B.named
  have hlocks := B.notSynchronized
  subst hsz
  have hD := hD0.self (sz := s.heap.size)
  generalize hAe : va_A [] s.heap.size = A at hD ⊢
  have hA : ∀ q : Nat, s.heap.size ≤ q → A q := fun q h9 => by rw [← hAe]; exact Or.inr h9
  obtain ⟨H, eH⟩ : ∃ H : Heap, H = s.heap := ⟨_, rfl⟩
  have hS : va_S A s.heap H [] := by rw [eH]; exact va_S.rf
  have hP : va_P (dC, dI) classes [] H := by rw [eH]; exact hP
  refine W_gen (fun Q hQ => ?_)
  refine W_heap eH ?_
  clear eH
  have hl := lv_entry ([.int x0]) (n := 1) (Nat.le_of_ble_eq_true rfl)
  rw [lg_entry_eq]
  generalize (lg_sl ([.int x0]) ++ List.replicate (1 - (lg_sl ([.int x0])).length) Slot.unset).toArray = ls at hl ⊢
  have hl : lv_has ls 1 [(0, .int x0)] := hl
  unfold m_H_withoutLeastCode at h
  refine lv_iload_n hx hb d_H_withoutLeastCode_0 rfl (lv_at hl 0 rfl) ?_
  refine lv_iload_n hx hb d_H_withoutLeastCode_1 rfl (lv_at hl 0 rfl) ?_
  refine lv_iconst (v := (nI 1)) hx hb d_H_withoutLeastCode_2 (by decide) ?_
  refine lv_isub hx hb d_H_withoutLeastCode_3 ?_
  refine lv_iand hx hb d_H_withoutLeastCode_4 ?_
  rw [hQ]
  exact W.iret (v := x0 &&& (x0 - (nI 1))) hx hb hr (fun t ht hW => ⟨⟨x0 &&& (x0 - (nI 1)), (), rfl, Prod.mk.inj (Option.some.inj h), by rw [ht]; exact hP, va_K.moved hW.alike hK, hD⟩, hS.F ht⟩) hS.2.2 d_H_withoutLeastCode_5
set_option maxHeartbeats 4000000 in
set_option maxRecDepth 100000 in
theorem c_H_codeAt (l : Launch) (dC : Nat → ClassId) (dI : Nat → Nat → Nat) (sz : Nat)  (x0 : Int32) (x1 : Int32) (r0 : Int32) (u0 : Unit) (h : m_H_codeAt x0 x1 = some (r0, u0)) : Met l y_H_codeAt w_H_codeAt ({ frames := 2, cells := 0, slots := 0, locals := 40 } : Room) (va_Pc [.int x0, .int x1] (fun U => U.heap.size = sz ∧ va_P (dC, dI) classes [] U.heap ∧ va_K (dC, dI) classes [] U ∧ va_D (fun _ => True) [])) (va_Qi (fun (r : Int32) (u : Unit) => r = r0 ∧ u = u0) (fun (u : Unit) (t : State) => va_P (dC, dI) classes [] t.heap ∧ va_K (dC, dI) classes [] t ∧ va_D (va_A [] sz) []) (va_A [] sz)) 0 0 (va_A [] sz) := by
  refine Met.ofW (cc := b_H_codeAt) (maxL := 4) (ret := (some .int)) (by decide) rfl ?_
  intro p e s m args below meth c s₁ B hml hv
  obtain ⟨rfl, hsz, hP, hK, hD0⟩ := hv
  have hx := B.exec
  have hb := B.bytes
  have hr := B.returns
  have hts0 := atoms_spec (ws := w_H_codeAt) B.pre
  have hts : ∀ w ∈ lw_gd, w.before ([.int x0, .int x1] : List Value).toArray s = true := fun w h9 => hts0 w (List.mem_cons_of_mem _ h9)
  have hown : s.vm.findClass R_H = some m.cls := findClass_of_methodNamed B.named
  have hlocks := B.notSynchronized
  subst hsz
  have hD := hD0.self (sz := s.heap.size)
  generalize hAe : va_A [] s.heap.size = A at hD ⊢
  have hA : ∀ q : Nat, s.heap.size ≤ q → A q := fun q h9 => by rw [← hAe]; exact Or.inr h9
  obtain ⟨H, eH⟩ : ∃ H : Heap, H = s.heap := ⟨_, rfl⟩
  have hS : va_S A s.heap H [] := by rw [eH]; exact va_S.rf
  have hP : va_P (dC, dI) classes [] H := by rw [eH]; exact hP
  refine W_gen (fun Q hQ => ?_)
  refine W_heap eH ?_
  clear eH
  have hl := lv_entry ([.int x0, .int x1]) (n := 4) (Nat.le_of_ble_eq_true rfl)
  rw [lg_entry_eq]
  generalize (lg_sl ([.int x0, .int x1]) ++ List.replicate (4 - (lg_sl ([.int x0, .int x1])).length) Slot.unset).toArray = ls at hl ⊢
  have hl : lv_has ls 4 [(0, .int x0), (1, .int x1)] := hl
  have J_18 : ∀ (n : Nat) (z1 : Int32) (z2 : Int32) (z3 : Int32), m_H_codeAt_18 n z1 z2 z3 = some (r0, u0) → ∀ (H : Heap) (locs : List Loc), va_P (dC, dI) classes [] H → va_D A [] → va_S A s.heap H locs → ∀ (ls : Array Slot), lv_has ls 4 [(1, .int z1), (2, .int z2), (3, .int z3)] → W p l e (headSpec w_H_codeAt ({ frames := 2, cells := 0, slots := 0, locals := 40 } : Room)).room s m ([.int x0, .int x1] : List Value).toArray below meth c H locs 0 0 Q (F0 m 18 ls []) := by
    intro n
    induction n with
    | zero => intro z1 z2 z3 h; exact absurd h (by unfold m_H_codeAt_18; exact fun h9 => nomatch h9)
    | succ n ih =>
      intro z1 z2 z3 h H locs hP hD hS ls hl
      unfold m_H_codeAt_18 at h
      refine lv_iload_n hx hb d_H_codeAt_18 rfl (lv_at hl 2 rfl) ?_
      refine lv_iload_n hx hb d_H_codeAt_19 rfl (lv_at hl 0 rfl) ?_
      refine lv_icmp_ge (tgt := 34) hx hb d_H_codeAt_20 (by decide) (fun c_20 => ?_) (fun c_20 => ?_)
      · have h := of_pos h c_20
        refine lv_iload_n hx hb d_H_codeAt_34 rfl (lv_at hl 1 rfl) ?_
        have hPc := hP.sub (ws' := []) [] rfl
        have hDc := hD.sub (ws' := []) [] (by decide) rfl
        have hKc := hK.sub (tys' := []) [] rfl
        have hFc := va_free (wc := []) hD hS hA [] rfl
        obtain ⟨v_35, hc_35, h⟩ := of_bind h
        refine va_calli (va_runS (As := [.int z2]) (rest := []) ⟨hx, hb, hml, hown, hts⟩ (c_H_leastCode l dC dI H.size z2 v_35.1 v_35.2 hc_35) (va_cwS 1 hts (gS mlk_H_174 sta_H_leastCode ini_H cod_H_leastCode) rfl rfl rfl (by decide +kernel) ⟨Nat.le_of_ble_eq_true rfl, Nat.le_of_ble_eq_true rfl⟩) ⟨fun a U g mk q => by obtain ⟨q0, q1, qP, qK, qD⟩ := q; exact ⟨q0, q1, qP, va_K.moved (u := U) (U := U.calling g mk a) (Vm.Alike.refl U.vm) qK, qD⟩, fun U hU hW => ⟨rfl, by rw [hU], by rw [hU]; exact hPc, va_K.moved hW.alike hKc, hDc.weaken (fun _ _ _ _ => trivial)⟩⟩ rfl rfl hl.1 rfl (lv_room (Nat.le_of_ble_eq_true rfl)) d_H_codeAt_35 ⟨Nat.le_of_ble_eq_true rfl, Nat.le_of_ble_eq_true rfl⟩) hS (fun q _ h9 => hFc q h9) hFc (fun r_35 u t H1 locs ht hvm hw hB hz1 hk1 hS => ?_)
        obtain ⟨rfl, rfl⟩ := hw
        obtain ⟨hP1, hK1, hD1⟩ := hB
        rw [ht] at hP1
        obtain ⟨hP, hD⟩ := va_join (wr := []) (w1 := []) hP hD [] [] rfl rfl (by decide) (by decide) hk1 hFc hP1 hD1
        have hP := hP.sub (ws' := []) [] rfl
        have hD := hD.sub (ws' := []) [] (by decide) rfl
        generalize H1 = H at hP hS ⊢
        rw [hQ]
        exact W.iret (v := v_35.1) hx hb hr (fun t ht hW => ⟨⟨v_35.1, (), rfl, Prod.mk.inj (Option.some.inj h), by rw [ht]; exact hP, va_K.moved hW.alike hK, hD⟩, hS.F ht⟩) hS.2.2 d_H_codeAt_38
      · have h := of_neg h c_20
        refine lv_iload_n hx hb d_H_codeAt_23 rfl (lv_at hl 1 rfl) ?_
        have hPc := hP.sub (ws' := []) [] rfl
        have hDc := hD.sub (ws' := []) [] (by decide) rfl
        have hKc := hK.sub (tys' := []) [] rfl
        have hFc := va_free (wc := []) hD hS hA [] rfl
        obtain ⟨v_24, hc_24, h⟩ := of_bind h
        refine va_calli (va_runS (As := [.int z2]) (rest := []) ⟨hx, hb, hml, hown, hts⟩ (c_H_withoutLeastCode l dC dI H.size z2 v_24.1 v_24.2 hc_24) (va_cwS 1 hts (gS mlk_H_171 sta_H_withoutLeastCode ini_H cod_H_withoutLeastCode) rfl rfl rfl (by decide +kernel) ⟨Nat.le_of_ble_eq_true rfl, Nat.le_of_ble_eq_true rfl⟩) ⟨fun a U g mk q => by obtain ⟨q0, q1, qP, qK, qD⟩ := q; exact ⟨q0, q1, qP, va_K.moved (u := U) (U := U.calling g mk a) (Vm.Alike.refl U.vm) qK, qD⟩, fun U hU hW => ⟨rfl, by rw [hU], by rw [hU]; exact hPc, va_K.moved hW.alike hKc, hDc.weaken (fun _ _ _ _ => trivial)⟩⟩ rfl rfl hl.1 rfl (lv_room (Nat.le_of_ble_eq_true rfl)) d_H_codeAt_24 ⟨Nat.le_of_ble_eq_true rfl, Nat.le_of_ble_eq_true rfl⟩) hS (fun q _ h9 => hFc q h9) hFc (fun r_24 u t H1 locs ht hvm hw hB hz1 hk1 hS => ?_)
        obtain ⟨rfl, rfl⟩ := hw
        obtain ⟨hP1, hK1, hD1⟩ := hB
        rw [ht] at hP1
        obtain ⟨hP, hD⟩ := va_join (wr := []) (w1 := []) hP hD [] [] rfl rfl (by decide) (by decide) hk1 hFc hP1 hD1
        have hP := hP.sub (ws' := []) [] rfl
        have hD := hD.sub (ws' := []) [] (by decide) rfl
        generalize H1 = H at hP hS ⊢
        refine lv_istore_n (lv' := [(2, .int v_24.1), (1, .int z1), (3, .int z3)]) hx hb d_H_codeAt_27 rfl hl (by decide) rfl (fun ls hl => ?_)
        refine lv_iinc (v := z3 + (nI 1)) (lv' := [(3, .int (z3 + (nI 1))), (2, .int v_24.1), (1, .int z1)]) hx hb d_H_codeAt_28 hl (k := 2) rfl rfl (by decide) rfl (fun ls hl => ?_)
        refine lv_goto (tgt := 18) hx hb d_H_codeAt_31 (by decide) ?_
        exact ih z1 v_24.1 (z3 + (nI 1)) h _ _ hP hD hS ls (lv_sub hl [2, 1, 0] rfl)
  unfold m_H_codeAt at h
  refine lv_iload_n hx hb d_H_codeAt_0 rfl (lv_at hl 1 rfl) ?_
  refine lv_if_lt (tgt := 12) hx hb d_H_codeAt_1 (by decide) (fun c_1 => ?_) (fun c_1 => ?_)
  · have h := of_pos h c_1
    refine lv_iconst (v := (-1 : Int32)) hx hb d_H_codeAt_12 (by decide) ?_
    rw [hQ]
    exact W.iret (v := (-1 : Int32)) hx hb hr (fun t ht hW => ⟨⟨(-1 : Int32), (), rfl, Prod.mk.inj (Option.some.inj h), by rw [ht]; exact hP, va_K.moved hW.alike hK, hD⟩, hS.F ht⟩) hS.2.2 d_H_codeAt_13
  · have h := of_neg h c_1
    refine lv_iload_n hx hb d_H_codeAt_4 rfl (lv_at hl 1 rfl) ?_
    refine lv_iload_n hx hb d_H_codeAt_5 rfl (lv_at hl 0 rfl) ?_
    have hPc := hP.sub (ws' := []) [] rfl
    have hDc := hD.sub (ws' := []) [] (by decide) rfl
    have hKc := hK.sub (tys' := []) [] rfl
    have hFc := va_free (wc := []) hD hS hA [] rfl
    obtain ⟨v_6, hc_6, h⟩ := of_bind h
    refine va_calli (va_runS (As := [.int x0]) (rest := [.int x1]) ⟨hx, hb, hml, hown, hts⟩ (c_I_bitCount l dC dI H.size x0 v_6.1 v_6.2 hc_6) (va_cwS 1 hts (gS mlk_H_66 sta_I_bitCount ini_I cod_I_bitCount) rfl rfl rfl (by decide +kernel) ⟨Nat.le_of_ble_eq_true rfl, Nat.le_of_ble_eq_true rfl⟩) ⟨fun a U g mk q => by obtain ⟨q0, q1, qP, qK, qD⟩ := q; exact ⟨q0, q1, qP, va_K.moved (u := U) (U := U.calling g mk a) (Vm.Alike.refl U.vm) qK, qD⟩, fun U hU hW => ⟨rfl, by rw [hU], by rw [hU]; exact hPc, va_K.moved hW.alike hKc, hDc.weaken (fun _ _ _ _ => trivial)⟩⟩ rfl rfl hl.1 rfl (lv_room (Nat.le_of_ble_eq_true rfl)) d_H_codeAt_6 ⟨Nat.le_of_ble_eq_true rfl, Nat.le_of_ble_eq_true rfl⟩) hS (fun q _ h9 => hFc q h9) hFc (fun r_6 u t H1 locs ht hvm hw hB hz1 hk1 hS => ?_)
    obtain ⟨rfl, rfl⟩ := hw
    obtain ⟨hP1, hK1, hD1⟩ := hB
    rw [ht] at hP1
    obtain ⟨hP, hD⟩ := va_join (wr := []) (w1 := []) hP hD [] [] rfl rfl (by decide) (by decide) hk1 hFc hP1 hD1
    have hP := hP.sub (ws' := []) [] rfl
    have hD := hD.sub (ws' := []) [] (by decide) rfl
    generalize H1 = H at hP hS ⊢
    refine lv_icmp_lt (tgt := 14) hx hb d_H_codeAt_9 (by decide) (fun c_9 => ?_) (fun c_9 => ?_)
    · have h := of_pos h c_9
      refine lv_iload_n hx hb d_H_codeAt_14 rfl (lv_at hl 0 rfl) ?_
      refine lv_istore_n (lv' := [(2, .int x0), (0, .int x0), (1, .int x1)]) hx hb d_H_codeAt_15 rfl hl (by decide) rfl (fun ls hl => ?_)
      refine lv_iconst (v := (nI 0)) hx hb d_H_codeAt_16 (by decide) ?_
      refine lv_istore_n (lv' := [(3, .int (nI 0)), (2, .int x0), (0, .int x0), (1, .int x1)]) hx hb d_H_codeAt_17 rfl hl (by decide) rfl (fun ls hl => ?_)
      exact J_18 40 x1 x0 (nI 0) h _ _ hP hD hS ls (lv_sub hl [3, 1, 0] rfl)
    · have h := of_neg h c_9
      refine lv_iconst (v := (-1 : Int32)) hx hb d_H_codeAt_12 (by decide) ?_
      rw [hQ]
      exact W.iret (v := (-1 : Int32)) hx hb hr (fun t ht hW => ⟨⟨(-1 : Int32), (), rfl, Prod.mk.inj (Option.some.inj h), by rw [ht]; exact hP, va_K.moved hW.alike hK, hD⟩, hS.F ht⟩) hS.2.2 d_H_codeAt_13
set_option maxHeartbeats 4000000 in
set_option maxRecDepth 100000 in
theorem c_H_withVariableForZ (l : Launch) (dC : Nat → ClassId) (dI : Nat → Nat → Nat) (sz : Nat)  (x0 : Int32) (x1 : Int32) (r0 : Int32) (u0 : Unit) (h : m_H_withVariableForZ x0 x1 = some (r0, u0)) : Met l y_H_withVariableForZ w_H_withVariableForZ ({ frames := 2, cells := 0, slots := 0, locals := 40 } : Room) (va_Pc [.int x0, .int x1] (fun U => U.heap.size = sz ∧ va_P (dC, dI) classes [] U.heap ∧ va_K (dC, dI) classes [] U ∧ va_D (fun _ => True) [])) (va_Qi (fun (r : Int32) (u : Unit) => r = r0 ∧ u = u0) (fun (u : Unit) (t : State) => va_P (dC, dI) classes [] t.heap ∧ va_K (dC, dI) classes [] t ∧ va_D (va_A [] sz) []) (va_A [] sz)) 0 0 (va_A [] sz) := by
  refine Met.ofW (cc := b_H_withVariableForZ) (maxL := 8) (ret := (some .int)) (by decide) rfl ?_
  intro p e s m args below meth c s₁ B hml hv
  obtain ⟨rfl, hsz, hP, hK, hD0⟩ := hv
  have hx := B.exec
  have hb := B.bytes
  have hr := B.returns
  have hts0 := atoms_spec (ws := w_H_withVariableForZ) B.pre
  have hts : ∀ w ∈ lw_gd, w.before ([.int x0, .int x1] : List Value).toArray s = true := fun w h9 => hts0 w (List.mem_cons_of_mem _ h9)
  have hown : s.vm.findClass R_H = some m.cls := findClass_of_methodNamed B.named
  have hlocks := B.notSynchronized
  subst hsz
  have hD := hD0.self (sz := s.heap.size)
  generalize hAe : va_A [] s.heap.size = A at hD ⊢
  have hA : ∀ q : Nat, s.heap.size ≤ q → A q := fun q h9 => by rw [← hAe]; exact Or.inr h9
  obtain ⟨H, eH⟩ : ∃ H : Heap, H = s.heap := ⟨_, rfl⟩
  have hS : va_S A s.heap H [] := by rw [eH]; exact va_S.rf
  have hP : va_P (dC, dI) classes [] H := by rw [eH]; exact hP
  refine W_gen (fun Q hQ => ?_)
  refine W_heap eH ?_
  clear eH
  have hl := lv_entry ([.int x0, .int x1]) (n := 8) (Nat.le_of_ble_eq_true rfl)
  rw [lg_entry_eq]
  generalize (lg_sl ([.int x0, .int x1]) ++ List.replicate (8 - (lg_sl ([.int x0, .int x1])).length) Slot.unset).toArray = ls at hl ⊢
  have hl : lv_has ls 8 [(0, .int x0), (1, .int x1)] := hl
  have J_68 : ∀ (k_7 : Int32 → Int32 → Int32 → Int32 → Option (Int32 × Unit)) (hk_7 : ∀ (z1 : Int32) (z2 : Int32) (z3 : Int32) (z4 : Int32), k_7 z1 z2 z3 z4 = some (r0, u0) → ∀ (H : Heap) (locs : List Loc), va_P (dC, dI) classes [] H → va_D A [] → va_S A s.heap H locs → ∀ (ls : Array Slot), lv_has ls 8 [(1, .int z1), (2, .int z2), (3, .int z3), (4, .int z4)] → W p l e (headSpec w_H_withVariableForZ ({ frames := 2, cells := 0, slots := 0, locals := 40 } : Room)).room s m ([.int x0, .int x1] : List Value).toArray below meth c H locs 0 0 Q (F0 m 7 ls [])) (z1 : Int32) (z3 : Int32) (z4 : Int32) (y0 : Int32) (y1 : Int32) (y2 : Int32) (y3 : Int32) (y4 : Int32), m_H_withVariableForZ_68 k_7 z1 z3 z4 y0 y1 y2 y3 y4 = some (r0, u0) → ∀ (H : Heap) (locs : List Loc), va_P (dC, dI) classes [] H → va_D A [] → va_S A s.heap H locs → ∀ (ls : Array Slot), lv_has ls 8 [(1, .int z1), (3, .int z3), (4, .int z4)] → W p l e (headSpec w_H_withVariableForZ ({ frames := 2, cells := 0, slots := 0, locals := 40 } : Room)).room s m ([.int x0, .int x1] : List Value).toArray below meth c H locs 0 0 Q (F0 m 68 ls [.int y0, .int y1, .int y2, .int y3, .int y4]) := by
    intro k_7 hk_7 z1 z3 z4 y0 y1 y2 y3 y4 h H locs hP hD hS ls hl
    unfold m_H_withVariableForZ_68 at h
    have hPc := hP.sub (ws' := []) [] rfl
    have hDc := hD.sub (ws' := []) [] (by decide) rfl
    have hKc := hK.sub (tys' := []) [] rfl
    have hFc := va_free (wc := []) hD hS hA [] rfl
    obtain ⟨v_68, hc_68, h⟩ := of_bind h
    refine va_calli (va_runS (As := [.int y2, .int y1, .int y0]) (rest := [.int y3, .int y4]) ⟨hx, hb, hml, hown, hts⟩ (c_H_codeOf l dC dI H.size y2 y1 y0 v_68.1 v_68.2 hc_68) (va_cwS 3 hts (gS mlk_H_186 sta_H_codeOf ini_H cod_H_codeOf) rfl rfl rfl (by decide +kernel) ⟨Nat.le_of_ble_eq_true rfl, Nat.le_of_ble_eq_true rfl⟩) ⟨fun a U g mk q => by obtain ⟨q0, q1, qP, qK, qD⟩ := q; exact ⟨q0, q1, qP, va_K.moved (u := U) (U := U.calling g mk a) (Vm.Alike.refl U.vm) qK, qD⟩, fun U hU hW => ⟨rfl, by rw [hU], by rw [hU]; exact hPc, va_K.moved hW.alike hKc, hDc.weaken (fun _ _ _ _ => trivial)⟩⟩ rfl rfl hl.1 rfl (lv_room (Nat.le_of_ble_eq_true rfl)) d_H_withVariableForZ_68 ⟨Nat.le_of_ble_eq_true rfl, Nat.le_of_ble_eq_true rfl⟩) hS (fun q _ h9 => hFc q h9) hFc (fun r_68 u t H1 locs ht hvm hw hB hz1 hk1 hS => ?_)
    obtain ⟨rfl, rfl⟩ := hw
    obtain ⟨hP1, hK1, hD1⟩ := hB
    rw [ht] at hP1
    obtain ⟨hP, hD⟩ := va_join (wr := []) (w1 := []) hP hD [] [] rfl rfl (by decide) (by decide) hk1 hFc hP1 hD1
    have hP := hP.sub (ws' := []) [] rfl
    have hD := hD.sub (ws' := []) [] (by decide) rfl
    generalize H1 = H at hP hS ⊢
    refine lv_ishl hx hb d_H_withVariableForZ_71 ?_
    refine lv_ior hx hb d_H_withVariableForZ_72 ?_
    refine lv_istore_n (lv' := [(2, .int (y4 ||| (y3 <<< (v_68.1 &&& 31)))), (1, .int z1), (3, .int z3), (4, .int z4)]) hx hb d_H_withVariableForZ_73 rfl hl (by decide) rfl (fun ls hl => ?_)
    refine lv_iload_n hx hb d_H_withVariableForZ_74 rfl (lv_at hl 2 rfl) ?_
    have hPc := hP.sub (ws' := []) [] rfl
    have hDc := hD.sub (ws' := []) [] (by decide) rfl
    have hKc := hK.sub (tys' := []) [] rfl
    have hFc := va_free (wc := []) hD hS hA [] rfl
    obtain ⟨v_75, hc_75, h⟩ := of_bind h
    refine va_calli (va_runS (As := [.int z3]) (rest := []) ⟨hx, hb, hml, hown, hts⟩ (c_H_withoutLeastCode l dC dI H.size z3 v_75.1 v_75.2 hc_75) (va_cwS 1 hts (gS mlk_H_171 sta_H_withoutLeastCode ini_H cod_H_withoutLeastCode) rfl rfl rfl (by decide +kernel) ⟨Nat.le_of_ble_eq_true rfl, Nat.le_of_ble_eq_true rfl⟩) ⟨fun a U g mk q => by obtain ⟨q0, q1, qP, qK, qD⟩ := q; exact ⟨q0, q1, qP, va_K.moved (u := U) (U := U.calling g mk a) (Vm.Alike.refl U.vm) qK, qD⟩, fun U hU hW => ⟨rfl, by rw [hU], by rw [hU]; exact hPc, va_K.moved hW.alike hKc, hDc.weaken (fun _ _ _ _ => trivial)⟩⟩ rfl rfl hl.1 rfl (lv_room (Nat.le_of_ble_eq_true rfl)) d_H_withVariableForZ_75 ⟨Nat.le_of_ble_eq_true rfl, Nat.le_of_ble_eq_true rfl⟩) hS (fun q _ h9 => hFc q h9) hFc (fun r_75 u t H1 locs ht hvm hw hB hz1 hk1 hS => ?_)
    obtain ⟨rfl, rfl⟩ := hw
    obtain ⟨hP1, hK1, hD1⟩ := hB
    rw [ht] at hP1
    obtain ⟨hP, hD⟩ := va_join (wr := []) (w1 := []) hP hD [] [] rfl rfl (by decide) (by decide) hk1 hFc hP1 hD1
    have hP := hP.sub (ws' := []) [] rfl
    have hD := hD.sub (ws' := []) [] (by decide) rfl
    generalize H1 = H at hP hS ⊢
    refine lv_istore_n (lv' := [(3, .int v_75.1), (2, .int (y4 ||| (y3 <<< (v_68.1 &&& 31)))), (1, .int z1), (4, .int z4)]) hx hb d_H_withVariableForZ_78 rfl hl (by decide) rfl (fun ls hl => ?_)
    refine lv_iinc (v := z4 + (nI 1)) (lv' := [(4, .int (z4 + (nI 1))), (3, .int v_75.1), (2, .int (y4 ||| (y3 <<< (v_68.1 &&& 31)))), (1, .int z1)]) hx hb d_H_withVariableForZ_79 hl (k := 3) rfl rfl (by decide) rfl (fun ls hl => ?_)
    refine lv_goto (tgt := 7) hx hb d_H_withVariableForZ_82 (by decide) ?_
    exact hk_7 z1 (y4 ||| (y3 <<< (v_68.1 &&& 31))) v_75.1 (z4 + (nI 1)) h _ _ hP hD hS ls (lv_sub hl [3, 2, 1, 0] rfl)
  have J_56 : ∀ (k_7 : Int32 → Int32 → Int32 → Int32 → Option (Int32 × Unit)) (hk_7 : ∀ (z1 : Int32) (z2 : Int32) (z3 : Int32) (z4 : Int32), k_7 z1 z2 z3 z4 = some (r0, u0) → ∀ (H : Heap) (locs : List Loc), va_P (dC, dI) classes [] H → va_D A [] → va_S A s.heap H locs → ∀ (ls : Array Slot), lv_has ls 8 [(1, .int z1), (2, .int z2), (3, .int z3), (4, .int z4)] → W p l e (headSpec w_H_withVariableForZ ({ frames := 2, cells := 0, slots := 0, locals := 40 } : Room)).room s m ([.int x0, .int x1] : List Value).toArray below meth c H locs 0 0 Q (F0 m 7 ls [])) (z1 : Int32) (z3 : Int32) (z4 : Int32) (z7 : Int32) (y0 : Int32) (y1 : Int32) (y2 : Int32) (y3 : Int32), m_H_withVariableForZ_56 k_7 z1 z3 z4 z7 y0 y1 y2 y3 = some (r0, u0) → ∀ (H : Heap) (locs : List Loc), va_P (dC, dI) classes [] H → va_D A [] → va_S A s.heap H locs → ∀ (ls : Array Slot), lv_has ls 8 [(1, .int z1), (3, .int z3), (4, .int z4), (7, .int z7)] → W p l e (headSpec w_H_withVariableForZ ({ frames := 2, cells := 0, slots := 0, locals := 40 } : Room)).room s m ([.int x0, .int x1] : List Value).toArray below meth c H locs 0 0 Q (F0 m 56 ls [.int y0, .int y1, .int y2, .int y3]) := by
    intro k_7 hk_7 z1 z3 z4 z7 y0 y1 y2 y3 h H locs hP hD hS ls hl
    unfold m_H_withVariableForZ_56 at h
    refine lv_iload hx hb d_H_withVariableForZ_56 (lv_at hl 3 rfl) ?_
    refine lv_iconst (v := (nI 2)) hx hb d_H_withVariableForZ_58 (by decide) ?_
    refine lv_icmp_ne (tgt := 66) hx hb d_H_withVariableForZ_59 (by decide) (fun c_59 => ?_) (fun c_59 => ?_)
    · have h := of_neg h c_59
      refine lv_iload hx hb d_H_withVariableForZ_66 (lv_at hl 3 rfl) ?_
      exact J_68 k_7 hk_7 z1 z3 z4 z7 y0 y1 y2 y3 h _ _ hP hD hS ls (lv_sub hl [0, 1, 2] rfl)
    · have h := of_pos h c_59
      refine lv_iload_n hx hb d_H_withVariableForZ_62 rfl (lv_at hl 0 rfl) ?_
      refine lv_goto (tgt := 68) hx hb d_H_withVariableForZ_63 (by decide) ?_
      exact J_68 k_7 hk_7 z1 z3 z4 z1 y0 y1 y2 y3 h _ _ hP hD hS ls (lv_sub hl [0, 1, 2] rfl)
  have J_7 : ∀ (n : Nat) (z1 : Int32) (z2 : Int32) (z3 : Int32) (z4 : Int32), m_H_withVariableForZ_7 n z1 z2 z3 z4 = some (r0, u0) → ∀ (H : Heap) (locs : List Loc), va_P (dC, dI) classes [] H → va_D A [] → va_S A s.heap H locs → ∀ (ls : Array Slot), lv_has ls 8 [(1, .int z1), (2, .int z2), (3, .int z3), (4, .int z4)] → W p l e (headSpec w_H_withVariableForZ ({ frames := 2, cells := 0, slots := 0, locals := 40 } : Room)).room s m ([.int x0, .int x1] : List Value).toArray below meth c H locs 0 0 Q (F0 m 7 ls []) := by
    intro n
    induction n with
    | zero => intro z1 z2 z3 z4 h; exact absurd h (by unfold m_H_withVariableForZ_7; exact fun h9 => nomatch h9)
    | succ n ih =>
      intro z1 z2 z3 z4 h H locs hP hD hS ls hl
      unfold m_H_withVariableForZ_7 at h
      refine lv_iload hx hb d_H_withVariableForZ_7 (lv_at hl 3 rfl) ?_
      refine lv_iconst (v := (nI 3)) hx hb d_H_withVariableForZ_9 (by decide) ?_
      refine lv_icmp_ge (tgt := 85) hx hb d_H_withVariableForZ_10 (by decide) (fun c_10 => ?_) (fun c_10 => ?_)
      · have h := of_pos h c_10
        refine lv_iload_n hx hb d_H_withVariableForZ_85 rfl (lv_at hl 1 rfl) ?_
        rw [hQ]
        exact W.iret (v := z2) hx hb hr (fun t ht hW => ⟨⟨z2, (), rfl, Prod.mk.inj (Option.some.inj h), by rw [ht]; exact hP, va_K.moved hW.alike hK, hD⟩, hS.F ht⟩) hS.2.2 d_H_withVariableForZ_86
      · have h := of_neg h c_10
        refine lv_iload_n hx hb d_H_withVariableForZ_13 rfl (lv_at hl 2 rfl) ?_
        refine lv_if_eq (tgt := 85) hx hb d_H_withVariableForZ_14 (by decide) (fun c_14 => ?_) (fun c_14 => ?_)
        · have h := of_pos h c_14
          refine lv_iload_n hx hb d_H_withVariableForZ_85 rfl (lv_at hl 1 rfl) ?_
          rw [hQ]
          exact W.iret (v := z2) hx hb hr (fun t ht hW => ⟨⟨z2, (), rfl, Prod.mk.inj (Option.some.inj h), by rw [ht]; exact hP, va_K.moved hW.alike hK, hD⟩, hS.F ht⟩) hS.2.2 d_H_withVariableForZ_86
        · have h := of_neg h c_14
          refine lv_iload_n hx hb d_H_withVariableForZ_17 rfl (lv_at hl 2 rfl) ?_
          have hPc := hP.sub (ws' := []) [] rfl
          have hDc := hD.sub (ws' := []) [] (by decide) rfl
          have hKc := hK.sub (tys' := []) [] rfl
          have hFc := va_free (wc := []) hD hS hA [] rfl
          obtain ⟨v_18, hc_18, h⟩ := of_bind h
          refine va_calli (va_runS (As := [.int z3]) (rest := []) ⟨hx, hb, hml, hown, hts⟩ (c_H_leastCode l dC dI H.size z3 v_18.1 v_18.2 hc_18) (va_cwS 1 hts (gS mlk_H_174 sta_H_leastCode ini_H cod_H_leastCode) rfl rfl rfl (by decide +kernel) ⟨Nat.le_of_ble_eq_true rfl, Nat.le_of_ble_eq_true rfl⟩) ⟨fun a U g mk q => by obtain ⟨q0, q1, qP, qK, qD⟩ := q; exact ⟨q0, q1, qP, va_K.moved (u := U) (U := U.calling g mk a) (Vm.Alike.refl U.vm) qK, qD⟩, fun U hU hW => ⟨rfl, by rw [hU], by rw [hU]; exact hPc, va_K.moved hW.alike hKc, hDc.weaken (fun _ _ _ _ => trivial)⟩⟩ rfl rfl hl.1 rfl (lv_room (Nat.le_of_ble_eq_true rfl)) d_H_withVariableForZ_18 ⟨Nat.le_of_ble_eq_true rfl, Nat.le_of_ble_eq_true rfl⟩) hS (fun q _ h9 => hFc q h9) hFc (fun r_18 u t H1 locs ht hvm hw hB hz1 hk1 hS => ?_)
          obtain ⟨rfl, rfl⟩ := hw
          obtain ⟨hP1, hK1, hD1⟩ := hB
          rw [ht] at hP1
          obtain ⟨hP, hD⟩ := va_join (wr := []) (w1 := []) hP hD [] [] rfl rfl (by decide) (by decide) hk1 hFc hP1 hD1
          have hP := hP.sub (ws' := []) [] rfl
          have hD := hD.sub (ws' := []) [] (by decide) rfl
          generalize H1 = H at hP hS ⊢
          refine lv_istore (lv' := [(5, .int v_18.1), (1, .int z1), (2, .int z2), (3, .int z3), (4, .int z4)]) hx hb d_H_withVariableForZ_21 hl (by decide) rfl (fun ls hl => ?_)
          refine lv_iload hx hb d_H_withVariableForZ_23 (lv_at hl 0 rfl) ?_
          have hPc := hP.sub (ws' := []) [] rfl
          have hDc := hD.sub (ws' := []) [] (by decide) rfl
          have hKc := hK.sub (tys' := []) [] rfl
          have hFc := va_free (wc := []) hD hS hA [] rfl
          obtain ⟨v_25, hc_25, h⟩ := of_bind h
          refine va_calli (va_runS (As := [.int v_18.1]) (rest := []) ⟨hx, hb, hml, hown, hts⟩ (c_H_firstVariableOf l dC dI H.size v_18.1 v_25.1 v_25.2 hc_25) (va_cwS 1 hts (gS mlk_H_177 sta_H_firstVariableOf ini_H cod_H_firstVariableOf) rfl rfl rfl (by decide +kernel) ⟨Nat.le_of_ble_eq_true rfl, Nat.le_of_ble_eq_true rfl⟩) ⟨fun a U g mk q => by obtain ⟨q0, q1, qP, qK, qD⟩ := q; exact ⟨q0, q1, qP, va_K.moved (u := U) (U := U.calling g mk a) (Vm.Alike.refl U.vm) qK, qD⟩, fun U hU hW => ⟨rfl, by rw [hU], by rw [hU]; exact hPc, va_K.moved hW.alike hKc, hDc.weaken (fun _ _ _ _ => trivial)⟩⟩ rfl rfl hl.1 rfl (lv_room (Nat.le_of_ble_eq_true rfl)) d_H_withVariableForZ_25 ⟨Nat.le_of_ble_eq_true rfl, Nat.le_of_ble_eq_true rfl⟩) hS (fun q _ h9 => hFc q h9) hFc (fun r_25 u t H1 locs ht hvm hw hB hz1 hk1 hS => ?_)
          obtain ⟨rfl, rfl⟩ := hw
          obtain ⟨hP1, hK1, hD1⟩ := hB
          rw [ht] at hP1
          obtain ⟨hP, hD⟩ := va_join (wr := []) (w1 := []) hP hD [] [] rfl rfl (by decide) (by decide) hk1 hFc hP1 hD1
          have hP := hP.sub (ws' := []) [] rfl
          have hD := hD.sub (ws' := []) [] (by decide) rfl
          generalize H1 = H at hP hS ⊢
          refine lv_istore (lv' := [(6, .int v_25.1), (5, .int v_18.1), (1, .int z1), (2, .int z2), (3, .int z3), (4, .int z4)]) hx hb d_H_withVariableForZ_28 hl (by decide) rfl (fun ls hl => ?_)
          refine lv_iload hx hb d_H_withVariableForZ_30 (lv_at hl 1 rfl) ?_
          have hPc := hP.sub (ws' := []) [] rfl
          have hDc := hD.sub (ws' := []) [] (by decide) rfl
          have hKc := hK.sub (tys' := []) [] rfl
          have hFc := va_free (wc := []) hD hS hA [] rfl
          obtain ⟨v_32, hc_32, h⟩ := of_bind h
          refine va_calli (va_runS (As := [.int v_18.1]) (rest := []) ⟨hx, hb, hml, hown, hts⟩ (c_H_secondVariableOf l dC dI H.size v_18.1 v_32.1 v_32.2 hc_32) (va_cwS 1 hts (gS mlk_H_180 sta_H_secondVariableOf ini_H cod_H_secondVariableOf) rfl rfl rfl (by decide +kernel) ⟨Nat.le_of_ble_eq_true rfl, Nat.le_of_ble_eq_true rfl⟩) ⟨fun a U g mk q => by obtain ⟨q0, q1, qP, qK, qD⟩ := q; exact ⟨q0, q1, qP, va_K.moved (u := U) (U := U.calling g mk a) (Vm.Alike.refl U.vm) qK, qD⟩, fun U hU hW => ⟨rfl, by rw [hU], by rw [hU]; exact hPc, va_K.moved hW.alike hKc, hDc.weaken (fun _ _ _ _ => trivial)⟩⟩ rfl rfl hl.1 rfl (lv_room (Nat.le_of_ble_eq_true rfl)) d_H_withVariableForZ_32 ⟨Nat.le_of_ble_eq_true rfl, Nat.le_of_ble_eq_true rfl⟩) hS (fun q _ h9 => hFc q h9) hFc (fun r_32 u t H1 locs ht hvm hw hB hz1 hk1 hS => ?_)
          obtain ⟨rfl, rfl⟩ := hw
          obtain ⟨hP1, hK1, hD1⟩ := hB
          rw [ht] at hP1
          obtain ⟨hP, hD⟩ := va_join (wr := []) (w1 := []) hP hD [] [] rfl rfl (by decide) (by decide) hk1 hFc hP1 hD1
          have hP := hP.sub (ws' := []) [] rfl
          have hD := hD.sub (ws' := []) [] (by decide) rfl
          generalize H1 = H at hP hS ⊢
          refine lv_istore (lv' := [(7, .int v_32.1), (6, .int v_25.1), (5, .int v_18.1), (1, .int z1), (2, .int z2), (3, .int z3), (4, .int z4)]) hx hb d_H_withVariableForZ_35 hl (by decide) rfl (fun ls hl => ?_)
          refine lv_iload_n hx hb d_H_withVariableForZ_37 rfl (lv_at hl 4 rfl) ?_
          refine lv_iconst (v := (nI 1)) hx hb d_H_withVariableForZ_38 (by decide) ?_
          refine lv_iload hx hb d_H_withVariableForZ_39 (lv_at hl 2 rfl) ?_
          have hPc := hP.sub (ws' := []) [] rfl
          have hDc := hD.sub (ws' := []) [] (by decide) rfl
          have hKc := hK.sub (tys' := []) [] rfl
          have hFc := va_free (wc := []) hD hS hA [] rfl
          obtain ⟨v_41, hc_41, h⟩ := of_bind h
          refine va_calli (va_runS (As := [.int v_18.1]) (rest := [.int (nI 1), .int z2]) ⟨hx, hb, hml, hown, hts⟩ (c_H_relationOf l dC dI H.size v_18.1 v_41.1 v_41.2 hc_41) (va_cwS 1 hts (gS mlk_H_183 sta_H_relationOf ini_H cod_H_relationOf) rfl rfl rfl (by decide +kernel) ⟨Nat.le_of_ble_eq_true rfl, Nat.le_of_ble_eq_true rfl⟩) ⟨fun a U g mk q => by obtain ⟨q0, q1, qP, qK, qD⟩ := q; exact ⟨q0, q1, qP, va_K.moved (u := U) (U := U.calling g mk a) (Vm.Alike.refl U.vm) qK, qD⟩, fun U hU hW => ⟨rfl, by rw [hU], by rw [hU]; exact hPc, va_K.moved hW.alike hKc, hDc.weaken (fun _ _ _ _ => trivial)⟩⟩ rfl rfl hl.1 rfl (lv_room (Nat.le_of_ble_eq_true rfl)) d_H_withVariableForZ_41 ⟨Nat.le_of_ble_eq_true rfl, Nat.le_of_ble_eq_true rfl⟩) hS (fun q _ h9 => hFc q h9) hFc (fun r_41 u t H1 locs ht hvm hw hB hz1 hk1 hS => ?_)
          obtain ⟨rfl, rfl⟩ := hw
          obtain ⟨hP1, hK1, hD1⟩ := hB
          rw [ht] at hP1
          obtain ⟨hP, hD⟩ := va_join (wr := []) (w1 := []) hP hD [] [] rfl rfl (by decide) (by decide) hk1 hFc hP1 hD1
          have hP := hP.sub (ws' := []) [] rfl
          have hD := hD.sub (ws' := []) [] (by decide) rfl
          generalize H1 = H at hP hS ⊢
          refine lv_iload hx hb d_H_withVariableForZ_44 (lv_at hl 1 rfl) ?_
          refine lv_iconst (v := (nI 2)) hx hb d_H_withVariableForZ_46 (by decide) ?_
          refine lv_icmp_ne (tgt := 54) hx hb d_H_withVariableForZ_47 (by decide) (fun c_47 => ?_) (fun c_47 => ?_)
          · have h := of_neg h c_47
            refine lv_iload hx hb d_H_withVariableForZ_54 (lv_at hl 1 rfl) ?_
            exact J_56 (m_H_withVariableForZ_7 n) ih z1 z3 z4 v_32.1 v_25.1 v_41.1 (nI 1) z2 h _ _ hP hD hS ls (lv_sub hl [3, 5, 6, 0] rfl)
          · have h := of_pos h c_47
            refine lv_iload_n hx hb d_H_withVariableForZ_50 rfl (lv_at hl 3 rfl) ?_
            refine lv_goto (tgt := 56) hx hb d_H_withVariableForZ_51 (by decide) ?_
            exact J_56 (m_H_withVariableForZ_7 n) ih z1 z3 z4 v_32.1 z1 v_41.1 (nI 1) z2 h _ _ hP hD hS ls (lv_sub hl [3, 5, 6, 0] rfl)
  unfold m_H_withVariableForZ at h
  refine lv_iconst (v := (nI 0)) hx hb d_H_withVariableForZ_0 (by decide) ?_
  refine lv_istore_n (lv' := [(2, .int (nI 0)), (0, .int x0), (1, .int x1)]) hx hb d_H_withVariableForZ_1 rfl hl (by decide) rfl (fun ls hl => ?_)
  refine lv_iload_n hx hb d_H_withVariableForZ_2 rfl (lv_at hl 1 rfl) ?_
  refine lv_istore_n (lv' := [(3, .int x0), (2, .int (nI 0)), (0, .int x0), (1, .int x1)]) hx hb d_H_withVariableForZ_3 rfl hl (by decide) rfl (fun ls hl => ?_)
  refine lv_iconst (v := (nI 0)) hx hb d_H_withVariableForZ_4 (by decide) ?_
  refine lv_istore (lv' := [(4, .int (nI 0)), (3, .int x0), (2, .int (nI 0)), (0, .int x0), (1, .int x1)]) hx hb d_H_withVariableForZ_5 hl (by decide) rfl (fun ls hl => ?_)
  exact J_7 40 x1 (nI 0) x0 (nI 0) h _ _ hP hD hS ls (lv_sub hl [4, 2, 1, 0] rfl)
end
section
theorem d_S_coder_0 : decode b_S_coder 0 = .ok (.getstatic 38, 3) := by decide +kernel
theorem d_S_coder_3 : decode b_S_coder 3 = .ok (.ifCond .eq 10, 3) := by decide +kernel
theorem d_S_coder_6 : decode b_S_coder 6 = .ok (.aload_n 0, 1) := by decide +kernel
theorem d_S_coder_7 : decode b_S_coder 7 = .ok (.getfield 15, 3) := by decide +kernel
theorem d_S_coder_10 : decode b_S_coder 10 = .ok (.goto 4, 3) := by decide +kernel
theorem d_S_coder_13 : decode b_S_coder 13 = .ok (.iconst 1, 1) := by decide +kernel
theorem d_S_coder_14 : decode b_S_coder 14 = .ok (.ireturn, 1) := by decide +kernel
theorem d_S_isLatin1_0 : decode b_S_isLatin1 0 = .ok (.getstatic 38, 3) := by decide +kernel
theorem d_S_isLatin1_3 : decode b_S_isLatin1 3 = .ok (.ifCond .eq 14, 3) := by decide +kernel
theorem d_S_isLatin1_6 : decode b_S_isLatin1 6 = .ok (.aload_n 0, 1) := by decide +kernel
theorem d_S_isLatin1_7 : decode b_S_isLatin1 7 = .ok (.getfield 15, 3) := by decide +kernel
theorem d_S_isLatin1_10 : decode b_S_isLatin1 10 = .ok (.ifCond .ne 7, 3) := by decide +kernel
theorem d_S_isLatin1_13 : decode b_S_isLatin1 13 = .ok (.iconst 1, 1) := by decide +kernel
theorem d_S_isLatin1_14 : decode b_S_isLatin1 14 = .ok (.goto 4, 3) := by decide +kernel
theorem d_S_isLatin1_17 : decode b_S_isLatin1 17 = .ok (.iconst 0, 1) := by decide +kernel
theorem d_S_isLatin1_18 : decode b_S_isLatin1 18 = .ok (.ireturn, 1) := by decide +kernel
theorem d_S_length_0 : decode b_S_length 0 = .ok (.aload_n 0, 1) := by decide +kernel
theorem d_S_length_1 : decode b_S_length 1 = .ok (.getfield 9, 3) := by decide +kernel
theorem d_S_length_4 : decode b_S_length 4 = .ok (.arraylength, 1) := by decide +kernel
theorem d_S_length_5 : decode b_S_length 5 = .ok (.aload_n 0, 1) := by decide +kernel
theorem d_S_length_6 : decode b_S_length 6 = .ok (.invokevirtual 335, 3) := by decide +kernel
theorem d_S_length_9 : decode b_S_length 9 = .ok (.ishr, 1) := by decide +kernel
theorem d_S_length_10 : decode b_S_length 10 = .ok (.ireturn, 1) := by decide +kernel
theorem d_Q_checkIndex_0 : decode b_Q_checkIndex 0 = .ok (.iload_n 0, 1) := by decide +kernel
theorem d_Q_checkIndex_1 : decode b_Q_checkIndex 1 = .ok (.ifCond .lt 8, 3) := by decide +kernel
theorem d_Q_checkIndex_4 : decode b_Q_checkIndex 4 = .ok (.iload_n 0, 1) := by decide +kernel
theorem d_Q_checkIndex_5 : decode b_Q_checkIndex 5 = .ok (.iload_n 1, 1) := by decide +kernel
theorem d_Q_checkIndex_6 : decode b_Q_checkIndex 6 = .ok (.if_icmp .lt 10, 3) := by decide +kernel
theorem d_Q_checkIndex_9 : decode b_Q_checkIndex 9 = .ok (.aload_n 2, 1) := by decide +kernel
theorem d_Q_checkIndex_10 : decode b_Q_checkIndex 10 = .ok (.iload_n 0, 1) := by decide +kernel
theorem d_Q_checkIndex_11 : decode b_Q_checkIndex 11 = .ok (.iload_n 1, 1) := by decide +kernel
theorem d_Q_checkIndex_12 : decode b_Q_checkIndex 12 = .ok (.invokestatic 95, 3) := by decide +kernel
theorem d_Q_checkIndex_15 : decode b_Q_checkIndex 15 = .ok (.athrow, 1) := by decide +kernel
theorem d_Q_checkIndex_16 : decode b_Q_checkIndex 16 = .ok (.iload_n 0, 1) := by decide +kernel
theorem d_Q_checkIndex_17 : decode b_Q_checkIndex 17 = .ok (.ireturn, 1) := by decide +kernel
theorem d_S_checkIndex_0 : decode b_S_checkIndex 0 = .ok (.iload_n 0, 1) := by decide +kernel
theorem d_S_checkIndex_1 : decode b_S_checkIndex 1 = .ok (.iload_n 1, 1) := by decide +kernel
theorem d_S_checkIndex_2 : decode b_S_checkIndex 2 = .ok (.getstatic 1053, 3) := by decide +kernel
theorem d_S_checkIndex_5 : decode b_S_checkIndex 5 = .ok (.invokestatic 1059, 3) := by decide +kernel
theorem d_S_checkIndex_8 : decode b_S_checkIndex 8 = .ok (.pop, 1) := by decide +kernel
theorem d_S_checkIndex_9 : decode b_S_checkIndex 9 = .ok (.return_, 1) := by decide +kernel
theorem d_T_charAt_0 : decode b_T_charAt 0 = .ok (.iload_n 1, 1) := by decide +kernel
theorem d_T_charAt_1 : decode b_T_charAt 1 = .ok (.aload_n 0, 1) := by decide +kernel
theorem d_T_charAt_2 : decode b_T_charAt 2 = .ok (.arraylength, 1) := by decide +kernel
theorem d_T_charAt_3 : decode b_T_charAt 3 = .ok (.invokestatic 9, 3) := by decide +kernel
theorem d_T_charAt_6 : decode b_T_charAt 6 = .ok (.aload_n 0, 1) := by decide +kernel
theorem d_T_charAt_7 : decode b_T_charAt 7 = .ok (.iload_n 1, 1) := by decide +kernel
theorem d_T_charAt_8 : decode b_T_charAt 8 = .ok (.baload, 1) := by decide +kernel
theorem d_T_charAt_9 : decode b_T_charAt 9 = .ok (.sipush 255, 3) := by decide +kernel
theorem d_T_charAt_12 : decode b_T_charAt 12 = .ok (.iand, 1) := by decide +kernel
theorem d_T_charAt_13 : decode b_T_charAt 13 = .ok (.i2c, 1) := by decide +kernel
theorem d_T_charAt_14 : decode b_T_charAt 14 = .ok (.ireturn, 1) := by decide +kernel
theorem d_S_charAt_0 : decode b_S_charAt 0 = .ok (.aload_n 0, 1) := by decide +kernel
theorem d_S_charAt_1 : decode b_S_charAt 1 = .ok (.invokevirtual 492, 3) := by decide +kernel
theorem d_S_charAt_4 : decode b_S_charAt 4 = .ok (.ifCond .eq 12, 3) := by decide +kernel
theorem d_S_charAt_7 : decode b_S_charAt 7 = .ok (.aload_n 0, 1) := by decide +kernel
theorem d_S_charAt_8 : decode b_S_charAt 8 = .ok (.getfield 9, 3) := by decide +kernel
theorem d_S_charAt_11 : decode b_S_charAt 11 = .ok (.iload_n 1, 1) := by decide +kernel
theorem d_S_charAt_12 : decode b_S_charAt 12 = .ok (.invokestatic 495, 3) := by decide +kernel
theorem d_S_charAt_15 : decode b_S_charAt 15 = .ok (.ireturn, 1) := by decide +kernel
theorem d_S_charAt_16 : decode b_S_charAt 16 = .ok (.aload_n 0, 1) := by decide +kernel
theorem d_S_charAt_17 : decode b_S_charAt 17 = .ok (.getfield 9, 3) := by decide +kernel
theorem d_S_charAt_20 : decode b_S_charAt 20 = .ok (.iload_n 1, 1) := by decide +kernel
theorem d_S_charAt_21 : decode b_S_charAt 21 = .ok (.invokestatic 498, 3) := by decide +kernel
theorem d_S_charAt_24 : decode b_S_charAt 24 = .ok (.ireturn, 1) := by decide +kernel
theorem d_T_canEncode_0 : decode b_T_canEncode 0 = .ok (.iload_n 0, 1) := by decide +kernel
theorem d_T_canEncode_1 : decode b_T_canEncode 1 = .ok (.ifCond .lt 14, 3) := by decide +kernel
theorem d_T_canEncode_4 : decode b_T_canEncode 4 = .ok (.iload_n 0, 1) := by decide +kernel
theorem d_T_canEncode_5 : decode b_T_canEncode 5 = .ok (.sipush 255, 3) := by decide +kernel
theorem d_T_canEncode_8 : decode b_T_canEncode 8 = .ok (.if_icmp .gt 7, 3) := by decide +kernel
theorem d_T_canEncode_11 : decode b_T_canEncode 11 = .ok (.iconst 1, 1) := by decide +kernel
theorem d_T_canEncode_12 : decode b_T_canEncode 12 = .ok (.goto 4, 3) := by decide +kernel
theorem d_T_canEncode_15 : decode b_T_canEncode 15 = .ok (.iconst 0, 1) := by decide +kernel
theorem d_T_canEncode_16 : decode b_T_canEncode 16 = .ok (.ireturn, 1) := by decide +kernel
theorem d_T_indexOfChar_0 : decode b_T_indexOfChar 0 = .ok (.iload_n 1, 1) := by decide +kernel
theorem d_T_indexOfChar_1 : decode b_T_indexOfChar 1 = .ok (.i2b, 1) := by decide +kernel
theorem d_T_indexOfChar_2 : decode b_T_indexOfChar 2 = .ok (.istore 4, 2) := by decide +kernel
theorem d_T_indexOfChar_4 : decode b_T_indexOfChar 4 = .ok (.iload_n 2, 1) := by decide +kernel
theorem d_T_indexOfChar_5 : decode b_T_indexOfChar 5 = .ok (.istore 5, 2) := by decide +kernel
theorem d_T_indexOfChar_7 : decode b_T_indexOfChar 7 = .ok (.iload 5, 2) := by decide +kernel
theorem d_T_indexOfChar_9 : decode b_T_indexOfChar 9 = .ok (.iload_n 3, 1) := by decide +kernel
theorem d_T_indexOfChar_10 : decode b_T_indexOfChar 10 = .ok (.if_icmp .ge 21, 3) := by decide +kernel
theorem d_T_indexOfChar_13 : decode b_T_indexOfChar 13 = .ok (.aload_n 0, 1) := by decide +kernel
theorem d_T_indexOfChar_14 : decode b_T_indexOfChar 14 = .ok (.iload 5, 2) := by decide +kernel
theorem d_T_indexOfChar_16 : decode b_T_indexOfChar 16 = .ok (.baload, 1) := by decide +kernel
theorem d_T_indexOfChar_17 : decode b_T_indexOfChar 17 = .ok (.iload 4, 2) := by decide +kernel
theorem d_T_indexOfChar_19 : decode b_T_indexOfChar 19 = .ok (.if_icmp .ne 6, 3) := by decide +kernel
theorem d_T_indexOfChar_22 : decode b_T_indexOfChar 22 = .ok (.iload 5, 2) := by decide +kernel
theorem d_T_indexOfChar_24 : decode b_T_indexOfChar 24 = .ok (.ireturn, 1) := by decide +kernel
theorem d_T_indexOfChar_25 : decode b_T_indexOfChar 25 = .ok (.iinc 5 1, 3) := by decide +kernel
theorem d_T_indexOfChar_28 : decode b_T_indexOfChar 28 = .ok (.goto (-21), 3) := by decide +kernel
theorem d_T_indexOfChar_31 : decode b_T_indexOfChar 31 = .ok (.iconst (-1), 1) := by decide +kernel
theorem d_T_indexOfChar_32 : decode b_T_indexOfChar 32 = .ok (.ireturn, 1) := by decide +kernel
theorem d_T_indexOf_0 : decode b_T_indexOf 0 = .ok (.iload_n 1, 1) := by decide +kernel
theorem d_T_indexOf_1 : decode b_T_indexOf 1 = .ok (.invokestatic 88, 3) := by decide +kernel
theorem d_T_indexOf_4 : decode b_T_indexOf 4 = .ok (.ifCond .ne 5, 3) := by decide +kernel
theorem d_T_indexOf_7 : decode b_T_indexOf 7 = .ok (.iconst (-1), 1) := by decide +kernel
theorem d_T_indexOf_8 : decode b_T_indexOf 8 = .ok (.ireturn, 1) := by decide +kernel
theorem d_T_indexOf_9 : decode b_T_indexOf 9 = .ok (.iload_n 2, 1) := by decide +kernel
theorem d_T_indexOf_10 : decode b_T_indexOf 10 = .ok (.iconst 0, 1) := by decide +kernel
theorem d_T_indexOf_11 : decode b_T_indexOf 11 = .ok (.invokestatic 92, 3) := by decide +kernel
theorem d_T_indexOf_14 : decode b_T_indexOf 14 = .ok (.istore_n 2, 1) := by decide +kernel
theorem d_T_indexOf_15 : decode b_T_indexOf 15 = .ok (.iload_n 3, 1) := by decide +kernel
theorem d_T_indexOf_16 : decode b_T_indexOf 16 = .ok (.aload_n 0, 1) := by decide +kernel
theorem d_T_indexOf_17 : decode b_T_indexOf 17 = .ok (.arraylength, 1) := by decide +kernel
theorem d_T_indexOf_18 : decode b_T_indexOf 18 = .ok (.invokestatic 38, 3) := by decide +kernel
theorem d_T_indexOf_21 : decode b_T_indexOf 21 = .ok (.istore_n 3, 1) := by decide +kernel
theorem d_T_indexOf_22 : decode b_T_indexOf 22 = .ok (.iload_n 2, 1) := by decide +kernel
theorem d_T_indexOf_23 : decode b_T_indexOf 23 = .ok (.iload_n 3, 1) := by decide +kernel
theorem d_T_indexOf_24 : decode b_T_indexOf 24 = .ok (.if_icmp .lt 5, 3) := by decide +kernel
theorem d_T_indexOf_27 : decode b_T_indexOf 27 = .ok (.iconst (-1), 1) := by decide +kernel
theorem d_T_indexOf_28 : decode b_T_indexOf 28 = .ok (.ireturn, 1) := by decide +kernel
theorem d_T_indexOf_29 : decode b_T_indexOf 29 = .ok (.aload_n 0, 1) := by decide +kernel
theorem d_T_indexOf_30 : decode b_T_indexOf 30 = .ok (.iload_n 1, 1) := by decide +kernel
theorem d_T_indexOf_31 : decode b_T_indexOf 31 = .ok (.iload_n 2, 1) := by decide +kernel
theorem d_T_indexOf_32 : decode b_T_indexOf 32 = .ok (.iload_n 3, 1) := by decide +kernel
theorem d_T_indexOf_33 : decode b_T_indexOf 33 = .ok (.invokestatic 95, 3) := by decide +kernel
theorem d_T_indexOf_36 : decode b_T_indexOf 36 = .ok (.ireturn, 1) := by decide +kernel
theorem d_S_indexOf2_0 : decode b_S_indexOf2 0 = .ok (.aload_n 0, 1) := by decide +kernel
theorem d_S_indexOf2_1 : decode b_S_indexOf2 1 = .ok (.invokevirtual 492, 3) := by decide +kernel
theorem d_S_indexOf2_4 : decode b_S_indexOf2 4 = .ok (.ifCond .eq 19, 3) := by decide +kernel
theorem d_S_indexOf2_7 : decode b_S_indexOf2 7 = .ok (.aload_n 0, 1) := by decide +kernel
theorem d_S_indexOf2_8 : decode b_S_indexOf2 8 = .ok (.getfield 9, 3) := by decide +kernel
theorem d_S_indexOf2_11 : decode b_S_indexOf2 11 = .ok (.iload_n 1, 1) := by decide +kernel
theorem d_S_indexOf2_12 : decode b_S_indexOf2 12 = .ok (.iload_n 2, 1) := by decide +kernel
theorem d_S_indexOf2_13 : decode b_S_indexOf2 13 = .ok (.aload_n 0, 1) := by decide +kernel
theorem d_S_indexOf2_14 : decode b_S_indexOf2 14 = .ok (.invokevirtual 505, 3) := by decide +kernel
theorem d_S_indexOf2_17 : decode b_S_indexOf2 17 = .ok (.invokestatic 637, 3) := by decide +kernel
theorem d_S_indexOf2_20 : decode b_S_indexOf2 20 = .ok (.goto 16, 3) := by decide +kernel
theorem d_S_indexOf2_23 : decode b_S_indexOf2 23 = .ok (.aload_n 0, 1) := by decide +kernel
theorem d_S_indexOf2_24 : decode b_S_indexOf2 24 = .ok (.getfield 9, 3) := by decide +kernel
theorem d_S_indexOf2_27 : decode b_S_indexOf2 27 = .ok (.iload_n 1, 1) := by decide +kernel
theorem d_S_indexOf2_28 : decode b_S_indexOf2 28 = .ok (.iload_n 2, 1) := by decide +kernel
theorem d_S_indexOf2_29 : decode b_S_indexOf2 29 = .ok (.aload_n 0, 1) := by decide +kernel
theorem d_S_indexOf2_30 : decode b_S_indexOf2 30 = .ok (.invokevirtual 505, 3) := by decide +kernel
theorem d_S_indexOf2_33 : decode b_S_indexOf2 33 = .ok (.invokestatic 640, 3) := by decide +kernel
theorem d_S_indexOf2_36 : decode b_S_indexOf2 36 = .ok (.ireturn, 1) := by decide +kernel
theorem d_S_indexOf1_0 : decode b_S_indexOf1 0 = .ok (.aload_n 0, 1) := by decide +kernel
theorem d_S_indexOf1_1 : decode b_S_indexOf1 1 = .ok (.iload_n 1, 1) := by decide +kernel
theorem d_S_indexOf1_2 : decode b_S_indexOf1 2 = .ok (.iconst 0, 1) := by decide +kernel
theorem d_S_indexOf1_3 : decode b_S_indexOf1 3 = .ok (.invokevirtual 633, 3) := by decide +kernel
theorem d_S_indexOf1_6 : decode b_S_indexOf1 6 = .ok (.ireturn, 1) := by decide +kernel
set_option maxHeartbeats 4000000 in
set_option maxRecDepth 100000 in
theorem c_S_coder (l : Launch) (dC : Nat → ClassId) (dI : Nat → Nat → Nat) (tb : Nat) (ak av : Nat → Nat) (sz : Nat)  (x0 : Nat) (r0 : Int32) (u0 : Unit) (h : m_S_coder x0 = some (r0, u0)) : Met l y_S_coder w_S_coder ({ frames := 0, cells := 0, slots := 0, locals := 0 } : Room) (va_Pc [.ref (ak x0)] (fun U => U.heap.size = sz ∧ va_P (dC, dI) classes [] U.heap ∧ va_K (dC, dI) classes [] U ∧ va_D (fun _ => True) [] ∧ kw tb ak av (va_A [] sz) U)) (va_Qi (fun (r : Int32) (u : Unit) => r = r0 ∧ u = u0) (fun (u : Unit) (t : State) => va_P (dC, dI) classes [] t.heap ∧ va_K (dC, dI) classes [] t ∧ va_D (va_A [] sz) []) (va_A [] sz)) 0 0 (va_A [] sz) := by
  refine Met.ofW (cc := b_S_coder) (maxL := 1) (ret := (some .byte)) (by decide) rfl ?_
  intro p e s m args below meth c s₁ B hml hv
  obtain ⟨rfl, hsz, hP, hK, hD0, hC⟩ := hv
  have hx := B.exec
  have hb := B.bytes
  have hr := B.returns
  have hts0 := atoms_spec (ws := w_S_coder) B.pre
  have hts : ∀ w ∈ lw_gd, w.before ([.ref (ak x0)] : List Value).toArray s = true := fun w h9 => hts0 w (List.mem_cons_of_mem _ h9)
  have hown : s.vm.findClass R_S = some m.cls := findClass_of_methodNamed B.named
  have hlocks := B.notSynchronized
  subst hsz
  have hD := hD0.self (sz := s.heap.size)
  generalize hAe : va_A [] s.heap.size = A at hD hC ⊢
  have hA : ∀ q : Nat, s.heap.size ≤ q → A q := fun q h9 => by rw [← hAe]; exact Or.inr h9
  obtain ⟨H, eH⟩ : ∃ H : Heap, H = s.heap := ⟨_, rfl⟩
  have hS : va_S A s.heap H [] := by rw [eH]; exact va_S.rf
  have hP : va_P (dC, dI) classes [] H := by rw [eH]; exact hP
  refine W_gen (fun Q hQ => ?_)
  refine W_heap eH ?_
  clear eH
  have hl := lv_entry ([.ref (ak x0)]) (n := 1) (Nat.le_of_ble_eq_true rfl)
  rw [lg_entry_eq]
  generalize (lg_sl ([.ref (ak x0)]) ++ List.replicate (1 - (lg_sl ([.ref (ak x0)])).length) Slot.unset).toArray = ls at hl ⊢
  have hl : lv_has ls 1 [(0, .ref (ak x0))] := hl
  unfold m_S_coder at h
  refine va_gets hx hb hC.cmp hS hown (hts _ flk_S_38) (fun _ h9 => h9) d_S_coder_0 ?_
  refine lv_if_eq (tgt := 13) hx hb d_S_coder_3 (by decide) (fun c_3 => ?_) (fun c_3 => ?_)
  · have h := of_pos h c_3
    refine lv_iconst (v := (nI 1)) hx hb d_S_coder_13 (by decide) ?_
    rw [hQ]
    exact W.zret (v := (nI 1)) hx hb hr rfl (fun t ht hW => ⟨⟨(nI 1), (), rfl, Prod.mk.inj (Option.some.inj h), by rw [ht]; exact hP, va_K.moved hW.alike hK, hD⟩, hS.F ht⟩) hS.2.2 d_S_coder_14
  · have h := of_neg h c_3
    refine lv_aload_n hx hb d_S_coder_6 rfl (lv_at hl 0 rfl) ?_
    obtain ⟨g_7, h⟩ := of_guard h
    refine vk_getf hx hb (hC.cod (inN_lt g_7)) hS hown (hts _ flk_S_15) (fun _ h9 => h9) d_S_coder_7 ?_
    refine lv_goto (tgt := 14) hx hb d_S_coder_10 (by decide) ?_
    rw [hQ]
    exact W.zret (v := (nI 0)) hx hb hr rfl (fun t ht hW => ⟨⟨(nI 0), (), rfl, Prod.mk.inj (Option.some.inj h), by rw [ht]; exact hP, va_K.moved hW.alike hK, hD⟩, hS.F ht⟩) hS.2.2 d_S_coder_14
set_option maxHeartbeats 4000000 in
set_option maxRecDepth 100000 in
theorem c_S_isLatin1 (l : Launch) (dC : Nat → ClassId) (dI : Nat → Nat → Nat) (tb : Nat) (ak av : Nat → Nat) (sz : Nat)  (x0 : Nat) (r0 : Int32) (u0 : Unit) (h : m_S_isLatin1 x0 = some (r0, u0)) : Met l y_S_isLatin1 w_S_isLatin1 ({ frames := 0, cells := 0, slots := 0, locals := 0 } : Room) (va_Pc [.ref (ak x0)] (fun U => U.heap.size = sz ∧ va_P (dC, dI) classes [] U.heap ∧ va_K (dC, dI) classes [] U ∧ va_D (fun _ => True) [] ∧ kw tb ak av (va_A [] sz) U)) (va_Qi (fun (r : Int32) (u : Unit) => r = r0 ∧ u = u0) (fun (u : Unit) (t : State) => va_P (dC, dI) classes [] t.heap ∧ va_K (dC, dI) classes [] t ∧ va_D (va_A [] sz) []) (va_A [] sz)) 0 0 (va_A [] sz) := by
  refine Met.ofW (cc := b_S_isLatin1) (maxL := 1) (ret := (some .boolean)) (by decide) rfl ?_
  intro p e s m args below meth c s₁ B hml hv
  obtain ⟨rfl, hsz, hP, hK, hD0, hC⟩ := hv
  have hx := B.exec
  have hb := B.bytes
  have hr := B.returns
  have hts0 := atoms_spec (ws := w_S_isLatin1) B.pre
  have hts : ∀ w ∈ lw_gd, w.before ([.ref (ak x0)] : List Value).toArray s = true := fun w h9 => hts0 w (List.mem_cons_of_mem _ h9)
  have hown : s.vm.findClass R_S = some m.cls := findClass_of_methodNamed B.named
  have hlocks := B.notSynchronized
  subst hsz
  have hD := hD0.self (sz := s.heap.size)
  generalize hAe : va_A [] s.heap.size = A at hD hC ⊢
  have hA : ∀ q : Nat, s.heap.size ≤ q → A q := fun q h9 => by rw [← hAe]; exact Or.inr h9
  obtain ⟨H, eH⟩ : ∃ H : Heap, H = s.heap := ⟨_, rfl⟩
  have hS : va_S A s.heap H [] := by rw [eH]; exact va_S.rf
  have hP : va_P (dC, dI) classes [] H := by rw [eH]; exact hP
  refine W_gen (fun Q hQ => ?_)
  refine W_heap eH ?_
  clear eH
  have hl := lv_entry ([.ref (ak x0)]) (n := 1) (Nat.le_of_ble_eq_true rfl)
  rw [lg_entry_eq]
  generalize (lg_sl ([.ref (ak x0)]) ++ List.replicate (1 - (lg_sl ([.ref (ak x0)])).length) Slot.unset).toArray = ls at hl ⊢
  have hl : lv_has ls 1 [(0, .ref (ak x0))] := hl
  unfold m_S_isLatin1 at h
  refine va_gets hx hb hC.cmp hS hown (hts _ flk_S_38) (fun _ h9 => h9) d_S_isLatin1_0 ?_
  refine lv_if_eq (tgt := 17) hx hb d_S_isLatin1_3 (by decide) (fun c_3 => ?_) (fun c_3 => ?_)
  · have h := of_pos h c_3
    refine lv_iconst (v := (nI 0)) hx hb d_S_isLatin1_17 (by decide) ?_
    rw [hQ]
    exact W.zret (v := (nI 0)) hx hb hr rfl (fun t ht hW => ⟨⟨(nI 0), (), rfl, Prod.mk.inj (Option.some.inj h), by rw [ht]; exact hP, va_K.moved hW.alike hK, hD⟩, hS.F ht⟩) hS.2.2 d_S_isLatin1_18
  · have h := of_neg h c_3
    refine lv_aload_n hx hb d_S_isLatin1_6 rfl (lv_at hl 0 rfl) ?_
    obtain ⟨g_7, h⟩ := of_guard h
    refine vk_getf hx hb (hC.cod (inN_lt g_7)) hS hown (hts _ flk_S_15) (fun _ h9 => h9) d_S_isLatin1_7 ?_
    refine lv_if_ne (tgt := 17) hx hb d_S_isLatin1_10 (by decide) (fun c_10 => ?_) (fun c_10 => ?_)
    · have h := of_neg h c_10
      refine lv_iconst (v := (nI 0)) hx hb d_S_isLatin1_17 (by decide) ?_
      rw [hQ]
      exact W.zret (v := (nI 0)) hx hb hr rfl (fun t ht hW => ⟨⟨(nI 0), (), rfl, Prod.mk.inj (Option.some.inj h), by rw [ht]; exact hP, va_K.moved hW.alike hK, hD⟩, hS.F ht⟩) hS.2.2 d_S_isLatin1_18
    · have h := of_pos h c_10
      refine lv_iconst (v := (nI 1)) hx hb d_S_isLatin1_13 (by decide) ?_
      refine lv_goto (tgt := 18) hx hb d_S_isLatin1_14 (by decide) ?_
      rw [hQ]
      exact W.zret (v := (nI 1)) hx hb hr rfl (fun t ht hW => ⟨⟨(nI 1), (), rfl, Prod.mk.inj (Option.some.inj h), by rw [ht]; exact hP, va_K.moved hW.alike hK, hD⟩, hS.F ht⟩) hS.2.2 d_S_isLatin1_18
set_option maxHeartbeats 4000000 in
set_option maxRecDepth 100000 in
theorem c_S_length (l : Launch) (dC : Nat → ClassId) (dI : Nat → Nat → Nat) (tb : Nat) (ak av : Nat → Nat) (sz : Nat)  (x0 : Nat) (r0 : Int32) (u0 : Unit) (h : m_S_length x0 = some (r0, u0)) : Met l y_S_length w_S_length ({ frames := 1, cells := 0, slots := 0, locals := 20 } : Room) (va_Pc [.ref (ak x0)] (fun U => U.heap.size = sz ∧ va_P (dC, dI) classes [] U.heap ∧ va_K (dC, dI) classes [] U ∧ va_D (fun _ => True) [] ∧ kw tb ak av (va_A [] sz) U)) (va_Qi (fun (r : Int32) (u : Unit) => r = r0 ∧ u = u0) (fun (u : Unit) (t : State) => va_P (dC, dI) classes [] t.heap ∧ va_K (dC, dI) classes [] t ∧ va_D (va_A [] sz) []) (va_A [] sz)) 0 0 (va_A [] sz) := by
  refine Met.ofW (cc := b_S_length) (maxL := 1) (ret := (some .int)) (by decide) rfl ?_
  intro p e s m args below meth c s₁ B hml hv
  obtain ⟨rfl, hsz, hP, hK, hD0, hC⟩ := hv
  have hx := B.exec
  have hb := B.bytes
  have hr := B.returns
  have hts0 := atoms_spec (ws := w_S_length) B.pre
  have hts : ∀ w ∈ lw_gd, w.before ([.ref (ak x0)] : List Value).toArray s = true := fun w h9 => hts0 w (List.mem_cons_of_mem _ h9)
  have hown : s.vm.findClass R_S = some m.cls := findClass_of_methodNamed B.named
  have hlocks := B.notSynchronized
  subst hsz
  have hD := hD0.self (sz := s.heap.size)
  generalize hAe : va_A [] s.heap.size = A at hD hC ⊢
  have hA : ∀ q : Nat, s.heap.size ≤ q → A q := fun q h9 => by rw [← hAe]; exact Or.inr h9
  obtain ⟨H, eH⟩ : ∃ H : Heap, H = s.heap := ⟨_, rfl⟩
  have hS : va_S A s.heap H [] := by rw [eH]; exact va_S.rf
  have hP : va_P (dC, dI) classes [] H := by rw [eH]; exact hP
  refine W_gen (fun Q hQ => ?_)
  refine W_heap eH ?_
  clear eH
  have hl := lv_entry ([.ref (ak x0)]) (n := 1) (Nat.le_of_ble_eq_true rfl)
  rw [lg_entry_eq]
  generalize (lg_sl ([.ref (ak x0)]) ++ List.replicate (1 - (lg_sl ([.ref (ak x0)])).length) Slot.unset).toArray = ls at hl ⊢
  have hl : lv_has ls 1 [(0, .ref (ak x0))] := hl
  unfold m_S_length at h
  refine lv_aload_n hx hb d_S_length_0 rfl (lv_at hl 0 rfl) ?_
  obtain ⟨g_1, h⟩ := of_guard h
  refine vk_getf hx hb (hC.val (inN_lt g_1)) hS hown (hts _ flk_S_9) (fun _ h9 => h9) d_S_length_1 ?_
  obtain ⟨g_4, h⟩ := of_guard h
  refine va_tlen hx hb (hC.byt (inN_lt g_4)) hS rfl d_S_length_4 ?_
  refine lv_aload_n hx hb d_S_length_5 rfl (lv_at hl 0 rfl) ?_
  have hPc := hP.sub (ws' := []) [] rfl
  have hDc := hD.sub (ws' := []) [] (by decide) rfl
  have hKc := hK.sub (tys' := []) [] rfl
  have hFc := va_free (wc := []) hD hS hA [] rfl
  obtain ⟨gq_6, h⟩ := of_guard h
  obtain ⟨v_6, hc_6, h⟩ := of_bind h
  skip
  refine va_calli (va_runV (As := []) (rest := [.int (nI (xlen.getD x0 0))]) ⟨hx, hb, hml, hown, hts⟩ (c_S_coder l dC dI tb ak av H.size x0 v_6.1 v_6.2 hc_6) (cwV 0 hts (gV mlk_S_335 ins_S_coder sel_S_coder ini_S cod_S_coder) rfl rfl rfl (by decide +kernel) ⟨Nat.le_of_ble_eq_true rfl, Nat.le_of_ble_eq_true rfl⟩) ⟨fun a U g mk q => by obtain ⟨q0, q1, qP, qK, qD, qC⟩ := q; exact ⟨q0, q1, qP, va_K.moved (u := U) (U := U.calling g mk a) (Vm.Alike.refl U.vm) qK, qD, kw_blind qC⟩, hC.rcv (inN_lt gq_6) hS, fun U hU hW => ⟨rfl, by rw [hU], by rw [hU]; exact hPc, va_K.moved hW.alike hKc, hDc.weaken (fun _ _ _ _ => trivial), kw_call hC hS hFc hU hW⟩⟩ rfl rfl hl.1 rfl (lv_room (Nat.le_of_ble_eq_true rfl)) d_S_length_6 ⟨Nat.le_of_ble_eq_true rfl, Nat.le_of_ble_eq_true rfl⟩) hS (fun q _ h9 => hFc q h9) hFc (fun r_6 u t H1 locs ht hvm hw hB hz1 hk1 hS => ?_)
  obtain ⟨rfl, rfl⟩ := hw
  obtain ⟨hP1, hK1, hD1⟩ := hB
  rw [ht] at hP1
  obtain ⟨hP, hD⟩ := va_join (wr := []) (w1 := []) hP hD [] [] rfl rfl (by decide) (by decide) hk1 hFc hP1 hD1
  have hP := hP.sub (ws' := []) [] rfl
  have hD := hD.sub (ws' := []) [] (by decide) rfl
  generalize H1 = H at hP hS ⊢
  refine lv_ishr hx hb d_S_length_9 ?_
  rw [hQ]
  exact W.iret (v := (nI (xlen.getD x0 0)) >>> (v_6.1 &&& 31)) hx hb hr (fun t ht hW => ⟨⟨(nI (xlen.getD x0 0)) >>> (v_6.1 &&& 31), (), rfl, Prod.mk.inj (Option.some.inj h), by rw [ht]; exact hP, va_K.moved hW.alike hK, hD⟩, hS.F ht⟩) hS.2.2 d_S_length_10
set_option maxHeartbeats 4000000 in
set_option maxRecDepth 100000 in
theorem c_Q_checkIndex (l : Launch) (dC : Nat → ClassId) (dI : Nat → Nat → Nat) (sz : Nat)  (x0 : Int32) (x1 : Int32) (r0 : Int32) (u0 : Unit) (h : m_Q_checkIndex x0 x1 = some (r0, u0)) : Met l y_Q_checkIndex w_Q_checkIndex ({ frames := 0, cells := 0, slots := 0, locals := 0 } : Room) (va_Pc [.int x0, .int x1, .null] (fun U => U.heap.size = sz ∧ va_P (dC, dI) classes [] U.heap ∧ va_K (dC, dI) classes [] U ∧ va_D (fun _ => True) [])) (va_Qi (fun (r : Int32) (u : Unit) => r = r0 ∧ u = u0) (fun (u : Unit) (t : State) => va_P (dC, dI) classes [] t.heap ∧ va_K (dC, dI) classes [] t ∧ va_D (va_A [] sz) []) (va_A [] sz)) 0 0 (va_A [] sz) := by
  refine Met.ofW (cc := b_Q_checkIndex) (maxL := 3) (ret := (some .int)) (by decide) rfl ?_
  intro p e s m args below meth c s₁ B hml hv
  obtain ⟨rfl, hsz, hP, hK, hD0⟩ := hv
  have hx := B.exec
  have hb := B.bytes
  have hr := B.returns
  have hts0 := atoms_spec (ws := w_Q_checkIndex) B.pre
  have hts : ∀ w ∈ lw_gd, w.before ([.int x0, .int x1, .null] : List Value).toArray s = true := fun w h9 => hts0 w (List.mem_cons_of_mem _ h9)
  have hown : s.vm.findClass R_Q = some m.cls := findClass_of_methodNamed B.named
  have hlocks := B.notSynchronized
  subst hsz
  have hD := hD0.self (sz := s.heap.size)
  generalize hAe : va_A [] s.heap.size = A at hD ⊢
  have hA : ∀ q : Nat, s.heap.size ≤ q → A q := fun q h9 => by rw [← hAe]; exact Or.inr h9
  obtain ⟨H, eH⟩ : ∃ H : Heap, H = s.heap := ⟨_, rfl⟩
  have hS : va_S A s.heap H [] := by rw [eH]; exact va_S.rf
  have hP : va_P (dC, dI) classes [] H := by rw [eH]; exact hP
  refine W_gen (fun Q hQ => ?_)
  refine W_heap eH ?_
  clear eH
  have hl := lv_entry ([.int x0, .int x1, .null]) (n := 3) (Nat.le_of_ble_eq_true rfl)
  rw [lg_entry_eq]
  generalize (lg_sl ([.int x0, .int x1, .null]) ++ List.replicate (3 - (lg_sl ([.int x0, .int x1, .null])).length) Slot.unset).toArray = ls at hl ⊢
  have hl : lv_has ls 3 [(0, .int x0), (1, .int x1), (2, .null)] := hl
  unfold m_Q_checkIndex at h
  refine lv_iload_n hx hb d_Q_checkIndex_0 rfl (lv_at hl 0 rfl) ?_
  refine lv_if_lt (tgt := 9) hx hb d_Q_checkIndex_1 (by decide) (fun c_1 => ?_) (fun c_1 => ?_)
  · have h := of_pos h c_1
    exact nomatch h
  · have h := of_neg h c_1
    refine lv_iload_n hx hb d_Q_checkIndex_4 rfl (lv_at hl 0 rfl) ?_
    refine lv_iload_n hx hb d_Q_checkIndex_5 rfl (lv_at hl 1 rfl) ?_
    refine lv_icmp_lt (tgt := 16) hx hb d_Q_checkIndex_6 (by decide) (fun c_6 => ?_) (fun c_6 => ?_)
    · have h := of_pos h c_6
      refine lv_iload_n hx hb d_Q_checkIndex_16 rfl (lv_at hl 0 rfl) ?_
      rw [hQ]
      exact W.iret (v := x0) hx hb hr (fun t ht hW => ⟨⟨x0, (), rfl, Prod.mk.inj (Option.some.inj h), by rw [ht]; exact hP, va_K.moved hW.alike hK, hD⟩, hS.F ht⟩) hS.2.2 d_Q_checkIndex_17
    · have h := of_neg h c_6
      exact nomatch h
set_option maxHeartbeats 4000000 in
set_option maxRecDepth 100000 in
theorem c_Q_checkIndex_r (l : Launch) (dC : Nat → ClassId) (dI : Nat → Nat → Nat) (tq : Nat) (sz : Nat)  (x0 : Int32) (x1 : Int32) (r0 : Int32) (u0 : Unit) (h : m_Q_checkIndex x0 x1 = some (r0, u0)) : Met l y_Q_checkIndex w_Q_checkIndex ({ frames := 0, cells := 0, slots := 0, locals := 0 } : Room) (va_Pc [.int x0, .int x1, .ref tq] (fun U => U.heap.size = sz ∧ va_P (dC, dI) classes [] U.heap ∧ va_K (dC, dI) classes [] U ∧ va_D (fun _ => True) [])) (va_Qi (fun (r : Int32) (u : Unit) => r = r0 ∧ u = u0) (fun (u : Unit) (t : State) => va_P (dC, dI) classes [] t.heap ∧ va_K (dC, dI) classes [] t ∧ va_D (va_A [] sz) []) (va_A [] sz)) 0 0 (va_A [] sz) := by
  refine Met.ofW (cc := b_Q_checkIndex) (maxL := 3) (ret := (some .int)) (by decide) rfl ?_
  intro p e s m args below meth c s₁ B hml hv
  obtain ⟨rfl, hsz, hP, hK, hD0⟩ := hv
  have hx := B.exec
  have hb := B.bytes
  have hr := B.returns
  have hts0 := atoms_spec (ws := w_Q_checkIndex) B.pre
  have hts : ∀ w ∈ lw_gd, w.before ([.int x0, .int x1, .ref tq] : List Value).toArray s = true := fun w h9 => hts0 w (List.mem_cons_of_mem _ h9)
  have hown : s.vm.findClass R_Q = some m.cls := findClass_of_methodNamed B.named
  have hlocks := B.notSynchronized
  subst hsz
  have hD := hD0.self (sz := s.heap.size)
  generalize hAe : va_A [] s.heap.size = A at hD ⊢
  have hA : ∀ q : Nat, s.heap.size ≤ q → A q := fun q h9 => by rw [← hAe]; exact Or.inr h9
  obtain ⟨H, eH⟩ : ∃ H : Heap, H = s.heap := ⟨_, rfl⟩
  have hS : va_S A s.heap H [] := by rw [eH]; exact va_S.rf
  have hP : va_P (dC, dI) classes [] H := by rw [eH]; exact hP
  refine W_gen (fun Q hQ => ?_)
  refine W_heap eH ?_
  clear eH
  have hl := lv_entry ([.int x0, .int x1, .ref tq]) (n := 3) (Nat.le_of_ble_eq_true rfl)
  rw [lg_entry_eq]
  generalize (lg_sl ([.int x0, .int x1, .ref tq]) ++ List.replicate (3 - (lg_sl ([.int x0, .int x1, .ref tq])).length) Slot.unset).toArray = ls at hl ⊢
  have hl : lv_has ls 3 [(0, .int x0), (1, .int x1), (2, .ref tq)] := hl
  unfold m_Q_checkIndex at h
  refine lv_iload_n hx hb d_Q_checkIndex_0 rfl (lv_at hl 0 rfl) ?_
  refine lv_if_lt (tgt := 9) hx hb d_Q_checkIndex_1 (by decide) (fun c_1 => ?_) (fun c_1 => ?_)
  · have h := of_pos h c_1
    exact nomatch h
  · have h := of_neg h c_1
    refine lv_iload_n hx hb d_Q_checkIndex_4 rfl (lv_at hl 0 rfl) ?_
    refine lv_iload_n hx hb d_Q_checkIndex_5 rfl (lv_at hl 1 rfl) ?_
    refine lv_icmp_lt (tgt := 16) hx hb d_Q_checkIndex_6 (by decide) (fun c_6 => ?_) (fun c_6 => ?_)
    · have h := of_pos h c_6
      refine lv_iload_n hx hb d_Q_checkIndex_16 rfl (lv_at hl 0 rfl) ?_
      rw [hQ]
      exact W.iret (v := x0) hx hb hr (fun t ht hW => ⟨⟨x0, (), rfl, Prod.mk.inj (Option.some.inj h), by rw [ht]; exact hP, va_K.moved hW.alike hK, hD⟩, hS.F ht⟩) hS.2.2 d_Q_checkIndex_17
    · have h := of_neg h c_6
      exact nomatch h
set_option maxHeartbeats 4000000 in
set_option maxRecDepth 100000 in
theorem c_S_checkIndex (l : Launch) (dC : Nat → ClassId) (dI : Nat → Nat → Nat) (tb : Nat) (ak av : Nat → Nat) (sz : Nat)  (x0 : Int32) (x1 : Int32) (u0 : Unit) (h : m_S_checkIndex x0 x1 = some u0) : Met l y_S_checkIndex w_S_checkIndex ({ frames := 1, cells := 0, slots := 0, locals := 22 } : Room) (va_Pc [.int x0, .int x1] (fun U => U.heap.size = sz ∧ va_P (dC, dI) classes [] U.heap ∧ va_K (dC, dI) classes [] U ∧ va_D (fun _ => True) [] ∧ kw tb ak av (va_A [] sz) U)) (va_Qv (fun (u : Unit) => u = u0) (fun (u : Unit) (t : State) => va_P (dC, dI) classes [] t.heap ∧ va_K (dC, dI) classes [] t ∧ va_D (va_A [] sz) []) (va_A [] sz)) 0 0 (va_A [] sz) := by
  refine Met.ofW (cc := b_S_checkIndex) (maxL := 2) (ret := none) (by decide) rfl ?_
  intro p e s m args below meth c s₁ B hml hv
  obtain ⟨rfl, hsz, hP, hK, hD0, hC⟩ := hv
  have hx := B.exec
  have hb := B.bytes
  have hr := B.returns
  have hts0 := atoms_spec (ws := w_S_checkIndex) B.pre
  have hts : ∀ w ∈ lw_gd, w.before ([.int x0, .int x1] : List Value).toArray s = true := fun w h9 => hts0 w (List.mem_cons_of_mem _ h9)
  have hown : s.vm.findClass R_S = some m.cls := findClass_of_methodNamed B.named
  have hlocks := B.notSynchronized
  subst hsz
  have hD := hD0.self (sz := s.heap.size)
  generalize hAe : va_A [] s.heap.size = A at hD hC ⊢
  have hA : ∀ q : Nat, s.heap.size ≤ q → A q := fun q h9 => by rw [← hAe]; exact Or.inr h9
  obtain ⟨H, eH⟩ : ∃ H : Heap, H = s.heap := ⟨_, rfl⟩
  have hS : va_S A s.heap H [] := by rw [eH]; exact va_S.rf
  have hP : va_P (dC, dI) classes [] H := by rw [eH]; exact hP
  refine W_gen (fun Q hQ => ?_)
  refine W_heap eH ?_
  clear eH
  have hl := lv_entry ([.int x0, .int x1]) (n := 2) (Nat.le_of_ble_eq_true rfl)
  rw [lg_entry_eq]
  generalize (lg_sl ([.int x0, .int x1]) ++ List.replicate (2 - (lg_sl ([.int x0, .int x1])).length) Slot.unset).toArray = ls at hl ⊢
  have hl : lv_has ls 2 [(0, .int x0), (1, .int x1)] := hl
  unfold m_S_checkIndex at h
  refine lv_iload_n hx hb d_S_checkIndex_0 rfl (lv_at hl 0 rfl) ?_
  refine lv_iload_n hx hb d_S_checkIndex_1 rfl (lv_at hl 1 rfl) ?_
  rcases hC.fmt with hz | ⟨tq, hz⟩
  · refine va_gets hx hb hz hS hown (hts _ flk_S_1053) (fun _ h9 => h9) d_S_checkIndex_2 ?_
    have hPc := hP.sub (ws' := []) [] rfl
    have hDc := hD.sub (ws' := []) [] (by decide) rfl
    have hKc := hK.sub (tys' := []) [] rfl
    have hFc := va_free (wc := []) hD hS hA [] rfl
    obtain ⟨v_5, hc_5, h⟩ := of_bind h
    refine va_calli (va_runS (As := [.int x0, .int x1, .null]) (rest := []) ⟨hx, hb, hml, hown, hts⟩ (c_Q_checkIndex l dC dI H.size x0 x1 v_5.1 v_5.2 hc_5) (va_cwS 3 hts (gS mlk_S_1059 sta_Q_checkIndex ini_Q cod_Q_checkIndex) rfl rfl rfl (by decide +kernel) ⟨Nat.le_of_ble_eq_true rfl, Nat.le_of_ble_eq_true rfl⟩) ⟨fun a U g mk q => by obtain ⟨q0, q1, qP, qK, qD⟩ := q; exact ⟨q0, q1, qP, va_K.moved (u := U) (U := U.calling g mk a) (Vm.Alike.refl U.vm) qK, qD⟩, fun U hU hW => ⟨rfl, by rw [hU], by rw [hU]; exact hPc, va_K.moved hW.alike hKc, hDc.weaken (fun _ _ _ _ => trivial)⟩⟩ rfl rfl hl.1 rfl (lv_room (Nat.le_of_ble_eq_true rfl)) d_S_checkIndex_5 ⟨Nat.le_of_ble_eq_true rfl, Nat.le_of_ble_eq_true rfl⟩) hS (fun q _ h9 => hFc q h9) hFc (fun r_5 u t H1 locs ht hvm hw hB hz1 hk1 hS => ?_)
    obtain ⟨rfl, rfl⟩ := hw
    obtain ⟨hP1, hK1, hD1⟩ := hB
    rw [ht] at hP1
    obtain ⟨hP, hD⟩ := va_join (wr := []) (w1 := []) hP hD [] [] rfl rfl (by decide) (by decide) hk1 hFc hP1 hD1
    have hP := hP.sub (ws' := []) [] rfl
    have hD := hD.sub (ws' := []) [] (by decide) rfl
    generalize H1 = H at hP hS ⊢
    refine lv_pop hx hb d_S_checkIndex_8 rfl ?_
    rw [hQ]
    exact W.vret hx hb hr (fun t ht hW => ⟨⟨(), rfl, Option.some.inj h, by rw [ht]; exact hP, va_K.moved hW.alike hK, hD⟩, hS.F ht⟩) hS.2.2 d_S_checkIndex_9
  · refine va_gets hx hb hz hS hown (hts _ flk_S_1053) (fun _ h9 => h9) d_S_checkIndex_2 ?_
    have hPc := hP.sub (ws' := []) [] rfl
    have hDc := hD.sub (ws' := []) [] (by decide) rfl
    have hKc := hK.sub (tys' := []) [] rfl
    have hFc := va_free (wc := []) hD hS hA [] rfl
    obtain ⟨v_5, hc_5, h⟩ := of_bind h
    refine va_calli (va_runS (As := [.int x0, .int x1, .ref tq]) (rest := []) ⟨hx, hb, hml, hown, hts⟩ (c_Q_checkIndex_r l dC dI tq H.size x0 x1 v_5.1 v_5.2 hc_5) (va_cwS 3 hts (gS mlk_S_1059 sta_Q_checkIndex ini_Q cod_Q_checkIndex) rfl rfl rfl (by decide +kernel) ⟨Nat.le_of_ble_eq_true rfl, Nat.le_of_ble_eq_true rfl⟩) ⟨fun a U g mk q => by obtain ⟨q0, q1, qP, qK, qD⟩ := q; exact ⟨q0, q1, qP, va_K.moved (u := U) (U := U.calling g mk a) (Vm.Alike.refl U.vm) qK, qD⟩, fun U hU hW => ⟨rfl, by rw [hU], by rw [hU]; exact hPc, va_K.moved hW.alike hKc, hDc.weaken (fun _ _ _ _ => trivial)⟩⟩ rfl rfl hl.1 rfl (lv_room (Nat.le_of_ble_eq_true rfl)) d_S_checkIndex_5 ⟨Nat.le_of_ble_eq_true rfl, Nat.le_of_ble_eq_true rfl⟩) hS (fun q _ h9 => hFc q h9) hFc (fun r_5 u t H1 locs ht hvm hw hB hz1 hk1 hS => ?_)
    obtain ⟨rfl, rfl⟩ := hw
    obtain ⟨hP1, hK1, hD1⟩ := hB
    rw [ht] at hP1
    obtain ⟨hP, hD⟩ := va_join (wr := []) (w1 := []) hP hD [] [] rfl rfl (by decide) (by decide) hk1 hFc hP1 hD1
    have hP := hP.sub (ws' := []) [] rfl
    have hD := hD.sub (ws' := []) [] (by decide) rfl
    generalize H1 = H at hP hS ⊢
    refine lv_pop hx hb d_S_checkIndex_8 rfl ?_
    rw [hQ]
    exact W.vret hx hb hr (fun t ht hW => ⟨⟨(), rfl, Option.some.inj h, by rw [ht]; exact hP, va_K.moved hW.alike hK, hD⟩, hS.F ht⟩) hS.2.2 d_S_checkIndex_9
set_option maxHeartbeats 4000000 in
set_option maxRecDepth 100000 in
theorem c_T_charAt (l : Launch) (dC : Nat → ClassId) (dI : Nat → Nat → Nat) (tb : Nat) (ak av : Nat → Nat) (sz : Nat)  (x0 : Nat) (x1 : Int32) (r0 : Int32) (u0 : Unit) (h : m_T_charAt x0 x1 = some (r0, u0)) : Met l y_T_charAt w_T_charAt ({ frames := 2, cells := 0, slots := 0, locals := 43 } : Room) (va_Pc [.ref (av x0), .int x1] (fun U => U.heap.size = sz ∧ va_P (dC, dI) classes [] U.heap ∧ va_K (dC, dI) classes [] U ∧ va_D (fun _ => True) [] ∧ kw tb ak av (va_A [] sz) U)) (va_Qi (fun (r : Int32) (u : Unit) => r = r0 ∧ u = u0) (fun (u : Unit) (t : State) => va_P (dC, dI) classes [] t.heap ∧ va_K (dC, dI) classes [] t ∧ va_D (va_A [] sz) []) (va_A [] sz)) 0 0 (va_A [] sz) := by
  refine Met.ofW (cc := b_T_charAt) (maxL := 2) (ret := (some .char)) (by decide) rfl ?_
  intro p e s m args below meth c s₁ B hml hv
  obtain ⟨rfl, hsz, hP, hK, hD0, hC⟩ := hv
  have hx := B.exec
  have hb := B.bytes
  have hr := B.returns
  have hts0 := atoms_spec (ws := w_T_charAt) B.pre
  have hts : ∀ w ∈ lw_gd, w.before ([.ref (av x0), .int x1] : List Value).toArray s = true := fun w h9 => hts0 w (List.mem_cons_of_mem _ h9)
  have hown : s.vm.findClass R_T = some m.cls := findClass_of_methodNamed B.named
  have hlocks := B.notSynchronized
  subst hsz
  have hD := hD0.self (sz := s.heap.size)
  generalize hAe : va_A [] s.heap.size = A at hD hC ⊢
  have hA : ∀ q : Nat, s.heap.size ≤ q → A q := fun q h9 => by rw [← hAe]; exact Or.inr h9
  obtain ⟨H, eH⟩ : ∃ H : Heap, H = s.heap := ⟨_, rfl⟩
  have hS : va_S A s.heap H [] := by rw [eH]; exact va_S.rf
  have hP : va_P (dC, dI) classes [] H := by rw [eH]; exact hP
  refine W_gen (fun Q hQ => ?_)
  refine W_heap eH ?_
  clear eH
  have hl := lv_entry ([.ref (av x0), .int x1]) (n := 2) (Nat.le_of_ble_eq_true rfl)
  rw [lg_entry_eq]
  generalize (lg_sl ([.ref (av x0), .int x1]) ++ List.replicate (2 - (lg_sl ([.ref (av x0), .int x1])).length) Slot.unset).toArray = ls at hl ⊢
  have hl : lv_has ls 2 [(0, .ref (av x0)), (1, .int x1)] := hl
  unfold m_T_charAt at h
  refine lv_iload_n hx hb d_T_charAt_0 rfl (lv_at hl 1 rfl) ?_
  refine lv_aload_n hx hb d_T_charAt_1 rfl (lv_at hl 0 rfl) ?_
  obtain ⟨g_2, h⟩ := of_guard h
  refine va_tlen hx hb (hC.byt (inN_lt g_2)) hS rfl d_T_charAt_2 ?_
  have hPc := hP.sub (ws' := []) [] rfl
  have hDc := hD.sub (ws' := []) [] (by decide) rfl
  have hKc := hK.sub (tys' := []) [] rfl
  have hFc := va_free (wc := []) hD hS hA [] rfl
  obtain ⟨v_3, hc_3, h⟩ := of_bind h
  refine va_callv (va_runS (As := [.int x1, .int (nI (xlen.getD x0 0))]) (rest := []) ⟨hx, hb, hml, hown, hts⟩ (c_S_checkIndex l dC dI tb ak av H.size x1 (nI (xlen.getD x0 0))  v_3 hc_3) (va_cwS 2 hts (gS mlk_T_9 sta_S_checkIndex ini_S cod_S_checkIndex) rfl rfl rfl (by decide +kernel) ⟨Nat.le_of_ble_eq_true rfl, Nat.le_of_ble_eq_true rfl⟩) ⟨fun a U g mk q => by obtain ⟨q0, q1, qP, qK, qD, qC⟩ := q; exact ⟨q0, q1, qP, va_K.moved (u := U) (U := U.calling g mk a) (Vm.Alike.refl U.vm) qK, qD, kw_blind qC⟩, fun U hU hW => ⟨rfl, by rw [hU], by rw [hU]; exact hPc, va_K.moved hW.alike hKc, hDc.weaken (fun _ _ _ _ => trivial), kw_call hC hS hFc hU hW⟩⟩ rfl rfl hl.1 rfl (lv_room (Nat.le_of_ble_eq_true rfl)) d_T_charAt_3 ⟨Nat.le_of_ble_eq_true rfl, Nat.le_of_ble_eq_true rfl⟩) hS (fun q _ h9 => hFc q h9) hFc (fun u t H1 locs ht hvm hw hB hz1 hk1 hS => ?_)
  obtain rfl := hw
  obtain ⟨hP1, hK1, hD1⟩ := hB
  rw [ht] at hP1
  obtain ⟨hP, hD⟩ := va_join (wr := []) (w1 := []) hP hD [] [] rfl rfl (by decide) (by decide) hk1 hFc hP1 hD1
  have hP := hP.sub (ws' := []) [] rfl
  have hD := hD.sub (ws' := []) [] (by decide) rfl
  generalize H1 = H at hP hS ⊢
  refine lv_aload_n hx hb d_T_charAt_6 rfl (lv_at hl 0 rfl) ?_
  refine lv_iload_n hx hb d_T_charAt_7 rfl (lv_at hl 1 rfl) ?_
  obtain ⟨gn_8, h⟩ := of_guard h
  obtain ⟨g_8, h⟩ := of_guard h
  refine va_tb hx hb (hC.byt (inN_lt gn_8)) hS (inR_in g_8) rfl d_T_charAt_8 ?_
  refine lv_sipush (v := (nI 255)) hx hb d_T_charAt_9 (by decide) ?_
  refine lv_iand hx hb d_T_charAt_12 ?_
  refine lv_i2c (v := i2c (((xbyt.getD x0 []).getD x1.toNatClampNeg 0) &&& (nI 255))) hx hb d_T_charAt_13 rfl ?_
  obtain ⟨g_14, h⟩ := of_guard h
  rw [hQ]
  exact W.zret (v := i2c (((xbyt.getD x0 []).getD x1.toNatClampNeg 0) &&& (nI 255))) hx hb hr (nrc g_14) (fun t ht hW => ⟨⟨i2c (((xbyt.getD x0 []).getD x1.toNatClampNeg 0) &&& (nI 255)), (), rfl, Prod.mk.inj (Option.some.inj h), by rw [ht]; exact hP, va_K.moved hW.alike hK, hD⟩, hS.F ht⟩) hS.2.2 d_T_charAt_14
set_option maxHeartbeats 4000000 in
set_option maxRecDepth 100000 in
theorem c_S_charAt (l : Launch) (dC : Nat → ClassId) (dI : Nat → Nat → Nat) (tb : Nat) (ak av : Nat → Nat) (sz : Nat)  (x0 : Nat) (x1 : Int32) (r0 : Int32) (u0 : Unit) (h : m_S_charAt x0 x1 = some (r0, u0)) : Met l y_S_charAt w_S_charAt ({ frames := 3, cells := 0, slots := 0, locals := 64 } : Room) (va_Pc [.ref (ak x0), .int x1] (fun U => U.heap.size = sz ∧ va_P (dC, dI) classes [] U.heap ∧ va_K (dC, dI) classes [] U ∧ va_D (fun _ => True) [] ∧ kw tb ak av (va_A [] sz) U)) (va_Qi (fun (r : Int32) (u : Unit) => r = r0 ∧ u = u0) (fun (u : Unit) (t : State) => va_P (dC, dI) classes [] t.heap ∧ va_K (dC, dI) classes [] t ∧ va_D (va_A [] sz) []) (va_A [] sz)) 0 0 (va_A [] sz) := by
  refine Met.ofW (cc := b_S_charAt) (maxL := 2) (ret := (some .char)) (by decide) rfl ?_
  intro p e s m args below meth c s₁ B hml hv
  obtain ⟨rfl, hsz, hP, hK, hD0, hC⟩ := hv
  have hx := B.exec
  have hb := B.bytes
  have hr := B.returns
  have hts0 := atoms_spec (ws := w_S_charAt) B.pre
  have hts : ∀ w ∈ lw_gd, w.before ([.ref (ak x0), .int x1] : List Value).toArray s = true := fun w h9 => hts0 w (List.mem_cons_of_mem _ h9)
  have hown : s.vm.findClass R_S = some m.cls := findClass_of_methodNamed B.named
  have hlocks := B.notSynchronized
  subst hsz
  have hD := hD0.self (sz := s.heap.size)
  generalize hAe : va_A [] s.heap.size = A at hD hC ⊢
  have hA : ∀ q : Nat, s.heap.size ≤ q → A q := fun q h9 => by rw [← hAe]; exact Or.inr h9
  obtain ⟨H, eH⟩ : ∃ H : Heap, H = s.heap := ⟨_, rfl⟩
  have hS : va_S A s.heap H [] := by rw [eH]; exact va_S.rf
  have hP : va_P (dC, dI) classes [] H := by rw [eH]; exact hP
  refine W_gen (fun Q hQ => ?_)
  refine W_heap eH ?_
  clear eH
  have hl := lv_entry ([.ref (ak x0), .int x1]) (n := 2) (Nat.le_of_ble_eq_true rfl)
  rw [lg_entry_eq]
  generalize (lg_sl ([.ref (ak x0), .int x1]) ++ List.replicate (2 - (lg_sl ([.ref (ak x0), .int x1])).length) Slot.unset).toArray = ls at hl ⊢
  have hl : lv_has ls 2 [(0, .ref (ak x0)), (1, .int x1)] := hl
  unfold m_S_charAt at h
  refine lv_aload_n hx hb d_S_charAt_0 rfl (lv_at hl 0 rfl) ?_
  have hPc := hP.sub (ws' := []) [] rfl
  have hDc := hD.sub (ws' := []) [] (by decide) rfl
  have hKc := hK.sub (tys' := []) [] rfl
  have hFc := va_free (wc := []) hD hS hA [] rfl
  obtain ⟨gq_1, h⟩ := of_guard h
  obtain ⟨v_1, hc_1, h⟩ := of_bind h
  skip
  refine va_calli (va_runV (As := []) (rest := []) ⟨hx, hb, hml, hown, hts⟩ (c_S_isLatin1 l dC dI tb ak av H.size x0 v_1.1 v_1.2 hc_1) (cwV 0 hts (gV mlk_S_492 ins_S_isLatin1 sel_S_isLatin1 ini_S cod_S_isLatin1) rfl rfl rfl (by decide +kernel) ⟨Nat.le_of_ble_eq_true rfl, Nat.le_of_ble_eq_true rfl⟩) ⟨fun a U g mk q => by obtain ⟨q0, q1, qP, qK, qD, qC⟩ := q; exact ⟨q0, q1, qP, va_K.moved (u := U) (U := U.calling g mk a) (Vm.Alike.refl U.vm) qK, qD, kw_blind qC⟩, hC.rcv (inN_lt gq_1) hS, fun U hU hW => ⟨rfl, by rw [hU], by rw [hU]; exact hPc, va_K.moved hW.alike hKc, hDc.weaken (fun _ _ _ _ => trivial), kw_call hC hS hFc hU hW⟩⟩ rfl rfl hl.1 rfl (lv_room (Nat.le_of_ble_eq_true rfl)) d_S_charAt_1 ⟨Nat.le_of_ble_eq_true rfl, Nat.le_of_ble_eq_true rfl⟩) hS (fun q _ h9 => hFc q h9) hFc (fun r_1 u t H1 locs ht hvm hw hB hz1 hk1 hS => ?_)
  obtain ⟨rfl, rfl⟩ := hw
  obtain ⟨hP1, hK1, hD1⟩ := hB
  rw [ht] at hP1
  obtain ⟨hP, hD⟩ := va_join (wr := []) (w1 := []) hP hD [] [] rfl rfl (by decide) (by decide) hk1 hFc hP1 hD1
  have hP := hP.sub (ws' := []) [] rfl
  have hD := hD.sub (ws' := []) [] (by decide) rfl
  generalize H1 = H at hP hS ⊢
  refine lv_if_eq (tgt := 16) hx hb d_S_charAt_4 (by decide) (fun c_4 => ?_) (fun c_4 => ?_)
  · have h := of_pos h c_4
    exact nomatch h
  · have h := of_neg h c_4
    refine lv_aload_n hx hb d_S_charAt_7 rfl (lv_at hl 0 rfl) ?_
    obtain ⟨g_8, h⟩ := of_guard h
    refine vk_getf hx hb (hC.val (inN_lt g_8)) hS hown (hts _ flk_S_9) (fun _ h9 => h9) d_S_charAt_8 ?_
    refine lv_iload_n hx hb d_S_charAt_11 rfl (lv_at hl 1 rfl) ?_
    have hPc := hP.sub (ws' := []) [] rfl
    have hDc := hD.sub (ws' := []) [] (by decide) rfl
    have hKc := hK.sub (tys' := []) [] rfl
    have hFc := va_free (wc := []) hD hS hA [] rfl
    obtain ⟨v_12, hc_12, h⟩ := of_bind h
    refine va_calli (va_runS (As := [.ref (av x0), .int x1]) (rest := []) ⟨hx, hb, hml, hown, hts⟩ (c_T_charAt l dC dI tb ak av H.size x0 x1 v_12.1 v_12.2 hc_12) (va_cwS 2 hts (gS mlk_S_495 sta_T_charAt ini_T cod_T_charAt) rfl rfl rfl (by decide +kernel) ⟨Nat.le_of_ble_eq_true rfl, Nat.le_of_ble_eq_true rfl⟩) ⟨fun a U g mk q => by obtain ⟨q0, q1, qP, qK, qD, qC⟩ := q; exact ⟨q0, q1, qP, va_K.moved (u := U) (U := U.calling g mk a) (Vm.Alike.refl U.vm) qK, qD, kw_blind qC⟩, fun U hU hW => ⟨rfl, by rw [hU], by rw [hU]; exact hPc, va_K.moved hW.alike hKc, hDc.weaken (fun _ _ _ _ => trivial), kw_call hC hS hFc hU hW⟩⟩ rfl rfl hl.1 rfl (lv_room (Nat.le_of_ble_eq_true rfl)) d_S_charAt_12 ⟨Nat.le_of_ble_eq_true rfl, Nat.le_of_ble_eq_true rfl⟩) hS (fun q _ h9 => hFc q h9) hFc (fun r_12 u t H1 locs ht hvm hw hB hz1 hk1 hS => ?_)
    obtain ⟨rfl, rfl⟩ := hw
    obtain ⟨hP1, hK1, hD1⟩ := hB
    rw [ht] at hP1
    obtain ⟨hP, hD⟩ := va_join (wr := []) (w1 := []) hP hD [] [] rfl rfl (by decide) (by decide) hk1 hFc hP1 hD1
    have hP := hP.sub (ws' := []) [] rfl
    have hD := hD.sub (ws' := []) [] (by decide) rfl
    generalize H1 = H at hP hS ⊢
    obtain ⟨g_15, h⟩ := of_guard h
    rw [hQ]
    exact W.zret (v := v_12.1) hx hb hr (nrc g_15) (fun t ht hW => ⟨⟨v_12.1, (), rfl, Prod.mk.inj (Option.some.inj h), by rw [ht]; exact hP, va_K.moved hW.alike hK, hD⟩, hS.F ht⟩) hS.2.2 d_S_charAt_15
set_option maxHeartbeats 4000000 in
set_option maxRecDepth 100000 in
theorem c_T_canEncode (l : Launch) (dC : Nat → ClassId) (dI : Nat → Nat → Nat) (sz : Nat)  (x0 : Int32) (r0 : Int32) (u0 : Unit) (h : m_T_canEncode x0 = some (r0, u0)) : Met l y_T_canEncode w_T_canEncode ({ frames := 0, cells := 0, slots := 0, locals := 0 } : Room) (va_Pc [.int x0] (fun U => U.heap.size = sz ∧ va_P (dC, dI) classes [] U.heap ∧ va_K (dC, dI) classes [] U ∧ va_D (fun _ => True) [])) (va_Qi (fun (r : Int32) (u : Unit) => r = r0 ∧ u = u0) (fun (u : Unit) (t : State) => va_P (dC, dI) classes [] t.heap ∧ va_K (dC, dI) classes [] t ∧ va_D (va_A [] sz) []) (va_A [] sz)) 0 0 (va_A [] sz) := by
  refine Met.ofW (cc := b_T_canEncode) (maxL := 1) (ret := (some .boolean)) (by decide) rfl ?_
  intro p e s m args below meth c s₁ B hml hv
  obtain ⟨rfl, hsz, hP, hK, hD0⟩ := hv
  have hx := B.exec
  have hb := B.bytes
  have hr := B.returns
  have hts0 := atoms_spec (ws := w_T_canEncode) B.pre
  have hts : ∀ w ∈ lw_gd, w.before ([.int x0] : List Value).toArray s = true := fun w h9 => hts0 w (List.mem_cons_of_mem _ h9)
  have hown : s.vm.findClass R_T = some m.cls := findClass_of_methodNamed B.named
  have hlocks := B.notSynchronized
  subst hsz
  have hD := hD0.self (sz := s.heap.size)
  generalize hAe : va_A [] s.heap.size = A at hD ⊢
  have hA : ∀ q : Nat, s.heap.size ≤ q → A q := fun q h9 => by rw [← hAe]; exact Or.inr h9
  obtain ⟨H, eH⟩ : ∃ H : Heap, H = s.heap := ⟨_, rfl⟩
  have hS : va_S A s.heap H [] := by rw [eH]; exact va_S.rf
  have hP : va_P (dC, dI) classes [] H := by rw [eH]; exact hP
  refine W_gen (fun Q hQ => ?_)
  refine W_heap eH ?_
  clear eH
  have hl := lv_entry ([.int x0]) (n := 1) (Nat.le_of_ble_eq_true rfl)
  rw [lg_entry_eq]
  generalize (lg_sl ([.int x0]) ++ List.replicate (1 - (lg_sl ([.int x0])).length) Slot.unset).toArray = ls at hl ⊢
  have hl : lv_has ls 1 [(0, .int x0)] := hl
  unfold m_T_canEncode at h
  refine lv_iload_n hx hb d_T_canEncode_0 rfl (lv_at hl 0 rfl) ?_
  refine lv_if_lt (tgt := 15) hx hb d_T_canEncode_1 (by decide) (fun c_1 => ?_) (fun c_1 => ?_)
  · have h := of_pos h c_1
    refine lv_iconst (v := (nI 0)) hx hb d_T_canEncode_15 (by decide) ?_
    rw [hQ]
    exact W.zret (v := (nI 0)) hx hb hr rfl (fun t ht hW => ⟨⟨(nI 0), (), rfl, Prod.mk.inj (Option.some.inj h), by rw [ht]; exact hP, va_K.moved hW.alike hK, hD⟩, hS.F ht⟩) hS.2.2 d_T_canEncode_16
  · have h := of_neg h c_1
    refine lv_iload_n hx hb d_T_canEncode_4 rfl (lv_at hl 0 rfl) ?_
    refine lv_sipush (v := (nI 255)) hx hb d_T_canEncode_5 (by decide) ?_
    refine lv_icmp_gt (tgt := 15) hx hb d_T_canEncode_8 (by decide) (fun c_8 => ?_) (fun c_8 => ?_)
    · have h := of_pos h c_8
      refine lv_iconst (v := (nI 0)) hx hb d_T_canEncode_15 (by decide) ?_
      rw [hQ]
      exact W.zret (v := (nI 0)) hx hb hr rfl (fun t ht hW => ⟨⟨(nI 0), (), rfl, Prod.mk.inj (Option.some.inj h), by rw [ht]; exact hP, va_K.moved hW.alike hK, hD⟩, hS.F ht⟩) hS.2.2 d_T_canEncode_16
    · have h := of_neg h c_8
      refine lv_iconst (v := (nI 1)) hx hb d_T_canEncode_11 (by decide) ?_
      refine lv_goto (tgt := 16) hx hb d_T_canEncode_12 (by decide) ?_
      rw [hQ]
      exact W.zret (v := (nI 1)) hx hb hr rfl (fun t ht hW => ⟨⟨(nI 1), (), rfl, Prod.mk.inj (Option.some.inj h), by rw [ht]; exact hP, va_K.moved hW.alike hK, hD⟩, hS.F ht⟩) hS.2.2 d_T_canEncode_16
set_option maxHeartbeats 4000000 in
set_option maxRecDepth 100000 in
theorem c_T_indexOfChar (l : Launch) (dC : Nat → ClassId) (dI : Nat → Nat → Nat) (tb : Nat) (ak av : Nat → Nat) (sz : Nat)  (x0 : Nat) (x1 : Int32) (x2 : Int32) (x3 : Int32) (r0 : Int32) (u0 : Unit) (h : m_T_indexOfChar x0 x1 x2 x3 = some (r0, u0)) : Met l y_T_indexOfChar w_T_indexOfChar ({ frames := 0, cells := 0, slots := 0, locals := 0 } : Room) (va_Pc [.ref (av x0), .int x1, .int x2, .int x3] (fun U => U.heap.size = sz ∧ va_P (dC, dI) classes [] U.heap ∧ va_K (dC, dI) classes [] U ∧ va_D (fun _ => True) [] ∧ kw tb ak av (va_A [] sz) U)) (va_Qi (fun (r : Int32) (u : Unit) => r = r0 ∧ u = u0) (fun (u : Unit) (t : State) => va_P (dC, dI) classes [] t.heap ∧ va_K (dC, dI) classes [] t ∧ va_D (va_A [] sz) []) (va_A [] sz)) 0 0 (va_A [] sz) := by
  refine Met.ofW (cc := b_T_indexOfChar) (maxL := 6) (ret := (some .int)) (by decide) rfl ?_
  intro p e s m args below meth c s₁ B hml hv
  obtain ⟨rfl, hsz, hP, hK, hD0, hC⟩ := hv
  have hx := B.exec
  have hb := B.bytes
  have hr := B.returns
  have hts0 := atoms_spec (ws := w_T_indexOfChar) B.pre
  have hts : ∀ w ∈ lw_gd, w.before ([.ref (av x0), .int x1, .int x2, .int x3] : List Value).toArray s = true := fun w h9 => hts0 w (List.mem_cons_of_mem _ h9)
  have hown : s.vm.findClass R_T = some m.cls := findClass_of_methodNamed B.named
  have hlocks := B.notSynchronized
  subst hsz
  have hD := hD0.self (sz := s.heap.size)
  generalize hAe : va_A [] s.heap.size = A at hD hC ⊢
  have hA : ∀ q : Nat, s.heap.size ≤ q → A q := fun q h9 => by rw [← hAe]; exact Or.inr h9
  obtain ⟨H, eH⟩ : ∃ H : Heap, H = s.heap := ⟨_, rfl⟩
  have hS : va_S A s.heap H [] := by rw [eH]; exact va_S.rf
  have hP : va_P (dC, dI) classes [] H := by rw [eH]; exact hP
  refine W_gen (fun Q hQ => ?_)
  refine W_heap eH ?_
  clear eH
  have hl := lv_entry ([.ref (av x0), .int x1, .int x2, .int x3]) (n := 6) (Nat.le_of_ble_eq_true rfl)
  rw [lg_entry_eq]
  generalize (lg_sl ([.ref (av x0), .int x1, .int x2, .int x3]) ++ List.replicate (6 - (lg_sl ([.ref (av x0), .int x1, .int x2, .int x3])).length) Slot.unset).toArray = ls at hl ⊢
  have hl : lv_has ls 6 [(0, .ref (av x0)), (1, .int x1), (2, .int x2), (3, .int x3)] := hl
  have J_7 : ∀ (n : Nat) (z0 : Nat) (z3 : Int32) (z4 : Int32) (z5 : Int32), m_T_indexOfChar_7 n z0 z3 z4 z5 = some (r0, u0) → ∀ (H : Heap) (locs : List Loc), va_P (dC, dI) classes [] H → va_D A [] → va_S A s.heap H locs → ∀ (ls : Array Slot), lv_has ls 6 [(0, .ref (av z0)), (3, .int z3), (4, .int z4), (5, .int z5)] → W p l e (headSpec w_T_indexOfChar ({ frames := 0, cells := 0, slots := 0, locals := 0 } : Room)).room s m ([.ref (av x0), .int x1, .int x2, .int x3] : List Value).toArray below meth c H locs 0 0 Q (F0 m 7 ls []) := by
    intro n
    induction n with
    | zero => intro z0 z3 z4 z5 h; exact absurd h (by unfold m_T_indexOfChar_7; exact fun h9 => nomatch h9)
    | succ n ih =>
      intro z0 z3 z4 z5 h H locs hP hD hS ls hl
      unfold m_T_indexOfChar_7 at h
      refine lv_iload hx hb d_T_indexOfChar_7 (lv_at hl 3 rfl) ?_
      refine lv_iload_n hx hb d_T_indexOfChar_9 rfl (lv_at hl 1 rfl) ?_
      refine lv_icmp_ge (tgt := 31) hx hb d_T_indexOfChar_10 (by decide) (fun c_10 => ?_) (fun c_10 => ?_)
      · have h := of_pos h c_10
        refine lv_iconst (v := (-1 : Int32)) hx hb d_T_indexOfChar_31 (by decide) ?_
        rw [hQ]
        exact W.iret (v := (-1 : Int32)) hx hb hr (fun t ht hW => ⟨⟨(-1 : Int32), (), rfl, Prod.mk.inj (Option.some.inj h), by rw [ht]; exact hP, va_K.moved hW.alike hK, hD⟩, hS.F ht⟩) hS.2.2 d_T_indexOfChar_32
      · have h := of_neg h c_10
        refine lv_aload_n hx hb d_T_indexOfChar_13 rfl (lv_at hl 0 rfl) ?_
        refine lv_iload hx hb d_T_indexOfChar_14 (lv_at hl 3 rfl) ?_
        obtain ⟨gn_16, h⟩ := of_guard h
        obtain ⟨g_16, h⟩ := of_guard h
        refine va_tb hx hb (hC.byt (inN_lt gn_16)) hS (inR_in g_16) rfl d_T_indexOfChar_16 ?_
        refine lv_iload hx hb d_T_indexOfChar_17 (lv_at hl 2 rfl) ?_
        refine lv_icmp_ne (tgt := 25) hx hb d_T_indexOfChar_19 (by decide) (fun c_19 => ?_) (fun c_19 => ?_)
        · have h := of_neg h c_19
          refine lv_iinc (v := z5 + (nI 1)) (lv' := [(5, .int (z5 + (nI 1))), (0, .ref (av z0)), (3, .int z3), (4, .int z4)]) hx hb d_T_indexOfChar_25 hl (k := 3) rfl rfl (by decide) rfl (fun ls hl => ?_)
          refine lv_goto (tgt := 7) hx hb d_T_indexOfChar_28 (by decide) ?_
          exact ih z0 z3 z4 (z5 + (nI 1)) h _ _ hP hD hS ls (lv_sub hl [1, 2, 3, 0] rfl)
        · have h := of_pos h c_19
          refine lv_iload hx hb d_T_indexOfChar_22 (lv_at hl 3 rfl) ?_
          rw [hQ]
          exact W.iret (v := z5) hx hb hr (fun t ht hW => ⟨⟨z5, (), rfl, Prod.mk.inj (Option.some.inj h), by rw [ht]; exact hP, va_K.moved hW.alike hK, hD⟩, hS.F ht⟩) hS.2.2 d_T_indexOfChar_24
  unfold m_T_indexOfChar at h
  refine lv_iload_n hx hb d_T_indexOfChar_0 rfl (lv_at hl 1 rfl) ?_
  refine lv_i2b (v := x1.toInt8.toInt32) hx hb d_T_indexOfChar_1 rfl ?_
  refine lv_istore (lv' := [(4, .int x1.toInt8.toInt32), (0, .ref (av x0)), (1, .int x1), (2, .int x2), (3, .int x3)]) hx hb d_T_indexOfChar_2 hl (by decide) rfl (fun ls hl => ?_)
  refine lv_iload_n hx hb d_T_indexOfChar_4 rfl (lv_at hl 3 rfl) ?_
  refine lv_istore (lv' := [(5, .int x2), (4, .int x1.toInt8.toInt32), (0, .ref (av x0)), (1, .int x1), (2, .int x2), (3, .int x3)]) hx hb d_T_indexOfChar_5 hl (by decide) rfl (fun ls hl => ?_)
  exact J_7 40 x0 x3 x1.toInt8.toInt32 x2 h _ _ hP hD hS ls (lv_sub hl [2, 5, 1, 0] rfl)
set_option maxHeartbeats 4000000 in
set_option maxRecDepth 100000 in
theorem c_T_indexOf (l : Launch) (dC : Nat → ClassId) (dI : Nat → Nat → Nat) (tb : Nat) (ak av : Nat → Nat) (sz : Nat)  (x0 : Nat) (x1 : Int32) (x2 : Int32) (x3 : Int32) (r0 : Int32) (u0 : Unit) (h : m_T_indexOf x0 x1 x2 x3 = some (r0, u0)) : Met l y_T_indexOf w_T_indexOf ({ frames := 1, cells := 0, slots := 0, locals := 25 } : Room) (va_Pc [.ref (av x0), .int x1, .int x2, .int x3] (fun U => U.heap.size = sz ∧ va_P (dC, dI) classes [] U.heap ∧ va_K (dC, dI) classes [] U ∧ va_D (fun _ => True) [] ∧ kw tb ak av (va_A [] sz) U)) (va_Qi (fun (r : Int32) (u : Unit) => r = r0 ∧ u = u0) (fun (u : Unit) (t : State) => va_P (dC, dI) classes [] t.heap ∧ va_K (dC, dI) classes [] t ∧ va_D (va_A [] sz) []) (va_A [] sz)) 0 0 (va_A [] sz) := by
  refine Met.ofW (cc := b_T_indexOf) (maxL := 4) (ret := (some .int)) (by decide) rfl ?_
  intro p e s m args below meth c s₁ B hml hv
  obtain ⟨rfl, hsz, hP, hK, hD0, hC⟩ := hv
  have hx := B.exec
  have hb := B.bytes
  have hr := B.returns
  have hts0 := atoms_spec (ws := w_T_indexOf) B.pre
  have hts : ∀ w ∈ lw_gd, w.before ([.ref (av x0), .int x1, .int x2, .int x3] : List Value).toArray s = true := fun w h9 => hts0 w (List.mem_cons_of_mem _ h9)
  have hown : s.vm.findClass R_T = some m.cls := findClass_of_methodNamed B.named
  have hlocks := B.notSynchronized
  subst hsz
  have hD := hD0.self (sz := s.heap.size)
  generalize hAe : va_A [] s.heap.size = A at hD hC ⊢
  have hA : ∀ q : Nat, s.heap.size ≤ q → A q := fun q h9 => by rw [← hAe]; exact Or.inr h9
  obtain ⟨H, eH⟩ : ∃ H : Heap, H = s.heap := ⟨_, rfl⟩
  have hS : va_S A s.heap H [] := by rw [eH]; exact va_S.rf
  have hP : va_P (dC, dI) classes [] H := by rw [eH]; exact hP
  refine W_gen (fun Q hQ => ?_)
  refine W_heap eH ?_
  clear eH
  have hl := lv_entry ([.ref (av x0), .int x1, .int x2, .int x3]) (n := 4) (Nat.le_of_ble_eq_true rfl)
  rw [lg_entry_eq]
  generalize (lg_sl ([.ref (av x0), .int x1, .int x2, .int x3]) ++ List.replicate (4 - (lg_sl ([.ref (av x0), .int x1, .int x2, .int x3])).length) Slot.unset).toArray = ls at hl ⊢
  have hl : lv_has ls 4 [(0, .ref (av x0)), (1, .int x1), (2, .int x2), (3, .int x3)] := hl
  unfold m_T_indexOf at h
  refine lv_iload_n hx hb d_T_indexOf_0 rfl (lv_at hl 1 rfl) ?_
  have hPc := hP.sub (ws' := []) [] rfl
  have hDc := hD.sub (ws' := []) [] (by decide) rfl
  have hKc := hK.sub (tys' := []) [] rfl
  have hFc := va_free (wc := []) hD hS hA [] rfl
  obtain ⟨v_1, hc_1, h⟩ := of_bind h
  refine va_calli (va_runS (As := [.int x1]) (rest := []) ⟨hx, hb, hml, hown, hts⟩ (c_T_canEncode l dC dI H.size x1 v_1.1 v_1.2 hc_1) (va_cwS 1 hts (gS mlk_T_88 sta_T_canEncode ini_T cod_T_canEncode) rfl rfl rfl (by decide +kernel) ⟨Nat.le_of_ble_eq_true rfl, Nat.le_of_ble_eq_true rfl⟩) ⟨fun a U g mk q => by obtain ⟨q0, q1, qP, qK, qD⟩ := q; exact ⟨q0, q1, qP, va_K.moved (u := U) (U := U.calling g mk a) (Vm.Alike.refl U.vm) qK, qD⟩, fun U hU hW => ⟨rfl, by rw [hU], by rw [hU]; exact hPc, va_K.moved hW.alike hKc, hDc.weaken (fun _ _ _ _ => trivial)⟩⟩ rfl rfl hl.1 rfl (lv_room (Nat.le_of_ble_eq_true rfl)) d_T_indexOf_1 ⟨Nat.le_of_ble_eq_true rfl, Nat.le_of_ble_eq_true rfl⟩) hS (fun q _ h9 => hFc q h9) hFc (fun r_1 u t H1 locs ht hvm hw hB hz1 hk1 hS => ?_)
  obtain ⟨rfl, rfl⟩ := hw
  obtain ⟨hP1, hK1, hD1⟩ := hB
  rw [ht] at hP1
  obtain ⟨hP, hD⟩ := va_join (wr := []) (w1 := []) hP hD [] [] rfl rfl (by decide) (by decide) hk1 hFc hP1 hD1
  have hP := hP.sub (ws' := []) [] rfl
  have hD := hD.sub (ws' := []) [] (by decide) rfl
  generalize H1 = H at hP hS ⊢
  refine lv_if_ne (tgt := 9) hx hb d_T_indexOf_4 (by decide) (fun c_4 => ?_) (fun c_4 => ?_)
  · have h := of_neg h c_4
    refine lv_iload_n hx hb d_T_indexOf_9 rfl (lv_at hl 2 rfl) ?_
    refine lv_iconst (v := (nI 0)) hx hb d_T_indexOf_10 (by decide) ?_
    refine va_mmax hx hb (by rw [hml]; exact hl.1.symm) hown (hts _ mlk_T_92) (hts _ sta_A_max) (hts _ ini_A) (hts _ cod_A_max) (Nat.le_of_ble_eq_true rfl) (Nat.le_of_ble_eq_true rfl) (Nat.zero_le _) (Nat.zero_le _) d_T_indexOf_11 ?_
    refine lv_istore_n (lv' := [(2, .int (if x2 < (nI 0) then (nI 0) else x2)), (0, .ref (av x0)), (1, .int x1), (3, .int x3)]) hx hb d_T_indexOf_14 rfl hl (by decide) rfl (fun ls hl => ?_)
    refine lv_iload_n hx hb d_T_indexOf_15 rfl (lv_at hl 3 rfl) ?_
    refine lv_aload_n hx hb d_T_indexOf_16 rfl (lv_at hl 1 rfl) ?_
    obtain ⟨g_17, h⟩ := of_guard h
    refine va_tlen hx hb (hC.byt (inN_lt g_17)) hS rfl d_T_indexOf_17 ?_
    refine va_mmin hx hb (by rw [hml]; exact hl.1.symm) hown (hts _ mlk_T_38) (hts _ sta_A_min) (hts _ ini_A) (hts _ cod_A_min) (Nat.le_of_ble_eq_true rfl) (Nat.le_of_ble_eq_true rfl) (Nat.zero_le _) (Nat.zero_le _) d_T_indexOf_18 ?_
    refine lv_istore_n (lv' := [(3, .int (if nI (xlen.getD x0 0) < x3 then nI (xlen.getD x0 0) else x3)), (2, .int (if x2 < (nI 0) then (nI 0) else x2)), (0, .ref (av x0)), (1, .int x1)]) hx hb d_T_indexOf_21 rfl hl (by decide) rfl (fun ls hl => ?_)
    refine lv_iload_n hx hb d_T_indexOf_22 rfl (lv_at hl 1 rfl) ?_
    refine lv_iload_n hx hb d_T_indexOf_23 rfl (lv_at hl 0 rfl) ?_
    refine lv_icmp_lt (tgt := 29) hx hb d_T_indexOf_24 (by decide) (fun c_24 => ?_) (fun c_24 => ?_)
    · have h := of_pos h c_24
      refine lv_aload_n hx hb d_T_indexOf_29 rfl (lv_at hl 2 rfl) ?_
      refine lv_iload_n hx hb d_T_indexOf_30 rfl (lv_at hl 3 rfl) ?_
      refine lv_iload_n hx hb d_T_indexOf_31 rfl (lv_at hl 1 rfl) ?_
      refine lv_iload_n hx hb d_T_indexOf_32 rfl (lv_at hl 0 rfl) ?_
      have hPc := hP.sub (ws' := []) [] rfl
      have hDc := hD.sub (ws' := []) [] (by decide) rfl
      have hKc := hK.sub (tys' := []) [] rfl
      have hFc := va_free (wc := []) hD hS hA [] rfl
      obtain ⟨v_33, hc_33, h⟩ := of_bind h
      refine va_calli (va_runS (As := [.ref (av x0), .int x1, .int (if x2 < (nI 0) then (nI 0) else x2), .int (if nI (xlen.getD x0 0) < x3 then nI (xlen.getD x0 0) else x3)]) (rest := []) ⟨hx, hb, hml, hown, hts⟩ (c_T_indexOfChar l dC dI tb ak av H.size x0 x1 (if x2 < (nI 0) then (nI 0) else x2) (if nI (xlen.getD x0 0) < x3 then nI (xlen.getD x0 0) else x3) v_33.1 v_33.2 hc_33) (va_cwS 4 hts (gS mlk_T_95 sta_T_indexOfChar ini_T cod_T_indexOfChar) rfl rfl rfl (by decide +kernel) ⟨Nat.le_of_ble_eq_true rfl, Nat.le_of_ble_eq_true rfl⟩) ⟨fun a U g mk q => by obtain ⟨q0, q1, qP, qK, qD, qC⟩ := q; exact ⟨q0, q1, qP, va_K.moved (u := U) (U := U.calling g mk a) (Vm.Alike.refl U.vm) qK, qD, kw_blind qC⟩, fun U hU hW => ⟨rfl, by rw [hU], by rw [hU]; exact hPc, va_K.moved hW.alike hKc, hDc.weaken (fun _ _ _ _ => trivial), kw_call hC hS hFc hU hW⟩⟩ rfl rfl hl.1 rfl (lv_room (Nat.le_of_ble_eq_true rfl)) d_T_indexOf_33 ⟨Nat.le_of_ble_eq_true rfl, Nat.le_of_ble_eq_true rfl⟩) hS (fun q _ h9 => hFc q h9) hFc (fun r_33 u t H1 locs ht hvm hw hB hz1 hk1 hS => ?_)
      obtain ⟨rfl, rfl⟩ := hw
      obtain ⟨hP1, hK1, hD1⟩ := hB
      rw [ht] at hP1
      obtain ⟨hP, hD⟩ := va_join (wr := []) (w1 := []) hP hD [] [] rfl rfl (by decide) (by decide) hk1 hFc hP1 hD1
      have hP := hP.sub (ws' := []) [] rfl
      have hD := hD.sub (ws' := []) [] (by decide) rfl
      generalize H1 = H at hP hS ⊢
      rw [hQ]
      exact W.iret (v := v_33.1) hx hb hr (fun t ht hW => ⟨⟨v_33.1, (), rfl, Prod.mk.inj (Option.some.inj h), by rw [ht]; exact hP, va_K.moved hW.alike hK, hD⟩, hS.F ht⟩) hS.2.2 d_T_indexOf_36
    · have h := of_neg h c_24
      refine lv_iconst (v := (-1 : Int32)) hx hb d_T_indexOf_27 (by decide) ?_
      rw [hQ]
      exact W.iret (v := (-1 : Int32)) hx hb hr (fun t ht hW => ⟨⟨(-1 : Int32), (), rfl, Prod.mk.inj (Option.some.inj h), by rw [ht]; exact hP, va_K.moved hW.alike hK, hD⟩, hS.F ht⟩) hS.2.2 d_T_indexOf_28
  · have h := of_pos h c_4
    refine lv_iconst (v := (-1 : Int32)) hx hb d_T_indexOf_7 (by decide) ?_
    rw [hQ]
    exact W.iret (v := (-1 : Int32)) hx hb hr (fun t ht hW => ⟨⟨(-1 : Int32), (), rfl, Prod.mk.inj (Option.some.inj h), by rw [ht]; exact hP, va_K.moved hW.alike hK, hD⟩, hS.F ht⟩) hS.2.2 d_T_indexOf_8
set_option maxHeartbeats 4000000 in
set_option maxRecDepth 100000 in
theorem c_S_indexOf2 (l : Launch) (dC : Nat → ClassId) (dI : Nat → Nat → Nat) (tb : Nat) (ak av : Nat → Nat) (sz : Nat)  (x0 : Nat) (x1 : Int32) (x2 : Int32) (r0 : Int32) (u0 : Unit) (h : m_S_indexOf2 x0 x1 x2 = some (r0, u0)) : Met l y_S_indexOf2 w_S_indexOf2 ({ frames := 2, cells := 0, slots := 0, locals := 48 } : Room) (va_Pc [.ref (ak x0), .int x1, .int x2] (fun U => U.heap.size = sz ∧ va_P (dC, dI) classes [] U.heap ∧ va_K (dC, dI) classes [] U ∧ va_D (fun _ => True) [] ∧ kw tb ak av (va_A [] sz) U)) (va_Qi (fun (r : Int32) (u : Unit) => r = r0 ∧ u = u0) (fun (u : Unit) (t : State) => va_P (dC, dI) classes [] t.heap ∧ va_K (dC, dI) classes [] t ∧ va_D (va_A [] sz) []) (va_A [] sz)) 0 0 (va_A [] sz) := by
  refine Met.ofW (cc := b_S_indexOf2) (maxL := 3) (ret := (some .int)) (by decide) rfl ?_
  intro p e s m args below meth c s₁ B hml hv
  obtain ⟨rfl, hsz, hP, hK, hD0, hC⟩ := hv
  have hx := B.exec
  have hb := B.bytes
  have hr := B.returns
  have hts0 := atoms_spec (ws := w_S_indexOf2) B.pre
  have hts : ∀ w ∈ lw_gd, w.before ([.ref (ak x0), .int x1, .int x2] : List Value).toArray s = true := fun w h9 => hts0 w (List.mem_cons_of_mem _ h9)
  have hown : s.vm.findClass R_S = some m.cls := findClass_of_methodNamed B.named
  have hlocks := B.notSynchronized
  subst hsz
  have hD := hD0.self (sz := s.heap.size)
  generalize hAe : va_A [] s.heap.size = A at hD hC ⊢
  have hA : ∀ q : Nat, s.heap.size ≤ q → A q := fun q h9 => by rw [← hAe]; exact Or.inr h9
  obtain ⟨H, eH⟩ : ∃ H : Heap, H = s.heap := ⟨_, rfl⟩
  have hS : va_S A s.heap H [] := by rw [eH]; exact va_S.rf
  have hP : va_P (dC, dI) classes [] H := by rw [eH]; exact hP
  refine W_gen (fun Q hQ => ?_)
  refine W_heap eH ?_
  clear eH
  have hl := lv_entry ([.ref (ak x0), .int x1, .int x2]) (n := 3) (Nat.le_of_ble_eq_true rfl)
  rw [lg_entry_eq]
  generalize (lg_sl ([.ref (ak x0), .int x1, .int x2]) ++ List.replicate (3 - (lg_sl ([.ref (ak x0), .int x1, .int x2])).length) Slot.unset).toArray = ls at hl ⊢
  have hl : lv_has ls 3 [(0, .ref (ak x0)), (1, .int x1), (2, .int x2)] := hl
  unfold m_S_indexOf2 at h
  refine lv_aload_n hx hb d_S_indexOf2_0 rfl (lv_at hl 0 rfl) ?_
  have hPc := hP.sub (ws' := []) [] rfl
  have hDc := hD.sub (ws' := []) [] (by decide) rfl
  have hKc := hK.sub (tys' := []) [] rfl
  have hFc := va_free (wc := []) hD hS hA [] rfl
  obtain ⟨gq_1, h⟩ := of_guard h
  obtain ⟨v_1, hc_1, h⟩ := of_bind h
  skip
  refine va_calli (va_runV (As := []) (rest := []) ⟨hx, hb, hml, hown, hts⟩ (c_S_isLatin1 l dC dI tb ak av H.size x0 v_1.1 v_1.2 hc_1) (cwV 0 hts (gV mlk_S_492 ins_S_isLatin1 sel_S_isLatin1 ini_S cod_S_isLatin1) rfl rfl rfl (by decide +kernel) ⟨Nat.le_of_ble_eq_true rfl, Nat.le_of_ble_eq_true rfl⟩) ⟨fun a U g mk q => by obtain ⟨q0, q1, qP, qK, qD, qC⟩ := q; exact ⟨q0, q1, qP, va_K.moved (u := U) (U := U.calling g mk a) (Vm.Alike.refl U.vm) qK, qD, kw_blind qC⟩, hC.rcv (inN_lt gq_1) hS, fun U hU hW => ⟨rfl, by rw [hU], by rw [hU]; exact hPc, va_K.moved hW.alike hKc, hDc.weaken (fun _ _ _ _ => trivial), kw_call hC hS hFc hU hW⟩⟩ rfl rfl hl.1 rfl (lv_room (Nat.le_of_ble_eq_true rfl)) d_S_indexOf2_1 ⟨Nat.le_of_ble_eq_true rfl, Nat.le_of_ble_eq_true rfl⟩) hS (fun q _ h9 => hFc q h9) hFc (fun r_1 u t H1 locs ht hvm hw hB hz1 hk1 hS => ?_)
  obtain ⟨rfl, rfl⟩ := hw
  obtain ⟨hP1, hK1, hD1⟩ := hB
  rw [ht] at hP1
  obtain ⟨hP, hD⟩ := va_join (wr := []) (w1 := []) hP hD [] [] rfl rfl (by decide) (by decide) hk1 hFc hP1 hD1
  have hP := hP.sub (ws' := []) [] rfl
  have hD := hD.sub (ws' := []) [] (by decide) rfl
  generalize H1 = H at hP hS ⊢
  refine lv_if_eq (tgt := 23) hx hb d_S_indexOf2_4 (by decide) (fun c_4 => ?_) (fun c_4 => ?_)
  · have h := of_pos h c_4
    exact nomatch h
  · have h := of_neg h c_4
    refine lv_aload_n hx hb d_S_indexOf2_7 rfl (lv_at hl 0 rfl) ?_
    obtain ⟨g_8, h⟩ := of_guard h
    refine vk_getf hx hb (hC.val (inN_lt g_8)) hS hown (hts _ flk_S_9) (fun _ h9 => h9) d_S_indexOf2_8 ?_
    refine lv_iload_n hx hb d_S_indexOf2_11 rfl (lv_at hl 1 rfl) ?_
    refine lv_iload_n hx hb d_S_indexOf2_12 rfl (lv_at hl 2 rfl) ?_
    refine lv_aload_n hx hb d_S_indexOf2_13 rfl (lv_at hl 0 rfl) ?_
    have hPc := hP.sub (ws' := []) [] rfl
    have hDc := hD.sub (ws' := []) [] (by decide) rfl
    have hKc := hK.sub (tys' := []) [] rfl
    have hFc := va_free (wc := []) hD hS hA [] rfl
    obtain ⟨gq_14, h⟩ := of_guard h
    obtain ⟨v_14, hc_14, h⟩ := of_bind h
    skip
    refine va_calli (va_runV (As := []) (rest := [.int x2, .int x1, .ref (av x0)]) ⟨hx, hb, hml, hown, hts⟩ (c_S_length l dC dI tb ak av H.size x0 v_14.1 v_14.2 hc_14) (cwV 0 hts (gV mlk_S_505 ins_S_length sel_S_length ini_S cod_S_length) rfl rfl rfl (by decide +kernel) ⟨Nat.le_of_ble_eq_true rfl, Nat.le_of_ble_eq_true rfl⟩) ⟨fun a U g mk q => by obtain ⟨q0, q1, qP, qK, qD, qC⟩ := q; exact ⟨q0, q1, qP, va_K.moved (u := U) (U := U.calling g mk a) (Vm.Alike.refl U.vm) qK, qD, kw_blind qC⟩, hC.rcv (inN_lt gq_14) hS, fun U hU hW => ⟨rfl, by rw [hU], by rw [hU]; exact hPc, va_K.moved hW.alike hKc, hDc.weaken (fun _ _ _ _ => trivial), kw_call hC hS hFc hU hW⟩⟩ rfl rfl hl.1 rfl (lv_room (Nat.le_of_ble_eq_true rfl)) d_S_indexOf2_14 ⟨Nat.le_of_ble_eq_true rfl, Nat.le_of_ble_eq_true rfl⟩) hS (fun q _ h9 => hFc q h9) hFc (fun r_14 u t H1 locs ht hvm hw hB hz1 hk1 hS => ?_)
    obtain ⟨rfl, rfl⟩ := hw
    obtain ⟨hP1, hK1, hD1⟩ := hB
    rw [ht] at hP1
    obtain ⟨hP, hD⟩ := va_join (wr := []) (w1 := []) hP hD [] [] rfl rfl (by decide) (by decide) hk1 hFc hP1 hD1
    have hP := hP.sub (ws' := []) [] rfl
    have hD := hD.sub (ws' := []) [] (by decide) rfl
    generalize H1 = H at hP hS ⊢
    have hPc := hP.sub (ws' := []) [] rfl
    have hDc := hD.sub (ws' := []) [] (by decide) rfl
    have hKc := hK.sub (tys' := []) [] rfl
    have hFc := va_free (wc := []) hD hS hA [] rfl
    obtain ⟨v_17, hc_17, h⟩ := of_bind h
    refine va_calli (va_runS (As := [.ref (av x0), .int x1, .int x2, .int v_14.1]) (rest := []) ⟨hx, hb, hml, hown, hts⟩ (c_T_indexOf l dC dI tb ak av H.size x0 x1 x2 v_14.1 v_17.1 v_17.2 hc_17) (va_cwS 4 hts (gS mlk_S_637 sta_T_indexOf ini_T cod_T_indexOf) rfl rfl rfl (by decide +kernel) ⟨Nat.le_of_ble_eq_true rfl, Nat.le_of_ble_eq_true rfl⟩) ⟨fun a U g mk q => by obtain ⟨q0, q1, qP, qK, qD, qC⟩ := q; exact ⟨q0, q1, qP, va_K.moved (u := U) (U := U.calling g mk a) (Vm.Alike.refl U.vm) qK, qD, kw_blind qC⟩, fun U hU hW => ⟨rfl, by rw [hU], by rw [hU]; exact hPc, va_K.moved hW.alike hKc, hDc.weaken (fun _ _ _ _ => trivial), kw_call hC hS hFc hU hW⟩⟩ rfl rfl hl.1 rfl (lv_room (Nat.le_of_ble_eq_true rfl)) d_S_indexOf2_17 ⟨Nat.le_of_ble_eq_true rfl, Nat.le_of_ble_eq_true rfl⟩) hS (fun q _ h9 => hFc q h9) hFc (fun r_17 u t H1 locs ht hvm hw hB hz1 hk1 hS => ?_)
    obtain ⟨rfl, rfl⟩ := hw
    obtain ⟨hP1, hK1, hD1⟩ := hB
    rw [ht] at hP1
    obtain ⟨hP, hD⟩ := va_join (wr := []) (w1 := []) hP hD [] [] rfl rfl (by decide) (by decide) hk1 hFc hP1 hD1
    have hP := hP.sub (ws' := []) [] rfl
    have hD := hD.sub (ws' := []) [] (by decide) rfl
    generalize H1 = H at hP hS ⊢
    refine lv_goto (tgt := 36) hx hb d_S_indexOf2_20 (by decide) ?_
    rw [hQ]
    exact W.iret (v := v_17.1) hx hb hr (fun t ht hW => ⟨⟨v_17.1, (), rfl, Prod.mk.inj (Option.some.inj h), by rw [ht]; exact hP, va_K.moved hW.alike hK, hD⟩, hS.F ht⟩) hS.2.2 d_S_indexOf2_36
set_option maxHeartbeats 4000000 in
set_option maxRecDepth 100000 in
theorem c_S_indexOf1 (l : Launch) (dC : Nat → ClassId) (dI : Nat → Nat → Nat) (tb : Nat) (ak av : Nat → Nat) (sz : Nat)  (x0 : Nat) (x1 : Int32) (r0 : Int32) (u0 : Unit) (h : m_S_indexOf1 x0 x1 = some (r0, u0)) : Met l y_S_indexOf1 w_S_indexOf1 ({ frames := 3, cells := 0, slots := 0, locals := 70 } : Room) (va_Pc [.ref (ak x0), .int x1] (fun U => U.heap.size = sz ∧ va_P (dC, dI) classes [] U.heap ∧ va_K (dC, dI) classes [] U ∧ va_D (fun _ => True) [] ∧ kw tb ak av (va_A [] sz) U)) (va_Qi (fun (r : Int32) (u : Unit) => r = r0 ∧ u = u0) (fun (u : Unit) (t : State) => va_P (dC, dI) classes [] t.heap ∧ va_K (dC, dI) classes [] t ∧ va_D (va_A [] sz) []) (va_A [] sz)) 0 0 (va_A [] sz) := by
  refine Met.ofW (cc := b_S_indexOf1) (maxL := 2) (ret := (some .int)) (by decide) rfl ?_
  intro p e s m args below meth c s₁ B hml hv
  obtain ⟨rfl, hsz, hP, hK, hD0, hC⟩ := hv
  have hx := B.exec
  have hb := B.bytes
  have hr := B.returns
  have hts0 := atoms_spec (ws := w_S_indexOf1) B.pre
  have hts : ∀ w ∈ lw_gd, w.before ([.ref (ak x0), .int x1] : List Value).toArray s = true := fun w h9 => hts0 w (List.mem_cons_of_mem _ h9)
  have hown : s.vm.findClass R_S = some m.cls := findClass_of_methodNamed B.named
  have hlocks := B.notSynchronized
  subst hsz
  have hD := hD0.self (sz := s.heap.size)
  generalize hAe : va_A [] s.heap.size = A at hD hC ⊢
  have hA : ∀ q : Nat, s.heap.size ≤ q → A q := fun q h9 => by rw [← hAe]; exact Or.inr h9
  obtain ⟨H, eH⟩ : ∃ H : Heap, H = s.heap := ⟨_, rfl⟩
  have hS : va_S A s.heap H [] := by rw [eH]; exact va_S.rf
  have hP : va_P (dC, dI) classes [] H := by rw [eH]; exact hP
  refine W_gen (fun Q hQ => ?_)
  refine W_heap eH ?_
  clear eH
  have hl := lv_entry ([.ref (ak x0), .int x1]) (n := 2) (Nat.le_of_ble_eq_true rfl)
  rw [lg_entry_eq]
  generalize (lg_sl ([.ref (ak x0), .int x1]) ++ List.replicate (2 - (lg_sl ([.ref (ak x0), .int x1])).length) Slot.unset).toArray = ls at hl ⊢
  have hl : lv_has ls 2 [(0, .ref (ak x0)), (1, .int x1)] := hl
  unfold m_S_indexOf1 at h
  refine lv_aload_n hx hb d_S_indexOf1_0 rfl (lv_at hl 0 rfl) ?_
  refine lv_iload_n hx hb d_S_indexOf1_1 rfl (lv_at hl 1 rfl) ?_
  refine lv_iconst (v := (nI 0)) hx hb d_S_indexOf1_2 (by decide) ?_
  have hPc := hP.sub (ws' := []) [] rfl
  have hDc := hD.sub (ws' := []) [] (by decide) rfl
  have hKc := hK.sub (tys' := []) [] rfl
  have hFc := va_free (wc := []) hD hS hA [] rfl
  obtain ⟨gq_3, h⟩ := of_guard h
  obtain ⟨v_3, hc_3, h⟩ := of_bind h
  skip
  refine va_calli (va_runV (As := [.int x1, .int (nI 0)]) (rest := []) ⟨hx, hb, hml, hown, hts⟩ (c_S_indexOf2 l dC dI tb ak av H.size x0 x1 (nI 0) v_3.1 v_3.2 hc_3) (cwV 2 hts (gV mlk_S_633 ins_S_indexOf2 sel_S_indexOf2 ini_S cod_S_indexOf2) rfl rfl rfl (by decide +kernel) ⟨Nat.le_of_ble_eq_true rfl, Nat.le_of_ble_eq_true rfl⟩) ⟨fun a U g mk q => by obtain ⟨q0, q1, qP, qK, qD, qC⟩ := q; exact ⟨q0, q1, qP, va_K.moved (u := U) (U := U.calling g mk a) (Vm.Alike.refl U.vm) qK, qD, kw_blind qC⟩, hC.rcv (inN_lt gq_3) hS, fun U hU hW => ⟨rfl, by rw [hU], by rw [hU]; exact hPc, va_K.moved hW.alike hKc, hDc.weaken (fun _ _ _ _ => trivial), kw_call hC hS hFc hU hW⟩⟩ rfl rfl hl.1 rfl (lv_room (Nat.le_of_ble_eq_true rfl)) d_S_indexOf1_3 ⟨Nat.le_of_ble_eq_true rfl, Nat.le_of_ble_eq_true rfl⟩) hS (fun q _ h9 => hFc q h9) hFc (fun r_3 u t H1 locs ht hvm hw hB hz1 hk1 hS => ?_)
  obtain ⟨rfl, rfl⟩ := hw
  obtain ⟨hP1, hK1, hD1⟩ := hB
  rw [ht] at hP1
  obtain ⟨hP, hD⟩ := va_join (wr := []) (w1 := []) hP hD [] [] rfl rfl (by decide) (by decide) hk1 hFc hP1 hD1
  have hP := hP.sub (ws' := []) [] rfl
  have hD := hD.sub (ws' := []) [] (by decide) rfl
  generalize H1 = H at hP hS ⊢
  rw [hQ]
  exact W.iret (v := v_3.1) hx hb hr (fun t ht hW => ⟨⟨v_3.1, (), rfl, Prod.mk.inj (Option.some.inj h), by rw [ht]; exact hP, va_K.moved hW.alike hK, hD⟩, hS.F ht⟩) hS.2.2 d_S_indexOf1_6
end
section
theorem d_L_add_0 : decode b_L_add 0 = .ok (.iload_n 1, 1) := by decide +kernel
theorem d_L_add_1 : decode b_L_add 1 = .ok (.bipush 32, 2) := by decide +kernel
theorem d_L_add_3 : decode b_L_add 3 = .ok (.if_icmp .lt 18, 3) := by decide +kernel
theorem d_L_add_6 : decode b_L_add 6 = .ok (.iload_n 1, 1) := by decide +kernel
theorem d_L_add_7 : decode b_L_add 7 = .ok (.bipush 126, 2) := by decide +kernel
theorem d_L_add_9 : decode b_L_add 9 = .ok (.if_icmp .gt 12, 3) := by decide +kernel
theorem d_L_add_12 : decode b_L_add 12 = .ok (.aload_n 0, 1) := by decide +kernel
theorem d_L_add_13 : decode b_L_add 13 = .ok (.getfield 15, 3) := by decide +kernel
theorem d_L_add_16 : decode b_L_add 16 = .ok (.bipush 32, 2) := by decide +kernel
theorem d_L_add_18 : decode b_L_add 18 = .ok (.if_icmp .lt 5, 3) := by decide +kernel
theorem d_L_add_21 : decode b_L_add 21 = .ok (.iconst 0, 1) := by decide +kernel
theorem d_L_add_22 : decode b_L_add 22 = .ok (.ireturn, 1) := by decide +kernel
theorem d_L_add_23 : decode b_L_add 23 = .ok (.aload_n 0, 1) := by decide +kernel
theorem d_L_add_24 : decode b_L_add 24 = .ok (.getfield 11, 3) := by decide +kernel
theorem d_L_add_27 : decode b_L_add 27 = .ok (.aload_n 0, 1) := by decide +kernel
theorem d_L_add_28 : decode b_L_add 28 = .ok (.getfield 15, 3) := by decide +kernel
theorem d_L_add_31 : decode b_L_add 31 = .ok (.iload_n 1, 1) := by decide +kernel
theorem d_L_add_32 : decode b_L_add 32 = .ok (.castore, 1) := by decide +kernel
theorem d_L_add_33 : decode b_L_add 33 = .ok (.aload_n 0, 1) := by decide +kernel
theorem d_L_add_34 : decode b_L_add 34 = .ok (.dup, 1) := by decide +kernel
theorem d_L_add_35 : decode b_L_add 35 = .ok (.getfield 15, 3) := by decide +kernel
theorem d_L_add_38 : decode b_L_add 38 = .ok (.iconst 1, 1) := by decide +kernel
theorem d_L_add_39 : decode b_L_add 39 = .ok (.iadd, 1) := by decide +kernel
theorem d_L_add_40 : decode b_L_add 40 = .ok (.putfield 15, 3) := by decide +kernel
theorem d_L_add_43 : decode b_L_add 43 = .ok (.iconst 1, 1) := by decide +kernel
theorem d_L_add_44 : decode b_L_add 44 = .ok (.ireturn, 1) := by decide +kernel
theorem d_L_removeLast_0 : decode b_L_removeLast 0 = .ok (.aload_n 0, 1) := by decide +kernel
theorem d_L_removeLast_1 : decode b_L_removeLast 1 = .ok (.getfield 15, 3) := by decide +kernel
theorem d_L_removeLast_4 : decode b_L_removeLast 4 = .ok (.ifCond .ne 5, 3) := by decide +kernel
theorem d_L_removeLast_7 : decode b_L_removeLast 7 = .ok (.iconst 0, 1) := by decide +kernel
theorem d_L_removeLast_8 : decode b_L_removeLast 8 = .ok (.ireturn, 1) := by decide +kernel
theorem d_L_removeLast_9 : decode b_L_removeLast 9 = .ok (.aload_n 0, 1) := by decide +kernel
theorem d_L_removeLast_10 : decode b_L_removeLast 10 = .ok (.dup, 1) := by decide +kernel
theorem d_L_removeLast_11 : decode b_L_removeLast 11 = .ok (.getfield 15, 3) := by decide +kernel
theorem d_L_removeLast_14 : decode b_L_removeLast 14 = .ok (.iconst 1, 1) := by decide +kernel
theorem d_L_removeLast_15 : decode b_L_removeLast 15 = .ok (.isub, 1) := by decide +kernel
theorem d_L_removeLast_16 : decode b_L_removeLast 16 = .ok (.putfield 15, 3) := by decide +kernel
theorem d_L_removeLast_19 : decode b_L_removeLast 19 = .ok (.iconst 1, 1) := by decide +kernel
theorem d_L_removeLast_20 : decode b_L_removeLast 20 = .ok (.ireturn, 1) := by decide +kernel
theorem d_L_clear_0 : decode b_L_clear 0 = .ok (.aload_n 0, 1) := by decide +kernel
theorem d_L_clear_1 : decode b_L_clear 1 = .ok (.iconst 0, 1) := by decide +kernel
theorem d_L_clear_2 : decode b_L_clear 2 = .ok (.putfield 15, 3) := by decide +kernel
theorem d_L_clear_5 : decode b_L_clear 5 = .ok (.return_, 1) := by decide +kernel
theorem d_L_at_0 : decode b_L_at 0 = .ok (.iload_n 1, 1) := by decide +kernel
theorem d_L_at_1 : decode b_L_at 1 = .ok (.ifCond .lt 20, 3) := by decide +kernel
theorem d_L_at_4 : decode b_L_at 4 = .ok (.iload_n 1, 1) := by decide +kernel
theorem d_L_at_5 : decode b_L_at 5 = .ok (.aload_n 0, 1) := by decide +kernel
theorem d_L_at_6 : decode b_L_at 6 = .ok (.getfield 15, 3) := by decide +kernel
theorem d_L_at_9 : decode b_L_at 9 = .ok (.if_icmp .ge 12, 3) := by decide +kernel
theorem d_L_at_12 : decode b_L_at 12 = .ok (.aload_n 0, 1) := by decide +kernel
theorem d_L_at_13 : decode b_L_at 13 = .ok (.getfield 11, 3) := by decide +kernel
theorem d_L_at_16 : decode b_L_at 16 = .ok (.iload_n 1, 1) := by decide +kernel
theorem d_L_at_17 : decode b_L_at 17 = .ok (.caload, 1) := by decide +kernel
theorem d_L_at_18 : decode b_L_at 18 = .ok (.goto 4, 3) := by decide +kernel
theorem d_L_at_21 : decode b_L_at 21 = .ok (.iconst 0, 1) := by decide +kernel
theorem d_L_at_22 : decode b_L_at 22 = .ok (.ireturn, 1) := by decide +kernel
theorem d_L_form_0 : decode b_L_form 0 = .ok (.aload_n 0, 1) := by decide +kernel
theorem d_L_form_1 : decode b_L_form 1 = .ok (.iconst 0, 1) := by decide +kernel
theorem d_L_form_2 : decode b_L_form 2 = .ok (.invokevirtual 39, 3) := by decide +kernel
theorem d_L_form_5 : decode b_L_form 5 = .ok (.lookupswitch 74 #[(43, 65), (45, 68), (97, 59), (98, 59), (116, 71), (126, 62)], 59) := by decide +kernel
theorem d_L_form_64 : decode b_L_form 64 = .ok (.ldc 58, 2) := by decide +kernel
theorem d_L_form_66 : decode b_L_form 66 = .ok (.areturn, 1) := by decide +kernel
theorem d_L_form_67 : decode b_L_form 67 = .ok (.ldc 60, 2) := by decide +kernel
theorem d_L_form_69 : decode b_L_form 69 = .ok (.areturn, 1) := by decide +kernel
theorem d_L_form_70 : decode b_L_form 70 = .ok (.ldc 62, 2) := by decide +kernel
theorem d_L_form_72 : decode b_L_form 72 = .ok (.areturn, 1) := by decide +kernel
theorem d_L_form_73 : decode b_L_form 73 = .ok (.ldc 64, 2) := by decide +kernel
theorem d_L_form_75 : decode b_L_form 75 = .ok (.areturn, 1) := by decide +kernel
theorem d_L_form_76 : decode b_L_form 76 = .ok (.ldc 66, 2) := by decide +kernel
theorem d_L_form_78 : decode b_L_form 78 = .ok (.areturn, 1) := by decide +kernel
theorem d_L_form_79 : decode b_L_form 79 = .ok (.ldc 68, 2) := by decide +kernel
theorem d_L_form_81 : decode b_L_form 81 = .ok (.areturn, 1) := by decide +kernel
theorem d_L_allows_0 : decode b_L_allows 0 = .ok (.iload_n 0, 1) := by decide +kernel
theorem d_L_allows_1 : decode b_L_allows 1 = .ok (.lookupswitch 127 #[(99, 85), (102, 43), (114, 61), (118, 103)], 43) := by decide +kernel
theorem d_L_allows_44 : decode b_L_allows 44 = .ok (.iload_n 1, 1) := by decide +kernel
theorem d_L_allows_45 : decode b_L_allows 45 = .ok (.bipush 97, 2) := by decide +kernel
theorem d_L_allows_47 : decode b_L_allows 47 = .ok (.if_icmp .eq 9, 3) := by decide +kernel
theorem d_L_allows_50 : decode b_L_allows 50 = .ok (.iload_n 1, 1) := by decide +kernel
theorem d_L_allows_51 : decode b_L_allows 51 = .ok (.bipush 98, 2) := by decide +kernel
theorem d_L_allows_53 : decode b_L_allows 53 = .ok (.if_icmp .ne 7, 3) := by decide +kernel
theorem d_L_allows_56 : decode b_L_allows 56 = .ok (.iconst 1, 1) := by decide +kernel
theorem d_L_allows_57 : decode b_L_allows 57 = .ok (.goto 4, 3) := by decide +kernel
theorem d_L_allows_60 : decode b_L_allows 60 = .ok (.iconst 0, 1) := by decide +kernel
theorem d_L_allows_61 : decode b_L_allows 61 = .ok (.ireturn, 1) := by decide +kernel
theorem d_L_allows_62 : decode b_L_allows 62 = .ok (.iload_n 1, 1) := by decide +kernel
theorem d_L_allows_63 : decode b_L_allows 63 = .ok (.bipush 97, 2) := by decide +kernel
theorem d_L_allows_65 : decode b_L_allows 65 = .ok (.if_icmp .eq 15, 3) := by decide +kernel
theorem d_L_allows_68 : decode b_L_allows 68 = .ok (.iload_n 1, 1) := by decide +kernel
theorem d_L_allows_69 : decode b_L_allows 69 = .ok (.bipush 98, 2) := by decide +kernel
theorem d_L_allows_71 : decode b_L_allows 71 = .ok (.if_icmp .eq 9, 3) := by decide +kernel
theorem d_L_allows_74 : decode b_L_allows 74 = .ok (.iload_n 1, 1) := by decide +kernel
theorem d_L_allows_75 : decode b_L_allows 75 = .ok (.bipush 116, 2) := by decide +kernel
theorem d_L_allows_77 : decode b_L_allows 77 = .ok (.if_icmp .ne 7, 3) := by decide +kernel
theorem d_L_allows_80 : decode b_L_allows 80 = .ok (.iconst 1, 1) := by decide +kernel
theorem d_L_allows_81 : decode b_L_allows 81 = .ok (.goto 4, 3) := by decide +kernel
theorem d_L_allows_84 : decode b_L_allows 84 = .ok (.iconst 0, 1) := by decide +kernel
theorem d_L_allows_85 : decode b_L_allows 85 = .ok (.ireturn, 1) := by decide +kernel
theorem d_L_allows_86 : decode b_L_allows 86 = .ok (.iload_n 1, 1) := by decide +kernel
theorem d_L_allows_87 : decode b_L_allows 87 = .ok (.bipush 48, 2) := by decide +kernel
theorem d_L_allows_89 : decode b_L_allows 89 = .ok (.if_icmp .lt 13, 3) := by decide +kernel
theorem d_L_allows_92 : decode b_L_allows 92 = .ok (.iload_n 1, 1) := by decide +kernel
theorem d_L_allows_93 : decode b_L_allows 93 = .ok (.bipush 51, 2) := by decide +kernel
theorem d_L_allows_95 : decode b_L_allows 95 = .ok (.if_icmp .gt 7, 3) := by decide +kernel
theorem d_L_allows_98 : decode b_L_allows 98 = .ok (.iconst 1, 1) := by decide +kernel
theorem d_L_allows_99 : decode b_L_allows 99 = .ok (.goto 4, 3) := by decide +kernel
theorem d_L_allows_102 : decode b_L_allows 102 = .ok (.iconst 0, 1) := by decide +kernel
theorem d_L_allows_103 : decode b_L_allows 103 = .ok (.ireturn, 1) := by decide +kernel
theorem d_L_allows_104 : decode b_L_allows 104 = .ok (.iload_n 1, 1) := by decide +kernel
theorem d_L_allows_105 : decode b_L_allows 105 = .ok (.bipush 88, 2) := by decide +kernel
theorem d_L_allows_107 : decode b_L_allows 107 = .ok (.if_icmp .eq 15, 3) := by decide +kernel
theorem d_L_allows_110 : decode b_L_allows 110 = .ok (.iload_n 1, 1) := by decide +kernel
theorem d_L_allows_111 : decode b_L_allows 111 = .ok (.bipush 89, 2) := by decide +kernel
theorem d_L_allows_113 : decode b_L_allows 113 = .ok (.if_icmp .eq 9, 3) := by decide +kernel
theorem d_L_allows_116 : decode b_L_allows 116 = .ok (.iload_n 1, 1) := by decide +kernel
theorem d_L_allows_117 : decode b_L_allows 117 = .ok (.bipush 90, 2) := by decide +kernel
theorem d_L_allows_119 : decode b_L_allows 119 = .ok (.if_icmp .ne 7, 3) := by decide +kernel
theorem d_L_allows_122 : decode b_L_allows 122 = .ok (.iconst 1, 1) := by decide +kernel
theorem d_L_allows_123 : decode b_L_allows 123 = .ok (.goto 4, 3) := by decide +kernel
theorem d_L_allows_126 : decode b_L_allows 126 = .ok (.iconst 0, 1) := by decide +kernel
theorem d_L_allows_127 : decode b_L_allows 127 = .ok (.ireturn, 1) := by decide +kernel
theorem d_L_allows_128 : decode b_L_allows 128 = .ok (.iload_n 1, 1) := by decide +kernel
theorem d_L_allows_129 : decode b_L_allows 129 = .ok (.iload_n 0, 1) := by decide +kernel
theorem d_L_allows_130 : decode b_L_allows 130 = .ok (.if_icmp .ne 7, 3) := by decide +kernel
theorem d_L_allows_133 : decode b_L_allows 133 = .ok (.iconst 1, 1) := by decide +kernel
theorem d_L_allows_134 : decode b_L_allows 134 = .ok (.goto 4, 3) := by decide +kernel
theorem d_L_allows_137 : decode b_L_allows 137 = .ok (.iconst 0, 1) := by decide +kernel
theorem d_L_allows_138 : decode b_L_allows 138 = .ok (.ireturn, 1) := by decide +kernel
theorem d_L_begunStatement_0 : decode b_L_begunStatement 0 = .ok (.aload_n 0, 1) := by decide +kernel
theorem d_L_begunStatement_1 : decode b_L_begunStatement 1 = .ok (.invokevirtual 19, 3) := by decide +kernel
theorem d_L_begunStatement_4 : decode b_L_begunStatement 4 = .ok (.astore_n 1, 1) := by decide +kernel
theorem d_L_begunStatement_5 : decode b_L_begunStatement 5 = .ok (.iconst 0, 1) := by decide +kernel
theorem d_L_begunStatement_6 : decode b_L_begunStatement 6 = .ok (.istore_n 2, 1) := by decide +kernel
theorem d_L_begunStatement_7 : decode b_L_begunStatement 7 = .ok (.iload_n 2, 1) := by decide +kernel
theorem d_L_begunStatement_8 : decode b_L_begunStatement 8 = .ok (.aload_n 0, 1) := by decide +kernel
theorem d_L_begunStatement_9 : decode b_L_begunStatement 9 = .ok (.getfield 15, 3) := by decide +kernel
theorem d_L_begunStatement_12 : decode b_L_begunStatement 12 = .ok (.if_icmp .ge 34, 3) := by decide +kernel
theorem d_L_begunStatement_15 : decode b_L_begunStatement 15 = .ok (.iload_n 2, 1) := by decide +kernel
theorem d_L_begunStatement_16 : decode b_L_begunStatement 16 = .ok (.aload_n 1, 1) := by decide +kernel
theorem d_L_begunStatement_17 : decode b_L_begunStatement 17 = .ok (.invokevirtual 23, 3) := by decide +kernel
theorem d_L_begunStatement_20 : decode b_L_begunStatement 20 = .ok (.if_icmp .ge 26, 3) := by decide +kernel
theorem d_L_begunStatement_23 : decode b_L_begunStatement 23 = .ok (.aload_n 1, 1) := by decide +kernel
theorem d_L_begunStatement_24 : decode b_L_begunStatement 24 = .ok (.iload_n 2, 1) := by decide +kernel
theorem d_L_begunStatement_25 : decode b_L_begunStatement 25 = .ok (.invokevirtual 28, 3) := by decide +kernel
theorem d_L_begunStatement_28 : decode b_L_begunStatement 28 = .ok (.aload_n 0, 1) := by decide +kernel
theorem d_L_begunStatement_29 : decode b_L_begunStatement 29 = .ok (.getfield 11, 3) := by decide +kernel
theorem d_L_begunStatement_32 : decode b_L_begunStatement 32 = .ok (.iload_n 2, 1) := by decide +kernel
theorem d_L_begunStatement_33 : decode b_L_begunStatement 33 = .ok (.caload, 1) := by decide +kernel
theorem d_L_begunStatement_34 : decode b_L_begunStatement 34 = .ok (.invokestatic 32, 3) := by decide +kernel
theorem d_L_begunStatement_37 : decode b_L_begunStatement 37 = .ok (.ifCond .eq 9, 3) := by decide +kernel
theorem d_L_begunStatement_40 : decode b_L_begunStatement 40 = .ok (.iinc 2 1, 3) := by decide +kernel
theorem d_L_begunStatement_43 : decode b_L_begunStatement 43 = .ok (.goto (-36), 3) := by decide +kernel
theorem d_L_begunStatement_46 : decode b_L_begunStatement 46 = .ok (.iload_n 2, 1) := by decide +kernel
theorem d_L_begunStatement_47 : decode b_L_begunStatement 47 = .ok (.ireturn, 1) := by decide +kernel
theorem d_L_typedPair_0 : decode b_L_typedPair 0 = .ok (.aload_n 0, 1) := by decide +kernel
theorem d_L_typedPair_1 : decode b_L_typedPair 1 = .ok (.aload_n 0, 1) := by decide +kernel
theorem d_L_typedPair_2 : decode b_L_typedPair 2 = .ok (.getfield 15, 3) := by decide +kernel
theorem d_L_typedPair_5 : decode b_L_typedPair 5 = .ok (.iconst 4, 1) := by decide +kernel
theorem d_L_typedPair_6 : decode b_L_typedPair 6 = .ok (.isub, 1) := by decide +kernel
theorem d_L_typedPair_7 : decode b_L_typedPair 7 = .ok (.invokevirtual 39, 3) := by decide +kernel
theorem d_L_typedPair_10 : decode b_L_typedPair 10 = .ok (.bipush 48, 2) := by decide +kernel
theorem d_L_typedPair_12 : decode b_L_typedPair 12 = .ok (.isub, 1) := by decide +kernel
theorem d_L_typedPair_13 : decode b_L_typedPair 13 = .ok (.aload_n 0, 1) := by decide +kernel
theorem d_L_typedPair_14 : decode b_L_typedPair 14 = .ok (.aload_n 0, 1) := by decide +kernel
theorem d_L_typedPair_15 : decode b_L_typedPair 15 = .ok (.getfield 15, 3) := by decide +kernel
theorem d_L_typedPair_18 : decode b_L_typedPair 18 = .ok (.iconst 2, 1) := by decide +kernel
theorem d_L_typedPair_19 : decode b_L_typedPair 19 = .ok (.isub, 1) := by decide +kernel
theorem d_L_typedPair_20 : decode b_L_typedPair 20 = .ok (.invokevirtual 39, 3) := by decide +kernel
theorem d_L_typedPair_23 : decode b_L_typedPair 23 = .ok (.bipush 48, 2) := by decide +kernel
theorem d_L_typedPair_25 : decode b_L_typedPair 25 = .ok (.isub, 1) := by decide +kernel
theorem d_L_typedPair_26 : decode b_L_typedPair 26 = .ok (.invokestatic 42, 3) := by decide +kernel
theorem d_L_typedPair_29 : decode b_L_typedPair 29 = .ok (.ireturn, 1) := by decide +kernel
theorem d_L_typedLiterals_0 : decode b_L_typedLiterals 0 = .ok (.aload_n 0, 1) := by decide +kernel
theorem d_L_typedLiterals_1 : decode b_L_typedLiterals 1 = .ok (.getfield 15, 3) := by decide +kernel
theorem d_L_typedLiterals_4 : decode b_L_typedLiterals 4 = .ok (.iconst 1, 1) := by decide +kernel
theorem d_L_typedLiterals_5 : decode b_L_typedLiterals 5 = .ok (.iadd, 1) := by decide +kernel
theorem d_L_typedLiterals_6 : decode b_L_typedLiterals 6 = .ok (.bipush 8, 2) := by decide +kernel
theorem d_L_typedLiterals_8 : decode b_L_typedLiterals 8 = .ok (.isub, 1) := by decide +kernel
theorem d_L_typedLiterals_9 : decode b_L_typedLiterals 9 = .ok (.bipush 7, 2) := by decide +kernel
theorem d_L_typedLiterals_11 : decode b_L_typedLiterals 11 = .ok (.idiv, 1) := by decide +kernel
theorem d_L_typedLiterals_12 : decode b_L_typedLiterals 12 = .ok (.ireturn, 1) := by decide +kernel
theorem d_L_endsStatement_0 : decode b_L_endsStatement 0 = .ok (.iload_n 1, 1) := by decide +kernel
theorem d_L_endsStatement_1 : decode b_L_endsStatement 1 = .ok (.ifCond .eq 11, 3) := by decide +kernel
theorem d_L_endsStatement_4 : decode b_L_endsStatement 4 = .ok (.iload_n 1, 1) := by decide +kernel
theorem d_L_endsStatement_5 : decode b_L_endsStatement 5 = .ok (.aload_n 0, 1) := by decide +kernel
theorem d_L_endsStatement_6 : decode b_L_endsStatement 6 = .ok (.getfield 15, 3) := by decide +kernel
theorem d_L_endsStatement_9 : decode b_L_endsStatement 9 = .ok (.if_icmp .ge 5, 3) := by decide +kernel
theorem d_L_endsStatement_12 : decode b_L_endsStatement 12 = .ok (.iconst 0, 1) := by decide +kernel
theorem d_L_endsStatement_13 : decode b_L_endsStatement 13 = .ok (.ireturn, 1) := by decide +kernel
theorem d_L_endsStatement_14 : decode b_L_endsStatement 14 = .ok (.aload_n 0, 1) := by decide +kernel
theorem d_L_endsStatement_15 : decode b_L_endsStatement 15 = .ok (.getfield 11, 3) := by decide +kernel
theorem d_L_endsStatement_18 : decode b_L_endsStatement 18 = .ok (.iconst 0, 1) := by decide +kernel
theorem d_L_endsStatement_19 : decode b_L_endsStatement 19 = .ok (.caload, 1) := by decide +kernel
theorem d_L_endsStatement_20 : decode b_L_endsStatement 20 = .ok (.bipush 116, 2) := by decide +kernel
theorem d_L_endsStatement_22 : decode b_L_endsStatement 22 = .ok (.if_icmp .ne 33, 3) := by decide +kernel
theorem d_L_endsStatement_25 : decode b_L_endsStatement 25 = .ok (.aload_n 0, 1) := by decide +kernel
theorem d_L_endsStatement_26 : decode b_L_endsStatement 26 = .ok (.getfield 15, 3) := by decide +kernel
theorem d_L_endsStatement_29 : decode b_L_endsStatement 29 = .ok (.bipush 7, 2) := by decide +kernel
theorem d_L_endsStatement_31 : decode b_L_endsStatement 31 = .ok (.bipush 7, 2) := by decide +kernel
theorem d_L_endsStatement_33 : decode b_L_endsStatement 33 = .ok (.aload_n 0, 1) := by decide +kernel
theorem d_L_endsStatement_34 : decode b_L_endsStatement 34 = .ok (.invokevirtual 36, 3) := by decide +kernel
theorem d_L_endsStatement_37 : decode b_L_endsStatement 37 = .ok (.imul, 1) := by decide +kernel
theorem d_L_endsStatement_38 : decode b_L_endsStatement 38 = .ok (.iadd, 1) := by decide +kernel
theorem d_L_endsStatement_39 : decode b_L_endsStatement 39 = .ok (.if_icmp .ne 14, 3) := by decide +kernel
theorem d_L_endsStatement_42 : decode b_L_endsStatement 42 = .ok (.aload_n 0, 1) := by decide +kernel
theorem d_L_endsStatement_43 : decode b_L_endsStatement 43 = .ok (.invokevirtual 36, 3) := by decide +kernel
theorem d_L_endsStatement_46 : decode b_L_endsStatement 46 = .ok (.ifCond .le 7, 3) := by decide +kernel
theorem d_L_endsStatement_49 : decode b_L_endsStatement 49 = .ok (.iconst 1, 1) := by decide +kernel
theorem d_L_endsStatement_50 : decode b_L_endsStatement 50 = .ok (.goto 4, 3) := by decide +kernel
theorem d_L_endsStatement_53 : decode b_L_endsStatement 53 = .ok (.iconst 0, 1) := by decide +kernel
theorem d_L_endsStatement_54 : decode b_L_endsStatement 54 = .ok (.ireturn, 1) := by decide +kernel
theorem d_L_endsStatement_55 : decode b_L_endsStatement 55 = .ok (.aload_n 0, 1) := by decide +kernel
theorem d_L_endsStatement_56 : decode b_L_endsStatement 56 = .ok (.getfield 15, 3) := by decide +kernel
theorem d_L_endsStatement_59 : decode b_L_endsStatement 59 = .ok (.aload_n 0, 1) := by decide +kernel
theorem d_L_endsStatement_60 : decode b_L_endsStatement 60 = .ok (.invokevirtual 19, 3) := by decide +kernel
theorem d_L_endsStatement_63 : decode b_L_endsStatement 63 = .ok (.invokevirtual 23, 3) := by decide +kernel
theorem d_L_endsStatement_66 : decode b_L_endsStatement 66 = .ok (.if_icmp .ne 7, 3) := by decide +kernel
theorem d_L_endsStatement_69 : decode b_L_endsStatement 69 = .ok (.iconst 1, 1) := by decide +kernel
theorem d_L_endsStatement_70 : decode b_L_endsStatement 70 = .ok (.goto 4, 3) := by decide +kernel
theorem d_L_endsStatement_73 : decode b_L_endsStatement 73 = .ok (.iconst 0, 1) := by decide +kernel
theorem d_L_endsStatement_74 : decode b_L_endsStatement 74 = .ok (.ireturn, 1) := by decide +kernel
theorem d_L_typedBody_0 : decode b_L_typedBody 0 = .ok (.iconst 0, 1) := by decide +kernel
theorem d_L_typedBody_1 : decode b_L_typedBody 1 = .ok (.istore_n 1, 1) := by decide +kernel
theorem d_L_typedBody_2 : decode b_L_typedBody 2 = .ok (.bipush 8, 2) := by decide +kernel
theorem d_L_typedBody_4 : decode b_L_typedBody 4 = .ok (.istore_n 2, 1) := by decide +kernel
theorem d_L_typedBody_5 : decode b_L_typedBody 5 = .ok (.iload_n 2, 1) := by decide +kernel
theorem d_L_typedBody_6 : decode b_L_typedBody 6 = .ok (.aload_n 0, 1) := by decide +kernel
theorem d_L_typedBody_7 : decode b_L_typedBody 7 = .ok (.getfield 15, 3) := by decide +kernel
theorem d_L_typedBody_10 : decode b_L_typedBody 10 = .ok (.if_icmp .ge 61, 3) := by decide +kernel
theorem d_L_typedBody_13 : decode b_L_typedBody 13 = .ok (.ldc 46, 2) := by decide +kernel
theorem d_L_typedBody_15 : decode b_L_typedBody 15 = .ok (.aload_n 0, 1) := by decide +kernel
theorem d_L_typedBody_16 : decode b_L_typedBody 16 = .ok (.iload_n 2, 1) := by decide +kernel
theorem d_L_typedBody_17 : decode b_L_typedBody 17 = .ok (.invokevirtual 39, 3) := by decide +kernel
theorem d_L_typedBody_20 : decode b_L_typedBody 20 = .ok (.invokevirtual 48, 3) := by decide +kernel
theorem d_L_typedBody_23 : decode b_L_typedBody 23 = .ok (.istore_n 3, 1) := by decide +kernel
theorem d_L_typedBody_24 : decode b_L_typedBody 24 = .ok (.ldc 52, 2) := by decide +kernel
theorem d_L_typedBody_26 : decode b_L_typedBody 26 = .ok (.aload_n 0, 1) := by decide +kernel
theorem d_L_typedBody_27 : decode b_L_typedBody 27 = .ok (.iload_n 2, 1) := by decide +kernel
theorem d_L_typedBody_28 : decode b_L_typedBody 28 = .ok (.iconst 2, 1) := by decide +kernel
theorem d_L_typedBody_29 : decode b_L_typedBody 29 = .ok (.iadd, 1) := by decide +kernel
theorem d_L_typedBody_30 : decode b_L_typedBody 30 = .ok (.invokevirtual 39, 3) := by decide +kernel
theorem d_L_typedBody_33 : decode b_L_typedBody 33 = .ok (.invokevirtual 48, 3) := by decide +kernel
theorem d_L_typedBody_36 : decode b_L_typedBody 36 = .ok (.istore 4, 2) := by decide +kernel
theorem d_L_typedBody_38 : decode b_L_typedBody 38 = .ok (.ldc 52, 2) := by decide +kernel
theorem d_L_typedBody_40 : decode b_L_typedBody 40 = .ok (.aload_n 0, 1) := by decide +kernel
theorem d_L_typedBody_41 : decode b_L_typedBody 41 = .ok (.iload_n 2, 1) := by decide +kernel
theorem d_L_typedBody_42 : decode b_L_typedBody 42 = .ok (.iconst 4, 1) := by decide +kernel
theorem d_L_typedBody_43 : decode b_L_typedBody 43 = .ok (.iadd, 1) := by decide +kernel
theorem d_L_typedBody_44 : decode b_L_typedBody 44 = .ok (.invokevirtual 39, 3) := by decide +kernel
theorem d_L_typedBody_47 : decode b_L_typedBody 47 = .ok (.invokevirtual 48, 3) := by decide +kernel
theorem d_L_typedBody_50 : decode b_L_typedBody 50 = .ok (.istore 5, 2) := by decide +kernel
theorem d_L_typedBody_52 : decode b_L_typedBody 52 = .ok (.iload_n 1, 1) := by decide +kernel
theorem d_L_typedBody_53 : decode b_L_typedBody 53 = .ok (.iconst 1, 1) := by decide +kernel
theorem d_L_typedBody_54 : decode b_L_typedBody 54 = .ok (.iload_n 3, 1) := by decide +kernel
theorem d_L_typedBody_55 : decode b_L_typedBody 55 = .ok (.iload 4, 2) := by decide +kernel
theorem d_L_typedBody_57 : decode b_L_typedBody 57 = .ok (.iload 5, 2) := by decide +kernel
theorem d_L_typedBody_59 : decode b_L_typedBody 59 = .ok (.invokestatic 54, 3) := by decide +kernel
theorem d_L_typedBody_62 : decode b_L_typedBody 62 = .ok (.ishl, 1) := by decide +kernel
theorem d_L_typedBody_63 : decode b_L_typedBody 63 = .ok (.ior, 1) := by decide +kernel
theorem d_L_typedBody_64 : decode b_L_typedBody 64 = .ok (.istore_n 1, 1) := by decide +kernel
theorem d_L_typedBody_65 : decode b_L_typedBody 65 = .ok (.iinc 2 7, 3) := by decide +kernel
theorem d_L_typedBody_68 : decode b_L_typedBody 68 = .ok (.goto (-63), 3) := by decide +kernel
theorem d_L_typedBody_71 : decode b_L_typedBody 71 = .ok (.iload_n 1, 1) := by decide +kernel
theorem d_L_typedBody_72 : decode b_L_typedBody 72 = .ok (.ireturn, 1) := by decide +kernel
set_option maxHeartbeats 4000000 in
set_option maxRecDepth 100000 in
theorem c_L_add (l : Launch) (dC : Nat → ClassId) (dI : Nat → Nat → Nat) (h_o h_typed : Nat) (k_typed : ClassId) (sz : Nat) (v_length : Int32) (v_typed : Nat → Int32) (x1 : Int32) (r0 : Int32) (u0 : Int32 × (Nat → Int32)) (h : m_L_add v_length v_typed x1 = some (r0, u0)) : Met l y_L_add w_L_add ({ frames := 0, cells := 0, slots := 0, locals := 0 } : Room) (va_Pc [.ref h_o, .int x1] (fun U => U.heap.size = sz ∧ va_P (dC, dI) classes [(h_o, .inr (1, [.ref h_typed, .int v_length])), (h_typed, .inl (k_typed, 32, .inl v_typed))] U.heap ∧ va_K (dC, dI) classes [(k_typed, .char)] U ∧ va_D (fun _ => True) [(h_o, .inr (1, [.ref h_typed, .int v_length])), (h_typed, .inl (k_typed, 32, .inl v_typed))])) (va_Qi (fun (r : Int32) (u : Int32 × (Nat → Int32)) => r = r0 ∧ u = u0) (fun (u : Int32 × (Nat → Int32)) (t : State) => va_P (dC, dI) classes [(h_o, .inr (1, [.ref h_typed, .int u.1])), (h_typed, .inl (k_typed, 32, .inl u.2))] t.heap ∧ va_K (dC, dI) classes [(k_typed, .char)] t ∧ va_D (va_A [(h_o, .inr (1, [.ref h_typed, .int v_length])), (h_typed, .inl (k_typed, 32, .inl v_typed))] sz) [(h_o, .inr (1, [.ref h_typed, .int u.1])), (h_typed, .inl (k_typed, 32, .inl u.2))]) (va_A [(h_o, .inr (1, [.ref h_typed, .int v_length])), (h_typed, .inl (k_typed, 32, .inl v_typed))] sz)) 0 0 (va_A [(h_o, .inr (1, [.ref h_typed, .int v_length])), (h_typed, .inl (k_typed, 32, .inl v_typed))] sz) := by
  refine Met.ofW (cc := b_L_add) (maxL := 2) (ret := (some .boolean)) (by decide) rfl ?_
  intro p e s m args below meth c s₁ B hml hv
  obtain ⟨rfl, hsz, hP, hK, hD0⟩ := hv
  have hx := B.exec
  have hb := B.bytes
  have hr := B.returns
  have hts0 := atoms_spec (ws := w_L_add) B.pre
  have hts : ∀ w ∈ lw_gd, w.before ([.ref h_o, .int x1] : List Value).toArray s = true := fun w h9 => hts0 w (List.mem_cons_of_mem _ h9)
  have hown : s.vm.findClass R_L = some m.cls := findClass_of_methodNamed B.named
  have hlocks := B.notSynchronized
  subst hsz
  have hD := hD0.self (sz := s.heap.size)
  generalize hAe : va_A [(h_o, .inr (1, [.ref h_typed, .int v_length])), (h_typed, .inl (k_typed, 32, .inl v_typed))] s.heap.size = A at hD ⊢
  have hA : ∀ q : Nat, s.heap.size ≤ q → A q := fun q h9 => by rw [← hAe]; exact Or.inr h9
  obtain ⟨H, eH⟩ : ∃ H : Heap, H = s.heap := ⟨_, rfl⟩
  have hS : va_S A s.heap H [] := by rw [eH]; exact va_S.rf
  have hP : va_P (dC, dI) classes [(h_o, .inr (1, [.ref h_typed, .int v_length])), (h_typed, .inl (k_typed, 32, .inl v_typed))] H := by rw [eH]; exact hP
  refine W_gen (fun Q hQ => ?_)
  refine W_heap eH ?_
  clear eH
  have hl := lv_entry ([.ref h_o, .int x1]) (n := 2) (Nat.le_of_ble_eq_true rfl)
  rw [lg_entry_eq]
  generalize (lg_sl ([.ref h_o, .int x1]) ++ List.replicate (2 - (lg_sl ([.ref h_o, .int x1])).length) Slot.unset).toArray = ls at hl ⊢
  have hl : lv_has ls 2 [(0, .ref h_o), (1, .int x1)] := hl
  unfold m_L_add at h
  refine lv_iload_n hx hb d_L_add_0 rfl (lv_at hl 1 rfl) ?_
  refine lv_bipush (v := (nI 32)) hx hb d_L_add_1 (by decide) ?_
  refine lv_icmp_lt (tgt := 21) hx hb d_L_add_3 (by decide) (fun c_3 => ?_) (fun c_3 => ?_)
  · have h := of_pos h c_3
    refine lv_iconst (v := (nI 0)) hx hb d_L_add_21 (by decide) ?_
    rw [hQ]
    exact W.zret (v := (nI 0)) hx hb hr rfl (fun t ht hW => ⟨⟨(nI 0), (v_length, v_typed), rfl, Prod.mk.inj (Option.some.inj h), by rw [ht]; exact hP, va_K.moved hW.alike hK, hD⟩, hS.F ht⟩) hS.2.2 d_L_add_22
  · have h := of_neg h c_3
    refine lv_iload_n hx hb d_L_add_6 rfl (lv_at hl 1 rfl) ?_
    refine lv_bipush (v := (nI 126)) hx hb d_L_add_7 (by decide) ?_
    refine lv_icmp_gt (tgt := 21) hx hb d_L_add_9 (by decide) (fun c_9 => ?_) (fun c_9 => ?_)
    · have h := of_pos h c_9
      refine lv_iconst (v := (nI 0)) hx hb d_L_add_21 (by decide) ?_
      rw [hQ]
      exact W.zret (v := (nI 0)) hx hb hr rfl (fun t ht hW => ⟨⟨(nI 0), (v_length, v_typed), rfl, Prod.mk.inj (Option.some.inj h), by rw [ht]; exact hP, va_K.moved hW.alike hK, hD⟩, hS.F ht⟩) hS.2.2 d_L_add_22
    · have h := of_neg h c_9
      refine lv_aload_n hx hb d_L_add_12 rfl (lv_at hl 0 rfl) ?_
      refine va_get (D := (dC, dI)) (ci := 1) (v := .int v_length) (C := R_L) (T := F_L) (N := 2) hx hb hts lay_L hown hK hP 0 rfl rfl 1 (by decide) (hts _ flk_L_15) (fun _ h9 => h9) rfl d_L_add_13 ?_
      refine lv_bipush (v := (nI 32)) hx hb d_L_add_16 (by decide) ?_
      refine lv_icmp_lt (tgt := 23) hx hb d_L_add_18 (by decide) (fun c_18 => ?_) (fun c_18 => ?_)
      · have h := of_pos h c_18
        refine lv_aload_n hx hb d_L_add_23 rfl (lv_at hl 0 rfl) ?_
        refine va_get (D := (dC, dI)) (ci := 1) (v := .ref h_typed) (C := R_L) (T := F_L) (N := 2) hx hb hts lay_L hown hK hP 0 rfl rfl 0 (by decide) (hts _ flk_L_11) (fun _ h9 => h9) rfl d_L_add_24 ?_
        refine lv_aload_n hx hb d_L_add_27 rfl (lv_at hl 0 rfl) ?_
        refine va_get (D := (dC, dI)) (ci := 1) (v := .int v_length) (C := R_L) (T := F_L) (N := 2) hx hb hts lay_L hown hK hP 0 rfl rfl 1 (by decide) (hts _ flk_L_15) (fun _ h9 => h9) rfl d_L_add_28 ?_
        refine lv_iload_n hx hb d_L_add_31 rfl (lv_at hl 1 rfl) ?_
        obtain ⟨g_32, h⟩ := of_guard h
        obtain ⟨gn_32, h⟩ := of_guard h
        refine va_cast hx hb hK hP hD hS 1 0 rfl rfl (inR_in g_32) d_L_add_32 (fun H locs hP hD hS => ?_)
        have hP : va_P (dC, dI) classes [(h_o, .inr (1, [.ref h_typed, .int v_length])), (h_typed, .inl (k_typed, 32, .inl (upd v_typed v_length.toNatClampNeg (vp_nar .char x1))))] H := hP
        have hD : va_D A [(h_o, .inr (1, [.ref h_typed, .int v_length])), (h_typed, .inl (k_typed, 32, .inl (upd v_typed v_length.toNatClampNeg (vp_nar .char x1))))] := hD
        rw [nar_c gn_32] at hP hD
        have hP : va_P (dC, dI) classes [(h_o, .inr (1, [.ref h_typed, .int v_length])), (h_typed, .inl (k_typed, 32, .inl (upd v_typed v_length.toNatClampNeg x1)))] H := hP
        have hD : va_D A [(h_o, .inr (1, [.ref h_typed, .int v_length])), (h_typed, .inl (k_typed, 32, .inl (upd v_typed v_length.toNatClampNeg x1)))] := hD
        refine lv_aload_n hx hb d_L_add_33 rfl (lv_at hl 0 rfl) ?_
        refine lv_dup hx hb d_L_add_34 rfl ?_
        refine va_get (D := (dC, dI)) (ci := 1) (v := .int v_length) (C := R_L) (T := F_L) (N := 2) hx hb hts lay_L hown hK hP 0 rfl rfl 1 (by decide) (hts _ flk_L_15) (fun _ h9 => h9) rfl d_L_add_35 ?_
        refine lv_iconst (v := (nI 1)) hx hb d_L_add_38 (by decide) ?_
        refine lv_iadd hx hb d_L_add_39 ?_
        refine va_put (D := (dC, dI)) (ci := 1) (v := .int (v_length + (nI 1))) (ty := .int) (C := R_L) (T := F_L) (N := 2) hx hb hts lay_L t_L t_L_ok n_L hown hK hP hD hS 0 rfl rfl 1 (by decide) (hts _ flk_L_15) (fun _ h9 => h9) rfl (by decide +kernel) rfl rfl (Nat.le_of_ble_eq_true rfl) d_L_add_40 (fun H locs hP hD hS => ?_)
        have hP : va_P (dC, dI) classes [(h_o, .inr (1, [.ref h_typed, .int (v_length + (nI 1))])), (h_typed, .inl (k_typed, 32, .inl (upd v_typed v_length.toNatClampNeg x1)))] H := hP
        have hD : va_D A [(h_o, .inr (1, [.ref h_typed, .int (v_length + (nI 1))])), (h_typed, .inl (k_typed, 32, .inl (upd v_typed v_length.toNatClampNeg x1)))] := hD
        refine lv_iconst (v := (nI 1)) hx hb d_L_add_43 (by decide) ?_
        rw [hQ]
        exact W.zret (v := (nI 1)) hx hb hr rfl (fun t ht hW => ⟨⟨(nI 1), (v_length + (nI 1), upd v_typed v_length.toNatClampNeg x1), rfl, Prod.mk.inj (Option.some.inj h), by rw [ht]; exact hP, va_K.moved hW.alike hK, hD⟩, hS.F ht⟩) hS.2.2 d_L_add_44
      · have h := of_neg h c_18
        refine lv_iconst (v := (nI 0)) hx hb d_L_add_21 (by decide) ?_
        rw [hQ]
        exact W.zret (v := (nI 0)) hx hb hr rfl (fun t ht hW => ⟨⟨(nI 0), (v_length, v_typed), rfl, Prod.mk.inj (Option.some.inj h), by rw [ht]; exact hP, va_K.moved hW.alike hK, hD⟩, hS.F ht⟩) hS.2.2 d_L_add_22
set_option maxHeartbeats 4000000 in
set_option maxRecDepth 100000 in
theorem c_L_removeLast (l : Launch) (dC : Nat → ClassId) (dI : Nat → Nat → Nat) (h_o h_typed : Nat) (sz : Nat) (v_length : Int32) (r0 : Int32) (u0 : Int32) (h : m_L_removeLast v_length = some (r0, u0)) : Met l y_L_removeLast w_L_removeLast ({ frames := 0, cells := 0, slots := 0, locals := 0 } : Room) (va_Pc [.ref h_o] (fun U => U.heap.size = sz ∧ va_P (dC, dI) classes [(h_o, .inr (1, [.ref h_typed, .int v_length]))] U.heap ∧ va_K (dC, dI) classes [] U ∧ va_D (fun _ => True) [(h_o, .inr (1, [.ref h_typed, .int v_length]))])) (va_Qi (fun (r : Int32) (u : Int32) => r = r0 ∧ u = u0) (fun (u : Int32) (t : State) => va_P (dC, dI) classes [(h_o, .inr (1, [.ref h_typed, .int u]))] t.heap ∧ va_K (dC, dI) classes [] t ∧ va_D (va_A [(h_o, .inr (1, [.ref h_typed, .int v_length]))] sz) [(h_o, .inr (1, [.ref h_typed, .int u]))]) (va_A [(h_o, .inr (1, [.ref h_typed, .int v_length]))] sz)) 0 0 (va_A [(h_o, .inr (1, [.ref h_typed, .int v_length]))] sz) := by
  refine Met.ofW (cc := b_L_removeLast) (maxL := 1) (ret := (some .boolean)) (by decide) rfl ?_
  intro p e s m args below meth c s₁ B hml hv
  obtain ⟨rfl, hsz, hP, hK, hD0⟩ := hv
  have hx := B.exec
  have hb := B.bytes
  have hr := B.returns
  have hts0 := atoms_spec (ws := w_L_removeLast) B.pre
  have hts : ∀ w ∈ lw_gd, w.before ([.ref h_o] : List Value).toArray s = true := fun w h9 => hts0 w (List.mem_cons_of_mem _ h9)
  have hown : s.vm.findClass R_L = some m.cls := findClass_of_methodNamed B.named
  have hlocks := B.notSynchronized
  subst hsz
  have hD := hD0.self (sz := s.heap.size)
  generalize hAe : va_A [(h_o, .inr (1, [.ref h_typed, .int v_length]))] s.heap.size = A at hD ⊢
  have hA : ∀ q : Nat, s.heap.size ≤ q → A q := fun q h9 => by rw [← hAe]; exact Or.inr h9
  obtain ⟨H, eH⟩ : ∃ H : Heap, H = s.heap := ⟨_, rfl⟩
  have hS : va_S A s.heap H [] := by rw [eH]; exact va_S.rf
  have hP : va_P (dC, dI) classes [(h_o, .inr (1, [.ref h_typed, .int v_length]))] H := by rw [eH]; exact hP
  refine W_gen (fun Q hQ => ?_)
  refine W_heap eH ?_
  clear eH
  have hl := lv_entry ([.ref h_o]) (n := 1) (Nat.le_of_ble_eq_true rfl)
  rw [lg_entry_eq]
  generalize (lg_sl ([.ref h_o]) ++ List.replicate (1 - (lg_sl ([.ref h_o])).length) Slot.unset).toArray = ls at hl ⊢
  have hl : lv_has ls 1 [(0, .ref h_o)] := hl
  unfold m_L_removeLast at h
  refine lv_aload_n hx hb d_L_removeLast_0 rfl (lv_at hl 0 rfl) ?_
  refine va_get (D := (dC, dI)) (ci := 1) (v := .int v_length) (C := R_L) (T := F_L) (N := 2) hx hb hts lay_L hown hK hP 0 rfl rfl 1 (by decide) (hts _ flk_L_15) (fun _ h9 => h9) rfl d_L_removeLast_1 ?_
  refine lv_if_ne (tgt := 9) hx hb d_L_removeLast_4 (by decide) (fun c_4 => ?_) (fun c_4 => ?_)
  · have h := of_neg h c_4
    refine lv_aload_n hx hb d_L_removeLast_9 rfl (lv_at hl 0 rfl) ?_
    refine lv_dup hx hb d_L_removeLast_10 rfl ?_
    refine va_get (D := (dC, dI)) (ci := 1) (v := .int v_length) (C := R_L) (T := F_L) (N := 2) hx hb hts lay_L hown hK hP 0 rfl rfl 1 (by decide) (hts _ flk_L_15) (fun _ h9 => h9) rfl d_L_removeLast_11 ?_
    refine lv_iconst (v := (nI 1)) hx hb d_L_removeLast_14 (by decide) ?_
    refine lv_isub hx hb d_L_removeLast_15 ?_
    refine va_put (D := (dC, dI)) (ci := 1) (v := .int (v_length - (nI 1))) (ty := .int) (C := R_L) (T := F_L) (N := 2) hx hb hts lay_L t_L t_L_ok n_L hown hK hP hD hS 0 rfl rfl 1 (by decide) (hts _ flk_L_15) (fun _ h9 => h9) rfl (by decide +kernel) rfl rfl (Nat.le_of_ble_eq_true rfl) d_L_removeLast_16 (fun H locs hP hD hS => ?_)
    have hP : va_P (dC, dI) classes [(h_o, .inr (1, [.ref h_typed, .int (v_length - (nI 1))]))] H := hP
    have hD : va_D A [(h_o, .inr (1, [.ref h_typed, .int (v_length - (nI 1))]))] := hD
    refine lv_iconst (v := (nI 1)) hx hb d_L_removeLast_19 (by decide) ?_
    rw [hQ]
    exact W.zret (v := (nI 1)) hx hb hr rfl (fun t ht hW => ⟨⟨(nI 1), v_length - (nI 1), rfl, Prod.mk.inj (Option.some.inj h), by rw [ht]; exact hP, va_K.moved hW.alike hK, hD⟩, hS.F ht⟩) hS.2.2 d_L_removeLast_20
  · have h := of_pos h c_4
    refine lv_iconst (v := (nI 0)) hx hb d_L_removeLast_7 (by decide) ?_
    rw [hQ]
    exact W.zret (v := (nI 0)) hx hb hr rfl (fun t ht hW => ⟨⟨(nI 0), v_length, rfl, Prod.mk.inj (Option.some.inj h), by rw [ht]; exact hP, va_K.moved hW.alike hK, hD⟩, hS.F ht⟩) hS.2.2 d_L_removeLast_8
set_option maxHeartbeats 4000000 in
set_option maxRecDepth 100000 in
theorem c_L_clear (l : Launch) (dC : Nat → ClassId) (dI : Nat → Nat → Nat) (h_o h_typed : Nat) (sz : Nat) (v_length : Int32) (u0 : Int32) (h : m_L_clear v_length = some u0) : Met l y_L_clear w_L_clear ({ frames := 0, cells := 0, slots := 0, locals := 0 } : Room) (va_Pc [.ref h_o] (fun U => U.heap.size = sz ∧ va_P (dC, dI) classes [(h_o, .inr (1, [.ref h_typed, .int v_length]))] U.heap ∧ va_K (dC, dI) classes [] U ∧ va_D (fun _ => True) [(h_o, .inr (1, [.ref h_typed, .int v_length]))])) (va_Qv (fun (u : Int32) => u = u0) (fun (u : Int32) (t : State) => va_P (dC, dI) classes [(h_o, .inr (1, [.ref h_typed, .int u]))] t.heap ∧ va_K (dC, dI) classes [] t ∧ va_D (va_A [(h_o, .inr (1, [.ref h_typed, .int v_length]))] sz) [(h_o, .inr (1, [.ref h_typed, .int u]))]) (va_A [(h_o, .inr (1, [.ref h_typed, .int v_length]))] sz)) 0 0 (va_A [(h_o, .inr (1, [.ref h_typed, .int v_length]))] sz) := by
  refine Met.ofW (cc := b_L_clear) (maxL := 1) (ret := none) (by decide) rfl ?_
  intro p e s m args below meth c s₁ B hml hv
  obtain ⟨rfl, hsz, hP, hK, hD0⟩ := hv
  have hx := B.exec
  have hb := B.bytes
  have hr := B.returns
  have hts0 := atoms_spec (ws := w_L_clear) B.pre
  have hts : ∀ w ∈ lw_gd, w.before ([.ref h_o] : List Value).toArray s = true := fun w h9 => hts0 w (List.mem_cons_of_mem _ h9)
  have hown : s.vm.findClass R_L = some m.cls := findClass_of_methodNamed B.named
  have hlocks := B.notSynchronized
  subst hsz
  have hD := hD0.self (sz := s.heap.size)
  generalize hAe : va_A [(h_o, .inr (1, [.ref h_typed, .int v_length]))] s.heap.size = A at hD ⊢
  have hA : ∀ q : Nat, s.heap.size ≤ q → A q := fun q h9 => by rw [← hAe]; exact Or.inr h9
  obtain ⟨H, eH⟩ : ∃ H : Heap, H = s.heap := ⟨_, rfl⟩
  have hS : va_S A s.heap H [] := by rw [eH]; exact va_S.rf
  have hP : va_P (dC, dI) classes [(h_o, .inr (1, [.ref h_typed, .int v_length]))] H := by rw [eH]; exact hP
  refine W_gen (fun Q hQ => ?_)
  refine W_heap eH ?_
  clear eH
  have hl := lv_entry ([.ref h_o]) (n := 1) (Nat.le_of_ble_eq_true rfl)
  rw [lg_entry_eq]
  generalize (lg_sl ([.ref h_o]) ++ List.replicate (1 - (lg_sl ([.ref h_o])).length) Slot.unset).toArray = ls at hl ⊢
  have hl : lv_has ls 1 [(0, .ref h_o)] := hl
  unfold m_L_clear at h
  refine lv_aload_n hx hb d_L_clear_0 rfl (lv_at hl 0 rfl) ?_
  refine lv_iconst (v := (nI 0)) hx hb d_L_clear_1 (by decide) ?_
  refine va_put (D := (dC, dI)) (ci := 1) (v := .int (nI 0)) (ty := .int) (C := R_L) (T := F_L) (N := 2) hx hb hts lay_L t_L t_L_ok n_L hown hK hP hD hS 0 rfl rfl 1 (by decide) (hts _ flk_L_15) (fun _ h9 => h9) rfl (by decide +kernel) rfl rfl (Nat.le_of_ble_eq_true rfl) d_L_clear_2 (fun H locs hP hD hS => ?_)
  have hP : va_P (dC, dI) classes [(h_o, .inr (1, [.ref h_typed, .int (nI 0)]))] H := hP
  have hD : va_D A [(h_o, .inr (1, [.ref h_typed, .int (nI 0)]))] := hD
  rw [hQ]
  exact W.vret hx hb hr (fun t ht hW => ⟨⟨(nI 0), rfl, Option.some.inj h, by rw [ht]; exact hP, va_K.moved hW.alike hK, hD⟩, hS.F ht⟩) hS.2.2 d_L_clear_5
set_option maxHeartbeats 4000000 in
set_option maxRecDepth 100000 in
theorem c_L_at (l : Launch) (dC : Nat → ClassId) (dI : Nat → Nat → Nat) (h_o h_typed : Nat) (k_typed : ClassId) (sz : Nat) (v_length : Int32) (v_typed : Nat → Int32) (x1 : Int32) (r0 : Int32) (u0 : Unit) (h : m_L_at v_length v_typed x1 = some (r0, u0)) : Met l y_L_at w_L_at ({ frames := 0, cells := 0, slots := 0, locals := 0 } : Room) (va_Pc [.ref h_o, .int x1] (fun U => U.heap.size = sz ∧ va_P (dC, dI) classes [(h_o, .inr (1, [.ref h_typed, .int v_length])), (h_typed, .inl (k_typed, 32, .inl v_typed))] U.heap ∧ va_K (dC, dI) classes [(k_typed, .char)] U ∧ va_D (fun _ => True) [(h_o, .inr (1, [.ref h_typed, .int v_length])), (h_typed, .inl (k_typed, 32, .inl v_typed))])) (va_Qi (fun (r : Int32) (u : Unit) => r = r0 ∧ u = u0) (fun (u : Unit) (t : State) => va_P (dC, dI) classes [(h_o, .inr (1, [.ref h_typed, .int v_length])), (h_typed, .inl (k_typed, 32, .inl v_typed))] t.heap ∧ va_K (dC, dI) classes [(k_typed, .char)] t ∧ va_D (va_A [(h_o, .inr (1, [.ref h_typed, .int v_length])), (h_typed, .inl (k_typed, 32, .inl v_typed))] sz) [(h_o, .inr (1, [.ref h_typed, .int v_length])), (h_typed, .inl (k_typed, 32, .inl v_typed))]) (va_A [(h_o, .inr (1, [.ref h_typed, .int v_length])), (h_typed, .inl (k_typed, 32, .inl v_typed))] sz)) 0 0 (va_A [(h_o, .inr (1, [.ref h_typed, .int v_length])), (h_typed, .inl (k_typed, 32, .inl v_typed))] sz) := by
  refine Met.ofW (cc := b_L_at) (maxL := 2) (ret := (some .char)) (by decide) rfl ?_
  intro p e s m args below meth c s₁ B hml hv
  obtain ⟨rfl, hsz, hP, hK, hD0⟩ := hv
  have hx := B.exec
  have hb := B.bytes
  have hr := B.returns
  have hts0 := atoms_spec (ws := w_L_at) B.pre
  have hts : ∀ w ∈ lw_gd, w.before ([.ref h_o, .int x1] : List Value).toArray s = true := fun w h9 => hts0 w (List.mem_cons_of_mem _ h9)
  have hown : s.vm.findClass R_L = some m.cls := findClass_of_methodNamed B.named
  have hlocks := B.notSynchronized
  subst hsz
  have hD := hD0.self (sz := s.heap.size)
  generalize hAe : va_A [(h_o, .inr (1, [.ref h_typed, .int v_length])), (h_typed, .inl (k_typed, 32, .inl v_typed))] s.heap.size = A at hD ⊢
  have hA : ∀ q : Nat, s.heap.size ≤ q → A q := fun q h9 => by rw [← hAe]; exact Or.inr h9
  obtain ⟨H, eH⟩ : ∃ H : Heap, H = s.heap := ⟨_, rfl⟩
  have hS : va_S A s.heap H [] := by rw [eH]; exact va_S.rf
  have hP : va_P (dC, dI) classes [(h_o, .inr (1, [.ref h_typed, .int v_length])), (h_typed, .inl (k_typed, 32, .inl v_typed))] H := by rw [eH]; exact hP
  refine W_gen (fun Q hQ => ?_)
  refine W_heap eH ?_
  clear eH
  have hl := lv_entry ([.ref h_o, .int x1]) (n := 2) (Nat.le_of_ble_eq_true rfl)
  rw [lg_entry_eq]
  generalize (lg_sl ([.ref h_o, .int x1]) ++ List.replicate (2 - (lg_sl ([.ref h_o, .int x1])).length) Slot.unset).toArray = ls at hl ⊢
  have hl : lv_has ls 2 [(0, .ref h_o), (1, .int x1)] := hl
  unfold m_L_at at h
  refine lv_iload_n hx hb d_L_at_0 rfl (lv_at hl 1 rfl) ?_
  refine lv_if_lt (tgt := 21) hx hb d_L_at_1 (by decide) (fun c_1 => ?_) (fun c_1 => ?_)
  · have h := of_pos h c_1
    refine lv_iconst (v := (nI 0)) hx hb d_L_at_21 (by decide) ?_
    rw [hQ]
    exact W.zret (v := (nI 0)) hx hb hr rfl (fun t ht hW => ⟨⟨(nI 0), (), rfl, Prod.mk.inj (Option.some.inj h), by rw [ht]; exact hP, va_K.moved hW.alike hK, hD⟩, hS.F ht⟩) hS.2.2 d_L_at_22
  · have h := of_neg h c_1
    refine lv_iload_n hx hb d_L_at_4 rfl (lv_at hl 1 rfl) ?_
    refine lv_aload_n hx hb d_L_at_5 rfl (lv_at hl 0 rfl) ?_
    refine va_get (D := (dC, dI)) (ci := 1) (v := .int v_length) (C := R_L) (T := F_L) (N := 2) hx hb hts lay_L hown hK hP 0 rfl rfl 1 (by decide) (hts _ flk_L_15) (fun _ h9 => h9) rfl d_L_at_6 ?_
    refine lv_icmp_ge (tgt := 21) hx hb d_L_at_9 (by decide) (fun c_9 => ?_) (fun c_9 => ?_)
    · have h := of_pos h c_9
      refine lv_iconst (v := (nI 0)) hx hb d_L_at_21 (by decide) ?_
      rw [hQ]
      exact W.zret (v := (nI 0)) hx hb hr rfl (fun t ht hW => ⟨⟨(nI 0), (), rfl, Prod.mk.inj (Option.some.inj h), by rw [ht]; exact hP, va_K.moved hW.alike hK, hD⟩, hS.F ht⟩) hS.2.2 d_L_at_22
    · have h := of_neg h c_9
      refine lv_aload_n hx hb d_L_at_12 rfl (lv_at hl 0 rfl) ?_
      refine va_get (D := (dC, dI)) (ci := 1) (v := .ref h_typed) (C := R_L) (T := F_L) (N := 2) hx hb hts lay_L hown hK hP 0 rfl rfl 0 (by decide) (hts _ flk_L_11) (fun _ h9 => h9) rfl d_L_at_13 ?_
      refine lv_iload_n hx hb d_L_at_16 rfl (lv_at hl 1 rfl) ?_
      obtain ⟨g_17, h⟩ := of_guard h
      refine va_cald hx hb hK hP 1 0 rfl rfl (inR_in g_17) d_L_at_17 ?_
      refine lv_goto (tgt := 22) hx hb d_L_at_18 (by decide) ?_
      obtain ⟨g_22, h⟩ := of_guard h
      rw [hQ]
      exact W.zret (v := v_typed x1.toNatClampNeg) hx hb hr (nrc g_22) (fun t ht hW => ⟨⟨v_typed x1.toNatClampNeg, (), rfl, Prod.mk.inj (Option.some.inj h), by rw [ht]; exact hP, va_K.moved hW.alike hK, hD⟩, hS.F ht⟩) hS.2.2 d_L_at_22
set_option maxHeartbeats 4000000 in
set_option maxRecDepth 100000 in
theorem c_L_form (l : Launch) (dC : Nat → ClassId) (dI : Nat → Nat → Nat) (h_o h_typed : Nat) (k_typed : ClassId) (tb : Nat) (ak av : Nat → Nat) (sz : Nat) (v_length : Int32) (v_typed : Nat → Int32) (r0 : Nat) (u0 : Unit) (h : m_L_form v_length v_typed = some (r0, u0)) : Met l y_L_form w_L_form ({ frames := 1, cells := 0, slots := 0, locals := 21 } : Room) (va_Pc [.ref h_o] (fun U => U.heap.size = sz ∧ va_P (dC, dI) classes [(h_o, .inr (1, [.ref h_typed, .int v_length])), (h_typed, .inl (k_typed, 32, .inl v_typed))] U.heap ∧ va_K (dC, dI) classes [(k_typed, .char)] U ∧ va_D (fun _ => True) [(h_o, .inr (1, [.ref h_typed, .int v_length])), (h_typed, .inl (k_typed, 32, .inl v_typed))] ∧ kw tb ak av (va_A [(h_o, .inr (1, [.ref h_typed, .int v_length])), (h_typed, .inl (k_typed, 32, .inl v_typed))] sz) U)) (va_Qr (fun (u : Unit) => u = u0) (fun (u : Unit) (a : Nat) (t : State) => a = ak r0 ∧ va_P (dC, dI) classes [(h_o, .inr (1, [.ref h_typed, .int v_length])), (h_typed, .inl (k_typed, 32, .inl v_typed))] t.heap ∧ va_K (dC, dI) classes [(k_typed, .char)] t ∧ va_D (va_A [(h_o, .inr (1, [.ref h_typed, .int v_length])), (h_typed, .inl (k_typed, 32, .inl v_typed))] sz) [(h_o, .inr (1, [.ref h_typed, .int v_length])), (h_typed, .inl (k_typed, 32, .inl v_typed))]) (va_A [(h_o, .inr (1, [.ref h_typed, .int v_length])), (h_typed, .inl (k_typed, 32, .inl v_typed))] sz)) 0 0 (va_A [(h_o, .inr (1, [.ref h_typed, .int v_length])), (h_typed, .inl (k_typed, 32, .inl v_typed))] sz) := by
  refine Met.ofW (cc := b_L_form) (maxL := 1) (ret := (some (.object "java/lang/String"))) (by decide) rfl ?_
  intro p e s m args below meth c s₁ B hml hv
  obtain ⟨rfl, hsz, hP, hK, hD0, hC⟩ := hv
  have hx := B.exec
  have hb := B.bytes
  have hr := B.returns
  have hts0 := atoms_spec (ws := w_L_form) B.pre
  have hts : ∀ w ∈ lw_gd, w.before ([.ref h_o] : List Value).toArray s = true := fun w h9 => hts0 w (List.mem_cons_of_mem _ h9)
  have hown : s.vm.findClass R_L = some m.cls := findClass_of_methodNamed B.named
  have hlocks := B.notSynchronized
  subst hsz
  have hD := hD0.self (sz := s.heap.size)
  generalize hAe : va_A [(h_o, .inr (1, [.ref h_typed, .int v_length])), (h_typed, .inl (k_typed, 32, .inl v_typed))] s.heap.size = A at hD hC ⊢
  have hA : ∀ q : Nat, s.heap.size ≤ q → A q := fun q h9 => by rw [← hAe]; exact Or.inr h9
  obtain ⟨H, eH⟩ : ∃ H : Heap, H = s.heap := ⟨_, rfl⟩
  have hS : va_S A s.heap H [] := by rw [eH]; exact va_S.rf
  have hP : va_P (dC, dI) classes [(h_o, .inr (1, [.ref h_typed, .int v_length])), (h_typed, .inl (k_typed, 32, .inl v_typed))] H := by rw [eH]; exact hP
  refine W_gen (fun Q hQ => ?_)
  refine W_heap eH ?_
  clear eH
  have hl := lv_entry ([.ref h_o]) (n := 1) (Nat.le_of_ble_eq_true rfl)
  rw [lg_entry_eq]
  generalize (lg_sl ([.ref h_o]) ++ List.replicate (1 - (lg_sl ([.ref h_o])).length) Slot.unset).toArray = ls at hl ⊢
  have hl : lv_has ls 1 [(0, .ref h_o)] := hl
  unfold m_L_form at h
  refine lv_aload_n hx hb d_L_form_0 rfl (lv_at hl 0 rfl) ?_
  refine lv_iconst (v := (nI 0)) hx hb d_L_form_1 (by decide) ?_
  have hPc := hP.sub (ws' := [(h_o, .inr (1, [.ref h_typed, .int v_length])), (h_typed, .inl (k_typed, 32, .inl v_typed))]) [0, 1] rfl
  have hDc := hD.sub (ws' := [(h_o, .inr (1, [.ref h_typed, .int v_length])), (h_typed, .inl (k_typed, 32, .inl v_typed))]) [0, 1] (by decide) rfl
  have hKc := hK.sub (tys' := [(k_typed, .char)]) [0] rfl
  have hFc := va_free (wc := [(h_o, .inr (1, [.ref h_typed, .int v_length])), (h_typed, .inl (k_typed, 32, .inl v_typed))]) hD hS hA [0, 1] rfl
  obtain ⟨v_2, hc_2, h⟩ := of_bind h
  refine va_calli (va_runV (As := [.int (nI 0)]) (rest := []) ⟨hx, hb, hml, hown, hts⟩ (c_L_at l dC dI h_o h_typed k_typed H.size v_length v_typed (nI 0) v_2.1 v_2.2 hc_2) (cwV 1 hts (gV mlk_L_39 ins_L_at sel_L_at ini_L cod_L_at) rfl rfl rfl (by decide +kernel) ⟨Nat.le_of_ble_eq_true rfl, Nat.le_of_ble_eq_true rfl⟩) ⟨fun a U g mk q => by obtain ⟨q0, q1, qP, qK, qD⟩ := q; exact ⟨q0, q1, qP, va_K.moved (u := U) (U := U.calling g mk a) (Vm.Alike.refl U.vm) qK, qD⟩, va_recv hKc hPc (ci := 1) (q0 := 0) rfl rfl, fun U hU hW => ⟨rfl, by rw [hU], by rw [hU]; exact hPc, va_K.moved hW.alike hKc, hDc.weaken (fun _ _ _ _ => trivial)⟩⟩ rfl rfl hl.1 rfl (lv_room (Nat.le_of_ble_eq_true rfl)) d_L_form_2 ⟨Nat.le_of_ble_eq_true rfl, Nat.le_of_ble_eq_true rfl⟩) hS (fun q _ h9 => hFc q h9) hFc (fun r_2 u t H1 locs ht hvm hw hB hz1 hk1 hS => ?_)
  obtain ⟨rfl, rfl⟩ := hw
  obtain ⟨hP1, hK1, hD1⟩ := hB
  rw [ht] at hP1
  obtain ⟨hP, hD⟩ := va_join (wr := []) (w1 := [(h_o, .inr (1, [.ref h_typed, .int v_length])), (h_typed, .inl (k_typed, 32, .inl v_typed))]) hP hD [0, 1] [] rfl rfl (by decide) (by decide) hk1 hFc hP1 hD1
  have hP := hP.sub (ws' := [(h_o, .inr (1, [.ref h_typed, .int v_length])), (h_typed, .inl (k_typed, 32, .inl v_typed))]) [0, 1] rfl
  have hD := hD.sub (ws' := [(h_o, .inr (1, [.ref h_typed, .int v_length])), (h_typed, .inl (k_typed, 32, .inl v_typed))]) [0, 1] (by decide) rfl
  generalize H1 = H at hP hS ⊢
  by_cases c_5_43 : v_2.1 = (nI 43)
  · have h := of_pos h c_5_43
    refine lv_lookup (tgt := 70) (off := 65) hx hb d_L_form_5 (by decide) (by rw [c_5_43]; decide) (by decide) ?_
    refine va_ldcS hx hb hown hC.str_L_62 d_L_form_70 ?_
    rw [hQ]
    exact W.aret hx hb hr (Or.inl ⟨_, rfl⟩) (Or.inr ⟨_, rfl⟩) (fun t ht hW => ⟨⟨(), _, rfl, (Prod.mk.inj (Option.some.inj h)).2, by rw [← (Prod.mk.inj (Option.some.inj h)).1], by rw [ht]; exact hP, va_K.moved hW.alike hK, hD⟩, hS.F ht⟩) hS.2.2 d_L_form_72
  have h := of_neg h c_5_43
  by_cases c_5_45 : v_2.1 = (nI 45)
  · have h := of_pos h c_5_45
    refine lv_lookup (tgt := 73) (off := 68) hx hb d_L_form_5 (by decide) (by rw [c_5_45]; decide) (by decide) ?_
    refine va_ldcS hx hb hown hC.str_L_64 d_L_form_73 ?_
    rw [hQ]
    exact W.aret hx hb hr (Or.inl ⟨_, rfl⟩) (Or.inr ⟨_, rfl⟩) (fun t ht hW => ⟨⟨(), _, rfl, (Prod.mk.inj (Option.some.inj h)).2, by rw [← (Prod.mk.inj (Option.some.inj h)).1], by rw [ht]; exact hP, va_K.moved hW.alike hK, hD⟩, hS.F ht⟩) hS.2.2 d_L_form_75
  have h := of_neg h c_5_45
  by_cases c_5_97 : v_2.1 = (nI 97)
  · have h := of_pos h c_5_97
    refine lv_lookup (tgt := 64) (off := 59) hx hb d_L_form_5 (by decide) (by rw [c_5_97]; decide) (by decide) ?_
    refine va_ldcS hx hb hown hC.str_L_58 d_L_form_64 ?_
    rw [hQ]
    exact W.aret hx hb hr (Or.inl ⟨_, rfl⟩) (Or.inr ⟨_, rfl⟩) (fun t ht hW => ⟨⟨(), _, rfl, (Prod.mk.inj (Option.some.inj h)).2, by rw [← (Prod.mk.inj (Option.some.inj h)).1], by rw [ht]; exact hP, va_K.moved hW.alike hK, hD⟩, hS.F ht⟩) hS.2.2 d_L_form_66
  have h := of_neg h c_5_97
  by_cases c_5_98 : v_2.1 = (nI 98)
  · have h := of_pos h c_5_98
    refine lv_lookup (tgt := 64) (off := 59) hx hb d_L_form_5 (by decide) (by rw [c_5_98]; decide) (by decide) ?_
    refine va_ldcS hx hb hown hC.str_L_58 d_L_form_64 ?_
    rw [hQ]
    exact W.aret hx hb hr (Or.inl ⟨_, rfl⟩) (Or.inr ⟨_, rfl⟩) (fun t ht hW => ⟨⟨(), _, rfl, (Prod.mk.inj (Option.some.inj h)).2, by rw [← (Prod.mk.inj (Option.some.inj h)).1], by rw [ht]; exact hP, va_K.moved hW.alike hK, hD⟩, hS.F ht⟩) hS.2.2 d_L_form_66
  have h := of_neg h c_5_98
  by_cases c_5_116 : v_2.1 = (nI 116)
  · have h := of_pos h c_5_116
    refine lv_lookup (tgt := 76) (off := 71) hx hb d_L_form_5 (by decide) (by rw [c_5_116]; decide) (by decide) ?_
    refine va_ldcS hx hb hown hC.str_L_66 d_L_form_76 ?_
    rw [hQ]
    exact W.aret hx hb hr (Or.inl ⟨_, rfl⟩) (Or.inr ⟨_, rfl⟩) (fun t ht hW => ⟨⟨(), _, rfl, (Prod.mk.inj (Option.some.inj h)).2, by rw [← (Prod.mk.inj (Option.some.inj h)).1], by rw [ht]; exact hP, va_K.moved hW.alike hK, hD⟩, hS.F ht⟩) hS.2.2 d_L_form_78
  have h := of_neg h c_5_116
  by_cases c_5_126 : v_2.1 = (nI 126)
  · have h := of_pos h c_5_126
    refine lv_lookup (tgt := 67) (off := 62) hx hb d_L_form_5 (by decide) (by rw [c_5_126]; decide) (by decide) ?_
    refine va_ldcS hx hb hown hC.str_L_60 d_L_form_67 ?_
    rw [hQ]
    exact W.aret hx hb hr (Or.inl ⟨_, rfl⟩) (Or.inr ⟨_, rfl⟩) (fun t ht hW => ⟨⟨(), _, rfl, (Prod.mk.inj (Option.some.inj h)).2, by rw [← (Prod.mk.inj (Option.some.inj h)).1], by rw [ht]; exact hP, va_K.moved hW.alike hK, hD⟩, hS.F ht⟩) hS.2.2 d_L_form_69
  have h := of_neg h c_5_126
  refine lv_lookup (tgt := 79) (off := 74) hx hb d_L_form_5 (by decide) (by refine (lv_osw c_5_43 (by decide)).trans ?_; refine (lv_osw c_5_45 (by decide)).trans ?_; refine (lv_osw c_5_97 (by decide)).trans ?_; refine (lv_osw c_5_98 (by decide)).trans ?_; refine (lv_osw c_5_116 (by decide)).trans ?_; refine (lv_osw c_5_126 (by decide)).trans ?_; rfl) (by decide) ?_
  refine va_ldcS hx hb hown hC.str_L_68 d_L_form_79 ?_
  rw [hQ]
  exact W.aret hx hb hr (Or.inl ⟨_, rfl⟩) (Or.inr ⟨_, rfl⟩) (fun t ht hW => ⟨⟨(), _, rfl, (Prod.mk.inj (Option.some.inj h)).2, by rw [← (Prod.mk.inj (Option.some.inj h)).1], by rw [ht]; exact hP, va_K.moved hW.alike hK, hD⟩, hS.F ht⟩) hS.2.2 d_L_form_81
set_option maxHeartbeats 4000000 in
set_option maxRecDepth 100000 in
theorem c_L_allows (l : Launch) (dC : Nat → ClassId) (dI : Nat → Nat → Nat) (sz : Nat)  (x0 : Int32) (x1 : Int32) (r0 : Int32) (u0 : Unit) (h : m_L_allows x0 x1 = some (r0, u0)) : Met l y_L_allows w_L_allows ({ frames := 0, cells := 0, slots := 0, locals := 0 } : Room) (va_Pc [.int x0, .int x1] (fun U => U.heap.size = sz ∧ va_P (dC, dI) classes [] U.heap ∧ va_K (dC, dI) classes [] U ∧ va_D (fun _ => True) [])) (va_Qi (fun (r : Int32) (u : Unit) => r = r0 ∧ u = u0) (fun (u : Unit) (t : State) => va_P (dC, dI) classes [] t.heap ∧ va_K (dC, dI) classes [] t ∧ va_D (va_A [] sz) []) (va_A [] sz)) 0 0 (va_A [] sz) := by
  refine Met.ofW (cc := b_L_allows) (maxL := 2) (ret := (some .boolean)) (by decide) rfl ?_
  intro p e s m args below meth c s₁ B hml hv
  obtain ⟨rfl, hsz, hP, hK, hD0⟩ := hv
  have hx := B.exec
  have hb := B.bytes
  have hr := B.returns
  have hts0 := atoms_spec (ws := w_L_allows) B.pre
  have hts : ∀ w ∈ lw_gd, w.before ([.int x0, .int x1] : List Value).toArray s = true := fun w h9 => hts0 w (List.mem_cons_of_mem _ h9)
  have hown : s.vm.findClass R_L = some m.cls := findClass_of_methodNamed B.named
  have hlocks := B.notSynchronized
  subst hsz
  have hD := hD0.self (sz := s.heap.size)
  generalize hAe : va_A [] s.heap.size = A at hD ⊢
  have hA : ∀ q : Nat, s.heap.size ≤ q → A q := fun q h9 => by rw [← hAe]; exact Or.inr h9
  obtain ⟨H, eH⟩ : ∃ H : Heap, H = s.heap := ⟨_, rfl⟩
  have hS : va_S A s.heap H [] := by rw [eH]; exact va_S.rf
  have hP : va_P (dC, dI) classes [] H := by rw [eH]; exact hP
  refine W_gen (fun Q hQ => ?_)
  refine W_heap eH ?_
  clear eH
  have hl := lv_entry ([.int x0, .int x1]) (n := 2) (Nat.le_of_ble_eq_true rfl)
  rw [lg_entry_eq]
  generalize (lg_sl ([.int x0, .int x1]) ++ List.replicate (2 - (lg_sl ([.int x0, .int x1])).length) Slot.unset).toArray = ls at hl ⊢
  have hl : lv_has ls 2 [(0, .int x0), (1, .int x1)] := hl
  unfold m_L_allows at h
  refine lv_iload_n hx hb d_L_allows_0 rfl (lv_at hl 0 rfl) ?_
  by_cases c_1_99 : x0 = (nI 99)
  · have h := of_pos h c_1_99
    refine lv_lookup (tgt := 86) (off := 85) hx hb d_L_allows_1 (by decide) (by rw [c_1_99]; decide) (by decide) ?_
    refine lv_iload_n hx hb d_L_allows_86 rfl (lv_at hl 1 rfl) ?_
    refine lv_bipush (v := (nI 48)) hx hb d_L_allows_87 (by decide) ?_
    refine lv_icmp_lt (tgt := 102) hx hb d_L_allows_89 (by decide) (fun c_89 => ?_) (fun c_89 => ?_)
    · have h := of_pos h c_89
      refine lv_iconst (v := (nI 0)) hx hb d_L_allows_102 (by decide) ?_
      rw [hQ]
      exact W.zret (v := (nI 0)) hx hb hr rfl (fun t ht hW => ⟨⟨(nI 0), (), rfl, Prod.mk.inj (Option.some.inj h), by rw [ht]; exact hP, va_K.moved hW.alike hK, hD⟩, hS.F ht⟩) hS.2.2 d_L_allows_103
    · have h := of_neg h c_89
      refine lv_iload_n hx hb d_L_allows_92 rfl (lv_at hl 1 rfl) ?_
      refine lv_bipush (v := (nI 51)) hx hb d_L_allows_93 (by decide) ?_
      refine lv_icmp_gt (tgt := 102) hx hb d_L_allows_95 (by decide) (fun c_95 => ?_) (fun c_95 => ?_)
      · have h := of_pos h c_95
        refine lv_iconst (v := (nI 0)) hx hb d_L_allows_102 (by decide) ?_
        rw [hQ]
        exact W.zret (v := (nI 0)) hx hb hr rfl (fun t ht hW => ⟨⟨(nI 0), (), rfl, Prod.mk.inj (Option.some.inj h), by rw [ht]; exact hP, va_K.moved hW.alike hK, hD⟩, hS.F ht⟩) hS.2.2 d_L_allows_103
      · have h := of_neg h c_95
        refine lv_iconst (v := (nI 1)) hx hb d_L_allows_98 (by decide) ?_
        refine lv_goto (tgt := 103) hx hb d_L_allows_99 (by decide) ?_
        rw [hQ]
        exact W.zret (v := (nI 1)) hx hb hr rfl (fun t ht hW => ⟨⟨(nI 1), (), rfl, Prod.mk.inj (Option.some.inj h), by rw [ht]; exact hP, va_K.moved hW.alike hK, hD⟩, hS.F ht⟩) hS.2.2 d_L_allows_103
  have h := of_neg h c_1_99
  by_cases c_1_102 : x0 = (nI 102)
  · have h := of_pos h c_1_102
    refine lv_lookup (tgt := 44) (off := 43) hx hb d_L_allows_1 (by decide) (by rw [c_1_102]; decide) (by decide) ?_
    refine lv_iload_n hx hb d_L_allows_44 rfl (lv_at hl 1 rfl) ?_
    refine lv_bipush (v := (nI 97)) hx hb d_L_allows_45 (by decide) ?_
    refine lv_icmp_eq (tgt := 56) hx hb d_L_allows_47 (by decide) (fun c_47 => ?_) (fun c_47 => ?_)
    · have h := of_pos h c_47
      refine lv_iconst (v := (nI 1)) hx hb d_L_allows_56 (by decide) ?_
      refine lv_goto (tgt := 61) hx hb d_L_allows_57 (by decide) ?_
      rw [hQ]
      exact W.zret (v := (nI 1)) hx hb hr rfl (fun t ht hW => ⟨⟨(nI 1), (), rfl, Prod.mk.inj (Option.some.inj h), by rw [ht]; exact hP, va_K.moved hW.alike hK, hD⟩, hS.F ht⟩) hS.2.2 d_L_allows_61
    · have h := of_neg h c_47
      refine lv_iload_n hx hb d_L_allows_50 rfl (lv_at hl 1 rfl) ?_
      refine lv_bipush (v := (nI 98)) hx hb d_L_allows_51 (by decide) ?_
      refine lv_icmp_ne (tgt := 60) hx hb d_L_allows_53 (by decide) (fun c_53 => ?_) (fun c_53 => ?_)
      · have h := of_neg h c_53
        refine lv_iconst (v := (nI 0)) hx hb d_L_allows_60 (by decide) ?_
        rw [hQ]
        exact W.zret (v := (nI 0)) hx hb hr rfl (fun t ht hW => ⟨⟨(nI 0), (), rfl, Prod.mk.inj (Option.some.inj h), by rw [ht]; exact hP, va_K.moved hW.alike hK, hD⟩, hS.F ht⟩) hS.2.2 d_L_allows_61
      · have h := of_pos h c_53
        refine lv_iconst (v := (nI 1)) hx hb d_L_allows_56 (by decide) ?_
        refine lv_goto (tgt := 61) hx hb d_L_allows_57 (by decide) ?_
        rw [hQ]
        exact W.zret (v := (nI 1)) hx hb hr rfl (fun t ht hW => ⟨⟨(nI 1), (), rfl, Prod.mk.inj (Option.some.inj h), by rw [ht]; exact hP, va_K.moved hW.alike hK, hD⟩, hS.F ht⟩) hS.2.2 d_L_allows_61
  have h := of_neg h c_1_102
  by_cases c_1_114 : x0 = (nI 114)
  · have h := of_pos h c_1_114
    refine lv_lookup (tgt := 62) (off := 61) hx hb d_L_allows_1 (by decide) (by rw [c_1_114]; decide) (by decide) ?_
    refine lv_iload_n hx hb d_L_allows_62 rfl (lv_at hl 1 rfl) ?_
    refine lv_bipush (v := (nI 97)) hx hb d_L_allows_63 (by decide) ?_
    refine lv_icmp_eq (tgt := 80) hx hb d_L_allows_65 (by decide) (fun c_65 => ?_) (fun c_65 => ?_)
    · have h := of_pos h c_65
      refine lv_iconst (v := (nI 1)) hx hb d_L_allows_80 (by decide) ?_
      refine lv_goto (tgt := 85) hx hb d_L_allows_81 (by decide) ?_
      rw [hQ]
      exact W.zret (v := (nI 1)) hx hb hr rfl (fun t ht hW => ⟨⟨(nI 1), (), rfl, Prod.mk.inj (Option.some.inj h), by rw [ht]; exact hP, va_K.moved hW.alike hK, hD⟩, hS.F ht⟩) hS.2.2 d_L_allows_85
    · have h := of_neg h c_65
      refine lv_iload_n hx hb d_L_allows_68 rfl (lv_at hl 1 rfl) ?_
      refine lv_bipush (v := (nI 98)) hx hb d_L_allows_69 (by decide) ?_
      refine lv_icmp_eq (tgt := 80) hx hb d_L_allows_71 (by decide) (fun c_71 => ?_) (fun c_71 => ?_)
      · have h := of_pos h c_71
        refine lv_iconst (v := (nI 1)) hx hb d_L_allows_80 (by decide) ?_
        refine lv_goto (tgt := 85) hx hb d_L_allows_81 (by decide) ?_
        rw [hQ]
        exact W.zret (v := (nI 1)) hx hb hr rfl (fun t ht hW => ⟨⟨(nI 1), (), rfl, Prod.mk.inj (Option.some.inj h), by rw [ht]; exact hP, va_K.moved hW.alike hK, hD⟩, hS.F ht⟩) hS.2.2 d_L_allows_85
      · have h := of_neg h c_71
        refine lv_iload_n hx hb d_L_allows_74 rfl (lv_at hl 1 rfl) ?_
        refine lv_bipush (v := (nI 116)) hx hb d_L_allows_75 (by decide) ?_
        refine lv_icmp_ne (tgt := 84) hx hb d_L_allows_77 (by decide) (fun c_77 => ?_) (fun c_77 => ?_)
        · have h := of_neg h c_77
          refine lv_iconst (v := (nI 0)) hx hb d_L_allows_84 (by decide) ?_
          rw [hQ]
          exact W.zret (v := (nI 0)) hx hb hr rfl (fun t ht hW => ⟨⟨(nI 0), (), rfl, Prod.mk.inj (Option.some.inj h), by rw [ht]; exact hP, va_K.moved hW.alike hK, hD⟩, hS.F ht⟩) hS.2.2 d_L_allows_85
        · have h := of_pos h c_77
          refine lv_iconst (v := (nI 1)) hx hb d_L_allows_80 (by decide) ?_
          refine lv_goto (tgt := 85) hx hb d_L_allows_81 (by decide) ?_
          rw [hQ]
          exact W.zret (v := (nI 1)) hx hb hr rfl (fun t ht hW => ⟨⟨(nI 1), (), rfl, Prod.mk.inj (Option.some.inj h), by rw [ht]; exact hP, va_K.moved hW.alike hK, hD⟩, hS.F ht⟩) hS.2.2 d_L_allows_85
  have h := of_neg h c_1_114
  by_cases c_1_118 : x0 = (nI 118)
  · have h := of_pos h c_1_118
    refine lv_lookup (tgt := 104) (off := 103) hx hb d_L_allows_1 (by decide) (by rw [c_1_118]; decide) (by decide) ?_
    refine lv_iload_n hx hb d_L_allows_104 rfl (lv_at hl 1 rfl) ?_
    refine lv_bipush (v := (nI 88)) hx hb d_L_allows_105 (by decide) ?_
    refine lv_icmp_eq (tgt := 122) hx hb d_L_allows_107 (by decide) (fun c_107 => ?_) (fun c_107 => ?_)
    · have h := of_pos h c_107
      refine lv_iconst (v := (nI 1)) hx hb d_L_allows_122 (by decide) ?_
      refine lv_goto (tgt := 127) hx hb d_L_allows_123 (by decide) ?_
      rw [hQ]
      exact W.zret (v := (nI 1)) hx hb hr rfl (fun t ht hW => ⟨⟨(nI 1), (), rfl, Prod.mk.inj (Option.some.inj h), by rw [ht]; exact hP, va_K.moved hW.alike hK, hD⟩, hS.F ht⟩) hS.2.2 d_L_allows_127
    · have h := of_neg h c_107
      refine lv_iload_n hx hb d_L_allows_110 rfl (lv_at hl 1 rfl) ?_
      refine lv_bipush (v := (nI 89)) hx hb d_L_allows_111 (by decide) ?_
      refine lv_icmp_eq (tgt := 122) hx hb d_L_allows_113 (by decide) (fun c_113 => ?_) (fun c_113 => ?_)
      · have h := of_pos h c_113
        refine lv_iconst (v := (nI 1)) hx hb d_L_allows_122 (by decide) ?_
        refine lv_goto (tgt := 127) hx hb d_L_allows_123 (by decide) ?_
        rw [hQ]
        exact W.zret (v := (nI 1)) hx hb hr rfl (fun t ht hW => ⟨⟨(nI 1), (), rfl, Prod.mk.inj (Option.some.inj h), by rw [ht]; exact hP, va_K.moved hW.alike hK, hD⟩, hS.F ht⟩) hS.2.2 d_L_allows_127
      · have h := of_neg h c_113
        refine lv_iload_n hx hb d_L_allows_116 rfl (lv_at hl 1 rfl) ?_
        refine lv_bipush (v := (nI 90)) hx hb d_L_allows_117 (by decide) ?_
        refine lv_icmp_ne (tgt := 126) hx hb d_L_allows_119 (by decide) (fun c_119 => ?_) (fun c_119 => ?_)
        · have h := of_neg h c_119
          refine lv_iconst (v := (nI 0)) hx hb d_L_allows_126 (by decide) ?_
          rw [hQ]
          exact W.zret (v := (nI 0)) hx hb hr rfl (fun t ht hW => ⟨⟨(nI 0), (), rfl, Prod.mk.inj (Option.some.inj h), by rw [ht]; exact hP, va_K.moved hW.alike hK, hD⟩, hS.F ht⟩) hS.2.2 d_L_allows_127
        · have h := of_pos h c_119
          refine lv_iconst (v := (nI 1)) hx hb d_L_allows_122 (by decide) ?_
          refine lv_goto (tgt := 127) hx hb d_L_allows_123 (by decide) ?_
          rw [hQ]
          exact W.zret (v := (nI 1)) hx hb hr rfl (fun t ht hW => ⟨⟨(nI 1), (), rfl, Prod.mk.inj (Option.some.inj h), by rw [ht]; exact hP, va_K.moved hW.alike hK, hD⟩, hS.F ht⟩) hS.2.2 d_L_allows_127
  have h := of_neg h c_1_118
  refine lv_lookup (tgt := 128) (off := 127) hx hb d_L_allows_1 (by decide) (by refine (lv_osw c_1_99 (by decide)).trans ?_; refine (lv_osw c_1_102 (by decide)).trans ?_; refine (lv_osw c_1_114 (by decide)).trans ?_; refine (lv_osw c_1_118 (by decide)).trans ?_; rfl) (by decide) ?_
  refine lv_iload_n hx hb d_L_allows_128 rfl (lv_at hl 1 rfl) ?_
  refine lv_iload_n hx hb d_L_allows_129 rfl (lv_at hl 0 rfl) ?_
  refine lv_icmp_ne (tgt := 137) hx hb d_L_allows_130 (by decide) (fun c_130 => ?_) (fun c_130 => ?_)
  · have h := of_neg h c_130
    refine lv_iconst (v := (nI 0)) hx hb d_L_allows_137 (by decide) ?_
    rw [hQ]
    exact W.zret (v := (nI 0)) hx hb hr rfl (fun t ht hW => ⟨⟨(nI 0), (), rfl, Prod.mk.inj (Option.some.inj h), by rw [ht]; exact hP, va_K.moved hW.alike hK, hD⟩, hS.F ht⟩) hS.2.2 d_L_allows_138
  · have h := of_pos h c_130
    refine lv_iconst (v := (nI 1)) hx hb d_L_allows_133 (by decide) ?_
    refine lv_goto (tgt := 138) hx hb d_L_allows_134 (by decide) ?_
    rw [hQ]
    exact W.zret (v := (nI 1)) hx hb hr rfl (fun t ht hW => ⟨⟨(nI 1), (), rfl, Prod.mk.inj (Option.some.inj h), by rw [ht]; exact hP, va_K.moved hW.alike hK, hD⟩, hS.F ht⟩) hS.2.2 d_L_allows_138
set_option maxHeartbeats 4000000 in
set_option maxRecDepth 100000 in
theorem c_L_begunStatement (l : Launch) (dC : Nat → ClassId) (dI : Nat → Nat → Nat) (h_o h_typed : Nat) (k_typed : ClassId) (tb : Nat) (ak av : Nat → Nat) (sz : Nat) (v_length : Int32) (v_typed : Nat → Int32) (r0 : Int32) (u0 : Unit) (h : m_L_begunStatement v_length v_typed = some (r0, u0)) : Met l y_L_begunStatement w_L_begunStatement ({ frames := 4, cells := 0, slots := 0, locals := 85 } : Room) (va_Pc [.ref h_o] (fun U => U.heap.size = sz ∧ va_P (dC, dI) classes [(h_o, .inr (1, [.ref h_typed, .int v_length])), (h_typed, .inl (k_typed, 32, .inl v_typed))] U.heap ∧ va_K (dC, dI) classes [(k_typed, .char)] U ∧ va_D (fun _ => True) [(h_o, .inr (1, [.ref h_typed, .int v_length])), (h_typed, .inl (k_typed, 32, .inl v_typed))] ∧ kw tb ak av (va_A [(h_o, .inr (1, [.ref h_typed, .int v_length])), (h_typed, .inl (k_typed, 32, .inl v_typed))] sz) U)) (va_Qi (fun (r : Int32) (u : Unit) => r = r0 ∧ u = u0) (fun (u : Unit) (t : State) => va_P (dC, dI) classes [(h_o, .inr (1, [.ref h_typed, .int v_length])), (h_typed, .inl (k_typed, 32, .inl v_typed))] t.heap ∧ va_K (dC, dI) classes [(k_typed, .char)] t ∧ va_D (va_A [(h_o, .inr (1, [.ref h_typed, .int v_length])), (h_typed, .inl (k_typed, 32, .inl v_typed))] sz) [(h_o, .inr (1, [.ref h_typed, .int v_length])), (h_typed, .inl (k_typed, 32, .inl v_typed))]) (va_A [(h_o, .inr (1, [.ref h_typed, .int v_length])), (h_typed, .inl (k_typed, 32, .inl v_typed))] sz)) 0 0 (va_A [(h_o, .inr (1, [.ref h_typed, .int v_length])), (h_typed, .inl (k_typed, 32, .inl v_typed))] sz) := by
  refine Met.ofW (cc := b_L_begunStatement) (maxL := 3) (ret := (some .int)) (by decide) rfl ?_
  intro p e s m args below meth c s₁ B hml hv
  obtain ⟨rfl, hsz, hP, hK, hD0, hC⟩ := hv
  have hx := B.exec
  have hb := B.bytes
  have hr := B.returns
  have hts0 := atoms_spec (ws := w_L_begunStatement) B.pre
  have hts : ∀ w ∈ lw_gd, w.before ([.ref h_o] : List Value).toArray s = true := fun w h9 => hts0 w (List.mem_cons_of_mem _ h9)
  have hown : s.vm.findClass R_L = some m.cls := findClass_of_methodNamed B.named
  have hlocks := B.notSynchronized
  subst hsz
  have hD := hD0.self (sz := s.heap.size)
  generalize hAe : va_A [(h_o, .inr (1, [.ref h_typed, .int v_length])), (h_typed, .inl (k_typed, 32, .inl v_typed))] s.heap.size = A at hD hC ⊢
  have hA : ∀ q : Nat, s.heap.size ≤ q → A q := fun q h9 => by rw [← hAe]; exact Or.inr h9
  obtain ⟨H, eH⟩ : ∃ H : Heap, H = s.heap := ⟨_, rfl⟩
  have hS : va_S A s.heap H [] := by rw [eH]; exact va_S.rf
  have hP : va_P (dC, dI) classes [(h_o, .inr (1, [.ref h_typed, .int v_length])), (h_typed, .inl (k_typed, 32, .inl v_typed))] H := by rw [eH]; exact hP
  refine W_gen (fun Q hQ => ?_)
  refine W_heap eH ?_
  clear eH
  have hl := lv_entry ([.ref h_o]) (n := 3) (Nat.le_of_ble_eq_true rfl)
  rw [lg_entry_eq]
  generalize (lg_sl ([.ref h_o]) ++ List.replicate (3 - (lg_sl ([.ref h_o])).length) Slot.unset).toArray = ls at hl ⊢
  have hl : lv_has ls 3 [(0, .ref h_o)] := hl
  have J_7 : ∀ (n : Nat) (z1 : Nat) (z2 : Int32), m_L_begunStatement_7 v_length v_typed n z1 z2 = some (r0, u0) → ∀ (H : Heap) (locs : List Loc), va_P (dC, dI) classes [(h_o, .inr (1, [.ref h_typed, .int v_length])), (h_typed, .inl (k_typed, 32, .inl v_typed))] H → va_D A [(h_o, .inr (1, [.ref h_typed, .int v_length])), (h_typed, .inl (k_typed, 32, .inl v_typed))] → va_S A s.heap H locs → ∀ (ls : Array Slot), lv_has ls 3 [(0, .ref h_o), (1, .ref (ak z1)), (2, .int z2)] → W p l e (headSpec w_L_begunStatement ({ frames := 4, cells := 0, slots := 0, locals := 85 } : Room)).room s m ([.ref h_o] : List Value).toArray below meth c H locs 0 0 Q (F0 m 7 ls []) := by
    intro n
    induction n with
    | zero => intro z1 z2 h; exact absurd h (by unfold m_L_begunStatement_7; exact fun h9 => nomatch h9)
    | succ n ih =>
      intro z1 z2 h H locs hP hD hS ls hl
      unfold m_L_begunStatement_7 at h
      refine lv_iload_n hx hb d_L_begunStatement_7 rfl (lv_at hl 2 rfl) ?_
      refine lv_aload_n hx hb d_L_begunStatement_8 rfl (lv_at hl 0 rfl) ?_
      refine va_get (D := (dC, dI)) (ci := 1) (v := .int v_length) (C := R_L) (T := F_L) (N := 2) hx hb hts lay_L hown hK hP 0 rfl rfl 1 (by decide) (hts _ flk_L_15) (fun _ h9 => h9) rfl d_L_begunStatement_9 ?_
      refine lv_icmp_ge (tgt := 46) hx hb d_L_begunStatement_12 (by decide) (fun c_12 => ?_) (fun c_12 => ?_)
      · have h := of_pos h c_12
        refine lv_iload_n hx hb d_L_begunStatement_46 rfl (lv_at hl 2 rfl) ?_
        rw [hQ]
        exact W.iret (v := z2) hx hb hr (fun t ht hW => ⟨⟨z2, (), rfl, Prod.mk.inj (Option.some.inj h), by rw [ht]; exact hP, va_K.moved hW.alike hK, hD⟩, hS.F ht⟩) hS.2.2 d_L_begunStatement_47
      · have h := of_neg h c_12
        refine lv_iload_n hx hb d_L_begunStatement_15 rfl (lv_at hl 2 rfl) ?_
        refine lv_aload_n hx hb d_L_begunStatement_16 rfl (lv_at hl 1 rfl) ?_
        have hPc := hP.sub (ws' := []) [] rfl
        have hDc := hD.sub (ws' := []) [] (by decide) rfl
        have hKc := hK.sub (tys' := []) [] rfl
        have hFc := va_free (wc := []) hD hS hA [] rfl
        obtain ⟨gq_17, h⟩ := of_guard h
        obtain ⟨v_17, hc_17, h⟩ := of_bind h
        skip
        refine va_calli (va_runV (As := []) (rest := [.int z2]) ⟨hx, hb, hml, hown, hts⟩ (c_S_length l dC dI tb ak av H.size z1 v_17.1 v_17.2 hc_17) (cwV 0 hts (gV mlk_L_23 ins_S_length sel_S_length ini_S cod_S_length) rfl rfl rfl (by decide +kernel) ⟨Nat.le_of_ble_eq_true rfl, Nat.le_of_ble_eq_true rfl⟩) ⟨fun a U g mk q => by obtain ⟨q0, q1, qP, qK, qD, qC⟩ := q; exact ⟨q0, q1, qP, va_K.moved (u := U) (U := U.calling g mk a) (Vm.Alike.refl U.vm) qK, qD, kw_blind qC⟩, hC.rcv (inN_lt gq_17) hS, fun U hU hW => ⟨rfl, by rw [hU], by rw [hU]; exact hPc, va_K.moved hW.alike hKc, hDc.weaken (fun _ _ _ _ => trivial), kw_call hC hS hFc hU hW⟩⟩ rfl rfl hl.1 rfl (lv_room (Nat.le_of_ble_eq_true rfl)) d_L_begunStatement_17 ⟨Nat.le_of_ble_eq_true rfl, Nat.le_of_ble_eq_true rfl⟩) hS (fun q _ h9 => hFc q h9) hFc (fun r_17 u t H1 locs ht hvm hw hB hz1 hk1 hS => ?_)
        obtain ⟨rfl, rfl⟩ := hw
        obtain ⟨hP1, hK1, hD1⟩ := hB
        rw [ht] at hP1
        obtain ⟨hP, hD⟩ := va_join (wr := [(h_o, .inr (1, [.ref h_typed, .int v_length])), (h_typed, .inl (k_typed, 32, .inl v_typed))]) (w1 := []) hP hD [] [0, 1] rfl rfl (by decide) (by decide) hk1 hFc hP1 hD1
        have hP := hP.sub (ws' := [(h_o, .inr (1, [.ref h_typed, .int v_length])), (h_typed, .inl (k_typed, 32, .inl v_typed))]) [0, 1] rfl
        have hD := hD.sub (ws' := [(h_o, .inr (1, [.ref h_typed, .int v_length])), (h_typed, .inl (k_typed, 32, .inl v_typed))]) [0, 1] (by decide) rfl
        generalize H1 = H at hP hS ⊢
        refine lv_icmp_ge (tgt := 46) hx hb d_L_begunStatement_20 (by decide) (fun c_20 => ?_) (fun c_20 => ?_)
        · have h := of_pos h c_20
          refine lv_iload_n hx hb d_L_begunStatement_46 rfl (lv_at hl 2 rfl) ?_
          rw [hQ]
          exact W.iret (v := z2) hx hb hr (fun t ht hW => ⟨⟨z2, (), rfl, Prod.mk.inj (Option.some.inj h), by rw [ht]; exact hP, va_K.moved hW.alike hK, hD⟩, hS.F ht⟩) hS.2.2 d_L_begunStatement_47
        · have h := of_neg h c_20
          refine lv_aload_n hx hb d_L_begunStatement_23 rfl (lv_at hl 1 rfl) ?_
          refine lv_iload_n hx hb d_L_begunStatement_24 rfl (lv_at hl 2 rfl) ?_
          have hPc := hP.sub (ws' := []) [] rfl
          have hDc := hD.sub (ws' := []) [] (by decide) rfl
          have hKc := hK.sub (tys' := []) [] rfl
          have hFc := va_free (wc := []) hD hS hA [] rfl
          obtain ⟨gq_25, h⟩ := of_guard h
          obtain ⟨v_25, hc_25, h⟩ := of_bind h
          skip
          refine va_calli (va_runV (As := [.int z2]) (rest := []) ⟨hx, hb, hml, hown, hts⟩ (c_S_charAt l dC dI tb ak av H.size z1 z2 v_25.1 v_25.2 hc_25) (cwV 1 hts (gV mlk_L_28 ins_S_charAt sel_S_charAt ini_S cod_S_charAt) rfl rfl rfl (by decide +kernel) ⟨Nat.le_of_ble_eq_true rfl, Nat.le_of_ble_eq_true rfl⟩) ⟨fun a U g mk q => by obtain ⟨q0, q1, qP, qK, qD, qC⟩ := q; exact ⟨q0, q1, qP, va_K.moved (u := U) (U := U.calling g mk a) (Vm.Alike.refl U.vm) qK, qD, kw_blind qC⟩, hC.rcv (inN_lt gq_25) hS, fun U hU hW => ⟨rfl, by rw [hU], by rw [hU]; exact hPc, va_K.moved hW.alike hKc, hDc.weaken (fun _ _ _ _ => trivial), kw_call hC hS hFc hU hW⟩⟩ rfl rfl hl.1 rfl (lv_room (Nat.le_of_ble_eq_true rfl)) d_L_begunStatement_25 ⟨Nat.le_of_ble_eq_true rfl, Nat.le_of_ble_eq_true rfl⟩) hS (fun q _ h9 => hFc q h9) hFc (fun r_25 u t H1 locs ht hvm hw hB hz1 hk1 hS => ?_)
          obtain ⟨rfl, rfl⟩ := hw
          obtain ⟨hP1, hK1, hD1⟩ := hB
          rw [ht] at hP1
          obtain ⟨hP, hD⟩ := va_join (wr := [(h_o, .inr (1, [.ref h_typed, .int v_length])), (h_typed, .inl (k_typed, 32, .inl v_typed))]) (w1 := []) hP hD [] [0, 1] rfl rfl (by decide) (by decide) hk1 hFc hP1 hD1
          have hP := hP.sub (ws' := [(h_o, .inr (1, [.ref h_typed, .int v_length])), (h_typed, .inl (k_typed, 32, .inl v_typed))]) [0, 1] rfl
          have hD := hD.sub (ws' := [(h_o, .inr (1, [.ref h_typed, .int v_length])), (h_typed, .inl (k_typed, 32, .inl v_typed))]) [0, 1] (by decide) rfl
          generalize H1 = H at hP hS ⊢
          refine lv_aload_n hx hb d_L_begunStatement_28 rfl (lv_at hl 0 rfl) ?_
          refine va_get (D := (dC, dI)) (ci := 1) (v := .ref h_typed) (C := R_L) (T := F_L) (N := 2) hx hb hts lay_L hown hK hP 0 rfl rfl 0 (by decide) (hts _ flk_L_11) (fun _ h9 => h9) rfl d_L_begunStatement_29 ?_
          refine lv_iload_n hx hb d_L_begunStatement_32 rfl (lv_at hl 2 rfl) ?_
          obtain ⟨g_33, h⟩ := of_guard h
          refine va_cald hx hb hK hP 1 0 rfl rfl (inR_in g_33) d_L_begunStatement_33 ?_
          have hPc := hP.sub (ws' := []) [] rfl
          have hDc := hD.sub (ws' := []) [] (by decide) rfl
          have hKc := hK.sub (tys' := []) [] rfl
          have hFc := va_free (wc := []) hD hS hA [] rfl
          obtain ⟨v_34, hc_34, h⟩ := of_bind h
          refine va_calli (va_runS (As := [.int v_25.1, .int (v_typed z2.toNatClampNeg)]) (rest := []) ⟨hx, hb, hml, hown, hts⟩ (c_L_allows l dC dI H.size v_25.1 (v_typed z2.toNatClampNeg) v_34.1 v_34.2 hc_34) (va_cwS 2 hts (gS mlk_L_32 sta_L_allows ini_L cod_L_allows) rfl rfl rfl (by decide +kernel) ⟨Nat.le_of_ble_eq_true rfl, Nat.le_of_ble_eq_true rfl⟩) ⟨fun a U g mk q => by obtain ⟨q0, q1, qP, qK, qD⟩ := q; exact ⟨q0, q1, qP, va_K.moved (u := U) (U := U.calling g mk a) (Vm.Alike.refl U.vm) qK, qD⟩, fun U hU hW => ⟨rfl, by rw [hU], by rw [hU]; exact hPc, va_K.moved hW.alike hKc, hDc.weaken (fun _ _ _ _ => trivial)⟩⟩ rfl rfl hl.1 rfl (lv_room (Nat.le_of_ble_eq_true rfl)) d_L_begunStatement_34 ⟨Nat.le_of_ble_eq_true rfl, Nat.le_of_ble_eq_true rfl⟩) hS (fun q _ h9 => hFc q h9) hFc (fun r_34 u t H1 locs ht hvm hw hB hz1 hk1 hS => ?_)
          obtain ⟨rfl, rfl⟩ := hw
          obtain ⟨hP1, hK1, hD1⟩ := hB
          rw [ht] at hP1
          obtain ⟨hP, hD⟩ := va_join (wr := [(h_o, .inr (1, [.ref h_typed, .int v_length])), (h_typed, .inl (k_typed, 32, .inl v_typed))]) (w1 := []) hP hD [] [0, 1] rfl rfl (by decide) (by decide) hk1 hFc hP1 hD1
          have hP := hP.sub (ws' := [(h_o, .inr (1, [.ref h_typed, .int v_length])), (h_typed, .inl (k_typed, 32, .inl v_typed))]) [0, 1] rfl
          have hD := hD.sub (ws' := [(h_o, .inr (1, [.ref h_typed, .int v_length])), (h_typed, .inl (k_typed, 32, .inl v_typed))]) [0, 1] (by decide) rfl
          generalize H1 = H at hP hS ⊢
          refine lv_if_eq (tgt := 46) hx hb d_L_begunStatement_37 (by decide) (fun c_37 => ?_) (fun c_37 => ?_)
          · have h := of_pos h c_37
            refine lv_iload_n hx hb d_L_begunStatement_46 rfl (lv_at hl 2 rfl) ?_
            rw [hQ]
            exact W.iret (v := z2) hx hb hr (fun t ht hW => ⟨⟨z2, (), rfl, Prod.mk.inj (Option.some.inj h), by rw [ht]; exact hP, va_K.moved hW.alike hK, hD⟩, hS.F ht⟩) hS.2.2 d_L_begunStatement_47
          · have h := of_neg h c_37
            refine lv_iinc (v := z2 + (nI 1)) (lv' := [(2, .int (z2 + (nI 1))), (0, .ref h_o), (1, .ref (ak z1))]) hx hb d_L_begunStatement_40 hl (k := 2) rfl rfl (by decide) rfl (fun ls hl => ?_)
            refine lv_goto (tgt := 7) hx hb d_L_begunStatement_43 (by decide) ?_
            exact ih z1 (z2 + (nI 1)) h _ _ hP hD hS ls (lv_sub hl [1, 2, 0] rfl)
  unfold m_L_begunStatement at h
  refine lv_aload_n hx hb d_L_begunStatement_0 rfl (lv_at hl 0 rfl) ?_
  have hPc := hP.sub (ws' := [(h_o, .inr (1, [.ref h_typed, .int v_length])), (h_typed, .inl (k_typed, 32, .inl v_typed))]) [0, 1] rfl
  have hDc := hD.sub (ws' := [(h_o, .inr (1, [.ref h_typed, .int v_length])), (h_typed, .inl (k_typed, 32, .inl v_typed))]) [0, 1] (by decide) rfl
  have hKc := hK.sub (tys' := [(k_typed, .char)]) [0] rfl
  have hFc := va_free (wc := [(h_o, .inr (1, [.ref h_typed, .int v_length])), (h_typed, .inl (k_typed, 32, .inl v_typed))]) hD hS hA [0, 1] rfl
  obtain ⟨v_1, hc_1, h⟩ := of_bind h
  refine va_callr (va_runV (As := []) (rest := []) ⟨hx, hb, hml, hown, hts⟩ (c_L_form l dC dI h_o h_typed k_typed tb ak av H.size v_length v_typed v_1.1 v_1.2 hc_1) (cwV 0 hts (gV mlk_L_19 ins_L_form sel_L_form ini_L cod_L_form) rfl rfl rfl (by decide +kernel) ⟨Nat.le_of_ble_eq_true rfl, Nat.le_of_ble_eq_true rfl⟩) ⟨fun a U g mk q => by obtain ⟨q0, q1, qP, qK, qD, qC⟩ := q; exact ⟨q0, q1, qP, va_K.moved (u := U) (U := U.calling g mk a) (Vm.Alike.refl U.vm) qK, qD, kw_blind qC⟩, va_recv hKc hPc (ci := 1) (q0 := 0) rfl rfl, fun U hU hW => ⟨rfl, by rw [hU], by rw [hU]; exact hPc, va_K.moved hW.alike hKc, hDc.weaken (fun _ _ _ _ => trivial), kw_call hC hS hFc hU hW⟩⟩ rfl rfl hl.1 rfl (lv_room (Nat.le_of_ble_eq_true rfl)) d_L_begunStatement_1 ⟨Nat.le_of_ble_eq_true rfl, Nat.le_of_ble_eq_true rfl⟩) hS (fun q _ h9 => hFc q h9) hFc (fun u ra_1 t H1 locs ht hvm hw hB hz1 hk1 hS => ?_)
  obtain rfl := hw
  obtain ⟨era_1, hP1, hK1, hD1⟩ := hB
  subst era_1
  rw [ht] at hP1
  obtain ⟨hP, hD⟩ := va_join (wr := []) (w1 := [(h_o, .inr (1, [.ref h_typed, .int v_length])), (h_typed, .inl (k_typed, 32, .inl v_typed))]) hP hD [0, 1] [] rfl rfl (by decide) (by decide) hk1 hFc hP1 hD1
  have hP := hP.sub (ws' := [(h_o, .inr (1, [.ref h_typed, .int v_length])), (h_typed, .inl (k_typed, 32, .inl v_typed))]) [0, 1] rfl
  have hD := hD.sub (ws' := [(h_o, .inr (1, [.ref h_typed, .int v_length])), (h_typed, .inl (k_typed, 32, .inl v_typed))]) [0, 1] (by decide) rfl
  generalize H1 = H at hP hS ⊢
  refine lv_astore_n (lv' := [(1, .ref (ak v_1.1)), (0, .ref h_o)]) hx hb d_L_begunStatement_4 rfl hl (by decide) rfl (fun ls hl => ?_)
  refine lv_iconst (v := (nI 0)) hx hb d_L_begunStatement_5 (by decide) ?_
  refine lv_istore_n (lv' := [(2, .int (nI 0)), (1, .ref (ak v_1.1)), (0, .ref h_o)]) hx hb d_L_begunStatement_6 rfl hl (by decide) rfl (fun ls hl => ?_)
  exact J_7 40 v_1.1 (nI 0) h _ _ hP hD hS ls (lv_sub hl [2, 1, 0] rfl)
set_option maxHeartbeats 4000000 in
set_option maxRecDepth 100000 in
theorem c_L_typedPair (l : Launch) (dC : Nat → ClassId) (dI : Nat → Nat → Nat) (h_o h_typed : Nat) (k_typed : ClassId) (tb : Nat) (ak av : Nat → Nat) (sz : Nat) (v_length : Int32) (v_typed : Nat → Int32) (r0 : Int32) (u0 : Unit) (h : m_L_typedPair v_length v_typed = some (r0, u0)) : Met l y_L_typedPair w_L_typedPair ({ frames := 1, cells := 0, slots := 0, locals := 22 } : Room) (va_Pc [.ref h_o] (fun U => U.heap.size = sz ∧ va_P (dC, dI) classes [(h_o, .inr (1, [.ref h_typed, .int v_length])), (h_typed, .inl (k_typed, 32, .inl v_typed))] U.heap ∧ va_K (dC, dI) classes [(k_typed, .char)] U ∧ va_D (fun _ => True) [(h_o, .inr (1, [.ref h_typed, .int v_length])), (h_typed, .inl (k_typed, 32, .inl v_typed))] ∧ kw tb ak av (va_A [(h_o, .inr (1, [.ref h_typed, .int v_length])), (h_typed, .inl (k_typed, 32, .inl v_typed))] sz) U)) (va_Qi (fun (r : Int32) (u : Unit) => r = r0 ∧ u = u0) (fun (u : Unit) (t : State) => va_P (dC, dI) classes [(h_o, .inr (1, [.ref h_typed, .int v_length])), (h_typed, .inl (k_typed, 32, .inl v_typed))] t.heap ∧ va_K (dC, dI) classes [(k_typed, .char)] t ∧ va_D (va_A [(h_o, .inr (1, [.ref h_typed, .int v_length])), (h_typed, .inl (k_typed, 32, .inl v_typed))] sz) [(h_o, .inr (1, [.ref h_typed, .int v_length])), (h_typed, .inl (k_typed, 32, .inl v_typed))]) (va_A [(h_o, .inr (1, [.ref h_typed, .int v_length])), (h_typed, .inl (k_typed, 32, .inl v_typed))] sz)) 0 0 (va_A [(h_o, .inr (1, [.ref h_typed, .int v_length])), (h_typed, .inl (k_typed, 32, .inl v_typed))] sz) := by
  refine Met.ofW (cc := b_L_typedPair) (maxL := 1) (ret := (some .int)) (by decide) rfl ?_
  intro p e s m args below meth c s₁ B hml hv
  obtain ⟨rfl, hsz, hP, hK, hD0, hC⟩ := hv
  have hx := B.exec
  have hb := B.bytes
  have hr := B.returns
  have hts0 := atoms_spec (ws := w_L_typedPair) B.pre
  have hts : ∀ w ∈ lw_gd, w.before ([.ref h_o] : List Value).toArray s = true := fun w h9 => hts0 w (List.mem_cons_of_mem _ h9)
  have hown : s.vm.findClass R_L = some m.cls := findClass_of_methodNamed B.named
  have hlocks := B.notSynchronized
  subst hsz
  have hD := hD0.self (sz := s.heap.size)
  generalize hAe : va_A [(h_o, .inr (1, [.ref h_typed, .int v_length])), (h_typed, .inl (k_typed, 32, .inl v_typed))] s.heap.size = A at hD hC ⊢
  have hA : ∀ q : Nat, s.heap.size ≤ q → A q := fun q h9 => by rw [← hAe]; exact Or.inr h9
  obtain ⟨H, eH⟩ : ∃ H : Heap, H = s.heap := ⟨_, rfl⟩
  have hS : va_S A s.heap H [] := by rw [eH]; exact va_S.rf
  have hP : va_P (dC, dI) classes [(h_o, .inr (1, [.ref h_typed, .int v_length])), (h_typed, .inl (k_typed, 32, .inl v_typed))] H := by rw [eH]; exact hP
  refine W_gen (fun Q hQ => ?_)
  refine W_heap eH ?_
  clear eH
  have hl := lv_entry ([.ref h_o]) (n := 1) (Nat.le_of_ble_eq_true rfl)
  rw [lg_entry_eq]
  generalize (lg_sl ([.ref h_o]) ++ List.replicate (1 - (lg_sl ([.ref h_o])).length) Slot.unset).toArray = ls at hl ⊢
  have hl : lv_has ls 1 [(0, .ref h_o)] := hl
  unfold m_L_typedPair at h
  refine lv_aload_n hx hb d_L_typedPair_0 rfl (lv_at hl 0 rfl) ?_
  refine lv_aload_n hx hb d_L_typedPair_1 rfl (lv_at hl 0 rfl) ?_
  refine va_get (D := (dC, dI)) (ci := 1) (v := .int v_length) (C := R_L) (T := F_L) (N := 2) hx hb hts lay_L hown hK hP 0 rfl rfl 1 (by decide) (hts _ flk_L_15) (fun _ h9 => h9) rfl d_L_typedPair_2 ?_
  refine lv_iconst (v := (nI 4)) hx hb d_L_typedPair_5 (by decide) ?_
  refine lv_isub hx hb d_L_typedPair_6 ?_
  have hPc := hP.sub (ws' := [(h_o, .inr (1, [.ref h_typed, .int v_length])), (h_typed, .inl (k_typed, 32, .inl v_typed))]) [0, 1] rfl
  have hDc := hD.sub (ws' := [(h_o, .inr (1, [.ref h_typed, .int v_length])), (h_typed, .inl (k_typed, 32, .inl v_typed))]) [0, 1] (by decide) rfl
  have hKc := hK.sub (tys' := [(k_typed, .char)]) [0] rfl
  have hFc := va_free (wc := [(h_o, .inr (1, [.ref h_typed, .int v_length])), (h_typed, .inl (k_typed, 32, .inl v_typed))]) hD hS hA [0, 1] rfl
  obtain ⟨v_7, hc_7, h⟩ := of_bind h
  refine va_calli (va_runV (As := [.int (v_length - (nI 4))]) (rest := []) ⟨hx, hb, hml, hown, hts⟩ (c_L_at l dC dI h_o h_typed k_typed H.size v_length v_typed (v_length - (nI 4)) v_7.1 v_7.2 hc_7) (cwV 1 hts (gV mlk_L_39 ins_L_at sel_L_at ini_L cod_L_at) rfl rfl rfl (by decide +kernel) ⟨Nat.le_of_ble_eq_true rfl, Nat.le_of_ble_eq_true rfl⟩) ⟨fun a U g mk q => by obtain ⟨q0, q1, qP, qK, qD⟩ := q; exact ⟨q0, q1, qP, va_K.moved (u := U) (U := U.calling g mk a) (Vm.Alike.refl U.vm) qK, qD⟩, va_recv hKc hPc (ci := 1) (q0 := 0) rfl rfl, fun U hU hW => ⟨rfl, by rw [hU], by rw [hU]; exact hPc, va_K.moved hW.alike hKc, hDc.weaken (fun _ _ _ _ => trivial)⟩⟩ rfl rfl hl.1 rfl (lv_room (Nat.le_of_ble_eq_true rfl)) d_L_typedPair_7 ⟨Nat.le_of_ble_eq_true rfl, Nat.le_of_ble_eq_true rfl⟩) hS (fun q _ h9 => hFc q h9) hFc (fun r_7 u t H1 locs ht hvm hw hB hz1 hk1 hS => ?_)
  obtain ⟨rfl, rfl⟩ := hw
  obtain ⟨hP1, hK1, hD1⟩ := hB
  rw [ht] at hP1
  obtain ⟨hP, hD⟩ := va_join (wr := []) (w1 := [(h_o, .inr (1, [.ref h_typed, .int v_length])), (h_typed, .inl (k_typed, 32, .inl v_typed))]) hP hD [0, 1] [] rfl rfl (by decide) (by decide) hk1 hFc hP1 hD1
  have hP := hP.sub (ws' := [(h_o, .inr (1, [.ref h_typed, .int v_length])), (h_typed, .inl (k_typed, 32, .inl v_typed))]) [0, 1] rfl
  have hD := hD.sub (ws' := [(h_o, .inr (1, [.ref h_typed, .int v_length])), (h_typed, .inl (k_typed, 32, .inl v_typed))]) [0, 1] (by decide) rfl
  generalize H1 = H at hP hS ⊢
  refine lv_bipush (v := (nI 48)) hx hb d_L_typedPair_10 (by decide) ?_
  refine lv_isub hx hb d_L_typedPair_12 ?_
  refine lv_aload_n hx hb d_L_typedPair_13 rfl (lv_at hl 0 rfl) ?_
  refine lv_aload_n hx hb d_L_typedPair_14 rfl (lv_at hl 0 rfl) ?_
  refine va_get (D := (dC, dI)) (ci := 1) (v := .int v_length) (C := R_L) (T := F_L) (N := 2) hx hb hts lay_L hown hK hP 0 rfl rfl 1 (by decide) (hts _ flk_L_15) (fun _ h9 => h9) rfl d_L_typedPair_15 ?_
  refine lv_iconst (v := (nI 2)) hx hb d_L_typedPair_18 (by decide) ?_
  refine lv_isub hx hb d_L_typedPair_19 ?_
  have hPc := hP.sub (ws' := [(h_o, .inr (1, [.ref h_typed, .int v_length])), (h_typed, .inl (k_typed, 32, .inl v_typed))]) [0, 1] rfl
  have hDc := hD.sub (ws' := [(h_o, .inr (1, [.ref h_typed, .int v_length])), (h_typed, .inl (k_typed, 32, .inl v_typed))]) [0, 1] (by decide) rfl
  have hKc := hK.sub (tys' := [(k_typed, .char)]) [0] rfl
  have hFc := va_free (wc := [(h_o, .inr (1, [.ref h_typed, .int v_length])), (h_typed, .inl (k_typed, 32, .inl v_typed))]) hD hS hA [0, 1] rfl
  obtain ⟨v_20, hc_20, h⟩ := of_bind h
  refine va_calli (va_runV (As := [.int (v_length - (nI 2))]) (rest := [.int (v_7.1 - (nI 48))]) ⟨hx, hb, hml, hown, hts⟩ (c_L_at l dC dI h_o h_typed k_typed H.size v_length v_typed (v_length - (nI 2)) v_20.1 v_20.2 hc_20) (cwV 1 hts (gV mlk_L_39 ins_L_at sel_L_at ini_L cod_L_at) rfl rfl rfl (by decide +kernel) ⟨Nat.le_of_ble_eq_true rfl, Nat.le_of_ble_eq_true rfl⟩) ⟨fun a U g mk q => by obtain ⟨q0, q1, qP, qK, qD⟩ := q; exact ⟨q0, q1, qP, va_K.moved (u := U) (U := U.calling g mk a) (Vm.Alike.refl U.vm) qK, qD⟩, va_recv hKc hPc (ci := 1) (q0 := 0) rfl rfl, fun U hU hW => ⟨rfl, by rw [hU], by rw [hU]; exact hPc, va_K.moved hW.alike hKc, hDc.weaken (fun _ _ _ _ => trivial)⟩⟩ rfl rfl hl.1 rfl (lv_room (Nat.le_of_ble_eq_true rfl)) d_L_typedPair_20 ⟨Nat.le_of_ble_eq_true rfl, Nat.le_of_ble_eq_true rfl⟩) hS (fun q _ h9 => hFc q h9) hFc (fun r_20 u t H1 locs ht hvm hw hB hz1 hk1 hS => ?_)
  obtain ⟨rfl, rfl⟩ := hw
  obtain ⟨hP1, hK1, hD1⟩ := hB
  rw [ht] at hP1
  obtain ⟨hP, hD⟩ := va_join (wr := []) (w1 := [(h_o, .inr (1, [.ref h_typed, .int v_length])), (h_typed, .inl (k_typed, 32, .inl v_typed))]) hP hD [0, 1] [] rfl rfl (by decide) (by decide) hk1 hFc hP1 hD1
  have hP := hP.sub (ws' := [(h_o, .inr (1, [.ref h_typed, .int v_length])), (h_typed, .inl (k_typed, 32, .inl v_typed))]) [0, 1] rfl
  have hD := hD.sub (ws' := [(h_o, .inr (1, [.ref h_typed, .int v_length])), (h_typed, .inl (k_typed, 32, .inl v_typed))]) [0, 1] (by decide) rfl
  generalize H1 = H at hP hS ⊢
  refine lv_bipush (v := (nI 48)) hx hb d_L_typedPair_23 (by decide) ?_
  refine lv_isub hx hb d_L_typedPair_25 ?_
  have hPc := hP.sub (ws' := []) [] rfl
  have hDc := hD.sub (ws' := []) [] (by decide) rfl
  have hKc := hK.sub (tys' := []) [] rfl
  have hFc := va_free (wc := []) hD hS hA [] rfl
  obtain ⟨v_26, hc_26, h⟩ := of_bind h
  refine va_calli (va_runSN (As := [.int (v_7.1 - (nI 48)), .int (v_20.1 - (nI 48))]) (rest := []) ⟨hx, hb, hml, hown, hts⟩ (c_H_pairBit l dC dI H.size (v_7.1 - (nI 48)) (v_20.1 - (nI 48)) v_26.1 v_26.2 hc_26) ⟨va_cnB 2 hts (gI cod_H_pairBit) rfl rfl rfl hC.nst_L_42 (hts _ ini_H) (by decide +kernel) ⟨Nat.le_of_ble_eq_true rfl, Nat.le_of_ble_eq_true rfl⟩, hts _ sta_H_pairBit, trivial⟩ ⟨fun a U g mk q => by obtain ⟨q0, q1, qP, qK, qD⟩ := q; exact ⟨q0, q1, qP, va_K.moved (u := U) (U := U.calling g mk a) (Vm.Alike.refl U.vm) qK, qD⟩, fun U hU hW => ⟨rfl, by rw [hU], by rw [hU]; exact hPc, va_K.moved hW.alike hKc, hDc.weaken (fun _ _ _ _ => trivial)⟩⟩ rfl rfl hl.1 rfl (lv_room (Nat.le_of_ble_eq_true rfl)) d_L_typedPair_26 ⟨Nat.le_of_ble_eq_true rfl, Nat.le_of_ble_eq_true rfl⟩) hS (fun q _ h9 => hFc q h9) hFc (fun r_26 u t H1 locs ht hvm hw hB hz1 hk1 hS => ?_)
  obtain ⟨rfl, rfl⟩ := hw
  obtain ⟨hP1, hK1, hD1⟩ := hB
  rw [ht] at hP1
  obtain ⟨hP, hD⟩ := va_join (wr := [(h_o, .inr (1, [.ref h_typed, .int v_length])), (h_typed, .inl (k_typed, 32, .inl v_typed))]) (w1 := []) hP hD [] [0, 1] rfl rfl (by decide) (by decide) hk1 hFc hP1 hD1
  have hP := hP.sub (ws' := [(h_o, .inr (1, [.ref h_typed, .int v_length])), (h_typed, .inl (k_typed, 32, .inl v_typed))]) [0, 1] rfl
  have hD := hD.sub (ws' := [(h_o, .inr (1, [.ref h_typed, .int v_length])), (h_typed, .inl (k_typed, 32, .inl v_typed))]) [0, 1] (by decide) rfl
  generalize H1 = H at hP hS ⊢
  rw [hQ]
  exact W.iret (v := v_26.1) hx hb hr (fun t ht hW => ⟨⟨v_26.1, (), rfl, Prod.mk.inj (Option.some.inj h), by rw [ht]; exact hP, va_K.moved hW.alike hK, hD⟩, hS.F ht⟩) hS.2.2 d_L_typedPair_29
set_option maxHeartbeats 4000000 in
set_option maxRecDepth 100000 in
theorem c_L_typedLiterals (l : Launch) (dC : Nat → ClassId) (dI : Nat → Nat → Nat) (h_o h_typed : Nat) (sz : Nat) (v_length : Int32) (r0 : Int32) (u0 : Unit) (h : m_L_typedLiterals v_length = some (r0, u0)) : Met l y_L_typedLiterals w_L_typedLiterals ({ frames := 0, cells := 0, slots := 0, locals := 0 } : Room) (va_Pc [.ref h_o] (fun U => U.heap.size = sz ∧ va_P (dC, dI) classes [(h_o, .inr (1, [.ref h_typed, .int v_length]))] U.heap ∧ va_K (dC, dI) classes [] U ∧ va_D (fun _ => True) [(h_o, .inr (1, [.ref h_typed, .int v_length]))])) (va_Qi (fun (r : Int32) (u : Unit) => r = r0 ∧ u = u0) (fun (u : Unit) (t : State) => va_P (dC, dI) classes [(h_o, .inr (1, [.ref h_typed, .int v_length]))] t.heap ∧ va_K (dC, dI) classes [] t ∧ va_D (va_A [(h_o, .inr (1, [.ref h_typed, .int v_length]))] sz) [(h_o, .inr (1, [.ref h_typed, .int v_length]))]) (va_A [(h_o, .inr (1, [.ref h_typed, .int v_length]))] sz)) 0 0 (va_A [(h_o, .inr (1, [.ref h_typed, .int v_length]))] sz) := by
  refine Met.ofW (cc := b_L_typedLiterals) (maxL := 1) (ret := (some .int)) (by decide) rfl ?_
  intro p e s m args below meth c s₁ B hml hv
  obtain ⟨rfl, hsz, hP, hK, hD0⟩ := hv
  have hx := B.exec
  have hb := B.bytes
  have hr := B.returns
  have hts0 := atoms_spec (ws := w_L_typedLiterals) B.pre
  have hts : ∀ w ∈ lw_gd, w.before ([.ref h_o] : List Value).toArray s = true := fun w h9 => hts0 w (List.mem_cons_of_mem _ h9)
  have hown : s.vm.findClass R_L = some m.cls := findClass_of_methodNamed B.named
  have hlocks := B.notSynchronized
  subst hsz
  have hD := hD0.self (sz := s.heap.size)
  generalize hAe : va_A [(h_o, .inr (1, [.ref h_typed, .int v_length]))] s.heap.size = A at hD ⊢
  have hA : ∀ q : Nat, s.heap.size ≤ q → A q := fun q h9 => by rw [← hAe]; exact Or.inr h9
  obtain ⟨H, eH⟩ : ∃ H : Heap, H = s.heap := ⟨_, rfl⟩
  have hS : va_S A s.heap H [] := by rw [eH]; exact va_S.rf
  have hP : va_P (dC, dI) classes [(h_o, .inr (1, [.ref h_typed, .int v_length]))] H := by rw [eH]; exact hP
  refine W_gen (fun Q hQ => ?_)
  refine W_heap eH ?_
  clear eH
  have hl := lv_entry ([.ref h_o]) (n := 1) (Nat.le_of_ble_eq_true rfl)
  rw [lg_entry_eq]
  generalize (lg_sl ([.ref h_o]) ++ List.replicate (1 - (lg_sl ([.ref h_o])).length) Slot.unset).toArray = ls at hl ⊢
  have hl : lv_has ls 1 [(0, .ref h_o)] := hl
  unfold m_L_typedLiterals at h
  refine lv_aload_n hx hb d_L_typedLiterals_0 rfl (lv_at hl 0 rfl) ?_
  refine va_get (D := (dC, dI)) (ci := 1) (v := .int v_length) (C := R_L) (T := F_L) (N := 2) hx hb hts lay_L hown hK hP 0 rfl rfl 1 (by decide) (hts _ flk_L_15) (fun _ h9 => h9) rfl d_L_typedLiterals_1 ?_
  refine lv_iconst (v := (nI 1)) hx hb d_L_typedLiterals_4 (by decide) ?_
  refine lv_iadd hx hb d_L_typedLiterals_5 ?_
  refine lv_bipush (v := (nI 8)) hx hb d_L_typedLiterals_6 (by decide) ?_
  refine lv_isub hx hb d_L_typedLiterals_8 ?_
  refine lv_bipush (v := (nI 7)) hx hb d_L_typedLiterals_9 (by decide) ?_
  refine lv_idiv hx hb d_L_typedLiterals_11 (by decide) ?_
  rw [hQ]
  exact W.iret (v := ((v_length + (nI 1)) - (nI 8)) / (nI 7)) hx hb hr (fun t ht hW => ⟨⟨((v_length + (nI 1)) - (nI 8)) / (nI 7), (), rfl, Prod.mk.inj (Option.some.inj h), by rw [ht]; exact hP, va_K.moved hW.alike hK, hD⟩, hS.F ht⟩) hS.2.2 d_L_typedLiterals_12
set_option maxHeartbeats 4000000 in
set_option maxRecDepth 100000 in
theorem c_L_endsStatement (l : Launch) (dC : Nat → ClassId) (dI : Nat → Nat → Nat) (h_o h_typed : Nat) (k_typed : ClassId) (tb : Nat) (ak av : Nat → Nat) (sz : Nat) (v_length : Int32) (v_typed : Nat → Int32) (x1 : Int32) (r0 : Int32) (u0 : Unit) (h : m_L_endsStatement v_length v_typed x1 = some (r0, u0)) : Met l y_L_endsStatement w_L_endsStatement ({ frames := 2, cells := 0, slots := 0, locals := 41 } : Room) (va_Pc [.ref h_o, .int x1] (fun U => U.heap.size = sz ∧ va_P (dC, dI) classes [(h_o, .inr (1, [.ref h_typed, .int v_length])), (h_typed, .inl (k_typed, 32, .inl v_typed))] U.heap ∧ va_K (dC, dI) classes [(k_typed, .char)] U ∧ va_D (fun _ => True) [(h_o, .inr (1, [.ref h_typed, .int v_length])), (h_typed, .inl (k_typed, 32, .inl v_typed))] ∧ kw tb ak av (va_A [(h_o, .inr (1, [.ref h_typed, .int v_length])), (h_typed, .inl (k_typed, 32, .inl v_typed))] sz) U)) (va_Qi (fun (r : Int32) (u : Unit) => r = r0 ∧ u = u0) (fun (u : Unit) (t : State) => va_P (dC, dI) classes [(h_o, .inr (1, [.ref h_typed, .int v_length])), (h_typed, .inl (k_typed, 32, .inl v_typed))] t.heap ∧ va_K (dC, dI) classes [(k_typed, .char)] t ∧ va_D (va_A [(h_o, .inr (1, [.ref h_typed, .int v_length])), (h_typed, .inl (k_typed, 32, .inl v_typed))] sz) [(h_o, .inr (1, [.ref h_typed, .int v_length])), (h_typed, .inl (k_typed, 32, .inl v_typed))]) (va_A [(h_o, .inr (1, [.ref h_typed, .int v_length])), (h_typed, .inl (k_typed, 32, .inl v_typed))] sz)) 0 0 (va_A [(h_o, .inr (1, [.ref h_typed, .int v_length])), (h_typed, .inl (k_typed, 32, .inl v_typed))] sz) := by
  refine Met.ofW (cc := b_L_endsStatement) (maxL := 2) (ret := (some .boolean)) (by decide) rfl ?_
  intro p e s m args below meth c s₁ B hml hv
  obtain ⟨rfl, hsz, hP, hK, hD0, hC⟩ := hv
  have hx := B.exec
  have hb := B.bytes
  have hr := B.returns
  have hts0 := atoms_spec (ws := w_L_endsStatement) B.pre
  have hts : ∀ w ∈ lw_gd, w.before ([.ref h_o, .int x1] : List Value).toArray s = true := fun w h9 => hts0 w (List.mem_cons_of_mem _ h9)
  have hown : s.vm.findClass R_L = some m.cls := findClass_of_methodNamed B.named
  have hlocks := B.notSynchronized
  subst hsz
  have hD := hD0.self (sz := s.heap.size)
  generalize hAe : va_A [(h_o, .inr (1, [.ref h_typed, .int v_length])), (h_typed, .inl (k_typed, 32, .inl v_typed))] s.heap.size = A at hD hC ⊢
  have hA : ∀ q : Nat, s.heap.size ≤ q → A q := fun q h9 => by rw [← hAe]; exact Or.inr h9
  obtain ⟨H, eH⟩ : ∃ H : Heap, H = s.heap := ⟨_, rfl⟩
  have hS : va_S A s.heap H [] := by rw [eH]; exact va_S.rf
  have hP : va_P (dC, dI) classes [(h_o, .inr (1, [.ref h_typed, .int v_length])), (h_typed, .inl (k_typed, 32, .inl v_typed))] H := by rw [eH]; exact hP
  refine W_gen (fun Q hQ => ?_)
  refine W_heap eH ?_
  clear eH
  have hl := lv_entry ([.ref h_o, .int x1]) (n := 2) (Nat.le_of_ble_eq_true rfl)
  rw [lg_entry_eq]
  generalize (lg_sl ([.ref h_o, .int x1]) ++ List.replicate (2 - (lg_sl ([.ref h_o, .int x1])).length) Slot.unset).toArray = ls at hl ⊢
  have hl : lv_has ls 2 [(0, .ref h_o), (1, .int x1)] := hl
  unfold m_L_endsStatement at h
  refine lv_iload_n hx hb d_L_endsStatement_0 rfl (lv_at hl 1 rfl) ?_
  refine lv_if_eq (tgt := 12) hx hb d_L_endsStatement_1 (by decide) (fun c_1 => ?_) (fun c_1 => ?_)
  · have h := of_pos h c_1
    refine lv_iconst (v := (nI 0)) hx hb d_L_endsStatement_12 (by decide) ?_
    rw [hQ]
    exact W.zret (v := (nI 0)) hx hb hr rfl (fun t ht hW => ⟨⟨(nI 0), (), rfl, Prod.mk.inj (Option.some.inj h), by rw [ht]; exact hP, va_K.moved hW.alike hK, hD⟩, hS.F ht⟩) hS.2.2 d_L_endsStatement_13
  · have h := of_neg h c_1
    refine lv_iload_n hx hb d_L_endsStatement_4 rfl (lv_at hl 1 rfl) ?_
    refine lv_aload_n hx hb d_L_endsStatement_5 rfl (lv_at hl 0 rfl) ?_
    refine va_get (D := (dC, dI)) (ci := 1) (v := .int v_length) (C := R_L) (T := F_L) (N := 2) hx hb hts lay_L hown hK hP 0 rfl rfl 1 (by decide) (hts _ flk_L_15) (fun _ h9 => h9) rfl d_L_endsStatement_6 ?_
    refine lv_icmp_ge (tgt := 14) hx hb d_L_endsStatement_9 (by decide) (fun c_9 => ?_) (fun c_9 => ?_)
    · have h := of_pos h c_9
      refine lv_aload_n hx hb d_L_endsStatement_14 rfl (lv_at hl 0 rfl) ?_
      refine va_get (D := (dC, dI)) (ci := 1) (v := .ref h_typed) (C := R_L) (T := F_L) (N := 2) hx hb hts lay_L hown hK hP 0 rfl rfl 0 (by decide) (hts _ flk_L_11) (fun _ h9 => h9) rfl d_L_endsStatement_15 ?_
      refine lv_iconst (v := (nI 0)) hx hb d_L_endsStatement_18 (by decide) ?_
      obtain ⟨g_19, h⟩ := of_guard h
      refine va_cald hx hb hK hP 1 0 rfl rfl (inR_in g_19) d_L_endsStatement_19 ?_
      refine lv_bipush (v := (nI 116)) hx hb d_L_endsStatement_20 (by decide) ?_
      refine lv_icmp_ne (tgt := 55) hx hb d_L_endsStatement_22 (by decide) (fun c_22 => ?_) (fun c_22 => ?_)
      · have h := of_neg h c_22
        refine lv_aload_n hx hb d_L_endsStatement_55 rfl (lv_at hl 0 rfl) ?_
        refine va_get (D := (dC, dI)) (ci := 1) (v := .int v_length) (C := R_L) (T := F_L) (N := 2) hx hb hts lay_L hown hK hP 0 rfl rfl 1 (by decide) (hts _ flk_L_15) (fun _ h9 => h9) rfl d_L_endsStatement_56 ?_
        refine lv_aload_n hx hb d_L_endsStatement_59 rfl (lv_at hl 0 rfl) ?_
        have hPc := hP.sub (ws' := [(h_o, .inr (1, [.ref h_typed, .int v_length])), (h_typed, .inl (k_typed, 32, .inl v_typed))]) [0, 1] rfl
        have hDc := hD.sub (ws' := [(h_o, .inr (1, [.ref h_typed, .int v_length])), (h_typed, .inl (k_typed, 32, .inl v_typed))]) [0, 1] (by decide) rfl
        have hKc := hK.sub (tys' := [(k_typed, .char)]) [0] rfl
        have hFc := va_free (wc := [(h_o, .inr (1, [.ref h_typed, .int v_length])), (h_typed, .inl (k_typed, 32, .inl v_typed))]) hD hS hA [0, 1] rfl
        obtain ⟨v_60, hc_60, h⟩ := of_bind h
        refine va_callr (va_runV (As := []) (rest := [.int v_length]) ⟨hx, hb, hml, hown, hts⟩ (c_L_form l dC dI h_o h_typed k_typed tb ak av H.size v_length v_typed v_60.1 v_60.2 hc_60) (cwV 0 hts (gV mlk_L_19 ins_L_form sel_L_form ini_L cod_L_form) rfl rfl rfl (by decide +kernel) ⟨Nat.le_of_ble_eq_true rfl, Nat.le_of_ble_eq_true rfl⟩) ⟨fun a U g mk q => by obtain ⟨q0, q1, qP, qK, qD, qC⟩ := q; exact ⟨q0, q1, qP, va_K.moved (u := U) (U := U.calling g mk a) (Vm.Alike.refl U.vm) qK, qD, kw_blind qC⟩, va_recv hKc hPc (ci := 1) (q0 := 0) rfl rfl, fun U hU hW => ⟨rfl, by rw [hU], by rw [hU]; exact hPc, va_K.moved hW.alike hKc, hDc.weaken (fun _ _ _ _ => trivial), kw_call hC hS hFc hU hW⟩⟩ rfl rfl hl.1 rfl (lv_room (Nat.le_of_ble_eq_true rfl)) d_L_endsStatement_60 ⟨Nat.le_of_ble_eq_true rfl, Nat.le_of_ble_eq_true rfl⟩) hS (fun q _ h9 => hFc q h9) hFc (fun u ra_60 t H1 locs ht hvm hw hB hz1 hk1 hS => ?_)
        obtain rfl := hw
        obtain ⟨era_60, hP1, hK1, hD1⟩ := hB
        subst era_60
        rw [ht] at hP1
        obtain ⟨hP, hD⟩ := va_join (wr := []) (w1 := [(h_o, .inr (1, [.ref h_typed, .int v_length])), (h_typed, .inl (k_typed, 32, .inl v_typed))]) hP hD [0, 1] [] rfl rfl (by decide) (by decide) hk1 hFc hP1 hD1
        have hP := hP.sub (ws' := [(h_o, .inr (1, [.ref h_typed, .int v_length])), (h_typed, .inl (k_typed, 32, .inl v_typed))]) [0, 1] rfl
        have hD := hD.sub (ws' := [(h_o, .inr (1, [.ref h_typed, .int v_length])), (h_typed, .inl (k_typed, 32, .inl v_typed))]) [0, 1] (by decide) rfl
        generalize H1 = H at hP hS ⊢
        have hPc := hP.sub (ws' := []) [] rfl
        have hDc := hD.sub (ws' := []) [] (by decide) rfl
        have hKc := hK.sub (tys' := []) [] rfl
        have hFc := va_free (wc := []) hD hS hA [] rfl
        obtain ⟨gq_63, h⟩ := of_guard h
        obtain ⟨v_63, hc_63, h⟩ := of_bind h
        skip
        refine va_calli (va_runV (As := []) (rest := [.int v_length]) ⟨hx, hb, hml, hown, hts⟩ (c_S_length l dC dI tb ak av H.size v_60.1 v_63.1 v_63.2 hc_63) (cwV 0 hts (gV mlk_L_23 ins_S_length sel_S_length ini_S cod_S_length) rfl rfl rfl (by decide +kernel) ⟨Nat.le_of_ble_eq_true rfl, Nat.le_of_ble_eq_true rfl⟩) ⟨fun a U g mk q => by obtain ⟨q0, q1, qP, qK, qD, qC⟩ := q; exact ⟨q0, q1, qP, va_K.moved (u := U) (U := U.calling g mk a) (Vm.Alike.refl U.vm) qK, qD, kw_blind qC⟩, hC.rcv (inN_lt gq_63) hS, fun U hU hW => ⟨rfl, by rw [hU], by rw [hU]; exact hPc, va_K.moved hW.alike hKc, hDc.weaken (fun _ _ _ _ => trivial), kw_call hC hS hFc hU hW⟩⟩ rfl rfl hl.1 rfl (lv_room (Nat.le_of_ble_eq_true rfl)) d_L_endsStatement_63 ⟨Nat.le_of_ble_eq_true rfl, Nat.le_of_ble_eq_true rfl⟩) hS (fun q _ h9 => hFc q h9) hFc (fun r_63 u t H1 locs ht hvm hw hB hz1 hk1 hS => ?_)
        obtain ⟨rfl, rfl⟩ := hw
        obtain ⟨hP1, hK1, hD1⟩ := hB
        rw [ht] at hP1
        obtain ⟨hP, hD⟩ := va_join (wr := [(h_o, .inr (1, [.ref h_typed, .int v_length])), (h_typed, .inl (k_typed, 32, .inl v_typed))]) (w1 := []) hP hD [] [0, 1] rfl rfl (by decide) (by decide) hk1 hFc hP1 hD1
        have hP := hP.sub (ws' := [(h_o, .inr (1, [.ref h_typed, .int v_length])), (h_typed, .inl (k_typed, 32, .inl v_typed))]) [0, 1] rfl
        have hD := hD.sub (ws' := [(h_o, .inr (1, [.ref h_typed, .int v_length])), (h_typed, .inl (k_typed, 32, .inl v_typed))]) [0, 1] (by decide) rfl
        generalize H1 = H at hP hS ⊢
        refine lv_icmp_ne (tgt := 73) hx hb d_L_endsStatement_66 (by decide) (fun c_66 => ?_) (fun c_66 => ?_)
        · have h := of_neg h c_66
          refine lv_iconst (v := (nI 0)) hx hb d_L_endsStatement_73 (by decide) ?_
          rw [hQ]
          exact W.zret (v := (nI 0)) hx hb hr rfl (fun t ht hW => ⟨⟨(nI 0), (), rfl, Prod.mk.inj (Option.some.inj h), by rw [ht]; exact hP, va_K.moved hW.alike hK, hD⟩, hS.F ht⟩) hS.2.2 d_L_endsStatement_74
        · have h := of_pos h c_66
          refine lv_iconst (v := (nI 1)) hx hb d_L_endsStatement_69 (by decide) ?_
          refine lv_goto (tgt := 74) hx hb d_L_endsStatement_70 (by decide) ?_
          rw [hQ]
          exact W.zret (v := (nI 1)) hx hb hr rfl (fun t ht hW => ⟨⟨(nI 1), (), rfl, Prod.mk.inj (Option.some.inj h), by rw [ht]; exact hP, va_K.moved hW.alike hK, hD⟩, hS.F ht⟩) hS.2.2 d_L_endsStatement_74
      · have h := of_pos h c_22
        refine lv_aload_n hx hb d_L_endsStatement_25 rfl (lv_at hl 0 rfl) ?_
        refine va_get (D := (dC, dI)) (ci := 1) (v := .int v_length) (C := R_L) (T := F_L) (N := 2) hx hb hts lay_L hown hK hP 0 rfl rfl 1 (by decide) (hts _ flk_L_15) (fun _ h9 => h9) rfl d_L_endsStatement_26 ?_
        refine lv_bipush (v := (nI 7)) hx hb d_L_endsStatement_29 (by decide) ?_
        refine lv_bipush (v := (nI 7)) hx hb d_L_endsStatement_31 (by decide) ?_
        refine lv_aload_n hx hb d_L_endsStatement_33 rfl (lv_at hl 0 rfl) ?_
        have hPc := hP.sub (ws' := [(h_o, .inr (1, [.ref h_typed, .int v_length]))]) [0] rfl
        have hDc := hD.sub (ws' := [(h_o, .inr (1, [.ref h_typed, .int v_length]))]) [0] (by decide) rfl
        have hKc := hK.sub (tys' := []) [] rfl
        have hFc := va_free (wc := [(h_o, .inr (1, [.ref h_typed, .int v_length]))]) hD hS hA [0] rfl
        obtain ⟨v_34, hc_34, h⟩ := of_bind h
        refine va_calli (va_runV (As := []) (rest := [.int (nI 7), .int (nI 7), .int v_length]) ⟨hx, hb, hml, hown, hts⟩ (c_L_typedLiterals l dC dI h_o h_typed H.size v_length v_34.1 v_34.2 hc_34) (cwV 0 hts (gV mlk_L_36 ins_L_typedLiterals sel_L_typedLiterals ini_L cod_L_typedLiterals) rfl rfl rfl (by decide +kernel) ⟨Nat.le_of_ble_eq_true rfl, Nat.le_of_ble_eq_true rfl⟩) ⟨fun a U g mk q => by obtain ⟨q0, q1, qP, qK, qD⟩ := q; exact ⟨q0, q1, qP, va_K.moved (u := U) (U := U.calling g mk a) (Vm.Alike.refl U.vm) qK, qD⟩, va_recv hKc hPc (ci := 1) (q0 := 0) rfl rfl, fun U hU hW => ⟨rfl, by rw [hU], by rw [hU]; exact hPc, va_K.moved hW.alike hKc, hDc.weaken (fun _ _ _ _ => trivial)⟩⟩ rfl rfl hl.1 rfl (lv_room (Nat.le_of_ble_eq_true rfl)) d_L_endsStatement_34 ⟨Nat.le_of_ble_eq_true rfl, Nat.le_of_ble_eq_true rfl⟩) hS (fun q _ h9 => hFc q h9) hFc (fun r_34 u t H1 locs ht hvm hw hB hz1 hk1 hS => ?_)
        obtain ⟨rfl, rfl⟩ := hw
        obtain ⟨hP1, hK1, hD1⟩ := hB
        rw [ht] at hP1
        obtain ⟨hP, hD⟩ := va_join (wr := [(h_typed, .inl (k_typed, 32, .inl v_typed))]) (w1 := [(h_o, .inr (1, [.ref h_typed, .int v_length]))]) hP hD [0] [1] rfl rfl (by decide) (by decide) hk1 hFc hP1 hD1
        have hP := hP.sub (ws' := [(h_o, .inr (1, [.ref h_typed, .int v_length])), (h_typed, .inl (k_typed, 32, .inl v_typed))]) [1, 0] rfl
        have hD := hD.sub (ws' := [(h_o, .inr (1, [.ref h_typed, .int v_length])), (h_typed, .inl (k_typed, 32, .inl v_typed))]) [1, 0] (by decide) rfl
        generalize H1 = H at hP hS ⊢
        refine lv_imul hx hb d_L_endsStatement_37 ?_
        refine lv_iadd hx hb d_L_endsStatement_38 ?_
        refine lv_icmp_ne (tgt := 53) hx hb d_L_endsStatement_39 (by decide) (fun c_39 => ?_) (fun c_39 => ?_)
        · have h := of_neg h c_39
          refine lv_iconst (v := (nI 0)) hx hb d_L_endsStatement_53 (by decide) ?_
          rw [hQ]
          exact W.zret (v := (nI 0)) hx hb hr rfl (fun t ht hW => ⟨⟨(nI 0), (), rfl, Prod.mk.inj (Option.some.inj h), by rw [ht]; exact hP, va_K.moved hW.alike hK, hD⟩, hS.F ht⟩) hS.2.2 d_L_endsStatement_54
        · have h := of_pos h c_39
          refine lv_aload_n hx hb d_L_endsStatement_42 rfl (lv_at hl 0 rfl) ?_
          have hPc := hP.sub (ws' := [(h_o, .inr (1, [.ref h_typed, .int v_length]))]) [0] rfl
          have hDc := hD.sub (ws' := [(h_o, .inr (1, [.ref h_typed, .int v_length]))]) [0] (by decide) rfl
          have hKc := hK.sub (tys' := []) [] rfl
          have hFc := va_free (wc := [(h_o, .inr (1, [.ref h_typed, .int v_length]))]) hD hS hA [0] rfl
          obtain ⟨v_43, hc_43, h⟩ := of_bind h
          refine va_calli (va_runV (As := []) (rest := []) ⟨hx, hb, hml, hown, hts⟩ (c_L_typedLiterals l dC dI h_o h_typed H.size v_length v_43.1 v_43.2 hc_43) (cwV 0 hts (gV mlk_L_36 ins_L_typedLiterals sel_L_typedLiterals ini_L cod_L_typedLiterals) rfl rfl rfl (by decide +kernel) ⟨Nat.le_of_ble_eq_true rfl, Nat.le_of_ble_eq_true rfl⟩) ⟨fun a U g mk q => by obtain ⟨q0, q1, qP, qK, qD⟩ := q; exact ⟨q0, q1, qP, va_K.moved (u := U) (U := U.calling g mk a) (Vm.Alike.refl U.vm) qK, qD⟩, va_recv hKc hPc (ci := 1) (q0 := 0) rfl rfl, fun U hU hW => ⟨rfl, by rw [hU], by rw [hU]; exact hPc, va_K.moved hW.alike hKc, hDc.weaken (fun _ _ _ _ => trivial)⟩⟩ rfl rfl hl.1 rfl (lv_room (Nat.le_of_ble_eq_true rfl)) d_L_endsStatement_43 ⟨Nat.le_of_ble_eq_true rfl, Nat.le_of_ble_eq_true rfl⟩) hS (fun q _ h9 => hFc q h9) hFc (fun r_43 u t H1 locs ht hvm hw hB hz1 hk1 hS => ?_)
          obtain ⟨rfl, rfl⟩ := hw
          obtain ⟨hP1, hK1, hD1⟩ := hB
          rw [ht] at hP1
          obtain ⟨hP, hD⟩ := va_join (wr := [(h_typed, .inl (k_typed, 32, .inl v_typed))]) (w1 := [(h_o, .inr (1, [.ref h_typed, .int v_length]))]) hP hD [0] [1] rfl rfl (by decide) (by decide) hk1 hFc hP1 hD1
          have hP := hP.sub (ws' := [(h_o, .inr (1, [.ref h_typed, .int v_length])), (h_typed, .inl (k_typed, 32, .inl v_typed))]) [1, 0] rfl
          have hD := hD.sub (ws' := [(h_o, .inr (1, [.ref h_typed, .int v_length])), (h_typed, .inl (k_typed, 32, .inl v_typed))]) [1, 0] (by decide) rfl
          generalize H1 = H at hP hS ⊢
          refine lv_if_le (tgt := 53) hx hb d_L_endsStatement_46 (by decide) (fun c_46 => ?_) (fun c_46 => ?_)
          · have h := of_pos h c_46
            refine lv_iconst (v := (nI 0)) hx hb d_L_endsStatement_53 (by decide) ?_
            rw [hQ]
            exact W.zret (v := (nI 0)) hx hb hr rfl (fun t ht hW => ⟨⟨(nI 0), (), rfl, Prod.mk.inj (Option.some.inj h), by rw [ht]; exact hP, va_K.moved hW.alike hK, hD⟩, hS.F ht⟩) hS.2.2 d_L_endsStatement_54
          · have h := of_neg h c_46
            refine lv_iconst (v := (nI 1)) hx hb d_L_endsStatement_49 (by decide) ?_
            refine lv_goto (tgt := 54) hx hb d_L_endsStatement_50 (by decide) ?_
            rw [hQ]
            exact W.zret (v := (nI 1)) hx hb hr rfl (fun t ht hW => ⟨⟨(nI 1), (), rfl, Prod.mk.inj (Option.some.inj h), by rw [ht]; exact hP, va_K.moved hW.alike hK, hD⟩, hS.F ht⟩) hS.2.2 d_L_endsStatement_54
    · have h := of_neg h c_9
      refine lv_iconst (v := (nI 0)) hx hb d_L_endsStatement_12 (by decide) ?_
      rw [hQ]
      exact W.zret (v := (nI 0)) hx hb hr rfl (fun t ht hW => ⟨⟨(nI 0), (), rfl, Prod.mk.inj (Option.some.inj h), by rw [ht]; exact hP, va_K.moved hW.alike hK, hD⟩, hS.F ht⟩) hS.2.2 d_L_endsStatement_13
set_option maxHeartbeats 4000000 in
set_option maxRecDepth 100000 in
theorem c_L_typedBody (l : Launch) (dC : Nat → ClassId) (dI : Nat → Nat → Nat) (h_o h_typed : Nat) (k_typed : ClassId) (tb : Nat) (ak av : Nat → Nat) (sz : Nat) (v_length : Int32) (v_typed : Nat → Int32) (r0 : Int32) (u0 : Unit) (h : m_L_typedBody v_length v_typed = some (r0, u0)) : Met l y_L_typedBody w_L_typedBody ({ frames := 4, cells := 0, slots := 0, locals := 91 } : Room) (va_Pc [.ref h_o] (fun U => U.heap.size = sz ∧ va_P (dC, dI) classes [(h_o, .inr (1, [.ref h_typed, .int v_length])), (h_typed, .inl (k_typed, 32, .inl v_typed))] U.heap ∧ va_K (dC, dI) classes [(k_typed, .char)] U ∧ va_D (fun _ => True) [(h_o, .inr (1, [.ref h_typed, .int v_length])), (h_typed, .inl (k_typed, 32, .inl v_typed))] ∧ kw tb ak av (va_A [(h_o, .inr (1, [.ref h_typed, .int v_length])), (h_typed, .inl (k_typed, 32, .inl v_typed))] sz) U)) (va_Qi (fun (r : Int32) (u : Unit) => r = r0 ∧ u = u0) (fun (u : Unit) (t : State) => va_P (dC, dI) classes [(h_o, .inr (1, [.ref h_typed, .int v_length])), (h_typed, .inl (k_typed, 32, .inl v_typed))] t.heap ∧ va_K (dC, dI) classes [(k_typed, .char)] t ∧ va_D (va_A [(h_o, .inr (1, [.ref h_typed, .int v_length])), (h_typed, .inl (k_typed, 32, .inl v_typed))] sz) [(h_o, .inr (1, [.ref h_typed, .int v_length])), (h_typed, .inl (k_typed, 32, .inl v_typed))]) (va_A [(h_o, .inr (1, [.ref h_typed, .int v_length])), (h_typed, .inl (k_typed, 32, .inl v_typed))] sz)) 0 0 (va_A [(h_o, .inr (1, [.ref h_typed, .int v_length])), (h_typed, .inl (k_typed, 32, .inl v_typed))] sz) := by
  refine Met.ofW (cc := b_L_typedBody) (maxL := 6) (ret := (some .int)) (by decide) rfl ?_
  intro p e s m args below meth c s₁ B hml hv
  obtain ⟨rfl, hsz, hP, hK, hD0, hC⟩ := hv
  have hx := B.exec
  have hb := B.bytes
  have hr := B.returns
  have hts0 := atoms_spec (ws := w_L_typedBody) B.pre
  have hts : ∀ w ∈ lw_gd, w.before ([.ref h_o] : List Value).toArray s = true := fun w h9 => hts0 w (List.mem_cons_of_mem _ h9)
  have hown : s.vm.findClass R_L = some m.cls := findClass_of_methodNamed B.named
  have hlocks := B.notSynchronized
  subst hsz
  have hD := hD0.self (sz := s.heap.size)
  generalize hAe : va_A [(h_o, .inr (1, [.ref h_typed, .int v_length])), (h_typed, .inl (k_typed, 32, .inl v_typed))] s.heap.size = A at hD hC ⊢
  have hA : ∀ q : Nat, s.heap.size ≤ q → A q := fun q h9 => by rw [← hAe]; exact Or.inr h9
  obtain ⟨H, eH⟩ : ∃ H : Heap, H = s.heap := ⟨_, rfl⟩
  have hS : va_S A s.heap H [] := by rw [eH]; exact va_S.rf
  have hP : va_P (dC, dI) classes [(h_o, .inr (1, [.ref h_typed, .int v_length])), (h_typed, .inl (k_typed, 32, .inl v_typed))] H := by rw [eH]; exact hP
  refine W_gen (fun Q hQ => ?_)
  refine W_heap eH ?_
  clear eH
  have hl := lv_entry ([.ref h_o]) (n := 6) (Nat.le_of_ble_eq_true rfl)
  rw [lg_entry_eq]
  generalize (lg_sl ([.ref h_o]) ++ List.replicate (6 - (lg_sl ([.ref h_o])).length) Slot.unset).toArray = ls at hl ⊢
  have hl : lv_has ls 6 [(0, .ref h_o)] := hl
  have J_5 : ∀ (n : Nat) (z1 : Int32) (z2 : Int32), m_L_typedBody_5 v_length v_typed n z1 z2 = some (r0, u0) → ∀ (H : Heap) (locs : List Loc), va_P (dC, dI) classes [(h_o, .inr (1, [.ref h_typed, .int v_length])), (h_typed, .inl (k_typed, 32, .inl v_typed))] H → va_D A [(h_o, .inr (1, [.ref h_typed, .int v_length])), (h_typed, .inl (k_typed, 32, .inl v_typed))] → va_S A s.heap H locs → ∀ (ls : Array Slot), lv_has ls 6 [(0, .ref h_o), (1, .int z1), (2, .int z2)] → W p l e (headSpec w_L_typedBody ({ frames := 4, cells := 0, slots := 0, locals := 91 } : Room)).room s m ([.ref h_o] : List Value).toArray below meth c H locs 0 0 Q (F0 m 5 ls []) := by
    intro n
    induction n with
    | zero => intro z1 z2 h; exact absurd h (by unfold m_L_typedBody_5; exact fun h9 => nomatch h9)
    | succ n ih =>
      intro z1 z2 h H locs hP hD hS ls hl
      unfold m_L_typedBody_5 at h
      refine lv_iload_n hx hb d_L_typedBody_5 rfl (lv_at hl 2 rfl) ?_
      refine lv_aload_n hx hb d_L_typedBody_6 rfl (lv_at hl 0 rfl) ?_
      refine va_get (D := (dC, dI)) (ci := 1) (v := .int v_length) (C := R_L) (T := F_L) (N := 2) hx hb hts lay_L hown hK hP 0 rfl rfl 1 (by decide) (hts _ flk_L_15) (fun _ h9 => h9) rfl d_L_typedBody_7 ?_
      refine lv_icmp_ge (tgt := 71) hx hb d_L_typedBody_10 (by decide) (fun c_10 => ?_) (fun c_10 => ?_)
      · have h := of_pos h c_10
        refine lv_iload_n hx hb d_L_typedBody_71 rfl (lv_at hl 1 rfl) ?_
        rw [hQ]
        exact W.iret (v := z1) hx hb hr (fun t ht hW => ⟨⟨z1, (), rfl, Prod.mk.inj (Option.some.inj h), by rw [ht]; exact hP, va_K.moved hW.alike hK, hD⟩, hS.F ht⟩) hS.2.2 d_L_typedBody_72
      · have h := of_neg h c_10
        refine va_ldcS hx hb hown hC.str_L_46 d_L_typedBody_13 ?_
        refine lv_aload_n hx hb d_L_typedBody_15 rfl (lv_at hl 0 rfl) ?_
        refine lv_iload_n hx hb d_L_typedBody_16 rfl (lv_at hl 2 rfl) ?_
        have hPc := hP.sub (ws' := [(h_o, .inr (1, [.ref h_typed, .int v_length])), (h_typed, .inl (k_typed, 32, .inl v_typed))]) [0, 1] rfl
        have hDc := hD.sub (ws' := [(h_o, .inr (1, [.ref h_typed, .int v_length])), (h_typed, .inl (k_typed, 32, .inl v_typed))]) [0, 1] (by decide) rfl
        have hKc := hK.sub (tys' := [(k_typed, .char)]) [0] rfl
        have hFc := va_free (wc := [(h_o, .inr (1, [.ref h_typed, .int v_length])), (h_typed, .inl (k_typed, 32, .inl v_typed))]) hD hS hA [0, 1] rfl
        obtain ⟨v_17, hc_17, h⟩ := of_bind h
        refine va_calli (va_runV (As := [.int z2]) (rest := [.ref (ak 0)]) ⟨hx, hb, hml, hown, hts⟩ (c_L_at l dC dI h_o h_typed k_typed H.size v_length v_typed z2 v_17.1 v_17.2 hc_17) (cwV 1 hts (gV mlk_L_39 ins_L_at sel_L_at ini_L cod_L_at) rfl rfl rfl (by decide +kernel) ⟨Nat.le_of_ble_eq_true rfl, Nat.le_of_ble_eq_true rfl⟩) ⟨fun a U g mk q => by obtain ⟨q0, q1, qP, qK, qD⟩ := q; exact ⟨q0, q1, qP, va_K.moved (u := U) (U := U.calling g mk a) (Vm.Alike.refl U.vm) qK, qD⟩, va_recv hKc hPc (ci := 1) (q0 := 0) rfl rfl, fun U hU hW => ⟨rfl, by rw [hU], by rw [hU]; exact hPc, va_K.moved hW.alike hKc, hDc.weaken (fun _ _ _ _ => trivial)⟩⟩ rfl rfl hl.1 rfl (lv_room (Nat.le_of_ble_eq_true rfl)) d_L_typedBody_17 ⟨Nat.le_of_ble_eq_true rfl, Nat.le_of_ble_eq_true rfl⟩) hS (fun q _ h9 => hFc q h9) hFc (fun r_17 u t H1 locs ht hvm hw hB hz1 hk1 hS => ?_)
        obtain ⟨rfl, rfl⟩ := hw
        obtain ⟨hP1, hK1, hD1⟩ := hB
        rw [ht] at hP1
        obtain ⟨hP, hD⟩ := va_join (wr := []) (w1 := [(h_o, .inr (1, [.ref h_typed, .int v_length])), (h_typed, .inl (k_typed, 32, .inl v_typed))]) hP hD [0, 1] [] rfl rfl (by decide) (by decide) hk1 hFc hP1 hD1
        have hP := hP.sub (ws' := [(h_o, .inr (1, [.ref h_typed, .int v_length])), (h_typed, .inl (k_typed, 32, .inl v_typed))]) [0, 1] rfl
        have hD := hD.sub (ws' := [(h_o, .inr (1, [.ref h_typed, .int v_length])), (h_typed, .inl (k_typed, 32, .inl v_typed))]) [0, 1] (by decide) rfl
        generalize H1 = H at hP hS ⊢
        have hPc := hP.sub (ws' := []) [] rfl
        have hDc := hD.sub (ws' := []) [] (by decide) rfl
        have hKc := hK.sub (tys' := []) [] rfl
        have hFc := va_free (wc := []) hD hS hA [] rfl
        obtain ⟨gq_20, h⟩ := of_guard h
        obtain ⟨v_20, hc_20, h⟩ := of_bind h
        skip
        refine va_calli (va_runV (As := [.int v_17.1]) (rest := []) ⟨hx, hb, hml, hown, hts⟩ (c_S_indexOf1 l dC dI tb ak av H.size 0 v_17.1 v_20.1 v_20.2 hc_20) (cwV 1 hts (gV mlk_L_48 ins_S_indexOf1 sel_S_indexOf1 ini_S cod_S_indexOf1) rfl rfl rfl (by decide +kernel) ⟨Nat.le_of_ble_eq_true rfl, Nat.le_of_ble_eq_true rfl⟩) ⟨fun a U g mk q => by obtain ⟨q0, q1, qP, qK, qD, qC⟩ := q; exact ⟨q0, q1, qP, va_K.moved (u := U) (U := U.calling g mk a) (Vm.Alike.refl U.vm) qK, qD, kw_blind qC⟩, hC.rcv (inN_lt gq_20) hS, fun U hU hW => ⟨rfl, by rw [hU], by rw [hU]; exact hPc, va_K.moved hW.alike hKc, hDc.weaken (fun _ _ _ _ => trivial), kw_call hC hS hFc hU hW⟩⟩ rfl rfl hl.1 rfl (lv_room (Nat.le_of_ble_eq_true rfl)) d_L_typedBody_20 ⟨Nat.le_of_ble_eq_true rfl, Nat.le_of_ble_eq_true rfl⟩) hS (fun q _ h9 => hFc q h9) hFc (fun r_20 u t H1 locs ht hvm hw hB hz1 hk1 hS => ?_)
        obtain ⟨rfl, rfl⟩ := hw
        obtain ⟨hP1, hK1, hD1⟩ := hB
        rw [ht] at hP1
        obtain ⟨hP, hD⟩ := va_join (wr := [(h_o, .inr (1, [.ref h_typed, .int v_length])), (h_typed, .inl (k_typed, 32, .inl v_typed))]) (w1 := []) hP hD [] [0, 1] rfl rfl (by decide) (by decide) hk1 hFc hP1 hD1
        have hP := hP.sub (ws' := [(h_o, .inr (1, [.ref h_typed, .int v_length])), (h_typed, .inl (k_typed, 32, .inl v_typed))]) [0, 1] rfl
        have hD := hD.sub (ws' := [(h_o, .inr (1, [.ref h_typed, .int v_length])), (h_typed, .inl (k_typed, 32, .inl v_typed))]) [0, 1] (by decide) rfl
        generalize H1 = H at hP hS ⊢
        refine lv_istore_n (lv' := [(3, .int v_20.1), (0, .ref h_o), (1, .int z1), (2, .int z2)]) hx hb d_L_typedBody_23 rfl hl (by decide) rfl (fun ls hl => ?_)
        refine va_ldcS hx hb hown hC.str_L_52 d_L_typedBody_24 ?_
        refine lv_aload_n hx hb d_L_typedBody_26 rfl (lv_at hl 1 rfl) ?_
        refine lv_iload_n hx hb d_L_typedBody_27 rfl (lv_at hl 3 rfl) ?_
        refine lv_iconst (v := (nI 2)) hx hb d_L_typedBody_28 (by decide) ?_
        refine lv_iadd hx hb d_L_typedBody_29 ?_
        have hPc := hP.sub (ws' := [(h_o, .inr (1, [.ref h_typed, .int v_length])), (h_typed, .inl (k_typed, 32, .inl v_typed))]) [0, 1] rfl
        have hDc := hD.sub (ws' := [(h_o, .inr (1, [.ref h_typed, .int v_length])), (h_typed, .inl (k_typed, 32, .inl v_typed))]) [0, 1] (by decide) rfl
        have hKc := hK.sub (tys' := [(k_typed, .char)]) [0] rfl
        have hFc := va_free (wc := [(h_o, .inr (1, [.ref h_typed, .int v_length])), (h_typed, .inl (k_typed, 32, .inl v_typed))]) hD hS hA [0, 1] rfl
        obtain ⟨v_30, hc_30, h⟩ := of_bind h
        refine va_calli (va_runV (As := [.int (z2 + (nI 2))]) (rest := [.ref (ak 1)]) ⟨hx, hb, hml, hown, hts⟩ (c_L_at l dC dI h_o h_typed k_typed H.size v_length v_typed (z2 + (nI 2)) v_30.1 v_30.2 hc_30) (cwV 1 hts (gV mlk_L_39 ins_L_at sel_L_at ini_L cod_L_at) rfl rfl rfl (by decide +kernel) ⟨Nat.le_of_ble_eq_true rfl, Nat.le_of_ble_eq_true rfl⟩) ⟨fun a U g mk q => by obtain ⟨q0, q1, qP, qK, qD⟩ := q; exact ⟨q0, q1, qP, va_K.moved (u := U) (U := U.calling g mk a) (Vm.Alike.refl U.vm) qK, qD⟩, va_recv hKc hPc (ci := 1) (q0 := 0) rfl rfl, fun U hU hW => ⟨rfl, by rw [hU], by rw [hU]; exact hPc, va_K.moved hW.alike hKc, hDc.weaken (fun _ _ _ _ => trivial)⟩⟩ rfl rfl hl.1 rfl (lv_room (Nat.le_of_ble_eq_true rfl)) d_L_typedBody_30 ⟨Nat.le_of_ble_eq_true rfl, Nat.le_of_ble_eq_true rfl⟩) hS (fun q _ h9 => hFc q h9) hFc (fun r_30 u t H1 locs ht hvm hw hB hz1 hk1 hS => ?_)
        obtain ⟨rfl, rfl⟩ := hw
        obtain ⟨hP1, hK1, hD1⟩ := hB
        rw [ht] at hP1
        obtain ⟨hP, hD⟩ := va_join (wr := []) (w1 := [(h_o, .inr (1, [.ref h_typed, .int v_length])), (h_typed, .inl (k_typed, 32, .inl v_typed))]) hP hD [0, 1] [] rfl rfl (by decide) (by decide) hk1 hFc hP1 hD1
        have hP := hP.sub (ws' := [(h_o, .inr (1, [.ref h_typed, .int v_length])), (h_typed, .inl (k_typed, 32, .inl v_typed))]) [0, 1] rfl
        have hD := hD.sub (ws' := [(h_o, .inr (1, [.ref h_typed, .int v_length])), (h_typed, .inl (k_typed, 32, .inl v_typed))]) [0, 1] (by decide) rfl
        generalize H1 = H at hP hS ⊢
        have hPc := hP.sub (ws' := []) [] rfl
        have hDc := hD.sub (ws' := []) [] (by decide) rfl
        have hKc := hK.sub (tys' := []) [] rfl
        have hFc := va_free (wc := []) hD hS hA [] rfl
        obtain ⟨gq_33, h⟩ := of_guard h
        obtain ⟨v_33, hc_33, h⟩ := of_bind h
        skip
        refine va_calli (va_runV (As := [.int v_30.1]) (rest := []) ⟨hx, hb, hml, hown, hts⟩ (c_S_indexOf1 l dC dI tb ak av H.size 1 v_30.1 v_33.1 v_33.2 hc_33) (cwV 1 hts (gV mlk_L_48 ins_S_indexOf1 sel_S_indexOf1 ini_S cod_S_indexOf1) rfl rfl rfl (by decide +kernel) ⟨Nat.le_of_ble_eq_true rfl, Nat.le_of_ble_eq_true rfl⟩) ⟨fun a U g mk q => by obtain ⟨q0, q1, qP, qK, qD, qC⟩ := q; exact ⟨q0, q1, qP, va_K.moved (u := U) (U := U.calling g mk a) (Vm.Alike.refl U.vm) qK, qD, kw_blind qC⟩, hC.rcv (inN_lt gq_33) hS, fun U hU hW => ⟨rfl, by rw [hU], by rw [hU]; exact hPc, va_K.moved hW.alike hKc, hDc.weaken (fun _ _ _ _ => trivial), kw_call hC hS hFc hU hW⟩⟩ rfl rfl hl.1 rfl (lv_room (Nat.le_of_ble_eq_true rfl)) d_L_typedBody_33 ⟨Nat.le_of_ble_eq_true rfl, Nat.le_of_ble_eq_true rfl⟩) hS (fun q _ h9 => hFc q h9) hFc (fun r_33 u t H1 locs ht hvm hw hB hz1 hk1 hS => ?_)
        obtain ⟨rfl, rfl⟩ := hw
        obtain ⟨hP1, hK1, hD1⟩ := hB
        rw [ht] at hP1
        obtain ⟨hP, hD⟩ := va_join (wr := [(h_o, .inr (1, [.ref h_typed, .int v_length])), (h_typed, .inl (k_typed, 32, .inl v_typed))]) (w1 := []) hP hD [] [0, 1] rfl rfl (by decide) (by decide) hk1 hFc hP1 hD1
        have hP := hP.sub (ws' := [(h_o, .inr (1, [.ref h_typed, .int v_length])), (h_typed, .inl (k_typed, 32, .inl v_typed))]) [0, 1] rfl
        have hD := hD.sub (ws' := [(h_o, .inr (1, [.ref h_typed, .int v_length])), (h_typed, .inl (k_typed, 32, .inl v_typed))]) [0, 1] (by decide) rfl
        generalize H1 = H at hP hS ⊢
        refine lv_istore (lv' := [(4, .int v_33.1), (3, .int v_20.1), (0, .ref h_o), (1, .int z1), (2, .int z2)]) hx hb d_L_typedBody_36 hl (by decide) rfl (fun ls hl => ?_)
        refine va_ldcS hx hb hown hC.str_L_52 d_L_typedBody_38 ?_
        refine lv_aload_n hx hb d_L_typedBody_40 rfl (lv_at hl 2 rfl) ?_
        refine lv_iload_n hx hb d_L_typedBody_41 rfl (lv_at hl 4 rfl) ?_
        refine lv_iconst (v := (nI 4)) hx hb d_L_typedBody_42 (by decide) ?_
        refine lv_iadd hx hb d_L_typedBody_43 ?_
        have hPc := hP.sub (ws' := [(h_o, .inr (1, [.ref h_typed, .int v_length])), (h_typed, .inl (k_typed, 32, .inl v_typed))]) [0, 1] rfl
        have hDc := hD.sub (ws' := [(h_o, .inr (1, [.ref h_typed, .int v_length])), (h_typed, .inl (k_typed, 32, .inl v_typed))]) [0, 1] (by decide) rfl
        have hKc := hK.sub (tys' := [(k_typed, .char)]) [0] rfl
        have hFc := va_free (wc := [(h_o, .inr (1, [.ref h_typed, .int v_length])), (h_typed, .inl (k_typed, 32, .inl v_typed))]) hD hS hA [0, 1] rfl
        obtain ⟨v_44, hc_44, h⟩ := of_bind h
        refine va_calli (va_runV (As := [.int (z2 + (nI 4))]) (rest := [.ref (ak 1)]) ⟨hx, hb, hml, hown, hts⟩ (c_L_at l dC dI h_o h_typed k_typed H.size v_length v_typed (z2 + (nI 4)) v_44.1 v_44.2 hc_44) (cwV 1 hts (gV mlk_L_39 ins_L_at sel_L_at ini_L cod_L_at) rfl rfl rfl (by decide +kernel) ⟨Nat.le_of_ble_eq_true rfl, Nat.le_of_ble_eq_true rfl⟩) ⟨fun a U g mk q => by obtain ⟨q0, q1, qP, qK, qD⟩ := q; exact ⟨q0, q1, qP, va_K.moved (u := U) (U := U.calling g mk a) (Vm.Alike.refl U.vm) qK, qD⟩, va_recv hKc hPc (ci := 1) (q0 := 0) rfl rfl, fun U hU hW => ⟨rfl, by rw [hU], by rw [hU]; exact hPc, va_K.moved hW.alike hKc, hDc.weaken (fun _ _ _ _ => trivial)⟩⟩ rfl rfl hl.1 rfl (lv_room (Nat.le_of_ble_eq_true rfl)) d_L_typedBody_44 ⟨Nat.le_of_ble_eq_true rfl, Nat.le_of_ble_eq_true rfl⟩) hS (fun q _ h9 => hFc q h9) hFc (fun r_44 u t H1 locs ht hvm hw hB hz1 hk1 hS => ?_)
        obtain ⟨rfl, rfl⟩ := hw
        obtain ⟨hP1, hK1, hD1⟩ := hB
        rw [ht] at hP1
        obtain ⟨hP, hD⟩ := va_join (wr := []) (w1 := [(h_o, .inr (1, [.ref h_typed, .int v_length])), (h_typed, .inl (k_typed, 32, .inl v_typed))]) hP hD [0, 1] [] rfl rfl (by decide) (by decide) hk1 hFc hP1 hD1
        have hP := hP.sub (ws' := [(h_o, .inr (1, [.ref h_typed, .int v_length])), (h_typed, .inl (k_typed, 32, .inl v_typed))]) [0, 1] rfl
        have hD := hD.sub (ws' := [(h_o, .inr (1, [.ref h_typed, .int v_length])), (h_typed, .inl (k_typed, 32, .inl v_typed))]) [0, 1] (by decide) rfl
        generalize H1 = H at hP hS ⊢
        have hPc := hP.sub (ws' := []) [] rfl
        have hDc := hD.sub (ws' := []) [] (by decide) rfl
        have hKc := hK.sub (tys' := []) [] rfl
        have hFc := va_free (wc := []) hD hS hA [] rfl
        obtain ⟨gq_47, h⟩ := of_guard h
        obtain ⟨v_47, hc_47, h⟩ := of_bind h
        skip
        refine va_calli (va_runV (As := [.int v_44.1]) (rest := []) ⟨hx, hb, hml, hown, hts⟩ (c_S_indexOf1 l dC dI tb ak av H.size 1 v_44.1 v_47.1 v_47.2 hc_47) (cwV 1 hts (gV mlk_L_48 ins_S_indexOf1 sel_S_indexOf1 ini_S cod_S_indexOf1) rfl rfl rfl (by decide +kernel) ⟨Nat.le_of_ble_eq_true rfl, Nat.le_of_ble_eq_true rfl⟩) ⟨fun a U g mk q => by obtain ⟨q0, q1, qP, qK, qD, qC⟩ := q; exact ⟨q0, q1, qP, va_K.moved (u := U) (U := U.calling g mk a) (Vm.Alike.refl U.vm) qK, qD, kw_blind qC⟩, hC.rcv (inN_lt gq_47) hS, fun U hU hW => ⟨rfl, by rw [hU], by rw [hU]; exact hPc, va_K.moved hW.alike hKc, hDc.weaken (fun _ _ _ _ => trivial), kw_call hC hS hFc hU hW⟩⟩ rfl rfl hl.1 rfl (lv_room (Nat.le_of_ble_eq_true rfl)) d_L_typedBody_47 ⟨Nat.le_of_ble_eq_true rfl, Nat.le_of_ble_eq_true rfl⟩) hS (fun q _ h9 => hFc q h9) hFc (fun r_47 u t H1 locs ht hvm hw hB hz1 hk1 hS => ?_)
        obtain ⟨rfl, rfl⟩ := hw
        obtain ⟨hP1, hK1, hD1⟩ := hB
        rw [ht] at hP1
        obtain ⟨hP, hD⟩ := va_join (wr := [(h_o, .inr (1, [.ref h_typed, .int v_length])), (h_typed, .inl (k_typed, 32, .inl v_typed))]) (w1 := []) hP hD [] [0, 1] rfl rfl (by decide) (by decide) hk1 hFc hP1 hD1
        have hP := hP.sub (ws' := [(h_o, .inr (1, [.ref h_typed, .int v_length])), (h_typed, .inl (k_typed, 32, .inl v_typed))]) [0, 1] rfl
        have hD := hD.sub (ws' := [(h_o, .inr (1, [.ref h_typed, .int v_length])), (h_typed, .inl (k_typed, 32, .inl v_typed))]) [0, 1] (by decide) rfl
        generalize H1 = H at hP hS ⊢
        refine lv_istore (lv' := [(5, .int v_47.1), (4, .int v_33.1), (3, .int v_20.1), (0, .ref h_o), (1, .int z1), (2, .int z2)]) hx hb d_L_typedBody_50 hl (by decide) rfl (fun ls hl => ?_)
        refine lv_iload_n hx hb d_L_typedBody_52 rfl (lv_at hl 4 rfl) ?_
        refine lv_iconst (v := (nI 1)) hx hb d_L_typedBody_53 (by decide) ?_
        refine lv_iload_n hx hb d_L_typedBody_54 rfl (lv_at hl 2 rfl) ?_
        refine lv_iload hx hb d_L_typedBody_55 (lv_at hl 1 rfl) ?_
        refine lv_iload hx hb d_L_typedBody_57 (lv_at hl 0 rfl) ?_
        have hPc := hP.sub (ws' := []) [] rfl
        have hDc := hD.sub (ws' := []) [] (by decide) rfl
        have hKc := hK.sub (tys' := []) [] rfl
        have hFc := va_free (wc := []) hD hS hA [] rfl
        obtain ⟨v_59, hc_59, h⟩ := of_bind h
        refine va_calli (va_runSN (As := [.int v_20.1, .int v_33.1, .int v_47.1]) (rest := [.int (nI 1), .int z1]) ⟨hx, hb, hml, hown, hts⟩ (c_H_codeOf l dC dI H.size v_20.1 v_33.1 v_47.1 v_59.1 v_59.2 hc_59) ⟨va_cnB 3 hts (gI cod_H_codeOf) rfl rfl rfl hC.nst_L_54 (hts _ ini_H) (by decide +kernel) ⟨Nat.le_of_ble_eq_true rfl, Nat.le_of_ble_eq_true rfl⟩, hts _ sta_H_codeOf, trivial⟩ ⟨fun a U g mk q => by obtain ⟨q0, q1, qP, qK, qD⟩ := q; exact ⟨q0, q1, qP, va_K.moved (u := U) (U := U.calling g mk a) (Vm.Alike.refl U.vm) qK, qD⟩, fun U hU hW => ⟨rfl, by rw [hU], by rw [hU]; exact hPc, va_K.moved hW.alike hKc, hDc.weaken (fun _ _ _ _ => trivial)⟩⟩ rfl rfl hl.1 rfl (lv_room (Nat.le_of_ble_eq_true rfl)) d_L_typedBody_59 ⟨Nat.le_of_ble_eq_true rfl, Nat.le_of_ble_eq_true rfl⟩) hS (fun q _ h9 => hFc q h9) hFc (fun r_59 u t H1 locs ht hvm hw hB hz1 hk1 hS => ?_)
        obtain ⟨rfl, rfl⟩ := hw
        obtain ⟨hP1, hK1, hD1⟩ := hB
        rw [ht] at hP1
        obtain ⟨hP, hD⟩ := va_join (wr := [(h_o, .inr (1, [.ref h_typed, .int v_length])), (h_typed, .inl (k_typed, 32, .inl v_typed))]) (w1 := []) hP hD [] [0, 1] rfl rfl (by decide) (by decide) hk1 hFc hP1 hD1
        have hP := hP.sub (ws' := [(h_o, .inr (1, [.ref h_typed, .int v_length])), (h_typed, .inl (k_typed, 32, .inl v_typed))]) [0, 1] rfl
        have hD := hD.sub (ws' := [(h_o, .inr (1, [.ref h_typed, .int v_length])), (h_typed, .inl (k_typed, 32, .inl v_typed))]) [0, 1] (by decide) rfl
        generalize H1 = H at hP hS ⊢
        refine lv_ishl hx hb d_L_typedBody_62 ?_
        refine lv_ior hx hb d_L_typedBody_63 ?_
        refine lv_istore_n (lv' := [(1, .int (z1 ||| ((nI 1) <<< (v_59.1 &&& 31)))), (5, .int v_47.1), (4, .int v_33.1), (3, .int v_20.1), (0, .ref h_o), (2, .int z2)]) hx hb d_L_typedBody_64 rfl hl (by decide) rfl (fun ls hl => ?_)
        refine lv_iinc (v := z2 + (nI 7)) (lv' := [(2, .int (z2 + (nI 7))), (1, .int (z1 ||| ((nI 1) <<< (v_59.1 &&& 31)))), (5, .int v_47.1), (4, .int v_33.1), (3, .int v_20.1), (0, .ref h_o)]) hx hb d_L_typedBody_65 hl (k := 5) rfl rfl (by decide) rfl (fun ls hl => ?_)
        refine lv_goto (tgt := 5) hx hb d_L_typedBody_68 (by decide) ?_
        exact ih (z1 ||| ((nI 1) <<< (v_59.1 &&& 31))) (z2 + (nI 7)) h _ _ hP hD hS ls (lv_sub hl [5, 1, 0] rfl)
  unfold m_L_typedBody at h
  refine lv_iconst (v := (nI 0)) hx hb d_L_typedBody_0 (by decide) ?_
  refine lv_istore_n (lv' := [(1, .int (nI 0)), (0, .ref h_o)]) hx hb d_L_typedBody_1 rfl hl (by decide) rfl (fun ls hl => ?_)
  refine lv_bipush (v := (nI 8)) hx hb d_L_typedBody_2 (by decide) ?_
  refine lv_istore_n (lv' := [(2, .int (nI 8)), (1, .int (nI 0)), (0, .ref h_o)]) hx hb d_L_typedBody_4 rfl hl (by decide) rfl (fun ls hl => ?_)
  exact J_5 40 (nI 0) (nI 8) h _ _ hP hD hS ls (lv_sub hl [2, 1, 0] rfl)
end
section
theorem d_P_bodyOf_0 : decode b_P_bodyOf 0 = .ok (.iload_n 1, 1) := by decide +kernel
theorem d_P_bodyOf_1 : decode b_P_bodyOf 1 = .ok (.ifCond .lt 20, 3) := by decide +kernel
theorem d_P_bodyOf_4 : decode b_P_bodyOf 4 = .ok (.iload_n 1, 1) := by decide +kernel
theorem d_P_bodyOf_5 : decode b_P_bodyOf 5 = .ok (.aload_n 0, 1) := by decide +kernel
theorem d_P_bodyOf_6 : decode b_P_bodyOf 6 = .ok (.getfield 15, 3) := by decide +kernel
theorem d_P_bodyOf_9 : decode b_P_bodyOf 9 = .ok (.if_icmp .ge 12, 3) := by decide +kernel
theorem d_P_bodyOf_12 : decode b_P_bodyOf 12 = .ok (.aload_n 0, 1) := by decide +kernel
theorem d_P_bodyOf_13 : decode b_P_bodyOf 13 = .ok (.getfield 9, 3) := by decide +kernel
theorem d_P_bodyOf_16 : decode b_P_bodyOf 16 = .ok (.iload_n 1, 1) := by decide +kernel
theorem d_P_bodyOf_17 : decode b_P_bodyOf 17 = .ok (.iaload, 1) := by decide +kernel
theorem d_P_bodyOf_18 : decode b_P_bodyOf 18 = .ok (.goto 4, 3) := by decide +kernel
theorem d_P_bodyOf_21 : decode b_P_bodyOf 21 = .ok (.iconst 0, 1) := by decide +kernel
theorem d_P_bodyOf_22 : decode b_P_bodyOf 22 = .ok (.ireturn, 1) := by decide +kernel
theorem d_P_contains_0 : decode b_P_contains 0 = .ok (.aload_n 0, 1) := by decide +kernel
theorem d_P_contains_1 : decode b_P_contains 1 = .ok (.iconst 0, 1) := by decide +kernel
theorem d_P_contains_2 : decode b_P_contains 2 = .ok (.invokevirtual 19, 3) := by decide +kernel
theorem d_P_contains_5 : decode b_P_contains 5 = .ok (.iload_n 1, 1) := by decide +kernel
theorem d_P_contains_6 : decode b_P_contains 6 = .ok (.if_icmp .eq 12, 3) := by decide +kernel
theorem d_P_contains_9 : decode b_P_contains 9 = .ok (.aload_n 0, 1) := by decide +kernel
theorem d_P_contains_10 : decode b_P_contains 10 = .ok (.iconst 1, 1) := by decide +kernel
theorem d_P_contains_11 : decode b_P_contains 11 = .ok (.invokevirtual 19, 3) := by decide +kernel
theorem d_P_contains_14 : decode b_P_contains 14 = .ok (.iload_n 1, 1) := by decide +kernel
theorem d_P_contains_15 : decode b_P_contains 15 = .ok (.if_icmp .ne 7, 3) := by decide +kernel
theorem d_P_contains_18 : decode b_P_contains 18 = .ok (.iconst 1, 1) := by decide +kernel
theorem d_P_contains_19 : decode b_P_contains 19 = .ok (.goto 4, 3) := by decide +kernel
theorem d_P_contains_22 : decode b_P_contains 22 = .ok (.iconst 0, 1) := by decide +kernel
theorem d_P_contains_23 : decode b_P_contains 23 = .ok (.ireturn, 1) := by decide +kernel
theorem d_P_append_0 : decode b_P_append 0 = .ok (.aload_n 0, 1) := by decide +kernel
theorem d_P_append_1 : decode b_P_append 1 = .ok (.getfield 15, 3) := by decide +kernel
theorem d_P_append_4 : decode b_P_append 4 = .ok (.iconst 2, 1) := by decide +kernel
theorem d_P_append_5 : decode b_P_append 5 = .ok (.if_icmp .lt 5, 3) := by decide +kernel
theorem d_P_append_8 : decode b_P_append 8 = .ok (.iconst (-1), 1) := by decide +kernel
theorem d_P_append_9 : decode b_P_append 9 = .ok (.ireturn, 1) := by decide +kernel
theorem d_P_append_10 : decode b_P_append 10 = .ok (.aload_n 0, 1) := by decide +kernel
theorem d_P_append_11 : decode b_P_append 11 = .ok (.getfield 9, 3) := by decide +kernel
theorem d_P_append_14 : decode b_P_append 14 = .ok (.aload_n 0, 1) := by decide +kernel
theorem d_P_append_15 : decode b_P_append 15 = .ok (.getfield 15, 3) := by decide +kernel
theorem d_P_append_18 : decode b_P_append 18 = .ok (.iload_n 1, 1) := by decide +kernel
theorem d_P_append_19 : decode b_P_append 19 = .ok (.iastore, 1) := by decide +kernel
theorem d_P_append_20 : decode b_P_append 20 = .ok (.aload_n 0, 1) := by decide +kernel
theorem d_P_append_21 : decode b_P_append 21 = .ok (.dup, 1) := by decide +kernel
theorem d_P_append_22 : decode b_P_append 22 = .ok (.getfield 15, 3) := by decide +kernel
theorem d_P_append_25 : decode b_P_append 25 = .ok (.iconst 1, 1) := by decide +kernel
theorem d_P_append_26 : decode b_P_append 26 = .ok (.iadd, 1) := by decide +kernel
theorem d_P_append_27 : decode b_P_append 27 = .ok (.putfield 15, 3) := by decide +kernel
theorem d_P_append_30 : decode b_P_append 30 = .ok (.aload_n 0, 1) := by decide +kernel
theorem d_P_append_31 : decode b_P_append 31 = .ok (.getfield 15, 3) := by decide +kernel
theorem d_P_append_34 : decode b_P_append 34 = .ok (.iconst 1, 1) := by decide +kernel
theorem d_P_append_35 : decode b_P_append 35 = .ok (.isub, 1) := by decide +kernel
theorem d_P_append_36 : decode b_P_append 36 = .ok (.ireturn, 1) := by decide +kernel
theorem d_P_remove_0 : decode b_P_remove 0 = .ok (.aload_n 0, 1) := by decide +kernel
theorem d_P_remove_1 : decode b_P_remove 1 = .ok (.iload_n 1, 1) := by decide +kernel
theorem d_P_remove_2 : decode b_P_remove 2 = .ok (.invokevirtual 19, 3) := by decide +kernel
theorem d_P_remove_5 : decode b_P_remove 5 = .ok (.ifCond .ne 5, 3) := by decide +kernel
theorem d_P_remove_8 : decode b_P_remove 8 = .ok (.iconst 0, 1) := by decide +kernel
theorem d_P_remove_9 : decode b_P_remove 9 = .ok (.ireturn, 1) := by decide +kernel
theorem d_P_remove_10 : decode b_P_remove 10 = .ok (.iload_n 1, 1) := by decide +kernel
theorem d_P_remove_11 : decode b_P_remove 11 = .ok (.ifCond .ne 15, 3) := by decide +kernel
theorem d_P_remove_14 : decode b_P_remove 14 = .ok (.aload_n 0, 1) := by decide +kernel
theorem d_P_remove_15 : decode b_P_remove 15 = .ok (.getfield 9, 3) := by decide +kernel
theorem d_P_remove_18 : decode b_P_remove 18 = .ok (.iconst 0, 1) := by decide +kernel
theorem d_P_remove_19 : decode b_P_remove 19 = .ok (.aload_n 0, 1) := by decide +kernel
theorem d_P_remove_20 : decode b_P_remove 20 = .ok (.getfield 9, 3) := by decide +kernel
theorem d_P_remove_23 : decode b_P_remove 23 = .ok (.iconst 1, 1) := by decide +kernel
theorem d_P_remove_24 : decode b_P_remove 24 = .ok (.iaload, 1) := by decide +kernel
theorem d_P_remove_25 : decode b_P_remove 25 = .ok (.iastore, 1) := by decide +kernel
theorem d_P_remove_26 : decode b_P_remove 26 = .ok (.aload_n 0, 1) := by decide +kernel
theorem d_P_remove_27 : decode b_P_remove 27 = .ok (.getfield 9, 3) := by decide +kernel
theorem d_P_remove_30 : decode b_P_remove 30 = .ok (.iconst 1, 1) := by decide +kernel
theorem d_P_remove_31 : decode b_P_remove 31 = .ok (.iconst 0, 1) := by decide +kernel
theorem d_P_remove_32 : decode b_P_remove 32 = .ok (.iastore, 1) := by decide +kernel
theorem d_P_remove_33 : decode b_P_remove 33 = .ok (.aload_n 0, 1) := by decide +kernel
theorem d_P_remove_34 : decode b_P_remove 34 = .ok (.dup, 1) := by decide +kernel
theorem d_P_remove_35 : decode b_P_remove 35 = .ok (.getfield 15, 3) := by decide +kernel
theorem d_P_remove_38 : decode b_P_remove 38 = .ok (.iconst 1, 1) := by decide +kernel
theorem d_P_remove_39 : decode b_P_remove 39 = .ok (.isub, 1) := by decide +kernel
theorem d_P_remove_40 : decode b_P_remove 40 = .ok (.putfield 15, 3) := by decide +kernel
theorem d_P_remove_43 : decode b_P_remove 43 = .ok (.iconst 1, 1) := by decide +kernel
theorem d_P_remove_44 : decode b_P_remove 44 = .ok (.ireturn, 1) := by decide +kernel
theorem d_P_become_0 : decode b_P_become 0 = .ok (.aload_n 0, 1) := by decide +kernel
theorem d_P_become_1 : decode b_P_become 1 = .ok (.iload_n 1, 1) := by decide +kernel
theorem d_P_become_2 : decode b_P_become 2 = .ok (.ifCond .ne 7, 3) := by decide +kernel
theorem d_P_become_5 : decode b_P_become 5 = .ok (.iconst 1, 1) := by decide +kernel
theorem d_P_become_6 : decode b_P_become 6 = .ok (.goto 4, 3) := by decide +kernel
theorem d_P_become_9 : decode b_P_become 9 = .ok (.iconst 2, 1) := by decide +kernel
theorem d_P_become_10 : decode b_P_become 10 = .ok (.putfield 15, 3) := by decide +kernel
theorem d_P_become_13 : decode b_P_become 13 = .ok (.aload_n 0, 1) := by decide +kernel
theorem d_P_become_14 : decode b_P_become 14 = .ok (.getfield 9, 3) := by decide +kernel
theorem d_P_become_17 : decode b_P_become 17 = .ok (.iconst 0, 1) := by decide +kernel
theorem d_P_become_18 : decode b_P_become 18 = .ok (.iload_n 1, 1) := by decide +kernel
theorem d_P_become_19 : decode b_P_become 19 = .ok (.ifCond .ne 7, 3) := by decide +kernel
theorem d_P_become_22 : decode b_P_become 22 = .ok (.iload_n 2, 1) := by decide +kernel
theorem d_P_become_23 : decode b_P_become 23 = .ok (.goto 4, 3) := by decide +kernel
theorem d_P_become_26 : decode b_P_become 26 = .ok (.iload_n 1, 1) := by decide +kernel
theorem d_P_become_27 : decode b_P_become 27 = .ok (.iastore, 1) := by decide +kernel
theorem d_P_become_28 : decode b_P_become 28 = .ok (.aload_n 0, 1) := by decide +kernel
theorem d_P_become_29 : decode b_P_become 29 = .ok (.getfield 9, 3) := by decide +kernel
theorem d_P_become_32 : decode b_P_become 32 = .ok (.iconst 1, 1) := by decide +kernel
theorem d_P_become_33 : decode b_P_become 33 = .ok (.iload_n 1, 1) := by decide +kernel
theorem d_P_become_34 : decode b_P_become 34 = .ok (.ifCond .ne 7, 3) := by decide +kernel
theorem d_P_become_37 : decode b_P_become 37 = .ok (.iconst 0, 1) := by decide +kernel
theorem d_P_become_38 : decode b_P_become 38 = .ok (.goto 4, 3) := by decide +kernel
theorem d_P_become_41 : decode b_P_become 41 = .ok (.iload_n 2, 1) := by decide +kernel
theorem d_P_become_42 : decode b_P_become 42 = .ok (.iastore, 1) := by decide +kernel
theorem d_P_become_43 : decode b_P_become 43 = .ok (.return_, 1) := by decide +kernel
theorem d_P_textLength_0 : decode b_P_textLength 0 = .ok (.bipush 8, 2) := by decide +kernel
theorem d_P_textLength_2 : decode b_P_textLength 2 = .ok (.bipush 7, 2) := by decide +kernel
theorem d_P_textLength_4 : decode b_P_textLength 4 = .ok (.iload_n 0, 1) := by decide +kernel
theorem d_P_textLength_5 : decode b_P_textLength 5 = .ok (.invokestatic 30, 3) := by decide +kernel
theorem d_P_textLength_8 : decode b_P_textLength 8 = .ok (.imul, 1) := by decide +kernel
theorem d_P_textLength_9 : decode b_P_textLength 9 = .ok (.iadd, 1) := by decide +kernel
theorem d_P_textLength_10 : decode b_P_textLength 10 = .ok (.iconst 1, 1) := by decide +kernel
theorem d_P_textLength_11 : decode b_P_textLength 11 = .ok (.isub, 1) := by decide +kernel
theorem d_P_textLength_12 : decode b_P_textLength 12 = .ok (.ireturn, 1) := by decide +kernel
theorem d_P_letterOf_0 : decode b_P_letterOf 0 = .ok (.iload_n 1, 1) := by decide +kernel
theorem d_P_letterOf_1 : decode b_P_letterOf 1 = .ok (.bipush 8, 2) := by decide +kernel
theorem d_P_letterOf_3 : decode b_P_letterOf 3 = .ok (.if_icmp .ge 10, 3) := by decide +kernel
theorem d_P_letterOf_6 : decode b_P_letterOf 6 = .ok (.ldc 35, 2) := by decide +kernel
theorem d_P_letterOf_8 : decode b_P_letterOf 8 = .ok (.iload_n 1, 1) := by decide +kernel
theorem d_P_letterOf_9 : decode b_P_letterOf 9 = .ok (.invokevirtual 37, 3) := by decide +kernel
theorem d_P_letterOf_12 : decode b_P_letterOf 12 = .ok (.ireturn, 1) := by decide +kernel
theorem d_P_letterOf_13 : decode b_P_letterOf 13 = .ok (.iload_n 0, 1) := by decide +kernel
theorem d_P_letterOf_14 : decode b_P_letterOf 14 = .ok (.iload_n 1, 1) := by decide +kernel
theorem d_P_letterOf_15 : decode b_P_letterOf 15 = .ok (.bipush 8, 2) := by decide +kernel
theorem d_P_letterOf_17 : decode b_P_letterOf 17 = .ok (.isub, 1) := by decide +kernel
theorem d_P_letterOf_18 : decode b_P_letterOf 18 = .ok (.bipush 7, 2) := by decide +kernel
theorem d_P_letterOf_20 : decode b_P_letterOf 20 = .ok (.idiv, 1) := by decide +kernel
theorem d_P_letterOf_21 : decode b_P_letterOf 21 = .ok (.invokestatic 43, 3) := by decide +kernel
theorem d_P_letterOf_24 : decode b_P_letterOf 24 = .ok (.istore_n 2, 1) := by decide +kernel
theorem d_P_letterOf_25 : decode b_P_letterOf 25 = .ok (.iload_n 2, 1) := by decide +kernel
theorem d_P_letterOf_26 : decode b_P_letterOf 26 = .ok (.ifCond .ge 5, 3) := by decide +kernel
theorem d_P_letterOf_29 : decode b_P_letterOf 29 = .ok (.iconst (-1), 1) := by decide +kernel
theorem d_P_letterOf_30 : decode b_P_letterOf 30 = .ok (.ireturn, 1) := by decide +kernel
theorem d_P_letterOf_31 : decode b_P_letterOf 31 = .ok (.iload_n 1, 1) := by decide +kernel
theorem d_P_letterOf_32 : decode b_P_letterOf 32 = .ok (.bipush 8, 2) := by decide +kernel
theorem d_P_letterOf_34 : decode b_P_letterOf 34 = .ok (.isub, 1) := by decide +kernel
theorem d_P_letterOf_35 : decode b_P_letterOf 35 = .ok (.bipush 7, 2) := by decide +kernel
theorem d_P_letterOf_37 : decode b_P_letterOf 37 = .ok (.irem, 1) := by decide +kernel
theorem d_P_letterOf_38 : decode b_P_letterOf 38 = .ok (.tableswitch 74 0 5 #[38, 48, 51, 74, 61, 71], 38) := by decide +kernel
theorem d_P_letterOf_76 : decode b_P_letterOf 76 = .ok (.ldc 46, 2) := by decide +kernel
theorem d_P_letterOf_78 : decode b_P_letterOf 78 = .ok (.iload_n 2, 1) := by decide +kernel
theorem d_P_letterOf_79 : decode b_P_letterOf 79 = .ok (.invokestatic 48, 3) := by decide +kernel
theorem d_P_letterOf_82 : decode b_P_letterOf 82 = .ok (.invokevirtual 37, 3) := by decide +kernel
theorem d_P_letterOf_85 : decode b_P_letterOf 85 = .ok (.ireturn, 1) := by decide +kernel
theorem d_P_letterOf_86 : decode b_P_letterOf 86 = .ok (.bipush 40, 2) := by decide +kernel
theorem d_P_letterOf_88 : decode b_P_letterOf 88 = .ok (.ireturn, 1) := by decide +kernel
theorem d_P_letterOf_89 : decode b_P_letterOf 89 = .ok (.ldc 51, 2) := by decide +kernel
theorem d_P_letterOf_91 : decode b_P_letterOf 91 = .ok (.iload_n 2, 1) := by decide +kernel
theorem d_P_letterOf_92 : decode b_P_letterOf 92 = .ok (.invokestatic 53, 3) := by decide +kernel
theorem d_P_letterOf_95 : decode b_P_letterOf 95 = .ok (.invokevirtual 37, 3) := by decide +kernel
theorem d_P_letterOf_98 : decode b_P_letterOf 98 = .ok (.ireturn, 1) := by decide +kernel
theorem d_P_letterOf_99 : decode b_P_letterOf 99 = .ok (.ldc 51, 2) := by decide +kernel
theorem d_P_letterOf_101 : decode b_P_letterOf 101 = .ok (.iload_n 2, 1) := by decide +kernel
theorem d_P_letterOf_102 : decode b_P_letterOf 102 = .ok (.invokestatic 56, 3) := by decide +kernel
theorem d_P_letterOf_105 : decode b_P_letterOf 105 = .ok (.invokevirtual 37, 3) := by decide +kernel
theorem d_P_letterOf_108 : decode b_P_letterOf 108 = .ok (.ireturn, 1) := by decide +kernel
theorem d_P_letterOf_109 : decode b_P_letterOf 109 = .ok (.bipush 41, 2) := by decide +kernel
theorem d_P_letterOf_111 : decode b_P_letterOf 111 = .ok (.ireturn, 1) := by decide +kernel
theorem d_P_letterOf_112 : decode b_P_letterOf 112 = .ok (.bipush 44, 2) := by decide +kernel
theorem d_P_letterOf_114 : decode b_P_letterOf 114 = .ok (.ireturn, 1) := by decide +kernel
theorem d_P_letterAt_0 : decode b_P_letterAt 0 = .ok (.iload_n 1, 1) := by decide +kernel
theorem d_P_letterAt_1 : decode b_P_letterAt 1 = .ok (.istore_n 2, 1) := by decide +kernel
theorem d_P_letterAt_2 : decode b_P_letterAt 2 = .ok (.iconst 0, 1) := by decide +kernel
theorem d_P_letterAt_3 : decode b_P_letterAt 3 = .ok (.istore_n 3, 1) := by decide +kernel
theorem d_P_letterAt_4 : decode b_P_letterAt 4 = .ok (.iload_n 3, 1) := by decide +kernel
theorem d_P_letterAt_5 : decode b_P_letterAt 5 = .ok (.aload_n 0, 1) := by decide +kernel
theorem d_P_letterAt_6 : decode b_P_letterAt 6 = .ok (.getfield 15, 3) := by decide +kernel
theorem d_P_letterAt_9 : decode b_P_letterAt 9 = .ok (.if_icmp .ge 67, 3) := by decide +kernel
theorem d_P_letterAt_12 : decode b_P_letterAt 12 = .ok (.iload_n 2, 1) := by decide +kernel
theorem d_P_letterAt_13 : decode b_P_letterAt 13 = .ok (.ifCond .lt 63, 3) := by decide +kernel
theorem d_P_letterAt_16 : decode b_P_letterAt 16 = .ok (.aload_n 0, 1) := by decide +kernel
theorem d_P_letterAt_17 : decode b_P_letterAt 17 = .ok (.getfield 9, 3) := by decide +kernel
theorem d_P_letterAt_20 : decode b_P_letterAt 20 = .ok (.iload_n 3, 1) := by decide +kernel
theorem d_P_letterAt_21 : decode b_P_letterAt 21 = .ok (.iaload, 1) := by decide +kernel
theorem d_P_letterAt_22 : decode b_P_letterAt 22 = .ok (.invokestatic 23, 3) := by decide +kernel
theorem d_P_letterAt_25 : decode b_P_letterAt 25 = .ok (.istore 4, 2) := by decide +kernel
theorem d_P_letterAt_27 : decode b_P_letterAt 27 = .ok (.iload_n 2, 1) := by decide +kernel
theorem d_P_letterAt_28 : decode b_P_letterAt 28 = .ok (.iload 4, 2) := by decide +kernel
theorem d_P_letterAt_30 : decode b_P_letterAt 30 = .ok (.if_icmp .ge 14, 3) := by decide +kernel
theorem d_P_letterAt_33 : decode b_P_letterAt 33 = .ok (.aload_n 0, 1) := by decide +kernel
theorem d_P_letterAt_34 : decode b_P_letterAt 34 = .ok (.getfield 9, 3) := by decide +kernel
theorem d_P_letterAt_37 : decode b_P_letterAt 37 = .ok (.iload_n 3, 1) := by decide +kernel
theorem d_P_letterAt_38 : decode b_P_letterAt 38 = .ok (.iaload, 1) := by decide +kernel
theorem d_P_letterAt_39 : decode b_P_letterAt 39 = .ok (.iload_n 2, 1) := by decide +kernel
theorem d_P_letterAt_40 : decode b_P_letterAt 40 = .ok (.invokestatic 26, 3) := by decide +kernel
theorem d_P_letterAt_43 : decode b_P_letterAt 43 = .ok (.ireturn, 1) := by decide +kernel
theorem d_P_letterAt_44 : decode b_P_letterAt 44 = .ok (.iload_n 2, 1) := by decide +kernel
theorem d_P_letterAt_45 : decode b_P_letterAt 45 = .ok (.iload 4, 2) := by decide +kernel
theorem d_P_letterAt_47 : decode b_P_letterAt 47 = .ok (.if_icmp .ne 16, 3) := by decide +kernel
theorem d_P_letterAt_50 : decode b_P_letterAt 50 = .ok (.iload_n 3, 1) := by decide +kernel
theorem d_P_letterAt_51 : decode b_P_letterAt 51 = .ok (.iconst 1, 1) := by decide +kernel
theorem d_P_letterAt_52 : decode b_P_letterAt 52 = .ok (.iadd, 1) := by decide +kernel
theorem d_P_letterAt_53 : decode b_P_letterAt 53 = .ok (.aload_n 0, 1) := by decide +kernel
theorem d_P_letterAt_54 : decode b_P_letterAt 54 = .ok (.getfield 15, 3) := by decide +kernel
theorem d_P_letterAt_57 : decode b_P_letterAt 57 = .ok (.if_icmp .ge 6, 3) := by decide +kernel
theorem d_P_letterAt_60 : decode b_P_letterAt 60 = .ok (.bipush 59, 2) := by decide +kernel
theorem d_P_letterAt_62 : decode b_P_letterAt 62 = .ok (.ireturn, 1) := by decide +kernel
theorem d_P_letterAt_63 : decode b_P_letterAt 63 = .ok (.iload_n 2, 1) := by decide +kernel
theorem d_P_letterAt_64 : decode b_P_letterAt 64 = .ok (.iload 4, 2) := by decide +kernel
theorem d_P_letterAt_66 : decode b_P_letterAt 66 = .ok (.iconst 1, 1) := by decide +kernel
theorem d_P_letterAt_67 : decode b_P_letterAt 67 = .ok (.iadd, 1) := by decide +kernel
theorem d_P_letterAt_68 : decode b_P_letterAt 68 = .ok (.isub, 1) := by decide +kernel
theorem d_P_letterAt_69 : decode b_P_letterAt 69 = .ok (.istore_n 2, 1) := by decide +kernel
theorem d_P_letterAt_70 : decode b_P_letterAt 70 = .ok (.iinc 3 1, 3) := by decide +kernel
theorem d_P_letterAt_73 : decode b_P_letterAt 73 = .ok (.goto (-69), 3) := by decide +kernel
theorem d_P_letterAt_76 : decode b_P_letterAt 76 = .ok (.iconst (-1), 1) := by decide +kernel
theorem d_P_letterAt_77 : decode b_P_letterAt 77 = .ok (.ireturn, 1) := by decide +kernel
set_option maxHeartbeats 4000000 in
set_option maxRecDepth 100000 in
theorem c_P_bodyOf (l : Launch) (dC : Nat → ClassId) (dI : Nat → Nat → Nat) (h_o h_bodies : Nat) (k_bodies : ClassId) (sz : Nat) (v_count : Int32) (v_bodies : Nat → Int32) (x1 : Int32) (r0 : Int32) (u0 : Unit) (h : m_P_bodyOf v_count v_bodies x1 = some (r0, u0)) : Met l y_P_bodyOf w_P_bodyOf ({ frames := 0, cells := 0, slots := 0, locals := 0 } : Room) (va_Pc [.ref h_o, .int x1] (fun U => U.heap.size = sz ∧ va_P (dC, dI) classes [(h_o, .inr (2, [.ref h_bodies, .int v_count])), (h_bodies, .inl (k_bodies, 2, .inl v_bodies))] U.heap ∧ va_K (dC, dI) classes [(k_bodies, .int)] U ∧ va_D (fun _ => True) [(h_o, .inr (2, [.ref h_bodies, .int v_count])), (h_bodies, .inl (k_bodies, 2, .inl v_bodies))])) (va_Qi (fun (r : Int32) (u : Unit) => r = r0 ∧ u = u0) (fun (u : Unit) (t : State) => va_P (dC, dI) classes [(h_o, .inr (2, [.ref h_bodies, .int v_count])), (h_bodies, .inl (k_bodies, 2, .inl v_bodies))] t.heap ∧ va_K (dC, dI) classes [(k_bodies, .int)] t ∧ va_D (va_A [(h_o, .inr (2, [.ref h_bodies, .int v_count])), (h_bodies, .inl (k_bodies, 2, .inl v_bodies))] sz) [(h_o, .inr (2, [.ref h_bodies, .int v_count])), (h_bodies, .inl (k_bodies, 2, .inl v_bodies))]) (va_A [(h_o, .inr (2, [.ref h_bodies, .int v_count])), (h_bodies, .inl (k_bodies, 2, .inl v_bodies))] sz)) 0 0 (va_A [(h_o, .inr (2, [.ref h_bodies, .int v_count])), (h_bodies, .inl (k_bodies, 2, .inl v_bodies))] sz) := by
  refine Met.ofW (cc := b_P_bodyOf) (maxL := 2) (ret := (some .int)) (by decide) rfl ?_
  intro p e s m args below meth c s₁ B hml hv
  obtain ⟨rfl, hsz, hP, hK, hD0⟩ := hv
  have hx := B.exec
  have hb := B.bytes
  have hr := B.returns
  have hts0 := atoms_spec (ws := w_P_bodyOf) B.pre
  have hts : ∀ w ∈ lw_gd, w.before ([.ref h_o, .int x1] : List Value).toArray s = true := fun w h9 => hts0 w (List.mem_cons_of_mem _ h9)
  have hown : s.vm.findClass R_P = some m.cls := findClass_of_methodNamed B.named
  have hlocks := B.notSynchronized
  subst hsz
  have hD := hD0.self (sz := s.heap.size)
  generalize hAe : va_A [(h_o, .inr (2, [.ref h_bodies, .int v_count])), (h_bodies, .inl (k_bodies, 2, .inl v_bodies))] s.heap.size = A at hD ⊢
  have hA : ∀ q : Nat, s.heap.size ≤ q → A q := fun q h9 => by rw [← hAe]; exact Or.inr h9
  obtain ⟨H, eH⟩ : ∃ H : Heap, H = s.heap := ⟨_, rfl⟩
  have hS : va_S A s.heap H [] := by rw [eH]; exact va_S.rf
  have hP : va_P (dC, dI) classes [(h_o, .inr (2, [.ref h_bodies, .int v_count])), (h_bodies, .inl (k_bodies, 2, .inl v_bodies))] H := by rw [eH]; exact hP
  refine W_gen (fun Q hQ => ?_)
  refine W_heap eH ?_
  clear eH
  have hl := lv_entry ([.ref h_o, .int x1]) (n := 2) (Nat.le_of_ble_eq_true rfl)
  rw [lg_entry_eq]
  generalize (lg_sl ([.ref h_o, .int x1]) ++ List.replicate (2 - (lg_sl ([.ref h_o, .int x1])).length) Slot.unset).toArray = ls at hl ⊢
  have hl : lv_has ls 2 [(0, .ref h_o), (1, .int x1)] := hl
  unfold m_P_bodyOf at h
  refine lv_iload_n hx hb d_P_bodyOf_0 rfl (lv_at hl 1 rfl) ?_
  refine lv_if_lt (tgt := 21) hx hb d_P_bodyOf_1 (by decide) (fun c_1 => ?_) (fun c_1 => ?_)
  · have h := of_pos h c_1
    refine lv_iconst (v := (nI 0)) hx hb d_P_bodyOf_21 (by decide) ?_
    rw [hQ]
    exact W.iret (v := (nI 0)) hx hb hr (fun t ht hW => ⟨⟨(nI 0), (), rfl, Prod.mk.inj (Option.some.inj h), by rw [ht]; exact hP, va_K.moved hW.alike hK, hD⟩, hS.F ht⟩) hS.2.2 d_P_bodyOf_22
  · have h := of_neg h c_1
    refine lv_iload_n hx hb d_P_bodyOf_4 rfl (lv_at hl 1 rfl) ?_
    refine lv_aload_n hx hb d_P_bodyOf_5 rfl (lv_at hl 0 rfl) ?_
    refine va_get (D := (dC, dI)) (ci := 2) (v := .int v_count) (C := R_P) (T := F_P) (N := 2) hx hb hts lay_P hown hK hP 0 rfl rfl 1 (by decide) (hts _ flk_P_15) (fun _ h9 => h9) rfl d_P_bodyOf_6 ?_
    refine lv_icmp_ge (tgt := 21) hx hb d_P_bodyOf_9 (by decide) (fun c_9 => ?_) (fun c_9 => ?_)
    · have h := of_pos h c_9
      refine lv_iconst (v := (nI 0)) hx hb d_P_bodyOf_21 (by decide) ?_
      rw [hQ]
      exact W.iret (v := (nI 0)) hx hb hr (fun t ht hW => ⟨⟨(nI 0), (), rfl, Prod.mk.inj (Option.some.inj h), by rw [ht]; exact hP, va_K.moved hW.alike hK, hD⟩, hS.F ht⟩) hS.2.2 d_P_bodyOf_22
    · have h := of_neg h c_9
      refine lv_aload_n hx hb d_P_bodyOf_12 rfl (lv_at hl 0 rfl) ?_
      refine va_get (D := (dC, dI)) (ci := 2) (v := .ref h_bodies) (C := R_P) (T := F_P) (N := 2) hx hb hts lay_P hown hK hP 0 rfl rfl 0 (by decide) (hts _ flk_P_9) (fun _ h9 => h9) rfl d_P_bodyOf_13 ?_
      refine lv_iload_n hx hb d_P_bodyOf_16 rfl (lv_at hl 1 rfl) ?_
      obtain ⟨g_17, h⟩ := of_guard h
      refine va_iald hx hb hK hP 1 0 rfl rfl (inR_in g_17) d_P_bodyOf_17 ?_
      refine lv_goto (tgt := 22) hx hb d_P_bodyOf_18 (by decide) ?_
      rw [hQ]
      exact W.iret (v := v_bodies x1.toNatClampNeg) hx hb hr (fun t ht hW => ⟨⟨v_bodies x1.toNatClampNeg, (), rfl, Prod.mk.inj (Option.some.inj h), by rw [ht]; exact hP, va_K.moved hW.alike hK, hD⟩, hS.F ht⟩) hS.2.2 d_P_bodyOf_22
set_option maxHeartbeats 4000000 in
set_option maxRecDepth 100000 in
theorem c_P_contains (l : Launch) (dC : Nat → ClassId) (dI : Nat → Nat → Nat) (h_o h_bodies : Nat) (k_bodies : ClassId) (sz : Nat) (v_count : Int32) (v_bodies : Nat → Int32) (x1 : Int32) (r0 : Int32) (u0 : Unit) (h : m_P_contains v_count v_bodies x1 = some (r0, u0)) : Met l y_P_contains w_P_contains ({ frames := 1, cells := 0, slots := 0, locals := 21 } : Room) (va_Pc [.ref h_o, .int x1] (fun U => U.heap.size = sz ∧ va_P (dC, dI) classes [(h_o, .inr (2, [.ref h_bodies, .int v_count])), (h_bodies, .inl (k_bodies, 2, .inl v_bodies))] U.heap ∧ va_K (dC, dI) classes [(k_bodies, .int)] U ∧ va_D (fun _ => True) [(h_o, .inr (2, [.ref h_bodies, .int v_count])), (h_bodies, .inl (k_bodies, 2, .inl v_bodies))])) (va_Qi (fun (r : Int32) (u : Unit) => r = r0 ∧ u = u0) (fun (u : Unit) (t : State) => va_P (dC, dI) classes [(h_o, .inr (2, [.ref h_bodies, .int v_count])), (h_bodies, .inl (k_bodies, 2, .inl v_bodies))] t.heap ∧ va_K (dC, dI) classes [(k_bodies, .int)] t ∧ va_D (va_A [(h_o, .inr (2, [.ref h_bodies, .int v_count])), (h_bodies, .inl (k_bodies, 2, .inl v_bodies))] sz) [(h_o, .inr (2, [.ref h_bodies, .int v_count])), (h_bodies, .inl (k_bodies, 2, .inl v_bodies))]) (va_A [(h_o, .inr (2, [.ref h_bodies, .int v_count])), (h_bodies, .inl (k_bodies, 2, .inl v_bodies))] sz)) 0 0 (va_A [(h_o, .inr (2, [.ref h_bodies, .int v_count])), (h_bodies, .inl (k_bodies, 2, .inl v_bodies))] sz) := by
  refine Met.ofW (cc := b_P_contains) (maxL := 2) (ret := (some .boolean)) (by decide) rfl ?_
  intro p e s m args below meth c s₁ B hml hv
  obtain ⟨rfl, hsz, hP, hK, hD0⟩ := hv
  have hx := B.exec
  have hb := B.bytes
  have hr := B.returns
  have hts0 := atoms_spec (ws := w_P_contains) B.pre
  have hts : ∀ w ∈ lw_gd, w.before ([.ref h_o, .int x1] : List Value).toArray s = true := fun w h9 => hts0 w (List.mem_cons_of_mem _ h9)
  have hown : s.vm.findClass R_P = some m.cls := findClass_of_methodNamed B.named
  have hlocks := B.notSynchronized
  subst hsz
  have hD := hD0.self (sz := s.heap.size)
  generalize hAe : va_A [(h_o, .inr (2, [.ref h_bodies, .int v_count])), (h_bodies, .inl (k_bodies, 2, .inl v_bodies))] s.heap.size = A at hD ⊢
  have hA : ∀ q : Nat, s.heap.size ≤ q → A q := fun q h9 => by rw [← hAe]; exact Or.inr h9
  obtain ⟨H, eH⟩ : ∃ H : Heap, H = s.heap := ⟨_, rfl⟩
  have hS : va_S A s.heap H [] := by rw [eH]; exact va_S.rf
  have hP : va_P (dC, dI) classes [(h_o, .inr (2, [.ref h_bodies, .int v_count])), (h_bodies, .inl (k_bodies, 2, .inl v_bodies))] H := by rw [eH]; exact hP
  refine W_gen (fun Q hQ => ?_)
  refine W_heap eH ?_
  clear eH
  have hl := lv_entry ([.ref h_o, .int x1]) (n := 2) (Nat.le_of_ble_eq_true rfl)
  rw [lg_entry_eq]
  generalize (lg_sl ([.ref h_o, .int x1]) ++ List.replicate (2 - (lg_sl ([.ref h_o, .int x1])).length) Slot.unset).toArray = ls at hl ⊢
  have hl : lv_has ls 2 [(0, .ref h_o), (1, .int x1)] := hl
  unfold m_P_contains at h
  refine lv_aload_n hx hb d_P_contains_0 rfl (lv_at hl 0 rfl) ?_
  refine lv_iconst (v := (nI 0)) hx hb d_P_contains_1 (by decide) ?_
  have hPc := hP.sub (ws' := [(h_o, .inr (2, [.ref h_bodies, .int v_count])), (h_bodies, .inl (k_bodies, 2, .inl v_bodies))]) [0, 1] rfl
  have hDc := hD.sub (ws' := [(h_o, .inr (2, [.ref h_bodies, .int v_count])), (h_bodies, .inl (k_bodies, 2, .inl v_bodies))]) [0, 1] (by decide) rfl
  have hKc := hK.sub (tys' := [(k_bodies, .int)]) [0] rfl
  have hFc := va_free (wc := [(h_o, .inr (2, [.ref h_bodies, .int v_count])), (h_bodies, .inl (k_bodies, 2, .inl v_bodies))]) hD hS hA [0, 1] rfl
  obtain ⟨v_2, hc_2, h⟩ := of_bind h
  refine va_calli (va_runV (As := [.int (nI 0)]) (rest := []) ⟨hx, hb, hml, hown, hts⟩ (c_P_bodyOf l dC dI h_o h_bodies k_bodies H.size v_count v_bodies (nI 0) v_2.1 v_2.2 hc_2) (cwV 1 hts (gV mlk_P_19 ins_P_bodyOf sel_P_bodyOf ini_P cod_P_bodyOf) rfl rfl rfl (by decide +kernel) ⟨Nat.le_of_ble_eq_true rfl, Nat.le_of_ble_eq_true rfl⟩) ⟨fun a U g mk q => by obtain ⟨q0, q1, qP, qK, qD⟩ := q; exact ⟨q0, q1, qP, va_K.moved (u := U) (U := U.calling g mk a) (Vm.Alike.refl U.vm) qK, qD⟩, va_recv hKc hPc (ci := 2) (q0 := 0) rfl rfl, fun U hU hW => ⟨rfl, by rw [hU], by rw [hU]; exact hPc, va_K.moved hW.alike hKc, hDc.weaken (fun _ _ _ _ => trivial)⟩⟩ rfl rfl hl.1 rfl (lv_room (Nat.le_of_ble_eq_true rfl)) d_P_contains_2 ⟨Nat.le_of_ble_eq_true rfl, Nat.le_of_ble_eq_true rfl⟩) hS (fun q _ h9 => hFc q h9) hFc (fun r_2 u t H1 locs ht hvm hw hB hz1 hk1 hS => ?_)
  obtain ⟨rfl, rfl⟩ := hw
  obtain ⟨hP1, hK1, hD1⟩ := hB
  rw [ht] at hP1
  obtain ⟨hP, hD⟩ := va_join (wr := []) (w1 := [(h_o, .inr (2, [.ref h_bodies, .int v_count])), (h_bodies, .inl (k_bodies, 2, .inl v_bodies))]) hP hD [0, 1] [] rfl rfl (by decide) (by decide) hk1 hFc hP1 hD1
  have hP := hP.sub (ws' := [(h_o, .inr (2, [.ref h_bodies, .int v_count])), (h_bodies, .inl (k_bodies, 2, .inl v_bodies))]) [0, 1] rfl
  have hD := hD.sub (ws' := [(h_o, .inr (2, [.ref h_bodies, .int v_count])), (h_bodies, .inl (k_bodies, 2, .inl v_bodies))]) [0, 1] (by decide) rfl
  generalize H1 = H at hP hS ⊢
  refine lv_iload_n hx hb d_P_contains_5 rfl (lv_at hl 1 rfl) ?_
  refine lv_icmp_eq (tgt := 18) hx hb d_P_contains_6 (by decide) (fun c_6 => ?_) (fun c_6 => ?_)
  · have h := of_pos h c_6
    refine lv_iconst (v := (nI 1)) hx hb d_P_contains_18 (by decide) ?_
    refine lv_goto (tgt := 23) hx hb d_P_contains_19 (by decide) ?_
    rw [hQ]
    exact W.zret (v := (nI 1)) hx hb hr rfl (fun t ht hW => ⟨⟨(nI 1), (), rfl, Prod.mk.inj (Option.some.inj h), by rw [ht]; exact hP, va_K.moved hW.alike hK, hD⟩, hS.F ht⟩) hS.2.2 d_P_contains_23
  · have h := of_neg h c_6
    refine lv_aload_n hx hb d_P_contains_9 rfl (lv_at hl 0 rfl) ?_
    refine lv_iconst (v := (nI 1)) hx hb d_P_contains_10 (by decide) ?_
    have hPc := hP.sub (ws' := [(h_o, .inr (2, [.ref h_bodies, .int v_count])), (h_bodies, .inl (k_bodies, 2, .inl v_bodies))]) [0, 1] rfl
    have hDc := hD.sub (ws' := [(h_o, .inr (2, [.ref h_bodies, .int v_count])), (h_bodies, .inl (k_bodies, 2, .inl v_bodies))]) [0, 1] (by decide) rfl
    have hKc := hK.sub (tys' := [(k_bodies, .int)]) [0] rfl
    have hFc := va_free (wc := [(h_o, .inr (2, [.ref h_bodies, .int v_count])), (h_bodies, .inl (k_bodies, 2, .inl v_bodies))]) hD hS hA [0, 1] rfl
    obtain ⟨v_11, hc_11, h⟩ := of_bind h
    refine va_calli (va_runV (As := [.int (nI 1)]) (rest := []) ⟨hx, hb, hml, hown, hts⟩ (c_P_bodyOf l dC dI h_o h_bodies k_bodies H.size v_count v_bodies (nI 1) v_11.1 v_11.2 hc_11) (cwV 1 hts (gV mlk_P_19 ins_P_bodyOf sel_P_bodyOf ini_P cod_P_bodyOf) rfl rfl rfl (by decide +kernel) ⟨Nat.le_of_ble_eq_true rfl, Nat.le_of_ble_eq_true rfl⟩) ⟨fun a U g mk q => by obtain ⟨q0, q1, qP, qK, qD⟩ := q; exact ⟨q0, q1, qP, va_K.moved (u := U) (U := U.calling g mk a) (Vm.Alike.refl U.vm) qK, qD⟩, va_recv hKc hPc (ci := 2) (q0 := 0) rfl rfl, fun U hU hW => ⟨rfl, by rw [hU], by rw [hU]; exact hPc, va_K.moved hW.alike hKc, hDc.weaken (fun _ _ _ _ => trivial)⟩⟩ rfl rfl hl.1 rfl (lv_room (Nat.le_of_ble_eq_true rfl)) d_P_contains_11 ⟨Nat.le_of_ble_eq_true rfl, Nat.le_of_ble_eq_true rfl⟩) hS (fun q _ h9 => hFc q h9) hFc (fun r_11 u t H1 locs ht hvm hw hB hz1 hk1 hS => ?_)
    obtain ⟨rfl, rfl⟩ := hw
    obtain ⟨hP1, hK1, hD1⟩ := hB
    rw [ht] at hP1
    obtain ⟨hP, hD⟩ := va_join (wr := []) (w1 := [(h_o, .inr (2, [.ref h_bodies, .int v_count])), (h_bodies, .inl (k_bodies, 2, .inl v_bodies))]) hP hD [0, 1] [] rfl rfl (by decide) (by decide) hk1 hFc hP1 hD1
    have hP := hP.sub (ws' := [(h_o, .inr (2, [.ref h_bodies, .int v_count])), (h_bodies, .inl (k_bodies, 2, .inl v_bodies))]) [0, 1] rfl
    have hD := hD.sub (ws' := [(h_o, .inr (2, [.ref h_bodies, .int v_count])), (h_bodies, .inl (k_bodies, 2, .inl v_bodies))]) [0, 1] (by decide) rfl
    generalize H1 = H at hP hS ⊢
    refine lv_iload_n hx hb d_P_contains_14 rfl (lv_at hl 1 rfl) ?_
    refine lv_icmp_ne (tgt := 22) hx hb d_P_contains_15 (by decide) (fun c_15 => ?_) (fun c_15 => ?_)
    · have h := of_neg h c_15
      refine lv_iconst (v := (nI 0)) hx hb d_P_contains_22 (by decide) ?_
      rw [hQ]
      exact W.zret (v := (nI 0)) hx hb hr rfl (fun t ht hW => ⟨⟨(nI 0), (), rfl, Prod.mk.inj (Option.some.inj h), by rw [ht]; exact hP, va_K.moved hW.alike hK, hD⟩, hS.F ht⟩) hS.2.2 d_P_contains_23
    · have h := of_pos h c_15
      refine lv_iconst (v := (nI 1)) hx hb d_P_contains_18 (by decide) ?_
      refine lv_goto (tgt := 23) hx hb d_P_contains_19 (by decide) ?_
      rw [hQ]
      exact W.zret (v := (nI 1)) hx hb hr rfl (fun t ht hW => ⟨⟨(nI 1), (), rfl, Prod.mk.inj (Option.some.inj h), by rw [ht]; exact hP, va_K.moved hW.alike hK, hD⟩, hS.F ht⟩) hS.2.2 d_P_contains_23
set_option maxHeartbeats 4000000 in
set_option maxRecDepth 100000 in
theorem c_P_append (l : Launch) (dC : Nat → ClassId) (dI : Nat → Nat → Nat) (h_o h_bodies : Nat) (k_bodies : ClassId) (sz : Nat) (v_count : Int32) (v_bodies : Nat → Int32) (x1 : Int32) (r0 : Int32) (u0 : Int32 × (Nat → Int32)) (h : m_P_append v_count v_bodies x1 = some (r0, u0)) : Met l y_P_append w_P_append ({ frames := 0, cells := 0, slots := 0, locals := 0 } : Room) (va_Pc [.ref h_o, .int x1] (fun U => U.heap.size = sz ∧ va_P (dC, dI) classes [(h_o, .inr (2, [.ref h_bodies, .int v_count])), (h_bodies, .inl (k_bodies, 2, .inl v_bodies))] U.heap ∧ va_K (dC, dI) classes [(k_bodies, .int)] U ∧ va_D (fun _ => True) [(h_o, .inr (2, [.ref h_bodies, .int v_count])), (h_bodies, .inl (k_bodies, 2, .inl v_bodies))])) (va_Qi (fun (r : Int32) (u : Int32 × (Nat → Int32)) => r = r0 ∧ u = u0) (fun (u : Int32 × (Nat → Int32)) (t : State) => va_P (dC, dI) classes [(h_o, .inr (2, [.ref h_bodies, .int u.1])), (h_bodies, .inl (k_bodies, 2, .inl u.2))] t.heap ∧ va_K (dC, dI) classes [(k_bodies, .int)] t ∧ va_D (va_A [(h_o, .inr (2, [.ref h_bodies, .int v_count])), (h_bodies, .inl (k_bodies, 2, .inl v_bodies))] sz) [(h_o, .inr (2, [.ref h_bodies, .int u.1])), (h_bodies, .inl (k_bodies, 2, .inl u.2))]) (va_A [(h_o, .inr (2, [.ref h_bodies, .int v_count])), (h_bodies, .inl (k_bodies, 2, .inl v_bodies))] sz)) 0 0 (va_A [(h_o, .inr (2, [.ref h_bodies, .int v_count])), (h_bodies, .inl (k_bodies, 2, .inl v_bodies))] sz) := by
  refine Met.ofW (cc := b_P_append) (maxL := 2) (ret := (some .int)) (by decide) rfl ?_
  intro p e s m args below meth c s₁ B hml hv
  obtain ⟨rfl, hsz, hP, hK, hD0⟩ := hv
  have hx := B.exec
  have hb := B.bytes
  have hr := B.returns
  have hts0 := atoms_spec (ws := w_P_append) B.pre
  have hts : ∀ w ∈ lw_gd, w.before ([.ref h_o, .int x1] : List Value).toArray s = true := fun w h9 => hts0 w (List.mem_cons_of_mem _ h9)
  have hown : s.vm.findClass R_P = some m.cls := findClass_of_methodNamed B.named
  have hlocks := B.notSynchronized
  subst hsz
  have hD := hD0.self (sz := s.heap.size)
  generalize hAe : va_A [(h_o, .inr (2, [.ref h_bodies, .int v_count])), (h_bodies, .inl (k_bodies, 2, .inl v_bodies))] s.heap.size = A at hD ⊢
  have hA : ∀ q : Nat, s.heap.size ≤ q → A q := fun q h9 => by rw [← hAe]; exact Or.inr h9
  obtain ⟨H, eH⟩ : ∃ H : Heap, H = s.heap := ⟨_, rfl⟩
  have hS : va_S A s.heap H [] := by rw [eH]; exact va_S.rf
  have hP : va_P (dC, dI) classes [(h_o, .inr (2, [.ref h_bodies, .int v_count])), (h_bodies, .inl (k_bodies, 2, .inl v_bodies))] H := by rw [eH]; exact hP
  refine W_gen (fun Q hQ => ?_)
  refine W_heap eH ?_
  clear eH
  have hl := lv_entry ([.ref h_o, .int x1]) (n := 2) (Nat.le_of_ble_eq_true rfl)
  rw [lg_entry_eq]
  generalize (lg_sl ([.ref h_o, .int x1]) ++ List.replicate (2 - (lg_sl ([.ref h_o, .int x1])).length) Slot.unset).toArray = ls at hl ⊢
  have hl : lv_has ls 2 [(0, .ref h_o), (1, .int x1)] := hl
  unfold m_P_append at h
  refine lv_aload_n hx hb d_P_append_0 rfl (lv_at hl 0 rfl) ?_
  refine va_get (D := (dC, dI)) (ci := 2) (v := .int v_count) (C := R_P) (T := F_P) (N := 2) hx hb hts lay_P hown hK hP 0 rfl rfl 1 (by decide) (hts _ flk_P_15) (fun _ h9 => h9) rfl d_P_append_1 ?_
  refine lv_iconst (v := (nI 2)) hx hb d_P_append_4 (by decide) ?_
  refine lv_icmp_lt (tgt := 10) hx hb d_P_append_5 (by decide) (fun c_5 => ?_) (fun c_5 => ?_)
  · have h := of_pos h c_5
    refine lv_aload_n hx hb d_P_append_10 rfl (lv_at hl 0 rfl) ?_
    refine va_get (D := (dC, dI)) (ci := 2) (v := .ref h_bodies) (C := R_P) (T := F_P) (N := 2) hx hb hts lay_P hown hK hP 0 rfl rfl 0 (by decide) (hts _ flk_P_9) (fun _ h9 => h9) rfl d_P_append_11 ?_
    refine lv_aload_n hx hb d_P_append_14 rfl (lv_at hl 0 rfl) ?_
    refine va_get (D := (dC, dI)) (ci := 2) (v := .int v_count) (C := R_P) (T := F_P) (N := 2) hx hb hts lay_P hown hK hP 0 rfl rfl 1 (by decide) (hts _ flk_P_15) (fun _ h9 => h9) rfl d_P_append_15 ?_
    refine lv_iload_n hx hb d_P_append_18 rfl (lv_at hl 1 rfl) ?_
    obtain ⟨g_19, h⟩ := of_guard h
    refine va_iast hx hb hK hP hD hS 1 0 rfl rfl (inR_in g_19) d_P_append_19 (fun H locs hP hD hS => ?_)
    have hP : va_P (dC, dI) classes [(h_o, .inr (2, [.ref h_bodies, .int v_count])), (h_bodies, .inl (k_bodies, 2, .inl (upd v_bodies v_count.toNatClampNeg x1)))] H := hP
    have hD : va_D A [(h_o, .inr (2, [.ref h_bodies, .int v_count])), (h_bodies, .inl (k_bodies, 2, .inl (upd v_bodies v_count.toNatClampNeg x1)))] := hD
    refine lv_aload_n hx hb d_P_append_20 rfl (lv_at hl 0 rfl) ?_
    refine lv_dup hx hb d_P_append_21 rfl ?_
    refine va_get (D := (dC, dI)) (ci := 2) (v := .int v_count) (C := R_P) (T := F_P) (N := 2) hx hb hts lay_P hown hK hP 0 rfl rfl 1 (by decide) (hts _ flk_P_15) (fun _ h9 => h9) rfl d_P_append_22 ?_
    refine lv_iconst (v := (nI 1)) hx hb d_P_append_25 (by decide) ?_
    refine lv_iadd hx hb d_P_append_26 ?_
    refine va_put (D := (dC, dI)) (ci := 2) (v := .int (v_count + (nI 1))) (ty := .int) (C := R_P) (T := F_P) (N := 2) hx hb hts lay_P t_P t_P_ok n_P hown hK hP hD hS 0 rfl rfl 1 (by decide) (hts _ flk_P_15) (fun _ h9 => h9) rfl (by decide +kernel) rfl rfl (Nat.le_of_ble_eq_true rfl) d_P_append_27 (fun H locs hP hD hS => ?_)
    have hP : va_P (dC, dI) classes [(h_o, .inr (2, [.ref h_bodies, .int (v_count + (nI 1))])), (h_bodies, .inl (k_bodies, 2, .inl (upd v_bodies v_count.toNatClampNeg x1)))] H := hP
    have hD : va_D A [(h_o, .inr (2, [.ref h_bodies, .int (v_count + (nI 1))])), (h_bodies, .inl (k_bodies, 2, .inl (upd v_bodies v_count.toNatClampNeg x1)))] := hD
    refine lv_aload_n hx hb d_P_append_30 rfl (lv_at hl 0 rfl) ?_
    refine va_get (D := (dC, dI)) (ci := 2) (v := .int (v_count + (nI 1))) (C := R_P) (T := F_P) (N := 2) hx hb hts lay_P hown hK hP 0 rfl rfl 1 (by decide) (hts _ flk_P_15) (fun _ h9 => h9) rfl d_P_append_31 ?_
    refine lv_iconst (v := (nI 1)) hx hb d_P_append_34 (by decide) ?_
    refine lv_isub hx hb d_P_append_35 ?_
    rw [hQ]
    exact W.iret (v := (v_count + (nI 1)) - (nI 1)) hx hb hr (fun t ht hW => ⟨⟨(v_count + (nI 1)) - (nI 1), (v_count + (nI 1), upd v_bodies v_count.toNatClampNeg x1), rfl, Prod.mk.inj (Option.some.inj h), by rw [ht]; exact hP, va_K.moved hW.alike hK, hD⟩, hS.F ht⟩) hS.2.2 d_P_append_36
  · have h := of_neg h c_5
    refine lv_iconst (v := (-1 : Int32)) hx hb d_P_append_8 (by decide) ?_
    rw [hQ]
    exact W.iret (v := (-1 : Int32)) hx hb hr (fun t ht hW => ⟨⟨(-1 : Int32), (v_count, v_bodies), rfl, Prod.mk.inj (Option.some.inj h), by rw [ht]; exact hP, va_K.moved hW.alike hK, hD⟩, hS.F ht⟩) hS.2.2 d_P_append_9
set_option maxHeartbeats 4000000 in
set_option maxRecDepth 100000 in
theorem c_P_remove (l : Launch) (dC : Nat → ClassId) (dI : Nat → Nat → Nat) (h_o h_bodies : Nat) (k_bodies : ClassId) (sz : Nat) (v_count : Int32) (v_bodies : Nat → Int32) (x1 : Int32) (r0 : Int32) (u0 : Int32 × (Nat → Int32)) (h : m_P_remove v_count v_bodies x1 = some (r0, u0)) : Met l y_P_remove w_P_remove ({ frames := 1, cells := 0, slots := 0, locals := 21 } : Room) (va_Pc [.ref h_o, .int x1] (fun U => U.heap.size = sz ∧ va_P (dC, dI) classes [(h_o, .inr (2, [.ref h_bodies, .int v_count])), (h_bodies, .inl (k_bodies, 2, .inl v_bodies))] U.heap ∧ va_K (dC, dI) classes [(k_bodies, .int)] U ∧ va_D (fun _ => True) [(h_o, .inr (2, [.ref h_bodies, .int v_count])), (h_bodies, .inl (k_bodies, 2, .inl v_bodies))])) (va_Qi (fun (r : Int32) (u : Int32 × (Nat → Int32)) => r = r0 ∧ u = u0) (fun (u : Int32 × (Nat → Int32)) (t : State) => va_P (dC, dI) classes [(h_o, .inr (2, [.ref h_bodies, .int u.1])), (h_bodies, .inl (k_bodies, 2, .inl u.2))] t.heap ∧ va_K (dC, dI) classes [(k_bodies, .int)] t ∧ va_D (va_A [(h_o, .inr (2, [.ref h_bodies, .int v_count])), (h_bodies, .inl (k_bodies, 2, .inl v_bodies))] sz) [(h_o, .inr (2, [.ref h_bodies, .int u.1])), (h_bodies, .inl (k_bodies, 2, .inl u.2))]) (va_A [(h_o, .inr (2, [.ref h_bodies, .int v_count])), (h_bodies, .inl (k_bodies, 2, .inl v_bodies))] sz)) 0 0 (va_A [(h_o, .inr (2, [.ref h_bodies, .int v_count])), (h_bodies, .inl (k_bodies, 2, .inl v_bodies))] sz) := by
  refine Met.ofW (cc := b_P_remove) (maxL := 2) (ret := (some .boolean)) (by decide) rfl ?_
  intro p e s m args below meth c s₁ B hml hv
  obtain ⟨rfl, hsz, hP, hK, hD0⟩ := hv
  have hx := B.exec
  have hb := B.bytes
  have hr := B.returns
  have hts0 := atoms_spec (ws := w_P_remove) B.pre
  have hts : ∀ w ∈ lw_gd, w.before ([.ref h_o, .int x1] : List Value).toArray s = true := fun w h9 => hts0 w (List.mem_cons_of_mem _ h9)
  have hown : s.vm.findClass R_P = some m.cls := findClass_of_methodNamed B.named
  have hlocks := B.notSynchronized
  subst hsz
  have hD := hD0.self (sz := s.heap.size)
  generalize hAe : va_A [(h_o, .inr (2, [.ref h_bodies, .int v_count])), (h_bodies, .inl (k_bodies, 2, .inl v_bodies))] s.heap.size = A at hD ⊢
  have hA : ∀ q : Nat, s.heap.size ≤ q → A q := fun q h9 => by rw [← hAe]; exact Or.inr h9
  obtain ⟨H, eH⟩ : ∃ H : Heap, H = s.heap := ⟨_, rfl⟩
  have hS : va_S A s.heap H [] := by rw [eH]; exact va_S.rf
  have hP : va_P (dC, dI) classes [(h_o, .inr (2, [.ref h_bodies, .int v_count])), (h_bodies, .inl (k_bodies, 2, .inl v_bodies))] H := by rw [eH]; exact hP
  refine W_gen (fun Q hQ => ?_)
  refine W_heap eH ?_
  clear eH
  have hl := lv_entry ([.ref h_o, .int x1]) (n := 2) (Nat.le_of_ble_eq_true rfl)
  rw [lg_entry_eq]
  generalize (lg_sl ([.ref h_o, .int x1]) ++ List.replicate (2 - (lg_sl ([.ref h_o, .int x1])).length) Slot.unset).toArray = ls at hl ⊢
  have hl : lv_has ls 2 [(0, .ref h_o), (1, .int x1)] := hl
  have J_26 : ∀ (v_count : Int32) (v_bodies : Nat → Int32), m_P_remove_26 v_count v_bodies = some (r0, u0) → ∀ (H : Heap) (locs : List Loc), va_P (dC, dI) classes [(h_o, .inr (2, [.ref h_bodies, .int v_count])), (h_bodies, .inl (k_bodies, 2, .inl v_bodies))] H → va_D A [(h_o, .inr (2, [.ref h_bodies, .int v_count])), (h_bodies, .inl (k_bodies, 2, .inl v_bodies))] → va_S A s.heap H locs → ∀ (ls : Array Slot), lv_has ls 2 [(0, .ref h_o)] → W p l e (headSpec w_P_remove ({ frames := 1, cells := 0, slots := 0, locals := 21 } : Room)).room s m ([.ref h_o, .int x1] : List Value).toArray below meth c H locs 0 0 Q (F0 m 26 ls []) := by
    intro v_count v_bodies h H locs hP hD hS ls hl
    unfold m_P_remove_26 at h
    refine lv_aload_n hx hb d_P_remove_26 rfl (lv_at hl 0 rfl) ?_
    refine va_get (D := (dC, dI)) (ci := 2) (v := .ref h_bodies) (C := R_P) (T := F_P) (N := 2) hx hb hts lay_P hown hK hP 0 rfl rfl 0 (by decide) (hts _ flk_P_9) (fun _ h9 => h9) rfl d_P_remove_27 ?_
    refine lv_iconst (v := (nI 1)) hx hb d_P_remove_30 (by decide) ?_
    refine lv_iconst (v := (nI 0)) hx hb d_P_remove_31 (by decide) ?_
    obtain ⟨g_32, h⟩ := of_guard h
    refine va_iast hx hb hK hP hD hS 1 0 rfl rfl (inR_in g_32) d_P_remove_32 (fun H locs hP hD hS => ?_)
    have hP : va_P (dC, dI) classes [(h_o, .inr (2, [.ref h_bodies, .int v_count])), (h_bodies, .inl (k_bodies, 2, .inl (upd v_bodies (nI 1).toNatClampNeg (nI 0))))] H := hP
    have hD : va_D A [(h_o, .inr (2, [.ref h_bodies, .int v_count])), (h_bodies, .inl (k_bodies, 2, .inl (upd v_bodies (nI 1).toNatClampNeg (nI 0))))] := hD
    refine lv_aload_n hx hb d_P_remove_33 rfl (lv_at hl 0 rfl) ?_
    refine lv_dup hx hb d_P_remove_34 rfl ?_
    refine va_get (D := (dC, dI)) (ci := 2) (v := .int v_count) (C := R_P) (T := F_P) (N := 2) hx hb hts lay_P hown hK hP 0 rfl rfl 1 (by decide) (hts _ flk_P_15) (fun _ h9 => h9) rfl d_P_remove_35 ?_
    refine lv_iconst (v := (nI 1)) hx hb d_P_remove_38 (by decide) ?_
    refine lv_isub hx hb d_P_remove_39 ?_
    refine va_put (D := (dC, dI)) (ci := 2) (v := .int (v_count - (nI 1))) (ty := .int) (C := R_P) (T := F_P) (N := 2) hx hb hts lay_P t_P t_P_ok n_P hown hK hP hD hS 0 rfl rfl 1 (by decide) (hts _ flk_P_15) (fun _ h9 => h9) rfl (by decide +kernel) rfl rfl (Nat.le_of_ble_eq_true rfl) d_P_remove_40 (fun H locs hP hD hS => ?_)
    have hP : va_P (dC, dI) classes [(h_o, .inr (2, [.ref h_bodies, .int (v_count - (nI 1))])), (h_bodies, .inl (k_bodies, 2, .inl (upd v_bodies (nI 1).toNatClampNeg (nI 0))))] H := hP
    have hD : va_D A [(h_o, .inr (2, [.ref h_bodies, .int (v_count - (nI 1))])), (h_bodies, .inl (k_bodies, 2, .inl (upd v_bodies (nI 1).toNatClampNeg (nI 0))))] := hD
    refine lv_iconst (v := (nI 1)) hx hb d_P_remove_43 (by decide) ?_
    rw [hQ]
    exact W.zret (v := (nI 1)) hx hb hr rfl (fun t ht hW => ⟨⟨(nI 1), (v_count - (nI 1), upd v_bodies (nI 1).toNatClampNeg (nI 0)), rfl, Prod.mk.inj (Option.some.inj h), by rw [ht]; exact hP, va_K.moved hW.alike hK, hD⟩, hS.F ht⟩) hS.2.2 d_P_remove_44
  unfold m_P_remove at h
  refine lv_aload_n hx hb d_P_remove_0 rfl (lv_at hl 0 rfl) ?_
  refine lv_iload_n hx hb d_P_remove_1 rfl (lv_at hl 1 rfl) ?_
  have hPc := hP.sub (ws' := [(h_o, .inr (2, [.ref h_bodies, .int v_count])), (h_bodies, .inl (k_bodies, 2, .inl v_bodies))]) [0, 1] rfl
  have hDc := hD.sub (ws' := [(h_o, .inr (2, [.ref h_bodies, .int v_count])), (h_bodies, .inl (k_bodies, 2, .inl v_bodies))]) [0, 1] (by decide) rfl
  have hKc := hK.sub (tys' := [(k_bodies, .int)]) [0] rfl
  have hFc := va_free (wc := [(h_o, .inr (2, [.ref h_bodies, .int v_count])), (h_bodies, .inl (k_bodies, 2, .inl v_bodies))]) hD hS hA [0, 1] rfl
  obtain ⟨v_2, hc_2, h⟩ := of_bind h
  refine va_calli (va_runV (As := [.int x1]) (rest := []) ⟨hx, hb, hml, hown, hts⟩ (c_P_bodyOf l dC dI h_o h_bodies k_bodies H.size v_count v_bodies x1 v_2.1 v_2.2 hc_2) (cwV 1 hts (gV mlk_P_19 ins_P_bodyOf sel_P_bodyOf ini_P cod_P_bodyOf) rfl rfl rfl (by decide +kernel) ⟨Nat.le_of_ble_eq_true rfl, Nat.le_of_ble_eq_true rfl⟩) ⟨fun a U g mk q => by obtain ⟨q0, q1, qP, qK, qD⟩ := q; exact ⟨q0, q1, qP, va_K.moved (u := U) (U := U.calling g mk a) (Vm.Alike.refl U.vm) qK, qD⟩, va_recv hKc hPc (ci := 2) (q0 := 0) rfl rfl, fun U hU hW => ⟨rfl, by rw [hU], by rw [hU]; exact hPc, va_K.moved hW.alike hKc, hDc.weaken (fun _ _ _ _ => trivial)⟩⟩ rfl rfl hl.1 rfl (lv_room (Nat.le_of_ble_eq_true rfl)) d_P_remove_2 ⟨Nat.le_of_ble_eq_true rfl, Nat.le_of_ble_eq_true rfl⟩) hS (fun q _ h9 => hFc q h9) hFc (fun r_2 u t H1 locs ht hvm hw hB hz1 hk1 hS => ?_)
  obtain ⟨rfl, rfl⟩ := hw
  obtain ⟨hP1, hK1, hD1⟩ := hB
  rw [ht] at hP1
  obtain ⟨hP, hD⟩ := va_join (wr := []) (w1 := [(h_o, .inr (2, [.ref h_bodies, .int v_count])), (h_bodies, .inl (k_bodies, 2, .inl v_bodies))]) hP hD [0, 1] [] rfl rfl (by decide) (by decide) hk1 hFc hP1 hD1
  have hP := hP.sub (ws' := [(h_o, .inr (2, [.ref h_bodies, .int v_count])), (h_bodies, .inl (k_bodies, 2, .inl v_bodies))]) [0, 1] rfl
  have hD := hD.sub (ws' := [(h_o, .inr (2, [.ref h_bodies, .int v_count])), (h_bodies, .inl (k_bodies, 2, .inl v_bodies))]) [0, 1] (by decide) rfl
  generalize H1 = H at hP hS ⊢
  refine lv_if_ne (tgt := 10) hx hb d_P_remove_5 (by decide) (fun c_5 => ?_) (fun c_5 => ?_)
  · have h := of_neg h c_5
    refine lv_iload_n hx hb d_P_remove_10 rfl (lv_at hl 1 rfl) ?_
    refine lv_if_ne (tgt := 26) hx hb d_P_remove_11 (by decide) (fun c_11 => ?_) (fun c_11 => ?_)
    · have h := of_neg h c_11
      exact J_26 v_count v_bodies h _ _ hP hD hS ls (lv_sub hl [0] rfl)
    · have h := of_pos h c_11
      refine lv_aload_n hx hb d_P_remove_14 rfl (lv_at hl 0 rfl) ?_
      refine va_get (D := (dC, dI)) (ci := 2) (v := .ref h_bodies) (C := R_P) (T := F_P) (N := 2) hx hb hts lay_P hown hK hP 0 rfl rfl 0 (by decide) (hts _ flk_P_9) (fun _ h9 => h9) rfl d_P_remove_15 ?_
      refine lv_iconst (v := (nI 0)) hx hb d_P_remove_18 (by decide) ?_
      refine lv_aload_n hx hb d_P_remove_19 rfl (lv_at hl 0 rfl) ?_
      refine va_get (D := (dC, dI)) (ci := 2) (v := .ref h_bodies) (C := R_P) (T := F_P) (N := 2) hx hb hts lay_P hown hK hP 0 rfl rfl 0 (by decide) (hts _ flk_P_9) (fun _ h9 => h9) rfl d_P_remove_20 ?_
      refine lv_iconst (v := (nI 1)) hx hb d_P_remove_23 (by decide) ?_
      obtain ⟨g_24, h⟩ := of_guard h
      refine va_iald hx hb hK hP 1 0 rfl rfl (inR_in g_24) d_P_remove_24 ?_
      obtain ⟨g_25, h⟩ := of_guard h
      refine va_iast hx hb hK hP hD hS 1 0 rfl rfl (inR_in g_25) d_P_remove_25 (fun H locs hP hD hS => ?_)
      have hP : va_P (dC, dI) classes [(h_o, .inr (2, [.ref h_bodies, .int v_count])), (h_bodies, .inl (k_bodies, 2, .inl (upd v_bodies (nI 0).toNatClampNeg (v_bodies (nI 1).toNatClampNeg))))] H := hP
      have hD : va_D A [(h_o, .inr (2, [.ref h_bodies, .int v_count])), (h_bodies, .inl (k_bodies, 2, .inl (upd v_bodies (nI 0).toNatClampNeg (v_bodies (nI 1).toNatClampNeg))))] := hD
      exact J_26 v_count (upd v_bodies (nI 0).toNatClampNeg (v_bodies (nI 1).toNatClampNeg)) h _ _ hP hD hS ls (lv_sub hl [0] rfl)
  · have h := of_pos h c_5
    refine lv_iconst (v := (nI 0)) hx hb d_P_remove_8 (by decide) ?_
    rw [hQ]
    exact W.zret (v := (nI 0)) hx hb hr rfl (fun t ht hW => ⟨⟨(nI 0), (v_count, v_bodies), rfl, Prod.mk.inj (Option.some.inj h), by rw [ht]; exact hP, va_K.moved hW.alike hK, hD⟩, hS.F ht⟩) hS.2.2 d_P_remove_9
set_option maxHeartbeats 4000000 in
set_option maxRecDepth 100000 in
theorem c_P_become (l : Launch) (dC : Nat → ClassId) (dI : Nat → Nat → Nat) (h_o h_bodies : Nat) (k_bodies : ClassId) (sz : Nat) (v_count : Int32) (v_bodies : Nat → Int32) (x1 : Int32) (x2 : Int32) (u0 : Int32 × (Nat → Int32)) (h : m_P_become v_count v_bodies x1 x2 = some u0) : Met l y_P_become w_P_become ({ frames := 0, cells := 0, slots := 0, locals := 0 } : Room) (va_Pc [.ref h_o, .int x1, .int x2] (fun U => U.heap.size = sz ∧ va_P (dC, dI) classes [(h_o, .inr (2, [.ref h_bodies, .int v_count])), (h_bodies, .inl (k_bodies, 2, .inl v_bodies))] U.heap ∧ va_K (dC, dI) classes [(k_bodies, .int)] U ∧ va_D (fun _ => True) [(h_o, .inr (2, [.ref h_bodies, .int v_count])), (h_bodies, .inl (k_bodies, 2, .inl v_bodies))])) (va_Qv (fun (u : Int32 × (Nat → Int32)) => u = u0) (fun (u : Int32 × (Nat → Int32)) (t : State) => va_P (dC, dI) classes [(h_o, .inr (2, [.ref h_bodies, .int u.1])), (h_bodies, .inl (k_bodies, 2, .inl u.2))] t.heap ∧ va_K (dC, dI) classes [(k_bodies, .int)] t ∧ va_D (va_A [(h_o, .inr (2, [.ref h_bodies, .int v_count])), (h_bodies, .inl (k_bodies, 2, .inl v_bodies))] sz) [(h_o, .inr (2, [.ref h_bodies, .int u.1])), (h_bodies, .inl (k_bodies, 2, .inl u.2))]) (va_A [(h_o, .inr (2, [.ref h_bodies, .int v_count])), (h_bodies, .inl (k_bodies, 2, .inl v_bodies))] sz)) 0 0 (va_A [(h_o, .inr (2, [.ref h_bodies, .int v_count])), (h_bodies, .inl (k_bodies, 2, .inl v_bodies))] sz) := by
  refine Met.ofW (cc := b_P_become) (maxL := 3) (ret := none) (by decide) rfl ?_
  intro p e s m args below meth c s₁ B hml hv
  obtain ⟨rfl, hsz, hP, hK, hD0⟩ := hv
  have hx := B.exec
  have hb := B.bytes
  have hr := B.returns
  have hts0 := atoms_spec (ws := w_P_become) B.pre
  have hts : ∀ w ∈ lw_gd, w.before ([.ref h_o, .int x1, .int x2] : List Value).toArray s = true := fun w h9 => hts0 w (List.mem_cons_of_mem _ h9)
  have hown : s.vm.findClass R_P = some m.cls := findClass_of_methodNamed B.named
  have hlocks := B.notSynchronized
  subst hsz
  have hD := hD0.self (sz := s.heap.size)
  generalize hAe : va_A [(h_o, .inr (2, [.ref h_bodies, .int v_count])), (h_bodies, .inl (k_bodies, 2, .inl v_bodies))] s.heap.size = A at hD ⊢
  have hA : ∀ q : Nat, s.heap.size ≤ q → A q := fun q h9 => by rw [← hAe]; exact Or.inr h9
  obtain ⟨H, eH⟩ : ∃ H : Heap, H = s.heap := ⟨_, rfl⟩
  have hS : va_S A s.heap H [] := by rw [eH]; exact va_S.rf
  have hP : va_P (dC, dI) classes [(h_o, .inr (2, [.ref h_bodies, .int v_count])), (h_bodies, .inl (k_bodies, 2, .inl v_bodies))] H := by rw [eH]; exact hP
  refine W_gen (fun Q hQ => ?_)
  refine W_heap eH ?_
  clear eH
  have hl := lv_entry ([.ref h_o, .int x1, .int x2]) (n := 3) (Nat.le_of_ble_eq_true rfl)
  rw [lg_entry_eq]
  generalize (lg_sl ([.ref h_o, .int x1, .int x2]) ++ List.replicate (3 - (lg_sl ([.ref h_o, .int x1, .int x2])).length) Slot.unset).toArray = ls at hl ⊢
  have hl : lv_has ls 3 [(0, .ref h_o), (1, .int x1), (2, .int x2)] := hl
  have J_42 : ∀ (v_count : Int32) (v_bodies : Nat → Int32) (y0 : Int32) (y1 : Int32), m_P_become_42 v_count v_bodies y0 y1 = some u0 → ∀ (H : Heap) (locs : List Loc), va_P (dC, dI) classes [(h_o, .inr (2, [.ref h_bodies, .int v_count])), (h_bodies, .inl (k_bodies, 2, .inl v_bodies))] H → va_D A [(h_o, .inr (2, [.ref h_bodies, .int v_count])), (h_bodies, .inl (k_bodies, 2, .inl v_bodies))] → va_S A s.heap H locs → ∀ (ls : Array Slot), lv_has ls 3 [] → W p l e (headSpec w_P_become ({ frames := 0, cells := 0, slots := 0, locals := 0 } : Room)).room s m ([.ref h_o, .int x1, .int x2] : List Value).toArray below meth c H locs 0 0 Q (F0 m 42 ls [.int y0, .int y1, .ref h_bodies]) := by
    intro v_count v_bodies y0 y1 h H locs hP hD hS ls hl
    unfold m_P_become_42 at h
    obtain ⟨g_42, h⟩ := of_guard h
    refine va_iast hx hb hK hP hD hS 1 0 rfl rfl (inR_in g_42) d_P_become_42 (fun H locs hP hD hS => ?_)
    have hP : va_P (dC, dI) classes [(h_o, .inr (2, [.ref h_bodies, .int v_count])), (h_bodies, .inl (k_bodies, 2, .inl (upd v_bodies y1.toNatClampNeg y0)))] H := hP
    have hD : va_D A [(h_o, .inr (2, [.ref h_bodies, .int v_count])), (h_bodies, .inl (k_bodies, 2, .inl (upd v_bodies y1.toNatClampNeg y0)))] := hD
    rw [hQ]
    exact W.vret hx hb hr (fun t ht hW => ⟨⟨(v_count, upd v_bodies y1.toNatClampNeg y0), rfl, Option.some.inj h, by rw [ht]; exact hP, va_K.moved hW.alike hK, hD⟩, hS.F ht⟩) hS.2.2 d_P_become_43
  have J_27 : ∀ (v_count : Int32) (v_bodies : Nat → Int32) (z1 : Int32) (z2 : Int32) (y0 : Int32) (y1 : Int32), m_P_become_27 v_count v_bodies z1 z2 y0 y1 = some u0 → ∀ (H : Heap) (locs : List Loc), va_P (dC, dI) classes [(h_o, .inr (2, [.ref h_bodies, .int v_count])), (h_bodies, .inl (k_bodies, 2, .inl v_bodies))] H → va_D A [(h_o, .inr (2, [.ref h_bodies, .int v_count])), (h_bodies, .inl (k_bodies, 2, .inl v_bodies))] → va_S A s.heap H locs → ∀ (ls : Array Slot), lv_has ls 3 [(0, .ref h_o), (1, .int z1), (2, .int z2)] → W p l e (headSpec w_P_become ({ frames := 0, cells := 0, slots := 0, locals := 0 } : Room)).room s m ([.ref h_o, .int x1, .int x2] : List Value).toArray below meth c H locs 0 0 Q (F0 m 27 ls [.int y0, .int y1, .ref h_bodies]) := by
    intro v_count v_bodies z1 z2 y0 y1 h H locs hP hD hS ls hl
    unfold m_P_become_27 at h
    obtain ⟨g_27, h⟩ := of_guard h
    refine va_iast hx hb hK hP hD hS 1 0 rfl rfl (inR_in g_27) d_P_become_27 (fun H locs hP hD hS => ?_)
    have hP : va_P (dC, dI) classes [(h_o, .inr (2, [.ref h_bodies, .int v_count])), (h_bodies, .inl (k_bodies, 2, .inl (upd v_bodies y1.toNatClampNeg y0)))] H := hP
    have hD : va_D A [(h_o, .inr (2, [.ref h_bodies, .int v_count])), (h_bodies, .inl (k_bodies, 2, .inl (upd v_bodies y1.toNatClampNeg y0)))] := hD
    refine lv_aload_n hx hb d_P_become_28 rfl (lv_at hl 0 rfl) ?_
    refine va_get (D := (dC, dI)) (ci := 2) (v := .ref h_bodies) (C := R_P) (T := F_P) (N := 2) hx hb hts lay_P hown hK hP 0 rfl rfl 0 (by decide) (hts _ flk_P_9) (fun _ h9 => h9) rfl d_P_become_29 ?_
    refine lv_iconst (v := (nI 1)) hx hb d_P_become_32 (by decide) ?_
    refine lv_iload_n hx hb d_P_become_33 rfl (lv_at hl 1 rfl) ?_
    refine lv_if_ne (tgt := 41) hx hb d_P_become_34 (by decide) (fun c_34 => ?_) (fun c_34 => ?_)
    · have h := of_neg h c_34
      refine lv_iload_n hx hb d_P_become_41 rfl (lv_at hl 2 rfl) ?_
      exact J_42 v_count (upd v_bodies y1.toNatClampNeg y0) z2 (nI 1) h _ _ hP hD hS ls (lv_sub hl [] rfl)
    · have h := of_pos h c_34
      refine lv_iconst (v := (nI 0)) hx hb d_P_become_37 (by decide) ?_
      refine lv_goto (tgt := 42) hx hb d_P_become_38 (by decide) ?_
      exact J_42 v_count (upd v_bodies y1.toNatClampNeg y0) (nI 0) (nI 1) h _ _ hP hD hS ls (lv_sub hl [] rfl)
  have J_10 : ∀ (v_count : Int32) (v_bodies : Nat → Int32) (z1 : Int32) (z2 : Int32) (y0 : Int32), m_P_become_10 v_count v_bodies z1 z2 y0 = some u0 → ∀ (H : Heap) (locs : List Loc), va_P (dC, dI) classes [(h_o, .inr (2, [.ref h_bodies, .int v_count])), (h_bodies, .inl (k_bodies, 2, .inl v_bodies))] H → va_D A [(h_o, .inr (2, [.ref h_bodies, .int v_count])), (h_bodies, .inl (k_bodies, 2, .inl v_bodies))] → va_S A s.heap H locs → ∀ (ls : Array Slot), lv_has ls 3 [(0, .ref h_o), (1, .int z1), (2, .int z2)] → W p l e (headSpec w_P_become ({ frames := 0, cells := 0, slots := 0, locals := 0 } : Room)).room s m ([.ref h_o, .int x1, .int x2] : List Value).toArray below meth c H locs 0 0 Q (F0 m 10 ls [.int y0, .ref h_o]) := by
    intro v_count v_bodies z1 z2 y0 h H locs hP hD hS ls hl
    unfold m_P_become_10 at h
    refine va_put (D := (dC, dI)) (ci := 2) (v := .int y0) (ty := .int) (C := R_P) (T := F_P) (N := 2) hx hb hts lay_P t_P t_P_ok n_P hown hK hP hD hS 0 rfl rfl 1 (by decide) (hts _ flk_P_15) (fun _ h9 => h9) rfl (by decide +kernel) rfl rfl (Nat.le_of_ble_eq_true rfl) d_P_become_10 (fun H locs hP hD hS => ?_)
    have hP : va_P (dC, dI) classes [(h_o, .inr (2, [.ref h_bodies, .int y0])), (h_bodies, .inl (k_bodies, 2, .inl v_bodies))] H := hP
    have hD : va_D A [(h_o, .inr (2, [.ref h_bodies, .int y0])), (h_bodies, .inl (k_bodies, 2, .inl v_bodies))] := hD
    refine lv_aload_n hx hb d_P_become_13 rfl (lv_at hl 0 rfl) ?_
    refine va_get (D := (dC, dI)) (ci := 2) (v := .ref h_bodies) (C := R_P) (T := F_P) (N := 2) hx hb hts lay_P hown hK hP 0 rfl rfl 0 (by decide) (hts _ flk_P_9) (fun _ h9 => h9) rfl d_P_become_14 ?_
    refine lv_iconst (v := (nI 0)) hx hb d_P_become_17 (by decide) ?_
    refine lv_iload_n hx hb d_P_become_18 rfl (lv_at hl 1 rfl) ?_
    refine lv_if_ne (tgt := 26) hx hb d_P_become_19 (by decide) (fun c_19 => ?_) (fun c_19 => ?_)
    · have h := of_neg h c_19
      refine lv_iload_n hx hb d_P_become_26 rfl (lv_at hl 1 rfl) ?_
      exact J_27 y0 v_bodies z1 z2 z1 (nI 0) h _ _ hP hD hS ls (lv_sub hl [0, 1, 2] rfl)
    · have h := of_pos h c_19
      refine lv_iload_n hx hb d_P_become_22 rfl (lv_at hl 2 rfl) ?_
      refine lv_goto (tgt := 27) hx hb d_P_become_23 (by decide) ?_
      exact J_27 y0 v_bodies z1 z2 z2 (nI 0) h _ _ hP hD hS ls (lv_sub hl [0, 1, 2] rfl)
  unfold m_P_become at h
  refine lv_aload_n hx hb d_P_become_0 rfl (lv_at hl 0 rfl) ?_
  refine lv_iload_n hx hb d_P_become_1 rfl (lv_at hl 1 rfl) ?_
  refine lv_if_ne (tgt := 9) hx hb d_P_become_2 (by decide) (fun c_2 => ?_) (fun c_2 => ?_)
  · have h := of_neg h c_2
    refine lv_iconst (v := (nI 2)) hx hb d_P_become_9 (by decide) ?_
    exact J_10 v_count v_bodies x1 x2 (nI 2) h _ _ hP hD hS ls (lv_sub hl [0, 1, 2] rfl)
  · have h := of_pos h c_2
    refine lv_iconst (v := (nI 1)) hx hb d_P_become_5 (by decide) ?_
    refine lv_goto (tgt := 10) hx hb d_P_become_6 (by decide) ?_
    exact J_10 v_count v_bodies x1 x2 (nI 1) h _ _ hP hD hS ls (lv_sub hl [0, 1, 2] rfl)
set_option maxHeartbeats 4000000 in
set_option maxRecDepth 100000 in
theorem c_P_textLength (l : Launch) (dC : Nat → ClassId) (dI : Nat → Nat → Nat) (sz : Nat)  (x0 : Int32) (r0 : Int32) (u0 : Unit) (h : m_P_textLength x0 = some (r0, u0)) : Met l y_P_textLength w_P_textLength ({ frames := 1, cells := 0, slots := 0, locals := 20 } : Room) (va_Pc [.int x0] (fun U => U.heap.size = sz ∧ va_P (dC, dI) classes [] U.heap ∧ va_K (dC, dI) classes [] U ∧ va_D (fun _ => True) [])) (va_Qi (fun (r : Int32) (u : Unit) => r = r0 ∧ u = u0) (fun (u : Unit) (t : State) => va_P (dC, dI) classes [] t.heap ∧ va_K (dC, dI) classes [] t ∧ va_D (va_A [] sz) []) (va_A [] sz)) 0 0 (va_A [] sz) := by
  refine Met.ofW (cc := b_P_textLength) (maxL := 1) (ret := (some .int)) (by decide) rfl ?_
  intro p e s m args below meth c s₁ B hml hv
  obtain ⟨rfl, hsz, hP, hK, hD0⟩ := hv
  have hx := B.exec
  have hb := B.bytes
  have hr := B.returns
  have hts0 := atoms_spec (ws := w_P_textLength) B.pre
  have hts : ∀ w ∈ lw_gd, w.before ([.int x0] : List Value).toArray s = true := fun w h9 => hts0 w (List.mem_cons_of_mem _ h9)
  have hown : s.vm.findClass R_P = some m.cls := findClass_of_methodNamed B.named
  have hlocks := B.notSynchronized
  subst hsz
  have hD := hD0.self (sz := s.heap.size)
  generalize hAe : va_A [] s.heap.size = A at hD ⊢
  have hA : ∀ q : Nat, s.heap.size ≤ q → A q := fun q h9 => by rw [← hAe]; exact Or.inr h9
  obtain ⟨H, eH⟩ : ∃ H : Heap, H = s.heap := ⟨_, rfl⟩
  have hS : va_S A s.heap H [] := by rw [eH]; exact va_S.rf
  have hP : va_P (dC, dI) classes [] H := by rw [eH]; exact hP
  refine W_gen (fun Q hQ => ?_)
  refine W_heap eH ?_
  clear eH
  have hl := lv_entry ([.int x0]) (n := 1) (Nat.le_of_ble_eq_true rfl)
  rw [lg_entry_eq]
  generalize (lg_sl ([.int x0]) ++ List.replicate (1 - (lg_sl ([.int x0])).length) Slot.unset).toArray = ls at hl ⊢
  have hl : lv_has ls 1 [(0, .int x0)] := hl
  unfold m_P_textLength at h
  refine lv_bipush (v := (nI 8)) hx hb d_P_textLength_0 (by decide) ?_
  refine lv_bipush (v := (nI 7)) hx hb d_P_textLength_2 (by decide) ?_
  refine lv_iload_n hx hb d_P_textLength_4 rfl (lv_at hl 0 rfl) ?_
  have hPc := hP.sub (ws' := []) [] rfl
  have hDc := hD.sub (ws' := []) [] (by decide) rfl
  have hKc := hK.sub (tys' := []) [] rfl
  have hFc := va_free (wc := []) hD hS hA [] rfl
  obtain ⟨v_5, hc_5, h⟩ := of_bind h
  refine va_calli (va_runS (As := [.int x0]) (rest := [.int (nI 7), .int (nI 8)]) ⟨hx, hb, hml, hown, hts⟩ (c_I_bitCount l dC dI H.size x0 v_5.1 v_5.2 hc_5) (va_cwS 1 hts (gS mlk_P_30 sta_I_bitCount ini_I cod_I_bitCount) rfl rfl rfl (by decide +kernel) ⟨Nat.le_of_ble_eq_true rfl, Nat.le_of_ble_eq_true rfl⟩) ⟨fun a U g mk q => by obtain ⟨q0, q1, qP, qK, qD⟩ := q; exact ⟨q0, q1, qP, va_K.moved (u := U) (U := U.calling g mk a) (Vm.Alike.refl U.vm) qK, qD⟩, fun U hU hW => ⟨rfl, by rw [hU], by rw [hU]; exact hPc, va_K.moved hW.alike hKc, hDc.weaken (fun _ _ _ _ => trivial)⟩⟩ rfl rfl hl.1 rfl (lv_room (Nat.le_of_ble_eq_true rfl)) d_P_textLength_5 ⟨Nat.le_of_ble_eq_true rfl, Nat.le_of_ble_eq_true rfl⟩) hS (fun q _ h9 => hFc q h9) hFc (fun r_5 u t H1 locs ht hvm hw hB hz1 hk1 hS => ?_)
  obtain ⟨rfl, rfl⟩ := hw
  obtain ⟨hP1, hK1, hD1⟩ := hB
  rw [ht] at hP1
  obtain ⟨hP, hD⟩ := va_join (wr := []) (w1 := []) hP hD [] [] rfl rfl (by decide) (by decide) hk1 hFc hP1 hD1
  have hP := hP.sub (ws' := []) [] rfl
  have hD := hD.sub (ws' := []) [] (by decide) rfl
  generalize H1 = H at hP hS ⊢
  refine lv_imul hx hb d_P_textLength_8 ?_
  refine lv_iadd hx hb d_P_textLength_9 ?_
  refine lv_iconst (v := (nI 1)) hx hb d_P_textLength_10 (by decide) ?_
  refine lv_isub hx hb d_P_textLength_11 ?_
  rw [hQ]
  exact W.iret (v := ((nI 8) + ((nI 7) * v_5.1)) - (nI 1)) hx hb hr (fun t ht hW => ⟨⟨((nI 8) + ((nI 7) * v_5.1)) - (nI 1), (), rfl, Prod.mk.inj (Option.some.inj h), by rw [ht]; exact hP, va_K.moved hW.alike hK, hD⟩, hS.F ht⟩) hS.2.2 d_P_textLength_12
set_option maxHeartbeats 4000000 in
set_option maxRecDepth 100000 in
theorem c_P_letterOf (l : Launch) (dC : Nat → ClassId) (dI : Nat → Nat → Nat) (tb : Nat) (ak av : Nat → Nat) (sz : Nat)  (x0 : Int32) (x1 : Int32) (r0 : Int32) (u0 : Unit) (h : m_P_letterOf x0 x1 = some (r0, u0)) : Met l y_P_letterOf w_P_letterOf ({ frames := 4, cells := 0, slots := 0, locals := 85 } : Room) (va_Pc [.int x0, .int x1] (fun U => U.heap.size = sz ∧ va_P (dC, dI) classes [] U.heap ∧ va_K (dC, dI) classes [] U ∧ va_D (fun _ => True) [] ∧ kw tb ak av (va_A [] sz) U)) (va_Qi (fun (r : Int32) (u : Unit) => r = r0 ∧ u = u0) (fun (u : Unit) (t : State) => va_P (dC, dI) classes [] t.heap ∧ va_K (dC, dI) classes [] t ∧ va_D (va_A [] sz) []) (va_A [] sz)) 0 0 (va_A [] sz) := by
  refine Met.ofW (cc := b_P_letterOf) (maxL := 3) (ret := (some .int)) (by decide) rfl ?_
  intro p e s m args below meth c s₁ B hml hv
  obtain ⟨rfl, hsz, hP, hK, hD0, hC⟩ := hv
  have hx := B.exec
  have hb := B.bytes
  have hr := B.returns
  have hts0 := atoms_spec (ws := w_P_letterOf) B.pre
  have hts : ∀ w ∈ lw_gd, w.before ([.int x0, .int x1] : List Value).toArray s = true := fun w h9 => hts0 w (List.mem_cons_of_mem _ h9)
  have hown : s.vm.findClass R_P = some m.cls := findClass_of_methodNamed B.named
  have hlocks := B.notSynchronized
  subst hsz
  have hD := hD0.self (sz := s.heap.size)
  generalize hAe : va_A [] s.heap.size = A at hD hC ⊢
  have hA : ∀ q : Nat, s.heap.size ≤ q → A q := fun q h9 => by rw [← hAe]; exact Or.inr h9
  obtain ⟨H, eH⟩ : ∃ H : Heap, H = s.heap := ⟨_, rfl⟩
  have hS : va_S A s.heap H [] := by rw [eH]; exact va_S.rf
  have hP : va_P (dC, dI) classes [] H := by rw [eH]; exact hP
  refine W_gen (fun Q hQ => ?_)
  refine W_heap eH ?_
  clear eH
  have hl := lv_entry ([.int x0, .int x1]) (n := 3) (Nat.le_of_ble_eq_true rfl)
  rw [lg_entry_eq]
  generalize (lg_sl ([.int x0, .int x1]) ++ List.replicate (3 - (lg_sl ([.int x0, .int x1])).length) Slot.unset).toArray = ls at hl ⊢
  have hl : lv_has ls 3 [(0, .int x0), (1, .int x1)] := hl
  unfold m_P_letterOf at h
  refine lv_iload_n hx hb d_P_letterOf_0 rfl (lv_at hl 1 rfl) ?_
  refine lv_bipush (v := (nI 8)) hx hb d_P_letterOf_1 (by decide) ?_
  refine lv_icmp_ge (tgt := 13) hx hb d_P_letterOf_3 (by decide) (fun c_3 => ?_) (fun c_3 => ?_)
  · have h := of_pos h c_3
    refine lv_iload_n hx hb d_P_letterOf_13 rfl (lv_at hl 0 rfl) ?_
    refine lv_iload_n hx hb d_P_letterOf_14 rfl (lv_at hl 1 rfl) ?_
    refine lv_bipush (v := (nI 8)) hx hb d_P_letterOf_15 (by decide) ?_
    refine lv_isub hx hb d_P_letterOf_17 ?_
    refine lv_bipush (v := (nI 7)) hx hb d_P_letterOf_18 (by decide) ?_
    refine lv_idiv hx hb d_P_letterOf_20 (by decide) ?_
    have hPc := hP.sub (ws' := []) [] rfl
    have hDc := hD.sub (ws' := []) [] (by decide) rfl
    have hKc := hK.sub (tys' := []) [] rfl
    have hFc := va_free (wc := []) hD hS hA [] rfl
    obtain ⟨v_21, hc_21, h⟩ := of_bind h
    refine va_calli (va_runSN (As := [.int x0, .int ((x1 - (nI 8)) / (nI 7))]) (rest := []) ⟨hx, hb, hml, hown, hts⟩ (c_H_codeAt l dC dI H.size x0 ((x1 - (nI 8)) / (nI 7)) v_21.1 v_21.2 hc_21) ⟨va_cnB 2 hts (gI cod_H_codeAt) rfl rfl rfl hC.nst_P_43 (hts _ ini_H) (by decide +kernel) ⟨Nat.le_of_ble_eq_true rfl, Nat.le_of_ble_eq_true rfl⟩, hts _ sta_H_codeAt, trivial⟩ ⟨fun a U g mk q => by obtain ⟨q0, q1, qP, qK, qD⟩ := q; exact ⟨q0, q1, qP, va_K.moved (u := U) (U := U.calling g mk a) (Vm.Alike.refl U.vm) qK, qD⟩, fun U hU hW => ⟨rfl, by rw [hU], by rw [hU]; exact hPc, va_K.moved hW.alike hKc, hDc.weaken (fun _ _ _ _ => trivial)⟩⟩ rfl rfl hl.1 rfl (lv_room (Nat.le_of_ble_eq_true rfl)) d_P_letterOf_21 ⟨Nat.le_of_ble_eq_true rfl, Nat.le_of_ble_eq_true rfl⟩) hS (fun q _ h9 => hFc q h9) hFc (fun r_21 u t H1 locs ht hvm hw hB hz1 hk1 hS => ?_)
    obtain ⟨rfl, rfl⟩ := hw
    obtain ⟨hP1, hK1, hD1⟩ := hB
    rw [ht] at hP1
    obtain ⟨hP, hD⟩ := va_join (wr := []) (w1 := []) hP hD [] [] rfl rfl (by decide) (by decide) hk1 hFc hP1 hD1
    have hP := hP.sub (ws' := []) [] rfl
    have hD := hD.sub (ws' := []) [] (by decide) rfl
    generalize H1 = H at hP hS ⊢
    refine lv_istore_n (lv' := [(2, .int v_21.1), (0, .int x0), (1, .int x1)]) hx hb d_P_letterOf_24 rfl hl (by decide) rfl (fun ls hl => ?_)
    refine lv_iload_n hx hb d_P_letterOf_25 rfl (lv_at hl 0 rfl) ?_
    refine lv_if_ge (tgt := 31) hx hb d_P_letterOf_26 (by decide) (fun c_26 => ?_) (fun c_26 => ?_)
    · have h := of_pos h c_26
      refine lv_iload_n hx hb d_P_letterOf_31 rfl (lv_at hl 2 rfl) ?_
      refine lv_bipush (v := (nI 8)) hx hb d_P_letterOf_32 (by decide) ?_
      refine lv_isub hx hb d_P_letterOf_34 ?_
      refine lv_bipush (v := (nI 7)) hx hb d_P_letterOf_35 (by decide) ?_
      refine lv_irem hx hb d_P_letterOf_37 (by decide) ?_
      refine lv_topi (fun w_38 ew_38 => ?_)
      have h := of_let h ew_38
      by_cases c_38_0 : w_38 = (nI 0)
      · have h := of_pos h c_38_0
        refine lv_tableIn (tgt := 76) (off := 38) hx hb d_P_letterOf_38 (by rw [c_38_0]; decide) (by rw [c_38_0]; decide) (by rw [c_38_0]; rfl) (by decide) ?_
        refine va_ldcS hx hb hown hC.str_P_46 d_P_letterOf_76 ?_
        refine lv_iload_n hx hb d_P_letterOf_78 rfl (lv_at hl 0 rfl) ?_
        have hPc := hP.sub (ws' := []) [] rfl
        have hDc := hD.sub (ws' := []) [] (by decide) rfl
        have hKc := hK.sub (tys' := []) [] rfl
        have hFc := va_free (wc := []) hD hS hA [] rfl
        obtain ⟨v_79, hc_79, h⟩ := of_bind h
        refine va_calli (va_runSN (As := [.int v_21.1]) (rest := [.ref (ak 0)]) ⟨hx, hb, hml, hown, hts⟩ (c_H_relationOf l dC dI H.size v_21.1 v_79.1 v_79.2 hc_79) ⟨va_cnB 1 hts (gI cod_H_relationOf) rfl rfl rfl hC.nst_P_48 (hts _ ini_H) (by decide +kernel) ⟨Nat.le_of_ble_eq_true rfl, Nat.le_of_ble_eq_true rfl⟩, hts _ sta_H_relationOf, trivial⟩ ⟨fun a U g mk q => by obtain ⟨q0, q1, qP, qK, qD⟩ := q; exact ⟨q0, q1, qP, va_K.moved (u := U) (U := U.calling g mk a) (Vm.Alike.refl U.vm) qK, qD⟩, fun U hU hW => ⟨rfl, by rw [hU], by rw [hU]; exact hPc, va_K.moved hW.alike hKc, hDc.weaken (fun _ _ _ _ => trivial)⟩⟩ rfl rfl hl.1 rfl (lv_room (Nat.le_of_ble_eq_true rfl)) d_P_letterOf_79 ⟨Nat.le_of_ble_eq_true rfl, Nat.le_of_ble_eq_true rfl⟩) hS (fun q _ h9 => hFc q h9) hFc (fun r_79 u t H1 locs ht hvm hw hB hz1 hk1 hS => ?_)
        obtain ⟨rfl, rfl⟩ := hw
        obtain ⟨hP1, hK1, hD1⟩ := hB
        rw [ht] at hP1
        obtain ⟨hP, hD⟩ := va_join (wr := []) (w1 := []) hP hD [] [] rfl rfl (by decide) (by decide) hk1 hFc hP1 hD1
        have hP := hP.sub (ws' := []) [] rfl
        have hD := hD.sub (ws' := []) [] (by decide) rfl
        generalize H1 = H at hP hS ⊢
        have hPc := hP.sub (ws' := []) [] rfl
        have hDc := hD.sub (ws' := []) [] (by decide) rfl
        have hKc := hK.sub (tys' := []) [] rfl
        have hFc := va_free (wc := []) hD hS hA [] rfl
        obtain ⟨gq_82, h⟩ := of_guard h
        obtain ⟨v_82, hc_82, h⟩ := of_bind h
        skip
        refine va_calli (va_runV (As := [.int v_79.1]) (rest := []) ⟨hx, hb, hml, hown, hts⟩ (c_S_charAt l dC dI tb ak av H.size 0 v_79.1 v_82.1 v_82.2 hc_82) (cwV 1 hts (gV mlk_P_37 ins_S_charAt sel_S_charAt ini_S cod_S_charAt) rfl rfl rfl (by decide +kernel) ⟨Nat.le_of_ble_eq_true rfl, Nat.le_of_ble_eq_true rfl⟩) ⟨fun a U g mk q => by obtain ⟨q0, q1, qP, qK, qD, qC⟩ := q; exact ⟨q0, q1, qP, va_K.moved (u := U) (U := U.calling g mk a) (Vm.Alike.refl U.vm) qK, qD, kw_blind qC⟩, hC.rcv (inN_lt gq_82) hS, fun U hU hW => ⟨rfl, by rw [hU], by rw [hU]; exact hPc, va_K.moved hW.alike hKc, hDc.weaken (fun _ _ _ _ => trivial), kw_call hC hS hFc hU hW⟩⟩ rfl rfl hl.1 rfl (lv_room (Nat.le_of_ble_eq_true rfl)) d_P_letterOf_82 ⟨Nat.le_of_ble_eq_true rfl, Nat.le_of_ble_eq_true rfl⟩) hS (fun q _ h9 => hFc q h9) hFc (fun r_82 u t H1 locs ht hvm hw hB hz1 hk1 hS => ?_)
        obtain ⟨rfl, rfl⟩ := hw
        obtain ⟨hP1, hK1, hD1⟩ := hB
        rw [ht] at hP1
        obtain ⟨hP, hD⟩ := va_join (wr := []) (w1 := []) hP hD [] [] rfl rfl (by decide) (by decide) hk1 hFc hP1 hD1
        have hP := hP.sub (ws' := []) [] rfl
        have hD := hD.sub (ws' := []) [] (by decide) rfl
        generalize H1 = H at hP hS ⊢
        rw [hQ]
        exact W.iret (v := v_82.1) hx hb hr (fun t ht hW => ⟨⟨v_82.1, (), rfl, Prod.mk.inj (Option.some.inj h), by rw [ht]; exact hP, va_K.moved hW.alike hK, hD⟩, hS.F ht⟩) hS.2.2 d_P_letterOf_85
      have h := of_neg h c_38_0
      by_cases c_38_1 : w_38 = (nI 1)
      · have h := of_pos h c_38_1
        refine lv_tableIn (tgt := 86) (off := 48) hx hb d_P_letterOf_38 (by rw [c_38_1]; decide) (by rw [c_38_1]; decide) (by rw [c_38_1]; rfl) (by decide) ?_
        refine lv_bipush (v := (nI 40)) hx hb d_P_letterOf_86 (by decide) ?_
        rw [hQ]
        exact W.iret (v := (nI 40)) hx hb hr (fun t ht hW => ⟨⟨(nI 40), (), rfl, Prod.mk.inj (Option.some.inj h), by rw [ht]; exact hP, va_K.moved hW.alike hK, hD⟩, hS.F ht⟩) hS.2.2 d_P_letterOf_88
      have h := of_neg h c_38_1
      by_cases c_38_2 : w_38 = (nI 2)
      · have h := of_pos h c_38_2
        refine lv_tableIn (tgt := 89) (off := 51) hx hb d_P_letterOf_38 (by rw [c_38_2]; decide) (by rw [c_38_2]; decide) (by rw [c_38_2]; rfl) (by decide) ?_
        refine va_ldcS hx hb hown hC.str_P_51 d_P_letterOf_89 ?_
        refine lv_iload_n hx hb d_P_letterOf_91 rfl (lv_at hl 0 rfl) ?_
        have hPc := hP.sub (ws' := []) [] rfl
        have hDc := hD.sub (ws' := []) [] (by decide) rfl
        have hKc := hK.sub (tys' := []) [] rfl
        have hFc := va_free (wc := []) hD hS hA [] rfl
        obtain ⟨v_92, hc_92, h⟩ := of_bind h
        refine va_calli (va_runSN (As := [.int v_21.1]) (rest := [.ref (ak 1)]) ⟨hx, hb, hml, hown, hts⟩ (c_H_firstVariableOf l dC dI H.size v_21.1 v_92.1 v_92.2 hc_92) ⟨va_cnB 1 hts (gI cod_H_firstVariableOf) rfl rfl rfl hC.nst_P_53 (hts _ ini_H) (by decide +kernel) ⟨Nat.le_of_ble_eq_true rfl, Nat.le_of_ble_eq_true rfl⟩, hts _ sta_H_firstVariableOf, trivial⟩ ⟨fun a U g mk q => by obtain ⟨q0, q1, qP, qK, qD⟩ := q; exact ⟨q0, q1, qP, va_K.moved (u := U) (U := U.calling g mk a) (Vm.Alike.refl U.vm) qK, qD⟩, fun U hU hW => ⟨rfl, by rw [hU], by rw [hU]; exact hPc, va_K.moved hW.alike hKc, hDc.weaken (fun _ _ _ _ => trivial)⟩⟩ rfl rfl hl.1 rfl (lv_room (Nat.le_of_ble_eq_true rfl)) d_P_letterOf_92 ⟨Nat.le_of_ble_eq_true rfl, Nat.le_of_ble_eq_true rfl⟩) hS (fun q _ h9 => hFc q h9) hFc (fun r_92 u t H1 locs ht hvm hw hB hz1 hk1 hS => ?_)
        obtain ⟨rfl, rfl⟩ := hw
        obtain ⟨hP1, hK1, hD1⟩ := hB
        rw [ht] at hP1
        obtain ⟨hP, hD⟩ := va_join (wr := []) (w1 := []) hP hD [] [] rfl rfl (by decide) (by decide) hk1 hFc hP1 hD1
        have hP := hP.sub (ws' := []) [] rfl
        have hD := hD.sub (ws' := []) [] (by decide) rfl
        generalize H1 = H at hP hS ⊢
        have hPc := hP.sub (ws' := []) [] rfl
        have hDc := hD.sub (ws' := []) [] (by decide) rfl
        have hKc := hK.sub (tys' := []) [] rfl
        have hFc := va_free (wc := []) hD hS hA [] rfl
        obtain ⟨gq_95, h⟩ := of_guard h
        obtain ⟨v_95, hc_95, h⟩ := of_bind h
        skip
        refine va_calli (va_runV (As := [.int v_92.1]) (rest := []) ⟨hx, hb, hml, hown, hts⟩ (c_S_charAt l dC dI tb ak av H.size 1 v_92.1 v_95.1 v_95.2 hc_95) (cwV 1 hts (gV mlk_P_37 ins_S_charAt sel_S_charAt ini_S cod_S_charAt) rfl rfl rfl (by decide +kernel) ⟨Nat.le_of_ble_eq_true rfl, Nat.le_of_ble_eq_true rfl⟩) ⟨fun a U g mk q => by obtain ⟨q0, q1, qP, qK, qD, qC⟩ := q; exact ⟨q0, q1, qP, va_K.moved (u := U) (U := U.calling g mk a) (Vm.Alike.refl U.vm) qK, qD, kw_blind qC⟩, hC.rcv (inN_lt gq_95) hS, fun U hU hW => ⟨rfl, by rw [hU], by rw [hU]; exact hPc, va_K.moved hW.alike hKc, hDc.weaken (fun _ _ _ _ => trivial), kw_call hC hS hFc hU hW⟩⟩ rfl rfl hl.1 rfl (lv_room (Nat.le_of_ble_eq_true rfl)) d_P_letterOf_95 ⟨Nat.le_of_ble_eq_true rfl, Nat.le_of_ble_eq_true rfl⟩) hS (fun q _ h9 => hFc q h9) hFc (fun r_95 u t H1 locs ht hvm hw hB hz1 hk1 hS => ?_)
        obtain ⟨rfl, rfl⟩ := hw
        obtain ⟨hP1, hK1, hD1⟩ := hB
        rw [ht] at hP1
        obtain ⟨hP, hD⟩ := va_join (wr := []) (w1 := []) hP hD [] [] rfl rfl (by decide) (by decide) hk1 hFc hP1 hD1
        have hP := hP.sub (ws' := []) [] rfl
        have hD := hD.sub (ws' := []) [] (by decide) rfl
        generalize H1 = H at hP hS ⊢
        rw [hQ]
        exact W.iret (v := v_95.1) hx hb hr (fun t ht hW => ⟨⟨v_95.1, (), rfl, Prod.mk.inj (Option.some.inj h), by rw [ht]; exact hP, va_K.moved hW.alike hK, hD⟩, hS.F ht⟩) hS.2.2 d_P_letterOf_98
      have h := of_neg h c_38_2
      by_cases c_38_3 : w_38 = (nI 3)
      · have h := of_pos h c_38_3
        refine lv_tableIn (tgt := 112) (off := 74) hx hb d_P_letterOf_38 (by rw [c_38_3]; decide) (by rw [c_38_3]; decide) (by rw [c_38_3]; rfl) (by decide) ?_
        refine lv_bipush (v := (nI 44)) hx hb d_P_letterOf_112 (by decide) ?_
        rw [hQ]
        exact W.iret (v := (nI 44)) hx hb hr (fun t ht hW => ⟨⟨(nI 44), (), rfl, Prod.mk.inj (Option.some.inj h), by rw [ht]; exact hP, va_K.moved hW.alike hK, hD⟩, hS.F ht⟩) hS.2.2 d_P_letterOf_114
      have h := of_neg h c_38_3
      by_cases c_38_4 : w_38 = (nI 4)
      · have h := of_pos h c_38_4
        refine lv_tableIn (tgt := 99) (off := 61) hx hb d_P_letterOf_38 (by rw [c_38_4]; decide) (by rw [c_38_4]; decide) (by rw [c_38_4]; rfl) (by decide) ?_
        refine va_ldcS hx hb hown hC.str_P_51 d_P_letterOf_99 ?_
        refine lv_iload_n hx hb d_P_letterOf_101 rfl (lv_at hl 0 rfl) ?_
        have hPc := hP.sub (ws' := []) [] rfl
        have hDc := hD.sub (ws' := []) [] (by decide) rfl
        have hKc := hK.sub (tys' := []) [] rfl
        have hFc := va_free (wc := []) hD hS hA [] rfl
        obtain ⟨v_102, hc_102, h⟩ := of_bind h
        refine va_calli (va_runSN (As := [.int v_21.1]) (rest := [.ref (ak 1)]) ⟨hx, hb, hml, hown, hts⟩ (c_H_secondVariableOf l dC dI H.size v_21.1 v_102.1 v_102.2 hc_102) ⟨va_cnB 1 hts (gI cod_H_secondVariableOf) rfl rfl rfl hC.nst_P_56 (hts _ ini_H) (by decide +kernel) ⟨Nat.le_of_ble_eq_true rfl, Nat.le_of_ble_eq_true rfl⟩, hts _ sta_H_secondVariableOf, trivial⟩ ⟨fun a U g mk q => by obtain ⟨q0, q1, qP, qK, qD⟩ := q; exact ⟨q0, q1, qP, va_K.moved (u := U) (U := U.calling g mk a) (Vm.Alike.refl U.vm) qK, qD⟩, fun U hU hW => ⟨rfl, by rw [hU], by rw [hU]; exact hPc, va_K.moved hW.alike hKc, hDc.weaken (fun _ _ _ _ => trivial)⟩⟩ rfl rfl hl.1 rfl (lv_room (Nat.le_of_ble_eq_true rfl)) d_P_letterOf_102 ⟨Nat.le_of_ble_eq_true rfl, Nat.le_of_ble_eq_true rfl⟩) hS (fun q _ h9 => hFc q h9) hFc (fun r_102 u t H1 locs ht hvm hw hB hz1 hk1 hS => ?_)
        obtain ⟨rfl, rfl⟩ := hw
        obtain ⟨hP1, hK1, hD1⟩ := hB
        rw [ht] at hP1
        obtain ⟨hP, hD⟩ := va_join (wr := []) (w1 := []) hP hD [] [] rfl rfl (by decide) (by decide) hk1 hFc hP1 hD1
        have hP := hP.sub (ws' := []) [] rfl
        have hD := hD.sub (ws' := []) [] (by decide) rfl
        generalize H1 = H at hP hS ⊢
        have hPc := hP.sub (ws' := []) [] rfl
        have hDc := hD.sub (ws' := []) [] (by decide) rfl
        have hKc := hK.sub (tys' := []) [] rfl
        have hFc := va_free (wc := []) hD hS hA [] rfl
        obtain ⟨gq_105, h⟩ := of_guard h
        obtain ⟨v_105, hc_105, h⟩ := of_bind h
        skip
        refine va_calli (va_runV (As := [.int v_102.1]) (rest := []) ⟨hx, hb, hml, hown, hts⟩ (c_S_charAt l dC dI tb ak av H.size 1 v_102.1 v_105.1 v_105.2 hc_105) (cwV 1 hts (gV mlk_P_37 ins_S_charAt sel_S_charAt ini_S cod_S_charAt) rfl rfl rfl (by decide +kernel) ⟨Nat.le_of_ble_eq_true rfl, Nat.le_of_ble_eq_true rfl⟩) ⟨fun a U g mk q => by obtain ⟨q0, q1, qP, qK, qD, qC⟩ := q; exact ⟨q0, q1, qP, va_K.moved (u := U) (U := U.calling g mk a) (Vm.Alike.refl U.vm) qK, qD, kw_blind qC⟩, hC.rcv (inN_lt gq_105) hS, fun U hU hW => ⟨rfl, by rw [hU], by rw [hU]; exact hPc, va_K.moved hW.alike hKc, hDc.weaken (fun _ _ _ _ => trivial), kw_call hC hS hFc hU hW⟩⟩ rfl rfl hl.1 rfl (lv_room (Nat.le_of_ble_eq_true rfl)) d_P_letterOf_105 ⟨Nat.le_of_ble_eq_true rfl, Nat.le_of_ble_eq_true rfl⟩) hS (fun q _ h9 => hFc q h9) hFc (fun r_105 u t H1 locs ht hvm hw hB hz1 hk1 hS => ?_)
        obtain ⟨rfl, rfl⟩ := hw
        obtain ⟨hP1, hK1, hD1⟩ := hB
        rw [ht] at hP1
        obtain ⟨hP, hD⟩ := va_join (wr := []) (w1 := []) hP hD [] [] rfl rfl (by decide) (by decide) hk1 hFc hP1 hD1
        have hP := hP.sub (ws' := []) [] rfl
        have hD := hD.sub (ws' := []) [] (by decide) rfl
        generalize H1 = H at hP hS ⊢
        rw [hQ]
        exact W.iret (v := v_105.1) hx hb hr (fun t ht hW => ⟨⟨v_105.1, (), rfl, Prod.mk.inj (Option.some.inj h), by rw [ht]; exact hP, va_K.moved hW.alike hK, hD⟩, hS.F ht⟩) hS.2.2 d_P_letterOf_108
      have h := of_neg h c_38_4
      by_cases c_38_5 : w_38 = (nI 5)
      · have h := of_pos h c_38_5
        refine lv_tableIn (tgt := 109) (off := 71) hx hb d_P_letterOf_38 (by rw [c_38_5]; decide) (by rw [c_38_5]; decide) (by rw [c_38_5]; rfl) (by decide) ?_
        refine lv_bipush (v := (nI 41)) hx hb d_P_letterOf_109 (by decide) ?_
        rw [hQ]
        exact W.iret (v := (nI 41)) hx hb hr (fun t ht hW => ⟨⟨(nI 41), (), rfl, Prod.mk.inj (Option.some.inj h), by rw [ht]; exact hP, va_K.moved hW.alike hK, hD⟩, hS.F ht⟩) hS.2.2 d_P_letterOf_111
      have h := of_neg h c_38_5
      refine lv_tableOut (tgt := 112) hx hb d_P_letterOf_38 (by have := lv_neT (a := 0) c_38_0 (by decide); have := lv_neT (a := 1) c_38_1 (by decide); have := lv_neT (a := 2) c_38_2 (by decide); have := lv_neT (a := 3) c_38_3 (by decide); have := lv_neT (a := 4) c_38_4 (by decide); have := lv_neT (a := 5) c_38_5 (by decide); omega) (by decide) ?_
      refine lv_bipush (v := (nI 44)) hx hb d_P_letterOf_112 (by decide) ?_
      rw [hQ]
      exact W.iret (v := (nI 44)) hx hb hr (fun t ht hW => ⟨⟨(nI 44), (), rfl, Prod.mk.inj (Option.some.inj h), by rw [ht]; exact hP, va_K.moved hW.alike hK, hD⟩, hS.F ht⟩) hS.2.2 d_P_letterOf_114
    · have h := of_neg h c_26
      refine lv_iconst (v := (-1 : Int32)) hx hb d_P_letterOf_29 (by decide) ?_
      rw [hQ]
      exact W.iret (v := (-1 : Int32)) hx hb hr (fun t ht hW => ⟨⟨(-1 : Int32), (), rfl, Prod.mk.inj (Option.some.inj h), by rw [ht]; exact hP, va_K.moved hW.alike hK, hD⟩, hS.F ht⟩) hS.2.2 d_P_letterOf_30
  · have h := of_neg h c_3
    refine va_ldcS hx hb hown hC.str_P_35 d_P_letterOf_6 ?_
    refine lv_iload_n hx hb d_P_letterOf_8 rfl (lv_at hl 1 rfl) ?_
    have hPc := hP.sub (ws' := []) [] rfl
    have hDc := hD.sub (ws' := []) [] (by decide) rfl
    have hKc := hK.sub (tys' := []) [] rfl
    have hFc := va_free (wc := []) hD hS hA [] rfl
    obtain ⟨gq_9, h⟩ := of_guard h
    obtain ⟨v_9, hc_9, h⟩ := of_bind h
    skip
    refine va_calli (va_runV (As := [.int x1]) (rest := []) ⟨hx, hb, hml, hown, hts⟩ (c_S_charAt l dC dI tb ak av H.size 2 x1 v_9.1 v_9.2 hc_9) (cwV 1 hts (gV mlk_P_37 ins_S_charAt sel_S_charAt ini_S cod_S_charAt) rfl rfl rfl (by decide +kernel) ⟨Nat.le_of_ble_eq_true rfl, Nat.le_of_ble_eq_true rfl⟩) ⟨fun a U g mk q => by obtain ⟨q0, q1, qP, qK, qD, qC⟩ := q; exact ⟨q0, q1, qP, va_K.moved (u := U) (U := U.calling g mk a) (Vm.Alike.refl U.vm) qK, qD, kw_blind qC⟩, hC.rcv (inN_lt gq_9) hS, fun U hU hW => ⟨rfl, by rw [hU], by rw [hU]; exact hPc, va_K.moved hW.alike hKc, hDc.weaken (fun _ _ _ _ => trivial), kw_call hC hS hFc hU hW⟩⟩ rfl rfl hl.1 rfl (lv_room (Nat.le_of_ble_eq_true rfl)) d_P_letterOf_9 ⟨Nat.le_of_ble_eq_true rfl, Nat.le_of_ble_eq_true rfl⟩) hS (fun q _ h9 => hFc q h9) hFc (fun r_9 u t H1 locs ht hvm hw hB hz1 hk1 hS => ?_)
    obtain ⟨rfl, rfl⟩ := hw
    obtain ⟨hP1, hK1, hD1⟩ := hB
    rw [ht] at hP1
    obtain ⟨hP, hD⟩ := va_join (wr := []) (w1 := []) hP hD [] [] rfl rfl (by decide) (by decide) hk1 hFc hP1 hD1
    have hP := hP.sub (ws' := []) [] rfl
    have hD := hD.sub (ws' := []) [] (by decide) rfl
    generalize H1 = H at hP hS ⊢
    rw [hQ]
    exact W.iret (v := v_9.1) hx hb hr (fun t ht hW => ⟨⟨v_9.1, (), rfl, Prod.mk.inj (Option.some.inj h), by rw [ht]; exact hP, va_K.moved hW.alike hK, hD⟩, hS.F ht⟩) hS.2.2 d_P_letterOf_12
set_option maxHeartbeats 4000000 in
set_option maxRecDepth 100000 in
theorem c_P_letterAt (l : Launch) (dC : Nat → ClassId) (dI : Nat → Nat → Nat) (h_o h_bodies : Nat) (k_bodies : ClassId) (tb : Nat) (ak av : Nat → Nat) (sz : Nat) (v_count : Int32) (v_bodies : Nat → Int32) (x1 : Int32) (r0 : Int32) (u0 : Unit) (h : m_P_letterAt v_count v_bodies x1 = some (r0, u0)) : Met l y_P_letterAt w_P_letterAt ({ frames := 5, cells := 0, slots := 0, locals := 107 } : Room) (va_Pc [.ref h_o, .int x1] (fun U => U.heap.size = sz ∧ va_P (dC, dI) classes [(h_o, .inr (2, [.ref h_bodies, .int v_count])), (h_bodies, .inl (k_bodies, 2, .inl v_bodies))] U.heap ∧ va_K (dC, dI) classes [(k_bodies, .int)] U ∧ va_D (fun _ => True) [(h_o, .inr (2, [.ref h_bodies, .int v_count])), (h_bodies, .inl (k_bodies, 2, .inl v_bodies))] ∧ kw tb ak av (va_A [(h_o, .inr (2, [.ref h_bodies, .int v_count])), (h_bodies, .inl (k_bodies, 2, .inl v_bodies))] sz) U)) (va_Qi (fun (r : Int32) (u : Unit) => r = r0 ∧ u = u0) (fun (u : Unit) (t : State) => va_P (dC, dI) classes [(h_o, .inr (2, [.ref h_bodies, .int v_count])), (h_bodies, .inl (k_bodies, 2, .inl v_bodies))] t.heap ∧ va_K (dC, dI) classes [(k_bodies, .int)] t ∧ va_D (va_A [(h_o, .inr (2, [.ref h_bodies, .int v_count])), (h_bodies, .inl (k_bodies, 2, .inl v_bodies))] sz) [(h_o, .inr (2, [.ref h_bodies, .int v_count])), (h_bodies, .inl (k_bodies, 2, .inl v_bodies))]) (va_A [(h_o, .inr (2, [.ref h_bodies, .int v_count])), (h_bodies, .inl (k_bodies, 2, .inl v_bodies))] sz)) 0 0 (va_A [(h_o, .inr (2, [.ref h_bodies, .int v_count])), (h_bodies, .inl (k_bodies, 2, .inl v_bodies))] sz) := by
  refine Met.ofW (cc := b_P_letterAt) (maxL := 5) (ret := (some .int)) (by decide) rfl ?_
  intro p e s m args below meth c s₁ B hml hv
  obtain ⟨rfl, hsz, hP, hK, hD0, hC⟩ := hv
  have hx := B.exec
  have hb := B.bytes
  have hr := B.returns
  have hts0 := atoms_spec (ws := w_P_letterAt) B.pre
  have hts : ∀ w ∈ lw_gd, w.before ([.ref h_o, .int x1] : List Value).toArray s = true := fun w h9 => hts0 w (List.mem_cons_of_mem _ h9)
  have hown : s.vm.findClass R_P = some m.cls := findClass_of_methodNamed B.named
  have hlocks := B.notSynchronized
  subst hsz
  have hD := hD0.self (sz := s.heap.size)
  generalize hAe : va_A [(h_o, .inr (2, [.ref h_bodies, .int v_count])), (h_bodies, .inl (k_bodies, 2, .inl v_bodies))] s.heap.size = A at hD hC ⊢
  have hA : ∀ q : Nat, s.heap.size ≤ q → A q := fun q h9 => by rw [← hAe]; exact Or.inr h9
  obtain ⟨H, eH⟩ : ∃ H : Heap, H = s.heap := ⟨_, rfl⟩
  have hS : va_S A s.heap H [] := by rw [eH]; exact va_S.rf
  have hP : va_P (dC, dI) classes [(h_o, .inr (2, [.ref h_bodies, .int v_count])), (h_bodies, .inl (k_bodies, 2, .inl v_bodies))] H := by rw [eH]; exact hP
  refine W_gen (fun Q hQ => ?_)
  refine W_heap eH ?_
  clear eH
  have hl := lv_entry ([.ref h_o, .int x1]) (n := 5) (Nat.le_of_ble_eq_true rfl)
  rw [lg_entry_eq]
  generalize (lg_sl ([.ref h_o, .int x1]) ++ List.replicate (5 - (lg_sl ([.ref h_o, .int x1])).length) Slot.unset).toArray = ls at hl ⊢
  have hl : lv_has ls 5 [(0, .ref h_o), (1, .int x1)] := hl
  have J_63 : ∀ (k_4 : Int32 → Int32 → Option (Int32 × Unit)) (hk_4 : ∀ (z2 : Int32) (z3 : Int32), k_4 z2 z3 = some (r0, u0) → ∀ (H : Heap) (locs : List Loc), va_P (dC, dI) classes [(h_o, .inr (2, [.ref h_bodies, .int v_count])), (h_bodies, .inl (k_bodies, 2, .inl v_bodies))] H → va_D A [(h_o, .inr (2, [.ref h_bodies, .int v_count])), (h_bodies, .inl (k_bodies, 2, .inl v_bodies))] → va_S A s.heap H locs → ∀ (ls : Array Slot), lv_has ls 5 [(0, .ref h_o), (2, .int z2), (3, .int z3)] → W p l e (headSpec w_P_letterAt ({ frames := 5, cells := 0, slots := 0, locals := 107 } : Room)).room s m ([.ref h_o, .int x1] : List Value).toArray below meth c H locs 0 0 Q (F0 m 4 ls [])) (z2 : Int32) (z3 : Int32) (z4 : Int32), m_P_letterAt_63 v_count v_bodies k_4 z2 z3 z4 = some (r0, u0) → ∀ (H : Heap) (locs : List Loc), va_P (dC, dI) classes [(h_o, .inr (2, [.ref h_bodies, .int v_count])), (h_bodies, .inl (k_bodies, 2, .inl v_bodies))] H → va_D A [(h_o, .inr (2, [.ref h_bodies, .int v_count])), (h_bodies, .inl (k_bodies, 2, .inl v_bodies))] → va_S A s.heap H locs → ∀ (ls : Array Slot), lv_has ls 5 [(0, .ref h_o), (2, .int z2), (3, .int z3), (4, .int z4)] → W p l e (headSpec w_P_letterAt ({ frames := 5, cells := 0, slots := 0, locals := 107 } : Room)).room s m ([.ref h_o, .int x1] : List Value).toArray below meth c H locs 0 0 Q (F0 m 63 ls []) := by
    intro k_4 hk_4 z2 z3 z4 h H locs hP hD hS ls hl
    unfold m_P_letterAt_63 at h
    refine lv_iload_n hx hb d_P_letterAt_63 rfl (lv_at hl 1 rfl) ?_
    refine lv_iload hx hb d_P_letterAt_64 (lv_at hl 3 rfl) ?_
    refine lv_iconst (v := (nI 1)) hx hb d_P_letterAt_66 (by decide) ?_
    refine lv_iadd hx hb d_P_letterAt_67 ?_
    refine lv_isub hx hb d_P_letterAt_68 ?_
    refine lv_istore_n (lv' := [(2, .int (z2 - (z4 + (nI 1)))), (0, .ref h_o), (3, .int z3), (4, .int z4)]) hx hb d_P_letterAt_69 rfl hl (by decide) rfl (fun ls hl => ?_)
    refine lv_iinc (v := z3 + (nI 1)) (lv' := [(3, .int (z3 + (nI 1))), (2, .int (z2 - (z4 + (nI 1)))), (0, .ref h_o), (4, .int z4)]) hx hb d_P_letterAt_70 hl (k := 2) rfl rfl (by decide) rfl (fun ls hl => ?_)
    refine lv_goto (tgt := 4) hx hb d_P_letterAt_73 (by decide) ?_
    exact hk_4 (z2 - (z4 + (nI 1))) (z3 + (nI 1)) h _ _ hP hD hS ls (lv_sub hl [2, 1, 0] rfl)
  have J_4 : ∀ (n : Nat) (z2 : Int32) (z3 : Int32), m_P_letterAt_4 v_count v_bodies n z2 z3 = some (r0, u0) → ∀ (H : Heap) (locs : List Loc), va_P (dC, dI) classes [(h_o, .inr (2, [.ref h_bodies, .int v_count])), (h_bodies, .inl (k_bodies, 2, .inl v_bodies))] H → va_D A [(h_o, .inr (2, [.ref h_bodies, .int v_count])), (h_bodies, .inl (k_bodies, 2, .inl v_bodies))] → va_S A s.heap H locs → ∀ (ls : Array Slot), lv_has ls 5 [(0, .ref h_o), (2, .int z2), (3, .int z3)] → W p l e (headSpec w_P_letterAt ({ frames := 5, cells := 0, slots := 0, locals := 107 } : Room)).room s m ([.ref h_o, .int x1] : List Value).toArray below meth c H locs 0 0 Q (F0 m 4 ls []) := by
    intro n
    induction n with
    | zero => intro z2 z3 h; exact absurd h (by unfold m_P_letterAt_4; exact fun h9 => nomatch h9)
    | succ n ih =>
      intro z2 z3 h H locs hP hD hS ls hl
      unfold m_P_letterAt_4 at h
      refine lv_iload_n hx hb d_P_letterAt_4 rfl (lv_at hl 2 rfl) ?_
      refine lv_aload_n hx hb d_P_letterAt_5 rfl (lv_at hl 0 rfl) ?_
      refine va_get (D := (dC, dI)) (ci := 2) (v := .int v_count) (C := R_P) (T := F_P) (N := 2) hx hb hts lay_P hown hK hP 0 rfl rfl 1 (by decide) (hts _ flk_P_15) (fun _ h9 => h9) rfl d_P_letterAt_6 ?_
      refine lv_icmp_ge (tgt := 76) hx hb d_P_letterAt_9 (by decide) (fun c_9 => ?_) (fun c_9 => ?_)
      · have h := of_pos h c_9
        refine lv_iconst (v := (-1 : Int32)) hx hb d_P_letterAt_76 (by decide) ?_
        rw [hQ]
        exact W.iret (v := (-1 : Int32)) hx hb hr (fun t ht hW => ⟨⟨(-1 : Int32), (), rfl, Prod.mk.inj (Option.some.inj h), by rw [ht]; exact hP, va_K.moved hW.alike hK, hD⟩, hS.F ht⟩) hS.2.2 d_P_letterAt_77
      · have h := of_neg h c_9
        refine lv_iload_n hx hb d_P_letterAt_12 rfl (lv_at hl 1 rfl) ?_
        refine lv_if_lt (tgt := 76) hx hb d_P_letterAt_13 (by decide) (fun c_13 => ?_) (fun c_13 => ?_)
        · have h := of_pos h c_13
          refine lv_iconst (v := (-1 : Int32)) hx hb d_P_letterAt_76 (by decide) ?_
          rw [hQ]
          exact W.iret (v := (-1 : Int32)) hx hb hr (fun t ht hW => ⟨⟨(-1 : Int32), (), rfl, Prod.mk.inj (Option.some.inj h), by rw [ht]; exact hP, va_K.moved hW.alike hK, hD⟩, hS.F ht⟩) hS.2.2 d_P_letterAt_77
        · have h := of_neg h c_13
          refine lv_aload_n hx hb d_P_letterAt_16 rfl (lv_at hl 0 rfl) ?_
          refine va_get (D := (dC, dI)) (ci := 2) (v := .ref h_bodies) (C := R_P) (T := F_P) (N := 2) hx hb hts lay_P hown hK hP 0 rfl rfl 0 (by decide) (hts _ flk_P_9) (fun _ h9 => h9) rfl d_P_letterAt_17 ?_
          refine lv_iload_n hx hb d_P_letterAt_20 rfl (lv_at hl 2 rfl) ?_
          obtain ⟨g_21, h⟩ := of_guard h
          refine va_iald hx hb hK hP 1 0 rfl rfl (inR_in g_21) d_P_letterAt_21 ?_
          have hPc := hP.sub (ws' := []) [] rfl
          have hDc := hD.sub (ws' := []) [] (by decide) rfl
          have hKc := hK.sub (tys' := []) [] rfl
          have hFc := va_free (wc := []) hD hS hA [] rfl
          obtain ⟨v_22, hc_22, h⟩ := of_bind h
          refine va_calli (va_runS (As := [.int (v_bodies z3.toNatClampNeg)]) (rest := []) ⟨hx, hb, hml, hown, hts⟩ (c_P_textLength l dC dI H.size (v_bodies z3.toNatClampNeg) v_22.1 v_22.2 hc_22) (va_cwS 1 hts (gS mlk_P_23 sta_P_textLength ini_P cod_P_textLength) rfl rfl rfl (by decide +kernel) ⟨Nat.le_of_ble_eq_true rfl, Nat.le_of_ble_eq_true rfl⟩) ⟨fun a U g mk q => by obtain ⟨q0, q1, qP, qK, qD⟩ := q; exact ⟨q0, q1, qP, va_K.moved (u := U) (U := U.calling g mk a) (Vm.Alike.refl U.vm) qK, qD⟩, fun U hU hW => ⟨rfl, by rw [hU], by rw [hU]; exact hPc, va_K.moved hW.alike hKc, hDc.weaken (fun _ _ _ _ => trivial)⟩⟩ rfl rfl hl.1 rfl (lv_room (Nat.le_of_ble_eq_true rfl)) d_P_letterAt_22 ⟨Nat.le_of_ble_eq_true rfl, Nat.le_of_ble_eq_true rfl⟩) hS (fun q _ h9 => hFc q h9) hFc (fun r_22 u t H1 locs ht hvm hw hB hz1 hk1 hS => ?_)
          obtain ⟨rfl, rfl⟩ := hw
          obtain ⟨hP1, hK1, hD1⟩ := hB
          rw [ht] at hP1
          obtain ⟨hP, hD⟩ := va_join (wr := [(h_o, .inr (2, [.ref h_bodies, .int v_count])), (h_bodies, .inl (k_bodies, 2, .inl v_bodies))]) (w1 := []) hP hD [] [0, 1] rfl rfl (by decide) (by decide) hk1 hFc hP1 hD1
          have hP := hP.sub (ws' := [(h_o, .inr (2, [.ref h_bodies, .int v_count])), (h_bodies, .inl (k_bodies, 2, .inl v_bodies))]) [0, 1] rfl
          have hD := hD.sub (ws' := [(h_o, .inr (2, [.ref h_bodies, .int v_count])), (h_bodies, .inl (k_bodies, 2, .inl v_bodies))]) [0, 1] (by decide) rfl
          generalize H1 = H at hP hS ⊢
          refine lv_istore (lv' := [(4, .int v_22.1), (0, .ref h_o), (2, .int z2), (3, .int z3)]) hx hb d_P_letterAt_25 hl (by decide) rfl (fun ls hl => ?_)
          refine lv_iload_n hx hb d_P_letterAt_27 rfl (lv_at hl 2 rfl) ?_
          refine lv_iload hx hb d_P_letterAt_28 (lv_at hl 0 rfl) ?_
          refine lv_icmp_ge (tgt := 44) hx hb d_P_letterAt_30 (by decide) (fun c_30 => ?_) (fun c_30 => ?_)
          · have h := of_pos h c_30
            refine lv_iload_n hx hb d_P_letterAt_44 rfl (lv_at hl 2 rfl) ?_
            refine lv_iload hx hb d_P_letterAt_45 (lv_at hl 0 rfl) ?_
            refine lv_icmp_ne (tgt := 63) hx hb d_P_letterAt_47 (by decide) (fun c_47 => ?_) (fun c_47 => ?_)
            · have h := of_neg h c_47
              exact J_63 (m_P_letterAt_4 v_count v_bodies n) ih z2 z3 v_22.1 h _ _ hP hD hS ls (lv_sub hl [1, 2, 3, 0] rfl)
            · have h := of_pos h c_47
              refine lv_iload_n hx hb d_P_letterAt_50 rfl (lv_at hl 3 rfl) ?_
              refine lv_iconst (v := (nI 1)) hx hb d_P_letterAt_51 (by decide) ?_
              refine lv_iadd hx hb d_P_letterAt_52 ?_
              refine lv_aload_n hx hb d_P_letterAt_53 rfl (lv_at hl 1 rfl) ?_
              refine va_get (D := (dC, dI)) (ci := 2) (v := .int v_count) (C := R_P) (T := F_P) (N := 2) hx hb hts lay_P hown hK hP 0 rfl rfl 1 (by decide) (hts _ flk_P_15) (fun _ h9 => h9) rfl d_P_letterAt_54 ?_
              refine lv_icmp_ge (tgt := 63) hx hb d_P_letterAt_57 (by decide) (fun c_57 => ?_) (fun c_57 => ?_)
              · have h := of_pos h c_57
                exact J_63 (m_P_letterAt_4 v_count v_bodies n) ih z2 z3 v_22.1 h _ _ hP hD hS ls (lv_sub hl [1, 2, 3, 0] rfl)
              · have h := of_neg h c_57
                refine lv_bipush (v := (nI 59)) hx hb d_P_letterAt_60 (by decide) ?_
                rw [hQ]
                exact W.iret (v := (nI 59)) hx hb hr (fun t ht hW => ⟨⟨(nI 59), (), rfl, Prod.mk.inj (Option.some.inj h), by rw [ht]; exact hP, va_K.moved hW.alike hK, hD⟩, hS.F ht⟩) hS.2.2 d_P_letterAt_62
          · have h := of_neg h c_30
            refine lv_aload_n hx hb d_P_letterAt_33 rfl (lv_at hl 1 rfl) ?_
            refine va_get (D := (dC, dI)) (ci := 2) (v := .ref h_bodies) (C := R_P) (T := F_P) (N := 2) hx hb hts lay_P hown hK hP 0 rfl rfl 0 (by decide) (hts _ flk_P_9) (fun _ h9 => h9) rfl d_P_letterAt_34 ?_
            refine lv_iload_n hx hb d_P_letterAt_37 rfl (lv_at hl 3 rfl) ?_
            obtain ⟨g_38, h⟩ := of_guard h
            refine va_iald hx hb hK hP 1 0 rfl rfl (inR_in g_38) d_P_letterAt_38 ?_
            refine lv_iload_n hx hb d_P_letterAt_39 rfl (lv_at hl 2 rfl) ?_
            have hPc := hP.sub (ws' := []) [] rfl
            have hDc := hD.sub (ws' := []) [] (by decide) rfl
            have hKc := hK.sub (tys' := []) [] rfl
            have hFc := va_free (wc := []) hD hS hA [] rfl
            obtain ⟨v_40, hc_40, h⟩ := of_bind h
            refine va_calli (va_runS (As := [.int (v_bodies z3.toNatClampNeg), .int z2]) (rest := []) ⟨hx, hb, hml, hown, hts⟩ (c_P_letterOf l dC dI tb ak av H.size (v_bodies z3.toNatClampNeg) z2 v_40.1 v_40.2 hc_40) (va_cwS 2 hts (gS mlk_P_26 sta_P_letterOf ini_P cod_P_letterOf) rfl rfl rfl (by decide +kernel) ⟨Nat.le_of_ble_eq_true rfl, Nat.le_of_ble_eq_true rfl⟩) ⟨fun a U g mk q => by obtain ⟨q0, q1, qP, qK, qD, qC⟩ := q; exact ⟨q0, q1, qP, va_K.moved (u := U) (U := U.calling g mk a) (Vm.Alike.refl U.vm) qK, qD, kw_blind qC⟩, fun U hU hW => ⟨rfl, by rw [hU], by rw [hU]; exact hPc, va_K.moved hW.alike hKc, hDc.weaken (fun _ _ _ _ => trivial), kw_call hC hS hFc hU hW⟩⟩ rfl rfl hl.1 rfl (lv_room (Nat.le_of_ble_eq_true rfl)) d_P_letterAt_40 ⟨Nat.le_of_ble_eq_true rfl, Nat.le_of_ble_eq_true rfl⟩) hS (fun q _ h9 => hFc q h9) hFc (fun r_40 u t H1 locs ht hvm hw hB hz1 hk1 hS => ?_)
            obtain ⟨rfl, rfl⟩ := hw
            obtain ⟨hP1, hK1, hD1⟩ := hB
            rw [ht] at hP1
            obtain ⟨hP, hD⟩ := va_join (wr := [(h_o, .inr (2, [.ref h_bodies, .int v_count])), (h_bodies, .inl (k_bodies, 2, .inl v_bodies))]) (w1 := []) hP hD [] [0, 1] rfl rfl (by decide) (by decide) hk1 hFc hP1 hD1
            have hP := hP.sub (ws' := [(h_o, .inr (2, [.ref h_bodies, .int v_count])), (h_bodies, .inl (k_bodies, 2, .inl v_bodies))]) [0, 1] rfl
            have hD := hD.sub (ws' := [(h_o, .inr (2, [.ref h_bodies, .int v_count])), (h_bodies, .inl (k_bodies, 2, .inl v_bodies))]) [0, 1] (by decide) rfl
            generalize H1 = H at hP hS ⊢
            rw [hQ]
            exact W.iret (v := v_40.1) hx hb hr (fun t ht hW => ⟨⟨v_40.1, (), rfl, Prod.mk.inj (Option.some.inj h), by rw [ht]; exact hP, va_K.moved hW.alike hK, hD⟩, hS.F ht⟩) hS.2.2 d_P_letterAt_43
  unfold m_P_letterAt at h
  refine lv_iload_n hx hb d_P_letterAt_0 rfl (lv_at hl 1 rfl) ?_
  refine lv_istore_n (lv' := [(2, .int x1), (0, .ref h_o), (1, .int x1)]) hx hb d_P_letterAt_1 rfl hl (by decide) rfl (fun ls hl => ?_)
  refine lv_iconst (v := (nI 0)) hx hb d_P_letterAt_2 (by decide) ?_
  refine lv_istore_n (lv' := [(3, .int (nI 0)), (2, .int x1), (0, .ref h_o), (1, .int x1)]) hx hb d_P_letterAt_3 rfl hl (by decide) rfl (fun ls hl => ?_)
  exact J_4 40 x1 (nI 0) h _ _ hP hD hS ls (lv_sub hl [2, 1, 0] rfl)
end
section
theorem d_D_choicesWhere_0 : decode b_D_choicesWhere 0 = .ok (.lconst 0, 1) := by decide +kernel
theorem d_D_choicesWhere_1 : decode b_D_choicesWhere 1 = .ok (.lstore_n 3, 1) := by decide +kernel
theorem d_D_choicesWhere_2 : decode b_D_choicesWhere 2 = .ok (.iconst 0, 1) := by decide +kernel
theorem d_D_choicesWhere_3 : decode b_D_choicesWhere 3 = .ok (.istore 5, 2) := by decide +kernel
theorem d_D_choicesWhere_5 : decode b_D_choicesWhere 5 = .ok (.iload 5, 2) := by decide +kernel
theorem d_D_choicesWhere_7 : decode b_D_choicesWhere 7 = .ok (.bipush 16, 2) := by decide +kernel
theorem d_D_choicesWhere_9 : decode b_D_choicesWhere 9 = .ok (.if_icmp .ge 53, 3) := by decide +kernel
theorem d_D_choicesWhere_12 : decode b_D_choicesWhere 12 = .ok (.iload_n 0, 1) := by decide +kernel
theorem d_D_choicesWhere_13 : decode b_D_choicesWhere 13 = .ok (.iload 5, 2) := by decide +kernel
theorem d_D_choicesWhere_15 : decode b_D_choicesWhere 15 = .ok (.ishr, 1) := by decide +kernel
theorem d_D_choicesWhere_16 : decode b_D_choicesWhere 16 = .ok (.ifCond .eq 46, 3) := by decide +kernel
theorem d_D_choicesWhere_19 : decode b_D_choicesWhere 19 = .ok (.iload_n 0, 1) := by decide +kernel
theorem d_D_choicesWhere_20 : decode b_D_choicesWhere 20 = .ok (.iload 5, 2) := by decide +kernel
theorem d_D_choicesWhere_22 : decode b_D_choicesWhere 22 = .ok (.ishr, 1) := by decide +kernel
theorem d_D_choicesWhere_23 : decode b_D_choicesWhere 23 = .ok (.iconst 1, 1) := by decide +kernel
theorem d_D_choicesWhere_24 : decode b_D_choicesWhere 24 = .ok (.iand, 1) := by decide +kernel
theorem d_D_choicesWhere_25 : decode b_D_choicesWhere 25 = .ok (.ifCond .eq 31, 3) := by decide +kernel
theorem d_D_choicesWhere_28 : decode b_D_choicesWhere 28 = .ok (.lload_n 3, 1) := by decide +kernel
theorem d_D_choicesWhere_29 : decode b_D_choicesWhere 29 = .ok (.getstatic 52, 3) := by decide +kernel
theorem d_D_choicesWhere_32 : decode b_D_choicesWhere 32 = .ok (.iconst 4, 1) := by decide +kernel
theorem d_D_choicesWhere_33 : decode b_D_choicesWhere 33 = .ok (.iload_n 1, 1) := by decide +kernel
theorem d_D_choicesWhere_34 : decode b_D_choicesWhere 34 = .ok (.imul, 1) := by decide +kernel
theorem d_D_choicesWhere_35 : decode b_D_choicesWhere 35 = .ok (.iload 5, 2) := by decide +kernel
theorem d_D_choicesWhere_37 : decode b_D_choicesWhere 37 = .ok (.iconst 4, 1) := by decide +kernel
theorem d_D_choicesWhere_38 : decode b_D_choicesWhere 38 = .ok (.idiv, 1) := by decide +kernel
theorem d_D_choicesWhere_39 : decode b_D_choicesWhere 39 = .ok (.iadd, 1) := by decide +kernel
theorem d_D_choicesWhere_40 : decode b_D_choicesWhere 40 = .ok (.laload, 1) := by decide +kernel
theorem d_D_choicesWhere_41 : decode b_D_choicesWhere 41 = .ok (.getstatic 52, 3) := by decide +kernel
theorem d_D_choicesWhere_44 : decode b_D_choicesWhere 44 = .ok (.iconst 4, 1) := by decide +kernel
theorem d_D_choicesWhere_45 : decode b_D_choicesWhere 45 = .ok (.iload_n 2, 1) := by decide +kernel
theorem d_D_choicesWhere_46 : decode b_D_choicesWhere 46 = .ok (.imul, 1) := by decide +kernel
theorem d_D_choicesWhere_47 : decode b_D_choicesWhere 47 = .ok (.iload 5, 2) := by decide +kernel
theorem d_D_choicesWhere_49 : decode b_D_choicesWhere 49 = .ok (.iconst 4, 1) := by decide +kernel
theorem d_D_choicesWhere_50 : decode b_D_choicesWhere 50 = .ok (.irem, 1) := by decide +kernel
theorem d_D_choicesWhere_51 : decode b_D_choicesWhere 51 = .ok (.iadd, 1) := by decide +kernel
theorem d_D_choicesWhere_52 : decode b_D_choicesWhere 52 = .ok (.laload, 1) := by decide +kernel
theorem d_D_choicesWhere_53 : decode b_D_choicesWhere 53 = .ok (.land, 1) := by decide +kernel
theorem d_D_choicesWhere_54 : decode b_D_choicesWhere 54 = .ok (.lor, 1) := by decide +kernel
theorem d_D_choicesWhere_55 : decode b_D_choicesWhere 55 = .ok (.lstore_n 3, 1) := by decide +kernel
theorem d_D_choicesWhere_56 : decode b_D_choicesWhere 56 = .ok (.iinc 5 1, 3) := by decide +kernel
theorem d_D_choicesWhere_59 : decode b_D_choicesWhere 59 = .ok (.goto (-54), 3) := by decide +kernel
theorem d_D_choicesWhere_62 : decode b_D_choicesWhere 62 = .ok (.lload_n 3, 1) := by decide +kernel
theorem d_D_choicesWhere_63 : decode b_D_choicesWhere 63 = .ok (.lreturn, 1) := by decide +kernel
theorem d_D_pairsFrom_0 : decode b_D_pairsFrom 0 = .ok (.iload_n 1, 1) := by decide +kernel
theorem d_D_pairsFrom_1 : decode b_D_pairsFrom 1 = .ok (.ifCond .ne 5, 3) := by decide +kernel
theorem d_D_pairsFrom_4 : decode b_D_pairsFrom 4 = .ok (.iconst 0, 1) := by decide +kernel
theorem d_D_pairsFrom_5 : decode b_D_pairsFrom 5 = .ok (.ireturn, 1) := by decide +kernel
theorem d_D_pairsFrom_6 : decode b_D_pairsFrom 6 = .ok (.ldc2_w 43, 3) := by decide +kernel
theorem d_D_pairsFrom_9 : decode b_D_pairsFrom 9 = .ok (.lstore_n 2, 1) := by decide +kernel
theorem d_D_pairsFrom_10 : decode b_D_pairsFrom 10 = .ok (.iload_n 1, 1) := by decide +kernel
theorem d_D_pairsFrom_11 : decode b_D_pairsFrom 11 = .ok (.istore 4, 2) := by decide +kernel
theorem d_D_pairsFrom_13 : decode b_D_pairsFrom 13 = .ok (.iconst 0, 1) := by decide +kernel
theorem d_D_pairsFrom_14 : decode b_D_pairsFrom 14 = .ok (.istore 5, 2) := by decide +kernel
theorem d_D_pairsFrom_16 : decode b_D_pairsFrom 16 = .ok (.iload 5, 2) := by decide +kernel
theorem d_D_pairsFrom_18 : decode b_D_pairsFrom 18 = .ok (.iconst 3, 1) := by decide +kernel
theorem d_D_pairsFrom_19 : decode b_D_pairsFrom 19 = .ok (.if_icmp .ge 65, 3) := by decide +kernel
theorem d_D_pairsFrom_22 : decode b_D_pairsFrom 22 = .ok (.iload 4, 2) := by decide +kernel
theorem d_D_pairsFrom_24 : decode b_D_pairsFrom 24 = .ok (.ifCond .eq 60, 3) := by decide +kernel
theorem d_D_pairsFrom_27 : decode b_D_pairsFrom 27 = .ok (.iload 4, 2) := by decide +kernel
theorem d_D_pairsFrom_29 : decode b_D_pairsFrom 29 = .ok (.invokestatic 45, 3) := by decide +kernel
theorem d_D_pairsFrom_32 : decode b_D_pairsFrom 32 = .ok (.istore 6, 2) := by decide +kernel
theorem d_D_pairsFrom_34 : decode b_D_pairsFrom 34 = .ok (.lload_n 2, 1) := by decide +kernel
theorem d_D_pairsFrom_35 : decode b_D_pairsFrom 35 = .ok (.iload 6, 2) := by decide +kernel
theorem d_D_pairsFrom_37 : decode b_D_pairsFrom 37 = .ok (.bipush 18, 2) := by decide +kernel
theorem d_D_pairsFrom_39 : decode b_D_pairsFrom 39 = .ok (.if_icmp .ge 13, 3) := by decide +kernel
theorem d_D_pairsFrom_42 : decode b_D_pairsFrom 42 = .ok (.aload_n 0, 1) := by decide +kernel
theorem d_D_pairsFrom_43 : decode b_D_pairsFrom 43 = .ok (.getfield 9, 3) := by decide +kernel
theorem d_D_pairsFrom_46 : decode b_D_pairsFrom 46 = .ok (.iload 6, 2) := by decide +kernel
theorem d_D_pairsFrom_48 : decode b_D_pairsFrom 48 = .ok (.laload, 1) := by decide +kernel
theorem d_D_pairsFrom_49 : decode b_D_pairsFrom 49 = .ok (.goto 20, 3) := by decide +kernel
theorem d_D_pairsFrom_52 : decode b_D_pairsFrom 52 = .ok (.aload_n 0, 1) := by decide +kernel
theorem d_D_pairsFrom_53 : decode b_D_pairsFrom 53 = .ok (.getfield 19, 3) := by decide +kernel
theorem d_D_pairsFrom_56 : decode b_D_pairsFrom 56 = .ok (.iload 6, 2) := by decide +kernel
theorem d_D_pairsFrom_58 : decode b_D_pairsFrom 58 = .ok (.invokestatic 30, 3) := by decide +kernel
theorem d_D_pairsFrom_61 : decode b_D_pairsFrom 61 = .ok (.iload 6, 2) := by decide +kernel
theorem d_D_pairsFrom_63 : decode b_D_pairsFrom 63 = .ok (.invokestatic 33, 3) := by decide +kernel
theorem d_D_pairsFrom_66 : decode b_D_pairsFrom 66 = .ok (.invokestatic 36, 3) := by decide +kernel
theorem d_D_pairsFrom_69 : decode b_D_pairsFrom 69 = .ok (.land, 1) := by decide +kernel
theorem d_D_pairsFrom_70 : decode b_D_pairsFrom 70 = .ok (.lstore_n 2, 1) := by decide +kernel
theorem d_D_pairsFrom_71 : decode b_D_pairsFrom 71 = .ok (.iload 4, 2) := by decide +kernel
theorem d_D_pairsFrom_73 : decode b_D_pairsFrom 73 = .ok (.invokestatic 48, 3) := by decide +kernel
theorem d_D_pairsFrom_76 : decode b_D_pairsFrom 76 = .ok (.istore 4, 2) := by decide +kernel
theorem d_D_pairsFrom_78 : decode b_D_pairsFrom 78 = .ok (.iinc 5 1, 3) := by decide +kernel
theorem d_D_pairsFrom_81 : decode b_D_pairsFrom 81 = .ok (.goto (-65), 3) := by decide +kernel
theorem d_D_pairsFrom_84 : decode b_D_pairsFrom 84 = .ok (.lload_n 2, 1) := by decide +kernel
theorem d_D_pairsFrom_85 : decode b_D_pairsFrom 85 = .ok (.lload_n 2, 1) := by decide +kernel
theorem d_D_pairsFrom_86 : decode b_D_pairsFrom 86 = .ok (.bipush 16, 2) := by decide +kernel
theorem d_D_pairsFrom_88 : decode b_D_pairsFrom 88 = .ok (.lushr, 1) := by decide +kernel
theorem d_D_pairsFrom_89 : decode b_D_pairsFrom 89 = .ok (.lor, 1) := by decide +kernel
theorem d_D_pairsFrom_90 : decode b_D_pairsFrom 90 = .ok (.lload_n 2, 1) := by decide +kernel
theorem d_D_pairsFrom_91 : decode b_D_pairsFrom 91 = .ok (.bipush 32, 2) := by decide +kernel
theorem d_D_pairsFrom_93 : decode b_D_pairsFrom 93 = .ok (.lushr, 1) := by decide +kernel
theorem d_D_pairsFrom_94 : decode b_D_pairsFrom 94 = .ok (.lor, 1) := by decide +kernel
theorem d_D_pairsFrom_95 : decode b_D_pairsFrom 95 = .ok (.lload_n 2, 1) := by decide +kernel
theorem d_D_pairsFrom_96 : decode b_D_pairsFrom 96 = .ok (.bipush 48, 2) := by decide +kernel
theorem d_D_pairsFrom_98 : decode b_D_pairsFrom 98 = .ok (.lushr, 1) := by decide +kernel
theorem d_D_pairsFrom_99 : decode b_D_pairsFrom 99 = .ok (.lor, 1) := by decide +kernel
theorem d_D_pairsFrom_100 : decode b_D_pairsFrom 100 = .ok (.l2i, 1) := by decide +kernel
theorem d_D_pairsFrom_101 : decode b_D_pairsFrom 101 = .ok (.ldc 51, 2) := by decide +kernel
theorem d_D_pairsFrom_103 : decode b_D_pairsFrom 103 = .ok (.iand, 1) := by decide +kernel
theorem d_D_pairsFrom_104 : decode b_D_pairsFrom 104 = .ok (.ireturn, 1) := by decide +kernel
theorem d_D_roundOf_0 : decode b_D_roundOf 0 = .ok (.iconst 1, 1) := by decide +kernel
theorem d_D_roundOf_1 : decode b_D_roundOf 1 = .ok (.istore_n 2, 1) := by decide +kernel
theorem d_D_roundOf_2 : decode b_D_roundOf 2 = .ok (.iload_n 2, 1) := by decide +kernel
theorem d_D_roundOf_3 : decode b_D_roundOf 3 = .ok (.aload_n 0, 1) := by decide +kernel
theorem d_D_roundOf_4 : decode b_D_roundOf 4 = .ok (.getfield 23, 3) := by decide +kernel
theorem d_D_roundOf_7 : decode b_D_roundOf 7 = .ok (.if_icmp .gt 22, 3) := by decide +kernel
theorem d_D_roundOf_10 : decode b_D_roundOf 10 = .ok (.aload_n 0, 1) := by decide +kernel
theorem d_D_roundOf_11 : decode b_D_roundOf 11 = .ok (.getfield 15, 3) := by decide +kernel
theorem d_D_roundOf_14 : decode b_D_roundOf 14 = .ok (.iload_n 2, 1) := by decide +kernel
theorem d_D_roundOf_15 : decode b_D_roundOf 15 = .ok (.iaload, 1) := by decide +kernel
theorem d_D_roundOf_16 : decode b_D_roundOf 16 = .ok (.iload_n 1, 1) := by decide +kernel
theorem d_D_roundOf_17 : decode b_D_roundOf 17 = .ok (.iand, 1) := by decide +kernel
theorem d_D_roundOf_18 : decode b_D_roundOf 18 = .ok (.ifCond .eq 5, 3) := by decide +kernel
theorem d_D_roundOf_21 : decode b_D_roundOf 21 = .ok (.iload_n 2, 1) := by decide +kernel
theorem d_D_roundOf_22 : decode b_D_roundOf 22 = .ok (.ireturn, 1) := by decide +kernel
theorem d_D_roundOf_23 : decode b_D_roundOf 23 = .ok (.iinc 2 1, 3) := by decide +kernel
theorem d_D_roundOf_26 : decode b_D_roundOf 26 = .ok (.goto (-24), 3) := by decide +kernel
theorem d_D_roundOf_29 : decode b_D_roundOf 29 = .ok (.iconst 0, 1) := by decide +kernel
theorem d_D_roundOf_30 : decode b_D_roundOf 30 = .ok (.ireturn, 1) := by decide +kernel
theorem d_D_run_0 : decode b_D_run 0 = .ok (.aload_n 0, 1) := by decide +kernel
theorem d_D_run_1 : decode b_D_run 1 = .ok (.iconst 0, 1) := by decide +kernel
theorem d_D_run_2 : decode b_D_run 2 = .ok (.putfield 19, 3) := by decide +kernel
theorem d_D_run_5 : decode b_D_run 5 = .ok (.aload_n 0, 1) := by decide +kernel
theorem d_D_run_6 : decode b_D_run 6 = .ok (.iconst 0, 1) := by decide +kernel
theorem d_D_run_7 : decode b_D_run 7 = .ok (.putfield 23, 3) := by decide +kernel
theorem d_D_run_10 : decode b_D_run 10 = .ok (.iconst 1, 1) := by decide +kernel
theorem d_D_run_11 : decode b_D_run 11 = .ok (.istore_n 3, 1) := by decide +kernel
theorem d_D_run_12 : decode b_D_run 12 = .ok (.iload_n 3, 1) := by decide +kernel
theorem d_D_run_13 : decode b_D_run 13 = .ok (.bipush 16, 2) := by decide +kernel
theorem d_D_run_15 : decode b_D_run 15 = .ok (.if_icmp .gt 59, 3) := by decide +kernel
theorem d_D_run_18 : decode b_D_run 18 = .ok (.aload_n 0, 1) := by decide +kernel
theorem d_D_run_19 : decode b_D_run 19 = .ok (.iload_n 1, 1) := by decide +kernel
theorem d_D_run_20 : decode b_D_run 20 = .ok (.invokevirtual 40, 3) := by decide +kernel
theorem d_D_run_23 : decode b_D_run 23 = .ok (.aload_n 0, 1) := by decide +kernel
theorem d_D_run_24 : decode b_D_run 24 = .ok (.iload_n 2, 1) := by decide +kernel
theorem d_D_run_25 : decode b_D_run 25 = .ok (.invokevirtual 40, 3) := by decide +kernel
theorem d_D_run_28 : decode b_D_run 28 = .ok (.ior, 1) := by decide +kernel
theorem d_D_run_29 : decode b_D_run 29 = .ok (.aload_n 0, 1) := by decide +kernel
theorem d_D_run_30 : decode b_D_run 30 = .ok (.getfield 19, 3) := by decide +kernel
theorem d_D_run_33 : decode b_D_run 33 = .ok (.iconst (-1), 1) := by decide +kernel
theorem d_D_run_34 : decode b_D_run 34 = .ok (.ixor, 1) := by decide +kernel
theorem d_D_run_35 : decode b_D_run 35 = .ok (.iand, 1) := by decide +kernel
theorem d_D_run_36 : decode b_D_run 36 = .ok (.istore 4, 2) := by decide +kernel
theorem d_D_run_38 : decode b_D_run 38 = .ok (.iload 4, 2) := by decide +kernel
theorem d_D_run_40 : decode b_D_run 40 = .ok (.ifCond .ne 4, 3) := by decide +kernel
theorem d_D_run_43 : decode b_D_run 43 = .ok (.return_, 1) := by decide +kernel
theorem d_D_run_44 : decode b_D_run 44 = .ok (.aload_n 0, 1) := by decide +kernel
theorem d_D_run_45 : decode b_D_run 45 = .ok (.getfield 15, 3) := by decide +kernel
theorem d_D_run_48 : decode b_D_run 48 = .ok (.iload_n 3, 1) := by decide +kernel
theorem d_D_run_49 : decode b_D_run 49 = .ok (.iload 4, 2) := by decide +kernel
theorem d_D_run_51 : decode b_D_run 51 = .ok (.iastore, 1) := by decide +kernel
theorem d_D_run_52 : decode b_D_run 52 = .ok (.aload_n 0, 1) := by decide +kernel
theorem d_D_run_53 : decode b_D_run 53 = .ok (.dup, 1) := by decide +kernel
theorem d_D_run_54 : decode b_D_run 54 = .ok (.getfield 19, 3) := by decide +kernel
theorem d_D_run_57 : decode b_D_run 57 = .ok (.iload 4, 2) := by decide +kernel
theorem d_D_run_59 : decode b_D_run 59 = .ok (.ior, 1) := by decide +kernel
theorem d_D_run_60 : decode b_D_run 60 = .ok (.putfield 19, 3) := by decide +kernel
theorem d_D_run_63 : decode b_D_run 63 = .ok (.aload_n 0, 1) := by decide +kernel
theorem d_D_run_64 : decode b_D_run 64 = .ok (.iload_n 3, 1) := by decide +kernel
theorem d_D_run_65 : decode b_D_run 65 = .ok (.putfield 23, 3) := by decide +kernel
theorem d_D_run_68 : decode b_D_run 68 = .ok (.iinc 3 1, 3) := by decide +kernel
theorem d_D_run_71 : decode b_D_run 71 = .ok (.goto (-59), 3) := by decide +kernel
theorem d_D_run_74 : decode b_D_run 74 = .ok (.return_, 1) := by decide +kernel
theorem d_D_takeFacts_0 : decode b_D_takeFacts 0 = .ok (.iconst 0, 1) := by decide +kernel
theorem d_D_takeFacts_1 : decode b_D_takeFacts 1 = .ok (.istore_n 3, 1) := by decide +kernel
theorem d_D_takeFacts_2 : decode b_D_takeFacts 2 = .ok (.iload_n 3, 1) := by decide +kernel
theorem d_D_takeFacts_3 : decode b_D_takeFacts 3 = .ok (.bipush 18, 2) := by decide +kernel
theorem d_D_takeFacts_5 : decode b_D_takeFacts 5 = .ok (.if_icmp .ge 42, 3) := by decide +kernel
theorem d_D_takeFacts_8 : decode b_D_takeFacts 8 = .ok (.iload_n 3, 1) := by decide +kernel
theorem d_D_takeFacts_9 : decode b_D_takeFacts 9 = .ok (.invokestatic 26, 3) := by decide +kernel
theorem d_D_takeFacts_12 : decode b_D_takeFacts 12 = .ok (.ifCond .ne 7, 3) := by decide +kernel
theorem d_D_takeFacts_15 : decode b_D_takeFacts 15 = .ok (.iload_n 1, 1) := by decide +kernel
theorem d_D_takeFacts_16 : decode b_D_takeFacts 16 = .ok (.goto 4, 3) := by decide +kernel
theorem d_D_takeFacts_19 : decode b_D_takeFacts 19 = .ok (.iload_n 2, 1) := by decide +kernel
theorem d_D_takeFacts_20 : decode b_D_takeFacts 20 = .ok (.istore 4, 2) := by decide +kernel
theorem d_D_takeFacts_22 : decode b_D_takeFacts 22 = .ok (.aload_n 0, 1) := by decide +kernel
theorem d_D_takeFacts_23 : decode b_D_takeFacts 23 = .ok (.getfield 9, 3) := by decide +kernel
theorem d_D_takeFacts_26 : decode b_D_takeFacts 26 = .ok (.iload_n 3, 1) := by decide +kernel
theorem d_D_takeFacts_27 : decode b_D_takeFacts 27 = .ok (.iload 4, 2) := by decide +kernel
theorem d_D_takeFacts_29 : decode b_D_takeFacts 29 = .ok (.iload_n 3, 1) := by decide +kernel
theorem d_D_takeFacts_30 : decode b_D_takeFacts 30 = .ok (.invokestatic 30, 3) := by decide +kernel
theorem d_D_takeFacts_33 : decode b_D_takeFacts 33 = .ok (.iload_n 3, 1) := by decide +kernel
theorem d_D_takeFacts_34 : decode b_D_takeFacts 34 = .ok (.invokestatic 33, 3) := by decide +kernel
theorem d_D_takeFacts_37 : decode b_D_takeFacts 37 = .ok (.invokestatic 36, 3) := by decide +kernel
theorem d_D_takeFacts_40 : decode b_D_takeFacts 40 = .ok (.lastore, 1) := by decide +kernel
theorem d_D_takeFacts_41 : decode b_D_takeFacts 41 = .ok (.iinc 3 1, 3) := by decide +kernel
theorem d_D_takeFacts_44 : decode b_D_takeFacts 44 = .ok (.goto (-42), 3) := by decide +kernel
theorem d_D_takeFacts_47 : decode b_D_takeFacts 47 = .ok (.return_, 1) := by decide +kernel
set_option maxHeartbeats 4000000 in
set_option maxRecDepth 100000 in
theorem c_D_choicesWhere (l : Launch) (dC : Nat → ClassId) (dI : Nat → Nat → Nat) (tb : Nat) (ak av : Nat → Nat) (sz : Nat)  (x0 : Int32) (x1 : Int32) (x2 : Int32) (r0 : Int64) (u0 : Unit) (h : m_D_choicesWhere x0 x1 x2 = some (r0, u0)) : Met l y_D_choicesWhere w_D_choicesWhere ({ frames := 0, cells := 0, slots := 0, locals := 0 } : Room) (va_Pc [.int x0, .int x1, .int x2] (fun U => U.heap.size = sz ∧ va_P (dC, dI) classes [] U.heap ∧ va_K (dC, dI) classes [] U ∧ va_D (fun _ => True) [] ∧ kw tb ak av (va_A [] sz) U)) (va_Ql (fun (r : Int64) (u : Unit) => r = r0 ∧ u = u0) (fun (u : Unit) (t : State) => va_P (dC, dI) classes [] t.heap ∧ va_K (dC, dI) classes [] t ∧ va_D (va_A [] sz) []) (va_A [] sz)) 0 0 (va_A [] sz) := by
  refine Met.ofW (cc := b_D_choicesWhere) (maxL := 6) (ret := (some .long)) (by decide) rfl ?_
  intro p e s m args below meth c s₁ B hml hv
  obtain ⟨rfl, hsz, hP, hK, hD0, hC⟩ := hv
  have hx := B.exec
  have hb := B.bytes
  have hr := B.returns
  have hts0 := atoms_spec (ws := w_D_choicesWhere) B.pre
  have hts : ∀ w ∈ lw_gd, w.before ([.int x0, .int x1, .int x2] : List Value).toArray s = true := fun w h9 => hts0 w (List.mem_cons_of_mem _ h9)
  have hown : s.vm.findClass R_D = some m.cls := findClass_of_methodNamed B.named
  have hlocks := B.notSynchronized
  subst hsz
  have hD := hD0.self (sz := s.heap.size)
  generalize hAe : va_A [] s.heap.size = A at hD hC ⊢
  have hA : ∀ q : Nat, s.heap.size ≤ q → A q := fun q h9 => by rw [← hAe]; exact Or.inr h9
  obtain ⟨H, eH⟩ : ∃ H : Heap, H = s.heap := ⟨_, rfl⟩
  have hS : va_S A s.heap H [] := by rw [eH]; exact va_S.rf
  have hP : va_P (dC, dI) classes [] H := by rw [eH]; exact hP
  refine W_gen (fun Q hQ => ?_)
  refine W_heap eH ?_
  clear eH
  have hl := lv_entry ([.int x0, .int x1, .int x2]) (n := 6) (Nat.le_of_ble_eq_true rfl)
  rw [lg_entry_eq]
  generalize (lg_sl ([.int x0, .int x1, .int x2]) ++ List.replicate (6 - (lg_sl ([.int x0, .int x1, .int x2])).length) Slot.unset).toArray = ls at hl ⊢
  have hl : lv_has ls 6 [(0, .int x0), (1, .int x1), (2, .int x2)] := hl
  have J_56 : ∀ (k_5 : Int32 → Int32 → Int32 → Int64 → Int32 → Option (Int64 × Unit)) (hk_5 : ∀ (z0 : Int32) (z1 : Int32) (z2 : Int32) (z3 : Int64) (z5 : Int32), k_5 z0 z1 z2 z3 z5 = some (r0, u0) → ∀ (H : Heap) (locs : List Loc), va_P (dC, dI) classes [] H → va_D A [] → va_S A s.heap H locs → ∀ (ls : Array Slot), lv_has ls 6 [(0, .int z0), (1, .int z1), (2, .int z2), (3, .long z3), (5, .int z5)] → W p l e (headSpec w_D_choicesWhere ({ frames := 0, cells := 0, slots := 0, locals := 0 } : Room)).room s m ([.int x0, .int x1, .int x2] : List Value).toArray below meth c H locs 0 0 Q (F0 m 5 ls [])) (z0 : Int32) (z1 : Int32) (z2 : Int32) (z3 : Int64) (z5 : Int32), m_D_choicesWhere_56 k_5 z0 z1 z2 z3 z5 = some (r0, u0) → ∀ (H : Heap) (locs : List Loc), va_P (dC, dI) classes [] H → va_D A [] → va_S A s.heap H locs → ∀ (ls : Array Slot), lv_has ls 6 [(0, .int z0), (1, .int z1), (2, .int z2), (3, .long z3), (5, .int z5)] → W p l e (headSpec w_D_choicesWhere ({ frames := 0, cells := 0, slots := 0, locals := 0 } : Room)).room s m ([.int x0, .int x1, .int x2] : List Value).toArray below meth c H locs 0 0 Q (F0 m 56 ls []) := by
    intro k_5 hk_5 z0 z1 z2 z3 z5 h H locs hP hD hS ls hl
    unfold m_D_choicesWhere_56 at h
    refine lv_iinc (v := z5 + (nI 1)) (lv' := [(5, .int (z5 + (nI 1))), (0, .int z0), (1, .int z1), (2, .int z2), (3, .long z3)]) hx hb d_D_choicesWhere_56 hl (k := 4) rfl rfl (by decide) rfl (fun ls hl => ?_)
    refine lv_goto (tgt := 5) hx hb d_D_choicesWhere_59 (by decide) ?_
    exact hk_5 z0 z1 z2 z3 (z5 + (nI 1)) h _ _ hP hD hS ls (lv_sub hl [1, 2, 3, 4, 0] rfl)
  have J_5 : ∀ (n : Nat) (z0 : Int32) (z1 : Int32) (z2 : Int32) (z3 : Int64) (z5 : Int32), m_D_choicesWhere_5 n z0 z1 z2 z3 z5 = some (r0, u0) → ∀ (H : Heap) (locs : List Loc), va_P (dC, dI) classes [] H → va_D A [] → va_S A s.heap H locs → ∀ (ls : Array Slot), lv_has ls 6 [(0, .int z0), (1, .int z1), (2, .int z2), (3, .long z3), (5, .int z5)] → W p l e (headSpec w_D_choicesWhere ({ frames := 0, cells := 0, slots := 0, locals := 0 } : Room)).room s m ([.int x0, .int x1, .int x2] : List Value).toArray below meth c H locs 0 0 Q (F0 m 5 ls []) := by
    intro n
    induction n with
    | zero => intro z0 z1 z2 z3 z5 h; exact absurd h (by unfold m_D_choicesWhere_5; exact fun h9 => nomatch h9)
    | succ n ih =>
      intro z0 z1 z2 z3 z5 h H locs hP hD hS ls hl
      unfold m_D_choicesWhere_5 at h
      refine lv_iload hx hb d_D_choicesWhere_5 (lv_at hl 4 rfl) ?_
      refine lv_bipush (v := (nI 16)) hx hb d_D_choicesWhere_7 (by decide) ?_
      refine lv_icmp_ge (tgt := 62) hx hb d_D_choicesWhere_9 (by decide) (fun c_9 => ?_) (fun c_9 => ?_)
      · have h := of_pos h c_9
        refine lv_lload_n hx hb d_D_choicesWhere_62 rfl (lv_at hl 3 rfl) ?_
        rw [hQ]
        exact W.lret (v := z3) hx hb hr (fun t ht hW => ⟨⟨z3, (), rfl, Prod.mk.inj (Option.some.inj h), by rw [ht]; exact hP, va_K.moved hW.alike hK, hD⟩, hS.F ht⟩) hS.2.2 d_D_choicesWhere_63
      · have h := of_neg h c_9
        refine lv_iload_n hx hb d_D_choicesWhere_12 rfl (lv_at hl 0 rfl) ?_
        refine lv_iload hx hb d_D_choicesWhere_13 (lv_at hl 4 rfl) ?_
        refine lv_ishr hx hb d_D_choicesWhere_15 ?_
        refine lv_if_eq (tgt := 62) hx hb d_D_choicesWhere_16 (by decide) (fun c_16 => ?_) (fun c_16 => ?_)
        · have h := of_pos h c_16
          refine lv_lload_n hx hb d_D_choicesWhere_62 rfl (lv_at hl 3 rfl) ?_
          rw [hQ]
          exact W.lret (v := z3) hx hb hr (fun t ht hW => ⟨⟨z3, (), rfl, Prod.mk.inj (Option.some.inj h), by rw [ht]; exact hP, va_K.moved hW.alike hK, hD⟩, hS.F ht⟩) hS.2.2 d_D_choicesWhere_63
        · have h := of_neg h c_16
          refine lv_iload_n hx hb d_D_choicesWhere_19 rfl (lv_at hl 0 rfl) ?_
          refine lv_iload hx hb d_D_choicesWhere_20 (lv_at hl 4 rfl) ?_
          refine lv_ishr hx hb d_D_choicesWhere_22 ?_
          refine lv_iconst (v := (nI 1)) hx hb d_D_choicesWhere_23 (by decide) ?_
          refine lv_iand hx hb d_D_choicesWhere_24 ?_
          refine lv_if_eq (tgt := 56) hx hb d_D_choicesWhere_25 (by decide) (fun c_25 => ?_) (fun c_25 => ?_)
          · have h := of_pos h c_25
            exact J_56 (m_D_choicesWhere_5 n) ih z0 z1 z2 z3 z5 h _ _ hP hD hS ls (lv_sub hl [0, 1, 2, 3, 4] rfl)
          · have h := of_neg h c_25
            refine lv_lload_n hx hb d_D_choicesWhere_28 rfl (lv_at hl 3 rfl) ?_
            refine va_gets hx hb hC.tabz hS hown (hts _ flk_D_52) (fun _ h9 => h9) d_D_choicesWhere_29 ?_
            refine lv_iconst (v := (nI 4)) hx hb d_D_choicesWhere_32 (by decide) ?_
            refine lv_iload_n hx hb d_D_choicesWhere_33 rfl (lv_at hl 1 rfl) ?_
            refine lv_imul hx hb d_D_choicesWhere_34 ?_
            refine lv_iload hx hb d_D_choicesWhere_35 (lv_at hl 4 rfl) ?_
            refine lv_iconst (v := (nI 4)) hx hb d_D_choicesWhere_37 (by decide) ?_
            refine lv_idiv hx hb d_D_choicesWhere_38 (by decide) ?_
            refine lv_iadd hx hb d_D_choicesWhere_39 ?_
            obtain ⟨g_40, h⟩ := of_guard h
            refine va_tl hx hb hC.tab hS (inR_in g_40) rfl d_D_choicesWhere_40 ?_
            refine va_gets hx hb hC.tabz hS hown (hts _ flk_D_52) (fun _ h9 => h9) d_D_choicesWhere_41 ?_
            refine lv_iconst (v := (nI 4)) hx hb d_D_choicesWhere_44 (by decide) ?_
            refine lv_iload_n hx hb d_D_choicesWhere_45 rfl (lv_at hl 2 rfl) ?_
            refine lv_imul hx hb d_D_choicesWhere_46 ?_
            refine lv_iload hx hb d_D_choicesWhere_47 (lv_at hl 4 rfl) ?_
            refine lv_iconst (v := (nI 4)) hx hb d_D_choicesWhere_49 (by decide) ?_
            refine lv_irem hx hb d_D_choicesWhere_50 (by decide) ?_
            refine lv_iadd hx hb d_D_choicesWhere_51 ?_
            obtain ⟨g_52, h⟩ := of_guard h
            refine va_tl hx hb hC.tab hS (inR_in g_52) rfl d_D_choicesWhere_52 ?_
            refine lv_land hx hb d_D_choicesWhere_53 ?_
            refine lv_lor hx hb d_D_choicesWhere_54 ?_
            refine lv_topl (fun w_55 ew_55 => ?_)
            have h := of_let h ew_55
            refine lv_lstore_n (lv' := [(3, .long w_55), (0, .int z0), (1, .int z1), (2, .int z2), (5, .int z5)]) hx hb d_D_choicesWhere_55 rfl hl (by decide) rfl (fun ls hl => ?_)
            exact J_56 (m_D_choicesWhere_5 n) ih z0 z1 z2 w_55 z5 h _ _ hP hD hS ls (lv_sub hl [1, 2, 3, 0, 4] rfl)
  unfold m_D_choicesWhere at h
  refine lv_lconst (v := 0) hx hb d_D_choicesWhere_0 (by decide) ?_
  refine lv_lstore_n (lv' := [(3, .long (0 : Int64)), (0, .int x0), (1, .int x1), (2, .int x2)]) hx hb d_D_choicesWhere_1 rfl hl (by decide) rfl (fun ls hl => ?_)
  refine lv_iconst (v := (nI 0)) hx hb d_D_choicesWhere_2 (by decide) ?_
  refine lv_istore (lv' := [(5, .int (nI 0)), (3, .long (0 : Int64)), (0, .int x0), (1, .int x1), (2, .int x2)]) hx hb d_D_choicesWhere_3 hl (by decide) rfl (fun ls hl => ?_)
  exact J_5 40 x0 x1 x2 (0 : Int64) (nI 0) h _ _ hP hD hS ls (lv_sub hl [2, 3, 4, 1, 0] rfl)
set_option maxHeartbeats 4000000 in
set_option maxRecDepth 100000 in
theorem c_D_pairsFrom (l : Launch) (dC : Nat → ClassId) (dI : Nat → Nat → Nat) (h_o h_factChoices h_givenInRound : Nat) (k_factChoices : ClassId) (tb : Nat) (ak av : Nat → Nat) (sz : Nat) (v_givenPairs : Int32) (v_roundCount : Int32) (v_factChoices : Nat → Int64) (x1 : Int32) (r0 : Int32) (u0 : Unit) (h : m_D_pairsFrom v_givenPairs v_factChoices x1 = some (r0, u0)) : Met l y_D_pairsFrom w_D_pairsFrom ({ frames := 2, cells := 0, slots := 0, locals := 40 } : Room) (va_Pc [.ref h_o, .int x1] (fun U => U.heap.size = sz ∧ va_P (dC, dI) classes [(h_o, .inr (0, [.ref h_factChoices, .ref h_givenInRound, .int v_givenPairs, .int v_roundCount])), (h_factChoices, .inl (k_factChoices, 18, .inr (.inl v_factChoices)))] U.heap ∧ va_K (dC, dI) classes [(k_factChoices, .long)] U ∧ va_D (fun _ => True) [(h_o, .inr (0, [.ref h_factChoices, .ref h_givenInRound, .int v_givenPairs, .int v_roundCount])), (h_factChoices, .inl (k_factChoices, 18, .inr (.inl v_factChoices)))] ∧ kw tb ak av (va_A [(h_o, .inr (0, [.ref h_factChoices, .ref h_givenInRound, .int v_givenPairs, .int v_roundCount])), (h_factChoices, .inl (k_factChoices, 18, .inr (.inl v_factChoices)))] sz) U)) (va_Qi (fun (r : Int32) (u : Unit) => r = r0 ∧ u = u0) (fun (u : Unit) (t : State) => va_P (dC, dI) classes [(h_o, .inr (0, [.ref h_factChoices, .ref h_givenInRound, .int v_givenPairs, .int v_roundCount])), (h_factChoices, .inl (k_factChoices, 18, .inr (.inl v_factChoices)))] t.heap ∧ va_K (dC, dI) classes [(k_factChoices, .long)] t ∧ va_D (va_A [(h_o, .inr (0, [.ref h_factChoices, .ref h_givenInRound, .int v_givenPairs, .int v_roundCount])), (h_factChoices, .inl (k_factChoices, 18, .inr (.inl v_factChoices)))] sz) [(h_o, .inr (0, [.ref h_factChoices, .ref h_givenInRound, .int v_givenPairs, .int v_roundCount])), (h_factChoices, .inl (k_factChoices, 18, .inr (.inl v_factChoices)))]) (va_A [(h_o, .inr (0, [.ref h_factChoices, .ref h_givenInRound, .int v_givenPairs, .int v_roundCount])), (h_factChoices, .inl (k_factChoices, 18, .inr (.inl v_factChoices)))] sz)) 0 0 (va_A [(h_o, .inr (0, [.ref h_factChoices, .ref h_givenInRound, .int v_givenPairs, .int v_roundCount])), (h_factChoices, .inl (k_factChoices, 18, .inr (.inl v_factChoices)))] sz) := by
  refine Met.ofW (cc := b_D_pairsFrom) (maxL := 7) (ret := (some .int)) (by decide) rfl ?_
  intro p e s m args below meth c s₁ B hml hv
  obtain ⟨rfl, hsz, hP, hK, hD0, hC⟩ := hv
  have hx := B.exec
  have hb := B.bytes
  have hr := B.returns
  have hts0 := atoms_spec (ws := w_D_pairsFrom) B.pre
  have hts : ∀ w ∈ lw_gd, w.before ([.ref h_o, .int x1] : List Value).toArray s = true := fun w h9 => hts0 w (List.mem_cons_of_mem _ h9)
  have hown : s.vm.findClass R_D = some m.cls := findClass_of_methodNamed B.named
  have hlocks := B.notSynchronized
  subst hsz
  have hD := hD0.self (sz := s.heap.size)
  generalize hAe : va_A [(h_o, .inr (0, [.ref h_factChoices, .ref h_givenInRound, .int v_givenPairs, .int v_roundCount])), (h_factChoices, .inl (k_factChoices, 18, .inr (.inl v_factChoices)))] s.heap.size = A at hD hC ⊢
  have hA : ∀ q : Nat, s.heap.size ≤ q → A q := fun q h9 => by rw [← hAe]; exact Or.inr h9
  obtain ⟨H, eH⟩ : ∃ H : Heap, H = s.heap := ⟨_, rfl⟩
  have hS : va_S A s.heap H [] := by rw [eH]; exact va_S.rf
  have hP : va_P (dC, dI) classes [(h_o, .inr (0, [.ref h_factChoices, .ref h_givenInRound, .int v_givenPairs, .int v_roundCount])), (h_factChoices, .inl (k_factChoices, 18, .inr (.inl v_factChoices)))] H := by rw [eH]; exact hP
  refine W_gen (fun Q hQ => ?_)
  refine W_heap eH ?_
  clear eH
  have hl := lv_entry ([.ref h_o, .int x1]) (n := 7) (Nat.le_of_ble_eq_true rfl)
  rw [lg_entry_eq]
  generalize (lg_sl ([.ref h_o, .int x1]) ++ List.replicate (7 - (lg_sl ([.ref h_o, .int x1])).length) Slot.unset).toArray = ls at hl ⊢
  have hl : lv_has ls 7 [(0, .ref h_o), (1, .int x1)] := hl
  have J_84 : ∀ (z2 : Int64), m_D_pairsFrom_84 v_givenPairs v_factChoices z2 = some (r0, u0) → ∀ (H : Heap) (locs : List Loc), va_P (dC, dI) classes [(h_o, .inr (0, [.ref h_factChoices, .ref h_givenInRound, .int v_givenPairs, .int v_roundCount])), (h_factChoices, .inl (k_factChoices, 18, .inr (.inl v_factChoices)))] H → va_D A [(h_o, .inr (0, [.ref h_factChoices, .ref h_givenInRound, .int v_givenPairs, .int v_roundCount])), (h_factChoices, .inl (k_factChoices, 18, .inr (.inl v_factChoices)))] → va_S A s.heap H locs → ∀ (ls : Array Slot), lv_has ls 7 [(2, .long z2)] → W p l e (headSpec w_D_pairsFrom ({ frames := 2, cells := 0, slots := 0, locals := 40 } : Room)).room s m ([.ref h_o, .int x1] : List Value).toArray below meth c H locs 0 0 Q (F0 m 84 ls []) := by
    intro z2 h H locs hP hD hS ls hl
    unfold m_D_pairsFrom_84 at h
    refine lv_lload_n hx hb d_D_pairsFrom_84 rfl (lv_at hl 0 rfl) ?_
    refine lv_lload_n hx hb d_D_pairsFrom_85 rfl (lv_at hl 0 rfl) ?_
    refine lv_bipush (v := (nI 16)) hx hb d_D_pairsFrom_86 (by decide) ?_
    refine lv_lushr (v := lush z2 (nI 16)) hx hb d_D_pairsFrom_88 rfl ?_
    refine lv_lor hx hb d_D_pairsFrom_89 ?_
    refine lv_lload_n hx hb d_D_pairsFrom_90 rfl (lv_at hl 0 rfl) ?_
    refine lv_bipush (v := (nI 32)) hx hb d_D_pairsFrom_91 (by decide) ?_
    refine lv_lushr (v := lush z2 (nI 32)) hx hb d_D_pairsFrom_93 rfl ?_
    refine lv_lor hx hb d_D_pairsFrom_94 ?_
    refine lv_lload_n hx hb d_D_pairsFrom_95 rfl (lv_at hl 0 rfl) ?_
    refine lv_bipush (v := (nI 48)) hx hb d_D_pairsFrom_96 (by decide) ?_
    refine lv_lushr (v := lush z2 (nI 48)) hx hb d_D_pairsFrom_98 rfl ?_
    refine lv_lor hx hb d_D_pairsFrom_99 ?_
    refine lv_l2i (v := (((z2 ||| (lush z2 (nI 16))) ||| (lush z2 (nI 32))) ||| (lush z2 (nI 48))).toInt32) hx hb d_D_pairsFrom_100 rfl ?_
    refine lv_ldc (v := 65535) hx hb hown (hts _ con_D_51) d_D_pairsFrom_101 ?_
    refine lv_iand hx hb d_D_pairsFrom_103 ?_
    rw [hQ]
    exact W.iret (v := ((((z2 ||| (lush z2 (nI 16))) ||| (lush z2 (nI 32))) ||| (lush z2 (nI 48))).toInt32) &&& (nI 65535)) hx hb hr (fun t ht hW => ⟨⟨((((z2 ||| (lush z2 (nI 16))) ||| (lush z2 (nI 32))) ||| (lush z2 (nI 48))).toInt32) &&& (nI 65535), (), rfl, Prod.mk.inj (Option.some.inj h), by rw [ht]; exact hP, va_K.moved hW.alike hK, hD⟩, hS.F ht⟩) hS.2.2 d_D_pairsFrom_104
  have J_69 : ∀ (k_16 : Int64 → Int32 → Int32 → Option (Int32 × Unit)) (hk_16 : ∀ (z2 : Int64) (z4 : Int32) (z5 : Int32), k_16 z2 z4 z5 = some (r0, u0) → ∀ (H : Heap) (locs : List Loc), va_P (dC, dI) classes [(h_o, .inr (0, [.ref h_factChoices, .ref h_givenInRound, .int v_givenPairs, .int v_roundCount])), (h_factChoices, .inl (k_factChoices, 18, .inr (.inl v_factChoices)))] H → va_D A [(h_o, .inr (0, [.ref h_factChoices, .ref h_givenInRound, .int v_givenPairs, .int v_roundCount])), (h_factChoices, .inl (k_factChoices, 18, .inr (.inl v_factChoices)))] → va_S A s.heap H locs → ∀ (ls : Array Slot), lv_has ls 7 [(0, .ref h_o), (2, .long z2), (4, .int z4), (5, .int z5)] → W p l e (headSpec w_D_pairsFrom ({ frames := 2, cells := 0, slots := 0, locals := 40 } : Room)).room s m ([.ref h_o, .int x1] : List Value).toArray below meth c H locs 0 0 Q (F0 m 16 ls [])) (z4 : Int32) (z5 : Int32) (y0 : Int64) (y1 : Int64), m_D_pairsFrom_69 v_givenPairs v_factChoices k_16 z4 z5 y0 y1 = some (r0, u0) → ∀ (H : Heap) (locs : List Loc), va_P (dC, dI) classes [(h_o, .inr (0, [.ref h_factChoices, .ref h_givenInRound, .int v_givenPairs, .int v_roundCount])), (h_factChoices, .inl (k_factChoices, 18, .inr (.inl v_factChoices)))] H → va_D A [(h_o, .inr (0, [.ref h_factChoices, .ref h_givenInRound, .int v_givenPairs, .int v_roundCount])), (h_factChoices, .inl (k_factChoices, 18, .inr (.inl v_factChoices)))] → va_S A s.heap H locs → ∀ (ls : Array Slot), lv_has ls 7 [(0, .ref h_o), (4, .int z4), (5, .int z5)] → W p l e (headSpec w_D_pairsFrom ({ frames := 2, cells := 0, slots := 0, locals := 40 } : Room)).room s m ([.ref h_o, .int x1] : List Value).toArray below meth c H locs 0 0 Q (F0 m 69 ls [.long y0, .long y1]) := by
    intro k_16 hk_16 z4 z5 y0 y1 h H locs hP hD hS ls hl
    unfold m_D_pairsFrom_69 at h
    refine lv_land hx hb d_D_pairsFrom_69 ?_
    refine lv_lstore_n (lv' := [(2, .long (y1 &&& y0)), (0, .ref h_o), (4, .int z4), (5, .int z5)]) hx hb d_D_pairsFrom_70 rfl hl (by decide) rfl (fun ls hl => ?_)
    refine lv_iload hx hb d_D_pairsFrom_71 (lv_at hl 2 rfl) ?_
    have hPc := hP.sub (ws' := []) [] rfl
    have hDc := hD.sub (ws' := []) [] (by decide) rfl
    have hKc := hK.sub (tys' := []) [] rfl
    have hFc := va_free (wc := []) hD hS hA [] rfl
    obtain ⟨v_73, hc_73, h⟩ := of_bind h
    refine va_calli (va_runSN (As := [.int z4]) (rest := []) ⟨hx, hb, hml, hown, hts⟩ (c_H_withoutLeastCode l dC dI H.size z4 v_73.1 v_73.2 hc_73) ⟨va_cnB 1 hts (gI cod_H_withoutLeastCode) rfl rfl rfl hC.nst_D_48 (hts _ ini_H) (by decide +kernel) ⟨Nat.le_of_ble_eq_true rfl, Nat.le_of_ble_eq_true rfl⟩, hts _ sta_H_withoutLeastCode, trivial⟩ ⟨fun a U g mk q => by obtain ⟨q0, q1, qP, qK, qD⟩ := q; exact ⟨q0, q1, qP, va_K.moved (u := U) (U := U.calling g mk a) (Vm.Alike.refl U.vm) qK, qD⟩, fun U hU hW => ⟨rfl, by rw [hU], by rw [hU]; exact hPc, va_K.moved hW.alike hKc, hDc.weaken (fun _ _ _ _ => trivial)⟩⟩ rfl rfl hl.1 rfl (lv_room (Nat.le_of_ble_eq_true rfl)) d_D_pairsFrom_73 ⟨Nat.le_of_ble_eq_true rfl, Nat.le_of_ble_eq_true rfl⟩) hS (fun q _ h9 => hFc q h9) hFc (fun r_73 u t H1 locs ht hvm hw hB hz1 hk1 hS => ?_)
    obtain ⟨rfl, rfl⟩ := hw
    obtain ⟨hP1, hK1, hD1⟩ := hB
    rw [ht] at hP1
    obtain ⟨hP, hD⟩ := va_join (wr := [(h_o, .inr (0, [.ref h_factChoices, .ref h_givenInRound, .int v_givenPairs, .int v_roundCount])), (h_factChoices, .inl (k_factChoices, 18, .inr (.inl v_factChoices)))]) (w1 := []) hP hD [] [0, 1] rfl rfl (by decide) (by decide) hk1 hFc hP1 hD1
    have hP := hP.sub (ws' := [(h_o, .inr (0, [.ref h_factChoices, .ref h_givenInRound, .int v_givenPairs, .int v_roundCount])), (h_factChoices, .inl (k_factChoices, 18, .inr (.inl v_factChoices)))]) [0, 1] rfl
    have hD := hD.sub (ws' := [(h_o, .inr (0, [.ref h_factChoices, .ref h_givenInRound, .int v_givenPairs, .int v_roundCount])), (h_factChoices, .inl (k_factChoices, 18, .inr (.inl v_factChoices)))]) [0, 1] (by decide) rfl
    generalize H1 = H at hP hS ⊢
    refine lv_istore (lv' := [(4, .int v_73.1), (2, .long (y1 &&& y0)), (0, .ref h_o), (5, .int z5)]) hx hb d_D_pairsFrom_76 hl (by decide) rfl (fun ls hl => ?_)
    refine lv_iinc (v := z5 + (nI 1)) (lv' := [(5, .int (z5 + (nI 1))), (4, .int v_73.1), (2, .long (y1 &&& y0)), (0, .ref h_o)]) hx hb d_D_pairsFrom_78 hl (k := 3) rfl rfl (by decide) rfl (fun ls hl => ?_)
    refine lv_goto (tgt := 16) hx hb d_D_pairsFrom_81 (by decide) ?_
    exact hk_16 (y1 &&& y0) v_73.1 (z5 + (nI 1)) h _ _ hP hD hS ls (lv_sub hl [3, 2, 1, 0] rfl)
  have J_16 : ∀ (n : Nat) (z2 : Int64) (z4 : Int32) (z5 : Int32), m_D_pairsFrom_16 v_givenPairs v_factChoices n z2 z4 z5 = some (r0, u0) → ∀ (H : Heap) (locs : List Loc), va_P (dC, dI) classes [(h_o, .inr (0, [.ref h_factChoices, .ref h_givenInRound, .int v_givenPairs, .int v_roundCount])), (h_factChoices, .inl (k_factChoices, 18, .inr (.inl v_factChoices)))] H → va_D A [(h_o, .inr (0, [.ref h_factChoices, .ref h_givenInRound, .int v_givenPairs, .int v_roundCount])), (h_factChoices, .inl (k_factChoices, 18, .inr (.inl v_factChoices)))] → va_S A s.heap H locs → ∀ (ls : Array Slot), lv_has ls 7 [(0, .ref h_o), (2, .long z2), (4, .int z4), (5, .int z5)] → W p l e (headSpec w_D_pairsFrom ({ frames := 2, cells := 0, slots := 0, locals := 40 } : Room)).room s m ([.ref h_o, .int x1] : List Value).toArray below meth c H locs 0 0 Q (F0 m 16 ls []) := by
    intro n
    induction n with
    | zero => intro z2 z4 z5 h; exact absurd h (by unfold m_D_pairsFrom_16; exact fun h9 => nomatch h9)
    | succ n ih =>
      intro z2 z4 z5 h H locs hP hD hS ls hl
      unfold m_D_pairsFrom_16 at h
      refine lv_iload hx hb d_D_pairsFrom_16 (lv_at hl 3 rfl) ?_
      refine lv_iconst (v := (nI 3)) hx hb d_D_pairsFrom_18 (by decide) ?_
      refine lv_icmp_ge (tgt := 84) hx hb d_D_pairsFrom_19 (by decide) (fun c_19 => ?_) (fun c_19 => ?_)
      · have h := of_pos h c_19
        exact J_84 z2 h _ _ hP hD hS ls (lv_sub hl [1] rfl)
      · have h := of_neg h c_19
        refine lv_iload hx hb d_D_pairsFrom_22 (lv_at hl 2 rfl) ?_
        refine lv_if_eq (tgt := 84) hx hb d_D_pairsFrom_24 (by decide) (fun c_24 => ?_) (fun c_24 => ?_)
        · have h := of_pos h c_24
          exact J_84 z2 h _ _ hP hD hS ls (lv_sub hl [1] rfl)
        · have h := of_neg h c_24
          refine lv_iload hx hb d_D_pairsFrom_27 (lv_at hl 2 rfl) ?_
          have hPc := hP.sub (ws' := []) [] rfl
          have hDc := hD.sub (ws' := []) [] (by decide) rfl
          have hKc := hK.sub (tys' := []) [] rfl
          have hFc := va_free (wc := []) hD hS hA [] rfl
          obtain ⟨v_29, hc_29, h⟩ := of_bind h
          refine va_calli (va_runSN (As := [.int z4]) (rest := []) ⟨hx, hb, hml, hown, hts⟩ (c_H_leastCode l dC dI H.size z4 v_29.1 v_29.2 hc_29) ⟨va_cnB 1 hts (gI cod_H_leastCode) rfl rfl rfl hC.nst_D_45 (hts _ ini_H) (by decide +kernel) ⟨Nat.le_of_ble_eq_true rfl, Nat.le_of_ble_eq_true rfl⟩, hts _ sta_H_leastCode, trivial⟩ ⟨fun a U g mk q => by obtain ⟨q0, q1, qP, qK, qD⟩ := q; exact ⟨q0, q1, qP, va_K.moved (u := U) (U := U.calling g mk a) (Vm.Alike.refl U.vm) qK, qD⟩, fun U hU hW => ⟨rfl, by rw [hU], by rw [hU]; exact hPc, va_K.moved hW.alike hKc, hDc.weaken (fun _ _ _ _ => trivial)⟩⟩ rfl rfl hl.1 rfl (lv_room (Nat.le_of_ble_eq_true rfl)) d_D_pairsFrom_29 ⟨Nat.le_of_ble_eq_true rfl, Nat.le_of_ble_eq_true rfl⟩) hS (fun q _ h9 => hFc q h9) hFc (fun r_29 u t H1 locs ht hvm hw hB hz1 hk1 hS => ?_)
          obtain ⟨rfl, rfl⟩ := hw
          obtain ⟨hP1, hK1, hD1⟩ := hB
          rw [ht] at hP1
          obtain ⟨hP, hD⟩ := va_join (wr := [(h_o, .inr (0, [.ref h_factChoices, .ref h_givenInRound, .int v_givenPairs, .int v_roundCount])), (h_factChoices, .inl (k_factChoices, 18, .inr (.inl v_factChoices)))]) (w1 := []) hP hD [] [0, 1] rfl rfl (by decide) (by decide) hk1 hFc hP1 hD1
          have hP := hP.sub (ws' := [(h_o, .inr (0, [.ref h_factChoices, .ref h_givenInRound, .int v_givenPairs, .int v_roundCount])), (h_factChoices, .inl (k_factChoices, 18, .inr (.inl v_factChoices)))]) [0, 1] rfl
          have hD := hD.sub (ws' := [(h_o, .inr (0, [.ref h_factChoices, .ref h_givenInRound, .int v_givenPairs, .int v_roundCount])), (h_factChoices, .inl (k_factChoices, 18, .inr (.inl v_factChoices)))]) [0, 1] (by decide) rfl
          generalize H1 = H at hP hS ⊢
          refine lv_istore (lv' := [(6, .int v_29.1), (0, .ref h_o), (2, .long z2), (4, .int z4), (5, .int z5)]) hx hb d_D_pairsFrom_32 hl (by decide) rfl (fun ls hl => ?_)
          refine lv_lload_n hx hb d_D_pairsFrom_34 rfl (lv_at hl 2 rfl) ?_
          refine lv_iload hx hb d_D_pairsFrom_35 (lv_at hl 0 rfl) ?_
          refine lv_bipush (v := (nI 18)) hx hb d_D_pairsFrom_37 (by decide) ?_
          refine lv_icmp_ge (tgt := 52) hx hb d_D_pairsFrom_39 (by decide) (fun c_39 => ?_) (fun c_39 => ?_)
          · have h := of_pos h c_39
            refine lv_aload_n hx hb d_D_pairsFrom_52 rfl (lv_at hl 1 rfl) ?_
            refine va_get (D := (dC, dI)) (ci := 0) (v := .int v_givenPairs) (C := R_D) (T := F_D) (N := 4) hx hb hts lay_D hown hK hP 0 rfl rfl 2 (by decide) (hts _ flk_D_19) (fun _ h9 => h9) rfl d_D_pairsFrom_53 ?_
            refine lv_iload hx hb d_D_pairsFrom_56 (lv_at hl 0 rfl) ?_
            have hPc := hP.sub (ws' := []) [] rfl
            have hDc := hD.sub (ws' := []) [] (by decide) rfl
            have hKc := hK.sub (tys' := []) [] rfl
            have hFc := va_free (wc := []) hD hS hA [] rfl
            obtain ⟨v_58, hc_58, h⟩ := of_bind h
            refine va_calli (va_runSN (As := [.int v_29.1]) (rest := [.int v_givenPairs, .long z2]) ⟨hx, hb, hml, hown, hts⟩ (c_H_firstVariableOf l dC dI H.size v_29.1 v_58.1 v_58.2 hc_58) ⟨va_cnB 1 hts (gI cod_H_firstVariableOf) rfl rfl rfl hC.nst_D_30 (hts _ ini_H) (by decide +kernel) ⟨Nat.le_of_ble_eq_true rfl, Nat.le_of_ble_eq_true rfl⟩, hts _ sta_H_firstVariableOf, trivial⟩ ⟨fun a U g mk q => by obtain ⟨q0, q1, qP, qK, qD⟩ := q; exact ⟨q0, q1, qP, va_K.moved (u := U) (U := U.calling g mk a) (Vm.Alike.refl U.vm) qK, qD⟩, fun U hU hW => ⟨rfl, by rw [hU], by rw [hU]; exact hPc, va_K.moved hW.alike hKc, hDc.weaken (fun _ _ _ _ => trivial)⟩⟩ rfl rfl hl.1 rfl (lv_room (Nat.le_of_ble_eq_true rfl)) d_D_pairsFrom_58 ⟨Nat.le_of_ble_eq_true rfl, Nat.le_of_ble_eq_true rfl⟩) hS (fun q _ h9 => hFc q h9) hFc (fun r_58 u t H1 locs ht hvm hw hB hz1 hk1 hS => ?_)
            obtain ⟨rfl, rfl⟩ := hw
            obtain ⟨hP1, hK1, hD1⟩ := hB
            rw [ht] at hP1
            obtain ⟨hP, hD⟩ := va_join (wr := [(h_o, .inr (0, [.ref h_factChoices, .ref h_givenInRound, .int v_givenPairs, .int v_roundCount])), (h_factChoices, .inl (k_factChoices, 18, .inr (.inl v_factChoices)))]) (w1 := []) hP hD [] [0, 1] rfl rfl (by decide) (by decide) hk1 hFc hP1 hD1
            have hP := hP.sub (ws' := [(h_o, .inr (0, [.ref h_factChoices, .ref h_givenInRound, .int v_givenPairs, .int v_roundCount])), (h_factChoices, .inl (k_factChoices, 18, .inr (.inl v_factChoices)))]) [0, 1] rfl
            have hD := hD.sub (ws' := [(h_o, .inr (0, [.ref h_factChoices, .ref h_givenInRound, .int v_givenPairs, .int v_roundCount])), (h_factChoices, .inl (k_factChoices, 18, .inr (.inl v_factChoices)))]) [0, 1] (by decide) rfl
            generalize H1 = H at hP hS ⊢
            refine lv_iload hx hb d_D_pairsFrom_61 (lv_at hl 0 rfl) ?_
            have hPc := hP.sub (ws' := []) [] rfl
            have hDc := hD.sub (ws' := []) [] (by decide) rfl
            have hKc := hK.sub (tys' := []) [] rfl
            have hFc := va_free (wc := []) hD hS hA [] rfl
            obtain ⟨v_63, hc_63, h⟩ := of_bind h
            refine va_calli (va_runSN (As := [.int v_29.1]) (rest := [.int v_58.1, .int v_givenPairs, .long z2]) ⟨hx, hb, hml, hown, hts⟩ (c_H_secondVariableOf l dC dI H.size v_29.1 v_63.1 v_63.2 hc_63) ⟨va_cnB 1 hts (gI cod_H_secondVariableOf) rfl rfl rfl hC.nst_D_33 (hts _ ini_H) (by decide +kernel) ⟨Nat.le_of_ble_eq_true rfl, Nat.le_of_ble_eq_true rfl⟩, hts _ sta_H_secondVariableOf, trivial⟩ ⟨fun a U g mk q => by obtain ⟨q0, q1, qP, qK, qD⟩ := q; exact ⟨q0, q1, qP, va_K.moved (u := U) (U := U.calling g mk a) (Vm.Alike.refl U.vm) qK, qD⟩, fun U hU hW => ⟨rfl, by rw [hU], by rw [hU]; exact hPc, va_K.moved hW.alike hKc, hDc.weaken (fun _ _ _ _ => trivial)⟩⟩ rfl rfl hl.1 rfl (lv_room (Nat.le_of_ble_eq_true rfl)) d_D_pairsFrom_63 ⟨Nat.le_of_ble_eq_true rfl, Nat.le_of_ble_eq_true rfl⟩) hS (fun q _ h9 => hFc q h9) hFc (fun r_63 u t H1 locs ht hvm hw hB hz1 hk1 hS => ?_)
            obtain ⟨rfl, rfl⟩ := hw
            obtain ⟨hP1, hK1, hD1⟩ := hB
            rw [ht] at hP1
            obtain ⟨hP, hD⟩ := va_join (wr := [(h_o, .inr (0, [.ref h_factChoices, .ref h_givenInRound, .int v_givenPairs, .int v_roundCount])), (h_factChoices, .inl (k_factChoices, 18, .inr (.inl v_factChoices)))]) (w1 := []) hP hD [] [0, 1] rfl rfl (by decide) (by decide) hk1 hFc hP1 hD1
            have hP := hP.sub (ws' := [(h_o, .inr (0, [.ref h_factChoices, .ref h_givenInRound, .int v_givenPairs, .int v_roundCount])), (h_factChoices, .inl (k_factChoices, 18, .inr (.inl v_factChoices)))]) [0, 1] rfl
            have hD := hD.sub (ws' := [(h_o, .inr (0, [.ref h_factChoices, .ref h_givenInRound, .int v_givenPairs, .int v_roundCount])), (h_factChoices, .inl (k_factChoices, 18, .inr (.inl v_factChoices)))]) [0, 1] (by decide) rfl
            generalize H1 = H at hP hS ⊢
            have hPc := hP.sub (ws' := []) [] rfl
            have hDc := hD.sub (ws' := []) [] (by decide) rfl
            have hKc := hK.sub (tys' := []) [] rfl
            have hFc := va_free (wc := []) hD hS hA [] rfl
            obtain ⟨v_66, hc_66, h⟩ := of_bind h
            refine va_calll (va_runS (As := [.int v_givenPairs, .int v_58.1, .int v_63.1]) (rest := [.long z2]) ⟨hx, hb, hml, hown, hts⟩ (c_D_choicesWhere l dC dI tb ak av H.size v_givenPairs v_58.1 v_63.1 v_66.1 v_66.2 hc_66) (va_cwS 3 hts (gS mlk_D_36 sta_D_choicesWhere ini_D cod_D_choicesWhere) rfl rfl rfl (by decide +kernel) ⟨Nat.le_of_ble_eq_true rfl, Nat.le_of_ble_eq_true rfl⟩) ⟨fun a U g mk q => by obtain ⟨q0, q1, qP, qK, qD, qC⟩ := q; exact ⟨q0, q1, qP, va_K.moved (u := U) (U := U.calling g mk a) (Vm.Alike.refl U.vm) qK, qD, kw_blind qC⟩, fun U hU hW => ⟨rfl, by rw [hU], by rw [hU]; exact hPc, va_K.moved hW.alike hKc, hDc.weaken (fun _ _ _ _ => trivial), kw_call hC hS hFc hU hW⟩⟩ rfl rfl hl.1 rfl (lv_room (Nat.le_of_ble_eq_true rfl)) d_D_pairsFrom_66 ⟨Nat.le_of_ble_eq_true rfl, Nat.le_of_ble_eq_true rfl⟩) hS (fun q _ h9 => hFc q h9) hFc (fun r_66 u t H1 locs ht hvm hw hB hz1 hk1 hS => ?_)
            obtain ⟨rfl, rfl⟩ := hw
            obtain ⟨hP1, hK1, hD1⟩ := hB
            rw [ht] at hP1
            obtain ⟨hP, hD⟩ := va_join (wr := [(h_o, .inr (0, [.ref h_factChoices, .ref h_givenInRound, .int v_givenPairs, .int v_roundCount])), (h_factChoices, .inl (k_factChoices, 18, .inr (.inl v_factChoices)))]) (w1 := []) hP hD [] [0, 1] rfl rfl (by decide) (by decide) hk1 hFc hP1 hD1
            have hP := hP.sub (ws' := [(h_o, .inr (0, [.ref h_factChoices, .ref h_givenInRound, .int v_givenPairs, .int v_roundCount])), (h_factChoices, .inl (k_factChoices, 18, .inr (.inl v_factChoices)))]) [0, 1] rfl
            have hD := hD.sub (ws' := [(h_o, .inr (0, [.ref h_factChoices, .ref h_givenInRound, .int v_givenPairs, .int v_roundCount])), (h_factChoices, .inl (k_factChoices, 18, .inr (.inl v_factChoices)))]) [0, 1] (by decide) rfl
            generalize H1 = H at hP hS ⊢
            exact J_69 (m_D_pairsFrom_16 v_givenPairs v_factChoices n) ih z4 z5 v_66.1 z2 h _ _ hP hD hS ls (lv_sub hl [1, 3, 4] rfl)
          · have h := of_neg h c_39
            refine lv_aload_n hx hb d_D_pairsFrom_42 rfl (lv_at hl 1 rfl) ?_
            refine va_get (D := (dC, dI)) (ci := 0) (v := .ref h_factChoices) (C := R_D) (T := F_D) (N := 4) hx hb hts lay_D hown hK hP 0 rfl rfl 0 (by decide) (hts _ flk_D_9) (fun _ h9 => h9) rfl d_D_pairsFrom_43 ?_
            refine lv_iload hx hb d_D_pairsFrom_46 (lv_at hl 0 rfl) ?_
            obtain ⟨g_48, h⟩ := of_guard h
            refine va_lald hx hb hK hP 1 0 rfl rfl (inR_in g_48) d_D_pairsFrom_48 ?_
            refine lv_goto (tgt := 69) hx hb d_D_pairsFrom_49 (by decide) ?_
            exact J_69 (m_D_pairsFrom_16 v_givenPairs v_factChoices n) ih z4 z5 (v_factChoices v_29.1.toNatClampNeg) z2 h _ _ hP hD hS ls (lv_sub hl [1, 3, 4] rfl)
  unfold m_D_pairsFrom at h
  refine lv_iload_n hx hb d_D_pairsFrom_0 rfl (lv_at hl 1 rfl) ?_
  refine lv_if_ne (tgt := 6) hx hb d_D_pairsFrom_1 (by decide) (fun c_1 => ?_) (fun c_1 => ?_)
  · have h := of_neg h c_1
    refine lv_ldc2 (v := (-1)) hx hb hown (hts _ col_D_43) d_D_pairsFrom_6 ?_
    refine lv_lstore_n (lv' := [(2, .long (-1 : Int64)), (0, .ref h_o), (1, .int x1)]) hx hb d_D_pairsFrom_9 rfl hl (by decide) rfl (fun ls hl => ?_)
    refine lv_iload_n hx hb d_D_pairsFrom_10 rfl (lv_at hl 2 rfl) ?_
    refine lv_istore (lv' := [(4, .int x1), (2, .long (-1 : Int64)), (0, .ref h_o), (1, .int x1)]) hx hb d_D_pairsFrom_11 hl (by decide) rfl (fun ls hl => ?_)
    refine lv_iconst (v := (nI 0)) hx hb d_D_pairsFrom_13 (by decide) ?_
    refine lv_istore (lv' := [(5, .int (nI 0)), (4, .int x1), (2, .long (-1 : Int64)), (0, .ref h_o), (1, .int x1)]) hx hb d_D_pairsFrom_14 hl (by decide) rfl (fun ls hl => ?_)
    exact J_16 40 (-1 : Int64) x1 (nI 0) h _ _ hP hD hS ls (lv_sub hl [3, 2, 1, 0] rfl)
  · have h := of_pos h c_1
    refine lv_iconst (v := (nI 0)) hx hb d_D_pairsFrom_4 (by decide) ?_
    rw [hQ]
    exact W.iret (v := (nI 0)) hx hb hr (fun t ht hW => ⟨⟨(nI 0), (), rfl, Prod.mk.inj (Option.some.inj h), by rw [ht]; exact hP, va_K.moved hW.alike hK, hD⟩, hS.F ht⟩) hS.2.2 d_D_pairsFrom_5
set_option maxHeartbeats 4000000 in
set_option maxRecDepth 100000 in
theorem c_D_roundOf (l : Launch) (dC : Nat → ClassId) (dI : Nat → Nat → Nat) (h_o h_factChoices h_givenInRound : Nat) (k_givenInRound : ClassId) (sz : Nat) (v_givenPairs : Int32) (v_roundCount : Int32) (v_givenInRound : Nat → Int32) (x1 : Int32) (r0 : Int32) (u0 : Unit) (h : m_D_roundOf v_roundCount v_givenInRound x1 = some (r0, u0)) : Met l y_D_roundOf w_D_roundOf ({ frames := 0, cells := 0, slots := 0, locals := 0 } : Room) (va_Pc [.ref h_o, .int x1] (fun U => U.heap.size = sz ∧ va_P (dC, dI) classes [(h_o, .inr (0, [.ref h_factChoices, .ref h_givenInRound, .int v_givenPairs, .int v_roundCount])), (h_givenInRound, .inl (k_givenInRound, 17, .inl v_givenInRound))] U.heap ∧ va_K (dC, dI) classes [(k_givenInRound, .int)] U ∧ va_D (fun _ => True) [(h_o, .inr (0, [.ref h_factChoices, .ref h_givenInRound, .int v_givenPairs, .int v_roundCount])), (h_givenInRound, .inl (k_givenInRound, 17, .inl v_givenInRound))])) (va_Qi (fun (r : Int32) (u : Unit) => r = r0 ∧ u = u0) (fun (u : Unit) (t : State) => va_P (dC, dI) classes [(h_o, .inr (0, [.ref h_factChoices, .ref h_givenInRound, .int v_givenPairs, .int v_roundCount])), (h_givenInRound, .inl (k_givenInRound, 17, .inl v_givenInRound))] t.heap ∧ va_K (dC, dI) classes [(k_givenInRound, .int)] t ∧ va_D (va_A [(h_o, .inr (0, [.ref h_factChoices, .ref h_givenInRound, .int v_givenPairs, .int v_roundCount])), (h_givenInRound, .inl (k_givenInRound, 17, .inl v_givenInRound))] sz) [(h_o, .inr (0, [.ref h_factChoices, .ref h_givenInRound, .int v_givenPairs, .int v_roundCount])), (h_givenInRound, .inl (k_givenInRound, 17, .inl v_givenInRound))]) (va_A [(h_o, .inr (0, [.ref h_factChoices, .ref h_givenInRound, .int v_givenPairs, .int v_roundCount])), (h_givenInRound, .inl (k_givenInRound, 17, .inl v_givenInRound))] sz)) 0 0 (va_A [(h_o, .inr (0, [.ref h_factChoices, .ref h_givenInRound, .int v_givenPairs, .int v_roundCount])), (h_givenInRound, .inl (k_givenInRound, 17, .inl v_givenInRound))] sz) := by
  refine Met.ofW (cc := b_D_roundOf) (maxL := 3) (ret := (some .int)) (by decide) rfl ?_
  intro p e s m args below meth c s₁ B hml hv
  obtain ⟨rfl, hsz, hP, hK, hD0⟩ := hv
  have hx := B.exec
  have hb := B.bytes
  have hr := B.returns
  have hts0 := atoms_spec (ws := w_D_roundOf) B.pre
  have hts : ∀ w ∈ lw_gd, w.before ([.ref h_o, .int x1] : List Value).toArray s = true := fun w h9 => hts0 w (List.mem_cons_of_mem _ h9)
  have hown : s.vm.findClass R_D = some m.cls := findClass_of_methodNamed B.named
  have hlocks := B.notSynchronized
  subst hsz
  have hD := hD0.self (sz := s.heap.size)
  generalize hAe : va_A [(h_o, .inr (0, [.ref h_factChoices, .ref h_givenInRound, .int v_givenPairs, .int v_roundCount])), (h_givenInRound, .inl (k_givenInRound, 17, .inl v_givenInRound))] s.heap.size = A at hD ⊢
  have hA : ∀ q : Nat, s.heap.size ≤ q → A q := fun q h9 => by rw [← hAe]; exact Or.inr h9
  obtain ⟨H, eH⟩ : ∃ H : Heap, H = s.heap := ⟨_, rfl⟩
  have hS : va_S A s.heap H [] := by rw [eH]; exact va_S.rf
  have hP : va_P (dC, dI) classes [(h_o, .inr (0, [.ref h_factChoices, .ref h_givenInRound, .int v_givenPairs, .int v_roundCount])), (h_givenInRound, .inl (k_givenInRound, 17, .inl v_givenInRound))] H := by rw [eH]; exact hP
  refine W_gen (fun Q hQ => ?_)
  refine W_heap eH ?_
  clear eH
  have hl := lv_entry ([.ref h_o, .int x1]) (n := 3) (Nat.le_of_ble_eq_true rfl)
  rw [lg_entry_eq]
  generalize (lg_sl ([.ref h_o, .int x1]) ++ List.replicate (3 - (lg_sl ([.ref h_o, .int x1])).length) Slot.unset).toArray = ls at hl ⊢
  have hl : lv_has ls 3 [(0, .ref h_o), (1, .int x1)] := hl
  have J_2 : ∀ (n : Nat) (z1 : Int32) (z2 : Int32), m_D_roundOf_2 v_roundCount v_givenInRound n z1 z2 = some (r0, u0) → ∀ (H : Heap) (locs : List Loc), va_P (dC, dI) classes [(h_o, .inr (0, [.ref h_factChoices, .ref h_givenInRound, .int v_givenPairs, .int v_roundCount])), (h_givenInRound, .inl (k_givenInRound, 17, .inl v_givenInRound))] H → va_D A [(h_o, .inr (0, [.ref h_factChoices, .ref h_givenInRound, .int v_givenPairs, .int v_roundCount])), (h_givenInRound, .inl (k_givenInRound, 17, .inl v_givenInRound))] → va_S A s.heap H locs → ∀ (ls : Array Slot), lv_has ls 3 [(0, .ref h_o), (1, .int z1), (2, .int z2)] → W p l e (headSpec w_D_roundOf ({ frames := 0, cells := 0, slots := 0, locals := 0 } : Room)).room s m ([.ref h_o, .int x1] : List Value).toArray below meth c H locs 0 0 Q (F0 m 2 ls []) := by
    intro n
    induction n with
    | zero => intro z1 z2 h; exact absurd h (by unfold m_D_roundOf_2; exact fun h9 => nomatch h9)
    | succ n ih =>
      intro z1 z2 h H locs hP hD hS ls hl
      unfold m_D_roundOf_2 at h
      refine lv_iload_n hx hb d_D_roundOf_2 rfl (lv_at hl 2 rfl) ?_
      refine lv_aload_n hx hb d_D_roundOf_3 rfl (lv_at hl 0 rfl) ?_
      refine va_get (D := (dC, dI)) (ci := 0) (v := .int v_roundCount) (C := R_D) (T := F_D) (N := 4) hx hb hts lay_D hown hK hP 0 rfl rfl 3 (by decide) (hts _ flk_D_23) (fun _ h9 => h9) rfl d_D_roundOf_4 ?_
      refine lv_icmp_gt (tgt := 29) hx hb d_D_roundOf_7 (by decide) (fun c_7 => ?_) (fun c_7 => ?_)
      · have h := of_pos h c_7
        refine lv_iconst (v := (nI 0)) hx hb d_D_roundOf_29 (by decide) ?_
        rw [hQ]
        exact W.iret (v := (nI 0)) hx hb hr (fun t ht hW => ⟨⟨(nI 0), (), rfl, Prod.mk.inj (Option.some.inj h), by rw [ht]; exact hP, va_K.moved hW.alike hK, hD⟩, hS.F ht⟩) hS.2.2 d_D_roundOf_30
      · have h := of_neg h c_7
        refine lv_aload_n hx hb d_D_roundOf_10 rfl (lv_at hl 0 rfl) ?_
        refine va_get (D := (dC, dI)) (ci := 0) (v := .ref h_givenInRound) (C := R_D) (T := F_D) (N := 4) hx hb hts lay_D hown hK hP 0 rfl rfl 1 (by decide) (hts _ flk_D_15) (fun _ h9 => h9) rfl d_D_roundOf_11 ?_
        refine lv_iload_n hx hb d_D_roundOf_14 rfl (lv_at hl 2 rfl) ?_
        obtain ⟨g_15, h⟩ := of_guard h
        refine va_iald hx hb hK hP 1 0 rfl rfl (inR_in g_15) d_D_roundOf_15 ?_
        refine lv_iload_n hx hb d_D_roundOf_16 rfl (lv_at hl 1 rfl) ?_
        refine lv_iand hx hb d_D_roundOf_17 ?_
        refine lv_if_eq (tgt := 23) hx hb d_D_roundOf_18 (by decide) (fun c_18 => ?_) (fun c_18 => ?_)
        · have h := of_pos h c_18
          refine lv_iinc (v := z2 + (nI 1)) (lv' := [(2, .int (z2 + (nI 1))), (0, .ref h_o), (1, .int z1)]) hx hb d_D_roundOf_23 hl (k := 2) rfl rfl (by decide) rfl (fun ls hl => ?_)
          refine lv_goto (tgt := 2) hx hb d_D_roundOf_26 (by decide) ?_
          exact ih z1 (z2 + (nI 1)) h _ _ hP hD hS ls (lv_sub hl [1, 2, 0] rfl)
        · have h := of_neg h c_18
          refine lv_iload_n hx hb d_D_roundOf_21 rfl (lv_at hl 2 rfl) ?_
          rw [hQ]
          exact W.iret (v := z2) hx hb hr (fun t ht hW => ⟨⟨z2, (), rfl, Prod.mk.inj (Option.some.inj h), by rw [ht]; exact hP, va_K.moved hW.alike hK, hD⟩, hS.F ht⟩) hS.2.2 d_D_roundOf_22
  unfold m_D_roundOf at h
  refine lv_iconst (v := (nI 1)) hx hb d_D_roundOf_0 (by decide) ?_
  refine lv_istore_n (lv' := [(2, .int (nI 1)), (0, .ref h_o), (1, .int x1)]) hx hb d_D_roundOf_1 rfl hl (by decide) rfl (fun ls hl => ?_)
  exact J_2 40 x1 (nI 1) h _ _ hP hD hS ls (lv_sub hl [1, 2, 0] rfl)
set_option maxHeartbeats 4000000 in
set_option maxRecDepth 100000 in
theorem c_D_run (l : Launch) (dC : Nat → ClassId) (dI : Nat → Nat → Nat) (h_o h_factChoices h_givenInRound : Nat) (k_factChoices k_givenInRound : ClassId) (tb : Nat) (ak av : Nat → Nat) (sz : Nat) (v_givenPairs : Int32) (v_roundCount : Int32) (v_factChoices : Nat → Int64) (v_givenInRound : Nat → Int32) (x1 : Int32) (x2 : Int32) (u0 : Int32 × Int32 × (Nat → Int32)) (h : m_D_run v_givenPairs v_roundCount v_factChoices v_givenInRound x1 x2 = some u0) : Met l y_D_run w_D_run ({ frames := 3, cells := 0, slots := 0, locals := 66 } : Room) (va_Pc [.ref h_o, .int x1, .int x2] (fun U => U.heap.size = sz ∧ va_P (dC, dI) classes [(h_o, .inr (0, [.ref h_factChoices, .ref h_givenInRound, .int v_givenPairs, .int v_roundCount])), (h_factChoices, .inl (k_factChoices, 18, .inr (.inl v_factChoices))), (h_givenInRound, .inl (k_givenInRound, 17, .inl v_givenInRound))] U.heap ∧ va_K (dC, dI) classes [(k_factChoices, .long), (k_givenInRound, .int)] U ∧ va_D (fun _ => True) [(h_o, .inr (0, [.ref h_factChoices, .ref h_givenInRound, .int v_givenPairs, .int v_roundCount])), (h_factChoices, .inl (k_factChoices, 18, .inr (.inl v_factChoices))), (h_givenInRound, .inl (k_givenInRound, 17, .inl v_givenInRound))] ∧ kw tb ak av (va_A [(h_o, .inr (0, [.ref h_factChoices, .ref h_givenInRound, .int v_givenPairs, .int v_roundCount])), (h_factChoices, .inl (k_factChoices, 18, .inr (.inl v_factChoices))), (h_givenInRound, .inl (k_givenInRound, 17, .inl v_givenInRound))] sz) U)) (va_Qv (fun (u : Int32 × Int32 × (Nat → Int32)) => u = u0) (fun (u : Int32 × Int32 × (Nat → Int32)) (t : State) => va_P (dC, dI) classes [(h_o, .inr (0, [.ref h_factChoices, .ref h_givenInRound, .int u.1, .int u.2.1])), (h_factChoices, .inl (k_factChoices, 18, .inr (.inl v_factChoices))), (h_givenInRound, .inl (k_givenInRound, 17, .inl u.2.2))] t.heap ∧ va_K (dC, dI) classes [(k_factChoices, .long), (k_givenInRound, .int)] t ∧ va_D (va_A [(h_o, .inr (0, [.ref h_factChoices, .ref h_givenInRound, .int v_givenPairs, .int v_roundCount])), (h_factChoices, .inl (k_factChoices, 18, .inr (.inl v_factChoices))), (h_givenInRound, .inl (k_givenInRound, 17, .inl v_givenInRound))] sz) [(h_o, .inr (0, [.ref h_factChoices, .ref h_givenInRound, .int u.1, .int u.2.1])), (h_factChoices, .inl (k_factChoices, 18, .inr (.inl v_factChoices))), (h_givenInRound, .inl (k_givenInRound, 17, .inl u.2.2))]) (va_A [(h_o, .inr (0, [.ref h_factChoices, .ref h_givenInRound, .int v_givenPairs, .int v_roundCount])), (h_factChoices, .inl (k_factChoices, 18, .inr (.inl v_factChoices))), (h_givenInRound, .inl (k_givenInRound, 17, .inl v_givenInRound))] sz)) 0 0 (va_A [(h_o, .inr (0, [.ref h_factChoices, .ref h_givenInRound, .int v_givenPairs, .int v_roundCount])), (h_factChoices, .inl (k_factChoices, 18, .inr (.inl v_factChoices))), (h_givenInRound, .inl (k_givenInRound, 17, .inl v_givenInRound))] sz) := by
  refine Met.ofW (cc := b_D_run) (maxL := 5) (ret := none) (by decide) rfl ?_
  intro p e s m args below meth c s₁ B hml hv
  obtain ⟨rfl, hsz, hP, hK, hD0, hC⟩ := hv
  have hx := B.exec
  have hb := B.bytes
  have hr := B.returns
  have hts0 := atoms_spec (ws := w_D_run) B.pre
  have hts : ∀ w ∈ lw_gd, w.before ([.ref h_o, .int x1, .int x2] : List Value).toArray s = true := fun w h9 => hts0 w (List.mem_cons_of_mem _ h9)
  have hown : s.vm.findClass R_D = some m.cls := findClass_of_methodNamed B.named
  have hlocks := B.notSynchronized
  subst hsz
  have hD := hD0.self (sz := s.heap.size)
  generalize hAe : va_A [(h_o, .inr (0, [.ref h_factChoices, .ref h_givenInRound, .int v_givenPairs, .int v_roundCount])), (h_factChoices, .inl (k_factChoices, 18, .inr (.inl v_factChoices))), (h_givenInRound, .inl (k_givenInRound, 17, .inl v_givenInRound))] s.heap.size = A at hD hC ⊢
  have hA : ∀ q : Nat, s.heap.size ≤ q → A q := fun q h9 => by rw [← hAe]; exact Or.inr h9
  obtain ⟨H, eH⟩ : ∃ H : Heap, H = s.heap := ⟨_, rfl⟩
  have hS : va_S A s.heap H [] := by rw [eH]; exact va_S.rf
  have hP : va_P (dC, dI) classes [(h_o, .inr (0, [.ref h_factChoices, .ref h_givenInRound, .int v_givenPairs, .int v_roundCount])), (h_factChoices, .inl (k_factChoices, 18, .inr (.inl v_factChoices))), (h_givenInRound, .inl (k_givenInRound, 17, .inl v_givenInRound))] H := by rw [eH]; exact hP
  refine W_gen (fun Q hQ => ?_)
  refine W_heap eH ?_
  clear eH
  have hl := lv_entry ([.ref h_o, .int x1, .int x2]) (n := 5) (Nat.le_of_ble_eq_true rfl)
  rw [lg_entry_eq]
  generalize (lg_sl ([.ref h_o, .int x1, .int x2]) ++ List.replicate (5 - (lg_sl ([.ref h_o, .int x1, .int x2])).length) Slot.unset).toArray = ls at hl ⊢
  have hl : lv_has ls 5 [(0, .ref h_o), (1, .int x1), (2, .int x2)] := hl
  have J_12 : ∀ (n : Nat) (v_givenPairs : Int32) (v_roundCount : Int32) (v_givenInRound : Nat → Int32) (z1 : Int32) (z2 : Int32) (z3 : Int32), m_D_run_12 v_factChoices n v_givenPairs v_roundCount v_givenInRound z1 z2 z3 = some u0 → ∀ (H : Heap) (locs : List Loc), va_P (dC, dI) classes [(h_o, .inr (0, [.ref h_factChoices, .ref h_givenInRound, .int v_givenPairs, .int v_roundCount])), (h_factChoices, .inl (k_factChoices, 18, .inr (.inl v_factChoices))), (h_givenInRound, .inl (k_givenInRound, 17, .inl v_givenInRound))] H → va_D A [(h_o, .inr (0, [.ref h_factChoices, .ref h_givenInRound, .int v_givenPairs, .int v_roundCount])), (h_factChoices, .inl (k_factChoices, 18, .inr (.inl v_factChoices))), (h_givenInRound, .inl (k_givenInRound, 17, .inl v_givenInRound))] → va_S A s.heap H locs → ∀ (ls : Array Slot), lv_has ls 5 [(0, .ref h_o), (1, .int z1), (2, .int z2), (3, .int z3)] → W p l e (headSpec w_D_run ({ frames := 3, cells := 0, slots := 0, locals := 66 } : Room)).room s m ([.ref h_o, .int x1, .int x2] : List Value).toArray below meth c H locs 0 0 Q (F0 m 12 ls []) := by
    intro n
    induction n with
    | zero => intro v_givenPairs v_roundCount v_givenInRound z1 z2 z3 h; exact absurd h (by unfold m_D_run_12; exact fun h9 => nomatch h9)
    | succ n ih =>
      intro v_givenPairs v_roundCount v_givenInRound z1 z2 z3 h H locs hP hD hS ls hl
      unfold m_D_run_12 at h
      refine lv_iload_n hx hb d_D_run_12 rfl (lv_at hl 3 rfl) ?_
      refine lv_bipush (v := (nI 16)) hx hb d_D_run_13 (by decide) ?_
      refine lv_icmp_gt (tgt := 74) hx hb d_D_run_15 (by decide) (fun c_15 => ?_) (fun c_15 => ?_)
      · have h := of_pos h c_15
        rw [hQ]
        exact W.vret hx hb hr (fun t ht hW => ⟨⟨(v_givenPairs, v_roundCount, v_givenInRound), rfl, Option.some.inj h, by rw [ht]; exact hP, va_K.moved hW.alike hK, hD⟩, hS.F ht⟩) hS.2.2 d_D_run_74
      · have h := of_neg h c_15
        refine lv_aload_n hx hb d_D_run_18 rfl (lv_at hl 0 rfl) ?_
        refine lv_iload_n hx hb d_D_run_19 rfl (lv_at hl 1 rfl) ?_
        have hPc := hP.sub (ws' := [(h_o, .inr (0, [.ref h_factChoices, .ref h_givenInRound, .int v_givenPairs, .int v_roundCount])), (h_factChoices, .inl (k_factChoices, 18, .inr (.inl v_factChoices)))]) [0, 1] rfl
        have hDc := hD.sub (ws' := [(h_o, .inr (0, [.ref h_factChoices, .ref h_givenInRound, .int v_givenPairs, .int v_roundCount])), (h_factChoices, .inl (k_factChoices, 18, .inr (.inl v_factChoices)))]) [0, 1] (by decide) rfl
        have hKc := hK.sub (tys' := [(k_factChoices, .long)]) [0] rfl
        have hFc := va_free (wc := [(h_o, .inr (0, [.ref h_factChoices, .ref h_givenInRound, .int v_givenPairs, .int v_roundCount])), (h_factChoices, .inl (k_factChoices, 18, .inr (.inl v_factChoices)))]) hD hS hA [0, 1] rfl
        obtain ⟨v_20, hc_20, h⟩ := of_bind h
        refine va_calli (va_runV (As := [.int z1]) (rest := []) ⟨hx, hb, hml, hown, hts⟩ (c_D_pairsFrom l dC dI h_o h_factChoices h_givenInRound k_factChoices tb ak av H.size v_givenPairs v_roundCount v_factChoices z1 v_20.1 v_20.2 hc_20) (cwV 1 hts (gV mlk_D_40 ins_D_pairsFrom sel_D_pairsFrom ini_D cod_D_pairsFrom) rfl rfl rfl (by decide +kernel) ⟨Nat.le_of_ble_eq_true rfl, Nat.le_of_ble_eq_true rfl⟩) ⟨fun a U g mk q => by obtain ⟨q0, q1, qP, qK, qD, qC⟩ := q; exact ⟨q0, q1, qP, va_K.moved (u := U) (U := U.calling g mk a) (Vm.Alike.refl U.vm) qK, qD, kw_blind qC⟩, va_recv hKc hPc (ci := 0) (q0 := 0) rfl rfl, fun U hU hW => ⟨rfl, by rw [hU], by rw [hU]; exact hPc, va_K.moved hW.alike hKc, hDc.weaken (fun _ _ _ _ => trivial), kw_call hC hS hFc hU hW⟩⟩ rfl rfl hl.1 rfl (lv_room (Nat.le_of_ble_eq_true rfl)) d_D_run_20 ⟨Nat.le_of_ble_eq_true rfl, Nat.le_of_ble_eq_true rfl⟩) hS (fun q _ h9 => hFc q h9) hFc (fun r_20 u t H1 locs ht hvm hw hB hz1 hk1 hS => ?_)
        obtain ⟨rfl, rfl⟩ := hw
        obtain ⟨hP1, hK1, hD1⟩ := hB
        rw [ht] at hP1
        obtain ⟨hP, hD⟩ := va_join (wr := [(h_givenInRound, .inl (k_givenInRound, 17, .inl v_givenInRound))]) (w1 := [(h_o, .inr (0, [.ref h_factChoices, .ref h_givenInRound, .int v_givenPairs, .int v_roundCount])), (h_factChoices, .inl (k_factChoices, 18, .inr (.inl v_factChoices)))]) hP hD [0, 1] [2] rfl rfl (by decide) (by decide) hk1 hFc hP1 hD1
        have hP := hP.sub (ws' := [(h_o, .inr (0, [.ref h_factChoices, .ref h_givenInRound, .int v_givenPairs, .int v_roundCount])), (h_factChoices, .inl (k_factChoices, 18, .inr (.inl v_factChoices))), (h_givenInRound, .inl (k_givenInRound, 17, .inl v_givenInRound))]) [1, 2, 0] rfl
        have hD := hD.sub (ws' := [(h_o, .inr (0, [.ref h_factChoices, .ref h_givenInRound, .int v_givenPairs, .int v_roundCount])), (h_factChoices, .inl (k_factChoices, 18, .inr (.inl v_factChoices))), (h_givenInRound, .inl (k_givenInRound, 17, .inl v_givenInRound))]) [1, 2, 0] (by decide) rfl
        generalize H1 = H at hP hS ⊢
        refine lv_aload_n hx hb d_D_run_23 rfl (lv_at hl 0 rfl) ?_
        refine lv_iload_n hx hb d_D_run_24 rfl (lv_at hl 2 rfl) ?_
        have hPc := hP.sub (ws' := [(h_o, .inr (0, [.ref h_factChoices, .ref h_givenInRound, .int v_givenPairs, .int v_roundCount])), (h_factChoices, .inl (k_factChoices, 18, .inr (.inl v_factChoices)))]) [0, 1] rfl
        have hDc := hD.sub (ws' := [(h_o, .inr (0, [.ref h_factChoices, .ref h_givenInRound, .int v_givenPairs, .int v_roundCount])), (h_factChoices, .inl (k_factChoices, 18, .inr (.inl v_factChoices)))]) [0, 1] (by decide) rfl
        have hKc := hK.sub (tys' := [(k_factChoices, .long)]) [0] rfl
        have hFc := va_free (wc := [(h_o, .inr (0, [.ref h_factChoices, .ref h_givenInRound, .int v_givenPairs, .int v_roundCount])), (h_factChoices, .inl (k_factChoices, 18, .inr (.inl v_factChoices)))]) hD hS hA [0, 1] rfl
        obtain ⟨v_25, hc_25, h⟩ := of_bind h
        refine va_calli (va_runV (As := [.int z2]) (rest := [.int v_20.1]) ⟨hx, hb, hml, hown, hts⟩ (c_D_pairsFrom l dC dI h_o h_factChoices h_givenInRound k_factChoices tb ak av H.size v_givenPairs v_roundCount v_factChoices z2 v_25.1 v_25.2 hc_25) (cwV 1 hts (gV mlk_D_40 ins_D_pairsFrom sel_D_pairsFrom ini_D cod_D_pairsFrom) rfl rfl rfl (by decide +kernel) ⟨Nat.le_of_ble_eq_true rfl, Nat.le_of_ble_eq_true rfl⟩) ⟨fun a U g mk q => by obtain ⟨q0, q1, qP, qK, qD, qC⟩ := q; exact ⟨q0, q1, qP, va_K.moved (u := U) (U := U.calling g mk a) (Vm.Alike.refl U.vm) qK, qD, kw_blind qC⟩, va_recv hKc hPc (ci := 0) (q0 := 0) rfl rfl, fun U hU hW => ⟨rfl, by rw [hU], by rw [hU]; exact hPc, va_K.moved hW.alike hKc, hDc.weaken (fun _ _ _ _ => trivial), kw_call hC hS hFc hU hW⟩⟩ rfl rfl hl.1 rfl (lv_room (Nat.le_of_ble_eq_true rfl)) d_D_run_25 ⟨Nat.le_of_ble_eq_true rfl, Nat.le_of_ble_eq_true rfl⟩) hS (fun q _ h9 => hFc q h9) hFc (fun r_25 u t H1 locs ht hvm hw hB hz1 hk1 hS => ?_)
        obtain ⟨rfl, rfl⟩ := hw
        obtain ⟨hP1, hK1, hD1⟩ := hB
        rw [ht] at hP1
        obtain ⟨hP, hD⟩ := va_join (wr := [(h_givenInRound, .inl (k_givenInRound, 17, .inl v_givenInRound))]) (w1 := [(h_o, .inr (0, [.ref h_factChoices, .ref h_givenInRound, .int v_givenPairs, .int v_roundCount])), (h_factChoices, .inl (k_factChoices, 18, .inr (.inl v_factChoices)))]) hP hD [0, 1] [2] rfl rfl (by decide) (by decide) hk1 hFc hP1 hD1
        have hP := hP.sub (ws' := [(h_o, .inr (0, [.ref h_factChoices, .ref h_givenInRound, .int v_givenPairs, .int v_roundCount])), (h_factChoices, .inl (k_factChoices, 18, .inr (.inl v_factChoices))), (h_givenInRound, .inl (k_givenInRound, 17, .inl v_givenInRound))]) [1, 2, 0] rfl
        have hD := hD.sub (ws' := [(h_o, .inr (0, [.ref h_factChoices, .ref h_givenInRound, .int v_givenPairs, .int v_roundCount])), (h_factChoices, .inl (k_factChoices, 18, .inr (.inl v_factChoices))), (h_givenInRound, .inl (k_givenInRound, 17, .inl v_givenInRound))]) [1, 2, 0] (by decide) rfl
        generalize H1 = H at hP hS ⊢
        refine lv_ior hx hb d_D_run_28 ?_
        refine lv_aload_n hx hb d_D_run_29 rfl (lv_at hl 0 rfl) ?_
        refine va_get (D := (dC, dI)) (ci := 0) (v := .int v_givenPairs) (C := R_D) (T := F_D) (N := 4) hx hb hts lay_D hown hK hP 0 rfl rfl 2 (by decide) (hts _ flk_D_19) (fun _ h9 => h9) rfl d_D_run_30 ?_
        refine lv_iconst (v := (-1 : Int32)) hx hb d_D_run_33 (by decide) ?_
        refine lv_ixor hx hb d_D_run_34 ?_
        refine lv_iand hx hb d_D_run_35 ?_
        refine lv_istore (lv' := [(4, .int ((v_20.1 ||| v_25.1) &&& (v_givenPairs ^^^ (-1 : Int32)))), (0, .ref h_o), (1, .int z1), (2, .int z2), (3, .int z3)]) hx hb d_D_run_36 hl (by decide) rfl (fun ls hl => ?_)
        refine lv_iload hx hb d_D_run_38 (lv_at hl 0 rfl) ?_
        refine lv_if_ne (tgt := 44) hx hb d_D_run_40 (by decide) (fun c_40 => ?_) (fun c_40 => ?_)
        · have h := of_neg h c_40
          refine lv_aload_n hx hb d_D_run_44 rfl (lv_at hl 1 rfl) ?_
          refine va_get (D := (dC, dI)) (ci := 0) (v := .ref h_givenInRound) (C := R_D) (T := F_D) (N := 4) hx hb hts lay_D hown hK hP 0 rfl rfl 1 (by decide) (hts _ flk_D_15) (fun _ h9 => h9) rfl d_D_run_45 ?_
          refine lv_iload_n hx hb d_D_run_48 rfl (lv_at hl 4 rfl) ?_
          refine lv_iload hx hb d_D_run_49 (lv_at hl 0 rfl) ?_
          obtain ⟨g_51, h⟩ := of_guard h
          refine va_iast hx hb hK hP hD hS 2 1 rfl rfl (inR_in g_51) d_D_run_51 (fun H locs hP hD hS => ?_)
          have hP : va_P (dC, dI) classes [(h_o, .inr (0, [.ref h_factChoices, .ref h_givenInRound, .int v_givenPairs, .int v_roundCount])), (h_factChoices, .inl (k_factChoices, 18, .inr (.inl v_factChoices))), (h_givenInRound, .inl (k_givenInRound, 17, .inl (upd v_givenInRound z3.toNatClampNeg ((v_20.1 ||| v_25.1) &&& (v_givenPairs ^^^ (-1 : Int32))))))] H := hP
          have hD : va_D A [(h_o, .inr (0, [.ref h_factChoices, .ref h_givenInRound, .int v_givenPairs, .int v_roundCount])), (h_factChoices, .inl (k_factChoices, 18, .inr (.inl v_factChoices))), (h_givenInRound, .inl (k_givenInRound, 17, .inl (upd v_givenInRound z3.toNatClampNeg ((v_20.1 ||| v_25.1) &&& (v_givenPairs ^^^ (-1 : Int32))))))] := hD
          refine lv_aload_n hx hb d_D_run_52 rfl (lv_at hl 1 rfl) ?_
          refine lv_dup hx hb d_D_run_53 rfl ?_
          refine va_get (D := (dC, dI)) (ci := 0) (v := .int v_givenPairs) (C := R_D) (T := F_D) (N := 4) hx hb hts lay_D hown hK hP 0 rfl rfl 2 (by decide) (hts _ flk_D_19) (fun _ h9 => h9) rfl d_D_run_54 ?_
          refine lv_iload hx hb d_D_run_57 (lv_at hl 0 rfl) ?_
          refine lv_ior hx hb d_D_run_59 ?_
          refine va_put (D := (dC, dI)) (ci := 0) (v := .int (v_givenPairs ||| ((v_20.1 ||| v_25.1) &&& (v_givenPairs ^^^ (-1 : Int32))))) (ty := .int) (C := R_D) (T := F_D) (N := 4) hx hb hts lay_D t_D t_D_ok n_D hown hK hP hD hS 0 rfl rfl 2 (by decide) (hts _ flk_D_19) (fun _ h9 => h9) rfl (by decide +kernel) rfl rfl (Nat.le_of_ble_eq_true rfl) d_D_run_60 (fun H locs hP hD hS => ?_)
          have hP : va_P (dC, dI) classes [(h_o, .inr (0, [.ref h_factChoices, .ref h_givenInRound, .int (v_givenPairs ||| ((v_20.1 ||| v_25.1) &&& (v_givenPairs ^^^ (-1 : Int32)))), .int v_roundCount])), (h_factChoices, .inl (k_factChoices, 18, .inr (.inl v_factChoices))), (h_givenInRound, .inl (k_givenInRound, 17, .inl (upd v_givenInRound z3.toNatClampNeg ((v_20.1 ||| v_25.1) &&& (v_givenPairs ^^^ (-1 : Int32))))))] H := hP
          have hD : va_D A [(h_o, .inr (0, [.ref h_factChoices, .ref h_givenInRound, .int (v_givenPairs ||| ((v_20.1 ||| v_25.1) &&& (v_givenPairs ^^^ (-1 : Int32)))), .int v_roundCount])), (h_factChoices, .inl (k_factChoices, 18, .inr (.inl v_factChoices))), (h_givenInRound, .inl (k_givenInRound, 17, .inl (upd v_givenInRound z3.toNatClampNeg ((v_20.1 ||| v_25.1) &&& (v_givenPairs ^^^ (-1 : Int32))))))] := hD
          refine lv_aload_n hx hb d_D_run_63 rfl (lv_at hl 1 rfl) ?_
          refine lv_iload_n hx hb d_D_run_64 rfl (lv_at hl 4 rfl) ?_
          refine va_put (D := (dC, dI)) (ci := 0) (v := .int z3) (ty := .int) (C := R_D) (T := F_D) (N := 4) hx hb hts lay_D t_D t_D_ok n_D hown hK hP hD hS 0 rfl rfl 3 (by decide) (hts _ flk_D_23) (fun _ h9 => h9) rfl (by decide +kernel) rfl rfl (Nat.le_of_ble_eq_true rfl) d_D_run_65 (fun H locs hP hD hS => ?_)
          have hP : va_P (dC, dI) classes [(h_o, .inr (0, [.ref h_factChoices, .ref h_givenInRound, .int (v_givenPairs ||| ((v_20.1 ||| v_25.1) &&& (v_givenPairs ^^^ (-1 : Int32)))), .int z3])), (h_factChoices, .inl (k_factChoices, 18, .inr (.inl v_factChoices))), (h_givenInRound, .inl (k_givenInRound, 17, .inl (upd v_givenInRound z3.toNatClampNeg ((v_20.1 ||| v_25.1) &&& (v_givenPairs ^^^ (-1 : Int32))))))] H := hP
          have hD : va_D A [(h_o, .inr (0, [.ref h_factChoices, .ref h_givenInRound, .int (v_givenPairs ||| ((v_20.1 ||| v_25.1) &&& (v_givenPairs ^^^ (-1 : Int32)))), .int z3])), (h_factChoices, .inl (k_factChoices, 18, .inr (.inl v_factChoices))), (h_givenInRound, .inl (k_givenInRound, 17, .inl (upd v_givenInRound z3.toNatClampNeg ((v_20.1 ||| v_25.1) &&& (v_givenPairs ^^^ (-1 : Int32))))))] := hD
          refine lv_iinc (v := z3 + (nI 1)) (lv' := [(3, .int (z3 + (nI 1))), (4, .int ((v_20.1 ||| v_25.1) &&& (v_givenPairs ^^^ (-1 : Int32)))), (0, .ref h_o), (1, .int z1), (2, .int z2)]) hx hb d_D_run_68 hl (k := 4) rfl rfl (by decide) rfl (fun ls hl => ?_)
          refine lv_goto (tgt := 12) hx hb d_D_run_71 (by decide) ?_
          exact ih (v_givenPairs ||| ((v_20.1 ||| v_25.1) &&& (v_givenPairs ^^^ (-1 : Int32)))) z3 (upd v_givenInRound z3.toNatClampNeg ((v_20.1 ||| v_25.1) &&& (v_givenPairs ^^^ (-1 : Int32)))) z1 z2 (z3 + (nI 1)) h _ _ hP hD hS ls (lv_sub hl [2, 3, 4, 0] rfl)
        · have h := of_pos h c_40
          rw [hQ]
          exact W.vret hx hb hr (fun t ht hW => ⟨⟨(v_givenPairs, v_roundCount, v_givenInRound), rfl, Option.some.inj h, by rw [ht]; exact hP, va_K.moved hW.alike hK, hD⟩, hS.F ht⟩) hS.2.2 d_D_run_43
  unfold m_D_run at h
  refine lv_aload_n hx hb d_D_run_0 rfl (lv_at hl 0 rfl) ?_
  refine lv_iconst (v := (nI 0)) hx hb d_D_run_1 (by decide) ?_
  refine va_put (D := (dC, dI)) (ci := 0) (v := .int (nI 0)) (ty := .int) (C := R_D) (T := F_D) (N := 4) hx hb hts lay_D t_D t_D_ok n_D hown hK hP hD hS 0 rfl rfl 2 (by decide) (hts _ flk_D_19) (fun _ h9 => h9) rfl (by decide +kernel) rfl rfl (Nat.le_of_ble_eq_true rfl) d_D_run_2 (fun H locs hP hD hS => ?_)
  have hP : va_P (dC, dI) classes [(h_o, .inr (0, [.ref h_factChoices, .ref h_givenInRound, .int (nI 0), .int v_roundCount])), (h_factChoices, .inl (k_factChoices, 18, .inr (.inl v_factChoices))), (h_givenInRound, .inl (k_givenInRound, 17, .inl v_givenInRound))] H := hP
  have hD : va_D A [(h_o, .inr (0, [.ref h_factChoices, .ref h_givenInRound, .int (nI 0), .int v_roundCount])), (h_factChoices, .inl (k_factChoices, 18, .inr (.inl v_factChoices))), (h_givenInRound, .inl (k_givenInRound, 17, .inl v_givenInRound))] := hD
  refine lv_aload_n hx hb d_D_run_5 rfl (lv_at hl 0 rfl) ?_
  refine lv_iconst (v := (nI 0)) hx hb d_D_run_6 (by decide) ?_
  refine va_put (D := (dC, dI)) (ci := 0) (v := .int (nI 0)) (ty := .int) (C := R_D) (T := F_D) (N := 4) hx hb hts lay_D t_D t_D_ok n_D hown hK hP hD hS 0 rfl rfl 3 (by decide) (hts _ flk_D_23) (fun _ h9 => h9) rfl (by decide +kernel) rfl rfl (Nat.le_of_ble_eq_true rfl) d_D_run_7 (fun H locs hP hD hS => ?_)
  have hP : va_P (dC, dI) classes [(h_o, .inr (0, [.ref h_factChoices, .ref h_givenInRound, .int (nI 0), .int (nI 0)])), (h_factChoices, .inl (k_factChoices, 18, .inr (.inl v_factChoices))), (h_givenInRound, .inl (k_givenInRound, 17, .inl v_givenInRound))] H := hP
  have hD : va_D A [(h_o, .inr (0, [.ref h_factChoices, .ref h_givenInRound, .int (nI 0), .int (nI 0)])), (h_factChoices, .inl (k_factChoices, 18, .inr (.inl v_factChoices))), (h_givenInRound, .inl (k_givenInRound, 17, .inl v_givenInRound))] := hD
  refine lv_iconst (v := (nI 1)) hx hb d_D_run_10 (by decide) ?_
  refine lv_istore_n (lv' := [(3, .int (nI 1)), (0, .ref h_o), (1, .int x1), (2, .int x2)]) hx hb d_D_run_11 rfl hl (by decide) rfl (fun ls hl => ?_)
  exact J_12 40 (nI 0) (nI 0) v_givenInRound x1 x2 (nI 1) h _ _ hP hD hS ls (lv_sub hl [1, 2, 3, 0] rfl)
set_option maxHeartbeats 4000000 in
set_option maxRecDepth 100000 in
theorem c_D_takeFacts (l : Launch) (dC : Nat → ClassId) (dI : Nat → Nat → Nat) (h_o h_factChoices h_givenInRound : Nat) (k_factChoices : ClassId) (tb : Nat) (ak av : Nat → Nat) (sz : Nat) (v_givenPairs : Int32) (v_roundCount : Int32) (v_factChoices : Nat → Int64) (x1 : Int32) (x2 : Int32) (u0 : (Nat → Int64)) (h : m_D_takeFacts v_factChoices x1 x2 = some u0) : Met l y_D_takeFacts w_D_takeFacts ({ frames := 1, cells := 0, slots := 0, locals := 25 } : Room) (va_Pc [.ref h_o, .int x1, .int x2] (fun U => U.heap.size = sz ∧ va_P (dC, dI) classes [(h_o, .inr (0, [.ref h_factChoices, .ref h_givenInRound, .int v_givenPairs, .int v_roundCount])), (h_factChoices, .inl (k_factChoices, 18, .inr (.inl v_factChoices)))] U.heap ∧ va_K (dC, dI) classes [(k_factChoices, .long)] U ∧ va_D (fun _ => True) [(h_o, .inr (0, [.ref h_factChoices, .ref h_givenInRound, .int v_givenPairs, .int v_roundCount])), (h_factChoices, .inl (k_factChoices, 18, .inr (.inl v_factChoices)))] ∧ kw tb ak av (va_A [(h_o, .inr (0, [.ref h_factChoices, .ref h_givenInRound, .int v_givenPairs, .int v_roundCount])), (h_factChoices, .inl (k_factChoices, 18, .inr (.inl v_factChoices)))] sz) U)) (va_Qv (fun (u : (Nat → Int64)) => u = u0) (fun (u : (Nat → Int64)) (t : State) => va_P (dC, dI) classes [(h_o, .inr (0, [.ref h_factChoices, .ref h_givenInRound, .int v_givenPairs, .int v_roundCount])), (h_factChoices, .inl (k_factChoices, 18, .inr (.inl u)))] t.heap ∧ va_K (dC, dI) classes [(k_factChoices, .long)] t ∧ va_D (va_A [(h_o, .inr (0, [.ref h_factChoices, .ref h_givenInRound, .int v_givenPairs, .int v_roundCount])), (h_factChoices, .inl (k_factChoices, 18, .inr (.inl v_factChoices)))] sz) [(h_o, .inr (0, [.ref h_factChoices, .ref h_givenInRound, .int v_givenPairs, .int v_roundCount])), (h_factChoices, .inl (k_factChoices, 18, .inr (.inl u)))]) (va_A [(h_o, .inr (0, [.ref h_factChoices, .ref h_givenInRound, .int v_givenPairs, .int v_roundCount])), (h_factChoices, .inl (k_factChoices, 18, .inr (.inl v_factChoices)))] sz)) 0 0 (va_A [(h_o, .inr (0, [.ref h_factChoices, .ref h_givenInRound, .int v_givenPairs, .int v_roundCount])), (h_factChoices, .inl (k_factChoices, 18, .inr (.inl v_factChoices)))] sz) := by
  refine Met.ofW (cc := b_D_takeFacts) (maxL := 5) (ret := none) (by decide) rfl ?_
  intro p e s m args below meth c s₁ B hml hv
  obtain ⟨rfl, hsz, hP, hK, hD0, hC⟩ := hv
  have hx := B.exec
  have hb := B.bytes
  have hr := B.returns
  have hts0 := atoms_spec (ws := w_D_takeFacts) B.pre
  have hts : ∀ w ∈ lw_gd, w.before ([.ref h_o, .int x1, .int x2] : List Value).toArray s = true := fun w h9 => hts0 w (List.mem_cons_of_mem _ h9)
  have hown : s.vm.findClass R_D = some m.cls := findClass_of_methodNamed B.named
  have hlocks := B.notSynchronized
  subst hsz
  have hD := hD0.self (sz := s.heap.size)
  generalize hAe : va_A [(h_o, .inr (0, [.ref h_factChoices, .ref h_givenInRound, .int v_givenPairs, .int v_roundCount])), (h_factChoices, .inl (k_factChoices, 18, .inr (.inl v_factChoices)))] s.heap.size = A at hD hC ⊢
  have hA : ∀ q : Nat, s.heap.size ≤ q → A q := fun q h9 => by rw [← hAe]; exact Or.inr h9
  obtain ⟨H, eH⟩ : ∃ H : Heap, H = s.heap := ⟨_, rfl⟩
  have hS : va_S A s.heap H [] := by rw [eH]; exact va_S.rf
  have hP : va_P (dC, dI) classes [(h_o, .inr (0, [.ref h_factChoices, .ref h_givenInRound, .int v_givenPairs, .int v_roundCount])), (h_factChoices, .inl (k_factChoices, 18, .inr (.inl v_factChoices)))] H := by rw [eH]; exact hP
  refine W_gen (fun Q hQ => ?_)
  refine W_heap eH ?_
  clear eH
  have hl := lv_entry ([.ref h_o, .int x1, .int x2]) (n := 5) (Nat.le_of_ble_eq_true rfl)
  rw [lg_entry_eq]
  generalize (lg_sl ([.ref h_o, .int x1, .int x2]) ++ List.replicate (5 - (lg_sl ([.ref h_o, .int x1, .int x2])).length) Slot.unset).toArray = ls at hl ⊢
  have hl : lv_has ls 5 [(0, .ref h_o), (1, .int x1), (2, .int x2)] := hl
  have J_20 : ∀ (k_2 : (Nat → Int64) → Int32 → Int32 → Int32 → Option ((Nat → Int64))) (hk_2 : ∀ (v_factChoices : Nat → Int64) (z1 : Int32) (z2 : Int32) (z3 : Int32), k_2 v_factChoices z1 z2 z3 = some u0 → ∀ (H : Heap) (locs : List Loc), va_P (dC, dI) classes [(h_o, .inr (0, [.ref h_factChoices, .ref h_givenInRound, .int v_givenPairs, .int v_roundCount])), (h_factChoices, .inl (k_factChoices, 18, .inr (.inl v_factChoices)))] H → va_D A [(h_o, .inr (0, [.ref h_factChoices, .ref h_givenInRound, .int v_givenPairs, .int v_roundCount])), (h_factChoices, .inl (k_factChoices, 18, .inr (.inl v_factChoices)))] → va_S A s.heap H locs → ∀ (ls : Array Slot), lv_has ls 5 [(0, .ref h_o), (1, .int z1), (2, .int z2), (3, .int z3)] → W p l e (headSpec w_D_takeFacts ({ frames := 1, cells := 0, slots := 0, locals := 25 } : Room)).room s m ([.ref h_o, .int x1, .int x2] : List Value).toArray below meth c H locs 0 0 Q (F0 m 2 ls [])) (v_factChoices : Nat → Int64) (z1 : Int32) (z2 : Int32) (z3 : Int32) (y0 : Int32), m_D_takeFacts_20 k_2 v_factChoices z1 z2 z3 y0 = some u0 → ∀ (H : Heap) (locs : List Loc), va_P (dC, dI) classes [(h_o, .inr (0, [.ref h_factChoices, .ref h_givenInRound, .int v_givenPairs, .int v_roundCount])), (h_factChoices, .inl (k_factChoices, 18, .inr (.inl v_factChoices)))] H → va_D A [(h_o, .inr (0, [.ref h_factChoices, .ref h_givenInRound, .int v_givenPairs, .int v_roundCount])), (h_factChoices, .inl (k_factChoices, 18, .inr (.inl v_factChoices)))] → va_S A s.heap H locs → ∀ (ls : Array Slot), lv_has ls 5 [(0, .ref h_o), (1, .int z1), (2, .int z2), (3, .int z3)] → W p l e (headSpec w_D_takeFacts ({ frames := 1, cells := 0, slots := 0, locals := 25 } : Room)).room s m ([.ref h_o, .int x1, .int x2] : List Value).toArray below meth c H locs 0 0 Q (F0 m 20 ls [.int y0]) := by
    intro k_2 hk_2 v_factChoices z1 z2 z3 y0 h H locs hP hD hS ls hl
    unfold m_D_takeFacts_20 at h
    refine lv_istore (lv' := [(4, .int y0), (0, .ref h_o), (1, .int z1), (2, .int z2), (3, .int z3)]) hx hb d_D_takeFacts_20 hl (by decide) rfl (fun ls hl => ?_)
    refine lv_aload_n hx hb d_D_takeFacts_22 rfl (lv_at hl 1 rfl) ?_
    refine va_get (D := (dC, dI)) (ci := 0) (v := .ref h_factChoices) (C := R_D) (T := F_D) (N := 4) hx hb hts lay_D hown hK hP 0 rfl rfl 0 (by decide) (hts _ flk_D_9) (fun _ h9 => h9) rfl d_D_takeFacts_23 ?_
    refine lv_iload_n hx hb d_D_takeFacts_26 rfl (lv_at hl 4 rfl) ?_
    refine lv_iload hx hb d_D_takeFacts_27 (lv_at hl 0 rfl) ?_
    refine lv_iload_n hx hb d_D_takeFacts_29 rfl (lv_at hl 4 rfl) ?_
    have hPc := hP.sub (ws' := []) [] rfl
    have hDc := hD.sub (ws' := []) [] (by decide) rfl
    have hKc := hK.sub (tys' := []) [] rfl
    have hFc := va_free (wc := []) hD hS hA [] rfl
    obtain ⟨v_30, hc_30, h⟩ := of_bind h
    refine va_calli (va_runSN (As := [.int z3]) (rest := [.int y0, .int z3, .ref h_factChoices]) ⟨hx, hb, hml, hown, hts⟩ (c_H_firstVariableOf l dC dI H.size z3 v_30.1 v_30.2 hc_30) ⟨va_cnB 1 hts (gI cod_H_firstVariableOf) rfl rfl rfl hC.nst_D_30 (hts _ ini_H) (by decide +kernel) ⟨Nat.le_of_ble_eq_true rfl, Nat.le_of_ble_eq_true rfl⟩, hts _ sta_H_firstVariableOf, trivial⟩ ⟨fun a U g mk q => by obtain ⟨q0, q1, qP, qK, qD⟩ := q; exact ⟨q0, q1, qP, va_K.moved (u := U) (U := U.calling g mk a) (Vm.Alike.refl U.vm) qK, qD⟩, fun U hU hW => ⟨rfl, by rw [hU], by rw [hU]; exact hPc, va_K.moved hW.alike hKc, hDc.weaken (fun _ _ _ _ => trivial)⟩⟩ rfl rfl hl.1 rfl (lv_room (Nat.le_of_ble_eq_true rfl)) d_D_takeFacts_30 ⟨Nat.le_of_ble_eq_true rfl, Nat.le_of_ble_eq_true rfl⟩) hS (fun q _ h9 => hFc q h9) hFc (fun r_30 u t H1 locs ht hvm hw hB hz1 hk1 hS => ?_)
    obtain ⟨rfl, rfl⟩ := hw
    obtain ⟨hP1, hK1, hD1⟩ := hB
    rw [ht] at hP1
    obtain ⟨hP, hD⟩ := va_join (wr := [(h_o, .inr (0, [.ref h_factChoices, .ref h_givenInRound, .int v_givenPairs, .int v_roundCount])), (h_factChoices, .inl (k_factChoices, 18, .inr (.inl v_factChoices)))]) (w1 := []) hP hD [] [0, 1] rfl rfl (by decide) (by decide) hk1 hFc hP1 hD1
    have hP := hP.sub (ws' := [(h_o, .inr (0, [.ref h_factChoices, .ref h_givenInRound, .int v_givenPairs, .int v_roundCount])), (h_factChoices, .inl (k_factChoices, 18, .inr (.inl v_factChoices)))]) [0, 1] rfl
    have hD := hD.sub (ws' := [(h_o, .inr (0, [.ref h_factChoices, .ref h_givenInRound, .int v_givenPairs, .int v_roundCount])), (h_factChoices, .inl (k_factChoices, 18, .inr (.inl v_factChoices)))]) [0, 1] (by decide) rfl
    generalize H1 = H at hP hS ⊢
    refine lv_iload_n hx hb d_D_takeFacts_33 rfl (lv_at hl 4 rfl) ?_
    have hPc := hP.sub (ws' := []) [] rfl
    have hDc := hD.sub (ws' := []) [] (by decide) rfl
    have hKc := hK.sub (tys' := []) [] rfl
    have hFc := va_free (wc := []) hD hS hA [] rfl
    obtain ⟨v_34, hc_34, h⟩ := of_bind h
    refine va_calli (va_runSN (As := [.int z3]) (rest := [.int v_30.1, .int y0, .int z3, .ref h_factChoices]) ⟨hx, hb, hml, hown, hts⟩ (c_H_secondVariableOf l dC dI H.size z3 v_34.1 v_34.2 hc_34) ⟨va_cnB 1 hts (gI cod_H_secondVariableOf) rfl rfl rfl hC.nst_D_33 (hts _ ini_H) (by decide +kernel) ⟨Nat.le_of_ble_eq_true rfl, Nat.le_of_ble_eq_true rfl⟩, hts _ sta_H_secondVariableOf, trivial⟩ ⟨fun a U g mk q => by obtain ⟨q0, q1, qP, qK, qD⟩ := q; exact ⟨q0, q1, qP, va_K.moved (u := U) (U := U.calling g mk a) (Vm.Alike.refl U.vm) qK, qD⟩, fun U hU hW => ⟨rfl, by rw [hU], by rw [hU]; exact hPc, va_K.moved hW.alike hKc, hDc.weaken (fun _ _ _ _ => trivial)⟩⟩ rfl rfl hl.1 rfl (lv_room (Nat.le_of_ble_eq_true rfl)) d_D_takeFacts_34 ⟨Nat.le_of_ble_eq_true rfl, Nat.le_of_ble_eq_true rfl⟩) hS (fun q _ h9 => hFc q h9) hFc (fun r_34 u t H1 locs ht hvm hw hB hz1 hk1 hS => ?_)
    obtain ⟨rfl, rfl⟩ := hw
    obtain ⟨hP1, hK1, hD1⟩ := hB
    rw [ht] at hP1
    obtain ⟨hP, hD⟩ := va_join (wr := [(h_o, .inr (0, [.ref h_factChoices, .ref h_givenInRound, .int v_givenPairs, .int v_roundCount])), (h_factChoices, .inl (k_factChoices, 18, .inr (.inl v_factChoices)))]) (w1 := []) hP hD [] [0, 1] rfl rfl (by decide) (by decide) hk1 hFc hP1 hD1
    have hP := hP.sub (ws' := [(h_o, .inr (0, [.ref h_factChoices, .ref h_givenInRound, .int v_givenPairs, .int v_roundCount])), (h_factChoices, .inl (k_factChoices, 18, .inr (.inl v_factChoices)))]) [0, 1] rfl
    have hD := hD.sub (ws' := [(h_o, .inr (0, [.ref h_factChoices, .ref h_givenInRound, .int v_givenPairs, .int v_roundCount])), (h_factChoices, .inl (k_factChoices, 18, .inr (.inl v_factChoices)))]) [0, 1] (by decide) rfl
    generalize H1 = H at hP hS ⊢
    have hPc := hP.sub (ws' := []) [] rfl
    have hDc := hD.sub (ws' := []) [] (by decide) rfl
    have hKc := hK.sub (tys' := []) [] rfl
    have hFc := va_free (wc := []) hD hS hA [] rfl
    obtain ⟨v_37, hc_37, h⟩ := of_bind h
    refine va_calll (va_runS (As := [.int y0, .int v_30.1, .int v_34.1]) (rest := [.int z3, .ref h_factChoices]) ⟨hx, hb, hml, hown, hts⟩ (c_D_choicesWhere l dC dI tb ak av H.size y0 v_30.1 v_34.1 v_37.1 v_37.2 hc_37) (va_cwS 3 hts (gS mlk_D_36 sta_D_choicesWhere ini_D cod_D_choicesWhere) rfl rfl rfl (by decide +kernel) ⟨Nat.le_of_ble_eq_true rfl, Nat.le_of_ble_eq_true rfl⟩) ⟨fun a U g mk q => by obtain ⟨q0, q1, qP, qK, qD, qC⟩ := q; exact ⟨q0, q1, qP, va_K.moved (u := U) (U := U.calling g mk a) (Vm.Alike.refl U.vm) qK, qD, kw_blind qC⟩, fun U hU hW => ⟨rfl, by rw [hU], by rw [hU]; exact hPc, va_K.moved hW.alike hKc, hDc.weaken (fun _ _ _ _ => trivial), kw_call hC hS hFc hU hW⟩⟩ rfl rfl hl.1 rfl (lv_room (Nat.le_of_ble_eq_true rfl)) d_D_takeFacts_37 ⟨Nat.le_of_ble_eq_true rfl, Nat.le_of_ble_eq_true rfl⟩) hS (fun q _ h9 => hFc q h9) hFc (fun r_37 u t H1 locs ht hvm hw hB hz1 hk1 hS => ?_)
    obtain ⟨rfl, rfl⟩ := hw
    obtain ⟨hP1, hK1, hD1⟩ := hB
    rw [ht] at hP1
    obtain ⟨hP, hD⟩ := va_join (wr := [(h_o, .inr (0, [.ref h_factChoices, .ref h_givenInRound, .int v_givenPairs, .int v_roundCount])), (h_factChoices, .inl (k_factChoices, 18, .inr (.inl v_factChoices)))]) (w1 := []) hP hD [] [0, 1] rfl rfl (by decide) (by decide) hk1 hFc hP1 hD1
    have hP := hP.sub (ws' := [(h_o, .inr (0, [.ref h_factChoices, .ref h_givenInRound, .int v_givenPairs, .int v_roundCount])), (h_factChoices, .inl (k_factChoices, 18, .inr (.inl v_factChoices)))]) [0, 1] rfl
    have hD := hD.sub (ws' := [(h_o, .inr (0, [.ref h_factChoices, .ref h_givenInRound, .int v_givenPairs, .int v_roundCount])), (h_factChoices, .inl (k_factChoices, 18, .inr (.inl v_factChoices)))]) [0, 1] (by decide) rfl
    generalize H1 = H at hP hS ⊢
    obtain ⟨g_40, h⟩ := of_guard h
    refine va_last hx hb hK hP hD hS 1 0 rfl rfl (inR_in g_40) d_D_takeFacts_40 (fun H locs hP hD hS => ?_)
    have hP : va_P (dC, dI) classes [(h_o, .inr (0, [.ref h_factChoices, .ref h_givenInRound, .int v_givenPairs, .int v_roundCount])), (h_factChoices, .inl (k_factChoices, 18, .inr (.inl (vp_updL v_factChoices z3.toNatClampNeg v_37.1))))] H := hP
    have hD : va_D A [(h_o, .inr (0, [.ref h_factChoices, .ref h_givenInRound, .int v_givenPairs, .int v_roundCount])), (h_factChoices, .inl (k_factChoices, 18, .inr (.inl (vp_updL v_factChoices z3.toNatClampNeg v_37.1))))] := hD
    refine lv_iinc (v := z3 + (nI 1)) (lv' := [(3, .int (z3 + (nI 1))), (4, .int y0), (0, .ref h_o), (1, .int z1), (2, .int z2)]) hx hb d_D_takeFacts_41 hl (k := 4) rfl rfl (by decide) rfl (fun ls hl => ?_)
    refine lv_goto (tgt := 2) hx hb d_D_takeFacts_44 (by decide) ?_
    exact hk_2 (vp_updL v_factChoices z3.toNatClampNeg v_37.1) z1 z2 (z3 + (nI 1)) h _ _ hP hD hS ls (lv_sub hl [2, 3, 4, 0] rfl)
  have J_2 : ∀ (n : Nat) (v_factChoices : Nat → Int64) (z1 : Int32) (z2 : Int32) (z3 : Int32), m_D_takeFacts_2 n v_factChoices z1 z2 z3 = some u0 → ∀ (H : Heap) (locs : List Loc), va_P (dC, dI) classes [(h_o, .inr (0, [.ref h_factChoices, .ref h_givenInRound, .int v_givenPairs, .int v_roundCount])), (h_factChoices, .inl (k_factChoices, 18, .inr (.inl v_factChoices)))] H → va_D A [(h_o, .inr (0, [.ref h_factChoices, .ref h_givenInRound, .int v_givenPairs, .int v_roundCount])), (h_factChoices, .inl (k_factChoices, 18, .inr (.inl v_factChoices)))] → va_S A s.heap H locs → ∀ (ls : Array Slot), lv_has ls 5 [(0, .ref h_o), (1, .int z1), (2, .int z2), (3, .int z3)] → W p l e (headSpec w_D_takeFacts ({ frames := 1, cells := 0, slots := 0, locals := 25 } : Room)).room s m ([.ref h_o, .int x1, .int x2] : List Value).toArray below meth c H locs 0 0 Q (F0 m 2 ls []) := by
    intro n
    induction n with
    | zero => intro v_factChoices z1 z2 z3 h; exact absurd h (by unfold m_D_takeFacts_2; exact fun h9 => nomatch h9)
    | succ n ih =>
      intro v_factChoices z1 z2 z3 h H locs hP hD hS ls hl
      unfold m_D_takeFacts_2 at h
      refine lv_iload_n hx hb d_D_takeFacts_2 rfl (lv_at hl 3 rfl) ?_
      refine lv_bipush (v := (nI 18)) hx hb d_D_takeFacts_3 (by decide) ?_
      refine lv_icmp_ge (tgt := 47) hx hb d_D_takeFacts_5 (by decide) (fun c_5 => ?_) (fun c_5 => ?_)
      · have h := of_pos h c_5
        rw [hQ]
        exact W.vret hx hb hr (fun t ht hW => ⟨⟨v_factChoices, rfl, Option.some.inj h, by rw [ht]; exact hP, va_K.moved hW.alike hK, hD⟩, hS.F ht⟩) hS.2.2 d_D_takeFacts_47
      · have h := of_neg h c_5
        refine lv_iload_n hx hb d_D_takeFacts_8 rfl (lv_at hl 3 rfl) ?_
        have hPc := hP.sub (ws' := []) [] rfl
        have hDc := hD.sub (ws' := []) [] (by decide) rfl
        have hKc := hK.sub (tys' := []) [] rfl
        have hFc := va_free (wc := []) hD hS hA [] rfl
        obtain ⟨v_9, hc_9, h⟩ := of_bind h
        refine va_calli (va_runSN (As := [.int z3]) (rest := []) ⟨hx, hb, hml, hown, hts⟩ (c_H_relationOf l dC dI H.size z3 v_9.1 v_9.2 hc_9) ⟨va_cnB 1 hts (gI cod_H_relationOf) rfl rfl rfl hC.nst_D_26 (hts _ ini_H) (by decide +kernel) ⟨Nat.le_of_ble_eq_true rfl, Nat.le_of_ble_eq_true rfl⟩, hts _ sta_H_relationOf, trivial⟩ ⟨fun a U g mk q => by obtain ⟨q0, q1, qP, qK, qD⟩ := q; exact ⟨q0, q1, qP, va_K.moved (u := U) (U := U.calling g mk a) (Vm.Alike.refl U.vm) qK, qD⟩, fun U hU hW => ⟨rfl, by rw [hU], by rw [hU]; exact hPc, va_K.moved hW.alike hKc, hDc.weaken (fun _ _ _ _ => trivial)⟩⟩ rfl rfl hl.1 rfl (lv_room (Nat.le_of_ble_eq_true rfl)) d_D_takeFacts_9 ⟨Nat.le_of_ble_eq_true rfl, Nat.le_of_ble_eq_true rfl⟩) hS (fun q _ h9 => hFc q h9) hFc (fun r_9 u t H1 locs ht hvm hw hB hz1 hk1 hS => ?_)
        obtain ⟨rfl, rfl⟩ := hw
        obtain ⟨hP1, hK1, hD1⟩ := hB
        rw [ht] at hP1
        obtain ⟨hP, hD⟩ := va_join (wr := [(h_o, .inr (0, [.ref h_factChoices, .ref h_givenInRound, .int v_givenPairs, .int v_roundCount])), (h_factChoices, .inl (k_factChoices, 18, .inr (.inl v_factChoices)))]) (w1 := []) hP hD [] [0, 1] rfl rfl (by decide) (by decide) hk1 hFc hP1 hD1
        have hP := hP.sub (ws' := [(h_o, .inr (0, [.ref h_factChoices, .ref h_givenInRound, .int v_givenPairs, .int v_roundCount])), (h_factChoices, .inl (k_factChoices, 18, .inr (.inl v_factChoices)))]) [0, 1] rfl
        have hD := hD.sub (ws' := [(h_o, .inr (0, [.ref h_factChoices, .ref h_givenInRound, .int v_givenPairs, .int v_roundCount])), (h_factChoices, .inl (k_factChoices, 18, .inr (.inl v_factChoices)))]) [0, 1] (by decide) rfl
        generalize H1 = H at hP hS ⊢
        refine lv_if_ne (tgt := 19) hx hb d_D_takeFacts_12 (by decide) (fun c_12 => ?_) (fun c_12 => ?_)
        · have h := of_neg h c_12
          refine lv_iload_n hx hb d_D_takeFacts_19 rfl (lv_at hl 2 rfl) ?_
          exact J_20 (m_D_takeFacts_2 n) ih v_factChoices z1 z2 z3 z2 h _ _ hP hD hS ls (lv_sub hl [0, 1, 2, 3] rfl)
        · have h := of_pos h c_12
          refine lv_iload_n hx hb d_D_takeFacts_15 rfl (lv_at hl 1 rfl) ?_
          refine lv_goto (tgt := 20) hx hb d_D_takeFacts_16 (by decide) ?_
          exact J_20 (m_D_takeFacts_2 n) ih v_factChoices z1 z2 z3 z1 h _ _ hP hD hS ls (lv_sub hl [0, 1, 2, 3] rfl)
  unfold m_D_takeFacts at h
  refine lv_iconst (v := (nI 0)) hx hb d_D_takeFacts_0 (by decide) ?_
  refine lv_istore_n (lv' := [(3, .int (nI 0)), (0, .ref h_o), (1, .int x1), (2, .int x2)]) hx hb d_D_takeFacts_1 rfl hl (by decide) rfl (fun ls hl => ?_)
  exact J_2 40 v_factChoices x1 x2 (nI 0) h _ _ hP hD hS ls (lv_sub hl [1, 2, 3, 0] rfl)
end
section
theorem d_H_key_0 : decode b_H_key 0 = .ok (.aload_n 0, 1) := by decide +kernel
theorem d_H_key_1 : decode b_H_key 1 = .ok (.getfield 12, 3) := by decide +kernel
theorem d_H_key_4 : decode b_H_key 4 = .ok (.iload_n 1, 1) := by decide +kernel
theorem d_H_key_5 : decode b_H_key 5 = .ok (.invokevirtual 41, 3) := by decide +kernel
theorem d_H_key_8 : decode b_H_key 8 = .ok (.ireturn, 1) := by decide +kernel
theorem d_H_back_0 : decode b_H_back 0 = .ok (.aload_n 0, 1) := by decide +kernel
theorem d_H_back_1 : decode b_H_back 1 = .ok (.getfield 12, 3) := by decide +kernel
theorem d_H_back_4 : decode b_H_back 4 = .ok (.invokevirtual 45, 3) := by decide +kernel
theorem d_H_back_7 : decode b_H_back 7 = .ok (.ireturn, 1) := by decide +kernel
theorem d_H_facts_0 : decode b_H_facts 0 = .ok (.iload_n 1, 1) := by decide +kernel
theorem d_H_facts_1 : decode b_H_facts 1 = .ok (.invokestatic 63, 3) := by decide +kernel
theorem d_H_facts_4 : decode b_H_facts 4 = .ok (.ifCond .eq 15, 3) := by decide +kernel
theorem d_H_facts_7 : decode b_H_facts 7 = .ok (.aload_n 0, 1) := by decide +kernel
theorem d_H_facts_8 : decode b_H_facts 8 = .ok (.getfield 16, 3) := by decide +kernel
theorem d_H_facts_11 : decode b_H_facts 11 = .ok (.iload_n 1, 1) := by decide +kernel
theorem d_H_facts_12 : decode b_H_facts 12 = .ok (.iaload, 1) := by decide +kernel
theorem d_H_facts_13 : decode b_H_facts 13 = .ok (.invokestatic 66, 3) := by decide +kernel
theorem d_H_facts_16 : decode b_H_facts 16 = .ok (.goto 4, 3) := by decide +kernel
theorem d_H_facts_19 : decode b_H_facts 19 = .ok (.iconst (-1), 1) := by decide +kernel
theorem d_H_facts_20 : decode b_H_facts 20 = .ok (.ireturn, 1) := by decide +kernel
theorem d_H_holds_0 : decode b_H_holds 0 = .ok (.iload_n 1, 1) := by decide +kernel
theorem d_H_holds_1 : decode b_H_holds 1 = .ok (.invokestatic 63, 3) := by decide +kernel
theorem d_H_holds_4 : decode b_H_holds 4 = .ok (.ifCond .eq 22, 3) := by decide +kernel
theorem d_H_holds_7 : decode b_H_holds 7 = .ok (.aload_n 0, 1) := by decide +kernel
theorem d_H_holds_8 : decode b_H_holds 8 = .ok (.getfield 16, 3) := by decide +kernel
theorem d_H_holds_11 : decode b_H_holds 11 = .ok (.iload_n 1, 1) := by decide +kernel
theorem d_H_holds_12 : decode b_H_holds 12 = .ok (.iaload, 1) := by decide +kernel
theorem d_H_holds_13 : decode b_H_holds 13 = .ok (.iload_n 2, 1) := by decide +kernel
theorem d_H_holds_14 : decode b_H_holds 14 = .ok (.iload_n 3, 1) := by decide +kernel
theorem d_H_holds_15 : decode b_H_holds 15 = .ok (.invokestatic 72, 3) := by decide +kernel
theorem d_H_holds_18 : decode b_H_holds 18 = .ok (.iand, 1) := by decide +kernel
theorem d_H_holds_19 : decode b_H_holds 19 = .ok (.ifCond .eq 7, 3) := by decide +kernel
theorem d_H_holds_22 : decode b_H_holds 22 = .ok (.iconst 1, 1) := by decide +kernel
theorem d_H_holds_23 : decode b_H_holds 23 = .ok (.goto 4, 3) := by decide +kernel
theorem d_H_holds_26 : decode b_H_holds 26 = .ok (.iconst 0, 1) := by decide +kernel
theorem d_H_holds_27 : decode b_H_holds 27 = .ok (.ireturn, 1) := by decide +kernel
theorem d_H_mark_0 : decode b_H_mark 0 = .ok (.iload_n 1, 1) := by decide +kernel
theorem d_H_mark_1 : decode b_H_mark 1 = .ok (.iload_n 2, 1) := by decide +kernel
theorem d_H_mark_2 : decode b_H_mark 2 = .ok (.invokestatic 72, 3) := by decide +kernel
theorem d_H_mark_5 : decode b_H_mark 5 = .ok (.istore_n 3, 1) := by decide +kernel
theorem d_H_mark_6 : decode b_H_mark 6 = .ok (.aload_n 0, 1) := by decide +kernel
theorem d_H_mark_7 : decode b_H_mark 7 = .ok (.getfield 20, 3) := by decide +kernel
theorem d_H_mark_10 : decode b_H_mark 10 = .ok (.iload_n 3, 1) := by decide +kernel
theorem d_H_mark_11 : decode b_H_mark 11 = .ok (.iand, 1) := by decide +kernel
theorem d_H_mark_12 : decode b_H_mark 12 = .ok (.ifCond .eq 5, 3) := by decide +kernel
theorem d_H_mark_15 : decode b_H_mark 15 = .ok (.iconst 1, 1) := by decide +kernel
theorem d_H_mark_16 : decode b_H_mark 16 = .ok (.ireturn, 1) := by decide +kernel
theorem d_H_mark_17 : decode b_H_mark 17 = .ok (.aload_n 0, 1) := by decide +kernel
theorem d_H_mark_18 : decode b_H_mark 18 = .ok (.getfield 24, 3) := by decide +kernel
theorem d_H_mark_21 : decode b_H_mark 21 = .ok (.iload_n 3, 1) := by decide +kernel
theorem d_H_mark_22 : decode b_H_mark 22 = .ok (.iand, 1) := by decide +kernel
theorem d_H_mark_23 : decode b_H_mark 23 = .ok (.ifCond .eq 7, 3) := by decide +kernel
theorem d_H_mark_26 : decode b_H_mark 26 = .ok (.iconst (-1), 1) := by decide +kernel
theorem d_H_mark_27 : decode b_H_mark 27 = .ok (.goto 4, 3) := by decide +kernel
theorem d_H_mark_30 : decode b_H_mark 30 = .ok (.iconst 0, 1) := by decide +kernel
theorem d_H_mark_31 : decode b_H_mark 31 = .ok (.ireturn, 1) := by decide +kernel
theorem d_H_drop_0 : decode b_H_drop 0 = .ok (.aload_n 0, 1) := by decide +kernel
theorem d_H_drop_1 : decode b_H_drop 1 = .ok (.getfield 30, 3) := by decide +kernel
theorem d_H_drop_4 : decode b_H_drop 4 = .ok (.iload_n 1, 1) := by decide +kernel
theorem d_H_drop_5 : decode b_H_drop 5 = .ok (.invokevirtual 76, 3) := by decide +kernel
theorem d_H_drop_8 : decode b_H_drop 8 = .ok (.ireturn, 1) := by decide +kernel
theorem d_H_clauses_0 : decode b_H_clauses 0 = .ok (.aload_n 0, 1) := by decide +kernel
theorem d_H_clauses_1 : decode b_H_clauses 1 = .ok (.getfield 30, 3) := by decide +kernel
theorem d_H_clauses_4 : decode b_H_clauses 4 = .ok (.getfield 79, 3) := by decide +kernel
theorem d_H_clauses_7 : decode b_H_clauses 7 = .ok (.ireturn, 1) := by decide +kernel
theorem d_H_literals_0 : decode b_H_literals 0 = .ok (.aload_n 0, 1) := by decide +kernel
theorem d_H_literals_1 : decode b_H_literals 1 = .ok (.getfield 30, 3) := by decide +kernel
theorem d_H_literals_4 : decode b_H_literals 4 = .ok (.iload_n 1, 1) := by decide +kernel
theorem d_H_literals_5 : decode b_H_literals 5 = .ok (.invokevirtual 82, 3) := by decide +kernel
theorem d_H_literals_8 : decode b_H_literals 8 = .ok (.istore_n 2, 1) := by decide +kernel
theorem d_H_literals_9 : decode b_H_literals 9 = .ok (.iload_n 2, 1) := by decide +kernel
theorem d_H_literals_10 : decode b_H_literals 10 = .ok (.ifCond .ne 7, 3) := by decide +kernel
theorem d_H_literals_13 : decode b_H_literals 13 = .ok (.iconst (-1), 1) := by decide +kernel
theorem d_H_literals_14 : decode b_H_literals 14 = .ok (.goto 7, 3) := by decide +kernel
theorem d_H_literals_17 : decode b_H_literals 17 = .ok (.iload_n 2, 1) := by decide +kernel
theorem d_H_literals_18 : decode b_H_literals 18 = .ok (.invokestatic 66, 3) := by decide +kernel
theorem d_H_literals_21 : decode b_H_literals 21 = .ok (.ireturn, 1) := by decide +kernel
theorem d_H_literal_0 : decode b_H_literal 0 = .ok (.aload_n 0, 1) := by decide +kernel
theorem d_H_literal_1 : decode b_H_literal 1 = .ok (.getfield 30, 3) := by decide +kernel
theorem d_H_literal_4 : decode b_H_literal 4 = .ok (.iload_n 1, 1) := by decide +kernel
theorem d_H_literal_5 : decode b_H_literal 5 = .ok (.invokevirtual 82, 3) := by decide +kernel
theorem d_H_literal_8 : decode b_H_literal 8 = .ok (.iload_n 2, 1) := by decide +kernel
theorem d_H_literal_9 : decode b_H_literal 9 = .ok (.invokestatic 85, 3) := by decide +kernel
theorem d_H_literal_12 : decode b_H_literal 12 = .ok (.ireturn, 1) := by decide +kernel
theorem d_H_letter_0 : decode b_H_letter 0 = .ok (.aload_n 0, 1) := by decide +kernel
theorem d_H_letter_1 : decode b_H_letter 1 = .ok (.getfield 30, 3) := by decide +kernel
theorem d_H_letter_4 : decode b_H_letter 4 = .ok (.iload_n 1, 1) := by decide +kernel
theorem d_H_letter_5 : decode b_H_letter 5 = .ok (.invokevirtual 88, 3) := by decide +kernel
theorem d_H_letter_8 : decode b_H_letter 8 = .ok (.ireturn, 1) := by decide +kernel
set_option maxHeartbeats 4000000 in
set_option maxRecDepth 100000 in
theorem c_H_key (l : Launch) (dC : Nat → ClassId) (dI : Nat → Nat → Nat) (h_o h_line h_factSets h_program h_deduction h_line_typed : Nat) (k_line_typed : ClassId) (sz : Nat) (v_markedPlus : Int32) (v_markedMinus : Int32) (v_line_length : Int32) (v_line_typed : Nat → Int32) (x1 : Int32) (r0 : Int32) (u0 : Int32 × (Nat → Int32)) (h : m_H_key v_line_length v_line_typed x1 = some (r0, u0)) : Met l y_H_key w_H_key ({ frames := 1, cells := 0, slots := 0, locals := 21 } : Room) (va_Pc [.ref h_o, .int x1] (fun U => U.heap.size = sz ∧ va_P (dC, dI) classes [(h_o, .inr (3, [.ref h_line, .ref h_factSets, .int v_markedPlus, .int v_markedMinus, .ref h_program, .ref h_deduction])), (h_line, .inr (1, [.ref h_line_typed, .int v_line_length])), (h_line_typed, .inl (k_line_typed, 32, .inl v_line_typed))] U.heap ∧ va_K (dC, dI) classes [(k_line_typed, .char)] U ∧ va_D (fun _ => True) [(h_o, .inr (3, [.ref h_line, .ref h_factSets, .int v_markedPlus, .int v_markedMinus, .ref h_program, .ref h_deduction])), (h_line, .inr (1, [.ref h_line_typed, .int v_line_length])), (h_line_typed, .inl (k_line_typed, 32, .inl v_line_typed))])) (va_Qi (fun (r : Int32) (u : Int32 × (Nat → Int32)) => r = r0 ∧ u = u0) (fun (u : Int32 × (Nat → Int32)) (t : State) => va_P (dC, dI) classes [(h_o, .inr (3, [.ref h_line, .ref h_factSets, .int v_markedPlus, .int v_markedMinus, .ref h_program, .ref h_deduction])), (h_line, .inr (1, [.ref h_line_typed, .int u.1])), (h_line_typed, .inl (k_line_typed, 32, .inl u.2))] t.heap ∧ va_K (dC, dI) classes [(k_line_typed, .char)] t ∧ va_D (va_A [(h_o, .inr (3, [.ref h_line, .ref h_factSets, .int v_markedPlus, .int v_markedMinus, .ref h_program, .ref h_deduction])), (h_line, .inr (1, [.ref h_line_typed, .int v_line_length])), (h_line_typed, .inl (k_line_typed, 32, .inl v_line_typed))] sz) [(h_o, .inr (3, [.ref h_line, .ref h_factSets, .int v_markedPlus, .int v_markedMinus, .ref h_program, .ref h_deduction])), (h_line, .inr (1, [.ref h_line_typed, .int u.1])), (h_line_typed, .inl (k_line_typed, 32, .inl u.2))]) (va_A [(h_o, .inr (3, [.ref h_line, .ref h_factSets, .int v_markedPlus, .int v_markedMinus, .ref h_program, .ref h_deduction])), (h_line, .inr (1, [.ref h_line_typed, .int v_line_length])), (h_line_typed, .inl (k_line_typed, 32, .inl v_line_typed))] sz)) 0 0 (va_A [(h_o, .inr (3, [.ref h_line, .ref h_factSets, .int v_markedPlus, .int v_markedMinus, .ref h_program, .ref h_deduction])), (h_line, .inr (1, [.ref h_line_typed, .int v_line_length])), (h_line_typed, .inl (k_line_typed, 32, .inl v_line_typed))] sz) := by
  refine Met.ofW (cc := b_H_key) (maxL := 2) (ret := (some .boolean)) (by decide) rfl ?_
  intro p e s m args below meth c s₁ B hml hv
  obtain ⟨rfl, hsz, hP, hK, hD0⟩ := hv
  have hx := B.exec
  have hb := B.bytes
  have hr := B.returns
  have hts0 := atoms_spec (ws := w_H_key) B.pre
  have hts : ∀ w ∈ lw_gd, w.before ([.ref h_o, .int x1] : List Value).toArray s = true := fun w h9 => hts0 w (List.mem_cons_of_mem _ h9)
  have hown : s.vm.findClass R_H = some m.cls := findClass_of_methodNamed B.named
  have hlocks := B.notSynchronized
  subst hsz
  have hD := hD0.self (sz := s.heap.size)
  generalize hAe : va_A [(h_o, .inr (3, [.ref h_line, .ref h_factSets, .int v_markedPlus, .int v_markedMinus, .ref h_program, .ref h_deduction])), (h_line, .inr (1, [.ref h_line_typed, .int v_line_length])), (h_line_typed, .inl (k_line_typed, 32, .inl v_line_typed))] s.heap.size = A at hD ⊢
  have hA : ∀ q : Nat, s.heap.size ≤ q → A q := fun q h9 => by rw [← hAe]; exact Or.inr h9
  obtain ⟨H, eH⟩ : ∃ H : Heap, H = s.heap := ⟨_, rfl⟩
  have hS : va_S A s.heap H [] := by rw [eH]; exact va_S.rf
  have hP : va_P (dC, dI) classes [(h_o, .inr (3, [.ref h_line, .ref h_factSets, .int v_markedPlus, .int v_markedMinus, .ref h_program, .ref h_deduction])), (h_line, .inr (1, [.ref h_line_typed, .int v_line_length])), (h_line_typed, .inl (k_line_typed, 32, .inl v_line_typed))] H := by rw [eH]; exact hP
  refine W_gen (fun Q hQ => ?_)
  refine W_heap eH ?_
  clear eH
  have hl := lv_entry ([.ref h_o, .int x1]) (n := 2) (Nat.le_of_ble_eq_true rfl)
  rw [lg_entry_eq]
  generalize (lg_sl ([.ref h_o, .int x1]) ++ List.replicate (2 - (lg_sl ([.ref h_o, .int x1])).length) Slot.unset).toArray = ls at hl ⊢
  have hl : lv_has ls 2 [(0, .ref h_o), (1, .int x1)] := hl
  unfold m_H_key at h
  refine lv_aload_n hx hb d_H_key_0 rfl (lv_at hl 0 rfl) ?_
  refine va_get (D := (dC, dI)) (ci := 3) (v := .ref h_line) (C := R_H) (T := F_H) (N := 6) hx hb hts lay_H hown hK hP 0 rfl rfl 0 (by decide) (hts _ flk_H_12) (fun _ h9 => h9) rfl d_H_key_1 ?_
  refine lv_iload_n hx hb d_H_key_4 rfl (lv_at hl 1 rfl) ?_
  have hPc := hP.sub (ws' := [(h_line, .inr (1, [.ref h_line_typed, .int v_line_length])), (h_line_typed, .inl (k_line_typed, 32, .inl v_line_typed))]) [1, 2] rfl
  have hDc := hD.sub (ws' := [(h_line, .inr (1, [.ref h_line_typed, .int v_line_length])), (h_line_typed, .inl (k_line_typed, 32, .inl v_line_typed))]) [1, 2] (by decide) rfl
  have hKc := hK.sub (tys' := [(k_line_typed, .char)]) [0] rfl
  have hFc := va_free (wc := [(h_line, .inr (1, [.ref h_line_typed, .int v_line_length])), (h_line_typed, .inl (k_line_typed, 32, .inl v_line_typed))]) hD hS hA [1, 2] rfl
  obtain ⟨v_5, hc_5, h⟩ := of_bind h
  refine va_calli (va_runV (As := [.int x1]) (rest := []) ⟨hx, hb, hml, hown, hts⟩ (c_L_add l dC dI h_line h_line_typed k_line_typed H.size v_line_length v_line_typed x1 v_5.1 v_5.2 hc_5) (cwV 1 hts (gV mlk_H_41 ins_L_add sel_L_add ini_L cod_L_add) rfl rfl rfl (by decide +kernel) ⟨Nat.le_of_ble_eq_true rfl, Nat.le_of_ble_eq_true rfl⟩) ⟨fun a U g mk q => by obtain ⟨q0, q1, qP, qK, qD⟩ := q; exact ⟨q0, q1, qP, va_K.moved (u := U) (U := U.calling g mk a) (Vm.Alike.refl U.vm) qK, qD⟩, va_recv hKc hPc (ci := 1) (q0 := 0) rfl rfl, fun U hU hW => ⟨rfl, by rw [hU], by rw [hU]; exact hPc, va_K.moved hW.alike hKc, hDc.weaken (fun _ _ _ _ => trivial)⟩⟩ rfl rfl hl.1 rfl (lv_room (Nat.le_of_ble_eq_true rfl)) d_H_key_5 ⟨Nat.le_of_ble_eq_true rfl, Nat.le_of_ble_eq_true rfl⟩) hS (fun q _ h9 => hFc q h9) hFc (fun r_5 u t H1 locs ht hvm hw hB hz1 hk1 hS => ?_)
  obtain ⟨rfl, rfl⟩ := hw
  obtain ⟨hP1, hK1, hD1⟩ := hB
  rw [ht] at hP1
  obtain ⟨hP, hD⟩ := va_join (wr := [(h_o, .inr (3, [.ref h_line, .ref h_factSets, .int v_markedPlus, .int v_markedMinus, .ref h_program, .ref h_deduction]))]) (w1 := [(h_line, .inr (1, [.ref h_line_typed, .int v_5.2.1])), (h_line_typed, .inl (k_line_typed, 32, .inl v_5.2.2))]) hP hD [1, 2] [0] rfl rfl (by decide) (by decide) hk1 hFc hP1 hD1
  have hP := hP.sub (ws' := [(h_o, .inr (3, [.ref h_line, .ref h_factSets, .int v_markedPlus, .int v_markedMinus, .ref h_program, .ref h_deduction])), (h_line, .inr (1, [.ref h_line_typed, .int v_5.2.1])), (h_line_typed, .inl (k_line_typed, 32, .inl v_5.2.2))]) [0, 1, 2] rfl
  have hD := hD.sub (ws' := [(h_o, .inr (3, [.ref h_line, .ref h_factSets, .int v_markedPlus, .int v_markedMinus, .ref h_program, .ref h_deduction])), (h_line, .inr (1, [.ref h_line_typed, .int v_5.2.1])), (h_line_typed, .inl (k_line_typed, 32, .inl v_5.2.2))]) [0, 1, 2] (by decide) rfl
  generalize H1 = H at hP hS ⊢
  obtain ⟨g_8, h⟩ := of_guard h
  rw [hQ]
  exact W.zret (v := v_5.1) hx hb hr (nrz g_8) (fun t ht hW => ⟨⟨v_5.1, (v_5.2.1, v_5.2.2), rfl, Prod.mk.inj (Option.some.inj h), by rw [ht]; exact hP, va_K.moved hW.alike hK, hD⟩, hS.F ht⟩) hS.2.2 d_H_key_8
set_option maxHeartbeats 4000000 in
set_option maxRecDepth 100000 in
theorem c_H_back (l : Launch) (dC : Nat → ClassId) (dI : Nat → Nat → Nat) (h_o h_line h_factSets h_program h_deduction h_line_typed : Nat) (sz : Nat) (v_markedPlus : Int32) (v_markedMinus : Int32) (v_line_length : Int32) (r0 : Int32) (u0 : Int32) (h : m_H_back v_line_length = some (r0, u0)) : Met l y_H_back w_H_back ({ frames := 1, cells := 0, slots := 0, locals := 20 } : Room) (va_Pc [.ref h_o] (fun U => U.heap.size = sz ∧ va_P (dC, dI) classes [(h_o, .inr (3, [.ref h_line, .ref h_factSets, .int v_markedPlus, .int v_markedMinus, .ref h_program, .ref h_deduction])), (h_line, .inr (1, [.ref h_line_typed, .int v_line_length]))] U.heap ∧ va_K (dC, dI) classes [] U ∧ va_D (fun _ => True) [(h_o, .inr (3, [.ref h_line, .ref h_factSets, .int v_markedPlus, .int v_markedMinus, .ref h_program, .ref h_deduction])), (h_line, .inr (1, [.ref h_line_typed, .int v_line_length]))])) (va_Qi (fun (r : Int32) (u : Int32) => r = r0 ∧ u = u0) (fun (u : Int32) (t : State) => va_P (dC, dI) classes [(h_o, .inr (3, [.ref h_line, .ref h_factSets, .int v_markedPlus, .int v_markedMinus, .ref h_program, .ref h_deduction])), (h_line, .inr (1, [.ref h_line_typed, .int u]))] t.heap ∧ va_K (dC, dI) classes [] t ∧ va_D (va_A [(h_o, .inr (3, [.ref h_line, .ref h_factSets, .int v_markedPlus, .int v_markedMinus, .ref h_program, .ref h_deduction])), (h_line, .inr (1, [.ref h_line_typed, .int v_line_length]))] sz) [(h_o, .inr (3, [.ref h_line, .ref h_factSets, .int v_markedPlus, .int v_markedMinus, .ref h_program, .ref h_deduction])), (h_line, .inr (1, [.ref h_line_typed, .int u]))]) (va_A [(h_o, .inr (3, [.ref h_line, .ref h_factSets, .int v_markedPlus, .int v_markedMinus, .ref h_program, .ref h_deduction])), (h_line, .inr (1, [.ref h_line_typed, .int v_line_length]))] sz)) 0 0 (va_A [(h_o, .inr (3, [.ref h_line, .ref h_factSets, .int v_markedPlus, .int v_markedMinus, .ref h_program, .ref h_deduction])), (h_line, .inr (1, [.ref h_line_typed, .int v_line_length]))] sz) := by
  refine Met.ofW (cc := b_H_back) (maxL := 1) (ret := (some .boolean)) (by decide) rfl ?_
  intro p e s m args below meth c s₁ B hml hv
  obtain ⟨rfl, hsz, hP, hK, hD0⟩ := hv
  have hx := B.exec
  have hb := B.bytes
  have hr := B.returns
  have hts0 := atoms_spec (ws := w_H_back) B.pre
  have hts : ∀ w ∈ lw_gd, w.before ([.ref h_o] : List Value).toArray s = true := fun w h9 => hts0 w (List.mem_cons_of_mem _ h9)
  have hown : s.vm.findClass R_H = some m.cls := findClass_of_methodNamed B.named
  have hlocks := B.notSynchronized
  subst hsz
  have hD := hD0.self (sz := s.heap.size)
  generalize hAe : va_A [(h_o, .inr (3, [.ref h_line, .ref h_factSets, .int v_markedPlus, .int v_markedMinus, .ref h_program, .ref h_deduction])), (h_line, .inr (1, [.ref h_line_typed, .int v_line_length]))] s.heap.size = A at hD ⊢
  have hA : ∀ q : Nat, s.heap.size ≤ q → A q := fun q h9 => by rw [← hAe]; exact Or.inr h9
  obtain ⟨H, eH⟩ : ∃ H : Heap, H = s.heap := ⟨_, rfl⟩
  have hS : va_S A s.heap H [] := by rw [eH]; exact va_S.rf
  have hP : va_P (dC, dI) classes [(h_o, .inr (3, [.ref h_line, .ref h_factSets, .int v_markedPlus, .int v_markedMinus, .ref h_program, .ref h_deduction])), (h_line, .inr (1, [.ref h_line_typed, .int v_line_length]))] H := by rw [eH]; exact hP
  refine W_gen (fun Q hQ => ?_)
  refine W_heap eH ?_
  clear eH
  have hl := lv_entry ([.ref h_o]) (n := 1) (Nat.le_of_ble_eq_true rfl)
  rw [lg_entry_eq]
  generalize (lg_sl ([.ref h_o]) ++ List.replicate (1 - (lg_sl ([.ref h_o])).length) Slot.unset).toArray = ls at hl ⊢
  have hl : lv_has ls 1 [(0, .ref h_o)] := hl
  unfold m_H_back at h
  refine lv_aload_n hx hb d_H_back_0 rfl (lv_at hl 0 rfl) ?_
  refine va_get (D := (dC, dI)) (ci := 3) (v := .ref h_line) (C := R_H) (T := F_H) (N := 6) hx hb hts lay_H hown hK hP 0 rfl rfl 0 (by decide) (hts _ flk_H_12) (fun _ h9 => h9) rfl d_H_back_1 ?_
  have hPc := hP.sub (ws' := [(h_line, .inr (1, [.ref h_line_typed, .int v_line_length]))]) [1] rfl
  have hDc := hD.sub (ws' := [(h_line, .inr (1, [.ref h_line_typed, .int v_line_length]))]) [1] (by decide) rfl
  have hKc := hK.sub (tys' := []) [] rfl
  have hFc := va_free (wc := [(h_line, .inr (1, [.ref h_line_typed, .int v_line_length]))]) hD hS hA [1] rfl
  obtain ⟨v_4, hc_4, h⟩ := of_bind h
  refine va_calli (va_runV (As := []) (rest := []) ⟨hx, hb, hml, hown, hts⟩ (c_L_removeLast l dC dI h_line h_line_typed H.size v_line_length v_4.1 v_4.2 hc_4) (cwV 0 hts (gV mlk_H_45 ins_L_removeLast sel_L_removeLast ini_L cod_L_removeLast) rfl rfl rfl (by decide +kernel) ⟨Nat.le_of_ble_eq_true rfl, Nat.le_of_ble_eq_true rfl⟩) ⟨fun a U g mk q => by obtain ⟨q0, q1, qP, qK, qD⟩ := q; exact ⟨q0, q1, qP, va_K.moved (u := U) (U := U.calling g mk a) (Vm.Alike.refl U.vm) qK, qD⟩, va_recv hKc hPc (ci := 1) (q0 := 0) rfl rfl, fun U hU hW => ⟨rfl, by rw [hU], by rw [hU]; exact hPc, va_K.moved hW.alike hKc, hDc.weaken (fun _ _ _ _ => trivial)⟩⟩ rfl rfl hl.1 rfl (lv_room (Nat.le_of_ble_eq_true rfl)) d_H_back_4 ⟨Nat.le_of_ble_eq_true rfl, Nat.le_of_ble_eq_true rfl⟩) hS (fun q _ h9 => hFc q h9) hFc (fun r_4 u t H1 locs ht hvm hw hB hz1 hk1 hS => ?_)
  obtain ⟨rfl, rfl⟩ := hw
  obtain ⟨hP1, hK1, hD1⟩ := hB
  rw [ht] at hP1
  obtain ⟨hP, hD⟩ := va_join (wr := [(h_o, .inr (3, [.ref h_line, .ref h_factSets, .int v_markedPlus, .int v_markedMinus, .ref h_program, .ref h_deduction]))]) (w1 := [(h_line, .inr (1, [.ref h_line_typed, .int v_4.2]))]) hP hD [1] [0] rfl rfl (by decide) (by decide) hk1 hFc hP1 hD1
  have hP := hP.sub (ws' := [(h_o, .inr (3, [.ref h_line, .ref h_factSets, .int v_markedPlus, .int v_markedMinus, .ref h_program, .ref h_deduction])), (h_line, .inr (1, [.ref h_line_typed, .int v_4.2]))]) [0, 1] rfl
  have hD := hD.sub (ws' := [(h_o, .inr (3, [.ref h_line, .ref h_factSets, .int v_markedPlus, .int v_markedMinus, .ref h_program, .ref h_deduction])), (h_line, .inr (1, [.ref h_line_typed, .int v_4.2]))]) [0, 1] (by decide) rfl
  generalize H1 = H at hP hS ⊢
  obtain ⟨g_7, h⟩ := of_guard h
  rw [hQ]
  exact W.zret (v := v_4.1) hx hb hr (nrz g_7) (fun t ht hW => ⟨⟨v_4.1, v_4.2, rfl, Prod.mk.inj (Option.some.inj h), by rw [ht]; exact hP, va_K.moved hW.alike hK, hD⟩, hS.F ht⟩) hS.2.2 d_H_back_7
set_option maxHeartbeats 4000000 in
set_option maxRecDepth 100000 in
theorem c_H_facts (l : Launch) (dC : Nat → ClassId) (dI : Nat → Nat → Nat) (h_o h_line h_factSets h_program h_deduction : Nat) (k_factSets : ClassId) (sz : Nat) (v_markedPlus : Int32) (v_markedMinus : Int32) (v_factSets : Nat → Int32) (x1 : Int32) (r0 : Int32) (u0 : Unit) (h : m_H_facts v_factSets x1 = some (r0, u0)) : Met l y_H_facts w_H_facts ({ frames := 1, cells := 0, slots := 0, locals := 20 } : Room) (va_Pc [.ref h_o, .int x1] (fun U => U.heap.size = sz ∧ va_P (dC, dI) classes [(h_o, .inr (3, [.ref h_line, .ref h_factSets, .int v_markedPlus, .int v_markedMinus, .ref h_program, .ref h_deduction])), (h_factSets, .inl (k_factSets, 2, .inl v_factSets))] U.heap ∧ va_K (dC, dI) classes [(k_factSets, .int)] U ∧ va_D (fun _ => True) [(h_o, .inr (3, [.ref h_line, .ref h_factSets, .int v_markedPlus, .int v_markedMinus, .ref h_program, .ref h_deduction])), (h_factSets, .inl (k_factSets, 2, .inl v_factSets))])) (va_Qi (fun (r : Int32) (u : Unit) => r = r0 ∧ u = u0) (fun (u : Unit) (t : State) => va_P (dC, dI) classes [(h_o, .inr (3, [.ref h_line, .ref h_factSets, .int v_markedPlus, .int v_markedMinus, .ref h_program, .ref h_deduction])), (h_factSets, .inl (k_factSets, 2, .inl v_factSets))] t.heap ∧ va_K (dC, dI) classes [(k_factSets, .int)] t ∧ va_D (va_A [(h_o, .inr (3, [.ref h_line, .ref h_factSets, .int v_markedPlus, .int v_markedMinus, .ref h_program, .ref h_deduction])), (h_factSets, .inl (k_factSets, 2, .inl v_factSets))] sz) [(h_o, .inr (3, [.ref h_line, .ref h_factSets, .int v_markedPlus, .int v_markedMinus, .ref h_program, .ref h_deduction])), (h_factSets, .inl (k_factSets, 2, .inl v_factSets))]) (va_A [(h_o, .inr (3, [.ref h_line, .ref h_factSets, .int v_markedPlus, .int v_markedMinus, .ref h_program, .ref h_deduction])), (h_factSets, .inl (k_factSets, 2, .inl v_factSets))] sz)) 0 0 (va_A [(h_o, .inr (3, [.ref h_line, .ref h_factSets, .int v_markedPlus, .int v_markedMinus, .ref h_program, .ref h_deduction])), (h_factSets, .inl (k_factSets, 2, .inl v_factSets))] sz) := by
  refine Met.ofW (cc := b_H_facts) (maxL := 2) (ret := (some .int)) (by decide) rfl ?_
  intro p e s m args below meth c s₁ B hml hv
  obtain ⟨rfl, hsz, hP, hK, hD0⟩ := hv
  have hx := B.exec
  have hb := B.bytes
  have hr := B.returns
  have hts0 := atoms_spec (ws := w_H_facts) B.pre
  have hts : ∀ w ∈ lw_gd, w.before ([.ref h_o, .int x1] : List Value).toArray s = true := fun w h9 => hts0 w (List.mem_cons_of_mem _ h9)
  have hown : s.vm.findClass R_H = some m.cls := findClass_of_methodNamed B.named
  have hlocks := B.notSynchronized
  subst hsz
  have hD := hD0.self (sz := s.heap.size)
  generalize hAe : va_A [(h_o, .inr (3, [.ref h_line, .ref h_factSets, .int v_markedPlus, .int v_markedMinus, .ref h_program, .ref h_deduction])), (h_factSets, .inl (k_factSets, 2, .inl v_factSets))] s.heap.size = A at hD ⊢
  have hA : ∀ q : Nat, s.heap.size ≤ q → A q := fun q h9 => by rw [← hAe]; exact Or.inr h9
  obtain ⟨H, eH⟩ : ∃ H : Heap, H = s.heap := ⟨_, rfl⟩
  have hS : va_S A s.heap H [] := by rw [eH]; exact va_S.rf
  have hP : va_P (dC, dI) classes [(h_o, .inr (3, [.ref h_line, .ref h_factSets, .int v_markedPlus, .int v_markedMinus, .ref h_program, .ref h_deduction])), (h_factSets, .inl (k_factSets, 2, .inl v_factSets))] H := by rw [eH]; exact hP
  refine W_gen (fun Q hQ => ?_)
  refine W_heap eH ?_
  clear eH
  have hl := lv_entry ([.ref h_o, .int x1]) (n := 2) (Nat.le_of_ble_eq_true rfl)
  rw [lg_entry_eq]
  generalize (lg_sl ([.ref h_o, .int x1]) ++ List.replicate (2 - (lg_sl ([.ref h_o, .int x1])).length) Slot.unset).toArray = ls at hl ⊢
  have hl : lv_has ls 2 [(0, .ref h_o), (1, .int x1)] := hl
  unfold m_H_facts at h
  refine lv_iload_n hx hb d_H_facts_0 rfl (lv_at hl 1 rfl) ?_
  have hPc := hP.sub (ws' := []) [] rfl
  have hDc := hD.sub (ws' := []) [] (by decide) rfl
  have hKc := hK.sub (tys' := []) [] rfl
  have hFc := va_free (wc := []) hD hS hA [] rfl
  obtain ⟨v_1, hc_1, h⟩ := of_bind h
  refine va_calli (va_runS (As := [.int x1]) (rest := []) ⟨hx, hb, hml, hown, hts⟩ (c_H_isFactRelation l dC dI H.size x1 v_1.1 v_1.2 hc_1) (va_cwS 1 hts (gS mlk_H_63 sta_H_isFactRelation ini_H cod_H_isFactRelation) rfl rfl rfl (by decide +kernel) ⟨Nat.le_of_ble_eq_true rfl, Nat.le_of_ble_eq_true rfl⟩) ⟨fun a U g mk q => by obtain ⟨q0, q1, qP, qK, qD⟩ := q; exact ⟨q0, q1, qP, va_K.moved (u := U) (U := U.calling g mk a) (Vm.Alike.refl U.vm) qK, qD⟩, fun U hU hW => ⟨rfl, by rw [hU], by rw [hU]; exact hPc, va_K.moved hW.alike hKc, hDc.weaken (fun _ _ _ _ => trivial)⟩⟩ rfl rfl hl.1 rfl (lv_room (Nat.le_of_ble_eq_true rfl)) d_H_facts_1 ⟨Nat.le_of_ble_eq_true rfl, Nat.le_of_ble_eq_true rfl⟩) hS (fun q _ h9 => hFc q h9) hFc (fun r_1 u t H1 locs ht hvm hw hB hz1 hk1 hS => ?_)
  obtain ⟨rfl, rfl⟩ := hw
  obtain ⟨hP1, hK1, hD1⟩ := hB
  rw [ht] at hP1
  obtain ⟨hP, hD⟩ := va_join (wr := [(h_o, .inr (3, [.ref h_line, .ref h_factSets, .int v_markedPlus, .int v_markedMinus, .ref h_program, .ref h_deduction])), (h_factSets, .inl (k_factSets, 2, .inl v_factSets))]) (w1 := []) hP hD [] [0, 1] rfl rfl (by decide) (by decide) hk1 hFc hP1 hD1
  have hP := hP.sub (ws' := [(h_o, .inr (3, [.ref h_line, .ref h_factSets, .int v_markedPlus, .int v_markedMinus, .ref h_program, .ref h_deduction])), (h_factSets, .inl (k_factSets, 2, .inl v_factSets))]) [0, 1] rfl
  have hD := hD.sub (ws' := [(h_o, .inr (3, [.ref h_line, .ref h_factSets, .int v_markedPlus, .int v_markedMinus, .ref h_program, .ref h_deduction])), (h_factSets, .inl (k_factSets, 2, .inl v_factSets))]) [0, 1] (by decide) rfl
  generalize H1 = H at hP hS ⊢
  refine lv_if_eq (tgt := 19) hx hb d_H_facts_4 (by decide) (fun c_4 => ?_) (fun c_4 => ?_)
  · have h := of_pos h c_4
    refine lv_iconst (v := (-1 : Int32)) hx hb d_H_facts_19 (by decide) ?_
    rw [hQ]
    exact W.iret (v := (-1 : Int32)) hx hb hr (fun t ht hW => ⟨⟨(-1 : Int32), (), rfl, Prod.mk.inj (Option.some.inj h), by rw [ht]; exact hP, va_K.moved hW.alike hK, hD⟩, hS.F ht⟩) hS.2.2 d_H_facts_20
  · have h := of_neg h c_4
    refine lv_aload_n hx hb d_H_facts_7 rfl (lv_at hl 0 rfl) ?_
    refine va_get (D := (dC, dI)) (ci := 3) (v := .ref h_factSets) (C := R_H) (T := F_H) (N := 6) hx hb hts lay_H hown hK hP 0 rfl rfl 1 (by decide) (hts _ flk_H_16) (fun _ h9 => h9) rfl d_H_facts_8 ?_
    refine lv_iload_n hx hb d_H_facts_11 rfl (lv_at hl 1 rfl) ?_
    obtain ⟨g_12, h⟩ := of_guard h
    refine va_iald hx hb hK hP 1 0 rfl rfl (inR_in g_12) d_H_facts_12 ?_
    have hPc := hP.sub (ws' := []) [] rfl
    have hDc := hD.sub (ws' := []) [] (by decide) rfl
    have hKc := hK.sub (tys' := []) [] rfl
    have hFc := va_free (wc := []) hD hS hA [] rfl
    obtain ⟨v_13, hc_13, h⟩ := of_bind h
    refine va_calli (va_runS (As := [.int (v_factSets x1.toNatClampNeg)]) (rest := []) ⟨hx, hb, hml, hown, hts⟩ (c_I_bitCount l dC dI H.size (v_factSets x1.toNatClampNeg) v_13.1 v_13.2 hc_13) (va_cwS 1 hts (gS mlk_H_66 sta_I_bitCount ini_I cod_I_bitCount) rfl rfl rfl (by decide +kernel) ⟨Nat.le_of_ble_eq_true rfl, Nat.le_of_ble_eq_true rfl⟩) ⟨fun a U g mk q => by obtain ⟨q0, q1, qP, qK, qD⟩ := q; exact ⟨q0, q1, qP, va_K.moved (u := U) (U := U.calling g mk a) (Vm.Alike.refl U.vm) qK, qD⟩, fun U hU hW => ⟨rfl, by rw [hU], by rw [hU]; exact hPc, va_K.moved hW.alike hKc, hDc.weaken (fun _ _ _ _ => trivial)⟩⟩ rfl rfl hl.1 rfl (lv_room (Nat.le_of_ble_eq_true rfl)) d_H_facts_13 ⟨Nat.le_of_ble_eq_true rfl, Nat.le_of_ble_eq_true rfl⟩) hS (fun q _ h9 => hFc q h9) hFc (fun r_13 u t H1 locs ht hvm hw hB hz1 hk1 hS => ?_)
    obtain ⟨rfl, rfl⟩ := hw
    obtain ⟨hP1, hK1, hD1⟩ := hB
    rw [ht] at hP1
    obtain ⟨hP, hD⟩ := va_join (wr := [(h_o, .inr (3, [.ref h_line, .ref h_factSets, .int v_markedPlus, .int v_markedMinus, .ref h_program, .ref h_deduction])), (h_factSets, .inl (k_factSets, 2, .inl v_factSets))]) (w1 := []) hP hD [] [0, 1] rfl rfl (by decide) (by decide) hk1 hFc hP1 hD1
    have hP := hP.sub (ws' := [(h_o, .inr (3, [.ref h_line, .ref h_factSets, .int v_markedPlus, .int v_markedMinus, .ref h_program, .ref h_deduction])), (h_factSets, .inl (k_factSets, 2, .inl v_factSets))]) [0, 1] rfl
    have hD := hD.sub (ws' := [(h_o, .inr (3, [.ref h_line, .ref h_factSets, .int v_markedPlus, .int v_markedMinus, .ref h_program, .ref h_deduction])), (h_factSets, .inl (k_factSets, 2, .inl v_factSets))]) [0, 1] (by decide) rfl
    generalize H1 = H at hP hS ⊢
    refine lv_goto (tgt := 20) hx hb d_H_facts_16 (by decide) ?_
    rw [hQ]
    exact W.iret (v := v_13.1) hx hb hr (fun t ht hW => ⟨⟨v_13.1, (), rfl, Prod.mk.inj (Option.some.inj h), by rw [ht]; exact hP, va_K.moved hW.alike hK, hD⟩, hS.F ht⟩) hS.2.2 d_H_facts_20
set_option maxHeartbeats 4000000 in
set_option maxRecDepth 100000 in
theorem c_H_holds (l : Launch) (dC : Nat → ClassId) (dI : Nat → Nat → Nat) (h_o h_line h_factSets h_program h_deduction : Nat) (k_factSets : ClassId) (sz : Nat) (v_markedPlus : Int32) (v_markedMinus : Int32) (v_factSets : Nat → Int32) (x1 : Int32) (x2 : Int32) (x3 : Int32) (r0 : Int32) (u0 : Unit) (h : m_H_holds v_factSets x1 x2 x3 = some (r0, u0)) : Met l y_H_holds w_H_holds ({ frames := 1, cells := 0, slots := 0, locals := 22 } : Room) (va_Pc [.ref h_o, .int x1, .int x2, .int x3] (fun U => U.heap.size = sz ∧ va_P (dC, dI) classes [(h_o, .inr (3, [.ref h_line, .ref h_factSets, .int v_markedPlus, .int v_markedMinus, .ref h_program, .ref h_deduction])), (h_factSets, .inl (k_factSets, 2, .inl v_factSets))] U.heap ∧ va_K (dC, dI) classes [(k_factSets, .int)] U ∧ va_D (fun _ => True) [(h_o, .inr (3, [.ref h_line, .ref h_factSets, .int v_markedPlus, .int v_markedMinus, .ref h_program, .ref h_deduction])), (h_factSets, .inl (k_factSets, 2, .inl v_factSets))])) (va_Qi (fun (r : Int32) (u : Unit) => r = r0 ∧ u = u0) (fun (u : Unit) (t : State) => va_P (dC, dI) classes [(h_o, .inr (3, [.ref h_line, .ref h_factSets, .int v_markedPlus, .int v_markedMinus, .ref h_program, .ref h_deduction])), (h_factSets, .inl (k_factSets, 2, .inl v_factSets))] t.heap ∧ va_K (dC, dI) classes [(k_factSets, .int)] t ∧ va_D (va_A [(h_o, .inr (3, [.ref h_line, .ref h_factSets, .int v_markedPlus, .int v_markedMinus, .ref h_program, .ref h_deduction])), (h_factSets, .inl (k_factSets, 2, .inl v_factSets))] sz) [(h_o, .inr (3, [.ref h_line, .ref h_factSets, .int v_markedPlus, .int v_markedMinus, .ref h_program, .ref h_deduction])), (h_factSets, .inl (k_factSets, 2, .inl v_factSets))]) (va_A [(h_o, .inr (3, [.ref h_line, .ref h_factSets, .int v_markedPlus, .int v_markedMinus, .ref h_program, .ref h_deduction])), (h_factSets, .inl (k_factSets, 2, .inl v_factSets))] sz)) 0 0 (va_A [(h_o, .inr (3, [.ref h_line, .ref h_factSets, .int v_markedPlus, .int v_markedMinus, .ref h_program, .ref h_deduction])), (h_factSets, .inl (k_factSets, 2, .inl v_factSets))] sz) := by
  refine Met.ofW (cc := b_H_holds) (maxL := 4) (ret := (some .boolean)) (by decide) rfl ?_
  intro p e s m args below meth c s₁ B hml hv
  obtain ⟨rfl, hsz, hP, hK, hD0⟩ := hv
  have hx := B.exec
  have hb := B.bytes
  have hr := B.returns
  have hts0 := atoms_spec (ws := w_H_holds) B.pre
  have hts : ∀ w ∈ lw_gd, w.before ([.ref h_o, .int x1, .int x2, .int x3] : List Value).toArray s = true := fun w h9 => hts0 w (List.mem_cons_of_mem _ h9)
  have hown : s.vm.findClass R_H = some m.cls := findClass_of_methodNamed B.named
  have hlocks := B.notSynchronized
  subst hsz
  have hD := hD0.self (sz := s.heap.size)
  generalize hAe : va_A [(h_o, .inr (3, [.ref h_line, .ref h_factSets, .int v_markedPlus, .int v_markedMinus, .ref h_program, .ref h_deduction])), (h_factSets, .inl (k_factSets, 2, .inl v_factSets))] s.heap.size = A at hD ⊢
  have hA : ∀ q : Nat, s.heap.size ≤ q → A q := fun q h9 => by rw [← hAe]; exact Or.inr h9
  obtain ⟨H, eH⟩ : ∃ H : Heap, H = s.heap := ⟨_, rfl⟩
  have hS : va_S A s.heap H [] := by rw [eH]; exact va_S.rf
  have hP : va_P (dC, dI) classes [(h_o, .inr (3, [.ref h_line, .ref h_factSets, .int v_markedPlus, .int v_markedMinus, .ref h_program, .ref h_deduction])), (h_factSets, .inl (k_factSets, 2, .inl v_factSets))] H := by rw [eH]; exact hP
  refine W_gen (fun Q hQ => ?_)
  refine W_heap eH ?_
  clear eH
  have hl := lv_entry ([.ref h_o, .int x1, .int x2, .int x3]) (n := 4) (Nat.le_of_ble_eq_true rfl)
  rw [lg_entry_eq]
  generalize (lg_sl ([.ref h_o, .int x1, .int x2, .int x3]) ++ List.replicate (4 - (lg_sl ([.ref h_o, .int x1, .int x2, .int x3])).length) Slot.unset).toArray = ls at hl ⊢
  have hl : lv_has ls 4 [(0, .ref h_o), (1, .int x1), (2, .int x2), (3, .int x3)] := hl
  unfold m_H_holds at h
  refine lv_iload_n hx hb d_H_holds_0 rfl (lv_at hl 1 rfl) ?_
  have hPc := hP.sub (ws' := []) [] rfl
  have hDc := hD.sub (ws' := []) [] (by decide) rfl
  have hKc := hK.sub (tys' := []) [] rfl
  have hFc := va_free (wc := []) hD hS hA [] rfl
  obtain ⟨v_1, hc_1, h⟩ := of_bind h
  refine va_calli (va_runS (As := [.int x1]) (rest := []) ⟨hx, hb, hml, hown, hts⟩ (c_H_isFactRelation l dC dI H.size x1 v_1.1 v_1.2 hc_1) (va_cwS 1 hts (gS mlk_H_63 sta_H_isFactRelation ini_H cod_H_isFactRelation) rfl rfl rfl (by decide +kernel) ⟨Nat.le_of_ble_eq_true rfl, Nat.le_of_ble_eq_true rfl⟩) ⟨fun a U g mk q => by obtain ⟨q0, q1, qP, qK, qD⟩ := q; exact ⟨q0, q1, qP, va_K.moved (u := U) (U := U.calling g mk a) (Vm.Alike.refl U.vm) qK, qD⟩, fun U hU hW => ⟨rfl, by rw [hU], by rw [hU]; exact hPc, va_K.moved hW.alike hKc, hDc.weaken (fun _ _ _ _ => trivial)⟩⟩ rfl rfl hl.1 rfl (lv_room (Nat.le_of_ble_eq_true rfl)) d_H_holds_1 ⟨Nat.le_of_ble_eq_true rfl, Nat.le_of_ble_eq_true rfl⟩) hS (fun q _ h9 => hFc q h9) hFc (fun r_1 u t H1 locs ht hvm hw hB hz1 hk1 hS => ?_)
  obtain ⟨rfl, rfl⟩ := hw
  obtain ⟨hP1, hK1, hD1⟩ := hB
  rw [ht] at hP1
  obtain ⟨hP, hD⟩ := va_join (wr := [(h_o, .inr (3, [.ref h_line, .ref h_factSets, .int v_markedPlus, .int v_markedMinus, .ref h_program, .ref h_deduction])), (h_factSets, .inl (k_factSets, 2, .inl v_factSets))]) (w1 := []) hP hD [] [0, 1] rfl rfl (by decide) (by decide) hk1 hFc hP1 hD1
  have hP := hP.sub (ws' := [(h_o, .inr (3, [.ref h_line, .ref h_factSets, .int v_markedPlus, .int v_markedMinus, .ref h_program, .ref h_deduction])), (h_factSets, .inl (k_factSets, 2, .inl v_factSets))]) [0, 1] rfl
  have hD := hD.sub (ws' := [(h_o, .inr (3, [.ref h_line, .ref h_factSets, .int v_markedPlus, .int v_markedMinus, .ref h_program, .ref h_deduction])), (h_factSets, .inl (k_factSets, 2, .inl v_factSets))]) [0, 1] (by decide) rfl
  generalize H1 = H at hP hS ⊢
  refine lv_if_eq (tgt := 26) hx hb d_H_holds_4 (by decide) (fun c_4 => ?_) (fun c_4 => ?_)
  · have h := of_pos h c_4
    refine lv_iconst (v := (nI 0)) hx hb d_H_holds_26 (by decide) ?_
    rw [hQ]
    exact W.zret (v := (nI 0)) hx hb hr rfl (fun t ht hW => ⟨⟨(nI 0), (), rfl, Prod.mk.inj (Option.some.inj h), by rw [ht]; exact hP, va_K.moved hW.alike hK, hD⟩, hS.F ht⟩) hS.2.2 d_H_holds_27
  · have h := of_neg h c_4
    refine lv_aload_n hx hb d_H_holds_7 rfl (lv_at hl 0 rfl) ?_
    refine va_get (D := (dC, dI)) (ci := 3) (v := .ref h_factSets) (C := R_H) (T := F_H) (N := 6) hx hb hts lay_H hown hK hP 0 rfl rfl 1 (by decide) (hts _ flk_H_16) (fun _ h9 => h9) rfl d_H_holds_8 ?_
    refine lv_iload_n hx hb d_H_holds_11 rfl (lv_at hl 1 rfl) ?_
    obtain ⟨g_12, h⟩ := of_guard h
    refine va_iald hx hb hK hP 1 0 rfl rfl (inR_in g_12) d_H_holds_12 ?_
    refine lv_iload_n hx hb d_H_holds_13 rfl (lv_at hl 2 rfl) ?_
    refine lv_iload_n hx hb d_H_holds_14 rfl (lv_at hl 3 rfl) ?_
    have hPc := hP.sub (ws' := []) [] rfl
    have hDc := hD.sub (ws' := []) [] (by decide) rfl
    have hKc := hK.sub (tys' := []) [] rfl
    have hFc := va_free (wc := []) hD hS hA [] rfl
    obtain ⟨v_15, hc_15, h⟩ := of_bind h
    refine va_calli (va_runS (As := [.int x2, .int x3]) (rest := [.int (v_factSets x1.toNatClampNeg)]) ⟨hx, hb, hml, hown, hts⟩ (c_H_pairBit l dC dI H.size x2 x3 v_15.1 v_15.2 hc_15) (va_cwS 2 hts (gS mlk_H_72 sta_H_pairBit ini_H cod_H_pairBit) rfl rfl rfl (by decide +kernel) ⟨Nat.le_of_ble_eq_true rfl, Nat.le_of_ble_eq_true rfl⟩) ⟨fun a U g mk q => by obtain ⟨q0, q1, qP, qK, qD⟩ := q; exact ⟨q0, q1, qP, va_K.moved (u := U) (U := U.calling g mk a) (Vm.Alike.refl U.vm) qK, qD⟩, fun U hU hW => ⟨rfl, by rw [hU], by rw [hU]; exact hPc, va_K.moved hW.alike hKc, hDc.weaken (fun _ _ _ _ => trivial)⟩⟩ rfl rfl hl.1 rfl (lv_room (Nat.le_of_ble_eq_true rfl)) d_H_holds_15 ⟨Nat.le_of_ble_eq_true rfl, Nat.le_of_ble_eq_true rfl⟩) hS (fun q _ h9 => hFc q h9) hFc (fun r_15 u t H1 locs ht hvm hw hB hz1 hk1 hS => ?_)
    obtain ⟨rfl, rfl⟩ := hw
    obtain ⟨hP1, hK1, hD1⟩ := hB
    rw [ht] at hP1
    obtain ⟨hP, hD⟩ := va_join (wr := [(h_o, .inr (3, [.ref h_line, .ref h_factSets, .int v_markedPlus, .int v_markedMinus, .ref h_program, .ref h_deduction])), (h_factSets, .inl (k_factSets, 2, .inl v_factSets))]) (w1 := []) hP hD [] [0, 1] rfl rfl (by decide) (by decide) hk1 hFc hP1 hD1
    have hP := hP.sub (ws' := [(h_o, .inr (3, [.ref h_line, .ref h_factSets, .int v_markedPlus, .int v_markedMinus, .ref h_program, .ref h_deduction])), (h_factSets, .inl (k_factSets, 2, .inl v_factSets))]) [0, 1] rfl
    have hD := hD.sub (ws' := [(h_o, .inr (3, [.ref h_line, .ref h_factSets, .int v_markedPlus, .int v_markedMinus, .ref h_program, .ref h_deduction])), (h_factSets, .inl (k_factSets, 2, .inl v_factSets))]) [0, 1] (by decide) rfl
    generalize H1 = H at hP hS ⊢
    refine lv_iand hx hb d_H_holds_18 ?_
    refine lv_if_eq (tgt := 26) hx hb d_H_holds_19 (by decide) (fun c_19 => ?_) (fun c_19 => ?_)
    · have h := of_pos h c_19
      refine lv_iconst (v := (nI 0)) hx hb d_H_holds_26 (by decide) ?_
      rw [hQ]
      exact W.zret (v := (nI 0)) hx hb hr rfl (fun t ht hW => ⟨⟨(nI 0), (), rfl, Prod.mk.inj (Option.some.inj h), by rw [ht]; exact hP, va_K.moved hW.alike hK, hD⟩, hS.F ht⟩) hS.2.2 d_H_holds_27
    · have h := of_neg h c_19
      refine lv_iconst (v := (nI 1)) hx hb d_H_holds_22 (by decide) ?_
      refine lv_goto (tgt := 27) hx hb d_H_holds_23 (by decide) ?_
      rw [hQ]
      exact W.zret (v := (nI 1)) hx hb hr rfl (fun t ht hW => ⟨⟨(nI 1), (), rfl, Prod.mk.inj (Option.some.inj h), by rw [ht]; exact hP, va_K.moved hW.alike hK, hD⟩, hS.F ht⟩) hS.2.2 d_H_holds_27
set_option maxHeartbeats 4000000 in
set_option maxRecDepth 100000 in
theorem c_H_mark (l : Launch) (dC : Nat → ClassId) (dI : Nat → Nat → Nat) (h_o h_line h_factSets h_program h_deduction : Nat) (sz : Nat) (v_markedPlus : Int32) (v_markedMinus : Int32) (x1 : Int32) (x2 : Int32) (r0 : Int32) (u0 : Unit) (h : m_H_mark v_markedPlus v_markedMinus x1 x2 = some (r0, u0)) : Met l y_H_mark w_H_mark ({ frames := 1, cells := 0, slots := 0, locals := 22 } : Room) (va_Pc [.ref h_o, .int x1, .int x2] (fun U => U.heap.size = sz ∧ va_P (dC, dI) classes [(h_o, .inr (3, [.ref h_line, .ref h_factSets, .int v_markedPlus, .int v_markedMinus, .ref h_program, .ref h_deduction]))] U.heap ∧ va_K (dC, dI) classes [] U ∧ va_D (fun _ => True) [(h_o, .inr (3, [.ref h_line, .ref h_factSets, .int v_markedPlus, .int v_markedMinus, .ref h_program, .ref h_deduction]))])) (va_Qi (fun (r : Int32) (u : Unit) => r = r0 ∧ u = u0) (fun (u : Unit) (t : State) => va_P (dC, dI) classes [(h_o, .inr (3, [.ref h_line, .ref h_factSets, .int v_markedPlus, .int v_markedMinus, .ref h_program, .ref h_deduction]))] t.heap ∧ va_K (dC, dI) classes [] t ∧ va_D (va_A [(h_o, .inr (3, [.ref h_line, .ref h_factSets, .int v_markedPlus, .int v_markedMinus, .ref h_program, .ref h_deduction]))] sz) [(h_o, .inr (3, [.ref h_line, .ref h_factSets, .int v_markedPlus, .int v_markedMinus, .ref h_program, .ref h_deduction]))]) (va_A [(h_o, .inr (3, [.ref h_line, .ref h_factSets, .int v_markedPlus, .int v_markedMinus, .ref h_program, .ref h_deduction]))] sz)) 0 0 (va_A [(h_o, .inr (3, [.ref h_line, .ref h_factSets, .int v_markedPlus, .int v_markedMinus, .ref h_program, .ref h_deduction]))] sz) := by
  refine Met.ofW (cc := b_H_mark) (maxL := 4) (ret := (some .int)) (by decide) rfl ?_
  intro p e s m args below meth c s₁ B hml hv
  obtain ⟨rfl, hsz, hP, hK, hD0⟩ := hv
  have hx := B.exec
  have hb := B.bytes
  have hr := B.returns
  have hts0 := atoms_spec (ws := w_H_mark) B.pre
  have hts : ∀ w ∈ lw_gd, w.before ([.ref h_o, .int x1, .int x2] : List Value).toArray s = true := fun w h9 => hts0 w (List.mem_cons_of_mem _ h9)
  have hown : s.vm.findClass R_H = some m.cls := findClass_of_methodNamed B.named
  have hlocks := B.notSynchronized
  subst hsz
  have hD := hD0.self (sz := s.heap.size)
  generalize hAe : va_A [(h_o, .inr (3, [.ref h_line, .ref h_factSets, .int v_markedPlus, .int v_markedMinus, .ref h_program, .ref h_deduction]))] s.heap.size = A at hD ⊢
  have hA : ∀ q : Nat, s.heap.size ≤ q → A q := fun q h9 => by rw [← hAe]; exact Or.inr h9
  obtain ⟨H, eH⟩ : ∃ H : Heap, H = s.heap := ⟨_, rfl⟩
  have hS : va_S A s.heap H [] := by rw [eH]; exact va_S.rf
  have hP : va_P (dC, dI) classes [(h_o, .inr (3, [.ref h_line, .ref h_factSets, .int v_markedPlus, .int v_markedMinus, .ref h_program, .ref h_deduction]))] H := by rw [eH]; exact hP
  refine W_gen (fun Q hQ => ?_)
  refine W_heap eH ?_
  clear eH
  have hl := lv_entry ([.ref h_o, .int x1, .int x2]) (n := 4) (Nat.le_of_ble_eq_true rfl)
  rw [lg_entry_eq]
  generalize (lg_sl ([.ref h_o, .int x1, .int x2]) ++ List.replicate (4 - (lg_sl ([.ref h_o, .int x1, .int x2])).length) Slot.unset).toArray = ls at hl ⊢
  have hl : lv_has ls 4 [(0, .ref h_o), (1, .int x1), (2, .int x2)] := hl
  unfold m_H_mark at h
  refine lv_iload_n hx hb d_H_mark_0 rfl (lv_at hl 1 rfl) ?_
  refine lv_iload_n hx hb d_H_mark_1 rfl (lv_at hl 2 rfl) ?_
  have hPc := hP.sub (ws' := []) [] rfl
  have hDc := hD.sub (ws' := []) [] (by decide) rfl
  have hKc := hK.sub (tys' := []) [] rfl
  have hFc := va_free (wc := []) hD hS hA [] rfl
  obtain ⟨v_2, hc_2, h⟩ := of_bind h
  refine va_calli (va_runS (As := [.int x1, .int x2]) (rest := []) ⟨hx, hb, hml, hown, hts⟩ (c_H_pairBit l dC dI H.size x1 x2 v_2.1 v_2.2 hc_2) (va_cwS 2 hts (gS mlk_H_72 sta_H_pairBit ini_H cod_H_pairBit) rfl rfl rfl (by decide +kernel) ⟨Nat.le_of_ble_eq_true rfl, Nat.le_of_ble_eq_true rfl⟩) ⟨fun a U g mk q => by obtain ⟨q0, q1, qP, qK, qD⟩ := q; exact ⟨q0, q1, qP, va_K.moved (u := U) (U := U.calling g mk a) (Vm.Alike.refl U.vm) qK, qD⟩, fun U hU hW => ⟨rfl, by rw [hU], by rw [hU]; exact hPc, va_K.moved hW.alike hKc, hDc.weaken (fun _ _ _ _ => trivial)⟩⟩ rfl rfl hl.1 rfl (lv_room (Nat.le_of_ble_eq_true rfl)) d_H_mark_2 ⟨Nat.le_of_ble_eq_true rfl, Nat.le_of_ble_eq_true rfl⟩) hS (fun q _ h9 => hFc q h9) hFc (fun r_2 u t H1 locs ht hvm hw hB hz1 hk1 hS => ?_)
  obtain ⟨rfl, rfl⟩ := hw
  obtain ⟨hP1, hK1, hD1⟩ := hB
  rw [ht] at hP1
  obtain ⟨hP, hD⟩ := va_join (wr := [(h_o, .inr (3, [.ref h_line, .ref h_factSets, .int v_markedPlus, .int v_markedMinus, .ref h_program, .ref h_deduction]))]) (w1 := []) hP hD [] [0] rfl rfl (by decide) (by decide) hk1 hFc hP1 hD1
  have hP := hP.sub (ws' := [(h_o, .inr (3, [.ref h_line, .ref h_factSets, .int v_markedPlus, .int v_markedMinus, .ref h_program, .ref h_deduction]))]) [0] rfl
  have hD := hD.sub (ws' := [(h_o, .inr (3, [.ref h_line, .ref h_factSets, .int v_markedPlus, .int v_markedMinus, .ref h_program, .ref h_deduction]))]) [0] (by decide) rfl
  generalize H1 = H at hP hS ⊢
  refine lv_istore_n (lv' := [(3, .int v_2.1), (0, .ref h_o), (1, .int x1), (2, .int x2)]) hx hb d_H_mark_5 rfl hl (by decide) rfl (fun ls hl => ?_)
  refine lv_aload_n hx hb d_H_mark_6 rfl (lv_at hl 1 rfl) ?_
  refine va_get (D := (dC, dI)) (ci := 3) (v := .int v_markedPlus) (C := R_H) (T := F_H) (N := 6) hx hb hts lay_H hown hK hP 0 rfl rfl 2 (by decide) (hts _ flk_H_20) (fun _ h9 => h9) rfl d_H_mark_7 ?_
  refine lv_iload_n hx hb d_H_mark_10 rfl (lv_at hl 0 rfl) ?_
  refine lv_iand hx hb d_H_mark_11 ?_
  refine lv_if_eq (tgt := 17) hx hb d_H_mark_12 (by decide) (fun c_12 => ?_) (fun c_12 => ?_)
  · have h := of_pos h c_12
    refine lv_aload_n hx hb d_H_mark_17 rfl (lv_at hl 1 rfl) ?_
    refine va_get (D := (dC, dI)) (ci := 3) (v := .int v_markedMinus) (C := R_H) (T := F_H) (N := 6) hx hb hts lay_H hown hK hP 0 rfl rfl 3 (by decide) (hts _ flk_H_24) (fun _ h9 => h9) rfl d_H_mark_18 ?_
    refine lv_iload_n hx hb d_H_mark_21 rfl (lv_at hl 0 rfl) ?_
    refine lv_iand hx hb d_H_mark_22 ?_
    refine lv_if_eq (tgt := 30) hx hb d_H_mark_23 (by decide) (fun c_23 => ?_) (fun c_23 => ?_)
    · have h := of_pos h c_23
      refine lv_iconst (v := (nI 0)) hx hb d_H_mark_30 (by decide) ?_
      rw [hQ]
      exact W.iret (v := (nI 0)) hx hb hr (fun t ht hW => ⟨⟨(nI 0), (), rfl, Prod.mk.inj (Option.some.inj h), by rw [ht]; exact hP, va_K.moved hW.alike hK, hD⟩, hS.F ht⟩) hS.2.2 d_H_mark_31
    · have h := of_neg h c_23
      refine lv_iconst (v := (-1 : Int32)) hx hb d_H_mark_26 (by decide) ?_
      refine lv_goto (tgt := 31) hx hb d_H_mark_27 (by decide) ?_
      rw [hQ]
      exact W.iret (v := (-1 : Int32)) hx hb hr (fun t ht hW => ⟨⟨(-1 : Int32), (), rfl, Prod.mk.inj (Option.some.inj h), by rw [ht]; exact hP, va_K.moved hW.alike hK, hD⟩, hS.F ht⟩) hS.2.2 d_H_mark_31
  · have h := of_neg h c_12
    refine lv_iconst (v := (nI 1)) hx hb d_H_mark_15 (by decide) ?_
    rw [hQ]
    exact W.iret (v := (nI 1)) hx hb hr (fun t ht hW => ⟨⟨(nI 1), (), rfl, Prod.mk.inj (Option.some.inj h), by rw [ht]; exact hP, va_K.moved hW.alike hK, hD⟩, hS.F ht⟩) hS.2.2 d_H_mark_16
set_option maxHeartbeats 4000000 in
set_option maxRecDepth 100000 in
theorem c_H_drop (l : Launch) (dC : Nat → ClassId) (dI : Nat → Nat → Nat) (h_o h_line h_factSets h_program h_deduction h_program_bodies : Nat) (k_program_bodies : ClassId) (sz : Nat) (v_markedPlus : Int32) (v_markedMinus : Int32) (v_program_count : Int32) (v_program_bodies : Nat → Int32) (x1 : Int32) (r0 : Int32) (u0 : Int32 × (Nat → Int32)) (h : m_H_drop v_program_count v_program_bodies x1 = some (r0, u0)) : Met l y_H_drop w_H_drop ({ frames := 2, cells := 0, slots := 0, locals := 42 } : Room) (va_Pc [.ref h_o, .int x1] (fun U => U.heap.size = sz ∧ va_P (dC, dI) classes [(h_o, .inr (3, [.ref h_line, .ref h_factSets, .int v_markedPlus, .int v_markedMinus, .ref h_program, .ref h_deduction])), (h_program, .inr (2, [.ref h_program_bodies, .int v_program_count])), (h_program_bodies, .inl (k_program_bodies, 2, .inl v_program_bodies))] U.heap ∧ va_K (dC, dI) classes [(k_program_bodies, .int)] U ∧ va_D (fun _ => True) [(h_o, .inr (3, [.ref h_line, .ref h_factSets, .int v_markedPlus, .int v_markedMinus, .ref h_program, .ref h_deduction])), (h_program, .inr (2, [.ref h_program_bodies, .int v_program_count])), (h_program_bodies, .inl (k_program_bodies, 2, .inl v_program_bodies))])) (va_Qi (fun (r : Int32) (u : Int32 × (Nat → Int32)) => r = r0 ∧ u = u0) (fun (u : Int32 × (Nat → Int32)) (t : State) => va_P (dC, dI) classes [(h_o, .inr (3, [.ref h_line, .ref h_factSets, .int v_markedPlus, .int v_markedMinus, .ref h_program, .ref h_deduction])), (h_program, .inr (2, [.ref h_program_bodies, .int u.1])), (h_program_bodies, .inl (k_program_bodies, 2, .inl u.2))] t.heap ∧ va_K (dC, dI) classes [(k_program_bodies, .int)] t ∧ va_D (va_A [(h_o, .inr (3, [.ref h_line, .ref h_factSets, .int v_markedPlus, .int v_markedMinus, .ref h_program, .ref h_deduction])), (h_program, .inr (2, [.ref h_program_bodies, .int v_program_count])), (h_program_bodies, .inl (k_program_bodies, 2, .inl v_program_bodies))] sz) [(h_o, .inr (3, [.ref h_line, .ref h_factSets, .int v_markedPlus, .int v_markedMinus, .ref h_program, .ref h_deduction])), (h_program, .inr (2, [.ref h_program_bodies, .int u.1])), (h_program_bodies, .inl (k_program_bodies, 2, .inl u.2))]) (va_A [(h_o, .inr (3, [.ref h_line, .ref h_factSets, .int v_markedPlus, .int v_markedMinus, .ref h_program, .ref h_deduction])), (h_program, .inr (2, [.ref h_program_bodies, .int v_program_count])), (h_program_bodies, .inl (k_program_bodies, 2, .inl v_program_bodies))] sz)) 0 0 (va_A [(h_o, .inr (3, [.ref h_line, .ref h_factSets, .int v_markedPlus, .int v_markedMinus, .ref h_program, .ref h_deduction])), (h_program, .inr (2, [.ref h_program_bodies, .int v_program_count])), (h_program_bodies, .inl (k_program_bodies, 2, .inl v_program_bodies))] sz) := by
  refine Met.ofW (cc := b_H_drop) (maxL := 2) (ret := (some .boolean)) (by decide) rfl ?_
  intro p e s m args below meth c s₁ B hml hv
  obtain ⟨rfl, hsz, hP, hK, hD0⟩ := hv
  have hx := B.exec
  have hb := B.bytes
  have hr := B.returns
  have hts0 := atoms_spec (ws := w_H_drop) B.pre
  have hts : ∀ w ∈ lw_gd, w.before ([.ref h_o, .int x1] : List Value).toArray s = true := fun w h9 => hts0 w (List.mem_cons_of_mem _ h9)
  have hown : s.vm.findClass R_H = some m.cls := findClass_of_methodNamed B.named
  have hlocks := B.notSynchronized
  subst hsz
  have hD := hD0.self (sz := s.heap.size)
  generalize hAe : va_A [(h_o, .inr (3, [.ref h_line, .ref h_factSets, .int v_markedPlus, .int v_markedMinus, .ref h_program, .ref h_deduction])), (h_program, .inr (2, [.ref h_program_bodies, .int v_program_count])), (h_program_bodies, .inl (k_program_bodies, 2, .inl v_program_bodies))] s.heap.size = A at hD ⊢
  have hA : ∀ q : Nat, s.heap.size ≤ q → A q := fun q h9 => by rw [← hAe]; exact Or.inr h9
  obtain ⟨H, eH⟩ : ∃ H : Heap, H = s.heap := ⟨_, rfl⟩
  have hS : va_S A s.heap H [] := by rw [eH]; exact va_S.rf
  have hP : va_P (dC, dI) classes [(h_o, .inr (3, [.ref h_line, .ref h_factSets, .int v_markedPlus, .int v_markedMinus, .ref h_program, .ref h_deduction])), (h_program, .inr (2, [.ref h_program_bodies, .int v_program_count])), (h_program_bodies, .inl (k_program_bodies, 2, .inl v_program_bodies))] H := by rw [eH]; exact hP
  refine W_gen (fun Q hQ => ?_)
  refine W_heap eH ?_
  clear eH
  have hl := lv_entry ([.ref h_o, .int x1]) (n := 2) (Nat.le_of_ble_eq_true rfl)
  rw [lg_entry_eq]
  generalize (lg_sl ([.ref h_o, .int x1]) ++ List.replicate (2 - (lg_sl ([.ref h_o, .int x1])).length) Slot.unset).toArray = ls at hl ⊢
  have hl : lv_has ls 2 [(0, .ref h_o), (1, .int x1)] := hl
  unfold m_H_drop at h
  refine lv_aload_n hx hb d_H_drop_0 rfl (lv_at hl 0 rfl) ?_
  refine va_get (D := (dC, dI)) (ci := 3) (v := .ref h_program) (C := R_H) (T := F_H) (N := 6) hx hb hts lay_H hown hK hP 0 rfl rfl 4 (by decide) (hts _ flk_H_30) (fun _ h9 => h9) rfl d_H_drop_1 ?_
  refine lv_iload_n hx hb d_H_drop_4 rfl (lv_at hl 1 rfl) ?_
  have hPc := hP.sub (ws' := [(h_program, .inr (2, [.ref h_program_bodies, .int v_program_count])), (h_program_bodies, .inl (k_program_bodies, 2, .inl v_program_bodies))]) [1, 2] rfl
  have hDc := hD.sub (ws' := [(h_program, .inr (2, [.ref h_program_bodies, .int v_program_count])), (h_program_bodies, .inl (k_program_bodies, 2, .inl v_program_bodies))]) [1, 2] (by decide) rfl
  have hKc := hK.sub (tys' := [(k_program_bodies, .int)]) [0] rfl
  have hFc := va_free (wc := [(h_program, .inr (2, [.ref h_program_bodies, .int v_program_count])), (h_program_bodies, .inl (k_program_bodies, 2, .inl v_program_bodies))]) hD hS hA [1, 2] rfl
  obtain ⟨v_5, hc_5, h⟩ := of_bind h
  refine va_calli (va_runV (As := [.int x1]) (rest := []) ⟨hx, hb, hml, hown, hts⟩ (c_P_remove l dC dI h_program h_program_bodies k_program_bodies H.size v_program_count v_program_bodies x1 v_5.1 v_5.2 hc_5) (cwV 1 hts (gV mlk_H_76 ins_P_remove sel_P_remove ini_P cod_P_remove) rfl rfl rfl (by decide +kernel) ⟨Nat.le_of_ble_eq_true rfl, Nat.le_of_ble_eq_true rfl⟩) ⟨fun a U g mk q => by obtain ⟨q0, q1, qP, qK, qD⟩ := q; exact ⟨q0, q1, qP, va_K.moved (u := U) (U := U.calling g mk a) (Vm.Alike.refl U.vm) qK, qD⟩, va_recv hKc hPc (ci := 2) (q0 := 0) rfl rfl, fun U hU hW => ⟨rfl, by rw [hU], by rw [hU]; exact hPc, va_K.moved hW.alike hKc, hDc.weaken (fun _ _ _ _ => trivial)⟩⟩ rfl rfl hl.1 rfl (lv_room (Nat.le_of_ble_eq_true rfl)) d_H_drop_5 ⟨Nat.le_of_ble_eq_true rfl, Nat.le_of_ble_eq_true rfl⟩) hS (fun q _ h9 => hFc q h9) hFc (fun r_5 u t H1 locs ht hvm hw hB hz1 hk1 hS => ?_)
  obtain ⟨rfl, rfl⟩ := hw
  obtain ⟨hP1, hK1, hD1⟩ := hB
  rw [ht] at hP1
  obtain ⟨hP, hD⟩ := va_join (wr := [(h_o, .inr (3, [.ref h_line, .ref h_factSets, .int v_markedPlus, .int v_markedMinus, .ref h_program, .ref h_deduction]))]) (w1 := [(h_program, .inr (2, [.ref h_program_bodies, .int v_5.2.1])), (h_program_bodies, .inl (k_program_bodies, 2, .inl v_5.2.2))]) hP hD [1, 2] [0] rfl rfl (by decide) (by decide) hk1 hFc hP1 hD1
  have hP := hP.sub (ws' := [(h_o, .inr (3, [.ref h_line, .ref h_factSets, .int v_markedPlus, .int v_markedMinus, .ref h_program, .ref h_deduction])), (h_program, .inr (2, [.ref h_program_bodies, .int v_5.2.1])), (h_program_bodies, .inl (k_program_bodies, 2, .inl v_5.2.2))]) [0, 1, 2] rfl
  have hD := hD.sub (ws' := [(h_o, .inr (3, [.ref h_line, .ref h_factSets, .int v_markedPlus, .int v_markedMinus, .ref h_program, .ref h_deduction])), (h_program, .inr (2, [.ref h_program_bodies, .int v_5.2.1])), (h_program_bodies, .inl (k_program_bodies, 2, .inl v_5.2.2))]) [0, 1, 2] (by decide) rfl
  generalize H1 = H at hP hS ⊢
  obtain ⟨g_8, h⟩ := of_guard h
  rw [hQ]
  exact W.zret (v := v_5.1) hx hb hr (nrz g_8) (fun t ht hW => ⟨⟨v_5.1, (v_5.2.1, v_5.2.2), rfl, Prod.mk.inj (Option.some.inj h), by rw [ht]; exact hP, va_K.moved hW.alike hK, hD⟩, hS.F ht⟩) hS.2.2 d_H_drop_8
set_option maxHeartbeats 4000000 in
set_option maxRecDepth 100000 in
theorem c_H_clauses (l : Launch) (dC : Nat → ClassId) (dI : Nat → Nat → Nat) (h_o h_line h_factSets h_program h_deduction h_program_bodies : Nat) (sz : Nat) (v_markedPlus : Int32) (v_markedMinus : Int32) (v_program_count : Int32) (r0 : Int32) (u0 : Unit) (h : m_H_clauses v_program_count = some (r0, u0)) : Met l y_H_clauses w_H_clauses ({ frames := 0, cells := 0, slots := 0, locals := 0 } : Room) (va_Pc [.ref h_o] (fun U => U.heap.size = sz ∧ va_P (dC, dI) classes [(h_o, .inr (3, [.ref h_line, .ref h_factSets, .int v_markedPlus, .int v_markedMinus, .ref h_program, .ref h_deduction])), (h_program, .inr (2, [.ref h_program_bodies, .int v_program_count]))] U.heap ∧ va_K (dC, dI) classes [] U ∧ va_D (fun _ => True) [(h_o, .inr (3, [.ref h_line, .ref h_factSets, .int v_markedPlus, .int v_markedMinus, .ref h_program, .ref h_deduction])), (h_program, .inr (2, [.ref h_program_bodies, .int v_program_count]))])) (va_Qi (fun (r : Int32) (u : Unit) => r = r0 ∧ u = u0) (fun (u : Unit) (t : State) => va_P (dC, dI) classes [(h_o, .inr (3, [.ref h_line, .ref h_factSets, .int v_markedPlus, .int v_markedMinus, .ref h_program, .ref h_deduction])), (h_program, .inr (2, [.ref h_program_bodies, .int v_program_count]))] t.heap ∧ va_K (dC, dI) classes [] t ∧ va_D (va_A [(h_o, .inr (3, [.ref h_line, .ref h_factSets, .int v_markedPlus, .int v_markedMinus, .ref h_program, .ref h_deduction])), (h_program, .inr (2, [.ref h_program_bodies, .int v_program_count]))] sz) [(h_o, .inr (3, [.ref h_line, .ref h_factSets, .int v_markedPlus, .int v_markedMinus, .ref h_program, .ref h_deduction])), (h_program, .inr (2, [.ref h_program_bodies, .int v_program_count]))]) (va_A [(h_o, .inr (3, [.ref h_line, .ref h_factSets, .int v_markedPlus, .int v_markedMinus, .ref h_program, .ref h_deduction])), (h_program, .inr (2, [.ref h_program_bodies, .int v_program_count]))] sz)) 0 0 (va_A [(h_o, .inr (3, [.ref h_line, .ref h_factSets, .int v_markedPlus, .int v_markedMinus, .ref h_program, .ref h_deduction])), (h_program, .inr (2, [.ref h_program_bodies, .int v_program_count]))] sz) := by
  refine Met.ofW (cc := b_H_clauses) (maxL := 1) (ret := (some .int)) (by decide) rfl ?_
  intro p e s m args below meth c s₁ B hml hv
  obtain ⟨rfl, hsz, hP, hK, hD0⟩ := hv
  have hx := B.exec
  have hb := B.bytes
  have hr := B.returns
  have hts0 := atoms_spec (ws := w_H_clauses) B.pre
  have hts : ∀ w ∈ lw_gd, w.before ([.ref h_o] : List Value).toArray s = true := fun w h9 => hts0 w (List.mem_cons_of_mem _ h9)
  have hown : s.vm.findClass R_H = some m.cls := findClass_of_methodNamed B.named
  have hlocks := B.notSynchronized
  subst hsz
  have hD := hD0.self (sz := s.heap.size)
  generalize hAe : va_A [(h_o, .inr (3, [.ref h_line, .ref h_factSets, .int v_markedPlus, .int v_markedMinus, .ref h_program, .ref h_deduction])), (h_program, .inr (2, [.ref h_program_bodies, .int v_program_count]))] s.heap.size = A at hD ⊢
  have hA : ∀ q : Nat, s.heap.size ≤ q → A q := fun q h9 => by rw [← hAe]; exact Or.inr h9
  obtain ⟨H, eH⟩ : ∃ H : Heap, H = s.heap := ⟨_, rfl⟩
  have hS : va_S A s.heap H [] := by rw [eH]; exact va_S.rf
  have hP : va_P (dC, dI) classes [(h_o, .inr (3, [.ref h_line, .ref h_factSets, .int v_markedPlus, .int v_markedMinus, .ref h_program, .ref h_deduction])), (h_program, .inr (2, [.ref h_program_bodies, .int v_program_count]))] H := by rw [eH]; exact hP
  refine W_gen (fun Q hQ => ?_)
  refine W_heap eH ?_
  clear eH
  have hl := lv_entry ([.ref h_o]) (n := 1) (Nat.le_of_ble_eq_true rfl)
  rw [lg_entry_eq]
  generalize (lg_sl ([.ref h_o]) ++ List.replicate (1 - (lg_sl ([.ref h_o])).length) Slot.unset).toArray = ls at hl ⊢
  have hl : lv_has ls 1 [(0, .ref h_o)] := hl
  unfold m_H_clauses at h
  refine lv_aload_n hx hb d_H_clauses_0 rfl (lv_at hl 0 rfl) ?_
  refine va_get (D := (dC, dI)) (ci := 3) (v := .ref h_program) (C := R_H) (T := F_H) (N := 6) hx hb hts lay_H hown hK hP 0 rfl rfl 4 (by decide) (hts _ flk_H_30) (fun _ h9 => h9) rfl d_H_clauses_1 ?_
  refine va_get (D := (dC, dI)) (ci := 2) (v := .int v_program_count) (C := R_P) (T := F_P) (N := 2) hx hb hts lay_P hown hK hP 1 rfl rfl 1 (by decide) (hts _ flk_H_79) (fun _ h9 => h9) rfl d_H_clauses_4 ?_
  rw [hQ]
  exact W.iret (v := v_program_count) hx hb hr (fun t ht hW => ⟨⟨v_program_count, (), rfl, Prod.mk.inj (Option.some.inj h), by rw [ht]; exact hP, va_K.moved hW.alike hK, hD⟩, hS.F ht⟩) hS.2.2 d_H_clauses_7
set_option maxHeartbeats 4000000 in
set_option maxRecDepth 100000 in
theorem c_H_literals (l : Launch) (dC : Nat → ClassId) (dI : Nat → Nat → Nat) (h_o h_line h_factSets h_program h_deduction h_program_bodies : Nat) (k_program_bodies : ClassId) (sz : Nat) (v_markedPlus : Int32) (v_markedMinus : Int32) (v_program_count : Int32) (v_program_bodies : Nat → Int32) (x1 : Int32) (r0 : Int32) (u0 : Unit) (h : m_H_literals v_program_count v_program_bodies x1 = some (r0, u0)) : Met l y_H_literals w_H_literals ({ frames := 1, cells := 0, slots := 0, locals := 21 } : Room) (va_Pc [.ref h_o, .int x1] (fun U => U.heap.size = sz ∧ va_P (dC, dI) classes [(h_o, .inr (3, [.ref h_line, .ref h_factSets, .int v_markedPlus, .int v_markedMinus, .ref h_program, .ref h_deduction])), (h_program, .inr (2, [.ref h_program_bodies, .int v_program_count])), (h_program_bodies, .inl (k_program_bodies, 2, .inl v_program_bodies))] U.heap ∧ va_K (dC, dI) classes [(k_program_bodies, .int)] U ∧ va_D (fun _ => True) [(h_o, .inr (3, [.ref h_line, .ref h_factSets, .int v_markedPlus, .int v_markedMinus, .ref h_program, .ref h_deduction])), (h_program, .inr (2, [.ref h_program_bodies, .int v_program_count])), (h_program_bodies, .inl (k_program_bodies, 2, .inl v_program_bodies))])) (va_Qi (fun (r : Int32) (u : Unit) => r = r0 ∧ u = u0) (fun (u : Unit) (t : State) => va_P (dC, dI) classes [(h_o, .inr (3, [.ref h_line, .ref h_factSets, .int v_markedPlus, .int v_markedMinus, .ref h_program, .ref h_deduction])), (h_program, .inr (2, [.ref h_program_bodies, .int v_program_count])), (h_program_bodies, .inl (k_program_bodies, 2, .inl v_program_bodies))] t.heap ∧ va_K (dC, dI) classes [(k_program_bodies, .int)] t ∧ va_D (va_A [(h_o, .inr (3, [.ref h_line, .ref h_factSets, .int v_markedPlus, .int v_markedMinus, .ref h_program, .ref h_deduction])), (h_program, .inr (2, [.ref h_program_bodies, .int v_program_count])), (h_program_bodies, .inl (k_program_bodies, 2, .inl v_program_bodies))] sz) [(h_o, .inr (3, [.ref h_line, .ref h_factSets, .int v_markedPlus, .int v_markedMinus, .ref h_program, .ref h_deduction])), (h_program, .inr (2, [.ref h_program_bodies, .int v_program_count])), (h_program_bodies, .inl (k_program_bodies, 2, .inl v_program_bodies))]) (va_A [(h_o, .inr (3, [.ref h_line, .ref h_factSets, .int v_markedPlus, .int v_markedMinus, .ref h_program, .ref h_deduction])), (h_program, .inr (2, [.ref h_program_bodies, .int v_program_count])), (h_program_bodies, .inl (k_program_bodies, 2, .inl v_program_bodies))] sz)) 0 0 (va_A [(h_o, .inr (3, [.ref h_line, .ref h_factSets, .int v_markedPlus, .int v_markedMinus, .ref h_program, .ref h_deduction])), (h_program, .inr (2, [.ref h_program_bodies, .int v_program_count])), (h_program_bodies, .inl (k_program_bodies, 2, .inl v_program_bodies))] sz) := by
  refine Met.ofW (cc := b_H_literals) (maxL := 3) (ret := (some .int)) (by decide) rfl ?_
  intro p e s m args below meth c s₁ B hml hv
  obtain ⟨rfl, hsz, hP, hK, hD0⟩ := hv
  have hx := B.exec
  have hb := B.bytes
  have hr := B.returns
  have hts0 := atoms_spec (ws := w_H_literals) B.pre
  have hts : ∀ w ∈ lw_gd, w.before ([.ref h_o, .int x1] : List Value).toArray s = true := fun w h9 => hts0 w (List.mem_cons_of_mem _ h9)
  have hown : s.vm.findClass R_H = some m.cls := findClass_of_methodNamed B.named
  have hlocks := B.notSynchronized
  subst hsz
  have hD := hD0.self (sz := s.heap.size)
  generalize hAe : va_A [(h_o, .inr (3, [.ref h_line, .ref h_factSets, .int v_markedPlus, .int v_markedMinus, .ref h_program, .ref h_deduction])), (h_program, .inr (2, [.ref h_program_bodies, .int v_program_count])), (h_program_bodies, .inl (k_program_bodies, 2, .inl v_program_bodies))] s.heap.size = A at hD ⊢
  have hA : ∀ q : Nat, s.heap.size ≤ q → A q := fun q h9 => by rw [← hAe]; exact Or.inr h9
  obtain ⟨H, eH⟩ : ∃ H : Heap, H = s.heap := ⟨_, rfl⟩
  have hS : va_S A s.heap H [] := by rw [eH]; exact va_S.rf
  have hP : va_P (dC, dI) classes [(h_o, .inr (3, [.ref h_line, .ref h_factSets, .int v_markedPlus, .int v_markedMinus, .ref h_program, .ref h_deduction])), (h_program, .inr (2, [.ref h_program_bodies, .int v_program_count])), (h_program_bodies, .inl (k_program_bodies, 2, .inl v_program_bodies))] H := by rw [eH]; exact hP
  refine W_gen (fun Q hQ => ?_)
  refine W_heap eH ?_
  clear eH
  have hl := lv_entry ([.ref h_o, .int x1]) (n := 3) (Nat.le_of_ble_eq_true rfl)
  rw [lg_entry_eq]
  generalize (lg_sl ([.ref h_o, .int x1]) ++ List.replicate (3 - (lg_sl ([.ref h_o, .int x1])).length) Slot.unset).toArray = ls at hl ⊢
  have hl : lv_has ls 3 [(0, .ref h_o), (1, .int x1)] := hl
  unfold m_H_literals at h
  refine lv_aload_n hx hb d_H_literals_0 rfl (lv_at hl 0 rfl) ?_
  refine va_get (D := (dC, dI)) (ci := 3) (v := .ref h_program) (C := R_H) (T := F_H) (N := 6) hx hb hts lay_H hown hK hP 0 rfl rfl 4 (by decide) (hts _ flk_H_30) (fun _ h9 => h9) rfl d_H_literals_1 ?_
  refine lv_iload_n hx hb d_H_literals_4 rfl (lv_at hl 1 rfl) ?_
  have hPc := hP.sub (ws' := [(h_program, .inr (2, [.ref h_program_bodies, .int v_program_count])), (h_program_bodies, .inl (k_program_bodies, 2, .inl v_program_bodies))]) [1, 2] rfl
  have hDc := hD.sub (ws' := [(h_program, .inr (2, [.ref h_program_bodies, .int v_program_count])), (h_program_bodies, .inl (k_program_bodies, 2, .inl v_program_bodies))]) [1, 2] (by decide) rfl
  have hKc := hK.sub (tys' := [(k_program_bodies, .int)]) [0] rfl
  have hFc := va_free (wc := [(h_program, .inr (2, [.ref h_program_bodies, .int v_program_count])), (h_program_bodies, .inl (k_program_bodies, 2, .inl v_program_bodies))]) hD hS hA [1, 2] rfl
  obtain ⟨v_5, hc_5, h⟩ := of_bind h
  refine va_calli (va_runV (As := [.int x1]) (rest := []) ⟨hx, hb, hml, hown, hts⟩ (c_P_bodyOf l dC dI h_program h_program_bodies k_program_bodies H.size v_program_count v_program_bodies x1 v_5.1 v_5.2 hc_5) (cwV 1 hts (gV mlk_H_82 ins_P_bodyOf sel_P_bodyOf ini_P cod_P_bodyOf) rfl rfl rfl (by decide +kernel) ⟨Nat.le_of_ble_eq_true rfl, Nat.le_of_ble_eq_true rfl⟩) ⟨fun a U g mk q => by obtain ⟨q0, q1, qP, qK, qD⟩ := q; exact ⟨q0, q1, qP, va_K.moved (u := U) (U := U.calling g mk a) (Vm.Alike.refl U.vm) qK, qD⟩, va_recv hKc hPc (ci := 2) (q0 := 0) rfl rfl, fun U hU hW => ⟨rfl, by rw [hU], by rw [hU]; exact hPc, va_K.moved hW.alike hKc, hDc.weaken (fun _ _ _ _ => trivial)⟩⟩ rfl rfl hl.1 rfl (lv_room (Nat.le_of_ble_eq_true rfl)) d_H_literals_5 ⟨Nat.le_of_ble_eq_true rfl, Nat.le_of_ble_eq_true rfl⟩) hS (fun q _ h9 => hFc q h9) hFc (fun r_5 u t H1 locs ht hvm hw hB hz1 hk1 hS => ?_)
  obtain ⟨rfl, rfl⟩ := hw
  obtain ⟨hP1, hK1, hD1⟩ := hB
  rw [ht] at hP1
  obtain ⟨hP, hD⟩ := va_join (wr := [(h_o, .inr (3, [.ref h_line, .ref h_factSets, .int v_markedPlus, .int v_markedMinus, .ref h_program, .ref h_deduction]))]) (w1 := [(h_program, .inr (2, [.ref h_program_bodies, .int v_program_count])), (h_program_bodies, .inl (k_program_bodies, 2, .inl v_program_bodies))]) hP hD [1, 2] [0] rfl rfl (by decide) (by decide) hk1 hFc hP1 hD1
  have hP := hP.sub (ws' := [(h_o, .inr (3, [.ref h_line, .ref h_factSets, .int v_markedPlus, .int v_markedMinus, .ref h_program, .ref h_deduction])), (h_program, .inr (2, [.ref h_program_bodies, .int v_program_count])), (h_program_bodies, .inl (k_program_bodies, 2, .inl v_program_bodies))]) [0, 1, 2] rfl
  have hD := hD.sub (ws' := [(h_o, .inr (3, [.ref h_line, .ref h_factSets, .int v_markedPlus, .int v_markedMinus, .ref h_program, .ref h_deduction])), (h_program, .inr (2, [.ref h_program_bodies, .int v_program_count])), (h_program_bodies, .inl (k_program_bodies, 2, .inl v_program_bodies))]) [0, 1, 2] (by decide) rfl
  generalize H1 = H at hP hS ⊢
  refine lv_istore_n (lv' := [(2, .int v_5.1), (0, .ref h_o), (1, .int x1)]) hx hb d_H_literals_8 rfl hl (by decide) rfl (fun ls hl => ?_)
  refine lv_iload_n hx hb d_H_literals_9 rfl (lv_at hl 0 rfl) ?_
  refine lv_if_ne (tgt := 17) hx hb d_H_literals_10 (by decide) (fun c_10 => ?_) (fun c_10 => ?_)
  · have h := of_neg h c_10
    refine lv_iload_n hx hb d_H_literals_17 rfl (lv_at hl 0 rfl) ?_
    have hPc := hP.sub (ws' := []) [] rfl
    have hDc := hD.sub (ws' := []) [] (by decide) rfl
    have hKc := hK.sub (tys' := []) [] rfl
    have hFc := va_free (wc := []) hD hS hA [] rfl
    obtain ⟨v_18, hc_18, h⟩ := of_bind h
    refine va_calli (va_runS (As := [.int v_5.1]) (rest := []) ⟨hx, hb, hml, hown, hts⟩ (c_I_bitCount l dC dI H.size v_5.1 v_18.1 v_18.2 hc_18) (va_cwS 1 hts (gS mlk_H_66 sta_I_bitCount ini_I cod_I_bitCount) rfl rfl rfl (by decide +kernel) ⟨Nat.le_of_ble_eq_true rfl, Nat.le_of_ble_eq_true rfl⟩) ⟨fun a U g mk q => by obtain ⟨q0, q1, qP, qK, qD⟩ := q; exact ⟨q0, q1, qP, va_K.moved (u := U) (U := U.calling g mk a) (Vm.Alike.refl U.vm) qK, qD⟩, fun U hU hW => ⟨rfl, by rw [hU], by rw [hU]; exact hPc, va_K.moved hW.alike hKc, hDc.weaken (fun _ _ _ _ => trivial)⟩⟩ rfl rfl hl.1 rfl (lv_room (Nat.le_of_ble_eq_true rfl)) d_H_literals_18 ⟨Nat.le_of_ble_eq_true rfl, Nat.le_of_ble_eq_true rfl⟩) hS (fun q _ h9 => hFc q h9) hFc (fun r_18 u t H1 locs ht hvm hw hB hz1 hk1 hS => ?_)
    obtain ⟨rfl, rfl⟩ := hw
    obtain ⟨hP1, hK1, hD1⟩ := hB
    rw [ht] at hP1
    obtain ⟨hP, hD⟩ := va_join (wr := [(h_o, .inr (3, [.ref h_line, .ref h_factSets, .int v_markedPlus, .int v_markedMinus, .ref h_program, .ref h_deduction])), (h_program, .inr (2, [.ref h_program_bodies, .int v_program_count])), (h_program_bodies, .inl (k_program_bodies, 2, .inl v_program_bodies))]) (w1 := []) hP hD [] [0, 1, 2] rfl rfl (by decide) (by decide) hk1 hFc hP1 hD1
    have hP := hP.sub (ws' := [(h_o, .inr (3, [.ref h_line, .ref h_factSets, .int v_markedPlus, .int v_markedMinus, .ref h_program, .ref h_deduction])), (h_program, .inr (2, [.ref h_program_bodies, .int v_program_count])), (h_program_bodies, .inl (k_program_bodies, 2, .inl v_program_bodies))]) [0, 1, 2] rfl
    have hD := hD.sub (ws' := [(h_o, .inr (3, [.ref h_line, .ref h_factSets, .int v_markedPlus, .int v_markedMinus, .ref h_program, .ref h_deduction])), (h_program, .inr (2, [.ref h_program_bodies, .int v_program_count])), (h_program_bodies, .inl (k_program_bodies, 2, .inl v_program_bodies))]) [0, 1, 2] (by decide) rfl
    generalize H1 = H at hP hS ⊢
    rw [hQ]
    exact W.iret (v := v_18.1) hx hb hr (fun t ht hW => ⟨⟨v_18.1, (), rfl, Prod.mk.inj (Option.some.inj h), by rw [ht]; exact hP, va_K.moved hW.alike hK, hD⟩, hS.F ht⟩) hS.2.2 d_H_literals_21
  · have h := of_pos h c_10
    refine lv_iconst (v := (-1 : Int32)) hx hb d_H_literals_13 (by decide) ?_
    refine lv_goto (tgt := 21) hx hb d_H_literals_14 (by decide) ?_
    rw [hQ]
    exact W.iret (v := (-1 : Int32)) hx hb hr (fun t ht hW => ⟨⟨(-1 : Int32), (), rfl, Prod.mk.inj (Option.some.inj h), by rw [ht]; exact hP, va_K.moved hW.alike hK, hD⟩, hS.F ht⟩) hS.2.2 d_H_literals_21
set_option maxHeartbeats 4000000 in
set_option maxRecDepth 100000 in
theorem c_H_literal (l : Launch) (dC : Nat → ClassId) (dI : Nat → Nat → Nat) (h_o h_line h_factSets h_program h_deduction h_program_bodies : Nat) (k_program_bodies : ClassId) (sz : Nat) (v_markedPlus : Int32) (v_markedMinus : Int32) (v_program_count : Int32) (v_program_bodies : Nat → Int32) (x1 : Int32) (x2 : Int32) (r0 : Int32) (u0 : Unit) (h : m_H_literal v_program_count v_program_bodies x1 x2 = some (r0, u0)) : Met l y_H_literal w_H_literal ({ frames := 3, cells := 0, slots := 0, locals := 63 } : Room) (va_Pc [.ref h_o, .int x1, .int x2] (fun U => U.heap.size = sz ∧ va_P (dC, dI) classes [(h_o, .inr (3, [.ref h_line, .ref h_factSets, .int v_markedPlus, .int v_markedMinus, .ref h_program, .ref h_deduction])), (h_program, .inr (2, [.ref h_program_bodies, .int v_program_count])), (h_program_bodies, .inl (k_program_bodies, 2, .inl v_program_bodies))] U.heap ∧ va_K (dC, dI) classes [(k_program_bodies, .int)] U ∧ va_D (fun _ => True) [(h_o, .inr (3, [.ref h_line, .ref h_factSets, .int v_markedPlus, .int v_markedMinus, .ref h_program, .ref h_deduction])), (h_program, .inr (2, [.ref h_program_bodies, .int v_program_count])), (h_program_bodies, .inl (k_program_bodies, 2, .inl v_program_bodies))])) (va_Qi (fun (r : Int32) (u : Unit) => r = r0 ∧ u = u0) (fun (u : Unit) (t : State) => va_P (dC, dI) classes [(h_o, .inr (3, [.ref h_line, .ref h_factSets, .int v_markedPlus, .int v_markedMinus, .ref h_program, .ref h_deduction])), (h_program, .inr (2, [.ref h_program_bodies, .int v_program_count])), (h_program_bodies, .inl (k_program_bodies, 2, .inl v_program_bodies))] t.heap ∧ va_K (dC, dI) classes [(k_program_bodies, .int)] t ∧ va_D (va_A [(h_o, .inr (3, [.ref h_line, .ref h_factSets, .int v_markedPlus, .int v_markedMinus, .ref h_program, .ref h_deduction])), (h_program, .inr (2, [.ref h_program_bodies, .int v_program_count])), (h_program_bodies, .inl (k_program_bodies, 2, .inl v_program_bodies))] sz) [(h_o, .inr (3, [.ref h_line, .ref h_factSets, .int v_markedPlus, .int v_markedMinus, .ref h_program, .ref h_deduction])), (h_program, .inr (2, [.ref h_program_bodies, .int v_program_count])), (h_program_bodies, .inl (k_program_bodies, 2, .inl v_program_bodies))]) (va_A [(h_o, .inr (3, [.ref h_line, .ref h_factSets, .int v_markedPlus, .int v_markedMinus, .ref h_program, .ref h_deduction])), (h_program, .inr (2, [.ref h_program_bodies, .int v_program_count])), (h_program_bodies, .inl (k_program_bodies, 2, .inl v_program_bodies))] sz)) 0 0 (va_A [(h_o, .inr (3, [.ref h_line, .ref h_factSets, .int v_markedPlus, .int v_markedMinus, .ref h_program, .ref h_deduction])), (h_program, .inr (2, [.ref h_program_bodies, .int v_program_count])), (h_program_bodies, .inl (k_program_bodies, 2, .inl v_program_bodies))] sz) := by
  refine Met.ofW (cc := b_H_literal) (maxL := 3) (ret := (some .int)) (by decide) rfl ?_
  intro p e s m args below meth c s₁ B hml hv
  obtain ⟨rfl, hsz, hP, hK, hD0⟩ := hv
  have hx := B.exec
  have hb := B.bytes
  have hr := B.returns
  have hts0 := atoms_spec (ws := w_H_literal) B.pre
  have hts : ∀ w ∈ lw_gd, w.before ([.ref h_o, .int x1, .int x2] : List Value).toArray s = true := fun w h9 => hts0 w (List.mem_cons_of_mem _ h9)
  have hown : s.vm.findClass R_H = some m.cls := findClass_of_methodNamed B.named
  have hlocks := B.notSynchronized
  subst hsz
  have hD := hD0.self (sz := s.heap.size)
  generalize hAe : va_A [(h_o, .inr (3, [.ref h_line, .ref h_factSets, .int v_markedPlus, .int v_markedMinus, .ref h_program, .ref h_deduction])), (h_program, .inr (2, [.ref h_program_bodies, .int v_program_count])), (h_program_bodies, .inl (k_program_bodies, 2, .inl v_program_bodies))] s.heap.size = A at hD ⊢
  have hA : ∀ q : Nat, s.heap.size ≤ q → A q := fun q h9 => by rw [← hAe]; exact Or.inr h9
  obtain ⟨H, eH⟩ : ∃ H : Heap, H = s.heap := ⟨_, rfl⟩
  have hS : va_S A s.heap H [] := by rw [eH]; exact va_S.rf
  have hP : va_P (dC, dI) classes [(h_o, .inr (3, [.ref h_line, .ref h_factSets, .int v_markedPlus, .int v_markedMinus, .ref h_program, .ref h_deduction])), (h_program, .inr (2, [.ref h_program_bodies, .int v_program_count])), (h_program_bodies, .inl (k_program_bodies, 2, .inl v_program_bodies))] H := by rw [eH]; exact hP
  refine W_gen (fun Q hQ => ?_)
  refine W_heap eH ?_
  clear eH
  have hl := lv_entry ([.ref h_o, .int x1, .int x2]) (n := 3) (Nat.le_of_ble_eq_true rfl)
  rw [lg_entry_eq]
  generalize (lg_sl ([.ref h_o, .int x1, .int x2]) ++ List.replicate (3 - (lg_sl ([.ref h_o, .int x1, .int x2])).length) Slot.unset).toArray = ls at hl ⊢
  have hl : lv_has ls 3 [(0, .ref h_o), (1, .int x1), (2, .int x2)] := hl
  unfold m_H_literal at h
  refine lv_aload_n hx hb d_H_literal_0 rfl (lv_at hl 0 rfl) ?_
  refine va_get (D := (dC, dI)) (ci := 3) (v := .ref h_program) (C := R_H) (T := F_H) (N := 6) hx hb hts lay_H hown hK hP 0 rfl rfl 4 (by decide) (hts _ flk_H_30) (fun _ h9 => h9) rfl d_H_literal_1 ?_
  refine lv_iload_n hx hb d_H_literal_4 rfl (lv_at hl 1 rfl) ?_
  have hPc := hP.sub (ws' := [(h_program, .inr (2, [.ref h_program_bodies, .int v_program_count])), (h_program_bodies, .inl (k_program_bodies, 2, .inl v_program_bodies))]) [1, 2] rfl
  have hDc := hD.sub (ws' := [(h_program, .inr (2, [.ref h_program_bodies, .int v_program_count])), (h_program_bodies, .inl (k_program_bodies, 2, .inl v_program_bodies))]) [1, 2] (by decide) rfl
  have hKc := hK.sub (tys' := [(k_program_bodies, .int)]) [0] rfl
  have hFc := va_free (wc := [(h_program, .inr (2, [.ref h_program_bodies, .int v_program_count])), (h_program_bodies, .inl (k_program_bodies, 2, .inl v_program_bodies))]) hD hS hA [1, 2] rfl
  obtain ⟨v_5, hc_5, h⟩ := of_bind h
  refine va_calli (va_runV (As := [.int x1]) (rest := []) ⟨hx, hb, hml, hown, hts⟩ (c_P_bodyOf l dC dI h_program h_program_bodies k_program_bodies H.size v_program_count v_program_bodies x1 v_5.1 v_5.2 hc_5) (cwV 1 hts (gV mlk_H_82 ins_P_bodyOf sel_P_bodyOf ini_P cod_P_bodyOf) rfl rfl rfl (by decide +kernel) ⟨Nat.le_of_ble_eq_true rfl, Nat.le_of_ble_eq_true rfl⟩) ⟨fun a U g mk q => by obtain ⟨q0, q1, qP, qK, qD⟩ := q; exact ⟨q0, q1, qP, va_K.moved (u := U) (U := U.calling g mk a) (Vm.Alike.refl U.vm) qK, qD⟩, va_recv hKc hPc (ci := 2) (q0 := 0) rfl rfl, fun U hU hW => ⟨rfl, by rw [hU], by rw [hU]; exact hPc, va_K.moved hW.alike hKc, hDc.weaken (fun _ _ _ _ => trivial)⟩⟩ rfl rfl hl.1 rfl (lv_room (Nat.le_of_ble_eq_true rfl)) d_H_literal_5 ⟨Nat.le_of_ble_eq_true rfl, Nat.le_of_ble_eq_true rfl⟩) hS (fun q _ h9 => hFc q h9) hFc (fun r_5 u t H1 locs ht hvm hw hB hz1 hk1 hS => ?_)
  obtain ⟨rfl, rfl⟩ := hw
  obtain ⟨hP1, hK1, hD1⟩ := hB
  rw [ht] at hP1
  obtain ⟨hP, hD⟩ := va_join (wr := [(h_o, .inr (3, [.ref h_line, .ref h_factSets, .int v_markedPlus, .int v_markedMinus, .ref h_program, .ref h_deduction]))]) (w1 := [(h_program, .inr (2, [.ref h_program_bodies, .int v_program_count])), (h_program_bodies, .inl (k_program_bodies, 2, .inl v_program_bodies))]) hP hD [1, 2] [0] rfl rfl (by decide) (by decide) hk1 hFc hP1 hD1
  have hP := hP.sub (ws' := [(h_o, .inr (3, [.ref h_line, .ref h_factSets, .int v_markedPlus, .int v_markedMinus, .ref h_program, .ref h_deduction])), (h_program, .inr (2, [.ref h_program_bodies, .int v_program_count])), (h_program_bodies, .inl (k_program_bodies, 2, .inl v_program_bodies))]) [0, 1, 2] rfl
  have hD := hD.sub (ws' := [(h_o, .inr (3, [.ref h_line, .ref h_factSets, .int v_markedPlus, .int v_markedMinus, .ref h_program, .ref h_deduction])), (h_program, .inr (2, [.ref h_program_bodies, .int v_program_count])), (h_program_bodies, .inl (k_program_bodies, 2, .inl v_program_bodies))]) [0, 1, 2] (by decide) rfl
  generalize H1 = H at hP hS ⊢
  refine lv_iload_n hx hb d_H_literal_8 rfl (lv_at hl 2 rfl) ?_
  have hPc := hP.sub (ws' := []) [] rfl
  have hDc := hD.sub (ws' := []) [] (by decide) rfl
  have hKc := hK.sub (tys' := []) [] rfl
  have hFc := va_free (wc := []) hD hS hA [] rfl
  obtain ⟨v_9, hc_9, h⟩ := of_bind h
  refine va_calli (va_runS (As := [.int v_5.1, .int x2]) (rest := []) ⟨hx, hb, hml, hown, hts⟩ (c_H_codeAt l dC dI H.size v_5.1 x2 v_9.1 v_9.2 hc_9) (va_cwS 2 hts (gS mlk_H_85 sta_H_codeAt ini_H cod_H_codeAt) rfl rfl rfl (by decide +kernel) ⟨Nat.le_of_ble_eq_true rfl, Nat.le_of_ble_eq_true rfl⟩) ⟨fun a U g mk q => by obtain ⟨q0, q1, qP, qK, qD⟩ := q; exact ⟨q0, q1, qP, va_K.moved (u := U) (U := U.calling g mk a) (Vm.Alike.refl U.vm) qK, qD⟩, fun U hU hW => ⟨rfl, by rw [hU], by rw [hU]; exact hPc, va_K.moved hW.alike hKc, hDc.weaken (fun _ _ _ _ => trivial)⟩⟩ rfl rfl hl.1 rfl (lv_room (Nat.le_of_ble_eq_true rfl)) d_H_literal_9 ⟨Nat.le_of_ble_eq_true rfl, Nat.le_of_ble_eq_true rfl⟩) hS (fun q _ h9 => hFc q h9) hFc (fun r_9 u t H1 locs ht hvm hw hB hz1 hk1 hS => ?_)
  obtain ⟨rfl, rfl⟩ := hw
  obtain ⟨hP1, hK1, hD1⟩ := hB
  rw [ht] at hP1
  obtain ⟨hP, hD⟩ := va_join (wr := [(h_o, .inr (3, [.ref h_line, .ref h_factSets, .int v_markedPlus, .int v_markedMinus, .ref h_program, .ref h_deduction])), (h_program, .inr (2, [.ref h_program_bodies, .int v_program_count])), (h_program_bodies, .inl (k_program_bodies, 2, .inl v_program_bodies))]) (w1 := []) hP hD [] [0, 1, 2] rfl rfl (by decide) (by decide) hk1 hFc hP1 hD1
  have hP := hP.sub (ws' := [(h_o, .inr (3, [.ref h_line, .ref h_factSets, .int v_markedPlus, .int v_markedMinus, .ref h_program, .ref h_deduction])), (h_program, .inr (2, [.ref h_program_bodies, .int v_program_count])), (h_program_bodies, .inl (k_program_bodies, 2, .inl v_program_bodies))]) [0, 1, 2] rfl
  have hD := hD.sub (ws' := [(h_o, .inr (3, [.ref h_line, .ref h_factSets, .int v_markedPlus, .int v_markedMinus, .ref h_program, .ref h_deduction])), (h_program, .inr (2, [.ref h_program_bodies, .int v_program_count])), (h_program_bodies, .inl (k_program_bodies, 2, .inl v_program_bodies))]) [0, 1, 2] (by decide) rfl
  generalize H1 = H at hP hS ⊢
  rw [hQ]
  exact W.iret (v := v_9.1) hx hb hr (fun t ht hW => ⟨⟨v_9.1, (), rfl, Prod.mk.inj (Option.some.inj h), by rw [ht]; exact hP, va_K.moved hW.alike hK, hD⟩, hS.F ht⟩) hS.2.2 d_H_literal_12
set_option maxHeartbeats 4000000 in
set_option maxRecDepth 100000 in
theorem c_H_letter (l : Launch) (dC : Nat → ClassId) (dI : Nat → Nat → Nat) (h_o h_line h_factSets h_program h_deduction h_program_bodies : Nat) (k_program_bodies : ClassId) (tb : Nat) (ak av : Nat → Nat) (sz : Nat) (v_markedPlus : Int32) (v_markedMinus : Int32) (v_program_count : Int32) (v_program_bodies : Nat → Int32) (x1 : Int32) (r0 : Int32) (u0 : Unit) (h : m_H_letter v_program_count v_program_bodies x1 = some (r0, u0)) : Met l y_H_letter w_H_letter ({ frames := 6, cells := 0, slots := 0, locals := 131 } : Room) (va_Pc [.ref h_o, .int x1] (fun U => U.heap.size = sz ∧ va_P (dC, dI) classes [(h_o, .inr (3, [.ref h_line, .ref h_factSets, .int v_markedPlus, .int v_markedMinus, .ref h_program, .ref h_deduction])), (h_program, .inr (2, [.ref h_program_bodies, .int v_program_count])), (h_program_bodies, .inl (k_program_bodies, 2, .inl v_program_bodies))] U.heap ∧ va_K (dC, dI) classes [(k_program_bodies, .int)] U ∧ va_D (fun _ => True) [(h_o, .inr (3, [.ref h_line, .ref h_factSets, .int v_markedPlus, .int v_markedMinus, .ref h_program, .ref h_deduction])), (h_program, .inr (2, [.ref h_program_bodies, .int v_program_count])), (h_program_bodies, .inl (k_program_bodies, 2, .inl v_program_bodies))] ∧ kw tb ak av (va_A [(h_o, .inr (3, [.ref h_line, .ref h_factSets, .int v_markedPlus, .int v_markedMinus, .ref h_program, .ref h_deduction])), (h_program, .inr (2, [.ref h_program_bodies, .int v_program_count])), (h_program_bodies, .inl (k_program_bodies, 2, .inl v_program_bodies))] sz) U)) (va_Qi (fun (r : Int32) (u : Unit) => r = r0 ∧ u = u0) (fun (u : Unit) (t : State) => va_P (dC, dI) classes [(h_o, .inr (3, [.ref h_line, .ref h_factSets, .int v_markedPlus, .int v_markedMinus, .ref h_program, .ref h_deduction])), (h_program, .inr (2, [.ref h_program_bodies, .int v_program_count])), (h_program_bodies, .inl (k_program_bodies, 2, .inl v_program_bodies))] t.heap ∧ va_K (dC, dI) classes [(k_program_bodies, .int)] t ∧ va_D (va_A [(h_o, .inr (3, [.ref h_line, .ref h_factSets, .int v_markedPlus, .int v_markedMinus, .ref h_program, .ref h_deduction])), (h_program, .inr (2, [.ref h_program_bodies, .int v_program_count])), (h_program_bodies, .inl (k_program_bodies, 2, .inl v_program_bodies))] sz) [(h_o, .inr (3, [.ref h_line, .ref h_factSets, .int v_markedPlus, .int v_markedMinus, .ref h_program, .ref h_deduction])), (h_program, .inr (2, [.ref h_program_bodies, .int v_program_count])), (h_program_bodies, .inl (k_program_bodies, 2, .inl v_program_bodies))]) (va_A [(h_o, .inr (3, [.ref h_line, .ref h_factSets, .int v_markedPlus, .int v_markedMinus, .ref h_program, .ref h_deduction])), (h_program, .inr (2, [.ref h_program_bodies, .int v_program_count])), (h_program_bodies, .inl (k_program_bodies, 2, .inl v_program_bodies))] sz)) 0 0 (va_A [(h_o, .inr (3, [.ref h_line, .ref h_factSets, .int v_markedPlus, .int v_markedMinus, .ref h_program, .ref h_deduction])), (h_program, .inr (2, [.ref h_program_bodies, .int v_program_count])), (h_program_bodies, .inl (k_program_bodies, 2, .inl v_program_bodies))] sz) := by
  refine Met.ofW (cc := b_H_letter) (maxL := 2) (ret := (some .int)) (by decide) rfl ?_
  intro p e s m args below meth c s₁ B hml hv
  obtain ⟨rfl, hsz, hP, hK, hD0, hC⟩ := hv
  have hx := B.exec
  have hb := B.bytes
  have hr := B.returns
  have hts0 := atoms_spec (ws := w_H_letter) B.pre
  have hts : ∀ w ∈ lw_gd, w.before ([.ref h_o, .int x1] : List Value).toArray s = true := fun w h9 => hts0 w (List.mem_cons_of_mem _ h9)
  have hown : s.vm.findClass R_H = some m.cls := findClass_of_methodNamed B.named
  have hlocks := B.notSynchronized
  subst hsz
  have hD := hD0.self (sz := s.heap.size)
  generalize hAe : va_A [(h_o, .inr (3, [.ref h_line, .ref h_factSets, .int v_markedPlus, .int v_markedMinus, .ref h_program, .ref h_deduction])), (h_program, .inr (2, [.ref h_program_bodies, .int v_program_count])), (h_program_bodies, .inl (k_program_bodies, 2, .inl v_program_bodies))] s.heap.size = A at hD hC ⊢
  have hA : ∀ q : Nat, s.heap.size ≤ q → A q := fun q h9 => by rw [← hAe]; exact Or.inr h9
  obtain ⟨H, eH⟩ : ∃ H : Heap, H = s.heap := ⟨_, rfl⟩
  have hS : va_S A s.heap H [] := by rw [eH]; exact va_S.rf
  have hP : va_P (dC, dI) classes [(h_o, .inr (3, [.ref h_line, .ref h_factSets, .int v_markedPlus, .int v_markedMinus, .ref h_program, .ref h_deduction])), (h_program, .inr (2, [.ref h_program_bodies, .int v_program_count])), (h_program_bodies, .inl (k_program_bodies, 2, .inl v_program_bodies))] H := by rw [eH]; exact hP
  refine W_gen (fun Q hQ => ?_)
  refine W_heap eH ?_
  clear eH
  have hl := lv_entry ([.ref h_o, .int x1]) (n := 2) (Nat.le_of_ble_eq_true rfl)
  rw [lg_entry_eq]
  generalize (lg_sl ([.ref h_o, .int x1]) ++ List.replicate (2 - (lg_sl ([.ref h_o, .int x1])).length) Slot.unset).toArray = ls at hl ⊢
  have hl : lv_has ls 2 [(0, .ref h_o), (1, .int x1)] := hl
  unfold m_H_letter at h
  refine lv_aload_n hx hb d_H_letter_0 rfl (lv_at hl 0 rfl) ?_
  refine va_get (D := (dC, dI)) (ci := 3) (v := .ref h_program) (C := R_H) (T := F_H) (N := 6) hx hb hts lay_H hown hK hP 0 rfl rfl 4 (by decide) (hts _ flk_H_30) (fun _ h9 => h9) rfl d_H_letter_1 ?_
  refine lv_iload_n hx hb d_H_letter_4 rfl (lv_at hl 1 rfl) ?_
  have hPc := hP.sub (ws' := [(h_program, .inr (2, [.ref h_program_bodies, .int v_program_count])), (h_program_bodies, .inl (k_program_bodies, 2, .inl v_program_bodies))]) [1, 2] rfl
  have hDc := hD.sub (ws' := [(h_program, .inr (2, [.ref h_program_bodies, .int v_program_count])), (h_program_bodies, .inl (k_program_bodies, 2, .inl v_program_bodies))]) [1, 2] (by decide) rfl
  have hKc := hK.sub (tys' := [(k_program_bodies, .int)]) [0] rfl
  have hFc := va_free (wc := [(h_program, .inr (2, [.ref h_program_bodies, .int v_program_count])), (h_program_bodies, .inl (k_program_bodies, 2, .inl v_program_bodies))]) hD hS hA [1, 2] rfl
  obtain ⟨v_5, hc_5, h⟩ := of_bind h
  refine va_calli (va_runV (As := [.int x1]) (rest := []) ⟨hx, hb, hml, hown, hts⟩ (c_P_letterAt l dC dI h_program h_program_bodies k_program_bodies tb ak av H.size v_program_count v_program_bodies x1 v_5.1 v_5.2 hc_5) (cwV 1 hts (gV mlk_H_88 ins_P_letterAt sel_P_letterAt ini_P cod_P_letterAt) rfl rfl rfl (by decide +kernel) ⟨Nat.le_of_ble_eq_true rfl, Nat.le_of_ble_eq_true rfl⟩) ⟨fun a U g mk q => by obtain ⟨q0, q1, qP, qK, qD, qC⟩ := q; exact ⟨q0, q1, qP, va_K.moved (u := U) (U := U.calling g mk a) (Vm.Alike.refl U.vm) qK, qD, kw_blind qC⟩, va_recv hKc hPc (ci := 2) (q0 := 0) rfl rfl, fun U hU hW => ⟨rfl, by rw [hU], by rw [hU]; exact hPc, va_K.moved hW.alike hKc, hDc.weaken (fun _ _ _ _ => trivial), kw_call hC hS hFc hU hW⟩⟩ rfl rfl hl.1 rfl (lv_room (Nat.le_of_ble_eq_true rfl)) d_H_letter_5 ⟨Nat.le_of_ble_eq_true rfl, Nat.le_of_ble_eq_true rfl⟩) hS (fun q _ h9 => hFc q h9) hFc (fun r_5 u t H1 locs ht hvm hw hB hz1 hk1 hS => ?_)
  obtain ⟨rfl, rfl⟩ := hw
  obtain ⟨hP1, hK1, hD1⟩ := hB
  rw [ht] at hP1
  obtain ⟨hP, hD⟩ := va_join (wr := [(h_o, .inr (3, [.ref h_line, .ref h_factSets, .int v_markedPlus, .int v_markedMinus, .ref h_program, .ref h_deduction]))]) (w1 := [(h_program, .inr (2, [.ref h_program_bodies, .int v_program_count])), (h_program_bodies, .inl (k_program_bodies, 2, .inl v_program_bodies))]) hP hD [1, 2] [0] rfl rfl (by decide) (by decide) hk1 hFc hP1 hD1
  have hP := hP.sub (ws' := [(h_o, .inr (3, [.ref h_line, .ref h_factSets, .int v_markedPlus, .int v_markedMinus, .ref h_program, .ref h_deduction])), (h_program, .inr (2, [.ref h_program_bodies, .int v_program_count])), (h_program_bodies, .inl (k_program_bodies, 2, .inl v_program_bodies))]) [0, 1, 2] rfl
  have hD := hD.sub (ws' := [(h_o, .inr (3, [.ref h_line, .ref h_factSets, .int v_markedPlus, .int v_markedMinus, .ref h_program, .ref h_deduction])), (h_program, .inr (2, [.ref h_program_bodies, .int v_program_count])), (h_program_bodies, .inl (k_program_bodies, 2, .inl v_program_bodies))]) [0, 1, 2] (by decide) rfl
  generalize H1 = H at hP hS ⊢
  rw [hQ]
  exact W.iret (v := v_5.1) hx hb hr (fun t ht hW => ⟨⟨v_5.1, (), rfl, Prod.mk.inj (Option.some.inj h), by rw [ht]; exact hP, va_K.moved hW.alike hK, hD⟩, hS.F ht⟩) hS.2.2 d_H_letter_8
end
section
theorem d_H_subsumes_0 : decode b_H_subsumes 0 = .ok (.aload_n 0, 1) := by decide +kernel
theorem d_H_subsumes_1 : decode b_H_subsumes 1 = .ok (.getfield 30, 3) := by decide +kernel
theorem d_H_subsumes_4 : decode b_H_subsumes 4 = .ok (.iload_n 1, 1) := by decide +kernel
theorem d_H_subsumes_5 : decode b_H_subsumes 5 = .ok (.invokevirtual 82, 3) := by decide +kernel
theorem d_H_subsumes_8 : decode b_H_subsumes 8 = .ok (.istore_n 3, 1) := by decide +kernel
theorem d_H_subsumes_9 : decode b_H_subsumes 9 = .ok (.aload_n 0, 1) := by decide +kernel
theorem d_H_subsumes_10 : decode b_H_subsumes 10 = .ok (.getfield 30, 3) := by decide +kernel
theorem d_H_subsumes_13 : decode b_H_subsumes 13 = .ok (.iload_n 2, 1) := by decide +kernel
theorem d_H_subsumes_14 : decode b_H_subsumes 14 = .ok (.invokevirtual 82, 3) := by decide +kernel
theorem d_H_subsumes_17 : decode b_H_subsumes 17 = .ok (.istore 4, 2) := by decide +kernel
theorem d_H_subsumes_19 : decode b_H_subsumes 19 = .ok (.iload_n 3, 1) := by decide +kernel
theorem d_H_subsumes_20 : decode b_H_subsumes 20 = .ok (.ifCond .eq 8, 3) := by decide +kernel
theorem d_H_subsumes_23 : decode b_H_subsumes 23 = .ok (.iload 4, 2) := by decide +kernel
theorem d_H_subsumes_25 : decode b_H_subsumes 25 = .ok (.ifCond .ne 5, 3) := by decide +kernel
theorem d_H_subsumes_28 : decode b_H_subsumes 28 = .ok (.iconst 0, 1) := by decide +kernel
theorem d_H_subsumes_29 : decode b_H_subsumes 29 = .ok (.ireturn, 1) := by decide +kernel
theorem d_H_subsumes_30 : decode b_H_subsumes 30 = .ok (.iconst 0, 1) := by decide +kernel
theorem d_H_subsumes_31 : decode b_H_subsumes 31 = .ok (.istore 5, 2) := by decide +kernel
theorem d_H_subsumes_33 : decode b_H_subsumes 33 = .ok (.iload 5, 2) := by decide +kernel
theorem d_H_subsumes_35 : decode b_H_subsumes 35 = .ok (.iconst 3, 1) := by decide +kernel
theorem d_H_subsumes_36 : decode b_H_subsumes 36 = .ok (.if_icmp .ge 25, 3) := by decide +kernel
theorem d_H_subsumes_39 : decode b_H_subsumes 39 = .ok (.iload_n 3, 1) := by decide +kernel
theorem d_H_subsumes_40 : decode b_H_subsumes 40 = .ok (.iload 5, 2) := by decide +kernel
theorem d_H_subsumes_42 : decode b_H_subsumes 42 = .ok (.invokestatic 91, 3) := by decide +kernel
theorem d_H_subsumes_45 : decode b_H_subsumes 45 = .ok (.iload 4, 2) := by decide +kernel
theorem d_H_subsumes_47 : decode b_H_subsumes 47 = .ok (.iconst (-1), 1) := by decide +kernel
theorem d_H_subsumes_48 : decode b_H_subsumes 48 = .ok (.ixor, 1) := by decide +kernel
theorem d_H_subsumes_49 : decode b_H_subsumes 49 = .ok (.iand, 1) := by decide +kernel
theorem d_H_subsumes_50 : decode b_H_subsumes 50 = .ok (.ifCond .ne 5, 3) := by decide +kernel
theorem d_H_subsumes_53 : decode b_H_subsumes 53 = .ok (.iconst 1, 1) := by decide +kernel
theorem d_H_subsumes_54 : decode b_H_subsumes 54 = .ok (.ireturn, 1) := by decide +kernel
theorem d_H_subsumes_55 : decode b_H_subsumes 55 = .ok (.iinc 5 1, 3) := by decide +kernel
theorem d_H_subsumes_58 : decode b_H_subsumes 58 = .ok (.goto (-25), 3) := by decide +kernel
theorem d_H_subsumes_61 : decode b_H_subsumes 61 = .ok (.iconst 0, 1) := by decide +kernel
theorem d_H_subsumes_62 : decode b_H_subsumes 62 = .ok (.ireturn, 1) := by decide +kernel
set_option maxHeartbeats 4000000 in
set_option maxRecDepth 100000 in
theorem c_H_subsumes (l : Launch) (dC : Nat → ClassId) (dI : Nat → Nat → Nat) (h_o h_line h_factSets h_program h_deduction h_program_bodies : Nat) (k_program_bodies : ClassId) (sz : Nat) (v_markedPlus : Int32) (v_markedMinus : Int32) (v_program_count : Int32) (v_program_bodies : Nat → Int32) (x1 : Int32) (x2 : Int32) (r0 : Int32) (u0 : Unit) (h : m_H_subsumes v_program_count v_program_bodies x1 x2 = some (r0, u0)) : Met l y_H_subsumes w_H_subsumes ({ frames := 3, cells := 0, slots := 0, locals := 67 } : Room) (va_Pc [.ref h_o, .int x1, .int x2] (fun U => U.heap.size = sz ∧ va_P (dC, dI) classes [(h_o, .inr (3, [.ref h_line, .ref h_factSets, .int v_markedPlus, .int v_markedMinus, .ref h_program, .ref h_deduction])), (h_program, .inr (2, [.ref h_program_bodies, .int v_program_count])), (h_program_bodies, .inl (k_program_bodies, 2, .inl v_program_bodies))] U.heap ∧ va_K (dC, dI) classes [(k_program_bodies, .int)] U ∧ va_D (fun _ => True) [(h_o, .inr (3, [.ref h_line, .ref h_factSets, .int v_markedPlus, .int v_markedMinus, .ref h_program, .ref h_deduction])), (h_program, .inr (2, [.ref h_program_bodies, .int v_program_count])), (h_program_bodies, .inl (k_program_bodies, 2, .inl v_program_bodies))])) (va_Qi (fun (r : Int32) (u : Unit) => r = r0 ∧ u = u0) (fun (u : Unit) (t : State) => va_P (dC, dI) classes [(h_o, .inr (3, [.ref h_line, .ref h_factSets, .int v_markedPlus, .int v_markedMinus, .ref h_program, .ref h_deduction])), (h_program, .inr (2, [.ref h_program_bodies, .int v_program_count])), (h_program_bodies, .inl (k_program_bodies, 2, .inl v_program_bodies))] t.heap ∧ va_K (dC, dI) classes [(k_program_bodies, .int)] t ∧ va_D (va_A [(h_o, .inr (3, [.ref h_line, .ref h_factSets, .int v_markedPlus, .int v_markedMinus, .ref h_program, .ref h_deduction])), (h_program, .inr (2, [.ref h_program_bodies, .int v_program_count])), (h_program_bodies, .inl (k_program_bodies, 2, .inl v_program_bodies))] sz) [(h_o, .inr (3, [.ref h_line, .ref h_factSets, .int v_markedPlus, .int v_markedMinus, .ref h_program, .ref h_deduction])), (h_program, .inr (2, [.ref h_program_bodies, .int v_program_count])), (h_program_bodies, .inl (k_program_bodies, 2, .inl v_program_bodies))]) (va_A [(h_o, .inr (3, [.ref h_line, .ref h_factSets, .int v_markedPlus, .int v_markedMinus, .ref h_program, .ref h_deduction])), (h_program, .inr (2, [.ref h_program_bodies, .int v_program_count])), (h_program_bodies, .inl (k_program_bodies, 2, .inl v_program_bodies))] sz)) 0 0 (va_A [(h_o, .inr (3, [.ref h_line, .ref h_factSets, .int v_markedPlus, .int v_markedMinus, .ref h_program, .ref h_deduction])), (h_program, .inr (2, [.ref h_program_bodies, .int v_program_count])), (h_program_bodies, .inl (k_program_bodies, 2, .inl v_program_bodies))] sz) := by
  refine Met.ofW (cc := b_H_subsumes) (maxL := 6) (ret := (some .boolean)) (by decide) rfl ?_
  intro p e s m args below meth c s₁ B hml hv
  obtain ⟨rfl, hsz, hP, hK, hD0⟩ := hv
  have hx := B.exec
  have hb := B.bytes
  have hr := B.returns
  have hts0 := atoms_spec (ws := w_H_subsumes) B.pre
  have hts : ∀ w ∈ lw_gd, w.before ([.ref h_o, .int x1, .int x2] : List Value).toArray s = true := fun w h9 => hts0 w (List.mem_cons_of_mem _ h9)
  have hown : s.vm.findClass R_H = some m.cls := findClass_of_methodNamed B.named
  have hlocks := B.notSynchronized
  subst hsz
  have hD := hD0.self (sz := s.heap.size)
  generalize hAe : va_A [(h_o, .inr (3, [.ref h_line, .ref h_factSets, .int v_markedPlus, .int v_markedMinus, .ref h_program, .ref h_deduction])), (h_program, .inr (2, [.ref h_program_bodies, .int v_program_count])), (h_program_bodies, .inl (k_program_bodies, 2, .inl v_program_bodies))] s.heap.size = A at hD ⊢
  have hA : ∀ q : Nat, s.heap.size ≤ q → A q := fun q h9 => by rw [← hAe]; exact Or.inr h9
  obtain ⟨H, eH⟩ : ∃ H : Heap, H = s.heap := ⟨_, rfl⟩
  have hS : va_S A s.heap H [] := by rw [eH]; exact va_S.rf
  have hP : va_P (dC, dI) classes [(h_o, .inr (3, [.ref h_line, .ref h_factSets, .int v_markedPlus, .int v_markedMinus, .ref h_program, .ref h_deduction])), (h_program, .inr (2, [.ref h_program_bodies, .int v_program_count])), (h_program_bodies, .inl (k_program_bodies, 2, .inl v_program_bodies))] H := by rw [eH]; exact hP
  refine W_gen (fun Q hQ => ?_)
  refine W_heap eH ?_
  clear eH
  have hl := lv_entry ([.ref h_o, .int x1, .int x2]) (n := 6) (Nat.le_of_ble_eq_true rfl)
  rw [lg_entry_eq]
  generalize (lg_sl ([.ref h_o, .int x1, .int x2]) ++ List.replicate (6 - (lg_sl ([.ref h_o, .int x1, .int x2])).length) Slot.unset).toArray = ls at hl ⊢
  have hl : lv_has ls 6 [(0, .ref h_o), (1, .int x1), (2, .int x2)] := hl
  have J_33 : ∀ (n : Nat) (z3 : Int32) (z4 : Int32) (z5 : Int32), m_H_subsumes_33 v_program_count v_program_bodies n z3 z4 z5 = some (r0, u0) → ∀ (H : Heap) (locs : List Loc), va_P (dC, dI) classes [(h_o, .inr (3, [.ref h_line, .ref h_factSets, .int v_markedPlus, .int v_markedMinus, .ref h_program, .ref h_deduction])), (h_program, .inr (2, [.ref h_program_bodies, .int v_program_count])), (h_program_bodies, .inl (k_program_bodies, 2, .inl v_program_bodies))] H → va_D A [(h_o, .inr (3, [.ref h_line, .ref h_factSets, .int v_markedPlus, .int v_markedMinus, .ref h_program, .ref h_deduction])), (h_program, .inr (2, [.ref h_program_bodies, .int v_program_count])), (h_program_bodies, .inl (k_program_bodies, 2, .inl v_program_bodies))] → va_S A s.heap H locs → ∀ (ls : Array Slot), lv_has ls 6 [(3, .int z3), (4, .int z4), (5, .int z5)] → W p l e (headSpec w_H_subsumes ({ frames := 3, cells := 0, slots := 0, locals := 67 } : Room)).room s m ([.ref h_o, .int x1, .int x2] : List Value).toArray below meth c H locs 0 0 Q (F0 m 33 ls []) := by
    intro n
    induction n with
    | zero => intro z3 z4 z5 h; exact absurd h (by unfold m_H_subsumes_33; exact fun h9 => nomatch h9)
    | succ n ih =>
      intro z3 z4 z5 h H locs hP hD hS ls hl
      unfold m_H_subsumes_33 at h
      refine lv_iload hx hb d_H_subsumes_33 (lv_at hl 2 rfl) ?_
      refine lv_iconst (v := (nI 3)) hx hb d_H_subsumes_35 (by decide) ?_
      refine lv_icmp_ge (tgt := 61) hx hb d_H_subsumes_36 (by decide) (fun c_36 => ?_) (fun c_36 => ?_)
      · have h := of_pos h c_36
        refine lv_iconst (v := (nI 0)) hx hb d_H_subsumes_61 (by decide) ?_
        rw [hQ]
        exact W.zret (v := (nI 0)) hx hb hr rfl (fun t ht hW => ⟨⟨(nI 0), (), rfl, Prod.mk.inj (Option.some.inj h), by rw [ht]; exact hP, va_K.moved hW.alike hK, hD⟩, hS.F ht⟩) hS.2.2 d_H_subsumes_62
      · have h := of_neg h c_36
        refine lv_iload_n hx hb d_H_subsumes_39 rfl (lv_at hl 0 rfl) ?_
        refine lv_iload hx hb d_H_subsumes_40 (lv_at hl 2 rfl) ?_
        have hPc := hP.sub (ws' := []) [] rfl
        have hDc := hD.sub (ws' := []) [] (by decide) rfl
        have hKc := hK.sub (tys' := []) [] rfl
        have hFc := va_free (wc := []) hD hS hA [] rfl
        obtain ⟨v_42, hc_42, h⟩ := of_bind h
        refine va_calli (va_runS (As := [.int z3, .int z5]) (rest := []) ⟨hx, hb, hml, hown, hts⟩ (c_H_withVariableForZ l dC dI H.size z3 z5 v_42.1 v_42.2 hc_42) (va_cwS 2 hts (gS mlk_H_91 sta_H_withVariableForZ ini_H cod_H_withVariableForZ) rfl rfl rfl (by decide +kernel) ⟨Nat.le_of_ble_eq_true rfl, Nat.le_of_ble_eq_true rfl⟩) ⟨fun a U g mk q => by obtain ⟨q0, q1, qP, qK, qD⟩ := q; exact ⟨q0, q1, qP, va_K.moved (u := U) (U := U.calling g mk a) (Vm.Alike.refl U.vm) qK, qD⟩, fun U hU hW => ⟨rfl, by rw [hU], by rw [hU]; exact hPc, va_K.moved hW.alike hKc, hDc.weaken (fun _ _ _ _ => trivial)⟩⟩ rfl rfl hl.1 rfl (lv_room (Nat.le_of_ble_eq_true rfl)) d_H_subsumes_42 ⟨Nat.le_of_ble_eq_true rfl, Nat.le_of_ble_eq_true rfl⟩) hS (fun q _ h9 => hFc q h9) hFc (fun r_42 u t H1 locs ht hvm hw hB hz1 hk1 hS => ?_)
        obtain ⟨rfl, rfl⟩ := hw
        obtain ⟨hP1, hK1, hD1⟩ := hB
        rw [ht] at hP1
        obtain ⟨hP, hD⟩ := va_join (wr := [(h_o, .inr (3, [.ref h_line, .ref h_factSets, .int v_markedPlus, .int v_markedMinus, .ref h_program, .ref h_deduction])), (h_program, .inr (2, [.ref h_program_bodies, .int v_program_count])), (h_program_bodies, .inl (k_program_bodies, 2, .inl v_program_bodies))]) (w1 := []) hP hD [] [0, 1, 2] rfl rfl (by decide) (by decide) hk1 hFc hP1 hD1
        have hP := hP.sub (ws' := [(h_o, .inr (3, [.ref h_line, .ref h_factSets, .int v_markedPlus, .int v_markedMinus, .ref h_program, .ref h_deduction])), (h_program, .inr (2, [.ref h_program_bodies, .int v_program_count])), (h_program_bodies, .inl (k_program_bodies, 2, .inl v_program_bodies))]) [0, 1, 2] rfl
        have hD := hD.sub (ws' := [(h_o, .inr (3, [.ref h_line, .ref h_factSets, .int v_markedPlus, .int v_markedMinus, .ref h_program, .ref h_deduction])), (h_program, .inr (2, [.ref h_program_bodies, .int v_program_count])), (h_program_bodies, .inl (k_program_bodies, 2, .inl v_program_bodies))]) [0, 1, 2] (by decide) rfl
        generalize H1 = H at hP hS ⊢
        refine lv_iload hx hb d_H_subsumes_45 (lv_at hl 1 rfl) ?_
        refine lv_iconst (v := (-1 : Int32)) hx hb d_H_subsumes_47 (by decide) ?_
        refine lv_ixor hx hb d_H_subsumes_48 ?_
        refine lv_iand hx hb d_H_subsumes_49 ?_
        refine lv_if_ne (tgt := 55) hx hb d_H_subsumes_50 (by decide) (fun c_50 => ?_) (fun c_50 => ?_)
        · have h := of_neg h c_50
          refine lv_iinc (v := z5 + (nI 1)) (lv' := [(5, .int (z5 + (nI 1))), (3, .int z3), (4, .int z4)]) hx hb d_H_subsumes_55 hl (k := 2) rfl rfl (by decide) rfl (fun ls hl => ?_)
          refine lv_goto (tgt := 33) hx hb d_H_subsumes_58 (by decide) ?_
          exact ih z3 z4 (z5 + (nI 1)) h _ _ hP hD hS ls (lv_sub hl [1, 2, 0] rfl)
        · have h := of_pos h c_50
          refine lv_iconst (v := (nI 1)) hx hb d_H_subsumes_53 (by decide) ?_
          rw [hQ]
          exact W.zret (v := (nI 1)) hx hb hr rfl (fun t ht hW => ⟨⟨(nI 1), (), rfl, Prod.mk.inj (Option.some.inj h), by rw [ht]; exact hP, va_K.moved hW.alike hK, hD⟩, hS.F ht⟩) hS.2.2 d_H_subsumes_54
  unfold m_H_subsumes at h
  refine lv_aload_n hx hb d_H_subsumes_0 rfl (lv_at hl 0 rfl) ?_
  refine va_get (D := (dC, dI)) (ci := 3) (v := .ref h_program) (C := R_H) (T := F_H) (N := 6) hx hb hts lay_H hown hK hP 0 rfl rfl 4 (by decide) (hts _ flk_H_30) (fun _ h9 => h9) rfl d_H_subsumes_1 ?_
  refine lv_iload_n hx hb d_H_subsumes_4 rfl (lv_at hl 1 rfl) ?_
  have hPc := hP.sub (ws' := [(h_program, .inr (2, [.ref h_program_bodies, .int v_program_count])), (h_program_bodies, .inl (k_program_bodies, 2, .inl v_program_bodies))]) [1, 2] rfl
  have hDc := hD.sub (ws' := [(h_program, .inr (2, [.ref h_program_bodies, .int v_program_count])), (h_program_bodies, .inl (k_program_bodies, 2, .inl v_program_bodies))]) [1, 2] (by decide) rfl
  have hKc := hK.sub (tys' := [(k_program_bodies, .int)]) [0] rfl
  have hFc := va_free (wc := [(h_program, .inr (2, [.ref h_program_bodies, .int v_program_count])), (h_program_bodies, .inl (k_program_bodies, 2, .inl v_program_bodies))]) hD hS hA [1, 2] rfl
  obtain ⟨v_5, hc_5, h⟩ := of_bind h
  refine va_calli (va_runV (As := [.int x1]) (rest := []) ⟨hx, hb, hml, hown, hts⟩ (c_P_bodyOf l dC dI h_program h_program_bodies k_program_bodies H.size v_program_count v_program_bodies x1 v_5.1 v_5.2 hc_5) (cwV 1 hts (gV mlk_H_82 ins_P_bodyOf sel_P_bodyOf ini_P cod_P_bodyOf) rfl rfl rfl (by decide +kernel) ⟨Nat.le_of_ble_eq_true rfl, Nat.le_of_ble_eq_true rfl⟩) ⟨fun a U g mk q => by obtain ⟨q0, q1, qP, qK, qD⟩ := q; exact ⟨q0, q1, qP, va_K.moved (u := U) (U := U.calling g mk a) (Vm.Alike.refl U.vm) qK, qD⟩, va_recv hKc hPc (ci := 2) (q0 := 0) rfl rfl, fun U hU hW => ⟨rfl, by rw [hU], by rw [hU]; exact hPc, va_K.moved hW.alike hKc, hDc.weaken (fun _ _ _ _ => trivial)⟩⟩ rfl rfl hl.1 rfl (lv_room (Nat.le_of_ble_eq_true rfl)) d_H_subsumes_5 ⟨Nat.le_of_ble_eq_true rfl, Nat.le_of_ble_eq_true rfl⟩) hS (fun q _ h9 => hFc q h9) hFc (fun r_5 u t H1 locs ht hvm hw hB hz1 hk1 hS => ?_)
  obtain ⟨rfl, rfl⟩ := hw
  obtain ⟨hP1, hK1, hD1⟩ := hB
  rw [ht] at hP1
  obtain ⟨hP, hD⟩ := va_join (wr := [(h_o, .inr (3, [.ref h_line, .ref h_factSets, .int v_markedPlus, .int v_markedMinus, .ref h_program, .ref h_deduction]))]) (w1 := [(h_program, .inr (2, [.ref h_program_bodies, .int v_program_count])), (h_program_bodies, .inl (k_program_bodies, 2, .inl v_program_bodies))]) hP hD [1, 2] [0] rfl rfl (by decide) (by decide) hk1 hFc hP1 hD1
  have hP := hP.sub (ws' := [(h_o, .inr (3, [.ref h_line, .ref h_factSets, .int v_markedPlus, .int v_markedMinus, .ref h_program, .ref h_deduction])), (h_program, .inr (2, [.ref h_program_bodies, .int v_program_count])), (h_program_bodies, .inl (k_program_bodies, 2, .inl v_program_bodies))]) [0, 1, 2] rfl
  have hD := hD.sub (ws' := [(h_o, .inr (3, [.ref h_line, .ref h_factSets, .int v_markedPlus, .int v_markedMinus, .ref h_program, .ref h_deduction])), (h_program, .inr (2, [.ref h_program_bodies, .int v_program_count])), (h_program_bodies, .inl (k_program_bodies, 2, .inl v_program_bodies))]) [0, 1, 2] (by decide) rfl
  generalize H1 = H at hP hS ⊢
  refine lv_istore_n (lv' := [(3, .int v_5.1), (0, .ref h_o), (1, .int x1), (2, .int x2)]) hx hb d_H_subsumes_8 rfl hl (by decide) rfl (fun ls hl => ?_)
  refine lv_aload_n hx hb d_H_subsumes_9 rfl (lv_at hl 1 rfl) ?_
  refine va_get (D := (dC, dI)) (ci := 3) (v := .ref h_program) (C := R_H) (T := F_H) (N := 6) hx hb hts lay_H hown hK hP 0 rfl rfl 4 (by decide) (hts _ flk_H_30) (fun _ h9 => h9) rfl d_H_subsumes_10 ?_
  refine lv_iload_n hx hb d_H_subsumes_13 rfl (lv_at hl 3 rfl) ?_
  have hPc := hP.sub (ws' := [(h_program, .inr (2, [.ref h_program_bodies, .int v_program_count])), (h_program_bodies, .inl (k_program_bodies, 2, .inl v_program_bodies))]) [1, 2] rfl
  have hDc := hD.sub (ws' := [(h_program, .inr (2, [.ref h_program_bodies, .int v_program_count])), (h_program_bodies, .inl (k_program_bodies, 2, .inl v_program_bodies))]) [1, 2] (by decide) rfl
  have hKc := hK.sub (tys' := [(k_program_bodies, .int)]) [0] rfl
  have hFc := va_free (wc := [(h_program, .inr (2, [.ref h_program_bodies, .int v_program_count])), (h_program_bodies, .inl (k_program_bodies, 2, .inl v_program_bodies))]) hD hS hA [1, 2] rfl
  obtain ⟨v_14, hc_14, h⟩ := of_bind h
  refine va_calli (va_runV (As := [.int x2]) (rest := []) ⟨hx, hb, hml, hown, hts⟩ (c_P_bodyOf l dC dI h_program h_program_bodies k_program_bodies H.size v_program_count v_program_bodies x2 v_14.1 v_14.2 hc_14) (cwV 1 hts (gV mlk_H_82 ins_P_bodyOf sel_P_bodyOf ini_P cod_P_bodyOf) rfl rfl rfl (by decide +kernel) ⟨Nat.le_of_ble_eq_true rfl, Nat.le_of_ble_eq_true rfl⟩) ⟨fun a U g mk q => by obtain ⟨q0, q1, qP, qK, qD⟩ := q; exact ⟨q0, q1, qP, va_K.moved (u := U) (U := U.calling g mk a) (Vm.Alike.refl U.vm) qK, qD⟩, va_recv hKc hPc (ci := 2) (q0 := 0) rfl rfl, fun U hU hW => ⟨rfl, by rw [hU], by rw [hU]; exact hPc, va_K.moved hW.alike hKc, hDc.weaken (fun _ _ _ _ => trivial)⟩⟩ rfl rfl hl.1 rfl (lv_room (Nat.le_of_ble_eq_true rfl)) d_H_subsumes_14 ⟨Nat.le_of_ble_eq_true rfl, Nat.le_of_ble_eq_true rfl⟩) hS (fun q _ h9 => hFc q h9) hFc (fun r_14 u t H1 locs ht hvm hw hB hz1 hk1 hS => ?_)
  obtain ⟨rfl, rfl⟩ := hw
  obtain ⟨hP1, hK1, hD1⟩ := hB
  rw [ht] at hP1
  obtain ⟨hP, hD⟩ := va_join (wr := [(h_o, .inr (3, [.ref h_line, .ref h_factSets, .int v_markedPlus, .int v_markedMinus, .ref h_program, .ref h_deduction]))]) (w1 := [(h_program, .inr (2, [.ref h_program_bodies, .int v_program_count])), (h_program_bodies, .inl (k_program_bodies, 2, .inl v_program_bodies))]) hP hD [1, 2] [0] rfl rfl (by decide) (by decide) hk1 hFc hP1 hD1
  have hP := hP.sub (ws' := [(h_o, .inr (3, [.ref h_line, .ref h_factSets, .int v_markedPlus, .int v_markedMinus, .ref h_program, .ref h_deduction])), (h_program, .inr (2, [.ref h_program_bodies, .int v_program_count])), (h_program_bodies, .inl (k_program_bodies, 2, .inl v_program_bodies))]) [0, 1, 2] rfl
  have hD := hD.sub (ws' := [(h_o, .inr (3, [.ref h_line, .ref h_factSets, .int v_markedPlus, .int v_markedMinus, .ref h_program, .ref h_deduction])), (h_program, .inr (2, [.ref h_program_bodies, .int v_program_count])), (h_program_bodies, .inl (k_program_bodies, 2, .inl v_program_bodies))]) [0, 1, 2] (by decide) rfl
  generalize H1 = H at hP hS ⊢
  refine lv_istore (lv' := [(4, .int v_14.1), (3, .int v_5.1), (0, .ref h_o), (1, .int x1), (2, .int x2)]) hx hb d_H_subsumes_17 hl (by decide) rfl (fun ls hl => ?_)
  refine lv_iload_n hx hb d_H_subsumes_19 rfl (lv_at hl 1 rfl) ?_
  refine lv_if_eq (tgt := 28) hx hb d_H_subsumes_20 (by decide) (fun c_20 => ?_) (fun c_20 => ?_)
  · have h := of_pos h c_20
    refine lv_iconst (v := (nI 0)) hx hb d_H_subsumes_28 (by decide) ?_
    rw [hQ]
    exact W.zret (v := (nI 0)) hx hb hr rfl (fun t ht hW => ⟨⟨(nI 0), (), rfl, Prod.mk.inj (Option.some.inj h), by rw [ht]; exact hP, va_K.moved hW.alike hK, hD⟩, hS.F ht⟩) hS.2.2 d_H_subsumes_29
  · have h := of_neg h c_20
    refine lv_iload hx hb d_H_subsumes_23 (lv_at hl 0 rfl) ?_
    refine lv_if_ne (tgt := 30) hx hb d_H_subsumes_25 (by decide) (fun c_25 => ?_) (fun c_25 => ?_)
    · have h := of_neg h c_25
      refine lv_iconst (v := (nI 0)) hx hb d_H_subsumes_30 (by decide) ?_
      refine lv_istore (lv' := [(5, .int (nI 0)), (4, .int v_14.1), (3, .int v_5.1), (0, .ref h_o), (1, .int x1), (2, .int x2)]) hx hb d_H_subsumes_31 hl (by decide) rfl (fun ls hl => ?_)
      exact J_33 40 v_5.1 v_14.1 (nI 0) h _ _ hP hD hS ls (lv_sub hl [2, 1, 0] rfl)
    · have h := of_pos h c_25
      refine lv_iconst (v := (nI 0)) hx hb d_H_subsumes_28 (by decide) ?_
      rw [hQ]
      exact W.zret (v := (nI 0)) hx hb hr rfl (fun t ht hW => ⟨⟨(nI 0), (), rfl, Prod.mk.inj (Option.some.inj h), by rw [ht]; exact hP, va_K.moved hW.alike hK, hD⟩, hS.F ht⟩) hS.2.2 d_H_subsumes_29
end
