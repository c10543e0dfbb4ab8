-- small rows for the mirrors
def inR (i : Int32) (n : Nat) : Bool := decide (0 ≤ i.toInt) && decide (i.toInt < n)
theorem inR_iff {i : Int32} {n : Nat} : inR i n = true ↔ 0 ≤ i.toInt ∧ i.toInt < n := by simp [inR]
theorem inR_in {i : Int32} {n : Nat} (h : inR i n = true) : vp_in i n := vp_in_iff.mpr (inR_iff.mp h)
def isZ (x : Int32) : Bool := decide (x = 0) || decide (x = 1)
theorem isZ_iff {x : Int32} : isZ x = true ↔ x = 0 ∨ x = 1 := by simp [isZ]
theorem nrz {x : Int32} (h : isZ x = true) : narrow .boolean (.int x) = .int x := by
  rcases isZ_iff.mp h with rfl | rfl <;> rfl
theorem nar_z {x : Int32} (h : isZ x = true) : vp_nar .boolean x = x := by
  rcases isZ_iff.mp h with rfl | rfl <;> rfl
def isC (x : Int32) : Bool := decide (0 ≤ x.toInt) && decide (x.toInt < 65536)
theorem isC_iff {x : Int32} : isC x = true ↔ 0 ≤ x.toInt ∧ x.toInt < 65536 := by simp [isC]
theorem isC_nI {x : Int32} (h : isC x = true) : ∃ q : Nat, q < 65536 ∧ x = nI q := by
  obtain ⟨h1, h2⟩ := isC_iff.mp h
  exact vp_in_of (vp_in_iff.mpr ⟨h1, h2⟩) (by decide)
theorem nrc {x : Int32} (h : isC x = true) : narrow .char (.int x) = .int x := by
  obtain ⟨q, hq, rfl⟩ := isC_nI h
  exact (pk_charN hq).1
theorem nar_c {x : Int32} (h : isC x = true) : vp_nar .char x = x := by
  unfold vp_nar
  rw [nrc h]
def irm (x y : Int32) : Int32 := x - x / y * y
def iush (x y : Int32) : Int32 := (x.toUInt32 >>> (y.toUInt32 &&& Int32.toUInt32 31)).toInt32
def lush (x : Int64) (y : Int32) : Int64 := (x.toUInt64 >>> (y.toInt64.toUInt64 &&& Int64.toUInt64 63)).toInt64
def i2c (x : Int32) : Int32 := (x.toUInt32 % 65536).toInt32
theorem of_pos {α : Type} {c : Prop} [Decidable c] {a b r : α} (h : (if c then a else b) = r) (hc : c) : a = r := by rw [if_pos hc] at h; exact h
theorem of_neg {α : Type} {c : Prop} [Decidable c] {a b r : α} (h : (if c then a else b) = r) (hc : ¬ c) : b = r := by rw [if_neg hc] at h; exact h
theorem of_guard {α : Type} {b : Bool} {x : Option α} {r : α} (h : (if b = true then x else none) = some r) : b = true ∧ x = some r := by
  by_cases hb : b = true
  · rw [if_pos hb] at h; exact ⟨hb, h⟩
  · rw [if_neg hb] at h; cases h
theorem of_bind {α β : Type} {x : Option α} {f : α → Option β} {r : β} (h : Option.bind x f = some r) : ∃ v, x = some v ∧ f v = some r := by
  cases x with
  | none => cases h
  | some v => exact ⟨v, rfl, h⟩
def letN {α β : Type} (x : α) (f : α → β) : β := f x
theorem of_let {α β : Type} {x y : α} {f : α → β} {r : β} (h : letN x f = r) (e : y = x) : f y = r := by subst e; exact h
theorem W_gen {p : Program} {l : Launch} {e : Env} {R : Room} {s : State} {m : MethodId} {args : Array Value} {below : List Frame} {meth : Method} {c : Code} {H : Heap} {locs : List Loc} {cells slots : Nat} {Q0 : State → Prop} {g : JFrame} (k : ∀ Q : State → Prop, Q = Q0 → W p l e R s m args below meth c H locs cells slots Q g) : W p l e R s m args below meth c H locs cells slots Q0 g := k Q0 rfl
theorem W_heap {p : Program} {l : Launch} {e : Env} {R : Room} {s : State} {m : MethodId} {args : Array Value} {below : List Frame} {meth : Method} {c : Code} {H H0 : Heap} {locs : List Loc} {cells slots : Nat} {Q : State → Prop} {g : JFrame} (e1 : H = H0) (k : W p l e R s m args below meth c H locs cells slots Q g) : W p l e R s m args below meth c H0 locs cells slots Q g := e1 ▸ k
def bt (x : Int32) (i : Nat) : Bool := x.toBitVec.getLsbD i
theorem b_ext {x y : Int32} (h : ∀ i, i < 32 → bt x i = bt y i) : x = y := Int32.toBitVec_inj.mp (BitVec.eq_of_getLsbD_eq (fun i hi => h i hi))
theorem b_or (x y : Int32) (i : Nat) : bt (x ||| y) i = (bt x i || bt y i) := by unfold bt; rw [Int32.toBitVec_or, BitVec.getLsbD_or]
theorem b_and (x y : Int32) (i : Nat) : bt (x &&& y) i = (bt x i && bt y i) := by unfold bt; rw [Int32.toBitVec_and, BitVec.getLsbD_and]
theorem b_xor (x y : Int32) (i : Nat) : bt (x ^^^ y) i = (bt x i ^^ bt y i) := by unfold bt; rw [Int32.toBitVec_xor, BitVec.getLsbD_xor]
theorem b_big {x : Int32} {i : Nat} (h : 32 ≤ i) : bt x i = false := BitVec.getLsbD_of_ge _ _ h
theorem b_255 (i : Nat) : bt 255 i = decide (i < 8) := by
  rcases Nat.lt_or_ge i 32 with h | h
  · exact (by decide +kernel : ∀ i, i < 32 → bt 255 i = decide (i < 8)) i h
  · rw [b_big h, decide_eq_false (by omega)]
theorem b_65535 (i : Nat) : bt 65535 i = decide (i < 16) := by
  rcases Nat.lt_or_ge i 32 with h | h
  · exact (by decide +kernel : ∀ i, i < 32 → bt 65535 i = decide (i < 16)) i h
  · rw [b_big h, decide_eq_false (by omega)]
theorem b_m1 : ∀ i, i < 32 → bt (-1) i = true := by decide +kernel
theorem b_0 (i : Nat) : bt 0 i = false := BitVec.getLsbD_zero
theorem s_l : ∀ n, n < 32 → ((nI n &&& 31).toBitVec.smod 32).toNat = n := by decide +kernel
theorem s_u : ∀ n, n < 32 → (((nI n).toUInt32 &&& Int32.toUInt32 31).toBitVec % 32).toNat = n := by decide +kernel
theorem b_shl (n : Nat) (hn : n < 32) (x : Int32) {i : Nat} (hi : i < 32) : bt (x <<< (nI n &&& 31)) i = (decide (n ≤ i) && bt x (i - n)) := by
  unfold bt
  rw [Int32.toBitVec_shiftLeft]
  show (x.toBitVec <<< ((nI n &&& 31).toBitVec.smod 32).toNat).getLsbD i = _
  rw [s_l n hn, BitVec.getLsbD_shiftLeft]
  rcases Nat.lt_or_ge i n with h | h
  · simp [h, Nat.not_le.mpr h]
  · simp [hi, h, Nat.not_lt.mpr h]
theorem b_ushr (n : Nat) (hn : n < 32) (x : Int32) (i : Nat) : bt ((x.toUInt32 >>> ((nI n).toUInt32 &&& Int32.toUInt32 31)).toInt32) i = bt x (n + i) := by
  show (x.toUInt32 >>> ((nI n).toUInt32 &&& Int32.toUInt32 31)).toBitVec.getLsbD i = x.toUInt32.toBitVec.getLsbD (n + i)
  rw [UInt32.toBitVec_shiftRight]
  show (x.toUInt32.toBitVec >>> (((nI n).toUInt32 &&& Int32.toUInt32 31).toBitVec % 32).toNat).getLsbD i = _
  rw [s_u n hn, BitVec.getLsbD_ushiftRight]
theorem b_sshr (n : Nat) (hn : n < 32) (x : Int32) {i : Nat} (hi : i < 32) : bt (x >>> (nI n &&& 31)) i = if n + i < 32 then bt x (n + i) else bt x 31 := by
  unfold bt
  rw [Int32.toBitVec_shiftRight]
  show (x.toBitVec.sshiftRight ((nI n &&& 31).toBitVec.smod 32).toNat).getLsbD i = _
  rw [s_l n hn, BitVec.getLsbD_sshiftRight, BitVec.msb_eq_getLsbD_last]
  simp [hi]
theorem b_shl8 (x : Int32) {i : Nat} (hi : i < 32) : bt (x <<< ((8 : Int32) &&& 31)) i = (decide (8 ≤ i) && bt x (i - 8)) := b_shl 8 (by omega) x hi
theorem b_shl16 (x : Int32) {i : Nat} (hi : i < 32) : bt (x <<< ((16 : Int32) &&& 31)) i = (decide (16 ≤ i) && bt x (i - 16)) := b_shl 16 (by omega) x hi
theorem b_shl24 (x : Int32) {i : Nat} (hi : i < 32) : bt (x <<< ((24 : Int32) &&& 31)) i = (decide (24 ≤ i) && bt x (i - 24)) := b_shl 24 (by omega) x hi
theorem b_sshr8 (x : Int32) {i : Nat} (hi : i < 32) : bt (x >>> ((8 : Int32) &&& 31)) i = if 8 + i < 32 then bt x (8 + i) else bt x 31 := b_sshr 8 (by omega) x hi
theorem nx_and (a b : Nat) : nI a &&& nI b = nI (a &&& b) := by
  apply Int32.toBitVec_inj.1
  show BitVec.ofNat 32 a &&& BitVec.ofNat 32 b = BitVec.ofNat 32 (a &&& b)
  apply BitVec.eq_of_getLsbD_eq
  intro i hi
  simp [hi]
-- the constants: the table of choices, the texts, two statics of the JDK's
def tabL (j : Nat) : Int64 := ([4222189076152335, 67555025218437360, 1080880403494997760, -1152657617789587456, 1229782938247303441, 2459565876494606882, 4919131752989213764, -8608480567731124088, 65535, 4294901760, 281470681743360, -281474976710656] : List Int64).getD j 0
def xlen : List Nat := [3, 3, 8, 6, 7, 7, 7, 28, 0]
def xbyt : List (List Int32) := [[97, 98, 116], [88, 89, 90], [116, 40, 88, 44, 89, 41, 58, 45], [102, 40, 99, 44, 99, 41], [126, 114, 40, 99, 44, 99, 41], [43, 116, 40, 99, 44, 99, 41], [45, 116, 40, 99, 44, 99, 41], [116, 40, 88, 44, 89, 41, 58, 45, 114, 40, 118, 44, 118, 41, 44, 114, 40, 118, 44, 118, 41, 44, 114, 40, 118, 44, 118, 41], []]
def inN (i : Nat) : Bool := decide (i < 9)
theorem inN_lt {i : Nat} (h : inN i = true) : i < 9 := of_decide_eq_true h
