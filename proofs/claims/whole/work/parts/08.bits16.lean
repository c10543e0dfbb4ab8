-- bits counted
theorem ush_n {n : Nat} (j : Nat) (hn : n < 4294967296) (hj : j < 32) : iush (nI n) (nI j) = nI (n / 2 ^ j) := pk_ushrN hn (nI j) j (s_u j hj)
def bcN (n : Nat) : Nat :=
  letN (letN (n - (n / 2 ^ 1 &&& 1431655765)) (fun a => (a &&& 858993459) + (a / 2 ^ 2 &&& 858993459))) (fun b => letN (letN (b + b / 2 ^ 4 &&& 252645135) (fun c => c + c / 2 ^ 8)) (fun d => (d + d / 2 ^ 16) &&& 63))
theorem bc_N {n : Nat} (h : n < 65536) : m_I_bitCount (nI n) = some (nI (bcN n), ()) := by
  unfold m_I_bitCount bcN letN
  dsimp only
  have l1 : n / 2 ^ 1 &&& 1431655765 ≤ n / 2 ^ 1 := Nat.and_le_left
  have e1 : nI n - (iush (nI n) (nI 1) &&& nI 1431655765) = nI (n - (n / 2 ^ 1 &&& 1431655765)) := by
    rw [ush_n 1 (by omega) (by decide), nx_and, pk_sub (by omega)]
  rw [e1]
  have ha : n - (n / 2 ^ 1 &&& 1431655765) < 65536 := by omega
  generalize n - (n / 2 ^ 1 &&& 1431655765) = a at ha
  have e2 : (nI a &&& nI 858993459) + (iush (nI a) (nI 2) &&& nI 858993459) = nI ((a &&& 858993459) + (a / 2 ^ 2 &&& 858993459)) := by
    rw [ush_n 2 (by omega) (by decide), nx_and, nx_and, nI_add]
  rw [e2]
  have l2 : a &&& 858993459 ≤ a := Nat.and_le_left
  have l3 : a / 2 ^ 2 &&& 858993459 ≤ a / 2 ^ 2 := Nat.and_le_left
  have hb : (a &&& 858993459) + (a / 2 ^ 2 &&& 858993459) < 131072 := by omega
  generalize (a &&& 858993459) + (a / 2 ^ 2 &&& 858993459) = b at hb
  have e3 : (nI b + iush (nI b) (nI 4)) &&& nI 252645135 = nI (b + b / 2 ^ 4 &&& 252645135) := by
    rw [ush_n 4 (by omega) (by decide), nI_add, nx_and]
  rw [e3]
  have l4 : b + b / 2 ^ 4 &&& 252645135 ≤ b + b / 2 ^ 4 := Nat.and_le_left
  have hc : b + b / 2 ^ 4 &&& 252645135 < 262144 := by omega
  generalize (b + b / 2 ^ 4 &&& 252645135) = c at hc
  have e4 : nI c + iush (nI c) (nI 8) = nI (c + c / 2 ^ 8) := by
    rw [ush_n 8 (by omega) (by decide), nI_add]
  rw [e4]
  have hd : c + c / 2 ^ 8 < 524288 := by omega
  generalize c + c / 2 ^ 8 = d at hd
  rw [ush_n 16 (by omega) (by decide), nI_add, nx_and]
theorem lnd {a b c d : Nat} (hb : b < 256) (hd : d < 256) : (256 * a + b) &&& (256 * c + d) = 256 * (a &&& c) + (b &&& d) := by
  have hbd : b &&& d < 2 ^ 8 := Nat.lt_of_le_of_lt Nat.and_le_left hb
  apply Nat.eq_of_testBit_eq
  intro i
  rw [Nat.testBit_and, show (256 : Nat) = 2 ^ 8 from rfl, Nat.testBit_two_pow_mul_add a (show b < 2 ^ 8 from hb), Nat.testBit_two_pow_mul_add c (show d < 2 ^ 8 from hd), Nat.testBit_two_pow_mul_add _ hbd]
  split <;> simp
theorem lnd0 {b c d : Nat} (hb : b < 256) (hd : d < 256) : b &&& (256 * c + d) = b &&& d := by
  have h := lnd (a := 0) (c := c) hb hd
  simpa using h
theorem m55 : ∀ y, y < 128 → (128 + y) &&& 85 = y &&& 85 := by decide +kernel
theorem m33 : ∀ e, e < 4 → ∀ y, y < 64 → (64 * e + y) &&& 51 = y &&& 51 := by decide +kernel
def a8 (x : Nat) : Nat := x - (x / 2 &&& 85)
def b8 (x : Nat) : Nat := (x &&& 51) + (x / 4 &&& 51)
theorem b8_lt : ∀ x, x < 256 → b8 (a8 x) % 16 ≤ 4 ∧ b8 (a8 x) / 16 ≤ 4 := by decide +kernel
theorem c8_ok : ∀ x, x < 256 → (b8 (a8 x) + b8 (a8 x) / 16) % 16 = cn (fun p => x.testBit p) 8 := by decide +kernel
theorem a8_lt (x : Nat) : a8 x ≤ x := Nat.sub_le _ _
theorem and15 (x : Nat) : x &&& 15 = x % 16 := Nat.and_two_pow_sub_one_eq_mod x 4
theorem and63 (x : Nat) : x &&& 63 = x % 64 := Nat.and_two_pow_sub_one_eq_mod x 6
theorem st_a {h l : Nat} (hh : h < 256) (hl : l < 256) : (256 * h + l) - ((256 * h + l) / 2 ^ 1 &&& 1431655765) = 256 * a8 h + a8 l := by
  have e1 : (256 * h + l) / 2 ^ 1 = 256 * (h / 2) + (128 * (h % 2) + l / 2) := by omega
  have e2 : (1431655765 : Nat) = 256 * 5592405 + 85 := by decide
  have e3 : (5592405 : Nat) = 256 * 21845 + 85 := by decide
  have e4 : h / 2 &&& 5592405 = h / 2 &&& 85 := by rw [e3]; exact lnd0 (by omega) (by decide)
  have e5 : (128 * (h % 2) + l / 2) &&& 85 = l / 2 &&& 85 := by
    rcases (show h % 2 = 0 ∨ h % 2 = 1 by omega) with e | e
    · rw [e, Nat.mul_zero, Nat.zero_add]
    · rw [e, Nat.mul_one]; exact m55 _ (by omega)
  rw [e1, e2, lnd (by omega) (by decide), e4, e5]
  have l1 : h / 2 &&& 85 ≤ h / 2 := Nat.and_le_left
  have l2 : l / 2 &&& 85 ≤ l / 2 := Nat.and_le_left
  unfold a8
  omega
theorem st_b {p q : Nat} (hp : p < 256) (hq : q < 256) : (256 * p + q &&& 858993459) + ((256 * p + q) / 2 ^ 2 &&& 858993459) = 256 * b8 p + b8 q := by
  have e1 : (256 * p + q) / 2 ^ 2 = 256 * (p / 4) + (64 * (p % 4) + q / 4) := by omega
  have e2 : (858993459 : Nat) = 256 * 3355443 + 51 := by decide
  have e3 : (3355443 : Nat) = 256 * 13107 + 51 := by decide
  have e4 : p / 4 &&& 3355443 = p / 4 &&& 51 := by rw [e3]; exact lnd0 (by omega) (by decide)
  have e5 : p &&& 3355443 = p &&& 51 := by rw [e3]; exact lnd0 (by omega) (by decide)
  have e6 : (64 * (p % 4) + q / 4) &&& 51 = q / 4 &&& 51 := m33 _ (by omega) _ (by omega)
  rw [e1, e2, lnd (by omega) (by decide), lnd (by omega) (by decide), e4, e5, e6]
  unfold b8
  omega
theorem st_c {p q : Nat} (hp : p % 16 ≤ 4 ∧ p / 16 ≤ 4) (hq : q % 16 ≤ 4 ∧ q / 16 ≤ 4) : (256 * p + q + (256 * p + q) / 2 ^ 4 &&& 252645135) = 256 * ((p + p / 16) % 16) + (q + q / 16) % 16 := by
  have e1 : 256 * p + q + (256 * p + q) / 2 ^ 4 = 256 * (p + p / 16) + (16 * (p % 16) + (q + q / 16)) := by omega
  have e2 : (252645135 : Nat) = 256 * 986895 + 15 := by decide
  have e3 : (986895 : Nat) = 256 * 3855 + 15 := by decide
  have e4 : (p + p / 16) &&& 986895 = (p + p / 16) &&& 15 := by rw [e3]; exact lnd0 (by omega) (by decide)
  rw [e1, e2, lnd (by omega) (by decide), e4, and15, and15]
  omega
theorem cn_split (g : Nat → Bool) : cn g 16 = cn g 8 + cn (fun p => g (8 + p)) 8 := by
  simp only [cn, Nat.reduceAdd]
  omega
theorem bc16 {n : Nat} (h : n < 65536) : m_I_bitCount (nI n) = some (nI (cn (fun p => n.testBit p) 16), ()) := by
  rw [bc_N h]
  have e : n = 256 * (n / 256) + n % 256 := by omega
  have hh : n / 256 < 256 := by omega
  have hl : n % 256 < 256 := Nat.mod_lt _ (by decide)
  generalize n / 256 = a at e hh
  generalize n % 256 = b at e hl
  subst e
  have key : bcN (256 * a + b) = cn (fun p => (256 * a + b).testBit p) 16 := by
    have ha := c8_ok a hh
    have hb := c8_ok b hl
    unfold bcN letN
    dsimp only
    rw [st_a hh hl, st_b (Nat.lt_of_le_of_lt (a8_lt a) hh) (Nat.lt_of_le_of_lt (a8_lt b) hl), st_c (b8_lt a hh) (b8_lt b hl), ha, hb, and63, cn_split]
    have e1 : cn (fun p => (256 * a + b).testBit p) 8 = cn (fun p => b.testBit p) 8 := cn_eq (fun i hi => by
      rw [show (256 : Nat) = 2 ^ 8 from rfl, Nat.testBit_two_pow_mul_add a (show b < 2 ^ 8 from hl), if_pos hi])
    have e2 : cn (fun p => (256 * a + b).testBit (8 + p)) 8 = cn (fun p => a.testBit p) 8 := cn_eq (fun i hi => by
      rw [show (256 : Nat) = 2 ^ 8 from rfl, Nat.testBit_two_pow_mul_add a (show b < 2 ^ 8 from hl), if_neg (by omega)]
      congr 1
      omega)
    rw [e1, e2]
    have l1 := cn_le (fun p => a.testBit p) 8
    have l2 := cn_le (fun p => b.testBit p) 8
    clear ha hb e1 e2
    generalize cn (fun p => a.testBit p) 8 = u at l1 ⊢
    generalize cn (fun p => b.testBit p) 8 = v at l2 ⊢
    have d1 : (256 * u + v) / 2 ^ 8 = u := by omega
    rw [d1]
    have d2 : (256 * u + v + u) / 2 ^ 16 = 0 := by omega
    rw [d2, Nat.add_zero, show 256 * u + v + u = v + u + 64 * (4 * u) by omega, Nat.add_mul_mod_self_left, Nat.mod_eq_of_lt (by omega)]
  rw [key]
