def insl (c : Nat) : List Nat → List Nat
  | [] => [c]
  | a :: s => if a ≤ c then a :: insl c s else c :: a :: s
theorem insl_len (c : Nat) : ∀ s, (insl c s).length = s.length + 1
  | [] => rfl
  | a :: s => by
    unfold insl
    split
    · rw [List.length_cons, insl_len c s, List.length_cons]
    · rw [List.length_cons]
theorem insl_mem {c x : Nat} : ∀ {s : List Nat}, x ∈ insl c s → x = c ∨ x ∈ s
  | [], h => Or.inl (List.mem_singleton.mp h)
  | a :: s, h => by
    unfold insl at h
    split at h
    · rcases List.mem_cons.mp h with h | h
      · exact Or.inr (by rw [h]; exact List.mem_cons_self)
      · rcases insl_mem h with h | h
        · exact Or.inl h
        · exact Or.inr (List.mem_cons_of_mem _ h)
    · rcases List.mem_cons.mp h with h | h
      · exact Or.inl h
      · exact Or.inr h
theorem insl_srt {c : Nat} : ∀ {s : List Nat}, s.Pairwise (· ≤ ·) → (insl c s).Pairwise (· ≤ ·)
  | [], _ => List.pairwise_singleton _ _
  | a :: s, h => by
    have h2 := List.pairwise_cons.mp h
    unfold insl
    split
    · next hac =>
      refine List.pairwise_cons.mpr ⟨fun x hx => ?_, insl_srt h2.2⟩
      rcases insl_mem hx with e | e
      · omega
      · exact h2.1 x e
    · next hac =>
      refine List.pairwise_cons.mpr ⟨fun x hx => ?_, h⟩
      rcases List.mem_cons.mp hx with e | e
      · omega
      · have := h2.1 x e
        omega
theorem insl_mk (c : Nat) : ∀ s, mk (insl c s) = mk s ||| bit c
  | [] => by
    show bit c ||| nI 0 = nI 0 ||| bit c
    exact b_ext (fun i hi => by rw [b_or, b_or, Bool.or_comm])
  | a :: s => by
    unfold insl
    split
    · show bit a ||| mk (insl c s) = (bit a ||| mk s) ||| bit c
      rw [insl_mk c s]
      exact b_ext (fun i hi => by rw [b_or, b_or, b_or, b_or, Bool.or_assoc])
    · show bit c ||| (bit a ||| mk s) = (bit a ||| mk s) ||| bit c
      exact b_ext (fun i hi => by rw [b_or, b_or _ (bit c), Bool.or_comm])
def srt (ch : Nat → Nat) : Nat → List Nat
  | 0 => []
  | i + 1 => insl (cdn ch i) (srt ch i)
theorem srt_len (ch : Nat → Nat) : ∀ m, (srt ch m).length = m
  | 0 => rfl
  | i + 1 => by
    show (insl (cdn ch i) (srt ch i)).length = i + 1
    rw [insl_len, srt_len ch i]
theorem srt_srt (ch : Nat → Nat) : ∀ m, (srt ch m).Pairwise (· ≤ ·)
  | 0 => List.Pairwise.nil
  | i + 1 => insl_srt (srt_srt ch i)
theorem srt_mk (ch : Nat → Nat) : ∀ m, mk (srt ch m) = orc ch m
  | 0 => rfl
  | i + 1 => by
    show mk (insl (cdn ch i) (srt ch i)) = orc ch i ||| bit (cdn ch i)
    rw [insl_mk, srt_mk ch i]
theorem srt_lt {m : Nat} {ch : Nat → Nat} (h : tyC m ch) : ∀ i, i ≤ m → ∀ x ∈ srt ch i, x < 27
  | 0, _, x, hx => by simp [srt] at hx
  | i + 1, hi, x, hx => by
    rcases insl_mem (show x ∈ insl (cdn ch i) (srt ch i) from hx) with e | e
    · rw [e]; exact cdn_lt h (by omega)
    · exact srt_lt h i (by omega) x e
def BR (s : List Nat) (bo : Nat → Int32) : Prop := ∀ k, k < s.length → bo k = nI (s.getD k 0)
section RB
variable {ty : Int32} {ln : Nat → Int32} {K : Int32 → (Nat → Int32) → Int32 → Option (Int32 × (Nat → Int32))}
theorem rb_0 (n : Nat) (rd : Int32) (bo : Nat → Int32) (z1 z2 : Int32) : m_M_readBody_60 ty ln K (n + 1) rd bo z1 z2 (nI 0) = K (rd + nI 1) (upd bo 0 z2) (z1 + nI 7) := by
  conv => lhs; unfold m_M_readBody_60
  unfold m_M_readBody_96
  rw [if_pos (by decide), if_pos (by decide)]
  rfl
theorem rb_s {t : Nat} (ht : t < 2) (n : Nat) (rd : Int32) (bo : Nat → Int32) (z1 z2 : Int32) : m_M_readBody_60 ty ln K (n + 1) rd bo z1 z2 (nI (t + 1)) = if bo t ≤ z2 then K (rd + nI 1) (upd bo (t + 1) z2) (z1 + nI 7) else m_M_readBody_60 ty ln K n rd (upd bo (t + 1) (bo t)) z1 z2 (nI t) := by
  have e1 : nI (t + 1) - nI 1 = nI t := by rw [pk_sub (by omega)]; rfl
  have e2 : nI (t + 1) + (-1 : Int32) = nI t := by
    rcases (show t = 0 ∨ t = 1 by omega) with rfl | rfl <;> decide
  conv => lhs; unfold m_M_readBody_60
  unfold m_M_readBody_96
  rw [if_neg (by rw [ni_le (by omega) (by decide)]; omega), e1, e2, inR_n (by omega), inR_n (by omega), decide_eq_true (show t < 3 by omega), decide_eq_true (show t + 1 < 3 by omega), nI_clamp (by omega), nI_clamp (by omega)]
  simp only [if_true]
theorem ins_n {s : List Nat} {c : Nat} (hs : s.length ≤ 2) (h1 : s.Pairwise (· ≤ ·)) (h2 : ∀ x ∈ s, x < 27) (hc : c < 27) {bo : Nat → Int32} (hB : BR s bo) (z1 : Int32) : ∃ bo' : Nat → Int32, m_M_readBody_60 ty ln K 40 (nI s.length) bo z1 (nI c) (nI s.length) = K (nI (s.length + 1)) bo' (z1 + nI 7) ∧ BR (insl c s) bo' := by
  match s, hs, h1, h2, hB with
  | [], _, _, _, hB =>
    refine ⟨_, rb_0 39 _ bo z1 (nI c), ?_⟩
    intro k hk
    have : k = 0 := by simpa [insl] using hk
    subst this
    exact pk_us
  | [a], _, _, h2, hB =>
    have ha := h2 a (by simp)
    have b0 : bo 0 = nI a := hB 0 (by simp)
    have e := rb_s (ty := ty) (ln := ln) (K := K) (t := 0) (by decide) 39 (nI 1) bo z1 (nI c)
    have hl : (nI a ≤ nI c) ↔ a ≤ c := by rw [ni_le (by omega) (by omega)]
    rw [b0] at e
    by_cases h : a ≤ c
    · rw [if_pos (hl.mpr h)] at e
      refine ⟨_, e, ?_⟩
      rw [show insl c [a] = [a, c] by unfold insl; rw [if_pos h]; rfl]
      intro k hk
      have hk2 : k < 2 := by simpa using hk
      rcases (show k = 0 ∨ k = 1 by omega) with rfl | rfl
      · rw [pk_un (by decide)]; exact b0
      · exact pk_us
    · rw [if_neg (mt hl.mp h), rb_0 38] at e
      refine ⟨_, e, ?_⟩
      rw [show insl c [a] = [c, a] by unfold insl; rw [if_neg h]]
      intro k hk
      have hk2 : k < 2 := by simpa using hk
      rcases (show k = 0 ∨ k = 1 by omega) with rfl | rfl
      · exact pk_us
      · rw [pk_un (by decide)]; exact pk_us
  | [a, b], _, h1, h2, hB =>
    have ha := h2 a (by simp)
    have hb := h2 b (by simp)
    have hab : a ≤ b := by simpa using h1
    have b0 : bo 0 = nI a := hB 0 (by simp)
    have b1 : bo 1 = nI b := hB 1 (by simp)
    have e := rb_s (ty := ty) (ln := ln) (K := K) (t := 1) (by decide) 39 (nI 2) bo z1 (nI c)
    have hl : (nI b ≤ nI c) ↔ b ≤ c := by rw [ni_le (by omega) (by omega)]
    have hl2 : (nI a ≤ nI c) ↔ a ≤ c := by rw [ni_le (by omega) (by omega)]
    rw [b1] at e
    by_cases h : b ≤ c
    · rw [if_pos (hl.mpr h)] at e
      refine ⟨_, e, ?_⟩
      rw [show insl c [a, b] = [a, b, c] by unfold insl; rw [if_pos (by omega)]; unfold insl; rw [if_pos h]; rfl]
      intro k hk
      have hk2 : k < 3 := by simpa using hk
      rcases (show k = 0 ∨ k = 1 ∨ k = 2 by omega) with rfl | rfl | rfl
      · rw [pk_un (by decide)]; exact b0
      · rw [pk_un (by decide)]; exact b1
      · exact pk_us
    · rw [if_neg (mt hl.mp h)] at e
      have e4 := rb_s (ty := ty) (ln := ln) (K := K) (t := 0) (by decide) 38 (nI 2) (upd bo 2 (nI b)) z1 (nI c)
      rw [show upd bo 2 (nI b) 0 = nI a by rw [pk_un (by decide)]; exact b0] at e4
      have e5 := e.trans e4
      by_cases h3 : a ≤ c
      · rw [if_pos (hl2.mpr h3)] at e5
        refine ⟨_, e5, ?_⟩
        rw [show insl c [a, b] = [a, c, b] by unfold insl; rw [if_pos h3]; unfold insl; rw [if_neg h]]
        intro k hk
        have hk2 : k < 3 := by simpa using hk
        rcases (show k = 0 ∨ k = 1 ∨ k = 2 by omega) with rfl | rfl | rfl
        · rw [pk_un (by decide), pk_un (by decide)]; exact b0
        · exact pk_us
        · rw [pk_un (by decide)]; exact pk_us
      · rw [if_neg (mt hl2.mp h3), rb_0 37] at e5
        refine ⟨_, e5, ?_⟩
        rw [show insl c [a, b] = [c, a, b] by unfold insl; rw [if_neg h3]]
        intro k hk
        have hk2 : k < 3 := by simpa using hk
        rcases (show k = 0 ∨ k = 1 ∨ k = 2 by omega) with rfl | rfl | rfl
        · exact pk_us
        · rw [pk_un (by decide)]; exact pk_us
        · rw [pk_un (by decide), pk_un (by decide)]; exact pk_us
  | _ :: _ :: _ :: _, hs, _, _, _ => simp at hs
end RB
theorem rd_n {m : Nat} {ln : Nat → Int32} {ch : Nat → Nat} (hm : m ≤ 3) (hln : ∀ j, j < 7 + 7 * m → ln j = nI (ch j) ∧ 32 ≤ ch j ∧ ch j ≤ 126) (h : tyC m ch) (rd : Int32) (bo : Nat → Int32) : ∃ bo' : Nat → Int32, m_M_readBody (nI (7 + 7 * m)) rd ln bo = some (nI m, bo') ∧ BR (srt ch m) bo' := by
  have key : ∀ d i, i + d = m → ∀ n, d < n → ∀ bo : Nat → Int32, BR (srt ch i) bo → ∃ bo' : Nat → Int32, m_M_readBody_8 (nI (7 + 7 * m)) ln n (nI i) bo (nI (8 + 7 * i)) = some (nI m, bo') ∧ BR (srt ch m) bo' := by
    intro d
    induction d with
    | zero =>
      intro i hi n hn bo hB
      obtain ⟨n, rfl⟩ : ∃ n', n = n' + 1 := ⟨n - 1, by omega⟩
      have : i = m := by omega
      subst this
      refine ⟨bo, ?_, hB⟩
      unfold m_M_readBody_8
      rw [if_pos (by rw [ni_le (by omega) (by omega)]; omega)]
    | succ d ih =>
      intro i hi n hn bo hB
      obtain ⟨n, rfl⟩ : ∃ n', n = n' + 1 := ⟨n - 1, by omega⟩
      obtain ⟨h1, h2, h3⟩ := h i (by omega)
      obtain ⟨t1, -⟩ := hln (8 + 7 * i) (by omega)
      obtain ⟨t2, -⟩ := hln (8 + 7 * i + 2) (by omega)
      obtain ⟨t3, -⟩ := hln (8 + 7 * i + 4) (by omega)
      have hl := srt_len ch i
      obtain ⟨bo1, e1, hB1⟩ := ins_n (ty := nI (7 + 7 * m)) (ln := ln) (K := m_M_readBody_8 (nI (7 + 7 * m)) ln n) (by omega) (srt_srt ch i) (srt_lt h i (by omega)) (cdn_lt h (show i < m by omega)) hB (nI (8 + 7 * i))
      rw [hl] at e1
      obtain ⟨bo2, e2, hB2⟩ := ih (i + 1) (by omega) n (by omega) bo1 hB1
      refine ⟨bo2, ?_, hB2⟩
      conv => lhs; unfold m_M_readBody_8
      rw [if_neg (by rw [ni_le (by omega) (by omega)]; omega), nI_add, nI_add, inR_n (by omega), inR_n (by omega), inR_n (by omega), decide_eq_true (show 8 + 7 * i < 32 by omega), decide_eq_true (show 8 + 7 * i + 2 < 32 by omega), decide_eq_true (show 8 + 7 * i + 4 < 32 by omega), if_pos rfl, nI_clamp (by omega), nI_clamp (by omega), nI_clamp (by omega), t1, t2, t3, (ix_rl h1).2, bs, if_pos rfl, if_pos rfl]
      unfold letN
      dsimp only
      rw [pk_sub h2.1, pk_mul, pk_mul, nI_add, nI_add, pk_sub (by omega)]
      have e3 : 9 * rl (ch (8 + 7 * i)) + 3 * (ch (8 + 7 * i + 2) - 88) + ch (8 + 7 * i + 4) - 88 = cdn ch i := by unfold cdn; omega
      rw [e3, e1, nI_add, show 8 + 7 * i + 7 = 8 + 7 * (i + 1) by omega]
      exact e2
  unfold m_M_readBody
  exact key m 0 (by omega) 40 (by omega) bo (fun k hk => absurd hk (by simp [srt]))
