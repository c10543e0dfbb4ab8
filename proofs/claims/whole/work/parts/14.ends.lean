theorem ends_ty {n f : Nat} {ty : Nat → Int32} (h : ty 0 = nI f) (x : Int32) : m_L_endsStatement (nI n) ty x = m_L_endsStatement (nI n) (fun _ => nI f) x := by
  unfold m_L_endsStatement m_L_form m_L_at
  simp only [show (nI 0).toNatClampNeg = 0 from rfl, h]
theorem whole_ln {n f : Nat} {ln : Nat → Int32} (h : ln 0 = nI f) : m_M_whole (nI n) ln = m_M_whole (nI n) (fun _ => nI f) := by
  unfold m_M_whole m_M_whole_68 m_M_whole_75
  simp only [show (nI 0).toNatClampNeg = 0 from rfl, h]
def fl (i : Nat) : Nat := [97, 98, 116, 43, 45, 126].getD i 0
theorem ew_all : ∀ i, i < 6 → ∀ n, n < 32 → m_L_endsStatement (nI (1 + n)) (fun _ => nI (fl i)) (nI (1 + n)) = m_M_whole (nI (1 + n)) (fun _ => nI (fl i)) := by decide +kernel
def wB (f n : Nat) : Bool := decide (m_M_whole (nI n) (fun _ => nI f) = some (nI 1, ()))
theorem wv_all : ∀ i, i < 6 → ∀ n, n < 32 → m_M_whole (nI (1 + n)) (fun _ => nI (fl i)) = some (if wB (fl i) (1 + n) then nI 1 else nI 0, ()) := by decide +kernel
theorem fl_of {f : Nat} (h : f = 97 ∨ f = 98 ∨ f = 116 ∨ f = 43 ∨ f = 45 ∨ f = 126) : ∃ i, i < 6 ∧ f = fl i := by
  rcases h with rfl | rfl | rfl | rfl | rfl | rfl
  · exact ⟨0, by decide, rfl⟩
  · exact ⟨1, by decide, rfl⟩
  · exact ⟨2, by decide, rfl⟩
  · exact ⟨3, by decide, rfl⟩
  · exact ⟨4, by decide, rfl⟩
  · exact ⟨5, by decide, rfl⟩
theorem form_n {n : Nat} {ty : Nat → Int32} {c : Nat} (hn : 0 < n ∧ n ≤ 32) (h : ty 0 = nI c) (hc : 32 ≤ c ∧ c ≤ 126) : m_L_form (nI n) ty = some (fix c, ()) := by
  have e : m_L_at (nI n) ty (nI 0) = some (nI c, ()) := by
    unfold m_L_at
    rw [if_neg (by decide), if_neg (by rw [ni_le (by omega) (by decide)]; omega), if_pos (by decide), show (nI 0).toNatClampNeg = 0 from rfl, h, if_pos (isC_n (by omega))]
  unfold m_L_form fix
  rw [e, bs]
  simp (disch := omega) only [ni_eq]
  repeat' split
  all_goals first | rfl | omega
theorem begun_n {n : Nat} {ty : Nat → Int32} {ch : Nat → Nat} (hn : n ≤ 32) (hty : ∀ j, j < n → ty j = nI (ch j) ∧ 32 ≤ ch j ∧ ch j ≤ 126) : m_L_begunStatement (nI n) ty = some (nI (fpos (fun p => kB (ch 0) (ch p) p) n 0), ()) := by
  unfold m_L_begunStatement
  rcases Nat.eq_zero_or_pos n with rfl | h
  · rfl
  · obtain ⟨e, c1, c2⟩ := hty 0 h
    rw [form_n ⟨h, hn⟩ e ⟨c1, c2⟩, bs]
    exact begun_loop hn hty n 0 (by omega) 40 (by omega)
theorem fpos_le (b : Nat → Bool) : ∀ d k, k ≤ fpos b d k ∧ fpos b d k ≤ k + d
  | 0, k => ⟨Nat.le_refl _, Nat.le_refl _⟩
  | d + 1, k => by
    have := fpos_le b d (k + 1)
    show k ≤ (if b k then _ else _) ∧ (if b k then _ else _) ≤ _
    split <;> omega
theorem fpos_all {b : Nat → Bool} : ∀ {d k : Nat}, fpos b d k = k + d → ∀ i, k ≤ i → i < k + d → b i = true
  | 0, k, _, i, h1, h2 => by omega
  | d + 1, k, h, i, h1, h2 => by
    have e : fpos b (d + 1) k = if b k then fpos b d (k + 1) else k := rfl
    rw [e] at h
    by_cases hb : b k = true
    · rw [if_pos hb] at h
      rcases Nat.eq_or_lt_of_le h1 with rfl | h3
      · exact hb
      · exact fpos_all (d := d) (k := k + 1) (by omega) i (by omega) (by omega)
    · rw [if_neg hb] at h
      omega
/-- a line that is no statement -/
theorem enter_no {n : Nat} {ty ln : Nat → Int32} {ch : Nat → Nat} (hn : n ≤ 32) (hty : ∀ j, j < n → ty j = nI (ch j) ∧ 32 ≤ ch j ∧ ch j ≤ 126) (hln : ∀ j, j < n → ln j = nI (ch j) ∧ 32 ≤ ch j ∧ ch j ≤ 126) (hno : fpos (fun p => kB (ch 0) (ch p) p) n 0 < n ∨ n = 0 ∨ wB (ch 0) n = false) (pl mi ct ct2 rd : Int32) (fs bd fa mk mn cs bo : Nat → Int32) :
    m_H_enter pl mi (nI n) ty fs ct bd = some ((-1 : Int32) - nI (fpos (fun p => kB (ch 0) (ch p) p) n 0), pl, mi, nI 0, fs, ct, bd) ∧ m_M_enter (nI n) ct2 rd ln fa mk mn cs bo = some ((-1 : Int32) - nI (fpos (fun p => kB (ch 0) (ch p) p) n 0), nI 0, ct2, rd, fa, mk, mn, cs, bo) := by
  have hb := begun_n hn hty
  have hf := fault_loop hn hln n 0 (by omega) (fun h => absurd h (Nat.lt_irrefl 0)) 40 (by omega)
  have hq := fpos_le (fun p => kB (ch 0) (ch p) p) n 0
  have hall := @fpos_all (fun p => kB (ch 0) (ch p) p) n 0
  generalize fpos (fun p => kB (ch 0) (ch p) p) n 0 = q at hb hf hq hno hall ⊢
  have hE : m_L_endsStatement (nI n) ty (nI q) = some (nI 0, ()) ∧ (q < n ∨ q = n ∧ m_M_whole (nI n) ln = some (nI 0, ())) := by
    rcases Nat.eq_zero_or_pos q with rfl | h1
    · refine ⟨by unfold m_L_endsStatement; rw [if_pos rfl], ?_⟩
      rcases Nat.eq_zero_or_pos n with rfl | h2
      · exact Or.inr ⟨rfl, by unfold m_M_whole; rw [if_pos rfl]⟩
      · exact Or.inl h2
    · by_cases h2 : q < n
      · refine ⟨?_, Or.inl h2⟩
        unfold m_L_endsStatement
        rw [if_neg (by rw [ni_eq (by omega) (by decide)]; omega), if_neg (by rw [ni_le (by omega) (by omega)]; omega)]
      · have e : q = n := by omega
        subst e
        have h0 := hall (by omega) 0 (by omega) (by omega)
        obtain ⟨e1, c1, c2⟩ := hty 0 h1
        obtain ⟨e2, -, -⟩ := hln 0 h1
        have h3 := kf_0 (ch 0 - 32) (by omega)
        rw [show 32 + (ch 0 - 32) = ch 0 by omega] at h3
        obtain ⟨i, hi, ei⟩ := fl_of (h3 h0)
        have hw : wB (ch 0) q = false := by
          rcases hno with h | h | h
          · omega
          · omega
          · exact h
        have a1 := ew_all i hi (q - 1) (by omega)
        have a2 := wv_all i hi (q - 1) (by omega)
        rw [show 1 + (q - 1) = q by omega, ← ei] at a1 a2
        rw [hw] at a2
        rw [ends_ty e1, a1, whole_ln e2, a2]
        exact ⟨rfl, Or.inr ⟨rfl, rfl⟩⟩
  have hF : m_M_fault (nI n) ln = some (nI q, ()) := by
    unfold m_M_fault
    rw [hf]
    rcases hE.2 with h | ⟨h, hw⟩
    · rw [if_pos h]
    · rw [if_neg (by omega), hw, bs, if_pos rfl, h]
  constructor
  · unfold m_H_enter m_H_enter_29 m_L_clear
    rw [hb, bs]
    dsimp only
    rw [hE.1, bs, if_pos rfl, bs]
  · unfold m_M_enter
    rw [hF, bs, if_neg (by show ¬ nI q < nI 0; rw [ni_lt (by omega) (by decide)]; omega)]
