/-! PURE PART 10: the cells of the class, in the words of the reference's -/
abbrev q_R (f : Nat → Option Nat) : (Nat → Int32) ⊕ (Nat → Int64) ⊕ (Nat → UInt32) ⊕ (Nat → UInt64) ⊕ (Nat → Option Nat) := .inr (.inr (.inr (.inr f)))
def q_r (x : Int32) (n : Nat) : Bool := decide (0 ≤ x.toInt ∧ x.toInt < (n : Int))
theorem q_rE {x : Int32} {n : Nat} (h : q_r x n = true) : ∃ s, s < n ∧ x = nI s := by
  have := of_decide_eq_true h
  exact n_of this.1 this.2
theorem q_r_nI {s n : Nat} (hs : s < n) (hn : n ≤ 100000) : q_r (nI s) n = true := by
  unfold q_r
  rw [nI_toInt (by omega)]
  simp
  omega
theorem q_rN {x : Int32} {n : Nat} (h : q_r x n = false) : ¬ (0 ≤ x.toInt ∧ x.toInt < (n : Int)) := of_decide_eq_false h
section GR
variable {h : mH} {a ci k t N j : Nat} {fs : List Value}
theorem g_i {x : Int32} (ha : a < h.1) (he : h.2.2 a = .inr (ci, fs)) (hk : fs[k]? = some (.int x)) : m_gi h a ci k = some x := by
  unfold m_gi m_gf
  rw [if_pos ha, he]
  simp only [if_true, hk]
theorem g_r (q : Option Nat) (ha : a < h.1) (he : h.2.2 a = .inr (ci, fs)) (hk : fs[k]? = some (va_rf q)) : m_gr h a ci k = some q := by
  unfold m_gr m_gf
  rw [if_pos ha, he]
  simp only [if_true, hk]
  cases q <;> rfl
theorem g_o (ha : a < h.1) (he : h.2.2 a = .inr (ci, fs)) : m_ob h a ci = true := by
  unfold m_ob
  rw [he]
  simp [ha]
theorem g_al {f : Nat → Option Nat} (ha : a < h.1) (he : h.2.2 a = .inl (t, N, q_R f)) (ht : 2 ≤ t ∧ t < 7) (hj : j < N) (hN : N ≤ 1000) : m_ald h a (nI j) = some (f j) := by
  unfold m_ald
  rw [if_pos ha, he]
  simp only
  rw [if_pos ⟨ht, q_inI hj hN⟩, nI_clamp (by omega)]
theorem g_as {f : Nat → Option Nat} (q : Option Nat) (ha : a < h.1) (he : h.2.2 a = .inl (t, N, q_R f)) (ht : 2 ≤ t ∧ t < 7) (hj : j < N) (hN : N ≤ 1000) (hq : m_okq h q (m_tci t) = true) : m_ast h a (nI j) q = some (h.1, h.2.1, va_up h.2.2 a (.inl (t, N, q_R (va_up f j q)))) := by
  unfold m_ast
  rw [if_pos ha, he]
  simp only
  rw [if_pos ⟨⟨ht, q_inI hj hN⟩, hq⟩, nI_clamp (by omega)]
theorem g_il {f : Nat → Int32} (ha : a < h.1) (he : h.2.2 a = .inl (0, N, .inl f)) (hj : j < N) (hN : N ≤ 1000) : m_ild h a (nI j) = some (f j) := by
  unfold m_ild
  rw [if_pos ha, he]
  simp only
  rw [if_pos ⟨trivial, q_inI hj hN⟩, nI_clamp (by omega)]
theorem g_is {f : Nat → Int32} (x : Int32) (ha : a < h.1) (he : h.2.2 a = .inl (0, N, .inl f)) (hj : j < N) (hN : N ≤ 1000) : m_ist h a (nI j) x = some (h.1, h.2.1, va_up h.2.2 a (.inl (0, N, .inl (upd f j x)))) := by
  unfold m_ist
  rw [if_pos ha, he]
  simp only
  rw [if_pos ⟨trivial, q_inI hj hN⟩, nI_clamp (by omega)]
theorem g_ll {f : Nat → Int64} (ha : a < h.1) (he : h.2.2 a = .inl (1, N, .inr (.inl f))) (hj : j < N) (hN : N ≤ 1000) : m_lld h a (nI j) = some (f j) := by
  unfold m_lld
  rw [if_pos ha, he]
  simp only
  rw [if_pos ⟨trivial, q_inI hj hN⟩, nI_clamp (by omega)]
theorem g_ls {f : Nat → Int64} (x : Int64) (ha : a < h.1) (he : h.2.2 a = .inl (1, N, .inr (.inl f))) (hj : j < N) (hN : N ≤ 1000) : m_lst h a (nI j) x = some (h.1, h.2.1, va_up h.2.2 a (.inl (1, N, .inr (.inl (vp_updL f j x))))) := by
  unfold m_lst
  rw [if_pos ha, he]
  simp only
  rw [if_pos ⟨trivial, q_inI hj hN⟩, nI_clamp (by omega)]
theorem g_len {x : (Nat → Int32) ⊕ (Nat → Int64) ⊕ (Nat → UInt32) ⊕ (Nat → UInt64) ⊕ (Nat → Option Nat)} (ha : a < h.1) (he : h.2.2 a = .inl (t, N, x)) (ht : t < 7) : m_len h a = some (nI N) := by
  unfold m_len
  rw [if_pos ha, he]
  simp only
  rw [if_pos ht]
  rfl
theorem g_p (v : Value) (ha : a < h.1) (he : h.2.2 a = .inr (ci, fs)) (hk : k < fs.length) : m_pf h a ci k v = some (h.1, h.2.1, va_up h.2.2 a (.inr (ci, fs.set k v))) := by
  unfold m_pf
  rw [if_pos ha, he]
  simp only
  rw [if_pos ⟨trivial, hk⟩]
end GR
/-! the fixed cells -/
def q_F (h : mH) (nS nB : Nat) (lo ak : Int32) (nO : Nat) : Prop :=
  71 ≤ h.1 ∧ h.2.2 0 = .inr (8, [.ref 1, .ref 4, .ref 5, .ref 16, .ref 37, .ref 40, .int (nI nB), .int ak]) ∧ h.2.2 1 = .inr (7, [.ref 2, .ref 3, .int (nI nS)]) ∧ h.2.2 37 = .inr (4, [.ref 38, .ref 39]) ∧ h.2.2 40 = .inr (2, [.ref 41, .ref 42, .ref 43, .int (nI nO), .int lo]) ∧
  (∃ f, h.2.2 5 = .inl (4, 10, q_R f) ∧ ∀ i, i < 10 → f i = some (6 + i)) ∧ (∃ f, h.2.2 16 = .inl (5, 10, q_R f) ∧ ∀ i, i < 10 → f i = some (17 + 2 * i)) ∧ nS ≤ 300 ∧ nB ≤ 40 ∧ nO ≤ 240
section QF
variable {h : mH} {nS nB nO : Nat} {lo ak : Int32}
theorem rF00 (hF : q_F h nS nB lo ak nO) : m_gr h 0 8 0 = some (some 1) := g_r (some 1) (by have := hF.1; omega) hF.2.1 rfl
theorem rF01 (hF : q_F h nS nB lo ak nO) : m_gr h 0 8 1 = some (some 4) := g_r (some 4) (by have := hF.1; omega) hF.2.1 rfl
theorem rF02 (hF : q_F h nS nB lo ak nO) : m_gr h 0 8 2 = some (some 5) := g_r (some 5) (by have := hF.1; omega) hF.2.1 rfl
theorem rF03 (hF : q_F h nS nB lo ak nO) : m_gr h 0 8 3 = some (some 16) := g_r (some 16) (by have := hF.1; omega) hF.2.1 rfl
theorem rF04 (hF : q_F h nS nB lo ak nO) : m_gr h 0 8 4 = some (some 37) := g_r (some 37) (by have := hF.1; omega) hF.2.1 rfl
theorem rF05 (hF : q_F h nS nB lo ak nO) : m_gr h 0 8 5 = some (some 40) := g_r (some 40) (by have := hF.1; omega) hF.2.1 rfl
theorem rF06 (hF : q_F h nS nB lo ak nO) : m_gi h 0 8 6 = some (nI nB) := g_i (by have := hF.1; omega) hF.2.1 rfl
theorem rF07 (hF : q_F h nS nB lo ak nO) : m_gi h 0 8 7 = some ak := g_i (by have := hF.1; omega) hF.2.1 rfl
theorem rF10 (hF : q_F h nS nB lo ak nO) : m_gr h 1 7 0 = some (some 2) := g_r (some 2) (by have := hF.1; omega) hF.2.2.1 rfl
theorem rF11 (hF : q_F h nS nB lo ak nO) : m_gr h 1 7 1 = some (some 3) := g_r (some 3) (by have := hF.1; omega) hF.2.2.1 rfl
theorem rF12 (hF : q_F h nS nB lo ak nO) : m_gi h 1 7 2 = some (nI nS) := g_i (by have := hF.1; omega) hF.2.2.1 rfl
theorem rF370 (hF : q_F h nS nB lo ak nO) : m_gr h 37 4 0 = some (some 38) := g_r (some 38) (by have := hF.1; omega) hF.2.2.2.1 rfl
theorem rF371 (hF : q_F h nS nB lo ak nO) : m_gr h 37 4 1 = some (some 39) := g_r (some 39) (by have := hF.1; omega) hF.2.2.2.1 rfl
theorem rF400 (hF : q_F h nS nB lo ak nO) : m_gr h 40 2 0 = some (some 41) := g_r (some 41) (by have := hF.1; omega) hF.2.2.2.2.1 rfl
theorem rF401 (hF : q_F h nS nB lo ak nO) : m_gr h 40 2 1 = some (some 42) := g_r (some 42) (by have := hF.1; omega) hF.2.2.2.2.1 rfl
theorem rF402 (hF : q_F h nS nB lo ak nO) : m_gr h 40 2 2 = some (some 43) := g_r (some 43) (by have := hF.1; omega) hF.2.2.2.2.1 rfl
theorem rF403 (hF : q_F h nS nB lo ak nO) : m_gi h 40 2 3 = some (nI nO) := g_i (by have := hF.1; omega) hF.2.2.2.2.1 rfl
theorem rF404 (hF : q_F h nS nB lo ak nO) : m_gi h 40 2 4 = some lo := g_i (by have := hF.1; omega) hF.2.2.2.2.1 rfl
theorem oF0 (hF : q_F h nS nB lo ak nO) : m_ob h 0 8 = true := g_o (by have := hF.1; omega) hF.2.1
theorem oF1 (hF : q_F h nS nB lo ak nO) : m_ob h 1 7 = true := g_o (by have := hF.1; omega) hF.2.2.1
theorem oF37 (hF : q_F h nS nB lo ak nO) : m_ob h 37 4 = true := g_o (by have := hF.1; omega) hF.2.2.2.1
theorem oF40 (hF : q_F h nS nB lo ak nO) : m_ob h 40 2 = true := g_o (by have := hF.1; omega) hF.2.2.2.2.1
theorem c_shelfAt (hF : q_F h nS nB lo ak nO) (x : Int32) : f_X9_shelfAt h 0 x = some (if q_r x 10 = true then some (6 + q_n x) else none) := by
  obtain ⟨f, e1, e2⟩ := hF.2.2.2.2.2.1
  unfold f_X9_shelfAt
  simp only [rF02 hF, Option.bind_some, g_len (by have := hF.1; omega) e1 (by decide)]
  cases hq : q_r x 10 with
  | true =>
    obtain ⟨i, hi, rfl⟩ := q_rE hq
    rw [if_neg (nI_pos (by omega)), if_neg (by rw [n_le (by omega) (by omega)]; omega), g_al (by have := hF.1; omega) e1 (by decide) hi (by decide), e2 i hi, q_n_nI (by omega)]
    rfl
  | false =>
    have := q_rN hq
    simp only [Int32.lt_iff_toInt_lt, Int32.le_iff_toInt_le, show (0 : Int32).toInt = 0 from rfl, nI_toInt (show 10 < 2147483648 by omega)]
    by_cases h1 : x.toInt < 0
    · rw [if_pos h1]; rfl
    · rw [if_neg h1, if_pos (by omega)]; rfl
theorem c_keyAt (hF : q_F h nS nB lo ak nO) (x : Int32) : f_X9_keyAt h 0 x = some (if q_r x 10 = true then some (17 + 2 * q_n x) else none) := by
  obtain ⟨f, e1, e2⟩ := hF.2.2.2.2.2.2.1
  unfold f_X9_keyAt
  simp only [rF03 hF, Option.bind_some, g_len (by have := hF.1; omega) e1 (by decide)]
  cases hq : q_r x 10 with
  | true =>
    obtain ⟨i, hi, rfl⟩ := q_rE hq
    rw [if_neg (nI_pos (by omega)), if_neg (by rw [n_le (by omega) (by omega)]; omega), g_al (by have := hF.1; omega) e1 (by decide) hi (by decide), e2 i hi, q_n_nI (by omega)]
    rfl
  | false =>
    have := q_rN hq
    simp only [Int32.lt_iff_toInt_lt, Int32.le_iff_toInt_le, show (0 : Int32).toInt = 0 from rfl, nI_toInt (show 10 < 2147483648 by omega)]
    by_cases h1 : x.toInt < 0
    · rw [if_pos h1]; rfl
    · rw [if_neg h1, if_pos (by omega)]; rfl
end QF
/-! specimens, and the arrays that hold them -/
def q_br (I : Nat → Nat → Int32) (bx : Nat → Nat) (s : Nat) : Option Nat := if I 54 s = -1 then none else some (bx (q_n (I 54 s)))
def q_sr (I : Nat → Nat → Int32) (s : Nat) : Option Nat := if I 56 s = -1 then none else some (6 + q_n (I 56 s))
def q_sc (I : Nat → Nat → Int32) (bx : Nat → Nat) (s : Nat) : List Value := [.int (nI s), .int (I 52 s), .int (I 53 s), .int (I 51 s), va_rf (q_br I bx s), .int (I 55 s), va_rf (q_sr I s), .int (I 57 s), .int (I 58 s), .int (I 59 s), .int (I 60 s)]
def q_S (h : mH) (I : Nat → Nat → Int32) (nS : Nat) (sp bx : Nat → Nat) : Prop := ∀ s, s < nS → 71 ≤ sp s ∧ sp s < h.1 ∧ h.2.2 (sp s) = .inr (6, q_sc I bx s)
/-- whose cell a made cell is: 0 a specimen's, 1 a case's, 2 its places, 3 a question's -/
def q_O (own : Nat → Nat × Nat) (nS nB : Nat) (sp bx qu : Nat → Nat) (I : Nat → Nat → Int32) : Prop := (∀ s, s < nS → own (sp s) = (0, s)) ∧ (∀ j, j < nB → own (bx j) = (1, j) ∧ own (bx j + 1) = (2, j)) ∧ ∀ k, k < 10 → ∀ i, i < q_n (I 66 k) → own (qu (40 * k + i)) = (3, 40 * k + i)
/-- stands before: by length, then by number -/
def q_lt (I : Nat → Nat → Int32) (s s' : Nat) : Prop := I 52 s < I 52 s' ∨ (I 52 s = I 52 s' ∧ s < s')
def q_N (h : mH) (I : Nat → Nat → Int32) (nS nB : Nat) (sp bx bl : Nat → Nat) : Prop := (∃ f, h.2.2 2 = .inl (2, 300, q_R f) ∧ ∀ s, s < nS → f s = some (sp s)) ∧ (∃ f, h.2.2 3 = .inl (2, 300, q_R f) ∧ ∀ i, i < nS → f i = some (sp (bl i))) ∧ (∃ f, h.2.2 4 = .inl (3, 40, q_R f) ∧ ∀ j, j < nB → f j = some (bx j)) ∧ (∀ i, i < nS → bl i < nS) ∧ ∀ i j, i < j → j < nS → q_lt I (bl i) (bl j)
section QS
variable {h : mH} {I : Nat → Nat → Int32} {nS nB nO : Nat} {lo ak : Int32} {sp bx bl : Nat → Nat}
theorem c_at (hF : q_F h nS nB lo ak nO) (hN : q_N h I nS nB sp bx bl) (x : Int32) : f_X8_at h 1 x = some (if q_r x nS = true then some (sp (q_n x)) else none) := by
  obtain ⟨f, e1, e2⟩ := hN.1
  have n3 := hF.2.2.2.2.2.2.2.1
  unfold f_X8_at
  simp only [rF10 hF, rF12 hF, Option.bind_some]
  cases hq : q_r x nS with
  | true =>
    obtain ⟨i, hi, rfl⟩ := q_rE hq
    rw [if_neg (nI_pos (by omega)), if_neg (by rw [n_le (by omega) (by omega)]; omega), if_neg (by rw [show (300 : Int32) = nI 300 from rfl, n_le (by omega) (by omega)]; omega), g_al (by have := hF.1; omega) e1 (by decide) (by omega) (by decide), e2 i hi, q_n_nI (by omega)]
    rfl
  | false =>
    have := q_rN hq
    simp only [Int32.lt_iff_toInt_lt, Int32.le_iff_toInt_le, show (0 : Int32).toInt = 0 from rfl, nI_toInt (show nS < 2147483648 by omega)]
    by_cases h1 : x.toInt < 0
    · rw [if_pos h1]; rfl
    · rw [if_neg h1, if_pos (by omega)]; rfl
theorem c_boxAt (hF : q_F h nS nB lo ak nO) (hN : q_N h I nS nB sp bx bl) (x : Int32) : f_X9_boxAt h 0 x = some (if q_r x nB = true then some (bx (q_n x)) else none) := by
  obtain ⟨f, e1, e2⟩ := hN.2.2.1
  have n3 := hF.2.2.2.2.2.2.2.2.1
  unfold f_X9_boxAt
  simp only [rF01 hF, rF06 hF, Option.bind_some, g_len (by have := hF.1; omega) e1 (by decide)]
  cases hq : q_r x nB with
  | true =>
    obtain ⟨i, hi, rfl⟩ := q_rE hq
    rw [if_neg (nI_pos (by omega)), if_neg (by rw [n_le (by omega) (by omega)]; omega), if_neg (by rw [n_le (by omega) (by omega)]; omega), g_al (by have := hF.1; omega) e1 (by decide) (by omega) (by decide), e2 i hi, q_n_nI (by omega)]
    rfl
  | false =>
    have := q_rN hq
    simp only [Int32.lt_iff_toInt_lt, Int32.le_iff_toInt_le, show (0 : Int32).toInt = 0 from rfl, nI_toInt (show nB < 2147483648 by omega)]
    by_cases h1 : x.toInt < 0
    · rw [if_pos h1]; rfl
    · rw [if_neg h1, if_pos (by omega)]; rfl
theorem d_isSpec (hM : q_M h I nS nB lo ak) (hn : nS ≤ 300) (x : Int32) : f_X10_isSpecimen h 44 x = some (q_b (q_r x nS)) := by
  unfold f_X10_isSpecimen
  rw [rM6 hM]
  simp only [Option.bind_some]
  rw [d_in]
  simp only [Option.bind_some, q_bb]
  have e1 : (nI nS - 1).toInt = (nS : Int) - 1 := by
    rw [show (1 : Int32) = nI 1 from rfl, pk_sub_toInt (by omega) (by omega)]
    rfl
  unfold q_r q_b
  rw [e1, show (0 : Int32).toInt = 0 from rfl]
  by_cases hx : 0 ≤ x.toInt ∧ x.toInt < (nS : Int)
  · rw [if_pos (by simp; omega), if_pos (by simp; omega)]
  · rw [if_neg (by simp; omega), if_neg (by simp; omega)]
end QS
