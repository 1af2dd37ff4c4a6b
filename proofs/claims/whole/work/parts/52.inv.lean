/-! PURE PART 12: the invariant, and the questions that change nothing -/
def q_who (I : Nat → Nat → Int32) (nS j p : Nat) : Option Nat := q_fst (fun s => if I 54 s = nI j ∧ I 55 s = nI p then some (some s) else none) none nS 0
def q_B (h : mH) (I : Nat → Nat → Int32) (nS nB : Nat) (sp bx : Nat → Nat) : Prop := ∀ j, j < nB → 71 ≤ bx j ∧ bx j + 1 < h.1 ∧ h.2.2 (bx j) = .inr (0, [.int (nI j), .int (I 61 j), .ref (bx j + 1)]) ∧ ∃ f, h.2.2 (bx j + 1) = .inl (2, q_n (I 62 j), q_R f) ∧ ∀ p, p < q_n (I 62 j) → f p = (q_who I nS j p).map sp
def q_std (I : Nat → Nat → Int32) (nS i : Nat) : Nat := q_cnt (fun s => I 56 s == nI i) nS
def q_fil (I : Nat → Nat → Int32) (nS i : Nat) : Int32 := q_sum (fun s => if I 56 s = nI i then I 52 s else 0) nS
def q_Hs (h : mH) (I : Nat → Nat → Int32) (nS : Nat) : Prop := ∀ i, i < 10 → h.2.2 (6 + i) = .inr (5, [.int (nI i), .int (I 63 i), .int (I 64 i), .int (nI (q_std I nS i)), .int (q_fil I nS i)])
def q_qc (I : Nat → Nat → Int32) (a : Nat) : List Value := [.int (I 67 a), .int (I 68 a), .int (I 69 a), .int (I 70 a)]
def q_Ks (h : mH) (I : Nat → Nat → Int32) (qu : Nat → Nat) : Prop := ∀ k, k < 10 → (∃ ka, h.2.2 (17 + 2 * k) = .inr (1, [.ref (18 + 2 * k), .int (I 66 k), .int ka])) ∧ (∃ f, h.2.2 (18 + 2 * k) = .inl (6, 40, q_R f) ∧ ∀ i, i < q_n (I 66 k) → f i = some (qu (40 * k + i))) ∧ ∀ i, i < q_n (I 66 k) → 71 ≤ qu (40 * k + i) ∧ qu (40 * k + i) < h.1 ∧ h.2.2 (qu (40 * k + i)) = .inr (3, q_qc I (40 * k + i))
def q_Ru (h : mH) (I : Nat → Nat → Int32) : Prop := (∃ ld : Nat → Int64, h.2.2 38 = .inl (1, 5, .inr (.inl ld)) ∧ ∀ f, f < 5 → ∀ c, c < 64 → (ld f).toBitVec.getLsbD c = (decide (c < 49) && n_P I f c)) ∧ (∃ vl, h.2.2 39 = .inl (0, 245, .inl vl) ∧ ∀ f, f < 5 → ∀ c, c < 49 → n_P I f c = true → vl (49 * f + c) = I 50 (5 * c + f)) ∧ n_R I
def q_ld (I : Nat → Nat → Int32) (s : Nat) : Int32 := I 58 s + I 59 s
def q_bf (I : Nat → Nat → Int32) (s s' : Nat) : Prop := q_ld I s < q_ld I s' ∨ (q_ld I s = q_ld I s' ∧ s < s')
def q_hld (I : Nat → Nat → Int32) (nS b : Nat) : Nat := q_cnt (fun s => I 57 s == nI b) nS
def q_Ln (h : mH) (I : Nat → Nat → Int32) (nS nO : Nat) (sp le : Nat → Nat) : Prop := (∃ f, h.2.2 41 = .inl (2, 240, q_R f) ∧ ∀ i, i < nO → f i = some (sp (le i))) ∧ (∃ hd, h.2.2 42 = .inl (0, 20, .inl hd) ∧ ∀ b, b < 20 → hd b = nI (q_hld I nS b)) ∧ (∃ cg, h.2.2 43 = .inl (0, 20, .inl cg) ∧ ∀ b, b < 20 → cg b = I 65 b) ∧ (∀ i, i < nO → le i < nS ∧ I 57 (le i) ≠ -1) ∧ (∀ i j, i < j → j < nO → q_bf I (le i) (le j)) ∧ ∀ s, s < nS → I 57 s ≠ -1 → ∃ i, i < nO ∧ le i = s
/-- what a question may tell -/
def q_tell (n : Nat) (v : Int32) : Prop := v = -1 ∨ q_c v = true ∨ ∃ m, n < m ∧ m < 40 ∧ v = nI (200 + m)
def q_T (I : Nat → Nat → Int32) (nS nB : Nat) : Prop :=
  (∀ s, s < nS → ∃ k, k < 24 ∧ I 51 s = nI k) ∧
  (∀ s, s < nS → 0 ≤ (I 52 s).toInt ∧ (I 52 s).toInt ≤ 100000) ∧
  (∀ s, s < nS → (I 54 s = -1 ∧ I 55 s = -1) ∨ ∃ j p, j < nB ∧ p < q_n (I 62 j) ∧ I 54 s = nI j ∧ I 55 s = nI p) ∧
  (∀ s, s < nS → I 56 s = -1 ∨ ∃ i, i < 10 ∧ I 56 s = nI i) ∧
  (∀ s, s < nS → I 57 s = -1 ∨ ∃ b d t fe, b < 20 ∧ d ≤ 100000 ∧ t ≤ 365 ∧ fe ≤ 1000 ∧ I 57 s = nI b ∧ I 58 s = nI d ∧ I 59 s = nI t ∧ I 60 s = nI fe) ∧
  (∀ j, j < nB → (∃ k, k < 24 ∧ I 61 j = nI k) ∧ ∃ z, 1 ≤ z ∧ z ≤ 20 ∧ I 62 j = nI z) ∧
  (∀ i, i < 10 → ∃ k, k < 24 ∧ I 63 i = nI k) ∧
  (∀ k, k < 10 → ∃ n, n ≤ 40 ∧ I 66 k = nI n ∧ ∀ i, i < n → (I 67 (40 * k + i) = 60 ∨ I 67 (40 * k + i) = 61 ∨ q_c (I 67 (40 * k + i)) = true) ∧ q_tell i (I 69 (40 * k + i)) ∧ q_tell i (I 70 (40 * k + i))) ∧
  (∀ s s', s < nS → s' < nS → I 54 s ≠ -1 → I 54 s = I 54 s' → I 55 s = I 55 s' → s = s') ∧
  (∀ b, b < 20 → q_hld I nS b ≤ 12) ∧
  (∀ f, f < 5 → ∀ c, c < 49 → n_P I f c = true → 0 ≤ (I 50 (5 * c + f)).toInt ∧ (I 50 (5 * c + f)).toInt ≤ (q_c49.getD f 0).toInt)
def q_W (h : mH) (I : Nat → Nat → Int32) (nS nB : Nat) (lo ak : Int32) (nO : Nat) (sp bx qu : Nat → Nat) (own : Nat → Nat × Nat) (bl le : Nat → Nat) : Prop :=
  q_M h I nS nB lo ak ∧ q_F h nS nB lo ak nO ∧ q_S h I nS sp bx ∧ q_N h I nS nB sp bx bl ∧ q_B h I nS nB sp bx ∧ q_Hs h I nS ∧ q_Ks h I qu ∧ q_Ru h I ∧ q_Ln h I nS nO sp le ∧ q_T I nS nB ∧ q_O own nS nB sp bx qu I
section QW
variable {h : mH} {I : Nat → Nat → Int32} {nS nB nO : Nat} {lo ak : Int32} {sp bx qu bl le : Nat → Nat} {own : Nat → Nat × Nat}
theorem rS0 (hS : q_S h I nS sp bx) {s : Nat} (hs : s < nS) : m_gi h (sp s) 6 0 = some (nI s) := g_i (hS s hs).2.1 (hS s hs).2.2 rfl
theorem rS1 (hS : q_S h I nS sp bx) {s : Nat} (hs : s < nS) : m_gi h (sp s) 6 1 = some (I 52 s) := g_i (hS s hs).2.1 (hS s hs).2.2 rfl
theorem rS2 (hS : q_S h I nS sp bx) {s : Nat} (hs : s < nS) : m_gi h (sp s) 6 2 = some (I 53 s) := g_i (hS s hs).2.1 (hS s hs).2.2 rfl
theorem rS3 (hS : q_S h I nS sp bx) {s : Nat} (hs : s < nS) : m_gi h (sp s) 6 3 = some (I 51 s) := g_i (hS s hs).2.1 (hS s hs).2.2 rfl
theorem rS4 (hS : q_S h I nS sp bx) {s : Nat} (hs : s < nS) : m_gr h (sp s) 6 4 = some (q_br I bx s) := g_r _ (hS s hs).2.1 (hS s hs).2.2 rfl
theorem rS5 (hS : q_S h I nS sp bx) {s : Nat} (hs : s < nS) : m_gi h (sp s) 6 5 = some (I 55 s) := g_i (hS s hs).2.1 (hS s hs).2.2 rfl
theorem rS6 (hS : q_S h I nS sp bx) {s : Nat} (hs : s < nS) : m_gr h (sp s) 6 6 = some (q_sr I s) := g_r _ (hS s hs).2.1 (hS s hs).2.2 rfl
theorem rS7 (hS : q_S h I nS sp bx) {s : Nat} (hs : s < nS) : m_gi h (sp s) 6 7 = some (I 57 s) := g_i (hS s hs).2.1 (hS s hs).2.2 rfl
theorem rS8 (hS : q_S h I nS sp bx) {s : Nat} (hs : s < nS) : m_gi h (sp s) 6 8 = some (I 58 s) := g_i (hS s hs).2.1 (hS s hs).2.2 rfl
theorem rS9 (hS : q_S h I nS sp bx) {s : Nat} (hs : s < nS) : m_gi h (sp s) 6 9 = some (I 59 s) := g_i (hS s hs).2.1 (hS s hs).2.2 rfl
theorem rS10 (hS : q_S h I nS sp bx) {s : Nat} (hs : s < nS) : m_gi h (sp s) 6 10 = some (I 60 s) := g_i (hS s hs).2.1 (hS s hs).2.2 rfl
theorem oS (hS : q_S h I nS sp bx) {s : Nat} (hs : s < nS) : m_ob h (sp s) 6 = true := g_o (hS s hs).2.1 (hS s hs).2.2
theorem rB0 (hB : q_B h I nS nB sp bx) {j : Nat} (hj : j < nB) : m_gi h (bx j) 0 0 = some (nI j) := g_i (by have := (hB j hj).2.1; omega) (hB j hj).2.2.1 rfl
theorem rB1 (hB : q_B h I nS nB sp bx) {j : Nat} (hj : j < nB) : m_gi h (bx j) 0 1 = some (I 61 j) := g_i (by have := (hB j hj).2.1; omega) (hB j hj).2.2.1 rfl
theorem rB2 (hB : q_B h I nS nB sp bx) {j : Nat} (hj : j < nB) : m_gr h (bx j) 0 2 = some (some (bx j + 1)) := g_r (some (bx j + 1)) (by have := (hB j hj).2.1; omega) (hB j hj).2.2.1 rfl
theorem oB (hB : q_B h I nS nB sp bx) {j : Nat} (hj : j < nB) : m_ob h (bx j) 0 = true := g_o (by have := (hB j hj).2.1; omega) (hB j hj).2.2.1
theorem rH0 (hF : q_F h nS nB lo ak nO) (hH : q_Hs h I nS) {i : Nat} (hi : i < 10) : m_gi h (6 + i) 5 0 = some (nI i) := g_i (by have := hF.1; omega) (hH i hi) rfl
theorem rH1 (hF : q_F h nS nB lo ak nO) (hH : q_Hs h I nS) {i : Nat} (hi : i < 10) : m_gi h (6 + i) 5 1 = some (I 63 i) := g_i (by have := hF.1; omega) (hH i hi) rfl
theorem rH2 (hF : q_F h nS nB lo ak nO) (hH : q_Hs h I nS) {i : Nat} (hi : i < 10) : m_gi h (6 + i) 5 2 = some (I 64 i) := g_i (by have := hF.1; omega) (hH i hi) rfl
theorem rH3 (hF : q_F h nS nB lo ak nO) (hH : q_Hs h I nS) {i : Nat} (hi : i < 10) : m_gi h (6 + i) 5 3 = some (nI (q_std I nS i)) := g_i (by have := hF.1; omega) (hH i hi) rfl
theorem rH4 (hF : q_F h nS nB lo ak nO) (hH : q_Hs h I nS) {i : Nat} (hi : i < 10) : m_gi h (6 + i) 5 4 = some (q_fil I nS i) := g_i (by have := hF.1; omega) (hH i hi) rfl
theorem oH (hF : q_F h nS nB lo ak nO) (hH : q_Hs h I nS) {i : Nat} (hi : i < 10) : m_ob h (6 + i) 5 = true := g_o (by have := hF.1; omega) (hH i hi)
theorem q_nm1 {k : Nat} (hk : k < 2147483648) : nI k ≠ -1 := by
  intro z
  have := congrArg Int32.toInt z
  rw [nI_toInt hk, show (-1 : Int32).toInt = -1 from rfl] at this
  omega
theorem some2 {α : Type} {A B : Option α} (h1 : A = B) (h2 : ∃ r, B = some r) : ∃ r, A = some r ∧ B = some r := by
  obtain ⟨r, hr⟩ := h2
  exact ⟨r, h1.trans hr, hr⟩
theorem e_told (w : q_W h I nS nB lo ak nO sp bx qu own bl le) (x y : Int32) : ∃ r, f_X9_told h 0 x y = some r ∧ f_X10_told h 44 x y = some r := by
  obtain ⟨hM, hF, hS, hN, hB, hH, hK, hR, hL, hT, hO⟩ := w
  have n3 := hF.2.2.2.2.2.2.2.1
  unfold f_X9_told f_X10_told
  simp only [rF00 hF, Option.bind_some, oF1 hF, if_true, oM hM, c_at hF hN, d_isSpec hM n3, q_b0]
  cases hq : q_r x nS with
  | false => exact ⟨-1, rfl, rfl⟩
  | true =>
    obtain ⟨s, hs, rfl⟩ := q_rE hq
    rw [q_n_nI (by omega)]
    have l1 : s < 300 := by omega
    simp only [if_true, Bool.true_eq_false, if_false, rS1 hS hs, rS2 hS hs, rS3 hS hs, rS4 hS hs, rS5 hS hs, rS6 hS hs, rS7 hS hs, rS8 hS hs, rS9 hS hs, rS10 hS hs, rM7 hM, rM8 hM, rM9 hM, rM10 hM, rM11 hM, rM12 hM, rM13 hM, rM14 hM, rM15 hM, rM16 hM, Option.bind_some]
    rw [rI hM (a := 51) (by decide) (by decide) l1, rI hM (a := 52) (by decide) (by decide) l1, rI hM (a := 53) (by decide) (by decide) l1, rI hM (a := 54) (by decide) (by decide) l1, rI hM (a := 55) (by decide) (by decide) l1, rI hM (a := 56) (by decide) (by decide) l1, rI hM (a := 57) (by decide) (by decide) l1, rI hM (a := 58) (by decide) (by decide) l1, rI hM (a := 59) (by decide) (by decide) l1, rI hM (a := 60) (by decide) (by decide) l1]
    simp only [Option.bind_some]
    have e3 : (match q_br I bx s with | none => some (-1 : Int32) | some _ => (q_br I bx s).bind fun b23 => (m_gi h b23 0 0).bind fun x25 => some x25) = some (I 54 s) := by
      unfold q_br
      rcases hT.2.2.1 s hs with ⟨e, -⟩ | ⟨j, p, hj, -, e, -⟩
      · rw [e, if_pos rfl]
      · have n4 := hF.2.2.2.2.2.2.2.2.1
        rw [e, if_neg (q_nm1 (by omega)), q_n_nI (by omega)]
        simp only [Option.bind_some, rB0 hB hj]
    have e5 : (match q_sr I s with | none => some (-1 : Int32) | some _ => (q_sr I s).bind fun b36 => (m_gi h b36 5 0).bind fun x38 => some x38) = some (I 56 s) := by
      unfold q_sr
      rcases hT.2.2.2.1 s hs with e | ⟨i, hi, e⟩
      · rw [e, if_pos rfl]
      · rw [e, if_neg (q_nm1 (by omega)), q_n_nI (by omega)]
        simp only [Option.bind_some, rH0 hF hH hi]
    refine some2 ?_ ?_
    · by_cases y3 : y = 3
      · subst y3
        rw [if_neg (by decide), if_neg (by decide), if_neg (by decide), if_pos rfl, if_neg (by decide), if_neg (by decide), if_neg (by decide), if_pos rfl]
        exact e3
      · by_cases y5 : y = 5
        · subst y5
          rw [if_neg (by decide), if_neg (by decide), if_neg (by decide), if_neg (by decide), if_neg (by decide), if_pos rfl, if_neg (by decide), if_neg (by decide), if_neg (by decide), if_neg (by decide), if_neg (by decide), if_pos rfl]
          exact e5
        · simp only [y3, y5, if_false]
    · repeat' split
      all_goals exact ⟨_, rfl⟩
theorem e_asked (w : q_W h I nS nB lo ak nO sp bx qu own bl le) : ∃ r, f_X9_asked h 0 = some r ∧ f_X10_asked h 44 = some r := by
  obtain ⟨hM, hF, -⟩ := w
  unfold f_X9_asked f_X10_asked
  rw [rF07 hF, rM29 hM]
  exact ⟨ak, rfl, rfl⟩
end QW
