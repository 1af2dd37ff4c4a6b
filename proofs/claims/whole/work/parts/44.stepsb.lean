/-! PURE PART 5b: chains of kinds -/
def t_chL : List (List Nat) := [[0], [1, 0], [2, 1, 0], [3, 1, 0], [4, 3, 1, 0], [5, 3, 1, 0], [6, 1, 0], [7, 6, 1, 0], [8, 6, 1, 0], [9, 0], [10, 9, 0], [11, 10, 9, 0], [12, 10, 9, 0], [13, 12, 10, 9, 0], [14, 9, 0], [15, 14, 9, 0], [16, 14, 9, 0], [17, 9, 0], [18, 17, 9, 0], [19, 17, 9, 0], [20, 0], [21, 20, 0], [22, 20, 0], [23, 21, 20, 0]]
def t_ch (k n : Nat) : Nat := (t_chL.getD k []).getD n 99
def t_cl (k : Nat) : Nat := (t_chL.getD k []).length
theorem ch0 : ∀ k, k < 24 → t_ch k 0 = k ∧ 0 < t_cl k ∧ t_cl k ≤ 5 := by decide +kernel
theorem ch1 : ∀ k, k < 24 → ∀ n, n < t_cl k → t_ch k n < 24 ∧ t_st k (t_ch k n) = nI n := by decide +kernel
set_option maxRecDepth 100000 in
theorem ch2 : ∀ k, k < 24 → ∀ n, n < t_cl k → ∀ c, c < 24 → t_st k c = nI n → c = t_ch k n := by decide +kernel
def n_nm (k t : Nat) : Bool := (m_t1.getD k 0).toBitVec.getLsbD t
set_option maxRecDepth 100000 in
theorem ch3 : ∀ k, k < 24 → ∀ n, n < t_cl k → ∀ t, t < 9 → (!(n_nm (t_ch k n) (40 + t)) || (List.range (n + 1)).any (fun m => t_st k (40 + t) == nI m)) = true := by decide +kernel
set_option maxRecDepth 100000 in
theorem ch4 : ∀ k, k < 24 → ∀ n, n < t_cl k → ∀ t, t < 9 → (!(t_st k (40 + t) == nI n) || n_nm (t_ch k n) (40 + t)) = true := by decide +kernel
set_option maxRecDepth 100000 in
theorem ch5 : ∀ k, k < 24 → ∀ c, c < 49 → (t_st k c == -1 || (List.range (t_cl k)).any (fun m => t_st k c == nI m)) = true := by decide +kernel
theorem ch6 : ∀ k, k < 24 → ∀ n, n < t_cl k → f_X1_parentOf (nI (t_ch k n)) = some (if n + 1 < t_cl k then nI (t_ch k (n + 1)) else -1) := by decide +kernel
theorem ch7 : ∀ k, k < 24 → f_X1_namedBy (nI k) = some (m_t1.getD k 0) := by decide +kernel
theorem ch8 : ∀ k, k < 24 → ∀ t, t < 64 → (m_t1.getD k 0).toBitVec.getLsbD t = true → n_t t = true := by decide +kernel
