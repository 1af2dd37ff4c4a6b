/-! PURE PART 1: numbers, kinds and traits -/
def t_stL : List (List Int32) := [[0, -1, -1, -1, -1, -1, -1, -1, -1, -1, -1, -1, -1, -1, -1, -1, -1, -1, -1, -1, -1, -1, -1, -1, -1, -1, -1, -1, -1, -1, -1, -1, -1, -1, -1, -1, -1, -1, -1, -1, -1, -1, -1, -1, -1, -1, -1, -1, -1], [1, 0, -1, -1, -1, -1, -1, -1, -1, -1, -1, -1, -1, -1, -1, -1, -1, -1, -1, -1, -1, -1, -1, -1, -1, -1, -1, -1, -1, -1, -1, -1, -1, -1, -1, -1, -1, -1, -1, -1, 0, 0, -1, -1, -1, -1, -1, -1, -1], [2, 1, 0, -1, -1, -1, -1, -1, -1, -1, -1, -1, -1, -1, -1, -1, -1, -1, -1, -1, -1, -1, -1, -1, -1, -1, -1, -1, -1, -1, -1, -1, -1, -1, -1, -1, -1, -1, -1, -1, 1, 1, -1, -1, -1, -1, -1, -1, -1], [2, 1, -1, 0, -1, -1, -1, -1, -1, -1, -1, -1, -1, -1, -1, -1, -1, -1, -1, -1, -1, -1, -1, -1, -1, -1, -1, -1, -1, -1, -1, -1, -1, -1, -1, -1, -1, -1, -1, -1, 1, 1, -1, 0, -1, -1, -1, -1, -1], [3, 2, -1, 1, 0, -1, -1, -1, -1, -1, -1, -1, -1, -1, -1, -1, -1, -1, -1, -1, -1, -1, -1, -1, -1, -1, -1, -1, -1, -1, -1, -1, -1, -1, -1, -1, -1, -1, -1, -1, 2, 2, -1, 1, -1, -1, -1, -1, -1], [3, 2, -1, 1, -1, 0, -1, -1, -1, -1, -1, -1, -1, -1, -1, -1, -1, -1, -1, -1, -1, -1, -1, -1, -1, -1, -1, -1, -1, -1, -1, -1, -1, -1, -1, -1, -1, -1, -1, -1, 2, 2, -1, 1, -1, 0, 0, -1, -1], [2, 1, -1, -1, -1, -1, 0, -1, -1, -1, -1, -1, -1, -1, -1, -1, -1, -1, -1, -1, -1, -1, -1, -1, -1, -1, -1, -1, -1, -1, -1, -1, -1, -1, -1, -1, -1, -1, -1, -1, 1, 1, -1, -1, 0, -1, -1, -1, -1], [3, 2, -1, -1, -1, -1, 1, 0, -1, -1, -1, -1, -1, -1, -1, -1, -1, -1, -1, -1, -1, -1, -1, -1, -1, -1, -1, -1, -1, -1, -1, -1, -1, -1, -1, -1, -1, -1, -1, -1, 2, 2, -1, -1, 1, -1, -1, -1, -1], [3, 2, -1, -1, -1, -1, 1, -1, 0, -1, -1, -1, -1, -1, -1, -1, -1, -1, -1, -1, -1, -1, -1, -1, -1, -1, -1, -1, -1, -1, -1, -1, -1, -1, -1, -1, -1, -1, -1, -1, 2, 2, -1, -1, 1, 0, -1, 0, -1], [1, -1, -1, -1, -1, -1, -1, -1, -1, 0, -1, -1, -1, -1, -1, -1, -1, -1, -1, -1, -1, -1, -1, -1, -1, -1, -1, -1, -1, -1, -1, -1, -1, -1, -1, -1, -1, -1, -1, -1, -1, -1, -1, -1, -1, -1, -1, -1, -1], [2, -1, -1, -1, -1, -1, -1, -1, -1, 1, 0, -1, -1, -1, -1, -1, -1, -1, -1, -1, -1, -1, -1, -1, -1, -1, -1, -1, -1, -1, -1, -1, -1, -1, -1, -1, -1, -1, -1, -1, 0, 0, -1, 0, -1, -1, -1, -1, -1], [3, -1, -1, -1, -1, -1, -1, -1, -1, 2, 1, 0, -1, -1, -1, -1, -1, -1, -1, -1, -1, -1, -1, -1, -1, -1, -1, -1, -1, -1, -1, -1, -1, -1, -1, -1, -1, -1, -1, -1, 1, 1, -1, 1, -1, -1, -1, -1, -1], [3, -1, -1, -1, -1, -1, -1, -1, -1, 2, 1, -1, 0, -1, -1, -1, -1, -1, -1, -1, -1, -1, -1, -1, -1, -1, -1, -1, -1, -1, -1, -1, -1, -1, -1, -1, -1, -1, -1, -1, 1, 1, -1, 1, -1, -1, -1, -1, -1], [4, -1, -1, -1, -1, -1, -1, -1, -1, 3, 2, -1, 1, 0, -1, -1, -1, -1, -1, -1, -1, -1, -1, -1, -1, -1, -1, -1, -1, -1, -1, -1, -1, -1, -1, -1, -1, -1, -1, -1, 2, 2, -1, 2, 0, -1, -1, -1, -1], [2, -1, -1, -1, -1, -1, -1, -1, -1, 1, -1, -1, -1, -1, 0, -1, -1, -1, -1, -1, -1, -1, -1, -1, -1, -1, -1, -1, -1, -1, -1, -1, -1, -1, -1, -1, -1, -1, -1, -1, 0, -1, 0, -1, -1, -1, -1, -1, -1], [3, -1, -1, -1, -1, -1, -1, -1, -1, 2, -1, -1, -1, -1, 1, 0, -1, -1, -1, -1, -1, -1, -1, -1, -1, -1, -1, -1, -1, -1, -1, -1, -1, -1, -1, -1, -1, -1, -1, -1, 1, -1, 1, -1, 0, -1, -1, -1, -1], [3, -1, -1, -1, -1, -1, -1, -1, -1, 2, -1, -1, -1, -1, 1, -1, 0, -1, -1, -1, -1, -1, -1, -1, -1, -1, -1, -1, -1, -1, -1, -1, -1, -1, -1, -1, -1, -1, -1, -1, 1, -1, 1, -1, -1, 0, -1, 0, -1], [2, -1, -1, -1, -1, -1, -1, -1, -1, 1, -1, -1, -1, -1, -1, -1, -1, 0, -1, -1, -1, -1, -1, -1, -1, -1, -1, -1, -1, -1, -1, -1, -1, -1, -1, -1, -1, -1, -1, -1, 0, 0, -1, -1, -1, -1, -1, -1, -1], [3, -1, -1, -1, -1, -1, -1, -1, -1, 2, -1, -1, -1, -1, -1, -1, -1, 1, 0, -1, -1, -1, -1, -1, -1, -1, -1, -1, -1, -1, -1, -1, -1, -1, -1, -1, -1, -1, -1, -1, 1, 1, -1, -1, 0, -1, -1, -1, -1], [3, -1, -1, -1, -1, -1, -1, -1, -1, 2, -1, -1, -1, -1, -1, -1, -1, 1, -1, 0, -1, -1, -1, -1, -1, -1, -1, -1, -1, -1, -1, -1, -1, -1, -1, -1, -1, -1, -1, -1, 1, 1, -1, 0, -1, 0, -1, 0, 0], [1, -1, -1, -1, -1, -1, -1, -1, -1, -1, -1, -1, -1, -1, -1, -1, -1, -1, -1, -1, 0, -1, -1, -1, -1, -1, -1, -1, -1, -1, -1, -1, -1, -1, -1, -1, -1, -1, -1, -1, 0, 0, -1, -1, -1, -1, -1, -1, -1], [2, -1, -1, -1, -1, -1, -1, -1, -1, -1, -1, -1, -1, -1, -1, -1, -1, -1, -1, -1, 1, 0, -1, -1, -1, -1, -1, -1, -1, -1, -1, -1, -1, -1, -1, -1, -1, -1, -1, -1, 1, 1, -1, 0, -1, -1, -1, -1, -1], [2, -1, -1, -1, -1, -1, -1, -1, -1, -1, -1, -1, -1, -1, -1, -1, -1, -1, -1, -1, 1, -1, 0, -1, -1, -1, -1, -1, -1, -1, -1, -1, -1, -1, -1, -1, -1, -1, -1, -1, 1, 1, -1, -1, -1, 0, -1, 0, -1], [3, -1, -1, -1, -1, -1, -1, -1, -1, -1, -1, -1, -1, -1, -1, -1, -1, -1, -1, -1, 2, 1, -1, 0, -1, -1, -1, -1, -1, -1, -1, -1, -1, -1, -1, -1, -1, -1, -1, -1, 2, 2, -1, 1, -1, 0, 0, -1, -1]]
def t_st (k c : Nat) : Int32 := (t_stL.getD k []).getD c (-1)
def t_abL : List Int64 := [1, 3298534883331, 3298534883335, 12094627905547, 12094627905563, 117647744172075, 20890720927811, 20890720927939, 196812581372227, 513, 12094627907073, 12094627909121, 12094627911169, 29686813963777, 5497558155777, 23089744232961, 181419418665473, 3298535014913, 20890721321473, 469491465716225, 3298535931905, 12094631051265, 179220400570369, 117647755706369, 0, 0, 0, 0, 0, 0, 0, 0, 0, 0, 0, 0, 0, 0, 0, 0, 1099511627776, 3298534883328, 5497558138880, 8796093022208, 17592186044416, 35184372088832, 105553116266496, 175921860444160, 466192930177024]
def t_ab (b : Nat) : Int64 := t_abL.getD b 0
def q_b (b : Bool) : Int32 := if b then 1 else 0
def q_k (x : Int32) : Bool := decide (0 ≤ x.toInt ∧ x.toInt < 24)
def q_t (x : Int32) : Bool := decide (40 ≤ x.toInt ∧ x.toInt < 49)
def q_c (x : Int32) : Bool := q_k x || q_t x
def n_k (c : Nat) : Bool := decide (c < 24)
def n_t (c : Nat) : Bool := decide (40 ≤ c ∧ c < 49)
def n_c (c : Nat) : Bool := n_k c || n_t c
/-- a above b -/
def t_up (a b : Nat) : Bool := n_c a && n_c b && (t_ab b).toBitVec.getLsbD a
theorem q_b0 {b : Bool} : q_b b = 0 ↔ b = false := by cases b <;> decide
theorem q_b1 {b : Bool} : q_b b = 1 ↔ b = true := by cases b <;> decide
theorem c_isKind (x : Int32) : f_X1_isKind x = some (q_b (q_k x)) := by
  unfold f_X1_isKind q_k q_b
  simp only [Int32.lt_iff_toInt_lt, Int32.le_iff_toInt_le, show (0 : Int32).toInt = 0 from rfl, show (24 : Int32).toInt = 24 from rfl]
  repeat' split
  all_goals first | rfl | (simp_all; try omega)
theorem c_isTrait (x : Int32) : f_X1_isTrait x = some (q_b (q_t x)) := by
  unfold f_X1_isTrait q_t q_b
  simp only [Int32.lt_iff_toInt_lt, Int32.le_iff_toInt_le, show (40 : Int32).toInt = 40 from rfl, show (49 : Int32).toInt = 49 from rfl]
  repeat' split
  all_goals first | rfl | (simp_all; try omega)
theorem c_isCode (x : Int32) : f_X1_isKindOrTrait x = some (q_b (q_c x)) := by
  unfold f_X1_isKindOrTrait q_c
  rw [c_isKind, c_isTrait]
  simp only [Option.bind_some]
  cases q_k x <;> cases q_t x <;> rfl
theorem d_in (x lo hi : Int32) : f_X10_in x lo hi = some (q_b (decide (lo.toInt ≤ x.toInt ∧ x.toInt ≤ hi.toInt))) := by
  unfold f_X10_in q_b
  simp only [Int32.lt_iff_toInt_lt]
  repeat' split
  all_goals first | rfl | (simp_all; try omega)
theorem q_bb {α : Type} {b : Bool} {u v w : α} : (if q_b b = 0 then u else if q_b b = 1 then v else w) = if b then v else u := by cases b <;> rfl
theorem d_isKind (x : Int32) : f_X10_isKind x = some (q_b (q_k x)) := by
  unfold f_X10_isKind
  rw [d_in]
  simp only [Option.bind_some, q_bb, show (0 : Int32).toInt = 0 from rfl, show (23 : Int32).toInt = 23 from rfl]
  unfold q_k q_b
  by_cases h : 0 ≤ x.toInt ∧ x.toInt < 24
  · simp [h, show x.toInt ≤ 23 by omega]
  · simp [h, show ¬ (0 ≤ x.toInt ∧ x.toInt ≤ 23) by omega]
theorem d_isTrait (x : Int32) : f_X10_isTrait x = some (q_b (q_t x)) := by
  unfold f_X10_isTrait
  rw [d_in]
  simp only [Option.bind_some, q_bb, show (40 : Int32).toInt = 40 from rfl, show (48 : Int32).toInt = 48 from rfl]
  unfold q_t q_b
  by_cases h : 40 ≤ x.toInt ∧ x.toInt < 49
  · simp [h, show x.toInt ≤ 48 by omega]
  · simp [h, show ¬ (40 ≤ x.toInt ∧ x.toInt ≤ 48) by omega]
theorem d_isCode (x : Int32) : f_X10_isCode x = some (q_b (q_c x)) := by
  unfold f_X10_isCode q_c
  rw [d_isKind, d_isTrait]
  simp only [Option.bind_some]
  cases q_k x <;> cases q_t x <;> rfl
theorem n_of {x : Int32} {n : Nat} (h0 : 0 ≤ x.toInt) (h1 : x.toInt < (n : Int)) : ∃ j, j < n ∧ x = nI j := by
  have hx : x.toInt < 2147483648 := by have := Int32.toInt_lt x; omega
  refine ⟨x.toInt.toNat, by omega, ?_⟩
  apply Int32.toInt_inj.mp
  rw [nI_toInt (by omega)]
  omega
theorem q_kE {x : Int32} (h : q_k x = true) : ∃ k, k < 24 ∧ x = nI k := by
  have := of_decide_eq_true h
  exact n_of this.1 this.2
theorem q_tE {x : Int32} (h : q_t x = true) : ∃ k, 40 ≤ k ∧ k < 49 ∧ x = nI k := by
  have h1 := of_decide_eq_true h
  obtain ⟨k, hk, rfl⟩ := n_of (n := 49) (by omega) h1.2
  rw [nI_toInt (by omega)] at h1
  exact ⟨k, by omega, hk, rfl⟩
theorem q_k_nI {k : Nat} (hk : k < 2147483648) : q_k (nI k) = n_k k := by
  unfold q_k n_k
  rw [nI_toInt hk]
  congr 1
  apply propext
  omega
theorem q_t_nI {k : Nat} (hk : k < 2147483648) : q_t (nI k) = n_t k := by
  unfold q_t n_t
  rw [nI_toInt hk]
  congr 1
  apply propext
  omega
theorem q_c_nI {k : Nat} (hk : k < 2147483648) : q_c (nI k) = n_c k := by
  unfold q_c n_c
  rw [q_k_nI hk, q_t_nI hk]
theorem q_cE {x : Int32} (h : q_c x = true) : ∃ k, k < 49 ∧ n_c k = true ∧ x = nI k := by
  unfold q_c at h
  rcases Bool.or_eq_true _ _ ▸ h with h1 | h1
  · obtain ⟨k, hk, rfl⟩ := q_kE h1
    exact ⟨k, by omega, by unfold n_c n_k; simp [hk], rfl⟩
  · obtain ⟨k, h2, h3, rfl⟩ := q_tE h1
    exact ⟨k, h3, by unfold n_c n_t; simp [h2, h3], rfl⟩
set_option maxRecDepth 100000 in
theorem c_all : ∀ a, a < 49 → n_c a = true → f_X1_allAbove (nI a) = some (t_ab a) := by decide +kernel
set_option maxRecDepth 100000 in
theorem c_steps : ∀ k, k < 24 → ∀ c, c < 49 → n_c c = true → f_X1_stepsUp (nI k) (nI c) = some (t_st k c) := by decide +kernel
