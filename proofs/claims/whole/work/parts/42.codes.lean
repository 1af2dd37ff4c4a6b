/-! PURE PART 3: what the class says of kinds and traits -/
def t_cmL : List (List Int32) := [[0, 0, 0, 0, 0, 0, 0, 0, 0, 0, 0, 0, 0, 0, 0, 0, 0, 0, 0, 0, 0, 0, 0, 0], [0, 1, 1, 1, 1, 1, 1, 1, 1, 0, 0, 0, 0, 0, 0, 0, 0, 0, 0, 0, 0, 0, 0, 0], [0, 1, 2, 1, 1, 1, 1, 1, 1, 0, 0, 0, 0, 0, 0, 0, 0, 0, 0, 0, 0, 0, 0, 0], [0, 1, 1, 3, 3, 3, 1, 1, 1, 0, 0, 0, 0, 0, 0, 0, 0, 0, 0, 0, 0, 0, 0, 0], [0, 1, 1, 3, 4, 3, 1, 1, 1, 0, 0, 0, 0, 0, 0, 0, 0, 0, 0, 0, 0, 0, 0, 0], [0, 1, 1, 3, 3, 5, 1, 1, 1, 0, 0, 0, 0, 0, 0, 0, 0, 0, 0, 0, 0, 0, 0, 0], [0, 1, 1, 1, 1, 1, 6, 6, 6, 0, 0, 0, 0, 0, 0, 0, 0, 0, 0, 0, 0, 0, 0, 0], [0, 1, 1, 1, 1, 1, 6, 7, 6, 0, 0, 0, 0, 0, 0, 0, 0, 0, 0, 0, 0, 0, 0, 0], [0, 1, 1, 1, 1, 1, 6, 6, 8, 0, 0, 0, 0, 0, 0, 0, 0, 0, 0, 0, 0, 0, 0, 0], [0, 0, 0, 0, 0, 0, 0, 0, 0, 9, 9, 9, 9, 9, 9, 9, 9, 9, 9, 9, 0, 0, 0, 0], [0, 0, 0, 0, 0, 0, 0, 0, 0, 9, 10, 10, 10, 10, 9, 9, 9, 9, 9, 9, 0, 0, 0, 0], [0, 0, 0, 0, 0, 0, 0, 0, 0, 9, 10, 11, 10, 10, 9, 9, 9, 9, 9, 9, 0, 0, 0, 0], [0, 0, 0, 0, 0, 0, 0, 0, 0, 9, 10, 10, 12, 12, 9, 9, 9, 9, 9, 9, 0, 0, 0, 0], [0, 0, 0, 0, 0, 0, 0, 0, 0, 9, 10, 10, 12, 13, 9, 9, 9, 9, 9, 9, 0, 0, 0, 0], [0, 0, 0, 0, 0, 0, 0, 0, 0, 9, 9, 9, 9, 9, 14, 14, 14, 9, 9, 9, 0, 0, 0, 0], [0, 0, 0, 0, 0, 0, 0, 0, 0, 9, 9, 9, 9, 9, 14, 15, 14, 9, 9, 9, 0, 0, 0, 0], [0, 0, 0, 0, 0, 0, 0, 0, 0, 9, 9, 9, 9, 9, 14, 14, 16, 9, 9, 9, 0, 0, 0, 0], [0, 0, 0, 0, 0, 0, 0, 0, 0, 9, 9, 9, 9, 9, 9, 9, 9, 17, 17, 17, 0, 0, 0, 0], [0, 0, 0, 0, 0, 0, 0, 0, 0, 9, 9, 9, 9, 9, 9, 9, 9, 17, 18, 17, 0, 0, 0, 0], [0, 0, 0, 0, 0, 0, 0, 0, 0, 9, 9, 9, 9, 9, 9, 9, 9, 17, 17, 19, 0, 0, 0, 0], [0, 0, 0, 0, 0, 0, 0, 0, 0, 0, 0, 0, 0, 0, 0, 0, 0, 0, 0, 0, 20, 20, 20, 20], [0, 0, 0, 0, 0, 0, 0, 0, 0, 0, 0, 0, 0, 0, 0, 0, 0, 0, 0, 0, 20, 21, 20, 21], [0, 0, 0, 0, 0, 0, 0, 0, 0, 0, 0, 0, 0, 0, 0, 0, 0, 0, 0, 0, 20, 20, 22, 20], [0, 0, 0, 0, 0, 0, 0, 0, 0, 0, 0, 0, 0, 0, 0, 0, 0, 0, 0, 0, 20, 21, 20, 23]]
def t_cm (a b : Nat) : Int32 := (t_cmL.getD a []).getD b 0
def n_ab (k : Nat) : Bool := [0, 1, 3, 9, 10, 17, 20].contains k
def q_n (x : Int32) : Nat := x.toNatClampNeg
theorem q_n_nI {k : Nat} (h : k < 2147483648) : q_n (nI k) = k := nI_clamp h
def q_up (a b : Int32) : Bool := q_c a && q_c b && t_up (q_n a) (q_n b)
theorem c_under (x y : Int32) : f_X1_standsUnder x y = some (q_b (q_up y x)) := by
  unfold f_X1_standsUnder q_up
  rw [c_isCode, c_isCode]
  simp only [Option.bind_some, q_b0]
  cases hx : q_c x with
  | false => simp [q_b]
  | true =>
    cases hy : q_c y with
    | false => simp [q_b]
    | true =>
      obtain ⟨a, ha, na, rfl⟩ := q_cE hx
      obtain ⟨b, hb, nb, rfl⟩ := q_cE hy
      rw [c_all a ha na]
      simp only [Option.bind_some]
      rw [c_has (by omega), q_n_nI (by omega), q_n_nI (by omega)]
      simp only [Option.bind_some, q_b0, t_up, na, nb]
      cases (t_ab a).toBitVec.getLsbD b <;> rfl
def q_con (x : Int32) : Bool := q_k x && !n_ab (q_n x)
theorem c_con (x : Int32) : f_X1_isConcrete x = some (q_b (q_con x)) := by
  unfold f_X1_isConcrete q_con
  rw [c_isKind]
  simp only [Option.bind_some, q_b0]
  cases hx : q_k x with
  | false => simp [q_b]
  | true =>
    obtain ⟨a, ha, rfl⟩ := q_kE hx
    rw [c_has (by omega), q_n_nI (by omega)]
    have : ∀ a, a < 24 → (1181195 : Int64).toBitVec.getLsbD a = n_ab a := by decide +kernel
    rw [this a ha]
    cases n_ab a <;> rfl
set_option maxRecDepth 100000 in
theorem c_cm : ∀ a, a < 24 → ∀ b, b < 24 → f_X1_lowestShared (nI a) (nI b) = some (t_cm a b) := by decide +kernel
def q_cm (x y : Int32) : Int32 := if (q_k x && q_k y) = true then t_cm (q_n x) (q_n y) else -1
theorem c_common (x y : Int32) : f_X1_lowestShared x y = some (q_cm x y) := by
  unfold q_cm
  cases hx : q_k x with
  | false => unfold f_X1_lowestShared; rw [c_isKind, hx]; rfl
  | true =>
    cases hy : q_k y with
    | false => unfold f_X1_lowestShared; rw [c_isKind, c_isKind, hx, hy]; rfl
    | true =>
      obtain ⟨a, ha, rfl⟩ := q_kE hx
      obtain ⟨b, hb, rfl⟩ := q_kE hy
      rw [c_cm a ha b hb, q_n_nI (by omega), q_n_nI (by omega)]
      rfl
def t_tr : List Nat := [40, 41, 42, 43, 44, 45, 46, 47, 48]
def q_sh (x y : Int32) (t : Nat) : Bool := q_k x && q_k y && n_t t && t_up t (q_n x) && t_up t (q_n y)
theorem c_shared (x y : Int32) : ∃ S, f_X1_sharedTraits x y = some S ∧ ∀ t, S.toBitVec.getLsbD t = q_sh x y t := by
  unfold f_X1_sharedTraits q_sh
  rw [c_isKind, c_isKind]
  simp only [Option.bind_some, q_b0]
  cases hx : q_k x with
  | false => exact ⟨0, by simp, fun t => by simp⟩
  | true =>
    cases hy : q_k y with
    | false => exact ⟨0, by simp, fun t => by simp⟩
    | true =>
      obtain ⟨a, ha, rfl⟩ := q_kE hx
      obtain ⟨b, hb, rfl⟩ := q_kE hy
      have na : ∀ k, k < 24 → n_c k = true := by decide
      rw [c_all a (by omega) (na a ha), c_all b (by omega) (na b hb)]
      refine ⟨_, rfl, fun t => ?_⟩
      rw [q_n_nI (by omega), q_n_nI (by omega), Int64.toBitVec_and, Int64.toBitVec_and, BitVec.getLsbD_and, BitVec.getLsbD_and]
      have h1 : ∀ t, t < 64 → (561850441793536 : Int64).toBitVec.getLsbD t = n_t t := by decide +kernel
      have h2 : ∀ t, t < 64 → n_t t = true → n_c t = true := by decide +kernel
      by_cases ht : t < 64
      · rw [h1 t ht]
        unfold t_up
        cases h3 : n_t t with
        | false => simp
        | true => simp [h2 t ht h3, na a ha, na b hb]
      · have h5 : n_t t = false := by unfold n_t; simp; omega
        rw [BitVec.getLsbD_of_ge _ _ (by omega), h5]
        simp
def t_mt (a b : Nat) : Bool := [41, 42, 43, 44, 45, 46, 47, 48].any (fun t => t_up t a && t_up t b)
set_option maxRecDepth 100000 in
theorem c_mt : ∀ a, a < 24 → ∀ b, b < 24 → f_X1_mayTurnInto (nI a) (nI b) = some (q_b (t_mt a b)) := by decide +kernel
/-- those of a set of traits that have no other one of it below them -/
def n_lo (P : Nat → Bool) (t : Nat) : Bool := P t && t_tr.all (fun o => !(P o) || t == o || !(t_up t o))
def q_loL (S : Int64) : Nat → Int64
  | 0 => S
  | i + 1 => if S.toBitVec.getLsbD (40 + i) = true then q_loL S i &&& ((m_t0.getD i 0 ^^^ (-1)) ||| ((1 : Int64) <<< ((nI (40 + i)).toInt64 &&& 63))) else q_loL S i
theorem c_tl0 : ∀ i, i < 9 → m_TL 0 (nI (40 + i) - 40) = some (m_t0.getD i 0) := by decide +kernel
theorem c_ext : ∀ i, i < 9 → ∀ t, t < 64 → (m_t0.getD i 0).toBitVec.getLsbD t = t_up t (40 + i) := by decide +kernel
theorem c_lowest (S : Int64) : ∃ S', f_X1_lowest S = some S' ∧ ∀ t, t < 64 → S'.toBitVec.getLsbD t = n_lo (fun c => S.toBitVec.getLsbD c) t := by
  refine ⟨q_loL S 9, ?_, fun t ht => ?_⟩
  · unfold f_X1_lowest
    have h := m_for (step := w_X1_lowest_6 S) (fun i => (q_loL S i, nI (40 + i))) (q_loL S 9) 9 (by decide) (fun i hi => by
      unfold w_X1_lowest_6
      dsimp only
      rw [if_neg (by rw [show (49 : Int32) = nI 49 from rfl, n_le (by omega) (by omega)]; omega), c_has (by omega)]
      simp only [Option.bind_some, q_b0]
      cases hp : S.toBitVec.getLsbD (40 + i) with
      | false => simp [q_loL, hp, nI_1, Nat.add_assoc]
      | true =>
        rw [if_neg (by simp), c_tl0 i hi]
        simp only [Option.bind_some, q_loL, hp, if_true, nI_1, Nat.add_assoc]) (by
      unfold w_X1_lowest_6
      dsimp only
      rw [if_pos (by decide)])
    rw [show (S, (40 : Int32)) = (fun i => (q_loL S i, nI (40 + i))) 0 from rfl, h]
    rfl
  · have key : ∀ i, i ≤ 9 → (q_loL S i).toBitVec.getLsbD t = (S.toBitVec.getLsbD t && (List.range i).all (fun j => !(S.toBitVec.getLsbD (40 + j)) || t == 40 + j || !(t_up t (40 + j)))) := by
      intro i
      induction i with
      | zero => intro _; simp [q_loL]
      | succ i ih =>
        intro hi
        rw [List.range_succ, List.all_append]
        unfold q_loL
        have ih' := ih (by omega)
        cases hp : S.toBitVec.getLsbD (40 + i) with
        | false => simp only [Bool.false_eq_true, if_false, ih']; simp [hp]
        | true =>
          simp only [if_true]
          rw [Int64.toBitVec_and, BitVec.getLsbD_and, ih', Int64.toBitVec_or, BitVec.getLsbD_or, b_1shl (by omega), Int64.toBitVec_xor, BitVec.getLsbD_xor, c_ext i (by omega) t ht]
          have : (-1 : Int64).toBitVec.getLsbD t = true := by
            have : ∀ t, t < 64 → (-1 : Int64).toBitVec.getLsbD t = true := by decide +kernel
            exact this t ht
          rw [this, ← Bool.and_assoc]
          congr 1
          simp only [List.all_cons, List.all_nil, hp, Bool.not_true, Bool.false_or, Bool.and_true]
          by_cases e : t = 40 + i
          · simp [e]
          · cases t_up t (40 + i) <;> simp [e]
    rw [key 9 (Nat.le_refl _)]
    rfl
