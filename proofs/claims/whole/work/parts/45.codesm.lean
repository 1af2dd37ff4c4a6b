/-! PURE PART 6: the reference and the class say the same of kinds and traits -/
section QM
variable {h h' : mH} {I : Nat → Nat → Int32} {nS nB : Nat} {lo ak : Int32}
theorem d_steps (hM : q_M h I nS nB lo ak) {k c : Nat} (hk : k < 24) (hc : c < 49) (nc : n_c c = true) : f_X10_stepsTo h 44 (nI k) (nI c) = some (t_st k c) := by
  rw [d_st0 hM]
  by_cases h1 : c < 24
  · exact d_stC1 k hk c h1
  · have h2 : 40 ≤ c := by
      unfold n_c n_k n_t at nc
      simp at nc
      omega
    have := d_stC2 k hk (c - 40) (by omega)
    rw [show 40 + (c - 40) = c by omega] at this
    exact this
theorem n_k_t {c : Nat} (h : n_k c = true) : n_t c = false := by
  unfold n_k at h
  unfold n_t
  simp at h ⊢
  omega
theorem d_aboveN (hM : q_M h I nS nB lo ak) {a b : Nat} (ha : a < 49) (hb : b < 49) (na : n_c a = true) (nb : n_c b = true) : f_X10_above h 44 (nI a) (nI b) = some (q_b (t_up a b)) := by
  unfold f_X10_above
  rw [d_isKind, q_k_nI (by omega), d_isTrait, q_t_nI (by omega)]
  simp only [Option.bind_some, q_b0, oM hM, if_true]
  cases kb : n_k b with
  | true =>
    have hb' : b < 24 := of_decide_eq_true kb
    rw [if_neg (by simp), d_steps hM hb' ha na]
    simp only [Option.bind_some]
    have := t_st_up b hb' a ha na
    cases hu : t_up a b with
    | false =>
      rw [hu] at this
      rw [if_pos (of_decide_eq_true this)]
      rfl
    | true =>
      rw [hu] at this
      rw [if_neg (of_decide_eq_false this)]
      rfl
  | false =>
    rw [if_pos rfl]
    have tb : n_t b = true := by unfold n_c at nb; rw [kb] at nb; simpa using nb
    cases ta : n_t a with
    | false =>
      rw [if_pos rfl]
      have key : ∀ a, a < 49 → ∀ b, b < 49 → n_t a = false → n_t b = true → t_up a b = false := by decide +kernel
      rw [key a ha b hb ta tb]
      rfl
    | true =>
      rw [if_neg (by simp), d_tr0 hM, d_trC a ha b hb ta tb]
      simp only [Option.bind_some, q_b0]
      cases t_up a b <;> rfl
theorem q_up_nI {a b : Nat} (ha : a < 49) (hb : b < 49) : q_up (nI a) (nI b) = t_up a b := by
  unfold q_up
  rw [q_c_nI (by omega), q_c_nI (by omega), q_n_nI (by omega), q_n_nI (by omega)]
  unfold t_up
  cases n_c a <;> cases n_c b <;> simp
theorem d_above (hM : q_M h I nS nB lo ak) {x y : Int32} (hx : q_c x = true) (hy : q_c y = true) : f_X10_above h 44 x y = some (q_b (q_up x y)) := by
  obtain ⟨a, ha, na, rfl⟩ := q_cE hx
  obtain ⟨b, hb, nb, rfl⟩ := q_cE hy
  rw [d_aboveN hM ha hb na nb, q_up_nI ha hb]
theorem q_c100 {x : Int32} (h : q_c x = true) : x.toInt < 49 ∧ 0 ≤ x.toInt := by
  obtain ⟨a, ha, na, rfl⟩ := q_cE h
  rw [nI_toInt (by omega)]
  omega
theorem s100 {x : Int32} (h : 100 ≤ x.toInt) : (x - 100).toInt = x.toInt - 100 := by
  rw [Int32.toInt_sub, show (100 : Int32).toInt = 100 from rfl]
  have := Int32.toInt_lt x
  rw [Int.bmod_eq_of_le (by omega) (by omega)]
theorem e_below (hM : q_M h I nS nB lo ak) (x y : Int32) : ∃ r, f_X9_below 0 x y = some r ∧ f_X10_below h 44 x y = some r := by
  have cse : ∀ z, f_X1_isCase z = some (q_b (decide (100 ≤ z.toInt) && q_c (z - 100))) := by
    intro z
    unfold f_X1_isCase
    rw [c_isCode]
    simp only [Int32.lt_iff_toInt_lt, show (100 : Int32).toInt = 100 from rfl, Option.bind_some, q_b0]
    by_cases hz : 100 ≤ z.toInt
    · rw [if_neg (by omega)]
      cases q_c (z - 100) <;> simp [hz, q_b]
    · rw [if_pos (by omega)]
      simp [hz, q_b]
  unfold f_X9_below f_X10_below
  rw [cse, cse, c_under, c_under, d_isCode, d_isCode, d_isCode, d_isCode]
  simp only [Option.bind_some, q_b0, q_bb, oM hM, if_true, Int32.lt_iff_toInt_lt, show (100 : Int32).toInt = 100 from rfl]
  have up0 : ∀ a b : Int32, (q_c a = false ∨ q_c b = false) → q_up b a = false := by
    intro a b hab
    unfold q_up
    rcases hab with e | e <;> rw [e] <;> simp
  cases hx : q_c x with
  | true =>
    have x1 := q_c100 hx
    have x2 : ¬ 100 ≤ x.toInt := by omega
    simp only [x2, decide_false, Bool.false_and, if_true, Bool.true_eq_false, if_false]
    cases hy : q_c y with
    | true =>
      rw [d_above hM hy hx]
      simp only [Option.bind_some, q_bb, Bool.true_eq_false, if_false]
      cases q_up y x <;> exact ⟨_, rfl, rfl⟩
    | false =>
      simp only [if_true]
      refine ⟨0, ?_, ?_⟩
      · rw [up0 x y (Or.inr hy)]; rfl
      · have : x.toInt < 100 := by omega
        simp only [this, if_true]
        repeat' split
        all_goals rfl
  | false =>
    simp only [if_true]
    by_cases hx1 : 100 ≤ x.toInt
    · cases hx2 : q_c (x - 100) with
      | false =>
        simp only [hx1, decide_true, Bool.and_false, if_true]
        exact ⟨0, by rw [up0 x y (Or.inl hx)]; rfl, rfl⟩
      | true =>
        simp only [hx1, decide_true, Bool.and_self, Bool.true_eq_false, if_false]
        by_cases hy1 : 100 ≤ y.toInt
        · cases hy2 : q_c (y - 100) with
          | false =>
            simp only [Bool.and_false, if_true]
            exact ⟨0, by rw [up0 x y (Or.inl hx)]; rfl, rfl⟩
          | true =>
            simp only [hy1, decide_true, Bool.and_self, Bool.true_eq_false, if_false]
            have e1 : ¬ x.toInt < 100 := by omega
            have e2 : ¬ y.toInt < 100 := by omega
            simp only [e1, e2, if_false]
            rw [d_above hM hy2 hx2]
            simp only [Option.bind_some, q_b0]
            cases q_up (y - 100) (x - 100) <;> exact ⟨_, rfl, rfl⟩
        · simp only [hy1, decide_false, Bool.false_and, if_true]
          refine ⟨0, by rw [up0 x y (Or.inl hx)]; rfl, ?_⟩
          have : y.toInt < 100 := by omega
          simp only [this, if_true]
          repeat' split
          all_goals rfl
    · simp only [hx1, decide_false, Bool.false_and, if_true]
      refine ⟨0, by rw [up0 x y (Or.inl hx)]; rfl, ?_⟩
      have : x.toInt < 100 := by omega
      simp only [this, if_true]
      repeat' split
      all_goals rfl
theorem e_steps (hM : q_M h I nS nB lo ak) (x y : Int32) : ∃ r, f_X9_steps 0 x y = some r ∧ f_X10_steps h 44 x y = some r := by
  unfold f_X9_steps f_X10_steps
  rw [d_isKind, d_isCode]
  simp only [Option.bind_some, q_b0, oM hM, if_true]
  cases hy : q_c y with
  | false =>
    refine ⟨-1, ?_, ?_⟩
    · unfold f_X1_stepsUp
      rw [c_isCode, hy]
      rfl
    · simp only [if_true]
      split <;> rfl
  | true =>
    obtain ⟨c, hc, nc, rfl⟩ := q_cE hy
    cases hx : q_k x with
    | true =>
      obtain ⟨k, hk, rfl⟩ := q_kE hx
      rw [c_steps k hk c hc nc, d_steps hM hk hc nc]
      exact ⟨_, rfl, rfl⟩
    | false =>
      refine ⟨-1, ?_, rfl⟩
      unfold f_X1_stepsUp
      rw [c_isCode, hy]
      simp only [Option.bind_some, q_b0, Bool.true_eq_false, if_false]
      have h1 := m_for (step := w_X1_stepsUp_13 (nI c)) (fun _ => (x, (0 : Int32))) (Sum.inl ()) 0 (by decide) (fun i hi => by omega) (by
        unfold w_X1_stepsUp_13
        dsimp only
        rw [if_neg (by decide), c_isKind, hx]
        rfl)
      rw [h1]
      rfl
theorem d_cm0 (hM : q_M h I nS nB lo ak) : f_X10_common h 44 = f_X10_common h_C 44 := by
  funext a b
  unfold f_X10_common
  have w1 : w_X10_common_18 h 44 b = w_X10_common_18 h_C 44 b := by
    funext s
    unfold w_X10_common_18
    simp only [rM0 hM, rM0 hC_M, rC hM (a := 45) (by decide) (by decide), Option.bind_some, oM hM, oM hC_M, d_st0 hM]
  rw [w1]
end QM
section QM
variable {h h' : mH} {I : Nat → Nat → Int32} {nS nB : Nat} {lo ak : Int32}
theorem e_common (hM : q_M h I nS nB lo ak) (x y : Int32) : ∃ r, f_X9_common 0 x y = some r ∧ f_X10_common h 44 x y = some r := by
  unfold f_X9_common
  rw [c_common]
  refine ⟨q_cm x y, rfl, ?_⟩
  unfold q_cm
  cases hx : q_k x with
  | false => unfold f_X10_common; rw [d_isKind, hx]; rfl
  | true =>
    cases hy : q_k y with
    | false => unfold f_X10_common; rw [d_isKind, d_isKind, hx, hy]; rfl
    | true =>
      obtain ⟨a, ha, rfl⟩ := q_kE hx
      obtain ⟨b, hb, rfl⟩ := q_kE hy
      rw [d_cm0 hM, d_cmC a ha b hb, q_n_nI (by omega), q_n_nI (by omega)]
      rfl
theorem q_cnt_congr {P P' : Nat → Bool} : ∀ n, (∀ c, c < n → P c = P' c) → q_cnt P n = q_cnt P' n
  | 0, _ => rfl
  | n + 1, h => by
    unfold q_cnt
    rw [q_cnt_congr n (fun c hc => h c (by omega)), h n (by omega)]
theorem q_pick_congr {P P' : Nat → Bool} (hp : ∀ c, c < 49 → P c = P' c) (x : Int32) : q_pick P x = q_pick P' x := by
  unfold q_pick
  apply q_fst_congr
  intro j _ h2
  rw [hp j (by omega), q_cnt_congr j (fun c hc => hp c (by omega))]
theorem d_sharedN (hM : q_M h I nS nB lo ak) {a b t : Nat} (ha : a < 24) (hb : b < 24) (ht : t < 49) (nt : n_t t = true) : f_X10_isShared h 44 (nI a) (nI b) (nI t) = some (q_b (t_up t a && t_up t b)) := by
  have na : ∀ k, k < 24 → n_c k = true := by decide
  have nc : n_c t = true := by unfold n_c; rw [nt]; simp
  unfold f_X10_isShared
  rw [d_aboveN hM ht (by omega) nc (na a ha), d_aboveN hM ht (by omega) nc (na b hb)]
  simp only [Option.bind_some, q_b0, oM hM, if_true]
  cases t_up t a <;> cases t_up t b <;> rfl
end QM
