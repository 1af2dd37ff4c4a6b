/-! PURE PART 14: placed, find -/
section QW
variable {h : mH} {I : Nat → Nat → Int32} {nS nB nO : Nat} {lo ak : Int32} {sp bx qu bl le : Nat → Nat} {own : Nat → Nat × Nat}
def q_pr (I : Nat → Nat → Int32) (nB : Nat) (x y : Int32) : Bool := q_r x nB && q_r y (q_n (I 62 (q_n x)))
theorem q_fst_opt {Q : Nat → Prop} [DecidablePred Q] : ∀ n i, (∃ s, i ≤ s ∧ s < i + n ∧ Q s ∧ (∀ j, i ≤ j → j < s → ¬ Q j) ∧ q_fst (fun s => if Q s then some (some s) else none) none n i = some s) ∨ ((∀ s, i ≤ s → s < i + n → ¬ Q s) ∧ q_fst (fun s => if Q s then some (some s) else none) none n i = none) := by
  intro n i
  rcases q_fst_spec (E := fun s => if Q s then some (some s) else none) (d := none) n i with ⟨h1, h2⟩ | ⟨m, h1, h2, h3, h4⟩
  · refine Or.inr ⟨fun s s1 s2 hq => ?_, h2⟩
    have := h1 s s1 s2
    rw [if_pos hq] at this
    cases this
  · refine Or.inl ⟨m, h1, h2, ?_, fun j j1 j2 hq => ?_, ?_⟩
    · apply Classical.byContradiction
      intro hq
      rw [if_neg hq] at h4
      cases h4
    · have := h3 j j1 j2
      rw [if_pos hq] at this
      cases this
    · by_cases hq : Q m
      · rw [if_pos hq] at h4
        exact (Option.some.inj h4).symm
      · rw [if_neg hq] at h4
        cases h4
theorem q_who_some {j p s : Nat} (hw : q_who I nS j p = some s) : s < nS ∧ I 54 s = nI j ∧ I 55 s = nI p := by
  rcases q_fst_opt (Q := fun s => I 54 s = nI j ∧ I 55 s = nI p) nS 0 with ⟨t, t1, t2, t3, t4, t5⟩ | ⟨-, t5⟩
  · have : some t = some s := t5.symm.trans hw
    cases this
    exact ⟨by omega, t3⟩
  · have : none = some s := t5.symm.trans hw
    cases this
theorem q_who_none {j p : Nat} (hw : q_who I nS j p = none) : ∀ s, s < nS → ¬ (I 54 s = nI j ∧ I 55 s = nI p) := by
  rcases q_fst_opt (Q := fun s => I 54 s = nI j ∧ I 55 s = nI p) nS 0 with ⟨t, t1, t2, t3, t4, t5⟩ | ⟨t1, t5⟩
  · have : some t = none := t5.symm.trans hw
    cases this
  · exact fun s hs => t1 s (Nat.zero_le _) (by omega)
theorem c_hasPlace (hB : q_B h I nS nB sp bx) (hT : q_T I nS nB) {j : Nat} (hj : j < nB) (y : Int32) : f_X0_hasPlace h (bx j) y = some (q_b (q_r y (q_n (I 62 j)))) := by
  obtain ⟨b1, b2, b3, f, b4, b5⟩ := hB j hj
  obtain ⟨-, z, z1, z2, z3⟩ := hT.2.2.2.2.2.1 j hj
  unfold f_X0_hasPlace
  rw [rB2 hB hj]
  simp only [Option.bind_some]
  rw [g_len b2 b4 (by decide), z3, q_n_nI (by omega)]
  simp only [Option.bind_some, Int32.lt_iff_toInt_lt, Int32.le_iff_toInt_le, nI_toInt (show z < 2147483648 by omega), show (0 : Int32).toInt = 0 from rfl]
  unfold q_r q_b
  by_cases h1 : y.toInt < 0
  · rw [if_pos h1, if_neg (by simp; omega)]
  · rw [if_neg h1]
    by_cases h2 : (z : Int) ≤ y.toInt
    · rw [if_pos h2, if_neg (by simp; omega)]
    · rw [if_neg h2, if_pos (by simp; omega)]
theorem c_specIn (w : q_W h I nS nB lo ak nO sp bx qu own bl le) (x y : Int32) : f_X9_specimenIn h 0 x y = some (if q_pr I nB x y = true then (q_who I nS (q_n x) (q_n y)).map sp else none) := by
  obtain ⟨hM, hF, hS, hN, hB, hH, hK, hR, hL, hT, hO⟩ := w
  have n4 := hF.2.2.2.2.2.2.2.2.1
  unfold f_X9_specimenIn q_pr
  rw [if_pos (oF0 hF), c_boxAt hF hN]
  simp only [Option.bind_some]
  cases hq : q_r x nB with
  | false => rfl
  | true =>
    obtain ⟨j, hj, rfl⟩ := q_rE hq
    rw [q_n_nI (by omega)]
    obtain ⟨b1, b2, b3, f, b4, b5⟩ := hB j hj
    obtain ⟨-, z, z1, z2, z3⟩ := hT.2.2.2.2.2.1 j hj
    simp only [if_true, oB hB hj, Bool.true_and]
    unfold f_X0_at
    rw [if_pos (oB hB hj), c_hasPlace hB hT hj, rB2 hB hj]
    simp only [Option.bind_some, q_b0]
    cases hp : q_r y (q_n (I 62 j)) with
    | false => rfl
    | true =>
      obtain ⟨p, hp2, rfl⟩ := q_rE hp
      have : q_n (I 62 j) ≤ 20 := by rw [z3, q_n_nI (by omega)]; exact z2
      rw [if_neg (by simp), g_al b2 b4 (by decide) hp2 (by omega), b5 p hp2, q_n_nI (by omega)]
      rfl
theorem t_n1 {n : Nat} (hn : n ≤ 100000) : (nI n - 1).toInt = (n : Int) - 1 := by
  rw [show (1 : Int32) = nI 1 from rfl, pk_sub_toInt (by omega) (by omega)]
  rfl
theorem d_rng {n : Nat} (hn : n ≤ 100000) (x : Int32) : f_X10_in x 0 (nI n - 1) = some (q_b (q_r x n)) := by
  rw [d_in, t_n1 hn, show (0 : Int32).toInt = 0 from rfl]
  unfold q_r
  congr 3
  apply propext
  omega
theorem d_isPlace (hM : q_M h I nS nB lo ak) (hn : nB ≤ 40) (hT : q_T I nS nB) (x y : Int32) : f_X10_isPlace h 44 x y = some (q_b (q_pr I nB x y)) := by
  unfold f_X10_isPlace q_pr
  rw [rM17 hM]
  simp only [Option.bind_some]
  rw [d_rng (by omega)]
  simp only [Option.bind_some, q_b0]
  cases hq : q_r x nB with
  | false => rfl
  | true =>
    obtain ⟨j, hj, rfl⟩ := q_rE hq
    obtain ⟨-, z, z1, z2, z3⟩ := hT.2.2.2.2.2.1 j hj
    rw [q_n_nI (by omega), if_neg (by simp), rM19 hM]
    simp only [Option.bind_some]
    rw [rI hM (a := 62) (by decide) (by decide) (show j < 40 by omega), z3]
    simp only [Option.bind_some]
    rw [d_rng (by omega), q_n_nI (by omega)]
    simp only [Option.bind_some, q_b0, Bool.true_and]
    cases q_r y z <;> rfl
def q_pv (I : Nat → Nat → Int32) (nS nB : Nat) (x y : Int32) : Int32 := if q_pr I nB x y = true then (match q_who I nS (q_n x) (q_n y) with | some s => nI s | none => -1) else -1
theorem d_placed (hM : q_M h I nS nB lo ak) (hn : nB ≤ 40) (hn2 : nS ≤ 300) (hT : q_T I nS nB) (x y : Int32) : f_X10_placed h 44 x y = some (q_pv I nS nB x y) := by
  unfold f_X10_placed q_pv
  rw [if_pos (oM hM), d_isPlace hM hn hT]
  simp only [Option.bind_some, q_b0]
  cases hp : q_pr I nB x y with
  | false => rfl
  | true =>
    have hp2 := hp
    unfold q_pr at hp2
    rw [Bool.and_eq_true] at hp2
    obtain ⟨j, hj, rfl⟩ := q_rE hp2.1
    obtain ⟨p, hp3, rfl⟩ := q_rE hp2.2
    obtain ⟨-, z, z1, z2, z3⟩ := hT.2.2.2.2.2.1 j hj
    rw [q_n_nI (by omega), z3, q_n_nI (by omega)] at hp3
    have hl := m_search (step := w_X10_placed_13 h 44 (nI j) (nI p)) (fun s => nI s) (fun s => if I 54 s = nI j ∧ I 55 s = nI p then some (Sum.inr (nI s)) else none) (Sum.inl ()) nS (by omega) (fun s hs => by
      unfold w_X10_placed_13
      rw [rM6 hM]
      simp only [Option.bind_some]
      rw [if_neg (by rw [n_le (by omega) (by omega)]; omega), rM10 hM, rM11 hM]
      simp only [Option.bind_some]
      rw [rI hM (a := 54) (by decide) (by decide) (show s < 300 by omega), rI hM (a := 55) (by decide) (by decide) (show s < 300 by omega)]
      simp only [Option.bind_some, nI_1]
      by_cases e1 : I 54 s = nI j
      · by_cases e2 : I 55 s = nI p
        · simp [e1, e2]
        · simp [e1, e2]
      · simp [e1]) (by
      unfold w_X10_placed_13
      rw [rM6 hM]
      simp only [Option.bind_some]
      rw [if_pos (Int32.le_refl _)])
    rw [if_neg (by simp), show (0 : Int32) = (fun s => nI s) 0 from rfl, hl, q_n_nI (by omega), q_n_nI (by omega)]
    simp only [Option.bind_some, if_true]
    unfold q_who
    have : ∀ n i, (match q_fst (fun s => if I 54 s = nI j ∧ I 55 s = nI p then some (Sum.inr (α := Unit) (nI s)) else none) (Sum.inl ()) n i with | .inl _ => some (-1 : Int32) | .inr v => some v) = some (match q_fst (fun s => if I 54 s = nI j ∧ I 55 s = nI p then some (some s) else none) none n i with | some s => nI s | none => -1) := by
      intro n
      induction n with
      | zero => intro i; rfl
      | succ n ih =>
        intro i
        unfold q_fst
        by_cases hc : I 54 i = nI j ∧ I 55 i = nI p
        · simp [hc]
        · simp only [hc, if_false]
          exact ih (i + 1)
    exact this nS 0
theorem e_placed (w : q_W h I nS nB lo ak nO sp bx qu own bl le) (x y : Int32) : ∃ r, f_X9_placed h 0 x y = some r ∧ f_X10_placed h 44 x y = some r := by
  have hsi := c_specIn w x y
  obtain ⟨hM, hF, hS, hN, hB, hH, hK, hR, hL, hT, hO⟩ := w
  have n3 := hF.2.2.2.2.2.2.2.1
  have n4 := hF.2.2.2.2.2.2.2.2.1
  refine ⟨q_pv I nS nB x y, ?_, d_placed hM n4 n3 hT x y⟩
  unfold f_X9_placed q_pv
  rw [if_pos (oF0 hF), hsi]
  simp only [Option.bind_some]
  cases q_pr I nB x y with
  | false => rfl
  | true =>
    simp only [if_true]
    cases hw : q_who I nS (q_n x) (q_n y) with
    | none => rfl
    | some s =>
      obtain ⟨s1, -, -⟩ := q_who_some hw
      simp only [Option.map_some, rS0 hS s1, Option.bind_some]
/-! find -/
def q_fP (I : Nat → Nat → Int32) (c a b : Int32) (s : Nat) : Bool := decide (a.toInt ≤ (I 52 s).toInt ∧ (I 52 s).toInt ≤ b.toInt) && q_up c (I 51 s)
theorem q_kc {k : Nat} (hk : k < 24) : q_c (nI k) = true := by
  rw [q_c_nI (by omega)]
  unfold n_c n_k
  simp [hk]
theorem e_find (w : q_W h I nS nB lo ak nO sp bx qu own bl le) (c a b : Int32) : ∃ r, f_X9_find h 0 c a b = some r ∧ f_X10_find h 44 c a b = some r := by
  obtain ⟨hM, hF, hS, hN, hB, hH, hK, hR, hL, hT, hO⟩ := w
  have n3 := hF.2.2.2.2.2.2.2.1
  unfold f_X9_find f_X10_find
  simp only [rF00 hF, Option.bind_some, oF1 hF, if_true, c_isCode, d_isCode, q_b0]
  cases hc : q_c c with
  | false => exact ⟨-1, rfl, rfl⟩
  | true =>
    simp only [Bool.true_eq_false, if_false]
    refine ⟨nI (q_cnt (q_fP I c a b) nS), ?_, ?_⟩
    · unfold f_X8_countOf
      obtain ⟨f, e1, e2⟩ := hN.1
      have hl := m_for (step := w_X8_countOf_6 h 1 c a b) (fun s => (nI (q_cnt (q_fP I c a b) s), nI s)) (nI (q_cnt (q_fP I c a b) nS)) nS (by omega) (fun s hs => by
        unfold w_X8_countOf_6
        dsimp only
        rw [rF12 hF, rF10 hF]
        simp only [Option.bind_some]
        rw [if_neg (by rw [n_le (by omega) (by omega)]; omega), if_neg (by rw [show (300 : Int32) = nI 300 from rfl, n_le (by omega) (by omega)]; omega), g_al (by have := hF.1; omega) e1 (by decide) (by omega) (by decide), e2 s hs]
        simp only [Option.bind_some, rS1 hS hs, rS3 hS hs, c_under, q_b0, nI_1, Int32.lt_iff_toInt_lt]
        unfold q_fP
        by_cases h1 : (I 52 s).toInt < a.toInt
        · rw [if_pos h1]
          simp [q_cnt, show ¬ a.toInt ≤ (I 52 s).toInt by omega]
        · rw [if_neg h1]
          by_cases h2 : b.toInt < (I 52 s).toInt
          · rw [if_pos h2]
            simp [q_cnt, show ¬ (I 52 s).toInt ≤ b.toInt by omega]
          · rw [if_neg h2]
            cases hu : q_up c (I 51 s) with
            | false => simp [q_cnt, hu]
            | true => simp [q_cnt, hu, show a.toInt ≤ (I 52 s).toInt by omega, show (I 52 s).toInt ≤ b.toInt by omega]) (by
        unfold w_X8_countOf_6
        dsimp only
        rw [rF12 hF]
        simp only [Option.bind_some]
        rw [if_pos (Int32.le_refl _)])
      rw [show ((0 : Int32), (0 : Int32)) = (fun s => (nI (q_cnt (q_fP I c a b) s), nI s)) 0 from rfl, hl]
      rfl
    · have hl := m_for (step := w_X10_find_15 h 44 c a b) (fun s => (nI (q_cnt (q_fP I c a b) s), nI s)) (nI (q_cnt (q_fP I c a b) nS)) nS (by omega) (fun s hs => by
        obtain ⟨k, hk, ek⟩ := hT.1 s hs
        unfold w_X10_find_15
        dsimp only
        rw [rM6 hM]
        simp only [Option.bind_some]
        rw [if_neg (by rw [n_le (by omega) (by omega)]; omega), rM7 hM, rM8 hM]
        simp only [Option.bind_some]
        rw [rI hM (a := 51) (by decide) (by decide) (show s < 300 by omega), rI hM (a := 52) (by decide) (by decide) (show s < 300 by omega)]
        simp only [Option.bind_some, oM hM, if_true]
        rw [d_above hM hc (by rw [ek]; exact q_kc hk), d_in]
        simp only [Option.bind_some, q_b0, nI_1]
        unfold q_fP
        cases hu : q_up c (I 51 s) with
        | false => simp [q_cnt, hu]
        | true =>
          by_cases h1 : a.toInt ≤ (I 52 s).toInt ∧ (I 52 s).toInt ≤ b.toInt
          · simp [q_cnt, h1, hu]
          · simp [q_cnt, h1, hu]) (by
        unfold w_X10_find_15
        dsimp only
        rw [rM6 hM]
        simp only [Option.bind_some]
        rw [if_pos (Int32.le_refl _)])
      rw [show ((0 : Int32), (0 : Int32)) = (fun s => (nI (q_cnt (q_fP I c a b) s), nI s)) 0 from rfl, hl]
      rfl
end QW
