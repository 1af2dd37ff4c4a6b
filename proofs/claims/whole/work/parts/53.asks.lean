/-! PURE PART 13: asks, nearest -/
section QW
variable {h : mH} {I : Nat → Nat → Int32} {nS nB nO : Nat} {lo ak : Int32} {sp bx qu bl le : Nat → Nat} {own : Nat → Nat × Nat}
def q_an (I : Nat → Nat → Int32) (k f : Nat) : Int32 := q_say (n_ne (n_P I f) k) (fun c => I 50 (5 * c + f))
theorem n_ne_P {P : Nat → Bool} {k c : Nat} (h : n_ne P k c = true) : P c = true := by
  unfold n_ne n_cl at h
  simp only [Bool.and_eq_true] at h
  exact h.2.1.1
theorem a_near (hF : q_F h nS nB lo ak nO) (hR : q_Ru h I) {k f : Nat} (hk : k < 24) (hf : f < 5) : ∃ S, f_X5_nearestOf h 37 (nI k) (nI f) = some S ∧ ∀ c, c < 49 → S.toBitVec.getLsbD c = n_ne (n_P I f) k c := by
  obtain ⟨⟨ld, l1, l2⟩, -, hr⟩ := hR
  exact c_nearestOf hk hf (rF370 hF) (g_ll (by have := hF.1; omega) l1 hf (by decide)) (l2 f hf) (fun c hc hp => hr.c hc hf hp)
theorem a_ans (hF : q_F h nS nB lo ak nO) (hR : q_Ru h I) {k f : Nat} (hk : k < 24) (hf : f < 5) : f_X5_answer h 37 (nI k) (nI f) = some (q_an I k f) := by
  obtain ⟨⟨ld, l1, l2⟩, ⟨vl, v1, v2⟩, hr⟩ := hR
  refine c_answer hk hf (rF370 hF) (g_ll (by have := hF.1; omega) l1 hf (by decide)) (l2 f hf) (fun c hc hp => hr.c hc hf hp) (oF37 hF) (rF371 hF) (fun c hc hn => ?_)
  rw [show (49 : Int32) = nI 49 from rfl, pk_mul, nI_add, show f * 49 + c = 49 * f + c by omega, g_il (by have := hF.1; omega) v1 (by omega) (by decide), v2 f hf c hc (n_ne_P hn)]
theorem d_f (y : Int32) : f_X10_in y 0 4 = some (q_b (q_f y)) := by
  rw [d_in]
  unfold q_f
  congr 3
  apply propext
  rw [show (0 : Int32).toInt = 0 from rfl, show (4 : Int32).toInt = 4 from rfl]
  omega
theorem e_asks (w : q_W h I nS nB lo ak nO sp bx qu own bl le) (x y : Int32) : ∃ r, f_X9_asks h 0 x y = some r ∧ f_X10_asks h 44 x y = some r := by
  obtain ⟨hM, hF, hS, hN, hB, hH, hK, hR, hL, hT, hO⟩ := w
  have n3 := hF.2.2.2.2.2.2.2.1
  unfold f_X9_asks f_X10_asks
  simp only [rF00 hF, rF04 hF, Option.bind_some, oF1 hF, oF37 hF, if_true, oM hM, c_at hF hN, d_isSpec hM n3, q_b0, d_f]
  cases hq : q_r x nS with
  | false => exact ⟨-1, rfl, rfl⟩
  | true =>
    obtain ⟨s, hs, rfl⟩ := q_rE hq
    rw [q_n_nI (by omega)]
    obtain ⟨k, hk, ek⟩ := hT.1 s hs
    simp only [if_true, Bool.true_eq_false, if_false, rS3 hS hs, rM7 hM, Option.bind_some]
    rw [rI hM (a := 51) (by decide) (by decide) (show s < 300 by omega), ek]
    simp only [Option.bind_some]
    cases hy : q_f y with
    | false =>
      refine ⟨-1, ?_, rfl⟩
      unfold f_X5_answer
      rw [c_isField, hy]
      rfl
    | true =>
      obtain ⟨f, hf, rfl⟩ := q_fE hy
      rw [a_ans hF hR hk hf, d_says hM hR.2.2 hk hf]
      exact ⟨_, rfl, rfl⟩
theorem e_nearest (w : q_W h I nS nB lo ak nO sp bx qu own bl le) (x y z : Int32) : ∃ r, f_X9_nearest h 0 x y z = some r ∧ f_X10_nearest h 44 x y z = some r := by
  obtain ⟨hM, hF, hS, hN, hB, hH, hK, hR, hL, hT, hO⟩ := w
  have n3 := hF.2.2.2.2.2.2.2.1
  unfold f_X9_nearest f_X10_nearest
  simp only [rF00 hF, rF04 hF, Option.bind_some, oF1 hF, oF37 hF, if_true, oM hM, c_at hF hN, d_isSpec hM n3, q_b0, d_f]
  cases hq : q_r x nS with
  | false => exact ⟨-1, rfl, rfl⟩
  | true =>
    obtain ⟨s, hs, rfl⟩ := q_rE hq
    rw [q_n_nI (by omega)]
    obtain ⟨k, hk, ek⟩ := hT.1 s hs
    simp only [if_true, Bool.true_eq_false, if_false, rS3 hS hs, rM7 hM, Option.bind_some]
    rw [rI hM (a := 51) (by decide) (by decide) (show s < 300 by omega), ek]
    simp only [Option.bind_some]
    cases hy : q_f y with
    | false =>
      refine ⟨-1, ?_, rfl⟩
      unfold f_X5_nearestOf
      rw [c_isField, hy]
      simp only [Option.bind_some]
      rw [if_pos (by decide)]
      simp only [Option.bind_some]
      rw [c_pick]
      simp only [Option.bind_some]
      rw [q_pick_none (fun c _ => by simp)]
    | true =>
      obtain ⟨f, hf, rfl⟩ := q_fE hy
      obtain ⟨S, s1, s2⟩ := a_near hF hR hk hf
      rw [s1]
      simp only [Option.bind_some]
      rw [c_pick, q_pick_congr (P' := n_ne (n_P I f) k) (fun c hc => s2 c hc)]
      simp only [Option.bind_some, Bool.true_eq_false, if_false, Int32.le_iff_toInt_le, show (0 : Int32).toInt = 0 from rfl]
      refine ⟨_, rfl, ?_⟩
      by_cases hz : 0 ≤ z.toInt
      · rw [if_pos hz, d_fewest hM hR.2.2 hk hf]
        simp only [Option.bind_some]
        generalize hP : n_ne (n_P I f) k = P
        have hl := m_search_fr (step := w_X10_nearest_42 h 44 (nI s) (nI f) (q_fw (n_P I f) k 49)) (st := fun i => (z - nI (q_cnt P i), nI i)) (E := fun i => if P i = true ∧ z - nI (q_cnt P i) = 0 then some (Sum.inr (nI i)) else none) (d := Sum.inl ()) (N := 49) 49 0 5000 (fun i _ h2 => by
          unfold w_X10_nearest_42
          dsimp only
          rw [if_neg (by rw [show (49 : Int32) = nI 49 from rfl, n_le (by omega) (by omega)]; omega), rM7 hM]
          simp only [Option.bind_some]
          rw [rI hM (a := 51) (by decide) (by decide) (show s < 300 by omega), ek]
          simp only [Option.bind_some]
          rw [if_pos (oM hM), d_isNearest hM hR.2.2 hk hf h2, hP]
          simp only [Option.bind_some, q_b0]
          cases hL : P i with
          | false => simp [q_cnt, hL, nI_1]
          | true =>
            simp only [Bool.true_eq_false, if_false, true_and]
            by_cases e : z - nI (q_cnt P i) = 0
            · simp [e]
            · simp only [e, if_false, q_cnt, hL, if_true, i_subs, nI_1]) (by
          unfold w_X10_nearest_42
          dsimp only
          rw [if_pos (by decide)]) (by decide) (by decide)
        rw [show (z, (0 : Int32)) = (fun i => (z - nI (q_cnt P i), nI i)) 0 by
          simp only [q_cnt, nI_0, Int32.sub_zero], hl]
        simp only [Option.bind_some]
        rw [q_down (f := Sum.inr) (fun i => rfl)]
        unfold q_pick
        rw [q_pick_opt]
        cases q_fst (fun i => if P i = true ∧ nI (q_cnt P i) = z then some (some (nI i)) else none) none 49 0 <;> rfl
      · rw [if_neg hz, q_pick_neg (by omega)]
end QW
