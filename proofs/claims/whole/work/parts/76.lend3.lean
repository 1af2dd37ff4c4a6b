/-! PURE PART 36: lend, one or a case -/
section OPS
variable {h h' : mH} {I I' : Nat → Nat → Int32} {nS nB nO : Nat} {lo ak : Int32} {sp bx qu bl le : Nat → Nat} {own : Nat → Nat × Nat}
theorem i_1000 {x : Int32} (hx : ¬ x < 1000) : 1000 ≤ x.toInt := by
  rw [Int32.lt_iff_toInt_lt, show (1000 : Int32).toInt = 1000 from rfl] at hx
  omega
theorem e_lend1 (w : q_W h I nS nB lo ak nO sp bx qu own bl le) {s b D : Nat} (hs : s < nS) (hb : b < 20) (hD : D ≤ 100000) : q_both h (f_X9_lend h 0 (nI s) (nI b) (nI D)) (fun h1 => f_X10_lend h1 44 (nI s) (nI b) (nI D)) := by
  have w' := w
  obtain ⟨hM, hV⟩ := w
  have hV' := hV
  obtain ⟨hF, hS, hN, hB, hH, hK, hR, hL, hT, hO⟩ := hV
  have n3 := hF.2.2.2.2.2.2.2.1
  have n4 := hF.2.2.2.2.2.2.2.2.1
  have hdy : q_dy (nI D) = true := by unfold q_dy; rw [nI_toInt (by omega)]; simp; omega
  have hll := hT.2.2.2.2.2.2.2.2.2.1 b hb
  have hh : f_X9_lend h 0 (nI s) (nI b) (nI D) = if q_ml I s = false then some (-1, h) else if decide (q_hld I nS b + 1 ≤ 12) = false then some (-1, h) else (f_X9_openLoan h 0 (some (sp s)) (nI b) (nI D)).bind fun h25 => some (1, h25) := by
    unfold f_X9_lend
    rw [c_isBor, q_r_nI hb (by omega), c_isDay, hdy, rF00 hF]
    simp only [Option.bind_some, q_b0, Bool.true_eq_false, if_false]
    rw [if_pos (by rw [show (1000 : Int32) = nI 1000 from rfl, n_lt (by omega) (by omega)]; omega), if_pos (oF1 hF), c_at hF hN, q_r_nI hs (by omega), q_n_nI (by omega)]
    simp only [Option.bind_some, if_true, oF0 hF]
    rw [c_may hF hS hR hT hs, rF05 hF]
    simp only [Option.bind_some, q_b0, oF40 hF, if_true]
    rw [show f_X3_hasLeaveFor h 40 (nI b) 1 = _ from c_leave (n := 1) hF hL hT hb (by omega)]
    simp only [Option.bind_some, q_b0]
  have mm : ∀ g : mH, q_M g I nS nB lo ak → f_X10_lend g 44 (nI s) (nI b) (nI D) = if q_ml I s = false then some (-1, g) else if nI (q_hld I nS b) = 12 then some (-1, g) else (f_X10_lends g 44 (nI s) (nI b) (nI D)).bind fun h66 => some (1, h66) := fun g hg => by
    unfold f_X10_lend
    rw [d_isBor, q_r_nI hb (by omega), d_isDay, hdy]
    simp only [Option.bind_some, q_b0, Bool.true_eq_false, if_false, oM hg, if_true]
    rw [d_isSpec hg n3, q_r_nI hs (by omega), d_may hg n3 hR.2.2 hT hs, d_held hg n3 hb]
    simp only [Option.bind_some, q_b0, Bool.true_eq_false, if_false]
  cases hm : q_ml I s with
  | false => exact q_both.no w' (-1) (by rw [hh, hm]; rfl) (by show f_X10_lend h 44 _ _ _ = _; rw [mm h hM, hm]; rfl)
  | true =>
    by_cases c : q_hld I nS b + 1 ≤ 12
    · obtain ⟨h1, p, o1, o2, o3⟩ := s_lend hV' hs hb hD hm (by omega)
      have hM1 : q_M h1 I nS nB lo ak := fM hM o3.1 o3.2.2.2
      obtain ⟨h2, i1, i2, i3⟩ := d_lends (b := b) (D := D) hM1 n3 hR.2.2 hs (hT.1 s hs)
      refine q_both.yes o2 (q_hf_le o3 (by omega) (by omega)) i2 i3 1 ?_ ?_
      · rw [hh, hm, decide_eq_true c, o1]; rfl
      · show f_X10_lend h1 44 _ _ _ = _
        rw [mm h1 hM1, hm, if_neg (by simp), if_neg, i1]
        · rfl
        · rw [show (12 : Int32) = nI 12 from rfl, n_eq (by omega) (by omega)]; omega
    · refine q_both.no w' (-1) (by rw [hh, hm, decide_eq_false c]; rfl) ?_
      show f_X10_lend h 44 _ _ _ = _
      rw [mm h hM, hm, if_neg (by simp), if_pos]
      rw [show (12 : Int32) = nI 12 from rfl, n_eq (by omega) (by omega)]; omega
theorem e_lend2 (w : q_W h I nS nB lo ak nO sp bx qu own bl le) {x : Int32} {j b D : Nat} (hx : ¬ x < 1000) (ex : x - 1000 = nI j) (hj : j < nB) (hb : b < 20) (hD : D ≤ 100000) : q_both h (f_X9_lend h 0 x (nI b) (nI D)) (fun h1 => f_X10_lend h1 44 x (nI b) (nI D)) := by
  have w' := w
  obtain ⟨hM, hV⟩ := w
  have hV' := hV
  obtain ⟨hF, hS, hN, hB, hH, hK, hR, hL, hT, hO⟩ := hV
  have n3 := hF.2.2.2.2.2.2.2.1
  have n4 := hF.2.2.2.2.2.2.2.2.1
  have hdy : q_dy (nI D) = true := by unfold q_dy; rw [nI_toInt (by omega)]; simp; omega
  have hll := hT.2.2.2.2.2.2.2.2.2.1 b hb
  have x1 := i_1000 hx
  have hxs : q_r x nS = false := by unfold q_r; simp; omega
  have hcn := q_cnt_le (q_sM I j nS) nS
  have l1 := c_lb12 hV' hj
  have same : ∀ g : mH, _ := fun g => lb_same hT n4 hj (Sum.inr ((-1 : Int32), g) : Int32 ⊕ (Int32 × mH)) (.inl (nI (q_cnt (q_sM I j nS) nS)))
  have hh : f_X9_lend h 0 x (nI b) (nI D) = (m_loop (w_X9_lendBox_12 h 0 (bx j)) 5000 ((0, 0))).bind fun e21 => match e21 with | .inl x22 => (if x22 = 0 then some (((-1 : Int32), h)) else (f_X3_hasLeaveFor h 40 (nI b) x22).bind fun r29 => if r29 = 0 then some (((-1), h)) else (m_loop (w_X9_lendBox_79 0 (nI b) (nI D) (bx j)) 5000 ((0, h))).bind fun e49 => some ((x22, e49))) | .inr v55 => some v55 := by
    unfold f_X9_lend
    rw [c_isBor, q_r_nI hb (by omega), c_isDay, hdy]
    simp only [Option.bind_some, q_b0, Bool.true_eq_false, if_false]
    rw [if_neg hx, if_pos (oF0 hF), c_boxAt hF hN, ex, q_r_nI hj (by omega), q_n_nI (by omega)]
    simp only [Option.bind_some, if_true, oF0 hF]
    unfold f_X9_lendBox
    simp only [rF05 hF, Option.bind_some, oF40 hF, if_true, l1]
    generalize q_fst _ _ _ _ = e
    cases e with
    | inr v => rfl
    | inl y =>
      dsimp only
      by_cases q : y = 0
      · rw [if_pos q]; rfl
      · rw [if_neg q]
        cases f_X3_hasLeaveFor h 40 (nI b) y with
        | none => rfl
        | some r =>
          simp only [Option.bind_some]
          by_cases q : r = 0
          · rw [if_pos q]; rfl
          · rw [if_neg q]
            cases m_loop (w_X9_lendBox_79 0 (nI b) (nI D) (bx j)) 5000 (0, h) <;> rfl
  have mm : ∀ g : mH, q_M g I nS nB lo ak → f_X10_lend g 44 x (nI b) (nI D) = (m_loop (w_X10_lend_96 g 44 x) 5000 ((0, 0))).bind fun e31 => match e31 with | .inl x32 => (if x32 = 0 then some (((-1 : Int32), g)) else if (nI (q_hld I nS b) + x32) ≤ 12 then (m_loop (w_X10_lend_163 44 x (nI b) (nI D)) 5000 ((0, g))).bind fun e51 => some ((x32, e51)) else some (((-1), g))) | .inr v57 => some v57 := fun g hg => by
    unfold f_X10_lend
    rw [d_isBor, q_r_nI hb (by omega), d_isDay, hdy]
    simp only [Option.bind_some, q_b0, Bool.true_eq_false, if_false, oM hg, if_true]
    rw [d_isSpec hg n3, hxs, rM17 hg]
    simp only [Option.bind_some, q_b0, if_true]
    rw [if_neg hx, d_rng (by omega), ex, q_r_nI hj (by omega), d_held hg n3 hb]
    simp only [Option.bind_some, q_b0, Bool.true_eq_false, if_false]
    rfl
  rcases same h with ⟨c1, c2, c3⟩ | ⟨c1, c2, c3⟩
  · rw [c2] at l1
    refine q_both.no w' (-1) (by rw [hh, l1]; rfl) ?_
    show f_X10_lend h 44 _ _ _ = _
    rw [mm h hM, d_lb96 hM n3 hR.2.2 hT ex, c3]
    rfl
  · rw [c2] at l1
    by_cases z : q_cnt (q_sM I j nS) nS = 0
    · refine q_both.no w' (-1) (by rw [hh, l1, z]; rfl) ?_
      show f_X10_lend h 44 _ _ _ = _
      rw [mm h hM, d_lb96 hM n3 hR.2.2 hT ex, c3, z]
      rfl
    · have z' : ¬ nI (q_cnt (q_sM I j nS) nS) = 0 := by rw [show (0 : Int32) = nI 0 from rfl, n_eq (by omega) (by omega)]; exact z
      by_cases c : q_hld I nS b + q_cnt (q_sM I j nS) nS ≤ 12
      · obtain ⟨h1, o1, ⟨nO', le', o2⟩, o3⟩ := c_lb79 hV' hj hb hD c1 c
        have hM1 : q_M h1 I nS nB lo ak := fM hM o3.1 o3.2.2.2
        obtain ⟨h2, i1, i2, i3⟩ := d_lb163 (b := b) (D := D) hM1 n3 hR.2.2 hT ex
        rcases same h1 with ⟨⟨s, s1, s2, s3⟩, -⟩ | ⟨-, -, c3'⟩
        · rw [c1 s s1 s2] at s3; cases s3
        · refine q_both.yes o2 (q_hf_le o3 (by omega) (by omega)) i2 i3 (nI (q_cnt (q_sM I j nS) nS)) ?_ ?_
          · rw [hh, l1]
            simp only [Option.bind_some]
            rw [if_neg z', c_leave hF hL hT hb (by omega), decide_eq_true c, o1]
            rfl
          · show f_X10_lend h1 44 _ _ _ = _
            rw [mm h1 hM1, d_lb96 hM1 n3 hR.2.2 hT ex, c3']
            simp only [Option.bind_some]
            rw [if_neg z', nI_add, if_pos (by rw [show (12 : Int32) = nI 12 from rfl, n_le (by omega) (by omega)]; exact c), i1]
            rfl
      · refine q_both.no w' (-1) ?_ ?_
        · rw [hh, l1]
          simp only [Option.bind_some]
          rw [if_neg z', c_leave hF hL hT hb (by omega), decide_eq_false c]
          rfl
        · show f_X10_lend h 44 _ _ _ = _
          rw [mm h hM, d_lb96 hM n3 hR.2.2 hT ex, c3]
          simp only [Option.bind_some]
          rw [if_neg z', nI_add, if_neg (by rw [show (12 : Int32) = nI 12 from rfl, n_le (by omega) (by omega)]; exact c)]
theorem e_lend (w : q_W h I nS nB lo ak nO sp bx qu own bl le) (x y z : Int32) : q_both h (f_X9_lend h 0 x y z) (fun h1 => f_X10_lend h1 44 x y z) := by
  have w' := w
  obtain ⟨hM, hF, hS, hN, hB, hH, hK, hR, hL, hT, hO⟩ := w
  have n3 := hF.2.2.2.2.2.2.2.1
  have n4 := hF.2.2.2.2.2.2.2.2.1
  cases hb : q_r y 20 with
  | false =>
    refine q_both.no w' (-1) ?_ ?_
    · unfold f_X9_lend
      rw [c_isBor, hb]
      rfl
    · show f_X10_lend h 44 x y z = _
      unfold f_X10_lend
      rw [d_isBor, hb]
      rfl
  | true =>
    cases hd : q_dy z with
    | false =>
      refine q_both.no w' (-1) ?_ ?_
      · unfold f_X9_lend
        rw [c_isBor, hb, c_isDay, hd]
        rfl
      · show f_X10_lend h 44 x y z = _
        unfold f_X10_lend
        rw [d_isBor, hb, d_isDay, hd]
        rfl
    | true =>
      have hb' := hb
      have hd' := hd
      obtain ⟨b, b1, rfl⟩ := q_rE hb
      obtain ⟨D, d1, rfl⟩ := q_dyE hd
      by_cases hx : x < 1000
      · cases hq : q_r x nS with
        | true =>
          obtain ⟨s, s1, rfl⟩ := q_rE hq
          exact e_lend1 w' s1 b1 d1
        | false =>
          refine q_both.no w' (-1) ?_ ?_
          · unfold f_X9_lend
            rw [c_isBor, hb', c_isDay, hd', rF00 hF]
            simp only [Option.bind_some, q_b0, Bool.true_eq_false, if_false]
            rw [if_pos hx, if_pos (oF1 hF), c_at hF hN, hq]
            simp only [Option.bind_some, oF0 hF, if_true]
            rfl
          · show f_X10_lend h 44 x _ _ = _
            unfold f_X10_lend
            rw [d_isBor, hb', d_isDay, hd']
            simp only [Option.bind_some, q_b0, Bool.true_eq_false, if_false, oM hM, if_true]
            rw [d_isSpec hM n3, hq]
            simp only [Option.bind_some, q_b0, if_true]
            rw [if_pos hx]
      · cases hj : q_r (x - 1000) nB with
        | true =>
          obtain ⟨j, j1, ej⟩ := q_rE hj
          exact e_lend2 w' hx ej j1 b1 d1
        | false =>
          have x1 := i_1000 hx
          have hxs : q_r x nS = false := by unfold q_r; simp; omega
          refine q_both.no w' (-1) ?_ ?_
          · unfold f_X9_lend
            rw [c_isBor, hb', c_isDay, hd']
            simp only [Option.bind_some, q_b0, Bool.true_eq_false, if_false]
            rw [if_neg hx, if_pos (oF0 hF), c_boxAt hF hN, hj]
            simp only [Option.bind_some, oF0 hF, if_true]
            rfl
          · show f_X10_lend h 44 x _ _ = _
            unfold f_X10_lend
            rw [d_isBor, hb', d_isDay, hd']
            simp only [Option.bind_some, q_b0, Bool.true_eq_false, if_false, oM hM, if_true]
            rw [d_isSpec hM n3, hxs, rM17 hM]
            simp only [Option.bind_some, q_b0, if_true]
            rw [if_neg hx, d_rng (by omega), hj]
            rfl
end OPS
