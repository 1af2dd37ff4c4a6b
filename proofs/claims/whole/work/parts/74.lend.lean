/-! PURE PART 34: may be lent; lends; held -/
section OPS
variable {h h' : mH} {I I' : Nat → Nat → Int32} {nS nB nO : Nat} {lo ak : Int32} {sp bx qu bl le : Nat → Nat} {own : Nat → Nat × Nat}
def q_tmv (I : Nat → Nat → Int32) (s : Nat) : Int32 := q_an I (q_n (I 51 s)) 2
def q_fev (I : Nat → Nat → Int32) (s : Nat) : Int32 := if q_an I (q_n (I 51 s)) 3 = -1 then 0 else q_an I (q_n (I 51 s)) 3
def q_ml (I : Nat → Nat → Int32) (s : Nat) : Bool := !(q_lent I s) && (decide (¬ q_an I (q_n (I 51 s)) 2 ≤ 0) && decide (q_an I (q_n (I 51 s)) 3 ≠ -2))
theorem c_may (hF : q_F h nS nB lo ak nO) (hS : q_S h I nS sp bx) (hR : q_Ru h I) (hT : q_T I nS nB) {s : Nat} (hs : s < nS) : f_X9_mayBeLent h 0 (some (sp s)) = some (q_b (q_ml I s)) := by
  obtain ⟨k, hk, ek⟩ := hT.1 s hs
  unfold f_X9_mayBeLent q_ml
  dsimp only
  rw [if_pos (oS hS hs), c_isLent hS hs, rF04 hF, rS3 hS hs]
  simp only [Option.bind_some, oF37 hF, if_true, q_b0]
  have a2 : f_X5_answer h 37 (I 51 s) 2 = some (q_an I k 2) := by rw [ek]; exact a_ans hF hR hk (show 2 < 5 by decide)
  have a3 : f_X5_answer h 37 (I 51 s) 3 = some (q_an I k 3) := by rw [ek]; exact a_ans hF hR hk (show 3 < 5 by decide)
  rw [a2, a3, ek, q_n_nI (by omega)]
  simp only [Option.bind_some]
  cases q_lent I s with
  | true => rfl
  | false =>
    by_cases c1 : q_an I k 2 ≤ 0
    · simp [c1]; rfl
    · by_cases c2 : q_an I k 3 = -2
      · simp [c1, c2]; rfl
      · simp [c1, c2]; rfl
theorem d_may (hM : q_M h I nS nB lo ak) (hn : nS ≤ 300) (hR : n_R I) (hT : q_T I nS nB) {s : Nat} (hs : s < nS) : f_X10_mayLend h 44 (nI s) = some (q_b (q_ml I s)) := by
  obtain ⟨k, hk, ek⟩ := hT.1 s hs
  unfold f_X10_mayLend q_ml
  simp only [rM13 hM, rM7 hM, Option.bind_some]
  rw [rI hM (a := 57) (by decide) (by decide) (show s < 300 by omega), rI hM (a := 51) (by decide) (by decide) (show s < 300 by omega)]
  simp only [Option.bind_some, oM hM, if_true]
  have a2 : f_X10_says h 44 (I 51 s) 2 = some (q_an I k 2) := by rw [ek]; exact d_says hM hR hk (show 2 < 5 by decide)
  have a3 : f_X10_says h 44 (I 51 s) 3 = some (q_an I k 3) := by rw [ek]; exact d_says hM hR hk (show 3 < 5 by decide)
  rw [a2, a3, ek, q_n_nI (by omega)]
  simp only [Option.bind_some]
  by_cases c0 : I 57 s = -1
  · have e0 : q_lent I s = false := by unfold q_lent; rw [c0]; rfl
    rw [e0]
    by_cases c1 : q_an I k 2 ≤ 0
    · simp [c0, c1]; rfl
    · by_cases c2 : q_an I k 3 = -2
      · simp [c0, c1, c2]; rfl
      · simp [c0, c1, c2]; rfl
  · have e0 : q_lent I s = true := q_lentT.mpr c0
    rw [e0, if_neg c0]
    rfl
theorem ml_vals (hT : q_T I nS nB) {s : Nat} (hm : q_ml I s = true) : I 57 s = -1 ∧ (∃ t, t ≤ 365 ∧ q_tmv I s = nI t) ∧ ∃ fe, fe ≤ 1000 ∧ q_fev I s = nI fe ∧ (if 0 < q_an I (q_n (I 51 s)) 3 then q_an I (q_n (I 51 s)) 3 else 0) = nI fe := by
  unfold q_ml at hm
  rw [Bool.and_eq_true, Bool.and_eq_true] at hm
  obtain ⟨m1, m2, m3⟩ := hm
  have m2' := of_decide_eq_true m2
  have m3' := of_decide_eq_true m3
  rw [Int32.le_iff_toInt_le, show (0 : Int32).toInt = 0 from rfl] at m2'
  refine ⟨q_lentF (by simpa using m1), ?_, ?_⟩
  · rcases q_an_rng hT (k := q_n (I 51 s)) (show 2 < 5 by decide) with e | e | ⟨e1, e2⟩
    · rw [e, show (-2 : Int32).toInt = -2 from rfl] at m2'; omega
    · rw [e, show (-1 : Int32).toInt = -1 from rfl] at m2'; omega
    · rw [show (q_c49.getD 2 0).toInt = 365 from rfl] at e2
      obtain ⟨t, t1, t2⟩ := n_of (n := 366) e1 (by omega)
      exact ⟨t, by omega, t2⟩
  · unfold q_fev
    rcases q_an_rng hT (k := q_n (I 51 s)) (show 3 < 5 by decide) with e | e | ⟨e1, e2⟩
    · exact absurd e m3'
    · rw [e]
      exact ⟨0, by omega, by rw [if_pos rfl]; rfl, by rw [if_neg (by decide)]; rfl⟩
    · rw [show (q_c49.getD 3 0).toInt = 1000 from rfl] at e2
      obtain ⟨t, t1, t2⟩ := n_of (n := 1001) e1 (by omega)
      rw [t2]
      refine ⟨t, by omega, if_neg (q_nm1 (by omega)), ?_⟩
      rw [show (0 : Int32) = nI 0 from rfl, ite_lt (by omega) (by omega)]
      by_cases z : 0 < t
      · rw [if_pos z]
      · rw [if_neg z, show t = 0 by omega]
theorem s_lend (w : q_V h I nS nB lo ak nO sp bx qu own bl le) {s b D : Nat} (hs : s < nS) (hb : b < 20) (hD : D ≤ 100000) (hm : q_ml I s = true) (hh : q_hld I nS b ≤ 11) : ∃ h1 p, f_X9_openLoan h 0 (some (sp s)) (nI b) (nI D) = some h1 ∧ q_V h1 (q_l4 I s (nI b) (nI D) (q_tmv I s) (q_fev I s)) nS nB (lo + 1) ak (nO + 1) sp bx qu own bl (q_ins le p s) ∧ q_hf h h1 0 0 := by
  have w' := w
  obtain ⟨hF, hS, hN, hB, hH, hK, hR, hL, hT, hO⟩ := w
  obtain ⟨k, hk, ek⟩ := hT.1 s hs
  obtain ⟨e57, ⟨t, t1, t2⟩, fe, f1, f2, f3⟩ := ml_vals hT hm
  obtain ⟨h1, p, o1, o2, o3⟩ := s_open w' hs hb hD t1 f1 e57 hh
  rw [t2, f2]
  refine ⟨h1, p, ?_, o2, o3⟩
  rw [← o1]
  unfold f_X9_openLoan
  have a2 : f_X5_answer h 37 (I 51 s) 2 = some (nI t) := by
    have := a_ans hF hR hk (show 2 < 5 by decide)
    unfold q_tmv at t2
    rw [ek, q_n_nI (by omega)] at t2
    rw [ek, ← t2]
    exact this
  have a3 : f_X5_answer h 37 (I 51 s) 3 = some (q_an I k 3) := by rw [ek]; exact a_ans hF hR hk (show 3 < 5 by decide)
  rw [ek, q_n_nI (by omega)] at f3
  rw [rF04 hF]
  simp only [Option.bind_some, rS3 hS hs, oF37 hF, if_true]
  rw [a2, a3]
  simp only [Option.bind_some, oS hS hs, if_true, f3]
theorem q_an_congr {k f : Nat} (e : I' 50 = I 50) : q_an I' k f = q_an I k f := by
  unfold q_an n_P
  rw [e]
theorem d_lends (hM : q_M h I nS nB lo ak) (hn : nS ≤ 300) (hR : n_R I) {s b D : Nat} (hs : s < nS) (hkd : ∃ k, k < 24 ∧ I 51 s = nI k) : ∃ h1, f_X10_lends h 44 (nI s) (nI b) (nI D) = some h1 ∧ q_M h1 (q_l4 I s (nI b) (nI D) (q_tmv I s) (q_fev I s)) nS nB (lo + 1) ak ∧ q_fr h h1 := by
  obtain ⟨k, hk, ek⟩ := hkd
  have s300 : s < 300 := by omega
  have kk : q_n (I 51 s) = k := by rw [ek, q_n_nI (by omega)]
  unfold q_tmv q_fev
  rw [kk]
  obtain ⟨g1, a1, a2, a3⟩ := wI hM (a := 57) (j := s) (nI b) (by decide) (by decide) s300
  obtain ⟨g2, b1, b2, b3⟩ := wI a2 (a := 58) (j := s) (nI D) (by decide) (by decide) s300
  obtain ⟨g3, c1, c2, c3⟩ := wI b2 (a := 59) (j := s) (q_an I k 2) (by decide) (by decide) s300
  obtain ⟨g4, d1, d2, d3⟩ := wI c2 (a := 60) (j := s) (if q_an I k 3 = -1 then 0 else q_an I k 3) (by decide) (by decide) s300
  obtain ⟨g5, e1, e2, e3⟩ := wF d2 (k := 23) (v := lo + 1) (nS' := nS) (nB' := nB) (lo' := lo + 1) (ak' := ak) (by decide) rfl
  refine ⟨g5, ?_, e2, (((a3.tr b3).tr c3).tr d3).tr e3⟩
  have says3 : f_X10_says h 44 (I 51 s) 3 = some (q_an I k 3) := by rw [ek]; exact d_says hM hR hk (show 3 < 5 by decide)
  have R2 : n_R (q_u (q_u I 57 s (nI b)) 58 s (nI D)) := by unfold n_R; rw [uR (by decide), uR (by decide)]; exact hR
  have says2 : f_X10_says g2 44 (I 51 s) 2 = some (q_an I k 2) := by
    rw [ek, ← q_an_congr (I := I) (I' := q_u (q_u I 57 s (nI b)) 58 s (nI D)) (by rw [uR (by decide), uR (by decide)])]
    exact d_says b2 R2 hk (show 2 < 5 by decide)
  unfold f_X10_lends
  rw [rM7 hM]
  simp only [Option.bind_some]
  rw [rI hM (a := 51) (by decide) (by decide) s300]
  simp only [Option.bind_some, oM hM, if_true]
  rw [says3, rM13 hM]
  simp only [Option.bind_some]
  rw [a1]
  simp only [Option.bind_some]
  rw [rM14 a2]
  simp only [Option.bind_some]
  rw [b1]
  simp only [Option.bind_some]
  rw [rM15 b2, rM7 b2]
  simp only [Option.bind_some]
  rw [rI b2 (a := 51) (by decide) (by decide) s300, uR (by decide), uR (by decide)]
  simp only [Option.bind_some, oM b2, if_true]
  rw [says2]
  simp only [Option.bind_some]
  rw [c1]
  simp only [Option.bind_some]
  rw [rM16 c2]
  simp only [Option.bind_some]
  by_cases z : q_an I k 3 = -1
  · rw [if_pos z] at d1 d2 ⊢
    rw [d1]
    simp only [Option.bind_some]
    rw [rM23 d2]
    simp only [Option.bind_some]
    rw [e1]
    rfl
  · rw [if_neg z] at d1 d2 ⊢
    rw [d1]
    simp only [Option.bind_some]
    rw [rM23 d2]
    simp only [Option.bind_some]
    rw [e1]
    rfl
theorem d_held (hM : q_M h I nS nB lo ak) (hn : nS ≤ 300) {b : Nat} (hb : b < 20) : f_X10_held h 44 (nI b) = some (nI (q_hld I nS b)) := by
  unfold f_X10_held q_hld
  have hl := m_for (step := w_X10_held_4 h 44 (nI b)) (fun s => (nI (q_cnt (fun s => I 57 s == nI b) s), nI s)) (nI (q_cnt (fun s => I 57 s == nI b) nS)) nS (by omega) (fun s hs => by
    unfold w_X10_held_4
    dsimp only
    rw [rM6 hM]
    simp only [Option.bind_some]
    rw [if_neg (by rw [n_le (by omega) (by omega)]; omega), rM13 hM]
    simp only [Option.bind_some]
    rw [rI hM (a := 57) (by decide) (by decide) (show s < 300 by omega)]
    simp only [Option.bind_some, nI_1]
    by_cases e : I 57 s = nI b
    · simp [e, q_cnt]
    · simp [e, q_cnt]) (by
    unfold w_X10_held_4
    dsimp only
    rw [rM6 hM]
    simp only [Option.bind_some]
    rw [if_pos (Int32.le_refl _)])
  rw [show ((0 : Int32), (0 : Int32)) = (fun s => (nI (q_cnt (fun s => I 57 s == nI b) s), nI s)) 0 from rfl, hl]
  rfl
theorem c_leave (hF : q_F h nS nB lo ak nO) (hL : q_Ln h I nS nO sp le) (hT : q_T I nS nB) {b n : Nat} (hb : b < 20) (hn : n ≤ 1000) : f_X3_hasLeaveFor h 40 (nI b) (nI n) = some (q_b (decide (q_hld I nS b + n ≤ 12))) := by
  obtain ⟨hd, b1, b2⟩ := hL.2.1
  have := hT.2.2.2.2.2.2.2.2.2.1 b hb
  unfold f_X3_hasLeaveFor
  rw [c_isBor, q_r_nI hb (by omega), rF401 hF]
  simp only [Option.bind_some, q_b0, Bool.true_eq_false, if_false]
  rw [g_il (by have := hF.1; omega) b1 hb (by decide), b2 b hb]
  simp only [Option.bind_some, nI_add]
  rw [show (12 : Int32) = nI 12 from rfl, ite_lt (by omega) (by omega)]
  by_cases c : q_hld I nS b + n ≤ 12
  · rw [if_neg (by omega), decide_eq_true c]; rfl
  · rw [if_pos (by omega), decide_eq_false c]; rfl
end OPS
