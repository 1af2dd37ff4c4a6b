/-! PURE PART 15: overdue, fees, lateOne -/
def q_dy (x : Int32) : Bool := decide (0 ≤ x.toInt ∧ x.toInt ≤ 100000)
theorem c_isDay (x : Int32) : f_X3_isDay x = some (q_b (q_dy x)) := by
  unfold f_X3_isDay q_dy q_b
  simp only [Int32.lt_iff_toInt_lt, show (0 : Int32).toInt = 0 from rfl, show (100000 : Int32).toInt = 100000 from rfl]
  repeat' split
  all_goals first | rfl | (simp_all; try omega)
theorem d_isDay (x : Int32) : f_X10_in x 0 100000 = some (q_b (q_dy x)) := by
  rw [d_in]
  rfl
theorem q_dyE {x : Int32} (h : q_dy x = true) : ∃ d, d ≤ 100000 ∧ x = nI d := by
  have := of_decide_eq_true h
  obtain ⟨d, hd, e⟩ := n_of (n := 100001) this.1 (by omega)
  exact ⟨d, by omega, e⟩
theorem c_isBor (x : Int32) : f_X3_isBorrower x = some (q_b (q_r x 20)) := by
  unfold f_X3_isBorrower q_r q_b
  simp only [Int32.lt_iff_toInt_lt, Int32.le_iff_toInt_le, show (0 : Int32).toInt = 0 from rfl, show (20 : Int32).toInt = 20 from rfl]
  repeat' split
  all_goals first | rfl | (simp_all; try omega)
theorem d_isBor (x : Int32) : f_X10_in x 0 19 = some (q_b (q_r x 20)) := by
  rw [d_in]
  unfold q_r
  congr 3
  apply propext
  rw [show (0 : Int32).toInt = 0 from rfl, show (19 : Int32).toInt = 19 from rfl]
  omega
theorem i_sub2 {a b : Nat} (ha : a < 1000000) (hb : b < 1000000) : (nI a - nI b).toInt = (a : Int) - b := pk_sub_toInt (by omega) (by omega)
theorem i_sub3 {a b c : Nat} (ha : a < 1000000) (hb : b < 1000000) (hc : c < 1000000) : (nI a - nI b - nI c).toInt = (a : Int) - b - c := by
  rw [Int32.toInt_sub, i_sub2 ha hb, nI_toInt (by omega), Int.bmod_eq_of_le (by omega) (by omega)]
theorem i_nat {x : Int32} {n : Nat} (h : x.toInt = (n : Int)) (hn : n < 2147483648) : x = nI n := by
  apply Int32.toInt_inj.mp
  rw [h, nI_toInt hn]
theorem ite_lt {a b : Nat} (ha : a < 2147483648) (hb : b < 2147483648) {α : Type} {u v : α} : (if nI a < nI b then u else v) = if a < b then u else v := by simp only [n_lt ha hb]
theorem ite_le {a b : Nat} (ha : a < 2147483648) (hb : b < 2147483648) {α : Type} {u v : α} : (if nI a ≤ nI b then u else v) = if a ≤ b then u else v := by simp only [n_le ha hb]
theorem i_max {a b : Nat} (ha : a < 1000000) (hb : b < 1000000) : (if 0 < nI a - nI b then nI a - nI b else 0) = nI (a - b) := by
  by_cases q : b < a
  · rw [if_pos (by rw [Int32.lt_iff_toInt_lt, i_sub2 ha hb, show (0 : Int32).toInt = 0 from rfl]; omega)]
    exact pk_sub (by omega)
  · rw [if_neg (by rw [Int32.lt_iff_toInt_lt, i_sub2 ha hb, show (0 : Int32).toInt = 0 from rfl]; omega), show a - b = 0 by omega]
    rfl
section QW
variable {h : mH} {I : Nat → Nat → Int32} {nS nB nO : Nat} {lo ak : Int32} {sp bx qu bl le : Nat → Nat} {own : Nat → Nat × Nat}
def q_la (I : Nat → Nat → Int32) (s D : Nat) : Nat := if I 57 s = -1 then 0 else D - (q_n (I 58 s) + q_n (I 59 s))
def q_tm (n : Nat) : Nat := if 30 < n then (if 30 + 2 * (n - 30) ≤ 100 then 30 + 2 * (n - 30) else 100) else n
def q_du (I : Nat → Nat → Int32) (s D : Nat) : Int32 := I 60 s * nI (q_tm (q_la I s D))
theorem q_la_le {s D : Nat} : q_la I s D ≤ D := by
  unfold q_la
  split <;> omega
theorem d_late (hM : q_M h I nS nB lo ak) (hn : nS ≤ 300) (hT : q_T I nS nB) {s D : Nat} (hs : s < nS) (hD : D ≤ 100000) : f_X10_late h 44 (nI s) (nI D) = some (nI (q_la I s D)) := by
  unfold f_X10_late
  simp only [rM13 hM, rM14 hM, rM15 hM, Option.bind_some]
  rw [rI hM (a := 57) (by decide) (by decide) (show s < 300 by omega), rI hM (a := 58) (by decide) (by decide) (show s < 300 by omega), rI hM (a := 59) (by decide) (by decide) (show s < 300 by omega)]
  simp only [Option.bind_some]
  unfold q_la
  rcases hT.2.2.2.2.1 s hs with e | ⟨b, d, t, fe, b1, d1, t1, f1, e1, e2, e3, e4⟩
  · rw [if_pos e, if_pos e]; rfl
  · have ne : ¬ I 57 s = -1 := by rw [e1]; exact q_nm1 (by omega)
    rw [if_neg ne, if_neg ne, e2, e3, q_n_nI (by omega), q_n_nI (by omega)]
    simp only [Int32.le_iff_toInt_le, i_sub3 (show D < 1000000 by omega) (show d < 1000000 by omega) (show t < 1000000 by omega), show (0 : Int32).toInt = 0 from rfl]
    by_cases hl : (D : Int) - d - t ≤ 0
    · rw [if_pos hl, show D - (d + t) = 0 by omega]
      rfl
    · rw [if_neg hl, i_nat (x := nI D - nI d - nI t) (n := D - (d + t)) (by rw [i_sub3 (by omega) (by omega) (by omega)]; omega) (by omega)]
theorem d_due (hM : q_M h I nS nB lo ak) (hn : nS ≤ 300) (hT : q_T I nS nB) {s D : Nat} (hs : s < nS) (hD : D ≤ 100000) : f_X10_due h 44 (nI s) (nI D) = some (q_du I s D) := by
  unfold f_X10_due q_du
  rw [if_pos (oM hM), d_late hM hn hT hs hD]
  have hl := q_la_le (I := I) (s := s) (D := D)
  generalize q_la I s D = n at hl
  simp only [Option.bind_some, rM16 hM]
  rw [rI hM (a := 60) (by decide) (by decide) (show s < 300 by omega)]
  simp only [Option.bind_some]
  unfold q_tm
  rw [show (30 : Int32) = nI 30 from rfl, show (100 : Int32) = nI 100 from rfl, show (2 : Int32) = nI 2 from rfl, ite_lt (by omega) (by omega), ite_le (by omega) (by omega)]
  by_cases h1 : 30 < n
  · rw [if_pos h1, if_pos h1, pk_sub (by omega), pk_mul, nI_add, ite_le (by omega) (by omega)]
    by_cases h2 : 30 + 2 * (n - 30) ≤ 100
    · rw [if_pos h2, if_pos h2]
    · rw [if_neg h2, if_neg h2]
  · rw [if_neg h1, if_neg h1, if_pos (by omega)]
theorem c_last (hS : q_S h I nS sp bx) {s : Nat} (hs : s < nS) : f_X7_lastDay h (sp s) = some (q_ld I s) := by
  unfold f_X7_lastDay q_ld
  rw [rS8 hS hs, rS9 hS hs]
  rfl
/-- the last day of a loan as a number -/
def q_ln (I : Nat → Nat → Int32) (s : Nat) : Nat := q_n (I 58 s) + q_n (I 59 s)
theorem q_ld_n (hT : q_T I nS nB) {s : Nat} (hs : s < nS) (hl : I 57 s ≠ -1) : q_ld I s = nI (q_ln I s) ∧ q_ln I s ≤ 100365 := by
  rcases hT.2.2.2.2.1 s hs with e | ⟨b, d, t, fe, b1, d1, t1, f1, e1, e2, e3, e4⟩
  · exact absurd e hl
  · unfold q_ld q_ln
    rw [e2, e3, nI_add, q_n_nI (by omega), q_n_nI (by omega)]
    exact ⟨rfl, by omega⟩
theorem q_la_ln {s D : Nat} (hl : I 57 s ≠ -1) : q_la I s D = D - q_ln I s := by
  unfold q_la q_ln
  rw [if_neg hl]
theorem c_due (hS : q_S h I nS sp bx) (hT : q_T I nS nB) {s D : Nat} (hs : s < nS) (hl : I 57 s ≠ -1) (hD : D ≤ 100000) : f_X7_dueOn h (sp s) (nI D) = some (q_du I s D) := by
  obtain ⟨l1, l2⟩ := q_ld_n hT hs hl
  unfold f_X7_dueOn q_du
  rw [if_pos (oS hS hs), c_last hS hs, rS10 hS hs, l1, q_la_ln hl]
  generalize q_ln I s = m at l2
  simp only [Option.bind_some]
  have e1 : (if 0 < nI D - nI m then nI D - nI m else 0) = nI (D - m) := i_max (by omega) (by omega)
  rw [e1]
  generalize hn : D - m = n
  have hnl : n ≤ 100000 := by omega
  have e2 : (if 0 < nI n - 30 then nI n - 30 else 0) = nI (n - 30) := i_max (b := 30) (by omega) (by omega)
  rw [e2, nI_add, show (100 : Int32) = nI 100 from rfl, ite_lt (by omega) (by omega)]
  congr 2
  unfold q_tm
  by_cases q1 : 30 < n
  · by_cases q2 : 100 < n + (n - 30)
    · rw [if_pos q2, if_pos q1, if_neg (by omega)]
    · rw [if_neg q2, if_pos q1, if_pos (by omega)]
      congr 1
      omega
  · rw [if_neg (by omega), if_neg q1]
    congr 1
    omega
def q_lP (I : Nat → Nat → Int32) (D s : Nat) : Bool := decide (0 < q_la I s D)
def q_lent (I : Nat → Nat → Int32) (s : Nat) : Bool := !(I 57 s == -1)
theorem q_lentT {s : Nat} : q_lent I s = true ↔ I 57 s ≠ -1 := by
  unfold q_lent
  by_cases e : I 57 s = -1
  · simp [e]
  · simp [e]
theorem q_le_inj (hL : q_Ln h I nS nO sp le) : ∀ i j, i < nO → j < nO → le i = le j → i = j := q_srt_inj (lt := q_bf I) (fun a ha => by
  rcases ha with ha | ⟨-, ha⟩
  · rw [Int32.lt_iff_toInt_lt] at ha; omega
  · omega) hL.2.2.2.2.1
theorem q_cntL (hF : q_F h nS nB lo ak nO) (hL : q_Ln h I nS nO sp le) (P : Nat → Bool) : q_cnt (fun i => P (le i)) nO = q_cnt (fun s => q_lent I s && P s) nS := by
  have n3 := hF.2.2.2.2.2.2.2.1
  have n5 := hF.2.2.2.2.2.2.2.2.2
  exact q_cnt_perm ⟨by omega, by omega⟩ (fun i hi => (hL.2.2.2.1 i hi).1) (q_le_inj hL) (q_lent I) (fun i hi => q_lentT.mpr (hL.2.2.2.1 i hi).2) (fun s hs he => hL.2.2.2.2.2 s hs (q_lentT.mp he)) P
theorem e_overdue (w : q_W h I nS nB lo ak nO sp bx qu own bl le) (x : Int32) : ∃ r, f_X9_overdue h 0 x = some r ∧ f_X10_overdue h 44 x = some r := by
  obtain ⟨hM, hF, hS, hN, hB, hH, hK, hR, hL, hT, hO⟩ := w
  have n3 := hF.2.2.2.2.2.2.2.1
  have n5 := hF.2.2.2.2.2.2.2.2.2
  unfold f_X9_overdue f_X10_overdue
  simp only [rF05 hF, Option.bind_some, oF40 hF, if_true, c_isDay, d_isDay, q_b0]
  cases hx : q_dy x with
  | false => exact ⟨-1, rfl, rfl⟩
  | true =>
    obtain ⟨D, hD, rfl⟩ := q_dyE hx
    simp only [Bool.true_eq_false, if_false]
    refine ⟨nI (q_cnt (q_lP I D) nS), ?_, ?_⟩
    · unfold f_X3_lateCount
      obtain ⟨f, e1, e2⟩ := hL.1
      have hl := m_for (step := w_X3_lateCount_4 h 40 (nI D)) (fun i => (nI (q_cnt (fun i => q_lP I D (le i)) i), nI i)) (nI (q_cnt (fun i => q_lP I D (le i)) nO)) nO (by omega) (fun i hi => by
        obtain ⟨s1, s2⟩ := hL.2.2.2.1 i hi
        obtain ⟨d1, d2⟩ := q_ld_n hT s1 s2
        unfold w_X3_lateCount_4
        dsimp only
        rw [rF403 hF, rF400 hF]
        simp only [Option.bind_some]
        rw [if_neg (by rw [n_le (by omega) (by omega)]; omega), if_neg (by rw [show (240 : Int32) = nI 240 from rfl, n_le (by omega) (by omega)]; omega), g_al (by have := hF.1; omega) e1 (by decide) (by omega) (by decide), e2 i hi]
        simp only [Option.bind_some, oS hS s1, if_true, c_last hS s1, d1, nI_1]
        rw [ite_le (by omega) (by omega)]
        by_cases q : D ≤ q_ln I (le i)
        · rw [if_pos q]
          have : q_lP I D (le i) = false := by unfold q_lP; rw [q_la_ln s2]; simp; omega
          simp [q_cnt, this]
        · rw [if_neg q]
          have : q_lP I D (le i) = true := by unfold q_lP; rw [q_la_ln s2]; simp; omega
          simp [q_cnt, this]) (by
        unfold w_X3_lateCount_4
        dsimp only
        rw [rF403 hF]
        simp only [Option.bind_some]
        rw [if_pos (Int32.le_refl _)])
      rw [show ((0 : Int32), (0 : Int32)) = (fun i => (nI (q_cnt (fun i => q_lP I D (le i)) i), nI i)) 0 from rfl, hl, q_cntL hF hL]
      simp only [Option.bind_some]
      congr 2
      apply q_cnt_congr
      intro s _
      cases e : q_lent I s with
      | true => rfl
      | false =>
        have : I 57 s = -1 := Classical.byContradiction fun z => by rw [q_lentT.mpr z] at e; cases e
        unfold q_lP q_la
        rw [if_pos this]
        rfl
    · have hl := m_for (step := w_X10_overdue_16 h 44 (nI D)) (fun s => (nI (q_cnt (q_lP I D) s), nI s)) (nI (q_cnt (q_lP I D) nS)) nS (by omega) (fun s hs => by
        unfold w_X10_overdue_16
        dsimp only
        rw [rM6 hM]
        simp only [Option.bind_some]
        rw [if_neg (by rw [n_le (by omega) (by omega)]; omega), if_pos (oM hM), d_late hM n3 hT hs hD]
        have hq := q_la_le (I := I) (s := s) (D := D)
        simp only [Option.bind_some, nI_1]
        rw [show (0 : Int32) = nI 0 from rfl, ite_le (by omega) (by omega)]
        by_cases q : q_la I s D ≤ 0
        · rw [if_pos q]
          have : q_lP I D s = false := by unfold q_lP; simp; omega
          simp [q_cnt, this, nI_0]
        · rw [if_neg q]
          have : q_lP I D s = true := by unfold q_lP; simp; omega
          simp [q_cnt, this]) (by
        unfold w_X10_overdue_16
        dsimp only
        rw [rM6 hM]
        simp only [Option.bind_some]
        rw [if_pos (Int32.le_refl _)])
      rw [show ((0 : Int32), (0 : Int32)) = (fun s => (nI (q_cnt (q_lP I D) s), nI s)) 0 from rfl, hl]
      rfl
theorem e_fees (w : q_W h I nS nB lo ak nO sp bx qu own bl le) (x y : Int32) : ∃ r, f_X9_fees h 0 x y = some r ∧ f_X10_fees h 44 x y = some r := by
  obtain ⟨hM, hF, hS, hN, hB, hH, hK, hR, hL, hT, hO⟩ := w
  have n3 := hF.2.2.2.2.2.2.2.1
  have n5 := hF.2.2.2.2.2.2.2.2.2
  unfold f_X9_fees f_X10_fees
  simp only [rF05 hF, Option.bind_some, oF40 hF, if_true, c_isDay, d_isDay, c_isBor, d_isBor, q_b0]
  cases hb : q_r x 20 with
  | false => exact ⟨-1, rfl, rfl⟩
  | true =>
    obtain ⟨b, hb2, rfl⟩ := q_rE hb
    cases hx : q_dy y with
    | false => exact ⟨-1, rfl, rfl⟩
    | true =>
      obtain ⟨D, hD, rfl⟩ := q_dyE hx
      simp only [Bool.true_eq_false, if_false]
      obtain ⟨cg, c1, c2⟩ := hL.2.2.1
      have hsum : q_sum (fun i => if I 57 (le i) = nI b then q_du I (le i) D else 0) nO = q_sum (fun s => if I 57 s = nI b then q_du I s D else 0) nS := by
        have hp := q_perm (fun i hi => (hL.2.2.2.1 i hi).1) (q_le_inj hL) (q_lent I) (fun i hi => q_lentT.mpr (hL.2.2.2.1 i hi).2) (fun s hs he => hL.2.2.2.2.2 s hs (q_lentT.mp he)) (fun s => if I 57 s = nI b then q_du I s D else 0)
        rw [hp]
        apply q_sum_congr
        intro s _
        cases e : q_lent I s with
        | true => rfl
        | false =>
          have : I 57 s = -1 := Classical.byContradiction fun z => by rw [q_lentT.mpr z] at e; cases e
          rw [if_neg (by simp), if_neg]
          rw [this]
          exact fun z => q_nm1 (by omega) z.symm
      refine ⟨I 65 b + q_sum (fun s => if I 57 s = nI b then q_du I s D else 0) nS, ?_, ?_⟩
      · unfold f_X3_owed
        rw [c_isBor, hb, rF402 hF]
        simp only [Option.bind_some]
        rw [if_neg (by decide), g_il (by have := hF.1; omega) c1 hb2 (by decide), c2 b hb2]
        simp only [Option.bind_some]
        obtain ⟨f, e1, e2⟩ := hL.1
        have hl := m_for (step := w_X3_owed_19 h 40 (nI b) (nI D)) (fun i => (I 65 b + q_sum (fun i => if I 57 (le i) = nI b then q_du I (le i) D else 0) i, nI i)) (I 65 b + q_sum (fun i => if I 57 (le i) = nI b then q_du I (le i) D else 0) nO) nO (by omega) (fun i hi => by
          obtain ⟨s1, s2⟩ := hL.2.2.2.1 i hi
          unfold w_X3_owed_19
          dsimp only
          rw [rF403 hF, rF400 hF]
          simp only [Option.bind_some]
          rw [if_neg (by rw [n_le (by omega) (by omega)]; omega), if_neg (by rw [show (240 : Int32) = nI 240 from rfl, n_le (by omega) (by omega)]; omega), g_al (by have := hF.1; omega) e1 (by decide) (by omega) (by decide), e2 i hi]
          simp only [Option.bind_some, oS hS s1, if_true, rS7 hS s1, nI_1, c_due hS hT s1 s2 hD]
          show _ = some (Sum.inl (I 65 b + (q_sum (fun i => if I 57 (le i) = nI b then q_du I (le i) D else 0) i + (if I 57 (le i) = nI b then q_du I (le i) D else 0)), nI (i + 1)))
          by_cases q : I 57 (le i) = nI b
          · rw [if_pos q, if_pos q, Int32.add_assoc]
          · rw [if_neg q, if_neg q, Int32.add_zero]) (by
          unfold w_X3_owed_19
          dsimp only
          rw [rF403 hF]
          simp only [Option.bind_some]
          rw [if_pos (Int32.le_refl _)])
        rw [show (I 65 b, (0 : Int32)) = (fun i => (I 65 b + q_sum (fun i => if I 57 (le i) = nI b then q_du I (le i) D else 0) i, nI i)) 0 by
          simp only [q_sum, Int32.add_zero, nI_0], hl, hsum]
        rfl
      · rw [rM22 hM]
        simp only [Option.bind_some]
        rw [rI hM (a := 65) (by decide) (by decide) (show b < 20 by omega)]
        simp only [Option.bind_some]
        have hl := m_for (step := w_X10_fees_32 h 44 (nI b) (nI D)) (fun s => (I 65 b + q_sum (fun s => if I 57 s = nI b then q_du I s D else 0) s, nI s)) (I 65 b + q_sum (fun s => if I 57 s = nI b then q_du I s D else 0) nS) nS (by omega) (fun s hs => by
          unfold w_X10_fees_32
          dsimp only
          rw [rM6 hM]
          simp only [Option.bind_some]
          rw [if_neg (by rw [n_le (by omega) (by omega)]; omega), rM13 hM]
          simp only [Option.bind_some]
          rw [rI hM (a := 57) (by decide) (by decide) (show s < 300 by omega), d_due hM n3 hT hs hD]
          simp only [Option.bind_some, oM hM, if_true, nI_1]
          show _ = some (Sum.inl (I 65 b + (q_sum (fun s => if I 57 s = nI b then q_du I s D else 0) s + (if I 57 s = nI b then q_du I s D else 0)), nI (s + 1)))
          by_cases q : I 57 s = nI b
          · rw [if_pos q, if_pos q, Int32.add_assoc]
          · rw [if_neg q, if_neg q, Int32.add_zero, Int32.add_zero]) (by
          unfold w_X10_fees_32
          dsimp only
          rw [rM6 hM]
          simp only [Option.bind_some]
          rw [if_pos (Int32.le_refl _)])
        rw [show (I 65 b, (0 : Int32)) = (fun s => (I 65 b + q_sum (fun s => if I 57 s = nI b then q_du I s D else 0) s, nI s)) 0 by
          simp only [q_sum, Int32.add_zero, nI_0], hl]
        rfl
end QW
