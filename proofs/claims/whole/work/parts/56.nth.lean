/-! PURE PART 16: lateOne, nth -/
theorem q_fst_uniq {ρ : Type} {Q : Nat → Prop} [DecidablePred Q] {f : Nat → ρ} {d : ρ} {n s0 : Nat} (h0 : s0 < n) (hq : Q s0) (hu : ∀ s, s < n → Q s → s = s0) : q_fst (fun s => if Q s then some (f s) else none) d n 0 = f s0 := by
  rcases q_fst_spec (E := fun s => if Q s then some (f s) else none) (d := d) n 0 with ⟨h1, h2⟩ | ⟨m, h1, h2, h3, h4⟩
  · have := h1 s0 (Nat.zero_le _) (by omega)
    rw [if_pos hq] at this
    cases this
  · by_cases hm : Q m
    · rw [if_pos hm] at h4
      rw [← Option.some.inj h4, hu m (by omega) hm]
    · rw [if_neg hm] at h4
      cases h4
theorem q_fst_no {ρ : Type} {Q : Nat → Prop} [DecidablePred Q] {f : Nat → ρ} {d : ρ} {n : Nat} (hu : ∀ s, s < n → ¬ Q s) : q_fst (fun s => if Q s then some (f s) else none) d n 0 = d := by
  rcases q_fst_spec (E := fun s => if Q s then some (f s) else none) (d := d) n 0 with ⟨h1, h2⟩ | ⟨m, h1, h2, h3, h4⟩
  · exact h2
  · rw [if_neg (hu m (by omega))] at h4
    cases h4
theorem q_cnt_cut {R : Nat → Bool} {i : Nat} : ∀ n, q_cnt (fun j => decide (j < i) && R j) n = q_cnt R (min i n)
  | 0 => by rw [Nat.min_zero]; rfl
  | n + 1 => by
    have ih := q_cnt_cut (R := R) (i := i) n
    show q_cnt (fun j => decide (j < i) && R j) n + (if (decide (n < i) && R n) = true then 1 else 0) = _
    rw [ih]
    by_cases h : n < i
    · rw [show min i n = n by omega, show min i (n + 1) = n + 1 by omega]
      show _ = q_cnt R n + (if R n = true then 1 else 0)
      simp [h]
    · rw [show min i n = i by omega, show min i (n + 1) = i by omega]
      simp [h]
section QW
variable {h : mH} {I : Nat → Nat → Int32} {nS nB nO : Nat} {lo ak : Int32} {sp bx qu bl le : Nat → Nat} {own : Nat → Nat × Nat}
def q_ahd (I : Nat → Nat → Int32) (D s o : Nat) : Bool := decide (q_la I s D < q_la I o D) || (decide (q_la I o D = q_la I s D) && decide (o < s))
theorem q_rank (hF : q_F h nS nB lo ak nO) (hL : q_Ln h I nS nO sp le) (hT : q_T I nS nB) {D i : Nat} (hi : i < nO) (hp : q_lP I D (le i) = true) : q_cnt (q_ahd I D (le i)) nS = i := by
  have hpos : 0 < q_la I (le i) D := of_decide_eq_true hp
  obtain ⟨s1, s2⟩ := hL.2.2.2.1 i hi
  have e1 : q_cnt (q_ahd I D (le i)) nS = q_cnt (fun s => q_lent I s && q_ahd I D (le i) s) nS := by
    apply q_cnt_congr
    intro o _
    cases e : q_lent I o with
    | true => rfl
    | false =>
      have ho : I 57 o = -1 := Classical.byContradiction fun z => by rw [q_lentT.mpr z] at e; cases e
      have : q_la I o D = 0 := by unfold q_la; rw [if_pos ho]
      unfold q_ahd
      rw [this]
      simp
      omega
  rw [e1, ← q_cntL hF hL]
  have e2 : q_cnt (fun j => q_ahd I D (le i) (le j)) nO = q_cnt (fun j => decide (j < i) && true) nO := by
    apply q_cnt_congr
    intro j hj
    obtain ⟨t1, t2⟩ := hL.2.2.2.1 j hj
    obtain ⟨a1, a2⟩ := q_ld_n hT s1 s2
    obtain ⟨b1, b2⟩ := q_ld_n hT t1 t2
    rw [q_la_ln s2] at hpos
    unfold q_ahd
    rw [q_la_ln s2, q_la_ln t2]
    rcases Nat.lt_trichotomy j i with q | q | q
    · have := hL.2.2.2.2.1 j i q hi
      unfold q_bf at this
      rw [a1, b1, n_lt (by omega) (by omega), n_eq (by omega) (by omega)] at this
      rcases this with c | ⟨c, c2⟩
      · simp [q, show D - q_ln I (le i) < D - q_ln I (le j) by omega]
      · simp [q, c, c2]
    · subst q
      simp
    · have := hL.2.2.2.2.1 i j q hj
      unfold q_bf at this
      rw [a1, b1, n_lt (by omega) (by omega), n_eq (by omega) (by omega)] at this
      have q' : ¬ j < i := by omega
      rcases this with c | ⟨c, c2⟩
      · simp [q', show ¬ D - q_ln I (le i) < D - q_ln I (le j) by omega, show ¬ D - q_ln I (le j) = D - q_ln I (le i) by omega]
      · simp [q', c, show ¬ le j < le i by omega]
  rw [e2, q_cnt_cut, q_cnt_all _ (fun _ _ => rfl)]
  omega
theorem m_optr {Q : Nat → Prop} [DecidablePred Q] : ∀ n i, (match q_fst (fun s => if Q s then some (Sum.inr (α := Unit) (nI s)) else none) (Sum.inl ()) n i with | .inl _ => some (-1 : Int32) | .inr v => some v) = some (q_fst (fun s => if Q s then some (nI s) else none) (-1) n i) := by
  intro n
  induction n with
  | zero => intro i; rfl
  | succ n ih =>
    intro i
    unfold q_fst
    by_cases hc : Q i
    · simp [hc]
    · simp only [hc, if_false]
      exact ih (i + 1)
theorem some3 {α : Type} {A B C : Option α} (h : B = C) (k : ∃ r, A = some r ∧ C = some r) : ∃ r, A = some r ∧ B = some r := h ▸ k
theorem e_lateOne (w : q_W h I nS nB lo ak nO sp bx qu own bl le) (y x : Int32) : ∃ r, f_X9_lateOne h 0 y x = some r ∧ f_X10_lateOne h 44 y x = some r := by
  obtain ⟨hM, hF, hS, hN, hB, hH, hK, hR, hL, hT, hO⟩ := w
  have n3 := hF.2.2.2.2.2.2.2.1
  have n5 := hF.2.2.2.2.2.2.2.2.2
  unfold f_X9_lateOne f_X10_lateOne
  simp only [rF05 hF, Option.bind_some, oF40 hF, if_true, c_isDay, d_isDay, q_b0]
  cases hy : q_dy y with
  | false => exact ⟨-1, rfl, rfl⟩
  | true =>
    obtain ⟨D, hD, rfl⟩ := q_dyE hy
    simp only [Bool.true_eq_false, if_false]
    have inner : ∀ s, s < nS → m_loop (w_X10_lateOne_44 h 44 (nI D) (nI s) (nI (q_la I s D))) 5000 (0, 0) = some (nI (q_cnt (q_ahd I D s) nS)) := by
      intro s hs
      have hl := m_for (step := w_X10_lateOne_44 h 44 (nI D) (nI s) (nI (q_la I s D))) (fun o => (nI (q_cnt (q_ahd I D s) o), nI o)) (nI (q_cnt (q_ahd I D s) nS)) nS (by omega) (fun o ho => by
        unfold w_X10_lateOne_44
        dsimp only
        rw [rM6 hM]
        simp only [Option.bind_some]
        rw [if_neg (by rw [n_le (by omega) (by omega)]; omega), d_late hM n3 hT ho hD]
        have q1 := q_la_le (I := I) (s := s) (D := D)
        have q2 := q_la_le (I := I) (s := o) (D := D)
        simp only [Option.bind_some, oM hM, if_true, nI_1]
        rw [ite_lt (by omega) (by omega), ite_le (by omega) (by omega)]
        simp only [n_eq (show q_la I o D < 2147483648 by omega) (show q_la I s D < 2147483648 by omega)]
        by_cases c1 : q_la I s D < q_la I o D
        · have : q_ahd I D s o = true := by unfold q_ahd; simp [c1]
          simp [c1, q_cnt, this]
        · by_cases c2 : q_la I o D = q_la I s D
          · by_cases c3 : s ≤ o
            · have : q_ahd I D s o = false := by unfold q_ahd; simp [c1, c2]; omega
              simp [c1, c2, c3, q_cnt, this]
            · have : q_ahd I D s o = true := by unfold q_ahd; simp [c1, c2]; omega
              simp [c1, c2, c3, q_cnt, this]
          · have : q_ahd I D s o = false := by unfold q_ahd; simp [c1, c2]
            simp [c1, c2, q_cnt, this]) (by
        unfold w_X10_lateOne_44
        dsimp only
        rw [rM6 hM]
        simp only [Option.bind_some]
        rw [if_pos (Int32.le_refl _)])
      exact hl
    have hl := m_search (step := w_X10_lateOne_14 h 44 (nI D) x) (fun s => nI s) (fun s => if q_lP I D s = true ∧ nI (q_cnt (q_ahd I D s) nS) = x then some (Sum.inr (nI s)) else none) (Sum.inl ()) nS (by omega) (fun s hs => by
      unfold w_X10_lateOne_14
      rw [rM6 hM]
      simp only [Option.bind_some]
      rw [if_neg (by rw [n_le (by omega) (by omega)]; omega), if_pos (oM hM), d_late hM n3 hT hs hD]
      have q1 := q_la_le (I := I) (s := s) (D := D)
      simp only [Option.bind_some]
      rw [inner s hs]
      simp only [Option.bind_some, nI_1, show (0 : Int32) = nI 0 from rfl, n_eq (show q_la I s D < 2147483648 by omega) (show 0 < 2147483648 by omega)]
      by_cases c1 : q_la I s D = 0
      · have : q_lP I D s = false := by unfold q_lP; simp [c1]
        simp [c1, this]
      · have : q_lP I D s = true := by unfold q_lP; simp; omega
        by_cases c2 : nI (q_cnt (q_ahd I D s) nS) = x
        · simp [c1, this, c2]
        · simp [c1, this, c2]) (by
      unfold w_X10_lateOne_14
      rw [rM6 hM]
      simp only [Option.bind_some]
      rw [if_pos (Int32.le_refl _)])
    rw [show (0 : Int32) = (fun s => nI s) 0 from rfl, hl]
    simp only [Option.bind_some]
    refine some3 (m_optr (Q := fun s => q_lP I D s = true ∧ nI (q_cnt (q_ahd I D s) nS) = x) nS 0) ?_
    have idx : ∀ s, s < nS → q_lP I D s = true → nI (q_cnt (q_ahd I D s) nS) = x → q_r x nO = true ∧ s = le (q_n x) := by
      intro s hs hp hx
      have hlent : I 57 s ≠ -1 := by
        intro z
        unfold q_lP q_la at hp
        rw [if_pos z] at hp
        simp at hp
      obtain ⟨i, hi, rfl⟩ := hL.2.2.2.2.2 s hs hlent
      rw [q_rank hF hL hT hi hp] at hx
      subst hx
      exact ⟨q_r_nI hi (by omega), by rw [q_n_nI (by omega)]⟩
    unfold f_X3_lateAt
    simp only [rF403 hF, rF400 hF, Option.bind_some]
    cases hq : q_r x nO with
    | false =>
      refine ⟨-1, ?_, ?_⟩
      · have := q_rN hq
        simp only [Int32.lt_iff_toInt_lt, Int32.le_iff_toInt_le, show (0 : Int32).toInt = 0 from rfl, nI_toInt (show nO < 2147483648 by omega)]
        by_cases h1 : x.toInt < 0
        · rw [if_pos h1]; rfl
        · rw [if_neg h1, if_pos (by omega)]; rfl
      · rw [q_fst_no (fun s hs hc => by have := (idx s hs hc.1 hc.2).1; rw [hq] at this; cases this)]
    | true =>
      obtain ⟨i, hi, rfl⟩ := q_rE hq
      obtain ⟨f, e1, e2⟩ := hL.1
      obtain ⟨s1, s2⟩ := hL.2.2.2.1 i hi
      obtain ⟨d1, d2⟩ := q_ld_n hT s1 s2
      rw [if_neg (nI_pos (by omega)), if_neg (by rw [n_le (by omega) (by omega)]; omega), if_pos (by rw [show (240 : Int32) = nI 240 from rfl, n_lt (by omega) (by omega)]; omega), g_al (by have := hF.1; omega) e1 (by decide) (by omega) (by decide), e2 i hi]
      simp only [Option.bind_some, oS hS s1, if_true, c_last hS s1, d1, rS0 hS s1]
      rw [ite_le (by omega) (by omega)]
      rw [q_n_nI (by omega)] at idx
      by_cases c1 : D ≤ q_ln I (le i)
      · rw [if_pos c1]
        refine ⟨-1, rfl, ?_⟩
        rw [q_fst_no (fun s hs hc => by
          have := (idx s hs hc.1 hc.2).2
          subst this
          have hp := of_decide_eq_true hc.1
          rw [q_la_ln s2] at hp
          omega)]
      · rw [if_neg c1]
        refine ⟨nI (le i), rfl, ?_⟩
        have hp : q_lP I D (le i) = true := by unfold q_lP; rw [q_la_ln s2]; simp; omega
        rw [q_fst_uniq s1 ⟨hp, by rw [q_rank hF hL hT hi hp]⟩ (fun s hs hc => (idx s hs hc.1 hc.2).2)]
/-! nth -/
def q_bfr (I : Nat → Nat → Int32) (s o : Nat) : Bool := decide (I 52 o < I 52 s) || (decide (I 52 o = I 52 s) && decide (o < s))
theorem q_bl_sur (hN : q_N h I nS nB sp bx bl) : (∀ i j, i < nS → j < nS → bl i = bl j → i = j) ∧ ∀ s, s < nS → ∃ i, i < nS ∧ bl i = s := by
  have hi : ∀ i j, i < nS → j < nS → bl i = bl j → i = j := q_srt_inj (lt := q_lt I) (fun a ha => by
    rcases ha with ha | ⟨-, ha⟩
    · rw [Int32.lt_iff_toInt_lt] at ha; omega
    · omega) hN.2.2.2.2
  exact ⟨hi, q_srt_sur nS bl hN.2.2.2.1 hi⟩
theorem q_rank2 (hn : nS ≤ 300) (hN : q_N h I nS nB sp bx bl) (P : Nat → Bool) {i : Nat} (hi : i < nS) : q_cnt (fun o => q_bfr I (bl i) o && P o) nS = q_cnt (fun j => P (bl j)) i := by
  obtain ⟨inj, sur⟩ := q_bl_sur hN
  have e1 := q_cnt_perm (le := bl) (nO := nS) (nS := nS) ⟨by omega, by omega⟩ hN.2.2.2.1 inj (fun _ => true) (fun _ _ => rfl) (fun s hs _ => sur s hs) (fun o => q_bfr I (bl i) o && P o)
  simp only [Bool.true_and] at e1
  rw [← e1]
  have e2 : q_cnt (fun j => q_bfr I (bl i) (bl j) && P (bl j)) nS = q_cnt (fun j => decide (j < i) && P (bl j)) nS := by
    apply q_cnt_congr
    intro j hj
    congr 1
    unfold q_bfr
    rcases Nat.lt_trichotomy j i with q | q | q
    · have := hN.2.2.2.2 j i q hi
      rcases this with c | ⟨c, c2⟩
      · simp [q, c]
      · simp [q, c, c2]
    · subst q
      have : ¬ I 52 (bl j) < I 52 (bl j) := by rw [Int32.lt_iff_toInt_lt]; omega
      simp [this]
    · have q' : ¬ j < i := by omega
      have := hN.2.2.2.2 i j q hj
      rcases this with c | ⟨c, c2⟩
      · rw [Int32.lt_iff_toInt_lt] at c
        have c3 : ¬ I 52 (bl j) < I 52 (bl i) := by rw [Int32.lt_iff_toInt_lt]; omega
        have c4 : ¬ I 52 (bl j) = I 52 (bl i) := by intro z; rw [z] at c; omega
        simp [q', c3, c4]
      · have c3 : ¬ I 52 (bl j) < I 52 (bl i) := by rw [c, Int32.lt_iff_toInt_lt]; omega
        simp [q', c3, show ¬ bl j < bl i by omega]
  rw [e2, q_cnt_cut, show min i nS = i by omega]
theorem e_nth (w : q_W h I nS nB lo ak nO sp bx qu own bl le) (c x : Int32) : ∃ r, f_X9_nth h 0 c x = some r ∧ f_X10_nth h 44 c x = some r := by
  obtain ⟨hM, hF, hS, hN, hB, hH, hK, hR, hL, hT, hO⟩ := w
  have n3 := hF.2.2.2.2.2.2.2.1
  unfold f_X9_nth f_X10_nth
  simp only [rF00 hF, Option.bind_some, oF1 hF, if_true, c_isCode, d_isCode, q_b0]
  cases hc : q_c c with
  | false => exact ⟨-1, rfl, rfl⟩
  | true =>
    simp only [Bool.true_eq_false, if_false]
    generalize hP : (fun s => q_up c (I 51 s)) = P
    have hPs : ∀ s, q_up c (I 51 s) = P s := fun s => by rw [← hP]
    have kc : ∀ s, s < nS → q_c (I 51 s) = true := fun s hs => by
      obtain ⟨k, hk, ek⟩ := hT.1 s hs
      rw [ek]
      exact q_kc hk
    have inner : ∀ s, s < nS → m_loop (w_X10_nth_42 h 44 c (nI s)) 5000 (0, 0) = some (nI (q_cnt (fun o => q_bfr I s o && P o) nS)) := by
      intro s hs
      have hl := m_for (step := w_X10_nth_42 h 44 c (nI s)) (fun o => (nI (q_cnt (fun o => q_bfr I s o && P o) o), nI o)) (nI (q_cnt (fun o => q_bfr I s o && P o) nS)) nS (by omega) (fun o ho => by
        unfold w_X10_nth_42
        dsimp only
        rw [rM6 hM]
        simp only [Option.bind_some]
        rw [if_neg (by rw [n_le (by omega) (by omega)]; omega)]
        simp only [rM7 hM, rM8 hM, Option.bind_some]
        rw [rI hM (a := 52) (by decide) (by decide) (show o < 300 by omega), rI hM (a := 52) (by decide) (by decide) (show s < 300 by omega), rI hM (a := 51) (by decide) (by decide) (show o < 300 by omega)]
        simp only [Option.bind_some, oM hM, if_true]
        rw [d_above hM hc (kc o ho), hPs]
        simp only [Option.bind_some, q_b0, nI_1]
        rw [ite_le (by omega) (by omega)]
        by_cases c1 : I 52 o < I 52 s
        · have : q_bfr I s o = true := by unfold q_bfr; simp [c1]
          cases hp : P o <;> simp [c1, q_cnt, this, hp]
        · by_cases c2 : I 52 o = I 52 s
          · by_cases c3 : s ≤ o
            · have : q_bfr I s o = false := by
                unfold q_bfr
                rw [decide_eq_false c1]
                simp
                omega
              simp [c1, c2, c3, q_cnt, this]
            · have : q_bfr I s o = true := by unfold q_bfr; simp [c2]; omega
              cases hp : P o <;> simp [c1, c2, c3, q_cnt, this, hp]
          · have : q_bfr I s o = false := by unfold q_bfr; simp [c1, c2]
            simp [c1, c2, q_cnt, this]) (by
        unfold w_X10_nth_42
        dsimp only
        rw [rM6 hM]
        simp only [Option.bind_some]
        rw [if_pos (Int32.le_refl _)])
      exact hl
    have hl := m_search (step := w_X10_nth_11 h 44 c x) (fun s => nI s) (fun s => if P s = true ∧ nI (q_cnt (fun o => q_bfr I s o && P o) nS) = x then some (Sum.inr (nI s)) else none) (Sum.inl ()) nS (by omega) (fun s hs => by
      unfold w_X10_nth_11
      rw [rM6 hM]
      simp only [Option.bind_some]
      rw [if_neg (by rw [n_le (by omega) (by omega)]; omega), rM7 hM]
      simp only [Option.bind_some]
      rw [rI hM (a := 51) (by decide) (by decide) (show s < 300 by omega)]
      simp only [Option.bind_some, oM hM, if_true]
      rw [d_above hM hc (kc s hs), hPs, inner s hs]
      simp only [Option.bind_some, q_b0, nI_1]
      cases hp : P s with
      | false => simp
      | true =>
        by_cases c2 : nI (q_cnt (fun o => q_bfr I s o && P o) nS) = x
        · simp [c2]
        · simp [c2]) (by
      unfold w_X10_nth_11
      rw [rM6 hM]
      simp only [Option.bind_some]
      rw [if_pos (Int32.le_refl _)])
    rw [show (0 : Int32) = (fun s => nI s) 0 from rfl, hl]
    simp only [Option.bind_some]
    refine some3 (m_optr (Q := fun s => P s = true ∧ nI (q_cnt (fun o => q_bfr I s o && P o) nS) = x) nS 0) ?_
    refine ⟨_, ?_, rfl⟩
    unfold f_X8_numberOf
    obtain ⟨f, e1, e2⟩ := hN.2.1
    have hl2 := m_search (step := w_X8_numberOf_5 h 1 c x) (fun i => (nI (q_cnt (fun j => P (bl j)) i), nI i)) (fun i => if P (bl i) = true ∧ nI (q_cnt (fun j => P (bl j)) i) = x then some (Sum.inr (nI (bl i))) else none) (Sum.inl ()) nS (by omega) (fun i hi => by
      have hb := hN.2.2.2.1 i hi
      unfold w_X8_numberOf_5
      dsimp only
      rw [rF12 hF, rF11 hF]
      simp only [Option.bind_some]
      rw [if_neg (by rw [n_le (by omega) (by omega)]; omega), if_neg (by rw [show (300 : Int32) = nI 300 from rfl, n_le (by omega) (by omega)]; omega), g_al (by have := hF.1; omega) e1 (by decide) (by omega) (by decide), e2 i hi]
      simp only [Option.bind_some, rS3 hS hb, rS0 hS hb, c_under, hPs, q_b0, nI_1]
      cases hp : P (bl i) with
      | false => simp [q_cnt, hp]
      | true =>
        by_cases c2 : nI (q_cnt (fun j => P (bl j)) i) = x
        · simp [c2]
        · simp [c2, q_cnt, hp]) (by
      unfold w_X8_numberOf_5
      dsimp only
      rw [rF12 hF]
      simp only [Option.bind_some]
      rw [if_pos (Int32.le_refl _)])
    rw [show ((0 : Int32), (0 : Int32)) = (fun i => (nI (q_cnt (fun j => P (bl j)) i), nI i)) 0 from rfl, hl2]
    simp only [Option.bind_some]
    obtain ⟨inj, sur⟩ := q_bl_sur hN
    have cl := fun i => q_cnt_le (fun j => P (bl j)) i
    have uni : ∀ i j, i < nS → j < nS → P (bl i) = true → P (bl j) = true → nI (q_cnt (fun j => P (bl j)) i) = x → nI (q_cnt (fun j => P (bl j)) j) = x → i = j := by
      intro i j hi hj p1 p2 x1 x2
      have h1 := cl i
      have h2 := cl j
      have he := (n_eq (by omega) (by omega)).mp (x1.trans x2.symm)
      rcases Nat.lt_trichotomy i j with q | q | q
      · have := q_cnt_lt (P := fun j => P (bl j)) q p1
        omega
      · exact q
      · have := q_cnt_lt (P := fun j => P (bl j)) q p2
        omega
    by_cases hex : ∃ i, i < nS ∧ P (bl i) = true ∧ nI (q_cnt (fun j => P (bl j)) i) = x
    · obtain ⟨i, hi, p1, x1⟩ := hex
      have r1 : q_fst (fun i => if P (bl i) = true ∧ nI (q_cnt (fun j => P (bl j)) i) = x then some (Sum.inr (α := Unit) (nI (bl i))) else none) (Sum.inl ()) nS 0 = Sum.inr (nI (bl i)) := q_fst_uniq (Q := fun i => P (bl i) = true ∧ nI (q_cnt (fun j => P (bl j)) i) = x) (f := fun i => Sum.inr (nI (bl i))) hi ⟨p1, x1⟩ (fun j hj hc => uni j i hj hi hc.1 p1 hc.2 x1)
      rw [r1, q_fst_uniq (Q := fun s => P s = true ∧ nI (q_cnt (fun o => q_bfr I s o && P o) nS) = x) (f := fun s => nI s) (hN.2.2.2.1 i hi) ⟨p1, by rw [q_rank2 n3 hN P hi]; exact x1⟩ (fun s hs hc => by
        obtain ⟨j, hj, rfl⟩ := sur s hs
        rw [q_rank2 n3 hN P hj] at hc
        rw [uni j i hj hi hc.1 p1 hc.2 x1])]
      rfl
    · have r1 : q_fst (fun i => if P (bl i) = true ∧ nI (q_cnt (fun j => P (bl j)) i) = x then some (Sum.inr (α := Unit) (nI (bl i))) else none) (Sum.inl ()) nS 0 = Sum.inl () := q_fst_no (Q := fun i => P (bl i) = true ∧ nI (q_cnt (fun j => P (bl j)) i) = x) (f := fun i => Sum.inr (nI (bl i))) (fun j hj hc => hex ⟨j, hj, hc.1, hc.2⟩)
      rw [r1, q_fst_no (Q := fun s => P s = true ∧ nI (q_cnt (fun o => q_bfr I s o && P o) nS) = x) (f := fun s => nI s) (fun s hs hc => by
        obtain ⟨j, hj, rfl⟩ := sur s hs
        rw [q_rank2 n3 hN P hj] at hc
        exact hex ⟨j, hj, hc.1, hc.2⟩)]
      rfl
end QW
