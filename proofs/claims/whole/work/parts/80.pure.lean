/-! PURE PART 40: the law -/
theorem br_mut {g : mH} {A : Option (Int32 × mH)} {B : mH → Option (Int32 × mH)} {i : Int32} (hb : q_both g A B) (ob : m_ob g 44 9 = true) : ∃ g', (A.bind fun p => if m_ob p.2 44 9 = true then (B p.2).bind fun p' => if p.1 = p'.1 then some (.inl (i, p'.2)) else some (.inr (.inr (0, p'.2))) else none : Option ((Int32 × mH) ⊕ (mH ⊕ (Int32 × mH)))) = some (.inl (i, g')) ∧ q_Wx g' ∧ g'.1 ≤ g.1 + 2 ∧ g'.2.1 ≤ g.2.1 + 40 := by
  obtain ⟨r, h1, h2, e1, e2, e3, e4, e5, e6⟩ := hb
  refine ⟨h2, ?_, e3, e4, e5⟩
  rw [e1]
  simp only [Option.bind_some]
  rw [if_pos (e6 ob), e2]
  simp only [Option.bind_some]
  rw [if_pos trivial]
theorem br_ro {g : mH} {A B : Option Int32} {i : Int32} (w : q_Wx g) (hb : ∃ r, A = some r ∧ B = some r) : ∃ g', (A.bind fun p => B.bind fun p' => if p = p' then some (.inl (i, g)) else some (.inr (.inr (0, g))) : Option ((Int32 × mH) ⊕ (mH ⊕ (Int32 × mH)))) = some (.inl (i, g')) ∧ q_Wx g' ∧ g'.1 ≤ g.1 + 2 ∧ g'.2.1 ≤ g.2.1 + 40 := by
  obtain ⟨r, e1, e2⟩ := hb
  refine ⟨g, ?_, w, by omega, by omega⟩
  rw [e1, e2]
  simp only [Option.bind_some]
  rw [if_pos trivial]
theorem law_ti {X : mX} {k : Nat} (hk : k < X.1) (hX : X.1 ≤ 3072) : m_ti X 4 (nI k) = some (X.2 k) := by
  unfold m_ti
  rw [if_pos (nI_in (N := m_tN X 4) hk (by have : m_tN X 4 = X.1 := rfl; omega)), nI_clamp (by omega)]
  rfl
set_option maxHeartbeats 2000000 in
theorem law_step {X : mX} {t : Nat} (ht : 6 * t + 6 ≤ X.1) (hX : X.1 ≤ 3072) {g : mH} (wx : q_Wx g) : ∃ g', w_L_law_18 X h_0 h_4 (nI (6 * t), g) = some (.inl (nI (6 * t + 6), g')) ∧ q_Wx g' ∧ g'.1 ≤ g.1 + 2 ∧ g'.2.1 ≤ g.2.1 + 40 := by
  obtain ⟨I, nS, nB, lo, ak, nO, sp, bx, qu, own, bl, le, w⟩ := id wx
  have ob1 : m_ob g 0 8 = true := oF0 w.2.1
  have ob2 : m_ob g 44 9 = true := oM w.1
  have t0 := law_ti (X := X) (k := 6 * t) (by omega) hX
  have t1 : m_ti X 4 (nI (6 * t) + 1) = some (X.2 (6 * t + 1)) := by rw [nI_1]; exact law_ti (by omega) hX
  have t2 : m_ti X 4 (nI (6 * t) + 2) = some (X.2 (6 * t + 2)) := by rw [show (2 : Int32) = nI 2 from rfl, nI_add]; exact law_ti (by omega) hX
  have t3 : m_ti X 4 (nI (6 * t) + 3) = some (X.2 (6 * t + 3)) := by rw [show (3 : Int32) = nI 3 from rfl, nI_add]; exact law_ti (by omega) hX
  have t4 : m_ti X 4 (nI (6 * t) + 4) = some (X.2 (6 * t + 4)) := by rw [show (4 : Int32) = nI 4 from rfl, nI_add]; exact law_ti (by omega) hX
  have t5 : m_ti X 4 (nI (6 * t) + 5) = some (X.2 (6 * t + 5)) := by rw [show (5 : Int32) = nI 5 from rfl, nI_add]; exact law_ti (by omega) hX
  have t6 : nI (6 * t) + 6 = nI (6 * t + 6) := by rw [show (6 : Int32) = nI 6 from rfl, nI_add]
  have h01 : h_0.1 = 0 := rfl
  generalize X.2 (6 * t + 1) = x1 at t1
  generalize X.2 (6 * t + 2) = x2 at t2
  generalize X.2 (6 * t + 3) = x3 at t3
  generalize X.2 (6 * t + 4) = x4 at t4
  generalize X.2 (6 * t + 5) = x5 at t5
  unfold w_L_law_18
  dsimp only
  rw [if_neg (by
    show ¬ nI X.1 - nI 6 < nI (6 * t)
    rw [Int32.lt_iff_toInt_lt, i_sub2 (by omega) (by omega), nI_toInt (by omega)]
    omega), t0]
  simp only [Option.bind_some]
  generalize X.2 (6 * t) &&& 31 = k
  simp only [t1, t2, t3, t4, t5, t6, h01, st_n4, ob1, ob2, if_true, Option.bind_some]
  generalize nI (6 * t + 6) = i
  by_cases c0 : k = 0
  · rw [if_pos c0]
    exact br_mut (e_make w x1 x2 x3) ob2
  rw [if_neg c0]
  by_cases c1 : k = 1
  · rw [if_pos c1]
    exact br_mut (e_caseOf w x1 x2) ob2
  rw [if_neg c1]
  by_cases c2 : k = 2
  · rw [if_pos c2]
    exact br_mut (e_putIn w x1 x2 x3) ob2
  rw [if_neg c2]
  by_cases c3 : k = 3
  · rw [if_pos c3]
    exact br_mut (e_takeOut w x1 x2) ob2
  rw [if_neg c3]
  by_cases c4 : k = 4
  · rw [if_pos c4]
    exact br_ro wx (e_placed w x1 x2)
  rw [if_neg c4]
  by_cases c5 : k = 5
  · rw [if_pos c5]
    exact br_ro wx (e_told w x1 x2)
  rw [if_neg c5]
  by_cases c6 : k = 6
  · rw [if_pos c6]
    exact br_ro wx (e_below w.1 x1 x2)
  rw [if_neg c6]
  by_cases c7 : k = 7
  · rw [if_pos c7]
    exact br_ro wx (e_steps w.1 x1 x2)
  rw [if_neg c7]
  by_cases c8 : k = 8
  · rw [if_pos c8]
    exact br_ro wx (e_common w.1 x1 x2)
  rw [if_neg c8]
  by_cases c9 : k = 9
  · rw [if_pos c9]
    exact br_ro wx (e_ctrait w.1 x1 x2 x3)
  rw [if_neg c9]
  by_cases c10 : k = 10
  · rw [if_pos c10]
    exact br_mut (e_rule w x1 x2 x3) ob2
  rw [if_neg c10]
  by_cases c11 : k = 11
  · rw [if_pos c11]
    exact br_mut (e_unrule w x1 x2) ob2
  rw [if_neg c11]
  by_cases c12 : k = 12
  · rw [if_pos c12]
    exact br_ro wx (e_asks w x1 x2)
  rw [if_neg c12]
  by_cases c13 : k = 13
  · rw [if_pos c13]
    exact br_ro wx (e_nearest w x1 x2 x3)
  rw [if_neg c13]
  by_cases c14 : k = 14
  · rw [if_pos c14]
    exact br_mut (e_lend w x1 x2 x3) ob2
  rw [if_neg c14]
  by_cases c15 : k = 15
  · rw [if_pos c15]
    exact br_mut (e_giveBack w x1 x2) ob2
  rw [if_neg c15]
  by_cases c16 : k = 16
  · rw [if_pos c16]
    exact br_ro wx (e_overdue w x1)
  rw [if_neg c16]
  by_cases c17 : k = 17
  · rw [if_pos c17]
    exact br_ro wx (e_lateOne w x1 x2)
  rw [if_neg c17]
  by_cases c18 : k = 18
  · rw [if_pos c18]
    exact br_ro wx (e_fees w x1 x2)
  rw [if_neg c18]
  by_cases c19 : k = 19
  · rw [if_pos c19]
    exact br_mut (e_question w x1 x2 x3 x4 x5) ob2
  rw [if_neg c19]
  by_cases c20 : k = 20
  · rw [if_pos c20]
    exact br_mut (e_name w x1 x2) ob2
  rw [if_neg c20]
  by_cases c21 : k = 21
  · rw [if_pos c21]
    exact br_ro wx (e_asked w)
  rw [if_neg c21]
  by_cases c22 : k = 22
  · rw [if_pos c22]
    exact br_mut (e_convert w x1 x2) ob2
  rw [if_neg c22]
  by_cases c23 : k = 23
  · rw [if_pos c23]
    exact br_ro wx (e_find w x1 x2 x3)
  rw [if_neg c23]
  by_cases c24 : k = 24
  · rw [if_pos c24]
    exact br_ro wx (e_nth w x1 x2)
  rw [if_neg c24]
  by_cases c25 : k = 25
  · rw [if_pos c25]
    exact br_mut (e_shelf w x1 x2 x3) ob2
  rw [if_neg c25]
  by_cases c26 : k = 26
  · rw [if_pos c26]
    exact br_mut (e_move w x1 x2) ob2
  rw [if_neg c26]
  by_cases c27 : k = 27
  · rw [if_pos c27]
    exact br_ro wx (e_count w x1)
  rw [if_neg c27]
  exact ⟨g, rfl, wx, by omega, by omega⟩
theorem law_pure (X : mX) (hX : X.1 ≤ 3072) : ∃ h', f_L_law X h_0 = some (1, h') ∧ h'.1 - 0 ≤ 600000 ∧ h'.2.1 - 0 ≤ 7302250 := by
  have n8 := st_n8
  have z8 := st_z8
  have hN : X.1 / 6 ≤ 512 := by omega
  obtain ⟨r, l1, g', rfl, l2, l3⟩ := m_forE (step := w_L_law_18 X h_0 h_4) (fun t st => st.1 = nI (6 * t) ∧ q_Wx st.2 ∧ st.2.1 ≤ 71 + 2 * t ∧ st.2.2.1 ≤ 100000 + 40 * t) (fun r => ∃ g', r = .inl g' ∧ g'.1 ≤ 2000 ∧ g'.2.1 ≤ 200000) (X.1 / 6) (by omega) (fun t st ht hp => by
    obtain ⟨i, g⟩ := st
    obtain ⟨p1, p2, p3, p4⟩ := hp
    dsimp only at p1 p2 p3 p4
    subst p1
    obtain ⟨g', q1, q2, q3, q4⟩ := law_step (X := X) (t := t) (by omega) hX p2
    refine ⟨_, q1, ?_, q2, ?_, ?_⟩
    · show nI (6 * t + 6) = nI (6 * (t + 1))
      rw [show 6 * (t + 1) = 6 * t + 6 by omega]
    · show g'.1 ≤ _; omega
    · show g'.2.1 ≤ _; omega) (fun st hp => by
    obtain ⟨i, g⟩ := st
    obtain ⟨p1, p2, p3, p4⟩ := hp
    dsimp only at p1 p2 p3 p4
    subst p1
    refine ⟨.inl g, ?_, g, rfl, by omega, by omega⟩
    unfold w_L_law_18
    dsimp only
    rw [if_pos (by
      show nI X.1 - nI 6 < nI (6 * (X.1 / 6))
      rw [Int32.lt_iff_toInt_lt, i_sub2 (by omega) (by omega), nI_toInt (by omega)]
      omega)]) (s0 := (0, h_8)) ⟨rfl, ⟨_, _, _, _, _, _, _, _, _, _, _, _, st_W⟩, by show h_8.1 ≤ _; omega, by show h_8.2.1 ≤ _; omega⟩
  refine ⟨g', ?_, by omega, by omega⟩
  have e : f_L_law X h_0 = ((m_newO h_0 8 [.null, .null, .null, .null, .null, .null, .int 0, .int 0]).bind (fun h1 => f_X9_init h1 0)).bind fun h4 => ((m_newO h4 9 [.null, .null, .null, .null, .null, .null, .int 0, .null, .null, .null, .null, .null, .null, .null, .null, .null, .null, .int 0, .null, .null, .null, .null, .null, .int 0, .null, .null, .null, .null, .null, .int 0]).bind (fun h5 => f_X10_init h5 h4.1)).bind fun h8 => (m_loop (w_L_law_18 X h_0 h4) 5000 (0, h8)).bind fun e491 => match e491 with | .inl x492 => some (1, x492) | .inr v494 => some v494 := by
    unfold f_L_law
    simp only [Option.bind_assoc, show h_0.1 = 0 from rfl]
    rfl
  rw [e, h4_ok]
  simp only [Option.bind_some]
  rw [st_n4, h8_ok]
  simp only [Option.bind_some]
  rw [l1]
  rfl
