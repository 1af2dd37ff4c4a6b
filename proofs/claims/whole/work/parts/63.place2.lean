/-! PURE PART 23: takeOut, putIn, move, shelf -/
section OPS
variable {h h' : mH} {I I' : Nat → Nat → Int32} {nS nB nO : Nat} {lo ak : Int32} {sp bx qu bl le : Nat → Nat} {own : Nat → Nat × Nat}
theorem c_isLent (hS : q_S h I nS sp bx) {s : Nat} (hs : s < nS) : f_X7_isLent h (sp s) = some (q_b (q_lent I s)) := by
  unfold f_X7_isLent q_lent
  rw [rS7 hS hs]
  simp only [Option.bind_some]
  by_cases e : I 57 s = -1
  · simp [e, q_b]
  · simp [e, q_b]
theorem q_lentF {s : Nat} (h : q_lent I s = false) : I 57 s = -1 := Classical.byContradiction fun z => by rw [q_lentT.mpr z] at h; cases h
theorem e_takeOut (w : q_W h I nS nB lo ak nO sp bx qu own bl le) (x y : Int32) : q_both h (f_X9_takeOut h 0 x y) (fun h1 => f_X10_takeOut h1 44 x y) := by
  have w' := w
  have hsi := c_specIn w x y
  obtain ⟨hM, hV⟩ := w
  have hV' := hV
  obtain ⟨hF, hS, hN, hB, hH, hK, hR, hL, hT, hO⟩ := hV
  have n3 := hF.2.2.2.2.2.2.2.1
  have n4 := hF.2.2.2.2.2.2.2.2.1
  have hh : f_X9_takeOut h 0 x y = (if q_pr I nB x y = true then (q_who I nS (q_n x) (q_n y)).map sp else none).elim (some (-1, h)) (fun b3 => if m_ob h b3 6 = true then (f_X7_isLent h b3).bind fun r5 => if r5 = 0 then (f_X9_leavePlace h (some b3)).bind fun h8 => (m_gi h8 b3 6 0).bind fun x9 => some (x9, h8) else some (-1, h) else none) := by
    unfold f_X9_takeOut
    rw [if_pos (oF0 hF), hsi]
    simp only [Option.bind_some]
    cases (if q_pr I nB x y = true then (q_who I nS (q_n x) (q_n y)).map sp else none) <;> rfl
  have no : q_pv I nS nB x y = -1 → f_X10_takeOut h 44 x y = some (-1, h) := fun e => by
    unfold f_X10_takeOut
    rw [if_pos (oM hM), d_placed hM n4 n3 hT, e]
    rfl
  cases hp : q_pr I nB x y with
  | false =>
    rw [hp] at hh
    exact q_both.no w' (-1) hh (no (by unfold q_pv; rw [hp]; rfl))
  | true =>
    cases hw : q_who I nS (q_n x) (q_n y) with
    | none =>
      rw [hp, hw] at hh
      exact q_both.no w' (-1) hh (no (by unfold q_pv; rw [hp, hw]; rfl))
    | some s =>
      obtain ⟨s1, s2, s3⟩ := q_who_some hw
      have hpv : q_pv I nS nB x y = nI s := by unfold q_pv; rw [hp, hw]; rfl
      rw [hp, hw] at hh
      simp only [if_true, Option.map_some, Option.elim_some, oS hS s1, c_isLent hS s1, Option.bind_some, q_b0] at hh
      cases hl : q_lent I s with
      | true =>
        refine q_both.no w' (-1) (by rw [hh, hl]; rfl) ?_
        unfold f_X10_takeOut
        rw [if_pos (oM hM), d_placed hM n4 n3 hT, hpv]
        simp only [Option.bind_some]
        rw [if_neg (q_nm1 (by omega)), rM13 hM]
        simp only [Option.bind_some]
        rw [rI hM (a := 57) (by decide) (by decide) (show s < 300 by omega)]
        simp only [Option.bind_some]
        rw [if_neg (q_lentT.mp hl)]
      | false =>
        obtain ⟨h1, l1, l2, l3⟩ := s_leave hV' s1
        have hnb : q_n x < nB := by
          unfold q_pr at hp
          rw [Bool.and_eq_true] at hp
          obtain ⟨j, hj, rfl⟩ := q_rE hp.1
          rw [q_n_nI (by omega)]
          exact hj
        rw [if_neg (show ¬ I 54 s = -1 by rw [s2]; exact q_nm1 (by omega))] at l2
        have r0 : m_gi h1 (sp s) 6 0 = some (nI s) := rS0 l2.2.1 s1
        rw [hl, if_pos rfl, l1] at hh
        simp only [Option.bind_some] at hh
        rw [r0] at hh
        simp only [Option.bind_some] at hh
        have hM1 : q_M h1 I nS nB lo ak := fM hM l3.1 l3.2.2.2
        obtain ⟨h2, i1, i2, i3⟩ := wI hM1 (a := 54) (j := s) (-1) (by decide) (by decide) (show s < 300 by omega)
        obtain ⟨h3, j1, j2, j3⟩ := wI i2 (a := 55) (j := s) (-1) (by decide) (by decide) (show s < 300 by omega)
        refine q_both.yes l2 (q_hf_le l3 (by omega) (by omega)) j2 (i3.tr j3) (nI s) hh ?_
        show f_X10_takeOut h1 44 x y = _
        unfold f_X10_takeOut
        rw [if_pos (oM hM1), d_placed hM1 n4 n3 hT, hpv]
        simp only [Option.bind_some]
        rw [if_neg (q_nm1 (by omega)), rM13 hM1]
        simp only [Option.bind_some]
        rw [rI hM1 (a := 57) (by decide) (by decide) (show s < 300 by omega)]
        simp only [Option.bind_some]
        rw [if_pos (q_lentF hl), rM10 hM1]
        simp only [Option.bind_some]
        rw [i1]
        simp only [Option.bind_some]
        rw [rM11 i2]
        simp only [Option.bind_some]
        rw [j1]
        rfl
theorem c_isFree (hB : q_B h I nS nB sp bx) (hT : q_T I nS nB) {j : Nat} (hj : j < nB) (y : Int32) : f_X0_isFree h (bx j) y = some (q_b (q_r y (q_n (I 62 j)) && (q_who I nS j (q_n y)).isNone)) := by
  obtain ⟨b1, b2, b3, f, b4, b5⟩ := hB j hj
  obtain ⟨-, z, z1, z2, z3⟩ := hT.2.2.2.2.2.1 j hj
  unfold f_X0_isFree
  rw [if_pos (oB hB hj), c_hasPlace hB hT hj, rB2 hB hj]
  simp only [Option.bind_some, q_b0]
  cases hp : q_r y (q_n (I 62 j)) with
  | false => rfl
  | true =>
    obtain ⟨p, hp2, rfl⟩ := q_rE hp
    have : q_n (I 62 j) ≤ 20 := by rw [z3, q_n_nI (by omega)]; exact z2
    rw [if_neg (by simp), g_al b2 b4 (by decide) hp2 (by omega), b5 p hp2, q_n_nI (by omega)]
    simp only [Option.bind_some]
    cases q_who I nS j p <;> rfl
theorem e_putIn (w : q_W h I nS nB lo ak nO sp bx qu own bl le) (x y z : Int32) : q_both h (f_X9_putIn h 0 x y z) (fun h1 => f_X10_putIn h1 44 x y z) := by
  have w' := w
  obtain ⟨hM, hV⟩ := w
  have hV' := hV
  obtain ⟨hF, hS, hN, hB, hH, hK, hR, hL, hT, hO⟩ := hV
  have n3 := hF.2.2.2.2.2.2.2.1
  have n4 := hF.2.2.2.2.2.2.2.2.1
  have hh : f_X9_putIn h 0 x y z = (match (if q_r x nB = true then some (bx (q_n x)) else none : Option Nat), (if q_r z nS = true then some (sp (q_n z)) else none : Option Nat) with | some b9, some b10 => (if m_ob h b9 0 = true then (f_X0_isFree h b9 y).bind fun r12 => if r12 = 0 then some (-1, h) else if m_ob h b10 6 = true then (f_X7_isLent h b10).bind fun r15 => if r15 = 0 then (m_gi h b10 6 3).bind fun x17 => (m_gi h b9 0 1).bind fun x19 => (f_X1_standsUnder x17 x19).bind fun r22 => if r22 = 0 then some (-2, h) else (f_X9_leavePlace h (some b10)).bind fun h25 => if m_ob h25 b9 0 = true then (f_X0_set h25 b9 y (some b10)).bind fun h27 => (m_pf h27 b10 6 4 (va_rf (some b9))).bind fun h28 => (m_pf h28 b10 6 5 (.int y)).bind fun h30 => some (1, h30) else none else some (-1, h) else none else none) | _, _ => some (-1, h)) := by
    unfold f_X9_putIn
    rw [if_pos (oF0 hF), c_boxAt hF hN, rF00 hF]
    simp only [Option.bind_some, oF1 hF, if_true, c_at hF hN]
    cases (if q_r x nB = true then some (bx (q_n x)) else none : Option Nat) with
    | none => rfl
    | some b =>
      cases (if q_r z nS = true then some (sp (q_n z)) else none : Option Nat) <;> rfl
  have no1 : q_pr I nB x y = false → f_X10_putIn h 44 x y z = some (-1, h) := fun e => by
    unfold f_X10_putIn
    rw [if_pos (oM hM), d_isPlace hM n4 hT, e]
    rfl
  have no2 : q_r z nS = false → f_X10_putIn h 44 x y z = some (-1, h) := fun e => by
    unfold f_X10_putIn
    rw [if_pos (oM hM), d_isPlace hM n4 hT, if_pos (oM hM), d_isSpec hM n3, e]
    simp only [Option.bind_some]
    cases q_pr I nB x y <;> rfl
  cases hx : q_r x nB with
  | false =>
    rw [hx] at hh
    exact q_both.no w' (-1) hh (no1 (by unfold q_pr; rw [hx]; rfl))
  | true =>
    cases hz : q_r z nS with
    | false =>
      rw [hx, hz] at hh
      exact q_both.no w' (-1) hh (no2 hz)
    | true =>
      rw [hx, hz] at hh
      obtain ⟨j, hj, rfl⟩ := q_rE hx
      obtain ⟨s, hs, rfl⟩ := q_rE hz
      rw [q_n_nI (by omega), q_n_nI (by omega)] at hh
      simp only [if_true, oB hB hj, c_isFree hB hT hj, Option.bind_some, q_b0, oS hS hs, c_isLent hS hs, rS3 hS hs, rB1 hB hj, c_under] at hh
      cases hy : q_r y (q_n (I 62 j)) with
      | false =>
        rw [hy] at hh
        exact q_both.no w' (-1) hh (no1 (by unfold q_pr; rw [hx, q_n_nI (by omega), hy]; rfl))
      | true =>
        obtain ⟨p, hp, rfl⟩ := q_rE hy
        obtain ⟨⟨k, hk, ek⟩, zz, z1, z2, z3⟩ := hT.2.2.2.2.2.1 j hj
        have hzz : q_n (I 62 j) = zz := by rw [z3, q_n_nI (by omega)]
        have hp20 : p < 20 := by omega
        have hpr : q_pr I nB (nI j) (nI p) = true := by unfold q_pr; rw [hx, q_n_nI (by omega), hy]; rfl
        rw [hy, q_n_nI (by omega)] at hh
        -- the reference, up to its writes
        have hm : ∀ g : mH, q_M g I nS nB lo ak → f_X10_putIn g 44 (nI j) (nI p) (nI s) = (if (q_who I nS j p).isNone = true then (if q_lent I s = false then (if q_up (I 61 j) (I 51 s) = false then some (-2, g) else (m_ist g 54 (nI s) (nI j)).bind fun h36 => (m_gr h36 44 9 11).bind fun q38 => q38.bind fun b40 => (m_ist h36 b40 (nI s) (nI p)).bind fun h42 => some (1, h42)) else some (-1, g)) else some (-1, g)) := by
          intro g hg
          obtain ⟨k', hk', ek'⟩ := hT.1 s hs
          unfold f_X10_putIn
          rw [if_pos (oM hg), d_isPlace hg n4 hT, if_pos (oM hg), d_isSpec hg n3, if_pos (oM hg), d_placed hg n4 n3 hT, hpr, hz]
          simp only [Option.bind_some, q_b0, Bool.true_eq_false, if_false, rM13 hg, rM18 hg, rM7 hg, rM10 hg]
          rw [rI hg (a := 57) (by decide) (by decide) (show s < 300 by omega), rI hg (a := 61) (by decide) (by decide) (show j < 40 by omega), rI hg (a := 51) (by decide) (by decide) (show s < 300 by omega)]
          simp only [Option.bind_some, oM hg, if_true]
          rw [d_above hg (by rw [ek]; exact q_kc hk) (by rw [ek']; exact q_kc hk')]
          simp only [Option.bind_some, q_b0]
          have e1 : q_pv I nS nB (nI j) (nI p) = -1 ↔ (q_who I nS j p).isNone = true := by
            unfold q_pv
            rw [hpr, q_n_nI (by omega), q_n_nI (by omega)]
            cases hw : q_who I nS j p with
            | none => simp
            | some t =>
              have := (q_who_some hw).1
              simp [q_nm1 (show t < 2147483648 by omega)]
          have e2 : I 57 s = -1 ↔ q_lent I s = false := by
            constructor
            · intro z
              cases hl : q_lent I s with
              | false => rfl
              | true => exact absurd z (q_lentT.mp hl)
            · exact q_lentF
          simp only [e1, e2]
        cases hw : q_who I nS j p with
        | some t =>
          rw [hw] at hh
          refine q_both.no w' (-1) hh ?_
          rw [hm h hM, hw]
          rfl
        | none =>
          rw [hw] at hh
          simp only [Option.isNone_none, Bool.and_true, Bool.true_eq_false, if_false] at hh
          cases hl : q_lent I s with
          | true =>
            rw [hl] at hh
            refine q_both.no w' (-1) hh ?_
            rw [hm h hM, hw, hl]
            rfl
          | false =>
            rw [hl] at hh
            simp only [if_true] at hh
            cases hu : q_up (I 61 j) (I 51 s) with
            | false =>
              rw [hu] at hh
              refine q_both.no w' (-2) hh ?_
              rw [hm h hM, hw, hl, hu]
              rfl
            | true =>
              rw [hu] at hh
              simp only [Bool.true_eq_false, if_false] at hh
              obtain ⟨h1, l1, l2, l3⟩ := s_leave hV' hs
              -- after leaving: not in any place
              have hI1 : ∃ J, (if I 54 s = -1 then I else q_u (q_u I 54 s (-1)) 55 s (-1)) = J ∧ J 54 s = -1 ∧ J 62 = I 62 ∧ q_who J nS j p = none ∧ q_u (q_u J 54 s (nI j)) 55 s (nI p) = q_u (q_u I 54 s (nI j)) 55 s (nI p) := by
                by_cases e : I 54 s = -1
                · exact ⟨I, by rw [if_pos e], e, rfl, hw, rfl⟩
                · refine ⟨q_u (q_u I 54 s (-1)) 55 s (-1), by rw [if_neg e], by rw [uR (by decide), uE], by rw [uR (by decide), uR (by decide)], ?_, ?_⟩
                  · rcases hT.2.2.1 s hs with ⟨e', -⟩ | ⟨j0, p0, hj0, hp0, e1, e2⟩
                    · exact absurd e' e
                    · obtain ⟨-, z0, z01, z02, z03⟩ := hT.2.2.2.2.2.1 j0 hj0
                      rw [z03, q_n_nI (by omega)] at hp0
                      rw [q_who_out hT hs e1 e2 n4 hj0 j p hj (by omega) (by omega), hw]
                      split <;> rfl
                  · funext a t
                    unfold q_u
                    by_cases c1 : a = 55 ∧ t = s
                    · simp [c1]
                    · by_cases c2 : a = 54 ∧ t = s
                      · simp [c2]
                      · simp [c1, c2]
              obtain ⟨J, J1, J2, J3, J4, J5⟩ := hI1
              rw [J1] at l2
              obtain ⟨h2, h3, h4, m1, m2, m3, m4, m5⟩ := s_enter l2 hs hj (by rw [J3]; exact hp) J2 J4
              rw [J5] at m4
              rw [l1] at hh
              simp only [Option.bind_some] at hh
              rw [if_pos (oB l2.2.2.2.1 hj), m1] at hh
              simp only [Option.bind_some] at hh
              rw [m2] at hh
              simp only [Option.bind_some] at hh
              rw [m3] at hh
              simp only [Option.bind_some] at hh
              have l4 := l3.tr m5
              have hM1 : q_M h4 I nS nB lo ak := fM hM l4.1 l4.2.2.2
              obtain ⟨g2, i1, i2, i3⟩ := wI hM1 (a := 54) (j := s) (nI j) (by decide) (by decide) (show s < 300 by omega)
              obtain ⟨g3, j1, j2, j3⟩ := wI i2 (a := 55) (j := s) (nI p) (by decide) (by decide) (show s < 300 by omega)
              refine q_both.yes m4 (q_hf_le l4 (by omega) (by omega)) j2 (i3.tr j3) 1 hh ?_
              show f_X10_putIn h4 44 (nI j) (nI p) (nI s) = _
              rw [hm h4 hM1, hw, hl, hu]
              simp only [Option.isNone_none, if_true, Bool.true_eq_false, if_false]
              rw [i1]
              simp only [Option.bind_some]
              rw [rM11 i2]
              simp only [Option.bind_some]
              rw [j1]
              rfl
end OPS
