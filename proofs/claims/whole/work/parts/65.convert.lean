/-! PURE PART 25: convert -/
section OPS
variable {h h' : mH} {I I' : Nat → Nat → Int32} {nS nB nO : Nat} {lo ak : Int32} {sp bx qu bl le : Nat → Nat} {own : Nat → Nat × Nat}
/-- whether a specimen of kind k must leave its shelf -/
def q_offB (I : Nat → Nat → Int32) (s : Nat) (x : Int32) : Bool := !(I 56 s == -1) && !(q_up (I 63 (q_n (I 56 s))) x)
def q_outB (I : Nat → Nat → Int32) (s : Nat) (x : Int32) : Bool := !(I 54 s == -1) && !(q_up (I 61 (q_n (I 54 s))) x)
def q_offI (I : Nat → Nat → Int32) (s : Nat) (x : Int32) : Nat → Nat → Int32 := if q_offB I s x = true then q_u I 56 s (-1) else I
def q_outI (I : Nat → Nat → Int32) (s : Nat) (x : Int32) : Nat → Nat → Int32 := if q_outB I s x = true then q_u (q_u I 54 s (-1)) 55 s (-1) else I
def q_ct (h : mH) (b : Nat) (x : Int32) : Option (Int32 × mH) := (m_gr h b 6 6).bind fun q27 => match q27 with
  | none => some ((1, h))
  | some b29 => (m_gr h b 6 6).bind fun q30 => (q30).bind fun b32 => (m_gi h b32 5 1).bind fun x34 => (f_X1_standsUnder x x34).bind fun r37 => if r37 = 0 then (f_X9_leaveShelf h ((some b))).bind fun p40 => some ((1, p40.2)) else some ((1, h))
theorem c_ct (w : q_V h I nS nB lo ak nO sp bx qu own bl le) {s : Nat} (hs : s < nS) (x : Int32) : ∃ h1, q_ct h (sp s) x = some (1, h1) ∧ q_V h1 (q_offI I s x) nS nB lo ak nO sp bx qu own bl le ∧ q_hf h h1 0 0 := by
  have w' := w
  obtain ⟨hF, hS, hN, hB, hH, hK, hR, hL, hT, hO⟩ := w
  unfold q_ct q_offI q_offB
  simp only [rS6 hS hs, Option.bind_some]
  rcases hT.2.2.2.1 s hs with e | ⟨i, hi, e⟩
  · unfold q_sr
    rw [if_pos e, e]
    exact ⟨h, rfl, w', q_hf.rf⟩
  · have ne : ¬ I 56 s = -1 := by rw [e]; exact q_nm1 (by omega)
    unfold q_sr
    rw [if_neg ne, e, q_n_nI (by omega)]
    simp only [Option.bind_some, rH1 hF hH hi, c_under, q_b0, show ((nI i == -1) = false) from by simp; exact q_nm1 (by omega), Bool.not_false, Bool.true_and]
    cases hu : q_up (I 63 i) x with
    | true => exact ⟨h, rfl, w', q_hf.rf⟩
    | false =>
      obtain ⟨h1, l1, l2, l3⟩ := s_off w' hs
      simp only [if_true, l1, Option.bind_some, Bool.not_false]
      exact ⟨h1, rfl, l2, l3⟩
def q_cu (h : mH) (a1 x : Int32) : Option (Int32 × mH) := (m_gr h 44 9 12).bind fun q52 => (q52).bind fun b54 => (m_ild h b54 a1).bind fun x56 => if x56 = ((-1)) then some ((1, h)) else (m_gr h 44 9 20).bind fun q59 => (m_gr h 44 9 12).bind fun q61 => (q61).bind fun b63 => (m_ild h b63 a1).bind fun x65 => (q59).bind fun b67 => (m_ild h b67 x65).bind fun x69 => if m_ob h 44 9 = true then (f_X10_above h 44 x69 x).bind fun r72 => if r72 = 0 then (m_gr h 44 9 12).bind fun q74 => (q74).bind fun b76 => (m_ist h b76 a1 ((-1))).bind fun h78 => some ((1, h78)) else some ((1, h)) else none
theorem d_cu (hM : q_M h I nS nB lo ak) (hn : nS ≤ 300) (hT : q_T I nS nB) {s k : Nat} (hs : s < nS) (hk : k < 24) : ∃ h1, q_cu h (nI s) (nI k) = some (1, h1) ∧ q_M h1 (q_offI I s (nI k)) nS nB lo ak ∧ q_fr h h1 := by
  unfold q_cu q_offI q_offB
  simp only [rM12 hM, rM20 hM, Option.bind_some]
  rw [rI hM (a := 56) (by decide) (by decide) (show s < 300 by omega)]
  simp only [Option.bind_some]
  rcases hT.2.2.2.1 s hs with e | ⟨i, hi, e⟩
  · rw [if_pos e, e]
    exact ⟨h, rfl, hM, q_fr.rf⟩
  · have ne : ¬ I 56 s = -1 := by rw [e]; exact q_nm1 (by omega)
    obtain ⟨k2, hk2, ek2⟩ := hT.2.2.2.2.2.2.1 i hi
    rw [if_neg ne, e, rI hM (a := 63) (by decide) (by decide) hi]
    simp only [Option.bind_some, oM hM, if_true]
    rw [d_above hM (by rw [ek2]; exact q_kc hk2) (q_kc hk), q_n_nI (by omega)]
    simp only [Option.bind_some, q_b0, show ((nI i == -1) = false) from by simp; exact q_nm1 (by omega), Bool.not_false, Bool.true_and]
    cases hu : q_up (I 63 i) (nI k) with
    | true => exact ⟨h, rfl, hM, q_fr.rf⟩
    | false =>
      obtain ⟨g2, i1, i2, i3⟩ := wI hM (a := 56) (j := s) (-1) (by decide) (by decide) (show s < 300 by omega)
      simp only [if_true, i1, Option.bind_some, Bool.not_false]
      exact ⟨g2, rfl, i2, i3⟩
theorem d_abs (hM : q_M h I nS nB lo ak) {k : Nat} (hk : k < 24) : f_X10_isAbstract h 44 (nI k) = some (q_b (n_ab k)) := by
  rw [d_ab0 hM]
  exact d_abC k hk
def t_mtB (a b : Nat) : Nat → Bool
  | 0 => false
  | j + 1 => t_mtB a b j || (t_up (41 + j) a && t_up (41 + j) b)
theorem t_mt8 (a b : Nat) : t_mtB a b 8 = t_mt a b := by
  unfold t_mt
  simp only [t_mtB, List.any_cons, List.any_nil, Bool.or_false, Bool.false_or, Bool.or_assoc, Nat.add_zero]
theorem d_turn (hM : q_M h I nS nB lo ak) (hn : nS ≤ 300) {s k k2 : Nat} (hs : s < nS) (hk : k < 24) (ek : I 51 s = nI k) (hk2 : k2 < 24) : m_loop (w_X10_convert_51 h 44 (nI s) (nI k2)) 5000 (0, 41) = some (q_b (t_mt k k2)) := by
  have hl := m_for (step := w_X10_convert_51 h 44 (nI s) (nI k2)) (fun j => (q_b (t_mtB k k2 j), nI (41 + j))) (q_b (t_mtB k k2 8)) 8 (by decide) (fun j hj => by
    unfold w_X10_convert_51
    dsimp only
    rw [if_neg (by rw [show (49 : Int32) = nI 49 from rfl, n_le (by omega) (by omega)]; omega), rM7 hM]
    simp only [Option.bind_some]
    rw [rI hM (a := 51) (by decide) (by decide) (show s < 300 by omega), ek]
    simp only [Option.bind_some, oM hM, if_true]
    rw [d_sharedN hM hk hk2 (show 41 + j < 49 by omega) (by unfold n_t; simp; omega)]
    simp only [Option.bind_some, q_b0, nI_1]
    show _ = some (Sum.inl (q_b (t_mtB k k2 j || (t_up (41 + j) k && t_up (41 + j) k2)), nI (41 + j + 1)))
    cases t_mtB k k2 j with
    | true => rfl
    | false =>
      cases (t_up (41 + j) k && t_up (41 + j) k2) <;> rfl) (by
    unfold w_X10_convert_51
    dsimp only
    rw [if_pos (by decide)])
  rw [show ((0 : Int32), (41 : Int32)) = (fun j => (q_b (t_mtB k k2 j), nI (41 + j))) 0 from rfl, hl, t_mt8]
theorem q_outI_rows {s : Nat} {x : Int32} {a : Nat} (h1 : a ≠ 54) (h2 : a ≠ 55) : q_outI I s x a = I a := by
  unfold q_outI
  split
  · rw [uR h2, uR h1]
  · rfl
theorem e_convert (w : q_W h I nS nB lo ak nO sp bx qu own bl le) (x y : Int32) : q_both h (f_X9_convert h 0 x y) (fun h1 => f_X10_convert h1 44 x y) := by
  have w' := w
  obtain ⟨hM, hV⟩ := w
  have hV' := hV
  obtain ⟨hF, hS, hN, hB, hH, hK, hR, hL, hT, hO⟩ := hV
  have n3 := hF.2.2.2.2.2.2.2.1
  have n4 := hF.2.2.2.2.2.2.2.2.1
  cases hx : q_r x nS with
  | false =>
    refine q_both.no w' 0 ?_ ?_
    · unfold f_X9_convert
      simp only [rF00 hF, Option.bind_some, oF1 hF, if_true, c_at hF hN, hx]
      rfl
    · show f_X10_convert h 44 x y = _
      unfold f_X10_convert
      rw [if_pos (oM hM), d_isSpec hM n3, hx]
      rfl
  | true =>
    obtain ⟨s, hs, rfl⟩ := q_rE hx
    obtain ⟨k, hk, ek⟩ := hT.1 s hs
    have hh : f_X9_convert h 0 (nI s) y = (if q_lent I s = false then (if q_con y = false then some ((0 : Int32), h) else if y = I 51 s then some (0, h) else (f_X1_mayTurnInto (I 51 s) y).bind fun r20 => if r20 = 0 then some (0, h) else (m_pf h (sp s) 6 3 (.int y)).bind fun h22 => (m_gr h22 (sp s) 6 4).bind fun q24 => match q24 with | none => q_ct h22 (sp s) y | some b26 => (m_gr h22 (sp s) 6 4).bind fun q41 => (q41).bind fun b43 => (m_gi h22 b43 0 1).bind fun x45 => (f_X1_standsUnder y x45).bind fun r48 => if r48 = 0 then (f_X9_leavePlace h22 (some (sp s))).bind fun h65 => q_ct h65 (sp s) y else q_ct h22 (sp s) y) else some (0, h)) := by
      unfold f_X9_convert
      simp only [rF00 hF, Option.bind_some, oF1 hF, if_true, c_at hF hN, hx, oS hS hs, c_isLent hS hs, q_b0, c_con, rS3 hS hs, q_n_nI (show s < 2147483648 by omega)]
      rfl
    have hm : ∀ g : mH, q_M g I nS nB lo ak → f_X10_convert g 44 (nI s) y = (if q_con y = false then some ((0 : Int32), g) else if I 51 s = y then some (0, g) else if I 57 s = -1 then (m_loop (w_X10_convert_51 g 44 (nI s) y) 5000 (0, 41)).bind fun e37 => if e37 = 0 then some (0, g) else (m_ist g 51 (nI s) y).bind fun h43 => (m_gr h43 44 9 10).bind fun q45 => (q45).bind fun b47 => (m_ild h43 b47 (nI s)).bind fun x49 => if x49 = -1 then q_cu h43 (nI s) y else (m_gr h43 44 9 18).bind fun q81 => (m_gr h43 44 9 10).bind fun q83 => (q83).bind fun b85 => (m_ild h43 b85 (nI s)).bind fun x87 => (q81).bind fun b89 => (m_ild h43 b89 x87).bind fun x91 => if m_ob h43 44 9 = true then (f_X10_above h43 44 x91 y).bind fun r94 => if r94 = 0 then (m_gr h43 44 9 10).bind fun q125 => (q125).bind fun b127 => (m_ist h43 b127 (nI s) (-1)).bind fun h129 => (m_gr h129 44 9 11).bind fun q131 => (q131).bind fun b133 => (m_ist h129 b133 (nI s) (-1)).bind fun h135 => q_cu h135 (nI s) y else q_cu h43 (nI s) y else none else some (0, g)) := by
      intro g hg
      unfold f_X10_convert q_con
      rw [if_pos (oM hg), d_isSpec hg n3, hx, d_isKind]
      simp only [Option.bind_some, q_b0, Bool.true_eq_false, if_false]
      cases hy : q_k y with
      | false => rfl
      | true =>
        obtain ⟨k2, hk2, rfl⟩ := q_kE hy
        rw [if_pos (oM hg), d_abs hg hk2, q_n_nI (by omega)]
        simp only [Option.bind_some, q_b0, Bool.true_eq_false, if_false, rM7 hg, rM13 hg, rM10 hg]
        rw [rI hg (a := 51) (by decide) (by decide) (show s < 300 by omega), rI hg (a := 57) (by decide) (by decide) (show s < 300 by omega)]
        simp only [Option.bind_some]
        cases n_ab k2 <;> rfl
    have e2 : ∀ t, I 57 t = -1 ↔ q_lent I t = false := fun t => by
      constructor
      · intro z
        cases hl : q_lent I t with
        | false => rfl
        | true => exact absurd z (q_lentT.mp hl)
      · exact q_lentF
    have no : ∀ z : Bool, (q_con y = false ∨ I 51 s = y ∨ q_lent I s = true) → f_X10_convert h 44 (nI s) y = some (0, h) := by
      intro _ hc
      rw [hm h hM]
      by_cases c1 : q_con y = false
      · rw [if_pos c1]
      · rw [if_neg c1]
        by_cases c2 : I 51 s = y
        · rw [if_pos c2]
        · rw [if_neg c2]
          rcases hc with c | c | c
          · exact absurd c c1
          · exact absurd c c2
          · rw [if_neg (q_lentT.mp c)]
    cases hl : q_lent I s with
    | true =>
      rw [hl] at hh
      exact q_both.no w' 0 hh (no true (Or.inr (Or.inr hl)))
    | false =>
      rw [hl, if_pos rfl] at hh
      cases hc : q_con y with
      | false =>
        rw [hc] at hh
        exact q_both.no w' 0 hh (no true (Or.inl hc))
      | true =>
        rw [hc, if_neg (by simp)] at hh
        have hky : q_k y = true := by unfold q_con at hc; rw [Bool.and_eq_true] at hc; exact hc.1
        obtain ⟨k2, hk2, rfl⟩ := q_kE hky
        by_cases ce : nI k2 = I 51 s
        · rw [if_pos ce] at hh
          exact q_both.no w' 0 hh (no true (Or.inr (Or.inl ce.symm)))
        · rw [if_neg ce, ek, c_mt k hk k2 hk2] at hh
          simp only [Option.bind_some, q_b0] at hh
          have hm2 : ∀ g : mH, q_M g I nS nB lo ak → f_X10_convert g 44 (nI s) (nI k2) = _ := fun g hg => by
            rw [hm g hg, hc, if_neg (by simp), if_neg (fun z => ce z.symm), if_pos ((e2 s).mpr hl), d_turn hg n3 hs hk ek hk2]
          cases ht : t_mt k k2 with
          | false =>
            rw [ht] at hh
            refine q_both.no w' 0 hh ?_
            show f_X10_convert h 44 (nI s) (nI k2) = _
            rw [hm2 h hM, ht]
            rfl
          | true =>
            rw [ht, if_neg (by simp)] at hh
            obtain ⟨h1, l1, l2, l3⟩ := s_kind hV' hs hk2
            rw [l1] at hh
            simp only [Option.bind_some] at hh
            generalize hI1 : q_u I 51 s (nI k2) = I1 at l2
            have w2 := l2
            obtain ⟨hF1, hS1, hN1, hB1, hH1, hK1, hR1, hL1, hT1, hO1⟩ := l2
            -- the place
            have hpl : ∃ h2, f_X9_convert h 0 (nI s) (nI k2) = q_ct h2 (sp s) (nI k2) ∧ q_V h2 (q_outI I1 s (nI k2)) nS nB lo ak nO sp bx qu own bl le ∧ q_hf h h2 0 0 := by
              simp only [rS4 hS1 hs, Option.bind_some] at hh
              unfold q_outI q_outB
              rcases hT1.2.2.1 s hs with ⟨e, -⟩ | ⟨j, p, hj, hp, e1, e2'⟩
              · unfold q_br at hh
                rw [if_pos e] at hh
                rw [e]
                exact ⟨h1, hh, w2, l3⟩
              · have ne : ¬ I1 54 s = -1 := by rw [e1]; exact q_nm1 (by omega)
                unfold q_br at hh
                rw [if_neg ne, e1, q_n_nI (by omega)] at hh
                simp only [Option.bind_some, rB1 hB1 hj, c_under, q_b0] at hh
                rw [e1, q_n_nI (by omega)]
                simp only [show ((nI j == -1) = false) from by simp; exact q_nm1 (by omega), Bool.not_false, Bool.true_and]
                cases hu : q_up (I1 61 j) (nI k2) with
                | true =>
                  rw [hu, if_neg (by simp)] at hh
                  exact ⟨h1, hh, w2, l3⟩
                | false =>
                  obtain ⟨h2, m1, m2, m3⟩ := s_leave w2 hs
                  rw [if_neg ne] at m2
                  rw [hu, if_pos rfl, m1] at hh
                  exact ⟨h2, hh, m2, l3.tr m3⟩
            obtain ⟨h2, p1, p2, p3⟩ := hpl
            obtain ⟨h3, q1, q2, q3⟩ := c_ct p2 hs (nI k2)
            have l4 := p3.tr q3
            have hM1 : q_M h3 I nS nB lo ak := fM hM l4.1 l4.2.2.2
            obtain ⟨g1, i1, i2, i3⟩ := wI hM1 (a := 51) (j := s) (nI k2) (by decide) (by decide) (show s < 300 by omega)
            rw [hI1] at i2
            have hmp : ∃ g2, f_X10_convert h3 44 (nI s) (nI k2) = q_cu g2 (nI s) (nI k2) ∧ q_M g2 (q_outI I1 s (nI k2)) nS nB lo ak ∧ q_fr g1 g2 := by
              have hm3 := hm2 h3 hM1
              rw [ht] at hm3
              simp only [Option.bind_some, q_b0, Bool.true_eq_false, if_false] at hm3
              rw [i1] at hm3
              simp only [Option.bind_some] at hm3
              rw [rM10 i2, rM18 i2] at hm3
              simp only [Option.bind_some] at hm3
              rw [rI i2 (a := 54) (by decide) (by decide) (show s < 300 by omega)] at hm3
              simp only [Option.bind_some] at hm3
              unfold q_outI q_outB
              rcases hT1.2.2.1 s hs with ⟨e, -⟩ | ⟨j, p, hj, hp, e1, e2'⟩
              · rw [if_pos e] at hm3
                rw [e]
                exact ⟨g1, hm3, i2, q_fr.rf⟩
              · have ne : ¬ I1 54 s = -1 := by rw [e1]; exact q_nm1 (by omega)
                obtain ⟨⟨k3, hk3, ek3⟩, -⟩ := hT1.2.2.2.2.2.1 j hj
                rw [if_neg ne, e1, rI i2 (a := 61) (by decide) (by decide) (show j < 40 by omega)] at hm3
                simp only [Option.bind_some, oM i2, if_true] at hm3
                rw [d_above i2 (by rw [ek3]; exact q_kc hk3) (q_kc hk2)] at hm3
                simp only [Option.bind_some, q_b0] at hm3
                rw [e1, q_n_nI (by omega)]
                simp only [show ((nI j == -1) = false) from by simp; exact q_nm1 (by omega), Bool.not_false, Bool.true_and]
                cases hu : q_up (I1 61 j) (nI k2) with
                | true =>
                  rw [hu, if_neg (by simp)] at hm3
                  exact ⟨g1, hm3, i2, q_fr.rf⟩
                | false =>
                  obtain ⟨g2, j1, j2, j3⟩ := wI i2 (a := 54) (j := s) (-1) (by decide) (by decide) (show s < 300 by omega)
                  obtain ⟨g3, o1, o2, o3⟩ := wI j2 (a := 55) (j := s) (-1) (by decide) (by decide) (show s < 300 by omega)
                  rw [hu, if_pos rfl, j1] at hm3
                  simp only [Option.bind_some] at hm3
                  rw [rM11 j2] at hm3
                  simp only [Option.bind_some] at hm3
                  rw [o1] at hm3
                  exact ⟨g3, hm3, o2, j3.tr o3⟩
            obtain ⟨g2, r1, r2, r3⟩ := hmp
            obtain ⟨g3, u1, u2, u3⟩ := d_cu r2 n3 p2.2.2.2.2.2.2.2.2.1 hs hk2
            refine q_both.yes q2 (q_hf_le l4 (by omega) (by omega)) u2 ((i3.tr r3).tr u3) 1 (p1.trans q1) ?_
            show f_X10_convert h3 44 (nI s) (nI k2) = _
            exact r1.trans u1
end OPS
