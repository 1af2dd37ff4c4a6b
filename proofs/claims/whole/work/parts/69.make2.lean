/-! PURE PART 29: make -/
theorem c_isMeas (x : Int32) : f_X7_isMeasure x = some (q_b (q_dy x)) := by
  unfold f_X7_isMeasure q_dy q_b
  simp only [Int32.lt_iff_toInt_lt, show (0 : Int32).toInt = 0 from rfl, show (100000 : Int32).toInt = 100000 from rfl]
  repeat' split
  all_goals first | rfl | (simp_all; try omega)
theorem g_pw {A : mH} {a ci k : Nat} {fs : List Value} (v : Value) (ha : a < A.1) (hk : k < fs.length) : m_pf (q_wr A a (.inr (ci, fs))) a ci k v = some (q_wr A a (.inr (ci, fs.set k v))) := by
  have := g_p (h := q_wr A a (.inr (ci, fs))) (k := k) v ha wrE hk
  rw [this]
  show some (q_wr (q_wr A a (.inr (ci, fs))) a (.inr (ci, fs.set k v))) = _
  rw [wr_wr]
theorem i_dec {i : Nat} (hi : i ≠ 0) : nI i - 1 = nI (i - 1) ∧ nI i + (-1) = nI (i - 1) := by
  obtain ⟨j, rfl⟩ : ∃ j, i = j + 1 := ⟨i - 1, by omega⟩
  rw [Nat.add_sub_cancel, nI_pred]
  refine ⟨rfl, ?_⟩
  rw [← nI_pred j, Int32.sub_eq_add_neg]
section OPS
variable {h h' : mH} {I I' : Nat → Nat → Int32} {nS nB nO : Nat} {lo ak : Int32} {sp bx qu bl le : Nat → Nat} {own : Nat → Nat × Nat}
theorem c_newspec {A : mH} {a : Nat} (ha : a < A.1) (he : A.2.2 a = .inr (6, [.int 0, .int 0, .int 0, .int 0, .null, .int 0, .null, .int 0, .int 0, .int 0, .int 0])) (n k l g : Int32) : f_X7_init A a n k l g = some (q_wr A a (.inr (6, [.int n, .int l, .int g, .int k, .null, .int (-1), .null, .int (-1), .int (-1), .int (-1), .int (-1)]))) := by
  unfold f_X7_init
  rw [← wr_self he]
  generalize A = B at *
  rw [g_pw _ (by exact ha) (by simp)]
  simp only [Option.bind_some]
  rw [g_pw _ (by exact ha) (by simp)]
  simp only [Option.bind_some]
  rw [g_pw _ (by exact ha) (by simp)]
  simp only [Option.bind_some]
  rw [g_pw _ (by exact ha) (by simp)]
  simp only [Option.bind_some]
  rw [g_pw _ (by exact ha) (by simp)]
  simp only [Option.bind_some]
  rw [g_pw _ (by exact ha) (by simp)]
  simp only [Option.bind_some]
  rw [g_pw _ (by exact ha) (by simp)]
  simp only [Option.bind_some]
  rw [g_pw _ (by exact ha) (by simp)]
  simp only [Option.bind_some]
  rw [g_pw _ (by exact ha) (by simp)]
  simp only [Option.bind_some]
  rw [g_pw _ (by exact ha) (by simp)]
  simp only [Option.bind_some]
  rw [g_pw _ (by exact ha) (by simp)]
  simp only [Option.bind_some]
  rw [wr_wr]
  rfl
theorem c_add (w : q_V h I nS nB lo ak nO sp bx qu own bl le) {k : Nat} {l g : Int32} (hk : k < 24) (hl : 0 ≤ l.toInt ∧ l.toInt ≤ 100000) (hb : nS < 300) : ∃ h1 p, f_X8_add h 1 (nI k) l g = some (nI nS, h1) ∧ q_V h1 (q_mk I nS (nI k) l g) (nS + 1) nB lo ak nO (va_up sp nS h.1) bx qu (va_up own h.1 (0, nS)) (fun x => if x < p then bl x else if x = p then nS else bl (x - 1)) le ∧ q_hf h h1 1 11 := by
  have w' := w
  obtain ⟨hF, hS, hN, hB, hH, hK, hR, hL, hT, hO⟩ := w
  have n71 := hF.1
  obtain ⟨f2, a1, a2⟩ := hN.1
  obtain ⟨f3, b1, b2⟩ := hN.2.1
  have bl1 := hN.2.2.2.1
  generalize hA : q_nw h (.inr (6, [.int 0, .int 0, .int 0, .int 0, .null, .int 0, .null, .int 0, .int 0, .int 0, .int 0])) 11 = A
  have A1 : A.1 = h.1 + 1 := by rw [← hA]; rfl
  have AE : A.2.2 h.1 = .inr (6, [.int 0, .int 0, .int 0, .int 0, .null, .int 0, .null, .int 0, .int 0, .int 0, .int 0]) := by rw [← hA]; exact nwE
  have AN : ∀ a, a < h.1 → A.2.2 a = h.2.2 a := fun a ha => by rw [← hA]; exact nwN (by omega)
  have y1 := c_newspec (A := A) (by omega) AE (nI nS) (nI k) l g
  generalize hC : q_wr A h.1 (.inr (6, [.int (nI nS), .int l, .int g, .int (nI k), .null, .int (-1), .null, .int (-1), .int (-1), .int (-1), .int (-1)])) = C at y1
  have C1 : C.1 = h.1 + 1 := by rw [← hC]; exact A1
  have CE : C.2.2 h.1 = .inr (6, [.int (nI nS), .int l, .int g, .int (nI k), .null, .int (-1), .null, .int (-1), .int (-1), .int (-1), .int (-1)]) := by rw [← hC]; exact wrE
  have CN : ∀ a, a < h.1 → C.2.2 a = h.2.2 a := fun a ha => by rw [← hC, wrN (by omega)]; exact AN a ha
  have y2 : m_ast C 2 (nI nS) (some h.1) = some (q_wr C 2 (.inl (2, 300, q_R (va_up f2 nS (some h.1))))) := g_as (some h.1) (by omega) ((CN 2 (by omega)).trans a1) (by decide) hb (by decide) (show m_okq C (some h.1) 6 = true from g_o (by omega) CE)
  generalize hD : q_wr C 2 (.inl (2, 300, q_R (va_up f2 nS (some h.1)))) = D at y2
  have D1 : D.1 = h.1 + 1 := by rw [← hD]; exact C1
  have DN : ∀ a, a ≠ 2 → a < h.1 → D.2.2 a = h.2.2 a := fun a a1 ha => by rw [← hD, wrN a1]; exact CN a ha
  have D2 : D.2.2 2 = .inl (2, 300, q_R (va_up f2 nS (some h.1))) := by rw [← hD]; exact wrE
  have DE : D.2.2 h.1 = .inr (6, [.int (nI nS), .int l, .int g, .int (nI k), .null, .int (-1), .null, .int (-1), .int (-1), .int (-1), .int (-1)]) := by rw [← hD, wrN (by omega)]; exact CE
  have D3 : D.2.2 3 = .inl (2, 300, q_R f3) := (DN 3 (by decide) (by omega)).trans b1
  have D0 : D.2.2 1 = .inr (7, [.ref 2, .ref 3, .int (nI nS)]) := (DN 1 (by decide) (by omega)).trans hF.2.2.1
  have HN : ∀ F a, a ≠ 3 → (q_wr D 3 (.inl (2, 300, q_R F))).2.2 a = D.2.2 a := fun F a ha => wrN ha
  have step : ∀ i F, i ≤ nS → (∀ x, x < i → F x = f3 x) → w_X8_add_45 1 l (nI i, q_wr D 3 (.inl (2, 300, q_R F))) = if i = 0 then some (.inr (nI i, q_wr D 3 (.inl (2, 300, q_R F)))) else if (fun x => decide (¬ I 52 (bl x) ≤ l)) (i - 1) = true then some (.inl (nI (i - 1), q_wr D 3 (.inl (2, 300, q_R (va_up F i (f3 (i - 1))))))) else some (.inr (nI i, q_wr D 3 (.inl (2, 300, q_R F)))) := by
    intro i F hi hF'
    unfold w_X8_add_45
    dsimp only
    by_cases e : i = 0
    · subst e
      rw [if_pos (by decide), if_pos rfl]
    · rw [if_neg (by rw [show (0 : Int32) = nI 0 from rfl, n_le (by omega) (by omega)]; omega), if_neg e]
      have hbl := bl1 (i - 1) (by omega)
      obtain ⟨s1, s2, s3⟩ := hS (bl (i - 1)) hbl
      have r1 : m_gr (q_wr D 3 (.inl (2, 300, q_R F))) 1 7 1 = some (some 3) := g_r (some 3) (show 1 < D.1 by omega) ((HN F 1 (by decide)).trans D0) rfl
      have r2 : m_ald (q_wr D 3 (.inl (2, 300, q_R F))) 3 (nI (i - 1)) = some (F (i - 1)) := g_al (show 3 < D.1 by omega) wrE (by decide) (by omega) (by decide)
      rw [hF' (i - 1) (by omega), b2 (i - 1) (by omega)] at r2
      have cell : (q_wr D 3 (.inl (2, 300, q_R F))).2.2 (sp (bl (i - 1))) = .inr (6, q_sc I bx (bl (i - 1))) := (HN F _ (by omega)).trans ((DN _ (by omega) (by omega)).trans s3)
      have r3 : m_gi (q_wr D 3 (.inl (2, 300, q_R F))) (sp (bl (i - 1))) 6 1 = some (I 52 (bl (i - 1))) := g_i (show sp (bl (i - 1)) < D.1 by omega) cell rfl
      have r4 : m_ast (q_wr D 3 (.inl (2, 300, q_R F))) 3 (nI i) (some (sp (bl (i - 1)))) = some (q_wr D 3 (.inl (2, 300, q_R (va_up F i (some (sp (bl (i - 1)))))))) := by
        have := g_as (h := q_wr D 3 (.inl (2, 300, q_R F))) (j := i) (some (sp (bl (i - 1)))) (show 3 < D.1 by omega) wrE (by decide) (by omega) (by decide) (show m_okq (q_wr D 3 (.inl (2, 300, q_R F))) (some (sp (bl (i - 1)))) 6 = true from g_o (show sp (bl (i - 1)) < D.1 by omega) cell)
        rw [this]
        show some (q_wr (q_wr D 3 (.inl (2, 300, q_R F))) 3 _) = _
        rw [wr_wr]
      rw [r1, (i_dec e).1, (i_dec e).2]
      simp only [Option.bind_some]
      rw [r2]
      simp only [Option.bind_some]
      unfold f_X8_isLonger
      dsimp only
      rw [r3, r4, b2 (i - 1) (by omega)]
      simp only [Option.bind_some]
      by_cases c : I 52 (bl (i - 1)) ≤ l
      · simp [c]
      · simp [c]
  obtain ⟨p, F, e1, e2, e3, e4, e5, e6⟩ := m_ins (step := w_X8_add_45 1 l) (H := fun F => q_wr D 3 (.inl (2, 300, q_R F))) (f := f3) (L := fun x => decide (¬ I 52 (bl x) ≤ l)) step nS f3 5000 (Nat.le_refl _) (by omega) (fun _ _ => rfl) (fun x hx hx2 => by omega)
  rw [wr_self D3] at e1
  have y3 : m_ast (q_wr D 3 (.inl (2, 300, q_R F))) 3 (nI p) (some h.1) = some (q_wr D 3 (.inl (2, 300, q_R (va_up F p (some h.1))))) := by
    have := g_as (h := q_wr D 3 (.inl (2, 300, q_R F))) (j := p) (some h.1) (show 3 < D.1 by omega) wrE (by decide) (by omega) (by decide) (show m_okq (q_wr D 3 (.inl (2, 300, q_R F))) (some h.1) 6 = true from g_o (show h.1 < D.1 by omega) ((HN F _ (by omega)).trans DE))
    rw [this]
    show some (q_wr (q_wr D 3 (.inl (2, 300, q_R F))) 3 _) = _
    rw [wr_wr]
  have r0 : m_gr (q_wr D 3 (.inl (2, 300, q_R F))) 1 7 1 = some (some 3) := g_r (some 3) (show 1 < D.1 by omega) ((HN F 1 (by decide)).trans D0) rfl
  generalize hG : q_wr D 3 (.inl (2, 300, q_R (va_up F p (some h.1)))) = G at y3
  have G1 : G.1 = h.1 + 1 := by rw [← hG]; exact D1
  have G0 : G.2.2 1 = .inr (7, [.ref 2, .ref 3, .int (nI nS)]) := by rw [← hG, wrN (by decide)]; exact D0
  have y4 : m_pf G 1 7 2 (.int (nI (nS + 1))) = some (q_wr G 1 (.inr (7, [.ref 2, .ref 3, .int (nI (nS + 1))]))) := g_p _ (by omega) G0 (show 2 < 3 by decide)
  generalize hQ : q_wr G 1 (.inr (7, [.ref 2, .ref 3, .int (nI (nS + 1))])) = Q at y4
  have Q1 : Q.1 = h.1 + 1 := by rw [← hQ]; exact G1
  have QE : Q.2.2 h.1 = .inr (6, [.int (nI nS), .int l, .int g, .int (nI k), .null, .int (-1), .null, .int (-1), .int (-1), .int (-1), .int (-1)]) := by rw [← hQ, wrN (by omega), ← hG, wrN (by omega)]; exact DE
  refine ⟨Q, p, ?_, ?_, ?_⟩
  · unfold f_X8_add
    rw [rF12 hF]
    simp only [Option.bind_some]
    rw [if_pos (by rw [show (300 : Int32) = nI 300 from rfl, n_lt (by omega) (by omega)]; omega), g_newO]
    simp only [Option.bind_some]
    rw [show q_nw h (.inr (6, ([.int 0, .int 0, .int 0, .int 0, .null, .int 0, .null, .int 0, .int 0, .int 0, .int 0] : List Value))) ([.int 0, .int 0, .int 0, .int 0, .null, .int 0, .null, .int 0, .int 0, .int 0, .int 0] : List Value).length = A from hA, show m_gi A 1 7 2 = some (nI nS) from g_i (by omega) ((AN 1 (by omega)).trans hF.2.2.1) rfl]
    simp only [Option.bind_some]
    rw [y1]
    simp only [Option.bind_some]
    rw [show m_gr C 1 7 0 = some (some 2) from g_r (some 2) (by omega) ((CN 1 (by omega)).trans hF.2.2.1) rfl, show m_gi C 1 7 2 = some (nI nS) from g_i (by omega) ((CN 1 (by omega)).trans hF.2.2.1) rfl]
    simp only [Option.bind_some]
    rw [y2]
    simp only [Option.bind_some]
    rw [show m_gi D 1 7 2 = some (nI nS) from g_i (by omega) D0 rfl]
    simp only [Option.bind_some]
    rw [e1]
    simp only [Option.bind_some]
    rw [r0]
    simp only [Option.bind_some]
    rw [y3]
    simp only [Option.bind_some]
    rw [show m_gi G 1 7 2 = some (nI nS) from g_i (by omega) G0 rfl]
    simp only [Option.bind_some, nI_1]
    rw [y4]
    simp only [Option.bind_some]
    rw [show m_gi Q h.1 6 0 = some (nI nS) from g_i (by omega) QE rfl]
    rfl
  · have hp : p ≤ nS := e2
    refine s_make (F := va_up F p (some h.1)) w' hk hl hb Q1 (by rw [← hQ]; exact wrE) ⟨f2, a1, by rw [← hQ, wrN (by decide), ← hG, wrN (by decide)]; exact D2⟩ (by rw [← hQ, wrN (by decide), ← hG]; exact wrE) hp (fun x hx => ?_) upE (fun x hx hx2 => ?_) (fun x hx hx2 => ?_) ?_ QE (fun a z1 z2 z3 z4 => by rw [← hQ, wrN z1, ← hG, wrN z3]; exact DN a z2 z4)
    · rw [upN (by omega), e3 x hx]; exact b2 x (by omega)
    · rw [upN (by omega), e4 x hx hx2]; exact b2 (x - 1) (by omega)
    · exact of_decide_eq_true (e5 x hx hx2)
    · rcases e6 with z | z
      · exact Or.inl z
      · exact Or.inr (by simpa using z)
  · rw [← hQ, ← hG, ← hD, ← hC]
    refine q_hf.wr (q_hf.wr (q_hf.wr (q_hf.wr ?_ (by omega)) (by omega)) (by omega)) (by omega)
    rw [← hA]
    exact q_hf.nw (n := 0) (y := 0) q_hf.rf n71
theorem e_make (w : q_W h I nS nB lo ak nO sp bx qu own bl le) (x y z : Int32) : q_both h (f_X9_make h 0 x y z) (fun h1 => f_X10_make h1 44 x y z) := by
  have w' := w
  obtain ⟨hM, hV⟩ := w
  have hV' := hV
  obtain ⟨hF, hS, hN, hB, hH, hK, hR, hL, hT, hO⟩ := hV
  have n3 := hF.2.2.2.2.2.2.2.1
  have hh : f_X9_make h 0 x y z = (if q_con x = false then some ((-1 : Int32), h) else if q_dy y = false then some (-1, h) else if q_dy z = false then some (-1, h) else f_X8_add h 1 x y z) := by
    unfold f_X9_make
    rw [c_con, c_isMeas, c_isMeas, rF00 hF]
    simp only [Option.bind_some, q_b0, oF1 hF, if_true]
    cases f_X8_add h 1 x y z <;> rfl
  have hm : ∀ g : mH, q_M g I nS nB lo ak → f_X10_make g 44 x y z = (if q_con x = false then some ((-1 : Int32), g) else if q_dy y = false then some (-1, g) else if q_dy z = false then some (-1, g) else if nI nS = 300 then some (-1, g) else (m_ist g 51 (nI nS) x).bind fun h22 => (m_gr h22 44 9 8).bind fun q24 => (q24).bind fun b26 => (m_ist h22 b26 (nI nS) y).bind fun h28 => (m_gr h28 44 9 9).bind fun q30 => (q30).bind fun b32 => (m_ist h28 b32 (nI nS) z).bind fun h34 => (m_gr h34 44 9 10).bind fun q36 => (q36).bind fun b38 => (m_ist h34 b38 (nI nS) ((-1))).bind fun h40 => (m_gr h40 44 9 11).bind fun q42 => (q42).bind fun b44 => (m_ist h40 b44 (nI nS) ((-1))).bind fun h46 => (m_gr h46 44 9 12).bind fun q48 => (q48).bind fun b50 => (m_ist h46 b50 (nI nS) ((-1))).bind fun h52 => (m_gr h52 44 9 13).bind fun q54 => (q54).bind fun b56 => (m_ist h52 b56 (nI nS) ((-1))).bind fun h58 => (m_gr h58 44 9 14).bind fun q60 => (q60).bind fun b62 => (m_ist h58 b62 (nI nS) ((-1))).bind fun h64 => (m_gr h64 44 9 15).bind fun q66 => (q66).bind fun b68 => (m_ist h64 b68 (nI nS) ((-1))).bind fun h70 => (m_gr h70 44 9 16).bind fun q72 => (q72).bind fun b74 => (m_ist h70 b74 (nI nS) ((-1))).bind fun h76 => (m_gi h76 44 9 6).bind fun x78 => (m_pf h76 44 9 6 (.int (x78 + 1))).bind fun h80 => some ((nI nS, h80))) := by
    intro g hg
    unfold f_X10_make q_con
    rw [d_isKind]
    simp only [Option.bind_some, q_b0]
    cases hx : q_k x with
    | false => rfl
    | true =>
      obtain ⟨k2, hk2, rfl⟩ := q_kE hx
      rw [if_pos (oM hg), d_abs hg hk2, q_n_nI (by omega), d_isDay, d_isDay, rM6 hg, rM7 hg]
      simp only [Option.bind_some, q_b0, Bool.true_eq_false, if_false]
      cases n_ab k2 <;> rfl
  cases hx : q_con x with
  | false =>
    rw [hx] at hh
    exact q_both.no w' (-1) hh ((hm h hM).trans (by rw [hx]; rfl))
  | true =>
    rw [hx, if_neg (by simp)] at hh
    cases hy : q_dy y with
    | false =>
      rw [hy] at hh
      exact q_both.no w' (-1) hh ((hm h hM).trans (by rw [hx, hy]; rfl))
    | true =>
      rw [hy, if_neg (by simp)] at hh
      cases hz : q_dy z with
      | false =>
        rw [hz] at hh
        exact q_both.no w' (-1) hh ((hm h hM).trans (by rw [hx, hy, hz]; rfl))
      | true =>
        rw [hz, if_neg (by simp)] at hh
        have hkx : q_k x = true := by unfold q_con at hx; rw [Bool.and_eq_true] at hx; exact hx.1
        obtain ⟨k, hk, rfl⟩ := q_kE hkx
        by_cases hb : nS < 300
        · obtain ⟨h1, p, l1, l2, l3⟩ := c_add hV' hk (g := z) (of_decide_eq_true hy) hb
          have hM1 := fM hM l3.1 l3.2.2.2
          obtain ⟨g1, a1, a2, a3⟩ := wI hM1 (a := 51) (j := nS) (nI k) (by decide) (by decide) hb
          obtain ⟨g2, b1, b2, b3⟩ := wI a2 (a := 52) (j := nS) y (by decide) (by decide) hb
          obtain ⟨g3, c1, c2, c3⟩ := wI b2 (a := 53) (j := nS) z (by decide) (by decide) hb
          obtain ⟨g4, d1, d2, d3⟩ := wI c2 (a := 54) (j := nS) (-1) (by decide) (by decide) hb
          obtain ⟨g5, e1, e2, e3⟩ := wI d2 (a := 55) (j := nS) (-1) (by decide) (by decide) hb
          obtain ⟨g6, f1, f2, f3⟩ := wI e2 (a := 56) (j := nS) (-1) (by decide) (by decide) hb
          obtain ⟨g7, i1, i2, i3⟩ := wI f2 (a := 57) (j := nS) (-1) (by decide) (by decide) hb
          obtain ⟨g8, j1, j2, j3⟩ := wI i2 (a := 58) (j := nS) (-1) (by decide) (by decide) hb
          obtain ⟨g9, k1, k2, k3⟩ := wI j2 (a := 59) (j := nS) (-1) (by decide) (by decide) hb
          obtain ⟨g10, m1, m2, m3⟩ := wI k2 (a := 60) (j := nS) (-1) (by decide) (by decide) hb
          obtain ⟨g11, o1, o2, o3⟩ := wF m2 (k := 6) (v := nI (nS + 1)) (nS' := nS + 1) (nB' := nB) (lo' := lo) (ak' := ak) (by decide) rfl
          rw [q_mk_u] at o2
          refine q_both.yes l2 (q_hf_le l3 (by omega) (by omega)) o2 (((((((((((a3.tr b3).tr c3).tr d3).tr e3).tr f3).tr i3).tr j3).tr k3).tr m3)).tr o3) (nI nS) (hh.trans l1) ((hm h1 hM1).trans ?_)
          rw [hx, hy, hz, if_neg (by simp), if_neg (by simp), if_neg (by simp), if_neg (by rw [show (300 : Int32) = nI 300 from rfl, n_eq (by omega) (by omega)]; omega), a1]
          simp only [Option.bind_some]
          rw [rM8 a2]
          simp only [Option.bind_some]
          rw [b1]
          simp only [Option.bind_some]
          rw [rM9 b2]
          simp only [Option.bind_some]
          rw [c1]
          simp only [Option.bind_some]
          rw [rM10 c2]
          simp only [Option.bind_some]
          rw [d1]
          simp only [Option.bind_some]
          rw [rM11 d2]
          simp only [Option.bind_some]
          rw [e1]
          simp only [Option.bind_some]
          rw [rM12 e2]
          simp only [Option.bind_some]
          rw [f1]
          simp only [Option.bind_some]
          rw [rM13 f2]
          simp only [Option.bind_some]
          rw [i1]
          simp only [Option.bind_some]
          rw [rM14 i2]
          simp only [Option.bind_some]
          rw [j1]
          simp only [Option.bind_some]
          rw [rM15 j2]
          simp only [Option.bind_some]
          rw [k1]
          simp only [Option.bind_some]
          rw [rM16 k2]
          simp only [Option.bind_some]
          rw [m1]
          simp only [Option.bind_some]
          rw [rM6 m2]
          simp only [Option.bind_some, nI_1]
          rw [o1]
          rfl
        · have e : nS = 300 := by omega
          subst e
          refine q_both.no w' (-1) (hh.trans ?_) ((hm h hM).trans ?_)
          · unfold f_X8_add
            rw [rF12 hF]
            simp only [Option.bind_some]
            rw [if_neg (by decide)]
          · rw [hx, hy, hz]
            rfl
end OPS
