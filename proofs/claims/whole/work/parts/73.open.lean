/-! PURE PART 33: the register of loans takes one more -/
section OPS
variable {h h' : mH} {I I' : Nat → Nat → Int32} {nS nB nO : Nat} {lo ak : Int32} {sp bx qu bl le : Nat → Nat} {own : Nat → Nat × Nat}
def q_ins (le : Nat → Nat) (p s : Nat) : Nat → Nat := fun x => if x < p then le x else if x = p then s else le (x - 1)
theorem s_open (w : q_V h I nS nB lo ak nO sp bx qu own bl le) {s b D t fe : Nat} (hs : s < nS) (hb : b < 20) (hD : D ≤ 100000) (ht : t ≤ 365) (hfe : fe ≤ 1000) (e57 : I 57 s = -1) (hh : q_hld I nS b ≤ 11) : ∃ h1 p, (f_X7_lendTo h (sp s) (nI b) (nI D) (nI t) (nI fe)).bind (fun h22 => (m_gr h22 0 8 5).bind fun q23 => q23.bind fun b25 => if m_ob h22 b25 2 = true then (f_X3_open h22 b25 (some (sp s))).bind fun h28 => some h28 else none) = some h1 ∧ q_V h1 (q_l4 I s (nI b) (nI D) (nI t) (nI fe)) nS nB (lo + 1) ak (nO + 1) sp bx qu own bl (q_ins le p s) ∧ q_hf h h1 0 0 := by
  classical
  have w' := w
  obtain ⟨hF, hS, hN, hB, hH, hK, hR, hL, hT, hO⟩ := w
  have n71 := hF.1
  have n3 := hF.2.2.2.2.2.2.2.1
  have nO240 := nO_lt hF hL hT hb hh
  obtain ⟨s1, s2, s3⟩ := hS s hs
  obtain ⟨⟨f, a1, a2⟩, ⟨hd, b1, b2⟩, ⟨cg, g1, g2⟩, c1, c2, c3⟩ := hL
  rw [c_lendTo s2 s3]
  simp only [Option.bind_some]
  generalize hJ : q_l4 I s (nI b) (nI D) (nI t) (nI fe) = J
  have J57 : J 57 s = nI b := by rw [← hJ]; exact l4_57
  have JR : ∀ a, a < 57 ∨ 60 < a → J a = I a := fun a ha => by rw [← hJ]; exact l4R ha
  have JN : ∀ a x, x ≠ s → J a x = I a x := fun a x hx => by rw [← hJ]; exact l4N hx
  generalize hA : q_wr h (sp s) (.inr (6, q_sc J bx s)) = A
  have A1 : A.1 = h.1 := by rw [← hA]; rfl
  have AN : ∀ a, a ≠ sp s → A.2.2 a = h.2.2 a := fun a ha => by rw [← hA]; exact wrN ha
  have AS : ∀ x, x < nS → A.2.2 (sp x) = .inr (6, q_sc J bx x) := fun x hx => by
    by_cases e : x = s
    · subst e; rw [← hA]; exact wrE
    · rw [AN _ (ne_ss hO hx hs e), (hS x hx).2.2]
      unfold q_sc q_br q_sr
      rw [JN 51 x e, JN 52 x e, JN 53 x e, JN 54 x e, JN 55 x e, JN 56 x e, JN 57 x e, JN 58 x e, JN 59 x e, JN 60 x e]
  have A40 : A.2.2 40 = .inr (2, [.ref 41, .ref 42, .ref 43, .int (nI nO), .int lo]) := (AN 40 (by omega)).trans hF.2.2.2.2.1
  have A41 : A.2.2 41 = .inl (2, 240, q_R f) := (AN 41 (by omega)).trans a1
  have A42 : A.2.2 42 = .inl (0, 20, .inl hd) := (AN 42 (by omega)).trans b1
  have A43 : A.2.2 43 = .inl (0, 20, .inl cg) := (AN 43 (by omega)).trans g1
  have HN : ∀ F a, a ≠ 41 → (q_wr A 41 (.inl (2, 240, q_R F))).2.2 a = A.2.2 a := fun F a ha => wrN ha
  have step : ∀ i F, i ≤ nO → (∀ x, x < i → F x = f x) → w_X3_open_26 40 (sp s) (nI i, q_wr A 41 (.inl (2, 240, q_R F))) = if i = 0 then some (.inr (nI i, q_wr A 41 (.inl (2, 240, q_R F)))) else if (fun x => decide (q_bf J s (le x))) (i - 1) = true then some (.inl (nI (i - 1), q_wr A 41 (.inl (2, 240, q_R (va_up F i (f (i - 1))))))) else some (.inr (nI i, q_wr A 41 (.inl (2, 240, q_R F)))) := by
    intro i F hi hF'
    unfold w_X3_open_26
    dsimp only
    by_cases e : i = 0
    · subst e
      rw [if_pos (by decide), if_pos rfl]
    · rw [if_neg (by rw [show (0 : Int32) = nI 0 from rfl, n_le (by omega) (by omega)]; omega), if_neg e]
      have hle := (c1 (i - 1) (by omega)).1
      have z1 := (hS _ hle).2.1
      have z0 := (hS _ hle).1
      have r1 : m_gr (q_wr A 41 (.inl (2, 240, q_R F))) 40 2 0 = some (some 41) := g_r (some 41) (show 40 < A.1 by omega) ((HN F 40 (by decide)).trans A40) rfl
      have r2 : m_ald (q_wr A 41 (.inl (2, 240, q_R F))) 41 (nI (i - 1)) = some (F (i - 1)) := g_al (show 41 < A.1 by omega) wrE (by decide) (by omega) (by decide)
      rw [hF' (i - 1) (by omega), a2 (i - 1) (by omega)] at r2
      have cell : ∀ x, x < nS → (q_wr A 41 (.inl (2, 240, q_R F))).2.2 (sp x) = .inr (6, q_sc J bx x) := fun x hx => (HN F _ (by have := (hS x hx).1; omega)).trans (AS x hx)
      have lt : ∀ x, x < nS → sp x < A.1 := fun x hx => by have := (hS x hx).2.1; omega
      have last : ∀ x, x < nS → f_X7_lastDay (q_wr A 41 (.inl (2, 240, q_R F))) (sp x) = some (q_ld J x) := fun x hx => by
        unfold f_X7_lastDay q_ld
        rw [show m_gi (q_wr A 41 (.inl (2, 240, q_R F))) (sp x) 6 8 = some (J 58 x) from g_i (lt x hx) (cell x hx) rfl, show m_gi (q_wr A 41 (.inl (2, 240, q_R F))) (sp x) 6 9 = some (J 59 x) from g_i (lt x hx) (cell x hx) rfl]
        rfl
      have ob : ∀ x, x < nS → m_ob (q_wr A 41 (.inl (2, 240, q_R F))) (sp x) 6 = true := fun x hx => g_o (h := q_wr A 41 (.inl (2, 240, q_R F))) (lt x hx) (cell x hx)
      have num : ∀ x, x < nS → m_gi (q_wr A 41 (.inl (2, 240, q_R F))) (sp x) 6 0 = some (nI x) := fun x hx => g_i (lt x hx) (cell x hx) rfl
      have r4 : m_ast (q_wr A 41 (.inl (2, 240, q_R F))) 41 (nI i) (some (sp (le (i - 1)))) = some (q_wr A 41 (.inl (2, 240, q_R (va_up F i (some (sp (le (i - 1)))))))) := by
        have := g_as (h := q_wr A 41 (.inl (2, 240, q_R F))) (j := i) (some (sp (le (i - 1)))) (show 41 < A.1 by omega) wrE (by decide) (by omega) (by decide) (ob _ hle)
        rw [this]
        show some (q_wr (q_wr A 41 (.inl (2, 240, q_R F))) 41 _) = _
        rw [wr_wr]
      have cb : f_X3_comesBehind (q_wr A 41 (.inl (2, 240, q_R F))) (some (sp (le (i - 1)))) (some (sp s)) = some (q_b (decide (q_bf J s (le (i - 1))))) := by
        unfold f_X3_comesBehind
        dsimp only
        rw [if_pos (ob _ hle), last _ hle, num _ hle]
        simp only [Option.bind_some]
        rw [last _ hs, num _ hs]
        simp only [Option.bind_some, ob _ hle, ob _ hs, if_true]
        rw [ite_le (by omega) (by omega)]
        by_cases z : q_ld J (le (i - 1)) = q_ld J s
        · rw [if_pos z]
          by_cases y : le (i - 1) ≤ s
          · have q : ¬ q_bf J s (le (i - 1)) := by rw [q_bf_iff, z]; omega
            rw [if_pos y, decide_eq_false q]; rfl
          · have q : q_bf J s (le (i - 1)) := by rw [q_bf_iff, z]; omega
            rw [if_neg y, decide_eq_true q]; rfl
        · rw [if_neg z]
          have z' : ¬ (q_ld J (le (i - 1))).toInt = (q_ld J s).toInt := fun q => z (Int32.toInt_inj.mp q)
          by_cases y : q_ld J (le (i - 1)) ≤ q_ld J s
          · have q : ¬ q_bf J s (le (i - 1)) := by
              rw [Int32.le_iff_toInt_le] at y
              rw [q_bf_iff]; omega
            rw [if_pos y, decide_eq_false q]; rfl
          · have q : q_bf J s (le (i - 1)) := by
              rw [Int32.le_iff_toInt_le] at y
              rw [q_bf_iff]; omega
            rw [if_neg y, decide_eq_true q]; rfl
      rw [r1, (i_dec e).1, (i_dec e).2]
      simp only [Option.bind_some]
      rw [r2]
      simp only [Option.bind_some]
      rw [cb, r4, a2 (i - 1) (by omega)]
      simp only [Option.bind_some, q_b0]
      by_cases z : q_bf J s (le (i - 1))
      · simp [z]
      · simp [z]
  obtain ⟨p, F, e1, e2, e3, e4, e5, e6⟩ := m_ins (step := w_X3_open_26 40 (sp s)) (H := fun F => q_wr A 41 (.inl (2, 240, q_R F))) (f := f) (L := fun x => decide (q_bf J s (le x))) step nO f 5000 (Nat.le_refl _) (by omega) (fun _ _ => rfl) (fun x hx hx2 => by omega)
  rw [wr_self A41] at e1
  have G0 : ∀ F, (q_wr A 41 (.inl (2, 240, q_R F))).2.2 40 = .inr (2, [.ref 41, .ref 42, .ref 43, .int (nI nO), .int lo]) := fun F => (HN F 40 (by decide)).trans A40
  have y3 : m_ast (q_wr A 41 (.inl (2, 240, q_R F))) 41 (nI p) (some (sp s)) = some (q_wr A 41 (.inl (2, 240, q_R (va_up F p (some (sp s)))))) := by
    have := g_as (h := q_wr A 41 (.inl (2, 240, q_R F))) (j := p) (some (sp s)) (show 41 < A.1 by omega) wrE (by decide) (by omega) (by decide) (show m_okq (q_wr A 41 (.inl (2, 240, q_R F))) (some (sp s)) 6 = true from g_o (h := q_wr A 41 (.inl (2, 240, q_R F))) (show sp s < A.1 by omega) ((HN F _ (by omega)).trans (AS s hs)))
    rw [this]
    show some (q_wr (q_wr A 41 (.inl (2, 240, q_R F))) 41 _) = _
    rw [wr_wr]
  generalize hG : q_wr A 41 (.inl (2, 240, q_R (va_up F p (some (sp s))))) = G at y3
  have G1 : G.1 = h.1 := by rw [← hG]; exact A1
  have GN : ∀ a, a ≠ 41 → G.2.2 a = A.2.2 a := fun a ha => by rw [← hG]; exact wrN ha
  have G40 : G.2.2 40 = .inr (2, [.ref 41, .ref 42, .ref 43, .int (nI nO), .int lo]) := (GN 40 (by decide)).trans A40
  have y4 : m_ist G 42 (nI b) (hd b + 1) = some (q_wr G 42 (.inl (0, 20, .inl (upd hd b (hd b + 1))))) := g_is _ (by omega) ((GN 42 (by decide)).trans A42) hb (by decide)
  generalize hP : q_wr G 42 (.inl (0, 20, .inl (upd hd b (hd b + 1)))) = P at y4
  have P1 : P.1 = h.1 := by rw [← hP]; exact G1
  have P40 : P.2.2 40 = .inr (2, [.ref 41, .ref 42, .ref 43, .int (nI nO), .int lo]) := by rw [← hP, wrN (by decide)]; exact G40
  have y5 : m_pf P 40 2 3 (.int (nI (nO + 1))) = some (q_wr P 40 (.inr (2, [.ref 41, .ref 42, .ref 43, .int (nI (nO + 1)), .int lo]))) := g_p _ (by omega) P40 (show 3 < 5 by decide)
  have y6 : m_gi (q_wr P 40 (.inr (2, [.ref 41, .ref 42, .ref 43, .int (nI (nO + 1)), .int lo]))) 40 2 4 = some lo := g_i (show 40 < P.1 by omega) wrE rfl
  have y7 : m_pf (q_wr P 40 (.inr (2, [.ref 41, .ref 42, .ref 43, .int (nI (nO + 1)), .int lo]))) 40 2 4 (.int (lo + 1)) = some (q_wr P 40 (.inr (2, [.ref 41, .ref 42, .ref 43, .int (nI (nO + 1)), .int (lo + 1)]))) := g_pw _ (by omega) (show 4 < 5 by decide)
  generalize hQ : q_wr P 40 (.inr (2, [.ref 41, .ref 42, .ref 43, .int (nI (nO + 1)), .int (lo + 1)])) = Q at y7
  have Q1 : Q.1 = h.1 := by rw [← hQ]; exact P1
  have QN : ∀ a, a ≠ 40 → a ≠ 41 → a ≠ 42 → Q.2.2 a = A.2.2 a := fun a q1 q2 q3 => by rw [← hQ, wrN q1, ← hP, wrN q3]; exact GN a q2
  refine ⟨Q, p, ?_, ?_, ?_⟩
  · rw [show m_gr A 0 8 5 = some (some 40) from g_r (some 40) (by omega) ((AN 0 (by omega)).trans hF.2.1) rfl]
    simp only [Option.bind_some]
    rw [if_pos (g_o (by omega) A40)]
    unfold f_X3_open
    simp only [Option.bind_some]
    rw [show m_gi A (sp s) 6 7 = some (nI b) from g_i (by omega) (AS s hs) (by rw [← J57]; rfl)]
    simp only [Option.bind_some]
    rw [c_isBor, q_r_nI hb (by omega), show m_gi A 40 2 3 = some (nI nO) from g_i (by omega) A40 rfl]
    simp only [Option.bind_some, q_b0, Bool.true_eq_false, if_false]
    rw [if_pos (by rw [show (240 : Int32) = nI 240 from rfl, n_lt (by omega) (by omega)]; omega), e1]
    simp only [Option.bind_some]
    rw [show m_gr (q_wr A 41 (.inl (2, 240, q_R F))) 40 2 0 = some (some 41) from g_r (some 41) (show 40 < A.1 by omega) (G0 F) rfl]
    simp only [Option.bind_some]
    rw [y3]
    simp only [Option.bind_some]
    rw [show m_gr G 40 2 1 = some (some 42) from g_r (some 42) (by omega) G40 rfl, show m_gi G (sp s) 6 7 = some (nI b) from g_i (by omega) ((GN _ (by omega)).trans (AS s hs)) (by rw [← J57]; rfl)]
    simp only [Option.bind_some]
    rw [show m_ild G 42 (nI b) = some (hd b) from g_il (by omega) ((GN 42 (by decide)).trans A42) hb (by decide)]
    simp only [Option.bind_some]
    rw [y4]
    simp only [Option.bind_some]
    rw [show m_gi P 40 2 3 = some (nI nO) from g_i (by omega) P40 rfl]
    simp only [Option.bind_some, nI_1]
    rw [y5]
    simp only [Option.bind_some]
    rw [y6]
    simp only [Option.bind_some]
    rw [y7]
    rfl
  · have ats : q_ats I J s := by rw [← hJ]; exact l4_ats
    have hhld : ∀ b', b' < 20 → q_hld J nS b' = q_hld I nS b' + (if b' = b then 1 else 0) := fun b' hb' => by rw [← hJ]; exact hld_in hs e57 b' hb hb'
    refine v_loan w' hs Q1 (fun a q1 q2 => by rw [QN a (by omega) (by omega) (by omega)]; exact AN a q1) (by rw [QN _ (by omega) (by omega) (by omega)]; exact AS s hs) (by rw [← hQ]; exact wrE) (by omega) ?_ (fun a x _ _ hx => JN a x hx) (fun a q1 _ => JR a q1) ?_
    · have old : ∀ x y, x < y → y < nO → q_bf J (le x) (le y) := fun x y hxy hy => by
        have z1 : le x ≠ s := fun z => (c1 x (by omega)).2 (by rw [z]; exact e57)
        have z2 : le y ≠ s := fun z => (c1 y hy).2 (by rw [z]; exact e57)
        have := c2 x y hxy hy
        unfold q_bf q_ld at *
        rw [JN 58 _ z1, JN 59 _ z1, JN 58 _ z2, JN 59 _ z2]
        exact this
      have high : ∀ x, p ≤ x → x < nO → q_bf J s (le x) := fun x q1 q2 => of_decide_eq_true (e5 x q1 q2)
      have low : ∀ x, x < p → q_bf J (le x) s := fun x hx => by
        rcases e6 with q | q
        · omega
        · have q' := of_decide_eq_false q
          have z : le (p - 1) ≠ s := fun z => (c1 (p - 1) (by omega)).2 (by rw [z]; exact e57)
          rw [q_bf_iff] at q'
          rw [q_bf_iff]
          by_cases e : x = p - 1
          · subst e; omega
          · have := old x (p - 1) (by omega) (by omega)
            rw [q_bf_iff] at this
            omega
      have insb : ∀ x, x < nO + 1 → q_ins le p s x < nS ∧ J 57 (q_ins le p s x) ≠ -1 := fun x hx => by
        unfold q_ins
        have lent : ∀ y, y < nO → le y < nS ∧ J 57 (le y) ≠ -1 := fun y hy => by
          obtain ⟨q1, q2⟩ := c1 y hy
          exact ⟨q1, by rw [JN 57 _ (fun z => q2 (by rw [z]; exact e57))]; exact q2⟩
        by_cases q1 : x < p
        · rw [if_pos q1]; exact lent x (by omega)
        · rw [if_neg q1]
          by_cases q2 : x = p
          · rw [if_pos q2, J57]; exact ⟨hs, q_nm1 (by omega)⟩
          · rw [if_neg q2]; exact lent (x - 1) (by omega)
      refine ⟨⟨va_up F p (some (sp s)), by rw [← hQ, wrN (by decide), ← hP, wrN (by decide), ← hG]; exact wrE, fun x hx => ?_⟩, ⟨upd hd b (hd b + 1), by rw [← hQ, wrN (by decide), ← hP]; exact wrE, fun b' hb' => ?_⟩, ⟨cg, by rw [QN 43 (by decide) (by decide) (by decide)]; exact A43, fun b' hb' => by rw [JR 65 (by omega)]; exact g2 b' hb'⟩, insb, fun x y hxy hy => ?_, fun x hx hl => ?_⟩
      · unfold q_ins
        by_cases q1 : x < p
        · rw [if_pos q1, upN (by omega), e3 x q1]; exact a2 x (by omega)
        · rw [if_neg q1]
          by_cases q2 : x = p
          · rw [if_pos q2, q2]; exact upE
          · rw [if_neg q2, upN q2, e4 x (by omega) (by omega)]; exact a2 (x - 1) (by omega)
      · unfold upd
        rw [hhld b' hb']
        by_cases q : b' = b
        · rw [if_pos q, if_pos q, q, b2 b hb, nI_1]
        · rw [if_neg q, if_neg q]; exact b2 b' hb'
      · unfold q_ins
        by_cases q1 : x < p
        · rw [if_pos q1]
          by_cases q2 : y < p
          · rw [if_pos q2]; exact old x y hxy (by omega)
          · rw [if_neg q2]
            by_cases q3 : y = p
            · rw [if_pos q3]; exact low x q1
            · rw [if_neg q3]; exact old x (y - 1) (by omega) (by omega)
        · rw [if_neg q1, if_neg (show ¬ y < p by omega)]
          by_cases q2 : x = p
          · rw [if_pos q2, if_neg (show ¬ y = p by omega)]
            exact high (y - 1) (by omega) (by omega)
          · rw [if_neg q2, if_neg (show ¬ y = p by omega)]
            exact old (x - 1) (y - 1) (by omega) (by omega)
      · by_cases q : x = s
        · subst q
          refine ⟨p, by omega, ?_⟩
          unfold q_ins
          rw [if_neg (by omega), if_pos rfl]
        · rw [JN 57 x q] at hl
          obtain ⟨i, i1, i2⟩ := c3 x hx hl
          by_cases q1 : i < p
          · refine ⟨i, by omega, ?_⟩
            unfold q_ins
            rw [if_pos q1]; exact i2
          · refine ⟨i + 1, by omega, ?_⟩
            unfold q_ins
            rw [if_neg (by omega), if_neg (by omega)]
            exact i2
    · refine fT hT ats ?_ ?_ ?_ ?_ (Or.inr ⟨b, D, t, fe, hb, hD, ht, hfe, J57, by rw [← hJ]; exact l4_58, by rw [← hJ]; exact l4_59, by rw [← hJ]; exact l4_60⟩) ?_ ?_
      · rw [JR 51 (by omega)]; exact hT.1 s hs
      · rw [JR 52 (by omega)]
      · rw [JR 54 (by omega), JR 55 (by omega)]; exact hT.2.2.1 s hs
      · rw [JR 56 (by omega)]; exact hT.2.2.2.1 s hs
      · exact fcu hT hs (by rw [JR 54 (by omega)]) (by rw [JR 55 (by omega)])
      · intro b' hb'
        rw [hhld b' hb']
        have := hT.2.2.2.2.2.2.2.2.2.1 b' hb'
        by_cases q : b' = b
        · rw [if_pos q, q]; omega
        · rw [if_neg q]; omega
  · rw [← hQ, ← hP, ← hG, ← hA]
    exact q_hf.wr (q_hf.wr (q_hf.wr (q_hf.rf.wr (by omega)) (by omega)) (by omega)) (by omega)
end OPS
