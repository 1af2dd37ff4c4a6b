/-! PURE PART 37: giveBack -/
section OPS
variable {h h' : mH} {I I' : Nat → Nat → Int32} {nS nB nO : Nat} {lo ak : Int32} {sp bx qu bl le : Nat → Nat} {own : Nat → Nat × Nat}
def q_skp (le : Nat → Nat) (i0 : Nat) : Nat → Nat := fun x => if x < i0 then le x else le (x + 1)
def q_sf (f : Nat → Option Nat) (i0 m : Nat) : Nat → Option Nat := fun x => if i0 ≤ x ∧ x < m then f (x + 1) else f x
theorem T_65 {b : Nat} {v : Int32} (hT : q_T I nS nB) : q_T (q_u I 65 b v) nS nB := by
  unfold q_T q_hld n_P at *
  rw [uR (show 50 ≠ 65 by decide), uR (show 51 ≠ 65 by decide), uR (show 52 ≠ 65 by decide), uR (show 54 ≠ 65 by decide), uR (show 55 ≠ 65 by decide), uR (show 56 ≠ 65 by decide), uR (show 57 ≠ 65 by decide), uR (show 58 ≠ 65 by decide), uR (show 59 ≠ 65 by decide), uR (show 60 ≠ 65 by decide), uR (show 61 ≠ 65 by decide), uR (show 62 ≠ 65 by decide), uR (show 63 ≠ 65 by decide), uR (show 66 ≠ 65 by decide), uR (show 67 ≠ 65 by decide), uR (show 69 ≠ 65 by decide), uR (show 70 ≠ 65 by decide)]
  exact hT
def q_end (I : Nat → Nat → Int32) (s b : Nat) (v : Int32) : Nat → Nat → Int32 := q_l4 (q_u I 65 b (I 65 b + v)) s (-1) (-1) (-1) (-1)
/-- the register drops one loan -/
theorem c_remove {A : mH} {f : Nat → Option Nat} {i0 : Nat} {x : Option Nat} (n71 : 71 ≤ A.1) (A40 : A.2.2 40 = .inr (2, [.ref 41, .ref 42, .ref 43, .int (nI nO), .int lo])) (A41 : A.2.2 41 = .inl (2, 240, q_R f)) (hO : nO ≤ 240) (hi : i0 < nO) (hx : f i0 = x) (hu : ∀ i, i < nO → i ≠ i0 → f i ≠ x) (hob : ∀ i, i < nO → m_okq A (f i) 6 = true) : f_X3_remove A 40 x = some (q_wr (q_wr A 41 (.inl (2, 240, q_R (q_sf f i0 (nO - 1))))) 40 (.inr (2, [.ref 41, .ref 42, .ref 43, .int (nI (nO - 1)), .int lo]))) := by
  have HN : ∀ F a, a ≠ 41 → (q_wr A 41 (.inl (2, 240, q_R F))).2.2 a = A.2.2 a := fun F a ha => wrN ha
  have r0 : ∀ F, m_gr (q_wr A 41 (.inl (2, 240, q_R F))) 40 2 0 = some (some 41) := fun F => g_r (some 41) (show 40 < A.1 by omega) ((HN F 40 (by decide)).trans A40) rfl
  have r3 : ∀ F, m_gi (q_wr A 41 (.inl (2, 240, q_R F))) 40 2 3 = some (nI nO) := fun F => g_i (show 40 < A.1 by omega) ((HN F 40 (by decide)).trans A40) rfl
  have l1 := m_for (step := w_X3_remove_4 40 x) (fun r => (nI (if r ≤ i0 then r else r - 1), nI r, q_wr A 41 (.inl (2, 240, q_R (q_sf f i0 (if r ≤ i0 then r else r - 1)))))) (nI (nO - 1), q_wr A 41 (.inl (2, 240, q_R (q_sf f i0 (nO - 1))))) nO (by omega) (fun r hr => by
    unfold w_X3_remove_4
    dsimp only
    rw [r3]
    simp only [Option.bind_some]
    rw [if_neg (by rw [n_le (by omega) (by omega)]; omega), if_neg (by rw [show (240 : Int32) = nI 240 from rfl, n_le (by omega) (by omega)]; omega), r0]
    simp only [Option.bind_some]
    have al : m_ald (q_wr A 41 (.inl (2, 240, q_R (q_sf f i0 (if r ≤ i0 then r else r - 1))))) 41 (nI r) = some (f r) := by
      have := g_al (h := q_wr A 41 (.inl (2, 240, q_R (q_sf f i0 (if r ≤ i0 then r else r - 1))))) (j := r) (show 41 < A.1 by omega) wrE (by decide) (by omega) (by decide)
      rw [this]
      unfold q_sf
      rw [if_neg (by split <;> omega)]
    rw [al]
    simp only [Option.bind_some]
    by_cases e : r = i0
    · subst e
      rw [if_pos hx, if_pos (Nat.le_refl _), if_neg (show ¬ r + 1 ≤ r by omega), show r + 1 - 1 = r by omega, nI_1]
    · rw [if_neg (hu r hr e)]
      have st := g_as (h := q_wr A 41 (.inl (2, 240, q_R (q_sf f i0 (if r ≤ i0 then r else r - 1))))) (j := (if r ≤ i0 then r else r - 1)) (f r) (show 41 < A.1 by omega) wrE (by decide) (by split <;> omega) (by decide) (by
        have := hob r hr
        show m_okq _ _ 6 = true
        cases hf : f r with
        | none => rfl
        | some a =>
          rw [hf] at this
          have t2 : m_ob A a 6 = true := this
          show m_ob _ a 6 = true
          by_cases ea : a = 41
          · subst ea
            unfold m_ob at t2
            rw [A41] at t2
            simp at t2
          · unfold m_ob at t2 ⊢
            rw [HN _ a ea]
            exact t2)
      rw [st]
      simp only [Option.bind_some]
      have w2 : ∀ F, (((q_wr A 41 (.inl (2, 240, q_R F))).1, (q_wr A 41 (.inl (2, 240, q_R F))).2.1, va_up (q_wr A 41 (.inl (2, 240, q_R F))).2.2 41 (.inl (2, 240, q_R (va_up F (if r ≤ i0 then r else r - 1) (f r))))) : mH) = q_wr A 41 (.inl (2, 240, q_R (va_up F (if r ≤ i0 then r else r - 1) (f r)))) := fun F => by
        show q_wr (q_wr A 41 (.inl (2, 240, q_R F))) 41 _ = _
        rw [wr_wr]
      rw [w2]
      by_cases c : r < i0
      · rw [if_pos (show r ≤ i0 by omega), if_pos (show r + 1 ≤ i0 by omega), nI_1]
        have : va_up (q_sf f i0 r) r (f r) = q_sf f i0 (r + 1) := by
          funext y
          unfold va_up q_sf
          by_cases ey : y = r
          · rw [if_pos ey, if_neg (by omega), ey]
          · rw [if_neg ey, if_neg (by omega), if_neg (by omega)]
        rw [this]
      · rw [if_neg (show ¬ r ≤ i0 by omega), if_neg (show ¬ r + 1 ≤ i0 by omega), nI_1, nI_1, show r + 1 - 1 = r by omega, show r - 1 + 1 = r by omega]
        have : va_up (q_sf f i0 (r - 1)) (r - 1) (f r) = q_sf f i0 r := by
          funext y
          unfold va_up q_sf
          by_cases ey : y = r - 1
          · rw [if_pos ey, if_pos (by omega), ey, show r - 1 + 1 = r by omega]
          · rw [if_neg ey]
            by_cases q : i0 ≤ y ∧ y < r - 1
            · rw [if_pos q, if_pos (by omega)]
            · rw [if_neg q, if_neg (by omega)]
        rw [this]) (by
    unfold w_X3_remove_4
    dsimp only
    rw [r3]
    simp only [Option.bind_some]
    rw [if_pos (Int32.le_refl _), if_neg (show ¬ nO ≤ i0 by omega)])
  unfold f_X3_remove
  have st0 : ((0 : Int32), (0 : Int32), A) = (fun r => (nI (if r ≤ i0 then r else r - 1), nI r, q_wr A 41 (.inl (2, 240, q_R (q_sf f i0 (if r ≤ i0 then r else r - 1)))))) 0 := by
    dsimp only
    rw [if_pos (Nat.zero_le _)]
    have : q_sf f i0 0 = f := by
      funext y
      unfold q_sf
      rw [if_neg (by omega)]
    rw [this, wr_self A41]
    rfl
  rw [st0, l1]
  simp only [Option.bind_some]
  rw [show m_pf (q_wr A 41 (.inl (2, 240, q_R (q_sf f i0 (nO - 1))))) 40 2 3 (.int (nI (nO - 1))) = some (q_wr (q_wr A 41 (.inl (2, 240, q_R (q_sf f i0 (nO - 1))))) 40 (.inr (2, [.ref 41, .ref 42, .ref 43, .int (nI (nO - 1)), .int lo]))) from g_p (h := q_wr A 41 (.inl (2, 240, q_R (q_sf f i0 (nO - 1))))) _ (show 40 < A.1 by omega) ((HN _ 40 (by decide)).trans A40) (show 3 < 5 by decide)]
  rfl
theorem s_close (w : q_V h I nS nB lo ak nO sp bx qu own bl le) {s b D : Nat} (hs : s < nS) (hb : b < 20) (e57 : I 57 s = nI b) (hD : D ≤ 100000) : ∃ h1 nO' le', f_X3_close h 40 (some (sp s)) (nI D) = some (q_du I s D, h1) ∧ q_V h1 (q_end I s b (q_du I s D)) nS nB lo ak nO' sp bx qu own bl le' ∧ q_hf h h1 0 0 := by
  have w' := w
  obtain ⟨hF, hS, hN, hB, hH, hK, hR, hL, hT, hO⟩ := w
  have n71 := hF.1
  have n3 := hF.2.2.2.2.2.2.2.1
  have n5 := hF.2.2.2.2.2.2.2.2.2
  have inj := q_le_inj hL
  obtain ⟨s1, s2, s3⟩ := hS s hs
  have hl : I 57 s ≠ -1 := by rw [e57]; exact q_nm1 (by omega)
  have cdue := c_due hS hT hs hl hD
  obtain ⟨⟨f, a1, a2⟩, ⟨hd, b1, b2⟩, ⟨cg, g1, g2⟩, c1, c2, c3⟩ := hL
  obtain ⟨i0, i1, i2⟩ := c3 s hs hl
  generalize q_du I s D = v at *
  generalize hJ : q_end I s b v = J
  have J57 : J 57 s = -1 := by rw [← hJ]; exact l4_57
  have JR : ∀ a, a < 57 ∨ 60 < a → a ≠ 65 → J a = I a := fun a ha h65 => by rw [← hJ]; unfold q_end; rw [l4R ha, uR h65]
  have JN : ∀ a x, a ≠ 65 → x ≠ s → J a x = I a x := fun a x h65 hx => by rw [← hJ]; unfold q_end; rw [l4N hx, uR h65]
  have J65 : ∀ b', J 65 b' = if b' = b then I 65 b + v else I 65 b' := fun b' => by
    rw [← hJ]; unfold q_end; rw [l4R (by omega)]
    by_cases e : b' = b
    · rw [if_pos e, e, uE]
    · rw [if_neg e, uN e]
  have hhld : ∀ b', b' < 20 → q_hld I nS b' = q_hld J nS b' + (if b' = b then 1 else 0) := fun b' hb' => by
    unfold q_hld
    have := q_cnt_upd (P := fun t => I 57 t == nI b') (P' := fun t => J 57 t == nI b') (s := s) nS (fun t _ hn => by rw [JN 57 t (by decide) hn])
    rw [J57, e57, if_neg (c := s < nS ∧ ((-1 : Int32) == nI b') = true) (by simp; exact fun _ z => q_nm1 (by omega) z.symm), Nat.add_zero] at this
    rw [this]
    congr 1
    by_cases c : b' = b
    · subst c; simp [hs]
    · have c2 : ¬ nI b = nI b' := fun z => c ((n_eq (by omega) (by omega)).mp z).symm
      simp [c, c2]
  have y1 : m_ist h 43 (nI b) (cg b + v) = some (q_wr h 43 (.inl (0, 20, .inl (upd cg b (cg b + v))))) := g_is _ (by omega) g1 hb (by decide)
  generalize hA : q_wr h 43 (.inl (0, 20, .inl (upd cg b (cg b + v)))) = A at y1
  have A1 : A.1 = h.1 := by rw [← hA]; rfl
  have AN : ∀ a, a ≠ 43 → A.2.2 a = h.2.2 a := fun a ha => by rw [← hA]; exact wrN ha
  have y2 : m_ist A 42 (nI b) (hd b - 1) = some (q_wr A 42 (.inl (0, 20, .inl (upd hd b (hd b - 1))))) := g_is _ (by omega) ((AN 42 (by decide)).trans b1) hb (by decide)
  generalize hG : q_wr A 42 (.inl (0, 20, .inl (upd hd b (hd b - 1)))) = G at y2
  have G1 : G.1 = h.1 := by rw [← hG]; exact A1
  have GN : ∀ a, a ≠ 43 → a ≠ 42 → G.2.2 a = h.2.2 a := fun a h43 h42 => by rw [← hG, wrN h42]; exact AN a h43
  have G40 : G.2.2 40 = .inr (2, [.ref 41, .ref 42, .ref 43, .int (nI nO), .int lo]) := (GN 40 (by decide) (by decide)).trans hF.2.2.2.2.1
  have G41 : G.2.2 41 = .inl (2, 240, q_R f) := (GN 41 (by decide) (by decide)).trans a1
  have y3 := c_remove (x := some (sp s)) (i0 := i0) (lo := lo) (by omega) G40 G41 n5 i1 (by rw [a2 i0 i1, i2]) (fun i hi hne => by
    rw [a2 i hi]
    intro z
    have z' := Option.some.inj z
    exact ne_ss hO (c1 i hi).1 hs (fun q => hne (inj i i0 hi i1 (q.trans i2.symm))) z') (fun i hi => by
    rw [a2 i hi]
    have hle := (c1 i hi).1
    have q1 := (hS _ hle).1
    exact g_o (h := G) (by have := (hS _ hle).2.1; omega) ((GN _ (by omega) (by omega)).trans (hS _ hle).2.2))
  generalize hP : q_wr G 41 (.inl (2, 240, q_R (q_sf f i0 (nO - 1)))) = P at y3
  have P1 : P.1 = h.1 := by rw [← hP]; exact G1
  generalize hQ : q_wr P 40 (.inr (2, [.ref 41, .ref 42, .ref 43, .int (nI (nO - 1)), .int lo])) = Q at y3
  have Q1 : Q.1 = h.1 := by rw [← hQ]; exact P1
  have QN : ∀ a, a ≠ 40 → a ≠ 41 → a ≠ 42 → a ≠ 43 → Q.2.2 a = h.2.2 a := fun a q1 q2 q3 q4 => by rw [← hQ, wrN q1, ← hP, wrN q2]; exact GN a q4 q3
  have Qs : Q.2.2 (sp s) = .inr (6, q_sc (q_u I 65 b (I 65 b + v)) bx s) := by
    rw [QN _ (by omega) (by omega) (by omega) (by omega), s3]
    unfold q_sc q_br q_sr
    repeat rw [uR (by decide)]
  have y4 := c_lendTo (h := Q) (by omega) Qs (-1) (-1) (-1) (-1)
  rw [show q_l4 (q_u I 65 b (I 65 b + v)) s (-1) (-1) (-1) (-1) = J from hJ] at y4
  generalize hZ : q_wr Q (sp s) (.inr (6, q_sc J bx s)) = Z at y4
  have Z1 : Z.1 = h.1 := by rw [← hZ]; exact Q1
  have ZN : ∀ a, a ≠ sp s → Z.2.2 a = Q.2.2 a := fun a ha => by rw [← hZ]; exact wrN ha
  refine ⟨Z, nO - 1, q_skp le i0, ?_, ?_, ?_⟩
  · unfold f_X3_close
    simp only [Option.bind_some]
    rw [rS7 hS hs, e57]
    simp only [Option.bind_some]
    rw [c_isBor, q_r_nI hb (by omega)]
    simp only [Option.bind_some, q_b0, Bool.true_eq_false, if_false]
    rw [if_pos (oS hS hs), cdue, rF402 hF]
    simp only [Option.bind_some]
    rw [show m_ild h 43 (nI b) = some (cg b) from g_il (by omega) g1 hb (by decide)]
    simp only [Option.bind_some]
    rw [y1]
    simp only [Option.bind_some]
    rw [show m_gr A 40 2 1 = some (some 42) from g_r (some 42) (by omega) ((AN 40 (by decide)).trans hF.2.2.2.2.1) rfl, show m_gi A (sp s) 6 7 = some (nI b) from g_i (by omega) ((AN _ (by omega)).trans s3) (by rw [← e57]; rfl)]
    simp only [Option.bind_some]
    rw [show m_ild A 42 (nI b) = some (hd b) from g_il (by omega) ((AN 42 (by decide)).trans b1) hb (by decide)]
    simp only [Option.bind_some]
    rw [y2]
    simp only [Option.bind_some]
    rw [if_pos (g_o (by omega) G40), y3]
    simp only [Option.bind_some]
    rw [if_pos (g_o (by omega) Qs)]
    unfold f_X7_endLoan
    rw [if_pos (g_o (by omega) Qs), y4]
    rfl
  · refine v_loan w' hs Z1 (fun a q1 q2 => by rw [ZN a q1]; exact QN a (by omega) (by omega) (by omega) (by omega)) (by rw [← hZ]; exact wrE) (by rw [ZN 40 (by omega), ← hQ]; exact wrE) (by omega) ?_ (fun a x x1 x2 hx => JN a x (by omega) hx) JR ?_
    · have sk : ∀ x, x < nO - 1 → ∃ y, y < nO ∧ y ≠ i0 ∧ q_skp le i0 x = le y ∧ (x < i0 → y = x) ∧ (¬ x < i0 → y = x + 1) := fun x hx => by
        unfold q_skp
        by_cases q : x < i0
        · exact ⟨x, by omega, by omega, by rw [if_pos q], fun _ => rfl, fun z => absurd q z⟩
        · exact ⟨x + 1, by omega, by omega, by rw [if_neg q], fun z => absurd z q, fun _ => rfl⟩
      have ns : ∀ y, y < nO → y ≠ i0 → le y ≠ s := fun y hy hne z => hne (inj y i0 hy i1 (z.trans i2.symm))
      refine ⟨⟨q_sf f i0 (nO - 1), by rw [ZN 41 (by omega), ← hQ, wrN (by decide), ← hP]; exact wrE, fun x hx => ?_⟩, ⟨upd hd b (hd b - 1), by rw [ZN 42 (by omega), ← hQ, wrN (by decide), ← hP, wrN (by decide), ← hG]; exact wrE, fun b' hb' => ?_⟩, ⟨upd cg b (cg b + v), by rw [ZN 43 (by omega), ← hQ, wrN (by decide), ← hP, wrN (by decide), ← hG, wrN (by decide), ← hA]; exact wrE, fun b' hb' => ?_⟩, fun x hx => ?_, fun x y hxy hy => ?_, fun x hx hlx => ?_⟩
      · unfold q_sf q_skp
        by_cases q : x < i0
        · rw [if_neg (by omega), if_pos q]; exact a2 x (by omega)
        · rw [if_pos (by omega), if_neg q]; exact a2 (x + 1) (by omega)
      · unfold upd
        have hq := hhld b' hb'
        by_cases q : b' = b
        · subst q
          rw [if_pos rfl] at hq
          rw [if_pos rfl, b2 b' hb', (i_dec (by omega)).1, hq, Nat.add_sub_cancel]
        · rw [if_neg q] at hq
          rw [if_neg q, b2 b' hb', hq]; rfl
      · unfold upd
        rw [J65]
        by_cases q : b' = b
        · rw [if_pos q, if_pos q, g2 b hb]
        · rw [if_neg q, if_neg q]; exact g2 b' hb'
      · obtain ⟨y, q1, q2, q3, -⟩ := sk x hx
        rw [q3]
        refine ⟨(c1 y q1).1, ?_⟩
        rw [JN 57 _ (by decide) (ns y q1 q2)]
        exact (c1 y q1).2
      · obtain ⟨x', p1, p2, p3, p4, p5⟩ := sk x (by omega)
        obtain ⟨y', q1, q2, q3, q4, q5⟩ := sk y hy
        have hlt : x' < y' := by
          by_cases z1 : x < i0
          · have := p4 z1
            by_cases z2 : y < i0
            · have := q4 z2; omega
            · have := q5 z2; omega
          · have := p5 z1
            have := q5 (show ¬ y < i0 by omega)
            omega
        have := c2 x' y' hlt q1
        rw [p3, q3]
        unfold q_bf q_ld at *
        rw [JN 58 _ (by decide) (ns x' p1 p2), JN 59 _ (by decide) (ns x' p1 p2), JN 58 _ (by decide) (ns y' q1 q2), JN 59 _ (by decide) (ns y' q1 q2)]
        exact this
      · have xs : x ≠ s := fun z => hlx (by rw [z]; exact J57)
        rw [JN 57 x (by decide) xs] at hlx
        obtain ⟨i, j1, j2⟩ := c3 x hx hlx
        have hne : i ≠ i0 := fun z => xs (by rw [← j2, z, i2])
        by_cases q : i < i0
        · refine ⟨i, by omega, ?_⟩
          unfold q_skp
          rw [if_pos q]; exact j2
        · refine ⟨i - 1, by omega, ?_⟩
          unfold q_skp
          rw [if_neg (by omega), show i - 1 + 1 = i by omega]; exact j2
    · have ats : q_ats (q_u I 65 b (I 65 b + v)) J s := by rw [← hJ]; exact l4_ats
      have hT0 : q_T (q_u I 65 b (I 65 b + v)) nS nB := T_65 hT
      refine fT hT0 ats ?_ ?_ ?_ ?_ (Or.inl J57) ?_ ?_
      · rw [JR 51 (by omega) (by omega)]; exact hT.1 s hs
      · rw [JR 52 (by omega) (by omega), uR (by decide)]
      · rw [JR 54 (by omega) (by omega), JR 55 (by omega) (by omega), uR (by decide)]; exact hT.2.2.1 s hs
      · rw [JR 56 (by omega) (by omega)]; exact hT.2.2.2.1 s hs
      · exact fcu hT0 hs (by rw [JR 54 (by omega) (by omega), uR (by decide)]) (by rw [JR 55 (by omega) (by omega), uR (by decide)])
      · intro b' hb'
        have := hT.2.2.2.2.2.2.2.2.2.1 b' hb'
        have := hhld b' hb'
        omega
  · rw [← hZ, ← hQ, ← hP, ← hG, ← hA]
    exact q_hf.wr (q_hf.wr (q_hf.wr (q_hf.wr (q_hf.rf.wr (by omega)) (by omega)) (by omega)) (by omega)) (by omega)
theorem d_back (hM : q_M h I nS nB lo ak) (hn : nS ≤ 300) (hT : q_T I nS nB) {s b D : Nat} (hs : s < nS) (hb : b < 20) (e57 : I 57 s = nI b) (hD : D ≤ 100000) (hd : I 58 s ≤ nI D) : ∃ h1, f_X10_giveBack h 44 (nI s) (nI D) = some (q_du I s D, h1) ∧ q_M h1 (q_end I s b (q_du I s D)) nS nB lo ak ∧ q_fr h h1 := by
  have s300 : s < 300 := by omega
  have due := d_due hM hn hT hs hD
  generalize q_du I s D = v at *
  obtain ⟨g1, a1, a2, a3⟩ := wI hM (a := 65) (j := b) (I 65 b + v) (by decide) (by decide) (show b < 20 from hb)
  obtain ⟨g2, b1, b2, b3⟩ := wI a2 (a := 57) (j := s) (-1) (by decide) (by decide) s300
  obtain ⟨g3, c1, c2, c3⟩ := wI b2 (a := 58) (j := s) (-1) (by decide) (by decide) s300
  obtain ⟨g4, d1, d2, d3⟩ := wI c2 (a := 59) (j := s) (-1) (by decide) (by decide) s300
  obtain ⟨g5, e1, e2, e3⟩ := wI d2 (a := 60) (j := s) (-1) (by decide) (by decide) s300
  refine ⟨g5, ?_, e2, (((a3.tr b3).tr c3).tr d3).tr e3⟩
  have hin : f_X10_in (nI D) (I 58 s) 100000 = some 1 := by
    rw [d_in]
    rw [Int32.le_iff_toInt_le] at hd
    rw [decide_eq_true ⟨hd, by rw [nI_toInt (by omega), show (100000 : Int32).toInt = 100000 from rfl]; omega⟩]
    rfl
  unfold f_X10_giveBack
  rw [if_pos (oM hM), d_isSpec hM hn, q_r_nI hs (by omega), rM13 hM]
  simp only [Option.bind_some, q_b0, Bool.true_eq_false, if_false]
  rw [rI hM (a := 57) (by decide) (by decide) s300]
  simp only [Option.bind_some]
  rw [if_neg (by rw [e57]; exact q_nm1 (by omega)), rM14 hM]
  simp only [Option.bind_some]
  rw [rI hM (a := 58) (by decide) (by decide) s300]
  simp only [Option.bind_some]
  rw [hin]
  simp only [Option.bind_some]
  rw [if_neg (by decide), if_pos (oM hM), due, rM22 hM, e57]
  simp only [Option.bind_some]
  rw [rI hM (a := 65) (by decide) (by decide) (show b < 20 from hb)]
  simp only [Option.bind_some]
  rw [a1]
  simp only [Option.bind_some]
  rw [rM13 a2]
  simp only [Option.bind_some]
  rw [b1]
  simp only [Option.bind_some]
  rw [rM14 b2]
  simp only [Option.bind_some]
  rw [c1]
  simp only [Option.bind_some]
  rw [rM15 c2]
  simp only [Option.bind_some]
  rw [d1]
  simp only [Option.bind_some]
  rw [rM16 d2]
  simp only [Option.bind_some]
  rw [e1]
  rfl
theorem e_giveBack (w : q_W h I nS nB lo ak nO sp bx qu own bl le) (x y : Int32) : q_both h (f_X9_giveBack h 0 x y) (fun h1 => f_X10_giveBack h1 44 x y) := by
  have w' := w
  obtain ⟨hM, hV⟩ := w
  have hV' := hV
  obtain ⟨hF, hS, hN, hB, hH, hK, hR, hL, hT, hO⟩ := hV
  have n3 := hF.2.2.2.2.2.2.2.1
  cases hq : q_r x nS with
  | false =>
    refine q_both.no w' (-1) ?_ ?_
    · unfold f_X9_giveBack
      rw [rF00 hF]
      simp only [Option.bind_some]
      rw [if_pos (oF1 hF), c_at hF hN, hq]
      rfl
    · show f_X10_giveBack h 44 x y = _
      unfold f_X10_giveBack
      rw [if_pos (oM hM), d_isSpec hM n3, hq]
      rfl
  | true =>
    obtain ⟨s, hs, rfl⟩ := q_rE hq
    have s300 : s < 300 := by omega
    have hh : f_X9_giveBack h 0 (nI s) y = if q_lent I s = false then some (-1, h) else if q_dy y = false then some (-1, h) else if I 58 s ≤ y then (f_X3_close h 40 (some (sp s)) y).bind fun p22 => some (p22.1, p22.2) else some (-1, h) := by
      unfold f_X9_giveBack
      rw [rF00 hF]
      simp only [Option.bind_some]
      rw [if_pos (oF1 hF), c_at hF hN, hq, q_n_nI (by omega)]
      simp only [Option.bind_some, if_true]
      rw [if_pos (oS hS hs), c_isLent hS hs, c_isDay, rS8 hS hs, rF05 hF]
      simp only [Option.bind_some, q_b0, oF40 hF, if_true]
    rcases hT.2.2.2.2.1 s hs with e | ⟨b, d, t, fe, b1, d1, t1, f1, e1, e2, e3, e4⟩
    · refine q_both.no w' (-1) ?_ ?_
      · rw [hh, if_pos (by unfold q_lent; rw [e]; rfl)]
      · show f_X10_giveBack h 44 (nI s) y = _
        unfold f_X10_giveBack
        rw [if_pos (oM hM), d_isSpec hM n3, hq, rM13 hM]
        simp only [Option.bind_some, q_b0, Bool.true_eq_false, if_false]
        rw [rI hM (a := 57) (by decide) (by decide) s300]
        simp only [Option.bind_some]
        rw [if_pos e]
    · have hl : I 57 s ≠ -1 := by rw [e1]; exact q_nm1 (by omega)
      rw [q_lentT.mpr hl, if_neg (by simp)] at hh
      by_cases c : q_dy y = true ∧ I 58 s ≤ y
      · rw [c.1, if_neg (by simp), if_pos c.2] at hh
        obtain ⟨D, D1, rfl⟩ := q_dyE c.1
        obtain ⟨h1, nO', le', o1, o2, o3⟩ := s_close hV' hs b1 e1 D1
        have hM1 : q_M h1 I nS nB lo ak := fM hM o3.1 o3.2.2.2
        obtain ⟨h2, i1, i2, i3⟩ := d_back hM1 n3 hT hs b1 e1 D1 c.2
        refine q_both.yes o2 (q_hf_le o3 (by omega) (by omega)) i2 i3 (q_du I s D) ?_ i1
        rw [hh, o1]
        rfl
      · refine q_both.no w' (-1) ?_ ?_
        · rw [hh]
          by_cases c1 : q_dy y = true
          · rw [c1, if_neg (by simp), if_neg (fun z => c ⟨c1, z⟩)]
          · rw [if_pos (by simpa using c1)]
        · show f_X10_giveBack h 44 (nI s) y = _
          unfold f_X10_giveBack
          rw [if_pos (oM hM), d_isSpec hM n3, hq, rM13 hM]
          simp only [Option.bind_some, q_b0, Bool.true_eq_false, if_false]
          rw [rI hM (a := 57) (by decide) (by decide) s300]
          simp only [Option.bind_some]
          rw [if_neg hl, rM14 hM]
          simp only [Option.bind_some]
          rw [rI hM (a := 58) (by decide) (by decide) s300]
          simp only [Option.bind_some]
          rw [d_in, decide_eq_false]
          · rfl
          · intro z
            apply c
            rw [e2, nI_toInt (by omega), show (100000 : Int32).toInt = 100000 from rfl] at z
            refine ⟨decide_eq_true ⟨by omega, z.2⟩, ?_⟩
            rw [Int32.le_iff_toInt_le, e2, nI_toInt (by omega)]
            exact z.1
end OPS
