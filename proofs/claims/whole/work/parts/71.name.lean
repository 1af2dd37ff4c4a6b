/-! PURE PART 31: name -/
section OPS
variable {h h' : mH} {I I' : Nat → Nat → Int32} {nS nB nO : Nat} {lo ak : Int32} {sp bx qu bl le : Nat → Nat} {own : Nat → Nat × Nat}
/-- whether question a holds for specimen s -/
def q_ho (I : Nat → Nat → Int32) (a s : Nat) : Bool := if I 67 a = 60 then decide (¬ I 52 s < I 68 a) else if I 67 a = 61 then decide (¬ I 53 s < I 68 a) else q_up (I 67 a) (I 51 s)
def q_tl (I : Nat → Nat → Int32) (a s : Nat) : Int32 := if q_ho I a s = true then I 69 a else I 70 a
theorem c_tell {b s a : Nat} (hb : b < h.1) (cb : h.2.2 b = .inr (3, q_qc I a)) (hs : sp s < h.1) (cs : h.2.2 (sp s) = .inr (6, q_sc I bx s)) : f_X4_tell h b (some (sp s)) = some (q_tl I a s) := by
  unfold f_X4_tell f_X4_holdsFor q_tl q_ho
  rw [if_pos (g_o hb cb), show m_gi h b 3 0 = some (I 67 a) from g_i hb cb rfl, show m_gi h b 3 1 = some (I 68 a) from g_i hb cb rfl, show m_gi h b 3 2 = some (I 69 a) from g_i hb cb rfl, show m_gi h b 3 3 = some (I 70 a) from g_i hb cb rfl]
  simp only [Option.bind_some]
  rw [show m_gi h (sp s) 6 1 = some (I 52 s) from g_i hs cs rfl, show m_gi h (sp s) 6 2 = some (I 53 s) from g_i hs cs rfl, show m_gi h (sp s) 6 3 = some (I 51 s) from g_i hs cs rfl]
  simp only [Option.bind_some, c_under, q_bb]
  by_cases h1 : I 67 a = 60
  · simp only [h1, if_true]
    by_cases c : I 52 s < I 68 a
    · simp [c]
    · simp [c]
  · simp only [h1, if_false]
    by_cases h2 : I 67 a = 61
    · simp only [h2, if_true]
      by_cases c : I 53 s < I 68 a
      · simp [c]
      · simp [c]
    · simp only [h2, if_false]
      cases q_up (I 67 a) (I 51 s) <;> rfl
theorem d_answer (hM : q_M h I nS nB lo ak) (hn : nS ≤ 300) {a s : Nat} (ha : a < 400) (hs : s < nS) (hk : ∃ k, k < 24 ∧ I 51 s = nI k) (hq : I 67 a = 60 ∨ I 67 a = 61 ∨ q_c (I 67 a) = true) : f_X10_answer h 44 (nI a) (nI s) = some (q_b (q_ho I a s)) := by
  obtain ⟨k, hk, ek⟩ := hk
  unfold f_X10_answer q_ho
  simp only [rM25 hM, rM26 hM, rM8 hM, rM9 hM, rM7 hM, Option.bind_some]
  rw [rI hM (a := 67) (by decide) (by decide) ha, rI hM (a := 68) (by decide) (by decide) ha, rI hM (a := 52) (by decide) (by decide) (show s < 300 by omega), rI hM (a := 53) (by decide) (by decide) (show s < 300 by omega), rI hM (a := 51) (by decide) (by decide) (show s < 300 by omega)]
  simp only [Option.bind_some, oM hM, if_true]
  by_cases h1 : I 67 a = 60
  · simp only [h1, if_true]
    by_cases c : I 52 s < I 68 a
    · simp [c, q_b]
    · simp [c, q_b]
  · simp only [h1, if_false]
    by_cases h2 : I 67 a = 61
    · simp only [h2, if_true]
      by_cases c : I 53 s < I 68 a
      · simp [c, q_b]
      · simp [c, q_b]
    · simp only [h2, if_false]
      rw [d_above hM (by rcases hq with z | z | z; exact absurd z h1; exact absurd z h2; exact z) (by rw [ek]; exact q_kc hk)]
      simp only [Option.bind_some, q_bb]
      cases q_up (I 67 a) (I 51 s) <;> rfl
def q_hk (h : mH) (k n c : Nat) : mH := q_wr h (17 + 2 * k) (.inr (1, [.ref (18 + 2 * k), .int (nI n), .int (nI c)]))
def q_gk (g : mH) (nS nB : Nat) (lo : Int32) (c : Nat) : mH := q_wr g 44 (.inr (9, q_mf nS nB lo (nI c)))
theorem q_gk_M {g : mH} {c : Nat} (hg : q_M g I nS nB lo ak) : q_M (q_gk g nS nB lo c) I nS nB lo (nI c) := ⟨hg.1, wrE, fun a a1 a2 => by unfold q_gk; rw [wrN (by omega)]; exact hg.2.2.1 a a1 a2, hg.2.2.2⟩
theorem q_gk_fr {g : mH} {c : Nat} : q_fr g (q_gk g nS nB lo c) := ⟨rfl, rfl, fun b hb => wrN (by omega)⟩
theorem q_gk_pf {g : mH} {c c' : Nat} (hg : q_M g I nS nB lo ak) : m_pf (q_gk g nS nB lo c) 44 9 29 (.int (nI c')) = some (q_gk g nS nB lo c') := by
  unfold q_gk
  rw [g_pw _ (by have := hg.1; omega) (show 29 < 30 by decide)]
  rfl
theorem q_tell_lt {n : Nat} {v : Int32} (h : q_tell n v) : v < 200 ∨ ∃ m, n < m ∧ m < 40 ∧ v = nI (200 + m) := by
  rcases h with h | h | h
  · rw [h]; exact Or.inl (by decide)
  · have := (q_c100 h).1
    refine Or.inl ?_
    rw [Int32.lt_iff_toInt_lt, show (200 : Int32).toInt = 200 from rfl]
    omega
  · exact Or.inr h
theorem i_200 {k i : Nat} : (40 : Int32) * nI k + nI (200 + i) - 200 = nI (40 * k + i) := by
  rw [i_40, show (200 : Int32) = nI 200 from rfl, pk_sub (by omega), show 40 * k + (200 + i) - 200 = 40 * k + i by omega]
theorem i_200' {i : Nat} : nI (200 + i) - 200 = nI i := by
  rw [show (200 : Int32) = nI 200 from rfl, pk_sub (by omega), show 200 + i - 200 = i by omega]
theorem n_walk (w : q_V h I nS nB lo ak nO sp bx qu own bl le) {g : mH} (hg : q_M g I nS nB lo ak) {k n s : Nat} (hk : k < 10) (hn : n ≤ 40) (en : I 66 k = nI n) (hs : s < nS) : ∀ d i c fuel fuel', 40 - i ≤ d → i < 40 → c ≤ i → d + 1 < fuel → d + 1 < fuel' → ∃ r c' e v, m_loop (w_X2_nameOf_11 (17 + 2 * k) (some (sp s))) fuel (nI (200 + i), nI c, q_hk h k n c) = some e ∧ (match e with | .inl x => some ((x.1, x.2)) | .inr v => some v) = some (r, q_hk h k n c') ∧ m_loop (w_X10_name_29 44 (nI k) (nI s)) fuel' (nI (200 + i), q_gk g nS nB lo c) = some (v, q_gk g nS nB lo c') ∧ (if v < 200 then v else -1) = r := by
  have w' := w
  obtain ⟨hF, hS, hN, hB, hH, hK, hR, hL, hT, hO⟩ := w
  have n71 := hF.1
  have n3 := hF.2.2.2.2.2.2.2.1
  have qn : q_n (I 66 k) = n := by rw [en, q_n_nI (by omega)]
  obtain ⟨-, ⟨f, k2, k3⟩, k4⟩ := hK k hk
  rw [qn] at k3 k4
  obtain ⟨n', m1, m2, m3⟩ := hT.2.2.2.2.2.2.2.1 k hk
  have : n' = n := by rw [en, n_eq (by omega) (by omega)] at m2; exact m2.symm
  subst this
  obtain ⟨s1, s2, s3⟩ := hS s hs
  intro d
  induction d with
  | zero => intro i c fuel fuel' h1 h2; omega
  | succ d ih =>
    intro i c fuel fuel' h1 h2 h3 h4 h5
    obtain ⟨fu, rfl⟩ : ∃ fu, fuel = fu + 1 := ⟨fuel - 1, by omega⟩
    obtain ⟨fv, rfl⟩ : ∃ fv, fuel' = fv + 1 := ⟨fuel' - 1, by omega⟩
    have cK : ∀ c, (q_hk h k n' c).2.2 (17 + 2 * k) = .inr (1, [.ref (18 + 2 * k), .int (nI n'), .int (nI c)]) := fun c => wrE
    have oN : ∀ c x, x ≠ 17 + 2 * k → (q_hk h k n' c).2.2 x = h.2.2 x := fun c x hx => wrN hx
    have hM := q_gk_M (c := c) hg
    have r200 : ¬ nI (200 + i) < 200 := by rw [show (200 : Int32) = nI 200 from rfl, n_lt (by omega) (by omega)]; omega
    have c40 : ¬ (40 : Int32) ≤ nI c := by rw [show (40 : Int32) = nI 40 from rfl, n_le (by omega) (by omega)]; omega
    have i40 : ¬ (40 : Int32) ≤ nI i := by rw [show (40 : Int32) = nI 40 from rfl, n_le (by omega) (by omega)]; omega
    by_cases hi : n' ≤ i
    · refine ⟨-1, c, .inr (-1, q_hk h k n' c), nI (200 + i), ?_, rfl, ?_, if_neg r200⟩
      · unfold m_loop w_X2_nameOf_11
        dsimp only
        rw [if_neg c40, if_neg r200, if_pos (g_o (h := q_hk h k n' c) (show 17 + 2 * k < h.1 by omega) (cK c))]
        unfold f_X2_questionAt
        rw [i_200', if_neg (nI_pos (by omega)), show m_gi (q_hk h k n' c) (17 + 2 * k) 1 1 = some (nI n') from g_i (show 17 + 2 * k < h.1 by omega) (cK c) rfl]
        simp only [Option.bind_some]
        rw [if_pos ((n_le (by omega) (by omega)).mpr hi)]
        rfl
      · unfold m_loop w_X10_name_29
        dsimp only
        rw [if_neg r200, rM24 hM]
        simp only [Option.bind_some]
        rw [rI hM (a := 66) (by decide) (by decide) hk, en]
        simp only [Option.bind_some]
        rw [i_200', if_pos ((n_le (by omega) (by omega)).mpr hi)]
    · have hi' : i < n' := by omega
      obtain ⟨z1, z2, z3⟩ := k4 i hi'
      obtain ⟨u1, u2, u3⟩ := m3 i hi'
      have hM2 := q_gk_M (c := c + 1) hg
      have stepH : w_X2_nameOf_11 (17 + 2 * k) (some (sp s)) (nI (200 + i), nI c, q_hk h k n' c) = some (.inl (q_tl I (40 * k + i) s, nI (c + 1), q_hk h k n' (c + 1))) := by
        unfold w_X2_nameOf_11
        dsimp only
        rw [if_neg c40, if_neg r200, if_pos (g_o (h := q_hk h k n' c) (show 17 + 2 * k < h.1 by omega) (cK c))]
        unfold f_X2_questionAt
        rw [i_200', if_neg (nI_pos (by omega)), show m_gi (q_hk h k n' c) (17 + 2 * k) 1 1 = some (nI n') from g_i (show 17 + 2 * k < h.1 by omega) (cK c) rfl]
        simp only [Option.bind_some]
        rw [if_neg (by rw [n_le (by omega) (by omega)]; omega), if_neg i40, show m_gr (q_hk h k n' c) (17 + 2 * k) 1 0 = some (some (18 + 2 * k)) from g_r (some (18 + 2 * k)) (show 17 + 2 * k < h.1 by omega) (cK c) rfl]
        simp only [Option.bind_some]
        rw [show m_ald (q_hk h k n' c) (18 + 2 * k) (nI i) = some (f i) from g_al (show 18 + 2 * k < h.1 by omega) ((oN c _ (by omega)).trans k2) (by decide) h2 (by decide), k3 i hi']
        simp only [Option.bind_some]
        rw [show m_gi (q_hk h k n' c) (17 + 2 * k) 1 2 = some (nI c) from g_i (show 17 + 2 * k < h.1 by omega) (cK c) rfl]
        simp only [Option.bind_some, nI_1]
        have hp : m_pf (q_hk h k n' c) (17 + 2 * k) 1 2 (.int (nI (c + 1))) = some (q_hk h k n' (c + 1)) := by
          unfold q_hk
          rw [g_pw _ (by omega) (show 2 < 3 by decide)]
          rfl
        rw [hp]
        simp only [Option.bind_some]
        have cq : (q_hk h k n' (c + 1)).2.2 (qu (40 * k + i)) = .inr (3, q_qc I (40 * k + i)) := (oN _ _ (by omega)).trans z3
        rw [if_pos (g_o (h := q_hk h k n' (c + 1)) z2 cq), c_tell (h := q_hk h k n' (c + 1)) (sp := sp) (bx := bx) (s := s) z2 cq s2 ((oN _ _ (by omega)).trans s3)]
        rfl
      have stepM : w_X10_name_29 44 (nI k) (nI s) (nI (200 + i), q_gk g nS nB lo c) = some (.inl (q_tl I (40 * k + i) s, q_gk g nS nB lo (c + 1))) := by
        unfold w_X10_name_29
        dsimp only
        rw [if_neg r200, rM24 hM]
        simp only [Option.bind_some]
        rw [rI hM (a := 66) (by decide) (by decide) hk, en]
        simp only [Option.bind_some]
        rw [i_200', if_neg (by rw [n_le (by omega) (by omega)]; omega), rM29 hM]
        simp only [Option.bind_some, nI_1]
        rw [q_gk_pf hg]
        simp only [Option.bind_some, oM hM2, if_true]
        rw [i_200, d_answer hM2 n3 (show 40 * k + i < 400 by omega) hs (hT.1 s hs) u1]
        simp only [Option.bind_some, q_b0, rM28 hM2, rM27 hM2]
        rw [rI hM2 (a := 70) (by decide) (by decide) (show 40 * k + i < 400 by omega), rI hM2 (a := 69) (by decide) (by decide) (show 40 * k + i < 400 by omega)]
        simp only [Option.bind_some]
        unfold q_tl
        cases q_ho I (40 * k + i) s <;> rfl
      have ht : q_tell i (q_tl I (40 * k + i) s) := by
        unfold q_tl
        split
        · exact u2
        · exact u3
      rcases q_tell_lt ht with hv | ⟨m, v1, v2, v3⟩
      · refine ⟨q_tl I (40 * k + i) s, c + 1, .inl (q_tl I (40 * k + i) s, q_hk h k n' (c + 1)), q_tl I (40 * k + i) s, ?_, rfl, ?_, if_pos hv⟩
        · unfold m_loop
          rw [stepH]
          obtain ⟨fw, rfl⟩ : ∃ fw, fu = fw + 1 := ⟨fu - 1, by omega⟩
          show m_loop _ (fw + 1) _ = _
          unfold m_loop w_X2_nameOf_11
          dsimp only
          by_cases c' : (40 : Int32) ≤ nI (c + 1)
          · rw [if_pos c']
          · rw [if_neg c', if_pos hv]
        · unfold m_loop
          rw [stepM]
          obtain ⟨fw, rfl⟩ : ∃ fw, fv = fw + 1 := ⟨fv - 1, by omega⟩
          show m_loop _ (fw + 1) _ = _
          unfold m_loop w_X10_name_29
          dsimp only
          rw [if_pos hv]
      · obtain ⟨r, c', e, v, x1, x2, x3, x4⟩ := ih m (c + 1) fu fv (by omega) v2 (by omega) (by omega) (by omega)
        refine ⟨r, c', e, v, ?_, x2, ?_, x4⟩
        · unfold m_loop
          rw [stepH, v3]
          exact x1
        · unfold m_loop
          rw [stepM, v3]
          exact x3
theorem s_name (w : q_V h I nS nB lo ak nO sp bx qu own bl le) {k n c : Nat} (hk : k < 10) (en : I 66 k = nI n) : q_V (q_wr (q_hk h k n c) 0 (.inr (8, [.ref 1, .ref 4, .ref 5, .ref 16, .ref 37, .ref 40, .int (nI nB), .int (nI c)]))) I nS nB lo (nI c) nO sp bx qu own bl le := by
  obtain ⟨hF, hS, hN, hB, hH, hK, hR, hL, hT, hO⟩ := w
  have lk : ∀ a, a ≠ 0 → a ≠ 17 + 2 * k → (q_wr (q_hk h k n c) 0 (.inr (8, [.ref 1, .ref 4, .ref 5, .ref 16, .ref 37, .ref 40, .int (nI nB), .int (nI c)]))).2.2 a = h.2.2 a := fun a a1 a2 => by unfold q_hk; rw [wrN a1, wrN a2]
  refine ⟨?_, fS hS (Nat.le_refl _) (fun s hs => by have := (hS s hs).1; exact lk _ (by omega) (by omega)) (fun _ _ => rfl), fN hN (fun a ha => lk a (by omega) (by omega)) (fun _ _ => rfl), fB hB (Nat.le_refl _) (fun j hj => by have := (hB j hj).1; exact ⟨lk _ (by omega) (by omega), lk _ (by omega) (by omega)⟩) rfl rfl (fun _ _ => ⟨rfl, rfl⟩), fHs hH (fun i hi => lk _ (by omega) (by omega)) rfl rfl (fun _ _ => ⟨rfl, rfl⟩), ?_, fRu hR (lk _ (by omega) (by omega)) (lk _ (by omega) (by omega)) rfl, fLn hL (fun a ha => lk a (by omega) (by omega)) (fun _ _ => ⟨rfl, rfl, rfl⟩) rfl, hT, hO⟩
  · obtain ⟨f1, f2, f3, f4, f5, f6, f7, f8⟩ := hF
    exact ⟨f1, wrE, by rw [lk 1 (by decide) (by omega)]; exact f3, by rw [lk 37 (by decide) (by omega)]; exact f4, by rw [lk 40 (by decide) (by omega)]; exact f5, by rw [lk 5 (by decide) (by omega)]; exact f6, by rw [lk 16 (by decide) (by omega)]; exact f7, f8⟩
  · intro k' hk'
    obtain ⟨⟨ka, k1⟩, ⟨f, k2, k3⟩, k4⟩ := hK k' hk'
    refine ⟨?_, ⟨f, by rw [lk _ (by omega) (by omega)]; exact k2, k3⟩, fun i hi => ?_⟩
    · by_cases e : k' = k
      · subst e
        refine ⟨nI c, ?_⟩
        unfold q_hk
        rw [wrN (by omega), wrE, en]
      · exact ⟨ka, by rw [lk _ (by omega) (by omega)]; exact k1⟩
    · obtain ⟨y1, y2, y3⟩ := k4 i hi
      exact ⟨y1, y2, by rw [lk _ (by omega) (by omega)]; exact y3⟩
theorem e_name (w : q_W h I nS nB lo ak nO sp bx qu own bl le) (x y : Int32) : q_both h (f_X9_name h 0 x y) (fun h1 => f_X10_name h1 44 x y) := by
  have w' := w
  obtain ⟨hM, hV⟩ := w
  have hV' := hV
  obtain ⟨hF, hS, hN, hB, hH, hK, hR, hL, hT, hO⟩ := hV
  have n71 := hF.1
  have n3 := hF.2.2.2.2.2.2.2.1
  have hh : f_X9_name h 0 x y = (match (if q_r x 10 = true then some (17 + 2 * q_n x) else none : Option Nat), (if q_r y nS = true then some (sp (q_n y)) else none : Option Nat) with | some b9, some b10 => (if m_ob h b9 1 = true then (f_X2_nameOf h b9 (some b10)).bind fun p12 => (m_gi p12.2 b9 1 2).bind fun x13 => (m_pf p12.2 0 8 7 (.int x13)).bind fun h15 => some ((p12.1, h15)) else none) | _, _ => some ((-1 : Int32), h)) := by
    unfold f_X9_name
    rw [if_pos (oF0 hF), c_keyAt hF, rF00 hF]
    simp only [Option.bind_some, oF1 hF, if_true, c_at hF hN]
    cases (if q_r x 10 = true then some (17 + 2 * q_n x) else none : Option Nat) with
    | none => rfl
    | some b =>
      cases (if q_r y nS = true then some (sp (q_n y)) else none : Option Nat) <;> rfl
  cases hx : q_r x 10 with
  | false =>
    rw [hx] at hh
    refine q_both.no w' (-1) hh ?_
    show f_X10_name h 44 x y = _
    unfold f_X10_name
    rw [d_09, hx]
    rfl
  | true =>
    cases hy : q_r y nS with
    | false =>
      rw [hx, hy] at hh
      refine q_both.no w' (-1) hh ?_
      show f_X10_name h 44 x y = _
      unfold f_X10_name
      rw [d_09, hx, if_pos (oM hM), d_isSpec hM n3, hy]
      rfl
    | true =>
      rw [hx, hy] at hh
      obtain ⟨k, hk, rfl⟩ := q_rE hx
      obtain ⟨s, hs, rfl⟩ := q_rE hy
      rw [q_n_nI (by omega), q_n_nI (by omega)] at hh
      obtain ⟨m1, m2⟩ := kK hT hk
      generalize q_n (I 66 k) = n at m1 m2
      obtain ⟨ka, k1⟩ := (hK k hk).1
      rw [m2] at k1
      have p0 : m_pf h (17 + 2 * k) 1 2 (.int 0) = some (q_hk h k n 0) := g_p _ (by omega) k1 (show 2 < 3 by decide)
      -- the reference's start, over the class's last memory: only its own cells matter
      have go : ∀ g : mH, q_M g I nS nB lo ak → ∃ r c', f_X2_nameOf h (17 + 2 * k) (some (sp s)) = some (r, q_hk h k n c') ∧ f_X10_name g 44 (nI k) (nI s) = some (r, q_gk g nS nB lo c') := by
        intro g hg
        obtain ⟨r, c', e, v, x1, x2, x3, x4⟩ := n_walk hV' hg hk m1 m2 hs 40 0 0 5000 5000 (by omega) (by omega) (by omega) (by omega) (by omega)
        refine ⟨r, c', ?_, ?_⟩
        · unfold f_X2_nameOf
          rw [p0]
          simp only [Option.bind_some]
          have x1' : m_loop (w_X2_nameOf_11 (17 + 2 * k) (some (sp s))) 5000 (200, 0, q_hk h k n 0) = some e := x1
          rw [x1']
          simp only [Option.bind_some]
          exact x2
        · unfold f_X10_name
          rw [d_09, hx, if_pos (oM hg), d_isSpec hg n3, hy]
          simp only [Option.bind_some, q_b0, Bool.true_eq_false, if_false]
          have z0 : m_pf g 44 9 29 (.int 0) = some (q_gk g nS nB lo 0) := g_p _ (by have := hg.1; omega) hg.2.1 (show 29 < 30 by decide)
          rw [z0]
          simp only [Option.bind_some]
          have x3' : m_loop (w_X10_name_29 44 (nI k) (nI s)) 5000 (200, q_gk g nS nB lo 0) = some (v, q_gk g nS nB lo c') := x3
          rw [x3']
          simp only [Option.bind_some]
          rw [← x4]
          split <;> rfl
      obtain ⟨r, c', y1, -⟩ := go h hM
      have cK : (q_hk h k n c').2.2 (17 + 2 * k) = .inr (1, [.ref (18 + 2 * k), .int (nI n), .int (nI c')]) := wrE
      have c0 : (q_hk h k n c').2.2 0 = .inr (8, [.ref 1, .ref 4, .ref 5, .ref 16, .ref 37, .ref 40, .int (nI nB), .int ak]) := (wrN (by omega)).trans hF.2.1
      have y2 : m_gi (q_hk h k n c') (17 + 2 * k) 1 2 = some (nI c') := g_i (show 17 + 2 * k < h.1 by omega) cK rfl
      have y3 : m_pf (q_hk h k n c') 0 8 7 (.int (nI c')) = some (q_wr (q_hk h k n c') 0 (.inr (8, [.ref 1, .ref 4, .ref 5, .ref 16, .ref 37, .ref 40, .int (nI nB), .int (nI c')]))) := g_p (h := q_hk h k n c') _ (show 0 < h.1 by omega) c0 (show 7 < 8 by decide)
      have l2 := s_name (c := c') hV' hk m2
      have l1 : q_hf h (q_wr (q_hk h k n c') 0 (.inr (8, [.ref 1, .ref 4, .ref 5, .ref 16, .ref 37, .ref 40, .int (nI nB), .int (nI c')]))) 0 0 := q_hf.wr (q_hf.rf.wr (by omega)) (by omega)
      simp only [if_true, show m_ob h (17 + 2 * k) 1 = true from g_o (by omega) k1] at hh
      rw [y1] at hh
      simp only [Option.bind_some] at hh
      rw [y2] at hh
      simp only [Option.bind_some] at hh
      rw [y3] at hh
      simp only [Option.bind_some] at hh
      generalize q_wr (q_hk h k n c') 0 (.inr (8, [.ref 1, .ref 4, .ref 5, .ref 16, .ref 37, .ref 40, .int (nI nB), .int (nI c')])) = Q at hh l1 l2
      have hM1 := fM hM l1.1 l1.2.2.2
      obtain ⟨r2, c2, z1, z2⟩ := go Q hM1
      rw [y1] at z1
      have e1 : r = r2 := (Prod.mk.inj (Option.some.inj z1)).1
      have e2 : q_hk h k n c' = q_hk h k n c2 := (Prod.mk.inj (Option.some.inj z1)).2
      have e3 : nI c' = nI c2 := by
        have := congrArg (fun z : mH => z.2.2 (17 + 2 * k)) e2
        simp only [q_hk, wrE] at this
        injection this with this
        injection this with _ this
        injection this with _ this
        injection this with _ this
        injection this with this _
        injection this
      subst e1
      have hMe := q_gk_M (c := c2) hM1
      rw [← e3] at hMe
      exact q_both.yes l2 (q_hf_le l1 (by omega) (by omega)) hMe q_gk_fr r hh z2
end OPS
