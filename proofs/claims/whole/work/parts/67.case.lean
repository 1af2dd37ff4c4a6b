/-! PURE PART 27: new cells; caseOf -/
def q_nw (h : mH) (e : va_E) (z : Nat) : mH := (h.1 + 1, h.2.1 + z, va_up h.2.2 h.1 e)
section NW
variable {h : mH} {b z : Nat} {e : va_E}
theorem nw1 : (q_nw h e z).1 = h.1 + 1 := rfl
theorem nw2 : (q_nw h e z).2.1 = h.2.1 + z := rfl
theorem nwE : (q_nw h e z).2.2 h.1 = e := by unfold q_nw; simp [va_up]
theorem nwN (hn : b ≠ h.1) : (q_nw h e z).2.2 b = h.2.2 b := by unfold q_nw; simp [va_up, hn]
theorem g_newO {ci : Nat} {fs : List Value} : m_newO h ci fs = some (q_nw h (.inr (ci, fs)) fs.length) := rfl
theorem g_newr {t n : Nat} (hn : n ≤ 100000) : m_newr h t (nI n) = some (q_nw h (.inl (t, n, q_R (fun _ => none))) n) := by
  unfold m_newr
  rw [nI_clamp (by omega), if_pos ⟨nI_pos (by omega), hn⟩]
  rfl
theorem q_hf.nw {h1 h2 : mH} {n y : Nat} (hh : q_hf h1 h2 n y) (hg : 71 ≤ h2.1) : q_hf h1 (q_nw h2 e z) (n + 1) (y + z) := ⟨by have := hh.1; rw [nw1]; omega, by have := hh.2.1; rw [nw1]; omega, by have := hh.2.2.1; rw [nw2]; omega, fun x x1 x2 => by rw [nwN (by omega)]; exact hh.2.2.2 x x1 x2⟩
end NW
section OPS
variable {h h' : mH} {I I' : Nat → Nat → Int32} {nS nB nO : Nat} {lo ak : Int32} {sp bx qu bl le : Nat → Nat} {own : Nat → Nat × Nat}
theorem upN {α : Type} {f : Nat → α} {k j : Nat} {v : α} (hn : j ≠ k) : va_up f k v j = f j := by simp [va_up, hn]
theorem upE {α : Type} {f : Nat → α} {k : Nat} {v : α} : va_up f k v k = v := by simp [va_up]
/-- no specimen lies in a case that is yet to come -/
theorem q_who_new (hT : q_T I nS nB) (hn : nB ≤ 40) {p : Nat} : q_who I nS nB p = none := by
  rcases q_fst_opt (Q := fun t => I 54 t = nI nB ∧ I 55 t = nI p) nS 0 with ⟨t, t1, t2, t3, t4, t5⟩ | ⟨t1, t5⟩
  · rcases hT.2.2.1 t (by omega) with ⟨e, -⟩ | ⟨j, p', hj, hp, e1, e2⟩
    · rw [e] at t3
      exact absurd t3.1.symm (q_nm1 (by omega))
    · rw [e1, n_eq (by omega) (by omega)] at t3
      omega
  · exact t5
theorem s_case (w : q_V h I nS nB lo ak nO sp bx qu own bl le) {k z : Nat} (hk : k < 24) (hz1 : 1 ≤ z) (hz2 : z ≤ 20) (hb : nB < 40) (h1 : h'.1 = h.1 + 2) (c0 : h'.2.2 0 = .inr (8, [.ref 1, .ref 4, .ref 5, .ref 16, .ref 37, .ref 40, .int (nI (nB + 1)), .int ak])) (c4 : ∃ f, h.2.2 4 = .inl (3, 40, q_R f) ∧ h'.2.2 4 = .inl (3, 40, q_R (va_up f nB (some h.1)))) (cb : h'.2.2 h.1 = .inr (0, [.int (nI nB), .int (nI k), .ref (h.1 + 1)])) (cp : h'.2.2 (h.1 + 1) = .inl (2, z, q_R (fun _ => none))) (lk : ∀ a, a ≠ 0 → a ≠ 4 → a < h.1 → h'.2.2 a = h.2.2 a) : q_V h' (q_u (q_u I 61 nB (nI k)) 62 nB (nI z)) nS (nB + 1) lo ak nO sp (va_up bx nB h.1) qu (va_up (va_up own h.1 (1, nB)) (h.1 + 1) (2, nB)) bl le := by
  obtain ⟨hF, hS, hN, hB, hH, hK, hR, hL, hT, hO⟩ := w
  have hn' : h.1 ≤ h'.1 := by omega
  have n71 := hF.1
  have hI : ∀ a, a ≠ 61 → a ≠ 62 → q_u (q_u I 61 nB (nI k)) 62 nB (nI z) a = I a := fun a a1 a2 => by rw [uR a2, uR a1]
  have e61 : q_u (q_u I 61 nB (nI k)) 62 nB (nI z) 61 nB = nI k := by rw [uR (by decide), uE]
  have e62 : q_u (q_u I 61 nB (nI k)) 62 nB (nI z) 62 nB = nI z := uE
  have hS1 : ∀ s, s < nS → sp s < h.1 := fun s hs => (hS s hs).2.1
  have hB1 : ∀ j, j < nB → bx j + 1 < h.1 := fun j hj => (hB j hj).2.1
  have hK1 : ∀ k, k < 10 → ∀ i, i < q_n (I 66 k) → qu (40 * k + i) < h.1 := fun k hk i hi => ((hK k hk).2.2 i hi).2.1
  refine ⟨?_, ?_, ?_, ?_, fHs hH (fun i hi => lk _ (by omega) (by omega) (by omega)) (hI 63 (by decide) (by decide)) (hI 64 (by decide) (by decide)) (fun t _ => by rw [hI 56 (by decide) (by decide), hI 52 (by decide) (by decide)]; exact ⟨rfl, rfl⟩), fKs hK hn' (fun a a1 a2 => lk a (by omega) (by omega) (by omega)) (fun k hk i hi => lk _ (by have := ((hK k hk).2.2 i hi).1; omega) (by have := ((hK k hk).2.2 i hi).1; omega) (hK1 k hk i hi)) (fun a a1 a2 => hI a (by omega) (by omega)), fRu hR (lk _ (by decide) (by decide) (by omega)) (lk _ (by decide) (by decide) (by omega)) (hI 50 (by decide) (by decide)), fLn hL (fun a ha => lk a (by omega) (by omega) (by omega)) (fun t _ => by rw [hI 57 (by decide) (by decide), hI 58 (by decide) (by decide), hI 59 (by decide) (by decide)]; exact ⟨rfl, rfl, rfl⟩) (hI 65 (by decide) (by decide)), ?_, ?_⟩
  · obtain ⟨f1, f2, f3, f4, f5, f6, f7, f8, f9, f10⟩ := hF
    exact ⟨by omega, c0, by rw [lk 1 (by decide) (by decide) (by omega)]; exact f3, by rw [lk 37 (by decide) (by decide) (by omega)]; exact f4, by rw [lk 40 (by decide) (by decide) (by omega)]; exact f5, by rw [lk 5 (by decide) (by decide) (by omega)]; exact f6, by rw [lk 16 (by decide) (by decide) (by omega)]; exact f7, f8, by omega, f10⟩
  · intro s hs
    obtain ⟨a1, a2, a3⟩ := hS s hs
    refine ⟨a1, by omega, ?_⟩
    rw [lk _ (by omega) (by omega) a2, a3]
    unfold q_sc q_br q_sr
    rw [hI 51 (by decide) (by decide), hI 52 (by decide) (by decide), hI 53 (by decide) (by decide), hI 54 (by decide) (by decide), hI 55 (by decide) (by decide), hI 56 (by decide) (by decide), hI 57 (by decide) (by decide), hI 58 (by decide) (by decide), hI 59 (by decide) (by decide), hI 60 (by decide) (by decide)]
    rcases hT.2.2.1 s hs with ⟨e, -⟩ | ⟨j, p, hj, hp, e1, e2⟩
    · rw [e]; rfl
    · rw [e1, q_n_nI (by omega), upN (by omega)]
  · obtain ⟨a1, a2, ⟨f, a3, a4⟩, a5, a6⟩ := hN
    obtain ⟨f', d1, d2⟩ := c4
    rw [d1] at a3
    cases a3
    refine ⟨by rw [lk 2 (by decide) (by decide) (by omega)]; exact a1, by rw [lk 3 (by decide) (by decide) (by omega)]; exact a2, ⟨_, d2, fun j hj => ?_⟩, a5, fun i j hij hj => ?_⟩
    · by_cases e : j = nB
      · subst e; rw [upE, upE]
      · rw [upN e, upN e]; exact a4 j (by omega)
    · have := a6 i j hij hj
      unfold q_lt at *
      rw [hI 52 (by decide) (by decide)]
      exact this
  · intro j hj
    by_cases e : j = nB
    · subst e
      rw [upE]
      refine ⟨n71, by omega, by rw [cb, e61], fun _ => none, by rw [cp, e62, q_n_nI (by omega)], fun p _ => ?_⟩
      rw [q_who_congr (I := I) (fun s _ => by rw [hI 54 (by decide) (by decide), hI 55 (by decide) (by decide)]; exact ⟨rfl, rfl⟩), q_who_new hT (by omega)]
      rfl
    · obtain ⟨b1, b2, b3, f, b4, b5⟩ := hB j (by omega)
      rw [upN e]
      refine ⟨b1, by omega, ?_, f, ?_, fun p hp => ?_⟩
      · rw [lk _ (by omega) (by omega) (by omega), uN e, uN e]; exact b3
      · rw [lk _ (by omega) (by omega) (by omega), uN e, uN e]; exact b4
      · rw [uN e, uN e] at hp
        rw [q_who_congr (I := I) (fun s _ => by rw [hI 54 (by decide) (by decide), hI 55 (by decide) (by decide)]; exact ⟨rfl, rfl⟩)]
        exact b5 p hp
  · obtain ⟨t1, t2, t3, t4, t5, t6, t7, t8, t9, t10, t11⟩ := hT
    unfold q_T n_P q_hld
    rw [hI 51 (by decide) (by decide), hI 52 (by decide) (by decide), hI 54 (by decide) (by decide), hI 55 (by decide) (by decide), hI 56 (by decide) (by decide), hI 57 (by decide) (by decide), hI 58 (by decide) (by decide), hI 59 (by decide) (by decide), hI 60 (by decide) (by decide), hI 63 (by decide) (by decide), hI 66 (by decide) (by decide), hI 67 (by decide) (by decide), hI 69 (by decide) (by decide), hI 70 (by decide) (by decide), hI 50 (by decide) (by decide)]
    refine ⟨t1, t2, fun s hs => ?_, t4, t5, fun j hj => ?_, t7, t8, t9, t10, t11⟩
    · rcases t3 s hs with e | ⟨j, p, hj, hp, e1, e2⟩
      · exact Or.inl e
      · exact Or.inr ⟨j, p, by omega, by rw [uN (by omega), uN (by omega)]; exact hp, e1, e2⟩
    · by_cases e : j = nB
      · subst e
        exact ⟨⟨k, hk, e61⟩, z, hz1, hz2, e62⟩
      · rw [uN e, uN e, uN e, uN e]
        exact t6 j (by omega)
  · refine ⟨fun s hs => ?_, fun j hj => ?_, fun k hk i hi => ?_⟩
    · have := hS1 s hs
      rw [upN (by omega), upN (by omega)]
      exact hO.1 s hs
    · by_cases e : j = nB
      · subst e
        rw [upE]
        exact ⟨by rw [upN (by omega), upE], upE⟩
      · have := hB1 j (by omega)
        rw [upN e, upN (by omega), upN (by omega), upN (by omega), upN (by omega)]
        exact hO.2.1 j (by omega)
    · rw [hI 66 (by decide) (by decide)] at hi
      have := hK1 k hk i hi
      rw [upN (by omega), upN (by omega)]
      exact hO.2.2 k hk i hi
theorem d_120 (x : Int32) : f_X10_in x 1 20 = some (q_b (decide (1 ≤ x.toInt ∧ x.toInt ≤ 20))) := by
  rw [d_in]
  rfl
theorem e_caseOf (w : q_W h I nS nB lo ak nO sp bx qu own bl le) (x y : Int32) : q_both h (f_X9_caseOf h 0 x y) (fun h1 => f_X10_caseOf h1 44 x y) := by
  have w' := w
  obtain ⟨hM, hV⟩ := w
  have hV' := hV
  obtain ⟨hF, hS, hN, hB, hH, hK, hR, hL, hT, hO⟩ := hV
  have n4 := hF.2.2.2.2.2.2.2.2.1
  have n71 := hF.1
  cases hx : q_k x with
  | false =>
    refine q_both.no w' (-1) ?_ ?_
    · unfold f_X9_caseOf; rw [c_isKind, hx]; rfl
    · show f_X10_caseOf h 44 x y = _
      unfold f_X10_caseOf; rw [d_isKind, hx]; rfl
  | true =>
    obtain ⟨k, hk, rfl⟩ := q_kE hx
    by_cases hy : 1 ≤ y.toInt ∧ y.toInt ≤ 20
    · obtain ⟨z, hz, rfl⟩ := n_of (n := 21) (x := y) (by omega) (by omega)
      rw [nI_toInt (by omega)] at hy
      have hz1 : 1 ≤ z := by omega
      by_cases hb : nB < 40
      · -- the class
        obtain ⟨f4, a1, a2⟩ := hN.2.2.1
        generalize hA : q_nw h (.inr (0, [.int 0, .int 0, .null])) 3 = A
        have A1 : A.1 = h.1 + 1 := by rw [← hA]; rfl
        have A3 : A.2.1 = h.2.1 + 3 := by rw [← hA]; rfl
        have AE : A.2.2 h.1 = .inr (0, [.int 0, .int 0, .null]) := by rw [← hA]; exact nwE
        have AN : ∀ a, a < h.1 → A.2.2 a = h.2.2 a := fun a ha => by rw [← hA]; exact nwN (by omega)
        generalize hC : q_wr (q_wr A h.1 (.inr (0, [.int (nI nB), .int 0, .null]))) h.1 (.inr (0, [.int (nI nB), .int (nI k), .null])) = C
        have C1 : C.1 = h.1 + 1 := by rw [← hC]; exact A1
        have CE : C.2.2 h.1 = .inr (0, [.int (nI nB), .int (nI k), .null]) := by rw [← hC]; exact wrE
        have CN : ∀ a, a < h.1 → C.2.2 a = h.2.2 a := fun a ha => by rw [← hC, wrN (by omega), wrN (by omega)]; exact AN a ha
        generalize hD : q_nw C (.inl (2, z, q_R (fun _ => none))) z = D
        have D1 : D.1 = h.1 + 2 := by rw [← hD, nw1]; omega
        have DE : D.2.2 h.1 = .inr (0, [.int (nI nB), .int (nI k), .null]) := by rw [← hD, nwN (by omega)]; exact CE
        have DP : D.2.2 (h.1 + 1) = .inl (2, z, q_R (fun _ => none)) := by rw [← hD, ← C1]; exact nwE
        have DN : ∀ a, a < h.1 → D.2.2 a = h.2.2 a := fun a ha => by rw [← hD, nwN (by omega)]; exact CN a ha
        generalize hG : q_wr D h.1 (.inr (0, [.int (nI nB), .int (nI k), .ref (h.1 + 1)])) = G
        have G1 : G.1 = h.1 + 2 := by rw [← hG]; exact D1
        have GE : G.2.2 h.1 = .inr (0, [.int (nI nB), .int (nI k), .ref (h.1 + 1)]) := by rw [← hG]; exact wrE
        have GN : ∀ a, a < h.1 → G.2.2 a = h.2.2 a := fun a ha => by rw [← hG, wrN (by omega)]; exact DN a ha
        have GP : G.2.2 (h.1 + 1) = .inl (2, z, q_R (fun _ => none)) := by rw [← hG, wrN (by omega)]; exact DP
        have init : f_X0_init A h.1 (nI nB) (nI k) (nI z) = some G := by
          unfold f_X0_init
          rw [g_p (.int (nI nB)) (by omega) AE (show 0 < 3 by decide)]
          simp only [Option.bind_some]
          have y2 := g_p (h := q_wr A h.1 (.inr (0, [.int (nI nB), .int 0, .null]))) (k := 1) (.int (nI k)) (show h.1 < A.1 by omega) wrE (show 1 < 3 by decide)
          have y2' : m_pf (A.1, A.2.1, va_up A.2.2 h.1 (.inr (0, ([.int 0, .int 0, .null] : List Value).set 0 (.int (nI nB))))) h.1 0 1 (.int (nI k)) = some C := y2.trans (by rw [← hC]; rfl)
          rw [y2']
          simp only [Option.bind_some]
          rw [if_pos (by rw [show (0 : Int32) = nI 0 from rfl, n_lt (by omega) (by omega)]; omega), g_newr (by omega), hD]
          simp only [Option.bind_some]
          rw [g_p (va_rf (some C.1)) (by omega) DE (show 2 < 3 by decide), C1]
          simp only [Option.bind_some]
          rw [← hG]
          rfl
        have b4 : G.2.2 4 = .inl (3, 40, q_R f4) := (GN 4 (by omega)).trans a1
        generalize hP : q_wr G 4 (.inl (3, 40, q_R (va_up f4 nB (some h.1)))) = P
        have y5 : m_ast G 4 (nI nB) (some h.1) = some P := by
          rw [g_as (some h.1) (by omega) b4 (by decide) hb (by decide) (show m_okq G (some h.1) 0 = true from g_o (by omega) GE), ← hP]
          rfl
        have P0 : P.2.2 0 = .inr (8, [.ref 1, .ref 4, .ref 5, .ref 16, .ref 37, .ref 40, .int (nI nB), .int ak]) := by rw [← hP, wrN (by decide), GN 0 (by omega)]; exact hF.2.1
        have P1 : P.1 = h.1 + 2 := by rw [← hP]; exact G1
        have y6 : m_gi P 0 8 6 = some (nI nB) := g_i (by omega) P0 rfl
        have y7 : m_pf P 0 8 6 (.int (nI (nB + 1))) = some (q_wr P 0 (.inr (8, [.ref 1, .ref 4, .ref 5, .ref 16, .ref 37, .ref 40, .int (nI (nB + 1)), .int ak]))) := g_p _ (by omega) P0 (show 6 < 8 by decide)
        generalize hQ : q_wr P 0 (.inr (8, [.ref 1, .ref 4, .ref 5, .ref 16, .ref 37, .ref 40, .int (nI (nB + 1)), .int ak])) = Q at y7
        have Q0 : Q.2.2 0 = .inr (8, [.ref 1, .ref 4, .ref 5, .ref 16, .ref 37, .ref 40, .int (nI (nB + 1)), .int ak]) := by rw [← hQ]; exact wrE
        have Q1 : Q.1 = h.1 + 2 := by rw [← hQ]; exact P1
        have y8 : m_gi Q 0 8 6 = some (nI (nB + 1)) := g_i (by omega) Q0 rfl
        have hh : f_X9_caseOf h 0 (nI k) (nI z) = some (nI nB, Q) := by
          unfold f_X9_caseOf
          rw [c_isKind, hx, rF06 hF, rF01 hF]
          simp only [Option.bind_some, q_b0, Bool.true_eq_false, if_false]
          rw [if_neg (by rw [show (1 : Int32) = nI 1 from rfl, n_lt (by omega) (by omega)]; omega), if_neg (by rw [show (20 : Int32) = nI 20 from rfl, n_lt (by omega) (by omega)]; omega), if_pos (by rw [show (40 : Int32) = nI 40 from rfl, n_lt (by omega) (by omega)]; omega), g_newO]
          simp only [Option.bind_some]
          have e3 : q_nw h (.inr (0, ([.int 0, .int 0, .null] : List Value))) ([.int 0, .int 0, .null] : List Value).length = A := hA
          have y0 : m_gi A 0 8 6 = some (nI nB) := g_i (by omega) ((AN 0 (by omega)).trans hF.2.1) rfl
          rw [e3, y0]
          simp only [Option.bind_some]
          rw [init]
          simp only [Option.bind_some]
          rw [y5]
          simp only [Option.bind_some]
          rw [y6]
          simp only [Option.bind_some, nI_1]
          rw [y7]
          simp only [Option.bind_some]
          rw [y8]
          simp only [Option.bind_some]
          rw [← nI_1, i_ac]
        have l1 : q_hf h Q 2 (3 + z) := by
          rw [← hQ, ← hP, ← hG]
          refine q_hf.wr (q_hf.wr (q_hf.wr ?_ (by omega)) (by omega)) (by omega)
          rw [← hD]
          refine q_hf.nw (n := 1) (y := 3) ?_ (by omega)
          rw [← hC]
          refine q_hf.wr (q_hf.wr ?_ (by omega)) (by omega)
          rw [← hA]
          exact q_hf.nw (n := 0) (y := 0) q_hf.rf n71
        have l2 := s_case (h' := Q) hV' hk hz1 (show z ≤ 20 by omega) hb Q1 Q0 ⟨f4, a1, by rw [← hQ, wrN (by decide), ← hP]; exact wrE⟩ (by rw [← hQ, wrN (by omega), ← hP, wrN (by omega)]; exact GE) (by rw [← hQ, wrN (by omega), ← hP, wrN (by omega)]; exact GP) (fun a a1 a2 a3 => by rw [← hQ, wrN a1, ← hP, wrN a2]; exact GN a a3)
        have hM1 := fM hM l1.1 l1.2.2.2
        obtain ⟨g2, i1, i2, i3⟩ := wI hM1 (a := 61) (j := nB) (nI k) (by decide) (by decide) hb
        obtain ⟨g3, j1, j2, j3⟩ := wI i2 (a := 62) (j := nB) (nI z) (by decide) (by decide) hb
        obtain ⟨g4, o1, o2, o3⟩ := wF j2 (k := 17) (v := nI (nB + 1)) (nS' := nS) (nB' := nB + 1) (lo' := lo) (ak' := ak) (by decide) rfl
        refine q_both.yes l2 (q_hf_le l1 (by omega) (by omega)) o2 ((i3.tr j3).tr o3) (nI nB) hh ?_
        show f_X10_caseOf Q 44 (nI k) (nI z) = _
        unfold f_X10_caseOf
        rw [d_isKind, hx, d_120, rM17 hM1, rM18 hM1]
        simp only [Option.bind_some, q_b0, Bool.true_eq_false, if_false]
        rw [if_neg (by rw [nI_toInt (by omega)]; simp; omega), if_neg (by rw [show (40 : Int32) = nI 40 from rfl, n_eq (by omega) (by omega)]; omega), i1]
        simp only [Option.bind_some]
        rw [rM19 i2, rM17 i2]
        simp only [Option.bind_some]
        rw [j1]
        simp only [Option.bind_some]
        rw [rM17 j2]
        simp only [Option.bind_some, nI_1]
        rw [o1]
        simp only [Option.bind_some]
        rw [rM17 o2]
        simp only [Option.bind_some]
        rw [← nI_1, i_ac]
      · have hb40 : nB = 40 := by omega
        subst hb40
        refine q_both.no w' (-1) ?_ ?_
        · unfold f_X9_caseOf
          rw [c_isKind, hx, rF06 hF]
          simp only [Option.bind_some, q_b0, Bool.true_eq_false, if_false]
          rw [if_neg (show ¬ nI 40 < 40 by decide)]
          split
          · rfl
          · split <;> rfl
        · show f_X10_caseOf h 44 (nI k) (nI z) = _
          unfold f_X10_caseOf
          rw [d_isKind, hx, d_120, rM17 hM]
          simp only [Option.bind_some, q_b0, Bool.true_eq_false, if_false]
          rw [if_pos (show nI 40 = 40 by decide)]
          split <;> rfl
    · refine q_both.no w' (-1) ?_ ?_
      · unfold f_X9_caseOf
        rw [c_isKind, hx]
        simp only [Option.bind_some, q_b0, Bool.true_eq_false, if_false, Int32.lt_iff_toInt_lt, show (1 : Int32).toInt = 1 from rfl, show (20 : Int32).toInt = 20 from rfl]
        by_cases c1 : y.toInt < 1
        · rw [if_pos c1]
        · rw [if_neg c1, if_pos (by omega)]
      · show f_X10_caseOf h 44 (nI k) y = _
        unfold f_X10_caseOf
        rw [d_isKind, hx, d_120, decide_eq_false hy]
        rfl
end OPS
