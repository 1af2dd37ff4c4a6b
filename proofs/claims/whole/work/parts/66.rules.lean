/-! PURE PART 26: rule, unrule -/
theorem t_most : ∀ f, f < 5 → m_TI 3 (nI f) = some (q_c49.getD f 0) := by decide +kernel
theorem i_49 {c f : Nat} : nI f * (49 : Int32) + nI c = nI (49 * f + c) := by
  rw [show (49 : Int32) = nI 49 from rfl, pk_mul, nI_add]
  congr 1
  omega
theorem b_m1 {j : Nat} (hj : j < 64) : ((-1 : Int64)).toBitVec.getLsbD j = true := by
  rw [show ((-1 : Int64)).toBitVec = BitVec.allOnes 64 from rfl, BitVec.getLsbD_allOnes]
  simp [hj]
section OPS
variable {h h' : mH} {I I' : Nat → Nat → Int32} {nS nB nO : Nat} {lo ak : Int32} {sp bx qu bl le : Nat → Nat} {own : Nat → Nat × Nat}
theorem n_P_u {f c : Nat} {v : Int32} (hf : f < 5) {f' c' : Nat} (hf' : f' < 5) : n_P (q_u I 50 (5 * c + f) v) f' c' = if f' = f ∧ c' = c then decide (v ≠ -1) else n_P I f' c' := by
  unfold n_P
  by_cases e : f' = f ∧ c' = c
  · rw [if_pos e, e.1, e.2, uE]
  · rw [if_neg e, uN (by omega)]
theorem s_rule (w : q_V h I nS nB lo ak nO sp bx qu own bl le) {c f : Nat} {v : Int32} (hc : c < 49) (nc : n_c c = true) (hf : f < 5) (hn : h'.1 = h.1) (lk : ∀ a, a ≠ 38 → a ≠ 39 → h'.2.2 a = h.2.2 a) (hv : v = -1 ∨ (0 ≤ v.toInt ∧ v.toInt ≤ (q_c49.getD f 0).toInt)) (c38 : ∃ ld : Nat → Int64, h'.2.2 38 = .inl (1, 5, .inr (.inl ld)) ∧ ∀ f', f' < 5 → ∀ c', c' < 64 → (ld f').toBitVec.getLsbD c' = (decide (c' < 49) && n_P (q_u I 50 (5 * c + f) v) f' c')) (c39 : ∃ vl, h'.2.2 39 = .inl (0, 245, .inl vl) ∧ ∀ f', f' < 5 → ∀ c', c' < 49 → n_P (q_u I 50 (5 * c + f) v) f' c' = true → vl (49 * f' + c') = q_u I 50 (5 * c + f) v 50 (5 * c' + f')) : q_V h' (q_u I 50 (5 * c + f) v) nS nB lo ak nO sp bx qu own bl le := by
  obtain ⟨hF, hS, hN, hB, hH, hK, hR, hL, hT, hO⟩ := w
  have hn' : h.1 ≤ h'.1 := by omega
  have hI : ∀ a, a ≠ 50 → q_u I 50 (5 * c + f) v a = I a := fun a a1 => uR a1
  refine ⟨fF hF hn' (fun a ha => lk a (by omega) (by omega)), fS hS hn' (fun s hs => by have := (hS s hs).1; exact lk _ (by omega) (by omega)) (fun s _ => ?_), fN hN (fun a ha => lk a (by omega) (by omega)) (fun t _ => by rw [hI 52 (by decide)]), fB hB hn' (fun j hj => by have := (hB j hj).1; exact ⟨lk _ (by omega) (by omega), lk _ (by omega) (by omega)⟩) (hI 61 (by decide)) (hI 62 (by decide)) (fun t _ => by rw [hI 54 (by decide), hI 55 (by decide)]; exact ⟨rfl, rfl⟩), fHs hH (fun i hi => lk _ (by omega) (by omega)) (hI 63 (by decide)) (hI 64 (by decide)) (fun t _ => by rw [hI 56 (by decide), hI 52 (by decide)]; exact ⟨rfl, rfl⟩), fKs hK hn' (fun a a1 a2 => lk a (by omega) (by omega)) (fun k hk i hi => by have := ((hK k hk).2.2 i hi).1; exact lk _ (by omega) (by omega)) (fun a a1 a2 => hI a (by omega)), ⟨c38, c39, fun c' hc' nc' f' hf' => ?_⟩, fLn hL (fun a ha => lk a (by omega) (by omega)) (fun t _ => by rw [hI 57 (by decide), hI 58 (by decide), hI 59 (by decide)]; exact ⟨rfl, rfl, rfl⟩) (hI 65 (by decide)), ?_, fO hO (hI 66 (by decide))⟩
  · unfold q_sc q_br q_sr
    rw [hI 51 (by decide), hI 52 (by decide), hI 53 (by decide), hI 54 (by decide), hI 55 (by decide), hI 56 (by decide), hI 57 (by decide), hI 58 (by decide), hI 59 (by decide), hI 60 (by decide)]
  · rw [uN (by intro z; have : c' = c := by omega
               rw [this, nc] at nc'; cases nc')]
    exact hR.2.2 c' hc' nc' f' hf'
  · obtain ⟨t1, t2, t3, t4, t5, t6, t7, t8, t9, t10, t11⟩ := hT
    unfold q_T q_hld
    rw [hI 51 (by decide), hI 52 (by decide), hI 54 (by decide), hI 55 (by decide), hI 56 (by decide), hI 57 (by decide), hI 58 (by decide), hI 59 (by decide), hI 60 (by decide), hI 61 (by decide), hI 62 (by decide), hI 63 (by decide), hI 66 (by decide), hI 67 (by decide), hI 69 (by decide), hI 70 (by decide)]
    refine ⟨t1, t2, t3, t4, t5, t6, t7, t8, t9, t10, fun f' hf' c' hc' hp => ?_⟩
    rw [n_P_u hf hf'] at hp
    by_cases e : f' = f ∧ c' = c
    · rw [if_pos e] at hp
      rw [e.1, e.2, uE]
      rcases hv with z | z
      · exact absurd z (of_decide_eq_true hp)
      · exact z
    · rw [if_neg e] at hp
      rw [uN (by omega)]
      exact t11 f' hf' c' hc' hp
theorem d_most (hM : q_M h I nS nB lo ak) {f : Nat} (hf : f < 5) : m_ild h 49 (nI f) = some (q_c49.getD f 0) := by
  rw [rI hM (a := 49) (by decide) (by decide) hf, hM.2.2.2 49 (by decide) (by decide) f hf]
  rfl
theorem e_rule (w : q_W h I nS nB lo ak nO sp bx qu own bl le) (x y z : Int32) : q_both h (f_X9_rule h 0 x y z) (fun h1 => f_X10_rule h1 44 x y z) := by
  have w' := w
  obtain ⟨hM, hV⟩ := w
  have hV' := hV
  obtain ⟨hF, hS, hN, hB, hH, hK, hR, hL, hT, hO⟩ := hV
  have hh : f_X9_rule h 0 x y z = (f_X5_lay h 37 x y z).bind fun p6 => if p6.1 = 0 then some (0, p6.2) else if p6.1 = 1 then some (1, p6.2) else none := by
    unfold f_X9_rule
    simp only [rF04 hF, Option.bind_some, oF37 hF, if_true]
  cases hx : q_c x with
  | false =>
    refine q_both.no w' 0 ?_ ?_
    · rw [hh]; unfold f_X5_lay; rw [c_isCode, hx]; rfl
    · show f_X10_rule h 44 x y z = _
      unfold f_X10_rule; rw [d_isCode, hx]; rfl
  | true =>
    obtain ⟨c, hc, nc, rfl⟩ := q_cE hx
    cases hy : q_f y with
    | false =>
      refine q_both.no w' 0 ?_ ?_
      · rw [hh]; unfold f_X5_lay; rw [c_isCode, hx, c_isField, hy]; rfl
      · show f_X10_rule h 44 (nI c) y z = _
        unfold f_X10_rule; rw [d_isCode, hx, d_f, hy]; rfl
    | true =>
      obtain ⟨f, hf, rfl⟩ := q_fE hy
      have hm : ∀ g : mH, q_M g I nS nB lo ak → f_X10_rule g 44 (nI c) (nI f) z = if 0 ≤ z.toInt ∧ z.toInt ≤ (q_c49.getD f 0).toInt then (m_ist g 50 (nI (5 * c + f)) z).bind fun h20 => some (1, h20) else some (0, g) := by
        intro g hg
        unfold f_X10_rule
        rw [d_isCode, hx, d_f, hy, rM4 hg, rM5 hg]
        simp only [Option.bind_some, q_b0, Bool.true_eq_false, if_false]
        rw [d_most hg hf]
        simp only [Option.bind_some, i_5]
        rw [d_in]
        simp only [Option.bind_some, q_b0, show (0 : Int32).toInt = 0 from rfl]
        by_cases cz : 0 ≤ z.toInt ∧ z.toInt ≤ (q_c49.getD f 0).toInt
        · rw [if_neg (by rw [decide_eq_true cz]; simp), if_pos cz]
        · rw [if_pos (by simp only [decide_eq_false_iff_not]; exact cz), if_neg cz]
      have hlay : f_X5_lay h 37 (nI c) (nI f) z = if 0 ≤ z.toInt ∧ z.toInt ≤ (q_c49.getD f 0).toInt then (m_lld h 38 (nI f)).bind fun x15 => (m_lst h 38 (nI f) (x15 ||| ((1 : Int64) <<< ((nI c).toInt64 &&& 63)))).bind fun h17 => (m_gr h17 37 4 1).bind fun q19 => q19.bind fun b21 => (m_ist h17 b21 (nI (49 * f + c)) z).bind fun h23 => some (1, h23) else some (0, h) := by
        unfold f_X5_lay
        rw [c_isCode, hx, c_isField, hy, t_most f hf, rF370 hF]
        simp only [Option.bind_some, q_b0, Bool.true_eq_false, if_false, Int32.lt_iff_toInt_lt, Int32.le_iff_toInt_le, show (0 : Int32).toInt = 0 from rfl, i_49]
        by_cases c1 : z.toInt < 0
        · rw [if_pos c1, if_neg (by omega)]
        · rw [if_neg c1]
          by_cases c2 : z.toInt ≤ (q_c49.getD f 0).toInt
          · rw [if_pos c2, if_pos ⟨by omega, c2⟩]
          · rw [if_neg c2, if_neg (fun q => c2 q.2)]
      by_cases cz : 0 ≤ z.toInt ∧ z.toInt ≤ (q_c49.getD f 0).toInt
      · rw [if_pos cz] at hlay
        obtain ⟨⟨ld, d1, d2⟩, ⟨vl, v1, v2⟩, hR3⟩ := hR
        have a38 : 38 < h.1 := by have := hF.1; omega
        have a39 : 39 < h.1 := by have := hF.1; omega
        have a37 : 37 < h.1 := by have := hF.1; omega
        generalize hA : (.inl (1, 5, .inr (.inl (vp_updL ld f (ld f ||| ((1 : Int64) <<< ((nI c).toInt64 &&& 63)))))) : va_E) = A
        have y1 : m_lst h 38 (nI f) (ld f ||| ((1 : Int64) <<< ((nI c).toInt64 &&& 63))) = some (q_wr h 38 A) := by rw [g_ls _ a38 d1 hf (by decide), hA]; rfl
        have y2 : m_gr (q_wr h 38 A) 37 4 1 = some (some 39) := g_r (some 39) a37 (by rw [wrN (by decide)]; exact hF.2.2.2.1) rfl
        have y3 : m_ist (q_wr h 38 A) 39 (nI (49 * f + c)) z = some (q_wr (q_wr h 38 A) 39 (.inl (0, 245, .inl (upd vl (49 * f + c) z)))) := g_is z a39 (by rw [wrN (by decide)]; exact v1) (by omega) (by decide)
        rw [g_ll a38 d1 hf (by decide)] at hlay
        simp only [Option.bind_some] at hlay
        rw [y1] at hlay
        simp only [Option.bind_some] at hlay
        rw [y2] at hlay
        simp only [Option.bind_some] at hlay
        rw [y3] at hlay
        simp only [Option.bind_some] at hlay
        rw [hlay] at hh
        have zne : z ≠ -1 := fun e => by rw [e, show (-1 : Int32).toInt = -1 from rfl] at cz; omega
        have l1 : q_hf h (q_wr (q_wr h 38 A) 39 (.inl (0, 245, .inl (upd vl (49 * f + c) z)))) 0 0 := q_hf.wr (q_hf.rf.wr (by omega)) (by omega)
        have l2 : q_V (q_wr (q_wr h 38 A) 39 (.inl (0, 245, .inl (upd vl (49 * f + c) z)))) (q_u I 50 (5 * c + f) z) nS nB lo ak nO sp bx qu own bl le := by
          refine s_rule hV' hc nc hf rfl (fun a a1 a2 => by rw [wrN a2, wrN a1]) (Or.inr cz) ⟨_, by rw [wrN (by decide), wrE, ← hA], fun f' hf' c' hc' => ?_⟩ ⟨_, wrE, fun f' hf' c' hc' hp => ?_⟩
          · rw [n_P_u hf hf']
            unfold vp_updL
            by_cases e : f' = f
            · subst e
              rw [if_pos rfl, Int64.toBitVec_or, BitVec.getLsbD_or, d2 f' hf' c' hc', b_1shl (by omega)]
              by_cases e2 : c' = c
              · rw [if_pos ⟨rfl, e2⟩, e2]
                simp [hc, zne]
              · rw [if_neg (fun q => e2 q.2)]
                simp [e2]
            · rw [if_neg e, if_neg (fun q => e q.1)]
              exact d2 f' hf' c' hc'
          · rw [n_P_u hf hf'] at hp
            unfold upd
            by_cases e : f' = f ∧ c' = c
            · rw [e.1, e.2, uE, if_pos rfl]
            · rw [if_neg e] at hp
              rw [if_neg (by omega), uN (by omega)]
              exact v2 f' hf' c' hc' hp
        have hM1 := fM hM l1.1 l1.2.2.2
        obtain ⟨g2, i1, i2, i3⟩ := wI hM1 (a := 50) (j := 5 * c + f) z (by decide) (by decide) (show 5 * c + f < 245 by omega)
        refine q_both.yes l2 (q_hf_le l1 (by omega) (by omega)) i2 i3 1 hh ?_
        exact (hm _ hM1).trans (by rw [if_pos cz, i1]; rfl)
      · rw [if_neg cz] at hlay
        rw [hlay] at hh
        exact q_both.no w' 0 hh ((hm h hM).trans (by rw [if_neg cz]))
theorem e_unrule (w : q_W h I nS nB lo ak nO sp bx qu own bl le) (x y : Int32) : q_both h (f_X9_unrule h 0 x y) (fun h1 => f_X10_unrule h1 44 x y) := by
  have w' := w
  obtain ⟨hM, hV⟩ := w
  have hV' := hV
  obtain ⟨hF, hS, hN, hB, hH, hK, hR, hL, hT, hO⟩ := hV
  have hh : f_X9_unrule h 0 x y = (f_X5_drop h 37 x y).bind fun p6 => if p6.1 = 0 then some (0, p6.2) else if p6.1 = 1 then some (1, p6.2) else none := by
    unfold f_X9_unrule
    simp only [rF04 hF, Option.bind_some, oF37 hF, if_true]
  cases hx : q_c x with
  | false =>
    refine q_both.no w' 0 ?_ ?_
    · rw [hh]; unfold f_X5_drop; rw [c_isCode, hx]; rfl
    · show f_X10_unrule h 44 x y = _
      unfold f_X10_unrule; rw [d_isCode, hx]; rfl
  | true =>
    obtain ⟨c, hc, nc, rfl⟩ := q_cE hx
    cases hy : q_f y with
    | false =>
      refine q_both.no w' 0 ?_ ?_
      · rw [hh]; unfold f_X5_drop; rw [c_isCode, hx, c_isField, hy]; rfl
      · show f_X10_unrule h 44 (nI c) y = _
        unfold f_X10_unrule; rw [d_isCode, hx, d_f, hy]; rfl
    | true =>
      obtain ⟨f, hf, rfl⟩ := q_fE hy
      obtain ⟨⟨ld, d1, d2⟩, ⟨vl, v1, v2⟩, hR3⟩ := hR
      have a38 : 38 < h.1 := by have := hF.1; omega
      have hm : ∀ g : mH, q_M g I nS nB lo ak → f_X10_unrule g 44 (nI c) (nI f) = if n_P I f c = true then (m_ist g 50 (nI (5 * c + f)) (-1)).bind fun h20 => some (1, h20) else some (0, g) := by
        intro g hg
        unfold f_X10_unrule n_P
        rw [d_isCode, hx, d_f, hy, rM5 hg, if_pos (oM hg), d_ruleAt hg hc hf]
        simp only [Option.bind_some, q_b0, Bool.true_eq_false, if_false, i_5]
        by_cases cz : I 50 (5 * c + f) = -1
        · simp [cz]
        · simp [cz]
      have hdrop : f_X5_drop h 37 (nI c) (nI f) = if n_P I f c = true then (m_lst h 38 (nI f) (ld f &&& (((1 : Int64) <<< ((nI c).toInt64 &&& 63)) ^^^ ((-1) : Int64)))).bind fun h22 => some (1, h22) else some (0, h) := by
        unfold f_X5_drop
        rw [c_isCode, hx, c_isField, hy, rF370 hF]
        simp only [Option.bind_some, q_b0, Bool.true_eq_false, if_false]
        rw [g_ll a38 d1 hf (by decide)]
        simp only [Option.bind_some]
        rw [c_has (by omega), d2 f hf c (by omega)]
        simp only [Option.bind_some, q_b0, hc, decide_true, Bool.true_and]
        cases n_P I f c <;> rfl
      cases hp : n_P I f c with
      | false =>
        rw [hp] at hdrop
        rw [hdrop] at hh
        exact q_both.no w' 0 hh ((hm h hM).trans (by rw [hp]; rfl))
      | true =>
        generalize hA : (.inl (1, 5, .inr (.inl (vp_updL ld f (ld f &&& (((1 : Int64) <<< ((nI c).toInt64 &&& 63)) ^^^ ((-1) : Int64)))))) : va_E) = A
        have y1 : m_lst h 38 (nI f) (ld f &&& (((1 : Int64) <<< ((nI c).toInt64 &&& 63)) ^^^ ((-1) : Int64))) = some (q_wr h 38 A) := by rw [g_ls _ a38 d1 hf (by decide), hA]; rfl
        rw [hp, y1] at hdrop
        simp only [if_true, Option.bind_some] at hdrop
        rw [hdrop] at hh
        have l1 : q_hf h (q_wr h 38 A) 0 0 := q_hf.rf.wr (by omega)
        have l2 : q_V (q_wr h 38 A) (q_u I 50 (5 * c + f) (-1)) nS nB lo ak nO sp bx qu own bl le := by
          refine s_rule hV' hc nc hf rfl (fun a a1 a2 => by rw [wrN a1]) (Or.inl rfl) ⟨_, by rw [wrE, ← hA], fun f' hf' c' hc' => ?_⟩ ⟨vl, by rw [wrN (by decide)]; exact v1, fun f' hf' c' hc' hp' => ?_⟩
          · rw [n_P_u hf hf']
            unfold vp_updL
            by_cases e : f' = f
            · subst e
              rw [if_pos rfl, Int64.toBitVec_and, BitVec.getLsbD_and, Int64.toBitVec_xor, BitVec.getLsbD_xor, d2 f' hf' c' hc', b_1shl (by omega), b_m1 hc']
              by_cases e2 : c' = c
              · rw [if_pos ⟨rfl, e2⟩, e2]
                simp
              · rw [if_neg (fun q => e2 q.2)]
                simp [e2]
            · rw [if_neg e, if_neg (fun q => e q.1)]
              exact d2 f' hf' c' hc'
          · rw [n_P_u hf hf'] at hp'
            by_cases e : f' = f ∧ c' = c
            · rw [if_pos e] at hp'
              simp at hp'
            · rw [if_neg e] at hp'
              rw [uN (by omega)]
              exact v2 f' hf' c' hc' hp'
        have hM1 := fM hM l1.1 l1.2.2.2
        obtain ⟨g2, i1, i2, i3⟩ := wI hM1 (a := 50) (j := 5 * c + f) (-1) (by decide) (by decide) (show 5 * c + f < 245 by omega)
        refine q_both.yes l2 (q_hf_le l1 (by omega) (by omega)) i2 i3 1 hh ?_
        exact (hm _ hM1).trans (by rw [hp, i1]; rfl)
end OPS
