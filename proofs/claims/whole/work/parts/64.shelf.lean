/-! PURE PART 24: move, shelf -/
section OPS
variable {h h' : mH} {I I' : Nat → Nat → Int32} {nS nB nO : Nat} {lo ak : Int32} {sp bx qu bl le : Nat → Nat} {own : Nat → Nat × Nat}
theorem d_used (hM : q_M h I nS nB lo ak) (hn : nS ≤ 300) (x : Int32) : f_X10_used h 44 x = some (q_sum (fun s => if I 56 s = x then I 52 s else 0) nS) := by
  unfold f_X10_used
  have hl := m_for (step := w_X10_used_4 h 44 x) (fun s => (q_sum (fun s => if I 56 s = x then I 52 s else 0) s, nI s)) (q_sum (fun s => if I 56 s = x then I 52 s else 0) nS) nS (by omega) (fun s hs => by
    unfold w_X10_used_4
    dsimp only
    rw [rM6 hM]
    simp only [Option.bind_some]
    rw [if_neg (by rw [n_le (by omega) (by omega)]; omega), rM12 hM, rM8 hM]
    simp only [Option.bind_some]
    rw [rI hM (a := 56) (by decide) (by decide) (show s < 300 by omega), rI hM (a := 52) (by decide) (by decide) (show s < 300 by omega)]
    simp only [Option.bind_some, nI_1]
    show _ = some (Sum.inl (q_sum (fun s => if I 56 s = x then I 52 s else 0) s + (if I 56 s = x then I 52 s else 0), nI (s + 1)))
    by_cases e : I 56 s = x
    · rw [if_pos e, if_pos e]
    · rw [if_neg e, if_neg e]) (by
    unfold w_X10_used_4
    dsimp only
    rw [rM6 hM]
    simp only [Option.bind_some]
    rw [if_pos (Int32.le_refl _)])
  rw [show ((0 : Int32), (0 : Int32)) = (fun s => (q_sum (fun s => if I 56 s = x then I 52 s else 0) s, nI s)) 0 from rfl, hl]
  rfl
theorem u_self {a s : Nat} {v : Int32} (e : I a s = v) : q_u I a s v = I := by
  funext b t
  unfold q_u
  by_cases c : b = a ∧ t = s
  · rw [if_pos c, c.1, c.2, e]
  · rw [if_neg c]
theorem u_twice {a s : Nat} {v u : Int32} : q_u (q_u I a s u) a s v = q_u I a s v := by
  funext b t
  unfold q_u
  by_cases c : b = a ∧ t = s
  · rw [if_pos c, if_pos c]
  · rw [if_neg c, if_neg c, if_neg c]
theorem q_m1 {x : Int32} : x = -1 ↔ x.toInt = -1 := by
  constructor
  · rintro rfl; rfl
  · intro e; apply Int32.toInt_inj.mp; rw [e]; rfl
theorem d_m19 (x : Int32) : f_X10_in x (-1) 9 = some (q_b (decide (x = -1) || q_r x 10)) := by
  rw [d_in, show (-1 : Int32).toInt = -1 from rfl, show (9 : Int32).toInt = 9 from rfl]
  unfold q_r
  congr 2
  by_cases e : x.toInt = -1
  · have e' := q_m1.mpr e
    simp [e, e']
  · have e' : ¬ x = -1 := fun z => e (q_m1.mp z)
    simp only [e', decide_false, Bool.false_or]
    congr 1
    apply propext
    omega
theorem q_sr_eq (hT : q_T I nS nB) {s i : Nat} (hs : s < nS) (hi : i < 10) : (some (6 + i) = q_sr I s) ↔ I 56 s = nI i := by
  unfold q_sr
  rcases hT.2.2.2.1 s hs with e | ⟨i', hi', e⟩
  · rw [if_pos e, e]
    constructor
    · intro z; cases z
    · intro z; exact absurd z.symm (q_nm1 (by omega))
  · rw [if_neg (by rw [e]; exact q_nm1 (by omega)), e, q_n_nI (by omega), n_eq (by omega) (by omega)]
    constructor
    · intro z; have := Option.some.inj z; omega
    · intro z; rw [z]
theorem e_move (w : q_W h I nS nB lo ak nO sp bx qu own bl le) (x y : Int32) : q_both h (f_X9_move h 0 x y) (fun h1 => f_X10_move h1 44 x y) := by
  have w' := w
  obtain ⟨hM, hV⟩ := w
  have hV' := hV
  obtain ⟨hF, hS, hN, hB, hH, hK, hR, hL, hT, hO⟩ := hV
  have n3 := hF.2.2.2.2.2.2.2.1
  have n4 := hF.2.2.2.2.2.2.2.2.1
  cases hx : q_r x nS with
  | false =>
    refine q_both.no w' 0 ?_ ?_
    · unfold f_X9_move
      simp only [rF00 hF, Option.bind_some, oF1 hF, if_true, c_at hF hN, hx]
      rfl
    · show f_X10_move h 44 x y = _
      unfold f_X10_move
      rw [if_pos (oM hM), d_isSpec hM n3, hx]
      rfl
  | true =>
    obtain ⟨s, hs, rfl⟩ := q_rE hx
    obtain ⟨k', hk', ek'⟩ := hT.1 s hs
    have hm : ∀ g : mH, q_M g I nS nB lo ak → f_X10_move g 44 (nI s) y = (if (decide (y = -1) || q_r y 10) = false then some (0, g) else if I 56 s = y then some (0, g) else if I 57 s = -1 then (if y = -1 then (m_ist g 56 (nI s) y).bind fun h26 => some (1, h26) else (m_ild g 63 y).bind fun x32 => (f_X10_above g 44 x32 (I 51 s)).bind fun r41 => if r41 = 0 then some (0, g) else (m_ild g 64 y).bind fun x55 => if q_sum (fun s => if I 56 s = y then I 52 s else 0) nS + I 52 s ≤ x55 then (m_ist g 56 (nI s) y).bind fun h62 => some (1, h62) else some (0, g)) else some (0, g)) := by
      intro g hg
      unfold f_X10_move
      rw [if_pos (oM hg), d_isSpec hg n3, hx, d_m19]
      simp only [Option.bind_some, q_b0, Bool.true_eq_false, if_false, rM12 hg, rM13 hg, rM20 hg, rM7 hg, rM8 hg, rM21 hg, d_used hg n3, oM hg, if_true]
      rw [rI hg (a := 56) (by decide) (by decide) (show s < 300 by omega), rI hg (a := 57) (by decide) (by decide) (show s < 300 by omega), rI hg (a := 51) (by decide) (by decide) (show s < 300 by omega), rI hg (a := 52) (by decide) (by decide) (show s < 300 by omega)]
      simp only [Option.bind_some]
    have hh : f_X9_move h 0 (nI s) y = (if q_lent I s = false then (if y = -1 then (f_X9_leaveShelf h (some (sp s))).bind fun p38 => if p38.1 = 0 then some ((0 : Int32), p38.2) else if p38.1 = 1 then some (1, p38.2) else none else match (if q_r y 10 = true then some (6 + q_n y) else none : Option Nat) with | none => some (0, h) | some b14 => if some b14 = q_sr I s then some (0, h) else if m_ob h b14 5 = true then (f_X6_hasRoomFor h b14 (some (sp s))).bind fun r19 => if r19 = 0 then some (0, h) else (m_gi h b14 5 1).bind fun x23 => (f_X1_standsUnder (I 51 s) x23).bind fun r26 => if r26 = 0 then some (0, h) else (f_X9_leaveShelf h (some (sp s))).bind fun p29 => if m_ob p29.2 b14 5 = true then (f_X6_add p29.2 b14 (some (sp s))).bind fun h31 => (m_pf h31 (sp s) 6 6 (va_rf (some b14))).bind fun h32 => some (1, h32) else none else none) else some (0, h)) := by
      unfold f_X9_move
      simp only [rF00 hF, Option.bind_some, oF1 hF, if_true, c_at hF hN, hx, oS hS hs, c_isLent hS hs, q_b0, oF0 hF, c_shelfAt hF, rS6 hS hs, rS3 hS hs, q_n_nI (show s < 2147483648 by omega)]
      rfl
    cases hl : q_lent I s with
    | true =>
      rw [hl] at hh
      refine q_both.no w' 0 hh ?_
      show f_X10_move h 44 (nI s) y = _
      rw [hm h hM]
      simp only [q_lentT.mp hl, if_false]
      split
      · rfl
      · split <;> rfl
    | false =>
      have hlent := q_lentF hl
      rw [hl] at hh
      simp only [if_true] at hh
      by_cases y1 : y = -1
      · subst y1
        obtain ⟨h1, l1, l2, l3⟩ := s_off hV' hs
        have hM1 : q_M h1 I nS nB lo ak := fM hM l3.1 l3.2.2.2
        rw [if_pos rfl, l1] at hh
        simp only [Option.bind_some] at hh
        by_cases e : I 56 s = -1
        · rw [u_self e] at l2
          rw [if_pos e, if_pos rfl] at hh
          refine q_both.yes l2 (q_hf_le l3 (by omega) (by omega)) hM1 q_fr.rf 0 hh ?_
          show f_X10_move h1 44 (nI s) (-1) = _
          rw [hm h1 hM1, if_neg (by simp), if_pos e]
        · rw [if_neg e, if_neg (by decide), if_pos rfl] at hh
          obtain ⟨g2, i1, i2, i3⟩ := wI hM1 (a := 56) (j := s) (-1) (by decide) (by decide) (show s < 300 by omega)
          refine q_both.yes l2 (q_hf_le l3 (by omega) (by omega)) i2 i3 1 hh ?_
          show f_X10_move h1 44 (nI s) (-1) = _
          rw [hm h1 hM1, if_neg (by simp), if_neg e, if_pos hlent, if_pos rfl, i1]
          rfl
      · rw [if_neg y1] at hh
        cases hy : q_r y 10 with
        | false =>
          rw [hy] at hh
          refine q_both.no w' 0 hh ?_
          show f_X10_move h 44 (nI s) y = _
          rw [hm h hM, hy, if_pos (by simp [y1])]
        | true =>
          obtain ⟨i, hi, rfl⟩ := q_rE hy
          obtain ⟨k2, hk2, ek2⟩ := hT.2.2.2.2.2.2.1 i hi
          rw [hy, q_n_nI (by omega)] at hh
          have room : f_X6_hasRoomFor h (6 + i) (some (sp s)) = some (q_b (decide (q_fil I nS i + I 52 s ≤ I 64 i))) := by
            unfold f_X6_hasRoomFor
            rw [rH4 hF hH hi, rH2 hF hH hi]
            simp only [Option.bind_some, rS1 hS hs]
            by_cases c : q_fil I nS i + I 52 s ≤ I 64 i
            · rw [if_neg (by rw [Int32.lt_iff_toInt_lt]; rw [Int32.le_iff_toInt_le] at c; omega)]
              simp [q_b, c]
            · rw [if_pos (by rw [Int32.lt_iff_toInt_lt]; rw [Int32.le_iff_toInt_le] at c; omega)]
              simp [q_b, c]
          simp only [if_true, q_sr_eq hT hs hi, oH hF hH hi, room, Option.bind_some, q_b0, rH1 hF hH hi, c_under] at hh
          have hm2 : ∀ g : mH, q_M g I nS nB lo ak → f_X10_move g 44 (nI s) (nI i) = (if I 56 s = nI i then some (0, g) else if q_up (I 63 i) (I 51 s) = false then some (0, g) else if q_fil I nS i + I 52 s ≤ I 64 i then (m_ist g 56 (nI s) (nI i)).bind fun h62 => some (1, h62) else some (0, g)) := by
            intro g hg
            rw [hm g hg, hy, if_neg (by simp), if_pos hlent, if_neg y1, rI hg (a := 63) (by decide) (by decide) hi, rI hg (a := 64) (by decide) (by decide) hi]
            simp only [Option.bind_some]
            rw [d_above hg (by rw [ek2]; exact q_kc hk2) (by rw [ek']; exact q_kc hk')]
            simp only [Option.bind_some, q_b0]
            rfl
          by_cases e : I 56 s = nI i
          · rw [if_pos e] at hh
            refine q_both.no w' 0 hh ?_
            show f_X10_move h 44 (nI s) (nI i) = _
            rw [hm2 h hM, if_pos e]
          · rw [if_neg e] at hh
            by_cases c : q_fil I nS i + I 52 s ≤ I 64 i
            · rw [if_neg (by simp [c])] at hh
              cases hu : q_up (I 63 i) (I 51 s) with
              | false =>
                rw [hu] at hh
                refine q_both.no w' 0 hh ?_
                show f_X10_move h 44 (nI s) (nI i) = _
                rw [hm2 h hM, if_neg e, hu, if_pos rfl]
              | true =>
                rw [hu] at hh
                simp only [Bool.true_eq_false, if_false] at hh
                obtain ⟨h1, l1, l2, l3⟩ := s_off hV' hs
                obtain ⟨h2, h3, m1, m2, m3, m4⟩ := s_on l2 hs hi uE
                rw [u_twice] at m3
                rw [l1] at hh
                simp only [Option.bind_some, oH l2.1 l2.2.2.2.2.1 hi, if_true] at hh
                rw [m1] at hh
                simp only [Option.bind_some] at hh
                rw [m2] at hh
                simp only [Option.bind_some] at hh
                have l4 := l3.tr m4
                have hM1 : q_M h3 I nS nB lo ak := fM hM l4.1 l4.2.2.2
                obtain ⟨g2, i1, i2, i3⟩ := wI hM1 (a := 56) (j := s) (nI i) (by decide) (by decide) (show s < 300 by omega)
                refine q_both.yes m3 (q_hf_le l4 (by omega) (by omega)) i2 i3 1 hh ?_
                show f_X10_move h3 44 (nI s) (nI i) = _
                rw [hm2 h3 hM1, if_neg e, hu, if_neg (by simp), if_pos c, i1]
                rfl
            · rw [if_pos (by simp [c])] at hh
              refine q_both.no w' 0 hh ?_
              show f_X10_move h 44 (nI s) (nI i) = _
              rw [hm2 h hM, if_neg e, if_neg c]
              split <;> rfl
/-! shelf -/
theorem d_09 (x : Int32) : f_X10_in x 0 9 = some (q_b (q_r x 10)) := by
  rw [d_in, show (0 : Int32).toInt = 0 from rfl, show (9 : Int32).toInt = 9 from rfl]
  unfold q_r
  congr 3
  apply propext
  omega
theorem q_std_pos {i : Nat} : 0 < q_std I nS i ↔ ∃ s, s < nS ∧ I 56 s = nI i := by
  unfold q_std
  constructor
  · intro hp
    apply Classical.byContradiction
    intro hn
    have := q_cnt0 (P := fun s => I 56 s == nI i) nS (fun s hs => by
      cases e : (I 56 s == nI i) with
      | false => rfl
      | true => exact absurd ⟨s, hs, by simpa using e⟩ hn)
    omega
  · rintro ⟨s, hs, e⟩
    have := q_cnt_lt (P := fun s => I 56 s == nI i) hs (by simp [e])
    omega
theorem s_set (w : q_V h I nS nB lo ak nO sp bx qu own bl le) {i k : Nat} {v : Int32} (hi : i < 10) (hk : k < 24) : ∃ h1 h2, m_pf h (6 + i) 5 1 (.int (nI k)) = some h1 ∧ m_pf h1 (6 + i) 5 2 (.int v) = some h2 ∧ q_V h2 (q_u (q_u I 63 i (nI k)) 64 i v) nS nB lo ak nO sp bx qu own bl le ∧ q_hf h h2 0 0 := by
  obtain ⟨hF, hS, hN, hB, hH, hK, hR, hL, hT, hO⟩ := w
  have a0 : 6 + i < h.1 := by have := hF.1; omega
  have y1 : m_pf h (6 + i) 5 1 (.int (nI k)) = some (q_wr h (6 + i) (.inr (5, (q_hc I nS i).set 1 (.int (nI k))))) := g_p _ a0 (hH i hi) (show 1 < 5 by decide)
  have y2 : m_pf (q_wr h (6 + i) (.inr (5, (q_hc I nS i).set 1 (.int (nI k))))) (6 + i) 5 2 (.int v) = some (q_wr (q_wr h (6 + i) (.inr (5, (q_hc I nS i).set 1 (.int (nI k))))) (6 + i) (.inr (5, ((q_hc I nS i).set 1 (.int (nI k))).set 2 (.int v)))) := g_p _ a0 wrE (show 2 < 5 by decide)
  refine ⟨_, _, y1, y2, ?_, q_hf.wr (q_hf.rf.wr (by omega)) (by omega)⟩
  have lk : ∀ a, a ≠ 6 + i → (q_wr (q_wr h (6 + i) (.inr (5, (q_hc I nS i).set 1 (.int (nI k))))) (6 + i) (.inr (5, ((q_hc I nS i).set 1 (.int (nI k))).set 2 (.int v)))).2.2 a = h.2.2 a := fun a ha => by rw [wrN ha, wrN ha]
  have hI : ∀ a, a ≠ 63 → a ≠ 64 → q_u (q_u I 63 i (nI k)) 64 i v a = I a := fun a a1 a2 => by rw [uR a2, uR a1]
  refine ⟨fF hF (Nat.le_refl _) (fun a ha => lk a (by omega)), fS hS (Nat.le_refl _) (fun s hs => lk _ (by have := (hS s hs).1; omega)) (fun s _ => ?_), fN hN (fun a ha => lk a (by omega)) (fun t _ => by rw [hI 52 (by decide) (by decide)]), fB hB (Nat.le_refl _) (fun j hj => by have := (hB j hj).1; exact ⟨lk _ (by omega), lk _ (by omega)⟩) (hI 61 (by decide) (by decide)) (hI 62 (by decide) (by decide)) (fun t _ => by rw [hI 54 (by decide) (by decide), hI 55 (by decide) (by decide)]; exact ⟨rfl, rfl⟩), ?_, fKs hK (Nat.le_refl _) (fun a a1 a2 => lk a (by omega)) (fun k hk i hi => lk _ (by have := ((hK k hk).2.2 i hi).1; omega)) (fun a a1 a2 => hI a (by omega) (by omega)), fRu hR (lk _ (by omega)) (lk _ (by omega)) (hI 50 (by decide) (by decide)), fLn hL (fun a ha => lk a (by omega)) (fun t _ => by rw [hI 57 (by decide) (by decide), hI 58 (by decide) (by decide), hI 59 (by decide) (by decide)]; exact ⟨rfl, rfl, rfl⟩) (hI 65 (by decide) (by decide)), ?_, fO hO (hI 66 (by decide) (by decide))⟩
  · unfold q_sc q_br q_sr
    rw [hI 51 (by decide) (by decide), hI 52 (by decide) (by decide), hI 53 (by decide) (by decide), hI 54 (by decide) (by decide), hI 55 (by decide) (by decide), hI 56 (by decide) (by decide), hI 57 (by decide) (by decide), hI 58 (by decide) (by decide), hI 59 (by decide) (by decide), hI 60 (by decide) (by decide)]
  · intro i' hi'
    have e1 : q_std (q_u (q_u I 63 i (nI k)) 64 i v) nS i' = q_std I nS i' := by unfold q_std; rw [hI 56 (by decide) (by decide)]
    have e2 : q_fil (q_u (q_u I 63 i (nI k)) 64 i v) nS i' = q_fil I nS i' := by unfold q_fil; rw [hI 56 (by decide) (by decide), hI 52 (by decide) (by decide)]
    rw [e1, e2]
    by_cases c : i' = i
    · subst c
      rw [wrE, uE, uR (by decide), uE]
      rfl
    · rw [lk _ (by omega), uN c, uN c, uN c, uN c]
      exact hH i' hi'
  · obtain ⟨t1, t2, t3, t4, t5, t6, t7, t8, t9, t10, t11⟩ := hT
    unfold q_T n_P q_hld
    rw [hI 51 (by decide) (by decide), hI 52 (by decide) (by decide), hI 54 (by decide) (by decide), hI 55 (by decide) (by decide), hI 56 (by decide) (by decide), hI 57 (by decide) (by decide), hI 58 (by decide) (by decide), hI 59 (by decide) (by decide), hI 60 (by decide) (by decide), hI 61 (by decide) (by decide), hI 62 (by decide) (by decide), hI 66 (by decide) (by decide), hI 67 (by decide) (by decide), hI 69 (by decide) (by decide), hI 70 (by decide) (by decide), hI 50 (by decide) (by decide)]
    refine ⟨t1, t2, t3, t4, t5, t6, fun i' hi' => ?_, t8, t9, t10, t11⟩
    by_cases c : i' = i
    · subst c
      exact ⟨k, hk, by rw [uR (by decide), uE]⟩
    · rw [uN c, uN c]
      exact t7 i' hi'
theorem e_shelf (w : q_W h I nS nB lo ak nO sp bx qu own bl le) (x y z : Int32) : q_both h (f_X9_shelf h 0 x y z) (fun h1 => f_X10_shelf h1 44 x y z) := by
  have w' := w
  obtain ⟨hM, hV⟩ := w
  have hV' := hV
  obtain ⟨hF, hS, hN, hB, hH, hK, hR, hL, hT, hO⟩ := hV
  have n3 := hF.2.2.2.2.2.2.2.1
  have hm : ∀ g : mH, f_X10_shelf g 44 x y z = (if q_r x 10 = false then some (0, g) else if q_k y = false then some (0, g) else if decide (0 ≤ z.toInt ∧ z.toInt ≤ 1000000) = false then some (0, g) else (m_loop (w_X10_shelf_32 g 44 x) 5000 0).bind fun e21 => match e21 with | .inl x22 => (m_gr g 44 9 20).bind fun q23 => q23.bind fun b25 => (m_ist g b25 x y).bind fun h27 => (m_gr h27 44 9 21).bind fun q29 => q29.bind fun b31 => (m_ist h27 b31 x z).bind fun h33 => some (1, h33) | .inr v36 => some v36) := by
    intro g
    unfold f_X10_shelf
    rw [d_09, d_isKind, d_in, show (0 : Int32).toInt = 0 from rfl, show (1000000 : Int32).toInt = 1000000 from rfl]
    simp only [Option.bind_some, q_b0]
    rfl
  have hh : f_X9_shelf h 0 x y z = (match (if q_r x 10 = true then some (6 + q_n x) else none : Option Nat) with | none => some (0, h) | some b3 => (m_gi h b3 5 3).bind fun x4 => if 0 < x4 then some (0, h) else if q_k y = false then some (0, h) else if z < 0 then some (0, h) else if z ≤ 1000000 then (m_pf h b3 5 1 (.int y)).bind fun h12 => (m_pf h12 b3 5 2 (.int z)).bind fun h14 => some (1, h14) else some (0, h)) := by
    unfold f_X9_shelf
    rw [if_pos (oF0 hF), c_shelfAt hF]
    simp only [Option.bind_some, c_isKind, q_b0]
    rfl
  cases hx : q_r x 10 with
  | false =>
    rw [hx] at hh
    exact q_both.no w' 0 hh ((hm h).trans (by rw [hx]; rfl))
  | true =>
    obtain ⟨i, hi, rfl⟩ := q_rE hx
    rw [hx, q_n_nI (by omega)] at hh
    have hsl := q_cnt_le (fun s => I 56 s == nI i) nS
    have hsl' : q_std I nS i ≤ nS := hsl
    simp only [if_true, rH3 hF hH hi, Option.bind_some, show (0 : Int32) = nI 0 from rfl] at hh
    have e0 : (nI 0 < nI (q_std I nS i)) = (∃ s, s < nS ∧ I 56 s = nI i) := by
      rw [n_lt (by omega) (by omega)]
      exact propext q_std_pos
    have loop : ∀ g : mH, q_M g I nS nB lo ak → m_loop (w_X10_shelf_32 g 44 (nI i)) 5000 0 = some (if 0 < q_std I nS i then .inr (0, g) else .inl ()) := by
      intro g hg
      have hl := m_search (step := w_X10_shelf_32 g 44 (nI i)) (fun s => nI s) (fun s => if I 56 s = nI i then some (Sum.inr (0, g)) else none) (Sum.inl ()) nS (by omega) (fun s hs => by
        unfold w_X10_shelf_32
        rw [rM6 hg]
        simp only [Option.bind_some]
        rw [if_neg (by rw [n_le (by omega) (by omega)]; omega), rM12 hg]
        simp only [Option.bind_some]
        rw [rI hg (a := 56) (by decide) (by decide) (show s < 300 by omega)]
        simp only [Option.bind_some, nI_1]
        by_cases e : I 56 s = nI i
        · simp [e]
        · simp [e]) (by
        unfold w_X10_shelf_32
        rw [rM6 hg]
        simp only [Option.bind_some]
        rw [if_pos (Int32.le_refl _)])
      rw [show (0 : Int32) = (fun s => nI s) 0 from rfl, hl]
      congr 1
      rcases q_fst_spec (E := fun s => if I 56 s = nI i then some (Sum.inr (α := Unit) ((0 : Int32), g)) else none) (d := Sum.inl ()) nS 0 with ⟨c1, c2⟩ | ⟨m, c1, c2, c3, c4⟩
      · rw [if_neg]
        · exact c2
        · intro hp
          obtain ⟨s, hs, e⟩ := q_std_pos.mp hp
          have := c1 s (by omega) (by omega)
          rw [if_pos e] at this
          cases this
      · by_cases e : I 56 m = nI i
        · rw [if_pos (q_std_pos.mpr ⟨m, by omega, e⟩)]
          rw [if_pos e] at c4
          exact (Option.some.inj c4).symm
        · rw [if_neg e] at c4
          cases c4
    have no : ∀ b : Bool, (0 < q_std I nS i ∨ q_k y = false ∨ decide (0 ≤ z.toInt ∧ z.toInt ≤ 1000000) = false) → f_X10_shelf h 44 (nI i) y z = some (0, h) := by
      intro _ hc
      rw [hm h, hx, if_neg (by simp)]
      by_cases c1 : q_k y = false
      · rw [if_pos c1]
      · rw [if_neg c1]
        by_cases c2 : decide (0 ≤ z.toInt ∧ z.toInt ≤ 1000000) = false
        · rw [if_pos c2]
        · rw [if_neg c2, loop h hM]
          rcases hc with c | c | c
          · rw [if_pos c]; rfl
          · exact absurd c c1
          · exact absurd c c2
    by_cases c0 : 0 < q_std I nS i
    · rw [if_pos (by rw [e0]; exact q_std_pos.mp c0)] at hh
      exact q_both.no w' 0 hh (no true (Or.inl c0))
    · rw [if_neg (by rw [e0]; exact fun z => c0 (q_std_pos.mpr z))] at hh
      cases hy : q_k y with
      | false =>
        rw [hy] at hh
        exact q_both.no w' 0 hh (no true (Or.inr (Or.inl hy)))
      | true =>
        obtain ⟨k, hk, rfl⟩ := q_kE hy
        rw [hy, if_neg (by simp)] at hh
        simp only [Int32.lt_iff_toInt_lt, Int32.le_iff_toInt_le, show (nI 0).toInt = 0 from rfl, show (1000000 : Int32).toInt = 1000000 from rfl] at hh
        by_cases c1 : 0 ≤ z.toInt ∧ z.toInt ≤ 1000000
        · rw [if_neg (by omega), if_pos c1.2] at hh
          obtain ⟨h1, h2, l1, l2, l3, l4⟩ := s_set hV' (v := z) hi hk
          rw [l1] at hh
          simp only [Option.bind_some] at hh
          rw [l2] at hh
          simp only [Option.bind_some] at hh
          have hM1 : q_M h2 I nS nB lo ak := fM hM l4.1 l4.2.2.2
          obtain ⟨g2, i1, i2, i3⟩ := wI hM1 (a := 63) (j := i) (nI k) (by decide) (by decide) hi
          obtain ⟨g3, j1, j2, j3⟩ := wI i2 (a := 64) (j := i) z (by decide) (by decide) hi
          refine q_both.yes l3 (q_hf_le l4 (by omega) (by omega)) j2 (i3.tr j3) 1 hh ?_
          show f_X10_shelf h2 44 (nI i) (nI k) z = _
          rw [hm h2, hx, if_neg (by simp), hy, if_neg (by simp), if_neg (by simp [c1]), loop h2 hM1, if_neg c0]
          simp only [Option.bind_some]
          rw [rM20 hM1]
          simp only [Option.bind_some]
          rw [i1]
          simp only [Option.bind_some]
          rw [rM21 i2]
          simp only [Option.bind_some]
          rw [j1]
          rfl
        · have : f_X9_shelf h 0 (nI i) (nI k) z = some (0, h) := by
            rw [hh]
            by_cases c2 : z.toInt < 0
            · rw [if_pos c2]; rfl
            · rw [if_neg c2, if_neg (by omega)]; rfl
          exact q_both.no w' 0 this (no true (Or.inr (Or.inr (decide_eq_false c1))))
end OPS
