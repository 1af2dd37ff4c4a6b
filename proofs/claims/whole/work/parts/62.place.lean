/-! PURE PART 22: into a place, off a shelf, onto a shelf -/
theorem q_cnt_upd {P P' : Nat → Bool} {s : Nat} : ∀ n, (∀ t, t < n → t ≠ s → P' t = P t) → q_cnt P n + (if s < n ∧ P' s = true then 1 else 0) = q_cnt P' n + (if s < n ∧ P s = true then 1 else 0)
  | 0, _ => by simp [q_cnt]
  | n + 1, hh => by
    have ih := q_cnt_upd (P := P) (P' := P') (s := s) n (fun t ht hn => hh t (by omega) hn)
    show q_cnt P n + (if P n = true then 1 else 0) + _ = q_cnt P' n + (if P' n = true then 1 else 0) + _
    by_cases e : n = s
    · subst e
      simp only [Nat.lt_irrefl, false_and, if_false, Nat.add_zero] at ih
      simp only [Nat.lt_succ_self, true_and]
      rw [ih]
      omega
    · rw [hh n (by omega) e]
      have e1 : (s < n + 1) = (s < n) := propext ⟨fun h => by omega, fun h => by omega⟩
      simp only [e1]
      omega
theorem i_sw (a b c : Int32) : a + b + c = a + c + b := by rw [Int32.add_assoc, Int32.add_comm b c, ← Int32.add_assoc]
theorem q_sum_upd {g g' : Nat → Int32} {s : Nat} : ∀ n, (∀ t, t < n → t ≠ s → g' t = g t) → q_sum g n + (if s < n then g' s else 0) = q_sum g' n + (if s < n then g s else 0)
  | 0, _ => by simp [q_sum]
  | n + 1, hh => by
    have ih := q_sum_upd (g := g) (g' := g') (s := s) n (fun t ht hn => hh t (by omega) hn)
    show q_sum g n + g n + _ = q_sum g' n + g' n + _
    by_cases e : n = s
    · subst e
      rw [if_neg (by omega), if_neg (by omega), Int32.add_zero, Int32.add_zero] at ih
      rw [if_pos (by omega), if_pos (by omega), ih, i_sw]
    · rw [hh n (by omega) e]
      by_cases hs : s < n
      · rw [if_pos hs, if_pos hs] at ih
        rw [if_pos (by omega), if_pos (by omega), i_sw, ih, i_sw]
      · rw [if_neg hs, if_neg hs] at ih
        rw [if_neg (by omega), if_neg (by omega), i_sw, ih, i_sw]
theorem i_ac (a b : Int32) : a + b - b = a := by rw [Int32.sub_eq_add_neg, Int32.add_assoc, ← Int32.sub_eq_add_neg, Int32.sub_self, Int32.add_zero]
section STP
variable {h h' : mH} {I I' : Nat → Nat → Int32} {nS nB nO : Nat} {lo ak : Int32} {sp bx qu bl le : Nat → Nat} {own : Nat → Nat × Nat}
theorem q_who_in {s j p : Nat} (hs : s < nS) (e1 : I 54 s = -1) (hw : q_who I nS j p = none) (j' p' : Nat) (hj : j < 100) (hj' : j' < 100) (hp' : p' < 100) (hp : p < 100) : q_who (q_u (q_u I 54 s (nI j)) 55 s (nI p)) nS j' p' = if j' = j ∧ p' = p then some s else q_who I nS j' p' := by
  by_cases c : j' = j ∧ p' = p
  · rw [if_pos c]
    rcases q_fst_opt (Q := fun t => q_u (q_u I 54 s (nI j)) 55 s (nI p) 54 t = nI j' ∧ q_u (q_u I 54 s (nI j)) 55 s (nI p) 55 t = nI p') nS 0 with ⟨t, t1, t2, t3, t4, t5⟩ | ⟨t1, t5⟩
    · by_cases e : t = s
      · subst e
        exact t5
      · rw [uN e, uN e, uN e, uN e, c.1, c.2] at t3
        exact absurd t3 (q_who_none hw t (by omega))
    · have := t1 s (by omega) (by omega)
      rw [uR (by decide), uE, uE, c.1, c.2] at this
      exact absurd ⟨rfl, rfl⟩ this
  · rw [if_neg c]
    unfold q_who
    apply q_fst_congr
    intro t _ ht
    by_cases e : t = s
    · subst e
      rw [uR (by decide), uE, uE, e1, if_neg, if_neg (fun z => q_nm1 (by omega) z.1.symm)]
      intro z
      exact c ⟨((n_eq (by omega) (by omega)).mp z.1).symm, ((n_eq (by omega) (by omega)).mp z.2).symm⟩
    · rw [uN e, uN e, uN e, uN e]
theorem s_enter (w : q_V h I nS nB lo ak nO sp bx qu own bl le) {s j p : Nat} (hs : s < nS) (hj : j < nB) (hp : p < q_n (I 62 j)) (e0 : I 54 s = -1) (hw : q_who I nS j p = none) : ∃ h1 h2 h3, f_X0_set h (bx j) (nI p) (some (sp s)) = some h1 ∧ m_pf h1 (sp s) 6 4 (va_rf (some (bx j))) = some h2 ∧ m_pf h2 (sp s) 6 5 (.int (nI p)) = some h3 ∧ q_V h3 (q_u (q_u I 54 s (nI j)) 55 s (nI p)) nS nB lo ak nO sp bx qu own bl le ∧ q_hf h h3 0 0 := by
  have w' := w
  obtain ⟨hF, hS, hN, hB, hH, hK, hR, hL, hT, hO⟩ := w
  obtain ⟨s1, s2, s3⟩ := hS s hs
  have n4 := hF.2.2.2.2.2.2.2.2.1
  obtain ⟨b1, b2, b3, f, b4, b5⟩ := hB j hj
  obtain ⟨-, z, z1, z2, z3⟩ := hT.2.2.2.2.2.1 j hj
  have hz : q_n (I 62 j) = z := by rw [z3, q_n_nI (by omega)]
  have hp0 := hp
  rw [hz] at hp b4 b5
  generalize hA : (.inl (2, z, q_R (va_up f p (some (sp s)))) : va_E) = A
  have y0 : f_X0_set h (bx j) (nI p) (some (sp s)) = some (q_wr h (bx j + 1) A) := by
    unfold f_X0_set
    rw [if_pos (oB hB hj), c_hasPlace hB hT hj, rB2 hB hj]
    simp only [Option.bind_some, q_b0]
    rw [hz, q_r_nI hp (by omega), if_neg (by simp), g_as (some (sp s)) b2 b4 (by decide) hp (by omega) (show m_okq h (some (sp s)) 6 = true from oS hS hs), hA]
    rfl
  have x1 : (q_wr h (bx j + 1) A).2.2 (sp s) = .inr (6, q_sc I bx s) := by rw [wrN (ne_sp hO hs hj)]; exact s3
  have y1 := g_p (h := q_wr h (bx j + 1) A) (k := 4) (va_rf (some (bx j))) s2 x1 (show 4 < 11 by decide)
  have x2 : (q_wr (q_wr h (bx j + 1) A) (sp s) (.inr (6, (q_sc I bx s).set 4 (va_rf (some (bx j)))))).2.2 (sp s) = .inr (6, (q_sc I bx s).set 4 (va_rf (some (bx j)))) := wrE
  have y2 := g_p (h := q_wr (q_wr h (bx j + 1) A) (sp s) (.inr (6, (q_sc I bx s).set 4 (va_rf (some (bx j)))))) (k := 5) (.int (nI p)) s2 x2 (show 5 < 11 by decide)
  refine ⟨_, _, q_wr (q_wr (q_wr h (bx j + 1) A) (sp s) (.inr (6, (q_sc I bx s).set 4 (va_rf (some (bx j)))))) (sp s) (.inr (6, ((q_sc I bx s).set 4 (va_rf (some (bx j)))).set 5 (.int (nI p)))), y0, y1, y2, ?_, (q_hf.wr (q_hf.wr (q_hf.rf.wr (h1 := h) (by omega)) (by omega)) (by omega))⟩
  have hI : q_ats I (q_u (q_u I 54 s (nI j)) 55 s (nI p)) s := (q_ats.rf.u (by decide) (by decide)).u (by decide) (by decide)
  have lk : ∀ a, a ≠ sp s → a ≠ bx j + 1 → (q_wr (q_wr (q_wr h (bx j + 1) A) (sp s) (.inr (6, (q_sc I bx s).set 4 (va_rf (some (bx j)))))) (sp s) (.inr (6, ((q_sc I bx s).set 4 (va_rf (some (bx j)))).set 5 (.int (nI p))))).2.2 a = h.2.2 a := fun a a1 a2 => by rw [wrN a1, wrN a1, wrN a2]
  refine v_spec w' hs rfl (fun a a1 a2 => lk a (by omega) (by omega)) ?_ (fun t ht hn => lk _ (ne_ss hO ht hs hn) (ne_sp hO ht hj)) (fun k hk i hi => lk _ (ne_sq hO hs hk hi).symm (ne_pq hO hj hk hi).symm) ?_ (fHs hH (fun i hi => lk _ (by omega) (by omega)) (hI.2 63 (by omega)) (hI.2 64 (by omega)) (fun t _ => ⟨by repeat rw [uR (by decide)], by repeat rw [uR (by decide)]⟩)) hI (by repeat rw [uR (by decide)]) (by repeat rw [uR (by decide)]) (by repeat rw [uR (by decide)]) (by repeat rw [uR (by decide)]) ?_
  · rw [wrE]
    have e54 : q_u (q_u I 54 s (nI j)) 55 s (nI p) 54 s = nI j := by rw [uR (by decide), uE]
    unfold q_sc q_br q_sr
    rw [uE, e54, if_neg (q_nm1 (by omega)), q_n_nI (by omega)]
    repeat rw [uR (by decide)]
    rfl
  · intro j' hj'
    obtain ⟨b1', b2', b3', f', b4', b5'⟩ := hB j' hj'
    obtain ⟨-, z', z1', z2', z3'⟩ := hT.2.2.2.2.2.1 j' hj'
    have hz' : q_n (I 62 j') = z' := by rw [z3', q_n_nI (by omega)]
    rw [hI.2 61 (by omega), hI.2 62 (by omega)]
    refine ⟨b1', b2', by rw [lk _ (ne_sb hO hs hj').symm (ne_bp hO hj' hj)]; exact b3', ?_⟩
    by_cases ej : j' = j
    · subst ej
      refine ⟨va_up f p (some (sp s)), ?_, fun p' hp' => ?_⟩
      · rw [wrN (ne_sp hO hs hj).symm, wrN (ne_sp hO hs hj).symm, wrE, hz, hA]
      · rw [hz] at hp'
        rw [q_who_in hs e0 hw j' p' (by omega) (by omega) (by omega) (by omega)]
        unfold va_up
        by_cases ep : p' = p
        · rw [if_pos ep, if_pos ⟨rfl, ep⟩]; rfl
        · rw [if_neg ep, if_neg (fun z => ep z.2)]
          exact b5 p' hp'
    · refine ⟨f', ?_, fun p' hp' => ?_⟩
      · rw [lk _ (ne_sp hO hs hj').symm (ne_pp hO hj' hj ej)]
        exact b4'
      · have hp'' := hp'
        rw [hz'] at hp''
        rw [q_who_in hs e0 hw j' p' (by omega) (by omega) (by omega) (by omega), if_neg (fun z => ej z.1)]
        exact b5' p' hp'
  · have e54 : q_u (q_u I 54 s (nI j)) 55 s (nI p) 54 s = nI j := by rw [uR (by decide), uE]
    refine fT hT hI ?_ ?_ (Or.inr ⟨j, p, hj, hp0, e54, uE⟩) ?_ ?_ ?_ ?_
    · repeat rw [uR (by decide)]
      exact hT.1 s hs
    · repeat rw [uR (by decide)]
    · repeat rw [uR (by decide)]
      exact hT.2.2.2.1 s hs
    · repeat rw [uR (by decide)]
      exact hT.2.2.2.2.1 s hs
    · intro t ht _ _ c1 c2
      rw [e54] at c1
      rw [uE] at c2
      exact q_who_none hw t ht ⟨c1.symm, c2.symm⟩
    · exact fch hT hI (by repeat rw [uR (by decide)])
/-! shelves -/
def q_hc (I : Nat → Nat → Int32) (nS i : Nat) : List Value := [.int (nI i), .int (I 63 i), .int (I 64 i), .int (nI (q_std I nS i)), .int (q_fil I nS i)]
theorem q_std_out {s i : Nat} (hs : s < nS) (hi : i < 10) (e : I 56 s = nI i) (i' : Nat) (hi' : i' < 10) : q_std I nS i' = q_std (q_u I 56 s (-1)) nS i' + (if i' = i then 1 else 0) ∧ q_fil I nS i' = q_fil (q_u I 56 s (-1)) nS i' + (if i' = i then I 52 s else 0) := by
  constructor
  · have := q_cnt_upd (P := fun t => I 56 t == nI i') (P' := fun t => q_u I 56 s (-1) 56 t == nI i') (s := s) nS (fun t _ hn => by rw [uN hn])
    rw [uE, e, if_neg (by simp; exact fun _ z => q_nm1 (by omega) z.symm)] at this
    unfold q_std
    by_cases c : i' = i
    · subst c
      rw [if_pos rfl]
      simpa [hs] using this
    · have c2 : ¬ nI i = nI i' := fun z => c ((n_eq (by omega) (by omega)).mp z).symm
      rw [if_neg c]
      simpa [hs, c2] using this
  · have := q_sum_upd (g := fun t => if I 56 t = nI i' then I 52 t else 0) (g' := fun t => if q_u I 56 s (-1) 56 t = nI i' then q_u I 56 s (-1) 52 t else 0) (s := s) nS (fun t _ hn => by rw [uN hn, uN hn])
    rw [if_pos hs, if_pos hs, uE, e, if_neg (show ¬ (-1 : Int32) = nI i' from fun z => q_nm1 (by omega) z.symm), Int32.add_zero] at this
    unfold q_fil
    rw [this]
    by_cases c : i' = i
    · subst c; rw [if_pos rfl, if_pos rfl]
    · have c2 : ¬ nI i = nI i' := fun z => c ((n_eq (by omega) (by omega)).mp z).symm
      rw [if_neg c, if_neg c2]
theorem q_std_in {s i : Nat} (hs : s < nS) (hi : i < 10) (e : I 56 s = -1) (i' : Nat) (hi' : i' < 10) : q_std (q_u I 56 s (nI i)) nS i' = q_std I nS i' + (if i' = i then 1 else 0) ∧ q_fil (q_u I 56 s (nI i)) nS i' = q_fil I nS i' + (if i' = i then I 52 s else 0) := by
  have := q_std_out (I := q_u I 56 s (nI i)) hs hi uE i' hi'
  have e2 : q_u (q_u I 56 s (nI i)) 56 s (-1) = I := by
    funext a t
    unfold q_u
    by_cases c : a = 56 ∧ t = s
    · rw [if_pos c, c.1, c.2, e]
    · rw [if_neg c, if_neg c]
  rw [e2, uR (by decide)] at this
  exact this
/-- the shelf cell i and the specimen s have changed -/
theorem v_shelf (w : q_V h I nS nB lo ak nO sp bx qu own bl le) {s i : Nat} {v : Int32} (hs : s < nS) (hi : i < 10) (hn : h'.1 = h.1) (hv : v = -1 ∨ ∃ i, i < 10 ∧ v = nI i) (lk : ∀ a, a ≠ sp s → a ≠ 6 + i → h'.2.2 a = h.2.2 a) (cs : h'.2.2 (sp s) = .inr (6, (q_sc I bx s).set 6 (va_rf (if v = -1 then none else some (6 + q_n v))))) (ch : h'.2.2 (6 + i) = .inr (5, q_hc (q_u I 56 s v) nS i)) (hst : ∀ i', i' < 10 → i' ≠ i → q_std (q_u I 56 s v) nS i' = q_std I nS i' ∧ q_fil (q_u I 56 s v) nS i' = q_fil I nS i') : q_V h' (q_u I 56 s v) nS nB lo ak nO sp bx qu own bl le := by
  have w' := w
  obtain ⟨hF, hS, hN, hB, hH, hK, hR, hL, hT, hO⟩ := w
  obtain ⟨s1, s2, s3⟩ := hS s hs
  have hI : q_ats I (q_u I 56 s v) s := q_ats.rf.u (by decide) (by decide)
  have hn' : h.1 ≤ h'.1 := by omega
  refine v_spec w' hs hn (fun a a1 a2 => lk a (by omega) (by omega)) ?_ (fun t ht hn => lk _ (ne_ss hO ht hs hn) (by have := (hS t ht).1; omega)) (fun k hk i hi => lk _ (ne_sq hO hs hk hi).symm (by have := ((hK k hk).2.2 i hi).1; omega)) (fB hB hn' (fun j hj => ⟨lk _ (ne_sb hO hs hj).symm (by have := (hB j hj).1; omega), lk _ (ne_sp hO hs hj).symm (by have := (hB j hj).1; omega)⟩) (hI.2 61 (by omega)) (hI.2 62 (by omega)) (fun t _ => ⟨by repeat rw [uR (by decide)], by repeat rw [uR (by decide)]⟩)) ?_ hI (by repeat rw [uR (by decide)]) (by repeat rw [uR (by decide)]) (by repeat rw [uR (by decide)]) (by repeat rw [uR (by decide)]) ?_
  · rw [cs]
    unfold q_sc q_br q_sr
    rw [uE]
    repeat rw [uR (by decide)]
    rfl
  · intro i' hi'
    by_cases c : i' = i
    · subst c; exact ch
    · rw [lk _ (by omega) (by omega), hH i' hi', (hst i' hi' c).1, (hst i' hi' c).2, hI.2 63 (by omega), hI.2 64 (by omega)]
  · refine fT hT hI ?_ ?_ ?_ ?_ ?_ ?_ ?_
    · repeat rw [uR (by decide)]
      exact hT.1 s hs
    · repeat rw [uR (by decide)]
    · repeat rw [uR (by decide)]
      exact hT.2.2.1 s hs
    · rw [uE]; exact hv
    · repeat rw [uR (by decide)]
      exact hT.2.2.2.2.1 s hs
    · exact fcu hT hs (by rw [uR (by decide)]) (by rw [uR (by decide)])
    · exact fch hT hI (by repeat rw [uR (by decide)])
theorem s_off (w : q_V h I nS nB lo ak nO sp bx qu own bl le) {s : Nat} (hs : s < nS) : ∃ h1, f_X9_leaveShelf h (some (sp s)) = some (if I 56 s = -1 then 0 else 1, h1) ∧ q_V h1 (q_u I 56 s (-1)) nS nB lo ak nO sp bx qu own bl le ∧ q_hf h h1 0 0 := by
  have w' := w
  obtain ⟨hF, hS, hN, hB, hH, hK, hR, hL, hT, hO⟩ := w
  obtain ⟨s1, s2, s3⟩ := hS s hs
  unfold f_X9_leaveShelf
  simp only [Option.bind_some, rS6 hS hs]
  rcases hT.2.2.2.1 s hs with e | ⟨i, hi, e⟩
  · rw [if_pos e]
    unfold q_sr
    rw [if_pos e]
    have : q_u I 56 s (-1) = I := by
      funext a t
      unfold q_u
      by_cases c : a = 56 ∧ t = s
      · rw [if_pos c, c.1, c.2, e]
      · rw [if_neg c]
    rw [this]
    exact ⟨h, rfl, w', q_hf.rf⟩
  · have ne : ¬ I 56 s = -1 := by rw [e]; exact q_nm1 (by omega)
    rw [if_neg ne]
    unfold q_sr
    rw [if_neg ne, e, q_n_nI (by omega)]
    simp only [Option.bind_some, oH hF hH hi, if_true]
    have a0 : 6 + i < h.1 := by have := hF.1; omega
    have so := fun i' hi' => q_std_out hs hi e i' hi'
    obtain ⟨o1, o2⟩ := so i hi
    rw [if_pos rfl] at o1 o2
    have c1 : (q_wr h (6 + i) (.inr (5, (q_hc I nS i).set 3 (.int (nI (q_std I nS i) - 1))))).2.2 (6 + i) = .inr (5, (q_hc I nS i).set 3 (.int (nI (q_std I nS i) - 1))) := wrE
    have y1 : m_pf h (6 + i) 5 3 (.int (nI (q_std I nS i) - 1)) = some (q_wr h (6 + i) (.inr (5, (q_hc I nS i).set 3 (.int (nI (q_std I nS i) - 1))))) := g_p _ a0 (hH i hi) (show 3 < 5 by decide)
    generalize hh1 : q_wr h (6 + i) (.inr (5, (q_hc I nS i).set 3 (.int (nI (q_std I nS i) - 1)))) = h1 at c1 y1
    have n1 : h1.1 = h.1 := by rw [← hh1]; rfl
    have l1 : ∀ a, a ≠ 6 + i → h1.2.2 a = h.2.2 a := fun a ha => by rw [← hh1]; exact wrN ha
    have r1 : m_gi h1 (6 + i) 5 4 = some (q_fil I nS i) := g_i (by omega) c1 rfl
    have r2 : m_gi h1 (sp s) 6 1 = some (I 52 s) := g_i (by omega) ((l1 _ (by omega)).trans s3) rfl
    have y2 : m_pf h1 (6 + i) 5 4 (.int (q_fil I nS i - I 52 s)) = some (q_wr h1 (6 + i) (.inr (5, ((q_hc I nS i).set 3 (.int (nI (q_std I nS i) - 1))).set 4 (.int (q_fil I nS i - I 52 s))))) := g_p _ (by omega) c1 (show 4 < 5 by decide)
    have c2 : (q_wr h1 (6 + i) (.inr (5, ((q_hc I nS i).set 3 (.int (nI (q_std I nS i) - 1))).set 4 (.int (q_fil I nS i - I 52 s))))).2.2 (6 + i) = .inr (5, ((q_hc I nS i).set 3 (.int (nI (q_std I nS i) - 1))).set 4 (.int (q_fil I nS i - I 52 s))) := wrE
    generalize hh2 : q_wr h1 (6 + i) (.inr (5, ((q_hc I nS i).set 3 (.int (nI (q_std I nS i) - 1))).set 4 (.int (q_fil I nS i - I 52 s)))) = h2 at y2 c2
    have n2 : h2.1 = h.1 := by rw [← hh2]; exact n1
    have l2 : ∀ a, a ≠ 6 + i → h2.2.2 a = h.2.2 a := fun a ha => by rw [← hh2, wrN ha]; exact l1 a ha
    have y3 : m_pf h2 (sp s) 6 6 (va_rf none) = some (q_wr h2 (sp s) (.inr (6, (q_sc I bx s).set 6 (va_rf none)))) := g_p _ (by omega) ((l2 _ (by omega)).trans s3) (show 6 < 11 by decide)
    unfold f_X6_remove
    rw [rH3 hF hH hi]
    simp only [Option.bind_some]
    rw [y1]
    simp only [Option.bind_some]
    rw [r1, r2]
    simp only [Option.bind_some]
    rw [y2]
    simp only [Option.bind_some]
    rw [y3]
    refine ⟨_, rfl, v_shelf w' hs hi n2 (Or.inl rfl) (fun a a1 a2 => by rw [wrN a1]; exact l2 a a2) wrE ?_ (fun i' hi' hne => ?_), ?_⟩
    · rw [wrN (by omega), c2]
      unfold q_hc
      rw [show nI (q_std I nS i) - 1 = nI (q_std (q_u I 56 s (-1)) nS i) by rw [o1, ← nI_1, i_ac], show q_fil I nS i - I 52 s = q_fil (q_u I 56 s (-1)) nS i by rw [o2, i_ac]]
      repeat rw [uR (by decide)]
      rfl
    · have := so i' hi'
      rw [if_neg hne, if_neg hne, Int32.add_zero] at this
      exact ⟨this.1.symm, this.2.symm⟩
    · rw [← hh2, ← hh1]
      exact q_hf.wr (q_hf.wr (q_hf.rf.wr (by omega)) (by omega)) (by omega)
theorem s_on (w : q_V h I nS nB lo ak nO sp bx qu own bl le) {s i : Nat} (hs : s < nS) (hi : i < 10) (e : I 56 s = -1) : ∃ h1 h2, f_X6_add h (6 + i) (some (sp s)) = some h1 ∧ m_pf h1 (sp s) 6 6 (va_rf (some (6 + i))) = some h2 ∧ q_V h2 (q_u I 56 s (nI i)) nS nB lo ak nO sp bx qu own bl le ∧ q_hf h h2 0 0 := by
  have w' := w
  obtain ⟨hF, hS, hN, hB, hH, hK, hR, hL, hT, hO⟩ := w
  obtain ⟨s1, s2, s3⟩ := hS s hs
  have a0 : 6 + i < h.1 := by have := hF.1; omega
  have so := fun i' hi' => q_std_in hs hi e i' hi'
  obtain ⟨o1, o2⟩ := so i hi
  rw [if_pos rfl] at o1 o2
  have c1 : (q_wr h (6 + i) (.inr (5, (q_hc I nS i).set 3 (.int (nI (q_std I nS i) + 1))))).2.2 (6 + i) = .inr (5, (q_hc I nS i).set 3 (.int (nI (q_std I nS i) + 1))) := wrE
  have y1 : m_pf h (6 + i) 5 3 (.int (nI (q_std I nS i) + 1)) = some (q_wr h (6 + i) (.inr (5, (q_hc I nS i).set 3 (.int (nI (q_std I nS i) + 1))))) := g_p _ a0 (hH i hi) (show 3 < 5 by decide)
  generalize hh1 : q_wr h (6 + i) (.inr (5, (q_hc I nS i).set 3 (.int (nI (q_std I nS i) + 1)))) = h1 at c1 y1
  have n1 : h1.1 = h.1 := by rw [← hh1]; rfl
  have l1 : ∀ a, a ≠ 6 + i → h1.2.2 a = h.2.2 a := fun a ha => by rw [← hh1]; exact wrN ha
  have r1 : m_gi h1 (6 + i) 5 4 = some (q_fil I nS i) := g_i (by omega) c1 rfl
  have r2 : m_gi h1 (sp s) 6 1 = some (I 52 s) := g_i (by omega) ((l1 _ (by omega)).trans s3) rfl
  have y2 : m_pf h1 (6 + i) 5 4 (.int (q_fil I nS i + I 52 s)) = some (q_wr h1 (6 + i) (.inr (5, ((q_hc I nS i).set 3 (.int (nI (q_std I nS i) + 1))).set 4 (.int (q_fil I nS i + I 52 s))))) := g_p _ (by omega) c1 (show 4 < 5 by decide)
  have c2 : (q_wr h1 (6 + i) (.inr (5, ((q_hc I nS i).set 3 (.int (nI (q_std I nS i) + 1))).set 4 (.int (q_fil I nS i + I 52 s))))).2.2 (6 + i) = .inr (5, ((q_hc I nS i).set 3 (.int (nI (q_std I nS i) + 1))).set 4 (.int (q_fil I nS i + I 52 s))) := wrE
  generalize hh2 : q_wr h1 (6 + i) (.inr (5, ((q_hc I nS i).set 3 (.int (nI (q_std I nS i) + 1))).set 4 (.int (q_fil I nS i + I 52 s)))) = h2 at y2 c2
  have n2 : h2.1 = h.1 := by rw [← hh2]; exact n1
  have l2 : ∀ a, a ≠ 6 + i → h2.2.2 a = h.2.2 a := fun a ha => by rw [← hh2, wrN ha]; exact l1 a ha
  have y3 : m_pf h2 (sp s) 6 6 (va_rf (some (6 + i))) = some (q_wr h2 (sp s) (.inr (6, (q_sc I bx s).set 6 (va_rf (some (6 + i)))))) := g_p _ (by omega) ((l2 _ (by omega)).trans s3) (show 6 < 11 by decide)
  refine ⟨h2, _, ?_, y3, v_shelf w' hs hi n2 (Or.inr ⟨i, hi, rfl⟩) (fun a a1 a2 => by rw [wrN a1]; exact l2 a a2) (by rw [wrE, if_neg (q_nm1 (by omega)), q_n_nI (by omega)]) ?_ (fun i' hi' hne => ?_), ?_⟩
  · unfold f_X6_add
    rw [rH3 hF hH hi]
    simp only [Option.bind_some]
    rw [y1]
    simp only [Option.bind_some]
    rw [r1, r2]
    simp only [Option.bind_some]
    rw [y2]
    rfl
  · rw [wrN (by omega), c2]
    unfold q_hc
    rw [show nI (q_std I nS i) + 1 = nI (q_std (q_u I 56 s (nI i)) nS i) by rw [o1, nI_1], show q_fil I nS i + I 52 s = q_fil (q_u I 56 s (nI i)) nS i by rw [o2]]
    repeat rw [uR (by decide)]
    rfl
  · have := so i' hi'
    rw [if_neg hne, if_neg hne, Int32.add_zero] at this
    exact this
  · rw [← hh2, ← hh1]
    exact q_hf.wr (q_hf.wr (q_hf.rf.wr (by omega)) (by omega)) (by omega)
end STP
