/-! PURE PART 21: steps of one specimen in the class -/
section STP
variable {h h' : mH} {I I' : Nat → Nat → Int32} {nS nB nO : Nat} {lo ak : Int32} {sp bx qu bl le : Nat → Nat} {own : Nat → Nat × Nat}
theorem uE {a j : Nat} {v : Int32} : q_u I a j v a j = v := by simp [q_u]
theorem uN {a j b i : Nat} {v : Int32} (hn : i ≠ j) : q_u I a j v b i = I b i := by simp [q_u, hn]
theorem uR {a j b : Nat} {v : Int32} (hb : b ≠ a) : q_u I a j v b = I b := q_u_row hb
/-- rows 51 to 60 have changed at s, no other -/
def q_ats (I I' : Nat → Nat → Int32) (s : Nat) : Prop := (∀ a t, t ≠ s → I' a t = I a t) ∧ ∀ a, a < 51 ∨ 60 < a → I' a = I a
theorem q_ats.rf {s : Nat} : q_ats I I s := ⟨fun _ _ _ => rfl, fun _ _ => rfl⟩
theorem q_ats.u {s a : Nat} {v : Int32} (hh : q_ats I I' s) (h1 : 51 ≤ a) (h2 : a ≤ 60) : q_ats I (q_u I' a s v) s := ⟨fun b t ht => by rw [uN ht]; exact hh.1 b t ht, fun b hb => by rw [uR (by omega)]; exact hh.2 b hb⟩
theorem fT {s : Nat} (hT : q_T I nS nB) (hI : q_ats I I' s) (c51 : ∃ k, k < 24 ∧ I' 51 s = nI k) (c52 : I' 52 s = I 52 s) (c54 : (I' 54 s = -1 ∧ I' 55 s = -1) ∨ ∃ j p, j < nB ∧ p < q_n (I 62 j) ∧ I' 54 s = nI j ∧ I' 55 s = nI p) (c56 : I' 56 s = -1 ∨ ∃ i, i < 10 ∧ I' 56 s = nI i) (c57 : I' 57 s = -1 ∨ ∃ b d t fe, b < 20 ∧ d ≤ 100000 ∧ t ≤ 365 ∧ fe ≤ 1000 ∧ I' 57 s = nI b ∧ I' 58 s = nI d ∧ I' 59 s = nI t ∧ I' 60 s = nI fe) (cu : ∀ t, t < nS → t ≠ s → I' 54 s ≠ -1 → I' 54 s = I 54 t → I' 55 s = I 55 t → False) (ch : ∀ b, b < 20 → q_hld I' nS b ≤ 12) : q_T I' nS nB := by
  obtain ⟨t1, t2, t3, t4, t5, t6, t7, t8, t9, t10, t11⟩ := hT
  unfold q_T n_P
  rw [hI.2 61 (by omega), hI.2 62 (by omega), hI.2 63 (by omega), hI.2 66 (by omega), hI.2 67 (by omega), hI.2 69 (by omega), hI.2 70 (by omega), hI.2 50 (by omega)]
  refine ⟨fun t ht => ?_, fun t ht => ?_, fun t ht => ?_, fun t ht => ?_, fun t ht => ?_, t6, t7, t8, fun t t' ht ht' => ?_, ch, t11⟩
  · by_cases e : t = s
    · rw [e]; exact c51
    · rw [hI.1 51 t e]; exact t1 t ht
  · by_cases e : t = s
    · subst e; rw [c52]; exact t2 t ht
    · rw [hI.1 52 t e]; exact t2 t ht
  · by_cases e : t = s
    · rw [e]; exact c54
    · rw [hI.1 54 t e, hI.1 55 t e]; exact t3 t ht
  · by_cases e : t = s
    · rw [e]; exact c56
    · rw [hI.1 56 t e]; exact t4 t ht
  · by_cases e : t = s
    · rw [e]; exact c57
    · rw [hI.1 57 t e, hI.1 58 t e, hI.1 59 t e, hI.1 60 t e]; exact t5 t ht
  · intro n1 e1 e2
    by_cases e : t = s
    · by_cases e' : t' = s
      · rw [e, e']
      · rw [e] at n1 e1 e2
        rw [hI.1 54 t' e'] at e1
        rw [hI.1 55 t' e'] at e2
        exact (cu t' ht' e' n1 e1 e2).elim
    · by_cases e' : t' = s
      · rw [e'] at e1 e2
        rw [e1] at n1
        rw [hI.1 54 t e] at e1
        rw [hI.1 55 t e] at e2
        exact (cu t ht e n1 e1.symm e2.symm).elim
      · rw [hI.1 54 t e] at n1
        rw [hI.1 54 t e, hI.1 54 t' e'] at e1
        rw [hI.1 55 t e, hI.1 55 t' e'] at e2
        exact t9 t t' ht ht' n1 e1 e2
theorem fcu {s : Nat} (hT : q_T I nS nB) (hs : s < nS) (e1 : I' 54 s = I 54 s) (e2 : I' 55 s = I 55 s) : ∀ t, t < nS → t ≠ s → I' 54 s ≠ -1 → I' 54 s = I 54 t → I' 55 s = I 55 t → False := by
  intro t ht hn n1 z1 z2
  rw [e1] at n1 z1
  rw [e2] at z2
  exact hn (hT.2.2.2.2.2.2.2.2.1 s t hs ht n1 z1 z2).symm
theorem fch {s : Nat} (hT : q_T I nS nB) (hI : q_ats I I' s) (e : I' 57 s = I 57 s) : ∀ b, b < 20 → q_hld I' nS b ≤ 12 := by
  intro b hb
  have : q_hld I' nS b = q_hld I nS b := q_cnt_congr nS (fun t _ => by
    by_cases z : t = s
    · rw [z, e]
    · rw [hI.1 57 t z])
  rw [this]
  exact hT.2.2.2.2.2.2.2.2.2.1 b hb
/-- a specimen's cell, its place and its shelf have changed, no loan -/
theorem v_spec (w : q_V h I nS nB lo ak nO sp bx qu own bl le) {s : Nat} (hs : s < nS) (hn : h'.1 = h.1) (c0 : ∀ a, a < 44 → ¬ (6 ≤ a ∧ a ≤ 15) → h'.2.2 a = h.2.2 a) (cs : h'.2.2 (sp s) = .inr (6, q_sc I' bx s)) (ct : ∀ t, t < nS → t ≠ s → h'.2.2 (sp t) = h.2.2 (sp t)) (cq : ∀ k, k < 10 → ∀ i, i < q_n (I 66 k) → h'.2.2 (qu (40 * k + i)) = h.2.2 (qu (40 * k + i))) (hB' : q_B h' I' nS nB sp bx) (hH' : q_Hs h' I' nS) (hI : q_ats I I' s) (c52 : I' 52 s = I 52 s) (c57 : I' 57 s = I 57 s) (c58 : I' 58 s = I 58 s) (c59 : I' 59 s = I 59 s) (hT' : q_T I' nS nB) : q_V h' I' nS nB lo ak nO sp bx qu own bl le := by
  obtain ⟨hF, hS, hN, hB, hH, hK, hR, hL, hT, hO⟩ := w
  have hn' : h.1 ≤ h'.1 := by omega
  have same : ∀ a, I' a s = I a s → ∀ t, I' a t = I a t := fun a ha t => by
    by_cases e : t = s
    · rw [e, ha]
    · exact hI.1 a t e
  exact ⟨fF hF hn' (fun a ha => c0 a (by omega) (by omega)), fS1 hS hO hn' hs cs ct (fun a t _ _ ht => hI.1 a t ht), fN hN (fun a ha => c0 a (by omega) (by omega)) (fun t _ => same 52 c52 t), hB', hH', fKs hK hn' (fun a a1 a2 => c0 a (by omega) (by omega)) cq (fun a a1 a2 => hI.2 a (by omega)), fRu hR (c0 _ (by omega) (by omega)) (c0 _ (by omega) (by omega)) (hI.2 50 (by omega)), fLn hL (fun a ha => c0 a (by omega) (by omega)) (fun t _ => ⟨same 57 c57 t, same 58 c58 t, same 59 c59 t⟩) (hI.2 65 (by omega)), hT', fO hO (hI.2 66 (by omega))⟩
/-- the kind of a specimen -/
theorem s_kind (w : q_V h I nS nB lo ak nO sp bx qu own bl le) {s k : Nat} (hs : s < nS) (hk : k < 24) : ∃ h1, m_pf h (sp s) 6 3 (.int (nI k)) = some h1 ∧ q_V h1 (q_u I 51 s (nI k)) nS nB lo ak nO sp bx qu own bl le ∧ q_hf h h1 0 0 := by
  have w' := w
  obtain ⟨hF, hS, hN, hB, hH, hK, hR, hL, hT, hO⟩ := w
  obtain ⟨s1, s2, s3⟩ := hS s hs
  have hI : q_ats I (q_u I 51 s (nI k)) s := q_ats.rf.u (by decide) (by decide)
  refine ⟨q_wr h (sp s) (.inr (6, (q_sc I bx s).set 3 (.int (nI k)))), g_p _ s2 s3 (show 3 < 11 by decide), ?_, q_hf.rf.wr (by omega)⟩
  refine v_spec w' hs rfl (fun a a1 a2 => wrN (by omega)) ?_ (fun t ht hn => wrN (ne_ss hO ht hs hn)) (fun k hk i hi => wrN (ne_sq hO hs hk hi).symm) (fB hB (Nat.le_refl _) (fun j hj => ⟨wrN (ne_sb hO hs hj).symm, wrN (ne_sp hO hs hj).symm⟩) (uR (by decide)) (uR (by decide)) (fun t _ => by rw [uR (by decide), uR (by decide)]; exact ⟨rfl, rfl⟩)) (fHs hH (fun i hi => wrN (by omega)) (uR (by decide)) (uR (by decide)) (fun t _ => by rw [uR (by decide), uR (by decide)]; exact ⟨rfl, rfl⟩)) hI (by rw [uR (by decide)]) (by rw [uR (by decide)]) (by rw [uR (by decide)]) (by rw [uR (by decide)]) ?_
  · rw [wrE]
    unfold q_sc q_br q_sr
    rw [uE]
    repeat rw [uR (by decide)]
    rfl
  · refine fT hT hI ⟨k, hk, uE⟩ ?_ ?_ ?_ ?_ ?_ ?_
    · rw [uR (by decide)]
    · repeat rw [uR (by decide)]
      exact hT.2.2.1 s hs
    · repeat rw [uR (by decide)]
      exact hT.2.2.2.1 s hs
    · repeat rw [uR (by decide)]
      exact hT.2.2.2.2.1 s hs
    · exact fcu hT hs (by rw [uR (by decide)]) (by rw [uR (by decide)])
    · exact fch hT hI (by rw [uR (by decide)])
/-- who lies in a place, after a specimen has left its own -/
theorem q_who_out {s j p : Nat} (hT : q_T I nS nB) (hs : s < nS) (e1 : I 54 s = nI j) (e2 : I 55 s = nI p) (hn : nB ≤ 40) (hj : j < nB) (j' p' : Nat) (hj' : j' < nB) (hp' : p' < 100) (hp : p < 100) : q_who (q_u (q_u I 54 s (-1)) 55 s (-1)) nS j' p' = if j' = j ∧ p' = p then none else q_who I nS j' p' := by
  by_cases c : j' = j ∧ p' = p
  · rw [if_pos c]
    rcases q_fst_opt (Q := fun t => q_u (q_u I 54 s (-1)) 55 s (-1) 54 t = nI j' ∧ q_u (q_u I 54 s (-1)) 55 s (-1) 55 t = nI p') nS 0 with ⟨t, t1, t2, t3, t4, t5⟩ | ⟨t1, t5⟩
    · by_cases e : t = s
      · subst e
        rw [uR (by decide), uE] at t3
        exact absurd t3.1.symm (q_nm1 (by omega))
      · rw [uN e, uN e, uN e, uN e] at t3
        have := hT.2.2.2.2.2.2.2.2.1 s t hs (by omega) (by rw [e1]; exact q_nm1 (by omega)) (by rw [e1, t3.1, c.1]) (by rw [e2, t3.2, c.2])
        exact absurd this.symm e
    · exact t5
  · rw [if_neg c]
    unfold q_who
    apply q_fst_congr
    intro t _ ht
    by_cases e : t = s
    · subst e
      rw [uR (by decide), uE, e1, e2, if_neg (fun z => q_nm1 (by omega) z.1.symm), if_neg]
      intro z
      exact c ⟨((n_eq (by omega) (by omega)).mp z.1).symm, ((n_eq (by omega) (by omega)).mp z.2).symm⟩
    · rw [uN e, uN e, uN e, uN e]
theorem s_leave (w : q_V h I nS nB lo ak nO sp bx qu own bl le) {s : Nat} (hs : s < nS) : ∃ h1, f_X9_leavePlace h (some (sp s)) = some h1 ∧ q_V h1 (if I 54 s = -1 then I else q_u (q_u I 54 s (-1)) 55 s (-1)) nS nB lo ak nO sp bx qu own bl le ∧ q_hf h h1 0 0 := by
  have w' := w
  obtain ⟨hF, hS, hN, hB, hH, hK, hR, hL, hT, hO⟩ := w
  obtain ⟨s1, s2, s3⟩ := hS s hs
  have n4 := hF.2.2.2.2.2.2.2.2.1
  unfold f_X9_leavePlace
  simp only [Option.bind_some, rS4 hS hs, rS5 hS hs]
  rcases hT.2.2.1 s hs with ⟨e, -⟩ | ⟨j, p, hj, hp, e1, e2⟩
  · rw [if_pos e]
    unfold q_br
    rw [if_pos e]
    exact ⟨h, rfl, w', q_hf.rf⟩
  · have ne : ¬ I 54 s = -1 := by rw [e1]; exact q_nm1 (by omega)
    rw [if_neg ne]
    unfold q_br
    rw [if_neg ne, e1, e2, q_n_nI (by omega)]
    obtain ⟨b1, b2, b3, f, b4, b5⟩ := hB j hj
    obtain ⟨-, z, z1, z2, z3⟩ := hT.2.2.2.2.2.1 j hj
    have hz : q_n (I 62 j) = z := by rw [z3, q_n_nI (by omega)]
    rw [hz] at hp b4 b5
    simp only [Option.bind_some, oB hB hj, if_true]
    unfold f_X0_set
    rw [if_pos (oB hB hj), c_hasPlace hB hT hj, rB2 hB hj]
    simp only [Option.bind_some, q_b0]
    rw [hz, q_r_nI hp (by omega), if_neg (by simp), g_as none b2 b4 (by decide) hp (by omega) rfl]
    simp only [Option.bind_some]
    have x1 : (q_wr h (bx j + 1) (.inl (2, z, q_R (va_up f p none)))).2.2 (sp s) = .inr (6, q_sc I bx s) := by rw [wrN (ne_sp hO hs hj)]; exact s3
    have y1 := g_p (h := q_wr h (bx j + 1) (.inl (2, z, q_R (va_up f p none)))) (k := 4) (va_rf none) s2 x1 (show 4 < 11 by decide)
    have x2 : (q_wr (q_wr h (bx j + 1) (.inl (2, z, q_R (va_up f p none)))) (sp s) (.inr (6, (q_sc I bx s).set 4 (va_rf none)))).2.2 (sp s) = .inr (6, (q_sc I bx s).set 4 (va_rf none)) := wrE
    have y2 := g_p (h := q_wr (q_wr h (bx j + 1) (.inl (2, z, q_R (va_up f p none)))) (sp s) (.inr (6, (q_sc I bx s).set 4 (va_rf none)))) (k := 5) (.int (-1)) s2 x2 (show 5 < 11 by decide)
    have y1' : m_pf (h.1, h.2.1, va_up h.2.2 (bx j + 1) (.inl (2, z, q_R (va_up f p none)))) (sp s) 6 4 (va_rf none) = some (q_wr (q_wr h (bx j + 1) (.inl (2, z, q_R (va_up f p none)))) (sp s) (.inr (6, (q_sc I bx s).set 4 (va_rf none)))) := y1
    rw [y1']
    simp only [Option.bind_some]
    rw [y2]
    refine ⟨_, rfl, ?_, (q_hf.wr (q_hf.wr (q_hf.rf.wr (h1 := h) (by omega)) (by omega)) (by omega))⟩
    have hI : q_ats I (q_u (q_u I 54 s (-1)) 55 s (-1)) s := (q_ats.rf.u (by decide) (by decide)).u (by decide) (by decide)
    have lk : ∀ a, a ≠ sp s → a ≠ bx j + 1 → (q_wr (q_wr (q_wr h (bx j + 1) (.inl (2, z, q_R (va_up f p none)))) (sp s) (.inr (6, (q_sc I bx s).set 4 (va_rf none)))) (sp s) (.inr (6, ((q_sc I bx s).set 4 (va_rf none)).set 5 (.int (-1))))).2.2 a = h.2.2 a := fun a a1 a2 => by rw [wrN a1, wrN a1, wrN a2]
    refine v_spec (h' := q_wr (q_wr (q_wr h (bx j + 1) (.inl (2, z, q_R (va_up f p none)))) (sp s) (.inr (6, (q_sc I bx s).set 4 (va_rf none)))) (sp s) (.inr (6, ((q_sc I bx s).set 4 (va_rf none)).set 5 (.int (-1))))) w' hs rfl (fun a a1 a2 => lk a (by omega) (by omega)) ?_ (fun t ht hn => lk _ (ne_ss hO ht hs hn) (ne_sp hO ht hj)) (fun k hk i hi => lk _ (ne_sq hO hs hk hi).symm (ne_pq hO hj hk hi).symm) ?_ (fHs hH (fun i hi => lk _ (by omega) (by omega)) (hI.2 63 (by omega)) (hI.2 64 (by omega)) (fun t _ => ⟨by repeat rw [uR (by decide)], by repeat rw [uR (by decide)]⟩)) hI (by repeat rw [uR (by decide)]) (by repeat rw [uR (by decide)]) (by repeat rw [uR (by decide)]) (by repeat rw [uR (by decide)]) ?_
    · rw [wrE]
      unfold q_sc q_br q_sr
      rw [uE, show q_u (q_u I 54 s (-1)) 55 s (-1) 54 s = -1 by rw [uR (by decide), uE]]
      repeat rw [uR (by decide)]
      rfl
    · intro j' hj'
      obtain ⟨b1', b2', b3', f', b4', b5'⟩ := hB j' hj'
      obtain ⟨-, z', z1', z2', z3'⟩ := hT.2.2.2.2.2.1 j' hj'
      have hz' : q_n (I 62 j') = z' := by rw [z3', q_n_nI (by omega)]
      rw [hI.2 61 (by omega), hI.2 62 (by omega)]
      refine ⟨b1', b2', by rw [lk _ (ne_sb hO hs hj').symm (ne_bp hO hj' hj)]; exact b3', ?_⟩
      by_cases ej : j' = j
      · subst ej
        refine ⟨va_up f p none, ?_, fun p' hp' => ?_⟩
        · rw [wrN (ne_sp hO hs hj).symm, wrN (ne_sp hO hs hj).symm, wrE, hz]
        · rw [hz] at hp'
          rw [q_who_out hT hs e1 e2 n4 hj j' p' hj (by omega) (by omega)]
          unfold va_up
          by_cases ep : p' = p
          · rw [if_pos ep, if_pos ⟨rfl, ep⟩]; rfl
          · rw [if_neg ep, if_neg (fun z => ep z.2)]
            exact b5 p' hp'
      · refine ⟨f', ?_, fun p' hp' => ?_⟩
        · rw [lk _ (ne_sp hO hs hj').symm (ne_pp hO hj' hj ej)]
          exact b4'
        · have hp'' := hp'
          rw [hz'] at hp''
          rw [q_who_out hT hs e1 e2 n4 hj j' p' hj' (by omega) (by omega), if_neg (fun z => ej z.1)]
          exact b5' p' hp'
    · refine fT hT hI ?_ ?_ (Or.inl ⟨by rw [uR (by decide), uE], uE⟩) ?_ ?_ ?_ ?_
      · repeat rw [uR (by decide)]
        exact hT.1 s hs
      · repeat rw [uR (by decide)]
      · repeat rw [uR (by decide)]
        exact hT.2.2.2.1 s hs
      · repeat rw [uR (by decide)]
        exact hT.2.2.2.2.1 s hs
      · intro t _ _ n1
        exact absurd (show q_u (q_u I 54 s (-1)) 55 s (-1) 54 s = -1 by rw [uR (by decide), uE]) n1
      · exact fch hT hI (by repeat rw [uR (by decide)])
end STP
