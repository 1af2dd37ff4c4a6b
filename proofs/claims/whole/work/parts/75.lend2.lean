/-! PURE PART 35: lend -/
theorem m_forE_at {σ ρ : Type} {step : σ → Option (σ ⊕ ρ)} {P : Nat → σ → Prop} {Q : ρ → Prop} {N : Nat} (hs : ∀ i s, i < N → P i s → ∃ s', step s = some (.inl s') ∧ P (i + 1) s') (he : ∀ s, P N s → ∃ r, step s = some (.inr r) ∧ Q r) : ∀ (n i fuel : Nat) (s : σ), i + n = N → n < fuel → P i s → ∃ r, m_loop step fuel s = some r ∧ Q r
  | 0, i, fuel + 1, s, hi, _, hp => by
    have : i = N := by omega
    subst this
    obtain ⟨r, e1, e2⟩ := he s hp
    refine ⟨r, ?_, e2⟩
    unfold m_loop
    rw [e1]
  | n + 1, i, fuel + 1, s, hi, hf, hp => by
    obtain ⟨s', e1, e2⟩ := hs i s (by omega) hp
    obtain ⟨r, e3, e4⟩ := m_forE_at hs he n (i + 1) fuel s' (by omega) (by omega) e2
    refine ⟨r, ?_, e4⟩
    unfold m_loop
    rw [e1]
    exact e3
theorem m_forE {σ ρ : Type} {step : σ → Option (σ ⊕ ρ)} (P : Nat → σ → Prop) (Q : ρ → Prop) (N : Nat) (hN : N < 5000) (hs : ∀ i s, i < N → P i s → ∃ s', step s = some (.inl s') ∧ P (i + 1) s') (he : ∀ s, P N s → ∃ r, step s = some (.inr r) ∧ Q r) {s0 : σ} (h0 : P 0 s0) : ∃ r, m_loop step 5000 s0 = some r ∧ Q r := m_forE_at hs he N 0 5000 s0 (by omega) hN h0
theorem q_cnt_imp {P Q : Nat → Bool} : ∀ n, (∀ t, t < n → P t = true → Q t = true) → q_cnt P n ≤ q_cnt Q n
  | 0, _ => Nat.le_refl _
  | n + 1, hh => by
    have ih := q_cnt_imp (P := P) (Q := Q) n (fun t ht => hh t (by omega))
    have := hh n (by omega)
    show q_cnt P n + (if P n = true then 1 else 0) ≤ q_cnt Q n + (if Q n = true then 1 else 0)
    by_cases e : P n = true
    · rw [if_pos e, if_pos (this e)]; omega
    · rw [if_neg e]; omega
theorem q_cnt_in {S S' : Nat → Bool} {s n : Nat} (hs : s < n) (e : S s = false) (e' : ∀ t, S' t = (S t || t == s)) : q_cnt S' n = q_cnt S n + 1 := by
  have := q_cnt_upd (P := S) (P' := S') (s := s) n (fun t _ hn => by rw [e' t]; simp [hn])
  rw [e' s, e, if_pos ⟨hs, by simp⟩, if_neg (by simp)] at this
  omega
section OPS
variable {h h' : mH} {I I' : Nat → Nat → Int32} {nS nB nO : Nat} {lo ak : Int32} {sp bx qu bl le : Nat → Nat} {own : Nat → Nat × Nat}
def q_sP (I : Nat → Nat → Int32) (nS j p : Nat) : Nat → Bool := fun t => decide (t < nS) && ((I 54 t == nI j) && decide (q_n (I 55 t) < p))
def q_sM (I : Nat → Nat → Int32) (j s : Nat) : Nat → Bool := fun t => decide (t < s) && (I 54 t == nI j)
def q_lS (I : Nat → Nat → Int32) (S : Nat → Bool) (b D : Int32) : Nat → Nat → Int32 := fun a t => if S t = true then (if a = 57 then b else if a = 58 then D else if a = 59 then q_tmv I t else if a = 60 then q_fev I t else I a t) else I a t
theorem lS_R {S : Nat → Bool} {b D : Int32} {a : Nat} (ha : a < 57 ∨ 60 < a) : q_lS I S b D a = I a := by
  funext t
  unfold q_lS
  rw [if_neg (show ¬ a = 57 by omega), if_neg (show ¬ a = 58 by omega), if_neg (show ¬ a = 59 by omega), if_neg (show ¬ a = 60 by omega)]
  split <;> rfl
theorem lS_N {S : Nat → Bool} {b D : Int32} {a t : Nat} (ht : S t = false) : q_lS I S b D a t = I a t := by
  unfold q_lS
  rw [ht]
  rfl
theorem lS_0 {S : Nat → Bool} {b D : Int32} (hS : ∀ t, S t = false) : q_lS I S b D = I := by
  funext a t
  exact lS_N (hS t)
theorem lS_tm {S : Nat → Bool} {b D : Int32} {s : Nat} : q_tmv (q_lS I S b D) s = q_tmv I s := by
  unfold q_tmv
  rw [lS_R (by omega)]
  exact q_an_congr (lS_R (by omega))
theorem lS_fe {S : Nat → Bool} {b D : Int32} {s : Nat} : q_fev (q_lS I S b D) s = q_fev I s := by
  unfold q_fev
  rw [lS_R (by omega), q_an_congr (lS_R (by omega))]
theorem lS_ml {S : Nat → Bool} {b D : Int32} {s : Nat} (hs : S s = false) : q_ml (q_lS I S b D) s = q_ml I s := by
  unfold q_ml q_lent
  rw [lS_N hs, lS_R (by omega), q_an_congr (lS_R (by omega)), q_an_congr (lS_R (by omega))]
theorem lS_in {S S' : Nat → Bool} {b D : Int32} {s : Nat} (e : S s = false) (e' : ∀ t, S' t = (S t || t == s)) : q_l4 (q_lS I S b D) s b D (q_tmv (q_lS I S b D) s) (q_fev (q_lS I S b D) s) = q_lS I S' b D := by
  rw [lS_tm, lS_fe]
  funext a t
  by_cases c : t = s
  · subst c
    have hS' : S' t = true := by rw [e' t]; simp
    by_cases ha : a < 57 ∨ 60 < a
    · rw [l4R ha, lS_R ha, lS_R ha]
    · have ha' : a = 57 ∨ a = 58 ∨ a = 59 ∨ a = 60 := by omega
      rcases ha' with rfl | rfl | rfl | rfl
      · rw [l4_57]; unfold q_lS; rw [hS']; rfl
      · rw [l4_58]; unfold q_lS; rw [hS']; rfl
      · rw [l4_59]; unfold q_lS; rw [hS']; rfl
      · rw [l4_60]; unfold q_lS; rw [hS']; rfl
  · rw [l4N c]
    unfold q_lS
    rw [e' t, show (t == s) = false by simp [c], Bool.or_false]
theorem sP_no (hT : q_T I nS nB) (hn : nB ≤ 40) {j p : Nat} (hj : j < nB) (hw : q_who I nS j p = none) : q_sP I nS j (p + 1) = q_sP I nS j p := by
  funext t
  unfold q_sP
  by_cases t1 : t < nS
  · by_cases t2 : I 54 t = nI j
    · have : q_n (I 55 t) ≠ p := fun z => by
        rcases hT.2.2.1 t t1 with ⟨e, -⟩ | ⟨j', p', j1, p1, e1, e2⟩
        · rw [t2] at e; exact q_nm1 (by omega) e
        · obtain ⟨-, zz, z1, z2, z3⟩ := hT.2.2.2.2.2.1 j' j1
          rw [z3, q_n_nI (by omega)] at p1
          rw [e2, q_n_nI (by omega)] at z
          exact q_who_none hw t t1 ⟨t2, by rw [e2, z]⟩
      have e : decide (q_n (I 55 t) < p + 1) = decide (q_n (I 55 t) < p) := by
        apply decide_eq_decide.mpr
        omega
      rw [e]
    · rw [show (I 54 t == nI j) = false from beq_eq_false_iff_ne.mpr t2]; simp
  · simp [t1]
theorem sP_yes (hT : q_T I nS nB) (hn : nB ≤ 40) {j p s : Nat} (hj : j < nB) (hp : p < 1000) (hw : q_who I nS j p = some s) : q_sP I nS j p s = false ∧ ∀ t, q_sP I nS j (p + 1) t = (q_sP I nS j p t || t == s) := by
  obtain ⟨s1, s2, s3⟩ := q_who_some hw
  have s0 : q_sP I nS j p s = false := by
    unfold q_sP
    rw [s3, q_n_nI (by omega)]
    simp
  refine ⟨s0, fun t => ?_⟩
  by_cases c : t = s
  · subst c
    rw [s0]
    unfold q_sP
    rw [s2, s3, q_n_nI (by omega)]
    simp [s1]
  · rw [show (t == s) = false by simp [c], Bool.or_false]
    unfold q_sP
    by_cases t1 : t < nS
    · by_cases t2 : I 54 t = nI j
      · have : q_n (I 55 t) ≠ p := fun z => by
          rcases hT.2.2.1 t t1 with ⟨e, -⟩ | ⟨j', p', j1, p1, e1, e2⟩
          · rw [t2] at e; exact q_nm1 (by omega) e
          · obtain ⟨-, zz, z1, z2, z3⟩ := hT.2.2.2.2.2.1 j' j1
            rw [z3, q_n_nI (by omega)] at p1
            rw [e2, q_n_nI (by omega)] at z
            exact c (hT.2.2.2.2.2.2.2.2.1 t s t1 s1 (by rw [t2]; exact q_nm1 (by omega)) (t2.trans s2.symm) (by rw [e2, z, s3]))
        have e : decide (q_n (I 55 t) < p + 1) = decide (q_n (I 55 t) < p) := by
          apply decide_eq_decide.mpr
          omega
        rw [e]
      · rw [show (I 54 t == nI j) = false from beq_eq_false_iff_ne.mpr t2]; simp
    · simp [t1]
theorem sP_end (hT : q_T I nS nB) (hn : nB ≤ 40) {j : Nat} (hj : j < nB) : q_sP I nS j (q_n (I 62 j)) = q_sM I j nS := by
  funext t
  unfold q_sP q_sM
  by_cases t1 : t < nS
  · by_cases t2 : I 54 t = nI j
    · rcases hT.2.2.1 t t1 with ⟨e, -⟩ | ⟨j', p', j1, p1, e1, e2⟩
      · exact absurd (t2.symm.trans e) (q_nm1 (by omega))
      · have : j' = j := (n_eq (by omega) (by omega)).mp (e1.symm.trans t2)
        subst this
        obtain ⟨-, zz, z1, z2, z3⟩ := hT.2.2.2.2.2.1 j' j1
        have p2 := p1
        rw [z3, q_n_nI (by omega)] at p2
        rw [e2, q_n_nI (by omega)]
        simp [p1]
    · rw [show (I 54 t == nI j) = false from beq_eq_false_iff_ne.mpr t2]; simp
  · simp [t1]
theorem sP_0 {j : Nat} : ∀ t, q_sP I nS j 0 t = false := fun t => by unfold q_sP; simp
theorem sM_0 {j : Nat} : ∀ t, q_sM I j 0 t = false := fun t => by unfold q_sM; simp
theorem sM_no {j s : Nat} (e : I 54 s ≠ nI j) : q_sM I j (s + 1) = q_sM I j s := by
  funext t
  unfold q_sM
  by_cases c : t = s
  · subst c; simp [e]
  · have : decide (t < s + 1) = decide (t < s) := decide_eq_decide.mpr (by omega)
    rw [this]
theorem sM_yes {j s : Nat} (e : I 54 s = nI j) : q_sM I j s s = false ∧ ∀ t, q_sM I j (s + 1) t = (q_sM I j s t || t == s) := by
  refine ⟨by unfold q_sM; simp, fun t => ?_⟩
  unfold q_sM
  by_cases c : t = s
  · subst c; simp [e]
  · have : decide (t < s + 1) = decide (t < s) := decide_eq_decide.mpr (by omega)
    rw [this, show (t == s) = false by simp [c], Bool.or_false]
/-- the hall counts a case -/
theorem c_lb12 (w : q_V h I nS nB lo ak nO sp bx qu own bl le) {j : Nat} (hj : j < nB) : m_loop (w_X9_lendBox_12 h 0 (bx j)) 5000 (0, 0) = some (q_fst (fun p => match q_who I nS j p with | some s => if q_ml I s = true then none else some (.inr ((-1 : Int32), h)) | none => none) (.inl (nI (q_cnt (q_sM I j nS) nS))) (q_n (I 62 j)) 0) := by
  obtain ⟨hF, hS, hN, hB, hH, hK, hR, hL, hT, hO⟩ := w
  have n4 := hF.2.2.2.2.2.2.2.2.1
  obtain ⟨b1, b2, b3, f, b4, b5⟩ := hB j hj
  obtain ⟨-, z, z1, z2, z3⟩ := hT.2.2.2.2.2.1 j hj
  have z4 : q_n (I 62 j) ≤ 20 := by rw [z3, q_n_nI (by omega)]; exact z2
  have l1 := m_search (step := w_X9_lendBox_12 h 0 (bx j)) (fun p => (nI (q_cnt (q_sP I nS j p) nS), nI p)) (fun p => match q_who I nS j p with | some s => if q_ml I s = true then none else some (.inr ((-1 : Int32), h)) | none => none) (.inl (nI (q_cnt (q_sM I j nS) nS))) (q_n (I 62 j)) (by omega) (fun p hp => by
    unfold w_X9_lendBox_12
    dsimp only
    rw [rB2 hB hj]
    simp only [Option.bind_some]
    rw [g_len b2 b4 (by decide)]
    simp only [Option.bind_some]
    rw [if_neg (by rw [n_le (by omega) (by omega)]; omega), g_al b2 b4 (by decide) hp (by omega), b5 p hp]
    simp only [Option.bind_some]
    cases hw : q_who I nS j p with
    | none =>
      simp only [Option.map_none]
      rw [sP_no hT n4 hj hw, nI_1]
    | some s =>
      obtain ⟨s1, s2, s3⟩ := q_who_some hw
      obtain ⟨y1, y2⟩ := sP_yes hT n4 hj (by omega) hw
      simp only [Option.map_some]
      rw [if_pos (oF0 hF), c_may hF hS hR hT s1]
      simp only [Option.bind_some, q_b0]
      cases q_ml I s with
      | true =>
        simp only [Bool.true_eq_false, if_false, if_true]
        rw [q_cnt_in s1 y1 y2, nI_1, nI_1]
      | false => rfl) (by
    unfold w_X9_lendBox_12
    dsimp only
    rw [rB2 hB hj]
    simp only [Option.bind_some]
    rw [g_len b2 b4 (by decide)]
    simp only [Option.bind_some]
    rw [if_pos (Int32.le_refl _), sP_end hT n4 hj])
  rw [← l1]
  show _ = m_loop _ 5000 (nI (q_cnt (q_sP I nS j 0) nS), nI 0)
  rw [q_cnt0 nS (fun t _ => sP_0 t)]
  rfl
theorem d_lb96 (hM : q_M h I nS nB lo ak) (hn : nS ≤ 300) (hR : n_R I) (hT : q_T I nS nB) {j : Nat} {x : Int32} (ex : x - 1000 = nI j) : m_loop (w_X10_lend_96 h 44 x) 5000 (0, 0) = some (q_fst (fun s => if I 54 s = nI j then (if q_ml I s = true then none else some (.inr ((-1 : Int32), h))) else none) (.inl (nI (q_cnt (q_sM I j nS) nS))) nS 0) := by
  have l1 := m_search (step := w_X10_lend_96 h 44 x) (fun s => (nI (q_cnt (q_sM I j s) nS), nI s)) (fun s => if I 54 s = nI j then (if q_ml I s = true then none else some (.inr ((-1 : Int32), h))) else none) (.inl (nI (q_cnt (q_sM I j nS) nS))) nS (by omega) (fun s hs => by
    unfold w_X10_lend_96
    dsimp only
    rw [rM6 hM]
    simp only [Option.bind_some]
    rw [if_neg (by rw [n_le (by omega) (by omega)]; omega), rM10 hM]
    simp only [Option.bind_some]
    rw [rI hM (a := 54) (by decide) (by decide) (show s < 300 by omega), ex]
    simp only [Option.bind_some]
    by_cases e : I 54 s = nI j
    · rw [if_pos e, if_pos e, if_pos (oM hM), d_may hM hn hR hT hs]
      simp only [Option.bind_some, q_b0]
      obtain ⟨y1, y2⟩ := sM_yes e
      cases q_ml I s with
      | true =>
        simp only [Bool.true_eq_false, if_false, if_true]
        rw [q_cnt_in hs y1 y2, nI_1, nI_1]
      | false => rfl
    · rw [if_neg e, if_neg e, sM_no e, nI_1]) (by
    unfold w_X10_lend_96
    dsimp only
    rw [rM6 hM]
    simp only [Option.bind_some]
    rw [if_pos (Int32.le_refl _)])
  rw [← l1]
  show _ = m_loop _ 5000 (nI (q_cnt (q_sM I j 0) nS), nI 0)
  rw [q_cnt0 nS (fun t _ => sM_0 t)]
  rfl
/-- both find the same -/
theorem lb_same (hT : q_T I nS nB) (hn : nB ≤ 40) {j : Nat} (hj : j < nB) {ρ : Type} (u v : ρ) : (∃ s, s < nS ∧ I 54 s = nI j ∧ q_ml I s = false) ∧ q_fst (fun p => match q_who I nS j p with | some s => if q_ml I s = true then none else some u | none => none) v (q_n (I 62 j)) 0 = u ∧ q_fst (fun s => if I 54 s = nI j then (if q_ml I s = true then none else some u) else none) v nS 0 = u ∨ (∀ s, s < nS → I 54 s = nI j → q_ml I s = true) ∧ q_fst (fun p => match q_who I nS j p with | some s => if q_ml I s = true then none else some u | none => none) v (q_n (I 62 j)) 0 = v ∧ q_fst (fun s => if I 54 s = nI j then (if q_ml I s = true then none else some u) else none) v nS 0 = v := by
  by_cases c : ∃ s, s < nS ∧ I 54 s = nI j ∧ q_ml I s = false
  · left
    refine ⟨c, ?_, ?_⟩
    · obtain ⟨s, s1, s2, s3⟩ := c
      rcases q_fst_spec (E := fun p => match q_who I nS j p with | some s => if q_ml I s = true then none else some u | none => none) (d := v) (q_n (I 62 j)) 0 with ⟨e, -⟩ | ⟨m, -, -, -, e⟩
      · rcases hT.2.2.1 s s1 with ⟨e', -⟩ | ⟨j', p', j1, p1, e1, e2⟩
        · rw [s2] at e'; exact absurd e' (q_nm1 (by omega))
        · have : j' = j := (n_eq (by omega) (by omega)).mp (e1.symm.trans s2)
          subst this
          have := e p' (by omega) (by omega)
          cases hw : q_who I nS j' p' with
          | none => exact absurd ⟨e1, e2⟩ (q_who_none hw s s1)
          | some t =>
            obtain ⟨t1, t2, t3⟩ := q_who_some hw
            have ts : t = s := hT.2.2.2.2.2.2.2.2.1 t s t1 s1 (by rw [t2]; exact q_nm1 (by omega)) (t2.trans e1.symm) (t3.trans e2.symm)
            rw [hw] at this
            subst ts
            simp [s3] at this
      · generalize q_fst _ v (q_n (I 62 j)) 0 = r at e ⊢
        split at e
        · split at e
          · cases e
          · exact (Option.some.inj e).symm
        · cases e
    · obtain ⟨s, s1, s2, s3⟩ := c
      rcases q_fst_spec (E := fun s => if I 54 s = nI j then (if q_ml I s = true then none else some u) else none) (d := v) nS 0 with ⟨e, -⟩ | ⟨m, -, -, -, e⟩
      · have := e s (by omega) (by omega)
        simp [s2, s3] at this
      · generalize q_fst _ v nS 0 = r at e ⊢
        split at e
        · split at e
          · cases e
          · exact (Option.some.inj e).symm
        · cases e
  · right
    have c' : ∀ s, s < nS → I 54 s = nI j → q_ml I s = true := fun s s1 s2 => by
      cases hm : q_ml I s with
      | true => rfl
      | false => exact absurd ⟨s, s1, s2, hm⟩ c
    refine ⟨c', ?_, ?_⟩
    · rcases q_fst_spec (E := fun p => match q_who I nS j p with | some s => if q_ml I s = true then none else some u | none => none) (d := v) (q_n (I 62 j)) 0 with ⟨-, e⟩ | ⟨m, -, -, -, e⟩
      · exact e
      · cases hw : q_who I nS j m with
        | none => rw [hw] at e; cases e
        | some t =>
          obtain ⟨t1, t2, t3⟩ := q_who_some hw
          rw [hw] at e
          simp [c' t t1 t2] at e
    · rcases q_fst_spec (E := fun s => if I 54 s = nI j then (if q_ml I s = true then none else some u) else none) (d := v) nS 0 with ⟨-, e⟩ | ⟨m, m1, m2, -, e⟩
      · exact e
      · by_cases z : I 54 m = nI j
        · simp [z, c' m (by omega) z] at e
        · simp [z] at e
/-- the hall lends a case -/
theorem c_lb79 (w : q_V h I nS nB lo ak nO sp bx qu own bl le) {j b D : Nat} (hj : j < nB) (hb : b < 20) (hD : D ≤ 100000) (hm : ∀ s, s < nS → I 54 s = nI j → q_ml I s = true) (hh : q_hld I nS b + q_cnt (q_sM I j nS) nS ≤ 12) : ∃ h1, m_loop (w_X9_lendBox_79 0 (nI b) (nI D) (bx j)) 5000 (0, h) = some h1 ∧ (∃ nO' le', q_V h1 (q_lS I (q_sM I j nS) (nI b) (nI D)) nS nB (lo + nI (q_cnt (q_sM I j nS) nS)) ak nO' sp bx qu own bl le') ∧ q_hf h h1 0 0 := by
  have w' := w
  obtain ⟨hF, hS, hN, hB, hH, hK, hR, hL, hT, hO⟩ := w
  have n4 := hF.2.2.2.2.2.2.2.2.1
  obtain ⟨-, z, z1, z2, z3⟩ := hT.2.2.2.2.2.1 j hj
  have z4 : q_n (I 62 j) ≤ 20 := by rw [z3, q_n_nI (by omega)]; exact z2
  refine m_forE (step := w_X9_lendBox_79 0 (nI b) (nI D) (bx j)) (fun p st => st.1 = nI p ∧ (∃ nO' le', q_V st.2 (q_lS I (q_sP I nS j p) (nI b) (nI D)) nS nB (lo + nI (q_cnt (q_sP I nS j p) nS)) ak nO' sp bx qu own bl le') ∧ q_hld (q_lS I (q_sP I nS j p) (nI b) (nI D)) nS b = q_hld I nS b + q_cnt (q_sP I nS j p) nS ∧ q_hf h st.2 0 0) _ (q_n (I 62 j)) (by omega) ?_ ?_ ?_
  · rintro p ⟨x, g⟩ hp ⟨e1, ⟨nO', le', v⟩, e3, e4⟩
    have v' := v
    obtain ⟨vF, vS, vN, vB, vH, vK, vR, vL, vT, vO⟩ := v'
    obtain ⟨b1, b2, b3, f, b4, b5⟩ := vB j hj
    rw [lS_R (by omega)] at b4 b5
    subst e1
    dsimp only at *
    have hwc : q_who (q_lS I (q_sP I nS j p) (nI b) (nI D)) nS j p = q_who I nS j p := q_who_congr (fun t _ => by rw [lS_R (by omega), lS_R (by omega)]; exact ⟨rfl, rfl⟩)
    have b6 := b5 p hp
    rw [hwc] at b6
    unfold w_X9_lendBox_79
    dsimp only
    rw [rB2 vB hj]
    simp only [Option.bind_some]
    rw [g_len b2 b4 (by decide)]
    simp only [Option.bind_some]
    rw [if_neg (by rw [n_le (by omega) (by omega)]; omega), g_al b2 b4 (by decide) hp (by omega), b6]
    simp only [Option.bind_some]
    cases hw : q_who I nS j p with
    | none =>
      simp only [Option.map_none]
      refine ⟨_, rfl, nI_1 _, ?_⟩
      rw [sP_no hT n4 hj hw]
      exact ⟨⟨nO', le', v⟩, e3, e4⟩
    | some s =>
      obtain ⟨s1, s2, s3⟩ := q_who_some hw
      obtain ⟨y1, y2⟩ := sP_yes hT n4 hj (by omega) hw
      have cn : q_cnt (q_sP I nS j (p + 1)) nS = q_cnt (q_sP I nS j p) nS + 1 := q_cnt_in s1 y1 y2
      have cl : q_cnt (q_sP I nS j (p + 1)) nS ≤ q_cnt (q_sM I j nS) nS := q_cnt_imp nS (fun t t1 t2 => by
        unfold q_sP at t2
        unfold q_sM
        rw [Bool.and_eq_true, Bool.and_eq_true] at t2
        rw [t2.1, t2.2.1]
        rfl)
      obtain ⟨g1, q, o1, o2, o3⟩ := s_lend (I := q_lS I (q_sP I nS j p) (nI b) (nI D)) v s1 hb hD (by rw [lS_ml y1]; exact hm s s1 s2) (by omega)
      simp only [Option.map_some]
      rw [if_pos (oF0 vF), o1]
      have hin : q_hld (q_lS I (q_sP I nS j (p + 1)) (nI b) (nI D)) nS b = q_hld (q_lS I (q_sP I nS j p) (nI b) (nI D)) nS b + 1 := by
        rw [← lS_in y1 y2]
        have := hld_in (I := q_lS I (q_sP I nS j p) (nI b) (nI D)) (y := nI D) (z := q_tmv (q_lS I (q_sP I nS j p) (nI b) (nI D)) s) (u := q_fev (q_lS I (q_sP I nS j p) (nI b) (nI D)) s) s1 (by
          have := (ml_vals hT (hm s s1 s2)).1
          rw [lS_N y1]; exact this) b hb hb
        rw [this, if_pos rfl]
      refine ⟨_, rfl, nI_1 _, ⟨nO' + 1, q_ins le' q s, ?_⟩, ?_, ?_⟩
      · rw [lS_in y1 y2] at o2
        rw [cn, ← nI_1, ← Int32.add_assoc]
        exact o2
      · rw [hin, e3, cn]; omega
      · exact e4.tr o3
  · rintro ⟨x, g⟩ ⟨e1, ⟨nO', le', v⟩, e3, e4⟩
    have v' := v
    obtain ⟨vF, vS, vN, vB, vH, vK, vR, vL, vT, vO⟩ := v'
    obtain ⟨b1, b2, b3, f, b4, b5⟩ := vB j hj
    rw [lS_R (by omega)] at b4 b5
    subst e1
    dsimp only at *
    refine ⟨g, ?_, ⟨nO', le', ?_⟩, e4⟩
    · unfold w_X9_lendBox_79
      dsimp only
      rw [rB2 vB hj]
      simp only [Option.bind_some]
      rw [g_len b2 b4 (by decide)]
      simp only [Option.bind_some]
      rw [if_pos (Int32.le_refl _)]
    · rw [sP_end hT n4 hj] at v
      exact v
  · have e0 : q_lS I (q_sP I nS j 0) (nI b) (nI D) = I := lS_0 sP_0
    refine ⟨rfl, ⟨nO, le, ?_⟩, ?_, q_hf.rf⟩
    · rw [e0, q_cnt0 nS (fun t _ => sP_0 t), show nI 0 = 0 from rfl, Int32.add_zero]
      exact w'
    · rw [e0, q_cnt0 nS (fun t _ => sP_0 t)]; rfl
theorem d_lb163 (hM : q_M h I nS nB lo ak) (hn : nS ≤ 300) (hR : n_R I) (hT : q_T I nS nB) {j b D : Nat} {x : Int32} (ex : x - 1000 = nI j) : ∃ h1, m_loop (w_X10_lend_163 44 x (nI b) (nI D)) 5000 (0, h) = some h1 ∧ q_M h1 (q_lS I (q_sM I j nS) (nI b) (nI D)) nS nB (lo + nI (q_cnt (q_sM I j nS) nS)) ak ∧ q_fr h h1 := by
  refine m_forE (step := w_X10_lend_163 44 x (nI b) (nI D)) (fun s st => st.1 = nI s ∧ q_M st.2 (q_lS I (q_sM I j s) (nI b) (nI D)) nS nB (lo + nI (q_cnt (q_sM I j s) nS)) ak ∧ q_fr h st.2) _ nS (by omega) ?_ ?_ ?_
  · rintro s ⟨y, g⟩ hs ⟨e1, e2, e3⟩
    dsimp only at e1 e2 e3
    subst e1
    unfold w_X10_lend_163
    dsimp only
    rw [rM6 e2]
    simp only [Option.bind_some]
    rw [if_neg (by rw [n_le (by omega) (by omega)]; omega), rM10 e2]
    simp only [Option.bind_some]
    rw [rI e2 (a := 54) (by decide) (by decide) (show s < 300 by omega), ex, lS_R (by omega)]
    simp only [Option.bind_some]
    by_cases e : I 54 s = nI j
    · obtain ⟨y1, y2⟩ := sM_yes e
      obtain ⟨g1, o1, o2, o3⟩ := d_lends (b := b) (D := D) e2 hn (by unfold n_R; rw [lS_R (by omega)]; exact hR) hs (by rw [lS_R (by omega)]; exact hT.1 s hs)
      rw [if_pos e, if_pos (oM e2), o1]
      refine ⟨_, rfl, nI_1 _, ?_, e3.tr o3⟩
      rw [lS_in y1 y2] at o2
      rw [q_cnt_in hs y1 y2, ← nI_1, ← Int32.add_assoc]
      exact o2
    · rw [if_neg e]
      refine ⟨_, rfl, nI_1 _, ?_, e3⟩
      rw [sM_no e]
      exact e2
  · rintro ⟨y, g⟩ ⟨e1, e2, e3⟩
    dsimp only at e1 e2 e3
    subst e1
    refine ⟨g, ?_, e2, e3⟩
    unfold w_X10_lend_163
    dsimp only
    rw [rM6 e2]
    simp only [Option.bind_some]
    rw [if_pos (Int32.le_refl _)]
  · refine ⟨rfl, ?_, q_fr.rf⟩
    rw [lS_0 sM_0, q_cnt0 nS (fun t _ => sM_0 t), show nI 0 = 0 from rfl, Int32.add_zero]
    exact hM
end OPS
