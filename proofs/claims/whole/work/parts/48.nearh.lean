/-! PURE PART 9: the class's nearest rules -/
def q_f (x : Int32) : Bool := decide (0 ≤ x.toInt ∧ x.toInt < 5)
theorem c_isField (x : Int32) : f_X5_isField x = some (q_b (q_f x)) := by
  unfold f_X5_isField q_f q_b
  simp only [Int32.lt_iff_toInt_lt, Int32.le_iff_toInt_le, show (0 : Int32).toInt = 0 from rfl, show (5 : Int32).toInt = 5 from rfl]
  repeat' split
  all_goals first | rfl | (simp_all; try omega)
theorem q_fE {x : Int32} (h : q_f x = true) : ∃ k, k < 5 ∧ x = nI k := by
  have := of_decide_eq_true h
  exact n_of this.1 this.2
theorem q_f_nI {k : Nat} (hk : k < 5) : q_f (nI k) = true := by
  unfold q_f
  rw [nI_toInt (by omega)]
  simp
  omega
def n_E (P : Nat → Bool) (L : Int64) (k n : Nat) : Option (Unit ⊕ Int64) := if P (t_ch k n) = true then some (.inr ((1 : Int64) <<< ((nI (t_ch k n)).toInt64 &&& 63))) else if m_t1.getD (t_ch k n) 0 &&& L = 0 then none else some (.inr ((f_X1_lowest (m_t1.getD (t_ch k n) 0 &&& L)).getD 0))
theorem c_nearLoop {h : mH} {L : Int64} {P : Nat → Bool} {k f : Nat} (hk : k < 24) (hf : f < 5) (r1 : m_gr h 37 4 0 = some (some 38)) (r2 : m_lld h 38 (nI f) = some L) (hL : ∀ c, c < 64 → L.toBitVec.getLsbD c = (decide (c < 49) && P c)) :
    f_X5_nearestOf h 37 (nI k) (nI f) = (match q_fst (n_E P L k) (Sum.inl ()) (t_cl k) 0 with | .inl _ => some 0 | .inr v => some v) := by
  unfold f_X5_nearestOf
  rw [c_isField, q_f_nI hf]
  obtain ⟨c0, c1, c2⟩ := ch0 k hk
  have hl := m_search (step := w_X5_nearestOf_14 h 37 (nI f)) (fun n => ((if n < t_cl k then nI (t_ch k n) else -1), nI n)) (n_E P L k) (Sum.inl ()) (t_cl k) (by omega) (fun n hn => by
    obtain ⟨d1, d2⟩ := ch1 k hk n hn
    unfold w_X5_nearestOf_14 n_E
    dsimp only
    rw [if_neg (by rw [show (24 : Int32) = nI 24 from rfl, n_le (by omega) (by omega)]; omega)]
    rw [if_pos hn, c_isKind, q_k_nI (by omega), r1]
    simp only [Option.bind_some]
    rw [r2]
    simp only [Option.bind_some]
    rw [c_has (by omega), hL _ (by omega), ch7 _ d1, ch6 k hk n hn]
    have hnk : n_k (t_ch k n) = true := by unfold n_k; simp [d1]
    have hlt : decide (t_ch k n < 49) = true := by simp; omega
    simp only [hnk, hlt, Bool.true_and, Option.bind_some, q_b0, Bool.true_eq_false, if_false, lg0, nI_1]
    cases hp : P (t_ch k n) with
    | true => simp
    | false =>
      simp only [if_true, Bool.false_eq_true, if_false]
      by_cases hz : m_t1.getD (t_ch k n) 0 &&& L = 0
      · simp only [hz, if_true]
      · simp only [hz, if_false]
        obtain ⟨S', s1, s2⟩ := c_lowest (m_t1.getD (t_ch k n) 0 &&& L)
        rw [s1]
        rfl) (by
    unfold w_X5_nearestOf_14
    dsimp only
    rw [if_neg (by rw [show (24 : Int32) = nI 24 from rfl, n_le (by omega) (by omega)]; omega), if_neg (Nat.lt_irrefl _)]
    rfl)
  have e0 : (nI k, (0 : Int32)) = (fun n => ((if n < t_cl k then nI (t_ch k n) else -1), nI n)) 0 := by
    simp only [c1, if_true, c0]
    rfl
  simp only [Option.bind_some]
  rw [if_neg (by decide), e0, hl]
  rfl
theorem n_tN {c : Nat} (h : n_t c = true) : 40 ≤ c ∧ c < 49 := of_decide_eq_true h
theorem i_am {m n : Nat} (hm : m < 100) (hn : n < 100) : nI m ≤ nI n ↔ m ≤ n := n_le (by omega) (by omega)
set_option maxHeartbeats 1000000 in
theorem c_nearestOf {h : mH} {L : Int64} {P : Nat → Bool} {k f : Nat} (hk : k < 24) (hf : f < 5) (r1 : m_gr h 37 4 0 = some (some 38)) (r2 : m_lld h 38 (nI f) = some L) (hL : ∀ c, c < 64 → L.toBitVec.getLsbD c = (decide (c < 49) && P c)) (hP : ∀ c, c < 49 → P c = true → n_c c = true) :
    ∃ S, f_X5_nearestOf h 37 (nI k) (nI f) = some S ∧ ∀ c, c < 49 → S.toBitVec.getLsbD c = n_ne P k c := by
  rw [c_nearLoop hk hf r1 r2 hL]
  obtain ⟨c0, c1, c2⟩ := ch0 k hk
  have bT : ∀ m t, t < 49 → (m_t1.getD (t_ch k m) 0 &&& L).toBitVec.getLsbD t = (n_nm (t_ch k m) t && P t) := by
    intro m t ht
    rw [Int64.toBitVec_and, BitVec.getLsbD_and, hL t (by omega)]
    simp [ht, n_nm]
  -- a rule with steps m makes level m end the way
  have hit : ∀ m, m < t_cl k → ∀ c, c < 49 → P c = true → t_st k c = nI m → n_E P L k m ≠ none := by
    intro m hm c hc hp hs
    unfold n_E
    by_cases h1 : P (t_ch k m) = true
    · rw [if_pos h1]; simp
    · rw [if_neg h1, if_neg]
      · simp
      · intro hz
        have hcode := hP c hc hp
        by_cases hkc : c < 24
        · have := ch2 k hk m hm c hkc hs
          rw [← this] at h1
          exact h1 hp
        · have htc : 40 ≤ c := by unfold n_c n_k n_t at hcode; simp at hcode; omega
          have h4 := ch4 k hk m hm (c - 40) (by omega)
          rw [show 40 + (c - 40) = c by omega, hs] at h4
          have h5 := bT m c hc
          rw [hz, hp] at h5
          simp at h4
          rw [h4] at h5
          simp at h5
  have lev : ∀ c, c < 49 → P c = true → t_st k c ≠ -1 → ∃ m, m < t_cl k ∧ t_st k c = nI m := by
    intro c hc hp hs
    have h5 := ch5 k hk c hc
    rw [Bool.or_eq_true] at h5
    rcases h5 with h5 | h5
    · exact absurd (eq_of_beq h5) hs
    · obtain ⟨m, hm, he⟩ := List.any_eq_true.mp h5
      exact ⟨m, List.mem_range.mp hm, eq_of_beq he⟩
  rcases q_fst_spec (E := n_E P L k) (d := Sum.inl ()) (t_cl k) 0 with ⟨h1, h2⟩ | ⟨m, -, h2, h3, h4⟩
  · rw [h2]
    refine ⟨0, rfl, fun c hc => ?_⟩
    have hfw : q_fw P k 49 = -1 := by
      rcases q_fw_spec P k 49 with ⟨e, -⟩ | ⟨e1, ⟨c', e2, e3, e4⟩, -⟩
      · exact e
      · obtain ⟨m, hm, hs⟩ := lev c' e2 e3 (by rw [e4]; exact e1)
        exact absurd (h1 m (Nat.zero_le _) (by omega)) (hit m hm c' e2 e3 hs)
    unfold n_ne
    rw [hfw]
    simp
  · have hm : m < t_cl k := by omega
    have low : ∀ c, c < 49 → P c = true → t_st k c ≠ -1 → nI m ≤ t_st k c := by
      intro c hc hp hs
      obtain ⟨j, hj, he⟩ := lev c hc hp hs
      rw [he, i_am (by omega) (by omega)]
      exact Classical.byContradiction fun z => hit j hj c hc hp he (h3 j (Nat.zero_le _) (by omega))
    obtain ⟨d1, d2⟩ := ch1 k hk m hm
    have m1 : nI m ≠ -1 := by
      intro z
      have := congrArg Int32.toInt z
      rw [nI_toInt (by omega), show (-1 : Int32).toInt = -1 from rfl] at this
      omega
    have fw : (∃ c, c < 49 ∧ P c = true ∧ t_st k c = nI m) → q_fw P k 49 = nI m := by
      rintro ⟨c, hc, hp, hs⟩
      rcases q_fw_spec P k 49 with ⟨-, e⟩ | ⟨e1, ⟨c', e2, e3, e4⟩, e5⟩
      · exact absurd (hs.symm.trans (e c hc hp)) m1
      · have a1 := low c' e2 e3 (by rw [e4]; exact e1)
        have a2 := e5 c hc hp (by rw [hs]; exact m1)
        rw [e4] at a1
        rw [hs] at a2
        rw [Int32.le_iff_toInt_le] at a1 a2
        apply Int32.toInt_inj.mp
        omega
    have clk : ∀ c, c < 24 → n_cl P k (nI m) c = true → c = t_ch k m := by
      intro c hc hcl
      unfold n_cl at hcl
      rw [Bool.and_eq_true] at hcl
      exact ch2 k hk m hm c hc (of_decide_eq_true hcl.2)
    generalize q_fst (n_E P L k) (Sum.inl ()) (t_cl k) 0 = R at h4
    unfold n_E at h4
    by_cases hp : P (t_ch k m) = true
    · rw [if_pos hp] at h4
      cases h4
      refine ⟨_, rfl, fun c hc => ?_⟩
      rw [b_1shl (by omega)]
      have hfw := fw ⟨t_ch k m, by omega, hp, d2⟩
      have hcl : n_cl P k (nI m) (t_ch k m) = true := by unfold n_cl; rw [hp, d2]; simp
      unfold n_ne
      rw [hfw, beq_eq_false_iff_ne.mpr m1]
      by_cases e : c = t_ch k m
      · have : n_k c = true := by unfold n_k; simp; omega
        rw [this, e, hcl]
        simp
      · cases hcc : n_cl P k (nI m) c with
        | false => simp [e]
        | true =>
          have hk2 : n_k c = false := by
            unfold n_k
            simp
            exact Classical.byContradiction fun z => e (clk c (by omega) hcc)
          have hall : (List.range 24).all (fun d => !(n_cl P k (nI m) d)) = false := by
            rw [List.all_eq_false]
            exact ⟨t_ch k m, List.mem_range.mpr d1, by rw [hcl]; simp⟩
          rw [hk2, hall]
          simp [e]
    · rw [if_neg hp] at h4
      by_cases hz : m_t1.getD (t_ch k m) 0 &&& L = 0
      · rw [if_pos hz] at h4; cases h4
      · rw [if_neg hz] at h4
        obtain ⟨S', s1, s2⟩ := c_lowest (m_t1.getD (t_ch k m) 0 &&& L)
        rw [s1] at h4
        cases h4
        refine ⟨S', rfl, fun c hc => ?_⟩
        rw [s2 c (by omega)]
        -- some trait of the level has a rule
        have ex : ∃ t, t < 49 ∧ n_nm (t_ch k m) t = true ∧ P t = true := by
          apply Classical.byContradiction
          intro hno
          apply hz
          rw [b_eq0]
          apply BitVec.eq_of_getLsbD_eq
          intro i hi
          rw [BitVec.getLsbD_zero, Int64.toBitVec_and, BitVec.getLsbD_and, hL i hi]
          by_cases hi2 : i < 49
          · cases e1 : n_nm (t_ch k m) i with
            | false => unfold n_nm at e1; rw [e1]; rfl
            | true =>
              cases e2 : P i with
              | false => simp
              | true => exact absurd ⟨i, hi2, e1, e2⟩ hno
          · simp [hi2]
        have nmt : ∀ t, t < 49 → n_nm (t_ch k m) t = true → n_t t = true := fun t ht hn => ch8 _ d1 t (by omega) hn
        have stm : ∀ t, t < 49 → n_nm (t_ch k m) t = true → P t = true → t_st k t = nI m := by
          intro t ht hn hpt
          have htt := n_tN (nmt t ht hn)
          have h5 := ch3 k hk m hm (t - 40) (by omega)
          rw [show 40 + (t - 40) = t by omega, hn] at h5
          simp only [Bool.not_true, Bool.false_or] at h5
          obtain ⟨j, hj, he⟩ := List.any_eq_true.mp h5
          have hj := List.mem_range.mp hj
          have he := eq_of_beq he
          have hlo := low t ht hpt (by
            rw [he]
            intro z
            have := congrArg Int32.toInt z
            rw [nI_toInt (by omega), show (-1 : Int32).toInt = -1 from rfl] at this
            omega)
          rw [he, i_am (by omega) (by omega)] at hlo
          rw [he, show j = m by omega]
        obtain ⟨t0, u1, u2, u3⟩ := ex
        have hfw := fw ⟨t0, u1, u3, stm t0 u1 u2 u3⟩
        have ncl : ∀ d, d < 24 → n_cl P k (nI m) d = false := by
          intro d hd
          cases e : n_cl P k (nI m) d with
          | false => rfl
          | true =>
            have := clk d hd e
            unfold n_cl at e
            rw [Bool.and_eq_true, this] at e
            exact absurd e.1 hp
        have key : ∀ c, c < 49 → (n_nm (t_ch k m) c && P c) = n_cl P k (nI m) c := by
          intro c hc
          cases e : n_cl P k (nI m) c with
          | true =>
            have e2 := e
            unfold n_cl at e2
            rw [Bool.and_eq_true] at e2
            have hcode := hP c hc e2.1
            have hnk : ¬ c < 24 := fun z => by rw [ncl c z] at e; cases e
            have htc : 40 ≤ c := by unfold n_c n_k n_t at hcode; simp at hcode; omega
            have h4' := ch4 k hk m hm (c - 40) (by omega)
            rw [show 40 + (c - 40) = c by omega, of_decide_eq_true e2.2] at h4'
            simp at h4'
            rw [h4', e2.1]
            rfl
          | false =>
            cases e1 : n_nm (t_ch k m) c with
            | false => rfl
            | true =>
              cases e2 : P c with
              | false => rfl
              | true =>
                have := stm c hc e1 e2
                unfold n_cl at e
                rw [e2, this] at e
                simp at e
        unfold n_ne n_lo
        dsimp only
        rw [hfw, beq_eq_false_iff_ne.mpr m1, bT m c hc, key c hc]
        simp only [Bool.not_false, Bool.true_and]
        cases e : n_cl P k (nI m) c with
        | false => rfl
        | true =>
          have hk2 : n_k c = false := by
            unfold n_k
            simp
            exact Classical.byContradiction fun z => by rw [ncl c (by omega)] at e; cases e
          have hall : (List.range 24).all (fun d => !(n_cl P k (nI m) d)) = true := by
            rw [List.all_eq_true]
            intro d hd
            rw [ncl d (List.mem_range.mp hd)]
            rfl
          rw [hk2, hall]
          simp only [Bool.true_and, Bool.false_or]
          have cong : ∀ (l : List Nat), (∀ t, t ∈ l → t < 49) → l.all (fun o => !((m_t1.getD (t_ch k m) 0 &&& L).toBitVec.getLsbD o) || c == o || !(t_up c o)) = l.all (fun t => t == c || !(n_cl P k (nI m) t && t_up c t)) := by
            intro l
            induction l with
            | nil => intro _; rfl
            | cons t l ih =>
              intro hl
              rw [List.all_cons, List.all_cons, ih (fun t ht => hl t (List.mem_cons_of_mem _ ht)), bT m t (hl t List.mem_cons_self), key t (hl t List.mem_cons_self)]
              congr 1
              have : (c == t) = (t == c) := by
                by_cases q : c = t
                · subst q; rfl
                · rw [beq_eq_false_iff_ne.mpr q, beq_eq_false_iff_ne.mpr (fun z => q z.symm)]
              rw [this]
              cases n_cl P k (nI m) t <;> cases (t == c) <;> cases t_up c t <;> rfl
          exact cong t_tr (by decide)
theorem c_answer {h : mH} {L : Int64} {P : Nat → Bool} {val : Nat → Int32} {k f : Nat} (hk : k < 24) (hf : f < 5) (r1 : m_gr h 37 4 0 = some (some 38)) (r2 : m_lld h 38 (nI f) = some L) (hL : ∀ c, c < 64 → L.toBitVec.getLsbD c = (decide (c < 49) && P c)) (hP : ∀ c, c < 49 → P c = true → n_c c = true)
    (ro : m_ob h 37 4 = true) (r3 : m_gr h 37 4 1 = some (some 39)) (r4 : ∀ c, c < 49 → n_ne P k c = true → m_ild h 39 (nI f * 49 + nI c) = some (val c)) : f_X5_answer h 37 (nI k) (nI f) = some (q_say (n_ne P k) val) := by
  obtain ⟨S, s1, s2⟩ := c_nearestOf hk hf r1 r2 hL hP
  unfold f_X5_answer
  rw [c_isField, q_f_nI hf]
  simp only [Option.bind_some]
  rw [if_neg (by decide), if_pos ro, s1]
  simp only [Option.bind_some]
  generalize n_ne P k = N at s2 r4 ⊢
  have hl := m_search (step := w_X5_answer_22 h 37 (nI f) S) (fun c => (q_sv N val c, nI c)) (fun c => ((if N c = true ∧ q_sv N val c ≠ -1 ∧ q_sv N val c ≠ val c then some (-2) else none) : Option Int32).map (Sum.inr : Int32 → Int32 ⊕ Int32)) (Sum.inl (q_sv N val 49)) 49 (by decide) (fun c hc => by
    unfold w_X5_answer_22
    dsimp only
    rw [if_neg (by rw [show (49 : Int32) = nI 49 from rfl, n_le (by omega) (by omega)]; omega), c_has (by omega), s2 c hc, q_sv_s]
    simp only [Option.bind_some, q_b0, nI_1]
    cases hNc : N c with
    | false => simp
    | true =>
      rw [if_neg (by simp), r3]
      simp only [Option.bind_some]
      rw [r4 c hc hNc]
      simp only [Option.bind_some]
      by_cases h1 : q_sv N val c = -1
      · simp [h1]
      · by_cases h2 : q_sv N val c = val c
        · simp [h2]
        · simp [h1, h2]) (by
    unfold w_X5_answer_22
    dsimp only
    rw [if_pos (by decide)])
  rw [show (((-1) : Int32), (0 : Int32)) = (fun c => (q_sv N val c, nI c)) 0 from rfl, hl]
  simp only [Option.bind_some]
  exact q_say_m 49 0
