/-! PURE PART 8: nearest rules -/
def n_cl (P : Nat → Bool) (k : Nat) (n : Int32) (c : Nat) : Bool := P c && decide (t_st k c = n)
def q_fw (P : Nat → Bool) (k : Nat) : Nat → Int32
  | 0 => -1
  | c + 1 => if P c = true ∧ t_st k c ≠ -1 ∧ (q_fw P k c = -1 ∨ ¬ (q_fw P k c ≤ t_st k c)) then t_st k c else q_fw P k c
def n_ne (P : Nat → Bool) (k c : Nat) : Bool := !(q_fw P k 49 == -1) && (n_cl P k (q_fw P k 49) c && (n_k c || ((List.range 24).all (fun d => !(n_cl P k (q_fw P k 49) d)) && t_tr.all (fun t => t == c || !(n_cl P k (q_fw P k 49) t && t_up c t)))))
def q_sv (N : Nat → Bool) (val : Nat → Int32) : Nat → Int32
  | 0 => -1
  | c + 1 => if N c = true then val c else q_sv N val c
theorem q_sv_s (N : Nat → Bool) (val : Nat → Int32) (c : Nat) : q_sv N val (c + 1) = if N c = true then val c else q_sv N val c := rfl
def q_say (N : Nat → Bool) (val : Nat → Int32) : Int32 := q_fst (fun c => if N c = true ∧ q_sv N val c ≠ -1 ∧ q_sv N val c ≠ val c then some (-2) else none) (q_sv N val 49) 49 0
theorem q_fst_any {ρ : Type} {B : Nat → Bool} {u v : ρ} : ∀ n i, q_fst (fun j => if B j = true then some u else none) v n i = if (List.range' i n).any B then u else v
  | 0, i => rfl
  | n + 1, i => by
    unfold q_fst
    rw [List.range'_succ, List.any_cons]
    cases hb : B i with
    | true => simp
    | false => simp only [Bool.false_eq_true, if_false, Bool.false_or]; exact q_fst_any n (i + 1)
theorem q_fst_spec {ρ : Type} {E : Nat → Option ρ} {d : ρ} : ∀ n i, (∀ j, i ≤ j → j < i + n → E j = none) ∧ q_fst E d n i = d ∨ ∃ m, i ≤ m ∧ m < i + n ∧ (∀ j, i ≤ j → j < m → E j = none) ∧ E m = some (q_fst E d n i)
  | 0, i => Or.inl ⟨fun j h1 h2 => by omega, rfl⟩
  | n + 1, i => by
    unfold q_fst
    cases he : E i with
    | some r => exact Or.inr ⟨i, Nat.le_refl _, by omega, fun j h1 h2 => by omega, he⟩
    | none =>
      simp only
      rcases q_fst_spec (E := E) (d := d) n (i + 1) with ⟨h1, h2⟩ | ⟨m, h1, h2, h3, h4⟩
      · refine Or.inl ⟨fun j j1 j2 => ?_, h2⟩
        by_cases e : j = i
        · subst e; exact he
        · exact h1 j (by omega) (by omega)
      · refine Or.inr ⟨m, by omega, by omega, fun j j1 j2 => ?_, h4⟩
        by_cases e : j = i
        · subst e; exact he
        · exact h3 j (by omega) j2
theorem q_say_m {E : Nat → Option Int32} {d : Int32} : ∀ n i, (match q_fst (fun i => (E i).map (Sum.inr : Int32 → Int32 ⊕ Int32)) (Sum.inl d) n i with | .inl x => some x | .inr x => some x) = some (q_fst E d n i) := by
  intro n
  induction n with
  | zero => intro i; rfl
  | succ n ih =>
    intro i
    unfold q_fst
    cases E i with
    | some r => rfl
    | none => exact ih (i + 1)
/-- the least of the steps -/
theorem q_fw_spec (P : Nat → Bool) (k : Nat) : ∀ n, (q_fw P k n = -1 ∧ ∀ c, c < n → P c = true → t_st k c = -1) ∨ (q_fw P k n ≠ -1 ∧ (∃ c, c < n ∧ P c = true ∧ t_st k c = q_fw P k n) ∧ ∀ c, c < n → P c = true → t_st k c ≠ -1 → q_fw P k n ≤ t_st k c)
  | 0 => Or.inl ⟨rfl, fun c hc => by omega⟩
  | n + 1 => by
    unfold q_fw
    rcases q_fw_spec P k n with ⟨h1, h2⟩ | ⟨h1, ⟨c0, h2, h3, h4⟩, h5⟩
    · by_cases hc : P n = true ∧ t_st k n ≠ -1
      · rw [if_pos ⟨hc.1, hc.2, Or.inl h1⟩]
        refine Or.inr ⟨hc.2, ⟨n, by omega, hc.1, rfl⟩, fun c hc1 hc2 hc3 => ?_⟩
        by_cases e : c = n
        · subst e; exact Int32.le_refl _
        · exact absurd (h2 c (by omega) hc2) hc3
      · rw [if_neg (fun z => hc ⟨z.1, z.2.1⟩)]
        refine Or.inl ⟨h1, fun c hc1 hc2 => ?_⟩
        by_cases e : c = n
        · subst e
          exact Classical.byContradiction fun z => hc ⟨hc2, z⟩
        · exact h2 c (by omega) hc2
    · by_cases hc : P n = true ∧ t_st k n ≠ -1 ∧ ¬ (q_fw P k n ≤ t_st k n)
      · rw [if_pos ⟨hc.1, hc.2.1, Or.inr hc.2.2⟩]
        refine Or.inr ⟨hc.2.1, ⟨n, by omega, hc.1, rfl⟩, fun c hc1 hc2 hc3 => ?_⟩
        by_cases e : c = n
        · subst e; exact Int32.le_refl _
        · have h6 := h5 c (by omega) hc2 hc3
          have h7 := hc.2.2
          rw [Int32.le_iff_toInt_le] at h6 h7 ⊢
          omega
      · rw [if_neg (fun z => hc ⟨z.1, z.2.1, z.2.2.resolve_left h1⟩)]
        refine Or.inr ⟨h1, ⟨c0, by omega, h3, h4⟩, fun c hc1 hc2 hc3 => ?_⟩
        by_cases e : c = n
        · subst e
          exact Classical.byContradiction fun z => hc ⟨hc2, hc3, z⟩
        · exact h5 c (by omega) hc2 hc3
section QM
variable {h h' : mH} {I : Nat → Nat → Int32} {nS nB : Nat} {lo ak : Int32}
def n_P (I : Nat → Nat → Int32) (f c : Nat) : Bool := decide (I 50 (5 * c + f) ≠ -1)
theorem i_5 {c f : Nat} : (5 : Int32) * nI c + nI f = nI (5 * c + f) := by
  rw [show (5 : Int32) = nI 5 from rfl, pk_mul, nI_add]
theorem d_ruleAt (hM : q_M h I nS nB lo ak) {c f : Nat} (hc : c < 49) (hf : f < 5) : f_X10_ruleAt h 44 (nI c) (nI f) = some (I 50 (5 * c + f)) := by
  unfold f_X10_ruleAt
  rw [rM5 hM]
  simp only [Option.bind_some]
  rw [i_5, rI hM (by decide) (by decide) (show 5 * c + f < 245 by omega)]
  rfl
/-- rules are of kinds and traits alone -/
def n_R (I : Nat → Nat → Int32) : Prop := ∀ c, c < 49 → n_c c = false → ∀ f, f < 5 → I 50 (5 * c + f) = -1
theorem n_R.c (hR : n_R I) {c f : Nat} (hc : c < 49) (hf : f < 5) (hp : n_P I f c = true) : n_c c = true := by
  cases e : n_c c with
  | true => rfl
  | false =>
    have := hR c hc e f hf
    unfold n_P at hp
    rw [this] at hp
    exact absurd hp (by decide)
theorem d_fewest (hM : q_M h I nS nB lo ak) (hR : n_R I) {k f : Nat} (hk : k < 24) (hf : f < 5) : f_X10_fewest h 44 (nI k) (nI f) = some (q_fw (n_P I f) k 49) := by
  unfold f_X10_fewest
  have h := m_for (step := w_X10_fewest_5 h 44 (nI k) (nI f)) (fun c => (q_fw (n_P I f) k c, nI c)) (q_fw (n_P I f) k 49) 49 (by decide) (fun c hc => by
    unfold w_X10_fewest_5
    dsimp only
    rw [if_neg (by rw [show (49 : Int32) = nI 49 from rfl, n_le (by omega) (by omega)]; omega), if_pos (oM hM), d_ruleAt hM hc hf]
    simp only [Option.bind_some, nI_1]
    show _ = some (Sum.inl (if n_P I f c = true ∧ t_st k c ≠ -1 ∧ (q_fw (n_P I f) k c = -1 ∨ ¬ (q_fw (n_P I f) k c ≤ t_st k c)) then t_st k c else q_fw (n_P I f) k c, nI (c + 1)))
    by_cases hp : I 50 (5 * c + f) = -1
    · have : n_P I f c = false := by unfold n_P; simp [hp]
      simp [hp, this]
    · have hpt : n_P I f c = true := by unfold n_P; simp [hp]
      rw [if_neg hp, if_pos (oM hM), d_steps hM hk hc (hR.c hc hf hpt)]
      simp only [Option.bind_some, hpt, true_and]
      by_cases h1 : t_st k c = -1
      · simp [h1]
      · by_cases h2 : q_fw (n_P I f) k c = -1
        · simp [h1, h2]
        · by_cases h3 : q_fw (n_P I f) k c ≤ t_st k c
          · simp [h1, h2, h3]
          · simp [h1, h2, h3]) (by
    unfold w_X10_fewest_5
    dsimp only
    rw [if_pos (by decide)])
  rw [show (((-1) : Int32), (0 : Int32)) = (fun c => (q_fw (n_P I f) k c, nI c)) 0 from rfl, h]
  rfl
theorem d_close (hM : q_M h I nS nB lo ak) (hR : n_R I) {k f c : Nat} (hk : k < 24) (hf : f < 5) (hc : c < 49) (n : Int32) : f_X10_isClose h 44 (nI k) (nI f) (nI c) n = some (q_b (n_cl (n_P I f) k n c)) := by
  unfold f_X10_isClose
  rw [if_pos (oM hM), d_ruleAt hM hc hf]
  simp only [Option.bind_some]
  unfold n_cl
  by_cases hp : I 50 (5 * c + f) = -1
  · have : n_P I f c = false := by unfold n_P; simp [hp]
    rw [if_pos hp, this]
    rfl
  · have hpt : n_P I f c = true := by unfold n_P; simp [hp]
    rw [if_neg hp, if_pos (oM hM), d_steps hM hk hc (hR.c hc hf hpt), hpt]
    simp only [Option.bind_some, Bool.true_and]
    by_cases h1 : t_st k c = n
    · rw [if_pos h1]; simp [h1, q_b]
    · rw [if_neg h1]; simp [h1, q_b]
theorem d_isNearest (hM : q_M h I nS nB lo ak) (hR : n_R I) {k f c : Nat} (hk : k < 24) (hf : f < 5) (hc : c < 49) : f_X10_isNearest h 44 (nI k) (nI f) (nI c) (q_fw (n_P I f) k 49) = some (q_b (n_ne (n_P I f) k c)) := by
  unfold f_X10_isNearest n_ne
  generalize hn : q_fw (n_P I f) k 49 = n
  by_cases h1 : n = -1
  · rw [if_pos h1]
    simp [h1, q_b]
  · rw [if_neg h1, if_pos (oM hM), d_close hM hR hk hf hc, d_isKind, q_k_nI (by omega)]
    have hb : (n == -1) = false := beq_eq_false_iff_ne.mpr h1
    simp only [Option.bind_some, q_b0, hb, Bool.not_false, Bool.true_and]
    cases h2 : n_cl (n_P I f) k n c with
    | false => rfl
    | true =>
      simp only [Bool.true_eq_false, if_false, Bool.true_and]
      cases h3 : n_k c with
      | true => rfl
      | false =>
        have hpt : n_P I f c = true := by unfold n_cl at h2; exact (Bool.and_eq_true _ _ ▸ h2).1
        have hct : n_t c = true := by have := hR.c hc hf hpt; unfold n_c at this; rw [h3] at this; simpa using this
        simp only [if_true, Bool.false_or]
        have l1 := m_search (step := w_X10_isNearest_32 h 44 (nI k) (nI f) n) (fun i => nI i) (fun i => if n_cl (n_P I f) k n i = true then some (Sum.inr 0) else none) (Sum.inl ()) 24 (by decide) (fun i hi => by
          unfold w_X10_isNearest_32
          rw [if_neg (by rw [show (24 : Int32) = nI 24 from rfl, n_le (by omega) (by omega)]; omega), if_pos (oM hM), d_close hM hR hk hf (by omega)]
          simp only [Option.bind_some, q_b0, nI_1]
          cases n_cl (n_P I f) k n i <;> rfl) (by
          unfold w_X10_isNearest_32
          rw [if_pos (by decide)])
        rw [show (0 : Int32) = (fun i => nI i) 0 from rfl, l1]
        simp only [Option.bind_some]
        rw [q_fst_any]
        have e1 : ((List.range' 0 24).any (n_cl (n_P I f) k n)) = !((List.range 24).all (fun d => !(n_cl (n_P I f) k n d))) := by
          rw [List.range_eq_range', List.all_eq_not_any_not]
          simp
        rw [e1]
        cases h4 : (List.range 24).all (fun d => !(n_cl (n_P I f) k n d)) with
        | false => rfl
        | true =>
          simp only [Bool.not_true, Bool.false_eq_true, if_false, Bool.true_and]
          have l2 := m_search_fr (step := w_X10_isNearest_64 h 44 (nI k) (nI f) (nI c) n) (st := fun i => nI i) (E := fun i => if (!(i == c) && (n_cl (n_P I f) k n i && t_up c i)) = true then some (Sum.inr 0) else none) (d := Sum.inl ()) (N := 49) 9 40 5000 (fun i i1 i2 => by
            unfold w_X10_isNearest_64
            have hit : n_t i = true := by unfold n_t; simp; omega
            rw [if_neg (by rw [show (49 : Int32) = nI 49 from rfl, n_le (by omega) (by omega)]; omega), d_close hM hR hk hf (by omega), d_tr0 hM, d_trC c hc i i2 hct hit]
            simp only [Option.bind_some, q_b0, nI_1, oM hM, if_true, n_eq (show i < 2147483648 by omega) (show c < 2147483648 by omega)]
            by_cases e : i = c
            · simp [e]
            · have eb : (i == c) = false := beq_eq_false_iff_ne.mpr e
              simp only [e, if_false, eb, Bool.not_false, Bool.true_and]
              cases n_cl (n_P I f) k n i <;> cases t_up c i <;> rfl) (by
            unfold w_X10_isNearest_64
            rw [if_pos (by decide)]) (by decide) (by decide)
          rw [show (40 : Int32) = (fun i => nI i) 40 from rfl, l2]
          simp only [Option.bind_some]
          rw [q_fst_any]
          have e2 : ((List.range' 40 9).any (fun i => !(i == c) && (n_cl (n_P I f) k n i && t_up c i))) = !(t_tr.all (fun t => t == c || !(n_cl (n_P I f) k n t && t_up c t))) := by
            rw [show t_tr = List.range' 40 9 from rfl, List.all_eq_not_any_not]
            simp
          rw [e2]
          cases t_tr.all (fun t => t == c || !(n_cl (n_P I f) k n t && t_up c t)) <;> rfl
theorem d_says (hM : q_M h I nS nB lo ak) (hR : n_R I) {k f : Nat} (hk : k < 24) (hf : f < 5) : f_X10_says h 44 (nI k) (nI f) = some (q_say (n_ne (n_P I f) k) (fun c => I 50 (5 * c + f))) := by
  unfold f_X10_says
  rw [if_pos (oM hM), d_fewest hM hR hk hf]
  simp only [Option.bind_some]
  generalize hN : n_ne (n_P I f) k = N
  have hl := m_search (step := w_X10_says_13 h 44 (nI k) (nI f) (q_fw (n_P I f) k 49)) (fun c => (q_sv N (fun c => I 50 (5 * c + f)) c, nI c)) (fun c => ((if N c = true ∧ q_sv N (fun c => I 50 (5 * c + f)) c ≠ -1 ∧ q_sv N (fun c => I 50 (5 * c + f)) c ≠ I 50 (5 * c + f) then some (-2) else none) : Option Int32).map (Sum.inr : Int32 → Int32 ⊕ Int32)) (Sum.inl (q_sv N (fun c => I 50 (5 * c + f)) 49)) 49 (by decide) (fun c hc => by
    unfold w_X10_says_13
    dsimp only
    rw [if_neg (by rw [show (49 : Int32) = nI 49 from rfl, n_le (by omega) (by omega)]; omega), if_pos (oM hM), d_isNearest hM hR hk hf hc, d_ruleAt hM hc hf, hN]
    simp only [Option.bind_some, q_b0, nI_1, oM hM, if_true]
    rw [q_sv_s]
    cases hNc : N c with
    | false => simp
    | true =>
      by_cases h1 : q_sv N (fun c => I 50 (5 * c + f)) c = -1
      · simp [h1]
      · by_cases h2 : q_sv N (fun c => I 50 (5 * c + f)) c = I 50 (5 * c + f)
        · simp [h2]
        · simp [h1, h2]) (by
    unfold w_X10_says_13
    dsimp only
    rw [if_pos (by decide)])
  rw [show (((-1) : Int32), (0 : Int32)) = (fun c => (q_sv N (fun c => I 50 (5 * c + f)) c, nI c)) 0 from rfl, hl]
  simp only [Option.bind_some]
  exact q_say_m 49 0
end QM
