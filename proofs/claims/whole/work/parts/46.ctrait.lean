/-! PURE PART 7: common traits -/
theorem m_search_fr {σ ρ : Type} {step : σ → Option (σ ⊕ ρ)} {st : Nat → σ} {E : Nat → Option ρ} {d : ρ} {N : Nat} : ∀ (n i fuel : Nat), (∀ j, i ≤ j → j < N → step (st j) = (match E j with | some r => some (.inr r) | none => some (.inl (st (j + 1))))) → step (st N) = some (.inr d) → i + n = N → n < fuel → m_loop step fuel (st i) = some (q_fst E d n i)
  | 0, i, fuel + 1, _, he, hi, _ => by
    have : i = N := by omega
    subst this
    unfold m_loop
    rw [he]
    rfl
  | n + 1, i, fuel + 1, hs, he, hi, hf => by
    unfold m_loop q_fst
    rw [hs i (Nat.le_refl _) (by omega)]
    cases E i with
    | some r => rfl
    | none => exact m_search_fr n (i + 1) fuel (fun j h1 h2 => hs j (by omega) h2) he (by omega) (by omega)
theorem q_fst_skip {ρ : Type} {E : Nat → Option ρ} {d : ρ} : ∀ (m n i : Nat), (∀ j, i ≤ j → j < i + m → E j = none) → q_fst E d (m + n) i = q_fst E d n (i + m)
  | 0, n, i, _ => by rw [Nat.zero_add, Nat.add_zero]
  | m + 1, n, i, h => by
    rw [show m + 1 + n = (m + n) + 1 by omega]
    conv => lhs; unfold q_fst
    rw [h i (Nat.le_refl _) (by omega)]
    simp only
    rw [q_fst_skip m n (i + 1) (fun j h1 h2 => h j (by omega) (by omega)), show i + 1 + m = i + (m + 1) by omega]
theorem i_sub0 {x y : Int32} : x - y = 0 ↔ y = x := by
  constructor
  · intro h
    have := congrArg (fun z => z + y) h
    simp only [Int32.sub_add_cancel, Int32.zero_add] at this
    exact this.symm
  · rintro rfl
    exact Int32.sub_self _
theorem i_subs (x : Int32) (c : Nat) : x - nI c + (-1) = x - nI (c + 1) := by
  rw [nI_succ, Int32.sub_eq_add_neg, Int32.sub_eq_add_neg, Int32.neg_add, Int32.sub_eq_add_neg, Int32.add_assoc]
theorem q_cnt0 {P : Nat → Bool} : ∀ n, (∀ c, c < n → P c = false) → q_cnt P n = 0
  | 0, _ => rfl
  | n + 1, h => by
    unfold q_cnt
    rw [q_cnt0 n (fun c hc => h c (by omega)), h n (by omega)]
    rfl
/-- the i-th of a set, counted down: what the reference does -/
theorem q_down {ρ : Type} {P : Nat → Bool} {x : Int32} {f : Int32 → ρ} {d : ρ} {E : Nat → Option ρ} (hE : ∀ i, E i = if P i = true ∧ x - nI (q_cnt P i) = 0 then some (f (nI i)) else none) : ∀ n i, q_fst E d n i = (match q_fst (fun i => if P i = true ∧ nI (q_cnt P i) = x then some (some (nI i)) else none) none n i with | some v => f v | none => d) := by
  intro n
  induction n with
  | zero => intro i; rfl
  | succ n ih =>
    intro i
    unfold q_fst
    rw [hE i]
    simp only [i_sub0]
    by_cases hc : P i = true ∧ nI (q_cnt P i) = x
    · simp [hc]
    · simp only [hc, if_false]
      exact ih (i + 1)
theorem q_pick_opt (P : Nat → Bool) (x : Int32) : ∀ n i, q_fst (fun i => if P i = true ∧ nI (q_cnt P i) = x then some (nI i) else none) (-1) n i = (match q_fst (fun i => if P i = true ∧ nI (q_cnt P i) = x then some (some (nI i)) else none) none n i with | some v => v | none => (-1 : Int32)) := by
  intro n
  induction n with
  | zero => intro i; rfl
  | succ n ih =>
    intro i
    unfold q_fst
    by_cases hc : P i = true ∧ nI (q_cnt P i) = x
    · simp [hc]
    · simp only [hc, if_false]
      exact ih (i + 1)
theorem q_pick_neg {P : Nat → Bool} {x : Int32} (hx : x.toInt < 0) : q_pick P x = -1 := by
  unfold q_pick
  have : ∀ n i, i + n ≤ 49 → q_fst (fun i => if P i = true ∧ nI (q_cnt P i) = x then some (nI i) else none) (-1) n i = -1 := by
    intro n
    induction n with
    | zero => intro i _; rfl
    | succ n ih =>
      intro i hi
      unfold q_fst
      rw [if_neg (by
        rintro ⟨-, e⟩
        have h1 := q_cnt_le P i
        rw [← e, nI_toInt (by omega)] at hx
        omega)]
      exact ih (i + 1) (by omega)
  exact this 49 0 (by decide)
theorem q_pick_none {P : Nat → Bool} (hp : ∀ c, c < 49 → P c = false) (x : Int32) : q_pick P x = -1 := by
  rw [q_pick_congr (P' := fun _ => false) (fun c hc => hp c hc)]
  unfold q_pick
  have : ∀ n i, q_fst (fun i => if (fun _ => false) i = true ∧ nI (q_cnt (fun _ => false) i) = x then some (nI i) else none) (-1) n i = -1 := by
    intro n
    induction n with
    | zero => intro i; rfl
    | succ n ih =>
      intro i
      unfold q_fst
      simp only [Bool.false_eq_true, false_and, if_false]
      simpa using ih (i + 1)
  exact this 49 0
section QM
variable {h h' : mH} {I : Nat → Nat → Int32} {nS nB : Nat} {lo ak : Int32}
theorem c_ctrait (x y z : Int32) : f_X9_commonTrait 0 x y z = some (q_pick (n_lo (q_sh x y)) z) := by
  unfold f_X9_commonTrait
  obtain ⟨S, h1, h2⟩ := c_shared x y
  obtain ⟨S', h3, h4⟩ := c_lowest S
  rw [h1]
  simp only [Option.bind_some]
  rw [h3]
  simp only [Option.bind_some]
  rw [c_pick]
  simp only [Option.bind_some]
  rw [q_pick_congr (P' := n_lo (q_sh x y)) (fun c hc => by rw [h4 c (by omega)]; congr 1; funext t; exact h2 t)]
def n_shB (P : Nat → Bool) (t : Nat) : Nat → Bool
  | 0 => P t
  | j + 1 => n_shB P t j && !((!(40 + j == t)) && P (40 + j) && t_up t (40 + j))
theorem n_shB_s (P : Nat → Bool) (t j : Nat) : n_shB P t (j + 1) = (n_shB P t j && !((!(40 + j == t)) && P (40 + j) && t_up t (40 + j))) := rfl
theorem n_shB_lo (P : Nat → Bool) (t : Nat) : n_shB P t 9 = n_lo P t := by
  unfold n_lo t_tr
  simp only [n_shB, List.all_cons, List.all_nil, Bool.and_true, ← Bool.and_assoc, Bool.not_and, Bool.not_not]
  have e : ∀ o : Nat, (o == t) = (t == o) := fun o => by
    by_cases q : o = t
    · subst q; rfl
    · rw [beq_eq_false_iff_ne.mpr q, beq_eq_false_iff_ne.mpr (fun z => q z.symm)]
  simp only [e, Bool.or_assoc, Nat.reduceAdd]
  have sw : ∀ a b c : Bool, (a || (b || c)) = (b || (a || c)) := by decide
  simp only [sw]
theorem d_ctrait (hM : q_M h I nS nB lo ak) (x y z : Int32) : f_X10_commonTrait h 44 x y z = some (q_pick (n_lo (q_sh x y)) z) := by
  unfold f_X10_commonTrait
  rw [d_isKind, d_isKind]
  simp only [Option.bind_some, q_b0]
  have none_ : (q_k x = false ∨ q_k y = false) → q_pick (n_lo (q_sh x y)) z = -1 := by
    intro e
    apply q_pick_none
    intro c _
    unfold n_lo q_sh
    rcases e with e | e <;> rw [e] <;> simp
  cases hx : q_k x with
  | false => rw [none_ (Or.inl hx)]; rfl
  | true =>
    cases hy : q_k y with
    | false => rw [none_ (Or.inr hy)]; rfl
    | true =>
      simp only [Bool.true_eq_false, if_false, Int32.le_iff_toInt_le, show (0 : Int32).toInt = 0 from rfl]
      by_cases hz : 0 ≤ z.toInt
      · rw [if_pos hz]
        obtain ⟨a, ha, rfl⟩ := q_kE hx
        obtain ⟨b, hb, rfl⟩ := q_kE hy
        have shN : ∀ t, n_t t = true → (t_up t a && t_up t b) = q_sh (nI a) (nI b) t := by
          intro t nt
          unfold q_sh
          rw [hx, hy, nt, q_n_nI (by omega), q_n_nI (by omega)]
          simp
        generalize hP : q_sh (nI a) (nI b) = P at shN ⊢
        have hP0 : ∀ c, c < 40 → n_lo P c = false := by
          intro c hc
          have : n_t c = false := by unfold n_t; simp; omega
          unfold n_lo
          rw [← hP]
          unfold q_sh
          rw [this]
          simp
        have nt : ∀ j, j < 9 → n_t (40 + j) = true := by decide
        have inner : ∀ (t : Nat) (l : Int32), n_t t = true → t < 49 → m_loop (w_X10_commonTrait_48 h 44 (nI a) (nI b) (l, nI t)) 5000 (q_b (P t), 40) = some (q_b (n_lo P t)) := by
          intro t l ht ht2
          have := m_for (step := w_X10_commonTrait_48 h 44 (nI a) (nI b) (l, nI t)) (fun j => (q_b (n_shB P t j), nI (40 + j))) (q_b (n_shB P t 9)) 9 (by decide) (fun j hj => by
            unfold w_X10_commonTrait_48
            dsimp only
            rw [if_neg (by rw [show (49 : Int32) = nI 49 from rfl, n_le (by omega) (by omega)]; omega), d_sharedN hM ha hb (by omega) (nt j hj), d_tr0 hM, d_trC t ht2 (40 + j) (by omega) ht (nt j hj)]
            simp only [q_b0, oM hM, if_true, Option.bind_some, n_eq (show 40 + j < 2147483648 by omega) (show t < 2147483648 by omega), shN _ (nt j hj), nI_1, Nat.add_assoc]
            rw [n_shB_s]
            cases hB : n_shB P t j with
            | false => simp [q_b]
            | true =>
              by_cases e : 40 + j = t
              · simp [e, q_b]
              · cases P (40 + j) <;> cases t_up t (40 + j) <;> simp [e, q_b]) (by
            unfold w_X10_commonTrait_48
            dsimp only
            rw [if_pos (by decide)])
          rw [n_shB_lo] at this
          exact this
        have hl := m_search_fr (step := w_X10_commonTrait_27 h 44 (nI a) (nI b)) (st := fun i => (z - nI (q_cnt (n_lo P) i), nI i)) (E := fun i => if n_lo P i = true ∧ z - nI (q_cnt (n_lo P) i) = 0 then some (Sum.inr (nI i)) else none) (d := Sum.inl ()) (N := 49) 9 40 5000 (fun i h1 h2 => by
          unfold w_X10_commonTrait_27
          dsimp only
          have hti : n_t i = true := by unfold n_t; simp; omega
          rw [if_neg (by rw [show (49 : Int32) = nI 49 from rfl, n_le (by omega) (by omega)]; omega), if_pos (oM hM), d_sharedN hM ha hb (by omega) hti]
          simp only [Option.bind_some, shN _ hti]
          rw [inner i _ hti h2]
          simp only [Option.bind_some, q_b0]
          cases hL : n_lo P i with
          | false => simp [q_cnt, hL, nI_1]
          | true =>
            simp only [Bool.true_eq_false, if_false, true_and]
            by_cases e : z - nI (q_cnt (n_lo P) i) = 0
            · simp [e]
            · simp only [e, if_false, q_cnt, hL, if_true, i_subs, nI_1]) (by
          unfold w_X10_commonTrait_27
          dsimp only
          rw [if_pos (by decide)]) (by decide) (by decide)
        rw [show (z, (40 : Int32)) = (fun i => (z - nI (q_cnt (n_lo P) i), nI i)) 40 by
          simp only
          rw [q_cnt0 40 hP0]
          simp [nI_0, Int32.sub_zero]
          rfl, hl]
        simp only [Option.bind_some]
        rw [q_down (f := Sum.inr) (fun i => rfl)]
        unfold q_pick
        rw [show (49 : Nat) = 40 + 9 from rfl, q_fst_skip 40 9 0 (fun j _ hj => by rw [if_neg]; rintro ⟨e, -⟩; rw [hP0 j (by omega)] at e; cases e), q_pick_opt]
        cases q_fst (fun i => if n_lo P i = true ∧ nI (q_cnt (n_lo P) i) = z then some (some (nI i)) else none) none 9 40 <;> rfl
      · rw [if_neg hz, q_pick_neg (by omega)]
theorem e_ctrait (hM : q_M h I nS nB lo ak) (x y z : Int32) : ∃ r, f_X9_commonTrait 0 x y z = some r ∧ f_X10_commonTrait h 44 x y z = some r := ⟨_, c_ctrait x y z, d_ctrait hM x y z⟩
end QM
