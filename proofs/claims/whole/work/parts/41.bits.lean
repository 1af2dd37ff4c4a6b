/-! PURE PART 2: loops, bits, sets of codes -/
def q_fst {ρ : Type} (E : Nat → Option ρ) (d : ρ) : Nat → Nat → ρ
  | 0, _ => d
  | n + 1, i => match E i with
    | some r => r
    | none => q_fst E d n (i + 1)
theorem m_search_at {σ ρ : Type} {step : σ → Option (σ ⊕ ρ)} {st : Nat → σ} {E : Nat → Option ρ} {d : ρ} {N : Nat} (hs : ∀ i, i < N → step (st i) = (match E i with | some r => some (.inr r) | none => some (.inl (st (i + 1))))) (he : step (st N) = some (.inr d)) : ∀ (n i fuel : Nat), i + n = N → n < fuel → m_loop step fuel (st i) = some (q_fst E d n i)
  | 0, i, fuel + 1, hi, _ => by
    have : i = N := by omega
    subst this
    unfold m_loop
    rw [he]
    rfl
  | n + 1, i, fuel + 1, hi, hf => by
    unfold m_loop q_fst
    rw [hs i (by omega)]
    cases E i with
    | some r => rfl
    | none => exact m_search_at hs he n (i + 1) fuel (by omega) (by omega)
theorem m_search {σ ρ : Type} {step : σ → Option (σ ⊕ ρ)} (st : Nat → σ) (E : Nat → Option ρ) (d : ρ) (N : Nat) (hN : N < 5000) (hs : ∀ i, i < N → step (st i) = (match E i with | some r => some (.inr r) | none => some (.inl (st (i + 1))))) (he : step (st N) = some (.inr d)) : m_loop step 5000 (st 0) = some (q_fst E d N 0) := m_search_at hs he N 0 5000 (by omega) hN
theorem m_for {σ ρ : Type} {step : σ → Option (σ ⊕ ρ)} (st : Nat → σ) (d : ρ) (N : Nat) (hN : N < 5000) (hs : ∀ i, i < N → step (st i) = some (.inl (st (i + 1)))) (he : step (st N) = some (.inr d)) : m_loop step 5000 (st 0) = some d := by
  have h := m_search st (fun _ => (none : Option ρ)) d N hN (fun i hi => hs i hi) he
  rw [h]
  congr 1
  have : ∀ n i, q_fst (fun _ => (none : Option ρ)) d n i = d := by
    intro n
    induction n with
    | zero => intro i; rfl
    | succ n ih => intro i; exact ih (i + 1)
  exact this N 0
theorem q_fst_congr {ρ : Type} {E E' : Nat → Option ρ} {d : ρ} : ∀ (n i : Nat), (∀ j, i ≤ j → j < i + n → E j = E' j) → q_fst E d n i = q_fst E' d n i
  | 0, _, _ => rfl
  | n + 1, i, h => by
    unfold q_fst
    rw [h i (Nat.le_refl _) (by omega), q_fst_congr n (i + 1) (fun j h1 h2 => h j (by omega) (by omega))]
theorem b_sh : ∀ c, c < 64 → ((nI c).toInt64 &&& 63) = lN c ∧ (lN c).toBitVec.smod 64 = BitVec.ofNat 64 c := by decide +kernel
theorem lg0 (z : Int64) : lg_cmp z 0 = 0 ↔ z = 0 := by
  unfold lg_cmp
  constructor
  · intro h
    split at h
    · cases h
    · split at h
      · assumption
      · cases h
  · rintro rfl
    decide
theorem b_eq0 {z : Int64} : z = 0 ↔ z.toBitVec = 0#64 := by
  constructor
  · rintro rfl; rfl
  · intro h; apply Int64.toBitVec_inj.mp; rw [h]; rfl
theorem b_one (x : BitVec 64) : (x &&& 1#64 = 0#64) ↔ x.getLsbD 0 = false := by
  constructor
  · intro h
    have := congrArg (fun y => BitVec.getLsbD y 0) h
    simpa using this
  · intro h
    apply BitVec.eq_of_getLsbD_eq
    intro i hi
    rw [BitVec.getLsbD_and]
    by_cases h0 : i = 0
    · subst h0; rw [h]; rfl
    · simp [BitVec.getLsbD_one, h0]
theorem c_has {c : Nat} (hc : c < 64) (S : Int64) : f_X1_has S (nI c) = some (q_b (S.toBitVec.getLsbD c)) := by
  unfold f_X1_has
  obtain ⟨h1, h2⟩ := b_sh c hc
  rw [h1]
  have key : (S >>> lN c &&& 1 = 0) ↔ S.toBitVec.getLsbD c = false := by
    rw [b_eq0, Int64.toBitVec_and, Int64.toBitVec_shiftRight, h2, show (1 : Int64).toBitVec = 1#64 from rfl, b_one]
    have hm : c % 18446744073709551616 = c := Nat.mod_eq_of_lt (by omega)
    rw [BitVec.sshiftRight', BitVec.toNat_ofNat, hm, BitVec.getLsbD_sshiftRight]
    simp [hc]
  simp only [lg0, key]
  cases S.toBitVec.getLsbD c <;> rfl
theorem b_1shl {c : Nat} (hc : c < 64) (j : Nat) : ((1 : Int64) <<< ((nI c).toInt64 &&& 63)).toBitVec.getLsbD j = decide (j = c) := by
  obtain ⟨h1, h2⟩ := b_sh c hc
  rw [h1, Int64.toBitVec_shiftLeft, h2, show (1 : Int64).toBitVec = 1#64 from rfl]
  have hm : c % 18446744073709551616 = c := Nat.mod_eq_of_lt (by omega)
  rw [BitVec.shiftLeft_eq', BitVec.getLsbD_shiftLeft, BitVec.toNat_ofNat, hm, BitVec.getLsbD_one]
  by_cases h : j = c
  · subst h; simp [hc]
  · by_cases h3 : j < c
    · simp [h, h3]
    · simp [h, h3]; omega
/-- the codes of a set, and how many stand below one -/
def q_cnt (P : Nat → Bool) : Nat → Nat
  | 0 => 0
  | n + 1 => q_cnt P n + (if P n then 1 else 0)
theorem q_cnt_le (P : Nat → Bool) : ∀ n, q_cnt P n ≤ n
  | 0 => Nat.le_refl _
  | n + 1 => by
    have := q_cnt_le P n
    unfold q_cnt
    split <;> omega
def q_pick (P : Nat → Bool) (x : Int32) : Int32 := q_fst (fun i => if P i = true ∧ nI (q_cnt P i) = x then some (nI i) else none) (-1) 49 0
theorem n_le {a b : Nat} (ha : a < 2147483648) (hb : b < 2147483648) : nI a ≤ nI b ↔ a ≤ b := nI_leI ha hb
theorem n_lt {a b : Nat} (ha : a < 2147483648) (hb : b < 2147483648) : nI a < nI b ↔ a < b := nI_ltI ha hb
theorem n_eq {a b : Nat} (ha : a < 2147483648) (hb : b < 2147483648) : nI a = nI b ↔ a = b := nI_eq ha hb
theorem c_pick (S : Int64) (x : Int32) : f_X1_pick S x = some (q_pick (fun c => S.toBitVec.getLsbD c) x) := by
  unfold f_X1_pick
  generalize hP : (fun c => S.toBitVec.getLsbD c) = P
  have hPc : ∀ c, S.toBitVec.getLsbD c = P c := fun c => by rw [← hP]
  have h := m_search (step := w_X1_pick_5 S x) (fun i => (nI (q_cnt P i), nI i)) (fun i => if P i = true ∧ nI (q_cnt P i) = x then some (Sum.inr (nI i)) else none) (Sum.inl ()) 49 (by decide) (fun i hi => by
    unfold w_X1_pick_5
    dsimp only
    rw [if_neg (by rw [show (49 : Int32) = nI 49 from rfl, n_le (by omega) (by omega)]; omega), c_has (by omega), hPc]
    simp only [Option.bind_some, q_b0]
    cases hp : P i with
    | false => simp [hp, q_cnt, nI_1]
    | true =>
      by_cases hx : nI (q_cnt P i) = x
      · simp [hx]
      · simp [hx, q_cnt, hp, nI_1]) (by
    unfold w_X1_pick_5
    dsimp only
    rw [if_pos (by decide)])
  rw [show ((0 : Int32), (0 : Int32)) = (fun i => (nI (q_cnt P i), nI i)) 0 from rfl, h]
  simp only [Option.bind_some]
  unfold q_pick
  have : ∀ n i, (match q_fst (fun i => if P i = true ∧ nI (q_cnt P i) = x then some (Sum.inr (α := Unit) (nI i)) else none) (Sum.inl ()) n i with | .inl _ => some (-1 : Int32) | .inr v => some v) = some (q_fst (fun i => if P i = true ∧ nI (q_cnt P i) = x then some (nI i) else none) (-1) n i) := by
    intro n
    induction n with
    | zero => intro i; rfl
    | succ n ih =>
      intro i
      unfold q_fst
      by_cases hc : P i = true ∧ nI (q_cnt P i) = x
      · simp [hc]
      · simp only [hc, if_false]
        exact ih (i + 1)
  exact this 49 0
