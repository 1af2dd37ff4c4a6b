/-! PURE PART 11: sums, counts, orders -/
def q_sum (g : Nat → Int32) : Nat → Int32
  | 0 => 0
  | n + 1 => q_sum g n + g n
theorem q_sum_congr {g g' : Nat → Int32} : ∀ n, (∀ i, i < n → g i = g' i) → q_sum g n = q_sum g' n
  | 0, _ => rfl
  | n + 1, h => by
    unfold q_sum
    rw [q_sum_congr n (fun i hi => h i (by omega)), h n (by omega)]
theorem q_sum_zero {g : Nat → Int32} : ∀ n, (∀ i, i < n → g i = 0) → q_sum g n = 0
  | 0, _ => rfl
  | n + 1, h => by
    unfold q_sum
    rw [q_sum_zero n (fun i hi => h i (by omega)), h n (by omega)]
    rfl
theorem i_add4 (a b c d : Int32) : (a + b) + (c + d) = (a + c) + (b + d) := by
  rw [Int32.add_assoc, Int32.add_assoc, ← Int32.add_assoc b c d, Int32.add_comm b c, Int32.add_assoc c b d]
theorem q_sum_add (g g' : Nat → Int32) : ∀ n, q_sum (fun i => g i + g' i) n = q_sum g n + q_sum g' n
  | 0 => rfl
  | n + 1 => by
    unfold q_sum
    rw [q_sum_add g g' n, i_add4]
theorem q_sum_swap (g : Nat → Nat → Int32) (n : Nat) : ∀ m, q_sum (fun i => q_sum (fun j => g i j) n) m = q_sum (fun j => q_sum (fun i => g i j) m) n
  | 0 => (q_sum_zero (g := fun j => q_sum (fun i => g i j) 0) n (fun _ _ => rfl)).symm
  | m + 1 => by
    show q_sum (fun i => q_sum (fun j => g i j) n) m + q_sum (fun j => g m j) n = _
    rw [q_sum_swap g n m, ← q_sum_add]
    rfl
theorem q_sum_one (g : Nat → Int32) (a : Nat) : ∀ n, q_sum (fun i => if i = a then g i else 0) n = if a < n then g a else 0
  | 0 => by simp [q_sum]
  | n + 1 => by
    unfold q_sum
    rw [q_sum_one g a n]
    by_cases h1 : a < n
    · rw [if_pos h1, if_neg (show ¬ n = a by omega), if_pos (show a < n + 1 by omega), Int32.add_zero]
    · rw [if_neg h1]
      by_cases h2 : n = a
      · subst h2; rw [if_pos rfl, if_pos (show n < n + 1 by omega), Int32.zero_add]
      · rw [if_neg h2, if_neg (show ¬ a < n + 1 by omega)]; rfl
theorem q_perm {le : Nat → Nat} {nO nS : Nat} (hb : ∀ i, i < nO → le i < nS) (hinj : ∀ i j, i < nO → j < nO → le i = le j → i = j) (L : Nat → Bool) (hL : ∀ i, i < nO → L (le i) = true) (hsur : ∀ s, s < nS → L s = true → ∃ i, i < nO ∧ le i = s) (g : Nat → Int32) :
    q_sum (fun i => g (le i)) nO = q_sum (fun s => if L s = true then g s else 0) nS := by
  have h1 : q_sum (fun i => g (le i)) nO = q_sum (fun i => q_sum (fun s => if s = le i then g s else 0) nS) nO := by
    apply q_sum_congr
    intro i hi
    rw [q_sum_one g (le i) nS, if_pos (hb i hi)]
  rw [h1, q_sum_swap]
  apply q_sum_congr
  intro s hs
  cases hl : L s with
  | true =>
    obtain ⟨i, hi, rfl⟩ := hsur s hs hl
    rw [if_pos rfl]
    have : q_sum (fun j => if le i = le j then g (le i) else 0) nO = q_sum (fun j => if j = i then (fun _ => g (le i)) j else 0) nO := by
      apply q_sum_congr
      intro j hj
      by_cases e : j = i
      · subst e; simp
      · rw [if_neg (fun z => e (hinj i j hi hj z).symm), if_neg e]
    rw [this, q_sum_one, if_pos hi]
  | false =>
    rw [if_neg (by simp)]
    apply q_sum_zero
    intro j hj
    rw [if_neg]
    intro z
    have := hL j hj
    rw [← z, hl] at this
    cases this
/-- a count is a sum of ones -/
theorem q_cnt_sum (P : Nat → Bool) : ∀ n, nI (q_cnt P n) = q_sum (fun i => if P i = true then 1 else 0) n
  | 0 => rfl
  | n + 1 => by
    unfold q_cnt q_sum
    rw [← nI_add, q_cnt_sum P n]
    congr 1
    cases P n <;> rfl
theorem q_cnt_perm {le : Nat → Nat} {nO nS : Nat} (hn : nO ≤ 1000 ∧ nS ≤ 1000) (hb : ∀ i, i < nO → le i < nS) (hinj : ∀ i j, i < nO → j < nO → le i = le j → i = j) (L : Nat → Bool) (hL : ∀ i, i < nO → L (le i) = true) (hsur : ∀ s, s < nS → L s = true → ∃ i, i < nO ∧ le i = s) (P : Nat → Bool) :
    q_cnt (fun i => P (le i)) nO = q_cnt (fun s => L s && P s) nS := by
  have h := q_perm hb hinj L hL hsur (fun s => if P s = true then 1 else 0)
  rw [← q_cnt_sum (fun i => P (le i)) nO] at h
  have e : q_sum (fun s => if L s = true then (if P s = true then (1 : Int32) else 0) else 0) nS = nI (q_cnt (fun s => L s && P s) nS) := by
    rw [q_cnt_sum]
    apply q_sum_congr
    intro i _
    cases L i <;> cases P i <;> rfl
  rw [e] at h
  have a1 := q_cnt_le (fun i => P (le i)) nO
  have a2 := q_cnt_le (fun s => L s && P s) nS
  exact (n_eq (by omega) (by omega)).mp h
theorem q_cnt_all {P : Nat → Bool} : ∀ n, (∀ i, i < n → P i = true) → q_cnt P n = n
  | 0, _ => rfl
  | n + 1, h => by
    unfold q_cnt
    rw [q_cnt_all n (fun i hi => h i (by omega)), h n (by omega)]
    rfl
theorem q_cnt_mono {P : Nat → Bool} {a : Nat} : ∀ b, a ≤ b → q_cnt P a ≤ q_cnt P b
  | 0, h => by have : a = 0 := by omega
               subst this; exact Nat.le_refl _
  | b + 1, h => by
    by_cases e : a = b + 1
    · subst e; exact Nat.le_refl _
    · have := q_cnt_mono (P := P) (a := a) b (by omega)
      conv => rhs; unfold q_cnt
      omega
theorem q_cnt_lt {P : Nat → Bool} {a b : Nat} (h : a < b) (hp : P a = true) : q_cnt P a < q_cnt P b := by
  have := q_cnt_mono (P := P) (a := a + 1) b (by omega)
  have e : q_cnt P (a + 1) = q_cnt P a + 1 := by
    conv => lhs; unfold q_cnt
    rw [hp]
    rfl
  omega
/-- strictly sorted: no two alike -/
theorem q_srt_inj {lt : Nat → Nat → Prop} (hirr : ∀ a, ¬ lt a a) {le : Nat → Nat} {n : Nat} (hs : ∀ i j, i < j → j < n → lt (le i) (le j)) : ∀ i j, i < n → j < n → le i = le j → i = j := by
  intro i j hi hj he
  rcases Nat.lt_trichotomy i j with h | h | h
  · have := hs i j h hj
    rw [he] at this
    exact absurd this (hirr _)
  · exact h
  · have := hs j i h hi
    rw [he] at this
    exact absurd this (hirr _)
/-- an injection of the first n numbers into themselves meets all -/
theorem q_srt_sur : ∀ (n : Nat) (f : Nat → Nat), (∀ i, i < n → f i < n) → (∀ i j, i < n → j < n → f i = f j → i = j) → ∀ s, s < n → ∃ i, i < n ∧ f i = s := by
  intro n
  induction n with
  | zero => intro f _ _ s hs; omega
  | succ n ih =>
    intro f hb hinj s hs
    by_cases hl : f n = s
    · exact ⟨n, by omega, hl⟩
    · -- send the value n away
      have hg : ∀ i, i < n → (if f i = n then f n else f i) < n := by
        intro i hi
        by_cases e : f i = n
        · rw [if_pos e]
          have h1 := hb n (by omega)
          have h2 : f n ≠ n := fun z => by have := hinj i n (by omega) (by omega) (e.trans z.symm); omega
          omega
        · rw [if_neg e]
          have := hb i (by omega)
          omega
      have hgi : ∀ i j, i < n → j < n → (if f i = n then f n else f i) = (if f j = n then f n else f j) → i = j := by
        intro i j hi hj he
        by_cases e1 : f i = n
        · by_cases e2 : f j = n
          · exact hinj i j (by omega) (by omega) (e1.trans e2.symm)
          · rw [if_pos e1, if_neg e2] at he
            have := hinj n j (by omega) (by omega) he
            omega
        · by_cases e2 : f j = n
          · rw [if_neg e1, if_pos e2] at he
            have := hinj i n (by omega) (by omega) he
            omega
          · rw [if_neg e1, if_neg e2] at he
            exact hinj i j (by omega) (by omega) he
      by_cases hsn : s = n
      · -- some i below n has f i = n, else f n would be n
        subst hsn
        obtain ⟨i, hi, he⟩ := ih (fun i => if f i = s then f s else f i) hg hgi (f s) (by
          have := hb s (by omega)
          omega)
        by_cases e : f i = s
        · exact ⟨i, by omega, e⟩
        · rw [if_neg e] at he
          have := hinj i s (by omega) (by omega) he
          omega
      · obtain ⟨i, hi, he⟩ := ih (fun i => if f i = n then f n else f i) hg hgi s (by omega)
        by_cases e : f i = n
        · rw [if_pos e] at he
          exact absurd he hl
        · rw [if_neg e] at he
          exact ⟨i, by omega, he⟩
