/-! PURE PART 38: count -/
def n_F (w : Nat) : Nat → (Nat → Nat) → Nat
  | 0, _ => 0
  | k + 1, g => g 0 + 2 ^ w * n_F w k (fun i => g (i + 1))
theorem F_congr {w : Nat} : ∀ (k : Nat) {g g' : Nat → Nat}, (∀ i, i < k → g i = g' i) → n_F w k g = n_F w k g'
  | 0, _, _, _ => rfl
  | k + 1, g, g', h => by
    show g 0 + 2 ^ w * n_F w k (fun i => g (i + 1)) = g' 0 + 2 ^ w * n_F w k (fun i => g' (i + 1))
    rw [h 0 (by omega), F_congr k (fun i hi => h (i + 1) (by omega))]
theorem F_add {w : Nat} : ∀ (k : Nat) (g g' : Nat → Nat), n_F w k g + n_F w k g' = n_F w k (fun i => g i + g' i)
  | 0, _, _ => rfl
  | k + 1, g, g' => by
    show g 0 + 2 ^ w * n_F w k (fun i => g (i + 1)) + (g' 0 + 2 ^ w * n_F w k (fun i => g' (i + 1))) = g 0 + g' 0 + 2 ^ w * n_F w k (fun i => g (i + 1) + g' (i + 1))
    rw [← F_add k, Nat.mul_add]
    omega
theorem F_lt {w : Nat} : ∀ (k : Nat) (g : Nat → Nat), (∀ i, i < k → g i < 2 ^ w) → n_F w k g < 2 ^ (w * k)
  | 0, _, _ => by simp [n_F]
  | k + 1, g, h => by
    have ih := F_lt k (fun i => g (i + 1)) (fun i hi => h (i + 1) (by omega))
    have h0 := h 0 (by omega)
    show g 0 + 2 ^ w * n_F w k (fun i => g (i + 1)) < 2 ^ (w * (k + 1))
    rw [Nat.mul_succ, Nat.pow_add, Nat.mul_comm (2 ^ (w * k))]
    have := Nat.mul_le_mul_left (2 ^ w) (Nat.succ_le_of_lt ih)
    rw [Nat.mul_succ] at this
    omega
theorem F_ext {w : Nat} : ∀ (k : Nat) (g : Nat → Nat), g k = 0 → n_F w (k + 1) g = n_F w k g
  | 0, g, h => by
    show g 0 + 2 ^ w * 0 = 0
    rw [h]; rfl
  | k + 1, g, h => by
    show g 0 + 2 ^ w * n_F w (k + 1) (fun i => g (i + 1)) = g 0 + 2 ^ w * n_F w k (fun i => g (i + 1))
    rw [F_ext k (fun i => g (i + 1)) h]
theorem F_shr {w k : Nat} {g : Nat → Nat} (h : g 0 < 2 ^ w) (hk : g (k + 1) = 0) : n_F w (k + 1) g >>> w = n_F w (k + 1) (fun i => g (i + 1)) := by
  rw [F_ext k (fun i => g (i + 1)) hk, Nat.shiftRight_eq_div_pow]
  show (g 0 + 2 ^ w * n_F w k (fun i => g (i + 1))) / 2 ^ w = _
  rw [Nat.add_mul_div_left _ _ (Nat.two_pow_pos w), Nat.div_eq_of_lt h, Nat.zero_add]
theorem n_andF {w a b A B : Nat} (ha : a < 2 ^ w) (hb : b < 2 ^ w) : (a + 2 ^ w * A) &&& (b + 2 ^ w * B) = (a &&& b) + 2 ^ w * (A &&& B) := by
  apply Nat.eq_of_testBit_eq
  intro j
  rw [Nat.testBit_and, Nat.add_comm a, Nat.add_comm b, Nat.add_comm (a &&& b), Nat.testBit_two_pow_mul_add _ ha, Nat.testBit_two_pow_mul_add _ hb, Nat.testBit_two_pow_mul_add _ (Nat.lt_of_le_of_lt Nat.and_le_left ha)]
  by_cases h : j < w
  · rw [if_pos h, if_pos h, if_pos h, Nat.testBit_and]
  · rw [if_neg h, if_neg h, if_neg h, Nat.testBit_and]
theorem F_and {w : Nat} : ∀ (k : Nat) {g g' : Nat → Nat}, (∀ i, i < k → g i < 2 ^ w) → (∀ i, i < k → g' i < 2 ^ w) → n_F w k g &&& n_F w k g' = n_F w k (fun i => g i &&& g' i)
  | 0, _, _, _, _ => by simp [n_F]
  | k + 1, g, g', h, h' => by
    show (g 0 + 2 ^ w * n_F w k (fun i => g (i + 1))) &&& (g' 0 + 2 ^ w * n_F w k (fun i => g' (i + 1))) = (g 0 &&& g' 0) + 2 ^ w * n_F w k (fun i => g (i + 1) &&& g' (i + 1))
    rw [n_andF (h 0 (by omega)) (h' 0 (by omega)), F_and k (fun i hi => h (i + 1) (by omega)) (fun i hi => h' (i + 1) (by omega))]
theorem F_pair {w : Nat} : ∀ (m : Nat) (g : Nat → Nat), n_F w (2 * m) g = n_F (2 * w) m (fun i => g (2 * i) + 2 ^ w * g (2 * i + 1))
  | 0, _ => rfl
  | m + 1, g => by
    show n_F w (2 * m + 2) g = (g 0 + 2 ^ w * g 1) + 2 ^ (2 * w) * n_F (2 * w) m (fun i => g (2 * (i + 1)) + 2 ^ w * g (2 * (i + 1) + 1))
    have ih := F_pair (w := w) m (fun i => g (i + 2))
    show g 0 + 2 ^ w * (g 1 + 2 ^ w * n_F w (2 * m) (fun i => g (i + 1 + 1))) = _
    rw [show (fun i => g (i + 1 + 1)) = (fun i => g (i + 2)) from rfl, ih, Nat.mul_add, ← Nat.mul_assoc, ← Nat.pow_add, show w + w = 2 * w by omega, Nat.add_assoc]
    rfl
/-- the low field of a pair -/
theorem n_low {w a b : Nat} (ha : a < 2 ^ w) : (a + 2 ^ w * b) &&& (2 ^ w - 1) = a := by
  rw [Nat.and_two_pow_sub_one_eq_mod, Nat.add_mul_mod_self_left, Nat.mod_eq_of_lt ha]
theorem F_low {w m : Nat} {g : Nat → Nat} (h : ∀ i, i < 2 * m → g i < 2 ^ w) : n_F w (2 * m) g &&& n_F (2 * w) m (fun _ => 2 ^ w - 1) = n_F (2 * w) m (fun i => g (2 * i)) := by
  have h0 := Nat.two_pow_pos w
  have e : 2 ^ (2 * w) = 2 ^ w * 2 ^ w := by rw [← Nat.pow_add]; congr 1; omega
  rw [F_pair, F_and m (fun i hi => ?_) (fun i hi => ?_)]
  · exact F_congr m (fun i hi => n_low (h _ (by omega)))
  · have h1 := h (2 * i) (by omega)
    have h2 := h (2 * i + 1) (by omega)
    have := Nat.mul_le_mul_left (2 ^ w) (Nat.succ_le_of_lt h2)
    rw [Nat.mul_succ] at this
    rw [e]
    omega
  · rw [e]
    have := Nat.mul_le_mul_left (2 ^ w) h0
    omega
theorem F_bits : ∀ (k n : Nat), n < 2 ^ k → n = n_F 1 k (fun i => if n.testBit i = true then 1 else 0)
  | 0, n, h => by
    show n = 0
    simpa using h
  | k + 1, n, h => by
    have ih := F_bits k (n / 2) (by rw [Nat.pow_succ] at h; omega)
    show n = (if n.testBit 0 = true then 1 else 0) + 2 ^ 1 * n_F 1 k (fun i => if n.testBit (i + 1) = true then 1 else 0)
    have e : (fun i => if n.testBit (i + 1) = true then 1 else 0) = (fun i => if (n / 2).testBit i = true then (1 : Nat) else 0) := by
      funext i
      rw [Nat.testBit_succ]
    rw [e, ← ih, Nat.testBit_zero]
    by_cases c : n % 2 = 1
    · simp [c]; omega
    · simp [c]; omega
theorem F0_s : ∀ (k : Nat) (g : Nat → Nat), n_F 0 (k + 1) g = n_F 0 k g + g k
  | 0, g => by
    show g 0 + 2 ^ 0 * 0 = 0 + g 0
    omega
  | k + 1, g => by
    have ih := F0_s k (fun i => g (i + 1))
    show g 0 + 2 ^ 0 * n_F 0 (k + 1) (fun i => g (i + 1)) = g 0 + 2 ^ 0 * n_F 0 k (fun i => g (i + 1)) + g (k + 1)
    rw [ih]
    omega
theorem F0_cnt (P : Nat → Bool) : ∀ n, q_cnt P n = n_F 0 n (fun i => if P i = true then 1 else 0)
  | 0 => rfl
  | n + 1 => by
    rw [F0_s, ← F0_cnt P n]
    rfl
/-- the machine's count of bits, over numbers -/
theorem n_pop (P : Nat → Bool) (hP : ∀ i, 64 ≤ i → P i = false) {x : Nat} (hx : x = n_F 1 64 (fun i => if P i = true then 1 else 0)) :
    ∃ y1 y3 y5 y7 y9 y11, (x >>> 1) &&& 6148914691236517205 ≤ x ∧ x - ((x >>> 1) &&& 6148914691236517205) = y1 ∧ (y1 &&& 3689348814741910323) + ((y1 >>> 2) &&& 3689348814741910323) = y3 ∧ y3 < 2 ^ 64 ∧ (y3 + (y3 >>> 4)) < 2 ^ 64 ∧ (y3 + (y3 >>> 4)) &&& 1085102592571150095 = y5 ∧ y5 + (y5 >>> 8) = y7 ∧ y7 < 2 ^ 64 ∧ y7 + (y7 >>> 16) = y9 ∧ y9 < 2 ^ 64 ∧ y9 + (y9 >>> 32) = y11 ∧ y11 < 2 ^ 64 ∧ y11 % 128 = q_cnt P 64 := by
  generalize hb : (fun i => if P i = true then 1 else 0) = b at hx
  have b1 : ∀ i, b i ≤ 1 := fun i => by rw [← hb]; dsimp only; split <;> omega
  have b0 : ∀ i, 64 ≤ i → b i = 0 := fun i hi => by rw [← hb]; dsimp only; rw [hP i hi]; rfl
  have hcnt : q_cnt P 64 = n_F 0 64 b := by rw [F0_cnt, hb]
  -- pairs
  generalize hc : (fun i => b (2 * i) + b (2 * i + 1)) = c
  have ci : ∀ i, c i = b (2 * i) + b (2 * i + 1) := fun i => by rw [← hc]
  have c2 : ∀ i, c i ≤ 2 := fun i => by have := b1 (2 * i); have := b1 (2 * i + 1); rw [ci]; omega
  have c0 : ∀ i, 32 ≤ i → c i = 0 := fun i hi => by rw [ci, b0 _ (by omega), b0 _ (by omega)]
  generalize hd : (fun i => c (2 * i) + c (2 * i + 1)) = d
  have di : ∀ i, d i = c (2 * i) + c (2 * i + 1) := fun i => by rw [← hd]
  have d4 : ∀ i, d i ≤ 4 := fun i => by have := c2 (2 * i); have := c2 (2 * i + 1); rw [di]; omega
  have d0 : ∀ i, 16 ≤ i → d i = 0 := fun i hi => by rw [di, c0 _ (by omega), c0 _ (by omega)]
  generalize he : (fun i => d (2 * i) + d (2 * i + 1)) = e
  have ei : ∀ i, e i = d (2 * i) + d (2 * i + 1) := fun i => by rw [← he]
  have e8 : ∀ i, e i ≤ 8 := fun i => by have := d4 (2 * i); have := d4 (2 * i + 1); rw [ei]; omega
  have e0 : ∀ i, 8 ≤ i → e i = 0 := fun i hi => by rw [ei, d0 _ (by omega), d0 _ (by omega)]
  have s1 : n_F 0 64 b = n_F 0 32 c := by rw [show 64 = 2 * 32 from rfl, F_pair]; exact F_congr 32 (fun i _ => by rw [ci]; omega)
  have s2 : n_F 0 32 c = n_F 0 16 d := by rw [show 32 = 2 * 16 from rfl, F_pair]; exact F_congr 16 (fun i _ => by rw [di]; omega)
  have s3 : n_F 0 16 d = n_F 0 8 e := by rw [show 16 = 2 * 8 from rfl, F_pair]; exact F_congr 8 (fun i _ => by rw [ei]; omega)
  have s4 : n_F 0 8 e = e 0 + e 1 + e 2 + e 3 + e 4 + e 5 + e 6 + e 7 := by
    show e 0 + 2 ^ 0 * (e 1 + 2 ^ 0 * (e 2 + 2 ^ 0 * (e 3 + 2 ^ 0 * (e 4 + 2 ^ 0 * (e 5 + 2 ^ 0 * (e 6 + 2 ^ 0 * (e 7 + 2 ^ 0 * 0))))))) = _
    omega
  -- step 1
  have t1 : (x >>> 1) &&& 6148914691236517205 = n_F 2 32 (fun i => b (2 * i + 1)) := by
    rw [hx, show (64 : Nat) = 63 + 1 from rfl, F_shr (by have := b1 0; omega) (b0 _ (by omega))]
    exact F_low (w := 1) (m := 32) (g := fun i => b (i + 1)) (fun i _ => by have := b1 (i + 1); omega)
  have x1 : n_F 2 32 c + n_F 2 32 (fun i => b (2 * i + 1)) = x := by
    rw [hx, F_add, show (64 : Nat) = 2 * 32 from rfl, F_pair]
    exact F_congr 32 (fun i _ => by rw [ci]; omega)
  have u1 : ∀ k, n_F 2 32 c = k → k < 2 ^ 64 := fun k hk => by rw [← hk]; exact F_lt 32 c (fun i _ => by have := c2 i; omega)
  -- step 2
  have t2 : n_F 2 32 c &&& 3689348814741910323 = n_F 4 16 (fun i => c (2 * i)) := F_low (w := 2) (m := 16) (g := c) (fun i _ => by have := c2 i; omega)
  have t3 : (n_F 2 32 c >>> 2) &&& 3689348814741910323 = n_F 4 16 (fun i => c (2 * i + 1)) := by
    rw [show (32 : Nat) = 31 + 1 from rfl, F_shr (by have := c2 0; omega) (c0 _ (by omega))]
    exact F_low (w := 2) (m := 16) (g := fun i => c (i + 1)) (fun i _ => by have := c2 (i + 1); omega)
  have x2 : n_F 4 16 (fun i => c (2 * i)) + n_F 4 16 (fun i => c (2 * i + 1)) = n_F 4 16 d := by
    rw [F_add]
    exact F_congr 16 (fun i _ => (di i).symm)
  -- step 3
  have t4 : n_F 4 16 d + (n_F 4 16 d >>> 4) = n_F 4 16 (fun i => d i + d (i + 1)) := by
    rw [show (16 : Nat) = 15 + 1 from rfl, F_shr (by have := d4 0; omega) (d0 _ (by omega)), F_add]
  have t5 : n_F 4 16 (fun i => d i + d (i + 1)) &&& 1085102592571150095 = n_F 8 8 e := by
    rw [show n_F 4 16 (fun i => d i + d (i + 1)) &&& 1085102592571150095 = _ from F_low (w := 4) (m := 8) (g := fun i => d i + d (i + 1)) (fun i _ => by have := d4 i; have := d4 (i + 1); omega)]
    exact F_congr 8 (fun i _ => (ei i).symm)
  -- steps 4, 5, 6
  have t6 : n_F 8 8 e + (n_F 8 8 e >>> 8) = n_F 8 8 (fun i => e i + e (i + 1)) := by
    rw [show (n_F 8 8 e >>> 8) = _ from F_shr (w := 8) (k := 7) (g := e) (by have := e8 0; omega) (e0 _ (by omega)), F_add]
  have t7 : n_F 8 8 (fun i => e i + e (i + 1)) >>> 16 = n_F 8 8 (fun i => e (i + 2) + e (i + 3)) := by
    rw [show (16 : Nat) = 8 + 8 from rfl, Nat.shiftRight_add, show n_F 8 8 (fun i => e i + e (i + 1)) >>> 8 = _ from F_shr (w := 8) (k := 7) (g := fun i => e i + e (i + 1)) (by have := e8 0; have := e8 (0 + 1); omega) (by rw [e0 _ (by omega), e0 _ (by omega)])]
    exact F_shr (w := 8) (k := 7) (g := fun i => e (i + 1) + e (i + 1 + 1)) (by have := e8 (0 + 1); have := e8 (0 + 1 + 1); omega) (by rw [e0 _ (by omega), e0 _ (by omega)])
  have sh1 : ∀ g : Nat → Nat, (∀ i, g i ≤ 32) → (∀ i, 8 ≤ i → g i = 0) → n_F 8 8 g >>> 8 = n_F 8 8 (fun i => g (i + 1)) := fun g g1 g2 => F_shr (w := 8) (k := 7) (g := g) (by have := g1 0; omega) (g2 _ (by omega))
  have t8 : ∀ g : Nat → Nat, (∀ i, g i ≤ 32) → (∀ i, 8 ≤ i → g i = 0) → n_F 8 8 g >>> 32 = n_F 8 8 (fun i => g (i + 4)) := fun g g1 g2 => by
    rw [show (32 : Nat) = 8 + 8 + 8 + 8 from rfl, Nat.shiftRight_add, Nat.shiftRight_add, Nat.shiftRight_add, sh1 g g1 g2, sh1 _ (fun i => g1 _) (fun i hi => g2 _ (by omega)), sh1 _ (fun i => g1 _) (fun i hi => g2 _ (by omega)), sh1 _ (fun i => g1 _) (fun i hi => g2 _ (by omega))]
  have l8 : ∀ g : Nat → Nat, (∀ i, g i ≤ 64) → n_F 8 8 g < 2 ^ 64 := fun g hg => F_lt 8 g (fun i _ => by have := hg i; omega)
  refine ⟨n_F 2 32 c, n_F 4 16 d, n_F 8 8 e, n_F 8 8 (fun i => e i + e (i + 1)), n_F 8 8 (fun i => e i + e (i + 1) + (e (i + 2) + e (i + 3))), n_F 8 8 (fun i => e i + e (i + 1) + (e (i + 2) + e (i + 3)) + (e (i + 4) + e (i + 4 + 1) + (e (i + 4 + 2) + e (i + 4 + 3)))), ?_, ?_, ?_, ?_, ?_, ?_, t6, ?_, ?_, ?_, ?_, ?_, ?_⟩
  · rw [t1]; omega
  · rw [t1]; omega
  · rw [t2, t3, x2]
  · exact F_lt 16 d (fun i _ => by have := d4 i; omega)
  · rw [t4]; exact F_lt 16 _ (fun i _ => by have := d4 i; have := d4 (i + 1); omega)
  · rw [t4]; exact t5
  · exact l8 _ (fun i => by have := e8 i; have := e8 (i + 1); omega)
  · rw [t7, F_add]
  · exact l8 _ (fun i => by have := e8 i; have := e8 (i + 1); have := e8 (i + 2); have := e8 (i + 3); omega)
  · rw [t8 _ (fun i => by have := e8 i; have := e8 (i + 1); have := e8 (i + 2); have := e8 (i + 3); omega) (fun i hi => by rw [e0 _ (by omega), e0 _ (by omega), e0 _ (by omega), e0 _ (by omega)]), F_add]
  · exact l8 _ (fun i => by have := e8 i; have := e8 (i + 1); have := e8 (i + 2); have := e8 (i + 3); have := e8 (i + 4); have := e8 (i + 4 + 1); have := e8 (i + 4 + 2); have := e8 (i + 4 + 3); omega)
  · rw [hcnt, s1, s2, s3, s4]
    have := e8 0; have := e8 1; have := e8 2; have := e8 3; have := e8 4; have := e8 5; have := e8 6; have := e8 7
    generalize hz : n_F 8 7 (fun i => e (i + 1) + e (i + 1 + 1) + (e (i + 1 + 2) + e (i + 1 + 3)) + (e (i + 1 + 4) + e (i + 1 + 4 + 1) + (e (i + 1 + 4 + 2) + e (i + 1 + 4 + 3)))) = z
    show (e 0 + e 1 + (e 2 + e 3) + (e 4 + e 5 + (e 6 + e 7)) + 2 ^ 8 * n_F 8 7 (fun i => e (i + 1) + e (i + 1 + 1) + (e (i + 1 + 2) + e (i + 1 + 3)) + (e (i + 1 + 4) + e (i + 1 + 4 + 1) + (e (i + 1 + 4 + 2) + e (i + 1 + 4 + 3))))) % 128 = _
    rw [hz]
    omega
theorem l_add {a b : Int64} (h : a.toBitVec.toNat + b.toBitVec.toNat < 2 ^ 64) : (a + b).toBitVec.toNat = a.toBitVec.toNat + b.toBitVec.toNat := by
  rw [Int64.toBitVec_add, BitVec.toNat_add, Nat.mod_eq_of_lt h]
theorem l_sub {a b : Int64} (h : b.toBitVec.toNat ≤ a.toBitVec.toNat) : (a - b).toBitVec.toNat = a.toBitVec.toNat - b.toBitVec.toNat := by
  rw [Int64.toBitVec_sub, BitVec.toNat_sub_of_le (by exact h)]
theorem l_and {a b : Int64} : (a &&& b).toBitVec.toNat = a.toBitVec.toNat &&& b.toBitVec.toNat := by
  rw [Int64.toBitVec_and, BitVec.toNat_and]
theorem l_shr {a : Int64} {k : UInt64} {n : Nat} (hk : k.toNat % 64 = n) : ((a.toUInt64 >>> k).toInt64).toBitVec.toNat = a.toBitVec.toNat >>> n := by
  show (a.toUInt64 >>> k).toNat = _
  rw [UInt64.toNat_shiftRight, hk]
  rfl
theorem c_bits (S : Int64) : f_J13_bitCount_95d88 S = some (nI (q_cnt (fun c => S.toBitVec.getLsbD c) 64)) := by
  have hx := F_bits 64 S.toBitVec.toNat S.toBitVec.isLt
  obtain ⟨y1, y3, y5, y7, y9, y11, p1, p2, p3, p4, p5, p6, p7, p8, p9, p10, p11, p12, p13⟩ := n_pop (fun c => S.toBitVec.getLsbD c) (fun i hi => BitVec.getLsbD_of_ge _ _ hi) (x := S.toBitVec.toNat) hx
  unfold f_J13_bitCount_95d88
  simp only [Option.bind_some]
  generalize hz1 : S - (((S.toUInt64 >>> ((1 : Int32).toInt64.toUInt64 &&& Int64.toUInt64 63)).toInt64) &&& (6148914691236517205 : Int64)) = z1
  have v1 : z1.toBitVec.toNat = y1 := by
    have s := l_shr (a := S) (k := (1 : Int32).toInt64.toUInt64 &&& Int64.toUInt64 63) (n := 1) (by decide)
    rw [← hz1, l_sub (by rw [l_and, s]; exact p1), l_and, s]
    exact p2
  generalize hz3 : (z1 &&& (3689348814741910323 : Int64)) + (((z1.toUInt64 >>> ((2 : Int32).toInt64.toUInt64 &&& Int64.toUInt64 63)).toInt64) &&& (3689348814741910323 : Int64)) = z3
  have v3 : z3.toBitVec.toNat = y3 := by
    have s := l_shr (a := z1) (k := (2 : Int32).toInt64.toUInt64 &&& Int64.toUInt64 63) (n := 2) (by decide)
    have e : (z1 &&& (3689348814741910323 : Int64)).toBitVec.toNat + ((((z1.toUInt64 >>> ((2 : Int32).toInt64.toUInt64 &&& Int64.toUInt64 63)).toInt64) &&& (3689348814741910323 : Int64))).toBitVec.toNat = y3 := by
      rw [l_and, l_and, s, v1]; exact p3
    rw [← hz3, l_add (by rw [e]; exact p4), e]
  generalize hz5 : (z3 + ((z3.toUInt64 >>> ((4 : Int32).toInt64.toUInt64 &&& Int64.toUInt64 63)).toInt64)) &&& (1085102592571150095 : Int64) = z5
  have v5 : z5.toBitVec.toNat = y5 := by
    have s := l_shr (a := z3) (k := (4 : Int32).toInt64.toUInt64 &&& Int64.toUInt64 63) (n := 4) (by decide)
    rw [← hz5, l_and, l_add (by rw [s, v3]; exact p5), s, v3]; exact p6
  generalize hz7 : z5 + ((z5.toUInt64 >>> ((8 : Int32).toInt64.toUInt64 &&& Int64.toUInt64 63)).toInt64) = z7
  have v7 : z7.toBitVec.toNat = y7 := by
    have s := l_shr (a := z5) (k := (8 : Int32).toInt64.toUInt64 &&& Int64.toUInt64 63) (n := 8) (by decide)
    rw [← hz7, l_add (by rw [s, v5, p7]; exact p8), s, v5]; exact p7
  generalize hz9 : z7 + ((z7.toUInt64 >>> ((16 : Int32).toInt64.toUInt64 &&& Int64.toUInt64 63)).toInt64) = z9
  have v9 : z9.toBitVec.toNat = y9 := by
    have s := l_shr (a := z7) (k := (16 : Int32).toInt64.toUInt64 &&& Int64.toUInt64 63) (n := 16) (by decide)
    rw [← hz9, l_add (by rw [s, v7, p9]; exact p10), s, v7]; exact p9
  generalize hz11 : z9 + ((z9.toUInt64 >>> ((32 : Int32).toInt64.toUInt64 &&& Int64.toUInt64 63)).toInt64) = z11
  have v11 : z11.toBitVec.toNat = y11 := by
    have s := l_shr (a := z9) (k := (32 : Int32).toInt64.toUInt64 &&& Int64.toUInt64 63) (n := 32) (by decide)
    rw [← hz11, l_add (by rw [s, v9, p11]; exact p12), s, v9]; exact p11
  congr 1
  apply Int32.toBitVec_inj.mp
  apply BitVec.eq_of_toNat_eq
  rw [Int32.toBitVec_and, BitVec.toNat_and, Int64.toBitVec_toInt32, BitVec.signExtend_eq_setWidth_of_le _ (by decide), BitVec.toNat_setWidth, v11, show ((127 : Int32).toBitVec.toNat) = 2 ^ 7 - 1 from rfl, Nat.and_two_pow_sub_one_eq_mod]
  have := q_cnt_le (fun c => S.toBitVec.getLsbD c) 64
  rw [show (nI (q_cnt (fun c => S.toBitVec.getLsbD c) 64)).toBitVec.toNat = q_cnt (fun c => S.toBitVec.getLsbD c) 64 % 2 ^ 32 from rfl, Nat.mod_mod_of_dvd _ (show 2 ^ 7 ∣ 2 ^ 32 from ⟨2 ^ 25, rfl⟩), Nat.mod_eq_of_lt (a := q_cnt (fun c => S.toBitVec.getLsbD c) 64) (by omega)]
  exact p13
theorem q_cnt_5 (N : Nat → Bool) : ∀ m, q_cnt N (5 * m) = q_cnt (fun c => N (5 * c + 0)) m + q_cnt (fun c => N (5 * c + 1)) m + q_cnt (fun c => N (5 * c + 2)) m + q_cnt (fun c => N (5 * c + 3)) m + q_cnt (fun c => N (5 * c + 4)) m
  | 0 => rfl
  | m + 1 => by
    have ih := q_cnt_5 N m
    show q_cnt N (5 * m) + (if N (5 * m) = true then 1 else 0) + (if N (5 * m + 1) = true then 1 else 0) + (if N (5 * m + 2) = true then 1 else 0) + (if N (5 * m + 3) = true then 1 else 0) + (if N (5 * m + 4) = true then 1 else 0) = (q_cnt (fun c => N (5 * c + 0)) m + (if N (5 * m + 0) = true then 1 else 0)) + (q_cnt (fun c => N (5 * c + 1)) m + (if N (5 * m + 1) = true then 1 else 0)) + (q_cnt (fun c => N (5 * c + 2)) m + (if N (5 * m + 2) = true then 1 else 0)) + (q_cnt (fun c => N (5 * c + 3)) m + (if N (5 * m + 3) = true then 1 else 0)) + (q_cnt (fun c => N (5 * c + 4)) m + (if N (5 * m + 4) = true then 1 else 0))
    rw [ih]
    simp only [Nat.add_zero]
    omega
section OPS
variable {h h' : mH} {I I' : Nat → Nat → Int32} {nS nB nO : Nat} {lo ak : Int32} {sp bx qu bl le : Nat → Nat} {own : Nat → Nat × Nat}
def q_ne (I : Nat → Nat → Int32) (a : Nat) : Nat → Bool := fun s => !(I a s == -1)
theorem ne_s {a i : Nat} : q_cnt (q_ne I a) (i + 1) = q_cnt (q_ne I a) i + (if I a i = -1 then 0 else 1) := by
  have e : (if q_ne I a i = true then 1 else 0) = (if I a i = -1 then 0 else 1) := by
    unfold q_ne
    by_cases e : I a i = -1
    · simp [e]
    · simp [e]
  rw [← e]
  rfl
theorem c_size (hF : q_F h nS nB lo ak nO) (hR : q_Ru h I) : f_X5_size h 37 = some (nI (q_cnt (q_ne I 50) 245)) := by
  obtain ⟨⟨ld, l1, l2⟩, -, -⟩ := hR
  have hc : ∀ f, f < 5 → q_cnt (fun c => (ld f).toBitVec.getLsbD c) 64 = q_cnt (fun c => q_ne I 50 (5 * c + f)) 49 := fun f hf => by
    rw [q_cnt_congr (P' := fun c => decide (c < 49) && q_ne I 50 (5 * c + f)) 64 (fun c hc => ?_), q_cnt_cut]
    · rfl
    · rw [l2 f hf c hc]
      unfold n_P q_ne
      by_cases e : I 50 (5 * c + f) = -1
      · simp [e]
      · simp [e]
  have hl := m_for (step := w_X5_size_4 h 37) (fun f => (nI (n_sum (fun f => q_cnt (fun c => q_ne I 50 (5 * c + f)) 49) f), nI f)) (nI (n_sum (fun f => q_cnt (fun c => q_ne I 50 (5 * c + f)) 49) 5)) 5 (by omega) (fun f hf => by
    unfold w_X5_size_4
    dsimp only
    rw [if_neg (by rw [show (5 : Int32) = nI 5 from rfl, n_le (by omega) (by omega)]; omega), rF370 hF]
    simp only [Option.bind_some]
    rw [g_ll (by have := hF.1; omega) l1 hf (by decide)]
    simp only [Option.bind_some]
    rw [c_bits, hc f hf]
    simp only [Option.bind_some, nI_1, nI_add]
    rfl) (by
    unfold w_X5_size_4
    dsimp only
    rw [if_pos (by decide)])
  unfold f_X5_size
  rw [show ((0 : Int32), (0 : Int32)) = (fun f => (nI (n_sum (fun f => q_cnt (fun c => q_ne I 50 (5 * c + f)) 49) f), nI f)) 0 from rfl, hl]
  simp only [Option.bind_some]
  rw [show (245 : Nat) = 5 * 49 from rfl, q_cnt_5]
  congr 2
  show 0 + q_cnt (fun c => q_ne I 50 (5 * c + 0)) 49 + q_cnt (fun c => q_ne I 50 (5 * c + 1)) 49 + q_cnt (fun c => q_ne I 50 (5 * c + 2)) 49 + q_cnt (fun c => q_ne I 50 (5 * c + 3)) 49 + q_cnt (fun c => q_ne I 50 (5 * c + 4)) 49 = _
  omega
theorem d_size (hM : q_M h I nS nB lo ak) : m_loop (w_X10_count_60 h 44) 5000 (0, 0) = some (nI (q_cnt (q_ne I 50) 245)) := by
  exact m_for (step := w_X10_count_60 h 44) (fun i => (nI (q_cnt (q_ne I 50) i), nI i)) (nI (q_cnt (q_ne I 50) 245)) 245 (by omega) (fun i hi => by
    unfold w_X10_count_60
    dsimp only
    rw [if_neg (by rw [show (245 : Int32) = nI 245 from rfl, n_le (by omega) (by omega)]; omega), rM5 hM]
    simp only [Option.bind_some]
    rw [rI hM (a := 50) (by decide) (by decide) (show i < 245 by omega)]
    simp only [Option.bind_some, nI_1]
    rw [ne_s]
    by_cases e : I 50 i = -1
    · simp [e]
    · simp [e]) (by
    unfold w_X10_count_60
    dsimp only
    rw [if_pos (by decide)])
theorem d_c95 (hM : q_M h I nS nB lo ak) (hn : nS ≤ 300) : m_loop (w_X10_count_95 h 44) 5000 (0, 0) = some (nI (q_cnt (q_ne I 57) nS)) := by
  exact m_for (step := w_X10_count_95 h 44) (fun i => (nI (q_cnt (q_ne I 57) i), nI i)) (nI (q_cnt (q_ne I 57) nS)) nS (by omega) (fun i hi => by
    unfold w_X10_count_95
    dsimp only
    rw [rM6 hM]
    simp only [Option.bind_some]
    rw [if_neg (by rw [n_le (by omega) (by omega)]; omega), rM13 hM]
    simp only [Option.bind_some]
    rw [rI hM (a := 57) (by decide) (by decide) (show i < 300 by omega)]
    simp only [Option.bind_some, nI_1]
    rw [ne_s]
    by_cases e : I 57 i = -1
    · simp [e]
    · simp [e]) (by
    unfold w_X10_count_95
    dsimp only
    rw [rM6 hM]
    simp only [Option.bind_some]
    rw [if_pos (Int32.le_refl _)])
theorem d_c136 (hM : q_M h I nS nB lo ak) (hn : nS ≤ 300) : m_loop (w_X10_count_136 h 44) 5000 (0, 0) = some (nI (q_cnt (q_ne I 54) nS)) := by
  exact m_for (step := w_X10_count_136 h 44) (fun i => (nI (q_cnt (q_ne I 54) i), nI i)) (nI (q_cnt (q_ne I 54) nS)) nS (by omega) (fun i hi => by
    unfold w_X10_count_136
    dsimp only
    rw [rM6 hM]
    simp only [Option.bind_some]
    rw [if_neg (by rw [n_le (by omega) (by omega)]; omega), rM10 hM]
    simp only [Option.bind_some]
    rw [rI hM (a := 54) (by decide) (by decide) (show i < 300 by omega)]
    simp only [Option.bind_some, nI_1]
    rw [ne_s]
    by_cases e : I 54 i = -1
    · simp [e]
    · simp [e]) (by
    unfold w_X10_count_136
    dsimp only
    rw [rM6 hM]
    simp only [Option.bind_some]
    rw [if_pos (Int32.le_refl _)])
theorem d_c172 (hM : q_M h I nS nB lo ak) (hn : nS ≤ 300) : m_loop (w_X10_count_172 h 44) 5000 (0, 0) = some (nI (q_cnt (q_ne I 56) nS)) := by
  exact m_for (step := w_X10_count_172 h 44) (fun i => (nI (q_cnt (q_ne I 56) i), nI i)) (nI (q_cnt (q_ne I 56) nS)) nS (by omega) (fun i hi => by
    unfold w_X10_count_172
    dsimp only
    rw [rM6 hM]
    simp only [Option.bind_some]
    rw [if_neg (by rw [n_le (by omega) (by omega)]; omega), rM12 hM]
    simp only [Option.bind_some]
    rw [rI hM (a := 56) (by decide) (by decide) (show i < 300 by omega)]
    simp only [Option.bind_some, nI_1]
    rw [ne_s]
    by_cases e : I 56 i = -1
    · simp [e]
    · simp [e]) (by
    unfold w_X10_count_172
    dsimp only
    rw [rM6 hM]
    simp only [Option.bind_some]
    rw [if_pos (Int32.le_refl _)])
theorem d_c208 (hM : q_M h I nS nB lo ak) : m_loop (w_X10_count_208 h 44) 5000 (0, 0) = some (q_sum (I 65) 20) := by
  exact m_for (step := w_X10_count_208 h 44) (fun i => (q_sum (I 65) i, nI i)) (q_sum (I 65) 20) 20 (by omega) (fun i hi => by
    unfold w_X10_count_208
    dsimp only
    rw [if_neg (by rw [show (20 : Int32) = nI 20 from rfl, n_le (by omega) (by omega)]; omega), rM22 hM]
    simp only [Option.bind_some]
    rw [rI hM (a := 65) (by decide) (by decide) (show i < 20 by omega)]
    simp only [Option.bind_some, nI_1]
    rfl) (by
    unfold w_X10_count_208
    dsimp only
    rw [if_pos (by decide)])
theorem c_charged (hF : q_F h nS nB lo ak nO) (hL : q_Ln h I nS nO sp le) : f_X3_chargedToAll h 40 = some (q_sum (I 65) 20) := by
  obtain ⟨cg, g1, g2⟩ := hL.2.2.1
  have hl := m_for (step := w_X3_chargedToAll_4 h 40) (fun i => (q_sum (I 65) i, nI i)) (q_sum (I 65) 20) 20 (by omega) (fun i hi => by
    unfold w_X3_chargedToAll_4
    dsimp only
    rw [if_neg (by rw [show (20 : Int32) = nI 20 from rfl, n_le (by omega) (by omega)]; omega), rF402 hF]
    simp only [Option.bind_some]
    rw [g_il (by have := hF.1; omega) g1 hi (by decide), g2 i hi]
    simp only [Option.bind_some, nI_1]
    rfl) (by
    unfold w_X3_chargedToAll_4
    dsimp only
    rw [if_pos (by decide)])
  unfold f_X3_chargedToAll
  rw [show ((0 : Int32), (0 : Int32)) = (fun i => (q_sum (I 65) i, nI i)) 0 from rfl, hl]
  rfl
theorem c_inBoxes (hF : q_F h nS nB lo ak nO) (hS : q_S h I nS sp bx) (hN : q_N h I nS nB sp bx bl) : f_X8_countInBoxes h 1 = some (nI (q_cnt (q_ne I 54) nS)) := by
  obtain ⟨f, e1, e2⟩ := hN.1
  have n3 := hF.2.2.2.2.2.2.2.1
  have hl := m_for (step := w_X8_countInBoxes_4 h 1) (fun i => (nI (q_cnt (q_ne I 54) i), nI i)) (nI (q_cnt (q_ne I 54) nS)) nS (by omega) (fun i hi => by
    unfold w_X8_countInBoxes_4
    dsimp only
    rw [rF12 hF]
    simp only [Option.bind_some]
    rw [if_neg (by rw [n_le (by omega) (by omega)]; omega), if_neg (by rw [show (300 : Int32) = nI 300 from rfl, n_le (by omega) (by omega)]; omega), rF10 hF]
    simp only [Option.bind_some]
    rw [g_al (by have := hF.1; omega) e1 (by decide) (by omega) (by decide), e2 i hi]
    simp only [Option.bind_some]
    rw [rS4 hS hi]
    simp only [Option.bind_some]
    rw [ne_s]
    unfold q_br
    by_cases e : I 54 i = -1
    · simp [e, nI_1]
    · simp [e, nI_1]) (by
    unfold w_X8_countInBoxes_4
    dsimp only
    rw [rF12 hF]
    simp only [Option.bind_some]
    rw [if_pos (Int32.le_refl _)])
  unfold f_X8_countInBoxes
  rw [show ((0 : Int32), (0 : Int32)) = (fun i => (nI (q_cnt (q_ne I 54) i), nI i)) 0 from rfl, hl]
  rfl
theorem std_sum (hT : q_T I nS nB) : ∀ n, n ≤ nS → q_cnt (q_ne I 56) n = n_sum (fun b => q_cnt (fun s => I 56 s == nI b) n) 10
  | 0, _ => rfl
  | n + 1, hn => by
    have ih := std_sum hT n (by omega)
    show q_cnt (q_ne I 56) n + (if q_ne I 56 n = true then 1 else 0) = n_sum (fun b => q_cnt (fun s => I 56 s == nI b) n + (if (I 56 n == nI b) = true then 1 else 0)) 10
    rw [n_sum_add, ← ih]
    congr 1
    rcases hT.2.2.2.1 n (by omega) with e | ⟨b, b1, e⟩
    · have e1 : q_ne I 56 n = false := by unfold q_ne; rw [e]; rfl
      rw [e1, if_neg (by simp), n_sum_congr (g' := fun b => if b = 10 then 1 else 0) 10 (fun b hb => ?_), n_sum_one, if_neg (by omega)]
      rw [e, if_neg (by simp; exact fun z => q_nm1 (by omega) z.symm), if_neg (by omega)]
    · have e1 : q_ne I 56 n = true := by
        unfold q_ne
        have : ¬ I 56 n = -1 := by rw [e]; exact q_nm1 (by omega)
        simp [this]
      rw [e1, if_pos rfl, n_sum_congr (g' := fun b' => if b' = b then 1 else 0) 10 (fun b' hb' => ?_), n_sum_one, if_pos b1]
      rw [e]
      by_cases c : b' = b
      · subst c; simp
      · rw [if_neg c, if_neg]
        simp only [beq_iff_eq]
        rw [n_eq (by omega) (by omega)]
        omega
theorem c_onShelves (hF : q_F h nS nB lo ak nO) (hH : q_Hs h I nS) (hT : q_T I nS nB) : f_X9_onShelves h 0 = some (nI (q_cnt (q_ne I 56) nS)) := by
  have hl := m_for (step := w_X9_onShelves_4 h 0) (fun i => (nI (n_sum (fun b => q_std I nS b) i), nI i)) (nI (n_sum (fun b => q_std I nS b) 10)) 10 (by omega) (fun i hi => by
    unfold w_X9_onShelves_4
    dsimp only
    rw [if_neg (by rw [show (10 : Int32) = nI 10 from rfl, n_le (by omega) (by omega)]; omega), if_pos (oF0 hF), c_shelfAt hF, q_r_nI hi (by omega), q_n_nI (by omega)]
    simp only [Option.bind_some, if_true]
    rw [rH3 hF hH hi]
    simp only [Option.bind_some, nI_1, nI_add]
    rfl) (by
    unfold w_X9_onShelves_4
    dsimp only
    rw [if_pos (by decide)])
  unfold f_X9_onShelves
  rw [show ((0 : Int32), (0 : Int32)) = (fun i => (nI (n_sum (fun b => q_std I nS b) i), nI i)) 0 from rfl, hl, std_sum hT nS (Nat.le_refl _)]
  rfl
theorem e_count (w : q_W h I nS nB lo ak nO sp bx qu own bl le) (x : Int32) : ∃ r, f_X9_count h 0 x = some r ∧ f_X10_count h 44 x = some r := by
  obtain ⟨hM, hF, hS, hN, hB, hH, hK, hR, hL, hT, hO⟩ := w
  have n3 := hF.2.2.2.2.2.2.2.1
  have eL : nO = q_cnt (q_ne I 57) nS := by
    have e1 := q_cntL hF hL (fun _ => true)
    rw [q_cnt_all nO (fun _ _ => rfl)] at e1
    simp only [Bool.and_true] at e1
    exact e1
  unfold f_X9_count f_X10_count
  simp only [rF00 hF, rF12 hF, rF06 hF, rF04 hF, rF05 hF, rF403 hF, rF404 hF, oF37 hF, oF1 hF, oF0 hF, oF40 hF, if_true, Option.bind_some, rM6 hM, rM17 hM, rM23 hM]
  rw [c_size hF hR, d_size hM, d_c95 hM n3, d_c136 hM n3, d_c172 hM n3, d_c208 hM, c_charged hF hL, c_inBoxes hF hS hN, c_onShelves hF hH hT, ← eL]
  simp only [Option.bind_some]
  refine some2 rfl ?_
  repeat' split
  all_goals exact ⟨_, rfl⟩
end OPS
