/-! PURE PART 30: question -/
def q_tb (n : Nat) (v : Int32) : Bool := decide (v = -1) || q_c v || decide (201 + (n : Int) ≤ v.toInt ∧ v.toInt ≤ 239)
def q_ma (a b : Int32) : Bool := if a = 60 ∨ a = 61 then q_dy b else q_c a && decide (b = 0)
theorem q_tb_tell {n : Nat} {v : Int32} (h : q_tb n v = true) : q_tell n v := by
  unfold q_tb at h
  rw [Bool.or_eq_true, Bool.or_eq_true] at h
  rcases h with (h | h) | h
  · exact Or.inl (of_decide_eq_true h)
  · exact Or.inr (Or.inl h)
  · have := of_decide_eq_true h
    obtain ⟨j, hj, rfl⟩ := n_of (n := 240) (x := v) (by omega) (by omega)
    rw [nI_toInt (by omega)] at this
    exact Or.inr (Or.inr ⟨j - 200, by omega, by omega, by rw [show 200 + (j - 200) = j by omega]⟩)
theorem c_mayAsk (a b : Int32) : f_X4_mayAsk a b = some (q_b (q_ma a b)) := by
  unfold f_X4_mayAsk q_ma
  rw [c_isMeas, c_isCode]
  simp only [Option.bind_some, q_bb, q_b0]
  by_cases h1 : a = 60
  · simp [h1]
    cases q_dy b <;> rfl
  · by_cases h2 : a = 61
    · simp [h2]
      cases q_dy b <;> rfl
    · simp [h1, h2]
      cases q_c a with
      | false => rfl
      | true =>
        by_cases h3 : b = 0
        · simp [h3]; rfl
        · simp [h3]; rfl
theorem d_isEnd {n : Nat} (hn : n ≤ 40) (v : Int32) : f_X10_isEnd v (nI n) = some (q_b (q_tb n v)) := by
  unfold f_X10_isEnd q_tb
  rw [d_isCode, show (201 : Int32) = nI 201 from rfl, nI_add, d_in, nI_toInt (by omega), show (239 : Int32).toInt = 239 from rfl]
  simp only [Option.bind_some, q_b0]
  by_cases h1 : v = -1
  · simp [h1]; rfl
  · rw [if_neg h1]
    cases q_c v with
    | true => simp [h1]; rfl
    | false =>
      simp only [if_true, h1, decide_false, Bool.false_or]
      have e : ((201 + n : Nat) : Int) = 201 + (n : Int) := by omega
      rw [e]
      cases decide (201 + (n : Int) ≤ v.toInt ∧ v.toInt ≤ 239) <;> rfl
section OPS
variable {h h' : mH} {I I' : Nat → Nat → Int32} {nS nB nO : Nat} {lo ak : Int32} {sp bx qu bl le : Nat → Nat} {own : Nat → Nat × Nat}
theorem kK (hT : q_T I nS nB) {k : Nat} (hk : k < 10) : q_n (I 66 k) ≤ 40 ∧ I 66 k = nI (q_n (I 66 k)) := by
  obtain ⟨n, h1, h2, -⟩ := hT.2.2.2.2.2.2.2.1 k hk
  rw [h2, q_n_nI (by omega)]
  exact ⟨h1, rfl⟩
theorem c_mayTell (hF : q_F h nS nB lo ak nO) (hK : q_Ks h I qu) (hT : q_T I nS nB) {k : Nat} (hk : k < 10) (v : Int32) : f_X2_mayTell h (17 + 2 * k) v = some (q_b (q_tb (q_n (I 66 k)) v)) := by
  obtain ⟨ka, k1⟩ := (hK k hk).1
  obtain ⟨n1, n2⟩ := kK hT hk
  have r1 : m_gi h (17 + 2 * k) 1 1 = some (I 66 k) := g_i (by have := hF.1; omega) k1 rfl
  unfold f_X2_mayTell q_tb
  rw [c_isCode, r1, n2, q_n_nI (by omega)]
  generalize q_n (I 66 k) = n at n1
  rw [show (200 : Int32) = nI 200 from rfl]
  simp only [Option.bind_some, q_b0, nI_add, Int32.le_iff_toInt_le, nI_toInt (show 200 + n < 2147483648 by omega), show (240 : Int32).toInt = 240 from rfl]
  by_cases h1 : v = -1
  · simp [h1]; rfl
  · rw [if_neg h1]
    cases q_c v with
    | true => simp [h1]; rfl
    | false =>
      simp only [if_true, h1, decide_false, Bool.false_or]
      by_cases c1 : v.toInt ≤ ((200 + n : Nat) : Int)
      · rw [if_pos c1, decide_eq_false (by omega)]; rfl
      · rw [if_neg c1]
        by_cases c2 : 240 ≤ v.toInt
        · rw [if_pos c2, decide_eq_false (by omega)]; rfl
        · rw [if_neg c2, decide_eq_true (by omega)]; rfl
def q_mq (I : Nat → Nat → Int32) (k n : Nat) (a b c d : Int32) : Nat → Nat → Int32 := q_u (q_u (q_u (q_u (q_u I 67 (40 * k + n) a) 68 (40 * k + n) b) 69 (40 * k + n) c) 70 (40 * k + n) d) 66 k (nI (n + 1))
theorem s_quest (w : q_V h I nS nB lo ak nO sp bx qu own bl le) {k n : Nat} {a b c d : Int32} {ka : Int32} {f : Nat → Option Nat} (hk : k < 10) (hn : n < 40) (en : I 66 k = nI n) (ha : a = 60 ∨ a = 61 ∨ q_c a = true) (hc : q_tell n c) (hd : q_tell n d) (h1 : h'.1 = h.1 + 1) (ck : h'.2.2 (17 + 2 * k) = .inr (1, [.ref (18 + 2 * k), .int (nI (n + 1)), .int ka])) (hf : h.2.2 (18 + 2 * k) = .inl (6, 40, q_R f)) (cf : h'.2.2 (18 + 2 * k) = .inl (6, 40, q_R (va_up f n (some h.1)))) (cq : h'.2.2 h.1 = .inr (3, [.int a, .int b, .int c, .int d])) (lk : ∀ x, x ≠ 17 + 2 * k → x ≠ 18 + 2 * k → x < h.1 → h'.2.2 x = h.2.2 x) : q_V h' (q_mq I k n a b c d) nS nB lo ak nO sp bx (va_up qu (40 * k + n) h.1) (va_up own h.1 (3, 40 * k + n)) bl le := by
  obtain ⟨hF, hS, hN, hB, hH, hK, hR, hL, hT, hO⟩ := w
  have hn' : h.1 ≤ h'.1 := by omega
  have n71 := hF.1
  generalize hJ : q_mq I k n a b c d = J
  have J1 : ∀ x, x < 66 → J x = I x := fun x hx => by rw [← hJ]; unfold q_mq; rw [uR (by omega), uR (by omega), uR (by omega), uR (by omega), uR (by omega)]
  have J66 : J 66 k = nI (n + 1) := by rw [← hJ]; unfold q_mq; exact uE
  have J66' : ∀ k', k' ≠ k → J 66 k' = I 66 k' := fun k' hk' => by rw [← hJ]; unfold q_mq; rw [uN hk', uR (by decide), uR (by decide), uR (by decide), uR (by decide)]
  have J67 : J 67 (40 * k + n) = a := by rw [← hJ]; unfold q_mq; rw [uR (by decide), uR (by decide), uR (by decide), uR (by decide), uE]
  have J68 : J 68 (40 * k + n) = b := by rw [← hJ]; unfold q_mq; rw [uR (by decide), uR (by decide), uR (by decide), uE]
  have J69 : J 69 (40 * k + n) = c := by rw [← hJ]; unfold q_mq; rw [uR (by decide), uR (by decide), uE]
  have J70 : J 70 (40 * k + n) = d := by rw [← hJ]; unfold q_mq; rw [uR (by decide), uE]
  have Jo : ∀ x j, 67 ≤ x → j ≠ 40 * k + n → J x j = I x j := fun x j hx hj => by rw [← hJ]; unfold q_mq; rw [uR (by omega), uN hj, uN hj, uN hj, uN hj]
  have qn : q_n (I 66 k) = n := by rw [en, q_n_nI (by omega)]
  have qn' : q_n (J 66 k) = n + 1 := by rw [J66, q_n_nI (by omega)]
  have hS1 : ∀ s, s < nS → sp s < h.1 := fun s hs => (hS s hs).2.1
  have hB1 : ∀ j, j < nB → bx j + 1 < h.1 := fun j hj => (hB j hj).2.1
  have hK1 : ∀ k, k < 10 → ∀ i, i < q_n (I 66 k) → qu (40 * k + i) < h.1 := fun k hk i hi => ((hK k hk).2.2 i hi).2.1
  have dis : ∀ k' i, k' < 10 → i < q_n (J 66 k') → ¬ (k' = k ∧ i = n) → i < q_n (I 66 k') ∧ 40 * k' + i ≠ 40 * k + n := fun k' i hk' hi hne => by
    by_cases e : k' = k
    · subst e
      rw [qn'] at hi
      rw [qn]
      exact ⟨by omega, by omega⟩
    · rw [J66' k' e] at hi
      have := (kK hT hk').1
      exact ⟨hi, by omega⟩
  refine ⟨fF hF hn' (fun x hx => lk x (by omega) (by omega) (by omega)), fS hS hn' (fun s hs => lk _ (by have := (hS s hs).1; omega) (by have := (hS s hs).1; omega) (hS1 s hs)) (fun s _ => ?_), fN hN (fun x hx => lk x (by omega) (by omega) (by omega)) (fun t _ => by rw [J1 52 (by omega)]), fB hB hn' (fun j hj => by have := (hB j hj).1; have := hB1 j hj; exact ⟨lk _ (by omega) (by omega) (by omega), lk _ (by omega) (by omega) (by omega)⟩) (J1 61 (by omega)) (J1 62 (by omega)) (fun t _ => by rw [J1 54 (by omega), J1 55 (by omega)]; exact ⟨rfl, rfl⟩), fHs hH (fun i hi => lk _ (by omega) (by omega) (by omega)) (J1 63 (by omega)) (J1 64 (by omega)) (fun t _ => by rw [J1 56 (by omega), J1 52 (by omega)]; exact ⟨rfl, rfl⟩), ?_, fRu hR (lk _ (by omega) (by omega) (by omega)) (lk _ (by omega) (by omega) (by omega)) (J1 50 (by omega)), fLn hL (fun x hx => lk x (by omega) (by omega) (by omega)) (fun t _ => by rw [J1 57 (by omega), J1 58 (by omega), J1 59 (by omega)]; exact ⟨rfl, rfl, rfl⟩) (J1 65 (by omega)), ?_, ?_⟩
  · unfold q_sc q_br q_sr
    rw [J1 51 (by omega), J1 52 (by omega), J1 53 (by omega), J1 54 (by omega), J1 55 (by omega), J1 56 (by omega), J1 57 (by omega), J1 58 (by omega), J1 59 (by omega), J1 60 (by omega)]
  · intro k' hk'
    obtain ⟨k1, ⟨f', k2, k3⟩, k4⟩ := hK k' hk'
    by_cases e : k' = k
    · subst e
      rw [hf] at k2
      cases k2
      refine ⟨⟨ka, by rw [ck, J66]⟩, ⟨_, cf, fun i hi => ?_⟩, fun i hi => ?_⟩
      · by_cases ei : i = n
        · subst ei; rw [upE, upE]
        · obtain ⟨z1, z2⟩ := dis k' i hk' hi (fun z => ei z.2)
          rw [upN ei, upN z2]
          exact k3 i z1
      · by_cases ei : i = n
        · subst ei
          rw [upE]
          refine ⟨n71, by omega, ?_⟩
          rw [cq]
          unfold q_qc
          rw [J67, J68, J69, J70]
        · obtain ⟨z1, z2⟩ := dis k' i hk' hi (fun z => ei z.2)
          obtain ⟨y1, y2, y3⟩ := k4 i z1
          rw [upN z2]
          refine ⟨y1, by omega, ?_⟩
          rw [lk _ (by omega) (by omega) y2, y3]
          unfold q_qc
          rw [Jo 67 _ (by omega) z2, Jo 68 _ (by omega) z2, Jo 69 _ (by omega) z2, Jo 70 _ (by omega) z2]
    · refine ⟨?_, ⟨f', ?_, fun i hi => ?_⟩, fun i hi => ?_⟩
      · rw [lk _ (by omega) (by omega) (by omega), J66' k' e]; exact k1
      · rw [lk _ (by omega) (by omega) (by omega)]; exact k2
      · obtain ⟨z1, z2⟩ := dis k' i hk' hi (fun z => e z.1)
        rw [upN z2]
        exact k3 i z1
      · obtain ⟨z1, z2⟩ := dis k' i hk' hi (fun z => e z.1)
        obtain ⟨y1, y2, y3⟩ := k4 i z1
        rw [upN z2]
        refine ⟨y1, by omega, ?_⟩
        rw [lk _ (by omega) (by omega) y2, y3]
        unfold q_qc
        rw [Jo 67 _ (by omega) z2, Jo 68 _ (by omega) z2, Jo 69 _ (by omega) z2, Jo 70 _ (by omega) z2]
  · obtain ⟨t1, t2, t3, t4, t5, t6, t7, t8, t9, t10, t11⟩ := hT
    unfold q_T n_P q_hld
    rw [J1 51 (by omega), J1 52 (by omega), J1 54 (by omega), J1 55 (by omega), J1 56 (by omega), J1 57 (by omega), J1 58 (by omega), J1 59 (by omega), J1 60 (by omega), J1 61 (by omega), J1 62 (by omega), J1 63 (by omega), J1 50 (by omega)]
    refine ⟨t1, t2, t3, t4, t5, t6, t7, fun k' hk' => ?_, t9, t10, t11⟩
    obtain ⟨n', m1, m2, m3⟩ := t8 k' hk'
    by_cases e : k' = k
    · subst e
      have : n' = n := by rw [en, n_eq (by omega) (by omega)] at m2; exact m2.symm
      subst this
      refine ⟨n' + 1, by omega, J66, fun i hi => ?_⟩
      by_cases ei : i = n'
      · subst ei
        rw [J67, J69, J70]
        exact ⟨ha, hc, hd⟩
      · rw [Jo 67 _ (by omega) (by omega), Jo 69 _ (by omega) (by omega), Jo 70 _ (by omega) (by omega)]
        exact m3 i (by omega)
    · refine ⟨n', m1, by rw [J66' k' e]; exact m2, fun i hi => ?_⟩
      rw [Jo 67 _ (by omega) (by omega), Jo 69 _ (by omega) (by omega), Jo 70 _ (by omega) (by omega)]
      exact m3 i hi
  · refine ⟨fun s hs => ?_, fun j hj => ?_, fun k' hk' i hi => ?_⟩
    · have := hS1 s hs
      rw [upN (by omega)]
      exact hO.1 s hs
    · have := hB1 j hj
      rw [upN (by omega), upN (by omega)]
      exact hO.2.1 j hj
    · by_cases e : k' = k ∧ i = n
      · rw [e.1, e.2, upE, upE]
      · obtain ⟨z1, z2⟩ := dis k' i hk' hi e
        have := hK1 k' hk' i z1
        rw [upN z2, upN (by omega)]
        exact hO.2.2 k' hk' i z1
theorem c_newq {A : mH} {a : Nat} (ha : a < A.1) (he : A.2.2 a = .inr (3, [.int 0, .int 0, .int 0, .int 0])) (n k l g : Int32) : f_X4_init A a n k l g = some (q_wr A a (.inr (3, [.int n, .int k, .int l, .int g]))) := by
  unfold f_X4_init
  rw [← wr_self he]
  generalize A = B at *
  rw [g_pw _ (by exact ha) (by simp)]
  simp only [Option.bind_some]
  rw [g_pw _ (by exact ha) (by simp)]
  simp only [Option.bind_some]
  rw [g_pw _ (by exact ha) (by simp)]
  simp only [Option.bind_some]
  rw [g_pw _ (by exact ha) (by simp)]
  simp only [Option.bind_some]
  rw [wr_wr]
  rfl
theorem i_40 {k n : Nat} : (40 : Int32) * nI k + nI n = nI (40 * k + n) := by rw [show (40 : Int32) = nI 40 from rfl, pk_mul, nI_add]
theorem e_question (w : q_W h I nS nB lo ak nO sp bx qu own bl le) (x a b c d : Int32) : q_both h (f_X9_question h 0 x a b c d) (fun h1 => f_X10_question h1 44 x a b c d) := by
  have w' := w
  obtain ⟨hM, hV⟩ := w
  have hV' := hV
  obtain ⟨hF, hS, hN, hB, hH, hK, hR, hL, hT, hO⟩ := hV
  have n71 := hF.1
  cases hx : q_r x 10 with
  | false =>
    refine q_both.no w' (-1) ?_ ?_
    · unfold f_X9_question
      rw [if_pos (oF0 hF), c_keyAt hF, hx]
      rfl
    · show f_X10_question h 44 x a b c d = _
      unfold f_X10_question
      rw [d_09, hx]
      rfl
  | true =>
    obtain ⟨k, hk, rfl⟩ := q_rE hx
    obtain ⟨n1, n2⟩ := kK hT hk
    obtain ⟨⟨ka, k1⟩, ⟨f, k2, k3⟩, k4⟩ := hK k hk
    have tell := c_mayTell hF hK hT hk
    generalize hn : q_n (I 66 k) = n at n1 n2 k3 k4 tell
    rw [n2] at k1
    have oK : m_ob h (17 + 2 * k) 1 = true := g_o (by omega) k1
    have rK : m_gi h (17 + 2 * k) 1 1 = some (nI n) := g_i (by omega) k1 rfl
    have full : f_X2_isFull h (17 + 2 * k) = some (if n < 40 then 0 else 1) := by
      unfold f_X2_isFull
      rw [rK]
      simp only [Option.bind_some, show (40 : Int32) = nI 40 from rfl, n_lt (show n < 2147483648 by omega) (show 40 < 2147483648 by omega)]
      split <;> rfl
    have hm : ∀ g : mH, q_M g I nS nB lo ak → f_X10_question g 44 (nI k) a b c d = (if n = 40 then some ((-1 : Int32), g) else if q_ma a b = false then some (-1, g) else if q_tb n c = false then some (-1, g) else if q_tb n d = false then some (-1, g) else (m_ist g 67 (nI (40 * k + n)) a).bind fun h32 => (m_gr h32 44 9 26).bind fun q34 => (q34).bind fun b36 => (m_ist h32 b36 (nI (40 * k + n)) b).bind fun h38 => (m_gr h38 44 9 27).bind fun q40 => (q40).bind fun b42 => (m_ist h38 b42 (nI (40 * k + n)) c).bind fun h44 => (m_gr h44 44 9 28).bind fun q46 => (q46).bind fun b48 => (m_ist h44 b48 (nI (40 * k + n)) d).bind fun h50 => (m_gr h50 44 9 24).bind fun q52 => (q52).bind fun b54 => (m_ild h50 b54 (nI k)).bind fun x56 => (m_ist h50 b54 (nI k) (x56 + 1)).bind fun h58 => some ((nI (n + 1), h58))) := by
      intro g hg
      unfold f_X10_question q_ma
      rw [d_09, hx, d_isDay, d_isCode]
      simp only [Option.bind_some, q_b0, Bool.true_eq_false, if_false, rM24 hg, rM25 hg]
      rw [rI hg (a := 66) (by decide) (by decide) hk, n2]
      simp only [Option.bind_some, show (40 : Int32) = nI 40 from rfl, n_eq (show n < 2147483648 by omega) (show 40 < 2147483648 by omega)]
      rw [d_isEnd n1, d_isEnd n1]
      simp only [Option.bind_some, q_b0, show nI 40 = (40 : Int32) from rfl, i_40, nI_1]
      by_cases e0 : n = 40
      · rw [if_pos e0, if_pos e0]
      · rw [if_neg e0, if_neg e0]
        by_cases h1 : a = 60
        · simp only [h1, true_or, if_true]
        · by_cases h2 : a = 61
          · simp only [h2, or_true, if_true, show ¬ ((61 : Int32) = 60) from by decide, if_false]
          · simp only [h1, h2, or_self, if_false]
            cases q_c a with
            | false => rfl
            | true =>
              by_cases h3 : b = 0
              · simp only [h3, if_true, Bool.true_and, decide_true, Bool.true_eq_false, if_false]
              · simp only [h3, if_false, Bool.true_and, decide_false, if_true, Bool.true_eq_false]
    have hh : f_X9_question h 0 (nI k) a b c d = (if n = 40 then some ((-1 : Int32), h) else if q_ma a b = false then some (-1, h) else if q_tb n c = false then some (-1, h) else if q_tb n d = false then some (-1, h) else (m_newO h 3 [.int 0, .int 0, .int 0, .int 0]).bind fun h16 => (f_X4_init h16 h.1 a b c d).bind fun h19 => if m_ob h19 (17 + 2 * k) 1 = true then (f_X2_add h19 (17 + 2 * k) (some h.1)).bind fun p21 => some (p21.1, p21.2) else none) := by
      unfold f_X9_question
      rw [if_pos (oF0 hF), c_keyAt hF, hx, q_n_nI (by omega)]
      simp only [Option.bind_some, if_true]
      rw [full, c_mayAsk, tell, tell]
      simp only [Option.bind_some, q_b0, oK, if_true]
      by_cases e0 : n = 40
      · subst e0; rfl
      · rw [if_pos (show n < 40 by omega), if_pos rfl, if_neg e0]
    by_cases e0 : n = 40
    · rw [if_pos e0] at hh
      exact q_both.no w' (-1) hh ((hm h hM).trans (by rw [if_pos e0]))
    · rw [if_neg e0] at hh
      cases c1 : q_ma a b with
      | false =>
        rw [c1] at hh
        exact q_both.no w' (-1) hh ((hm h hM).trans (by rw [if_neg e0, c1]; rfl))
      | true =>
        rw [c1, if_neg (by simp)] at hh
        cases c2 : q_tb n c with
        | false =>
          rw [c2] at hh
          exact q_both.no w' (-1) hh ((hm h hM).trans (by rw [if_neg e0, c1, c2]; rfl))
        | true =>
          rw [c2, if_neg (by simp)] at hh
          cases c3 : q_tb n d with
          | false =>
            rw [c3] at hh
            exact q_both.no w' (-1) hh ((hm h hM).trans (by rw [if_neg e0, c1, c2, c3]; rfl))
          | true =>
            rw [c3, if_neg (by simp), g_newO] at hh
            have n40 : n < 40 := by omega
            generalize hA : q_nw h (.inr (3, ([.int 0, .int 0, .int 0, .int 0] : List Value))) ([.int 0, .int 0, .int 0, .int 0] : List Value).length = A at hh
            have A1 : A.1 = h.1 + 1 := by rw [← hA]; rfl
            have AE : A.2.2 h.1 = .inr (3, [.int 0, .int 0, .int 0, .int 0]) := by rw [← hA]; exact nwE
            have AN : ∀ x, x < h.1 → A.2.2 x = h.2.2 x := fun x hx => by rw [← hA]; exact nwN (by omega)
            have y1 := c_newq (A := A) (by omega) AE a b c d
            generalize hC : q_wr A h.1 (.inr (3, [.int a, .int b, .int c, .int d])) = C at y1
            have C1 : C.1 = h.1 + 1 := by rw [← hC]; exact A1
            have CE : C.2.2 h.1 = .inr (3, [.int a, .int b, .int c, .int d]) := by rw [← hC]; exact wrE
            have CN : ∀ x, x < h.1 → C.2.2 x = h.2.2 x := fun x hx => by rw [← hC, wrN (by omega)]; exact AN x hx
            have Ck : C.2.2 (17 + 2 * k) = .inr (1, [.ref (18 + 2 * k), .int (nI n), .int ka]) := (CN _ (by omega)).trans k1
            have y2 : m_ast C (18 + 2 * k) (nI n) (some h.1) = some (q_wr C (18 + 2 * k) (.inl (6, 40, q_R (va_up f n (some h.1))))) := g_as (some h.1) (by omega) ((CN _ (by omega)).trans k2) (by decide) n40 (by decide) (show m_okq C (some h.1) 3 = true from g_o (by omega) CE)
            generalize hD : q_wr C (18 + 2 * k) (.inl (6, 40, q_R (va_up f n (some h.1)))) = D at y2
            have D1 : D.1 = h.1 + 1 := by rw [← hD]; exact C1
            have Dk : D.2.2 (17 + 2 * k) = .inr (1, [.ref (18 + 2 * k), .int (nI n), .int ka]) := by rw [← hD, wrN (by omega)]; exact Ck
            have y3 : m_pf D (17 + 2 * k) 1 1 (.int (nI (n + 1))) = some (q_wr D (17 + 2 * k) (.inr (1, [.ref (18 + 2 * k), .int (nI (n + 1)), .int ka]))) := g_p _ (by omega) Dk (show 1 < 3 by decide)
            generalize hQ : q_wr D (17 + 2 * k) (.inr (1, [.ref (18 + 2 * k), .int (nI (n + 1)), .int ka])) = Q at y3
            have Q1 : Q.1 = h.1 + 1 := by rw [← hQ]; exact D1
            have Qk : Q.2.2 (17 + 2 * k) = .inr (1, [.ref (18 + 2 * k), .int (nI (n + 1)), .int ka]) := by rw [← hQ]; exact wrE
            have fin : f_X9_question h 0 (nI k) a b c d = some (nI (n + 1), Q) := by
              rw [hh]
              simp only [Option.bind_some]
              rw [y1]
              simp only [Option.bind_some]
              rw [if_pos (show m_ob C (17 + 2 * k) 1 = true from g_o (by omega) Ck)]
              unfold f_X2_add f_X2_isFull
              rw [if_pos (show m_ob C (17 + 2 * k) 1 = true from g_o (by omega) Ck), show m_gi C (17 + 2 * k) 1 1 = some (nI n) from g_i (by omega) Ck rfl, show m_gr C (17 + 2 * k) 1 0 = some (some (18 + 2 * k)) from g_r (some (18 + 2 * k)) (by omega) Ck rfl]
              simp only [Option.bind_some]
              rw [if_pos (show nI n < 40 by rw [show (40 : Int32) = nI 40 from rfl, n_lt (by omega) (by omega)]; exact n40), y2]
              simp only [Option.bind_some, if_true]
              rw [show m_gi D (17 + 2 * k) 1 1 = some (nI n) from g_i (by omega) Dk rfl]
              simp only [Option.bind_some, nI_1]
              rw [y3]
              simp only [Option.bind_some]
              rw [show m_gi Q (17 + 2 * k) 1 1 = some (nI (n + 1)) from g_i (by omega) Qk rfl]
              rfl
            have ha : a = 60 ∨ a = 61 ∨ q_c a = true := by
              unfold q_ma at c1
              by_cases z : a = 60 ∨ a = 61
              · rcases z with z | z
                · exact Or.inl z
                · exact Or.inr (Or.inl z)
              · rw [if_neg z, Bool.and_eq_true] at c1
                exact Or.inr (Or.inr c1.1)
            have l1 : q_hf h Q 1 4 := by
              rw [← hQ, ← hD, ← hC]
              refine q_hf.wr (q_hf.wr (q_hf.wr ?_ (by omega)) (by omega)) (by omega)
              rw [← hA]
              exact q_hf.nw (n := 0) (y := 0) q_hf.rf n71
            have l2 := s_quest (h' := Q) (b := b) hV' hk n40 n2 ha (q_tb_tell c2) (q_tb_tell c3) Q1 Qk k2 (by rw [← hQ, wrN (by omega), ← hD]; exact wrE) (by rw [← hQ, wrN (by omega), ← hD, wrN (by omega)]; exact CE) (fun x x1 x2 x3 => by rw [← hQ, wrN x1, ← hD, wrN x2]; exact CN x x3)
            have hM1 := fM hM l1.1 l1.2.2.2
            have hj : 40 * k + n < 400 := by omega
            obtain ⟨g1, a1, a2, a3⟩ := wI hM1 (a := 67) (j := 40 * k + n) a (by decide) (by decide) hj
            obtain ⟨g2, b1, b2, b3⟩ := wI a2 (a := 68) (j := 40 * k + n) b (by decide) (by decide) hj
            obtain ⟨g3, d1, d2, d3⟩ := wI b2 (a := 69) (j := 40 * k + n) c (by decide) (by decide) hj
            obtain ⟨g4, e1, e2, e3⟩ := wI d2 (a := 70) (j := 40 * k + n) d (by decide) (by decide) hj
            obtain ⟨g5, f1, f2, f3⟩ := wI e2 (a := 66) (j := k) (nI (n + 1)) (by decide) (by decide) hk
            refine q_both.yes l2 (q_hf_le l1 (by omega) (by omega)) f2 ((((a3.tr b3).tr d3).tr e3).tr f3) (nI (n + 1)) fin ((hm Q hM1).trans ?_)
            rw [if_neg e0, c1, c2, c3, if_neg (by simp), if_neg (by simp), if_neg (by simp), a1]
            simp only [Option.bind_some]
            rw [rM26 a2]
            simp only [Option.bind_some]
            rw [b1]
            simp only [Option.bind_some]
            rw [rM27 b2]
            simp only [Option.bind_some]
            rw [d1]
            simp only [Option.bind_some]
            rw [rM28 d2]
            simp only [Option.bind_some]
            rw [e1]
            simp only [Option.bind_some]
            rw [rM24 e2]
            simp only [Option.bind_some]
            rw [rI e2 (a := 66) (by decide) (by decide) hk, uR (by decide), uR (by decide), uR (by decide), uR (by decide), n2]
            simp only [Option.bind_some, nI_1]
            rw [f1]
            rfl
end OPS
