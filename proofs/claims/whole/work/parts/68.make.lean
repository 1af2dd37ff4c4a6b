/-! PURE PART 28: sorting in; make -/
theorem m_ins {step : Int32 × mH → Option ((Int32 × mH) ⊕ (Int32 × mH))} {H : (Nat → Option Nat) → mH} {f : Nat → Option Nat} {L : Nat → Bool} {n : Nat}
    (hs : ∀ i F, i ≤ n → (∀ x, x < i → F x = f x) → step (nI i, H F) = if i = 0 then some (.inr (nI i, H F)) else if L (i - 1) = true then some (.inl (nI (i - 1), H (va_up F i (f (i - 1))))) else some (.inr (nI i, H F))) :
    ∀ i F fuel, i ≤ n → i < fuel → (∀ x, x < i → F x = f x) → (∀ x, i < x → x ≤ n → F x = f (x - 1)) → ∃ p F', m_loop step fuel (nI i, H F) = some (nI p, H F') ∧ p ≤ i ∧ (∀ x, x < p → F' x = f x) ∧ (∀ x, p < x → x ≤ n → F' x = f (x - 1)) ∧ (∀ x, p ≤ x → x < i → L x = true) ∧ (p = 0 ∨ L (p - 1) = false)
  | 0, F, fuel + 1, hi, _, h1, h2 => by
    refine ⟨0, F, ?_, by omega, h1, h2, fun x a b => by omega, Or.inl rfl⟩
    unfold m_loop
    rw [hs 0 F hi h1, if_pos rfl]
  | i + 1, F, fuel + 1, hi, hf, h1, h2 => by
    unfold m_loop
    rw [hs (i + 1) F hi h1, if_neg (by omega), Nat.add_sub_cancel]
    cases hL : L i with
    | false =>
      rw [if_neg (by simp)]
      exact ⟨i + 1, F, rfl, by omega, h1, h2, fun x a b => by omega, Or.inr hL⟩
    | true =>
      rw [if_pos rfl]
      obtain ⟨p, F', e1, e2, e3, e4, e5, e6⟩ := m_ins hs i (va_up F (i + 1) (f i)) fuel (by omega) (by omega) (fun x hx => by rw [upN (by omega)]; exact h1 x (by omega)) (fun x hx hx2 => by
        by_cases e : x = i + 1
        · subst e; rw [upE]; rfl
        · rw [upN e]; exact h2 x (by omega) hx2)
      refine ⟨p, F', e1, by omega, e3, e4, fun x a b => ?_, e6⟩
      by_cases e : x = i
      · subst e; exact hL
      · exact e5 x a (by omega)
theorem wr_self {h : mH} {a : Nat} {e : va_E} (he : h.2.2 a = e) : q_wr h a e = h := by
  unfold q_wr
  have : va_up h.2.2 a e = h.2.2 := by
    funext b
    unfold va_up
    by_cases c : b = a
    · rw [if_pos c, c, he]
    · rw [if_neg c]
  rw [this]
theorem wr_wr {h : mH} {a : Nat} {e e' : va_E} : q_wr (q_wr h a e) a e' = q_wr h a e' := by
  unfold q_wr
  have : va_up (va_up h.2.2 a e) a e' = va_up h.2.2 a e' := by
    funext b
    unfold va_up
    by_cases c : b = a
    · rw [if_pos c, if_pos c]
    · rw [if_neg c, if_neg c, if_neg c]
  simp only [this]
theorem q_fst_last {ρ : Type} {E : Nat → Option ρ} {d : ρ} : ∀ n i, E (i + n) = none → q_fst E d (n + 1) i = q_fst E d n i
  | 0, i, he => by
    unfold q_fst
    rw [Nat.add_zero] at he
    rw [he]
    rfl
  | n + 1, i, he => by
    show (match E i with | some r => r | none => q_fst E d (n + 1) (i + 1)) = (match E i with | some r => r | none => q_fst E d n (i + 1))
    rw [q_fst_last n (i + 1) (by rw [show i + 1 + n = i + (n + 1) by omega]; exact he)]
def q_mk (I : Nat → Nat → Int32) (n : Nat) (k l g : Int32) : Nat → Nat → Int32 := fun a j => if j = n ∧ 51 ≤ a ∧ a ≤ 60 then (if a = 51 then k else if a = 52 then l else if a = 53 then g else -1) else I a j
theorem q_mk_u {I : Nat → Nat → Int32} {n : Nat} {k l g : Int32} : q_u (q_u (q_u (q_u (q_u (q_u (q_u (q_u (q_u (q_u I 51 n k) 52 n l) 53 n g) 54 n (-1)) 55 n (-1)) 56 n (-1)) 57 n (-1)) 58 n (-1)) 59 n (-1)) 60 n (-1) = q_mk I n k l g := by
  funext a j
  unfold q_mk
  by_cases hj : j = n
  · subst hj
    by_cases ha : 51 ≤ a ∧ a ≤ 60
    · rcases (show a = 51 ∨ a = 52 ∨ a = 53 ∨ a = 54 ∨ a = 55 ∨ a = 56 ∨ a = 57 ∨ a = 58 ∨ a = 59 ∨ a = 60 by omega) with rfl | rfl | rfl | rfl | rfl | rfl | rfl | rfl | rfl | rfl <;> simp [q_u]
    · rw [if_neg (fun z => ha z.2)]
      rw [uR (by omega), uR (by omega), uR (by omega), uR (by omega), uR (by omega), uR (by omega), uR (by omega), uR (by omega), uR (by omega), uR (by omega)]
  · rw [if_neg (fun z => hj z.1), uN hj, uN hj, uN hj, uN hj, uN hj, uN hj, uN hj, uN hj, uN hj, uN hj]
section OPS
variable {h h' : mH} {I I' : Nat → Nat → Int32} {nS nB nO : Nat} {lo ak : Int32} {sp bx qu bl le : Nat → Nat} {own : Nat → Nat × Nat}
theorem mkN {k l g : Int32} {n a j : Nat} (hj : j ≠ n) : q_mk I n k l g a j = I a j := by unfold q_mk; rw [if_neg (fun z => hj z.1)]
theorem mkR {k l g : Int32} {n a : Nat} (ha : a < 51 ∨ 60 < a) : q_mk I n k l g a = I a := by funext j; unfold q_mk; rw [if_neg (by omega)]
theorem s_make (w : q_V h I nS nB lo ak nO sp bx qu own bl le) {k p : Nat} {l g : Int32} {F : Nat → Option Nat} (hk : k < 24) (hl : 0 ≤ l.toInt ∧ l.toInt ≤ 100000) (hb : nS < 300) (h1 : h'.1 = h.1 + 1) (c1 : h'.2.2 1 = .inr (7, [.ref 2, .ref 3, .int (nI (nS + 1))])) (c2 : ∃ f, h.2.2 2 = .inl (2, 300, q_R f) ∧ h'.2.2 2 = .inl (2, 300, q_R (va_up f nS (some h.1)))) (c3 : h'.2.2 3 = .inl (2, 300, q_R F)) (hp : p ≤ nS) (F1 : ∀ x, x < p → F x = some (sp (bl x))) (F2 : F p = some h.1) (F3 : ∀ x, p < x → x ≤ nS → F x = some (sp (bl (x - 1)))) (L1 : ∀ x, p ≤ x → x < nS → ¬ I 52 (bl x) ≤ l) (L2 : p = 0 ∨ I 52 (bl (p - 1)) ≤ l) (cs : h'.2.2 h.1 = .inr (6, [.int (nI nS), .int l, .int g, .int (nI k), .null, .int (-1), .null, .int (-1), .int (-1), .int (-1), .int (-1)])) (lk : ∀ a, a ≠ 1 → a ≠ 2 → a ≠ 3 → a < h.1 → h'.2.2 a = h.2.2 a) : q_V h' (q_mk I nS (nI k) l g) (nS + 1) nB lo ak nO (va_up sp nS h.1) bx qu (va_up own h.1 (0, nS)) (fun x => if x < p then bl x else if x = p then nS else bl (x - 1)) le := by
  obtain ⟨hF, hS, hN, hB, hH, hK, hR, hL, hT, hO⟩ := w
  have hn' : h.1 ≤ h'.1 := by omega
  have n71 := hF.1
  generalize hI' : q_mk I nS (nI k) l g = J
  have J1 : ∀ a j, j ≠ nS → J a j = I a j := fun a j hj => by rw [← hI']; exact mkN hj
  have J2 : ∀ a, a < 51 ∨ 60 < a → J a = I a := fun a ha => by rw [← hI']; exact mkR ha
  have J51 : J 51 nS = nI k := by rw [← hI']; unfold q_mk; simp
  have J52 : J 52 nS = l := by rw [← hI']; unfold q_mk; simp
  have J53 : J 53 nS = g := by rw [← hI']; unfold q_mk; simp
  have J54 : J 54 nS = -1 := by rw [← hI']; unfold q_mk; simp
  have J55 : J 55 nS = -1 := by rw [← hI']; unfold q_mk; simp
  have J56 : J 56 nS = -1 := by rw [← hI']; unfold q_mk; simp
  have J57 : J 57 nS = -1 := by rw [← hI']; unfold q_mk; simp
  have J58 : J 58 nS = -1 := by rw [← hI']; unfold q_mk; simp
  have J59 : J 59 nS = -1 := by rw [← hI']; unfold q_mk; simp
  have J60 : J 60 nS = -1 := by rw [← hI']; unfold q_mk; simp
  have hS1 : ∀ s, s < nS → sp s < h.1 := fun s hs => (hS s hs).2.1
  have hB1 : ∀ j, j < nB → bx j + 1 < h.1 := fun j hj => (hB j hj).2.1
  have hK1 : ∀ k, k < 10 → ∀ i, i < q_n (I 66 k) → qu (40 * k + i) < h.1 := fun k hk i hi => ((hK k hk).2.2 i hi).2.1
  have hwho : ∀ j p, j < 100 → q_who J (nS + 1) j p = q_who I nS j p := fun j p hj => by
    have e : q_who J (nS + 1) j p = q_who J nS j p := by
      unfold q_who
      apply q_fst_last
      rw [if_neg]
      rw [Nat.zero_add, J54]
      exact fun z => q_nm1 (by omega) z.1.symm
    rw [e]
    exact q_who_congr (fun s hs => ⟨J1 54 s (by omega), J1 55 s (by omega)⟩)
  have hcn : ∀ a x, J a nS ≠ x → q_cnt (fun s => J a s == x) (nS + 1) = q_cnt (fun s => I a s == x) nS := fun a x hx => by
    show q_cnt (fun s => J a s == x) nS + (if (J a nS == x) = true then 1 else 0) = _
    rw [if_neg (by simpa using hx), Nat.add_zero]
    exact q_cnt_congr nS (fun s hs => by rw [J1 a s (by omega)])
  refine ⟨?_, ?_, ?_, ?_, ?_, fKs hK hn' (fun a a1 a2 => lk a (by omega) (by omega) (by omega) (by omega)) (fun k hk i hi => by have := ((hK k hk).2.2 i hi).1; exact lk _ (by omega) (by omega) (by omega) (hK1 k hk i hi)) (fun a a1 a2 => J2 a (by omega)), fRu hR (lk _ (by decide) (by decide) (by decide) (by omega)) (lk _ (by decide) (by decide) (by decide) (by omega)) (J2 50 (by omega)), ?_, ?_, ?_⟩
  · obtain ⟨f1, f2, f3, f4, f5, f6, f7, f8, f9, f10⟩ := hF
    exact ⟨by omega, by rw [lk 0 (by decide) (by decide) (by decide) (by omega)]; exact f2, c1, by rw [lk 37 (by decide) (by decide) (by decide) (by omega)]; exact f4, by rw [lk 40 (by decide) (by decide) (by decide) (by omega)]; exact f5, by rw [lk 5 (by decide) (by decide) (by decide) (by omega)]; exact f6, by rw [lk 16 (by decide) (by decide) (by decide) (by omega)]; exact f7, by omega, f9, f10⟩
  · intro s hs
    by_cases e : s = nS
    · subst e
      rw [upE]
      refine ⟨n71, by omega, ?_⟩
      rw [cs]
      unfold q_sc q_br q_sr
      rw [J51, J52, J53, J54, J55, J56, J57, J58, J59, J60]
      rfl
    · obtain ⟨a1, a2, a3⟩ := hS s (by omega)
      rw [upN e]
      refine ⟨a1, by omega, ?_⟩
      rw [lk _ (by omega) (by omega) (by omega) a2, a3]
      unfold q_sc q_br q_sr
      rw [J1 51 s e, J1 52 s e, J1 53 s e, J1 54 s e, J1 55 s e, J1 56 s e, J1 57 s e, J1 58 s e, J1 59 s e, J1 60 s e]
  · obtain ⟨⟨f, a1, a2⟩, b1, b2, b3, b4⟩ := hN
    obtain ⟨f', d1, d2⟩ := c2
    rw [d1] at a1
    cases a1
    refine ⟨⟨_, d2, fun s hs => ?_⟩, ⟨F, c3, fun x hx => ?_⟩, by rw [lk 4 (by decide) (by decide) (by decide) (by omega)]; exact b2, fun x hx => ?_, fun x y hxy hy => ?_⟩
    · by_cases e : s = nS
      · subst e; rw [upE, upE]
      · rw [upN e, upN e]; exact a2 s (by omega)
    · dsimp only
      by_cases c1 : x < p
      · have := b3 x (by omega)
        rw [if_pos c1, upN (by omega)]
        exact F1 x c1
      · rw [if_neg c1]
        by_cases c2 : x = p
        · rw [if_pos c2, upE, c2]; exact F2
        · have := b3 (x - 1) (by omega)
          rw [if_neg c2, upN (by omega)]
          exact F3 x (by omega) (by omega)
    · dsimp only
      by_cases c1 : x < p
      · have := b3 x (by omega)
        rw [if_pos c1]; omega
      · rw [if_neg c1]
        by_cases c2 : x = p
        · rw [if_pos c2]; omega
        · have := b3 (x - 1) (by omega)
          rw [if_neg c2]; omega
    · have mono : ∀ x y, x < y → y < nS → (I 52 (bl x)).toInt ≤ (I 52 (bl y)).toInt := fun x y hxy hy => by
        rcases b4 x y hxy hy with q | ⟨q, -⟩
        · rw [Int32.lt_iff_toInt_lt] at q; omega
        · rw [q]; omega
      have low : ∀ x, x < p → (I 52 (bl x)).toInt ≤ l.toInt := fun x hx => by
        rcases L2 with q | q
        · omega
        · rw [Int32.le_iff_toInt_le] at q
          by_cases e : x = p - 1
          · subst e; exact q
          · have := mono x (p - 1) (by omega) (by omega)
            omega
      have high : ∀ x, p ≤ x → x < nS → l.toInt < (I 52 (bl x)).toInt := fun x hx hx2 => by
        have := L1 x hx hx2
        rw [Int32.le_iff_toInt_le] at this
        omega
      have old : ∀ x y, x < y → y < nS → q_lt J (bl x) (bl y) := fun x y hxy hy => by
        have := b4 x y hxy hy
        unfold q_lt at *
        have z1 := b3 x (by omega)
        have z2 := b3 y hy
        rw [J1 52 _ (by omega), J1 52 _ (by omega)]
        exact this
      dsimp only
      by_cases c1 : x < p
      · rw [if_pos c1]
        have bx' := b3 x (by omega)
        by_cases c2 : y < p
        · rw [if_pos c2]; exact old x y hxy (by omega)
        · rw [if_neg c2]
          by_cases c3 : y = p
          · rw [if_pos c3]
            unfold q_lt
            rw [J1 52 _ (by omega), J52, Int32.lt_iff_toInt_lt]
            have := low x c1
            by_cases c4 : (I 52 (bl x)).toInt < l.toInt
            · exact Or.inl c4
            · exact Or.inr ⟨Int32.toInt_inj.mp (by omega), by omega⟩
          · rw [if_neg c3]; exact old x (y - 1) (by omega) (by omega)
      · rw [if_neg c1, if_neg (show ¬ y < p by omega)]
        by_cases c2 : x = p
        · rw [if_pos c2, if_neg (show ¬ y = p by omega)]
          have bx' := b3 (y - 1) (by omega)
          unfold q_lt
          rw [J52, J1 52 _ (by omega), Int32.lt_iff_toInt_lt]
          exact Or.inl (high (y - 1) (by omega) (by omega))
        · rw [if_neg c2, if_neg (show ¬ y = p by omega)]
          exact old (x - 1) (y - 1) (by omega) (by omega)
  · intro j hj
    obtain ⟨b1, b2, b3, f, b4, b5⟩ := hB j hj
    have n4 := hF.2.2.2.2.2.2.2.2.1
    rw [J2 61 (by omega), J2 62 (by omega)]
    refine ⟨b1, by omega, by rw [lk _ (by omega) (by omega) (by omega) (by omega)]; exact b3, f, by rw [lk _ (by omega) (by omega) (by omega) (by omega)]; exact b4, fun p hp => ?_⟩
    rw [b5 p hp, hwho j p (by omega)]
    cases hw : q_who I nS j p with
    | none => rfl
    | some s =>
      have := (q_who_some hw).1
      rw [Option.map_some, Option.map_some, upN (by omega)]
  · intro i hi
    have e1 : q_std J (nS + 1) i = q_std I nS i := hcn 56 (nI i) (by rw [J56]; exact fun z => q_nm1 (by omega) z.symm)
    have e2 : q_fil J (nS + 1) i = q_fil I nS i := by
      show q_sum (fun s => if J 56 s = nI i then J 52 s else 0) nS + (if J 56 nS = nI i then J 52 nS else 0) = _
      rw [if_neg (by rw [J56]; exact fun z => q_nm1 (by omega) z.symm), Int32.add_zero]
      exact q_sum_congr nS (fun s hs => by rw [J1 56 s (by omega), J1 52 s (by omega)])
    rw [e1, e2, J2 63 (by omega), J2 64 (by omega), lk _ (by omega) (by omega) (by omega) (by omega)]
    exact hH i hi
  · obtain ⟨⟨f, a1, a2⟩, ⟨hd, b1, b2⟩, b3, b4, b5, b6⟩ := hL
    refine ⟨⟨f, by rw [lk 41 (by decide) (by decide) (by decide) (by omega)]; exact a1, fun i hi => ?_⟩, ⟨hd, by rw [lk 42 (by decide) (by decide) (by decide) (by omega)]; exact b1, fun b hb => ?_⟩, by rw [lk 43 (by decide) (by decide) (by decide) (by omega), J2 65 (by omega)]; exact b3, fun i hi => ?_, fun i j hij hj => ?_, fun s hs hn => ?_⟩
    · have := (b4 i hi).1
      rw [upN (by omega)]
      exact a2 i hi
    · rw [b2 b hb]
      exact congrArg nI (hcn 57 (nI b) (by rw [J57]; exact fun z => q_nm1 (by omega) z.symm)).symm
    · obtain ⟨z1, z2⟩ := b4 i hi
      exact ⟨by omega, by rw [J1 57 _ (by omega)]; exact z2⟩
    · have := b5 i j hij hj
      have z1 := (b4 i (by omega)).1
      have z2 := (b4 j hj).1
      unfold q_bf q_ld at *
      rw [J1 58 _ (by omega), J1 59 _ (by omega), J1 58 _ (by omega), J1 59 _ (by omega)]
      exact this
    · have : s ≠ nS := fun e => by rw [e, J57] at hn; exact hn rfl
      rw [J1 57 s this] at hn
      exact b6 s (by omega) hn
  · obtain ⟨t1, t2, t3, t4, t5, t6, t7, t8, t9, t10, t11⟩ := hT
    unfold q_T n_P
    rw [J2 61 (by omega), J2 62 (by omega), J2 63 (by omega), J2 66 (by omega), J2 67 (by omega), J2 69 (by omega), J2 70 (by omega), J2 50 (by omega)]
    refine ⟨fun s hs => ?_, fun s hs => ?_, fun s hs => ?_, fun s hs => ?_, fun s hs => ?_, t6, t7, t8, fun s s' hs hs' n1 e1 e2 => ?_, fun b hb => ?_, t11⟩
    · by_cases e : s = nS
      · subst e; exact ⟨k, hk, J51⟩
      · rw [J1 51 s e]; exact t1 s (by omega)
    · by_cases e : s = nS
      · subst e; rw [J52]; exact hl
      · rw [J1 52 s e]; exact t2 s (by omega)
    · by_cases e : s = nS
      · subst e; exact Or.inl ⟨J54, J55⟩
      · rw [J1 54 s e, J1 55 s e]; exact t3 s (by omega)
    · by_cases e : s = nS
      · subst e; exact Or.inl J56
      · rw [J1 56 s e]; exact t4 s (by omega)
    · by_cases e : s = nS
      · subst e; exact Or.inl J57
      · rw [J1 57 s e, J1 58 s e, J1 59 s e, J1 60 s e]; exact t5 s (by omega)
    · have q1 : s ≠ nS := fun e => by rw [e, J54] at n1; exact n1 rfl
      have q2 : s' ≠ nS := fun e => by rw [e1, e, J54] at n1; exact n1 rfl
      rw [J1 54 s q1] at n1
      rw [J1 54 s q1, J1 54 s' q2] at e1
      rw [J1 55 s q1, J1 55 s' q2] at e2
      exact t9 s s' (by omega) (by omega) n1 e1 e2
    · have := t10 b hb
      unfold q_hld at *
      rw [hcn 57 (nI b) (by rw [J57]; exact fun z => q_nm1 (by omega) z.symm)]
      exact this
  · refine ⟨fun s hs => ?_, fun j hj => ?_, fun k hk i hi => ?_⟩
    · by_cases e : s = nS
      · subst e; rw [upE, upE]
      · have := hS1 s (by omega)
        rw [upN e, upN (by omega)]
        exact hO.1 s (by omega)
    · have := hB1 j hj
      rw [upN (by omega), upN (by omega)]
      exact hO.2.1 j hj
    · rw [J2 66 (by omega)] at hi
      have := hK1 k hk i hi
      rw [upN (by omega)]
      exact hO.2.2 k hk i hi
end OPS
