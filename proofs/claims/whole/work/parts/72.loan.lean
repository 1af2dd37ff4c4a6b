/-! PURE PART 32: a loan opens -/
def n_sum (g : Nat → Nat) : Nat → Nat
  | 0 => 0
  | n + 1 => n_sum g n + g n
theorem n_sum_add (g g' : Nat → Nat) : ∀ n, n_sum (fun b => g b + g' b) n = n_sum g n + n_sum g' n
  | 0 => rfl
  | n + 1 => by
    show n_sum (fun b => g b + g' b) n + (g n + g' n) = n_sum g n + g n + (n_sum g' n + g' n)
    rw [n_sum_add g g' n]
    omega
theorem n_sum_one {a : Nat} : ∀ n, n_sum (fun b => if b = a then 1 else 0) n = if a < n then 1 else 0
  | 0 => by simp [n_sum]
  | n + 1 => by
    show n_sum (fun b => if b = a then 1 else 0) n + (if n = a then 1 else 0) = _
    rw [n_sum_one n]
    by_cases h1 : a < n
    · rw [if_pos h1, if_neg (show ¬ n = a by omega), if_pos (show a < n + 1 by omega)]
    · rw [if_neg h1]
      by_cases h2 : n = a
      · rw [if_pos h2, if_pos (show a < n + 1 by omega)]
      · rw [if_neg h2, if_neg (show ¬ a < n + 1 by omega)]
theorem n_sum_congr {g g' : Nat → Nat} : ∀ n, (∀ b, b < n → g b = g' b) → n_sum g n = n_sum g' n
  | 0, _ => rfl
  | n + 1, h => by
    show n_sum g n + g n = n_sum g' n + g' n
    rw [n_sum_congr n (fun b hb => h b (by omega)), h n (by omega)]
theorem n_sum_le {g : Nat → Nat} {a m : Nat} : ∀ n, (∀ b, b < n → g b ≤ m) → n_sum g n + (if a < n then m - g a else 0) ≤ m * n
  | 0, _ => by simp [n_sum]
  | n + 1, h => by
    have ih := n_sum_le (g := g) (a := a) (m := m) n (fun b hb => h b (by omega))
    have hn := h n (by omega)
    show n_sum g n + g n + _ ≤ _
    rw [Nat.mul_succ]
    by_cases h1 : a < n
    · rw [if_pos h1] at ih
      rw [if_pos (show a < n + 1 by omega)]
      omega
    · rw [if_neg h1] at ih
      by_cases h2 : a = n
      · subst h2
        rw [if_pos (show a < a + 1 by omega)]
        omega
      · rw [if_neg (show ¬ a < n + 1 by omega)]
        omega
section OPS
variable {h h' : mH} {I I' : Nat → Nat → Int32} {nS nB nO : Nat} {lo ak : Int32} {sp bx qu bl le : Nat → Nat} {own : Nat → Nat × Nat}
theorem lent_sum (hT : q_T I nS nB) : ∀ n, n ≤ nS → q_cnt (q_lent I) n = n_sum (fun b => q_cnt (fun s => I 57 s == nI b) n) 20
  | 0, _ => rfl
  | n + 1, hn => by
    have ih := lent_sum hT n (by omega)
    show q_cnt (q_lent I) n + (if q_lent I n = true then 1 else 0) = n_sum (fun b => q_cnt (fun s => I 57 s == nI b) n + (if (I 57 n == nI b) = true then 1 else 0)) 20
    rw [n_sum_add, ← ih]
    congr 1
    rcases hT.2.2.2.2.1 n (by omega) with e | ⟨b, d, t, fe, b1, -, -, -, e, -⟩
    · have e1 : q_lent I n = false := by unfold q_lent; rw [e]; rfl
      rw [e1, if_neg (by simp), n_sum_congr (g' := fun b => if b = 20 then 1 else 0) 20 (fun b hb => ?_), n_sum_one, if_neg (by omega)]
      rw [e, if_neg (by simp; exact fun z => q_nm1 (by omega) z.symm), if_neg (by omega)]
    · have e1 : q_lent I n = true := q_lentT.mpr (by rw [e]; exact q_nm1 (by omega))
      rw [e1, if_pos rfl, n_sum_congr (g' := fun b' => if b' = b then 1 else 0) 20 (fun b' hb' => ?_), n_sum_one, if_pos b1]
      rw [e]
      by_cases c : b' = b
      · subst c; simp
      · rw [if_neg c, if_neg]
        simp only [beq_iff_eq]
        rw [n_eq (by omega) (by omega)]
        omega
theorem nO_lt (hF : q_F h nS nB lo ak nO) (hL : q_Ln h I nS nO sp le) (hT : q_T I nS nB) {b : Nat} (hb : b < 20) (hh : q_hld I nS b ≤ 11) : nO < 240 := by
  have e1 := q_cntL hF hL (fun _ => true)
  rw [q_cnt_all nO (fun _ _ => rfl)] at e1
  simp only [Bool.and_true] at e1
  have e2 := lent_sum hT nS (Nat.le_refl _)
  have e3 := n_sum_le (g := fun b => q_cnt (fun s => I 57 s == nI b) nS) (a := b) (m := 12) 20 (fun b' hb' => hT.2.2.2.2.2.2.2.2.2.1 b' hb')
  rw [if_pos hb] at e3
  have e4 : q_cnt (fun s => I 57 s == nI b) nS ≤ 11 := hh
  have e5 : nO = q_cnt (fun s => q_lent I s) nS := e1
  have e6 : q_cnt (fun s => q_lent I s) nS = q_cnt (q_lent I) nS := rfl
  omega
theorem q_sv_or {N : Nat → Bool} {val : Nat → Int32} : ∀ n, q_sv N val n = -1 ∨ ∃ c, c < n ∧ N c = true ∧ q_sv N val n = val c
  | 0 => Or.inl rfl
  | n + 1 => by
    rw [q_sv_s]
    cases hN : N n with
    | true => exact Or.inr ⟨n, by omega, hN, by simp⟩
    | false =>
      rcases q_sv_or (N := N) (val := val) n with e | ⟨c, h1, h2, h3⟩
      · exact Or.inl (by simp [e])
      · exact Or.inr ⟨c, by omega, h2, by simp [h3]⟩
theorem q_an_rng (hT : q_T I nS nB) {k f : Nat} (hf : f < 5) : q_an I k f = -2 ∨ q_an I k f = -1 ∨ (0 ≤ (q_an I k f).toInt ∧ (q_an I k f).toInt ≤ (q_c49.getD f 0).toInt) := by
  unfold q_an q_say
  rcases q_fst_spec (E := fun c => if n_ne (n_P I f) k c = true ∧ q_sv (n_ne (n_P I f) k) (fun c => I 50 (5 * c + f)) c ≠ -1 ∧ q_sv (n_ne (n_P I f) k) (fun c => I 50 (5 * c + f)) c ≠ I 50 (5 * c + f) then some (-2 : Int32) else none) (d := q_sv (n_ne (n_P I f) k) (fun c => I 50 (5 * c + f)) 49) 49 0 with ⟨-, e⟩ | ⟨m, -, -, -, e⟩
  · rw [e]
    rcases q_sv_or (N := n_ne (n_P I f) k) (val := fun c => I 50 (5 * c + f)) 49 with z | ⟨c, h1, h2, h3⟩
    · exact Or.inr (Or.inl z)
    · rw [h3]
      exact Or.inr (Or.inr (hT.2.2.2.2.2.2.2.2.2.2 f hf c h1 (n_ne_P h2)))
  · left
    split at e
    · exact (Option.some.inj e).symm
    · cases e
theorem q_bf_iff {a b : Nat} : q_bf I a b ↔ (q_ld I a).toInt < (q_ld I b).toInt ∨ ((q_ld I a).toInt = (q_ld I b).toInt ∧ a < b) := by
  unfold q_bf
  rw [Int32.lt_iff_toInt_lt, Int32.toInt_inj]
/-- a specimen's loan and the register of loans have changed, no more -/
theorem v_loan (w : q_V h I nS nB lo ak nO sp bx qu own bl le) {s nO' : Nat} {lo' : Int32} {le' : Nat → Nat} (hs : s < nS) (hn : h'.1 = h.1) (lk : ∀ a, a ≠ sp s → ¬ (40 ≤ a ∧ a ≤ 43) → h'.2.2 a = h.2.2 a) (cs : h'.2.2 (sp s) = .inr (6, q_sc I' bx s)) (c40 : h'.2.2 40 = .inr (2, [.ref 41, .ref 42, .ref 43, .int (nI nO'), .int lo'])) (hnO : nO' ≤ 240) (hL' : q_Ln h' I' nS nO' sp le') (hI : ∀ a t, 51 ≤ a → a ≤ 60 → t ≠ s → I' a t = I a t) (hI2 : ∀ a, a < 57 ∨ 60 < a → a ≠ 65 → I' a = I a) (hT' : q_T I' nS nB) : q_V h' I' nS nB lo' ak nO' sp bx qu own bl le' := by
  obtain ⟨hF, hS, hN, hB, hH, hK, hR, hL, hT, hO⟩ := w
  have hn' : h.1 ≤ h'.1 := by omega
  have z1 := (hS s hs).1
  refine ⟨?_, fS1 hS hO hn' hs cs (fun t ht hne => lk _ (ne_ss hO ht hs hne) (by have := (hS t ht).1; omega)) hI, fN hN (fun a ha => lk a (by omega) (by omega)) (fun t _ => by rw [hI2 52 (by omega) (by omega)]), fB hB hn' (fun j hj => by have := (hB j hj).1; exact ⟨lk _ (ne_sb hO hs hj).symm (by omega), lk _ (ne_sp hO hs hj).symm (by omega)⟩) (hI2 61 (by omega) (by omega)) (hI2 62 (by omega) (by omega)) (fun t _ => by rw [hI2 54 (by omega) (by omega), hI2 55 (by omega) (by omega)]; exact ⟨rfl, rfl⟩), fHs hH (fun i hi => lk _ (by omega) (by omega)) (hI2 63 (by omega) (by omega)) (hI2 64 (by omega) (by omega)) (fun t _ => by rw [hI2 56 (by omega) (by omega), hI2 52 (by omega) (by omega)]; exact ⟨rfl, rfl⟩), fKs hK hn' (fun a a1 a2 => lk a (by omega) (by omega)) (fun k hk i hi => lk _ (ne_sq hO hs hk hi).symm (by have := ((hK k hk).2.2 i hi).1; omega)) (fun a a1 a2 => hI2 a (by omega) (by omega)), fRu hR (lk _ (by omega) (by omega)) (lk _ (by omega) (by omega)) (hI2 50 (by omega) (by omega)), hL', hT', fO hO (hI2 66 (by omega) (by omega))⟩
  obtain ⟨f1, f2, f3, f4, f5, f6, f7, f8, f9, f10⟩ := hF
  exact ⟨by omega, by rw [lk 0 (by omega) (by omega)]; exact f2, by rw [lk 1 (by omega) (by omega)]; exact f3, by rw [lk 37 (by omega) (by omega)]; exact f4, c40, by rw [lk 5 (by omega) (by omega)]; exact f6, by rw [lk 16 (by omega) (by omega)]; exact f7, f8, f9, hnO⟩
def q_l4 (I : Nat → Nat → Int32) (s : Nat) (a b c d : Int32) : Nat → Nat → Int32 := q_u (q_u (q_u (q_u I 57 s a) 58 s b) 59 s c) 60 s d
theorem l4R {s a : Nat} {x y z u : Int32} (ha : a < 57 ∨ 60 < a) : q_l4 I s x y z u a = I a := by unfold q_l4; rw [uR (by omega), uR (by omega), uR (by omega), uR (by omega)]
theorem l4N {s a t : Nat} {x y z u : Int32} (ht : t ≠ s) : q_l4 I s x y z u a t = I a t := by unfold q_l4; rw [uN ht, uN ht, uN ht, uN ht]
theorem l4_57 {s : Nat} {x y z u : Int32} : q_l4 I s x y z u 57 s = x := by unfold q_l4; rw [uR (by decide), uR (by decide), uR (by decide), uE]
theorem l4_58 {s : Nat} {x y z u : Int32} : q_l4 I s x y z u 58 s = y := by unfold q_l4; rw [uR (by decide), uR (by decide), uE]
theorem l4_59 {s : Nat} {x y z u : Int32} : q_l4 I s x y z u 59 s = z := by unfold q_l4; rw [uR (by decide), uE]
theorem l4_60 {s : Nat} {x y z u : Int32} : q_l4 I s x y z u 60 s = u := by unfold q_l4; exact uE
theorem l4_ats {s : Nat} {x y z u : Int32} : q_ats I (q_l4 I s x y z u) s := ⟨fun a t ht => l4N ht, fun a ha => l4R (by omega)⟩
theorem c_lendTo {s : Nat} (hs : sp s < h.1) (he : h.2.2 (sp s) = .inr (6, q_sc I bx s)) (x y z u : Int32) : f_X7_lendTo h (sp s) x y z u = some (q_wr h (sp s) (.inr (6, q_sc (q_l4 I s x y z u) bx s))) := by
  unfold f_X7_lendTo
  rw [← wr_self he]
  have hs' : sp s < h.1 := hs
  generalize h = B at hs'
  rw [g_pw _ hs' (show 7 < 11 by decide)]
  simp only [Option.bind_some]
  rw [g_pw _ hs' (show 8 < 11 by decide)]
  simp only [Option.bind_some]
  rw [g_pw _ hs' (show 9 < 11 by decide)]
  simp only [Option.bind_some]
  rw [g_pw _ hs' (show 10 < 11 by decide)]
  simp only [Option.bind_some]
  rw [wr_wr]
  unfold q_sc q_br q_sr
  rw [l4_57, l4_58, l4_59, l4_60, l4R (by decide), l4R (by decide), l4R (by decide), l4R (by decide), l4R (by decide), l4R (by decide)]
  rfl
theorem hld_in {s b : Nat} {y z u : Int32} (hs : s < nS) (e : I 57 s = -1) (b' : Nat) (hb : b < 20) (hb' : b' < 20) : q_hld (q_l4 I s (nI b) y z u) nS b' = q_hld I nS b' + (if b' = b then 1 else 0) := by
  unfold q_hld
  have := q_cnt_upd (P := fun t => I 57 t == nI b') (P' := fun t => q_l4 I s (nI b) y z u 57 t == nI b') (s := s) nS (fun t _ hn => by rw [l4N hn])
  rw [l4_57, e, if_neg (c := s < nS ∧ ((-1 : Int32) == nI b') = true) (by simp; exact fun _ z => q_nm1 (by omega) z.symm), Nat.add_zero] at this
  rw [← this]
  congr 1
  by_cases c : b' = b
  · subst c; simp [hs]
  · have c2 : ¬ nI b = nI b' := fun z => c ((n_eq (by omega) (by omega)).mp z).symm
    simp [c, c2]
end OPS
