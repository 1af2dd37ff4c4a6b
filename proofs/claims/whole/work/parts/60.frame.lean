/-! PURE PART 20: a written cell, and what stays -/
def q_wr (h : mH) (a : Nat) (e : va_E) : mH := (h.1, h.2.1, va_up h.2.2 a e)
section WR
variable {h h' : mH} {a b : Nat} {e : va_E}
theorem wr1 : (q_wr h a e).1 = h.1 := rfl
theorem wr2 : (q_wr h a e).2.1 = h.2.1 := rfl
theorem wrE : (q_wr h a e).2.2 a = e := by unfold q_wr; simp [va_up]
theorem wrN (hn : b ≠ a) : (q_wr h a e).2.2 b = h.2.2 b := by unfold q_wr; simp [va_up, hn]
end WR
section FRM
variable {h h' : mH} {I I' : Nat → Nat → Int32} {nS nB nO : Nat} {lo ak : Int32} {sp bx qu bl le : Nat → Nat} {own : Nat → Nat × Nat}
def q_V (h : mH) (I : Nat → Nat → Int32) (nS nB : Nat) (lo ak : Int32) (nO : Nat) (sp bx qu : Nat → Nat) (own : Nat → Nat × Nat) (bl le : Nat → Nat) : Prop :=
  q_F h nS nB lo ak nO ∧ q_S h I nS sp bx ∧ q_N h I nS nB sp bx bl ∧ q_B h I nS nB sp bx ∧ q_Hs h I nS ∧ q_Ks h I qu ∧ q_Ru h I ∧ q_Ln h I nS nO sp le ∧ q_T I nS nB ∧ q_O own nS nB sp bx qu I
theorem ne_ss (hO : q_O own nS nB sp bx qu I) {s t : Nat} (hs : s < nS) (ht : t < nS) (hn : s ≠ t) : sp s ≠ sp t := by
  intro e
  have := congrArg own e
  rw [hO.1 s hs, hO.1 t ht] at this
  exact hn (Prod.mk.inj this).2
theorem ne_sb (hO : q_O own nS nB sp bx qu I) {s j : Nat} (hs : s < nS) (hj : j < nB) : sp s ≠ bx j := by
  intro e
  have := congrArg own e
  rw [hO.1 s hs, (hO.2.1 j hj).1] at this
  have := (Prod.mk.inj this).1
  omega
theorem ne_sp (hO : q_O own nS nB sp bx qu I) {s j : Nat} (hs : s < nS) (hj : j < nB) : sp s ≠ bx j + 1 := by
  intro e
  have := congrArg own e
  rw [hO.1 s hs, (hO.2.1 j hj).2] at this
  have := (Prod.mk.inj this).1
  omega
theorem ne_sq (hO : q_O own nS nB sp bx qu I) {s k i : Nat} (hs : s < nS) (hk : k < 10) (hi : i < q_n (I 66 k)) : sp s ≠ qu (40 * k + i) := by
  intro e
  have := congrArg own e
  rw [hO.1 s hs, hO.2.2 k hk i hi] at this
  have := (Prod.mk.inj this).1
  omega
theorem ne_bp (hO : q_O own nS nB sp bx qu I) {i j : Nat} (hi : i < nB) (hj : j < nB) : bx i ≠ bx j + 1 := by
  intro e
  have := congrArg own e
  rw [(hO.2.1 i hi).1, (hO.2.1 j hj).2] at this
  have := (Prod.mk.inj this).1
  omega
theorem ne_pp (hO : q_O own nS nB sp bx qu I) {i j : Nat} (hi : i < nB) (hj : j < nB) (hn : i ≠ j) : bx i + 1 ≠ bx j + 1 := by
  intro e
  have := congrArg own e
  rw [(hO.2.1 i hi).2, (hO.2.1 j hj).2] at this
  exact hn (Prod.mk.inj this).2
theorem ne_pq (hO : q_O own nS nB sp bx qu I) {j k i : Nat} (hj : j < nB) (hk : k < 10) (hi : i < q_n (I 66 k)) : bx j + 1 ≠ qu (40 * k + i) := by
  intro e
  have := congrArg own e
  rw [(hO.2.1 j hj).2, hO.2.2 k hk i hi] at this
  have := (Prod.mk.inj this).1
  omega
theorem fM (hM : q_M h I nS nB lo ak) (hn : h.1 ≤ h'.1) (hf : ∀ a, 44 ≤ a → a ≤ 70 → h'.2.2 a = h.2.2 a) : q_M h' I nS nB lo ak :=
  ⟨by have := hM.1; omega, by rw [hf 44 (by omega) (by omega)]; exact hM.2.1, fun a h1 h2 => by rw [hf a (by omega) h2]; exact hM.2.2.1 a h1 h2, hM.2.2.2⟩
theorem fF (hF : q_F h nS nB lo ak nO) (hn : h.1 ≤ h'.1) (hf : ∀ a, a = 0 ∨ a = 1 ∨ a = 5 ∨ a = 16 ∨ a = 37 ∨ a = 40 → h'.2.2 a = h.2.2 a) : q_F h' nS nB lo ak nO := by
  obtain ⟨f1, f2, f3, f4, f5, f6, f7, f8⟩ := hF
  refine ⟨by omega, ?_, ?_, ?_, ?_, ?_, ?_, f8⟩
  · rw [hf 0 (by simp)]; exact f2
  · rw [hf 1 (by simp)]; exact f3
  · rw [hf 37 (by simp)]; exact f4
  · rw [hf 40 (by simp)]; exact f5
  · rw [hf 5 (by simp)]; exact f6
  · rw [hf 16 (by simp)]; exact f7
theorem fS (hS : q_S h I nS sp bx) (hn : h.1 ≤ h'.1) (hf : ∀ s, s < nS → h'.2.2 (sp s) = h.2.2 (sp s)) (hI : ∀ s, s < nS → q_sc I' bx s = q_sc I bx s) : q_S h' I' nS sp bx := by
  intro s hs
  obtain ⟨a1, a2, a3⟩ := hS s hs
  exact ⟨a1, by omega, by rw [hf s hs, hI s hs]; exact a3⟩
/-- one specimen's cell has changed -/
theorem fS1 (hS : q_S h I nS sp bx) (hO : q_O own nS nB sp bx qu I) (hn : h.1 ≤ h'.1) {s : Nat} (hs : s < nS) (h1 : h'.2.2 (sp s) = .inr (6, q_sc I' bx s)) (hf : ∀ t, t < nS → t ≠ s → h'.2.2 (sp t) = h.2.2 (sp t)) (hI : ∀ a t, 51 ≤ a → a ≤ 60 → t ≠ s → I' a t = I a t) : q_S h' I' nS sp bx := by
  intro t ht
  obtain ⟨a1, a2, a3⟩ := hS t ht
  refine ⟨a1, by omega, ?_⟩
  by_cases e : t = s
  · subst e; exact h1
  · rw [hf t ht e, a3]
    unfold q_sc q_br q_sr
    rw [hI 51 t (by omega) (by omega) e, hI 52 t (by omega) (by omega) e, hI 53 t (by omega) (by omega) e, hI 54 t (by omega) (by omega) e, hI 55 t (by omega) (by omega) e, hI 56 t (by omega) (by omega) e, hI 57 t (by omega) (by omega) e, hI 58 t (by omega) (by omega) e, hI 59 t (by omega) (by omega) e, hI 60 t (by omega) (by omega) e]
theorem fN (hN : q_N h I nS nB sp bx bl) (hf : ∀ a, a = 2 ∨ a = 3 ∨ a = 4 → h'.2.2 a = h.2.2 a) (hI : ∀ s, s < nS → I' 52 s = I 52 s) : q_N h' I' nS nB sp bx bl := by
  obtain ⟨a1, a2, a3, a4, a5⟩ := hN
  refine ⟨by rw [hf 2 (by simp)]; exact a1, by rw [hf 3 (by simp)]; exact a2, by rw [hf 4 (by simp)]; exact a3, a4, fun i j hij hj => ?_⟩
  have := a5 i j hij hj
  unfold q_lt at *
  rw [hI _ (a4 i (by omega)), hI _ (a4 j hj)]
  exact this
theorem q_who_congr {j p : Nat} (hI : ∀ s, s < nS → I' 54 s = I 54 s ∧ I' 55 s = I 55 s) : q_who I' nS j p = q_who I nS j p := by
  unfold q_who
  apply q_fst_congr
  intro s _ hs
  rw [(hI s (by omega)).1, (hI s (by omega)).2]
theorem fB (hB : q_B h I nS nB sp bx) (hn : h.1 ≤ h'.1) (hf : ∀ j, j < nB → h'.2.2 (bx j) = h.2.2 (bx j) ∧ h'.2.2 (bx j + 1) = h.2.2 (bx j + 1)) (h61 : I' 61 = I 61) (h62 : I' 62 = I 62) (hI : ∀ s, s < nS → I' 54 s = I 54 s ∧ I' 55 s = I 55 s) : q_B h' I' nS nB sp bx := by
  intro j hj
  obtain ⟨b1, b2, b3, f, b4, b5⟩ := hB j hj
  refine ⟨b1, by omega, by rw [(hf j hj).1, h61]; exact b3, f, by rw [(hf j hj).2, h62]; exact b4, fun p hp => ?_⟩
  rw [h62] at hp
  rw [b5 p hp, q_who_congr hI]
theorem fHs (hH : q_Hs h I nS) (hf : ∀ i, i < 10 → h'.2.2 (6 + i) = h.2.2 (6 + i)) (h63 : I' 63 = I 63) (h64 : I' 64 = I 64) (hI : ∀ s, s < nS → I' 56 s = I 56 s ∧ I' 52 s = I 52 s) : q_Hs h' I' nS := by
  intro i hi
  have e1 : q_std I' nS i = q_std I nS i := q_cnt_congr nS (fun s hs => by rw [(hI s hs).1])
  have e2 : q_fil I' nS i = q_fil I nS i := q_sum_congr nS (fun s hs => by rw [(hI s hs).1, (hI s hs).2])
  rw [hf i hi, hH i hi, h63, h64, e1, e2]
theorem fKs (hK : q_Ks h I qu) (hn : h.1 ≤ h'.1) (hf : ∀ a, 17 ≤ a → a ≤ 36 → h'.2.2 a = h.2.2 a) (hq : ∀ k, k < 10 → ∀ i, i < q_n (I 66 k) → h'.2.2 (qu (40 * k + i)) = h.2.2 (qu (40 * k + i))) (hI : ∀ a, 66 ≤ a → a ≤ 70 → I' a = I a) : q_Ks h' I' qu := by
  intro k hk
  obtain ⟨k1, k2, k3⟩ := hK k hk
  rw [hI 66 (by omega) (by omega)]
  refine ⟨by rw [hf _ (by omega) (by omega)]; exact k1, by rw [hf _ (by omega) (by omega)]; exact k2, fun i hi => ?_⟩
  obtain ⟨c1, c2, c3⟩ := k3 i hi
  refine ⟨c1, by omega, ?_⟩
  rw [hq k hk i hi, c3]
  unfold q_qc
  rw [hI 67 (by omega) (by omega), hI 68 (by omega) (by omega), hI 69 (by omega) (by omega), hI 70 (by omega) (by omega)]
theorem fRu (hR : q_Ru h I) (h38 : h'.2.2 38 = h.2.2 38) (h39 : h'.2.2 39 = h.2.2 39) (hI : I' 50 = I 50) : q_Ru h' I' := by
  unfold q_Ru n_P n_R at *
  rw [h38, h39, hI]
  exact hR
theorem fLn (hL : q_Ln h I nS nO sp le) (hf : ∀ a, a = 41 ∨ a = 42 ∨ a = 43 → h'.2.2 a = h.2.2 a) (h57 : ∀ s, s < nS → I' 57 s = I 57 s ∧ I' 58 s = I 58 s ∧ I' 59 s = I 59 s) (h65 : I' 65 = I 65) : q_Ln h' I' nS nO sp le := by
  obtain ⟨a1, ⟨hd, a2, a3⟩, a4, a5, a6, a7⟩ := hL
  refine ⟨by rw [hf 41 (by simp)]; exact a1, ⟨hd, by rw [hf 42 (by simp)]; exact a2, fun b hb => ?_⟩, by rw [hf 43 (by simp), h65]; exact a4, fun i hi => ?_, fun i j hij hj => ?_, fun s hs => ?_⟩
  · rw [a3 b hb]
    unfold q_hld
    exact congrArg nI (q_cnt_congr nS (fun s hs => by rw [(h57 s hs).1]))
  · obtain ⟨c1, c2⟩ := a5 i hi
    exact ⟨c1, by rw [(h57 _ c1).1]; exact c2⟩
  · have := a6 i j hij hj
    have c1 := (a5 i (by omega)).1
    have c2 := (a5 j hj).1
    unfold q_bf q_ld at *
    rw [(h57 _ c1).2.1, (h57 _ c1).2.2, (h57 _ c2).2.1, (h57 _ c2).2.2]
    exact this
  · rw [(h57 s hs).1]
    exact a7 s hs
theorem fO (hO : q_O own nS nB sp bx qu I) (hI : I' 66 = I 66) : q_O own nS nB sp bx qu I' := ⟨hO.1, hO.2.1, by rw [hI]; exact hO.2.2⟩
/-- the reference's part of the memory has changed, no other -/
theorem fV (w : q_V h I nS nB lo ak nO sp bx qu own bl le) (f : q_fr h h') : q_V h' I nS nB lo ak nO sp bx qu own bl le := by
  obtain ⟨hF, hS, hN, hB, hH, hK, hR, hL, hT, hO⟩ := w
  obtain ⟨f1, f2, f3⟩ := f
  have f1' : h.1 ≤ h'.1 := by omega
  refine ⟨fF hF f1' (fun a ha => f3 a (by omega)), fS hS f1' (fun s hs => f3 _ (by have := (hS s hs).1; omega)) (fun _ _ => rfl), fN hN (fun a ha => f3 a (by omega)) (fun _ _ => rfl), fB hB f1' (fun j hj => by have := (hB j hj).1; exact ⟨f3 _ (by omega), f3 _ (by omega)⟩) rfl rfl (fun _ _ => ⟨rfl, rfl⟩), fHs hH (fun i hi => f3 _ (by omega)) rfl rfl (fun _ _ => ⟨rfl, rfl⟩), fKs hK f1' (fun a h1 h2 => f3 a (by omega)) (fun k hk i hi => f3 _ (by have := ((hK k hk).2.2 i hi).1; omega)) (fun _ _ _ => rfl), fRu hR (f3 _ (by omega)) (f3 _ (by omega)) rfl, fLn hL (fun a ha => f3 a (by omega)) (fun _ _ => ⟨rfl, rfl, rfl⟩) rfl, hT, hO⟩
/-- what the class's call may have changed: nothing of the reference -/
def q_hf (h h' : mH) (n z : Nat) : Prop := h.1 ≤ h'.1 ∧ h'.1 ≤ h.1 + n ∧ h'.2.1 ≤ h.2.1 + z ∧ ∀ a, 44 ≤ a → a ≤ 70 → h'.2.2 a = h.2.2 a
theorem q_hf.rf : q_hf h h 0 0 := ⟨Nat.le_refl _, Nat.le_refl _, Nat.le_refl _, fun _ _ _ => rfl⟩
theorem q_hf.tr {h1 h2 h3 : mH} {n z m y : Nat} (a : q_hf h1 h2 n z) (b : q_hf h2 h3 m y) : q_hf h1 h3 (n + m) (z + y) := ⟨by have := a.1; have := b.1; omega, by have := a.2.1; have := b.2.1; omega, by have := a.2.2.1; have := b.2.2.1; omega, fun x h1 h2 => (b.2.2.2 x h1 h2).trans (a.2.2.2 x h1 h2)⟩
theorem q_hf.wr {h1 h2 : mH} {a : Nat} {e : va_E} {n z : Nat} (hh : q_hf h1 h2 n z) (ha : a < 44 ∨ 70 < a) : q_hf h1 (q_wr h2 a e) n z := ⟨hh.1, hh.2.1, hh.2.2.1, fun x x1 x2 => by rw [wrN (by omega)]; exact hh.2.2.2 x x1 x2⟩
theorem q_hf_le {n z m y : Nat} (hh : q_hf h h' n z) (h1 : n ≤ m) (h2 : z ≤ y) : q_hf h h' m y := ⟨hh.1, by have := hh.2.1; omega, by have := hh.2.2.1; omega, hh.2.2.2⟩
/-- what both calls must give -/
def q_Wx (h : mH) : Prop := ∃ I nS nB lo ak nO sp bx qu own bl le, q_W h I nS nB lo ak nO sp bx qu own bl le
def q_both (h : mH) (A : Option (Int32 × mH)) (B : mH → Option (Int32 × mH)) : Prop := ∃ r h1 h2, A = some (r, h1) ∧ B h1 = some (r, h2) ∧ q_Wx h2 ∧ h2.1 ≤ h.1 + 2 ∧ h2.2.1 ≤ h.2.1 + 40 ∧ (m_ob h 44 9 = true → m_ob h1 44 9 = true)
theorem q_both.no (w : q_W h I nS nB lo ak nO sp bx qu own bl le) {A : Option (Int32 × mH)} {B : mH → Option (Int32 × mH)} (r : Int32) (h1 : A = some (r, h)) (h2 : B h = some (r, h)) : q_both h A B := ⟨r, h, h, h1, h2, ⟨I, nS, nB, lo, ak, nO, sp, bx, qu, own, bl, le, w⟩, by omega, by omega, id⟩
theorem q_hf.ob {n z : Nat} (hh : q_hf h h' n z) (ho : m_ob h 44 9 = true) : m_ob h' 44 9 = true := by
  unfold m_ob at *
  rw [hh.2.2.2 44 (by omega) (by omega)]
  rw [Bool.and_eq_true] at *
  refine ⟨decide_eq_true ?_, ho.2⟩
  have := of_decide_eq_true ho.1
  have := hh.1
  omega
theorem q_both.yes {h1 h2 : mH} {nS' nB' nO' : Nat} {lo' ak' : Int32} {sp' bx' qu' bl' le' : Nat → Nat} {own' : Nat → Nat × Nat} (w : q_V h1 I' nS' nB' lo' ak' nO' sp' bx' qu' own' bl' le') (hh : q_hf h h1 2 40) (hM : q_M h2 I' nS' nB' lo' ak') (f : q_fr h1 h2) {A : Option (Int32 × mH)} {B : mH → Option (Int32 × mH)} (r : Int32) (e1 : A = some (r, h1)) (e2 : B h1 = some (r, h2)) : q_both h A B := ⟨r, h1, h2, e1, e2, ⟨I', nS', nB', lo', ak', nO', sp', bx', qu', own', bl', le', hM, fV w f⟩, by rw [f.1]; exact hh.2.1, by rw [f.2.1]; exact hh.2.2.1, hh.ob⟩
end FRM
