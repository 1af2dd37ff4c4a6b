/-! PURE PART 4: the cells of the reference -/
def q_mf (nS nB : Nat) (lo ak : Int32) : List Value := [.ref 45, .ref 46, .ref 47, .ref 48, .ref 49, .ref 50, .int (nI nS), .ref 51, .ref 52, .ref 53, .ref 54, .ref 55, .ref 56, .ref 57, .ref 58, .ref 59, .ref 60, .int (nI nB), .ref 61, .ref 62, .ref 63, .ref 64, .ref 65, .int (lo), .ref 66, .ref 67, .ref 68, .ref 69, .ref 70, .int (ak)]
def q_len (a : Nat) : Nat := match a with
  | 45 => 24
  | 46 => 7
  | 47 => 36
  | 48 => 12
  | 49 => 5
  | 50 => 245
  | 61 => 40
  | 62 => 40
  | 63 => 10
  | 64 => 10
  | 65 => 20
  | 66 => 10
  | 67 => 400
  | 68 => 400
  | 69 => 400
  | 70 => 400
  | _ => 300
def q_c45 : List Int32 := [-1, 0, 1, 1, 3, 3, 1, 6, 6, 0, 9, 10, 10, 12, 9, 14, 14, 9, 17, 17, 0, 20, 20, 21]
def q_c46 : List Int32 := [0, 1, 3, 9, 10, 17, 20]
def q_c47 : List Int32 := [1, 41, 3, 43, 5, 46, 6, 44, 8, 47, 10, 41, 10, 43, 13, 44, 14, 42, 15, 44, 16, 47, 17, 41, 18, 44, 19, 48, 20, 41, 21, 43, 22, 47, 23, 46]
def q_c48 : List Int32 := [41, 40, 42, 40, 46, 45, 47, 45, 48, 47, 48, 43]
def q_c49 : List Int32 := [9, 99, 365, 1000, 9]
def q_cI (a j : Nat) : Int32 := match a with
  | 45 => q_c45.getD j 0
  | 46 => q_c46.getD j 0
  | 47 => q_c47.getD j 0
  | 48 => q_c48.getD j 0
  | 49 => q_c49.getD j 0
  | _ => 0
def q_M (h : mH) (I : Nat → Nat → Int32) (nS nB : Nat) (lo ak : Int32) : Prop :=
  71 ≤ h.1 ∧ h.2.2 44 = .inr (9, q_mf nS nB lo ak) ∧ (∀ a, 45 ≤ a → a ≤ 70 → h.2.2 a = .inl (0, q_len a, .inl (I a))) ∧ ∀ a, 45 ≤ a → a ≤ 49 → ∀ j, j < q_len a → I a j = q_cI a j
section QM
variable {h h' : mH} {I : Nat → Nat → Int32} {nS nB : Nat} {lo ak : Int32}
theorem rM_ref (hM : q_M h I nS nB lo ak) {k a : Nat} (hk : (q_mf nS nB lo ak)[k]? = some (.ref a)) : m_gr h 44 9 k = some (some a) := by
  unfold m_gr m_gf
  rw [if_pos (by have := hM.1; omega), hM.2.1]
  simp only [if_true, hk]
theorem rM_int (hM : q_M h I nS nB lo ak) {k : Nat} {x : Int32} (hk : (q_mf nS nB lo ak)[k]? = some (.int x)) : m_gi h 44 9 k = some x := by
  unfold m_gi m_gf
  rw [if_pos (by have := hM.1; omega), hM.2.1]
  simp only [if_true, hk]
theorem oM (hM : q_M h I nS nB lo ak) : m_ob h 44 9 = true := by
  unfold m_ob
  rw [hM.2.1]
  have := hM.1
  simp
  omega

theorem rM0 (hM : q_M h I nS nB lo ak) : m_gr h 44 9 0 = some (some 45) := rM_ref hM rfl
theorem rM1 (hM : q_M h I nS nB lo ak) : m_gr h 44 9 1 = some (some 46) := rM_ref hM rfl
theorem rM2 (hM : q_M h I nS nB lo ak) : m_gr h 44 9 2 = some (some 47) := rM_ref hM rfl
theorem rM3 (hM : q_M h I nS nB lo ak) : m_gr h 44 9 3 = some (some 48) := rM_ref hM rfl
theorem rM4 (hM : q_M h I nS nB lo ak) : m_gr h 44 9 4 = some (some 49) := rM_ref hM rfl
theorem rM5 (hM : q_M h I nS nB lo ak) : m_gr h 44 9 5 = some (some 50) := rM_ref hM rfl
theorem rM7 (hM : q_M h I nS nB lo ak) : m_gr h 44 9 7 = some (some 51) := rM_ref hM rfl
theorem rM8 (hM : q_M h I nS nB lo ak) : m_gr h 44 9 8 = some (some 52) := rM_ref hM rfl
theorem rM9 (hM : q_M h I nS nB lo ak) : m_gr h 44 9 9 = some (some 53) := rM_ref hM rfl
theorem rM10 (hM : q_M h I nS nB lo ak) : m_gr h 44 9 10 = some (some 54) := rM_ref hM rfl
theorem rM11 (hM : q_M h I nS nB lo ak) : m_gr h 44 9 11 = some (some 55) := rM_ref hM rfl
theorem rM12 (hM : q_M h I nS nB lo ak) : m_gr h 44 9 12 = some (some 56) := rM_ref hM rfl
theorem rM13 (hM : q_M h I nS nB lo ak) : m_gr h 44 9 13 = some (some 57) := rM_ref hM rfl
theorem rM14 (hM : q_M h I nS nB lo ak) : m_gr h 44 9 14 = some (some 58) := rM_ref hM rfl
theorem rM15 (hM : q_M h I nS nB lo ak) : m_gr h 44 9 15 = some (some 59) := rM_ref hM rfl
theorem rM16 (hM : q_M h I nS nB lo ak) : m_gr h 44 9 16 = some (some 60) := rM_ref hM rfl
theorem rM18 (hM : q_M h I nS nB lo ak) : m_gr h 44 9 18 = some (some 61) := rM_ref hM rfl
theorem rM19 (hM : q_M h I nS nB lo ak) : m_gr h 44 9 19 = some (some 62) := rM_ref hM rfl
theorem rM20 (hM : q_M h I nS nB lo ak) : m_gr h 44 9 20 = some (some 63) := rM_ref hM rfl
theorem rM21 (hM : q_M h I nS nB lo ak) : m_gr h 44 9 21 = some (some 64) := rM_ref hM rfl
theorem rM22 (hM : q_M h I nS nB lo ak) : m_gr h 44 9 22 = some (some 65) := rM_ref hM rfl
theorem rM24 (hM : q_M h I nS nB lo ak) : m_gr h 44 9 24 = some (some 66) := rM_ref hM rfl
theorem rM25 (hM : q_M h I nS nB lo ak) : m_gr h 44 9 25 = some (some 67) := rM_ref hM rfl
theorem rM26 (hM : q_M h I nS nB lo ak) : m_gr h 44 9 26 = some (some 68) := rM_ref hM rfl
theorem rM27 (hM : q_M h I nS nB lo ak) : m_gr h 44 9 27 = some (some 69) := rM_ref hM rfl
theorem rM28 (hM : q_M h I nS nB lo ak) : m_gr h 44 9 28 = some (some 70) := rM_ref hM rfl
theorem rM6 (hM : q_M h I nS nB lo ak) : m_gi h 44 9 6 = some (nI nS) := rM_int hM rfl
theorem rM17 (hM : q_M h I nS nB lo ak) : m_gi h 44 9 17 = some (nI nB) := rM_int hM rfl
theorem rM23 (hM : q_M h I nS nB lo ak) : m_gi h 44 9 23 = some (lo) := rM_int hM rfl
theorem rM29 (hM : q_M h I nS nB lo ak) : m_gi h 44 9 29 = some (ak) := rM_int hM rfl
theorem q_inI {j n : Nat} (h : j < n) (hn : n ≤ 1000) : ¬ (nI j < 0 ∨ n ≤ (nI j).toNatClampNeg) := nI_in h (by omega)
theorem q_len_le : ∀ a, q_len a ≤ 400 := by
  intro a
  unfold q_len
  split <;> decide
theorem rI (hM : q_M h I nS nB lo ak) {a j : Nat} (h1 : 45 ≤ a) (h2 : a ≤ 70) (hj : j < q_len a) : m_ild h a (nI j) = some (I a j) := by
  unfold m_ild
  rw [if_pos (by have := hM.1; omega), hM.2.2.1 a h1 h2]
  have := q_len_le a
  simp only
  rw [if_pos ⟨trivial, q_inI hj (by omega)⟩, nI_clamp (by omega)]
/-- nothing but the reference's cells has changed -/
def q_fr (h h' : mH) : Prop := h'.1 = h.1 ∧ h'.2.1 = h.2.1 ∧ ∀ b, (b < 44 ∨ 70 < b) → h'.2.2 b = h.2.2 b
theorem q_fr.rf : q_fr h h := ⟨rfl, rfl, fun _ _ => rfl⟩
theorem q_fr.tr {h1 h2 h3 : mH} (a : q_fr h1 h2) (b : q_fr h2 h3) : q_fr h1 h3 := ⟨b.1.trans a.1, b.2.1.trans a.2.1, fun x hx => (b.2.2 x hx).trans (a.2.2 x hx)⟩
def q_u (I : Nat → Nat → Int32) (a j : Nat) (v : Int32) : Nat → Nat → Int32 := fun b i => if b = a ∧ i = j then v else I b i
theorem q_u_row {a j : Nat} {v : Int32} {b : Nat} (hb : b ≠ a) : q_u I a j v b = I b := by
  funext i
  simp [q_u, hb]
theorem q_u_upd {a j : Nat} {v : Int32} : q_u I a j v a = upd (I a) j v := by
  funext i
  simp [q_u, upd]
theorem wI (hM : q_M h I nS nB lo ak) {a j : Nat} (v : Int32) (h1 : 50 ≤ a) (h2 : a ≤ 70) (hj : j < q_len a) : ∃ h', m_ist h a (nI j) v = some h' ∧ q_M h' (q_u I a j v) nS nB lo ak ∧ q_fr h h' := by
  have h0 := hM.1
  have hl := q_len_le a
  refine ⟨(h.1, h.2.1, va_up h.2.2 a (.inl (0, q_len a, .inl (upd (I a) j v)))), ?_, ⟨h0, ?_, fun b hb1 hb2 => ?_, fun b hb1 hb2 i hi => ?_⟩, rfl, rfl, fun b hb => ?_⟩
  · unfold m_ist
    rw [if_pos (by omega), hM.2.2.1 a (by omega) h2]
    simp only
    rw [if_pos ⟨trivial, q_inI hj (by omega)⟩, nI_clamp (by omega)]
  · simp only [va_up]
    rw [if_neg (by omega)]
    exact hM.2.1
  · simp only [va_up]
    by_cases e : b = a
    · subst e
      rw [if_pos rfl, q_u_upd]
    · rw [if_neg e, q_u_row e]
      exact hM.2.2.1 b hb1 hb2
  · rw [q_u_row (by omega)]
    exact hM.2.2.2 b hb1 hb2 i hi
  · simp only [va_up]
    rw [if_neg (by omega)]
theorem wF (hM : q_M h I nS nB lo ak) {k : Nat} {v : Int32} {nS' nB' : Nat} {lo' ak' : Int32} (hk : k < 30) (hs : (q_mf nS nB lo ak).set k (.int v) = q_mf nS' nB' lo' ak') : ∃ h', m_pf h 44 9 k (.int v) = some h' ∧ q_M h' I nS' nB' lo' ak' ∧ q_fr h h' := by
  have h0 := hM.1
  refine ⟨(h.1, h.2.1, va_up h.2.2 44 (.inr (9, q_mf nS' nB' lo' ak'))), ?_, ⟨h0, by simp [va_up], fun b hb1 hb2 => ?_, hM.2.2.2⟩, rfl, rfl, fun b hb => ?_⟩
  · unfold m_pf
    rw [if_pos (by omega), hM.2.1]
    simp only
    rw [if_pos ⟨trivial, hk⟩, hs]
  · simp only [va_up]
    rw [if_neg (by omega)]
    exact hM.2.2.1 b hb1 hb2
  · simp only [va_up]
    rw [if_neg (by omega)]
/-! the reference's kinds and traits -/
def h_C : mH := (71, 0, fun a => if a = 44 then .inr (9, q_mf 0 0 0 0) else .inl (0, q_len a, .inl (q_cI a)))
theorem hC_M : q_M h_C q_cI 0 0 0 0 := ⟨Nat.le_refl _, rfl, fun a h1 h2 => by unfold h_C; simp only; rw [if_neg (by omega)], fun a _ _ j _ => rfl⟩
theorem rC (hM : q_M h I nS nB lo ak) {a : Nat} (h1 : 45 ≤ a) (h2 : a ≤ 49) (x : Int32) : m_ild h a x = m_ild h_C a x := by
  unfold m_ild
  rw [if_pos (by have := hM.1; omega), hM.2.2.1 a h1 (by omega), if_pos (show a < h_C.1 by unfold h_C; simp only; omega), hC_M.2.2.1 a h1 (by omega)]
  simp only
  by_cases hx : ¬ (x < 0 ∨ q_len a ≤ x.toNatClampNeg)
  · rw [if_pos ⟨trivial, hx⟩, if_pos ⟨trivial, hx⟩, hM.2.2.2 a h1 h2 _ (Nat.not_le.mp fun z => hx (Or.inr z))]
  · rw [if_neg (fun z => hx z.2), if_neg (fun z => hx z.2)]
theorem d_tr0 (hM : q_M h I nS nB lo ak) : f_X10_traitAbove h 44 = f_X10_traitAbove h_C 44 := by
  funext a b
  unfold f_X10_traitAbove
  have w1 : ∀ x, w_X10_traitAbove_55 h 44 a x = w_X10_traitAbove_55 h_C 44 a x := by
    intro x
    funext s
    unfold w_X10_traitAbove_55
    simp only [rM3 hM, rM3 hC_M, rC hM (a := 48) (by decide) (by decide), Option.bind_some]
  have w2 : w_X10_traitAbove_12 h 44 a b = w_X10_traitAbove_12 h_C 44 a b := by
    funext s
    unfold w_X10_traitAbove_12
    simp only [rM3 hM, rM3 hC_M, rC hM (a := 48) (by decide) (by decide), Option.bind_some, w1]
  rw [w2]
theorem d_st0 (hM : q_M h I nS nB lo ak) : f_X10_stepsTo h 44 = f_X10_stepsTo h_C 44 := by
  funext a b
  unfold f_X10_stepsTo
  have w1 : ∀ s, w_X10_stepsTo_22 h 44 b s = w_X10_stepsTo_22 h_C 44 b s := by
    intro x
    funext s
    unfold w_X10_stepsTo_22
    simp only [rM2 hM, rM2 hC_M, rC hM (a := 47) (by decide) (by decide), Option.bind_some, oM hM, oM hC_M, d_tr0 hM]
  have w2 : w_X10_stepsTo_5 h 44 b = w_X10_stepsTo_5 h_C 44 b := by
    funext s
    unfold w_X10_stepsTo_5
    simp only [rM0 hM, rM0 hC_M, rC hM (a := 45) (by decide) (by decide), Option.bind_some, w1]
  rw [w2]
theorem d_ab0 (hM : q_M h I nS nB lo ak) : f_X10_isAbstract h 44 = f_X10_isAbstract h_C 44 := by
  funext a
  unfold f_X10_isAbstract
  have w1 : w_X10_isAbstract_4 h 44 a = w_X10_isAbstract_4 h_C 44 a := by
    funext s
    unfold w_X10_isAbstract_4
    simp only [rM1 hM, rM1 hC_M, rC hM (a := 46) (by decide) (by decide), Option.bind_some]
  rw [w1]
end QM
set_option maxRecDepth 100000 in
theorem d_trC : ∀ a, a < 49 → ∀ b, b < 49 → n_t a = true → n_t b = true → f_X10_traitAbove h_C 44 (nI a) (nI b) = some (q_b (t_up a b)) := by decide +kernel
set_option maxRecDepth 100000 in
theorem d_abC : ∀ a, a < 24 → f_X10_isAbstract h_C 44 (nI a) = some (q_b (n_ab a)) := by decide +kernel
