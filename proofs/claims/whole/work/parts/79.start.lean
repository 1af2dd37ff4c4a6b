/-! PURE PART 39: the start -/
def h_0 : mH := (0, 0, fun _ => .inr (0, []))
def h_4 : mH := ((m_newO h_0 8 [.null, .null, .null, .null, .null, .null, .int 0, .int 0]).bind fun h1 => f_X9_init h1 0).getD h_0
def h_8 : mH := ((m_newO h_4 9 [.null, .null, .null, .null, .null, .null, .int 0, .null, .null, .null, .null, .null, .null, .null, .null, .null, .null, .int 0, .null, .null, .null, .null, .null, .int 0, .null, .null, .null, .null, .null, .int 0]).bind fun h5 => f_X10_init h5 44).getD h_0
theorem o_get {α : Type} {o : Option α} {d : α} (h : o.isSome = true) : o = some (o.getD d) := by
  cases o with
  | none => cases h
  | some x => rfl
theorem h4_ok : (m_newO h_0 8 [.null, .null, .null, .null, .null, .null, .int 0, .int 0]).bind (fun h1 => f_X9_init h1 0) = some h_4 := o_get (by decide +kernel)
theorem h8_ok : (m_newO h_4 9 [.null, .null, .null, .null, .null, .null, .int 0, .null, .null, .null, .null, .null, .null, .null, .null, .null, .null, .int 0, .null, .null, .null, .null, .null, .int 0, .null, .null, .null, .null, .null, .int 0]).bind (fun h5 => f_X10_init h5 44) = some h_8 := o_get (by decide +kernel)
def e_int (e : va_E) : Nat → Int32 := match e with
  | .inl (_, _, .inl f) => f
  | _ => fun _ => 0
def e_isI (e : va_E) (n : Nat) : Bool := match e with
  | .inl (t, m, .inl _) => decide (t = 0) && decide (m = n)
  | _ => false
def e_ref (e : va_E) : Nat → Option Nat := match e with
  | .inl (_, _, .inr (.inr (.inr (.inr f)))) => f
  | _ => fun _ => none
def e_isR (e : va_E) (k n : Nat) : Bool := match e with
  | .inl (t, m, .inr (.inr (.inr (.inr _)))) => decide (t = k) && decide (m = n)
  | _ => false
def e_lng (e : va_E) : Nat → Int64 := match e with
  | .inl (_, _, .inr (.inl f)) => f
  | _ => fun _ => 0
def e_isL (e : va_E) (n : Nat) : Bool := match e with
  | .inl (t, m, .inr (.inl _)) => decide (t = 1) && decide (m = n)
  | _ => false
def e_isO (e : va_E) (ci : Nat) (m : List Value) : Bool := match e with
  | .inr (c, fs) => decide (c = ci) && decide (fs = m)
  | _ => false
theorem e_isI_ok {e : va_E} {n : Nat} (h : e_isI e n = true) : e = .inl (0, n, .inl (e_int e)) := by
  unfold e_isI at h
  split at h
  · rw [Bool.and_eq_true] at h
    rw [of_decide_eq_true h.1, of_decide_eq_true h.2]
    rfl
  · cases h
theorem e_isR_ok {e : va_E} {k n : Nat} (h : e_isR e k n = true) : e = .inl (k, n, q_R (e_ref e)) := by
  unfold e_isR at h
  split at h
  · rw [Bool.and_eq_true] at h
    rw [of_decide_eq_true h.1, of_decide_eq_true h.2]
    rfl
  · cases h
theorem e_isL_ok {e : va_E} {n : Nat} (h : e_isL e n = true) : e = .inl (1, n, .inr (.inl (e_lng e))) := by
  unfold e_isL at h
  split at h
  · rw [Bool.and_eq_true] at h
    rw [of_decide_eq_true h.1, of_decide_eq_true h.2]
    rfl
  · cases h
theorem e_isO_ok {e : va_E} {ci : Nat} {m : List Value} (h : e_isO e ci m = true) : e = .inr (ci, m) := by
  unfold e_isO at h
  split at h
  · rw [Bool.and_eq_true] at h
    rw [of_decide_eq_true h.1, of_decide_eq_true h.2]
  · cases h
theorem st_n4 : h_4.1 = 44 := by decide +kernel
theorem st_n8 : h_8.1 = 71 := by decide +kernel
theorem st_z8 : h_8.2.1 ≤ 100000 := by decide +kernel
theorem st_I : ∀ a, a < 26 → e_isI (h_8.2.2 (45 + a)) (q_len (45 + a)) = true := by decide +kernel
theorem st_44 : e_isO (h_8.2.2 44) 9 [.ref 45, .ref 46, .ref 47, .ref 48, .ref 49, .ref 50, .int 0, .ref 51, .ref 52, .ref 53, .ref 54, .ref 55, .ref 56, .ref 57, .ref 58, .ref 59, .ref 60, .int 0, .ref 61, .ref 62, .ref 63, .ref 64, .ref 65, .int 0, .ref 66, .ref 67, .ref 68, .ref 69, .ref 70, .int 0] = true := by decide +kernel
theorem st_c : ∀ a, a < 5 → ∀ j, j < q_len (45 + a) → e_int (h_8.2.2 (45 + a)) j = q_cI (45 + a) j := by decide +kernel
theorem st_50 : ∀ j, j < 245 → e_int (h_8.2.2 50) j = -1 := by decide +kernel
theorem st_0 : e_isO (h_8.2.2 0) 8 [.ref 1, .ref 4, .ref 5, .ref 16, .ref 37, .ref 40, .int 0, .int 0] = true := by decide +kernel
theorem st_1 : e_isO (h_8.2.2 1) 7 [.ref 2, .ref 3, .int 0] = true := by decide +kernel
theorem st_37 : e_isO (h_8.2.2 37) 4 [.ref 38, .ref 39] = true := by decide +kernel
theorem st_40 : e_isO (h_8.2.2 40) 2 [.ref 41, .ref 42, .ref 43, .int 0, .int 0] = true := by decide +kernel
theorem st_2 : e_isR (h_8.2.2 2) 2 300 = true := by decide +kernel
theorem st_3 : e_isR (h_8.2.2 3) 2 300 = true := by decide +kernel
theorem st_4 : e_isR (h_8.2.2 4) 3 40 = true := by decide +kernel
theorem st_5 : e_isR (h_8.2.2 5) 4 10 = true := by decide +kernel
theorem st_16 : e_isR (h_8.2.2 16) 5 10 = true := by decide +kernel
theorem st_5r : ∀ i, i < 10 → e_ref (h_8.2.2 5) i = some (6 + i) := by decide +kernel
theorem st_16r : ∀ i, i < 10 → e_ref (h_8.2.2 16) i = some (17 + 2 * i) := by decide +kernel
theorem st_38 : e_isL (h_8.2.2 38) 5 = true := by decide +kernel
theorem st_38r : ∀ f, f < 5 → e_lng (h_8.2.2 38) f = 0 := by decide +kernel
theorem st_39 : e_isI (h_8.2.2 39) 245 = true := by decide +kernel
theorem st_41 : e_isR (h_8.2.2 41) 2 240 = true := by decide +kernel
theorem st_42 : e_isI (h_8.2.2 42) 20 = true := by decide +kernel
theorem st_43 : e_isI (h_8.2.2 43) 20 = true := by decide +kernel
theorem st_42r : ∀ b, b < 20 → e_int (h_8.2.2 42) b = 0 ∧ e_int (h_8.2.2 43) b = e_int (h_8.2.2 65) b := by decide +kernel
theorem st_hs : ∀ i, i < 10 → e_isO (h_8.2.2 (6 + i)) 5 [.int (nI i), .int (e_int (h_8.2.2 63) i), .int (e_int (h_8.2.2 64) i), .int 0, .int 0] = true ∧ e_int (h_8.2.2 63) i = 0 := by decide +kernel
theorem st_ks : ∀ k, k < 10 → e_isO (h_8.2.2 (17 + 2 * k)) 1 [.ref (18 + 2 * k), .int (e_int (h_8.2.2 66) k), .int 0] = true ∧ e_isR (h_8.2.2 (18 + 2 * k)) 6 40 = true ∧ e_int (h_8.2.2 66) k = 0 := by decide +kernel
theorem st_W : q_W h_8 (fun a => e_int (h_8.2.2 a)) 0 0 0 0 0 (fun _ => 0) (fun _ => 0) (fun _ => 0) (fun _ => (0, 0)) (fun _ => 0) (fun _ => 0) := by
  have n8 := st_n8
  have hP : ∀ f, f < 5 → ∀ c, c < 49 → n_P (fun a => e_int (h_8.2.2 a)) f c = false := fun f hf c hc => by
    unfold n_P
    show decide (e_int (h_8.2.2 50) (5 * c + f) ≠ -1) = false
    rw [st_50 (5 * c + f) (by omega)]
    rfl
  have h66 : ∀ k, k < 10 → q_n (e_int (h_8.2.2 66) k) = 0 := fun k hk => by rw [(st_ks k hk).2.2]; rfl
  refine ⟨⟨by omega, e_isO_ok st_44, fun a h1 h2 => ?_, fun a h1 h2 j hj => ?_⟩, ⟨by omega, e_isO_ok st_0, e_isO_ok st_1, e_isO_ok st_37, e_isO_ok st_40, ⟨_, e_isR_ok st_5, st_5r⟩, ⟨_, e_isR_ok st_16, st_16r⟩, by omega, by omega, by omega⟩, fun s hs => absurd hs (by omega), ⟨⟨_, e_isR_ok st_2, fun s hs => absurd hs (by omega)⟩, ⟨_, e_isR_ok st_3, fun s hs => absurd hs (by omega)⟩, ⟨_, e_isR_ok st_4, fun s hs => absurd hs (by omega)⟩, fun s hs => absurd hs (by omega), fun i j _ hj => absurd hj (by omega)⟩, fun j hj => absurd hj (by omega), fun i hi => e_isO_ok (st_hs i hi).1, fun k hk => ⟨⟨0, e_isO_ok (st_ks k hk).1⟩, ⟨_, e_isR_ok (st_ks k hk).2.1, fun i hi => ?_⟩, fun i hi => ?_⟩, ⟨⟨_, e_isL_ok st_38, fun f hf c hc => ?_⟩, ⟨_, e_isI_ok st_39, fun f hf c hc hp => ?_⟩, fun c hc _ f hf => st_50 _ (by omega)⟩, ⟨⟨_, e_isR_ok st_41, fun i hi => absurd hi (by omega)⟩, ⟨_, e_isI_ok st_42, fun b hb => (st_42r b hb).1⟩, ⟨_, e_isI_ok st_43, fun b hb => (st_42r b hb).2⟩, fun i hi => absurd hi (by omega), fun i j _ hj => absurd hj (by omega), fun s hs => absurd hs (by omega)⟩, ⟨fun s hs => absurd hs (by omega), fun s hs => absurd hs (by omega), fun s hs => absurd hs (by omega), fun s hs => absurd hs (by omega), fun s hs => absurd hs (by omega), fun s hs => absurd hs (by omega), fun i hi => ⟨0, by omega, (st_hs i hi).2⟩, fun k hk => ⟨0, by omega, (st_ks k hk).2.2, fun i hi => absurd hi (by omega)⟩, fun s _ hs => absurd hs (by omega), fun b hb => ?_, fun f hf c hc hp => ?_⟩, fun s hs => absurd hs (by omega), fun s hs => absurd hs (by omega), fun k hk i hi => ?_⟩
  · have := e_isI_ok (st_I (a - 45) (by omega))
    rw [show 45 + (a - 45) = a by omega] at this
    exact this
  · have := st_c (a - 45) (by omega) j (by rw [show 45 + (a - 45) = a by omega]; exact hj)
    rw [show 45 + (a - 45) = a by omega] at this
    exact this
  · rw [h66 k hk] at hi; omega
  · rw [h66 k hk] at hi; omega
  · rw [st_38r f hf]
    by_cases c1 : c < 49
    · rw [hP f hf c c1, Bool.and_false]
      show (0#64).getLsbD c = false
      simp
    · rw [decide_eq_false c1, Bool.false_and]
      show (0#64).getLsbD c = false
      simp
  · rw [hP f hf c hc] at hp; cases hp
  · show 0 ≤ 12; omega
  · rw [hP f hf c hc] at hp; cases hp
  · rw [h66 k hk] at hi; omega
