/-! heap: reads and writes of the logical heap, and their rules -/
def m_gf (h : mH) (a ci k : Nat) : Option Value := if a < h.1 then (match h.2.2 a with
  | .inr (c, fs) => if c = ci then fs[k]? else none
  | _ => none) else none
def m_gi (h : mH) (a ci k : Nat) : Option Int32 := match m_gf h a ci k with
  | some (.int x) => some x
  | _ => none
def m_gr (h : mH) (a ci k : Nat) : Option (Option Nat) := match m_gf h a ci k with
  | some .null => some none
  | some (.ref x) => some (some x)
  | _ => none
def m_pf (h : mH) (a ci k : Nat) (v : Value) : Option mH := if a < h.1 then (match h.2.2 a with
  | .inr (c, fs) => if c = ci ∧ k < fs.length then some (h.1, h.2.1, va_up h.2.2 a (.inr (ci, fs.set k v))) else none
  | _ => none) else none
def m_ild (h : mH) (a : Nat) (i : Int32) : Option Int32 := if a < h.1 then (match h.2.2 a with
  | .inl (t, N, .inl f) => if t = 0 ∧ ¬ (i < 0 ∨ N ≤ i.toNatClampNeg) then some (f i.toNatClampNeg) else none
  | _ => none) else none
def m_ist (h : mH) (a : Nat) (i x : Int32) : Option mH := if a < h.1 then (match h.2.2 a with
  | .inl (t, N, .inl f) => if t = 0 ∧ ¬ (i < 0 ∨ N ≤ i.toNatClampNeg) then some (h.1, h.2.1, va_up h.2.2 a (.inl (0, N, .inl (upd f i.toNatClampNeg x)))) else none
  | _ => none) else none
def m_lld (h : mH) (a : Nat) (i : Int32) : Option Int64 := if a < h.1 then (match h.2.2 a with
  | .inl (t, N, .inr (.inl f)) => if t = 1 ∧ ¬ (i < 0 ∨ N ≤ i.toNatClampNeg) then some (f i.toNatClampNeg) else none
  | _ => none) else none
def m_lst (h : mH) (a : Nat) (i : Int32) (x : Int64) : Option mH := if a < h.1 then (match h.2.2 a with
  | .inl (t, N, .inr (.inl f)) => if t = 1 ∧ ¬ (i < 0 ∨ N ≤ i.toNatClampNeg) then some (h.1, h.2.1, va_up h.2.2 a (.inl (1, N, .inr (.inl (vp_updL f i.toNatClampNeg x))))) else none
  | _ => none) else none
def m_ob (h : mH) (a ci : Nat) : Bool := decide (a < h.1) && (match h.2.2 a with
  | .inr (c, _) => c == ci
  | _ => false)
def m_okq (h : mH) (q : Option Nat) (ci : Nat) : Bool := match q with
  | none => true
  | some b => m_ob h b ci
def m_ald (h : mH) (a : Nat) (i : Int32) : Option (Option Nat) := if a < h.1 then (match h.2.2 a with
  | .inl (t, N, .inr (.inr (.inr (.inr f)))) => if (2 ≤ t ∧ t < 7) ∧ ¬ (i < 0 ∨ N ≤ i.toNatClampNeg) then some (f i.toNatClampNeg) else none
  | _ => none) else none
def m_ast (h : mH) (a : Nat) (i : Int32) (q : Option Nat) : Option mH := if a < h.1 then (match h.2.2 a with
  | .inl (t, N, .inr (.inr (.inr (.inr f)))) => if ((2 ≤ t ∧ t < 7) ∧ ¬ (i < 0 ∨ N ≤ i.toNatClampNeg)) ∧ m_okq h q (m_tci t) = true then some (h.1, h.2.1, va_up h.2.2 a (.inl (t, N, .inr (.inr (.inr (.inr (va_up f i.toNatClampNeg q))))))) else none
  | _ => none) else none
def m_len (h : mH) (a : Nat) : Option Int32 := if a < h.1 then (match h.2.2 a with
  | .inl (t, N, _) => if t < 7 then some (Int32.ofNat N) else none
  | _ => none) else none
def m_new (h : mH) (ci : Nat) (fs : List Value) : mH := (h.1 + 1, h.2.1 + fs.length, va_up h.2.2 h.1 (.inr (ci, fs)))
def m_newi (h : mH) (n : Int32) : Option mH := if ¬ n < 0 ∧ n.toNatClampNeg ≤ 100000 then some (h.1 + 1, h.2.1 + n.toNatClampNeg, va_up h.2.2 h.1 (.inl (0, n.toNatClampNeg, .inl (fun _ => 0)))) else none
def m_newl (h : mH) (n : Int32) : Option mH := if ¬ n < 0 ∧ n.toNatClampNeg ≤ 100000 then some (h.1 + 1, h.2.1 + n.toNatClampNeg, va_up h.2.2 h.1 (.inl (1, n.toNatClampNeg, .inr (.inl (fun _ => 0))))) else none
def m_newr (h : mH) (t : Nat) (n : Int32) : Option mH := if ¬ n < 0 ∧ n.toNatClampNeg ≤ 100000 then some (h.1 + 1, h.2.1 + n.toNatClampNeg, va_up h.2.2 h.1 (.inl (t, n.toNatClampNeg, .inr (.inr (.inr (.inr (fun _ => none))))))) else none
/-! what they say -/
theorem m_gf_spec {h : mH} {a ci k : Nat} {v : Value} (hg : m_gf h a ci k = some v) : ∃ fs, a < h.1 ∧ h.2.2 a = .inr (ci, fs) ∧ fs[k]? = some v := by
  unfold m_gf at hg
  split at hg
  · rename_i ha
    split at hg
    · rename_i c fs he
      split at hg
      · rename_i hc
        subst hc
        exact ⟨fs, ha, he, hg⟩
      · cases hg
    · cases hg
  · cases hg
theorem m_gi_spec {h : mH} {a ci k : Nat} {x : Int32} (hg : m_gi h a ci k = some x) : m_gf h a ci k = some (.int x) := by
  unfold m_gi at hg
  split at hg
  · rename_i y hy
    cases hg
    exact hy
  · cases hg
theorem m_gr_spec {h : mH} {a ci k : Nat} {q : Option Nat} (hg : m_gr h a ci k = some q) : m_gf h a ci k = some (va_rf q) := by
  unfold m_gr at hg
  split at hg
  · rename_i hy; cases hg; exact hy
  · rename_i y hy; cases hg; exact hy
  · cases hg
theorem m_ob_spec {h : mH} {a ci : Nat} (ho : m_ob h a ci = true) : ∃ fs, a < h.1 ∧ h.2.2 a = .inr (ci, fs) := by
  unfold m_ob at ho
  rw [Bool.and_eq_true] at ho
  obtain ⟨h1, h2⟩ := ho
  split at h2
  · rename_i c fs he
    have : c = ci := by simpa using h2
    subst this
    exact ⟨fs, by simpa using h1, he⟩
  · cases h2
section JH
variable {X : mX} {Y : mY} {d pc : Nat} {L : List (Option Value)} {st : List Value} {h h' : mH} {r : mR}
theorem m_at {E : mE} {h : mH} {a ci : Nat} {fs : List Value} (ha : a < h.1) (he : h.2.2 a = .inr (ci, fs)) : (m_ws E h)[a]? = some (E.2.1 + a, .inr (ci, fs.map (m_ph E))) := by
  rw [m_ws_get ha, he]
  rfl
theorem j_getf {a ci k ix N : Nat} {v : Value} {C : String} {T : u_T} (hc : vwCl[ci]? = some (C, T, N)) (hk : k < N) (hin : ∀ w ∈ u_ws C T N, w ∈ mT) (hw : Cond.fieldLink Y.1.cls ix (T k).1 (T k).2.1 (T k).2.2.1 ∈ mT) (hd : decode Y.2.1 pc = .ok (.getfield ix, 3)) (hg : m_gf h a ci k = some v) (kk : m_J X Y d (pc + 3) L (v :: st) h r) : m_J X Y d pc L (.ref a :: st) h r := by
  refine ⟨kk.1, fun E p l e R s m args below meth c H locs ls n0 z0 Q Cx g1 g2 hh hl K => ?_⟩
  obtain ⟨fs, ha, he, hv⟩ := m_gf_spec hg
  exact va_get Cx.1 Cx.2.1 Cx.2.2.2.2.1 hin Cx.2.2.2.1 Cx.2.2.2.2.2.1 hh.1 a (m_at ha he) hc k hk (Cx.2.2.2.2.1 _ hw) (fun _ q => q) (by rw [List.getElem?_map, hv]; rfl) hd (kk.2 E p l e R s m args below meth c H locs ls n0 z0 Q Cx g1 g2 hh hl K)
theorem m_pf_spec {a ci k : Nat} {v : Value} (hg : m_pf h a ci k v = some h') : ∃ fs, a < h.1 ∧ h.2.2 a = .inr (ci, fs) ∧ k < fs.length ∧ h' = (h.1, h.2.1, va_up h.2.2 a (.inr (ci, fs.set k v))) := by
  unfold m_pf at hg
  split at hg
  · rename_i ha
    split at hg
    · rename_i c fs he
      split at hg
      · rename_i hc
        obtain ⟨rfl, hk⟩ := hc
        cases hg
        exact ⟨fs, ha, he, hk, rfl⟩
      · cases hg
    · cases hg
  · cases hg
theorem m_h.set {E : mE} {s : State} {H1 : Heap} {locs1 : List Loc} {a : Nat} {e : va_E} (hP : va_P E.1 vwCl ((m_ws E h).set a (E.2.1 + a, m_im E e)) H1) (hS : va_S (m_A E) s.heap H1 locs1) : m_h E (h.1, h.2.1, va_up h.2.2 a e) s H1 locs1 := by
  refine ⟨?_, hS⟩
  rw [← m_ws_set h.2.1]
  exact hP
theorem m_setmap {E : mE} {fs : List Value} {k : Nat} {v : Value} : (fs.map (m_ph E)).set k (m_ph E v) = (fs.set k v).map (m_ph E) := by
  rw [List.map_set]
theorem j_puti {a ci k ix N : Nat} {x : Int32} {C : String} {T : u_T} {ty : Nat → FieldType} (hc : vwCl[ci]? = some (C, T, N)) (hk : k < N) (hin : ∀ w ∈ u_ws C T N, w ∈ mT) (hty : ∀ k, k < N → parseFieldDescriptor (T k).2.2.1 = some (ty k)) (hnm : ∀ a, a < N → ∀ b, b < N → a ≠ b → (T a).2.1 ≠ (T b).2.1) (hw : Cond.fieldLink Y.1.cls ix (T k).1 (T k).2.1 (T k).2.2.1 ∈ mT) (hfin : (T k).2.2.2 = false) (hti : ty k = .int) (hd : decode Y.2.1 pc = .ok (.putfield ix, 3)) (hg : m_pf h a ci k (.int x) = some h') (kk : m_J X Y d (pc + 3) L st h' r) : m_J X Y d pc L (.int x :: .ref a :: st) h r := by
  obtain ⟨fs, ha, he, hl, rfl⟩ := m_pf_spec hg
  refine ⟨kk.1, fun E p l e R s m args below meth c H locs ls n0 z0 Q Cx g1 g2 hh hls K => ?_⟩
  refine va_put (v := .int x) (ty := .int) Cx.1 Cx.2.1 Cx.2.2.2.2.1 hin ty hty hnm Cx.2.2.2.1 Cx.2.2.2.2.2.1 hh.1 (m_D E h) hh.2 a (m_at ha he) hc k hk (Cx.2.2.2.2.1 _ hw) (fun _ q => q) hfin (by rw [hty k hk, hti]) rfl rfl (by rw [List.length_map]; exact hl) hd (fun H1 locs1 hP hD hS => ?_)
  refine kk.2 E p l e R s m args below meth c H1 locs1 ls n0 z0 Q Cx g1 g2 (m_h.set ?_ hS) hls K
  have e1 : m_im E (.inr (ci, fs.set k (.int x))) = .inr (ci, (fs.map (m_ph E)).set k (.int x)) := by
    rw [show (Value.int x) = m_ph E (.int x) from rfl, m_setmap]; rfl
  rw [e1]
  exact hP
theorem j_putiF {a ci k ix N : Nat} {x : Int32} {C : String} {T : u_T} {ty : Nat → FieldType} (hc : vwCl[ci]? = some (C, T, N)) (hk : k < N) (hin : ∀ w ∈ u_ws C T N, w ∈ mT) (hty : ∀ k, k < N → parseFieldDescriptor (T k).2.2.1 = some (ty k)) (hnm : ∀ a, a < N → ∀ b, b < N → a ≠ b → (T a).2.1 ≠ (T b).2.1) (hw : Cond.fieldLink Y.1.cls ix (T k).1 (T k).2.1 (T k).2.2.1 ∈ mT) (hfin : (T k).2.2.2 = true) (hti : ty k = .int) (hy : Y.1.name = "<init>") (hdc : (T k).1 = Y.1.cls) (hd : decode Y.2.1 pc = .ok (.putfield ix, 3)) (hg : m_pf h a ci k (.int x) = some h') (kk : m_J X Y d (pc + 3) L st h' r) : m_J X Y d pc L (.int x :: .ref a :: st) h r := by
  obtain ⟨fs, ha, he, hl, rfl⟩ := m_pf_spec hg
  refine ⟨kk.1, fun E p l e R s m args below meth c H locs ls n0 z0 Q Cx g1 g2 hh hls K => ?_⟩
  refine va_putF (v := .int x) (ty := .int) Cx.1 Cx.2.1 Cx.2.2.2.2.1 hin ty hty hnm Cx.2.2.2.1 Cx.2.2.2.2.2.1 hh.1 (m_D E h) hh.2 a (m_at ha he) hc k hk (Cx.2.2.2.2.1 _ hw) (fun _ q => q) hfin (Cx.2.2.2.2.2.2.2.1 hy) hdc (by rw [hty k hk, hti]) rfl rfl (by rw [List.length_map]; exact hl) hd (fun H1 locs1 hP hD hS => ?_)
  refine kk.2 E p l e R s m args below meth c H1 locs1 ls n0 z0 Q Cx g1 g2 (m_h.set ?_ hS) hls K
  have e1 : m_im E (.inr (ci, fs.set k (.int x))) = .inr (ci, (fs.map (m_ph E)).set k (.int x)) := by
    rw [show (Value.int x) = m_ph E (.int x) from rfl, m_setmap]; rfl
  rw [e1]
  exact hP
/-- a field of a reference -/
def m_isr (ty : FieldType) : Bool := match ty with
  | .object _ => true
  | .array _ => true
  | _ => false
theorem m_isr_ok {ty : FieldType} (h : m_isr ty = true) (q : Option Nat) : narrow ty (va_rf q) = va_rf q ∧ fits ty (va_rf q) = true := by
  cases ty <;> first | (cases q <;> exact ⟨rfl, rfl⟩) | cases h
theorem j_putr {a ci k ix N : Nat} {q : Option Nat} {C : String} {T : u_T} {ty : Nat → FieldType} (hc : vwCl[ci]? = some (C, T, N)) (hk : k < N) (hin : ∀ w ∈ u_ws C T N, w ∈ mT) (hty : ∀ k, k < N → parseFieldDescriptor (T k).2.2.1 = some (ty k)) (hnm : ∀ a, a < N → ∀ b, b < N → a ≠ b → (T a).2.1 ≠ (T b).2.1) (hw : Cond.fieldLink Y.1.cls ix (T k).1 (T k).2.1 (T k).2.2.1 ∈ mT) (hfin : (T k).2.2.2 = false) (hti : m_isr (ty k) = true) (hd : decode Y.2.1 pc = .ok (.putfield ix, 3)) (hg : m_pf h a ci k (va_rf q) = some h') (kk : m_J X Y d (pc + 3) L st h' r) : m_J X Y d pc L (va_rf q :: .ref a :: st) h r := by
  obtain ⟨fs, ha, he, hl, rfl⟩ := m_pf_spec hg
  refine ⟨kk.1, fun E p l e R s m args below meth c H locs ls n0 z0 Q Cx g1 g2 hh hls K => ?_⟩
  obtain ⟨o1, o2⟩ := m_isr_ok hti (q.map (fun k => E.2.1 + k))
  rw [← m_ph_rf] at o1 o2
  refine va_put (v := m_ph E (va_rf q)) (ty := ty k) Cx.1 Cx.2.1 Cx.2.2.2.2.1 hin ty hty hnm Cx.2.2.2.1 Cx.2.2.2.2.2.1 hh.1 (m_D E h) hh.2 a (m_at ha he) hc k hk (Cx.2.2.2.2.1 _ hw) (fun _ q => q) hfin (hty k hk) o1 o2 (by rw [List.length_map]; exact hl) hd (fun H1 locs1 hP hD hS => ?_)
  refine kk.2 E p l e R s m args below meth c H1 locs1 ls n0 z0 Q Cx g1 g2 (m_h.set ?_ hS) hls K
  have e1 : m_im E (.inr (ci, fs.set k (va_rf q))) = .inr (ci, (fs.map (m_ph E)).set k (m_ph E (va_rf q))) := by
    rw [m_setmap]; rfl
  rw [e1]
  exact hP
theorem j_putrF {a ci k ix N : Nat} {q : Option Nat} {C : String} {T : u_T} {ty : Nat → FieldType} (hc : vwCl[ci]? = some (C, T, N)) (hk : k < N) (hin : ∀ w ∈ u_ws C T N, w ∈ mT) (hty : ∀ k, k < N → parseFieldDescriptor (T k).2.2.1 = some (ty k)) (hnm : ∀ a, a < N → ∀ b, b < N → a ≠ b → (T a).2.1 ≠ (T b).2.1) (hw : Cond.fieldLink Y.1.cls ix (T k).1 (T k).2.1 (T k).2.2.1 ∈ mT) (hfin : (T k).2.2.2 = true) (hti : m_isr (ty k) = true) (hy : Y.1.name = "<init>") (hdc : (T k).1 = Y.1.cls) (hd : decode Y.2.1 pc = .ok (.putfield ix, 3)) (hg : m_pf h a ci k (va_rf q) = some h') (kk : m_J X Y d (pc + 3) L st h' r) : m_J X Y d pc L (va_rf q :: .ref a :: st) h r := by
  obtain ⟨fs, ha, he, hl, rfl⟩ := m_pf_spec hg
  refine ⟨kk.1, fun E p l e R s m args below meth c H locs ls n0 z0 Q Cx g1 g2 hh hls K => ?_⟩
  obtain ⟨o1, o2⟩ := m_isr_ok hti (q.map (fun k => E.2.1 + k))
  rw [← m_ph_rf] at o1 o2
  refine va_putF (v := m_ph E (va_rf q)) (ty := ty k) Cx.1 Cx.2.1 Cx.2.2.2.2.1 hin ty hty hnm Cx.2.2.2.1 Cx.2.2.2.2.2.1 hh.1 (m_D E h) hh.2 a (m_at ha he) hc k hk (Cx.2.2.2.2.1 _ hw) (fun _ q => q) hfin (Cx.2.2.2.2.2.2.2.1 hy) hdc (hty k hk) o1 o2 (by rw [List.length_map]; exact hl) hd (fun H1 locs1 hP hD hS => ?_)
  refine kk.2 E p l e R s m args below meth c H1 locs1 ls n0 z0 Q Cx g1 g2 (m_h.set ?_ hS) hls K
  have e1 : m_im E (.inr (ci, fs.set k (va_rf q))) = .inr (ci, (fs.map (m_ph E)).set k (m_ph E (va_rf q))) := by
    rw [m_setmap]; rfl
  rw [e1]
  exact hP
/-! arrays -/
theorem m_ild_spec {a : Nat} {i x : Int32} (hg : m_ild h a i = some x) : ∃ N f, a < h.1 ∧ h.2.2 a = .inl (0, N, .inl f) ∧ vp_in i N ∧ x = f i.toNatClampNeg := by
  unfold m_ild at hg
  split at hg
  · rename_i ha
    split at hg
    · rename_i t N f he
      split at hg
      · rename_i hc
        obtain ⟨rfl, hi⟩ := hc
        cases hg
        exact ⟨N, f, ha, he, hi, rfl⟩
      · cases hg
    · cases hg
  · cases hg
theorem j_iaload {a : Nat} {i x : Int32} (hd : decode Y.2.1 pc = .ok (.iaload, 1)) (hg : m_ild h a i = some x) (kk : m_J X Y d (pc + 1) L (.int x :: st) h r) : m_J X Y d pc L (.int i :: .ref a :: st) h r := by
  obtain ⟨N, f, ha, he, hi, rfl⟩ := m_ild_spec hg
  refine ⟨kk.1, fun E p l e R s m args below meth c H locs ls n0 z0 Q Cx g1 g2 hh hls K => ?_⟩
  exact va_iald Cx.1 Cx.2.1 Cx.2.2.2.2.2.1 hh.1 a 0 (by rw [m_ws_get ha, he]; rfl) rfl hi hd (kk.2 E p l e R s m args below meth c H locs ls n0 z0 Q Cx g1 g2 hh hls K)
theorem m_ist_spec {a : Nat} {i x : Int32} (hg : m_ist h a i x = some h') : ∃ N f, a < h.1 ∧ h.2.2 a = .inl (0, N, .inl f) ∧ vp_in i N ∧ h' = (h.1, h.2.1, va_up h.2.2 a (.inl (0, N, .inl (upd f i.toNatClampNeg x)))) := by
  unfold m_ist at hg
  split at hg
  · rename_i ha
    split at hg
    · rename_i t N f he
      split at hg
      · rename_i hc
        obtain ⟨rfl, hi⟩ := hc
        cases hg
        exact ⟨N, f, ha, he, hi, rfl⟩
      · cases hg
    · cases hg
  · cases hg
theorem j_iastore {a : Nat} {i x : Int32} (hd : decode Y.2.1 pc = .ok (.iastore, 1)) (hg : m_ist h a i x = some h') (kk : m_J X Y d (pc + 1) L st h' r) : m_J X Y d pc L (.int x :: .int i :: .ref a :: st) h r := by
  obtain ⟨N, f, ha, he, hi, rfl⟩ := m_ist_spec hg
  refine ⟨kk.1, fun E p l e R s m args below meth c H locs ls n0 z0 Q Cx g1 g2 hh hls K => ?_⟩
  exact va_iast Cx.1 Cx.2.1 Cx.2.2.2.2.2.1 hh.1 (m_D E h) hh.2 a 0 (by rw [m_ws_get ha, he]; rfl) rfl hi hd (fun H1 locs1 hP hD hS => kk.2 E p l e R s m args below meth c H1 locs1 ls n0 z0 Q Cx g1 g2 (m_h.set hP hS) hls K)
theorem m_lld_spec {a : Nat} {i : Int32} {x : Int64} (hg : m_lld h a i = some x) : ∃ N f, a < h.1 ∧ h.2.2 a = .inl (1, N, .inr (.inl f)) ∧ vp_in i N ∧ x = f i.toNatClampNeg := by
  unfold m_lld at hg
  split at hg
  · rename_i ha
    split at hg
    · rename_i t N f he
      split at hg
      · rename_i hc
        obtain ⟨rfl, hi⟩ := hc
        cases hg
        exact ⟨N, f, ha, he, hi, rfl⟩
      · cases hg
    · cases hg
  · cases hg
theorem j_laload {a : Nat} {i : Int32} {x : Int64} (hd : decode Y.2.1 pc = .ok (.laload, 1)) (hg : m_lld h a i = some x) (kk : m_J X Y d (pc + 1) L (.long x :: st) h r) : m_J X Y d pc L (.int i :: .ref a :: st) h r := by
  obtain ⟨N, f, ha, he, hi, rfl⟩ := m_lld_spec hg
  refine ⟨kk.1, fun E p l e R s m args below meth c H locs ls n0 z0 Q Cx g1 g2 hh hls K => ?_⟩
  exact va_lald Cx.1 Cx.2.1 Cx.2.2.2.2.2.1 hh.1 a 1 (by rw [m_ws_get ha, he]; rfl) rfl hi hd (kk.2 E p l e R s m args below meth c H locs ls n0 z0 Q Cx g1 g2 hh hls K)
theorem m_lst_spec {a : Nat} {i : Int32} {x : Int64} (hg : m_lst h a i x = some h') : ∃ N f, a < h.1 ∧ h.2.2 a = .inl (1, N, .inr (.inl f)) ∧ vp_in i N ∧ h' = (h.1, h.2.1, va_up h.2.2 a (.inl (1, N, .inr (.inl (vp_updL f i.toNatClampNeg x))))) := by
  unfold m_lst at hg
  split at hg
  · rename_i ha
    split at hg
    · rename_i t N f he
      split at hg
      · rename_i hc
        obtain ⟨rfl, hi⟩ := hc
        cases hg
        exact ⟨N, f, ha, he, hi, rfl⟩
      · cases hg
    · cases hg
  · cases hg
theorem j_lastore {a : Nat} {i : Int32} {x : Int64} (hd : decode Y.2.1 pc = .ok (.lastore, 1)) (hg : m_lst h a i x = some h') (kk : m_J X Y d (pc + 1) L st h' r) : m_J X Y d pc L (.long x :: .int i :: .ref a :: st) h r := by
  obtain ⟨N, f, ha, he, hi, rfl⟩ := m_lst_spec hg
  refine ⟨kk.1, fun E p l e R s m args below meth c H locs ls n0 z0 Q Cx g1 g2 hh hls K => ?_⟩
  exact va_last Cx.1 Cx.2.1 Cx.2.2.2.2.2.1 hh.1 (m_D E h) hh.2 a 1 (by rw [m_ws_get ha, he]; rfl) rfl hi hd (fun H1 locs1 hP hD hS => kk.2 E p l e R s m args below meth c H1 locs1 ls n0 z0 Q Cx g1 g2 (m_h.set hP hS) hls K)
/-- the class of an array's objects -/
theorem m_tys_r {E : mE} {t : Nat} (ht : 2 ≤ t ∧ t < 7) : ∃ r : vw_C, vwCl[m_tci t]? = some r ∧ (m_tys E)[t]? = some (E.2.2.2 t, .object r.1) := by
  obtain ⟨t1, t2⟩ := ht
  rcases (show t = 2 ∨ t = 3 ∨ t = 4 ∨ t = 5 ∨ t = 6 by omega) with rfl | rfl | rfl | rfl | rfl <;> exact ⟨_, rfl, rfl⟩
theorem m_tys_any {E : mE} {t : Nat} (ht : t < 7) : ∃ ty, (m_tys E)[t]? = some (E.2.2.2 t, ty) := by
  rcases (show t = 0 ∨ t = 1 ∨ t = 2 ∨ t = 3 ∨ t = 4 ∨ t = 5 ∨ t = 6 by omega) with rfl | rfl | rfl | rfl | rfl | rfl | rfl <;> exact ⟨_, rfl⟩
theorem m_ald_spec {a : Nat} {i : Int32} {q : Option Nat} (hg : m_ald h a i = some q) : ∃ t N f, a < h.1 ∧ h.2.2 a = .inl (t, N, .inr (.inr (.inr (.inr f)))) ∧ (2 ≤ t ∧ t < 7) ∧ vp_in i N ∧ q = f i.toNatClampNeg := by
  unfold m_ald at hg
  split at hg
  · rename_i ha
    split at hg
    · rename_i t N f he
      split at hg
      · rename_i hc
        cases hg
        exact ⟨t, N, f, ha, he, hc.1, hc.2, rfl⟩
      · cases hg
    · cases hg
  · cases hg
theorem j_aaload {a : Nat} {i : Int32} {q : Option Nat} (hd : decode Y.2.1 pc = .ok (.aaload, 1)) (hg : m_ald h a i = some q) (kk : m_J X Y d (pc + 1) L (va_rf q :: st) h r) : m_J X Y d pc L (.int i :: .ref a :: st) h r := by
  obtain ⟨t, N, f, ha, he, ht, hi, rfl⟩ := m_ald_spec hg
  refine ⟨kk.1, fun E p l e R s m args below meth c H locs ls n0 z0 Q Cx g1 g2 hh hls K => ?_⟩
  obtain ⟨rr, h1, h2⟩ := m_tys_r (E := E) ht
  refine va_aldq Cx.1 Cx.2.1 Cx.2.2.2.2.2.1 hh.1 a t (by rw [m_ws_get ha, he]; rfl) h2 hi hd ?_
  have hk := kk.2 E p l e R s m args below meth c H locs ls n0 z0 Q Cx g1 g2 hh hls K
  rw [List.map_cons, m_ph_rf] at hk
  exact hk
theorem m_ast_spec {a : Nat} {i : Int32} {q : Option Nat} (hg : m_ast h a i q = some h') : ∃ t N f, a < h.1 ∧ h.2.2 a = .inl (t, N, .inr (.inr (.inr (.inr f)))) ∧ (2 ≤ t ∧ t < 7) ∧ vp_in i N ∧ (∀ b, q = some b → m_ob h b (m_tci t) = true) ∧ h' = (h.1, h.2.1, va_up h.2.2 a (.inl (t, N, .inr (.inr (.inr (.inr (va_up f i.toNatClampNeg q))))))) := by
  unfold m_ast at hg
  split at hg
  · rename_i ha
    split at hg
    · rename_i t N f he
      split at hg
      · rename_i hc
        cases hg
        refine ⟨t, N, f, ha, he, hc.1.1, hc.1.2, fun b hb => ?_, rfl⟩
        subst hb
        exact hc.2
      · cases hg
    · cases hg
  · cases hg
theorem m_up_map {E : mE} {f : Nat → Option Nat} {k : Nat} {q : Option Nat} : (fun j => (va_up f k q j).map (fun k => E.2.1 + k)) = va_up (fun j => (f j).map (fun k => E.2.1 + k)) k (q.map (fun k => E.2.1 + k)) := by
  funext j
  by_cases hj : j = k
  · simp [va_up, hj]
  · simp [va_up, hj]
theorem j_aastore {a : Nat} {i : Int32} {q : Option Nat} (hd : decode Y.2.1 pc = .ok (.aastore, 1)) (hg : m_ast h a i q = some h') (kk : m_J X Y d (pc + 1) L st h' r) : m_J X Y d pc L (va_rf q :: .int i :: .ref a :: st) h r := by
  obtain ⟨t, N, f, ha, he, ht, hi, ho, rfl⟩ := m_ast_spec hg
  refine ⟨kk.1, fun E p l e R s m args below meth c H locs ls n0 z0 Q Cx g1 g2 hh hls K => ?_⟩
  obtain ⟨rr, h1, h2⟩ := m_tys_r (E := E) ht
  have e1 : m_im E (.inl (t, N, .inr (.inr (.inr (.inr (va_up f i.toNatClampNeg q)))))) = .inl (E.2.2.2 t, N, .inr (.inr (.inr (.inr (va_up (fun j => (f j).map (fun k => E.2.1 + k)) i.toNatClampNeg (q.map (fun k => E.2.1 + k))))))) := by
    rw [← m_up_map]; rfl
  cases q with
  | none =>
    refine va_astqN Cx.1 Cx.2.1 Cx.2.2.2.2.2.1 hh.1 (m_D E h) hh.2 a t (by rw [m_ws_get ha, he]; rfl) h2 hi hd (fun H1 locs1 hP hD hS => kk.2 E p l e R s m args below meth c H1 locs1 ls n0 z0 Q Cx g1 g2 (m_h.set ?_ hS) hls K)
    rw [e1]
    exact hP
  | some b =>
    obtain ⟨vs, hb, hbe⟩ := m_ob_spec (ho b rfl)
    refine va_astq Cx.1 Cx.2.1 Cx.2.2.2.2.2.1 hh.1 (m_D E h) hh.2 a t b (m_tci t) (by rw [m_ws_get ha, he]; rfl) h2 (m_at hb hbe) h1 hi hd (fun H1 locs1 hP hD hS => kk.2 E p l e R s m args below meth c H1 locs1 ls n0 z0 Q Cx g1 g2 (m_h.set ?_ hS) hls K)
    rw [e1]
    exact hP
theorem m_len_spec {a : Nat} {x : Int32} (hg : m_len h a = some x) : ∃ t A, a < h.1 ∧ h.2.2 a = .inl (t, A) ∧ t < 7 ∧ x = Int32.ofNat A.1 := by
  unfold m_len at hg
  split at hg
  · rename_i ha
    split at hg
    · rename_i t N f he
      split at hg
      · rename_i hc
        cases hg
        exact ⟨t, (N, f), ha, he, hc, rfl⟩
      · cases hg
    · cases hg
  · cases hg
theorem m_im_len {E : mE} (t : Nat) (A : vp_A) : ∃ B : vp_A, m_im E (.inl (t, A)) = .inl (E.2.2.2 t, B) ∧ B.1 = A.1 := by
  obtain ⟨N, f⟩ := A
  rcases f with f | f | f | f | f <;> exact ⟨_, rfl, rfl⟩
theorem j_alen {a : Nat} {x : Int32} (hd : decode Y.2.1 pc = .ok (.arraylength, 1)) (hg : m_len h a = some x) (kk : m_J X Y d (pc + 1) L (.int x :: st) h r) : m_J X Y d pc L (.ref a :: st) h r := by
  obtain ⟨t, A, ha, he, ht, rfl⟩ := m_len_spec hg
  refine ⟨kk.1, fun E p l e R s m args below meth c H locs ls n0 z0 Q Cx g1 g2 hh hls K => ?_⟩
  obtain ⟨ty, h2⟩ := m_tys_any (E := E) ht
  obtain ⟨B, e1, e2⟩ := m_im_len (E := E) t A
  exact va_alen Cx.1 Cx.2.1 Cx.2.2.2.2.2.1 hh.1 a t (x := B) (by rw [m_ws_get ha, he, e1]) h2 (by rw [e2]) hd (kk.2 E p l e R s m args below meth c H locs ls n0 z0 Q Cx g1 g2 hh hls K)
end JH
