/-! THE LOGICAL MACHINE: a heap of numbered cells over the physical one; a judgement m_J without the machine's own context -/
abbrev mE : Type := va_G × Nat × (Nat → Nat) × (Nat → ClassId)
abbrev mX : Type := Nat × (Nat → Int32)
abbrev mH : Type := Nat × Nat × (Nat → va_E)
abbrev mY : Type := MethodName × ByteArray × Nat × Option FieldType × Instr
abbrev mR : Type := Option Value × mH
def m_ph (E : mE) (v : Value) : Value := match v with
  | .ref k => .ref (E.2.1 + k)
  | .float b => .ref (E.2.2.1 b.toNat)
  | v => v
def m_im (E : mE) (e : va_E) : va_E := match e with
  | .inl (t, N, .inr (.inr (.inr (.inr f)))) => .inl (E.2.2.2 t, N, .inr (.inr (.inr (.inr (fun j => (f j).map (fun k => E.2.1 + k))))))
  | .inl (t, a) => .inl (E.2.2.2 t, a)
  | .inr (ci, fs) => .inr (ci, fs.map (m_ph E))
def m_ws (E : mE) (h : mH) : va_W := (List.range h.1).map (fun k => (E.2.1 + k, m_im E (h.2.2 k)))
def m_A (E : mE) : Nat → Prop := fun q => E.2.1 ≤ q
def m_ty : List FieldType := [.int, .long, .object RX7, .object RX0, .object RX6, .object RX2, .object RX4]
def m_tys (E : mE) : List (ClassId × FieldType) := [(E.2.2.2 0, .int), (E.2.2.2 1, .long), (E.2.2.2 2, .object RX7), (E.2.2.2 3, .object RX0), (E.2.2.2 4, .object RX6), (E.2.2.2 5, .object RX2), (E.2.2.2 6, .object RX4)]
/-- the tables: class, name, descriptor, element type, length, contents; the last is the script -/
def m_tc (i : Nat) : String × String × String := match i with
  | 0 => (RX1, "EXTENDED", "[J")
  | 1 => (RX1, "NAMED", "[J")
  | 2 => (RX1, "PARENT", "[I")
  | _ => (RX5, "MOST", "[I")
def m_tt (i : Nat) : FieldType := match i with
  | 0 => .long
  | 1 => .long
  | _ => .int
def m_t0 : List Int64 := [1099511627776, 3298534883328, 5497558138880, 8796093022208, 17592186044416, 35184372088832, 105553116266496, 175921860444160, 466192930177024]
def m_t1 : List Int64 := [0, 3298534883328, 0, 8796093022208, 0, 105553116266496, 17592186044416, 0, 175921860444160, 0, 12094627905536, 0, 0, 17592186044416, 5497558138880, 17592186044416, 175921860444160, 3298534883328, 17592186044416, 466192930177024, 3298534883328, 8796093022208, 175921860444160, 105553116266496]
def m_t2 : List Int32 := [-1, 0, 1, 1, 3, 3, 1, 6, 6, 0, 9, 10, 10, 12, 9, 14, 14, 9, 17, 17, 0, 20, 20, 21]
def m_t3 : List Int32 := [9, 99, 365, 1000, 9]
def m_tN (X : mX) (i : Nat) : Nat := match i with
  | 0 => 9
  | 1 => 24
  | 2 => 24
  | 3 => 5
  | _ => X.1
def m_tf (X : mX) (i : Nat) : Nat → Value := match i with
  | 0 => fun j => .long (m_t0.getD j 0)
  | 1 => fun j => .long (m_t1.getD j 0)
  | 2 => fun j => .int (m_t2.getD j 0)
  | 3 => fun j => .int (m_t3.getD j 0)
  | _ => fun j => .int (X.2 j)
/-- the class of the objects in an array of kind t -/
def m_tci (t : Nat) : Nat := match t with
  | 2 => 6
  | 3 => 0
  | 4 => 5
  | 5 => 1
  | _ => 3
def m_ao (t : Nat) : String := match t with
  | 2 => RX7
  | 3 => RX0
  | 4 => RX6
  | 5 => RX2
  | _ => RX4
def m_St (X : mX) (E : mE) (U : State) (H : Heap) : Prop :=
  (∀ i, i < 4 → va_Z (m_tc i).1 (m_tc i).2.1 (m_tc i).2.2 (.ref (E.2.2.1 i)) (m_A E) U H) ∧ (∀ i, i < 5 → va_T (m_tt i) (E.2.2.1 i) (m_tN X i) (m_tf X i) (m_A E) U H) ∧ ∀ t, va_AO (m_ao t) U
theorem m_St.moved {X : mX} {E : mE} {u U : State} {H : Heap} (hvm : u.vm.Alike U.vm) (h : m_St X E u H) : m_St X E U H := ⟨fun i hi => va_Z.moved hvm (h.1 i hi), fun i hi => va_T.moved hvm (h.2.1 i hi), fun t => va_AO.moved hvm (h.2.2 t)⟩
theorem m_St.kept {X : mX} {E : mE} {U : State} {H H1 : Heap} (h : m_St X E U H) (hq : ∀ a : Nat, a < H.size → ¬ m_A E a → H1[a]? = H[a]?) : m_St X E U H1 := ⟨fun i hi => (h.1 i hi).kept hq, fun i hi => (h.2.1 i hi).kept hq, h.2.2⟩
theorem m_ws_get {E : mE} {h : mH} {k : Nat} (hk : k < h.1) : (m_ws E h)[k]? = some (E.2.1 + k, m_im E (h.2.2 k)) := by
  unfold m_ws
  rw [List.getElem?_map, List.getElem?_range hk]
  rfl
theorem m_ws_len {E : mE} {h : mH} : (m_ws E h).length = h.1 := by simp [m_ws]
theorem m_ws_lt {E : mE} {h : mH} {k : Nat} {q : Nat × va_E} (hq : (m_ws E h)[k]? = some q) : k < h.1 := by
  have := (List.getElem?_eq_some_iff.mp hq).1
  rw [m_ws_len] at this
  exact this
theorem m_D (E : mE) (h : mH) : va_D (m_A E) (m_ws E h) := by
  refine ⟨fun i j p q hi hj hpq => ?_, fun k q hk => ?_⟩
  · rw [m_ws_get (m_ws_lt hi)] at hi
    rw [m_ws_get (m_ws_lt hj)] at hj
    cases hi; cases hj
    exact Nat.add_left_cancel hpq
  · rw [m_ws_get (m_ws_lt hk)] at hk
    cases hk
    exact Nat.le_add_right _ _
theorem m_ws_set {E : mE} {h : mH} {k : Nat} {e : va_E} (z : Nat) : (m_ws E h).set k (E.2.1 + k, m_im E e) = m_ws E (h.1, z, va_up h.2.2 k e) := by
  apply List.ext_getElem?
  intro j
  by_cases hj : j < h.1
  · rw [m_ws_get (h := (h.1, z, va_up h.2.2 k e)) hj]
    by_cases hjk : j = k
    · subst hjk
      rw [List.getElem?_set_self (by rw [m_ws_len]; exact hj)]
      simp [va_up]
    · rw [List.getElem?_set_ne (fun q => hjk q.symm), m_ws_get hj]
      simp [va_up, hjk]
  · rw [List.getElem?_eq_none (by rw [List.length_set, m_ws_len]; omega), List.getElem?_eq_none (by rw [m_ws_len]; simp; omega)]
theorem m_ws_push {E : mE} {h : mH} {e : va_E} (z : Nat) : m_ws E h ++ [(E.2.1 + h.1, m_im E e)] = m_ws E (h.1 + 1, z, va_up h.2.2 h.1 e) := by
  unfold m_ws
  rw [List.range_succ, List.map_append]
  congr 1
  · apply List.map_congr_left
    intro k hk
    have : k ≠ h.1 := Nat.ne_of_lt (List.mem_range.mp hk)
    simp [va_up, this]
  · simp [va_up]
/-- the world at a state -/
def m_Wd (X : mX) (E : mE) (h : mH) (U : State) : Prop := va_K E.1 vwCl (m_tys E) U ∧ va_P E.1 vwCl (m_ws E h) U.heap ∧ U.heap.size = E.2.1 + h.1 ∧ m_St X E U U.heap
/-- what a method returns, of its return type -/
def m_rk (rt : Option FieldType) (v : Option Value) : Prop := match rt with
  | none => v = none
  | some .boolean => v = some (.int 0) ∨ v = some (.int 1)
  | some .int => ∃ x, v = some (.int x)
  | some .long => ∃ x, v = some (.long x)
  | some (.object _) => ∃ q, v = some (va_rf q)
  | some _ => False
/-- what stays along a method's walk -/
def m_C (X : mX) (E : mE) (Y : mY) (d : Nat) (p : Program) (R : Room) (s : State) (m : MethodId) (args : Array Value) (meth : Method) (c : Code) (n0 z0 : Nat) (r : mR) : Prop :=
  p.tables.exec = Jvm.exec ∧ c.code = Y.2.1 ∧ c.maxLocals = Y.2.2.1 ∧ s.vm.findClass Y.1.cls = some m.cls ∧ (∀ w ∈ mT, w.before args s = true) ∧ va_K E.1 vwCl (m_tys E) s ∧ m_St X E s s.heap ∧ (Y.1.name = "<init>" → meth.name = "<init>") ∧ d ≤ R.frames ∧ 48 * d ≤ R.locals ∧ r.2.1 - n0 ≤ R.cells ∧ r.2.2.1 - z0 ≤ R.slots ∧ s.heap.size = E.2.1 + n0
def m_h (E : mE) (h : mH) (s : State) (H : Heap) (locs : List Loc) : Prop := va_P E.1 vwCl (m_ws E h) H ∧ va_S (m_A E) s.heap H locs
def m_l (E : mE) (Y : mY) (ls : Array Slot) (L : List (Option Value)) : Prop := ls.size = Y.2.2.1 ∧ lv_wf ls ∧ ∀ (i : Nat) (v : Value), L[i]? = some (some v) → ls[i]? = some (.val (m_ph E v))
def m_J (X : mX) (Y : mY) (d pc : Nat) (L : List (Option Value)) (st : List Value) (h : mH) (r : mR) : Prop :=
  (h.1 ≤ r.2.1 ∧ h.2.1 ≤ r.2.2.1) ∧ ∀ (E : mE) (p : Program) (l : Launch) (e : Env) (R : Room) (s : State) (m : MethodId) (args : Array Value) (below : List Frame) (meth : Method) (c : Code) (H : Heap) (locs : List Loc) (ls : Array Slot) (n0 z0 : Nat) (Q : State → Prop),
    m_C X E Y d p R s m args meth c n0 z0 r → n0 ≤ h.1 → z0 ≤ h.2.1 → m_h E h s H locs → m_l E Y ls L →
    (∀ (pc' : Nat) (ls' : Array Slot) (H' : Heap) (locs' : List Loc), decode Y.2.1 pc' = .ok (Y.2.2.2.2, 1) → m_rk Y.2.2.2.1 r.1 → m_h E r.2 s H' locs' → W p l e R s m args below meth c H' locs' (r.2.1 - n0) (r.2.2.1 - z0) Q (F0 m pc' ls' (r.1.toList.map (m_ph E)))) →
    W p l e R s m args below meth c H locs (h.1 - n0) (h.2.1 - z0) Q (F0 m pc ls (st.map (m_ph E)))
theorem m_ph_rf (E : mE) (q : Option Nat) : m_ph E (va_rf q) = va_rf (q.map (fun k => E.2.1 + k)) := by cases q <;> rfl
theorem m_ph_cat (E : mE) (v : Value) : (m_ph E v).category = v.category := by cases v <;> rfl
/-! locals -/
def m_pairs (E : mE) (L : List (Option Value)) : List (Nat × Value) := (List.range L.length).filterMap (fun i => match L[i]? with | some (some v) => some (i, m_ph E v) | _ => none)
theorem m_pairs_mem {E : mE} {L : List (Option Value)} {i : Nat} {w : Value} : (i, w) ∈ m_pairs E L ↔ ∃ v, L[i]? = some (some v) ∧ w = m_ph E v := by
  unfold m_pairs
  rw [List.mem_filterMap]
  constructor
  · rintro ⟨j, hj, h⟩
    cases hL : L[j]? with
    | none => rw [hL] at h; cases h
    | some o =>
      cases o with
      | none => rw [hL] at h; cases h
      | some v => rw [hL] at h; cases h; exact ⟨v, hL, rfl⟩
  · rintro ⟨v, h1, h2⟩
    refine ⟨i, List.mem_range.mpr (List.getElem?_eq_some_iff.mp h1).1, ?_⟩
    rw [h1, h2]
theorem m_l.has {E : mE} {Y : mY} {ls : Array Slot} {L : List (Option Value)} (h : m_l E Y ls L) : lv_has ls Y.2.2.1 (m_pairs E L) := by
  refine ⟨h.1, h.2.1, fun q hq => ?_⟩
  obtain ⟨i, w⟩ := q
  obtain ⟨v, h1, h2⟩ := m_pairs_mem.mp hq
  subst h2
  exact h.2.2 i v h1
theorem m_l.at {E : mE} {Y : mY} {ls : Array Slot} {L : List (Option Value)} (h : m_l E Y ls L) {i : Nat} {v : Value} (hv : L[i]? = some (some v)) : ls[i]? = some (.val (m_ph E v)) := h.2.2 i v hv
/-- no long stands just below place i -/
def m_nw (L : List (Option Value)) (i : Nat) : Bool := match i with
  | 0 => true
  | j + 1 => match L[j]? with
    | some (some v) => v.category == 1
    | _ => true
theorem m_l.put1 {E : mE} {Y : mY} {ls' : Array Slot} {L : List (Option Value)} {i : Nat} {v : Value} (hw : m_nw L i = true)
    (h' : lv_has ls' Y.2.2.1 ((i, m_ph E v) :: (m_pairs E L).filter (fun q => !(q.1 == i) && !(q.1 + 1 == i && q.2.category == 2)))) : m_l E Y ls' (L.set i (some v)) := by
  refine ⟨h'.1, h'.2.1, fun j w hj => ?_⟩
  by_cases hji : j = i
  · subst hji
    have hl : j < L.length := by have := (List.getElem?_eq_some_iff.mp hj).1; simpa using this
    rw [List.getElem?_set_self hl] at hj
    cases hj
    exact h'.2.2 (j, m_ph E v) List.mem_cons_self
  · rw [List.getElem?_set_ne (fun q => hji q.symm)] at hj
    refine h'.2.2 (j, m_ph E w) (List.mem_cons_of_mem _ (List.mem_filter.mpr ⟨m_pairs_mem.mpr ⟨w, hj, rfl⟩, ?_⟩))
    simp only [Bool.and_eq_true, Bool.not_eq_true', beq_eq_false_iff_ne, ne_eq, Bool.and_eq_false_iff]
    refine ⟨hji, ?_⟩
    by_cases hj1 : j + 1 = i
    · right
      subst hj1
      simp only [m_nw, hj, beq_iff_eq] at hw
      rw [m_ph_cat, hw]
      decide
    · exact Or.inl hj1
theorem m_l.put2 {E : mE} {Y : mY} {ls' : Array Slot} {L : List (Option Value)} {i : Nat} {v : Value} (hw : m_nw L i = true)
    (h' : lv_has ls' Y.2.2.1 ((i, m_ph E v) :: (m_pairs E L).filter (fun q => !(q.1 == i) && (!(q.1 == i + 1) && !(q.1 + 1 == i && q.2.category == 2))))) : m_l E Y ls' ((L.set i (some v)).set (i + 1) none) := by
  refine ⟨h'.1, h'.2.1, fun j w hj => ?_⟩
  by_cases hj2 : j = i + 1
  · subst hj2
    have hl : i + 1 < ((L.set i (some v)).set (i + 1) none).length := (List.getElem?_eq_some_iff.mp hj).1
    rw [List.getElem?_set_self (by simpa using hl)] at hj
    cases hj
  rw [List.getElem?_set_ne (fun q => hj2 q.symm)] at hj
  by_cases hji : j = i
  · subst hji
    have hl : j < L.length := by have := (List.getElem?_eq_some_iff.mp hj).1; simpa using this
    rw [List.getElem?_set_self hl] at hj
    cases hj
    exact h'.2.2 (j, m_ph E v) List.mem_cons_self
  · rw [List.getElem?_set_ne (fun q => hji q.symm)] at hj
    refine h'.2.2 (j, m_ph E w) (List.mem_cons_of_mem _ (List.mem_filter.mpr ⟨m_pairs_mem.mpr ⟨w, hj, rfl⟩, ?_⟩))
    simp only [Bool.and_eq_true, Bool.not_eq_true', beq_eq_false_iff_ne, ne_eq, Bool.and_eq_false_iff]
    refine ⟨hji, hj2, ?_⟩
    by_cases hj1 : j + 1 = i
    · right
      subst hj1
      simp only [m_nw, hj, beq_iff_eq] at hw
      rw [m_ph_cat, hw]
      decide
    · exact Or.inl hj1
/-- fewer locals known -/
def m_le : List (Option Value) → List (Option Value) → Prop
  | [], _ => True
  | none :: a, _ :: b => m_le a b
  | some v :: a, x :: b => x = some v ∧ m_le a b
  | _ :: _, [] => False
theorem m_le_at : ∀ {a b : List (Option Value)}, m_le a b → ∀ {i : Nat} {v : Value}, a[i]? = some (some v) → b[i]? = some (some v)
  | [], _, _, i, v, h => by simp at h
  | none :: a, x :: b, hle, i, v, h => by
    cases i with
    | zero => simp at h
    | succ i => rw [List.getElem?_cons_succ] at h ⊢; exact m_le_at (a := a) (b := b) hle h
  | some w :: a, x :: b, hle, i, v, h => by
    cases i with
    | zero => rw [List.getElem?_cons_zero] at h ⊢; rw [hle.1]; exact h
    | succ i => rw [List.getElem?_cons_succ] at h ⊢; exact m_le_at (a := a) (b := b) hle.2 h
  | none :: a, [], hle, i, v, h => hle.elim
  | some w :: a, [], hle, i, v, h => hle.elim
theorem j_weak {X : mX} {Y : mY} {d pc : Nat} {L L' : List (Option Value)} {st : List Value} {h : mH} {r : mR} (hle : m_le L' L) (k : m_J X Y d pc L' st h r) : m_J X Y d pc L st h r :=
  ⟨k.1, fun E p l e R s m args below meth c H locs ls n0 z0 Q C g1 g2 hh hl K => k.2 E p l e R s m args below meth c H locs ls n0 z0 Q C g1 g2 hh ⟨hl.1, hl.2.1, fun i v hv => hl.2.2 i v (m_le_at hle hv)⟩ K⟩
