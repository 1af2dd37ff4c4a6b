/-! making cells, tables, calls -/
section JN
variable {X : mX} {Y : mY} {d pc : Nat} {L : List (Option Value)} {st : List Value} {h h' : mH} {r : mR}
theorem m_size {p : Program} {l : Launch} {e : Env} {R : Room} {s : State} {m : MethodId} {args : Array Value} {below : List Frame} {meth : Method} {c : Code} {H : Heap} {locs : List Loc} {cells slots : Nat} {Q : State → Prop} {g : JFrame} (kk : H.size ≤ s.heap.size + cells → W p l e R s m args below meth c H locs cells slots Q g) : W p l e R s m args below meth c H locs cells slots Q g := fun T hT Z => kk (by rw [← hT]; exact Z.heapSize) T hT Z
/-- a new cell of the world stands at the next address -/
theorem m_next {E : mE} {h : mH} {H1 : Heap} {q : Nat} {e : va_E} (hP : va_P E.1 vwCl (m_ws E h ++ [(q, e)]) H1) (hD : va_D (m_A E) (m_ws E h ++ [(q, e)])) (hz : H1.size ≤ E.2.1 + (h.1 + 1)) : q = E.2.1 + h.1 := by
  have hl : (m_ws E h ++ [(q, e)])[h.1]? = some (q, e) := by
    rw [List.getElem?_append_right (by rw [m_ws_len]; exact Nat.le_refl _), m_ws_len, Nat.sub_self]
    rfl
  have h1 : q < H1.size := (hP h.1 _ hl).lt
  have h2 : E.2.1 ≤ q := hD.2 h.1 _ hl
  rcases Nat.lt_or_ge q (E.2.1 + h.1) with h3 | h3
  · have hk : q - E.2.1 < h.1 := by omega
    have h4 : (m_ws E h ++ [(q, e)])[q - E.2.1]? = some (E.2.1 + (q - E.2.1), m_im E (h.2.2 (q - E.2.1))) := by
      rw [List.getElem?_append_left (by rw [m_ws_len]; exact hk)]
      exact m_ws_get hk
    have h5 := hD.1 _ _ _ _ h4 hl (show E.2.1 + (q - E.2.1) = q by omega)
    omega
  · omega
theorem j_new {ci ix N : Nat} {C : String} {T : u_T} {ty : Nat → FieldType} {fs : List Value} (hc : vwCl[ci]? = some (C, T, N)) (hin : ∀ w ∈ u_ws C T N, w ∈ mT) (hty : ∀ k, k < N → parseFieldDescriptor (T k).2.2.1 = some (ty k)) (hw1 : Cond.classLink Y.1.cls ix C ∈ mT) (hw2 : Cond.instantiable C N ∈ mT) (hw3 : Cond.initialized C ∈ mT) (hfs : ∀ j, j < N → defaultValue (ty j) = vp_V fs j) (hl : fs.length = N) (hfp : ∀ E : mE, fs.map (m_ph E) = fs) (hd : decode Y.2.1 pc = .ok (.new ix, 3)) (kk : m_J X Y d (pc + 3) L (.ref h.1 :: st) (m_new h ci fs) r) : m_J X Y d pc L st h r := by
  have k1 := kk.1
  simp only [m_new] at k1
  refine ⟨⟨by omega, by omega⟩, fun E p l e R s m args below meth c H locs ls n0 z0 Q Cx g1 g2 hh hls K => ?_⟩
  obtain ⟨c1, c2, c3, c4, c5, c6, c7, c8, c9, c10, c11, c12, c13⟩ := id Cx
  refine va_new (ci := ci) (fs := fs) c1 c2 c5 hin ty hty c4 (c5 _ hw1) (c5 _ hw2) (c5 _ hw3) c6 hh.1 (m_D E h) hh.2 (fun q hq => by unfold m_A; omega) hc hfs (by omega) (by omega) hd (fun q H1 hP hD hS => ?_)
  refine m_size (fun hz => ?_)
  have hq := m_next hP hD (by omega)
  subst hq
  have e1 : m_im E (.inr (ci, fs)) = .inr (ci, fs) := by show Sum.inr (ci, fs.map (m_ph E)) = _; rw [hfp]
  have hk := kk.2 E p l e R s m args below meth c H1 locs ls n0 z0 Q Cx (by simp only [m_new]; omega) (by simp only [m_new]; omega) ⟨by unfold m_new; rw [← m_ws_push, e1]; exact hP, hS⟩ hls K
  simp only [m_new] at hk
  rw [show h.1 + 1 - n0 = h.1 - n0 + 1 by omega, show h.2.1 + fs.length - z0 = h.2.1 - z0 + N by omega] at hk
  exact hk
def m_newO (h : mH) (ci : Nat) (fs : List Value) : Option mH := some (m_new h ci fs)
theorem j_newO {ci ix N : Nat} {C : String} {T : u_T} {ty : Nat → FieldType} {fs : List Value} (hc : vwCl[ci]? = some (C, T, N)) (hin : ∀ w ∈ u_ws C T N, w ∈ mT) (hty : ∀ k, k < N → parseFieldDescriptor (T k).2.2.1 = some (ty k)) (hw1 : Cond.classLink Y.1.cls ix C ∈ mT) (hw2 : Cond.instantiable C N ∈ mT) (hw3 : Cond.initialized C ∈ mT) (hfs : ∀ j, j < N → defaultValue (ty j) = vp_V fs j) (hl : fs.length = N) (hfp : ∀ E : mE, fs.map (m_ph E) = fs) (hd : decode Y.2.1 pc = .ok (.new ix, 3)) (hg : m_newO h ci fs = some h') (kk : m_J X Y d (pc + 3) L (.ref h.1 :: st) h' r) : m_J X Y d pc L st h r := by
  cases hg
  exact j_new hc hin hty hw1 hw2 hw3 hfs hl hfp hd kk
theorem m_newi_spec {n : Int32} (hg : m_newi h n = some h') : ¬ n < 0 ∧ n.toNatClampNeg ≤ 100000 ∧ h' = (h.1 + 1, h.2.1 + n.toNatClampNeg, va_up h.2.2 h.1 (.inl (0, n.toNatClampNeg, .inl (fun _ => 0)))) := by
  unfold m_newi at hg
  split at hg
  · rename_i hc; cases hg; exact ⟨hc.1, hc.2, rfl⟩
  · cases hg
theorem m_newl_spec {n : Int32} (hg : m_newl h n = some h') : ¬ n < 0 ∧ n.toNatClampNeg ≤ 100000 ∧ h' = (h.1 + 1, h.2.1 + n.toNatClampNeg, va_up h.2.2 h.1 (.inl (1, n.toNatClampNeg, .inr (.inl (fun _ => 0))))) := by
  unfold m_newl at hg
  split at hg
  · rename_i hc; cases hg; exact ⟨hc.1, hc.2, rfl⟩
  · cases hg
theorem m_newr_spec {n : Int32} {t : Nat} (hg : m_newr h t n = some h') : ¬ n < 0 ∧ n.toNatClampNeg ≤ 100000 ∧ h' = (h.1 + 1, h.2.1 + n.toNatClampNeg, va_up h.2.2 h.1 (.inl (t, n.toNatClampNeg, .inr (.inr (.inr (.inr (fun _ => none))))))) := by
  unfold m_newr at hg
  split at hg
  · rename_i hc; cases hg; exact ⟨hc.1, hc.2, rfl⟩
  · cases hg
theorem j_newi {n : Int32} (hd : decode Y.2.1 pc = .ok (.newarray .int, 2)) (hg : m_newi h n = some h') (kk : m_J X Y d (pc + 2) L (.ref h.1 :: st) h' r) : m_J X Y d pc L (.int n :: st) h r := by
  obtain ⟨hn, hN, rfl⟩ := m_newi_spec hg
  have k1 := kk.1
  simp only at k1
  refine ⟨⟨by omega, by omega⟩, fun E p l e R s m args below meth c H locs ls n0 z0 Q Cx g1 g2 hh hls K => ?_⟩
  obtain ⟨c1, c2, c3, c4, c5, c6, c7, c8, c9, c10, c11, c12, c13⟩ := id Cx
  refine va_newa (atype := .int) (ty := .int) (a0 := (n.toNatClampNeg, .inl (fun _ => 0))) c1 c2 (c5 _ tw_1_104) rfl c6 hh.1 (m_D E h) hh.2 (fun q hq => by unfold m_A; omega) (fun cA => rfl) hn rfl (by show n.toNatClampNeg * 4 ≤ _; omega) (by omega) (by omega) hd (fun q cA H1 hK hP hD hS => ?_)
  refine m_size (fun hz => ?_)
  have hq := m_next hP hD (by omega)
  subst hq
  have hc1 : s.vm.findClass ("[" ++ FieldType.int.toString) = some cA := (hK.2 7 (cA, .int) rfl).2
  have hc2 : s.vm.findClass ("[" ++ FieldType.int.toString) = some (E.2.2.2 0) := (c6.2 0 (E.2.2.2 0, .int) rfl).2
  have hcA : cA = E.2.2.2 0 := Option.some.inj (hc1.symm.trans hc2)
  subst hcA
  have hk := kk.2 E p l e R s m args below meth c H1 locs ls n0 z0 Q Cx (by simp only; omega) (by simp only; omega) ⟨by rw [← m_ws_push]; exact hP, hS⟩ hls K
  simp only at hk
  rw [show h.1 + 1 - n0 = h.1 - n0 + 1 by omega, show h.2.1 + n.toNatClampNeg - z0 = h.2.1 - z0 + n.toNatClampNeg by omega] at hk
  exact hk
theorem j_newl {n : Int32} (hd : decode Y.2.1 pc = .ok (.newarray .long, 2)) (hg : m_newl h n = some h') (kk : m_J X Y d (pc + 2) L (.ref h.1 :: st) h' r) : m_J X Y d pc L (.int n :: st) h r := by
  obtain ⟨hn, hN, rfl⟩ := m_newl_spec hg
  have k1 := kk.1
  simp only at k1
  refine ⟨⟨by omega, by omega⟩, fun E p l e R s m args below meth c H locs ls n0 z0 Q Cx g1 g2 hh hls K => ?_⟩
  obtain ⟨c1, c2, c3, c4, c5, c6, c7, c8, c9, c10, c11, c12, c13⟩ := id Cx
  refine va_newa (atype := .long) (ty := .long) (a0 := (n.toNatClampNeg, .inr (.inl (fun _ => 0)))) c1 c2 (c5 _ tw_1_103) rfl c6 hh.1 (m_D E h) hh.2 (fun q hq => by unfold m_A; omega) (fun cA => rfl) hn rfl (by show n.toNatClampNeg * 8 ≤ _; omega) (by omega) (by omega) hd (fun q cA H1 hK hP hD hS => ?_)
  refine m_size (fun hz => ?_)
  have hq := m_next hP hD (by omega)
  subst hq
  have hc1 : s.vm.findClass ("[" ++ FieldType.long.toString) = some cA := (hK.2 7 (cA, .long) rfl).2
  have hc2 : s.vm.findClass ("[" ++ FieldType.long.toString) = some (E.2.2.2 1) := (c6.2 1 (E.2.2.2 1, .long) rfl).2
  have hcA : cA = E.2.2.2 1 := Option.some.inj (hc1.symm.trans hc2)
  subst hcA
  have hk := kk.2 E p l e R s m args below meth c H1 locs ls n0 z0 Q Cx (by simp only; omega) (by simp only; omega) ⟨by rw [← m_ws_push]; exact hP, hS⟩ hls K
  simp only at hk
  rw [show h.1 + 1 - n0 = h.1 - n0 + 1 by omega, show h.2.1 + n.toNatClampNeg - z0 = h.2.1 - z0 + n.toNatClampNeg by omega] at hk
  exact hk
theorem m_ao_ty {E : mE} {t : Nat} (ht : 2 ≤ t ∧ t < 7) : (m_tys E)[t]? = some (E.2.2.2 t, .object (m_ao t)) := by
  obtain ⟨t1, t2⟩ := ht
  rcases (show t = 2 ∨ t = 3 ∨ t = 4 ∨ t = 5 ∨ t = 6 by omega) with rfl | rfl | rfl | rfl | rfl <;> rfl
theorem j_newr {n : Int32} {t ix : Nat} (ht : 2 ≤ t ∧ t < 7) (hw : Cond.classLink Y.1.cls ix (m_ao t) ∈ mT) (hd : decode Y.2.1 pc = .ok (.anewarray ix, 3)) (hg : m_newr h t n = some h') (kk : m_J X Y d (pc + 3) L (.ref h.1 :: st) h' r) : m_J X Y d pc L (.int n :: st) h r := by
  obtain ⟨hn, hN, rfl⟩ := m_newr_spec hg
  have k1 := kk.1
  simp only at k1
  refine ⟨⟨by omega, by omega⟩, fun E p l e R s m args below meth c H locs ls n0 z0 Q Cx g1 g2 hh hls K => ?_⟩
  obtain ⟨c1, c2, c3, c4, c5, c6, c7, c8, c9, c10, c11, c12, c13⟩ := id Cx
  refine va_newq (C := m_ao t) c1 c2 c4 (c5 _ hw) (c7.2.2 t) c6 hh.1 (m_D E h) hh.2 (fun q hq => by unfold m_A; omega) hn rfl (by omega) (by omega) (by omega) hd (fun q cA H1 hK hP hD hS => ?_)
  refine m_size (fun hz => ?_)
  have hq := m_next hP hD (by omega)
  subst hq
  obtain ⟨-, -, -, -, -, hc1⟩ := (hK.2 7 (cA, .object (m_ao t)) rfl).2
  obtain ⟨-, -, -, -, -, hc2⟩ := (c6.2 t _ (m_ao_ty ht)).2
  have hcA : cA = E.2.2.2 t := Option.some.inj (hc1.symm.trans hc2)
  subst hcA
  have hk := kk.2 E p l e R s m args below meth c H1 locs ls n0 z0 Q Cx (by simp only; omega) (by simp only; omega) ⟨by rw [← m_ws_push]; exact hP, hS⟩ hls K
  simp only at hk
  rw [show h.1 + 1 - n0 = h.1 - n0 + 1 by omega, show h.2.1 + n.toNatClampNeg - z0 = h.2.1 - z0 + n.toNatClampNeg by omega] at hk
  exact hk
/-! tables -/
theorem j_gets {ix : Nat} (t : Nat) (ht : t < 4) (hw : Cond.fieldLink Y.1.cls ix (m_tc t).1 (m_tc t).2.1 (m_tc t).2.2 ∈ mT) (hd : decode Y.2.1 pc = .ok (.getstatic ix, 3)) (kk : m_J X Y d (pc + 3) L (.float (UInt32.ofNat t) :: st) h r) : m_J X Y d pc L st h r := by
  refine ⟨kk.1, fun E p l e R s m args below meth c H locs ls n0 z0 Q Cx g1 g2 hh hls K => ?_⟩
  have hk := kk.2 E p l e R s m args below meth c H locs ls n0 z0 Q Cx g1 g2 hh hls K
  have e1 : (UInt32.ofNat t).toNat = t := Nat.mod_eq_of_lt (by omega)
  have e2 : m_ph E (.float (UInt32.ofNat t)) = .ref (E.2.2.1 t) := by show Value.ref (E.2.2.1 (UInt32.ofNat t).toNat) = _; rw [e1]
  rw [List.map_cons, e2] at hk
  exact va_gets Cx.1 Cx.2.1 (Cx.2.2.2.2.2.2.1.1 t ht) hh.2 Cx.2.2.2.1 (Cx.2.2.2.2.1 _ hw) (fun _ q => q) hd hk
def m_tl (X : mX) (t : Nat) (i : Int32) : Option Int64 := if ¬ (i < 0 ∨ m_tN X t ≤ i.toNatClampNeg) then (match m_tf X t i.toNatClampNeg with
  | .long x => some x
  | _ => none) else none
def m_ti (X : mX) (t : Nat) (i : Int32) : Option Int32 := if ¬ (i < 0 ∨ m_tN X t ≤ i.toNatClampNeg) then (match m_tf X t i.toNatClampNeg with
  | .int x => some x
  | _ => none) else none
theorem m_tl_spec {t : Nat} {i : Int32} {x : Int64} (hg : m_tl X t i = some x) : vp_in i (m_tN X t) ∧ m_tf X t i.toNatClampNeg = .long x := by
  unfold m_tl at hg
  split at hg
  · rename_i hi
    split at hg
    · rename_i y hy; cases hg; exact ⟨hi, hy⟩
    · cases hg
  · cases hg
theorem m_ti_spec {t : Nat} {i : Int32} {x : Int32} (hg : m_ti X t i = some x) : vp_in i (m_tN X t) ∧ m_tf X t i.toNatClampNeg = .int x := by
  unfold m_ti at hg
  split at hg
  · rename_i hi
    split at hg
    · rename_i y hy; cases hg; exact ⟨hi, hy⟩
    · cases hg
  · cases hg
theorem m_phT {E : mE} {t : Nat} (ht : t < 5) : m_ph E (.float (UInt32.ofNat t)) = .ref (E.2.2.1 t) := by
  have e1 : (UInt32.ofNat t).toNat = t := Nat.mod_eq_of_lt (by omega)
  show Value.ref (E.2.2.1 (UInt32.ofNat t).toNat) = _
  rw [e1]
theorem j_tlal {i : Int32} {x : Int64} (t : Nat) (ht : t < 5) (hty : m_tt t = .long) (hd : decode Y.2.1 pc = .ok (.laload, 1)) (hg : m_tl X t i = some x) (kk : m_J X Y d (pc + 1) L (.long x :: st) h r) : m_J X Y d pc L (.int i :: .float (UInt32.ofNat t) :: st) h r := by
  obtain ⟨hi, hv⟩ := m_tl_spec hg
  refine ⟨kk.1, fun E p l e R s m args below meth c H locs ls n0 z0 Q Cx g1 g2 hh hls K => ?_⟩
  have hk := kk.2 E p l e R s m args below meth c H locs ls n0 z0 Q Cx g1 g2 hh hls K
  rw [List.map_cons, List.map_cons, m_phT ht]
  have hT := Cx.2.2.2.2.2.2.1.2.1 t ht
  rw [hty] at hT
  exact va_tl Cx.1 Cx.2.1 hT hh.2 hi hv hd hk
theorem j_tial {i : Int32} {x : Int32} (t : Nat) (ht : t < 5) (hty : m_tt t = .int) (hd : decode Y.2.1 pc = .ok (.iaload, 1)) (hg : m_ti X t i = some x) (kk : m_J X Y d (pc + 1) L (.int x :: st) h r) : m_J X Y d pc L (.int i :: .float (UInt32.ofNat t) :: st) h r := by
  obtain ⟨hi, hv⟩ := m_ti_spec hg
  refine ⟨kk.1, fun E p l e R s m args below meth c H locs ls n0 z0 Q Cx g1 g2 hh hls K => ?_⟩
  have hk := kk.2 E p l e R s m args below meth c H locs ls n0 z0 Q Cx g1 g2 hh hls K
  rw [List.map_cons, List.map_cons, m_phT ht]
  have hT := Cx.2.2.2.2.2.2.1.2.1 t ht
  rw [hty] at hT
  exact va_ti Cx.1 Cx.2.1 hT hh.2 hi hv hd hk
theorem j_tlen (t : Nat) (ht : t < 5) (hd : decode Y.2.1 pc = .ok (.arraylength, 1)) (kk : m_J X Y d (pc + 1) L (.int (Int32.ofNat (m_tN X t)) :: st) h r) : m_J X Y d pc L (.float (UInt32.ofNat t) :: st) h r := by
  refine ⟨kk.1, fun E p l e R s m args below meth c H locs ls n0 z0 Q Cx g1 g2 hh hls K => ?_⟩
  have hk := kk.2 E p l e R s m args below meth c H locs ls n0 z0 Q Cx g1 g2 hh hls K
  rw [List.map_cons, m_phT ht]
  exact va_tlen Cx.1 Cx.2.1 (Cx.2.2.2.2.2.2.1.2.1 t ht) hh.2 rfl hd hk
/-! calls -/
def m_sl (as : List Value) : List (Option Value) := as.flatMap fun v => if v.category = 2 then [some v, none] else [some v]
def m_args (as : List Value) (n : Nat) : List (Option Value) := m_sl as ++ List.replicate (n - (m_sl as).length) none
theorem m_args_at {E : mE} : ∀ (as : List Value) (i j : Nat) (v : Value), (m_sl as)[j]? = some (some v) → (i + j, m_ph E v) ∈ lv_args i (as.map (m_ph E))
  | [], i, j, v, h => by simp [m_sl] at h
  | a :: as, i, j, v, h => by
    rw [show m_sl (a :: as) = (if a.category = 2 then [some a, none] else [some a]) ++ m_sl as from List.flatMap_cons] at h
    by_cases hc : a.category = 2
    · rw [if_pos hc] at h
      show _ ∈ (i, m_ph E a) :: lv_args (if (m_ph E a).category = 2 then i + 2 else i + 1) (as.map (m_ph E))
      rw [m_ph_cat, if_pos hc]
      match j, h with
      | 0, h => cases h; exact List.mem_cons_self
      | 1, h => cases h
      | j + 2, h =>
        have := m_args_at (E := E) as (i + 2) j v (by simpa using h)
        rw [show i + (j + 2) = i + 2 + j by omega]
        exact List.mem_cons_of_mem _ this
    · rw [if_neg hc] at h
      show _ ∈ (i, m_ph E a) :: lv_args (if (m_ph E a).category = 2 then i + 2 else i + 1) (as.map (m_ph E))
      rw [m_ph_cat, if_neg hc]
      match j, h with
      | 0, h => cases h; exact List.mem_cons_self
      | j + 1, h =>
        have := m_args_at (E := E) as (i + 1) j v (by simpa using h)
        rw [show i + (j + 1) = i + 1 + j by omega]
        exact List.mem_cons_of_mem _ this
theorem m_sl_len {E : mE} (as : List Value) : (lg_sl (as.map (m_ph E))).length = (m_sl as).length := by
  induction as with
  | nil => rfl
  | cons a as ih =>
    have e1 : lg_sl ((a :: as).map (m_ph E)) = (if (m_ph E a).category = 2 then [.val (m_ph E a), .second] else [.val (m_ph E a)]) ++ lg_sl (as.map (m_ph E)) := by simp [lg_sl]
    rw [e1, List.length_append, ih, show m_sl (a :: as) = (if a.category = 2 then [some a, none] else [some a]) ++ m_sl as from List.flatMap_cons, List.length_append, m_ph_cat]
    by_cases hc : a.category = 2 <;> simp [hc]
theorem m_args_len {as : List Value} {n : Nat} (h : (m_args as n).length = n) : (m_sl as).length ≤ n := by
  unfold m_args at h
  rw [List.length_append, List.length_replicate] at h
  omega
/-- what the tables say of a method: its name is plain, its code, class and return -/
def m_Ok (Y : mY) : Prop := plainFor Y.1 = true ∧ (Y.1.cls ≠ "java/lang/invoke/MethodHandle" ∧ Y.1.cls ≠ "java/lang/invoke/VarHandle") ∧ Cond.code Y.1 Y.2.1 Y.2.2.1 Y.2.2.2.1 ∈ mT ∧ Cond.initialized Y.1.cls ∈ mT ∧ Y.2.2.1 ≤ 29 ∧
  ((Y.2.2.2.1 = none ∧ Y.2.2.2.2 = .return_) ∨ ((Y.2.2.2.1 = some .int ∨ Y.2.2.2.1 = some .boolean) ∧ Y.2.2.2.2 = .ireturn) ∨ (Y.2.2.2.1 = some .long ∧ Y.2.2.2.2 = .lreturn) ∨ (∃ n, Y.2.2.2.1 = some (.object n)) ∧ Y.2.2.2.2 = .areturn)
def m_rm (d mc ms : Nat) : Room := { frames := d, cells := mc, slots := ms, locals := 48 * d }
def m_Pc (X : mX) (E : mE) (as : List Value) (h : mH) : Array Value → State → Prop := va_Pc (as.map (m_ph E)) (fun U => m_Wd X E h U)
def m_Qc (X : mX) (E : mE) (r : mR) : Array Value → State → Outcome → State → Prop := fun _ st o t => o = .returned (r.1.map (m_ph E)) ∧ m_Wd X E r.2 t ∧ va_F (m_A E) st t
theorem m_Wd.moved {X : mX} {E : mE} {h : mH} {u U : State} (hvm : u.vm.Alike U.vm) (hh : U.heap = u.heap) (w : m_Wd X E h u) : m_Wd X E h U := by
  obtain ⟨w1, w2, w3, w4⟩ := w
  exact ⟨va_K.moved hvm w1, by rw [hh]; exact w2, by rw [hh]; exact w3, by rw [hh]; exact w4.moved hvm⟩
theorem m_low {E : mE} {h : mH} {H : Heap} (hP : va_P E.1 vwCl (m_ws E h) H) (h0 : E.2.1 ≤ H.size) : E.2.1 + h.1 ≤ H.size := by
  rcases Nat.eq_zero_or_pos h.1 with hz | hz
  · rw [hz]; exact h0
  · have := (hP (h.1 - 1) _ (m_ws_get (by omega))).lt
    simp only at this
    omega
set_option maxHeartbeats 1000000 in
theorem m_met {X : mX} {Y : mY} {d : Nat} {as : List Value} {h : mH} {r : mR} (hok : m_Ok Y) (hJ : m_J X Y d 0 (m_args as Y.2.2.1) [] h r) (hlen : (m_sl as).length ≤ Y.2.2.1) (l : Launch) (E : mE) :
    Met l Y.1 (Cond.code Y.1 Y.2.1 Y.2.2.1 Y.2.2.2.1 :: mT) (m_rm d (r.2.1 - h.1) (r.2.2.1 - h.2.1)) (m_Pc X E as h) (m_Qc X E r) (r.2.1 - h.1) (r.2.2.1 - h.2.1) (m_A E) := by
  obtain ⟨o1, o2, o3, o4, o5, o6⟩ := hok
  refine MetFree.of_bodySF (code := Y.2.1) (maxLocals := Y.2.2.1) (ret := Y.2.2.2.1) o1 ?_ ?_
  · intro args s m hpre hn
    obtain ⟨meth, c, h1, h2, h3, h4, h5, h6, -, -⟩ := Cond.code_spec hn (atoms_spec (ws := Cond.code Y.1 Y.2.1 Y.2.2.1 Y.2.2.2.1 :: mT) hpre _ List.mem_cons_self)
    exact ⟨meth, c, h1, h2, h3, h4, h5, h6⟩
  intro p e s m args below meth c s₁ B hml hv _
  have hh0 : s₁.heap = s.heap := by rw [B.state]; rfl
  obtain ⟨rfl, wd⟩ := hv
  obtain ⟨w1, w2, w3, w4⟩ := wd
  have hts := atoms_spec (ws := Cond.code Y.1 Y.2.1 Y.2.2.1 Y.2.2.2.1 :: mT) B.pre
  have hown : s.vm.findClass Y.1.cls = some m.cls := findClass_of_methodNamed B.named
  have hin : meth.name = Y.1.name := (name_of_methodNamed B.named B.method).1
  have hl := lv_entry (as.map (m_ph E)) (n := Y.2.2.1) (by rw [m_sl_len]; exact hlen)
  have K : W p l e (m_rm d (r.2.1 - h.1) (r.2.2.1 - h.2.1)) s m (as.map (m_ph E)).toArray below meth c s.heap [] (h.1 - h.1) (h.2.1 - h.2.1) (MQ below (m_Qc X E r) (as.map (m_ph E)).toArray s (r.2.1 - h.1) (r.2.2.1 - h.2.1) (m_A E)) (entryFrame m (as.map (m_ph E)).toArray Y.2.2.1) := by
    rw [lg_entry_eq]
    refine hJ.2 E p l e _ s m _ below meth c s.heap [] _ h.1 h.2.1 _ ⟨B.exec, B.bytes, hml, hown, fun w hw => hts w (List.mem_cons_of_mem _ hw), w1, w4, fun hy => hin.trans hy, Nat.le_refl _, Nat.le_refl _, Nat.le_refl _, Nat.le_refl _, w3⟩ (Nat.le_refl _) (Nat.le_refl _) ⟨w2, va_S.rf⟩ ⟨hl.1, hl.2.1, fun i v hi => ?_⟩ ?_
    · refine hl.2.2 (i, m_ph E v) ?_
      unfold m_args at hi
      rcases Nat.lt_or_ge i (m_sl as).length with q | q
      · rw [List.getElem?_append_left q] at hi
        have := m_args_at (E := E) as 0 i v hi
        rwa [Nat.zero_add] at this
      · rw [List.getElem?_append_right q] at hi
        have := List.eq_of_mem_replicate (List.mem_of_getElem? hi)
        cases this
    · intro pc' ls' H' locs' hdec hrk hh'
      refine m_size (fun hz => ?_)
      have hq : ∀ t : State, t.heap = H' → s.WarmedH t.vm → m_Qc X E r (as.map (m_ph E)).toArray s (.returned (r.1.map (m_ph E))) t := by
        intro t ht hW
        have hs0 : va_S (m_A E) s.heap H' locs' := hh'.2
        refine ⟨rfl, ⟨va_K.moved hW.alike w1, by rw [ht]; exact hh'.1, ?_, ?_⟩, hs0.F ht⟩
        · have z1 := hs0.1
          have z2 := m_low hh'.1 (by omega)
          have z3 := hJ.1.1
          rw [ht]
          omega
        · rw [ht]
          exact (w4.kept (fun a ha hA => hs0.2.1 a ha hA)).moved hW.alike
      have hlk := B.notSynchronized
      have hret := B.returns
      rcases o6 with ⟨e1, e2⟩ | ⟨e1 | e1, e2⟩ | ⟨e1, e2⟩ | ⟨⟨nn, e1⟩, e2⟩
      · rw [e1] at hrk hret
        rw [e2] at hdec
        have e3 : r.1 = none := hrk
        rw [e3] at hq ⊢
        exact W.vret B.exec B.bytes hret hq hh'.2.2.2 hdec
      · rw [e1] at hrk hret
        rw [e2] at hdec
        obtain ⟨x, e3⟩ := hrk
        rw [e3] at hq ⊢
        exact W.iret B.exec B.bytes hret hq hh'.2.2.2 hdec
      · rw [e1] at hrk hret
        rw [e2] at hdec
        rcases hrk with e3 | e3
        · rw [e3] at hq ⊢
          exact W.zret B.exec B.bytes hret rfl hq hh'.2.2.2 hdec
        · rw [e3] at hq ⊢
          exact W.zret B.exec B.bytes hret rfl hq hh'.2.2.2 hdec
      · rw [e1] at hrk hret
        rw [e2] at hdec
        obtain ⟨x, e3⟩ := hrk
        rw [e3] at hq ⊢
        exact W.lret B.exec B.bytes hret hq hh'.2.2.2 hdec
      · rw [e1] at hrk hret
        rw [e2] at hdec
        obtain ⟨x, e3⟩ := hrk
        rw [e3] at hq ⊢
        refine W.aret (rt := .object nn) B.exec B.bytes hret (Or.inl ⟨nn, rfl⟩) ?_ hq hh'.2.2.2 hdec
        cases x with
        | none => exact Or.inl rfl
        | some a => exact Or.inr ⟨_, rfl⟩
  rw [Nat.sub_self, Nat.sub_self] at K
  obtain ⟨t, a1, o, b1, b2, b3⟩ := K s₁ hh0 (Stand.of_body B)
  exact ⟨t, o, a1, b1, b2, ⟨b3.1, b3.2⟩⟩
theorem m_run {X : mX} {E : mE} {r' : mR} {p : Program} {l : Launch} {e : Env} {R : Room} {s : State} {m : MethodId} {args a : Array Value} {below : List Frame} {meth : Method} {c : Code} {H : Heap} {locs : List Loc} {cells slots mc ms pc : Nat} {Q : State → Prop} {ls : Array Slot} {st0 rest : List Value}
    (hr : va_Run p l e R s m args below meth c H locs cells slots mc ms (F0 m pc ls st0) rest (m_Qc X E r' a) (m_A E)) (hS : va_S (m_A E) s.heap H locs)
    (kk : ∀ (H1 : Heap) (locs1 : List Loc), va_P E.1 vwCl (m_ws E r'.2) H1 → va_S (m_A E) s.heap H1 locs1 → W p l e R s m args below meth c H1 locs1 (cells + mc) (slots + ms) Q (F0 m (pc + 3) ls ((r'.1.map (m_ph E)).toList ++ rest))) : W p l e R s m args below meth c H locs cells slots Q (F0 m pc ls st0) := by
  intro T hT Z
  obtain ⟨v, st₀, t, T', L', h0, Z', hL, e1, e2, ⟨hv, wd, hz, hk⟩, stp⟩ := hr T hT Z
  cases hv
  rw [h0] at hz hk
  obtain ⟨t2, a1, b1⟩ := kk T'.heap (locs ++ L') (by rw [e1]; exact wd.2.1) ⟨Nat.le_trans hS.1 (by rw [e1]; exact hz), fun q h1 h2 => by rw [e1, hk q (Nat.lt_of_lt_of_le h1 hS.1) h2]; exact hS.2.1 q h1 h2, fun q hq => by
      rcases List.mem_append.mp hq with h | h
      · exact hS.2.2 q h
      · exact hL q h⟩ T' rfl Z'
  exact ⟨t2, stp t2 a1, b1⟩
theorem m_toL {E : mE} (v : Option Value) : (v.map (m_ph E)).toList = v.toList.map (m_ph E) := by cases v <;> rfl
/-- the world of a callee's start, out of the caller's -/
theorem m_pre {X : mX} {E : mE} {h : mH} {s : State} {H : Heap} {locs : List Loc} (hK : va_K E.1 vwCl (m_tys E) s) (hSt : m_St X E s s.heap) (hh : m_h E h s H locs) (hz : H.size = E.2.1 + h.1) (U : State) (hU : U.heap = H) (hW : s.WarmedH U.vm) : m_Wd X E h U :=
  ⟨va_K.moved hW.alike hK, by rw [hU]; exact hh.1, by rw [hU]; exact hz, by rw [hU]; exact (hSt.kept (fun a ha hA => hh.2.2.1 a ha hA)).moved hW.alike⟩
theorem m_blind {X : mX} {E : mE} {as : List Value} {h : mH} : FrameBlind (m_Pc X E as h) := fun a U g mk q => ⟨q.1, m_Wd.moved (u := U) (U := U.calling g mk a) (Vm.Alike.refl U.vm) rfl q.2⟩
theorem m_catsum {E : mE} {st : List Value} (h : (st.map fun v => v.category).sum ≤ 8) : ((st.map (m_ph E)).map fun v => v.category).sum ≤ 8 := by
  rw [List.map_map, show ((fun v : Value => v.category) ∘ m_ph E) = (fun v => v.category) from funext (m_ph_cat E)]
  exact h
set_option maxHeartbeats 1000000 in
theorem j_callS {Y' : mY} {r' : mR} {as : List Value} {ix : Nat} (hok : m_Ok Y') (L0 : List (Option Value)) (hA : m_args as Y'.2.2.1 = L0) (h0 : L0.length = Y'.2.2.1) (hw : Cond.methodLink Y.1.cls ix Y'.1 ∈ mT) (hw2 : Cond.static Y'.1 ∈ mT) (hn : (parseMethodDescriptor Y'.1.desc).map (fun q => q.parameters.length) = some as.length) (hst : (st.map fun v => v.category).sum ≤ 8) (hd : decode Y.2.1 pc = .ok (.invokestatic ix, 3)) (hJ : m_J X Y' d 0 L0 [] h r') (kk : m_J X Y (d + 1) (pc + 3) L (r'.1.toList ++ st) r'.2 r) : m_J X Y (d + 1) pc L (as.reverse ++ st) h r := by
  refine ⟨⟨Nat.le_trans hJ.1.1 kk.1.1, Nat.le_trans hJ.1.2 kk.1.2⟩, fun E p l e R s m args below meth c H locs ls n0 z0 Q Cx g1 g2 hh hls K => ?_⟩
  obtain ⟨c1, c2, c3, c4, c5, c6, c7, c8, c9, c10, c11, c12, c13⟩ := id Cx
  subst hA
  have j1 := hJ.1
  have k1 := kk.1
  refine m_size (fun hz => ?_)
  have hz2 := m_low hh.1 (by have := hh.2.1; omega)
  have hz3 : H.size = E.2.1 + h.1 := by omega
  have hM := m_met hok hJ (m_args_len h0) l E
  have cw : CallB R s args Y.1.cls ix Y'.1 Y'.2.1 Y'.2.2.1 Y'.2.2.2.1 (Cond.code Y'.1 Y'.2.1 Y'.2.2.1 Y'.2.2.2.1 :: mT) (m_rm d (r'.2.1 - h.1) (r'.2.2.1 - h.2.1)) (r'.2.1 - h.1) (r'.2.2.1 - h.2.1) as.length :=
    callB_of (Ts := mT) as.length c5 (fun w hw => by
      rcases List.mem_cons.mp hw with rfl | q
      · exact mT_good _ hok.2.2.1
      · exact mT_good _ q) rfl rfl rfl (c5 _ hok.2.2.2.1) (c5 _ hw) ⟨hok.2.1.1, hok.2.1.2, hn⟩ ⟨by show d + 1 ≤ _; omega, by show 8 + (Y'.2.2.1 + 11) + 48 * d ≤ _; have := hok.2.2.2.2.1; omega⟩
  have hr := va_runS (p := p) (e := e) (below := below) (meth := meth) (locs := locs) (cells := h.1 - n0) (slots := h.2.1 - z0) (As := as.map (m_ph E)) (rest := st.map (m_ph E)) (g := F0 m pc ls ((as.reverse ++ st).map (m_ph E))) (Ts := mT) ⟨c1, c2, c3, c4, c5⟩ hM ⟨cw, c5 _ hw2⟩ ⟨m_blind, fun U hU hW => ⟨rfl, m_pre c6 c7 hh hz3 U hU hW⟩⟩ rfl (List.length_map _) hls.1 (by show (as.reverse ++ st).map (m_ph E) = _; rw [List.map_append, List.map_reverse]) (lv_room (m_catsum hst)) hd ⟨by omega, by omega⟩
  refine m_run hr hh.2 (fun H1 locs1 hP hS => ?_)
  have hk := kk.2 E p l e R s m args below meth c H1 locs1 ls n0 z0 Q Cx (by omega) (by omega) ⟨hP, hS⟩ hls K
  rw [List.map_append, ← m_toL, show r'.2.1 - n0 = h.1 - n0 + (r'.2.1 - h.1) by omega, show r'.2.2.1 - z0 = h.2.1 - z0 + (r'.2.2.1 - h.2.1) by omega] at hk
  exact hk
set_option maxHeartbeats 1000000 in
theorem j_callV {Y' : mY} {r' : mR} {as : List Value} {ix a ci N : Nat} {T : u_T} (hok : m_Ok Y') (L0 : List (Option Value)) (hA : m_args (.ref a :: as) Y'.2.2.1 = L0) (h0 : L0.length = Y'.2.2.1) (hc : vwCl[ci]? = some (Y'.1.cls, T, N)) (hw : Cond.methodLink Y.1.cls ix Y'.1 ∈ mT) (hw2 : Cond.instanceMethod Y'.1 ∈ mT) (hw3 : Cond.selects Y'.1.cls Y'.1 Y'.1 ∈ mT) (hn : (parseMethodDescriptor Y'.1.desc).map (fun q => q.parameters.length) = some as.length) (hst : (st.map fun v => v.category).sum ≤ 8) (hd : decode Y.2.1 pc = .ok (.invokevirtual ix, 3)) (ho : m_ob h a ci = true) (hJ : m_J X Y' d 0 L0 [] h r') (kk : m_J X Y (d + 1) (pc + 3) L (r'.1.toList ++ st) r'.2 r) : m_J X Y (d + 1) pc L (as.reverse ++ .ref a :: st) h r := by
  refine ⟨⟨Nat.le_trans hJ.1.1 kk.1.1, Nat.le_trans hJ.1.2 kk.1.2⟩, fun E p l e R s m args below meth c H locs ls n0 z0 Q Cx g1 g2 hh hls K => ?_⟩
  obtain ⟨c1, c2, c3, c4, c5, c6, c7, c8, c9, c10, c11, c12, c13⟩ := id Cx
  subst hA
  have j1 := hJ.1
  have k1 := kk.1
  refine m_size (fun hz => ?_)
  have hz2 := m_low hh.1 (by have := hh.2.1; omega)
  have hz3 : H.size = E.2.1 + h.1 := by omega
  have hM := m_met hok hJ (m_args_len h0) l E
  have cw : CallB R s args Y.1.cls ix Y'.1 Y'.2.1 Y'.2.2.1 Y'.2.2.2.1 (Cond.code Y'.1 Y'.2.1 Y'.2.2.1 Y'.2.2.2.1 :: mT) (m_rm d (r'.2.1 - h.1) (r'.2.2.1 - h.2.1)) (r'.2.1 - h.1) (r'.2.2.1 - h.2.1) as.length :=
    callB_of (Ts := mT) as.length c5 (fun w hw => by
      rcases List.mem_cons.mp hw with rfl | q
      · exact mT_good _ hok.2.2.1
      · exact mT_good _ q) rfl rfl rfl (c5 _ hok.2.2.2.1) (c5 _ hw) ⟨hok.2.1.1, hok.2.1.2, hn⟩ ⟨by show d + 1 ≤ _; omega, by show 8 + (Y'.2.2.1 + 11) + 48 * d ≤ _; have := hok.2.2.2.2.1; omega⟩
  obtain ⟨fs, ha, hae⟩ := m_ob_spec ho
  have hr := va_runV (p := p) (e := e) (below := below) (meth := meth) (locs := locs) (cells := h.1 - n0) (slots := h.2.1 - z0) (As := as.map (m_ph E)) (rest := st.map (m_ph E)) (b := E.2.1 + a) (C := Y'.1.cls) (g := F0 m pc ls ((as.reverse ++ .ref a :: st).map (m_ph E))) (Ts := mT) ⟨c1, c2, c3, c4, c5⟩ hM ⟨cw, c5 _ hw2, c5 _ hw3⟩ ⟨m_blind, va_recv c6 hh.1 hc (m_at ha hae), fun U hU hW => ⟨rfl, m_pre c6 c7 hh hz3 U hU hW⟩⟩ rfl (List.length_map _) hls.1 (by show (as.reverse ++ .ref a :: st).map (m_ph E) = _; rw [List.map_append, List.map_reverse]; rfl) (lv_room (m_catsum hst)) hd ⟨by omega, by omega⟩
  refine m_run hr hh.2 (fun H1 locs1 hP hS => ?_)
  have hk := kk.2 E p l e R s m args below meth c H1 locs1 ls n0 z0 Q Cx (by omega) (by omega) ⟨hP, hS⟩ hls K
  rw [List.map_append, ← m_toL, show r'.2.1 - n0 = h.1 - n0 + (r'.2.1 - h.1) by omega, show r'.2.2.1 - z0 = h.2.1 - z0 + (r'.2.2.1 - h.2.1) by omega] at hk
  exact hk
set_option maxHeartbeats 1000000 in
theorem j_callI {Y' : mY} {r' : mR} {as : List Value} {ix a : Nat} (hok : m_Ok Y') (hy : Y'.1.name = "<init>") (hrt : Y'.2.2.2.1 = none) (L0 : List (Option Value)) (hA : m_args (.ref a :: as) Y'.2.2.1 = L0) (h0 : L0.length = Y'.2.2.1) (hw : Cond.methodLink Y.1.cls ix Y'.1 ∈ mT) (hw2 : Cond.instanceMethod Y'.1 ∈ mT) (hn : (parseMethodDescriptor Y'.1.desc).map (fun q => q.parameters.length) = some as.length) (hst : (st.map fun v => v.category).sum ≤ 8) (hd : decode Y.2.1 pc = .ok (.invokespecial ix, 3)) (hJ : m_J X Y' d 0 L0 [] h r') (kk : m_J X Y (d + 1) (pc + 3) L (r'.1.toList ++ st) r'.2 r) : m_J X Y (d + 1) pc L (as.reverse ++ .ref a :: st) h r := by
  refine ⟨⟨Nat.le_trans hJ.1.1 kk.1.1, Nat.le_trans hJ.1.2 kk.1.2⟩, fun E p l e R s m args below meth c H locs ls n0 z0 Q Cx g1 g2 hh hls K => ?_⟩
  obtain ⟨c1, c2, c3, c4, c5, c6, c7, c8, c9, c10, c11, c12, c13⟩ := id Cx
  subst hA
  have j1 := hJ.1
  have k1 := kk.1
  refine m_size (fun hz => ?_)
  have hz2 := m_low hh.1 (by have := hh.2.1; omega)
  have hz3 : H.size = E.2.1 + h.1 := by omega
  have hM := m_met hok hJ (m_args_len h0) l E
  have cw : CallB R s args Y.1.cls ix Y'.1 Y'.2.1 Y'.2.2.1 none (Cond.code Y'.1 Y'.2.1 Y'.2.2.1 Y'.2.2.2.1 :: mT) (m_rm d (r'.2.1 - h.1) (r'.2.2.1 - h.2.1)) (r'.2.1 - h.1) (r'.2.2.1 - h.2.1) as.length :=
    callB_of (Ts := mT) as.length c5 (fun w hw => by
      rcases List.mem_cons.mp hw with rfl | q
      · exact mT_good _ hok.2.2.1
      · exact mT_good _ q) (by rw [hrt]) rfl rfl (c5 _ hok.2.2.2.1) (c5 _ hw) ⟨hok.2.1.1, hok.2.1.2, hn⟩ ⟨by show d + 1 ≤ _; omega, by show 8 + (Y'.2.2.1 + 11) + 48 * d ≤ _; have := hok.2.2.2.2.1; omega⟩
  have hr := va_runI (p := p) (e := e) (below := below) (meth := meth) (locs := locs) (cells := h.1 - n0) (slots := h.2.1 - z0) (As := as.map (m_ph E)) (rest := st.map (m_ph E)) (b := E.2.1 + a) (g := F0 m pc ls ((as.reverse ++ .ref a :: st).map (m_ph E))) (Ts := mT) ⟨c1, c2, c3, c4, c5⟩ hM ⟨cw, hy, c5 _ hw2⟩ ⟨m_blind, fun U hU hW => ⟨rfl, m_pre c6 c7 hh hz3 U hU hW⟩⟩ rfl (List.length_map _) hls.1 (by show (as.reverse ++ .ref a :: st).map (m_ph E) = _; rw [List.map_append, List.map_reverse]; rfl) (lv_room (m_catsum hst)) hd ⟨by omega, by omega⟩
  refine m_run hr hh.2 (fun H1 locs1 hP hS => ?_)
  have hk := kk.2 E p l e R s m args below meth c H1 locs1 ls n0 z0 Q Cx (by omega) (by omega) ⟨hP, hS⟩ hls K
  rw [List.map_append, ← m_toL, show r'.2.1 - n0 = h.1 - n0 + (r'.2.1 - h.1) by omega, show r'.2.2.1 - z0 = h.2.1 - z0 + (r'.2.2.1 - h.2.1) by omega] at hk
  exact hk
end JN
/-! loops -/
def m_loop {σ ρ : Type} (step : σ → Option (σ ⊕ ρ)) : Nat → σ → Option ρ
  | 0, _ => none
  | n + 1, s => match step s with
    | none => none
    | some (.inl s') => m_loop step n s'
    | some (.inr e) => some e
theorem m_loop_sound {σ ρ : Type} {step : σ → Option (σ ⊕ ρ)} {P : σ → Prop} {Qe : ρ → Prop} (hs : ∀ s o, step s = some o → (match o with | .inl s' => P s' | .inr e => Qe e) → P s) : ∀ (n : Nat) (s : σ) (e : ρ), m_loop step n s = some e → Qe e → P s
  | 0, s, e, h, _ => by cases h
  | n + 1, s, e, h, hq => by
    unfold m_loop at h
    cases hst : step s with
    | none => rw [hst] at h; cases h
    | some o =>
      rw [hst] at h
      cases o with
      | inl s' => exact hs s _ hst (m_loop_sound hs n s' e h hq)
      | inr e' => cases h; exact hs s _ hst hq
theorem m_bind {α β : Type} {o : Option α} {f : α → Option β} {r : β} (h : o.bind f = some r) : ∃ a, o = some a ∧ f a = some r := by
  cases o with
  | none => cases h
  | some a => exact ⟨a, rfl, h⟩
theorem m_rk_i {x : Int32} : m_rk (some .int) (some (.int x)) := ⟨x, rfl⟩
theorem m_rk_l {x : Int64} : m_rk (some .long) (some (.long x)) := ⟨x, rfl⟩
theorem m_rk_z0 : m_rk (some .boolean) (some (.int 0)) := Or.inl rfl
theorem m_rk_z1 : m_rk (some .boolean) (some (.int 1)) := Or.inr rfl
theorem m_rk_r {n : String} (q : Option Nat) : m_rk (some (.object n)) (some (va_rf q)) := ⟨q, rfl⟩
theorem m_rk_v : m_rk none none := rfl
theorem m_nwq (q : Option Nat) : ((va_rf q).category == 1) = true := by cases q <;> rfl
theorem m_o1 (x : Int32) : x + Int32.ofInt 1 = x + 1 := rfl
theorem m_o2 (x : Int32) : x + Int32.ofInt 2 = x + 2 := rfl
theorem m_o6 (x : Int32) : x + Int32.ofInt 6 = x + 6 := rfl
theorem m_om1 (x : Int32) : x + Int32.ofInt (-1) = x + (-1) := rfl
theorem m_sw {x : Int32} {k : Nat} (hk : k < 2147483648) (h : ¬ x = Int32.ofNat k) : ¬ x.toInt = (k : Int) := by
  intro q
  apply h
  apply Int32.toInt_inj.mp
  rw [q]
  exact (nI_toInt (n := k) hk).symm
/-- the tables that no call changes -/
def m_TL (t : Nat) (i : Int32) : Option Int64 := m_tl (0, fun _ => 0) t i
def m_TI (t : Nat) (i : Int32) : Option Int32 := m_ti (0, fun _ => 0) t i
theorem m_TL_X {X : mX} {t : Nat} {i : Int32} (ht : t < 4) : m_tl X t i = m_TL t i := by
  rcases (show t = 0 ∨ t = 1 ∨ t = 2 ∨ t = 3 by omega) with rfl | rfl | rfl | rfl <;> rfl
theorem m_TI_X {X : mX} {t : Nat} {i : Int32} (ht : t < 4) : m_ti X t i = m_TI t i := by
  rcases (show t = 0 ∨ t = 1 ∨ t = 2 ∨ t = 3 by omega) with rfl | rfl | rfl | rfl <;> rfl
