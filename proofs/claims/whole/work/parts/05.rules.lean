theorem j_iconst {X : mX} {Y : mY} {d pc : Nat} {L : List (Option Value)} {st : List Value} {h : mH} {r : mR} {n : Int} {v : Int32} (hv : Int32.ofInt n = v) (hd : decode Y.2.1 pc = .ok (.iconst n, 1)) (k : m_J X Y d (pc + 1) L (.int v :: st) h r) : m_J X Y d pc L (st) h r :=
  ⟨k.1, fun E p l e R s m args below meth c H locs ls n0 z0 Q C g1 g2 hh hl K => lv_iconst C.1 C.2.1 hd hv (k.2 E p l e R s m args below meth c H locs ls n0 z0 Q C g1 g2 hh hl K)⟩
theorem j_bipush {X : mX} {Y : mY} {d pc : Nat} {L : List (Option Value)} {st : List Value} {h : mH} {r : mR} {n : Int} {v : Int32} (hv : (Int8.ofInt n).toInt32 = v) (hd : decode Y.2.1 pc = .ok (.bipush n, 2)) (k : m_J X Y d (pc + 2) L (.int v :: st) h r) : m_J X Y d pc L (st) h r :=
  ⟨k.1, fun E p l e R s m args below meth c H locs ls n0 z0 Q C g1 g2 hh hl K => lv_bipush C.1 C.2.1 hd hv (k.2 E p l e R s m args below meth c H locs ls n0 z0 Q C g1 g2 hh hl K)⟩
theorem j_sipush {X : mX} {Y : mY} {d pc : Nat} {L : List (Option Value)} {st : List Value} {h : mH} {r : mR} {n : Int} {v : Int32} (hv : (Int16.ofInt n).toInt32 = v) (hd : decode Y.2.1 pc = .ok (.sipush n, 3)) (k : m_J X Y d (pc + 3) L (.int v :: st) h r) : m_J X Y d pc L (st) h r :=
  ⟨k.1, fun E p l e R s m args below meth c H locs ls n0 z0 Q C g1 g2 hh hl K => lv_sipush C.1 C.2.1 hd hv (k.2 E p l e R s m args below meth c H locs ls n0 z0 Q C g1 g2 hh hl K)⟩
theorem j_lconst {X : mX} {Y : mY} {d pc : Nat} {L : List (Option Value)} {st : List Value} {h : mH} {r : mR} {n : Fin 2} {v : Int64} (hv : Int64.ofNat (n : Nat) = v) (hd : decode Y.2.1 pc = .ok (.lconst n, 1)) (k : m_J X Y d (pc + 1) L (.long v :: st) h r) : m_J X Y d pc L (st) h r :=
  ⟨k.1, fun E p l e R s m args below meth c H locs ls n0 z0 Q C g1 g2 hh hl K => lv_lconst C.1 C.2.1 hd hv (k.2 E p l e R s m args below meth c H locs ls n0 z0 Q C g1 g2 hh hl K)⟩
theorem j_null {X : mX} {Y : mY} {d pc : Nat} {L : List (Option Value)} {st : List Value} {h : mH} {r : mR}  (hd : decode Y.2.1 pc = .ok (.aconst_null, 1)) (k : m_J X Y d (pc + 1) L (.null :: st) h r) : m_J X Y d pc L (st) h r :=
  ⟨k.1, fun E p l e R s m args below meth c H locs ls n0 z0 Q C g1 g2 hh hl K => lv_null C.1 C.2.1 hd (k.2 E p l e R s m args below meth c H locs ls n0 z0 Q C g1 g2 hh hl K)⟩
theorem j_ldc {X : mX} {Y : mY} {d pc : Nat} {L : List (Option Value)} {st : List Value} {h : mH} {r : mR} {ix : Nat} {v : Int32} (hw : Jvm.Cond.constant Y.1.cls ix v ∈ mT) (hd : decode Y.2.1 pc = .ok (.ldc ix, 2)) (k : m_J X Y d (pc + 2) L (.int v :: st) h r) : m_J X Y d pc L (st) h r :=
  ⟨k.1, fun E p l e R s m args below meth c H locs ls n0 z0 Q C g1 g2 hh hl K => lv_ldc C.1 C.2.1 C.2.2.2.1 (C.2.2.2.2.1 _ hw) hd (k.2 E p l e R s m args below meth c H locs ls n0 z0 Q C g1 g2 hh hl K)⟩
theorem j_ldcw {X : mX} {Y : mY} {d pc : Nat} {L : List (Option Value)} {st : List Value} {h : mH} {r : mR} {ix : Nat} {v : Int32} (hw : Jvm.Cond.constant Y.1.cls ix v ∈ mT) (hd : decode Y.2.1 pc = .ok (.ldc_w ix, 3)) (k : m_J X Y d (pc + 3) L (.int v :: st) h r) : m_J X Y d pc L (st) h r :=
  ⟨k.1, fun E p l e R s m args below meth c H locs ls n0 z0 Q C g1 g2 hh hl K => lv_ldcw C.1 C.2.1 C.2.2.2.1 (C.2.2.2.2.1 _ hw) hd (k.2 E p l e R s m args below meth c H locs ls n0 z0 Q C g1 g2 hh hl K)⟩
theorem j_ldc2 {X : mX} {Y : mY} {d pc : Nat} {L : List (Option Value)} {st : List Value} {h : mH} {r : mR} {ix : Nat} {v : Int64} (hw : Jvm.Cond.constantLong Y.1.cls ix v ∈ mT) (hd : decode Y.2.1 pc = .ok (.ldc2_w ix, 3)) (k : m_J X Y d (pc + 3) L (.long v :: st) h r) : m_J X Y d pc L (st) h r :=
  ⟨k.1, fun E p l e R s m args below meth c H locs ls n0 z0 Q C g1 g2 hh hl K => lv_ldc2 C.1 C.2.1 C.2.2.2.1 (C.2.2.2.2.1 _ hw) hd (k.2 E p l e R s m args below meth c H locs ls n0 z0 Q C g1 g2 hh hl K)⟩
theorem j_iload_n {X : mX} {Y : mY} {d pc : Nat} {L : List (Option Value)} {st : List Value} {h : mH} {r : mR} {n : Fin 4} {i : Nat} {x : Int32} (hi : (n : Nat) = i) (hx : L[i]? = some (some (.int x))) (hd : decode Y.2.1 pc = .ok (.iload_n n, 1)) (k : m_J X Y d (pc + 1) L (.int x :: st) h r) : m_J X Y d pc L (st) h r :=
  ⟨k.1, fun E p l e R s m args below meth c H locs ls n0 z0 Q C g1 g2 hh hl K => lv_iload_n C.1 C.2.1 hd hi (hl.at hx) (k.2 E p l e R s m args below meth c H locs ls n0 z0 Q C g1 g2 hh hl K)⟩
theorem j_iload {X : mX} {Y : mY} {d pc : Nat} {L : List (Option Value)} {st : List Value} {h : mH} {r : mR} {i : Nat} {x : Int32} (hx : L[i]? = some (some (.int x))) (hd : decode Y.2.1 pc = .ok (.iload i, 2)) (k : m_J X Y d (pc + 2) L (.int x :: st) h r) : m_J X Y d pc L (st) h r :=
  ⟨k.1, fun E p l e R s m args below meth c H locs ls n0 z0 Q C g1 g2 hh hl K => lv_iload C.1 C.2.1 hd (hl.at hx) (k.2 E p l e R s m args below meth c H locs ls n0 z0 Q C g1 g2 hh hl K)⟩
theorem j_lload_n {X : mX} {Y : mY} {d pc : Nat} {L : List (Option Value)} {st : List Value} {h : mH} {r : mR} {n : Fin 4} {i : Nat} {x : Int64} (hi : (n : Nat) = i) (hx : L[i]? = some (some (.long x))) (hd : decode Y.2.1 pc = .ok (.lload_n n, 1)) (k : m_J X Y d (pc + 1) L (.long x :: st) h r) : m_J X Y d pc L (st) h r :=
  ⟨k.1, fun E p l e R s m args below meth c H locs ls n0 z0 Q C g1 g2 hh hl K => lv_lload_n C.1 C.2.1 hd hi (hl.at hx) (k.2 E p l e R s m args below meth c H locs ls n0 z0 Q C g1 g2 hh hl K)⟩
theorem j_lload {X : mX} {Y : mY} {d pc : Nat} {L : List (Option Value)} {st : List Value} {h : mH} {r : mR} {i : Nat} {x : Int64} (hx : L[i]? = some (some (.long x))) (hd : decode Y.2.1 pc = .ok (.lload i, 2)) (k : m_J X Y d (pc + 2) L (.long x :: st) h r) : m_J X Y d pc L (st) h r :=
  ⟨k.1, fun E p l e R s m args below meth c H locs ls n0 z0 Q C g1 g2 hh hl K => lv_lload C.1 C.2.1 hd (hl.at hx) (k.2 E p l e R s m args below meth c H locs ls n0 z0 Q C g1 g2 hh hl K)⟩
theorem j_aload_n {X : mX} {Y : mY} {d pc : Nat} {L : List (Option Value)} {st : List Value} {h : mH} {r : mR} {n : Fin 4} {i : Nat} {x : Nat} (hi : (n : Nat) = i) (hx : L[i]? = some (some (.ref x))) (hd : decode Y.2.1 pc = .ok (.aload_n n, 1)) (k : m_J X Y d (pc + 1) L (.ref x :: st) h r) : m_J X Y d pc L (st) h r :=
  ⟨k.1, fun E p l e R s m args below meth c H locs ls n0 z0 Q C g1 g2 hh hl K => lv_aload_n C.1 C.2.1 hd hi (hl.at hx) (k.2 E p l e R s m args below meth c H locs ls n0 z0 Q C g1 g2 hh hl K)⟩
theorem j_aload {X : mX} {Y : mY} {d pc : Nat} {L : List (Option Value)} {st : List Value} {h : mH} {r : mR} {i : Nat} {x : Nat} (hx : L[i]? = some (some (.ref x))) (hd : decode Y.2.1 pc = .ok (.aload i, 2)) (k : m_J X Y d (pc + 2) L (.ref x :: st) h r) : m_J X Y d pc L (st) h r :=
  ⟨k.1, fun E p l e R s m args below meth c H locs ls n0 z0 Q C g1 g2 hh hl K => lv_aload C.1 C.2.1 hd (hl.at hx) (k.2 E p l e R s m args below meth c H locs ls n0 z0 Q C g1 g2 hh hl K)⟩
theorem j_aloadq_n {X : mX} {Y : mY} {d pc : Nat} {L : List (Option Value)} {st : List Value} {h : mH} {r : mR} {n : Fin 4} {i : Nat} {q : Option Nat} (hi : (n : Nat) = i) (hx : L[i]? = some (some (va_rf q))) (hd : decode Y.2.1 pc = .ok (.aload_n n, 1)) (k : m_J X Y d (pc + 1) L (va_rf q :: st) h r) : m_J X Y d pc L st h r := by
  refine ⟨k.1, fun E p l e R s m args below meth c H locs ls n0 z0 Q C g1 g2 hh hl K => ?_⟩
  have hk := k.2 E p l e R s m args below meth c H locs ls n0 z0 Q C g1 g2 hh hl K
  have ha := hl.at hx
  cases q with
  | none => exact lv_aload_nN C.1 C.2.1 hd hi ha hk
  | some a => exact lv_aload_n C.1 C.2.1 hd hi ha hk
theorem j_aloadq {X : mX} {Y : mY} {d pc : Nat} {L : List (Option Value)} {st : List Value} {h : mH} {r : mR} {i : Nat} {q : Option Nat} (hx : L[i]? = some (some (va_rf q))) (hd : decode Y.2.1 pc = .ok (.aload i, 2)) (k : m_J X Y d (pc + 2) L (va_rf q :: st) h r) : m_J X Y d pc L st h r := by
  refine ⟨k.1, fun E p l e R s m args below meth c H locs ls n0 z0 Q C g1 g2 hh hl K => ?_⟩
  have hk := k.2 E p l e R s m args below meth c H locs ls n0 z0 Q C g1 g2 hh hl K
  have ha := hl.at hx
  cases q with
  | none => exact lv_aloadN C.1 C.2.1 hd ha hk
  | some a => exact lv_aload C.1 C.2.1 hd ha hk
theorem j_tload_n {X : mX} {Y : mY} {d pc : Nat} {L : List (Option Value)} {st : List Value} {h : mH} {r : mR} {n : Fin 4} {i : Nat} {b : UInt32} (hi : (n : Nat) = i) (hx : L[i]? = some (some (.float b))) (hd : decode Y.2.1 pc = .ok (.aload_n n, 1)) (k : m_J X Y d (pc + 1) L (.float b :: st) h r) : m_J X Y d pc L st h r :=
  ⟨k.1, fun E p l e R s m args below meth c H locs ls n0 z0 Q C g1 g2 hh hl K => lv_aload_n C.1 C.2.1 hd hi (hl.at hx) (k.2 E p l e R s m args below meth c H locs ls n0 z0 Q C g1 g2 hh hl K)⟩
theorem j_istore_n {X : mX} {Y : mY} {d pc : Nat} {L : List (Option Value)} {st : List Value} {h : mH} {r : mR} {n : Fin 4} {i : Nat} {x : Int32} {L' : List (Option Value)} (hi : (n : Nat) = i) (hb : i < Y.2.2.1) (hw : m_nw L i = true) (hL : L.set i (some (.int x)) = L') (hd : decode Y.2.1 pc = .ok (.istore_n n, 1)) (k : m_J X Y d (pc + 1) L' st h r) : m_J X Y d pc L (.int x :: st) h r :=
  ⟨k.1, fun E p l e R s m args below meth c H locs ls n0 z0 Q C g1 g2 hh hl K => lv_istore_n C.1 C.2.1 hd hi hl.has hb rfl (fun ls' hl' => k.2 E p l e R s m args below meth c H locs ls' n0 z0 Q C g1 g2 hh (hL ▸ m_l.put1 (v := .int x) hw hl') K)⟩
theorem j_istore {X : mX} {Y : mY} {d pc : Nat} {L : List (Option Value)} {st : List Value} {h : mH} {r : mR} {i : Nat} {x : Int32} {L' : List (Option Value)} (hb : i < Y.2.2.1) (hw : m_nw L i = true) (hL : L.set i (some (.int x)) = L') (hd : decode Y.2.1 pc = .ok (.istore i, 2)) (k : m_J X Y d (pc + 2) L' st h r) : m_J X Y d pc L (.int x :: st) h r :=
  ⟨k.1, fun E p l e R s m args below meth c H locs ls n0 z0 Q C g1 g2 hh hl K => lv_istore C.1 C.2.1 hd hl.has hb rfl (fun ls' hl' => k.2 E p l e R s m args below meth c H locs ls' n0 z0 Q C g1 g2 hh (hL ▸ m_l.put1 (v := .int x) hw hl') K)⟩
theorem j_lstore_n {X : mX} {Y : mY} {d pc : Nat} {L : List (Option Value)} {st : List Value} {h : mH} {r : mR} {n : Fin 4} {i : Nat} {x : Int64} {L' : List (Option Value)} (hi : (n : Nat) = i) (hb : i + 1 < Y.2.2.1) (hw : m_nw L i = true) (hL : (L.set i (some (.long x))).set (i + 1) none = L') (hd : decode Y.2.1 pc = .ok (.lstore_n n, 1)) (k : m_J X Y d (pc + 1) L' st h r) : m_J X Y d pc L (.long x :: st) h r :=
  ⟨k.1, fun E p l e R s m args below meth c H locs ls n0 z0 Q C g1 g2 hh hl K => lv_lstore_n C.1 C.2.1 hd hi hl.has hb rfl (fun ls' hl' => k.2 E p l e R s m args below meth c H locs ls' n0 z0 Q C g1 g2 hh (hL ▸ m_l.put2 (v := .long x) hw hl') K)⟩
theorem j_lstore {X : mX} {Y : mY} {d pc : Nat} {L : List (Option Value)} {st : List Value} {h : mH} {r : mR} {i : Nat} {x : Int64} {L' : List (Option Value)} (hb : i + 1 < Y.2.2.1) (hw : m_nw L i = true) (hL : (L.set i (some (.long x))).set (i + 1) none = L') (hd : decode Y.2.1 pc = .ok (.lstore i, 2)) (k : m_J X Y d (pc + 2) L' st h r) : m_J X Y d pc L (.long x :: st) h r :=
  ⟨k.1, fun E p l e R s m args below meth c H locs ls n0 z0 Q C g1 g2 hh hl K => lv_lstore C.1 C.2.1 hd hl.has hb rfl (fun ls' hl' => k.2 E p l e R s m args below meth c H locs ls' n0 z0 Q C g1 g2 hh (hL ▸ m_l.put2 (v := .long x) hw hl') K)⟩
theorem j_astore_n {X : mX} {Y : mY} {d pc : Nat} {L : List (Option Value)} {st : List Value} {h : mH} {r : mR} {n : Fin 4} {i : Nat} {x : Nat} {L' : List (Option Value)} (hi : (n : Nat) = i) (hb : i < Y.2.2.1) (hw : m_nw L i = true) (hL : L.set i (some (.ref x)) = L') (hd : decode Y.2.1 pc = .ok (.astore_n n, 1)) (k : m_J X Y d (pc + 1) L' st h r) : m_J X Y d pc L (.ref x :: st) h r :=
  ⟨k.1, fun E p l e R s m args below meth c H locs ls n0 z0 Q C g1 g2 hh hl K => lv_astore_n C.1 C.2.1 hd hi hl.has hb rfl (fun ls' hl' => k.2 E p l e R s m args below meth c H locs ls' n0 z0 Q C g1 g2 hh (hL ▸ m_l.put1 (v := .ref x) hw hl') K)⟩
theorem j_astore {X : mX} {Y : mY} {d pc : Nat} {L : List (Option Value)} {st : List Value} {h : mH} {r : mR} {i : Nat} {x : Nat} {L' : List (Option Value)} (hb : i < Y.2.2.1) (hw : m_nw L i = true) (hL : L.set i (some (.ref x)) = L') (hd : decode Y.2.1 pc = .ok (.astore i, 2)) (k : m_J X Y d (pc + 2) L' st h r) : m_J X Y d pc L (.ref x :: st) h r :=
  ⟨k.1, fun E p l e R s m args below meth c H locs ls n0 z0 Q C g1 g2 hh hl K => lv_astore C.1 C.2.1 hd hl.has hb rfl (fun ls' hl' => k.2 E p l e R s m args below meth c H locs ls' n0 z0 Q C g1 g2 hh (hL ▸ m_l.put1 (v := .ref x) hw hl') K)⟩
theorem j_astoreq_n {X : mX} {Y : mY} {d pc : Nat} {L : List (Option Value)} {st : List Value} {h : mH} {r : mR} {n : Fin 4} {i : Nat} {q : Option Nat} {L' : List (Option Value)} (hi : (n : Nat) = i) (hb : i < Y.2.2.1) (hw : m_nw L i = true) (hL : L.set i (some (va_rf q)) = L') (hd : decode Y.2.1 pc = .ok (.astore_n n, 1)) (k : m_J X Y d (pc + 1) L' st h r) : m_J X Y d pc L (va_rf q :: st) h r := by
  refine ⟨k.1, fun E p l e R s m args below meth c H locs ls n0 z0 Q C g1 g2 hh hl K => ?_⟩
  have hk := fun ls' hl' => k.2 E p l e R s m args below meth c H locs ls' n0 z0 Q C g1 g2 hh (hL ▸ m_l.put1 (v := va_rf q) hw hl') K
  cases q with
  | none => exact lv_astore_nN C.1 C.2.1 hd hi hl.has hb rfl hk
  | some x => exact lv_astore_n C.1 C.2.1 hd hi hl.has hb rfl hk
theorem j_astoreq {X : mX} {Y : mY} {d pc : Nat} {L : List (Option Value)} {st : List Value} {h : mH} {r : mR} {i : Nat} {q : Option Nat} {L' : List (Option Value)} (hb : i < Y.2.2.1) (hw : m_nw L i = true) (hL : L.set i (some (va_rf q)) = L') (hd : decode Y.2.1 pc = .ok (.astore i, 2)) (k : m_J X Y d (pc + 2) L' st h r) : m_J X Y d pc L (va_rf q :: st) h r := by
  refine ⟨k.1, fun E p l e R s m args below meth c H locs ls n0 z0 Q C g1 g2 hh hl K => ?_⟩
  have hk := fun ls' hl' => k.2 E p l e R s m args below meth c H locs ls' n0 z0 Q C g1 g2 hh (hL ▸ m_l.put1 (v := va_rf q) hw hl') K
  cases q with
  | none => exact lv_astoreN C.1 C.2.1 hd hl.has hb rfl hk
  | some x => exact lv_astore C.1 C.2.1 hd hl.has hb rfl hk
theorem m_pairs_get {E : mE} {L : List (Option Value)} {i : Nat} {v : Value} (hv : L[i]? = some (some v)) : ∃ k : Nat, (m_pairs E L)[k]? = some (i, m_ph E v) := by
  obtain ⟨k, hk⟩ := List.getElem?_of_mem (m_pairs_mem.mpr ⟨v, hv, rfl⟩)
  exact ⟨k, hk⟩
theorem j_iinc {X : mX} {Y : mY} {d pc : Nat} {L : List (Option Value)} {st : List Value} {h : mH} {r : mR} {i : Nat} {n : Int} {x v : Int32} {L' : List (Option Value)} (hx : L[i]? = some (some (.int x))) (hv : x + Int32.ofInt n = v) (hb : i < Y.2.2.1) (hw : m_nw L i = true) (hL : L.set i (some (.int v)) = L') (hd : decode Y.2.1 pc = .ok (.iinc i n, 3)) (k : m_J X Y d (pc + 3) L' st h r) : m_J X Y d pc L st h r := by
  refine ⟨k.1, fun E p l e R s m args below meth c H locs ls n0 z0 Q C g1 g2 hh hl K => ?_⟩
  obtain ⟨kp, hkp⟩ := m_pairs_get (E := E) hx
  exact lv_iinc C.1 C.2.1 hd hl.has hkp hv hb rfl (fun ls' hl' => k.2 E p l e R s m args below meth c H locs ls' n0 z0 Q C g1 g2 hh (hL ▸ m_l.put1 (v := .int v) hw hl') K)
theorem j_iadd {X : mX} {Y : mY} {d pc : Nat} {L : List (Option Value)} {st : List Value} {h : mH} {r : mR} {x y : Int32} (hd : decode Y.2.1 pc = .ok (.iadd, 1)) (k : m_J X Y d (pc + 1) L (.int (x + y) :: st) h r) : m_J X Y d pc L (.int y :: .int x :: st) h r :=
  ⟨k.1, fun E p l e R s m args below meth c H locs ls n0 z0 Q C g1 g2 hh hl K => lv_iadd C.1 C.2.1 hd (k.2 E p l e R s m args below meth c H locs ls n0 z0 Q C g1 g2 hh hl K)⟩
theorem j_isub {X : mX} {Y : mY} {d pc : Nat} {L : List (Option Value)} {st : List Value} {h : mH} {r : mR} {x y : Int32} (hd : decode Y.2.1 pc = .ok (.isub, 1)) (k : m_J X Y d (pc + 1) L (.int (x - y) :: st) h r) : m_J X Y d pc L (.int y :: .int x :: st) h r :=
  ⟨k.1, fun E p l e R s m args below meth c H locs ls n0 z0 Q C g1 g2 hh hl K => lv_isub C.1 C.2.1 hd (k.2 E p l e R s m args below meth c H locs ls n0 z0 Q C g1 g2 hh hl K)⟩
theorem j_imul {X : mX} {Y : mY} {d pc : Nat} {L : List (Option Value)} {st : List Value} {h : mH} {r : mR} {x y : Int32} (hd : decode Y.2.1 pc = .ok (.imul, 1)) (k : m_J X Y d (pc + 1) L (.int (x * y) :: st) h r) : m_J X Y d pc L (.int y :: .int x :: st) h r :=
  ⟨k.1, fun E p l e R s m args below meth c H locs ls n0 z0 Q C g1 g2 hh hl K => lv_imul C.1 C.2.1 hd (k.2 E p l e R s m args below meth c H locs ls n0 z0 Q C g1 g2 hh hl K)⟩
theorem j_iand {X : mX} {Y : mY} {d pc : Nat} {L : List (Option Value)} {st : List Value} {h : mH} {r : mR} {x y : Int32} (hd : decode Y.2.1 pc = .ok (.iand, 1)) (k : m_J X Y d (pc + 1) L (.int (x &&& y) :: st) h r) : m_J X Y d pc L (.int y :: .int x :: st) h r :=
  ⟨k.1, fun E p l e R s m args below meth c H locs ls n0 z0 Q C g1 g2 hh hl K => lv_iand C.1 C.2.1 hd (k.2 E p l e R s m args below meth c H locs ls n0 z0 Q C g1 g2 hh hl K)⟩
theorem j_ladd {X : mX} {Y : mY} {d pc : Nat} {L : List (Option Value)} {st : List Value} {h : mH} {r : mR} {x y : Int64} (hd : decode Y.2.1 pc = .ok (.ladd, 1)) (k : m_J X Y d (pc + 1) L (.long (x + y) :: st) h r) : m_J X Y d pc L (.long y :: .long x :: st) h r :=
  ⟨k.1, fun E p l e R s m args below meth c H locs ls n0 z0 Q C g1 g2 hh hl K => lv_ladd C.1 C.2.1 hd (k.2 E p l e R s m args below meth c H locs ls n0 z0 Q C g1 g2 hh hl K)⟩
theorem j_lsub {X : mX} {Y : mY} {d pc : Nat} {L : List (Option Value)} {st : List Value} {h : mH} {r : mR} {x y : Int64} (hd : decode Y.2.1 pc = .ok (.lsub, 1)) (k : m_J X Y d (pc + 1) L (.long (x - y) :: st) h r) : m_J X Y d pc L (.long y :: .long x :: st) h r :=
  ⟨k.1, fun E p l e R s m args below meth c H locs ls n0 z0 Q C g1 g2 hh hl K => lv_lsub C.1 C.2.1 hd (k.2 E p l e R s m args below meth c H locs ls n0 z0 Q C g1 g2 hh hl K)⟩
theorem j_land {X : mX} {Y : mY} {d pc : Nat} {L : List (Option Value)} {st : List Value} {h : mH} {r : mR} {x y : Int64} (hd : decode Y.2.1 pc = .ok (.land, 1)) (k : m_J X Y d (pc + 1) L (.long (x &&& y) :: st) h r) : m_J X Y d pc L (.long y :: .long x :: st) h r :=
  ⟨k.1, fun E p l e R s m args below meth c H locs ls n0 z0 Q C g1 g2 hh hl K => lv_land C.1 C.2.1 hd (k.2 E p l e R s m args below meth c H locs ls n0 z0 Q C g1 g2 hh hl K)⟩
theorem j_lor {X : mX} {Y : mY} {d pc : Nat} {L : List (Option Value)} {st : List Value} {h : mH} {r : mR} {x y : Int64} (hd : decode Y.2.1 pc = .ok (.lor, 1)) (k : m_J X Y d (pc + 1) L (.long (x ||| y) :: st) h r) : m_J X Y d pc L (.long y :: .long x :: st) h r :=
  ⟨k.1, fun E p l e R s m args below meth c H locs ls n0 z0 Q C g1 g2 hh hl K => lv_lor C.1 C.2.1 hd (k.2 E p l e R s m args below meth c H locs ls n0 z0 Q C g1 g2 hh hl K)⟩
theorem j_lxor {X : mX} {Y : mY} {d pc : Nat} {L : List (Option Value)} {st : List Value} {h : mH} {r : mR} {x y : Int64} (hd : decode Y.2.1 pc = .ok (.lxor, 1)) (k : m_J X Y d (pc + 1) L (.long (x ^^^ y) :: st) h r) : m_J X Y d pc L (.long y :: .long x :: st) h r :=
  ⟨k.1, fun E p l e R s m args below meth c H locs ls n0 z0 Q C g1 g2 hh hl K => lv_lxor C.1 C.2.1 hd (k.2 E p l e R s m args below meth c H locs ls n0 z0 Q C g1 g2 hh hl K)⟩
theorem j_lshl {X : mX} {Y : mY} {d pc : Nat} {L : List (Option Value)} {st : List Value} {h : mH} {r : mR} {x : Int64} {y : Int32} (hd : decode Y.2.1 pc = .ok (.lshl, 1)) (k : m_J X Y d (pc + 1) L (.long (x <<< (y.toInt64 &&& 63)) :: st) h r) : m_J X Y d pc L (.int y :: .long x :: st) h r :=
  ⟨k.1, fun E p l e R s m args below meth c H locs ls n0 z0 Q C g1 g2 hh hl K => lv_lshl C.1 C.2.1 hd rfl (k.2 E p l e R s m args below meth c H locs ls n0 z0 Q C g1 g2 hh hl K)⟩
theorem j_lshr {X : mX} {Y : mY} {d pc : Nat} {L : List (Option Value)} {st : List Value} {h : mH} {r : mR} {x : Int64} {y : Int32} (hd : decode Y.2.1 pc = .ok (.lshr, 1)) (k : m_J X Y d (pc + 1) L (.long (x >>> (y.toInt64 &&& 63)) :: st) h r) : m_J X Y d pc L (.int y :: .long x :: st) h r :=
  ⟨k.1, fun E p l e R s m args below meth c H locs ls n0 z0 Q C g1 g2 hh hl K => lv_lshr C.1 C.2.1 hd rfl (k.2 E p l e R s m args below meth c H locs ls n0 z0 Q C g1 g2 hh hl K)⟩
theorem j_lushr {X : mX} {Y : mY} {d pc : Nat} {L : List (Option Value)} {st : List Value} {h : mH} {r : mR} {x : Int64} {y : Int32} (hd : decode Y.2.1 pc = .ok (.lushr, 1)) (k : m_J X Y d (pc + 1) L (.long ((x.toUInt64 >>> (y.toInt64.toUInt64 &&& Int64.toUInt64 63)).toInt64) :: st) h r) : m_J X Y d pc L (.int y :: .long x :: st) h r :=
  ⟨k.1, fun E p l e R s m args below meth c H locs ls n0 z0 Q C g1 g2 hh hl K => lv_lushr C.1 C.2.1 hd rfl (k.2 E p l e R s m args below meth c H locs ls n0 z0 Q C g1 g2 hh hl K)⟩
theorem j_l2i {X : mX} {Y : mY} {d pc : Nat} {L : List (Option Value)} {st : List Value} {h : mH} {r : mR} {x : Int64} (hd : decode Y.2.1 pc = .ok (.l2i, 1)) (k : m_J X Y d (pc + 1) L (.int x.toInt32 :: st) h r) : m_J X Y d pc L (.long x :: st) h r :=
  ⟨k.1, fun E p l e R s m args below meth c H locs ls n0 z0 Q C g1 g2 hh hl K => lv_l2i C.1 C.2.1 hd rfl (k.2 E p l e R s m args below meth c H locs ls n0 z0 Q C g1 g2 hh hl K)⟩
theorem j_lcmp {X : mX} {Y : mY} {d pc : Nat} {L : List (Option Value)} {st : List Value} {h : mH} {r : mR} {x y : Int64} (hd : decode Y.2.1 pc = .ok (.lcmp, 1)) (k : m_J X Y d (pc + 1) L (.int (lg_cmp x y) :: st) h r) : m_J X Y d pc L (.long y :: .long x :: st) h r :=
  ⟨k.1, fun E p l e R s m args below meth c H locs ls n0 z0 Q C g1 g2 hh hl K => W.lcmp C.1 C.2.1 hd (k.2 E p l e R s m args below meth c H locs ls n0 z0 Q C g1 g2 hh hl K)⟩
theorem m_c1 {E : mE} {v : Value} (h : v.category = 1) : (m_ph E v).category = 1 := (m_ph_cat E v).trans h
theorem m_c2 {E : mE} {v : Value} (h : v.category = 2) : (m_ph E v).category = 2 := (m_ph_cat E v).trans h
theorem m_crf (q : Option Nat) : (va_rf q).category = 1 := by cases q <;> rfl
theorem j_dup {X : mX} {Y : mY} {d pc : Nat} {L : List (Option Value)} {st : List Value} {h : mH} {r : mR} {v : Value} (hv : v.category = 1) (hd : decode Y.2.1 pc = .ok (.dup, 1)) (k : m_J X Y d (pc + 1) L (v :: v :: st) h r) : m_J X Y d pc L (v :: st) h r :=
  ⟨k.1, fun E p l e R s m args below meth c H locs ls n0 z0 Q C g1 g2 hh hl K => lv_dup C.1 C.2.1 hd (m_c1 hv) (k.2 E p l e R s m args below meth c H locs ls n0 z0 Q C g1 g2 hh hl K)⟩
theorem j_pop {X : mX} {Y : mY} {d pc : Nat} {L : List (Option Value)} {st : List Value} {h : mH} {r : mR} {v : Value} (hv : v.category = 1) (hd : decode Y.2.1 pc = .ok (.pop, 1)) (k : m_J X Y d (pc + 1) L (st) h r) : m_J X Y d pc L (v :: st) h r :=
  ⟨k.1, fun E p l e R s m args below meth c H locs ls n0 z0 Q C g1 g2 hh hl K => lv_pop C.1 C.2.1 hd (m_c1 hv) (k.2 E p l e R s m args below meth c H locs ls n0 z0 Q C g1 g2 hh hl K)⟩
theorem j_dup2 {X : mX} {Y : mY} {d pc : Nat} {L : List (Option Value)} {st : List Value} {h : mH} {r : mR} {v w : Value} (hv : v.category = 1) (hw : w.category = 1) (hd : decode Y.2.1 pc = .ok (.dup2, 1)) (k : m_J X Y d (pc + 1) L (v :: w :: v :: w :: st) h r) : m_J X Y d pc L (v :: w :: st) h r :=
  ⟨k.1, fun E p l e R s m args below meth c H locs ls n0 z0 Q C g1 g2 hh hl K => lv_dup2_11 C.1 C.2.1 hd (m_c1 hv) (m_c1 hw) (k.2 E p l e R s m args below meth c H locs ls n0 z0 Q C g1 g2 hh hl K)⟩
theorem j_if_eq {X : mX} {Y : mY} {d pc : Nat} {L : List (Option Value)} {st : List Value} {h : mH} {r : mR} {x : Int32} {off : Int} {tgt : Nat} (hd : decode Y.2.1 pc = .ok (.ifCond .eq off, 3)) (ht : (pc : Int) + off = (tgt : Int)) (kt : x = 0 → m_J X Y d tgt L st h r) (kf : ¬ x = 0 → m_J X Y d (pc + 3) L st h r) : m_J X Y d pc L (.int x :: st) h r :=
  ⟨by by_cases q : x = 0
      · exact (kt q).1
      · exact (kf q).1, fun E p l e R s m args below meth c H locs ls n0 z0 Q C g1 g2 hh hl K => lv_if_eq C.1 C.2.1 hd ht (fun q => (kt q).2 E p l e R s m args below meth c H locs ls n0 z0 Q C g1 g2 hh hl K) (fun q => (kf q).2 E p l e R s m args below meth c H locs ls n0 z0 Q C g1 g2 hh hl K)⟩
theorem j_if_ne {X : mX} {Y : mY} {d pc : Nat} {L : List (Option Value)} {st : List Value} {h : mH} {r : mR} {x : Int32} {off : Int} {tgt : Nat} (hd : decode Y.2.1 pc = .ok (.ifCond .ne off, 3)) (ht : (pc : Int) + off = (tgt : Int)) (kt : ¬ x = 0 → m_J X Y d tgt L st h r) (kf : x = 0 → m_J X Y d (pc + 3) L st h r) : m_J X Y d pc L (.int x :: st) h r :=
  ⟨by by_cases q : x = 0
      · exact (kf q).1
      · exact (kt q).1, fun E p l e R s m args below meth c H locs ls n0 z0 Q C g1 g2 hh hl K => lv_if_ne C.1 C.2.1 hd ht (fun q => (kt q).2 E p l e R s m args below meth c H locs ls n0 z0 Q C g1 g2 hh hl K) (fun q => (kf q).2 E p l e R s m args below meth c H locs ls n0 z0 Q C g1 g2 hh hl K)⟩
theorem j_if_lt {X : mX} {Y : mY} {d pc : Nat} {L : List (Option Value)} {st : List Value} {h : mH} {r : mR} {x : Int32} {off : Int} {tgt : Nat} (hd : decode Y.2.1 pc = .ok (.ifCond .lt off, 3)) (ht : (pc : Int) + off = (tgt : Int)) (kt : x < 0 → m_J X Y d tgt L st h r) (kf : ¬ x < 0 → m_J X Y d (pc + 3) L st h r) : m_J X Y d pc L (.int x :: st) h r :=
  ⟨by by_cases q : x < 0
      · exact (kt q).1
      · exact (kf q).1, fun E p l e R s m args below meth c H locs ls n0 z0 Q C g1 g2 hh hl K => lv_if_lt C.1 C.2.1 hd ht (fun q => (kt q).2 E p l e R s m args below meth c H locs ls n0 z0 Q C g1 g2 hh hl K) (fun q => (kf q).2 E p l e R s m args below meth c H locs ls n0 z0 Q C g1 g2 hh hl K)⟩
theorem j_if_ge {X : mX} {Y : mY} {d pc : Nat} {L : List (Option Value)} {st : List Value} {h : mH} {r : mR} {x : Int32} {off : Int} {tgt : Nat} (hd : decode Y.2.1 pc = .ok (.ifCond .ge off, 3)) (ht : (pc : Int) + off = (tgt : Int)) (kt : 0 ≤ x → m_J X Y d tgt L st h r) (kf : ¬ 0 ≤ x → m_J X Y d (pc + 3) L st h r) : m_J X Y d pc L (.int x :: st) h r :=
  ⟨by by_cases q : 0 ≤ x
      · exact (kt q).1
      · exact (kf q).1, fun E p l e R s m args below meth c H locs ls n0 z0 Q C g1 g2 hh hl K => lv_if_ge C.1 C.2.1 hd ht (fun q => (kt q).2 E p l e R s m args below meth c H locs ls n0 z0 Q C g1 g2 hh hl K) (fun q => (kf q).2 E p l e R s m args below meth c H locs ls n0 z0 Q C g1 g2 hh hl K)⟩
theorem j_if_gt {X : mX} {Y : mY} {d pc : Nat} {L : List (Option Value)} {st : List Value} {h : mH} {r : mR} {x : Int32} {off : Int} {tgt : Nat} (hd : decode Y.2.1 pc = .ok (.ifCond .gt off, 3)) (ht : (pc : Int) + off = (tgt : Int)) (kt : 0 < x → m_J X Y d tgt L st h r) (kf : ¬ 0 < x → m_J X Y d (pc + 3) L st h r) : m_J X Y d pc L (.int x :: st) h r :=
  ⟨by by_cases q : 0 < x
      · exact (kt q).1
      · exact (kf q).1, fun E p l e R s m args below meth c H locs ls n0 z0 Q C g1 g2 hh hl K => lv_if_gt C.1 C.2.1 hd ht (fun q => (kt q).2 E p l e R s m args below meth c H locs ls n0 z0 Q C g1 g2 hh hl K) (fun q => (kf q).2 E p l e R s m args below meth c H locs ls n0 z0 Q C g1 g2 hh hl K)⟩
theorem j_if_le {X : mX} {Y : mY} {d pc : Nat} {L : List (Option Value)} {st : List Value} {h : mH} {r : mR} {x : Int32} {off : Int} {tgt : Nat} (hd : decode Y.2.1 pc = .ok (.ifCond .le off, 3)) (ht : (pc : Int) + off = (tgt : Int)) (kt : x ≤ 0 → m_J X Y d tgt L st h r) (kf : ¬ x ≤ 0 → m_J X Y d (pc + 3) L st h r) : m_J X Y d pc L (.int x :: st) h r :=
  ⟨by by_cases q : x ≤ 0
      · exact (kt q).1
      · exact (kf q).1, fun E p l e R s m args below meth c H locs ls n0 z0 Q C g1 g2 hh hl K => lv_if_le C.1 C.2.1 hd ht (fun q => (kt q).2 E p l e R s m args below meth c H locs ls n0 z0 Q C g1 g2 hh hl K) (fun q => (kf q).2 E p l e R s m args below meth c H locs ls n0 z0 Q C g1 g2 hh hl K)⟩
theorem j_ic_eq {X : mX} {Y : mY} {d pc : Nat} {L : List (Option Value)} {st : List Value} {h : mH} {r : mR} {x y : Int32} {off : Int} {tgt : Nat} (hd : decode Y.2.1 pc = .ok (.if_icmp .eq off, 3)) (ht : (pc : Int) + off = (tgt : Int)) (kt : x = y → m_J X Y d tgt L st h r) (kf : ¬ x = y → m_J X Y d (pc + 3) L st h r) : m_J X Y d pc L (.int y :: .int x :: st) h r :=
  ⟨by by_cases q : x = y
      · exact (kt q).1
      · exact (kf q).1, fun E p l e R s m args below meth c H locs ls n0 z0 Q C g1 g2 hh hl K => lv_icmp_eq C.1 C.2.1 hd ht (fun q => (kt q).2 E p l e R s m args below meth c H locs ls n0 z0 Q C g1 g2 hh hl K) (fun q => (kf q).2 E p l e R s m args below meth c H locs ls n0 z0 Q C g1 g2 hh hl K)⟩
theorem j_ic_ne {X : mX} {Y : mY} {d pc : Nat} {L : List (Option Value)} {st : List Value} {h : mH} {r : mR} {x y : Int32} {off : Int} {tgt : Nat} (hd : decode Y.2.1 pc = .ok (.if_icmp .ne off, 3)) (ht : (pc : Int) + off = (tgt : Int)) (kt : ¬ x = y → m_J X Y d tgt L st h r) (kf : x = y → m_J X Y d (pc + 3) L st h r) : m_J X Y d pc L (.int y :: .int x :: st) h r :=
  ⟨by by_cases q : x = y
      · exact (kf q).1
      · exact (kt q).1, fun E p l e R s m args below meth c H locs ls n0 z0 Q C g1 g2 hh hl K => lv_icmp_ne C.1 C.2.1 hd ht (fun q => (kt q).2 E p l e R s m args below meth c H locs ls n0 z0 Q C g1 g2 hh hl K) (fun q => (kf q).2 E p l e R s m args below meth c H locs ls n0 z0 Q C g1 g2 hh hl K)⟩
theorem j_ic_lt {X : mX} {Y : mY} {d pc : Nat} {L : List (Option Value)} {st : List Value} {h : mH} {r : mR} {x y : Int32} {off : Int} {tgt : Nat} (hd : decode Y.2.1 pc = .ok (.if_icmp .lt off, 3)) (ht : (pc : Int) + off = (tgt : Int)) (kt : x < y → m_J X Y d tgt L st h r) (kf : ¬ x < y → m_J X Y d (pc + 3) L st h r) : m_J X Y d pc L (.int y :: .int x :: st) h r :=
  ⟨by by_cases q : x < y
      · exact (kt q).1
      · exact (kf q).1, fun E p l e R s m args below meth c H locs ls n0 z0 Q C g1 g2 hh hl K => lv_icmp_lt C.1 C.2.1 hd ht (fun q => (kt q).2 E p l e R s m args below meth c H locs ls n0 z0 Q C g1 g2 hh hl K) (fun q => (kf q).2 E p l e R s m args below meth c H locs ls n0 z0 Q C g1 g2 hh hl K)⟩
theorem j_ic_ge {X : mX} {Y : mY} {d pc : Nat} {L : List (Option Value)} {st : List Value} {h : mH} {r : mR} {x y : Int32} {off : Int} {tgt : Nat} (hd : decode Y.2.1 pc = .ok (.if_icmp .ge off, 3)) (ht : (pc : Int) + off = (tgt : Int)) (kt : y ≤ x → m_J X Y d tgt L st h r) (kf : ¬ y ≤ x → m_J X Y d (pc + 3) L st h r) : m_J X Y d pc L (.int y :: .int x :: st) h r :=
  ⟨by by_cases q : y ≤ x
      · exact (kt q).1
      · exact (kf q).1, fun E p l e R s m args below meth c H locs ls n0 z0 Q C g1 g2 hh hl K => lv_icmp_ge C.1 C.2.1 hd ht (fun q => (kt q).2 E p l e R s m args below meth c H locs ls n0 z0 Q C g1 g2 hh hl K) (fun q => (kf q).2 E p l e R s m args below meth c H locs ls n0 z0 Q C g1 g2 hh hl K)⟩
theorem j_ic_gt {X : mX} {Y : mY} {d pc : Nat} {L : List (Option Value)} {st : List Value} {h : mH} {r : mR} {x y : Int32} {off : Int} {tgt : Nat} (hd : decode Y.2.1 pc = .ok (.if_icmp .gt off, 3)) (ht : (pc : Int) + off = (tgt : Int)) (kt : y < x → m_J X Y d tgt L st h r) (kf : ¬ y < x → m_J X Y d (pc + 3) L st h r) : m_J X Y d pc L (.int y :: .int x :: st) h r :=
  ⟨by by_cases q : y < x
      · exact (kt q).1
      · exact (kf q).1, fun E p l e R s m args below meth c H locs ls n0 z0 Q C g1 g2 hh hl K => lv_icmp_gt C.1 C.2.1 hd ht (fun q => (kt q).2 E p l e R s m args below meth c H locs ls n0 z0 Q C g1 g2 hh hl K) (fun q => (kf q).2 E p l e R s m args below meth c H locs ls n0 z0 Q C g1 g2 hh hl K)⟩
theorem j_ic_le {X : mX} {Y : mY} {d pc : Nat} {L : List (Option Value)} {st : List Value} {h : mH} {r : mR} {x y : Int32} {off : Int} {tgt : Nat} (hd : decode Y.2.1 pc = .ok (.if_icmp .le off, 3)) (ht : (pc : Int) + off = (tgt : Int)) (kt : x ≤ y → m_J X Y d tgt L st h r) (kf : ¬ x ≤ y → m_J X Y d (pc + 3) L st h r) : m_J X Y d pc L (.int y :: .int x :: st) h r :=
  ⟨by by_cases q : x ≤ y
      · exact (kt q).1
      · exact (kf q).1, fun E p l e R s m args below meth c H locs ls n0 z0 Q C g1 g2 hh hl K => lv_icmp_le C.1 C.2.1 hd ht (fun q => (kt q).2 E p l e R s m args below meth c H locs ls n0 z0 Q C g1 g2 hh hl K) (fun q => (kf q).2 E p l e R s m args below meth c H locs ls n0 z0 Q C g1 g2 hh hl K)⟩
theorem j_goto {X : mX} {Y : mY} {d pc : Nat} {L : List (Option Value)} {st : List Value} {h : mH} {r : mR} {off : Int} {tgt : Nat} (hd : decode Y.2.1 pc = .ok (.goto off, 3)) (ht : (pc : Int) + off = (tgt : Int)) (k : m_J X Y d tgt L st h r) : m_J X Y d pc L st h r :=
  ⟨k.1, fun E p l e R s m args below meth c H locs ls n0 z0 Q C g1 g2 hh hl K => lv_goto C.1 C.2.1 hd ht (k.2 E p l e R s m args below meth c H locs ls n0 z0 Q C g1 g2 hh hl K)⟩
theorem j_ifnull_r {X : mX} {Y : mY} {d pc : Nat} {L : List (Option Value)} {st : List Value} {h : mH} {r : mR} {x : Nat} {off : Int} (hd : decode Y.2.1 pc = .ok (.ifnull off, 3)) (k : m_J X Y d (pc + 3) L st h r) : m_J X Y d pc L (.ref x :: st) h r :=
  ⟨k.1, fun E p l e R s m args below meth c H locs ls n0 z0 Q C g1 g2 hh hl K => lv_ifnull C.1 C.2.1 hd (k.2 E p l e R s m args below meth c H locs ls n0 z0 Q C g1 g2 hh hl K)⟩
theorem j_ifnull_n {X : mX} {Y : mY} {d pc : Nat} {L : List (Option Value)} {st : List Value} {h : mH} {r : mR} {off : Int} {tgt : Nat} (hd : decode Y.2.1 pc = .ok (.ifnull off, 3)) (ht : (pc : Int) + off = (tgt : Int)) (k : m_J X Y d tgt L st h r) : m_J X Y d pc L (.null :: st) h r :=
  ⟨k.1, fun E p l e R s m args below meth c H locs ls n0 z0 Q C g1 g2 hh hl K => lv_ifnullN C.1 C.2.1 hd ht (k.2 E p l e R s m args below meth c H locs ls n0 z0 Q C g1 g2 hh hl K)⟩
theorem j_ifnonnull_r {X : mX} {Y : mY} {d pc : Nat} {L : List (Option Value)} {st : List Value} {h : mH} {r : mR} {x : Nat} {off : Int} {tgt : Nat} (hd : decode Y.2.1 pc = .ok (.ifnonnull off, 3)) (ht : (pc : Int) + off = (tgt : Int)) (k : m_J X Y d tgt L st h r) : m_J X Y d pc L (.ref x :: st) h r :=
  ⟨k.1, fun E p l e R s m args below meth c H locs ls n0 z0 Q C g1 g2 hh hl K => lv_ifnonnull C.1 C.2.1 hd ht (k.2 E p l e R s m args below meth c H locs ls n0 z0 Q C g1 g2 hh hl K)⟩
theorem j_ifnonnull_n {X : mX} {Y : mY} {d pc : Nat} {L : List (Option Value)} {st : List Value} {h : mH} {r : mR} {off : Int} (hd : decode Y.2.1 pc = .ok (.ifnonnull off, 3)) (k : m_J X Y d (pc + 3) L st h r) : m_J X Y d pc L (.null :: st) h r :=
  ⟨k.1, fun E p l e R s m args below meth c H locs ls n0 z0 Q C g1 g2 hh hl K => lv_ifnonnullN C.1 C.2.1 hd (k.2 E p l e R s m args below meth c H locs ls n0 z0 Q C g1 g2 hh hl K)⟩
theorem m_map_inj {E : mE} {a b : Option Nat} : a.map (fun k => E.2.1 + k) = b.map (fun k => E.2.1 + k) ↔ a = b := by
  cases a <;> cases b <;> simp
theorem j_ac_eq {X : mX} {Y : mY} {d pc : Nat} {L : List (Option Value)} {st : List Value} {h : mH} {r : mR} {rx ry : Option Nat} {off : Int} {tgt : Nat} (hd : decode Y.2.1 pc = .ok (.if_acmp .eq off, 3)) (ht : (pc : Int) + off = (tgt : Int)) (kt : rx = ry → m_J X Y d tgt L st h r) (kf : ¬ rx = ry → m_J X Y d (pc + 3) L st h r) : m_J X Y d pc L (va_rf ry :: va_rf rx :: st) h r := by
  refine ⟨?_, fun E p l e R s m args below meth c H locs ls n0 z0 Q C g1 g2 hh hl K => ?_⟩
  · by_cases q : rx = ry
    · exact (kt q).1
    · exact (kf q).1
  · show W p l e R s m args below meth c H locs (h.1 - n0) (h.2.1 - z0) Q (F0 m pc ls (m_ph E (va_rf ry) :: m_ph E (va_rf rx) :: st.map (m_ph E)))
    rw [m_ph_rf, m_ph_rf]
    exact lv_acmp_eq C.1 C.2.1 hd ht (fun q => (kt (m_map_inj.mp q)).2 E p l e R s m args below meth c H locs ls n0 z0 Q C g1 g2 hh hl K) (fun q => (kf (fun z => q (m_map_inj.mpr z))).2 E p l e R s m args below meth c H locs ls n0 z0 Q C g1 g2 hh hl K)
theorem j_tswIn {X : mX} {Y : mY} {d pc : Nat} {L : List (Option Value)} {st : List Value} {h : mH} {r : mR} {dflt lo hi : Int} {offs : Array Int} {len : Nat} {x : Int32} {off : Int} {tgt : Nat} (hd : decode Y.2.1 pc = .ok (.tableswitch dflt lo hi offs, len)) (h1 : ¬ x.toInt < lo) (h2 : ¬ hi < x.toInt) (ho : offs[(x.toInt - lo).toNat]? = some off) (ht : (pc : Int) + off = (tgt : Int)) (k : m_J X Y d tgt L st h r) : m_J X Y d pc L (.int x :: st) h r :=
  ⟨k.1, fun E p l e R s m args below meth c H locs ls n0 z0 Q C g1 g2 hh hl K => lv_tableIn C.1 C.2.1 hd h1 h2 ho ht (k.2 E p l e R s m args below meth c H locs ls n0 z0 Q C g1 g2 hh hl K)⟩
theorem j_tswOut {X : mX} {Y : mY} {d pc : Nat} {L : List (Option Value)} {st : List Value} {h : mH} {r : mR} {dflt lo hi : Int} {offs : Array Int} {len : Nat} {x : Int32} {tgt : Nat} (hd : decode Y.2.1 pc = .ok (.tableswitch dflt lo hi offs, len)) (ho : x.toInt < lo ∨ hi < x.toInt) (ht : (pc : Int) + dflt = (tgt : Int)) (k : m_J X Y d tgt L st h r) : m_J X Y d pc L (.int x :: st) h r :=
  ⟨k.1, fun E p l e R s m args below meth c H locs ls n0 z0 Q C g1 g2 hh hl K => lv_tableOut C.1 C.2.1 hd ho ht (k.2 E p l e R s m args below meth c H locs ls n0 z0 Q C g1 g2 hh hl K)⟩
theorem j_ret {X : mX} {Y : mY} {d pc : Nat} {L : List (Option Value)} {v : Option Value} {h : mH} (hd : decode Y.2.1 pc = .ok (Y.2.2.2.2, 1)) (hk : m_rk Y.2.2.2.1 v) : m_J X Y d pc L v.toList h (v, h) :=
  ⟨⟨Nat.le_refl _, Nat.le_refl _⟩, fun E p l e R s m args below meth c H locs ls n0 z0 Q C g1 g2 hh hl K => K pc ls H locs hd hk hh⟩
theorem j_max {X : mX} {Y : mY} {d pc : Nat} {L : List (Option Value)} {st : List Value} {h : mH} {r : mR} {x y : Int32} {ix : Nat} (hw : Cond.methodLink Y.1.cls ix Lib.Math.max.name ∈ mT) (hst : (st.map fun v => v.category).sum ≤ 8) (hn : L.length = Y.2.2.1) (hd : decode Y.2.1 pc = .ok (.invokestatic ix, 3)) (k : m_J X Y (d + 1) (pc + 3) L (.int (if x < y then y else x) :: st) h r) : m_J X Y (d + 1) pc L (.int y :: .int x :: st) h r := by
  refine ⟨k.1, fun E p l e R s m args below meth c H locs ls n0 z0 Q C g1 g2 hh hl K => ?_⟩
  have hts := C.2.2.2.2.1
  have hz : ((st.map (m_ph E)).map fun v => v.category).sum ≤ 8 := by
    rw [List.map_map, show ((fun v : Value => v.category) ∘ m_ph E) = (fun v => v.category) from funext (m_ph_cat E)]
    exact hst
  exact va_mmax C.1 C.2.1 (by rw [C.2.2.1, hl.1]) C.2.2.2.1 (hts _ hw) (hts _ tw_2_11) (hts _ tw_1_11) (hts _ tw_2_12) (by have := C.2.2.2.2.2.2.2.2.1; omega) (by have := C.2.2.2.2.2.2.2.2.2.1; omega) (by have := C.2.2.2.2.2.2.2.2.2.2.1; have := k.1.1; omega) (by have := C.2.2.2.2.2.2.2.2.2.2.2.1; have := k.1.2; omega) hd (k.2 E p l e R s m args below meth c H locs ls n0 z0 Q C g1 g2 hh hl K)
theorem j_min {X : mX} {Y : mY} {d pc : Nat} {L : List (Option Value)} {st : List Value} {h : mH} {r : mR} {x y : Int32} {ix : Nat} (hw : Cond.methodLink Y.1.cls ix Lib.Math.min.name ∈ mT) (hst : (st.map fun v => v.category).sum ≤ 8) (hn : L.length = Y.2.2.1) (hd : decode Y.2.1 pc = .ok (.invokestatic ix, 3)) (k : m_J X Y (d + 1) (pc + 3) L (.int (if y < x then y else x) :: st) h r) : m_J X Y (d + 1) pc L (.int y :: .int x :: st) h r := by
  refine ⟨k.1, fun E p l e R s m args below meth c H locs ls n0 z0 Q C g1 g2 hh hl K => ?_⟩
  have hts := C.2.2.2.2.1
  have hz : ((st.map (m_ph E)).map fun v => v.category).sum ≤ 8 := by
    rw [List.map_map, show ((fun v : Value => v.category) ∘ m_ph E) = (fun v => v.category) from funext (m_ph_cat E)]
    exact hst
  exact va_mmin C.1 C.2.1 (by rw [C.2.2.1, hl.1]) C.2.2.2.1 (hts _ hw) (hts _ tw_3_0) (hts _ tw_1_11) (hts _ tw_3_1) (by have := C.2.2.2.2.2.2.2.2.1; omega) (by have := C.2.2.2.2.2.2.2.2.2.1; omega) (by have := C.2.2.2.2.2.2.2.2.2.2.1; have := k.1.1; omega) (by have := C.2.2.2.2.2.2.2.2.2.2.2.1; have := k.1.2; omega) hd (k.2 E p l e R s m args below meth c H locs ls n0 z0 Q C g1 g2 hh hl K)
theorem j_objInit {X : mX} {Y : mY} {d pc : Nat} {L : List (Option Value)} {st : List Value} {h : mH} {r : mR} {x ix : Nat} (hw : Cond.methodLink Y.1.cls ix Lib.objectInit ∈ mT) (hst : (st.map fun v => v.category).sum ≤ 8) (hd : decode Y.2.1 pc = .ok (.invokespecial ix, 3)) (k : m_J X Y (d + 1) (pc + 3) L st h r) : m_J X Y (d + 1) pc L (.ref x :: st) h r := by
  refine ⟨k.1, fun E p l e R s m args below meth c H locs ls n0 z0 Q C g1 g2 hh hl K => ?_⟩
  have hts := C.2.2.2.2.1
  have hz : ((st.map (m_ph E)).map fun v => v.category).sum ≤ 8 := by
    rw [List.map_map, show ((fun v : Value => v.category) ∘ m_ph E) = (fun v => v.category) from funext (m_ph_cat E)]
    exact hst
  exact W.objInit C.1 C.2.1 C.2.2.2.1 (hts _ hw) (hts _ tw_1_20) (hts _ tw_1_21) rfl (by rw [C.2.2.1]; exact hl.1) rfl hd (by have := C.2.2.2.2.2.2.2.2.1; omega) (by have := C.2.2.2.2.2.2.2.2.2.1; have := lv_room (m := m) (pc := pc) (ls := ls) (rest := (.ref x :: st).map (m_ph E)) hz; omega) (k.2 E p l e R s m args below meth c H locs ls n0 z0 Q C g1 g2 hh hl K)
