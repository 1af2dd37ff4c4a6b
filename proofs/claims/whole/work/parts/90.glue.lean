/-! THE CLAIM OUT OF ONE WALK OF THE LAW'S BODY. Your part is whole_start (and what it stands on); all else here is the same for every law, but numbers. -/
def R_law : String := "SpecimenHallLaw"
def lw_P (b : Addr) (xs : List Int32) (args : Array Value) (s : State) : Prop := args = #[.ref b] ∧ s.IntsAt b xs ∧ xs.length ≤ 3072 ∧ (Jvm.Cond.and given_1 narrow_1).before args s = true
def lw_Q (_ : Array Value) (s : State) (o : Outcome) (t : State) : Prop := o = .returned (some (.int 1)) ∧ Framed s o t [] 600000 7302250
def lw_Z (below : List Frame) (a : Array Value) (s : State) : State → Prop := fun t => ∃ o, t.status = .running ∧ Ended t below o ∧ lw_Q a s o t
/-- the law's own end, with 1 on the stack, nothing written that was there before, its room as the claim has it -/
theorem lw_ret {p : Program} {l : Launch} {e : Env} {s : State} {m : MethodId} {below : List Frame} {meth : Method} {c : Code} {b : Nat} (hx : p.tables.exec = Jvm.exec) (hb : c.code = code) (hr : meth.sig.returnType = ret) (hlocks : meth.locks = false) {pc : Nat} {H : Heap} {ls : Array Slot} (hdg : decode code pc = .ok (.ireturn, 1)) : W p l e room_1 s m #[Value.ref b] below meth c H [] 600000 7302250 (lw_Z below #[Value.ref b] s) (F0 m pc ls [.int 1]) := by
  intro T hT X
  obtain ⟨fs, hret, hrun, hended, hW, hframe⟩ := X.leave (v := some (.int 1)) (hlocks := hlocks) (fun h => by rw [hr] at h; cases h)
  have hmeth' : T.vm.method? m = some meth := X.method'
  refine ⟨T.setFrames fs, ?_, .returned (some (.int 1)), hrun, hended, rfl, ⟨_, rfl⟩, hW, hframe⟩
  jvm_step X.here [X.here.top, hx, hb, hdg, hmeth', hr, ret, narrow_b1]
  (try refine ⟨rfl, ?_⟩); (try refine ⟨rfl, ?_⟩)
  first | (intro acts; rw [hret _ acts rfl rfl rfl]) | rw [hret _ _ rfl rfl rfl]
  exact Steps.refl _
/-- what holds at the law's entry: the machine, the code, the tables' words (any of lw_tbl by 'hts w (by decide +kernel)'), the script of L ints xs at the cell b, what the Statement gives of the start (any of its parts by flat_of_before) -/
def lw_At (p : Program) (s : State) (m : MethodId) (meth : Method) (c : Code) (b L : Nat) (xs : Nat → Int32) : Prop :=
  p.tables.exec = Jvm.exec ∧ c.code = code ∧ meth.sig.returnType = ret ∧ c.maxLocals = 4 ∧ s.vm.findClass R_law = some m.cls ∧ (∀ w ∈ lw_tbl, w.before #[Value.ref b] s = true) ∧ va_X b L xs s s.heap ∧ b < s.heap.size ∧ meth.locks = false ∧ (Jvm.Cond.and given_1 narrow_1).before #[Value.ref b] s = true
set_option maxRecDepth 20000 in
theorem g_tab0 {X : mX} {b : Nat} {s : State} {A : Nat → Prop} (hgv : (Jvm.Cond.and given_1 narrow_1).before #[Value.ref b] s = true) (hA : ∀ a : Nat, a < s.heap.size → ¬ A a) : ∃ t : Nat, (Term.static "SpecimenHall$Codes" "EXTENDED" "[J").eval #[Value.ref b] s none [] s = some (.ref t) ∧ va_T (m_tt 0) t (m_tN X 0) (m_tf X 0) A s s.heap := by
  have hs := flat_of_before _ hgv
  refine va_Tof (N := 9) (ty := .long) (by decide) (hs (.arrayOf (.static "SpecimenHall$Codes" "EXTENDED" "[J") .long) (by decide +kernel)) (va_eqt (hs (.eq (.length (.static "SpecimenHall$Codes" "EXTENDED" "[J")) (.int 9)) (by decide +kernel))) (fun j hj => ?_) hA
  match j, hj with
  | 0, _ => exact va_eqtl (hs (.eq (.elem (.static "SpecimenHall$Codes" "EXTENDED" "[J") (.int 0)) (.long 1099511627776)) (by decide +kernel))
  | 1, _ => exact va_eqtl (hs (.eq (.elem (.static "SpecimenHall$Codes" "EXTENDED" "[J") (.int 1)) (.long 3298534883328)) (by decide +kernel))
  | 2, _ => exact va_eqtl (hs (.eq (.elem (.static "SpecimenHall$Codes" "EXTENDED" "[J") (.int 2)) (.long 5497558138880)) (by decide +kernel))
  | 3, _ => exact va_eqtl (hs (.eq (.elem (.static "SpecimenHall$Codes" "EXTENDED" "[J") (.int 3)) (.long 8796093022208)) (by decide +kernel))
  | 4, _ => exact va_eqtl (hs (.eq (.elem (.static "SpecimenHall$Codes" "EXTENDED" "[J") (.int 4)) (.long 17592186044416)) (by decide +kernel))
  | 5, _ => exact va_eqtl (hs (.eq (.elem (.static "SpecimenHall$Codes" "EXTENDED" "[J") (.int 5)) (.long 35184372088832)) (by decide +kernel))
  | 6, _ => exact va_eqtl (hs (.eq (.elem (.static "SpecimenHall$Codes" "EXTENDED" "[J") (.int 6)) (.long 105553116266496)) (by decide +kernel))
  | 7, _ => exact va_eqtl (hs (.eq (.elem (.static "SpecimenHall$Codes" "EXTENDED" "[J") (.int 7)) (.long 175921860444160)) (by decide +kernel))
  | 8, _ => exact va_eqtl (hs (.eq (.elem (.static "SpecimenHall$Codes" "EXTENDED" "[J") (.int 8)) (.long 466192930177024)) (by decide +kernel))
  | k + 9, hj => exact absurd hj (by omega)
set_option maxRecDepth 20000 in
theorem g_tab1 {X : mX} {b : Nat} {s : State} {A : Nat → Prop} (hgv : (Jvm.Cond.and given_1 narrow_1).before #[Value.ref b] s = true) (hA : ∀ a : Nat, a < s.heap.size → ¬ A a) : ∃ t : Nat, (Term.static "SpecimenHall$Codes" "NAMED" "[J").eval #[Value.ref b] s none [] s = some (.ref t) ∧ va_T (m_tt 1) t (m_tN X 1) (m_tf X 1) A s s.heap := by
  have hs := flat_of_before _ hgv
  refine va_Tof (N := 24) (ty := .long) (by decide) (hs (.arrayOf (.static "SpecimenHall$Codes" "NAMED" "[J") .long) (by decide +kernel)) (va_eqt (hs (.eq (.length (.static "SpecimenHall$Codes" "NAMED" "[J")) (.int 24)) (by decide +kernel))) (fun j hj => ?_) hA
  match j, hj with
  | 0, _ => exact va_eqtl (hs (.eq (.elem (.static "SpecimenHall$Codes" "NAMED" "[J") (.int 0)) (.long 0)) (by decide +kernel))
  | 1, _ => exact va_eqtl (hs (.eq (.elem (.static "SpecimenHall$Codes" "NAMED" "[J") (.int 1)) (.long 3298534883328)) (by decide +kernel))
  | 2, _ => exact va_eqtl (hs (.eq (.elem (.static "SpecimenHall$Codes" "NAMED" "[J") (.int 2)) (.long 0)) (by decide +kernel))
  | 3, _ => exact va_eqtl (hs (.eq (.elem (.static "SpecimenHall$Codes" "NAMED" "[J") (.int 3)) (.long 8796093022208)) (by decide +kernel))
  | 4, _ => exact va_eqtl (hs (.eq (.elem (.static "SpecimenHall$Codes" "NAMED" "[J") (.int 4)) (.long 0)) (by decide +kernel))
  | 5, _ => exact va_eqtl (hs (.eq (.elem (.static "SpecimenHall$Codes" "NAMED" "[J") (.int 5)) (.long 105553116266496)) (by decide +kernel))
  | 6, _ => exact va_eqtl (hs (.eq (.elem (.static "SpecimenHall$Codes" "NAMED" "[J") (.int 6)) (.long 17592186044416)) (by decide +kernel))
  | 7, _ => exact va_eqtl (hs (.eq (.elem (.static "SpecimenHall$Codes" "NAMED" "[J") (.int 7)) (.long 0)) (by decide +kernel))
  | 8, _ => exact va_eqtl (hs (.eq (.elem (.static "SpecimenHall$Codes" "NAMED" "[J") (.int 8)) (.long 175921860444160)) (by decide +kernel))
  | 9, _ => exact va_eqtl (hs (.eq (.elem (.static "SpecimenHall$Codes" "NAMED" "[J") (.int 9)) (.long 0)) (by decide +kernel))
  | 10, _ => exact va_eqtl (hs (.eq (.elem (.static "SpecimenHall$Codes" "NAMED" "[J") (.int 10)) (.long 12094627905536)) (by decide +kernel))
  | 11, _ => exact va_eqtl (hs (.eq (.elem (.static "SpecimenHall$Codes" "NAMED" "[J") (.int 11)) (.long 0)) (by decide +kernel))
  | 12, _ => exact va_eqtl (hs (.eq (.elem (.static "SpecimenHall$Codes" "NAMED" "[J") (.int 12)) (.long 0)) (by decide +kernel))
  | 13, _ => exact va_eqtl (hs (.eq (.elem (.static "SpecimenHall$Codes" "NAMED" "[J") (.int 13)) (.long 17592186044416)) (by decide +kernel))
  | 14, _ => exact va_eqtl (hs (.eq (.elem (.static "SpecimenHall$Codes" "NAMED" "[J") (.int 14)) (.long 5497558138880)) (by decide +kernel))
  | 15, _ => exact va_eqtl (hs (.eq (.elem (.static "SpecimenHall$Codes" "NAMED" "[J") (.int 15)) (.long 17592186044416)) (by decide +kernel))
  | 16, _ => exact va_eqtl (hs (.eq (.elem (.static "SpecimenHall$Codes" "NAMED" "[J") (.int 16)) (.long 175921860444160)) (by decide +kernel))
  | 17, _ => exact va_eqtl (hs (.eq (.elem (.static "SpecimenHall$Codes" "NAMED" "[J") (.int 17)) (.long 3298534883328)) (by decide +kernel))
  | 18, _ => exact va_eqtl (hs (.eq (.elem (.static "SpecimenHall$Codes" "NAMED" "[J") (.int 18)) (.long 17592186044416)) (by decide +kernel))
  | 19, _ => exact va_eqtl (hs (.eq (.elem (.static "SpecimenHall$Codes" "NAMED" "[J") (.int 19)) (.long 466192930177024)) (by decide +kernel))
  | 20, _ => exact va_eqtl (hs (.eq (.elem (.static "SpecimenHall$Codes" "NAMED" "[J") (.int 20)) (.long 3298534883328)) (by decide +kernel))
  | 21, _ => exact va_eqtl (hs (.eq (.elem (.static "SpecimenHall$Codes" "NAMED" "[J") (.int 21)) (.long 8796093022208)) (by decide +kernel))
  | 22, _ => exact va_eqtl (hs (.eq (.elem (.static "SpecimenHall$Codes" "NAMED" "[J") (.int 22)) (.long 175921860444160)) (by decide +kernel))
  | 23, _ => exact va_eqtl (hs (.eq (.elem (.static "SpecimenHall$Codes" "NAMED" "[J") (.int 23)) (.long 105553116266496)) (by decide +kernel))
  | k + 24, hj => exact absurd hj (by omega)
set_option maxRecDepth 20000 in
theorem g_tab2 {X : mX} {b : Nat} {s : State} {A : Nat → Prop} (hgv : (Jvm.Cond.and given_1 narrow_1).before #[Value.ref b] s = true) (hA : ∀ a : Nat, a < s.heap.size → ¬ A a) : ∃ t : Nat, (Term.static "SpecimenHall$Codes" "PARENT" "[I").eval #[Value.ref b] s none [] s = some (.ref t) ∧ va_T (m_tt 2) t (m_tN X 2) (m_tf X 2) A s s.heap := by
  have hs := flat_of_before _ hgv
  refine va_Tof (N := 24) (ty := .int) (by decide) (hs (.arrayOf (.static "SpecimenHall$Codes" "PARENT" "[I") .int) (by decide +kernel)) (va_eqt (hs (.eq (.length (.static "SpecimenHall$Codes" "PARENT" "[I")) (.int 24)) (by decide +kernel))) (fun j hj => ?_) hA
  match j, hj with
  | 0, _ => exact va_eqt (hs (.eq (.elem (.static "SpecimenHall$Codes" "PARENT" "[I") (.int 0)) (.int (-1))) (by decide +kernel))
  | 1, _ => exact va_eqt (hs (.eq (.elem (.static "SpecimenHall$Codes" "PARENT" "[I") (.int 1)) (.int 0)) (by decide +kernel))
  | 2, _ => exact va_eqt (hs (.eq (.elem (.static "SpecimenHall$Codes" "PARENT" "[I") (.int 2)) (.int 1)) (by decide +kernel))
  | 3, _ => exact va_eqt (hs (.eq (.elem (.static "SpecimenHall$Codes" "PARENT" "[I") (.int 3)) (.int 1)) (by decide +kernel))
  | 4, _ => exact va_eqt (hs (.eq (.elem (.static "SpecimenHall$Codes" "PARENT" "[I") (.int 4)) (.int 3)) (by decide +kernel))
  | 5, _ => exact va_eqt (hs (.eq (.elem (.static "SpecimenHall$Codes" "PARENT" "[I") (.int 5)) (.int 3)) (by decide +kernel))
  | 6, _ => exact va_eqt (hs (.eq (.elem (.static "SpecimenHall$Codes" "PARENT" "[I") (.int 6)) (.int 1)) (by decide +kernel))
  | 7, _ => exact va_eqt (hs (.eq (.elem (.static "SpecimenHall$Codes" "PARENT" "[I") (.int 7)) (.int 6)) (by decide +kernel))
  | 8, _ => exact va_eqt (hs (.eq (.elem (.static "SpecimenHall$Codes" "PARENT" "[I") (.int 8)) (.int 6)) (by decide +kernel))
  | 9, _ => exact va_eqt (hs (.eq (.elem (.static "SpecimenHall$Codes" "PARENT" "[I") (.int 9)) (.int 0)) (by decide +kernel))
  | 10, _ => exact va_eqt (hs (.eq (.elem (.static "SpecimenHall$Codes" "PARENT" "[I") (.int 10)) (.int 9)) (by decide +kernel))
  | 11, _ => exact va_eqt (hs (.eq (.elem (.static "SpecimenHall$Codes" "PARENT" "[I") (.int 11)) (.int 10)) (by decide +kernel))
  | 12, _ => exact va_eqt (hs (.eq (.elem (.static "SpecimenHall$Codes" "PARENT" "[I") (.int 12)) (.int 10)) (by decide +kernel))
  | 13, _ => exact va_eqt (hs (.eq (.elem (.static "SpecimenHall$Codes" "PARENT" "[I") (.int 13)) (.int 12)) (by decide +kernel))
  | 14, _ => exact va_eqt (hs (.eq (.elem (.static "SpecimenHall$Codes" "PARENT" "[I") (.int 14)) (.int 9)) (by decide +kernel))
  | 15, _ => exact va_eqt (hs (.eq (.elem (.static "SpecimenHall$Codes" "PARENT" "[I") (.int 15)) (.int 14)) (by decide +kernel))
  | 16, _ => exact va_eqt (hs (.eq (.elem (.static "SpecimenHall$Codes" "PARENT" "[I") (.int 16)) (.int 14)) (by decide +kernel))
  | 17, _ => exact va_eqt (hs (.eq (.elem (.static "SpecimenHall$Codes" "PARENT" "[I") (.int 17)) (.int 9)) (by decide +kernel))
  | 18, _ => exact va_eqt (hs (.eq (.elem (.static "SpecimenHall$Codes" "PARENT" "[I") (.int 18)) (.int 17)) (by decide +kernel))
  | 19, _ => exact va_eqt (hs (.eq (.elem (.static "SpecimenHall$Codes" "PARENT" "[I") (.int 19)) (.int 17)) (by decide +kernel))
  | 20, _ => exact va_eqt (hs (.eq (.elem (.static "SpecimenHall$Codes" "PARENT" "[I") (.int 20)) (.int 0)) (by decide +kernel))
  | 21, _ => exact va_eqt (hs (.eq (.elem (.static "SpecimenHall$Codes" "PARENT" "[I") (.int 21)) (.int 20)) (by decide +kernel))
  | 22, _ => exact va_eqt (hs (.eq (.elem (.static "SpecimenHall$Codes" "PARENT" "[I") (.int 22)) (.int 20)) (by decide +kernel))
  | 23, _ => exact va_eqt (hs (.eq (.elem (.static "SpecimenHall$Codes" "PARENT" "[I") (.int 23)) (.int 21)) (by decide +kernel))
  | k + 24, hj => exact absurd hj (by omega)
set_option maxRecDepth 20000 in
theorem g_tab3 {X : mX} {b : Nat} {s : State} {A : Nat → Prop} (hgv : (Jvm.Cond.and given_1 narrow_1).before #[Value.ref b] s = true) (hA : ∀ a : Nat, a < s.heap.size → ¬ A a) : ∃ t : Nat, (Term.static "SpecimenHall$Rules" "MOST" "[I").eval #[Value.ref b] s none [] s = some (.ref t) ∧ va_T (m_tt 3) t (m_tN X 3) (m_tf X 3) A s s.heap := by
  have hs := flat_of_before _ hgv
  refine va_Tof (N := 5) (ty := .int) (by decide) (hs (.arrayOf (.static "SpecimenHall$Rules" "MOST" "[I") .int) (by decide +kernel)) (va_eqt (hs (.eq (.length (.static "SpecimenHall$Rules" "MOST" "[I")) (.int 5)) (by decide +kernel))) (fun j hj => ?_) hA
  match j, hj with
  | 0, _ => exact va_eqt (hs (.eq (.elem (.static "SpecimenHall$Rules" "MOST" "[I") (.int 0)) (.int 9)) (by decide +kernel))
  | 1, _ => exact va_eqt (hs (.eq (.elem (.static "SpecimenHall$Rules" "MOST" "[I") (.int 1)) (.int 99)) (by decide +kernel))
  | 2, _ => exact va_eqt (hs (.eq (.elem (.static "SpecimenHall$Rules" "MOST" "[I") (.int 2)) (.int 365)) (by decide +kernel))
  | 3, _ => exact va_eqt (hs (.eq (.elem (.static "SpecimenHall$Rules" "MOST" "[I") (.int 3)) (.int 1000)) (by decide +kernel))
  | 4, _ => exact va_eqt (hs (.eq (.elem (.static "SpecimenHall$Rules" "MOST" "[I") (.int 4)) (.int 9)) (by decide +kernel))
  | k + 5, hj => exact absurd hj (by omega)
theorem g_arr {s : State} {cA : ClassId} {kA : Class} {comp : ClassId} {ty : FieldType} (h1 : s.vm.classes[cA]? = some kA) (h2 : kA.kind = .array comp ty) : ArrOfT s cA ty := fun n z => ⟨fun k h => (by cases h), kA, h1, comp, h2⟩
theorem g_prim {s : State} {args : Array Value} {ty : FieldType} (h : (Cond.arrayClass ty).before args s = true) (hp : ∀ U cA, va_RA U cA ty = (U.vm.findClass ("[" ++ ty.toString) = some cA)) : ∃ cA, ArrOfT s cA ty ∧ va_RA s cA ty := by
  obtain ⟨c, k, comp, h1, h2, h3⟩ := Cond.arrayClass_spec h
  exact ⟨c, g_arr h2 h3, by rw [hp]; exact h1⟩
theorem g_over {s : State} {args : Array Value} {C : String} (h : (Cond.arrayOver (.object C)).before args s = true) : ∃ cA, ArrOfT s cA (.object C) ∧ va_RA s cA (.object C) := by
  obtain ⟨comp, c, k, h1, h2, h3, h4, h5⟩ := Cond.arrayOver_spec h
  exact ⟨c, g_arr h3 h4, k, comp, h3, h4, h1, h5⟩
theorem g_script {b L : Nat} {xs : Nat → Int32} {s : State} {A : Nat → Prop} (hX : va_X b L xs s s.heap) (hA : ∀ a : Nat, a < s.heap.size → ¬ A a) : va_T .int b L (fun j => .int (xs j)) A s s.heap := by
  obtain ⟨scr, h1, h2, h3, h4, h5⟩ := hX
  exact ⟨scr, h1, h2, h3, by rw [h4]; exact Nat.le_refl _, by rw [h4], h5, hA b (Array.getElem?_eq_some_iff.mp h1).1⟩
set_option maxHeartbeats 4000000 in
set_option maxRecDepth 100000 in
theorem whole_start {p : Program} {e : Env} {s : State} {m : MethodId} {below : List Frame} {meth : Method} {c : Code} (l : Launch) {b L : Nat} {xs : Nat → Int32} (hL : L ≤ 3072) (C0 : lw_At p s m meth c b L xs) : W p l e room_1 s m #[Value.ref b] below meth c s.heap [] 0 0 (lw_Z below #[Value.ref b] s) (entryFrame m ([Value.ref b] : List Value).toArray 4) := by
  obtain ⟨hx, hb, hr, hml, hown, hts, hX, hbl, hlocks, hgv⟩ := C0
  have htm : ∀ w ∈ mT, w.before #[Value.ref b] s = true := fun w hw => hts w (mT_in w hw)
  have hA : ∀ a : Nat, a < s.heap.size → ¬ (fun q : Nat => s.heap.size ≤ q) a := fun a h1 h2 => Nat.not_le.mpr h1 h2
  obtain ⟨cX0, iX0, hKnX0⟩ := u_known (C := RX0) (T := TX0) (N := 3) (n := 3) htm inX0 (htm _ tw_2_5)
  obtain ⟨cX2, iX2, hKnX2⟩ := u_known (C := RX2) (T := TX2) (N := 3) (n := 3) htm inX2 (htm _ tw_1_72)
  obtain ⟨cX3, iX3, hKnX3⟩ := u_known (C := RX3) (T := TX3) (N := 5) (n := 5) htm inX3 (htm _ tw_1_106)
  obtain ⟨cX4, iX4, hKnX4⟩ := u_known (C := RX4) (T := TX4) (N := 4) (n := 4) htm inX4 (htm _ tw_3_58)
  obtain ⟨cX5, iX5, hKnX5⟩ := u_known (C := RX5) (T := TX5) (N := 2) (n := 2) htm inX5 (htm _ tw_1_91)
  obtain ⟨cX6, iX6, hKnX6⟩ := u_known (C := RX6) (T := TX6) (N := 5) (n := 5) htm inX6 (htm _ tw_1_45)
  obtain ⟨cX7, iX7, hKnX7⟩ := u_known (C := RX7) (T := TX7) (N := 11) (n := 11) htm inX7 (htm _ tw_1_177)
  obtain ⟨cX8, iX8, hKnX8⟩ := u_known (C := RX8) (T := TX8) (N := 3) (n := 3) htm inX8 (htm _ tw_1_23)
  obtain ⟨cX9, iX9, hKnX9⟩ := u_known (C := RX9) (T := TX9) (N := 8) (n := 8) htm inX9 (htm _ tw_1_15)
  obtain ⟨cX10, iX10, hKnX10⟩ := u_known (C := RX10) (T := TX10) (N := 30) (n := 30) htm inX10 (htm _ tw_3_188)
  obtain ⟨dC, dI, hKc⟩ : ∃ (dC : Nat → ClassId) (dI : Nat → Nat → Nat), ∀ (k : Nat) (q : vw_C), vwCl[k]? = some q → u_Kn s q.1 q.2.1 q.2.2 (dC k) (dI k) := by
    refine ⟨fun k => [cX0, cX2, cX3, cX4, cX5, cX6, cX7, cX8, cX9, cX10].getD k 0, fun k => [iX0, iX2, iX3, iX4, iX5, iX6, iX7, iX8, iX9, iX10].getD k (fun _ => 0), ?_⟩
    intro k q hq
    match k, hq with
    | 0, hq => cases hq; exact hKnX0
    | 1, hq => cases hq; exact hKnX2
    | 2, hq => cases hq; exact hKnX3
    | 3, hq => cases hq; exact hKnX4
    | 4, hq => cases hq; exact hKnX5
    | 5, hq => cases hq; exact hKnX6
    | 6, hq => cases hq; exact hKnX7
    | 7, hq => cases hq; exact hKnX8
    | 8, hq => cases hq; exact hKnX9
    | 9, hq => cases hq; exact hKnX10
    | k + 10, hq => simp [vwCl] at hq
  obtain ⟨cI, aI, rI⟩ := g_prim (htm _ tw_1_104) (fun _ _ => rfl)
  obtain ⟨cJ, aJ, rJ⟩ := g_prim (htm _ tw_1_103) (fun _ _ => rfl)
  have oX7 : (Cond.arrayOver (.object RX7)).before #[Value.ref b] s = true := hts _ (by decide +kernel)
  obtain ⟨c2, a2, r2⟩ := g_over oX7
  have oX0 : (Cond.arrayOver (.object RX0)).before #[Value.ref b] s = true := hts _ (by decide +kernel)
  obtain ⟨c3, a3, r3⟩ := g_over oX0
  have oX6 : (Cond.arrayOver (.object RX6)).before #[Value.ref b] s = true := hts _ (by decide +kernel)
  obtain ⟨c4, a4, r4⟩ := g_over oX6
  have oX2 : (Cond.arrayOver (.object RX2)).before #[Value.ref b] s = true := hts _ (by decide +kernel)
  obtain ⟨c5, a5, r5⟩ := g_over oX2
  have oX4 : (Cond.arrayOver (.object RX4)).before #[Value.ref b] s = true := hts _ (by decide +kernel)
  obtain ⟨c6, a6, r6⟩ := g_over oX4
  obtain ⟨t0, v0, T0⟩ := g_tab0 (X := (L, xs)) hgv hA
  have Z0 : va_Z (m_tc 0).1 (m_tc 0).2.1 (m_tc 0).2.2 (.ref t0) (fun q : Nat => s.heap.size ≤ q) s s.heap := va_Zref (hts (.laysStatic "SpecimenHall$Codes" "EXTENDED" "[J") (by decide +kernel)) (hts (.initialized "SpecimenHall$Codes") (by decide +kernel)) v0 hA
  obtain ⟨t1, v1, T1⟩ := g_tab1 (X := (L, xs)) hgv hA
  have Z1 : va_Z (m_tc 1).1 (m_tc 1).2.1 (m_tc 1).2.2 (.ref t1) (fun q : Nat => s.heap.size ≤ q) s s.heap := va_Zref (hts (.laysStatic "SpecimenHall$Codes" "NAMED" "[J") (by decide +kernel)) (hts (.initialized "SpecimenHall$Codes") (by decide +kernel)) v1 hA
  obtain ⟨t2, v2, T2⟩ := g_tab2 (X := (L, xs)) hgv hA
  have Z2 : va_Z (m_tc 2).1 (m_tc 2).2.1 (m_tc 2).2.2 (.ref t2) (fun q : Nat => s.heap.size ≤ q) s s.heap := va_Zref (hts (.laysStatic "SpecimenHall$Codes" "PARENT" "[I") (by decide +kernel)) (hts (.initialized "SpecimenHall$Codes") (by decide +kernel)) v2 hA
  obtain ⟨t3, v3, T3⟩ := g_tab3 (X := (L, xs)) hgv hA
  have Z3 : va_Z (m_tc 3).1 (m_tc 3).2.1 (m_tc 3).2.2 (.ref t3) (fun q : Nat => s.heap.size ≤ q) s s.heap := va_Zref (hts (.laysStatic "SpecimenHall$Rules" "MOST" "[I") (by decide +kernel)) (hts (.initialized "SpecimenHall$Rules") (by decide +kernel)) v3 hA
  have T4 := g_script hX hA
  obtain ⟨E, hE1, hE2, hE3, hE4⟩ : ∃ E : mE, E.1 = (dC, dI) ∧ E.2.1 = s.heap.size ∧ (E.2.2.1 0 = t0 ∧ E.2.2.1 1 = t1 ∧ E.2.2.1 2 = t2 ∧ E.2.2.1 3 = t3 ∧ E.2.2.1 4 = b) ∧ (E.2.2.2 0 = cI ∧ E.2.2.2 1 = cJ ∧ E.2.2.2 2 = c2 ∧ E.2.2.2 3 = c3 ∧ E.2.2.2 4 = c4 ∧ E.2.2.2 5 = c5 ∧ E.2.2.2 6 = c6) := ⟨((dC, dI), s.heap.size, fun i => [t0, t1, t2, t3, b].getD i 0, fun i => [cI, cJ, c2, c3, c4, c5, c6].getD i 0), rfl, rfl, ⟨rfl, rfl, rfl, rfl, rfl⟩, ⟨rfl, rfl, rfl, rfl, rfl, rfl, rfl⟩⟩
  have hAE : m_A E = (fun q : Nat => s.heap.size ≤ q) := by unfold m_A; rw [hE2]
  have hK : va_K E.1 vwCl (m_tys E) s := by
    refine ⟨by rw [hE1]; exact hKc, fun k q hq => ?_⟩
    obtain ⟨f0, f1, f2, f3, f4, f5, f6⟩ := hE4
    match k, hq with
    | 0, hq => cases hq; rw [f0]; exact ⟨aI, rI⟩
    | 1, hq => cases hq; rw [f1]; exact ⟨aJ, rJ⟩
    | 2, hq => cases hq; rw [f2]; exact ⟨a2, r2⟩
    | 3, hq => cases hq; rw [f3]; exact ⟨a3, r3⟩
    | 4, hq => cases hq; rw [f4]; exact ⟨a4, r4⟩
    | 5, hq => cases hq; rw [f5]; exact ⟨a5, r5⟩
    | 6, hq => cases hq; rw [f6]; exact ⟨a6, r6⟩
    | k + 7, hq => simp [m_tys] at hq
  have hSt : m_St (L, xs) E s s.heap := by
    rw [m_St, hAE]
    obtain ⟨e0, e1, e2, e3, e4⟩ := hE3
    refine ⟨fun i hi => ?_, fun i hi => ?_, fun t => ?_⟩
    · rcases (show i = 0 ∨ i = 1 ∨ i = 2 ∨ i = 3 by omega) with rfl | rfl | rfl | rfl
      · rw [e0]; exact Z0
      · rw [e1]; exact Z1
      · rw [e2]; exact Z2
      · rw [e3]; exact Z3
    · rcases (show i = 0 ∨ i = 1 ∨ i = 2 ∨ i = 3 ∨ i = 4 by omega) with rfl | rfl | rfl | rfl | rfl
      · rw [e0]; exact T0
      · rw [e1]; exact T1
      · rw [e2]; exact T2
      · rw [e3]; exact T3
      · rw [e4]; exact T4
    · unfold m_ao
      split
      · exact oX7
      · exact oX0
      · exact oX6
      · exact oX2
      · exact oX4
  obtain ⟨h', hf, hc1, hc2⟩ := law_pure (L, xs) hL
  have hl := lv_entry ([.ref b]) (n := 4) (Nat.le_of_ble_eq_true rfl)
  rw [lg_entry_eq]
  have hP : va_P E.1 vwCl (m_ws E h_0) s.heap := fun k q h => by simp [m_ws, h_0] at h
  refine (j_L_law (X := (L, xs)) (d := 8) (by decide) hf).2 E p l e room_1 s m _ below meth c s.heap [] _ 0 0 _ ⟨hx, hb, hml, hown, htm, hK, hSt, fun hy => absurd hy (by decide +kernel), by decide, by decide, hc1, hc2, by rw [hE2]; rfl⟩ (Nat.zero_le _) (Nat.zero_le _) ⟨hP, va_S.rf⟩ ⟨hl.1, hl.2.1, fun i v hi => ?_⟩ (fun pc ls H locs hdec hrk hh => ?_)
  · match i, hi with
    | 0, hi =>
      cases hi
      rw [m_phT (by decide), hE3.2.2.2.2]
      exact hl.2.2 (0, .ref b) List.mem_cons_self
    | 1, hi => cases hi
    | 2, hi => cases hi
    | 3, hi => cases hi
    | k + 4, hi => simp at hi
  · refine va_forget (fun q hq => ?_) ?_
    · have := hh.2.2.2 q hq
      rw [hAE] at this
      exact this
    · refine W.widen (k := 600000) (n := 7302250) (by omega) (by omega) ?_
      exact lw_ret hx hb hr hlocks hdec
set_option maxHeartbeats 4000000 in
theorem lw_walk (l : Launch) (b : Addr) (xs : List Int32) : MetFree l x (headSpec (Jvm.Cond.code x code maxLocals ret :: tables_1) room_1) (lw_P b xs) (fun _ _ _ _ _ => True) lw_Q := by
  refine MetFree.of_bodyS (code := code) (maxLocals := maxLocals) (ret := ret) (by decide) ?_ ?_
  · intro args s m h hn
    obtain ⟨meth, c, h1, h2, h3, h4, h5, h6, -, -⟩ := Cond.code_spec hn (atoms_spec (ws := Jvm.Cond.code x code maxLocals ret :: tables_1) h _ List.mem_cons_self)
    exact ⟨meth, c, h1, h2, h3, h4, h5, h6⟩
  · intro p e s m args below meth c s₁ B hml0 hP _
    obtain ⟨rfl, hx, hbd, hgv⟩ := hP
    obtain ⟨scr, harrAt, hlist, hof, hsmall⟩ := hx
    obtain ⟨hcb, hkn, -, -⟩ := State.arrayAt?_spec harrAt
    have hown : s.vm.findClass R_law = some m.cls := findClass_of_methodNamed B.named
    have hts0 : ∀ c ∈ (Jvm.Cond.code x code maxLocals ret :: tables_1), c.before #[Value.ref b] s = true := atoms_spec (ws := Jvm.Cond.code x code maxLocals ret :: tables_1) B.pre
    have hts : ∀ w ∈ lw_tbl, w.before #[Value.ref b] s = true := k2_hts_sels lw_privs (fun w hw => hts0 w (List.mem_cons_of_mem _ hw)) lw_privs_ok
    have hml : c.maxLocals = 4 := B.maxLocals_eq (hts0 _ List.mem_cons_self)
    have X₀ : Stand p l e room_1 s m #[Value.ref b] below meth c s₁ [] 0 0 := Stand.of_body B
    have hh0 : s₁.heap = s.heap := by rw [B.state]; rfl
    have hsz : scr.slots.size = xs.length := by rw [← Array.length_toList, hlist, List.length_map]
    have hval : ∀ j : Nat, j < xs.length → scr.slots[j]? = some (.int (xs.getD j 0)) := fun j hj => by
      rw [← Array.getElem?_toList, hlist]
      simp [hj]
    have hbl : b < s.heap.size := (Array.getElem?_eq_some_iff.mp hcb).1
    have hX : va_X b xs.length (fun j => xs.getD j 0) s s.heap := ⟨scr, hcb, hof, hkn, hsz, hval⟩
    have K : W p l e room_1 s m #[Value.ref b] below meth c s₁.heap [] 0 0 (lw_Z below #[Value.ref b] s) (entryFrame m ([Value.ref b] : List Value).toArray 4) := by
      rw [hh0]
      exact whole_start l hbd ⟨B.exec, B.bytes, B.returns, hml, hown, hts, hX, hbl, B.notSynchronized, hgv⟩
    obtain ⟨t, a1, o, b1, b2, b3⟩ := K s₁ rfl X₀
    exact ⟨t, o, a1, b1, b2, b3⟩
theorem lw_pre_spec {args : Array Value} {s : State} (h : (Jvm.Cond.and given_1 narrow_1).before args s = true) (hr : rest_1_c.before args s = true) : ∃ (b : Addr) (xs : List Int32), lw_P b xs args s := by
  have hs := flat_of_before _ h
  have hq := flat_of_before _ hr
  have hc : (Cond.count 1).before args s = true := hs _ (by decide +kernel)
  have harr : (Cond.arrayOf (.arg 0) .int).before args s = true := hs _ (by decide +kernel)
  have hle : (Cond.le (.length (.arg 0)) (.int 3072)).before args s = true := hs _ (by decide +kernel)
  have hlen : (Cond.isInt (.length (.arg 0))).before args s = true := hq _ (by decide +kernel)
  have hall : (Cond.all (.arg 0) (.isInt (.elem (.arg 0) (.index 0)))).before args s = true := hq _ (by decide +kernel)
  obtain ⟨b, xs, hb, hx⟩ := State.ints_of_pre rfl harr hlen hall
  have hsm : xs.length < 2 ^ 31 := hx.choose_spec.2.2.2
  have hev : (Term.length (.arg 0)).eval args s none [] s = some (.int xs.length.toInt32) := hx.length_eval hb
  have hv := Cond.le_ints hev (show (Term.int 3072).eval args s none [] s = some (.int 3072) from rfl)
  have hd : xs.length.toInt32 ≤ 3072 := by
    simpa [Cond.before, Cond.holds, hv] using hle
  have hN : xs.length ≤ 3072 := (Int32.ofNat_le_ofNat hsm (by decide)).mp (show Int32.ofNat xs.length ≤ Int32.ofNat 3072 from hd)
  exact ⟨b, xs, Cond.one_arg hc (show args[0]? = some (.ref b) from hb), hx, hN, h⟩
theorem lw_comes (l : Launch) : Comes l x (Jvm.Cond.code x code maxLocals ret :: tables_1) room_1 (fun tb e args s => Calls_1 tb e args s ∧ rest_1 tb e args s ∧ Pre_1 tb e args s)
    (fun _ _ args s o t => lw_Q args s o t) := by
  intro p e ha hc hk s m args below hf hfit hheap happ hpre
  obtain ⟨b, xs, hP⟩ := lw_pre_spec hpre.2.2 hpre.2.1
  obtain ⟨k, o, h1, h2, h3, hQ⟩ := lw_walk l b xs p e ha hc hk s m args below hf ((Spec.applies_iff_loose hf).mp happ).1 hP trivial
  exact ⟨k, o, h1, h2, h3, hQ⟩
theorem lw_frame {s t : State} {o : Outcome} {args : Array Value} (h : Framed s o t [] 600000 7302250) :
    Framed s o t (fieldLocs frame_1_writes args s ++ arrayLocs frame_1_arrays args s ++ staticLocs frame_1_statics s) 600000 7302250 := h
theorem lw_limb (L : Cond) (hL : ∀ (args : Array Value) (s t : State), L.after args s (.returned (some (.int 1))) t = true) :
    ArmFor flags0 classFile x code maxLocals ret World_1 tables_1 room_1 Calls_1 rest_1 Pre_1
      (fun tb e a s o t => postC L tb e a s o t ∧ Framed s o t (fieldLocs frame_1_writes a s ++ arrayLocs frame_1_arrays a s ++ staticLocs frame_1_statics s) 600000 7302250) := by
  intro l _ _ _ p e ha hc hk s m args below hf hfit hheap happ hpre
  obtain ⟨k, o, h1, h2, h3, rfl, hF⟩ := lw_comes l p e ha hc hk s m args below hf hfit hheap happ hpre
  exact ⟨k, _, h1, h2, h3, hL args s _, lw_frame hF⟩
theorem i_vc : Claimed_1_1 ∧ Claimed_1_2 := ⟨lw_limb limb_1_1 (fun args s t => by simp [limb_1_1, Cond.after, Cond.holds, Cond.value]), lw_limb limb_1_2 (fun args s t => Cond.after_iff.mpr (by
  first | (rw [show limb_1_2 = Cond.eq .result (.int 1) from rfl, Cond.eq_ints (x := 1) (y := 1) rfl rfl]; simp; done) | (simp [limb_1_2, Cond.value, Term.eval]; done)))⟩

