section
-- ===== PART A: goes FIRST, ahead of the names: the tables' words, and 'selects' of the private methods out of them =====
/-- a private method of a class that the tables say can be made, by its rows of tables_1 -/
def lw_okq (q : MethodName × Nat) : Prop := (q.1.cls ≠ "java/lang/invoke/MethodHandle" ∧ q.1.cls ≠ "java/lang/invoke/VarHandle") ∧ Cond.instantiable q.1.cls q.2 ∈ tables_1 ∧ Cond.privateMethod q.1 ∈ tables_1 ∧ Cond.instanceMethod q.1 ∈ tables_1
theorem lw_p0 : lw_okq (⟨"SpecimenHall", "boxAt", "(I)LSpecimenHall$Box;"⟩, 8) := ⟨⟨by decide +kernel, by decide +kernel⟩, List.mem_of_getElem? (i := 15) (by decide +kernel), List.mem_of_getElem? (i := 272) (by decide +kernel), List.mem_of_getElem? (i := 273) (by decide +kernel)⟩
theorem lw_p1 : lw_okq (⟨"SpecimenHall$Box", "hasPlace", "(I)Z"⟩, 3) := ⟨⟨by decide +kernel, by decide +kernel⟩, List.mem_of_getElem? (i := 245) (by decide +kernel), List.mem_of_getElem? (i := 284) (by decide +kernel), List.mem_of_getElem? (i := 285) (by decide +kernel)⟩
theorem lw_p2 : lw_okq (⟨"SpecimenHall", "specimenIn", "(II)LSpecimenHall$Specimen;"⟩, 8) := ⟨⟨by decide +kernel, by decide +kernel⟩, List.mem_of_getElem? (i := 15) (by decide +kernel), List.mem_of_getElem? (i := 321) (by decide +kernel), List.mem_of_getElem? (i := 322) (by decide +kernel)⟩
theorem lw_p3 : lw_okq (⟨"SpecimenHall", "lendBox", "(LSpecimenHall$Box;II)I"⟩, 8) := ⟨⟨by decide +kernel, by decide +kernel⟩, List.mem_of_getElem? (i := 15) (by decide +kernel), List.mem_of_getElem? (i := 433) (by decide +kernel), List.mem_of_getElem? (i := 434) (by decide +kernel)⟩
theorem lw_p4 : lw_okq (⟨"SpecimenHall", "mayBeLent", "(LSpecimenHall$Specimen;)Z"⟩, 8) := ⟨⟨by decide +kernel, by decide +kernel⟩, List.mem_of_getElem? (i := 15) (by decide +kernel), List.mem_of_getElem? (i := 437) (by decide +kernel), List.mem_of_getElem? (i := 438) (by decide +kernel)⟩
theorem lw_p5 : lw_okq (⟨"SpecimenHall", "openLoan", "(LSpecimenHall$Specimen;II)V"⟩, 8) := ⟨⟨by decide +kernel, by decide +kernel⟩, List.mem_of_getElem? (i := 15) (by decide +kernel), List.mem_of_getElem? (i := 446) (by decide +kernel), List.mem_of_getElem? (i := 447) (by decide +kernel)⟩
theorem lw_p6 : lw_okq (⟨"SpecimenHall$Loans", "remove", "(LSpecimenHall$Specimen;)V"⟩, 5) := ⟨⟨by decide +kernel, by decide +kernel⟩, List.mem_of_getElem? (i := 106) (by decide +kernel), List.mem_of_getElem? (i := 483) (by decide +kernel), List.mem_of_getElem? (i := 484) (by decide +kernel)⟩
theorem lw_p7 : lw_okq (⟨"SpecimenHall", "keyAt", "(I)LSpecimenHall$Key;"⟩, 8) := ⟨⟨by decide +kernel, by decide +kernel⟩, List.mem_of_getElem? (i := 15) (by decide +kernel), List.mem_of_getElem? (i := 520) (by decide +kernel), List.mem_of_getElem? (i := 521) (by decide +kernel)⟩
theorem lw_p8 : lw_okq (⟨"SpecimenHall$Key", "questionAt", "(I)LSpecimenHall$Question;"⟩, 3) := ⟨⟨by decide +kernel, by decide +kernel⟩, List.mem_of_getElem? (i := 72) (by decide +kernel), List.mem_of_getElem? (i := 570) (by decide +kernel), List.mem_of_getElem? (i := 571) (by decide +kernel)⟩
theorem lw_p9 : lw_okq (⟨"SpecimenHall$Question", "holdsFor", "(LSpecimenHall$Specimen;)Z"⟩, 4) := ⟨⟨by decide +kernel, by decide +kernel⟩, List.mem_of_getElem? (i := 538) (by decide +kernel), List.mem_of_getElem? (i := 578) (by decide +kernel), List.mem_of_getElem? (i := 579) (by decide +kernel)⟩
theorem lw_p10 : lw_okq (⟨"SpecimenHall", "shelfAt", "(I)LSpecimenHall$Shelf;"⟩, 8) := ⟨⟨by decide +kernel, by decide +kernel⟩, List.mem_of_getElem? (i := 15) (by decide +kernel), List.mem_of_getElem? (i := 625) (by decide +kernel), List.mem_of_getElem? (i := 626) (by decide +kernel)⟩
theorem lw_p11 : lw_okq (⟨"SpecimenHall", "onShelves", "()I"⟩, 8) := ⟨⟨by decide +kernel, by decide +kernel⟩, List.mem_of_getElem? (i := 15) (by decide +kernel), List.mem_of_getElem? (i := 660) (by decide +kernel), List.mem_of_getElem? (i := 661) (by decide +kernel)⟩
theorem lw_p12 : lw_okq (⟨"SpecimenHallModel", "above", "(II)Z"⟩, 30) := ⟨⟨by decide +kernel, by decide +kernel⟩, List.mem_of_getElem? (i := 668) (by decide +kernel), List.mem_of_getElem? (i := 781) (by decide +kernel), List.mem_of_getElem? (i := 782) (by decide +kernel)⟩
theorem lw_p13 : lw_okq (⟨"SpecimenHallModel", "stepsTo", "(II)I"⟩, 30) := ⟨⟨by decide +kernel, by decide +kernel⟩, List.mem_of_getElem? (i := 668) (by decide +kernel), List.mem_of_getElem? (i := 785) (by decide +kernel), List.mem_of_getElem? (i := 786) (by decide +kernel)⟩
theorem lw_p14 : lw_okq (⟨"SpecimenHallModel", "traitAbove", "(II)Z"⟩, 30) := ⟨⟨by decide +kernel, by decide +kernel⟩, List.mem_of_getElem? (i := 668) (by decide +kernel), List.mem_of_getElem? (i := 789) (by decide +kernel), List.mem_of_getElem? (i := 790) (by decide +kernel)⟩
theorem lw_p15 : lw_okq (⟨"SpecimenHallModel", "isShared", "(III)Z"⟩, 30) := ⟨⟨by decide +kernel, by decide +kernel⟩, List.mem_of_getElem? (i := 668) (by decide +kernel), List.mem_of_getElem? (i := 805) (by decide +kernel), List.mem_of_getElem? (i := 806) (by decide +kernel)⟩
def lw_privs_1 : List (MethodName × Nat) := [(⟨"SpecimenHall", "boxAt", "(I)LSpecimenHall$Box;"⟩, 8), (⟨"SpecimenHall$Box", "hasPlace", "(I)Z"⟩, 3), (⟨"SpecimenHall", "specimenIn", "(II)LSpecimenHall$Specimen;"⟩, 8), (⟨"SpecimenHall", "lendBox", "(LSpecimenHall$Box;II)I"⟩, 8), (⟨"SpecimenHall", "mayBeLent", "(LSpecimenHall$Specimen;)Z"⟩, 8), (⟨"SpecimenHall", "openLoan", "(LSpecimenHall$Specimen;II)V"⟩, 8), (⟨"SpecimenHall$Loans", "remove", "(LSpecimenHall$Specimen;)V"⟩, 5), (⟨"SpecimenHall", "keyAt", "(I)LSpecimenHall$Key;"⟩, 8), (⟨"SpecimenHall$Key", "questionAt", "(I)LSpecimenHall$Question;"⟩, 3), (⟨"SpecimenHall$Question", "holdsFor", "(LSpecimenHall$Specimen;)Z"⟩, 4), (⟨"SpecimenHall", "shelfAt", "(I)LSpecimenHall$Shelf;"⟩, 8), (⟨"SpecimenHall", "onShelves", "()I"⟩, 8), (⟨"SpecimenHallModel", "above", "(II)Z"⟩, 30), (⟨"SpecimenHallModel", "stepsTo", "(II)I"⟩, 30), (⟨"SpecimenHallModel", "traitAbove", "(II)Z"⟩, 30), (⟨"SpecimenHallModel", "isShared", "(III)Z"⟩, 30)]
theorem lw_r1 : ∀ q ∈ lw_privs_1, lw_okq q := List.forall_mem_cons.mpr ⟨lw_p0, List.forall_mem_cons.mpr ⟨lw_p1, List.forall_mem_cons.mpr ⟨lw_p2, List.forall_mem_cons.mpr ⟨lw_p3, List.forall_mem_cons.mpr ⟨lw_p4, List.forall_mem_cons.mpr ⟨lw_p5, List.forall_mem_cons.mpr ⟨lw_p6, List.forall_mem_cons.mpr ⟨lw_p7, List.forall_mem_cons.mpr ⟨lw_p8, List.forall_mem_cons.mpr ⟨lw_p9, List.forall_mem_cons.mpr ⟨lw_p10, List.forall_mem_cons.mpr ⟨lw_p11, List.forall_mem_cons.mpr ⟨lw_p12, List.forall_mem_cons.mpr ⟨lw_p13, List.forall_mem_cons.mpr ⟨lw_p14, List.forall_mem_cons.mpr ⟨lw_p15, fun _ h => absurd h List.not_mem_nil⟩⟩⟩⟩⟩⟩⟩⟩⟩⟩⟩⟩⟩⟩⟩⟩
theorem lw_p16 : lw_okq (⟨"SpecimenHallModel", "isAbstract", "(I)Z"⟩, 30) := ⟨⟨by decide +kernel, by decide +kernel⟩, List.mem_of_getElem? (i := 668) (by decide +kernel), List.mem_of_getElem? (i := 813) (by decide +kernel), List.mem_of_getElem? (i := 814) (by decide +kernel)⟩
theorem lw_p17 : lw_okq (⟨"SpecimenHallModel", "isPlace", "(II)Z"⟩, 30) := ⟨⟨by decide +kernel, by decide +kernel⟩, List.mem_of_getElem? (i := 668) (by decide +kernel), List.mem_of_getElem? (i := 826) (by decide +kernel), List.mem_of_getElem? (i := 827) (by decide +kernel)⟩
theorem lw_p18 : lw_okq (⟨"SpecimenHallModel", "isSpecimen", "(I)Z"⟩, 30) := ⟨⟨by decide +kernel, by decide +kernel⟩, List.mem_of_getElem? (i := 668) (by decide +kernel), List.mem_of_getElem? (i := 834) (by decide +kernel), List.mem_of_getElem? (i := 835) (by decide +kernel)⟩
theorem lw_p19 : lw_okq (⟨"SpecimenHallModel", "ruleAt", "(II)I"⟩, 30) := ⟨⟨by decide +kernel, by decide +kernel⟩, List.mem_of_getElem? (i := 668) (by decide +kernel), List.mem_of_getElem? (i := 855) (by decide +kernel), List.mem_of_getElem? (i := 856) (by decide +kernel)⟩
theorem lw_p20 : lw_okq (⟨"SpecimenHallModel", "says", "(II)I"⟩, 30) := ⟨⟨by decide +kernel, by decide +kernel⟩, List.mem_of_getElem? (i := 668) (by decide +kernel), List.mem_of_getElem? (i := 863) (by decide +kernel), List.mem_of_getElem? (i := 864) (by decide +kernel)⟩
theorem lw_p21 : lw_okq (⟨"SpecimenHallModel", "fewest", "(II)I"⟩, 30) := ⟨⟨by decide +kernel, by decide +kernel⟩, List.mem_of_getElem? (i := 668) (by decide +kernel), List.mem_of_getElem? (i := 867) (by decide +kernel), List.mem_of_getElem? (i := 868) (by decide +kernel)⟩
theorem lw_p22 : lw_okq (⟨"SpecimenHallModel", "isNearest", "(IIII)Z"⟩, 30) := ⟨⟨by decide +kernel, by decide +kernel⟩, List.mem_of_getElem? (i := 668) (by decide +kernel), List.mem_of_getElem? (i := 871) (by decide +kernel), List.mem_of_getElem? (i := 872) (by decide +kernel)⟩
theorem lw_p23 : lw_okq (⟨"SpecimenHallModel", "isClose", "(IIII)Z"⟩, 30) := ⟨⟨by decide +kernel, by decide +kernel⟩, List.mem_of_getElem? (i := 668) (by decide +kernel), List.mem_of_getElem? (i := 875) (by decide +kernel), List.mem_of_getElem? (i := 876) (by decide +kernel)⟩
theorem lw_p24 : lw_okq (⟨"SpecimenHallModel", "mayLend", "(I)Z"⟩, 30) := ⟨⟨by decide +kernel, by decide +kernel⟩, List.mem_of_getElem? (i := 668) (by decide +kernel), List.mem_of_getElem? (i := 887) (by decide +kernel), List.mem_of_getElem? (i := 888) (by decide +kernel)⟩
theorem lw_p25 : lw_okq (⟨"SpecimenHallModel", "held", "(I)I"⟩, 30) := ⟨⟨by decide +kernel, by decide +kernel⟩, List.mem_of_getElem? (i := 668) (by decide +kernel), List.mem_of_getElem? (i := 891) (by decide +kernel), List.mem_of_getElem? (i := 892) (by decide +kernel)⟩
theorem lw_p26 : lw_okq (⟨"SpecimenHallModel", "lends", "(III)V"⟩, 30) := ⟨⟨by decide +kernel, by decide +kernel⟩, List.mem_of_getElem? (i := 668) (by decide +kernel), List.mem_of_getElem? (i := 895) (by decide +kernel), List.mem_of_getElem? (i := 896) (by decide +kernel)⟩
theorem lw_p27 : lw_okq (⟨"SpecimenHallModel", "due", "(II)I"⟩, 30) := ⟨⟨by decide +kernel, by decide +kernel⟩, List.mem_of_getElem? (i := 668) (by decide +kernel), List.mem_of_getElem? (i := 903) (by decide +kernel), List.mem_of_getElem? (i := 904) (by decide +kernel)⟩
theorem lw_p28 : lw_okq (⟨"SpecimenHallModel", "late", "(II)I"⟩, 30) := ⟨⟨by decide +kernel, by decide +kernel⟩, List.mem_of_getElem? (i := 668) (by decide +kernel), List.mem_of_getElem? (i := 907) (by decide +kernel), List.mem_of_getElem? (i := 908) (by decide +kernel)⟩
theorem lw_p29 : lw_okq (⟨"SpecimenHallModel", "answer", "(II)Z"⟩, 30) := ⟨⟨by decide +kernel, by decide +kernel⟩, List.mem_of_getElem? (i := 668) (by decide +kernel), List.mem_of_getElem? (i := 934) (by decide +kernel), List.mem_of_getElem? (i := 935) (by decide +kernel)⟩
theorem lw_p30 : lw_okq (⟨"SpecimenHallModel", "used", "(I)I"⟩, 30) := ⟨⟨by decide +kernel, by decide +kernel⟩, List.mem_of_getElem? (i := 668) (by decide +kernel), List.mem_of_getElem? (i := 963) (by decide +kernel), List.mem_of_getElem? (i := 964) (by decide +kernel)⟩
def lw_privs_2 : List (MethodName × Nat) := [(⟨"SpecimenHallModel", "isAbstract", "(I)Z"⟩, 30), (⟨"SpecimenHallModel", "isPlace", "(II)Z"⟩, 30), (⟨"SpecimenHallModel", "isSpecimen", "(I)Z"⟩, 30), (⟨"SpecimenHallModel", "ruleAt", "(II)I"⟩, 30), (⟨"SpecimenHallModel", "says", "(II)I"⟩, 30), (⟨"SpecimenHallModel", "fewest", "(II)I"⟩, 30), (⟨"SpecimenHallModel", "isNearest", "(IIII)Z"⟩, 30), (⟨"SpecimenHallModel", "isClose", "(IIII)Z"⟩, 30), (⟨"SpecimenHallModel", "mayLend", "(I)Z"⟩, 30), (⟨"SpecimenHallModel", "held", "(I)I"⟩, 30), (⟨"SpecimenHallModel", "lends", "(III)V"⟩, 30), (⟨"SpecimenHallModel", "due", "(II)I"⟩, 30), (⟨"SpecimenHallModel", "late", "(II)I"⟩, 30), (⟨"SpecimenHallModel", "answer", "(II)Z"⟩, 30), (⟨"SpecimenHallModel", "used", "(I)I"⟩, 30)]
theorem lw_r2 : ∀ q ∈ lw_privs_2, lw_okq q := List.forall_mem_cons.mpr ⟨lw_p16, List.forall_mem_cons.mpr ⟨lw_p17, List.forall_mem_cons.mpr ⟨lw_p18, List.forall_mem_cons.mpr ⟨lw_p19, List.forall_mem_cons.mpr ⟨lw_p20, List.forall_mem_cons.mpr ⟨lw_p21, List.forall_mem_cons.mpr ⟨lw_p22, List.forall_mem_cons.mpr ⟨lw_p23, List.forall_mem_cons.mpr ⟨lw_p24, List.forall_mem_cons.mpr ⟨lw_p25, List.forall_mem_cons.mpr ⟨lw_p26, List.forall_mem_cons.mpr ⟨lw_p27, List.forall_mem_cons.mpr ⟨lw_p28, List.forall_mem_cons.mpr ⟨lw_p29, List.forall_mem_cons.mpr ⟨lw_p30, fun _ h => absurd h List.not_mem_nil⟩⟩⟩⟩⟩⟩⟩⟩⟩⟩⟩⟩⟩⟩⟩
def lw_privs : List (MethodName × Nat) := lw_privs_1 ++ (lw_privs_2)
def lw_tbl : List Cond := k2_sels lw_privs ++ tables_1
theorem lw_privs_ok : ∀ q ∈ lw_privs, lw_okq q := by
  show ∀ q ∈ lw_privs_1 ++ (lw_privs_2), lw_okq q
  exact List.forall_mem_append.mpr ⟨lw_r1, lw_r2⟩
end
section
/-! ===== BEGIN words of one list among another's, by their places ===== -/
theorem goodIn_r {big : List Cond} (ws : List Cond) (ps : List Nat) (hp : ws = ps.filterMap (fun i => big[i]?)) (h : ws.all goodWord = true) : GoodIn big ws := by
  intro w hw
  have h1 := List.all_eq_true.mp h w hw
  rw [hp] at hw
  obtain ⟨i, -, hi⟩ := List.mem_filterMap.mp hw
  have hm : w ∈ big := by first | exact List.mem_of_getElem? hi | exact List.getElem?_mem hi
  exact ⟨hm, good_of_word h1⟩
theorem goodIn_app {big a b : List Cond} (ha : GoodIn big a) (hb : GoodIn big b) : GoodIn big (a ++ b) := fun w h => (List.mem_append.mp h).elim (ha w) (hb w)
theorem goodIn_ca {big a b : List Cond} {c : Cond} (ha : GoodIn big (c :: a)) (hb : GoodIn big b) : GoodIn big (c :: (a ++ b)) := fun w h => (List.mem_cons.mp h).elim (fun e => ha w (List.mem_cons.mpr (Or.inl e))) (fun h => (List.mem_append.mp h).elim (fun h => ha w (List.mem_cons.mpr (Or.inr h))) (hb w))
theorem goodIn_sub {big ws : List Cond} (hm : ∀ w ∈ ws, w ∈ big) (h : ws.all goodWord = true) : GoodIn big ws := fun w hw => ⟨hm w hw, good_of_word (List.all_eq_true.mp h w hw)⟩
/-! ===== END ===== -/

/-! ===== BEGIN printed: names, fields, word lists, decode rows ===== -/
def RX0 : String := "SpecimenHall$Box"
def TX0 : u_T := fun k => match k with
  | 0 => ("SpecimenHall$Box", "number", "I", true)
  | 1 => ("SpecimenHall$Box", "kind", "I", true)
  | _ => ("SpecimenHall$Box", "places", "[LSpecimenHall$Specimen;", true)
def tyX0 : Nat → FieldType := fun k => match k with
  | 0 => .int
  | 1 => .int
  | _ => .array (.object "SpecimenHall$Specimen")
abbrev wsX00 : List Cond := u_ws RX0 TX0 3
theorem nmX0 : ∀ a, a < 3 → ∀ b, b < 3 → a ≠ b → (TX0 a).2.1 ≠ (TX0 b).2.1 := by decide +kernel
theorem tyX0_ok : ∀ k, k < 3 → parseFieldDescriptor (TX0 k).2.2.1 = some (tyX0 k) := by decide +kernel
abbrev cX0_init : ByteArray := prog_2_method_1_code
def yX0_init : MethodName := ⟨RX0, "<init>", "(III)V"⟩
abbrev cX0_hasPlace : ByteArray := prog_2_method_2_code
def yX0_hasPlace : MethodName := ⟨RX0, "hasPlace", "(I)Z"⟩
abbrev cX0_isFree : ByteArray := prog_2_method_3_code
def yX0_isFree : MethodName := ⟨RX0, "isFree", "(I)Z"⟩
abbrev cX0_at : ByteArray := prog_2_method_4_code
def yX0_at : MethodName := ⟨RX0, "at", "(I)LSpecimenHall$Specimen;"⟩
abbrev cX0_set : ByteArray := prog_2_method_5_code
def yX0_set : MethodName := ⟨RX0, "set", "(ILSpecimenHall$Specimen;)V"⟩
def RX1 : String := "SpecimenHall$Codes"
def TX1 : u_T := fun k => match k with
  | _ => ("", "", "", false)
def tyX1 : Nat → FieldType := fun k => match k with
  | _ => .int
abbrev wsX10 : List Cond := u_ws RX1 TX1 0
theorem nmX1 : ∀ a, a < 0 → ∀ b, b < 0 → a ≠ b → (TX1 a).2.1 ≠ (TX1 b).2.1 := by decide +kernel
theorem tyX1_ok : ∀ k, k < 0 → parseFieldDescriptor (TX1 k).2.2.1 = some (tyX1 k) := by decide +kernel
abbrev cX1_isKind : ByteArray := prog_3_method_2_code
def yX1_isKind : MethodName := ⟨RX1, "isKind", "(I)Z"⟩
abbrev cX1_isTrait : ByteArray := prog_3_method_3_code
def yX1_isTrait : MethodName := ⟨RX1, "isTrait", "(I)Z"⟩
abbrev cX1_isKindOrTrait : ByteArray := prog_3_method_4_code
def yX1_isKindOrTrait : MethodName := ⟨RX1, "isKindOrTrait", "(I)Z"⟩
abbrev cX1_isConcrete : ByteArray := prog_3_method_5_code
def yX1_isConcrete : MethodName := ⟨RX1, "isConcrete", "(I)Z"⟩
abbrev cX1_isCase : ByteArray := prog_3_method_6_code
def yX1_isCase : MethodName := ⟨RX1, "isCase", "(I)Z"⟩
abbrev cX1_has : ByteArray := prog_3_method_7_code
def yX1_has : MethodName := ⟨RX1, "has", "(JI)Z"⟩
abbrev cX1_parentOf : ByteArray := prog_3_method_8_code
def yX1_parentOf : MethodName := ⟨RX1, "parentOf", "(I)I"⟩
abbrev cX1_namedBy : ByteArray := prog_3_method_9_code
def yX1_namedBy : MethodName := ⟨RX1, "namedBy", "(I)J"⟩
abbrev cX1_allAbove : ByteArray := prog_3_method_10_code
def yX1_allAbove : MethodName := ⟨RX1, "allAbove", "(I)J"⟩
abbrev cX1_standsUnder : ByteArray := prog_3_method_11_code
def yX1_standsUnder : MethodName := ⟨RX1, "standsUnder", "(II)Z"⟩
abbrev cX1_stepsUp : ByteArray := prog_3_method_12_code
def yX1_stepsUp : MethodName := ⟨RX1, "stepsUp", "(II)I"⟩
abbrev cX1_lowestShared : ByteArray := prog_3_method_13_code
def yX1_lowestShared : MethodName := ⟨RX1, "lowestShared", "(II)I"⟩
abbrev cX1_sharedTraits : ByteArray := prog_3_method_14_code
def yX1_sharedTraits : MethodName := ⟨RX1, "sharedTraits", "(II)J"⟩
abbrev cX1_mayTurnInto : ByteArray := prog_3_method_15_code
def yX1_mayTurnInto : MethodName := ⟨RX1, "mayTurnInto", "(II)Z"⟩
abbrev cX1_lowest : ByteArray := prog_3_method_16_code
def yX1_lowest : MethodName := ⟨RX1, "lowest", "(J)J"⟩
abbrev cX1_pick : ByteArray := prog_3_method_17_code
def yX1_pick : MethodName := ⟨RX1, "pick", "(JI)I"⟩
def RX2 : String := "SpecimenHall$Key"
def TX2 : u_T := fun k => match k with
  | 0 => ("SpecimenHall$Key", "questions", "[LSpecimenHall$Question;", true)
  | 1 => ("SpecimenHall$Key", "size", "I", false)
  | _ => ("SpecimenHall$Key", "askedLately", "I", false)
def tyX2 : Nat → FieldType := fun k => match k with
  | 0 => .array (.object "SpecimenHall$Question")
  | 1 => .int
  | _ => .int
abbrev wsX20 : List Cond := u_ws RX2 TX2 3
theorem nmX2 : ∀ a, a < 3 → ∀ b, b < 3 → a ≠ b → (TX2 a).2.1 ≠ (TX2 b).2.1 := by decide +kernel
theorem tyX2_ok : ∀ k, k < 3 → parseFieldDescriptor (TX2 k).2.2.1 = some (tyX2 k) := by decide +kernel
abbrev cX2_init : ByteArray := prog_4_method_1_code
def yX2_init : MethodName := ⟨RX2, "<init>", "()V"⟩
abbrev cX2_isFull : ByteArray := prog_4_method_2_code
def yX2_isFull : MethodName := ⟨RX2, "isFull", "()Z"⟩
abbrev cX2_mayTell : ByteArray := prog_4_method_3_code
def yX2_mayTell : MethodName := ⟨RX2, "mayTell", "(I)Z"⟩
abbrev cX2_add : ByteArray := prog_4_method_4_code
def yX2_add : MethodName := ⟨RX2, "add", "(LSpecimenHall$Question;)I"⟩
abbrev cX2_nameOf : ByteArray := prog_4_method_5_code
def yX2_nameOf : MethodName := ⟨RX2, "nameOf", "(LSpecimenHall$Specimen;)I"⟩
abbrev cX2_questionAt : ByteArray := prog_4_method_6_code
def yX2_questionAt : MethodName := ⟨RX2, "questionAt", "(I)LSpecimenHall$Question;"⟩
def RX3 : String := "SpecimenHall$Loans"
def TX3 : u_T := fun k => match k with
  | 0 => ("SpecimenHall$Loans", "lent", "[LSpecimenHall$Specimen;", true)
  | 1 => ("SpecimenHall$Loans", "held", "[I", true)
  | 2 => ("SpecimenHall$Loans", "charged", "[I", true)
  | 3 => ("SpecimenHall$Loans", "openCount", "I", false)
  | _ => ("SpecimenHall$Loans", "everCount", "I", false)
def tyX3 : Nat → FieldType := fun k => match k with
  | 0 => .array (.object "SpecimenHall$Specimen")
  | 1 => .array .int
  | 2 => .array .int
  | 3 => .int
  | _ => .int
abbrev wsX30 : List Cond := u_ws RX3 TX3 5
theorem nmX3 : ∀ a, a < 5 → ∀ b, b < 5 → a ≠ b → (TX3 a).2.1 ≠ (TX3 b).2.1 := by decide +kernel
theorem tyX3_ok : ∀ k, k < 5 → parseFieldDescriptor (TX3 k).2.2.1 = some (tyX3 k) := by decide +kernel
abbrev cX3_init : ByteArray := prog_5_method_1_code
def yX3_init : MethodName := ⟨RX3, "<init>", "()V"⟩
abbrev cX3_isDay : ByteArray := prog_5_method_2_code
def yX3_isDay : MethodName := ⟨RX3, "isDay", "(I)Z"⟩
abbrev cX3_isBorrower : ByteArray := prog_5_method_3_code
def yX3_isBorrower : MethodName := ⟨RX3, "isBorrower", "(I)Z"⟩
abbrev cX3_hasLeaveFor : ByteArray := prog_5_method_4_code
def yX3_hasLeaveFor : MethodName := ⟨RX3, "hasLeaveFor", "(II)Z"⟩
abbrev cX3_open : ByteArray := prog_5_method_5_code
def yX3_open : MethodName := ⟨RX3, "open", "(LSpecimenHall$Specimen;)V"⟩
abbrev cX3_comesBehind : ByteArray := prog_5_method_6_code
def yX3_comesBehind : MethodName := ⟨RX3, "comesBehind", "(LSpecimenHall$Specimen;LSpecimenHall$Specimen;)Z"⟩
abbrev cX3_close : ByteArray := prog_5_method_7_code
def yX3_close : MethodName := ⟨RX3, "close", "(LSpecimenHall$Specimen;I)I"⟩
abbrev cX3_remove : ByteArray := prog_5_method_8_code
def yX3_remove : MethodName := ⟨RX3, "remove", "(LSpecimenHall$Specimen;)V"⟩
abbrev cX3_lateCount : ByteArray := prog_5_method_9_code
def yX3_lateCount : MethodName := ⟨RX3, "lateCount", "(I)I"⟩
abbrev cX3_lateAt : ByteArray := prog_5_method_10_code
def yX3_lateAt : MethodName := ⟨RX3, "lateAt", "(II)I"⟩
abbrev cX3_owed : ByteArray := prog_5_method_11_code
def yX3_owed : MethodName := ⟨RX3, "owed", "(II)I"⟩
abbrev cX3_chargedToAll : ByteArray := prog_5_method_12_code
def yX3_chargedToAll : MethodName := ⟨RX3, "chargedToAll", "()I"⟩
def RX4 : String := "SpecimenHall$Question"
def TX4 : u_T := fun k => match k with
  | 0 => ("SpecimenHall$Question", "about", "I", true)
  | 1 => ("SpecimenHall$Question", "number", "I", true)
  | 2 => ("SpecimenHall$Question", "yes", "I", true)
  | _ => ("SpecimenHall$Question", "no", "I", true)
def tyX4 : Nat → FieldType := fun k => match k with
  | 0 => .int
  | 1 => .int
  | 2 => .int
  | _ => .int
abbrev wsX40 : List Cond := u_ws RX4 TX4 4
theorem nmX4 : ∀ a, a < 4 → ∀ b, b < 4 → a ≠ b → (TX4 a).2.1 ≠ (TX4 b).2.1 := by decide +kernel
theorem tyX4_ok : ∀ k, k < 4 → parseFieldDescriptor (TX4 k).2.2.1 = some (tyX4 k) := by decide +kernel
abbrev cX4_init : ByteArray := prog_6_method_1_code
def yX4_init : MethodName := ⟨RX4, "<init>", "(IIII)V"⟩
abbrev cX4_mayAsk : ByteArray := prog_6_method_2_code
def yX4_mayAsk : MethodName := ⟨RX4, "mayAsk", "(II)Z"⟩
abbrev cX4_tell : ByteArray := prog_6_method_3_code
def yX4_tell : MethodName := ⟨RX4, "tell", "(LSpecimenHall$Specimen;)I"⟩
abbrev cX4_holdsFor : ByteArray := prog_6_method_4_code
def yX4_holdsFor : MethodName := ⟨RX4, "holdsFor", "(LSpecimenHall$Specimen;)Z"⟩
def RX5 : String := "SpecimenHall$Rules"
def TX5 : u_T := fun k => match k with
  | 0 => ("SpecimenHall$Rules", "laid", "[J", true)
  | _ => ("SpecimenHall$Rules", "values", "[I", true)
def tyX5 : Nat → FieldType := fun k => match k with
  | 0 => .array .long
  | _ => .array .int
abbrev wsX50 : List Cond := u_ws RX5 TX5 2
theorem nmX5 : ∀ a, a < 2 → ∀ b, b < 2 → a ≠ b → (TX5 a).2.1 ≠ (TX5 b).2.1 := by decide +kernel
theorem tyX5_ok : ∀ k, k < 2 → parseFieldDescriptor (TX5 k).2.2.1 = some (tyX5 k) := by decide +kernel
abbrev cX5_init : ByteArray := prog_7_method_1_code
def yX5_init : MethodName := ⟨RX5, "<init>", "()V"⟩
abbrev cX5_isField : ByteArray := prog_7_method_2_code
def yX5_isField : MethodName := ⟨RX5, "isField", "(I)Z"⟩
abbrev cX5_lay : ByteArray := prog_7_method_3_code
def yX5_lay : MethodName := ⟨RX5, "lay", "(III)Z"⟩
abbrev cX5_drop : ByteArray := prog_7_method_4_code
def yX5_drop : MethodName := ⟨RX5, "drop", "(II)Z"⟩
abbrev cX5_size : ByteArray := prog_7_method_5_code
def yX5_size : MethodName := ⟨RX5, "size", "()I"⟩
abbrev cX5_nearestOf : ByteArray := prog_7_method_6_code
def yX5_nearestOf : MethodName := ⟨RX5, "nearestOf", "(II)J"⟩
abbrev cX5_answer : ByteArray := prog_7_method_7_code
def yX5_answer : MethodName := ⟨RX5, "answer", "(II)I"⟩
def RX6 : String := "SpecimenHall$Shelf"
def TX6 : u_T := fun k => match k with
  | 0 => ("SpecimenHall$Shelf", "number", "I", true)
  | 1 => ("SpecimenHall$Shelf", "kind", "I", false)
  | 2 => ("SpecimenHall$Shelf", "room", "I", false)
  | 3 => ("SpecimenHall$Shelf", "standing", "I", false)
  | _ => ("SpecimenHall$Shelf", "filled", "I", false)
def tyX6 : Nat → FieldType := fun k => match k with
  | 0 => .int
  | 1 => .int
  | 2 => .int
  | 3 => .int
  | _ => .int
abbrev wsX60 : List Cond := u_ws RX6 TX6 5
theorem nmX6 : ∀ a, a < 5 → ∀ b, b < 5 → a ≠ b → (TX6 a).2.1 ≠ (TX6 b).2.1 := by decide +kernel
theorem tyX6_ok : ∀ k, k < 5 → parseFieldDescriptor (TX6 k).2.2.1 = some (tyX6 k) := by decide +kernel
abbrev cX6_init : ByteArray := prog_8_method_1_code
def yX6_init : MethodName := ⟨RX6, "<init>", "(I)V"⟩
abbrev cX6_hasRoomFor : ByteArray := prog_8_method_2_code
def yX6_hasRoomFor : MethodName := ⟨RX6, "hasRoomFor", "(LSpecimenHall$Specimen;)Z"⟩
abbrev cX6_add : ByteArray := prog_8_method_3_code
def yX6_add : MethodName := ⟨RX6, "add", "(LSpecimenHall$Specimen;)V"⟩
abbrev cX6_remove : ByteArray := prog_8_method_4_code
def yX6_remove : MethodName := ⟨RX6, "remove", "(LSpecimenHall$Specimen;)V"⟩
def RX7 : String := "SpecimenHall$Specimen"
def TX7 : u_T := fun k => match k with
  | 0 => ("SpecimenHall$Specimen", "number", "I", true)
  | 1 => ("SpecimenHall$Specimen", "length", "I", true)
  | 2 => ("SpecimenHall$Specimen", "weight", "I", true)
  | 3 => ("SpecimenHall$Specimen", "kind", "I", false)
  | 4 => ("SpecimenHall$Specimen", "box", "LSpecimenHall$Box;", false)
  | 5 => ("SpecimenHall$Specimen", "place", "I", false)
  | 6 => ("SpecimenHall$Specimen", "shelf", "LSpecimenHall$Shelf;", false)
  | 7 => ("SpecimenHall$Specimen", "borrower", "I", false)
  | 8 => ("SpecimenHall$Specimen", "lentOn", "I", false)
  | 9 => ("SpecimenHall$Specimen", "term", "I", false)
  | _ => ("SpecimenHall$Specimen", "fee", "I", false)
def tyX7 : Nat → FieldType := fun k => match k with
  | 0 => .int
  | 1 => .int
  | 2 => .int
  | 3 => .int
  | 4 => .object "SpecimenHall$Box"
  | 5 => .int
  | 6 => .object "SpecimenHall$Shelf"
  | 7 => .int
  | 8 => .int
  | 9 => .int
  | _ => .int
abbrev wsX70 : List Cond := u_ws RX7 TX7 11
theorem nmX7 : ∀ a, a < 11 → ∀ b, b < 11 → a ≠ b → (TX7 a).2.1 ≠ (TX7 b).2.1 := by decide +kernel
theorem tyX7_ok : ∀ k, k < 11 → parseFieldDescriptor (TX7 k).2.2.1 = some (tyX7 k) := by decide +kernel
abbrev cX7_init : ByteArray := prog_9_method_1_code
def yX7_init : MethodName := ⟨RX7, "<init>", "(IIII)V"⟩
abbrev cX7_isMeasure : ByteArray := prog_9_method_2_code
def yX7_isMeasure : MethodName := ⟨RX7, "isMeasure", "(I)Z"⟩
abbrev cX7_isLent : ByteArray := prog_9_method_3_code
def yX7_isLent : MethodName := ⟨RX7, "isLent", "()Z"⟩
abbrev cX7_lendTo : ByteArray := prog_9_method_4_code
def yX7_lendTo : MethodName := ⟨RX7, "lendTo", "(IIII)V"⟩
abbrev cX7_endLoan : ByteArray := prog_9_method_5_code
def yX7_endLoan : MethodName := ⟨RX7, "endLoan", "()V"⟩
abbrev cX7_lastDay : ByteArray := prog_9_method_6_code
def yX7_lastDay : MethodName := ⟨RX7, "lastDay", "()I"⟩
abbrev cX7_dueOn : ByteArray := prog_9_method_7_code
def yX7_dueOn : MethodName := ⟨RX7, "dueOn", "(I)I"⟩
def RX8 : String := "SpecimenHall$Stock"
def TX8 : u_T := fun k => match k with
  | 0 => ("SpecimenHall$Stock", "byNumber", "[LSpecimenHall$Specimen;", true)
  | 1 => ("SpecimenHall$Stock", "byLength", "[LSpecimenHall$Specimen;", true)
  | _ => ("SpecimenHall$Stock", "size", "I", false)
def tyX8 : Nat → FieldType := fun k => match k with
  | 0 => .array (.object "SpecimenHall$Specimen")
  | 1 => .array (.object "SpecimenHall$Specimen")
  | _ => .int
abbrev wsX80 : List Cond := u_ws RX8 TX8 3
theorem nmX8 : ∀ a, a < 3 → ∀ b, b < 3 → a ≠ b → (TX8 a).2.1 ≠ (TX8 b).2.1 := by decide +kernel
theorem tyX8_ok : ∀ k, k < 3 → parseFieldDescriptor (TX8 k).2.2.1 = some (tyX8 k) := by decide +kernel
abbrev cX8_init : ByteArray := prog_10_method_1_code
def yX8_init : MethodName := ⟨RX8, "<init>", "()V"⟩
abbrev cX8_at : ByteArray := prog_10_method_2_code
def yX8_at : MethodName := ⟨RX8, "at", "(I)LSpecimenHall$Specimen;"⟩
abbrev cX8_add : ByteArray := prog_10_method_3_code
def yX8_add : MethodName := ⟨RX8, "add", "(III)I"⟩
abbrev cX8_isLonger : ByteArray := prog_10_method_4_code
def yX8_isLonger : MethodName := ⟨RX8, "isLonger", "(LSpecimenHall$Specimen;I)Z"⟩
abbrev cX8_countOf : ByteArray := prog_10_method_5_code
def yX8_countOf : MethodName := ⟨RX8, "countOf", "(III)I"⟩
abbrev cX8_numberOf : ByteArray := prog_10_method_6_code
def yX8_numberOf : MethodName := ⟨RX8, "numberOf", "(II)I"⟩
abbrev cX8_countInBoxes : ByteArray := prog_10_method_7_code
def yX8_countInBoxes : MethodName := ⟨RX8, "countInBoxes", "()I"⟩
def RX9 : String := "SpecimenHall"
def TX9 : u_T := fun k => match k with
  | 0 => ("SpecimenHall", "stock", "LSpecimenHall$Stock;", true)
  | 1 => ("SpecimenHall", "boxes", "[LSpecimenHall$Box;", true)
  | 2 => ("SpecimenHall", "shelves", "[LSpecimenHall$Shelf;", true)
  | 3 => ("SpecimenHall", "keys", "[LSpecimenHall$Key;", true)
  | 4 => ("SpecimenHall", "rules", "LSpecimenHall$Rules;", true)
  | 5 => ("SpecimenHall", "loans", "LSpecimenHall$Loans;", true)
  | 6 => ("SpecimenHall", "boxCount", "I", false)
  | _ => ("SpecimenHall", "questionsAsked", "I", false)
def tyX9 : Nat → FieldType := fun k => match k with
  | 0 => .object "SpecimenHall$Stock"
  | 1 => .array (.object "SpecimenHall$Box")
  | 2 => .array (.object "SpecimenHall$Shelf")
  | 3 => .array (.object "SpecimenHall$Key")
  | 4 => .object "SpecimenHall$Rules"
  | 5 => .object "SpecimenHall$Loans"
  | 6 => .int
  | _ => .int
abbrev wsX90 : List Cond := u_ws RX9 TX9 8
theorem nmX9 : ∀ a, a < 8 → ∀ b, b < 8 → a ≠ b → (TX9 a).2.1 ≠ (TX9 b).2.1 := by decide +kernel
theorem tyX9_ok : ∀ k, k < 8 → parseFieldDescriptor (TX9 k).2.2.1 = some (tyX9 k) := by decide +kernel
abbrev cX9_init : ByteArray := prog_1_method_1_code
def yX9_init : MethodName := ⟨RX9, "<init>", "()V"⟩
abbrev cX9_make : ByteArray := prog_1_method_2_code
def yX9_make : MethodName := ⟨RX9, "make", "(III)I"⟩
abbrev cX9_caseOf : ByteArray := prog_1_method_3_code
def yX9_caseOf : MethodName := ⟨RX9, "caseOf", "(II)I"⟩
abbrev cX9_putIn : ByteArray := prog_1_method_4_code
def yX9_putIn : MethodName := ⟨RX9, "putIn", "(III)I"⟩
abbrev cX9_takeOut : ByteArray := prog_1_method_5_code
def yX9_takeOut : MethodName := ⟨RX9, "takeOut", "(II)I"⟩
abbrev cX9_placed : ByteArray := prog_1_method_6_code
def yX9_placed : MethodName := ⟨RX9, "placed", "(II)I"⟩
abbrev cX9_told : ByteArray := prog_1_method_7_code
def yX9_told : MethodName := ⟨RX9, "told", "(II)I"⟩
abbrev cX9_below : ByteArray := prog_1_method_8_code
def yX9_below : MethodName := ⟨RX9, "below", "(II)Z"⟩
abbrev cX9_steps : ByteArray := prog_1_method_9_code
def yX9_steps : MethodName := ⟨RX9, "steps", "(II)I"⟩
abbrev cX9_common : ByteArray := prog_1_method_10_code
def yX9_common : MethodName := ⟨RX9, "common", "(II)I"⟩
abbrev cX9_commonTrait : ByteArray := prog_1_method_11_code
def yX9_commonTrait : MethodName := ⟨RX9, "commonTrait", "(III)I"⟩
abbrev cX9_rule : ByteArray := prog_1_method_12_code
def yX9_rule : MethodName := ⟨RX9, "rule", "(III)Z"⟩
abbrev cX9_unrule : ByteArray := prog_1_method_13_code
def yX9_unrule : MethodName := ⟨RX9, "unrule", "(II)Z"⟩
abbrev cX9_asks : ByteArray := prog_1_method_14_code
def yX9_asks : MethodName := ⟨RX9, "asks", "(II)I"⟩
abbrev cX9_nearest : ByteArray := prog_1_method_15_code
def yX9_nearest : MethodName := ⟨RX9, "nearest", "(III)I"⟩
abbrev cX9_lend : ByteArray := prog_1_method_16_code
def yX9_lend : MethodName := ⟨RX9, "lend", "(III)I"⟩
abbrev cX9_giveBack : ByteArray := prog_1_method_17_code
def yX9_giveBack : MethodName := ⟨RX9, "giveBack", "(II)I"⟩
abbrev cX9_overdue : ByteArray := prog_1_method_18_code
def yX9_overdue : MethodName := ⟨RX9, "overdue", "(I)I"⟩
abbrev cX9_lateOne : ByteArray := prog_1_method_19_code
def yX9_lateOne : MethodName := ⟨RX9, "lateOne", "(II)I"⟩
abbrev cX9_fees : ByteArray := prog_1_method_20_code
def yX9_fees : MethodName := ⟨RX9, "fees", "(II)I"⟩
abbrev cX9_question : ByteArray := prog_1_method_21_code
def yX9_question : MethodName := ⟨RX9, "question", "(IIIII)I"⟩
abbrev cX9_name : ByteArray := prog_1_method_22_code
def yX9_name : MethodName := ⟨RX9, "name", "(II)I"⟩
abbrev cX9_asked : ByteArray := prog_1_method_23_code
def yX9_asked : MethodName := ⟨RX9, "asked", "()I"⟩
abbrev cX9_convert : ByteArray := prog_1_method_24_code
def yX9_convert : MethodName := ⟨RX9, "convert", "(II)Z"⟩
abbrev cX9_find : ByteArray := prog_1_method_25_code
def yX9_find : MethodName := ⟨RX9, "find", "(III)I"⟩
abbrev cX9_nth : ByteArray := prog_1_method_26_code
def yX9_nth : MethodName := ⟨RX9, "nth", "(II)I"⟩
abbrev cX9_shelf : ByteArray := prog_1_method_27_code
def yX9_shelf : MethodName := ⟨RX9, "shelf", "(III)Z"⟩
abbrev cX9_move : ByteArray := prog_1_method_28_code
def yX9_move : MethodName := ⟨RX9, "move", "(II)Z"⟩
abbrev cX9_count : ByteArray := prog_1_method_29_code
def yX9_count : MethodName := ⟨RX9, "count", "(I)I"⟩
abbrev cX9_boxAt : ByteArray := prog_1_method_30_code
def yX9_boxAt : MethodName := ⟨RX9, "boxAt", "(I)LSpecimenHall$Box;"⟩
abbrev cX9_shelfAt : ByteArray := prog_1_method_31_code
def yX9_shelfAt : MethodName := ⟨RX9, "shelfAt", "(I)LSpecimenHall$Shelf;"⟩
abbrev cX9_keyAt : ByteArray := prog_1_method_32_code
def yX9_keyAt : MethodName := ⟨RX9, "keyAt", "(I)LSpecimenHall$Key;"⟩
abbrev cX9_specimenIn : ByteArray := prog_1_method_33_code
def yX9_specimenIn : MethodName := ⟨RX9, "specimenIn", "(II)LSpecimenHall$Specimen;"⟩
abbrev cX9_onShelves : ByteArray := prog_1_method_34_code
def yX9_onShelves : MethodName := ⟨RX9, "onShelves", "()I"⟩
abbrev cX9_leavePlace : ByteArray := prog_1_method_35_code
def yX9_leavePlace : MethodName := ⟨RX9, "leavePlace", "(LSpecimenHall$Specimen;)V"⟩
abbrev cX9_leaveShelf : ByteArray := prog_1_method_36_code
def yX9_leaveShelf : MethodName := ⟨RX9, "leaveShelf", "(LSpecimenHall$Specimen;)Z"⟩
abbrev cX9_mayBeLent : ByteArray := prog_1_method_37_code
def yX9_mayBeLent : MethodName := ⟨RX9, "mayBeLent", "(LSpecimenHall$Specimen;)Z"⟩
abbrev cX9_openLoan : ByteArray := prog_1_method_38_code
def yX9_openLoan : MethodName := ⟨RX9, "openLoan", "(LSpecimenHall$Specimen;II)V"⟩
abbrev cX9_lendBox : ByteArray := prog_1_method_39_code
def yX9_lendBox : MethodName := ⟨RX9, "lendBox", "(LSpecimenHall$Box;II)I"⟩
def RX10 : String := "SpecimenHallModel"
def TX10 : u_T := fun k => match k with
  | 0 => ("SpecimenHallModel", "parent", "[I", true)
  | 1 => ("SpecimenHallModel", "abstracts", "[I", true)
  | 2 => ("SpecimenHallModel", "names", "[I", true)
  | 3 => ("SpecimenHallModel", "extending", "[I", true)
  | 4 => ("SpecimenHallModel", "highest", "[I", true)
  | 5 => ("SpecimenHallModel", "rules", "[I", true)
  | 6 => ("SpecimenHallModel", "specimens", "I", false)
  | 7 => ("SpecimenHallModel", "kind", "[I", true)
  | 8 => ("SpecimenHallModel", "length", "[I", true)
  | 9 => ("SpecimenHallModel", "weight", "[I", true)
  | 10 => ("SpecimenHallModel", "box", "[I", true)
  | 11 => ("SpecimenHallModel", "place", "[I", true)
  | 12 => ("SpecimenHallModel", "shelf", "[I", true)
  | 13 => ("SpecimenHallModel", "borrower", "[I", true)
  | 14 => ("SpecimenHallModel", "lentOn", "[I", true)
  | 15 => ("SpecimenHallModel", "term", "[I", true)
  | 16 => ("SpecimenHallModel", "fee", "[I", true)
  | 17 => ("SpecimenHallModel", "cases", "I", false)
  | 18 => ("SpecimenHallModel", "caseKind", "[I", true)
  | 19 => ("SpecimenHallModel", "caseSize", "[I", true)
  | 20 => ("SpecimenHallModel", "shelfKind", "[I", true)
  | 21 => ("SpecimenHallModel", "shelfRoom", "[I", true)
  | 22 => ("SpecimenHallModel", "charged", "[I", true)
  | 23 => ("SpecimenHallModel", "loans", "I", false)
  | 24 => ("SpecimenHallModel", "questions", "[I", true)
  | 25 => ("SpecimenHallModel", "qAsked", "[I", true)
  | 26 => ("SpecimenHallModel", "qNumber", "[I", true)
  | 27 => ("SpecimenHallModel", "qYes", "[I", true)
  | 28 => ("SpecimenHallModel", "qNo", "[I", true)
  | _ => ("SpecimenHallModel", "asked", "I", false)
def tyX10 : Nat → FieldType := fun k => match k with
  | 0 => .array .int
  | 1 => .array .int
  | 2 => .array .int
  | 3 => .array .int
  | 4 => .array .int
  | 5 => .array .int
  | 6 => .int
  | 7 => .array .int
  | 8 => .array .int
  | 9 => .array .int
  | 10 => .array .int
  | 11 => .array .int
  | 12 => .array .int
  | 13 => .array .int
  | 14 => .array .int
  | 15 => .array .int
  | 16 => .array .int
  | 17 => .int
  | 18 => .array .int
  | 19 => .array .int
  | 20 => .array .int
  | 21 => .array .int
  | 22 => .array .int
  | 23 => .int
  | 24 => .array .int
  | 25 => .array .int
  | 26 => .array .int
  | 27 => .array .int
  | 28 => .array .int
  | _ => .int
abbrev wsX100 : List Cond := u_ws RX10 TX10 30
theorem nmX10 : ∀ a, a < 30 → ∀ b, b < 30 → a ≠ b → (TX10 a).2.1 ≠ (TX10 b).2.1 := by decide +kernel
theorem tyX10_ok : ∀ k, k < 30 → parseFieldDescriptor (TX10 k).2.2.1 = some (tyX10 k) := by decide +kernel
abbrev cX10_init : ByteArray := prog_12_method_1_code
def yX10_init : MethodName := ⟨RX10, "<init>", "()V"⟩
abbrev cX10_in : ByteArray := prog_12_method_2_code
def yX10_in : MethodName := ⟨RX10, "in", "(III)Z"⟩
abbrev cX10_isKind : ByteArray := prog_12_method_3_code
def yX10_isKind : MethodName := ⟨RX10, "isKind", "(I)Z"⟩
abbrev cX10_isTrait : ByteArray := prog_12_method_4_code
def yX10_isTrait : MethodName := ⟨RX10, "isTrait", "(I)Z"⟩
abbrev cX10_isCode : ByteArray := prog_12_method_5_code
def yX10_isCode : MethodName := ⟨RX10, "isCode", "(I)Z"⟩
abbrev cX10_isSpecimen : ByteArray := prog_12_method_6_code
def yX10_isSpecimen : MethodName := ⟨RX10, "isSpecimen", "(I)Z"⟩
abbrev cX10_isAbstract : ByteArray := prog_12_method_7_code
def yX10_isAbstract : MethodName := ⟨RX10, "isAbstract", "(I)Z"⟩
abbrev cX10_traitAbove : ByteArray := prog_12_method_8_code
def yX10_traitAbove : MethodName := ⟨RX10, "traitAbove", "(II)Z"⟩
abbrev cX10_stepsTo : ByteArray := prog_12_method_9_code
def yX10_stepsTo : MethodName := ⟨RX10, "stepsTo", "(II)I"⟩
abbrev cX10_above : ByteArray := prog_12_method_10_code
def yX10_above : MethodName := ⟨RX10, "above", "(II)Z"⟩
abbrev cX10_below : ByteArray := prog_12_method_11_code
def yX10_below : MethodName := ⟨RX10, "below", "(II)Z"⟩
abbrev cX10_steps : ByteArray := prog_12_method_12_code
def yX10_steps : MethodName := ⟨RX10, "steps", "(II)I"⟩
abbrev cX10_common : ByteArray := prog_12_method_13_code
def yX10_common : MethodName := ⟨RX10, "common", "(II)I"⟩
abbrev cX10_isShared : ByteArray := prog_12_method_14_code
def yX10_isShared : MethodName := ⟨RX10, "isShared", "(III)Z"⟩
abbrev cX10_commonTrait : ByteArray := prog_12_method_15_code
def yX10_commonTrait : MethodName := ⟨RX10, "commonTrait", "(III)I"⟩
abbrev cX10_make : ByteArray := prog_12_method_16_code
def yX10_make : MethodName := ⟨RX10, "make", "(III)I"⟩
abbrev cX10_caseOf : ByteArray := prog_12_method_17_code
def yX10_caseOf : MethodName := ⟨RX10, "caseOf", "(II)I"⟩
abbrev cX10_isPlace : ByteArray := prog_12_method_18_code
def yX10_isPlace : MethodName := ⟨RX10, "isPlace", "(II)Z"⟩
abbrev cX10_placed : ByteArray := prog_12_method_19_code
def yX10_placed : MethodName := ⟨RX10, "placed", "(II)I"⟩
abbrev cX10_putIn : ByteArray := prog_12_method_20_code
def yX10_putIn : MethodName := ⟨RX10, "putIn", "(III)I"⟩
abbrev cX10_takeOut : ByteArray := prog_12_method_21_code
def yX10_takeOut : MethodName := ⟨RX10, "takeOut", "(II)I"⟩
abbrev cX10_told : ByteArray := prog_12_method_22_code
def yX10_told : MethodName := ⟨RX10, "told", "(II)I"⟩
abbrev cX10_ruleAt : ByteArray := prog_12_method_23_code
def yX10_ruleAt : MethodName := ⟨RX10, "ruleAt", "(II)I"⟩
abbrev cX10_rule : ByteArray := prog_12_method_24_code
def yX10_rule : MethodName := ⟨RX10, "rule", "(III)Z"⟩
abbrev cX10_unrule : ByteArray := prog_12_method_25_code
def yX10_unrule : MethodName := ⟨RX10, "unrule", "(II)Z"⟩
abbrev cX10_fewest : ByteArray := prog_12_method_26_code
def yX10_fewest : MethodName := ⟨RX10, "fewest", "(II)I"⟩
abbrev cX10_isClose : ByteArray := prog_12_method_27_code
def yX10_isClose : MethodName := ⟨RX10, "isClose", "(IIII)Z"⟩
abbrev cX10_isNearest : ByteArray := prog_12_method_28_code
def yX10_isNearest : MethodName := ⟨RX10, "isNearest", "(IIII)Z"⟩
abbrev cX10_says : ByteArray := prog_12_method_29_code
def yX10_says : MethodName := ⟨RX10, "says", "(II)I"⟩
abbrev cX10_asks : ByteArray := prog_12_method_30_code
def yX10_asks : MethodName := ⟨RX10, "asks", "(II)I"⟩
abbrev cX10_nearest : ByteArray := prog_12_method_31_code
def yX10_nearest : MethodName := ⟨RX10, "nearest", "(III)I"⟩
abbrev cX10_mayLend : ByteArray := prog_12_method_32_code
def yX10_mayLend : MethodName := ⟨RX10, "mayLend", "(I)Z"⟩
abbrev cX10_held : ByteArray := prog_12_method_33_code
def yX10_held : MethodName := ⟨RX10, "held", "(I)I"⟩
abbrev cX10_lends : ByteArray := prog_12_method_34_code
def yX10_lends : MethodName := ⟨RX10, "lends", "(III)V"⟩
abbrev cX10_lend : ByteArray := prog_12_method_35_code
def yX10_lend : MethodName := ⟨RX10, "lend", "(III)I"⟩
abbrev cX10_late : ByteArray := prog_12_method_36_code
def yX10_late : MethodName := ⟨RX10, "late", "(II)I"⟩
abbrev cX10_due : ByteArray := prog_12_method_37_code
def yX10_due : MethodName := ⟨RX10, "due", "(II)I"⟩
abbrev cX10_giveBack : ByteArray := prog_12_method_38_code
def yX10_giveBack : MethodName := ⟨RX10, "giveBack", "(II)I"⟩
abbrev cX10_overdue : ByteArray := prog_12_method_39_code
def yX10_overdue : MethodName := ⟨RX10, "overdue", "(I)I"⟩
abbrev cX10_lateOne : ByteArray := prog_12_method_40_code
def yX10_lateOne : MethodName := ⟨RX10, "lateOne", "(II)I"⟩
abbrev cX10_fees : ByteArray := prog_12_method_41_code
def yX10_fees : MethodName := ⟨RX10, "fees", "(II)I"⟩
abbrev cX10_isEnd : ByteArray := prog_12_method_42_code
def yX10_isEnd : MethodName := ⟨RX10, "isEnd", "(II)Z"⟩
abbrev cX10_question : ByteArray := prog_12_method_43_code
def yX10_question : MethodName := ⟨RX10, "question", "(IIIII)I"⟩
abbrev cX10_answer : ByteArray := prog_12_method_44_code
def yX10_answer : MethodName := ⟨RX10, "answer", "(II)Z"⟩
abbrev cX10_name : ByteArray := prog_12_method_45_code
def yX10_name : MethodName := ⟨RX10, "name", "(II)I"⟩
abbrev cX10_asked : ByteArray := prog_12_method_46_code
def yX10_asked : MethodName := ⟨RX10, "asked", "()I"⟩
abbrev cX10_convert : ByteArray := prog_12_method_47_code
def yX10_convert : MethodName := ⟨RX10, "convert", "(II)Z"⟩
abbrev cX10_find : ByteArray := prog_12_method_48_code
def yX10_find : MethodName := ⟨RX10, "find", "(III)I"⟩
abbrev cX10_nth : ByteArray := prog_12_method_49_code
def yX10_nth : MethodName := ⟨RX10, "nth", "(II)I"⟩
abbrev cX10_used : ByteArray := prog_12_method_50_code
def yX10_used : MethodName := ⟨RX10, "used", "(I)I"⟩
abbrev cX10_shelf : ByteArray := prog_12_method_51_code
def yX10_shelf : MethodName := ⟨RX10, "shelf", "(III)Z"⟩
abbrev cX10_move : ByteArray := prog_12_method_52_code
def yX10_move : MethodName := ⟨RX10, "move", "(II)Z"⟩
abbrev cX10_count : ByteArray := prog_12_method_53_code
def yX10_count : MethodName := ⟨RX10, "count", "(I)I"⟩
def RJ13 : String := "java/lang/Long"
def TJ13 : u_T := fun k => match k with
  | _ => ("", "", "", false)
def tyJ13 : Nat → FieldType := fun k => match k with
  | _ => .int
abbrev wsJ130 : List Cond := u_ws RJ13 TJ13 0
theorem nmJ13 : ∀ a, a < 0 → ∀ b, b < 0 → a ≠ b → (TJ13 a).2.1 ≠ (TJ13 b).2.1 := by decide +kernel
theorem tyJ13_ok : ∀ k, k < 0 → parseFieldDescriptor (TJ13 k).2.2.1 = some (tyJ13 k) := by decide +kernel
abbrev cJ13_bitCount_95d88 : ByteArray := prog_13_method_50_code
def yJ13_bitCount_95d88 : MethodName := ⟨RJ13, "bitCount", "(J)I"⟩
def RJ9 : String := "java/lang/Math"
def TJ9 : u_T := fun k => match k with
  | _ => ("", "", "", false)
def tyJ9 : Nat → FieldType := fun k => match k with
  | _ => .int
abbrev wsJ90 : List Cond := u_ws RJ9 TJ9 0
theorem nmJ9 : ∀ a, a < 0 → ∀ b, b < 0 → a ≠ b → (TJ9 a).2.1 ≠ (TJ9 b).2.1 := by decide +kernel
theorem tyJ9_ok : ∀ k, k < 0 → parseFieldDescriptor (TJ9 k).2.2.1 = some (tyJ9 k) := by decide +kernel
abbrev cJ9_max_7cf53 : ByteArray := prog_14_method_65_code
def yJ9_max_7cf53 : MethodName := ⟨RJ9, "max", "(II)I"⟩
abbrev cJ9_min_7cf53 : ByteArray := prog_14_method_69_code
def yJ9_min_7cf53 : MethodName := ⟨RJ9, "min", "(II)I"⟩
def RL : String := "SpecimenHallLaw"
abbrev cL_law : ByteArray := code
def yL_law : MethodName := ⟨RL, "law", "([I)Z"⟩
abbrev vwCl : List vw_C := [(RX0, TX0, 3), (RX2, TX2, 3), (RX3, TX3, 5), (RX4, TX4, 4), (RX5, TX5, 2), (RX6, TX6, 5), (RX7, TX7, 11), (RX8, TX8, 3), (RX9, TX9, 8), (RX10, TX10, 30)]
end
section
def mT : List Cond := lw_tbl.filter goodWord
theorem mT_good : GoodIn mT mT := fun w hw => ⟨hw, good_of_word (List.mem_filter.mp hw).2⟩
theorem mT_in : ∀ w ∈ mT, w ∈ lw_tbl := fun w hw => (List.mem_filter.mp hw).1
theorem twp {w : Cond} (i : Nat) (h : (k2_sels lw_privs)[i]? = some w) (hg : goodWord w = true) : w ∈ mT := List.mem_filter.mpr ⟨List.mem_append_left _ (List.mem_of_getElem? h), hg⟩
theorem tw1 {w : Cond} (i : Nat) (h : tables_1_1[i]? = some w) (hg : goodWord w = true) : w ∈ mT := List.mem_filter.mpr ⟨List.mem_append_right _ (List.mem_append_left _ (List.mem_of_getElem? h)), hg⟩
theorem tw2 {w : Cond} (i : Nat) (h : tables_1_2[i]? = some w) (hg : goodWord w = true) : w ∈ mT := List.mem_filter.mpr ⟨List.mem_append_right _ (List.mem_append_right _ (List.mem_append_left _ (List.mem_of_getElem? h))), hg⟩
theorem tw3 {w : Cond} (i : Nat) (h : tables_1_3[i]? = some w) (hg : goodWord w = true) : w ∈ mT := List.mem_filter.mpr ⟨List.mem_append_right _ (List.mem_append_right _ (List.mem_append_right _ (List.mem_append_left _ (List.mem_of_getElem? h)))), hg⟩
theorem tw4 {w : Cond} (i : Nat) (h : tables_1_4[i]? = some w) (hg : goodWord w = true) : w ∈ mT := List.mem_filter.mpr ⟨List.mem_append_right _ (List.mem_append_right _ (List.mem_append_right _ (List.mem_append_right _ (List.mem_append_left _ (List.mem_of_getElem? h))))), hg⟩
theorem tw5 {w : Cond} (i : Nat) (h : tables_1_5[i]? = some w) (hg : goodWord w = true) : w ∈ mT := List.mem_filter.mpr ⟨List.mem_append_right _ (List.mem_append_right _ (List.mem_append_right _ (List.mem_append_right _ (List.mem_append_right _ (List.mem_of_getElem? h))))), hg⟩
theorem tw_1_0 : Cond.initialized "SpecimenHallLaw" ∈ mT := tw1 0 (by decide +kernel) rfl
theorem tw_1_1 : Cond.initialized "SpecimenHall" ∈ mT := tw1 1 (by decide +kernel) rfl
theorem tw_1_2 : Cond.initialized "SpecimenHall$Stock" ∈ mT := tw1 2 (by decide +kernel) rfl
theorem tw_1_3 : Cond.initialized "SpecimenHall$Shelf" ∈ mT := tw1 3 (by decide +kernel) rfl
theorem tw_1_4 : Cond.initialized "SpecimenHall$Key" ∈ mT := tw1 4 (by decide +kernel) rfl
theorem tw_1_5 : Cond.initialized "SpecimenHall$Rules" ∈ mT := tw1 5 (by decide +kernel) rfl
theorem tw_1_6 : Cond.initialized "SpecimenHall$Loans" ∈ mT := tw1 6 (by decide +kernel) rfl
theorem tw_1_7 : Cond.initialized "SpecimenHallModel" ∈ mT := tw1 7 (by decide +kernel) rfl
theorem tw_1_8 : Cond.initialized "SpecimenHall$Codes" ∈ mT := tw1 8 (by decide +kernel) rfl
theorem tw_1_9 : Cond.initialized "SpecimenHall$Specimen" ∈ mT := tw1 9 (by decide +kernel) rfl
theorem tw_1_10 : Cond.initialized "SpecimenHall$Box" ∈ mT := tw1 10 (by decide +kernel) rfl
theorem tw_1_11 : Cond.initialized "java/lang/Math" ∈ mT := tw1 11 (by decide +kernel) rfl
theorem tw_1_12 : Cond.initialized "SpecimenHall$Question" ∈ mT := tw1 12 (by decide +kernel) rfl
theorem tw_1_13 : Cond.initialized "java/lang/Long" ∈ mT := tw1 13 (by decide +kernel) rfl
theorem tw_1_14 : Cond.classLink "SpecimenHallLaw" (7) "SpecimenHall" ∈ mT := tw1 14 (by decide +kernel) rfl
theorem tw_1_15 : Cond.instantiable "SpecimenHall" (8) ∈ mT := tw1 15 (by decide +kernel) rfl
theorem tw_1_16 : Cond.methodLink "SpecimenHallLaw" (9) ⟨"SpecimenHall", "<init>", "()V"⟩ ∈ mT := tw1 16 (by decide +kernel) rfl
theorem tw_1_17 : Cond.instanceMethod ⟨"SpecimenHall", "<init>", "()V"⟩ ∈ mT := tw1 17 (by decide +kernel) rfl
theorem tw_1_18 : Cond.code ⟨"SpecimenHall", "<init>", "()V"⟩ prog_1_method_1_code (2) (Option.none : Option Jvm.ClassFile.FieldType) ∈ mT := tw1 18 rfl rfl
theorem tw_1_19 : Cond.methodLink "SpecimenHall" (1) ⟨"java/lang/Object", "<init>", "()V"⟩ ∈ mT := tw1 19 (by decide +kernel) rfl
theorem tw_1_20 : Cond.instanceMethod ⟨"java/lang/Object", "<init>", "()V"⟩ ∈ mT := tw1 20 (by decide +kernel) rfl
theorem tw_1_21 : Cond.code ⟨"java/lang/Object", "<init>", "()V"⟩ object_method_1_code (1) (Option.none : Option Jvm.ClassFile.FieldType) ∈ mT := tw1 21 rfl rfl
theorem tw_1_22 : Cond.classLink "SpecimenHall" (7) "SpecimenHall$Stock" ∈ mT := tw1 22 (by decide +kernel) rfl
theorem tw_1_23 : Cond.instantiable "SpecimenHall$Stock" (3) ∈ mT := tw1 23 (by decide +kernel) rfl
theorem tw_1_24 : Cond.methodLink "SpecimenHall" (9) ⟨"SpecimenHall$Stock", "<init>", "()V"⟩ ∈ mT := tw1 24 (by decide +kernel) rfl
theorem tw_1_25 : Cond.instanceMethod ⟨"SpecimenHall$Stock", "<init>", "()V"⟩ ∈ mT := tw1 25 (by decide +kernel) rfl
theorem tw_1_26 : Cond.code ⟨"SpecimenHall$Stock", "<init>", "()V"⟩ prog_10_method_1_code (1) (Option.none : Option Jvm.ClassFile.FieldType) ∈ mT := tw1 26 rfl rfl
theorem tw_1_27 : Cond.methodLink "SpecimenHall$Stock" (3) ⟨"java/lang/Object", "<init>", "()V"⟩ ∈ mT := tw1 27 (by decide +kernel) rfl
theorem tw_1_28 : Cond.classLink "SpecimenHall$Stock" (11) "SpecimenHall$Specimen" ∈ mT := tw1 28 (by decide +kernel) rfl
theorem tw_1_30 : Cond.fieldLink "SpecimenHall$Stock" (13) "SpecimenHall$Stock" "byNumber" "[LSpecimenHall$Specimen;" ∈ mT := tw1 30 (by decide +kernel) rfl
theorem tw_1_31 : Cond.fieldLink "SpecimenHall$Stock" (17) "SpecimenHall$Stock" "byLength" "[LSpecimenHall$Specimen;" ∈ mT := tw1 31 (by decide +kernel) rfl
theorem tw_1_32 : Cond.fieldLink "SpecimenHall$Stock" (20) "SpecimenHall$Stock" "size" "I" ∈ mT := tw1 32 (by decide +kernel) rfl
theorem tw_1_33 : Cond.fieldLink "SpecimenHall" (279) "SpecimenHall$Stock" "size" "I" ∈ mT := tw1 33 (by decide +kernel) rfl
theorem tw_1_41 : Cond.classLink "SpecimenHall" (16) "SpecimenHall$Box" ∈ mT := tw1 41 (by decide +kernel) rfl
theorem tw_1_43 : Cond.classLink "SpecimenHall" (22) "SpecimenHall$Shelf" ∈ mT := tw1 43 (by decide +kernel) rfl
theorem tw_1_45 : Cond.instantiable "SpecimenHall$Shelf" (5) ∈ mT := tw1 45 (by decide +kernel) rfl
theorem tw_1_46 : Cond.methodLink "SpecimenHall" (28) ⟨"SpecimenHall$Shelf", "<init>", "(I)V"⟩ ∈ mT := tw1 46 (by decide +kernel) rfl
theorem tw_1_47 : Cond.instanceMethod ⟨"SpecimenHall$Shelf", "<init>", "(I)V"⟩ ∈ mT := tw1 47 (by decide +kernel) rfl
theorem tw_1_48 : Cond.code ⟨"SpecimenHall$Shelf", "<init>", "(I)V"⟩ prog_8_method_1_code (2) (Option.none : Option Jvm.ClassFile.FieldType) ∈ mT := tw1 48 rfl rfl
theorem tw_1_49 : Cond.methodLink "SpecimenHall$Shelf" (1) ⟨"java/lang/Object", "<init>", "()V"⟩ ∈ mT := tw1 49 (by decide +kernel) rfl
theorem tw_1_50 : Cond.fieldLink "SpecimenHall$Shelf" (7) "SpecimenHall$Shelf" "number" "I" ∈ mT := tw1 50 (by decide +kernel) rfl
theorem tw_1_51 : Cond.fieldLink "SpecimenHall" (136) "SpecimenHall$Shelf" "number" "I" ∈ mT := tw1 51 (by decide +kernel) rfl
theorem tw_1_52 : Cond.fieldLink "SpecimenHall$Shelf" (13) "SpecimenHall$Shelf" "kind" "I" ∈ mT := tw1 52 (by decide +kernel) rfl
theorem tw_1_53 : Cond.fieldLink "SpecimenHall" (250) "SpecimenHall$Shelf" "kind" "I" ∈ mT := tw1 53 (by decide +kernel) rfl
theorem tw_1_54 : Cond.fieldLink "SpecimenHall$Shelf" (16) "SpecimenHall$Shelf" "room" "I" ∈ mT := tw1 54 (by decide +kernel) rfl
theorem tw_1_55 : Cond.fieldLink "SpecimenHall" (271) "SpecimenHall$Shelf" "room" "I" ∈ mT := tw1 55 (by decide +kernel) rfl
theorem tw_1_56 : Cond.fieldLink "SpecimenHall$Shelf" (19) "SpecimenHall$Shelf" "standing" "I" ∈ mT := tw1 56 (by decide +kernel) rfl
theorem tw_1_57 : Cond.fieldLink "SpecimenHall" (267) "SpecimenHall$Shelf" "standing" "I" ∈ mT := tw1 57 (by decide +kernel) rfl
theorem tw_1_58 : Cond.fieldLink "SpecimenHall$Shelf" (22) "SpecimenHall$Shelf" "filled" "I" ∈ mT := tw1 58 (by decide +kernel) rfl
theorem tw_1_70 : Cond.classLink "SpecimenHall" (31) "SpecimenHall$Key" ∈ mT := tw1 70 (by decide +kernel) rfl
theorem tw_1_72 : Cond.instantiable "SpecimenHall$Key" (3) ∈ mT := tw1 72 (by decide +kernel) rfl
theorem tw_1_73 : Cond.methodLink "SpecimenHall" (37) ⟨"SpecimenHall$Key", "<init>", "()V"⟩ ∈ mT := tw1 73 (by decide +kernel) rfl
theorem tw_1_74 : Cond.instanceMethod ⟨"SpecimenHall$Key", "<init>", "()V"⟩ ∈ mT := tw1 74 (by decide +kernel) rfl
theorem tw_1_75 : Cond.code ⟨"SpecimenHall$Key", "<init>", "()V"⟩ prog_4_method_1_code (1) (Option.none : Option Jvm.ClassFile.FieldType) ∈ mT := tw1 75 rfl rfl
theorem tw_1_76 : Cond.methodLink "SpecimenHall$Key" (3) ⟨"java/lang/Object", "<init>", "()V"⟩ ∈ mT := tw1 76 (by decide +kernel) rfl
theorem tw_1_77 : Cond.classLink "SpecimenHall$Key" (11) "SpecimenHall$Question" ∈ mT := tw1 77 (by decide +kernel) rfl
theorem tw_1_79 : Cond.fieldLink "SpecimenHall$Key" (13) "SpecimenHall$Key" "questions" "[LSpecimenHall$Question;" ∈ mT := tw1 79 (by decide +kernel) rfl
theorem tw_1_80 : Cond.fieldLink "SpecimenHall$Key" (17) "SpecimenHall$Key" "size" "I" ∈ mT := tw1 80 (by decide +kernel) rfl
theorem tw_1_81 : Cond.fieldLink "SpecimenHall$Key" (21) "SpecimenHall$Key" "askedLately" "I" ∈ mT := tw1 81 (by decide +kernel) rfl
theorem tw_1_82 : Cond.fieldLink "SpecimenHall" (244) "SpecimenHall$Key" "askedLately" "I" ∈ mT := tw1 82 (by decide +kernel) rfl
theorem tw_1_90 : Cond.classLink "SpecimenHall" (38) "SpecimenHall$Rules" ∈ mT := tw1 90 (by decide +kernel) rfl
theorem tw_1_91 : Cond.instantiable "SpecimenHall$Rules" (2) ∈ mT := tw1 91 (by decide +kernel) rfl
theorem tw_1_92 : Cond.methodLink "SpecimenHall" (40) ⟨"SpecimenHall$Rules", "<init>", "()V"⟩ ∈ mT := tw1 92 (by decide +kernel) rfl
theorem tw_1_93 : Cond.instanceMethod ⟨"SpecimenHall$Rules", "<init>", "()V"⟩ ∈ mT := tw1 93 (by decide +kernel) rfl
theorem tw_1_94 : Cond.code ⟨"SpecimenHall$Rules", "<init>", "()V"⟩ prog_7_method_1_code (1) (Option.none : Option Jvm.ClassFile.FieldType) ∈ mT := tw1 94 rfl rfl
theorem tw_1_95 : Cond.methodLink "SpecimenHall$Rules" (3) ⟨"java/lang/Object", "<init>", "()V"⟩ ∈ mT := tw1 95 (by decide +kernel) rfl
theorem tw_1_96 : Cond.fieldLink "SpecimenHall$Rules" (11) "SpecimenHall$Rules" "laid" "[J" ∈ mT := tw1 96 (by decide +kernel) rfl
theorem tw_1_97 : Cond.fieldLink "SpecimenHall$Rules" (17) "SpecimenHall$Rules" "values" "[I" ∈ mT := tw1 97 (by decide +kernel) rfl
theorem tw_1_103 : Cond.arrayClass FieldType.long ∈ mT := tw1 103 (by decide +kernel) rfl
theorem tw_1_104 : Cond.arrayClass FieldType.int ∈ mT := tw1 104 (by decide +kernel) rfl
theorem tw_1_105 : Cond.classLink "SpecimenHall" (45) "SpecimenHall$Loans" ∈ mT := tw1 105 (by decide +kernel) rfl
theorem tw_1_106 : Cond.instantiable "SpecimenHall$Loans" (5) ∈ mT := tw1 106 (by decide +kernel) rfl
theorem tw_1_107 : Cond.methodLink "SpecimenHall" (47) ⟨"SpecimenHall$Loans", "<init>", "()V"⟩ ∈ mT := tw1 107 (by decide +kernel) rfl
theorem tw_1_108 : Cond.instanceMethod ⟨"SpecimenHall$Loans", "<init>", "()V"⟩ ∈ mT := tw1 108 (by decide +kernel) rfl
theorem tw_1_109 : Cond.code ⟨"SpecimenHall$Loans", "<init>", "()V"⟩ prog_5_method_1_code (1) (Option.none : Option Jvm.ClassFile.FieldType) ∈ mT := tw1 109 rfl rfl
theorem tw_1_110 : Cond.methodLink "SpecimenHall$Loans" (5) ⟨"java/lang/Object", "<init>", "()V"⟩ ∈ mT := tw1 110 (by decide +kernel) rfl
theorem tw_1_111 : Cond.classLink "SpecimenHall$Loans" (11) "SpecimenHall$Specimen" ∈ mT := tw1 111 (by decide +kernel) rfl
theorem tw_1_112 : Cond.fieldLink "SpecimenHall$Loans" (13) "SpecimenHall$Loans" "lent" "[LSpecimenHall$Specimen;" ∈ mT := tw1 112 (by decide +kernel) rfl
theorem tw_1_113 : Cond.fieldLink "SpecimenHall$Loans" (17) "SpecimenHall$Loans" "held" "[I" ∈ mT := tw1 113 (by decide +kernel) rfl
theorem tw_1_114 : Cond.fieldLink "SpecimenHall$Loans" (21) "SpecimenHall$Loans" "charged" "[I" ∈ mT := tw1 114 (by decide +kernel) rfl
theorem tw_1_115 : Cond.fieldLink "SpecimenHall$Loans" (24) "SpecimenHall$Loans" "openCount" "I" ∈ mT := tw1 115 (by decide +kernel) rfl
theorem tw_1_116 : Cond.fieldLink "SpecimenHall" (285) "SpecimenHall$Loans" "openCount" "I" ∈ mT := tw1 116 (by decide +kernel) rfl
theorem tw_1_117 : Cond.fieldLink "SpecimenHall$Loans" (28) "SpecimenHall$Loans" "everCount" "I" ∈ mT := tw1 117 (by decide +kernel) rfl
theorem tw_1_118 : Cond.fieldLink "SpecimenHall" (288) "SpecimenHall$Loans" "everCount" "I" ∈ mT := tw1 118 (by decide +kernel) rfl
theorem tw_1_130 : Cond.fieldLink "SpecimenHall" (10) "SpecimenHall" "stock" "LSpecimenHall$Stock;" ∈ mT := tw1 130 (by decide +kernel) rfl
theorem tw_1_131 : Cond.fieldLink "SpecimenHall" (18) "SpecimenHall" "boxes" "[LSpecimenHall$Box;" ∈ mT := tw1 131 (by decide +kernel) rfl
theorem tw_1_132 : Cond.fieldLink "SpecimenHall" (24) "SpecimenHall" "shelves" "[LSpecimenHall$Shelf;" ∈ mT := tw1 132 (by decide +kernel) rfl
theorem tw_1_133 : Cond.fieldLink "SpecimenHall" (33) "SpecimenHall" "keys" "[LSpecimenHall$Key;" ∈ mT := tw1 133 (by decide +kernel) rfl
theorem tw_1_134 : Cond.fieldLink "SpecimenHall" (41) "SpecimenHall" "rules" "LSpecimenHall$Rules;" ∈ mT := tw1 134 (by decide +kernel) rfl
theorem tw_1_135 : Cond.fieldLink "SpecimenHall" (48) "SpecimenHall" "loans" "LSpecimenHall$Loans;" ∈ mT := tw1 135 (by decide +kernel) rfl
theorem tw_1_136 : Cond.fieldLink "SpecimenHall" (52) "SpecimenHall" "boxCount" "I" ∈ mT := tw1 136 (by decide +kernel) rfl
theorem tw_1_137 : Cond.fieldLink "SpecimenHall" (56) "SpecimenHall" "questionsAsked" "I" ∈ mT := tw1 137 (by decide +kernel) rfl
theorem tw_1_155 : Cond.methodLink "SpecimenHallLaw" (13) ⟨"SpecimenHall", "make", "(III)I"⟩ ∈ mT := tw1 155 (by decide +kernel) rfl
theorem tw_1_156 : Cond.instanceMethod ⟨"SpecimenHall", "make", "(III)I"⟩ ∈ mT := tw1 156 (by decide +kernel) rfl
theorem tw_1_157 : Cond.selects "SpecimenHall" ⟨"SpecimenHall", "make", "(III)I"⟩ ⟨"SpecimenHall", "make", "(III)I"⟩ ∈ mT := tw1 157 (by decide +kernel) rfl
theorem tw_1_158 : Cond.code ⟨"SpecimenHall", "make", "(III)I"⟩ prog_1_method_2_code (4) (Option.some FieldType.int) ∈ mT := tw1 158 rfl rfl
theorem tw_1_159 : Cond.methodLink "SpecimenHall" (59) ⟨"SpecimenHall$Codes", "isConcrete", "(I)Z"⟩ ∈ mT := tw1 159 (by decide +kernel) rfl
theorem tw_1_160 : Cond.static ⟨"SpecimenHall$Codes", "isConcrete", "(I)Z"⟩ ∈ mT := tw1 160 (by decide +kernel) rfl
theorem tw_1_161 : Cond.code ⟨"SpecimenHall$Codes", "isConcrete", "(I)Z"⟩ prog_3_method_5_code (1) (Option.some FieldType.boolean) ∈ mT := tw1 161 rfl rfl
theorem tw_1_162 : Cond.methodLink "SpecimenHall$Codes" (11) ⟨"SpecimenHall$Codes", "isKind", "(I)Z"⟩ ∈ mT := tw1 162 (by decide +kernel) rfl
theorem tw_1_163 : Cond.static ⟨"SpecimenHall$Codes", "isKind", "(I)Z"⟩ ∈ mT := tw1 163 (by decide +kernel) rfl
theorem tw_1_164 : Cond.code ⟨"SpecimenHall$Codes", "isKind", "(I)Z"⟩ prog_3_method_2_code (1) (Option.some FieldType.boolean) ∈ mT := tw1 164 rfl rfl
theorem tw_1_165 : Cond.constantLong "SpecimenHall$Codes" (18) (1181195) ∈ mT := tw1 165 (by decide +kernel) rfl
theorem tw_1_166 : Cond.methodLink "SpecimenHall$Codes" (20) ⟨"SpecimenHall$Codes", "has", "(JI)Z"⟩ ∈ mT := tw1 166 (by decide +kernel) rfl
theorem tw_1_167 : Cond.static ⟨"SpecimenHall$Codes", "has", "(JI)Z"⟩ ∈ mT := tw1 167 (by decide +kernel) rfl
theorem tw_1_168 : Cond.code ⟨"SpecimenHall$Codes", "has", "(JI)Z"⟩ prog_3_method_7_code (3) (Option.some FieldType.boolean) ∈ mT := tw1 168 rfl rfl
theorem tw_1_169 : Cond.methodLink "SpecimenHall" (65) ⟨"SpecimenHall$Specimen", "isMeasure", "(I)Z"⟩ ∈ mT := tw1 169 (by decide +kernel) rfl
theorem tw_1_170 : Cond.static ⟨"SpecimenHall$Specimen", "isMeasure", "(I)Z"⟩ ∈ mT := tw1 170 (by decide +kernel) rfl
theorem tw_1_171 : Cond.code ⟨"SpecimenHall$Specimen", "isMeasure", "(I)Z"⟩ prog_9_method_2_code (1) (Option.some FieldType.boolean) ∈ mT := tw1 171 rfl rfl
theorem tw_1_172 : Cond.constant "SpecimenHall$Specimen" (47) (100000) ∈ mT := tw1 172 (by decide +kernel) rfl
theorem tw_1_173 : Cond.methodLink "SpecimenHall" (70) ⟨"SpecimenHall$Stock", "add", "(III)I"⟩ ∈ mT := tw1 173 (by decide +kernel) rfl
theorem tw_1_174 : Cond.instanceMethod ⟨"SpecimenHall$Stock", "add", "(III)I"⟩ ∈ mT := tw1 174 (by decide +kernel) rfl
theorem tw_1_175 : Cond.selects "SpecimenHall$Stock" ⟨"SpecimenHall$Stock", "add", "(III)I"⟩ ⟨"SpecimenHall$Stock", "add", "(III)I"⟩ ∈ mT := tw1 175 (by decide +kernel) rfl
theorem tw_1_176 : Cond.code ⟨"SpecimenHall$Stock", "add", "(III)I"⟩ prog_10_method_3_code (6) (Option.some FieldType.int) ∈ mT := tw1 176 rfl rfl
theorem tw_1_177 : Cond.instantiable "SpecimenHall$Specimen" (11) ∈ mT := tw1 177 (by decide +kernel) rfl
theorem tw_1_178 : Cond.methodLink "SpecimenHall$Stock" (24) ⟨"SpecimenHall$Specimen", "<init>", "(IIII)V"⟩ ∈ mT := tw1 178 (by decide +kernel) rfl
theorem tw_1_179 : Cond.instanceMethod ⟨"SpecimenHall$Specimen", "<init>", "(IIII)V"⟩ ∈ mT := tw1 179 (by decide +kernel) rfl
theorem tw_1_180 : Cond.code ⟨"SpecimenHall$Specimen", "<init>", "(IIII)V"⟩ prog_9_method_1_code (5) (Option.none : Option Jvm.ClassFile.FieldType) ∈ mT := tw1 180 rfl rfl
theorem tw_1_181 : Cond.methodLink "SpecimenHall$Specimen" (3) ⟨"java/lang/Object", "<init>", "()V"⟩ ∈ mT := tw1 181 (by decide +kernel) rfl
theorem tw_1_182 : Cond.fieldLink "SpecimenHall$Specimen" (9) "SpecimenHall$Specimen" "number" "I" ∈ mT := tw1 182 (by decide +kernel) rfl
theorem tw_1_183 : Cond.fieldLink "SpecimenHall$Stock" (31) "SpecimenHall$Specimen" "number" "I" ∈ mT := tw1 183 (by decide +kernel) rfl
theorem tw_1_184 : Cond.fieldLink "SpecimenHall" (122) "SpecimenHall$Specimen" "number" "I" ∈ mT := tw1 184 (by decide +kernel) rfl
theorem tw_1_185 : Cond.fieldLink "SpecimenHall$Loans" (47) "SpecimenHall$Specimen" "number" "I" ∈ mT := tw1 185 (by decide +kernel) rfl
theorem tw_1_186 : Cond.fieldLink "SpecimenHall$Specimen" (18) "SpecimenHall$Specimen" "length" "I" ∈ mT := tw1 186 (by decide +kernel) rfl
theorem tw_1_187 : Cond.fieldLink "SpecimenHall$Shelf" (25) "SpecimenHall$Specimen" "length" "I" ∈ mT := tw1 187 (by decide +kernel) rfl
theorem tw_1_188 : Cond.fieldLink "SpecimenHall$Stock" (34) "SpecimenHall$Specimen" "length" "I" ∈ mT := tw1 188 (by decide +kernel) rfl
theorem tw_1_189 : Cond.fieldLink "SpecimenHall$Question" (37) "SpecimenHall$Specimen" "length" "I" ∈ mT := tw1 189 (by decide +kernel) rfl
theorem tw_1_190 : Cond.fieldLink "SpecimenHall" (125) "SpecimenHall$Specimen" "length" "I" ∈ mT := tw1 190 (by decide +kernel) rfl
theorem tw_1_191 : Cond.fieldLink "SpecimenHall$Specimen" (21) "SpecimenHall$Specimen" "weight" "I" ∈ mT := tw1 191 (by decide +kernel) rfl
theorem tw_1_192 : Cond.fieldLink "SpecimenHall$Question" (40) "SpecimenHall$Specimen" "weight" "I" ∈ mT := tw1 192 (by decide +kernel) rfl
theorem tw_1_193 : Cond.fieldLink "SpecimenHall" (128) "SpecimenHall$Specimen" "weight" "I" ∈ mT := tw1 193 (by decide +kernel) rfl
theorem tw_1_194 : Cond.fieldLink "SpecimenHall$Specimen" (15) "SpecimenHall$Specimen" "kind" "I" ∈ mT := tw1 194 (by decide +kernel) rfl
theorem tw_1_195 : Cond.fieldLink "SpecimenHall" (95) "SpecimenHall$Specimen" "kind" "I" ∈ mT := tw1 195 (by decide +kernel) rfl
theorem tw_1_196 : Cond.fieldLink "SpecimenHall$Question" (43) "SpecimenHall$Specimen" "kind" "I" ∈ mT := tw1 196 (by decide +kernel) rfl
theorem tw_1_197 : Cond.fieldLink "SpecimenHall$Stock" (37) "SpecimenHall$Specimen" "kind" "I" ∈ mT := tw1 197 (by decide +kernel) rfl
theorem tw_1_198 : Cond.fieldLink "SpecimenHall$Specimen" (24) "SpecimenHall$Specimen" "box" "LSpecimenHall$Box;" ∈ mT := tw1 198 (by decide +kernel) rfl
theorem tw_1_199 : Cond.fieldLink "SpecimenHall" (111) "SpecimenHall$Specimen" "box" "LSpecimenHall$Box;" ∈ mT := tw1 199 (by decide +kernel) rfl
theorem tw_1_200 : Cond.fieldLink "SpecimenHall$Stock" (46) "SpecimenHall$Specimen" "box" "LSpecimenHall$Box;" ∈ mT := tw1 200 (by decide +kernel) rfl
theorem tw_1_201 : Cond.fieldLink "SpecimenHall$Specimen" (28) "SpecimenHall$Specimen" "place" "I" ∈ mT := tw1 201 (by decide +kernel) rfl
theorem tw_1_202 : Cond.fieldLink "SpecimenHall" (115) "SpecimenHall$Specimen" "place" "I" ∈ mT := tw1 202 (by decide +kernel) rfl
theorem tw_1_203 : Cond.fieldLink "SpecimenHall$Specimen" (31) "SpecimenHall$Specimen" "shelf" "LSpecimenHall$Shelf;" ∈ mT := tw1 203 (by decide +kernel) rfl
theorem tw_1_204 : Cond.fieldLink "SpecimenHall" (132) "SpecimenHall$Specimen" "shelf" "LSpecimenHall$Shelf;" ∈ mT := tw1 204 (by decide +kernel) rfl
theorem tw_1_205 : Cond.fieldLink "SpecimenHall$Specimen" (35) "SpecimenHall$Specimen" "borrower" "I" ∈ mT := tw1 205 (by decide +kernel) rfl
theorem tw_1_206 : Cond.fieldLink "SpecimenHall$Loans" (36) "SpecimenHall$Specimen" "borrower" "I" ∈ mT := tw1 206 (by decide +kernel) rfl
theorem tw_1_207 : Cond.fieldLink "SpecimenHall" (137) "SpecimenHall$Specimen" "borrower" "I" ∈ mT := tw1 207 (by decide +kernel) rfl
theorem tw_1_208 : Cond.fieldLink "SpecimenHall$Specimen" (38) "SpecimenHall$Specimen" "lentOn" "I" ∈ mT := tw1 208 (by decide +kernel) rfl
theorem tw_1_209 : Cond.fieldLink "SpecimenHall" (140) "SpecimenHall$Specimen" "lentOn" "I" ∈ mT := tw1 209 (by decide +kernel) rfl
theorem tw_1_210 : Cond.fieldLink "SpecimenHall$Specimen" (41) "SpecimenHall$Specimen" "term" "I" ∈ mT := tw1 210 (by decide +kernel) rfl
theorem tw_1_211 : Cond.fieldLink "SpecimenHall" (143) "SpecimenHall$Specimen" "term" "I" ∈ mT := tw1 211 (by decide +kernel) rfl
theorem tw_1_212 : Cond.fieldLink "SpecimenHall$Specimen" (44) "SpecimenHall$Specimen" "fee" "I" ∈ mT := tw1 212 (by decide +kernel) rfl
theorem tw_1_213 : Cond.fieldLink "SpecimenHall" (146) "SpecimenHall$Specimen" "fee" "I" ∈ mT := tw1 213 (by decide +kernel) rfl
theorem tw_1_237 : Cond.methodLink "SpecimenHall$Stock" (27) ⟨"SpecimenHall$Stock", "isLonger", "(LSpecimenHall$Specimen;I)Z"⟩ ∈ mT := tw1 237 (by decide +kernel) rfl
theorem tw_1_238 : Cond.static ⟨"SpecimenHall$Stock", "isLonger", "(LSpecimenHall$Specimen;I)Z"⟩ ∈ mT := tw1 238 (by decide +kernel) rfl
theorem tw_1_239 : Cond.code ⟨"SpecimenHall$Stock", "isLonger", "(LSpecimenHall$Specimen;I)Z"⟩ prog_10_method_4_code (2) (Option.some FieldType.boolean) ∈ mT := tw1 239 rfl rfl
theorem tw_2_0 : Cond.methodLink "SpecimenHallLaw" (18) ⟨"SpecimenHall", "caseOf", "(II)I"⟩ ∈ mT := tw2 0 (by decide +kernel) rfl
theorem tw_2_1 : Cond.instanceMethod ⟨"SpecimenHall", "caseOf", "(II)I"⟩ ∈ mT := tw2 1 (by decide +kernel) rfl
theorem tw_2_2 : Cond.selects "SpecimenHall" ⟨"SpecimenHall", "caseOf", "(II)I"⟩ ⟨"SpecimenHall", "caseOf", "(II)I"⟩ ∈ mT := tw2 2 (by decide +kernel) rfl
theorem tw_2_3 : Cond.code ⟨"SpecimenHall", "caseOf", "(II)I"⟩ prog_1_method_3_code (3) (Option.some FieldType.int) ∈ mT := tw2 3 rfl rfl
theorem tw_2_4 : Cond.methodLink "SpecimenHall" (74) ⟨"SpecimenHall$Codes", "isKind", "(I)Z"⟩ ∈ mT := tw2 4 (by decide +kernel) rfl
theorem tw_2_5 : Cond.instantiable "SpecimenHall$Box" (3) ∈ mT := tw2 5 (by decide +kernel) rfl
theorem tw_2_6 : Cond.methodLink "SpecimenHall" (77) ⟨"SpecimenHall$Box", "<init>", "(III)V"⟩ ∈ mT := tw2 6 (by decide +kernel) rfl
theorem tw_2_7 : Cond.instanceMethod ⟨"SpecimenHall$Box", "<init>", "(III)V"⟩ ∈ mT := tw2 7 (by decide +kernel) rfl
theorem tw_2_8 : Cond.code ⟨"SpecimenHall$Box", "<init>", "(III)V"⟩ prog_2_method_1_code (4) (Option.none : Option Jvm.ClassFile.FieldType) ∈ mT := tw2 8 rfl rfl
theorem tw_2_9 : Cond.methodLink "SpecimenHall$Box" (1) ⟨"java/lang/Object", "<init>", "()V"⟩ ∈ mT := tw2 9 (by decide +kernel) rfl
theorem tw_2_10 : Cond.methodLink "SpecimenHall$Box" (16) ⟨"java/lang/Math", "max", "(II)I"⟩ ∈ mT := tw2 10 (by decide +kernel) rfl
theorem tw_2_11 : Cond.static ⟨"java/lang/Math", "max", "(II)I"⟩ ∈ mT := tw2 11 (by decide +kernel) rfl
theorem tw_2_12 : Cond.code ⟨"java/lang/Math", "max", "(II)I"⟩ prog_14_method_65_code (2) (Option.some FieldType.int) ∈ mT := tw2 12 rfl rfl
theorem tw_2_13 : Cond.classLink "SpecimenHall$Box" (22) "SpecimenHall$Specimen" ∈ mT := tw2 13 (by decide +kernel) rfl
theorem tw_2_14 : Cond.fieldLink "SpecimenHall$Box" (7) "SpecimenHall$Box" "number" "I" ∈ mT := tw2 14 (by decide +kernel) rfl
theorem tw_2_15 : Cond.fieldLink "SpecimenHall" (131) "SpecimenHall$Box" "number" "I" ∈ mT := tw2 15 (by decide +kernel) rfl
theorem tw_2_16 : Cond.fieldLink "SpecimenHall$Box" (13) "SpecimenHall$Box" "kind" "I" ∈ mT := tw2 16 (by decide +kernel) rfl
theorem tw_2_17 : Cond.fieldLink "SpecimenHall" (98) "SpecimenHall$Box" "kind" "I" ∈ mT := tw2 17 (by decide +kernel) rfl
theorem tw_2_18 : Cond.fieldLink "SpecimenHall$Box" (24) "SpecimenHall$Box" "places" "[LSpecimenHall$Specimen;" ∈ mT := tw2 18 (by decide +kernel) rfl
theorem tw_2_19 : Cond.fieldLink "SpecimenHall" (315) "SpecimenHall$Box" "places" "[LSpecimenHall$Specimen;" ∈ mT := tw2 19 (by decide +kernel) rfl
theorem tw_2_27 : Cond.methodLink "SpecimenHallLaw" (23) ⟨"SpecimenHall", "putIn", "(III)I"⟩ ∈ mT := tw2 27 (by decide +kernel) rfl
theorem tw_2_28 : Cond.instanceMethod ⟨"SpecimenHall", "putIn", "(III)I"⟩ ∈ mT := tw2 28 (by decide +kernel) rfl
theorem tw_2_29 : Cond.selects "SpecimenHall" ⟨"SpecimenHall", "putIn", "(III)I"⟩ ⟨"SpecimenHall", "putIn", "(III)I"⟩ ∈ mT := tw2 29 (by decide +kernel) rfl
theorem tw_2_30 : Cond.code ⟨"SpecimenHall", "putIn", "(III)I"⟩ prog_1_method_4_code (6) (Option.some FieldType.int) ∈ mT := tw2 30 rfl rfl
theorem tw_2_31 : Cond.methodLink "SpecimenHall" (80) ⟨"SpecimenHall", "boxAt", "(I)LSpecimenHall$Box;"⟩ ∈ mT := tw2 31 (by decide +kernel) rfl
theorem tw_2_33 : Cond.instanceMethod ⟨"SpecimenHall", "boxAt", "(I)LSpecimenHall$Box;"⟩ ∈ mT := tw2 33 (by decide +kernel) rfl
theorem tw_2_34 : Cond.code ⟨"SpecimenHall", "boxAt", "(I)LSpecimenHall$Box;"⟩ prog_1_method_30_code (2) (Option.some (FieldType.object "SpecimenHall$Box")) ∈ mT := tw2 34 rfl rfl
theorem tw_2_35 : Cond.methodLink "SpecimenHall" (84) ⟨"SpecimenHall$Stock", "at", "(I)LSpecimenHall$Specimen;"⟩ ∈ mT := tw2 35 (by decide +kernel) rfl
theorem tw_2_36 : Cond.instanceMethod ⟨"SpecimenHall$Stock", "at", "(I)LSpecimenHall$Specimen;"⟩ ∈ mT := tw2 36 (by decide +kernel) rfl
theorem tw_2_37 : Cond.selects "SpecimenHall$Stock" ⟨"SpecimenHall$Stock", "at", "(I)LSpecimenHall$Specimen;"⟩ ⟨"SpecimenHall$Stock", "at", "(I)LSpecimenHall$Specimen;"⟩ ∈ mT := tw2 37 (by decide +kernel) rfl
theorem tw_2_38 : Cond.code ⟨"SpecimenHall$Stock", "at", "(I)LSpecimenHall$Specimen;"⟩ prog_10_method_2_code (2) (Option.some (FieldType.object "SpecimenHall$Specimen")) ∈ mT := tw2 38 rfl rfl
theorem tw_2_39 : Cond.methodLink "SpecimenHall" (88) ⟨"SpecimenHall$Box", "isFree", "(I)Z"⟩ ∈ mT := tw2 39 (by decide +kernel) rfl
theorem tw_2_40 : Cond.instanceMethod ⟨"SpecimenHall$Box", "isFree", "(I)Z"⟩ ∈ mT := tw2 40 (by decide +kernel) rfl
theorem tw_2_41 : Cond.selects "SpecimenHall$Box" ⟨"SpecimenHall$Box", "isFree", "(I)Z"⟩ ⟨"SpecimenHall$Box", "isFree", "(I)Z"⟩ ∈ mT := tw2 41 (by decide +kernel) rfl
theorem tw_2_42 : Cond.code ⟨"SpecimenHall$Box", "isFree", "(I)Z"⟩ prog_2_method_3_code (2) (Option.some FieldType.boolean) ∈ mT := tw2 42 rfl rfl
theorem tw_2_43 : Cond.methodLink "SpecimenHall$Box" (28) ⟨"SpecimenHall$Box", "hasPlace", "(I)Z"⟩ ∈ mT := tw2 43 (by decide +kernel) rfl
theorem tw_2_45 : Cond.instanceMethod ⟨"SpecimenHall$Box", "hasPlace", "(I)Z"⟩ ∈ mT := tw2 45 (by decide +kernel) rfl
theorem tw_2_46 : Cond.code ⟨"SpecimenHall$Box", "hasPlace", "(I)Z"⟩ prog_2_method_2_code (2) (Option.some FieldType.boolean) ∈ mT := tw2 46 rfl rfl
theorem tw_2_47 : Cond.methodLink "SpecimenHall" (91) ⟨"SpecimenHall$Specimen", "isLent", "()Z"⟩ ∈ mT := tw2 47 (by decide +kernel) rfl
theorem tw_2_48 : Cond.instanceMethod ⟨"SpecimenHall$Specimen", "isLent", "()Z"⟩ ∈ mT := tw2 48 (by decide +kernel) rfl
theorem tw_2_49 : Cond.selects "SpecimenHall$Specimen" ⟨"SpecimenHall$Specimen", "isLent", "()Z"⟩ ⟨"SpecimenHall$Specimen", "isLent", "()Z"⟩ ∈ mT := tw2 49 (by decide +kernel) rfl
theorem tw_2_50 : Cond.code ⟨"SpecimenHall$Specimen", "isLent", "()Z"⟩ prog_9_method_3_code (1) (Option.some FieldType.boolean) ∈ mT := tw2 50 rfl rfl
theorem tw_2_51 : Cond.methodLink "SpecimenHall" (99) ⟨"SpecimenHall$Codes", "standsUnder", "(II)Z"⟩ ∈ mT := tw2 51 (by decide +kernel) rfl
theorem tw_2_52 : Cond.static ⟨"SpecimenHall$Codes", "standsUnder", "(II)Z"⟩ ∈ mT := tw2 52 (by decide +kernel) rfl
theorem tw_2_53 : Cond.code ⟨"SpecimenHall$Codes", "standsUnder", "(II)Z"⟩ prog_3_method_11_code (2) (Option.some FieldType.boolean) ∈ mT := tw2 53 rfl rfl
theorem tw_2_54 : Cond.methodLink "SpecimenHall$Codes" (24) ⟨"SpecimenHall$Codes", "isKindOrTrait", "(I)Z"⟩ ∈ mT := tw2 54 (by decide +kernel) rfl
theorem tw_2_55 : Cond.static ⟨"SpecimenHall$Codes", "isKindOrTrait", "(I)Z"⟩ ∈ mT := tw2 55 (by decide +kernel) rfl
theorem tw_2_56 : Cond.code ⟨"SpecimenHall$Codes", "isKindOrTrait", "(I)Z"⟩ prog_3_method_4_code (1) (Option.some FieldType.boolean) ∈ mT := tw2 56 rfl rfl
theorem tw_2_57 : Cond.methodLink "SpecimenHall$Codes" (15) ⟨"SpecimenHall$Codes", "isTrait", "(I)Z"⟩ ∈ mT := tw2 57 (by decide +kernel) rfl
theorem tw_2_58 : Cond.static ⟨"SpecimenHall$Codes", "isTrait", "(I)Z"⟩ ∈ mT := tw2 58 (by decide +kernel) rfl
theorem tw_2_59 : Cond.code ⟨"SpecimenHall$Codes", "isTrait", "(I)Z"⟩ prog_3_method_3_code (1) (Option.some FieldType.boolean) ∈ mT := tw2 59 rfl rfl
theorem tw_2_60 : Cond.methodLink "SpecimenHall$Codes" (38) ⟨"SpecimenHall$Codes", "allAbove", "(I)J"⟩ ∈ mT := tw2 60 (by decide +kernel) rfl
theorem tw_2_61 : Cond.static ⟨"SpecimenHall$Codes", "allAbove", "(I)J"⟩ ∈ mT := tw2 61 (by decide +kernel) rfl
theorem tw_2_62 : Cond.code ⟨"SpecimenHall$Codes", "allAbove", "(I)J"⟩ prog_3_method_10_code (5) (Option.some FieldType.long) ∈ mT := tw2 62 rfl rfl
theorem tw_2_63 : Cond.fieldLink "SpecimenHall$Codes" (35) "SpecimenHall$Codes" "EXTENDED" "[J" ∈ mT := tw2 63 (by decide +kernel) rfl
theorem tw_2_65 : Cond.fieldLink "SpecimenHall$Codes" (31) "SpecimenHall$Codes" "NAMED" "[J" ∈ mT := tw2 65 (by decide +kernel) rfl
theorem tw_2_67 : Cond.fieldLink "SpecimenHall$Codes" (27) "SpecimenHall$Codes" "PARENT" "[I" ∈ mT := tw2 67 (by decide +kernel) rfl
theorem tw_2_69 : Cond.methodLink "SpecimenHall" (103) ⟨"SpecimenHall", "leavePlace", "(LSpecimenHall$Specimen;)V"⟩ ∈ mT := tw2 69 (by decide +kernel) rfl
theorem tw_2_70 : Cond.static ⟨"SpecimenHall", "leavePlace", "(LSpecimenHall$Specimen;)V"⟩ ∈ mT := tw2 70 (by decide +kernel) rfl
theorem tw_2_71 : Cond.code ⟨"SpecimenHall", "leavePlace", "(LSpecimenHall$Specimen;)V"⟩ prog_1_method_35_code (1) (Option.none : Option Jvm.ClassFile.FieldType) ∈ mT := tw2 71 rfl rfl
theorem tw_2_72 : Cond.methodLink "SpecimenHall" (107) ⟨"SpecimenHall$Box", "set", "(ILSpecimenHall$Specimen;)V"⟩ ∈ mT := tw2 72 (by decide +kernel) rfl
theorem tw_2_73 : Cond.instanceMethod ⟨"SpecimenHall$Box", "set", "(ILSpecimenHall$Specimen;)V"⟩ ∈ mT := tw2 73 (by decide +kernel) rfl
theorem tw_2_74 : Cond.selects "SpecimenHall$Box" ⟨"SpecimenHall$Box", "set", "(ILSpecimenHall$Specimen;)V"⟩ ⟨"SpecimenHall$Box", "set", "(ILSpecimenHall$Specimen;)V"⟩ ∈ mT := tw2 74 (by decide +kernel) rfl
theorem tw_2_75 : Cond.code ⟨"SpecimenHall$Box", "set", "(ILSpecimenHall$Specimen;)V"⟩ prog_2_method_5_code (3) (Option.none : Option Jvm.ClassFile.FieldType) ∈ mT := tw2 75 rfl rfl
theorem tw_2_76 : Cond.methodLink "SpecimenHallLaw" (27) ⟨"SpecimenHall", "takeOut", "(II)I"⟩ ∈ mT := tw2 76 (by decide +kernel) rfl
theorem tw_2_77 : Cond.instanceMethod ⟨"SpecimenHall", "takeOut", "(II)I"⟩ ∈ mT := tw2 77 (by decide +kernel) rfl
theorem tw_2_78 : Cond.selects "SpecimenHall" ⟨"SpecimenHall", "takeOut", "(II)I"⟩ ⟨"SpecimenHall", "takeOut", "(II)I"⟩ ∈ mT := tw2 78 (by decide +kernel) rfl
theorem tw_2_79 : Cond.code ⟨"SpecimenHall", "takeOut", "(II)I"⟩ prog_1_method_5_code (4) (Option.some FieldType.int) ∈ mT := tw2 79 rfl rfl
theorem tw_2_80 : Cond.methodLink "SpecimenHall" (118) ⟨"SpecimenHall", "specimenIn", "(II)LSpecimenHall$Specimen;"⟩ ∈ mT := tw2 80 (by decide +kernel) rfl
theorem tw_2_82 : Cond.instanceMethod ⟨"SpecimenHall", "specimenIn", "(II)LSpecimenHall$Specimen;"⟩ ∈ mT := tw2 82 (by decide +kernel) rfl
theorem tw_2_83 : Cond.code ⟨"SpecimenHall", "specimenIn", "(II)LSpecimenHall$Specimen;"⟩ prog_1_method_33_code (4) (Option.some (FieldType.object "SpecimenHall$Specimen")) ∈ mT := tw2 83 rfl rfl
theorem tw_2_84 : Cond.methodLink "SpecimenHall" (300) ⟨"SpecimenHall$Box", "at", "(I)LSpecimenHall$Specimen;"⟩ ∈ mT := tw2 84 (by decide +kernel) rfl
theorem tw_2_85 : Cond.instanceMethod ⟨"SpecimenHall$Box", "at", "(I)LSpecimenHall$Specimen;"⟩ ∈ mT := tw2 85 (by decide +kernel) rfl
theorem tw_2_86 : Cond.selects "SpecimenHall$Box" ⟨"SpecimenHall$Box", "at", "(I)LSpecimenHall$Specimen;"⟩ ⟨"SpecimenHall$Box", "at", "(I)LSpecimenHall$Specimen;"⟩ ∈ mT := tw2 86 (by decide +kernel) rfl
theorem tw_2_87 : Cond.code ⟨"SpecimenHall$Box", "at", "(I)LSpecimenHall$Specimen;"⟩ prog_2_method_4_code (2) (Option.some (FieldType.object "SpecimenHall$Specimen")) ∈ mT := tw2 87 rfl rfl
theorem tw_2_88 : Cond.methodLink "SpecimenHallLaw" (31) ⟨"SpecimenHall", "placed", "(II)I"⟩ ∈ mT := tw2 88 (by decide +kernel) rfl
theorem tw_2_89 : Cond.instanceMethod ⟨"SpecimenHall", "placed", "(II)I"⟩ ∈ mT := tw2 89 (by decide +kernel) rfl
theorem tw_2_90 : Cond.selects "SpecimenHall" ⟨"SpecimenHall", "placed", "(II)I"⟩ ⟨"SpecimenHall", "placed", "(II)I"⟩ ∈ mT := tw2 90 (by decide +kernel) rfl
theorem tw_2_91 : Cond.code ⟨"SpecimenHall", "placed", "(II)I"⟩ prog_1_method_6_code (4) (Option.some FieldType.int) ∈ mT := tw2 91 rfl rfl
theorem tw_2_92 : Cond.methodLink "SpecimenHallLaw" (35) ⟨"SpecimenHall", "told", "(II)I"⟩ ∈ mT := tw2 92 (by decide +kernel) rfl
theorem tw_2_93 : Cond.instanceMethod ⟨"SpecimenHall", "told", "(II)I"⟩ ∈ mT := tw2 93 (by decide +kernel) rfl
theorem tw_2_94 : Cond.selects "SpecimenHall" ⟨"SpecimenHall", "told", "(II)I"⟩ ⟨"SpecimenHall", "told", "(II)I"⟩ ∈ mT := tw2 94 (by decide +kernel) rfl
theorem tw_2_95 : Cond.code ⟨"SpecimenHall", "told", "(II)I"⟩ prog_1_method_7_code (4) (Option.some FieldType.int) ∈ mT := tw2 95 rfl rfl
theorem tw_2_96 : Cond.methodLink "SpecimenHallLaw" (39) ⟨"SpecimenHall", "below", "(II)Z"⟩ ∈ mT := tw2 96 (by decide +kernel) rfl
theorem tw_2_97 : Cond.instanceMethod ⟨"SpecimenHall", "below", "(II)Z"⟩ ∈ mT := tw2 97 (by decide +kernel) rfl
theorem tw_2_98 : Cond.selects "SpecimenHall" ⟨"SpecimenHall", "below", "(II)Z"⟩ ⟨"SpecimenHall", "below", "(II)Z"⟩ ∈ mT := tw2 98 (by decide +kernel) rfl
theorem tw_2_99 : Cond.code ⟨"SpecimenHall", "below", "(II)Z"⟩ prog_1_method_8_code (3) (Option.some FieldType.boolean) ∈ mT := tw2 99 rfl rfl
theorem tw_2_100 : Cond.methodLink "SpecimenHall" (149) ⟨"SpecimenHall$Codes", "isCase", "(I)Z"⟩ ∈ mT := tw2 100 (by decide +kernel) rfl
theorem tw_2_101 : Cond.static ⟨"SpecimenHall$Codes", "isCase", "(I)Z"⟩ ∈ mT := tw2 101 (by decide +kernel) rfl
theorem tw_2_102 : Cond.code ⟨"SpecimenHall$Codes", "isCase", "(I)Z"⟩ prog_3_method_6_code (1) (Option.some FieldType.boolean) ∈ mT := tw2 102 rfl rfl
theorem tw_2_103 : Cond.methodLink "SpecimenHallLaw" (44) ⟨"SpecimenHall", "steps", "(II)I"⟩ ∈ mT := tw2 103 (by decide +kernel) rfl
theorem tw_2_104 : Cond.instanceMethod ⟨"SpecimenHall", "steps", "(II)I"⟩ ∈ mT := tw2 104 (by decide +kernel) rfl
theorem tw_2_105 : Cond.selects "SpecimenHall" ⟨"SpecimenHall", "steps", "(II)I"⟩ ⟨"SpecimenHall", "steps", "(II)I"⟩ ∈ mT := tw2 105 (by decide +kernel) rfl
theorem tw_2_106 : Cond.code ⟨"SpecimenHall", "steps", "(II)I"⟩ prog_1_method_9_code (3) (Option.some FieldType.int) ∈ mT := tw2 106 rfl rfl
theorem tw_2_107 : Cond.methodLink "SpecimenHall" (152) ⟨"SpecimenHall$Codes", "stepsUp", "(II)I"⟩ ∈ mT := tw2 107 (by decide +kernel) rfl
theorem tw_2_108 : Cond.static ⟨"SpecimenHall$Codes", "stepsUp", "(II)I"⟩ ∈ mT := tw2 108 (by decide +kernel) rfl
theorem tw_2_109 : Cond.code ⟨"SpecimenHall$Codes", "stepsUp", "(II)I"⟩ prog_3_method_12_code (4) (Option.some FieldType.int) ∈ mT := tw2 109 rfl rfl
theorem tw_2_110 : Cond.methodLink "SpecimenHallLaw" (48) ⟨"SpecimenHall", "common", "(II)I"⟩ ∈ mT := tw2 110 (by decide +kernel) rfl
theorem tw_2_111 : Cond.instanceMethod ⟨"SpecimenHall", "common", "(II)I"⟩ ∈ mT := tw2 111 (by decide +kernel) rfl
theorem tw_2_112 : Cond.selects "SpecimenHall" ⟨"SpecimenHall", "common", "(II)I"⟩ ⟨"SpecimenHall", "common", "(II)I"⟩ ∈ mT := tw2 112 (by decide +kernel) rfl
theorem tw_2_113 : Cond.code ⟨"SpecimenHall", "common", "(II)I"⟩ prog_1_method_10_code (3) (Option.some FieldType.int) ∈ mT := tw2 113 rfl rfl
theorem tw_2_114 : Cond.methodLink "SpecimenHall" (156) ⟨"SpecimenHall$Codes", "lowestShared", "(II)I"⟩ ∈ mT := tw2 114 (by decide +kernel) rfl
theorem tw_2_115 : Cond.static ⟨"SpecimenHall$Codes", "lowestShared", "(II)I"⟩ ∈ mT := tw2 115 (by decide +kernel) rfl
theorem tw_2_116 : Cond.code ⟨"SpecimenHall$Codes", "lowestShared", "(II)I"⟩ prog_3_method_13_code (6) (Option.some FieldType.int) ∈ mT := tw2 116 rfl rfl
theorem tw_2_117 : Cond.methodLink "SpecimenHallLaw" (52) ⟨"SpecimenHall", "commonTrait", "(III)I"⟩ ∈ mT := tw2 117 (by decide +kernel) rfl
theorem tw_2_118 : Cond.instanceMethod ⟨"SpecimenHall", "commonTrait", "(III)I"⟩ ∈ mT := tw2 118 (by decide +kernel) rfl
theorem tw_2_119 : Cond.selects "SpecimenHall" ⟨"SpecimenHall", "commonTrait", "(III)I"⟩ ⟨"SpecimenHall", "commonTrait", "(III)I"⟩ ∈ mT := tw2 119 (by decide +kernel) rfl
theorem tw_2_120 : Cond.code ⟨"SpecimenHall", "commonTrait", "(III)I"⟩ prog_1_method_11_code (4) (Option.some FieldType.int) ∈ mT := tw2 120 rfl rfl
theorem tw_2_121 : Cond.methodLink "SpecimenHall" (159) ⟨"SpecimenHall$Codes", "sharedTraits", "(II)J"⟩ ∈ mT := tw2 121 (by decide +kernel) rfl
theorem tw_2_122 : Cond.static ⟨"SpecimenHall$Codes", "sharedTraits", "(II)J"⟩ ∈ mT := tw2 122 (by decide +kernel) rfl
theorem tw_2_123 : Cond.code ⟨"SpecimenHall$Codes", "sharedTraits", "(II)J"⟩ prog_3_method_14_code (2) (Option.some FieldType.long) ∈ mT := tw2 123 rfl rfl
theorem tw_2_124 : Cond.constantLong "SpecimenHall$Codes" (42) (561850441793536) ∈ mT := tw2 124 (by decide +kernel) rfl
theorem tw_2_125 : Cond.methodLink "SpecimenHall" (163) ⟨"SpecimenHall$Codes", "lowest", "(J)J"⟩ ∈ mT := tw2 125 (by decide +kernel) rfl
theorem tw_2_126 : Cond.static ⟨"SpecimenHall$Codes", "lowest", "(J)J"⟩ ∈ mT := tw2 126 (by decide +kernel) rfl
theorem tw_2_127 : Cond.code ⟨"SpecimenHall$Codes", "lowest", "(J)J"⟩ prog_3_method_16_code (5) (Option.some FieldType.long) ∈ mT := tw2 127 rfl rfl
theorem tw_2_128 : Cond.constantLong "SpecimenHall$Codes" (50) (-1) ∈ mT := tw2 128 (by decide +kernel) rfl
theorem tw_2_129 : Cond.methodLink "SpecimenHall" (167) ⟨"SpecimenHall$Codes", "pick", "(JI)I"⟩ ∈ mT := tw2 129 (by decide +kernel) rfl
theorem tw_2_130 : Cond.static ⟨"SpecimenHall$Codes", "pick", "(JI)I"⟩ ∈ mT := tw2 130 (by decide +kernel) rfl
theorem tw_2_131 : Cond.code ⟨"SpecimenHall$Codes", "pick", "(JI)I"⟩ prog_3_method_17_code (5) (Option.some FieldType.int) ∈ mT := tw2 131 rfl rfl
theorem tw_2_132 : Cond.methodLink "SpecimenHallLaw" (56) ⟨"SpecimenHall", "rule", "(III)Z"⟩ ∈ mT := tw2 132 (by decide +kernel) rfl
theorem tw_2_133 : Cond.instanceMethod ⟨"SpecimenHall", "rule", "(III)Z"⟩ ∈ mT := tw2 133 (by decide +kernel) rfl
theorem tw_2_134 : Cond.selects "SpecimenHall" ⟨"SpecimenHall", "rule", "(III)Z"⟩ ⟨"SpecimenHall", "rule", "(III)Z"⟩ ∈ mT := tw2 134 (by decide +kernel) rfl
theorem tw_2_135 : Cond.code ⟨"SpecimenHall", "rule", "(III)Z"⟩ prog_1_method_12_code (4) (Option.some FieldType.boolean) ∈ mT := tw2 135 rfl rfl
theorem tw_2_136 : Cond.methodLink "SpecimenHall" (171) ⟨"SpecimenHall$Rules", "lay", "(III)Z"⟩ ∈ mT := tw2 136 (by decide +kernel) rfl
theorem tw_2_137 : Cond.instanceMethod ⟨"SpecimenHall$Rules", "lay", "(III)Z"⟩ ∈ mT := tw2 137 (by decide +kernel) rfl
theorem tw_2_138 : Cond.selects "SpecimenHall$Rules" ⟨"SpecimenHall$Rules", "lay", "(III)Z"⟩ ⟨"SpecimenHall$Rules", "lay", "(III)Z"⟩ ∈ mT := tw2 138 (by decide +kernel) rfl
theorem tw_2_139 : Cond.code ⟨"SpecimenHall$Rules", "lay", "(III)Z"⟩ prog_7_method_3_code (4) (Option.some FieldType.boolean) ∈ mT := tw2 139 rfl rfl
theorem tw_2_140 : Cond.methodLink "SpecimenHall$Rules" (21) ⟨"SpecimenHall$Codes", "isKindOrTrait", "(I)Z"⟩ ∈ mT := tw2 140 (by decide +kernel) rfl
theorem tw_2_141 : Cond.methodLink "SpecimenHall$Rules" (25) ⟨"SpecimenHall$Rules", "isField", "(I)Z"⟩ ∈ mT := tw2 141 (by decide +kernel) rfl
theorem tw_2_142 : Cond.static ⟨"SpecimenHall$Rules", "isField", "(I)Z"⟩ ∈ mT := tw2 142 (by decide +kernel) rfl
theorem tw_2_143 : Cond.code ⟨"SpecimenHall$Rules", "isField", "(I)Z"⟩ prog_7_method_2_code (1) (Option.some FieldType.boolean) ∈ mT := tw2 143 rfl rfl
theorem tw_2_144 : Cond.fieldLink "SpecimenHall$Rules" (28) "SpecimenHall$Rules" "MOST" "[I" ∈ mT := tw2 144 (by decide +kernel) rfl
theorem tw_2_146 : Cond.methodLink "SpecimenHallLaw" (61) ⟨"SpecimenHall", "unrule", "(II)Z"⟩ ∈ mT := tw2 146 (by decide +kernel) rfl
theorem tw_2_147 : Cond.instanceMethod ⟨"SpecimenHall", "unrule", "(II)Z"⟩ ∈ mT := tw2 147 (by decide +kernel) rfl
theorem tw_2_148 : Cond.selects "SpecimenHall" ⟨"SpecimenHall", "unrule", "(II)Z"⟩ ⟨"SpecimenHall", "unrule", "(II)Z"⟩ ∈ mT := tw2 148 (by decide +kernel) rfl
theorem tw_2_149 : Cond.code ⟨"SpecimenHall", "unrule", "(II)Z"⟩ prog_1_method_13_code (3) (Option.some FieldType.boolean) ∈ mT := tw2 149 rfl rfl
theorem tw_2_150 : Cond.methodLink "SpecimenHall" (175) ⟨"SpecimenHall$Rules", "drop", "(II)Z"⟩ ∈ mT := tw2 150 (by decide +kernel) rfl
theorem tw_2_151 : Cond.instanceMethod ⟨"SpecimenHall$Rules", "drop", "(II)Z"⟩ ∈ mT := tw2 151 (by decide +kernel) rfl
theorem tw_2_152 : Cond.selects "SpecimenHall$Rules" ⟨"SpecimenHall$Rules", "drop", "(II)Z"⟩ ⟨"SpecimenHall$Rules", "drop", "(II)Z"⟩ ∈ mT := tw2 152 (by decide +kernel) rfl
theorem tw_2_153 : Cond.code ⟨"SpecimenHall$Rules", "drop", "(II)Z"⟩ prog_7_method_4_code (3) (Option.some FieldType.boolean) ∈ mT := tw2 153 rfl rfl
theorem tw_2_154 : Cond.methodLink "SpecimenHall$Rules" (31) ⟨"SpecimenHall$Codes", "has", "(JI)Z"⟩ ∈ mT := tw2 154 (by decide +kernel) rfl
theorem tw_2_155 : Cond.constantLong "SpecimenHall$Rules" (35) (-1) ∈ mT := tw2 155 (by decide +kernel) rfl
theorem tw_2_156 : Cond.methodLink "SpecimenHallLaw" (65) ⟨"SpecimenHall", "asks", "(II)I"⟩ ∈ mT := tw2 156 (by decide +kernel) rfl
theorem tw_2_157 : Cond.instanceMethod ⟨"SpecimenHall", "asks", "(II)I"⟩ ∈ mT := tw2 157 (by decide +kernel) rfl
theorem tw_2_158 : Cond.selects "SpecimenHall" ⟨"SpecimenHall", "asks", "(II)I"⟩ ⟨"SpecimenHall", "asks", "(II)I"⟩ ∈ mT := tw2 158 (by decide +kernel) rfl
theorem tw_2_159 : Cond.code ⟨"SpecimenHall", "asks", "(II)I"⟩ prog_1_method_14_code (4) (Option.some FieldType.int) ∈ mT := tw2 159 rfl rfl
theorem tw_2_160 : Cond.methodLink "SpecimenHall" (178) ⟨"SpecimenHall$Rules", "answer", "(II)I"⟩ ∈ mT := tw2 160 (by decide +kernel) rfl
theorem tw_2_161 : Cond.instanceMethod ⟨"SpecimenHall$Rules", "answer", "(II)I"⟩ ∈ mT := tw2 161 (by decide +kernel) rfl
theorem tw_2_162 : Cond.selects "SpecimenHall$Rules" ⟨"SpecimenHall$Rules", "answer", "(II)I"⟩ ⟨"SpecimenHall$Rules", "answer", "(II)I"⟩ ∈ mT := tw2 162 (by decide +kernel) rfl
theorem tw_2_163 : Cond.code ⟨"SpecimenHall$Rules", "answer", "(II)I"⟩ prog_7_method_7_code (8) (Option.some FieldType.int) ∈ mT := tw2 163 rfl rfl
theorem tw_2_164 : Cond.methodLink "SpecimenHall$Rules" (58) ⟨"SpecimenHall$Rules", "nearestOf", "(II)J"⟩ ∈ mT := tw2 164 (by decide +kernel) rfl
theorem tw_2_165 : Cond.instanceMethod ⟨"SpecimenHall$Rules", "nearestOf", "(II)J"⟩ ∈ mT := tw2 165 (by decide +kernel) rfl
theorem tw_2_166 : Cond.selects "SpecimenHall$Rules" ⟨"SpecimenHall$Rules", "nearestOf", "(II)J"⟩ ⟨"SpecimenHall$Rules", "nearestOf", "(II)J"⟩ ∈ mT := tw2 166 (by decide +kernel) rfl
theorem tw_2_167 : Cond.code ⟨"SpecimenHall$Rules", "nearestOf", "(II)J"⟩ prog_7_method_6_code (7) (Option.some FieldType.long) ∈ mT := tw2 167 rfl rfl
theorem tw_2_168 : Cond.methodLink "SpecimenHall$Rules" (43) ⟨"SpecimenHall$Codes", "isKind", "(I)Z"⟩ ∈ mT := tw2 168 (by decide +kernel) rfl
theorem tw_2_169 : Cond.methodLink "SpecimenHall$Rules" (46) ⟨"SpecimenHall$Codes", "namedBy", "(I)J"⟩ ∈ mT := tw2 169 (by decide +kernel) rfl
theorem tw_2_170 : Cond.static ⟨"SpecimenHall$Codes", "namedBy", "(I)J"⟩ ∈ mT := tw2 170 (by decide +kernel) rfl
theorem tw_2_171 : Cond.code ⟨"SpecimenHall$Codes", "namedBy", "(I)J"⟩ prog_3_method_9_code (1) (Option.some FieldType.long) ∈ mT := tw2 171 rfl rfl
theorem tw_2_172 : Cond.methodLink "SpecimenHall$Rules" (50) ⟨"SpecimenHall$Codes", "lowest", "(J)J"⟩ ∈ mT := tw2 172 (by decide +kernel) rfl
theorem tw_2_173 : Cond.methodLink "SpecimenHall$Rules" (54) ⟨"SpecimenHall$Codes", "parentOf", "(I)I"⟩ ∈ mT := tw2 173 (by decide +kernel) rfl
theorem tw_2_174 : Cond.static ⟨"SpecimenHall$Codes", "parentOf", "(I)I"⟩ ∈ mT := tw2 174 (by decide +kernel) rfl
theorem tw_2_175 : Cond.code ⟨"SpecimenHall$Codes", "parentOf", "(I)I"⟩ prog_3_method_8_code (1) (Option.some FieldType.int) ∈ mT := tw2 175 rfl rfl
theorem tw_2_176 : Cond.methodLink "SpecimenHallLaw" (69) ⟨"SpecimenHall", "nearest", "(III)I"⟩ ∈ mT := tw2 176 (by decide +kernel) rfl
theorem tw_2_177 : Cond.instanceMethod ⟨"SpecimenHall", "nearest", "(III)I"⟩ ∈ mT := tw2 177 (by decide +kernel) rfl
theorem tw_2_178 : Cond.selects "SpecimenHall" ⟨"SpecimenHall", "nearest", "(III)I"⟩ ⟨"SpecimenHall", "nearest", "(III)I"⟩ ∈ mT := tw2 178 (by decide +kernel) rfl
theorem tw_2_179 : Cond.code ⟨"SpecimenHall", "nearest", "(III)I"⟩ prog_1_method_15_code (5) (Option.some FieldType.int) ∈ mT := tw2 179 rfl rfl
theorem tw_2_180 : Cond.methodLink "SpecimenHall" (181) ⟨"SpecimenHall$Rules", "nearestOf", "(II)J"⟩ ∈ mT := tw2 180 (by decide +kernel) rfl
theorem tw_2_181 : Cond.methodLink "SpecimenHallLaw" (73) ⟨"SpecimenHall", "lend", "(III)I"⟩ ∈ mT := tw2 181 (by decide +kernel) rfl
theorem tw_2_182 : Cond.instanceMethod ⟨"SpecimenHall", "lend", "(III)I"⟩ ∈ mT := tw2 182 (by decide +kernel) rfl
theorem tw_2_183 : Cond.selects "SpecimenHall" ⟨"SpecimenHall", "lend", "(III)I"⟩ ⟨"SpecimenHall", "lend", "(III)I"⟩ ∈ mT := tw2 183 (by decide +kernel) rfl
theorem tw_2_184 : Cond.code ⟨"SpecimenHall", "lend", "(III)I"⟩ prog_1_method_16_code (5) (Option.some FieldType.int) ∈ mT := tw2 184 rfl rfl
theorem tw_2_185 : Cond.methodLink "SpecimenHall" (184) ⟨"SpecimenHall$Loans", "isBorrower", "(I)Z"⟩ ∈ mT := tw2 185 (by decide +kernel) rfl
theorem tw_2_186 : Cond.static ⟨"SpecimenHall$Loans", "isBorrower", "(I)Z"⟩ ∈ mT := tw2 186 (by decide +kernel) rfl
theorem tw_2_187 : Cond.code ⟨"SpecimenHall$Loans", "isBorrower", "(I)Z"⟩ prog_5_method_3_code (1) (Option.some FieldType.boolean) ∈ mT := tw2 187 rfl rfl
theorem tw_2_188 : Cond.methodLink "SpecimenHall" (187) ⟨"SpecimenHall$Loans", "isDay", "(I)Z"⟩ ∈ mT := tw2 188 (by decide +kernel) rfl
theorem tw_2_189 : Cond.static ⟨"SpecimenHall$Loans", "isDay", "(I)Z"⟩ ∈ mT := tw2 189 (by decide +kernel) rfl
theorem tw_2_190 : Cond.code ⟨"SpecimenHall$Loans", "isDay", "(I)Z"⟩ prog_5_method_2_code (1) (Option.some FieldType.boolean) ∈ mT := tw2 190 rfl rfl
theorem tw_2_191 : Cond.constant "SpecimenHall$Loans" (31) (100000) ∈ mT := tw2 191 (by decide +kernel) rfl
theorem tw_2_192 : Cond.methodLink "SpecimenHall" (190) ⟨"SpecimenHall", "lendBox", "(LSpecimenHall$Box;II)I"⟩ ∈ mT := tw2 192 (by decide +kernel) rfl
theorem tw_2_194 : Cond.instanceMethod ⟨"SpecimenHall", "lendBox", "(LSpecimenHall$Box;II)I"⟩ ∈ mT := tw2 194 (by decide +kernel) rfl
theorem tw_2_195 : Cond.code ⟨"SpecimenHall", "lendBox", "(LSpecimenHall$Box;II)I"⟩ prog_1_method_39_code (7) (Option.some FieldType.int) ∈ mT := tw2 195 rfl rfl
theorem tw_2_196 : Cond.methodLink "SpecimenHall" (194) ⟨"SpecimenHall", "mayBeLent", "(LSpecimenHall$Specimen;)Z"⟩ ∈ mT := tw2 196 (by decide +kernel) rfl
theorem tw_2_198 : Cond.instanceMethod ⟨"SpecimenHall", "mayBeLent", "(LSpecimenHall$Specimen;)Z"⟩ ∈ mT := tw2 198 (by decide +kernel) rfl
theorem tw_2_199 : Cond.code ⟨"SpecimenHall", "mayBeLent", "(LSpecimenHall$Specimen;)Z"⟩ prog_1_method_37_code (2) (Option.some FieldType.boolean) ∈ mT := tw2 199 rfl rfl
theorem tw_2_200 : Cond.methodLink "SpecimenHall" (198) ⟨"SpecimenHall$Loans", "hasLeaveFor", "(II)Z"⟩ ∈ mT := tw2 200 (by decide +kernel) rfl
theorem tw_2_201 : Cond.instanceMethod ⟨"SpecimenHall$Loans", "hasLeaveFor", "(II)Z"⟩ ∈ mT := tw2 201 (by decide +kernel) rfl
theorem tw_2_202 : Cond.selects "SpecimenHall$Loans" ⟨"SpecimenHall$Loans", "hasLeaveFor", "(II)Z"⟩ ⟨"SpecimenHall$Loans", "hasLeaveFor", "(II)Z"⟩ ∈ mT := tw2 202 (by decide +kernel) rfl
theorem tw_2_203 : Cond.code ⟨"SpecimenHall$Loans", "hasLeaveFor", "(II)Z"⟩ prog_5_method_4_code (3) (Option.some FieldType.boolean) ∈ mT := tw2 203 rfl rfl
theorem tw_2_204 : Cond.methodLink "SpecimenHall$Loans" (32) ⟨"SpecimenHall$Loans", "isBorrower", "(I)Z"⟩ ∈ mT := tw2 204 (by decide +kernel) rfl
theorem tw_2_205 : Cond.methodLink "SpecimenHall" (201) ⟨"SpecimenHall", "openLoan", "(LSpecimenHall$Specimen;II)V"⟩ ∈ mT := tw2 205 (by decide +kernel) rfl
theorem tw_2_207 : Cond.instanceMethod ⟨"SpecimenHall", "openLoan", "(LSpecimenHall$Specimen;II)V"⟩ ∈ mT := tw2 207 (by decide +kernel) rfl
theorem tw_2_208 : Cond.code ⟨"SpecimenHall", "openLoan", "(LSpecimenHall$Specimen;II)V"⟩ prog_1_method_38_code (6) (Option.none : Option Jvm.ClassFile.FieldType) ∈ mT := tw2 208 rfl rfl
theorem tw_2_209 : Cond.methodLink "SpecimenHall" (304) ⟨"java/lang/Math", "max", "(II)I"⟩ ∈ mT := tw2 209 (by decide +kernel) rfl
theorem tw_2_210 : Cond.methodLink "SpecimenHall" (309) ⟨"SpecimenHall$Specimen", "lendTo", "(IIII)V"⟩ ∈ mT := tw2 210 (by decide +kernel) rfl
theorem tw_2_211 : Cond.instanceMethod ⟨"SpecimenHall$Specimen", "lendTo", "(IIII)V"⟩ ∈ mT := tw2 211 (by decide +kernel) rfl
theorem tw_2_212 : Cond.selects "SpecimenHall$Specimen" ⟨"SpecimenHall$Specimen", "lendTo", "(IIII)V"⟩ ⟨"SpecimenHall$Specimen", "lendTo", "(IIII)V"⟩ ∈ mT := tw2 212 (by decide +kernel) rfl
theorem tw_2_213 : Cond.code ⟨"SpecimenHall$Specimen", "lendTo", "(IIII)V"⟩ prog_9_method_4_code (5) (Option.none : Option Jvm.ClassFile.FieldType) ∈ mT := tw2 213 rfl rfl
theorem tw_2_214 : Cond.methodLink "SpecimenHall" (312) ⟨"SpecimenHall$Loans", "open", "(LSpecimenHall$Specimen;)V"⟩ ∈ mT := tw2 214 (by decide +kernel) rfl
theorem tw_2_215 : Cond.instanceMethod ⟨"SpecimenHall$Loans", "open", "(LSpecimenHall$Specimen;)V"⟩ ∈ mT := tw2 215 (by decide +kernel) rfl
theorem tw_2_216 : Cond.selects "SpecimenHall$Loans" ⟨"SpecimenHall$Loans", "open", "(LSpecimenHall$Specimen;)V"⟩ ⟨"SpecimenHall$Loans", "open", "(LSpecimenHall$Specimen;)V"⟩ ∈ mT := tw2 216 (by decide +kernel) rfl
theorem tw_2_217 : Cond.code ⟨"SpecimenHall$Loans", "open", "(LSpecimenHall$Specimen;)V"⟩ prog_5_method_5_code (3) (Option.none : Option Jvm.ClassFile.FieldType) ∈ mT := tw2 217 rfl rfl
theorem tw_2_218 : Cond.methodLink "SpecimenHall$Loans" (39) ⟨"SpecimenHall$Loans", "comesBehind", "(LSpecimenHall$Specimen;LSpecimenHall$Specimen;)Z"⟩ ∈ mT := tw2 218 (by decide +kernel) rfl
theorem tw_2_219 : Cond.static ⟨"SpecimenHall$Loans", "comesBehind", "(LSpecimenHall$Specimen;LSpecimenHall$Specimen;)Z"⟩ ∈ mT := tw2 219 (by decide +kernel) rfl
theorem tw_2_220 : Cond.code ⟨"SpecimenHall$Loans", "comesBehind", "(LSpecimenHall$Specimen;LSpecimenHall$Specimen;)Z"⟩ prog_5_method_6_code (2) (Option.some FieldType.boolean) ∈ mT := tw2 220 rfl rfl
theorem tw_2_221 : Cond.methodLink "SpecimenHall$Loans" (43) ⟨"SpecimenHall$Specimen", "lastDay", "()I"⟩ ∈ mT := tw2 221 (by decide +kernel) rfl
theorem tw_2_222 : Cond.instanceMethod ⟨"SpecimenHall$Specimen", "lastDay", "()I"⟩ ∈ mT := tw2 222 (by decide +kernel) rfl
theorem tw_2_223 : Cond.selects "SpecimenHall$Specimen" ⟨"SpecimenHall$Specimen", "lastDay", "()I"⟩ ⟨"SpecimenHall$Specimen", "lastDay", "()I"⟩ ∈ mT := tw2 223 (by decide +kernel) rfl
theorem tw_2_224 : Cond.code ⟨"SpecimenHall$Specimen", "lastDay", "()I"⟩ prog_9_method_6_code (1) (Option.some FieldType.int) ∈ mT := tw2 224 rfl rfl
theorem tw_2_225 : Cond.methodLink "SpecimenHallLaw" (77) ⟨"SpecimenHall", "giveBack", "(II)I"⟩ ∈ mT := tw2 225 (by decide +kernel) rfl
theorem tw_2_226 : Cond.instanceMethod ⟨"SpecimenHall", "giveBack", "(II)I"⟩ ∈ mT := tw2 226 (by decide +kernel) rfl
theorem tw_2_227 : Cond.selects "SpecimenHall" ⟨"SpecimenHall", "giveBack", "(II)I"⟩ ⟨"SpecimenHall", "giveBack", "(II)I"⟩ ∈ mT := tw2 227 (by decide +kernel) rfl
theorem tw_2_228 : Cond.code ⟨"SpecimenHall", "giveBack", "(II)I"⟩ prog_1_method_17_code (4) (Option.some FieldType.int) ∈ mT := tw2 228 rfl rfl
theorem tw_2_229 : Cond.methodLink "SpecimenHall" (205) ⟨"SpecimenHall$Loans", "close", "(LSpecimenHall$Specimen;I)I"⟩ ∈ mT := tw2 229 (by decide +kernel) rfl
theorem tw_2_230 : Cond.instanceMethod ⟨"SpecimenHall$Loans", "close", "(LSpecimenHall$Specimen;I)I"⟩ ∈ mT := tw2 230 (by decide +kernel) rfl
theorem tw_2_231 : Cond.selects "SpecimenHall$Loans" ⟨"SpecimenHall$Loans", "close", "(LSpecimenHall$Specimen;I)I"⟩ ⟨"SpecimenHall$Loans", "close", "(LSpecimenHall$Specimen;I)I"⟩ ∈ mT := tw2 231 (by decide +kernel) rfl
theorem tw_2_232 : Cond.code ⟨"SpecimenHall$Loans", "close", "(LSpecimenHall$Specimen;I)I"⟩ prog_5_method_7_code (4) (Option.some FieldType.int) ∈ mT := tw2 232 rfl rfl
theorem tw_2_233 : Cond.methodLink "SpecimenHall$Loans" (50) ⟨"SpecimenHall$Specimen", "dueOn", "(I)I"⟩ ∈ mT := tw2 233 (by decide +kernel) rfl
theorem tw_2_234 : Cond.instanceMethod ⟨"SpecimenHall$Specimen", "dueOn", "(I)I"⟩ ∈ mT := tw2 234 (by decide +kernel) rfl
theorem tw_2_235 : Cond.selects "SpecimenHall$Specimen" ⟨"SpecimenHall$Specimen", "dueOn", "(I)I"⟩ ⟨"SpecimenHall$Specimen", "dueOn", "(I)I"⟩ ∈ mT := tw2 235 (by decide +kernel) rfl
theorem tw_2_236 : Cond.code ⟨"SpecimenHall$Specimen", "dueOn", "(I)I"⟩ prog_9_method_7_code (4) (Option.some FieldType.int) ∈ mT := tw2 236 rfl rfl
theorem tw_2_237 : Cond.methodLink "SpecimenHall$Specimen" (52) ⟨"SpecimenHall$Specimen", "lastDay", "()I"⟩ ∈ mT := tw2 237 (by decide +kernel) rfl
theorem tw_2_238 : Cond.methodLink "SpecimenHall$Specimen" (56) ⟨"java/lang/Math", "max", "(II)I"⟩ ∈ mT := tw2 238 (by decide +kernel) rfl
theorem tw_2_239 : Cond.methodLink "SpecimenHall$Specimen" (64) ⟨"java/lang/Math", "min", "(II)I"⟩ ∈ mT := tw2 239 (by decide +kernel) rfl
theorem tw_3_0 : Cond.static ⟨"java/lang/Math", "min", "(II)I"⟩ ∈ mT := tw3 0 (by decide +kernel) rfl
theorem tw_3_1 : Cond.code ⟨"java/lang/Math", "min", "(II)I"⟩ prog_14_method_69_code (2) (Option.some FieldType.int) ∈ mT := tw3 1 rfl rfl
theorem tw_3_2 : Cond.methodLink "SpecimenHall$Loans" (54) ⟨"SpecimenHall$Loans", "remove", "(LSpecimenHall$Specimen;)V"⟩ ∈ mT := tw3 2 (by decide +kernel) rfl
theorem tw_3_4 : Cond.instanceMethod ⟨"SpecimenHall$Loans", "remove", "(LSpecimenHall$Specimen;)V"⟩ ∈ mT := tw3 4 (by decide +kernel) rfl
theorem tw_3_5 : Cond.code ⟨"SpecimenHall$Loans", "remove", "(LSpecimenHall$Specimen;)V"⟩ prog_5_method_8_code (4) (Option.none : Option Jvm.ClassFile.FieldType) ∈ mT := tw3 5 rfl rfl
theorem tw_3_6 : Cond.methodLink "SpecimenHall$Loans" (58) ⟨"SpecimenHall$Specimen", "endLoan", "()V"⟩ ∈ mT := tw3 6 (by decide +kernel) rfl
theorem tw_3_7 : Cond.instanceMethod ⟨"SpecimenHall$Specimen", "endLoan", "()V"⟩ ∈ mT := tw3 7 (by decide +kernel) rfl
theorem tw_3_8 : Cond.selects "SpecimenHall$Specimen" ⟨"SpecimenHall$Specimen", "endLoan", "()V"⟩ ⟨"SpecimenHall$Specimen", "endLoan", "()V"⟩ ∈ mT := tw3 8 (by decide +kernel) rfl
theorem tw_3_9 : Cond.code ⟨"SpecimenHall$Specimen", "endLoan", "()V"⟩ prog_9_method_5_code (1) (Option.none : Option Jvm.ClassFile.FieldType) ∈ mT := tw3 9 rfl rfl
theorem tw_3_10 : Cond.methodLink "SpecimenHall$Specimen" (48) ⟨"SpecimenHall$Specimen", "lendTo", "(IIII)V"⟩ ∈ mT := tw3 10 (by decide +kernel) rfl
theorem tw_3_11 : Cond.methodLink "SpecimenHallLaw" (81) ⟨"SpecimenHall", "overdue", "(I)I"⟩ ∈ mT := tw3 11 (by decide +kernel) rfl
theorem tw_3_12 : Cond.instanceMethod ⟨"SpecimenHall", "overdue", "(I)I"⟩ ∈ mT := tw3 12 (by decide +kernel) rfl
theorem tw_3_13 : Cond.selects "SpecimenHall" ⟨"SpecimenHall", "overdue", "(I)I"⟩ ⟨"SpecimenHall", "overdue", "(I)I"⟩ ∈ mT := tw3 13 (by decide +kernel) rfl
theorem tw_3_14 : Cond.code ⟨"SpecimenHall", "overdue", "(I)I"⟩ prog_1_method_18_code (2) (Option.some FieldType.int) ∈ mT := tw3 14 rfl rfl
theorem tw_3_15 : Cond.methodLink "SpecimenHall" (209) ⟨"SpecimenHall$Loans", "lateCount", "(I)I"⟩ ∈ mT := tw3 15 (by decide +kernel) rfl
theorem tw_3_16 : Cond.instanceMethod ⟨"SpecimenHall$Loans", "lateCount", "(I)I"⟩ ∈ mT := tw3 16 (by decide +kernel) rfl
theorem tw_3_17 : Cond.selects "SpecimenHall$Loans" ⟨"SpecimenHall$Loans", "lateCount", "(I)I"⟩ ⟨"SpecimenHall$Loans", "lateCount", "(I)I"⟩ ∈ mT := tw3 17 (by decide +kernel) rfl
theorem tw_3_18 : Cond.code ⟨"SpecimenHall$Loans", "lateCount", "(I)I"⟩ prog_5_method_9_code (5) (Option.some FieldType.int) ∈ mT := tw3 18 rfl rfl
theorem tw_3_19 : Cond.methodLink "SpecimenHallLaw" (86) ⟨"SpecimenHall", "lateOne", "(II)I"⟩ ∈ mT := tw3 19 (by decide +kernel) rfl
theorem tw_3_20 : Cond.instanceMethod ⟨"SpecimenHall", "lateOne", "(II)I"⟩ ∈ mT := tw3 20 (by decide +kernel) rfl
theorem tw_3_21 : Cond.selects "SpecimenHall" ⟨"SpecimenHall", "lateOne", "(II)I"⟩ ⟨"SpecimenHall", "lateOne", "(II)I"⟩ ∈ mT := tw3 21 (by decide +kernel) rfl
theorem tw_3_22 : Cond.code ⟨"SpecimenHall", "lateOne", "(II)I"⟩ prog_1_method_19_code (3) (Option.some FieldType.int) ∈ mT := tw3 22 rfl rfl
theorem tw_3_23 : Cond.methodLink "SpecimenHall" (213) ⟨"SpecimenHall$Loans", "lateAt", "(II)I"⟩ ∈ mT := tw3 23 (by decide +kernel) rfl
theorem tw_3_24 : Cond.instanceMethod ⟨"SpecimenHall$Loans", "lateAt", "(II)I"⟩ ∈ mT := tw3 24 (by decide +kernel) rfl
theorem tw_3_25 : Cond.selects "SpecimenHall$Loans" ⟨"SpecimenHall$Loans", "lateAt", "(II)I"⟩ ⟨"SpecimenHall$Loans", "lateAt", "(II)I"⟩ ∈ mT := tw3 25 (by decide +kernel) rfl
theorem tw_3_26 : Cond.code ⟨"SpecimenHall$Loans", "lateAt", "(II)I"⟩ prog_5_method_10_code (4) (Option.some FieldType.int) ∈ mT := tw3 26 rfl rfl
theorem tw_3_27 : Cond.methodLink "SpecimenHallLaw" (90) ⟨"SpecimenHall", "fees", "(II)I"⟩ ∈ mT := tw3 27 (by decide +kernel) rfl
theorem tw_3_28 : Cond.instanceMethod ⟨"SpecimenHall", "fees", "(II)I"⟩ ∈ mT := tw3 28 (by decide +kernel) rfl
theorem tw_3_29 : Cond.selects "SpecimenHall" ⟨"SpecimenHall", "fees", "(II)I"⟩ ⟨"SpecimenHall", "fees", "(II)I"⟩ ∈ mT := tw3 29 (by decide +kernel) rfl
theorem tw_3_30 : Cond.code ⟨"SpecimenHall", "fees", "(II)I"⟩ prog_1_method_20_code (3) (Option.some FieldType.int) ∈ mT := tw3 30 rfl rfl
theorem tw_3_31 : Cond.methodLink "SpecimenHall" (216) ⟨"SpecimenHall$Loans", "owed", "(II)I"⟩ ∈ mT := tw3 31 (by decide +kernel) rfl
theorem tw_3_32 : Cond.instanceMethod ⟨"SpecimenHall$Loans", "owed", "(II)I"⟩ ∈ mT := tw3 32 (by decide +kernel) rfl
theorem tw_3_33 : Cond.selects "SpecimenHall$Loans" ⟨"SpecimenHall$Loans", "owed", "(II)I"⟩ ⟨"SpecimenHall$Loans", "owed", "(II)I"⟩ ∈ mT := tw3 33 (by decide +kernel) rfl
theorem tw_3_34 : Cond.code ⟨"SpecimenHall$Loans", "owed", "(II)I"⟩ prog_5_method_11_code (6) (Option.some FieldType.int) ∈ mT := tw3 34 rfl rfl
theorem tw_3_35 : Cond.methodLink "SpecimenHallLaw" (94) ⟨"SpecimenHall", "question", "(IIIII)I"⟩ ∈ mT := tw3 35 (by decide +kernel) rfl
theorem tw_3_36 : Cond.instanceMethod ⟨"SpecimenHall", "question", "(IIIII)I"⟩ ∈ mT := tw3 36 (by decide +kernel) rfl
theorem tw_3_37 : Cond.selects "SpecimenHall" ⟨"SpecimenHall", "question", "(IIIII)I"⟩ ⟨"SpecimenHall", "question", "(IIIII)I"⟩ ∈ mT := tw3 37 (by decide +kernel) rfl
theorem tw_3_38 : Cond.code ⟨"SpecimenHall", "question", "(IIIII)I"⟩ prog_1_method_21_code (7) (Option.some FieldType.int) ∈ mT := tw3 38 rfl rfl
theorem tw_3_39 : Cond.methodLink "SpecimenHall" (219) ⟨"SpecimenHall", "keyAt", "(I)LSpecimenHall$Key;"⟩ ∈ mT := tw3 39 (by decide +kernel) rfl
theorem tw_3_41 : Cond.instanceMethod ⟨"SpecimenHall", "keyAt", "(I)LSpecimenHall$Key;"⟩ ∈ mT := tw3 41 (by decide +kernel) rfl
theorem tw_3_42 : Cond.code ⟨"SpecimenHall", "keyAt", "(I)LSpecimenHall$Key;"⟩ prog_1_method_32_code (2) (Option.some (FieldType.object "SpecimenHall$Key")) ∈ mT := tw3 42 rfl rfl
theorem tw_3_43 : Cond.methodLink "SpecimenHall" (223) ⟨"SpecimenHall$Key", "isFull", "()Z"⟩ ∈ mT := tw3 43 (by decide +kernel) rfl
theorem tw_3_44 : Cond.instanceMethod ⟨"SpecimenHall$Key", "isFull", "()Z"⟩ ∈ mT := tw3 44 (by decide +kernel) rfl
theorem tw_3_45 : Cond.selects "SpecimenHall$Key" ⟨"SpecimenHall$Key", "isFull", "()Z"⟩ ⟨"SpecimenHall$Key", "isFull", "()Z"⟩ ∈ mT := tw3 45 (by decide +kernel) rfl
theorem tw_3_46 : Cond.code ⟨"SpecimenHall$Key", "isFull", "()Z"⟩ prog_4_method_2_code (1) (Option.some FieldType.boolean) ∈ mT := tw3 46 rfl rfl
theorem tw_3_47 : Cond.methodLink "SpecimenHall" (226) ⟨"SpecimenHall$Question", "mayAsk", "(II)Z"⟩ ∈ mT := tw3 47 (by decide +kernel) rfl
theorem tw_3_48 : Cond.static ⟨"SpecimenHall$Question", "mayAsk", "(II)Z"⟩ ∈ mT := tw3 48 (by decide +kernel) rfl
theorem tw_3_49 : Cond.code ⟨"SpecimenHall$Question", "mayAsk", "(II)Z"⟩ prog_6_method_2_code (2) (Option.some FieldType.boolean) ∈ mT := tw3 49 rfl rfl
theorem tw_3_50 : Cond.methodLink "SpecimenHall$Question" (22) ⟨"SpecimenHall$Specimen", "isMeasure", "(I)Z"⟩ ∈ mT := tw3 50 (by decide +kernel) rfl
theorem tw_3_51 : Cond.methodLink "SpecimenHall$Question" (28) ⟨"SpecimenHall$Codes", "isKindOrTrait", "(I)Z"⟩ ∈ mT := tw3 51 (by decide +kernel) rfl
theorem tw_3_52 : Cond.methodLink "SpecimenHall" (231) ⟨"SpecimenHall$Key", "mayTell", "(I)Z"⟩ ∈ mT := tw3 52 (by decide +kernel) rfl
theorem tw_3_53 : Cond.instanceMethod ⟨"SpecimenHall$Key", "mayTell", "(I)Z"⟩ ∈ mT := tw3 53 (by decide +kernel) rfl
theorem tw_3_54 : Cond.selects "SpecimenHall$Key" ⟨"SpecimenHall$Key", "mayTell", "(I)Z"⟩ ⟨"SpecimenHall$Key", "mayTell", "(I)Z"⟩ ∈ mT := tw3 54 (by decide +kernel) rfl
theorem tw_3_55 : Cond.code ⟨"SpecimenHall$Key", "mayTell", "(I)Z"⟩ prog_4_method_3_code (2) (Option.some FieldType.boolean) ∈ mT := tw3 55 rfl rfl
theorem tw_3_56 : Cond.methodLink "SpecimenHall$Key" (24) ⟨"SpecimenHall$Codes", "isKindOrTrait", "(I)Z"⟩ ∈ mT := tw3 56 (by decide +kernel) rfl
theorem tw_3_57 : Cond.classLink "SpecimenHall" (227) "SpecimenHall$Question" ∈ mT := tw3 57 (by decide +kernel) rfl
theorem tw_3_58 : Cond.instantiable "SpecimenHall$Question" (4) ∈ mT := tw3 58 (by decide +kernel) rfl
theorem tw_3_59 : Cond.methodLink "SpecimenHall" (234) ⟨"SpecimenHall$Question", "<init>", "(IIII)V"⟩ ∈ mT := tw3 59 (by decide +kernel) rfl
theorem tw_3_60 : Cond.instanceMethod ⟨"SpecimenHall$Question", "<init>", "(IIII)V"⟩ ∈ mT := tw3 60 (by decide +kernel) rfl
theorem tw_3_61 : Cond.code ⟨"SpecimenHall$Question", "<init>", "(IIII)V"⟩ prog_6_method_1_code (5) (Option.none : Option Jvm.ClassFile.FieldType) ∈ mT := tw3 61 rfl rfl
theorem tw_3_62 : Cond.methodLink "SpecimenHall$Question" (1) ⟨"java/lang/Object", "<init>", "()V"⟩ ∈ mT := tw3 62 (by decide +kernel) rfl
theorem tw_3_63 : Cond.fieldLink "SpecimenHall$Question" (7) "SpecimenHall$Question" "about" "I" ∈ mT := tw3 63 (by decide +kernel) rfl
theorem tw_3_64 : Cond.fieldLink "SpecimenHall$Question" (13) "SpecimenHall$Question" "number" "I" ∈ mT := tw3 64 (by decide +kernel) rfl
theorem tw_3_65 : Cond.fieldLink "SpecimenHall$Question" (16) "SpecimenHall$Question" "yes" "I" ∈ mT := tw3 65 (by decide +kernel) rfl
theorem tw_3_66 : Cond.fieldLink "SpecimenHall$Question" (19) "SpecimenHall$Question" "no" "I" ∈ mT := tw3 66 (by decide +kernel) rfl
theorem tw_3_76 : Cond.methodLink "SpecimenHall" (237) ⟨"SpecimenHall$Key", "add", "(LSpecimenHall$Question;)I"⟩ ∈ mT := tw3 76 (by decide +kernel) rfl
theorem tw_3_77 : Cond.instanceMethod ⟨"SpecimenHall$Key", "add", "(LSpecimenHall$Question;)I"⟩ ∈ mT := tw3 77 (by decide +kernel) rfl
theorem tw_3_78 : Cond.selects "SpecimenHall$Key" ⟨"SpecimenHall$Key", "add", "(LSpecimenHall$Question;)I"⟩ ⟨"SpecimenHall$Key", "add", "(LSpecimenHall$Question;)I"⟩ ∈ mT := tw3 78 (by decide +kernel) rfl
theorem tw_3_79 : Cond.code ⟨"SpecimenHall$Key", "add", "(LSpecimenHall$Question;)I"⟩ prog_4_method_4_code (2) (Option.some FieldType.int) ∈ mT := tw3 79 rfl rfl
theorem tw_3_80 : Cond.methodLink "SpecimenHall$Key" (30) ⟨"SpecimenHall$Key", "isFull", "()Z"⟩ ∈ mT := tw3 80 (by decide +kernel) rfl
theorem tw_3_81 : Cond.methodLink "SpecimenHallLaw" (99) ⟨"SpecimenHall", "name", "(II)I"⟩ ∈ mT := tw3 81 (by decide +kernel) rfl
theorem tw_3_82 : Cond.instanceMethod ⟨"SpecimenHall", "name", "(II)I"⟩ ∈ mT := tw3 82 (by decide +kernel) rfl
theorem tw_3_83 : Cond.selects "SpecimenHall" ⟨"SpecimenHall", "name", "(II)I"⟩ ⟨"SpecimenHall", "name", "(II)I"⟩ ∈ mT := tw3 83 (by decide +kernel) rfl
theorem tw_3_84 : Cond.code ⟨"SpecimenHall", "name", "(II)I"⟩ prog_1_method_22_code (6) (Option.some FieldType.int) ∈ mT := tw3 84 rfl rfl
theorem tw_3_85 : Cond.methodLink "SpecimenHall" (240) ⟨"SpecimenHall$Key", "nameOf", "(LSpecimenHall$Specimen;)I"⟩ ∈ mT := tw3 85 (by decide +kernel) rfl
theorem tw_3_86 : Cond.instanceMethod ⟨"SpecimenHall$Key", "nameOf", "(LSpecimenHall$Specimen;)I"⟩ ∈ mT := tw3 86 (by decide +kernel) rfl
theorem tw_3_87 : Cond.selects "SpecimenHall$Key" ⟨"SpecimenHall$Key", "nameOf", "(LSpecimenHall$Specimen;)I"⟩ ⟨"SpecimenHall$Key", "nameOf", "(LSpecimenHall$Specimen;)I"⟩ ∈ mT := tw3 87 (by decide +kernel) rfl
theorem tw_3_88 : Cond.code ⟨"SpecimenHall$Key", "nameOf", "(LSpecimenHall$Specimen;)I"⟩ prog_4_method_5_code (5) (Option.some FieldType.int) ∈ mT := tw3 88 rfl rfl
theorem tw_3_89 : Cond.methodLink "SpecimenHall$Key" (34) ⟨"SpecimenHall$Key", "questionAt", "(I)LSpecimenHall$Question;"⟩ ∈ mT := tw3 89 (by decide +kernel) rfl
theorem tw_3_91 : Cond.instanceMethod ⟨"SpecimenHall$Key", "questionAt", "(I)LSpecimenHall$Question;"⟩ ∈ mT := tw3 91 (by decide +kernel) rfl
theorem tw_3_92 : Cond.code ⟨"SpecimenHall$Key", "questionAt", "(I)LSpecimenHall$Question;"⟩ prog_4_method_6_code (2) (Option.some (FieldType.object "SpecimenHall$Question")) ∈ mT := tw3 92 rfl rfl
theorem tw_3_93 : Cond.methodLink "SpecimenHall$Key" (38) ⟨"SpecimenHall$Question", "tell", "(LSpecimenHall$Specimen;)I"⟩ ∈ mT := tw3 93 (by decide +kernel) rfl
theorem tw_3_94 : Cond.instanceMethod ⟨"SpecimenHall$Question", "tell", "(LSpecimenHall$Specimen;)I"⟩ ∈ mT := tw3 94 (by decide +kernel) rfl
theorem tw_3_95 : Cond.selects "SpecimenHall$Question" ⟨"SpecimenHall$Question", "tell", "(LSpecimenHall$Specimen;)I"⟩ ⟨"SpecimenHall$Question", "tell", "(LSpecimenHall$Specimen;)I"⟩ ∈ mT := tw3 95 (by decide +kernel) rfl
theorem tw_3_96 : Cond.code ⟨"SpecimenHall$Question", "tell", "(LSpecimenHall$Specimen;)I"⟩ prog_6_method_3_code (2) (Option.some FieldType.int) ∈ mT := tw3 96 rfl rfl
theorem tw_3_97 : Cond.methodLink "SpecimenHall$Question" (33) ⟨"SpecimenHall$Question", "holdsFor", "(LSpecimenHall$Specimen;)Z"⟩ ∈ mT := tw3 97 (by decide +kernel) rfl
theorem tw_3_99 : Cond.instanceMethod ⟨"SpecimenHall$Question", "holdsFor", "(LSpecimenHall$Specimen;)Z"⟩ ∈ mT := tw3 99 (by decide +kernel) rfl
theorem tw_3_100 : Cond.code ⟨"SpecimenHall$Question", "holdsFor", "(LSpecimenHall$Specimen;)Z"⟩ prog_6_method_4_code (2) (Option.some FieldType.boolean) ∈ mT := tw3 100 rfl rfl
theorem tw_3_101 : Cond.methodLink "SpecimenHall$Question" (46) ⟨"SpecimenHall$Codes", "standsUnder", "(II)Z"⟩ ∈ mT := tw3 101 (by decide +kernel) rfl
theorem tw_3_102 : Cond.methodLink "SpecimenHallLaw" (103) ⟨"SpecimenHall", "asked", "()I"⟩ ∈ mT := tw3 102 (by decide +kernel) rfl
theorem tw_3_103 : Cond.instanceMethod ⟨"SpecimenHall", "asked", "()I"⟩ ∈ mT := tw3 103 (by decide +kernel) rfl
theorem tw_3_104 : Cond.selects "SpecimenHall" ⟨"SpecimenHall", "asked", "()I"⟩ ⟨"SpecimenHall", "asked", "()I"⟩ ∈ mT := tw3 104 (by decide +kernel) rfl
theorem tw_3_105 : Cond.code ⟨"SpecimenHall", "asked", "()I"⟩ prog_1_method_23_code (1) (Option.some FieldType.int) ∈ mT := tw3 105 rfl rfl
theorem tw_3_106 : Cond.methodLink "SpecimenHallLaw" (108) ⟨"SpecimenHall", "convert", "(II)Z"⟩ ∈ mT := tw3 106 (by decide +kernel) rfl
theorem tw_3_107 : Cond.instanceMethod ⟨"SpecimenHall", "convert", "(II)Z"⟩ ∈ mT := tw3 107 (by decide +kernel) rfl
theorem tw_3_108 : Cond.selects "SpecimenHall" ⟨"SpecimenHall", "convert", "(II)Z"⟩ ⟨"SpecimenHall", "convert", "(II)Z"⟩ ∈ mT := tw3 108 (by decide +kernel) rfl
theorem tw_3_109 : Cond.code ⟨"SpecimenHall", "convert", "(II)Z"⟩ prog_1_method_24_code (4) (Option.some FieldType.boolean) ∈ mT := tw3 109 rfl rfl
theorem tw_3_110 : Cond.methodLink "SpecimenHall" (247) ⟨"SpecimenHall$Codes", "mayTurnInto", "(II)Z"⟩ ∈ mT := tw3 110 (by decide +kernel) rfl
theorem tw_3_111 : Cond.static ⟨"SpecimenHall$Codes", "mayTurnInto", "(II)Z"⟩ ∈ mT := tw3 111 (by decide +kernel) rfl
theorem tw_3_112 : Cond.code ⟨"SpecimenHall$Codes", "mayTurnInto", "(II)Z"⟩ prog_3_method_15_code (2) (Option.some FieldType.boolean) ∈ mT := tw3 112 rfl rfl
theorem tw_3_113 : Cond.methodLink "SpecimenHall$Codes" (44) ⟨"SpecimenHall$Codes", "sharedTraits", "(II)J"⟩ ∈ mT := tw3 113 (by decide +kernel) rfl
theorem tw_3_114 : Cond.constantLong "SpecimenHall$Codes" (48) (-1099511627777) ∈ mT := tw3 114 (by decide +kernel) rfl
theorem tw_3_115 : Cond.methodLink "SpecimenHall" (251) ⟨"SpecimenHall", "leaveShelf", "(LSpecimenHall$Specimen;)Z"⟩ ∈ mT := tw3 115 (by decide +kernel) rfl
theorem tw_3_116 : Cond.static ⟨"SpecimenHall", "leaveShelf", "(LSpecimenHall$Specimen;)Z"⟩ ∈ mT := tw3 116 (by decide +kernel) rfl
theorem tw_3_117 : Cond.code ⟨"SpecimenHall", "leaveShelf", "(LSpecimenHall$Specimen;)Z"⟩ prog_1_method_36_code (1) (Option.some FieldType.boolean) ∈ mT := tw3 117 rfl rfl
theorem tw_3_118 : Cond.methodLink "SpecimenHall" (301) ⟨"SpecimenHall$Shelf", "remove", "(LSpecimenHall$Specimen;)V"⟩ ∈ mT := tw3 118 (by decide +kernel) rfl
theorem tw_3_119 : Cond.instanceMethod ⟨"SpecimenHall$Shelf", "remove", "(LSpecimenHall$Specimen;)V"⟩ ∈ mT := tw3 119 (by decide +kernel) rfl
theorem tw_3_120 : Cond.selects "SpecimenHall$Shelf" ⟨"SpecimenHall$Shelf", "remove", "(LSpecimenHall$Specimen;)V"⟩ ⟨"SpecimenHall$Shelf", "remove", "(LSpecimenHall$Specimen;)V"⟩ ∈ mT := tw3 120 (by decide +kernel) rfl
theorem tw_3_121 : Cond.code ⟨"SpecimenHall$Shelf", "remove", "(LSpecimenHall$Specimen;)V"⟩ prog_8_method_4_code (2) (Option.none : Option Jvm.ClassFile.FieldType) ∈ mT := tw3 121 rfl rfl
theorem tw_3_122 : Cond.methodLink "SpecimenHallLaw" (112) ⟨"SpecimenHall", "find", "(III)I"⟩ ∈ mT := tw3 122 (by decide +kernel) rfl
theorem tw_3_123 : Cond.instanceMethod ⟨"SpecimenHall", "find", "(III)I"⟩ ∈ mT := tw3 123 (by decide +kernel) rfl
theorem tw_3_124 : Cond.selects "SpecimenHall" ⟨"SpecimenHall", "find", "(III)I"⟩ ⟨"SpecimenHall", "find", "(III)I"⟩ ∈ mT := tw3 124 (by decide +kernel) rfl
theorem tw_3_125 : Cond.code ⟨"SpecimenHall", "find", "(III)I"⟩ prog_1_method_25_code (4) (Option.some FieldType.int) ∈ mT := tw3 125 rfl rfl
theorem tw_3_126 : Cond.methodLink "SpecimenHall" (254) ⟨"SpecimenHall$Codes", "isKindOrTrait", "(I)Z"⟩ ∈ mT := tw3 126 (by decide +kernel) rfl
theorem tw_3_127 : Cond.methodLink "SpecimenHall" (257) ⟨"SpecimenHall$Stock", "countOf", "(III)I"⟩ ∈ mT := tw3 127 (by decide +kernel) rfl
theorem tw_3_128 : Cond.instanceMethod ⟨"SpecimenHall$Stock", "countOf", "(III)I"⟩ ∈ mT := tw3 128 (by decide +kernel) rfl
theorem tw_3_129 : Cond.selects "SpecimenHall$Stock" ⟨"SpecimenHall$Stock", "countOf", "(III)I"⟩ ⟨"SpecimenHall$Stock", "countOf", "(III)I"⟩ ∈ mT := tw3 129 (by decide +kernel) rfl
theorem tw_3_130 : Cond.code ⟨"SpecimenHall$Stock", "countOf", "(III)I"⟩ prog_10_method_5_code (7) (Option.some FieldType.int) ∈ mT := tw3 130 rfl rfl
theorem tw_3_131 : Cond.methodLink "SpecimenHall$Stock" (40) ⟨"SpecimenHall$Codes", "standsUnder", "(II)Z"⟩ ∈ mT := tw3 131 (by decide +kernel) rfl
theorem tw_3_132 : Cond.methodLink "SpecimenHallLaw" (116) ⟨"SpecimenHall", "nth", "(II)I"⟩ ∈ mT := tw3 132 (by decide +kernel) rfl
theorem tw_3_133 : Cond.instanceMethod ⟨"SpecimenHall", "nth", "(II)I"⟩ ∈ mT := tw3 133 (by decide +kernel) rfl
theorem tw_3_134 : Cond.selects "SpecimenHall" ⟨"SpecimenHall", "nth", "(II)I"⟩ ⟨"SpecimenHall", "nth", "(II)I"⟩ ∈ mT := tw3 134 (by decide +kernel) rfl
theorem tw_3_135 : Cond.code ⟨"SpecimenHall", "nth", "(II)I"⟩ prog_1_method_26_code (3) (Option.some FieldType.int) ∈ mT := tw3 135 rfl rfl
theorem tw_3_136 : Cond.methodLink "SpecimenHall" (260) ⟨"SpecimenHall$Stock", "numberOf", "(II)I"⟩ ∈ mT := tw3 136 (by decide +kernel) rfl
theorem tw_3_137 : Cond.instanceMethod ⟨"SpecimenHall$Stock", "numberOf", "(II)I"⟩ ∈ mT := tw3 137 (by decide +kernel) rfl
theorem tw_3_138 : Cond.selects "SpecimenHall$Stock" ⟨"SpecimenHall$Stock", "numberOf", "(II)I"⟩ ⟨"SpecimenHall$Stock", "numberOf", "(II)I"⟩ ∈ mT := tw3 138 (by decide +kernel) rfl
theorem tw_3_139 : Cond.code ⟨"SpecimenHall$Stock", "numberOf", "(II)I"⟩ prog_10_method_6_code (6) (Option.some FieldType.int) ∈ mT := tw3 139 rfl rfl
theorem tw_3_140 : Cond.methodLink "SpecimenHallLaw" (120) ⟨"SpecimenHall", "shelf", "(III)Z"⟩ ∈ mT := tw3 140 (by decide +kernel) rfl
theorem tw_3_141 : Cond.instanceMethod ⟨"SpecimenHall", "shelf", "(III)Z"⟩ ∈ mT := tw3 141 (by decide +kernel) rfl
theorem tw_3_142 : Cond.selects "SpecimenHall" ⟨"SpecimenHall", "shelf", "(III)Z"⟩ ⟨"SpecimenHall", "shelf", "(III)Z"⟩ ∈ mT := tw3 142 (by decide +kernel) rfl
theorem tw_3_143 : Cond.code ⟨"SpecimenHall", "shelf", "(III)Z"⟩ prog_1_method_27_code (5) (Option.some FieldType.boolean) ∈ mT := tw3 143 rfl rfl
theorem tw_3_144 : Cond.methodLink "SpecimenHall" (263) ⟨"SpecimenHall", "shelfAt", "(I)LSpecimenHall$Shelf;"⟩ ∈ mT := tw3 144 (by decide +kernel) rfl
theorem tw_3_146 : Cond.instanceMethod ⟨"SpecimenHall", "shelfAt", "(I)LSpecimenHall$Shelf;"⟩ ∈ mT := tw3 146 (by decide +kernel) rfl
theorem tw_3_147 : Cond.code ⟨"SpecimenHall", "shelfAt", "(I)LSpecimenHall$Shelf;"⟩ prog_1_method_31_code (2) (Option.some (FieldType.object "SpecimenHall$Shelf")) ∈ mT := tw3 147 rfl rfl
theorem tw_3_148 : Cond.constant "SpecimenHall" (270) (1000000) ∈ mT := tw3 148 (by decide +kernel) rfl
theorem tw_3_149 : Cond.methodLink "SpecimenHallLaw" (124) ⟨"SpecimenHall", "move", "(II)Z"⟩ ∈ mT := tw3 149 (by decide +kernel) rfl
theorem tw_3_150 : Cond.instanceMethod ⟨"SpecimenHall", "move", "(II)Z"⟩ ∈ mT := tw3 150 (by decide +kernel) rfl
theorem tw_3_151 : Cond.selects "SpecimenHall" ⟨"SpecimenHall", "move", "(II)Z"⟩ ⟨"SpecimenHall", "move", "(II)Z"⟩ ∈ mT := tw3 151 (by decide +kernel) rfl
theorem tw_3_152 : Cond.code ⟨"SpecimenHall", "move", "(II)Z"⟩ prog_1_method_28_code (5) (Option.some FieldType.boolean) ∈ mT := tw3 152 rfl rfl
theorem tw_3_153 : Cond.methodLink "SpecimenHall" (274) ⟨"SpecimenHall$Shelf", "hasRoomFor", "(LSpecimenHall$Specimen;)Z"⟩ ∈ mT := tw3 153 (by decide +kernel) rfl
theorem tw_3_154 : Cond.instanceMethod ⟨"SpecimenHall$Shelf", "hasRoomFor", "(LSpecimenHall$Specimen;)Z"⟩ ∈ mT := tw3 154 (by decide +kernel) rfl
theorem tw_3_155 : Cond.selects "SpecimenHall$Shelf" ⟨"SpecimenHall$Shelf", "hasRoomFor", "(LSpecimenHall$Specimen;)Z"⟩ ⟨"SpecimenHall$Shelf", "hasRoomFor", "(LSpecimenHall$Specimen;)Z"⟩ ∈ mT := tw3 155 (by decide +kernel) rfl
theorem tw_3_156 : Cond.code ⟨"SpecimenHall$Shelf", "hasRoomFor", "(LSpecimenHall$Specimen;)Z"⟩ prog_8_method_2_code (2) (Option.some FieldType.boolean) ∈ mT := tw3 156 rfl rfl
theorem tw_3_157 : Cond.methodLink "SpecimenHall" (277) ⟨"SpecimenHall$Shelf", "add", "(LSpecimenHall$Specimen;)V"⟩ ∈ mT := tw3 157 (by decide +kernel) rfl
theorem tw_3_158 : Cond.instanceMethod ⟨"SpecimenHall$Shelf", "add", "(LSpecimenHall$Specimen;)V"⟩ ∈ mT := tw3 158 (by decide +kernel) rfl
theorem tw_3_159 : Cond.selects "SpecimenHall$Shelf" ⟨"SpecimenHall$Shelf", "add", "(LSpecimenHall$Specimen;)V"⟩ ⟨"SpecimenHall$Shelf", "add", "(LSpecimenHall$Specimen;)V"⟩ ∈ mT := tw3 159 (by decide +kernel) rfl
theorem tw_3_160 : Cond.code ⟨"SpecimenHall$Shelf", "add", "(LSpecimenHall$Specimen;)V"⟩ prog_8_method_3_code (2) (Option.none : Option Jvm.ClassFile.FieldType) ∈ mT := tw3 160 rfl rfl
theorem tw_3_161 : Cond.methodLink "SpecimenHallLaw" (128) ⟨"SpecimenHall", "count", "(I)I"⟩ ∈ mT := tw3 161 (by decide +kernel) rfl
theorem tw_3_162 : Cond.instanceMethod ⟨"SpecimenHall", "count", "(I)I"⟩ ∈ mT := tw3 162 (by decide +kernel) rfl
theorem tw_3_163 : Cond.selects "SpecimenHall" ⟨"SpecimenHall", "count", "(I)I"⟩ ⟨"SpecimenHall", "count", "(I)I"⟩ ∈ mT := tw3 163 (by decide +kernel) rfl
theorem tw_3_164 : Cond.code ⟨"SpecimenHall", "count", "(I)I"⟩ prog_1_method_29_code (2) (Option.some FieldType.int) ∈ mT := tw3 164 rfl rfl
theorem tw_3_165 : Cond.methodLink "SpecimenHall" (282) ⟨"SpecimenHall$Rules", "size", "()I"⟩ ∈ mT := tw3 165 (by decide +kernel) rfl
theorem tw_3_166 : Cond.instanceMethod ⟨"SpecimenHall$Rules", "size", "()I"⟩ ∈ mT := tw3 166 (by decide +kernel) rfl
theorem tw_3_167 : Cond.selects "SpecimenHall$Rules" ⟨"SpecimenHall$Rules", "size", "()I"⟩ ⟨"SpecimenHall$Rules", "size", "()I"⟩ ∈ mT := tw3 167 (by decide +kernel) rfl
theorem tw_3_168 : Cond.code ⟨"SpecimenHall$Rules", "size", "()I"⟩ prog_7_method_5_code (3) (Option.some FieldType.int) ∈ mT := tw3 168 rfl rfl
theorem tw_3_169 : Cond.methodLink "SpecimenHall$Rules" (37) ⟨"java/lang/Long", "bitCount", "(J)I"⟩ ∈ mT := tw3 169 (by decide +kernel) rfl
theorem tw_3_170 : Cond.static ⟨"java/lang/Long", "bitCount", "(J)I"⟩ ∈ mT := tw3 170 (by decide +kernel) rfl
theorem tw_3_171 : Cond.code ⟨"java/lang/Long", "bitCount", "(J)I"⟩ prog_13_method_50_code (2) (Option.some FieldType.int) ∈ mT := tw3 171 rfl rfl
theorem tw_3_172 : Cond.constantLong "java/lang/Long" (314) (6148914691236517205) ∈ mT := tw3 172 (by decide +kernel) rfl
theorem tw_3_173 : Cond.constantLong "java/lang/Long" (316) (3689348814741910323) ∈ mT := tw3 173 (by decide +kernel) rfl
theorem tw_3_174 : Cond.constantLong "java/lang/Long" (318) (1085102592571150095) ∈ mT := tw3 174 (by decide +kernel) rfl
theorem tw_3_175 : Cond.methodLink "SpecimenHall" (291) ⟨"SpecimenHall$Stock", "countInBoxes", "()I"⟩ ∈ mT := tw3 175 (by decide +kernel) rfl
theorem tw_3_176 : Cond.instanceMethod ⟨"SpecimenHall$Stock", "countInBoxes", "()I"⟩ ∈ mT := tw3 176 (by decide +kernel) rfl
theorem tw_3_177 : Cond.selects "SpecimenHall$Stock" ⟨"SpecimenHall$Stock", "countInBoxes", "()I"⟩ ⟨"SpecimenHall$Stock", "countInBoxes", "()I"⟩ ∈ mT := tw3 177 (by decide +kernel) rfl
theorem tw_3_178 : Cond.code ⟨"SpecimenHall$Stock", "countInBoxes", "()I"⟩ prog_10_method_7_code (4) (Option.some FieldType.int) ∈ mT := tw3 178 rfl rfl
theorem tw_3_179 : Cond.methodLink "SpecimenHall" (294) ⟨"SpecimenHall", "onShelves", "()I"⟩ ∈ mT := tw3 179 (by decide +kernel) rfl
theorem tw_3_181 : Cond.instanceMethod ⟨"SpecimenHall", "onShelves", "()I"⟩ ∈ mT := tw3 181 (by decide +kernel) rfl
theorem tw_3_182 : Cond.code ⟨"SpecimenHall", "onShelves", "()I"⟩ prog_1_method_34_code (4) (Option.some FieldType.int) ∈ mT := tw3 182 rfl rfl
theorem tw_3_183 : Cond.methodLink "SpecimenHall" (297) ⟨"SpecimenHall$Loans", "chargedToAll", "()I"⟩ ∈ mT := tw3 183 (by decide +kernel) rfl
theorem tw_3_184 : Cond.instanceMethod ⟨"SpecimenHall$Loans", "chargedToAll", "()I"⟩ ∈ mT := tw3 184 (by decide +kernel) rfl
theorem tw_3_185 : Cond.selects "SpecimenHall$Loans" ⟨"SpecimenHall$Loans", "chargedToAll", "()I"⟩ ⟨"SpecimenHall$Loans", "chargedToAll", "()I"⟩ ∈ mT := tw3 185 (by decide +kernel) rfl
theorem tw_3_186 : Cond.code ⟨"SpecimenHall$Loans", "chargedToAll", "()I"⟩ prog_5_method_12_code (3) (Option.some FieldType.int) ∈ mT := tw3 186 rfl rfl
theorem tw_3_187 : Cond.classLink "SpecimenHallLaw" (10) "SpecimenHallModel" ∈ mT := tw3 187 (by decide +kernel) rfl
theorem tw_3_188 : Cond.instantiable "SpecimenHallModel" (30) ∈ mT := tw3 188 (by decide +kernel) rfl
theorem tw_3_189 : Cond.methodLink "SpecimenHallLaw" (12) ⟨"SpecimenHallModel", "<init>", "()V"⟩ ∈ mT := tw3 189 (by decide +kernel) rfl
theorem tw_3_190 : Cond.instanceMethod ⟨"SpecimenHallModel", "<init>", "()V"⟩ ∈ mT := tw3 190 (by decide +kernel) rfl
theorem tw_3_191 : Cond.code ⟨"SpecimenHallModel", "<init>", "()V"⟩ prog_12_method_1_code (2) (Option.none : Option Jvm.ClassFile.FieldType) ∈ mT := tw3 191 rfl rfl
theorem tw_3_192 : Cond.methodLink "SpecimenHallModel" (1) ⟨"java/lang/Object", "<init>", "()V"⟩ ∈ mT := tw3 192 (by decide +kernel) rfl
theorem tw_3_193 : Cond.fieldLink "SpecimenHallModel" (7) "SpecimenHallModel" "parent" "[I" ∈ mT := tw3 193 (by decide +kernel) rfl
theorem tw_3_194 : Cond.fieldLink "SpecimenHallModel" (13) "SpecimenHallModel" "abstracts" "[I" ∈ mT := tw3 194 (by decide +kernel) rfl
theorem tw_3_195 : Cond.fieldLink "SpecimenHallModel" (16) "SpecimenHallModel" "names" "[I" ∈ mT := tw3 195 (by decide +kernel) rfl
theorem tw_3_196 : Cond.fieldLink "SpecimenHallModel" (19) "SpecimenHallModel" "extending" "[I" ∈ mT := tw3 196 (by decide +kernel) rfl
theorem tw_3_197 : Cond.fieldLink "SpecimenHallModel" (22) "SpecimenHallModel" "highest" "[I" ∈ mT := tw3 197 (by decide +kernel) rfl
theorem tw_3_198 : Cond.fieldLink "SpecimenHallModel" (25) "SpecimenHallModel" "rules" "[I" ∈ mT := tw3 198 (by decide +kernel) rfl
theorem tw_3_199 : Cond.fieldLink "SpecimenHallModel" (99) "SpecimenHallModel" "specimens" "I" ∈ mT := tw3 199 (by decide +kernel) rfl
theorem tw_3_200 : Cond.fieldLink "SpecimenHallModel" (28) "SpecimenHallModel" "kind" "[I" ∈ mT := tw3 200 (by decide +kernel) rfl
theorem tw_3_201 : Cond.fieldLink "SpecimenHallModel" (31) "SpecimenHallModel" "length" "[I" ∈ mT := tw3 201 (by decide +kernel) rfl
theorem tw_3_202 : Cond.fieldLink "SpecimenHallModel" (34) "SpecimenHallModel" "weight" "[I" ∈ mT := tw3 202 (by decide +kernel) rfl
theorem tw_3_203 : Cond.fieldLink "SpecimenHallModel" (37) "SpecimenHallModel" "box" "[I" ∈ mT := tw3 203 (by decide +kernel) rfl
theorem tw_3_204 : Cond.fieldLink "SpecimenHallModel" (40) "SpecimenHallModel" "place" "[I" ∈ mT := tw3 204 (by decide +kernel) rfl
theorem tw_3_205 : Cond.fieldLink "SpecimenHallModel" (43) "SpecimenHallModel" "shelf" "[I" ∈ mT := tw3 205 (by decide +kernel) rfl
theorem tw_3_206 : Cond.fieldLink "SpecimenHallModel" (46) "SpecimenHallModel" "borrower" "[I" ∈ mT := tw3 206 (by decide +kernel) rfl
theorem tw_3_207 : Cond.fieldLink "SpecimenHallModel" (49) "SpecimenHallModel" "lentOn" "[I" ∈ mT := tw3 207 (by decide +kernel) rfl
theorem tw_3_208 : Cond.fieldLink "SpecimenHallModel" (52) "SpecimenHallModel" "term" "[I" ∈ mT := tw3 208 (by decide +kernel) rfl
theorem tw_3_209 : Cond.fieldLink "SpecimenHallModel" (55) "SpecimenHallModel" "fee" "[I" ∈ mT := tw3 209 (by decide +kernel) rfl
theorem tw_3_210 : Cond.fieldLink "SpecimenHallModel" (124) "SpecimenHallModel" "cases" "I" ∈ mT := tw3 210 (by decide +kernel) rfl
theorem tw_3_211 : Cond.fieldLink "SpecimenHallModel" (58) "SpecimenHallModel" "caseKind" "[I" ∈ mT := tw3 211 (by decide +kernel) rfl
theorem tw_3_212 : Cond.fieldLink "SpecimenHallModel" (61) "SpecimenHallModel" "caseSize" "[I" ∈ mT := tw3 212 (by decide +kernel) rfl
theorem tw_3_213 : Cond.fieldLink "SpecimenHallModel" (64) "SpecimenHallModel" "shelfKind" "[I" ∈ mT := tw3 213 (by decide +kernel) rfl
theorem tw_3_214 : Cond.fieldLink "SpecimenHallModel" (67) "SpecimenHallModel" "shelfRoom" "[I" ∈ mT := tw3 214 (by decide +kernel) rfl
theorem tw_3_215 : Cond.fieldLink "SpecimenHallModel" (70) "SpecimenHallModel" "charged" "[I" ∈ mT := tw3 215 (by decide +kernel) rfl
theorem tw_3_216 : Cond.fieldLink "SpecimenHallModel" (152) "SpecimenHallModel" "loans" "I" ∈ mT := tw3 216 (by decide +kernel) rfl
theorem tw_3_217 : Cond.fieldLink "SpecimenHallModel" (73) "SpecimenHallModel" "questions" "[I" ∈ mT := tw3 217 (by decide +kernel) rfl
theorem tw_3_218 : Cond.fieldLink "SpecimenHallModel" (76) "SpecimenHallModel" "qAsked" "[I" ∈ mT := tw3 218 (by decide +kernel) rfl
theorem tw_3_219 : Cond.fieldLink "SpecimenHallModel" (79) "SpecimenHallModel" "qNumber" "[I" ∈ mT := tw3 219 (by decide +kernel) rfl
theorem tw_3_220 : Cond.fieldLink "SpecimenHallModel" (82) "SpecimenHallModel" "qYes" "[I" ∈ mT := tw3 220 (by decide +kernel) rfl
theorem tw_3_221 : Cond.fieldLink "SpecimenHallModel" (85) "SpecimenHallModel" "qNo" "[I" ∈ mT := tw3 221 (by decide +kernel) rfl
theorem tw_3_222 : Cond.fieldLink "SpecimenHallModel" (175) "SpecimenHallModel" "asked" "I" ∈ mT := tw3 222 (by decide +kernel) rfl
theorem tw_4_44 : Cond.methodLink "SpecimenHallLaw" (43) ⟨"SpecimenHallModel", "below", "(II)Z"⟩ ∈ mT := tw4 44 (by decide +kernel) rfl
theorem tw_4_45 : Cond.instanceMethod ⟨"SpecimenHallModel", "below", "(II)Z"⟩ ∈ mT := tw4 45 (by decide +kernel) rfl
theorem tw_4_46 : Cond.selects "SpecimenHallModel" ⟨"SpecimenHallModel", "below", "(II)Z"⟩ ⟨"SpecimenHallModel", "below", "(II)Z"⟩ ∈ mT := tw4 46 (by decide +kernel) rfl
theorem tw_4_47 : Cond.code ⟨"SpecimenHallModel", "below", "(II)Z"⟩ prog_12_method_11_code (3) (Option.some FieldType.boolean) ∈ mT := tw4 47 rfl rfl
theorem tw_4_48 : Cond.methodLink "SpecimenHallModel" (111) ⟨"SpecimenHallModel", "isCode", "(I)Z"⟩ ∈ mT := tw4 48 (by decide +kernel) rfl
theorem tw_4_49 : Cond.static ⟨"SpecimenHallModel", "isCode", "(I)Z"⟩ ∈ mT := tw4 49 (by decide +kernel) rfl
theorem tw_4_50 : Cond.code ⟨"SpecimenHallModel", "isCode", "(I)Z"⟩ prog_12_method_5_code (1) (Option.some FieldType.boolean) ∈ mT := tw4 50 rfl rfl
theorem tw_4_51 : Cond.methodLink "SpecimenHallModel" (92) ⟨"SpecimenHallModel", "isKind", "(I)Z"⟩ ∈ mT := tw4 51 (by decide +kernel) rfl
theorem tw_4_52 : Cond.static ⟨"SpecimenHallModel", "isKind", "(I)Z"⟩ ∈ mT := tw4 52 (by decide +kernel) rfl
theorem tw_4_53 : Cond.code ⟨"SpecimenHallModel", "isKind", "(I)Z"⟩ prog_12_method_3_code (1) (Option.some FieldType.boolean) ∈ mT := tw4 53 rfl rfl
theorem tw_4_54 : Cond.methodLink "SpecimenHallModel" (88) ⟨"SpecimenHallModel", "in", "(III)Z"⟩ ∈ mT := tw4 54 (by decide +kernel) rfl
theorem tw_4_55 : Cond.static ⟨"SpecimenHallModel", "in", "(III)Z"⟩ ∈ mT := tw4 55 (by decide +kernel) rfl
theorem tw_4_56 : Cond.code ⟨"SpecimenHallModel", "in", "(III)Z"⟩ prog_12_method_2_code (3) (Option.some FieldType.boolean) ∈ mT := tw4 56 rfl rfl
theorem tw_4_57 : Cond.methodLink "SpecimenHallModel" (96) ⟨"SpecimenHallModel", "isTrait", "(I)Z"⟩ ∈ mT := tw4 57 (by decide +kernel) rfl
theorem tw_4_58 : Cond.static ⟨"SpecimenHallModel", "isTrait", "(I)Z"⟩ ∈ mT := tw4 58 (by decide +kernel) rfl
theorem tw_4_59 : Cond.code ⟨"SpecimenHallModel", "isTrait", "(I)Z"⟩ prog_12_method_4_code (1) (Option.some FieldType.boolean) ∈ mT := tw4 59 rfl rfl
theorem tw_4_60 : Cond.methodLink "SpecimenHallModel" (114) ⟨"SpecimenHallModel", "above", "(II)Z"⟩ ∈ mT := tw4 60 (by decide +kernel) rfl
theorem tw_4_62 : Cond.instanceMethod ⟨"SpecimenHallModel", "above", "(II)Z"⟩ ∈ mT := tw4 62 (by decide +kernel) rfl
theorem tw_4_63 : Cond.code ⟨"SpecimenHallModel", "above", "(II)Z"⟩ prog_12_method_10_code (3) (Option.some FieldType.boolean) ∈ mT := tw4 63 rfl rfl
theorem tw_4_64 : Cond.methodLink "SpecimenHallModel" (107) ⟨"SpecimenHallModel", "stepsTo", "(II)I"⟩ ∈ mT := tw4 64 (by decide +kernel) rfl
theorem tw_4_66 : Cond.instanceMethod ⟨"SpecimenHallModel", "stepsTo", "(II)I"⟩ ∈ mT := tw4 66 (by decide +kernel) rfl
theorem tw_4_67 : Cond.code ⟨"SpecimenHallModel", "stepsTo", "(II)I"⟩ prog_12_method_9_code (6) (Option.some FieldType.int) ∈ mT := tw4 67 rfl rfl
theorem tw_4_68 : Cond.methodLink "SpecimenHallModel" (103) ⟨"SpecimenHallModel", "traitAbove", "(II)Z"⟩ ∈ mT := tw4 68 (by decide +kernel) rfl
theorem tw_4_70 : Cond.instanceMethod ⟨"SpecimenHallModel", "traitAbove", "(II)Z"⟩ ∈ mT := tw4 70 (by decide +kernel) rfl
theorem tw_4_71 : Cond.code ⟨"SpecimenHallModel", "traitAbove", "(II)Z"⟩ prog_12_method_8_code (7) (Option.some FieldType.boolean) ∈ mT := tw4 71 rfl rfl
theorem tw_4_72 : Cond.methodLink "SpecimenHallLaw" (47) ⟨"SpecimenHallModel", "steps", "(II)I"⟩ ∈ mT := tw4 72 (by decide +kernel) rfl
theorem tw_4_73 : Cond.instanceMethod ⟨"SpecimenHallModel", "steps", "(II)I"⟩ ∈ mT := tw4 73 (by decide +kernel) rfl
theorem tw_4_74 : Cond.selects "SpecimenHallModel" ⟨"SpecimenHallModel", "steps", "(II)I"⟩ ⟨"SpecimenHallModel", "steps", "(II)I"⟩ ∈ mT := tw4 74 (by decide +kernel) rfl
theorem tw_4_75 : Cond.code ⟨"SpecimenHallModel", "steps", "(II)I"⟩ prog_12_method_12_code (3) (Option.some FieldType.int) ∈ mT := tw4 75 rfl rfl
theorem tw_4_76 : Cond.methodLink "SpecimenHallLaw" (51) ⟨"SpecimenHallModel", "common", "(II)I"⟩ ∈ mT := tw4 76 (by decide +kernel) rfl
theorem tw_4_77 : Cond.instanceMethod ⟨"SpecimenHallModel", "common", "(II)I"⟩ ∈ mT := tw4 77 (by decide +kernel) rfl
theorem tw_4_78 : Cond.selects "SpecimenHallModel" ⟨"SpecimenHallModel", "common", "(II)I"⟩ ⟨"SpecimenHallModel", "common", "(II)I"⟩ ∈ mT := tw4 78 (by decide +kernel) rfl
theorem tw_4_79 : Cond.code ⟨"SpecimenHallModel", "common", "(II)I"⟩ prog_12_method_13_code (4) (Option.some FieldType.int) ∈ mT := tw4 79 rfl rfl
theorem tw_4_80 : Cond.methodLink "SpecimenHallLaw" (55) ⟨"SpecimenHallModel", "commonTrait", "(III)I"⟩ ∈ mT := tw4 80 (by decide +kernel) rfl
theorem tw_4_81 : Cond.instanceMethod ⟨"SpecimenHallModel", "commonTrait", "(III)I"⟩ ∈ mT := tw4 81 (by decide +kernel) rfl
theorem tw_4_82 : Cond.selects "SpecimenHallModel" ⟨"SpecimenHallModel", "commonTrait", "(III)I"⟩ ⟨"SpecimenHallModel", "commonTrait", "(III)I"⟩ ∈ mT := tw4 82 (by decide +kernel) rfl
theorem tw_4_83 : Cond.code ⟨"SpecimenHallModel", "commonTrait", "(III)I"⟩ prog_12_method_15_code (8) (Option.some FieldType.int) ∈ mT := tw4 83 rfl rfl
theorem tw_4_84 : Cond.methodLink "SpecimenHallModel" (117) ⟨"SpecimenHallModel", "isShared", "(III)Z"⟩ ∈ mT := tw4 84 (by decide +kernel) rfl
theorem tw_4_86 : Cond.instanceMethod ⟨"SpecimenHallModel", "isShared", "(III)Z"⟩ ∈ mT := tw4 86 (by decide +kernel) rfl
theorem tw_4_87 : Cond.code ⟨"SpecimenHallModel", "isShared", "(III)Z"⟩ prog_12_method_14_code (4) (Option.some FieldType.boolean) ∈ mT := tw4 87 rfl rfl
theorem tw_4_88 : Cond.methodLink "SpecimenHallLaw" (17) ⟨"SpecimenHallModel", "make", "(III)I"⟩ ∈ mT := tw4 88 (by decide +kernel) rfl
theorem tw_4_89 : Cond.instanceMethod ⟨"SpecimenHallModel", "make", "(III)I"⟩ ∈ mT := tw4 89 (by decide +kernel) rfl
theorem tw_4_90 : Cond.selects "SpecimenHallModel" ⟨"SpecimenHallModel", "make", "(III)I"⟩ ⟨"SpecimenHallModel", "make", "(III)I"⟩ ∈ mT := tw4 90 (by decide +kernel) rfl
theorem tw_4_91 : Cond.code ⟨"SpecimenHallModel", "make", "(III)I"⟩ prog_12_method_16_code (5) (Option.some FieldType.int) ∈ mT := tw4 91 rfl rfl
theorem tw_4_92 : Cond.methodLink "SpecimenHallModel" (120) ⟨"SpecimenHallModel", "isAbstract", "(I)Z"⟩ ∈ mT := tw4 92 (by decide +kernel) rfl
theorem tw_4_94 : Cond.instanceMethod ⟨"SpecimenHallModel", "isAbstract", "(I)Z"⟩ ∈ mT := tw4 94 (by decide +kernel) rfl
theorem tw_4_95 : Cond.code ⟨"SpecimenHallModel", "isAbstract", "(I)Z"⟩ prog_12_method_7_code (4) (Option.some FieldType.boolean) ∈ mT := tw4 95 rfl rfl
theorem tw_4_96 : Cond.constant "SpecimenHallModel" (123) (100000) ∈ mT := tw4 96 (by decide +kernel) rfl
theorem tw_4_97 : Cond.methodLink "SpecimenHallLaw" (22) ⟨"SpecimenHallModel", "caseOf", "(II)I"⟩ ∈ mT := tw4 97 (by decide +kernel) rfl
theorem tw_4_98 : Cond.instanceMethod ⟨"SpecimenHallModel", "caseOf", "(II)I"⟩ ∈ mT := tw4 98 (by decide +kernel) rfl
theorem tw_4_99 : Cond.selects "SpecimenHallModel" ⟨"SpecimenHallModel", "caseOf", "(II)I"⟩ ⟨"SpecimenHallModel", "caseOf", "(II)I"⟩ ∈ mT := tw4 99 (by decide +kernel) rfl
theorem tw_4_100 : Cond.code ⟨"SpecimenHallModel", "caseOf", "(II)I"⟩ prog_12_method_17_code (3) (Option.some FieldType.int) ∈ mT := tw4 100 rfl rfl
theorem tw_4_101 : Cond.methodLink "SpecimenHallLaw" (34) ⟨"SpecimenHallModel", "placed", "(II)I"⟩ ∈ mT := tw4 101 (by decide +kernel) rfl
theorem tw_4_102 : Cond.instanceMethod ⟨"SpecimenHallModel", "placed", "(II)I"⟩ ∈ mT := tw4 102 (by decide +kernel) rfl
theorem tw_4_103 : Cond.selects "SpecimenHallModel" ⟨"SpecimenHallModel", "placed", "(II)I"⟩ ⟨"SpecimenHallModel", "placed", "(II)I"⟩ ∈ mT := tw4 103 (by decide +kernel) rfl
theorem tw_4_104 : Cond.code ⟨"SpecimenHallModel", "placed", "(II)I"⟩ prog_12_method_19_code (4) (Option.some FieldType.int) ∈ mT := tw4 104 rfl rfl
theorem tw_4_105 : Cond.methodLink "SpecimenHallModel" (127) ⟨"SpecimenHallModel", "isPlace", "(II)Z"⟩ ∈ mT := tw4 105 (by decide +kernel) rfl
theorem tw_4_107 : Cond.instanceMethod ⟨"SpecimenHallModel", "isPlace", "(II)Z"⟩ ∈ mT := tw4 107 (by decide +kernel) rfl
theorem tw_4_108 : Cond.code ⟨"SpecimenHallModel", "isPlace", "(II)Z"⟩ prog_12_method_18_code (3) (Option.some FieldType.boolean) ∈ mT := tw4 108 rfl rfl
theorem tw_4_109 : Cond.methodLink "SpecimenHallLaw" (26) ⟨"SpecimenHallModel", "putIn", "(III)I"⟩ ∈ mT := tw4 109 (by decide +kernel) rfl
theorem tw_4_110 : Cond.instanceMethod ⟨"SpecimenHallModel", "putIn", "(III)I"⟩ ∈ mT := tw4 110 (by decide +kernel) rfl
theorem tw_4_111 : Cond.selects "SpecimenHallModel" ⟨"SpecimenHallModel", "putIn", "(III)I"⟩ ⟨"SpecimenHallModel", "putIn", "(III)I"⟩ ∈ mT := tw4 111 (by decide +kernel) rfl
theorem tw_4_112 : Cond.code ⟨"SpecimenHallModel", "putIn", "(III)I"⟩ prog_12_method_20_code (4) (Option.some FieldType.int) ∈ mT := tw4 112 rfl rfl
theorem tw_4_113 : Cond.methodLink "SpecimenHallModel" (130) ⟨"SpecimenHallModel", "isSpecimen", "(I)Z"⟩ ∈ mT := tw4 113 (by decide +kernel) rfl
theorem tw_4_115 : Cond.instanceMethod ⟨"SpecimenHallModel", "isSpecimen", "(I)Z"⟩ ∈ mT := tw4 115 (by decide +kernel) rfl
theorem tw_4_116 : Cond.code ⟨"SpecimenHallModel", "isSpecimen", "(I)Z"⟩ prog_12_method_6_code (2) (Option.some FieldType.boolean) ∈ mT := tw4 116 rfl rfl
theorem tw_4_117 : Cond.methodLink "SpecimenHallModel" (133) ⟨"SpecimenHallModel", "placed", "(II)I"⟩ ∈ mT := tw4 117 (by decide +kernel) rfl
theorem tw_4_118 : Cond.methodLink "SpecimenHallLaw" (30) ⟨"SpecimenHallModel", "takeOut", "(II)I"⟩ ∈ mT := tw4 118 (by decide +kernel) rfl
theorem tw_4_119 : Cond.instanceMethod ⟨"SpecimenHallModel", "takeOut", "(II)I"⟩ ∈ mT := tw4 119 (by decide +kernel) rfl
theorem tw_4_120 : Cond.selects "SpecimenHallModel" ⟨"SpecimenHallModel", "takeOut", "(II)I"⟩ ⟨"SpecimenHallModel", "takeOut", "(II)I"⟩ ∈ mT := tw4 120 (by decide +kernel) rfl
theorem tw_4_121 : Cond.code ⟨"SpecimenHallModel", "takeOut", "(II)I"⟩ prog_12_method_21_code (4) (Option.some FieldType.int) ∈ mT := tw4 121 rfl rfl
theorem tw_4_122 : Cond.methodLink "SpecimenHallLaw" (38) ⟨"SpecimenHallModel", "told", "(II)I"⟩ ∈ mT := tw4 122 (by decide +kernel) rfl
theorem tw_4_123 : Cond.instanceMethod ⟨"SpecimenHallModel", "told", "(II)I"⟩ ∈ mT := tw4 123 (by decide +kernel) rfl
theorem tw_4_124 : Cond.selects "SpecimenHallModel" ⟨"SpecimenHallModel", "told", "(II)I"⟩ ⟨"SpecimenHallModel", "told", "(II)I"⟩ ∈ mT := tw4 124 (by decide +kernel) rfl
theorem tw_4_125 : Cond.code ⟨"SpecimenHallModel", "told", "(II)I"⟩ prog_12_method_22_code (3) (Option.some FieldType.int) ∈ mT := tw4 125 rfl rfl
theorem tw_4_126 : Cond.methodLink "SpecimenHallLaw" (60) ⟨"SpecimenHallModel", "rule", "(III)Z"⟩ ∈ mT := tw4 126 (by decide +kernel) rfl
theorem tw_4_127 : Cond.instanceMethod ⟨"SpecimenHallModel", "rule", "(III)Z"⟩ ∈ mT := tw4 127 (by decide +kernel) rfl
theorem tw_4_128 : Cond.selects "SpecimenHallModel" ⟨"SpecimenHallModel", "rule", "(III)Z"⟩ ⟨"SpecimenHallModel", "rule", "(III)Z"⟩ ∈ mT := tw4 128 (by decide +kernel) rfl
theorem tw_4_129 : Cond.code ⟨"SpecimenHallModel", "rule", "(III)Z"⟩ prog_12_method_24_code (4) (Option.some FieldType.boolean) ∈ mT := tw4 129 rfl rfl
theorem tw_4_130 : Cond.methodLink "SpecimenHallLaw" (64) ⟨"SpecimenHallModel", "unrule", "(II)Z"⟩ ∈ mT := tw4 130 (by decide +kernel) rfl
theorem tw_4_131 : Cond.instanceMethod ⟨"SpecimenHallModel", "unrule", "(II)Z"⟩ ∈ mT := tw4 131 (by decide +kernel) rfl
theorem tw_4_132 : Cond.selects "SpecimenHallModel" ⟨"SpecimenHallModel", "unrule", "(II)Z"⟩ ⟨"SpecimenHallModel", "unrule", "(II)Z"⟩ ∈ mT := tw4 132 (by decide +kernel) rfl
theorem tw_4_133 : Cond.code ⟨"SpecimenHallModel", "unrule", "(II)Z"⟩ prog_12_method_25_code (3) (Option.some FieldType.boolean) ∈ mT := tw4 133 rfl rfl
theorem tw_4_134 : Cond.methodLink "SpecimenHallModel" (136) ⟨"SpecimenHallModel", "ruleAt", "(II)I"⟩ ∈ mT := tw4 134 (by decide +kernel) rfl
theorem tw_4_136 : Cond.instanceMethod ⟨"SpecimenHallModel", "ruleAt", "(II)I"⟩ ∈ mT := tw4 136 (by decide +kernel) rfl
theorem tw_4_137 : Cond.code ⟨"SpecimenHallModel", "ruleAt", "(II)I"⟩ prog_12_method_23_code (3) (Option.some FieldType.int) ∈ mT := tw4 137 rfl rfl
theorem tw_4_138 : Cond.methodLink "SpecimenHallLaw" (68) ⟨"SpecimenHallModel", "asks", "(II)I"⟩ ∈ mT := tw4 138 (by decide +kernel) rfl
theorem tw_4_139 : Cond.instanceMethod ⟨"SpecimenHallModel", "asks", "(II)I"⟩ ∈ mT := tw4 139 (by decide +kernel) rfl
theorem tw_4_140 : Cond.selects "SpecimenHallModel" ⟨"SpecimenHallModel", "asks", "(II)I"⟩ ⟨"SpecimenHallModel", "asks", "(II)I"⟩ ∈ mT := tw4 140 (by decide +kernel) rfl
theorem tw_4_141 : Cond.code ⟨"SpecimenHallModel", "asks", "(II)I"⟩ prog_12_method_30_code (3) (Option.some FieldType.int) ∈ mT := tw4 141 rfl rfl
theorem tw_4_142 : Cond.methodLink "SpecimenHallModel" (149) ⟨"SpecimenHallModel", "says", "(II)I"⟩ ∈ mT := tw4 142 (by decide +kernel) rfl
theorem tw_4_144 : Cond.instanceMethod ⟨"SpecimenHallModel", "says", "(II)I"⟩ ∈ mT := tw4 144 (by decide +kernel) rfl
theorem tw_4_145 : Cond.code ⟨"SpecimenHallModel", "says", "(II)I"⟩ prog_12_method_29_code (6) (Option.some FieldType.int) ∈ mT := tw4 145 rfl rfl
theorem tw_4_146 : Cond.methodLink "SpecimenHallModel" (143) ⟨"SpecimenHallModel", "fewest", "(II)I"⟩ ∈ mT := tw4 146 (by decide +kernel) rfl
theorem tw_4_148 : Cond.instanceMethod ⟨"SpecimenHallModel", "fewest", "(II)I"⟩ ∈ mT := tw4 148 (by decide +kernel) rfl
theorem tw_4_149 : Cond.code ⟨"SpecimenHallModel", "fewest", "(II)I"⟩ prog_12_method_26_code (6) (Option.some FieldType.int) ∈ mT := tw4 149 rfl rfl
theorem tw_4_150 : Cond.methodLink "SpecimenHallModel" (146) ⟨"SpecimenHallModel", "isNearest", "(IIII)Z"⟩ ∈ mT := tw4 150 (by decide +kernel) rfl
theorem tw_4_152 : Cond.instanceMethod ⟨"SpecimenHallModel", "isNearest", "(IIII)Z"⟩ ∈ mT := tw4 152 (by decide +kernel) rfl
theorem tw_4_153 : Cond.code ⟨"SpecimenHallModel", "isNearest", "(IIII)Z"⟩ prog_12_method_28_code (6) (Option.some FieldType.boolean) ∈ mT := tw4 153 rfl rfl
theorem tw_4_154 : Cond.methodLink "SpecimenHallModel" (139) ⟨"SpecimenHallModel", "isClose", "(IIII)Z"⟩ ∈ mT := tw4 154 (by decide +kernel) rfl
theorem tw_4_156 : Cond.instanceMethod ⟨"SpecimenHallModel", "isClose", "(IIII)Z"⟩ ∈ mT := tw4 156 (by decide +kernel) rfl
theorem tw_4_157 : Cond.code ⟨"SpecimenHallModel", "isClose", "(IIII)Z"⟩ prog_12_method_27_code (5) (Option.some FieldType.boolean) ∈ mT := tw4 157 rfl rfl
theorem tw_4_158 : Cond.methodLink "SpecimenHallLaw" (72) ⟨"SpecimenHallModel", "nearest", "(III)I"⟩ ∈ mT := tw4 158 (by decide +kernel) rfl
theorem tw_4_159 : Cond.instanceMethod ⟨"SpecimenHallModel", "nearest", "(III)I"⟩ ∈ mT := tw4 159 (by decide +kernel) rfl
theorem tw_4_160 : Cond.selects "SpecimenHallModel" ⟨"SpecimenHallModel", "nearest", "(III)I"⟩ ⟨"SpecimenHallModel", "nearest", "(III)I"⟩ ∈ mT := tw4 160 (by decide +kernel) rfl
theorem tw_4_161 : Cond.code ⟨"SpecimenHallModel", "nearest", "(III)I"⟩ prog_12_method_31_code (7) (Option.some FieldType.int) ∈ mT := tw4 161 rfl rfl
theorem tw_4_162 : Cond.methodLink "SpecimenHallLaw" (76) ⟨"SpecimenHallModel", "lend", "(III)I"⟩ ∈ mT := tw4 162 (by decide +kernel) rfl
theorem tw_4_163 : Cond.instanceMethod ⟨"SpecimenHallModel", "lend", "(III)I"⟩ ∈ mT := tw4 163 (by decide +kernel) rfl
theorem tw_4_164 : Cond.selects "SpecimenHallModel" ⟨"SpecimenHallModel", "lend", "(III)I"⟩ ⟨"SpecimenHallModel", "lend", "(III)I"⟩ ∈ mT := tw4 164 (by decide +kernel) rfl
theorem tw_4_165 : Cond.code ⟨"SpecimenHallModel", "lend", "(III)I"⟩ prog_12_method_35_code (7) (Option.some FieldType.int) ∈ mT := tw4 165 rfl rfl
theorem tw_4_166 : Cond.methodLink "SpecimenHallModel" (155) ⟨"SpecimenHallModel", "mayLend", "(I)Z"⟩ ∈ mT := tw4 166 (by decide +kernel) rfl
theorem tw_4_168 : Cond.instanceMethod ⟨"SpecimenHallModel", "mayLend", "(I)Z"⟩ ∈ mT := tw4 168 (by decide +kernel) rfl
theorem tw_4_169 : Cond.code ⟨"SpecimenHallModel", "mayLend", "(I)Z"⟩ prog_12_method_32_code (2) (Option.some FieldType.boolean) ∈ mT := tw4 169 rfl rfl
theorem tw_4_170 : Cond.methodLink "SpecimenHallModel" (158) ⟨"SpecimenHallModel", "held", "(I)I"⟩ ∈ mT := tw4 170 (by decide +kernel) rfl
theorem tw_4_172 : Cond.instanceMethod ⟨"SpecimenHallModel", "held", "(I)I"⟩ ∈ mT := tw4 172 (by decide +kernel) rfl
theorem tw_4_173 : Cond.code ⟨"SpecimenHallModel", "held", "(I)I"⟩ prog_12_method_33_code (4) (Option.some FieldType.int) ∈ mT := tw4 173 rfl rfl
theorem tw_4_174 : Cond.methodLink "SpecimenHallModel" (162) ⟨"SpecimenHallModel", "lends", "(III)V"⟩ ∈ mT := tw4 174 (by decide +kernel) rfl
theorem tw_4_176 : Cond.instanceMethod ⟨"SpecimenHallModel", "lends", "(III)V"⟩ ∈ mT := tw4 176 (by decide +kernel) rfl
theorem tw_4_177 : Cond.code ⟨"SpecimenHallModel", "lends", "(III)V"⟩ prog_12_method_34_code (5) (Option.none : Option Jvm.ClassFile.FieldType) ∈ mT := tw4 177 rfl rfl
theorem tw_4_178 : Cond.methodLink "SpecimenHallLaw" (80) ⟨"SpecimenHallModel", "giveBack", "(II)I"⟩ ∈ mT := tw4 178 (by decide +kernel) rfl
theorem tw_4_179 : Cond.instanceMethod ⟨"SpecimenHallModel", "giveBack", "(II)I"⟩ ∈ mT := tw4 179 (by decide +kernel) rfl
theorem tw_4_180 : Cond.selects "SpecimenHallModel" ⟨"SpecimenHallModel", "giveBack", "(II)I"⟩ ⟨"SpecimenHallModel", "giveBack", "(II)I"⟩ ∈ mT := tw4 180 (by decide +kernel) rfl
theorem tw_4_181 : Cond.code ⟨"SpecimenHallModel", "giveBack", "(II)I"⟩ prog_12_method_38_code (4) (Option.some FieldType.int) ∈ mT := tw4 181 rfl rfl
theorem tw_4_182 : Cond.methodLink "SpecimenHallModel" (169) ⟨"SpecimenHallModel", "due", "(II)I"⟩ ∈ mT := tw4 182 (by decide +kernel) rfl
theorem tw_4_184 : Cond.instanceMethod ⟨"SpecimenHallModel", "due", "(II)I"⟩ ∈ mT := tw4 184 (by decide +kernel) rfl
theorem tw_4_185 : Cond.code ⟨"SpecimenHallModel", "due", "(II)I"⟩ prog_12_method_37_code (5) (Option.some FieldType.int) ∈ mT := tw4 185 rfl rfl
theorem tw_4_186 : Cond.methodLink "SpecimenHallModel" (166) ⟨"SpecimenHallModel", "late", "(II)I"⟩ ∈ mT := tw4 186 (by decide +kernel) rfl
theorem tw_4_188 : Cond.instanceMethod ⟨"SpecimenHallModel", "late", "(II)I"⟩ ∈ mT := tw4 188 (by decide +kernel) rfl
theorem tw_4_189 : Cond.code ⟨"SpecimenHallModel", "late", "(II)I"⟩ prog_12_method_36_code (4) (Option.some FieldType.int) ∈ mT := tw4 189 rfl rfl
theorem tw_4_190 : Cond.methodLink "SpecimenHallLaw" (85) ⟨"SpecimenHallModel", "overdue", "(I)I"⟩ ∈ mT := tw4 190 (by decide +kernel) rfl
theorem tw_4_191 : Cond.instanceMethod ⟨"SpecimenHallModel", "overdue", "(I)I"⟩ ∈ mT := tw4 191 (by decide +kernel) rfl
theorem tw_4_192 : Cond.selects "SpecimenHallModel" ⟨"SpecimenHallModel", "overdue", "(I)I"⟩ ⟨"SpecimenHallModel", "overdue", "(I)I"⟩ ∈ mT := tw4 192 (by decide +kernel) rfl
theorem tw_4_193 : Cond.code ⟨"SpecimenHallModel", "overdue", "(I)I"⟩ prog_12_method_39_code (4) (Option.some FieldType.int) ∈ mT := tw4 193 rfl rfl
theorem tw_4_194 : Cond.methodLink "SpecimenHallLaw" (89) ⟨"SpecimenHallModel", "lateOne", "(II)I"⟩ ∈ mT := tw4 194 (by decide +kernel) rfl
theorem tw_4_195 : Cond.instanceMethod ⟨"SpecimenHallModel", "lateOne", "(II)I"⟩ ∈ mT := tw4 195 (by decide +kernel) rfl
theorem tw_4_196 : Cond.selects "SpecimenHallModel" ⟨"SpecimenHallModel", "lateOne", "(II)I"⟩ ⟨"SpecimenHallModel", "lateOne", "(II)I"⟩ ∈ mT := tw4 196 (by decide +kernel) rfl
theorem tw_4_197 : Cond.code ⟨"SpecimenHallModel", "lateOne", "(II)I"⟩ prog_12_method_40_code (7) (Option.some FieldType.int) ∈ mT := tw4 197 rfl rfl
theorem tw_4_198 : Cond.methodLink "SpecimenHallLaw" (93) ⟨"SpecimenHallModel", "fees", "(II)I"⟩ ∈ mT := tw4 198 (by decide +kernel) rfl
theorem tw_4_199 : Cond.instanceMethod ⟨"SpecimenHallModel", "fees", "(II)I"⟩ ∈ mT := tw4 199 (by decide +kernel) rfl
theorem tw_4_200 : Cond.selects "SpecimenHallModel" ⟨"SpecimenHallModel", "fees", "(II)I"⟩ ⟨"SpecimenHallModel", "fees", "(II)I"⟩ ∈ mT := tw4 200 (by decide +kernel) rfl
theorem tw_4_201 : Cond.code ⟨"SpecimenHallModel", "fees", "(II)I"⟩ prog_12_method_41_code (5) (Option.some FieldType.int) ∈ mT := tw4 201 rfl rfl
theorem tw_4_202 : Cond.methodLink "SpecimenHallLaw" (98) ⟨"SpecimenHallModel", "question", "(IIIII)I"⟩ ∈ mT := tw4 202 (by decide +kernel) rfl
theorem tw_4_203 : Cond.instanceMethod ⟨"SpecimenHallModel", "question", "(IIIII)I"⟩ ∈ mT := tw4 203 (by decide +kernel) rfl
theorem tw_4_204 : Cond.selects "SpecimenHallModel" ⟨"SpecimenHallModel", "question", "(IIIII)I"⟩ ⟨"SpecimenHallModel", "question", "(IIIII)I"⟩ ∈ mT := tw4 204 (by decide +kernel) rfl
theorem tw_4_205 : Cond.code ⟨"SpecimenHallModel", "question", "(IIIII)I"⟩ prog_12_method_43_code (9) (Option.some FieldType.int) ∈ mT := tw4 205 rfl rfl
theorem tw_4_206 : Cond.methodLink "SpecimenHallModel" (172) ⟨"SpecimenHallModel", "isEnd", "(II)Z"⟩ ∈ mT := tw4 206 (by decide +kernel) rfl
theorem tw_4_207 : Cond.static ⟨"SpecimenHallModel", "isEnd", "(II)Z"⟩ ∈ mT := tw4 207 (by decide +kernel) rfl
theorem tw_4_208 : Cond.code ⟨"SpecimenHallModel", "isEnd", "(II)Z"⟩ prog_12_method_42_code (2) (Option.some FieldType.boolean) ∈ mT := tw4 208 rfl rfl
theorem tw_4_209 : Cond.methodLink "SpecimenHallLaw" (102) ⟨"SpecimenHallModel", "name", "(II)I"⟩ ∈ mT := tw4 209 (by decide +kernel) rfl
theorem tw_4_210 : Cond.instanceMethod ⟨"SpecimenHallModel", "name", "(II)I"⟩ ∈ mT := tw4 210 (by decide +kernel) rfl
theorem tw_4_211 : Cond.selects "SpecimenHallModel" ⟨"SpecimenHallModel", "name", "(II)I"⟩ ⟨"SpecimenHallModel", "name", "(II)I"⟩ ∈ mT := tw4 211 (by decide +kernel) rfl
theorem tw_4_212 : Cond.code ⟨"SpecimenHallModel", "name", "(II)I"⟩ prog_12_method_45_code (5) (Option.some FieldType.int) ∈ mT := tw4 212 rfl rfl
theorem tw_4_213 : Cond.methodLink "SpecimenHallModel" (178) ⟨"SpecimenHallModel", "answer", "(II)Z"⟩ ∈ mT := tw4 213 (by decide +kernel) rfl
theorem tw_4_215 : Cond.instanceMethod ⟨"SpecimenHallModel", "answer", "(II)Z"⟩ ∈ mT := tw4 215 (by decide +kernel) rfl
theorem tw_4_216 : Cond.code ⟨"SpecimenHallModel", "answer", "(II)Z"⟩ prog_12_method_44_code (3) (Option.some FieldType.boolean) ∈ mT := tw4 216 rfl rfl
theorem tw_4_217 : Cond.methodLink "SpecimenHallLaw" (107) ⟨"SpecimenHallModel", "asked", "()I"⟩ ∈ mT := tw4 217 (by decide +kernel) rfl
theorem tw_4_218 : Cond.instanceMethod ⟨"SpecimenHallModel", "asked", "()I"⟩ ∈ mT := tw4 218 (by decide +kernel) rfl
theorem tw_4_219 : Cond.selects "SpecimenHallModel" ⟨"SpecimenHallModel", "asked", "()I"⟩ ⟨"SpecimenHallModel", "asked", "()I"⟩ ∈ mT := tw4 219 (by decide +kernel) rfl
theorem tw_4_220 : Cond.code ⟨"SpecimenHallModel", "asked", "()I"⟩ prog_12_method_46_code (1) (Option.some FieldType.int) ∈ mT := tw4 220 rfl rfl
theorem tw_4_221 : Cond.methodLink "SpecimenHallLaw" (111) ⟨"SpecimenHallModel", "convert", "(II)Z"⟩ ∈ mT := tw4 221 (by decide +kernel) rfl
theorem tw_4_222 : Cond.instanceMethod ⟨"SpecimenHallModel", "convert", "(II)Z"⟩ ∈ mT := tw4 222 (by decide +kernel) rfl
theorem tw_4_223 : Cond.selects "SpecimenHallModel" ⟨"SpecimenHallModel", "convert", "(II)Z"⟩ ⟨"SpecimenHallModel", "convert", "(II)Z"⟩ ∈ mT := tw4 223 (by decide +kernel) rfl
theorem tw_4_224 : Cond.code ⟨"SpecimenHallModel", "convert", "(II)Z"⟩ prog_12_method_47_code (5) (Option.some FieldType.boolean) ∈ mT := tw4 224 rfl rfl
theorem tw_4_225 : Cond.methodLink "SpecimenHallLaw" (115) ⟨"SpecimenHallModel", "find", "(III)I"⟩ ∈ mT := tw4 225 (by decide +kernel) rfl
theorem tw_4_226 : Cond.instanceMethod ⟨"SpecimenHallModel", "find", "(III)I"⟩ ∈ mT := tw4 226 (by decide +kernel) rfl
theorem tw_4_227 : Cond.selects "SpecimenHallModel" ⟨"SpecimenHallModel", "find", "(III)I"⟩ ⟨"SpecimenHallModel", "find", "(III)I"⟩ ∈ mT := tw4 227 (by decide +kernel) rfl
theorem tw_4_228 : Cond.code ⟨"SpecimenHallModel", "find", "(III)I"⟩ prog_12_method_48_code (6) (Option.some FieldType.int) ∈ mT := tw4 228 rfl rfl
theorem tw_4_229 : Cond.methodLink "SpecimenHallLaw" (119) ⟨"SpecimenHallModel", "nth", "(II)I"⟩ ∈ mT := tw4 229 (by decide +kernel) rfl
theorem tw_4_230 : Cond.instanceMethod ⟨"SpecimenHallModel", "nth", "(II)I"⟩ ∈ mT := tw4 230 (by decide +kernel) rfl
theorem tw_4_231 : Cond.selects "SpecimenHallModel" ⟨"SpecimenHallModel", "nth", "(II)I"⟩ ⟨"SpecimenHallModel", "nth", "(II)I"⟩ ∈ mT := tw4 231 (by decide +kernel) rfl
theorem tw_4_232 : Cond.code ⟨"SpecimenHallModel", "nth", "(II)I"⟩ prog_12_method_49_code (7) (Option.some FieldType.int) ∈ mT := tw4 232 rfl rfl
theorem tw_4_233 : Cond.methodLink "SpecimenHallLaw" (123) ⟨"SpecimenHallModel", "shelf", "(III)Z"⟩ ∈ mT := tw4 233 (by decide +kernel) rfl
theorem tw_4_234 : Cond.instanceMethod ⟨"SpecimenHallModel", "shelf", "(III)Z"⟩ ∈ mT := tw4 234 (by decide +kernel) rfl
theorem tw_4_235 : Cond.selects "SpecimenHallModel" ⟨"SpecimenHallModel", "shelf", "(III)Z"⟩ ⟨"SpecimenHallModel", "shelf", "(III)Z"⟩ ∈ mT := tw4 235 (by decide +kernel) rfl
theorem tw_4_236 : Cond.code ⟨"SpecimenHallModel", "shelf", "(III)Z"⟩ prog_12_method_51_code (5) (Option.some FieldType.boolean) ∈ mT := tw4 236 rfl rfl
theorem tw_4_237 : Cond.constant "SpecimenHallModel" (181) (1000000) ∈ mT := tw4 237 (by decide +kernel) rfl
theorem tw_4_238 : Cond.methodLink "SpecimenHallLaw" (127) ⟨"SpecimenHallModel", "move", "(II)Z"⟩ ∈ mT := tw4 238 (by decide +kernel) rfl
theorem tw_4_239 : Cond.instanceMethod ⟨"SpecimenHallModel", "move", "(II)Z"⟩ ∈ mT := tw4 239 (by decide +kernel) rfl
theorem tw_5_0 : Cond.selects "SpecimenHallModel" ⟨"SpecimenHallModel", "move", "(II)Z"⟩ ⟨"SpecimenHallModel", "move", "(II)Z"⟩ ∈ mT := tw5 0 (by decide +kernel) rfl
theorem tw_5_1 : Cond.code ⟨"SpecimenHallModel", "move", "(II)Z"⟩ prog_12_method_52_code (3) (Option.some FieldType.boolean) ∈ mT := tw5 1 rfl rfl
theorem tw_5_2 : Cond.methodLink "SpecimenHallModel" (182) ⟨"SpecimenHallModel", "used", "(I)I"⟩ ∈ mT := tw5 2 (by decide +kernel) rfl
theorem tw_5_4 : Cond.instanceMethod ⟨"SpecimenHallModel", "used", "(I)I"⟩ ∈ mT := tw5 4 (by decide +kernel) rfl
theorem tw_5_5 : Cond.code ⟨"SpecimenHallModel", "used", "(I)I"⟩ prog_12_method_50_code (4) (Option.some FieldType.int) ∈ mT := tw5 5 rfl rfl
theorem tw_5_6 : Cond.methodLink "SpecimenHallLaw" (131) ⟨"SpecimenHallModel", "count", "(I)I"⟩ ∈ mT := tw5 6 (by decide +kernel) rfl
theorem tw_5_7 : Cond.instanceMethod ⟨"SpecimenHallModel", "count", "(I)I"⟩ ∈ mT := tw5 7 (by decide +kernel) rfl
theorem tw_5_8 : Cond.selects "SpecimenHallModel" ⟨"SpecimenHallModel", "count", "(I)I"⟩ ⟨"SpecimenHallModel", "count", "(I)I"⟩ ∈ mT := tw5 8 (by decide +kernel) rfl
theorem tw_5_9 : Cond.code ⟨"SpecimenHallModel", "count", "(I)I"⟩ prog_12_method_53_code (4) (Option.some FieldType.int) ∈ mT := tw5 9 rfl rfl
theorem tw_p_0 : Cond.selects "SpecimenHall" ⟨"SpecimenHall", "boxAt", "(I)LSpecimenHall$Box;"⟩ ⟨"SpecimenHall", "boxAt", "(I)LSpecimenHall$Box;"⟩ ∈ mT := twp 0 (by decide +kernel) rfl
theorem tw_p_1 : Cond.selects "SpecimenHall$Box" ⟨"SpecimenHall$Box", "hasPlace", "(I)Z"⟩ ⟨"SpecimenHall$Box", "hasPlace", "(I)Z"⟩ ∈ mT := twp 1 (by decide +kernel) rfl
theorem tw_p_2 : Cond.selects "SpecimenHall" ⟨"SpecimenHall", "specimenIn", "(II)LSpecimenHall$Specimen;"⟩ ⟨"SpecimenHall", "specimenIn", "(II)LSpecimenHall$Specimen;"⟩ ∈ mT := twp 2 (by decide +kernel) rfl
theorem tw_p_3 : Cond.selects "SpecimenHall" ⟨"SpecimenHall", "lendBox", "(LSpecimenHall$Box;II)I"⟩ ⟨"SpecimenHall", "lendBox", "(LSpecimenHall$Box;II)I"⟩ ∈ mT := twp 3 (by decide +kernel) rfl
theorem tw_p_4 : Cond.selects "SpecimenHall" ⟨"SpecimenHall", "mayBeLent", "(LSpecimenHall$Specimen;)Z"⟩ ⟨"SpecimenHall", "mayBeLent", "(LSpecimenHall$Specimen;)Z"⟩ ∈ mT := twp 4 (by decide +kernel) rfl
theorem tw_p_5 : Cond.selects "SpecimenHall" ⟨"SpecimenHall", "openLoan", "(LSpecimenHall$Specimen;II)V"⟩ ⟨"SpecimenHall", "openLoan", "(LSpecimenHall$Specimen;II)V"⟩ ∈ mT := twp 5 (by decide +kernel) rfl
theorem tw_p_6 : Cond.selects "SpecimenHall$Loans" ⟨"SpecimenHall$Loans", "remove", "(LSpecimenHall$Specimen;)V"⟩ ⟨"SpecimenHall$Loans", "remove", "(LSpecimenHall$Specimen;)V"⟩ ∈ mT := twp 6 (by decide +kernel) rfl
theorem tw_p_7 : Cond.selects "SpecimenHall" ⟨"SpecimenHall", "keyAt", "(I)LSpecimenHall$Key;"⟩ ⟨"SpecimenHall", "keyAt", "(I)LSpecimenHall$Key;"⟩ ∈ mT := twp 7 (by decide +kernel) rfl
theorem tw_p_8 : Cond.selects "SpecimenHall$Key" ⟨"SpecimenHall$Key", "questionAt", "(I)LSpecimenHall$Question;"⟩ ⟨"SpecimenHall$Key", "questionAt", "(I)LSpecimenHall$Question;"⟩ ∈ mT := twp 8 (by decide +kernel) rfl
theorem tw_p_9 : Cond.selects "SpecimenHall$Question" ⟨"SpecimenHall$Question", "holdsFor", "(LSpecimenHall$Specimen;)Z"⟩ ⟨"SpecimenHall$Question", "holdsFor", "(LSpecimenHall$Specimen;)Z"⟩ ∈ mT := twp 9 (by decide +kernel) rfl
theorem tw_p_10 : Cond.selects "SpecimenHall" ⟨"SpecimenHall", "shelfAt", "(I)LSpecimenHall$Shelf;"⟩ ⟨"SpecimenHall", "shelfAt", "(I)LSpecimenHall$Shelf;"⟩ ∈ mT := twp 10 (by decide +kernel) rfl
theorem tw_p_11 : Cond.selects "SpecimenHall" ⟨"SpecimenHall", "onShelves", "()I"⟩ ⟨"SpecimenHall", "onShelves", "()I"⟩ ∈ mT := twp 11 (by decide +kernel) rfl
theorem tw_p_12 : Cond.selects "SpecimenHallModel" ⟨"SpecimenHallModel", "above", "(II)Z"⟩ ⟨"SpecimenHallModel", "above", "(II)Z"⟩ ∈ mT := twp 12 (by decide +kernel) rfl
theorem tw_p_13 : Cond.selects "SpecimenHallModel" ⟨"SpecimenHallModel", "stepsTo", "(II)I"⟩ ⟨"SpecimenHallModel", "stepsTo", "(II)I"⟩ ∈ mT := twp 13 (by decide +kernel) rfl
theorem tw_p_14 : Cond.selects "SpecimenHallModel" ⟨"SpecimenHallModel", "traitAbove", "(II)Z"⟩ ⟨"SpecimenHallModel", "traitAbove", "(II)Z"⟩ ∈ mT := twp 14 (by decide +kernel) rfl
theorem tw_p_15 : Cond.selects "SpecimenHallModel" ⟨"SpecimenHallModel", "isShared", "(III)Z"⟩ ⟨"SpecimenHallModel", "isShared", "(III)Z"⟩ ∈ mT := twp 15 (by decide +kernel) rfl
theorem tw_p_16 : Cond.selects "SpecimenHallModel" ⟨"SpecimenHallModel", "isAbstract", "(I)Z"⟩ ⟨"SpecimenHallModel", "isAbstract", "(I)Z"⟩ ∈ mT := twp 16 (by decide +kernel) rfl
theorem tw_p_17 : Cond.selects "SpecimenHallModel" ⟨"SpecimenHallModel", "isPlace", "(II)Z"⟩ ⟨"SpecimenHallModel", "isPlace", "(II)Z"⟩ ∈ mT := twp 17 (by decide +kernel) rfl
theorem tw_p_18 : Cond.selects "SpecimenHallModel" ⟨"SpecimenHallModel", "isSpecimen", "(I)Z"⟩ ⟨"SpecimenHallModel", "isSpecimen", "(I)Z"⟩ ∈ mT := twp 18 (by decide +kernel) rfl
theorem tw_p_19 : Cond.selects "SpecimenHallModel" ⟨"SpecimenHallModel", "ruleAt", "(II)I"⟩ ⟨"SpecimenHallModel", "ruleAt", "(II)I"⟩ ∈ mT := twp 19 (by decide +kernel) rfl
theorem tw_p_20 : Cond.selects "SpecimenHallModel" ⟨"SpecimenHallModel", "says", "(II)I"⟩ ⟨"SpecimenHallModel", "says", "(II)I"⟩ ∈ mT := twp 20 (by decide +kernel) rfl
theorem tw_p_21 : Cond.selects "SpecimenHallModel" ⟨"SpecimenHallModel", "fewest", "(II)I"⟩ ⟨"SpecimenHallModel", "fewest", "(II)I"⟩ ∈ mT := twp 21 (by decide +kernel) rfl
theorem tw_p_22 : Cond.selects "SpecimenHallModel" ⟨"SpecimenHallModel", "isNearest", "(IIII)Z"⟩ ⟨"SpecimenHallModel", "isNearest", "(IIII)Z"⟩ ∈ mT := twp 22 (by decide +kernel) rfl
theorem tw_p_23 : Cond.selects "SpecimenHallModel" ⟨"SpecimenHallModel", "isClose", "(IIII)Z"⟩ ⟨"SpecimenHallModel", "isClose", "(IIII)Z"⟩ ∈ mT := twp 23 (by decide +kernel) rfl
theorem tw_p_24 : Cond.selects "SpecimenHallModel" ⟨"SpecimenHallModel", "mayLend", "(I)Z"⟩ ⟨"SpecimenHallModel", "mayLend", "(I)Z"⟩ ∈ mT := twp 24 (by decide +kernel) rfl
theorem tw_p_25 : Cond.selects "SpecimenHallModel" ⟨"SpecimenHallModel", "held", "(I)I"⟩ ⟨"SpecimenHallModel", "held", "(I)I"⟩ ∈ mT := twp 25 (by decide +kernel) rfl
theorem tw_p_26 : Cond.selects "SpecimenHallModel" ⟨"SpecimenHallModel", "lends", "(III)V"⟩ ⟨"SpecimenHallModel", "lends", "(III)V"⟩ ∈ mT := twp 26 (by decide +kernel) rfl
theorem tw_p_27 : Cond.selects "SpecimenHallModel" ⟨"SpecimenHallModel", "due", "(II)I"⟩ ⟨"SpecimenHallModel", "due", "(II)I"⟩ ∈ mT := twp 27 (by decide +kernel) rfl
theorem tw_p_28 : Cond.selects "SpecimenHallModel" ⟨"SpecimenHallModel", "late", "(II)I"⟩ ⟨"SpecimenHallModel", "late", "(II)I"⟩ ∈ mT := twp 28 (by decide +kernel) rfl
theorem tw_p_29 : Cond.selects "SpecimenHallModel" ⟨"SpecimenHallModel", "answer", "(II)Z"⟩ ⟨"SpecimenHallModel", "answer", "(II)Z"⟩ ∈ mT := twp 29 (by decide +kernel) rfl
theorem tw_p_30 : Cond.selects "SpecimenHallModel" ⟨"SpecimenHallModel", "used", "(I)I"⟩ ⟨"SpecimenHallModel", "used", "(I)I"⟩ ∈ mT := twp 30 (by decide +kernel) rfl
theorem inX0 : ∀ w ∈ u_ws RX0 TX0 3, w ∈ mT := fun w hw => List.mem_filter.mpr ⟨(goodIn_r (big := lw_tbl) (u_ws RX0 TX0 3) [291, 293, 295] (by decide +kernel) (by decide +kernel) w hw).1, List.all_eq_true.mp (show (u_ws RX0 TX0 3).all goodWord = true by decide +kernel) w hw⟩
theorem inX2 : ∀ w ∈ u_ws RX2 TX2 3, w ∈ mT := fun w hw => List.mem_filter.mpr ⟨(goodIn_r (big := lw_tbl) (u_ws RX2 TX2 3) [114, 116, 118] (by decide +kernel) (by decide +kernel) w hw).1, List.all_eq_true.mp (show (u_ws RX2 TX2 3).all goodWord = true by decide +kernel) w hw⟩
theorem inX3 : ∀ w ∈ u_ws RX3 TX3 5, w ∈ mT := fun w hw => List.mem_filter.mpr ⟨(goodIn_r (big := lw_tbl) (u_ws RX3 TX3 5) [150, 152, 154, 156, 158] (by decide +kernel) (by decide +kernel) w hw).1, List.all_eq_true.mp (show (u_ws RX3 TX3 5).all goodWord = true by decide +kernel) w hw⟩
theorem inX4 : ∀ w ∈ u_ws RX4 TX4 4, w ∈ mT := fun w hw => List.mem_filter.mpr ⟨(goodIn_r (big := lw_tbl) (u_ws RX4 TX4 4) [578, 580, 582, 584] (by decide +kernel) (by decide +kernel) w hw).1, List.all_eq_true.mp (show (u_ws RX4 TX4 4).all goodWord = true by decide +kernel) w hw⟩
theorem inX5 : ∀ w ∈ u_ws RX5 TX5 2, w ∈ mT := fun w hw => List.mem_filter.mpr ⟨(goodIn_r (big := lw_tbl) (u_ws RX5 TX5 2) [129, 131] (by decide +kernel) (by decide +kernel) w hw).1, List.all_eq_true.mp (show (u_ws RX5 TX5 2).all goodWord = true by decide +kernel) w hw⟩
theorem inX6 : ∀ w ∈ u_ws RX6 TX6 5, w ∈ mT := fun w hw => List.mem_filter.mpr ⟨(goodIn_r (big := lw_tbl) (u_ws RX6 TX6 5) [90, 92, 94, 96, 98] (by decide +kernel) (by decide +kernel) w hw).1, List.all_eq_true.mp (show (u_ws RX6 TX6 5).all goodWord = true by decide +kernel) w hw⟩
theorem inX7 : ∀ w ∈ u_ws RX7 TX7 11, w ∈ mT := fun w hw => List.mem_filter.mpr ⟨(goodIn_r (big := lw_tbl) (u_ws RX7 TX7 11) [245, 247, 249, 251, 253, 255, 257, 259, 261, 263, 265] (by decide +kernel) (by decide +kernel) w hw).1, List.all_eq_true.mp (show (u_ws RX7 TX7 11).all goodWord = true by decide +kernel) w hw⟩
theorem inX8 : ∀ w ∈ u_ws RX8 TX8 3, w ∈ mT := fun w hw => List.mem_filter.mpr ⟨(goodIn_r (big := lw_tbl) (u_ws RX8 TX8 3) [65, 67, 69] (by decide +kernel) (by decide +kernel) w hw).1, List.all_eq_true.mp (show (u_ws RX8 TX8 3).all goodWord = true by decide +kernel) w hw⟩
theorem inX9 : ∀ w ∈ u_ws RX9 TX9 8, w ∈ mT := fun w hw => List.mem_filter.mpr ⟨(goodIn_r (big := lw_tbl) (u_ws RX9 TX9 8) [169, 171, 173, 175, 177, 179, 181, 183] (by decide +kernel) (by decide +kernel) w hw).1, List.all_eq_true.mp (show (u_ws RX9 TX9 8).all goodWord = true by decide +kernel) w hw⟩
theorem inX10 : ∀ w ∈ u_ws RX10 TX10 30, w ∈ mT := fun w hw => List.mem_filter.mpr ⟨(goodIn_r (big := lw_tbl) (u_ws RX10 TX10 30) [734, 736, 738, 740, 742, 744, 746, 748, 750, 752, 754, 756, 758, 760, 762, 764, 766, 768, 770, 772, 774, 776, 778, 780, 782, 784, 786, 788, 790, 792] (by decide +kernel) (by decide +kernel) w hw).1, List.all_eq_true.mp (show (u_ws RX10 TX10 30).all goodWord = true by decide +kernel) w hw⟩
end
section
/-! THE LOGICAL MACHINE: a heap of numbered cells over the physical one; a judgement m_J without the machine's own context -/
abbrev mE : Type := va_G × Nat × (Nat → Nat) × (Nat → ClassId)
abbrev mX : Type := Nat × (Nat → Int32)
abbrev mH : Type := Nat × Nat × (Nat → va_E)
abbrev mY : Type := MethodName × ByteArray × Nat × Option FieldType × Instr
abbrev mR : Type := Option Value × mH
def m_ph (E : mE) (v : Value) : Value := match v with
  | .ref k => .ref (E.2.1 + k)
  | .float b => .ref (E.2.2.1 b.toNat)
  | v => v
def m_im (E : mE) (e : va_E) : va_E := match e with
  | .inl (t, N, .inr (.inr (.inr (.inr f)))) => .inl (E.2.2.2 t, N, .inr (.inr (.inr (.inr (fun j => (f j).map (fun k => E.2.1 + k))))))
  | .inl (t, a) => .inl (E.2.2.2 t, a)
  | .inr (ci, fs) => .inr (ci, fs.map (m_ph E))
def m_ws (E : mE) (h : mH) : va_W := (List.range h.1).map (fun k => (E.2.1 + k, m_im E (h.2.2 k)))
def m_A (E : mE) : Nat → Prop := fun q => E.2.1 ≤ q
def m_ty : List FieldType := [.int, .long, .object RX7, .object RX0, .object RX6, .object RX2, .object RX4]
def m_tys (E : mE) : List (ClassId × FieldType) := [(E.2.2.2 0, .int), (E.2.2.2 1, .long), (E.2.2.2 2, .object RX7), (E.2.2.2 3, .object RX0), (E.2.2.2 4, .object RX6), (E.2.2.2 5, .object RX2), (E.2.2.2 6, .object RX4)]
/-- the tables: class, name, descriptor, element type, length, contents; the last is the script -/
def m_tc (i : Nat) : String × String × String := match i with
  | 0 => (RX1, "EXTENDED", "[J")
  | 1 => (RX1, "NAMED", "[J")
  | 2 => (RX1, "PARENT", "[I")
  | _ => (RX5, "MOST", "[I")
def m_tt (i : Nat) : FieldType := match i with
  | 0 => .long
  | 1 => .long
  | _ => .int
def m_t0 : List Int64 := [1099511627776, 3298534883328, 5497558138880, 8796093022208, 17592186044416, 35184372088832, 105553116266496, 175921860444160, 466192930177024]
def m_t1 : List Int64 := [0, 3298534883328, 0, 8796093022208, 0, 105553116266496, 17592186044416, 0, 175921860444160, 0, 12094627905536, 0, 0, 17592186044416, 5497558138880, 17592186044416, 175921860444160, 3298534883328, 17592186044416, 466192930177024, 3298534883328, 8796093022208, 175921860444160, 105553116266496]
def m_t2 : List Int32 := [-1, 0, 1, 1, 3, 3, 1, 6, 6, 0, 9, 10, 10, 12, 9, 14, 14, 9, 17, 17, 0, 20, 20, 21]
def m_t3 : List Int32 := [9, 99, 365, 1000, 9]
def m_tN (X : mX) (i : Nat) : Nat := match i with
  | 0 => 9
  | 1 => 24
  | 2 => 24
  | 3 => 5
  | _ => X.1
def m_tf (X : mX) (i : Nat) : Nat → Value := match i with
  | 0 => fun j => .long (m_t0.getD j 0)
  | 1 => fun j => .long (m_t1.getD j 0)
  | 2 => fun j => .int (m_t2.getD j 0)
  | 3 => fun j => .int (m_t3.getD j 0)
  | _ => fun j => .int (X.2 j)
/-- the class of the objects in an array of kind t -/
def m_tci (t : Nat) : Nat := match t with
  | 2 => 6
  | 3 => 0
  | 4 => 5
  | 5 => 1
  | _ => 3
def m_ao (t : Nat) : String := match t with
  | 2 => RX7
  | 3 => RX0
  | 4 => RX6
  | 5 => RX2
  | _ => RX4
def m_St (X : mX) (E : mE) (U : State) (H : Heap) : Prop :=
  (∀ i, i < 4 → va_Z (m_tc i).1 (m_tc i).2.1 (m_tc i).2.2 (.ref (E.2.2.1 i)) (m_A E) U H) ∧ (∀ i, i < 5 → va_T (m_tt i) (E.2.2.1 i) (m_tN X i) (m_tf X i) (m_A E) U H) ∧ ∀ t, va_AO (m_ao t) U
theorem m_St.moved {X : mX} {E : mE} {u U : State} {H : Heap} (hvm : u.vm.Alike U.vm) (h : m_St X E u H) : m_St X E U H := ⟨fun i hi => va_Z.moved hvm (h.1 i hi), fun i hi => va_T.moved hvm (h.2.1 i hi), fun t => va_AO.moved hvm (h.2.2 t)⟩
theorem m_St.kept {X : mX} {E : mE} {U : State} {H H1 : Heap} (h : m_St X E U H) (hq : ∀ a : Nat, a < H.size → ¬ m_A E a → H1[a]? = H[a]?) : m_St X E U H1 := ⟨fun i hi => (h.1 i hi).kept hq, fun i hi => (h.2.1 i hi).kept hq, h.2.2⟩
theorem m_ws_get {E : mE} {h : mH} {k : Nat} (hk : k < h.1) : (m_ws E h)[k]? = some (E.2.1 + k, m_im E (h.2.2 k)) := by
  unfold m_ws
  rw [List.getElem?_map, List.getElem?_range hk]
  rfl
theorem m_ws_len {E : mE} {h : mH} : (m_ws E h).length = h.1 := by simp [m_ws]
theorem m_ws_lt {E : mE} {h : mH} {k : Nat} {q : Nat × va_E} (hq : (m_ws E h)[k]? = some q) : k < h.1 := by
  have := (List.getElem?_eq_some_iff.mp hq).1
  rw [m_ws_len] at this
  exact this
theorem m_D (E : mE) (h : mH) : va_D (m_A E) (m_ws E h) := by
  refine ⟨fun i j p q hi hj hpq => ?_, fun k q hk => ?_⟩
  · rw [m_ws_get (m_ws_lt hi)] at hi
    rw [m_ws_get (m_ws_lt hj)] at hj
    cases hi; cases hj
    exact Nat.add_left_cancel hpq
  · rw [m_ws_get (m_ws_lt hk)] at hk
    cases hk
    exact Nat.le_add_right _ _
theorem m_ws_set {E : mE} {h : mH} {k : Nat} {e : va_E} (z : Nat) : (m_ws E h).set k (E.2.1 + k, m_im E e) = m_ws E (h.1, z, va_up h.2.2 k e) := by
  apply List.ext_getElem?
  intro j
  by_cases hj : j < h.1
  · rw [m_ws_get (h := (h.1, z, va_up h.2.2 k e)) hj]
    by_cases hjk : j = k
    · subst hjk
      rw [List.getElem?_set_self (by rw [m_ws_len]; exact hj)]
      simp [va_up]
    · rw [List.getElem?_set_ne (fun q => hjk q.symm), m_ws_get hj]
      simp [va_up, hjk]
  · rw [List.getElem?_eq_none (by rw [List.length_set, m_ws_len]; omega), List.getElem?_eq_none (by rw [m_ws_len]; simp; omega)]
theorem m_ws_push {E : mE} {h : mH} {e : va_E} (z : Nat) : m_ws E h ++ [(E.2.1 + h.1, m_im E e)] = m_ws E (h.1 + 1, z, va_up h.2.2 h.1 e) := by
  unfold m_ws
  rw [List.range_succ, List.map_append]
  congr 1
  · apply List.map_congr_left
    intro k hk
    have : k ≠ h.1 := Nat.ne_of_lt (List.mem_range.mp hk)
    simp [va_up, this]
  · simp [va_up]
/-- the world at a state -/
def m_Wd (X : mX) (E : mE) (h : mH) (U : State) : Prop := va_K E.1 vwCl (m_tys E) U ∧ va_P E.1 vwCl (m_ws E h) U.heap ∧ U.heap.size = E.2.1 + h.1 ∧ m_St X E U U.heap
/-- what a method returns, of its return type -/
def m_rk (rt : Option FieldType) (v : Option Value) : Prop := match rt with
  | none => v = none
  | some .boolean => v = some (.int 0) ∨ v = some (.int 1)
  | some .int => ∃ x, v = some (.int x)
  | some .long => ∃ x, v = some (.long x)
  | some (.object _) => ∃ q, v = some (va_rf q)
  | some _ => False
/-- what stays along a method's walk -/
def m_C (X : mX) (E : mE) (Y : mY) (d : Nat) (p : Program) (R : Room) (s : State) (m : MethodId) (args : Array Value) (meth : Method) (c : Code) (n0 z0 : Nat) (r : mR) : Prop :=
  p.tables.exec = Jvm.exec ∧ c.code = Y.2.1 ∧ c.maxLocals = Y.2.2.1 ∧ s.vm.findClass Y.1.cls = some m.cls ∧ (∀ w ∈ mT, w.before args s = true) ∧ va_K E.1 vwCl (m_tys E) s ∧ m_St X E s s.heap ∧ meth.name = Y.1.name ∧ d ≤ R.frames ∧ 48 * d ≤ R.locals ∧ r.2.1 - n0 ≤ R.cells ∧ r.2.2.1 - z0 ≤ R.slots ∧ s.heap.size = E.2.1 + n0
def m_h (E : mE) (h : mH) (s : State) (H : Heap) (locs : List Loc) : Prop := va_P E.1 vwCl (m_ws E h) H ∧ va_S (m_A E) s.heap H locs
def m_l (E : mE) (Y : mY) (ls : Array Slot) (L : List (Option Value)) : Prop := ls.size = Y.2.2.1 ∧ lv_wf ls ∧ ∀ (i : Nat) (v : Value), L[i]? = some (some v) → ls[i]? = some (.val (m_ph E v))
def m_J (X : mX) (Y : mY) (d pc : Nat) (L : List (Option Value)) (st : List Value) (h : mH) (r : mR) : Prop :=
  (h.1 ≤ r.2.1 ∧ h.2.1 ≤ r.2.2.1) ∧ ∀ (E : mE) (p : Program) (l : Launch) (e : Env) (R : Room) (s : State) (m : MethodId) (args : Array Value) (below : List Frame) (meth : Method) (c : Code) (H : Heap) (locs : List Loc) (ls : Array Slot) (n0 z0 : Nat) (Q : State → Prop),
    m_C X E Y d p R s m args meth c n0 z0 r → n0 ≤ h.1 → z0 ≤ h.2.1 → m_h E h s H locs → m_l E Y ls L →
    (∀ (pc' : Nat) (ls' : Array Slot) (H' : Heap) (locs' : List Loc), decode Y.2.1 pc' = .ok (Y.2.2.2.2, 1) → m_rk Y.2.2.2.1 r.1 → m_h E r.2 s H' locs' → W p l e R s m args below meth c H' locs' (r.2.1 - n0) (r.2.2.1 - z0) Q (F0 m pc' ls' (r.1.toList.map (m_ph E)))) →
    W p l e R s m args below meth c H locs (h.1 - n0) (h.2.1 - z0) Q (F0 m pc ls (st.map (m_ph E)))
theorem m_ph_rf (E : mE) (q : Option Nat) : m_ph E (va_rf q) = va_rf (q.map (fun k => E.2.1 + k)) := by cases q <;> rfl
theorem m_ph_cat (E : mE) (v : Value) : (m_ph E v).category = v.category := by cases v <;> rfl
/-! locals -/
def m_pairs (E : mE) (L : List (Option Value)) : List (Nat × Value) := (List.range L.length).filterMap (fun i => match L[i]? with | some (some v) => some (i, m_ph E v) | _ => none)
theorem m_pairs_mem {E : mE} {L : List (Option Value)} {i : Nat} {w : Value} : (i, w) ∈ m_pairs E L ↔ ∃ v, L[i]? = some (some v) ∧ w = m_ph E v := by
  unfold m_pairs
  rw [List.mem_filterMap]
  constructor
  · rintro ⟨j, hj, h⟩
    cases hL : L[j]? with
    | none => rw [hL] at h; cases h
    | some o =>
      cases o with
      | none => rw [hL] at h; cases h
      | some v => rw [hL] at h; cases h; exact ⟨v, hL, rfl⟩
  · rintro ⟨v, h1, h2⟩
    refine ⟨i, List.mem_range.mpr (List.getElem?_eq_some_iff.mp h1).1, ?_⟩
    rw [h1, h2]
theorem m_l.has {E : mE} {Y : mY} {ls : Array Slot} {L : List (Option Value)} (h : m_l E Y ls L) : lv_has ls Y.2.2.1 (m_pairs E L) := by
  refine ⟨h.1, h.2.1, fun q hq => ?_⟩
  obtain ⟨i, w⟩ := q
  obtain ⟨v, h1, h2⟩ := m_pairs_mem.mp hq
  subst h2
  exact h.2.2 i v h1
theorem m_l.at {E : mE} {Y : mY} {ls : Array Slot} {L : List (Option Value)} (h : m_l E Y ls L) {i : Nat} {v : Value} (hv : L[i]? = some (some v)) : ls[i]? = some (.val (m_ph E v)) := h.2.2 i v hv
/-- no long stands just below place i -/
def m_nw (L : List (Option Value)) (i : Nat) : Bool := match i with
  | 0 => true
  | j + 1 => match L[j]? with
    | some (some v) => v.category == 1
    | _ => true
theorem m_l.put1 {E : mE} {Y : mY} {ls' : Array Slot} {L : List (Option Value)} {i : Nat} {v : Value} (hw : m_nw L i = true)
    (h' : lv_has ls' Y.2.2.1 ((i, m_ph E v) :: (m_pairs E L).filter (fun q => !(q.1 == i) && !(q.1 + 1 == i && q.2.category == 2)))) : m_l E Y ls' (L.set i (some v)) := by
  refine ⟨h'.1, h'.2.1, fun j w hj => ?_⟩
  by_cases hji : j = i
  · subst hji
    have hl : j < L.length := by have := (List.getElem?_eq_some_iff.mp hj).1; simpa using this
    rw [List.getElem?_set_self hl] at hj
    cases hj
    exact h'.2.2 (j, m_ph E v) List.mem_cons_self
  · rw [List.getElem?_set_ne (fun q => hji q.symm)] at hj
    refine h'.2.2 (j, m_ph E w) (List.mem_cons_of_mem _ (List.mem_filter.mpr ⟨m_pairs_mem.mpr ⟨w, hj, rfl⟩, ?_⟩))
    simp only [Bool.and_eq_true, Bool.not_eq_true', beq_eq_false_iff_ne, ne_eq, Bool.and_eq_false_iff]
    refine ⟨hji, ?_⟩
    by_cases hj1 : j + 1 = i
    · right
      subst hj1
      simp only [m_nw, hj, beq_iff_eq] at hw
      rw [m_ph_cat, hw]
      decide
    · exact Or.inl hj1
theorem m_l.put2 {E : mE} {Y : mY} {ls' : Array Slot} {L : List (Option Value)} {i : Nat} {v : Value} (hw : m_nw L i = true)
    (h' : lv_has ls' Y.2.2.1 ((i, m_ph E v) :: (m_pairs E L).filter (fun q => !(q.1 == i) && (!(q.1 == i + 1) && !(q.1 + 1 == i && q.2.category == 2))))) : m_l E Y ls' ((L.set i (some v)).set (i + 1) none) := by
  refine ⟨h'.1, h'.2.1, fun j w hj => ?_⟩
  by_cases hj2 : j = i + 1
  · subst hj2
    have hl : i + 1 < ((L.set i (some v)).set (i + 1) none).length := (List.getElem?_eq_some_iff.mp hj).1
    rw [List.getElem?_set_self (by simpa using hl)] at hj
    cases hj
  rw [List.getElem?_set_ne (fun q => hj2 q.symm)] at hj
  by_cases hji : j = i
  · subst hji
    have hl : j < L.length := by have := (List.getElem?_eq_some_iff.mp hj).1; simpa using this
    rw [List.getElem?_set_self hl] at hj
    cases hj
    exact h'.2.2 (j, m_ph E v) List.mem_cons_self
  · rw [List.getElem?_set_ne (fun q => hji q.symm)] at hj
    refine h'.2.2 (j, m_ph E w) (List.mem_cons_of_mem _ (List.mem_filter.mpr ⟨m_pairs_mem.mpr ⟨w, hj, rfl⟩, ?_⟩))
    simp only [Bool.and_eq_true, Bool.not_eq_true', beq_eq_false_iff_ne, ne_eq, Bool.and_eq_false_iff]
    refine ⟨hji, hj2, ?_⟩
    by_cases hj1 : j + 1 = i
    · right
      subst hj1
      simp only [m_nw, hj, beq_iff_eq] at hw
      rw [m_ph_cat, hw]
      decide
    · exact Or.inl hj1
/-- fewer locals known -/
def m_le : List (Option Value) → List (Option Value) → Prop
  | [], _ => True
  | none :: a, _ :: b => m_le a b
  | some v :: a, x :: b => x = some v ∧ m_le a b
  | _ :: _, [] => False
theorem m_le_at : ∀ {a b : List (Option Value)}, m_le a b → ∀ {i : Nat} {v : Value}, a[i]? = some (some v) → b[i]? = some (some v)
  | [], _, _, i, v, h => by simp at h
  | none :: a, x :: b, hle, i, v, h => by
    cases i with
    | zero => simp at h
    | succ i => rw [List.getElem?_cons_succ] at h ⊢; exact m_le_at (a := a) (b := b) hle h
  | some w :: a, x :: b, hle, i, v, h => by
    cases i with
    | zero => rw [List.getElem?_cons_zero] at h ⊢; rw [hle.1]; exact h
    | succ i => rw [List.getElem?_cons_succ] at h ⊢; exact m_le_at (a := a) (b := b) hle.2 h
  | none :: a, [], hle, i, v, h => hle.elim
  | some w :: a, [], hle, i, v, h => hle.elim
theorem j_weak {X : mX} {Y : mY} {d pc : Nat} {L L' : List (Option Value)} {st : List Value} {h : mH} {r : mR} (hle : m_le L' L) (k : m_J X Y d pc L' st h r) : m_J X Y d pc L st h r :=
  ⟨k.1, fun E p l e R s m args below meth c H locs ls n0 z0 Q C g1 g2 hh hl K => k.2 E p l e R s m args below meth c H locs ls n0 z0 Q C g1 g2 hh ⟨hl.1, hl.2.1, fun i v hv => hl.2.2 i v (m_le_at hle hv)⟩ K⟩
end
section
theorem j_iconst {X : mX} {Y : mY} {d pc : Nat} {L : List (Option Value)} {st : List Value} {h : mH} {r : mR} {n : Int} {v : Int32} (hv : Int32.ofInt n = v) (hd : decode Y.2.1 pc = .ok (.iconst n, 1)) (k : m_J X Y d (pc + 1) L (.int v :: st) h r) : m_J X Y d pc L (st) h r :=
  ⟨k.1, fun E p l e R s m args below meth c H locs ls n0 z0 Q C g1 g2 hh hl K => lv_iconst C.1 C.2.1 hd hv (k.2 E p l e R s m args below meth c H locs ls n0 z0 Q C g1 g2 hh hl K)⟩
theorem j_bipush {X : mX} {Y : mY} {d pc : Nat} {L : List (Option Value)} {st : List Value} {h : mH} {r : mR} {n : Int} {v : Int32} (hv : (Int8.ofInt n).toInt32 = v) (hd : decode Y.2.1 pc = .ok (.bipush n, 2)) (k : m_J X Y d (pc + 2) L (.int v :: st) h r) : m_J X Y d pc L (st) h r :=
  ⟨k.1, fun E p l e R s m args below meth c H locs ls n0 z0 Q C g1 g2 hh hl K => lv_bipush C.1 C.2.1 hd hv (k.2 E p l e R s m args below meth c H locs ls n0 z0 Q C g1 g2 hh hl K)⟩
theorem j_sipush {X : mX} {Y : mY} {d pc : Nat} {L : List (Option Value)} {st : List Value} {h : mH} {r : mR} {n : Int} {v : Int32} (hv : (Int16.ofInt n).toInt32 = v) (hd : decode Y.2.1 pc = .ok (.sipush n, 3)) (k : m_J X Y d (pc + 3) L (.int v :: st) h r) : m_J X Y d pc L (st) h r :=
  ⟨k.1, fun E p l e R s m args below meth c H locs ls n0 z0 Q C g1 g2 hh hl K => lv_sipush C.1 C.2.1 hd hv (k.2 E p l e R s m args below meth c H locs ls n0 z0 Q C g1 g2 hh hl K)⟩
theorem j_lconst {X : mX} {Y : mY} {d pc : Nat} {L : List (Option Value)} {st : List Value} {h : mH} {r : mR} {n : Fin 2} {v : Int64} (hv : Int64.ofNat (n : Nat) = v) (hd : decode Y.2.1 pc = .ok (.lconst n, 1)) (k : m_J X Y d (pc + 1) L (.long v :: st) h r) : m_J X Y d pc L (st) h r :=
  ⟨k.1, fun E p l e R s m args below meth c H locs ls n0 z0 Q C g1 g2 hh hl K => lv_lconst C.1 C.2.1 hd hv (k.2 E p l e R s m args below meth c H locs ls n0 z0 Q C g1 g2 hh hl K)⟩
theorem j_null {X : mX} {Y : mY} {d pc : Nat} {L : List (Option Value)} {st : List Value} {h : mH} {r : mR}  (hd : decode Y.2.1 pc = .ok (.aconst_null, 1)) (k : m_J X Y d (pc + 1) L (.null :: st) h r) : m_J X Y d pc L (st) h r :=
  ⟨k.1, fun E p l e R s m args below meth c H locs ls n0 z0 Q C g1 g2 hh hl K => lv_null C.1 C.2.1 hd (k.2 E p l e R s m args below meth c H locs ls n0 z0 Q C g1 g2 hh hl K)⟩
theorem j_ldc {X : mX} {Y : mY} {d pc : Nat} {L : List (Option Value)} {st : List Value} {h : mH} {r : mR} {ix : Nat} {v : Int32} (hw : Jvm.Cond.constant Y.1.cls ix v ∈ mT) (hd : decode Y.2.1 pc = .ok (.ldc ix, 2)) (k : m_J X Y d (pc + 2) L (.int v :: st) h r) : m_J X Y d pc L (st) h r :=
  ⟨k.1, fun E p l e R s m args below meth c H locs ls n0 z0 Q C g1 g2 hh hl K => lv_ldc C.1 C.2.1 C.2.2.2.1 (C.2.2.2.2.1 _ hw) hd (k.2 E p l e R s m args below meth c H locs ls n0 z0 Q C g1 g2 hh hl K)⟩
theorem j_ldcw {X : mX} {Y : mY} {d pc : Nat} {L : List (Option Value)} {st : List Value} {h : mH} {r : mR} {ix : Nat} {v : Int32} (hw : Jvm.Cond.constant Y.1.cls ix v ∈ mT) (hd : decode Y.2.1 pc = .ok (.ldc_w ix, 3)) (k : m_J X Y d (pc + 3) L (.int v :: st) h r) : m_J X Y d pc L (st) h r :=
  ⟨k.1, fun E p l e R s m args below meth c H locs ls n0 z0 Q C g1 g2 hh hl K => lv_ldcw C.1 C.2.1 C.2.2.2.1 (C.2.2.2.2.1 _ hw) hd (k.2 E p l e R s m args below meth c H locs ls n0 z0 Q C g1 g2 hh hl K)⟩
theorem j_ldc2 {X : mX} {Y : mY} {d pc : Nat} {L : List (Option Value)} {st : List Value} {h : mH} {r : mR} {ix : Nat} {v : Int64} (hw : Jvm.Cond.constantLong Y.1.cls ix v ∈ mT) (hd : decode Y.2.1 pc = .ok (.ldc2_w ix, 3)) (k : m_J X Y d (pc + 3) L (.long v :: st) h r) : m_J X Y d pc L (st) h r :=
  ⟨k.1, fun E p l e R s m args below meth c H locs ls n0 z0 Q C g1 g2 hh hl K => lv_ldc2 C.1 C.2.1 C.2.2.2.1 (C.2.2.2.2.1 _ hw) hd (k.2 E p l e R s m args below meth c H locs ls n0 z0 Q C g1 g2 hh hl K)⟩
theorem j_iload_n {X : mX} {Y : mY} {d pc : Nat} {L : List (Option Value)} {st : List Value} {h : mH} {r : mR} {n : Fin 4} {i : Nat} {x : Int32} (hi : (n : Nat) = i) (hx : L[i]? = some (some (.int x))) (hd : decode Y.2.1 pc = .ok (.iload_n n, 1)) (k : m_J X Y d (pc + 1) L (.int x :: st) h r) : m_J X Y d pc L (st) h r :=
  ⟨k.1, fun E p l e R s m args below meth c H locs ls n0 z0 Q C g1 g2 hh hl K => lv_iload_n C.1 C.2.1 hd hi (hl.at hx) (k.2 E p l e R s m args below meth c H locs ls n0 z0 Q C g1 g2 hh hl K)⟩
theorem j_iload {X : mX} {Y : mY} {d pc : Nat} {L : List (Option Value)} {st : List Value} {h : mH} {r : mR} {i : Nat} {x : Int32} (hx : L[i]? = some (some (.int x))) (hd : decode Y.2.1 pc = .ok (.iload i, 2)) (k : m_J X Y d (pc + 2) L (.int x :: st) h r) : m_J X Y d pc L (st) h r :=
  ⟨k.1, fun E p l e R s m args below meth c H locs ls n0 z0 Q C g1 g2 hh hl K => lv_iload C.1 C.2.1 hd (hl.at hx) (k.2 E p l e R s m args below meth c H locs ls n0 z0 Q C g1 g2 hh hl K)⟩
theorem j_lload_n {X : mX} {Y : mY} {d pc : Nat} {L : List (Option Value)} {st : List Value} {h : mH} {r : mR} {n : Fin 4} {i : Nat} {x : Int64} (hi : (n : Nat) = i) (hx : L[i]? = some (some (.long x))) (hd : decode Y.2.1 pc = .ok (.lload_n n, 1)) (k : m_J X Y d (pc + 1) L (.long x :: st) h r) : m_J X Y d pc L (st) h r :=
  ⟨k.1, fun E p l e R s m args below meth c H locs ls n0 z0 Q C g1 g2 hh hl K => lv_lload_n C.1 C.2.1 hd hi (hl.at hx) (k.2 E p l e R s m args below meth c H locs ls n0 z0 Q C g1 g2 hh hl K)⟩
theorem j_lload {X : mX} {Y : mY} {d pc : Nat} {L : List (Option Value)} {st : List Value} {h : mH} {r : mR} {i : Nat} {x : Int64} (hx : L[i]? = some (some (.long x))) (hd : decode Y.2.1 pc = .ok (.lload i, 2)) (k : m_J X Y d (pc + 2) L (.long x :: st) h r) : m_J X Y d pc L (st) h r :=
  ⟨k.1, fun E p l e R s m args below meth c H locs ls n0 z0 Q C g1 g2 hh hl K => lv_lload C.1 C.2.1 hd (hl.at hx) (k.2 E p l e R s m args below meth c H locs ls n0 z0 Q C g1 g2 hh hl K)⟩
theorem j_aload_n {X : mX} {Y : mY} {d pc : Nat} {L : List (Option Value)} {st : List Value} {h : mH} {r : mR} {n : Fin 4} {i : Nat} {x : Nat} (hi : (n : Nat) = i) (hx : L[i]? = some (some (.ref x))) (hd : decode Y.2.1 pc = .ok (.aload_n n, 1)) (k : m_J X Y d (pc + 1) L (.ref x :: st) h r) : m_J X Y d pc L (st) h r :=
  ⟨k.1, fun E p l e R s m args below meth c H locs ls n0 z0 Q C g1 g2 hh hl K => lv_aload_n C.1 C.2.1 hd hi (hl.at hx) (k.2 E p l e R s m args below meth c H locs ls n0 z0 Q C g1 g2 hh hl K)⟩
theorem j_aload {X : mX} {Y : mY} {d pc : Nat} {L : List (Option Value)} {st : List Value} {h : mH} {r : mR} {i : Nat} {x : Nat} (hx : L[i]? = some (some (.ref x))) (hd : decode Y.2.1 pc = .ok (.aload i, 2)) (k : m_J X Y d (pc + 2) L (.ref x :: st) h r) : m_J X Y d pc L (st) h r :=
  ⟨k.1, fun E p l e R s m args below meth c H locs ls n0 z0 Q C g1 g2 hh hl K => lv_aload C.1 C.2.1 hd (hl.at hx) (k.2 E p l e R s m args below meth c H locs ls n0 z0 Q C g1 g2 hh hl K)⟩
theorem j_aloadq_n {X : mX} {Y : mY} {d pc : Nat} {L : List (Option Value)} {st : List Value} {h : mH} {r : mR} {n : Fin 4} {i : Nat} {q : Option Nat} (hi : (n : Nat) = i) (hx : L[i]? = some (some (va_rf q))) (hd : decode Y.2.1 pc = .ok (.aload_n n, 1)) (k : m_J X Y d (pc + 1) L (va_rf q :: st) h r) : m_J X Y d pc L st h r := by
  refine ⟨k.1, fun E p l e R s m args below meth c H locs ls n0 z0 Q C g1 g2 hh hl K => ?_⟩
  have hk := k.2 E p l e R s m args below meth c H locs ls n0 z0 Q C g1 g2 hh hl K
  have ha := hl.at hx
  cases q with
  | none => exact lv_aload_nN C.1 C.2.1 hd hi ha hk
  | some a => exact lv_aload_n C.1 C.2.1 hd hi ha hk
theorem j_aloadq {X : mX} {Y : mY} {d pc : Nat} {L : List (Option Value)} {st : List Value} {h : mH} {r : mR} {i : Nat} {q : Option Nat} (hx : L[i]? = some (some (va_rf q))) (hd : decode Y.2.1 pc = .ok (.aload i, 2)) (k : m_J X Y d (pc + 2) L (va_rf q :: st) h r) : m_J X Y d pc L st h r := by
  refine ⟨k.1, fun E p l e R s m args below meth c H locs ls n0 z0 Q C g1 g2 hh hl K => ?_⟩
  have hk := k.2 E p l e R s m args below meth c H locs ls n0 z0 Q C g1 g2 hh hl K
  have ha := hl.at hx
  cases q with
  | none => exact lv_aloadN C.1 C.2.1 hd ha hk
  | some a => exact lv_aload C.1 C.2.1 hd ha hk
theorem j_tload_n {X : mX} {Y : mY} {d pc : Nat} {L : List (Option Value)} {st : List Value} {h : mH} {r : mR} {n : Fin 4} {i : Nat} {b : UInt32} (hi : (n : Nat) = i) (hx : L[i]? = some (some (.float b))) (hd : decode Y.2.1 pc = .ok (.aload_n n, 1)) (k : m_J X Y d (pc + 1) L (.float b :: st) h r) : m_J X Y d pc L st h r :=
  ⟨k.1, fun E p l e R s m args below meth c H locs ls n0 z0 Q C g1 g2 hh hl K => lv_aload_n C.1 C.2.1 hd hi (hl.at hx) (k.2 E p l e R s m args below meth c H locs ls n0 z0 Q C g1 g2 hh hl K)⟩
theorem j_istore_n {X : mX} {Y : mY} {d pc : Nat} {L : List (Option Value)} {st : List Value} {h : mH} {r : mR} {n : Fin 4} {i : Nat} {x : Int32} {L' : List (Option Value)} (hi : (n : Nat) = i) (hb : i < Y.2.2.1) (hw : m_nw L i = true) (hL : L.set i (some (.int x)) = L') (hd : decode Y.2.1 pc = .ok (.istore_n n, 1)) (k : m_J X Y d (pc + 1) L' st h r) : m_J X Y d pc L (.int x :: st) h r :=
  ⟨k.1, fun E p l e R s m args below meth c H locs ls n0 z0 Q C g1 g2 hh hl K => lv_istore_n C.1 C.2.1 hd hi hl.has hb rfl (fun ls' hl' => k.2 E p l e R s m args below meth c H locs ls' n0 z0 Q C g1 g2 hh (hL ▸ m_l.put1 (v := .int x) hw hl') K)⟩
theorem j_istore {X : mX} {Y : mY} {d pc : Nat} {L : List (Option Value)} {st : List Value} {h : mH} {r : mR} {i : Nat} {x : Int32} {L' : List (Option Value)} (hb : i < Y.2.2.1) (hw : m_nw L i = true) (hL : L.set i (some (.int x)) = L') (hd : decode Y.2.1 pc = .ok (.istore i, 2)) (k : m_J X Y d (pc + 2) L' st h r) : m_J X Y d pc L (.int x :: st) h r :=
  ⟨k.1, fun E p l e R s m args below meth c H locs ls n0 z0 Q C g1 g2 hh hl K => lv_istore C.1 C.2.1 hd hl.has hb rfl (fun ls' hl' => k.2 E p l e R s m args below meth c H locs ls' n0 z0 Q C g1 g2 hh (hL ▸ m_l.put1 (v := .int x) hw hl') K)⟩
theorem j_lstore_n {X : mX} {Y : mY} {d pc : Nat} {L : List (Option Value)} {st : List Value} {h : mH} {r : mR} {n : Fin 4} {i : Nat} {x : Int64} {L' : List (Option Value)} (hi : (n : Nat) = i) (hb : i + 1 < Y.2.2.1) (hw : m_nw L i = true) (hL : (L.set i (some (.long x))).set (i + 1) none = L') (hd : decode Y.2.1 pc = .ok (.lstore_n n, 1)) (k : m_J X Y d (pc + 1) L' st h r) : m_J X Y d pc L (.long x :: st) h r :=
  ⟨k.1, fun E p l e R s m args below meth c H locs ls n0 z0 Q C g1 g2 hh hl K => lv_lstore_n C.1 C.2.1 hd hi hl.has hb rfl (fun ls' hl' => k.2 E p l e R s m args below meth c H locs ls' n0 z0 Q C g1 g2 hh (hL ▸ m_l.put2 (v := .long x) hw hl') K)⟩
theorem j_lstore {X : mX} {Y : mY} {d pc : Nat} {L : List (Option Value)} {st : List Value} {h : mH} {r : mR} {i : Nat} {x : Int64} {L' : List (Option Value)} (hb : i + 1 < Y.2.2.1) (hw : m_nw L i = true) (hL : (L.set i (some (.long x))).set (i + 1) none = L') (hd : decode Y.2.1 pc = .ok (.lstore i, 2)) (k : m_J X Y d (pc + 2) L' st h r) : m_J X Y d pc L (.long x :: st) h r :=
  ⟨k.1, fun E p l e R s m args below meth c H locs ls n0 z0 Q C g1 g2 hh hl K => lv_lstore C.1 C.2.1 hd hl.has hb rfl (fun ls' hl' => k.2 E p l e R s m args below meth c H locs ls' n0 z0 Q C g1 g2 hh (hL ▸ m_l.put2 (v := .long x) hw hl') K)⟩
theorem j_astore_n {X : mX} {Y : mY} {d pc : Nat} {L : List (Option Value)} {st : List Value} {h : mH} {r : mR} {n : Fin 4} {i : Nat} {x : Nat} {L' : List (Option Value)} (hi : (n : Nat) = i) (hb : i < Y.2.2.1) (hw : m_nw L i = true) (hL : L.set i (some (.ref x)) = L') (hd : decode Y.2.1 pc = .ok (.astore_n n, 1)) (k : m_J X Y d (pc + 1) L' st h r) : m_J X Y d pc L (.ref x :: st) h r :=
  ⟨k.1, fun E p l e R s m args below meth c H locs ls n0 z0 Q C g1 g2 hh hl K => lv_astore_n C.1 C.2.1 hd hi hl.has hb rfl (fun ls' hl' => k.2 E p l e R s m args below meth c H locs ls' n0 z0 Q C g1 g2 hh (hL ▸ m_l.put1 (v := .ref x) hw hl') K)⟩
theorem j_astore {X : mX} {Y : mY} {d pc : Nat} {L : List (Option Value)} {st : List Value} {h : mH} {r : mR} {i : Nat} {x : Nat} {L' : List (Option Value)} (hb : i < Y.2.2.1) (hw : m_nw L i = true) (hL : L.set i (some (.ref x)) = L') (hd : decode Y.2.1 pc = .ok (.astore i, 2)) (k : m_J X Y d (pc + 2) L' st h r) : m_J X Y d pc L (.ref x :: st) h r :=
  ⟨k.1, fun E p l e R s m args below meth c H locs ls n0 z0 Q C g1 g2 hh hl K => lv_astore C.1 C.2.1 hd hl.has hb rfl (fun ls' hl' => k.2 E p l e R s m args below meth c H locs ls' n0 z0 Q C g1 g2 hh (hL ▸ m_l.put1 (v := .ref x) hw hl') K)⟩
theorem j_astoreq_n {X : mX} {Y : mY} {d pc : Nat} {L : List (Option Value)} {st : List Value} {h : mH} {r : mR} {n : Fin 4} {i : Nat} {q : Option Nat} {L' : List (Option Value)} (hi : (n : Nat) = i) (hb : i < Y.2.2.1) (hw : m_nw L i = true) (hL : L.set i (some (va_rf q)) = L') (hd : decode Y.2.1 pc = .ok (.astore_n n, 1)) (k : m_J X Y d (pc + 1) L' st h r) : m_J X Y d pc L (va_rf q :: st) h r := by
  refine ⟨k.1, fun E p l e R s m args below meth c H locs ls n0 z0 Q C g1 g2 hh hl K => ?_⟩
  have hk := fun ls' hl' => k.2 E p l e R s m args below meth c H locs ls' n0 z0 Q C g1 g2 hh (hL ▸ m_l.put1 (v := va_rf q) hw hl') K
  cases q with
  | none => exact lv_astore_nN C.1 C.2.1 hd hi hl.has hb rfl hk
  | some x => exact lv_astore_n C.1 C.2.1 hd hi hl.has hb rfl hk
theorem j_astoreq {X : mX} {Y : mY} {d pc : Nat} {L : List (Option Value)} {st : List Value} {h : mH} {r : mR} {i : Nat} {q : Option Nat} {L' : List (Option Value)} (hb : i < Y.2.2.1) (hw : m_nw L i = true) (hL : L.set i (some (va_rf q)) = L') (hd : decode Y.2.1 pc = .ok (.astore i, 2)) (k : m_J X Y d (pc + 2) L' st h r) : m_J X Y d pc L (va_rf q :: st) h r := by
  refine ⟨k.1, fun E p l e R s m args below meth c H locs ls n0 z0 Q C g1 g2 hh hl K => ?_⟩
  have hk := fun ls' hl' => k.2 E p l e R s m args below meth c H locs ls' n0 z0 Q C g1 g2 hh (hL ▸ m_l.put1 (v := va_rf q) hw hl') K
  cases q with
  | none => exact lv_astoreN C.1 C.2.1 hd hl.has hb rfl hk
  | some x => exact lv_astore C.1 C.2.1 hd hl.has hb rfl hk
theorem m_pairs_get {E : mE} {L : List (Option Value)} {i : Nat} {v : Value} (hv : L[i]? = some (some v)) : ∃ k : Nat, (m_pairs E L)[k]? = some (i, m_ph E v) := by
  obtain ⟨k, hk⟩ := List.getElem?_of_mem (m_pairs_mem.mpr ⟨v, hv, rfl⟩)
  exact ⟨k, hk⟩
theorem j_iinc {X : mX} {Y : mY} {d pc : Nat} {L : List (Option Value)} {st : List Value} {h : mH} {r : mR} {i : Nat} {n : Int} {x v : Int32} {L' : List (Option Value)} (hx : L[i]? = some (some (.int x))) (hv : x + Int32.ofInt n = v) (hb : i < Y.2.2.1) (hw : m_nw L i = true) (hL : L.set i (some (.int v)) = L') (hd : decode Y.2.1 pc = .ok (.iinc i n, 3)) (k : m_J X Y d (pc + 3) L' st h r) : m_J X Y d pc L st h r := by
  refine ⟨k.1, fun E p l e R s m args below meth c H locs ls n0 z0 Q C g1 g2 hh hl K => ?_⟩
  obtain ⟨kp, hkp⟩ := m_pairs_get (E := E) hx
  exact lv_iinc C.1 C.2.1 hd hl.has hkp hv hb rfl (fun ls' hl' => k.2 E p l e R s m args below meth c H locs ls' n0 z0 Q C g1 g2 hh (hL ▸ m_l.put1 (v := .int v) hw hl') K)
theorem j_iadd {X : mX} {Y : mY} {d pc : Nat} {L : List (Option Value)} {st : List Value} {h : mH} {r : mR} {x y : Int32} (hd : decode Y.2.1 pc = .ok (.iadd, 1)) (k : m_J X Y d (pc + 1) L (.int (x + y) :: st) h r) : m_J X Y d pc L (.int y :: .int x :: st) h r :=
  ⟨k.1, fun E p l e R s m args below meth c H locs ls n0 z0 Q C g1 g2 hh hl K => lv_iadd C.1 C.2.1 hd (k.2 E p l e R s m args below meth c H locs ls n0 z0 Q C g1 g2 hh hl K)⟩
theorem j_isub {X : mX} {Y : mY} {d pc : Nat} {L : List (Option Value)} {st : List Value} {h : mH} {r : mR} {x y : Int32} (hd : decode Y.2.1 pc = .ok (.isub, 1)) (k : m_J X Y d (pc + 1) L (.int (x - y) :: st) h r) : m_J X Y d pc L (.int y :: .int x :: st) h r :=
  ⟨k.1, fun E p l e R s m args below meth c H locs ls n0 z0 Q C g1 g2 hh hl K => lv_isub C.1 C.2.1 hd (k.2 E p l e R s m args below meth c H locs ls n0 z0 Q C g1 g2 hh hl K)⟩
theorem j_imul {X : mX} {Y : mY} {d pc : Nat} {L : List (Option Value)} {st : List Value} {h : mH} {r : mR} {x y : Int32} (hd : decode Y.2.1 pc = .ok (.imul, 1)) (k : m_J X Y d (pc + 1) L (.int (x * y) :: st) h r) : m_J X Y d pc L (.int y :: .int x :: st) h r :=
  ⟨k.1, fun E p l e R s m args below meth c H locs ls n0 z0 Q C g1 g2 hh hl K => lv_imul C.1 C.2.1 hd (k.2 E p l e R s m args below meth c H locs ls n0 z0 Q C g1 g2 hh hl K)⟩
theorem j_iand {X : mX} {Y : mY} {d pc : Nat} {L : List (Option Value)} {st : List Value} {h : mH} {r : mR} {x y : Int32} (hd : decode Y.2.1 pc = .ok (.iand, 1)) (k : m_J X Y d (pc + 1) L (.int (x &&& y) :: st) h r) : m_J X Y d pc L (.int y :: .int x :: st) h r :=
  ⟨k.1, fun E p l e R s m args below meth c H locs ls n0 z0 Q C g1 g2 hh hl K => lv_iand C.1 C.2.1 hd (k.2 E p l e R s m args below meth c H locs ls n0 z0 Q C g1 g2 hh hl K)⟩
theorem j_ladd {X : mX} {Y : mY} {d pc : Nat} {L : List (Option Value)} {st : List Value} {h : mH} {r : mR} {x y : Int64} (hd : decode Y.2.1 pc = .ok (.ladd, 1)) (k : m_J X Y d (pc + 1) L (.long (x + y) :: st) h r) : m_J X Y d pc L (.long y :: .long x :: st) h r :=
  ⟨k.1, fun E p l e R s m args below meth c H locs ls n0 z0 Q C g1 g2 hh hl K => lv_ladd C.1 C.2.1 hd (k.2 E p l e R s m args below meth c H locs ls n0 z0 Q C g1 g2 hh hl K)⟩
theorem j_lsub {X : mX} {Y : mY} {d pc : Nat} {L : List (Option Value)} {st : List Value} {h : mH} {r : mR} {x y : Int64} (hd : decode Y.2.1 pc = .ok (.lsub, 1)) (k : m_J X Y d (pc + 1) L (.long (x - y) :: st) h r) : m_J X Y d pc L (.long y :: .long x :: st) h r :=
  ⟨k.1, fun E p l e R s m args below meth c H locs ls n0 z0 Q C g1 g2 hh hl K => lv_lsub C.1 C.2.1 hd (k.2 E p l e R s m args below meth c H locs ls n0 z0 Q C g1 g2 hh hl K)⟩
theorem j_land {X : mX} {Y : mY} {d pc : Nat} {L : List (Option Value)} {st : List Value} {h : mH} {r : mR} {x y : Int64} (hd : decode Y.2.1 pc = .ok (.land, 1)) (k : m_J X Y d (pc + 1) L (.long (x &&& y) :: st) h r) : m_J X Y d pc L (.long y :: .long x :: st) h r :=
  ⟨k.1, fun E p l e R s m args below meth c H locs ls n0 z0 Q C g1 g2 hh hl K => lv_land C.1 C.2.1 hd (k.2 E p l e R s m args below meth c H locs ls n0 z0 Q C g1 g2 hh hl K)⟩
theorem j_lor {X : mX} {Y : mY} {d pc : Nat} {L : List (Option Value)} {st : List Value} {h : mH} {r : mR} {x y : Int64} (hd : decode Y.2.1 pc = .ok (.lor, 1)) (k : m_J X Y d (pc + 1) L (.long (x ||| y) :: st) h r) : m_J X Y d pc L (.long y :: .long x :: st) h r :=
  ⟨k.1, fun E p l e R s m args below meth c H locs ls n0 z0 Q C g1 g2 hh hl K => lv_lor C.1 C.2.1 hd (k.2 E p l e R s m args below meth c H locs ls n0 z0 Q C g1 g2 hh hl K)⟩
theorem j_lxor {X : mX} {Y : mY} {d pc : Nat} {L : List (Option Value)} {st : List Value} {h : mH} {r : mR} {x y : Int64} (hd : decode Y.2.1 pc = .ok (.lxor, 1)) (k : m_J X Y d (pc + 1) L (.long (x ^^^ y) :: st) h r) : m_J X Y d pc L (.long y :: .long x :: st) h r :=
  ⟨k.1, fun E p l e R s m args below meth c H locs ls n0 z0 Q C g1 g2 hh hl K => lv_lxor C.1 C.2.1 hd (k.2 E p l e R s m args below meth c H locs ls n0 z0 Q C g1 g2 hh hl K)⟩
theorem j_lshl {X : mX} {Y : mY} {d pc : Nat} {L : List (Option Value)} {st : List Value} {h : mH} {r : mR} {x : Int64} {y : Int32} (hd : decode Y.2.1 pc = .ok (.lshl, 1)) (k : m_J X Y d (pc + 1) L (.long (x <<< (y.toInt64 &&& 63)) :: st) h r) : m_J X Y d pc L (.int y :: .long x :: st) h r :=
  ⟨k.1, fun E p l e R s m args below meth c H locs ls n0 z0 Q C g1 g2 hh hl K => lv_lshl C.1 C.2.1 hd rfl (k.2 E p l e R s m args below meth c H locs ls n0 z0 Q C g1 g2 hh hl K)⟩
theorem j_lshr {X : mX} {Y : mY} {d pc : Nat} {L : List (Option Value)} {st : List Value} {h : mH} {r : mR} {x : Int64} {y : Int32} (hd : decode Y.2.1 pc = .ok (.lshr, 1)) (k : m_J X Y d (pc + 1) L (.long (x >>> (y.toInt64 &&& 63)) :: st) h r) : m_J X Y d pc L (.int y :: .long x :: st) h r :=
  ⟨k.1, fun E p l e R s m args below meth c H locs ls n0 z0 Q C g1 g2 hh hl K => lv_lshr C.1 C.2.1 hd rfl (k.2 E p l e R s m args below meth c H locs ls n0 z0 Q C g1 g2 hh hl K)⟩
theorem j_lushr {X : mX} {Y : mY} {d pc : Nat} {L : List (Option Value)} {st : List Value} {h : mH} {r : mR} {x : Int64} {y : Int32} (hd : decode Y.2.1 pc = .ok (.lushr, 1)) (k : m_J X Y d (pc + 1) L (.long ((x.toUInt64 >>> (y.toInt64.toUInt64 &&& Int64.toUInt64 63)).toInt64) :: st) h r) : m_J X Y d pc L (.int y :: .long x :: st) h r :=
  ⟨k.1, fun E p l e R s m args below meth c H locs ls n0 z0 Q C g1 g2 hh hl K => lv_lushr C.1 C.2.1 hd rfl (k.2 E p l e R s m args below meth c H locs ls n0 z0 Q C g1 g2 hh hl K)⟩
theorem j_l2i {X : mX} {Y : mY} {d pc : Nat} {L : List (Option Value)} {st : List Value} {h : mH} {r : mR} {x : Int64} (hd : decode Y.2.1 pc = .ok (.l2i, 1)) (k : m_J X Y d (pc + 1) L (.int x.toInt32 :: st) h r) : m_J X Y d pc L (.long x :: st) h r :=
  ⟨k.1, fun E p l e R s m args below meth c H locs ls n0 z0 Q C g1 g2 hh hl K => lv_l2i C.1 C.2.1 hd rfl (k.2 E p l e R s m args below meth c H locs ls n0 z0 Q C g1 g2 hh hl K)⟩
theorem j_lcmp {X : mX} {Y : mY} {d pc : Nat} {L : List (Option Value)} {st : List Value} {h : mH} {r : mR} {x y : Int64} (hd : decode Y.2.1 pc = .ok (.lcmp, 1)) (k : m_J X Y d (pc + 1) L (.int (lg_cmp x y) :: st) h r) : m_J X Y d pc L (.long y :: .long x :: st) h r :=
  ⟨k.1, fun E p l e R s m args below meth c H locs ls n0 z0 Q C g1 g2 hh hl K => W.lcmp C.1 C.2.1 hd (k.2 E p l e R s m args below meth c H locs ls n0 z0 Q C g1 g2 hh hl K)⟩
theorem m_c1 {E : mE} {v : Value} (h : v.category = 1) : (m_ph E v).category = 1 := (m_ph_cat E v).trans h
theorem m_c2 {E : mE} {v : Value} (h : v.category = 2) : (m_ph E v).category = 2 := (m_ph_cat E v).trans h
theorem m_crf (q : Option Nat) : (va_rf q).category = 1 := by cases q <;> rfl
theorem j_dup {X : mX} {Y : mY} {d pc : Nat} {L : List (Option Value)} {st : List Value} {h : mH} {r : mR} {v : Value} (hv : v.category = 1) (hd : decode Y.2.1 pc = .ok (.dup, 1)) (k : m_J X Y d (pc + 1) L (v :: v :: st) h r) : m_J X Y d pc L (v :: st) h r :=
  ⟨k.1, fun E p l e R s m args below meth c H locs ls n0 z0 Q C g1 g2 hh hl K => lv_dup C.1 C.2.1 hd (m_c1 hv) (k.2 E p l e R s m args below meth c H locs ls n0 z0 Q C g1 g2 hh hl K)⟩
theorem j_pop {X : mX} {Y : mY} {d pc : Nat} {L : List (Option Value)} {st : List Value} {h : mH} {r : mR} {v : Value} (hv : v.category = 1) (hd : decode Y.2.1 pc = .ok (.pop, 1)) (k : m_J X Y d (pc + 1) L (st) h r) : m_J X Y d pc L (v :: st) h r :=
  ⟨k.1, fun E p l e R s m args below meth c H locs ls n0 z0 Q C g1 g2 hh hl K => lv_pop C.1 C.2.1 hd (m_c1 hv) (k.2 E p l e R s m args below meth c H locs ls n0 z0 Q C g1 g2 hh hl K)⟩
theorem j_dup2 {X : mX} {Y : mY} {d pc : Nat} {L : List (Option Value)} {st : List Value} {h : mH} {r : mR} {v w : Value} (hv : v.category = 1) (hw : w.category = 1) (hd : decode Y.2.1 pc = .ok (.dup2, 1)) (k : m_J X Y d (pc + 1) L (v :: w :: v :: w :: st) h r) : m_J X Y d pc L (v :: w :: st) h r :=
  ⟨k.1, fun E p l e R s m args below meth c H locs ls n0 z0 Q C g1 g2 hh hl K => lv_dup2_11 C.1 C.2.1 hd (m_c1 hv) (m_c1 hw) (k.2 E p l e R s m args below meth c H locs ls n0 z0 Q C g1 g2 hh hl K)⟩
theorem j_if_eq {X : mX} {Y : mY} {d pc : Nat} {L : List (Option Value)} {st : List Value} {h : mH} {r : mR} {x : Int32} {off : Int} {tgt : Nat} (hd : decode Y.2.1 pc = .ok (.ifCond .eq off, 3)) (ht : (pc : Int) + off = (tgt : Int)) (kt : x = 0 → m_J X Y d tgt L st h r) (kf : ¬ x = 0 → m_J X Y d (pc + 3) L st h r) : m_J X Y d pc L (.int x :: st) h r :=
  ⟨by by_cases q : x = 0
      · exact (kt q).1
      · exact (kf q).1, fun E p l e R s m args below meth c H locs ls n0 z0 Q C g1 g2 hh hl K => lv_if_eq C.1 C.2.1 hd ht (fun q => (kt q).2 E p l e R s m args below meth c H locs ls n0 z0 Q C g1 g2 hh hl K) (fun q => (kf q).2 E p l e R s m args below meth c H locs ls n0 z0 Q C g1 g2 hh hl K)⟩
theorem j_if_ne {X : mX} {Y : mY} {d pc : Nat} {L : List (Option Value)} {st : List Value} {h : mH} {r : mR} {x : Int32} {off : Int} {tgt : Nat} (hd : decode Y.2.1 pc = .ok (.ifCond .ne off, 3)) (ht : (pc : Int) + off = (tgt : Int)) (kt : ¬ x = 0 → m_J X Y d tgt L st h r) (kf : x = 0 → m_J X Y d (pc + 3) L st h r) : m_J X Y d pc L (.int x :: st) h r :=
  ⟨by by_cases q : x = 0
      · exact (kf q).1
      · exact (kt q).1, fun E p l e R s m args below meth c H locs ls n0 z0 Q C g1 g2 hh hl K => lv_if_ne C.1 C.2.1 hd ht (fun q => (kt q).2 E p l e R s m args below meth c H locs ls n0 z0 Q C g1 g2 hh hl K) (fun q => (kf q).2 E p l e R s m args below meth c H locs ls n0 z0 Q C g1 g2 hh hl K)⟩
theorem j_if_lt {X : mX} {Y : mY} {d pc : Nat} {L : List (Option Value)} {st : List Value} {h : mH} {r : mR} {x : Int32} {off : Int} {tgt : Nat} (hd : decode Y.2.1 pc = .ok (.ifCond .lt off, 3)) (ht : (pc : Int) + off = (tgt : Int)) (kt : x < 0 → m_J X Y d tgt L st h r) (kf : ¬ x < 0 → m_J X Y d (pc + 3) L st h r) : m_J X Y d pc L (.int x :: st) h r :=
  ⟨by by_cases q : x < 0
      · exact (kt q).1
      · exact (kf q).1, fun E p l e R s m args below meth c H locs ls n0 z0 Q C g1 g2 hh hl K => lv_if_lt C.1 C.2.1 hd ht (fun q => (kt q).2 E p l e R s m args below meth c H locs ls n0 z0 Q C g1 g2 hh hl K) (fun q => (kf q).2 E p l e R s m args below meth c H locs ls n0 z0 Q C g1 g2 hh hl K)⟩
theorem j_if_ge {X : mX} {Y : mY} {d pc : Nat} {L : List (Option Value)} {st : List Value} {h : mH} {r : mR} {x : Int32} {off : Int} {tgt : Nat} (hd : decode Y.2.1 pc = .ok (.ifCond .ge off, 3)) (ht : (pc : Int) + off = (tgt : Int)) (kt : 0 ≤ x → m_J X Y d tgt L st h r) (kf : ¬ 0 ≤ x → m_J X Y d (pc + 3) L st h r) : m_J X Y d pc L (.int x :: st) h r :=
  ⟨by by_cases q : 0 ≤ x
      · exact (kt q).1
      · exact (kf q).1, fun E p l e R s m args below meth c H locs ls n0 z0 Q C g1 g2 hh hl K => lv_if_ge C.1 C.2.1 hd ht (fun q => (kt q).2 E p l e R s m args below meth c H locs ls n0 z0 Q C g1 g2 hh hl K) (fun q => (kf q).2 E p l e R s m args below meth c H locs ls n0 z0 Q C g1 g2 hh hl K)⟩
theorem j_if_gt {X : mX} {Y : mY} {d pc : Nat} {L : List (Option Value)} {st : List Value} {h : mH} {r : mR} {x : Int32} {off : Int} {tgt : Nat} (hd : decode Y.2.1 pc = .ok (.ifCond .gt off, 3)) (ht : (pc : Int) + off = (tgt : Int)) (kt : 0 < x → m_J X Y d tgt L st h r) (kf : ¬ 0 < x → m_J X Y d (pc + 3) L st h r) : m_J X Y d pc L (.int x :: st) h r :=
  ⟨by by_cases q : 0 < x
      · exact (kt q).1
      · exact (kf q).1, fun E p l e R s m args below meth c H locs ls n0 z0 Q C g1 g2 hh hl K => lv_if_gt C.1 C.2.1 hd ht (fun q => (kt q).2 E p l e R s m args below meth c H locs ls n0 z0 Q C g1 g2 hh hl K) (fun q => (kf q).2 E p l e R s m args below meth c H locs ls n0 z0 Q C g1 g2 hh hl K)⟩
theorem j_if_le {X : mX} {Y : mY} {d pc : Nat} {L : List (Option Value)} {st : List Value} {h : mH} {r : mR} {x : Int32} {off : Int} {tgt : Nat} (hd : decode Y.2.1 pc = .ok (.ifCond .le off, 3)) (ht : (pc : Int) + off = (tgt : Int)) (kt : x ≤ 0 → m_J X Y d tgt L st h r) (kf : ¬ x ≤ 0 → m_J X Y d (pc + 3) L st h r) : m_J X Y d pc L (.int x :: st) h r :=
  ⟨by by_cases q : x ≤ 0
      · exact (kt q).1
      · exact (kf q).1, fun E p l e R s m args below meth c H locs ls n0 z0 Q C g1 g2 hh hl K => lv_if_le C.1 C.2.1 hd ht (fun q => (kt q).2 E p l e R s m args below meth c H locs ls n0 z0 Q C g1 g2 hh hl K) (fun q => (kf q).2 E p l e R s m args below meth c H locs ls n0 z0 Q C g1 g2 hh hl K)⟩
theorem j_ic_eq {X : mX} {Y : mY} {d pc : Nat} {L : List (Option Value)} {st : List Value} {h : mH} {r : mR} {x y : Int32} {off : Int} {tgt : Nat} (hd : decode Y.2.1 pc = .ok (.if_icmp .eq off, 3)) (ht : (pc : Int) + off = (tgt : Int)) (kt : x = y → m_J X Y d tgt L st h r) (kf : ¬ x = y → m_J X Y d (pc + 3) L st h r) : m_J X Y d pc L (.int y :: .int x :: st) h r :=
  ⟨by by_cases q : x = y
      · exact (kt q).1
      · exact (kf q).1, fun E p l e R s m args below meth c H locs ls n0 z0 Q C g1 g2 hh hl K => lv_icmp_eq C.1 C.2.1 hd ht (fun q => (kt q).2 E p l e R s m args below meth c H locs ls n0 z0 Q C g1 g2 hh hl K) (fun q => (kf q).2 E p l e R s m args below meth c H locs ls n0 z0 Q C g1 g2 hh hl K)⟩
theorem j_ic_ne {X : mX} {Y : mY} {d pc : Nat} {L : List (Option Value)} {st : List Value} {h : mH} {r : mR} {x y : Int32} {off : Int} {tgt : Nat} (hd : decode Y.2.1 pc = .ok (.if_icmp .ne off, 3)) (ht : (pc : Int) + off = (tgt : Int)) (kt : ¬ x = y → m_J X Y d tgt L st h r) (kf : x = y → m_J X Y d (pc + 3) L st h r) : m_J X Y d pc L (.int y :: .int x :: st) h r :=
  ⟨by by_cases q : x = y
      · exact (kf q).1
      · exact (kt q).1, fun E p l e R s m args below meth c H locs ls n0 z0 Q C g1 g2 hh hl K => lv_icmp_ne C.1 C.2.1 hd ht (fun q => (kt q).2 E p l e R s m args below meth c H locs ls n0 z0 Q C g1 g2 hh hl K) (fun q => (kf q).2 E p l e R s m args below meth c H locs ls n0 z0 Q C g1 g2 hh hl K)⟩
theorem j_ic_lt {X : mX} {Y : mY} {d pc : Nat} {L : List (Option Value)} {st : List Value} {h : mH} {r : mR} {x y : Int32} {off : Int} {tgt : Nat} (hd : decode Y.2.1 pc = .ok (.if_icmp .lt off, 3)) (ht : (pc : Int) + off = (tgt : Int)) (kt : x < y → m_J X Y d tgt L st h r) (kf : ¬ x < y → m_J X Y d (pc + 3) L st h r) : m_J X Y d pc L (.int y :: .int x :: st) h r :=
  ⟨by by_cases q : x < y
      · exact (kt q).1
      · exact (kf q).1, fun E p l e R s m args below meth c H locs ls n0 z0 Q C g1 g2 hh hl K => lv_icmp_lt C.1 C.2.1 hd ht (fun q => (kt q).2 E p l e R s m args below meth c H locs ls n0 z0 Q C g1 g2 hh hl K) (fun q => (kf q).2 E p l e R s m args below meth c H locs ls n0 z0 Q C g1 g2 hh hl K)⟩
theorem j_ic_ge {X : mX} {Y : mY} {d pc : Nat} {L : List (Option Value)} {st : List Value} {h : mH} {r : mR} {x y : Int32} {off : Int} {tgt : Nat} (hd : decode Y.2.1 pc = .ok (.if_icmp .ge off, 3)) (ht : (pc : Int) + off = (tgt : Int)) (kt : y ≤ x → m_J X Y d tgt L st h r) (kf : ¬ y ≤ x → m_J X Y d (pc + 3) L st h r) : m_J X Y d pc L (.int y :: .int x :: st) h r :=
  ⟨by by_cases q : y ≤ x
      · exact (kt q).1
      · exact (kf q).1, fun E p l e R s m args below meth c H locs ls n0 z0 Q C g1 g2 hh hl K => lv_icmp_ge C.1 C.2.1 hd ht (fun q => (kt q).2 E p l e R s m args below meth c H locs ls n0 z0 Q C g1 g2 hh hl K) (fun q => (kf q).2 E p l e R s m args below meth c H locs ls n0 z0 Q C g1 g2 hh hl K)⟩
theorem j_ic_gt {X : mX} {Y : mY} {d pc : Nat} {L : List (Option Value)} {st : List Value} {h : mH} {r : mR} {x y : Int32} {off : Int} {tgt : Nat} (hd : decode Y.2.1 pc = .ok (.if_icmp .gt off, 3)) (ht : (pc : Int) + off = (tgt : Int)) (kt : y < x → m_J X Y d tgt L st h r) (kf : ¬ y < x → m_J X Y d (pc + 3) L st h r) : m_J X Y d pc L (.int y :: .int x :: st) h r :=
  ⟨by by_cases q : y < x
      · exact (kt q).1
      · exact (kf q).1, fun E p l e R s m args below meth c H locs ls n0 z0 Q C g1 g2 hh hl K => lv_icmp_gt C.1 C.2.1 hd ht (fun q => (kt q).2 E p l e R s m args below meth c H locs ls n0 z0 Q C g1 g2 hh hl K) (fun q => (kf q).2 E p l e R s m args below meth c H locs ls n0 z0 Q C g1 g2 hh hl K)⟩
theorem j_ic_le {X : mX} {Y : mY} {d pc : Nat} {L : List (Option Value)} {st : List Value} {h : mH} {r : mR} {x y : Int32} {off : Int} {tgt : Nat} (hd : decode Y.2.1 pc = .ok (.if_icmp .le off, 3)) (ht : (pc : Int) + off = (tgt : Int)) (kt : x ≤ y → m_J X Y d tgt L st h r) (kf : ¬ x ≤ y → m_J X Y d (pc + 3) L st h r) : m_J X Y d pc L (.int y :: .int x :: st) h r :=
  ⟨by by_cases q : x ≤ y
      · exact (kt q).1
      · exact (kf q).1, fun E p l e R s m args below meth c H locs ls n0 z0 Q C g1 g2 hh hl K => lv_icmp_le C.1 C.2.1 hd ht (fun q => (kt q).2 E p l e R s m args below meth c H locs ls n0 z0 Q C g1 g2 hh hl K) (fun q => (kf q).2 E p l e R s m args below meth c H locs ls n0 z0 Q C g1 g2 hh hl K)⟩
theorem j_goto {X : mX} {Y : mY} {d pc : Nat} {L : List (Option Value)} {st : List Value} {h : mH} {r : mR} {off : Int} {tgt : Nat} (hd : decode Y.2.1 pc = .ok (.goto off, 3)) (ht : (pc : Int) + off = (tgt : Int)) (k : m_J X Y d tgt L st h r) : m_J X Y d pc L st h r :=
  ⟨k.1, fun E p l e R s m args below meth c H locs ls n0 z0 Q C g1 g2 hh hl K => lv_goto C.1 C.2.1 hd ht (k.2 E p l e R s m args below meth c H locs ls n0 z0 Q C g1 g2 hh hl K)⟩
theorem j_ifnull_r {X : mX} {Y : mY} {d pc : Nat} {L : List (Option Value)} {st : List Value} {h : mH} {r : mR} {x : Nat} {off : Int} (hd : decode Y.2.1 pc = .ok (.ifnull off, 3)) (k : m_J X Y d (pc + 3) L st h r) : m_J X Y d pc L (.ref x :: st) h r :=
  ⟨k.1, fun E p l e R s m args below meth c H locs ls n0 z0 Q C g1 g2 hh hl K => lv_ifnull C.1 C.2.1 hd (k.2 E p l e R s m args below meth c H locs ls n0 z0 Q C g1 g2 hh hl K)⟩
theorem j_ifnull_n {X : mX} {Y : mY} {d pc : Nat} {L : List (Option Value)} {st : List Value} {h : mH} {r : mR} {off : Int} {tgt : Nat} (hd : decode Y.2.1 pc = .ok (.ifnull off, 3)) (ht : (pc : Int) + off = (tgt : Int)) (k : m_J X Y d tgt L st h r) : m_J X Y d pc L (.null :: st) h r :=
  ⟨k.1, fun E p l e R s m args below meth c H locs ls n0 z0 Q C g1 g2 hh hl K => lv_ifnullN C.1 C.2.1 hd ht (k.2 E p l e R s m args below meth c H locs ls n0 z0 Q C g1 g2 hh hl K)⟩
theorem j_ifnonnull_r {X : mX} {Y : mY} {d pc : Nat} {L : List (Option Value)} {st : List Value} {h : mH} {r : mR} {x : Nat} {off : Int} {tgt : Nat} (hd : decode Y.2.1 pc = .ok (.ifnonnull off, 3)) (ht : (pc : Int) + off = (tgt : Int)) (k : m_J X Y d tgt L st h r) : m_J X Y d pc L (.ref x :: st) h r :=
  ⟨k.1, fun E p l e R s m args below meth c H locs ls n0 z0 Q C g1 g2 hh hl K => lv_ifnonnull C.1 C.2.1 hd ht (k.2 E p l e R s m args below meth c H locs ls n0 z0 Q C g1 g2 hh hl K)⟩
theorem j_ifnonnull_n {X : mX} {Y : mY} {d pc : Nat} {L : List (Option Value)} {st : List Value} {h : mH} {r : mR} {off : Int} (hd : decode Y.2.1 pc = .ok (.ifnonnull off, 3)) (k : m_J X Y d (pc + 3) L st h r) : m_J X Y d pc L (.null :: st) h r :=
  ⟨k.1, fun E p l e R s m args below meth c H locs ls n0 z0 Q C g1 g2 hh hl K => lv_ifnonnullN C.1 C.2.1 hd (k.2 E p l e R s m args below meth c H locs ls n0 z0 Q C g1 g2 hh hl K)⟩
theorem m_map_inj {E : mE} {a b : Option Nat} : a.map (fun k => E.2.1 + k) = b.map (fun k => E.2.1 + k) ↔ a = b := by
  cases a <;> cases b <;> simp
theorem j_ac_eq {X : mX} {Y : mY} {d pc : Nat} {L : List (Option Value)} {st : List Value} {h : mH} {r : mR} {rx ry : Option Nat} {off : Int} {tgt : Nat} (hd : decode Y.2.1 pc = .ok (.if_acmp .eq off, 3)) (ht : (pc : Int) + off = (tgt : Int)) (kt : rx = ry → m_J X Y d tgt L st h r) (kf : ¬ rx = ry → m_J X Y d (pc + 3) L st h r) : m_J X Y d pc L (va_rf ry :: va_rf rx :: st) h r := by
  refine ⟨?_, fun E p l e R s m args below meth c H locs ls n0 z0 Q C g1 g2 hh hl K => ?_⟩
  · by_cases q : rx = ry
    · exact (kt q).1
    · exact (kf q).1
  · show W p l e R s m args below meth c H locs (h.1 - n0) (h.2.1 - z0) Q (F0 m pc ls (m_ph E (va_rf ry) :: m_ph E (va_rf rx) :: st.map (m_ph E)))
    rw [m_ph_rf, m_ph_rf]
    exact lv_acmp_eq C.1 C.2.1 hd ht (fun q => (kt (m_map_inj.mp q)).2 E p l e R s m args below meth c H locs ls n0 z0 Q C g1 g2 hh hl K) (fun q => (kf (fun z => q (m_map_inj.mpr z))).2 E p l e R s m args below meth c H locs ls n0 z0 Q C g1 g2 hh hl K)
theorem j_tswIn {X : mX} {Y : mY} {d pc : Nat} {L : List (Option Value)} {st : List Value} {h : mH} {r : mR} {dflt lo hi : Int} {offs : Array Int} {len : Nat} {x : Int32} {off : Int} {tgt : Nat} (hd : decode Y.2.1 pc = .ok (.tableswitch dflt lo hi offs, len)) (h1 : ¬ x.toInt < lo) (h2 : ¬ hi < x.toInt) (ho : offs[(x.toInt - lo).toNat]? = some off) (ht : (pc : Int) + off = (tgt : Int)) (k : m_J X Y d tgt L st h r) : m_J X Y d pc L (.int x :: st) h r :=
  ⟨k.1, fun E p l e R s m args below meth c H locs ls n0 z0 Q C g1 g2 hh hl K => lv_tableIn C.1 C.2.1 hd h1 h2 ho ht (k.2 E p l e R s m args below meth c H locs ls n0 z0 Q C g1 g2 hh hl K)⟩
theorem j_tswOut {X : mX} {Y : mY} {d pc : Nat} {L : List (Option Value)} {st : List Value} {h : mH} {r : mR} {dflt lo hi : Int} {offs : Array Int} {len : Nat} {x : Int32} {tgt : Nat} (hd : decode Y.2.1 pc = .ok (.tableswitch dflt lo hi offs, len)) (ho : x.toInt < lo ∨ hi < x.toInt) (ht : (pc : Int) + dflt = (tgt : Int)) (k : m_J X Y d tgt L st h r) : m_J X Y d pc L (.int x :: st) h r :=
  ⟨k.1, fun E p l e R s m args below meth c H locs ls n0 z0 Q C g1 g2 hh hl K => lv_tableOut C.1 C.2.1 hd ho ht (k.2 E p l e R s m args below meth c H locs ls n0 z0 Q C g1 g2 hh hl K)⟩
theorem j_ret {X : mX} {Y : mY} {d pc : Nat} {L : List (Option Value)} {v : Option Value} {h : mH} (hd : decode Y.2.1 pc = .ok (Y.2.2.2.2, 1)) (hk : m_rk Y.2.2.2.1 v) : m_J X Y d pc L v.toList h (v, h) :=
  ⟨⟨Nat.le_refl _, Nat.le_refl _⟩, fun E p l e R s m args below meth c H locs ls n0 z0 Q C g1 g2 hh hl K => K pc ls H locs hd hk hh⟩
theorem j_max {X : mX} {Y : mY} {d pc : Nat} {L : List (Option Value)} {st : List Value} {h : mH} {r : mR} {x y : Int32} {ix : Nat} (hw : Cond.methodLink Y.1.cls ix Lib.Math.max.name ∈ mT) (hst : (st.map fun v => v.category).sum ≤ 8) (hn : L.length = Y.2.2.1) (hd : decode Y.2.1 pc = .ok (.invokestatic ix, 3)) (k : m_J X Y (d + 1) (pc + 3) L (.int (if x < y then y else x) :: st) h r) : m_J X Y (d + 1) pc L (.int y :: .int x :: st) h r := by
  refine ⟨k.1, fun E p l e R s m args below meth c H locs ls n0 z0 Q C g1 g2 hh hl K => ?_⟩
  have hts := C.2.2.2.2.1
  have hz : ((st.map (m_ph E)).map fun v => v.category).sum ≤ 8 := by
    rw [List.map_map, show ((fun v : Value => v.category) ∘ m_ph E) = (fun v => v.category) from funext (m_ph_cat E)]
    exact hst
  exact va_mmax C.1 C.2.1 (by rw [C.2.2.1, hl.1]) C.2.2.2.1 (hts _ hw) (hts _ tw_2_11) (hts _ tw_1_11) (hts _ tw_2_12) (by have := C.2.2.2.2.2.2.2.2.1; omega) (by have := C.2.2.2.2.2.2.2.2.2.1; omega) (by have := C.2.2.2.2.2.2.2.2.2.2.1; have := k.1.1; omega) (by have := C.2.2.2.2.2.2.2.2.2.2.2.1; have := k.1.2; omega) hd (k.2 E p l e R s m args below meth c H locs ls n0 z0 Q C g1 g2 hh hl K)
theorem j_min {X : mX} {Y : mY} {d pc : Nat} {L : List (Option Value)} {st : List Value} {h : mH} {r : mR} {x y : Int32} {ix : Nat} (hw : Cond.methodLink Y.1.cls ix Lib.Math.min.name ∈ mT) (hst : (st.map fun v => v.category).sum ≤ 8) (hn : L.length = Y.2.2.1) (hd : decode Y.2.1 pc = .ok (.invokestatic ix, 3)) (k : m_J X Y (d + 1) (pc + 3) L (.int (if y < x then y else x) :: st) h r) : m_J X Y (d + 1) pc L (.int y :: .int x :: st) h r := by
  refine ⟨k.1, fun E p l e R s m args below meth c H locs ls n0 z0 Q C g1 g2 hh hl K => ?_⟩
  have hts := C.2.2.2.2.1
  have hz : ((st.map (m_ph E)).map fun v => v.category).sum ≤ 8 := by
    rw [List.map_map, show ((fun v : Value => v.category) ∘ m_ph E) = (fun v => v.category) from funext (m_ph_cat E)]
    exact hst
  exact va_mmin C.1 C.2.1 (by rw [C.2.2.1, hl.1]) C.2.2.2.1 (hts _ hw) (hts _ tw_3_0) (hts _ tw_1_11) (hts _ tw_3_1) (by have := C.2.2.2.2.2.2.2.2.1; omega) (by have := C.2.2.2.2.2.2.2.2.2.1; omega) (by have := C.2.2.2.2.2.2.2.2.2.2.1; have := k.1.1; omega) (by have := C.2.2.2.2.2.2.2.2.2.2.2.1; have := k.1.2; omega) hd (k.2 E p l e R s m args below meth c H locs ls n0 z0 Q C g1 g2 hh hl K)
theorem j_objInit {X : mX} {Y : mY} {d pc : Nat} {L : List (Option Value)} {st : List Value} {h : mH} {r : mR} {x ix : Nat} (hw : Cond.methodLink Y.1.cls ix Lib.objectInit ∈ mT) (hst : (st.map fun v => v.category).sum ≤ 8) (hd : decode Y.2.1 pc = .ok (.invokespecial ix, 3)) (k : m_J X Y (d + 1) (pc + 3) L st h r) : m_J X Y (d + 1) pc L (.ref x :: st) h r := by
  refine ⟨k.1, fun E p l e R s m args below meth c H locs ls n0 z0 Q C g1 g2 hh hl K => ?_⟩
  have hts := C.2.2.2.2.1
  have hz : ((st.map (m_ph E)).map fun v => v.category).sum ≤ 8 := by
    rw [List.map_map, show ((fun v : Value => v.category) ∘ m_ph E) = (fun v => v.category) from funext (m_ph_cat E)]
    exact hst
  exact W.objInit C.1 C.2.1 C.2.2.2.1 (hts _ hw) (hts _ tw_1_20) (hts _ tw_1_21) rfl (by rw [C.2.2.1]; exact hl.1) rfl hd (by have := C.2.2.2.2.2.2.2.2.1; omega) (by have := C.2.2.2.2.2.2.2.2.2.1; have := lv_room (m := m) (pc := pc) (ls := ls) (rest := (.ref x :: st).map (m_ph E)) hz; omega) (k.2 E p l e R s m args below meth c H locs ls n0 z0 Q C g1 g2 hh hl K)
end
section
/-! heap: reads and writes of the logical heap, and their rules -/
def m_gf (h : mH) (a ci k : Nat) : Option Value := if a < h.1 then (match h.2.2 a with
  | .inr (c, fs) => if c = ci then fs[k]? else none
  | _ => none) else none
def m_gi (h : mH) (a ci k : Nat) : Option Int32 := match m_gf h a ci k with
  | some (.int x) => some x
  | _ => none
def m_gr (h : mH) (a ci k : Nat) : Option (Option Nat) := match m_gf h a ci k with
  | some .null => some none
  | some (.ref x) => some (some x)
  | _ => none
def m_pf (h : mH) (a ci k : Nat) (v : Value) : Option mH := if a < h.1 then (match h.2.2 a with
  | .inr (c, fs) => if c = ci ∧ k < fs.length then some (h.1, h.2.1, va_up h.2.2 a (.inr (ci, fs.set k v))) else none
  | _ => none) else none
def m_ild (h : mH) (a : Nat) (i : Int32) : Option Int32 := if a < h.1 then (match h.2.2 a with
  | .inl (t, N, .inl f) => if t = 0 ∧ ¬ (i < 0 ∨ N ≤ i.toNatClampNeg) then some (f i.toNatClampNeg) else none
  | _ => none) else none
def m_ist (h : mH) (a : Nat) (i x : Int32) : Option mH := if a < h.1 then (match h.2.2 a with
  | .inl (t, N, .inl f) => if t = 0 ∧ ¬ (i < 0 ∨ N ≤ i.toNatClampNeg) then some (h.1, h.2.1, va_up h.2.2 a (.inl (0, N, .inl (upd f i.toNatClampNeg x)))) else none
  | _ => none) else none
def m_lld (h : mH) (a : Nat) (i : Int32) : Option Int64 := if a < h.1 then (match h.2.2 a with
  | .inl (t, N, .inr (.inl f)) => if t = 1 ∧ ¬ (i < 0 ∨ N ≤ i.toNatClampNeg) then some (f i.toNatClampNeg) else none
  | _ => none) else none
def m_lst (h : mH) (a : Nat) (i : Int32) (x : Int64) : Option mH := if a < h.1 then (match h.2.2 a with
  | .inl (t, N, .inr (.inl f)) => if t = 1 ∧ ¬ (i < 0 ∨ N ≤ i.toNatClampNeg) then some (h.1, h.2.1, va_up h.2.2 a (.inl (1, N, .inr (.inl (vp_updL f i.toNatClampNeg x))))) else none
  | _ => none) else none
def m_ob (h : mH) (a ci : Nat) : Bool := decide (a < h.1) && (match h.2.2 a with
  | .inr (c, _) => c == ci
  | _ => false)
def m_okq (h : mH) (q : Option Nat) (ci : Nat) : Bool := match q with
  | none => true
  | some b => m_ob h b ci
def m_ald (h : mH) (a : Nat) (i : Int32) : Option (Option Nat) := if a < h.1 then (match h.2.2 a with
  | .inl (t, N, .inr (.inr (.inr (.inr f)))) => if (2 ≤ t ∧ t < 7) ∧ ¬ (i < 0 ∨ N ≤ i.toNatClampNeg) then some (f i.toNatClampNeg) else none
  | _ => none) else none
def m_ast (h : mH) (a : Nat) (i : Int32) (q : Option Nat) : Option mH := if a < h.1 then (match h.2.2 a with
  | .inl (t, N, .inr (.inr (.inr (.inr f)))) => if ((2 ≤ t ∧ t < 7) ∧ ¬ (i < 0 ∨ N ≤ i.toNatClampNeg)) ∧ m_okq h q (m_tci t) = true then some (h.1, h.2.1, va_up h.2.2 a (.inl (t, N, .inr (.inr (.inr (.inr (va_up f i.toNatClampNeg q))))))) else none
  | _ => none) else none
def m_len (h : mH) (a : Nat) : Option Int32 := if a < h.1 then (match h.2.2 a with
  | .inl (t, N, _) => if t < 7 then some (Int32.ofNat N) else none
  | _ => none) else none
def m_new (h : mH) (ci : Nat) (fs : List Value) : mH := (h.1 + 1, h.2.1 + fs.length, va_up h.2.2 h.1 (.inr (ci, fs)))
def m_newi (h : mH) (n : Int32) : Option mH := if ¬ n < 0 ∧ n.toNatClampNeg ≤ 100000 then some (h.1 + 1, h.2.1 + n.toNatClampNeg, va_up h.2.2 h.1 (.inl (0, n.toNatClampNeg, .inl (fun _ => 0)))) else none
def m_newl (h : mH) (n : Int32) : Option mH := if ¬ n < 0 ∧ n.toNatClampNeg ≤ 100000 then some (h.1 + 1, h.2.1 + n.toNatClampNeg, va_up h.2.2 h.1 (.inl (1, n.toNatClampNeg, .inr (.inl (fun _ => 0))))) else none
def m_newr (h : mH) (t : Nat) (n : Int32) : Option mH := if ¬ n < 0 ∧ n.toNatClampNeg ≤ 100000 then some (h.1 + 1, h.2.1 + n.toNatClampNeg, va_up h.2.2 h.1 (.inl (t, n.toNatClampNeg, .inr (.inr (.inr (.inr (fun _ => none))))))) else none
/-! what they say -/
theorem m_gf_spec {h : mH} {a ci k : Nat} {v : Value} (hg : m_gf h a ci k = some v) : ∃ fs, a < h.1 ∧ h.2.2 a = .inr (ci, fs) ∧ fs[k]? = some v := by
  unfold m_gf at hg
  split at hg
  · rename_i ha
    split at hg
    · rename_i c fs he
      split at hg
      · rename_i hc
        subst hc
        exact ⟨fs, ha, he, hg⟩
      · cases hg
    · cases hg
  · cases hg
theorem m_gi_spec {h : mH} {a ci k : Nat} {x : Int32} (hg : m_gi h a ci k = some x) : m_gf h a ci k = some (.int x) := by
  unfold m_gi at hg
  split at hg
  · rename_i y hy
    cases hg
    exact hy
  · cases hg
theorem m_gr_spec {h : mH} {a ci k : Nat} {q : Option Nat} (hg : m_gr h a ci k = some q) : m_gf h a ci k = some (va_rf q) := by
  unfold m_gr at hg
  split at hg
  · rename_i hy; cases hg; exact hy
  · rename_i y hy; cases hg; exact hy
  · cases hg
theorem m_ob_spec {h : mH} {a ci : Nat} (ho : m_ob h a ci = true) : ∃ fs, a < h.1 ∧ h.2.2 a = .inr (ci, fs) := by
  unfold m_ob at ho
  rw [Bool.and_eq_true] at ho
  obtain ⟨h1, h2⟩ := ho
  split at h2
  · rename_i c fs he
    have : c = ci := by simpa using h2
    subst this
    exact ⟨fs, by simpa using h1, he⟩
  · cases h2
section JH
variable {X : mX} {Y : mY} {d pc : Nat} {L : List (Option Value)} {st : List Value} {h h' : mH} {r : mR}
theorem m_at {E : mE} {h : mH} {a ci : Nat} {fs : List Value} (ha : a < h.1) (he : h.2.2 a = .inr (ci, fs)) : (m_ws E h)[a]? = some (E.2.1 + a, .inr (ci, fs.map (m_ph E))) := by
  rw [m_ws_get ha, he]
  rfl
theorem j_getf {a ci k ix N : Nat} {v : Value} {C : String} {T : u_T} (hc : vwCl[ci]? = some (C, T, N)) (hk : k < N) (hin : ∀ w ∈ u_ws C T N, w ∈ mT) (hw : Cond.fieldLink Y.1.cls ix (T k).1 (T k).2.1 (T k).2.2.1 ∈ mT) (hd : decode Y.2.1 pc = .ok (.getfield ix, 3)) (hg : m_gf h a ci k = some v) (kk : m_J X Y d (pc + 3) L (v :: st) h r) : m_J X Y d pc L (.ref a :: st) h r := by
  refine ⟨kk.1, fun E p l e R s m args below meth c H locs ls n0 z0 Q Cx g1 g2 hh hl K => ?_⟩
  obtain ⟨fs, ha, he, hv⟩ := m_gf_spec hg
  exact va_get Cx.1 Cx.2.1 Cx.2.2.2.2.1 hin Cx.2.2.2.1 Cx.2.2.2.2.2.1 hh.1 a (m_at ha he) hc k hk (Cx.2.2.2.2.1 _ hw) (fun _ q => q) (by rw [List.getElem?_map, hv]; rfl) hd (kk.2 E p l e R s m args below meth c H locs ls n0 z0 Q Cx g1 g2 hh hl K)
theorem m_pf_spec {a ci k : Nat} {v : Value} (hg : m_pf h a ci k v = some h') : ∃ fs, a < h.1 ∧ h.2.2 a = .inr (ci, fs) ∧ k < fs.length ∧ h' = (h.1, h.2.1, va_up h.2.2 a (.inr (ci, fs.set k v))) := by
  unfold m_pf at hg
  split at hg
  · rename_i ha
    split at hg
    · rename_i c fs he
      split at hg
      · rename_i hc
        obtain ⟨rfl, hk⟩ := hc
        cases hg
        exact ⟨fs, ha, he, hk, rfl⟩
      · cases hg
    · cases hg
  · cases hg
theorem m_h.set {E : mE} {s : State} {H1 : Heap} {locs1 : List Loc} {a : Nat} {e : va_E} (hP : va_P E.1 vwCl ((m_ws E h).set a (E.2.1 + a, m_im E e)) H1) (hS : va_S (m_A E) s.heap H1 locs1) : m_h E (h.1, h.2.1, va_up h.2.2 a e) s H1 locs1 := by
  refine ⟨?_, hS⟩
  rw [← m_ws_set h.2.1]
  exact hP
theorem m_setmap {E : mE} {fs : List Value} {k : Nat} {v : Value} : (fs.map (m_ph E)).set k (m_ph E v) = (fs.set k v).map (m_ph E) := by
  rw [List.map_set]
theorem j_puti {a ci k ix N : Nat} {x : Int32} {C : String} {T : u_T} {ty : Nat → FieldType} (hc : vwCl[ci]? = some (C, T, N)) (hk : k < N) (hin : ∀ w ∈ u_ws C T N, w ∈ mT) (hty : ∀ k, k < N → parseFieldDescriptor (T k).2.2.1 = some (ty k)) (hnm : ∀ a, a < N → ∀ b, b < N → a ≠ b → (T a).2.1 ≠ (T b).2.1) (hw : Cond.fieldLink Y.1.cls ix (T k).1 (T k).2.1 (T k).2.2.1 ∈ mT) (hfin : (T k).2.2.2 = false) (hti : ty k = .int) (hd : decode Y.2.1 pc = .ok (.putfield ix, 3)) (hg : m_pf h a ci k (.int x) = some h') (kk : m_J X Y d (pc + 3) L st h' r) : m_J X Y d pc L (.int x :: .ref a :: st) h r := by
  obtain ⟨fs, ha, he, hl, rfl⟩ := m_pf_spec hg
  refine ⟨kk.1, fun E p l e R s m args below meth c H locs ls n0 z0 Q Cx g1 g2 hh hls K => ?_⟩
  refine va_put (v := .int x) (ty := .int) Cx.1 Cx.2.1 Cx.2.2.2.2.1 hin ty hty hnm Cx.2.2.2.1 Cx.2.2.2.2.2.1 hh.1 (m_D E h) hh.2 a (m_at ha he) hc k hk (Cx.2.2.2.2.1 _ hw) (fun _ q => q) hfin (by rw [hty k hk, hti]) rfl rfl (by rw [List.length_map]; exact hl) hd (fun H1 locs1 hP hD hS => ?_)
  refine kk.2 E p l e R s m args below meth c H1 locs1 ls n0 z0 Q Cx g1 g2 (m_h.set ?_ hS) hls K
  have e1 : m_im E (.inr (ci, fs.set k (.int x))) = .inr (ci, (fs.map (m_ph E)).set k (.int x)) := by
    rw [show (Value.int x) = m_ph E (.int x) from rfl, m_setmap]; rfl
  rw [e1]
  exact hP
theorem j_putiF {a ci k ix N : Nat} {x : Int32} {C : String} {T : u_T} {ty : Nat → FieldType} (hc : vwCl[ci]? = some (C, T, N)) (hk : k < N) (hin : ∀ w ∈ u_ws C T N, w ∈ mT) (hty : ∀ k, k < N → parseFieldDescriptor (T k).2.2.1 = some (ty k)) (hnm : ∀ a, a < N → ∀ b, b < N → a ≠ b → (T a).2.1 ≠ (T b).2.1) (hw : Cond.fieldLink Y.1.cls ix (T k).1 (T k).2.1 (T k).2.2.1 ∈ mT) (hfin : (T k).2.2.2 = true) (hti : ty k = .int) (hy : Y.1.name = "<init>") (hdc : (T k).1 = Y.1.cls) (hd : decode Y.2.1 pc = .ok (.putfield ix, 3)) (hg : m_pf h a ci k (.int x) = some h') (kk : m_J X Y d (pc + 3) L st h' r) : m_J X Y d pc L (.int x :: .ref a :: st) h r := by
  obtain ⟨fs, ha, he, hl, rfl⟩ := m_pf_spec hg
  refine ⟨kk.1, fun E p l e R s m args below meth c H locs ls n0 z0 Q Cx g1 g2 hh hls K => ?_⟩
  refine va_putF (v := .int x) (ty := .int) Cx.1 Cx.2.1 Cx.2.2.2.2.1 hin ty hty hnm Cx.2.2.2.1 Cx.2.2.2.2.2.1 hh.1 (m_D E h) hh.2 a (m_at ha he) hc k hk (Cx.2.2.2.2.1 _ hw) (fun _ q => q) hfin (Cx.2.2.2.2.2.2.2.1.trans hy) hdc (by rw [hty k hk, hti]) rfl rfl (by rw [List.length_map]; exact hl) hd (fun H1 locs1 hP hD hS => ?_)
  refine kk.2 E p l e R s m args below meth c H1 locs1 ls n0 z0 Q Cx g1 g2 (m_h.set ?_ hS) hls K
  have e1 : m_im E (.inr (ci, fs.set k (.int x))) = .inr (ci, (fs.map (m_ph E)).set k (.int x)) := by
    rw [show (Value.int x) = m_ph E (.int x) from rfl, m_setmap]; rfl
  rw [e1]
  exact hP
/-- a field of a reference -/
def m_isr (ty : FieldType) : Bool := match ty with
  | .object _ => true
  | .array _ => true
  | _ => false
theorem m_isr_ok {ty : FieldType} (h : m_isr ty = true) (q : Option Nat) : narrow ty (va_rf q) = va_rf q ∧ fits ty (va_rf q) = true := by
  cases ty <;> first | (cases q <;> exact ⟨rfl, rfl⟩) | cases h
theorem j_putr {a ci k ix N : Nat} {q : Option Nat} {C : String} {T : u_T} {ty : Nat → FieldType} (hc : vwCl[ci]? = some (C, T, N)) (hk : k < N) (hin : ∀ w ∈ u_ws C T N, w ∈ mT) (hty : ∀ k, k < N → parseFieldDescriptor (T k).2.2.1 = some (ty k)) (hnm : ∀ a, a < N → ∀ b, b < N → a ≠ b → (T a).2.1 ≠ (T b).2.1) (hw : Cond.fieldLink Y.1.cls ix (T k).1 (T k).2.1 (T k).2.2.1 ∈ mT) (hfin : (T k).2.2.2 = false) (hti : m_isr (ty k) = true) (hd : decode Y.2.1 pc = .ok (.putfield ix, 3)) (hg : m_pf h a ci k (va_rf q) = some h') (kk : m_J X Y d (pc + 3) L st h' r) : m_J X Y d pc L (va_rf q :: .ref a :: st) h r := by
  obtain ⟨fs, ha, he, hl, rfl⟩ := m_pf_spec hg
  refine ⟨kk.1, fun E p l e R s m args below meth c H locs ls n0 z0 Q Cx g1 g2 hh hls K => ?_⟩
  obtain ⟨o1, o2⟩ := m_isr_ok hti (q.map (fun k => E.2.1 + k))
  rw [← m_ph_rf] at o1 o2
  refine va_put (v := m_ph E (va_rf q)) (ty := ty k) Cx.1 Cx.2.1 Cx.2.2.2.2.1 hin ty hty hnm Cx.2.2.2.1 Cx.2.2.2.2.2.1 hh.1 (m_D E h) hh.2 a (m_at ha he) hc k hk (Cx.2.2.2.2.1 _ hw) (fun _ q => q) hfin (hty k hk) o1 o2 (by rw [List.length_map]; exact hl) hd (fun H1 locs1 hP hD hS => ?_)
  refine kk.2 E p l e R s m args below meth c H1 locs1 ls n0 z0 Q Cx g1 g2 (m_h.set ?_ hS) hls K
  have e1 : m_im E (.inr (ci, fs.set k (va_rf q))) = .inr (ci, (fs.map (m_ph E)).set k (m_ph E (va_rf q))) := by
    rw [m_setmap]; rfl
  rw [e1]
  exact hP
theorem j_putrF {a ci k ix N : Nat} {q : Option Nat} {C : String} {T : u_T} {ty : Nat → FieldType} (hc : vwCl[ci]? = some (C, T, N)) (hk : k < N) (hin : ∀ w ∈ u_ws C T N, w ∈ mT) (hty : ∀ k, k < N → parseFieldDescriptor (T k).2.2.1 = some (ty k)) (hnm : ∀ a, a < N → ∀ b, b < N → a ≠ b → (T a).2.1 ≠ (T b).2.1) (hw : Cond.fieldLink Y.1.cls ix (T k).1 (T k).2.1 (T k).2.2.1 ∈ mT) (hfin : (T k).2.2.2 = true) (hti : m_isr (ty k) = true) (hy : Y.1.name = "<init>") (hdc : (T k).1 = Y.1.cls) (hd : decode Y.2.1 pc = .ok (.putfield ix, 3)) (hg : m_pf h a ci k (va_rf q) = some h') (kk : m_J X Y d (pc + 3) L st h' r) : m_J X Y d pc L (va_rf q :: .ref a :: st) h r := by
  obtain ⟨fs, ha, he, hl, rfl⟩ := m_pf_spec hg
  refine ⟨kk.1, fun E p l e R s m args below meth c H locs ls n0 z0 Q Cx g1 g2 hh hls K => ?_⟩
  obtain ⟨o1, o2⟩ := m_isr_ok hti (q.map (fun k => E.2.1 + k))
  rw [← m_ph_rf] at o1 o2
  refine va_putF (v := m_ph E (va_rf q)) (ty := ty k) Cx.1 Cx.2.1 Cx.2.2.2.2.1 hin ty hty hnm Cx.2.2.2.1 Cx.2.2.2.2.2.1 hh.1 (m_D E h) hh.2 a (m_at ha he) hc k hk (Cx.2.2.2.2.1 _ hw) (fun _ q => q) hfin (Cx.2.2.2.2.2.2.2.1.trans hy) hdc (hty k hk) o1 o2 (by rw [List.length_map]; exact hl) hd (fun H1 locs1 hP hD hS => ?_)
  refine kk.2 E p l e R s m args below meth c H1 locs1 ls n0 z0 Q Cx g1 g2 (m_h.set ?_ hS) hls K
  have e1 : m_im E (.inr (ci, fs.set k (va_rf q))) = .inr (ci, (fs.map (m_ph E)).set k (m_ph E (va_rf q))) := by
    rw [m_setmap]; rfl
  rw [e1]
  exact hP
/-! arrays -/
theorem m_ild_spec {a : Nat} {i x : Int32} (hg : m_ild h a i = some x) : ∃ N f, a < h.1 ∧ h.2.2 a = .inl (0, N, .inl f) ∧ vp_in i N ∧ x = f i.toNatClampNeg := by
  unfold m_ild at hg
  split at hg
  · rename_i ha
    split at hg
    · rename_i t N f he
      split at hg
      · rename_i hc
        obtain ⟨rfl, hi⟩ := hc
        cases hg
        exact ⟨N, f, ha, he, hi, rfl⟩
      · cases hg
    · cases hg
  · cases hg
theorem j_iaload {a : Nat} {i x : Int32} (hd : decode Y.2.1 pc = .ok (.iaload, 1)) (hg : m_ild h a i = some x) (kk : m_J X Y d (pc + 1) L (.int x :: st) h r) : m_J X Y d pc L (.int i :: .ref a :: st) h r := by
  obtain ⟨N, f, ha, he, hi, rfl⟩ := m_ild_spec hg
  refine ⟨kk.1, fun E p l e R s m args below meth c H locs ls n0 z0 Q Cx g1 g2 hh hls K => ?_⟩
  exact va_iald Cx.1 Cx.2.1 Cx.2.2.2.2.2.1 hh.1 a 0 (by rw [m_ws_get ha, he]; rfl) rfl hi hd (kk.2 E p l e R s m args below meth c H locs ls n0 z0 Q Cx g1 g2 hh hls K)
theorem m_ist_spec {a : Nat} {i x : Int32} (hg : m_ist h a i x = some h') : ∃ N f, a < h.1 ∧ h.2.2 a = .inl (0, N, .inl f) ∧ vp_in i N ∧ h' = (h.1, h.2.1, va_up h.2.2 a (.inl (0, N, .inl (upd f i.toNatClampNeg x)))) := by
  unfold m_ist at hg
  split at hg
  · rename_i ha
    split at hg
    · rename_i t N f he
      split at hg
      · rename_i hc
        obtain ⟨rfl, hi⟩ := hc
        cases hg
        exact ⟨N, f, ha, he, hi, rfl⟩
      · cases hg
    · cases hg
  · cases hg
theorem j_iastore {a : Nat} {i x : Int32} (hd : decode Y.2.1 pc = .ok (.iastore, 1)) (hg : m_ist h a i x = some h') (kk : m_J X Y d (pc + 1) L st h' r) : m_J X Y d pc L (.int x :: .int i :: .ref a :: st) h r := by
  obtain ⟨N, f, ha, he, hi, rfl⟩ := m_ist_spec hg
  refine ⟨kk.1, fun E p l e R s m args below meth c H locs ls n0 z0 Q Cx g1 g2 hh hls K => ?_⟩
  exact va_iast Cx.1 Cx.2.1 Cx.2.2.2.2.2.1 hh.1 (m_D E h) hh.2 a 0 (by rw [m_ws_get ha, he]; rfl) rfl hi hd (fun H1 locs1 hP hD hS => kk.2 E p l e R s m args below meth c H1 locs1 ls n0 z0 Q Cx g1 g2 (m_h.set hP hS) hls K)
theorem m_lld_spec {a : Nat} {i : Int32} {x : Int64} (hg : m_lld h a i = some x) : ∃ N f, a < h.1 ∧ h.2.2 a = .inl (1, N, .inr (.inl f)) ∧ vp_in i N ∧ x = f i.toNatClampNeg := by
  unfold m_lld at hg
  split at hg
  · rename_i ha
    split at hg
    · rename_i t N f he
      split at hg
      · rename_i hc
        obtain ⟨rfl, hi⟩ := hc
        cases hg
        exact ⟨N, f, ha, he, hi, rfl⟩
      · cases hg
    · cases hg
  · cases hg
theorem j_laload {a : Nat} {i : Int32} {x : Int64} (hd : decode Y.2.1 pc = .ok (.laload, 1)) (hg : m_lld h a i = some x) (kk : m_J X Y d (pc + 1) L (.long x :: st) h r) : m_J X Y d pc L (.int i :: .ref a :: st) h r := by
  obtain ⟨N, f, ha, he, hi, rfl⟩ := m_lld_spec hg
  refine ⟨kk.1, fun E p l e R s m args below meth c H locs ls n0 z0 Q Cx g1 g2 hh hls K => ?_⟩
  exact va_lald Cx.1 Cx.2.1 Cx.2.2.2.2.2.1 hh.1 a 1 (by rw [m_ws_get ha, he]; rfl) rfl hi hd (kk.2 E p l e R s m args below meth c H locs ls n0 z0 Q Cx g1 g2 hh hls K)
theorem m_lst_spec {a : Nat} {i : Int32} {x : Int64} (hg : m_lst h a i x = some h') : ∃ N f, a < h.1 ∧ h.2.2 a = .inl (1, N, .inr (.inl f)) ∧ vp_in i N ∧ h' = (h.1, h.2.1, va_up h.2.2 a (.inl (1, N, .inr (.inl (vp_updL f i.toNatClampNeg x))))) := by
  unfold m_lst at hg
  split at hg
  · rename_i ha
    split at hg
    · rename_i t N f he
      split at hg
      · rename_i hc
        obtain ⟨rfl, hi⟩ := hc
        cases hg
        exact ⟨N, f, ha, he, hi, rfl⟩
      · cases hg
    · cases hg
  · cases hg
theorem j_lastore {a : Nat} {i : Int32} {x : Int64} (hd : decode Y.2.1 pc = .ok (.lastore, 1)) (hg : m_lst h a i x = some h') (kk : m_J X Y d (pc + 1) L st h' r) : m_J X Y d pc L (.long x :: .int i :: .ref a :: st) h r := by
  obtain ⟨N, f, ha, he, hi, rfl⟩ := m_lst_spec hg
  refine ⟨kk.1, fun E p l e R s m args below meth c H locs ls n0 z0 Q Cx g1 g2 hh hls K => ?_⟩
  exact va_last Cx.1 Cx.2.1 Cx.2.2.2.2.2.1 hh.1 (m_D E h) hh.2 a 1 (by rw [m_ws_get ha, he]; rfl) rfl hi hd (fun H1 locs1 hP hD hS => kk.2 E p l e R s m args below meth c H1 locs1 ls n0 z0 Q Cx g1 g2 (m_h.set hP hS) hls K)
/-- the class of an array's objects -/
theorem m_tys_r {E : mE} {t : Nat} (ht : 2 ≤ t ∧ t < 7) : ∃ r : vw_C, vwCl[m_tci t]? = some r ∧ (m_tys E)[t]? = some (E.2.2.2 t, .object r.1) := by
  obtain ⟨t1, t2⟩ := ht
  rcases (show t = 2 ∨ t = 3 ∨ t = 4 ∨ t = 5 ∨ t = 6 by omega) with rfl | rfl | rfl | rfl | rfl <;> exact ⟨_, rfl, rfl⟩
theorem m_tys_any {E : mE} {t : Nat} (ht : t < 7) : ∃ ty, (m_tys E)[t]? = some (E.2.2.2 t, ty) := by
  rcases (show t = 0 ∨ t = 1 ∨ t = 2 ∨ t = 3 ∨ t = 4 ∨ t = 5 ∨ t = 6 by omega) with rfl | rfl | rfl | rfl | rfl | rfl | rfl <;> exact ⟨_, rfl⟩
theorem m_ald_spec {a : Nat} {i : Int32} {q : Option Nat} (hg : m_ald h a i = some q) : ∃ t N f, a < h.1 ∧ h.2.2 a = .inl (t, N, .inr (.inr (.inr (.inr f)))) ∧ (2 ≤ t ∧ t < 7) ∧ vp_in i N ∧ q = f i.toNatClampNeg := by
  unfold m_ald at hg
  split at hg
  · rename_i ha
    split at hg
    · rename_i t N f he
      split at hg
      · rename_i hc
        cases hg
        exact ⟨t, N, f, ha, he, hc.1, hc.2, rfl⟩
      · cases hg
    · cases hg
  · cases hg
theorem j_aaload {a : Nat} {i : Int32} {q : Option Nat} (hd : decode Y.2.1 pc = .ok (.aaload, 1)) (hg : m_ald h a i = some q) (kk : m_J X Y d (pc + 1) L (va_rf q :: st) h r) : m_J X Y d pc L (.int i :: .ref a :: st) h r := by
  obtain ⟨t, N, f, ha, he, ht, hi, rfl⟩ := m_ald_spec hg
  refine ⟨kk.1, fun E p l e R s m args below meth c H locs ls n0 z0 Q Cx g1 g2 hh hls K => ?_⟩
  obtain ⟨rr, h1, h2⟩ := m_tys_r (E := E) ht
  refine va_aldq Cx.1 Cx.2.1 Cx.2.2.2.2.2.1 hh.1 a t (by rw [m_ws_get ha, he]; rfl) h2 hi hd ?_
  have hk := kk.2 E p l e R s m args below meth c H locs ls n0 z0 Q Cx g1 g2 hh hls K
  rw [List.map_cons, m_ph_rf] at hk
  exact hk
theorem m_ast_spec {a : Nat} {i : Int32} {q : Option Nat} (hg : m_ast h a i q = some h') : ∃ t N f, a < h.1 ∧ h.2.2 a = .inl (t, N, .inr (.inr (.inr (.inr f)))) ∧ (2 ≤ t ∧ t < 7) ∧ vp_in i N ∧ (∀ b, q = some b → m_ob h b (m_tci t) = true) ∧ h' = (h.1, h.2.1, va_up h.2.2 a (.inl (t, N, .inr (.inr (.inr (.inr (va_up f i.toNatClampNeg q))))))) := by
  unfold m_ast at hg
  split at hg
  · rename_i ha
    split at hg
    · rename_i t N f he
      split at hg
      · rename_i hc
        cases hg
        refine ⟨t, N, f, ha, he, hc.1.1, hc.1.2, fun b hb => ?_, rfl⟩
        subst hb
        exact hc.2
      · cases hg
    · cases hg
  · cases hg
theorem m_up_map {E : mE} {f : Nat → Option Nat} {k : Nat} {q : Option Nat} : (fun j => (va_up f k q j).map (fun k => E.2.1 + k)) = va_up (fun j => (f j).map (fun k => E.2.1 + k)) k (q.map (fun k => E.2.1 + k)) := by
  funext j
  by_cases hj : j = k
  · simp [va_up, hj]
  · simp [va_up, hj]
theorem j_aastore {a : Nat} {i : Int32} {q : Option Nat} (hd : decode Y.2.1 pc = .ok (.aastore, 1)) (hg : m_ast h a i q = some h') (kk : m_J X Y d (pc + 1) L st h' r) : m_J X Y d pc L (va_rf q :: .int i :: .ref a :: st) h r := by
  obtain ⟨t, N, f, ha, he, ht, hi, ho, rfl⟩ := m_ast_spec hg
  refine ⟨kk.1, fun E p l e R s m args below meth c H locs ls n0 z0 Q Cx g1 g2 hh hls K => ?_⟩
  obtain ⟨rr, h1, h2⟩ := m_tys_r (E := E) ht
  have e1 : m_im E (.inl (t, N, .inr (.inr (.inr (.inr (va_up f i.toNatClampNeg q)))))) = .inl (E.2.2.2 t, N, .inr (.inr (.inr (.inr (va_up (fun j => (f j).map (fun k => E.2.1 + k)) i.toNatClampNeg (q.map (fun k => E.2.1 + k))))))) := by
    rw [← m_up_map]; rfl
  cases q with
  | none =>
    refine va_astqN Cx.1 Cx.2.1 Cx.2.2.2.2.2.1 hh.1 (m_D E h) hh.2 a t (by rw [m_ws_get ha, he]; rfl) h2 hi hd (fun H1 locs1 hP hD hS => kk.2 E p l e R s m args below meth c H1 locs1 ls n0 z0 Q Cx g1 g2 (m_h.set ?_ hS) hls K)
    rw [e1]
    exact hP
  | some b =>
    obtain ⟨vs, hb, hbe⟩ := m_ob_spec (ho b rfl)
    refine va_astq Cx.1 Cx.2.1 Cx.2.2.2.2.2.1 hh.1 (m_D E h) hh.2 a t b (m_tci t) (by rw [m_ws_get ha, he]; rfl) h2 (m_at hb hbe) h1 hi hd (fun H1 locs1 hP hD hS => kk.2 E p l e R s m args below meth c H1 locs1 ls n0 z0 Q Cx g1 g2 (m_h.set ?_ hS) hls K)
    rw [e1]
    exact hP
theorem m_len_spec {a : Nat} {x : Int32} (hg : m_len h a = some x) : ∃ t A, a < h.1 ∧ h.2.2 a = .inl (t, A) ∧ t < 7 ∧ x = Int32.ofNat A.1 := by
  unfold m_len at hg
  split at hg
  · rename_i ha
    split at hg
    · rename_i t N f he
      split at hg
      · rename_i hc
        cases hg
        exact ⟨t, (N, f), ha, he, hc, rfl⟩
      · cases hg
    · cases hg
  · cases hg
theorem m_im_len {E : mE} (t : Nat) (A : vp_A) : ∃ B : vp_A, m_im E (.inl (t, A)) = .inl (E.2.2.2 t, B) ∧ B.1 = A.1 := by
  obtain ⟨N, f⟩ := A
  rcases f with f | f | f | f | f <;> exact ⟨_, rfl, rfl⟩
theorem j_alen {a : Nat} {x : Int32} (hd : decode Y.2.1 pc = .ok (.arraylength, 1)) (hg : m_len h a = some x) (kk : m_J X Y d (pc + 1) L (.int x :: st) h r) : m_J X Y d pc L (.ref a :: st) h r := by
  obtain ⟨t, A, ha, he, ht, rfl⟩ := m_len_spec hg
  refine ⟨kk.1, fun E p l e R s m args below meth c H locs ls n0 z0 Q Cx g1 g2 hh hls K => ?_⟩
  obtain ⟨ty, h2⟩ := m_tys_any (E := E) ht
  obtain ⟨B, e1, e2⟩ := m_im_len (E := E) t A
  exact va_alen Cx.1 Cx.2.1 Cx.2.2.2.2.2.1 hh.1 a t (x := B) (by rw [m_ws_get ha, he, e1]) h2 (by rw [e2]) hd (kk.2 E p l e R s m args below meth c H locs ls n0 z0 Q Cx g1 g2 hh hls K)
end JH
end
section
/-! making cells, tables, calls -/
section JN
variable {X : mX} {Y : mY} {d pc : Nat} {L : List (Option Value)} {st : List Value} {h h' : mH} {r : mR}
theorem m_size {p : Program} {l : Launch} {e : Env} {R : Room} {s : State} {m : MethodId} {args : Array Value} {below : List Frame} {meth : Method} {c : Code} {H : Heap} {locs : List Loc} {cells slots : Nat} {Q : State → Prop} {g : JFrame} (kk : H.size ≤ s.heap.size + cells → W p l e R s m args below meth c H locs cells slots Q g) : W p l e R s m args below meth c H locs cells slots Q g := fun T hT Z => kk (by rw [← hT]; exact Z.heapSize) T hT Z
/-- a new cell of the world stands at the next address -/
theorem m_next {E : mE} {h : mH} {H1 : Heap} {q : Nat} {e : va_E} (hP : va_P E.1 vwCl (m_ws E h ++ [(q, e)]) H1) (hD : va_D (m_A E) (m_ws E h ++ [(q, e)])) (hz : H1.size ≤ E.2.1 + (h.1 + 1)) : q = E.2.1 + h.1 := by
  have hl : (m_ws E h ++ [(q, e)])[h.1]? = some (q, e) := by
    rw [List.getElem?_append_right (by rw [m_ws_len]; exact Nat.le_refl _), m_ws_len, Nat.sub_self]
    rfl
  have h1 : q < H1.size := (hP h.1 _ hl).lt
  have h2 : E.2.1 ≤ q := hD.2 h.1 _ hl
  rcases Nat.lt_or_ge q (E.2.1 + h.1) with h3 | h3
  · have hk : q - E.2.1 < h.1 := by omega
    have h4 : (m_ws E h ++ [(q, e)])[q - E.2.1]? = some (E.2.1 + (q - E.2.1), m_im E (h.2.2 (q - E.2.1))) := by
      rw [List.getElem?_append_left (by rw [m_ws_len]; exact hk)]
      exact m_ws_get hk
    have h5 := hD.1 _ _ _ _ h4 hl (show E.2.1 + (q - E.2.1) = q by omega)
    omega
  · omega
theorem j_new {ci ix N : Nat} {C : String} {T : u_T} {ty : Nat → FieldType} {fs : List Value} (hc : vwCl[ci]? = some (C, T, N)) (hin : ∀ w ∈ u_ws C T N, w ∈ mT) (hty : ∀ k, k < N → parseFieldDescriptor (T k).2.2.1 = some (ty k)) (hw1 : Cond.classLink Y.1.cls ix C ∈ mT) (hw2 : Cond.instantiable C N ∈ mT) (hw3 : Cond.initialized C ∈ mT) (hfs : ∀ j, j < N → defaultValue (ty j) = vp_V fs j) (hl : fs.length = N) (hfp : ∀ E : mE, fs.map (m_ph E) = fs) (hd : decode Y.2.1 pc = .ok (.new ix, 3)) (kk : m_J X Y d (pc + 3) L (.ref h.1 :: st) (m_new h ci fs) r) : m_J X Y d pc L st h r := by
  have k1 := kk.1
  simp only [m_new] at k1
  refine ⟨⟨by omega, by omega⟩, fun E p l e R s m args below meth c H locs ls n0 z0 Q Cx g1 g2 hh hls K => ?_⟩
  obtain ⟨c1, c2, c3, c4, c5, c6, c7, c8, c9, c10, c11, c12, c13⟩ := id Cx
  refine va_new (ci := ci) (fs := fs) c1 c2 c5 hin ty hty c4 (c5 _ hw1) (c5 _ hw2) (c5 _ hw3) c6 hh.1 (m_D E h) hh.2 (fun q hq => by unfold m_A; omega) hc hfs (by omega) (by omega) hd (fun q H1 hP hD hS => ?_)
  refine m_size (fun hz => ?_)
  have hq := m_next hP hD (by omega)
  subst hq
  have e1 : m_im E (.inr (ci, fs)) = .inr (ci, fs) := by show Sum.inr (ci, fs.map (m_ph E)) = _; rw [hfp]
  have hk := kk.2 E p l e R s m args below meth c H1 locs ls n0 z0 Q Cx (by simp only [m_new]; omega) (by simp only [m_new]; omega) ⟨by unfold m_new; rw [← m_ws_push, e1]; exact hP, hS⟩ hls K
  simp only [m_new] at hk
  rw [show h.1 + 1 - n0 = h.1 - n0 + 1 by omega, show h.2.1 + fs.length - z0 = h.2.1 - z0 + N by omega] at hk
  exact hk
def m_newO (h : mH) (ci : Nat) (fs : List Value) : Option mH := some (m_new h ci fs)
theorem j_newO {ci ix N : Nat} {C : String} {T : u_T} {ty : Nat → FieldType} {fs : List Value} (hc : vwCl[ci]? = some (C, T, N)) (hin : ∀ w ∈ u_ws C T N, w ∈ mT) (hty : ∀ k, k < N → parseFieldDescriptor (T k).2.2.1 = some (ty k)) (hw1 : Cond.classLink Y.1.cls ix C ∈ mT) (hw2 : Cond.instantiable C N ∈ mT) (hw3 : Cond.initialized C ∈ mT) (hfs : ∀ j, j < N → defaultValue (ty j) = vp_V fs j) (hl : fs.length = N) (hfp : ∀ E : mE, fs.map (m_ph E) = fs) (hd : decode Y.2.1 pc = .ok (.new ix, 3)) (hg : m_newO h ci fs = some h') (kk : m_J X Y d (pc + 3) L (.ref h.1 :: st) h' r) : m_J X Y d pc L st h r := by
  cases hg
  exact j_new hc hin hty hw1 hw2 hw3 hfs hl hfp hd kk
theorem m_newi_spec {n : Int32} (hg : m_newi h n = some h') : ¬ n < 0 ∧ n.toNatClampNeg ≤ 100000 ∧ h' = (h.1 + 1, h.2.1 + n.toNatClampNeg, va_up h.2.2 h.1 (.inl (0, n.toNatClampNeg, .inl (fun _ => 0)))) := by
  unfold m_newi at hg
  split at hg
  · rename_i hc; cases hg; exact ⟨hc.1, hc.2, rfl⟩
  · cases hg
theorem m_newl_spec {n : Int32} (hg : m_newl h n = some h') : ¬ n < 0 ∧ n.toNatClampNeg ≤ 100000 ∧ h' = (h.1 + 1, h.2.1 + n.toNatClampNeg, va_up h.2.2 h.1 (.inl (1, n.toNatClampNeg, .inr (.inl (fun _ => 0))))) := by
  unfold m_newl at hg
  split at hg
  · rename_i hc; cases hg; exact ⟨hc.1, hc.2, rfl⟩
  · cases hg
theorem m_newr_spec {n : Int32} {t : Nat} (hg : m_newr h t n = some h') : ¬ n < 0 ∧ n.toNatClampNeg ≤ 100000 ∧ h' = (h.1 + 1, h.2.1 + n.toNatClampNeg, va_up h.2.2 h.1 (.inl (t, n.toNatClampNeg, .inr (.inr (.inr (.inr (fun _ => none))))))) := by
  unfold m_newr at hg
  split at hg
  · rename_i hc; cases hg; exact ⟨hc.1, hc.2, rfl⟩
  · cases hg
theorem j_newi {n : Int32} (hd : decode Y.2.1 pc = .ok (.newarray .int, 2)) (hg : m_newi h n = some h') (kk : m_J X Y d (pc + 2) L (.ref h.1 :: st) h' r) : m_J X Y d pc L (.int n :: st) h r := by
  obtain ⟨hn, hN, rfl⟩ := m_newi_spec hg
  have k1 := kk.1
  simp only at k1
  refine ⟨⟨by omega, by omega⟩, fun E p l e R s m args below meth c H locs ls n0 z0 Q Cx g1 g2 hh hls K => ?_⟩
  obtain ⟨c1, c2, c3, c4, c5, c6, c7, c8, c9, c10, c11, c12, c13⟩ := id Cx
  refine va_newa (atype := .int) (ty := .int) (a0 := (n.toNatClampNeg, .inl (fun _ => 0))) c1 c2 (c5 _ tw_1_104) rfl c6 hh.1 (m_D E h) hh.2 (fun q hq => by unfold m_A; omega) (fun cA => rfl) hn rfl (by show n.toNatClampNeg * 4 ≤ _; omega) (by omega) (by omega) hd (fun q cA H1 hK hP hD hS => ?_)
  refine m_size (fun hz => ?_)
  have hq := m_next hP hD (by omega)
  subst hq
  have hc1 : s.vm.findClass ("[" ++ FieldType.int.toString) = some cA := (hK.2 7 (cA, .int) rfl).2
  have hc2 : s.vm.findClass ("[" ++ FieldType.int.toString) = some (E.2.2.2 0) := (c6.2 0 (E.2.2.2 0, .int) rfl).2
  have hcA : cA = E.2.2.2 0 := Option.some.inj (hc1.symm.trans hc2)
  subst hcA
  have hk := kk.2 E p l e R s m args below meth c H1 locs ls n0 z0 Q Cx (by simp only; omega) (by simp only; omega) ⟨by rw [← m_ws_push]; exact hP, hS⟩ hls K
  simp only at hk
  rw [show h.1 + 1 - n0 = h.1 - n0 + 1 by omega, show h.2.1 + n.toNatClampNeg - z0 = h.2.1 - z0 + n.toNatClampNeg by omega] at hk
  exact hk
theorem j_newl {n : Int32} (hd : decode Y.2.1 pc = .ok (.newarray .long, 2)) (hg : m_newl h n = some h') (kk : m_J X Y d (pc + 2) L (.ref h.1 :: st) h' r) : m_J X Y d pc L (.int n :: st) h r := by
  obtain ⟨hn, hN, rfl⟩ := m_newl_spec hg
  have k1 := kk.1
  simp only at k1
  refine ⟨⟨by omega, by omega⟩, fun E p l e R s m args below meth c H locs ls n0 z0 Q Cx g1 g2 hh hls K => ?_⟩
  obtain ⟨c1, c2, c3, c4, c5, c6, c7, c8, c9, c10, c11, c12, c13⟩ := id Cx
  refine va_newa (atype := .long) (ty := .long) (a0 := (n.toNatClampNeg, .inr (.inl (fun _ => 0)))) c1 c2 (c5 _ tw_1_103) rfl c6 hh.1 (m_D E h) hh.2 (fun q hq => by unfold m_A; omega) (fun cA => rfl) hn rfl (by show n.toNatClampNeg * 8 ≤ _; omega) (by omega) (by omega) hd (fun q cA H1 hK hP hD hS => ?_)
  refine m_size (fun hz => ?_)
  have hq := m_next hP hD (by omega)
  subst hq
  have hc1 : s.vm.findClass ("[" ++ FieldType.long.toString) = some cA := (hK.2 7 (cA, .long) rfl).2
  have hc2 : s.vm.findClass ("[" ++ FieldType.long.toString) = some (E.2.2.2 1) := (c6.2 1 (E.2.2.2 1, .long) rfl).2
  have hcA : cA = E.2.2.2 1 := Option.some.inj (hc1.symm.trans hc2)
  subst hcA
  have hk := kk.2 E p l e R s m args below meth c H1 locs ls n0 z0 Q Cx (by simp only; omega) (by simp only; omega) ⟨by rw [← m_ws_push]; exact hP, hS⟩ hls K
  simp only at hk
  rw [show h.1 + 1 - n0 = h.1 - n0 + 1 by omega, show h.2.1 + n.toNatClampNeg - z0 = h.2.1 - z0 + n.toNatClampNeg by omega] at hk
  exact hk
theorem m_ao_ty {E : mE} {t : Nat} (ht : 2 ≤ t ∧ t < 7) : (m_tys E)[t]? = some (E.2.2.2 t, .object (m_ao t)) := by
  obtain ⟨t1, t2⟩ := ht
  rcases (show t = 2 ∨ t = 3 ∨ t = 4 ∨ t = 5 ∨ t = 6 by omega) with rfl | rfl | rfl | rfl | rfl <;> rfl
theorem j_newr {n : Int32} {t ix : Nat} (ht : 2 ≤ t ∧ t < 7) (hw : Cond.classLink Y.1.cls ix (m_ao t) ∈ mT) (hd : decode Y.2.1 pc = .ok (.anewarray ix, 3)) (hg : m_newr h t n = some h') (kk : m_J X Y d (pc + 3) L (.ref h.1 :: st) h' r) : m_J X Y d pc L (.int n :: st) h r := by
  obtain ⟨hn, hN, rfl⟩ := m_newr_spec hg
  have k1 := kk.1
  simp only at k1
  refine ⟨⟨by omega, by omega⟩, fun E p l e R s m args below meth c H locs ls n0 z0 Q Cx g1 g2 hh hls K => ?_⟩
  obtain ⟨c1, c2, c3, c4, c5, c6, c7, c8, c9, c10, c11, c12, c13⟩ := id Cx
  refine va_newq (C := m_ao t) c1 c2 c4 (c5 _ hw) (c7.2.2 t) c6 hh.1 (m_D E h) hh.2 (fun q hq => by unfold m_A; omega) hn rfl (by omega) (by omega) (by omega) hd (fun q cA H1 hK hP hD hS => ?_)
  refine m_size (fun hz => ?_)
  have hq := m_next hP hD (by omega)
  subst hq
  obtain ⟨-, -, -, -, -, hc1⟩ := (hK.2 7 (cA, .object (m_ao t)) rfl).2
  obtain ⟨-, -, -, -, -, hc2⟩ := (c6.2 t _ (m_ao_ty ht)).2
  have hcA : cA = E.2.2.2 t := Option.some.inj (hc1.symm.trans hc2)
  subst hcA
  have hk := kk.2 E p l e R s m args below meth c H1 locs ls n0 z0 Q Cx (by simp only; omega) (by simp only; omega) ⟨by rw [← m_ws_push]; exact hP, hS⟩ hls K
  simp only at hk
  rw [show h.1 + 1 - n0 = h.1 - n0 + 1 by omega, show h.2.1 + n.toNatClampNeg - z0 = h.2.1 - z0 + n.toNatClampNeg by omega] at hk
  exact hk
/-! tables -/
theorem j_gets {ix : Nat} (t : Nat) (ht : t < 4) (hw : Cond.fieldLink Y.1.cls ix (m_tc t).1 (m_tc t).2.1 (m_tc t).2.2 ∈ mT) (hd : decode Y.2.1 pc = .ok (.getstatic ix, 3)) (kk : m_J X Y d (pc + 3) L (.float (UInt32.ofNat t) :: st) h r) : m_J X Y d pc L st h r := by
  refine ⟨kk.1, fun E p l e R s m args below meth c H locs ls n0 z0 Q Cx g1 g2 hh hls K => ?_⟩
  have hk := kk.2 E p l e R s m args below meth c H locs ls n0 z0 Q Cx g1 g2 hh hls K
  have e1 : (UInt32.ofNat t).toNat = t := Nat.mod_eq_of_lt (by omega)
  have e2 : m_ph E (.float (UInt32.ofNat t)) = .ref (E.2.2.1 t) := by show Value.ref (E.2.2.1 (UInt32.ofNat t).toNat) = _; rw [e1]
  rw [List.map_cons, e2] at hk
  exact va_gets Cx.1 Cx.2.1 (Cx.2.2.2.2.2.2.1.1 t ht) hh.2 Cx.2.2.2.1 (Cx.2.2.2.2.1 _ hw) (fun _ q => q) hd hk
def m_tl (X : mX) (t : Nat) (i : Int32) : Option Int64 := if ¬ (i < 0 ∨ m_tN X t ≤ i.toNatClampNeg) then (match m_tf X t i.toNatClampNeg with
  | .long x => some x
  | _ => none) else none
def m_ti (X : mX) (t : Nat) (i : Int32) : Option Int32 := if ¬ (i < 0 ∨ m_tN X t ≤ i.toNatClampNeg) then (match m_tf X t i.toNatClampNeg with
  | .int x => some x
  | _ => none) else none
theorem m_tl_spec {t : Nat} {i : Int32} {x : Int64} (hg : m_tl X t i = some x) : vp_in i (m_tN X t) ∧ m_tf X t i.toNatClampNeg = .long x := by
  unfold m_tl at hg
  split at hg
  · rename_i hi
    split at hg
    · rename_i y hy; cases hg; exact ⟨hi, hy⟩
    · cases hg
  · cases hg
theorem m_ti_spec {t : Nat} {i : Int32} {x : Int32} (hg : m_ti X t i = some x) : vp_in i (m_tN X t) ∧ m_tf X t i.toNatClampNeg = .int x := by
  unfold m_ti at hg
  split at hg
  · rename_i hi
    split at hg
    · rename_i y hy; cases hg; exact ⟨hi, hy⟩
    · cases hg
  · cases hg
theorem m_phT {E : mE} {t : Nat} (ht : t < 5) : m_ph E (.float (UInt32.ofNat t)) = .ref (E.2.2.1 t) := by
  have e1 : (UInt32.ofNat t).toNat = t := Nat.mod_eq_of_lt (by omega)
  show Value.ref (E.2.2.1 (UInt32.ofNat t).toNat) = _
  rw [e1]
theorem j_tlal {i : Int32} {x : Int64} (t : Nat) (ht : t < 5) (hty : m_tt t = .long) (hd : decode Y.2.1 pc = .ok (.laload, 1)) (hg : m_tl X t i = some x) (kk : m_J X Y d (pc + 1) L (.long x :: st) h r) : m_J X Y d pc L (.int i :: .float (UInt32.ofNat t) :: st) h r := by
  obtain ⟨hi, hv⟩ := m_tl_spec hg
  refine ⟨kk.1, fun E p l e R s m args below meth c H locs ls n0 z0 Q Cx g1 g2 hh hls K => ?_⟩
  have hk := kk.2 E p l e R s m args below meth c H locs ls n0 z0 Q Cx g1 g2 hh hls K
  rw [List.map_cons, List.map_cons, m_phT ht]
  have hT := Cx.2.2.2.2.2.2.1.2.1 t ht
  rw [hty] at hT
  exact va_tl Cx.1 Cx.2.1 hT hh.2 hi hv hd hk
theorem j_tial {i : Int32} {x : Int32} (t : Nat) (ht : t < 5) (hty : m_tt t = .int) (hd : decode Y.2.1 pc = .ok (.iaload, 1)) (hg : m_ti X t i = some x) (kk : m_J X Y d (pc + 1) L (.int x :: st) h r) : m_J X Y d pc L (.int i :: .float (UInt32.ofNat t) :: st) h r := by
  obtain ⟨hi, hv⟩ := m_ti_spec hg
  refine ⟨kk.1, fun E p l e R s m args below meth c H locs ls n0 z0 Q Cx g1 g2 hh hls K => ?_⟩
  have hk := kk.2 E p l e R s m args below meth c H locs ls n0 z0 Q Cx g1 g2 hh hls K
  rw [List.map_cons, List.map_cons, m_phT ht]
  have hT := Cx.2.2.2.2.2.2.1.2.1 t ht
  rw [hty] at hT
  exact va_ti Cx.1 Cx.2.1 hT hh.2 hi hv hd hk
theorem j_tlen (t : Nat) (ht : t < 5) (hd : decode Y.2.1 pc = .ok (.arraylength, 1)) (kk : m_J X Y d (pc + 1) L (.int (Int32.ofNat (m_tN X t)) :: st) h r) : m_J X Y d pc L (.float (UInt32.ofNat t) :: st) h r := by
  refine ⟨kk.1, fun E p l e R s m args below meth c H locs ls n0 z0 Q Cx g1 g2 hh hls K => ?_⟩
  have hk := kk.2 E p l e R s m args below meth c H locs ls n0 z0 Q Cx g1 g2 hh hls K
  rw [List.map_cons, m_phT ht]
  exact va_tlen Cx.1 Cx.2.1 (Cx.2.2.2.2.2.2.1.2.1 t ht) hh.2 rfl hd hk
/-! calls -/
def m_sl (as : List Value) : List (Option Value) := as.flatMap fun v => if v.category = 2 then [some v, none] else [some v]
def m_args (as : List Value) (n : Nat) : List (Option Value) := m_sl as ++ List.replicate (n - (m_sl as).length) none
theorem m_args_at {E : mE} : ∀ (as : List Value) (i j : Nat) (v : Value), (m_sl as)[j]? = some (some v) → (i + j, m_ph E v) ∈ lv_args i (as.map (m_ph E))
  | [], i, j, v, h => by simp [m_sl] at h
  | a :: as, i, j, v, h => by
    rw [show m_sl (a :: as) = (if a.category = 2 then [some a, none] else [some a]) ++ m_sl as from List.flatMap_cons] at h
    by_cases hc : a.category = 2
    · rw [if_pos hc] at h
      show _ ∈ (i, m_ph E a) :: lv_args (if (m_ph E a).category = 2 then i + 2 else i + 1) (as.map (m_ph E))
      rw [m_ph_cat, if_pos hc]
      match j, h with
      | 0, h => cases h; exact List.mem_cons_self
      | 1, h => cases h
      | j + 2, h =>
        have := m_args_at (E := E) as (i + 2) j v (by simpa using h)
        rw [show i + (j + 2) = i + 2 + j by omega]
        exact List.mem_cons_of_mem _ this
    · rw [if_neg hc] at h
      show _ ∈ (i, m_ph E a) :: lv_args (if (m_ph E a).category = 2 then i + 2 else i + 1) (as.map (m_ph E))
      rw [m_ph_cat, if_neg hc]
      match j, h with
      | 0, h => cases h; exact List.mem_cons_self
      | j + 1, h =>
        have := m_args_at (E := E) as (i + 1) j v (by simpa using h)
        rw [show i + (j + 1) = i + 1 + j by omega]
        exact List.mem_cons_of_mem _ this
theorem m_sl_len {E : mE} (as : List Value) : (lg_sl (as.map (m_ph E))).length = (m_sl as).length := by
  induction as with
  | nil => rfl
  | cons a as ih =>
    have e1 : lg_sl ((a :: as).map (m_ph E)) = (if (m_ph E a).category = 2 then [.val (m_ph E a), .second] else [.val (m_ph E a)]) ++ lg_sl (as.map (m_ph E)) := by simp [lg_sl]
    rw [e1, List.length_append, ih, show m_sl (a :: as) = (if a.category = 2 then [some a, none] else [some a]) ++ m_sl as from List.flatMap_cons, List.length_append, m_ph_cat]
    by_cases hc : a.category = 2 <;> simp [hc]
theorem m_args_len {as : List Value} {n : Nat} (h : (m_args as n).length = n) : (m_sl as).length ≤ n := by
  unfold m_args at h
  rw [List.length_append, List.length_replicate] at h
  omega
/-- what the tables say of a method: its name is plain, its code, class and return -/
def m_Ok (Y : mY) : Prop := plainFor Y.1 = true ∧ (Y.1.cls ≠ "java/lang/invoke/MethodHandle" ∧ Y.1.cls ≠ "java/lang/invoke/VarHandle") ∧ Cond.code Y.1 Y.2.1 Y.2.2.1 Y.2.2.2.1 ∈ mT ∧ Cond.initialized Y.1.cls ∈ mT ∧ Y.2.2.1 ≤ 29 ∧
  ((Y.2.2.2.1 = none ∧ Y.2.2.2.2 = .return_) ∨ ((Y.2.2.2.1 = some .int ∨ Y.2.2.2.1 = some .boolean) ∧ Y.2.2.2.2 = .ireturn) ∨ (Y.2.2.2.1 = some .long ∧ Y.2.2.2.2 = .lreturn) ∨ (∃ n, Y.2.2.2.1 = some (.object n)) ∧ Y.2.2.2.2 = .areturn)
def m_rm (d mc ms : Nat) : Room := { frames := d, cells := mc, slots := ms, locals := 48 * d }
def m_Pc (X : mX) (E : mE) (as : List Value) (h : mH) : Array Value → State → Prop := va_Pc (as.map (m_ph E)) (fun U => m_Wd X E h U)
def m_Qc (X : mX) (E : mE) (r : mR) : Array Value → State → Outcome → State → Prop := fun _ st o t => o = .returned (r.1.map (m_ph E)) ∧ m_Wd X E r.2 t ∧ va_F (m_A E) st t
theorem m_Wd.moved {X : mX} {E : mE} {h : mH} {u U : State} (hvm : u.vm.Alike U.vm) (hh : U.heap = u.heap) (w : m_Wd X E h u) : m_Wd X E h U := by
  obtain ⟨w1, w2, w3, w4⟩ := w
  exact ⟨va_K.moved hvm w1, by rw [hh]; exact w2, by rw [hh]; exact w3, by rw [hh]; exact w4.moved hvm⟩
theorem m_low {E : mE} {h : mH} {H : Heap} (hP : va_P E.1 vwCl (m_ws E h) H) (h0 : E.2.1 ≤ H.size) : E.2.1 + h.1 ≤ H.size := by
  rcases Nat.eq_zero_or_pos h.1 with hz | hz
  · rw [hz]; exact h0
  · have := (hP (h.1 - 1) _ (m_ws_get (by omega))).lt
    simp only at this
    omega
set_option maxHeartbeats 1000000 in
theorem m_met {X : mX} {Y : mY} {d : Nat} {as : List Value} {h : mH} {r : mR} (hok : m_Ok Y) (hJ : m_J X Y d 0 (m_args as Y.2.2.1) [] h r) (hlen : (m_sl as).length ≤ Y.2.2.1) (l : Launch) (E : mE) :
    Met l Y.1 (Cond.code Y.1 Y.2.1 Y.2.2.1 Y.2.2.2.1 :: mT) (m_rm d (r.2.1 - h.1) (r.2.2.1 - h.2.1)) (m_Pc X E as h) (m_Qc X E r) (r.2.1 - h.1) (r.2.2.1 - h.2.1) (m_A E) := by
  obtain ⟨o1, o2, o3, o4, o5, o6⟩ := hok
  refine MetFree.of_bodySF (code := Y.2.1) (maxLocals := Y.2.2.1) (ret := Y.2.2.2.1) o1 ?_ ?_
  · intro args s m hpre hn
    obtain ⟨meth, c, h1, h2, h3, h4, h5, h6, -, -⟩ := Cond.code_spec hn (atoms_spec (ws := Cond.code Y.1 Y.2.1 Y.2.2.1 Y.2.2.2.1 :: mT) hpre _ List.mem_cons_self)
    exact ⟨meth, c, h1, h2, h3, h4, h5, h6⟩
  intro p e s m args below meth c s₁ B hml hv _
  have hh0 : s₁.heap = s.heap := by rw [B.state]; rfl
  obtain ⟨rfl, wd⟩ := hv
  obtain ⟨w1, w2, w3, w4⟩ := wd
  have hts := atoms_spec (ws := Cond.code Y.1 Y.2.1 Y.2.2.1 Y.2.2.2.1 :: mT) B.pre
  have hown : s.vm.findClass Y.1.cls = some m.cls := findClass_of_methodNamed B.named
  have hin : meth.name = Y.1.name := (name_of_methodNamed B.named B.method).1
  have hl := lv_entry (as.map (m_ph E)) (n := Y.2.2.1) (by rw [m_sl_len]; exact hlen)
  have K : W p l e (m_rm d (r.2.1 - h.1) (r.2.2.1 - h.2.1)) s m (as.map (m_ph E)).toArray below meth c s.heap [] (h.1 - h.1) (h.2.1 - h.2.1) (MQ below (m_Qc X E r) (as.map (m_ph E)).toArray s (r.2.1 - h.1) (r.2.2.1 - h.2.1) (m_A E)) (entryFrame m (as.map (m_ph E)).toArray Y.2.2.1) := by
    rw [lg_entry_eq]
    refine hJ.2 E p l e _ s m _ below meth c s.heap [] _ h.1 h.2.1 _ ⟨B.exec, B.bytes, hml, hown, fun w hw => hts w (List.mem_cons_of_mem _ hw), w1, w4, hin, Nat.le_refl _, Nat.le_refl _, Nat.le_refl _, Nat.le_refl _, w3⟩ (Nat.le_refl _) (Nat.le_refl _) ⟨w2, va_S.rf⟩ ⟨hl.1, hl.2.1, fun i v hi => ?_⟩ ?_
    · refine hl.2.2 (i, m_ph E v) ?_
      unfold m_args at hi
      rcases Nat.lt_or_ge i (m_sl as).length with q | q
      · rw [List.getElem?_append_left q] at hi
        have := m_args_at (E := E) as 0 i v hi
        rwa [Nat.zero_add] at this
      · rw [List.getElem?_append_right q] at hi
        have := List.eq_of_mem_replicate (List.mem_of_getElem? hi)
        cases this
    · intro pc' ls' H' locs' hdec hrk hh'
      refine m_size (fun hz => ?_)
      have hq : ∀ t : State, t.heap = H' → s.WarmedH t.vm → m_Qc X E r (as.map (m_ph E)).toArray s (.returned (r.1.map (m_ph E))) t := by
        intro t ht hW
        have hs0 : va_S (m_A E) s.heap H' locs' := hh'.2
        refine ⟨rfl, ⟨va_K.moved hW.alike w1, by rw [ht]; exact hh'.1, ?_, ?_⟩, hs0.F ht⟩
        · have z1 := hs0.1
          have z2 := m_low hh'.1 (by omega)
          have z3 := hJ.1.1
          rw [ht]
          omega
        · rw [ht]
          exact (w4.kept (fun a ha hA => hs0.2.1 a ha hA)).moved hW.alike
      have hlk := B.notSynchronized
      have hret := B.returns
      rcases o6 with ⟨e1, e2⟩ | ⟨e1 | e1, e2⟩ | ⟨e1, e2⟩ | ⟨⟨nn, e1⟩, e2⟩
      · rw [e1] at hrk hret
        rw [e2] at hdec
        have e3 : r.1 = none := hrk
        rw [e3] at hq ⊢
        exact W.vret B.exec B.bytes hret hq hh'.2.2.2 hdec
      · rw [e1] at hrk hret
        rw [e2] at hdec
        obtain ⟨x, e3⟩ := hrk
        rw [e3] at hq ⊢
        exact W.iret B.exec B.bytes hret hq hh'.2.2.2 hdec
      · rw [e1] at hrk hret
        rw [e2] at hdec
        rcases hrk with e3 | e3
        · rw [e3] at hq ⊢
          exact W.zret B.exec B.bytes hret rfl hq hh'.2.2.2 hdec
        · rw [e3] at hq ⊢
          exact W.zret B.exec B.bytes hret rfl hq hh'.2.2.2 hdec
      · rw [e1] at hrk hret
        rw [e2] at hdec
        obtain ⟨x, e3⟩ := hrk
        rw [e3] at hq ⊢
        exact W.lret B.exec B.bytes hret hq hh'.2.2.2 hdec
      · rw [e1] at hrk hret
        rw [e2] at hdec
        obtain ⟨x, e3⟩ := hrk
        rw [e3] at hq ⊢
        refine W.aret (rt := .object nn) B.exec B.bytes hret (Or.inl ⟨nn, rfl⟩) ?_ hq hh'.2.2.2 hdec
        cases x with
        | none => exact Or.inl rfl
        | some a => exact Or.inr ⟨_, rfl⟩
  rw [Nat.sub_self, Nat.sub_self] at K
  obtain ⟨t, a1, o, b1, b2, b3⟩ := K s₁ hh0 (Stand.of_body B)
  exact ⟨t, o, a1, b1, b2, ⟨b3.1, b3.2⟩⟩
theorem m_run {X : mX} {E : mE} {r' : mR} {p : Program} {l : Launch} {e : Env} {R : Room} {s : State} {m : MethodId} {args a : Array Value} {below : List Frame} {meth : Method} {c : Code} {H : Heap} {locs : List Loc} {cells slots mc ms pc : Nat} {Q : State → Prop} {ls : Array Slot} {st0 rest : List Value}
    (hr : va_Run p l e R s m args below meth c H locs cells slots mc ms (F0 m pc ls st0) rest (m_Qc X E r' a) (m_A E)) (hS : va_S (m_A E) s.heap H locs)
    (kk : ∀ (H1 : Heap) (locs1 : List Loc), va_P E.1 vwCl (m_ws E r'.2) H1 → va_S (m_A E) s.heap H1 locs1 → W p l e R s m args below meth c H1 locs1 (cells + mc) (slots + ms) Q (F0 m (pc + 3) ls ((r'.1.map (m_ph E)).toList ++ rest))) : W p l e R s m args below meth c H locs cells slots Q (F0 m pc ls st0) := by
  intro T hT Z
  obtain ⟨v, st₀, t, T', L', h0, Z', hL, e1, e2, ⟨hv, wd, hz, hk⟩, stp⟩ := hr T hT Z
  cases hv
  rw [h0] at hz hk
  obtain ⟨t2, a1, b1⟩ := kk T'.heap (locs ++ L') (by rw [e1]; exact wd.2.1) ⟨Nat.le_trans hS.1 (by rw [e1]; exact hz), fun q h1 h2 => by rw [e1, hk q (Nat.lt_of_lt_of_le h1 hS.1) h2]; exact hS.2.1 q h1 h2, fun q hq => by
      rcases List.mem_append.mp hq with h | h
      · exact hS.2.2 q h
      · exact hL q h⟩ T' rfl Z'
  exact ⟨t2, stp t2 a1, b1⟩
theorem m_toL {E : mE} (v : Option Value) : (v.map (m_ph E)).toList = v.toList.map (m_ph E) := by cases v <;> rfl
/-- the world of a callee's start, out of the caller's -/
theorem m_pre {X : mX} {E : mE} {h : mH} {s : State} {H : Heap} {locs : List Loc} (hK : va_K E.1 vwCl (m_tys E) s) (hSt : m_St X E s s.heap) (hh : m_h E h s H locs) (hz : H.size = E.2.1 + h.1) (U : State) (hU : U.heap = H) (hW : s.WarmedH U.vm) : m_Wd X E h U :=
  ⟨va_K.moved hW.alike hK, by rw [hU]; exact hh.1, by rw [hU]; exact hz, by rw [hU]; exact (hSt.kept (fun a ha hA => hh.2.2.1 a ha hA)).moved hW.alike⟩
theorem m_blind {X : mX} {E : mE} {as : List Value} {h : mH} : FrameBlind (m_Pc X E as h) := fun a U g mk q => ⟨q.1, m_Wd.moved (u := U) (U := U.calling g mk a) (Vm.Alike.refl U.vm) rfl q.2⟩
theorem m_catsum {E : mE} {st : List Value} (h : (st.map fun v => v.category).sum ≤ 8) : ((st.map (m_ph E)).map fun v => v.category).sum ≤ 8 := by
  rw [List.map_map, show ((fun v : Value => v.category) ∘ m_ph E) = (fun v => v.category) from funext (m_ph_cat E)]
  exact h
set_option maxHeartbeats 1000000 in
theorem j_callS {Y' : mY} {r' : mR} {as : List Value} {ix : Nat} (hok : m_Ok Y') (L0 : List (Option Value)) (hA : m_args as Y'.2.2.1 = L0) (h0 : L0.length = Y'.2.2.1) (hw : Cond.methodLink Y.1.cls ix Y'.1 ∈ mT) (hw2 : Cond.static Y'.1 ∈ mT) (hn : (parseMethodDescriptor Y'.1.desc).map (fun q => q.parameters.length) = some as.length) (hst : (st.map fun v => v.category).sum ≤ 8) (hd : decode Y.2.1 pc = .ok (.invokestatic ix, 3)) (hJ : m_J X Y' d 0 L0 [] h r') (kk : m_J X Y (d + 1) (pc + 3) L (r'.1.toList ++ st) r'.2 r) : m_J X Y (d + 1) pc L (as.reverse ++ st) h r := by
  refine ⟨⟨Nat.le_trans hJ.1.1 kk.1.1, Nat.le_trans hJ.1.2 kk.1.2⟩, fun E p l e R s m args below meth c H locs ls n0 z0 Q Cx g1 g2 hh hls K => ?_⟩
  obtain ⟨c1, c2, c3, c4, c5, c6, c7, c8, c9, c10, c11, c12, c13⟩ := id Cx
  subst hA
  have j1 := hJ.1
  have k1 := kk.1
  refine m_size (fun hz => ?_)
  have hz2 := m_low hh.1 (by have := hh.2.1; omega)
  have hz3 : H.size = E.2.1 + h.1 := by omega
  have hM := m_met hok hJ (m_args_len h0) l E
  have cw : CallB R s args Y.1.cls ix Y'.1 Y'.2.1 Y'.2.2.1 Y'.2.2.2.1 (Cond.code Y'.1 Y'.2.1 Y'.2.2.1 Y'.2.2.2.1 :: mT) (m_rm d (r'.2.1 - h.1) (r'.2.2.1 - h.2.1)) (r'.2.1 - h.1) (r'.2.2.1 - h.2.1) as.length :=
    callB_of (Ts := mT) as.length c5 (fun w hw => by
      rcases List.mem_cons.mp hw with rfl | q
      · exact mT_good _ hok.2.2.1
      · exact mT_good _ q) rfl rfl rfl (c5 _ hok.2.2.2.1) (c5 _ hw) ⟨hok.2.1.1, hok.2.1.2, hn⟩ ⟨by show d + 1 ≤ _; omega, by show 8 + (Y'.2.2.1 + 11) + 48 * d ≤ _; have := hok.2.2.2.2.1; omega⟩
  have hr := va_runS (p := p) (e := e) (below := below) (meth := meth) (locs := locs) (cells := h.1 - n0) (slots := h.2.1 - z0) (As := as.map (m_ph E)) (rest := st.map (m_ph E)) (g := F0 m pc ls ((as.reverse ++ st).map (m_ph E))) (Ts := mT) ⟨c1, c2, c3, c4, c5⟩ hM ⟨cw, c5 _ hw2⟩ ⟨m_blind, fun U hU hW => ⟨rfl, m_pre c6 c7 hh hz3 U hU hW⟩⟩ rfl (List.length_map _) hls.1 (by show (as.reverse ++ st).map (m_ph E) = _; rw [List.map_append, List.map_reverse]) (lv_room (m_catsum hst)) hd ⟨by omega, by omega⟩
  refine m_run hr hh.2 (fun H1 locs1 hP hS => ?_)
  have hk := kk.2 E p l e R s m args below meth c H1 locs1 ls n0 z0 Q Cx (by omega) (by omega) ⟨hP, hS⟩ hls K
  rw [List.map_append, ← m_toL, show r'.2.1 - n0 = h.1 - n0 + (r'.2.1 - h.1) by omega, show r'.2.2.1 - z0 = h.2.1 - z0 + (r'.2.2.1 - h.2.1) by omega] at hk
  exact hk
set_option maxHeartbeats 1000000 in
theorem j_callV {Y' : mY} {r' : mR} {as : List Value} {ix a ci N : Nat} {T : u_T} (hok : m_Ok Y') (L0 : List (Option Value)) (hA : m_args (.ref a :: as) Y'.2.2.1 = L0) (h0 : L0.length = Y'.2.2.1) (hc : vwCl[ci]? = some (Y'.1.cls, T, N)) (hw : Cond.methodLink Y.1.cls ix Y'.1 ∈ mT) (hw2 : Cond.instanceMethod Y'.1 ∈ mT) (hw3 : Cond.selects Y'.1.cls Y'.1 Y'.1 ∈ mT) (hn : (parseMethodDescriptor Y'.1.desc).map (fun q => q.parameters.length) = some as.length) (hst : (st.map fun v => v.category).sum ≤ 8) (hd : decode Y.2.1 pc = .ok (.invokevirtual ix, 3)) (ho : m_ob h a ci = true) (hJ : m_J X Y' d 0 L0 [] h r') (kk : m_J X Y (d + 1) (pc + 3) L (r'.1.toList ++ st) r'.2 r) : m_J X Y (d + 1) pc L (as.reverse ++ .ref a :: st) h r := by
  refine ⟨⟨Nat.le_trans hJ.1.1 kk.1.1, Nat.le_trans hJ.1.2 kk.1.2⟩, fun E p l e R s m args below meth c H locs ls n0 z0 Q Cx g1 g2 hh hls K => ?_⟩
  obtain ⟨c1, c2, c3, c4, c5, c6, c7, c8, c9, c10, c11, c12, c13⟩ := id Cx
  subst hA
  have j1 := hJ.1
  have k1 := kk.1
  refine m_size (fun hz => ?_)
  have hz2 := m_low hh.1 (by have := hh.2.1; omega)
  have hz3 : H.size = E.2.1 + h.1 := by omega
  have hM := m_met hok hJ (m_args_len h0) l E
  have cw : CallB R s args Y.1.cls ix Y'.1 Y'.2.1 Y'.2.2.1 Y'.2.2.2.1 (Cond.code Y'.1 Y'.2.1 Y'.2.2.1 Y'.2.2.2.1 :: mT) (m_rm d (r'.2.1 - h.1) (r'.2.2.1 - h.2.1)) (r'.2.1 - h.1) (r'.2.2.1 - h.2.1) as.length :=
    callB_of (Ts := mT) as.length c5 (fun w hw => by
      rcases List.mem_cons.mp hw with rfl | q
      · exact mT_good _ hok.2.2.1
      · exact mT_good _ q) rfl rfl rfl (c5 _ hok.2.2.2.1) (c5 _ hw) ⟨hok.2.1.1, hok.2.1.2, hn⟩ ⟨by show d + 1 ≤ _; omega, by show 8 + (Y'.2.2.1 + 11) + 48 * d ≤ _; have := hok.2.2.2.2.1; omega⟩
  obtain ⟨fs, ha, hae⟩ := m_ob_spec ho
  have hr := va_runV (p := p) (e := e) (below := below) (meth := meth) (locs := locs) (cells := h.1 - n0) (slots := h.2.1 - z0) (As := as.map (m_ph E)) (rest := st.map (m_ph E)) (b := E.2.1 + a) (C := Y'.1.cls) (g := F0 m pc ls ((as.reverse ++ .ref a :: st).map (m_ph E))) (Ts := mT) ⟨c1, c2, c3, c4, c5⟩ hM ⟨cw, c5 _ hw2, c5 _ hw3⟩ ⟨m_blind, va_recv c6 hh.1 hc (m_at ha hae), fun U hU hW => ⟨rfl, m_pre c6 c7 hh hz3 U hU hW⟩⟩ rfl (List.length_map _) hls.1 (by show (as.reverse ++ .ref a :: st).map (m_ph E) = _; rw [List.map_append, List.map_reverse]; rfl) (lv_room (m_catsum hst)) hd ⟨by omega, by omega⟩
  refine m_run hr hh.2 (fun H1 locs1 hP hS => ?_)
  have hk := kk.2 E p l e R s m args below meth c H1 locs1 ls n0 z0 Q Cx (by omega) (by omega) ⟨hP, hS⟩ hls K
  rw [List.map_append, ← m_toL, show r'.2.1 - n0 = h.1 - n0 + (r'.2.1 - h.1) by omega, show r'.2.2.1 - z0 = h.2.1 - z0 + (r'.2.2.1 - h.2.1) by omega] at hk
  exact hk
set_option maxHeartbeats 1000000 in
theorem j_callI {Y' : mY} {r' : mR} {as : List Value} {ix a : Nat} (hok : m_Ok Y') (hy : Y'.1.name = "<init>") (hrt : Y'.2.2.2.1 = none) (L0 : List (Option Value)) (hA : m_args (.ref a :: as) Y'.2.2.1 = L0) (h0 : L0.length = Y'.2.2.1) (hw : Cond.methodLink Y.1.cls ix Y'.1 ∈ mT) (hw2 : Cond.instanceMethod Y'.1 ∈ mT) (hn : (parseMethodDescriptor Y'.1.desc).map (fun q => q.parameters.length) = some as.length) (hst : (st.map fun v => v.category).sum ≤ 8) (hd : decode Y.2.1 pc = .ok (.invokespecial ix, 3)) (hJ : m_J X Y' d 0 L0 [] h r') (kk : m_J X Y (d + 1) (pc + 3) L (r'.1.toList ++ st) r'.2 r) : m_J X Y (d + 1) pc L (as.reverse ++ .ref a :: st) h r := by
  refine ⟨⟨Nat.le_trans hJ.1.1 kk.1.1, Nat.le_trans hJ.1.2 kk.1.2⟩, fun E p l e R s m args below meth c H locs ls n0 z0 Q Cx g1 g2 hh hls K => ?_⟩
  obtain ⟨c1, c2, c3, c4, c5, c6, c7, c8, c9, c10, c11, c12, c13⟩ := id Cx
  subst hA
  have j1 := hJ.1
  have k1 := kk.1
  refine m_size (fun hz => ?_)
  have hz2 := m_low hh.1 (by have := hh.2.1; omega)
  have hz3 : H.size = E.2.1 + h.1 := by omega
  have hM := m_met hok hJ (m_args_len h0) l E
  have cw : CallB R s args Y.1.cls ix Y'.1 Y'.2.1 Y'.2.2.1 none (Cond.code Y'.1 Y'.2.1 Y'.2.2.1 Y'.2.2.2.1 :: mT) (m_rm d (r'.2.1 - h.1) (r'.2.2.1 - h.2.1)) (r'.2.1 - h.1) (r'.2.2.1 - h.2.1) as.length :=
    callB_of (Ts := mT) as.length c5 (fun w hw => by
      rcases List.mem_cons.mp hw with rfl | q
      · exact mT_good _ hok.2.2.1
      · exact mT_good _ q) (by rw [hrt]) rfl rfl (c5 _ hok.2.2.2.1) (c5 _ hw) ⟨hok.2.1.1, hok.2.1.2, hn⟩ ⟨by show d + 1 ≤ _; omega, by show 8 + (Y'.2.2.1 + 11) + 48 * d ≤ _; have := hok.2.2.2.2.1; omega⟩
  have hr := va_runI (p := p) (e := e) (below := below) (meth := meth) (locs := locs) (cells := h.1 - n0) (slots := h.2.1 - z0) (As := as.map (m_ph E)) (rest := st.map (m_ph E)) (b := E.2.1 + a) (g := F0 m pc ls ((as.reverse ++ .ref a :: st).map (m_ph E))) (Ts := mT) ⟨c1, c2, c3, c4, c5⟩ hM ⟨cw, hy, c5 _ hw2⟩ ⟨m_blind, fun U hU hW => ⟨rfl, m_pre c6 c7 hh hz3 U hU hW⟩⟩ rfl (List.length_map _) hls.1 (by show (as.reverse ++ .ref a :: st).map (m_ph E) = _; rw [List.map_append, List.map_reverse]; rfl) (lv_room (m_catsum hst)) hd ⟨by omega, by omega⟩
  refine m_run hr hh.2 (fun H1 locs1 hP hS => ?_)
  have hk := kk.2 E p l e R s m args below meth c H1 locs1 ls n0 z0 Q Cx (by omega) (by omega) ⟨hP, hS⟩ hls K
  rw [List.map_append, ← m_toL, show r'.2.1 - n0 = h.1 - n0 + (r'.2.1 - h.1) by omega, show r'.2.2.1 - z0 = h.2.1 - z0 + (r'.2.2.1 - h.2.1) by omega] at hk
  exact hk
end JN
/-! loops -/
def m_loop {σ ρ : Type} (step : σ → Option (σ ⊕ ρ)) : Nat → σ → Option ρ
  | 0, _ => none
  | n + 1, s => match step s with
    | none => none
    | some (.inl s') => m_loop step n s'
    | some (.inr e) => some e
theorem m_loop_sound {σ ρ : Type} {step : σ → Option (σ ⊕ ρ)} {P : σ → Prop} {Qe : ρ → Prop} (hs : ∀ s o, step s = some o → (match o with | .inl s' => P s' | .inr e => Qe e) → P s) : ∀ (n : Nat) (s : σ) (e : ρ), m_loop step n s = some e → Qe e → P s
  | 0, s, e, h, _ => by cases h
  | n + 1, s, e, h, hq => by
    unfold m_loop at h
    cases hst : step s with
    | none => rw [hst] at h; cases h
    | some o =>
      rw [hst] at h
      cases o with
      | inl s' => exact hs s _ hst (m_loop_sound hs n s' e h hq)
      | inr e' => cases h; exact hs s _ hst hq
theorem m_bind {α β : Type} {o : Option α} {f : α → Option β} {r : β} (h : o.bind f = some r) : ∃ a, o = some a ∧ f a = some r := by
  cases o with
  | none => cases h
  | some a => exact ⟨a, rfl, h⟩
theorem m_rk_i {x : Int32} : m_rk (some .int) (some (.int x)) := ⟨x, rfl⟩
theorem m_rk_l {x : Int64} : m_rk (some .long) (some (.long x)) := ⟨x, rfl⟩
theorem m_rk_z0 : m_rk (some .boolean) (some (.int 0)) := Or.inl rfl
theorem m_rk_z1 : m_rk (some .boolean) (some (.int 1)) := Or.inr rfl
theorem m_rk_r {n : String} (q : Option Nat) : m_rk (some (.object n)) (some (va_rf q)) := ⟨q, rfl⟩
theorem m_rk_v : m_rk none none := rfl
theorem m_nwq (q : Option Nat) : ((va_rf q).category == 1) = true := by cases q <;> rfl
theorem m_o1 (x : Int32) : x + Int32.ofInt 1 = x + 1 := rfl
theorem m_o2 (x : Int32) : x + Int32.ofInt 2 = x + 2 := rfl
theorem m_o6 (x : Int32) : x + Int32.ofInt 6 = x + 6 := rfl
theorem m_om1 (x : Int32) : x + Int32.ofInt (-1) = x + (-1) := rfl
theorem m_sw {x : Int32} {k : Nat} (hk : k < 2147483648) (h : ¬ x = Int32.ofNat k) : ¬ x.toInt = (k : Int) := by
  intro q
  apply h
  apply Int32.toInt_inj.mp
  rw [q]
  exact (nI_toInt (n := k) hk).symm
/-- the tables that no call changes -/
def m_TL (t : Nat) (i : Int32) : Option Int64 := m_tl (0, fun _ => 0) t i
def m_TI (t : Nat) (i : Int32) : Option Int32 := m_ti (0, fun _ => 0) t i
theorem m_TL_X {X : mX} {t : Nat} {i : Int32} (ht : t < 4) : m_tl X t i = m_TL t i := by
  rcases (show t = 0 ∨ t = 1 ∨ t = 2 ∨ t = 3 by omega) with rfl | rfl | rfl | rfl <;> rfl
theorem m_TI_X {X : mX} {t : Nat} {i : Int32} (ht : t < 4) : m_ti X t i = m_TI t i := by
  rcases (show t = 0 ∨ t = 1 ∨ t = 2 ∨ t = 3 by omega) with rfl | rfl | rfl | rfl <;> rfl
end
section
theorem dX0_init_0 : decode cX0_init 0 = .ok (.aload_n 0, 1) := by decide +kernel
theorem dX0_init_1 : decode cX0_init 1 = .ok (.invokespecial 1, 3) := by decide +kernel
theorem dX0_init_4 : decode cX0_init 4 = .ok (.aload_n 0, 1) := by decide +kernel
theorem dX0_init_5 : decode cX0_init 5 = .ok (.iload_n 1, 1) := by decide +kernel
theorem dX0_init_6 : decode cX0_init 6 = .ok (.putfield 7, 3) := by decide +kernel
theorem dX0_init_9 : decode cX0_init 9 = .ok (.aload_n 0, 1) := by decide +kernel
theorem dX0_init_10 : decode cX0_init 10 = .ok (.iload_n 2, 1) := by decide +kernel
theorem dX0_init_11 : decode cX0_init 11 = .ok (.putfield 13, 3) := by decide +kernel
theorem dX0_init_14 : decode cX0_init 14 = .ok (.aload_n 0, 1) := by decide +kernel
theorem dX0_init_15 : decode cX0_init 15 = .ok (.iconst 0, 1) := by decide +kernel
theorem dX0_init_16 : decode cX0_init 16 = .ok (.iload_n 3, 1) := by decide +kernel
theorem dX0_init_17 : decode cX0_init 17 = .ok (.invokestatic 16, 3) := by decide +kernel
theorem dX0_init_20 : decode cX0_init 20 = .ok (.anewarray 22, 3) := by decide +kernel
theorem dX0_init_23 : decode cX0_init 23 = .ok (.putfield 24, 3) := by decide +kernel
theorem dX0_init_26 : decode cX0_init 26 = .ok (.return_, 1) := by decide +kernel
theorem dX0_hasPlace_0 : decode cX0_hasPlace 0 = .ok (.iload_n 1, 1) := by decide +kernel
theorem dX0_hasPlace_1 : decode cX0_hasPlace 1 = .ok (.ifCond .lt 16, 3) := by decide +kernel
theorem dX0_hasPlace_4 : decode cX0_hasPlace 4 = .ok (.iload_n 1, 1) := by decide +kernel
theorem dX0_hasPlace_5 : decode cX0_hasPlace 5 = .ok (.aload_n 0, 1) := by decide +kernel
theorem dX0_hasPlace_6 : decode cX0_hasPlace 6 = .ok (.getfield 24, 3) := by decide +kernel
theorem dX0_hasPlace_9 : decode cX0_hasPlace 9 = .ok (.arraylength, 1) := by decide +kernel
theorem dX0_hasPlace_10 : decode cX0_hasPlace 10 = .ok (.if_icmp .ge 7, 3) := by decide +kernel
theorem dX0_hasPlace_13 : decode cX0_hasPlace 13 = .ok (.iconst 1, 1) := by decide +kernel
theorem dX0_hasPlace_14 : decode cX0_hasPlace 14 = .ok (.goto 4, 3) := by decide +kernel
theorem dX0_hasPlace_17 : decode cX0_hasPlace 17 = .ok (.iconst 0, 1) := by decide +kernel
theorem dX0_hasPlace_18 : decode cX0_hasPlace 18 = .ok (.ireturn, 1) := by decide +kernel
theorem dX0_isFree_0 : decode cX0_isFree 0 = .ok (.aload_n 0, 1) := by decide +kernel
theorem dX0_isFree_1 : decode cX0_isFree 1 = .ok (.iload_n 1, 1) := by decide +kernel
theorem dX0_isFree_2 : decode cX0_isFree 2 = .ok (.invokevirtual 28, 3) := by decide +kernel
theorem dX0_isFree_5 : decode cX0_isFree 5 = .ok (.ifCond .eq 16, 3) := by decide +kernel
theorem dX0_isFree_8 : decode cX0_isFree 8 = .ok (.aload_n 0, 1) := by decide +kernel
theorem dX0_isFree_9 : decode cX0_isFree 9 = .ok (.getfield 24, 3) := by decide +kernel
theorem dX0_isFree_12 : decode cX0_isFree 12 = .ok (.iload_n 1, 1) := by decide +kernel
theorem dX0_isFree_13 : decode cX0_isFree 13 = .ok (.aaload, 1) := by decide +kernel
theorem dX0_isFree_14 : decode cX0_isFree 14 = .ok (.ifnonnull 7, 3) := by decide +kernel
theorem dX0_isFree_17 : decode cX0_isFree 17 = .ok (.iconst 1, 1) := by decide +kernel
theorem dX0_isFree_18 : decode cX0_isFree 18 = .ok (.goto 4, 3) := by decide +kernel
theorem dX0_isFree_21 : decode cX0_isFree 21 = .ok (.iconst 0, 1) := by decide +kernel
theorem dX0_isFree_22 : decode cX0_isFree 22 = .ok (.ireturn, 1) := by decide +kernel
theorem dX0_at_0 : decode cX0_at 0 = .ok (.aload_n 0, 1) := by decide +kernel
theorem dX0_at_1 : decode cX0_at 1 = .ok (.iload_n 1, 1) := by decide +kernel
theorem dX0_at_2 : decode cX0_at 2 = .ok (.invokevirtual 28, 3) := by decide +kernel
theorem dX0_at_5 : decode cX0_at 5 = .ok (.ifCond .eq 12, 3) := by decide +kernel
theorem dX0_at_8 : decode cX0_at 8 = .ok (.aload_n 0, 1) := by decide +kernel
theorem dX0_at_9 : decode cX0_at 9 = .ok (.getfield 24, 3) := by decide +kernel
theorem dX0_at_12 : decode cX0_at 12 = .ok (.iload_n 1, 1) := by decide +kernel
theorem dX0_at_13 : decode cX0_at 13 = .ok (.aaload, 1) := by decide +kernel
theorem dX0_at_14 : decode cX0_at 14 = .ok (.goto 4, 3) := by decide +kernel
theorem dX0_at_17 : decode cX0_at 17 = .ok (.aconst_null, 1) := by decide +kernel
theorem dX0_at_18 : decode cX0_at 18 = .ok (.areturn, 1) := by decide +kernel
theorem dX0_set_0 : decode cX0_set 0 = .ok (.aload_n 0, 1) := by decide +kernel
theorem dX0_set_1 : decode cX0_set 1 = .ok (.iload_n 1, 1) := by decide +kernel
theorem dX0_set_2 : decode cX0_set 2 = .ok (.invokevirtual 28, 3) := by decide +kernel
theorem dX0_set_5 : decode cX0_set 5 = .ok (.ifCond .eq 10, 3) := by decide +kernel
theorem dX0_set_8 : decode cX0_set 8 = .ok (.aload_n 0, 1) := by decide +kernel
theorem dX0_set_9 : decode cX0_set 9 = .ok (.getfield 24, 3) := by decide +kernel
theorem dX0_set_12 : decode cX0_set 12 = .ok (.iload_n 1, 1) := by decide +kernel
theorem dX0_set_13 : decode cX0_set 13 = .ok (.aload_n 2, 1) := by decide +kernel
theorem dX0_set_14 : decode cX0_set 14 = .ok (.aastore, 1) := by decide +kernel
theorem dX0_set_15 : decode cX0_set 15 = .ok (.return_, 1) := by decide +kernel
theorem dX1_isKind_0 : decode cX1_isKind 0 = .ok (.iload_n 0, 1) := by decide +kernel
theorem dX1_isKind_1 : decode cX1_isKind 1 = .ok (.ifCond .lt 13, 3) := by decide +kernel
theorem dX1_isKind_4 : decode cX1_isKind 4 = .ok (.iload_n 0, 1) := by decide +kernel
theorem dX1_isKind_5 : decode cX1_isKind 5 = .ok (.bipush 24, 2) := by decide +kernel
theorem dX1_isKind_7 : decode cX1_isKind 7 = .ok (.if_icmp .ge 7, 3) := by decide +kernel
theorem dX1_isKind_10 : decode cX1_isKind 10 = .ok (.iconst 1, 1) := by decide +kernel
theorem dX1_isKind_11 : decode cX1_isKind 11 = .ok (.goto 4, 3) := by decide +kernel
theorem dX1_isKind_14 : decode cX1_isKind 14 = .ok (.iconst 0, 1) := by decide +kernel
theorem dX1_isKind_15 : decode cX1_isKind 15 = .ok (.ireturn, 1) := by decide +kernel
theorem dX1_isTrait_0 : decode cX1_isTrait 0 = .ok (.iload_n 0, 1) := by decide +kernel
theorem dX1_isTrait_1 : decode cX1_isTrait 1 = .ok (.bipush 40, 2) := by decide +kernel
theorem dX1_isTrait_3 : decode cX1_isTrait 3 = .ok (.if_icmp .lt 13, 3) := by decide +kernel
theorem dX1_isTrait_6 : decode cX1_isTrait 6 = .ok (.iload_n 0, 1) := by decide +kernel
theorem dX1_isTrait_7 : decode cX1_isTrait 7 = .ok (.bipush 49, 2) := by decide +kernel
theorem dX1_isTrait_9 : decode cX1_isTrait 9 = .ok (.if_icmp .ge 7, 3) := by decide +kernel
theorem dX1_isTrait_12 : decode cX1_isTrait 12 = .ok (.iconst 1, 1) := by decide +kernel
theorem dX1_isTrait_13 : decode cX1_isTrait 13 = .ok (.goto 4, 3) := by decide +kernel
theorem dX1_isTrait_16 : decode cX1_isTrait 16 = .ok (.iconst 0, 1) := by decide +kernel
theorem dX1_isTrait_17 : decode cX1_isTrait 17 = .ok (.ireturn, 1) := by decide +kernel
theorem dX1_isKindOrTrait_0 : decode cX1_isKindOrTrait 0 = .ok (.iload_n 0, 1) := by decide +kernel
theorem dX1_isKindOrTrait_1 : decode cX1_isKindOrTrait 1 = .ok (.invokestatic 11, 3) := by decide +kernel
theorem dX1_isKindOrTrait_4 : decode cX1_isKindOrTrait 4 = .ok (.ifCond .ne 10, 3) := by decide +kernel
theorem dX1_isKindOrTrait_7 : decode cX1_isKindOrTrait 7 = .ok (.iload_n 0, 1) := by decide +kernel
theorem dX1_isKindOrTrait_8 : decode cX1_isKindOrTrait 8 = .ok (.invokestatic 15, 3) := by decide +kernel
theorem dX1_isKindOrTrait_11 : decode cX1_isKindOrTrait 11 = .ok (.ifCond .eq 7, 3) := by decide +kernel
theorem dX1_isKindOrTrait_14 : decode cX1_isKindOrTrait 14 = .ok (.iconst 1, 1) := by decide +kernel
theorem dX1_isKindOrTrait_15 : decode cX1_isKindOrTrait 15 = .ok (.goto 4, 3) := by decide +kernel
theorem dX1_isKindOrTrait_18 : decode cX1_isKindOrTrait 18 = .ok (.iconst 0, 1) := by decide +kernel
theorem dX1_isKindOrTrait_19 : decode cX1_isKindOrTrait 19 = .ok (.ireturn, 1) := by decide +kernel
theorem dX1_isConcrete_0 : decode cX1_isConcrete 0 = .ok (.iload_n 0, 1) := by decide +kernel
theorem dX1_isConcrete_1 : decode cX1_isConcrete 1 = .ok (.invokestatic 11, 3) := by decide +kernel
theorem dX1_isConcrete_4 : decode cX1_isConcrete 4 = .ok (.ifCond .eq 17, 3) := by decide +kernel
theorem dX1_isConcrete_7 : decode cX1_isConcrete 7 = .ok (.ldc2_w 18, 3) := by decide +kernel
theorem dX1_isConcrete_10 : decode cX1_isConcrete 10 = .ok (.iload_n 0, 1) := by decide +kernel
theorem dX1_isConcrete_11 : decode cX1_isConcrete 11 = .ok (.invokestatic 20, 3) := by decide +kernel
theorem dX1_isConcrete_14 : decode cX1_isConcrete 14 = .ok (.ifCond .ne 7, 3) := by decide +kernel
theorem dX1_isConcrete_17 : decode cX1_isConcrete 17 = .ok (.iconst 1, 1) := by decide +kernel
theorem dX1_isConcrete_18 : decode cX1_isConcrete 18 = .ok (.goto 4, 3) := by decide +kernel
theorem dX1_isConcrete_21 : decode cX1_isConcrete 21 = .ok (.iconst 0, 1) := by decide +kernel
theorem dX1_isConcrete_22 : decode cX1_isConcrete 22 = .ok (.ireturn, 1) := by decide +kernel
theorem dX1_isCase_0 : decode cX1_isCase 0 = .ok (.iload_n 0, 1) := by decide +kernel
theorem dX1_isCase_1 : decode cX1_isCase 1 = .ok (.bipush 100, 2) := by decide +kernel
theorem dX1_isCase_3 : decode cX1_isCase 3 = .ok (.if_icmp .lt 17, 3) := by decide +kernel
theorem dX1_isCase_6 : decode cX1_isCase 6 = .ok (.iload_n 0, 1) := by decide +kernel
theorem dX1_isCase_7 : decode cX1_isCase 7 = .ok (.bipush 100, 2) := by decide +kernel
theorem dX1_isCase_9 : decode cX1_isCase 9 = .ok (.isub, 1) := by decide +kernel
theorem dX1_isCase_10 : decode cX1_isCase 10 = .ok (.invokestatic 24, 3) := by decide +kernel
theorem dX1_isCase_13 : decode cX1_isCase 13 = .ok (.ifCond .eq 7, 3) := by decide +kernel
theorem dX1_isCase_16 : decode cX1_isCase 16 = .ok (.iconst 1, 1) := by decide +kernel
theorem dX1_isCase_17 : decode cX1_isCase 17 = .ok (.goto 4, 3) := by decide +kernel
theorem dX1_isCase_20 : decode cX1_isCase 20 = .ok (.iconst 0, 1) := by decide +kernel
theorem dX1_isCase_21 : decode cX1_isCase 21 = .ok (.ireturn, 1) := by decide +kernel
theorem dX1_has_0 : decode cX1_has 0 = .ok (.lload_n 0, 1) := by decide +kernel
theorem dX1_has_1 : decode cX1_has 1 = .ok (.iload_n 2, 1) := by decide +kernel
theorem dX1_has_2 : decode cX1_has 2 = .ok (.lshr, 1) := by decide +kernel
theorem dX1_has_3 : decode cX1_has 3 = .ok (.lconst 1, 1) := by decide +kernel
theorem dX1_has_4 : decode cX1_has 4 = .ok (.land, 1) := by decide +kernel
theorem dX1_has_5 : decode cX1_has 5 = .ok (.lconst 0, 1) := by decide +kernel
theorem dX1_has_6 : decode cX1_has 6 = .ok (.lcmp, 1) := by decide +kernel
theorem dX1_has_7 : decode cX1_has 7 = .ok (.ifCond .eq 7, 3) := by decide +kernel
theorem dX1_has_10 : decode cX1_has 10 = .ok (.iconst 1, 1) := by decide +kernel
theorem dX1_has_11 : decode cX1_has 11 = .ok (.goto 4, 3) := by decide +kernel
theorem dX1_has_14 : decode cX1_has 14 = .ok (.iconst 0, 1) := by decide +kernel
theorem dX1_has_15 : decode cX1_has 15 = .ok (.ireturn, 1) := by decide +kernel
theorem dX1_parentOf_0 : decode cX1_parentOf 0 = .ok (.iload_n 0, 1) := by decide +kernel
theorem dX1_parentOf_1 : decode cX1_parentOf 1 = .ok (.invokestatic 11, 3) := by decide +kernel
theorem dX1_parentOf_4 : decode cX1_parentOf 4 = .ok (.ifCond .eq 11, 3) := by decide +kernel
theorem dX1_parentOf_7 : decode cX1_parentOf 7 = .ok (.getstatic 27, 3) := by decide +kernel
theorem dX1_parentOf_10 : decode cX1_parentOf 10 = .ok (.iload_n 0, 1) := by decide +kernel
theorem dX1_parentOf_11 : decode cX1_parentOf 11 = .ok (.iaload, 1) := by decide +kernel
theorem dX1_parentOf_12 : decode cX1_parentOf 12 = .ok (.goto 4, 3) := by decide +kernel
theorem dX1_parentOf_15 : decode cX1_parentOf 15 = .ok (.iconst (-1), 1) := by decide +kernel
theorem dX1_parentOf_16 : decode cX1_parentOf 16 = .ok (.ireturn, 1) := by decide +kernel
theorem dX1_namedBy_0 : decode cX1_namedBy 0 = .ok (.iload_n 0, 1) := by decide +kernel
theorem dX1_namedBy_1 : decode cX1_namedBy 1 = .ok (.invokestatic 11, 3) := by decide +kernel
theorem dX1_namedBy_4 : decode cX1_namedBy 4 = .ok (.ifCond .eq 11, 3) := by decide +kernel
theorem dX1_namedBy_7 : decode cX1_namedBy 7 = .ok (.getstatic 31, 3) := by decide +kernel
theorem dX1_namedBy_10 : decode cX1_namedBy 10 = .ok (.iload_n 0, 1) := by decide +kernel
theorem dX1_namedBy_11 : decode cX1_namedBy 11 = .ok (.laload, 1) := by decide +kernel
theorem dX1_namedBy_12 : decode cX1_namedBy 12 = .ok (.goto 4, 3) := by decide +kernel
theorem dX1_namedBy_15 : decode cX1_namedBy 15 = .ok (.lconst 0, 1) := by decide +kernel
theorem dX1_namedBy_16 : decode cX1_namedBy 16 = .ok (.lreturn, 1) := by decide +kernel
theorem dX1_allAbove_0 : decode cX1_allAbove 0 = .ok (.iload_n 0, 1) := by decide +kernel
theorem dX1_allAbove_1 : decode cX1_allAbove 1 = .ok (.invokestatic 15, 3) := by decide +kernel
theorem dX1_allAbove_4 : decode cX1_allAbove 4 = .ok (.ifCond .eq 12, 3) := by decide +kernel
theorem dX1_allAbove_7 : decode cX1_allAbove 7 = .ok (.getstatic 35, 3) := by decide +kernel
theorem dX1_allAbove_10 : decode cX1_allAbove 10 = .ok (.iload_n 0, 1) := by decide +kernel
theorem dX1_allAbove_11 : decode cX1_allAbove 11 = .ok (.bipush 40, 2) := by decide +kernel
theorem dX1_allAbove_13 : decode cX1_allAbove 13 = .ok (.isub, 1) := by decide +kernel
theorem dX1_allAbove_14 : decode cX1_allAbove 14 = .ok (.laload, 1) := by decide +kernel
theorem dX1_allAbove_15 : decode cX1_allAbove 15 = .ok (.lreturn, 1) := by decide +kernel
theorem dX1_allAbove_16 : decode cX1_allAbove 16 = .ok (.lconst 0, 1) := by decide +kernel
theorem dX1_allAbove_17 : decode cX1_allAbove 17 = .ok (.lstore_n 1, 1) := by decide +kernel
theorem dX1_allAbove_18 : decode cX1_allAbove 18 = .ok (.iload_n 0, 1) := by decide +kernel
theorem dX1_allAbove_19 : decode cX1_allAbove 19 = .ok (.istore_n 3, 1) := by decide +kernel
theorem dX1_allAbove_20 : decode cX1_allAbove 20 = .ok (.iconst 0, 1) := by decide +kernel
theorem dX1_allAbove_21 : decode cX1_allAbove 21 = .ok (.istore 4, 2) := by decide +kernel
theorem dX1_allAbove_23 : decode cX1_allAbove 23 = .ok (.iload 4, 2) := by decide +kernel
theorem dX1_allAbove_25 : decode cX1_allAbove 25 = .ok (.bipush 24, 2) := by decide +kernel
theorem dX1_allAbove_27 : decode cX1_allAbove 27 = .ok (.if_icmp .ge 34, 3) := by decide +kernel
theorem dX1_allAbove_30 : decode cX1_allAbove 30 = .ok (.iload_n 3, 1) := by decide +kernel
theorem dX1_allAbove_31 : decode cX1_allAbove 31 = .ok (.invokestatic 11, 3) := by decide +kernel
theorem dX1_allAbove_34 : decode cX1_allAbove 34 = .ok (.ifCond .eq 27, 3) := by decide +kernel
theorem dX1_allAbove_37 : decode cX1_allAbove 37 = .ok (.lload_n 1, 1) := by decide +kernel
theorem dX1_allAbove_38 : decode cX1_allAbove 38 = .ok (.lconst 1, 1) := by decide +kernel
theorem dX1_allAbove_39 : decode cX1_allAbove 39 = .ok (.iload_n 3, 1) := by decide +kernel
theorem dX1_allAbove_40 : decode cX1_allAbove 40 = .ok (.lshl, 1) := by decide +kernel
theorem dX1_allAbove_41 : decode cX1_allAbove 41 = .ok (.getstatic 31, 3) := by decide +kernel
theorem dX1_allAbove_44 : decode cX1_allAbove 44 = .ok (.iload_n 3, 1) := by decide +kernel
theorem dX1_allAbove_45 : decode cX1_allAbove 45 = .ok (.laload, 1) := by decide +kernel
theorem dX1_allAbove_46 : decode cX1_allAbove 46 = .ok (.lor, 1) := by decide +kernel
theorem dX1_allAbove_47 : decode cX1_allAbove 47 = .ok (.lor, 1) := by decide +kernel
theorem dX1_allAbove_48 : decode cX1_allAbove 48 = .ok (.lstore_n 1, 1) := by decide +kernel
theorem dX1_allAbove_49 : decode cX1_allAbove 49 = .ok (.getstatic 27, 3) := by decide +kernel
theorem dX1_allAbove_52 : decode cX1_allAbove 52 = .ok (.iload_n 3, 1) := by decide +kernel
theorem dX1_allAbove_53 : decode cX1_allAbove 53 = .ok (.iaload, 1) := by decide +kernel
theorem dX1_allAbove_54 : decode cX1_allAbove 54 = .ok (.istore_n 3, 1) := by decide +kernel
theorem dX1_allAbove_55 : decode cX1_allAbove 55 = .ok (.iinc 4 1, 3) := by decide +kernel
theorem dX1_allAbove_58 : decode cX1_allAbove 58 = .ok (.goto (-35), 3) := by decide +kernel
theorem dX1_allAbove_61 : decode cX1_allAbove 61 = .ok (.lload_n 1, 1) := by decide +kernel
theorem dX1_allAbove_62 : decode cX1_allAbove 62 = .ok (.lreturn, 1) := by decide +kernel
theorem dX1_standsUnder_0 : decode cX1_standsUnder 0 = .ok (.iload_n 0, 1) := by decide +kernel
theorem dX1_standsUnder_1 : decode cX1_standsUnder 1 = .ok (.invokestatic 24, 3) := by decide +kernel
theorem dX1_standsUnder_4 : decode cX1_standsUnder 4 = .ok (.ifCond .eq 25, 3) := by decide +kernel
theorem dX1_standsUnder_7 : decode cX1_standsUnder 7 = .ok (.iload_n 1, 1) := by decide +kernel
theorem dX1_standsUnder_8 : decode cX1_standsUnder 8 = .ok (.invokestatic 24, 3) := by decide +kernel
theorem dX1_standsUnder_11 : decode cX1_standsUnder 11 = .ok (.ifCond .eq 18, 3) := by decide +kernel
theorem dX1_standsUnder_14 : decode cX1_standsUnder 14 = .ok (.iload_n 0, 1) := by decide +kernel
theorem dX1_standsUnder_15 : decode cX1_standsUnder 15 = .ok (.invokestatic 38, 3) := by decide +kernel
theorem dX1_standsUnder_18 : decode cX1_standsUnder 18 = .ok (.iload_n 1, 1) := by decide +kernel
theorem dX1_standsUnder_19 : decode cX1_standsUnder 19 = .ok (.invokestatic 20, 3) := by decide +kernel
theorem dX1_standsUnder_22 : decode cX1_standsUnder 22 = .ok (.ifCond .eq 7, 3) := by decide +kernel
theorem dX1_standsUnder_25 : decode cX1_standsUnder 25 = .ok (.iconst 1, 1) := by decide +kernel
theorem dX1_standsUnder_26 : decode cX1_standsUnder 26 = .ok (.goto 4, 3) := by decide +kernel
theorem dX1_standsUnder_29 : decode cX1_standsUnder 29 = .ok (.iconst 0, 1) := by decide +kernel
theorem dX1_standsUnder_30 : decode cX1_standsUnder 30 = .ok (.ireturn, 1) := by decide +kernel
theorem dX1_stepsUp_0 : decode cX1_stepsUp 0 = .ok (.iload_n 1, 1) := by decide +kernel
theorem dX1_stepsUp_1 : decode cX1_stepsUp 1 = .ok (.invokestatic 24, 3) := by decide +kernel
theorem dX1_stepsUp_4 : decode cX1_stepsUp 4 = .ok (.ifCond .ne 5, 3) := by decide +kernel
theorem dX1_stepsUp_7 : decode cX1_stepsUp 7 = .ok (.iconst (-1), 1) := by decide +kernel
theorem dX1_stepsUp_8 : decode cX1_stepsUp 8 = .ok (.ireturn, 1) := by decide +kernel
theorem dX1_stepsUp_9 : decode cX1_stepsUp 9 = .ok (.iload_n 0, 1) := by decide +kernel
theorem dX1_stepsUp_10 : decode cX1_stepsUp 10 = .ok (.istore_n 2, 1) := by decide +kernel
theorem dX1_stepsUp_11 : decode cX1_stepsUp 11 = .ok (.iconst 0, 1) := by decide +kernel
theorem dX1_stepsUp_12 : decode cX1_stepsUp 12 = .ok (.istore_n 3, 1) := by decide +kernel
theorem dX1_stepsUp_13 : decode cX1_stepsUp 13 = .ok (.iload_n 3, 1) := by decide +kernel
theorem dX1_stepsUp_14 : decode cX1_stepsUp 14 = .ok (.bipush 24, 2) := by decide +kernel
theorem dX1_stepsUp_16 : decode cX1_stepsUp 16 = .ok (.if_icmp .ge 41, 3) := by decide +kernel
theorem dX1_stepsUp_19 : decode cX1_stepsUp 19 = .ok (.iload_n 2, 1) := by decide +kernel
theorem dX1_stepsUp_20 : decode cX1_stepsUp 20 = .ok (.invokestatic 11, 3) := by decide +kernel
theorem dX1_stepsUp_23 : decode cX1_stepsUp 23 = .ok (.ifCond .eq 34, 3) := by decide +kernel
theorem dX1_stepsUp_26 : decode cX1_stepsUp 26 = .ok (.iload_n 2, 1) := by decide +kernel
theorem dX1_stepsUp_27 : decode cX1_stepsUp 27 = .ok (.iload_n 1, 1) := by decide +kernel
theorem dX1_stepsUp_28 : decode cX1_stepsUp 28 = .ok (.if_icmp .eq 15, 3) := by decide +kernel
theorem dX1_stepsUp_31 : decode cX1_stepsUp 31 = .ok (.getstatic 31, 3) := by decide +kernel
theorem dX1_stepsUp_34 : decode cX1_stepsUp 34 = .ok (.iload_n 2, 1) := by decide +kernel
theorem dX1_stepsUp_35 : decode cX1_stepsUp 35 = .ok (.laload, 1) := by decide +kernel
theorem dX1_stepsUp_36 : decode cX1_stepsUp 36 = .ok (.iload_n 1, 1) := by decide +kernel
theorem dX1_stepsUp_37 : decode cX1_stepsUp 37 = .ok (.invokestatic 20, 3) := by decide +kernel
theorem dX1_stepsUp_40 : decode cX1_stepsUp 40 = .ok (.ifCond .eq 5, 3) := by decide +kernel
theorem dX1_stepsUp_43 : decode cX1_stepsUp 43 = .ok (.iload_n 3, 1) := by decide +kernel
theorem dX1_stepsUp_44 : decode cX1_stepsUp 44 = .ok (.ireturn, 1) := by decide +kernel
theorem dX1_stepsUp_45 : decode cX1_stepsUp 45 = .ok (.getstatic 27, 3) := by decide +kernel
theorem dX1_stepsUp_48 : decode cX1_stepsUp 48 = .ok (.iload_n 2, 1) := by decide +kernel
theorem dX1_stepsUp_49 : decode cX1_stepsUp 49 = .ok (.iaload, 1) := by decide +kernel
theorem dX1_stepsUp_50 : decode cX1_stepsUp 50 = .ok (.istore_n 2, 1) := by decide +kernel
theorem dX1_stepsUp_51 : decode cX1_stepsUp 51 = .ok (.iinc 3 1, 3) := by decide +kernel
theorem dX1_stepsUp_54 : decode cX1_stepsUp 54 = .ok (.goto (-41), 3) := by decide +kernel
theorem dX1_stepsUp_57 : decode cX1_stepsUp 57 = .ok (.iconst (-1), 1) := by decide +kernel
theorem dX1_stepsUp_58 : decode cX1_stepsUp 58 = .ok (.ireturn, 1) := by decide +kernel
theorem dX1_lowestShared_0 : decode cX1_lowestShared 0 = .ok (.iload_n 0, 1) := by decide +kernel
theorem dX1_lowestShared_1 : decode cX1_lowestShared 1 = .ok (.invokestatic 11, 3) := by decide +kernel
theorem dX1_lowestShared_4 : decode cX1_lowestShared 4 = .ok (.ifCond .eq 10, 3) := by decide +kernel
theorem dX1_lowestShared_7 : decode cX1_lowestShared 7 = .ok (.iload_n 1, 1) := by decide +kernel
theorem dX1_lowestShared_8 : decode cX1_lowestShared 8 = .ok (.invokestatic 11, 3) := by decide +kernel
theorem dX1_lowestShared_11 : decode cX1_lowestShared 11 = .ok (.ifCond .ne 5, 3) := by decide +kernel
theorem dX1_lowestShared_14 : decode cX1_lowestShared 14 = .ok (.iconst (-1), 1) := by decide +kernel
theorem dX1_lowestShared_15 : decode cX1_lowestShared 15 = .ok (.ireturn, 1) := by decide +kernel
theorem dX1_lowestShared_16 : decode cX1_lowestShared 16 = .ok (.iload_n 1, 1) := by decide +kernel
theorem dX1_lowestShared_17 : decode cX1_lowestShared 17 = .ok (.invokestatic 38, 3) := by decide +kernel
theorem dX1_lowestShared_20 : decode cX1_lowestShared 20 = .ok (.lstore_n 2, 1) := by decide +kernel
theorem dX1_lowestShared_21 : decode cX1_lowestShared 21 = .ok (.iload_n 0, 1) := by decide +kernel
theorem dX1_lowestShared_22 : decode cX1_lowestShared 22 = .ok (.istore 4, 2) := by decide +kernel
theorem dX1_lowestShared_24 : decode cX1_lowestShared 24 = .ok (.iconst 0, 1) := by decide +kernel
theorem dX1_lowestShared_25 : decode cX1_lowestShared 25 = .ok (.istore 5, 2) := by decide +kernel
theorem dX1_lowestShared_27 : decode cX1_lowestShared 27 = .ok (.iload 5, 2) := by decide +kernel
theorem dX1_lowestShared_29 : decode cX1_lowestShared 29 = .ok (.bipush 24, 2) := by decide +kernel
theorem dX1_lowestShared_31 : decode cX1_lowestShared 31 = .ok (.if_icmp .ge 37, 3) := by decide +kernel
theorem dX1_lowestShared_34 : decode cX1_lowestShared 34 = .ok (.iload 4, 2) := by decide +kernel
theorem dX1_lowestShared_36 : decode cX1_lowestShared 36 = .ok (.invokestatic 11, 3) := by decide +kernel
theorem dX1_lowestShared_39 : decode cX1_lowestShared 39 = .ok (.ifCond .eq 29, 3) := by decide +kernel
theorem dX1_lowestShared_42 : decode cX1_lowestShared 42 = .ok (.lload_n 2, 1) := by decide +kernel
theorem dX1_lowestShared_43 : decode cX1_lowestShared 43 = .ok (.iload 4, 2) := by decide +kernel
theorem dX1_lowestShared_45 : decode cX1_lowestShared 45 = .ok (.invokestatic 20, 3) := by decide +kernel
theorem dX1_lowestShared_48 : decode cX1_lowestShared 48 = .ok (.ifCond .eq 6, 3) := by decide +kernel
theorem dX1_lowestShared_51 : decode cX1_lowestShared 51 = .ok (.iload 4, 2) := by decide +kernel
theorem dX1_lowestShared_53 : decode cX1_lowestShared 53 = .ok (.ireturn, 1) := by decide +kernel
theorem dX1_lowestShared_54 : decode cX1_lowestShared 54 = .ok (.getstatic 27, 3) := by decide +kernel
theorem dX1_lowestShared_57 : decode cX1_lowestShared 57 = .ok (.iload 4, 2) := by decide +kernel
theorem dX1_lowestShared_59 : decode cX1_lowestShared 59 = .ok (.iaload, 1) := by decide +kernel
theorem dX1_lowestShared_60 : decode cX1_lowestShared 60 = .ok (.istore 4, 2) := by decide +kernel
theorem dX1_lowestShared_62 : decode cX1_lowestShared 62 = .ok (.iinc 5 1, 3) := by decide +kernel
theorem dX1_lowestShared_65 : decode cX1_lowestShared 65 = .ok (.goto (-38), 3) := by decide +kernel
theorem dX1_lowestShared_68 : decode cX1_lowestShared 68 = .ok (.iconst (-1), 1) := by decide +kernel
theorem dX1_lowestShared_69 : decode cX1_lowestShared 69 = .ok (.ireturn, 1) := by decide +kernel
theorem dX1_sharedTraits_0 : decode cX1_sharedTraits 0 = .ok (.iload_n 0, 1) := by decide +kernel
theorem dX1_sharedTraits_1 : decode cX1_sharedTraits 1 = .ok (.invokestatic 11, 3) := by decide +kernel
theorem dX1_sharedTraits_4 : decode cX1_sharedTraits 4 = .ok (.ifCond .eq 10, 3) := by decide +kernel
theorem dX1_sharedTraits_7 : decode cX1_sharedTraits 7 = .ok (.iload_n 1, 1) := by decide +kernel
theorem dX1_sharedTraits_8 : decode cX1_sharedTraits 8 = .ok (.invokestatic 11, 3) := by decide +kernel
theorem dX1_sharedTraits_11 : decode cX1_sharedTraits 11 = .ok (.ifCond .ne 5, 3) := by decide +kernel
theorem dX1_sharedTraits_14 : decode cX1_sharedTraits 14 = .ok (.lconst 0, 1) := by decide +kernel
theorem dX1_sharedTraits_15 : decode cX1_sharedTraits 15 = .ok (.lreturn, 1) := by decide +kernel
theorem dX1_sharedTraits_16 : decode cX1_sharedTraits 16 = .ok (.iload_n 0, 1) := by decide +kernel
theorem dX1_sharedTraits_17 : decode cX1_sharedTraits 17 = .ok (.invokestatic 38, 3) := by decide +kernel
theorem dX1_sharedTraits_20 : decode cX1_sharedTraits 20 = .ok (.iload_n 1, 1) := by decide +kernel
theorem dX1_sharedTraits_21 : decode cX1_sharedTraits 21 = .ok (.invokestatic 38, 3) := by decide +kernel
theorem dX1_sharedTraits_24 : decode cX1_sharedTraits 24 = .ok (.land, 1) := by decide +kernel
theorem dX1_sharedTraits_25 : decode cX1_sharedTraits 25 = .ok (.ldc2_w 42, 3) := by decide +kernel
theorem dX1_sharedTraits_28 : decode cX1_sharedTraits 28 = .ok (.land, 1) := by decide +kernel
theorem dX1_sharedTraits_29 : decode cX1_sharedTraits 29 = .ok (.lreturn, 1) := by decide +kernel
theorem dX1_mayTurnInto_0 : decode cX1_mayTurnInto 0 = .ok (.iload_n 0, 1) := by decide +kernel
theorem dX1_mayTurnInto_1 : decode cX1_mayTurnInto 1 = .ok (.iload_n 1, 1) := by decide +kernel
theorem dX1_mayTurnInto_2 : decode cX1_mayTurnInto 2 = .ok (.invokestatic 44, 3) := by decide +kernel
theorem dX1_mayTurnInto_5 : decode cX1_mayTurnInto 5 = .ok (.ldc2_w 48, 3) := by decide +kernel
theorem dX1_mayTurnInto_8 : decode cX1_mayTurnInto 8 = .ok (.land, 1) := by decide +kernel
theorem dX1_mayTurnInto_9 : decode cX1_mayTurnInto 9 = .ok (.lconst 0, 1) := by decide +kernel
theorem dX1_mayTurnInto_10 : decode cX1_mayTurnInto 10 = .ok (.lcmp, 1) := by decide +kernel
theorem dX1_mayTurnInto_11 : decode cX1_mayTurnInto 11 = .ok (.ifCond .eq 7, 3) := by decide +kernel
theorem dX1_mayTurnInto_14 : decode cX1_mayTurnInto 14 = .ok (.iconst 1, 1) := by decide +kernel
theorem dX1_mayTurnInto_15 : decode cX1_mayTurnInto 15 = .ok (.goto 4, 3) := by decide +kernel
theorem dX1_mayTurnInto_18 : decode cX1_mayTurnInto 18 = .ok (.iconst 0, 1) := by decide +kernel
theorem dX1_mayTurnInto_19 : decode cX1_mayTurnInto 19 = .ok (.ireturn, 1) := by decide +kernel
theorem dX1_lowest_0 : decode cX1_lowest 0 = .ok (.lload_n 0, 1) := by decide +kernel
theorem dX1_lowest_1 : decode cX1_lowest 1 = .ok (.lstore_n 2, 1) := by decide +kernel
theorem dX1_lowest_2 : decode cX1_lowest 2 = .ok (.bipush 40, 2) := by decide +kernel
theorem dX1_lowest_4 : decode cX1_lowest 4 = .ok (.istore 4, 2) := by decide +kernel
theorem dX1_lowest_6 : decode cX1_lowest 6 = .ok (.iload 4, 2) := by decide +kernel
theorem dX1_lowest_8 : decode cX1_lowest 8 = .ok (.bipush 49, 2) := by decide +kernel
theorem dX1_lowest_10 : decode cX1_lowest 10 = .ok (.if_icmp .ge 39, 3) := by decide +kernel
theorem dX1_lowest_13 : decode cX1_lowest 13 = .ok (.lload_n 0, 1) := by decide +kernel
theorem dX1_lowest_14 : decode cX1_lowest 14 = .ok (.iload 4, 2) := by decide +kernel
theorem dX1_lowest_16 : decode cX1_lowest 16 = .ok (.invokestatic 20, 3) := by decide +kernel
theorem dX1_lowest_19 : decode cX1_lowest 19 = .ok (.ifCond .eq 24, 3) := by decide +kernel
theorem dX1_lowest_22 : decode cX1_lowest 22 = .ok (.lload_n 2, 1) := by decide +kernel
theorem dX1_lowest_23 : decode cX1_lowest 23 = .ok (.getstatic 35, 3) := by decide +kernel
theorem dX1_lowest_26 : decode cX1_lowest 26 = .ok (.iload 4, 2) := by decide +kernel
theorem dX1_lowest_28 : decode cX1_lowest 28 = .ok (.bipush 40, 2) := by decide +kernel
theorem dX1_lowest_30 : decode cX1_lowest 30 = .ok (.isub, 1) := by decide +kernel
theorem dX1_lowest_31 : decode cX1_lowest 31 = .ok (.laload, 1) := by decide +kernel
theorem dX1_lowest_32 : decode cX1_lowest 32 = .ok (.ldc2_w 50, 3) := by decide +kernel
theorem dX1_lowest_35 : decode cX1_lowest 35 = .ok (.lxor, 1) := by decide +kernel
theorem dX1_lowest_36 : decode cX1_lowest 36 = .ok (.lconst 1, 1) := by decide +kernel
theorem dX1_lowest_37 : decode cX1_lowest 37 = .ok (.iload 4, 2) := by decide +kernel
theorem dX1_lowest_39 : decode cX1_lowest 39 = .ok (.lshl, 1) := by decide +kernel
theorem dX1_lowest_40 : decode cX1_lowest 40 = .ok (.lor, 1) := by decide +kernel
theorem dX1_lowest_41 : decode cX1_lowest 41 = .ok (.land, 1) := by decide +kernel
theorem dX1_lowest_42 : decode cX1_lowest 42 = .ok (.lstore_n 2, 1) := by decide +kernel
theorem dX1_lowest_43 : decode cX1_lowest 43 = .ok (.iinc 4 1, 3) := by decide +kernel
theorem dX1_lowest_46 : decode cX1_lowest 46 = .ok (.goto (-40), 3) := by decide +kernel
theorem dX1_lowest_49 : decode cX1_lowest 49 = .ok (.lload_n 2, 1) := by decide +kernel
theorem dX1_lowest_50 : decode cX1_lowest 50 = .ok (.lreturn, 1) := by decide +kernel
theorem dX1_pick_0 : decode cX1_pick 0 = .ok (.iconst 0, 1) := by decide +kernel
theorem dX1_pick_1 : decode cX1_pick 1 = .ok (.istore_n 3, 1) := by decide +kernel
theorem dX1_pick_2 : decode cX1_pick 2 = .ok (.iconst 0, 1) := by decide +kernel
theorem dX1_pick_3 : decode cX1_pick 3 = .ok (.istore 4, 2) := by decide +kernel
theorem dX1_pick_5 : decode cX1_pick 5 = .ok (.iload 4, 2) := by decide +kernel
theorem dX1_pick_7 : decode cX1_pick 7 = .ok (.bipush 49, 2) := by decide +kernel
theorem dX1_pick_9 : decode cX1_pick 9 = .ok (.if_icmp .ge 29, 3) := by decide +kernel
theorem dX1_pick_12 : decode cX1_pick 12 = .ok (.lload_n 0, 1) := by decide +kernel
theorem dX1_pick_13 : decode cX1_pick 13 = .ok (.iload 4, 2) := by decide +kernel
theorem dX1_pick_15 : decode cX1_pick 15 = .ok (.invokestatic 20, 3) := by decide +kernel
theorem dX1_pick_18 : decode cX1_pick 18 = .ok (.ifCond .eq 14, 3) := by decide +kernel
theorem dX1_pick_21 : decode cX1_pick 21 = .ok (.iload_n 3, 1) := by decide +kernel
theorem dX1_pick_22 : decode cX1_pick 22 = .ok (.iload_n 2, 1) := by decide +kernel
theorem dX1_pick_23 : decode cX1_pick 23 = .ok (.if_icmp .ne 6, 3) := by decide +kernel
theorem dX1_pick_26 : decode cX1_pick 26 = .ok (.iload 4, 2) := by decide +kernel
theorem dX1_pick_28 : decode cX1_pick 28 = .ok (.ireturn, 1) := by decide +kernel
theorem dX1_pick_29 : decode cX1_pick 29 = .ok (.iinc 3 1, 3) := by decide +kernel
theorem dX1_pick_32 : decode cX1_pick 32 = .ok (.iinc 4 1, 3) := by decide +kernel
theorem dX1_pick_35 : decode cX1_pick 35 = .ok (.goto (-30), 3) := by decide +kernel
theorem dX1_pick_38 : decode cX1_pick 38 = .ok (.iconst (-1), 1) := by decide +kernel
theorem dX1_pick_39 : decode cX1_pick 39 = .ok (.ireturn, 1) := by decide +kernel
theorem dX2_init_0 : decode cX2_init 0 = .ok (.aload_n 0, 1) := by decide +kernel
theorem dX2_init_1 : decode cX2_init 1 = .ok (.invokespecial 3, 3) := by decide +kernel
theorem dX2_init_4 : decode cX2_init 4 = .ok (.aload_n 0, 1) := by decide +kernel
theorem dX2_init_5 : decode cX2_init 5 = .ok (.bipush 40, 2) := by decide +kernel
theorem dX2_init_7 : decode cX2_init 7 = .ok (.anewarray 11, 3) := by decide +kernel
theorem dX2_init_10 : decode cX2_init 10 = .ok (.putfield 13, 3) := by decide +kernel
theorem dX2_init_13 : decode cX2_init 13 = .ok (.aload_n 0, 1) := by decide +kernel
theorem dX2_init_14 : decode cX2_init 14 = .ok (.iconst 0, 1) := by decide +kernel
theorem dX2_init_15 : decode cX2_init 15 = .ok (.putfield 17, 3) := by decide +kernel
theorem dX2_init_18 : decode cX2_init 18 = .ok (.aload_n 0, 1) := by decide +kernel
theorem dX2_init_19 : decode cX2_init 19 = .ok (.iconst 0, 1) := by decide +kernel
theorem dX2_init_20 : decode cX2_init 20 = .ok (.putfield 21, 3) := by decide +kernel
theorem dX2_init_23 : decode cX2_init 23 = .ok (.return_, 1) := by decide +kernel
theorem dX2_isFull_0 : decode cX2_isFull 0 = .ok (.aload_n 0, 1) := by decide +kernel
theorem dX2_isFull_1 : decode cX2_isFull 1 = .ok (.getfield 17, 3) := by decide +kernel
theorem dX2_isFull_4 : decode cX2_isFull 4 = .ok (.bipush 40, 2) := by decide +kernel
theorem dX2_isFull_6 : decode cX2_isFull 6 = .ok (.if_icmp .lt 7, 3) := by decide +kernel
theorem dX2_isFull_9 : decode cX2_isFull 9 = .ok (.iconst 1, 1) := by decide +kernel
theorem dX2_isFull_10 : decode cX2_isFull 10 = .ok (.goto 4, 3) := by decide +kernel
theorem dX2_isFull_13 : decode cX2_isFull 13 = .ok (.iconst 0, 1) := by decide +kernel
theorem dX2_isFull_14 : decode cX2_isFull 14 = .ok (.ireturn, 1) := by decide +kernel
theorem dX2_mayTell_0 : decode cX2_mayTell 0 = .ok (.iload_n 1, 1) := by decide +kernel
theorem dX2_mayTell_1 : decode cX2_mayTell 1 = .ok (.iconst (-1), 1) := by decide +kernel
theorem dX2_mayTell_2 : decode cX2_mayTell 2 = .ok (.if_icmp .eq 29, 3) := by decide +kernel
theorem dX2_mayTell_5 : decode cX2_mayTell 5 = .ok (.iload_n 1, 1) := by decide +kernel
theorem dX2_mayTell_6 : decode cX2_mayTell 6 = .ok (.invokestatic 24, 3) := by decide +kernel
theorem dX2_mayTell_9 : decode cX2_mayTell 9 = .ok (.ifCond .ne 22, 3) := by decide +kernel
theorem dX2_mayTell_12 : decode cX2_mayTell 12 = .ok (.iload_n 1, 1) := by decide +kernel
theorem dX2_mayTell_13 : decode cX2_mayTell 13 = .ok (.sipush 200, 3) := by decide +kernel
theorem dX2_mayTell_16 : decode cX2_mayTell 16 = .ok (.aload_n 0, 1) := by decide +kernel
theorem dX2_mayTell_17 : decode cX2_mayTell 17 = .ok (.getfield 17, 3) := by decide +kernel
theorem dX2_mayTell_20 : decode cX2_mayTell 20 = .ok (.iadd, 1) := by decide +kernel
theorem dX2_mayTell_21 : decode cX2_mayTell 21 = .ok (.if_icmp .le 14, 3) := by decide +kernel
theorem dX2_mayTell_24 : decode cX2_mayTell 24 = .ok (.iload_n 1, 1) := by decide +kernel
theorem dX2_mayTell_25 : decode cX2_mayTell 25 = .ok (.sipush 240, 3) := by decide +kernel
theorem dX2_mayTell_28 : decode cX2_mayTell 28 = .ok (.if_icmp .ge 7, 3) := by decide +kernel
theorem dX2_mayTell_31 : decode cX2_mayTell 31 = .ok (.iconst 1, 1) := by decide +kernel
theorem dX2_mayTell_32 : decode cX2_mayTell 32 = .ok (.goto 4, 3) := by decide +kernel
theorem dX2_mayTell_35 : decode cX2_mayTell 35 = .ok (.iconst 0, 1) := by decide +kernel
theorem dX2_mayTell_36 : decode cX2_mayTell 36 = .ok (.ireturn, 1) := by decide +kernel
theorem dX2_add_0 : decode cX2_add 0 = .ok (.aload_n 0, 1) := by decide +kernel
theorem dX2_add_1 : decode cX2_add 1 = .ok (.invokevirtual 30, 3) := by decide +kernel
theorem dX2_add_4 : decode cX2_add 4 = .ok (.ifCond .eq 5, 3) := by decide +kernel
theorem dX2_add_7 : decode cX2_add 7 = .ok (.iconst (-1), 1) := by decide +kernel
theorem dX2_add_8 : decode cX2_add 8 = .ok (.ireturn, 1) := by decide +kernel
theorem dX2_add_9 : decode cX2_add 9 = .ok (.aload_n 0, 1) := by decide +kernel
theorem dX2_add_10 : decode cX2_add 10 = .ok (.getfield 13, 3) := by decide +kernel
theorem dX2_add_13 : decode cX2_add 13 = .ok (.aload_n 0, 1) := by decide +kernel
theorem dX2_add_14 : decode cX2_add 14 = .ok (.getfield 17, 3) := by decide +kernel
theorem dX2_add_17 : decode cX2_add 17 = .ok (.aload_n 1, 1) := by decide +kernel
theorem dX2_add_18 : decode cX2_add 18 = .ok (.aastore, 1) := by decide +kernel
theorem dX2_add_19 : decode cX2_add 19 = .ok (.aload_n 0, 1) := by decide +kernel
theorem dX2_add_20 : decode cX2_add 20 = .ok (.dup, 1) := by decide +kernel
theorem dX2_add_21 : decode cX2_add 21 = .ok (.getfield 17, 3) := by decide +kernel
theorem dX2_add_24 : decode cX2_add 24 = .ok (.iconst 1, 1) := by decide +kernel
theorem dX2_add_25 : decode cX2_add 25 = .ok (.iadd, 1) := by decide +kernel
theorem dX2_add_26 : decode cX2_add 26 = .ok (.putfield 17, 3) := by decide +kernel
theorem dX2_add_29 : decode cX2_add 29 = .ok (.aload_n 0, 1) := by decide +kernel
theorem dX2_add_30 : decode cX2_add 30 = .ok (.getfield 17, 3) := by decide +kernel
theorem dX2_add_33 : decode cX2_add 33 = .ok (.ireturn, 1) := by decide +kernel
theorem dX2_nameOf_0 : decode cX2_nameOf 0 = .ok (.aload_n 0, 1) := by decide +kernel
theorem dX2_nameOf_1 : decode cX2_nameOf 1 = .ok (.iconst 0, 1) := by decide +kernel
theorem dX2_nameOf_2 : decode cX2_nameOf 2 = .ok (.putfield 21, 3) := by decide +kernel
theorem dX2_nameOf_5 : decode cX2_nameOf 5 = .ok (.sipush 200, 3) := by decide +kernel
theorem dX2_nameOf_8 : decode cX2_nameOf 8 = .ok (.istore_n 2, 1) := by decide +kernel
theorem dX2_nameOf_9 : decode cX2_nameOf 9 = .ok (.iconst 0, 1) := by decide +kernel
theorem dX2_nameOf_10 : decode cX2_nameOf 10 = .ok (.istore_n 3, 1) := by decide +kernel
theorem dX2_nameOf_11 : decode cX2_nameOf 11 = .ok (.iload_n 3, 1) := by decide +kernel
theorem dX2_nameOf_12 : decode cX2_nameOf 12 = .ok (.bipush 40, 2) := by decide +kernel
theorem dX2_nameOf_14 : decode cX2_nameOf 14 = .ok (.if_icmp .ge 51, 3) := by decide +kernel
theorem dX2_nameOf_17 : decode cX2_nameOf 17 = .ok (.iload_n 2, 1) := by decide +kernel
theorem dX2_nameOf_18 : decode cX2_nameOf 18 = .ok (.sipush 200, 3) := by decide +kernel
theorem dX2_nameOf_21 : decode cX2_nameOf 21 = .ok (.if_icmp .lt 44, 3) := by decide +kernel
theorem dX2_nameOf_24 : decode cX2_nameOf 24 = .ok (.aload_n 0, 1) := by decide +kernel
theorem dX2_nameOf_25 : decode cX2_nameOf 25 = .ok (.iload_n 2, 1) := by decide +kernel
theorem dX2_nameOf_26 : decode cX2_nameOf 26 = .ok (.sipush 200, 3) := by decide +kernel
theorem dX2_nameOf_29 : decode cX2_nameOf 29 = .ok (.isub, 1) := by decide +kernel
theorem dX2_nameOf_30 : decode cX2_nameOf 30 = .ok (.invokevirtual 34, 3) := by decide +kernel
theorem dX2_nameOf_33 : decode cX2_nameOf 33 = .ok (.astore 4, 2) := by decide +kernel
theorem dX2_nameOf_35 : decode cX2_nameOf 35 = .ok (.aload 4, 2) := by decide +kernel
theorem dX2_nameOf_37 : decode cX2_nameOf 37 = .ok (.ifnonnull 5, 3) := by decide +kernel
theorem dX2_nameOf_40 : decode cX2_nameOf 40 = .ok (.iconst (-1), 1) := by decide +kernel
theorem dX2_nameOf_41 : decode cX2_nameOf 41 = .ok (.ireturn, 1) := by decide +kernel
theorem dX2_nameOf_42 : decode cX2_nameOf 42 = .ok (.aload_n 0, 1) := by decide +kernel
theorem dX2_nameOf_43 : decode cX2_nameOf 43 = .ok (.dup, 1) := by decide +kernel
theorem dX2_nameOf_44 : decode cX2_nameOf 44 = .ok (.getfield 21, 3) := by decide +kernel
theorem dX2_nameOf_47 : decode cX2_nameOf 47 = .ok (.iconst 1, 1) := by decide +kernel
theorem dX2_nameOf_48 : decode cX2_nameOf 48 = .ok (.iadd, 1) := by decide +kernel
theorem dX2_nameOf_49 : decode cX2_nameOf 49 = .ok (.putfield 21, 3) := by decide +kernel
theorem dX2_nameOf_52 : decode cX2_nameOf 52 = .ok (.aload 4, 2) := by decide +kernel
theorem dX2_nameOf_54 : decode cX2_nameOf 54 = .ok (.aload_n 1, 1) := by decide +kernel
theorem dX2_nameOf_55 : decode cX2_nameOf 55 = .ok (.invokevirtual 38, 3) := by decide +kernel
theorem dX2_nameOf_58 : decode cX2_nameOf 58 = .ok (.istore_n 2, 1) := by decide +kernel
theorem dX2_nameOf_59 : decode cX2_nameOf 59 = .ok (.iinc 3 1, 3) := by decide +kernel
theorem dX2_nameOf_62 : decode cX2_nameOf 62 = .ok (.goto (-51), 3) := by decide +kernel
theorem dX2_nameOf_65 : decode cX2_nameOf 65 = .ok (.iload_n 2, 1) := by decide +kernel
theorem dX2_nameOf_66 : decode cX2_nameOf 66 = .ok (.ireturn, 1) := by decide +kernel
theorem dX2_questionAt_0 : decode cX2_questionAt 0 = .ok (.iload_n 1, 1) := by decide +kernel
theorem dX2_questionAt_1 : decode cX2_questionAt 1 = .ok (.ifCond .lt 26, 3) := by decide +kernel
theorem dX2_questionAt_4 : decode cX2_questionAt 4 = .ok (.iload_n 1, 1) := by decide +kernel
theorem dX2_questionAt_5 : decode cX2_questionAt 5 = .ok (.aload_n 0, 1) := by decide +kernel
theorem dX2_questionAt_6 : decode cX2_questionAt 6 = .ok (.getfield 17, 3) := by decide +kernel
theorem dX2_questionAt_9 : decode cX2_questionAt 9 = .ok (.if_icmp .ge 18, 3) := by decide +kernel
theorem dX2_questionAt_12 : decode cX2_questionAt 12 = .ok (.iload_n 1, 1) := by decide +kernel
theorem dX2_questionAt_13 : decode cX2_questionAt 13 = .ok (.bipush 40, 2) := by decide +kernel
theorem dX2_questionAt_15 : decode cX2_questionAt 15 = .ok (.if_icmp .ge 12, 3) := by decide +kernel
theorem dX2_questionAt_18 : decode cX2_questionAt 18 = .ok (.aload_n 0, 1) := by decide +kernel
theorem dX2_questionAt_19 : decode cX2_questionAt 19 = .ok (.getfield 13, 3) := by decide +kernel
theorem dX2_questionAt_22 : decode cX2_questionAt 22 = .ok (.iload_n 1, 1) := by decide +kernel
theorem dX2_questionAt_23 : decode cX2_questionAt 23 = .ok (.aaload, 1) := by decide +kernel
theorem dX2_questionAt_24 : decode cX2_questionAt 24 = .ok (.goto 4, 3) := by decide +kernel
theorem dX2_questionAt_27 : decode cX2_questionAt 27 = .ok (.aconst_null, 1) := by decide +kernel
theorem dX2_questionAt_28 : decode cX2_questionAt 28 = .ok (.areturn, 1) := by decide +kernel
theorem dX3_init_0 : decode cX3_init 0 = .ok (.aload_n 0, 1) := by decide +kernel
theorem dX3_init_1 : decode cX3_init 1 = .ok (.invokespecial 5, 3) := by decide +kernel
theorem dX3_init_4 : decode cX3_init 4 = .ok (.aload_n 0, 1) := by decide +kernel
theorem dX3_init_5 : decode cX3_init 5 = .ok (.sipush 240, 3) := by decide +kernel
theorem dX3_init_8 : decode cX3_init 8 = .ok (.anewarray 11, 3) := by decide +kernel
theorem dX3_init_11 : decode cX3_init 11 = .ok (.putfield 13, 3) := by decide +kernel
theorem dX3_init_14 : decode cX3_init 14 = .ok (.aload_n 0, 1) := by decide +kernel
theorem dX3_init_15 : decode cX3_init 15 = .ok (.bipush 20, 2) := by decide +kernel
theorem dX3_init_17 : decode cX3_init 17 = .ok (.newarray .int, 2) := by decide +kernel
theorem dX3_init_19 : decode cX3_init 19 = .ok (.putfield 17, 3) := by decide +kernel
theorem dX3_init_22 : decode cX3_init 22 = .ok (.aload_n 0, 1) := by decide +kernel
theorem dX3_init_23 : decode cX3_init 23 = .ok (.bipush 20, 2) := by decide +kernel
theorem dX3_init_25 : decode cX3_init 25 = .ok (.newarray .int, 2) := by decide +kernel
theorem dX3_init_27 : decode cX3_init 27 = .ok (.putfield 21, 3) := by decide +kernel
theorem dX3_init_30 : decode cX3_init 30 = .ok (.aload_n 0, 1) := by decide +kernel
theorem dX3_init_31 : decode cX3_init 31 = .ok (.iconst 0, 1) := by decide +kernel
theorem dX3_init_32 : decode cX3_init 32 = .ok (.putfield 24, 3) := by decide +kernel
theorem dX3_init_35 : decode cX3_init 35 = .ok (.aload_n 0, 1) := by decide +kernel
theorem dX3_init_36 : decode cX3_init 36 = .ok (.iconst 0, 1) := by decide +kernel
theorem dX3_init_37 : decode cX3_init 37 = .ok (.putfield 28, 3) := by decide +kernel
theorem dX3_init_40 : decode cX3_init 40 = .ok (.return_, 1) := by decide +kernel
theorem dX3_isDay_0 : decode cX3_isDay 0 = .ok (.iload_n 0, 1) := by decide +kernel
theorem dX3_isDay_1 : decode cX3_isDay 1 = .ok (.ifCond .lt 13, 3) := by decide +kernel
theorem dX3_isDay_4 : decode cX3_isDay 4 = .ok (.iload_n 0, 1) := by decide +kernel
theorem dX3_isDay_5 : decode cX3_isDay 5 = .ok (.ldc 31, 2) := by decide +kernel
theorem dX3_isDay_7 : decode cX3_isDay 7 = .ok (.if_icmp .gt 7, 3) := by decide +kernel
theorem dX3_isDay_10 : decode cX3_isDay 10 = .ok (.iconst 1, 1) := by decide +kernel
theorem dX3_isDay_11 : decode cX3_isDay 11 = .ok (.goto 4, 3) := by decide +kernel
theorem dX3_isDay_14 : decode cX3_isDay 14 = .ok (.iconst 0, 1) := by decide +kernel
theorem dX3_isDay_15 : decode cX3_isDay 15 = .ok (.ireturn, 1) := by decide +kernel
theorem dX3_isBorrower_0 : decode cX3_isBorrower 0 = .ok (.iload_n 0, 1) := by decide +kernel
theorem dX3_isBorrower_1 : decode cX3_isBorrower 1 = .ok (.ifCond .lt 13, 3) := by decide +kernel
theorem dX3_isBorrower_4 : decode cX3_isBorrower 4 = .ok (.iload_n 0, 1) := by decide +kernel
theorem dX3_isBorrower_5 : decode cX3_isBorrower 5 = .ok (.bipush 20, 2) := by decide +kernel
theorem dX3_isBorrower_7 : decode cX3_isBorrower 7 = .ok (.if_icmp .ge 7, 3) := by decide +kernel
theorem dX3_isBorrower_10 : decode cX3_isBorrower 10 = .ok (.iconst 1, 1) := by decide +kernel
theorem dX3_isBorrower_11 : decode cX3_isBorrower 11 = .ok (.goto 4, 3) := by decide +kernel
theorem dX3_isBorrower_14 : decode cX3_isBorrower 14 = .ok (.iconst 0, 1) := by decide +kernel
theorem dX3_isBorrower_15 : decode cX3_isBorrower 15 = .ok (.ireturn, 1) := by decide +kernel
theorem dX3_hasLeaveFor_0 : decode cX3_hasLeaveFor 0 = .ok (.iload_n 1, 1) := by decide +kernel
theorem dX3_hasLeaveFor_1 : decode cX3_hasLeaveFor 1 = .ok (.invokestatic 32, 3) := by decide +kernel
theorem dX3_hasLeaveFor_4 : decode cX3_hasLeaveFor 4 = .ok (.ifCond .eq 20, 3) := by decide +kernel
theorem dX3_hasLeaveFor_7 : decode cX3_hasLeaveFor 7 = .ok (.aload_n 0, 1) := by decide +kernel
theorem dX3_hasLeaveFor_8 : decode cX3_hasLeaveFor 8 = .ok (.getfield 17, 3) := by decide +kernel
theorem dX3_hasLeaveFor_11 : decode cX3_hasLeaveFor 11 = .ok (.iload_n 1, 1) := by decide +kernel
theorem dX3_hasLeaveFor_12 : decode cX3_hasLeaveFor 12 = .ok (.iaload, 1) := by decide +kernel
theorem dX3_hasLeaveFor_13 : decode cX3_hasLeaveFor 13 = .ok (.iload_n 2, 1) := by decide +kernel
theorem dX3_hasLeaveFor_14 : decode cX3_hasLeaveFor 14 = .ok (.iadd, 1) := by decide +kernel
theorem dX3_hasLeaveFor_15 : decode cX3_hasLeaveFor 15 = .ok (.bipush 12, 2) := by decide +kernel
theorem dX3_hasLeaveFor_17 : decode cX3_hasLeaveFor 17 = .ok (.if_icmp .gt 7, 3) := by decide +kernel
theorem dX3_hasLeaveFor_20 : decode cX3_hasLeaveFor 20 = .ok (.iconst 1, 1) := by decide +kernel
theorem dX3_hasLeaveFor_21 : decode cX3_hasLeaveFor 21 = .ok (.goto 4, 3) := by decide +kernel
theorem dX3_hasLeaveFor_24 : decode cX3_hasLeaveFor 24 = .ok (.iconst 0, 1) := by decide +kernel
theorem dX3_hasLeaveFor_25 : decode cX3_hasLeaveFor 25 = .ok (.ireturn, 1) := by decide +kernel
theorem dX3_open_0 : decode cX3_open 0 = .ok (.aload_n 1, 1) := by decide +kernel
theorem dX3_open_1 : decode cX3_open 1 = .ok (.getfield 36, 3) := by decide +kernel
theorem dX3_open_4 : decode cX3_open 4 = .ok (.invokestatic 32, 3) := by decide +kernel
theorem dX3_open_7 : decode cX3_open 7 = .ok (.ifCond .eq 13, 3) := by decide +kernel
theorem dX3_open_10 : decode cX3_open 10 = .ok (.aload_n 0, 1) := by decide +kernel
theorem dX3_open_11 : decode cX3_open 11 = .ok (.getfield 24, 3) := by decide +kernel
theorem dX3_open_14 : decode cX3_open 14 = .ok (.sipush 240, 3) := by decide +kernel
theorem dX3_open_17 : decode cX3_open 17 = .ok (.if_icmp .lt 4, 3) := by decide +kernel
theorem dX3_open_20 : decode cX3_open 20 = .ok (.return_, 1) := by decide +kernel
theorem dX3_open_21 : decode cX3_open 21 = .ok (.aload_n 0, 1) := by decide +kernel
theorem dX3_open_22 : decode cX3_open 22 = .ok (.getfield 24, 3) := by decide +kernel
theorem dX3_open_25 : decode cX3_open 25 = .ok (.istore_n 2, 1) := by decide +kernel
theorem dX3_open_26 : decode cX3_open 26 = .ok (.iload_n 2, 1) := by decide +kernel
theorem dX3_open_27 : decode cX3_open 27 = .ok (.ifCond .le 38, 3) := by decide +kernel
theorem dX3_open_30 : decode cX3_open 30 = .ok (.aload_n 0, 1) := by decide +kernel
theorem dX3_open_31 : decode cX3_open 31 = .ok (.getfield 13, 3) := by decide +kernel
theorem dX3_open_34 : decode cX3_open 34 = .ok (.iload_n 2, 1) := by decide +kernel
theorem dX3_open_35 : decode cX3_open 35 = .ok (.iconst 1, 1) := by decide +kernel
theorem dX3_open_36 : decode cX3_open 36 = .ok (.isub, 1) := by decide +kernel
theorem dX3_open_37 : decode cX3_open 37 = .ok (.aaload, 1) := by decide +kernel
theorem dX3_open_38 : decode cX3_open 38 = .ok (.aload_n 1, 1) := by decide +kernel
theorem dX3_open_39 : decode cX3_open 39 = .ok (.invokestatic 39, 3) := by decide +kernel
theorem dX3_open_42 : decode cX3_open 42 = .ok (.ifCond .eq 23, 3) := by decide +kernel
theorem dX3_open_45 : decode cX3_open 45 = .ok (.aload_n 0, 1) := by decide +kernel
theorem dX3_open_46 : decode cX3_open 46 = .ok (.getfield 13, 3) := by decide +kernel
theorem dX3_open_49 : decode cX3_open 49 = .ok (.iload_n 2, 1) := by decide +kernel
theorem dX3_open_50 : decode cX3_open 50 = .ok (.aload_n 0, 1) := by decide +kernel
theorem dX3_open_51 : decode cX3_open 51 = .ok (.getfield 13, 3) := by decide +kernel
theorem dX3_open_54 : decode cX3_open 54 = .ok (.iload_n 2, 1) := by decide +kernel
theorem dX3_open_55 : decode cX3_open 55 = .ok (.iconst 1, 1) := by decide +kernel
theorem dX3_open_56 : decode cX3_open 56 = .ok (.isub, 1) := by decide +kernel
theorem dX3_open_57 : decode cX3_open 57 = .ok (.aaload, 1) := by decide +kernel
theorem dX3_open_58 : decode cX3_open 58 = .ok (.aastore, 1) := by decide +kernel
theorem dX3_open_59 : decode cX3_open 59 = .ok (.iinc 2 (-1), 3) := by decide +kernel
theorem dX3_open_62 : decode cX3_open 62 = .ok (.goto (-36), 3) := by decide +kernel
theorem dX3_open_65 : decode cX3_open 65 = .ok (.aload_n 0, 1) := by decide +kernel
theorem dX3_open_66 : decode cX3_open 66 = .ok (.getfield 13, 3) := by decide +kernel
theorem dX3_open_69 : decode cX3_open 69 = .ok (.iload_n 2, 1) := by decide +kernel
theorem dX3_open_70 : decode cX3_open 70 = .ok (.aload_n 1, 1) := by decide +kernel
theorem dX3_open_71 : decode cX3_open 71 = .ok (.aastore, 1) := by decide +kernel
theorem dX3_open_72 : decode cX3_open 72 = .ok (.aload_n 0, 1) := by decide +kernel
theorem dX3_open_73 : decode cX3_open 73 = .ok (.getfield 17, 3) := by decide +kernel
theorem dX3_open_76 : decode cX3_open 76 = .ok (.aload_n 1, 1) := by decide +kernel
theorem dX3_open_77 : decode cX3_open 77 = .ok (.getfield 36, 3) := by decide +kernel
theorem dX3_open_80 : decode cX3_open 80 = .ok (.dup2, 1) := by decide +kernel
theorem dX3_open_81 : decode cX3_open 81 = .ok (.iaload, 1) := by decide +kernel
theorem dX3_open_82 : decode cX3_open 82 = .ok (.iconst 1, 1) := by decide +kernel
theorem dX3_open_83 : decode cX3_open 83 = .ok (.iadd, 1) := by decide +kernel
theorem dX3_open_84 : decode cX3_open 84 = .ok (.iastore, 1) := by decide +kernel
theorem dX3_open_85 : decode cX3_open 85 = .ok (.aload_n 0, 1) := by decide +kernel
theorem dX3_open_86 : decode cX3_open 86 = .ok (.dup, 1) := by decide +kernel
theorem dX3_open_87 : decode cX3_open 87 = .ok (.getfield 24, 3) := by decide +kernel
theorem dX3_open_90 : decode cX3_open 90 = .ok (.iconst 1, 1) := by decide +kernel
theorem dX3_open_91 : decode cX3_open 91 = .ok (.iadd, 1) := by decide +kernel
theorem dX3_open_92 : decode cX3_open 92 = .ok (.putfield 24, 3) := by decide +kernel
theorem dX3_open_95 : decode cX3_open 95 = .ok (.aload_n 0, 1) := by decide +kernel
theorem dX3_open_96 : decode cX3_open 96 = .ok (.dup, 1) := by decide +kernel
theorem dX3_open_97 : decode cX3_open 97 = .ok (.getfield 28, 3) := by decide +kernel
theorem dX3_open_100 : decode cX3_open 100 = .ok (.iconst 1, 1) := by decide +kernel
theorem dX3_open_101 : decode cX3_open 101 = .ok (.iadd, 1) := by decide +kernel
theorem dX3_open_102 : decode cX3_open 102 = .ok (.putfield 28, 3) := by decide +kernel
theorem dX3_open_105 : decode cX3_open 105 = .ok (.return_, 1) := by decide +kernel
theorem dX3_comesBehind_0 : decode cX3_comesBehind 0 = .ok (.aload_n 0, 1) := by decide +kernel
theorem dX3_comesBehind_1 : decode cX3_comesBehind 1 = .ok (.ifnonnull 5, 3) := by decide +kernel
theorem dX3_comesBehind_4 : decode cX3_comesBehind 4 = .ok (.iconst 0, 1) := by decide +kernel
theorem dX3_comesBehind_5 : decode cX3_comesBehind 5 = .ok (.ireturn, 1) := by decide +kernel
theorem dX3_comesBehind_6 : decode cX3_comesBehind 6 = .ok (.aload_n 0, 1) := by decide +kernel
theorem dX3_comesBehind_7 : decode cX3_comesBehind 7 = .ok (.invokevirtual 43, 3) := by decide +kernel
theorem dX3_comesBehind_10 : decode cX3_comesBehind 10 = .ok (.aload_n 1, 1) := by decide +kernel
theorem dX3_comesBehind_11 : decode cX3_comesBehind 11 = .ok (.invokevirtual 43, 3) := by decide +kernel
theorem dX3_comesBehind_14 : decode cX3_comesBehind 14 = .ok (.if_icmp .eq 20, 3) := by decide +kernel
theorem dX3_comesBehind_17 : decode cX3_comesBehind 17 = .ok (.aload_n 0, 1) := by decide +kernel
theorem dX3_comesBehind_18 : decode cX3_comesBehind 18 = .ok (.invokevirtual 43, 3) := by decide +kernel
theorem dX3_comesBehind_21 : decode cX3_comesBehind 21 = .ok (.aload_n 1, 1) := by decide +kernel
theorem dX3_comesBehind_22 : decode cX3_comesBehind 22 = .ok (.invokevirtual 43, 3) := by decide +kernel
theorem dX3_comesBehind_25 : decode cX3_comesBehind 25 = .ok (.if_icmp .le 7, 3) := by decide +kernel
theorem dX3_comesBehind_28 : decode cX3_comesBehind 28 = .ok (.iconst 1, 1) := by decide +kernel
theorem dX3_comesBehind_29 : decode cX3_comesBehind 29 = .ok (.goto 4, 3) := by decide +kernel
theorem dX3_comesBehind_32 : decode cX3_comesBehind 32 = .ok (.iconst 0, 1) := by decide +kernel
theorem dX3_comesBehind_33 : decode cX3_comesBehind 33 = .ok (.ireturn, 1) := by decide +kernel
theorem dX3_comesBehind_34 : decode cX3_comesBehind 34 = .ok (.aload_n 0, 1) := by decide +kernel
theorem dX3_comesBehind_35 : decode cX3_comesBehind 35 = .ok (.getfield 47, 3) := by decide +kernel
theorem dX3_comesBehind_38 : decode cX3_comesBehind 38 = .ok (.aload_n 1, 1) := by decide +kernel
theorem dX3_comesBehind_39 : decode cX3_comesBehind 39 = .ok (.getfield 47, 3) := by decide +kernel
theorem dX3_comesBehind_42 : decode cX3_comesBehind 42 = .ok (.if_icmp .le 7, 3) := by decide +kernel
theorem dX3_comesBehind_45 : decode cX3_comesBehind 45 = .ok (.iconst 1, 1) := by decide +kernel
theorem dX3_comesBehind_46 : decode cX3_comesBehind 46 = .ok (.goto 4, 3) := by decide +kernel
theorem dX3_comesBehind_49 : decode cX3_comesBehind 49 = .ok (.iconst 0, 1) := by decide +kernel
theorem dX3_comesBehind_50 : decode cX3_comesBehind 50 = .ok (.ireturn, 1) := by decide +kernel
theorem dX3_close_0 : decode cX3_close 0 = .ok (.aload_n 1, 1) := by decide +kernel
theorem dX3_close_1 : decode cX3_close 1 = .ok (.getfield 36, 3) := by decide +kernel
theorem dX3_close_4 : decode cX3_close 4 = .ok (.invokestatic 32, 3) := by decide +kernel
theorem dX3_close_7 : decode cX3_close 7 = .ok (.ifCond .ne 5, 3) := by decide +kernel
theorem dX3_close_10 : decode cX3_close 10 = .ok (.iconst (-1), 1) := by decide +kernel
theorem dX3_close_11 : decode cX3_close 11 = .ok (.ireturn, 1) := by decide +kernel
theorem dX3_close_12 : decode cX3_close 12 = .ok (.aload_n 1, 1) := by decide +kernel
theorem dX3_close_13 : decode cX3_close 13 = .ok (.iload_n 2, 1) := by decide +kernel
theorem dX3_close_14 : decode cX3_close 14 = .ok (.invokevirtual 50, 3) := by decide +kernel
theorem dX3_close_17 : decode cX3_close 17 = .ok (.istore_n 3, 1) := by decide +kernel
theorem dX3_close_18 : decode cX3_close 18 = .ok (.aload_n 0, 1) := by decide +kernel
theorem dX3_close_19 : decode cX3_close 19 = .ok (.getfield 21, 3) := by decide +kernel
theorem dX3_close_22 : decode cX3_close 22 = .ok (.aload_n 1, 1) := by decide +kernel
theorem dX3_close_23 : decode cX3_close 23 = .ok (.getfield 36, 3) := by decide +kernel
theorem dX3_close_26 : decode cX3_close 26 = .ok (.dup2, 1) := by decide +kernel
theorem dX3_close_27 : decode cX3_close 27 = .ok (.iaload, 1) := by decide +kernel
theorem dX3_close_28 : decode cX3_close 28 = .ok (.iload_n 3, 1) := by decide +kernel
theorem dX3_close_29 : decode cX3_close 29 = .ok (.iadd, 1) := by decide +kernel
theorem dX3_close_30 : decode cX3_close 30 = .ok (.iastore, 1) := by decide +kernel
theorem dX3_close_31 : decode cX3_close 31 = .ok (.aload_n 0, 1) := by decide +kernel
theorem dX3_close_32 : decode cX3_close 32 = .ok (.getfield 17, 3) := by decide +kernel
theorem dX3_close_35 : decode cX3_close 35 = .ok (.aload_n 1, 1) := by decide +kernel
theorem dX3_close_36 : decode cX3_close 36 = .ok (.getfield 36, 3) := by decide +kernel
theorem dX3_close_39 : decode cX3_close 39 = .ok (.dup2, 1) := by decide +kernel
theorem dX3_close_40 : decode cX3_close 40 = .ok (.iaload, 1) := by decide +kernel
theorem dX3_close_41 : decode cX3_close 41 = .ok (.iconst 1, 1) := by decide +kernel
theorem dX3_close_42 : decode cX3_close 42 = .ok (.isub, 1) := by decide +kernel
theorem dX3_close_43 : decode cX3_close 43 = .ok (.iastore, 1) := by decide +kernel
theorem dX3_close_44 : decode cX3_close 44 = .ok (.aload_n 0, 1) := by decide +kernel
theorem dX3_close_45 : decode cX3_close 45 = .ok (.aload_n 1, 1) := by decide +kernel
theorem dX3_close_46 : decode cX3_close 46 = .ok (.invokevirtual 54, 3) := by decide +kernel
theorem dX3_close_49 : decode cX3_close 49 = .ok (.aload_n 1, 1) := by decide +kernel
theorem dX3_close_50 : decode cX3_close 50 = .ok (.invokevirtual 58, 3) := by decide +kernel
theorem dX3_close_53 : decode cX3_close 53 = .ok (.iload_n 3, 1) := by decide +kernel
theorem dX3_close_54 : decode cX3_close 54 = .ok (.ireturn, 1) := by decide +kernel
theorem dX3_remove_0 : decode cX3_remove 0 = .ok (.iconst 0, 1) := by decide +kernel
theorem dX3_remove_1 : decode cX3_remove 1 = .ok (.istore_n 2, 1) := by decide +kernel
theorem dX3_remove_2 : decode cX3_remove 2 = .ok (.iconst 0, 1) := by decide +kernel
theorem dX3_remove_3 : decode cX3_remove 3 = .ok (.istore_n 3, 1) := by decide +kernel
theorem dX3_remove_4 : decode cX3_remove 4 = .ok (.iload_n 3, 1) := by decide +kernel
theorem dX3_remove_5 : decode cX3_remove 5 = .ok (.aload_n 0, 1) := by decide +kernel
theorem dX3_remove_6 : decode cX3_remove 6 = .ok (.getfield 24, 3) := by decide +kernel
theorem dX3_remove_9 : decode cX3_remove 9 = .ok (.if_icmp .ge 41, 3) := by decide +kernel
theorem dX3_remove_12 : decode cX3_remove 12 = .ok (.iload_n 3, 1) := by decide +kernel
theorem dX3_remove_13 : decode cX3_remove 13 = .ok (.sipush 240, 3) := by decide +kernel
theorem dX3_remove_16 : decode cX3_remove 16 = .ok (.if_icmp .ge 34, 3) := by decide +kernel
theorem dX3_remove_19 : decode cX3_remove 19 = .ok (.aload_n 0, 1) := by decide +kernel
theorem dX3_remove_20 : decode cX3_remove 20 = .ok (.getfield 13, 3) := by decide +kernel
theorem dX3_remove_23 : decode cX3_remove 23 = .ok (.iload_n 3, 1) := by decide +kernel
theorem dX3_remove_24 : decode cX3_remove 24 = .ok (.aaload, 1) := by decide +kernel
theorem dX3_remove_25 : decode cX3_remove 25 = .ok (.aload_n 1, 1) := by decide +kernel
theorem dX3_remove_26 : decode cX3_remove 26 = .ok (.if_acmp .eq 18, 3) := by decide +kernel
theorem dX3_remove_29 : decode cX3_remove 29 = .ok (.aload_n 0, 1) := by decide +kernel
theorem dX3_remove_30 : decode cX3_remove 30 = .ok (.getfield 13, 3) := by decide +kernel
theorem dX3_remove_33 : decode cX3_remove 33 = .ok (.iload_n 2, 1) := by decide +kernel
theorem dX3_remove_34 : decode cX3_remove 34 = .ok (.aload_n 0, 1) := by decide +kernel
theorem dX3_remove_35 : decode cX3_remove 35 = .ok (.getfield 13, 3) := by decide +kernel
theorem dX3_remove_38 : decode cX3_remove 38 = .ok (.iload_n 3, 1) := by decide +kernel
theorem dX3_remove_39 : decode cX3_remove 39 = .ok (.aaload, 1) := by decide +kernel
theorem dX3_remove_40 : decode cX3_remove 40 = .ok (.aastore, 1) := by decide +kernel
theorem dX3_remove_41 : decode cX3_remove 41 = .ok (.iinc 2 1, 3) := by decide +kernel
theorem dX3_remove_44 : decode cX3_remove 44 = .ok (.iinc 3 1, 3) := by decide +kernel
theorem dX3_remove_47 : decode cX3_remove 47 = .ok (.goto (-43), 3) := by decide +kernel
theorem dX3_remove_50 : decode cX3_remove 50 = .ok (.aload_n 0, 1) := by decide +kernel
theorem dX3_remove_51 : decode cX3_remove 51 = .ok (.iload_n 2, 1) := by decide +kernel
theorem dX3_remove_52 : decode cX3_remove 52 = .ok (.putfield 24, 3) := by decide +kernel
theorem dX3_remove_55 : decode cX3_remove 55 = .ok (.return_, 1) := by decide +kernel
theorem dX3_lateCount_0 : decode cX3_lateCount 0 = .ok (.iconst 0, 1) := by decide +kernel
theorem dX3_lateCount_1 : decode cX3_lateCount 1 = .ok (.istore_n 2, 1) := by decide +kernel
theorem dX3_lateCount_2 : decode cX3_lateCount 2 = .ok (.iconst 0, 1) := by decide +kernel
theorem dX3_lateCount_3 : decode cX3_lateCount 3 = .ok (.istore_n 3, 1) := by decide +kernel
theorem dX3_lateCount_4 : decode cX3_lateCount 4 = .ok (.iload_n 3, 1) := by decide +kernel
theorem dX3_lateCount_5 : decode cX3_lateCount 5 = .ok (.aload_n 0, 1) := by decide +kernel
theorem dX3_lateCount_6 : decode cX3_lateCount 6 = .ok (.getfield 24, 3) := by decide +kernel
theorem dX3_lateCount_9 : decode cX3_lateCount 9 = .ok (.if_icmp .ge 41, 3) := by decide +kernel
theorem dX3_lateCount_12 : decode cX3_lateCount 12 = .ok (.iload_n 3, 1) := by decide +kernel
theorem dX3_lateCount_13 : decode cX3_lateCount 13 = .ok (.sipush 240, 3) := by decide +kernel
theorem dX3_lateCount_16 : decode cX3_lateCount 16 = .ok (.if_icmp .ge 34, 3) := by decide +kernel
theorem dX3_lateCount_19 : decode cX3_lateCount 19 = .ok (.aload_n 0, 1) := by decide +kernel
theorem dX3_lateCount_20 : decode cX3_lateCount 20 = .ok (.getfield 13, 3) := by decide +kernel
theorem dX3_lateCount_23 : decode cX3_lateCount 23 = .ok (.iload_n 3, 1) := by decide +kernel
theorem dX3_lateCount_24 : decode cX3_lateCount 24 = .ok (.aaload, 1) := by decide +kernel
theorem dX3_lateCount_25 : decode cX3_lateCount 25 = .ok (.astore 4, 2) := by decide +kernel
theorem dX3_lateCount_27 : decode cX3_lateCount 27 = .ok (.aload 4, 2) := by decide +kernel
theorem dX3_lateCount_29 : decode cX3_lateCount 29 = .ok (.ifnull 15, 3) := by decide +kernel
theorem dX3_lateCount_32 : decode cX3_lateCount 32 = .ok (.aload 4, 2) := by decide +kernel
theorem dX3_lateCount_34 : decode cX3_lateCount 34 = .ok (.invokevirtual 43, 3) := by decide +kernel
theorem dX3_lateCount_37 : decode cX3_lateCount 37 = .ok (.iload_n 1, 1) := by decide +kernel
theorem dX3_lateCount_38 : decode cX3_lateCount 38 = .ok (.if_icmp .ge 6, 3) := by decide +kernel
theorem dX3_lateCount_41 : decode cX3_lateCount 41 = .ok (.iinc 2 1, 3) := by decide +kernel
theorem dX3_lateCount_44 : decode cX3_lateCount 44 = .ok (.iinc 3 1, 3) := by decide +kernel
theorem dX3_lateCount_47 : decode cX3_lateCount 47 = .ok (.goto (-43), 3) := by decide +kernel
theorem dX3_lateCount_50 : decode cX3_lateCount 50 = .ok (.iload_n 2, 1) := by decide +kernel
theorem dX3_lateCount_51 : decode cX3_lateCount 51 = .ok (.ireturn, 1) := by decide +kernel
theorem dX3_lateAt_0 : decode cX3_lateAt 0 = .ok (.iload_n 2, 1) := by decide +kernel
theorem dX3_lateAt_1 : decode cX3_lateAt 1 = .ok (.ifCond .lt 18, 3) := by decide +kernel
theorem dX3_lateAt_4 : decode cX3_lateAt 4 = .ok (.iload_n 2, 1) := by decide +kernel
theorem dX3_lateAt_5 : decode cX3_lateAt 5 = .ok (.aload_n 0, 1) := by decide +kernel
theorem dX3_lateAt_6 : decode cX3_lateAt 6 = .ok (.getfield 24, 3) := by decide +kernel
theorem dX3_lateAt_9 : decode cX3_lateAt 9 = .ok (.if_icmp .ge 10, 3) := by decide +kernel
theorem dX3_lateAt_12 : decode cX3_lateAt 12 = .ok (.iload_n 2, 1) := by decide +kernel
theorem dX3_lateAt_13 : decode cX3_lateAt 13 = .ok (.sipush 240, 3) := by decide +kernel
theorem dX3_lateAt_16 : decode cX3_lateAt 16 = .ok (.if_icmp .lt 5, 3) := by decide +kernel
theorem dX3_lateAt_19 : decode cX3_lateAt 19 = .ok (.iconst (-1), 1) := by decide +kernel
theorem dX3_lateAt_20 : decode cX3_lateAt 20 = .ok (.ireturn, 1) := by decide +kernel
theorem dX3_lateAt_21 : decode cX3_lateAt 21 = .ok (.aload_n 0, 1) := by decide +kernel
theorem dX3_lateAt_22 : decode cX3_lateAt 22 = .ok (.getfield 13, 3) := by decide +kernel
theorem dX3_lateAt_25 : decode cX3_lateAt 25 = .ok (.iload_n 2, 1) := by decide +kernel
theorem dX3_lateAt_26 : decode cX3_lateAt 26 = .ok (.aaload, 1) := by decide +kernel
theorem dX3_lateAt_27 : decode cX3_lateAt 27 = .ok (.astore_n 3, 1) := by decide +kernel
theorem dX3_lateAt_28 : decode cX3_lateAt 28 = .ok (.aload_n 3, 1) := by decide +kernel
theorem dX3_lateAt_29 : decode cX3_lateAt 29 = .ok (.ifnull 18, 3) := by decide +kernel
theorem dX3_lateAt_32 : decode cX3_lateAt 32 = .ok (.aload_n 3, 1) := by decide +kernel
theorem dX3_lateAt_33 : decode cX3_lateAt 33 = .ok (.invokevirtual 43, 3) := by decide +kernel
theorem dX3_lateAt_36 : decode cX3_lateAt 36 = .ok (.iload_n 1, 1) := by decide +kernel
theorem dX3_lateAt_37 : decode cX3_lateAt 37 = .ok (.if_icmp .ge 10, 3) := by decide +kernel
theorem dX3_lateAt_40 : decode cX3_lateAt 40 = .ok (.aload_n 3, 1) := by decide +kernel
theorem dX3_lateAt_41 : decode cX3_lateAt 41 = .ok (.getfield 47, 3) := by decide +kernel
theorem dX3_lateAt_44 : decode cX3_lateAt 44 = .ok (.goto 4, 3) := by decide +kernel
theorem dX3_lateAt_47 : decode cX3_lateAt 47 = .ok (.iconst (-1), 1) := by decide +kernel
theorem dX3_lateAt_48 : decode cX3_lateAt 48 = .ok (.ireturn, 1) := by decide +kernel
theorem dX3_owed_0 : decode cX3_owed 0 = .ok (.iload_n 1, 1) := by decide +kernel
theorem dX3_owed_1 : decode cX3_owed 1 = .ok (.invokestatic 32, 3) := by decide +kernel
theorem dX3_owed_4 : decode cX3_owed 4 = .ok (.ifCond .ne 5, 3) := by decide +kernel
theorem dX3_owed_7 : decode cX3_owed 7 = .ok (.iconst (-1), 1) := by decide +kernel
theorem dX3_owed_8 : decode cX3_owed 8 = .ok (.ireturn, 1) := by decide +kernel
theorem dX3_owed_9 : decode cX3_owed 9 = .ok (.aload_n 0, 1) := by decide +kernel
theorem dX3_owed_10 : decode cX3_owed 10 = .ok (.getfield 21, 3) := by decide +kernel
theorem dX3_owed_13 : decode cX3_owed 13 = .ok (.iload_n 1, 1) := by decide +kernel
theorem dX3_owed_14 : decode cX3_owed 14 = .ok (.iaload, 1) := by decide +kernel
theorem dX3_owed_15 : decode cX3_owed 15 = .ok (.istore_n 3, 1) := by decide +kernel
theorem dX3_owed_16 : decode cX3_owed 16 = .ok (.iconst 0, 1) := by decide +kernel
theorem dX3_owed_17 : decode cX3_owed 17 = .ok (.istore 4, 2) := by decide +kernel
theorem dX3_owed_19 : decode cX3_owed 19 = .ok (.iload 4, 2) := by decide +kernel
theorem dX3_owed_21 : decode cX3_owed 21 = .ok (.aload_n 0, 1) := by decide +kernel
theorem dX3_owed_22 : decode cX3_owed 22 = .ok (.getfield 24, 3) := by decide +kernel
theorem dX3_owed_25 : decode cX3_owed 25 = .ok (.if_icmp .ge 49, 3) := by decide +kernel
theorem dX3_owed_28 : decode cX3_owed 28 = .ok (.iload 4, 2) := by decide +kernel
theorem dX3_owed_30 : decode cX3_owed 30 = .ok (.sipush 240, 3) := by decide +kernel
theorem dX3_owed_33 : decode cX3_owed 33 = .ok (.if_icmp .ge 41, 3) := by decide +kernel
theorem dX3_owed_36 : decode cX3_owed 36 = .ok (.aload_n 0, 1) := by decide +kernel
theorem dX3_owed_37 : decode cX3_owed 37 = .ok (.getfield 13, 3) := by decide +kernel
theorem dX3_owed_40 : decode cX3_owed 40 = .ok (.iload 4, 2) := by decide +kernel
theorem dX3_owed_42 : decode cX3_owed 42 = .ok (.aaload, 1) := by decide +kernel
theorem dX3_owed_43 : decode cX3_owed 43 = .ok (.astore 5, 2) := by decide +kernel
theorem dX3_owed_45 : decode cX3_owed 45 = .ok (.aload 5, 2) := by decide +kernel
theorem dX3_owed_47 : decode cX3_owed 47 = .ok (.ifnull 21, 3) := by decide +kernel
theorem dX3_owed_50 : decode cX3_owed 50 = .ok (.aload 5, 2) := by decide +kernel
theorem dX3_owed_52 : decode cX3_owed 52 = .ok (.getfield 36, 3) := by decide +kernel
theorem dX3_owed_55 : decode cX3_owed 55 = .ok (.iload_n 1, 1) := by decide +kernel
theorem dX3_owed_56 : decode cX3_owed 56 = .ok (.if_icmp .ne 12, 3) := by decide +kernel
theorem dX3_owed_59 : decode cX3_owed 59 = .ok (.iload_n 3, 1) := by decide +kernel
theorem dX3_owed_60 : decode cX3_owed 60 = .ok (.aload 5, 2) := by decide +kernel
theorem dX3_owed_62 : decode cX3_owed 62 = .ok (.iload_n 2, 1) := by decide +kernel
theorem dX3_owed_63 : decode cX3_owed 63 = .ok (.invokevirtual 50, 3) := by decide +kernel
theorem dX3_owed_66 : decode cX3_owed 66 = .ok (.iadd, 1) := by decide +kernel
theorem dX3_owed_67 : decode cX3_owed 67 = .ok (.istore_n 3, 1) := by decide +kernel
theorem dX3_owed_68 : decode cX3_owed 68 = .ok (.iinc 4 1, 3) := by decide +kernel
theorem dX3_owed_71 : decode cX3_owed 71 = .ok (.goto (-52), 3) := by decide +kernel
theorem dX3_owed_74 : decode cX3_owed 74 = .ok (.iload_n 3, 1) := by decide +kernel
theorem dX3_owed_75 : decode cX3_owed 75 = .ok (.ireturn, 1) := by decide +kernel
theorem dX3_chargedToAll_0 : decode cX3_chargedToAll 0 = .ok (.iconst 0, 1) := by decide +kernel
theorem dX3_chargedToAll_1 : decode cX3_chargedToAll 1 = .ok (.istore_n 1, 1) := by decide +kernel
theorem dX3_chargedToAll_2 : decode cX3_chargedToAll 2 = .ok (.iconst 0, 1) := by decide +kernel
theorem dX3_chargedToAll_3 : decode cX3_chargedToAll 3 = .ok (.istore_n 2, 1) := by decide +kernel
theorem dX3_chargedToAll_4 : decode cX3_chargedToAll 4 = .ok (.iload_n 2, 1) := by decide +kernel
theorem dX3_chargedToAll_5 : decode cX3_chargedToAll 5 = .ok (.bipush 20, 2) := by decide +kernel
theorem dX3_chargedToAll_7 : decode cX3_chargedToAll 7 = .ok (.if_icmp .ge 18, 3) := by decide +kernel
theorem dX3_chargedToAll_10 : decode cX3_chargedToAll 10 = .ok (.iload_n 1, 1) := by decide +kernel
theorem dX3_chargedToAll_11 : decode cX3_chargedToAll 11 = .ok (.aload_n 0, 1) := by decide +kernel
theorem dX3_chargedToAll_12 : decode cX3_chargedToAll 12 = .ok (.getfield 21, 3) := by decide +kernel
theorem dX3_chargedToAll_15 : decode cX3_chargedToAll 15 = .ok (.iload_n 2, 1) := by decide +kernel
theorem dX3_chargedToAll_16 : decode cX3_chargedToAll 16 = .ok (.iaload, 1) := by decide +kernel
theorem dX3_chargedToAll_17 : decode cX3_chargedToAll 17 = .ok (.iadd, 1) := by decide +kernel
theorem dX3_chargedToAll_18 : decode cX3_chargedToAll 18 = .ok (.istore_n 1, 1) := by decide +kernel
theorem dX3_chargedToAll_19 : decode cX3_chargedToAll 19 = .ok (.iinc 2 1, 3) := by decide +kernel
theorem dX3_chargedToAll_22 : decode cX3_chargedToAll 22 = .ok (.goto (-18), 3) := by decide +kernel
theorem dX3_chargedToAll_25 : decode cX3_chargedToAll 25 = .ok (.iload_n 1, 1) := by decide +kernel
theorem dX3_chargedToAll_26 : decode cX3_chargedToAll 26 = .ok (.ireturn, 1) := by decide +kernel
theorem dX4_init_0 : decode cX4_init 0 = .ok (.aload_n 0, 1) := by decide +kernel
theorem dX4_init_1 : decode cX4_init 1 = .ok (.invokespecial 1, 3) := by decide +kernel
theorem dX4_init_4 : decode cX4_init 4 = .ok (.aload_n 0, 1) := by decide +kernel
theorem dX4_init_5 : decode cX4_init 5 = .ok (.iload_n 1, 1) := by decide +kernel
theorem dX4_init_6 : decode cX4_init 6 = .ok (.putfield 7, 3) := by decide +kernel
theorem dX4_init_9 : decode cX4_init 9 = .ok (.aload_n 0, 1) := by decide +kernel
theorem dX4_init_10 : decode cX4_init 10 = .ok (.iload_n 2, 1) := by decide +kernel
theorem dX4_init_11 : decode cX4_init 11 = .ok (.putfield 13, 3) := by decide +kernel
theorem dX4_init_14 : decode cX4_init 14 = .ok (.aload_n 0, 1) := by decide +kernel
theorem dX4_init_15 : decode cX4_init 15 = .ok (.iload_n 3, 1) := by decide +kernel
theorem dX4_init_16 : decode cX4_init 16 = .ok (.putfield 16, 3) := by decide +kernel
theorem dX4_init_19 : decode cX4_init 19 = .ok (.aload_n 0, 1) := by decide +kernel
theorem dX4_init_20 : decode cX4_init 20 = .ok (.iload 4, 2) := by decide +kernel
theorem dX4_init_22 : decode cX4_init 22 = .ok (.putfield 19, 3) := by decide +kernel
theorem dX4_init_25 : decode cX4_init 25 = .ok (.return_, 1) := by decide +kernel
theorem dX4_mayAsk_0 : decode cX4_mayAsk 0 = .ok (.iload_n 0, 1) := by decide +kernel
theorem dX4_mayAsk_1 : decode cX4_mayAsk 1 = .ok (.bipush 60, 2) := by decide +kernel
theorem dX4_mayAsk_3 : decode cX4_mayAsk 3 = .ok (.if_icmp .eq 9, 3) := by decide +kernel
theorem dX4_mayAsk_6 : decode cX4_mayAsk 6 = .ok (.iload_n 0, 1) := by decide +kernel
theorem dX4_mayAsk_7 : decode cX4_mayAsk 7 = .ok (.bipush 61, 2) := by decide +kernel
theorem dX4_mayAsk_9 : decode cX4_mayAsk 9 = .ok (.if_icmp .ne 8, 3) := by decide +kernel
theorem dX4_mayAsk_12 : decode cX4_mayAsk 12 = .ok (.iload_n 1, 1) := by decide +kernel
theorem dX4_mayAsk_13 : decode cX4_mayAsk 13 = .ok (.invokestatic 22, 3) := by decide +kernel
theorem dX4_mayAsk_16 : decode cX4_mayAsk 16 = .ok (.ireturn, 1) := by decide +kernel
theorem dX4_mayAsk_17 : decode cX4_mayAsk 17 = .ok (.iload_n 0, 1) := by decide +kernel
theorem dX4_mayAsk_18 : decode cX4_mayAsk 18 = .ok (.invokestatic 28, 3) := by decide +kernel
theorem dX4_mayAsk_21 : decode cX4_mayAsk 21 = .ok (.ifCond .eq 11, 3) := by decide +kernel
theorem dX4_mayAsk_24 : decode cX4_mayAsk 24 = .ok (.iload_n 1, 1) := by decide +kernel
theorem dX4_mayAsk_25 : decode cX4_mayAsk 25 = .ok (.ifCond .ne 7, 3) := by decide +kernel
theorem dX4_mayAsk_28 : decode cX4_mayAsk 28 = .ok (.iconst 1, 1) := by decide +kernel
theorem dX4_mayAsk_29 : decode cX4_mayAsk 29 = .ok (.goto 4, 3) := by decide +kernel
theorem dX4_mayAsk_32 : decode cX4_mayAsk 32 = .ok (.iconst 0, 1) := by decide +kernel
theorem dX4_mayAsk_33 : decode cX4_mayAsk 33 = .ok (.ireturn, 1) := by decide +kernel
theorem dX4_tell_0 : decode cX4_tell 0 = .ok (.aload_n 0, 1) := by decide +kernel
theorem dX4_tell_1 : decode cX4_tell 1 = .ok (.aload_n 1, 1) := by decide +kernel
theorem dX4_tell_2 : decode cX4_tell 2 = .ok (.invokevirtual 33, 3) := by decide +kernel
theorem dX4_tell_5 : decode cX4_tell 5 = .ok (.ifCond .eq 10, 3) := by decide +kernel
theorem dX4_tell_8 : decode cX4_tell 8 = .ok (.aload_n 0, 1) := by decide +kernel
theorem dX4_tell_9 : decode cX4_tell 9 = .ok (.getfield 16, 3) := by decide +kernel
theorem dX4_tell_12 : decode cX4_tell 12 = .ok (.goto 7, 3) := by decide +kernel
theorem dX4_tell_15 : decode cX4_tell 15 = .ok (.aload_n 0, 1) := by decide +kernel
theorem dX4_tell_16 : decode cX4_tell 16 = .ok (.getfield 19, 3) := by decide +kernel
theorem dX4_tell_19 : decode cX4_tell 19 = .ok (.ireturn, 1) := by decide +kernel
theorem dX4_holdsFor_0 : decode cX4_holdsFor 0 = .ok (.aload_n 0, 1) := by decide +kernel
theorem dX4_holdsFor_1 : decode cX4_holdsFor 1 = .ok (.getfield 7, 3) := by decide +kernel
theorem dX4_holdsFor_4 : decode cX4_holdsFor 4 = .ok (.bipush 60, 2) := by decide +kernel
theorem dX4_holdsFor_6 : decode cX4_holdsFor 6 = .ok (.if_icmp .ne 20, 3) := by decide +kernel
theorem dX4_holdsFor_9 : decode cX4_holdsFor 9 = .ok (.aload_n 1, 1) := by decide +kernel
theorem dX4_holdsFor_10 : decode cX4_holdsFor 10 = .ok (.getfield 37, 3) := by decide +kernel
theorem dX4_holdsFor_13 : decode cX4_holdsFor 13 = .ok (.aload_n 0, 1) := by decide +kernel
theorem dX4_holdsFor_14 : decode cX4_holdsFor 14 = .ok (.getfield 13, 3) := by decide +kernel
theorem dX4_holdsFor_17 : decode cX4_holdsFor 17 = .ok (.if_icmp .lt 7, 3) := by decide +kernel
theorem dX4_holdsFor_20 : decode cX4_holdsFor 20 = .ok (.iconst 1, 1) := by decide +kernel
theorem dX4_holdsFor_21 : decode cX4_holdsFor 21 = .ok (.goto 4, 3) := by decide +kernel
theorem dX4_holdsFor_24 : decode cX4_holdsFor 24 = .ok (.iconst 0, 1) := by decide +kernel
theorem dX4_holdsFor_25 : decode cX4_holdsFor 25 = .ok (.ireturn, 1) := by decide +kernel
theorem dX4_holdsFor_26 : decode cX4_holdsFor 26 = .ok (.aload_n 0, 1) := by decide +kernel
theorem dX4_holdsFor_27 : decode cX4_holdsFor 27 = .ok (.getfield 7, 3) := by decide +kernel
theorem dX4_holdsFor_30 : decode cX4_holdsFor 30 = .ok (.bipush 61, 2) := by decide +kernel
theorem dX4_holdsFor_32 : decode cX4_holdsFor 32 = .ok (.if_icmp .ne 20, 3) := by decide +kernel
theorem dX4_holdsFor_35 : decode cX4_holdsFor 35 = .ok (.aload_n 1, 1) := by decide +kernel
theorem dX4_holdsFor_36 : decode cX4_holdsFor 36 = .ok (.getfield 40, 3) := by decide +kernel
theorem dX4_holdsFor_39 : decode cX4_holdsFor 39 = .ok (.aload_n 0, 1) := by decide +kernel
theorem dX4_holdsFor_40 : decode cX4_holdsFor 40 = .ok (.getfield 13, 3) := by decide +kernel
theorem dX4_holdsFor_43 : decode cX4_holdsFor 43 = .ok (.if_icmp .lt 7, 3) := by decide +kernel
theorem dX4_holdsFor_46 : decode cX4_holdsFor 46 = .ok (.iconst 1, 1) := by decide +kernel
theorem dX4_holdsFor_47 : decode cX4_holdsFor 47 = .ok (.goto 4, 3) := by decide +kernel
theorem dX4_holdsFor_50 : decode cX4_holdsFor 50 = .ok (.iconst 0, 1) := by decide +kernel
theorem dX4_holdsFor_51 : decode cX4_holdsFor 51 = .ok (.ireturn, 1) := by decide +kernel
theorem dX4_holdsFor_52 : decode cX4_holdsFor 52 = .ok (.aload_n 1, 1) := by decide +kernel
theorem dX4_holdsFor_53 : decode cX4_holdsFor 53 = .ok (.getfield 43, 3) := by decide +kernel
theorem dX4_holdsFor_56 : decode cX4_holdsFor 56 = .ok (.aload_n 0, 1) := by decide +kernel
theorem dX4_holdsFor_57 : decode cX4_holdsFor 57 = .ok (.getfield 7, 3) := by decide +kernel
theorem dX4_holdsFor_60 : decode cX4_holdsFor 60 = .ok (.invokestatic 46, 3) := by decide +kernel
theorem dX4_holdsFor_63 : decode cX4_holdsFor 63 = .ok (.ireturn, 1) := by decide +kernel
theorem dX5_init_0 : decode cX5_init 0 = .ok (.aload_n 0, 1) := by decide +kernel
theorem dX5_init_1 : decode cX5_init 1 = .ok (.invokespecial 3, 3) := by decide +kernel
theorem dX5_init_4 : decode cX5_init 4 = .ok (.aload_n 0, 1) := by decide +kernel
theorem dX5_init_5 : decode cX5_init 5 = .ok (.iconst 5, 1) := by decide +kernel
theorem dX5_init_6 : decode cX5_init 6 = .ok (.newarray .long, 2) := by decide +kernel
theorem dX5_init_8 : decode cX5_init 8 = .ok (.putfield 11, 3) := by decide +kernel
theorem dX5_init_11 : decode cX5_init 11 = .ok (.aload_n 0, 1) := by decide +kernel
theorem dX5_init_12 : decode cX5_init 12 = .ok (.sipush 245, 3) := by decide +kernel
theorem dX5_init_15 : decode cX5_init 15 = .ok (.newarray .int, 2) := by decide +kernel
theorem dX5_init_17 : decode cX5_init 17 = .ok (.putfield 17, 3) := by decide +kernel
theorem dX5_init_20 : decode cX5_init 20 = .ok (.return_, 1) := by decide +kernel
theorem dX5_isField_0 : decode cX5_isField 0 = .ok (.iload_n 0, 1) := by decide +kernel
theorem dX5_isField_1 : decode cX5_isField 1 = .ok (.ifCond .lt 12, 3) := by decide +kernel
theorem dX5_isField_4 : decode cX5_isField 4 = .ok (.iload_n 0, 1) := by decide +kernel
theorem dX5_isField_5 : decode cX5_isField 5 = .ok (.iconst 5, 1) := by decide +kernel
theorem dX5_isField_6 : decode cX5_isField 6 = .ok (.if_icmp .ge 7, 3) := by decide +kernel
theorem dX5_isField_9 : decode cX5_isField 9 = .ok (.iconst 1, 1) := by decide +kernel
theorem dX5_isField_10 : decode cX5_isField 10 = .ok (.goto 4, 3) := by decide +kernel
theorem dX5_isField_13 : decode cX5_isField 13 = .ok (.iconst 0, 1) := by decide +kernel
theorem dX5_isField_14 : decode cX5_isField 14 = .ok (.ireturn, 1) := by decide +kernel
theorem dX5_lay_0 : decode cX5_lay 0 = .ok (.iload_n 1, 1) := by decide +kernel
theorem dX5_lay_1 : decode cX5_lay 1 = .ok (.invokestatic 21, 3) := by decide +kernel
theorem dX5_lay_4 : decode cX5_lay 4 = .ok (.ifCond .eq 23, 3) := by decide +kernel
theorem dX5_lay_7 : decode cX5_lay 7 = .ok (.iload_n 2, 1) := by decide +kernel
theorem dX5_lay_8 : decode cX5_lay 8 = .ok (.invokestatic 25, 3) := by decide +kernel
theorem dX5_lay_11 : decode cX5_lay 11 = .ok (.ifCond .eq 16, 3) := by decide +kernel
theorem dX5_lay_14 : decode cX5_lay 14 = .ok (.iload_n 3, 1) := by decide +kernel
theorem dX5_lay_15 : decode cX5_lay 15 = .ok (.ifCond .lt 12, 3) := by decide +kernel
theorem dX5_lay_18 : decode cX5_lay 18 = .ok (.iload_n 3, 1) := by decide +kernel
theorem dX5_lay_19 : decode cX5_lay 19 = .ok (.getstatic 28, 3) := by decide +kernel
theorem dX5_lay_22 : decode cX5_lay 22 = .ok (.iload_n 2, 1) := by decide +kernel
theorem dX5_lay_23 : decode cX5_lay 23 = .ok (.iaload, 1) := by decide +kernel
theorem dX5_lay_24 : decode cX5_lay 24 = .ok (.if_icmp .le 5, 3) := by decide +kernel
theorem dX5_lay_27 : decode cX5_lay 27 = .ok (.iconst 0, 1) := by decide +kernel
theorem dX5_lay_28 : decode cX5_lay 28 = .ok (.ireturn, 1) := by decide +kernel
theorem dX5_lay_29 : decode cX5_lay 29 = .ok (.aload_n 0, 1) := by decide +kernel
theorem dX5_lay_30 : decode cX5_lay 30 = .ok (.getfield 11, 3) := by decide +kernel
theorem dX5_lay_33 : decode cX5_lay 33 = .ok (.iload_n 2, 1) := by decide +kernel
theorem dX5_lay_34 : decode cX5_lay 34 = .ok (.dup2, 1) := by decide +kernel
theorem dX5_lay_35 : decode cX5_lay 35 = .ok (.laload, 1) := by decide +kernel
theorem dX5_lay_36 : decode cX5_lay 36 = .ok (.lconst 1, 1) := by decide +kernel
theorem dX5_lay_37 : decode cX5_lay 37 = .ok (.iload_n 1, 1) := by decide +kernel
theorem dX5_lay_38 : decode cX5_lay 38 = .ok (.lshl, 1) := by decide +kernel
theorem dX5_lay_39 : decode cX5_lay 39 = .ok (.lor, 1) := by decide +kernel
theorem dX5_lay_40 : decode cX5_lay 40 = .ok (.lastore, 1) := by decide +kernel
theorem dX5_lay_41 : decode cX5_lay 41 = .ok (.aload_n 0, 1) := by decide +kernel
theorem dX5_lay_42 : decode cX5_lay 42 = .ok (.getfield 17, 3) := by decide +kernel
theorem dX5_lay_45 : decode cX5_lay 45 = .ok (.iload_n 2, 1) := by decide +kernel
theorem dX5_lay_46 : decode cX5_lay 46 = .ok (.bipush 49, 2) := by decide +kernel
theorem dX5_lay_48 : decode cX5_lay 48 = .ok (.imul, 1) := by decide +kernel
theorem dX5_lay_49 : decode cX5_lay 49 = .ok (.iload_n 1, 1) := by decide +kernel
theorem dX5_lay_50 : decode cX5_lay 50 = .ok (.iadd, 1) := by decide +kernel
theorem dX5_lay_51 : decode cX5_lay 51 = .ok (.iload_n 3, 1) := by decide +kernel
theorem dX5_lay_52 : decode cX5_lay 52 = .ok (.iastore, 1) := by decide +kernel
theorem dX5_lay_53 : decode cX5_lay 53 = .ok (.iconst 1, 1) := by decide +kernel
theorem dX5_lay_54 : decode cX5_lay 54 = .ok (.ireturn, 1) := by decide +kernel
theorem dX5_drop_0 : decode cX5_drop 0 = .ok (.iload_n 1, 1) := by decide +kernel
theorem dX5_drop_1 : decode cX5_drop 1 = .ok (.invokestatic 21, 3) := by decide +kernel
theorem dX5_drop_4 : decode cX5_drop 4 = .ok (.ifCond .eq 23, 3) := by decide +kernel
theorem dX5_drop_7 : decode cX5_drop 7 = .ok (.iload_n 2, 1) := by decide +kernel
theorem dX5_drop_8 : decode cX5_drop 8 = .ok (.invokestatic 25, 3) := by decide +kernel
theorem dX5_drop_11 : decode cX5_drop 11 = .ok (.ifCond .eq 16, 3) := by decide +kernel
theorem dX5_drop_14 : decode cX5_drop 14 = .ok (.aload_n 0, 1) := by decide +kernel
theorem dX5_drop_15 : decode cX5_drop 15 = .ok (.getfield 11, 3) := by decide +kernel
theorem dX5_drop_18 : decode cX5_drop 18 = .ok (.iload_n 2, 1) := by decide +kernel
theorem dX5_drop_19 : decode cX5_drop 19 = .ok (.laload, 1) := by decide +kernel
theorem dX5_drop_20 : decode cX5_drop 20 = .ok (.iload_n 1, 1) := by decide +kernel
theorem dX5_drop_21 : decode cX5_drop 21 = .ok (.invokestatic 31, 3) := by decide +kernel
theorem dX5_drop_24 : decode cX5_drop 24 = .ok (.ifCond .ne 5, 3) := by decide +kernel
theorem dX5_drop_27 : decode cX5_drop 27 = .ok (.iconst 0, 1) := by decide +kernel
theorem dX5_drop_28 : decode cX5_drop 28 = .ok (.ireturn, 1) := by decide +kernel
theorem dX5_drop_29 : decode cX5_drop 29 = .ok (.aload_n 0, 1) := by decide +kernel
theorem dX5_drop_30 : decode cX5_drop 30 = .ok (.getfield 11, 3) := by decide +kernel
theorem dX5_drop_33 : decode cX5_drop 33 = .ok (.iload_n 2, 1) := by decide +kernel
theorem dX5_drop_34 : decode cX5_drop 34 = .ok (.dup2, 1) := by decide +kernel
theorem dX5_drop_35 : decode cX5_drop 35 = .ok (.laload, 1) := by decide +kernel
theorem dX5_drop_36 : decode cX5_drop 36 = .ok (.lconst 1, 1) := by decide +kernel
theorem dX5_drop_37 : decode cX5_drop 37 = .ok (.iload_n 1, 1) := by decide +kernel
theorem dX5_drop_38 : decode cX5_drop 38 = .ok (.lshl, 1) := by decide +kernel
theorem dX5_drop_39 : decode cX5_drop 39 = .ok (.ldc2_w 35, 3) := by decide +kernel
theorem dX5_drop_42 : decode cX5_drop 42 = .ok (.lxor, 1) := by decide +kernel
theorem dX5_drop_43 : decode cX5_drop 43 = .ok (.land, 1) := by decide +kernel
theorem dX5_drop_44 : decode cX5_drop 44 = .ok (.lastore, 1) := by decide +kernel
theorem dX5_drop_45 : decode cX5_drop 45 = .ok (.iconst 1, 1) := by decide +kernel
theorem dX5_drop_46 : decode cX5_drop 46 = .ok (.ireturn, 1) := by decide +kernel
theorem dX5_size_0 : decode cX5_size 0 = .ok (.iconst 0, 1) := by decide +kernel
theorem dX5_size_1 : decode cX5_size 1 = .ok (.istore_n 1, 1) := by decide +kernel
theorem dX5_size_2 : decode cX5_size 2 = .ok (.iconst 0, 1) := by decide +kernel
theorem dX5_size_3 : decode cX5_size 3 = .ok (.istore_n 2, 1) := by decide +kernel
theorem dX5_size_4 : decode cX5_size 4 = .ok (.iload_n 2, 1) := by decide +kernel
theorem dX5_size_5 : decode cX5_size 5 = .ok (.iconst 5, 1) := by decide +kernel
theorem dX5_size_6 : decode cX5_size 6 = .ok (.if_icmp .ge 21, 3) := by decide +kernel
theorem dX5_size_9 : decode cX5_size 9 = .ok (.iload_n 1, 1) := by decide +kernel
theorem dX5_size_10 : decode cX5_size 10 = .ok (.aload_n 0, 1) := by decide +kernel
theorem dX5_size_11 : decode cX5_size 11 = .ok (.getfield 11, 3) := by decide +kernel
theorem dX5_size_14 : decode cX5_size 14 = .ok (.iload_n 2, 1) := by decide +kernel
theorem dX5_size_15 : decode cX5_size 15 = .ok (.laload, 1) := by decide +kernel
theorem dX5_size_16 : decode cX5_size 16 = .ok (.invokestatic 37, 3) := by decide +kernel
theorem dX5_size_19 : decode cX5_size 19 = .ok (.iadd, 1) := by decide +kernel
theorem dX5_size_20 : decode cX5_size 20 = .ok (.istore_n 1, 1) := by decide +kernel
theorem dX5_size_21 : decode cX5_size 21 = .ok (.iinc 2 1, 3) := by decide +kernel
theorem dX5_size_24 : decode cX5_size 24 = .ok (.goto (-20), 3) := by decide +kernel
theorem dX5_size_27 : decode cX5_size 27 = .ok (.iload_n 1, 1) := by decide +kernel
theorem dX5_size_28 : decode cX5_size 28 = .ok (.ireturn, 1) := by decide +kernel
theorem dX5_nearestOf_0 : decode cX5_nearestOf 0 = .ok (.iload_n 2, 1) := by decide +kernel
theorem dX5_nearestOf_1 : decode cX5_nearestOf 1 = .ok (.invokestatic 25, 3) := by decide +kernel
theorem dX5_nearestOf_4 : decode cX5_nearestOf 4 = .ok (.ifCond .ne 5, 3) := by decide +kernel
theorem dX5_nearestOf_7 : decode cX5_nearestOf 7 = .ok (.lconst 0, 1) := by decide +kernel
theorem dX5_nearestOf_8 : decode cX5_nearestOf 8 = .ok (.lreturn, 1) := by decide +kernel
theorem dX5_nearestOf_9 : decode cX5_nearestOf 9 = .ok (.iload_n 1, 1) := by decide +kernel
theorem dX5_nearestOf_10 : decode cX5_nearestOf 10 = .ok (.istore_n 3, 1) := by decide +kernel
theorem dX5_nearestOf_11 : decode cX5_nearestOf 11 = .ok (.iconst 0, 1) := by decide +kernel
theorem dX5_nearestOf_12 : decode cX5_nearestOf 12 = .ok (.istore 4, 2) := by decide +kernel
theorem dX5_nearestOf_14 : decode cX5_nearestOf 14 = .ok (.iload 4, 2) := by decide +kernel
theorem dX5_nearestOf_16 : decode cX5_nearestOf 16 = .ok (.bipush 24, 2) := by decide +kernel
theorem dX5_nearestOf_18 : decode cX5_nearestOf 18 = .ok (.if_icmp .ge 64, 3) := by decide +kernel
theorem dX5_nearestOf_21 : decode cX5_nearestOf 21 = .ok (.iload_n 3, 1) := by decide +kernel
theorem dX5_nearestOf_22 : decode cX5_nearestOf 22 = .ok (.invokestatic 43, 3) := by decide +kernel
theorem dX5_nearestOf_25 : decode cX5_nearestOf 25 = .ok (.ifCond .eq 57, 3) := by decide +kernel
theorem dX5_nearestOf_28 : decode cX5_nearestOf 28 = .ok (.aload_n 0, 1) := by decide +kernel
theorem dX5_nearestOf_29 : decode cX5_nearestOf 29 = .ok (.getfield 11, 3) := by decide +kernel
theorem dX5_nearestOf_32 : decode cX5_nearestOf 32 = .ok (.iload_n 2, 1) := by decide +kernel
theorem dX5_nearestOf_33 : decode cX5_nearestOf 33 = .ok (.laload, 1) := by decide +kernel
theorem dX5_nearestOf_34 : decode cX5_nearestOf 34 = .ok (.iload_n 3, 1) := by decide +kernel
theorem dX5_nearestOf_35 : decode cX5_nearestOf 35 = .ok (.invokestatic 31, 3) := by decide +kernel
theorem dX5_nearestOf_38 : decode cX5_nearestOf 38 = .ok (.ifCond .eq 7, 3) := by decide +kernel
theorem dX5_nearestOf_41 : decode cX5_nearestOf 41 = .ok (.lconst 1, 1) := by decide +kernel
theorem dX5_nearestOf_42 : decode cX5_nearestOf 42 = .ok (.iload_n 3, 1) := by decide +kernel
theorem dX5_nearestOf_43 : decode cX5_nearestOf 43 = .ok (.lshl, 1) := by decide +kernel
theorem dX5_nearestOf_44 : decode cX5_nearestOf 44 = .ok (.lreturn, 1) := by decide +kernel
theorem dX5_nearestOf_45 : decode cX5_nearestOf 45 = .ok (.iload_n 3, 1) := by decide +kernel
theorem dX5_nearestOf_46 : decode cX5_nearestOf 46 = .ok (.invokestatic 46, 3) := by decide +kernel
theorem dX5_nearestOf_49 : decode cX5_nearestOf 49 = .ok (.aload_n 0, 1) := by decide +kernel
theorem dX5_nearestOf_50 : decode cX5_nearestOf 50 = .ok (.getfield 11, 3) := by decide +kernel
theorem dX5_nearestOf_53 : decode cX5_nearestOf 53 = .ok (.iload_n 2, 1) := by decide +kernel
theorem dX5_nearestOf_54 : decode cX5_nearestOf 54 = .ok (.laload, 1) := by decide +kernel
theorem dX5_nearestOf_55 : decode cX5_nearestOf 55 = .ok (.land, 1) := by decide +kernel
theorem dX5_nearestOf_56 : decode cX5_nearestOf 56 = .ok (.lstore 5, 2) := by decide +kernel
theorem dX5_nearestOf_58 : decode cX5_nearestOf 58 = .ok (.lload 5, 2) := by decide +kernel
theorem dX5_nearestOf_60 : decode cX5_nearestOf 60 = .ok (.lconst 0, 1) := by decide +kernel
theorem dX5_nearestOf_61 : decode cX5_nearestOf 61 = .ok (.lcmp, 1) := by decide +kernel
theorem dX5_nearestOf_62 : decode cX5_nearestOf 62 = .ok (.ifCond .eq 9, 3) := by decide +kernel
theorem dX5_nearestOf_65 : decode cX5_nearestOf 65 = .ok (.lload 5, 2) := by decide +kernel
theorem dX5_nearestOf_67 : decode cX5_nearestOf 67 = .ok (.invokestatic 50, 3) := by decide +kernel
theorem dX5_nearestOf_70 : decode cX5_nearestOf 70 = .ok (.lreturn, 1) := by decide +kernel
theorem dX5_nearestOf_71 : decode cX5_nearestOf 71 = .ok (.iload_n 3, 1) := by decide +kernel
theorem dX5_nearestOf_72 : decode cX5_nearestOf 72 = .ok (.invokestatic 54, 3) := by decide +kernel
theorem dX5_nearestOf_75 : decode cX5_nearestOf 75 = .ok (.istore_n 3, 1) := by decide +kernel
theorem dX5_nearestOf_76 : decode cX5_nearestOf 76 = .ok (.iinc 4 1, 3) := by decide +kernel
theorem dX5_nearestOf_79 : decode cX5_nearestOf 79 = .ok (.goto (-65), 3) := by decide +kernel
theorem dX5_nearestOf_82 : decode cX5_nearestOf 82 = .ok (.lconst 0, 1) := by decide +kernel
theorem dX5_nearestOf_83 : decode cX5_nearestOf 83 = .ok (.lreturn, 1) := by decide +kernel
theorem dX5_answer_0 : decode cX5_answer 0 = .ok (.iload_n 2, 1) := by decide +kernel
theorem dX5_answer_1 : decode cX5_answer 1 = .ok (.invokestatic 25, 3) := by decide +kernel
theorem dX5_answer_4 : decode cX5_answer 4 = .ok (.ifCond .ne 5, 3) := by decide +kernel
theorem dX5_answer_7 : decode cX5_answer 7 = .ok (.iconst (-1), 1) := by decide +kernel
theorem dX5_answer_8 : decode cX5_answer 8 = .ok (.ireturn, 1) := by decide +kernel
theorem dX5_answer_9 : decode cX5_answer 9 = .ok (.aload_n 0, 1) := by decide +kernel
theorem dX5_answer_10 : decode cX5_answer 10 = .ok (.iload_n 1, 1) := by decide +kernel
theorem dX5_answer_11 : decode cX5_answer 11 = .ok (.iload_n 2, 1) := by decide +kernel
theorem dX5_answer_12 : decode cX5_answer 12 = .ok (.invokevirtual 58, 3) := by decide +kernel
theorem dX5_answer_15 : decode cX5_answer 15 = .ok (.lstore_n 3, 1) := by decide +kernel
theorem dX5_answer_16 : decode cX5_answer 16 = .ok (.iconst (-1), 1) := by decide +kernel
theorem dX5_answer_17 : decode cX5_answer 17 = .ok (.istore 5, 2) := by decide +kernel
theorem dX5_answer_19 : decode cX5_answer 19 = .ok (.iconst 0, 1) := by decide +kernel
theorem dX5_answer_20 : decode cX5_answer 20 = .ok (.istore 6, 2) := by decide +kernel
theorem dX5_answer_22 : decode cX5_answer 22 = .ok (.iload 6, 2) := by decide +kernel
theorem dX5_answer_24 : decode cX5_answer 24 = .ok (.bipush 49, 2) := by decide +kernel
theorem dX5_answer_26 : decode cX5_answer 26 = .ok (.if_icmp .ge 52, 3) := by decide +kernel
theorem dX5_answer_29 : decode cX5_answer 29 = .ok (.lload_n 3, 1) := by decide +kernel
theorem dX5_answer_30 : decode cX5_answer 30 = .ok (.iload 6, 2) := by decide +kernel
theorem dX5_answer_32 : decode cX5_answer 32 = .ok (.invokestatic 31, 3) := by decide +kernel
theorem dX5_answer_35 : decode cX5_answer 35 = .ok (.ifCond .eq 37, 3) := by decide +kernel
theorem dX5_answer_38 : decode cX5_answer 38 = .ok (.aload_n 0, 1) := by decide +kernel
theorem dX5_answer_39 : decode cX5_answer 39 = .ok (.getfield 17, 3) := by decide +kernel
theorem dX5_answer_42 : decode cX5_answer 42 = .ok (.iload_n 2, 1) := by decide +kernel
theorem dX5_answer_43 : decode cX5_answer 43 = .ok (.bipush 49, 2) := by decide +kernel
theorem dX5_answer_45 : decode cX5_answer 45 = .ok (.imul, 1) := by decide +kernel
theorem dX5_answer_46 : decode cX5_answer 46 = .ok (.iload 6, 2) := by decide +kernel
theorem dX5_answer_48 : decode cX5_answer 48 = .ok (.iadd, 1) := by decide +kernel
theorem dX5_answer_49 : decode cX5_answer 49 = .ok (.iaload, 1) := by decide +kernel
theorem dX5_answer_50 : decode cX5_answer 50 = .ok (.istore 7, 2) := by decide +kernel
theorem dX5_answer_52 : decode cX5_answer 52 = .ok (.iload 5, 2) := by decide +kernel
theorem dX5_answer_54 : decode cX5_answer 54 = .ok (.iconst (-1), 1) := by decide +kernel
theorem dX5_answer_55 : decode cX5_answer 55 = .ok (.if_icmp .eq 13, 3) := by decide +kernel
theorem dX5_answer_58 : decode cX5_answer 58 = .ok (.iload 5, 2) := by decide +kernel
theorem dX5_answer_60 : decode cX5_answer 60 = .ok (.iload 7, 2) := by decide +kernel
theorem dX5_answer_62 : decode cX5_answer 62 = .ok (.if_icmp .eq 6, 3) := by decide +kernel
theorem dX5_answer_65 : decode cX5_answer 65 = .ok (.bipush (-2), 2) := by decide +kernel
theorem dX5_answer_67 : decode cX5_answer 67 = .ok (.ireturn, 1) := by decide +kernel
theorem dX5_answer_68 : decode cX5_answer 68 = .ok (.iload 7, 2) := by decide +kernel
theorem dX5_answer_70 : decode cX5_answer 70 = .ok (.istore 5, 2) := by decide +kernel
theorem dX5_answer_72 : decode cX5_answer 72 = .ok (.iinc 6 1, 3) := by decide +kernel
theorem dX5_answer_75 : decode cX5_answer 75 = .ok (.goto (-53), 3) := by decide +kernel
theorem dX5_answer_78 : decode cX5_answer 78 = .ok (.iload 5, 2) := by decide +kernel
theorem dX5_answer_80 : decode cX5_answer 80 = .ok (.ireturn, 1) := by decide +kernel
theorem dX6_init_0 : decode cX6_init 0 = .ok (.aload_n 0, 1) := by decide +kernel
theorem dX6_init_1 : decode cX6_init 1 = .ok (.invokespecial 1, 3) := by decide +kernel
theorem dX6_init_4 : decode cX6_init 4 = .ok (.aload_n 0, 1) := by decide +kernel
theorem dX6_init_5 : decode cX6_init 5 = .ok (.iload_n 1, 1) := by decide +kernel
theorem dX6_init_6 : decode cX6_init 6 = .ok (.putfield 7, 3) := by decide +kernel
theorem dX6_init_9 : decode cX6_init 9 = .ok (.aload_n 0, 1) := by decide +kernel
theorem dX6_init_10 : decode cX6_init 10 = .ok (.iconst 0, 1) := by decide +kernel
theorem dX6_init_11 : decode cX6_init 11 = .ok (.putfield 13, 3) := by decide +kernel
theorem dX6_init_14 : decode cX6_init 14 = .ok (.aload_n 0, 1) := by decide +kernel
theorem dX6_init_15 : decode cX6_init 15 = .ok (.iconst 0, 1) := by decide +kernel
theorem dX6_init_16 : decode cX6_init 16 = .ok (.putfield 16, 3) := by decide +kernel
theorem dX6_init_19 : decode cX6_init 19 = .ok (.aload_n 0, 1) := by decide +kernel
theorem dX6_init_20 : decode cX6_init 20 = .ok (.iconst 0, 1) := by decide +kernel
theorem dX6_init_21 : decode cX6_init 21 = .ok (.putfield 19, 3) := by decide +kernel
theorem dX6_init_24 : decode cX6_init 24 = .ok (.aload_n 0, 1) := by decide +kernel
theorem dX6_init_25 : decode cX6_init 25 = .ok (.iconst 0, 1) := by decide +kernel
theorem dX6_init_26 : decode cX6_init 26 = .ok (.putfield 22, 3) := by decide +kernel
theorem dX6_init_29 : decode cX6_init 29 = .ok (.return_, 1) := by decide +kernel
theorem dX6_hasRoomFor_0 : decode cX6_hasRoomFor 0 = .ok (.aload_n 0, 1) := by decide +kernel
theorem dX6_hasRoomFor_1 : decode cX6_hasRoomFor 1 = .ok (.getfield 22, 3) := by decide +kernel
theorem dX6_hasRoomFor_4 : decode cX6_hasRoomFor 4 = .ok (.aload_n 1, 1) := by decide +kernel
theorem dX6_hasRoomFor_5 : decode cX6_hasRoomFor 5 = .ok (.getfield 25, 3) := by decide +kernel
theorem dX6_hasRoomFor_8 : decode cX6_hasRoomFor 8 = .ok (.iadd, 1) := by decide +kernel
theorem dX6_hasRoomFor_9 : decode cX6_hasRoomFor 9 = .ok (.aload_n 0, 1) := by decide +kernel
theorem dX6_hasRoomFor_10 : decode cX6_hasRoomFor 10 = .ok (.getfield 16, 3) := by decide +kernel
theorem dX6_hasRoomFor_13 : decode cX6_hasRoomFor 13 = .ok (.if_icmp .gt 7, 3) := by decide +kernel
theorem dX6_hasRoomFor_16 : decode cX6_hasRoomFor 16 = .ok (.iconst 1, 1) := by decide +kernel
theorem dX6_hasRoomFor_17 : decode cX6_hasRoomFor 17 = .ok (.goto 4, 3) := by decide +kernel
theorem dX6_hasRoomFor_20 : decode cX6_hasRoomFor 20 = .ok (.iconst 0, 1) := by decide +kernel
theorem dX6_hasRoomFor_21 : decode cX6_hasRoomFor 21 = .ok (.ireturn, 1) := by decide +kernel
theorem dX6_add_0 : decode cX6_add 0 = .ok (.aload_n 0, 1) := by decide +kernel
theorem dX6_add_1 : decode cX6_add 1 = .ok (.dup, 1) := by decide +kernel
theorem dX6_add_2 : decode cX6_add 2 = .ok (.getfield 19, 3) := by decide +kernel
theorem dX6_add_5 : decode cX6_add 5 = .ok (.iconst 1, 1) := by decide +kernel
theorem dX6_add_6 : decode cX6_add 6 = .ok (.iadd, 1) := by decide +kernel
theorem dX6_add_7 : decode cX6_add 7 = .ok (.putfield 19, 3) := by decide +kernel
theorem dX6_add_10 : decode cX6_add 10 = .ok (.aload_n 0, 1) := by decide +kernel
theorem dX6_add_11 : decode cX6_add 11 = .ok (.dup, 1) := by decide +kernel
theorem dX6_add_12 : decode cX6_add 12 = .ok (.getfield 22, 3) := by decide +kernel
theorem dX6_add_15 : decode cX6_add 15 = .ok (.aload_n 1, 1) := by decide +kernel
theorem dX6_add_16 : decode cX6_add 16 = .ok (.getfield 25, 3) := by decide +kernel
theorem dX6_add_19 : decode cX6_add 19 = .ok (.iadd, 1) := by decide +kernel
theorem dX6_add_20 : decode cX6_add 20 = .ok (.putfield 22, 3) := by decide +kernel
theorem dX6_add_23 : decode cX6_add 23 = .ok (.return_, 1) := by decide +kernel
theorem dX6_remove_0 : decode cX6_remove 0 = .ok (.aload_n 0, 1) := by decide +kernel
theorem dX6_remove_1 : decode cX6_remove 1 = .ok (.dup, 1) := by decide +kernel
theorem dX6_remove_2 : decode cX6_remove 2 = .ok (.getfield 19, 3) := by decide +kernel
theorem dX6_remove_5 : decode cX6_remove 5 = .ok (.iconst 1, 1) := by decide +kernel
theorem dX6_remove_6 : decode cX6_remove 6 = .ok (.isub, 1) := by decide +kernel
theorem dX6_remove_7 : decode cX6_remove 7 = .ok (.putfield 19, 3) := by decide +kernel
theorem dX6_remove_10 : decode cX6_remove 10 = .ok (.aload_n 0, 1) := by decide +kernel
theorem dX6_remove_11 : decode cX6_remove 11 = .ok (.dup, 1) := by decide +kernel
theorem dX6_remove_12 : decode cX6_remove 12 = .ok (.getfield 22, 3) := by decide +kernel
theorem dX6_remove_15 : decode cX6_remove 15 = .ok (.aload_n 1, 1) := by decide +kernel
theorem dX6_remove_16 : decode cX6_remove 16 = .ok (.getfield 25, 3) := by decide +kernel
theorem dX6_remove_19 : decode cX6_remove 19 = .ok (.isub, 1) := by decide +kernel
theorem dX6_remove_20 : decode cX6_remove 20 = .ok (.putfield 22, 3) := by decide +kernel
theorem dX6_remove_23 : decode cX6_remove 23 = .ok (.return_, 1) := by decide +kernel
theorem dX7_init_0 : decode cX7_init 0 = .ok (.aload_n 0, 1) := by decide +kernel
theorem dX7_init_1 : decode cX7_init 1 = .ok (.invokespecial 3, 3) := by decide +kernel
theorem dX7_init_4 : decode cX7_init 4 = .ok (.aload_n 0, 1) := by decide +kernel
theorem dX7_init_5 : decode cX7_init 5 = .ok (.iload_n 1, 1) := by decide +kernel
theorem dX7_init_6 : decode cX7_init 6 = .ok (.putfield 9, 3) := by decide +kernel
theorem dX7_init_9 : decode cX7_init 9 = .ok (.aload_n 0, 1) := by decide +kernel
theorem dX7_init_10 : decode cX7_init 10 = .ok (.iload_n 2, 1) := by decide +kernel
theorem dX7_init_11 : decode cX7_init 11 = .ok (.putfield 15, 3) := by decide +kernel
theorem dX7_init_14 : decode cX7_init 14 = .ok (.aload_n 0, 1) := by decide +kernel
theorem dX7_init_15 : decode cX7_init 15 = .ok (.iload_n 3, 1) := by decide +kernel
theorem dX7_init_16 : decode cX7_init 16 = .ok (.putfield 18, 3) := by decide +kernel
theorem dX7_init_19 : decode cX7_init 19 = .ok (.aload_n 0, 1) := by decide +kernel
theorem dX7_init_20 : decode cX7_init 20 = .ok (.iload 4, 2) := by decide +kernel
theorem dX7_init_22 : decode cX7_init 22 = .ok (.putfield 21, 3) := by decide +kernel
theorem dX7_init_25 : decode cX7_init 25 = .ok (.aload_n 0, 1) := by decide +kernel
theorem dX7_init_26 : decode cX7_init 26 = .ok (.aconst_null, 1) := by decide +kernel
theorem dX7_init_27 : decode cX7_init 27 = .ok (.putfield 24, 3) := by decide +kernel
theorem dX7_init_30 : decode cX7_init 30 = .ok (.aload_n 0, 1) := by decide +kernel
theorem dX7_init_31 : decode cX7_init 31 = .ok (.iconst (-1), 1) := by decide +kernel
theorem dX7_init_32 : decode cX7_init 32 = .ok (.putfield 28, 3) := by decide +kernel
theorem dX7_init_35 : decode cX7_init 35 = .ok (.aload_n 0, 1) := by decide +kernel
theorem dX7_init_36 : decode cX7_init 36 = .ok (.aconst_null, 1) := by decide +kernel
theorem dX7_init_37 : decode cX7_init 37 = .ok (.putfield 31, 3) := by decide +kernel
theorem dX7_init_40 : decode cX7_init 40 = .ok (.aload_n 0, 1) := by decide +kernel
theorem dX7_init_41 : decode cX7_init 41 = .ok (.iconst (-1), 1) := by decide +kernel
theorem dX7_init_42 : decode cX7_init 42 = .ok (.putfield 35, 3) := by decide +kernel
theorem dX7_init_45 : decode cX7_init 45 = .ok (.aload_n 0, 1) := by decide +kernel
theorem dX7_init_46 : decode cX7_init 46 = .ok (.iconst (-1), 1) := by decide +kernel
theorem dX7_init_47 : decode cX7_init 47 = .ok (.putfield 38, 3) := by decide +kernel
theorem dX7_init_50 : decode cX7_init 50 = .ok (.aload_n 0, 1) := by decide +kernel
theorem dX7_init_51 : decode cX7_init 51 = .ok (.iconst (-1), 1) := by decide +kernel
theorem dX7_init_52 : decode cX7_init 52 = .ok (.putfield 41, 3) := by decide +kernel
theorem dX7_init_55 : decode cX7_init 55 = .ok (.aload_n 0, 1) := by decide +kernel
theorem dX7_init_56 : decode cX7_init 56 = .ok (.iconst (-1), 1) := by decide +kernel
theorem dX7_init_57 : decode cX7_init 57 = .ok (.putfield 44, 3) := by decide +kernel
theorem dX7_init_60 : decode cX7_init 60 = .ok (.return_, 1) := by decide +kernel
theorem dX7_isMeasure_0 : decode cX7_isMeasure 0 = .ok (.iload_n 0, 1) := by decide +kernel
theorem dX7_isMeasure_1 : decode cX7_isMeasure 1 = .ok (.ifCond .lt 13, 3) := by decide +kernel
theorem dX7_isMeasure_4 : decode cX7_isMeasure 4 = .ok (.iload_n 0, 1) := by decide +kernel
theorem dX7_isMeasure_5 : decode cX7_isMeasure 5 = .ok (.ldc 47, 2) := by decide +kernel
theorem dX7_isMeasure_7 : decode cX7_isMeasure 7 = .ok (.if_icmp .gt 7, 3) := by decide +kernel
theorem dX7_isMeasure_10 : decode cX7_isMeasure 10 = .ok (.iconst 1, 1) := by decide +kernel
theorem dX7_isMeasure_11 : decode cX7_isMeasure 11 = .ok (.goto 4, 3) := by decide +kernel
theorem dX7_isMeasure_14 : decode cX7_isMeasure 14 = .ok (.iconst 0, 1) := by decide +kernel
theorem dX7_isMeasure_15 : decode cX7_isMeasure 15 = .ok (.ireturn, 1) := by decide +kernel
theorem dX7_isLent_0 : decode cX7_isLent 0 = .ok (.aload_n 0, 1) := by decide +kernel
theorem dX7_isLent_1 : decode cX7_isLent 1 = .ok (.getfield 35, 3) := by decide +kernel
theorem dX7_isLent_4 : decode cX7_isLent 4 = .ok (.iconst (-1), 1) := by decide +kernel
theorem dX7_isLent_5 : decode cX7_isLent 5 = .ok (.if_icmp .eq 7, 3) := by decide +kernel
theorem dX7_isLent_8 : decode cX7_isLent 8 = .ok (.iconst 1, 1) := by decide +kernel
theorem dX7_isLent_9 : decode cX7_isLent 9 = .ok (.goto 4, 3) := by decide +kernel
theorem dX7_isLent_12 : decode cX7_isLent 12 = .ok (.iconst 0, 1) := by decide +kernel
theorem dX7_isLent_13 : decode cX7_isLent 13 = .ok (.ireturn, 1) := by decide +kernel
theorem dX7_lendTo_0 : decode cX7_lendTo 0 = .ok (.aload_n 0, 1) := by decide +kernel
theorem dX7_lendTo_1 : decode cX7_lendTo 1 = .ok (.iload_n 1, 1) := by decide +kernel
theorem dX7_lendTo_2 : decode cX7_lendTo 2 = .ok (.putfield 35, 3) := by decide +kernel
theorem dX7_lendTo_5 : decode cX7_lendTo 5 = .ok (.aload_n 0, 1) := by decide +kernel
theorem dX7_lendTo_6 : decode cX7_lendTo 6 = .ok (.iload_n 2, 1) := by decide +kernel
theorem dX7_lendTo_7 : decode cX7_lendTo 7 = .ok (.putfield 38, 3) := by decide +kernel
theorem dX7_lendTo_10 : decode cX7_lendTo 10 = .ok (.aload_n 0, 1) := by decide +kernel
theorem dX7_lendTo_11 : decode cX7_lendTo 11 = .ok (.iload_n 3, 1) := by decide +kernel
theorem dX7_lendTo_12 : decode cX7_lendTo 12 = .ok (.putfield 41, 3) := by decide +kernel
theorem dX7_lendTo_15 : decode cX7_lendTo 15 = .ok (.aload_n 0, 1) := by decide +kernel
theorem dX7_lendTo_16 : decode cX7_lendTo 16 = .ok (.iload 4, 2) := by decide +kernel
theorem dX7_lendTo_18 : decode cX7_lendTo 18 = .ok (.putfield 44, 3) := by decide +kernel
theorem dX7_lendTo_21 : decode cX7_lendTo 21 = .ok (.return_, 1) := by decide +kernel
theorem dX7_endLoan_0 : decode cX7_endLoan 0 = .ok (.aload_n 0, 1) := by decide +kernel
theorem dX7_endLoan_1 : decode cX7_endLoan 1 = .ok (.iconst (-1), 1) := by decide +kernel
theorem dX7_endLoan_2 : decode cX7_endLoan 2 = .ok (.iconst (-1), 1) := by decide +kernel
theorem dX7_endLoan_3 : decode cX7_endLoan 3 = .ok (.iconst (-1), 1) := by decide +kernel
theorem dX7_endLoan_4 : decode cX7_endLoan 4 = .ok (.iconst (-1), 1) := by decide +kernel
theorem dX7_endLoan_5 : decode cX7_endLoan 5 = .ok (.invokevirtual 48, 3) := by decide +kernel
theorem dX7_endLoan_8 : decode cX7_endLoan 8 = .ok (.return_, 1) := by decide +kernel
theorem dX7_lastDay_0 : decode cX7_lastDay 0 = .ok (.aload_n 0, 1) := by decide +kernel
theorem dX7_lastDay_1 : decode cX7_lastDay 1 = .ok (.getfield 38, 3) := by decide +kernel
theorem dX7_lastDay_4 : decode cX7_lastDay 4 = .ok (.aload_n 0, 1) := by decide +kernel
theorem dX7_lastDay_5 : decode cX7_lastDay 5 = .ok (.getfield 41, 3) := by decide +kernel
theorem dX7_lastDay_8 : decode cX7_lastDay 8 = .ok (.iadd, 1) := by decide +kernel
theorem dX7_lastDay_9 : decode cX7_lastDay 9 = .ok (.ireturn, 1) := by decide +kernel
theorem dX7_dueOn_0 : decode cX7_dueOn 0 = .ok (.iconst 0, 1) := by decide +kernel
theorem dX7_dueOn_1 : decode cX7_dueOn 1 = .ok (.iload_n 1, 1) := by decide +kernel
theorem dX7_dueOn_2 : decode cX7_dueOn 2 = .ok (.aload_n 0, 1) := by decide +kernel
theorem dX7_dueOn_3 : decode cX7_dueOn 3 = .ok (.invokevirtual 52, 3) := by decide +kernel
theorem dX7_dueOn_6 : decode cX7_dueOn 6 = .ok (.isub, 1) := by decide +kernel
theorem dX7_dueOn_7 : decode cX7_dueOn 7 = .ok (.invokestatic 56, 3) := by decide +kernel
theorem dX7_dueOn_10 : decode cX7_dueOn 10 = .ok (.istore_n 2, 1) := by decide +kernel
theorem dX7_dueOn_11 : decode cX7_dueOn 11 = .ok (.iload_n 2, 1) := by decide +kernel
theorem dX7_dueOn_12 : decode cX7_dueOn 12 = .ok (.iconst 0, 1) := by decide +kernel
theorem dX7_dueOn_13 : decode cX7_dueOn 13 = .ok (.iload_n 2, 1) := by decide +kernel
theorem dX7_dueOn_14 : decode cX7_dueOn 14 = .ok (.bipush 30, 2) := by decide +kernel
theorem dX7_dueOn_16 : decode cX7_dueOn 16 = .ok (.isub, 1) := by decide +kernel
theorem dX7_dueOn_17 : decode cX7_dueOn 17 = .ok (.invokestatic 56, 3) := by decide +kernel
theorem dX7_dueOn_20 : decode cX7_dueOn 20 = .ok (.iadd, 1) := by decide +kernel
theorem dX7_dueOn_21 : decode cX7_dueOn 21 = .ok (.istore_n 3, 1) := by decide +kernel
theorem dX7_dueOn_22 : decode cX7_dueOn 22 = .ok (.aload_n 0, 1) := by decide +kernel
theorem dX7_dueOn_23 : decode cX7_dueOn 23 = .ok (.getfield 44, 3) := by decide +kernel
theorem dX7_dueOn_26 : decode cX7_dueOn 26 = .ok (.iload_n 3, 1) := by decide +kernel
theorem dX7_dueOn_27 : decode cX7_dueOn 27 = .ok (.bipush 100, 2) := by decide +kernel
theorem dX7_dueOn_29 : decode cX7_dueOn 29 = .ok (.invokestatic 64, 3) := by decide +kernel
theorem dX7_dueOn_32 : decode cX7_dueOn 32 = .ok (.imul, 1) := by decide +kernel
theorem dX7_dueOn_33 : decode cX7_dueOn 33 = .ok (.ireturn, 1) := by decide +kernel
theorem dX8_init_0 : decode cX8_init 0 = .ok (.aload_n 0, 1) := by decide +kernel
theorem dX8_init_1 : decode cX8_init 1 = .ok (.invokespecial 3, 3) := by decide +kernel
theorem dX8_init_4 : decode cX8_init 4 = .ok (.aload_n 0, 1) := by decide +kernel
theorem dX8_init_5 : decode cX8_init 5 = .ok (.sipush 300, 3) := by decide +kernel
theorem dX8_init_8 : decode cX8_init 8 = .ok (.anewarray 11, 3) := by decide +kernel
theorem dX8_init_11 : decode cX8_init 11 = .ok (.putfield 13, 3) := by decide +kernel
theorem dX8_init_14 : decode cX8_init 14 = .ok (.aload_n 0, 1) := by decide +kernel
theorem dX8_init_15 : decode cX8_init 15 = .ok (.sipush 300, 3) := by decide +kernel
theorem dX8_init_18 : decode cX8_init 18 = .ok (.anewarray 11, 3) := by decide +kernel
theorem dX8_init_21 : decode cX8_init 21 = .ok (.putfield 17, 3) := by decide +kernel
theorem dX8_init_24 : decode cX8_init 24 = .ok (.aload_n 0, 1) := by decide +kernel
theorem dX8_init_25 : decode cX8_init 25 = .ok (.iconst 0, 1) := by decide +kernel
theorem dX8_init_26 : decode cX8_init 26 = .ok (.putfield 20, 3) := by decide +kernel
theorem dX8_init_29 : decode cX8_init 29 = .ok (.return_, 1) := by decide +kernel
theorem dX8_at_0 : decode cX8_at 0 = .ok (.iload_n 1, 1) := by decide +kernel
theorem dX8_at_1 : decode cX8_at 1 = .ok (.ifCond .lt 27, 3) := by decide +kernel
theorem dX8_at_4 : decode cX8_at 4 = .ok (.iload_n 1, 1) := by decide +kernel
theorem dX8_at_5 : decode cX8_at 5 = .ok (.aload_n 0, 1) := by decide +kernel
theorem dX8_at_6 : decode cX8_at 6 = .ok (.getfield 20, 3) := by decide +kernel
theorem dX8_at_9 : decode cX8_at 9 = .ok (.if_icmp .ge 19, 3) := by decide +kernel
theorem dX8_at_12 : decode cX8_at 12 = .ok (.iload_n 1, 1) := by decide +kernel
theorem dX8_at_13 : decode cX8_at 13 = .ok (.sipush 300, 3) := by decide +kernel
theorem dX8_at_16 : decode cX8_at 16 = .ok (.if_icmp .ge 12, 3) := by decide +kernel
theorem dX8_at_19 : decode cX8_at 19 = .ok (.aload_n 0, 1) := by decide +kernel
theorem dX8_at_20 : decode cX8_at 20 = .ok (.getfield 13, 3) := by decide +kernel
theorem dX8_at_23 : decode cX8_at 23 = .ok (.iload_n 1, 1) := by decide +kernel
theorem dX8_at_24 : decode cX8_at 24 = .ok (.aaload, 1) := by decide +kernel
theorem dX8_at_25 : decode cX8_at 25 = .ok (.goto 4, 3) := by decide +kernel
theorem dX8_at_28 : decode cX8_at 28 = .ok (.aconst_null, 1) := by decide +kernel
theorem dX8_at_29 : decode cX8_at 29 = .ok (.areturn, 1) := by decide +kernel
theorem dX8_add_0 : decode cX8_add 0 = .ok (.aload_n 0, 1) := by decide +kernel
theorem dX8_add_1 : decode cX8_add 1 = .ok (.getfield 20, 3) := by decide +kernel
theorem dX8_add_4 : decode cX8_add 4 = .ok (.sipush 300, 3) := by decide +kernel
theorem dX8_add_7 : decode cX8_add 7 = .ok (.if_icmp .lt 5, 3) := by decide +kernel
theorem dX8_add_10 : decode cX8_add 10 = .ok (.iconst (-1), 1) := by decide +kernel
theorem dX8_add_11 : decode cX8_add 11 = .ok (.ireturn, 1) := by decide +kernel
theorem dX8_add_12 : decode cX8_add 12 = .ok (.new 11, 3) := by decide +kernel
theorem dX8_add_15 : decode cX8_add 15 = .ok (.dup, 1) := by decide +kernel
theorem dX8_add_16 : decode cX8_add 16 = .ok (.aload_n 0, 1) := by decide +kernel
theorem dX8_add_17 : decode cX8_add 17 = .ok (.getfield 20, 3) := by decide +kernel
theorem dX8_add_20 : decode cX8_add 20 = .ok (.iload_n 1, 1) := by decide +kernel
theorem dX8_add_21 : decode cX8_add 21 = .ok (.iload_n 2, 1) := by decide +kernel
theorem dX8_add_22 : decode cX8_add 22 = .ok (.iload_n 3, 1) := by decide +kernel
theorem dX8_add_23 : decode cX8_add 23 = .ok (.invokespecial 24, 3) := by decide +kernel
theorem dX8_add_26 : decode cX8_add 26 = .ok (.astore 4, 2) := by decide +kernel
theorem dX8_add_28 : decode cX8_add 28 = .ok (.aload_n 0, 1) := by decide +kernel
theorem dX8_add_29 : decode cX8_add 29 = .ok (.getfield 13, 3) := by decide +kernel
theorem dX8_add_32 : decode cX8_add 32 = .ok (.aload_n 0, 1) := by decide +kernel
theorem dX8_add_33 : decode cX8_add 33 = .ok (.getfield 20, 3) := by decide +kernel
theorem dX8_add_36 : decode cX8_add 36 = .ok (.aload 4, 2) := by decide +kernel
theorem dX8_add_38 : decode cX8_add 38 = .ok (.aastore, 1) := by decide +kernel
theorem dX8_add_39 : decode cX8_add 39 = .ok (.aload_n 0, 1) := by decide +kernel
theorem dX8_add_40 : decode cX8_add 40 = .ok (.getfield 20, 3) := by decide +kernel
theorem dX8_add_43 : decode cX8_add 43 = .ok (.istore 5, 2) := by decide +kernel
theorem dX8_add_45 : decode cX8_add 45 = .ok (.iload 5, 2) := by decide +kernel
theorem dX8_add_47 : decode cX8_add 47 = .ok (.ifCond .le 41, 3) := by decide +kernel
theorem dX8_add_50 : decode cX8_add 50 = .ok (.aload_n 0, 1) := by decide +kernel
theorem dX8_add_51 : decode cX8_add 51 = .ok (.getfield 17, 3) := by decide +kernel
theorem dX8_add_54 : decode cX8_add 54 = .ok (.iload 5, 2) := by decide +kernel
theorem dX8_add_56 : decode cX8_add 56 = .ok (.iconst 1, 1) := by decide +kernel
theorem dX8_add_57 : decode cX8_add 57 = .ok (.isub, 1) := by decide +kernel
theorem dX8_add_58 : decode cX8_add 58 = .ok (.aaload, 1) := by decide +kernel
theorem dX8_add_59 : decode cX8_add 59 = .ok (.iload_n 2, 1) := by decide +kernel
theorem dX8_add_60 : decode cX8_add 60 = .ok (.invokestatic 27, 3) := by decide +kernel
theorem dX8_add_63 : decode cX8_add 63 = .ok (.ifCond .eq 25, 3) := by decide +kernel
theorem dX8_add_66 : decode cX8_add 66 = .ok (.aload_n 0, 1) := by decide +kernel
theorem dX8_add_67 : decode cX8_add 67 = .ok (.getfield 17, 3) := by decide +kernel
theorem dX8_add_70 : decode cX8_add 70 = .ok (.iload 5, 2) := by decide +kernel
theorem dX8_add_72 : decode cX8_add 72 = .ok (.aload_n 0, 1) := by decide +kernel
theorem dX8_add_73 : decode cX8_add 73 = .ok (.getfield 17, 3) := by decide +kernel
theorem dX8_add_76 : decode cX8_add 76 = .ok (.iload 5, 2) := by decide +kernel
theorem dX8_add_78 : decode cX8_add 78 = .ok (.iconst 1, 1) := by decide +kernel
theorem dX8_add_79 : decode cX8_add 79 = .ok (.isub, 1) := by decide +kernel
theorem dX8_add_80 : decode cX8_add 80 = .ok (.aaload, 1) := by decide +kernel
theorem dX8_add_81 : decode cX8_add 81 = .ok (.aastore, 1) := by decide +kernel
theorem dX8_add_82 : decode cX8_add 82 = .ok (.iinc 5 (-1), 3) := by decide +kernel
theorem dX8_add_85 : decode cX8_add 85 = .ok (.goto (-40), 3) := by decide +kernel
theorem dX8_add_88 : decode cX8_add 88 = .ok (.aload_n 0, 1) := by decide +kernel
theorem dX8_add_89 : decode cX8_add 89 = .ok (.getfield 17, 3) := by decide +kernel
theorem dX8_add_92 : decode cX8_add 92 = .ok (.iload 5, 2) := by decide +kernel
theorem dX8_add_94 : decode cX8_add 94 = .ok (.aload 4, 2) := by decide +kernel
theorem dX8_add_96 : decode cX8_add 96 = .ok (.aastore, 1) := by decide +kernel
theorem dX8_add_97 : decode cX8_add 97 = .ok (.aload_n 0, 1) := by decide +kernel
theorem dX8_add_98 : decode cX8_add 98 = .ok (.dup, 1) := by decide +kernel
theorem dX8_add_99 : decode cX8_add 99 = .ok (.getfield 20, 3) := by decide +kernel
theorem dX8_add_102 : decode cX8_add 102 = .ok (.iconst 1, 1) := by decide +kernel
theorem dX8_add_103 : decode cX8_add 103 = .ok (.iadd, 1) := by decide +kernel
theorem dX8_add_104 : decode cX8_add 104 = .ok (.putfield 20, 3) := by decide +kernel
theorem dX8_add_107 : decode cX8_add 107 = .ok (.aload 4, 2) := by decide +kernel
theorem dX8_add_109 : decode cX8_add 109 = .ok (.getfield 31, 3) := by decide +kernel
theorem dX8_add_112 : decode cX8_add 112 = .ok (.ireturn, 1) := by decide +kernel
theorem dX8_isLonger_0 : decode cX8_isLonger 0 = .ok (.aload_n 0, 1) := by decide +kernel
theorem dX8_isLonger_1 : decode cX8_isLonger 1 = .ok (.ifnull 15, 3) := by decide +kernel
theorem dX8_isLonger_4 : decode cX8_isLonger 4 = .ok (.aload_n 0, 1) := by decide +kernel
theorem dX8_isLonger_5 : decode cX8_isLonger 5 = .ok (.getfield 34, 3) := by decide +kernel
theorem dX8_isLonger_8 : decode cX8_isLonger 8 = .ok (.iload_n 1, 1) := by decide +kernel
theorem dX8_isLonger_9 : decode cX8_isLonger 9 = .ok (.if_icmp .le 7, 3) := by decide +kernel
theorem dX8_isLonger_12 : decode cX8_isLonger 12 = .ok (.iconst 1, 1) := by decide +kernel
theorem dX8_isLonger_13 : decode cX8_isLonger 13 = .ok (.goto 4, 3) := by decide +kernel
theorem dX8_isLonger_16 : decode cX8_isLonger 16 = .ok (.iconst 0, 1) := by decide +kernel
theorem dX8_isLonger_17 : decode cX8_isLonger 17 = .ok (.ireturn, 1) := by decide +kernel
theorem dX8_countOf_0 : decode cX8_countOf 0 = .ok (.iconst 0, 1) := by decide +kernel
theorem dX8_countOf_1 : decode cX8_countOf 1 = .ok (.istore 4, 2) := by decide +kernel
theorem dX8_countOf_3 : decode cX8_countOf 3 = .ok (.iconst 0, 1) := by decide +kernel
theorem dX8_countOf_4 : decode cX8_countOf 4 = .ok (.istore 5, 2) := by decide +kernel
theorem dX8_countOf_6 : decode cX8_countOf 6 = .ok (.iload 5, 2) := by decide +kernel
theorem dX8_countOf_8 : decode cX8_countOf 8 = .ok (.aload_n 0, 1) := by decide +kernel
theorem dX8_countOf_9 : decode cX8_countOf 9 = .ok (.getfield 20, 3) := by decide +kernel
theorem dX8_countOf_12 : decode cX8_countOf 12 = .ok (.if_icmp .ge 64, 3) := by decide +kernel
theorem dX8_countOf_15 : decode cX8_countOf 15 = .ok (.iload 5, 2) := by decide +kernel
theorem dX8_countOf_17 : decode cX8_countOf 17 = .ok (.sipush 300, 3) := by decide +kernel
theorem dX8_countOf_20 : decode cX8_countOf 20 = .ok (.if_icmp .ge 56, 3) := by decide +kernel
theorem dX8_countOf_23 : decode cX8_countOf 23 = .ok (.aload_n 0, 1) := by decide +kernel
theorem dX8_countOf_24 : decode cX8_countOf 24 = .ok (.getfield 13, 3) := by decide +kernel
theorem dX8_countOf_27 : decode cX8_countOf 27 = .ok (.iload 5, 2) := by decide +kernel
theorem dX8_countOf_29 : decode cX8_countOf 29 = .ok (.aaload, 1) := by decide +kernel
theorem dX8_countOf_30 : decode cX8_countOf 30 = .ok (.astore 6, 2) := by decide +kernel
theorem dX8_countOf_32 : decode cX8_countOf 32 = .ok (.aload 6, 2) := by decide +kernel
theorem dX8_countOf_34 : decode cX8_countOf 34 = .ok (.ifnull 36, 3) := by decide +kernel
theorem dX8_countOf_37 : decode cX8_countOf 37 = .ok (.aload 6, 2) := by decide +kernel
theorem dX8_countOf_39 : decode cX8_countOf 39 = .ok (.getfield 34, 3) := by decide +kernel
theorem dX8_countOf_42 : decode cX8_countOf 42 = .ok (.iload_n 2, 1) := by decide +kernel
theorem dX8_countOf_43 : decode cX8_countOf 43 = .ok (.if_icmp .lt 27, 3) := by decide +kernel
theorem dX8_countOf_46 : decode cX8_countOf 46 = .ok (.aload 6, 2) := by decide +kernel
theorem dX8_countOf_48 : decode cX8_countOf 48 = .ok (.getfield 34, 3) := by decide +kernel
theorem dX8_countOf_51 : decode cX8_countOf 51 = .ok (.iload_n 3, 1) := by decide +kernel
theorem dX8_countOf_52 : decode cX8_countOf 52 = .ok (.if_icmp .gt 18, 3) := by decide +kernel
theorem dX8_countOf_55 : decode cX8_countOf 55 = .ok (.aload 6, 2) := by decide +kernel
theorem dX8_countOf_57 : decode cX8_countOf 57 = .ok (.getfield 37, 3) := by decide +kernel
theorem dX8_countOf_60 : decode cX8_countOf 60 = .ok (.iload_n 1, 1) := by decide +kernel
theorem dX8_countOf_61 : decode cX8_countOf 61 = .ok (.invokestatic 40, 3) := by decide +kernel
theorem dX8_countOf_64 : decode cX8_countOf 64 = .ok (.ifCond .eq 6, 3) := by decide +kernel
theorem dX8_countOf_67 : decode cX8_countOf 67 = .ok (.iinc 4 1, 3) := by decide +kernel
theorem dX8_countOf_70 : decode cX8_countOf 70 = .ok (.iinc 5 1, 3) := by decide +kernel
theorem dX8_countOf_73 : decode cX8_countOf 73 = .ok (.goto (-67), 3) := by decide +kernel
theorem dX8_countOf_76 : decode cX8_countOf 76 = .ok (.iload 4, 2) := by decide +kernel
theorem dX8_countOf_78 : decode cX8_countOf 78 = .ok (.ireturn, 1) := by decide +kernel
theorem dX8_numberOf_0 : decode cX8_numberOf 0 = .ok (.iconst 0, 1) := by decide +kernel
theorem dX8_numberOf_1 : decode cX8_numberOf 1 = .ok (.istore_n 3, 1) := by decide +kernel
theorem dX8_numberOf_2 : decode cX8_numberOf 2 = .ok (.iconst 0, 1) := by decide +kernel
theorem dX8_numberOf_3 : decode cX8_numberOf 3 = .ok (.istore 4, 2) := by decide +kernel
theorem dX8_numberOf_5 : decode cX8_numberOf 5 = .ok (.iload 4, 2) := by decide +kernel
theorem dX8_numberOf_7 : decode cX8_numberOf 7 = .ok (.aload_n 0, 1) := by decide +kernel
theorem dX8_numberOf_8 : decode cX8_numberOf 8 = .ok (.getfield 20, 3) := by decide +kernel
theorem dX8_numberOf_11 : decode cX8_numberOf 11 = .ok (.if_icmp .ge 57, 3) := by decide +kernel
theorem dX8_numberOf_14 : decode cX8_numberOf 14 = .ok (.iload 4, 2) := by decide +kernel
theorem dX8_numberOf_16 : decode cX8_numberOf 16 = .ok (.sipush 300, 3) := by decide +kernel
theorem dX8_numberOf_19 : decode cX8_numberOf 19 = .ok (.if_icmp .ge 49, 3) := by decide +kernel
theorem dX8_numberOf_22 : decode cX8_numberOf 22 = .ok (.aload_n 0, 1) := by decide +kernel
theorem dX8_numberOf_23 : decode cX8_numberOf 23 = .ok (.getfield 17, 3) := by decide +kernel
theorem dX8_numberOf_26 : decode cX8_numberOf 26 = .ok (.iload 4, 2) := by decide +kernel
theorem dX8_numberOf_28 : decode cX8_numberOf 28 = .ok (.aaload, 1) := by decide +kernel
theorem dX8_numberOf_29 : decode cX8_numberOf 29 = .ok (.astore 5, 2) := by decide +kernel
theorem dX8_numberOf_31 : decode cX8_numberOf 31 = .ok (.aload 5, 2) := by decide +kernel
theorem dX8_numberOf_33 : decode cX8_numberOf 33 = .ok (.ifnull 29, 3) := by decide +kernel
theorem dX8_numberOf_36 : decode cX8_numberOf 36 = .ok (.aload 5, 2) := by decide +kernel
theorem dX8_numberOf_38 : decode cX8_numberOf 38 = .ok (.getfield 37, 3) := by decide +kernel
theorem dX8_numberOf_41 : decode cX8_numberOf 41 = .ok (.iload_n 1, 1) := by decide +kernel
theorem dX8_numberOf_42 : decode cX8_numberOf 42 = .ok (.invokestatic 40, 3) := by decide +kernel
theorem dX8_numberOf_45 : decode cX8_numberOf 45 = .ok (.ifCond .eq 17, 3) := by decide +kernel
theorem dX8_numberOf_48 : decode cX8_numberOf 48 = .ok (.iload_n 3, 1) := by decide +kernel
theorem dX8_numberOf_49 : decode cX8_numberOf 49 = .ok (.iload_n 2, 1) := by decide +kernel
theorem dX8_numberOf_50 : decode cX8_numberOf 50 = .ok (.if_icmp .ne 9, 3) := by decide +kernel
theorem dX8_numberOf_53 : decode cX8_numberOf 53 = .ok (.aload 5, 2) := by decide +kernel
theorem dX8_numberOf_55 : decode cX8_numberOf 55 = .ok (.getfield 31, 3) := by decide +kernel
theorem dX8_numberOf_58 : decode cX8_numberOf 58 = .ok (.ireturn, 1) := by decide +kernel
theorem dX8_numberOf_59 : decode cX8_numberOf 59 = .ok (.iinc 3 1, 3) := by decide +kernel
theorem dX8_numberOf_62 : decode cX8_numberOf 62 = .ok (.iinc 4 1, 3) := by decide +kernel
theorem dX8_numberOf_65 : decode cX8_numberOf 65 = .ok (.goto (-60), 3) := by decide +kernel
theorem dX8_numberOf_68 : decode cX8_numberOf 68 = .ok (.iconst (-1), 1) := by decide +kernel
theorem dX8_numberOf_69 : decode cX8_numberOf 69 = .ok (.ireturn, 1) := by decide +kernel
theorem dX8_countInBoxes_0 : decode cX8_countInBoxes 0 = .ok (.iconst 0, 1) := by decide +kernel
theorem dX8_countInBoxes_1 : decode cX8_countInBoxes 1 = .ok (.istore_n 1, 1) := by decide +kernel
theorem dX8_countInBoxes_2 : decode cX8_countInBoxes 2 = .ok (.iconst 0, 1) := by decide +kernel
theorem dX8_countInBoxes_3 : decode cX8_countInBoxes 3 = .ok (.istore_n 2, 1) := by decide +kernel
theorem dX8_countInBoxes_4 : decode cX8_countInBoxes 4 = .ok (.iload_n 2, 1) := by decide +kernel
theorem dX8_countInBoxes_5 : decode cX8_countInBoxes 5 = .ok (.aload_n 0, 1) := by decide +kernel
theorem dX8_countInBoxes_6 : decode cX8_countInBoxes 6 = .ok (.getfield 20, 3) := by decide +kernel
theorem dX8_countInBoxes_9 : decode cX8_countInBoxes 9 = .ok (.if_icmp .ge 37, 3) := by decide +kernel
theorem dX8_countInBoxes_12 : decode cX8_countInBoxes 12 = .ok (.iload_n 2, 1) := by decide +kernel
theorem dX8_countInBoxes_13 : decode cX8_countInBoxes 13 = .ok (.sipush 300, 3) := by decide +kernel
theorem dX8_countInBoxes_16 : decode cX8_countInBoxes 16 = .ok (.if_icmp .ge 30, 3) := by decide +kernel
theorem dX8_countInBoxes_19 : decode cX8_countInBoxes 19 = .ok (.aload_n 0, 1) := by decide +kernel
theorem dX8_countInBoxes_20 : decode cX8_countInBoxes 20 = .ok (.getfield 13, 3) := by decide +kernel
theorem dX8_countInBoxes_23 : decode cX8_countInBoxes 23 = .ok (.iload_n 2, 1) := by decide +kernel
theorem dX8_countInBoxes_24 : decode cX8_countInBoxes 24 = .ok (.aaload, 1) := by decide +kernel
theorem dX8_countInBoxes_25 : decode cX8_countInBoxes 25 = .ok (.astore_n 3, 1) := by decide +kernel
theorem dX8_countInBoxes_26 : decode cX8_countInBoxes 26 = .ok (.aload_n 3, 1) := by decide +kernel
theorem dX8_countInBoxes_27 : decode cX8_countInBoxes 27 = .ok (.ifnull 13, 3) := by decide +kernel
theorem dX8_countInBoxes_30 : decode cX8_countInBoxes 30 = .ok (.aload_n 3, 1) := by decide +kernel
theorem dX8_countInBoxes_31 : decode cX8_countInBoxes 31 = .ok (.getfield 46, 3) := by decide +kernel
theorem dX8_countInBoxes_34 : decode cX8_countInBoxes 34 = .ok (.ifnull 6, 3) := by decide +kernel
theorem dX8_countInBoxes_37 : decode cX8_countInBoxes 37 = .ok (.iinc 1 1, 3) := by decide +kernel
theorem dX8_countInBoxes_40 : decode cX8_countInBoxes 40 = .ok (.iinc 2 1, 3) := by decide +kernel
theorem dX8_countInBoxes_43 : decode cX8_countInBoxes 43 = .ok (.goto (-39), 3) := by decide +kernel
theorem dX8_countInBoxes_46 : decode cX8_countInBoxes 46 = .ok (.iload_n 1, 1) := by decide +kernel
theorem dX8_countInBoxes_47 : decode cX8_countInBoxes 47 = .ok (.ireturn, 1) := by decide +kernel
theorem dX9_init_0 : decode cX9_init 0 = .ok (.aload_n 0, 1) := by decide +kernel
theorem dX9_init_1 : decode cX9_init 1 = .ok (.invokespecial 1, 3) := by decide +kernel
theorem dX9_init_4 : decode cX9_init 4 = .ok (.aload_n 0, 1) := by decide +kernel
theorem dX9_init_5 : decode cX9_init 5 = .ok (.new 7, 3) := by decide +kernel
theorem dX9_init_8 : decode cX9_init 8 = .ok (.dup, 1) := by decide +kernel
theorem dX9_init_9 : decode cX9_init 9 = .ok (.invokespecial 9, 3) := by decide +kernel
theorem dX9_init_12 : decode cX9_init 12 = .ok (.putfield 10, 3) := by decide +kernel
theorem dX9_init_15 : decode cX9_init 15 = .ok (.aload_n 0, 1) := by decide +kernel
theorem dX9_init_16 : decode cX9_init 16 = .ok (.bipush 40, 2) := by decide +kernel
theorem dX9_init_18 : decode cX9_init 18 = .ok (.anewarray 16, 3) := by decide +kernel
theorem dX9_init_21 : decode cX9_init 21 = .ok (.putfield 18, 3) := by decide +kernel
theorem dX9_init_24 : decode cX9_init 24 = .ok (.aload_n 0, 1) := by decide +kernel
theorem dX9_init_25 : decode cX9_init 25 = .ok (.bipush 10, 2) := by decide +kernel
theorem dX9_init_27 : decode cX9_init 27 = .ok (.anewarray 22, 3) := by decide +kernel
theorem dX9_init_30 : decode cX9_init 30 = .ok (.putfield 24, 3) := by decide +kernel
theorem dX9_init_33 : decode cX9_init 33 = .ok (.iconst 0, 1) := by decide +kernel
theorem dX9_init_34 : decode cX9_init 34 = .ok (.istore_n 1, 1) := by decide +kernel
theorem dX9_init_35 : decode cX9_init 35 = .ok (.iload_n 1, 1) := by decide +kernel
theorem dX9_init_36 : decode cX9_init 36 = .ok (.bipush 10, 2) := by decide +kernel
theorem dX9_init_38 : decode cX9_init 38 = .ok (.if_icmp .ge 23, 3) := by decide +kernel
theorem dX9_init_41 : decode cX9_init 41 = .ok (.aload_n 0, 1) := by decide +kernel
theorem dX9_init_42 : decode cX9_init 42 = .ok (.getfield 24, 3) := by decide +kernel
theorem dX9_init_45 : decode cX9_init 45 = .ok (.iload_n 1, 1) := by decide +kernel
theorem dX9_init_46 : decode cX9_init 46 = .ok (.new 22, 3) := by decide +kernel
theorem dX9_init_49 : decode cX9_init 49 = .ok (.dup, 1) := by decide +kernel
theorem dX9_init_50 : decode cX9_init 50 = .ok (.iload_n 1, 1) := by decide +kernel
theorem dX9_init_51 : decode cX9_init 51 = .ok (.invokespecial 28, 3) := by decide +kernel
theorem dX9_init_54 : decode cX9_init 54 = .ok (.aastore, 1) := by decide +kernel
theorem dX9_init_55 : decode cX9_init 55 = .ok (.iinc 1 1, 3) := by decide +kernel
theorem dX9_init_58 : decode cX9_init 58 = .ok (.goto (-23), 3) := by decide +kernel
theorem dX9_init_61 : decode cX9_init 61 = .ok (.aload_n 0, 1) := by decide +kernel
theorem dX9_init_62 : decode cX9_init 62 = .ok (.bipush 10, 2) := by decide +kernel
theorem dX9_init_64 : decode cX9_init 64 = .ok (.anewarray 31, 3) := by decide +kernel
theorem dX9_init_67 : decode cX9_init 67 = .ok (.putfield 33, 3) := by decide +kernel
theorem dX9_init_70 : decode cX9_init 70 = .ok (.iconst 0, 1) := by decide +kernel
theorem dX9_init_71 : decode cX9_init 71 = .ok (.istore_n 1, 1) := by decide +kernel
theorem dX9_init_72 : decode cX9_init 72 = .ok (.iload_n 1, 1) := by decide +kernel
theorem dX9_init_73 : decode cX9_init 73 = .ok (.bipush 10, 2) := by decide +kernel
theorem dX9_init_75 : decode cX9_init 75 = .ok (.if_icmp .ge 22, 3) := by decide +kernel
theorem dX9_init_78 : decode cX9_init 78 = .ok (.aload_n 0, 1) := by decide +kernel
theorem dX9_init_79 : decode cX9_init 79 = .ok (.getfield 33, 3) := by decide +kernel
theorem dX9_init_82 : decode cX9_init 82 = .ok (.iload_n 1, 1) := by decide +kernel
theorem dX9_init_83 : decode cX9_init 83 = .ok (.new 31, 3) := by decide +kernel
theorem dX9_init_86 : decode cX9_init 86 = .ok (.dup, 1) := by decide +kernel
theorem dX9_init_87 : decode cX9_init 87 = .ok (.invokespecial 37, 3) := by decide +kernel
theorem dX9_init_90 : decode cX9_init 90 = .ok (.aastore, 1) := by decide +kernel
theorem dX9_init_91 : decode cX9_init 91 = .ok (.iinc 1 1, 3) := by decide +kernel
theorem dX9_init_94 : decode cX9_init 94 = .ok (.goto (-22), 3) := by decide +kernel
theorem dX9_init_97 : decode cX9_init 97 = .ok (.aload_n 0, 1) := by decide +kernel
theorem dX9_init_98 : decode cX9_init 98 = .ok (.new 38, 3) := by decide +kernel
theorem dX9_init_101 : decode cX9_init 101 = .ok (.dup, 1) := by decide +kernel
theorem dX9_init_102 : decode cX9_init 102 = .ok (.invokespecial 40, 3) := by decide +kernel
theorem dX9_init_105 : decode cX9_init 105 = .ok (.putfield 41, 3) := by decide +kernel
theorem dX9_init_108 : decode cX9_init 108 = .ok (.aload_n 0, 1) := by decide +kernel
theorem dX9_init_109 : decode cX9_init 109 = .ok (.new 45, 3) := by decide +kernel
theorem dX9_init_112 : decode cX9_init 112 = .ok (.dup, 1) := by decide +kernel
theorem dX9_init_113 : decode cX9_init 113 = .ok (.invokespecial 47, 3) := by decide +kernel
theorem dX9_init_116 : decode cX9_init 116 = .ok (.putfield 48, 3) := by decide +kernel
theorem dX9_init_119 : decode cX9_init 119 = .ok (.aload_n 0, 1) := by decide +kernel
theorem dX9_init_120 : decode cX9_init 120 = .ok (.iconst 0, 1) := by decide +kernel
theorem dX9_init_121 : decode cX9_init 121 = .ok (.putfield 52, 3) := by decide +kernel
theorem dX9_init_124 : decode cX9_init 124 = .ok (.aload_n 0, 1) := by decide +kernel
theorem dX9_init_125 : decode cX9_init 125 = .ok (.iconst 0, 1) := by decide +kernel
theorem dX9_init_126 : decode cX9_init 126 = .ok (.putfield 56, 3) := by decide +kernel
theorem dX9_init_129 : decode cX9_init 129 = .ok (.return_, 1) := by decide +kernel
theorem dX9_make_0 : decode cX9_make 0 = .ok (.iload_n 1, 1) := by decide +kernel
theorem dX9_make_1 : decode cX9_make 1 = .ok (.invokestatic 59, 3) := by decide +kernel
theorem dX9_make_4 : decode cX9_make 4 = .ok (.ifCond .eq 17, 3) := by decide +kernel
theorem dX9_make_7 : decode cX9_make 7 = .ok (.iload_n 2, 1) := by decide +kernel
theorem dX9_make_8 : decode cX9_make 8 = .ok (.invokestatic 65, 3) := by decide +kernel
theorem dX9_make_11 : decode cX9_make 11 = .ok (.ifCond .eq 10, 3) := by decide +kernel
theorem dX9_make_14 : decode cX9_make 14 = .ok (.iload_n 3, 1) := by decide +kernel
theorem dX9_make_15 : decode cX9_make 15 = .ok (.invokestatic 65, 3) := by decide +kernel
theorem dX9_make_18 : decode cX9_make 18 = .ok (.ifCond .ne 5, 3) := by decide +kernel
theorem dX9_make_21 : decode cX9_make 21 = .ok (.iconst (-1), 1) := by decide +kernel
theorem dX9_make_22 : decode cX9_make 22 = .ok (.ireturn, 1) := by decide +kernel
theorem dX9_make_23 : decode cX9_make 23 = .ok (.aload_n 0, 1) := by decide +kernel
theorem dX9_make_24 : decode cX9_make 24 = .ok (.getfield 10, 3) := by decide +kernel
theorem dX9_make_27 : decode cX9_make 27 = .ok (.iload_n 1, 1) := by decide +kernel
theorem dX9_make_28 : decode cX9_make 28 = .ok (.iload_n 2, 1) := by decide +kernel
theorem dX9_make_29 : decode cX9_make 29 = .ok (.iload_n 3, 1) := by decide +kernel
theorem dX9_make_30 : decode cX9_make 30 = .ok (.invokevirtual 70, 3) := by decide +kernel
theorem dX9_make_33 : decode cX9_make 33 = .ok (.ireturn, 1) := by decide +kernel
theorem dX9_caseOf_0 : decode cX9_caseOf 0 = .ok (.iload_n 1, 1) := by decide +kernel
theorem dX9_caseOf_1 : decode cX9_caseOf 1 = .ok (.invokestatic 74, 3) := by decide +kernel
theorem dX9_caseOf_4 : decode cX9_caseOf 4 = .ok (.ifCond .eq 23, 3) := by decide +kernel
theorem dX9_caseOf_7 : decode cX9_caseOf 7 = .ok (.iload_n 2, 1) := by decide +kernel
theorem dX9_caseOf_8 : decode cX9_caseOf 8 = .ok (.iconst 1, 1) := by decide +kernel
theorem dX9_caseOf_9 : decode cX9_caseOf 9 = .ok (.if_icmp .lt 18, 3) := by decide +kernel
theorem dX9_caseOf_12 : decode cX9_caseOf 12 = .ok (.iload_n 2, 1) := by decide +kernel
theorem dX9_caseOf_13 : decode cX9_caseOf 13 = .ok (.bipush 20, 2) := by decide +kernel
theorem dX9_caseOf_15 : decode cX9_caseOf 15 = .ok (.if_icmp .gt 12, 3) := by decide +kernel
theorem dX9_caseOf_18 : decode cX9_caseOf 18 = .ok (.aload_n 0, 1) := by decide +kernel
theorem dX9_caseOf_19 : decode cX9_caseOf 19 = .ok (.getfield 52, 3) := by decide +kernel
theorem dX9_caseOf_22 : decode cX9_caseOf 22 = .ok (.bipush 40, 2) := by decide +kernel
theorem dX9_caseOf_24 : decode cX9_caseOf 24 = .ok (.if_icmp .lt 5, 3) := by decide +kernel
theorem dX9_caseOf_27 : decode cX9_caseOf 27 = .ok (.iconst (-1), 1) := by decide +kernel
theorem dX9_caseOf_28 : decode cX9_caseOf 28 = .ok (.ireturn, 1) := by decide +kernel
theorem dX9_caseOf_29 : decode cX9_caseOf 29 = .ok (.aload_n 0, 1) := by decide +kernel
theorem dX9_caseOf_30 : decode cX9_caseOf 30 = .ok (.getfield 18, 3) := by decide +kernel
theorem dX9_caseOf_33 : decode cX9_caseOf 33 = .ok (.aload_n 0, 1) := by decide +kernel
theorem dX9_caseOf_34 : decode cX9_caseOf 34 = .ok (.getfield 52, 3) := by decide +kernel
theorem dX9_caseOf_37 : decode cX9_caseOf 37 = .ok (.new 16, 3) := by decide +kernel
theorem dX9_caseOf_40 : decode cX9_caseOf 40 = .ok (.dup, 1) := by decide +kernel
theorem dX9_caseOf_41 : decode cX9_caseOf 41 = .ok (.aload_n 0, 1) := by decide +kernel
theorem dX9_caseOf_42 : decode cX9_caseOf 42 = .ok (.getfield 52, 3) := by decide +kernel
theorem dX9_caseOf_45 : decode cX9_caseOf 45 = .ok (.iload_n 1, 1) := by decide +kernel
theorem dX9_caseOf_46 : decode cX9_caseOf 46 = .ok (.iload_n 2, 1) := by decide +kernel
theorem dX9_caseOf_47 : decode cX9_caseOf 47 = .ok (.invokespecial 77, 3) := by decide +kernel
theorem dX9_caseOf_50 : decode cX9_caseOf 50 = .ok (.aastore, 1) := by decide +kernel
theorem dX9_caseOf_51 : decode cX9_caseOf 51 = .ok (.aload_n 0, 1) := by decide +kernel
theorem dX9_caseOf_52 : decode cX9_caseOf 52 = .ok (.dup, 1) := by decide +kernel
theorem dX9_caseOf_53 : decode cX9_caseOf 53 = .ok (.getfield 52, 3) := by decide +kernel
theorem dX9_caseOf_56 : decode cX9_caseOf 56 = .ok (.iconst 1, 1) := by decide +kernel
theorem dX9_caseOf_57 : decode cX9_caseOf 57 = .ok (.iadd, 1) := by decide +kernel
theorem dX9_caseOf_58 : decode cX9_caseOf 58 = .ok (.putfield 52, 3) := by decide +kernel
theorem dX9_caseOf_61 : decode cX9_caseOf 61 = .ok (.aload_n 0, 1) := by decide +kernel
theorem dX9_caseOf_62 : decode cX9_caseOf 62 = .ok (.getfield 52, 3) := by decide +kernel
theorem dX9_caseOf_65 : decode cX9_caseOf 65 = .ok (.iconst 1, 1) := by decide +kernel
theorem dX9_caseOf_66 : decode cX9_caseOf 66 = .ok (.isub, 1) := by decide +kernel
theorem dX9_caseOf_67 : decode cX9_caseOf 67 = .ok (.ireturn, 1) := by decide +kernel
theorem dX9_putIn_0 : decode cX9_putIn 0 = .ok (.aload_n 0, 1) := by decide +kernel
theorem dX9_putIn_1 : decode cX9_putIn 1 = .ok (.iload_n 1, 1) := by decide +kernel
theorem dX9_putIn_2 : decode cX9_putIn 2 = .ok (.invokevirtual 80, 3) := by decide +kernel
theorem dX9_putIn_5 : decode cX9_putIn 5 = .ok (.astore 4, 2) := by decide +kernel
theorem dX9_putIn_7 : decode cX9_putIn 7 = .ok (.aload_n 0, 1) := by decide +kernel
theorem dX9_putIn_8 : decode cX9_putIn 8 = .ok (.getfield 10, 3) := by decide +kernel
theorem dX9_putIn_11 : decode cX9_putIn 11 = .ok (.iload_n 3, 1) := by decide +kernel
theorem dX9_putIn_12 : decode cX9_putIn 12 = .ok (.invokevirtual 84, 3) := by decide +kernel
theorem dX9_putIn_15 : decode cX9_putIn 15 = .ok (.astore 5, 2) := by decide +kernel
theorem dX9_putIn_17 : decode cX9_putIn 17 = .ok (.aload 4, 2) := by decide +kernel
theorem dX9_putIn_19 : decode cX9_putIn 19 = .ok (.ifnull 25, 3) := by decide +kernel
theorem dX9_putIn_22 : decode cX9_putIn 22 = .ok (.aload 5, 2) := by decide +kernel
theorem dX9_putIn_24 : decode cX9_putIn 24 = .ok (.ifnull 20, 3) := by decide +kernel
theorem dX9_putIn_27 : decode cX9_putIn 27 = .ok (.aload 4, 2) := by decide +kernel
theorem dX9_putIn_29 : decode cX9_putIn 29 = .ok (.iload_n 2, 1) := by decide +kernel
theorem dX9_putIn_30 : decode cX9_putIn 30 = .ok (.invokevirtual 88, 3) := by decide +kernel
theorem dX9_putIn_33 : decode cX9_putIn 33 = .ok (.ifCond .eq 11, 3) := by decide +kernel
theorem dX9_putIn_36 : decode cX9_putIn 36 = .ok (.aload 5, 2) := by decide +kernel
theorem dX9_putIn_38 : decode cX9_putIn 38 = .ok (.invokevirtual 91, 3) := by decide +kernel
theorem dX9_putIn_41 : decode cX9_putIn 41 = .ok (.ifCond .eq 5, 3) := by decide +kernel
theorem dX9_putIn_44 : decode cX9_putIn 44 = .ok (.iconst (-1), 1) := by decide +kernel
theorem dX9_putIn_45 : decode cX9_putIn 45 = .ok (.ireturn, 1) := by decide +kernel
theorem dX9_putIn_46 : decode cX9_putIn 46 = .ok (.aload 5, 2) := by decide +kernel
theorem dX9_putIn_48 : decode cX9_putIn 48 = .ok (.getfield 95, 3) := by decide +kernel
theorem dX9_putIn_51 : decode cX9_putIn 51 = .ok (.aload 4, 2) := by decide +kernel
theorem dX9_putIn_53 : decode cX9_putIn 53 = .ok (.getfield 98, 3) := by decide +kernel
theorem dX9_putIn_56 : decode cX9_putIn 56 = .ok (.invokestatic 99, 3) := by decide +kernel
theorem dX9_putIn_59 : decode cX9_putIn 59 = .ok (.ifCond .ne 6, 3) := by decide +kernel
theorem dX9_putIn_62 : decode cX9_putIn 62 = .ok (.bipush (-2), 2) := by decide +kernel
theorem dX9_putIn_64 : decode cX9_putIn 64 = .ok (.ireturn, 1) := by decide +kernel
theorem dX9_putIn_65 : decode cX9_putIn 65 = .ok (.aload 5, 2) := by decide +kernel
theorem dX9_putIn_67 : decode cX9_putIn 67 = .ok (.invokestatic 103, 3) := by decide +kernel
theorem dX9_putIn_70 : decode cX9_putIn 70 = .ok (.aload 4, 2) := by decide +kernel
theorem dX9_putIn_72 : decode cX9_putIn 72 = .ok (.iload_n 2, 1) := by decide +kernel
theorem dX9_putIn_73 : decode cX9_putIn 73 = .ok (.aload 5, 2) := by decide +kernel
theorem dX9_putIn_75 : decode cX9_putIn 75 = .ok (.invokevirtual 107, 3) := by decide +kernel
theorem dX9_putIn_78 : decode cX9_putIn 78 = .ok (.aload 5, 2) := by decide +kernel
theorem dX9_putIn_80 : decode cX9_putIn 80 = .ok (.aload 4, 2) := by decide +kernel
theorem dX9_putIn_82 : decode cX9_putIn 82 = .ok (.putfield 111, 3) := by decide +kernel
theorem dX9_putIn_85 : decode cX9_putIn 85 = .ok (.aload 5, 2) := by decide +kernel
theorem dX9_putIn_87 : decode cX9_putIn 87 = .ok (.iload_n 2, 1) := by decide +kernel
theorem dX9_putIn_88 : decode cX9_putIn 88 = .ok (.putfield 115, 3) := by decide +kernel
theorem dX9_putIn_91 : decode cX9_putIn 91 = .ok (.iconst 1, 1) := by decide +kernel
theorem dX9_putIn_92 : decode cX9_putIn 92 = .ok (.ireturn, 1) := by decide +kernel
theorem dX9_takeOut_0 : decode cX9_takeOut 0 = .ok (.aload_n 0, 1) := by decide +kernel
theorem dX9_takeOut_1 : decode cX9_takeOut 1 = .ok (.iload_n 1, 1) := by decide +kernel
theorem dX9_takeOut_2 : decode cX9_takeOut 2 = .ok (.iload_n 2, 1) := by decide +kernel
theorem dX9_takeOut_3 : decode cX9_takeOut 3 = .ok (.invokevirtual 118, 3) := by decide +kernel
theorem dX9_takeOut_6 : decode cX9_takeOut 6 = .ok (.astore_n 3, 1) := by decide +kernel
theorem dX9_takeOut_7 : decode cX9_takeOut 7 = .ok (.aload_n 3, 1) := by decide +kernel
theorem dX9_takeOut_8 : decode cX9_takeOut 8 = .ok (.ifnull 10, 3) := by decide +kernel
theorem dX9_takeOut_11 : decode cX9_takeOut 11 = .ok (.aload_n 3, 1) := by decide +kernel
theorem dX9_takeOut_12 : decode cX9_takeOut 12 = .ok (.invokevirtual 91, 3) := by decide +kernel
theorem dX9_takeOut_15 : decode cX9_takeOut 15 = .ok (.ifCond .eq 5, 3) := by decide +kernel
theorem dX9_takeOut_18 : decode cX9_takeOut 18 = .ok (.iconst (-1), 1) := by decide +kernel
theorem dX9_takeOut_19 : decode cX9_takeOut 19 = .ok (.ireturn, 1) := by decide +kernel
theorem dX9_takeOut_20 : decode cX9_takeOut 20 = .ok (.aload_n 3, 1) := by decide +kernel
theorem dX9_takeOut_21 : decode cX9_takeOut 21 = .ok (.invokestatic 103, 3) := by decide +kernel
theorem dX9_takeOut_24 : decode cX9_takeOut 24 = .ok (.aload_n 3, 1) := by decide +kernel
theorem dX9_takeOut_25 : decode cX9_takeOut 25 = .ok (.getfield 122, 3) := by decide +kernel
theorem dX9_takeOut_28 : decode cX9_takeOut 28 = .ok (.ireturn, 1) := by decide +kernel
theorem dX9_placed_0 : decode cX9_placed 0 = .ok (.aload_n 0, 1) := by decide +kernel
theorem dX9_placed_1 : decode cX9_placed 1 = .ok (.iload_n 1, 1) := by decide +kernel
theorem dX9_placed_2 : decode cX9_placed 2 = .ok (.iload_n 2, 1) := by decide +kernel
theorem dX9_placed_3 : decode cX9_placed 3 = .ok (.invokevirtual 118, 3) := by decide +kernel
theorem dX9_placed_6 : decode cX9_placed 6 = .ok (.astore_n 3, 1) := by decide +kernel
theorem dX9_placed_7 : decode cX9_placed 7 = .ok (.aload_n 3, 1) := by decide +kernel
theorem dX9_placed_8 : decode cX9_placed 8 = .ok (.ifnonnull 7, 3) := by decide +kernel
theorem dX9_placed_11 : decode cX9_placed 11 = .ok (.iconst (-1), 1) := by decide +kernel
theorem dX9_placed_12 : decode cX9_placed 12 = .ok (.goto 7, 3) := by decide +kernel
theorem dX9_placed_15 : decode cX9_placed 15 = .ok (.aload_n 3, 1) := by decide +kernel
theorem dX9_placed_16 : decode cX9_placed 16 = .ok (.getfield 122, 3) := by decide +kernel
theorem dX9_placed_19 : decode cX9_placed 19 = .ok (.ireturn, 1) := by decide +kernel
theorem dX9_told_0 : decode cX9_told 0 = .ok (.aload_n 0, 1) := by decide +kernel
theorem dX9_told_1 : decode cX9_told 1 = .ok (.getfield 10, 3) := by decide +kernel
theorem dX9_told_4 : decode cX9_told 4 = .ok (.iload_n 1, 1) := by decide +kernel
theorem dX9_told_5 : decode cX9_told 5 = .ok (.invokevirtual 84, 3) := by decide +kernel
theorem dX9_told_8 : decode cX9_told 8 = .ok (.astore_n 3, 1) := by decide +kernel
theorem dX9_told_9 : decode cX9_told 9 = .ok (.aload_n 3, 1) := by decide +kernel
theorem dX9_told_10 : decode cX9_told 10 = .ok (.ifnonnull 5, 3) := by decide +kernel
theorem dX9_told_13 : decode cX9_told 13 = .ok (.iconst (-1), 1) := by decide +kernel
theorem dX9_told_14 : decode cX9_told 14 = .ok (.ireturn, 1) := by decide +kernel
theorem dX9_told_15 : decode cX9_told 15 = .ok (.iload_n 2, 1) := by decide +kernel
theorem dX9_told_16 : decode cX9_told 16 = .ok (.tableswitch 134 0 9 #[56, 61, 66, 71, 90, 95, 114, 119, 124, 129], 56) := by decide +kernel
theorem dX9_told_72 : decode cX9_told 72 = .ok (.aload_n 3, 1) := by decide +kernel
theorem dX9_told_73 : decode cX9_told 73 = .ok (.getfield 95, 3) := by decide +kernel
theorem dX9_told_76 : decode cX9_told 76 = .ok (.ireturn, 1) := by decide +kernel
theorem dX9_told_77 : decode cX9_told 77 = .ok (.aload_n 3, 1) := by decide +kernel
theorem dX9_told_78 : decode cX9_told 78 = .ok (.getfield 125, 3) := by decide +kernel
theorem dX9_told_81 : decode cX9_told 81 = .ok (.ireturn, 1) := by decide +kernel
theorem dX9_told_82 : decode cX9_told 82 = .ok (.aload_n 3, 1) := by decide +kernel
theorem dX9_told_83 : decode cX9_told 83 = .ok (.getfield 128, 3) := by decide +kernel
theorem dX9_told_86 : decode cX9_told 86 = .ok (.ireturn, 1) := by decide +kernel
theorem dX9_told_87 : decode cX9_told 87 = .ok (.aload_n 3, 1) := by decide +kernel
theorem dX9_told_88 : decode cX9_told 88 = .ok (.getfield 111, 3) := by decide +kernel
theorem dX9_told_91 : decode cX9_told 91 = .ok (.ifnonnull 7, 3) := by decide +kernel
theorem dX9_told_94 : decode cX9_told 94 = .ok (.iconst (-1), 1) := by decide +kernel
theorem dX9_told_95 : decode cX9_told 95 = .ok (.goto 10, 3) := by decide +kernel
theorem dX9_told_98 : decode cX9_told 98 = .ok (.aload_n 3, 1) := by decide +kernel
theorem dX9_told_99 : decode cX9_told 99 = .ok (.getfield 111, 3) := by decide +kernel
theorem dX9_told_102 : decode cX9_told 102 = .ok (.getfield 131, 3) := by decide +kernel
theorem dX9_told_105 : decode cX9_told 105 = .ok (.ireturn, 1) := by decide +kernel
theorem dX9_told_106 : decode cX9_told 106 = .ok (.aload_n 3, 1) := by decide +kernel
theorem dX9_told_107 : decode cX9_told 107 = .ok (.getfield 115, 3) := by decide +kernel
theorem dX9_told_110 : decode cX9_told 110 = .ok (.ireturn, 1) := by decide +kernel
theorem dX9_told_111 : decode cX9_told 111 = .ok (.aload_n 3, 1) := by decide +kernel
theorem dX9_told_112 : decode cX9_told 112 = .ok (.getfield 132, 3) := by decide +kernel
theorem dX9_told_115 : decode cX9_told 115 = .ok (.ifnonnull 7, 3) := by decide +kernel
theorem dX9_told_118 : decode cX9_told 118 = .ok (.iconst (-1), 1) := by decide +kernel
theorem dX9_told_119 : decode cX9_told 119 = .ok (.goto 10, 3) := by decide +kernel
theorem dX9_told_122 : decode cX9_told 122 = .ok (.aload_n 3, 1) := by decide +kernel
theorem dX9_told_123 : decode cX9_told 123 = .ok (.getfield 132, 3) := by decide +kernel
theorem dX9_told_126 : decode cX9_told 126 = .ok (.getfield 136, 3) := by decide +kernel
theorem dX9_told_129 : decode cX9_told 129 = .ok (.ireturn, 1) := by decide +kernel
theorem dX9_told_130 : decode cX9_told 130 = .ok (.aload_n 3, 1) := by decide +kernel
theorem dX9_told_131 : decode cX9_told 131 = .ok (.getfield 137, 3) := by decide +kernel
theorem dX9_told_134 : decode cX9_told 134 = .ok (.ireturn, 1) := by decide +kernel
theorem dX9_told_135 : decode cX9_told 135 = .ok (.aload_n 3, 1) := by decide +kernel
theorem dX9_told_136 : decode cX9_told 136 = .ok (.getfield 140, 3) := by decide +kernel
theorem dX9_told_139 : decode cX9_told 139 = .ok (.ireturn, 1) := by decide +kernel
theorem dX9_told_140 : decode cX9_told 140 = .ok (.aload_n 3, 1) := by decide +kernel
theorem dX9_told_141 : decode cX9_told 141 = .ok (.getfield 143, 3) := by decide +kernel
theorem dX9_told_144 : decode cX9_told 144 = .ok (.ireturn, 1) := by decide +kernel
theorem dX9_told_145 : decode cX9_told 145 = .ok (.aload_n 3, 1) := by decide +kernel
theorem dX9_told_146 : decode cX9_told 146 = .ok (.getfield 146, 3) := by decide +kernel
theorem dX9_told_149 : decode cX9_told 149 = .ok (.ireturn, 1) := by decide +kernel
theorem dX9_told_150 : decode cX9_told 150 = .ok (.iconst (-1), 1) := by decide +kernel
theorem dX9_told_151 : decode cX9_told 151 = .ok (.ireturn, 1) := by decide +kernel
theorem dX9_below_0 : decode cX9_below 0 = .ok (.iload_n 1, 1) := by decide +kernel
theorem dX9_below_1 : decode cX9_below 1 = .ok (.invokestatic 149, 3) := by decide +kernel
theorem dX9_below_4 : decode cX9_below 4 = .ok (.ifCond .eq 22, 3) := by decide +kernel
theorem dX9_below_7 : decode cX9_below 7 = .ok (.iload_n 2, 1) := by decide +kernel
theorem dX9_below_8 : decode cX9_below 8 = .ok (.invokestatic 149, 3) := by decide +kernel
theorem dX9_below_11 : decode cX9_below 11 = .ok (.ifCond .eq 15, 3) := by decide +kernel
theorem dX9_below_14 : decode cX9_below 14 = .ok (.iload_n 1, 1) := by decide +kernel
theorem dX9_below_15 : decode cX9_below 15 = .ok (.bipush 100, 2) := by decide +kernel
theorem dX9_below_17 : decode cX9_below 17 = .ok (.isub, 1) := by decide +kernel
theorem dX9_below_18 : decode cX9_below 18 = .ok (.iload_n 2, 1) := by decide +kernel
theorem dX9_below_19 : decode cX9_below 19 = .ok (.bipush 100, 2) := by decide +kernel
theorem dX9_below_21 : decode cX9_below 21 = .ok (.isub, 1) := by decide +kernel
theorem dX9_below_22 : decode cX9_below 22 = .ok (.invokestatic 99, 3) := by decide +kernel
theorem dX9_below_25 : decode cX9_below 25 = .ok (.ireturn, 1) := by decide +kernel
theorem dX9_below_26 : decode cX9_below 26 = .ok (.iload_n 1, 1) := by decide +kernel
theorem dX9_below_27 : decode cX9_below 27 = .ok (.iload_n 2, 1) := by decide +kernel
theorem dX9_below_28 : decode cX9_below 28 = .ok (.invokestatic 99, 3) := by decide +kernel
theorem dX9_below_31 : decode cX9_below 31 = .ok (.ireturn, 1) := by decide +kernel
theorem dX9_steps_0 : decode cX9_steps 0 = .ok (.iload_n 1, 1) := by decide +kernel
theorem dX9_steps_1 : decode cX9_steps 1 = .ok (.iload_n 2, 1) := by decide +kernel
theorem dX9_steps_2 : decode cX9_steps 2 = .ok (.invokestatic 152, 3) := by decide +kernel
theorem dX9_steps_5 : decode cX9_steps 5 = .ok (.ireturn, 1) := by decide +kernel
theorem dX9_common_0 : decode cX9_common 0 = .ok (.iload_n 1, 1) := by decide +kernel
theorem dX9_common_1 : decode cX9_common 1 = .ok (.iload_n 2, 1) := by decide +kernel
theorem dX9_common_2 : decode cX9_common 2 = .ok (.invokestatic 156, 3) := by decide +kernel
theorem dX9_common_5 : decode cX9_common 5 = .ok (.ireturn, 1) := by decide +kernel
theorem dX9_commonTrait_0 : decode cX9_commonTrait 0 = .ok (.iload_n 1, 1) := by decide +kernel
theorem dX9_commonTrait_1 : decode cX9_commonTrait 1 = .ok (.iload_n 2, 1) := by decide +kernel
theorem dX9_commonTrait_2 : decode cX9_commonTrait 2 = .ok (.invokestatic 159, 3) := by decide +kernel
theorem dX9_commonTrait_5 : decode cX9_commonTrait 5 = .ok (.invokestatic 163, 3) := by decide +kernel
theorem dX9_commonTrait_8 : decode cX9_commonTrait 8 = .ok (.iload_n 3, 1) := by decide +kernel
theorem dX9_commonTrait_9 : decode cX9_commonTrait 9 = .ok (.invokestatic 167, 3) := by decide +kernel
theorem dX9_commonTrait_12 : decode cX9_commonTrait 12 = .ok (.ireturn, 1) := by decide +kernel
theorem dX9_rule_0 : decode cX9_rule 0 = .ok (.aload_n 0, 1) := by decide +kernel
theorem dX9_rule_1 : decode cX9_rule 1 = .ok (.getfield 41, 3) := by decide +kernel
theorem dX9_rule_4 : decode cX9_rule 4 = .ok (.iload_n 1, 1) := by decide +kernel
theorem dX9_rule_5 : decode cX9_rule 5 = .ok (.iload_n 2, 1) := by decide +kernel
theorem dX9_rule_6 : decode cX9_rule 6 = .ok (.iload_n 3, 1) := by decide +kernel
theorem dX9_rule_7 : decode cX9_rule 7 = .ok (.invokevirtual 171, 3) := by decide +kernel
theorem dX9_rule_10 : decode cX9_rule 10 = .ok (.ireturn, 1) := by decide +kernel
theorem dX9_unrule_0 : decode cX9_unrule 0 = .ok (.aload_n 0, 1) := by decide +kernel
theorem dX9_unrule_1 : decode cX9_unrule 1 = .ok (.getfield 41, 3) := by decide +kernel
theorem dX9_unrule_4 : decode cX9_unrule 4 = .ok (.iload_n 1, 1) := by decide +kernel
theorem dX9_unrule_5 : decode cX9_unrule 5 = .ok (.iload_n 2, 1) := by decide +kernel
theorem dX9_unrule_6 : decode cX9_unrule 6 = .ok (.invokevirtual 175, 3) := by decide +kernel
theorem dX9_unrule_9 : decode cX9_unrule 9 = .ok (.ireturn, 1) := by decide +kernel
theorem dX9_asks_0 : decode cX9_asks 0 = .ok (.aload_n 0, 1) := by decide +kernel
theorem dX9_asks_1 : decode cX9_asks 1 = .ok (.getfield 10, 3) := by decide +kernel
theorem dX9_asks_4 : decode cX9_asks 4 = .ok (.iload_n 1, 1) := by decide +kernel
theorem dX9_asks_5 : decode cX9_asks 5 = .ok (.invokevirtual 84, 3) := by decide +kernel
theorem dX9_asks_8 : decode cX9_asks 8 = .ok (.astore_n 3, 1) := by decide +kernel
theorem dX9_asks_9 : decode cX9_asks 9 = .ok (.aload_n 3, 1) := by decide +kernel
theorem dX9_asks_10 : decode cX9_asks 10 = .ok (.ifnonnull 7, 3) := by decide +kernel
theorem dX9_asks_13 : decode cX9_asks 13 = .ok (.iconst (-1), 1) := by decide +kernel
theorem dX9_asks_14 : decode cX9_asks 14 = .ok (.goto 15, 3) := by decide +kernel
theorem dX9_asks_17 : decode cX9_asks 17 = .ok (.aload_n 0, 1) := by decide +kernel
theorem dX9_asks_18 : decode cX9_asks 18 = .ok (.getfield 41, 3) := by decide +kernel
theorem dX9_asks_21 : decode cX9_asks 21 = .ok (.aload_n 3, 1) := by decide +kernel
theorem dX9_asks_22 : decode cX9_asks 22 = .ok (.getfield 95, 3) := by decide +kernel
theorem dX9_asks_25 : decode cX9_asks 25 = .ok (.iload_n 2, 1) := by decide +kernel
theorem dX9_asks_26 : decode cX9_asks 26 = .ok (.invokevirtual 178, 3) := by decide +kernel
theorem dX9_asks_29 : decode cX9_asks 29 = .ok (.ireturn, 1) := by decide +kernel
theorem dX9_nearest_0 : decode cX9_nearest 0 = .ok (.aload_n 0, 1) := by decide +kernel
theorem dX9_nearest_1 : decode cX9_nearest 1 = .ok (.getfield 10, 3) := by decide +kernel
theorem dX9_nearest_4 : decode cX9_nearest 4 = .ok (.iload_n 1, 1) := by decide +kernel
theorem dX9_nearest_5 : decode cX9_nearest 5 = .ok (.invokevirtual 84, 3) := by decide +kernel
theorem dX9_nearest_8 : decode cX9_nearest 8 = .ok (.astore 4, 2) := by decide +kernel
theorem dX9_nearest_10 : decode cX9_nearest 10 = .ok (.aload 4, 2) := by decide +kernel
theorem dX9_nearest_12 : decode cX9_nearest 12 = .ok (.ifnonnull 7, 3) := by decide +kernel
theorem dX9_nearest_15 : decode cX9_nearest 15 = .ok (.iconst (-1), 1) := by decide +kernel
theorem dX9_nearest_16 : decode cX9_nearest 16 = .ok (.goto 20, 3) := by decide +kernel
theorem dX9_nearest_19 : decode cX9_nearest 19 = .ok (.aload_n 0, 1) := by decide +kernel
theorem dX9_nearest_20 : decode cX9_nearest 20 = .ok (.getfield 41, 3) := by decide +kernel
theorem dX9_nearest_23 : decode cX9_nearest 23 = .ok (.aload 4, 2) := by decide +kernel
theorem dX9_nearest_25 : decode cX9_nearest 25 = .ok (.getfield 95, 3) := by decide +kernel
theorem dX9_nearest_28 : decode cX9_nearest 28 = .ok (.iload_n 2, 1) := by decide +kernel
theorem dX9_nearest_29 : decode cX9_nearest 29 = .ok (.invokevirtual 181, 3) := by decide +kernel
theorem dX9_nearest_32 : decode cX9_nearest 32 = .ok (.iload_n 3, 1) := by decide +kernel
theorem dX9_nearest_33 : decode cX9_nearest 33 = .ok (.invokestatic 167, 3) := by decide +kernel
theorem dX9_nearest_36 : decode cX9_nearest 36 = .ok (.ireturn, 1) := by decide +kernel
theorem dX9_lend_0 : decode cX9_lend 0 = .ok (.iload_n 2, 1) := by decide +kernel
theorem dX9_lend_1 : decode cX9_lend 1 = .ok (.invokestatic 184, 3) := by decide +kernel
theorem dX9_lend_4 : decode cX9_lend 4 = .ok (.ifCond .eq 10, 3) := by decide +kernel
theorem dX9_lend_7 : decode cX9_lend 7 = .ok (.iload_n 3, 1) := by decide +kernel
theorem dX9_lend_8 : decode cX9_lend 8 = .ok (.invokestatic 187, 3) := by decide +kernel
theorem dX9_lend_11 : decode cX9_lend 11 = .ok (.ifCond .ne 5, 3) := by decide +kernel
theorem dX9_lend_14 : decode cX9_lend 14 = .ok (.iconst (-1), 1) := by decide +kernel
theorem dX9_lend_15 : decode cX9_lend 15 = .ok (.ireturn, 1) := by decide +kernel
theorem dX9_lend_16 : decode cX9_lend 16 = .ok (.iload_n 1, 1) := by decide +kernel
theorem dX9_lend_17 : decode cX9_lend 17 = .ok (.sipush 1000, 3) := by decide +kernel
theorem dX9_lend_20 : decode cX9_lend 20 = .ok (.if_icmp .lt 19, 3) := by decide +kernel
theorem dX9_lend_23 : decode cX9_lend 23 = .ok (.aload_n 0, 1) := by decide +kernel
theorem dX9_lend_24 : decode cX9_lend 24 = .ok (.aload_n 0, 1) := by decide +kernel
theorem dX9_lend_25 : decode cX9_lend 25 = .ok (.iload_n 1, 1) := by decide +kernel
theorem dX9_lend_26 : decode cX9_lend 26 = .ok (.sipush 1000, 3) := by decide +kernel
theorem dX9_lend_29 : decode cX9_lend 29 = .ok (.isub, 1) := by decide +kernel
theorem dX9_lend_30 : decode cX9_lend 30 = .ok (.invokevirtual 80, 3) := by decide +kernel
theorem dX9_lend_33 : decode cX9_lend 33 = .ok (.iload_n 2, 1) := by decide +kernel
theorem dX9_lend_34 : decode cX9_lend 34 = .ok (.iload_n 3, 1) := by decide +kernel
theorem dX9_lend_35 : decode cX9_lend 35 = .ok (.invokevirtual 190, 3) := by decide +kernel
theorem dX9_lend_38 : decode cX9_lend 38 = .ok (.ireturn, 1) := by decide +kernel
theorem dX9_lend_39 : decode cX9_lend 39 = .ok (.aload_n 0, 1) := by decide +kernel
theorem dX9_lend_40 : decode cX9_lend 40 = .ok (.getfield 10, 3) := by decide +kernel
theorem dX9_lend_43 : decode cX9_lend 43 = .ok (.iload_n 1, 1) := by decide +kernel
theorem dX9_lend_44 : decode cX9_lend 44 = .ok (.invokevirtual 84, 3) := by decide +kernel
theorem dX9_lend_47 : decode cX9_lend 47 = .ok (.astore 4, 2) := by decide +kernel
theorem dX9_lend_49 : decode cX9_lend 49 = .ok (.aload_n 0, 1) := by decide +kernel
theorem dX9_lend_50 : decode cX9_lend 50 = .ok (.aload 4, 2) := by decide +kernel
theorem dX9_lend_52 : decode cX9_lend 52 = .ok (.invokevirtual 194, 3) := by decide +kernel
theorem dX9_lend_55 : decode cX9_lend 55 = .ok (.ifCond .eq 15, 3) := by decide +kernel
theorem dX9_lend_58 : decode cX9_lend 58 = .ok (.aload_n 0, 1) := by decide +kernel
theorem dX9_lend_59 : decode cX9_lend 59 = .ok (.getfield 48, 3) := by decide +kernel
theorem dX9_lend_62 : decode cX9_lend 62 = .ok (.iload_n 2, 1) := by decide +kernel
theorem dX9_lend_63 : decode cX9_lend 63 = .ok (.iconst 1, 1) := by decide +kernel
theorem dX9_lend_64 : decode cX9_lend 64 = .ok (.invokevirtual 198, 3) := by decide +kernel
theorem dX9_lend_67 : decode cX9_lend 67 = .ok (.ifCond .ne 5, 3) := by decide +kernel
theorem dX9_lend_70 : decode cX9_lend 70 = .ok (.iconst (-1), 1) := by decide +kernel
theorem dX9_lend_71 : decode cX9_lend 71 = .ok (.ireturn, 1) := by decide +kernel
theorem dX9_lend_72 : decode cX9_lend 72 = .ok (.aload_n 0, 1) := by decide +kernel
theorem dX9_lend_73 : decode cX9_lend 73 = .ok (.aload 4, 2) := by decide +kernel
theorem dX9_lend_75 : decode cX9_lend 75 = .ok (.iload_n 2, 1) := by decide +kernel
theorem dX9_lend_76 : decode cX9_lend 76 = .ok (.iload_n 3, 1) := by decide +kernel
theorem dX9_lend_77 : decode cX9_lend 77 = .ok (.invokevirtual 201, 3) := by decide +kernel
theorem dX9_lend_80 : decode cX9_lend 80 = .ok (.iconst 1, 1) := by decide +kernel
theorem dX9_lend_81 : decode cX9_lend 81 = .ok (.ireturn, 1) := by decide +kernel
theorem dX9_giveBack_0 : decode cX9_giveBack 0 = .ok (.aload_n 0, 1) := by decide +kernel
theorem dX9_giveBack_1 : decode cX9_giveBack 1 = .ok (.getfield 10, 3) := by decide +kernel
theorem dX9_giveBack_4 : decode cX9_giveBack 4 = .ok (.iload_n 1, 1) := by decide +kernel
theorem dX9_giveBack_5 : decode cX9_giveBack 5 = .ok (.invokevirtual 84, 3) := by decide +kernel
theorem dX9_giveBack_8 : decode cX9_giveBack 8 = .ok (.astore_n 3, 1) := by decide +kernel
theorem dX9_giveBack_9 : decode cX9_giveBack 9 = .ok (.aload_n 3, 1) := by decide +kernel
theorem dX9_giveBack_10 : decode cX9_giveBack 10 = .ok (.ifnull 25, 3) := by decide +kernel
theorem dX9_giveBack_13 : decode cX9_giveBack 13 = .ok (.aload_n 3, 1) := by decide +kernel
theorem dX9_giveBack_14 : decode cX9_giveBack 14 = .ok (.invokevirtual 91, 3) := by decide +kernel
theorem dX9_giveBack_17 : decode cX9_giveBack 17 = .ok (.ifCond .eq 18, 3) := by decide +kernel
theorem dX9_giveBack_20 : decode cX9_giveBack 20 = .ok (.iload_n 2, 1) := by decide +kernel
theorem dX9_giveBack_21 : decode cX9_giveBack 21 = .ok (.invokestatic 187, 3) := by decide +kernel
theorem dX9_giveBack_24 : decode cX9_giveBack 24 = .ok (.ifCond .eq 11, 3) := by decide +kernel
theorem dX9_giveBack_27 : decode cX9_giveBack 27 = .ok (.iload_n 2, 1) := by decide +kernel
theorem dX9_giveBack_28 : decode cX9_giveBack 28 = .ok (.aload_n 3, 1) := by decide +kernel
theorem dX9_giveBack_29 : decode cX9_giveBack 29 = .ok (.getfield 140, 3) := by decide +kernel
theorem dX9_giveBack_32 : decode cX9_giveBack 32 = .ok (.if_icmp .ge 5, 3) := by decide +kernel
theorem dX9_giveBack_35 : decode cX9_giveBack 35 = .ok (.iconst (-1), 1) := by decide +kernel
theorem dX9_giveBack_36 : decode cX9_giveBack 36 = .ok (.ireturn, 1) := by decide +kernel
theorem dX9_giveBack_37 : decode cX9_giveBack 37 = .ok (.aload_n 0, 1) := by decide +kernel
theorem dX9_giveBack_38 : decode cX9_giveBack 38 = .ok (.getfield 48, 3) := by decide +kernel
theorem dX9_giveBack_41 : decode cX9_giveBack 41 = .ok (.aload_n 3, 1) := by decide +kernel
theorem dX9_giveBack_42 : decode cX9_giveBack 42 = .ok (.iload_n 2, 1) := by decide +kernel
theorem dX9_giveBack_43 : decode cX9_giveBack 43 = .ok (.invokevirtual 205, 3) := by decide +kernel
theorem dX9_giveBack_46 : decode cX9_giveBack 46 = .ok (.ireturn, 1) := by decide +kernel
theorem dX9_overdue_0 : decode cX9_overdue 0 = .ok (.iload_n 1, 1) := by decide +kernel
theorem dX9_overdue_1 : decode cX9_overdue 1 = .ok (.invokestatic 187, 3) := by decide +kernel
theorem dX9_overdue_4 : decode cX9_overdue 4 = .ok (.ifCond .eq 14, 3) := by decide +kernel
theorem dX9_overdue_7 : decode cX9_overdue 7 = .ok (.aload_n 0, 1) := by decide +kernel
theorem dX9_overdue_8 : decode cX9_overdue 8 = .ok (.getfield 48, 3) := by decide +kernel
theorem dX9_overdue_11 : decode cX9_overdue 11 = .ok (.iload_n 1, 1) := by decide +kernel
theorem dX9_overdue_12 : decode cX9_overdue 12 = .ok (.invokevirtual 209, 3) := by decide +kernel
theorem dX9_overdue_15 : decode cX9_overdue 15 = .ok (.goto 4, 3) := by decide +kernel
theorem dX9_overdue_18 : decode cX9_overdue 18 = .ok (.iconst (-1), 1) := by decide +kernel
theorem dX9_overdue_19 : decode cX9_overdue 19 = .ok (.ireturn, 1) := by decide +kernel
theorem dX9_lateOne_0 : decode cX9_lateOne 0 = .ok (.iload_n 1, 1) := by decide +kernel
theorem dX9_lateOne_1 : decode cX9_lateOne 1 = .ok (.invokestatic 187, 3) := by decide +kernel
theorem dX9_lateOne_4 : decode cX9_lateOne 4 = .ok (.ifCond .eq 15, 3) := by decide +kernel
theorem dX9_lateOne_7 : decode cX9_lateOne 7 = .ok (.aload_n 0, 1) := by decide +kernel
theorem dX9_lateOne_8 : decode cX9_lateOne 8 = .ok (.getfield 48, 3) := by decide +kernel
theorem dX9_lateOne_11 : decode cX9_lateOne 11 = .ok (.iload_n 1, 1) := by decide +kernel
theorem dX9_lateOne_12 : decode cX9_lateOne 12 = .ok (.iload_n 2, 1) := by decide +kernel
theorem dX9_lateOne_13 : decode cX9_lateOne 13 = .ok (.invokevirtual 213, 3) := by decide +kernel
theorem dX9_lateOne_16 : decode cX9_lateOne 16 = .ok (.goto 4, 3) := by decide +kernel
theorem dX9_lateOne_19 : decode cX9_lateOne 19 = .ok (.iconst (-1), 1) := by decide +kernel
theorem dX9_lateOne_20 : decode cX9_lateOne 20 = .ok (.ireturn, 1) := by decide +kernel
theorem dX9_fees_0 : decode cX9_fees 0 = .ok (.iload_n 1, 1) := by decide +kernel
theorem dX9_fees_1 : decode cX9_fees 1 = .ok (.invokestatic 184, 3) := by decide +kernel
theorem dX9_fees_4 : decode cX9_fees 4 = .ok (.ifCond .eq 10, 3) := by decide +kernel
theorem dX9_fees_7 : decode cX9_fees 7 = .ok (.iload_n 2, 1) := by decide +kernel
theorem dX9_fees_8 : decode cX9_fees 8 = .ok (.invokestatic 187, 3) := by decide +kernel
theorem dX9_fees_11 : decode cX9_fees 11 = .ok (.ifCond .ne 5, 3) := by decide +kernel
theorem dX9_fees_14 : decode cX9_fees 14 = .ok (.iconst (-1), 1) := by decide +kernel
theorem dX9_fees_15 : decode cX9_fees 15 = .ok (.ireturn, 1) := by decide +kernel
theorem dX9_fees_16 : decode cX9_fees 16 = .ok (.aload_n 0, 1) := by decide +kernel
theorem dX9_fees_17 : decode cX9_fees 17 = .ok (.getfield 48, 3) := by decide +kernel
theorem dX9_fees_20 : decode cX9_fees 20 = .ok (.iload_n 1, 1) := by decide +kernel
theorem dX9_fees_21 : decode cX9_fees 21 = .ok (.iload_n 2, 1) := by decide +kernel
theorem dX9_fees_22 : decode cX9_fees 22 = .ok (.invokevirtual 216, 3) := by decide +kernel
theorem dX9_fees_25 : decode cX9_fees 25 = .ok (.ireturn, 1) := by decide +kernel
theorem dX9_question_0 : decode cX9_question 0 = .ok (.aload_n 0, 1) := by decide +kernel
theorem dX9_question_1 : decode cX9_question 1 = .ok (.iload_n 1, 1) := by decide +kernel
theorem dX9_question_2 : decode cX9_question 2 = .ok (.invokevirtual 219, 3) := by decide +kernel
theorem dX9_question_5 : decode cX9_question 5 = .ok (.astore 6, 2) := by decide +kernel
theorem dX9_question_7 : decode cX9_question 7 = .ok (.aload 6, 2) := by decide +kernel
theorem dX9_question_9 : decode cX9_question 9 = .ok (.ifnull 39, 3) := by decide +kernel
theorem dX9_question_12 : decode cX9_question 12 = .ok (.aload 6, 2) := by decide +kernel
theorem dX9_question_14 : decode cX9_question 14 = .ok (.invokevirtual 223, 3) := by decide +kernel
theorem dX9_question_17 : decode cX9_question 17 = .ok (.ifCond .ne 31, 3) := by decide +kernel
theorem dX9_question_20 : decode cX9_question 20 = .ok (.iload_n 2, 1) := by decide +kernel
theorem dX9_question_21 : decode cX9_question 21 = .ok (.iload_n 3, 1) := by decide +kernel
theorem dX9_question_22 : decode cX9_question 22 = .ok (.invokestatic 226, 3) := by decide +kernel
theorem dX9_question_25 : decode cX9_question 25 = .ok (.ifCond .eq 23, 3) := by decide +kernel
theorem dX9_question_28 : decode cX9_question 28 = .ok (.aload 6, 2) := by decide +kernel
theorem dX9_question_30 : decode cX9_question 30 = .ok (.iload 4, 2) := by decide +kernel
theorem dX9_question_32 : decode cX9_question 32 = .ok (.invokevirtual 231, 3) := by decide +kernel
theorem dX9_question_35 : decode cX9_question 35 = .ok (.ifCond .eq 13, 3) := by decide +kernel
theorem dX9_question_38 : decode cX9_question 38 = .ok (.aload 6, 2) := by decide +kernel
theorem dX9_question_40 : decode cX9_question 40 = .ok (.iload 5, 2) := by decide +kernel
theorem dX9_question_42 : decode cX9_question 42 = .ok (.invokevirtual 231, 3) := by decide +kernel
theorem dX9_question_45 : decode cX9_question 45 = .ok (.ifCond .ne 5, 3) := by decide +kernel
theorem dX9_question_48 : decode cX9_question 48 = .ok (.iconst (-1), 1) := by decide +kernel
theorem dX9_question_49 : decode cX9_question 49 = .ok (.ireturn, 1) := by decide +kernel
theorem dX9_question_50 : decode cX9_question 50 = .ok (.aload 6, 2) := by decide +kernel
theorem dX9_question_52 : decode cX9_question 52 = .ok (.new 227, 3) := by decide +kernel
theorem dX9_question_55 : decode cX9_question 55 = .ok (.dup, 1) := by decide +kernel
theorem dX9_question_56 : decode cX9_question 56 = .ok (.iload_n 2, 1) := by decide +kernel
theorem dX9_question_57 : decode cX9_question 57 = .ok (.iload_n 3, 1) := by decide +kernel
theorem dX9_question_58 : decode cX9_question 58 = .ok (.iload 4, 2) := by decide +kernel
theorem dX9_question_60 : decode cX9_question 60 = .ok (.iload 5, 2) := by decide +kernel
theorem dX9_question_62 : decode cX9_question 62 = .ok (.invokespecial 234, 3) := by decide +kernel
theorem dX9_question_65 : decode cX9_question 65 = .ok (.invokevirtual 237, 3) := by decide +kernel
theorem dX9_question_68 : decode cX9_question 68 = .ok (.ireturn, 1) := by decide +kernel
theorem dX9_name_0 : decode cX9_name 0 = .ok (.aload_n 0, 1) := by decide +kernel
theorem dX9_name_1 : decode cX9_name 1 = .ok (.iload_n 1, 1) := by decide +kernel
theorem dX9_name_2 : decode cX9_name 2 = .ok (.invokevirtual 219, 3) := by decide +kernel
theorem dX9_name_5 : decode cX9_name 5 = .ok (.astore_n 3, 1) := by decide +kernel
theorem dX9_name_6 : decode cX9_name 6 = .ok (.aload_n 0, 1) := by decide +kernel
theorem dX9_name_7 : decode cX9_name 7 = .ok (.getfield 10, 3) := by decide +kernel
theorem dX9_name_10 : decode cX9_name 10 = .ok (.iload_n 2, 1) := by decide +kernel
theorem dX9_name_11 : decode cX9_name 11 = .ok (.invokevirtual 84, 3) := by decide +kernel
theorem dX9_name_14 : decode cX9_name 14 = .ok (.astore 4, 2) := by decide +kernel
theorem dX9_name_16 : decode cX9_name 16 = .ok (.aload_n 3, 1) := by decide +kernel
theorem dX9_name_17 : decode cX9_name 17 = .ok (.ifnull 8, 3) := by decide +kernel
theorem dX9_name_20 : decode cX9_name 20 = .ok (.aload 4, 2) := by decide +kernel
theorem dX9_name_22 : decode cX9_name 22 = .ok (.ifnonnull 5, 3) := by decide +kernel
theorem dX9_name_25 : decode cX9_name 25 = .ok (.iconst (-1), 1) := by decide +kernel
theorem dX9_name_26 : decode cX9_name 26 = .ok (.ireturn, 1) := by decide +kernel
theorem dX9_name_27 : decode cX9_name 27 = .ok (.aload_n 3, 1) := by decide +kernel
theorem dX9_name_28 : decode cX9_name 28 = .ok (.aload 4, 2) := by decide +kernel
theorem dX9_name_30 : decode cX9_name 30 = .ok (.invokevirtual 240, 3) := by decide +kernel
theorem dX9_name_33 : decode cX9_name 33 = .ok (.istore 5, 2) := by decide +kernel
theorem dX9_name_35 : decode cX9_name 35 = .ok (.aload_n 0, 1) := by decide +kernel
theorem dX9_name_36 : decode cX9_name 36 = .ok (.aload_n 3, 1) := by decide +kernel
theorem dX9_name_37 : decode cX9_name 37 = .ok (.getfield 244, 3) := by decide +kernel
theorem dX9_name_40 : decode cX9_name 40 = .ok (.putfield 56, 3) := by decide +kernel
theorem dX9_name_43 : decode cX9_name 43 = .ok (.iload 5, 2) := by decide +kernel
theorem dX9_name_45 : decode cX9_name 45 = .ok (.ireturn, 1) := by decide +kernel
theorem dX9_asked_0 : decode cX9_asked 0 = .ok (.aload_n 0, 1) := by decide +kernel
theorem dX9_asked_1 : decode cX9_asked 1 = .ok (.getfield 56, 3) := by decide +kernel
theorem dX9_asked_4 : decode cX9_asked 4 = .ok (.ireturn, 1) := by decide +kernel
theorem dX9_convert_0 : decode cX9_convert 0 = .ok (.aload_n 0, 1) := by decide +kernel
theorem dX9_convert_1 : decode cX9_convert 1 = .ok (.getfield 10, 3) := by decide +kernel
theorem dX9_convert_4 : decode cX9_convert 4 = .ok (.iload_n 1, 1) := by decide +kernel
theorem dX9_convert_5 : decode cX9_convert 5 = .ok (.invokevirtual 84, 3) := by decide +kernel
theorem dX9_convert_8 : decode cX9_convert 8 = .ok (.astore_n 3, 1) := by decide +kernel
theorem dX9_convert_9 : decode cX9_convert 9 = .ok (.aload_n 3, 1) := by decide +kernel
theorem dX9_convert_10 : decode cX9_convert 10 = .ok (.ifnull 36, 3) := by decide +kernel
theorem dX9_convert_13 : decode cX9_convert 13 = .ok (.aload_n 3, 1) := by decide +kernel
theorem dX9_convert_14 : decode cX9_convert 14 = .ok (.invokevirtual 91, 3) := by decide +kernel
theorem dX9_convert_17 : decode cX9_convert 17 = .ok (.ifCond .ne 29, 3) := by decide +kernel
theorem dX9_convert_20 : decode cX9_convert 20 = .ok (.iload_n 2, 1) := by decide +kernel
theorem dX9_convert_21 : decode cX9_convert 21 = .ok (.invokestatic 59, 3) := by decide +kernel
theorem dX9_convert_24 : decode cX9_convert 24 = .ok (.ifCond .eq 22, 3) := by decide +kernel
theorem dX9_convert_27 : decode cX9_convert 27 = .ok (.iload_n 2, 1) := by decide +kernel
theorem dX9_convert_28 : decode cX9_convert 28 = .ok (.aload_n 3, 1) := by decide +kernel
theorem dX9_convert_29 : decode cX9_convert 29 = .ok (.getfield 95, 3) := by decide +kernel
theorem dX9_convert_32 : decode cX9_convert 32 = .ok (.if_icmp .eq 14, 3) := by decide +kernel
theorem dX9_convert_35 : decode cX9_convert 35 = .ok (.aload_n 3, 1) := by decide +kernel
theorem dX9_convert_36 : decode cX9_convert 36 = .ok (.getfield 95, 3) := by decide +kernel
theorem dX9_convert_39 : decode cX9_convert 39 = .ok (.iload_n 2, 1) := by decide +kernel
theorem dX9_convert_40 : decode cX9_convert 40 = .ok (.invokestatic 247, 3) := by decide +kernel
theorem dX9_convert_43 : decode cX9_convert 43 = .ok (.ifCond .ne 5, 3) := by decide +kernel
theorem dX9_convert_46 : decode cX9_convert 46 = .ok (.iconst 0, 1) := by decide +kernel
theorem dX9_convert_47 : decode cX9_convert 47 = .ok (.ireturn, 1) := by decide +kernel
theorem dX9_convert_48 : decode cX9_convert 48 = .ok (.aload_n 3, 1) := by decide +kernel
theorem dX9_convert_49 : decode cX9_convert 49 = .ok (.iload_n 2, 1) := by decide +kernel
theorem dX9_convert_50 : decode cX9_convert 50 = .ok (.putfield 95, 3) := by decide +kernel
theorem dX9_convert_53 : decode cX9_convert 53 = .ok (.aload_n 3, 1) := by decide +kernel
theorem dX9_convert_54 : decode cX9_convert 54 = .ok (.getfield 111, 3) := by decide +kernel
theorem dX9_convert_57 : decode cX9_convert 57 = .ok (.ifnull 21, 3) := by decide +kernel
theorem dX9_convert_60 : decode cX9_convert 60 = .ok (.iload_n 2, 1) := by decide +kernel
theorem dX9_convert_61 : decode cX9_convert 61 = .ok (.aload_n 3, 1) := by decide +kernel
theorem dX9_convert_62 : decode cX9_convert 62 = .ok (.getfield 111, 3) := by decide +kernel
theorem dX9_convert_65 : decode cX9_convert 65 = .ok (.getfield 98, 3) := by decide +kernel
theorem dX9_convert_68 : decode cX9_convert 68 = .ok (.invokestatic 99, 3) := by decide +kernel
theorem dX9_convert_71 : decode cX9_convert 71 = .ok (.ifCond .ne 7, 3) := by decide +kernel
theorem dX9_convert_74 : decode cX9_convert 74 = .ok (.aload_n 3, 1) := by decide +kernel
theorem dX9_convert_75 : decode cX9_convert 75 = .ok (.invokestatic 103, 3) := by decide +kernel
theorem dX9_convert_78 : decode cX9_convert 78 = .ok (.aload_n 3, 1) := by decide +kernel
theorem dX9_convert_79 : decode cX9_convert 79 = .ok (.getfield 132, 3) := by decide +kernel
theorem dX9_convert_82 : decode cX9_convert 82 = .ok (.ifnull 22, 3) := by decide +kernel
theorem dX9_convert_85 : decode cX9_convert 85 = .ok (.iload_n 2, 1) := by decide +kernel
theorem dX9_convert_86 : decode cX9_convert 86 = .ok (.aload_n 3, 1) := by decide +kernel
theorem dX9_convert_87 : decode cX9_convert 87 = .ok (.getfield 132, 3) := by decide +kernel
theorem dX9_convert_90 : decode cX9_convert 90 = .ok (.getfield 250, 3) := by decide +kernel
theorem dX9_convert_93 : decode cX9_convert 93 = .ok (.invokestatic 99, 3) := by decide +kernel
theorem dX9_convert_96 : decode cX9_convert 96 = .ok (.ifCond .ne 8, 3) := by decide +kernel
theorem dX9_convert_99 : decode cX9_convert 99 = .ok (.aload_n 3, 1) := by decide +kernel
theorem dX9_convert_100 : decode cX9_convert 100 = .ok (.invokestatic 251, 3) := by decide +kernel
theorem dX9_convert_103 : decode cX9_convert 103 = .ok (.pop, 1) := by decide +kernel
theorem dX9_convert_104 : decode cX9_convert 104 = .ok (.iconst 1, 1) := by decide +kernel
theorem dX9_convert_105 : decode cX9_convert 105 = .ok (.ireturn, 1) := by decide +kernel
theorem dX9_find_0 : decode cX9_find 0 = .ok (.iload_n 1, 1) := by decide +kernel
theorem dX9_find_1 : decode cX9_find 1 = .ok (.invokestatic 254, 3) := by decide +kernel
theorem dX9_find_4 : decode cX9_find 4 = .ok (.ifCond .eq 16, 3) := by decide +kernel
theorem dX9_find_7 : decode cX9_find 7 = .ok (.aload_n 0, 1) := by decide +kernel
theorem dX9_find_8 : decode cX9_find 8 = .ok (.getfield 10, 3) := by decide +kernel
theorem dX9_find_11 : decode cX9_find 11 = .ok (.iload_n 1, 1) := by decide +kernel
theorem dX9_find_12 : decode cX9_find 12 = .ok (.iload_n 2, 1) := by decide +kernel
theorem dX9_find_13 : decode cX9_find 13 = .ok (.iload_n 3, 1) := by decide +kernel
theorem dX9_find_14 : decode cX9_find 14 = .ok (.invokevirtual 257, 3) := by decide +kernel
theorem dX9_find_17 : decode cX9_find 17 = .ok (.goto 4, 3) := by decide +kernel
theorem dX9_find_20 : decode cX9_find 20 = .ok (.iconst (-1), 1) := by decide +kernel
theorem dX9_find_21 : decode cX9_find 21 = .ok (.ireturn, 1) := by decide +kernel
theorem dX9_nth_0 : decode cX9_nth 0 = .ok (.iload_n 1, 1) := by decide +kernel
theorem dX9_nth_1 : decode cX9_nth 1 = .ok (.invokestatic 254, 3) := by decide +kernel
theorem dX9_nth_4 : decode cX9_nth 4 = .ok (.ifCond .eq 15, 3) := by decide +kernel
theorem dX9_nth_7 : decode cX9_nth 7 = .ok (.aload_n 0, 1) := by decide +kernel
theorem dX9_nth_8 : decode cX9_nth 8 = .ok (.getfield 10, 3) := by decide +kernel
theorem dX9_nth_11 : decode cX9_nth 11 = .ok (.iload_n 1, 1) := by decide +kernel
theorem dX9_nth_12 : decode cX9_nth 12 = .ok (.iload_n 2, 1) := by decide +kernel
theorem dX9_nth_13 : decode cX9_nth 13 = .ok (.invokevirtual 260, 3) := by decide +kernel
theorem dX9_nth_16 : decode cX9_nth 16 = .ok (.goto 4, 3) := by decide +kernel
theorem dX9_nth_19 : decode cX9_nth 19 = .ok (.iconst (-1), 1) := by decide +kernel
theorem dX9_nth_20 : decode cX9_nth 20 = .ok (.ireturn, 1) := by decide +kernel
theorem dX9_shelf_0 : decode cX9_shelf 0 = .ok (.aload_n 0, 1) := by decide +kernel
theorem dX9_shelf_1 : decode cX9_shelf 1 = .ok (.iload_n 1, 1) := by decide +kernel
theorem dX9_shelf_2 : decode cX9_shelf 2 = .ok (.invokevirtual 263, 3) := by decide +kernel
theorem dX9_shelf_5 : decode cX9_shelf 5 = .ok (.astore 4, 2) := by decide +kernel
theorem dX9_shelf_7 : decode cX9_shelf 7 = .ok (.aload 4, 2) := by decide +kernel
theorem dX9_shelf_9 : decode cX9_shelf 9 = .ok (.ifnull 29, 3) := by decide +kernel
theorem dX9_shelf_12 : decode cX9_shelf 12 = .ok (.aload 4, 2) := by decide +kernel
theorem dX9_shelf_14 : decode cX9_shelf 14 = .ok (.getfield 267, 3) := by decide +kernel
theorem dX9_shelf_17 : decode cX9_shelf 17 = .ok (.ifCond .gt 21, 3) := by decide +kernel
theorem dX9_shelf_20 : decode cX9_shelf 20 = .ok (.iload_n 2, 1) := by decide +kernel
theorem dX9_shelf_21 : decode cX9_shelf 21 = .ok (.invokestatic 74, 3) := by decide +kernel
theorem dX9_shelf_24 : decode cX9_shelf 24 = .ok (.ifCond .eq 14, 3) := by decide +kernel
theorem dX9_shelf_27 : decode cX9_shelf 27 = .ok (.iload_n 3, 1) := by decide +kernel
theorem dX9_shelf_28 : decode cX9_shelf 28 = .ok (.ifCond .lt 10, 3) := by decide +kernel
theorem dX9_shelf_31 : decode cX9_shelf 31 = .ok (.iload_n 3, 1) := by decide +kernel
theorem dX9_shelf_32 : decode cX9_shelf 32 = .ok (.ldc_w 270, 3) := by decide +kernel
theorem dX9_shelf_35 : decode cX9_shelf 35 = .ok (.if_icmp .le 5, 3) := by decide +kernel
theorem dX9_shelf_38 : decode cX9_shelf 38 = .ok (.iconst 0, 1) := by decide +kernel
theorem dX9_shelf_39 : decode cX9_shelf 39 = .ok (.ireturn, 1) := by decide +kernel
theorem dX9_shelf_40 : decode cX9_shelf 40 = .ok (.aload 4, 2) := by decide +kernel
theorem dX9_shelf_42 : decode cX9_shelf 42 = .ok (.iload_n 2, 1) := by decide +kernel
theorem dX9_shelf_43 : decode cX9_shelf 43 = .ok (.putfield 250, 3) := by decide +kernel
theorem dX9_shelf_46 : decode cX9_shelf 46 = .ok (.aload 4, 2) := by decide +kernel
theorem dX9_shelf_48 : decode cX9_shelf 48 = .ok (.iload_n 3, 1) := by decide +kernel
theorem dX9_shelf_49 : decode cX9_shelf 49 = .ok (.putfield 271, 3) := by decide +kernel
theorem dX9_shelf_52 : decode cX9_shelf 52 = .ok (.iconst 1, 1) := by decide +kernel
theorem dX9_shelf_53 : decode cX9_shelf 53 = .ok (.ireturn, 1) := by decide +kernel
theorem dX9_move_0 : decode cX9_move 0 = .ok (.aload_n 0, 1) := by decide +kernel
theorem dX9_move_1 : decode cX9_move 1 = .ok (.getfield 10, 3) := by decide +kernel
theorem dX9_move_4 : decode cX9_move 4 = .ok (.iload_n 1, 1) := by decide +kernel
theorem dX9_move_5 : decode cX9_move 5 = .ok (.invokevirtual 84, 3) := by decide +kernel
theorem dX9_move_8 : decode cX9_move 8 = .ok (.astore_n 3, 1) := by decide +kernel
theorem dX9_move_9 : decode cX9_move 9 = .ok (.aload_n 3, 1) := by decide +kernel
theorem dX9_move_10 : decode cX9_move 10 = .ok (.ifnull 10, 3) := by decide +kernel
theorem dX9_move_13 : decode cX9_move 13 = .ok (.aload_n 3, 1) := by decide +kernel
theorem dX9_move_14 : decode cX9_move 14 = .ok (.invokevirtual 91, 3) := by decide +kernel
theorem dX9_move_17 : decode cX9_move 17 = .ok (.ifCond .eq 5, 3) := by decide +kernel
theorem dX9_move_20 : decode cX9_move 20 = .ok (.iconst 0, 1) := by decide +kernel
theorem dX9_move_21 : decode cX9_move 21 = .ok (.ireturn, 1) := by decide +kernel
theorem dX9_move_22 : decode cX9_move 22 = .ok (.iload_n 2, 1) := by decide +kernel
theorem dX9_move_23 : decode cX9_move 23 = .ok (.iconst (-1), 1) := by decide +kernel
theorem dX9_move_24 : decode cX9_move 24 = .ok (.if_icmp .ne 8, 3) := by decide +kernel
theorem dX9_move_27 : decode cX9_move 27 = .ok (.aload_n 3, 1) := by decide +kernel
theorem dX9_move_28 : decode cX9_move 28 = .ok (.invokestatic 251, 3) := by decide +kernel
theorem dX9_move_31 : decode cX9_move 31 = .ok (.ireturn, 1) := by decide +kernel
theorem dX9_move_32 : decode cX9_move 32 = .ok (.aload_n 0, 1) := by decide +kernel
theorem dX9_move_33 : decode cX9_move 33 = .ok (.iload_n 2, 1) := by decide +kernel
theorem dX9_move_34 : decode cX9_move 34 = .ok (.invokevirtual 263, 3) := by decide +kernel
theorem dX9_move_37 : decode cX9_move 37 = .ok (.astore 4, 2) := by decide +kernel
theorem dX9_move_39 : decode cX9_move 39 = .ok (.aload 4, 2) := by decide +kernel
theorem dX9_move_41 : decode cX9_move 41 = .ok (.ifnull 36, 3) := by decide +kernel
theorem dX9_move_44 : decode cX9_move 44 = .ok (.aload 4, 2) := by decide +kernel
theorem dX9_move_46 : decode cX9_move 46 = .ok (.aload_n 3, 1) := by decide +kernel
theorem dX9_move_47 : decode cX9_move 47 = .ok (.getfield 132, 3) := by decide +kernel
theorem dX9_move_50 : decode cX9_move 50 = .ok (.if_acmp .eq 27, 3) := by decide +kernel
theorem dX9_move_53 : decode cX9_move 53 = .ok (.aload 4, 2) := by decide +kernel
theorem dX9_move_55 : decode cX9_move 55 = .ok (.aload_n 3, 1) := by decide +kernel
theorem dX9_move_56 : decode cX9_move 56 = .ok (.invokevirtual 274, 3) := by decide +kernel
theorem dX9_move_59 : decode cX9_move 59 = .ok (.ifCond .eq 18, 3) := by decide +kernel
theorem dX9_move_62 : decode cX9_move 62 = .ok (.aload_n 3, 1) := by decide +kernel
theorem dX9_move_63 : decode cX9_move 63 = .ok (.getfield 95, 3) := by decide +kernel
theorem dX9_move_66 : decode cX9_move 66 = .ok (.aload 4, 2) := by decide +kernel
theorem dX9_move_68 : decode cX9_move 68 = .ok (.getfield 250, 3) := by decide +kernel
theorem dX9_move_71 : decode cX9_move 71 = .ok (.invokestatic 99, 3) := by decide +kernel
theorem dX9_move_74 : decode cX9_move 74 = .ok (.ifCond .ne 5, 3) := by decide +kernel
theorem dX9_move_77 : decode cX9_move 77 = .ok (.iconst 0, 1) := by decide +kernel
theorem dX9_move_78 : decode cX9_move 78 = .ok (.ireturn, 1) := by decide +kernel
theorem dX9_move_79 : decode cX9_move 79 = .ok (.aload_n 3, 1) := by decide +kernel
theorem dX9_move_80 : decode cX9_move 80 = .ok (.invokestatic 251, 3) := by decide +kernel
theorem dX9_move_83 : decode cX9_move 83 = .ok (.pop, 1) := by decide +kernel
theorem dX9_move_84 : decode cX9_move 84 = .ok (.aload 4, 2) := by decide +kernel
theorem dX9_move_86 : decode cX9_move 86 = .ok (.aload_n 3, 1) := by decide +kernel
theorem dX9_move_87 : decode cX9_move 87 = .ok (.invokevirtual 277, 3) := by decide +kernel
theorem dX9_move_90 : decode cX9_move 90 = .ok (.aload_n 3, 1) := by decide +kernel
theorem dX9_move_91 : decode cX9_move 91 = .ok (.aload 4, 2) := by decide +kernel
theorem dX9_move_93 : decode cX9_move 93 = .ok (.putfield 132, 3) := by decide +kernel
theorem dX9_move_96 : decode cX9_move 96 = .ok (.iconst 1, 1) := by decide +kernel
theorem dX9_move_97 : decode cX9_move 97 = .ok (.ireturn, 1) := by decide +kernel
theorem dX9_count_0 : decode cX9_count 0 = .ok (.iload_n 1, 1) := by decide +kernel
theorem dX9_count_1 : decode cX9_count 1 = .ok (.tableswitch 105 0 7 #[47, 55, 60, 68, 76, 84, 92, 97], 47) := by decide +kernel
theorem dX9_count_48 : decode cX9_count 48 = .ok (.aload_n 0, 1) := by decide +kernel
theorem dX9_count_49 : decode cX9_count 49 = .ok (.getfield 10, 3) := by decide +kernel
theorem dX9_count_52 : decode cX9_count 52 = .ok (.getfield 279, 3) := by decide +kernel
theorem dX9_count_55 : decode cX9_count 55 = .ok (.ireturn, 1) := by decide +kernel
theorem dX9_count_56 : decode cX9_count 56 = .ok (.aload_n 0, 1) := by decide +kernel
theorem dX9_count_57 : decode cX9_count 57 = .ok (.getfield 52, 3) := by decide +kernel
theorem dX9_count_60 : decode cX9_count 60 = .ok (.ireturn, 1) := by decide +kernel
theorem dX9_count_61 : decode cX9_count 61 = .ok (.aload_n 0, 1) := by decide +kernel
theorem dX9_count_62 : decode cX9_count 62 = .ok (.getfield 41, 3) := by decide +kernel
theorem dX9_count_65 : decode cX9_count 65 = .ok (.invokevirtual 282, 3) := by decide +kernel
theorem dX9_count_68 : decode cX9_count 68 = .ok (.ireturn, 1) := by decide +kernel
theorem dX9_count_69 : decode cX9_count 69 = .ok (.aload_n 0, 1) := by decide +kernel
theorem dX9_count_70 : decode cX9_count 70 = .ok (.getfield 48, 3) := by decide +kernel
theorem dX9_count_73 : decode cX9_count 73 = .ok (.getfield 285, 3) := by decide +kernel
theorem dX9_count_76 : decode cX9_count 76 = .ok (.ireturn, 1) := by decide +kernel
theorem dX9_count_77 : decode cX9_count 77 = .ok (.aload_n 0, 1) := by decide +kernel
theorem dX9_count_78 : decode cX9_count 78 = .ok (.getfield 48, 3) := by decide +kernel
theorem dX9_count_81 : decode cX9_count 81 = .ok (.getfield 288, 3) := by decide +kernel
theorem dX9_count_84 : decode cX9_count 84 = .ok (.ireturn, 1) := by decide +kernel
theorem dX9_count_85 : decode cX9_count 85 = .ok (.aload_n 0, 1) := by decide +kernel
theorem dX9_count_86 : decode cX9_count 86 = .ok (.getfield 10, 3) := by decide +kernel
theorem dX9_count_89 : decode cX9_count 89 = .ok (.invokevirtual 291, 3) := by decide +kernel
theorem dX9_count_92 : decode cX9_count 92 = .ok (.ireturn, 1) := by decide +kernel
theorem dX9_count_93 : decode cX9_count 93 = .ok (.aload_n 0, 1) := by decide +kernel
theorem dX9_count_94 : decode cX9_count 94 = .ok (.invokevirtual 294, 3) := by decide +kernel
theorem dX9_count_97 : decode cX9_count 97 = .ok (.ireturn, 1) := by decide +kernel
theorem dX9_count_98 : decode cX9_count 98 = .ok (.aload_n 0, 1) := by decide +kernel
theorem dX9_count_99 : decode cX9_count 99 = .ok (.getfield 48, 3) := by decide +kernel
theorem dX9_count_102 : decode cX9_count 102 = .ok (.invokevirtual 297, 3) := by decide +kernel
theorem dX9_count_105 : decode cX9_count 105 = .ok (.ireturn, 1) := by decide +kernel
theorem dX9_count_106 : decode cX9_count 106 = .ok (.iconst (-1), 1) := by decide +kernel
theorem dX9_count_107 : decode cX9_count 107 = .ok (.ireturn, 1) := by decide +kernel
theorem dX9_boxAt_0 : decode cX9_boxAt 0 = .ok (.iload_n 1, 1) := by decide +kernel
theorem dX9_boxAt_1 : decode cX9_boxAt 1 = .ok (.ifCond .lt 29, 3) := by decide +kernel
theorem dX9_boxAt_4 : decode cX9_boxAt 4 = .ok (.iload_n 1, 1) := by decide +kernel
theorem dX9_boxAt_5 : decode cX9_boxAt 5 = .ok (.aload_n 0, 1) := by decide +kernel
theorem dX9_boxAt_6 : decode cX9_boxAt 6 = .ok (.getfield 52, 3) := by decide +kernel
theorem dX9_boxAt_9 : decode cX9_boxAt 9 = .ok (.if_icmp .ge 21, 3) := by decide +kernel
theorem dX9_boxAt_12 : decode cX9_boxAt 12 = .ok (.iload_n 1, 1) := by decide +kernel
theorem dX9_boxAt_13 : decode cX9_boxAt 13 = .ok (.aload_n 0, 1) := by decide +kernel
theorem dX9_boxAt_14 : decode cX9_boxAt 14 = .ok (.getfield 18, 3) := by decide +kernel
theorem dX9_boxAt_17 : decode cX9_boxAt 17 = .ok (.arraylength, 1) := by decide +kernel
theorem dX9_boxAt_18 : decode cX9_boxAt 18 = .ok (.if_icmp .ge 12, 3) := by decide +kernel
theorem dX9_boxAt_21 : decode cX9_boxAt 21 = .ok (.aload_n 0, 1) := by decide +kernel
theorem dX9_boxAt_22 : decode cX9_boxAt 22 = .ok (.getfield 18, 3) := by decide +kernel
theorem dX9_boxAt_25 : decode cX9_boxAt 25 = .ok (.iload_n 1, 1) := by decide +kernel
theorem dX9_boxAt_26 : decode cX9_boxAt 26 = .ok (.aaload, 1) := by decide +kernel
theorem dX9_boxAt_27 : decode cX9_boxAt 27 = .ok (.goto 4, 3) := by decide +kernel
theorem dX9_boxAt_30 : decode cX9_boxAt 30 = .ok (.aconst_null, 1) := by decide +kernel
theorem dX9_boxAt_31 : decode cX9_boxAt 31 = .ok (.areturn, 1) := by decide +kernel
theorem dX9_shelfAt_0 : decode cX9_shelfAt 0 = .ok (.iload_n 1, 1) := by decide +kernel
theorem dX9_shelfAt_1 : decode cX9_shelfAt 1 = .ok (.ifCond .lt 21, 3) := by decide +kernel
theorem dX9_shelfAt_4 : decode cX9_shelfAt 4 = .ok (.iload_n 1, 1) := by decide +kernel
theorem dX9_shelfAt_5 : decode cX9_shelfAt 5 = .ok (.aload_n 0, 1) := by decide +kernel
theorem dX9_shelfAt_6 : decode cX9_shelfAt 6 = .ok (.getfield 24, 3) := by decide +kernel
theorem dX9_shelfAt_9 : decode cX9_shelfAt 9 = .ok (.arraylength, 1) := by decide +kernel
theorem dX9_shelfAt_10 : decode cX9_shelfAt 10 = .ok (.if_icmp .ge 12, 3) := by decide +kernel
theorem dX9_shelfAt_13 : decode cX9_shelfAt 13 = .ok (.aload_n 0, 1) := by decide +kernel
theorem dX9_shelfAt_14 : decode cX9_shelfAt 14 = .ok (.getfield 24, 3) := by decide +kernel
theorem dX9_shelfAt_17 : decode cX9_shelfAt 17 = .ok (.iload_n 1, 1) := by decide +kernel
theorem dX9_shelfAt_18 : decode cX9_shelfAt 18 = .ok (.aaload, 1) := by decide +kernel
theorem dX9_shelfAt_19 : decode cX9_shelfAt 19 = .ok (.goto 4, 3) := by decide +kernel
theorem dX9_shelfAt_22 : decode cX9_shelfAt 22 = .ok (.aconst_null, 1) := by decide +kernel
theorem dX9_shelfAt_23 : decode cX9_shelfAt 23 = .ok (.areturn, 1) := by decide +kernel
theorem dX9_keyAt_0 : decode cX9_keyAt 0 = .ok (.iload_n 1, 1) := by decide +kernel
theorem dX9_keyAt_1 : decode cX9_keyAt 1 = .ok (.ifCond .lt 21, 3) := by decide +kernel
theorem dX9_keyAt_4 : decode cX9_keyAt 4 = .ok (.iload_n 1, 1) := by decide +kernel
theorem dX9_keyAt_5 : decode cX9_keyAt 5 = .ok (.aload_n 0, 1) := by decide +kernel
theorem dX9_keyAt_6 : decode cX9_keyAt 6 = .ok (.getfield 33, 3) := by decide +kernel
theorem dX9_keyAt_9 : decode cX9_keyAt 9 = .ok (.arraylength, 1) := by decide +kernel
theorem dX9_keyAt_10 : decode cX9_keyAt 10 = .ok (.if_icmp .ge 12, 3) := by decide +kernel
theorem dX9_keyAt_13 : decode cX9_keyAt 13 = .ok (.aload_n 0, 1) := by decide +kernel
theorem dX9_keyAt_14 : decode cX9_keyAt 14 = .ok (.getfield 33, 3) := by decide +kernel
theorem dX9_keyAt_17 : decode cX9_keyAt 17 = .ok (.iload_n 1, 1) := by decide +kernel
theorem dX9_keyAt_18 : decode cX9_keyAt 18 = .ok (.aaload, 1) := by decide +kernel
theorem dX9_keyAt_19 : decode cX9_keyAt 19 = .ok (.goto 4, 3) := by decide +kernel
theorem dX9_keyAt_22 : decode cX9_keyAt 22 = .ok (.aconst_null, 1) := by decide +kernel
theorem dX9_keyAt_23 : decode cX9_keyAt 23 = .ok (.areturn, 1) := by decide +kernel
theorem dX9_specimenIn_0 : decode cX9_specimenIn 0 = .ok (.aload_n 0, 1) := by decide +kernel
theorem dX9_specimenIn_1 : decode cX9_specimenIn 1 = .ok (.iload_n 1, 1) := by decide +kernel
theorem dX9_specimenIn_2 : decode cX9_specimenIn 2 = .ok (.invokevirtual 80, 3) := by decide +kernel
theorem dX9_specimenIn_5 : decode cX9_specimenIn 5 = .ok (.astore_n 3, 1) := by decide +kernel
theorem dX9_specimenIn_6 : decode cX9_specimenIn 6 = .ok (.aload_n 3, 1) := by decide +kernel
theorem dX9_specimenIn_7 : decode cX9_specimenIn 7 = .ok (.ifnonnull 7, 3) := by decide +kernel
theorem dX9_specimenIn_10 : decode cX9_specimenIn 10 = .ok (.aconst_null, 1) := by decide +kernel
theorem dX9_specimenIn_11 : decode cX9_specimenIn 11 = .ok (.goto 8, 3) := by decide +kernel
theorem dX9_specimenIn_14 : decode cX9_specimenIn 14 = .ok (.aload_n 3, 1) := by decide +kernel
theorem dX9_specimenIn_15 : decode cX9_specimenIn 15 = .ok (.iload_n 2, 1) := by decide +kernel
theorem dX9_specimenIn_16 : decode cX9_specimenIn 16 = .ok (.invokevirtual 300, 3) := by decide +kernel
theorem dX9_specimenIn_19 : decode cX9_specimenIn 19 = .ok (.areturn, 1) := by decide +kernel
theorem dX9_onShelves_0 : decode cX9_onShelves 0 = .ok (.iconst 0, 1) := by decide +kernel
theorem dX9_onShelves_1 : decode cX9_onShelves 1 = .ok (.istore_n 1, 1) := by decide +kernel
theorem dX9_onShelves_2 : decode cX9_onShelves 2 = .ok (.iconst 0, 1) := by decide +kernel
theorem dX9_onShelves_3 : decode cX9_onShelves 3 = .ok (.istore_n 2, 1) := by decide +kernel
theorem dX9_onShelves_4 : decode cX9_onShelves 4 = .ok (.iload_n 2, 1) := by decide +kernel
theorem dX9_onShelves_5 : decode cX9_onShelves 5 = .ok (.bipush 10, 2) := by decide +kernel
theorem dX9_onShelves_7 : decode cX9_onShelves 7 = .ok (.if_icmp .ge 30, 3) := by decide +kernel
theorem dX9_onShelves_10 : decode cX9_onShelves 10 = .ok (.aload_n 0, 1) := by decide +kernel
theorem dX9_onShelves_11 : decode cX9_onShelves 11 = .ok (.iload_n 2, 1) := by decide +kernel
theorem dX9_onShelves_12 : decode cX9_onShelves 12 = .ok (.invokevirtual 263, 3) := by decide +kernel
theorem dX9_onShelves_15 : decode cX9_onShelves 15 = .ok (.astore_n 3, 1) := by decide +kernel
theorem dX9_onShelves_16 : decode cX9_onShelves 16 = .ok (.iload_n 1, 1) := by decide +kernel
theorem dX9_onShelves_17 : decode cX9_onShelves 17 = .ok (.aload_n 3, 1) := by decide +kernel
theorem dX9_onShelves_18 : decode cX9_onShelves 18 = .ok (.ifnonnull 7, 3) := by decide +kernel
theorem dX9_onShelves_21 : decode cX9_onShelves 21 = .ok (.iconst 0, 1) := by decide +kernel
theorem dX9_onShelves_22 : decode cX9_onShelves 22 = .ok (.goto 7, 3) := by decide +kernel
theorem dX9_onShelves_25 : decode cX9_onShelves 25 = .ok (.aload_n 3, 1) := by decide +kernel
theorem dX9_onShelves_26 : decode cX9_onShelves 26 = .ok (.getfield 267, 3) := by decide +kernel
theorem dX9_onShelves_29 : decode cX9_onShelves 29 = .ok (.iadd, 1) := by decide +kernel
theorem dX9_onShelves_30 : decode cX9_onShelves 30 = .ok (.istore_n 1, 1) := by decide +kernel
theorem dX9_onShelves_31 : decode cX9_onShelves 31 = .ok (.iinc 2 1, 3) := by decide +kernel
theorem dX9_onShelves_34 : decode cX9_onShelves 34 = .ok (.goto (-30), 3) := by decide +kernel
theorem dX9_onShelves_37 : decode cX9_onShelves 37 = .ok (.iload_n 1, 1) := by decide +kernel
theorem dX9_onShelves_38 : decode cX9_onShelves 38 = .ok (.ireturn, 1) := by decide +kernel
theorem dX9_leavePlace_0 : decode cX9_leavePlace 0 = .ok (.aload_n 0, 1) := by decide +kernel
theorem dX9_leavePlace_1 : decode cX9_leavePlace 1 = .ok (.getfield 111, 3) := by decide +kernel
theorem dX9_leavePlace_4 : decode cX9_leavePlace 4 = .ok (.ifnull 25, 3) := by decide +kernel
theorem dX9_leavePlace_7 : decode cX9_leavePlace 7 = .ok (.aload_n 0, 1) := by decide +kernel
theorem dX9_leavePlace_8 : decode cX9_leavePlace 8 = .ok (.getfield 111, 3) := by decide +kernel
theorem dX9_leavePlace_11 : decode cX9_leavePlace 11 = .ok (.aload_n 0, 1) := by decide +kernel
theorem dX9_leavePlace_12 : decode cX9_leavePlace 12 = .ok (.getfield 115, 3) := by decide +kernel
theorem dX9_leavePlace_15 : decode cX9_leavePlace 15 = .ok (.aconst_null, 1) := by decide +kernel
theorem dX9_leavePlace_16 : decode cX9_leavePlace 16 = .ok (.invokevirtual 107, 3) := by decide +kernel
theorem dX9_leavePlace_19 : decode cX9_leavePlace 19 = .ok (.aload_n 0, 1) := by decide +kernel
theorem dX9_leavePlace_20 : decode cX9_leavePlace 20 = .ok (.aconst_null, 1) := by decide +kernel
theorem dX9_leavePlace_21 : decode cX9_leavePlace 21 = .ok (.putfield 111, 3) := by decide +kernel
theorem dX9_leavePlace_24 : decode cX9_leavePlace 24 = .ok (.aload_n 0, 1) := by decide +kernel
theorem dX9_leavePlace_25 : decode cX9_leavePlace 25 = .ok (.iconst (-1), 1) := by decide +kernel
theorem dX9_leavePlace_26 : decode cX9_leavePlace 26 = .ok (.putfield 115, 3) := by decide +kernel
theorem dX9_leavePlace_29 : decode cX9_leavePlace 29 = .ok (.return_, 1) := by decide +kernel
theorem dX9_leaveShelf_0 : decode cX9_leaveShelf 0 = .ok (.aload_n 0, 1) := by decide +kernel
theorem dX9_leaveShelf_1 : decode cX9_leaveShelf 1 = .ok (.getfield 132, 3) := by decide +kernel
theorem dX9_leaveShelf_4 : decode cX9_leaveShelf 4 = .ok (.ifnonnull 5, 3) := by decide +kernel
theorem dX9_leaveShelf_7 : decode cX9_leaveShelf 7 = .ok (.iconst 0, 1) := by decide +kernel
theorem dX9_leaveShelf_8 : decode cX9_leaveShelf 8 = .ok (.ireturn, 1) := by decide +kernel
theorem dX9_leaveShelf_9 : decode cX9_leaveShelf 9 = .ok (.aload_n 0, 1) := by decide +kernel
theorem dX9_leaveShelf_10 : decode cX9_leaveShelf 10 = .ok (.getfield 132, 3) := by decide +kernel
theorem dX9_leaveShelf_13 : decode cX9_leaveShelf 13 = .ok (.aload_n 0, 1) := by decide +kernel
theorem dX9_leaveShelf_14 : decode cX9_leaveShelf 14 = .ok (.invokevirtual 301, 3) := by decide +kernel
theorem dX9_leaveShelf_17 : decode cX9_leaveShelf 17 = .ok (.aload_n 0, 1) := by decide +kernel
theorem dX9_leaveShelf_18 : decode cX9_leaveShelf 18 = .ok (.aconst_null, 1) := by decide +kernel
theorem dX9_leaveShelf_19 : decode cX9_leaveShelf 19 = .ok (.putfield 132, 3) := by decide +kernel
theorem dX9_leaveShelf_22 : decode cX9_leaveShelf 22 = .ok (.iconst 1, 1) := by decide +kernel
theorem dX9_leaveShelf_23 : decode cX9_leaveShelf 23 = .ok (.ireturn, 1) := by decide +kernel
theorem dX9_mayBeLent_0 : decode cX9_mayBeLent 0 = .ok (.aload_n 1, 1) := by decide +kernel
theorem dX9_mayBeLent_1 : decode cX9_mayBeLent 1 = .ok (.ifnull 46, 3) := by decide +kernel
theorem dX9_mayBeLent_4 : decode cX9_mayBeLent 4 = .ok (.aload_n 1, 1) := by decide +kernel
theorem dX9_mayBeLent_5 : decode cX9_mayBeLent 5 = .ok (.invokevirtual 91, 3) := by decide +kernel
theorem dX9_mayBeLent_8 : decode cX9_mayBeLent 8 = .ok (.ifCond .ne 39, 3) := by decide +kernel
theorem dX9_mayBeLent_11 : decode cX9_mayBeLent 11 = .ok (.aload_n 0, 1) := by decide +kernel
theorem dX9_mayBeLent_12 : decode cX9_mayBeLent 12 = .ok (.getfield 41, 3) := by decide +kernel
theorem dX9_mayBeLent_15 : decode cX9_mayBeLent 15 = .ok (.aload_n 1, 1) := by decide +kernel
theorem dX9_mayBeLent_16 : decode cX9_mayBeLent 16 = .ok (.getfield 95, 3) := by decide +kernel
theorem dX9_mayBeLent_19 : decode cX9_mayBeLent 19 = .ok (.iconst 2, 1) := by decide +kernel
theorem dX9_mayBeLent_20 : decode cX9_mayBeLent 20 = .ok (.invokevirtual 178, 3) := by decide +kernel
theorem dX9_mayBeLent_23 : decode cX9_mayBeLent 23 = .ok (.ifCond .le 24, 3) := by decide +kernel
theorem dX9_mayBeLent_26 : decode cX9_mayBeLent 26 = .ok (.aload_n 0, 1) := by decide +kernel
theorem dX9_mayBeLent_27 : decode cX9_mayBeLent 27 = .ok (.getfield 41, 3) := by decide +kernel
theorem dX9_mayBeLent_30 : decode cX9_mayBeLent 30 = .ok (.aload_n 1, 1) := by decide +kernel
theorem dX9_mayBeLent_31 : decode cX9_mayBeLent 31 = .ok (.getfield 95, 3) := by decide +kernel
theorem dX9_mayBeLent_34 : decode cX9_mayBeLent 34 = .ok (.iconst 3, 1) := by decide +kernel
theorem dX9_mayBeLent_35 : decode cX9_mayBeLent 35 = .ok (.invokevirtual 178, 3) := by decide +kernel
theorem dX9_mayBeLent_38 : decode cX9_mayBeLent 38 = .ok (.bipush (-2), 2) := by decide +kernel
theorem dX9_mayBeLent_40 : decode cX9_mayBeLent 40 = .ok (.if_icmp .eq 7, 3) := by decide +kernel
theorem dX9_mayBeLent_43 : decode cX9_mayBeLent 43 = .ok (.iconst 1, 1) := by decide +kernel
theorem dX9_mayBeLent_44 : decode cX9_mayBeLent 44 = .ok (.goto 4, 3) := by decide +kernel
theorem dX9_mayBeLent_47 : decode cX9_mayBeLent 47 = .ok (.iconst 0, 1) := by decide +kernel
theorem dX9_mayBeLent_48 : decode cX9_mayBeLent 48 = .ok (.ireturn, 1) := by decide +kernel
theorem dX9_openLoan_0 : decode cX9_openLoan 0 = .ok (.aload_n 0, 1) := by decide +kernel
theorem dX9_openLoan_1 : decode cX9_openLoan 1 = .ok (.getfield 41, 3) := by decide +kernel
theorem dX9_openLoan_4 : decode cX9_openLoan 4 = .ok (.aload_n 1, 1) := by decide +kernel
theorem dX9_openLoan_5 : decode cX9_openLoan 5 = .ok (.getfield 95, 3) := by decide +kernel
theorem dX9_openLoan_8 : decode cX9_openLoan 8 = .ok (.iconst 2, 1) := by decide +kernel
theorem dX9_openLoan_9 : decode cX9_openLoan 9 = .ok (.invokevirtual 178, 3) := by decide +kernel
theorem dX9_openLoan_12 : decode cX9_openLoan 12 = .ok (.istore 4, 2) := by decide +kernel
theorem dX9_openLoan_14 : decode cX9_openLoan 14 = .ok (.iconst 0, 1) := by decide +kernel
theorem dX9_openLoan_15 : decode cX9_openLoan 15 = .ok (.aload_n 0, 1) := by decide +kernel
theorem dX9_openLoan_16 : decode cX9_openLoan 16 = .ok (.getfield 41, 3) := by decide +kernel
theorem dX9_openLoan_19 : decode cX9_openLoan 19 = .ok (.aload_n 1, 1) := by decide +kernel
theorem dX9_openLoan_20 : decode cX9_openLoan 20 = .ok (.getfield 95, 3) := by decide +kernel
theorem dX9_openLoan_23 : decode cX9_openLoan 23 = .ok (.iconst 3, 1) := by decide +kernel
theorem dX9_openLoan_24 : decode cX9_openLoan 24 = .ok (.invokevirtual 178, 3) := by decide +kernel
theorem dX9_openLoan_27 : decode cX9_openLoan 27 = .ok (.invokestatic 304, 3) := by decide +kernel
theorem dX9_openLoan_30 : decode cX9_openLoan 30 = .ok (.istore 5, 2) := by decide +kernel
theorem dX9_openLoan_32 : decode cX9_openLoan 32 = .ok (.aload_n 1, 1) := by decide +kernel
theorem dX9_openLoan_33 : decode cX9_openLoan 33 = .ok (.iload_n 2, 1) := by decide +kernel
theorem dX9_openLoan_34 : decode cX9_openLoan 34 = .ok (.iload_n 3, 1) := by decide +kernel
theorem dX9_openLoan_35 : decode cX9_openLoan 35 = .ok (.iload 4, 2) := by decide +kernel
theorem dX9_openLoan_37 : decode cX9_openLoan 37 = .ok (.iload 5, 2) := by decide +kernel
theorem dX9_openLoan_39 : decode cX9_openLoan 39 = .ok (.invokevirtual 309, 3) := by decide +kernel
theorem dX9_openLoan_42 : decode cX9_openLoan 42 = .ok (.aload_n 0, 1) := by decide +kernel
theorem dX9_openLoan_43 : decode cX9_openLoan 43 = .ok (.getfield 48, 3) := by decide +kernel
theorem dX9_openLoan_46 : decode cX9_openLoan 46 = .ok (.aload_n 1, 1) := by decide +kernel
theorem dX9_openLoan_47 : decode cX9_openLoan 47 = .ok (.invokevirtual 312, 3) := by decide +kernel
theorem dX9_openLoan_50 : decode cX9_openLoan 50 = .ok (.return_, 1) := by decide +kernel
theorem dX9_lendBox_0 : decode cX9_lendBox 0 = .ok (.aload_n 1, 1) := by decide +kernel
theorem dX9_lendBox_1 : decode cX9_lendBox 1 = .ok (.ifnonnull 5, 3) := by decide +kernel
theorem dX9_lendBox_4 : decode cX9_lendBox 4 = .ok (.iconst (-1), 1) := by decide +kernel
theorem dX9_lendBox_5 : decode cX9_lendBox 5 = .ok (.ireturn, 1) := by decide +kernel
theorem dX9_lendBox_6 : decode cX9_lendBox 6 = .ok (.iconst 0, 1) := by decide +kernel
theorem dX9_lendBox_7 : decode cX9_lendBox 7 = .ok (.istore 4, 2) := by decide +kernel
theorem dX9_lendBox_9 : decode cX9_lendBox 9 = .ok (.iconst 0, 1) := by decide +kernel
theorem dX9_lendBox_10 : decode cX9_lendBox 10 = .ok (.istore 5, 2) := by decide +kernel
theorem dX9_lendBox_12 : decode cX9_lendBox 12 = .ok (.iload 5, 2) := by decide +kernel
theorem dX9_lendBox_14 : decode cX9_lendBox 14 = .ok (.aload_n 1, 1) := by decide +kernel
theorem dX9_lendBox_15 : decode cX9_lendBox 15 = .ok (.getfield 315, 3) := by decide +kernel
theorem dX9_lendBox_18 : decode cX9_lendBox 18 = .ok (.arraylength, 1) := by decide +kernel
theorem dX9_lendBox_19 : decode cX9_lendBox 19 = .ok (.if_icmp .ge 37, 3) := by decide +kernel
theorem dX9_lendBox_22 : decode cX9_lendBox 22 = .ok (.aload_n 1, 1) := by decide +kernel
theorem dX9_lendBox_23 : decode cX9_lendBox 23 = .ok (.getfield 315, 3) := by decide +kernel
theorem dX9_lendBox_26 : decode cX9_lendBox 26 = .ok (.iload 5, 2) := by decide +kernel
theorem dX9_lendBox_28 : decode cX9_lendBox 28 = .ok (.aaload, 1) := by decide +kernel
theorem dX9_lendBox_29 : decode cX9_lendBox 29 = .ok (.astore 6, 2) := by decide +kernel
theorem dX9_lendBox_31 : decode cX9_lendBox 31 = .ok (.aload 6, 2) := by decide +kernel
theorem dX9_lendBox_33 : decode cX9_lendBox 33 = .ok (.ifnull 17, 3) := by decide +kernel
theorem dX9_lendBox_36 : decode cX9_lendBox 36 = .ok (.aload_n 0, 1) := by decide +kernel
theorem dX9_lendBox_37 : decode cX9_lendBox 37 = .ok (.aload 6, 2) := by decide +kernel
theorem dX9_lendBox_39 : decode cX9_lendBox 39 = .ok (.invokevirtual 194, 3) := by decide +kernel
theorem dX9_lendBox_42 : decode cX9_lendBox 42 = .ok (.ifCond .ne 5, 3) := by decide +kernel
theorem dX9_lendBox_45 : decode cX9_lendBox 45 = .ok (.iconst (-1), 1) := by decide +kernel
theorem dX9_lendBox_46 : decode cX9_lendBox 46 = .ok (.ireturn, 1) := by decide +kernel
theorem dX9_lendBox_47 : decode cX9_lendBox 47 = .ok (.iinc 4 1, 3) := by decide +kernel
theorem dX9_lendBox_50 : decode cX9_lendBox 50 = .ok (.iinc 5 1, 3) := by decide +kernel
theorem dX9_lendBox_53 : decode cX9_lendBox 53 = .ok (.goto (-41), 3) := by decide +kernel
theorem dX9_lendBox_56 : decode cX9_lendBox 56 = .ok (.iload 4, 2) := by decide +kernel
theorem dX9_lendBox_58 : decode cX9_lendBox 58 = .ok (.ifCond .eq 16, 3) := by decide +kernel
theorem dX9_lendBox_61 : decode cX9_lendBox 61 = .ok (.aload_n 0, 1) := by decide +kernel
theorem dX9_lendBox_62 : decode cX9_lendBox 62 = .ok (.getfield 48, 3) := by decide +kernel
theorem dX9_lendBox_65 : decode cX9_lendBox 65 = .ok (.iload_n 2, 1) := by decide +kernel
theorem dX9_lendBox_66 : decode cX9_lendBox 66 = .ok (.iload 4, 2) := by decide +kernel
theorem dX9_lendBox_68 : decode cX9_lendBox 68 = .ok (.invokevirtual 198, 3) := by decide +kernel
theorem dX9_lendBox_71 : decode cX9_lendBox 71 = .ok (.ifCond .ne 5, 3) := by decide +kernel
theorem dX9_lendBox_74 : decode cX9_lendBox 74 = .ok (.iconst (-1), 1) := by decide +kernel
theorem dX9_lendBox_75 : decode cX9_lendBox 75 = .ok (.ireturn, 1) := by decide +kernel
theorem dX9_lendBox_76 : decode cX9_lendBox 76 = .ok (.iconst 0, 1) := by decide +kernel
theorem dX9_lendBox_77 : decode cX9_lendBox 77 = .ok (.istore 5, 2) := by decide +kernel
theorem dX9_lendBox_79 : decode cX9_lendBox 79 = .ok (.iload 5, 2) := by decide +kernel
theorem dX9_lendBox_81 : decode cX9_lendBox 81 = .ok (.aload_n 1, 1) := by decide +kernel
theorem dX9_lendBox_82 : decode cX9_lendBox 82 = .ok (.getfield 315, 3) := by decide +kernel
theorem dX9_lendBox_85 : decode cX9_lendBox 85 = .ok (.arraylength, 1) := by decide +kernel
theorem dX9_lendBox_86 : decode cX9_lendBox 86 = .ok (.if_icmp .ge 31, 3) := by decide +kernel
theorem dX9_lendBox_89 : decode cX9_lendBox 89 = .ok (.aload_n 1, 1) := by decide +kernel
theorem dX9_lendBox_90 : decode cX9_lendBox 90 = .ok (.getfield 315, 3) := by decide +kernel
theorem dX9_lendBox_93 : decode cX9_lendBox 93 = .ok (.iload 5, 2) := by decide +kernel
theorem dX9_lendBox_95 : decode cX9_lendBox 95 = .ok (.aaload, 1) := by decide +kernel
theorem dX9_lendBox_96 : decode cX9_lendBox 96 = .ok (.astore 6, 2) := by decide +kernel
theorem dX9_lendBox_98 : decode cX9_lendBox 98 = .ok (.aload 6, 2) := by decide +kernel
theorem dX9_lendBox_100 : decode cX9_lendBox 100 = .ok (.ifnull 11, 3) := by decide +kernel
theorem dX9_lendBox_103 : decode cX9_lendBox 103 = .ok (.aload_n 0, 1) := by decide +kernel
theorem dX9_lendBox_104 : decode cX9_lendBox 104 = .ok (.aload 6, 2) := by decide +kernel
theorem dX9_lendBox_106 : decode cX9_lendBox 106 = .ok (.iload_n 2, 1) := by decide +kernel
theorem dX9_lendBox_107 : decode cX9_lendBox 107 = .ok (.iload_n 3, 1) := by decide +kernel
theorem dX9_lendBox_108 : decode cX9_lendBox 108 = .ok (.invokevirtual 201, 3) := by decide +kernel
theorem dX9_lendBox_111 : decode cX9_lendBox 111 = .ok (.iinc 5 1, 3) := by decide +kernel
theorem dX9_lendBox_114 : decode cX9_lendBox 114 = .ok (.goto (-35), 3) := by decide +kernel
theorem dX9_lendBox_117 : decode cX9_lendBox 117 = .ok (.iload 4, 2) := by decide +kernel
theorem dX9_lendBox_119 : decode cX9_lendBox 119 = .ok (.ireturn, 1) := by decide +kernel
theorem dJ13_bitCount_95d88_0 : decode cJ13_bitCount_95d88 0 = .ok (.lload_n 0, 1) := by decide +kernel
theorem dJ13_bitCount_95d88_1 : decode cJ13_bitCount_95d88 1 = .ok (.lload_n 0, 1) := by decide +kernel
theorem dJ13_bitCount_95d88_2 : decode cJ13_bitCount_95d88 2 = .ok (.iconst 1, 1) := by decide +kernel
theorem dJ13_bitCount_95d88_3 : decode cJ13_bitCount_95d88 3 = .ok (.lushr, 1) := by decide +kernel
theorem dJ13_bitCount_95d88_4 : decode cJ13_bitCount_95d88 4 = .ok (.ldc2_w 314, 3) := by decide +kernel
theorem dJ13_bitCount_95d88_7 : decode cJ13_bitCount_95d88 7 = .ok (.land, 1) := by decide +kernel
theorem dJ13_bitCount_95d88_8 : decode cJ13_bitCount_95d88 8 = .ok (.lsub, 1) := by decide +kernel
theorem dJ13_bitCount_95d88_9 : decode cJ13_bitCount_95d88 9 = .ok (.lstore_n 0, 1) := by decide +kernel
theorem dJ13_bitCount_95d88_10 : decode cJ13_bitCount_95d88 10 = .ok (.lload_n 0, 1) := by decide +kernel
theorem dJ13_bitCount_95d88_11 : decode cJ13_bitCount_95d88 11 = .ok (.ldc2_w 316, 3) := by decide +kernel
theorem dJ13_bitCount_95d88_14 : decode cJ13_bitCount_95d88 14 = .ok (.land, 1) := by decide +kernel
theorem dJ13_bitCount_95d88_15 : decode cJ13_bitCount_95d88 15 = .ok (.lload_n 0, 1) := by decide +kernel
theorem dJ13_bitCount_95d88_16 : decode cJ13_bitCount_95d88 16 = .ok (.iconst 2, 1) := by decide +kernel
theorem dJ13_bitCount_95d88_17 : decode cJ13_bitCount_95d88 17 = .ok (.lushr, 1) := by decide +kernel
theorem dJ13_bitCount_95d88_18 : decode cJ13_bitCount_95d88 18 = .ok (.ldc2_w 316, 3) := by decide +kernel
theorem dJ13_bitCount_95d88_21 : decode cJ13_bitCount_95d88 21 = .ok (.land, 1) := by decide +kernel
theorem dJ13_bitCount_95d88_22 : decode cJ13_bitCount_95d88 22 = .ok (.ladd, 1) := by decide +kernel
theorem dJ13_bitCount_95d88_23 : decode cJ13_bitCount_95d88 23 = .ok (.lstore_n 0, 1) := by decide +kernel
theorem dJ13_bitCount_95d88_24 : decode cJ13_bitCount_95d88 24 = .ok (.lload_n 0, 1) := by decide +kernel
theorem dJ13_bitCount_95d88_25 : decode cJ13_bitCount_95d88 25 = .ok (.lload_n 0, 1) := by decide +kernel
theorem dJ13_bitCount_95d88_26 : decode cJ13_bitCount_95d88 26 = .ok (.iconst 4, 1) := by decide +kernel
theorem dJ13_bitCount_95d88_27 : decode cJ13_bitCount_95d88 27 = .ok (.lushr, 1) := by decide +kernel
theorem dJ13_bitCount_95d88_28 : decode cJ13_bitCount_95d88 28 = .ok (.ladd, 1) := by decide +kernel
theorem dJ13_bitCount_95d88_29 : decode cJ13_bitCount_95d88 29 = .ok (.ldc2_w 318, 3) := by decide +kernel
theorem dJ13_bitCount_95d88_32 : decode cJ13_bitCount_95d88 32 = .ok (.land, 1) := by decide +kernel
theorem dJ13_bitCount_95d88_33 : decode cJ13_bitCount_95d88 33 = .ok (.lstore_n 0, 1) := by decide +kernel
theorem dJ13_bitCount_95d88_34 : decode cJ13_bitCount_95d88 34 = .ok (.lload_n 0, 1) := by decide +kernel
theorem dJ13_bitCount_95d88_35 : decode cJ13_bitCount_95d88 35 = .ok (.lload_n 0, 1) := by decide +kernel
theorem dJ13_bitCount_95d88_36 : decode cJ13_bitCount_95d88 36 = .ok (.bipush 8, 2) := by decide +kernel
theorem dJ13_bitCount_95d88_38 : decode cJ13_bitCount_95d88 38 = .ok (.lushr, 1) := by decide +kernel
theorem dJ13_bitCount_95d88_39 : decode cJ13_bitCount_95d88 39 = .ok (.ladd, 1) := by decide +kernel
theorem dJ13_bitCount_95d88_40 : decode cJ13_bitCount_95d88 40 = .ok (.lstore_n 0, 1) := by decide +kernel
theorem dJ13_bitCount_95d88_41 : decode cJ13_bitCount_95d88 41 = .ok (.lload_n 0, 1) := by decide +kernel
theorem dJ13_bitCount_95d88_42 : decode cJ13_bitCount_95d88 42 = .ok (.lload_n 0, 1) := by decide +kernel
theorem dJ13_bitCount_95d88_43 : decode cJ13_bitCount_95d88 43 = .ok (.bipush 16, 2) := by decide +kernel
theorem dJ13_bitCount_95d88_45 : decode cJ13_bitCount_95d88 45 = .ok (.lushr, 1) := by decide +kernel
theorem dJ13_bitCount_95d88_46 : decode cJ13_bitCount_95d88 46 = .ok (.ladd, 1) := by decide +kernel
theorem dJ13_bitCount_95d88_47 : decode cJ13_bitCount_95d88 47 = .ok (.lstore_n 0, 1) := by decide +kernel
theorem dJ13_bitCount_95d88_48 : decode cJ13_bitCount_95d88 48 = .ok (.lload_n 0, 1) := by decide +kernel
theorem dJ13_bitCount_95d88_49 : decode cJ13_bitCount_95d88 49 = .ok (.lload_n 0, 1) := by decide +kernel
theorem dJ13_bitCount_95d88_50 : decode cJ13_bitCount_95d88 50 = .ok (.bipush 32, 2) := by decide +kernel
theorem dJ13_bitCount_95d88_52 : decode cJ13_bitCount_95d88 52 = .ok (.lushr, 1) := by decide +kernel
theorem dJ13_bitCount_95d88_53 : decode cJ13_bitCount_95d88 53 = .ok (.ladd, 1) := by decide +kernel
theorem dJ13_bitCount_95d88_54 : decode cJ13_bitCount_95d88 54 = .ok (.lstore_n 0, 1) := by decide +kernel
theorem dJ13_bitCount_95d88_55 : decode cJ13_bitCount_95d88 55 = .ok (.lload_n 0, 1) := by decide +kernel
theorem dJ13_bitCount_95d88_56 : decode cJ13_bitCount_95d88 56 = .ok (.l2i, 1) := by decide +kernel
theorem dJ13_bitCount_95d88_57 : decode cJ13_bitCount_95d88 57 = .ok (.bipush 127, 2) := by decide +kernel
theorem dJ13_bitCount_95d88_59 : decode cJ13_bitCount_95d88 59 = .ok (.iand, 1) := by decide +kernel
theorem dJ13_bitCount_95d88_60 : decode cJ13_bitCount_95d88 60 = .ok (.ireturn, 1) := by decide +kernel
theorem dJ9_max_7cf53_0 : decode cJ9_max_7cf53 0 = .ok (.iload_n 0, 1) := by decide +kernel
theorem dJ9_max_7cf53_1 : decode cJ9_max_7cf53 1 = .ok (.iload_n 1, 1) := by decide +kernel
theorem dJ9_max_7cf53_2 : decode cJ9_max_7cf53 2 = .ok (.if_icmp .lt 7, 3) := by decide +kernel
theorem dJ9_max_7cf53_5 : decode cJ9_max_7cf53 5 = .ok (.iload_n 0, 1) := by decide +kernel
theorem dJ9_max_7cf53_6 : decode cJ9_max_7cf53 6 = .ok (.goto 4, 3) := by decide +kernel
theorem dJ9_max_7cf53_9 : decode cJ9_max_7cf53 9 = .ok (.iload_n 1, 1) := by decide +kernel
theorem dJ9_max_7cf53_10 : decode cJ9_max_7cf53 10 = .ok (.ireturn, 1) := by decide +kernel
theorem dJ9_min_7cf53_0 : decode cJ9_min_7cf53 0 = .ok (.iload_n 0, 1) := by decide +kernel
theorem dJ9_min_7cf53_1 : decode cJ9_min_7cf53 1 = .ok (.iload_n 1, 1) := by decide +kernel
theorem dJ9_min_7cf53_2 : decode cJ9_min_7cf53 2 = .ok (.if_icmp .gt 7, 3) := by decide +kernel
theorem dJ9_min_7cf53_5 : decode cJ9_min_7cf53 5 = .ok (.iload_n 0, 1) := by decide +kernel
theorem dJ9_min_7cf53_6 : decode cJ9_min_7cf53 6 = .ok (.goto 4, 3) := by decide +kernel
theorem dJ9_min_7cf53_9 : decode cJ9_min_7cf53 9 = .ok (.iload_n 1, 1) := by decide +kernel
theorem dJ9_min_7cf53_10 : decode cJ9_min_7cf53 10 = .ok (.ireturn, 1) := by decide +kernel
end
section
def f_X0_init (h : mH) (a0 : Nat) (a1 : Int32) (a2 : Int32) (a3 : Int32) : Option (mH) :=
  (m_pf h a0 0 0 (.int a1)).bind fun h1 =>
  (m_pf h1 a0 0 1 (.int a2)).bind fun h3 =>
  (m_newr h3 2 (if 0 < a3 then a3 else 0)).bind fun h5 =>
  (m_pf h5 a0 0 2 (va_rf ((some h3.1)))).bind fun h7 =>
  some h7
def Y_X0_init : mY := (yX0_init, cX0_init, 4, none, .return_)
theorem ok_X0_init : m_Ok Y_X0_init := ⟨by decide +kernel, ⟨by decide +kernel, by decide +kernel⟩, tw_2_8, tw_1_10, by decide, Or.inl ⟨rfl, rfl⟩⟩
theorem nn_X0_init : (parseMethodDescriptor Y_X0_init.1.desc).map (fun q => q.parameters.length) = some 3 := by decide +kernel
set_option maxHeartbeats 4000000 in
set_option maxRecDepth 20000 in
theorem j_X0_init {X : mX} {d : Nat} {h : mH} {a0 : Nat} {a1 : Int32} {a2 : Int32} {a3 : Int32} {h' : mH} (hd : 1 ≤ d) (hr : f_X0_init h a0 a1 a2 a3 = some h') : m_J X Y_X0_init d 0 [some (.ref a0), some (.int a1), some (.int a2), some (.int a3)] [] h (none, h') := by
  obtain ⟨d, rfl⟩ : ∃ k, d = k + 1 := ⟨d - 1, by omega⟩
  unfold f_X0_init at hr
  refine j_aload_n (i := 0) rfl rfl dX0_init_0 ?_
  refine j_objInit tw_2_9 (Nat.le_of_ble_eq_true rfl) dX0_init_1 ?_
  refine j_aload_n (i := 0) rfl rfl dX0_init_4 ?_
  refine j_iload_n (i := 1) rfl rfl dX0_init_5 ?_
  replace hr := m_bind hr; obtain ⟨h1, g2, hr⟩ := hr
  refine j_putiF (C := RX0) (T := TX0) (ty := tyX0) (N := 3) (ci := 0) (k := 0) rfl (by decide) inX0 tyX0_ok nmX0 tw_2_14 rfl rfl rfl rfl dX0_init_6 g2 ?_
  refine j_aload_n (i := 0) rfl rfl dX0_init_9 ?_
  refine j_iload_n (i := 2) rfl rfl dX0_init_10 ?_
  replace hr := m_bind hr; obtain ⟨h3, g4, hr⟩ := hr
  refine j_putiF (C := RX0) (T := TX0) (ty := tyX0) (N := 3) (ci := 0) (k := 1) rfl (by decide) inX0 tyX0_ok nmX0 tw_2_16 rfl rfl rfl rfl dX0_init_11 g4 ?_
  refine j_aload_n (i := 0) rfl rfl dX0_init_14 ?_
  refine j_iconst (v := 0) rfl dX0_init_15 ?_
  refine j_iload_n (i := 3) rfl rfl dX0_init_16 ?_
  refine j_max tw_2_10 (Nat.le_of_ble_eq_true rfl) rfl dX0_init_17 ?_
  replace hr := m_bind hr; obtain ⟨h5, g6, hr⟩ := hr
  refine j_newr (t := 2) (by decide) tw_2_13 dX0_init_20 g6 ?_
  replace hr := m_bind hr; obtain ⟨h7, g8, hr⟩ := hr
  refine j_putrF (q := (some h3.1)) (C := RX0) (T := TX0) (ty := tyX0) (N := 3) (ci := 0) (k := 2) rfl (by decide) inX0 tyX0_ok nmX0 tw_2_18 rfl rfl rfl rfl dX0_init_23 g8 ?_
  cases hr
  exact j_ret dX0_init_26 m_rk_v
def f_X0_hasPlace (h : mH) (a0 : Nat) (a1 : Int32) : Option (Int32) :=
  if a1 < 0 then
    some 0
  else
    (m_gr h a0 0 2).bind fun q2 =>
    (q2).bind fun b4 =>
    (m_len h b4).bind fun x6 =>
    if x6 ≤ a1 then
      some 0
    else
      some 1
def Y_X0_hasPlace : mY := (yX0_hasPlace, cX0_hasPlace, 2, some (FieldType.boolean), .ireturn)
theorem ok_X0_hasPlace : m_Ok Y_X0_hasPlace := ⟨by decide +kernel, ⟨by decide +kernel, by decide +kernel⟩, tw_2_46, tw_1_10, by decide, Or.inr (Or.inl ⟨Or.inr rfl, rfl⟩)⟩
theorem nn_X0_hasPlace : (parseMethodDescriptor Y_X0_hasPlace.1.desc).map (fun q => q.parameters.length) = some 1 := by decide +kernel
set_option maxHeartbeats 4000000 in
set_option maxRecDepth 20000 in
theorem j_X0_hasPlace {X : mX} {d : Nat} {h : mH} {a0 : Nat} {a1 : Int32} {rv : Int32} (hr : f_X0_hasPlace h a0 a1 = some rv) : m_J X Y_X0_hasPlace d 0 [some (.ref a0), some (.int a1)] [] h (some (.int rv), h) := by
  unfold f_X0_hasPlace at hr
  refine j_iload_n (i := 1) rfl rfl dX0_hasPlace_0 ?_
  refine j_if_lt (tgt := 17) dX0_hasPlace_1 rfl (fun c1 => ?_) (fun c1 => ?_)
  · rw [if_pos c1] at hr
    refine j_iconst (v := 0) rfl dX0_hasPlace_17 ?_
    cases hr
    exact j_ret dX0_hasPlace_18 m_rk_z0
  · rw [if_neg c1] at hr
    refine j_iload_n (i := 1) rfl rfl dX0_hasPlace_4 ?_
    refine j_aload_n (i := 0) rfl rfl dX0_hasPlace_5 ?_
    replace hr := m_bind hr; obtain ⟨q2, g3, hr⟩ := hr
    refine j_getf (C := RX0) (T := TX0) (N := 3) (ci := 0) (k := 2) rfl (by decide) inX0 tw_2_18 dX0_hasPlace_6 (m_gr_spec g3) ?_
    replace hr := m_bind hr; obtain ⟨b4, g5, hr⟩ := hr
    subst g5
    replace hr := m_bind hr; obtain ⟨x6, g7, hr⟩ := hr
    refine j_alen dX0_hasPlace_9 g7 ?_
    refine j_ic_ge (tgt := 17) dX0_hasPlace_10 rfl (fun c8 => ?_) (fun c8 => ?_)
    · rw [if_pos c8] at hr
      refine j_iconst (v := 0) rfl dX0_hasPlace_17 ?_
      cases hr
      exact j_ret dX0_hasPlace_18 m_rk_z0
    · rw [if_neg c8] at hr
      refine j_iconst (v := 1) rfl dX0_hasPlace_13 ?_
      refine j_goto (tgt := 18) dX0_hasPlace_14 rfl ?_
      cases hr
      exact j_ret dX0_hasPlace_18 m_rk_z1
def f_X0_isFree (h : mH) (a0 : Nat) (a1 : Int32) : Option (Int32) :=
  if m_ob h a0 0 = true then
    (f_X0_hasPlace h a0 a1).bind fun r2 =>
    if r2 = 0 then
      some 0
    else
      (m_gr h a0 0 2).bind fun q4 =>
      (q4).bind fun b6 =>
      (m_ald h b6 a1).bind fun q8 =>
      match q8 with
      | none =>
        some 1
      | some b10 =>
        some 0
  else none
def Y_X0_isFree : mY := (yX0_isFree, cX0_isFree, 2, some (FieldType.boolean), .ireturn)
theorem ok_X0_isFree : m_Ok Y_X0_isFree := ⟨by decide +kernel, ⟨by decide +kernel, by decide +kernel⟩, tw_2_42, tw_1_10, by decide, Or.inr (Or.inl ⟨Or.inr rfl, rfl⟩)⟩
theorem nn_X0_isFree : (parseMethodDescriptor Y_X0_isFree.1.desc).map (fun q => q.parameters.length) = some 1 := by decide +kernel
set_option maxHeartbeats 4000000 in
set_option maxRecDepth 20000 in
theorem j_X0_isFree {X : mX} {d : Nat} {h : mH} {a0 : Nat} {a1 : Int32} {rv : Int32} (hd : 1 ≤ d) (hr : f_X0_isFree h a0 a1 = some rv) : m_J X Y_X0_isFree d 0 [some (.ref a0), some (.int a1)] [] h (some (.int rv), h) := by
  obtain ⟨d, rfl⟩ : ∃ k, d = k + 1 := ⟨d - 1, by omega⟩
  unfold f_X0_isFree at hr
  refine j_aload_n (i := 0) rfl rfl dX0_isFree_0 ?_
  refine j_iload_n (i := 1) rfl rfl dX0_isFree_1 ?_
  by_cases o11 : m_ob h a0 0 = true
  · rw [if_pos o11] at hr
    replace hr := m_bind hr; obtain ⟨r2, g1, hr⟩ := hr
    refine j_callV (Y' := Y_X0_hasPlace) (a := a0) (as := [.int a1]) (ci := 0) (T := TX0) (N := 3) ok_X0_hasPlace [some (.ref a0), some (.int a1)] rfl rfl rfl tw_2_43 tw_2_45 tw_p_1 nn_X0_hasPlace (Nat.le_of_ble_eq_true rfl) dX0_isFree_2 o11 (j_X0_hasPlace g1) ?_
    refine j_if_eq (tgt := 21) dX0_isFree_5 rfl (fun c3 => ?_) (fun c3 => ?_)
    · rw [if_pos c3] at hr
      refine j_iconst (v := 0) rfl dX0_isFree_21 ?_
      cases hr
      exact j_ret dX0_isFree_22 m_rk_z0
    · rw [if_neg c3] at hr
      refine j_aload_n (i := 0) rfl rfl dX0_isFree_8 ?_
      replace hr := m_bind hr; obtain ⟨q4, g5, hr⟩ := hr
      refine j_getf (C := RX0) (T := TX0) (N := 3) (ci := 0) (k := 2) rfl (by decide) inX0 tw_2_18 dX0_isFree_9 (m_gr_spec g5) ?_
      refine j_iload_n (i := 1) rfl rfl dX0_isFree_12 ?_
      replace hr := m_bind hr; obtain ⟨b6, g7, hr⟩ := hr
      subst g7
      replace hr := m_bind hr; obtain ⟨q8, g9, hr⟩ := hr
      refine j_aaload dX0_isFree_13 g9 ?_
      cases q8 with
      | none =>
        dsimp only at hr
        refine j_ifnonnull_n dX0_isFree_14 ?_
        refine j_iconst (v := 1) rfl dX0_isFree_17 ?_
        refine j_goto (tgt := 22) dX0_isFree_18 rfl ?_
        cases hr
        exact j_ret dX0_isFree_22 m_rk_z1
      | some b10 =>
        dsimp only at hr
        refine j_ifnonnull_r (tgt := 21) dX0_isFree_14 rfl ?_
        refine j_iconst (v := 0) rfl dX0_isFree_21 ?_
        cases hr
        exact j_ret dX0_isFree_22 m_rk_z0
  · rw [if_neg o11] at hr
    cases hr
def f_X0_at (h : mH) (a0 : Nat) (a1 : Int32) : Option (Option Nat) :=
  if m_ob h a0 0 = true then
    (f_X0_hasPlace h a0 a1).bind fun r2 =>
    if r2 = 0 then
      some none
    else
      (m_gr h a0 0 2).bind fun q4 =>
      (q4).bind fun b6 =>
      (m_ald h b6 a1).bind fun q8 =>
      some q8
  else none
def Y_X0_at : mY := (yX0_at, cX0_at, 2, some ((FieldType.object "SpecimenHall$Specimen")), .areturn)
theorem ok_X0_at : m_Ok Y_X0_at := ⟨by decide +kernel, ⟨by decide +kernel, by decide +kernel⟩, tw_2_87, tw_1_10, by decide, Or.inr (Or.inr (Or.inr ⟨⟨_, rfl⟩, rfl⟩))⟩
theorem nn_X0_at : (parseMethodDescriptor Y_X0_at.1.desc).map (fun q => q.parameters.length) = some 1 := by decide +kernel
set_option maxHeartbeats 4000000 in
set_option maxRecDepth 20000 in
theorem j_X0_at {X : mX} {d : Nat} {h : mH} {a0 : Nat} {a1 : Int32} {rv : Option Nat} (hd : 1 ≤ d) (hr : f_X0_at h a0 a1 = some rv) : m_J X Y_X0_at d 0 [some (.ref a0), some (.int a1)] [] h (some (va_rf rv), h) := by
  obtain ⟨d, rfl⟩ : ∃ k, d = k + 1 := ⟨d - 1, by omega⟩
  unfold f_X0_at at hr
  refine j_aload_n (i := 0) rfl rfl dX0_at_0 ?_
  refine j_iload_n (i := 1) rfl rfl dX0_at_1 ?_
  by_cases o10 : m_ob h a0 0 = true
  · rw [if_pos o10] at hr
    replace hr := m_bind hr; obtain ⟨r2, g1, hr⟩ := hr
    refine j_callV (Y' := Y_X0_hasPlace) (a := a0) (as := [.int a1]) (ci := 0) (T := TX0) (N := 3) ok_X0_hasPlace [some (.ref a0), some (.int a1)] rfl rfl rfl tw_2_43 tw_2_45 tw_p_1 nn_X0_hasPlace (Nat.le_of_ble_eq_true rfl) dX0_at_2 o10 (j_X0_hasPlace g1) ?_
    refine j_if_eq (tgt := 17) dX0_at_5 rfl (fun c3 => ?_) (fun c3 => ?_)
    · rw [if_pos c3] at hr
      refine j_null dX0_at_17 ?_
      cases hr
      exact j_ret dX0_at_18 (m_rk_r _)
    · rw [if_neg c3] at hr
      refine j_aload_n (i := 0) rfl rfl dX0_at_8 ?_
      replace hr := m_bind hr; obtain ⟨q4, g5, hr⟩ := hr
      refine j_getf (C := RX0) (T := TX0) (N := 3) (ci := 0) (k := 2) rfl (by decide) inX0 tw_2_18 dX0_at_9 (m_gr_spec g5) ?_
      refine j_iload_n (i := 1) rfl rfl dX0_at_12 ?_
      replace hr := m_bind hr; obtain ⟨b6, g7, hr⟩ := hr
      subst g7
      replace hr := m_bind hr; obtain ⟨q8, g9, hr⟩ := hr
      refine j_aaload dX0_at_13 g9 ?_
      refine j_goto (tgt := 18) dX0_at_14 rfl ?_
      cases hr
      exact j_ret dX0_at_18 (m_rk_r _)
  · rw [if_neg o10] at hr
    cases hr
def f_X0_set (h : mH) (a0 : Nat) (a1 : Int32) (a2 : Option Nat) : Option (mH) :=
  if m_ob h a0 0 = true then
    (f_X0_hasPlace h a0 a1).bind fun r2 =>
    if r2 = 0 then
      some h
    else
      (m_gr h a0 0 2).bind fun q4 =>
      (q4).bind fun b6 =>
      (m_ast h b6 a1 a2).bind fun h8 =>
      some h8
  else none
def Y_X0_set : mY := (yX0_set, cX0_set, 3, none, .return_)
theorem ok_X0_set : m_Ok Y_X0_set := ⟨by decide +kernel, ⟨by decide +kernel, by decide +kernel⟩, tw_2_75, tw_1_10, by decide, Or.inl ⟨rfl, rfl⟩⟩
theorem nn_X0_set : (parseMethodDescriptor Y_X0_set.1.desc).map (fun q => q.parameters.length) = some 2 := by decide +kernel
set_option maxHeartbeats 4000000 in
set_option maxRecDepth 20000 in
theorem j_X0_set {X : mX} {d : Nat} {h : mH} {a0 : Nat} {a1 : Int32} {a2 : Option Nat} {h' : mH} (hd : 1 ≤ d) (hr : f_X0_set h a0 a1 a2 = some h') : m_J X Y_X0_set d 0 [some (.ref a0), some (.int a1), some (va_rf a2)] [] h (none, h') := by
  obtain ⟨d, rfl⟩ : ∃ k, d = k + 1 := ⟨d - 1, by omega⟩
  unfold f_X0_set at hr
  refine j_aload_n (i := 0) rfl rfl dX0_set_0 ?_
  refine j_iload_n (i := 1) rfl rfl dX0_set_1 ?_
  by_cases o10 : m_ob h a0 0 = true
  · rw [if_pos o10] at hr
    replace hr := m_bind hr; obtain ⟨r2, g1, hr⟩ := hr
    refine j_callV (Y' := Y_X0_hasPlace) (a := a0) (as := [.int a1]) (ci := 0) (T := TX0) (N := 3) ok_X0_hasPlace [some (.ref a0), some (.int a1)] rfl rfl rfl tw_2_43 tw_2_45 tw_p_1 nn_X0_hasPlace (Nat.le_of_ble_eq_true rfl) dX0_set_2 o10 (j_X0_hasPlace g1) ?_
    refine j_if_eq (tgt := 15) dX0_set_5 rfl (fun c3 => ?_) (fun c3 => ?_)
    · rw [if_pos c3] at hr
      cases hr
      exact j_ret dX0_set_15 m_rk_v
    · rw [if_neg c3] at hr
      refine j_aload_n (i := 0) rfl rfl dX0_set_8 ?_
      replace hr := m_bind hr; obtain ⟨q4, g5, hr⟩ := hr
      refine j_getf (C := RX0) (T := TX0) (N := 3) (ci := 0) (k := 2) rfl (by decide) inX0 tw_2_18 dX0_set_9 (m_gr_spec g5) ?_
      refine j_iload_n (i := 1) rfl rfl dX0_set_12 ?_
      refine j_aloadq_n (q := a2) (i := 2) rfl rfl dX0_set_13 ?_
      replace hr := m_bind hr; obtain ⟨b6, g7, hr⟩ := hr
      subst g7
      replace hr := m_bind hr; obtain ⟨h8, g9, hr⟩ := hr
      refine j_aastore (q := a2) dX0_set_14 g9 ?_
      cases hr
      exact j_ret dX0_set_15 m_rk_v
  · rw [if_neg o10] at hr
    cases hr
def f_X1_isKind (a0 : Int32) : Option (Int32) :=
  if a0 < 0 then
    some 0
  else
    if 24 ≤ a0 then
      some 0
    else
      some 1
def Y_X1_isKind : mY := (yX1_isKind, cX1_isKind, 1, some (FieldType.boolean), .ireturn)
theorem ok_X1_isKind : m_Ok Y_X1_isKind := ⟨by decide +kernel, ⟨by decide +kernel, by decide +kernel⟩, tw_1_164, tw_1_8, by decide, Or.inr (Or.inl ⟨Or.inr rfl, rfl⟩)⟩
theorem nn_X1_isKind : (parseMethodDescriptor Y_X1_isKind.1.desc).map (fun q => q.parameters.length) = some 1 := by decide +kernel
set_option maxHeartbeats 4000000 in
set_option maxRecDepth 20000 in
theorem j_X1_isKind {X : mX} {h : mH} {d : Nat} {a0 : Int32} {rv : Int32} (hr : f_X1_isKind a0 = some rv) : m_J X Y_X1_isKind d 0 [some (.int a0)] [] h (some (.int rv), h) := by
  unfold f_X1_isKind at hr
  refine j_iload_n (i := 0) rfl rfl dX1_isKind_0 ?_
  refine j_if_lt (tgt := 14) dX1_isKind_1 rfl (fun c1 => ?_) (fun c1 => ?_)
  · rw [if_pos c1] at hr
    refine j_iconst (v := 0) rfl dX1_isKind_14 ?_
    cases hr
    exact j_ret dX1_isKind_15 m_rk_z0
  · rw [if_neg c1] at hr
    refine j_iload_n (i := 0) rfl rfl dX1_isKind_4 ?_
    refine j_bipush (v := 24) rfl dX1_isKind_5 ?_
    refine j_ic_ge (tgt := 14) dX1_isKind_7 rfl (fun c2 => ?_) (fun c2 => ?_)
    · rw [if_pos c2] at hr
      refine j_iconst (v := 0) rfl dX1_isKind_14 ?_
      cases hr
      exact j_ret dX1_isKind_15 m_rk_z0
    · rw [if_neg c2] at hr
      refine j_iconst (v := 1) rfl dX1_isKind_10 ?_
      refine j_goto (tgt := 15) dX1_isKind_11 rfl ?_
      cases hr
      exact j_ret dX1_isKind_15 m_rk_z1
def f_X1_isTrait (a0 : Int32) : Option (Int32) :=
  if a0 < 40 then
    some 0
  else
    if 49 ≤ a0 then
      some 0
    else
      some 1
def Y_X1_isTrait : mY := (yX1_isTrait, cX1_isTrait, 1, some (FieldType.boolean), .ireturn)
theorem ok_X1_isTrait : m_Ok Y_X1_isTrait := ⟨by decide +kernel, ⟨by decide +kernel, by decide +kernel⟩, tw_2_59, tw_1_8, by decide, Or.inr (Or.inl ⟨Or.inr rfl, rfl⟩)⟩
theorem nn_X1_isTrait : (parseMethodDescriptor Y_X1_isTrait.1.desc).map (fun q => q.parameters.length) = some 1 := by decide +kernel
set_option maxHeartbeats 4000000 in
set_option maxRecDepth 20000 in
theorem j_X1_isTrait {X : mX} {h : mH} {d : Nat} {a0 : Int32} {rv : Int32} (hr : f_X1_isTrait a0 = some rv) : m_J X Y_X1_isTrait d 0 [some (.int a0)] [] h (some (.int rv), h) := by
  unfold f_X1_isTrait at hr
  refine j_iload_n (i := 0) rfl rfl dX1_isTrait_0 ?_
  refine j_bipush (v := 40) rfl dX1_isTrait_1 ?_
  refine j_ic_lt (tgt := 16) dX1_isTrait_3 rfl (fun c1 => ?_) (fun c1 => ?_)
  · rw [if_pos c1] at hr
    refine j_iconst (v := 0) rfl dX1_isTrait_16 ?_
    cases hr
    exact j_ret dX1_isTrait_17 m_rk_z0
  · rw [if_neg c1] at hr
    refine j_iload_n (i := 0) rfl rfl dX1_isTrait_6 ?_
    refine j_bipush (v := 49) rfl dX1_isTrait_7 ?_
    refine j_ic_ge (tgt := 16) dX1_isTrait_9 rfl (fun c2 => ?_) (fun c2 => ?_)
    · rw [if_pos c2] at hr
      refine j_iconst (v := 0) rfl dX1_isTrait_16 ?_
      cases hr
      exact j_ret dX1_isTrait_17 m_rk_z0
    · rw [if_neg c2] at hr
      refine j_iconst (v := 1) rfl dX1_isTrait_12 ?_
      refine j_goto (tgt := 17) dX1_isTrait_13 rfl ?_
      cases hr
      exact j_ret dX1_isTrait_17 m_rk_z1
def f_X1_isKindOrTrait (a0 : Int32) : Option (Int32) :=
  (f_X1_isKind a0).bind fun r2 =>
  if r2 = 0 then
    (f_X1_isTrait a0).bind fun r5 =>
    if r5 = 0 then
      some 0
    else
      some 1
  else
    some 1
def Y_X1_isKindOrTrait : mY := (yX1_isKindOrTrait, cX1_isKindOrTrait, 1, some (FieldType.boolean), .ireturn)
theorem ok_X1_isKindOrTrait : m_Ok Y_X1_isKindOrTrait := ⟨by decide +kernel, ⟨by decide +kernel, by decide +kernel⟩, tw_2_56, tw_1_8, by decide, Or.inr (Or.inl ⟨Or.inr rfl, rfl⟩)⟩
theorem nn_X1_isKindOrTrait : (parseMethodDescriptor Y_X1_isKindOrTrait.1.desc).map (fun q => q.parameters.length) = some 1 := by decide +kernel
set_option maxHeartbeats 4000000 in
set_option maxRecDepth 20000 in
theorem j_X1_isKindOrTrait {X : mX} {h : mH} {d : Nat} {a0 : Int32} {rv : Int32} (hd : 1 ≤ d) (hr : f_X1_isKindOrTrait a0 = some rv) : m_J X Y_X1_isKindOrTrait d 0 [some (.int a0)] [] h (some (.int rv), h) := by
  obtain ⟨d, rfl⟩ : ∃ k, d = k + 1 := ⟨d - 1, by omega⟩
  unfold f_X1_isKindOrTrait at hr
  refine j_iload_n (i := 0) rfl rfl dX1_isKindOrTrait_0 ?_
  replace hr := m_bind hr; obtain ⟨r2, g1, hr⟩ := hr
  refine j_callS (Y' := Y_X1_isKind) (as := [.int a0]) ok_X1_isKind [some (.int a0)] rfl rfl tw_1_162 tw_1_163 nn_X1_isKind (Nat.le_of_ble_eq_true rfl) dX1_isKindOrTrait_1 (j_X1_isKind g1) ?_
  refine j_if_ne (tgt := 14) dX1_isKindOrTrait_4 rfl (fun c3 => ?_) (fun c3 => ?_)
  · rw [if_neg c3] at hr
    refine j_iconst (v := 1) rfl dX1_isKindOrTrait_14 ?_
    refine j_goto (tgt := 19) dX1_isKindOrTrait_15 rfl ?_
    cases hr
    exact j_ret dX1_isKindOrTrait_19 m_rk_z1
  · rw [if_pos c3] at hr
    refine j_iload_n (i := 0) rfl rfl dX1_isKindOrTrait_7 ?_
    replace hr := m_bind hr; obtain ⟨r5, g4, hr⟩ := hr
    refine j_callS (Y' := Y_X1_isTrait) (as := [.int a0]) ok_X1_isTrait [some (.int a0)] rfl rfl tw_2_57 tw_2_58 nn_X1_isTrait (Nat.le_of_ble_eq_true rfl) dX1_isKindOrTrait_8 (j_X1_isTrait g4) ?_
    refine j_if_eq (tgt := 18) dX1_isKindOrTrait_11 rfl (fun c6 => ?_) (fun c6 => ?_)
    · rw [if_pos c6] at hr
      refine j_iconst (v := 0) rfl dX1_isKindOrTrait_18 ?_
      cases hr
      exact j_ret dX1_isKindOrTrait_19 m_rk_z0
    · rw [if_neg c6] at hr
      refine j_iconst (v := 1) rfl dX1_isKindOrTrait_14 ?_
      refine j_goto (tgt := 19) dX1_isKindOrTrait_15 rfl ?_
      cases hr
      exact j_ret dX1_isKindOrTrait_19 m_rk_z1
def f_X1_has (a0 : Int64) (a2 : Int32) : Option (Int32) :=
  if (lg_cmp ((a0 >>> ((a2 : Int32).toInt64 &&& 63)) &&& ((1 : Int64))) ((0 : Int64))) = 0 then
    some 0
  else
    some 1
def Y_X1_has : mY := (yX1_has, cX1_has, 3, some (FieldType.boolean), .ireturn)
theorem ok_X1_has : m_Ok Y_X1_has := ⟨by decide +kernel, ⟨by decide +kernel, by decide +kernel⟩, tw_1_168, tw_1_8, by decide, Or.inr (Or.inl ⟨Or.inr rfl, rfl⟩)⟩
theorem nn_X1_has : (parseMethodDescriptor Y_X1_has.1.desc).map (fun q => q.parameters.length) = some 2 := by decide +kernel
set_option maxHeartbeats 4000000 in
set_option maxRecDepth 20000 in
theorem j_X1_has {X : mX} {h : mH} {d : Nat} {a0 : Int64} {a2 : Int32} {rv : Int32} (hr : f_X1_has a0 a2 = some rv) : m_J X Y_X1_has d 0 [some (.long a0), none, some (.int a2)] [] h (some (.int rv), h) := by
  unfold f_X1_has at hr
  refine j_lload_n (i := 0) rfl rfl dX1_has_0 ?_
  refine j_iload_n (i := 2) rfl rfl dX1_has_1 ?_
  refine j_lshr dX1_has_2 ?_
  refine j_lconst (v := 1) rfl dX1_has_3 ?_
  refine j_land dX1_has_4 ?_
  refine j_lconst (v := 0) rfl dX1_has_5 ?_
  refine j_lcmp dX1_has_6 ?_
  refine j_if_eq (tgt := 14) dX1_has_7 rfl (fun c1 => ?_) (fun c1 => ?_)
  · rw [if_pos c1] at hr
    refine j_iconst (v := 0) rfl dX1_has_14 ?_
    cases hr
    exact j_ret dX1_has_15 m_rk_z0
  · rw [if_neg c1] at hr
    refine j_iconst (v := 1) rfl dX1_has_10 ?_
    refine j_goto (tgt := 15) dX1_has_11 rfl ?_
    cases hr
    exact j_ret dX1_has_15 m_rk_z1
def f_X1_isConcrete (a0 : Int32) : Option (Int32) :=
  (f_X1_isKind a0).bind fun r2 =>
  if r2 = 0 then
    some 0
  else
    (f_X1_has ((1181195 : Int64)) a0).bind fun r5 =>
    if r5 = 0 then
      some 1
    else
      some 0
def Y_X1_isConcrete : mY := (yX1_isConcrete, cX1_isConcrete, 1, some (FieldType.boolean), .ireturn)
theorem ok_X1_isConcrete : m_Ok Y_X1_isConcrete := ⟨by decide +kernel, ⟨by decide +kernel, by decide +kernel⟩, tw_1_161, tw_1_8, by decide, Or.inr (Or.inl ⟨Or.inr rfl, rfl⟩)⟩
theorem nn_X1_isConcrete : (parseMethodDescriptor Y_X1_isConcrete.1.desc).map (fun q => q.parameters.length) = some 1 := by decide +kernel
set_option maxHeartbeats 4000000 in
set_option maxRecDepth 20000 in
theorem j_X1_isConcrete {X : mX} {h : mH} {d : Nat} {a0 : Int32} {rv : Int32} (hd : 1 ≤ d) (hr : f_X1_isConcrete a0 = some rv) : m_J X Y_X1_isConcrete d 0 [some (.int a0)] [] h (some (.int rv), h) := by
  obtain ⟨d, rfl⟩ : ∃ k, d = k + 1 := ⟨d - 1, by omega⟩
  unfold f_X1_isConcrete at hr
  refine j_iload_n (i := 0) rfl rfl dX1_isConcrete_0 ?_
  replace hr := m_bind hr; obtain ⟨r2, g1, hr⟩ := hr
  refine j_callS (Y' := Y_X1_isKind) (as := [.int a0]) ok_X1_isKind [some (.int a0)] rfl rfl tw_1_162 tw_1_163 nn_X1_isKind (Nat.le_of_ble_eq_true rfl) dX1_isConcrete_1 (j_X1_isKind g1) ?_
  refine j_if_eq (tgt := 21) dX1_isConcrete_4 rfl (fun c3 => ?_) (fun c3 => ?_)
  · rw [if_pos c3] at hr
    refine j_iconst (v := 0) rfl dX1_isConcrete_21 ?_
    cases hr
    exact j_ret dX1_isConcrete_22 m_rk_z0
  · rw [if_neg c3] at hr
    refine j_ldc2 (v := 1181195) tw_1_165 dX1_isConcrete_7 ?_
    refine j_iload_n (i := 0) rfl rfl dX1_isConcrete_10 ?_
    replace hr := m_bind hr; obtain ⟨r5, g4, hr⟩ := hr
    refine j_callS (Y' := Y_X1_has) (as := [.long ((1181195 : Int64)), .int a0]) ok_X1_has [some (.long ((1181195 : Int64))), none, some (.int a0)] rfl rfl tw_1_166 tw_1_167 nn_X1_has (Nat.le_of_ble_eq_true rfl) dX1_isConcrete_11 (j_X1_has g4) ?_
    refine j_if_ne (tgt := 21) dX1_isConcrete_14 rfl (fun c6 => ?_) (fun c6 => ?_)
    · rw [if_neg c6] at hr
      refine j_iconst (v := 0) rfl dX1_isConcrete_21 ?_
      cases hr
      exact j_ret dX1_isConcrete_22 m_rk_z0
    · rw [if_pos c6] at hr
      refine j_iconst (v := 1) rfl dX1_isConcrete_17 ?_
      refine j_goto (tgt := 22) dX1_isConcrete_18 rfl ?_
      cases hr
      exact j_ret dX1_isConcrete_22 m_rk_z1
def f_X1_isCase (a0 : Int32) : Option (Int32) :=
  if a0 < 100 then
    some 0
  else
    (f_X1_isKindOrTrait (a0 - 100)).bind fun r3 =>
    if r3 = 0 then
      some 0
    else
      some 1
def Y_X1_isCase : mY := (yX1_isCase, cX1_isCase, 1, some (FieldType.boolean), .ireturn)
theorem ok_X1_isCase : m_Ok Y_X1_isCase := ⟨by decide +kernel, ⟨by decide +kernel, by decide +kernel⟩, tw_2_102, tw_1_8, by decide, Or.inr (Or.inl ⟨Or.inr rfl, rfl⟩)⟩
theorem nn_X1_isCase : (parseMethodDescriptor Y_X1_isCase.1.desc).map (fun q => q.parameters.length) = some 1 := by decide +kernel
set_option maxHeartbeats 4000000 in
set_option maxRecDepth 20000 in
theorem j_X1_isCase {X : mX} {h : mH} {d : Nat} {a0 : Int32} {rv : Int32} (hd : 2 ≤ d) (hr : f_X1_isCase a0 = some rv) : m_J X Y_X1_isCase d 0 [some (.int a0)] [] h (some (.int rv), h) := by
  obtain ⟨d, rfl⟩ : ∃ k, d = k + 1 := ⟨d - 1, by omega⟩
  unfold f_X1_isCase at hr
  refine j_iload_n (i := 0) rfl rfl dX1_isCase_0 ?_
  refine j_bipush (v := 100) rfl dX1_isCase_1 ?_
  refine j_ic_lt (tgt := 20) dX1_isCase_3 rfl (fun c1 => ?_) (fun c1 => ?_)
  · rw [if_pos c1] at hr
    refine j_iconst (v := 0) rfl dX1_isCase_20 ?_
    cases hr
    exact j_ret dX1_isCase_21 m_rk_z0
  · rw [if_neg c1] at hr
    refine j_iload_n (i := 0) rfl rfl dX1_isCase_6 ?_
    refine j_bipush (v := 100) rfl dX1_isCase_7 ?_
    refine j_isub dX1_isCase_9 ?_
    replace hr := m_bind hr; obtain ⟨r3, g2, hr⟩ := hr
    refine j_callS (Y' := Y_X1_isKindOrTrait) (as := [.int (a0 - 100)]) ok_X1_isKindOrTrait [some (.int (a0 - 100))] rfl rfl tw_2_54 tw_2_55 nn_X1_isKindOrTrait (Nat.le_of_ble_eq_true rfl) dX1_isCase_10 (j_X1_isKindOrTrait (by omega) g2) ?_
    refine j_if_eq (tgt := 20) dX1_isCase_13 rfl (fun c4 => ?_) (fun c4 => ?_)
    · rw [if_pos c4] at hr
      refine j_iconst (v := 0) rfl dX1_isCase_20 ?_
      cases hr
      exact j_ret dX1_isCase_21 m_rk_z0
    · rw [if_neg c4] at hr
      refine j_iconst (v := 1) rfl dX1_isCase_16 ?_
      refine j_goto (tgt := 21) dX1_isCase_17 rfl ?_
      cases hr
      exact j_ret dX1_isCase_21 m_rk_z1
def f_X1_parentOf (a0 : Int32) : Option (Int32) :=
  (f_X1_isKind a0).bind fun r2 =>
  if r2 = 0 then
    some ((-1))
  else
    (m_TI 2 a0).bind fun x4 =>
    some x4
def Y_X1_parentOf : mY := (yX1_parentOf, cX1_parentOf, 1, some (FieldType.int), .ireturn)
theorem ok_X1_parentOf : m_Ok Y_X1_parentOf := ⟨by decide +kernel, ⟨by decide +kernel, by decide +kernel⟩, tw_2_175, tw_1_8, by decide, Or.inr (Or.inl ⟨Or.inl rfl, rfl⟩)⟩
theorem nn_X1_parentOf : (parseMethodDescriptor Y_X1_parentOf.1.desc).map (fun q => q.parameters.length) = some 1 := by decide +kernel
set_option maxHeartbeats 4000000 in
set_option maxRecDepth 20000 in
theorem j_X1_parentOf {X : mX} {h : mH} {d : Nat} {a0 : Int32} {rv : Int32} (hd : 1 ≤ d) (hr : f_X1_parentOf a0 = some rv) : m_J X Y_X1_parentOf d 0 [some (.int a0)] [] h (some (.int rv), h) := by
  obtain ⟨d, rfl⟩ : ∃ k, d = k + 1 := ⟨d - 1, by omega⟩
  unfold f_X1_parentOf at hr
  refine j_iload_n (i := 0) rfl rfl dX1_parentOf_0 ?_
  replace hr := m_bind hr; obtain ⟨r2, g1, hr⟩ := hr
  refine j_callS (Y' := Y_X1_isKind) (as := [.int a0]) ok_X1_isKind [some (.int a0)] rfl rfl tw_1_162 tw_1_163 nn_X1_isKind (Nat.le_of_ble_eq_true rfl) dX1_parentOf_1 (j_X1_isKind g1) ?_
  refine j_if_eq (tgt := 15) dX1_parentOf_4 rfl (fun c3 => ?_) (fun c3 => ?_)
  · rw [if_pos c3] at hr
    refine j_iconst (v := (-1)) rfl dX1_parentOf_15 ?_
    cases hr
    exact j_ret dX1_parentOf_16 m_rk_i
  · rw [if_neg c3] at hr
    refine j_gets 2 (by decide) tw_2_67 dX1_parentOf_7 ?_
    refine j_iload_n (i := 0) rfl rfl dX1_parentOf_10 ?_
    replace hr := m_bind hr; obtain ⟨x4, g5, hr⟩ := hr
    refine j_tial 2 (by decide) rfl dX1_parentOf_11 ((m_TI_X (by decide)).trans g5) ?_
    refine j_goto (tgt := 16) dX1_parentOf_12 rfl ?_
    cases hr
    exact j_ret dX1_parentOf_16 m_rk_i
def f_X1_namedBy (a0 : Int32) : Option (Int64) :=
  (f_X1_isKind a0).bind fun r2 =>
  if r2 = 0 then
    some ((0 : Int64))
  else
    (m_TL 1 a0).bind fun x4 =>
    some x4
def Y_X1_namedBy : mY := (yX1_namedBy, cX1_namedBy, 1, some (FieldType.long), .lreturn)
theorem ok_X1_namedBy : m_Ok Y_X1_namedBy := ⟨by decide +kernel, ⟨by decide +kernel, by decide +kernel⟩, tw_2_171, tw_1_8, by decide, Or.inr (Or.inr (Or.inl ⟨rfl, rfl⟩))⟩
theorem nn_X1_namedBy : (parseMethodDescriptor Y_X1_namedBy.1.desc).map (fun q => q.parameters.length) = some 1 := by decide +kernel
set_option maxHeartbeats 4000000 in
set_option maxRecDepth 20000 in
theorem j_X1_namedBy {X : mX} {h : mH} {d : Nat} {a0 : Int32} {rv : Int64} (hd : 1 ≤ d) (hr : f_X1_namedBy a0 = some rv) : m_J X Y_X1_namedBy d 0 [some (.int a0)] [] h (some (.long rv), h) := by
  obtain ⟨d, rfl⟩ : ∃ k, d = k + 1 := ⟨d - 1, by omega⟩
  unfold f_X1_namedBy at hr
  refine j_iload_n (i := 0) rfl rfl dX1_namedBy_0 ?_
  replace hr := m_bind hr; obtain ⟨r2, g1, hr⟩ := hr
  refine j_callS (Y' := Y_X1_isKind) (as := [.int a0]) ok_X1_isKind [some (.int a0)] rfl rfl tw_1_162 tw_1_163 nn_X1_isKind (Nat.le_of_ble_eq_true rfl) dX1_namedBy_1 (j_X1_isKind g1) ?_
  refine j_if_eq (tgt := 15) dX1_namedBy_4 rfl (fun c3 => ?_) (fun c3 => ?_)
  · rw [if_pos c3] at hr
    refine j_lconst (v := 0) rfl dX1_namedBy_15 ?_
    cases hr
    exact j_ret dX1_namedBy_16 m_rk_l
  · rw [if_neg c3] at hr
    refine j_gets 1 (by decide) tw_2_65 dX1_namedBy_7 ?_
    refine j_iload_n (i := 0) rfl rfl dX1_namedBy_10 ?_
    replace hr := m_bind hr; obtain ⟨x4, g5, hr⟩ := hr
    refine j_tlal 1 (by decide) rfl dX1_namedBy_11 ((m_TL_X (by decide)).trans g5) ?_
    refine j_goto (tgt := 16) dX1_namedBy_12 rfl ?_
    cases hr
    exact j_ret dX1_namedBy_16 m_rk_l
def w_X1_allAbove_23 : (Int64 × Int32 × Int32) → Option ((Int64 × Int32 × Int32) ⊕ (Int64)) := fun s_4 =>
  if 24 ≤ s_4.2.2 then
    some (.inr s_4.1)
  else
    (f_X1_isKind s_4.2.1).bind fun r7 =>
    if r7 = 0 then
      some (.inr s_4.1)
    else
      (m_TL 1 s_4.2.1).bind fun x9 =>
      (m_TI 2 s_4.2.1).bind fun x11 =>
      some (.inl (s_4.1 ||| ((((1 : Int64)) <<< ((s_4.2.1 : Int32).toInt64 &&& 63)) ||| x9), x11, s_4.2.2 + 1))
def f_X1_allAbove (a0 : Int32) : Option (Int64) :=
  (f_X1_isTrait a0).bind fun r2 =>
  if r2 = 0 then
    (m_loop (w_X1_allAbove_23) 5000 (((0 : Int64), a0, 0))).bind fun e13 =>
    some e13
  else
    (m_TL 0 (a0 - 40)).bind fun x17 =>
    some x17
def Y_X1_allAbove : mY := (yX1_allAbove, cX1_allAbove, 5, some (FieldType.long), .lreturn)
theorem ok_X1_allAbove : m_Ok Y_X1_allAbove := ⟨by decide +kernel, ⟨by decide +kernel, by decide +kernel⟩, tw_2_62, tw_1_8, by decide, Or.inr (Or.inr (Or.inl ⟨rfl, rfl⟩))⟩
theorem nn_X1_allAbove : (parseMethodDescriptor Y_X1_allAbove.1.desc).map (fun q => q.parameters.length) = some 1 := by decide +kernel
set_option maxHeartbeats 4000000 in
set_option maxRecDepth 20000 in
theorem j_X1_allAbove {X : mX} {h : mH} {d : Nat} {a0 : Int32} {rv : Int64} (hd : 1 ≤ d) (hr : f_X1_allAbove a0 = some rv) : m_J X Y_X1_allAbove d 0 [some (.int a0), none, none, none, none] [] h (some (.long rv), h) := by
  obtain ⟨d, rfl⟩ : ∃ k, d = k + 1 := ⟨d - 1, by omega⟩
  unfold f_X1_allAbove at hr
  refine j_iload_n (i := 0) rfl rfl dX1_allAbove_0 ?_
  replace hr := m_bind hr; obtain ⟨r2, g1, hr⟩ := hr
  refine j_callS (Y' := Y_X1_isTrait) (as := [.int a0]) ok_X1_isTrait [some (.int a0)] rfl rfl tw_2_57 tw_2_58 nn_X1_isTrait (Nat.le_of_ble_eq_true rfl) dX1_allAbove_1 (j_X1_isTrait g1) ?_
  refine j_if_eq (tgt := 16) dX1_allAbove_4 rfl (fun c3 => ?_) (fun c3 => ?_)
  · rw [if_pos c3] at hr
    refine j_lconst (v := 0) rfl dX1_allAbove_16 ?_
    refine j_lstore_n (i := 1) (L' := [some (.int a0), some (.long ((0 : Int64))), none, none, none]) rfl (Nat.le_of_ble_eq_true rfl) rfl rfl dX1_allAbove_17 ?_
    refine j_iload_n (i := 0) rfl rfl dX1_allAbove_18 ?_
    refine j_istore_n (i := 3) (L' := [some (.int a0), some (.long ((0 : Int64))), none, some (.int a0), none]) rfl (Nat.le_of_ble_eq_true rfl) rfl rfl dX1_allAbove_19 ?_
    refine j_iconst (v := 0) rfl dX1_allAbove_20 ?_
    refine j_istore (i := 4) (L' := [some (.int a0), some (.long ((0 : Int64))), none, some (.int a0), some (.int 0)]) (Nat.le_of_ble_eq_true rfl) rfl rfl dX1_allAbove_21 ?_
    replace hr := m_bind hr; obtain ⟨e13, q16, hr⟩ := hr
    refine j_weak (L' := [none, some (.long ((0 : Int64))), none, some (.int a0), some (.int 0)]) (And.intro rfl (And.intro rfl (And.intro rfl trivial))) ?_
    refine m_loop_sound (step := w_X1_allAbove_23) (P := fun s_4 => m_J X Y_X1_allAbove (d + 1) 23 [none, some (.long s_4.1), none, some (.int s_4.2.1), some (.int s_4.2.2)] [] h (some (.long rv), h)) (Qe := fun e13 => m_J X Y_X1_allAbove (d + 1) 61 [none, some (.long e13), none, none, none] [] h (some (.long rv), h)) ?_ _ _ _ q16 ?_
    · intro s_4 o hr hk
      unfold w_X1_allAbove_23 at hr
      refine j_iload (i := 4) rfl dX1_allAbove_23 ?_
      refine j_bipush (v := 24) rfl dX1_allAbove_25 ?_
      refine j_ic_ge (tgt := 61) dX1_allAbove_27 rfl (fun c5 => ?_) (fun c5 => ?_)
      · rw [if_pos c5] at hr
        cases hr
        exact j_weak (L' := [none, some (.long s_4.1), none, none, none]) (And.intro rfl trivial) hk
      · rw [if_neg c5] at hr
        refine j_iload_n (i := 3) rfl rfl dX1_allAbove_30 ?_
        replace hr := m_bind hr; obtain ⟨r7, g6, hr⟩ := hr
        refine j_callS (Y' := Y_X1_isKind) (as := [.int s_4.2.1]) ok_X1_isKind [some (.int s_4.2.1)] rfl rfl tw_1_162 tw_1_163 nn_X1_isKind (Nat.le_of_ble_eq_true rfl) dX1_allAbove_31 (j_X1_isKind g6) ?_
        refine j_if_eq (tgt := 61) dX1_allAbove_34 rfl (fun c8 => ?_) (fun c8 => ?_)
        · rw [if_pos c8] at hr
          cases hr
          exact j_weak (L' := [none, some (.long s_4.1), none, none, none]) (And.intro rfl trivial) hk
        · rw [if_neg c8] at hr
          refine j_lload_n (i := 1) rfl rfl dX1_allAbove_37 ?_
          refine j_lconst (v := 1) rfl dX1_allAbove_38 ?_
          refine j_iload_n (i := 3) rfl rfl dX1_allAbove_39 ?_
          refine j_lshl dX1_allAbove_40 ?_
          refine j_gets 1 (by decide) tw_2_65 dX1_allAbove_41 ?_
          refine j_iload_n (i := 3) rfl rfl dX1_allAbove_44 ?_
          replace hr := m_bind hr; obtain ⟨x9, g10, hr⟩ := hr
          refine j_tlal 1 (by decide) rfl dX1_allAbove_45 ((m_TL_X (by decide)).trans g10) ?_
          refine j_lor dX1_allAbove_46 ?_
          refine j_lor dX1_allAbove_47 ?_
          refine j_lstore_n (i := 1) (L' := [none, some (.long (s_4.1 ||| ((((1 : Int64)) <<< ((s_4.2.1 : Int32).toInt64 &&& 63)) ||| x9))), none, some (.int s_4.2.1), some (.int s_4.2.2)]) rfl (Nat.le_of_ble_eq_true rfl) rfl rfl dX1_allAbove_48 ?_
          refine j_gets 2 (by decide) tw_2_67 dX1_allAbove_49 ?_
          refine j_iload_n (i := 3) rfl rfl dX1_allAbove_52 ?_
          replace hr := m_bind hr; obtain ⟨x11, g12, hr⟩ := hr
          refine j_tial 2 (by decide) rfl dX1_allAbove_53 ((m_TI_X (by decide)).trans g12) ?_
          refine j_istore_n (i := 3) (L' := [none, some (.long (s_4.1 ||| ((((1 : Int64)) <<< ((s_4.2.1 : Int32).toInt64 &&& 63)) ||| x9))), none, some (.int x11), some (.int s_4.2.2)]) rfl (Nat.le_of_ble_eq_true rfl) rfl rfl dX1_allAbove_54 ?_
          refine j_iinc (i := 4) (v := s_4.2.2 + 1) (L' := [none, some (.long (s_4.1 ||| ((((1 : Int64)) <<< ((s_4.2.1 : Int32).toInt64 &&& 63)) ||| x9))), none, some (.int x11), some (.int (s_4.2.2 + 1))]) rfl (m_o1 _) (Nat.le_of_ble_eq_true rfl) rfl rfl dX1_allAbove_55 ?_
          refine j_goto (tgt := 23) dX1_allAbove_58 rfl ?_
          cases hr
          exact j_weak (L' := [none, some (.long (s_4.1 ||| ((((1 : Int64)) <<< ((s_4.2.1 : Int32).toInt64 &&& 63)) ||| x9))), none, some (.int x11), some (.int (s_4.2.2 + 1))]) (And.intro rfl (And.intro rfl (And.intro rfl trivial))) hk
    · skip
      refine j_lload_n (i := 1) rfl rfl dX1_allAbove_61 ?_
      cases hr
      exact j_ret dX1_allAbove_62 m_rk_l
  · rw [if_neg c3] at hr
    refine j_gets 0 (by decide) tw_2_63 dX1_allAbove_7 ?_
    refine j_iload_n (i := 0) rfl rfl dX1_allAbove_10 ?_
    refine j_bipush (v := 40) rfl dX1_allAbove_11 ?_
    refine j_isub dX1_allAbove_13 ?_
    replace hr := m_bind hr; obtain ⟨x17, g18, hr⟩ := hr
    refine j_tlal 0 (by decide) rfl dX1_allAbove_14 ((m_TL_X (by decide)).trans g18) ?_
    cases hr
    exact j_ret dX1_allAbove_15 m_rk_l
def f_X1_standsUnder (a0 : Int32) (a1 : Int32) : Option (Int32) :=
  (f_X1_isKindOrTrait a0).bind fun r2 =>
  if r2 = 0 then
    some 0
  else
    (f_X1_isKindOrTrait a1).bind fun r5 =>
    if r5 = 0 then
      some 0
    else
      (f_X1_allAbove a0).bind fun r8 =>
      (f_X1_has r8 a1).bind fun r10 =>
      if r10 = 0 then
        some 0
      else
        some 1
def Y_X1_standsUnder : mY := (yX1_standsUnder, cX1_standsUnder, 2, some (FieldType.boolean), .ireturn)
theorem ok_X1_standsUnder : m_Ok Y_X1_standsUnder := ⟨by decide +kernel, ⟨by decide +kernel, by decide +kernel⟩, tw_2_53, tw_1_8, by decide, Or.inr (Or.inl ⟨Or.inr rfl, rfl⟩)⟩
theorem nn_X1_standsUnder : (parseMethodDescriptor Y_X1_standsUnder.1.desc).map (fun q => q.parameters.length) = some 2 := by decide +kernel
set_option maxHeartbeats 4000000 in
set_option maxRecDepth 20000 in
theorem j_X1_standsUnder {X : mX} {h : mH} {d : Nat} {a0 : Int32} {a1 : Int32} {rv : Int32} (hd : 2 ≤ d) (hr : f_X1_standsUnder a0 a1 = some rv) : m_J X Y_X1_standsUnder d 0 [some (.int a0), some (.int a1)] [] h (some (.int rv), h) := by
  obtain ⟨d, rfl⟩ : ∃ k, d = k + 1 := ⟨d - 1, by omega⟩
  unfold f_X1_standsUnder at hr
  refine j_iload_n (i := 0) rfl rfl dX1_standsUnder_0 ?_
  replace hr := m_bind hr; obtain ⟨r2, g1, hr⟩ := hr
  refine j_callS (Y' := Y_X1_isKindOrTrait) (as := [.int a0]) ok_X1_isKindOrTrait [some (.int a0)] rfl rfl tw_2_54 tw_2_55 nn_X1_isKindOrTrait (Nat.le_of_ble_eq_true rfl) dX1_standsUnder_1 (j_X1_isKindOrTrait (by omega) g1) ?_
  refine j_if_eq (tgt := 29) dX1_standsUnder_4 rfl (fun c3 => ?_) (fun c3 => ?_)
  · rw [if_pos c3] at hr
    refine j_iconst (v := 0) rfl dX1_standsUnder_29 ?_
    cases hr
    exact j_ret dX1_standsUnder_30 m_rk_z0
  · rw [if_neg c3] at hr
    refine j_iload_n (i := 1) rfl rfl dX1_standsUnder_7 ?_
    replace hr := m_bind hr; obtain ⟨r5, g4, hr⟩ := hr
    refine j_callS (Y' := Y_X1_isKindOrTrait) (as := [.int a1]) ok_X1_isKindOrTrait [some (.int a1)] rfl rfl tw_2_54 tw_2_55 nn_X1_isKindOrTrait (Nat.le_of_ble_eq_true rfl) dX1_standsUnder_8 (j_X1_isKindOrTrait (by omega) g4) ?_
    refine j_if_eq (tgt := 29) dX1_standsUnder_11 rfl (fun c6 => ?_) (fun c6 => ?_)
    · rw [if_pos c6] at hr
      refine j_iconst (v := 0) rfl dX1_standsUnder_29 ?_
      cases hr
      exact j_ret dX1_standsUnder_30 m_rk_z0
    · rw [if_neg c6] at hr
      refine j_iload_n (i := 0) rfl rfl dX1_standsUnder_14 ?_
      replace hr := m_bind hr; obtain ⟨r8, g7, hr⟩ := hr
      refine j_callS (Y' := Y_X1_allAbove) (as := [.int a0]) ok_X1_allAbove [some (.int a0), none, none, none, none] rfl rfl tw_2_60 tw_2_61 nn_X1_allAbove (Nat.le_of_ble_eq_true rfl) dX1_standsUnder_15 (j_X1_allAbove (by omega) g7) ?_
      refine j_iload_n (i := 1) rfl rfl dX1_standsUnder_18 ?_
      replace hr := m_bind hr; obtain ⟨r10, g9, hr⟩ := hr
      refine j_callS (Y' := Y_X1_has) (as := [.long r8, .int a1]) ok_X1_has [some (.long r8), none, some (.int a1)] rfl rfl tw_1_166 tw_1_167 nn_X1_has (Nat.le_of_ble_eq_true rfl) dX1_standsUnder_19 (j_X1_has g9) ?_
      refine j_if_eq (tgt := 29) dX1_standsUnder_22 rfl (fun c11 => ?_) (fun c11 => ?_)
      · rw [if_pos c11] at hr
        refine j_iconst (v := 0) rfl dX1_standsUnder_29 ?_
        cases hr
        exact j_ret dX1_standsUnder_30 m_rk_z0
      · rw [if_neg c11] at hr
        refine j_iconst (v := 1) rfl dX1_standsUnder_25 ?_
        refine j_goto (tgt := 30) dX1_standsUnder_26 rfl ?_
        cases hr
        exact j_ret dX1_standsUnder_30 m_rk_z1
def w_X1_stepsUp_13 (a1 : Int32) : (Int32 × Int32) → Option ((Int32 × Int32) ⊕ ((Unit) ⊕ (Int32))) := fun s_4 =>
  if 24 ≤ s_4.2 then
    some (.inr (.inl ()))
  else
    (f_X1_isKind s_4.1).bind fun r7 =>
    if r7 = 0 then
      some (.inr (.inl ()))
    else
      if s_4.1 = a1 then
        some (.inr (.inr s_4.2))
      else
        (m_TL 1 s_4.1).bind fun x10 =>
        (f_X1_has x10 a1).bind fun r13 =>
        if r13 = 0 then
          (m_TI 2 s_4.1).bind fun x15 =>
          some (.inl (x15, s_4.2 + 1))
        else
          some (.inr (.inr s_4.2))
def f_X1_stepsUp (a0 : Int32) (a1 : Int32) : Option (Int32) :=
  (f_X1_isKindOrTrait a1).bind fun r2 =>
  if r2 = 0 then
    some ((-1))
  else
    (m_loop (w_X1_stepsUp_13 a1) 5000 ((a0, 0))).bind fun e17 => match e17 with
    | .inl x18 =>
      some ((-1))
    | .inr v20 => some v20
def Y_X1_stepsUp : mY := (yX1_stepsUp, cX1_stepsUp, 4, some (FieldType.int), .ireturn)
theorem ok_X1_stepsUp : m_Ok Y_X1_stepsUp := ⟨by decide +kernel, ⟨by decide +kernel, by decide +kernel⟩, tw_2_109, tw_1_8, by decide, Or.inr (Or.inl ⟨Or.inl rfl, rfl⟩)⟩
theorem nn_X1_stepsUp : (parseMethodDescriptor Y_X1_stepsUp.1.desc).map (fun q => q.parameters.length) = some 2 := by decide +kernel
set_option maxHeartbeats 4000000 in
set_option maxRecDepth 20000 in
theorem j_X1_stepsUp {X : mX} {h : mH} {d : Nat} {a0 : Int32} {a1 : Int32} {rv : Int32} (hd : 2 ≤ d) (hr : f_X1_stepsUp a0 a1 = some rv) : m_J X Y_X1_stepsUp d 0 [some (.int a0), some (.int a1), none, none] [] h (some (.int rv), h) := by
  obtain ⟨d, rfl⟩ : ∃ k, d = k + 1 := ⟨d - 1, by omega⟩
  unfold f_X1_stepsUp at hr
  refine j_iload_n (i := 1) rfl rfl dX1_stepsUp_0 ?_
  replace hr := m_bind hr; obtain ⟨r2, g1, hr⟩ := hr
  refine j_callS (Y' := Y_X1_isKindOrTrait) (as := [.int a1]) ok_X1_isKindOrTrait [some (.int a1)] rfl rfl tw_2_54 tw_2_55 nn_X1_isKindOrTrait (Nat.le_of_ble_eq_true rfl) dX1_stepsUp_1 (j_X1_isKindOrTrait (by omega) g1) ?_
  refine j_if_ne (tgt := 9) dX1_stepsUp_4 rfl (fun c3 => ?_) (fun c3 => ?_)
  · rw [if_neg c3] at hr
    refine j_iload_n (i := 0) rfl rfl dX1_stepsUp_9 ?_
    refine j_istore_n (i := 2) (L' := [some (.int a0), some (.int a1), some (.int a0), none]) rfl (Nat.le_of_ble_eq_true rfl) rfl rfl dX1_stepsUp_10 ?_
    refine j_iconst (v := 0) rfl dX1_stepsUp_11 ?_
    refine j_istore_n (i := 3) (L' := [some (.int a0), some (.int a1), some (.int a0), some (.int 0)]) rfl (Nat.le_of_ble_eq_true rfl) rfl rfl dX1_stepsUp_12 ?_
    replace hr := m_bind hr; obtain ⟨e17, q21, hr⟩ := hr
    refine j_weak (L' := [none, some (.int a1), some (.int a0), some (.int 0)]) (And.intro rfl (And.intro rfl (And.intro rfl trivial))) ?_
    refine m_loop_sound (step := w_X1_stepsUp_13 a1) (P := fun s_4 => m_J X Y_X1_stepsUp (d + 1) 13 [none, some (.int a1), some (.int s_4.1), some (.int s_4.2)] [] h (some (.int rv), h)) (Qe := fun e17 => match e17 with | .inl x18 => m_J X Y_X1_stepsUp (d + 1) 57 [none, none, none, none] [] h (some (.int rv), h) | .inr v20 => ((some (.int rv), h) : mR) = (some (.int v20), h)) ?_ _ _ _ q21 ?_
    · intro s_4 o hr hk
      unfold w_X1_stepsUp_13 at hr
      refine j_iload_n (i := 3) rfl rfl dX1_stepsUp_13 ?_
      refine j_bipush (v := 24) rfl dX1_stepsUp_14 ?_
      refine j_ic_ge (tgt := 57) dX1_stepsUp_16 rfl (fun c5 => ?_) (fun c5 => ?_)
      · rw [if_pos c5] at hr
        cases hr
        exact j_weak (L' := [none, none, none, none]) trivial hk
      · rw [if_neg c5] at hr
        refine j_iload_n (i := 2) rfl rfl dX1_stepsUp_19 ?_
        replace hr := m_bind hr; obtain ⟨r7, g6, hr⟩ := hr
        refine j_callS (Y' := Y_X1_isKind) (as := [.int s_4.1]) ok_X1_isKind [some (.int s_4.1)] rfl rfl tw_1_162 tw_1_163 nn_X1_isKind (Nat.le_of_ble_eq_true rfl) dX1_stepsUp_20 (j_X1_isKind g6) ?_
        refine j_if_eq (tgt := 57) dX1_stepsUp_23 rfl (fun c8 => ?_) (fun c8 => ?_)
        · rw [if_pos c8] at hr
          cases hr
          exact j_weak (L' := [none, none, none, none]) trivial hk
        · rw [if_neg c8] at hr
          refine j_iload_n (i := 2) rfl rfl dX1_stepsUp_26 ?_
          refine j_iload_n (i := 1) rfl rfl dX1_stepsUp_27 ?_
          refine j_ic_eq (tgt := 43) dX1_stepsUp_28 rfl (fun c9 => ?_) (fun c9 => ?_)
          · rw [if_pos c9] at hr
            refine j_iload_n (i := 3) rfl rfl dX1_stepsUp_43 ?_
            cases hr
            rw [show _ = _ from hk]
            exact j_ret dX1_stepsUp_44 m_rk_i
          · rw [if_neg c9] at hr
            refine j_gets 1 (by decide) tw_2_65 dX1_stepsUp_31 ?_
            refine j_iload_n (i := 2) rfl rfl dX1_stepsUp_34 ?_
            replace hr := m_bind hr; obtain ⟨x10, g11, hr⟩ := hr
            refine j_tlal 1 (by decide) rfl dX1_stepsUp_35 ((m_TL_X (by decide)).trans g11) ?_
            refine j_iload_n (i := 1) rfl rfl dX1_stepsUp_36 ?_
            replace hr := m_bind hr; obtain ⟨r13, g12, hr⟩ := hr
            refine j_callS (Y' := Y_X1_has) (as := [.long x10, .int a1]) ok_X1_has [some (.long x10), none, some (.int a1)] rfl rfl tw_1_166 tw_1_167 nn_X1_has (Nat.le_of_ble_eq_true rfl) dX1_stepsUp_37 (j_X1_has g12) ?_
            refine j_if_eq (tgt := 45) dX1_stepsUp_40 rfl (fun c14 => ?_) (fun c14 => ?_)
            · rw [if_pos c14] at hr
              refine j_gets 2 (by decide) tw_2_67 dX1_stepsUp_45 ?_
              refine j_iload_n (i := 2) rfl rfl dX1_stepsUp_48 ?_
              replace hr := m_bind hr; obtain ⟨x15, g16, hr⟩ := hr
              refine j_tial 2 (by decide) rfl dX1_stepsUp_49 ((m_TI_X (by decide)).trans g16) ?_
              refine j_istore_n (i := 2) (L' := [none, some (.int a1), some (.int x15), some (.int s_4.2)]) rfl (Nat.le_of_ble_eq_true rfl) rfl rfl dX1_stepsUp_50 ?_
              refine j_iinc (i := 3) (v := s_4.2 + 1) (L' := [none, some (.int a1), some (.int x15), some (.int (s_4.2 + 1))]) rfl (m_o1 _) (Nat.le_of_ble_eq_true rfl) rfl rfl dX1_stepsUp_51 ?_
              refine j_goto (tgt := 13) dX1_stepsUp_54 rfl ?_
              cases hr
              exact j_weak (L' := [none, some (.int a1), some (.int x15), some (.int (s_4.2 + 1))]) (And.intro rfl (And.intro rfl (And.intro rfl trivial))) hk
            · rw [if_neg c14] at hr
              refine j_iload_n (i := 3) rfl rfl dX1_stepsUp_43 ?_
              cases hr
              rw [show _ = _ from hk]
              exact j_ret dX1_stepsUp_44 m_rk_i
    · cases e17 with
      | inl x18 =>
        dsimp only at hr
        dsimp only
        refine j_iconst (v := (-1)) rfl dX1_stepsUp_57 ?_
        cases hr
        exact j_ret dX1_stepsUp_58 m_rk_i
      | inr v20 =>
        dsimp only at hr
        cases hr
        rfl
  · rw [if_pos c3] at hr
    refine j_iconst (v := (-1)) rfl dX1_stepsUp_7 ?_
    cases hr
    exact j_ret dX1_stepsUp_8 m_rk_i
def w_X1_lowestShared_27 (r8 : Int64) : (Int32 × Int32) → Option ((Int32 × Int32) ⊕ ((Unit) ⊕ (Int32))) := fun s_9 =>
  if 24 ≤ s_9.2 then
    some (.inr (.inl ()))
  else
    (f_X1_isKind s_9.1).bind fun r12 =>
    if r12 = 0 then
      some (.inr (.inl ()))
    else
      (f_X1_has r8 s_9.1).bind fun r15 =>
      if r15 = 0 then
        (m_TI 2 s_9.1).bind fun x17 =>
        some (.inl (x17, s_9.2 + 1))
      else
        some (.inr (.inr s_9.1))
def f_X1_lowestShared (a0 : Int32) (a1 : Int32) : Option (Int32) :=
  (f_X1_isKind a0).bind fun r2 =>
  if r2 = 0 then
    some ((-1))
  else
    (f_X1_isKind a1).bind fun r5 =>
    if r5 = 0 then
      some ((-1))
    else
      (f_X1_allAbove a1).bind fun r8 =>
      (m_loop (w_X1_lowestShared_27 r8) 5000 ((a0, 0))).bind fun e19 => match e19 with
      | .inl x20 =>
        some ((-1))
      | .inr v22 => some v22
def Y_X1_lowestShared : mY := (yX1_lowestShared, cX1_lowestShared, 6, some (FieldType.int), .ireturn)
theorem ok_X1_lowestShared : m_Ok Y_X1_lowestShared := ⟨by decide +kernel, ⟨by decide +kernel, by decide +kernel⟩, tw_2_116, tw_1_8, by decide, Or.inr (Or.inl ⟨Or.inl rfl, rfl⟩)⟩
theorem nn_X1_lowestShared : (parseMethodDescriptor Y_X1_lowestShared.1.desc).map (fun q => q.parameters.length) = some 2 := by decide +kernel
set_option maxHeartbeats 4000000 in
set_option maxRecDepth 20000 in
theorem j_X1_lowestShared {X : mX} {h : mH} {d : Nat} {a0 : Int32} {a1 : Int32} {rv : Int32} (hd : 2 ≤ d) (hr : f_X1_lowestShared a0 a1 = some rv) : m_J X Y_X1_lowestShared d 0 [some (.int a0), some (.int a1), none, none, none, none] [] h (some (.int rv), h) := by
  obtain ⟨d, rfl⟩ : ∃ k, d = k + 1 := ⟨d - 1, by omega⟩
  unfold f_X1_lowestShared at hr
  refine j_iload_n (i := 0) rfl rfl dX1_lowestShared_0 ?_
  replace hr := m_bind hr; obtain ⟨r2, g1, hr⟩ := hr
  refine j_callS (Y' := Y_X1_isKind) (as := [.int a0]) ok_X1_isKind [some (.int a0)] rfl rfl tw_1_162 tw_1_163 nn_X1_isKind (Nat.le_of_ble_eq_true rfl) dX1_lowestShared_1 (j_X1_isKind g1) ?_
  refine j_if_eq (tgt := 14) dX1_lowestShared_4 rfl (fun c3 => ?_) (fun c3 => ?_)
  · rw [if_pos c3] at hr
    refine j_iconst (v := (-1)) rfl dX1_lowestShared_14 ?_
    cases hr
    exact j_ret dX1_lowestShared_15 m_rk_i
  · rw [if_neg c3] at hr
    refine j_iload_n (i := 1) rfl rfl dX1_lowestShared_7 ?_
    replace hr := m_bind hr; obtain ⟨r5, g4, hr⟩ := hr
    refine j_callS (Y' := Y_X1_isKind) (as := [.int a1]) ok_X1_isKind [some (.int a1)] rfl rfl tw_1_162 tw_1_163 nn_X1_isKind (Nat.le_of_ble_eq_true rfl) dX1_lowestShared_8 (j_X1_isKind g4) ?_
    refine j_if_ne (tgt := 16) dX1_lowestShared_11 rfl (fun c6 => ?_) (fun c6 => ?_)
    · rw [if_neg c6] at hr
      refine j_iload_n (i := 1) rfl rfl dX1_lowestShared_16 ?_
      replace hr := m_bind hr; obtain ⟨r8, g7, hr⟩ := hr
      refine j_callS (Y' := Y_X1_allAbove) (as := [.int a1]) ok_X1_allAbove [some (.int a1), none, none, none, none] rfl rfl tw_2_60 tw_2_61 nn_X1_allAbove (Nat.le_of_ble_eq_true rfl) dX1_lowestShared_17 (j_X1_allAbove (by omega) g7) ?_
      refine j_lstore_n (i := 2) (L' := [some (.int a0), some (.int a1), some (.long r8), none, none, none]) rfl (Nat.le_of_ble_eq_true rfl) rfl rfl dX1_lowestShared_20 ?_
      refine j_iload_n (i := 0) rfl rfl dX1_lowestShared_21 ?_
      refine j_istore (i := 4) (L' := [some (.int a0), some (.int a1), some (.long r8), none, some (.int a0), none]) (Nat.le_of_ble_eq_true rfl) rfl rfl dX1_lowestShared_22 ?_
      refine j_iconst (v := 0) rfl dX1_lowestShared_24 ?_
      refine j_istore (i := 5) (L' := [some (.int a0), some (.int a1), some (.long r8), none, some (.int a0), some (.int 0)]) (Nat.le_of_ble_eq_true rfl) rfl rfl dX1_lowestShared_25 ?_
      replace hr := m_bind hr; obtain ⟨e19, q23, hr⟩ := hr
      refine j_weak (L' := [none, none, some (.long r8), none, some (.int a0), some (.int 0)]) (And.intro rfl (And.intro rfl (And.intro rfl trivial))) ?_
      refine m_loop_sound (step := w_X1_lowestShared_27 r8) (P := fun s_9 => m_J X Y_X1_lowestShared (d + 1) 27 [none, none, some (.long r8), none, some (.int s_9.1), some (.int s_9.2)] [] h (some (.int rv), h)) (Qe := fun e19 => match e19 with | .inl x20 => m_J X Y_X1_lowestShared (d + 1) 68 [none, none, none, none, none, none] [] h (some (.int rv), h) | .inr v22 => ((some (.int rv), h) : mR) = (some (.int v22), h)) ?_ _ _ _ q23 ?_
      · intro s_9 o hr hk
        unfold w_X1_lowestShared_27 at hr
        refine j_iload (i := 5) rfl dX1_lowestShared_27 ?_
        refine j_bipush (v := 24) rfl dX1_lowestShared_29 ?_
        refine j_ic_ge (tgt := 68) dX1_lowestShared_31 rfl (fun c10 => ?_) (fun c10 => ?_)
        · rw [if_pos c10] at hr
          cases hr
          exact j_weak (L' := [none, none, none, none, none, none]) trivial hk
        · rw [if_neg c10] at hr
          refine j_iload (i := 4) rfl dX1_lowestShared_34 ?_
          replace hr := m_bind hr; obtain ⟨r12, g11, hr⟩ := hr
          refine j_callS (Y' := Y_X1_isKind) (as := [.int s_9.1]) ok_X1_isKind [some (.int s_9.1)] rfl rfl tw_1_162 tw_1_163 nn_X1_isKind (Nat.le_of_ble_eq_true rfl) dX1_lowestShared_36 (j_X1_isKind g11) ?_
          refine j_if_eq (tgt := 68) dX1_lowestShared_39 rfl (fun c13 => ?_) (fun c13 => ?_)
          · rw [if_pos c13] at hr
            cases hr
            exact j_weak (L' := [none, none, none, none, none, none]) trivial hk
          · rw [if_neg c13] at hr
            refine j_lload_n (i := 2) rfl rfl dX1_lowestShared_42 ?_
            refine j_iload (i := 4) rfl dX1_lowestShared_43 ?_
            replace hr := m_bind hr; obtain ⟨r15, g14, hr⟩ := hr
            refine j_callS (Y' := Y_X1_has) (as := [.long r8, .int s_9.1]) ok_X1_has [some (.long r8), none, some (.int s_9.1)] rfl rfl tw_1_166 tw_1_167 nn_X1_has (Nat.le_of_ble_eq_true rfl) dX1_lowestShared_45 (j_X1_has g14) ?_
            refine j_if_eq (tgt := 54) dX1_lowestShared_48 rfl (fun c16 => ?_) (fun c16 => ?_)
            · rw [if_pos c16] at hr
              refine j_gets 2 (by decide) tw_2_67 dX1_lowestShared_54 ?_
              refine j_iload (i := 4) rfl dX1_lowestShared_57 ?_
              replace hr := m_bind hr; obtain ⟨x17, g18, hr⟩ := hr
              refine j_tial 2 (by decide) rfl dX1_lowestShared_59 ((m_TI_X (by decide)).trans g18) ?_
              refine j_istore (i := 4) (L' := [none, none, some (.long r8), none, some (.int x17), some (.int s_9.2)]) (Nat.le_of_ble_eq_true rfl) rfl rfl dX1_lowestShared_60 ?_
              refine j_iinc (i := 5) (v := s_9.2 + 1) (L' := [none, none, some (.long r8), none, some (.int x17), some (.int (s_9.2 + 1))]) rfl (m_o1 _) (Nat.le_of_ble_eq_true rfl) rfl rfl dX1_lowestShared_62 ?_
              refine j_goto (tgt := 27) dX1_lowestShared_65 rfl ?_
              cases hr
              exact j_weak (L' := [none, none, some (.long r8), none, some (.int x17), some (.int (s_9.2 + 1))]) (And.intro rfl (And.intro rfl (And.intro rfl trivial))) hk
            · rw [if_neg c16] at hr
              refine j_iload (i := 4) rfl dX1_lowestShared_51 ?_
              cases hr
              rw [show _ = _ from hk]
              exact j_ret dX1_lowestShared_53 m_rk_i
      · cases e19 with
        | inl x20 =>
          dsimp only at hr
          dsimp only
          refine j_iconst (v := (-1)) rfl dX1_lowestShared_68 ?_
          cases hr
          exact j_ret dX1_lowestShared_69 m_rk_i
        | inr v22 =>
          dsimp only at hr
          cases hr
          rfl
    · rw [if_pos c6] at hr
      refine j_iconst (v := (-1)) rfl dX1_lowestShared_14 ?_
      cases hr
      exact j_ret dX1_lowestShared_15 m_rk_i
def f_X1_sharedTraits (a0 : Int32) (a1 : Int32) : Option (Int64) :=
  (f_X1_isKind a0).bind fun r2 =>
  if r2 = 0 then
    some ((0 : Int64))
  else
    (f_X1_isKind a1).bind fun r5 =>
    if r5 = 0 then
      some ((0 : Int64))
    else
      (f_X1_allAbove a0).bind fun r8 =>
      (f_X1_allAbove a1).bind fun r10 =>
      some ((r8 &&& r10) &&& ((561850441793536 : Int64)))
def Y_X1_sharedTraits : mY := (yX1_sharedTraits, cX1_sharedTraits, 2, some (FieldType.long), .lreturn)
theorem ok_X1_sharedTraits : m_Ok Y_X1_sharedTraits := ⟨by decide +kernel, ⟨by decide +kernel, by decide +kernel⟩, tw_2_123, tw_1_8, by decide, Or.inr (Or.inr (Or.inl ⟨rfl, rfl⟩))⟩
theorem nn_X1_sharedTraits : (parseMethodDescriptor Y_X1_sharedTraits.1.desc).map (fun q => q.parameters.length) = some 2 := by decide +kernel
set_option maxHeartbeats 4000000 in
set_option maxRecDepth 20000 in
theorem j_X1_sharedTraits {X : mX} {h : mH} {d : Nat} {a0 : Int32} {a1 : Int32} {rv : Int64} (hd : 2 ≤ d) (hr : f_X1_sharedTraits a0 a1 = some rv) : m_J X Y_X1_sharedTraits d 0 [some (.int a0), some (.int a1)] [] h (some (.long rv), h) := by
  obtain ⟨d, rfl⟩ : ∃ k, d = k + 1 := ⟨d - 1, by omega⟩
  unfold f_X1_sharedTraits at hr
  refine j_iload_n (i := 0) rfl rfl dX1_sharedTraits_0 ?_
  replace hr := m_bind hr; obtain ⟨r2, g1, hr⟩ := hr
  refine j_callS (Y' := Y_X1_isKind) (as := [.int a0]) ok_X1_isKind [some (.int a0)] rfl rfl tw_1_162 tw_1_163 nn_X1_isKind (Nat.le_of_ble_eq_true rfl) dX1_sharedTraits_1 (j_X1_isKind g1) ?_
  refine j_if_eq (tgt := 14) dX1_sharedTraits_4 rfl (fun c3 => ?_) (fun c3 => ?_)
  · rw [if_pos c3] at hr
    refine j_lconst (v := 0) rfl dX1_sharedTraits_14 ?_
    cases hr
    exact j_ret dX1_sharedTraits_15 m_rk_l
  · rw [if_neg c3] at hr
    refine j_iload_n (i := 1) rfl rfl dX1_sharedTraits_7 ?_
    replace hr := m_bind hr; obtain ⟨r5, g4, hr⟩ := hr
    refine j_callS (Y' := Y_X1_isKind) (as := [.int a1]) ok_X1_isKind [some (.int a1)] rfl rfl tw_1_162 tw_1_163 nn_X1_isKind (Nat.le_of_ble_eq_true rfl) dX1_sharedTraits_8 (j_X1_isKind g4) ?_
    refine j_if_ne (tgt := 16) dX1_sharedTraits_11 rfl (fun c6 => ?_) (fun c6 => ?_)
    · rw [if_neg c6] at hr
      refine j_iload_n (i := 0) rfl rfl dX1_sharedTraits_16 ?_
      replace hr := m_bind hr; obtain ⟨r8, g7, hr⟩ := hr
      refine j_callS (Y' := Y_X1_allAbove) (as := [.int a0]) ok_X1_allAbove [some (.int a0), none, none, none, none] rfl rfl tw_2_60 tw_2_61 nn_X1_allAbove (Nat.le_of_ble_eq_true rfl) dX1_sharedTraits_17 (j_X1_allAbove (by omega) g7) ?_
      refine j_iload_n (i := 1) rfl rfl dX1_sharedTraits_20 ?_
      replace hr := m_bind hr; obtain ⟨r10, g9, hr⟩ := hr
      refine j_callS (Y' := Y_X1_allAbove) (as := [.int a1]) ok_X1_allAbove [some (.int a1), none, none, none, none] rfl rfl tw_2_60 tw_2_61 nn_X1_allAbove (Nat.le_of_ble_eq_true rfl) dX1_sharedTraits_21 (j_X1_allAbove (by omega) g9) ?_
      refine j_land dX1_sharedTraits_24 ?_
      refine j_ldc2 (v := 561850441793536) tw_2_124 dX1_sharedTraits_25 ?_
      refine j_land dX1_sharedTraits_28 ?_
      cases hr
      exact j_ret dX1_sharedTraits_29 m_rk_l
    · rw [if_pos c6] at hr
      refine j_lconst (v := 0) rfl dX1_sharedTraits_14 ?_
      cases hr
      exact j_ret dX1_sharedTraits_15 m_rk_l
def f_X1_mayTurnInto (a0 : Int32) (a1 : Int32) : Option (Int32) :=
  (f_X1_sharedTraits a0 a1).bind fun r2 =>
  if (lg_cmp (r2 &&& (((-1099511627777) : Int64))) ((0 : Int64))) = 0 then
    some 0
  else
    some 1
def Y_X1_mayTurnInto : mY := (yX1_mayTurnInto, cX1_mayTurnInto, 2, some (FieldType.boolean), .ireturn)
theorem ok_X1_mayTurnInto : m_Ok Y_X1_mayTurnInto := ⟨by decide +kernel, ⟨by decide +kernel, by decide +kernel⟩, tw_3_112, tw_1_8, by decide, Or.inr (Or.inl ⟨Or.inr rfl, rfl⟩)⟩
theorem nn_X1_mayTurnInto : (parseMethodDescriptor Y_X1_mayTurnInto.1.desc).map (fun q => q.parameters.length) = some 2 := by decide +kernel
set_option maxHeartbeats 4000000 in
set_option maxRecDepth 20000 in
theorem j_X1_mayTurnInto {X : mX} {h : mH} {d : Nat} {a0 : Int32} {a1 : Int32} {rv : Int32} (hd : 3 ≤ d) (hr : f_X1_mayTurnInto a0 a1 = some rv) : m_J X Y_X1_mayTurnInto d 0 [some (.int a0), some (.int a1)] [] h (some (.int rv), h) := by
  obtain ⟨d, rfl⟩ : ∃ k, d = k + 1 := ⟨d - 1, by omega⟩
  unfold f_X1_mayTurnInto at hr
  refine j_iload_n (i := 0) rfl rfl dX1_mayTurnInto_0 ?_
  refine j_iload_n (i := 1) rfl rfl dX1_mayTurnInto_1 ?_
  replace hr := m_bind hr; obtain ⟨r2, g1, hr⟩ := hr
  refine j_callS (Y' := Y_X1_sharedTraits) (as := [.int a0, .int a1]) ok_X1_sharedTraits [some (.int a0), some (.int a1)] rfl rfl tw_3_113 tw_2_122 nn_X1_sharedTraits (Nat.le_of_ble_eq_true rfl) dX1_mayTurnInto_2 (j_X1_sharedTraits (by omega) g1) ?_
  refine j_ldc2 (v := (-1099511627777)) tw_3_114 dX1_mayTurnInto_5 ?_
  refine j_land dX1_mayTurnInto_8 ?_
  refine j_lconst (v := 0) rfl dX1_mayTurnInto_9 ?_
  refine j_lcmp dX1_mayTurnInto_10 ?_
  refine j_if_eq (tgt := 18) dX1_mayTurnInto_11 rfl (fun c3 => ?_) (fun c3 => ?_)
  · rw [if_pos c3] at hr
    refine j_iconst (v := 0) rfl dX1_mayTurnInto_18 ?_
    cases hr
    exact j_ret dX1_mayTurnInto_19 m_rk_z0
  · rw [if_neg c3] at hr
    refine j_iconst (v := 1) rfl dX1_mayTurnInto_14 ?_
    refine j_goto (tgt := 19) dX1_mayTurnInto_15 rfl ?_
    cases hr
    exact j_ret dX1_mayTurnInto_19 m_rk_z1
def w_X1_lowest_6 (a0 : Int64) : (Int64 × Int32) → Option ((Int64 × Int32) ⊕ (Int64)) := fun s_1 =>
  if 49 ≤ s_1.2 then
    some (.inr s_1.1)
  else
    (f_X1_has a0 s_1.2).bind fun r4 =>
    if r4 = 0 then
      some (.inl (s_1.1, s_1.2 + 1))
    else
      (m_TL 0 (s_1.2 - 40)).bind fun x6 =>
      some (.inl (s_1.1 &&& ((x6 ^^^ (((-1) : Int64))) ||| (((1 : Int64)) <<< ((s_1.2 : Int32).toInt64 &&& 63))), s_1.2 + 1))
def f_X1_lowest (a0 : Int64) : Option (Int64) :=
  (m_loop (w_X1_lowest_6 a0) 5000 ((a0, 40))).bind fun e8 =>
  some e8
def Y_X1_lowest : mY := (yX1_lowest, cX1_lowest, 5, some (FieldType.long), .lreturn)
theorem ok_X1_lowest : m_Ok Y_X1_lowest := ⟨by decide +kernel, ⟨by decide +kernel, by decide +kernel⟩, tw_2_127, tw_1_8, by decide, Or.inr (Or.inr (Or.inl ⟨rfl, rfl⟩))⟩
theorem nn_X1_lowest : (parseMethodDescriptor Y_X1_lowest.1.desc).map (fun q => q.parameters.length) = some 1 := by decide +kernel
set_option maxHeartbeats 4000000 in
set_option maxRecDepth 20000 in
theorem j_X1_lowest {X : mX} {h : mH} {d : Nat} {a0 : Int64} {rv : Int64} (hd : 1 ≤ d) (hr : f_X1_lowest a0 = some rv) : m_J X Y_X1_lowest d 0 [some (.long a0), none, none, none, none] [] h (some (.long rv), h) := by
  obtain ⟨d, rfl⟩ : ∃ k, d = k + 1 := ⟨d - 1, by omega⟩
  unfold f_X1_lowest at hr
  refine j_lload_n (i := 0) rfl rfl dX1_lowest_0 ?_
  refine j_lstore_n (i := 2) (L' := [some (.long a0), none, some (.long a0), none, none]) rfl (Nat.le_of_ble_eq_true rfl) rfl rfl dX1_lowest_1 ?_
  refine j_bipush (v := 40) rfl dX1_lowest_2 ?_
  refine j_istore (i := 4) (L' := [some (.long a0), none, some (.long a0), none, some (.int 40)]) (Nat.le_of_ble_eq_true rfl) rfl rfl dX1_lowest_4 ?_
  replace hr := m_bind hr; obtain ⟨e8, q11, hr⟩ := hr
  refine j_weak (L' := [some (.long a0), none, some (.long a0), none, some (.int 40)]) (And.intro rfl (And.intro rfl (And.intro rfl trivial))) ?_
  refine m_loop_sound (step := w_X1_lowest_6 a0) (P := fun s_1 => m_J X Y_X1_lowest (d + 1) 6 [some (.long a0), none, some (.long s_1.1), none, some (.int s_1.2)] [] h (some (.long rv), h)) (Qe := fun e8 => m_J X Y_X1_lowest (d + 1) 49 [none, none, some (.long e8), none, none] [] h (some (.long rv), h)) ?_ _ _ _ q11 ?_
  · intro s_1 o hr hk
    unfold w_X1_lowest_6 at hr
    refine j_iload (i := 4) rfl dX1_lowest_6 ?_
    refine j_bipush (v := 49) rfl dX1_lowest_8 ?_
    refine j_ic_ge (tgt := 49) dX1_lowest_10 rfl (fun c2 => ?_) (fun c2 => ?_)
    · rw [if_pos c2] at hr
      cases hr
      exact j_weak (L' := [none, none, some (.long s_1.1), none, none]) (And.intro rfl trivial) hk
    · rw [if_neg c2] at hr
      refine j_lload_n (i := 0) rfl rfl dX1_lowest_13 ?_
      refine j_iload (i := 4) rfl dX1_lowest_14 ?_
      replace hr := m_bind hr; obtain ⟨r4, g3, hr⟩ := hr
      refine j_callS (Y' := Y_X1_has) (as := [.long a0, .int s_1.2]) ok_X1_has [some (.long a0), none, some (.int s_1.2)] rfl rfl tw_1_166 tw_1_167 nn_X1_has (Nat.le_of_ble_eq_true rfl) dX1_lowest_16 (j_X1_has g3) ?_
      refine j_if_eq (tgt := 43) dX1_lowest_19 rfl (fun c5 => ?_) (fun c5 => ?_)
      · rw [if_pos c5] at hr
        refine j_iinc (i := 4) (v := s_1.2 + 1) (L' := [some (.long a0), none, some (.long s_1.1), none, some (.int (s_1.2 + 1))]) rfl (m_o1 _) (Nat.le_of_ble_eq_true rfl) rfl rfl dX1_lowest_43 ?_
        refine j_goto (tgt := 6) dX1_lowest_46 rfl ?_
        cases hr
        exact j_weak (L' := [some (.long a0), none, some (.long s_1.1), none, some (.int (s_1.2 + 1))]) (And.intro rfl (And.intro rfl (And.intro rfl trivial))) hk
      · rw [if_neg c5] at hr
        refine j_lload_n (i := 2) rfl rfl dX1_lowest_22 ?_
        refine j_gets 0 (by decide) tw_2_63 dX1_lowest_23 ?_
        refine j_iload (i := 4) rfl dX1_lowest_26 ?_
        refine j_bipush (v := 40) rfl dX1_lowest_28 ?_
        refine j_isub dX1_lowest_30 ?_
        replace hr := m_bind hr; obtain ⟨x6, g7, hr⟩ := hr
        refine j_tlal 0 (by decide) rfl dX1_lowest_31 ((m_TL_X (by decide)).trans g7) ?_
        refine j_ldc2 (v := (-1)) tw_2_128 dX1_lowest_32 ?_
        refine j_lxor dX1_lowest_35 ?_
        refine j_lconst (v := 1) rfl dX1_lowest_36 ?_
        refine j_iload (i := 4) rfl dX1_lowest_37 ?_
        refine j_lshl dX1_lowest_39 ?_
        refine j_lor dX1_lowest_40 ?_
        refine j_land dX1_lowest_41 ?_
        refine j_lstore_n (i := 2) (L' := [some (.long a0), none, some (.long (s_1.1 &&& ((x6 ^^^ (((-1) : Int64))) ||| (((1 : Int64)) <<< ((s_1.2 : Int32).toInt64 &&& 63))))), none, some (.int s_1.2)]) rfl (Nat.le_of_ble_eq_true rfl) rfl rfl dX1_lowest_42 ?_
        refine j_iinc (i := 4) (v := s_1.2 + 1) (L' := [some (.long a0), none, some (.long (s_1.1 &&& ((x6 ^^^ (((-1) : Int64))) ||| (((1 : Int64)) <<< ((s_1.2 : Int32).toInt64 &&& 63))))), none, some (.int (s_1.2 + 1))]) rfl (m_o1 _) (Nat.le_of_ble_eq_true rfl) rfl rfl dX1_lowest_43 ?_
        refine j_goto (tgt := 6) dX1_lowest_46 rfl ?_
        cases hr
        exact j_weak (L' := [some (.long a0), none, some (.long (s_1.1 &&& ((x6 ^^^ (((-1) : Int64))) ||| (((1 : Int64)) <<< ((s_1.2 : Int32).toInt64 &&& 63))))), none, some (.int (s_1.2 + 1))]) (And.intro rfl (And.intro rfl (And.intro rfl trivial))) hk
  · skip
    refine j_lload_n (i := 2) rfl rfl dX1_lowest_49 ?_
    cases hr
    exact j_ret dX1_lowest_50 m_rk_l
def w_X1_pick_5 (a0 : Int64) (a2 : Int32) : (Int32 × Int32) → Option ((Int32 × Int32) ⊕ ((Unit) ⊕ (Int32))) := fun s_1 =>
  if 49 ≤ s_1.2 then
    some (.inr (.inl ()))
  else
    (f_X1_has a0 s_1.2).bind fun r4 =>
    if r4 = 0 then
      some (.inl (s_1.1, s_1.2 + 1))
    else
      if s_1.1 = a2 then
        some (.inr (.inr s_1.2))
      else
        some (.inl (s_1.1 + 1, s_1.2 + 1))
def f_X1_pick (a0 : Int64) (a2 : Int32) : Option (Int32) :=
  (m_loop (w_X1_pick_5 a0 a2) 5000 ((0, 0))).bind fun e7 => match e7 with
  | .inl x8 =>
    some ((-1))
  | .inr v10 => some v10
def Y_X1_pick : mY := (yX1_pick, cX1_pick, 5, some (FieldType.int), .ireturn)
theorem ok_X1_pick : m_Ok Y_X1_pick := ⟨by decide +kernel, ⟨by decide +kernel, by decide +kernel⟩, tw_2_131, tw_1_8, by decide, Or.inr (Or.inl ⟨Or.inl rfl, rfl⟩)⟩
theorem nn_X1_pick : (parseMethodDescriptor Y_X1_pick.1.desc).map (fun q => q.parameters.length) = some 2 := by decide +kernel
set_option maxHeartbeats 4000000 in
set_option maxRecDepth 20000 in
theorem j_X1_pick {X : mX} {h : mH} {d : Nat} {a0 : Int64} {a2 : Int32} {rv : Int32} (hd : 1 ≤ d) (hr : f_X1_pick a0 a2 = some rv) : m_J X Y_X1_pick d 0 [some (.long a0), none, some (.int a2), none, none] [] h (some (.int rv), h) := by
  obtain ⟨d, rfl⟩ : ∃ k, d = k + 1 := ⟨d - 1, by omega⟩
  unfold f_X1_pick at hr
  refine j_iconst (v := 0) rfl dX1_pick_0 ?_
  refine j_istore_n (i := 3) (L' := [some (.long a0), none, some (.int a2), some (.int 0), none]) rfl (Nat.le_of_ble_eq_true rfl) rfl rfl dX1_pick_1 ?_
  refine j_iconst (v := 0) rfl dX1_pick_2 ?_
  refine j_istore (i := 4) (L' := [some (.long a0), none, some (.int a2), some (.int 0), some (.int 0)]) (Nat.le_of_ble_eq_true rfl) rfl rfl dX1_pick_3 ?_
  replace hr := m_bind hr; obtain ⟨e7, q11, hr⟩ := hr
  refine j_weak (L' := [some (.long a0), none, some (.int a2), some (.int 0), some (.int 0)]) (And.intro rfl (And.intro rfl (And.intro rfl (And.intro rfl trivial)))) ?_
  refine m_loop_sound (step := w_X1_pick_5 a0 a2) (P := fun s_1 => m_J X Y_X1_pick (d + 1) 5 [some (.long a0), none, some (.int a2), some (.int s_1.1), some (.int s_1.2)] [] h (some (.int rv), h)) (Qe := fun e7 => match e7 with | .inl x8 => m_J X Y_X1_pick (d + 1) 38 [none, none, none, none, none] [] h (some (.int rv), h) | .inr v10 => ((some (.int rv), h) : mR) = (some (.int v10), h)) ?_ _ _ _ q11 ?_
  · intro s_1 o hr hk
    unfold w_X1_pick_5 at hr
    refine j_iload (i := 4) rfl dX1_pick_5 ?_
    refine j_bipush (v := 49) rfl dX1_pick_7 ?_
    refine j_ic_ge (tgt := 38) dX1_pick_9 rfl (fun c2 => ?_) (fun c2 => ?_)
    · rw [if_pos c2] at hr
      cases hr
      exact j_weak (L' := [none, none, none, none, none]) trivial hk
    · rw [if_neg c2] at hr
      refine j_lload_n (i := 0) rfl rfl dX1_pick_12 ?_
      refine j_iload (i := 4) rfl dX1_pick_13 ?_
      replace hr := m_bind hr; obtain ⟨r4, g3, hr⟩ := hr
      refine j_callS (Y' := Y_X1_has) (as := [.long a0, .int s_1.2]) ok_X1_has [some (.long a0), none, some (.int s_1.2)] rfl rfl tw_1_166 tw_1_167 nn_X1_has (Nat.le_of_ble_eq_true rfl) dX1_pick_15 (j_X1_has g3) ?_
      refine j_if_eq (tgt := 32) dX1_pick_18 rfl (fun c5 => ?_) (fun c5 => ?_)
      · rw [if_pos c5] at hr
        refine j_iinc (i := 4) (v := s_1.2 + 1) (L' := [some (.long a0), none, some (.int a2), some (.int s_1.1), some (.int (s_1.2 + 1))]) rfl (m_o1 _) (Nat.le_of_ble_eq_true rfl) rfl rfl dX1_pick_32 ?_
        refine j_goto (tgt := 5) dX1_pick_35 rfl ?_
        cases hr
        exact j_weak (L' := [some (.long a0), none, some (.int a2), some (.int s_1.1), some (.int (s_1.2 + 1))]) (And.intro rfl (And.intro rfl (And.intro rfl (And.intro rfl trivial)))) hk
      · rw [if_neg c5] at hr
        refine j_iload_n (i := 3) rfl rfl dX1_pick_21 ?_
        refine j_iload_n (i := 2) rfl rfl dX1_pick_22 ?_
        refine j_ic_ne (tgt := 29) dX1_pick_23 rfl (fun c6 => ?_) (fun c6 => ?_)
        · rw [if_neg c6] at hr
          refine j_iinc (i := 3) (v := s_1.1 + 1) (L' := [some (.long a0), none, some (.int a2), some (.int (s_1.1 + 1)), some (.int s_1.2)]) rfl (m_o1 _) (Nat.le_of_ble_eq_true rfl) rfl rfl dX1_pick_29 ?_
          refine j_iinc (i := 4) (v := s_1.2 + 1) (L' := [some (.long a0), none, some (.int a2), some (.int (s_1.1 + 1)), some (.int (s_1.2 + 1))]) rfl (m_o1 _) (Nat.le_of_ble_eq_true rfl) rfl rfl dX1_pick_32 ?_
          refine j_goto (tgt := 5) dX1_pick_35 rfl ?_
          cases hr
          exact j_weak (L' := [some (.long a0), none, some (.int a2), some (.int (s_1.1 + 1)), some (.int (s_1.2 + 1))]) (And.intro rfl (And.intro rfl (And.intro rfl (And.intro rfl trivial)))) hk
        · rw [if_pos c6] at hr
          refine j_iload (i := 4) rfl dX1_pick_26 ?_
          cases hr
          rw [show _ = _ from hk]
          exact j_ret dX1_pick_28 m_rk_i
  · cases e7 with
    | inl x8 =>
      dsimp only at hr
      dsimp only
      refine j_iconst (v := (-1)) rfl dX1_pick_38 ?_
      cases hr
      exact j_ret dX1_pick_39 m_rk_i
    | inr v10 =>
      dsimp only at hr
      cases hr
      rfl
def f_X7_lastDay (h : mH) (a0 : Nat) : Option (Int32) :=
  (m_gi h a0 6 8).bind fun x1 =>
  (m_gi h a0 6 9).bind fun x3 =>
  some (x1 + x3)
def Y_X7_lastDay : mY := (yX7_lastDay, cX7_lastDay, 1, some (FieldType.int), .ireturn)
theorem ok_X7_lastDay : m_Ok Y_X7_lastDay := ⟨by decide +kernel, ⟨by decide +kernel, by decide +kernel⟩, tw_2_224, tw_1_9, by decide, Or.inr (Or.inl ⟨Or.inl rfl, rfl⟩)⟩
theorem nn_X7_lastDay : (parseMethodDescriptor Y_X7_lastDay.1.desc).map (fun q => q.parameters.length) = some 0 := by decide +kernel
set_option maxHeartbeats 4000000 in
set_option maxRecDepth 20000 in
theorem j_X7_lastDay {X : mX} {d : Nat} {h : mH} {a0 : Nat} {rv : Int32} (hr : f_X7_lastDay h a0 = some rv) : m_J X Y_X7_lastDay d 0 [some (.ref a0)] [] h (some (.int rv), h) := by
  unfold f_X7_lastDay at hr
  refine j_aload_n (i := 0) rfl rfl dX7_lastDay_0 ?_
  replace hr := m_bind hr; obtain ⟨x1, g2, hr⟩ := hr
  refine j_getf (C := RX7) (T := TX7) (N := 11) (ci := 6) (k := 8) rfl (by decide) inX7 tw_1_208 dX7_lastDay_1 (m_gi_spec g2) ?_
  refine j_aload_n (i := 0) rfl rfl dX7_lastDay_4 ?_
  replace hr := m_bind hr; obtain ⟨x3, g4, hr⟩ := hr
  refine j_getf (C := RX7) (T := TX7) (N := 11) (ci := 6) (k := 9) rfl (by decide) inX7 tw_1_210 dX7_lastDay_5 (m_gi_spec g4) ?_
  refine j_iadd dX7_lastDay_8 ?_
  cases hr
  exact j_ret dX7_lastDay_9 m_rk_i
def f_X7_dueOn (h : mH) (a0 : Nat) (a1 : Int32) : Option (Int32) :=
  if m_ob h a0 6 = true then
    (f_X7_lastDay h a0).bind fun r2 =>
    (m_gi h a0 6 10).bind fun x3 =>
    some (x3 * (if 100 < ((if 0 < (a1 - r2) then (a1 - r2) else 0) + (if 0 < ((if 0 < (a1 - r2) then (a1 - r2) else 0) - 30) then ((if 0 < (a1 - r2) then (a1 - r2) else 0) - 30) else 0)) then 100 else ((if 0 < (a1 - r2) then (a1 - r2) else 0) + (if 0 < ((if 0 < (a1 - r2) then (a1 - r2) else 0) - 30) then ((if 0 < (a1 - r2) then (a1 - r2) else 0) - 30) else 0))))
  else none
def Y_X7_dueOn : mY := (yX7_dueOn, cX7_dueOn, 4, some (FieldType.int), .ireturn)
theorem ok_X7_dueOn : m_Ok Y_X7_dueOn := ⟨by decide +kernel, ⟨by decide +kernel, by decide +kernel⟩, tw_2_236, tw_1_9, by decide, Or.inr (Or.inl ⟨Or.inl rfl, rfl⟩)⟩
theorem nn_X7_dueOn : (parseMethodDescriptor Y_X7_dueOn.1.desc).map (fun q => q.parameters.length) = some 1 := by decide +kernel
set_option maxHeartbeats 4000000 in
set_option maxRecDepth 20000 in
theorem j_X7_dueOn {X : mX} {d : Nat} {h : mH} {a0 : Nat} {a1 : Int32} {rv : Int32} (hd : 1 ≤ d) (hr : f_X7_dueOn h a0 a1 = some rv) : m_J X Y_X7_dueOn d 0 [some (.ref a0), some (.int a1), none, none] [] h (some (.int rv), h) := by
  obtain ⟨d, rfl⟩ : ∃ k, d = k + 1 := ⟨d - 1, by omega⟩
  unfold f_X7_dueOn at hr
  refine j_iconst (v := 0) rfl dX7_dueOn_0 ?_
  refine j_iload_n (i := 1) rfl rfl dX7_dueOn_1 ?_
  refine j_aload_n (i := 0) rfl rfl dX7_dueOn_2 ?_
  by_cases o5 : m_ob h a0 6 = true
  · rw [if_pos o5] at hr
    replace hr := m_bind hr; obtain ⟨r2, g1, hr⟩ := hr
    refine j_callV (Y' := Y_X7_lastDay) (a := a0) (as := []) (ci := 6) (T := TX7) (N := 11) ok_X7_lastDay [some (.ref a0)] rfl rfl rfl tw_2_237 tw_2_222 tw_2_223 nn_X7_lastDay (Nat.le_of_ble_eq_true rfl) dX7_dueOn_3 o5 (j_X7_lastDay g1) ?_
    refine j_isub dX7_dueOn_6 ?_
    refine j_max tw_2_238 (Nat.le_of_ble_eq_true rfl) rfl dX7_dueOn_7 ?_
    refine j_istore_n (i := 2) (L' := [some (.ref a0), some (.int a1), some (.int (if 0 < (a1 - r2) then (a1 - r2) else 0)), none]) rfl (Nat.le_of_ble_eq_true rfl) rfl rfl dX7_dueOn_10 ?_
    refine j_iload_n (i := 2) rfl rfl dX7_dueOn_11 ?_
    refine j_iconst (v := 0) rfl dX7_dueOn_12 ?_
    refine j_iload_n (i := 2) rfl rfl dX7_dueOn_13 ?_
    refine j_bipush (v := 30) rfl dX7_dueOn_14 ?_
    refine j_isub dX7_dueOn_16 ?_
    refine j_max tw_2_238 (Nat.le_of_ble_eq_true rfl) rfl dX7_dueOn_17 ?_
    refine j_iadd dX7_dueOn_20 ?_
    refine j_istore_n (i := 3) (L' := [some (.ref a0), some (.int a1), some (.int (if 0 < (a1 - r2) then (a1 - r2) else 0)), some (.int ((if 0 < (a1 - r2) then (a1 - r2) else 0) + (if 0 < ((if 0 < (a1 - r2) then (a1 - r2) else 0) - 30) then ((if 0 < (a1 - r2) then (a1 - r2) else 0) - 30) else 0)))]) rfl (Nat.le_of_ble_eq_true rfl) rfl rfl dX7_dueOn_21 ?_
    refine j_aload_n (i := 0) rfl rfl dX7_dueOn_22 ?_
    replace hr := m_bind hr; obtain ⟨x3, g4, hr⟩ := hr
    refine j_getf (C := RX7) (T := TX7) (N := 11) (ci := 6) (k := 10) rfl (by decide) inX7 tw_1_212 dX7_dueOn_23 (m_gi_spec g4) ?_
    refine j_iload_n (i := 3) rfl rfl dX7_dueOn_26 ?_
    refine j_bipush (v := 100) rfl dX7_dueOn_27 ?_
    refine j_min tw_2_239 (Nat.le_of_ble_eq_true rfl) rfl dX7_dueOn_29 ?_
    refine j_imul dX7_dueOn_32 ?_
    cases hr
    exact j_ret dX7_dueOn_33 m_rk_i
  · rw [if_neg o5] at hr
    cases hr
def f_X7_lendTo (h : mH) (a0 : Nat) (a1 : Int32) (a2 : Int32) (a3 : Int32) (a4 : Int32) : Option (mH) :=
  (m_pf h a0 6 7 (.int a1)).bind fun h1 =>
  (m_pf h1 a0 6 8 (.int a2)).bind fun h3 =>
  (m_pf h3 a0 6 9 (.int a3)).bind fun h5 =>
  (m_pf h5 a0 6 10 (.int a4)).bind fun h7 =>
  some h7
def Y_X7_lendTo : mY := (yX7_lendTo, cX7_lendTo, 5, none, .return_)
theorem ok_X7_lendTo : m_Ok Y_X7_lendTo := ⟨by decide +kernel, ⟨by decide +kernel, by decide +kernel⟩, tw_2_213, tw_1_9, by decide, Or.inl ⟨rfl, rfl⟩⟩
theorem nn_X7_lendTo : (parseMethodDescriptor Y_X7_lendTo.1.desc).map (fun q => q.parameters.length) = some 4 := by decide +kernel
set_option maxHeartbeats 4000000 in
set_option maxRecDepth 20000 in
theorem j_X7_lendTo {X : mX} {d : Nat} {h : mH} {a0 : Nat} {a1 : Int32} {a2 : Int32} {a3 : Int32} {a4 : Int32} {h' : mH} (hr : f_X7_lendTo h a0 a1 a2 a3 a4 = some h') : m_J X Y_X7_lendTo d 0 [some (.ref a0), some (.int a1), some (.int a2), some (.int a3), some (.int a4)] [] h (none, h') := by
  unfold f_X7_lendTo at hr
  refine j_aload_n (i := 0) rfl rfl dX7_lendTo_0 ?_
  refine j_iload_n (i := 1) rfl rfl dX7_lendTo_1 ?_
  replace hr := m_bind hr; obtain ⟨h1, g2, hr⟩ := hr
  refine j_puti (C := RX7) (T := TX7) (ty := tyX7) (N := 11) (ci := 6) (k := 7) rfl (by decide) inX7 tyX7_ok nmX7 tw_1_205 rfl rfl dX7_lendTo_2 g2 ?_
  refine j_aload_n (i := 0) rfl rfl dX7_lendTo_5 ?_
  refine j_iload_n (i := 2) rfl rfl dX7_lendTo_6 ?_
  replace hr := m_bind hr; obtain ⟨h3, g4, hr⟩ := hr
  refine j_puti (C := RX7) (T := TX7) (ty := tyX7) (N := 11) (ci := 6) (k := 8) rfl (by decide) inX7 tyX7_ok nmX7 tw_1_208 rfl rfl dX7_lendTo_7 g4 ?_
  refine j_aload_n (i := 0) rfl rfl dX7_lendTo_10 ?_
  refine j_iload_n (i := 3) rfl rfl dX7_lendTo_11 ?_
  replace hr := m_bind hr; obtain ⟨h5, g6, hr⟩ := hr
  refine j_puti (C := RX7) (T := TX7) (ty := tyX7) (N := 11) (ci := 6) (k := 9) rfl (by decide) inX7 tyX7_ok nmX7 tw_1_210 rfl rfl dX7_lendTo_12 g6 ?_
  refine j_aload_n (i := 0) rfl rfl dX7_lendTo_15 ?_
  refine j_iload (i := 4) rfl dX7_lendTo_16 ?_
  replace hr := m_bind hr; obtain ⟨h7, g8, hr⟩ := hr
  refine j_puti (C := RX7) (T := TX7) (ty := tyX7) (N := 11) (ci := 6) (k := 10) rfl (by decide) inX7 tyX7_ok nmX7 tw_1_212 rfl rfl dX7_lendTo_18 g8 ?_
  cases hr
  exact j_ret dX7_lendTo_21 m_rk_v
def f_X7_endLoan (h : mH) (a0 : Nat) : Option (mH) :=
  if m_ob h a0 6 = true then
    (f_X7_lendTo h a0 ((-1)) ((-1)) ((-1)) ((-1))).bind fun h2 =>
    some h2
  else none
def Y_X7_endLoan : mY := (yX7_endLoan, cX7_endLoan, 1, none, .return_)
theorem ok_X7_endLoan : m_Ok Y_X7_endLoan := ⟨by decide +kernel, ⟨by decide +kernel, by decide +kernel⟩, tw_3_9, tw_1_9, by decide, Or.inl ⟨rfl, rfl⟩⟩
theorem nn_X7_endLoan : (parseMethodDescriptor Y_X7_endLoan.1.desc).map (fun q => q.parameters.length) = some 0 := by decide +kernel
set_option maxHeartbeats 4000000 in
set_option maxRecDepth 20000 in
theorem j_X7_endLoan {X : mX} {d : Nat} {h : mH} {a0 : Nat} {h' : mH} (hd : 1 ≤ d) (hr : f_X7_endLoan h a0 = some h') : m_J X Y_X7_endLoan d 0 [some (.ref a0)] [] h (none, h') := by
  obtain ⟨d, rfl⟩ : ∃ k, d = k + 1 := ⟨d - 1, by omega⟩
  unfold f_X7_endLoan at hr
  refine j_aload_n (i := 0) rfl rfl dX7_endLoan_0 ?_
  refine j_iconst (v := (-1)) rfl dX7_endLoan_1 ?_
  refine j_iconst (v := (-1)) rfl dX7_endLoan_2 ?_
  refine j_iconst (v := (-1)) rfl dX7_endLoan_3 ?_
  refine j_iconst (v := (-1)) rfl dX7_endLoan_4 ?_
  by_cases o3 : m_ob h a0 6 = true
  · rw [if_pos o3] at hr
    replace hr := m_bind hr; obtain ⟨h2, g1, hr⟩ := hr
    refine j_callV (Y' := Y_X7_lendTo) (a := a0) (as := [.int (-1), .int (-1), .int (-1), .int (-1)]) (ci := 6) (T := TX7) (N := 11) ok_X7_lendTo [some (.ref a0), some (.int (-1)), some (.int (-1)), some (.int (-1)), some (.int (-1))] rfl rfl rfl tw_3_10 tw_2_211 tw_2_212 nn_X7_lendTo (Nat.le_of_ble_eq_true rfl) dX7_endLoan_5 o3 (j_X7_lendTo g1) ?_
    cases hr
    exact j_ret dX7_endLoan_8 m_rk_v
  · rw [if_neg o3] at hr
    cases hr
def f_X7_isMeasure (a0 : Int32) : Option (Int32) :=
  if a0 < 0 then
    some 0
  else
    if 100000 < a0 then
      some 0
    else
      some 1
def Y_X7_isMeasure : mY := (yX7_isMeasure, cX7_isMeasure, 1, some (FieldType.boolean), .ireturn)
theorem ok_X7_isMeasure : m_Ok Y_X7_isMeasure := ⟨by decide +kernel, ⟨by decide +kernel, by decide +kernel⟩, tw_1_171, tw_1_9, by decide, Or.inr (Or.inl ⟨Or.inr rfl, rfl⟩)⟩
theorem nn_X7_isMeasure : (parseMethodDescriptor Y_X7_isMeasure.1.desc).map (fun q => q.parameters.length) = some 1 := by decide +kernel
set_option maxHeartbeats 4000000 in
set_option maxRecDepth 20000 in
theorem j_X7_isMeasure {X : mX} {h : mH} {d : Nat} {a0 : Int32} {rv : Int32} (hr : f_X7_isMeasure a0 = some rv) : m_J X Y_X7_isMeasure d 0 [some (.int a0)] [] h (some (.int rv), h) := by
  unfold f_X7_isMeasure at hr
  refine j_iload_n (i := 0) rfl rfl dX7_isMeasure_0 ?_
  refine j_if_lt (tgt := 14) dX7_isMeasure_1 rfl (fun c1 => ?_) (fun c1 => ?_)
  · rw [if_pos c1] at hr
    refine j_iconst (v := 0) rfl dX7_isMeasure_14 ?_
    cases hr
    exact j_ret dX7_isMeasure_15 m_rk_z0
  · rw [if_neg c1] at hr
    refine j_iload_n (i := 0) rfl rfl dX7_isMeasure_4 ?_
    refine j_ldc (v := 100000) tw_1_172 dX7_isMeasure_5 ?_
    refine j_ic_gt (tgt := 14) dX7_isMeasure_7 rfl (fun c2 => ?_) (fun c2 => ?_)
    · rw [if_pos c2] at hr
      refine j_iconst (v := 0) rfl dX7_isMeasure_14 ?_
      cases hr
      exact j_ret dX7_isMeasure_15 m_rk_z0
    · rw [if_neg c2] at hr
      refine j_iconst (v := 1) rfl dX7_isMeasure_10 ?_
      refine j_goto (tgt := 15) dX7_isMeasure_11 rfl ?_
      cases hr
      exact j_ret dX7_isMeasure_15 m_rk_z1
def f_X7_init (h : mH) (a0 : Nat) (a1 : Int32) (a2 : Int32) (a3 : Int32) (a4 : Int32) : Option (mH) :=
  (m_pf h a0 6 0 (.int a1)).bind fun h1 =>
  (m_pf h1 a0 6 3 (.int a2)).bind fun h3 =>
  (m_pf h3 a0 6 1 (.int a3)).bind fun h5 =>
  (m_pf h5 a0 6 2 (.int a4)).bind fun h7 =>
  (m_pf h7 a0 6 4 (va_rf none)).bind fun h9 =>
  (m_pf h9 a0 6 5 (.int ((-1)))).bind fun h11 =>
  (m_pf h11 a0 6 6 (va_rf none)).bind fun h13 =>
  (m_pf h13 a0 6 7 (.int ((-1)))).bind fun h15 =>
  (m_pf h15 a0 6 8 (.int ((-1)))).bind fun h17 =>
  (m_pf h17 a0 6 9 (.int ((-1)))).bind fun h19 =>
  (m_pf h19 a0 6 10 (.int ((-1)))).bind fun h21 =>
  some h21
def Y_X7_init : mY := (yX7_init, cX7_init, 5, none, .return_)
theorem ok_X7_init : m_Ok Y_X7_init := ⟨by decide +kernel, ⟨by decide +kernel, by decide +kernel⟩, tw_1_180, tw_1_9, by decide, Or.inl ⟨rfl, rfl⟩⟩
theorem nn_X7_init : (parseMethodDescriptor Y_X7_init.1.desc).map (fun q => q.parameters.length) = some 4 := by decide +kernel
set_option maxHeartbeats 4000000 in
set_option maxRecDepth 20000 in
theorem j_X7_init {X : mX} {d : Nat} {h : mH} {a0 : Nat} {a1 : Int32} {a2 : Int32} {a3 : Int32} {a4 : Int32} {h' : mH} (hd : 1 ≤ d) (hr : f_X7_init h a0 a1 a2 a3 a4 = some h') : m_J X Y_X7_init d 0 [some (.ref a0), some (.int a1), some (.int a2), some (.int a3), some (.int a4)] [] h (none, h') := by
  obtain ⟨d, rfl⟩ : ∃ k, d = k + 1 := ⟨d - 1, by omega⟩
  unfold f_X7_init at hr
  refine j_aload_n (i := 0) rfl rfl dX7_init_0 ?_
  refine j_objInit tw_1_181 (Nat.le_of_ble_eq_true rfl) dX7_init_1 ?_
  refine j_aload_n (i := 0) rfl rfl dX7_init_4 ?_
  refine j_iload_n (i := 1) rfl rfl dX7_init_5 ?_
  replace hr := m_bind hr; obtain ⟨h1, g2, hr⟩ := hr
  refine j_putiF (C := RX7) (T := TX7) (ty := tyX7) (N := 11) (ci := 6) (k := 0) rfl (by decide) inX7 tyX7_ok nmX7 tw_1_182 rfl rfl rfl rfl dX7_init_6 g2 ?_
  refine j_aload_n (i := 0) rfl rfl dX7_init_9 ?_
  refine j_iload_n (i := 2) rfl rfl dX7_init_10 ?_
  replace hr := m_bind hr; obtain ⟨h3, g4, hr⟩ := hr
  refine j_puti (C := RX7) (T := TX7) (ty := tyX7) (N := 11) (ci := 6) (k := 3) rfl (by decide) inX7 tyX7_ok nmX7 tw_1_194 rfl rfl dX7_init_11 g4 ?_
  refine j_aload_n (i := 0) rfl rfl dX7_init_14 ?_
  refine j_iload_n (i := 3) rfl rfl dX7_init_15 ?_
  replace hr := m_bind hr; obtain ⟨h5, g6, hr⟩ := hr
  refine j_putiF (C := RX7) (T := TX7) (ty := tyX7) (N := 11) (ci := 6) (k := 1) rfl (by decide) inX7 tyX7_ok nmX7 tw_1_186 rfl rfl rfl rfl dX7_init_16 g6 ?_
  refine j_aload_n (i := 0) rfl rfl dX7_init_19 ?_
  refine j_iload (i := 4) rfl dX7_init_20 ?_
  replace hr := m_bind hr; obtain ⟨h7, g8, hr⟩ := hr
  refine j_putiF (C := RX7) (T := TX7) (ty := tyX7) (N := 11) (ci := 6) (k := 2) rfl (by decide) inX7 tyX7_ok nmX7 tw_1_191 rfl rfl rfl rfl dX7_init_22 g8 ?_
  refine j_aload_n (i := 0) rfl rfl dX7_init_25 ?_
  refine j_null dX7_init_26 ?_
  replace hr := m_bind hr; obtain ⟨h9, g10, hr⟩ := hr
  refine j_putr (q := none) (C := RX7) (T := TX7) (ty := tyX7) (N := 11) (ci := 6) (k := 4) rfl (by decide) inX7 tyX7_ok nmX7 tw_1_198 rfl rfl dX7_init_27 g10 ?_
  refine j_aload_n (i := 0) rfl rfl dX7_init_30 ?_
  refine j_iconst (v := (-1)) rfl dX7_init_31 ?_
  replace hr := m_bind hr; obtain ⟨h11, g12, hr⟩ := hr
  refine j_puti (C := RX7) (T := TX7) (ty := tyX7) (N := 11) (ci := 6) (k := 5) rfl (by decide) inX7 tyX7_ok nmX7 tw_1_201 rfl rfl dX7_init_32 g12 ?_
  refine j_aload_n (i := 0) rfl rfl dX7_init_35 ?_
  refine j_null dX7_init_36 ?_
  replace hr := m_bind hr; obtain ⟨h13, g14, hr⟩ := hr
  refine j_putr (q := none) (C := RX7) (T := TX7) (ty := tyX7) (N := 11) (ci := 6) (k := 6) rfl (by decide) inX7 tyX7_ok nmX7 tw_1_203 rfl rfl dX7_init_37 g14 ?_
  refine j_aload_n (i := 0) rfl rfl dX7_init_40 ?_
  refine j_iconst (v := (-1)) rfl dX7_init_41 ?_
  replace hr := m_bind hr; obtain ⟨h15, g16, hr⟩ := hr
  refine j_puti (C := RX7) (T := TX7) (ty := tyX7) (N := 11) (ci := 6) (k := 7) rfl (by decide) inX7 tyX7_ok nmX7 tw_1_205 rfl rfl dX7_init_42 g16 ?_
  refine j_aload_n (i := 0) rfl rfl dX7_init_45 ?_
  refine j_iconst (v := (-1)) rfl dX7_init_46 ?_
  replace hr := m_bind hr; obtain ⟨h17, g18, hr⟩ := hr
  refine j_puti (C := RX7) (T := TX7) (ty := tyX7) (N := 11) (ci := 6) (k := 8) rfl (by decide) inX7 tyX7_ok nmX7 tw_1_208 rfl rfl dX7_init_47 g18 ?_
  refine j_aload_n (i := 0) rfl rfl dX7_init_50 ?_
  refine j_iconst (v := (-1)) rfl dX7_init_51 ?_
  replace hr := m_bind hr; obtain ⟨h19, g20, hr⟩ := hr
  refine j_puti (C := RX7) (T := TX7) (ty := tyX7) (N := 11) (ci := 6) (k := 9) rfl (by decide) inX7 tyX7_ok nmX7 tw_1_210 rfl rfl dX7_init_52 g20 ?_
  refine j_aload_n (i := 0) rfl rfl dX7_init_55 ?_
  refine j_iconst (v := (-1)) rfl dX7_init_56 ?_
  replace hr := m_bind hr; obtain ⟨h21, g22, hr⟩ := hr
  refine j_puti (C := RX7) (T := TX7) (ty := tyX7) (N := 11) (ci := 6) (k := 10) rfl (by decide) inX7 tyX7_ok nmX7 tw_1_212 rfl rfl dX7_init_57 g22 ?_
  cases hr
  exact j_ret dX7_init_60 m_rk_v
def f_X7_isLent (h : mH) (a0 : Nat) : Option (Int32) :=
  (m_gi h a0 6 7).bind fun x1 =>
  if x1 = ((-1)) then
    some 0
  else
    some 1
def Y_X7_isLent : mY := (yX7_isLent, cX7_isLent, 1, some (FieldType.boolean), .ireturn)
theorem ok_X7_isLent : m_Ok Y_X7_isLent := ⟨by decide +kernel, ⟨by decide +kernel, by decide +kernel⟩, tw_2_50, tw_1_9, by decide, Or.inr (Or.inl ⟨Or.inr rfl, rfl⟩)⟩
theorem nn_X7_isLent : (parseMethodDescriptor Y_X7_isLent.1.desc).map (fun q => q.parameters.length) = some 0 := by decide +kernel
set_option maxHeartbeats 4000000 in
set_option maxRecDepth 20000 in
theorem j_X7_isLent {X : mX} {d : Nat} {h : mH} {a0 : Nat} {rv : Int32} (hr : f_X7_isLent h a0 = some rv) : m_J X Y_X7_isLent d 0 [some (.ref a0)] [] h (some (.int rv), h) := by
  unfold f_X7_isLent at hr
  refine j_aload_n (i := 0) rfl rfl dX7_isLent_0 ?_
  replace hr := m_bind hr; obtain ⟨x1, g2, hr⟩ := hr
  refine j_getf (C := RX7) (T := TX7) (N := 11) (ci := 6) (k := 7) rfl (by decide) inX7 tw_1_205 dX7_isLent_1 (m_gi_spec g2) ?_
  refine j_iconst (v := (-1)) rfl dX7_isLent_4 ?_
  refine j_ic_eq (tgt := 12) dX7_isLent_5 rfl (fun c3 => ?_) (fun c3 => ?_)
  · rw [if_pos c3] at hr
    refine j_iconst (v := 0) rfl dX7_isLent_12 ?_
    cases hr
    exact j_ret dX7_isLent_13 m_rk_z0
  · rw [if_neg c3] at hr
    refine j_iconst (v := 1) rfl dX7_isLent_8 ?_
    refine j_goto (tgt := 13) dX7_isLent_9 rfl ?_
    cases hr
    exact j_ret dX7_isLent_13 m_rk_z1
end
