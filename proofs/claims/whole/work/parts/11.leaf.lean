def f_X0_init (h : mH) (a0 : Nat) (a1 : Int32) (a2 : Int32) (a3 : Int32) : Option (mH) :=
  (m_pf h a0 0 0 (.int a1)).bind fun h1 =>
  (m_pf h1 a0 0 1 (.int a2)).bind fun h3 =>
  (some (if 0 < a3 then a3 else 0 : Int32)).bind fun y5 =>
  (m_newr h3 2 y5).bind fun h7 =>
  (m_pf h7 a0 0 2 (va_rf ((some h3.1)))).bind fun h9 =>
  some h9
def Y_X0_init : mY := (yX0_init, cX0_init, 4, none, .return_)
theorem ok_X0_init : m_Ok Y_X0_init := ⟨by decide +kernel, ⟨by decide +kernel, by decide +kernel⟩, tw_2_8, tw_1_10, by decide, Or.inl ⟨rfl, rfl⟩⟩
theorem nn_X0_init : (parseMethodDescriptor Y_X0_init.1.desc).map (fun q => q.parameters.length) = some 3 := by decide +kernel
set_option maxHeartbeats 4000000 in
set_option maxRecDepth 20000 in
theorem j_X0_init {X : mX} {d : Nat} {h : mH} {a0 : Nat} {a1 : Int32} {a2 : Int32} {a3 : Int32} {h' : mH} (hd : 1 ≤ d) (hr : f_X0_init h a0 a1 a2 a3 = some h') : m_J X Y_X0_init d 0 [some (.ref a0), some (.int a1), some (.int a2), some (.int a3)] [] h (none, h') := by
  obtain ⟨d, rfl⟩ : ∃ k, d = k + 1 := ⟨d - 1, by omega⟩
  unfold f_X0_init at hr
  refine j_aload_n (i := 0) rfl rfl dX0_init_0 ?_
  refine j_objInit tw_2_9 (Nat.le_of_ble_eq_true rfl) dX0_init_1 ?_
  refine j_aload_n (i := 0) rfl rfl dX0_init_4 ?_
  refine j_iload_n (i := 1) rfl rfl dX0_init_5 ?_
  replace hr := m_bind hr; obtain ⟨h1, g2, hr⟩ := hr
  refine j_putiF (C := RX0) (T := TX0) (ty := tyX0) (N := 3) (ci := 0) (k := 0) rfl (by decide) inX0 tyX0_ok nmX0 tw_2_14 rfl rfl rfl rfl dX0_init_6 g2 ?_
  refine j_aload_n (i := 0) rfl rfl dX0_init_9 ?_
  refine j_iload_n (i := 2) rfl rfl dX0_init_10 ?_
  replace hr := m_bind hr; obtain ⟨h3, g4, hr⟩ := hr
  refine j_putiF (C := RX0) (T := TX0) (ty := tyX0) (N := 3) (ci := 0) (k := 1) rfl (by decide) inX0 tyX0_ok nmX0 tw_2_16 rfl rfl rfl rfl dX0_init_11 g4 ?_
  refine j_aload_n (i := 0) rfl rfl dX0_init_14 ?_
  refine j_iconst (v := 0) rfl dX0_init_15 ?_
  refine j_iload_n (i := 3) rfl rfl dX0_init_16 ?_
  refine j_max tw_2_10 (Nat.le_of_ble_eq_true rfl) rfl dX0_init_17 ?_
  replace hr := m_bind hr; obtain ⟨y5, g6, hr⟩ := hr
  rw [show (if 0 < a3 then a3 else 0 : Int32) = y5 from Option.some.inj g6]
  replace hr := m_bind hr; obtain ⟨h7, g8, hr⟩ := hr
  refine j_newr (t := 2) (by decide) tw_2_13 dX0_init_20 g8 ?_
  replace hr := m_bind hr; obtain ⟨h9, g10, hr⟩ := hr
  refine j_putrF (q := (some h3.1)) (C := RX0) (T := TX0) (ty := tyX0) (N := 3) (ci := 0) (k := 2) rfl (by decide) inX0 tyX0_ok nmX0 tw_2_18 rfl rfl rfl rfl dX0_init_23 g10 ?_
  cases hr
  exact j_ret dX0_init_26 m_rk_v
def f_X0_hasPlace (h : mH) (a0 : Nat) (a1 : Int32) : Option (Int32) :=
  if a1 < 0 then
    some 0
  else
    (m_gr h a0 0 2).bind fun q2 =>
    (q2).bind fun b4 =>
    (m_len h b4).bind fun x6 =>
    if x6 ≤ a1 then
      some 0
    else
      some 1
def Y_X0_hasPlace : mY := (yX0_hasPlace, cX0_hasPlace, 2, some (FieldType.boolean), .ireturn)
theorem ok_X0_hasPlace : m_Ok Y_X0_hasPlace := ⟨by decide +kernel, ⟨by decide +kernel, by decide +kernel⟩, tw_2_46, tw_1_10, by decide, Or.inr (Or.inl ⟨Or.inr rfl, rfl⟩)⟩
theorem nn_X0_hasPlace : (parseMethodDescriptor Y_X0_hasPlace.1.desc).map (fun q => q.parameters.length) = some 1 := by decide +kernel
set_option maxHeartbeats 4000000 in
set_option maxRecDepth 20000 in
theorem j_X0_hasPlace {X : mX} {d : Nat} {h : mH} {a0 : Nat} {a1 : Int32} {rv : Int32} (hr : f_X0_hasPlace h a0 a1 = some rv) : m_J X Y_X0_hasPlace d 0 [some (.ref a0), some (.int a1)] [] h (some (.int rv), h) := by
  unfold f_X0_hasPlace at hr
  refine j_iload_n (i := 1) rfl rfl dX0_hasPlace_0 ?_
  refine j_if_lt (tgt := 17) dX0_hasPlace_1 rfl (fun c1 => ?_) (fun c1 => ?_)
  · rw [if_pos c1] at hr
    refine j_iconst (v := 0) rfl dX0_hasPlace_17 ?_
    cases hr
    exact j_ret dX0_hasPlace_18 m_rk_z0
  · rw [if_neg c1] at hr
    refine j_iload_n (i := 1) rfl rfl dX0_hasPlace_4 ?_
    refine j_aload_n (i := 0) rfl rfl dX0_hasPlace_5 ?_
    replace hr := m_bind hr; obtain ⟨q2, g3, hr⟩ := hr
    refine j_getf (C := RX0) (T := TX0) (N := 3) (ci := 0) (k := 2) rfl (by decide) inX0 tw_2_18 dX0_hasPlace_6 (m_gr_spec g3) ?_
    replace hr := m_bind hr; obtain ⟨b4, g5, hr⟩ := hr
    subst g5
    replace hr := m_bind hr; obtain ⟨x6, g7, hr⟩ := hr
    refine j_alen dX0_hasPlace_9 g7 ?_
    refine j_ic_ge (tgt := 17) dX0_hasPlace_10 rfl (fun c8 => ?_) (fun c8 => ?_)
    · rw [if_pos c8] at hr
      refine j_iconst (v := 0) rfl dX0_hasPlace_17 ?_
      cases hr
      exact j_ret dX0_hasPlace_18 m_rk_z0
    · rw [if_neg c8] at hr
      refine j_iconst (v := 1) rfl dX0_hasPlace_13 ?_
      refine j_goto (tgt := 18) dX0_hasPlace_14 rfl ?_
      cases hr
      exact j_ret dX0_hasPlace_18 m_rk_z1
def f_X0_isFree (h : mH) (a0 : Nat) (a1 : Int32) : Option (Int32) :=
  if m_ob h a0 0 = true then
    (f_X0_hasPlace h a0 a1).bind fun r2 =>
    if r2 = 0 then
      some 0
    else
      (m_gr h a0 0 2).bind fun q4 =>
      (q4).bind fun b6 =>
      (m_ald h b6 a1).bind fun q8 =>
      match q8 with
      | none =>
        some 1
      | some b10 =>
        some 0
  else none
def Y_X0_isFree : mY := (yX0_isFree, cX0_isFree, 2, some (FieldType.boolean), .ireturn)
theorem ok_X0_isFree : m_Ok Y_X0_isFree := ⟨by decide +kernel, ⟨by decide +kernel, by decide +kernel⟩, tw_2_42, tw_1_10, by decide, Or.inr (Or.inl ⟨Or.inr rfl, rfl⟩)⟩
theorem nn_X0_isFree : (parseMethodDescriptor Y_X0_isFree.1.desc).map (fun q => q.parameters.length) = some 1 := by decide +kernel
set_option maxHeartbeats 4000000 in
set_option maxRecDepth 20000 in
theorem j_X0_isFree {X : mX} {d : Nat} {h : mH} {a0 : Nat} {a1 : Int32} {rv : Int32} (hd : 1 ≤ d) (hr : f_X0_isFree h a0 a1 = some rv) : m_J X Y_X0_isFree d 0 [some (.ref a0), some (.int a1)] [] h (some (.int rv), h) := by
  obtain ⟨d, rfl⟩ : ∃ k, d = k + 1 := ⟨d - 1, by omega⟩
  unfold f_X0_isFree at hr
  refine j_aload_n (i := 0) rfl rfl dX0_isFree_0 ?_
  refine j_iload_n (i := 1) rfl rfl dX0_isFree_1 ?_
  by_cases o11 : m_ob h a0 0 = true
  · rw [if_pos o11] at hr
    replace hr := m_bind hr; obtain ⟨r2, g1, hr⟩ := hr
    refine j_callV (Y' := Y_X0_hasPlace) (a := a0) (as := [.int a1]) (ci := 0) (T := TX0) (N := 3) ok_X0_hasPlace [some (.ref a0), some (.int a1)] rfl rfl rfl tw_2_43 tw_2_45 tw_p_1 nn_X0_hasPlace (Nat.le_of_ble_eq_true rfl) dX0_isFree_2 o11 (j_X0_hasPlace g1) ?_
    refine j_if_eq (tgt := 21) dX0_isFree_5 rfl (fun c3 => ?_) (fun c3 => ?_)
    · rw [if_pos c3] at hr
      refine j_iconst (v := 0) rfl dX0_isFree_21 ?_
      cases hr
      exact j_ret dX0_isFree_22 m_rk_z0
    · rw [if_neg c3] at hr
      refine j_aload_n (i := 0) rfl rfl dX0_isFree_8 ?_
      replace hr := m_bind hr; obtain ⟨q4, g5, hr⟩ := hr
      refine j_getf (C := RX0) (T := TX0) (N := 3) (ci := 0) (k := 2) rfl (by decide) inX0 tw_2_18 dX0_isFree_9 (m_gr_spec g5) ?_
      refine j_iload_n (i := 1) rfl rfl dX0_isFree_12 ?_
      replace hr := m_bind hr; obtain ⟨b6, g7, hr⟩ := hr
      subst g7
      replace hr := m_bind hr; obtain ⟨q8, g9, hr⟩ := hr
      refine j_aaload dX0_isFree_13 g9 ?_
      cases q8 with
      | none =>
        dsimp only at hr
        refine j_ifnonnull_n dX0_isFree_14 ?_
        refine j_iconst (v := 1) rfl dX0_isFree_17 ?_
        refine j_goto (tgt := 22) dX0_isFree_18 rfl ?_
        cases hr
        exact j_ret dX0_isFree_22 m_rk_z1
      | some b10 =>
        dsimp only at hr
        refine j_ifnonnull_r (tgt := 21) dX0_isFree_14 rfl ?_
        refine j_iconst (v := 0) rfl dX0_isFree_21 ?_
        cases hr
        exact j_ret dX0_isFree_22 m_rk_z0
  · rw [if_neg o11] at hr
    cases hr
def f_X0_at (h : mH) (a0 : Nat) (a1 : Int32) : Option (Option Nat) :=
  if m_ob h a0 0 = true then
    (f_X0_hasPlace h a0 a1).bind fun r2 =>
    if r2 = 0 then
      some none
    else
      (m_gr h a0 0 2).bind fun q4 =>
      (q4).bind fun b6 =>
      (m_ald h b6 a1).bind fun q8 =>
      some q8
  else none
def Y_X0_at : mY := (yX0_at, cX0_at, 2, some ((FieldType.object "SpecimenHall$Specimen")), .areturn)
theorem ok_X0_at : m_Ok Y_X0_at := ⟨by decide +kernel, ⟨by decide +kernel, by decide +kernel⟩, tw_2_87, tw_1_10, by decide, Or.inr (Or.inr (Or.inr ⟨⟨_, rfl⟩, rfl⟩))⟩
theorem nn_X0_at : (parseMethodDescriptor Y_X0_at.1.desc).map (fun q => q.parameters.length) = some 1 := by decide +kernel
set_option maxHeartbeats 4000000 in
set_option maxRecDepth 20000 in
theorem j_X0_at {X : mX} {d : Nat} {h : mH} {a0 : Nat} {a1 : Int32} {rv : Option Nat} (hd : 1 ≤ d) (hr : f_X0_at h a0 a1 = some rv) : m_J X Y_X0_at d 0 [some (.ref a0), some (.int a1)] [] h (some (va_rf rv), h) := by
  obtain ⟨d, rfl⟩ : ∃ k, d = k + 1 := ⟨d - 1, by omega⟩
  unfold f_X0_at at hr
  refine j_aload_n (i := 0) rfl rfl dX0_at_0 ?_
  refine j_iload_n (i := 1) rfl rfl dX0_at_1 ?_
  by_cases o10 : m_ob h a0 0 = true
  · rw [if_pos o10] at hr
    replace hr := m_bind hr; obtain ⟨r2, g1, hr⟩ := hr
    refine j_callV (Y' := Y_X0_hasPlace) (a := a0) (as := [.int a1]) (ci := 0) (T := TX0) (N := 3) ok_X0_hasPlace [some (.ref a0), some (.int a1)] rfl rfl rfl tw_2_43 tw_2_45 tw_p_1 nn_X0_hasPlace (Nat.le_of_ble_eq_true rfl) dX0_at_2 o10 (j_X0_hasPlace g1) ?_
    refine j_if_eq (tgt := 17) dX0_at_5 rfl (fun c3 => ?_) (fun c3 => ?_)
    · rw [if_pos c3] at hr
      refine j_null dX0_at_17 ?_
      cases hr
      exact j_ret dX0_at_18 (m_rk_r _)
    · rw [if_neg c3] at hr
      refine j_aload_n (i := 0) rfl rfl dX0_at_8 ?_
      replace hr := m_bind hr; obtain ⟨q4, g5, hr⟩ := hr
      refine j_getf (C := RX0) (T := TX0) (N := 3) (ci := 0) (k := 2) rfl (by decide) inX0 tw_2_18 dX0_at_9 (m_gr_spec g5) ?_
      refine j_iload_n (i := 1) rfl rfl dX0_at_12 ?_
      replace hr := m_bind hr; obtain ⟨b6, g7, hr⟩ := hr
      subst g7
      replace hr := m_bind hr; obtain ⟨q8, g9, hr⟩ := hr
      refine j_aaload dX0_at_13 g9 ?_
      refine j_goto (tgt := 18) dX0_at_14 rfl ?_
      cases hr
      exact j_ret dX0_at_18 (m_rk_r _)
  · rw [if_neg o10] at hr
    cases hr
def f_X0_set (h : mH) (a0 : Nat) (a1 : Int32) (a2 : Option Nat) : Option (mH) :=
  if m_ob h a0 0 = true then
    (f_X0_hasPlace h a0 a1).bind fun r2 =>
    if r2 = 0 then
      some h
    else
      (m_gr h a0 0 2).bind fun q4 =>
      (q4).bind fun b6 =>
      (m_ast h b6 a1 a2).bind fun h8 =>
      some h8
  else none
def Y_X0_set : mY := (yX0_set, cX0_set, 3, none, .return_)
theorem ok_X0_set : m_Ok Y_X0_set := ⟨by decide +kernel, ⟨by decide +kernel, by decide +kernel⟩, tw_2_75, tw_1_10, by decide, Or.inl ⟨rfl, rfl⟩⟩
theorem nn_X0_set : (parseMethodDescriptor Y_X0_set.1.desc).map (fun q => q.parameters.length) = some 2 := by decide +kernel
set_option maxHeartbeats 4000000 in
set_option maxRecDepth 20000 in
theorem j_X0_set {X : mX} {d : Nat} {h : mH} {a0 : Nat} {a1 : Int32} {a2 : Option Nat} {h' : mH} (hd : 1 ≤ d) (hr : f_X0_set h a0 a1 a2 = some h') : m_J X Y_X0_set d 0 [some (.ref a0), some (.int a1), some (va_rf a2)] [] h (none, h') := by
  obtain ⟨d, rfl⟩ : ∃ k, d = k + 1 := ⟨d - 1, by omega⟩
  unfold f_X0_set at hr
  refine j_aload_n (i := 0) rfl rfl dX0_set_0 ?_
  refine j_iload_n (i := 1) rfl rfl dX0_set_1 ?_
  by_cases o10 : m_ob h a0 0 = true
  · rw [if_pos o10] at hr
    replace hr := m_bind hr; obtain ⟨r2, g1, hr⟩ := hr
    refine j_callV (Y' := Y_X0_hasPlace) (a := a0) (as := [.int a1]) (ci := 0) (T := TX0) (N := 3) ok_X0_hasPlace [some (.ref a0), some (.int a1)] rfl rfl rfl tw_2_43 tw_2_45 tw_p_1 nn_X0_hasPlace (Nat.le_of_ble_eq_true rfl) dX0_set_2 o10 (j_X0_hasPlace g1) ?_
    refine j_if_eq (tgt := 15) dX0_set_5 rfl (fun c3 => ?_) (fun c3 => ?_)
    · rw [if_pos c3] at hr
      cases hr
      exact j_ret dX0_set_15 m_rk_v
    · rw [if_neg c3] at hr
      refine j_aload_n (i := 0) rfl rfl dX0_set_8 ?_
      replace hr := m_bind hr; obtain ⟨q4, g5, hr⟩ := hr
      refine j_getf (C := RX0) (T := TX0) (N := 3) (ci := 0) (k := 2) rfl (by decide) inX0 tw_2_18 dX0_set_9 (m_gr_spec g5) ?_
      refine j_iload_n (i := 1) rfl rfl dX0_set_12 ?_
      refine j_aloadq_n (q := a2) (i := 2) rfl rfl dX0_set_13 ?_
      replace hr := m_bind hr; obtain ⟨b6, g7, hr⟩ := hr
      subst g7
      replace hr := m_bind hr; obtain ⟨h8, g9, hr⟩ := hr
      refine j_aastore (q := a2) dX0_set_14 g9 ?_
      cases hr
      exact j_ret dX0_set_15 m_rk_v
  · rw [if_neg o10] at hr
    cases hr
def f_X1_isKind (a0 : Int32) : Option (Int32) :=
  if a0 < 0 then
    some 0
  else
    if 24 ≤ a0 then
      some 0
    else
      some 1
def Y_X1_isKind : mY := (yX1_isKind, cX1_isKind, 1, some (FieldType.boolean), .ireturn)
theorem ok_X1_isKind : m_Ok Y_X1_isKind := ⟨by decide +kernel, ⟨by decide +kernel, by decide +kernel⟩, tw_1_164, tw_1_8, by decide, Or.inr (Or.inl ⟨Or.inr rfl, rfl⟩)⟩
theorem nn_X1_isKind : (parseMethodDescriptor Y_X1_isKind.1.desc).map (fun q => q.parameters.length) = some 1 := by decide +kernel
set_option maxHeartbeats 4000000 in
set_option maxRecDepth 20000 in
theorem j_X1_isKind {X : mX} {h : mH} {d : Nat} {a0 : Int32} {rv : Int32} (hr : f_X1_isKind a0 = some rv) : m_J X Y_X1_isKind d 0 [some (.int a0)] [] h (some (.int rv), h) := by
  unfold f_X1_isKind at hr
  refine j_iload_n (i := 0) rfl rfl dX1_isKind_0 ?_
  refine j_if_lt (tgt := 14) dX1_isKind_1 rfl (fun c1 => ?_) (fun c1 => ?_)
  · rw [if_pos c1] at hr
    refine j_iconst (v := 0) rfl dX1_isKind_14 ?_
    cases hr
    exact j_ret dX1_isKind_15 m_rk_z0
  · rw [if_neg c1] at hr
    refine j_iload_n (i := 0) rfl rfl dX1_isKind_4 ?_
    refine j_bipush (v := 24) rfl dX1_isKind_5 ?_
    refine j_ic_ge (tgt := 14) dX1_isKind_7 rfl (fun c2 => ?_) (fun c2 => ?_)
    · rw [if_pos c2] at hr
      refine j_iconst (v := 0) rfl dX1_isKind_14 ?_
      cases hr
      exact j_ret dX1_isKind_15 m_rk_z0
    · rw [if_neg c2] at hr
      refine j_iconst (v := 1) rfl dX1_isKind_10 ?_
      refine j_goto (tgt := 15) dX1_isKind_11 rfl ?_
      cases hr
      exact j_ret dX1_isKind_15 m_rk_z1
def f_X1_isTrait (a0 : Int32) : Option (Int32) :=
  if a0 < 40 then
    some 0
  else
    if 49 ≤ a0 then
      some 0
    else
      some 1
def Y_X1_isTrait : mY := (yX1_isTrait, cX1_isTrait, 1, some (FieldType.boolean), .ireturn)
theorem ok_X1_isTrait : m_Ok Y_X1_isTrait := ⟨by decide +kernel, ⟨by decide +kernel, by decide +kernel⟩, tw_2_59, tw_1_8, by decide, Or.inr (Or.inl ⟨Or.inr rfl, rfl⟩)⟩
theorem nn_X1_isTrait : (parseMethodDescriptor Y_X1_isTrait.1.desc).map (fun q => q.parameters.length) = some 1 := by decide +kernel
set_option maxHeartbeats 4000000 in
set_option maxRecDepth 20000 in
theorem j_X1_isTrait {X : mX} {h : mH} {d : Nat} {a0 : Int32} {rv : Int32} (hr : f_X1_isTrait a0 = some rv) : m_J X Y_X1_isTrait d 0 [some (.int a0)] [] h (some (.int rv), h) := by
  unfold f_X1_isTrait at hr
  refine j_iload_n (i := 0) rfl rfl dX1_isTrait_0 ?_
  refine j_bipush (v := 40) rfl dX1_isTrait_1 ?_
  refine j_ic_lt (tgt := 16) dX1_isTrait_3 rfl (fun c1 => ?_) (fun c1 => ?_)
  · rw [if_pos c1] at hr
    refine j_iconst (v := 0) rfl dX1_isTrait_16 ?_
    cases hr
    exact j_ret dX1_isTrait_17 m_rk_z0
  · rw [if_neg c1] at hr
    refine j_iload_n (i := 0) rfl rfl dX1_isTrait_6 ?_
    refine j_bipush (v := 49) rfl dX1_isTrait_7 ?_
    refine j_ic_ge (tgt := 16) dX1_isTrait_9 rfl (fun c2 => ?_) (fun c2 => ?_)
    · rw [if_pos c2] at hr
      refine j_iconst (v := 0) rfl dX1_isTrait_16 ?_
      cases hr
      exact j_ret dX1_isTrait_17 m_rk_z0
    · rw [if_neg c2] at hr
      refine j_iconst (v := 1) rfl dX1_isTrait_12 ?_
      refine j_goto (tgt := 17) dX1_isTrait_13 rfl ?_
      cases hr
      exact j_ret dX1_isTrait_17 m_rk_z1
def f_X1_isKindOrTrait (a0 : Int32) : Option (Int32) :=
  (f_X1_isKind a0).bind fun r2 =>
  if r2 = 0 then
    (f_X1_isTrait a0).bind fun r5 =>
    if r5 = 0 then
      some 0
    else
      some 1
  else
    some 1
def Y_X1_isKindOrTrait : mY := (yX1_isKindOrTrait, cX1_isKindOrTrait, 1, some (FieldType.boolean), .ireturn)
theorem ok_X1_isKindOrTrait : m_Ok Y_X1_isKindOrTrait := ⟨by decide +kernel, ⟨by decide +kernel, by decide +kernel⟩, tw_2_56, tw_1_8, by decide, Or.inr (Or.inl ⟨Or.inr rfl, rfl⟩)⟩
theorem nn_X1_isKindOrTrait : (parseMethodDescriptor Y_X1_isKindOrTrait.1.desc).map (fun q => q.parameters.length) = some 1 := by decide +kernel
set_option maxHeartbeats 4000000 in
set_option maxRecDepth 20000 in
theorem j_X1_isKindOrTrait {X : mX} {h : mH} {d : Nat} {a0 : Int32} {rv : Int32} (hd : 1 ≤ d) (hr : f_X1_isKindOrTrait a0 = some rv) : m_J X Y_X1_isKindOrTrait d 0 [some (.int a0)] [] h (some (.int rv), h) := by
  obtain ⟨d, rfl⟩ : ∃ k, d = k + 1 := ⟨d - 1, by omega⟩
  unfold f_X1_isKindOrTrait at hr
  refine j_iload_n (i := 0) rfl rfl dX1_isKindOrTrait_0 ?_
  replace hr := m_bind hr; obtain ⟨r2, g1, hr⟩ := hr
  refine j_callS (Y' := Y_X1_isKind) (as := [.int a0]) ok_X1_isKind [some (.int a0)] rfl rfl tw_1_162 tw_1_163 nn_X1_isKind (Nat.le_of_ble_eq_true rfl) dX1_isKindOrTrait_1 (j_X1_isKind g1) ?_
  refine j_if_ne (tgt := 14) dX1_isKindOrTrait_4 rfl (fun c3 => ?_) (fun c3 => ?_)
  · rw [if_neg c3] at hr
    refine j_iconst (v := 1) rfl dX1_isKindOrTrait_14 ?_
    refine j_goto (tgt := 19) dX1_isKindOrTrait_15 rfl ?_
    cases hr
    exact j_ret dX1_isKindOrTrait_19 m_rk_z1
  · rw [if_pos c3] at hr
    refine j_iload_n (i := 0) rfl rfl dX1_isKindOrTrait_7 ?_
    replace hr := m_bind hr; obtain ⟨r5, g4, hr⟩ := hr
    refine j_callS (Y' := Y_X1_isTrait) (as := [.int a0]) ok_X1_isTrait [some (.int a0)] rfl rfl tw_2_57 tw_2_58 nn_X1_isTrait (Nat.le_of_ble_eq_true rfl) dX1_isKindOrTrait_8 (j_X1_isTrait g4) ?_
    refine j_if_eq (tgt := 18) dX1_isKindOrTrait_11 rfl (fun c6 => ?_) (fun c6 => ?_)
    · rw [if_pos c6] at hr
      refine j_iconst (v := 0) rfl dX1_isKindOrTrait_18 ?_
      cases hr
      exact j_ret dX1_isKindOrTrait_19 m_rk_z0
    · rw [if_neg c6] at hr
      refine j_iconst (v := 1) rfl dX1_isKindOrTrait_14 ?_
      refine j_goto (tgt := 19) dX1_isKindOrTrait_15 rfl ?_
      cases hr
      exact j_ret dX1_isKindOrTrait_19 m_rk_z1
def f_X1_has (a0 : Int64) (a2 : Int32) : Option (Int32) :=
  if (lg_cmp ((a0 >>> ((a2 : Int32).toInt64 &&& 63)) &&& ((1 : Int64))) ((0 : Int64))) = 0 then
    some 0
  else
    some 1
def Y_X1_has : mY := (yX1_has, cX1_has, 3, some (FieldType.boolean), .ireturn)
theorem ok_X1_has : m_Ok Y_X1_has := ⟨by decide +kernel, ⟨by decide +kernel, by decide +kernel⟩, tw_1_168, tw_1_8, by decide, Or.inr (Or.inl ⟨Or.inr rfl, rfl⟩)⟩
theorem nn_X1_has : (parseMethodDescriptor Y_X1_has.1.desc).map (fun q => q.parameters.length) = some 2 := by decide +kernel
set_option maxHeartbeats 4000000 in
set_option maxRecDepth 20000 in
theorem j_X1_has {X : mX} {h : mH} {d : Nat} {a0 : Int64} {a2 : Int32} {rv : Int32} (hr : f_X1_has a0 a2 = some rv) : m_J X Y_X1_has d 0 [some (.long a0), none, some (.int a2)] [] h (some (.int rv), h) := by
  unfold f_X1_has at hr
  refine j_lload_n (i := 0) rfl rfl dX1_has_0 ?_
  refine j_iload_n (i := 2) rfl rfl dX1_has_1 ?_
  refine j_lshr dX1_has_2 ?_
  refine j_lconst (v := 1) rfl dX1_has_3 ?_
  refine j_land dX1_has_4 ?_
  refine j_lconst (v := 0) rfl dX1_has_5 ?_
  refine j_lcmp dX1_has_6 ?_
  refine j_if_eq (tgt := 14) dX1_has_7 rfl (fun c1 => ?_) (fun c1 => ?_)
  · rw [if_pos c1] at hr
    refine j_iconst (v := 0) rfl dX1_has_14 ?_
    cases hr
    exact j_ret dX1_has_15 m_rk_z0
  · rw [if_neg c1] at hr
    refine j_iconst (v := 1) rfl dX1_has_10 ?_
    refine j_goto (tgt := 15) dX1_has_11 rfl ?_
    cases hr
    exact j_ret dX1_has_15 m_rk_z1
def f_X1_isConcrete (a0 : Int32) : Option (Int32) :=
  (f_X1_isKind a0).bind fun r2 =>
  if r2 = 0 then
    some 0
  else
    (f_X1_has ((1181195 : Int64)) a0).bind fun r5 =>
    if r5 = 0 then
      some 1
    else
      some 0
def Y_X1_isConcrete : mY := (yX1_isConcrete, cX1_isConcrete, 1, some (FieldType.boolean), .ireturn)
theorem ok_X1_isConcrete : m_Ok Y_X1_isConcrete := ⟨by decide +kernel, ⟨by decide +kernel, by decide +kernel⟩, tw_1_161, tw_1_8, by decide, Or.inr (Or.inl ⟨Or.inr rfl, rfl⟩)⟩
theorem nn_X1_isConcrete : (parseMethodDescriptor Y_X1_isConcrete.1.desc).map (fun q => q.parameters.length) = some 1 := by decide +kernel
set_option maxHeartbeats 4000000 in
set_option maxRecDepth 20000 in
theorem j_X1_isConcrete {X : mX} {h : mH} {d : Nat} {a0 : Int32} {rv : Int32} (hd : 1 ≤ d) (hr : f_X1_isConcrete a0 = some rv) : m_J X Y_X1_isConcrete d 0 [some (.int a0)] [] h (some (.int rv), h) := by
  obtain ⟨d, rfl⟩ : ∃ k, d = k + 1 := ⟨d - 1, by omega⟩
  unfold f_X1_isConcrete at hr
  refine j_iload_n (i := 0) rfl rfl dX1_isConcrete_0 ?_
  replace hr := m_bind hr; obtain ⟨r2, g1, hr⟩ := hr
  refine j_callS (Y' := Y_X1_isKind) (as := [.int a0]) ok_X1_isKind [some (.int a0)] rfl rfl tw_1_162 tw_1_163 nn_X1_isKind (Nat.le_of_ble_eq_true rfl) dX1_isConcrete_1 (j_X1_isKind g1) ?_
  refine j_if_eq (tgt := 21) dX1_isConcrete_4 rfl (fun c3 => ?_) (fun c3 => ?_)
  · rw [if_pos c3] at hr
    refine j_iconst (v := 0) rfl dX1_isConcrete_21 ?_
    cases hr
    exact j_ret dX1_isConcrete_22 m_rk_z0
  · rw [if_neg c3] at hr
    refine j_ldc2 (v := 1181195) tw_1_165 dX1_isConcrete_7 ?_
    refine j_iload_n (i := 0) rfl rfl dX1_isConcrete_10 ?_
    replace hr := m_bind hr; obtain ⟨r5, g4, hr⟩ := hr
    refine j_callS (Y' := Y_X1_has) (as := [.long ((1181195 : Int64)), .int a0]) ok_X1_has [some (.long ((1181195 : Int64))), none, some (.int a0)] rfl rfl tw_1_166 tw_1_167 nn_X1_has (Nat.le_of_ble_eq_true rfl) dX1_isConcrete_11 (j_X1_has g4) ?_
    refine j_if_ne (tgt := 21) dX1_isConcrete_14 rfl (fun c6 => ?_) (fun c6 => ?_)
    · rw [if_neg c6] at hr
      refine j_iconst (v := 0) rfl dX1_isConcrete_21 ?_
      cases hr
      exact j_ret dX1_isConcrete_22 m_rk_z0
    · rw [if_pos c6] at hr
      refine j_iconst (v := 1) rfl dX1_isConcrete_17 ?_
      refine j_goto (tgt := 22) dX1_isConcrete_18 rfl ?_
      cases hr
      exact j_ret dX1_isConcrete_22 m_rk_z1
def f_X1_isCase (a0 : Int32) : Option (Int32) :=
  if a0 < 100 then
    some 0
  else
    (f_X1_isKindOrTrait (a0 - 100)).bind fun r3 =>
    if r3 = 0 then
      some 0
    else
      some 1
def Y_X1_isCase : mY := (yX1_isCase, cX1_isCase, 1, some (FieldType.boolean), .ireturn)
theorem ok_X1_isCase : m_Ok Y_X1_isCase := ⟨by decide +kernel, ⟨by decide +kernel, by decide +kernel⟩, tw_2_102, tw_1_8, by decide, Or.inr (Or.inl ⟨Or.inr rfl, rfl⟩)⟩
theorem nn_X1_isCase : (parseMethodDescriptor Y_X1_isCase.1.desc).map (fun q => q.parameters.length) = some 1 := by decide +kernel
set_option maxHeartbeats 4000000 in
set_option maxRecDepth 20000 in
theorem j_X1_isCase {X : mX} {h : mH} {d : Nat} {a0 : Int32} {rv : Int32} (hd : 2 ≤ d) (hr : f_X1_isCase a0 = some rv) : m_J X Y_X1_isCase d 0 [some (.int a0)] [] h (some (.int rv), h) := by
  obtain ⟨d, rfl⟩ : ∃ k, d = k + 1 := ⟨d - 1, by omega⟩
  unfold f_X1_isCase at hr
  refine j_iload_n (i := 0) rfl rfl dX1_isCase_0 ?_
  refine j_bipush (v := 100) rfl dX1_isCase_1 ?_
  refine j_ic_lt (tgt := 20) dX1_isCase_3 rfl (fun c1 => ?_) (fun c1 => ?_)
  · rw [if_pos c1] at hr
    refine j_iconst (v := 0) rfl dX1_isCase_20 ?_
    cases hr
    exact j_ret dX1_isCase_21 m_rk_z0
  · rw [if_neg c1] at hr
    refine j_iload_n (i := 0) rfl rfl dX1_isCase_6 ?_
    refine j_bipush (v := 100) rfl dX1_isCase_7 ?_
    refine j_isub dX1_isCase_9 ?_
    replace hr := m_bind hr; obtain ⟨r3, g2, hr⟩ := hr
    refine j_callS (Y' := Y_X1_isKindOrTrait) (as := [.int (a0 - 100)]) ok_X1_isKindOrTrait [some (.int (a0 - 100))] rfl rfl tw_2_54 tw_2_55 nn_X1_isKindOrTrait (Nat.le_of_ble_eq_true rfl) dX1_isCase_10 (j_X1_isKindOrTrait (by omega) g2) ?_
    refine j_if_eq (tgt := 20) dX1_isCase_13 rfl (fun c4 => ?_) (fun c4 => ?_)
    · rw [if_pos c4] at hr
      refine j_iconst (v := 0) rfl dX1_isCase_20 ?_
      cases hr
      exact j_ret dX1_isCase_21 m_rk_z0
    · rw [if_neg c4] at hr
      refine j_iconst (v := 1) rfl dX1_isCase_16 ?_
      refine j_goto (tgt := 21) dX1_isCase_17 rfl ?_
      cases hr
      exact j_ret dX1_isCase_21 m_rk_z1
def f_X1_parentOf (a0 : Int32) : Option (Int32) :=
  (f_X1_isKind a0).bind fun r2 =>
  if r2 = 0 then
    some ((-1))
  else
    (m_TI 2 a0).bind fun x4 =>
    some x4
def Y_X1_parentOf : mY := (yX1_parentOf, cX1_parentOf, 1, some (FieldType.int), .ireturn)
theorem ok_X1_parentOf : m_Ok Y_X1_parentOf := ⟨by decide +kernel, ⟨by decide +kernel, by decide +kernel⟩, tw_2_175, tw_1_8, by decide, Or.inr (Or.inl ⟨Or.inl rfl, rfl⟩)⟩
theorem nn_X1_parentOf : (parseMethodDescriptor Y_X1_parentOf.1.desc).map (fun q => q.parameters.length) = some 1 := by decide +kernel
set_option maxHeartbeats 4000000 in
set_option maxRecDepth 20000 in
theorem j_X1_parentOf {X : mX} {h : mH} {d : Nat} {a0 : Int32} {rv : Int32} (hd : 1 ≤ d) (hr : f_X1_parentOf a0 = some rv) : m_J X Y_X1_parentOf d 0 [some (.int a0)] [] h (some (.int rv), h) := by
  obtain ⟨d, rfl⟩ : ∃ k, d = k + 1 := ⟨d - 1, by omega⟩
  unfold f_X1_parentOf at hr
  refine j_iload_n (i := 0) rfl rfl dX1_parentOf_0 ?_
  replace hr := m_bind hr; obtain ⟨r2, g1, hr⟩ := hr
  refine j_callS (Y' := Y_X1_isKind) (as := [.int a0]) ok_X1_isKind [some (.int a0)] rfl rfl tw_1_162 tw_1_163 nn_X1_isKind (Nat.le_of_ble_eq_true rfl) dX1_parentOf_1 (j_X1_isKind g1) ?_
  refine j_if_eq (tgt := 15) dX1_parentOf_4 rfl (fun c3 => ?_) (fun c3 => ?_)
  · rw [if_pos c3] at hr
    refine j_iconst (v := (-1)) rfl dX1_parentOf_15 ?_
    cases hr
    exact j_ret dX1_parentOf_16 m_rk_i
  · rw [if_neg c3] at hr
    refine j_gets 2 (by decide) tw_2_67 dX1_parentOf_7 ?_
    refine j_iload_n (i := 0) rfl rfl dX1_parentOf_10 ?_
    replace hr := m_bind hr; obtain ⟨x4, g5, hr⟩ := hr
    refine j_tial 2 (by decide) rfl dX1_parentOf_11 ((m_TI_X (by decide)).trans g5) ?_
    refine j_goto (tgt := 16) dX1_parentOf_12 rfl ?_
    cases hr
    exact j_ret dX1_parentOf_16 m_rk_i
def f_X1_namedBy (a0 : Int32) : Option (Int64) :=
  (f_X1_isKind a0).bind fun r2 =>
  if r2 = 0 then
    some ((0 : Int64))
  else
    (m_TL 1 a0).bind fun x4 =>
    some x4
def Y_X1_namedBy : mY := (yX1_namedBy, cX1_namedBy, 1, some (FieldType.long), .lreturn)
theorem ok_X1_namedBy : m_Ok Y_X1_namedBy := ⟨by decide +kernel, ⟨by decide +kernel, by decide +kernel⟩, tw_2_171, tw_1_8, by decide, Or.inr (Or.inr (Or.inl ⟨rfl, rfl⟩))⟩
theorem nn_X1_namedBy : (parseMethodDescriptor Y_X1_namedBy.1.desc).map (fun q => q.parameters.length) = some 1 := by decide +kernel
set_option maxHeartbeats 4000000 in
set_option maxRecDepth 20000 in
theorem j_X1_namedBy {X : mX} {h : mH} {d : Nat} {a0 : Int32} {rv : Int64} (hd : 1 ≤ d) (hr : f_X1_namedBy a0 = some rv) : m_J X Y_X1_namedBy d 0 [some (.int a0)] [] h (some (.long rv), h) := by
  obtain ⟨d, rfl⟩ : ∃ k, d = k + 1 := ⟨d - 1, by omega⟩
  unfold f_X1_namedBy at hr
  refine j_iload_n (i := 0) rfl rfl dX1_namedBy_0 ?_
  replace hr := m_bind hr; obtain ⟨r2, g1, hr⟩ := hr
  refine j_callS (Y' := Y_X1_isKind) (as := [.int a0]) ok_X1_isKind [some (.int a0)] rfl rfl tw_1_162 tw_1_163 nn_X1_isKind (Nat.le_of_ble_eq_true rfl) dX1_namedBy_1 (j_X1_isKind g1) ?_
  refine j_if_eq (tgt := 15) dX1_namedBy_4 rfl (fun c3 => ?_) (fun c3 => ?_)
  · rw [if_pos c3] at hr
    refine j_lconst (v := 0) rfl dX1_namedBy_15 ?_
    cases hr
    exact j_ret dX1_namedBy_16 m_rk_l
  · rw [if_neg c3] at hr
    refine j_gets 1 (by decide) tw_2_65 dX1_namedBy_7 ?_
    refine j_iload_n (i := 0) rfl rfl dX1_namedBy_10 ?_
    replace hr := m_bind hr; obtain ⟨x4, g5, hr⟩ := hr
    refine j_tlal 1 (by decide) rfl dX1_namedBy_11 ((m_TL_X (by decide)).trans g5) ?_
    refine j_goto (tgt := 16) dX1_namedBy_12 rfl ?_
    cases hr
    exact j_ret dX1_namedBy_16 m_rk_l
def w_X1_allAbove_23 : (Int64 × Int32 × Int32) → Option ((Int64 × Int32 × Int32) ⊕ (Int64)) := fun s_4 =>
  if 24 ≤ s_4.2.2 then
    some (.inr s_4.1)
  else
    (f_X1_isKind s_4.2.1).bind fun r7 =>
    if r7 = 0 then
      some (.inr s_4.1)
    else
      (m_TL 1 s_4.2.1).bind fun x9 =>
      (some (s_4.1 ||| ((((1 : Int64)) <<< ((s_4.2.1 : Int32).toInt64 &&& 63)) ||| x9) : Int64)).bind fun y11 =>
      (m_TI 2 s_4.2.1).bind fun x13 =>
      some (.inl (y11, x13, s_4.2.2 + 1))
def f_X1_allAbove (a0 : Int32) : Option (Int64) :=
  (f_X1_isTrait a0).bind fun r2 =>
  if r2 = 0 then
    (m_loop (w_X1_allAbove_23) 5000 (((0 : Int64), a0, 0))).bind fun e15 =>
    some e15
  else
    (m_TL 0 (a0 - 40)).bind fun x19 =>
    some x19
def Y_X1_allAbove : mY := (yX1_allAbove, cX1_allAbove, 5, some (FieldType.long), .lreturn)
theorem ok_X1_allAbove : m_Ok Y_X1_allAbove := ⟨by decide +kernel, ⟨by decide +kernel, by decide +kernel⟩, tw_2_62, tw_1_8, by decide, Or.inr (Or.inr (Or.inl ⟨rfl, rfl⟩))⟩
theorem nn_X1_allAbove : (parseMethodDescriptor Y_X1_allAbove.1.desc).map (fun q => q.parameters.length) = some 1 := by decide +kernel
set_option maxHeartbeats 4000000 in
set_option maxRecDepth 20000 in
theorem j_X1_allAbove {X : mX} {h : mH} {d : Nat} {a0 : Int32} {rv : Int64} (hd : 1 ≤ d) (hr : f_X1_allAbove a0 = some rv) : m_J X Y_X1_allAbove d 0 [some (.int a0), none, none, none, none] [] h (some (.long rv), h) := by
  obtain ⟨d, rfl⟩ : ∃ k, d = k + 1 := ⟨d - 1, by omega⟩
  unfold f_X1_allAbove at hr
  refine j_iload_n (i := 0) rfl rfl dX1_allAbove_0 ?_
  replace hr := m_bind hr; obtain ⟨r2, g1, hr⟩ := hr
  refine j_callS (Y' := Y_X1_isTrait) (as := [.int a0]) ok_X1_isTrait [some (.int a0)] rfl rfl tw_2_57 tw_2_58 nn_X1_isTrait (Nat.le_of_ble_eq_true rfl) dX1_allAbove_1 (j_X1_isTrait g1) ?_
  refine j_if_eq (tgt := 16) dX1_allAbove_4 rfl (fun c3 => ?_) (fun c3 => ?_)
  · rw [if_pos c3] at hr
    refine j_lconst (v := 0) rfl dX1_allAbove_16 ?_
    refine j_lstore_n (i := 1) (L' := [some (.int a0), some (.long ((0 : Int64))), none, none, none]) rfl (Nat.le_of_ble_eq_true rfl) rfl rfl dX1_allAbove_17 ?_
    refine j_iload_n (i := 0) rfl rfl dX1_allAbove_18 ?_
    refine j_istore_n (i := 3) (L' := [some (.int a0), some (.long ((0 : Int64))), none, some (.int a0), none]) rfl (Nat.le_of_ble_eq_true rfl) rfl rfl dX1_allAbove_19 ?_
    refine j_iconst (v := 0) rfl dX1_allAbove_20 ?_
    refine j_istore (i := 4) (L' := [some (.int a0), some (.long ((0 : Int64))), none, some (.int a0), some (.int 0)]) (Nat.le_of_ble_eq_true rfl) rfl rfl dX1_allAbove_21 ?_
    replace hr := m_bind hr; obtain ⟨e15, q18, hr⟩ := hr
    refine j_weak (L' := [none, some (.long ((0 : Int64))), none, some (.int a0), some (.int 0)]) (And.intro rfl (And.intro rfl (And.intro rfl trivial))) ?_
    refine m_loop_sound (step := w_X1_allAbove_23) (P := fun s_4 => m_J X Y_X1_allAbove (d + 1) 23 [none, some (.long s_4.1), none, some (.int s_4.2.1), some (.int s_4.2.2)] [] h (some (.long rv), h)) (Qe := fun e15 => m_J X Y_X1_allAbove (d + 1) 61 [none, some (.long e15), none, none, none] [] h (some (.long rv), h)) ?_ _ _ _ q18 ?_
    · intro s_4 o hr hk
      unfold w_X1_allAbove_23 at hr
      refine j_iload (i := 4) rfl dX1_allAbove_23 ?_
      refine j_bipush (v := 24) rfl dX1_allAbove_25 ?_
      refine j_ic_ge (tgt := 61) dX1_allAbove_27 rfl (fun c5 => ?_) (fun c5 => ?_)
      · rw [if_pos c5] at hr
        cases hr
        exact j_weak (L' := [none, some (.long s_4.1), none, none, none]) (And.intro rfl trivial) hk
      · rw [if_neg c5] at hr
        refine j_iload_n (i := 3) rfl rfl dX1_allAbove_30 ?_
        replace hr := m_bind hr; obtain ⟨r7, g6, hr⟩ := hr
        refine j_callS (Y' := Y_X1_isKind) (as := [.int s_4.2.1]) ok_X1_isKind [some (.int s_4.2.1)] rfl rfl tw_1_162 tw_1_163 nn_X1_isKind (Nat.le_of_ble_eq_true rfl) dX1_allAbove_31 (j_X1_isKind g6) ?_
        refine j_if_eq (tgt := 61) dX1_allAbove_34 rfl (fun c8 => ?_) (fun c8 => ?_)
        · rw [if_pos c8] at hr
          cases hr
          exact j_weak (L' := [none, some (.long s_4.1), none, none, none]) (And.intro rfl trivial) hk
        · rw [if_neg c8] at hr
          refine j_lload_n (i := 1) rfl rfl dX1_allAbove_37 ?_
          refine j_lconst (v := 1) rfl dX1_allAbove_38 ?_
          refine j_iload_n (i := 3) rfl rfl dX1_allAbove_39 ?_
          refine j_lshl dX1_allAbove_40 ?_
          refine j_gets 1 (by decide) tw_2_65 dX1_allAbove_41 ?_
          refine j_iload_n (i := 3) rfl rfl dX1_allAbove_44 ?_
          replace hr := m_bind hr; obtain ⟨x9, g10, hr⟩ := hr
          refine j_tlal 1 (by decide) rfl dX1_allAbove_45 ((m_TL_X (by decide)).trans g10) ?_
          refine j_lor dX1_allAbove_46 ?_
          refine j_lor dX1_allAbove_47 ?_
          replace hr := m_bind hr; obtain ⟨y11, g12, hr⟩ := hr
          rw [show (s_4.1 ||| ((((1 : Int64)) <<< ((s_4.2.1 : Int32).toInt64 &&& 63)) ||| x9) : Int64) = y11 from Option.some.inj g12]
          refine j_lstore_n (i := 1) (L' := [none, some (.long y11), none, some (.int s_4.2.1), some (.int s_4.2.2)]) rfl (Nat.le_of_ble_eq_true rfl) rfl rfl dX1_allAbove_48 ?_
          refine j_gets 2 (by decide) tw_2_67 dX1_allAbove_49 ?_
          refine j_iload_n (i := 3) rfl rfl dX1_allAbove_52 ?_
          replace hr := m_bind hr; obtain ⟨x13, g14, hr⟩ := hr
          refine j_tial 2 (by decide) rfl dX1_allAbove_53 ((m_TI_X (by decide)).trans g14) ?_
          refine j_istore_n (i := 3) (L' := [none, some (.long y11), none, some (.int x13), some (.int s_4.2.2)]) rfl (Nat.le_of_ble_eq_true rfl) rfl rfl dX1_allAbove_54 ?_
          refine j_iinc (i := 4) (v := s_4.2.2 + 1) (L' := [none, some (.long y11), none, some (.int x13), some (.int (s_4.2.2 + 1))]) rfl (m_o1 _) (Nat.le_of_ble_eq_true rfl) rfl rfl dX1_allAbove_55 ?_
          refine j_goto (tgt := 23) dX1_allAbove_58 rfl ?_
          cases hr
          exact j_weak (L' := [none, some (.long y11), none, some (.int x13), some (.int (s_4.2.2 + 1))]) (And.intro rfl (And.intro rfl (And.intro rfl trivial))) hk
    · skip
      refine j_lload_n (i := 1) rfl rfl dX1_allAbove_61 ?_
      cases hr
      exact j_ret dX1_allAbove_62 m_rk_l
  · rw [if_neg c3] at hr
    refine j_gets 0 (by decide) tw_2_63 dX1_allAbove_7 ?_
    refine j_iload_n (i := 0) rfl rfl dX1_allAbove_10 ?_
    refine j_bipush (v := 40) rfl dX1_allAbove_11 ?_
    refine j_isub dX1_allAbove_13 ?_
    replace hr := m_bind hr; obtain ⟨x19, g20, hr⟩ := hr
    refine j_tlal 0 (by decide) rfl dX1_allAbove_14 ((m_TL_X (by decide)).trans g20) ?_
    cases hr
    exact j_ret dX1_allAbove_15 m_rk_l
def f_X1_standsUnder (a0 : Int32) (a1 : Int32) : Option (Int32) :=
  (f_X1_isKindOrTrait a0).bind fun r2 =>
  if r2 = 0 then
    some 0
  else
    (f_X1_isKindOrTrait a1).bind fun r5 =>
    if r5 = 0 then
      some 0
    else
      (f_X1_allAbove a0).bind fun r8 =>
      (f_X1_has r8 a1).bind fun r10 =>
      if r10 = 0 then
        some 0
      else
        some 1
def Y_X1_standsUnder : mY := (yX1_standsUnder, cX1_standsUnder, 2, some (FieldType.boolean), .ireturn)
theorem ok_X1_standsUnder : m_Ok Y_X1_standsUnder := ⟨by decide +kernel, ⟨by decide +kernel, by decide +kernel⟩, tw_2_53, tw_1_8, by decide, Or.inr (Or.inl ⟨Or.inr rfl, rfl⟩)⟩
theorem nn_X1_standsUnder : (parseMethodDescriptor Y_X1_standsUnder.1.desc).map (fun q => q.parameters.length) = some 2 := by decide +kernel
set_option maxHeartbeats 4000000 in
set_option maxRecDepth 20000 in
theorem j_X1_standsUnder {X : mX} {h : mH} {d : Nat} {a0 : Int32} {a1 : Int32} {rv : Int32} (hd : 2 ≤ d) (hr : f_X1_standsUnder a0 a1 = some rv) : m_J X Y_X1_standsUnder d 0 [some (.int a0), some (.int a1)] [] h (some (.int rv), h) := by
  obtain ⟨d, rfl⟩ : ∃ k, d = k + 1 := ⟨d - 1, by omega⟩
  unfold f_X1_standsUnder at hr
  refine j_iload_n (i := 0) rfl rfl dX1_standsUnder_0 ?_
  replace hr := m_bind hr; obtain ⟨r2, g1, hr⟩ := hr
  refine j_callS (Y' := Y_X1_isKindOrTrait) (as := [.int a0]) ok_X1_isKindOrTrait [some (.int a0)] rfl rfl tw_2_54 tw_2_55 nn_X1_isKindOrTrait (Nat.le_of_ble_eq_true rfl) dX1_standsUnder_1 (j_X1_isKindOrTrait (by omega) g1) ?_
  refine j_if_eq (tgt := 29) dX1_standsUnder_4 rfl (fun c3 => ?_) (fun c3 => ?_)
  · rw [if_pos c3] at hr
    refine j_iconst (v := 0) rfl dX1_standsUnder_29 ?_
    cases hr
    exact j_ret dX1_standsUnder_30 m_rk_z0
  · rw [if_neg c3] at hr
    refine j_iload_n (i := 1) rfl rfl dX1_standsUnder_7 ?_
    replace hr := m_bind hr; obtain ⟨r5, g4, hr⟩ := hr
    refine j_callS (Y' := Y_X1_isKindOrTrait) (as := [.int a1]) ok_X1_isKindOrTrait [some (.int a1)] rfl rfl tw_2_54 tw_2_55 nn_X1_isKindOrTrait (Nat.le_of_ble_eq_true rfl) dX1_standsUnder_8 (j_X1_isKindOrTrait (by omega) g4) ?_
    refine j_if_eq (tgt := 29) dX1_standsUnder_11 rfl (fun c6 => ?_) (fun c6 => ?_)
    · rw [if_pos c6] at hr
      refine j_iconst (v := 0) rfl dX1_standsUnder_29 ?_
      cases hr
      exact j_ret dX1_standsUnder_30 m_rk_z0
    · rw [if_neg c6] at hr
      refine j_iload_n (i := 0) rfl rfl dX1_standsUnder_14 ?_
      replace hr := m_bind hr; obtain ⟨r8, g7, hr⟩ := hr
      refine j_callS (Y' := Y_X1_allAbove) (as := [.int a0]) ok_X1_allAbove [some (.int a0), none, none, none, none] rfl rfl tw_2_60 tw_2_61 nn_X1_allAbove (Nat.le_of_ble_eq_true rfl) dX1_standsUnder_15 (j_X1_allAbove (by omega) g7) ?_
      refine j_iload_n (i := 1) rfl rfl dX1_standsUnder_18 ?_
      replace hr := m_bind hr; obtain ⟨r10, g9, hr⟩ := hr
      refine j_callS (Y' := Y_X1_has) (as := [.long r8, .int a1]) ok_X1_has [some (.long r8), none, some (.int a1)] rfl rfl tw_1_166 tw_1_167 nn_X1_has (Nat.le_of_ble_eq_true rfl) dX1_standsUnder_19 (j_X1_has g9) ?_
      refine j_if_eq (tgt := 29) dX1_standsUnder_22 rfl (fun c11 => ?_) (fun c11 => ?_)
      · rw [if_pos c11] at hr
        refine j_iconst (v := 0) rfl dX1_standsUnder_29 ?_
        cases hr
        exact j_ret dX1_standsUnder_30 m_rk_z0
      · rw [if_neg c11] at hr
        refine j_iconst (v := 1) rfl dX1_standsUnder_25 ?_
        refine j_goto (tgt := 30) dX1_standsUnder_26 rfl ?_
        cases hr
        exact j_ret dX1_standsUnder_30 m_rk_z1
def w_X1_stepsUp_13 (a1 : Int32) : (Int32 × Int32) → Option ((Int32 × Int32) ⊕ ((Unit) ⊕ (Int32))) := fun s_4 =>
  if 24 ≤ s_4.2 then
    some (.inr (.inl ()))
  else
    (f_X1_isKind s_4.1).bind fun r7 =>
    if r7 = 0 then
      some (.inr (.inl ()))
    else
      if s_4.1 = a1 then
        some (.inr (.inr s_4.2))
      else
        (m_TL 1 s_4.1).bind fun x10 =>
        (f_X1_has x10 a1).bind fun r13 =>
        if r13 = 0 then
          (m_TI 2 s_4.1).bind fun x15 =>
          some (.inl (x15, s_4.2 + 1))
        else
          some (.inr (.inr s_4.2))
def f_X1_stepsUp (a0 : Int32) (a1 : Int32) : Option (Int32) :=
  (f_X1_isKindOrTrait a1).bind fun r2 =>
  if r2 = 0 then
    some ((-1))
  else
    (m_loop (w_X1_stepsUp_13 a1) 5000 ((a0, 0))).bind fun e17 => match e17 with
    | .inl x18 =>
      some ((-1))
    | .inr v20 => some v20
def Y_X1_stepsUp : mY := (yX1_stepsUp, cX1_stepsUp, 4, some (FieldType.int), .ireturn)
theorem ok_X1_stepsUp : m_Ok Y_X1_stepsUp := ⟨by decide +kernel, ⟨by decide +kernel, by decide +kernel⟩, tw_2_109, tw_1_8, by decide, Or.inr (Or.inl ⟨Or.inl rfl, rfl⟩)⟩
theorem nn_X1_stepsUp : (parseMethodDescriptor Y_X1_stepsUp.1.desc).map (fun q => q.parameters.length) = some 2 := by decide +kernel
set_option maxHeartbeats 4000000 in
set_option maxRecDepth 20000 in
theorem j_X1_stepsUp {X : mX} {h : mH} {d : Nat} {a0 : Int32} {a1 : Int32} {rv : Int32} (hd : 2 ≤ d) (hr : f_X1_stepsUp a0 a1 = some rv) : m_J X Y_X1_stepsUp d 0 [some (.int a0), some (.int a1), none, none] [] h (some (.int rv), h) := by
  obtain ⟨d, rfl⟩ : ∃ k, d = k + 1 := ⟨d - 1, by omega⟩
  unfold f_X1_stepsUp at hr
  refine j_iload_n (i := 1) rfl rfl dX1_stepsUp_0 ?_
  replace hr := m_bind hr; obtain ⟨r2, g1, hr⟩ := hr
  refine j_callS (Y' := Y_X1_isKindOrTrait) (as := [.int a1]) ok_X1_isKindOrTrait [some (.int a1)] rfl rfl tw_2_54 tw_2_55 nn_X1_isKindOrTrait (Nat.le_of_ble_eq_true rfl) dX1_stepsUp_1 (j_X1_isKindOrTrait (by omega) g1) ?_
  refine j_if_ne (tgt := 9) dX1_stepsUp_4 rfl (fun c3 => ?_) (fun c3 => ?_)
  · rw [if_neg c3] at hr
    refine j_iload_n (i := 0) rfl rfl dX1_stepsUp_9 ?_
    refine j_istore_n (i := 2) (L' := [some (.int a0), some (.int a1), some (.int a0), none]) rfl (Nat.le_of_ble_eq_true rfl) rfl rfl dX1_stepsUp_10 ?_
    refine j_iconst (v := 0) rfl dX1_stepsUp_11 ?_
    refine j_istore_n (i := 3) (L' := [some (.int a0), some (.int a1), some (.int a0), some (.int 0)]) rfl (Nat.le_of_ble_eq_true rfl) rfl rfl dX1_stepsUp_12 ?_
    replace hr := m_bind hr; obtain ⟨e17, q21, hr⟩ := hr
    refine j_weak (L' := [none, some (.int a1), some (.int a0), some (.int 0)]) (And.intro rfl (And.intro rfl (And.intro rfl trivial))) ?_
    refine m_loop_sound (step := w_X1_stepsUp_13 a1) (P := fun s_4 => m_J X Y_X1_stepsUp (d + 1) 13 [none, some (.int a1), some (.int s_4.1), some (.int s_4.2)] [] h (some (.int rv), h)) (Qe := fun e17 => match e17 with | .inl x18 => m_J X Y_X1_stepsUp (d + 1) 57 [none, none, none, none] [] h (some (.int rv), h) | .inr v20 => ((some (.int rv), h) : mR) = (some (.int v20), h)) ?_ _ _ _ q21 ?_
    · intro s_4 o hr hk
      unfold w_X1_stepsUp_13 at hr
      refine j_iload_n (i := 3) rfl rfl dX1_stepsUp_13 ?_
      refine j_bipush (v := 24) rfl dX1_stepsUp_14 ?_
      refine j_ic_ge (tgt := 57) dX1_stepsUp_16 rfl (fun c5 => ?_) (fun c5 => ?_)
      · rw [if_pos c5] at hr
        cases hr
        exact j_weak (L' := [none, none, none, none]) trivial hk
      · rw [if_neg c5] at hr
        refine j_iload_n (i := 2) rfl rfl dX1_stepsUp_19 ?_
        replace hr := m_bind hr; obtain ⟨r7, g6, hr⟩ := hr
        refine j_callS (Y' := Y_X1_isKind) (as := [.int s_4.1]) ok_X1_isKind [some (.int s_4.1)] rfl rfl tw_1_162 tw_1_163 nn_X1_isKind (Nat.le_of_ble_eq_true rfl) dX1_stepsUp_20 (j_X1_isKind g6) ?_
        refine j_if_eq (tgt := 57) dX1_stepsUp_23 rfl (fun c8 => ?_) (fun c8 => ?_)
        · rw [if_pos c8] at hr
          cases hr
          exact j_weak (L' := [none, none, none, none]) trivial hk
        · rw [if_neg c8] at hr
          refine j_iload_n (i := 2) rfl rfl dX1_stepsUp_26 ?_
          refine j_iload_n (i := 1) rfl rfl dX1_stepsUp_27 ?_
          refine j_ic_eq (tgt := 43) dX1_stepsUp_28 rfl (fun c9 => ?_) (fun c9 => ?_)
          · rw [if_pos c9] at hr
            refine j_iload_n (i := 3) rfl rfl dX1_stepsUp_43 ?_
            cases hr
            rw [show _ = _ from hk]
            exact j_ret dX1_stepsUp_44 m_rk_i
          · rw [if_neg c9] at hr
            refine j_gets 1 (by decide) tw_2_65 dX1_stepsUp_31 ?_
            refine j_iload_n (i := 2) rfl rfl dX1_stepsUp_34 ?_
            replace hr := m_bind hr; obtain ⟨x10, g11, hr⟩ := hr
            refine j_tlal 1 (by decide) rfl dX1_stepsUp_35 ((m_TL_X (by decide)).trans g11) ?_
            refine j_iload_n (i := 1) rfl rfl dX1_stepsUp_36 ?_
            replace hr := m_bind hr; obtain ⟨r13, g12, hr⟩ := hr
            refine j_callS (Y' := Y_X1_has) (as := [.long x10, .int a1]) ok_X1_has [some (.long x10), none, some (.int a1)] rfl rfl tw_1_166 tw_1_167 nn_X1_has (Nat.le_of_ble_eq_true rfl) dX1_stepsUp_37 (j_X1_has g12) ?_
            refine j_if_eq (tgt := 45) dX1_stepsUp_40 rfl (fun c14 => ?_) (fun c14 => ?_)
            · rw [if_pos c14] at hr
              refine j_gets 2 (by decide) tw_2_67 dX1_stepsUp_45 ?_
              refine j_iload_n (i := 2) rfl rfl dX1_stepsUp_48 ?_
              replace hr := m_bind hr; obtain ⟨x15, g16, hr⟩ := hr
              refine j_tial 2 (by decide) rfl dX1_stepsUp_49 ((m_TI_X (by decide)).trans g16) ?_
              refine j_istore_n (i := 2) (L' := [none, some (.int a1), some (.int x15), some (.int s_4.2)]) rfl (Nat.le_of_ble_eq_true rfl) rfl rfl dX1_stepsUp_50 ?_
              refine j_iinc (i := 3) (v := s_4.2 + 1) (L' := [none, some (.int a1), some (.int x15), some (.int (s_4.2 + 1))]) rfl (m_o1 _) (Nat.le_of_ble_eq_true rfl) rfl rfl dX1_stepsUp_51 ?_
              refine j_goto (tgt := 13) dX1_stepsUp_54 rfl ?_
              cases hr
              exact j_weak (L' := [none, some (.int a1), some (.int x15), some (.int (s_4.2 + 1))]) (And.intro rfl (And.intro rfl (And.intro rfl trivial))) hk
            · rw [if_neg c14] at hr
              refine j_iload_n (i := 3) rfl rfl dX1_stepsUp_43 ?_
              cases hr
              rw [show _ = _ from hk]
              exact j_ret dX1_stepsUp_44 m_rk_i
    · cases e17 with
      | inl x18 =>
        dsimp only at hr
        dsimp only
        refine j_iconst (v := (-1)) rfl dX1_stepsUp_57 ?_
        cases hr
        exact j_ret dX1_stepsUp_58 m_rk_i
      | inr v20 =>
        dsimp only at hr
        cases hr
        rfl
  · rw [if_pos c3] at hr
    refine j_iconst (v := (-1)) rfl dX1_stepsUp_7 ?_
    cases hr
    exact j_ret dX1_stepsUp_8 m_rk_i
def w_X1_lowestShared_27 (r8 : Int64) : (Int32 × Int32) → Option ((Int32 × Int32) ⊕ ((Unit) ⊕ (Int32))) := fun s_9 =>
  if 24 ≤ s_9.2 then
    some (.inr (.inl ()))
  else
    (f_X1_isKind s_9.1).bind fun r12 =>
    if r12 = 0 then
      some (.inr (.inl ()))
    else
      (f_X1_has r8 s_9.1).bind fun r15 =>
      if r15 = 0 then
        (m_TI 2 s_9.1).bind fun x17 =>
        some (.inl (x17, s_9.2 + 1))
      else
        some (.inr (.inr s_9.1))
def f_X1_lowestShared (a0 : Int32) (a1 : Int32) : Option (Int32) :=
  (f_X1_isKind a0).bind fun r2 =>
  if r2 = 0 then
    some ((-1))
  else
    (f_X1_isKind a1).bind fun r5 =>
    if r5 = 0 then
      some ((-1))
    else
      (f_X1_allAbove a1).bind fun r8 =>
      (m_loop (w_X1_lowestShared_27 r8) 5000 ((a0, 0))).bind fun e19 => match e19 with
      | .inl x20 =>
        some ((-1))
      | .inr v22 => some v22
def Y_X1_lowestShared : mY := (yX1_lowestShared, cX1_lowestShared, 6, some (FieldType.int), .ireturn)
theorem ok_X1_lowestShared : m_Ok Y_X1_lowestShared := ⟨by decide +kernel, ⟨by decide +kernel, by decide +kernel⟩, tw_2_116, tw_1_8, by decide, Or.inr (Or.inl ⟨Or.inl rfl, rfl⟩)⟩
theorem nn_X1_lowestShared : (parseMethodDescriptor Y_X1_lowestShared.1.desc).map (fun q => q.parameters.length) = some 2 := by decide +kernel
set_option maxHeartbeats 4000000 in
set_option maxRecDepth 20000 in
theorem j_X1_lowestShared {X : mX} {h : mH} {d : Nat} {a0 : Int32} {a1 : Int32} {rv : Int32} (hd : 2 ≤ d) (hr : f_X1_lowestShared a0 a1 = some rv) : m_J X Y_X1_lowestShared d 0 [some (.int a0), some (.int a1), none, none, none, none] [] h (some (.int rv), h) := by
  obtain ⟨d, rfl⟩ : ∃ k, d = k + 1 := ⟨d - 1, by omega⟩
  unfold f_X1_lowestShared at hr
  refine j_iload_n (i := 0) rfl rfl dX1_lowestShared_0 ?_
  replace hr := m_bind hr; obtain ⟨r2, g1, hr⟩ := hr
  refine j_callS (Y' := Y_X1_isKind) (as := [.int a0]) ok_X1_isKind [some (.int a0)] rfl rfl tw_1_162 tw_1_163 nn_X1_isKind (Nat.le_of_ble_eq_true rfl) dX1_lowestShared_1 (j_X1_isKind g1) ?_
  refine j_if_eq (tgt := 14) dX1_lowestShared_4 rfl (fun c3 => ?_) (fun c3 => ?_)
  · rw [if_pos c3] at hr
    refine j_iconst (v := (-1)) rfl dX1_lowestShared_14 ?_
    cases hr
    exact j_ret dX1_lowestShared_15 m_rk_i
  · rw [if_neg c3] at hr
    refine j_iload_n (i := 1) rfl rfl dX1_lowestShared_7 ?_
    replace hr := m_bind hr; obtain ⟨r5, g4, hr⟩ := hr
    refine j_callS (Y' := Y_X1_isKind) (as := [.int a1]) ok_X1_isKind [some (.int a1)] rfl rfl tw_1_162 tw_1_163 nn_X1_isKind (Nat.le_of_ble_eq_true rfl) dX1_lowestShared_8 (j_X1_isKind g4) ?_
    refine j_if_ne (tgt := 16) dX1_lowestShared_11 rfl (fun c6 => ?_) (fun c6 => ?_)
    · rw [if_neg c6] at hr
      refine j_iload_n (i := 1) rfl rfl dX1_lowestShared_16 ?_
      replace hr := m_bind hr; obtain ⟨r8, g7, hr⟩ := hr
      refine j_callS (Y' := Y_X1_allAbove) (as := [.int a1]) ok_X1_allAbove [some (.int a1), none, none, none, none] rfl rfl tw_2_60 tw_2_61 nn_X1_allAbove (Nat.le_of_ble_eq_true rfl) dX1_lowestShared_17 (j_X1_allAbove (by omega) g7) ?_
      refine j_lstore_n (i := 2) (L' := [some (.int a0), some (.int a1), some (.long r8), none, none, none]) rfl (Nat.le_of_ble_eq_true rfl) rfl rfl dX1_lowestShared_20 ?_
      refine j_iload_n (i := 0) rfl rfl dX1_lowestShared_21 ?_
      refine j_istore (i := 4) (L' := [some (.int a0), some (.int a1), some (.long r8), none, some (.int a0), none]) (Nat.le_of_ble_eq_true rfl) rfl rfl dX1_lowestShared_22 ?_
      refine j_iconst (v := 0) rfl dX1_lowestShared_24 ?_
      refine j_istore (i := 5) (L' := [some (.int a0), some (.int a1), some (.long r8), none, some (.int a0), some (.int 0)]) (Nat.le_of_ble_eq_true rfl) rfl rfl dX1_lowestShared_25 ?_
      replace hr := m_bind hr; obtain ⟨e19, q23, hr⟩ := hr
      refine j_weak (L' := [none, none, some (.long r8), none, some (.int a0), some (.int 0)]) (And.intro rfl (And.intro rfl (And.intro rfl trivial))) ?_
      refine m_loop_sound (step := w_X1_lowestShared_27 r8) (P := fun s_9 => m_J X Y_X1_lowestShared (d + 1) 27 [none, none, some (.long r8), none, some (.int s_9.1), some (.int s_9.2)] [] h (some (.int rv), h)) (Qe := fun e19 => match e19 with | .inl x20 => m_J X Y_X1_lowestShared (d + 1) 68 [none, none, none, none, none, none] [] h (some (.int rv), h) | .inr v22 => ((some (.int rv), h) : mR) = (some (.int v22), h)) ?_ _ _ _ q23 ?_
      · intro s_9 o hr hk
        unfold w_X1_lowestShared_27 at hr
        refine j_iload (i := 5) rfl dX1_lowestShared_27 ?_
        refine j_bipush (v := 24) rfl dX1_lowestShared_29 ?_
        refine j_ic_ge (tgt := 68) dX1_lowestShared_31 rfl (fun c10 => ?_) (fun c10 => ?_)
        · rw [if_pos c10] at hr
          cases hr
          exact j_weak (L' := [none, none, none, none, none, none]) trivial hk
        · rw [if_neg c10] at hr
          refine j_iload (i := 4) rfl dX1_lowestShared_34 ?_
          replace hr := m_bind hr; obtain ⟨r12, g11, hr⟩ := hr
          refine j_callS (Y' := Y_X1_isKind) (as := [.int s_9.1]) ok_X1_isKind [some (.int s_9.1)] rfl rfl tw_1_162 tw_1_163 nn_X1_isKind (Nat.le_of_ble_eq_true rfl) dX1_lowestShared_36 (j_X1_isKind g11) ?_
          refine j_if_eq (tgt := 68) dX1_lowestShared_39 rfl (fun c13 => ?_) (fun c13 => ?_)
          · rw [if_pos c13] at hr
            cases hr
            exact j_weak (L' := [none, none, none, none, none, none]) trivial hk
          · rw [if_neg c13] at hr
            refine j_lload_n (i := 2) rfl rfl dX1_lowestShared_42 ?_
            refine j_iload (i := 4) rfl dX1_lowestShared_43 ?_
            replace hr := m_bind hr; obtain ⟨r15, g14, hr⟩ := hr
            refine j_callS (Y' := Y_X1_has) (as := [.long r8, .int s_9.1]) ok_X1_has [some (.long r8), none, some (.int s_9.1)] rfl rfl tw_1_166 tw_1_167 nn_X1_has (Nat.le_of_ble_eq_true rfl) dX1_lowestShared_45 (j_X1_has g14) ?_
            refine j_if_eq (tgt := 54) dX1_lowestShared_48 rfl (fun c16 => ?_) (fun c16 => ?_)
            · rw [if_pos c16] at hr
              refine j_gets 2 (by decide) tw_2_67 dX1_lowestShared_54 ?_
              refine j_iload (i := 4) rfl dX1_lowestShared_57 ?_
              replace hr := m_bind hr; obtain ⟨x17, g18, hr⟩ := hr
              refine j_tial 2 (by decide) rfl dX1_lowestShared_59 ((m_TI_X (by decide)).trans g18) ?_
              refine j_istore (i := 4) (L' := [none, none, some (.long r8), none, some (.int x17), some (.int s_9.2)]) (Nat.le_of_ble_eq_true rfl) rfl rfl dX1_lowestShared_60 ?_
              refine j_iinc (i := 5) (v := s_9.2 + 1) (L' := [none, none, some (.long r8), none, some (.int x17), some (.int (s_9.2 + 1))]) rfl (m_o1 _) (Nat.le_of_ble_eq_true rfl) rfl rfl dX1_lowestShared_62 ?_
              refine j_goto (tgt := 27) dX1_lowestShared_65 rfl ?_
              cases hr
              exact j_weak (L' := [none, none, some (.long r8), none, some (.int x17), some (.int (s_9.2 + 1))]) (And.intro rfl (And.intro rfl (And.intro rfl trivial))) hk
            · rw [if_neg c16] at hr
              refine j_iload (i := 4) rfl dX1_lowestShared_51 ?_
              cases hr
              rw [show _ = _ from hk]
              exact j_ret dX1_lowestShared_53 m_rk_i
      · cases e19 with
        | inl x20 =>
          dsimp only at hr
          dsimp only
          refine j_iconst (v := (-1)) rfl dX1_lowestShared_68 ?_
          cases hr
          exact j_ret dX1_lowestShared_69 m_rk_i
        | inr v22 =>
          dsimp only at hr
          cases hr
          rfl
    · rw [if_pos c6] at hr
      refine j_iconst (v := (-1)) rfl dX1_lowestShared_14 ?_
      cases hr
      exact j_ret dX1_lowestShared_15 m_rk_i
def f_X1_sharedTraits (a0 : Int32) (a1 : Int32) : Option (Int64) :=
  (f_X1_isKind a0).bind fun r2 =>
  if r2 = 0 then
    some ((0 : Int64))
  else
    (f_X1_isKind a1).bind fun r5 =>
    if r5 = 0 then
      some ((0 : Int64))
    else
      (f_X1_allAbove a0).bind fun r8 =>
      (f_X1_allAbove a1).bind fun r10 =>
      some ((r8 &&& r10) &&& ((561850441793536 : Int64)))
def Y_X1_sharedTraits : mY := (yX1_sharedTraits, cX1_sharedTraits, 2, some (FieldType.long), .lreturn)
theorem ok_X1_sharedTraits : m_Ok Y_X1_sharedTraits := ⟨by decide +kernel, ⟨by decide +kernel, by decide +kernel⟩, tw_2_123, tw_1_8, by decide, Or.inr (Or.inr (Or.inl ⟨rfl, rfl⟩))⟩
theorem nn_X1_sharedTraits : (parseMethodDescriptor Y_X1_sharedTraits.1.desc).map (fun q => q.parameters.length) = some 2 := by decide +kernel
set_option maxHeartbeats 4000000 in
set_option maxRecDepth 20000 in
theorem j_X1_sharedTraits {X : mX} {h : mH} {d : Nat} {a0 : Int32} {a1 : Int32} {rv : Int64} (hd : 2 ≤ d) (hr : f_X1_sharedTraits a0 a1 = some rv) : m_J X Y_X1_sharedTraits d 0 [some (.int a0), some (.int a1)] [] h (some (.long rv), h) := by
  obtain ⟨d, rfl⟩ : ∃ k, d = k + 1 := ⟨d - 1, by omega⟩
  unfold f_X1_sharedTraits at hr
  refine j_iload_n (i := 0) rfl rfl dX1_sharedTraits_0 ?_
  replace hr := m_bind hr; obtain ⟨r2, g1, hr⟩ := hr
  refine j_callS (Y' := Y_X1_isKind) (as := [.int a0]) ok_X1_isKind [some (.int a0)] rfl rfl tw_1_162 tw_1_163 nn_X1_isKind (Nat.le_of_ble_eq_true rfl) dX1_sharedTraits_1 (j_X1_isKind g1) ?_
  refine j_if_eq (tgt := 14) dX1_sharedTraits_4 rfl (fun c3 => ?_) (fun c3 => ?_)
  · rw [if_pos c3] at hr
    refine j_lconst (v := 0) rfl dX1_sharedTraits_14 ?_
    cases hr
    exact j_ret dX1_sharedTraits_15 m_rk_l
  · rw [if_neg c3] at hr
    refine j_iload_n (i := 1) rfl rfl dX1_sharedTraits_7 ?_
    replace hr := m_bind hr; obtain ⟨r5, g4, hr⟩ := hr
    refine j_callS (Y' := Y_X1_isKind) (as := [.int a1]) ok_X1_isKind [some (.int a1)] rfl rfl tw_1_162 tw_1_163 nn_X1_isKind (Nat.le_of_ble_eq_true rfl) dX1_sharedTraits_8 (j_X1_isKind g4) ?_
    refine j_if_ne (tgt := 16) dX1_sharedTraits_11 rfl (fun c6 => ?_) (fun c6 => ?_)
    · rw [if_neg c6] at hr
      refine j_iload_n (i := 0) rfl rfl dX1_sharedTraits_16 ?_
      replace hr := m_bind hr; obtain ⟨r8, g7, hr⟩ := hr
      refine j_callS (Y' := Y_X1_allAbove) (as := [.int a0]) ok_X1_allAbove [some (.int a0), none, none, none, none] rfl rfl tw_2_60 tw_2_61 nn_X1_allAbove (Nat.le_of_ble_eq_true rfl) dX1_sharedTraits_17 (j_X1_allAbove (by omega) g7) ?_
      refine j_iload_n (i := 1) rfl rfl dX1_sharedTraits_20 ?_
      replace hr := m_bind hr; obtain ⟨r10, g9, hr⟩ := hr
      refine j_callS (Y' := Y_X1_allAbove) (as := [.int a1]) ok_X1_allAbove [some (.int a1), none, none, none, none] rfl rfl tw_2_60 tw_2_61 nn_X1_allAbove (Nat.le_of_ble_eq_true rfl) dX1_sharedTraits_21 (j_X1_allAbove (by omega) g9) ?_
      refine j_land dX1_sharedTraits_24 ?_
      refine j_ldc2 (v := 561850441793536) tw_2_124 dX1_sharedTraits_25 ?_
      refine j_land dX1_sharedTraits_28 ?_
      cases hr
      exact j_ret dX1_sharedTraits_29 m_rk_l
    · rw [if_pos c6] at hr
      refine j_lconst (v := 0) rfl dX1_sharedTraits_14 ?_
      cases hr
      exact j_ret dX1_sharedTraits_15 m_rk_l
def f_X1_mayTurnInto (a0 : Int32) (a1 : Int32) : Option (Int32) :=
  (f_X1_sharedTraits a0 a1).bind fun r2 =>
  if (lg_cmp (r2 &&& (((-1099511627777) : Int64))) ((0 : Int64))) = 0 then
    some 0
  else
    some 1
def Y_X1_mayTurnInto : mY := (yX1_mayTurnInto, cX1_mayTurnInto, 2, some (FieldType.boolean), .ireturn)
theorem ok_X1_mayTurnInto : m_Ok Y_X1_mayTurnInto := ⟨by decide +kernel, ⟨by decide +kernel, by decide +kernel⟩, tw_3_112, tw_1_8, by decide, Or.inr (Or.inl ⟨Or.inr rfl, rfl⟩)⟩
theorem nn_X1_mayTurnInto : (parseMethodDescriptor Y_X1_mayTurnInto.1.desc).map (fun q => q.parameters.length) = some 2 := by decide +kernel
set_option maxHeartbeats 4000000 in
set_option maxRecDepth 20000 in
theorem j_X1_mayTurnInto {X : mX} {h : mH} {d : Nat} {a0 : Int32} {a1 : Int32} {rv : Int32} (hd : 3 ≤ d) (hr : f_X1_mayTurnInto a0 a1 = some rv) : m_J X Y_X1_mayTurnInto d 0 [some (.int a0), some (.int a1)] [] h (some (.int rv), h) := by
  obtain ⟨d, rfl⟩ : ∃ k, d = k + 1 := ⟨d - 1, by omega⟩
  unfold f_X1_mayTurnInto at hr
  refine j_iload_n (i := 0) rfl rfl dX1_mayTurnInto_0 ?_
  refine j_iload_n (i := 1) rfl rfl dX1_mayTurnInto_1 ?_
  replace hr := m_bind hr; obtain ⟨r2, g1, hr⟩ := hr
  refine j_callS (Y' := Y_X1_sharedTraits) (as := [.int a0, .int a1]) ok_X1_sharedTraits [some (.int a0), some (.int a1)] rfl rfl tw_3_113 tw_2_122 nn_X1_sharedTraits (Nat.le_of_ble_eq_true rfl) dX1_mayTurnInto_2 (j_X1_sharedTraits (by omega) g1) ?_
  refine j_ldc2 (v := (-1099511627777)) tw_3_114 dX1_mayTurnInto_5 ?_
  refine j_land dX1_mayTurnInto_8 ?_
  refine j_lconst (v := 0) rfl dX1_mayTurnInto_9 ?_
  refine j_lcmp dX1_mayTurnInto_10 ?_
  refine j_if_eq (tgt := 18) dX1_mayTurnInto_11 rfl (fun c3 => ?_) (fun c3 => ?_)
  · rw [if_pos c3] at hr
    refine j_iconst (v := 0) rfl dX1_mayTurnInto_18 ?_
    cases hr
    exact j_ret dX1_mayTurnInto_19 m_rk_z0
  · rw [if_neg c3] at hr
    refine j_iconst (v := 1) rfl dX1_mayTurnInto_14 ?_
    refine j_goto (tgt := 19) dX1_mayTurnInto_15 rfl ?_
    cases hr
    exact j_ret dX1_mayTurnInto_19 m_rk_z1
def w_X1_lowest_6 (a0 : Int64) : (Int64 × Int32) → Option ((Int64 × Int32) ⊕ (Int64)) := fun s_1 =>
  if 49 ≤ s_1.2 then
    some (.inr s_1.1)
  else
    (f_X1_has a0 s_1.2).bind fun r4 =>
    if r4 = 0 then
      some (.inl (s_1.1, s_1.2 + 1))
    else
      (m_TL 0 (s_1.2 - 40)).bind fun x6 =>
      (some (s_1.1 &&& ((x6 ^^^ (((-1) : Int64))) ||| (((1 : Int64)) <<< ((s_1.2 : Int32).toInt64 &&& 63))) : Int64)).bind fun y8 =>
      some (.inl (y8, s_1.2 + 1))
def f_X1_lowest (a0 : Int64) : Option (Int64) :=
  (m_loop (w_X1_lowest_6 a0) 5000 ((a0, 40))).bind fun e10 =>
  some e10
def Y_X1_lowest : mY := (yX1_lowest, cX1_lowest, 5, some (FieldType.long), .lreturn)
theorem ok_X1_lowest : m_Ok Y_X1_lowest := ⟨by decide +kernel, ⟨by decide +kernel, by decide +kernel⟩, tw_2_127, tw_1_8, by decide, Or.inr (Or.inr (Or.inl ⟨rfl, rfl⟩))⟩
theorem nn_X1_lowest : (parseMethodDescriptor Y_X1_lowest.1.desc).map (fun q => q.parameters.length) = some 1 := by decide +kernel
set_option maxHeartbeats 4000000 in
set_option maxRecDepth 20000 in
theorem j_X1_lowest {X : mX} {h : mH} {d : Nat} {a0 : Int64} {rv : Int64} (hd : 1 ≤ d) (hr : f_X1_lowest a0 = some rv) : m_J X Y_X1_lowest d 0 [some (.long a0), none, none, none, none] [] h (some (.long rv), h) := by
  obtain ⟨d, rfl⟩ : ∃ k, d = k + 1 := ⟨d - 1, by omega⟩
  unfold f_X1_lowest at hr
  refine j_lload_n (i := 0) rfl rfl dX1_lowest_0 ?_
  refine j_lstore_n (i := 2) (L' := [some (.long a0), none, some (.long a0), none, none]) rfl (Nat.le_of_ble_eq_true rfl) rfl rfl dX1_lowest_1 ?_
  refine j_bipush (v := 40) rfl dX1_lowest_2 ?_
  refine j_istore (i := 4) (L' := [some (.long a0), none, some (.long a0), none, some (.int 40)]) (Nat.le_of_ble_eq_true rfl) rfl rfl dX1_lowest_4 ?_
  replace hr := m_bind hr; obtain ⟨e10, q13, hr⟩ := hr
  refine j_weak (L' := [some (.long a0), none, some (.long a0), none, some (.int 40)]) (And.intro rfl (And.intro rfl (And.intro rfl trivial))) ?_
  refine m_loop_sound (step := w_X1_lowest_6 a0) (P := fun s_1 => m_J X Y_X1_lowest (d + 1) 6 [some (.long a0), none, some (.long s_1.1), none, some (.int s_1.2)] [] h (some (.long rv), h)) (Qe := fun e10 => m_J X Y_X1_lowest (d + 1) 49 [none, none, some (.long e10), none, none] [] h (some (.long rv), h)) ?_ _ _ _ q13 ?_
  · intro s_1 o hr hk
    unfold w_X1_lowest_6 at hr
    refine j_iload (i := 4) rfl dX1_lowest_6 ?_
    refine j_bipush (v := 49) rfl dX1_lowest_8 ?_
    refine j_ic_ge (tgt := 49) dX1_lowest_10 rfl (fun c2 => ?_) (fun c2 => ?_)
    · rw [if_pos c2] at hr
      cases hr
      exact j_weak (L' := [none, none, some (.long s_1.1), none, none]) (And.intro rfl trivial) hk
    · rw [if_neg c2] at hr
      refine j_lload_n (i := 0) rfl rfl dX1_lowest_13 ?_
      refine j_iload (i := 4) rfl dX1_lowest_14 ?_
      replace hr := m_bind hr; obtain ⟨r4, g3, hr⟩ := hr
      refine j_callS (Y' := Y_X1_has) (as := [.long a0, .int s_1.2]) ok_X1_has [some (.long a0), none, some (.int s_1.2)] rfl rfl tw_1_166 tw_1_167 nn_X1_has (Nat.le_of_ble_eq_true rfl) dX1_lowest_16 (j_X1_has g3) ?_
      refine j_if_eq (tgt := 43) dX1_lowest_19 rfl (fun c5 => ?_) (fun c5 => ?_)
      · rw [if_pos c5] at hr
        refine j_iinc (i := 4) (v := s_1.2 + 1) (L' := [some (.long a0), none, some (.long s_1.1), none, some (.int (s_1.2 + 1))]) rfl (m_o1 _) (Nat.le_of_ble_eq_true rfl) rfl rfl dX1_lowest_43 ?_
        refine j_goto (tgt := 6) dX1_lowest_46 rfl ?_
        cases hr
        exact j_weak (L' := [some (.long a0), none, some (.long s_1.1), none, some (.int (s_1.2 + 1))]) (And.intro rfl (And.intro rfl (And.intro rfl trivial))) hk
      · rw [if_neg c5] at hr
        refine j_lload_n (i := 2) rfl rfl dX1_lowest_22 ?_
        refine j_gets 0 (by decide) tw_2_63 dX1_lowest_23 ?_
        refine j_iload (i := 4) rfl dX1_lowest_26 ?_
        refine j_bipush (v := 40) rfl dX1_lowest_28 ?_
        refine j_isub dX1_lowest_30 ?_
        replace hr := m_bind hr; obtain ⟨x6, g7, hr⟩ := hr
        refine j_tlal 0 (by decide) rfl dX1_lowest_31 ((m_TL_X (by decide)).trans g7) ?_
        refine j_ldc2 (v := (-1)) tw_2_128 dX1_lowest_32 ?_
        refine j_lxor dX1_lowest_35 ?_
        refine j_lconst (v := 1) rfl dX1_lowest_36 ?_
        refine j_iload (i := 4) rfl dX1_lowest_37 ?_
        refine j_lshl dX1_lowest_39 ?_
        refine j_lor dX1_lowest_40 ?_
        refine j_land dX1_lowest_41 ?_
        replace hr := m_bind hr; obtain ⟨y8, g9, hr⟩ := hr
        rw [show (s_1.1 &&& ((x6 ^^^ (((-1) : Int64))) ||| (((1 : Int64)) <<< ((s_1.2 : Int32).toInt64 &&& 63))) : Int64) = y8 from Option.some.inj g9]
        refine j_lstore_n (i := 2) (L' := [some (.long a0), none, some (.long y8), none, some (.int s_1.2)]) rfl (Nat.le_of_ble_eq_true rfl) rfl rfl dX1_lowest_42 ?_
        refine j_iinc (i := 4) (v := s_1.2 + 1) (L' := [some (.long a0), none, some (.long y8), none, some (.int (s_1.2 + 1))]) rfl (m_o1 _) (Nat.le_of_ble_eq_true rfl) rfl rfl dX1_lowest_43 ?_
        refine j_goto (tgt := 6) dX1_lowest_46 rfl ?_
        cases hr
        exact j_weak (L' := [some (.long a0), none, some (.long y8), none, some (.int (s_1.2 + 1))]) (And.intro rfl (And.intro rfl (And.intro rfl trivial))) hk
  · skip
    refine j_lload_n (i := 2) rfl rfl dX1_lowest_49 ?_
    cases hr
    exact j_ret dX1_lowest_50 m_rk_l
def w_X1_pick_5 (a0 : Int64) (a2 : Int32) : (Int32 × Int32) → Option ((Int32 × Int32) ⊕ ((Unit) ⊕ (Int32))) := fun s_1 =>
  if 49 ≤ s_1.2 then
    some (.inr (.inl ()))
  else
    (f_X1_has a0 s_1.2).bind fun r4 =>
    if r4 = 0 then
      some (.inl (s_1.1, s_1.2 + 1))
    else
      if s_1.1 = a2 then
        some (.inr (.inr s_1.2))
      else
        some (.inl (s_1.1 + 1, s_1.2 + 1))
def f_X1_pick (a0 : Int64) (a2 : Int32) : Option (Int32) :=
  (m_loop (w_X1_pick_5 a0 a2) 5000 ((0, 0))).bind fun e7 => match e7 with
  | .inl x8 =>
    some ((-1))
  | .inr v10 => some v10
def Y_X1_pick : mY := (yX1_pick, cX1_pick, 5, some (FieldType.int), .ireturn)
theorem ok_X1_pick : m_Ok Y_X1_pick := ⟨by decide +kernel, ⟨by decide +kernel, by decide +kernel⟩, tw_2_131, tw_1_8, by decide, Or.inr (Or.inl ⟨Or.inl rfl, rfl⟩)⟩
theorem nn_X1_pick : (parseMethodDescriptor Y_X1_pick.1.desc).map (fun q => q.parameters.length) = some 2 := by decide +kernel
set_option maxHeartbeats 4000000 in
set_option maxRecDepth 20000 in
theorem j_X1_pick {X : mX} {h : mH} {d : Nat} {a0 : Int64} {a2 : Int32} {rv : Int32} (hd : 1 ≤ d) (hr : f_X1_pick a0 a2 = some rv) : m_J X Y_X1_pick d 0 [some (.long a0), none, some (.int a2), none, none] [] h (some (.int rv), h) := by
  obtain ⟨d, rfl⟩ : ∃ k, d = k + 1 := ⟨d - 1, by omega⟩
  unfold f_X1_pick at hr
  refine j_iconst (v := 0) rfl dX1_pick_0 ?_
  refine j_istore_n (i := 3) (L' := [some (.long a0), none, some (.int a2), some (.int 0), none]) rfl (Nat.le_of_ble_eq_true rfl) rfl rfl dX1_pick_1 ?_
  refine j_iconst (v := 0) rfl dX1_pick_2 ?_
  refine j_istore (i := 4) (L' := [some (.long a0), none, some (.int a2), some (.int 0), some (.int 0)]) (Nat.le_of_ble_eq_true rfl) rfl rfl dX1_pick_3 ?_
  replace hr := m_bind hr; obtain ⟨e7, q11, hr⟩ := hr
  refine j_weak (L' := [some (.long a0), none, some (.int a2), some (.int 0), some (.int 0)]) (And.intro rfl (And.intro rfl (And.intro rfl (And.intro rfl trivial)))) ?_
  refine m_loop_sound (step := w_X1_pick_5 a0 a2) (P := fun s_1 => m_J X Y_X1_pick (d + 1) 5 [some (.long a0), none, some (.int a2), some (.int s_1.1), some (.int s_1.2)] [] h (some (.int rv), h)) (Qe := fun e7 => match e7 with | .inl x8 => m_J X Y_X1_pick (d + 1) 38 [none, none, none, none, none] [] h (some (.int rv), h) | .inr v10 => ((some (.int rv), h) : mR) = (some (.int v10), h)) ?_ _ _ _ q11 ?_
  · intro s_1 o hr hk
    unfold w_X1_pick_5 at hr
    refine j_iload (i := 4) rfl dX1_pick_5 ?_
    refine j_bipush (v := 49) rfl dX1_pick_7 ?_
    refine j_ic_ge (tgt := 38) dX1_pick_9 rfl (fun c2 => ?_) (fun c2 => ?_)
    · rw [if_pos c2] at hr
      cases hr
      exact j_weak (L' := [none, none, none, none, none]) trivial hk
    · rw [if_neg c2] at hr
      refine j_lload_n (i := 0) rfl rfl dX1_pick_12 ?_
      refine j_iload (i := 4) rfl dX1_pick_13 ?_
      replace hr := m_bind hr; obtain ⟨r4, g3, hr⟩ := hr
      refine j_callS (Y' := Y_X1_has) (as := [.long a0, .int s_1.2]) ok_X1_has [some (.long a0), none, some (.int s_1.2)] rfl rfl tw_1_166 tw_1_167 nn_X1_has (Nat.le_of_ble_eq_true rfl) dX1_pick_15 (j_X1_has g3) ?_
      refine j_if_eq (tgt := 32) dX1_pick_18 rfl (fun c5 => ?_) (fun c5 => ?_)
      · rw [if_pos c5] at hr
        refine j_iinc (i := 4) (v := s_1.2 + 1) (L' := [some (.long a0), none, some (.int a2), some (.int s_1.1), some (.int (s_1.2 + 1))]) rfl (m_o1 _) (Nat.le_of_ble_eq_true rfl) rfl rfl dX1_pick_32 ?_
        refine j_goto (tgt := 5) dX1_pick_35 rfl ?_
        cases hr
        exact j_weak (L' := [some (.long a0), none, some (.int a2), some (.int s_1.1), some (.int (s_1.2 + 1))]) (And.intro rfl (And.intro rfl (And.intro rfl (And.intro rfl trivial)))) hk
      · rw [if_neg c5] at hr
        refine j_iload_n (i := 3) rfl rfl dX1_pick_21 ?_
        refine j_iload_n (i := 2) rfl rfl dX1_pick_22 ?_
        refine j_ic_ne (tgt := 29) dX1_pick_23 rfl (fun c6 => ?_) (fun c6 => ?_)
        · rw [if_neg c6] at hr
          refine j_iinc (i := 3) (v := s_1.1 + 1) (L' := [some (.long a0), none, some (.int a2), some (.int (s_1.1 + 1)), some (.int s_1.2)]) rfl (m_o1 _) (Nat.le_of_ble_eq_true rfl) rfl rfl dX1_pick_29 ?_
          refine j_iinc (i := 4) (v := s_1.2 + 1) (L' := [some (.long a0), none, some (.int a2), some (.int (s_1.1 + 1)), some (.int (s_1.2 + 1))]) rfl (m_o1 _) (Nat.le_of_ble_eq_true rfl) rfl rfl dX1_pick_32 ?_
          refine j_goto (tgt := 5) dX1_pick_35 rfl ?_
          cases hr
          exact j_weak (L' := [some (.long a0), none, some (.int a2), some (.int (s_1.1 + 1)), some (.int (s_1.2 + 1))]) (And.intro rfl (And.intro rfl (And.intro rfl (And.intro rfl trivial)))) hk
        · rw [if_pos c6] at hr
          refine j_iload (i := 4) rfl dX1_pick_26 ?_
          cases hr
          rw [show _ = _ from hk]
          exact j_ret dX1_pick_28 m_rk_i
  · cases e7 with
    | inl x8 =>
      dsimp only at hr
      dsimp only
      refine j_iconst (v := (-1)) rfl dX1_pick_38 ?_
      cases hr
      exact j_ret dX1_pick_39 m_rk_i
    | inr v10 =>
      dsimp only at hr
      cases hr
      rfl
def f_X7_lastDay (h : mH) (a0 : Nat) : Option (Int32) :=
  (m_gi h a0 6 8).bind fun x1 =>
  (m_gi h a0 6 9).bind fun x3 =>
  some (x1 + x3)
def Y_X7_lastDay : mY := (yX7_lastDay, cX7_lastDay, 1, some (FieldType.int), .ireturn)
theorem ok_X7_lastDay : m_Ok Y_X7_lastDay := ⟨by decide +kernel, ⟨by decide +kernel, by decide +kernel⟩, tw_2_224, tw_1_9, by decide, Or.inr (Or.inl ⟨Or.inl rfl, rfl⟩)⟩
theorem nn_X7_lastDay : (parseMethodDescriptor Y_X7_lastDay.1.desc).map (fun q => q.parameters.length) = some 0 := by decide +kernel
set_option maxHeartbeats 4000000 in
set_option maxRecDepth 20000 in
theorem j_X7_lastDay {X : mX} {d : Nat} {h : mH} {a0 : Nat} {rv : Int32} (hr : f_X7_lastDay h a0 = some rv) : m_J X Y_X7_lastDay d 0 [some (.ref a0)] [] h (some (.int rv), h) := by
  unfold f_X7_lastDay at hr
  refine j_aload_n (i := 0) rfl rfl dX7_lastDay_0 ?_
  replace hr := m_bind hr; obtain ⟨x1, g2, hr⟩ := hr
  refine j_getf (C := RX7) (T := TX7) (N := 11) (ci := 6) (k := 8) rfl (by decide) inX7 tw_1_208 dX7_lastDay_1 (m_gi_spec g2) ?_
  refine j_aload_n (i := 0) rfl rfl dX7_lastDay_4 ?_
  replace hr := m_bind hr; obtain ⟨x3, g4, hr⟩ := hr
  refine j_getf (C := RX7) (T := TX7) (N := 11) (ci := 6) (k := 9) rfl (by decide) inX7 tw_1_210 dX7_lastDay_5 (m_gi_spec g4) ?_
  refine j_iadd dX7_lastDay_8 ?_
  cases hr
  exact j_ret dX7_lastDay_9 m_rk_i
def f_X7_dueOn (h : mH) (a0 : Nat) (a1 : Int32) : Option (Int32) :=
  if m_ob h a0 6 = true then
    (f_X7_lastDay h a0).bind fun r2 =>
    (some (if 0 < (a1 - r2) then (a1 - r2) else 0 : Int32)).bind fun y3 =>
    (some (if 0 < (y3 - 30) then (y3 - 30) else 0 : Int32)).bind fun y5 =>
    (m_gi h a0 6 10).bind fun x7 =>
    (some (if 100 < (y3 + y5) then 100 else (y3 + y5) : Int32)).bind fun y9 =>
    some (x7 * y9)
  else none
def Y_X7_dueOn : mY := (yX7_dueOn, cX7_dueOn, 4, some (FieldType.int), .ireturn)
theorem ok_X7_dueOn : m_Ok Y_X7_dueOn := ⟨by decide +kernel, ⟨by decide +kernel, by decide +kernel⟩, tw_2_236, tw_1_9, by decide, Or.inr (Or.inl ⟨Or.inl rfl, rfl⟩)⟩
theorem nn_X7_dueOn : (parseMethodDescriptor Y_X7_dueOn.1.desc).map (fun q => q.parameters.length) = some 1 := by decide +kernel
set_option maxHeartbeats 4000000 in
set_option maxRecDepth 20000 in
theorem j_X7_dueOn {X : mX} {d : Nat} {h : mH} {a0 : Nat} {a1 : Int32} {rv : Int32} (hd : 1 ≤ d) (hr : f_X7_dueOn h a0 a1 = some rv) : m_J X Y_X7_dueOn d 0 [some (.ref a0), some (.int a1), none, none] [] h (some (.int rv), h) := by
  obtain ⟨d, rfl⟩ : ∃ k, d = k + 1 := ⟨d - 1, by omega⟩
  unfold f_X7_dueOn at hr
  refine j_iconst (v := 0) rfl dX7_dueOn_0 ?_
  refine j_iload_n (i := 1) rfl rfl dX7_dueOn_1 ?_
  refine j_aload_n (i := 0) rfl rfl dX7_dueOn_2 ?_
  by_cases o11 : m_ob h a0 6 = true
  · rw [if_pos o11] at hr
    replace hr := m_bind hr; obtain ⟨r2, g1, hr⟩ := hr
    refine j_callV (Y' := Y_X7_lastDay) (a := a0) (as := []) (ci := 6) (T := TX7) (N := 11) ok_X7_lastDay [some (.ref a0)] rfl rfl rfl tw_2_237 tw_2_222 tw_2_223 nn_X7_lastDay (Nat.le_of_ble_eq_true rfl) dX7_dueOn_3 o11 (j_X7_lastDay g1) ?_
    refine j_isub dX7_dueOn_6 ?_
    refine j_max tw_2_238 (Nat.le_of_ble_eq_true rfl) rfl dX7_dueOn_7 ?_
    replace hr := m_bind hr; obtain ⟨y3, g4, hr⟩ := hr
    rw [show (if 0 < (a1 - r2) then (a1 - r2) else 0 : Int32) = y3 from Option.some.inj g4]
    refine j_istore_n (i := 2) (L' := [some (.ref a0), some (.int a1), some (.int y3), none]) rfl (Nat.le_of_ble_eq_true rfl) rfl rfl dX7_dueOn_10 ?_
    refine j_iload_n (i := 2) rfl rfl dX7_dueOn_11 ?_
    refine j_iconst (v := 0) rfl dX7_dueOn_12 ?_
    refine j_iload_n (i := 2) rfl rfl dX7_dueOn_13 ?_
    refine j_bipush (v := 30) rfl dX7_dueOn_14 ?_
    refine j_isub dX7_dueOn_16 ?_
    refine j_max tw_2_238 (Nat.le_of_ble_eq_true rfl) rfl dX7_dueOn_17 ?_
    replace hr := m_bind hr; obtain ⟨y5, g6, hr⟩ := hr
    rw [show (if 0 < (y3 - 30) then (y3 - 30) else 0 : Int32) = y5 from Option.some.inj g6]
    refine j_iadd dX7_dueOn_20 ?_
    refine j_istore_n (i := 3) (L' := [some (.ref a0), some (.int a1), some (.int y3), some (.int (y3 + y5))]) rfl (Nat.le_of_ble_eq_true rfl) rfl rfl dX7_dueOn_21 ?_
    refine j_aload_n (i := 0) rfl rfl dX7_dueOn_22 ?_
    replace hr := m_bind hr; obtain ⟨x7, g8, hr⟩ := hr
    refine j_getf (C := RX7) (T := TX7) (N := 11) (ci := 6) (k := 10) rfl (by decide) inX7 tw_1_212 dX7_dueOn_23 (m_gi_spec g8) ?_
    refine j_iload_n (i := 3) rfl rfl dX7_dueOn_26 ?_
    refine j_bipush (v := 100) rfl dX7_dueOn_27 ?_
    refine j_min tw_2_239 (Nat.le_of_ble_eq_true rfl) rfl dX7_dueOn_29 ?_
    replace hr := m_bind hr; obtain ⟨y9, g10, hr⟩ := hr
    rw [show (if 100 < (y3 + y5) then 100 else (y3 + y5) : Int32) = y9 from Option.some.inj g10]
    refine j_imul dX7_dueOn_32 ?_
    cases hr
    exact j_ret dX7_dueOn_33 m_rk_i
  · rw [if_neg o11] at hr
    cases hr
def f_X7_lendTo (h : mH) (a0 : Nat) (a1 : Int32) (a2 : Int32) (a3 : Int32) (a4 : Int32) : Option (mH) :=
  (m_pf h a0 6 7 (.int a1)).bind fun h1 =>
  (m_pf h1 a0 6 8 (.int a2)).bind fun h3 =>
  (m_pf h3 a0 6 9 (.int a3)).bind fun h5 =>
  (m_pf h5 a0 6 10 (.int a4)).bind fun h7 =>
  some h7
def Y_X7_lendTo : mY := (yX7_lendTo, cX7_lendTo, 5, none, .return_)
theorem ok_X7_lendTo : m_Ok Y_X7_lendTo := ⟨by decide +kernel, ⟨by decide +kernel, by decide +kernel⟩, tw_2_213, tw_1_9, by decide, Or.inl ⟨rfl, rfl⟩⟩
theorem nn_X7_lendTo : (parseMethodDescriptor Y_X7_lendTo.1.desc).map (fun q => q.parameters.length) = some 4 := by decide +kernel
set_option maxHeartbeats 4000000 in
set_option maxRecDepth 20000 in
theorem j_X7_lendTo {X : mX} {d : Nat} {h : mH} {a0 : Nat} {a1 : Int32} {a2 : Int32} {a3 : Int32} {a4 : Int32} {h' : mH} (hr : f_X7_lendTo h a0 a1 a2 a3 a4 = some h') : m_J X Y_X7_lendTo d 0 [some (.ref a0), some (.int a1), some (.int a2), some (.int a3), some (.int a4)] [] h (none, h') := by
  unfold f_X7_lendTo at hr
  refine j_aload_n (i := 0) rfl rfl dX7_lendTo_0 ?_
  refine j_iload_n (i := 1) rfl rfl dX7_lendTo_1 ?_
  replace hr := m_bind hr; obtain ⟨h1, g2, hr⟩ := hr
  refine j_puti (C := RX7) (T := TX7) (ty := tyX7) (N := 11) (ci := 6) (k := 7) rfl (by decide) inX7 tyX7_ok nmX7 tw_1_205 rfl rfl dX7_lendTo_2 g2 ?_
  refine j_aload_n (i := 0) rfl rfl dX7_lendTo_5 ?_
  refine j_iload_n (i := 2) rfl rfl dX7_lendTo_6 ?_
  replace hr := m_bind hr; obtain ⟨h3, g4, hr⟩ := hr
  refine j_puti (C := RX7) (T := TX7) (ty := tyX7) (N := 11) (ci := 6) (k := 8) rfl (by decide) inX7 tyX7_ok nmX7 tw_1_208 rfl rfl dX7_lendTo_7 g4 ?_
  refine j_aload_n (i := 0) rfl rfl dX7_lendTo_10 ?_
  refine j_iload_n (i := 3) rfl rfl dX7_lendTo_11 ?_
  replace hr := m_bind hr; obtain ⟨h5, g6, hr⟩ := hr
  refine j_puti (C := RX7) (T := TX7) (ty := tyX7) (N := 11) (ci := 6) (k := 9) rfl (by decide) inX7 tyX7_ok nmX7 tw_1_210 rfl rfl dX7_lendTo_12 g6 ?_
  refine j_aload_n (i := 0) rfl rfl dX7_lendTo_15 ?_
  refine j_iload (i := 4) rfl dX7_lendTo_16 ?_
  replace hr := m_bind hr; obtain ⟨h7, g8, hr⟩ := hr
  refine j_puti (C := RX7) (T := TX7) (ty := tyX7) (N := 11) (ci := 6) (k := 10) rfl (by decide) inX7 tyX7_ok nmX7 tw_1_212 rfl rfl dX7_lendTo_18 g8 ?_
  cases hr
  exact j_ret dX7_lendTo_21 m_rk_v
def f_X7_endLoan (h : mH) (a0 : Nat) : Option (mH) :=
  if m_ob h a0 6 = true then
    (f_X7_lendTo h a0 ((-1)) ((-1)) ((-1)) ((-1))).bind fun h2 =>
    some h2
  else none
def Y_X7_endLoan : mY := (yX7_endLoan, cX7_endLoan, 1, none, .return_)
theorem ok_X7_endLoan : m_Ok Y_X7_endLoan := ⟨by decide +kernel, ⟨by decide +kernel, by decide +kernel⟩, tw_3_9, tw_1_9, by decide, Or.inl ⟨rfl, rfl⟩⟩
theorem nn_X7_endLoan : (parseMethodDescriptor Y_X7_endLoan.1.desc).map (fun q => q.parameters.length) = some 0 := by decide +kernel
set_option maxHeartbeats 4000000 in
set_option maxRecDepth 20000 in
theorem j_X7_endLoan {X : mX} {d : Nat} {h : mH} {a0 : Nat} {h' : mH} (hd : 1 ≤ d) (hr : f_X7_endLoan h a0 = some h') : m_J X Y_X7_endLoan d 0 [some (.ref a0)] [] h (none, h') := by
  obtain ⟨d, rfl⟩ : ∃ k, d = k + 1 := ⟨d - 1, by omega⟩
  unfold f_X7_endLoan at hr
  refine j_aload_n (i := 0) rfl rfl dX7_endLoan_0 ?_
  refine j_iconst (v := (-1)) rfl dX7_endLoan_1 ?_
  refine j_iconst (v := (-1)) rfl dX7_endLoan_2 ?_
  refine j_iconst (v := (-1)) rfl dX7_endLoan_3 ?_
  refine j_iconst (v := (-1)) rfl dX7_endLoan_4 ?_
  by_cases o3 : m_ob h a0 6 = true
  · rw [if_pos o3] at hr
    replace hr := m_bind hr; obtain ⟨h2, g1, hr⟩ := hr
    refine j_callV (Y' := Y_X7_lendTo) (a := a0) (as := [.int (-1), .int (-1), .int (-1), .int (-1)]) (ci := 6) (T := TX7) (N := 11) ok_X7_lendTo [some (.ref a0), some (.int (-1)), some (.int (-1)), some (.int (-1)), some (.int (-1))] rfl rfl rfl tw_3_10 tw_2_211 tw_2_212 nn_X7_lendTo (Nat.le_of_ble_eq_true rfl) dX7_endLoan_5 o3 (j_X7_lendTo g1) ?_
    cases hr
    exact j_ret dX7_endLoan_8 m_rk_v
  · rw [if_neg o3] at hr
    cases hr
def f_X7_isMeasure (a0 : Int32) : Option (Int32) :=
  if a0 < 0 then
    some 0
  else
    if 100000 < a0 then
      some 0
    else
      some 1
def Y_X7_isMeasure : mY := (yX7_isMeasure, cX7_isMeasure, 1, some (FieldType.boolean), .ireturn)
theorem ok_X7_isMeasure : m_Ok Y_X7_isMeasure := ⟨by decide +kernel, ⟨by decide +kernel, by decide +kernel⟩, tw_1_171, tw_1_9, by decide, Or.inr (Or.inl ⟨Or.inr rfl, rfl⟩)⟩
theorem nn_X7_isMeasure : (parseMethodDescriptor Y_X7_isMeasure.1.desc).map (fun q => q.parameters.length) = some 1 := by decide +kernel
set_option maxHeartbeats 4000000 in
set_option maxRecDepth 20000 in
theorem j_X7_isMeasure {X : mX} {h : mH} {d : Nat} {a0 : Int32} {rv : Int32} (hr : f_X7_isMeasure a0 = some rv) : m_J X Y_X7_isMeasure d 0 [some (.int a0)] [] h (some (.int rv), h) := by
  unfold f_X7_isMeasure at hr
  refine j_iload_n (i := 0) rfl rfl dX7_isMeasure_0 ?_
  refine j_if_lt (tgt := 14) dX7_isMeasure_1 rfl (fun c1 => ?_) (fun c1 => ?_)
  · rw [if_pos c1] at hr
    refine j_iconst (v := 0) rfl dX7_isMeasure_14 ?_
    cases hr
    exact j_ret dX7_isMeasure_15 m_rk_z0
  · rw [if_neg c1] at hr
    refine j_iload_n (i := 0) rfl rfl dX7_isMeasure_4 ?_
    refine j_ldc (v := 100000) tw_1_172 dX7_isMeasure_5 ?_
    refine j_ic_gt (tgt := 14) dX7_isMeasure_7 rfl (fun c2 => ?_) (fun c2 => ?_)
    · rw [if_pos c2] at hr
      refine j_iconst (v := 0) rfl dX7_isMeasure_14 ?_
      cases hr
      exact j_ret dX7_isMeasure_15 m_rk_z0
    · rw [if_neg c2] at hr
      refine j_iconst (v := 1) rfl dX7_isMeasure_10 ?_
      refine j_goto (tgt := 15) dX7_isMeasure_11 rfl ?_
      cases hr
      exact j_ret dX7_isMeasure_15 m_rk_z1
def f_X7_init (h : mH) (a0 : Nat) (a1 : Int32) (a2 : Int32) (a3 : Int32) (a4 : Int32) : Option (mH) :=
  (m_pf h a0 6 0 (.int a1)).bind fun h1 =>
  (m_pf h1 a0 6 3 (.int a2)).bind fun h3 =>
  (m_pf h3 a0 6 1 (.int a3)).bind fun h5 =>
  (m_pf h5 a0 6 2 (.int a4)).bind fun h7 =>
  (m_pf h7 a0 6 4 (va_rf none)).bind fun h9 =>
  (m_pf h9 a0 6 5 (.int ((-1)))).bind fun h11 =>
  (m_pf h11 a0 6 6 (va_rf none)).bind fun h13 =>
  (m_pf h13 a0 6 7 (.int ((-1)))).bind fun h15 =>
  (m_pf h15 a0 6 8 (.int ((-1)))).bind fun h17 =>
  (m_pf h17 a0 6 9 (.int ((-1)))).bind fun h19 =>
  (m_pf h19 a0 6 10 (.int ((-1)))).bind fun h21 =>
  some h21
def Y_X7_init : mY := (yX7_init, cX7_init, 5, none, .return_)
theorem ok_X7_init : m_Ok Y_X7_init := ⟨by decide +kernel, ⟨by decide +kernel, by decide +kernel⟩, tw_1_180, tw_1_9, by decide, Or.inl ⟨rfl, rfl⟩⟩
theorem nn_X7_init : (parseMethodDescriptor Y_X7_init.1.desc).map (fun q => q.parameters.length) = some 4 := by decide +kernel
set_option maxHeartbeats 4000000 in
set_option maxRecDepth 20000 in
theorem j_X7_init {X : mX} {d : Nat} {h : mH} {a0 : Nat} {a1 : Int32} {a2 : Int32} {a3 : Int32} {a4 : Int32} {h' : mH} (hd : 1 ≤ d) (hr : f_X7_init h a0 a1 a2 a3 a4 = some h') : m_J X Y_X7_init d 0 [some (.ref a0), some (.int a1), some (.int a2), some (.int a3), some (.int a4)] [] h (none, h') := by
  obtain ⟨d, rfl⟩ : ∃ k, d = k + 1 := ⟨d - 1, by omega⟩
  unfold f_X7_init at hr
  refine j_aload_n (i := 0) rfl rfl dX7_init_0 ?_
  refine j_objInit tw_1_181 (Nat.le_of_ble_eq_true rfl) dX7_init_1 ?_
  refine j_aload_n (i := 0) rfl rfl dX7_init_4 ?_
  refine j_iload_n (i := 1) rfl rfl dX7_init_5 ?_
  replace hr := m_bind hr; obtain ⟨h1, g2, hr⟩ := hr
  refine j_putiF (C := RX7) (T := TX7) (ty := tyX7) (N := 11) (ci := 6) (k := 0) rfl (by decide) inX7 tyX7_ok nmX7 tw_1_182 rfl rfl rfl rfl dX7_init_6 g2 ?_
  refine j_aload_n (i := 0) rfl rfl dX7_init_9 ?_
  refine j_iload_n (i := 2) rfl rfl dX7_init_10 ?_
  replace hr := m_bind hr; obtain ⟨h3, g4, hr⟩ := hr
  refine j_puti (C := RX7) (T := TX7) (ty := tyX7) (N := 11) (ci := 6) (k := 3) rfl (by decide) inX7 tyX7_ok nmX7 tw_1_194 rfl rfl dX7_init_11 g4 ?_
  refine j_aload_n (i := 0) rfl rfl dX7_init_14 ?_
  refine j_iload_n (i := 3) rfl rfl dX7_init_15 ?_
  replace hr := m_bind hr; obtain ⟨h5, g6, hr⟩ := hr
  refine j_putiF (C := RX7) (T := TX7) (ty := tyX7) (N := 11) (ci := 6) (k := 1) rfl (by decide) inX7 tyX7_ok nmX7 tw_1_186 rfl rfl rfl rfl dX7_init_16 g6 ?_
  refine j_aload_n (i := 0) rfl rfl dX7_init_19 ?_
  refine j_iload (i := 4) rfl dX7_init_20 ?_
  replace hr := m_bind hr; obtain ⟨h7, g8, hr⟩ := hr
  refine j_putiF (C := RX7) (T := TX7) (ty := tyX7) (N := 11) (ci := 6) (k := 2) rfl (by decide) inX7 tyX7_ok nmX7 tw_1_191 rfl rfl rfl rfl dX7_init_22 g8 ?_
  refine j_aload_n (i := 0) rfl rfl dX7_init_25 ?_
  refine j_null dX7_init_26 ?_
  replace hr := m_bind hr; obtain ⟨h9, g10, hr⟩ := hr
  refine j_putr (q := none) (C := RX7) (T := TX7) (ty := tyX7) (N := 11) (ci := 6) (k := 4) rfl (by decide) inX7 tyX7_ok nmX7 tw_1_198 rfl rfl dX7_init_27 g10 ?_
  refine j_aload_n (i := 0) rfl rfl dX7_init_30 ?_
  refine j_iconst (v := (-1)) rfl dX7_init_31 ?_
  replace hr := m_bind hr; obtain ⟨h11, g12, hr⟩ := hr
  refine j_puti (C := RX7) (T := TX7) (ty := tyX7) (N := 11) (ci := 6) (k := 5) rfl (by decide) inX7 tyX7_ok nmX7 tw_1_201 rfl rfl dX7_init_32 g12 ?_
  refine j_aload_n (i := 0) rfl rfl dX7_init_35 ?_
  refine j_null dX7_init_36 ?_
  replace hr := m_bind hr; obtain ⟨h13, g14, hr⟩ := hr
  refine j_putr (q := none) (C := RX7) (T := TX7) (ty := tyX7) (N := 11) (ci := 6) (k := 6) rfl (by decide) inX7 tyX7_ok nmX7 tw_1_203 rfl rfl dX7_init_37 g14 ?_
  refine j_aload_n (i := 0) rfl rfl dX7_init_40 ?_
  refine j_iconst (v := (-1)) rfl dX7_init_41 ?_
  replace hr := m_bind hr; obtain ⟨h15, g16, hr⟩ := hr
  refine j_puti (C := RX7) (T := TX7) (ty := tyX7) (N := 11) (ci := 6) (k := 7) rfl (by decide) inX7 tyX7_ok nmX7 tw_1_205 rfl rfl dX7_init_42 g16 ?_
  refine j_aload_n (i := 0) rfl rfl dX7_init_45 ?_
  refine j_iconst (v := (-1)) rfl dX7_init_46 ?_
  replace hr := m_bind hr; obtain ⟨h17, g18, hr⟩ := hr
  refine j_puti (C := RX7) (T := TX7) (ty := tyX7) (N := 11) (ci := 6) (k := 8) rfl (by decide) inX7 tyX7_ok nmX7 tw_1_208 rfl rfl dX7_init_47 g18 ?_
  refine j_aload_n (i := 0) rfl rfl dX7_init_50 ?_
  refine j_iconst (v := (-1)) rfl dX7_init_51 ?_
  replace hr := m_bind hr; obtain ⟨h19, g20, hr⟩ := hr
  refine j_puti (C := RX7) (T := TX7) (ty := tyX7) (N := 11) (ci := 6) (k := 9) rfl (by decide) inX7 tyX7_ok nmX7 tw_1_210 rfl rfl dX7_init_52 g20 ?_
  refine j_aload_n (i := 0) rfl rfl dX7_init_55 ?_
  refine j_iconst (v := (-1)) rfl dX7_init_56 ?_
  replace hr := m_bind hr; obtain ⟨h21, g22, hr⟩ := hr
  refine j_puti (C := RX7) (T := TX7) (ty := tyX7) (N := 11) (ci := 6) (k := 10) rfl (by decide) inX7 tyX7_ok nmX7 tw_1_212 rfl rfl dX7_init_57 g22 ?_
  cases hr
  exact j_ret dX7_init_60 m_rk_v
def f_X7_isLent (h : mH) (a0 : Nat) : Option (Int32) :=
  (m_gi h a0 6 7).bind fun x1 =>
  if x1 = ((-1)) then
    some 0
  else
    some 1
def Y_X7_isLent : mY := (yX7_isLent, cX7_isLent, 1, some (FieldType.boolean), .ireturn)
theorem ok_X7_isLent : m_Ok Y_X7_isLent := ⟨by decide +kernel, ⟨by decide +kernel, by decide +kernel⟩, tw_2_50, tw_1_9, by decide, Or.inr (Or.inl ⟨Or.inr rfl, rfl⟩)⟩
theorem nn_X7_isLent : (parseMethodDescriptor Y_X7_isLent.1.desc).map (fun q => q.parameters.length) = some 0 := by decide +kernel
set_option maxHeartbeats 4000000 in
set_option maxRecDepth 20000 in
theorem j_X7_isLent {X : mX} {d : Nat} {h : mH} {a0 : Nat} {rv : Int32} (hr : f_X7_isLent h a0 = some rv) : m_J X Y_X7_isLent d 0 [some (.ref a0)] [] h (some (.int rv), h) := by
  unfold f_X7_isLent at hr
  refine j_aload_n (i := 0) rfl rfl dX7_isLent_0 ?_
  replace hr := m_bind hr; obtain ⟨x1, g2, hr⟩ := hr
  refine j_getf (C := RX7) (T := TX7) (N := 11) (ci := 6) (k := 7) rfl (by decide) inX7 tw_1_205 dX7_isLent_1 (m_gi_spec g2) ?_
  refine j_iconst (v := (-1)) rfl dX7_isLent_4 ?_
  refine j_ic_eq (tgt := 12) dX7_isLent_5 rfl (fun c3 => ?_) (fun c3 => ?_)
  · rw [if_pos c3] at hr
    refine j_iconst (v := 0) rfl dX7_isLent_12 ?_
    cases hr
    exact j_ret dX7_isLent_13 m_rk_z0
  · rw [if_neg c3] at hr
    refine j_iconst (v := 1) rfl dX7_isLent_8 ?_
    refine j_goto (tgt := 13) dX7_isLent_9 rfl ?_
    cases hr
    exact j_ret dX7_isLent_13 m_rk_z1
