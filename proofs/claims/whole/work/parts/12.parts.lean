def f_X2_init (h : mH) (a0 : Nat) : Option (mH) :=
  (m_newr h 6 40).bind fun h1 =>
  (m_pf h1 a0 1 0 (va_rf ((some h.1)))).bind fun h3 =>
  (m_pf h3 a0 1 1 (.int 0)).bind fun h5 =>
  (m_pf h5 a0 1 2 (.int 0)).bind fun h7 =>
  some h7
def Y_X2_init : mY := (yX2_init, cX2_init, 1, none, .return_)
theorem ok_X2_init : m_Ok Y_X2_init := ⟨by decide +kernel, ⟨by decide +kernel, by decide +kernel⟩, tw_1_75, tw_1_4, by decide, Or.inl ⟨rfl, rfl⟩⟩
theorem nn_X2_init : (parseMethodDescriptor Y_X2_init.1.desc).map (fun q => q.parameters.length) = some 0 := by decide +kernel
set_option maxHeartbeats 4000000 in
set_option maxRecDepth 20000 in
theorem j_X2_init {X : mX} {d : Nat} {h : mH} {a0 : Nat} {h' : mH} (hd : 1 ≤ d) (hr : f_X2_init h a0 = some h') : m_J X Y_X2_init d 0 [some (.ref a0)] [] h (none, h') := by
  obtain ⟨d, rfl⟩ : ∃ k, d = k + 1 := ⟨d - 1, by omega⟩
  unfold f_X2_init at hr
  refine j_aload_n (i := 0) rfl rfl dX2_init_0 ?_
  refine j_objInit tw_1_76 (Nat.le_of_ble_eq_true rfl) dX2_init_1 ?_
  refine j_aload_n (i := 0) rfl rfl dX2_init_4 ?_
  refine j_bipush (v := 40) rfl dX2_init_5 ?_
  replace hr := m_bind hr; obtain ⟨h1, g2, hr⟩ := hr
  refine j_newr (t := 6) (by decide) tw_1_77 dX2_init_7 g2 ?_
  replace hr := m_bind hr; obtain ⟨h3, g4, hr⟩ := hr
  refine j_putrF (q := (some h.1)) (C := RX2) (T := TX2) (ty := tyX2) (N := 3) (ci := 1) (k := 0) rfl (by decide) inX2 tyX2_ok nmX2 tw_1_79 rfl rfl rfl rfl dX2_init_10 g4 ?_
  refine j_aload_n (i := 0) rfl rfl dX2_init_13 ?_
  refine j_iconst (v := 0) rfl dX2_init_14 ?_
  replace hr := m_bind hr; obtain ⟨h5, g6, hr⟩ := hr
  refine j_puti (C := RX2) (T := TX2) (ty := tyX2) (N := 3) (ci := 1) (k := 1) rfl (by decide) inX2 tyX2_ok nmX2 tw_1_80 rfl rfl dX2_init_15 g6 ?_
  refine j_aload_n (i := 0) rfl rfl dX2_init_18 ?_
  refine j_iconst (v := 0) rfl dX2_init_19 ?_
  replace hr := m_bind hr; obtain ⟨h7, g8, hr⟩ := hr
  refine j_puti (C := RX2) (T := TX2) (ty := tyX2) (N := 3) (ci := 1) (k := 2) rfl (by decide) inX2 tyX2_ok nmX2 tw_1_81 rfl rfl dX2_init_20 g8 ?_
  cases hr
  exact j_ret dX2_init_23 m_rk_v
def f_X2_isFull (h : mH) (a0 : Nat) : Option (Int32) :=
  (m_gi h a0 1 1).bind fun x1 =>
  if x1 < 40 then
    some 0
  else
    some 1
def Y_X2_isFull : mY := (yX2_isFull, cX2_isFull, 1, some (FieldType.boolean), .ireturn)
theorem ok_X2_isFull : m_Ok Y_X2_isFull := ⟨by decide +kernel, ⟨by decide +kernel, by decide +kernel⟩, tw_3_46, tw_1_4, by decide, Or.inr (Or.inl ⟨Or.inr rfl, rfl⟩)⟩
theorem nn_X2_isFull : (parseMethodDescriptor Y_X2_isFull.1.desc).map (fun q => q.parameters.length) = some 0 := by decide +kernel
set_option maxHeartbeats 4000000 in
set_option maxRecDepth 20000 in
theorem j_X2_isFull {X : mX} {d : Nat} {h : mH} {a0 : Nat} {rv : Int32} (hr : f_X2_isFull h a0 = some rv) : m_J X Y_X2_isFull d 0 [some (.ref a0)] [] h (some (.int rv), h) := by
  unfold f_X2_isFull at hr
  refine j_aload_n (i := 0) rfl rfl dX2_isFull_0 ?_
  replace hr := m_bind hr; obtain ⟨x1, g2, hr⟩ := hr
  refine j_getf (C := RX2) (T := TX2) (N := 3) (ci := 1) (k := 1) rfl (by decide) inX2 tw_1_80 dX2_isFull_1 (m_gi_spec g2) ?_
  refine j_bipush (v := 40) rfl dX2_isFull_4 ?_
  refine j_ic_lt (tgt := 13) dX2_isFull_6 rfl (fun c3 => ?_) (fun c3 => ?_)
  · rw [if_pos c3] at hr
    refine j_iconst (v := 0) rfl dX2_isFull_13 ?_
    cases hr
    exact j_ret dX2_isFull_14 m_rk_z0
  · rw [if_neg c3] at hr
    refine j_iconst (v := 1) rfl dX2_isFull_9 ?_
    refine j_goto (tgt := 14) dX2_isFull_10 rfl ?_
    cases hr
    exact j_ret dX2_isFull_14 m_rk_z1
def f_X2_mayTell (h : mH) (a0 : Nat) (a1 : Int32) : Option (Int32) :=
  if a1 = ((-1)) then
    some 1
  else
    (f_X1_isKindOrTrait a1).bind fun r3 =>
    if r3 = 0 then
      (m_gi h a0 1 1).bind fun x5 =>
      if a1 ≤ (200 + x5) then
        some 0
      else
        if 240 ≤ a1 then
          some 0
        else
          some 1
    else
      some 1
def Y_X2_mayTell : mY := (yX2_mayTell, cX2_mayTell, 2, some (FieldType.boolean), .ireturn)
theorem ok_X2_mayTell : m_Ok Y_X2_mayTell := ⟨by decide +kernel, ⟨by decide +kernel, by decide +kernel⟩, tw_3_55, tw_1_4, by decide, Or.inr (Or.inl ⟨Or.inr rfl, rfl⟩)⟩
theorem nn_X2_mayTell : (parseMethodDescriptor Y_X2_mayTell.1.desc).map (fun q => q.parameters.length) = some 1 := by decide +kernel
set_option maxHeartbeats 4000000 in
set_option maxRecDepth 20000 in
theorem j_X2_mayTell {X : mX} {d : Nat} {h : mH} {a0 : Nat} {a1 : Int32} {rv : Int32} (hd : 2 ≤ d) (hr : f_X2_mayTell h a0 a1 = some rv) : m_J X Y_X2_mayTell d 0 [some (.ref a0), some (.int a1)] [] h (some (.int rv), h) := by
  obtain ⟨d, rfl⟩ : ∃ k, d = k + 1 := ⟨d - 1, by omega⟩
  unfold f_X2_mayTell at hr
  refine j_iload_n (i := 1) rfl rfl dX2_mayTell_0 ?_
  refine j_iconst (v := (-1)) rfl dX2_mayTell_1 ?_
  refine j_ic_eq (tgt := 31) dX2_mayTell_2 rfl (fun c1 => ?_) (fun c1 => ?_)
  · rw [if_pos c1] at hr
    refine j_iconst (v := 1) rfl dX2_mayTell_31 ?_
    refine j_goto (tgt := 36) dX2_mayTell_32 rfl ?_
    cases hr
    exact j_ret dX2_mayTell_36 m_rk_z1
  · rw [if_neg c1] at hr
    refine j_iload_n (i := 1) rfl rfl dX2_mayTell_5 ?_
    replace hr := m_bind hr; obtain ⟨r3, g2, hr⟩ := hr
    refine j_callS (Y' := Y_X1_isKindOrTrait) (as := [.int a1]) ok_X1_isKindOrTrait [some (.int a1)] rfl rfl tw_3_56 tw_2_55 nn_X1_isKindOrTrait (Nat.le_of_ble_eq_true rfl) dX2_mayTell_6 (j_X1_isKindOrTrait (by omega) g2) ?_
    refine j_if_ne (tgt := 31) dX2_mayTell_9 rfl (fun c4 => ?_) (fun c4 => ?_)
    · rw [if_neg c4] at hr
      refine j_iconst (v := 1) rfl dX2_mayTell_31 ?_
      refine j_goto (tgt := 36) dX2_mayTell_32 rfl ?_
      cases hr
      exact j_ret dX2_mayTell_36 m_rk_z1
    · rw [if_pos c4] at hr
      refine j_iload_n (i := 1) rfl rfl dX2_mayTell_12 ?_
      refine j_sipush (v := 200) rfl dX2_mayTell_13 ?_
      refine j_aload_n (i := 0) rfl rfl dX2_mayTell_16 ?_
      replace hr := m_bind hr; obtain ⟨x5, g6, hr⟩ := hr
      refine j_getf (C := RX2) (T := TX2) (N := 3) (ci := 1) (k := 1) rfl (by decide) inX2 tw_1_80 dX2_mayTell_17 (m_gi_spec g6) ?_
      refine j_iadd dX2_mayTell_20 ?_
      refine j_ic_le (tgt := 35) dX2_mayTell_21 rfl (fun c7 => ?_) (fun c7 => ?_)
      · rw [if_pos c7] at hr
        refine j_iconst (v := 0) rfl dX2_mayTell_35 ?_
        cases hr
        exact j_ret dX2_mayTell_36 m_rk_z0
      · rw [if_neg c7] at hr
        refine j_iload_n (i := 1) rfl rfl dX2_mayTell_24 ?_
        refine j_sipush (v := 240) rfl dX2_mayTell_25 ?_
        refine j_ic_ge (tgt := 35) dX2_mayTell_28 rfl (fun c8 => ?_) (fun c8 => ?_)
        · rw [if_pos c8] at hr
          refine j_iconst (v := 0) rfl dX2_mayTell_35 ?_
          cases hr
          exact j_ret dX2_mayTell_36 m_rk_z0
        · rw [if_neg c8] at hr
          refine j_iconst (v := 1) rfl dX2_mayTell_31 ?_
          refine j_goto (tgt := 36) dX2_mayTell_32 rfl ?_
          cases hr
          exact j_ret dX2_mayTell_36 m_rk_z1
def f_X2_add (h : mH) (a0 : Nat) (a1 : Option Nat) : Option (Int32 × mH) :=
  if m_ob h a0 1 = true then
    (f_X2_isFull h a0).bind fun r2 =>
    if r2 = 0 then
      (m_gr h a0 1 0).bind fun q4 =>
      (m_gi h a0 1 1).bind fun x6 =>
      (q4).bind fun b8 =>
      (m_ast h b8 x6 a1).bind fun h10 =>
      (m_gi h10 a0 1 1).bind fun x12 =>
      (m_pf h10 a0 1 1 (.int (x12 + 1))).bind fun h14 =>
      (m_gi h14 a0 1 1).bind fun x16 =>
      some ((x16, h14))
    else
      some (((-1), h))
  else none
def Y_X2_add : mY := (yX2_add, cX2_add, 2, some (FieldType.int), .ireturn)
theorem ok_X2_add : m_Ok Y_X2_add := ⟨by decide +kernel, ⟨by decide +kernel, by decide +kernel⟩, tw_3_79, tw_1_4, by decide, Or.inr (Or.inl ⟨Or.inl rfl, rfl⟩)⟩
theorem nn_X2_add : (parseMethodDescriptor Y_X2_add.1.desc).map (fun q => q.parameters.length) = some 1 := by decide +kernel
set_option maxHeartbeats 4000000 in
set_option maxRecDepth 20000 in
theorem j_X2_add {X : mX} {d : Nat} {h : mH} {a0 : Nat} {a1 : Option Nat} {rv : Int32} {h' : mH} (hd : 1 ≤ d) (hr : f_X2_add h a0 a1 = some (rv, h')) : m_J X Y_X2_add d 0 [some (.ref a0), some (va_rf a1)] [] h (some (.int rv), h') := by
  obtain ⟨d, rfl⟩ : ∃ k, d = k + 1 := ⟨d - 1, by omega⟩
  unfold f_X2_add at hr
  refine j_aload_n (i := 0) rfl rfl dX2_add_0 ?_
  by_cases o18 : m_ob h a0 1 = true
  · rw [if_pos o18] at hr
    replace hr := m_bind hr; obtain ⟨r2, g1, hr⟩ := hr
    refine j_callV (Y' := Y_X2_isFull) (a := a0) (as := []) (ci := 1) (T := TX2) (N := 3) ok_X2_isFull [some (.ref a0)] rfl rfl rfl tw_3_80 tw_3_44 tw_3_45 nn_X2_isFull (Nat.le_of_ble_eq_true rfl) dX2_add_1 o18 (j_X2_isFull g1) ?_
    refine j_if_eq (tgt := 9) dX2_add_4 rfl (fun c3 => ?_) (fun c3 => ?_)
    · rw [if_pos c3] at hr
      refine j_aload_n (i := 0) rfl rfl dX2_add_9 ?_
      replace hr := m_bind hr; obtain ⟨q4, g5, hr⟩ := hr
      refine j_getf (C := RX2) (T := TX2) (N := 3) (ci := 1) (k := 0) rfl (by decide) inX2 tw_1_79 dX2_add_10 (m_gr_spec g5) ?_
      refine j_aload_n (i := 0) rfl rfl dX2_add_13 ?_
      replace hr := m_bind hr; obtain ⟨x6, g7, hr⟩ := hr
      refine j_getf (C := RX2) (T := TX2) (N := 3) (ci := 1) (k := 1) rfl (by decide) inX2 tw_1_80 dX2_add_14 (m_gi_spec g7) ?_
      refine j_aloadq_n (q := a1) (i := 1) rfl rfl dX2_add_17 ?_
      replace hr := m_bind hr; obtain ⟨b8, g9, hr⟩ := hr
      subst g9
      replace hr := m_bind hr; obtain ⟨h10, g11, hr⟩ := hr
      refine j_aastore (q := a1) dX2_add_18 g11 ?_
      refine j_aload_n (i := 0) rfl rfl dX2_add_19 ?_
      refine j_dup rfl dX2_add_20 ?_
      replace hr := m_bind hr; obtain ⟨x12, g13, hr⟩ := hr
      refine j_getf (C := RX2) (T := TX2) (N := 3) (ci := 1) (k := 1) rfl (by decide) inX2 tw_1_80 dX2_add_21 (m_gi_spec g13) ?_
      refine j_iconst (v := 1) rfl dX2_add_24 ?_
      refine j_iadd dX2_add_25 ?_
      replace hr := m_bind hr; obtain ⟨h14, g15, hr⟩ := hr
      refine j_puti (C := RX2) (T := TX2) (ty := tyX2) (N := 3) (ci := 1) (k := 1) rfl (by decide) inX2 tyX2_ok nmX2 tw_1_80 rfl rfl dX2_add_26 g15 ?_
      refine j_aload_n (i := 0) rfl rfl dX2_add_29 ?_
      replace hr := m_bind hr; obtain ⟨x16, g17, hr⟩ := hr
      refine j_getf (C := RX2) (T := TX2) (N := 3) (ci := 1) (k := 1) rfl (by decide) inX2 tw_1_80 dX2_add_30 (m_gi_spec g17) ?_
      cases hr
      exact j_ret dX2_add_33 m_rk_i
    · rw [if_neg c3] at hr
      refine j_iconst (v := (-1)) rfl dX2_add_7 ?_
      cases hr
      exact j_ret dX2_add_8 m_rk_i
  · rw [if_neg o18] at hr
    cases hr
def f_X2_questionAt (h : mH) (a0 : Nat) (a1 : Int32) : Option (Option Nat) :=
  if a1 < 0 then
    some none
  else
    (m_gi h a0 1 1).bind fun x2 =>
    if x2 ≤ a1 then
      some none
    else
      if 40 ≤ a1 then
        some none
      else
        (m_gr h a0 1 0).bind fun q6 =>
        (q6).bind fun b8 =>
        (m_ald h b8 a1).bind fun q10 =>
        some q10
def Y_X2_questionAt : mY := (yX2_questionAt, cX2_questionAt, 2, some ((FieldType.object "SpecimenHall$Question")), .areturn)
theorem ok_X2_questionAt : m_Ok Y_X2_questionAt := ⟨by decide +kernel, ⟨by decide +kernel, by decide +kernel⟩, tw_3_92, tw_1_4, by decide, Or.inr (Or.inr (Or.inr ⟨⟨_, rfl⟩, rfl⟩))⟩
theorem nn_X2_questionAt : (parseMethodDescriptor Y_X2_questionAt.1.desc).map (fun q => q.parameters.length) = some 1 := by decide +kernel
set_option maxHeartbeats 4000000 in
set_option maxRecDepth 20000 in
theorem j_X2_questionAt {X : mX} {d : Nat} {h : mH} {a0 : Nat} {a1 : Int32} {rv : Option Nat} (hr : f_X2_questionAt h a0 a1 = some rv) : m_J X Y_X2_questionAt d 0 [some (.ref a0), some (.int a1)] [] h (some (va_rf rv), h) := by
  unfold f_X2_questionAt at hr
  refine j_iload_n (i := 1) rfl rfl dX2_questionAt_0 ?_
  refine j_if_lt (tgt := 27) dX2_questionAt_1 rfl (fun c1 => ?_) (fun c1 => ?_)
  · rw [if_pos c1] at hr
    refine j_null dX2_questionAt_27 ?_
    cases hr
    exact j_ret dX2_questionAt_28 (m_rk_r _)
  · rw [if_neg c1] at hr
    refine j_iload_n (i := 1) rfl rfl dX2_questionAt_4 ?_
    refine j_aload_n (i := 0) rfl rfl dX2_questionAt_5 ?_
    replace hr := m_bind hr; obtain ⟨x2, g3, hr⟩ := hr
    refine j_getf (C := RX2) (T := TX2) (N := 3) (ci := 1) (k := 1) rfl (by decide) inX2 tw_1_80 dX2_questionAt_6 (m_gi_spec g3) ?_
    refine j_ic_ge (tgt := 27) dX2_questionAt_9 rfl (fun c4 => ?_) (fun c4 => ?_)
    · rw [if_pos c4] at hr
      refine j_null dX2_questionAt_27 ?_
      cases hr
      exact j_ret dX2_questionAt_28 (m_rk_r _)
    · rw [if_neg c4] at hr
      refine j_iload_n (i := 1) rfl rfl dX2_questionAt_12 ?_
      refine j_bipush (v := 40) rfl dX2_questionAt_13 ?_
      refine j_ic_ge (tgt := 27) dX2_questionAt_15 rfl (fun c5 => ?_) (fun c5 => ?_)
      · rw [if_pos c5] at hr
        refine j_null dX2_questionAt_27 ?_
        cases hr
        exact j_ret dX2_questionAt_28 (m_rk_r _)
      · rw [if_neg c5] at hr
        refine j_aload_n (i := 0) rfl rfl dX2_questionAt_18 ?_
        replace hr := m_bind hr; obtain ⟨q6, g7, hr⟩ := hr
        refine j_getf (C := RX2) (T := TX2) (N := 3) (ci := 1) (k := 0) rfl (by decide) inX2 tw_1_79 dX2_questionAt_19 (m_gr_spec g7) ?_
        refine j_iload_n (i := 1) rfl rfl dX2_questionAt_22 ?_
        replace hr := m_bind hr; obtain ⟨b8, g9, hr⟩ := hr
        subst g9
        replace hr := m_bind hr; obtain ⟨q10, g11, hr⟩ := hr
        refine j_aaload dX2_questionAt_23 g11 ?_
        refine j_goto (tgt := 28) dX2_questionAt_24 rfl ?_
        cases hr
        exact j_ret dX2_questionAt_28 (m_rk_r _)
def f_X4_holdsFor (h : mH) (a0 : Nat) (a1 : Option Nat) : Option (Int32) :=
  (m_gi h a0 3 0).bind fun x1 =>
  if x1 = 60 then
    (a1).bind fun b24 =>
    (m_gi h b24 6 1).bind fun x26 =>
    (m_gi h a0 3 1).bind fun x28 =>
    if x26 < x28 then
      some 0
    else
      some 1
  else
    (m_gi h a0 3 0).bind fun x4 =>
    if x4 = 61 then
      (a1).bind fun b17 =>
      (m_gi h b17 6 2).bind fun x19 =>
      (m_gi h a0 3 1).bind fun x21 =>
      if x19 < x21 then
        some 0
      else
        some 1
    else
      (a1).bind fun b7 =>
      (m_gi h b7 6 3).bind fun x9 =>
      (m_gi h a0 3 0).bind fun x11 =>
      (f_X1_standsUnder x9 x11).bind fun r14 =>
      if r14 = 0 then some 0
      else if r14 = 1 then some 1 else none
def Y_X4_holdsFor : mY := (yX4_holdsFor, cX4_holdsFor, 2, some (FieldType.boolean), .ireturn)
theorem ok_X4_holdsFor : m_Ok Y_X4_holdsFor := ⟨by decide +kernel, ⟨by decide +kernel, by decide +kernel⟩, tw_3_100, tw_1_12, by decide, Or.inr (Or.inl ⟨Or.inr rfl, rfl⟩)⟩
theorem nn_X4_holdsFor : (parseMethodDescriptor Y_X4_holdsFor.1.desc).map (fun q => q.parameters.length) = some 1 := by decide +kernel
set_option maxHeartbeats 4000000 in
set_option maxRecDepth 20000 in
theorem j_X4_holdsFor {X : mX} {d : Nat} {h : mH} {a0 : Nat} {a1 : Option Nat} {rv : Int32} (hd : 3 ≤ d) (hr : f_X4_holdsFor h a0 a1 = some rv) : m_J X Y_X4_holdsFor d 0 [some (.ref a0), some (va_rf a1)] [] h (some (.int rv), h) := by
  obtain ⟨d, rfl⟩ : ∃ k, d = k + 1 := ⟨d - 1, by omega⟩
  unfold f_X4_holdsFor at hr
  refine j_aload_n (i := 0) rfl rfl dX4_holdsFor_0 ?_
  replace hr := m_bind hr; obtain ⟨x1, g2, hr⟩ := hr
  refine j_getf (C := RX4) (T := TX4) (N := 4) (ci := 3) (k := 0) rfl (by decide) inX4 tw_3_63 dX4_holdsFor_1 (m_gi_spec g2) ?_
  refine j_bipush (v := 60) rfl dX4_holdsFor_4 ?_
  refine j_ic_ne (tgt := 26) dX4_holdsFor_6 rfl (fun c3 => ?_) (fun c3 => ?_)
  · rw [if_neg c3] at hr
    refine j_aload_n (i := 0) rfl rfl dX4_holdsFor_26 ?_
    replace hr := m_bind hr; obtain ⟨x4, g5, hr⟩ := hr
    refine j_getf (C := RX4) (T := TX4) (N := 4) (ci := 3) (k := 0) rfl (by decide) inX4 tw_3_63 dX4_holdsFor_27 (m_gi_spec g5) ?_
    refine j_bipush (v := 61) rfl dX4_holdsFor_30 ?_
    refine j_ic_ne (tgt := 52) dX4_holdsFor_32 rfl (fun c6 => ?_) (fun c6 => ?_)
    · rw [if_neg c6] at hr
      refine j_aloadq_n (q := a1) (i := 1) rfl rfl dX4_holdsFor_52 ?_
      replace hr := m_bind hr; obtain ⟨b7, g8, hr⟩ := hr
      subst g8
      replace hr := m_bind hr; obtain ⟨x9, g10, hr⟩ := hr
      refine j_getf (C := RX7) (T := TX7) (N := 11) (ci := 6) (k := 3) rfl (by decide) inX7 tw_1_196 dX4_holdsFor_53 (m_gi_spec g10) ?_
      refine j_aload_n (i := 0) rfl rfl dX4_holdsFor_56 ?_
      replace hr := m_bind hr; obtain ⟨x11, g12, hr⟩ := hr
      refine j_getf (C := RX4) (T := TX4) (N := 4) (ci := 3) (k := 0) rfl (by decide) inX4 tw_3_63 dX4_holdsFor_57 (m_gi_spec g12) ?_
      replace hr := m_bind hr; obtain ⟨r14, g13, hr⟩ := hr
      refine j_callS (Y' := Y_X1_standsUnder) (as := [.int x9, .int x11]) ok_X1_standsUnder [some (.int x9), some (.int x11)] rfl rfl tw_3_101 tw_2_52 nn_X1_standsUnder (Nat.le_of_ble_eq_true rfl) dX4_holdsFor_60 (j_X1_standsUnder (by omega) g13) ?_
      by_cases c15 : r14 = 0
      · rw [if_pos c15] at hr
        rw [c15]
        cases hr
        exact j_ret dX4_holdsFor_63 m_rk_z0
      · rw [if_neg c15] at hr
        by_cases c16 : r14 = 1
        · rw [if_pos c16] at hr
          rw [c16]
          cases hr
          exact j_ret dX4_holdsFor_63 m_rk_z1
        · rw [if_neg c16] at hr
          cases hr
    · rw [if_pos c6] at hr
      refine j_aloadq_n (q := a1) (i := 1) rfl rfl dX4_holdsFor_35 ?_
      replace hr := m_bind hr; obtain ⟨b17, g18, hr⟩ := hr
      subst g18
      replace hr := m_bind hr; obtain ⟨x19, g20, hr⟩ := hr
      refine j_getf (C := RX7) (T := TX7) (N := 11) (ci := 6) (k := 2) rfl (by decide) inX7 tw_1_192 dX4_holdsFor_36 (m_gi_spec g20) ?_
      refine j_aload_n (i := 0) rfl rfl dX4_holdsFor_39 ?_
      replace hr := m_bind hr; obtain ⟨x21, g22, hr⟩ := hr
      refine j_getf (C := RX4) (T := TX4) (N := 4) (ci := 3) (k := 1) rfl (by decide) inX4 tw_3_64 dX4_holdsFor_40 (m_gi_spec g22) ?_
      refine j_ic_lt (tgt := 50) dX4_holdsFor_43 rfl (fun c23 => ?_) (fun c23 => ?_)
      · rw [if_pos c23] at hr
        refine j_iconst (v := 0) rfl dX4_holdsFor_50 ?_
        cases hr
        exact j_ret dX4_holdsFor_51 m_rk_z0
      · rw [if_neg c23] at hr
        refine j_iconst (v := 1) rfl dX4_holdsFor_46 ?_
        refine j_goto (tgt := 51) dX4_holdsFor_47 rfl ?_
        cases hr
        exact j_ret dX4_holdsFor_51 m_rk_z1
  · rw [if_pos c3] at hr
    refine j_aloadq_n (q := a1) (i := 1) rfl rfl dX4_holdsFor_9 ?_
    replace hr := m_bind hr; obtain ⟨b24, g25, hr⟩ := hr
    subst g25
    replace hr := m_bind hr; obtain ⟨x26, g27, hr⟩ := hr
    refine j_getf (C := RX7) (T := TX7) (N := 11) (ci := 6) (k := 1) rfl (by decide) inX7 tw_1_189 dX4_holdsFor_10 (m_gi_spec g27) ?_
    refine j_aload_n (i := 0) rfl rfl dX4_holdsFor_13 ?_
    replace hr := m_bind hr; obtain ⟨x28, g29, hr⟩ := hr
    refine j_getf (C := RX4) (T := TX4) (N := 4) (ci := 3) (k := 1) rfl (by decide) inX4 tw_3_64 dX4_holdsFor_14 (m_gi_spec g29) ?_
    refine j_ic_lt (tgt := 24) dX4_holdsFor_17 rfl (fun c30 => ?_) (fun c30 => ?_)
    · rw [if_pos c30] at hr
      refine j_iconst (v := 0) rfl dX4_holdsFor_24 ?_
      cases hr
      exact j_ret dX4_holdsFor_25 m_rk_z0
    · rw [if_neg c30] at hr
      refine j_iconst (v := 1) rfl dX4_holdsFor_20 ?_
      refine j_goto (tgt := 25) dX4_holdsFor_21 rfl ?_
      cases hr
      exact j_ret dX4_holdsFor_25 m_rk_z1
def f_X4_tell (h : mH) (a0 : Nat) (a1 : Option Nat) : Option (Int32) :=
  if m_ob h a0 3 = true then
    (f_X4_holdsFor h a0 a1).bind fun r2 =>
    if r2 = 0 then
      (m_gi h a0 3 3).bind fun x4 =>
      some x4
    else
      (m_gi h a0 3 2).bind fun x6 =>
      some x6
  else none
def Y_X4_tell : mY := (yX4_tell, cX4_tell, 2, some (FieldType.int), .ireturn)
theorem ok_X4_tell : m_Ok Y_X4_tell := ⟨by decide +kernel, ⟨by decide +kernel, by decide +kernel⟩, tw_3_96, tw_1_12, by decide, Or.inr (Or.inl ⟨Or.inl rfl, rfl⟩)⟩
theorem nn_X4_tell : (parseMethodDescriptor Y_X4_tell.1.desc).map (fun q => q.parameters.length) = some 1 := by decide +kernel
set_option maxHeartbeats 4000000 in
set_option maxRecDepth 20000 in
theorem j_X4_tell {X : mX} {d : Nat} {h : mH} {a0 : Nat} {a1 : Option Nat} {rv : Int32} (hd : 4 ≤ d) (hr : f_X4_tell h a0 a1 = some rv) : m_J X Y_X4_tell d 0 [some (.ref a0), some (va_rf a1)] [] h (some (.int rv), h) := by
  obtain ⟨d, rfl⟩ : ∃ k, d = k + 1 := ⟨d - 1, by omega⟩
  unfold f_X4_tell at hr
  refine j_aload_n (i := 0) rfl rfl dX4_tell_0 ?_
  refine j_aloadq_n (q := a1) (i := 1) rfl rfl dX4_tell_1 ?_
  by_cases o8 : m_ob h a0 3 = true
  · rw [if_pos o8] at hr
    replace hr := m_bind hr; obtain ⟨r2, g1, hr⟩ := hr
    refine j_callV (Y' := Y_X4_holdsFor) (a := a0) (as := [va_rf a1]) (ci := 3) (T := TX4) (N := 4) ok_X4_holdsFor [some (.ref a0), some (va_rf a1)] (by cases a1 <;> rfl) rfl rfl tw_3_97 tw_3_99 tw_p_9 nn_X4_holdsFor (Nat.le_of_ble_eq_true rfl) dX4_tell_2 o8 (j_X4_holdsFor (by omega) g1) ?_
    refine j_if_eq (tgt := 15) dX4_tell_5 rfl (fun c3 => ?_) (fun c3 => ?_)
    · rw [if_pos c3] at hr
      refine j_aload_n (i := 0) rfl rfl dX4_tell_15 ?_
      replace hr := m_bind hr; obtain ⟨x4, g5, hr⟩ := hr
      refine j_getf (C := RX4) (T := TX4) (N := 4) (ci := 3) (k := 3) rfl (by decide) inX4 tw_3_66 dX4_tell_16 (m_gi_spec g5) ?_
      cases hr
      exact j_ret dX4_tell_19 m_rk_i
    · rw [if_neg c3] at hr
      refine j_aload_n (i := 0) rfl rfl dX4_tell_8 ?_
      replace hr := m_bind hr; obtain ⟨x6, g7, hr⟩ := hr
      refine j_getf (C := RX4) (T := TX4) (N := 4) (ci := 3) (k := 2) rfl (by decide) inX4 tw_3_65 dX4_tell_9 (m_gi_spec g7) ?_
      refine j_goto (tgt := 19) dX4_tell_12 rfl ?_
      cases hr
      exact j_ret dX4_tell_19 m_rk_i
  · rw [if_neg o8] at hr
    cases hr
def w_X2_nameOf_11 (a0 : Nat) (a1 : Option Nat) : (Int32 × Int32 × mH) → Option ((Int32 × Int32 × mH) ⊕ ((Int32 × mH) ⊕ (Int32 × mH))) := fun s_3 =>
  if 40 ≤ s_3.2.1 then
    some (.inr (.inl (s_3.1, s_3.2.2)))
  else
    if s_3.1 < 200 then
      some (.inr (.inl (s_3.1, s_3.2.2)))
    else
      if m_ob s_3.2.2 a0 1 = true then
        (f_X2_questionAt s_3.2.2 a0 (s_3.1 - 200)).bind fun r7 =>
        match r7 with
        | none =>
          some (.inr (.inr (((-1), s_3.2.2))))
        | some b8 =>
          (m_gi s_3.2.2 a0 1 2).bind fun x9 =>
          (m_pf s_3.2.2 a0 1 2 (.int (x9 + 1))).bind fun h11 =>
          if m_ob h11 b8 3 = true then
            (f_X4_tell h11 b8 a1).bind fun r14 =>
            some (.inl (r14, s_3.2.1 + 1, h11))
          else none
      else none
def f_X2_nameOf (h : mH) (a0 : Nat) (a1 : Option Nat) : Option (Int32 × mH) :=
  (m_pf h a0 1 2 (.int 0)).bind fun h1 =>
  (m_loop (w_X2_nameOf_11 a0 a1) 5000 ((200, 0, h1))).bind fun e17 => match e17 with
  | .inl x18 =>
    some ((x18.1, x18.2))
  | .inr v20 => some v20
def Y_X2_nameOf : mY := (yX2_nameOf, cX2_nameOf, 5, some (FieldType.int), .ireturn)
theorem ok_X2_nameOf : m_Ok Y_X2_nameOf := ⟨by decide +kernel, ⟨by decide +kernel, by decide +kernel⟩, tw_3_88, tw_1_4, by decide, Or.inr (Or.inl ⟨Or.inl rfl, rfl⟩)⟩
theorem nn_X2_nameOf : (parseMethodDescriptor Y_X2_nameOf.1.desc).map (fun q => q.parameters.length) = some 1 := by decide +kernel
set_option maxHeartbeats 4000000 in
set_option maxRecDepth 20000 in
theorem j_X2_nameOf {X : mX} {d : Nat} {h : mH} {a0 : Nat} {a1 : Option Nat} {rv : Int32} {h' : mH} (hd : 5 ≤ d) (hr : f_X2_nameOf h a0 a1 = some (rv, h')) : m_J X Y_X2_nameOf d 0 [some (.ref a0), some (va_rf a1), none, none, none] [] h (some (.int rv), h') := by
  obtain ⟨d, rfl⟩ : ∃ k, d = k + 1 := ⟨d - 1, by omega⟩
  unfold f_X2_nameOf at hr
  refine j_aload_n (i := 0) rfl rfl dX2_nameOf_0 ?_
  refine j_iconst (v := 0) rfl dX2_nameOf_1 ?_
  replace hr := m_bind hr; obtain ⟨h1, g2, hr⟩ := hr
  refine j_puti (C := RX2) (T := TX2) (ty := tyX2) (N := 3) (ci := 1) (k := 2) rfl (by decide) inX2 tyX2_ok nmX2 tw_1_81 rfl rfl dX2_nameOf_2 g2 ?_
  refine j_sipush (v := 200) rfl dX2_nameOf_5 ?_
  refine j_istore_n (i := 2) (L' := [some (.ref a0), some (va_rf a1), some (.int 200), none, none]) rfl (Nat.le_of_ble_eq_true rfl) (m_nwq a1) rfl dX2_nameOf_8 ?_
  refine j_iconst (v := 0) rfl dX2_nameOf_9 ?_
  refine j_istore_n (i := 3) (L' := [some (.ref a0), some (va_rf a1), some (.int 200), some (.int 0), none]) rfl (Nat.le_of_ble_eq_true rfl) rfl rfl dX2_nameOf_10 ?_
  replace hr := m_bind hr; obtain ⟨e17, q21, hr⟩ := hr
  refine j_weak (L' := [some (.ref a0), some (va_rf a1), some (.int 200), some (.int 0), none]) (And.intro rfl (And.intro rfl (And.intro rfl (And.intro rfl trivial)))) ?_
  refine m_loop_sound (step := w_X2_nameOf_11 a0 a1) (P := fun s_3 => m_J X Y_X2_nameOf (d + 1) 11 [some (.ref a0), some (va_rf a1), some (.int s_3.1), some (.int s_3.2.1), none] [] s_3.2.2 (some (.int rv), h')) (Qe := fun e17 => match e17 with | .inl x18 => m_J X Y_X2_nameOf (d + 1) 65 [none, none, some (.int x18.1), none, none] [] x18.2 (some (.int rv), h') | .inr v20 => ((some (.int rv), h') : mR) = (some (.int v20.1), v20.2)) ?_ _ _ _ q21 ?_
  · intro s_3 o hr hk
    unfold w_X2_nameOf_11 at hr
    refine j_iload_n (i := 3) rfl rfl dX2_nameOf_11 ?_
    refine j_bipush (v := 40) rfl dX2_nameOf_12 ?_
    refine j_ic_ge (tgt := 65) dX2_nameOf_14 rfl (fun c4 => ?_) (fun c4 => ?_)
    · rw [if_pos c4] at hr
      cases hr
      exact j_weak (L' := [none, none, some (.int s_3.1), none, none]) (And.intro rfl trivial) hk
    · rw [if_neg c4] at hr
      refine j_iload_n (i := 2) rfl rfl dX2_nameOf_17 ?_
      refine j_sipush (v := 200) rfl dX2_nameOf_18 ?_
      refine j_ic_lt (tgt := 65) dX2_nameOf_21 rfl (fun c5 => ?_) (fun c5 => ?_)
      · rw [if_pos c5] at hr
        cases hr
        exact j_weak (L' := [none, none, some (.int s_3.1), none, none]) (And.intro rfl trivial) hk
      · rw [if_neg c5] at hr
        refine j_aload_n (i := 0) rfl rfl dX2_nameOf_24 ?_
        refine j_iload_n (i := 2) rfl rfl dX2_nameOf_25 ?_
        refine j_sipush (v := 200) rfl dX2_nameOf_26 ?_
        refine j_isub dX2_nameOf_29 ?_
        by_cases o16 : m_ob s_3.2.2 a0 1 = true
        · rw [if_pos o16] at hr
          replace hr := m_bind hr; obtain ⟨r7, g6, hr⟩ := hr
          refine j_callV (Y' := Y_X2_questionAt) (a := a0) (as := [.int (s_3.1 - 200)]) (ci := 1) (T := TX2) (N := 3) ok_X2_questionAt [some (.ref a0), some (.int (s_3.1 - 200))] rfl rfl rfl tw_3_89 tw_3_91 tw_p_8 nn_X2_questionAt (Nat.le_of_ble_eq_true rfl) dX2_nameOf_30 o16 (j_X2_questionAt g6) ?_
          refine j_astoreq (q := r7) (i := 4) (L' := [some (.ref a0), some (va_rf a1), some (.int s_3.1), some (.int s_3.2.1), some (va_rf r7)]) (Nat.le_of_ble_eq_true rfl) rfl rfl dX2_nameOf_33 ?_
          refine j_aloadq (q := r7) (i := 4) rfl dX2_nameOf_35 ?_
          cases r7 with
          | none =>
            dsimp only at hr
            refine j_ifnonnull_n dX2_nameOf_37 ?_
            refine j_iconst (v := (-1)) rfl dX2_nameOf_40 ?_
            cases hr
            rw [show _ = _ from hk]
            exact j_ret dX2_nameOf_41 m_rk_i
          | some b8 =>
            dsimp only at hr
            refine j_ifnonnull_r (tgt := 42) dX2_nameOf_37 rfl ?_
            refine j_aload_n (i := 0) rfl rfl dX2_nameOf_42 ?_
            refine j_dup rfl dX2_nameOf_43 ?_
            replace hr := m_bind hr; obtain ⟨x9, g10, hr⟩ := hr
            refine j_getf (C := RX2) (T := TX2) (N := 3) (ci := 1) (k := 2) rfl (by decide) inX2 tw_1_81 dX2_nameOf_44 (m_gi_spec g10) ?_
            refine j_iconst (v := 1) rfl dX2_nameOf_47 ?_
            refine j_iadd dX2_nameOf_48 ?_
            replace hr := m_bind hr; obtain ⟨h11, g12, hr⟩ := hr
            refine j_puti (C := RX2) (T := TX2) (ty := tyX2) (N := 3) (ci := 1) (k := 2) rfl (by decide) inX2 tyX2_ok nmX2 tw_1_81 rfl rfl dX2_nameOf_49 g12 ?_
            refine j_aload (i := 4) rfl dX2_nameOf_52 ?_
            refine j_aloadq_n (q := a1) (i := 1) rfl rfl dX2_nameOf_54 ?_
            by_cases o15 : m_ob h11 b8 3 = true
            · rw [if_pos o15] at hr
              replace hr := m_bind hr; obtain ⟨r14, g13, hr⟩ := hr
              refine j_callV (Y' := Y_X4_tell) (a := b8) (as := [va_rf a1]) (ci := 3) (T := TX4) (N := 4) ok_X4_tell [some (.ref b8), some (va_rf a1)] (by cases a1 <;> rfl) rfl rfl tw_3_93 tw_3_94 tw_3_95 nn_X4_tell (Nat.le_of_ble_eq_true rfl) dX2_nameOf_55 o15 (j_X4_tell (by omega) g13) ?_
              refine j_istore_n (i := 2) (L' := [some (.ref a0), some (va_rf a1), some (.int r14), some (.int s_3.2.1), some (.ref b8)]) rfl (Nat.le_of_ble_eq_true rfl) (m_nwq a1) rfl dX2_nameOf_58 ?_
              refine j_iinc (i := 3) (v := s_3.2.1 + 1) (L' := [some (.ref a0), some (va_rf a1), some (.int r14), some (.int (s_3.2.1 + 1)), some (.ref b8)]) rfl (m_o1 _) (Nat.le_of_ble_eq_true rfl) rfl rfl dX2_nameOf_59 ?_
              refine j_goto (tgt := 11) dX2_nameOf_62 rfl ?_
              cases hr
              exact j_weak (L' := [some (.ref a0), some (va_rf a1), some (.int r14), some (.int (s_3.2.1 + 1)), none]) (And.intro rfl (And.intro rfl (And.intro rfl (And.intro rfl trivial)))) hk
            · rw [if_neg o15] at hr
              cases hr
        · rw [if_neg o16] at hr
          cases hr
  · cases e17 with
    | inl x18 =>
      dsimp only at hr
      dsimp only
      refine j_iload_n (i := 2) rfl rfl dX2_nameOf_65 ?_
      cases hr
      exact j_ret dX2_nameOf_66 m_rk_i
    | inr v20 =>
      dsimp only at hr
      cases hr
      rfl
def f_X3_init (h : mH) (a0 : Nat) : Option (mH) :=
  (m_newr h 2 240).bind fun h1 =>
  (m_pf h1 a0 2 0 (va_rf ((some h.1)))).bind fun h3 =>
  (m_newi h3 20).bind fun h5 =>
  (m_pf h5 a0 2 1 (va_rf ((some h3.1)))).bind fun h7 =>
  (m_newi h7 20).bind fun h9 =>
  (m_pf h9 a0 2 2 (va_rf ((some h7.1)))).bind fun h11 =>
  (m_pf h11 a0 2 3 (.int 0)).bind fun h13 =>
  (m_pf h13 a0 2 4 (.int 0)).bind fun h15 =>
  some h15
def Y_X3_init : mY := (yX3_init, cX3_init, 1, none, .return_)
theorem ok_X3_init : m_Ok Y_X3_init := ⟨by decide +kernel, ⟨by decide +kernel, by decide +kernel⟩, tw_1_109, tw_1_6, by decide, Or.inl ⟨rfl, rfl⟩⟩
theorem nn_X3_init : (parseMethodDescriptor Y_X3_init.1.desc).map (fun q => q.parameters.length) = some 0 := by decide +kernel
set_option maxHeartbeats 4000000 in
set_option maxRecDepth 20000 in
theorem j_X3_init {X : mX} {d : Nat} {h : mH} {a0 : Nat} {h' : mH} (hd : 1 ≤ d) (hr : f_X3_init h a0 = some h') : m_J X Y_X3_init d 0 [some (.ref a0)] [] h (none, h') := by
  obtain ⟨d, rfl⟩ : ∃ k, d = k + 1 := ⟨d - 1, by omega⟩
  unfold f_X3_init at hr
  refine j_aload_n (i := 0) rfl rfl dX3_init_0 ?_
  refine j_objInit tw_1_110 (Nat.le_of_ble_eq_true rfl) dX3_init_1 ?_
  refine j_aload_n (i := 0) rfl rfl dX3_init_4 ?_
  refine j_sipush (v := 240) rfl dX3_init_5 ?_
  replace hr := m_bind hr; obtain ⟨h1, g2, hr⟩ := hr
  refine j_newr (t := 2) (by decide) tw_1_111 dX3_init_8 g2 ?_
  replace hr := m_bind hr; obtain ⟨h3, g4, hr⟩ := hr
  refine j_putrF (q := (some h.1)) (C := RX3) (T := TX3) (ty := tyX3) (N := 5) (ci := 2) (k := 0) rfl (by decide) inX3 tyX3_ok nmX3 tw_1_112 rfl rfl rfl rfl dX3_init_11 g4 ?_
  refine j_aload_n (i := 0) rfl rfl dX3_init_14 ?_
  refine j_bipush (v := 20) rfl dX3_init_15 ?_
  replace hr := m_bind hr; obtain ⟨h5, g6, hr⟩ := hr
  refine j_newi dX3_init_17 g6 ?_
  replace hr := m_bind hr; obtain ⟨h7, g8, hr⟩ := hr
  refine j_putrF (q := (some h3.1)) (C := RX3) (T := TX3) (ty := tyX3) (N := 5) (ci := 2) (k := 1) rfl (by decide) inX3 tyX3_ok nmX3 tw_1_113 rfl rfl rfl rfl dX3_init_19 g8 ?_
  refine j_aload_n (i := 0) rfl rfl dX3_init_22 ?_
  refine j_bipush (v := 20) rfl dX3_init_23 ?_
  replace hr := m_bind hr; obtain ⟨h9, g10, hr⟩ := hr
  refine j_newi dX3_init_25 g10 ?_
  replace hr := m_bind hr; obtain ⟨h11, g12, hr⟩ := hr
  refine j_putrF (q := (some h7.1)) (C := RX3) (T := TX3) (ty := tyX3) (N := 5) (ci := 2) (k := 2) rfl (by decide) inX3 tyX3_ok nmX3 tw_1_114 rfl rfl rfl rfl dX3_init_27 g12 ?_
  refine j_aload_n (i := 0) rfl rfl dX3_init_30 ?_
  refine j_iconst (v := 0) rfl dX3_init_31 ?_
  replace hr := m_bind hr; obtain ⟨h13, g14, hr⟩ := hr
  refine j_puti (C := RX3) (T := TX3) (ty := tyX3) (N := 5) (ci := 2) (k := 3) rfl (by decide) inX3 tyX3_ok nmX3 tw_1_115 rfl rfl dX3_init_32 g14 ?_
  refine j_aload_n (i := 0) rfl rfl dX3_init_35 ?_
  refine j_iconst (v := 0) rfl dX3_init_36 ?_
  replace hr := m_bind hr; obtain ⟨h15, g16, hr⟩ := hr
  refine j_puti (C := RX3) (T := TX3) (ty := tyX3) (N := 5) (ci := 2) (k := 4) rfl (by decide) inX3 tyX3_ok nmX3 tw_1_117 rfl rfl dX3_init_37 g16 ?_
  cases hr
  exact j_ret dX3_init_40 m_rk_v
def f_X3_isDay (a0 : Int32) : Option (Int32) :=
  if a0 < 0 then
    some 0
  else
    if 100000 < a0 then
      some 0
    else
      some 1
def Y_X3_isDay : mY := (yX3_isDay, cX3_isDay, 1, some (FieldType.boolean), .ireturn)
theorem ok_X3_isDay : m_Ok Y_X3_isDay := ⟨by decide +kernel, ⟨by decide +kernel, by decide +kernel⟩, tw_2_190, tw_1_6, by decide, Or.inr (Or.inl ⟨Or.inr rfl, rfl⟩)⟩
theorem nn_X3_isDay : (parseMethodDescriptor Y_X3_isDay.1.desc).map (fun q => q.parameters.length) = some 1 := by decide +kernel
set_option maxHeartbeats 4000000 in
set_option maxRecDepth 20000 in
theorem j_X3_isDay {X : mX} {h : mH} {d : Nat} {a0 : Int32} {rv : Int32} (hr : f_X3_isDay a0 = some rv) : m_J X Y_X3_isDay d 0 [some (.int a0)] [] h (some (.int rv), h) := by
  unfold f_X3_isDay at hr
  refine j_iload_n (i := 0) rfl rfl dX3_isDay_0 ?_
  refine j_if_lt (tgt := 14) dX3_isDay_1 rfl (fun c1 => ?_) (fun c1 => ?_)
  · rw [if_pos c1] at hr
    refine j_iconst (v := 0) rfl dX3_isDay_14 ?_
    cases hr
    exact j_ret dX3_isDay_15 m_rk_z0
  · rw [if_neg c1] at hr
    refine j_iload_n (i := 0) rfl rfl dX3_isDay_4 ?_
    refine j_ldc (v := 100000) tw_2_191 dX3_isDay_5 ?_
    refine j_ic_gt (tgt := 14) dX3_isDay_7 rfl (fun c2 => ?_) (fun c2 => ?_)
    · rw [if_pos c2] at hr
      refine j_iconst (v := 0) rfl dX3_isDay_14 ?_
      cases hr
      exact j_ret dX3_isDay_15 m_rk_z0
    · rw [if_neg c2] at hr
      refine j_iconst (v := 1) rfl dX3_isDay_10 ?_
      refine j_goto (tgt := 15) dX3_isDay_11 rfl ?_
      cases hr
      exact j_ret dX3_isDay_15 m_rk_z1
def f_X3_isBorrower (a0 : Int32) : Option (Int32) :=
  if a0 < 0 then
    some 0
  else
    if 20 ≤ a0 then
      some 0
    else
      some 1
def Y_X3_isBorrower : mY := (yX3_isBorrower, cX3_isBorrower, 1, some (FieldType.boolean), .ireturn)
theorem ok_X3_isBorrower : m_Ok Y_X3_isBorrower := ⟨by decide +kernel, ⟨by decide +kernel, by decide +kernel⟩, tw_2_187, tw_1_6, by decide, Or.inr (Or.inl ⟨Or.inr rfl, rfl⟩)⟩
theorem nn_X3_isBorrower : (parseMethodDescriptor Y_X3_isBorrower.1.desc).map (fun q => q.parameters.length) = some 1 := by decide +kernel
set_option maxHeartbeats 4000000 in
set_option maxRecDepth 20000 in
theorem j_X3_isBorrower {X : mX} {h : mH} {d : Nat} {a0 : Int32} {rv : Int32} (hr : f_X3_isBorrower a0 = some rv) : m_J X Y_X3_isBorrower d 0 [some (.int a0)] [] h (some (.int rv), h) := by
  unfold f_X3_isBorrower at hr
  refine j_iload_n (i := 0) rfl rfl dX3_isBorrower_0 ?_
  refine j_if_lt (tgt := 14) dX3_isBorrower_1 rfl (fun c1 => ?_) (fun c1 => ?_)
  · rw [if_pos c1] at hr
    refine j_iconst (v := 0) rfl dX3_isBorrower_14 ?_
    cases hr
    exact j_ret dX3_isBorrower_15 m_rk_z0
  · rw [if_neg c1] at hr
    refine j_iload_n (i := 0) rfl rfl dX3_isBorrower_4 ?_
    refine j_bipush (v := 20) rfl dX3_isBorrower_5 ?_
    refine j_ic_ge (tgt := 14) dX3_isBorrower_7 rfl (fun c2 => ?_) (fun c2 => ?_)
    · rw [if_pos c2] at hr
      refine j_iconst (v := 0) rfl dX3_isBorrower_14 ?_
      cases hr
      exact j_ret dX3_isBorrower_15 m_rk_z0
    · rw [if_neg c2] at hr
      refine j_iconst (v := 1) rfl dX3_isBorrower_10 ?_
      refine j_goto (tgt := 15) dX3_isBorrower_11 rfl ?_
      cases hr
      exact j_ret dX3_isBorrower_15 m_rk_z1
def f_X3_hasLeaveFor (h : mH) (a0 : Nat) (a1 : Int32) (a2 : Int32) : Option (Int32) :=
  (f_X3_isBorrower a1).bind fun r2 =>
  if r2 = 0 then
    some 0
  else
    (m_gr h a0 2 1).bind fun q4 =>
    (q4).bind fun b6 =>
    (m_ild h b6 a1).bind fun x8 =>
    if 12 < (x8 + a2) then
      some 0
    else
      some 1
def Y_X3_hasLeaveFor : mY := (yX3_hasLeaveFor, cX3_hasLeaveFor, 3, some (FieldType.boolean), .ireturn)
theorem ok_X3_hasLeaveFor : m_Ok Y_X3_hasLeaveFor := ⟨by decide +kernel, ⟨by decide +kernel, by decide +kernel⟩, tw_2_203, tw_1_6, by decide, Or.inr (Or.inl ⟨Or.inr rfl, rfl⟩)⟩
theorem nn_X3_hasLeaveFor : (parseMethodDescriptor Y_X3_hasLeaveFor.1.desc).map (fun q => q.parameters.length) = some 2 := by decide +kernel
set_option maxHeartbeats 4000000 in
set_option maxRecDepth 20000 in
theorem j_X3_hasLeaveFor {X : mX} {d : Nat} {h : mH} {a0 : Nat} {a1 : Int32} {a2 : Int32} {rv : Int32} (hd : 1 ≤ d) (hr : f_X3_hasLeaveFor h a0 a1 a2 = some rv) : m_J X Y_X3_hasLeaveFor d 0 [some (.ref a0), some (.int a1), some (.int a2)] [] h (some (.int rv), h) := by
  obtain ⟨d, rfl⟩ : ∃ k, d = k + 1 := ⟨d - 1, by omega⟩
  unfold f_X3_hasLeaveFor at hr
  refine j_iload_n (i := 1) rfl rfl dX3_hasLeaveFor_0 ?_
  replace hr := m_bind hr; obtain ⟨r2, g1, hr⟩ := hr
  refine j_callS (Y' := Y_X3_isBorrower) (as := [.int a1]) ok_X3_isBorrower [some (.int a1)] rfl rfl tw_2_204 tw_2_186 nn_X3_isBorrower (Nat.le_of_ble_eq_true rfl) dX3_hasLeaveFor_1 (j_X3_isBorrower g1) ?_
  refine j_if_eq (tgt := 24) dX3_hasLeaveFor_4 rfl (fun c3 => ?_) (fun c3 => ?_)
  · rw [if_pos c3] at hr
    refine j_iconst (v := 0) rfl dX3_hasLeaveFor_24 ?_
    cases hr
    exact j_ret dX3_hasLeaveFor_25 m_rk_z0
  · rw [if_neg c3] at hr
    refine j_aload_n (i := 0) rfl rfl dX3_hasLeaveFor_7 ?_
    replace hr := m_bind hr; obtain ⟨q4, g5, hr⟩ := hr
    refine j_getf (C := RX3) (T := TX3) (N := 5) (ci := 2) (k := 1) rfl (by decide) inX3 tw_1_113 dX3_hasLeaveFor_8 (m_gr_spec g5) ?_
    refine j_iload_n (i := 1) rfl rfl dX3_hasLeaveFor_11 ?_
    replace hr := m_bind hr; obtain ⟨b6, g7, hr⟩ := hr
    subst g7
    replace hr := m_bind hr; obtain ⟨x8, g9, hr⟩ := hr
    refine j_iaload dX3_hasLeaveFor_12 g9 ?_
    refine j_iload_n (i := 2) rfl rfl dX3_hasLeaveFor_13 ?_
    refine j_iadd dX3_hasLeaveFor_14 ?_
    refine j_bipush (v := 12) rfl dX3_hasLeaveFor_15 ?_
    refine j_ic_gt (tgt := 24) dX3_hasLeaveFor_17 rfl (fun c10 => ?_) (fun c10 => ?_)
    · rw [if_pos c10] at hr
      refine j_iconst (v := 0) rfl dX3_hasLeaveFor_24 ?_
      cases hr
      exact j_ret dX3_hasLeaveFor_25 m_rk_z0
    · rw [if_neg c10] at hr
      refine j_iconst (v := 1) rfl dX3_hasLeaveFor_20 ?_
      refine j_goto (tgt := 25) dX3_hasLeaveFor_21 rfl ?_
      cases hr
      exact j_ret dX3_hasLeaveFor_25 m_rk_z1
def f_X3_comesBehind (h : mH) (a0 : Option Nat) (a1 : Option Nat) : Option (Int32) :=
  match a0 with
  | none =>
    some 0
  | some b1 =>
    if m_ob h b1 6 = true then
      (f_X7_lastDay h b1).bind fun r3 =>
      (a1).bind fun b4 =>
      if m_ob h b4 6 = true then
        (f_X7_lastDay h b4).bind fun r7 =>
        if r3 = r7 then
          (m_gi h b1 6 0).bind fun x9 =>
          (m_gi h b4 6 0).bind fun x11 =>
          if x9 ≤ x11 then
            some 0
          else
            some 1
        else
          if m_ob h b1 6 = true then
            (f_X7_lastDay h b1).bind fun r15 =>
            if m_ob h b4 6 = true then
              (f_X7_lastDay h b4).bind fun r17 =>
              if r15 ≤ r17 then
                some 0
              else
                some 1
            else none
          else none
      else none
    else none
def Y_X3_comesBehind : mY := (yX3_comesBehind, cX3_comesBehind, 2, some (FieldType.boolean), .ireturn)
theorem ok_X3_comesBehind : m_Ok Y_X3_comesBehind := ⟨by decide +kernel, ⟨by decide +kernel, by decide +kernel⟩, tw_2_220, tw_1_6, by decide, Or.inr (Or.inl ⟨Or.inr rfl, rfl⟩)⟩
theorem nn_X3_comesBehind : (parseMethodDescriptor Y_X3_comesBehind.1.desc).map (fun q => q.parameters.length) = some 2 := by decide +kernel
set_option maxHeartbeats 4000000 in
set_option maxRecDepth 20000 in
theorem j_X3_comesBehind {X : mX} {d : Nat} {h : mH} {a0 : Option Nat} {a1 : Option Nat} {rv : Int32} (hd : 1 ≤ d) (hr : f_X3_comesBehind h a0 a1 = some rv) : m_J X Y_X3_comesBehind d 0 [some (va_rf a0), some (va_rf a1)] [] h (some (.int rv), h) := by
  obtain ⟨d, rfl⟩ : ∃ k, d = k + 1 := ⟨d - 1, by omega⟩
  unfold f_X3_comesBehind at hr
  refine j_aloadq_n (q := a0) (i := 0) rfl rfl dX3_comesBehind_0 ?_
  cases a0 with
  | none =>
    dsimp only at hr
    refine j_ifnonnull_n dX3_comesBehind_1 ?_
    refine j_iconst (v := 0) rfl dX3_comesBehind_4 ?_
    cases hr
    exact j_ret dX3_comesBehind_5 m_rk_z0
  | some b1 =>
    dsimp only at hr
    refine j_ifnonnull_r (tgt := 6) dX3_comesBehind_1 rfl ?_
    refine j_aload_n (i := 0) rfl rfl dX3_comesBehind_6 ?_
    by_cases o22 : m_ob h b1 6 = true
    · rw [if_pos o22] at hr
      replace hr := m_bind hr; obtain ⟨r3, g2, hr⟩ := hr
      refine j_callV (Y' := Y_X7_lastDay) (a := b1) (as := []) (ci := 6) (T := TX7) (N := 11) ok_X7_lastDay [some (.ref b1)] rfl rfl rfl tw_2_221 tw_2_222 tw_2_223 nn_X7_lastDay (Nat.le_of_ble_eq_true rfl) dX3_comesBehind_7 o22 (j_X7_lastDay g2) ?_
      refine j_aloadq_n (q := a1) (i := 1) rfl rfl dX3_comesBehind_10 ?_
      replace hr := m_bind hr; obtain ⟨b4, g5, hr⟩ := hr
      subst g5
      by_cases o21 : m_ob h b4 6 = true
      · rw [if_pos o21] at hr
        replace hr := m_bind hr; obtain ⟨r7, g6, hr⟩ := hr
        refine j_callV (Y' := Y_X7_lastDay) (a := b4) (as := []) (ci := 6) (T := TX7) (N := 11) ok_X7_lastDay [some (.ref b4)] rfl rfl rfl tw_2_221 tw_2_222 tw_2_223 nn_X7_lastDay (Nat.le_of_ble_eq_true rfl) dX3_comesBehind_11 o21 (j_X7_lastDay g6) ?_
        refine j_ic_eq (tgt := 34) dX3_comesBehind_14 rfl (fun c8 => ?_) (fun c8 => ?_)
        · rw [if_pos c8] at hr
          refine j_aload_n (i := 0) rfl rfl dX3_comesBehind_34 ?_
          replace hr := m_bind hr; obtain ⟨x9, g10, hr⟩ := hr
          refine j_getf (C := RX7) (T := TX7) (N := 11) (ci := 6) (k := 0) rfl (by decide) inX7 tw_1_185 dX3_comesBehind_35 (m_gi_spec g10) ?_
          refine j_aload_n (i := 1) rfl rfl dX3_comesBehind_38 ?_
          replace hr := m_bind hr; obtain ⟨x11, g12, hr⟩ := hr
          refine j_getf (C := RX7) (T := TX7) (N := 11) (ci := 6) (k := 0) rfl (by decide) inX7 tw_1_185 dX3_comesBehind_39 (m_gi_spec g12) ?_
          refine j_ic_le (tgt := 49) dX3_comesBehind_42 rfl (fun c13 => ?_) (fun c13 => ?_)
          · rw [if_pos c13] at hr
            refine j_iconst (v := 0) rfl dX3_comesBehind_49 ?_
            cases hr
            exact j_ret dX3_comesBehind_50 m_rk_z0
          · rw [if_neg c13] at hr
            refine j_iconst (v := 1) rfl dX3_comesBehind_45 ?_
            refine j_goto (tgt := 50) dX3_comesBehind_46 rfl ?_
            cases hr
            exact j_ret dX3_comesBehind_50 m_rk_z1
        · rw [if_neg c8] at hr
          refine j_aload_n (i := 0) rfl rfl dX3_comesBehind_17 ?_
          by_cases o20 : m_ob h b1 6 = true
          · rw [if_pos o20] at hr
            replace hr := m_bind hr; obtain ⟨r15, g14, hr⟩ := hr
            refine j_callV (Y' := Y_X7_lastDay) (a := b1) (as := []) (ci := 6) (T := TX7) (N := 11) ok_X7_lastDay [some (.ref b1)] rfl rfl rfl tw_2_221 tw_2_222 tw_2_223 nn_X7_lastDay (Nat.le_of_ble_eq_true rfl) dX3_comesBehind_18 o20 (j_X7_lastDay g14) ?_
            refine j_aload_n (i := 1) rfl rfl dX3_comesBehind_21 ?_
            by_cases o19 : m_ob h b4 6 = true
            · rw [if_pos o19] at hr
              replace hr := m_bind hr; obtain ⟨r17, g16, hr⟩ := hr
              refine j_callV (Y' := Y_X7_lastDay) (a := b4) (as := []) (ci := 6) (T := TX7) (N := 11) ok_X7_lastDay [some (.ref b4)] rfl rfl rfl tw_2_221 tw_2_222 tw_2_223 nn_X7_lastDay (Nat.le_of_ble_eq_true rfl) dX3_comesBehind_22 o19 (j_X7_lastDay g16) ?_
              refine j_ic_le (tgt := 32) dX3_comesBehind_25 rfl (fun c18 => ?_) (fun c18 => ?_)
              · rw [if_pos c18] at hr
                refine j_iconst (v := 0) rfl dX3_comesBehind_32 ?_
                cases hr
                exact j_ret dX3_comesBehind_33 m_rk_z0
              · rw [if_neg c18] at hr
                refine j_iconst (v := 1) rfl dX3_comesBehind_28 ?_
                refine j_goto (tgt := 33) dX3_comesBehind_29 rfl ?_
                cases hr
                exact j_ret dX3_comesBehind_33 m_rk_z1
            · rw [if_neg o19] at hr
              cases hr
          · rw [if_neg o20] at hr
            cases hr
      · rw [if_neg o21] at hr
        cases hr
    · rw [if_neg o22] at hr
      cases hr
def w_X3_open_26 (a0 : Nat) (b1 : Nat) : (Int32 × mH) → Option ((Int32 × mH) ⊕ (Int32 × mH)) := fun s_13 =>
  if s_13.1 ≤ 0 then
    some (.inr (s_13.1, s_13.2))
  else
    (m_gr s_13.2 a0 2 0).bind fun q15 =>
    (q15).bind fun b17 =>
    (m_ald s_13.2 b17 (s_13.1 - 1)).bind fun q19 =>
    (f_X3_comesBehind s_13.2 q19 ((some b1))).bind fun r22 =>
    if r22 = 0 then
      some (.inr (s_13.1, s_13.2))
    else
      (m_gr s_13.2 a0 2 0).bind fun q24 =>
      (m_gr s_13.2 a0 2 0).bind fun q26 =>
      (q26).bind fun b28 =>
      (m_ald s_13.2 b28 (s_13.1 - 1)).bind fun q30 =>
      (q24).bind fun b32 =>
      (m_ast s_13.2 b32 s_13.1 q30).bind fun h34 =>
      some (.inl (s_13.1 + (-1), h34))
def f_X3_open (h : mH) (a0 : Nat) (a1 : Option Nat) : Option (mH) :=
  (a1).bind fun b1 =>
  (m_gi h b1 6 7).bind fun x3 =>
  (f_X3_isBorrower x3).bind fun r6 =>
  if r6 = 0 then
    some h
  else
    (m_gi h a0 2 3).bind fun x8 =>
    if x8 < 240 then
      (m_gi h a0 2 3).bind fun x11 =>
      (m_loop (w_X3_open_26 a0 b1) 5000 ((x11, h))).bind fun e36 =>
      (m_gr e36.2 a0 2 0).bind fun q37 =>
      (q37).bind fun b39 =>
      (m_ast e36.2 b39 e36.1 ((some b1))).bind fun h41 =>
      (m_gr h41 a0 2 1).bind fun q43 =>
      (m_gi h41 b1 6 7).bind fun x45 =>
      (q43).bind fun b47 =>
      (m_ild h41 b47 x45).bind fun x49 =>
      (m_ist h41 b47 x45 (x49 + 1)).bind fun h51 =>
      (m_gi h51 a0 2 3).bind fun x53 =>
      (m_pf h51 a0 2 3 (.int (x53 + 1))).bind fun h55 =>
      (m_gi h55 a0 2 4).bind fun x57 =>
      (m_pf h55 a0 2 4 (.int (x57 + 1))).bind fun h59 =>
      some h59
    else
      some h
def Y_X3_open : mY := (yX3_open, cX3_open, 3, none, .return_)
theorem ok_X3_open : m_Ok Y_X3_open := ⟨by decide +kernel, ⟨by decide +kernel, by decide +kernel⟩, tw_2_217, tw_1_6, by decide, Or.inl ⟨rfl, rfl⟩⟩
theorem nn_X3_open : (parseMethodDescriptor Y_X3_open.1.desc).map (fun q => q.parameters.length) = some 1 := by decide +kernel
set_option maxHeartbeats 4000000 in
set_option maxRecDepth 20000 in
theorem j_X3_open {X : mX} {d : Nat} {h : mH} {a0 : Nat} {a1 : Option Nat} {h' : mH} (hd : 2 ≤ d) (hr : f_X3_open h a0 a1 = some h') : m_J X Y_X3_open d 0 [some (.ref a0), some (va_rf a1), none] [] h (none, h') := by
  obtain ⟨d, rfl⟩ : ∃ k, d = k + 1 := ⟨d - 1, by omega⟩
  unfold f_X3_open at hr
  refine j_aloadq_n (q := a1) (i := 1) rfl rfl dX3_open_0 ?_
  replace hr := m_bind hr; obtain ⟨b1, g2, hr⟩ := hr
  subst g2
  replace hr := m_bind hr; obtain ⟨x3, g4, hr⟩ := hr
  refine j_getf (C := RX7) (T := TX7) (N := 11) (ci := 6) (k := 7) rfl (by decide) inX7 tw_1_206 dX3_open_1 (m_gi_spec g4) ?_
  replace hr := m_bind hr; obtain ⟨r6, g5, hr⟩ := hr
  refine j_callS (Y' := Y_X3_isBorrower) (as := [.int x3]) ok_X3_isBorrower [some (.int x3)] rfl rfl tw_2_204 tw_2_186 nn_X3_isBorrower (Nat.le_of_ble_eq_true rfl) dX3_open_4 (j_X3_isBorrower g5) ?_
  refine j_if_eq (tgt := 20) dX3_open_7 rfl (fun c7 => ?_) (fun c7 => ?_)
  · rw [if_pos c7] at hr
    cases hr
    exact j_ret dX3_open_20 m_rk_v
  · rw [if_neg c7] at hr
    refine j_aload_n (i := 0) rfl rfl dX3_open_10 ?_
    replace hr := m_bind hr; obtain ⟨x8, g9, hr⟩ := hr
    refine j_getf (C := RX3) (T := TX3) (N := 5) (ci := 2) (k := 3) rfl (by decide) inX3 tw_1_115 dX3_open_11 (m_gi_spec g9) ?_
    refine j_sipush (v := 240) rfl dX3_open_14 ?_
    refine j_ic_lt (tgt := 21) dX3_open_17 rfl (fun c10 => ?_) (fun c10 => ?_)
    · rw [if_pos c10] at hr
      refine j_aload_n (i := 0) rfl rfl dX3_open_21 ?_
      replace hr := m_bind hr; obtain ⟨x11, g12, hr⟩ := hr
      refine j_getf (C := RX3) (T := TX3) (N := 5) (ci := 2) (k := 3) rfl (by decide) inX3 tw_1_115 dX3_open_22 (m_gi_spec g12) ?_
      refine j_istore_n (i := 2) (L' := [some (.ref a0), some (.ref b1), some (.int x11)]) rfl (Nat.le_of_ble_eq_true rfl) rfl rfl dX3_open_25 ?_
      replace hr := m_bind hr; obtain ⟨e36, q63, hr⟩ := hr
      refine j_weak (L' := [some (.ref a0), some (.ref b1), some (.int x11)]) (And.intro rfl (And.intro rfl (And.intro rfl trivial))) ?_
      refine m_loop_sound (step := w_X3_open_26 a0 b1) (P := fun s_13 => m_J X Y_X3_open (d + 1) 26 [some (.ref a0), some (.ref b1), some (.int s_13.1)] [] s_13.2 (none, h')) (Qe := fun e36 => m_J X Y_X3_open (d + 1) 65 [some (.ref a0), some (.ref b1), some (.int e36.1)] [] e36.2 (none, h')) ?_ _ _ _ q63 ?_
      · intro s_13 o hr hk
        unfold w_X3_open_26 at hr
        refine j_iload_n (i := 2) rfl rfl dX3_open_26 ?_
        refine j_if_le (tgt := 65) dX3_open_27 rfl (fun c14 => ?_) (fun c14 => ?_)
        · rw [if_pos c14] at hr
          cases hr
          exact j_weak (L' := [some (.ref a0), some (.ref b1), some (.int s_13.1)]) (And.intro rfl (And.intro rfl (And.intro rfl trivial))) hk
        · rw [if_neg c14] at hr
          refine j_aload_n (i := 0) rfl rfl dX3_open_30 ?_
          replace hr := m_bind hr; obtain ⟨q15, g16, hr⟩ := hr
          refine j_getf (C := RX3) (T := TX3) (N := 5) (ci := 2) (k := 0) rfl (by decide) inX3 tw_1_112 dX3_open_31 (m_gr_spec g16) ?_
          refine j_iload_n (i := 2) rfl rfl dX3_open_34 ?_
          refine j_iconst (v := 1) rfl dX3_open_35 ?_
          refine j_isub dX3_open_36 ?_
          replace hr := m_bind hr; obtain ⟨b17, g18, hr⟩ := hr
          subst g18
          replace hr := m_bind hr; obtain ⟨q19, g20, hr⟩ := hr
          refine j_aaload dX3_open_37 g20 ?_
          refine j_aload_n (i := 1) rfl rfl dX3_open_38 ?_
          replace hr := m_bind hr; obtain ⟨r22, g21, hr⟩ := hr
          refine j_callS (Y' := Y_X3_comesBehind) (as := [va_rf q19, .ref b1]) ok_X3_comesBehind [some (va_rf q19), some (.ref b1)] (by cases q19 <;> rfl) rfl tw_2_218 tw_2_219 nn_X3_comesBehind (Nat.le_of_ble_eq_true rfl) dX3_open_39 (j_X3_comesBehind (by omega) g21) ?_
          refine j_if_eq (tgt := 65) dX3_open_42 rfl (fun c23 => ?_) (fun c23 => ?_)
          · rw [if_pos c23] at hr
            cases hr
            exact j_weak (L' := [some (.ref a0), some (.ref b1), some (.int s_13.1)]) (And.intro rfl (And.intro rfl (And.intro rfl trivial))) hk
          · rw [if_neg c23] at hr
            refine j_aload_n (i := 0) rfl rfl dX3_open_45 ?_
            replace hr := m_bind hr; obtain ⟨q24, g25, hr⟩ := hr
            refine j_getf (C := RX3) (T := TX3) (N := 5) (ci := 2) (k := 0) rfl (by decide) inX3 tw_1_112 dX3_open_46 (m_gr_spec g25) ?_
            refine j_iload_n (i := 2) rfl rfl dX3_open_49 ?_
            refine j_aload_n (i := 0) rfl rfl dX3_open_50 ?_
            replace hr := m_bind hr; obtain ⟨q26, g27, hr⟩ := hr
            refine j_getf (C := RX3) (T := TX3) (N := 5) (ci := 2) (k := 0) rfl (by decide) inX3 tw_1_112 dX3_open_51 (m_gr_spec g27) ?_
            refine j_iload_n (i := 2) rfl rfl dX3_open_54 ?_
            refine j_iconst (v := 1) rfl dX3_open_55 ?_
            refine j_isub dX3_open_56 ?_
            replace hr := m_bind hr; obtain ⟨b28, g29, hr⟩ := hr
            subst g29
            replace hr := m_bind hr; obtain ⟨q30, g31, hr⟩ := hr
            refine j_aaload dX3_open_57 g31 ?_
            replace hr := m_bind hr; obtain ⟨b32, g33, hr⟩ := hr
            subst g33
            replace hr := m_bind hr; obtain ⟨h34, g35, hr⟩ := hr
            refine j_aastore (q := q30) dX3_open_58 g35 ?_
            refine j_iinc (i := 2) (v := s_13.1 + (-1)) (L' := [some (.ref a0), some (.ref b1), some (.int (s_13.1 + (-1)))]) rfl (m_om1 _) (Nat.le_of_ble_eq_true rfl) rfl rfl dX3_open_59 ?_
            refine j_goto (tgt := 26) dX3_open_62 rfl ?_
            cases hr
            exact j_weak (L' := [some (.ref a0), some (.ref b1), some (.int (s_13.1 + (-1)))]) (And.intro rfl (And.intro rfl (And.intro rfl trivial))) hk
      · skip
        refine j_aload_n (i := 0) rfl rfl dX3_open_65 ?_
        replace hr := m_bind hr; obtain ⟨q37, g38, hr⟩ := hr
        refine j_getf (C := RX3) (T := TX3) (N := 5) (ci := 2) (k := 0) rfl (by decide) inX3 tw_1_112 dX3_open_66 (m_gr_spec g38) ?_
        refine j_iload_n (i := 2) rfl rfl dX3_open_69 ?_
        refine j_aload_n (i := 1) rfl rfl dX3_open_70 ?_
        replace hr := m_bind hr; obtain ⟨b39, g40, hr⟩ := hr
        subst g40
        replace hr := m_bind hr; obtain ⟨h41, g42, hr⟩ := hr
        refine j_aastore (q := (some b1)) dX3_open_71 g42 ?_
        refine j_aload_n (i := 0) rfl rfl dX3_open_72 ?_
        replace hr := m_bind hr; obtain ⟨q43, g44, hr⟩ := hr
        refine j_getf (C := RX3) (T := TX3) (N := 5) (ci := 2) (k := 1) rfl (by decide) inX3 tw_1_113 dX3_open_73 (m_gr_spec g44) ?_
        refine j_aload_n (i := 1) rfl rfl dX3_open_76 ?_
        replace hr := m_bind hr; obtain ⟨x45, g46, hr⟩ := hr
        refine j_getf (C := RX7) (T := TX7) (N := 11) (ci := 6) (k := 7) rfl (by decide) inX7 tw_1_206 dX3_open_77 (m_gi_spec g46) ?_
        refine j_dup2 rfl (m_crf _) dX3_open_80 ?_
        replace hr := m_bind hr; obtain ⟨b47, g48, hr⟩ := hr
        subst g48
        replace hr := m_bind hr; obtain ⟨x49, g50, hr⟩ := hr
        refine j_iaload dX3_open_81 g50 ?_
        refine j_iconst (v := 1) rfl dX3_open_82 ?_
        refine j_iadd dX3_open_83 ?_
        replace hr := m_bind hr; obtain ⟨h51, g52, hr⟩ := hr
        refine j_iastore dX3_open_84 g52 ?_
        refine j_aload_n (i := 0) rfl rfl dX3_open_85 ?_
        refine j_dup rfl dX3_open_86 ?_
        replace hr := m_bind hr; obtain ⟨x53, g54, hr⟩ := hr
        refine j_getf (C := RX3) (T := TX3) (N := 5) (ci := 2) (k := 3) rfl (by decide) inX3 tw_1_115 dX3_open_87 (m_gi_spec g54) ?_
        refine j_iconst (v := 1) rfl dX3_open_90 ?_
        refine j_iadd dX3_open_91 ?_
        replace hr := m_bind hr; obtain ⟨h55, g56, hr⟩ := hr
        refine j_puti (C := RX3) (T := TX3) (ty := tyX3) (N := 5) (ci := 2) (k := 3) rfl (by decide) inX3 tyX3_ok nmX3 tw_1_115 rfl rfl dX3_open_92 g56 ?_
        refine j_aload_n (i := 0) rfl rfl dX3_open_95 ?_
        refine j_dup rfl dX3_open_96 ?_
        replace hr := m_bind hr; obtain ⟨x57, g58, hr⟩ := hr
        refine j_getf (C := RX3) (T := TX3) (N := 5) (ci := 2) (k := 4) rfl (by decide) inX3 tw_1_117 dX3_open_97 (m_gi_spec g58) ?_
        refine j_iconst (v := 1) rfl dX3_open_100 ?_
        refine j_iadd dX3_open_101 ?_
        replace hr := m_bind hr; obtain ⟨h59, g60, hr⟩ := hr
        refine j_puti (C := RX3) (T := TX3) (ty := tyX3) (N := 5) (ci := 2) (k := 4) rfl (by decide) inX3 tyX3_ok nmX3 tw_1_117 rfl rfl dX3_open_102 g60 ?_
        cases hr
        exact j_ret dX3_open_105 m_rk_v
    · rw [if_neg c10] at hr
      cases hr
      exact j_ret dX3_open_20 m_rk_v
def w_X3_remove_4 (a0 : Nat) (a1 : Option Nat) : (Int32 × Int32 × mH) → Option ((Int32 × Int32 × mH) ⊕ (Int32 × mH)) := fun s_1 =>
  (m_gi s_1.2.2 a0 2 3).bind fun x2 =>
  if x2 ≤ s_1.2.1 then
    some (.inr (s_1.1, s_1.2.2))
  else
    if 240 ≤ s_1.2.1 then
      some (.inr (s_1.1, s_1.2.2))
    else
      (m_gr s_1.2.2 a0 2 0).bind fun q6 =>
      (q6).bind fun b8 =>
      (m_ald s_1.2.2 b8 s_1.2.1).bind fun q10 =>
      if q10 = a1 then
        some (.inl (s_1.1, s_1.2.1 + 1, s_1.2.2))
      else
        (m_gr s_1.2.2 a0 2 0).bind fun q13 =>
        (m_gr s_1.2.2 a0 2 0).bind fun q15 =>
        (q15).bind fun b17 =>
        (m_ald s_1.2.2 b17 s_1.2.1).bind fun q19 =>
        (q13).bind fun b21 =>
        (m_ast s_1.2.2 b21 s_1.1 q19).bind fun h23 =>
        some (.inl (s_1.1 + 1, s_1.2.1 + 1, h23))
def f_X3_remove (h : mH) (a0 : Nat) (a1 : Option Nat) : Option (mH) :=
  (m_loop (w_X3_remove_4 a0 a1) 5000 ((0, 0, h))).bind fun e25 =>
  (m_pf e25.2 a0 2 3 (.int e25.1)).bind fun h26 =>
  some h26
def Y_X3_remove : mY := (yX3_remove, cX3_remove, 4, none, .return_)
theorem ok_X3_remove : m_Ok Y_X3_remove := ⟨by decide +kernel, ⟨by decide +kernel, by decide +kernel⟩, tw_3_5, tw_1_6, by decide, Or.inl ⟨rfl, rfl⟩⟩
theorem nn_X3_remove : (parseMethodDescriptor Y_X3_remove.1.desc).map (fun q => q.parameters.length) = some 1 := by decide +kernel
set_option maxHeartbeats 4000000 in
set_option maxRecDepth 20000 in
theorem j_X3_remove {X : mX} {d : Nat} {h : mH} {a0 : Nat} {a1 : Option Nat} {h' : mH} (hr : f_X3_remove h a0 a1 = some h') : m_J X Y_X3_remove d 0 [some (.ref a0), some (va_rf a1), none, none] [] h (none, h') := by
  unfold f_X3_remove at hr
  refine j_iconst (v := 0) rfl dX3_remove_0 ?_
  refine j_istore_n (i := 2) (L' := [some (.ref a0), some (va_rf a1), some (.int 0), none]) rfl (Nat.le_of_ble_eq_true rfl) (m_nwq a1) rfl dX3_remove_1 ?_
  refine j_iconst (v := 0) rfl dX3_remove_2 ?_
  refine j_istore_n (i := 3) (L' := [some (.ref a0), some (va_rf a1), some (.int 0), some (.int 0)]) rfl (Nat.le_of_ble_eq_true rfl) rfl rfl dX3_remove_3 ?_
  replace hr := m_bind hr; obtain ⟨e25, q30, hr⟩ := hr
  refine j_weak (L' := [some (.ref a0), some (va_rf a1), some (.int 0), some (.int 0)]) (And.intro rfl (And.intro rfl (And.intro rfl (And.intro rfl trivial)))) ?_
  refine m_loop_sound (step := w_X3_remove_4 a0 a1) (P := fun s_1 => m_J X Y_X3_remove d 4 [some (.ref a0), some (va_rf a1), some (.int s_1.1), some (.int s_1.2.1)] [] s_1.2.2 (none, h')) (Qe := fun e25 => m_J X Y_X3_remove d 50 [some (.ref a0), none, some (.int e25.1), none] [] e25.2 (none, h')) ?_ _ _ _ q30 ?_
  · intro s_1 o hr hk
    unfold w_X3_remove_4 at hr
    refine j_iload_n (i := 3) rfl rfl dX3_remove_4 ?_
    refine j_aload_n (i := 0) rfl rfl dX3_remove_5 ?_
    replace hr := m_bind hr; obtain ⟨x2, g3, hr⟩ := hr
    refine j_getf (C := RX3) (T := TX3) (N := 5) (ci := 2) (k := 3) rfl (by decide) inX3 tw_1_115 dX3_remove_6 (m_gi_spec g3) ?_
    refine j_ic_ge (tgt := 50) dX3_remove_9 rfl (fun c4 => ?_) (fun c4 => ?_)
    · rw [if_pos c4] at hr
      cases hr
      exact j_weak (L' := [some (.ref a0), none, some (.int s_1.1), none]) (And.intro rfl (And.intro rfl trivial)) hk
    · rw [if_neg c4] at hr
      refine j_iload_n (i := 3) rfl rfl dX3_remove_12 ?_
      refine j_sipush (v := 240) rfl dX3_remove_13 ?_
      refine j_ic_ge (tgt := 50) dX3_remove_16 rfl (fun c5 => ?_) (fun c5 => ?_)
      · rw [if_pos c5] at hr
        cases hr
        exact j_weak (L' := [some (.ref a0), none, some (.int s_1.1), none]) (And.intro rfl (And.intro rfl trivial)) hk
      · rw [if_neg c5] at hr
        refine j_aload_n (i := 0) rfl rfl dX3_remove_19 ?_
        replace hr := m_bind hr; obtain ⟨q6, g7, hr⟩ := hr
        refine j_getf (C := RX3) (T := TX3) (N := 5) (ci := 2) (k := 0) rfl (by decide) inX3 tw_1_112 dX3_remove_20 (m_gr_spec g7) ?_
        refine j_iload_n (i := 3) rfl rfl dX3_remove_23 ?_
        replace hr := m_bind hr; obtain ⟨b8, g9, hr⟩ := hr
        subst g9
        replace hr := m_bind hr; obtain ⟨q10, g11, hr⟩ := hr
        refine j_aaload dX3_remove_24 g11 ?_
        refine j_aloadq_n (q := a1) (i := 1) rfl rfl dX3_remove_25 ?_
        refine j_ac_eq (rx := q10) (ry := a1) (tgt := 44) dX3_remove_26 rfl (fun c12 => ?_) (fun c12 => ?_)
        · rw [if_pos c12] at hr
          refine j_iinc (i := 3) (v := s_1.2.1 + 1) (L' := [some (.ref a0), some (va_rf a1), some (.int s_1.1), some (.int (s_1.2.1 + 1))]) rfl (m_o1 _) (Nat.le_of_ble_eq_true rfl) rfl rfl dX3_remove_44 ?_
          refine j_goto (tgt := 4) dX3_remove_47 rfl ?_
          cases hr
          exact j_weak (L' := [some (.ref a0), some (va_rf a1), some (.int s_1.1), some (.int (s_1.2.1 + 1))]) (And.intro rfl (And.intro rfl (And.intro rfl (And.intro rfl trivial)))) hk
        · rw [if_neg c12] at hr
          refine j_aload_n (i := 0) rfl rfl dX3_remove_29 ?_
          replace hr := m_bind hr; obtain ⟨q13, g14, hr⟩ := hr
          refine j_getf (C := RX3) (T := TX3) (N := 5) (ci := 2) (k := 0) rfl (by decide) inX3 tw_1_112 dX3_remove_30 (m_gr_spec g14) ?_
          refine j_iload_n (i := 2) rfl rfl dX3_remove_33 ?_
          refine j_aload_n (i := 0) rfl rfl dX3_remove_34 ?_
          replace hr := m_bind hr; obtain ⟨q15, g16, hr⟩ := hr
          refine j_getf (C := RX3) (T := TX3) (N := 5) (ci := 2) (k := 0) rfl (by decide) inX3 tw_1_112 dX3_remove_35 (m_gr_spec g16) ?_
          refine j_iload_n (i := 3) rfl rfl dX3_remove_38 ?_
          replace hr := m_bind hr; obtain ⟨b17, g18, hr⟩ := hr
          subst g18
          replace hr := m_bind hr; obtain ⟨q19, g20, hr⟩ := hr
          refine j_aaload dX3_remove_39 g20 ?_
          replace hr := m_bind hr; obtain ⟨b21, g22, hr⟩ := hr
          subst g22
          replace hr := m_bind hr; obtain ⟨h23, g24, hr⟩ := hr
          refine j_aastore (q := q19) dX3_remove_40 g24 ?_
          refine j_iinc (i := 2) (v := s_1.1 + 1) (L' := [some (.ref a0), some (va_rf a1), some (.int (s_1.1 + 1)), some (.int s_1.2.1)]) rfl (m_o1 _) (Nat.le_of_ble_eq_true rfl) (m_nwq a1) rfl dX3_remove_41 ?_
          refine j_iinc (i := 3) (v := s_1.2.1 + 1) (L' := [some (.ref a0), some (va_rf a1), some (.int (s_1.1 + 1)), some (.int (s_1.2.1 + 1))]) rfl (m_o1 _) (Nat.le_of_ble_eq_true rfl) rfl rfl dX3_remove_44 ?_
          refine j_goto (tgt := 4) dX3_remove_47 rfl ?_
          cases hr
          exact j_weak (L' := [some (.ref a0), some (va_rf a1), some (.int (s_1.1 + 1)), some (.int (s_1.2.1 + 1))]) (And.intro rfl (And.intro rfl (And.intro rfl (And.intro rfl trivial)))) hk
  · skip
    refine j_aload_n (i := 0) rfl rfl dX3_remove_50 ?_
    refine j_iload_n (i := 2) rfl rfl dX3_remove_51 ?_
    replace hr := m_bind hr; obtain ⟨h26, g27, hr⟩ := hr
    refine j_puti (C := RX3) (T := TX3) (ty := tyX3) (N := 5) (ci := 2) (k := 3) rfl (by decide) inX3 tyX3_ok nmX3 tw_1_115 rfl rfl dX3_remove_52 g27 ?_
    cases hr
    exact j_ret dX3_remove_55 m_rk_v
def f_X3_close (h : mH) (a0 : Nat) (a1 : Option Nat) (a2 : Int32) : Option (Int32 × mH) :=
  (a1).bind fun b1 =>
  (m_gi h b1 6 7).bind fun x3 =>
  (f_X3_isBorrower x3).bind fun r6 =>
  if r6 = 0 then
    some (((-1), h))
  else
    if m_ob h b1 6 = true then
      (f_X7_dueOn h b1 a2).bind fun r9 =>
      (m_gr h a0 2 2).bind fun q10 =>
      (m_gi h b1 6 7).bind fun x12 =>
      (q10).bind fun b14 =>
      (m_ild h b14 x12).bind fun x16 =>
      (m_ist h b14 x12 (x16 + r9)).bind fun h18 =>
      (m_gr h18 a0 2 1).bind fun q20 =>
      (m_gi h18 b1 6 7).bind fun x22 =>
      (q20).bind fun b24 =>
      (m_ild h18 b24 x22).bind fun x26 =>
      (m_ist h18 b24 x22 (x26 - 1)).bind fun h28 =>
      if m_ob h28 a0 2 = true then
        (f_X3_remove h28 a0 ((some b1))).bind fun h31 =>
        if m_ob h31 b1 6 = true then
          (f_X7_endLoan h31 b1).bind fun h33 =>
          some ((r9, h33))
        else none
      else none
    else none
def Y_X3_close : mY := (yX3_close, cX3_close, 4, some (FieldType.int), .ireturn)
theorem ok_X3_close : m_Ok Y_X3_close := ⟨by decide +kernel, ⟨by decide +kernel, by decide +kernel⟩, tw_2_232, tw_1_6, by decide, Or.inr (Or.inl ⟨Or.inl rfl, rfl⟩)⟩
theorem nn_X3_close : (parseMethodDescriptor Y_X3_close.1.desc).map (fun q => q.parameters.length) = some 2 := by decide +kernel
set_option maxHeartbeats 4000000 in
set_option maxRecDepth 20000 in
theorem j_X3_close {X : mX} {d : Nat} {h : mH} {a0 : Nat} {a1 : Option Nat} {a2 : Int32} {rv : Int32} {h' : mH} (hd : 2 ≤ d) (hr : f_X3_close h a0 a1 a2 = some (rv, h')) : m_J X Y_X3_close d 0 [some (.ref a0), some (va_rf a1), some (.int a2), none] [] h (some (.int rv), h') := by
  obtain ⟨d, rfl⟩ : ∃ k, d = k + 1 := ⟨d - 1, by omega⟩
  unfold f_X3_close at hr
  refine j_aloadq_n (q := a1) (i := 1) rfl rfl dX3_close_0 ?_
  replace hr := m_bind hr; obtain ⟨b1, g2, hr⟩ := hr
  subst g2
  replace hr := m_bind hr; obtain ⟨x3, g4, hr⟩ := hr
  refine j_getf (C := RX7) (T := TX7) (N := 11) (ci := 6) (k := 7) rfl (by decide) inX7 tw_1_206 dX3_close_1 (m_gi_spec g4) ?_
  replace hr := m_bind hr; obtain ⟨r6, g5, hr⟩ := hr
  refine j_callS (Y' := Y_X3_isBorrower) (as := [.int x3]) ok_X3_isBorrower [some (.int x3)] rfl rfl tw_2_204 tw_2_186 nn_X3_isBorrower (Nat.le_of_ble_eq_true rfl) dX3_close_4 (j_X3_isBorrower g5) ?_
  refine j_if_ne (tgt := 12) dX3_close_7 rfl (fun c7 => ?_) (fun c7 => ?_)
  · rw [if_neg c7] at hr
    refine j_aload_n (i := 1) rfl rfl dX3_close_12 ?_
    refine j_iload_n (i := 2) rfl rfl dX3_close_13 ?_
    by_cases o36 : m_ob h b1 6 = true
    · rw [if_pos o36] at hr
      replace hr := m_bind hr; obtain ⟨r9, g8, hr⟩ := hr
      refine j_callV (Y' := Y_X7_dueOn) (a := b1) (as := [.int a2]) (ci := 6) (T := TX7) (N := 11) ok_X7_dueOn [some (.ref b1), some (.int a2), none, none] rfl rfl rfl tw_2_233 tw_2_234 tw_2_235 nn_X7_dueOn (Nat.le_of_ble_eq_true rfl) dX3_close_14 o36 (j_X7_dueOn (by omega) g8) ?_
      refine j_istore_n (i := 3) (L' := [some (.ref a0), some (.ref b1), some (.int a2), some (.int r9)]) rfl (Nat.le_of_ble_eq_true rfl) rfl rfl dX3_close_17 ?_
      refine j_aload_n (i := 0) rfl rfl dX3_close_18 ?_
      replace hr := m_bind hr; obtain ⟨q10, g11, hr⟩ := hr
      refine j_getf (C := RX3) (T := TX3) (N := 5) (ci := 2) (k := 2) rfl (by decide) inX3 tw_1_114 dX3_close_19 (m_gr_spec g11) ?_
      refine j_aload_n (i := 1) rfl rfl dX3_close_22 ?_
      replace hr := m_bind hr; obtain ⟨x12, g13, hr⟩ := hr
      refine j_getf (C := RX7) (T := TX7) (N := 11) (ci := 6) (k := 7) rfl (by decide) inX7 tw_1_206 dX3_close_23 (m_gi_spec g13) ?_
      refine j_dup2 rfl (m_crf _) dX3_close_26 ?_
      replace hr := m_bind hr; obtain ⟨b14, g15, hr⟩ := hr
      subst g15
      replace hr := m_bind hr; obtain ⟨x16, g17, hr⟩ := hr
      refine j_iaload dX3_close_27 g17 ?_
      refine j_iload_n (i := 3) rfl rfl dX3_close_28 ?_
      refine j_iadd dX3_close_29 ?_
      replace hr := m_bind hr; obtain ⟨h18, g19, hr⟩ := hr
      refine j_iastore dX3_close_30 g19 ?_
      refine j_aload_n (i := 0) rfl rfl dX3_close_31 ?_
      replace hr := m_bind hr; obtain ⟨q20, g21, hr⟩ := hr
      refine j_getf (C := RX3) (T := TX3) (N := 5) (ci := 2) (k := 1) rfl (by decide) inX3 tw_1_113 dX3_close_32 (m_gr_spec g21) ?_
      refine j_aload_n (i := 1) rfl rfl dX3_close_35 ?_
      replace hr := m_bind hr; obtain ⟨x22, g23, hr⟩ := hr
      refine j_getf (C := RX7) (T := TX7) (N := 11) (ci := 6) (k := 7) rfl (by decide) inX7 tw_1_206 dX3_close_36 (m_gi_spec g23) ?_
      refine j_dup2 rfl (m_crf _) dX3_close_39 ?_
      replace hr := m_bind hr; obtain ⟨b24, g25, hr⟩ := hr
      subst g25
      replace hr := m_bind hr; obtain ⟨x26, g27, hr⟩ := hr
      refine j_iaload dX3_close_40 g27 ?_
      refine j_iconst (v := 1) rfl dX3_close_41 ?_
      refine j_isub dX3_close_42 ?_
      replace hr := m_bind hr; obtain ⟨h28, g29, hr⟩ := hr
      refine j_iastore dX3_close_43 g29 ?_
      refine j_aload_n (i := 0) rfl rfl dX3_close_44 ?_
      refine j_aload_n (i := 1) rfl rfl dX3_close_45 ?_
      by_cases o35 : m_ob h28 a0 2 = true
      · rw [if_pos o35] at hr
        replace hr := m_bind hr; obtain ⟨h31, g30, hr⟩ := hr
        refine j_callV (Y' := Y_X3_remove) (a := a0) (as := [.ref b1]) (ci := 2) (T := TX3) (N := 5) ok_X3_remove [some (.ref a0), some (.ref b1), none, none] rfl rfl rfl tw_3_2 tw_3_4 tw_p_6 nn_X3_remove (Nat.le_of_ble_eq_true rfl) dX3_close_46 o35 (j_X3_remove g30) ?_
        refine j_aload_n (i := 1) rfl rfl dX3_close_49 ?_
        by_cases o34 : m_ob h31 b1 6 = true
        · rw [if_pos o34] at hr
          replace hr := m_bind hr; obtain ⟨h33, g32, hr⟩ := hr
          refine j_callV (Y' := Y_X7_endLoan) (a := b1) (as := []) (ci := 6) (T := TX7) (N := 11) ok_X7_endLoan [some (.ref b1)] rfl rfl rfl tw_3_6 tw_3_7 tw_3_8 nn_X7_endLoan (Nat.le_of_ble_eq_true rfl) dX3_close_50 o34 (j_X7_endLoan (by omega) g32) ?_
          refine j_iload_n (i := 3) rfl rfl dX3_close_53 ?_
          cases hr
          exact j_ret dX3_close_54 m_rk_i
        · rw [if_neg o34] at hr
          cases hr
      · rw [if_neg o35] at hr
        cases hr
    · rw [if_neg o36] at hr
      cases hr
  · rw [if_pos c7] at hr
    refine j_iconst (v := (-1)) rfl dX3_close_10 ?_
    cases hr
    exact j_ret dX3_close_11 m_rk_i
def w_X3_lateCount_4 (h : mH) (a0 : Nat) (a1 : Int32) : (Int32 × Int32) → Option ((Int32 × Int32) ⊕ (Int32)) := fun s_1 =>
  (m_gi h a0 2 3).bind fun x2 =>
  if x2 ≤ s_1.2 then
    some (.inr s_1.1)
  else
    if 240 ≤ s_1.2 then
      some (.inr s_1.1)
    else
      (m_gr h a0 2 0).bind fun q6 =>
      (q6).bind fun b8 =>
      (m_ald h b8 s_1.2).bind fun q10 =>
      match q10 with
      | none =>
        some (.inl (s_1.1, s_1.2 + 1))
      | some b12 =>
        if m_ob h b12 6 = true then
          (f_X7_lastDay h b12).bind fun r14 =>
          if a1 ≤ r14 then
            some (.inl (s_1.1, s_1.2 + 1))
          else
            some (.inl (s_1.1 + 1, s_1.2 + 1))
        else none
def f_X3_lateCount (h : mH) (a0 : Nat) (a1 : Int32) : Option (Int32) :=
  (m_loop (w_X3_lateCount_4 h a0 a1) 5000 ((0, 0))).bind fun e17 =>
  some e17
def Y_X3_lateCount : mY := (yX3_lateCount, cX3_lateCount, 5, some (FieldType.int), .ireturn)
theorem ok_X3_lateCount : m_Ok Y_X3_lateCount := ⟨by decide +kernel, ⟨by decide +kernel, by decide +kernel⟩, tw_3_18, tw_1_6, by decide, Or.inr (Or.inl ⟨Or.inl rfl, rfl⟩)⟩
theorem nn_X3_lateCount : (parseMethodDescriptor Y_X3_lateCount.1.desc).map (fun q => q.parameters.length) = some 1 := by decide +kernel
set_option maxHeartbeats 4000000 in
set_option maxRecDepth 20000 in
theorem j_X3_lateCount {X : mX} {d : Nat} {h : mH} {a0 : Nat} {a1 : Int32} {rv : Int32} (hd : 1 ≤ d) (hr : f_X3_lateCount h a0 a1 = some rv) : m_J X Y_X3_lateCount d 0 [some (.ref a0), some (.int a1), none, none, none] [] h (some (.int rv), h) := by
  obtain ⟨d, rfl⟩ : ∃ k, d = k + 1 := ⟨d - 1, by omega⟩
  unfold f_X3_lateCount at hr
  refine j_iconst (v := 0) rfl dX3_lateCount_0 ?_
  refine j_istore_n (i := 2) (L' := [some (.ref a0), some (.int a1), some (.int 0), none, none]) rfl (Nat.le_of_ble_eq_true rfl) rfl rfl dX3_lateCount_1 ?_
  refine j_iconst (v := 0) rfl dX3_lateCount_2 ?_
  refine j_istore_n (i := 3) (L' := [some (.ref a0), some (.int a1), some (.int 0), some (.int 0), none]) rfl (Nat.le_of_ble_eq_true rfl) rfl rfl dX3_lateCount_3 ?_
  replace hr := m_bind hr; obtain ⟨e17, q20, hr⟩ := hr
  refine j_weak (L' := [some (.ref a0), some (.int a1), some (.int 0), some (.int 0), none]) (And.intro rfl (And.intro rfl (And.intro rfl (And.intro rfl trivial)))) ?_
  refine m_loop_sound (step := w_X3_lateCount_4 h a0 a1) (P := fun s_1 => m_J X Y_X3_lateCount (d + 1) 4 [some (.ref a0), some (.int a1), some (.int s_1.1), some (.int s_1.2), none] [] h (some (.int rv), h)) (Qe := fun e17 => m_J X Y_X3_lateCount (d + 1) 50 [none, none, some (.int e17), none, none] [] h (some (.int rv), h)) ?_ _ _ _ q20 ?_
  · intro s_1 o hr hk
    unfold w_X3_lateCount_4 at hr
    refine j_iload_n (i := 3) rfl rfl dX3_lateCount_4 ?_
    refine j_aload_n (i := 0) rfl rfl dX3_lateCount_5 ?_
    replace hr := m_bind hr; obtain ⟨x2, g3, hr⟩ := hr
    refine j_getf (C := RX3) (T := TX3) (N := 5) (ci := 2) (k := 3) rfl (by decide) inX3 tw_1_115 dX3_lateCount_6 (m_gi_spec g3) ?_
    refine j_ic_ge (tgt := 50) dX3_lateCount_9 rfl (fun c4 => ?_) (fun c4 => ?_)
    · rw [if_pos c4] at hr
      cases hr
      exact j_weak (L' := [none, none, some (.int s_1.1), none, none]) (And.intro rfl trivial) hk
    · rw [if_neg c4] at hr
      refine j_iload_n (i := 3) rfl rfl dX3_lateCount_12 ?_
      refine j_sipush (v := 240) rfl dX3_lateCount_13 ?_
      refine j_ic_ge (tgt := 50) dX3_lateCount_16 rfl (fun c5 => ?_) (fun c5 => ?_)
      · rw [if_pos c5] at hr
        cases hr
        exact j_weak (L' := [none, none, some (.int s_1.1), none, none]) (And.intro rfl trivial) hk
      · rw [if_neg c5] at hr
        refine j_aload_n (i := 0) rfl rfl dX3_lateCount_19 ?_
        replace hr := m_bind hr; obtain ⟨q6, g7, hr⟩ := hr
        refine j_getf (C := RX3) (T := TX3) (N := 5) (ci := 2) (k := 0) rfl (by decide) inX3 tw_1_112 dX3_lateCount_20 (m_gr_spec g7) ?_
        refine j_iload_n (i := 3) rfl rfl dX3_lateCount_23 ?_
        replace hr := m_bind hr; obtain ⟨b8, g9, hr⟩ := hr
        subst g9
        replace hr := m_bind hr; obtain ⟨q10, g11, hr⟩ := hr
        refine j_aaload dX3_lateCount_24 g11 ?_
        refine j_astoreq (q := q10) (i := 4) (L' := [some (.ref a0), some (.int a1), some (.int s_1.1), some (.int s_1.2), some (va_rf q10)]) (Nat.le_of_ble_eq_true rfl) rfl rfl dX3_lateCount_25 ?_
        refine j_aloadq (q := q10) (i := 4) rfl dX3_lateCount_27 ?_
        cases q10 with
        | none =>
          dsimp only at hr
          refine j_ifnull_n (tgt := 44) dX3_lateCount_29 rfl ?_
          refine j_iinc (i := 3) (v := s_1.2 + 1) (L' := [some (.ref a0), some (.int a1), some (.int s_1.1), some (.int (s_1.2 + 1)), some (.null)]) rfl (m_o1 _) (Nat.le_of_ble_eq_true rfl) rfl rfl dX3_lateCount_44 ?_
          refine j_goto (tgt := 4) dX3_lateCount_47 rfl ?_
          cases hr
          exact j_weak (L' := [some (.ref a0), some (.int a1), some (.int s_1.1), some (.int (s_1.2 + 1)), none]) (And.intro rfl (And.intro rfl (And.intro rfl (And.intro rfl trivial)))) hk
        | some b12 =>
          dsimp only at hr
          refine j_ifnull_r dX3_lateCount_29 ?_
          refine j_aload (i := 4) rfl dX3_lateCount_32 ?_
          by_cases o16 : m_ob h b12 6 = true
          · rw [if_pos o16] at hr
            replace hr := m_bind hr; obtain ⟨r14, g13, hr⟩ := hr
            refine j_callV (Y' := Y_X7_lastDay) (a := b12) (as := []) (ci := 6) (T := TX7) (N := 11) ok_X7_lastDay [some (.ref b12)] rfl rfl rfl tw_2_221 tw_2_222 tw_2_223 nn_X7_lastDay (Nat.le_of_ble_eq_true rfl) dX3_lateCount_34 o16 (j_X7_lastDay g13) ?_
            refine j_iload_n (i := 1) rfl rfl dX3_lateCount_37 ?_
            refine j_ic_ge (tgt := 44) dX3_lateCount_38 rfl (fun c15 => ?_) (fun c15 => ?_)
            · rw [if_pos c15] at hr
              refine j_iinc (i := 3) (v := s_1.2 + 1) (L' := [some (.ref a0), some (.int a1), some (.int s_1.1), some (.int (s_1.2 + 1)), some (.ref b12)]) rfl (m_o1 _) (Nat.le_of_ble_eq_true rfl) rfl rfl dX3_lateCount_44 ?_
              refine j_goto (tgt := 4) dX3_lateCount_47 rfl ?_
              cases hr
              exact j_weak (L' := [some (.ref a0), some (.int a1), some (.int s_1.1), some (.int (s_1.2 + 1)), none]) (And.intro rfl (And.intro rfl (And.intro rfl (And.intro rfl trivial)))) hk
            · rw [if_neg c15] at hr
              refine j_iinc (i := 2) (v := s_1.1 + 1) (L' := [some (.ref a0), some (.int a1), some (.int (s_1.1 + 1)), some (.int s_1.2), some (.ref b12)]) rfl (m_o1 _) (Nat.le_of_ble_eq_true rfl) rfl rfl dX3_lateCount_41 ?_
              refine j_iinc (i := 3) (v := s_1.2 + 1) (L' := [some (.ref a0), some (.int a1), some (.int (s_1.1 + 1)), some (.int (s_1.2 + 1)), some (.ref b12)]) rfl (m_o1 _) (Nat.le_of_ble_eq_true rfl) rfl rfl dX3_lateCount_44 ?_
              refine j_goto (tgt := 4) dX3_lateCount_47 rfl ?_
              cases hr
              exact j_weak (L' := [some (.ref a0), some (.int a1), some (.int (s_1.1 + 1)), some (.int (s_1.2 + 1)), none]) (And.intro rfl (And.intro rfl (And.intro rfl (And.intro rfl trivial)))) hk
          · rw [if_neg o16] at hr
            cases hr
  · skip
    refine j_iload_n (i := 2) rfl rfl dX3_lateCount_50 ?_
    cases hr
    exact j_ret dX3_lateCount_51 m_rk_i
def f_X3_lateAt (h : mH) (a0 : Nat) (a1 : Int32) (a2 : Int32) : Option (Int32) :=
  if a2 < 0 then
    some ((-1))
  else
    (m_gi h a0 2 3).bind fun x2 =>
    if x2 ≤ a2 then
      some ((-1))
    else
      if a2 < 240 then
        (m_gr h a0 2 0).bind fun q6 =>
        (q6).bind fun b8 =>
        (m_ald h b8 a2).bind fun q10 =>
        match q10 with
        | none =>
          some ((-1))
        | some b12 =>
          if m_ob h b12 6 = true then
            (f_X7_lastDay h b12).bind fun r14 =>
            if a1 ≤ r14 then
              some ((-1))
            else
              (m_gi h b12 6 0).bind fun x16 =>
              some x16
          else none
      else
        some ((-1))
def Y_X3_lateAt : mY := (yX3_lateAt, cX3_lateAt, 4, some (FieldType.int), .ireturn)
theorem ok_X3_lateAt : m_Ok Y_X3_lateAt := ⟨by decide +kernel, ⟨by decide +kernel, by decide +kernel⟩, tw_3_26, tw_1_6, by decide, Or.inr (Or.inl ⟨Or.inl rfl, rfl⟩)⟩
theorem nn_X3_lateAt : (parseMethodDescriptor Y_X3_lateAt.1.desc).map (fun q => q.parameters.length) = some 2 := by decide +kernel
set_option maxHeartbeats 4000000 in
set_option maxRecDepth 20000 in
theorem j_X3_lateAt {X : mX} {d : Nat} {h : mH} {a0 : Nat} {a1 : Int32} {a2 : Int32} {rv : Int32} (hd : 1 ≤ d) (hr : f_X3_lateAt h a0 a1 a2 = some rv) : m_J X Y_X3_lateAt d 0 [some (.ref a0), some (.int a1), some (.int a2), none] [] h (some (.int rv), h) := by
  obtain ⟨d, rfl⟩ : ∃ k, d = k + 1 := ⟨d - 1, by omega⟩
  unfold f_X3_lateAt at hr
  refine j_iload_n (i := 2) rfl rfl dX3_lateAt_0 ?_
  refine j_if_lt (tgt := 19) dX3_lateAt_1 rfl (fun c1 => ?_) (fun c1 => ?_)
  · rw [if_pos c1] at hr
    refine j_iconst (v := (-1)) rfl dX3_lateAt_19 ?_
    cases hr
    exact j_ret dX3_lateAt_20 m_rk_i
  · rw [if_neg c1] at hr
    refine j_iload_n (i := 2) rfl rfl dX3_lateAt_4 ?_
    refine j_aload_n (i := 0) rfl rfl dX3_lateAt_5 ?_
    replace hr := m_bind hr; obtain ⟨x2, g3, hr⟩ := hr
    refine j_getf (C := RX3) (T := TX3) (N := 5) (ci := 2) (k := 3) rfl (by decide) inX3 tw_1_115 dX3_lateAt_6 (m_gi_spec g3) ?_
    refine j_ic_ge (tgt := 19) dX3_lateAt_9 rfl (fun c4 => ?_) (fun c4 => ?_)
    · rw [if_pos c4] at hr
      refine j_iconst (v := (-1)) rfl dX3_lateAt_19 ?_
      cases hr
      exact j_ret dX3_lateAt_20 m_rk_i
    · rw [if_neg c4] at hr
      refine j_iload_n (i := 2) rfl rfl dX3_lateAt_12 ?_
      refine j_sipush (v := 240) rfl dX3_lateAt_13 ?_
      refine j_ic_lt (tgt := 21) dX3_lateAt_16 rfl (fun c5 => ?_) (fun c5 => ?_)
      · rw [if_pos c5] at hr
        refine j_aload_n (i := 0) rfl rfl dX3_lateAt_21 ?_
        replace hr := m_bind hr; obtain ⟨q6, g7, hr⟩ := hr
        refine j_getf (C := RX3) (T := TX3) (N := 5) (ci := 2) (k := 0) rfl (by decide) inX3 tw_1_112 dX3_lateAt_22 (m_gr_spec g7) ?_
        refine j_iload_n (i := 2) rfl rfl dX3_lateAt_25 ?_
        replace hr := m_bind hr; obtain ⟨b8, g9, hr⟩ := hr
        subst g9
        replace hr := m_bind hr; obtain ⟨q10, g11, hr⟩ := hr
        refine j_aaload dX3_lateAt_26 g11 ?_
        refine j_astoreq_n (q := q10) (i := 3) (L' := [some (.ref a0), some (.int a1), some (.int a2), some (va_rf q10)]) rfl (Nat.le_of_ble_eq_true rfl) rfl rfl dX3_lateAt_27 ?_
        refine j_aloadq_n (q := q10) (i := 3) rfl rfl dX3_lateAt_28 ?_
        cases q10 with
        | none =>
          dsimp only at hr
          refine j_ifnull_n (tgt := 47) dX3_lateAt_29 rfl ?_
          refine j_iconst (v := (-1)) rfl dX3_lateAt_47 ?_
          cases hr
          exact j_ret dX3_lateAt_48 m_rk_i
        | some b12 =>
          dsimp only at hr
          refine j_ifnull_r dX3_lateAt_29 ?_
          refine j_aload_n (i := 3) rfl rfl dX3_lateAt_32 ?_
          by_cases o18 : m_ob h b12 6 = true
          · rw [if_pos o18] at hr
            replace hr := m_bind hr; obtain ⟨r14, g13, hr⟩ := hr
            refine j_callV (Y' := Y_X7_lastDay) (a := b12) (as := []) (ci := 6) (T := TX7) (N := 11) ok_X7_lastDay [some (.ref b12)] rfl rfl rfl tw_2_221 tw_2_222 tw_2_223 nn_X7_lastDay (Nat.le_of_ble_eq_true rfl) dX3_lateAt_33 o18 (j_X7_lastDay g13) ?_
            refine j_iload_n (i := 1) rfl rfl dX3_lateAt_36 ?_
            refine j_ic_ge (tgt := 47) dX3_lateAt_37 rfl (fun c15 => ?_) (fun c15 => ?_)
            · rw [if_pos c15] at hr
              refine j_iconst (v := (-1)) rfl dX3_lateAt_47 ?_
              cases hr
              exact j_ret dX3_lateAt_48 m_rk_i
            · rw [if_neg c15] at hr
              refine j_aload_n (i := 3) rfl rfl dX3_lateAt_40 ?_
              replace hr := m_bind hr; obtain ⟨x16, g17, hr⟩ := hr
              refine j_getf (C := RX7) (T := TX7) (N := 11) (ci := 6) (k := 0) rfl (by decide) inX7 tw_1_185 dX3_lateAt_41 (m_gi_spec g17) ?_
              refine j_goto (tgt := 48) dX3_lateAt_44 rfl ?_
              cases hr
              exact j_ret dX3_lateAt_48 m_rk_i
          · rw [if_neg o18] at hr
            cases hr
      · rw [if_neg c5] at hr
        refine j_iconst (v := (-1)) rfl dX3_lateAt_19 ?_
        cases hr
        exact j_ret dX3_lateAt_20 m_rk_i
def w_X3_owed_19 (h : mH) (a0 : Nat) (a1 : Int32) (a2 : Int32) : (Int32 × Int32) → Option ((Int32 × Int32) ⊕ (Int32)) := fun s_10 =>
  (m_gi h a0 2 3).bind fun x11 =>
  if x11 ≤ s_10.2 then
    some (.inr s_10.1)
  else
    if 240 ≤ s_10.2 then
      some (.inr s_10.1)
    else
      (m_gr h a0 2 0).bind fun q15 =>
      (q15).bind fun b17 =>
      (m_ald h b17 s_10.2).bind fun q19 =>
      match q19 with
      | none =>
        some (.inl (s_10.1, s_10.2 + 1))
      | some b21 =>
        (m_gi h b21 6 7).bind fun x22 =>
        if x22 = a1 then
          if m_ob h b21 6 = true then
            (f_X7_dueOn h b21 a2).bind fun r26 =>
            some (.inl (s_10.1 + r26, s_10.2 + 1))
          else none
        else
          some (.inl (s_10.1, s_10.2 + 1))
def f_X3_owed (h : mH) (a0 : Nat) (a1 : Int32) (a2 : Int32) : Option (Int32) :=
  (f_X3_isBorrower a1).bind fun r2 =>
  if r2 = 0 then
    some ((-1))
  else
    (m_gr h a0 2 2).bind fun q4 =>
    (q4).bind fun b6 =>
    (m_ild h b6 a1).bind fun x8 =>
    (m_loop (w_X3_owed_19 h a0 a1 a2) 5000 ((x8, 0))).bind fun e28 =>
    some e28
def Y_X3_owed : mY := (yX3_owed, cX3_owed, 6, some (FieldType.int), .ireturn)
theorem ok_X3_owed : m_Ok Y_X3_owed := ⟨by decide +kernel, ⟨by decide +kernel, by decide +kernel⟩, tw_3_34, tw_1_6, by decide, Or.inr (Or.inl ⟨Or.inl rfl, rfl⟩)⟩
theorem nn_X3_owed : (parseMethodDescriptor Y_X3_owed.1.desc).map (fun q => q.parameters.length) = some 2 := by decide +kernel
set_option maxHeartbeats 4000000 in
set_option maxRecDepth 20000 in
theorem j_X3_owed {X : mX} {d : Nat} {h : mH} {a0 : Nat} {a1 : Int32} {a2 : Int32} {rv : Int32} (hd : 2 ≤ d) (hr : f_X3_owed h a0 a1 a2 = some rv) : m_J X Y_X3_owed d 0 [some (.ref a0), some (.int a1), some (.int a2), none, none, none] [] h (some (.int rv), h) := by
  obtain ⟨d, rfl⟩ : ∃ k, d = k + 1 := ⟨d - 1, by omega⟩
  unfold f_X3_owed at hr
  refine j_iload_n (i := 1) rfl rfl dX3_owed_0 ?_
  replace hr := m_bind hr; obtain ⟨r2, g1, hr⟩ := hr
  refine j_callS (Y' := Y_X3_isBorrower) (as := [.int a1]) ok_X3_isBorrower [some (.int a1)] rfl rfl tw_2_204 tw_2_186 nn_X3_isBorrower (Nat.le_of_ble_eq_true rfl) dX3_owed_1 (j_X3_isBorrower g1) ?_
  refine j_if_ne (tgt := 9) dX3_owed_4 rfl (fun c3 => ?_) (fun c3 => ?_)
  · rw [if_neg c3] at hr
    refine j_aload_n (i := 0) rfl rfl dX3_owed_9 ?_
    replace hr := m_bind hr; obtain ⟨q4, g5, hr⟩ := hr
    refine j_getf (C := RX3) (T := TX3) (N := 5) (ci := 2) (k := 2) rfl (by decide) inX3 tw_1_114 dX3_owed_10 (m_gr_spec g5) ?_
    refine j_iload_n (i := 1) rfl rfl dX3_owed_13 ?_
    replace hr := m_bind hr; obtain ⟨b6, g7, hr⟩ := hr
    subst g7
    replace hr := m_bind hr; obtain ⟨x8, g9, hr⟩ := hr
    refine j_iaload dX3_owed_14 g9 ?_
    refine j_istore_n (i := 3) (L' := [some (.ref a0), some (.int a1), some (.int a2), some (.int x8), none, none]) rfl (Nat.le_of_ble_eq_true rfl) rfl rfl dX3_owed_15 ?_
    refine j_iconst (v := 0) rfl dX3_owed_16 ?_
    refine j_istore (i := 4) (L' := [some (.ref a0), some (.int a1), some (.int a2), some (.int x8), some (.int 0), none]) (Nat.le_of_ble_eq_true rfl) rfl rfl dX3_owed_17 ?_
    replace hr := m_bind hr; obtain ⟨e28, q31, hr⟩ := hr
    refine j_weak (L' := [some (.ref a0), some (.int a1), some (.int a2), some (.int x8), some (.int 0), none]) (And.intro rfl (And.intro rfl (And.intro rfl (And.intro rfl (And.intro rfl trivial))))) ?_
    refine m_loop_sound (step := w_X3_owed_19 h a0 a1 a2) (P := fun s_10 => m_J X Y_X3_owed (d + 1) 19 [some (.ref a0), some (.int a1), some (.int a2), some (.int s_10.1), some (.int s_10.2), none] [] h (some (.int rv), h)) (Qe := fun e28 => m_J X Y_X3_owed (d + 1) 74 [none, none, none, some (.int e28), none, none] [] h (some (.int rv), h)) ?_ _ _ _ q31 ?_
    · intro s_10 o hr hk
      unfold w_X3_owed_19 at hr
      refine j_iload (i := 4) rfl dX3_owed_19 ?_
      refine j_aload_n (i := 0) rfl rfl dX3_owed_21 ?_
      replace hr := m_bind hr; obtain ⟨x11, g12, hr⟩ := hr
      refine j_getf (C := RX3) (T := TX3) (N := 5) (ci := 2) (k := 3) rfl (by decide) inX3 tw_1_115 dX3_owed_22 (m_gi_spec g12) ?_
      refine j_ic_ge (tgt := 74) dX3_owed_25 rfl (fun c13 => ?_) (fun c13 => ?_)
      · rw [if_pos c13] at hr
        cases hr
        exact j_weak (L' := [none, none, none, some (.int s_10.1), none, none]) (And.intro rfl trivial) hk
      · rw [if_neg c13] at hr
        refine j_iload (i := 4) rfl dX3_owed_28 ?_
        refine j_sipush (v := 240) rfl dX3_owed_30 ?_
        refine j_ic_ge (tgt := 74) dX3_owed_33 rfl (fun c14 => ?_) (fun c14 => ?_)
        · rw [if_pos c14] at hr
          cases hr
          exact j_weak (L' := [none, none, none, some (.int s_10.1), none, none]) (And.intro rfl trivial) hk
        · rw [if_neg c14] at hr
          refine j_aload_n (i := 0) rfl rfl dX3_owed_36 ?_
          replace hr := m_bind hr; obtain ⟨q15, g16, hr⟩ := hr
          refine j_getf (C := RX3) (T := TX3) (N := 5) (ci := 2) (k := 0) rfl (by decide) inX3 tw_1_112 dX3_owed_37 (m_gr_spec g16) ?_
          refine j_iload (i := 4) rfl dX3_owed_40 ?_
          replace hr := m_bind hr; obtain ⟨b17, g18, hr⟩ := hr
          subst g18
          replace hr := m_bind hr; obtain ⟨q19, g20, hr⟩ := hr
          refine j_aaload dX3_owed_42 g20 ?_
          refine j_astoreq (q := q19) (i := 5) (L' := [some (.ref a0), some (.int a1), some (.int a2), some (.int s_10.1), some (.int s_10.2), some (va_rf q19)]) (Nat.le_of_ble_eq_true rfl) rfl rfl dX3_owed_43 ?_
          refine j_aloadq (q := q19) (i := 5) rfl dX3_owed_45 ?_
          cases q19 with
          | none =>
            dsimp only at hr
            refine j_ifnull_n (tgt := 68) dX3_owed_47 rfl ?_
            refine j_iinc (i := 4) (v := s_10.2 + 1) (L' := [some (.ref a0), some (.int a1), some (.int a2), some (.int s_10.1), some (.int (s_10.2 + 1)), some (.null)]) rfl (m_o1 _) (Nat.le_of_ble_eq_true rfl) rfl rfl dX3_owed_68 ?_
            refine j_goto (tgt := 19) dX3_owed_71 rfl ?_
            cases hr
            exact j_weak (L' := [some (.ref a0), some (.int a1), some (.int a2), some (.int s_10.1), some (.int (s_10.2 + 1)), none]) (And.intro rfl (And.intro rfl (And.intro rfl (And.intro rfl (And.intro rfl trivial))))) hk
          | some b21 =>
            dsimp only at hr
            refine j_ifnull_r dX3_owed_47 ?_
            refine j_aload (i := 5) rfl dX3_owed_50 ?_
            replace hr := m_bind hr; obtain ⟨x22, g23, hr⟩ := hr
            refine j_getf (C := RX7) (T := TX7) (N := 11) (ci := 6) (k := 7) rfl (by decide) inX7 tw_1_206 dX3_owed_52 (m_gi_spec g23) ?_
            refine j_iload_n (i := 1) rfl rfl dX3_owed_55 ?_
            refine j_ic_ne (tgt := 68) dX3_owed_56 rfl (fun c24 => ?_) (fun c24 => ?_)
            · rw [if_neg c24] at hr
              refine j_iinc (i := 4) (v := s_10.2 + 1) (L' := [some (.ref a0), some (.int a1), some (.int a2), some (.int s_10.1), some (.int (s_10.2 + 1)), some (.ref b21)]) rfl (m_o1 _) (Nat.le_of_ble_eq_true rfl) rfl rfl dX3_owed_68 ?_
              refine j_goto (tgt := 19) dX3_owed_71 rfl ?_
              cases hr
              exact j_weak (L' := [some (.ref a0), some (.int a1), some (.int a2), some (.int s_10.1), some (.int (s_10.2 + 1)), none]) (And.intro rfl (And.intro rfl (And.intro rfl (And.intro rfl (And.intro rfl trivial))))) hk
            · rw [if_pos c24] at hr
              refine j_iload_n (i := 3) rfl rfl dX3_owed_59 ?_
              refine j_aload (i := 5) rfl dX3_owed_60 ?_
              refine j_iload_n (i := 2) rfl rfl dX3_owed_62 ?_
              by_cases o27 : m_ob h b21 6 = true
              · rw [if_pos o27] at hr
                replace hr := m_bind hr; obtain ⟨r26, g25, hr⟩ := hr
                refine j_callV (Y' := Y_X7_dueOn) (a := b21) (as := [.int a2]) (ci := 6) (T := TX7) (N := 11) ok_X7_dueOn [some (.ref b21), some (.int a2), none, none] rfl rfl rfl tw_2_233 tw_2_234 tw_2_235 nn_X7_dueOn (Nat.le_of_ble_eq_true rfl) dX3_owed_63 o27 (j_X7_dueOn (by omega) g25) ?_
                refine j_iadd dX3_owed_66 ?_
                refine j_istore_n (i := 3) (L' := [some (.ref a0), some (.int a1), some (.int a2), some (.int (s_10.1 + r26)), some (.int s_10.2), some (.ref b21)]) rfl (Nat.le_of_ble_eq_true rfl) rfl rfl dX3_owed_67 ?_
                refine j_iinc (i := 4) (v := s_10.2 + 1) (L' := [some (.ref a0), some (.int a1), some (.int a2), some (.int (s_10.1 + r26)), some (.int (s_10.2 + 1)), some (.ref b21)]) rfl (m_o1 _) (Nat.le_of_ble_eq_true rfl) rfl rfl dX3_owed_68 ?_
                refine j_goto (tgt := 19) dX3_owed_71 rfl ?_
                cases hr
                exact j_weak (L' := [some (.ref a0), some (.int a1), some (.int a2), some (.int (s_10.1 + r26)), some (.int (s_10.2 + 1)), none]) (And.intro rfl (And.intro rfl (And.intro rfl (And.intro rfl (And.intro rfl trivial))))) hk
              · rw [if_neg o27] at hr
                cases hr
    · skip
      refine j_iload_n (i := 3) rfl rfl dX3_owed_74 ?_
      cases hr
      exact j_ret dX3_owed_75 m_rk_i
  · rw [if_pos c3] at hr
    refine j_iconst (v := (-1)) rfl dX3_owed_7 ?_
    cases hr
    exact j_ret dX3_owed_8 m_rk_i
def w_X3_chargedToAll_4 (h : mH) (a0 : Nat) : (Int32 × Int32) → Option ((Int32 × Int32) ⊕ (Int32)) := fun s_1 =>
  if 20 ≤ s_1.2 then
    some (.inr s_1.1)
  else
    (m_gr h a0 2 2).bind fun q3 =>
    (q3).bind fun b5 =>
    (m_ild h b5 s_1.2).bind fun x7 =>
    some (.inl (s_1.1 + x7, s_1.2 + 1))
def f_X3_chargedToAll (h : mH) (a0 : Nat) : Option (Int32) :=
  (m_loop (w_X3_chargedToAll_4 h a0) 5000 ((0, 0))).bind fun e9 =>
  some e9
def Y_X3_chargedToAll : mY := (yX3_chargedToAll, cX3_chargedToAll, 3, some (FieldType.int), .ireturn)
theorem ok_X3_chargedToAll : m_Ok Y_X3_chargedToAll := ⟨by decide +kernel, ⟨by decide +kernel, by decide +kernel⟩, tw_3_186, tw_1_6, by decide, Or.inr (Or.inl ⟨Or.inl rfl, rfl⟩)⟩
theorem nn_X3_chargedToAll : (parseMethodDescriptor Y_X3_chargedToAll.1.desc).map (fun q => q.parameters.length) = some 0 := by decide +kernel
set_option maxHeartbeats 4000000 in
set_option maxRecDepth 20000 in
theorem j_X3_chargedToAll {X : mX} {d : Nat} {h : mH} {a0 : Nat} {rv : Int32} (hr : f_X3_chargedToAll h a0 = some rv) : m_J X Y_X3_chargedToAll d 0 [some (.ref a0), none, none] [] h (some (.int rv), h) := by
  unfold f_X3_chargedToAll at hr
  refine j_iconst (v := 0) rfl dX3_chargedToAll_0 ?_
  refine j_istore_n (i := 1) (L' := [some (.ref a0), some (.int 0), none]) rfl (Nat.le_of_ble_eq_true rfl) rfl rfl dX3_chargedToAll_1 ?_
  refine j_iconst (v := 0) rfl dX3_chargedToAll_2 ?_
  refine j_istore_n (i := 2) (L' := [some (.ref a0), some (.int 0), some (.int 0)]) rfl (Nat.le_of_ble_eq_true rfl) rfl rfl dX3_chargedToAll_3 ?_
  replace hr := m_bind hr; obtain ⟨e9, q12, hr⟩ := hr
  refine j_weak (L' := [some (.ref a0), some (.int 0), some (.int 0)]) (And.intro rfl (And.intro rfl (And.intro rfl trivial))) ?_
  refine m_loop_sound (step := w_X3_chargedToAll_4 h a0) (P := fun s_1 => m_J X Y_X3_chargedToAll d 4 [some (.ref a0), some (.int s_1.1), some (.int s_1.2)] [] h (some (.int rv), h)) (Qe := fun e9 => m_J X Y_X3_chargedToAll d 25 [none, some (.int e9), none] [] h (some (.int rv), h)) ?_ _ _ _ q12 ?_
  · intro s_1 o hr hk
    unfold w_X3_chargedToAll_4 at hr
    refine j_iload_n (i := 2) rfl rfl dX3_chargedToAll_4 ?_
    refine j_bipush (v := 20) rfl dX3_chargedToAll_5 ?_
    refine j_ic_ge (tgt := 25) dX3_chargedToAll_7 rfl (fun c2 => ?_) (fun c2 => ?_)
    · rw [if_pos c2] at hr
      cases hr
      exact j_weak (L' := [none, some (.int s_1.1), none]) (And.intro rfl trivial) hk
    · rw [if_neg c2] at hr
      refine j_iload_n (i := 1) rfl rfl dX3_chargedToAll_10 ?_
      refine j_aload_n (i := 0) rfl rfl dX3_chargedToAll_11 ?_
      replace hr := m_bind hr; obtain ⟨q3, g4, hr⟩ := hr
      refine j_getf (C := RX3) (T := TX3) (N := 5) (ci := 2) (k := 2) rfl (by decide) inX3 tw_1_114 dX3_chargedToAll_12 (m_gr_spec g4) ?_
      refine j_iload_n (i := 2) rfl rfl dX3_chargedToAll_15 ?_
      replace hr := m_bind hr; obtain ⟨b5, g6, hr⟩ := hr
      subst g6
      replace hr := m_bind hr; obtain ⟨x7, g8, hr⟩ := hr
      refine j_iaload dX3_chargedToAll_16 g8 ?_
      refine j_iadd dX3_chargedToAll_17 ?_
      refine j_istore_n (i := 1) (L' := [some (.ref a0), some (.int (s_1.1 + x7)), some (.int s_1.2)]) rfl (Nat.le_of_ble_eq_true rfl) rfl rfl dX3_chargedToAll_18 ?_
      refine j_iinc (i := 2) (v := s_1.2 + 1) (L' := [some (.ref a0), some (.int (s_1.1 + x7)), some (.int (s_1.2 + 1))]) rfl (m_o1 _) (Nat.le_of_ble_eq_true rfl) rfl rfl dX3_chargedToAll_19 ?_
      refine j_goto (tgt := 4) dX3_chargedToAll_22 rfl ?_
      cases hr
      exact j_weak (L' := [some (.ref a0), some (.int (s_1.1 + x7)), some (.int (s_1.2 + 1))]) (And.intro rfl (And.intro rfl (And.intro rfl trivial))) hk
  · skip
    refine j_iload_n (i := 1) rfl rfl dX3_chargedToAll_25 ?_
    cases hr
    exact j_ret dX3_chargedToAll_26 m_rk_i
def f_X4_init (h : mH) (a0 : Nat) (a1 : Int32) (a2 : Int32) (a3 : Int32) (a4 : Int32) : Option (mH) :=
  (m_pf h a0 3 0 (.int a1)).bind fun h1 =>
  (m_pf h1 a0 3 1 (.int a2)).bind fun h3 =>
  (m_pf h3 a0 3 2 (.int a3)).bind fun h5 =>
  (m_pf h5 a0 3 3 (.int a4)).bind fun h7 =>
  some h7
def Y_X4_init : mY := (yX4_init, cX4_init, 5, none, .return_)
theorem ok_X4_init : m_Ok Y_X4_init := ⟨by decide +kernel, ⟨by decide +kernel, by decide +kernel⟩, tw_3_61, tw_1_12, by decide, Or.inl ⟨rfl, rfl⟩⟩
theorem nn_X4_init : (parseMethodDescriptor Y_X4_init.1.desc).map (fun q => q.parameters.length) = some 4 := by decide +kernel
set_option maxHeartbeats 4000000 in
set_option maxRecDepth 20000 in
theorem j_X4_init {X : mX} {d : Nat} {h : mH} {a0 : Nat} {a1 : Int32} {a2 : Int32} {a3 : Int32} {a4 : Int32} {h' : mH} (hd : 1 ≤ d) (hr : f_X4_init h a0 a1 a2 a3 a4 = some h') : m_J X Y_X4_init d 0 [some (.ref a0), some (.int a1), some (.int a2), some (.int a3), some (.int a4)] [] h (none, h') := by
  obtain ⟨d, rfl⟩ : ∃ k, d = k + 1 := ⟨d - 1, by omega⟩
  unfold f_X4_init at hr
  refine j_aload_n (i := 0) rfl rfl dX4_init_0 ?_
  refine j_objInit tw_3_62 (Nat.le_of_ble_eq_true rfl) dX4_init_1 ?_
  refine j_aload_n (i := 0) rfl rfl dX4_init_4 ?_
  refine j_iload_n (i := 1) rfl rfl dX4_init_5 ?_
  replace hr := m_bind hr; obtain ⟨h1, g2, hr⟩ := hr
  refine j_putiF (C := RX4) (T := TX4) (ty := tyX4) (N := 4) (ci := 3) (k := 0) rfl (by decide) inX4 tyX4_ok nmX4 tw_3_63 rfl rfl rfl rfl dX4_init_6 g2 ?_
  refine j_aload_n (i := 0) rfl rfl dX4_init_9 ?_
  refine j_iload_n (i := 2) rfl rfl dX4_init_10 ?_
  replace hr := m_bind hr; obtain ⟨h3, g4, hr⟩ := hr
  refine j_putiF (C := RX4) (T := TX4) (ty := tyX4) (N := 4) (ci := 3) (k := 1) rfl (by decide) inX4 tyX4_ok nmX4 tw_3_64 rfl rfl rfl rfl dX4_init_11 g4 ?_
  refine j_aload_n (i := 0) rfl rfl dX4_init_14 ?_
  refine j_iload_n (i := 3) rfl rfl dX4_init_15 ?_
  replace hr := m_bind hr; obtain ⟨h5, g6, hr⟩ := hr
  refine j_putiF (C := RX4) (T := TX4) (ty := tyX4) (N := 4) (ci := 3) (k := 2) rfl (by decide) inX4 tyX4_ok nmX4 tw_3_65 rfl rfl rfl rfl dX4_init_16 g6 ?_
  refine j_aload_n (i := 0) rfl rfl dX4_init_19 ?_
  refine j_iload (i := 4) rfl dX4_init_20 ?_
  replace hr := m_bind hr; obtain ⟨h7, g8, hr⟩ := hr
  refine j_putiF (C := RX4) (T := TX4) (ty := tyX4) (N := 4) (ci := 3) (k := 3) rfl (by decide) inX4 tyX4_ok nmX4 tw_3_66 rfl rfl rfl rfl dX4_init_22 g8 ?_
  cases hr
  exact j_ret dX4_init_25 m_rk_v
def f_X4_mayAsk (a0 : Int32) (a1 : Int32) : Option (Int32) :=
  if a0 = 60 then
    (f_X7_isMeasure a1).bind fun r3 =>
    if r3 = 0 then some 0
    else if r3 = 1 then some 1 else none
  else
    if a0 = 61 then
      (f_X7_isMeasure a1).bind fun r12 =>
      if r12 = 0 then some 0
      else if r12 = 1 then some 1 else none
    else
      (f_X1_isKindOrTrait a0).bind fun r8 =>
      if r8 = 0 then
        some 0
      else
        if a1 = 0 then
          some 1
        else
          some 0
def Y_X4_mayAsk : mY := (yX4_mayAsk, cX4_mayAsk, 2, some (FieldType.boolean), .ireturn)
theorem ok_X4_mayAsk : m_Ok Y_X4_mayAsk := ⟨by decide +kernel, ⟨by decide +kernel, by decide +kernel⟩, tw_3_49, tw_1_12, by decide, Or.inr (Or.inl ⟨Or.inr rfl, rfl⟩)⟩
theorem nn_X4_mayAsk : (parseMethodDescriptor Y_X4_mayAsk.1.desc).map (fun q => q.parameters.length) = some 2 := by decide +kernel
set_option maxHeartbeats 4000000 in
set_option maxRecDepth 20000 in
theorem j_X4_mayAsk {X : mX} {h : mH} {d : Nat} {a0 : Int32} {a1 : Int32} {rv : Int32} (hd : 2 ≤ d) (hr : f_X4_mayAsk a0 a1 = some rv) : m_J X Y_X4_mayAsk d 0 [some (.int a0), some (.int a1)] [] h (some (.int rv), h) := by
  obtain ⟨d, rfl⟩ : ∃ k, d = k + 1 := ⟨d - 1, by omega⟩
  unfold f_X4_mayAsk at hr
  refine j_iload_n (i := 0) rfl rfl dX4_mayAsk_0 ?_
  refine j_bipush (v := 60) rfl dX4_mayAsk_1 ?_
  refine j_ic_eq (tgt := 12) dX4_mayAsk_3 rfl (fun c1 => ?_) (fun c1 => ?_)
  · rw [if_pos c1] at hr
    refine j_iload_n (i := 1) rfl rfl dX4_mayAsk_12 ?_
    replace hr := m_bind hr; obtain ⟨r3, g2, hr⟩ := hr
    refine j_callS (Y' := Y_X7_isMeasure) (as := [.int a1]) ok_X7_isMeasure [some (.int a1)] rfl rfl tw_3_50 tw_1_170 nn_X7_isMeasure (Nat.le_of_ble_eq_true rfl) dX4_mayAsk_13 (j_X7_isMeasure g2) ?_
    by_cases c4 : r3 = 0
    · rw [if_pos c4] at hr
      rw [c4]
      cases hr
      exact j_ret dX4_mayAsk_16 m_rk_z0
    · rw [if_neg c4] at hr
      by_cases c5 : r3 = 1
      · rw [if_pos c5] at hr
        rw [c5]
        cases hr
        exact j_ret dX4_mayAsk_16 m_rk_z1
      · rw [if_neg c5] at hr
        cases hr
  · rw [if_neg c1] at hr
    refine j_iload_n (i := 0) rfl rfl dX4_mayAsk_6 ?_
    refine j_bipush (v := 61) rfl dX4_mayAsk_7 ?_
    refine j_ic_ne (tgt := 17) dX4_mayAsk_9 rfl (fun c6 => ?_) (fun c6 => ?_)
    · rw [if_neg c6] at hr
      refine j_iload_n (i := 0) rfl rfl dX4_mayAsk_17 ?_
      replace hr := m_bind hr; obtain ⟨r8, g7, hr⟩ := hr
      refine j_callS (Y' := Y_X1_isKindOrTrait) (as := [.int a0]) ok_X1_isKindOrTrait [some (.int a0)] rfl rfl tw_3_51 tw_2_55 nn_X1_isKindOrTrait (Nat.le_of_ble_eq_true rfl) dX4_mayAsk_18 (j_X1_isKindOrTrait (by omega) g7) ?_
      refine j_if_eq (tgt := 32) dX4_mayAsk_21 rfl (fun c9 => ?_) (fun c9 => ?_)
      · rw [if_pos c9] at hr
        refine j_iconst (v := 0) rfl dX4_mayAsk_32 ?_
        cases hr
        exact j_ret dX4_mayAsk_33 m_rk_z0
      · rw [if_neg c9] at hr
        refine j_iload_n (i := 1) rfl rfl dX4_mayAsk_24 ?_
        refine j_if_ne (tgt := 32) dX4_mayAsk_25 rfl (fun c10 => ?_) (fun c10 => ?_)
        · rw [if_neg c10] at hr
          refine j_iconst (v := 0) rfl dX4_mayAsk_32 ?_
          cases hr
          exact j_ret dX4_mayAsk_33 m_rk_z0
        · rw [if_pos c10] at hr
          refine j_iconst (v := 1) rfl dX4_mayAsk_28 ?_
          refine j_goto (tgt := 33) dX4_mayAsk_29 rfl ?_
          cases hr
          exact j_ret dX4_mayAsk_33 m_rk_z1
    · rw [if_pos c6] at hr
      refine j_iload_n (i := 1) rfl rfl dX4_mayAsk_12 ?_
      replace hr := m_bind hr; obtain ⟨r12, g11, hr⟩ := hr
      refine j_callS (Y' := Y_X7_isMeasure) (as := [.int a1]) ok_X7_isMeasure [some (.int a1)] rfl rfl tw_3_50 tw_1_170 nn_X7_isMeasure (Nat.le_of_ble_eq_true rfl) dX4_mayAsk_13 (j_X7_isMeasure g11) ?_
      by_cases c13 : r12 = 0
      · rw [if_pos c13] at hr
        rw [c13]
        cases hr
        exact j_ret dX4_mayAsk_16 m_rk_z0
      · rw [if_neg c13] at hr
        by_cases c14 : r12 = 1
        · rw [if_pos c14] at hr
          rw [c14]
          cases hr
          exact j_ret dX4_mayAsk_16 m_rk_z1
        · rw [if_neg c14] at hr
          cases hr
def f_X5_init (h : mH) (a0 : Nat) : Option (mH) :=
  (m_newl h 5).bind fun h1 =>
  (m_pf h1 a0 4 0 (va_rf ((some h.1)))).bind fun h3 =>
  (m_newi h3 245).bind fun h5 =>
  (m_pf h5 a0 4 1 (va_rf ((some h3.1)))).bind fun h7 =>
  some h7
def Y_X5_init : mY := (yX5_init, cX5_init, 1, none, .return_)
theorem ok_X5_init : m_Ok Y_X5_init := ⟨by decide +kernel, ⟨by decide +kernel, by decide +kernel⟩, tw_1_94, tw_1_5, by decide, Or.inl ⟨rfl, rfl⟩⟩
theorem nn_X5_init : (parseMethodDescriptor Y_X5_init.1.desc).map (fun q => q.parameters.length) = some 0 := by decide +kernel
set_option maxHeartbeats 4000000 in
set_option maxRecDepth 20000 in
theorem j_X5_init {X : mX} {d : Nat} {h : mH} {a0 : Nat} {h' : mH} (hd : 1 ≤ d) (hr : f_X5_init h a0 = some h') : m_J X Y_X5_init d 0 [some (.ref a0)] [] h (none, h') := by
  obtain ⟨d, rfl⟩ : ∃ k, d = k + 1 := ⟨d - 1, by omega⟩
  unfold f_X5_init at hr
  refine j_aload_n (i := 0) rfl rfl dX5_init_0 ?_
  refine j_objInit tw_1_95 (Nat.le_of_ble_eq_true rfl) dX5_init_1 ?_
  refine j_aload_n (i := 0) rfl rfl dX5_init_4 ?_
  refine j_iconst (v := 5) rfl dX5_init_5 ?_
  replace hr := m_bind hr; obtain ⟨h1, g2, hr⟩ := hr
  refine j_newl dX5_init_6 g2 ?_
  replace hr := m_bind hr; obtain ⟨h3, g4, hr⟩ := hr
  refine j_putrF (q := (some h.1)) (C := RX5) (T := TX5) (ty := tyX5) (N := 2) (ci := 4) (k := 0) rfl (by decide) inX5 tyX5_ok nmX5 tw_1_96 rfl rfl rfl rfl dX5_init_8 g4 ?_
  refine j_aload_n (i := 0) rfl rfl dX5_init_11 ?_
  refine j_sipush (v := 245) rfl dX5_init_12 ?_
  replace hr := m_bind hr; obtain ⟨h5, g6, hr⟩ := hr
  refine j_newi dX5_init_15 g6 ?_
  replace hr := m_bind hr; obtain ⟨h7, g8, hr⟩ := hr
  refine j_putrF (q := (some h3.1)) (C := RX5) (T := TX5) (ty := tyX5) (N := 2) (ci := 4) (k := 1) rfl (by decide) inX5 tyX5_ok nmX5 tw_1_97 rfl rfl rfl rfl dX5_init_17 g8 ?_
  cases hr
  exact j_ret dX5_init_20 m_rk_v
def f_X5_isField (a0 : Int32) : Option (Int32) :=
  if a0 < 0 then
    some 0
  else
    if 5 ≤ a0 then
      some 0
    else
      some 1
def Y_X5_isField : mY := (yX5_isField, cX5_isField, 1, some (FieldType.boolean), .ireturn)
theorem ok_X5_isField : m_Ok Y_X5_isField := ⟨by decide +kernel, ⟨by decide +kernel, by decide +kernel⟩, tw_2_143, tw_1_5, by decide, Or.inr (Or.inl ⟨Or.inr rfl, rfl⟩)⟩
theorem nn_X5_isField : (parseMethodDescriptor Y_X5_isField.1.desc).map (fun q => q.parameters.length) = some 1 := by decide +kernel
set_option maxHeartbeats 4000000 in
set_option maxRecDepth 20000 in
theorem j_X5_isField {X : mX} {h : mH} {d : Nat} {a0 : Int32} {rv : Int32} (hr : f_X5_isField a0 = some rv) : m_J X Y_X5_isField d 0 [some (.int a0)] [] h (some (.int rv), h) := by
  unfold f_X5_isField at hr
  refine j_iload_n (i := 0) rfl rfl dX5_isField_0 ?_
  refine j_if_lt (tgt := 13) dX5_isField_1 rfl (fun c1 => ?_) (fun c1 => ?_)
  · rw [if_pos c1] at hr
    refine j_iconst (v := 0) rfl dX5_isField_13 ?_
    cases hr
    exact j_ret dX5_isField_14 m_rk_z0
  · rw [if_neg c1] at hr
    refine j_iload_n (i := 0) rfl rfl dX5_isField_4 ?_
    refine j_iconst (v := 5) rfl dX5_isField_5 ?_
    refine j_ic_ge (tgt := 13) dX5_isField_6 rfl (fun c2 => ?_) (fun c2 => ?_)
    · rw [if_pos c2] at hr
      refine j_iconst (v := 0) rfl dX5_isField_13 ?_
      cases hr
      exact j_ret dX5_isField_14 m_rk_z0
    · rw [if_neg c2] at hr
      refine j_iconst (v := 1) rfl dX5_isField_9 ?_
      refine j_goto (tgt := 14) dX5_isField_10 rfl ?_
      cases hr
      exact j_ret dX5_isField_14 m_rk_z1
def f_X5_lay (h : mH) (a0 : Nat) (a1 : Int32) (a2 : Int32) (a3 : Int32) : Option (Int32 × mH) :=
  (f_X1_isKindOrTrait a1).bind fun r2 =>
  if r2 = 0 then
    some ((0, h))
  else
    (f_X5_isField a2).bind fun r5 =>
    if r5 = 0 then
      some ((0, h))
    else
      if a3 < 0 then
        some ((0, h))
      else
        (m_TI 3 a2).bind fun x8 =>
        if a3 ≤ x8 then
          (m_gr h a0 4 0).bind fun q11 =>
          (q11).bind fun b13 =>
          (m_lld h b13 a2).bind fun x15 =>
          (m_lst h b13 a2 (x15 ||| (((1 : Int64)) <<< ((a1 : Int32).toInt64 &&& 63)))).bind fun h17 =>
          (m_gr h17 a0 4 1).bind fun q19 =>
          (q19).bind fun b21 =>
          (m_ist h17 b21 ((a2 * 49) + a1) a3).bind fun h23 =>
          some ((1, h23))
        else
          some ((0, h))
def Y_X5_lay : mY := (yX5_lay, cX5_lay, 4, some (FieldType.boolean), .ireturn)
theorem ok_X5_lay : m_Ok Y_X5_lay := ⟨by decide +kernel, ⟨by decide +kernel, by decide +kernel⟩, tw_2_139, tw_1_5, by decide, Or.inr (Or.inl ⟨Or.inr rfl, rfl⟩)⟩
theorem nn_X5_lay : (parseMethodDescriptor Y_X5_lay.1.desc).map (fun q => q.parameters.length) = some 3 := by decide +kernel
set_option maxHeartbeats 4000000 in
set_option maxRecDepth 20000 in
theorem j_X5_lay {X : mX} {d : Nat} {h : mH} {a0 : Nat} {a1 : Int32} {a2 : Int32} {a3 : Int32} {rv : Int32} {h' : mH} (hd : 2 ≤ d) (hr : f_X5_lay h a0 a1 a2 a3 = some (rv, h')) : m_J X Y_X5_lay d 0 [some (.ref a0), some (.int a1), some (.int a2), some (.int a3)] [] h (some (.int rv), h') := by
  obtain ⟨d, rfl⟩ : ∃ k, d = k + 1 := ⟨d - 1, by omega⟩
  unfold f_X5_lay at hr
  refine j_iload_n (i := 1) rfl rfl dX5_lay_0 ?_
  replace hr := m_bind hr; obtain ⟨r2, g1, hr⟩ := hr
  refine j_callS (Y' := Y_X1_isKindOrTrait) (as := [.int a1]) ok_X1_isKindOrTrait [some (.int a1)] rfl rfl tw_2_140 tw_2_55 nn_X1_isKindOrTrait (Nat.le_of_ble_eq_true rfl) dX5_lay_1 (j_X1_isKindOrTrait (by omega) g1) ?_
  refine j_if_eq (tgt := 27) dX5_lay_4 rfl (fun c3 => ?_) (fun c3 => ?_)
  · rw [if_pos c3] at hr
    refine j_iconst (v := 0) rfl dX5_lay_27 ?_
    cases hr
    exact j_ret dX5_lay_28 m_rk_z0
  · rw [if_neg c3] at hr
    refine j_iload_n (i := 2) rfl rfl dX5_lay_7 ?_
    replace hr := m_bind hr; obtain ⟨r5, g4, hr⟩ := hr
    refine j_callS (Y' := Y_X5_isField) (as := [.int a2]) ok_X5_isField [some (.int a2)] rfl rfl tw_2_141 tw_2_142 nn_X5_isField (Nat.le_of_ble_eq_true rfl) dX5_lay_8 (j_X5_isField g4) ?_
    refine j_if_eq (tgt := 27) dX5_lay_11 rfl (fun c6 => ?_) (fun c6 => ?_)
    · rw [if_pos c6] at hr
      refine j_iconst (v := 0) rfl dX5_lay_27 ?_
      cases hr
      exact j_ret dX5_lay_28 m_rk_z0
    · rw [if_neg c6] at hr
      refine j_iload_n (i := 3) rfl rfl dX5_lay_14 ?_
      refine j_if_lt (tgt := 27) dX5_lay_15 rfl (fun c7 => ?_) (fun c7 => ?_)
      · rw [if_pos c7] at hr
        refine j_iconst (v := 0) rfl dX5_lay_27 ?_
        cases hr
        exact j_ret dX5_lay_28 m_rk_z0
      · rw [if_neg c7] at hr
        refine j_iload_n (i := 3) rfl rfl dX5_lay_18 ?_
        refine j_gets 3 (by decide) tw_2_144 dX5_lay_19 ?_
        refine j_iload_n (i := 2) rfl rfl dX5_lay_22 ?_
        replace hr := m_bind hr; obtain ⟨x8, g9, hr⟩ := hr
        refine j_tial 3 (by decide) rfl dX5_lay_23 ((m_TI_X (by decide)).trans g9) ?_
        refine j_ic_le (tgt := 29) dX5_lay_24 rfl (fun c10 => ?_) (fun c10 => ?_)
        · rw [if_pos c10] at hr
          refine j_aload_n (i := 0) rfl rfl dX5_lay_29 ?_
          replace hr := m_bind hr; obtain ⟨q11, g12, hr⟩ := hr
          refine j_getf (C := RX5) (T := TX5) (N := 2) (ci := 4) (k := 0) rfl (by decide) inX5 tw_1_96 dX5_lay_30 (m_gr_spec g12) ?_
          refine j_iload_n (i := 2) rfl rfl dX5_lay_33 ?_
          refine j_dup2 rfl (m_crf _) dX5_lay_34 ?_
          replace hr := m_bind hr; obtain ⟨b13, g14, hr⟩ := hr
          subst g14
          replace hr := m_bind hr; obtain ⟨x15, g16, hr⟩ := hr
          refine j_laload dX5_lay_35 g16 ?_
          refine j_lconst (v := 1) rfl dX5_lay_36 ?_
          refine j_iload_n (i := 1) rfl rfl dX5_lay_37 ?_
          refine j_lshl dX5_lay_38 ?_
          refine j_lor dX5_lay_39 ?_
          replace hr := m_bind hr; obtain ⟨h17, g18, hr⟩ := hr
          refine j_lastore dX5_lay_40 g18 ?_
          refine j_aload_n (i := 0) rfl rfl dX5_lay_41 ?_
          replace hr := m_bind hr; obtain ⟨q19, g20, hr⟩ := hr
          refine j_getf (C := RX5) (T := TX5) (N := 2) (ci := 4) (k := 1) rfl (by decide) inX5 tw_1_97 dX5_lay_42 (m_gr_spec g20) ?_
          refine j_iload_n (i := 2) rfl rfl dX5_lay_45 ?_
          refine j_bipush (v := 49) rfl dX5_lay_46 ?_
          refine j_imul dX5_lay_48 ?_
          refine j_iload_n (i := 1) rfl rfl dX5_lay_49 ?_
          refine j_iadd dX5_lay_50 ?_
          refine j_iload_n (i := 3) rfl rfl dX5_lay_51 ?_
          replace hr := m_bind hr; obtain ⟨b21, g22, hr⟩ := hr
          subst g22
          replace hr := m_bind hr; obtain ⟨h23, g24, hr⟩ := hr
          refine j_iastore dX5_lay_52 g24 ?_
          refine j_iconst (v := 1) rfl dX5_lay_53 ?_
          cases hr
          exact j_ret dX5_lay_54 m_rk_z1
        · rw [if_neg c10] at hr
          refine j_iconst (v := 0) rfl dX5_lay_27 ?_
          cases hr
          exact j_ret dX5_lay_28 m_rk_z0
def f_X5_drop (h : mH) (a0 : Nat) (a1 : Int32) (a2 : Int32) : Option (Int32 × mH) :=
  (f_X1_isKindOrTrait a1).bind fun r2 =>
  if r2 = 0 then
    some ((0, h))
  else
    (f_X5_isField a2).bind fun r5 =>
    if r5 = 0 then
      some ((0, h))
    else
      (m_gr h a0 4 0).bind fun q7 =>
      (q7).bind fun b9 =>
      (m_lld h b9 a2).bind fun x11 =>
      (f_X1_has x11 a1).bind fun r14 =>
      if r14 = 0 then
        some ((0, h))
      else
        (m_gr h a0 4 0).bind fun q16 =>
        (q16).bind fun b18 =>
        (m_lld h b18 a2).bind fun x20 =>
        (m_lst h b18 a2 (x20 &&& ((((1 : Int64)) <<< ((a1 : Int32).toInt64 &&& 63)) ^^^ (((-1) : Int64))))).bind fun h22 =>
        some ((1, h22))
def Y_X5_drop : mY := (yX5_drop, cX5_drop, 3, some (FieldType.boolean), .ireturn)
theorem ok_X5_drop : m_Ok Y_X5_drop := ⟨by decide +kernel, ⟨by decide +kernel, by decide +kernel⟩, tw_2_153, tw_1_5, by decide, Or.inr (Or.inl ⟨Or.inr rfl, rfl⟩)⟩
theorem nn_X5_drop : (parseMethodDescriptor Y_X5_drop.1.desc).map (fun q => q.parameters.length) = some 2 := by decide +kernel
set_option maxHeartbeats 4000000 in
set_option maxRecDepth 20000 in
theorem j_X5_drop {X : mX} {d : Nat} {h : mH} {a0 : Nat} {a1 : Int32} {a2 : Int32} {rv : Int32} {h' : mH} (hd : 2 ≤ d) (hr : f_X5_drop h a0 a1 a2 = some (rv, h')) : m_J X Y_X5_drop d 0 [some (.ref a0), some (.int a1), some (.int a2)] [] h (some (.int rv), h') := by
  obtain ⟨d, rfl⟩ : ∃ k, d = k + 1 := ⟨d - 1, by omega⟩
  unfold f_X5_drop at hr
  refine j_iload_n (i := 1) rfl rfl dX5_drop_0 ?_
  replace hr := m_bind hr; obtain ⟨r2, g1, hr⟩ := hr
  refine j_callS (Y' := Y_X1_isKindOrTrait) (as := [.int a1]) ok_X1_isKindOrTrait [some (.int a1)] rfl rfl tw_2_140 tw_2_55 nn_X1_isKindOrTrait (Nat.le_of_ble_eq_true rfl) dX5_drop_1 (j_X1_isKindOrTrait (by omega) g1) ?_
  refine j_if_eq (tgt := 27) dX5_drop_4 rfl (fun c3 => ?_) (fun c3 => ?_)
  · rw [if_pos c3] at hr
    refine j_iconst (v := 0) rfl dX5_drop_27 ?_
    cases hr
    exact j_ret dX5_drop_28 m_rk_z0
  · rw [if_neg c3] at hr
    refine j_iload_n (i := 2) rfl rfl dX5_drop_7 ?_
    replace hr := m_bind hr; obtain ⟨r5, g4, hr⟩ := hr
    refine j_callS (Y' := Y_X5_isField) (as := [.int a2]) ok_X5_isField [some (.int a2)] rfl rfl tw_2_141 tw_2_142 nn_X5_isField (Nat.le_of_ble_eq_true rfl) dX5_drop_8 (j_X5_isField g4) ?_
    refine j_if_eq (tgt := 27) dX5_drop_11 rfl (fun c6 => ?_) (fun c6 => ?_)
    · rw [if_pos c6] at hr
      refine j_iconst (v := 0) rfl dX5_drop_27 ?_
      cases hr
      exact j_ret dX5_drop_28 m_rk_z0
    · rw [if_neg c6] at hr
      refine j_aload_n (i := 0) rfl rfl dX5_drop_14 ?_
      replace hr := m_bind hr; obtain ⟨q7, g8, hr⟩ := hr
      refine j_getf (C := RX5) (T := TX5) (N := 2) (ci := 4) (k := 0) rfl (by decide) inX5 tw_1_96 dX5_drop_15 (m_gr_spec g8) ?_
      refine j_iload_n (i := 2) rfl rfl dX5_drop_18 ?_
      replace hr := m_bind hr; obtain ⟨b9, g10, hr⟩ := hr
      subst g10
      replace hr := m_bind hr; obtain ⟨x11, g12, hr⟩ := hr
      refine j_laload dX5_drop_19 g12 ?_
      refine j_iload_n (i := 1) rfl rfl dX5_drop_20 ?_
      replace hr := m_bind hr; obtain ⟨r14, g13, hr⟩ := hr
      refine j_callS (Y' := Y_X1_has) (as := [.long x11, .int a1]) ok_X1_has [some (.long x11), none, some (.int a1)] rfl rfl tw_2_154 tw_1_167 nn_X1_has (Nat.le_of_ble_eq_true rfl) dX5_drop_21 (j_X1_has g13) ?_
      refine j_if_ne (tgt := 29) dX5_drop_24 rfl (fun c15 => ?_) (fun c15 => ?_)
      · rw [if_neg c15] at hr
        refine j_aload_n (i := 0) rfl rfl dX5_drop_29 ?_
        replace hr := m_bind hr; obtain ⟨q16, g17, hr⟩ := hr
        refine j_getf (C := RX5) (T := TX5) (N := 2) (ci := 4) (k := 0) rfl (by decide) inX5 tw_1_96 dX5_drop_30 (m_gr_spec g17) ?_
        refine j_iload_n (i := 2) rfl rfl dX5_drop_33 ?_
        refine j_dup2 rfl (m_crf _) dX5_drop_34 ?_
        replace hr := m_bind hr; obtain ⟨b18, g19, hr⟩ := hr
        subst g19
        replace hr := m_bind hr; obtain ⟨x20, g21, hr⟩ := hr
        refine j_laload dX5_drop_35 g21 ?_
        refine j_lconst (v := 1) rfl dX5_drop_36 ?_
        refine j_iload_n (i := 1) rfl rfl dX5_drop_37 ?_
        refine j_lshl dX5_drop_38 ?_
        refine j_ldc2 (v := (-1)) tw_2_155 dX5_drop_39 ?_
        refine j_lxor dX5_drop_42 ?_
        refine j_land dX5_drop_43 ?_
        replace hr := m_bind hr; obtain ⟨h22, g23, hr⟩ := hr
        refine j_lastore dX5_drop_44 g23 ?_
        refine j_iconst (v := 1) rfl dX5_drop_45 ?_
        cases hr
        exact j_ret dX5_drop_46 m_rk_z1
      · rw [if_pos c15] at hr
        refine j_iconst (v := 0) rfl dX5_drop_27 ?_
        cases hr
        exact j_ret dX5_drop_28 m_rk_z0
def f_J13_bitCount_95d88 (a0 : Int64) : Option (Int32) :=
  (some (a0 - ((((a0 : Int64).toUInt64 >>> ((1 : Int32).toInt64.toUInt64 &&& Int64.toUInt64 63)).toInt64) &&& ((6148914691236517205 : Int64))) : Int64)).bind fun y1 =>
  (some ((y1 &&& ((3689348814741910323 : Int64))) + ((((y1 : Int64).toUInt64 >>> ((2 : Int32).toInt64.toUInt64 &&& Int64.toUInt64 63)).toInt64) &&& ((3689348814741910323 : Int64))) : Int64)).bind fun y3 =>
  (some ((y3 + (((y3 : Int64).toUInt64 >>> ((4 : Int32).toInt64.toUInt64 &&& Int64.toUInt64 63)).toInt64)) &&& ((1085102592571150095 : Int64)) : Int64)).bind fun y5 =>
  (some (y5 + (((y5 : Int64).toUInt64 >>> ((8 : Int32).toInt64.toUInt64 &&& Int64.toUInt64 63)).toInt64) : Int64)).bind fun y7 =>
  (some (y7 + (((y7 : Int64).toUInt64 >>> ((16 : Int32).toInt64.toUInt64 &&& Int64.toUInt64 63)).toInt64) : Int64)).bind fun y9 =>
  (some (y9 + (((y9 : Int64).toUInt64 >>> ((32 : Int32).toInt64.toUInt64 &&& Int64.toUInt64 63)).toInt64) : Int64)).bind fun y11 =>
  some (((y11 : Int64).toInt32) &&& 127)
def Y_J13_bitCount_95d88 : mY := (yJ13_bitCount_95d88, cJ13_bitCount_95d88, 2, some (FieldType.int), .ireturn)
theorem ok_J13_bitCount_95d88 : m_Ok Y_J13_bitCount_95d88 := ⟨by decide +kernel, ⟨by decide +kernel, by decide +kernel⟩, tw_3_171, tw_1_13, by decide, Or.inr (Or.inl ⟨Or.inl rfl, rfl⟩)⟩
theorem nn_J13_bitCount_95d88 : (parseMethodDescriptor Y_J13_bitCount_95d88.1.desc).map (fun q => q.parameters.length) = some 1 := by decide +kernel
set_option maxHeartbeats 4000000 in
set_option maxRecDepth 20000 in
theorem j_J13_bitCount_95d88 {X : mX} {h : mH} {d : Nat} {a0 : Int64} {rv : Int32} (hr : f_J13_bitCount_95d88 a0 = some rv) : m_J X Y_J13_bitCount_95d88 d 0 [some (.long a0), none] [] h (some (.int rv), h) := by
  unfold f_J13_bitCount_95d88 at hr
  refine j_lload_n (i := 0) rfl rfl dJ13_bitCount_95d88_0 ?_
  refine j_lload_n (i := 0) rfl rfl dJ13_bitCount_95d88_1 ?_
  refine j_iconst (v := 1) rfl dJ13_bitCount_95d88_2 ?_
  refine j_lushr dJ13_bitCount_95d88_3 ?_
  refine j_ldc2 (v := 6148914691236517205) tw_3_172 dJ13_bitCount_95d88_4 ?_
  refine j_land dJ13_bitCount_95d88_7 ?_
  refine j_lsub dJ13_bitCount_95d88_8 ?_
  replace hr := m_bind hr; obtain ⟨y1, g2, hr⟩ := hr
  rw [show (a0 - ((((a0 : Int64).toUInt64 >>> ((1 : Int32).toInt64.toUInt64 &&& Int64.toUInt64 63)).toInt64) &&& ((6148914691236517205 : Int64))) : Int64) = y1 from Option.some.inj g2]
  refine j_lstore_n (i := 0) (L' := [some (.long y1), none]) rfl (Nat.le_of_ble_eq_true rfl) rfl rfl dJ13_bitCount_95d88_9 ?_
  refine j_lload_n (i := 0) rfl rfl dJ13_bitCount_95d88_10 ?_
  refine j_ldc2 (v := 3689348814741910323) tw_3_173 dJ13_bitCount_95d88_11 ?_
  refine j_land dJ13_bitCount_95d88_14 ?_
  refine j_lload_n (i := 0) rfl rfl dJ13_bitCount_95d88_15 ?_
  refine j_iconst (v := 2) rfl dJ13_bitCount_95d88_16 ?_
  refine j_lushr dJ13_bitCount_95d88_17 ?_
  refine j_ldc2 (v := 3689348814741910323) tw_3_173 dJ13_bitCount_95d88_18 ?_
  refine j_land dJ13_bitCount_95d88_21 ?_
  refine j_ladd dJ13_bitCount_95d88_22 ?_
  replace hr := m_bind hr; obtain ⟨y3, g4, hr⟩ := hr
  rw [show ((y1 &&& ((3689348814741910323 : Int64))) + ((((y1 : Int64).toUInt64 >>> ((2 : Int32).toInt64.toUInt64 &&& Int64.toUInt64 63)).toInt64) &&& ((3689348814741910323 : Int64))) : Int64) = y3 from Option.some.inj g4]
  refine j_lstore_n (i := 0) (L' := [some (.long y3), none]) rfl (Nat.le_of_ble_eq_true rfl) rfl rfl dJ13_bitCount_95d88_23 ?_
  refine j_lload_n (i := 0) rfl rfl dJ13_bitCount_95d88_24 ?_
  refine j_lload_n (i := 0) rfl rfl dJ13_bitCount_95d88_25 ?_
  refine j_iconst (v := 4) rfl dJ13_bitCount_95d88_26 ?_
  refine j_lushr dJ13_bitCount_95d88_27 ?_
  refine j_ladd dJ13_bitCount_95d88_28 ?_
  refine j_ldc2 (v := 1085102592571150095) tw_3_174 dJ13_bitCount_95d88_29 ?_
  refine j_land dJ13_bitCount_95d88_32 ?_
  replace hr := m_bind hr; obtain ⟨y5, g6, hr⟩ := hr
  rw [show ((y3 + (((y3 : Int64).toUInt64 >>> ((4 : Int32).toInt64.toUInt64 &&& Int64.toUInt64 63)).toInt64)) &&& ((1085102592571150095 : Int64)) : Int64) = y5 from Option.some.inj g6]
  refine j_lstore_n (i := 0) (L' := [some (.long y5), none]) rfl (Nat.le_of_ble_eq_true rfl) rfl rfl dJ13_bitCount_95d88_33 ?_
  refine j_lload_n (i := 0) rfl rfl dJ13_bitCount_95d88_34 ?_
  refine j_lload_n (i := 0) rfl rfl dJ13_bitCount_95d88_35 ?_
  refine j_bipush (v := 8) rfl dJ13_bitCount_95d88_36 ?_
  refine j_lushr dJ13_bitCount_95d88_38 ?_
  refine j_ladd dJ13_bitCount_95d88_39 ?_
  replace hr := m_bind hr; obtain ⟨y7, g8, hr⟩ := hr
  rw [show (y5 + (((y5 : Int64).toUInt64 >>> ((8 : Int32).toInt64.toUInt64 &&& Int64.toUInt64 63)).toInt64) : Int64) = y7 from Option.some.inj g8]
  refine j_lstore_n (i := 0) (L' := [some (.long y7), none]) rfl (Nat.le_of_ble_eq_true rfl) rfl rfl dJ13_bitCount_95d88_40 ?_
  refine j_lload_n (i := 0) rfl rfl dJ13_bitCount_95d88_41 ?_
  refine j_lload_n (i := 0) rfl rfl dJ13_bitCount_95d88_42 ?_
  refine j_bipush (v := 16) rfl dJ13_bitCount_95d88_43 ?_
  refine j_lushr dJ13_bitCount_95d88_45 ?_
  refine j_ladd dJ13_bitCount_95d88_46 ?_
  replace hr := m_bind hr; obtain ⟨y9, g10, hr⟩ := hr
  rw [show (y7 + (((y7 : Int64).toUInt64 >>> ((16 : Int32).toInt64.toUInt64 &&& Int64.toUInt64 63)).toInt64) : Int64) = y9 from Option.some.inj g10]
  refine j_lstore_n (i := 0) (L' := [some (.long y9), none]) rfl (Nat.le_of_ble_eq_true rfl) rfl rfl dJ13_bitCount_95d88_47 ?_
  refine j_lload_n (i := 0) rfl rfl dJ13_bitCount_95d88_48 ?_
  refine j_lload_n (i := 0) rfl rfl dJ13_bitCount_95d88_49 ?_
  refine j_bipush (v := 32) rfl dJ13_bitCount_95d88_50 ?_
  refine j_lushr dJ13_bitCount_95d88_52 ?_
  refine j_ladd dJ13_bitCount_95d88_53 ?_
  replace hr := m_bind hr; obtain ⟨y11, g12, hr⟩ := hr
  rw [show (y9 + (((y9 : Int64).toUInt64 >>> ((32 : Int32).toInt64.toUInt64 &&& Int64.toUInt64 63)).toInt64) : Int64) = y11 from Option.some.inj g12]
  refine j_lstore_n (i := 0) (L' := [some (.long y11), none]) rfl (Nat.le_of_ble_eq_true rfl) rfl rfl dJ13_bitCount_95d88_54 ?_
  refine j_lload_n (i := 0) rfl rfl dJ13_bitCount_95d88_55 ?_
  refine j_l2i dJ13_bitCount_95d88_56 ?_
  refine j_bipush (v := 127) rfl dJ13_bitCount_95d88_57 ?_
  refine j_iand dJ13_bitCount_95d88_59 ?_
  cases hr
  exact j_ret dJ13_bitCount_95d88_60 m_rk_i
def w_X5_size_4 (h : mH) (a0 : Nat) : (Int32 × Int32) → Option ((Int32 × Int32) ⊕ (Int32)) := fun s_1 =>
  if 5 ≤ s_1.2 then
    some (.inr s_1.1)
  else
    (m_gr h a0 4 0).bind fun q3 =>
    (q3).bind fun b5 =>
    (m_lld h b5 s_1.2).bind fun x7 =>
    (f_J13_bitCount_95d88 x7).bind fun r10 =>
    some (.inl (s_1.1 + r10, s_1.2 + 1))
def f_X5_size (h : mH) (a0 : Nat) : Option (Int32) :=
  (m_loop (w_X5_size_4 h a0) 5000 ((0, 0))).bind fun e11 =>
  some e11
def Y_X5_size : mY := (yX5_size, cX5_size, 3, some (FieldType.int), .ireturn)
theorem ok_X5_size : m_Ok Y_X5_size := ⟨by decide +kernel, ⟨by decide +kernel, by decide +kernel⟩, tw_3_168, tw_1_5, by decide, Or.inr (Or.inl ⟨Or.inl rfl, rfl⟩)⟩
theorem nn_X5_size : (parseMethodDescriptor Y_X5_size.1.desc).map (fun q => q.parameters.length) = some 0 := by decide +kernel
set_option maxHeartbeats 4000000 in
set_option maxRecDepth 20000 in
theorem j_X5_size {X : mX} {d : Nat} {h : mH} {a0 : Nat} {rv : Int32} (hd : 1 ≤ d) (hr : f_X5_size h a0 = some rv) : m_J X Y_X5_size d 0 [some (.ref a0), none, none] [] h (some (.int rv), h) := by
  obtain ⟨d, rfl⟩ : ∃ k, d = k + 1 := ⟨d - 1, by omega⟩
  unfold f_X5_size at hr
  refine j_iconst (v := 0) rfl dX5_size_0 ?_
  refine j_istore_n (i := 1) (L' := [some (.ref a0), some (.int 0), none]) rfl (Nat.le_of_ble_eq_true rfl) rfl rfl dX5_size_1 ?_
  refine j_iconst (v := 0) rfl dX5_size_2 ?_
  refine j_istore_n (i := 2) (L' := [some (.ref a0), some (.int 0), some (.int 0)]) rfl (Nat.le_of_ble_eq_true rfl) rfl rfl dX5_size_3 ?_
  replace hr := m_bind hr; obtain ⟨e11, q14, hr⟩ := hr
  refine j_weak (L' := [some (.ref a0), some (.int 0), some (.int 0)]) (And.intro rfl (And.intro rfl (And.intro rfl trivial))) ?_
  refine m_loop_sound (step := w_X5_size_4 h a0) (P := fun s_1 => m_J X Y_X5_size (d + 1) 4 [some (.ref a0), some (.int s_1.1), some (.int s_1.2)] [] h (some (.int rv), h)) (Qe := fun e11 => m_J X Y_X5_size (d + 1) 27 [none, some (.int e11), none] [] h (some (.int rv), h)) ?_ _ _ _ q14 ?_
  · intro s_1 o hr hk
    unfold w_X5_size_4 at hr
    refine j_iload_n (i := 2) rfl rfl dX5_size_4 ?_
    refine j_iconst (v := 5) rfl dX5_size_5 ?_
    refine j_ic_ge (tgt := 27) dX5_size_6 rfl (fun c2 => ?_) (fun c2 => ?_)
    · rw [if_pos c2] at hr
      cases hr
      exact j_weak (L' := [none, some (.int s_1.1), none]) (And.intro rfl trivial) hk
    · rw [if_neg c2] at hr
      refine j_iload_n (i := 1) rfl rfl dX5_size_9 ?_
      refine j_aload_n (i := 0) rfl rfl dX5_size_10 ?_
      replace hr := m_bind hr; obtain ⟨q3, g4, hr⟩ := hr
      refine j_getf (C := RX5) (T := TX5) (N := 2) (ci := 4) (k := 0) rfl (by decide) inX5 tw_1_96 dX5_size_11 (m_gr_spec g4) ?_
      refine j_iload_n (i := 2) rfl rfl dX5_size_14 ?_
      replace hr := m_bind hr; obtain ⟨b5, g6, hr⟩ := hr
      subst g6
      replace hr := m_bind hr; obtain ⟨x7, g8, hr⟩ := hr
      refine j_laload dX5_size_15 g8 ?_
      replace hr := m_bind hr; obtain ⟨r10, g9, hr⟩ := hr
      refine j_callS (Y' := Y_J13_bitCount_95d88) (as := [.long x7]) ok_J13_bitCount_95d88 [some (.long x7), none] rfl rfl tw_3_169 tw_3_170 nn_J13_bitCount_95d88 (Nat.le_of_ble_eq_true rfl) dX5_size_16 (j_J13_bitCount_95d88 g9) ?_
      refine j_iadd dX5_size_19 ?_
      refine j_istore_n (i := 1) (L' := [some (.ref a0), some (.int (s_1.1 + r10)), some (.int s_1.2)]) rfl (Nat.le_of_ble_eq_true rfl) rfl rfl dX5_size_20 ?_
      refine j_iinc (i := 2) (v := s_1.2 + 1) (L' := [some (.ref a0), some (.int (s_1.1 + r10)), some (.int (s_1.2 + 1))]) rfl (m_o1 _) (Nat.le_of_ble_eq_true rfl) rfl rfl dX5_size_21 ?_
      refine j_goto (tgt := 4) dX5_size_24 rfl ?_
      cases hr
      exact j_weak (L' := [some (.ref a0), some (.int (s_1.1 + r10)), some (.int (s_1.2 + 1))]) (And.intro rfl (And.intro rfl (And.intro rfl trivial))) hk
  · skip
    refine j_iload_n (i := 1) rfl rfl dX5_size_27 ?_
    cases hr
    exact j_ret dX5_size_28 m_rk_i
def w_X5_nearestOf_14 (h : mH) (a0 : Nat) (a2 : Int32) : (Int32 × Int32) → Option ((Int32 × Int32) ⊕ ((Unit) ⊕ (Int64))) := fun s_4 =>
  if 24 ≤ s_4.2 then
    some (.inr (.inl ()))
  else
    (f_X1_isKind s_4.1).bind fun r7 =>
    if r7 = 0 then
      some (.inr (.inl ()))
    else
      (m_gr h a0 4 0).bind fun q9 =>
      (q9).bind fun b11 =>
      (m_lld h b11 a2).bind fun x13 =>
      (f_X1_has x13 s_4.1).bind fun r16 =>
      if r16 = 0 then
        (f_X1_namedBy s_4.1).bind fun r19 =>
        (m_gr h a0 4 0).bind fun q20 =>
        (q20).bind fun b22 =>
        (m_lld h b22 a2).bind fun x24 =>
        if (lg_cmp (r19 &&& x24) ((0 : Int64))) = 0 then
          (f_X1_parentOf s_4.1).bind fun r28 =>
          some (.inl (r28, s_4.2 + 1))
        else
          (f_X1_lowest (r19 &&& x24)).bind fun r30 =>
          some (.inr (.inr r30))
      else
        some (.inr (.inr (((1 : Int64)) <<< ((s_4.1 : Int32).toInt64 &&& 63))))
def f_X5_nearestOf (h : mH) (a0 : Nat) (a1 : Int32) (a2 : Int32) : Option (Int64) :=
  (f_X5_isField a2).bind fun r2 =>
  if r2 = 0 then
    some ((0 : Int64))
  else
    (m_loop (w_X5_nearestOf_14 h a0 a2) 5000 ((a1, 0))).bind fun e31 => match e31 with
    | .inl x32 =>
      some ((0 : Int64))
    | .inr v34 => some v34
def Y_X5_nearestOf : mY := (yX5_nearestOf, cX5_nearestOf, 7, some (FieldType.long), .lreturn)
theorem ok_X5_nearestOf : m_Ok Y_X5_nearestOf := ⟨by decide +kernel, ⟨by decide +kernel, by decide +kernel⟩, tw_2_167, tw_1_5, by decide, Or.inr (Or.inr (Or.inl ⟨rfl, rfl⟩))⟩
theorem nn_X5_nearestOf : (parseMethodDescriptor Y_X5_nearestOf.1.desc).map (fun q => q.parameters.length) = some 2 := by decide +kernel
set_option maxHeartbeats 4000000 in
set_option maxRecDepth 20000 in
theorem j_X5_nearestOf {X : mX} {d : Nat} {h : mH} {a0 : Nat} {a1 : Int32} {a2 : Int32} {rv : Int64} (hd : 2 ≤ d) (hr : f_X5_nearestOf h a0 a1 a2 = some rv) : m_J X Y_X5_nearestOf d 0 [some (.ref a0), some (.int a1), some (.int a2), none, none, none, none] [] h (some (.long rv), h) := by
  obtain ⟨d, rfl⟩ : ∃ k, d = k + 1 := ⟨d - 1, by omega⟩
  unfold f_X5_nearestOf at hr
  refine j_iload_n (i := 2) rfl rfl dX5_nearestOf_0 ?_
  replace hr := m_bind hr; obtain ⟨r2, g1, hr⟩ := hr
  refine j_callS (Y' := Y_X5_isField) (as := [.int a2]) ok_X5_isField [some (.int a2)] rfl rfl tw_2_141 tw_2_142 nn_X5_isField (Nat.le_of_ble_eq_true rfl) dX5_nearestOf_1 (j_X5_isField g1) ?_
  refine j_if_ne (tgt := 9) dX5_nearestOf_4 rfl (fun c3 => ?_) (fun c3 => ?_)
  · rw [if_neg c3] at hr
    refine j_iload_n (i := 1) rfl rfl dX5_nearestOf_9 ?_
    refine j_istore_n (i := 3) (L' := [some (.ref a0), some (.int a1), some (.int a2), some (.int a1), none, none, none]) rfl (Nat.le_of_ble_eq_true rfl) rfl rfl dX5_nearestOf_10 ?_
    refine j_iconst (v := 0) rfl dX5_nearestOf_11 ?_
    refine j_istore (i := 4) (L' := [some (.ref a0), some (.int a1), some (.int a2), some (.int a1), some (.int 0), none, none]) (Nat.le_of_ble_eq_true rfl) rfl rfl dX5_nearestOf_12 ?_
    replace hr := m_bind hr; obtain ⟨e31, q35, hr⟩ := hr
    refine j_weak (L' := [some (.ref a0), none, some (.int a2), some (.int a1), some (.int 0), none, none]) (And.intro rfl (And.intro rfl (And.intro rfl (And.intro rfl trivial)))) ?_
    refine m_loop_sound (step := w_X5_nearestOf_14 h a0 a2) (P := fun s_4 => m_J X Y_X5_nearestOf (d + 1) 14 [some (.ref a0), none, some (.int a2), some (.int s_4.1), some (.int s_4.2), none, none] [] h (some (.long rv), h)) (Qe := fun e31 => match e31 with | .inl x32 => m_J X Y_X5_nearestOf (d + 1) 82 [none, none, none, none, none, none, none] [] h (some (.long rv), h) | .inr v34 => ((some (.long rv), h) : mR) = (some (.long v34), h)) ?_ _ _ _ q35 ?_
    · intro s_4 o hr hk
      unfold w_X5_nearestOf_14 at hr
      refine j_iload (i := 4) rfl dX5_nearestOf_14 ?_
      refine j_bipush (v := 24) rfl dX5_nearestOf_16 ?_
      refine j_ic_ge (tgt := 82) dX5_nearestOf_18 rfl (fun c5 => ?_) (fun c5 => ?_)
      · rw [if_pos c5] at hr
        cases hr
        exact j_weak (L' := [none, none, none, none, none, none, none]) trivial hk
      · rw [if_neg c5] at hr
        refine j_iload_n (i := 3) rfl rfl dX5_nearestOf_21 ?_
        replace hr := m_bind hr; obtain ⟨r7, g6, hr⟩ := hr
        refine j_callS (Y' := Y_X1_isKind) (as := [.int s_4.1]) ok_X1_isKind [some (.int s_4.1)] rfl rfl tw_2_168 tw_1_163 nn_X1_isKind (Nat.le_of_ble_eq_true rfl) dX5_nearestOf_22 (j_X1_isKind g6) ?_
        refine j_if_eq (tgt := 82) dX5_nearestOf_25 rfl (fun c8 => ?_) (fun c8 => ?_)
        · rw [if_pos c8] at hr
          cases hr
          exact j_weak (L' := [none, none, none, none, none, none, none]) trivial hk
        · rw [if_neg c8] at hr
          refine j_aload_n (i := 0) rfl rfl dX5_nearestOf_28 ?_
          replace hr := m_bind hr; obtain ⟨q9, g10, hr⟩ := hr
          refine j_getf (C := RX5) (T := TX5) (N := 2) (ci := 4) (k := 0) rfl (by decide) inX5 tw_1_96 dX5_nearestOf_29 (m_gr_spec g10) ?_
          refine j_iload_n (i := 2) rfl rfl dX5_nearestOf_32 ?_
          replace hr := m_bind hr; obtain ⟨b11, g12, hr⟩ := hr
          subst g12
          replace hr := m_bind hr; obtain ⟨x13, g14, hr⟩ := hr
          refine j_laload dX5_nearestOf_33 g14 ?_
          refine j_iload_n (i := 3) rfl rfl dX5_nearestOf_34 ?_
          replace hr := m_bind hr; obtain ⟨r16, g15, hr⟩ := hr
          refine j_callS (Y' := Y_X1_has) (as := [.long x13, .int s_4.1]) ok_X1_has [some (.long x13), none, some (.int s_4.1)] rfl rfl tw_2_154 tw_1_167 nn_X1_has (Nat.le_of_ble_eq_true rfl) dX5_nearestOf_35 (j_X1_has g15) ?_
          refine j_if_eq (tgt := 45) dX5_nearestOf_38 rfl (fun c17 => ?_) (fun c17 => ?_)
          · rw [if_pos c17] at hr
            refine j_iload_n (i := 3) rfl rfl dX5_nearestOf_45 ?_
            replace hr := m_bind hr; obtain ⟨r19, g18, hr⟩ := hr
            refine j_callS (Y' := Y_X1_namedBy) (as := [.int s_4.1]) ok_X1_namedBy [some (.int s_4.1)] rfl rfl tw_2_169 tw_2_170 nn_X1_namedBy (Nat.le_of_ble_eq_true rfl) dX5_nearestOf_46 (j_X1_namedBy (by omega) g18) ?_
            refine j_aload_n (i := 0) rfl rfl dX5_nearestOf_49 ?_
            replace hr := m_bind hr; obtain ⟨q20, g21, hr⟩ := hr
            refine j_getf (C := RX5) (T := TX5) (N := 2) (ci := 4) (k := 0) rfl (by decide) inX5 tw_1_96 dX5_nearestOf_50 (m_gr_spec g21) ?_
            refine j_iload_n (i := 2) rfl rfl dX5_nearestOf_53 ?_
            replace hr := m_bind hr; obtain ⟨b22, g23, hr⟩ := hr
            subst g23
            replace hr := m_bind hr; obtain ⟨x24, g25, hr⟩ := hr
            refine j_laload dX5_nearestOf_54 g25 ?_
            refine j_land dX5_nearestOf_55 ?_
            refine j_lstore (i := 5) (L' := [some (.ref a0), none, some (.int a2), some (.int s_4.1), some (.int s_4.2), some (.long (r19 &&& x24)), none]) (Nat.le_of_ble_eq_true rfl) rfl rfl dX5_nearestOf_56 ?_
            refine j_lload (i := 5) rfl dX5_nearestOf_58 ?_
            refine j_lconst (v := 0) rfl dX5_nearestOf_60 ?_
            refine j_lcmp dX5_nearestOf_61 ?_
            refine j_if_eq (tgt := 71) dX5_nearestOf_62 rfl (fun c26 => ?_) (fun c26 => ?_)
            · rw [if_pos c26] at hr
              refine j_iload_n (i := 3) rfl rfl dX5_nearestOf_71 ?_
              replace hr := m_bind hr; obtain ⟨r28, g27, hr⟩ := hr
              refine j_callS (Y' := Y_X1_parentOf) (as := [.int s_4.1]) ok_X1_parentOf [some (.int s_4.1)] rfl rfl tw_2_173 tw_2_174 nn_X1_parentOf (Nat.le_of_ble_eq_true rfl) dX5_nearestOf_72 (j_X1_parentOf (by omega) g27) ?_
              refine j_istore_n (i := 3) (L' := [some (.ref a0), none, some (.int a2), some (.int r28), some (.int s_4.2), some (.long (r19 &&& x24)), none]) rfl (Nat.le_of_ble_eq_true rfl) rfl rfl dX5_nearestOf_75 ?_
              refine j_iinc (i := 4) (v := s_4.2 + 1) (L' := [some (.ref a0), none, some (.int a2), some (.int r28), some (.int (s_4.2 + 1)), some (.long (r19 &&& x24)), none]) rfl (m_o1 _) (Nat.le_of_ble_eq_true rfl) rfl rfl dX5_nearestOf_76 ?_
              refine j_goto (tgt := 14) dX5_nearestOf_79 rfl ?_
              cases hr
              exact j_weak (L' := [some (.ref a0), none, some (.int a2), some (.int r28), some (.int (s_4.2 + 1)), none, none]) (And.intro rfl (And.intro rfl (And.intro rfl (And.intro rfl trivial)))) hk
            · rw [if_neg c26] at hr
              refine j_lload (i := 5) rfl dX5_nearestOf_65 ?_
              replace hr := m_bind hr; obtain ⟨r30, g29, hr⟩ := hr
              refine j_callS (Y' := Y_X1_lowest) (as := [.long (r19 &&& x24)]) ok_X1_lowest [some (.long (r19 &&& x24)), none, none, none, none] rfl rfl tw_2_172 tw_2_126 nn_X1_lowest (Nat.le_of_ble_eq_true rfl) dX5_nearestOf_67 (j_X1_lowest (by omega) g29) ?_
              cases hr
              rw [show _ = _ from hk]
              exact j_ret dX5_nearestOf_70 m_rk_l
          · rw [if_neg c17] at hr
            refine j_lconst (v := 1) rfl dX5_nearestOf_41 ?_
            refine j_iload_n (i := 3) rfl rfl dX5_nearestOf_42 ?_
            refine j_lshl dX5_nearestOf_43 ?_
            cases hr
            rw [show _ = _ from hk]
            exact j_ret dX5_nearestOf_44 m_rk_l
    · cases e31 with
      | inl x32 =>
        dsimp only at hr
        dsimp only
        refine j_lconst (v := 0) rfl dX5_nearestOf_82 ?_
        cases hr
        exact j_ret dX5_nearestOf_83 m_rk_l
      | inr v34 =>
        dsimp only at hr
        cases hr
        rfl
  · rw [if_pos c3] at hr
    refine j_lconst (v := 0) rfl dX5_nearestOf_7 ?_
    cases hr
    exact j_ret dX5_nearestOf_8 m_rk_l
def w_X5_answer_22 (h : mH) (a0 : Nat) (a2 : Int32) (r5 : Int64) : (Int32 × Int32) → Option ((Int32 × Int32) ⊕ ((Int32) ⊕ (Int32))) := fun s_6 =>
  if 49 ≤ s_6.2 then
    some (.inr (.inl s_6.1))
  else
    (f_X1_has r5 s_6.2).bind fun r9 =>
    if r9 = 0 then
      some (.inl (s_6.1, s_6.2 + 1))
    else
      (m_gr h a0 4 1).bind fun q11 =>
      (q11).bind fun b13 =>
      (m_ild h b13 ((a2 * 49) + s_6.2)).bind fun x15 =>
      if s_6.1 = ((-1)) then
        some (.inl (x15, s_6.2 + 1))
      else
        if s_6.1 = x15 then
          some (.inl (x15, s_6.2 + 1))
        else
          some (.inr (.inr ((-2))))
def f_X5_answer (h : mH) (a0 : Nat) (a1 : Int32) (a2 : Int32) : Option (Int32) :=
  (f_X5_isField a2).bind fun r2 =>
  if r2 = 0 then
    some ((-1))
  else
    if m_ob h a0 4 = true then
      (f_X5_nearestOf h a0 a1 a2).bind fun r5 =>
      (m_loop (w_X5_answer_22 h a0 a2 r5) 5000 (((-1), 0))).bind fun e19 => match e19 with
      | .inl x20 =>
        some x20
      | .inr v22 => some v22
    else none
def Y_X5_answer : mY := (yX5_answer, cX5_answer, 8, some (FieldType.int), .ireturn)
theorem ok_X5_answer : m_Ok Y_X5_answer := ⟨by decide +kernel, ⟨by decide +kernel, by decide +kernel⟩, tw_2_163, tw_1_5, by decide, Or.inr (Or.inl ⟨Or.inl rfl, rfl⟩)⟩
theorem nn_X5_answer : (parseMethodDescriptor Y_X5_answer.1.desc).map (fun q => q.parameters.length) = some 2 := by decide +kernel
set_option maxHeartbeats 4000000 in
set_option maxRecDepth 20000 in
theorem j_X5_answer {X : mX} {d : Nat} {h : mH} {a0 : Nat} {a1 : Int32} {a2 : Int32} {rv : Int32} (hd : 3 ≤ d) (hr : f_X5_answer h a0 a1 a2 = some rv) : m_J X Y_X5_answer d 0 [some (.ref a0), some (.int a1), some (.int a2), none, none, none, none, none] [] h (some (.int rv), h) := by
  obtain ⟨d, rfl⟩ : ∃ k, d = k + 1 := ⟨d - 1, by omega⟩
  unfold f_X5_answer at hr
  refine j_iload_n (i := 2) rfl rfl dX5_answer_0 ?_
  replace hr := m_bind hr; obtain ⟨r2, g1, hr⟩ := hr
  refine j_callS (Y' := Y_X5_isField) (as := [.int a2]) ok_X5_isField [some (.int a2)] rfl rfl tw_2_141 tw_2_142 nn_X5_isField (Nat.le_of_ble_eq_true rfl) dX5_answer_1 (j_X5_isField g1) ?_
  refine j_if_ne (tgt := 9) dX5_answer_4 rfl (fun c3 => ?_) (fun c3 => ?_)
  · rw [if_neg c3] at hr
    refine j_aload_n (i := 0) rfl rfl dX5_answer_9 ?_
    refine j_iload_n (i := 1) rfl rfl dX5_answer_10 ?_
    refine j_iload_n (i := 2) rfl rfl dX5_answer_11 ?_
    by_cases o24 : m_ob h a0 4 = true
    · rw [if_pos o24] at hr
      replace hr := m_bind hr; obtain ⟨r5, g4, hr⟩ := hr
      refine j_callV (Y' := Y_X5_nearestOf) (a := a0) (as := [.int a1, .int a2]) (ci := 4) (T := TX5) (N := 2) ok_X5_nearestOf [some (.ref a0), some (.int a1), some (.int a2), none, none, none, none] rfl rfl rfl tw_2_164 tw_2_165 tw_2_166 nn_X5_nearestOf (Nat.le_of_ble_eq_true rfl) dX5_answer_12 o24 (j_X5_nearestOf (by omega) g4) ?_
      refine j_lstore_n (i := 3) (L' := [some (.ref a0), some (.int a1), some (.int a2), some (.long r5), none, none, none, none]) rfl (Nat.le_of_ble_eq_true rfl) rfl rfl dX5_answer_15 ?_
      refine j_iconst (v := (-1)) rfl dX5_answer_16 ?_
      refine j_istore (i := 5) (L' := [some (.ref a0), some (.int a1), some (.int a2), some (.long r5), none, some (.int (-1)), none, none]) (Nat.le_of_ble_eq_true rfl) rfl rfl dX5_answer_17 ?_
      refine j_iconst (v := 0) rfl dX5_answer_19 ?_
      refine j_istore (i := 6) (L' := [some (.ref a0), some (.int a1), some (.int a2), some (.long r5), none, some (.int (-1)), some (.int 0), none]) (Nat.le_of_ble_eq_true rfl) rfl rfl dX5_answer_20 ?_
      replace hr := m_bind hr; obtain ⟨e19, q23, hr⟩ := hr
      refine j_weak (L' := [some (.ref a0), none, some (.int a2), some (.long r5), none, some (.int (-1)), some (.int 0), none]) (And.intro rfl (And.intro rfl (And.intro rfl (And.intro rfl (And.intro rfl trivial))))) ?_
      refine m_loop_sound (step := w_X5_answer_22 h a0 a2 r5) (P := fun s_6 => m_J X Y_X5_answer (d + 1) 22 [some (.ref a0), none, some (.int a2), some (.long r5), none, some (.int s_6.1), some (.int s_6.2), none] [] h (some (.int rv), h)) (Qe := fun e19 => match e19 with | .inl x20 => m_J X Y_X5_answer (d + 1) 78 [none, none, none, none, none, some (.int x20), none, none] [] h (some (.int rv), h) | .inr v22 => ((some (.int rv), h) : mR) = (some (.int v22), h)) ?_ _ _ _ q23 ?_
      · intro s_6 o hr hk
        unfold w_X5_answer_22 at hr
        refine j_iload (i := 6) rfl dX5_answer_22 ?_
        refine j_bipush (v := 49) rfl dX5_answer_24 ?_
        refine j_ic_ge (tgt := 78) dX5_answer_26 rfl (fun c7 => ?_) (fun c7 => ?_)
        · rw [if_pos c7] at hr
          cases hr
          exact j_weak (L' := [none, none, none, none, none, some (.int s_6.1), none, none]) (And.intro rfl trivial) hk
        · rw [if_neg c7] at hr
          refine j_lload_n (i := 3) rfl rfl dX5_answer_29 ?_
          refine j_iload (i := 6) rfl dX5_answer_30 ?_
          replace hr := m_bind hr; obtain ⟨r9, g8, hr⟩ := hr
          refine j_callS (Y' := Y_X1_has) (as := [.long r5, .int s_6.2]) ok_X1_has [some (.long r5), none, some (.int s_6.2)] rfl rfl tw_2_154 tw_1_167 nn_X1_has (Nat.le_of_ble_eq_true rfl) dX5_answer_32 (j_X1_has g8) ?_
          refine j_if_eq (tgt := 72) dX5_answer_35 rfl (fun c10 => ?_) (fun c10 => ?_)
          · rw [if_pos c10] at hr
            refine j_iinc (i := 6) (v := s_6.2 + 1) (L' := [some (.ref a0), none, some (.int a2), some (.long r5), none, some (.int s_6.1), some (.int (s_6.2 + 1)), none]) rfl (m_o1 _) (Nat.le_of_ble_eq_true rfl) rfl rfl dX5_answer_72 ?_
            refine j_goto (tgt := 22) dX5_answer_75 rfl ?_
            cases hr
            exact j_weak (L' := [some (.ref a0), none, some (.int a2), some (.long r5), none, some (.int s_6.1), some (.int (s_6.2 + 1)), none]) (And.intro rfl (And.intro rfl (And.intro rfl (And.intro rfl (And.intro rfl trivial))))) hk
          · rw [if_neg c10] at hr
            refine j_aload_n (i := 0) rfl rfl dX5_answer_38 ?_
            replace hr := m_bind hr; obtain ⟨q11, g12, hr⟩ := hr
            refine j_getf (C := RX5) (T := TX5) (N := 2) (ci := 4) (k := 1) rfl (by decide) inX5 tw_1_97 dX5_answer_39 (m_gr_spec g12) ?_
            refine j_iload_n (i := 2) rfl rfl dX5_answer_42 ?_
            refine j_bipush (v := 49) rfl dX5_answer_43 ?_
            refine j_imul dX5_answer_45 ?_
            refine j_iload (i := 6) rfl dX5_answer_46 ?_
            refine j_iadd dX5_answer_48 ?_
            replace hr := m_bind hr; obtain ⟨b13, g14, hr⟩ := hr
            subst g14
            replace hr := m_bind hr; obtain ⟨x15, g16, hr⟩ := hr
            refine j_iaload dX5_answer_49 g16 ?_
            refine j_istore (i := 7) (L' := [some (.ref a0), none, some (.int a2), some (.long r5), none, some (.int s_6.1), some (.int s_6.2), some (.int x15)]) (Nat.le_of_ble_eq_true rfl) rfl rfl dX5_answer_50 ?_
            refine j_iload (i := 5) rfl dX5_answer_52 ?_
            refine j_iconst (v := (-1)) rfl dX5_answer_54 ?_
            refine j_ic_eq (tgt := 68) dX5_answer_55 rfl (fun c17 => ?_) (fun c17 => ?_)
            · rw [if_pos c17] at hr
              refine j_iload (i := 7) rfl dX5_answer_68 ?_
              refine j_istore (i := 5) (L' := [some (.ref a0), none, some (.int a2), some (.long r5), none, some (.int x15), some (.int s_6.2), some (.int x15)]) (Nat.le_of_ble_eq_true rfl) rfl rfl dX5_answer_70 ?_
              refine j_iinc (i := 6) (v := s_6.2 + 1) (L' := [some (.ref a0), none, some (.int a2), some (.long r5), none, some (.int x15), some (.int (s_6.2 + 1)), some (.int x15)]) rfl (m_o1 _) (Nat.le_of_ble_eq_true rfl) rfl rfl dX5_answer_72 ?_
              refine j_goto (tgt := 22) dX5_answer_75 rfl ?_
              cases hr
              exact j_weak (L' := [some (.ref a0), none, some (.int a2), some (.long r5), none, some (.int x15), some (.int (s_6.2 + 1)), none]) (And.intro rfl (And.intro rfl (And.intro rfl (And.intro rfl (And.intro rfl trivial))))) hk
            · rw [if_neg c17] at hr
              refine j_iload (i := 5) rfl dX5_answer_58 ?_
              refine j_iload (i := 7) rfl dX5_answer_60 ?_
              refine j_ic_eq (tgt := 68) dX5_answer_62 rfl (fun c18 => ?_) (fun c18 => ?_)
              · rw [if_pos c18] at hr
                refine j_iload (i := 7) rfl dX5_answer_68 ?_
                refine j_istore (i := 5) (L' := [some (.ref a0), none, some (.int a2), some (.long r5), none, some (.int x15), some (.int s_6.2), some (.int x15)]) (Nat.le_of_ble_eq_true rfl) rfl rfl dX5_answer_70 ?_
                refine j_iinc (i := 6) (v := s_6.2 + 1) (L' := [some (.ref a0), none, some (.int a2), some (.long r5), none, some (.int x15), some (.int (s_6.2 + 1)), some (.int x15)]) rfl (m_o1 _) (Nat.le_of_ble_eq_true rfl) rfl rfl dX5_answer_72 ?_
                refine j_goto (tgt := 22) dX5_answer_75 rfl ?_
                cases hr
                exact j_weak (L' := [some (.ref a0), none, some (.int a2), some (.long r5), none, some (.int x15), some (.int (s_6.2 + 1)), none]) (And.intro rfl (And.intro rfl (And.intro rfl (And.intro rfl (And.intro rfl trivial))))) hk
              · rw [if_neg c18] at hr
                refine j_bipush (v := (-2)) rfl dX5_answer_65 ?_
                cases hr
                rw [show _ = _ from hk]
                exact j_ret dX5_answer_67 m_rk_i
      · cases e19 with
        | inl x20 =>
          dsimp only at hr
          dsimp only
          refine j_iload (i := 5) rfl dX5_answer_78 ?_
          cases hr
          exact j_ret dX5_answer_80 m_rk_i
        | inr v22 =>
          dsimp only at hr
          cases hr
          rfl
    · rw [if_neg o24] at hr
      cases hr
  · rw [if_pos c3] at hr
    refine j_iconst (v := (-1)) rfl dX5_answer_7 ?_
    cases hr
    exact j_ret dX5_answer_8 m_rk_i
def f_X6_init (h : mH) (a0 : Nat) (a1 : Int32) : Option (mH) :=
  (m_pf h a0 5 0 (.int a1)).bind fun h1 =>
  (m_pf h1 a0 5 1 (.int 0)).bind fun h3 =>
  (m_pf h3 a0 5 2 (.int 0)).bind fun h5 =>
  (m_pf h5 a0 5 3 (.int 0)).bind fun h7 =>
  (m_pf h7 a0 5 4 (.int 0)).bind fun h9 =>
  some h9
def Y_X6_init : mY := (yX6_init, cX6_init, 2, none, .return_)
theorem ok_X6_init : m_Ok Y_X6_init := ⟨by decide +kernel, ⟨by decide +kernel, by decide +kernel⟩, tw_1_48, tw_1_3, by decide, Or.inl ⟨rfl, rfl⟩⟩
theorem nn_X6_init : (parseMethodDescriptor Y_X6_init.1.desc).map (fun q => q.parameters.length) = some 1 := by decide +kernel
set_option maxHeartbeats 4000000 in
set_option maxRecDepth 20000 in
theorem j_X6_init {X : mX} {d : Nat} {h : mH} {a0 : Nat} {a1 : Int32} {h' : mH} (hd : 1 ≤ d) (hr : f_X6_init h a0 a1 = some h') : m_J X Y_X6_init d 0 [some (.ref a0), some (.int a1)] [] h (none, h') := by
  obtain ⟨d, rfl⟩ : ∃ k, d = k + 1 := ⟨d - 1, by omega⟩
  unfold f_X6_init at hr
  refine j_aload_n (i := 0) rfl rfl dX6_init_0 ?_
  refine j_objInit tw_1_49 (Nat.le_of_ble_eq_true rfl) dX6_init_1 ?_
  refine j_aload_n (i := 0) rfl rfl dX6_init_4 ?_
  refine j_iload_n (i := 1) rfl rfl dX6_init_5 ?_
  replace hr := m_bind hr; obtain ⟨h1, g2, hr⟩ := hr
  refine j_putiF (C := RX6) (T := TX6) (ty := tyX6) (N := 5) (ci := 5) (k := 0) rfl (by decide) inX6 tyX6_ok nmX6 tw_1_50 rfl rfl rfl rfl dX6_init_6 g2 ?_
  refine j_aload_n (i := 0) rfl rfl dX6_init_9 ?_
  refine j_iconst (v := 0) rfl dX6_init_10 ?_
  replace hr := m_bind hr; obtain ⟨h3, g4, hr⟩ := hr
  refine j_puti (C := RX6) (T := TX6) (ty := tyX6) (N := 5) (ci := 5) (k := 1) rfl (by decide) inX6 tyX6_ok nmX6 tw_1_52 rfl rfl dX6_init_11 g4 ?_
  refine j_aload_n (i := 0) rfl rfl dX6_init_14 ?_
  refine j_iconst (v := 0) rfl dX6_init_15 ?_
  replace hr := m_bind hr; obtain ⟨h5, g6, hr⟩ := hr
  refine j_puti (C := RX6) (T := TX6) (ty := tyX6) (N := 5) (ci := 5) (k := 2) rfl (by decide) inX6 tyX6_ok nmX6 tw_1_54 rfl rfl dX6_init_16 g6 ?_
  refine j_aload_n (i := 0) rfl rfl dX6_init_19 ?_
  refine j_iconst (v := 0) rfl dX6_init_20 ?_
  replace hr := m_bind hr; obtain ⟨h7, g8, hr⟩ := hr
  refine j_puti (C := RX6) (T := TX6) (ty := tyX6) (N := 5) (ci := 5) (k := 3) rfl (by decide) inX6 tyX6_ok nmX6 tw_1_56 rfl rfl dX6_init_21 g8 ?_
  refine j_aload_n (i := 0) rfl rfl dX6_init_24 ?_
  refine j_iconst (v := 0) rfl dX6_init_25 ?_
  replace hr := m_bind hr; obtain ⟨h9, g10, hr⟩ := hr
  refine j_puti (C := RX6) (T := TX6) (ty := tyX6) (N := 5) (ci := 5) (k := 4) rfl (by decide) inX6 tyX6_ok nmX6 tw_1_58 rfl rfl dX6_init_26 g10 ?_
  cases hr
  exact j_ret dX6_init_29 m_rk_v
def f_X6_hasRoomFor (h : mH) (a0 : Nat) (a1 : Option Nat) : Option (Int32) :=
  (m_gi h a0 5 4).bind fun x1 =>
  (a1).bind fun b3 =>
  (m_gi h b3 6 1).bind fun x5 =>
  (m_gi h a0 5 2).bind fun x7 =>
  if x7 < (x1 + x5) then
    some 0
  else
    some 1
def Y_X6_hasRoomFor : mY := (yX6_hasRoomFor, cX6_hasRoomFor, 2, some (FieldType.boolean), .ireturn)
theorem ok_X6_hasRoomFor : m_Ok Y_X6_hasRoomFor := ⟨by decide +kernel, ⟨by decide +kernel, by decide +kernel⟩, tw_3_156, tw_1_3, by decide, Or.inr (Or.inl ⟨Or.inr rfl, rfl⟩)⟩
theorem nn_X6_hasRoomFor : (parseMethodDescriptor Y_X6_hasRoomFor.1.desc).map (fun q => q.parameters.length) = some 1 := by decide +kernel
set_option maxHeartbeats 4000000 in
set_option maxRecDepth 20000 in
theorem j_X6_hasRoomFor {X : mX} {d : Nat} {h : mH} {a0 : Nat} {a1 : Option Nat} {rv : Int32} (hr : f_X6_hasRoomFor h a0 a1 = some rv) : m_J X Y_X6_hasRoomFor d 0 [some (.ref a0), some (va_rf a1)] [] h (some (.int rv), h) := by
  unfold f_X6_hasRoomFor at hr
  refine j_aload_n (i := 0) rfl rfl dX6_hasRoomFor_0 ?_
  replace hr := m_bind hr; obtain ⟨x1, g2, hr⟩ := hr
  refine j_getf (C := RX6) (T := TX6) (N := 5) (ci := 5) (k := 4) rfl (by decide) inX6 tw_1_58 dX6_hasRoomFor_1 (m_gi_spec g2) ?_
  refine j_aloadq_n (q := a1) (i := 1) rfl rfl dX6_hasRoomFor_4 ?_
  replace hr := m_bind hr; obtain ⟨b3, g4, hr⟩ := hr
  subst g4
  replace hr := m_bind hr; obtain ⟨x5, g6, hr⟩ := hr
  refine j_getf (C := RX7) (T := TX7) (N := 11) (ci := 6) (k := 1) rfl (by decide) inX7 tw_1_187 dX6_hasRoomFor_5 (m_gi_spec g6) ?_
  refine j_iadd dX6_hasRoomFor_8 ?_
  refine j_aload_n (i := 0) rfl rfl dX6_hasRoomFor_9 ?_
  replace hr := m_bind hr; obtain ⟨x7, g8, hr⟩ := hr
  refine j_getf (C := RX6) (T := TX6) (N := 5) (ci := 5) (k := 2) rfl (by decide) inX6 tw_1_54 dX6_hasRoomFor_10 (m_gi_spec g8) ?_
  refine j_ic_gt (tgt := 20) dX6_hasRoomFor_13 rfl (fun c9 => ?_) (fun c9 => ?_)
  · rw [if_pos c9] at hr
    refine j_iconst (v := 0) rfl dX6_hasRoomFor_20 ?_
    cases hr
    exact j_ret dX6_hasRoomFor_21 m_rk_z0
  · rw [if_neg c9] at hr
    refine j_iconst (v := 1) rfl dX6_hasRoomFor_16 ?_
    refine j_goto (tgt := 21) dX6_hasRoomFor_17 rfl ?_
    cases hr
    exact j_ret dX6_hasRoomFor_21 m_rk_z1
def f_X6_add (h : mH) (a0 : Nat) (a1 : Option Nat) : Option (mH) :=
  (m_gi h a0 5 3).bind fun x1 =>
  (m_pf h a0 5 3 (.int (x1 + 1))).bind fun h3 =>
  (m_gi h3 a0 5 4).bind fun x5 =>
  (a1).bind fun b7 =>
  (m_gi h3 b7 6 1).bind fun x9 =>
  (m_pf h3 a0 5 4 (.int (x5 + x9))).bind fun h11 =>
  some h11
def Y_X6_add : mY := (yX6_add, cX6_add, 2, none, .return_)
theorem ok_X6_add : m_Ok Y_X6_add := ⟨by decide +kernel, ⟨by decide +kernel, by decide +kernel⟩, tw_3_160, tw_1_3, by decide, Or.inl ⟨rfl, rfl⟩⟩
theorem nn_X6_add : (parseMethodDescriptor Y_X6_add.1.desc).map (fun q => q.parameters.length) = some 1 := by decide +kernel
set_option maxHeartbeats 4000000 in
set_option maxRecDepth 20000 in
theorem j_X6_add {X : mX} {d : Nat} {h : mH} {a0 : Nat} {a1 : Option Nat} {h' : mH} (hr : f_X6_add h a0 a1 = some h') : m_J X Y_X6_add d 0 [some (.ref a0), some (va_rf a1)] [] h (none, h') := by
  unfold f_X6_add at hr
  refine j_aload_n (i := 0) rfl rfl dX6_add_0 ?_
  refine j_dup rfl dX6_add_1 ?_
  replace hr := m_bind hr; obtain ⟨x1, g2, hr⟩ := hr
  refine j_getf (C := RX6) (T := TX6) (N := 5) (ci := 5) (k := 3) rfl (by decide) inX6 tw_1_56 dX6_add_2 (m_gi_spec g2) ?_
  refine j_iconst (v := 1) rfl dX6_add_5 ?_
  refine j_iadd dX6_add_6 ?_
  replace hr := m_bind hr; obtain ⟨h3, g4, hr⟩ := hr
  refine j_puti (C := RX6) (T := TX6) (ty := tyX6) (N := 5) (ci := 5) (k := 3) rfl (by decide) inX6 tyX6_ok nmX6 tw_1_56 rfl rfl dX6_add_7 g4 ?_
  refine j_aload_n (i := 0) rfl rfl dX6_add_10 ?_
  refine j_dup rfl dX6_add_11 ?_
  replace hr := m_bind hr; obtain ⟨x5, g6, hr⟩ := hr
  refine j_getf (C := RX6) (T := TX6) (N := 5) (ci := 5) (k := 4) rfl (by decide) inX6 tw_1_58 dX6_add_12 (m_gi_spec g6) ?_
  refine j_aloadq_n (q := a1) (i := 1) rfl rfl dX6_add_15 ?_
  replace hr := m_bind hr; obtain ⟨b7, g8, hr⟩ := hr
  subst g8
  replace hr := m_bind hr; obtain ⟨x9, g10, hr⟩ := hr
  refine j_getf (C := RX7) (T := TX7) (N := 11) (ci := 6) (k := 1) rfl (by decide) inX7 tw_1_187 dX6_add_16 (m_gi_spec g10) ?_
  refine j_iadd dX6_add_19 ?_
  replace hr := m_bind hr; obtain ⟨h11, g12, hr⟩ := hr
  refine j_puti (C := RX6) (T := TX6) (ty := tyX6) (N := 5) (ci := 5) (k := 4) rfl (by decide) inX6 tyX6_ok nmX6 tw_1_58 rfl rfl dX6_add_20 g12 ?_
  cases hr
  exact j_ret dX6_add_23 m_rk_v
def f_X6_remove (h : mH) (a0 : Nat) (a1 : Option Nat) : Option (mH) :=
  (m_gi h a0 5 3).bind fun x1 =>
  (m_pf h a0 5 3 (.int (x1 - 1))).bind fun h3 =>
  (m_gi h3 a0 5 4).bind fun x5 =>
  (a1).bind fun b7 =>
  (m_gi h3 b7 6 1).bind fun x9 =>
  (m_pf h3 a0 5 4 (.int (x5 - x9))).bind fun h11 =>
  some h11
def Y_X6_remove : mY := (yX6_remove, cX6_remove, 2, none, .return_)
theorem ok_X6_remove : m_Ok Y_X6_remove := ⟨by decide +kernel, ⟨by decide +kernel, by decide +kernel⟩, tw_3_121, tw_1_3, by decide, Or.inl ⟨rfl, rfl⟩⟩
theorem nn_X6_remove : (parseMethodDescriptor Y_X6_remove.1.desc).map (fun q => q.parameters.length) = some 1 := by decide +kernel
set_option maxHeartbeats 4000000 in
set_option maxRecDepth 20000 in
theorem j_X6_remove {X : mX} {d : Nat} {h : mH} {a0 : Nat} {a1 : Option Nat} {h' : mH} (hr : f_X6_remove h a0 a1 = some h') : m_J X Y_X6_remove d 0 [some (.ref a0), some (va_rf a1)] [] h (none, h') := by
  unfold f_X6_remove at hr
  refine j_aload_n (i := 0) rfl rfl dX6_remove_0 ?_
  refine j_dup rfl dX6_remove_1 ?_
  replace hr := m_bind hr; obtain ⟨x1, g2, hr⟩ := hr
  refine j_getf (C := RX6) (T := TX6) (N := 5) (ci := 5) (k := 3) rfl (by decide) inX6 tw_1_56 dX6_remove_2 (m_gi_spec g2) ?_
  refine j_iconst (v := 1) rfl dX6_remove_5 ?_
  refine j_isub dX6_remove_6 ?_
  replace hr := m_bind hr; obtain ⟨h3, g4, hr⟩ := hr
  refine j_puti (C := RX6) (T := TX6) (ty := tyX6) (N := 5) (ci := 5) (k := 3) rfl (by decide) inX6 tyX6_ok nmX6 tw_1_56 rfl rfl dX6_remove_7 g4 ?_
  refine j_aload_n (i := 0) rfl rfl dX6_remove_10 ?_
  refine j_dup rfl dX6_remove_11 ?_
  replace hr := m_bind hr; obtain ⟨x5, g6, hr⟩ := hr
  refine j_getf (C := RX6) (T := TX6) (N := 5) (ci := 5) (k := 4) rfl (by decide) inX6 tw_1_58 dX6_remove_12 (m_gi_spec g6) ?_
  refine j_aloadq_n (q := a1) (i := 1) rfl rfl dX6_remove_15 ?_
  replace hr := m_bind hr; obtain ⟨b7, g8, hr⟩ := hr
  subst g8
  replace hr := m_bind hr; obtain ⟨x9, g10, hr⟩ := hr
  refine j_getf (C := RX7) (T := TX7) (N := 11) (ci := 6) (k := 1) rfl (by decide) inX7 tw_1_187 dX6_remove_16 (m_gi_spec g10) ?_
  refine j_isub dX6_remove_19 ?_
  replace hr := m_bind hr; obtain ⟨h11, g12, hr⟩ := hr
  refine j_puti (C := RX6) (T := TX6) (ty := tyX6) (N := 5) (ci := 5) (k := 4) rfl (by decide) inX6 tyX6_ok nmX6 tw_1_58 rfl rfl dX6_remove_20 g12 ?_
  cases hr
  exact j_ret dX6_remove_23 m_rk_v
def f_X8_init (h : mH) (a0 : Nat) : Option (mH) :=
  (m_newr h 2 300).bind fun h1 =>
  (m_pf h1 a0 7 0 (va_rf ((some h.1)))).bind fun h3 =>
  (m_newr h3 2 300).bind fun h5 =>
  (m_pf h5 a0 7 1 (va_rf ((some h3.1)))).bind fun h7 =>
  (m_pf h7 a0 7 2 (.int 0)).bind fun h9 =>
  some h9
def Y_X8_init : mY := (yX8_init, cX8_init, 1, none, .return_)
theorem ok_X8_init : m_Ok Y_X8_init := ⟨by decide +kernel, ⟨by decide +kernel, by decide +kernel⟩, tw_1_26, tw_1_2, by decide, Or.inl ⟨rfl, rfl⟩⟩
theorem nn_X8_init : (parseMethodDescriptor Y_X8_init.1.desc).map (fun q => q.parameters.length) = some 0 := by decide +kernel
set_option maxHeartbeats 4000000 in
set_option maxRecDepth 20000 in
theorem j_X8_init {X : mX} {d : Nat} {h : mH} {a0 : Nat} {h' : mH} (hd : 1 ≤ d) (hr : f_X8_init h a0 = some h') : m_J X Y_X8_init d 0 [some (.ref a0)] [] h (none, h') := by
  obtain ⟨d, rfl⟩ : ∃ k, d = k + 1 := ⟨d - 1, by omega⟩
  unfold f_X8_init at hr
  refine j_aload_n (i := 0) rfl rfl dX8_init_0 ?_
  refine j_objInit tw_1_27 (Nat.le_of_ble_eq_true rfl) dX8_init_1 ?_
  refine j_aload_n (i := 0) rfl rfl dX8_init_4 ?_
  refine j_sipush (v := 300) rfl dX8_init_5 ?_
  replace hr := m_bind hr; obtain ⟨h1, g2, hr⟩ := hr
  refine j_newr (t := 2) (by decide) tw_1_28 dX8_init_8 g2 ?_
  replace hr := m_bind hr; obtain ⟨h3, g4, hr⟩ := hr
  refine j_putrF (q := (some h.1)) (C := RX8) (T := TX8) (ty := tyX8) (N := 3) (ci := 7) (k := 0) rfl (by decide) inX8 tyX8_ok nmX8 tw_1_30 rfl rfl rfl rfl dX8_init_11 g4 ?_
  refine j_aload_n (i := 0) rfl rfl dX8_init_14 ?_
  refine j_sipush (v := 300) rfl dX8_init_15 ?_
  replace hr := m_bind hr; obtain ⟨h5, g6, hr⟩ := hr
  refine j_newr (t := 2) (by decide) tw_1_28 dX8_init_18 g6 ?_
  replace hr := m_bind hr; obtain ⟨h7, g8, hr⟩ := hr
  refine j_putrF (q := (some h3.1)) (C := RX8) (T := TX8) (ty := tyX8) (N := 3) (ci := 7) (k := 1) rfl (by decide) inX8 tyX8_ok nmX8 tw_1_31 rfl rfl rfl rfl dX8_init_21 g8 ?_
  refine j_aload_n (i := 0) rfl rfl dX8_init_24 ?_
  refine j_iconst (v := 0) rfl dX8_init_25 ?_
  replace hr := m_bind hr; obtain ⟨h9, g10, hr⟩ := hr
  refine j_puti (C := RX8) (T := TX8) (ty := tyX8) (N := 3) (ci := 7) (k := 2) rfl (by decide) inX8 tyX8_ok nmX8 tw_1_32 rfl rfl dX8_init_26 g10 ?_
  cases hr
  exact j_ret dX8_init_29 m_rk_v
def f_X8_at (h : mH) (a0 : Nat) (a1 : Int32) : Option (Option Nat) :=
  if a1 < 0 then
    some none
  else
    (m_gi h a0 7 2).bind fun x2 =>
    if x2 ≤ a1 then
      some none
    else
      if 300 ≤ a1 then
        some none
      else
        (m_gr h a0 7 0).bind fun q6 =>
        (q6).bind fun b8 =>
        (m_ald h b8 a1).bind fun q10 =>
        some q10
def Y_X8_at : mY := (yX8_at, cX8_at, 2, some ((FieldType.object "SpecimenHall$Specimen")), .areturn)
theorem ok_X8_at : m_Ok Y_X8_at := ⟨by decide +kernel, ⟨by decide +kernel, by decide +kernel⟩, tw_2_38, tw_1_2, by decide, Or.inr (Or.inr (Or.inr ⟨⟨_, rfl⟩, rfl⟩))⟩
theorem nn_X8_at : (parseMethodDescriptor Y_X8_at.1.desc).map (fun q => q.parameters.length) = some 1 := by decide +kernel
set_option maxHeartbeats 4000000 in
set_option maxRecDepth 20000 in
theorem j_X8_at {X : mX} {d : Nat} {h : mH} {a0 : Nat} {a1 : Int32} {rv : Option Nat} (hr : f_X8_at h a0 a1 = some rv) : m_J X Y_X8_at d 0 [some (.ref a0), some (.int a1)] [] h (some (va_rf rv), h) := by
  unfold f_X8_at at hr
  refine j_iload_n (i := 1) rfl rfl dX8_at_0 ?_
  refine j_if_lt (tgt := 28) dX8_at_1 rfl (fun c1 => ?_) (fun c1 => ?_)
  · rw [if_pos c1] at hr
    refine j_null dX8_at_28 ?_
    cases hr
    exact j_ret dX8_at_29 (m_rk_r _)
  · rw [if_neg c1] at hr
    refine j_iload_n (i := 1) rfl rfl dX8_at_4 ?_
    refine j_aload_n (i := 0) rfl rfl dX8_at_5 ?_
    replace hr := m_bind hr; obtain ⟨x2, g3, hr⟩ := hr
    refine j_getf (C := RX8) (T := TX8) (N := 3) (ci := 7) (k := 2) rfl (by decide) inX8 tw_1_32 dX8_at_6 (m_gi_spec g3) ?_
    refine j_ic_ge (tgt := 28) dX8_at_9 rfl (fun c4 => ?_) (fun c4 => ?_)
    · rw [if_pos c4] at hr
      refine j_null dX8_at_28 ?_
      cases hr
      exact j_ret dX8_at_29 (m_rk_r _)
    · rw [if_neg c4] at hr
      refine j_iload_n (i := 1) rfl rfl dX8_at_12 ?_
      refine j_sipush (v := 300) rfl dX8_at_13 ?_
      refine j_ic_ge (tgt := 28) dX8_at_16 rfl (fun c5 => ?_) (fun c5 => ?_)
      · rw [if_pos c5] at hr
        refine j_null dX8_at_28 ?_
        cases hr
        exact j_ret dX8_at_29 (m_rk_r _)
      · rw [if_neg c5] at hr
        refine j_aload_n (i := 0) rfl rfl dX8_at_19 ?_
        replace hr := m_bind hr; obtain ⟨q6, g7, hr⟩ := hr
        refine j_getf (C := RX8) (T := TX8) (N := 3) (ci := 7) (k := 0) rfl (by decide) inX8 tw_1_30 dX8_at_20 (m_gr_spec g7) ?_
        refine j_iload_n (i := 1) rfl rfl dX8_at_23 ?_
        replace hr := m_bind hr; obtain ⟨b8, g9, hr⟩ := hr
        subst g9
        replace hr := m_bind hr; obtain ⟨q10, g11, hr⟩ := hr
        refine j_aaload dX8_at_24 g11 ?_
        refine j_goto (tgt := 29) dX8_at_25 rfl ?_
        cases hr
        exact j_ret dX8_at_29 (m_rk_r _)
def f_X8_isLonger (h : mH) (a0 : Option Nat) (a1 : Int32) : Option (Int32) :=
  match a0 with
  | none =>
    some 0
  | some b1 =>
    (m_gi h b1 6 1).bind fun x2 =>
    if x2 ≤ a1 then
      some 0
    else
      some 1
def Y_X8_isLonger : mY := (yX8_isLonger, cX8_isLonger, 2, some (FieldType.boolean), .ireturn)
theorem ok_X8_isLonger : m_Ok Y_X8_isLonger := ⟨by decide +kernel, ⟨by decide +kernel, by decide +kernel⟩, tw_1_239, tw_1_2, by decide, Or.inr (Or.inl ⟨Or.inr rfl, rfl⟩)⟩
theorem nn_X8_isLonger : (parseMethodDescriptor Y_X8_isLonger.1.desc).map (fun q => q.parameters.length) = some 2 := by decide +kernel
set_option maxHeartbeats 4000000 in
set_option maxRecDepth 20000 in
theorem j_X8_isLonger {X : mX} {d : Nat} {h : mH} {a0 : Option Nat} {a1 : Int32} {rv : Int32} (hr : f_X8_isLonger h a0 a1 = some rv) : m_J X Y_X8_isLonger d 0 [some (va_rf a0), some (.int a1)] [] h (some (.int rv), h) := by
  unfold f_X8_isLonger at hr
  refine j_aloadq_n (q := a0) (i := 0) rfl rfl dX8_isLonger_0 ?_
  cases a0 with
  | none =>
    dsimp only at hr
    refine j_ifnull_n (tgt := 16) dX8_isLonger_1 rfl ?_
    refine j_iconst (v := 0) rfl dX8_isLonger_16 ?_
    cases hr
    exact j_ret dX8_isLonger_17 m_rk_z0
  | some b1 =>
    dsimp only at hr
    refine j_ifnull_r dX8_isLonger_1 ?_
    refine j_aload_n (i := 0) rfl rfl dX8_isLonger_4 ?_
    replace hr := m_bind hr; obtain ⟨x2, g3, hr⟩ := hr
    refine j_getf (C := RX7) (T := TX7) (N := 11) (ci := 6) (k := 1) rfl (by decide) inX7 tw_1_188 dX8_isLonger_5 (m_gi_spec g3) ?_
    refine j_iload_n (i := 1) rfl rfl dX8_isLonger_8 ?_
    refine j_ic_le (tgt := 16) dX8_isLonger_9 rfl (fun c4 => ?_) (fun c4 => ?_)
    · rw [if_pos c4] at hr
      refine j_iconst (v := 0) rfl dX8_isLonger_16 ?_
      cases hr
      exact j_ret dX8_isLonger_17 m_rk_z0
    · rw [if_neg c4] at hr
      refine j_iconst (v := 1) rfl dX8_isLonger_12 ?_
      refine j_goto (tgt := 17) dX8_isLonger_13 rfl ?_
      cases hr
      exact j_ret dX8_isLonger_17 m_rk_z1
def w_X8_add_45 (a0 : Nat) (a2 : Int32) : (Int32 × mH) → Option ((Int32 × mH) ⊕ (Int32 × mH)) := fun s_20 =>
  if s_20.1 ≤ 0 then
    some (.inr (s_20.1, s_20.2))
  else
    (m_gr s_20.2 a0 7 1).bind fun q22 =>
    (q22).bind fun b24 =>
    (m_ald s_20.2 b24 (s_20.1 - 1)).bind fun q26 =>
    (f_X8_isLonger s_20.2 q26 a2).bind fun r29 =>
    if r29 = 0 then
      some (.inr (s_20.1, s_20.2))
    else
      (m_gr s_20.2 a0 7 1).bind fun q31 =>
      (m_gr s_20.2 a0 7 1).bind fun q33 =>
      (q33).bind fun b35 =>
      (m_ald s_20.2 b35 (s_20.1 - 1)).bind fun q37 =>
      (q31).bind fun b39 =>
      (m_ast s_20.2 b39 s_20.1 q37).bind fun h41 =>
      some (.inl (s_20.1 + (-1), h41))
def f_X8_add (h : mH) (a0 : Nat) (a1 : Int32) (a2 : Int32) (a3 : Int32) : Option (Int32 × mH) :=
  (m_gi h a0 7 2).bind fun x1 =>
  if x1 < 300 then
    (m_newO h 6 [.int 0, .int 0, .int 0, .int 0, .null, .int 0, .null, .int 0, .int 0, .int 0, .int 0]).bind fun h4 =>
    (m_gi h4 a0 7 2).bind fun x6 =>
    (f_X7_init h4 h.1 x6 a1 a2 a3).bind fun h9 =>
    (m_gr h9 a0 7 0).bind fun q10 =>
    (m_gi h9 a0 7 2).bind fun x12 =>
    (q10).bind fun b14 =>
    (m_ast h9 b14 x12 ((some h.1))).bind fun h16 =>
    (m_gi h16 a0 7 2).bind fun x18 =>
    (m_loop (w_X8_add_45 a0 a2) 5000 ((x18, h16))).bind fun e43 =>
    (m_gr e43.2 a0 7 1).bind fun q44 =>
    (q44).bind fun b46 =>
    (m_ast e43.2 b46 e43.1 ((some h.1))).bind fun h48 =>
    (m_gi h48 a0 7 2).bind fun x50 =>
    (m_pf h48 a0 7 2 (.int (x50 + 1))).bind fun h52 =>
    (m_gi h52 h.1 6 0).bind fun x54 =>
    some ((x54, h52))
  else
    some (((-1), h))
def Y_X8_add : mY := (yX8_add, cX8_add, 6, some (FieldType.int), .ireturn)
theorem ok_X8_add : m_Ok Y_X8_add := ⟨by decide +kernel, ⟨by decide +kernel, by decide +kernel⟩, tw_1_176, tw_1_2, by decide, Or.inr (Or.inl ⟨Or.inl rfl, rfl⟩)⟩
theorem nn_X8_add : (parseMethodDescriptor Y_X8_add.1.desc).map (fun q => q.parameters.length) = some 3 := by decide +kernel
set_option maxHeartbeats 4000000 in
set_option maxRecDepth 20000 in
theorem j_X8_add {X : mX} {d : Nat} {h : mH} {a0 : Nat} {a1 : Int32} {a2 : Int32} {a3 : Int32} {rv : Int32} {h' : mH} (hd : 2 ≤ d) (hr : f_X8_add h a0 a1 a2 a3 = some (rv, h')) : m_J X Y_X8_add d 0 [some (.ref a0), some (.int a1), some (.int a2), some (.int a3), none, none] [] h (some (.int rv), h') := by
  obtain ⟨d, rfl⟩ : ∃ k, d = k + 1 := ⟨d - 1, by omega⟩
  unfold f_X8_add at hr
  refine j_aload_n (i := 0) rfl rfl dX8_add_0 ?_
  replace hr := m_bind hr; obtain ⟨x1, g2, hr⟩ := hr
  refine j_getf (C := RX8) (T := TX8) (N := 3) (ci := 7) (k := 2) rfl (by decide) inX8 tw_1_32 dX8_add_1 (m_gi_spec g2) ?_
  refine j_sipush (v := 300) rfl dX8_add_4 ?_
  refine j_ic_lt (tgt := 12) dX8_add_7 rfl (fun c3 => ?_) (fun c3 => ?_)
  · rw [if_pos c3] at hr
    replace hr := m_bind hr; obtain ⟨h4, g5, hr⟩ := hr
    refine j_newO (C := RX7) (T := TX7) (ty := tyX7) (N := 11) (ci := 6) rfl inX7 tyX7_ok tw_1_28 tw_1_177 tw_1_9 (fun j hj => by rcases (show j = 0 ∨ j = 1 ∨ j = 2 ∨ j = 3 ∨ j = 4 ∨ j = 5 ∨ j = 6 ∨ j = 7 ∨ j = 8 ∨ j = 9 ∨ j = 10 by omega) with rfl | rfl | rfl | rfl | rfl | rfl | rfl | rfl | rfl | rfl | rfl <;> rfl) rfl (fun E => rfl) dX8_add_12 g5 ?_
    refine j_dup rfl dX8_add_15 ?_
    refine j_aload_n (i := 0) rfl rfl dX8_add_16 ?_
    replace hr := m_bind hr; obtain ⟨x6, g7, hr⟩ := hr
    refine j_getf (C := RX8) (T := TX8) (N := 3) (ci := 7) (k := 2) rfl (by decide) inX8 tw_1_32 dX8_add_17 (m_gi_spec g7) ?_
    refine j_iload_n (i := 1) rfl rfl dX8_add_20 ?_
    refine j_iload_n (i := 2) rfl rfl dX8_add_21 ?_
    refine j_iload_n (i := 3) rfl rfl dX8_add_22 ?_
    replace hr := m_bind hr; obtain ⟨h9, g8, hr⟩ := hr
    refine j_callI (Y' := Y_X7_init) (a := h.1) (as := [.int x6, .int a1, .int a2, .int a3]) ok_X7_init rfl rfl [some (.ref h.1), some (.int x6), some (.int a1), some (.int a2), some (.int a3)] rfl rfl tw_1_178 tw_1_179 nn_X7_init (Nat.le_of_ble_eq_true rfl) dX8_add_23 (j_X7_init (by omega) g8) ?_
    refine j_astore (i := 4) (L' := [some (.ref a0), some (.int a1), some (.int a2), some (.int a3), some (.ref h.1), none]) (Nat.le_of_ble_eq_true rfl) rfl rfl dX8_add_26 ?_
    refine j_aload_n (i := 0) rfl rfl dX8_add_28 ?_
    replace hr := m_bind hr; obtain ⟨q10, g11, hr⟩ := hr
    refine j_getf (C := RX8) (T := TX8) (N := 3) (ci := 7) (k := 0) rfl (by decide) inX8 tw_1_30 dX8_add_29 (m_gr_spec g11) ?_
    refine j_aload_n (i := 0) rfl rfl dX8_add_32 ?_
    replace hr := m_bind hr; obtain ⟨x12, g13, hr⟩ := hr
    refine j_getf (C := RX8) (T := TX8) (N := 3) (ci := 7) (k := 2) rfl (by decide) inX8 tw_1_32 dX8_add_33 (m_gi_spec g13) ?_
    refine j_aload (i := 4) rfl dX8_add_36 ?_
    replace hr := m_bind hr; obtain ⟨b14, g15, hr⟩ := hr
    subst g15
    replace hr := m_bind hr; obtain ⟨h16, g17, hr⟩ := hr
    refine j_aastore (q := (some h.1)) dX8_add_38 g17 ?_
    refine j_aload_n (i := 0) rfl rfl dX8_add_39 ?_
    replace hr := m_bind hr; obtain ⟨x18, g19, hr⟩ := hr
    refine j_getf (C := RX8) (T := TX8) (N := 3) (ci := 7) (k := 2) rfl (by decide) inX8 tw_1_32 dX8_add_40 (m_gi_spec g19) ?_
    refine j_istore (i := 5) (L' := [some (.ref a0), some (.int a1), some (.int a2), some (.int a3), some (.ref h.1), some (.int x18)]) (Nat.le_of_ble_eq_true rfl) rfl rfl dX8_add_43 ?_
    replace hr := m_bind hr; obtain ⟨e43, q58, hr⟩ := hr
    refine j_weak (L' := [some (.ref a0), none, some (.int a2), none, some (.ref h.1), some (.int x18)]) (And.intro rfl (And.intro rfl (And.intro rfl (And.intro rfl trivial)))) ?_
    refine m_loop_sound (step := w_X8_add_45 a0 a2) (P := fun s_20 => m_J X Y_X8_add (d + 1) 45 [some (.ref a0), none, some (.int a2), none, some (.ref h.1), some (.int s_20.1)] [] s_20.2 (some (.int rv), h')) (Qe := fun e43 => m_J X Y_X8_add (d + 1) 88 [some (.ref a0), none, none, none, some (.ref h.1), some (.int e43.1)] [] e43.2 (some (.int rv), h')) ?_ _ _ _ q58 ?_
    · intro s_20 o hr hk
      unfold w_X8_add_45 at hr
      refine j_iload (i := 5) rfl dX8_add_45 ?_
      refine j_if_le (tgt := 88) dX8_add_47 rfl (fun c21 => ?_) (fun c21 => ?_)
      · rw [if_pos c21] at hr
        cases hr
        exact j_weak (L' := [some (.ref a0), none, none, none, some (.ref h.1), some (.int s_20.1)]) (And.intro rfl (And.intro rfl (And.intro rfl trivial))) hk
      · rw [if_neg c21] at hr
        refine j_aload_n (i := 0) rfl rfl dX8_add_50 ?_
        replace hr := m_bind hr; obtain ⟨q22, g23, hr⟩ := hr
        refine j_getf (C := RX8) (T := TX8) (N := 3) (ci := 7) (k := 1) rfl (by decide) inX8 tw_1_31 dX8_add_51 (m_gr_spec g23) ?_
        refine j_iload (i := 5) rfl dX8_add_54 ?_
        refine j_iconst (v := 1) rfl dX8_add_56 ?_
        refine j_isub dX8_add_57 ?_
        replace hr := m_bind hr; obtain ⟨b24, g25, hr⟩ := hr
        subst g25
        replace hr := m_bind hr; obtain ⟨q26, g27, hr⟩ := hr
        refine j_aaload dX8_add_58 g27 ?_
        refine j_iload_n (i := 2) rfl rfl dX8_add_59 ?_
        replace hr := m_bind hr; obtain ⟨r29, g28, hr⟩ := hr
        refine j_callS (Y' := Y_X8_isLonger) (as := [va_rf q26, .int a2]) ok_X8_isLonger [some (va_rf q26), some (.int a2)] (by cases q26 <;> rfl) rfl tw_1_237 tw_1_238 nn_X8_isLonger (Nat.le_of_ble_eq_true rfl) dX8_add_60 (j_X8_isLonger g28) ?_
        refine j_if_eq (tgt := 88) dX8_add_63 rfl (fun c30 => ?_) (fun c30 => ?_)
        · rw [if_pos c30] at hr
          cases hr
          exact j_weak (L' := [some (.ref a0), none, none, none, some (.ref h.1), some (.int s_20.1)]) (And.intro rfl (And.intro rfl (And.intro rfl trivial))) hk
        · rw [if_neg c30] at hr
          refine j_aload_n (i := 0) rfl rfl dX8_add_66 ?_
          replace hr := m_bind hr; obtain ⟨q31, g32, hr⟩ := hr
          refine j_getf (C := RX8) (T := TX8) (N := 3) (ci := 7) (k := 1) rfl (by decide) inX8 tw_1_31 dX8_add_67 (m_gr_spec g32) ?_
          refine j_iload (i := 5) rfl dX8_add_70 ?_
          refine j_aload_n (i := 0) rfl rfl dX8_add_72 ?_
          replace hr := m_bind hr; obtain ⟨q33, g34, hr⟩ := hr
          refine j_getf (C := RX8) (T := TX8) (N := 3) (ci := 7) (k := 1) rfl (by decide) inX8 tw_1_31 dX8_add_73 (m_gr_spec g34) ?_
          refine j_iload (i := 5) rfl dX8_add_76 ?_
          refine j_iconst (v := 1) rfl dX8_add_78 ?_
          refine j_isub dX8_add_79 ?_
          replace hr := m_bind hr; obtain ⟨b35, g36, hr⟩ := hr
          subst g36
          replace hr := m_bind hr; obtain ⟨q37, g38, hr⟩ := hr
          refine j_aaload dX8_add_80 g38 ?_
          replace hr := m_bind hr; obtain ⟨b39, g40, hr⟩ := hr
          subst g40
          replace hr := m_bind hr; obtain ⟨h41, g42, hr⟩ := hr
          refine j_aastore (q := q37) dX8_add_81 g42 ?_
          refine j_iinc (i := 5) (v := s_20.1 + (-1)) (L' := [some (.ref a0), none, some (.int a2), none, some (.ref h.1), some (.int (s_20.1 + (-1)))]) rfl (m_om1 _) (Nat.le_of_ble_eq_true rfl) rfl rfl dX8_add_82 ?_
          refine j_goto (tgt := 45) dX8_add_85 rfl ?_
          cases hr
          exact j_weak (L' := [some (.ref a0), none, some (.int a2), none, some (.ref h.1), some (.int (s_20.1 + (-1)))]) (And.intro rfl (And.intro rfl (And.intro rfl (And.intro rfl trivial)))) hk
    · skip
      refine j_aload_n (i := 0) rfl rfl dX8_add_88 ?_
      replace hr := m_bind hr; obtain ⟨q44, g45, hr⟩ := hr
      refine j_getf (C := RX8) (T := TX8) (N := 3) (ci := 7) (k := 1) rfl (by decide) inX8 tw_1_31 dX8_add_89 (m_gr_spec g45) ?_
      refine j_iload (i := 5) rfl dX8_add_92 ?_
      refine j_aload (i := 4) rfl dX8_add_94 ?_
      replace hr := m_bind hr; obtain ⟨b46, g47, hr⟩ := hr
      subst g47
      replace hr := m_bind hr; obtain ⟨h48, g49, hr⟩ := hr
      refine j_aastore (q := (some h.1)) dX8_add_96 g49 ?_
      refine j_aload_n (i := 0) rfl rfl dX8_add_97 ?_
      refine j_dup rfl dX8_add_98 ?_
      replace hr := m_bind hr; obtain ⟨x50, g51, hr⟩ := hr
      refine j_getf (C := RX8) (T := TX8) (N := 3) (ci := 7) (k := 2) rfl (by decide) inX8 tw_1_32 dX8_add_99 (m_gi_spec g51) ?_
      refine j_iconst (v := 1) rfl dX8_add_102 ?_
      refine j_iadd dX8_add_103 ?_
      replace hr := m_bind hr; obtain ⟨h52, g53, hr⟩ := hr
      refine j_puti (C := RX8) (T := TX8) (ty := tyX8) (N := 3) (ci := 7) (k := 2) rfl (by decide) inX8 tyX8_ok nmX8 tw_1_32 rfl rfl dX8_add_104 g53 ?_
      refine j_aload (i := 4) rfl dX8_add_107 ?_
      replace hr := m_bind hr; obtain ⟨x54, g55, hr⟩ := hr
      refine j_getf (C := RX7) (T := TX7) (N := 11) (ci := 6) (k := 0) rfl (by decide) inX7 tw_1_183 dX8_add_109 (m_gi_spec g55) ?_
      cases hr
      exact j_ret dX8_add_112 m_rk_i
  · rw [if_neg c3] at hr
    refine j_iconst (v := (-1)) rfl dX8_add_10 ?_
    cases hr
    exact j_ret dX8_add_11 m_rk_i
def w_X8_countOf_6 (h : mH) (a0 : Nat) (a1 : Int32) (a2 : Int32) (a3 : Int32) : (Int32 × Int32) → Option ((Int32 × Int32) ⊕ (Int32)) := fun s_1 =>
  (m_gi h a0 7 2).bind fun x2 =>
  if x2 ≤ s_1.2 then
    some (.inr s_1.1)
  else
    if 300 ≤ s_1.2 then
      some (.inr s_1.1)
    else
      (m_gr h a0 7 0).bind fun q6 =>
      (q6).bind fun b8 =>
      (m_ald h b8 s_1.2).bind fun q10 =>
      match q10 with
      | none =>
        some (.inl (s_1.1, s_1.2 + 1))
      | some b12 =>
        (m_gi h b12 6 1).bind fun x13 =>
        if x13 < a2 then
          some (.inl (s_1.1, s_1.2 + 1))
        else
          (m_gi h b12 6 1).bind fun x16 =>
          if a3 < x16 then
            some (.inl (s_1.1, s_1.2 + 1))
          else
            (m_gi h b12 6 3).bind fun x19 =>
            (f_X1_standsUnder x19 a1).bind fun r22 =>
            if r22 = 0 then
              some (.inl (s_1.1, s_1.2 + 1))
            else
              some (.inl (s_1.1 + 1, s_1.2 + 1))
def f_X8_countOf (h : mH) (a0 : Nat) (a1 : Int32) (a2 : Int32) (a3 : Int32) : Option (Int32) :=
  (m_loop (w_X8_countOf_6 h a0 a1 a2 a3) 5000 ((0, 0))).bind fun e24 =>
  some e24
def Y_X8_countOf : mY := (yX8_countOf, cX8_countOf, 7, some (FieldType.int), .ireturn)
theorem ok_X8_countOf : m_Ok Y_X8_countOf := ⟨by decide +kernel, ⟨by decide +kernel, by decide +kernel⟩, tw_3_130, tw_1_2, by decide, Or.inr (Or.inl ⟨Or.inl rfl, rfl⟩)⟩
theorem nn_X8_countOf : (parseMethodDescriptor Y_X8_countOf.1.desc).map (fun q => q.parameters.length) = some 3 := by decide +kernel
set_option maxHeartbeats 4000000 in
set_option maxRecDepth 20000 in
theorem j_X8_countOf {X : mX} {d : Nat} {h : mH} {a0 : Nat} {a1 : Int32} {a2 : Int32} {a3 : Int32} {rv : Int32} (hd : 3 ≤ d) (hr : f_X8_countOf h a0 a1 a2 a3 = some rv) : m_J X Y_X8_countOf d 0 [some (.ref a0), some (.int a1), some (.int a2), some (.int a3), none, none, none] [] h (some (.int rv), h) := by
  obtain ⟨d, rfl⟩ : ∃ k, d = k + 1 := ⟨d - 1, by omega⟩
  unfold f_X8_countOf at hr
  refine j_iconst (v := 0) rfl dX8_countOf_0 ?_
  refine j_istore (i := 4) (L' := [some (.ref a0), some (.int a1), some (.int a2), some (.int a3), some (.int 0), none, none]) (Nat.le_of_ble_eq_true rfl) rfl rfl dX8_countOf_1 ?_
  refine j_iconst (v := 0) rfl dX8_countOf_3 ?_
  refine j_istore (i := 5) (L' := [some (.ref a0), some (.int a1), some (.int a2), some (.int a3), some (.int 0), some (.int 0), none]) (Nat.le_of_ble_eq_true rfl) rfl rfl dX8_countOf_4 ?_
  replace hr := m_bind hr; obtain ⟨e24, q27, hr⟩ := hr
  refine j_weak (L' := [some (.ref a0), some (.int a1), some (.int a2), some (.int a3), some (.int 0), some (.int 0), none]) (And.intro rfl (And.intro rfl (And.intro rfl (And.intro rfl (And.intro rfl (And.intro rfl trivial)))))) ?_
  refine m_loop_sound (step := w_X8_countOf_6 h a0 a1 a2 a3) (P := fun s_1 => m_J X Y_X8_countOf (d + 1) 6 [some (.ref a0), some (.int a1), some (.int a2), some (.int a3), some (.int s_1.1), some (.int s_1.2), none] [] h (some (.int rv), h)) (Qe := fun e24 => m_J X Y_X8_countOf (d + 1) 76 [none, none, none, none, some (.int e24), none, none] [] h (some (.int rv), h)) ?_ _ _ _ q27 ?_
  · intro s_1 o hr hk
    unfold w_X8_countOf_6 at hr
    refine j_iload (i := 5) rfl dX8_countOf_6 ?_
    refine j_aload_n (i := 0) rfl rfl dX8_countOf_8 ?_
    replace hr := m_bind hr; obtain ⟨x2, g3, hr⟩ := hr
    refine j_getf (C := RX8) (T := TX8) (N := 3) (ci := 7) (k := 2) rfl (by decide) inX8 tw_1_32 dX8_countOf_9 (m_gi_spec g3) ?_
    refine j_ic_ge (tgt := 76) dX8_countOf_12 rfl (fun c4 => ?_) (fun c4 => ?_)
    · rw [if_pos c4] at hr
      cases hr
      exact j_weak (L' := [none, none, none, none, some (.int s_1.1), none, none]) (And.intro rfl trivial) hk
    · rw [if_neg c4] at hr
      refine j_iload (i := 5) rfl dX8_countOf_15 ?_
      refine j_sipush (v := 300) rfl dX8_countOf_17 ?_
      refine j_ic_ge (tgt := 76) dX8_countOf_20 rfl (fun c5 => ?_) (fun c5 => ?_)
      · rw [if_pos c5] at hr
        cases hr
        exact j_weak (L' := [none, none, none, none, some (.int s_1.1), none, none]) (And.intro rfl trivial) hk
      · rw [if_neg c5] at hr
        refine j_aload_n (i := 0) rfl rfl dX8_countOf_23 ?_
        replace hr := m_bind hr; obtain ⟨q6, g7, hr⟩ := hr
        refine j_getf (C := RX8) (T := TX8) (N := 3) (ci := 7) (k := 0) rfl (by decide) inX8 tw_1_30 dX8_countOf_24 (m_gr_spec g7) ?_
        refine j_iload (i := 5) rfl dX8_countOf_27 ?_
        replace hr := m_bind hr; obtain ⟨b8, g9, hr⟩ := hr
        subst g9
        replace hr := m_bind hr; obtain ⟨q10, g11, hr⟩ := hr
        refine j_aaload dX8_countOf_29 g11 ?_
        refine j_astoreq (q := q10) (i := 6) (L' := [some (.ref a0), some (.int a1), some (.int a2), some (.int a3), some (.int s_1.1), some (.int s_1.2), some (va_rf q10)]) (Nat.le_of_ble_eq_true rfl) rfl rfl dX8_countOf_30 ?_
        refine j_aloadq (q := q10) (i := 6) rfl dX8_countOf_32 ?_
        cases q10 with
        | none =>
          dsimp only at hr
          refine j_ifnull_n (tgt := 70) dX8_countOf_34 rfl ?_
          refine j_iinc (i := 5) (v := s_1.2 + 1) (L' := [some (.ref a0), some (.int a1), some (.int a2), some (.int a3), some (.int s_1.1), some (.int (s_1.2 + 1)), some (.null)]) rfl (m_o1 _) (Nat.le_of_ble_eq_true rfl) rfl rfl dX8_countOf_70 ?_
          refine j_goto (tgt := 6) dX8_countOf_73 rfl ?_
          cases hr
          exact j_weak (L' := [some (.ref a0), some (.int a1), some (.int a2), some (.int a3), some (.int s_1.1), some (.int (s_1.2 + 1)), none]) (And.intro rfl (And.intro rfl (And.intro rfl (And.intro rfl (And.intro rfl (And.intro rfl trivial)))))) hk
        | some b12 =>
          dsimp only at hr
          refine j_ifnull_r dX8_countOf_34 ?_
          refine j_aload (i := 6) rfl dX8_countOf_37 ?_
          replace hr := m_bind hr; obtain ⟨x13, g14, hr⟩ := hr
          refine j_getf (C := RX7) (T := TX7) (N := 11) (ci := 6) (k := 1) rfl (by decide) inX7 tw_1_188 dX8_countOf_39 (m_gi_spec g14) ?_
          refine j_iload_n (i := 2) rfl rfl dX8_countOf_42 ?_
          refine j_ic_lt (tgt := 70) dX8_countOf_43 rfl (fun c15 => ?_) (fun c15 => ?_)
          · rw [if_pos c15] at hr
            refine j_iinc (i := 5) (v := s_1.2 + 1) (L' := [some (.ref a0), some (.int a1), some (.int a2), some (.int a3), some (.int s_1.1), some (.int (s_1.2 + 1)), some (.ref b12)]) rfl (m_o1 _) (Nat.le_of_ble_eq_true rfl) rfl rfl dX8_countOf_70 ?_
            refine j_goto (tgt := 6) dX8_countOf_73 rfl ?_
            cases hr
            exact j_weak (L' := [some (.ref a0), some (.int a1), some (.int a2), some (.int a3), some (.int s_1.1), some (.int (s_1.2 + 1)), none]) (And.intro rfl (And.intro rfl (And.intro rfl (And.intro rfl (And.intro rfl (And.intro rfl trivial)))))) hk
          · rw [if_neg c15] at hr
            refine j_aload (i := 6) rfl dX8_countOf_46 ?_
            replace hr := m_bind hr; obtain ⟨x16, g17, hr⟩ := hr
            refine j_getf (C := RX7) (T := TX7) (N := 11) (ci := 6) (k := 1) rfl (by decide) inX7 tw_1_188 dX8_countOf_48 (m_gi_spec g17) ?_
            refine j_iload_n (i := 3) rfl rfl dX8_countOf_51 ?_
            refine j_ic_gt (tgt := 70) dX8_countOf_52 rfl (fun c18 => ?_) (fun c18 => ?_)
            · rw [if_pos c18] at hr
              refine j_iinc (i := 5) (v := s_1.2 + 1) (L' := [some (.ref a0), some (.int a1), some (.int a2), some (.int a3), some (.int s_1.1), some (.int (s_1.2 + 1)), some (.ref b12)]) rfl (m_o1 _) (Nat.le_of_ble_eq_true rfl) rfl rfl dX8_countOf_70 ?_
              refine j_goto (tgt := 6) dX8_countOf_73 rfl ?_
              cases hr
              exact j_weak (L' := [some (.ref a0), some (.int a1), some (.int a2), some (.int a3), some (.int s_1.1), some (.int (s_1.2 + 1)), none]) (And.intro rfl (And.intro rfl (And.intro rfl (And.intro rfl (And.intro rfl (And.intro rfl trivial)))))) hk
            · rw [if_neg c18] at hr
              refine j_aload (i := 6) rfl dX8_countOf_55 ?_
              replace hr := m_bind hr; obtain ⟨x19, g20, hr⟩ := hr
              refine j_getf (C := RX7) (T := TX7) (N := 11) (ci := 6) (k := 3) rfl (by decide) inX7 tw_1_197 dX8_countOf_57 (m_gi_spec g20) ?_
              refine j_iload_n (i := 1) rfl rfl dX8_countOf_60 ?_
              replace hr := m_bind hr; obtain ⟨r22, g21, hr⟩ := hr
              refine j_callS (Y' := Y_X1_standsUnder) (as := [.int x19, .int a1]) ok_X1_standsUnder [some (.int x19), some (.int a1)] rfl rfl tw_3_131 tw_2_52 nn_X1_standsUnder (Nat.le_of_ble_eq_true rfl) dX8_countOf_61 (j_X1_standsUnder (by omega) g21) ?_
              refine j_if_eq (tgt := 70) dX8_countOf_64 rfl (fun c23 => ?_) (fun c23 => ?_)
              · rw [if_pos c23] at hr
                refine j_iinc (i := 5) (v := s_1.2 + 1) (L' := [some (.ref a0), some (.int a1), some (.int a2), some (.int a3), some (.int s_1.1), some (.int (s_1.2 + 1)), some (.ref b12)]) rfl (m_o1 _) (Nat.le_of_ble_eq_true rfl) rfl rfl dX8_countOf_70 ?_
                refine j_goto (tgt := 6) dX8_countOf_73 rfl ?_
                cases hr
                exact j_weak (L' := [some (.ref a0), some (.int a1), some (.int a2), some (.int a3), some (.int s_1.1), some (.int (s_1.2 + 1)), none]) (And.intro rfl (And.intro rfl (And.intro rfl (And.intro rfl (And.intro rfl (And.intro rfl trivial)))))) hk
              · rw [if_neg c23] at hr
                refine j_iinc (i := 4) (v := s_1.1 + 1) (L' := [some (.ref a0), some (.int a1), some (.int a2), some (.int a3), some (.int (s_1.1 + 1)), some (.int s_1.2), some (.ref b12)]) rfl (m_o1 _) (Nat.le_of_ble_eq_true rfl) rfl rfl dX8_countOf_67 ?_
                refine j_iinc (i := 5) (v := s_1.2 + 1) (L' := [some (.ref a0), some (.int a1), some (.int a2), some (.int a3), some (.int (s_1.1 + 1)), some (.int (s_1.2 + 1)), some (.ref b12)]) rfl (m_o1 _) (Nat.le_of_ble_eq_true rfl) rfl rfl dX8_countOf_70 ?_
                refine j_goto (tgt := 6) dX8_countOf_73 rfl ?_
                cases hr
                exact j_weak (L' := [some (.ref a0), some (.int a1), some (.int a2), some (.int a3), some (.int (s_1.1 + 1)), some (.int (s_1.2 + 1)), none]) (And.intro rfl (And.intro rfl (And.intro rfl (And.intro rfl (And.intro rfl (And.intro rfl trivial)))))) hk
  · skip
    refine j_iload (i := 4) rfl dX8_countOf_76 ?_
    cases hr
    exact j_ret dX8_countOf_78 m_rk_i
def w_X8_numberOf_5 (h : mH) (a0 : Nat) (a1 : Int32) (a2 : Int32) : (Int32 × Int32) → Option ((Int32 × Int32) ⊕ ((Unit) ⊕ (Int32))) := fun s_1 =>
  (m_gi h a0 7 2).bind fun x2 =>
  if x2 ≤ s_1.2 then
    some (.inr (.inl ()))
  else
    if 300 ≤ s_1.2 then
      some (.inr (.inl ()))
    else
      (m_gr h a0 7 1).bind fun q6 =>
      (q6).bind fun b8 =>
      (m_ald h b8 s_1.2).bind fun q10 =>
      match q10 with
      | none =>
        some (.inl (s_1.1, s_1.2 + 1))
      | some b12 =>
        (m_gi h b12 6 3).bind fun x13 =>
        (f_X1_standsUnder x13 a1).bind fun r16 =>
        if r16 = 0 then
          some (.inl (s_1.1, s_1.2 + 1))
        else
          if s_1.1 = a2 then
            (m_gi h b12 6 0).bind fun x19 =>
            some (.inr (.inr x19))
          else
            some (.inl (s_1.1 + 1, s_1.2 + 1))
def f_X8_numberOf (h : mH) (a0 : Nat) (a1 : Int32) (a2 : Int32) : Option (Int32) :=
  (m_loop (w_X8_numberOf_5 h a0 a1 a2) 5000 ((0, 0))).bind fun e21 => match e21 with
  | .inl x22 =>
    some ((-1))
  | .inr v24 => some v24
def Y_X8_numberOf : mY := (yX8_numberOf, cX8_numberOf, 6, some (FieldType.int), .ireturn)
theorem ok_X8_numberOf : m_Ok Y_X8_numberOf := ⟨by decide +kernel, ⟨by decide +kernel, by decide +kernel⟩, tw_3_139, tw_1_2, by decide, Or.inr (Or.inl ⟨Or.inl rfl, rfl⟩)⟩
theorem nn_X8_numberOf : (parseMethodDescriptor Y_X8_numberOf.1.desc).map (fun q => q.parameters.length) = some 2 := by decide +kernel
set_option maxHeartbeats 4000000 in
set_option maxRecDepth 20000 in
theorem j_X8_numberOf {X : mX} {d : Nat} {h : mH} {a0 : Nat} {a1 : Int32} {a2 : Int32} {rv : Int32} (hd : 3 ≤ d) (hr : f_X8_numberOf h a0 a1 a2 = some rv) : m_J X Y_X8_numberOf d 0 [some (.ref a0), some (.int a1), some (.int a2), none, none, none] [] h (some (.int rv), h) := by
  obtain ⟨d, rfl⟩ : ∃ k, d = k + 1 := ⟨d - 1, by omega⟩
  unfold f_X8_numberOf at hr
  refine j_iconst (v := 0) rfl dX8_numberOf_0 ?_
  refine j_istore_n (i := 3) (L' := [some (.ref a0), some (.int a1), some (.int a2), some (.int 0), none, none]) rfl (Nat.le_of_ble_eq_true rfl) rfl rfl dX8_numberOf_1 ?_
  refine j_iconst (v := 0) rfl dX8_numberOf_2 ?_
  refine j_istore (i := 4) (L' := [some (.ref a0), some (.int a1), some (.int a2), some (.int 0), some (.int 0), none]) (Nat.le_of_ble_eq_true rfl) rfl rfl dX8_numberOf_3 ?_
  replace hr := m_bind hr; obtain ⟨e21, q25, hr⟩ := hr
  refine j_weak (L' := [some (.ref a0), some (.int a1), some (.int a2), some (.int 0), some (.int 0), none]) (And.intro rfl (And.intro rfl (And.intro rfl (And.intro rfl (And.intro rfl trivial))))) ?_
  refine m_loop_sound (step := w_X8_numberOf_5 h a0 a1 a2) (P := fun s_1 => m_J X Y_X8_numberOf (d + 1) 5 [some (.ref a0), some (.int a1), some (.int a2), some (.int s_1.1), some (.int s_1.2), none] [] h (some (.int rv), h)) (Qe := fun e21 => match e21 with | .inl x22 => m_J X Y_X8_numberOf (d + 1) 68 [none, none, none, none, none, none] [] h (some (.int rv), h) | .inr v24 => ((some (.int rv), h) : mR) = (some (.int v24), h)) ?_ _ _ _ q25 ?_
  · intro s_1 o hr hk
    unfold w_X8_numberOf_5 at hr
    refine j_iload (i := 4) rfl dX8_numberOf_5 ?_
    refine j_aload_n (i := 0) rfl rfl dX8_numberOf_7 ?_
    replace hr := m_bind hr; obtain ⟨x2, g3, hr⟩ := hr
    refine j_getf (C := RX8) (T := TX8) (N := 3) (ci := 7) (k := 2) rfl (by decide) inX8 tw_1_32 dX8_numberOf_8 (m_gi_spec g3) ?_
    refine j_ic_ge (tgt := 68) dX8_numberOf_11 rfl (fun c4 => ?_) (fun c4 => ?_)
    · rw [if_pos c4] at hr
      cases hr
      exact j_weak (L' := [none, none, none, none, none, none]) trivial hk
    · rw [if_neg c4] at hr
      refine j_iload (i := 4) rfl dX8_numberOf_14 ?_
      refine j_sipush (v := 300) rfl dX8_numberOf_16 ?_
      refine j_ic_ge (tgt := 68) dX8_numberOf_19 rfl (fun c5 => ?_) (fun c5 => ?_)
      · rw [if_pos c5] at hr
        cases hr
        exact j_weak (L' := [none, none, none, none, none, none]) trivial hk
      · rw [if_neg c5] at hr
        refine j_aload_n (i := 0) rfl rfl dX8_numberOf_22 ?_
        replace hr := m_bind hr; obtain ⟨q6, g7, hr⟩ := hr
        refine j_getf (C := RX8) (T := TX8) (N := 3) (ci := 7) (k := 1) rfl (by decide) inX8 tw_1_31 dX8_numberOf_23 (m_gr_spec g7) ?_
        refine j_iload (i := 4) rfl dX8_numberOf_26 ?_
        replace hr := m_bind hr; obtain ⟨b8, g9, hr⟩ := hr
        subst g9
        replace hr := m_bind hr; obtain ⟨q10, g11, hr⟩ := hr
        refine j_aaload dX8_numberOf_28 g11 ?_
        refine j_astoreq (q := q10) (i := 5) (L' := [some (.ref a0), some (.int a1), some (.int a2), some (.int s_1.1), some (.int s_1.2), some (va_rf q10)]) (Nat.le_of_ble_eq_true rfl) rfl rfl dX8_numberOf_29 ?_
        refine j_aloadq (q := q10) (i := 5) rfl dX8_numberOf_31 ?_
        cases q10 with
        | none =>
          dsimp only at hr
          refine j_ifnull_n (tgt := 62) dX8_numberOf_33 rfl ?_
          refine j_iinc (i := 4) (v := s_1.2 + 1) (L' := [some (.ref a0), some (.int a1), some (.int a2), some (.int s_1.1), some (.int (s_1.2 + 1)), some (.null)]) rfl (m_o1 _) (Nat.le_of_ble_eq_true rfl) rfl rfl dX8_numberOf_62 ?_
          refine j_goto (tgt := 5) dX8_numberOf_65 rfl ?_
          cases hr
          exact j_weak (L' := [some (.ref a0), some (.int a1), some (.int a2), some (.int s_1.1), some (.int (s_1.2 + 1)), none]) (And.intro rfl (And.intro rfl (And.intro rfl (And.intro rfl (And.intro rfl trivial))))) hk
        | some b12 =>
          dsimp only at hr
          refine j_ifnull_r dX8_numberOf_33 ?_
          refine j_aload (i := 5) rfl dX8_numberOf_36 ?_
          replace hr := m_bind hr; obtain ⟨x13, g14, hr⟩ := hr
          refine j_getf (C := RX7) (T := TX7) (N := 11) (ci := 6) (k := 3) rfl (by decide) inX7 tw_1_197 dX8_numberOf_38 (m_gi_spec g14) ?_
          refine j_iload_n (i := 1) rfl rfl dX8_numberOf_41 ?_
          replace hr := m_bind hr; obtain ⟨r16, g15, hr⟩ := hr
          refine j_callS (Y' := Y_X1_standsUnder) (as := [.int x13, .int a1]) ok_X1_standsUnder [some (.int x13), some (.int a1)] rfl rfl tw_3_131 tw_2_52 nn_X1_standsUnder (Nat.le_of_ble_eq_true rfl) dX8_numberOf_42 (j_X1_standsUnder (by omega) g15) ?_
          refine j_if_eq (tgt := 62) dX8_numberOf_45 rfl (fun c17 => ?_) (fun c17 => ?_)
          · rw [if_pos c17] at hr
            refine j_iinc (i := 4) (v := s_1.2 + 1) (L' := [some (.ref a0), some (.int a1), some (.int a2), some (.int s_1.1), some (.int (s_1.2 + 1)), some (.ref b12)]) rfl (m_o1 _) (Nat.le_of_ble_eq_true rfl) rfl rfl dX8_numberOf_62 ?_
            refine j_goto (tgt := 5) dX8_numberOf_65 rfl ?_
            cases hr
            exact j_weak (L' := [some (.ref a0), some (.int a1), some (.int a2), some (.int s_1.1), some (.int (s_1.2 + 1)), none]) (And.intro rfl (And.intro rfl (And.intro rfl (And.intro rfl (And.intro rfl trivial))))) hk
          · rw [if_neg c17] at hr
            refine j_iload_n (i := 3) rfl rfl dX8_numberOf_48 ?_
            refine j_iload_n (i := 2) rfl rfl dX8_numberOf_49 ?_
            refine j_ic_ne (tgt := 59) dX8_numberOf_50 rfl (fun c18 => ?_) (fun c18 => ?_)
            · rw [if_neg c18] at hr
              refine j_iinc (i := 3) (v := s_1.1 + 1) (L' := [some (.ref a0), some (.int a1), some (.int a2), some (.int (s_1.1 + 1)), some (.int s_1.2), some (.ref b12)]) rfl (m_o1 _) (Nat.le_of_ble_eq_true rfl) rfl rfl dX8_numberOf_59 ?_
              refine j_iinc (i := 4) (v := s_1.2 + 1) (L' := [some (.ref a0), some (.int a1), some (.int a2), some (.int (s_1.1 + 1)), some (.int (s_1.2 + 1)), some (.ref b12)]) rfl (m_o1 _) (Nat.le_of_ble_eq_true rfl) rfl rfl dX8_numberOf_62 ?_
              refine j_goto (tgt := 5) dX8_numberOf_65 rfl ?_
              cases hr
              exact j_weak (L' := [some (.ref a0), some (.int a1), some (.int a2), some (.int (s_1.1 + 1)), some (.int (s_1.2 + 1)), none]) (And.intro rfl (And.intro rfl (And.intro rfl (And.intro rfl (And.intro rfl trivial))))) hk
            · rw [if_pos c18] at hr
              refine j_aload (i := 5) rfl dX8_numberOf_53 ?_
              replace hr := m_bind hr; obtain ⟨x19, g20, hr⟩ := hr
              refine j_getf (C := RX7) (T := TX7) (N := 11) (ci := 6) (k := 0) rfl (by decide) inX7 tw_1_183 dX8_numberOf_55 (m_gi_spec g20) ?_
              cases hr
              rw [show _ = _ from hk]
              exact j_ret dX8_numberOf_58 m_rk_i
  · cases e21 with
    | inl x22 =>
      dsimp only at hr
      dsimp only
      refine j_iconst (v := (-1)) rfl dX8_numberOf_68 ?_
      cases hr
      exact j_ret dX8_numberOf_69 m_rk_i
    | inr v24 =>
      dsimp only at hr
      cases hr
      rfl
def w_X8_countInBoxes_4 (h : mH) (a0 : Nat) : (Int32 × Int32) → Option ((Int32 × Int32) ⊕ (Int32)) := fun s_1 =>
  (m_gi h a0 7 2).bind fun x2 =>
  if x2 ≤ s_1.2 then
    some (.inr s_1.1)
  else
    if 300 ≤ s_1.2 then
      some (.inr s_1.1)
    else
      (m_gr h a0 7 0).bind fun q6 =>
      (q6).bind fun b8 =>
      (m_ald h b8 s_1.2).bind fun q10 =>
      match q10 with
      | none =>
        some (.inl (s_1.1, s_1.2 + 1))
      | some b12 =>
        (m_gr h b12 6 4).bind fun q13 =>
        match q13 with
        | none =>
          some (.inl (s_1.1, s_1.2 + 1))
        | some b15 =>
          some (.inl (s_1.1 + 1, s_1.2 + 1))
def f_X8_countInBoxes (h : mH) (a0 : Nat) : Option (Int32) :=
  (m_loop (w_X8_countInBoxes_4 h a0) 5000 ((0, 0))).bind fun e16 =>
  some e16
def Y_X8_countInBoxes : mY := (yX8_countInBoxes, cX8_countInBoxes, 4, some (FieldType.int), .ireturn)
theorem ok_X8_countInBoxes : m_Ok Y_X8_countInBoxes := ⟨by decide +kernel, ⟨by decide +kernel, by decide +kernel⟩, tw_3_178, tw_1_2, by decide, Or.inr (Or.inl ⟨Or.inl rfl, rfl⟩)⟩
theorem nn_X8_countInBoxes : (parseMethodDescriptor Y_X8_countInBoxes.1.desc).map (fun q => q.parameters.length) = some 0 := by decide +kernel
set_option maxHeartbeats 4000000 in
set_option maxRecDepth 20000 in
theorem j_X8_countInBoxes {X : mX} {d : Nat} {h : mH} {a0 : Nat} {rv : Int32} (hr : f_X8_countInBoxes h a0 = some rv) : m_J X Y_X8_countInBoxes d 0 [some (.ref a0), none, none, none] [] h (some (.int rv), h) := by
  unfold f_X8_countInBoxes at hr
  refine j_iconst (v := 0) rfl dX8_countInBoxes_0 ?_
  refine j_istore_n (i := 1) (L' := [some (.ref a0), some (.int 0), none, none]) rfl (Nat.le_of_ble_eq_true rfl) rfl rfl dX8_countInBoxes_1 ?_
  refine j_iconst (v := 0) rfl dX8_countInBoxes_2 ?_
  refine j_istore_n (i := 2) (L' := [some (.ref a0), some (.int 0), some (.int 0), none]) rfl (Nat.le_of_ble_eq_true rfl) rfl rfl dX8_countInBoxes_3 ?_
  replace hr := m_bind hr; obtain ⟨e16, q19, hr⟩ := hr
  refine j_weak (L' := [some (.ref a0), some (.int 0), some (.int 0), none]) (And.intro rfl (And.intro rfl (And.intro rfl trivial))) ?_
  refine m_loop_sound (step := w_X8_countInBoxes_4 h a0) (P := fun s_1 => m_J X Y_X8_countInBoxes d 4 [some (.ref a0), some (.int s_1.1), some (.int s_1.2), none] [] h (some (.int rv), h)) (Qe := fun e16 => m_J X Y_X8_countInBoxes d 46 [none, some (.int e16), none, none] [] h (some (.int rv), h)) ?_ _ _ _ q19 ?_
  · intro s_1 o hr hk
    unfold w_X8_countInBoxes_4 at hr
    refine j_iload_n (i := 2) rfl rfl dX8_countInBoxes_4 ?_
    refine j_aload_n (i := 0) rfl rfl dX8_countInBoxes_5 ?_
    replace hr := m_bind hr; obtain ⟨x2, g3, hr⟩ := hr
    refine j_getf (C := RX8) (T := TX8) (N := 3) (ci := 7) (k := 2) rfl (by decide) inX8 tw_1_32 dX8_countInBoxes_6 (m_gi_spec g3) ?_
    refine j_ic_ge (tgt := 46) dX8_countInBoxes_9 rfl (fun c4 => ?_) (fun c4 => ?_)
    · rw [if_pos c4] at hr
      cases hr
      exact j_weak (L' := [none, some (.int s_1.1), none, none]) (And.intro rfl trivial) hk
    · rw [if_neg c4] at hr
      refine j_iload_n (i := 2) rfl rfl dX8_countInBoxes_12 ?_
      refine j_sipush (v := 300) rfl dX8_countInBoxes_13 ?_
      refine j_ic_ge (tgt := 46) dX8_countInBoxes_16 rfl (fun c5 => ?_) (fun c5 => ?_)
      · rw [if_pos c5] at hr
        cases hr
        exact j_weak (L' := [none, some (.int s_1.1), none, none]) (And.intro rfl trivial) hk
      · rw [if_neg c5] at hr
        refine j_aload_n (i := 0) rfl rfl dX8_countInBoxes_19 ?_
        replace hr := m_bind hr; obtain ⟨q6, g7, hr⟩ := hr
        refine j_getf (C := RX8) (T := TX8) (N := 3) (ci := 7) (k := 0) rfl (by decide) inX8 tw_1_30 dX8_countInBoxes_20 (m_gr_spec g7) ?_
        refine j_iload_n (i := 2) rfl rfl dX8_countInBoxes_23 ?_
        replace hr := m_bind hr; obtain ⟨b8, g9, hr⟩ := hr
        subst g9
        replace hr := m_bind hr; obtain ⟨q10, g11, hr⟩ := hr
        refine j_aaload dX8_countInBoxes_24 g11 ?_
        refine j_astoreq_n (q := q10) (i := 3) (L' := [some (.ref a0), some (.int s_1.1), some (.int s_1.2), some (va_rf q10)]) rfl (Nat.le_of_ble_eq_true rfl) rfl rfl dX8_countInBoxes_25 ?_
        refine j_aloadq_n (q := q10) (i := 3) rfl rfl dX8_countInBoxes_26 ?_
        cases q10 with
        | none =>
          dsimp only at hr
          refine j_ifnull_n (tgt := 40) dX8_countInBoxes_27 rfl ?_
          refine j_iinc (i := 2) (v := s_1.2 + 1) (L' := [some (.ref a0), some (.int s_1.1), some (.int (s_1.2 + 1)), some (.null)]) rfl (m_o1 _) (Nat.le_of_ble_eq_true rfl) rfl rfl dX8_countInBoxes_40 ?_
          refine j_goto (tgt := 4) dX8_countInBoxes_43 rfl ?_
          cases hr
          exact j_weak (L' := [some (.ref a0), some (.int s_1.1), some (.int (s_1.2 + 1)), none]) (And.intro rfl (And.intro rfl (And.intro rfl trivial))) hk
        | some b12 =>
          dsimp only at hr
          refine j_ifnull_r dX8_countInBoxes_27 ?_
          refine j_aload_n (i := 3) rfl rfl dX8_countInBoxes_30 ?_
          replace hr := m_bind hr; obtain ⟨q13, g14, hr⟩ := hr
          refine j_getf (C := RX7) (T := TX7) (N := 11) (ci := 6) (k := 4) rfl (by decide) inX7 tw_1_200 dX8_countInBoxes_31 (m_gr_spec g14) ?_
          cases q13 with
          | none =>
            dsimp only at hr
            refine j_ifnull_n (tgt := 40) dX8_countInBoxes_34 rfl ?_
            refine j_iinc (i := 2) (v := s_1.2 + 1) (L' := [some (.ref a0), some (.int s_1.1), some (.int (s_1.2 + 1)), some (.ref b12)]) rfl (m_o1 _) (Nat.le_of_ble_eq_true rfl) rfl rfl dX8_countInBoxes_40 ?_
            refine j_goto (tgt := 4) dX8_countInBoxes_43 rfl ?_
            cases hr
            exact j_weak (L' := [some (.ref a0), some (.int s_1.1), some (.int (s_1.2 + 1)), none]) (And.intro rfl (And.intro rfl (And.intro rfl trivial))) hk
          | some b15 =>
            dsimp only at hr
            refine j_ifnull_r dX8_countInBoxes_34 ?_
            refine j_iinc (i := 1) (v := s_1.1 + 1) (L' := [some (.ref a0), some (.int (s_1.1 + 1)), some (.int s_1.2), some (.ref b12)]) rfl (m_o1 _) (Nat.le_of_ble_eq_true rfl) rfl rfl dX8_countInBoxes_37 ?_
            refine j_iinc (i := 2) (v := s_1.2 + 1) (L' := [some (.ref a0), some (.int (s_1.1 + 1)), some (.int (s_1.2 + 1)), some (.ref b12)]) rfl (m_o1 _) (Nat.le_of_ble_eq_true rfl) rfl rfl dX8_countInBoxes_40 ?_
            refine j_goto (tgt := 4) dX8_countInBoxes_43 rfl ?_
            cases hr
            exact j_weak (L' := [some (.ref a0), some (.int (s_1.1 + 1)), some (.int (s_1.2 + 1)), none]) (And.intro rfl (And.intro rfl (And.intro rfl trivial))) hk
  · skip
    refine j_iload_n (i := 1) rfl rfl dX8_countInBoxes_46 ?_
    cases hr
    exact j_ret dX8_countInBoxes_47 m_rk_i
