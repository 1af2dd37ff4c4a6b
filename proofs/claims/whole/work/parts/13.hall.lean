def w_X9_init_35 (a0 : Nat) : (Int32 × mH) → Option ((Int32 × mH) ⊕ (mH)) := fun s_15 =>
  if 10 ≤ s_15.1 then
    some (.inr s_15.2)
  else
    (m_gr s_15.2 a0 8 2).bind fun q17 =>
    (m_newO s_15.2 5 [.int 0, .int 0, .int 0, .int 0, .int 0]).bind fun h19 =>
    (f_X6_init h19 s_15.2.1 s_15.1).bind fun h22 =>
    (q17).bind fun b23 =>
    (m_ast h22 b23 s_15.1 ((some s_15.2.1))).bind fun h25 =>
    some (.inl (s_15.1 + 1, h25))
def w_X9_init_72 (a0 : Nat) : (Int32 × mH) → Option ((Int32 × mH) ⊕ (mH)) := fun s_32 =>
  if 10 ≤ s_32.1 then
    some (.inr s_32.2)
  else
    (m_gr s_32.2 a0 8 3).bind fun q34 =>
    (m_newO s_32.2 1 [.null, .int 0, .int 0]).bind fun h36 =>
    (f_X2_init h36 s_32.2.1).bind fun h39 =>
    (q34).bind fun b40 =>
    (m_ast h39 b40 s_32.1 ((some s_32.2.1))).bind fun h42 =>
    some (.inl (s_32.1 + 1, h42))
def f_X9_init (h : mH) (a0 : Nat) : Option (mH) :=
  (m_newO h 7 [.null, .null, .int 0]).bind fun h1 =>
  (f_X8_init h1 h.1).bind fun h4 =>
  (m_pf h4 a0 8 0 (va_rf ((some h.1)))).bind fun h5 =>
  (m_newr h5 3 40).bind fun h7 =>
  (m_pf h7 a0 8 1 (va_rf ((some h5.1)))).bind fun h9 =>
  (m_newr h9 4 10).bind fun h11 =>
  (m_pf h11 a0 8 2 (va_rf ((some h9.1)))).bind fun h13 =>
  (m_loop (w_X9_init_35 a0) 5000 ((0, h13))).bind fun e27 =>
  (m_newr e27 5 10).bind fun h28 =>
  (m_pf h28 a0 8 3 (va_rf ((some e27.1)))).bind fun h30 =>
  (m_loop (w_X9_init_72 a0) 5000 ((0, h30))).bind fun e44 =>
  (m_newO e44 4 [.null, .null]).bind fun h45 =>
  (f_X5_init h45 e44.1).bind fun h48 =>
  (m_pf h48 a0 8 4 (va_rf ((some e44.1)))).bind fun h49 =>
  (m_newO h49 2 [.null, .null, .null, .int 0, .int 0]).bind fun h51 =>
  (f_X3_init h51 h49.1).bind fun h54 =>
  (m_pf h54 a0 8 5 (va_rf ((some h49.1)))).bind fun h55 =>
  (m_pf h55 a0 8 6 (.int 0)).bind fun h57 =>
  (m_pf h57 a0 8 7 (.int 0)).bind fun h59 =>
  some h59
def Y_X9_init : mY := (yX9_init, cX9_init, 2, none, .return_)
theorem ok_X9_init : m_Ok Y_X9_init := ⟨by decide +kernel, ⟨by decide +kernel, by decide +kernel⟩, tw_1_18, tw_1_1, by decide, Or.inl ⟨rfl, rfl⟩⟩
theorem nn_X9_init : (parseMethodDescriptor Y_X9_init.1.desc).map (fun q => q.parameters.length) = some 0 := by decide +kernel
set_option maxHeartbeats 4000000 in
set_option maxRecDepth 20000 in
theorem j_X9_init {X : mX} {d : Nat} {h : mH} {a0 : Nat} {h' : mH} (hd : 2 ≤ d) (hr : f_X9_init h a0 = some h') : m_J X Y_X9_init d 0 [some (.ref a0), none] [] h (none, h') := by
  obtain ⟨d, rfl⟩ : ∃ k, d = k + 1 := ⟨d - 1, by omega⟩
  unfold f_X9_init at hr
  refine j_aload_n (i := 0) rfl rfl dX9_init_0 ?_
  refine j_objInit tw_1_19 (Nat.le_of_ble_eq_true rfl) dX9_init_1 ?_
  refine j_aload_n (i := 0) rfl rfl dX9_init_4 ?_
  replace hr := m_bind hr; obtain ⟨h1, g2, hr⟩ := hr
  refine j_newO (C := RX8) (T := TX8) (ty := tyX8) (N := 3) (ci := 7) rfl inX8 tyX8_ok tw_1_22 tw_1_23 tw_1_2 (fun j hj => by rcases (show j = 0 ∨ j = 1 ∨ j = 2 by omega) with rfl | rfl | rfl <;> rfl) rfl (fun E => rfl) dX9_init_5 g2 ?_
  refine j_dup rfl dX9_init_8 ?_
  replace hr := m_bind hr; obtain ⟨h4, g3, hr⟩ := hr
  refine j_callI (Y' := Y_X8_init) (a := h.1) (as := []) ok_X8_init rfl rfl [some (.ref h.1)] rfl rfl tw_1_24 tw_1_25 nn_X8_init (Nat.le_of_ble_eq_true rfl) dX9_init_9 (j_X8_init (by omega) g3) ?_
  replace hr := m_bind hr; obtain ⟨h5, g6, hr⟩ := hr
  refine j_putrF (q := (some h.1)) (C := RX9) (T := TX9) (ty := tyX9) (N := 8) (ci := 8) (k := 0) rfl (by decide) inX9 tyX9_ok nmX9 tw_1_130 rfl rfl rfl rfl dX9_init_12 g6 ?_
  refine j_aload_n (i := 0) rfl rfl dX9_init_15 ?_
  refine j_bipush (v := 40) rfl dX9_init_16 ?_
  replace hr := m_bind hr; obtain ⟨h7, g8, hr⟩ := hr
  refine j_newr (t := 3) (by decide) tw_1_41 dX9_init_18 g8 ?_
  replace hr := m_bind hr; obtain ⟨h9, g10, hr⟩ := hr
  refine j_putrF (q := (some h5.1)) (C := RX9) (T := TX9) (ty := tyX9) (N := 8) (ci := 8) (k := 1) rfl (by decide) inX9 tyX9_ok nmX9 tw_1_131 rfl rfl rfl rfl dX9_init_21 g10 ?_
  refine j_aload_n (i := 0) rfl rfl dX9_init_24 ?_
  refine j_bipush (v := 10) rfl dX9_init_25 ?_
  replace hr := m_bind hr; obtain ⟨h11, g12, hr⟩ := hr
  refine j_newr (t := 4) (by decide) tw_1_43 dX9_init_27 g12 ?_
  replace hr := m_bind hr; obtain ⟨h13, g14, hr⟩ := hr
  refine j_putrF (q := (some h9.1)) (C := RX9) (T := TX9) (ty := tyX9) (N := 8) (ci := 8) (k := 2) rfl (by decide) inX9 tyX9_ok nmX9 tw_1_132 rfl rfl rfl rfl dX9_init_30 g14 ?_
  refine j_iconst (v := 0) rfl dX9_init_33 ?_
  refine j_istore_n (i := 1) (L' := [some (.ref a0), some (.int 0)]) rfl (Nat.le_of_ble_eq_true rfl) rfl rfl dX9_init_34 ?_
  replace hr := m_bind hr; obtain ⟨e27, q66, hr⟩ := hr
  refine j_weak (L' := [some (.ref a0), some (.int 0)]) (And.intro rfl (And.intro rfl trivial)) ?_
  refine m_loop_sound (step := w_X9_init_35 a0) (P := fun s_15 => m_J X Y_X9_init (d + 1) 35 [some (.ref a0), some (.int s_15.1)] [] s_15.2 (none, h')) (Qe := fun e27 => m_J X Y_X9_init (d + 1) 61 [some (.ref a0), none] [] e27 (none, h')) ?_ _ _ _ q66 ?_
  · intro s_15 o hr hk
    unfold w_X9_init_35 at hr
    refine j_iload_n (i := 1) rfl rfl dX9_init_35 ?_
    refine j_bipush (v := 10) rfl dX9_init_36 ?_
    refine j_ic_ge (tgt := 61) dX9_init_38 rfl (fun c16 => ?_) (fun c16 => ?_)
    · rw [if_pos c16] at hr
      cases hr
      exact j_weak (L' := [some (.ref a0), none]) (And.intro rfl trivial) hk
    · rw [if_neg c16] at hr
      refine j_aload_n (i := 0) rfl rfl dX9_init_41 ?_
      replace hr := m_bind hr; obtain ⟨q17, g18, hr⟩ := hr
      refine j_getf (C := RX9) (T := TX9) (N := 8) (ci := 8) (k := 2) rfl (by decide) inX9 tw_1_132 dX9_init_42 (m_gr_spec g18) ?_
      refine j_iload_n (i := 1) rfl rfl dX9_init_45 ?_
      replace hr := m_bind hr; obtain ⟨h19, g20, hr⟩ := hr
      refine j_newO (C := RX6) (T := TX6) (ty := tyX6) (N := 5) (ci := 5) rfl inX6 tyX6_ok tw_1_43 tw_1_45 tw_1_3 (fun j hj => by rcases (show j = 0 ∨ j = 1 ∨ j = 2 ∨ j = 3 ∨ j = 4 by omega) with rfl | rfl | rfl | rfl | rfl <;> rfl) rfl (fun E => rfl) dX9_init_46 g20 ?_
      refine j_dup rfl dX9_init_49 ?_
      refine j_iload_n (i := 1) rfl rfl dX9_init_50 ?_
      replace hr := m_bind hr; obtain ⟨h22, g21, hr⟩ := hr
      refine j_callI (Y' := Y_X6_init) (a := s_15.2.1) (as := [.int s_15.1]) ok_X6_init rfl rfl [some (.ref s_15.2.1), some (.int s_15.1)] rfl rfl tw_1_46 tw_1_47 nn_X6_init (by cases q17 <;> exact Nat.le_of_ble_eq_true rfl) dX9_init_51 (j_X6_init (by omega) g21) ?_
      replace hr := m_bind hr; obtain ⟨b23, g24, hr⟩ := hr
      subst g24
      replace hr := m_bind hr; obtain ⟨h25, g26, hr⟩ := hr
      refine j_aastore (q := (some s_15.2.1)) dX9_init_54 g26 ?_
      refine j_iinc (i := 1) (v := s_15.1 + 1) (L' := [some (.ref a0), some (.int (s_15.1 + 1))]) rfl (m_o1 _) (Nat.le_of_ble_eq_true rfl) rfl rfl dX9_init_55 ?_
      refine j_goto (tgt := 35) dX9_init_58 rfl ?_
      cases hr
      exact j_weak (L' := [some (.ref a0), some (.int (s_15.1 + 1))]) (And.intro rfl (And.intro rfl trivial)) hk
  · skip
    refine j_aload_n (i := 0) rfl rfl dX9_init_61 ?_
    refine j_bipush (v := 10) rfl dX9_init_62 ?_
    replace hr := m_bind hr; obtain ⟨h28, g29, hr⟩ := hr
    refine j_newr (t := 5) (by decide) tw_1_70 dX9_init_64 g29 ?_
    replace hr := m_bind hr; obtain ⟨h30, g31, hr⟩ := hr
    refine j_putrF (q := (some e27.1)) (C := RX9) (T := TX9) (ty := tyX9) (N := 8) (ci := 8) (k := 3) rfl (by decide) inX9 tyX9_ok nmX9 tw_1_133 rfl rfl rfl rfl dX9_init_67 g31 ?_
    refine j_iconst (v := 0) rfl dX9_init_70 ?_
    refine j_istore_n (i := 1) (L' := [some (.ref a0), some (.int 0)]) rfl (Nat.le_of_ble_eq_true rfl) rfl rfl dX9_init_71 ?_
    replace hr := m_bind hr; obtain ⟨e44, q63, hr⟩ := hr
    refine j_weak (L' := [some (.ref a0), some (.int 0)]) (And.intro rfl (And.intro rfl trivial)) ?_
    refine m_loop_sound (step := w_X9_init_72 a0) (P := fun s_32 => m_J X Y_X9_init (d + 1) 72 [some (.ref a0), some (.int s_32.1)] [] s_32.2 (none, h')) (Qe := fun e44 => m_J X Y_X9_init (d + 1) 97 [some (.ref a0), none] [] e44 (none, h')) ?_ _ _ _ q63 ?_
    · intro s_32 o hr hk
      unfold w_X9_init_72 at hr
      refine j_iload_n (i := 1) rfl rfl dX9_init_72 ?_
      refine j_bipush (v := 10) rfl dX9_init_73 ?_
      refine j_ic_ge (tgt := 97) dX9_init_75 rfl (fun c33 => ?_) (fun c33 => ?_)
      · rw [if_pos c33] at hr
        cases hr
        exact j_weak (L' := [some (.ref a0), none]) (And.intro rfl trivial) hk
      · rw [if_neg c33] at hr
        refine j_aload_n (i := 0) rfl rfl dX9_init_78 ?_
        replace hr := m_bind hr; obtain ⟨q34, g35, hr⟩ := hr
        refine j_getf (C := RX9) (T := TX9) (N := 8) (ci := 8) (k := 3) rfl (by decide) inX9 tw_1_133 dX9_init_79 (m_gr_spec g35) ?_
        refine j_iload_n (i := 1) rfl rfl dX9_init_82 ?_
        replace hr := m_bind hr; obtain ⟨h36, g37, hr⟩ := hr
        refine j_newO (C := RX2) (T := TX2) (ty := tyX2) (N := 3) (ci := 1) rfl inX2 tyX2_ok tw_1_70 tw_1_72 tw_1_4 (fun j hj => by rcases (show j = 0 ∨ j = 1 ∨ j = 2 by omega) with rfl | rfl | rfl <;> rfl) rfl (fun E => rfl) dX9_init_83 g37 ?_
        refine j_dup rfl dX9_init_86 ?_
        replace hr := m_bind hr; obtain ⟨h39, g38, hr⟩ := hr
        refine j_callI (Y' := Y_X2_init) (a := s_32.2.1) (as := []) ok_X2_init rfl rfl [some (.ref s_32.2.1)] rfl rfl tw_1_73 tw_1_74 nn_X2_init (by cases q34 <;> exact Nat.le_of_ble_eq_true rfl) dX9_init_87 (j_X2_init (by omega) g38) ?_
        replace hr := m_bind hr; obtain ⟨b40, g41, hr⟩ := hr
        subst g41
        replace hr := m_bind hr; obtain ⟨h42, g43, hr⟩ := hr
        refine j_aastore (q := (some s_32.2.1)) dX9_init_90 g43 ?_
        refine j_iinc (i := 1) (v := s_32.1 + 1) (L' := [some (.ref a0), some (.int (s_32.1 + 1))]) rfl (m_o1 _) (Nat.le_of_ble_eq_true rfl) rfl rfl dX9_init_91 ?_
        refine j_goto (tgt := 72) dX9_init_94 rfl ?_
        cases hr
        exact j_weak (L' := [some (.ref a0), some (.int (s_32.1 + 1))]) (And.intro rfl (And.intro rfl trivial)) hk
    · skip
      refine j_aload_n (i := 0) rfl rfl dX9_init_97 ?_
      replace hr := m_bind hr; obtain ⟨h45, g46, hr⟩ := hr
      refine j_newO (C := RX5) (T := TX5) (ty := tyX5) (N := 2) (ci := 4) rfl inX5 tyX5_ok tw_1_90 tw_1_91 tw_1_5 (fun j hj => by rcases (show j = 0 ∨ j = 1 by omega) with rfl | rfl <;> rfl) rfl (fun E => rfl) dX9_init_98 g46 ?_
      refine j_dup rfl dX9_init_101 ?_
      replace hr := m_bind hr; obtain ⟨h48, g47, hr⟩ := hr
      refine j_callI (Y' := Y_X5_init) (a := e44.1) (as := []) ok_X5_init rfl rfl [some (.ref e44.1)] rfl rfl tw_1_92 tw_1_93 nn_X5_init (Nat.le_of_ble_eq_true rfl) dX9_init_102 (j_X5_init (by omega) g47) ?_
      replace hr := m_bind hr; obtain ⟨h49, g50, hr⟩ := hr
      refine j_putrF (q := (some e44.1)) (C := RX9) (T := TX9) (ty := tyX9) (N := 8) (ci := 8) (k := 4) rfl (by decide) inX9 tyX9_ok nmX9 tw_1_134 rfl rfl rfl rfl dX9_init_105 g50 ?_
      refine j_aload_n (i := 0) rfl rfl dX9_init_108 ?_
      replace hr := m_bind hr; obtain ⟨h51, g52, hr⟩ := hr
      refine j_newO (C := RX3) (T := TX3) (ty := tyX3) (N := 5) (ci := 2) rfl inX3 tyX3_ok tw_1_105 tw_1_106 tw_1_6 (fun j hj => by rcases (show j = 0 ∨ j = 1 ∨ j = 2 ∨ j = 3 ∨ j = 4 by omega) with rfl | rfl | rfl | rfl | rfl <;> rfl) rfl (fun E => rfl) dX9_init_109 g52 ?_
      refine j_dup rfl dX9_init_112 ?_
      replace hr := m_bind hr; obtain ⟨h54, g53, hr⟩ := hr
      refine j_callI (Y' := Y_X3_init) (a := h49.1) (as := []) ok_X3_init rfl rfl [some (.ref h49.1)] rfl rfl tw_1_107 tw_1_108 nn_X3_init (Nat.le_of_ble_eq_true rfl) dX9_init_113 (j_X3_init (by omega) g53) ?_
      replace hr := m_bind hr; obtain ⟨h55, g56, hr⟩ := hr
      refine j_putrF (q := (some h49.1)) (C := RX9) (T := TX9) (ty := tyX9) (N := 8) (ci := 8) (k := 5) rfl (by decide) inX9 tyX9_ok nmX9 tw_1_135 rfl rfl rfl rfl dX9_init_116 g56 ?_
      refine j_aload_n (i := 0) rfl rfl dX9_init_119 ?_
      refine j_iconst (v := 0) rfl dX9_init_120 ?_
      replace hr := m_bind hr; obtain ⟨h57, g58, hr⟩ := hr
      refine j_puti (C := RX9) (T := TX9) (ty := tyX9) (N := 8) (ci := 8) (k := 6) rfl (by decide) inX9 tyX9_ok nmX9 tw_1_136 rfl rfl dX9_init_121 g58 ?_
      refine j_aload_n (i := 0) rfl rfl dX9_init_124 ?_
      refine j_iconst (v := 0) rfl dX9_init_125 ?_
      replace hr := m_bind hr; obtain ⟨h59, g60, hr⟩ := hr
      refine j_puti (C := RX9) (T := TX9) (ty := tyX9) (N := 8) (ci := 8) (k := 7) rfl (by decide) inX9 tyX9_ok nmX9 tw_1_137 rfl rfl dX9_init_126 g60 ?_
      cases hr
      exact j_ret dX9_init_129 m_rk_v
def f_X9_make (h : mH) (a0 : Nat) (a1 : Int32) (a2 : Int32) (a3 : Int32) : Option (Int32 × mH) :=
  (f_X1_isConcrete a1).bind fun r2 =>
  if r2 = 0 then
    some (((-1), h))
  else
    (f_X7_isMeasure a2).bind fun r5 =>
    if r5 = 0 then
      some (((-1), h))
    else
      (f_X7_isMeasure a3).bind fun r8 =>
      if r8 = 0 then
        some (((-1), h))
      else
        (m_gr h a0 8 0).bind fun q10 =>
        (q10).bind fun b12 =>
        if m_ob h b12 7 = true then
          (f_X8_add h b12 a1 a2 a3).bind fun p15 =>
          some ((p15.1, p15.2))
        else none
def Y_X9_make : mY := (yX9_make, cX9_make, 4, some (FieldType.int), .ireturn)
theorem ok_X9_make : m_Ok Y_X9_make := ⟨by decide +kernel, ⟨by decide +kernel, by decide +kernel⟩, tw_1_158, tw_1_1, by decide, Or.inr (Or.inl ⟨Or.inl rfl, rfl⟩)⟩
theorem nn_X9_make : (parseMethodDescriptor Y_X9_make.1.desc).map (fun q => q.parameters.length) = some 3 := by decide +kernel
set_option maxHeartbeats 4000000 in
set_option maxRecDepth 20000 in
theorem j_X9_make {X : mX} {d : Nat} {h : mH} {a0 : Nat} {a1 : Int32} {a2 : Int32} {a3 : Int32} {rv : Int32} {h' : mH} (hd : 3 ≤ d) (hr : f_X9_make h a0 a1 a2 a3 = some (rv, h')) : m_J X Y_X9_make d 0 [some (.ref a0), some (.int a1), some (.int a2), some (.int a3)] [] h (some (.int rv), h') := by
  obtain ⟨d, rfl⟩ : ∃ k, d = k + 1 := ⟨d - 1, by omega⟩
  unfold f_X9_make at hr
  refine j_iload_n (i := 1) rfl rfl dX9_make_0 ?_
  replace hr := m_bind hr; obtain ⟨r2, g1, hr⟩ := hr
  refine j_callS (Y' := Y_X1_isConcrete) (as := [.int a1]) ok_X1_isConcrete [some (.int a1)] rfl rfl tw_1_159 tw_1_160 nn_X1_isConcrete (Nat.le_of_ble_eq_true rfl) dX9_make_1 (j_X1_isConcrete (by omega) g1) ?_
  refine j_if_eq (tgt := 21) dX9_make_4 rfl (fun c3 => ?_) (fun c3 => ?_)
  · rw [if_pos c3] at hr
    refine j_iconst (v := (-1)) rfl dX9_make_21 ?_
    cases hr
    exact j_ret dX9_make_22 m_rk_i
  · rw [if_neg c3] at hr
    refine j_iload_n (i := 2) rfl rfl dX9_make_7 ?_
    replace hr := m_bind hr; obtain ⟨r5, g4, hr⟩ := hr
    refine j_callS (Y' := Y_X7_isMeasure) (as := [.int a2]) ok_X7_isMeasure [some (.int a2)] rfl rfl tw_1_169 tw_1_170 nn_X7_isMeasure (Nat.le_of_ble_eq_true rfl) dX9_make_8 (j_X7_isMeasure g4) ?_
    refine j_if_eq (tgt := 21) dX9_make_11 rfl (fun c6 => ?_) (fun c6 => ?_)
    · rw [if_pos c6] at hr
      refine j_iconst (v := (-1)) rfl dX9_make_21 ?_
      cases hr
      exact j_ret dX9_make_22 m_rk_i
    · rw [if_neg c6] at hr
      refine j_iload_n (i := 3) rfl rfl dX9_make_14 ?_
      replace hr := m_bind hr; obtain ⟨r8, g7, hr⟩ := hr
      refine j_callS (Y' := Y_X7_isMeasure) (as := [.int a3]) ok_X7_isMeasure [some (.int a3)] rfl rfl tw_1_169 tw_1_170 nn_X7_isMeasure (Nat.le_of_ble_eq_true rfl) dX9_make_15 (j_X7_isMeasure g7) ?_
      refine j_if_ne (tgt := 23) dX9_make_18 rfl (fun c9 => ?_) (fun c9 => ?_)
      · rw [if_neg c9] at hr
        refine j_aload_n (i := 0) rfl rfl dX9_make_23 ?_
        replace hr := m_bind hr; obtain ⟨q10, g11, hr⟩ := hr
        refine j_getf (C := RX9) (T := TX9) (N := 8) (ci := 8) (k := 0) rfl (by decide) inX9 tw_1_130 dX9_make_24 (m_gr_spec g11) ?_
        refine j_iload_n (i := 1) rfl rfl dX9_make_27 ?_
        refine j_iload_n (i := 2) rfl rfl dX9_make_28 ?_
        refine j_iload_n (i := 3) rfl rfl dX9_make_29 ?_
        replace hr := m_bind hr; obtain ⟨b12, g13, hr⟩ := hr
        subst g13
        by_cases o16 : m_ob h b12 7 = true
        · rw [if_pos o16] at hr
          replace hr := m_bind hr; obtain ⟨p15, g14, hr⟩ := hr
          refine j_callV (Y' := Y_X8_add) (a := b12) (as := [.int a1, .int a2, .int a3]) (ci := 7) (T := TX8) (N := 3) ok_X8_add [some (.ref b12), some (.int a1), some (.int a2), some (.int a3), none, none] rfl rfl rfl tw_1_173 tw_1_174 tw_1_175 nn_X8_add (Nat.le_of_ble_eq_true rfl) dX9_make_30 o16 (j_X8_add (by omega) g14) ?_
          cases hr
          exact j_ret dX9_make_33 m_rk_i
        · rw [if_neg o16] at hr
          cases hr
      · rw [if_pos c9] at hr
        refine j_iconst (v := (-1)) rfl dX9_make_21 ?_
        cases hr
        exact j_ret dX9_make_22 m_rk_i
def f_X9_caseOf (h : mH) (a0 : Nat) (a1 : Int32) (a2 : Int32) : Option (Int32 × mH) :=
  (f_X1_isKind a1).bind fun r2 =>
  if r2 = 0 then
    some (((-1), h))
  else
    if a2 < 1 then
      some (((-1), h))
    else
      if 20 < a2 then
        some (((-1), h))
      else
        (m_gi h a0 8 6).bind fun x6 =>
        if x6 < 40 then
          (m_gr h a0 8 1).bind fun q9 =>
          (m_gi h a0 8 6).bind fun x11 =>
          (m_newO h 0 [.int 0, .int 0, .null]).bind fun h13 =>
          (m_gi h13 a0 8 6).bind fun x15 =>
          (f_X0_init h13 h.1 x15 a1 a2).bind fun h18 =>
          (q9).bind fun b19 =>
          (m_ast h18 b19 x11 ((some h.1))).bind fun h21 =>
          (m_gi h21 a0 8 6).bind fun x23 =>
          (m_pf h21 a0 8 6 (.int (x23 + 1))).bind fun h25 =>
          (m_gi h25 a0 8 6).bind fun x27 =>
          some ((x27 - 1, h25))
        else
          some (((-1), h))
def Y_X9_caseOf : mY := (yX9_caseOf, cX9_caseOf, 3, some (FieldType.int), .ireturn)
theorem ok_X9_caseOf : m_Ok Y_X9_caseOf := ⟨by decide +kernel, ⟨by decide +kernel, by decide +kernel⟩, tw_2_3, tw_1_1, by decide, Or.inr (Or.inl ⟨Or.inl rfl, rfl⟩)⟩
theorem nn_X9_caseOf : (parseMethodDescriptor Y_X9_caseOf.1.desc).map (fun q => q.parameters.length) = some 2 := by decide +kernel
set_option maxHeartbeats 4000000 in
set_option maxRecDepth 20000 in
theorem j_X9_caseOf {X : mX} {d : Nat} {h : mH} {a0 : Nat} {a1 : Int32} {a2 : Int32} {rv : Int32} {h' : mH} (hd : 2 ≤ d) (hr : f_X9_caseOf h a0 a1 a2 = some (rv, h')) : m_J X Y_X9_caseOf d 0 [some (.ref a0), some (.int a1), some (.int a2)] [] h (some (.int rv), h') := by
  obtain ⟨d, rfl⟩ : ∃ k, d = k + 1 := ⟨d - 1, by omega⟩
  unfold f_X9_caseOf at hr
  refine j_iload_n (i := 1) rfl rfl dX9_caseOf_0 ?_
  replace hr := m_bind hr; obtain ⟨r2, g1, hr⟩ := hr
  refine j_callS (Y' := Y_X1_isKind) (as := [.int a1]) ok_X1_isKind [some (.int a1)] rfl rfl tw_2_4 tw_1_163 nn_X1_isKind (Nat.le_of_ble_eq_true rfl) dX9_caseOf_1 (j_X1_isKind g1) ?_
  refine j_if_eq (tgt := 27) dX9_caseOf_4 rfl (fun c3 => ?_) (fun c3 => ?_)
  · rw [if_pos c3] at hr
    refine j_iconst (v := (-1)) rfl dX9_caseOf_27 ?_
    cases hr
    exact j_ret dX9_caseOf_28 m_rk_i
  · rw [if_neg c3] at hr
    refine j_iload_n (i := 2) rfl rfl dX9_caseOf_7 ?_
    refine j_iconst (v := 1) rfl dX9_caseOf_8 ?_
    refine j_ic_lt (tgt := 27) dX9_caseOf_9 rfl (fun c4 => ?_) (fun c4 => ?_)
    · rw [if_pos c4] at hr
      refine j_iconst (v := (-1)) rfl dX9_caseOf_27 ?_
      cases hr
      exact j_ret dX9_caseOf_28 m_rk_i
    · rw [if_neg c4] at hr
      refine j_iload_n (i := 2) rfl rfl dX9_caseOf_12 ?_
      refine j_bipush (v := 20) rfl dX9_caseOf_13 ?_
      refine j_ic_gt (tgt := 27) dX9_caseOf_15 rfl (fun c5 => ?_) (fun c5 => ?_)
      · rw [if_pos c5] at hr
        refine j_iconst (v := (-1)) rfl dX9_caseOf_27 ?_
        cases hr
        exact j_ret dX9_caseOf_28 m_rk_i
      · rw [if_neg c5] at hr
        refine j_aload_n (i := 0) rfl rfl dX9_caseOf_18 ?_
        replace hr := m_bind hr; obtain ⟨x6, g7, hr⟩ := hr
        refine j_getf (C := RX9) (T := TX9) (N := 8) (ci := 8) (k := 6) rfl (by decide) inX9 tw_1_136 dX9_caseOf_19 (m_gi_spec g7) ?_
        refine j_bipush (v := 40) rfl dX9_caseOf_22 ?_
        refine j_ic_lt (tgt := 29) dX9_caseOf_24 rfl (fun c8 => ?_) (fun c8 => ?_)
        · rw [if_pos c8] at hr
          refine j_aload_n (i := 0) rfl rfl dX9_caseOf_29 ?_
          replace hr := m_bind hr; obtain ⟨q9, g10, hr⟩ := hr
          refine j_getf (C := RX9) (T := TX9) (N := 8) (ci := 8) (k := 1) rfl (by decide) inX9 tw_1_131 dX9_caseOf_30 (m_gr_spec g10) ?_
          refine j_aload_n (i := 0) rfl rfl dX9_caseOf_33 ?_
          replace hr := m_bind hr; obtain ⟨x11, g12, hr⟩ := hr
          refine j_getf (C := RX9) (T := TX9) (N := 8) (ci := 8) (k := 6) rfl (by decide) inX9 tw_1_136 dX9_caseOf_34 (m_gi_spec g12) ?_
          replace hr := m_bind hr; obtain ⟨h13, g14, hr⟩ := hr
          refine j_newO (C := RX0) (T := TX0) (ty := tyX0) (N := 3) (ci := 0) rfl inX0 tyX0_ok tw_1_41 tw_2_5 tw_1_10 (fun j hj => by rcases (show j = 0 ∨ j = 1 ∨ j = 2 by omega) with rfl | rfl | rfl <;> rfl) rfl (fun E => rfl) dX9_caseOf_37 g14 ?_
          refine j_dup rfl dX9_caseOf_40 ?_
          refine j_aload_n (i := 0) rfl rfl dX9_caseOf_41 ?_
          replace hr := m_bind hr; obtain ⟨x15, g16, hr⟩ := hr
          refine j_getf (C := RX9) (T := TX9) (N := 8) (ci := 8) (k := 6) rfl (by decide) inX9 tw_1_136 dX9_caseOf_42 (m_gi_spec g16) ?_
          refine j_iload_n (i := 1) rfl rfl dX9_caseOf_45 ?_
          refine j_iload_n (i := 2) rfl rfl dX9_caseOf_46 ?_
          replace hr := m_bind hr; obtain ⟨h18, g17, hr⟩ := hr
          refine j_callI (Y' := Y_X0_init) (a := h.1) (as := [.int x15, .int a1, .int a2]) ok_X0_init rfl rfl [some (.ref h.1), some (.int x15), some (.int a1), some (.int a2)] rfl rfl tw_2_6 tw_2_7 nn_X0_init (by cases q9 <;> exact Nat.le_of_ble_eq_true rfl) dX9_caseOf_47 (j_X0_init (by omega) g17) ?_
          replace hr := m_bind hr; obtain ⟨b19, g20, hr⟩ := hr
          subst g20
          replace hr := m_bind hr; obtain ⟨h21, g22, hr⟩ := hr
          refine j_aastore (q := (some h.1)) dX9_caseOf_50 g22 ?_
          refine j_aload_n (i := 0) rfl rfl dX9_caseOf_51 ?_
          refine j_dup rfl dX9_caseOf_52 ?_
          replace hr := m_bind hr; obtain ⟨x23, g24, hr⟩ := hr
          refine j_getf (C := RX9) (T := TX9) (N := 8) (ci := 8) (k := 6) rfl (by decide) inX9 tw_1_136 dX9_caseOf_53 (m_gi_spec g24) ?_
          refine j_iconst (v := 1) rfl dX9_caseOf_56 ?_
          refine j_iadd dX9_caseOf_57 ?_
          replace hr := m_bind hr; obtain ⟨h25, g26, hr⟩ := hr
          refine j_puti (C := RX9) (T := TX9) (ty := tyX9) (N := 8) (ci := 8) (k := 6) rfl (by decide) inX9 tyX9_ok nmX9 tw_1_136 rfl rfl dX9_caseOf_58 g26 ?_
          refine j_aload_n (i := 0) rfl rfl dX9_caseOf_61 ?_
          replace hr := m_bind hr; obtain ⟨x27, g28, hr⟩ := hr
          refine j_getf (C := RX9) (T := TX9) (N := 8) (ci := 8) (k := 6) rfl (by decide) inX9 tw_1_136 dX9_caseOf_62 (m_gi_spec g28) ?_
          refine j_iconst (v := 1) rfl dX9_caseOf_65 ?_
          refine j_isub dX9_caseOf_66 ?_
          cases hr
          exact j_ret dX9_caseOf_67 m_rk_i
        · rw [if_neg c8] at hr
          refine j_iconst (v := (-1)) rfl dX9_caseOf_27 ?_
          cases hr
          exact j_ret dX9_caseOf_28 m_rk_i
def f_X9_boxAt (h : mH) (a0 : Nat) (a1 : Int32) : Option (Option Nat) :=
  if a1 < 0 then
    some none
  else
    (m_gi h a0 8 6).bind fun x2 =>
    if x2 ≤ a1 then
      some none
    else
      (m_gr h a0 8 1).bind fun q5 =>
      (q5).bind fun b7 =>
      (m_len h b7).bind fun x9 =>
      if x9 ≤ a1 then
        some none
      else
        (m_gr h a0 8 1).bind fun q12 =>
        (q12).bind fun b14 =>
        (m_ald h b14 a1).bind fun q16 =>
        some q16
def Y_X9_boxAt : mY := (yX9_boxAt, cX9_boxAt, 2, some ((FieldType.object "SpecimenHall$Box")), .areturn)
theorem ok_X9_boxAt : m_Ok Y_X9_boxAt := ⟨by decide +kernel, ⟨by decide +kernel, by decide +kernel⟩, tw_2_34, tw_1_1, by decide, Or.inr (Or.inr (Or.inr ⟨⟨_, rfl⟩, rfl⟩))⟩
theorem nn_X9_boxAt : (parseMethodDescriptor Y_X9_boxAt.1.desc).map (fun q => q.parameters.length) = some 1 := by decide +kernel
set_option maxHeartbeats 4000000 in
set_option maxRecDepth 20000 in
theorem j_X9_boxAt {X : mX} {d : Nat} {h : mH} {a0 : Nat} {a1 : Int32} {rv : Option Nat} (hr : f_X9_boxAt h a0 a1 = some rv) : m_J X Y_X9_boxAt d 0 [some (.ref a0), some (.int a1)] [] h (some (va_rf rv), h) := by
  unfold f_X9_boxAt at hr
  refine j_iload_n (i := 1) rfl rfl dX9_boxAt_0 ?_
  refine j_if_lt (tgt := 30) dX9_boxAt_1 rfl (fun c1 => ?_) (fun c1 => ?_)
  · rw [if_pos c1] at hr
    refine j_null dX9_boxAt_30 ?_
    cases hr
    exact j_ret dX9_boxAt_31 (m_rk_r _)
  · rw [if_neg c1] at hr
    refine j_iload_n (i := 1) rfl rfl dX9_boxAt_4 ?_
    refine j_aload_n (i := 0) rfl rfl dX9_boxAt_5 ?_
    replace hr := m_bind hr; obtain ⟨x2, g3, hr⟩ := hr
    refine j_getf (C := RX9) (T := TX9) (N := 8) (ci := 8) (k := 6) rfl (by decide) inX9 tw_1_136 dX9_boxAt_6 (m_gi_spec g3) ?_
    refine j_ic_ge (tgt := 30) dX9_boxAt_9 rfl (fun c4 => ?_) (fun c4 => ?_)
    · rw [if_pos c4] at hr
      refine j_null dX9_boxAt_30 ?_
      cases hr
      exact j_ret dX9_boxAt_31 (m_rk_r _)
    · rw [if_neg c4] at hr
      refine j_iload_n (i := 1) rfl rfl dX9_boxAt_12 ?_
      refine j_aload_n (i := 0) rfl rfl dX9_boxAt_13 ?_
      replace hr := m_bind hr; obtain ⟨q5, g6, hr⟩ := hr
      refine j_getf (C := RX9) (T := TX9) (N := 8) (ci := 8) (k := 1) rfl (by decide) inX9 tw_1_131 dX9_boxAt_14 (m_gr_spec g6) ?_
      replace hr := m_bind hr; obtain ⟨b7, g8, hr⟩ := hr
      subst g8
      replace hr := m_bind hr; obtain ⟨x9, g10, hr⟩ := hr
      refine j_alen dX9_boxAt_17 g10 ?_
      refine j_ic_ge (tgt := 30) dX9_boxAt_18 rfl (fun c11 => ?_) (fun c11 => ?_)
      · rw [if_pos c11] at hr
        refine j_null dX9_boxAt_30 ?_
        cases hr
        exact j_ret dX9_boxAt_31 (m_rk_r _)
      · rw [if_neg c11] at hr
        refine j_aload_n (i := 0) rfl rfl dX9_boxAt_21 ?_
        replace hr := m_bind hr; obtain ⟨q12, g13, hr⟩ := hr
        refine j_getf (C := RX9) (T := TX9) (N := 8) (ci := 8) (k := 1) rfl (by decide) inX9 tw_1_131 dX9_boxAt_22 (m_gr_spec g13) ?_
        refine j_iload_n (i := 1) rfl rfl dX9_boxAt_25 ?_
        replace hr := m_bind hr; obtain ⟨b14, g15, hr⟩ := hr
        subst g15
        replace hr := m_bind hr; obtain ⟨q16, g17, hr⟩ := hr
        refine j_aaload dX9_boxAt_26 g17 ?_
        refine j_goto (tgt := 31) dX9_boxAt_27 rfl ?_
        cases hr
        exact j_ret dX9_boxAt_31 (m_rk_r _)
def f_X9_leavePlace (h : mH) (a0 : Option Nat) : Option (mH) :=
  (a0).bind fun b1 =>
  (m_gr h b1 6 4).bind fun q3 =>
  match q3 with
  | none =>
    some h
  | some b5 =>
    (m_gr h b1 6 4).bind fun q6 =>
    (m_gi h b1 6 5).bind fun x8 =>
    (q6).bind fun b10 =>
    if m_ob h b10 0 = true then
      (f_X0_set h b10 x8 none).bind fun h13 =>
      (m_pf h13 b1 6 4 (va_rf none)).bind fun h14 =>
      (m_pf h14 b1 6 5 (.int ((-1)))).bind fun h16 =>
      some h16
    else none
def Y_X9_leavePlace : mY := (yX9_leavePlace, cX9_leavePlace, 1, none, .return_)
theorem ok_X9_leavePlace : m_Ok Y_X9_leavePlace := ⟨by decide +kernel, ⟨by decide +kernel, by decide +kernel⟩, tw_2_71, tw_1_1, by decide, Or.inl ⟨rfl, rfl⟩⟩
theorem nn_X9_leavePlace : (parseMethodDescriptor Y_X9_leavePlace.1.desc).map (fun q => q.parameters.length) = some 1 := by decide +kernel
set_option maxHeartbeats 4000000 in
set_option maxRecDepth 20000 in
theorem j_X9_leavePlace {X : mX} {d : Nat} {h : mH} {a0 : Option Nat} {h' : mH} (hd : 2 ≤ d) (hr : f_X9_leavePlace h a0 = some h') : m_J X Y_X9_leavePlace d 0 [some (va_rf a0)] [] h (none, h') := by
  obtain ⟨d, rfl⟩ : ∃ k, d = k + 1 := ⟨d - 1, by omega⟩
  unfold f_X9_leavePlace at hr
  refine j_aloadq_n (q := a0) (i := 0) rfl rfl dX9_leavePlace_0 ?_
  replace hr := m_bind hr; obtain ⟨b1, g2, hr⟩ := hr
  subst g2
  replace hr := m_bind hr; obtain ⟨q3, g4, hr⟩ := hr
  refine j_getf (C := RX7) (T := TX7) (N := 11) (ci := 6) (k := 4) rfl (by decide) inX7 tw_1_199 dX9_leavePlace_1 (m_gr_spec g4) ?_
  cases q3 with
  | none =>
    dsimp only at hr
    refine j_ifnull_n (tgt := 29) dX9_leavePlace_4 rfl ?_
    cases hr
    exact j_ret dX9_leavePlace_29 m_rk_v
  | some b5 =>
    dsimp only at hr
    refine j_ifnull_r dX9_leavePlace_4 ?_
    refine j_aload_n (i := 0) rfl rfl dX9_leavePlace_7 ?_
    replace hr := m_bind hr; obtain ⟨q6, g7, hr⟩ := hr
    refine j_getf (C := RX7) (T := TX7) (N := 11) (ci := 6) (k := 4) rfl (by decide) inX7 tw_1_199 dX9_leavePlace_8 (m_gr_spec g7) ?_
    refine j_aload_n (i := 0) rfl rfl dX9_leavePlace_11 ?_
    replace hr := m_bind hr; obtain ⟨x8, g9, hr⟩ := hr
    refine j_getf (C := RX7) (T := TX7) (N := 11) (ci := 6) (k := 5) rfl (by decide) inX7 tw_1_202 dX9_leavePlace_12 (m_gi_spec g9) ?_
    refine j_null dX9_leavePlace_15 ?_
    replace hr := m_bind hr; obtain ⟨b10, g11, hr⟩ := hr
    subst g11
    by_cases o18 : m_ob h b10 0 = true
    · rw [if_pos o18] at hr
      replace hr := m_bind hr; obtain ⟨h13, g12, hr⟩ := hr
      refine j_callV (Y' := Y_X0_set) (a := b10) (as := [.int x8, .null]) (ci := 0) (T := TX0) (N := 3) ok_X0_set [some (.ref b10), some (.int x8), some (.null)] rfl rfl rfl tw_2_72 tw_2_73 tw_2_74 nn_X0_set (Nat.le_of_ble_eq_true rfl) dX9_leavePlace_16 o18 (j_X0_set (by omega) g12) ?_
      refine j_aload_n (i := 0) rfl rfl dX9_leavePlace_19 ?_
      refine j_null dX9_leavePlace_20 ?_
      replace hr := m_bind hr; obtain ⟨h14, g15, hr⟩ := hr
      refine j_putr (q := none) (C := RX7) (T := TX7) (ty := tyX7) (N := 11) (ci := 6) (k := 4) rfl (by decide) inX7 tyX7_ok nmX7 tw_1_199 rfl rfl dX9_leavePlace_21 g15 ?_
      refine j_aload_n (i := 0) rfl rfl dX9_leavePlace_24 ?_
      refine j_iconst (v := (-1)) rfl dX9_leavePlace_25 ?_
      replace hr := m_bind hr; obtain ⟨h16, g17, hr⟩ := hr
      refine j_puti (C := RX7) (T := TX7) (ty := tyX7) (N := 11) (ci := 6) (k := 5) rfl (by decide) inX7 tyX7_ok nmX7 tw_1_202 rfl rfl dX9_leavePlace_26 g17 ?_
      cases hr
      exact j_ret dX9_leavePlace_29 m_rk_v
    · rw [if_neg o18] at hr
      cases hr
def f_X9_putIn (h : mH) (a0 : Nat) (a1 : Int32) (a2 : Int32) (a3 : Int32) : Option (Int32 × mH) :=
  if m_ob h a0 8 = true then
    (f_X9_boxAt h a0 a1).bind fun r2 =>
    (m_gr h a0 8 0).bind fun q3 =>
    (q3).bind fun b5 =>
    if m_ob h b5 7 = true then
      (f_X8_at h b5 a3).bind fun r8 =>
      match r2 with
      | none =>
        some (((-1), h))
      | some b9 =>
        match r8 with
        | none =>
          some (((-1), h))
        | some b10 =>
          if m_ob h b9 0 = true then
            (f_X0_isFree h b9 a2).bind fun r12 =>
            if r12 = 0 then
              some (((-1), h))
            else
              if m_ob h b10 6 = true then
                (f_X7_isLent h b10).bind fun r15 =>
                if r15 = 0 then
                  (m_gi h b10 6 3).bind fun x17 =>
                  (m_gi h b9 0 1).bind fun x19 =>
                  (f_X1_standsUnder x17 x19).bind fun r22 =>
                  if r22 = 0 then
                    some (((-2), h))
                  else
                    (f_X9_leavePlace h ((some b10))).bind fun h25 =>
                    if m_ob h25 b9 0 = true then
                      (f_X0_set h25 b9 a2 ((some b10))).bind fun h27 =>
                      (m_pf h27 b10 6 4 (va_rf ((some b9)))).bind fun h28 =>
                      (m_pf h28 b10 6 5 (.int a2)).bind fun h30 =>
                      some ((1, h30))
                    else none
                else
                  some (((-1), h))
              else none
          else none
    else none
  else none
def Y_X9_putIn : mY := (yX9_putIn, cX9_putIn, 6, some (FieldType.int), .ireturn)
theorem ok_X9_putIn : m_Ok Y_X9_putIn := ⟨by decide +kernel, ⟨by decide +kernel, by decide +kernel⟩, tw_2_30, tw_1_1, by decide, Or.inr (Or.inl ⟨Or.inl rfl, rfl⟩)⟩
theorem nn_X9_putIn : (parseMethodDescriptor Y_X9_putIn.1.desc).map (fun q => q.parameters.length) = some 3 := by decide +kernel
set_option maxHeartbeats 4000000 in
set_option maxRecDepth 20000 in
theorem j_X9_putIn {X : mX} {d : Nat} {h : mH} {a0 : Nat} {a1 : Int32} {a2 : Int32} {a3 : Int32} {rv : Int32} {h' : mH} (hd : 3 ≤ d) (hr : f_X9_putIn h a0 a1 a2 a3 = some (rv, h')) : m_J X Y_X9_putIn d 0 [some (.ref a0), some (.int a1), some (.int a2), some (.int a3), none, none] [] h (some (.int rv), h') := by
  obtain ⟨d, rfl⟩ : ∃ k, d = k + 1 := ⟨d - 1, by omega⟩
  unfold f_X9_putIn at hr
  refine j_aload_n (i := 0) rfl rfl dX9_putIn_0 ?_
  refine j_iload_n (i := 1) rfl rfl dX9_putIn_1 ?_
  by_cases o36 : m_ob h a0 8 = true
  · rw [if_pos o36] at hr
    replace hr := m_bind hr; obtain ⟨r2, g1, hr⟩ := hr
    refine j_callV (Y' := Y_X9_boxAt) (a := a0) (as := [.int a1]) (ci := 8) (T := TX9) (N := 8) ok_X9_boxAt [some (.ref a0), some (.int a1)] rfl rfl rfl tw_2_31 tw_2_33 tw_p_0 nn_X9_boxAt (Nat.le_of_ble_eq_true rfl) dX9_putIn_2 o36 (j_X9_boxAt g1) ?_
    refine j_astoreq (q := r2) (i := 4) (L' := [some (.ref a0), some (.int a1), some (.int a2), some (.int a3), some (va_rf r2), none]) (Nat.le_of_ble_eq_true rfl) rfl rfl dX9_putIn_5 ?_
    refine j_aload_n (i := 0) rfl rfl dX9_putIn_7 ?_
    replace hr := m_bind hr; obtain ⟨q3, g4, hr⟩ := hr
    refine j_getf (C := RX9) (T := TX9) (N := 8) (ci := 8) (k := 0) rfl (by decide) inX9 tw_1_130 dX9_putIn_8 (m_gr_spec g4) ?_
    refine j_iload_n (i := 3) rfl rfl dX9_putIn_11 ?_
    replace hr := m_bind hr; obtain ⟨b5, g6, hr⟩ := hr
    subst g6
    by_cases o35 : m_ob h b5 7 = true
    · rw [if_pos o35] at hr
      replace hr := m_bind hr; obtain ⟨r8, g7, hr⟩ := hr
      refine j_callV (Y' := Y_X8_at) (a := b5) (as := [.int a3]) (ci := 7) (T := TX8) (N := 3) ok_X8_at [some (.ref b5), some (.int a3)] rfl rfl rfl tw_2_35 tw_2_36 tw_2_37 nn_X8_at (Nat.le_of_ble_eq_true rfl) dX9_putIn_12 o35 (j_X8_at g7) ?_
      refine j_astoreq (q := r8) (i := 5) (L' := [some (.ref a0), some (.int a1), some (.int a2), some (.int a3), some (va_rf r2), some (va_rf r8)]) (Nat.le_of_ble_eq_true rfl) (m_nwq r2) rfl dX9_putIn_15 ?_
      refine j_aloadq (q := r2) (i := 4) rfl dX9_putIn_17 ?_
      cases r2 with
      | none =>
        dsimp only at hr
        refine j_ifnull_n (tgt := 44) dX9_putIn_19 rfl ?_
        refine j_iconst (v := (-1)) rfl dX9_putIn_44 ?_
        cases hr
        exact j_ret dX9_putIn_45 m_rk_i
      | some b9 =>
        dsimp only at hr
        refine j_ifnull_r dX9_putIn_19 ?_
        refine j_aloadq (q := r8) (i := 5) rfl dX9_putIn_22 ?_
        cases r8 with
        | none =>
          dsimp only at hr
          refine j_ifnull_n (tgt := 44) dX9_putIn_24 rfl ?_
          refine j_iconst (v := (-1)) rfl dX9_putIn_44 ?_
          cases hr
          exact j_ret dX9_putIn_45 m_rk_i
        | some b10 =>
          dsimp only at hr
          refine j_ifnull_r dX9_putIn_24 ?_
          refine j_aload (i := 4) rfl dX9_putIn_27 ?_
          refine j_iload_n (i := 2) rfl rfl dX9_putIn_29 ?_
          by_cases o34 : m_ob h b9 0 = true
          · rw [if_pos o34] at hr
            replace hr := m_bind hr; obtain ⟨r12, g11, hr⟩ := hr
            refine j_callV (Y' := Y_X0_isFree) (a := b9) (as := [.int a2]) (ci := 0) (T := TX0) (N := 3) ok_X0_isFree [some (.ref b9), some (.int a2)] rfl rfl rfl tw_2_39 tw_2_40 tw_2_41 nn_X0_isFree (Nat.le_of_ble_eq_true rfl) dX9_putIn_30 o34 (j_X0_isFree (by omega) g11) ?_
            refine j_if_eq (tgt := 44) dX9_putIn_33 rfl (fun c13 => ?_) (fun c13 => ?_)
            · rw [if_pos c13] at hr
              refine j_iconst (v := (-1)) rfl dX9_putIn_44 ?_
              cases hr
              exact j_ret dX9_putIn_45 m_rk_i
            · rw [if_neg c13] at hr
              refine j_aload (i := 5) rfl dX9_putIn_36 ?_
              by_cases o33 : m_ob h b10 6 = true
              · rw [if_pos o33] at hr
                replace hr := m_bind hr; obtain ⟨r15, g14, hr⟩ := hr
                refine j_callV (Y' := Y_X7_isLent) (a := b10) (as := []) (ci := 6) (T := TX7) (N := 11) ok_X7_isLent [some (.ref b10)] rfl rfl rfl tw_2_47 tw_2_48 tw_2_49 nn_X7_isLent (Nat.le_of_ble_eq_true rfl) dX9_putIn_38 o33 (j_X7_isLent g14) ?_
                refine j_if_eq (tgt := 46) dX9_putIn_41 rfl (fun c16 => ?_) (fun c16 => ?_)
                · rw [if_pos c16] at hr
                  refine j_aload (i := 5) rfl dX9_putIn_46 ?_
                  replace hr := m_bind hr; obtain ⟨x17, g18, hr⟩ := hr
                  refine j_getf (C := RX7) (T := TX7) (N := 11) (ci := 6) (k := 3) rfl (by decide) inX7 tw_1_195 dX9_putIn_48 (m_gi_spec g18) ?_
                  refine j_aload (i := 4) rfl dX9_putIn_51 ?_
                  replace hr := m_bind hr; obtain ⟨x19, g20, hr⟩ := hr
                  refine j_getf (C := RX0) (T := TX0) (N := 3) (ci := 0) (k := 1) rfl (by decide) inX0 tw_2_17 dX9_putIn_53 (m_gi_spec g20) ?_
                  replace hr := m_bind hr; obtain ⟨r22, g21, hr⟩ := hr
                  refine j_callS (Y' := Y_X1_standsUnder) (as := [.int x17, .int x19]) ok_X1_standsUnder [some (.int x17), some (.int x19)] rfl rfl tw_2_51 tw_2_52 nn_X1_standsUnder (Nat.le_of_ble_eq_true rfl) dX9_putIn_56 (j_X1_standsUnder (by omega) g21) ?_
                  refine j_if_ne (tgt := 65) dX9_putIn_59 rfl (fun c23 => ?_) (fun c23 => ?_)
                  · rw [if_neg c23] at hr
                    refine j_aload (i := 5) rfl dX9_putIn_65 ?_
                    replace hr := m_bind hr; obtain ⟨h25, g24, hr⟩ := hr
                    refine j_callS (Y' := Y_X9_leavePlace) (as := [.ref b10]) ok_X9_leavePlace [some (.ref b10)] rfl rfl tw_2_69 tw_2_70 nn_X9_leavePlace (Nat.le_of_ble_eq_true rfl) dX9_putIn_67 (j_X9_leavePlace (by omega) g24) ?_
                    refine j_aload (i := 4) rfl dX9_putIn_70 ?_
                    refine j_iload_n (i := 2) rfl rfl dX9_putIn_72 ?_
                    refine j_aload (i := 5) rfl dX9_putIn_73 ?_
                    by_cases o32 : m_ob h25 b9 0 = true
                    · rw [if_pos o32] at hr
                      replace hr := m_bind hr; obtain ⟨h27, g26, hr⟩ := hr
                      refine j_callV (Y' := Y_X0_set) (a := b9) (as := [.int a2, .ref b10]) (ci := 0) (T := TX0) (N := 3) ok_X0_set [some (.ref b9), some (.int a2), some (.ref b10)] rfl rfl rfl tw_2_72 tw_2_73 tw_2_74 nn_X0_set (Nat.le_of_ble_eq_true rfl) dX9_putIn_75 o32 (j_X0_set (by omega) g26) ?_
                      refine j_aload (i := 5) rfl dX9_putIn_78 ?_
                      refine j_aload (i := 4) rfl dX9_putIn_80 ?_
                      replace hr := m_bind hr; obtain ⟨h28, g29, hr⟩ := hr
                      refine j_putr (q := (some b9)) (C := RX7) (T := TX7) (ty := tyX7) (N := 11) (ci := 6) (k := 4) rfl (by decide) inX7 tyX7_ok nmX7 tw_1_199 rfl rfl dX9_putIn_82 g29 ?_
                      refine j_aload (i := 5) rfl dX9_putIn_85 ?_
                      refine j_iload_n (i := 2) rfl rfl dX9_putIn_87 ?_
                      replace hr := m_bind hr; obtain ⟨h30, g31, hr⟩ := hr
                      refine j_puti (C := RX7) (T := TX7) (ty := tyX7) (N := 11) (ci := 6) (k := 5) rfl (by decide) inX7 tyX7_ok nmX7 tw_1_202 rfl rfl dX9_putIn_88 g31 ?_
                      refine j_iconst (v := 1) rfl dX9_putIn_91 ?_
                      cases hr
                      exact j_ret dX9_putIn_92 m_rk_i
                    · rw [if_neg o32] at hr
                      cases hr
                  · rw [if_pos c23] at hr
                    refine j_bipush (v := (-2)) rfl dX9_putIn_62 ?_
                    cases hr
                    exact j_ret dX9_putIn_64 m_rk_i
                · rw [if_neg c16] at hr
                  refine j_iconst (v := (-1)) rfl dX9_putIn_44 ?_
                  cases hr
                  exact j_ret dX9_putIn_45 m_rk_i
              · rw [if_neg o33] at hr
                cases hr
          · rw [if_neg o34] at hr
            cases hr
    · rw [if_neg o35] at hr
      cases hr
  · rw [if_neg o36] at hr
    cases hr
def f_X9_specimenIn (h : mH) (a0 : Nat) (a1 : Int32) (a2 : Int32) : Option (Option Nat) :=
  if m_ob h a0 8 = true then
    (f_X9_boxAt h a0 a1).bind fun r2 =>
    match r2 with
    | none =>
      some none
    | some b3 =>
      if m_ob h b3 0 = true then
        (f_X0_at h b3 a2).bind fun r5 =>
        some r5
      else none
  else none
def Y_X9_specimenIn : mY := (yX9_specimenIn, cX9_specimenIn, 4, some ((FieldType.object "SpecimenHall$Specimen")), .areturn)
theorem ok_X9_specimenIn : m_Ok Y_X9_specimenIn := ⟨by decide +kernel, ⟨by decide +kernel, by decide +kernel⟩, tw_2_83, tw_1_1, by decide, Or.inr (Or.inr (Or.inr ⟨⟨_, rfl⟩, rfl⟩))⟩
theorem nn_X9_specimenIn : (parseMethodDescriptor Y_X9_specimenIn.1.desc).map (fun q => q.parameters.length) = some 2 := by decide +kernel
set_option maxHeartbeats 4000000 in
set_option maxRecDepth 20000 in
theorem j_X9_specimenIn {X : mX} {d : Nat} {h : mH} {a0 : Nat} {a1 : Int32} {a2 : Int32} {rv : Option Nat} (hd : 2 ≤ d) (hr : f_X9_specimenIn h a0 a1 a2 = some rv) : m_J X Y_X9_specimenIn d 0 [some (.ref a0), some (.int a1), some (.int a2), none] [] h (some (va_rf rv), h) := by
  obtain ⟨d, rfl⟩ : ∃ k, d = k + 1 := ⟨d - 1, by omega⟩
  unfold f_X9_specimenIn at hr
  refine j_aload_n (i := 0) rfl rfl dX9_specimenIn_0 ?_
  refine j_iload_n (i := 1) rfl rfl dX9_specimenIn_1 ?_
  by_cases o7 : m_ob h a0 8 = true
  · rw [if_pos o7] at hr
    replace hr := m_bind hr; obtain ⟨r2, g1, hr⟩ := hr
    refine j_callV (Y' := Y_X9_boxAt) (a := a0) (as := [.int a1]) (ci := 8) (T := TX9) (N := 8) ok_X9_boxAt [some (.ref a0), some (.int a1)] rfl rfl rfl tw_2_31 tw_2_33 tw_p_0 nn_X9_boxAt (Nat.le_of_ble_eq_true rfl) dX9_specimenIn_2 o7 (j_X9_boxAt g1) ?_
    refine j_astoreq_n (q := r2) (i := 3) (L' := [some (.ref a0), some (.int a1), some (.int a2), some (va_rf r2)]) rfl (Nat.le_of_ble_eq_true rfl) rfl rfl dX9_specimenIn_5 ?_
    refine j_aloadq_n (q := r2) (i := 3) rfl rfl dX9_specimenIn_6 ?_
    cases r2 with
    | none =>
      dsimp only at hr
      refine j_ifnonnull_n dX9_specimenIn_7 ?_
      refine j_null dX9_specimenIn_10 ?_
      refine j_goto (tgt := 19) dX9_specimenIn_11 rfl ?_
      cases hr
      exact j_ret dX9_specimenIn_19 (m_rk_r _)
    | some b3 =>
      dsimp only at hr
      refine j_ifnonnull_r (tgt := 14) dX9_specimenIn_7 rfl ?_
      refine j_aload_n (i := 3) rfl rfl dX9_specimenIn_14 ?_
      refine j_iload_n (i := 2) rfl rfl dX9_specimenIn_15 ?_
      by_cases o6 : m_ob h b3 0 = true
      · rw [if_pos o6] at hr
        replace hr := m_bind hr; obtain ⟨r5, g4, hr⟩ := hr
        refine j_callV (Y' := Y_X0_at) (a := b3) (as := [.int a2]) (ci := 0) (T := TX0) (N := 3) ok_X0_at [some (.ref b3), some (.int a2)] rfl rfl rfl tw_2_84 tw_2_85 tw_2_86 nn_X0_at (Nat.le_of_ble_eq_true rfl) dX9_specimenIn_16 o6 (j_X0_at (by omega) g4) ?_
        cases hr
        exact j_ret dX9_specimenIn_19 (m_rk_r _)
      · rw [if_neg o6] at hr
        cases hr
  · rw [if_neg o7] at hr
    cases hr
def f_X9_takeOut (h : mH) (a0 : Nat) (a1 : Int32) (a2 : Int32) : Option (Int32 × mH) :=
  if m_ob h a0 8 = true then
    (f_X9_specimenIn h a0 a1 a2).bind fun r2 =>
    match r2 with
    | none =>
      some (((-1), h))
    | some b3 =>
      if m_ob h b3 6 = true then
        (f_X7_isLent h b3).bind fun r5 =>
        if r5 = 0 then
          (f_X9_leavePlace h ((some b3))).bind fun h8 =>
          (m_gi h8 b3 6 0).bind fun x9 =>
          some ((x9, h8))
        else
          some (((-1), h))
      else none
  else none
def Y_X9_takeOut : mY := (yX9_takeOut, cX9_takeOut, 4, some (FieldType.int), .ireturn)
theorem ok_X9_takeOut : m_Ok Y_X9_takeOut := ⟨by decide +kernel, ⟨by decide +kernel, by decide +kernel⟩, tw_2_79, tw_1_1, by decide, Or.inr (Or.inl ⟨Or.inl rfl, rfl⟩)⟩
theorem nn_X9_takeOut : (parseMethodDescriptor Y_X9_takeOut.1.desc).map (fun q => q.parameters.length) = some 2 := by decide +kernel
set_option maxHeartbeats 4000000 in
set_option maxRecDepth 20000 in
theorem j_X9_takeOut {X : mX} {d : Nat} {h : mH} {a0 : Nat} {a1 : Int32} {a2 : Int32} {rv : Int32} {h' : mH} (hd : 3 ≤ d) (hr : f_X9_takeOut h a0 a1 a2 = some (rv, h')) : m_J X Y_X9_takeOut d 0 [some (.ref a0), some (.int a1), some (.int a2), none] [] h (some (.int rv), h') := by
  obtain ⟨d, rfl⟩ : ∃ k, d = k + 1 := ⟨d - 1, by omega⟩
  unfold f_X9_takeOut at hr
  refine j_aload_n (i := 0) rfl rfl dX9_takeOut_0 ?_
  refine j_iload_n (i := 1) rfl rfl dX9_takeOut_1 ?_
  refine j_iload_n (i := 2) rfl rfl dX9_takeOut_2 ?_
  by_cases o12 : m_ob h a0 8 = true
  · rw [if_pos o12] at hr
    replace hr := m_bind hr; obtain ⟨r2, g1, hr⟩ := hr
    refine j_callV (Y' := Y_X9_specimenIn) (a := a0) (as := [.int a1, .int a2]) (ci := 8) (T := TX9) (N := 8) ok_X9_specimenIn [some (.ref a0), some (.int a1), some (.int a2), none] rfl rfl rfl tw_2_80 tw_2_82 tw_p_2 nn_X9_specimenIn (Nat.le_of_ble_eq_true rfl) dX9_takeOut_3 o12 (j_X9_specimenIn (by omega) g1) ?_
    refine j_astoreq_n (q := r2) (i := 3) (L' := [some (.ref a0), some (.int a1), some (.int a2), some (va_rf r2)]) rfl (Nat.le_of_ble_eq_true rfl) rfl rfl dX9_takeOut_6 ?_
    refine j_aloadq_n (q := r2) (i := 3) rfl rfl dX9_takeOut_7 ?_
    cases r2 with
    | none =>
      dsimp only at hr
      refine j_ifnull_n (tgt := 18) dX9_takeOut_8 rfl ?_
      refine j_iconst (v := (-1)) rfl dX9_takeOut_18 ?_
      cases hr
      exact j_ret dX9_takeOut_19 m_rk_i
    | some b3 =>
      dsimp only at hr
      refine j_ifnull_r dX9_takeOut_8 ?_
      refine j_aload_n (i := 3) rfl rfl dX9_takeOut_11 ?_
      by_cases o11 : m_ob h b3 6 = true
      · rw [if_pos o11] at hr
        replace hr := m_bind hr; obtain ⟨r5, g4, hr⟩ := hr
        refine j_callV (Y' := Y_X7_isLent) (a := b3) (as := []) (ci := 6) (T := TX7) (N := 11) ok_X7_isLent [some (.ref b3)] rfl rfl rfl tw_2_47 tw_2_48 tw_2_49 nn_X7_isLent (Nat.le_of_ble_eq_true rfl) dX9_takeOut_12 o11 (j_X7_isLent g4) ?_
        refine j_if_eq (tgt := 20) dX9_takeOut_15 rfl (fun c6 => ?_) (fun c6 => ?_)
        · rw [if_pos c6] at hr
          refine j_aload_n (i := 3) rfl rfl dX9_takeOut_20 ?_
          replace hr := m_bind hr; obtain ⟨h8, g7, hr⟩ := hr
          refine j_callS (Y' := Y_X9_leavePlace) (as := [.ref b3]) ok_X9_leavePlace [some (.ref b3)] rfl rfl tw_2_69 tw_2_70 nn_X9_leavePlace (Nat.le_of_ble_eq_true rfl) dX9_takeOut_21 (j_X9_leavePlace (by omega) g7) ?_
          refine j_aload_n (i := 3) rfl rfl dX9_takeOut_24 ?_
          replace hr := m_bind hr; obtain ⟨x9, g10, hr⟩ := hr
          refine j_getf (C := RX7) (T := TX7) (N := 11) (ci := 6) (k := 0) rfl (by decide) inX7 tw_1_184 dX9_takeOut_25 (m_gi_spec g10) ?_
          cases hr
          exact j_ret dX9_takeOut_28 m_rk_i
        · rw [if_neg c6] at hr
          refine j_iconst (v := (-1)) rfl dX9_takeOut_18 ?_
          cases hr
          exact j_ret dX9_takeOut_19 m_rk_i
      · rw [if_neg o11] at hr
        cases hr
  · rw [if_neg o12] at hr
    cases hr
def f_X9_placed (h : mH) (a0 : Nat) (a1 : Int32) (a2 : Int32) : Option (Int32) :=
  if m_ob h a0 8 = true then
    (f_X9_specimenIn h a0 a1 a2).bind fun r2 =>
    match r2 with
    | none =>
      some ((-1))
    | some b3 =>
      (m_gi h b3 6 0).bind fun x4 =>
      some x4
  else none
def Y_X9_placed : mY := (yX9_placed, cX9_placed, 4, some (FieldType.int), .ireturn)
theorem ok_X9_placed : m_Ok Y_X9_placed := ⟨by decide +kernel, ⟨by decide +kernel, by decide +kernel⟩, tw_2_91, tw_1_1, by decide, Or.inr (Or.inl ⟨Or.inl rfl, rfl⟩)⟩
theorem nn_X9_placed : (parseMethodDescriptor Y_X9_placed.1.desc).map (fun q => q.parameters.length) = some 2 := by decide +kernel
set_option maxHeartbeats 4000000 in
set_option maxRecDepth 20000 in
theorem j_X9_placed {X : mX} {d : Nat} {h : mH} {a0 : Nat} {a1 : Int32} {a2 : Int32} {rv : Int32} (hd : 3 ≤ d) (hr : f_X9_placed h a0 a1 a2 = some rv) : m_J X Y_X9_placed d 0 [some (.ref a0), some (.int a1), some (.int a2), none] [] h (some (.int rv), h) := by
  obtain ⟨d, rfl⟩ : ∃ k, d = k + 1 := ⟨d - 1, by omega⟩
  unfold f_X9_placed at hr
  refine j_aload_n (i := 0) rfl rfl dX9_placed_0 ?_
  refine j_iload_n (i := 1) rfl rfl dX9_placed_1 ?_
  refine j_iload_n (i := 2) rfl rfl dX9_placed_2 ?_
  by_cases o6 : m_ob h a0 8 = true
  · rw [if_pos o6] at hr
    replace hr := m_bind hr; obtain ⟨r2, g1, hr⟩ := hr
    refine j_callV (Y' := Y_X9_specimenIn) (a := a0) (as := [.int a1, .int a2]) (ci := 8) (T := TX9) (N := 8) ok_X9_specimenIn [some (.ref a0), some (.int a1), some (.int a2), none] rfl rfl rfl tw_2_80 tw_2_82 tw_p_2 nn_X9_specimenIn (Nat.le_of_ble_eq_true rfl) dX9_placed_3 o6 (j_X9_specimenIn (by omega) g1) ?_
    refine j_astoreq_n (q := r2) (i := 3) (L' := [some (.ref a0), some (.int a1), some (.int a2), some (va_rf r2)]) rfl (Nat.le_of_ble_eq_true rfl) rfl rfl dX9_placed_6 ?_
    refine j_aloadq_n (q := r2) (i := 3) rfl rfl dX9_placed_7 ?_
    cases r2 with
    | none =>
      dsimp only at hr
      refine j_ifnonnull_n dX9_placed_8 ?_
      refine j_iconst (v := (-1)) rfl dX9_placed_11 ?_
      refine j_goto (tgt := 19) dX9_placed_12 rfl ?_
      cases hr
      exact j_ret dX9_placed_19 m_rk_i
    | some b3 =>
      dsimp only at hr
      refine j_ifnonnull_r (tgt := 15) dX9_placed_8 rfl ?_
      refine j_aload_n (i := 3) rfl rfl dX9_placed_15 ?_
      replace hr := m_bind hr; obtain ⟨x4, g5, hr⟩ := hr
      refine j_getf (C := RX7) (T := TX7) (N := 11) (ci := 6) (k := 0) rfl (by decide) inX7 tw_1_184 dX9_placed_16 (m_gi_spec g5) ?_
      cases hr
      exact j_ret dX9_placed_19 m_rk_i
  · rw [if_neg o6] at hr
    cases hr
def f_X9_told (h : mH) (a0 : Nat) (a1 : Int32) (a2 : Int32) : Option (Int32) :=
  (m_gr h a0 8 0).bind fun q1 =>
  (q1).bind fun b3 =>
  if m_ob h b3 7 = true then
    (f_X8_at h b3 a1).bind fun r6 =>
    match r6 with
    | none =>
      some ((-1))
    | some b7 =>
      if a2 = 0 then
        (m_gi h b7 6 3).bind fun x9 =>
        some x9
      else
        if a2 = 1 then
          (m_gi h b7 6 1).bind fun x12 =>
          some x12
        else
          if a2 = 2 then
            (m_gi h b7 6 2).bind fun x15 =>
            some x15
          else
            if a2 = 3 then
              (m_gr h b7 6 4).bind fun q18 =>
              match q18 with
              | none =>
                some ((-1))
              | some b20 =>
                (m_gr h b7 6 4).bind fun q21 =>
                (q21).bind fun b23 =>
                (m_gi h b23 0 0).bind fun x25 =>
                some x25
            else
              if a2 = 4 then
                (m_gi h b7 6 5).bind fun x28 =>
                some x28
              else
                if a2 = 5 then
                  (m_gr h b7 6 6).bind fun q31 =>
                  match q31 with
                  | none =>
                    some ((-1))
                  | some b33 =>
                    (m_gr h b7 6 6).bind fun q34 =>
                    (q34).bind fun b36 =>
                    (m_gi h b36 5 0).bind fun x38 =>
                    some x38
                else
                  if a2 = 6 then
                    (m_gi h b7 6 7).bind fun x41 =>
                    some x41
                  else
                    if a2 = 7 then
                      (m_gi h b7 6 8).bind fun x44 =>
                      some x44
                    else
                      if a2 = 8 then
                        (m_gi h b7 6 9).bind fun x47 =>
                        some x47
                      else
                        if a2 = 9 then
                          (m_gi h b7 6 10).bind fun x50 =>
                          some x50
                        else
                          some ((-1))
  else none
def Y_X9_told : mY := (yX9_told, cX9_told, 4, some (FieldType.int), .ireturn)
theorem ok_X9_told : m_Ok Y_X9_told := ⟨by decide +kernel, ⟨by decide +kernel, by decide +kernel⟩, tw_2_95, tw_1_1, by decide, Or.inr (Or.inl ⟨Or.inl rfl, rfl⟩)⟩
theorem nn_X9_told : (parseMethodDescriptor Y_X9_told.1.desc).map (fun q => q.parameters.length) = some 2 := by decide +kernel
set_option maxHeartbeats 4000000 in
set_option maxRecDepth 20000 in
theorem j_X9_told {X : mX} {d : Nat} {h : mH} {a0 : Nat} {a1 : Int32} {a2 : Int32} {rv : Int32} (hd : 1 ≤ d) (hr : f_X9_told h a0 a1 a2 = some rv) : m_J X Y_X9_told d 0 [some (.ref a0), some (.int a1), some (.int a2), none] [] h (some (.int rv), h) := by
  obtain ⟨d, rfl⟩ : ∃ k, d = k + 1 := ⟨d - 1, by omega⟩
  unfold f_X9_told at hr
  refine j_aload_n (i := 0) rfl rfl dX9_told_0 ?_
  replace hr := m_bind hr; obtain ⟨q1, g2, hr⟩ := hr
  refine j_getf (C := RX9) (T := TX9) (N := 8) (ci := 8) (k := 0) rfl (by decide) inX9 tw_1_130 dX9_told_1 (m_gr_spec g2) ?_
  refine j_iload_n (i := 1) rfl rfl dX9_told_4 ?_
  replace hr := m_bind hr; obtain ⟨b3, g4, hr⟩ := hr
  subst g4
  by_cases o52 : m_ob h b3 7 = true
  · rw [if_pos o52] at hr
    replace hr := m_bind hr; obtain ⟨r6, g5, hr⟩ := hr
    refine j_callV (Y' := Y_X8_at) (a := b3) (as := [.int a1]) (ci := 7) (T := TX8) (N := 3) ok_X8_at [some (.ref b3), some (.int a1)] rfl rfl rfl tw_2_35 tw_2_36 tw_2_37 nn_X8_at (Nat.le_of_ble_eq_true rfl) dX9_told_5 o52 (j_X8_at g5) ?_
    refine j_astoreq_n (q := r6) (i := 3) (L' := [some (.ref a0), some (.int a1), some (.int a2), some (va_rf r6)]) rfl (Nat.le_of_ble_eq_true rfl) rfl rfl dX9_told_8 ?_
    refine j_aloadq_n (q := r6) (i := 3) rfl rfl dX9_told_9 ?_
    cases r6 with
    | none =>
      dsimp only at hr
      refine j_ifnonnull_n dX9_told_10 ?_
      refine j_iconst (v := (-1)) rfl dX9_told_13 ?_
      cases hr
      exact j_ret dX9_told_14 m_rk_i
    | some b7 =>
      dsimp only at hr
      refine j_ifnonnull_r (tgt := 15) dX9_told_10 rfl ?_
      refine j_iload_n (i := 2) rfl rfl dX9_told_15 ?_
      by_cases c8 : a2 = 0
      · rw [if_pos c8] at hr
        refine j_tswIn (off := 56) (tgt := 72) dX9_told_16 (by rw [c8]; decide) (by rw [c8]; decide) (by rw [c8]; rfl) rfl ?_
        refine j_aload_n (i := 3) rfl rfl dX9_told_72 ?_
        replace hr := m_bind hr; obtain ⟨x9, g10, hr⟩ := hr
        refine j_getf (C := RX7) (T := TX7) (N := 11) (ci := 6) (k := 3) rfl (by decide) inX7 tw_1_195 dX9_told_73 (m_gi_spec g10) ?_
        cases hr
        exact j_ret dX9_told_76 m_rk_i
      · rw [if_neg c8] at hr
        by_cases c11 : a2 = 1
        · rw [if_pos c11] at hr
          refine j_tswIn (off := 61) (tgt := 77) dX9_told_16 (by rw [c11]; decide) (by rw [c11]; decide) (by rw [c11]; rfl) rfl ?_
          refine j_aload_n (i := 3) rfl rfl dX9_told_77 ?_
          replace hr := m_bind hr; obtain ⟨x12, g13, hr⟩ := hr
          refine j_getf (C := RX7) (T := TX7) (N := 11) (ci := 6) (k := 1) rfl (by decide) inX7 tw_1_190 dX9_told_78 (m_gi_spec g13) ?_
          cases hr
          exact j_ret dX9_told_81 m_rk_i
        · rw [if_neg c11] at hr
          by_cases c14 : a2 = 2
          · rw [if_pos c14] at hr
            refine j_tswIn (off := 66) (tgt := 82) dX9_told_16 (by rw [c14]; decide) (by rw [c14]; decide) (by rw [c14]; rfl) rfl ?_
            refine j_aload_n (i := 3) rfl rfl dX9_told_82 ?_
            replace hr := m_bind hr; obtain ⟨x15, g16, hr⟩ := hr
            refine j_getf (C := RX7) (T := TX7) (N := 11) (ci := 6) (k := 2) rfl (by decide) inX7 tw_1_193 dX9_told_83 (m_gi_spec g16) ?_
            cases hr
            exact j_ret dX9_told_86 m_rk_i
          · rw [if_neg c14] at hr
            by_cases c17 : a2 = 3
            · rw [if_pos c17] at hr
              refine j_tswIn (off := 71) (tgt := 87) dX9_told_16 (by rw [c17]; decide) (by rw [c17]; decide) (by rw [c17]; rfl) rfl ?_
              refine j_aload_n (i := 3) rfl rfl dX9_told_87 ?_
              replace hr := m_bind hr; obtain ⟨q18, g19, hr⟩ := hr
              refine j_getf (C := RX7) (T := TX7) (N := 11) (ci := 6) (k := 4) rfl (by decide) inX7 tw_1_199 dX9_told_88 (m_gr_spec g19) ?_
              cases q18 with
              | none =>
                dsimp only at hr
                refine j_ifnonnull_n dX9_told_91 ?_
                refine j_iconst (v := (-1)) rfl dX9_told_94 ?_
                refine j_goto (tgt := 105) dX9_told_95 rfl ?_
                cases hr
                exact j_ret dX9_told_105 m_rk_i
              | some b20 =>
                dsimp only at hr
                refine j_ifnonnull_r (tgt := 98) dX9_told_91 rfl ?_
                refine j_aload_n (i := 3) rfl rfl dX9_told_98 ?_
                replace hr := m_bind hr; obtain ⟨q21, g22, hr⟩ := hr
                refine j_getf (C := RX7) (T := TX7) (N := 11) (ci := 6) (k := 4) rfl (by decide) inX7 tw_1_199 dX9_told_99 (m_gr_spec g22) ?_
                replace hr := m_bind hr; obtain ⟨b23, g24, hr⟩ := hr
                subst g24
                replace hr := m_bind hr; obtain ⟨x25, g26, hr⟩ := hr
                refine j_getf (C := RX0) (T := TX0) (N := 3) (ci := 0) (k := 0) rfl (by decide) inX0 tw_2_15 dX9_told_102 (m_gi_spec g26) ?_
                cases hr
                exact j_ret dX9_told_105 m_rk_i
            · rw [if_neg c17] at hr
              by_cases c27 : a2 = 4
              · rw [if_pos c27] at hr
                refine j_tswIn (off := 90) (tgt := 106) dX9_told_16 (by rw [c27]; decide) (by rw [c27]; decide) (by rw [c27]; rfl) rfl ?_
                refine j_aload_n (i := 3) rfl rfl dX9_told_106 ?_
                replace hr := m_bind hr; obtain ⟨x28, g29, hr⟩ := hr
                refine j_getf (C := RX7) (T := TX7) (N := 11) (ci := 6) (k := 5) rfl (by decide) inX7 tw_1_202 dX9_told_107 (m_gi_spec g29) ?_
                cases hr
                exact j_ret dX9_told_110 m_rk_i
              · rw [if_neg c27] at hr
                by_cases c30 : a2 = 5
                · rw [if_pos c30] at hr
                  refine j_tswIn (off := 95) (tgt := 111) dX9_told_16 (by rw [c30]; decide) (by rw [c30]; decide) (by rw [c30]; rfl) rfl ?_
                  refine j_aload_n (i := 3) rfl rfl dX9_told_111 ?_
                  replace hr := m_bind hr; obtain ⟨q31, g32, hr⟩ := hr
                  refine j_getf (C := RX7) (T := TX7) (N := 11) (ci := 6) (k := 6) rfl (by decide) inX7 tw_1_204 dX9_told_112 (m_gr_spec g32) ?_
                  cases q31 with
                  | none =>
                    dsimp only at hr
                    refine j_ifnonnull_n dX9_told_115 ?_
                    refine j_iconst (v := (-1)) rfl dX9_told_118 ?_
                    refine j_goto (tgt := 129) dX9_told_119 rfl ?_
                    cases hr
                    exact j_ret dX9_told_129 m_rk_i
                  | some b33 =>
                    dsimp only at hr
                    refine j_ifnonnull_r (tgt := 122) dX9_told_115 rfl ?_
                    refine j_aload_n (i := 3) rfl rfl dX9_told_122 ?_
                    replace hr := m_bind hr; obtain ⟨q34, g35, hr⟩ := hr
                    refine j_getf (C := RX7) (T := TX7) (N := 11) (ci := 6) (k := 6) rfl (by decide) inX7 tw_1_204 dX9_told_123 (m_gr_spec g35) ?_
                    replace hr := m_bind hr; obtain ⟨b36, g37, hr⟩ := hr
                    subst g37
                    replace hr := m_bind hr; obtain ⟨x38, g39, hr⟩ := hr
                    refine j_getf (C := RX6) (T := TX6) (N := 5) (ci := 5) (k := 0) rfl (by decide) inX6 tw_1_51 dX9_told_126 (m_gi_spec g39) ?_
                    cases hr
                    exact j_ret dX9_told_129 m_rk_i
                · rw [if_neg c30] at hr
                  by_cases c40 : a2 = 6
                  · rw [if_pos c40] at hr
                    refine j_tswIn (off := 114) (tgt := 130) dX9_told_16 (by rw [c40]; decide) (by rw [c40]; decide) (by rw [c40]; rfl) rfl ?_
                    refine j_aload_n (i := 3) rfl rfl dX9_told_130 ?_
                    replace hr := m_bind hr; obtain ⟨x41, g42, hr⟩ := hr
                    refine j_getf (C := RX7) (T := TX7) (N := 11) (ci := 6) (k := 7) rfl (by decide) inX7 tw_1_207 dX9_told_131 (m_gi_spec g42) ?_
                    cases hr
                    exact j_ret dX9_told_134 m_rk_i
                  · rw [if_neg c40] at hr
                    by_cases c43 : a2 = 7
                    · rw [if_pos c43] at hr
                      refine j_tswIn (off := 119) (tgt := 135) dX9_told_16 (by rw [c43]; decide) (by rw [c43]; decide) (by rw [c43]; rfl) rfl ?_
                      refine j_aload_n (i := 3) rfl rfl dX9_told_135 ?_
                      replace hr := m_bind hr; obtain ⟨x44, g45, hr⟩ := hr
                      refine j_getf (C := RX7) (T := TX7) (N := 11) (ci := 6) (k := 8) rfl (by decide) inX7 tw_1_209 dX9_told_136 (m_gi_spec g45) ?_
                      cases hr
                      exact j_ret dX9_told_139 m_rk_i
                    · rw [if_neg c43] at hr
                      by_cases c46 : a2 = 8
                      · rw [if_pos c46] at hr
                        refine j_tswIn (off := 124) (tgt := 140) dX9_told_16 (by rw [c46]; decide) (by rw [c46]; decide) (by rw [c46]; rfl) rfl ?_
                        refine j_aload_n (i := 3) rfl rfl dX9_told_140 ?_
                        replace hr := m_bind hr; obtain ⟨x47, g48, hr⟩ := hr
                        refine j_getf (C := RX7) (T := TX7) (N := 11) (ci := 6) (k := 9) rfl (by decide) inX7 tw_1_211 dX9_told_141 (m_gi_spec g48) ?_
                        cases hr
                        exact j_ret dX9_told_144 m_rk_i
                      · rw [if_neg c46] at hr
                        by_cases c49 : a2 = 9
                        · rw [if_pos c49] at hr
                          refine j_tswIn (off := 129) (tgt := 145) dX9_told_16 (by rw [c49]; decide) (by rw [c49]; decide) (by rw [c49]; rfl) rfl ?_
                          refine j_aload_n (i := 3) rfl rfl dX9_told_145 ?_
                          replace hr := m_bind hr; obtain ⟨x50, g51, hr⟩ := hr
                          refine j_getf (C := RX7) (T := TX7) (N := 11) (ci := 6) (k := 10) rfl (by decide) inX7 tw_1_213 dX9_told_146 (m_gi_spec g51) ?_
                          cases hr
                          exact j_ret dX9_told_149 m_rk_i
                        · rw [if_neg c49] at hr
                          refine j_tswOut (tgt := 150) dX9_told_16 (by have := m_sw (k := 0) (by decide) c8; have := m_sw (k := 1) (by decide) c11; have := m_sw (k := 2) (by decide) c14; have := m_sw (k := 3) (by decide) c17; have := m_sw (k := 4) (by decide) c27; have := m_sw (k := 5) (by decide) c30; have := m_sw (k := 6) (by decide) c40; have := m_sw (k := 7) (by decide) c43; have := m_sw (k := 8) (by decide) c46; have := m_sw (k := 9) (by decide) c49; omega) rfl ?_
                          refine j_iconst (v := (-1)) rfl dX9_told_150 ?_
                          cases hr
                          exact j_ret dX9_told_151 m_rk_i
  · rw [if_neg o52] at hr
    cases hr
def f_X9_below (a0 : Nat) (a1 : Int32) (a2 : Int32) : Option (Int32) :=
  (f_X1_isCase a1).bind fun r2 =>
  if r2 = 0 then
    (f_X1_standsUnder a1 a2).bind fun r5 =>
    if r5 = 0 then some 0
    else if r5 = 1 then some 1 else none
  else
    (f_X1_isCase a2).bind fun r9 =>
    if r9 = 0 then
      (f_X1_standsUnder a1 a2).bind fun r12 =>
      if r12 = 0 then some 0
      else if r12 = 1 then some 1 else none
    else
      (f_X1_standsUnder (a1 - 100) (a2 - 100)).bind fun r16 =>
      if r16 = 0 then some 0
      else if r16 = 1 then some 1 else none
def Y_X9_below : mY := (yX9_below, cX9_below, 3, some (FieldType.boolean), .ireturn)
theorem ok_X9_below : m_Ok Y_X9_below := ⟨by decide +kernel, ⟨by decide +kernel, by decide +kernel⟩, tw_2_99, tw_1_1, by decide, Or.inr (Or.inl ⟨Or.inr rfl, rfl⟩)⟩
theorem nn_X9_below : (parseMethodDescriptor Y_X9_below.1.desc).map (fun q => q.parameters.length) = some 2 := by decide +kernel
set_option maxHeartbeats 4000000 in
set_option maxRecDepth 20000 in
theorem j_X9_below {X : mX} {h : mH} {d : Nat} {a0 : Nat} {a1 : Int32} {a2 : Int32} {rv : Int32} (hd : 3 ≤ d) (hr : f_X9_below a0 a1 a2 = some rv) : m_J X Y_X9_below d 0 [some (.ref a0), some (.int a1), some (.int a2)] [] h (some (.int rv), h) := by
  obtain ⟨d, rfl⟩ : ∃ k, d = k + 1 := ⟨d - 1, by omega⟩
  unfold f_X9_below at hr
  refine j_iload_n (i := 1) rfl rfl dX9_below_0 ?_
  replace hr := m_bind hr; obtain ⟨r2, g1, hr⟩ := hr
  refine j_callS (Y' := Y_X1_isCase) (as := [.int a1]) ok_X1_isCase [some (.int a1)] rfl rfl tw_2_100 tw_2_101 nn_X1_isCase (Nat.le_of_ble_eq_true rfl) dX9_below_1 (j_X1_isCase (by omega) g1) ?_
  refine j_if_eq (tgt := 26) dX9_below_4 rfl (fun c3 => ?_) (fun c3 => ?_)
  · rw [if_pos c3] at hr
    refine j_iload_n (i := 1) rfl rfl dX9_below_26 ?_
    refine j_iload_n (i := 2) rfl rfl dX9_below_27 ?_
    replace hr := m_bind hr; obtain ⟨r5, g4, hr⟩ := hr
    refine j_callS (Y' := Y_X1_standsUnder) (as := [.int a1, .int a2]) ok_X1_standsUnder [some (.int a1), some (.int a2)] rfl rfl tw_2_51 tw_2_52 nn_X1_standsUnder (Nat.le_of_ble_eq_true rfl) dX9_below_28 (j_X1_standsUnder (by omega) g4) ?_
    by_cases c6 : r5 = 0
    · rw [if_pos c6] at hr
      rw [c6]
      cases hr
      exact j_ret dX9_below_31 m_rk_z0
    · rw [if_neg c6] at hr
      by_cases c7 : r5 = 1
      · rw [if_pos c7] at hr
        rw [c7]
        cases hr
        exact j_ret dX9_below_31 m_rk_z1
      · rw [if_neg c7] at hr
        cases hr
  · rw [if_neg c3] at hr
    refine j_iload_n (i := 2) rfl rfl dX9_below_7 ?_
    replace hr := m_bind hr; obtain ⟨r9, g8, hr⟩ := hr
    refine j_callS (Y' := Y_X1_isCase) (as := [.int a2]) ok_X1_isCase [some (.int a2)] rfl rfl tw_2_100 tw_2_101 nn_X1_isCase (Nat.le_of_ble_eq_true rfl) dX9_below_8 (j_X1_isCase (by omega) g8) ?_
    refine j_if_eq (tgt := 26) dX9_below_11 rfl (fun c10 => ?_) (fun c10 => ?_)
    · rw [if_pos c10] at hr
      refine j_iload_n (i := 1) rfl rfl dX9_below_26 ?_
      refine j_iload_n (i := 2) rfl rfl dX9_below_27 ?_
      replace hr := m_bind hr; obtain ⟨r12, g11, hr⟩ := hr
      refine j_callS (Y' := Y_X1_standsUnder) (as := [.int a1, .int a2]) ok_X1_standsUnder [some (.int a1), some (.int a2)] rfl rfl tw_2_51 tw_2_52 nn_X1_standsUnder (Nat.le_of_ble_eq_true rfl) dX9_below_28 (j_X1_standsUnder (by omega) g11) ?_
      by_cases c13 : r12 = 0
      · rw [if_pos c13] at hr
        rw [c13]
        cases hr
        exact j_ret dX9_below_31 m_rk_z0
      · rw [if_neg c13] at hr
        by_cases c14 : r12 = 1
        · rw [if_pos c14] at hr
          rw [c14]
          cases hr
          exact j_ret dX9_below_31 m_rk_z1
        · rw [if_neg c14] at hr
          cases hr
    · rw [if_neg c10] at hr
      refine j_iload_n (i := 1) rfl rfl dX9_below_14 ?_
      refine j_bipush (v := 100) rfl dX9_below_15 ?_
      refine j_isub dX9_below_17 ?_
      refine j_iload_n (i := 2) rfl rfl dX9_below_18 ?_
      refine j_bipush (v := 100) rfl dX9_below_19 ?_
      refine j_isub dX9_below_21 ?_
      replace hr := m_bind hr; obtain ⟨r16, g15, hr⟩ := hr
      refine j_callS (Y' := Y_X1_standsUnder) (as := [.int (a1 - 100), .int (a2 - 100)]) ok_X1_standsUnder [some (.int (a1 - 100)), some (.int (a2 - 100))] rfl rfl tw_2_51 tw_2_52 nn_X1_standsUnder (Nat.le_of_ble_eq_true rfl) dX9_below_22 (j_X1_standsUnder (by omega) g15) ?_
      by_cases c17 : r16 = 0
      · rw [if_pos c17] at hr
        rw [c17]
        cases hr
        exact j_ret dX9_below_25 m_rk_z0
      · rw [if_neg c17] at hr
        by_cases c18 : r16 = 1
        · rw [if_pos c18] at hr
          rw [c18]
          cases hr
          exact j_ret dX9_below_25 m_rk_z1
        · rw [if_neg c18] at hr
          cases hr
def f_X9_steps (a0 : Nat) (a1 : Int32) (a2 : Int32) : Option (Int32) :=
  (f_X1_stepsUp a1 a2).bind fun r2 =>
  some r2
def Y_X9_steps : mY := (yX9_steps, cX9_steps, 3, some (FieldType.int), .ireturn)
theorem ok_X9_steps : m_Ok Y_X9_steps := ⟨by decide +kernel, ⟨by decide +kernel, by decide +kernel⟩, tw_2_106, tw_1_1, by decide, Or.inr (Or.inl ⟨Or.inl rfl, rfl⟩)⟩
theorem nn_X9_steps : (parseMethodDescriptor Y_X9_steps.1.desc).map (fun q => q.parameters.length) = some 2 := by decide +kernel
set_option maxHeartbeats 4000000 in
set_option maxRecDepth 20000 in
theorem j_X9_steps {X : mX} {h : mH} {d : Nat} {a0 : Nat} {a1 : Int32} {a2 : Int32} {rv : Int32} (hd : 3 ≤ d) (hr : f_X9_steps a0 a1 a2 = some rv) : m_J X Y_X9_steps d 0 [some (.ref a0), some (.int a1), some (.int a2)] [] h (some (.int rv), h) := by
  obtain ⟨d, rfl⟩ : ∃ k, d = k + 1 := ⟨d - 1, by omega⟩
  unfold f_X9_steps at hr
  refine j_iload_n (i := 1) rfl rfl dX9_steps_0 ?_
  refine j_iload_n (i := 2) rfl rfl dX9_steps_1 ?_
  replace hr := m_bind hr; obtain ⟨r2, g1, hr⟩ := hr
  refine j_callS (Y' := Y_X1_stepsUp) (as := [.int a1, .int a2]) ok_X1_stepsUp [some (.int a1), some (.int a2), none, none] rfl rfl tw_2_107 tw_2_108 nn_X1_stepsUp (Nat.le_of_ble_eq_true rfl) dX9_steps_2 (j_X1_stepsUp (by omega) g1) ?_
  cases hr
  exact j_ret dX9_steps_5 m_rk_i
def f_X9_common (a0 : Nat) (a1 : Int32) (a2 : Int32) : Option (Int32) :=
  (f_X1_lowestShared a1 a2).bind fun r2 =>
  some r2
def Y_X9_common : mY := (yX9_common, cX9_common, 3, some (FieldType.int), .ireturn)
theorem ok_X9_common : m_Ok Y_X9_common := ⟨by decide +kernel, ⟨by decide +kernel, by decide +kernel⟩, tw_2_113, tw_1_1, by decide, Or.inr (Or.inl ⟨Or.inl rfl, rfl⟩)⟩
theorem nn_X9_common : (parseMethodDescriptor Y_X9_common.1.desc).map (fun q => q.parameters.length) = some 2 := by decide +kernel
set_option maxHeartbeats 4000000 in
set_option maxRecDepth 20000 in
theorem j_X9_common {X : mX} {h : mH} {d : Nat} {a0 : Nat} {a1 : Int32} {a2 : Int32} {rv : Int32} (hd : 3 ≤ d) (hr : f_X9_common a0 a1 a2 = some rv) : m_J X Y_X9_common d 0 [some (.ref a0), some (.int a1), some (.int a2)] [] h (some (.int rv), h) := by
  obtain ⟨d, rfl⟩ : ∃ k, d = k + 1 := ⟨d - 1, by omega⟩
  unfold f_X9_common at hr
  refine j_iload_n (i := 1) rfl rfl dX9_common_0 ?_
  refine j_iload_n (i := 2) rfl rfl dX9_common_1 ?_
  replace hr := m_bind hr; obtain ⟨r2, g1, hr⟩ := hr
  refine j_callS (Y' := Y_X1_lowestShared) (as := [.int a1, .int a2]) ok_X1_lowestShared [some (.int a1), some (.int a2), none, none, none, none] rfl rfl tw_2_114 tw_2_115 nn_X1_lowestShared (Nat.le_of_ble_eq_true rfl) dX9_common_2 (j_X1_lowestShared (by omega) g1) ?_
  cases hr
  exact j_ret dX9_common_5 m_rk_i
def f_X9_commonTrait (a0 : Nat) (a1 : Int32) (a2 : Int32) (a3 : Int32) : Option (Int32) :=
  (f_X1_sharedTraits a1 a2).bind fun r2 =>
  (f_X1_lowest r2).bind fun r4 =>
  (f_X1_pick r4 a3).bind fun r6 =>
  some r6
def Y_X9_commonTrait : mY := (yX9_commonTrait, cX9_commonTrait, 4, some (FieldType.int), .ireturn)
theorem ok_X9_commonTrait : m_Ok Y_X9_commonTrait := ⟨by decide +kernel, ⟨by decide +kernel, by decide +kernel⟩, tw_2_120, tw_1_1, by decide, Or.inr (Or.inl ⟨Or.inl rfl, rfl⟩)⟩
theorem nn_X9_commonTrait : (parseMethodDescriptor Y_X9_commonTrait.1.desc).map (fun q => q.parameters.length) = some 3 := by decide +kernel
set_option maxHeartbeats 4000000 in
set_option maxRecDepth 20000 in
theorem j_X9_commonTrait {X : mX} {h : mH} {d : Nat} {a0 : Nat} {a1 : Int32} {a2 : Int32} {a3 : Int32} {rv : Int32} (hd : 3 ≤ d) (hr : f_X9_commonTrait a0 a1 a2 a3 = some rv) : m_J X Y_X9_commonTrait d 0 [some (.ref a0), some (.int a1), some (.int a2), some (.int a3)] [] h (some (.int rv), h) := by
  obtain ⟨d, rfl⟩ : ∃ k, d = k + 1 := ⟨d - 1, by omega⟩
  unfold f_X9_commonTrait at hr
  refine j_iload_n (i := 1) rfl rfl dX9_commonTrait_0 ?_
  refine j_iload_n (i := 2) rfl rfl dX9_commonTrait_1 ?_
  replace hr := m_bind hr; obtain ⟨r2, g1, hr⟩ := hr
  refine j_callS (Y' := Y_X1_sharedTraits) (as := [.int a1, .int a2]) ok_X1_sharedTraits [some (.int a1), some (.int a2)] rfl rfl tw_2_121 tw_2_122 nn_X1_sharedTraits (Nat.le_of_ble_eq_true rfl) dX9_commonTrait_2 (j_X1_sharedTraits (by omega) g1) ?_
  replace hr := m_bind hr; obtain ⟨r4, g3, hr⟩ := hr
  refine j_callS (Y' := Y_X1_lowest) (as := [.long r2]) ok_X1_lowest [some (.long r2), none, none, none, none] rfl rfl tw_2_125 tw_2_126 nn_X1_lowest (Nat.le_of_ble_eq_true rfl) dX9_commonTrait_5 (j_X1_lowest (by omega) g3) ?_
  refine j_iload_n (i := 3) rfl rfl dX9_commonTrait_8 ?_
  replace hr := m_bind hr; obtain ⟨r6, g5, hr⟩ := hr
  refine j_callS (Y' := Y_X1_pick) (as := [.long r4, .int a3]) ok_X1_pick [some (.long r4), none, some (.int a3), none, none] rfl rfl tw_2_129 tw_2_130 nn_X1_pick (Nat.le_of_ble_eq_true rfl) dX9_commonTrait_9 (j_X1_pick (by omega) g5) ?_
  cases hr
  exact j_ret dX9_commonTrait_12 m_rk_i
def f_X9_rule (h : mH) (a0 : Nat) (a1 : Int32) (a2 : Int32) (a3 : Int32) : Option (Int32 × mH) :=
  (m_gr h a0 8 4).bind fun q1 =>
  (q1).bind fun b3 =>
  if m_ob h b3 4 = true then
    (f_X5_lay h b3 a1 a2 a3).bind fun p6 =>
    if p6.1 = 0 then some ((0, p6.2))
    else if p6.1 = 1 then some ((1, p6.2)) else none
  else none
def Y_X9_rule : mY := (yX9_rule, cX9_rule, 4, some (FieldType.boolean), .ireturn)
theorem ok_X9_rule : m_Ok Y_X9_rule := ⟨by decide +kernel, ⟨by decide +kernel, by decide +kernel⟩, tw_2_135, tw_1_1, by decide, Or.inr (Or.inl ⟨Or.inr rfl, rfl⟩)⟩
theorem nn_X9_rule : (parseMethodDescriptor Y_X9_rule.1.desc).map (fun q => q.parameters.length) = some 3 := by decide +kernel
set_option maxHeartbeats 4000000 in
set_option maxRecDepth 20000 in
theorem j_X9_rule {X : mX} {d : Nat} {h : mH} {a0 : Nat} {a1 : Int32} {a2 : Int32} {a3 : Int32} {rv : Int32} {h' : mH} (hd : 3 ≤ d) (hr : f_X9_rule h a0 a1 a2 a3 = some (rv, h')) : m_J X Y_X9_rule d 0 [some (.ref a0), some (.int a1), some (.int a2), some (.int a3)] [] h (some (.int rv), h') := by
  obtain ⟨d, rfl⟩ : ∃ k, d = k + 1 := ⟨d - 1, by omega⟩
  unfold f_X9_rule at hr
  refine j_aload_n (i := 0) rfl rfl dX9_rule_0 ?_
  replace hr := m_bind hr; obtain ⟨q1, g2, hr⟩ := hr
  refine j_getf (C := RX9) (T := TX9) (N := 8) (ci := 8) (k := 4) rfl (by decide) inX9 tw_1_134 dX9_rule_1 (m_gr_spec g2) ?_
  refine j_iload_n (i := 1) rfl rfl dX9_rule_4 ?_
  refine j_iload_n (i := 2) rfl rfl dX9_rule_5 ?_
  refine j_iload_n (i := 3) rfl rfl dX9_rule_6 ?_
  replace hr := m_bind hr; obtain ⟨b3, g4, hr⟩ := hr
  subst g4
  by_cases o9 : m_ob h b3 4 = true
  · rw [if_pos o9] at hr
    replace hr := m_bind hr; obtain ⟨p6, g5, hr⟩ := hr
    refine j_callV (Y' := Y_X5_lay) (a := b3) (as := [.int a1, .int a2, .int a3]) (ci := 4) (T := TX5) (N := 2) ok_X5_lay [some (.ref b3), some (.int a1), some (.int a2), some (.int a3)] rfl rfl rfl tw_2_136 tw_2_137 tw_2_138 nn_X5_lay (Nat.le_of_ble_eq_true rfl) dX9_rule_7 o9 (j_X5_lay (by omega) g5) ?_
    by_cases c7 : p6.1 = 0
    · rw [if_pos c7] at hr
      rw [c7]
      cases hr
      exact j_ret dX9_rule_10 m_rk_z0
    · rw [if_neg c7] at hr
      by_cases c8 : p6.1 = 1
      · rw [if_pos c8] at hr
        rw [c8]
        cases hr
        exact j_ret dX9_rule_10 m_rk_z1
      · rw [if_neg c8] at hr
        cases hr
  · rw [if_neg o9] at hr
    cases hr
def f_X9_unrule (h : mH) (a0 : Nat) (a1 : Int32) (a2 : Int32) : Option (Int32 × mH) :=
  (m_gr h a0 8 4).bind fun q1 =>
  (q1).bind fun b3 =>
  if m_ob h b3 4 = true then
    (f_X5_drop h b3 a1 a2).bind fun p6 =>
    if p6.1 = 0 then some ((0, p6.2))
    else if p6.1 = 1 then some ((1, p6.2)) else none
  else none
def Y_X9_unrule : mY := (yX9_unrule, cX9_unrule, 3, some (FieldType.boolean), .ireturn)
theorem ok_X9_unrule : m_Ok Y_X9_unrule := ⟨by decide +kernel, ⟨by decide +kernel, by decide +kernel⟩, tw_2_149, tw_1_1, by decide, Or.inr (Or.inl ⟨Or.inr rfl, rfl⟩)⟩
theorem nn_X9_unrule : (parseMethodDescriptor Y_X9_unrule.1.desc).map (fun q => q.parameters.length) = some 2 := by decide +kernel
set_option maxHeartbeats 4000000 in
set_option maxRecDepth 20000 in
theorem j_X9_unrule {X : mX} {d : Nat} {h : mH} {a0 : Nat} {a1 : Int32} {a2 : Int32} {rv : Int32} {h' : mH} (hd : 3 ≤ d) (hr : f_X9_unrule h a0 a1 a2 = some (rv, h')) : m_J X Y_X9_unrule d 0 [some (.ref a0), some (.int a1), some (.int a2)] [] h (some (.int rv), h') := by
  obtain ⟨d, rfl⟩ : ∃ k, d = k + 1 := ⟨d - 1, by omega⟩
  unfold f_X9_unrule at hr
  refine j_aload_n (i := 0) rfl rfl dX9_unrule_0 ?_
  replace hr := m_bind hr; obtain ⟨q1, g2, hr⟩ := hr
  refine j_getf (C := RX9) (T := TX9) (N := 8) (ci := 8) (k := 4) rfl (by decide) inX9 tw_1_134 dX9_unrule_1 (m_gr_spec g2) ?_
  refine j_iload_n (i := 1) rfl rfl dX9_unrule_4 ?_
  refine j_iload_n (i := 2) rfl rfl dX9_unrule_5 ?_
  replace hr := m_bind hr; obtain ⟨b3, g4, hr⟩ := hr
  subst g4
  by_cases o9 : m_ob h b3 4 = true
  · rw [if_pos o9] at hr
    replace hr := m_bind hr; obtain ⟨p6, g5, hr⟩ := hr
    refine j_callV (Y' := Y_X5_drop) (a := b3) (as := [.int a1, .int a2]) (ci := 4) (T := TX5) (N := 2) ok_X5_drop [some (.ref b3), some (.int a1), some (.int a2)] rfl rfl rfl tw_2_150 tw_2_151 tw_2_152 nn_X5_drop (Nat.le_of_ble_eq_true rfl) dX9_unrule_6 o9 (j_X5_drop (by omega) g5) ?_
    by_cases c7 : p6.1 = 0
    · rw [if_pos c7] at hr
      rw [c7]
      cases hr
      exact j_ret dX9_unrule_9 m_rk_z0
    · rw [if_neg c7] at hr
      by_cases c8 : p6.1 = 1
      · rw [if_pos c8] at hr
        rw [c8]
        cases hr
        exact j_ret dX9_unrule_9 m_rk_z1
      · rw [if_neg c8] at hr
        cases hr
  · rw [if_neg o9] at hr
    cases hr
def f_X9_asks (h : mH) (a0 : Nat) (a1 : Int32) (a2 : Int32) : Option (Int32) :=
  (m_gr h a0 8 0).bind fun q1 =>
  (q1).bind fun b3 =>
  if m_ob h b3 7 = true then
    (f_X8_at h b3 a1).bind fun r6 =>
    match r6 with
    | none =>
      some ((-1))
    | some b7 =>
      (m_gr h a0 8 4).bind fun q8 =>
      (m_gi h b7 6 3).bind fun x10 =>
      (q8).bind fun b12 =>
      if m_ob h b12 4 = true then
        (f_X5_answer h b12 x10 a2).bind fun r15 =>
        some r15
      else none
  else none
def Y_X9_asks : mY := (yX9_asks, cX9_asks, 4, some (FieldType.int), .ireturn)
theorem ok_X9_asks : m_Ok Y_X9_asks := ⟨by decide +kernel, ⟨by decide +kernel, by decide +kernel⟩, tw_2_159, tw_1_1, by decide, Or.inr (Or.inl ⟨Or.inl rfl, rfl⟩)⟩
theorem nn_X9_asks : (parseMethodDescriptor Y_X9_asks.1.desc).map (fun q => q.parameters.length) = some 2 := by decide +kernel
set_option maxHeartbeats 4000000 in
set_option maxRecDepth 20000 in
theorem j_X9_asks {X : mX} {d : Nat} {h : mH} {a0 : Nat} {a1 : Int32} {a2 : Int32} {rv : Int32} (hd : 4 ≤ d) (hr : f_X9_asks h a0 a1 a2 = some rv) : m_J X Y_X9_asks d 0 [some (.ref a0), some (.int a1), some (.int a2), none] [] h (some (.int rv), h) := by
  obtain ⟨d, rfl⟩ : ∃ k, d = k + 1 := ⟨d - 1, by omega⟩
  unfold f_X9_asks at hr
  refine j_aload_n (i := 0) rfl rfl dX9_asks_0 ?_
  replace hr := m_bind hr; obtain ⟨q1, g2, hr⟩ := hr
  refine j_getf (C := RX9) (T := TX9) (N := 8) (ci := 8) (k := 0) rfl (by decide) inX9 tw_1_130 dX9_asks_1 (m_gr_spec g2) ?_
  refine j_iload_n (i := 1) rfl rfl dX9_asks_4 ?_
  replace hr := m_bind hr; obtain ⟨b3, g4, hr⟩ := hr
  subst g4
  by_cases o17 : m_ob h b3 7 = true
  · rw [if_pos o17] at hr
    replace hr := m_bind hr; obtain ⟨r6, g5, hr⟩ := hr
    refine j_callV (Y' := Y_X8_at) (a := b3) (as := [.int a1]) (ci := 7) (T := TX8) (N := 3) ok_X8_at [some (.ref b3), some (.int a1)] rfl rfl rfl tw_2_35 tw_2_36 tw_2_37 nn_X8_at (Nat.le_of_ble_eq_true rfl) dX9_asks_5 o17 (j_X8_at g5) ?_
    refine j_astoreq_n (q := r6) (i := 3) (L' := [some (.ref a0), some (.int a1), some (.int a2), some (va_rf r6)]) rfl (Nat.le_of_ble_eq_true rfl) rfl rfl dX9_asks_8 ?_
    refine j_aloadq_n (q := r6) (i := 3) rfl rfl dX9_asks_9 ?_
    cases r6 with
    | none =>
      dsimp only at hr
      refine j_ifnonnull_n dX9_asks_10 ?_
      refine j_iconst (v := (-1)) rfl dX9_asks_13 ?_
      refine j_goto (tgt := 29) dX9_asks_14 rfl ?_
      cases hr
      exact j_ret dX9_asks_29 m_rk_i
    | some b7 =>
      dsimp only at hr
      refine j_ifnonnull_r (tgt := 17) dX9_asks_10 rfl ?_
      refine j_aload_n (i := 0) rfl rfl dX9_asks_17 ?_
      replace hr := m_bind hr; obtain ⟨q8, g9, hr⟩ := hr
      refine j_getf (C := RX9) (T := TX9) (N := 8) (ci := 8) (k := 4) rfl (by decide) inX9 tw_1_134 dX9_asks_18 (m_gr_spec g9) ?_
      refine j_aload_n (i := 3) rfl rfl dX9_asks_21 ?_
      replace hr := m_bind hr; obtain ⟨x10, g11, hr⟩ := hr
      refine j_getf (C := RX7) (T := TX7) (N := 11) (ci := 6) (k := 3) rfl (by decide) inX7 tw_1_195 dX9_asks_22 (m_gi_spec g11) ?_
      refine j_iload_n (i := 2) rfl rfl dX9_asks_25 ?_
      replace hr := m_bind hr; obtain ⟨b12, g13, hr⟩ := hr
      subst g13
      by_cases o16 : m_ob h b12 4 = true
      · rw [if_pos o16] at hr
        replace hr := m_bind hr; obtain ⟨r15, g14, hr⟩ := hr
        refine j_callV (Y' := Y_X5_answer) (a := b12) (as := [.int x10, .int a2]) (ci := 4) (T := TX5) (N := 2) ok_X5_answer [some (.ref b12), some (.int x10), some (.int a2), none, none, none, none, none] rfl rfl rfl tw_2_160 tw_2_161 tw_2_162 nn_X5_answer (Nat.le_of_ble_eq_true rfl) dX9_asks_26 o16 (j_X5_answer (by omega) g14) ?_
        cases hr
        exact j_ret dX9_asks_29 m_rk_i
      · rw [if_neg o16] at hr
        cases hr
  · rw [if_neg o17] at hr
    cases hr
def f_X9_nearest (h : mH) (a0 : Nat) (a1 : Int32) (a2 : Int32) (a3 : Int32) : Option (Int32) :=
  (m_gr h a0 8 0).bind fun q1 =>
  (q1).bind fun b3 =>
  if m_ob h b3 7 = true then
    (f_X8_at h b3 a1).bind fun r6 =>
    match r6 with
    | none =>
      some ((-1))
    | some b7 =>
      (m_gr h a0 8 4).bind fun q8 =>
      (m_gi h b7 6 3).bind fun x10 =>
      (q8).bind fun b12 =>
      if m_ob h b12 4 = true then
        (f_X5_nearestOf h b12 x10 a2).bind fun r15 =>
        (f_X1_pick r15 a3).bind fun r17 =>
        some r17
      else none
  else none
def Y_X9_nearest : mY := (yX9_nearest, cX9_nearest, 5, some (FieldType.int), .ireturn)
theorem ok_X9_nearest : m_Ok Y_X9_nearest := ⟨by decide +kernel, ⟨by decide +kernel, by decide +kernel⟩, tw_2_179, tw_1_1, by decide, Or.inr (Or.inl ⟨Or.inl rfl, rfl⟩)⟩
theorem nn_X9_nearest : (parseMethodDescriptor Y_X9_nearest.1.desc).map (fun q => q.parameters.length) = some 3 := by decide +kernel
set_option maxHeartbeats 4000000 in
set_option maxRecDepth 20000 in
theorem j_X9_nearest {X : mX} {d : Nat} {h : mH} {a0 : Nat} {a1 : Int32} {a2 : Int32} {a3 : Int32} {rv : Int32} (hd : 3 ≤ d) (hr : f_X9_nearest h a0 a1 a2 a3 = some rv) : m_J X Y_X9_nearest d 0 [some (.ref a0), some (.int a1), some (.int a2), some (.int a3), none] [] h (some (.int rv), h) := by
  obtain ⟨d, rfl⟩ : ∃ k, d = k + 1 := ⟨d - 1, by omega⟩
  unfold f_X9_nearest at hr
  refine j_aload_n (i := 0) rfl rfl dX9_nearest_0 ?_
  replace hr := m_bind hr; obtain ⟨q1, g2, hr⟩ := hr
  refine j_getf (C := RX9) (T := TX9) (N := 8) (ci := 8) (k := 0) rfl (by decide) inX9 tw_1_130 dX9_nearest_1 (m_gr_spec g2) ?_
  refine j_iload_n (i := 1) rfl rfl dX9_nearest_4 ?_
  replace hr := m_bind hr; obtain ⟨b3, g4, hr⟩ := hr
  subst g4
  by_cases o19 : m_ob h b3 7 = true
  · rw [if_pos o19] at hr
    replace hr := m_bind hr; obtain ⟨r6, g5, hr⟩ := hr
    refine j_callV (Y' := Y_X8_at) (a := b3) (as := [.int a1]) (ci := 7) (T := TX8) (N := 3) ok_X8_at [some (.ref b3), some (.int a1)] rfl rfl rfl tw_2_35 tw_2_36 tw_2_37 nn_X8_at (Nat.le_of_ble_eq_true rfl) dX9_nearest_5 o19 (j_X8_at g5) ?_
    refine j_astoreq (q := r6) (i := 4) (L' := [some (.ref a0), some (.int a1), some (.int a2), some (.int a3), some (va_rf r6)]) (Nat.le_of_ble_eq_true rfl) rfl rfl dX9_nearest_8 ?_
    refine j_aloadq (q := r6) (i := 4) rfl dX9_nearest_10 ?_
    cases r6 with
    | none =>
      dsimp only at hr
      refine j_ifnonnull_n dX9_nearest_12 ?_
      refine j_iconst (v := (-1)) rfl dX9_nearest_15 ?_
      refine j_goto (tgt := 36) dX9_nearest_16 rfl ?_
      cases hr
      exact j_ret dX9_nearest_36 m_rk_i
    | some b7 =>
      dsimp only at hr
      refine j_ifnonnull_r (tgt := 19) dX9_nearest_12 rfl ?_
      refine j_aload_n (i := 0) rfl rfl dX9_nearest_19 ?_
      replace hr := m_bind hr; obtain ⟨q8, g9, hr⟩ := hr
      refine j_getf (C := RX9) (T := TX9) (N := 8) (ci := 8) (k := 4) rfl (by decide) inX9 tw_1_134 dX9_nearest_20 (m_gr_spec g9) ?_
      refine j_aload (i := 4) rfl dX9_nearest_23 ?_
      replace hr := m_bind hr; obtain ⟨x10, g11, hr⟩ := hr
      refine j_getf (C := RX7) (T := TX7) (N := 11) (ci := 6) (k := 3) rfl (by decide) inX7 tw_1_195 dX9_nearest_25 (m_gi_spec g11) ?_
      refine j_iload_n (i := 2) rfl rfl dX9_nearest_28 ?_
      replace hr := m_bind hr; obtain ⟨b12, g13, hr⟩ := hr
      subst g13
      by_cases o18 : m_ob h b12 4 = true
      · rw [if_pos o18] at hr
        replace hr := m_bind hr; obtain ⟨r15, g14, hr⟩ := hr
        refine j_callV (Y' := Y_X5_nearestOf) (a := b12) (as := [.int x10, .int a2]) (ci := 4) (T := TX5) (N := 2) ok_X5_nearestOf [some (.ref b12), some (.int x10), some (.int a2), none, none, none, none] rfl rfl rfl tw_2_180 tw_2_165 tw_2_166 nn_X5_nearestOf (Nat.le_of_ble_eq_true rfl) dX9_nearest_29 o18 (j_X5_nearestOf (by omega) g14) ?_
        refine j_iload_n (i := 3) rfl rfl dX9_nearest_32 ?_
        replace hr := m_bind hr; obtain ⟨r17, g16, hr⟩ := hr
        refine j_callS (Y' := Y_X1_pick) (as := [.long r15, .int a3]) ok_X1_pick [some (.long r15), none, some (.int a3), none, none] rfl rfl tw_2_129 tw_2_130 nn_X1_pick (Nat.le_of_ble_eq_true rfl) dX9_nearest_33 (j_X1_pick (by omega) g16) ?_
        cases hr
        exact j_ret dX9_nearest_36 m_rk_i
      · rw [if_neg o18] at hr
        cases hr
  · rw [if_neg o19] at hr
    cases hr
def f_X9_mayBeLent (h : mH) (a0 : Nat) (a1 : Option Nat) : Option (Int32) :=
  match a1 with
  | none =>
    some 0
  | some b1 =>
    if m_ob h b1 6 = true then
      (f_X7_isLent h b1).bind fun r3 =>
      if r3 = 0 then
        (m_gr h a0 8 4).bind fun q5 =>
        (m_gi h b1 6 3).bind fun x7 =>
        (q5).bind fun b9 =>
        if m_ob h b9 4 = true then
          (f_X5_answer h b9 x7 2).bind fun r12 =>
          if r12 ≤ 0 then
            some 0
          else
            (m_gr h a0 8 4).bind fun q14 =>
            (m_gi h b1 6 3).bind fun x16 =>
            (q14).bind fun b18 =>
            if m_ob h b18 4 = true then
              (f_X5_answer h b18 x16 3).bind fun r21 =>
              if r21 = ((-2)) then
                some 0
              else
                some 1
            else none
        else none
      else
        some 0
    else none
def Y_X9_mayBeLent : mY := (yX9_mayBeLent, cX9_mayBeLent, 2, some (FieldType.boolean), .ireturn)
theorem ok_X9_mayBeLent : m_Ok Y_X9_mayBeLent := ⟨by decide +kernel, ⟨by decide +kernel, by decide +kernel⟩, tw_2_199, tw_1_1, by decide, Or.inr (Or.inl ⟨Or.inr rfl, rfl⟩)⟩
theorem nn_X9_mayBeLent : (parseMethodDescriptor Y_X9_mayBeLent.1.desc).map (fun q => q.parameters.length) = some 1 := by decide +kernel
set_option maxHeartbeats 4000000 in
set_option maxRecDepth 20000 in
theorem j_X9_mayBeLent {X : mX} {d : Nat} {h : mH} {a0 : Nat} {a1 : Option Nat} {rv : Int32} (hd : 4 ≤ d) (hr : f_X9_mayBeLent h a0 a1 = some rv) : m_J X Y_X9_mayBeLent d 0 [some (.ref a0), some (va_rf a1)] [] h (some (.int rv), h) := by
  obtain ⟨d, rfl⟩ : ∃ k, d = k + 1 := ⟨d - 1, by omega⟩
  unfold f_X9_mayBeLent at hr
  refine j_aloadq_n (q := a1) (i := 1) rfl rfl dX9_mayBeLent_0 ?_
  cases a1 with
  | none =>
    dsimp only at hr
    refine j_ifnull_n (tgt := 47) dX9_mayBeLent_1 rfl ?_
    refine j_iconst (v := 0) rfl dX9_mayBeLent_47 ?_
    cases hr
    exact j_ret dX9_mayBeLent_48 m_rk_z0
  | some b1 =>
    dsimp only at hr
    refine j_ifnull_r dX9_mayBeLent_1 ?_
    refine j_aload_n (i := 1) rfl rfl dX9_mayBeLent_4 ?_
    by_cases o25 : m_ob h b1 6 = true
    · rw [if_pos o25] at hr
      replace hr := m_bind hr; obtain ⟨r3, g2, hr⟩ := hr
      refine j_callV (Y' := Y_X7_isLent) (a := b1) (as := []) (ci := 6) (T := TX7) (N := 11) ok_X7_isLent [some (.ref b1)] rfl rfl rfl tw_2_47 tw_2_48 tw_2_49 nn_X7_isLent (Nat.le_of_ble_eq_true rfl) dX9_mayBeLent_5 o25 (j_X7_isLent g2) ?_
      refine j_if_ne (tgt := 47) dX9_mayBeLent_8 rfl (fun c4 => ?_) (fun c4 => ?_)
      · rw [if_neg c4] at hr
        refine j_iconst (v := 0) rfl dX9_mayBeLent_47 ?_
        cases hr
        exact j_ret dX9_mayBeLent_48 m_rk_z0
      · rw [if_pos c4] at hr
        refine j_aload_n (i := 0) rfl rfl dX9_mayBeLent_11 ?_
        replace hr := m_bind hr; obtain ⟨q5, g6, hr⟩ := hr
        refine j_getf (C := RX9) (T := TX9) (N := 8) (ci := 8) (k := 4) rfl (by decide) inX9 tw_1_134 dX9_mayBeLent_12 (m_gr_spec g6) ?_
        refine j_aload_n (i := 1) rfl rfl dX9_mayBeLent_15 ?_
        replace hr := m_bind hr; obtain ⟨x7, g8, hr⟩ := hr
        refine j_getf (C := RX7) (T := TX7) (N := 11) (ci := 6) (k := 3) rfl (by decide) inX7 tw_1_195 dX9_mayBeLent_16 (m_gi_spec g8) ?_
        refine j_iconst (v := 2) rfl dX9_mayBeLent_19 ?_
        replace hr := m_bind hr; obtain ⟨b9, g10, hr⟩ := hr
        subst g10
        by_cases o24 : m_ob h b9 4 = true
        · rw [if_pos o24] at hr
          replace hr := m_bind hr; obtain ⟨r12, g11, hr⟩ := hr
          refine j_callV (Y' := Y_X5_answer) (a := b9) (as := [.int x7, .int 2]) (ci := 4) (T := TX5) (N := 2) ok_X5_answer [some (.ref b9), some (.int x7), some (.int 2), none, none, none, none, none] rfl rfl rfl tw_2_160 tw_2_161 tw_2_162 nn_X5_answer (Nat.le_of_ble_eq_true rfl) dX9_mayBeLent_20 o24 (j_X5_answer (by omega) g11) ?_
          refine j_if_le (tgt := 47) dX9_mayBeLent_23 rfl (fun c13 => ?_) (fun c13 => ?_)
          · rw [if_pos c13] at hr
            refine j_iconst (v := 0) rfl dX9_mayBeLent_47 ?_
            cases hr
            exact j_ret dX9_mayBeLent_48 m_rk_z0
          · rw [if_neg c13] at hr
            refine j_aload_n (i := 0) rfl rfl dX9_mayBeLent_26 ?_
            replace hr := m_bind hr; obtain ⟨q14, g15, hr⟩ := hr
            refine j_getf (C := RX9) (T := TX9) (N := 8) (ci := 8) (k := 4) rfl (by decide) inX9 tw_1_134 dX9_mayBeLent_27 (m_gr_spec g15) ?_
            refine j_aload_n (i := 1) rfl rfl dX9_mayBeLent_30 ?_
            replace hr := m_bind hr; obtain ⟨x16, g17, hr⟩ := hr
            refine j_getf (C := RX7) (T := TX7) (N := 11) (ci := 6) (k := 3) rfl (by decide) inX7 tw_1_195 dX9_mayBeLent_31 (m_gi_spec g17) ?_
            refine j_iconst (v := 3) rfl dX9_mayBeLent_34 ?_
            replace hr := m_bind hr; obtain ⟨b18, g19, hr⟩ := hr
            subst g19
            by_cases o23 : m_ob h b18 4 = true
            · rw [if_pos o23] at hr
              replace hr := m_bind hr; obtain ⟨r21, g20, hr⟩ := hr
              refine j_callV (Y' := Y_X5_answer) (a := b18) (as := [.int x16, .int 3]) (ci := 4) (T := TX5) (N := 2) ok_X5_answer [some (.ref b18), some (.int x16), some (.int 3), none, none, none, none, none] rfl rfl rfl tw_2_160 tw_2_161 tw_2_162 nn_X5_answer (Nat.le_of_ble_eq_true rfl) dX9_mayBeLent_35 o23 (j_X5_answer (by omega) g20) ?_
              refine j_bipush (v := (-2)) rfl dX9_mayBeLent_38 ?_
              refine j_ic_eq (tgt := 47) dX9_mayBeLent_40 rfl (fun c22 => ?_) (fun c22 => ?_)
              · rw [if_pos c22] at hr
                refine j_iconst (v := 0) rfl dX9_mayBeLent_47 ?_
                cases hr
                exact j_ret dX9_mayBeLent_48 m_rk_z0
              · rw [if_neg c22] at hr
                refine j_iconst (v := 1) rfl dX9_mayBeLent_43 ?_
                refine j_goto (tgt := 48) dX9_mayBeLent_44 rfl ?_
                cases hr
                exact j_ret dX9_mayBeLent_48 m_rk_z1
            · rw [if_neg o23] at hr
              cases hr
        · rw [if_neg o24] at hr
          cases hr
    · rw [if_neg o25] at hr
      cases hr
def f_X9_openLoan (h : mH) (a0 : Nat) (a1 : Option Nat) (a2 : Int32) (a3 : Int32) : Option (mH) :=
  (m_gr h a0 8 4).bind fun q1 =>
  (a1).bind fun b3 =>
  (m_gi h b3 6 3).bind fun x5 =>
  (q1).bind fun b7 =>
  if m_ob h b7 4 = true then
    (f_X5_answer h b7 x5 2).bind fun r10 =>
    (m_gr h a0 8 4).bind fun q11 =>
    (m_gi h b3 6 3).bind fun x13 =>
    (q11).bind fun b15 =>
    if m_ob h b15 4 = true then
      (f_X5_answer h b15 x13 3).bind fun r18 =>
      (some (if 0 < r18 then r18 else 0 : Int32)).bind fun y19 =>
      if m_ob h b3 6 = true then
        (f_X7_lendTo h b3 a2 a3 r10 y19).bind fun h22 =>
        (m_gr h22 a0 8 5).bind fun q23 =>
        (q23).bind fun b25 =>
        if m_ob h22 b25 2 = true then
          (f_X3_open h22 b25 ((some b3))).bind fun h28 =>
          some h28
        else none
      else none
    else none
  else none
def Y_X9_openLoan : mY := (yX9_openLoan, cX9_openLoan, 6, none, .return_)
theorem ok_X9_openLoan : m_Ok Y_X9_openLoan := ⟨by decide +kernel, ⟨by decide +kernel, by decide +kernel⟩, tw_2_208, tw_1_1, by decide, Or.inl ⟨rfl, rfl⟩⟩
theorem nn_X9_openLoan : (parseMethodDescriptor Y_X9_openLoan.1.desc).map (fun q => q.parameters.length) = some 3 := by decide +kernel
set_option maxHeartbeats 4000000 in
set_option maxRecDepth 20000 in
theorem j_X9_openLoan {X : mX} {d : Nat} {h : mH} {a0 : Nat} {a1 : Option Nat} {a2 : Int32} {a3 : Int32} {h' : mH} (hd : 4 ≤ d) (hr : f_X9_openLoan h a0 a1 a2 a3 = some h') : m_J X Y_X9_openLoan d 0 [some (.ref a0), some (va_rf a1), some (.int a2), some (.int a3), none, none] [] h (none, h') := by
  obtain ⟨d, rfl⟩ : ∃ k, d = k + 1 := ⟨d - 1, by omega⟩
  unfold f_X9_openLoan at hr
  refine j_aload_n (i := 0) rfl rfl dX9_openLoan_0 ?_
  replace hr := m_bind hr; obtain ⟨q1, g2, hr⟩ := hr
  refine j_getf (C := RX9) (T := TX9) (N := 8) (ci := 8) (k := 4) rfl (by decide) inX9 tw_1_134 dX9_openLoan_1 (m_gr_spec g2) ?_
  refine j_aloadq_n (q := a1) (i := 1) rfl rfl dX9_openLoan_4 ?_
  replace hr := m_bind hr; obtain ⟨b3, g4, hr⟩ := hr
  subst g4
  replace hr := m_bind hr; obtain ⟨x5, g6, hr⟩ := hr
  refine j_getf (C := RX7) (T := TX7) (N := 11) (ci := 6) (k := 3) rfl (by decide) inX7 tw_1_195 dX9_openLoan_5 (m_gi_spec g6) ?_
  refine j_iconst (v := 2) rfl dX9_openLoan_8 ?_
  replace hr := m_bind hr; obtain ⟨b7, g8, hr⟩ := hr
  subst g8
  by_cases o32 : m_ob h b7 4 = true
  · rw [if_pos o32] at hr
    replace hr := m_bind hr; obtain ⟨r10, g9, hr⟩ := hr
    refine j_callV (Y' := Y_X5_answer) (a := b7) (as := [.int x5, .int 2]) (ci := 4) (T := TX5) (N := 2) ok_X5_answer [some (.ref b7), some (.int x5), some (.int 2), none, none, none, none, none] rfl rfl rfl tw_2_160 tw_2_161 tw_2_162 nn_X5_answer (Nat.le_of_ble_eq_true rfl) dX9_openLoan_9 o32 (j_X5_answer (by omega) g9) ?_
    refine j_istore (i := 4) (L' := [some (.ref a0), some (.ref b3), some (.int a2), some (.int a3), some (.int r10), none]) (Nat.le_of_ble_eq_true rfl) rfl rfl dX9_openLoan_12 ?_
    refine j_iconst (v := 0) rfl dX9_openLoan_14 ?_
    refine j_aload_n (i := 0) rfl rfl dX9_openLoan_15 ?_
    replace hr := m_bind hr; obtain ⟨q11, g12, hr⟩ := hr
    refine j_getf (C := RX9) (T := TX9) (N := 8) (ci := 8) (k := 4) rfl (by decide) inX9 tw_1_134 dX9_openLoan_16 (m_gr_spec g12) ?_
    refine j_aload_n (i := 1) rfl rfl dX9_openLoan_19 ?_
    replace hr := m_bind hr; obtain ⟨x13, g14, hr⟩ := hr
    refine j_getf (C := RX7) (T := TX7) (N := 11) (ci := 6) (k := 3) rfl (by decide) inX7 tw_1_195 dX9_openLoan_20 (m_gi_spec g14) ?_
    refine j_iconst (v := 3) rfl dX9_openLoan_23 ?_
    replace hr := m_bind hr; obtain ⟨b15, g16, hr⟩ := hr
    subst g16
    by_cases o31 : m_ob h b15 4 = true
    · rw [if_pos o31] at hr
      replace hr := m_bind hr; obtain ⟨r18, g17, hr⟩ := hr
      refine j_callV (Y' := Y_X5_answer) (a := b15) (as := [.int x13, .int 3]) (ci := 4) (T := TX5) (N := 2) ok_X5_answer [some (.ref b15), some (.int x13), some (.int 3), none, none, none, none, none] rfl rfl rfl tw_2_160 tw_2_161 tw_2_162 nn_X5_answer (Nat.le_of_ble_eq_true rfl) dX9_openLoan_24 o31 (j_X5_answer (by omega) g17) ?_
      refine j_max tw_2_209 (Nat.le_of_ble_eq_true rfl) rfl dX9_openLoan_27 ?_
      replace hr := m_bind hr; obtain ⟨y19, g20, hr⟩ := hr
      rw [show (if 0 < r18 then r18 else 0 : Int32) = y19 from Option.some.inj g20]
      refine j_istore (i := 5) (L' := [some (.ref a0), some (.ref b3), some (.int a2), some (.int a3), some (.int r10), some (.int y19)]) (Nat.le_of_ble_eq_true rfl) rfl rfl dX9_openLoan_30 ?_
      refine j_aload_n (i := 1) rfl rfl dX9_openLoan_32 ?_
      refine j_iload_n (i := 2) rfl rfl dX9_openLoan_33 ?_
      refine j_iload_n (i := 3) rfl rfl dX9_openLoan_34 ?_
      refine j_iload (i := 4) rfl dX9_openLoan_35 ?_
      refine j_iload (i := 5) rfl dX9_openLoan_37 ?_
      by_cases o30 : m_ob h b3 6 = true
      · rw [if_pos o30] at hr
        replace hr := m_bind hr; obtain ⟨h22, g21, hr⟩ := hr
        refine j_callV (Y' := Y_X7_lendTo) (a := b3) (as := [.int a2, .int a3, .int r10, .int y19]) (ci := 6) (T := TX7) (N := 11) ok_X7_lendTo [some (.ref b3), some (.int a2), some (.int a3), some (.int r10), some (.int y19)] rfl rfl rfl tw_2_210 tw_2_211 tw_2_212 nn_X7_lendTo (Nat.le_of_ble_eq_true rfl) dX9_openLoan_39 o30 (j_X7_lendTo g21) ?_
        refine j_aload_n (i := 0) rfl rfl dX9_openLoan_42 ?_
        replace hr := m_bind hr; obtain ⟨q23, g24, hr⟩ := hr
        refine j_getf (C := RX9) (T := TX9) (N := 8) (ci := 8) (k := 5) rfl (by decide) inX9 tw_1_135 dX9_openLoan_43 (m_gr_spec g24) ?_
        refine j_aload_n (i := 1) rfl rfl dX9_openLoan_46 ?_
        replace hr := m_bind hr; obtain ⟨b25, g26, hr⟩ := hr
        subst g26
        by_cases o29 : m_ob h22 b25 2 = true
        · rw [if_pos o29] at hr
          replace hr := m_bind hr; obtain ⟨h28, g27, hr⟩ := hr
          refine j_callV (Y' := Y_X3_open) (a := b25) (as := [.ref b3]) (ci := 2) (T := TX3) (N := 5) ok_X3_open [some (.ref b25), some (.ref b3), none] rfl rfl rfl tw_2_214 tw_2_215 tw_2_216 nn_X3_open (Nat.le_of_ble_eq_true rfl) dX9_openLoan_47 o29 (j_X3_open (by omega) g27) ?_
          cases hr
          exact j_ret dX9_openLoan_50 m_rk_v
        · rw [if_neg o29] at hr
          cases hr
      · rw [if_neg o30] at hr
        cases hr
    · rw [if_neg o31] at hr
      cases hr
  · rw [if_neg o32] at hr
    cases hr
def w_X9_lendBox_12 (h : mH) (a0 : Nat) (b1 : Nat) : (Int32 × Int32) → Option ((Int32 × Int32) ⊕ ((Int32) ⊕ (Int32 × mH))) := fun s_2 =>
  (m_gr h b1 0 2).bind fun q3 =>
  (q3).bind fun b5 =>
  (m_len h b5).bind fun x7 =>
  if x7 ≤ s_2.2 then
    some (.inr (.inl s_2.1))
  else
    (m_gr h b1 0 2).bind fun q10 =>
    (q10).bind fun b12 =>
    (m_ald h b12 s_2.2).bind fun q14 =>
    match q14 with
    | none =>
      some (.inl (s_2.1, s_2.2 + 1))
    | some b16 =>
      if m_ob h a0 8 = true then
        (f_X9_mayBeLent h a0 ((some b16))).bind fun r18 =>
        if r18 = 0 then
          some (.inr (.inr (((-1), h))))
        else
          some (.inl (s_2.1 + 1, s_2.2 + 1))
      else none
def w_X9_lendBox_79 (a0 : Nat) (a2 : Int32) (a3 : Int32) (b1 : Nat) : (Int32 × mH) → Option ((Int32 × mH) ⊕ (mH)) := fun s_31 =>
  (m_gr s_31.2 b1 0 2).bind fun q32 =>
  (q32).bind fun b34 =>
  (m_len s_31.2 b34).bind fun x36 =>
  if x36 ≤ s_31.1 then
    some (.inr s_31.2)
  else
    (m_gr s_31.2 b1 0 2).bind fun q39 =>
    (q39).bind fun b41 =>
    (m_ald s_31.2 b41 s_31.1).bind fun q43 =>
    match q43 with
    | none =>
      some (.inl (s_31.1 + 1, s_31.2))
    | some b45 =>
      if m_ob s_31.2 a0 8 = true then
        (f_X9_openLoan s_31.2 a0 ((some b45)) a2 a3).bind fun h47 =>
        some (.inl (s_31.1 + 1, h47))
      else none
def f_X9_lendBox (h : mH) (a0 : Nat) (a1 : Option Nat) (a2 : Int32) (a3 : Int32) : Option (Int32 × mH) :=
  match a1 with
  | none =>
    some (((-1), h))
  | some b1 =>
    (m_loop (w_X9_lendBox_12 h a0 b1) 5000 ((0, 0))).bind fun e21 => match e21 with
    | .inl x22 =>
      if x22 = 0 then
        some (((-1), h))
      else
        (m_gr h a0 8 5).bind fun q24 =>
        (q24).bind fun b26 =>
        if m_ob h b26 2 = true then
          (f_X3_hasLeaveFor h b26 a2 x22).bind fun r29 =>
          if r29 = 0 then
            some (((-1), h))
          else
            (m_loop (w_X9_lendBox_79 a0 a2 a3 b1) 5000 ((0, h))).bind fun e49 =>
            some ((x22, e49))
        else none
    | .inr v55 => some v55
def Y_X9_lendBox : mY := (yX9_lendBox, cX9_lendBox, 7, some (FieldType.int), .ireturn)
theorem ok_X9_lendBox : m_Ok Y_X9_lendBox := ⟨by decide +kernel, ⟨by decide +kernel, by decide +kernel⟩, tw_2_195, tw_1_1, by decide, Or.inr (Or.inl ⟨Or.inl rfl, rfl⟩)⟩
theorem nn_X9_lendBox : (parseMethodDescriptor Y_X9_lendBox.1.desc).map (fun q => q.parameters.length) = some 3 := by decide +kernel
set_option maxHeartbeats 4000000 in
set_option maxRecDepth 20000 in
theorem j_X9_lendBox {X : mX} {d : Nat} {h : mH} {a0 : Nat} {a1 : Option Nat} {a2 : Int32} {a3 : Int32} {rv : Int32} {h' : mH} (hd : 5 ≤ d) (hr : f_X9_lendBox h a0 a1 a2 a3 = some (rv, h')) : m_J X Y_X9_lendBox d 0 [some (.ref a0), some (va_rf a1), some (.int a2), some (.int a3), none, none, none] [] h (some (.int rv), h') := by
  obtain ⟨d, rfl⟩ : ∃ k, d = k + 1 := ⟨d - 1, by omega⟩
  unfold f_X9_lendBox at hr
  refine j_aloadq_n (q := a1) (i := 1) rfl rfl dX9_lendBox_0 ?_
  cases a1 with
  | none =>
    dsimp only at hr
    refine j_ifnonnull_n dX9_lendBox_1 ?_
    refine j_iconst (v := (-1)) rfl dX9_lendBox_4 ?_
    cases hr
    exact j_ret dX9_lendBox_5 m_rk_i
  | some b1 =>
    dsimp only at hr
    refine j_ifnonnull_r (tgt := 6) dX9_lendBox_1 rfl ?_
    refine j_iconst (v := 0) rfl dX9_lendBox_6 ?_
    refine j_istore (i := 4) (L' := [some (.ref a0), some (.ref b1), some (.int a2), some (.int a3), some (.int 0), none, none]) (Nat.le_of_ble_eq_true rfl) rfl rfl dX9_lendBox_7 ?_
    refine j_iconst (v := 0) rfl dX9_lendBox_9 ?_
    refine j_istore (i := 5) (L' := [some (.ref a0), some (.ref b1), some (.int a2), some (.int a3), some (.int 0), some (.int 0), none]) (Nat.le_of_ble_eq_true rfl) rfl rfl dX9_lendBox_10 ?_
    replace hr := m_bind hr; obtain ⟨e21, q56, hr⟩ := hr
    refine j_weak (L' := [some (.ref a0), some (.ref b1), some (.int a2), some (.int a3), some (.int 0), some (.int 0), none]) (And.intro rfl (And.intro rfl (And.intro rfl (And.intro rfl (And.intro rfl (And.intro rfl trivial)))))) ?_
    refine m_loop_sound (step := w_X9_lendBox_12 h a0 b1) (P := fun s_2 => m_J X Y_X9_lendBox (d + 1) 12 [some (.ref a0), some (.ref b1), some (.int a2), some (.int a3), some (.int s_2.1), some (.int s_2.2), none] [] h (some (.int rv), h')) (Qe := fun e21 => match e21 with | .inl x22 => m_J X Y_X9_lendBox (d + 1) 56 [some (.ref a0), some (.ref b1), some (.int a2), some (.int a3), some (.int x22), none, none] [] h (some (.int rv), h') | .inr v55 => ((some (.int rv), h') : mR) = (some (.int v55.1), v55.2)) ?_ _ _ _ q56 ?_
    · intro s_2 o hr hk
      unfold w_X9_lendBox_12 at hr
      refine j_iload (i := 5) rfl dX9_lendBox_12 ?_
      refine j_aload_n (i := 1) rfl rfl dX9_lendBox_14 ?_
      replace hr := m_bind hr; obtain ⟨q3, g4, hr⟩ := hr
      refine j_getf (C := RX0) (T := TX0) (N := 3) (ci := 0) (k := 2) rfl (by decide) inX0 tw_2_19 dX9_lendBox_15 (m_gr_spec g4) ?_
      replace hr := m_bind hr; obtain ⟨b5, g6, hr⟩ := hr
      subst g6
      replace hr := m_bind hr; obtain ⟨x7, g8, hr⟩ := hr
      refine j_alen dX9_lendBox_18 g8 ?_
      refine j_ic_ge (tgt := 56) dX9_lendBox_19 rfl (fun c9 => ?_) (fun c9 => ?_)
      · rw [if_pos c9] at hr
        cases hr
        exact j_weak (L' := [some (.ref a0), some (.ref b1), some (.int a2), some (.int a3), some (.int s_2.1), none, none]) (And.intro rfl (And.intro rfl (And.intro rfl (And.intro rfl (And.intro rfl trivial))))) hk
      · rw [if_neg c9] at hr
        refine j_aload_n (i := 1) rfl rfl dX9_lendBox_22 ?_
        replace hr := m_bind hr; obtain ⟨q10, g11, hr⟩ := hr
        refine j_getf (C := RX0) (T := TX0) (N := 3) (ci := 0) (k := 2) rfl (by decide) inX0 tw_2_19 dX9_lendBox_23 (m_gr_spec g11) ?_
        refine j_iload (i := 5) rfl dX9_lendBox_26 ?_
        replace hr := m_bind hr; obtain ⟨b12, g13, hr⟩ := hr
        subst g13
        replace hr := m_bind hr; obtain ⟨q14, g15, hr⟩ := hr
        refine j_aaload dX9_lendBox_28 g15 ?_
        refine j_astoreq (q := q14) (i := 6) (L' := [some (.ref a0), some (.ref b1), some (.int a2), some (.int a3), some (.int s_2.1), some (.int s_2.2), some (va_rf q14)]) (Nat.le_of_ble_eq_true rfl) rfl rfl dX9_lendBox_29 ?_
        refine j_aloadq (q := q14) (i := 6) rfl dX9_lendBox_31 ?_
        cases q14 with
        | none =>
          dsimp only at hr
          refine j_ifnull_n (tgt := 50) dX9_lendBox_33 rfl ?_
          refine j_iinc (i := 5) (v := s_2.2 + 1) (L' := [some (.ref a0), some (.ref b1), some (.int a2), some (.int a3), some (.int s_2.1), some (.int (s_2.2 + 1)), some (.null)]) rfl (m_o1 _) (Nat.le_of_ble_eq_true rfl) rfl rfl dX9_lendBox_50 ?_
          refine j_goto (tgt := 12) dX9_lendBox_53 rfl ?_
          cases hr
          exact j_weak (L' := [some (.ref a0), some (.ref b1), some (.int a2), some (.int a3), some (.int s_2.1), some (.int (s_2.2 + 1)), none]) (And.intro rfl (And.intro rfl (And.intro rfl (And.intro rfl (And.intro rfl (And.intro rfl trivial)))))) hk
        | some b16 =>
          dsimp only at hr
          refine j_ifnull_r dX9_lendBox_33 ?_
          refine j_aload_n (i := 0) rfl rfl dX9_lendBox_36 ?_
          refine j_aload (i := 6) rfl dX9_lendBox_37 ?_
          by_cases o20 : m_ob h a0 8 = true
          · rw [if_pos o20] at hr
            replace hr := m_bind hr; obtain ⟨r18, g17, hr⟩ := hr
            refine j_callV (Y' := Y_X9_mayBeLent) (a := a0) (as := [.ref b16]) (ci := 8) (T := TX9) (N := 8) ok_X9_mayBeLent [some (.ref a0), some (.ref b16)] rfl rfl rfl tw_2_196 tw_2_198 tw_p_4 nn_X9_mayBeLent (Nat.le_of_ble_eq_true rfl) dX9_lendBox_39 o20 (j_X9_mayBeLent (by omega) g17) ?_
            refine j_if_ne (tgt := 47) dX9_lendBox_42 rfl (fun c19 => ?_) (fun c19 => ?_)
            · rw [if_neg c19] at hr
              refine j_iinc (i := 4) (v := s_2.1 + 1) (L' := [some (.ref a0), some (.ref b1), some (.int a2), some (.int a3), some (.int (s_2.1 + 1)), some (.int s_2.2), some (.ref b16)]) rfl (m_o1 _) (Nat.le_of_ble_eq_true rfl) rfl rfl dX9_lendBox_47 ?_
              refine j_iinc (i := 5) (v := s_2.2 + 1) (L' := [some (.ref a0), some (.ref b1), some (.int a2), some (.int a3), some (.int (s_2.1 + 1)), some (.int (s_2.2 + 1)), some (.ref b16)]) rfl (m_o1 _) (Nat.le_of_ble_eq_true rfl) rfl rfl dX9_lendBox_50 ?_
              refine j_goto (tgt := 12) dX9_lendBox_53 rfl ?_
              cases hr
              exact j_weak (L' := [some (.ref a0), some (.ref b1), some (.int a2), some (.int a3), some (.int (s_2.1 + 1)), some (.int (s_2.2 + 1)), none]) (And.intro rfl (And.intro rfl (And.intro rfl (And.intro rfl (And.intro rfl (And.intro rfl trivial)))))) hk
            · rw [if_pos c19] at hr
              refine j_iconst (v := (-1)) rfl dX9_lendBox_45 ?_
              cases hr
              rw [show _ = _ from hk]
              exact j_ret dX9_lendBox_46 m_rk_i
          · rw [if_neg o20] at hr
            cases hr
    · cases e21 with
      | inl x22 =>
        dsimp only at hr
        dsimp only
        refine j_iload (i := 4) rfl dX9_lendBox_56 ?_
        refine j_if_eq (tgt := 74) dX9_lendBox_58 rfl (fun c23 => ?_) (fun c23 => ?_)
        · rw [if_pos c23] at hr
          refine j_iconst (v := (-1)) rfl dX9_lendBox_74 ?_
          cases hr
          exact j_ret dX9_lendBox_75 m_rk_i
        · rw [if_neg c23] at hr
          refine j_aload_n (i := 0) rfl rfl dX9_lendBox_61 ?_
          replace hr := m_bind hr; obtain ⟨q24, g25, hr⟩ := hr
          refine j_getf (C := RX9) (T := TX9) (N := 8) (ci := 8) (k := 5) rfl (by decide) inX9 tw_1_135 dX9_lendBox_62 (m_gr_spec g25) ?_
          refine j_iload_n (i := 2) rfl rfl dX9_lendBox_65 ?_
          refine j_iload (i := 4) rfl dX9_lendBox_66 ?_
          replace hr := m_bind hr; obtain ⟨b26, g27, hr⟩ := hr
          subst g27
          by_cases o53 : m_ob h b26 2 = true
          · rw [if_pos o53] at hr
            replace hr := m_bind hr; obtain ⟨r29, g28, hr⟩ := hr
            refine j_callV (Y' := Y_X3_hasLeaveFor) (a := b26) (as := [.int a2, .int x22]) (ci := 2) (T := TX3) (N := 5) ok_X3_hasLeaveFor [some (.ref b26), some (.int a2), some (.int x22)] rfl rfl rfl tw_2_200 tw_2_201 tw_2_202 nn_X3_hasLeaveFor (Nat.le_of_ble_eq_true rfl) dX9_lendBox_68 o53 (j_X3_hasLeaveFor (by omega) g28) ?_
            refine j_if_ne (tgt := 76) dX9_lendBox_71 rfl (fun c30 => ?_) (fun c30 => ?_)
            · rw [if_neg c30] at hr
              refine j_iconst (v := 0) rfl dX9_lendBox_76 ?_
              refine j_istore (i := 5) (L' := [some (.ref a0), some (.ref b1), some (.int a2), some (.int a3), some (.int x22), some (.int 0), none]) (Nat.le_of_ble_eq_true rfl) rfl rfl dX9_lendBox_77 ?_
              replace hr := m_bind hr; obtain ⟨e49, q52, hr⟩ := hr
              refine j_weak (L' := [some (.ref a0), some (.ref b1), some (.int a2), some (.int a3), some (.int x22), some (.int 0), none]) (And.intro rfl (And.intro rfl (And.intro rfl (And.intro rfl (And.intro rfl (And.intro rfl trivial)))))) ?_
              refine m_loop_sound (step := w_X9_lendBox_79 a0 a2 a3 b1) (P := fun s_31 => m_J X Y_X9_lendBox (d + 1) 79 [some (.ref a0), some (.ref b1), some (.int a2), some (.int a3), some (.int x22), some (.int s_31.1), none] [] s_31.2 (some (.int rv), h')) (Qe := fun e49 => m_J X Y_X9_lendBox (d + 1) 117 [none, none, none, none, some (.int x22), none, none] [] e49 (some (.int rv), h')) ?_ _ _ _ q52 ?_
              · intro s_31 o hr hk
                unfold w_X9_lendBox_79 at hr
                refine j_iload (i := 5) rfl dX9_lendBox_79 ?_
                refine j_aload_n (i := 1) rfl rfl dX9_lendBox_81 ?_
                replace hr := m_bind hr; obtain ⟨q32, g33, hr⟩ := hr
                refine j_getf (C := RX0) (T := TX0) (N := 3) (ci := 0) (k := 2) rfl (by decide) inX0 tw_2_19 dX9_lendBox_82 (m_gr_spec g33) ?_
                replace hr := m_bind hr; obtain ⟨b34, g35, hr⟩ := hr
                subst g35
                replace hr := m_bind hr; obtain ⟨x36, g37, hr⟩ := hr
                refine j_alen dX9_lendBox_85 g37 ?_
                refine j_ic_ge (tgt := 117) dX9_lendBox_86 rfl (fun c38 => ?_) (fun c38 => ?_)
                · rw [if_pos c38] at hr
                  cases hr
                  exact j_weak (L' := [none, none, none, none, some (.int x22), none, none]) (And.intro rfl trivial) hk
                · rw [if_neg c38] at hr
                  refine j_aload_n (i := 1) rfl rfl dX9_lendBox_89 ?_
                  replace hr := m_bind hr; obtain ⟨q39, g40, hr⟩ := hr
                  refine j_getf (C := RX0) (T := TX0) (N := 3) (ci := 0) (k := 2) rfl (by decide) inX0 tw_2_19 dX9_lendBox_90 (m_gr_spec g40) ?_
                  refine j_iload (i := 5) rfl dX9_lendBox_93 ?_
                  replace hr := m_bind hr; obtain ⟨b41, g42, hr⟩ := hr
                  subst g42
                  replace hr := m_bind hr; obtain ⟨q43, g44, hr⟩ := hr
                  refine j_aaload dX9_lendBox_95 g44 ?_
                  refine j_astoreq (q := q43) (i := 6) (L' := [some (.ref a0), some (.ref b1), some (.int a2), some (.int a3), some (.int x22), some (.int s_31.1), some (va_rf q43)]) (Nat.le_of_ble_eq_true rfl) rfl rfl dX9_lendBox_96 ?_
                  refine j_aloadq (q := q43) (i := 6) rfl dX9_lendBox_98 ?_
                  cases q43 with
                  | none =>
                    dsimp only at hr
                    refine j_ifnull_n (tgt := 111) dX9_lendBox_100 rfl ?_
                    refine j_iinc (i := 5) (v := s_31.1 + 1) (L' := [some (.ref a0), some (.ref b1), some (.int a2), some (.int a3), some (.int x22), some (.int (s_31.1 + 1)), some (.null)]) rfl (m_o1 _) (Nat.le_of_ble_eq_true rfl) rfl rfl dX9_lendBox_111 ?_
                    refine j_goto (tgt := 79) dX9_lendBox_114 rfl ?_
                    cases hr
                    exact j_weak (L' := [some (.ref a0), some (.ref b1), some (.int a2), some (.int a3), some (.int x22), some (.int (s_31.1 + 1)), none]) (And.intro rfl (And.intro rfl (And.intro rfl (And.intro rfl (And.intro rfl (And.intro rfl trivial)))))) hk
                  | some b45 =>
                    dsimp only at hr
                    refine j_ifnull_r dX9_lendBox_100 ?_
                    refine j_aload_n (i := 0) rfl rfl dX9_lendBox_103 ?_
                    refine j_aload (i := 6) rfl dX9_lendBox_104 ?_
                    refine j_iload_n (i := 2) rfl rfl dX9_lendBox_106 ?_
                    refine j_iload_n (i := 3) rfl rfl dX9_lendBox_107 ?_
                    by_cases o48 : m_ob s_31.2 a0 8 = true
                    · rw [if_pos o48] at hr
                      replace hr := m_bind hr; obtain ⟨h47, g46, hr⟩ := hr
                      refine j_callV (Y' := Y_X9_openLoan) (a := a0) (as := [.ref b45, .int a2, .int a3]) (ci := 8) (T := TX9) (N := 8) ok_X9_openLoan [some (.ref a0), some (.ref b45), some (.int a2), some (.int a3), none, none] rfl rfl rfl tw_2_205 tw_2_207 tw_p_5 nn_X9_openLoan (Nat.le_of_ble_eq_true rfl) dX9_lendBox_108 o48 (j_X9_openLoan (by omega) g46) ?_
                      refine j_iinc (i := 5) (v := s_31.1 + 1) (L' := [some (.ref a0), some (.ref b1), some (.int a2), some (.int a3), some (.int x22), some (.int (s_31.1 + 1)), some (.ref b45)]) rfl (m_o1 _) (Nat.le_of_ble_eq_true rfl) rfl rfl dX9_lendBox_111 ?_
                      refine j_goto (tgt := 79) dX9_lendBox_114 rfl ?_
                      cases hr
                      exact j_weak (L' := [some (.ref a0), some (.ref b1), some (.int a2), some (.int a3), some (.int x22), some (.int (s_31.1 + 1)), none]) (And.intro rfl (And.intro rfl (And.intro rfl (And.intro rfl (And.intro rfl (And.intro rfl trivial)))))) hk
                    · rw [if_neg o48] at hr
                      cases hr
              · skip
                refine j_iload (i := 4) rfl dX9_lendBox_117 ?_
                cases hr
                exact j_ret dX9_lendBox_119 m_rk_i
            · rw [if_pos c30] at hr
              refine j_iconst (v := (-1)) rfl dX9_lendBox_74 ?_
              cases hr
              exact j_ret dX9_lendBox_75 m_rk_i
          · rw [if_neg o53] at hr
            cases hr
      | inr v55 =>
        dsimp only at hr
        cases hr
        rfl
def f_X9_lend (h : mH) (a0 : Nat) (a1 : Int32) (a2 : Int32) (a3 : Int32) : Option (Int32 × mH) :=
  (f_X3_isBorrower a2).bind fun r2 =>
  if r2 = 0 then
    some (((-1), h))
  else
    (f_X3_isDay a3).bind fun r5 =>
    if r5 = 0 then
      some (((-1), h))
    else
      if a1 < 1000 then
        (m_gr h a0 8 0).bind fun q8 =>
        (q8).bind fun b10 =>
        if m_ob h b10 7 = true then
          (f_X8_at h b10 a1).bind fun r13 =>
          if m_ob h a0 8 = true then
            (f_X9_mayBeLent h a0 r13).bind fun r15 =>
            if r15 = 0 then
              some (((-1), h))
            else
              (m_gr h a0 8 5).bind fun q17 =>
              (q17).bind fun b19 =>
              if m_ob h b19 2 = true then
                (f_X3_hasLeaveFor h b19 a2 1).bind fun r22 =>
                if r22 = 0 then
                  some (((-1), h))
                else
                  if m_ob h a0 8 = true then
                    (f_X9_openLoan h a0 r13 a2 a3).bind fun h25 =>
                    some ((1, h25))
                  else none
              else none
          else none
        else none
      else
        if m_ob h a0 8 = true then
          (f_X9_boxAt h a0 (a1 - 1000)).bind fun r31 =>
          if m_ob h a0 8 = true then
            (f_X9_lendBox h a0 r31 a2 a3).bind fun p33 =>
            some ((p33.1, p33.2))
          else none
        else none
def Y_X9_lend : mY := (yX9_lend, cX9_lend, 5, some (FieldType.int), .ireturn)
theorem ok_X9_lend : m_Ok Y_X9_lend := ⟨by decide +kernel, ⟨by decide +kernel, by decide +kernel⟩, tw_2_184, tw_1_1, by decide, Or.inr (Or.inl ⟨Or.inl rfl, rfl⟩)⟩
theorem nn_X9_lend : (parseMethodDescriptor Y_X9_lend.1.desc).map (fun q => q.parameters.length) = some 3 := by decide +kernel
set_option maxHeartbeats 4000000 in
set_option maxRecDepth 20000 in
theorem j_X9_lend {X : mX} {d : Nat} {h : mH} {a0 : Nat} {a1 : Int32} {a2 : Int32} {a3 : Int32} {rv : Int32} {h' : mH} (hd : 6 ≤ d) (hr : f_X9_lend h a0 a1 a2 a3 = some (rv, h')) : m_J X Y_X9_lend d 0 [some (.ref a0), some (.int a1), some (.int a2), some (.int a3), none] [] h (some (.int rv), h') := by
  obtain ⟨d, rfl⟩ : ∃ k, d = k + 1 := ⟨d - 1, by omega⟩
  unfold f_X9_lend at hr
  refine j_iload_n (i := 2) rfl rfl dX9_lend_0 ?_
  replace hr := m_bind hr; obtain ⟨r2, g1, hr⟩ := hr
  refine j_callS (Y' := Y_X3_isBorrower) (as := [.int a2]) ok_X3_isBorrower [some (.int a2)] rfl rfl tw_2_185 tw_2_186 nn_X3_isBorrower (Nat.le_of_ble_eq_true rfl) dX9_lend_1 (j_X3_isBorrower g1) ?_
  refine j_if_eq (tgt := 14) dX9_lend_4 rfl (fun c3 => ?_) (fun c3 => ?_)
  · rw [if_pos c3] at hr
    refine j_iconst (v := (-1)) rfl dX9_lend_14 ?_
    cases hr
    exact j_ret dX9_lend_15 m_rk_i
  · rw [if_neg c3] at hr
    refine j_iload_n (i := 3) rfl rfl dX9_lend_7 ?_
    replace hr := m_bind hr; obtain ⟨r5, g4, hr⟩ := hr
    refine j_callS (Y' := Y_X3_isDay) (as := [.int a3]) ok_X3_isDay [some (.int a3)] rfl rfl tw_2_188 tw_2_189 nn_X3_isDay (Nat.le_of_ble_eq_true rfl) dX9_lend_8 (j_X3_isDay g4) ?_
    refine j_if_ne (tgt := 16) dX9_lend_11 rfl (fun c6 => ?_) (fun c6 => ?_)
    · rw [if_neg c6] at hr
      refine j_iload_n (i := 1) rfl rfl dX9_lend_16 ?_
      refine j_sipush (v := 1000) rfl dX9_lend_17 ?_
      refine j_ic_lt (tgt := 39) dX9_lend_20 rfl (fun c7 => ?_) (fun c7 => ?_)
      · rw [if_pos c7] at hr
        refine j_aload_n (i := 0) rfl rfl dX9_lend_39 ?_
        replace hr := m_bind hr; obtain ⟨q8, g9, hr⟩ := hr
        refine j_getf (C := RX9) (T := TX9) (N := 8) (ci := 8) (k := 0) rfl (by decide) inX9 tw_1_130 dX9_lend_40 (m_gr_spec g9) ?_
        refine j_iload_n (i := 1) rfl rfl dX9_lend_43 ?_
        replace hr := m_bind hr; obtain ⟨b10, g11, hr⟩ := hr
        subst g11
        by_cases o29 : m_ob h b10 7 = true
        · rw [if_pos o29] at hr
          replace hr := m_bind hr; obtain ⟨r13, g12, hr⟩ := hr
          refine j_callV (Y' := Y_X8_at) (a := b10) (as := [.int a1]) (ci := 7) (T := TX8) (N := 3) ok_X8_at [some (.ref b10), some (.int a1)] rfl rfl rfl tw_2_35 tw_2_36 tw_2_37 nn_X8_at (Nat.le_of_ble_eq_true rfl) dX9_lend_44 o29 (j_X8_at g12) ?_
          refine j_astoreq (q := r13) (i := 4) (L' := [some (.ref a0), some (.int a1), some (.int a2), some (.int a3), some (va_rf r13)]) (Nat.le_of_ble_eq_true rfl) rfl rfl dX9_lend_47 ?_
          refine j_aload_n (i := 0) rfl rfl dX9_lend_49 ?_
          refine j_aloadq (q := r13) (i := 4) rfl dX9_lend_50 ?_
          by_cases o28 : m_ob h a0 8 = true
          · rw [if_pos o28] at hr
            replace hr := m_bind hr; obtain ⟨r15, g14, hr⟩ := hr
            refine j_callV (Y' := Y_X9_mayBeLent) (a := a0) (as := [va_rf r13]) (ci := 8) (T := TX9) (N := 8) ok_X9_mayBeLent [some (.ref a0), some (va_rf r13)] (by cases r13 <;> rfl) rfl rfl tw_2_196 tw_2_198 tw_p_4 nn_X9_mayBeLent (Nat.le_of_ble_eq_true rfl) dX9_lend_52 o28 (j_X9_mayBeLent (by omega) g14) ?_
            refine j_if_eq (tgt := 70) dX9_lend_55 rfl (fun c16 => ?_) (fun c16 => ?_)
            · rw [if_pos c16] at hr
              refine j_iconst (v := (-1)) rfl dX9_lend_70 ?_
              cases hr
              exact j_ret dX9_lend_71 m_rk_i
            · rw [if_neg c16] at hr
              refine j_aload_n (i := 0) rfl rfl dX9_lend_58 ?_
              replace hr := m_bind hr; obtain ⟨q17, g18, hr⟩ := hr
              refine j_getf (C := RX9) (T := TX9) (N := 8) (ci := 8) (k := 5) rfl (by decide) inX9 tw_1_135 dX9_lend_59 (m_gr_spec g18) ?_
              refine j_iload_n (i := 2) rfl rfl dX9_lend_62 ?_
              refine j_iconst (v := 1) rfl dX9_lend_63 ?_
              replace hr := m_bind hr; obtain ⟨b19, g20, hr⟩ := hr
              subst g20
              by_cases o27 : m_ob h b19 2 = true
              · rw [if_pos o27] at hr
                replace hr := m_bind hr; obtain ⟨r22, g21, hr⟩ := hr
                refine j_callV (Y' := Y_X3_hasLeaveFor) (a := b19) (as := [.int a2, .int 1]) (ci := 2) (T := TX3) (N := 5) ok_X3_hasLeaveFor [some (.ref b19), some (.int a2), some (.int 1)] rfl rfl rfl tw_2_200 tw_2_201 tw_2_202 nn_X3_hasLeaveFor (Nat.le_of_ble_eq_true rfl) dX9_lend_64 o27 (j_X3_hasLeaveFor (by omega) g21) ?_
                refine j_if_ne (tgt := 72) dX9_lend_67 rfl (fun c23 => ?_) (fun c23 => ?_)
                · rw [if_neg c23] at hr
                  refine j_aload_n (i := 0) rfl rfl dX9_lend_72 ?_
                  refine j_aloadq (q := r13) (i := 4) rfl dX9_lend_73 ?_
                  refine j_iload_n (i := 2) rfl rfl dX9_lend_75 ?_
                  refine j_iload_n (i := 3) rfl rfl dX9_lend_76 ?_
                  by_cases o26 : m_ob h a0 8 = true
                  · rw [if_pos o26] at hr
                    replace hr := m_bind hr; obtain ⟨h25, g24, hr⟩ := hr
                    refine j_callV (Y' := Y_X9_openLoan) (a := a0) (as := [va_rf r13, .int a2, .int a3]) (ci := 8) (T := TX9) (N := 8) ok_X9_openLoan [some (.ref a0), some (va_rf r13), some (.int a2), some (.int a3), none, none] (by cases r13 <;> rfl) rfl rfl tw_2_205 tw_2_207 tw_p_5 nn_X9_openLoan (Nat.le_of_ble_eq_true rfl) dX9_lend_77 o26 (j_X9_openLoan (by omega) g24) ?_
                    refine j_iconst (v := 1) rfl dX9_lend_80 ?_
                    cases hr
                    exact j_ret dX9_lend_81 m_rk_i
                  · rw [if_neg o26] at hr
                    cases hr
                · rw [if_pos c23] at hr
                  refine j_iconst (v := (-1)) rfl dX9_lend_70 ?_
                  cases hr
                  exact j_ret dX9_lend_71 m_rk_i
              · rw [if_neg o27] at hr
                cases hr
          · rw [if_neg o28] at hr
            cases hr
        · rw [if_neg o29] at hr
          cases hr
      · rw [if_neg c7] at hr
        refine j_aload_n (i := 0) rfl rfl dX9_lend_23 ?_
        refine j_aload_n (i := 0) rfl rfl dX9_lend_24 ?_
        refine j_iload_n (i := 1) rfl rfl dX9_lend_25 ?_
        refine j_sipush (v := 1000) rfl dX9_lend_26 ?_
        refine j_isub dX9_lend_29 ?_
        by_cases o35 : m_ob h a0 8 = true
        · rw [if_pos o35] at hr
          replace hr := m_bind hr; obtain ⟨r31, g30, hr⟩ := hr
          refine j_callV (Y' := Y_X9_boxAt) (a := a0) (as := [.int (a1 - 1000)]) (ci := 8) (T := TX9) (N := 8) ok_X9_boxAt [some (.ref a0), some (.int (a1 - 1000))] rfl rfl rfl tw_2_31 tw_2_33 tw_p_0 nn_X9_boxAt (Nat.le_of_ble_eq_true rfl) dX9_lend_30 o35 (j_X9_boxAt g30) ?_
          refine j_iload_n (i := 2) rfl rfl dX9_lend_33 ?_
          refine j_iload_n (i := 3) rfl rfl dX9_lend_34 ?_
          by_cases o34 : m_ob h a0 8 = true
          · rw [if_pos o34] at hr
            replace hr := m_bind hr; obtain ⟨p33, g32, hr⟩ := hr
            refine j_callV (Y' := Y_X9_lendBox) (a := a0) (as := [va_rf r31, .int a2, .int a3]) (ci := 8) (T := TX9) (N := 8) ok_X9_lendBox [some (.ref a0), some (va_rf r31), some (.int a2), some (.int a3), none, none, none] (by cases r31 <;> rfl) rfl rfl tw_2_192 tw_2_194 tw_p_3 nn_X9_lendBox (Nat.le_of_ble_eq_true rfl) dX9_lend_35 o34 (j_X9_lendBox (by omega) g32) ?_
            cases hr
            exact j_ret dX9_lend_38 m_rk_i
          · rw [if_neg o34] at hr
            cases hr
        · rw [if_neg o35] at hr
          cases hr
    · rw [if_pos c6] at hr
      refine j_iconst (v := (-1)) rfl dX9_lend_14 ?_
      cases hr
      exact j_ret dX9_lend_15 m_rk_i
def f_X9_giveBack (h : mH) (a0 : Nat) (a1 : Int32) (a2 : Int32) : Option (Int32 × mH) :=
  (m_gr h a0 8 0).bind fun q1 =>
  (q1).bind fun b3 =>
  if m_ob h b3 7 = true then
    (f_X8_at h b3 a1).bind fun r6 =>
    match r6 with
    | none =>
      some (((-1), h))
    | some b7 =>
      if m_ob h b7 6 = true then
        (f_X7_isLent h b7).bind fun r9 =>
        if r9 = 0 then
          some (((-1), h))
        else
          (f_X3_isDay a2).bind fun r12 =>
          if r12 = 0 then
            some (((-1), h))
          else
            (m_gi h b7 6 8).bind fun x14 =>
            if x14 ≤ a2 then
              (m_gr h a0 8 5).bind fun q17 =>
              (q17).bind fun b19 =>
              if m_ob h b19 2 = true then
                (f_X3_close h b19 ((some b7)) a2).bind fun p22 =>
                some ((p22.1, p22.2))
              else none
            else
              some (((-1), h))
      else none
  else none
def Y_X9_giveBack : mY := (yX9_giveBack, cX9_giveBack, 4, some (FieldType.int), .ireturn)
theorem ok_X9_giveBack : m_Ok Y_X9_giveBack := ⟨by decide +kernel, ⟨by decide +kernel, by decide +kernel⟩, tw_2_228, tw_1_1, by decide, Or.inr (Or.inl ⟨Or.inl rfl, rfl⟩)⟩
theorem nn_X9_giveBack : (parseMethodDescriptor Y_X9_giveBack.1.desc).map (fun q => q.parameters.length) = some 2 := by decide +kernel
set_option maxHeartbeats 4000000 in
set_option maxRecDepth 20000 in
theorem j_X9_giveBack {X : mX} {d : Nat} {h : mH} {a0 : Nat} {a1 : Int32} {a2 : Int32} {rv : Int32} {h' : mH} (hd : 3 ≤ d) (hr : f_X9_giveBack h a0 a1 a2 = some (rv, h')) : m_J X Y_X9_giveBack d 0 [some (.ref a0), some (.int a1), some (.int a2), none] [] h (some (.int rv), h') := by
  obtain ⟨d, rfl⟩ : ∃ k, d = k + 1 := ⟨d - 1, by omega⟩
  unfold f_X9_giveBack at hr
  refine j_aload_n (i := 0) rfl rfl dX9_giveBack_0 ?_
  replace hr := m_bind hr; obtain ⟨q1, g2, hr⟩ := hr
  refine j_getf (C := RX9) (T := TX9) (N := 8) (ci := 8) (k := 0) rfl (by decide) inX9 tw_1_130 dX9_giveBack_1 (m_gr_spec g2) ?_
  refine j_iload_n (i := 1) rfl rfl dX9_giveBack_4 ?_
  replace hr := m_bind hr; obtain ⟨b3, g4, hr⟩ := hr
  subst g4
  by_cases o25 : m_ob h b3 7 = true
  · rw [if_pos o25] at hr
    replace hr := m_bind hr; obtain ⟨r6, g5, hr⟩ := hr
    refine j_callV (Y' := Y_X8_at) (a := b3) (as := [.int a1]) (ci := 7) (T := TX8) (N := 3) ok_X8_at [some (.ref b3), some (.int a1)] rfl rfl rfl tw_2_35 tw_2_36 tw_2_37 nn_X8_at (Nat.le_of_ble_eq_true rfl) dX9_giveBack_5 o25 (j_X8_at g5) ?_
    refine j_astoreq_n (q := r6) (i := 3) (L' := [some (.ref a0), some (.int a1), some (.int a2), some (va_rf r6)]) rfl (Nat.le_of_ble_eq_true rfl) rfl rfl dX9_giveBack_8 ?_
    refine j_aloadq_n (q := r6) (i := 3) rfl rfl dX9_giveBack_9 ?_
    cases r6 with
    | none =>
      dsimp only at hr
      refine j_ifnull_n (tgt := 35) dX9_giveBack_10 rfl ?_
      refine j_iconst (v := (-1)) rfl dX9_giveBack_35 ?_
      cases hr
      exact j_ret dX9_giveBack_36 m_rk_i
    | some b7 =>
      dsimp only at hr
      refine j_ifnull_r dX9_giveBack_10 ?_
      refine j_aload_n (i := 3) rfl rfl dX9_giveBack_13 ?_
      by_cases o24 : m_ob h b7 6 = true
      · rw [if_pos o24] at hr
        replace hr := m_bind hr; obtain ⟨r9, g8, hr⟩ := hr
        refine j_callV (Y' := Y_X7_isLent) (a := b7) (as := []) (ci := 6) (T := TX7) (N := 11) ok_X7_isLent [some (.ref b7)] rfl rfl rfl tw_2_47 tw_2_48 tw_2_49 nn_X7_isLent (Nat.le_of_ble_eq_true rfl) dX9_giveBack_14 o24 (j_X7_isLent g8) ?_
        refine j_if_eq (tgt := 35) dX9_giveBack_17 rfl (fun c10 => ?_) (fun c10 => ?_)
        · rw [if_pos c10] at hr
          refine j_iconst (v := (-1)) rfl dX9_giveBack_35 ?_
          cases hr
          exact j_ret dX9_giveBack_36 m_rk_i
        · rw [if_neg c10] at hr
          refine j_iload_n (i := 2) rfl rfl dX9_giveBack_20 ?_
          replace hr := m_bind hr; obtain ⟨r12, g11, hr⟩ := hr
          refine j_callS (Y' := Y_X3_isDay) (as := [.int a2]) ok_X3_isDay [some (.int a2)] rfl rfl tw_2_188 tw_2_189 nn_X3_isDay (Nat.le_of_ble_eq_true rfl) dX9_giveBack_21 (j_X3_isDay g11) ?_
          refine j_if_eq (tgt := 35) dX9_giveBack_24 rfl (fun c13 => ?_) (fun c13 => ?_)
          · rw [if_pos c13] at hr
            refine j_iconst (v := (-1)) rfl dX9_giveBack_35 ?_
            cases hr
            exact j_ret dX9_giveBack_36 m_rk_i
          · rw [if_neg c13] at hr
            refine j_iload_n (i := 2) rfl rfl dX9_giveBack_27 ?_
            refine j_aload_n (i := 3) rfl rfl dX9_giveBack_28 ?_
            replace hr := m_bind hr; obtain ⟨x14, g15, hr⟩ := hr
            refine j_getf (C := RX7) (T := TX7) (N := 11) (ci := 6) (k := 8) rfl (by decide) inX7 tw_1_209 dX9_giveBack_29 (m_gi_spec g15) ?_
            refine j_ic_ge (tgt := 37) dX9_giveBack_32 rfl (fun c16 => ?_) (fun c16 => ?_)
            · rw [if_pos c16] at hr
              refine j_aload_n (i := 0) rfl rfl dX9_giveBack_37 ?_
              replace hr := m_bind hr; obtain ⟨q17, g18, hr⟩ := hr
              refine j_getf (C := RX9) (T := TX9) (N := 8) (ci := 8) (k := 5) rfl (by decide) inX9 tw_1_135 dX9_giveBack_38 (m_gr_spec g18) ?_
              refine j_aload_n (i := 3) rfl rfl dX9_giveBack_41 ?_
              refine j_iload_n (i := 2) rfl rfl dX9_giveBack_42 ?_
              replace hr := m_bind hr; obtain ⟨b19, g20, hr⟩ := hr
              subst g20
              by_cases o23 : m_ob h b19 2 = true
              · rw [if_pos o23] at hr
                replace hr := m_bind hr; obtain ⟨p22, g21, hr⟩ := hr
                refine j_callV (Y' := Y_X3_close) (a := b19) (as := [.ref b7, .int a2]) (ci := 2) (T := TX3) (N := 5) ok_X3_close [some (.ref b19), some (.ref b7), some (.int a2), none] rfl rfl rfl tw_2_229 tw_2_230 tw_2_231 nn_X3_close (Nat.le_of_ble_eq_true rfl) dX9_giveBack_43 o23 (j_X3_close (by omega) g21) ?_
                cases hr
                exact j_ret dX9_giveBack_46 m_rk_i
              · rw [if_neg o23] at hr
                cases hr
            · rw [if_neg c16] at hr
              refine j_iconst (v := (-1)) rfl dX9_giveBack_35 ?_
              cases hr
              exact j_ret dX9_giveBack_36 m_rk_i
      · rw [if_neg o24] at hr
        cases hr
  · rw [if_neg o25] at hr
    cases hr
def f_X9_overdue (h : mH) (a0 : Nat) (a1 : Int32) : Option (Int32) :=
  (f_X3_isDay a1).bind fun r2 =>
  if r2 = 0 then
    some ((-1))
  else
    (m_gr h a0 8 5).bind fun q4 =>
    (q4).bind fun b6 =>
    if m_ob h b6 2 = true then
      (f_X3_lateCount h b6 a1).bind fun r9 =>
      some r9
    else none
def Y_X9_overdue : mY := (yX9_overdue, cX9_overdue, 2, some (FieldType.int), .ireturn)
theorem ok_X9_overdue : m_Ok Y_X9_overdue := ⟨by decide +kernel, ⟨by decide +kernel, by decide +kernel⟩, tw_3_14, tw_1_1, by decide, Or.inr (Or.inl ⟨Or.inl rfl, rfl⟩)⟩
theorem nn_X9_overdue : (parseMethodDescriptor Y_X9_overdue.1.desc).map (fun q => q.parameters.length) = some 1 := by decide +kernel
set_option maxHeartbeats 4000000 in
set_option maxRecDepth 20000 in
theorem j_X9_overdue {X : mX} {d : Nat} {h : mH} {a0 : Nat} {a1 : Int32} {rv : Int32} (hd : 2 ≤ d) (hr : f_X9_overdue h a0 a1 = some rv) : m_J X Y_X9_overdue d 0 [some (.ref a0), some (.int a1)] [] h (some (.int rv), h) := by
  obtain ⟨d, rfl⟩ : ∃ k, d = k + 1 := ⟨d - 1, by omega⟩
  unfold f_X9_overdue at hr
  refine j_iload_n (i := 1) rfl rfl dX9_overdue_0 ?_
  replace hr := m_bind hr; obtain ⟨r2, g1, hr⟩ := hr
  refine j_callS (Y' := Y_X3_isDay) (as := [.int a1]) ok_X3_isDay [some (.int a1)] rfl rfl tw_2_188 tw_2_189 nn_X3_isDay (Nat.le_of_ble_eq_true rfl) dX9_overdue_1 (j_X3_isDay g1) ?_
  refine j_if_eq (tgt := 18) dX9_overdue_4 rfl (fun c3 => ?_) (fun c3 => ?_)
  · rw [if_pos c3] at hr
    refine j_iconst (v := (-1)) rfl dX9_overdue_18 ?_
    cases hr
    exact j_ret dX9_overdue_19 m_rk_i
  · rw [if_neg c3] at hr
    refine j_aload_n (i := 0) rfl rfl dX9_overdue_7 ?_
    replace hr := m_bind hr; obtain ⟨q4, g5, hr⟩ := hr
    refine j_getf (C := RX9) (T := TX9) (N := 8) (ci := 8) (k := 5) rfl (by decide) inX9 tw_1_135 dX9_overdue_8 (m_gr_spec g5) ?_
    refine j_iload_n (i := 1) rfl rfl dX9_overdue_11 ?_
    replace hr := m_bind hr; obtain ⟨b6, g7, hr⟩ := hr
    subst g7
    by_cases o10 : m_ob h b6 2 = true
    · rw [if_pos o10] at hr
      replace hr := m_bind hr; obtain ⟨r9, g8, hr⟩ := hr
      refine j_callV (Y' := Y_X3_lateCount) (a := b6) (as := [.int a1]) (ci := 2) (T := TX3) (N := 5) ok_X3_lateCount [some (.ref b6), some (.int a1), none, none, none] rfl rfl rfl tw_3_15 tw_3_16 tw_3_17 nn_X3_lateCount (Nat.le_of_ble_eq_true rfl) dX9_overdue_12 o10 (j_X3_lateCount (by omega) g8) ?_
      refine j_goto (tgt := 19) dX9_overdue_15 rfl ?_
      cases hr
      exact j_ret dX9_overdue_19 m_rk_i
    · rw [if_neg o10] at hr
      cases hr
def f_X9_lateOne (h : mH) (a0 : Nat) (a1 : Int32) (a2 : Int32) : Option (Int32) :=
  (f_X3_isDay a1).bind fun r2 =>
  if r2 = 0 then
    some ((-1))
  else
    (m_gr h a0 8 5).bind fun q4 =>
    (q4).bind fun b6 =>
    if m_ob h b6 2 = true then
      (f_X3_lateAt h b6 a1 a2).bind fun r9 =>
      some r9
    else none
def Y_X9_lateOne : mY := (yX9_lateOne, cX9_lateOne, 3, some (FieldType.int), .ireturn)
theorem ok_X9_lateOne : m_Ok Y_X9_lateOne := ⟨by decide +kernel, ⟨by decide +kernel, by decide +kernel⟩, tw_3_22, tw_1_1, by decide, Or.inr (Or.inl ⟨Or.inl rfl, rfl⟩)⟩
theorem nn_X9_lateOne : (parseMethodDescriptor Y_X9_lateOne.1.desc).map (fun q => q.parameters.length) = some 2 := by decide +kernel
set_option maxHeartbeats 4000000 in
set_option maxRecDepth 20000 in
theorem j_X9_lateOne {X : mX} {d : Nat} {h : mH} {a0 : Nat} {a1 : Int32} {a2 : Int32} {rv : Int32} (hd : 2 ≤ d) (hr : f_X9_lateOne h a0 a1 a2 = some rv) : m_J X Y_X9_lateOne d 0 [some (.ref a0), some (.int a1), some (.int a2)] [] h (some (.int rv), h) := by
  obtain ⟨d, rfl⟩ : ∃ k, d = k + 1 := ⟨d - 1, by omega⟩
  unfold f_X9_lateOne at hr
  refine j_iload_n (i := 1) rfl rfl dX9_lateOne_0 ?_
  replace hr := m_bind hr; obtain ⟨r2, g1, hr⟩ := hr
  refine j_callS (Y' := Y_X3_isDay) (as := [.int a1]) ok_X3_isDay [some (.int a1)] rfl rfl tw_2_188 tw_2_189 nn_X3_isDay (Nat.le_of_ble_eq_true rfl) dX9_lateOne_1 (j_X3_isDay g1) ?_
  refine j_if_eq (tgt := 19) dX9_lateOne_4 rfl (fun c3 => ?_) (fun c3 => ?_)
  · rw [if_pos c3] at hr
    refine j_iconst (v := (-1)) rfl dX9_lateOne_19 ?_
    cases hr
    exact j_ret dX9_lateOne_20 m_rk_i
  · rw [if_neg c3] at hr
    refine j_aload_n (i := 0) rfl rfl dX9_lateOne_7 ?_
    replace hr := m_bind hr; obtain ⟨q4, g5, hr⟩ := hr
    refine j_getf (C := RX9) (T := TX9) (N := 8) (ci := 8) (k := 5) rfl (by decide) inX9 tw_1_135 dX9_lateOne_8 (m_gr_spec g5) ?_
    refine j_iload_n (i := 1) rfl rfl dX9_lateOne_11 ?_
    refine j_iload_n (i := 2) rfl rfl dX9_lateOne_12 ?_
    replace hr := m_bind hr; obtain ⟨b6, g7, hr⟩ := hr
    subst g7
    by_cases o10 : m_ob h b6 2 = true
    · rw [if_pos o10] at hr
      replace hr := m_bind hr; obtain ⟨r9, g8, hr⟩ := hr
      refine j_callV (Y' := Y_X3_lateAt) (a := b6) (as := [.int a1, .int a2]) (ci := 2) (T := TX3) (N := 5) ok_X3_lateAt [some (.ref b6), some (.int a1), some (.int a2), none] rfl rfl rfl tw_3_23 tw_3_24 tw_3_25 nn_X3_lateAt (Nat.le_of_ble_eq_true rfl) dX9_lateOne_13 o10 (j_X3_lateAt (by omega) g8) ?_
      refine j_goto (tgt := 20) dX9_lateOne_16 rfl ?_
      cases hr
      exact j_ret dX9_lateOne_20 m_rk_i
    · rw [if_neg o10] at hr
      cases hr
def f_X9_fees (h : mH) (a0 : Nat) (a1 : Int32) (a2 : Int32) : Option (Int32) :=
  (f_X3_isBorrower a1).bind fun r2 =>
  if r2 = 0 then
    some ((-1))
  else
    (f_X3_isDay a2).bind fun r5 =>
    if r5 = 0 then
      some ((-1))
    else
      (m_gr h a0 8 5).bind fun q7 =>
      (q7).bind fun b9 =>
      if m_ob h b9 2 = true then
        (f_X3_owed h b9 a1 a2).bind fun r12 =>
        some r12
      else none
def Y_X9_fees : mY := (yX9_fees, cX9_fees, 3, some (FieldType.int), .ireturn)
theorem ok_X9_fees : m_Ok Y_X9_fees := ⟨by decide +kernel, ⟨by decide +kernel, by decide +kernel⟩, tw_3_30, tw_1_1, by decide, Or.inr (Or.inl ⟨Or.inl rfl, rfl⟩)⟩
theorem nn_X9_fees : (parseMethodDescriptor Y_X9_fees.1.desc).map (fun q => q.parameters.length) = some 2 := by decide +kernel
set_option maxHeartbeats 4000000 in
set_option maxRecDepth 20000 in
theorem j_X9_fees {X : mX} {d : Nat} {h : mH} {a0 : Nat} {a1 : Int32} {a2 : Int32} {rv : Int32} (hd : 3 ≤ d) (hr : f_X9_fees h a0 a1 a2 = some rv) : m_J X Y_X9_fees d 0 [some (.ref a0), some (.int a1), some (.int a2)] [] h (some (.int rv), h) := by
  obtain ⟨d, rfl⟩ : ∃ k, d = k + 1 := ⟨d - 1, by omega⟩
  unfold f_X9_fees at hr
  refine j_iload_n (i := 1) rfl rfl dX9_fees_0 ?_
  replace hr := m_bind hr; obtain ⟨r2, g1, hr⟩ := hr
  refine j_callS (Y' := Y_X3_isBorrower) (as := [.int a1]) ok_X3_isBorrower [some (.int a1)] rfl rfl tw_2_185 tw_2_186 nn_X3_isBorrower (Nat.le_of_ble_eq_true rfl) dX9_fees_1 (j_X3_isBorrower g1) ?_
  refine j_if_eq (tgt := 14) dX9_fees_4 rfl (fun c3 => ?_) (fun c3 => ?_)
  · rw [if_pos c3] at hr
    refine j_iconst (v := (-1)) rfl dX9_fees_14 ?_
    cases hr
    exact j_ret dX9_fees_15 m_rk_i
  · rw [if_neg c3] at hr
    refine j_iload_n (i := 2) rfl rfl dX9_fees_7 ?_
    replace hr := m_bind hr; obtain ⟨r5, g4, hr⟩ := hr
    refine j_callS (Y' := Y_X3_isDay) (as := [.int a2]) ok_X3_isDay [some (.int a2)] rfl rfl tw_2_188 tw_2_189 nn_X3_isDay (Nat.le_of_ble_eq_true rfl) dX9_fees_8 (j_X3_isDay g4) ?_
    refine j_if_ne (tgt := 16) dX9_fees_11 rfl (fun c6 => ?_) (fun c6 => ?_)
    · rw [if_neg c6] at hr
      refine j_aload_n (i := 0) rfl rfl dX9_fees_16 ?_
      replace hr := m_bind hr; obtain ⟨q7, g8, hr⟩ := hr
      refine j_getf (C := RX9) (T := TX9) (N := 8) (ci := 8) (k := 5) rfl (by decide) inX9 tw_1_135 dX9_fees_17 (m_gr_spec g8) ?_
      refine j_iload_n (i := 1) rfl rfl dX9_fees_20 ?_
      refine j_iload_n (i := 2) rfl rfl dX9_fees_21 ?_
      replace hr := m_bind hr; obtain ⟨b9, g10, hr⟩ := hr
      subst g10
      by_cases o13 : m_ob h b9 2 = true
      · rw [if_pos o13] at hr
        replace hr := m_bind hr; obtain ⟨r12, g11, hr⟩ := hr
        refine j_callV (Y' := Y_X3_owed) (a := b9) (as := [.int a1, .int a2]) (ci := 2) (T := TX3) (N := 5) ok_X3_owed [some (.ref b9), some (.int a1), some (.int a2), none, none, none] rfl rfl rfl tw_3_31 tw_3_32 tw_3_33 nn_X3_owed (Nat.le_of_ble_eq_true rfl) dX9_fees_22 o13 (j_X3_owed (by omega) g11) ?_
        cases hr
        exact j_ret dX9_fees_25 m_rk_i
      · rw [if_neg o13] at hr
        cases hr
    · rw [if_pos c6] at hr
      refine j_iconst (v := (-1)) rfl dX9_fees_14 ?_
      cases hr
      exact j_ret dX9_fees_15 m_rk_i
def f_X9_keyAt (h : mH) (a0 : Nat) (a1 : Int32) : Option (Option Nat) :=
  if a1 < 0 then
    some none
  else
    (m_gr h a0 8 3).bind fun q2 =>
    (q2).bind fun b4 =>
    (m_len h b4).bind fun x6 =>
    if x6 ≤ a1 then
      some none
    else
      (m_gr h a0 8 3).bind fun q9 =>
      (q9).bind fun b11 =>
      (m_ald h b11 a1).bind fun q13 =>
      some q13
def Y_X9_keyAt : mY := (yX9_keyAt, cX9_keyAt, 2, some ((FieldType.object "SpecimenHall$Key")), .areturn)
theorem ok_X9_keyAt : m_Ok Y_X9_keyAt := ⟨by decide +kernel, ⟨by decide +kernel, by decide +kernel⟩, tw_3_42, tw_1_1, by decide, Or.inr (Or.inr (Or.inr ⟨⟨_, rfl⟩, rfl⟩))⟩
theorem nn_X9_keyAt : (parseMethodDescriptor Y_X9_keyAt.1.desc).map (fun q => q.parameters.length) = some 1 := by decide +kernel
set_option maxHeartbeats 4000000 in
set_option maxRecDepth 20000 in
theorem j_X9_keyAt {X : mX} {d : Nat} {h : mH} {a0 : Nat} {a1 : Int32} {rv : Option Nat} (hr : f_X9_keyAt h a0 a1 = some rv) : m_J X Y_X9_keyAt d 0 [some (.ref a0), some (.int a1)] [] h (some (va_rf rv), h) := by
  unfold f_X9_keyAt at hr
  refine j_iload_n (i := 1) rfl rfl dX9_keyAt_0 ?_
  refine j_if_lt (tgt := 22) dX9_keyAt_1 rfl (fun c1 => ?_) (fun c1 => ?_)
  · rw [if_pos c1] at hr
    refine j_null dX9_keyAt_22 ?_
    cases hr
    exact j_ret dX9_keyAt_23 (m_rk_r _)
  · rw [if_neg c1] at hr
    refine j_iload_n (i := 1) rfl rfl dX9_keyAt_4 ?_
    refine j_aload_n (i := 0) rfl rfl dX9_keyAt_5 ?_
    replace hr := m_bind hr; obtain ⟨q2, g3, hr⟩ := hr
    refine j_getf (C := RX9) (T := TX9) (N := 8) (ci := 8) (k := 3) rfl (by decide) inX9 tw_1_133 dX9_keyAt_6 (m_gr_spec g3) ?_
    replace hr := m_bind hr; obtain ⟨b4, g5, hr⟩ := hr
    subst g5
    replace hr := m_bind hr; obtain ⟨x6, g7, hr⟩ := hr
    refine j_alen dX9_keyAt_9 g7 ?_
    refine j_ic_ge (tgt := 22) dX9_keyAt_10 rfl (fun c8 => ?_) (fun c8 => ?_)
    · rw [if_pos c8] at hr
      refine j_null dX9_keyAt_22 ?_
      cases hr
      exact j_ret dX9_keyAt_23 (m_rk_r _)
    · rw [if_neg c8] at hr
      refine j_aload_n (i := 0) rfl rfl dX9_keyAt_13 ?_
      replace hr := m_bind hr; obtain ⟨q9, g10, hr⟩ := hr
      refine j_getf (C := RX9) (T := TX9) (N := 8) (ci := 8) (k := 3) rfl (by decide) inX9 tw_1_133 dX9_keyAt_14 (m_gr_spec g10) ?_
      refine j_iload_n (i := 1) rfl rfl dX9_keyAt_17 ?_
      replace hr := m_bind hr; obtain ⟨b11, g12, hr⟩ := hr
      subst g12
      replace hr := m_bind hr; obtain ⟨q13, g14, hr⟩ := hr
      refine j_aaload dX9_keyAt_18 g14 ?_
      refine j_goto (tgt := 23) dX9_keyAt_19 rfl ?_
      cases hr
      exact j_ret dX9_keyAt_23 (m_rk_r _)
def f_X9_question (h : mH) (a0 : Nat) (a1 : Int32) (a2 : Int32) (a3 : Int32) (a4 : Int32) (a5 : Int32) : Option (Int32 × mH) :=
  if m_ob h a0 8 = true then
    (f_X9_keyAt h a0 a1).bind fun r2 =>
    match r2 with
    | none =>
      some (((-1), h))
    | some b3 =>
      if m_ob h b3 1 = true then
        (f_X2_isFull h b3).bind fun r5 =>
        if r5 = 0 then
          (f_X4_mayAsk a2 a3).bind fun r8 =>
          if r8 = 0 then
            some (((-1), h))
          else
            if m_ob h b3 1 = true then
              (f_X2_mayTell h b3 a4).bind fun r11 =>
              if r11 = 0 then
                some (((-1), h))
              else
                if m_ob h b3 1 = true then
                  (f_X2_mayTell h b3 a5).bind fun r14 =>
                  if r14 = 0 then
                    some (((-1), h))
                  else
                    (m_newO h 3 [.int 0, .int 0, .int 0, .int 0]).bind fun h16 =>
                    (f_X4_init h16 h.1 a2 a3 a4 a5).bind fun h19 =>
                    if m_ob h19 b3 1 = true then
                      (f_X2_add h19 b3 ((some h.1))).bind fun p21 =>
                      some ((p21.1, p21.2))
                    else none
                else none
            else none
        else
          some (((-1), h))
      else none
  else none
def Y_X9_question : mY := (yX9_question, cX9_question, 7, some (FieldType.int), .ireturn)
theorem ok_X9_question : m_Ok Y_X9_question := ⟨by decide +kernel, ⟨by decide +kernel, by decide +kernel⟩, tw_3_38, tw_1_1, by decide, Or.inr (Or.inl ⟨Or.inl rfl, rfl⟩)⟩
theorem nn_X9_question : (parseMethodDescriptor Y_X9_question.1.desc).map (fun q => q.parameters.length) = some 5 := by decide +kernel
set_option maxHeartbeats 4000000 in
set_option maxRecDepth 20000 in
theorem j_X9_question {X : mX} {d : Nat} {h : mH} {a0 : Nat} {a1 : Int32} {a2 : Int32} {a3 : Int32} {a4 : Int32} {a5 : Int32} {rv : Int32} {h' : mH} (hd : 3 ≤ d) (hr : f_X9_question h a0 a1 a2 a3 a4 a5 = some (rv, h')) : m_J X Y_X9_question d 0 [some (.ref a0), some (.int a1), some (.int a2), some (.int a3), some (.int a4), some (.int a5), none] [] h (some (.int rv), h') := by
  obtain ⟨d, rfl⟩ : ∃ k, d = k + 1 := ⟨d - 1, by omega⟩
  unfold f_X9_question at hr
  refine j_aload_n (i := 0) rfl rfl dX9_question_0 ?_
  refine j_iload_n (i := 1) rfl rfl dX9_question_1 ?_
  by_cases o26 : m_ob h a0 8 = true
  · rw [if_pos o26] at hr
    replace hr := m_bind hr; obtain ⟨r2, g1, hr⟩ := hr
    refine j_callV (Y' := Y_X9_keyAt) (a := a0) (as := [.int a1]) (ci := 8) (T := TX9) (N := 8) ok_X9_keyAt [some (.ref a0), some (.int a1)] rfl rfl rfl tw_3_39 tw_3_41 tw_p_7 nn_X9_keyAt (Nat.le_of_ble_eq_true rfl) dX9_question_2 o26 (j_X9_keyAt g1) ?_
    refine j_astoreq (q := r2) (i := 6) (L' := [some (.ref a0), some (.int a1), some (.int a2), some (.int a3), some (.int a4), some (.int a5), some (va_rf r2)]) (Nat.le_of_ble_eq_true rfl) rfl rfl dX9_question_5 ?_
    refine j_aloadq (q := r2) (i := 6) rfl dX9_question_7 ?_
    cases r2 with
    | none =>
      dsimp only at hr
      refine j_ifnull_n (tgt := 48) dX9_question_9 rfl ?_
      refine j_iconst (v := (-1)) rfl dX9_question_48 ?_
      cases hr
      exact j_ret dX9_question_49 m_rk_i
    | some b3 =>
      dsimp only at hr
      refine j_ifnull_r dX9_question_9 ?_
      refine j_aload (i := 6) rfl dX9_question_12 ?_
      by_cases o25 : m_ob h b3 1 = true
      · rw [if_pos o25] at hr
        replace hr := m_bind hr; obtain ⟨r5, g4, hr⟩ := hr
        refine j_callV (Y' := Y_X2_isFull) (a := b3) (as := []) (ci := 1) (T := TX2) (N := 3) ok_X2_isFull [some (.ref b3)] rfl rfl rfl tw_3_43 tw_3_44 tw_3_45 nn_X2_isFull (Nat.le_of_ble_eq_true rfl) dX9_question_14 o25 (j_X2_isFull g4) ?_
        refine j_if_ne (tgt := 48) dX9_question_17 rfl (fun c6 => ?_) (fun c6 => ?_)
        · rw [if_neg c6] at hr
          refine j_iconst (v := (-1)) rfl dX9_question_48 ?_
          cases hr
          exact j_ret dX9_question_49 m_rk_i
        · rw [if_pos c6] at hr
          refine j_iload_n (i := 2) rfl rfl dX9_question_20 ?_
          refine j_iload_n (i := 3) rfl rfl dX9_question_21 ?_
          replace hr := m_bind hr; obtain ⟨r8, g7, hr⟩ := hr
          refine j_callS (Y' := Y_X4_mayAsk) (as := [.int a2, .int a3]) ok_X4_mayAsk [some (.int a2), some (.int a3)] rfl rfl tw_3_47 tw_3_48 nn_X4_mayAsk (Nat.le_of_ble_eq_true rfl) dX9_question_22 (j_X4_mayAsk (by omega) g7) ?_
          refine j_if_eq (tgt := 48) dX9_question_25 rfl (fun c9 => ?_) (fun c9 => ?_)
          · rw [if_pos c9] at hr
            refine j_iconst (v := (-1)) rfl dX9_question_48 ?_
            cases hr
            exact j_ret dX9_question_49 m_rk_i
          · rw [if_neg c9] at hr
            refine j_aload (i := 6) rfl dX9_question_28 ?_
            refine j_iload (i := 4) rfl dX9_question_30 ?_
            by_cases o24 : m_ob h b3 1 = true
            · rw [if_pos o24] at hr
              replace hr := m_bind hr; obtain ⟨r11, g10, hr⟩ := hr
              refine j_callV (Y' := Y_X2_mayTell) (a := b3) (as := [.int a4]) (ci := 1) (T := TX2) (N := 3) ok_X2_mayTell [some (.ref b3), some (.int a4)] rfl rfl rfl tw_3_52 tw_3_53 tw_3_54 nn_X2_mayTell (Nat.le_of_ble_eq_true rfl) dX9_question_32 o24 (j_X2_mayTell (by omega) g10) ?_
              refine j_if_eq (tgt := 48) dX9_question_35 rfl (fun c12 => ?_) (fun c12 => ?_)
              · rw [if_pos c12] at hr
                refine j_iconst (v := (-1)) rfl dX9_question_48 ?_
                cases hr
                exact j_ret dX9_question_49 m_rk_i
              · rw [if_neg c12] at hr
                refine j_aload (i := 6) rfl dX9_question_38 ?_
                refine j_iload (i := 5) rfl dX9_question_40 ?_
                by_cases o23 : m_ob h b3 1 = true
                · rw [if_pos o23] at hr
                  replace hr := m_bind hr; obtain ⟨r14, g13, hr⟩ := hr
                  refine j_callV (Y' := Y_X2_mayTell) (a := b3) (as := [.int a5]) (ci := 1) (T := TX2) (N := 3) ok_X2_mayTell [some (.ref b3), some (.int a5)] rfl rfl rfl tw_3_52 tw_3_53 tw_3_54 nn_X2_mayTell (Nat.le_of_ble_eq_true rfl) dX9_question_42 o23 (j_X2_mayTell (by omega) g13) ?_
                  refine j_if_ne (tgt := 50) dX9_question_45 rfl (fun c15 => ?_) (fun c15 => ?_)
                  · rw [if_neg c15] at hr
                    refine j_aload (i := 6) rfl dX9_question_50 ?_
                    replace hr := m_bind hr; obtain ⟨h16, g17, hr⟩ := hr
                    refine j_newO (C := RX4) (T := TX4) (ty := tyX4) (N := 4) (ci := 3) rfl inX4 tyX4_ok tw_3_57 tw_3_58 tw_1_12 (fun j hj => by rcases (show j = 0 ∨ j = 1 ∨ j = 2 ∨ j = 3 by omega) with rfl | rfl | rfl | rfl <;> rfl) rfl (fun E => rfl) dX9_question_52 g17 ?_
                    refine j_dup rfl dX9_question_55 ?_
                    refine j_iload_n (i := 2) rfl rfl dX9_question_56 ?_
                    refine j_iload_n (i := 3) rfl rfl dX9_question_57 ?_
                    refine j_iload (i := 4) rfl dX9_question_58 ?_
                    refine j_iload (i := 5) rfl dX9_question_60 ?_
                    replace hr := m_bind hr; obtain ⟨h19, g18, hr⟩ := hr
                    refine j_callI (Y' := Y_X4_init) (a := h.1) (as := [.int a2, .int a3, .int a4, .int a5]) ok_X4_init rfl rfl [some (.ref h.1), some (.int a2), some (.int a3), some (.int a4), some (.int a5)] rfl rfl tw_3_59 tw_3_60 nn_X4_init (Nat.le_of_ble_eq_true rfl) dX9_question_62 (j_X4_init (by omega) g18) ?_
                    by_cases o22 : m_ob h19 b3 1 = true
                    · rw [if_pos o22] at hr
                      replace hr := m_bind hr; obtain ⟨p21, g20, hr⟩ := hr
                      refine j_callV (Y' := Y_X2_add) (a := b3) (as := [.ref h.1]) (ci := 1) (T := TX2) (N := 3) ok_X2_add [some (.ref b3), some (.ref h.1)] rfl rfl rfl tw_3_76 tw_3_77 tw_3_78 nn_X2_add (Nat.le_of_ble_eq_true rfl) dX9_question_65 o22 (j_X2_add (by omega) g20) ?_
                      cases hr
                      exact j_ret dX9_question_68 m_rk_i
                    · rw [if_neg o22] at hr
                      cases hr
                  · rw [if_pos c15] at hr
                    refine j_iconst (v := (-1)) rfl dX9_question_48 ?_
                    cases hr
                    exact j_ret dX9_question_49 m_rk_i
                · rw [if_neg o23] at hr
                  cases hr
            · rw [if_neg o24] at hr
              cases hr
      · rw [if_neg o25] at hr
        cases hr
  · rw [if_neg o26] at hr
    cases hr
def f_X9_name (h : mH) (a0 : Nat) (a1 : Int32) (a2 : Int32) : Option (Int32 × mH) :=
  if m_ob h a0 8 = true then
    (f_X9_keyAt h a0 a1).bind fun r2 =>
    (m_gr h a0 8 0).bind fun q3 =>
    (q3).bind fun b5 =>
    if m_ob h b5 7 = true then
      (f_X8_at h b5 a2).bind fun r8 =>
      match r2 with
      | none =>
        some (((-1), h))
      | some b9 =>
        match r8 with
        | none =>
          some (((-1), h))
        | some b10 =>
          if m_ob h b9 1 = true then
            (f_X2_nameOf h b9 ((some b10))).bind fun p12 =>
            (m_gi p12.2 b9 1 2).bind fun x13 =>
            (m_pf p12.2 a0 8 7 (.int x13)).bind fun h15 =>
            some ((p12.1, h15))
          else none
    else none
  else none
def Y_X9_name : mY := (yX9_name, cX9_name, 6, some (FieldType.int), .ireturn)
theorem ok_X9_name : m_Ok Y_X9_name := ⟨by decide +kernel, ⟨by decide +kernel, by decide +kernel⟩, tw_3_84, tw_1_1, by decide, Or.inr (Or.inl ⟨Or.inl rfl, rfl⟩)⟩
theorem nn_X9_name : (parseMethodDescriptor Y_X9_name.1.desc).map (fun q => q.parameters.length) = some 2 := by decide +kernel
set_option maxHeartbeats 4000000 in
set_option maxRecDepth 20000 in
theorem j_X9_name {X : mX} {d : Nat} {h : mH} {a0 : Nat} {a1 : Int32} {a2 : Int32} {rv : Int32} {h' : mH} (hd : 6 ≤ d) (hr : f_X9_name h a0 a1 a2 = some (rv, h')) : m_J X Y_X9_name d 0 [some (.ref a0), some (.int a1), some (.int a2), none, none, none] [] h (some (.int rv), h') := by
  obtain ⟨d, rfl⟩ : ∃ k, d = k + 1 := ⟨d - 1, by omega⟩
  unfold f_X9_name at hr
  refine j_aload_n (i := 0) rfl rfl dX9_name_0 ?_
  refine j_iload_n (i := 1) rfl rfl dX9_name_1 ?_
  by_cases o19 : m_ob h a0 8 = true
  · rw [if_pos o19] at hr
    replace hr := m_bind hr; obtain ⟨r2, g1, hr⟩ := hr
    refine j_callV (Y' := Y_X9_keyAt) (a := a0) (as := [.int a1]) (ci := 8) (T := TX9) (N := 8) ok_X9_keyAt [some (.ref a0), some (.int a1)] rfl rfl rfl tw_3_39 tw_3_41 tw_p_7 nn_X9_keyAt (Nat.le_of_ble_eq_true rfl) dX9_name_2 o19 (j_X9_keyAt g1) ?_
    refine j_astoreq_n (q := r2) (i := 3) (L' := [some (.ref a0), some (.int a1), some (.int a2), some (va_rf r2), none, none]) rfl (Nat.le_of_ble_eq_true rfl) rfl rfl dX9_name_5 ?_
    refine j_aload_n (i := 0) rfl rfl dX9_name_6 ?_
    replace hr := m_bind hr; obtain ⟨q3, g4, hr⟩ := hr
    refine j_getf (C := RX9) (T := TX9) (N := 8) (ci := 8) (k := 0) rfl (by decide) inX9 tw_1_130 dX9_name_7 (m_gr_spec g4) ?_
    refine j_iload_n (i := 2) rfl rfl dX9_name_10 ?_
    replace hr := m_bind hr; obtain ⟨b5, g6, hr⟩ := hr
    subst g6
    by_cases o18 : m_ob h b5 7 = true
    · rw [if_pos o18] at hr
      replace hr := m_bind hr; obtain ⟨r8, g7, hr⟩ := hr
      refine j_callV (Y' := Y_X8_at) (a := b5) (as := [.int a2]) (ci := 7) (T := TX8) (N := 3) ok_X8_at [some (.ref b5), some (.int a2)] rfl rfl rfl tw_2_35 tw_2_36 tw_2_37 nn_X8_at (Nat.le_of_ble_eq_true rfl) dX9_name_11 o18 (j_X8_at g7) ?_
      refine j_astoreq (q := r8) (i := 4) (L' := [some (.ref a0), some (.int a1), some (.int a2), some (va_rf r2), some (va_rf r8), none]) (Nat.le_of_ble_eq_true rfl) (m_nwq r2) rfl dX9_name_14 ?_
      refine j_aloadq_n (q := r2) (i := 3) rfl rfl dX9_name_16 ?_
      cases r2 with
      | none =>
        dsimp only at hr
        refine j_ifnull_n (tgt := 25) dX9_name_17 rfl ?_
        refine j_iconst (v := (-1)) rfl dX9_name_25 ?_
        cases hr
        exact j_ret dX9_name_26 m_rk_i
      | some b9 =>
        dsimp only at hr
        refine j_ifnull_r dX9_name_17 ?_
        refine j_aloadq (q := r8) (i := 4) rfl dX9_name_20 ?_
        cases r8 with
        | none =>
          dsimp only at hr
          refine j_ifnonnull_n dX9_name_22 ?_
          refine j_iconst (v := (-1)) rfl dX9_name_25 ?_
          cases hr
          exact j_ret dX9_name_26 m_rk_i
        | some b10 =>
          dsimp only at hr
          refine j_ifnonnull_r (tgt := 27) dX9_name_22 rfl ?_
          refine j_aload_n (i := 3) rfl rfl dX9_name_27 ?_
          refine j_aload (i := 4) rfl dX9_name_28 ?_
          by_cases o17 : m_ob h b9 1 = true
          · rw [if_pos o17] at hr
            replace hr := m_bind hr; obtain ⟨p12, g11, hr⟩ := hr
            refine j_callV (Y' := Y_X2_nameOf) (a := b9) (as := [.ref b10]) (ci := 1) (T := TX2) (N := 3) ok_X2_nameOf [some (.ref b9), some (.ref b10), none, none, none] rfl rfl rfl tw_3_85 tw_3_86 tw_3_87 nn_X2_nameOf (Nat.le_of_ble_eq_true rfl) dX9_name_30 o17 (j_X2_nameOf (by omega) g11) ?_
            refine j_istore (i := 5) (L' := [some (.ref a0), some (.int a1), some (.int a2), some (.ref b9), some (.ref b10), some (.int p12.1)]) (Nat.le_of_ble_eq_true rfl) rfl rfl dX9_name_33 ?_
            refine j_aload_n (i := 0) rfl rfl dX9_name_35 ?_
            refine j_aload_n (i := 3) rfl rfl dX9_name_36 ?_
            replace hr := m_bind hr; obtain ⟨x13, g14, hr⟩ := hr
            refine j_getf (C := RX2) (T := TX2) (N := 3) (ci := 1) (k := 2) rfl (by decide) inX2 tw_1_82 dX9_name_37 (m_gi_spec g14) ?_
            replace hr := m_bind hr; obtain ⟨h15, g16, hr⟩ := hr
            refine j_puti (C := RX9) (T := TX9) (ty := tyX9) (N := 8) (ci := 8) (k := 7) rfl (by decide) inX9 tyX9_ok nmX9 tw_1_137 rfl rfl dX9_name_40 g16 ?_
            refine j_iload (i := 5) rfl dX9_name_43 ?_
            cases hr
            exact j_ret dX9_name_45 m_rk_i
          · rw [if_neg o17] at hr
            cases hr
    · rw [if_neg o18] at hr
      cases hr
  · rw [if_neg o19] at hr
    cases hr
def f_X9_asked (h : mH) (a0 : Nat) : Option (Int32) :=
  (m_gi h a0 8 7).bind fun x1 =>
  some x1
def Y_X9_asked : mY := (yX9_asked, cX9_asked, 1, some (FieldType.int), .ireturn)
theorem ok_X9_asked : m_Ok Y_X9_asked := ⟨by decide +kernel, ⟨by decide +kernel, by decide +kernel⟩, tw_3_105, tw_1_1, by decide, Or.inr (Or.inl ⟨Or.inl rfl, rfl⟩)⟩
theorem nn_X9_asked : (parseMethodDescriptor Y_X9_asked.1.desc).map (fun q => q.parameters.length) = some 0 := by decide +kernel
set_option maxHeartbeats 4000000 in
set_option maxRecDepth 20000 in
theorem j_X9_asked {X : mX} {d : Nat} {h : mH} {a0 : Nat} {rv : Int32} (hr : f_X9_asked h a0 = some rv) : m_J X Y_X9_asked d 0 [some (.ref a0)] [] h (some (.int rv), h) := by
  unfold f_X9_asked at hr
  refine j_aload_n (i := 0) rfl rfl dX9_asked_0 ?_
  replace hr := m_bind hr; obtain ⟨x1, g2, hr⟩ := hr
  refine j_getf (C := RX9) (T := TX9) (N := 8) (ci := 8) (k := 7) rfl (by decide) inX9 tw_1_137 dX9_asked_1 (m_gi_spec g2) ?_
  cases hr
  exact j_ret dX9_asked_4 m_rk_i
def f_X9_leaveShelf (h : mH) (a0 : Option Nat) : Option (Int32 × mH) :=
  (a0).bind fun b1 =>
  (m_gr h b1 6 6).bind fun q3 =>
  match q3 with
  | none =>
    some ((0, h))
  | some b5 =>
    (m_gr h b1 6 6).bind fun q6 =>
    (q6).bind fun b8 =>
    if m_ob h b8 5 = true then
      (f_X6_remove h b8 ((some b1))).bind fun h11 =>
      (m_pf h11 b1 6 6 (va_rf none)).bind fun h12 =>
      some ((1, h12))
    else none
def Y_X9_leaveShelf : mY := (yX9_leaveShelf, cX9_leaveShelf, 1, some (FieldType.boolean), .ireturn)
theorem ok_X9_leaveShelf : m_Ok Y_X9_leaveShelf := ⟨by decide +kernel, ⟨by decide +kernel, by decide +kernel⟩, tw_3_117, tw_1_1, by decide, Or.inr (Or.inl ⟨Or.inr rfl, rfl⟩)⟩
theorem nn_X9_leaveShelf : (parseMethodDescriptor Y_X9_leaveShelf.1.desc).map (fun q => q.parameters.length) = some 1 := by decide +kernel
set_option maxHeartbeats 4000000 in
set_option maxRecDepth 20000 in
theorem j_X9_leaveShelf {X : mX} {d : Nat} {h : mH} {a0 : Option Nat} {rv : Int32} {h' : mH} (hd : 1 ≤ d) (hr : f_X9_leaveShelf h a0 = some (rv, h')) : m_J X Y_X9_leaveShelf d 0 [some (va_rf a0)] [] h (some (.int rv), h') := by
  obtain ⟨d, rfl⟩ : ∃ k, d = k + 1 := ⟨d - 1, by omega⟩
  unfold f_X9_leaveShelf at hr
  refine j_aloadq_n (q := a0) (i := 0) rfl rfl dX9_leaveShelf_0 ?_
  replace hr := m_bind hr; obtain ⟨b1, g2, hr⟩ := hr
  subst g2
  replace hr := m_bind hr; obtain ⟨q3, g4, hr⟩ := hr
  refine j_getf (C := RX7) (T := TX7) (N := 11) (ci := 6) (k := 6) rfl (by decide) inX7 tw_1_204 dX9_leaveShelf_1 (m_gr_spec g4) ?_
  cases q3 with
  | none =>
    dsimp only at hr
    refine j_ifnonnull_n dX9_leaveShelf_4 ?_
    refine j_iconst (v := 0) rfl dX9_leaveShelf_7 ?_
    cases hr
    exact j_ret dX9_leaveShelf_8 m_rk_z0
  | some b5 =>
    dsimp only at hr
    refine j_ifnonnull_r (tgt := 9) dX9_leaveShelf_4 rfl ?_
    refine j_aload_n (i := 0) rfl rfl dX9_leaveShelf_9 ?_
    replace hr := m_bind hr; obtain ⟨q6, g7, hr⟩ := hr
    refine j_getf (C := RX7) (T := TX7) (N := 11) (ci := 6) (k := 6) rfl (by decide) inX7 tw_1_204 dX9_leaveShelf_10 (m_gr_spec g7) ?_
    refine j_aload_n (i := 0) rfl rfl dX9_leaveShelf_13 ?_
    replace hr := m_bind hr; obtain ⟨b8, g9, hr⟩ := hr
    subst g9
    by_cases o14 : m_ob h b8 5 = true
    · rw [if_pos o14] at hr
      replace hr := m_bind hr; obtain ⟨h11, g10, hr⟩ := hr
      refine j_callV (Y' := Y_X6_remove) (a := b8) (as := [.ref b1]) (ci := 5) (T := TX6) (N := 5) ok_X6_remove [some (.ref b8), some (.ref b1)] rfl rfl rfl tw_3_118 tw_3_119 tw_3_120 nn_X6_remove (Nat.le_of_ble_eq_true rfl) dX9_leaveShelf_14 o14 (j_X6_remove g10) ?_
      refine j_aload_n (i := 0) rfl rfl dX9_leaveShelf_17 ?_
      refine j_null dX9_leaveShelf_18 ?_
      replace hr := m_bind hr; obtain ⟨h12, g13, hr⟩ := hr
      refine j_putr (q := none) (C := RX7) (T := TX7) (ty := tyX7) (N := 11) (ci := 6) (k := 6) rfl (by decide) inX7 tyX7_ok nmX7 tw_1_204 rfl rfl dX9_leaveShelf_19 g13 ?_
      refine j_iconst (v := 1) rfl dX9_leaveShelf_22 ?_
      cases hr
      exact j_ret dX9_leaveShelf_23 m_rk_z1
    · rw [if_neg o14] at hr
      cases hr
def f_X9_convert (h : mH) (a0 : Nat) (a1 : Int32) (a2 : Int32) : Option (Int32 × mH) :=
  (m_gr h a0 8 0).bind fun q1 =>
  (q1).bind fun b3 =>
  if m_ob h b3 7 = true then
    (f_X8_at h b3 a1).bind fun r6 =>
    match r6 with
    | none =>
      some ((0, h))
    | some b7 =>
      if m_ob h b7 6 = true then
        (f_X7_isLent h b7).bind fun r9 =>
        if r9 = 0 then
          (f_X1_isConcrete a2).bind fun r12 =>
          if r12 = 0 then
            some ((0, h))
          else
            (m_gi h b7 6 3).bind fun x14 =>
            if a2 = x14 then
              some ((0, h))
            else
              (m_gi h b7 6 3).bind fun x17 =>
              (f_X1_mayTurnInto x17 a2).bind fun r20 =>
              if r20 = 0 then
                some ((0, h))
              else
                (m_pf h b7 6 3 (.int a2)).bind fun h22 =>
                (m_gr h22 b7 6 4).bind fun q24 =>
                match q24 with
                | none =>
                  (m_gr h22 b7 6 6).bind fun q27 =>
                  match q27 with
                  | none =>
                    some ((1, h22))
                  | some b29 =>
                    (m_gr h22 b7 6 6).bind fun q30 =>
                    (q30).bind fun b32 =>
                    (m_gi h22 b32 5 1).bind fun x34 =>
                    (f_X1_standsUnder a2 x34).bind fun r37 =>
                    if r37 = 0 then
                      (f_X9_leaveShelf h22 ((some b7))).bind fun p40 =>
                      some ((1, p40.2))
                    else
                      some ((1, h22))
                | some b26 =>
                  (m_gr h22 b7 6 4).bind fun q41 =>
                  (q41).bind fun b43 =>
                  (m_gi h22 b43 0 1).bind fun x45 =>
                  (f_X1_standsUnder a2 x45).bind fun r48 =>
                  if r48 = 0 then
                    (f_X9_leavePlace h22 ((some b7))).bind fun h65 =>
                    (m_gr h65 b7 6 6).bind fun q66 =>
                    match q66 with
                    | none =>
                      some ((1, h65))
                    | some b68 =>
                      (m_gr h65 b7 6 6).bind fun q69 =>
                      (q69).bind fun b71 =>
                      (m_gi h65 b71 5 1).bind fun x73 =>
                      (f_X1_standsUnder a2 x73).bind fun r76 =>
                      if r76 = 0 then
                        (f_X9_leaveShelf h65 ((some b7))).bind fun p79 =>
                        some ((1, p79.2))
                      else
                        some ((1, h65))
                  else
                    (m_gr h22 b7 6 6).bind fun q50 =>
                    match q50 with
                    | none =>
                      some ((1, h22))
                    | some b52 =>
                      (m_gr h22 b7 6 6).bind fun q53 =>
                      (q53).bind fun b55 =>
                      (m_gi h22 b55 5 1).bind fun x57 =>
                      (f_X1_standsUnder a2 x57).bind fun r60 =>
                      if r60 = 0 then
                        (f_X9_leaveShelf h22 ((some b7))).bind fun p63 =>
                        some ((1, p63.2))
                      else
                        some ((1, h22))
        else
          some ((0, h))
      else none
  else none
def Y_X9_convert : mY := (yX9_convert, cX9_convert, 4, some (FieldType.boolean), .ireturn)
theorem ok_X9_convert : m_Ok Y_X9_convert := ⟨by decide +kernel, ⟨by decide +kernel, by decide +kernel⟩, tw_3_109, tw_1_1, by decide, Or.inr (Or.inl ⟨Or.inr rfl, rfl⟩)⟩
theorem nn_X9_convert : (parseMethodDescriptor Y_X9_convert.1.desc).map (fun q => q.parameters.length) = some 2 := by decide +kernel
set_option maxHeartbeats 4000000 in
set_option maxRecDepth 20000 in
theorem j_X9_convert {X : mX} {d : Nat} {h : mH} {a0 : Nat} {a1 : Int32} {a2 : Int32} {rv : Int32} {h' : mH} (hd : 4 ≤ d) (hr : f_X9_convert h a0 a1 a2 = some (rv, h')) : m_J X Y_X9_convert d 0 [some (.ref a0), some (.int a1), some (.int a2), none] [] h (some (.int rv), h') := by
  obtain ⟨d, rfl⟩ : ∃ k, d = k + 1 := ⟨d - 1, by omega⟩
  unfold f_X9_convert at hr
  refine j_aload_n (i := 0) rfl rfl dX9_convert_0 ?_
  replace hr := m_bind hr; obtain ⟨q1, g2, hr⟩ := hr
  refine j_getf (C := RX9) (T := TX9) (N := 8) (ci := 8) (k := 0) rfl (by decide) inX9 tw_1_130 dX9_convert_1 (m_gr_spec g2) ?_
  refine j_iload_n (i := 1) rfl rfl dX9_convert_4 ?_
  replace hr := m_bind hr; obtain ⟨b3, g4, hr⟩ := hr
  subst g4
  by_cases o81 : m_ob h b3 7 = true
  · rw [if_pos o81] at hr
    replace hr := m_bind hr; obtain ⟨r6, g5, hr⟩ := hr
    refine j_callV (Y' := Y_X8_at) (a := b3) (as := [.int a1]) (ci := 7) (T := TX8) (N := 3) ok_X8_at [some (.ref b3), some (.int a1)] rfl rfl rfl tw_2_35 tw_2_36 tw_2_37 nn_X8_at (Nat.le_of_ble_eq_true rfl) dX9_convert_5 o81 (j_X8_at g5) ?_
    refine j_astoreq_n (q := r6) (i := 3) (L' := [some (.ref a0), some (.int a1), some (.int a2), some (va_rf r6)]) rfl (Nat.le_of_ble_eq_true rfl) rfl rfl dX9_convert_8 ?_
    refine j_aloadq_n (q := r6) (i := 3) rfl rfl dX9_convert_9 ?_
    cases r6 with
    | none =>
      dsimp only at hr
      refine j_ifnull_n (tgt := 46) dX9_convert_10 rfl ?_
      refine j_iconst (v := 0) rfl dX9_convert_46 ?_
      cases hr
      exact j_ret dX9_convert_47 m_rk_z0
    | some b7 =>
      dsimp only at hr
      refine j_ifnull_r dX9_convert_10 ?_
      refine j_aload_n (i := 3) rfl rfl dX9_convert_13 ?_
      by_cases o80 : m_ob h b7 6 = true
      · rw [if_pos o80] at hr
        replace hr := m_bind hr; obtain ⟨r9, g8, hr⟩ := hr
        refine j_callV (Y' := Y_X7_isLent) (a := b7) (as := []) (ci := 6) (T := TX7) (N := 11) ok_X7_isLent [some (.ref b7)] rfl rfl rfl tw_2_47 tw_2_48 tw_2_49 nn_X7_isLent (Nat.le_of_ble_eq_true rfl) dX9_convert_14 o80 (j_X7_isLent g8) ?_
        refine j_if_ne (tgt := 46) dX9_convert_17 rfl (fun c10 => ?_) (fun c10 => ?_)
        · rw [if_neg c10] at hr
          refine j_iconst (v := 0) rfl dX9_convert_46 ?_
          cases hr
          exact j_ret dX9_convert_47 m_rk_z0
        · rw [if_pos c10] at hr
          refine j_iload_n (i := 2) rfl rfl dX9_convert_20 ?_
          replace hr := m_bind hr; obtain ⟨r12, g11, hr⟩ := hr
          refine j_callS (Y' := Y_X1_isConcrete) (as := [.int a2]) ok_X1_isConcrete [some (.int a2)] rfl rfl tw_1_159 tw_1_160 nn_X1_isConcrete (Nat.le_of_ble_eq_true rfl) dX9_convert_21 (j_X1_isConcrete (by omega) g11) ?_
          refine j_if_eq (tgt := 46) dX9_convert_24 rfl (fun c13 => ?_) (fun c13 => ?_)
          · rw [if_pos c13] at hr
            refine j_iconst (v := 0) rfl dX9_convert_46 ?_
            cases hr
            exact j_ret dX9_convert_47 m_rk_z0
          · rw [if_neg c13] at hr
            refine j_iload_n (i := 2) rfl rfl dX9_convert_27 ?_
            refine j_aload_n (i := 3) rfl rfl dX9_convert_28 ?_
            replace hr := m_bind hr; obtain ⟨x14, g15, hr⟩ := hr
            refine j_getf (C := RX7) (T := TX7) (N := 11) (ci := 6) (k := 3) rfl (by decide) inX7 tw_1_195 dX9_convert_29 (m_gi_spec g15) ?_
            refine j_ic_eq (tgt := 46) dX9_convert_32 rfl (fun c16 => ?_) (fun c16 => ?_)
            · rw [if_pos c16] at hr
              refine j_iconst (v := 0) rfl dX9_convert_46 ?_
              cases hr
              exact j_ret dX9_convert_47 m_rk_z0
            · rw [if_neg c16] at hr
              refine j_aload_n (i := 3) rfl rfl dX9_convert_35 ?_
              replace hr := m_bind hr; obtain ⟨x17, g18, hr⟩ := hr
              refine j_getf (C := RX7) (T := TX7) (N := 11) (ci := 6) (k := 3) rfl (by decide) inX7 tw_1_195 dX9_convert_36 (m_gi_spec g18) ?_
              refine j_iload_n (i := 2) rfl rfl dX9_convert_39 ?_
              replace hr := m_bind hr; obtain ⟨r20, g19, hr⟩ := hr
              refine j_callS (Y' := Y_X1_mayTurnInto) (as := [.int x17, .int a2]) ok_X1_mayTurnInto [some (.int x17), some (.int a2)] rfl rfl tw_3_110 tw_3_111 nn_X1_mayTurnInto (Nat.le_of_ble_eq_true rfl) dX9_convert_40 (j_X1_mayTurnInto (by omega) g19) ?_
              refine j_if_ne (tgt := 48) dX9_convert_43 rfl (fun c21 => ?_) (fun c21 => ?_)
              · rw [if_neg c21] at hr
                refine j_aload_n (i := 3) rfl rfl dX9_convert_48 ?_
                refine j_iload_n (i := 2) rfl rfl dX9_convert_49 ?_
                replace hr := m_bind hr; obtain ⟨h22, g23, hr⟩ := hr
                refine j_puti (C := RX7) (T := TX7) (ty := tyX7) (N := 11) (ci := 6) (k := 3) rfl (by decide) inX7 tyX7_ok nmX7 tw_1_195 rfl rfl dX9_convert_50 g23 ?_
                refine j_aload_n (i := 3) rfl rfl dX9_convert_53 ?_
                replace hr := m_bind hr; obtain ⟨q24, g25, hr⟩ := hr
                refine j_getf (C := RX7) (T := TX7) (N := 11) (ci := 6) (k := 4) rfl (by decide) inX7 tw_1_199 dX9_convert_54 (m_gr_spec g25) ?_
                cases q24 with
                | none =>
                  dsimp only at hr
                  refine j_ifnull_n (tgt := 78) dX9_convert_57 rfl ?_
                  refine j_aload_n (i := 3) rfl rfl dX9_convert_78 ?_
                  replace hr := m_bind hr; obtain ⟨q27, g28, hr⟩ := hr
                  refine j_getf (C := RX7) (T := TX7) (N := 11) (ci := 6) (k := 6) rfl (by decide) inX7 tw_1_204 dX9_convert_79 (m_gr_spec g28) ?_
                  cases q27 with
                  | none =>
                    dsimp only at hr
                    refine j_ifnull_n (tgt := 104) dX9_convert_82 rfl ?_
                    refine j_iconst (v := 1) rfl dX9_convert_104 ?_
                    cases hr
                    exact j_ret dX9_convert_105 m_rk_z1
                  | some b29 =>
                    dsimp only at hr
                    refine j_ifnull_r dX9_convert_82 ?_
                    refine j_iload_n (i := 2) rfl rfl dX9_convert_85 ?_
                    refine j_aload_n (i := 3) rfl rfl dX9_convert_86 ?_
                    replace hr := m_bind hr; obtain ⟨q30, g31, hr⟩ := hr
                    refine j_getf (C := RX7) (T := TX7) (N := 11) (ci := 6) (k := 6) rfl (by decide) inX7 tw_1_204 dX9_convert_87 (m_gr_spec g31) ?_
                    replace hr := m_bind hr; obtain ⟨b32, g33, hr⟩ := hr
                    subst g33
                    replace hr := m_bind hr; obtain ⟨x34, g35, hr⟩ := hr
                    refine j_getf (C := RX6) (T := TX6) (N := 5) (ci := 5) (k := 1) rfl (by decide) inX6 tw_1_53 dX9_convert_90 (m_gi_spec g35) ?_
                    replace hr := m_bind hr; obtain ⟨r37, g36, hr⟩ := hr
                    refine j_callS (Y' := Y_X1_standsUnder) (as := [.int a2, .int x34]) ok_X1_standsUnder [some (.int a2), some (.int x34)] rfl rfl tw_2_51 tw_2_52 nn_X1_standsUnder (Nat.le_of_ble_eq_true rfl) dX9_convert_93 (j_X1_standsUnder (by omega) g36) ?_
                    refine j_if_ne (tgt := 104) dX9_convert_96 rfl (fun c38 => ?_) (fun c38 => ?_)
                    · rw [if_neg c38] at hr
                      refine j_iconst (v := 1) rfl dX9_convert_104 ?_
                      cases hr
                      exact j_ret dX9_convert_105 m_rk_z1
                    · rw [if_pos c38] at hr
                      refine j_aload_n (i := 3) rfl rfl dX9_convert_99 ?_
                      replace hr := m_bind hr; obtain ⟨p40, g39, hr⟩ := hr
                      refine j_callS (Y' := Y_X9_leaveShelf) (as := [.ref b7]) ok_X9_leaveShelf [some (.ref b7)] rfl rfl tw_3_115 tw_3_116 nn_X9_leaveShelf (Nat.le_of_ble_eq_true rfl) dX9_convert_100 (j_X9_leaveShelf (by omega) g39) ?_
                      refine j_pop rfl dX9_convert_103 ?_
                      refine j_iconst (v := 1) rfl dX9_convert_104 ?_
                      cases hr
                      exact j_ret dX9_convert_105 m_rk_z1
                | some b26 =>
                  dsimp only at hr
                  refine j_ifnull_r dX9_convert_57 ?_
                  refine j_iload_n (i := 2) rfl rfl dX9_convert_60 ?_
                  refine j_aload_n (i := 3) rfl rfl dX9_convert_61 ?_
                  replace hr := m_bind hr; obtain ⟨q41, g42, hr⟩ := hr
                  refine j_getf (C := RX7) (T := TX7) (N := 11) (ci := 6) (k := 4) rfl (by decide) inX7 tw_1_199 dX9_convert_62 (m_gr_spec g42) ?_
                  replace hr := m_bind hr; obtain ⟨b43, g44, hr⟩ := hr
                  subst g44
                  replace hr := m_bind hr; obtain ⟨x45, g46, hr⟩ := hr
                  refine j_getf (C := RX0) (T := TX0) (N := 3) (ci := 0) (k := 1) rfl (by decide) inX0 tw_2_17 dX9_convert_65 (m_gi_spec g46) ?_
                  replace hr := m_bind hr; obtain ⟨r48, g47, hr⟩ := hr
                  refine j_callS (Y' := Y_X1_standsUnder) (as := [.int a2, .int x45]) ok_X1_standsUnder [some (.int a2), some (.int x45)] rfl rfl tw_2_51 tw_2_52 nn_X1_standsUnder (Nat.le_of_ble_eq_true rfl) dX9_convert_68 (j_X1_standsUnder (by omega) g47) ?_
                  refine j_if_ne (tgt := 78) dX9_convert_71 rfl (fun c49 => ?_) (fun c49 => ?_)
                  · rw [if_neg c49] at hr
                    refine j_aload_n (i := 3) rfl rfl dX9_convert_78 ?_
                    replace hr := m_bind hr; obtain ⟨q50, g51, hr⟩ := hr
                    refine j_getf (C := RX7) (T := TX7) (N := 11) (ci := 6) (k := 6) rfl (by decide) inX7 tw_1_204 dX9_convert_79 (m_gr_spec g51) ?_
                    cases q50 with
                    | none =>
                      dsimp only at hr
                      refine j_ifnull_n (tgt := 104) dX9_convert_82 rfl ?_
                      refine j_iconst (v := 1) rfl dX9_convert_104 ?_
                      cases hr
                      exact j_ret dX9_convert_105 m_rk_z1
                    | some b52 =>
                      dsimp only at hr
                      refine j_ifnull_r dX9_convert_82 ?_
                      refine j_iload_n (i := 2) rfl rfl dX9_convert_85 ?_
                      refine j_aload_n (i := 3) rfl rfl dX9_convert_86 ?_
                      replace hr := m_bind hr; obtain ⟨q53, g54, hr⟩ := hr
                      refine j_getf (C := RX7) (T := TX7) (N := 11) (ci := 6) (k := 6) rfl (by decide) inX7 tw_1_204 dX9_convert_87 (m_gr_spec g54) ?_
                      replace hr := m_bind hr; obtain ⟨b55, g56, hr⟩ := hr
                      subst g56
                      replace hr := m_bind hr; obtain ⟨x57, g58, hr⟩ := hr
                      refine j_getf (C := RX6) (T := TX6) (N := 5) (ci := 5) (k := 1) rfl (by decide) inX6 tw_1_53 dX9_convert_90 (m_gi_spec g58) ?_
                      replace hr := m_bind hr; obtain ⟨r60, g59, hr⟩ := hr
                      refine j_callS (Y' := Y_X1_standsUnder) (as := [.int a2, .int x57]) ok_X1_standsUnder [some (.int a2), some (.int x57)] rfl rfl tw_2_51 tw_2_52 nn_X1_standsUnder (Nat.le_of_ble_eq_true rfl) dX9_convert_93 (j_X1_standsUnder (by omega) g59) ?_
                      refine j_if_ne (tgt := 104) dX9_convert_96 rfl (fun c61 => ?_) (fun c61 => ?_)
                      · rw [if_neg c61] at hr
                        refine j_iconst (v := 1) rfl dX9_convert_104 ?_
                        cases hr
                        exact j_ret dX9_convert_105 m_rk_z1
                      · rw [if_pos c61] at hr
                        refine j_aload_n (i := 3) rfl rfl dX9_convert_99 ?_
                        replace hr := m_bind hr; obtain ⟨p63, g62, hr⟩ := hr
                        refine j_callS (Y' := Y_X9_leaveShelf) (as := [.ref b7]) ok_X9_leaveShelf [some (.ref b7)] rfl rfl tw_3_115 tw_3_116 nn_X9_leaveShelf (Nat.le_of_ble_eq_true rfl) dX9_convert_100 (j_X9_leaveShelf (by omega) g62) ?_
                        refine j_pop rfl dX9_convert_103 ?_
                        refine j_iconst (v := 1) rfl dX9_convert_104 ?_
                        cases hr
                        exact j_ret dX9_convert_105 m_rk_z1
                  · rw [if_pos c49] at hr
                    refine j_aload_n (i := 3) rfl rfl dX9_convert_74 ?_
                    replace hr := m_bind hr; obtain ⟨h65, g64, hr⟩ := hr
                    refine j_callS (Y' := Y_X9_leavePlace) (as := [.ref b7]) ok_X9_leavePlace [some (.ref b7)] rfl rfl tw_2_69 tw_2_70 nn_X9_leavePlace (Nat.le_of_ble_eq_true rfl) dX9_convert_75 (j_X9_leavePlace (by omega) g64) ?_
                    refine j_aload_n (i := 3) rfl rfl dX9_convert_78 ?_
                    replace hr := m_bind hr; obtain ⟨q66, g67, hr⟩ := hr
                    refine j_getf (C := RX7) (T := TX7) (N := 11) (ci := 6) (k := 6) rfl (by decide) inX7 tw_1_204 dX9_convert_79 (m_gr_spec g67) ?_
                    cases q66 with
                    | none =>
                      dsimp only at hr
                      refine j_ifnull_n (tgt := 104) dX9_convert_82 rfl ?_
                      refine j_iconst (v := 1) rfl dX9_convert_104 ?_
                      cases hr
                      exact j_ret dX9_convert_105 m_rk_z1
                    | some b68 =>
                      dsimp only at hr
                      refine j_ifnull_r dX9_convert_82 ?_
                      refine j_iload_n (i := 2) rfl rfl dX9_convert_85 ?_
                      refine j_aload_n (i := 3) rfl rfl dX9_convert_86 ?_
                      replace hr := m_bind hr; obtain ⟨q69, g70, hr⟩ := hr
                      refine j_getf (C := RX7) (T := TX7) (N := 11) (ci := 6) (k := 6) rfl (by decide) inX7 tw_1_204 dX9_convert_87 (m_gr_spec g70) ?_
                      replace hr := m_bind hr; obtain ⟨b71, g72, hr⟩ := hr
                      subst g72
                      replace hr := m_bind hr; obtain ⟨x73, g74, hr⟩ := hr
                      refine j_getf (C := RX6) (T := TX6) (N := 5) (ci := 5) (k := 1) rfl (by decide) inX6 tw_1_53 dX9_convert_90 (m_gi_spec g74) ?_
                      replace hr := m_bind hr; obtain ⟨r76, g75, hr⟩ := hr
                      refine j_callS (Y' := Y_X1_standsUnder) (as := [.int a2, .int x73]) ok_X1_standsUnder [some (.int a2), some (.int x73)] rfl rfl tw_2_51 tw_2_52 nn_X1_standsUnder (Nat.le_of_ble_eq_true rfl) dX9_convert_93 (j_X1_standsUnder (by omega) g75) ?_
                      refine j_if_ne (tgt := 104) dX9_convert_96 rfl (fun c77 => ?_) (fun c77 => ?_)
                      · rw [if_neg c77] at hr
                        refine j_iconst (v := 1) rfl dX9_convert_104 ?_
                        cases hr
                        exact j_ret dX9_convert_105 m_rk_z1
                      · rw [if_pos c77] at hr
                        refine j_aload_n (i := 3) rfl rfl dX9_convert_99 ?_
                        replace hr := m_bind hr; obtain ⟨p79, g78, hr⟩ := hr
                        refine j_callS (Y' := Y_X9_leaveShelf) (as := [.ref b7]) ok_X9_leaveShelf [some (.ref b7)] rfl rfl tw_3_115 tw_3_116 nn_X9_leaveShelf (Nat.le_of_ble_eq_true rfl) dX9_convert_100 (j_X9_leaveShelf (by omega) g78) ?_
                        refine j_pop rfl dX9_convert_103 ?_
                        refine j_iconst (v := 1) rfl dX9_convert_104 ?_
                        cases hr
                        exact j_ret dX9_convert_105 m_rk_z1
              · rw [if_pos c21] at hr
                refine j_iconst (v := 0) rfl dX9_convert_46 ?_
                cases hr
                exact j_ret dX9_convert_47 m_rk_z0
      · rw [if_neg o80] at hr
        cases hr
  · rw [if_neg o81] at hr
    cases hr
def f_X9_find (h : mH) (a0 : Nat) (a1 : Int32) (a2 : Int32) (a3 : Int32) : Option (Int32) :=
  (f_X1_isKindOrTrait a1).bind fun r2 =>
  if r2 = 0 then
    some ((-1))
  else
    (m_gr h a0 8 0).bind fun q4 =>
    (q4).bind fun b6 =>
    if m_ob h b6 7 = true then
      (f_X8_countOf h b6 a1 a2 a3).bind fun r9 =>
      some r9
    else none
def Y_X9_find : mY := (yX9_find, cX9_find, 4, some (FieldType.int), .ireturn)
theorem ok_X9_find : m_Ok Y_X9_find := ⟨by decide +kernel, ⟨by decide +kernel, by decide +kernel⟩, tw_3_125, tw_1_1, by decide, Or.inr (Or.inl ⟨Or.inl rfl, rfl⟩)⟩
theorem nn_X9_find : (parseMethodDescriptor Y_X9_find.1.desc).map (fun q => q.parameters.length) = some 3 := by decide +kernel
set_option maxHeartbeats 4000000 in
set_option maxRecDepth 20000 in
theorem j_X9_find {X : mX} {d : Nat} {h : mH} {a0 : Nat} {a1 : Int32} {a2 : Int32} {a3 : Int32} {rv : Int32} (hd : 4 ≤ d) (hr : f_X9_find h a0 a1 a2 a3 = some rv) : m_J X Y_X9_find d 0 [some (.ref a0), some (.int a1), some (.int a2), some (.int a3)] [] h (some (.int rv), h) := by
  obtain ⟨d, rfl⟩ : ∃ k, d = k + 1 := ⟨d - 1, by omega⟩
  unfold f_X9_find at hr
  refine j_iload_n (i := 1) rfl rfl dX9_find_0 ?_
  replace hr := m_bind hr; obtain ⟨r2, g1, hr⟩ := hr
  refine j_callS (Y' := Y_X1_isKindOrTrait) (as := [.int a1]) ok_X1_isKindOrTrait [some (.int a1)] rfl rfl tw_3_126 tw_2_55 nn_X1_isKindOrTrait (Nat.le_of_ble_eq_true rfl) dX9_find_1 (j_X1_isKindOrTrait (by omega) g1) ?_
  refine j_if_eq (tgt := 20) dX9_find_4 rfl (fun c3 => ?_) (fun c3 => ?_)
  · rw [if_pos c3] at hr
    refine j_iconst (v := (-1)) rfl dX9_find_20 ?_
    cases hr
    exact j_ret dX9_find_21 m_rk_i
  · rw [if_neg c3] at hr
    refine j_aload_n (i := 0) rfl rfl dX9_find_7 ?_
    replace hr := m_bind hr; obtain ⟨q4, g5, hr⟩ := hr
    refine j_getf (C := RX9) (T := TX9) (N := 8) (ci := 8) (k := 0) rfl (by decide) inX9 tw_1_130 dX9_find_8 (m_gr_spec g5) ?_
    refine j_iload_n (i := 1) rfl rfl dX9_find_11 ?_
    refine j_iload_n (i := 2) rfl rfl dX9_find_12 ?_
    refine j_iload_n (i := 3) rfl rfl dX9_find_13 ?_
    replace hr := m_bind hr; obtain ⟨b6, g7, hr⟩ := hr
    subst g7
    by_cases o10 : m_ob h b6 7 = true
    · rw [if_pos o10] at hr
      replace hr := m_bind hr; obtain ⟨r9, g8, hr⟩ := hr
      refine j_callV (Y' := Y_X8_countOf) (a := b6) (as := [.int a1, .int a2, .int a3]) (ci := 7) (T := TX8) (N := 3) ok_X8_countOf [some (.ref b6), some (.int a1), some (.int a2), some (.int a3), none, none, none] rfl rfl rfl tw_3_127 tw_3_128 tw_3_129 nn_X8_countOf (Nat.le_of_ble_eq_true rfl) dX9_find_14 o10 (j_X8_countOf (by omega) g8) ?_
      refine j_goto (tgt := 21) dX9_find_17 rfl ?_
      cases hr
      exact j_ret dX9_find_21 m_rk_i
    · rw [if_neg o10] at hr
      cases hr
def f_X9_nth (h : mH) (a0 : Nat) (a1 : Int32) (a2 : Int32) : Option (Int32) :=
  (f_X1_isKindOrTrait a1).bind fun r2 =>
  if r2 = 0 then
    some ((-1))
  else
    (m_gr h a0 8 0).bind fun q4 =>
    (q4).bind fun b6 =>
    if m_ob h b6 7 = true then
      (f_X8_numberOf h b6 a1 a2).bind fun r9 =>
      some r9
    else none
def Y_X9_nth : mY := (yX9_nth, cX9_nth, 3, some (FieldType.int), .ireturn)
theorem ok_X9_nth : m_Ok Y_X9_nth := ⟨by decide +kernel, ⟨by decide +kernel, by decide +kernel⟩, tw_3_135, tw_1_1, by decide, Or.inr (Or.inl ⟨Or.inl rfl, rfl⟩)⟩
theorem nn_X9_nth : (parseMethodDescriptor Y_X9_nth.1.desc).map (fun q => q.parameters.length) = some 2 := by decide +kernel
set_option maxHeartbeats 4000000 in
set_option maxRecDepth 20000 in
theorem j_X9_nth {X : mX} {d : Nat} {h : mH} {a0 : Nat} {a1 : Int32} {a2 : Int32} {rv : Int32} (hd : 4 ≤ d) (hr : f_X9_nth h a0 a1 a2 = some rv) : m_J X Y_X9_nth d 0 [some (.ref a0), some (.int a1), some (.int a2)] [] h (some (.int rv), h) := by
  obtain ⟨d, rfl⟩ : ∃ k, d = k + 1 := ⟨d - 1, by omega⟩
  unfold f_X9_nth at hr
  refine j_iload_n (i := 1) rfl rfl dX9_nth_0 ?_
  replace hr := m_bind hr; obtain ⟨r2, g1, hr⟩ := hr
  refine j_callS (Y' := Y_X1_isKindOrTrait) (as := [.int a1]) ok_X1_isKindOrTrait [some (.int a1)] rfl rfl tw_3_126 tw_2_55 nn_X1_isKindOrTrait (Nat.le_of_ble_eq_true rfl) dX9_nth_1 (j_X1_isKindOrTrait (by omega) g1) ?_
  refine j_if_eq (tgt := 19) dX9_nth_4 rfl (fun c3 => ?_) (fun c3 => ?_)
  · rw [if_pos c3] at hr
    refine j_iconst (v := (-1)) rfl dX9_nth_19 ?_
    cases hr
    exact j_ret dX9_nth_20 m_rk_i
  · rw [if_neg c3] at hr
    refine j_aload_n (i := 0) rfl rfl dX9_nth_7 ?_
    replace hr := m_bind hr; obtain ⟨q4, g5, hr⟩ := hr
    refine j_getf (C := RX9) (T := TX9) (N := 8) (ci := 8) (k := 0) rfl (by decide) inX9 tw_1_130 dX9_nth_8 (m_gr_spec g5) ?_
    refine j_iload_n (i := 1) rfl rfl dX9_nth_11 ?_
    refine j_iload_n (i := 2) rfl rfl dX9_nth_12 ?_
    replace hr := m_bind hr; obtain ⟨b6, g7, hr⟩ := hr
    subst g7
    by_cases o10 : m_ob h b6 7 = true
    · rw [if_pos o10] at hr
      replace hr := m_bind hr; obtain ⟨r9, g8, hr⟩ := hr
      refine j_callV (Y' := Y_X8_numberOf) (a := b6) (as := [.int a1, .int a2]) (ci := 7) (T := TX8) (N := 3) ok_X8_numberOf [some (.ref b6), some (.int a1), some (.int a2), none, none, none] rfl rfl rfl tw_3_136 tw_3_137 tw_3_138 nn_X8_numberOf (Nat.le_of_ble_eq_true rfl) dX9_nth_13 o10 (j_X8_numberOf (by omega) g8) ?_
      refine j_goto (tgt := 20) dX9_nth_16 rfl ?_
      cases hr
      exact j_ret dX9_nth_20 m_rk_i
    · rw [if_neg o10] at hr
      cases hr
def f_X9_shelfAt (h : mH) (a0 : Nat) (a1 : Int32) : Option (Option Nat) :=
  if a1 < 0 then
    some none
  else
    (m_gr h a0 8 2).bind fun q2 =>
    (q2).bind fun b4 =>
    (m_len h b4).bind fun x6 =>
    if x6 ≤ a1 then
      some none
    else
      (m_gr h a0 8 2).bind fun q9 =>
      (q9).bind fun b11 =>
      (m_ald h b11 a1).bind fun q13 =>
      some q13
def Y_X9_shelfAt : mY := (yX9_shelfAt, cX9_shelfAt, 2, some ((FieldType.object "SpecimenHall$Shelf")), .areturn)
theorem ok_X9_shelfAt : m_Ok Y_X9_shelfAt := ⟨by decide +kernel, ⟨by decide +kernel, by decide +kernel⟩, tw_3_147, tw_1_1, by decide, Or.inr (Or.inr (Or.inr ⟨⟨_, rfl⟩, rfl⟩))⟩
theorem nn_X9_shelfAt : (parseMethodDescriptor Y_X9_shelfAt.1.desc).map (fun q => q.parameters.length) = some 1 := by decide +kernel
set_option maxHeartbeats 4000000 in
set_option maxRecDepth 20000 in
theorem j_X9_shelfAt {X : mX} {d : Nat} {h : mH} {a0 : Nat} {a1 : Int32} {rv : Option Nat} (hr : f_X9_shelfAt h a0 a1 = some rv) : m_J X Y_X9_shelfAt d 0 [some (.ref a0), some (.int a1)] [] h (some (va_rf rv), h) := by
  unfold f_X9_shelfAt at hr
  refine j_iload_n (i := 1) rfl rfl dX9_shelfAt_0 ?_
  refine j_if_lt (tgt := 22) dX9_shelfAt_1 rfl (fun c1 => ?_) (fun c1 => ?_)
  · rw [if_pos c1] at hr
    refine j_null dX9_shelfAt_22 ?_
    cases hr
    exact j_ret dX9_shelfAt_23 (m_rk_r _)
  · rw [if_neg c1] at hr
    refine j_iload_n (i := 1) rfl rfl dX9_shelfAt_4 ?_
    refine j_aload_n (i := 0) rfl rfl dX9_shelfAt_5 ?_
    replace hr := m_bind hr; obtain ⟨q2, g3, hr⟩ := hr
    refine j_getf (C := RX9) (T := TX9) (N := 8) (ci := 8) (k := 2) rfl (by decide) inX9 tw_1_132 dX9_shelfAt_6 (m_gr_spec g3) ?_
    replace hr := m_bind hr; obtain ⟨b4, g5, hr⟩ := hr
    subst g5
    replace hr := m_bind hr; obtain ⟨x6, g7, hr⟩ := hr
    refine j_alen dX9_shelfAt_9 g7 ?_
    refine j_ic_ge (tgt := 22) dX9_shelfAt_10 rfl (fun c8 => ?_) (fun c8 => ?_)
    · rw [if_pos c8] at hr
      refine j_null dX9_shelfAt_22 ?_
      cases hr
      exact j_ret dX9_shelfAt_23 (m_rk_r _)
    · rw [if_neg c8] at hr
      refine j_aload_n (i := 0) rfl rfl dX9_shelfAt_13 ?_
      replace hr := m_bind hr; obtain ⟨q9, g10, hr⟩ := hr
      refine j_getf (C := RX9) (T := TX9) (N := 8) (ci := 8) (k := 2) rfl (by decide) inX9 tw_1_132 dX9_shelfAt_14 (m_gr_spec g10) ?_
      refine j_iload_n (i := 1) rfl rfl dX9_shelfAt_17 ?_
      replace hr := m_bind hr; obtain ⟨b11, g12, hr⟩ := hr
      subst g12
      replace hr := m_bind hr; obtain ⟨q13, g14, hr⟩ := hr
      refine j_aaload dX9_shelfAt_18 g14 ?_
      refine j_goto (tgt := 23) dX9_shelfAt_19 rfl ?_
      cases hr
      exact j_ret dX9_shelfAt_23 (m_rk_r _)
def f_X9_shelf (h : mH) (a0 : Nat) (a1 : Int32) (a2 : Int32) (a3 : Int32) : Option (Int32 × mH) :=
  if m_ob h a0 8 = true then
    (f_X9_shelfAt h a0 a1).bind fun r2 =>
    match r2 with
    | none =>
      some ((0, h))
    | some b3 =>
      (m_gi h b3 5 3).bind fun x4 =>
      if 0 < x4 then
        some ((0, h))
      else
        (f_X1_isKind a2).bind fun r8 =>
        if r8 = 0 then
          some ((0, h))
        else
          if a3 < 0 then
            some ((0, h))
          else
            if a3 ≤ 1000000 then
              (m_pf h b3 5 1 (.int a2)).bind fun h12 =>
              (m_pf h12 b3 5 2 (.int a3)).bind fun h14 =>
              some ((1, h14))
            else
              some ((0, h))
  else none
def Y_X9_shelf : mY := (yX9_shelf, cX9_shelf, 5, some (FieldType.boolean), .ireturn)
theorem ok_X9_shelf : m_Ok Y_X9_shelf := ⟨by decide +kernel, ⟨by decide +kernel, by decide +kernel⟩, tw_3_143, tw_1_1, by decide, Or.inr (Or.inl ⟨Or.inr rfl, rfl⟩)⟩
theorem nn_X9_shelf : (parseMethodDescriptor Y_X9_shelf.1.desc).map (fun q => q.parameters.length) = some 3 := by decide +kernel
set_option maxHeartbeats 4000000 in
set_option maxRecDepth 20000 in
theorem j_X9_shelf {X : mX} {d : Nat} {h : mH} {a0 : Nat} {a1 : Int32} {a2 : Int32} {a3 : Int32} {rv : Int32} {h' : mH} (hd : 1 ≤ d) (hr : f_X9_shelf h a0 a1 a2 a3 = some (rv, h')) : m_J X Y_X9_shelf d 0 [some (.ref a0), some (.int a1), some (.int a2), some (.int a3), none] [] h (some (.int rv), h') := by
  obtain ⟨d, rfl⟩ : ∃ k, d = k + 1 := ⟨d - 1, by omega⟩
  unfold f_X9_shelf at hr
  refine j_aload_n (i := 0) rfl rfl dX9_shelf_0 ?_
  refine j_iload_n (i := 1) rfl rfl dX9_shelf_1 ?_
  by_cases o16 : m_ob h a0 8 = true
  · rw [if_pos o16] at hr
    replace hr := m_bind hr; obtain ⟨r2, g1, hr⟩ := hr
    refine j_callV (Y' := Y_X9_shelfAt) (a := a0) (as := [.int a1]) (ci := 8) (T := TX9) (N := 8) ok_X9_shelfAt [some (.ref a0), some (.int a1)] rfl rfl rfl tw_3_144 tw_3_146 tw_p_10 nn_X9_shelfAt (Nat.le_of_ble_eq_true rfl) dX9_shelf_2 o16 (j_X9_shelfAt g1) ?_
    refine j_astoreq (q := r2) (i := 4) (L' := [some (.ref a0), some (.int a1), some (.int a2), some (.int a3), some (va_rf r2)]) (Nat.le_of_ble_eq_true rfl) rfl rfl dX9_shelf_5 ?_
    refine j_aloadq (q := r2) (i := 4) rfl dX9_shelf_7 ?_
    cases r2 with
    | none =>
      dsimp only at hr
      refine j_ifnull_n (tgt := 38) dX9_shelf_9 rfl ?_
      refine j_iconst (v := 0) rfl dX9_shelf_38 ?_
      cases hr
      exact j_ret dX9_shelf_39 m_rk_z0
    | some b3 =>
      dsimp only at hr
      refine j_ifnull_r dX9_shelf_9 ?_
      refine j_aload (i := 4) rfl dX9_shelf_12 ?_
      replace hr := m_bind hr; obtain ⟨x4, g5, hr⟩ := hr
      refine j_getf (C := RX6) (T := TX6) (N := 5) (ci := 5) (k := 3) rfl (by decide) inX6 tw_1_57 dX9_shelf_14 (m_gi_spec g5) ?_
      refine j_if_gt (tgt := 38) dX9_shelf_17 rfl (fun c6 => ?_) (fun c6 => ?_)
      · rw [if_pos c6] at hr
        refine j_iconst (v := 0) rfl dX9_shelf_38 ?_
        cases hr
        exact j_ret dX9_shelf_39 m_rk_z0
      · rw [if_neg c6] at hr
        refine j_iload_n (i := 2) rfl rfl dX9_shelf_20 ?_
        replace hr := m_bind hr; obtain ⟨r8, g7, hr⟩ := hr
        refine j_callS (Y' := Y_X1_isKind) (as := [.int a2]) ok_X1_isKind [some (.int a2)] rfl rfl tw_2_4 tw_1_163 nn_X1_isKind (Nat.le_of_ble_eq_true rfl) dX9_shelf_21 (j_X1_isKind g7) ?_
        refine j_if_eq (tgt := 38) dX9_shelf_24 rfl (fun c9 => ?_) (fun c9 => ?_)
        · rw [if_pos c9] at hr
          refine j_iconst (v := 0) rfl dX9_shelf_38 ?_
          cases hr
          exact j_ret dX9_shelf_39 m_rk_z0
        · rw [if_neg c9] at hr
          refine j_iload_n (i := 3) rfl rfl dX9_shelf_27 ?_
          refine j_if_lt (tgt := 38) dX9_shelf_28 rfl (fun c10 => ?_) (fun c10 => ?_)
          · rw [if_pos c10] at hr
            refine j_iconst (v := 0) rfl dX9_shelf_38 ?_
            cases hr
            exact j_ret dX9_shelf_39 m_rk_z0
          · rw [if_neg c10] at hr
            refine j_iload_n (i := 3) rfl rfl dX9_shelf_31 ?_
            refine j_ldcw (v := 1000000) tw_3_148 dX9_shelf_32 ?_
            refine j_ic_le (tgt := 40) dX9_shelf_35 rfl (fun c11 => ?_) (fun c11 => ?_)
            · rw [if_pos c11] at hr
              refine j_aload (i := 4) rfl dX9_shelf_40 ?_
              refine j_iload_n (i := 2) rfl rfl dX9_shelf_42 ?_
              replace hr := m_bind hr; obtain ⟨h12, g13, hr⟩ := hr
              refine j_puti (C := RX6) (T := TX6) (ty := tyX6) (N := 5) (ci := 5) (k := 1) rfl (by decide) inX6 tyX6_ok nmX6 tw_1_53 rfl rfl dX9_shelf_43 g13 ?_
              refine j_aload (i := 4) rfl dX9_shelf_46 ?_
              refine j_iload_n (i := 3) rfl rfl dX9_shelf_48 ?_
              replace hr := m_bind hr; obtain ⟨h14, g15, hr⟩ := hr
              refine j_puti (C := RX6) (T := TX6) (ty := tyX6) (N := 5) (ci := 5) (k := 2) rfl (by decide) inX6 tyX6_ok nmX6 tw_1_55 rfl rfl dX9_shelf_49 g15 ?_
              refine j_iconst (v := 1) rfl dX9_shelf_52 ?_
              cases hr
              exact j_ret dX9_shelf_53 m_rk_z1
            · rw [if_neg c11] at hr
              refine j_iconst (v := 0) rfl dX9_shelf_38 ?_
              cases hr
              exact j_ret dX9_shelf_39 m_rk_z0
  · rw [if_neg o16] at hr
    cases hr
def f_X9_move (h : mH) (a0 : Nat) (a1 : Int32) (a2 : Int32) : Option (Int32 × mH) :=
  (m_gr h a0 8 0).bind fun q1 =>
  (q1).bind fun b3 =>
  if m_ob h b3 7 = true then
    (f_X8_at h b3 a1).bind fun r6 =>
    match r6 with
    | none =>
      some ((0, h))
    | some b7 =>
      if m_ob h b7 6 = true then
        (f_X7_isLent h b7).bind fun r9 =>
        if r9 = 0 then
          if a2 = ((-1)) then
            (f_X9_leaveShelf h ((some b7))).bind fun p38 =>
            if p38.1 = 0 then some ((0, p38.2))
            else if p38.1 = 1 then some ((1, p38.2)) else none
          else
            if m_ob h a0 8 = true then
              (f_X9_shelfAt h a0 a2).bind fun r13 =>
              match r13 with
              | none =>
                some ((0, h))
              | some b14 =>
                (m_gr h b7 6 6).bind fun q15 =>
                if (some b14) = q15 then
                  some ((0, h))
                else
                  if m_ob h b14 5 = true then
                    (f_X6_hasRoomFor h b14 ((some b7))).bind fun r19 =>
                    if r19 = 0 then
                      some ((0, h))
                    else
                      (m_gi h b7 6 3).bind fun x21 =>
                      (m_gi h b14 5 1).bind fun x23 =>
                      (f_X1_standsUnder x21 x23).bind fun r26 =>
                      if r26 = 0 then
                        some ((0, h))
                      else
                        (f_X9_leaveShelf h ((some b7))).bind fun p29 =>
                        if m_ob p29.2 b14 5 = true then
                          (f_X6_add p29.2 b14 ((some b7))).bind fun h31 =>
                          (m_pf h31 b7 6 6 (va_rf ((some b14)))).bind fun h32 =>
                          some ((1, h32))
                        else none
                  else none
            else none
        else
          some ((0, h))
      else none
  else none
def Y_X9_move : mY := (yX9_move, cX9_move, 5, some (FieldType.boolean), .ireturn)
theorem ok_X9_move : m_Ok Y_X9_move := ⟨by decide +kernel, ⟨by decide +kernel, by decide +kernel⟩, tw_3_152, tw_1_1, by decide, Or.inr (Or.inl ⟨Or.inr rfl, rfl⟩)⟩
theorem nn_X9_move : (parseMethodDescriptor Y_X9_move.1.desc).map (fun q => q.parameters.length) = some 2 := by decide +kernel
set_option maxHeartbeats 4000000 in
set_option maxRecDepth 20000 in
theorem j_X9_move {X : mX} {d : Nat} {h : mH} {a0 : Nat} {a1 : Int32} {a2 : Int32} {rv : Int32} {h' : mH} (hd : 3 ≤ d) (hr : f_X9_move h a0 a1 a2 = some (rv, h')) : m_J X Y_X9_move d 0 [some (.ref a0), some (.int a1), some (.int a2), none, none] [] h (some (.int rv), h') := by
  obtain ⟨d, rfl⟩ : ∃ k, d = k + 1 := ⟨d - 1, by omega⟩
  unfold f_X9_move at hr
  refine j_aload_n (i := 0) rfl rfl dX9_move_0 ?_
  replace hr := m_bind hr; obtain ⟨q1, g2, hr⟩ := hr
  refine j_getf (C := RX9) (T := TX9) (N := 8) (ci := 8) (k := 0) rfl (by decide) inX9 tw_1_130 dX9_move_1 (m_gr_spec g2) ?_
  refine j_iload_n (i := 1) rfl rfl dX9_move_4 ?_
  replace hr := m_bind hr; obtain ⟨b3, g4, hr⟩ := hr
  subst g4
  by_cases o42 : m_ob h b3 7 = true
  · rw [if_pos o42] at hr
    replace hr := m_bind hr; obtain ⟨r6, g5, hr⟩ := hr
    refine j_callV (Y' := Y_X8_at) (a := b3) (as := [.int a1]) (ci := 7) (T := TX8) (N := 3) ok_X8_at [some (.ref b3), some (.int a1)] rfl rfl rfl tw_2_35 tw_2_36 tw_2_37 nn_X8_at (Nat.le_of_ble_eq_true rfl) dX9_move_5 o42 (j_X8_at g5) ?_
    refine j_astoreq_n (q := r6) (i := 3) (L' := [some (.ref a0), some (.int a1), some (.int a2), some (va_rf r6), none]) rfl (Nat.le_of_ble_eq_true rfl) rfl rfl dX9_move_8 ?_
    refine j_aloadq_n (q := r6) (i := 3) rfl rfl dX9_move_9 ?_
    cases r6 with
    | none =>
      dsimp only at hr
      refine j_ifnull_n (tgt := 20) dX9_move_10 rfl ?_
      refine j_iconst (v := 0) rfl dX9_move_20 ?_
      cases hr
      exact j_ret dX9_move_21 m_rk_z0
    | some b7 =>
      dsimp only at hr
      refine j_ifnull_r dX9_move_10 ?_
      refine j_aload_n (i := 3) rfl rfl dX9_move_13 ?_
      by_cases o41 : m_ob h b7 6 = true
      · rw [if_pos o41] at hr
        replace hr := m_bind hr; obtain ⟨r9, g8, hr⟩ := hr
        refine j_callV (Y' := Y_X7_isLent) (a := b7) (as := []) (ci := 6) (T := TX7) (N := 11) ok_X7_isLent [some (.ref b7)] rfl rfl rfl tw_2_47 tw_2_48 tw_2_49 nn_X7_isLent (Nat.le_of_ble_eq_true rfl) dX9_move_14 o41 (j_X7_isLent g8) ?_
        refine j_if_eq (tgt := 22) dX9_move_17 rfl (fun c10 => ?_) (fun c10 => ?_)
        · rw [if_pos c10] at hr
          refine j_iload_n (i := 2) rfl rfl dX9_move_22 ?_
          refine j_iconst (v := (-1)) rfl dX9_move_23 ?_
          refine j_ic_ne (tgt := 32) dX9_move_24 rfl (fun c11 => ?_) (fun c11 => ?_)
          · rw [if_neg c11] at hr
            refine j_aload_n (i := 0) rfl rfl dX9_move_32 ?_
            refine j_iload_n (i := 2) rfl rfl dX9_move_33 ?_
            by_cases o36 : m_ob h a0 8 = true
            · rw [if_pos o36] at hr
              replace hr := m_bind hr; obtain ⟨r13, g12, hr⟩ := hr
              refine j_callV (Y' := Y_X9_shelfAt) (a := a0) (as := [.int a2]) (ci := 8) (T := TX9) (N := 8) ok_X9_shelfAt [some (.ref a0), some (.int a2)] rfl rfl rfl tw_3_144 tw_3_146 tw_p_10 nn_X9_shelfAt (Nat.le_of_ble_eq_true rfl) dX9_move_34 o36 (j_X9_shelfAt g12) ?_
              refine j_astoreq (q := r13) (i := 4) (L' := [some (.ref a0), some (.int a1), some (.int a2), some (.ref b7), some (va_rf r13)]) (Nat.le_of_ble_eq_true rfl) rfl rfl dX9_move_37 ?_
              refine j_aloadq (q := r13) (i := 4) rfl dX9_move_39 ?_
              cases r13 with
              | none =>
                dsimp only at hr
                refine j_ifnull_n (tgt := 77) dX9_move_41 rfl ?_
                refine j_iconst (v := 0) rfl dX9_move_77 ?_
                cases hr
                exact j_ret dX9_move_78 m_rk_z0
              | some b14 =>
                dsimp only at hr
                refine j_ifnull_r dX9_move_41 ?_
                refine j_aload (i := 4) rfl dX9_move_44 ?_
                refine j_aload_n (i := 3) rfl rfl dX9_move_46 ?_
                replace hr := m_bind hr; obtain ⟨q15, g16, hr⟩ := hr
                refine j_getf (C := RX7) (T := TX7) (N := 11) (ci := 6) (k := 6) rfl (by decide) inX7 tw_1_204 dX9_move_47 (m_gr_spec g16) ?_
                refine j_ac_eq (rx := (some b14)) (ry := q15) (tgt := 77) dX9_move_50 rfl (fun c17 => ?_) (fun c17 => ?_)
                · rw [if_pos c17] at hr
                  refine j_iconst (v := 0) rfl dX9_move_77 ?_
                  cases hr
                  exact j_ret dX9_move_78 m_rk_z0
                · rw [if_neg c17] at hr
                  refine j_aload (i := 4) rfl dX9_move_53 ?_
                  refine j_aload_n (i := 3) rfl rfl dX9_move_55 ?_
                  by_cases o35 : m_ob h b14 5 = true
                  · rw [if_pos o35] at hr
                    replace hr := m_bind hr; obtain ⟨r19, g18, hr⟩ := hr
                    refine j_callV (Y' := Y_X6_hasRoomFor) (a := b14) (as := [.ref b7]) (ci := 5) (T := TX6) (N := 5) ok_X6_hasRoomFor [some (.ref b14), some (.ref b7)] rfl rfl rfl tw_3_153 tw_3_154 tw_3_155 nn_X6_hasRoomFor (Nat.le_of_ble_eq_true rfl) dX9_move_56 o35 (j_X6_hasRoomFor g18) ?_
                    refine j_if_eq (tgt := 77) dX9_move_59 rfl (fun c20 => ?_) (fun c20 => ?_)
                    · rw [if_pos c20] at hr
                      refine j_iconst (v := 0) rfl dX9_move_77 ?_
                      cases hr
                      exact j_ret dX9_move_78 m_rk_z0
                    · rw [if_neg c20] at hr
                      refine j_aload_n (i := 3) rfl rfl dX9_move_62 ?_
                      replace hr := m_bind hr; obtain ⟨x21, g22, hr⟩ := hr
                      refine j_getf (C := RX7) (T := TX7) (N := 11) (ci := 6) (k := 3) rfl (by decide) inX7 tw_1_195 dX9_move_63 (m_gi_spec g22) ?_
                      refine j_aload (i := 4) rfl dX9_move_66 ?_
                      replace hr := m_bind hr; obtain ⟨x23, g24, hr⟩ := hr
                      refine j_getf (C := RX6) (T := TX6) (N := 5) (ci := 5) (k := 1) rfl (by decide) inX6 tw_1_53 dX9_move_68 (m_gi_spec g24) ?_
                      replace hr := m_bind hr; obtain ⟨r26, g25, hr⟩ := hr
                      refine j_callS (Y' := Y_X1_standsUnder) (as := [.int x21, .int x23]) ok_X1_standsUnder [some (.int x21), some (.int x23)] rfl rfl tw_2_51 tw_2_52 nn_X1_standsUnder (Nat.le_of_ble_eq_true rfl) dX9_move_71 (j_X1_standsUnder (by omega) g25) ?_
                      refine j_if_ne (tgt := 79) dX9_move_74 rfl (fun c27 => ?_) (fun c27 => ?_)
                      · rw [if_neg c27] at hr
                        refine j_aload_n (i := 3) rfl rfl dX9_move_79 ?_
                        replace hr := m_bind hr; obtain ⟨p29, g28, hr⟩ := hr
                        refine j_callS (Y' := Y_X9_leaveShelf) (as := [.ref b7]) ok_X9_leaveShelf [some (.ref b7)] rfl rfl tw_3_115 tw_3_116 nn_X9_leaveShelf (Nat.le_of_ble_eq_true rfl) dX9_move_80 (j_X9_leaveShelf (by omega) g28) ?_
                        refine j_pop rfl dX9_move_83 ?_
                        refine j_aload (i := 4) rfl dX9_move_84 ?_
                        refine j_aload_n (i := 3) rfl rfl dX9_move_86 ?_
                        by_cases o34 : m_ob p29.2 b14 5 = true
                        · rw [if_pos o34] at hr
                          replace hr := m_bind hr; obtain ⟨h31, g30, hr⟩ := hr
                          refine j_callV (Y' := Y_X6_add) (a := b14) (as := [.ref b7]) (ci := 5) (T := TX6) (N := 5) ok_X6_add [some (.ref b14), some (.ref b7)] rfl rfl rfl tw_3_157 tw_3_158 tw_3_159 nn_X6_add (Nat.le_of_ble_eq_true rfl) dX9_move_87 o34 (j_X6_add g30) ?_
                          refine j_aload_n (i := 3) rfl rfl dX9_move_90 ?_
                          refine j_aload (i := 4) rfl dX9_move_91 ?_
                          replace hr := m_bind hr; obtain ⟨h32, g33, hr⟩ := hr
                          refine j_putr (q := (some b14)) (C := RX7) (T := TX7) (ty := tyX7) (N := 11) (ci := 6) (k := 6) rfl (by decide) inX7 tyX7_ok nmX7 tw_1_204 rfl rfl dX9_move_93 g33 ?_
                          refine j_iconst (v := 1) rfl dX9_move_96 ?_
                          cases hr
                          exact j_ret dX9_move_97 m_rk_z1
                        · rw [if_neg o34] at hr
                          cases hr
                      · rw [if_pos c27] at hr
                        refine j_iconst (v := 0) rfl dX9_move_77 ?_
                        cases hr
                        exact j_ret dX9_move_78 m_rk_z0
                  · rw [if_neg o35] at hr
                    cases hr
            · rw [if_neg o36] at hr
              cases hr
          · rw [if_pos c11] at hr
            refine j_aload_n (i := 3) rfl rfl dX9_move_27 ?_
            replace hr := m_bind hr; obtain ⟨p38, g37, hr⟩ := hr
            refine j_callS (Y' := Y_X9_leaveShelf) (as := [.ref b7]) ok_X9_leaveShelf [some (.ref b7)] rfl rfl tw_3_115 tw_3_116 nn_X9_leaveShelf (Nat.le_of_ble_eq_true rfl) dX9_move_28 (j_X9_leaveShelf (by omega) g37) ?_
            by_cases c39 : p38.1 = 0
            · rw [if_pos c39] at hr
              rw [c39]
              cases hr
              exact j_ret dX9_move_31 m_rk_z0
            · rw [if_neg c39] at hr
              by_cases c40 : p38.1 = 1
              · rw [if_pos c40] at hr
                rw [c40]
                cases hr
                exact j_ret dX9_move_31 m_rk_z1
              · rw [if_neg c40] at hr
                cases hr
        · rw [if_neg c10] at hr
          refine j_iconst (v := 0) rfl dX9_move_20 ?_
          cases hr
          exact j_ret dX9_move_21 m_rk_z0
      · rw [if_neg o41] at hr
        cases hr
  · rw [if_neg o42] at hr
    cases hr
def w_X9_onShelves_4 (h : mH) (a0 : Nat) : (Int32 × Int32) → Option ((Int32 × Int32) ⊕ (Int32)) := fun s_1 =>
  if 10 ≤ s_1.2 then
    some (.inr s_1.1)
  else
    if m_ob h a0 8 = true then
      (f_X9_shelfAt h a0 s_1.2).bind fun r4 =>
      match r4 with
      | none =>
        some (.inl (s_1.1 + 0, s_1.2 + 1))
      | some b5 =>
        (m_gi h b5 5 3).bind fun x6 =>
        some (.inl (s_1.1 + x6, s_1.2 + 1))
    else none
def f_X9_onShelves (h : mH) (a0 : Nat) : Option (Int32) :=
  (m_loop (w_X9_onShelves_4 h a0) 5000 ((0, 0))).bind fun e9 =>
  some e9
def Y_X9_onShelves : mY := (yX9_onShelves, cX9_onShelves, 4, some (FieldType.int), .ireturn)
theorem ok_X9_onShelves : m_Ok Y_X9_onShelves := ⟨by decide +kernel, ⟨by decide +kernel, by decide +kernel⟩, tw_3_182, tw_1_1, by decide, Or.inr (Or.inl ⟨Or.inl rfl, rfl⟩)⟩
theorem nn_X9_onShelves : (parseMethodDescriptor Y_X9_onShelves.1.desc).map (fun q => q.parameters.length) = some 0 := by decide +kernel
set_option maxHeartbeats 4000000 in
set_option maxRecDepth 20000 in
theorem j_X9_onShelves {X : mX} {d : Nat} {h : mH} {a0 : Nat} {rv : Int32} (hd : 1 ≤ d) (hr : f_X9_onShelves h a0 = some rv) : m_J X Y_X9_onShelves d 0 [some (.ref a0), none, none, none] [] h (some (.int rv), h) := by
  obtain ⟨d, rfl⟩ : ∃ k, d = k + 1 := ⟨d - 1, by omega⟩
  unfold f_X9_onShelves at hr
  refine j_iconst (v := 0) rfl dX9_onShelves_0 ?_
  refine j_istore_n (i := 1) (L' := [some (.ref a0), some (.int 0), none, none]) rfl (Nat.le_of_ble_eq_true rfl) rfl rfl dX9_onShelves_1 ?_
  refine j_iconst (v := 0) rfl dX9_onShelves_2 ?_
  refine j_istore_n (i := 2) (L' := [some (.ref a0), some (.int 0), some (.int 0), none]) rfl (Nat.le_of_ble_eq_true rfl) rfl rfl dX9_onShelves_3 ?_
  replace hr := m_bind hr; obtain ⟨e9, q12, hr⟩ := hr
  refine j_weak (L' := [some (.ref a0), some (.int 0), some (.int 0), none]) (And.intro rfl (And.intro rfl (And.intro rfl trivial))) ?_
  refine m_loop_sound (step := w_X9_onShelves_4 h a0) (P := fun s_1 => m_J X Y_X9_onShelves (d + 1) 4 [some (.ref a0), some (.int s_1.1), some (.int s_1.2), none] [] h (some (.int rv), h)) (Qe := fun e9 => m_J X Y_X9_onShelves (d + 1) 37 [none, some (.int e9), none, none] [] h (some (.int rv), h)) ?_ _ _ _ q12 ?_
  · intro s_1 o hr hk
    unfold w_X9_onShelves_4 at hr
    refine j_iload_n (i := 2) rfl rfl dX9_onShelves_4 ?_
    refine j_bipush (v := 10) rfl dX9_onShelves_5 ?_
    refine j_ic_ge (tgt := 37) dX9_onShelves_7 rfl (fun c2 => ?_) (fun c2 => ?_)
    · rw [if_pos c2] at hr
      cases hr
      exact j_weak (L' := [none, some (.int s_1.1), none, none]) (And.intro rfl trivial) hk
    · rw [if_neg c2] at hr
      refine j_aload_n (i := 0) rfl rfl dX9_onShelves_10 ?_
      refine j_iload_n (i := 2) rfl rfl dX9_onShelves_11 ?_
      by_cases o8 : m_ob h a0 8 = true
      · rw [if_pos o8] at hr
        replace hr := m_bind hr; obtain ⟨r4, g3, hr⟩ := hr
        refine j_callV (Y' := Y_X9_shelfAt) (a := a0) (as := [.int s_1.2]) (ci := 8) (T := TX9) (N := 8) ok_X9_shelfAt [some (.ref a0), some (.int s_1.2)] rfl rfl rfl tw_3_144 tw_3_146 tw_p_10 nn_X9_shelfAt (Nat.le_of_ble_eq_true rfl) dX9_onShelves_12 o8 (j_X9_shelfAt g3) ?_
        refine j_astoreq_n (q := r4) (i := 3) (L' := [some (.ref a0), some (.int s_1.1), some (.int s_1.2), some (va_rf r4)]) rfl (Nat.le_of_ble_eq_true rfl) rfl rfl dX9_onShelves_15 ?_
        refine j_iload_n (i := 1) rfl rfl dX9_onShelves_16 ?_
        refine j_aloadq_n (q := r4) (i := 3) rfl rfl dX9_onShelves_17 ?_
        cases r4 with
        | none =>
          dsimp only at hr
          refine j_ifnonnull_n dX9_onShelves_18 ?_
          refine j_iconst (v := 0) rfl dX9_onShelves_21 ?_
          refine j_goto (tgt := 29) dX9_onShelves_22 rfl ?_
          refine j_iadd dX9_onShelves_29 ?_
          refine j_istore_n (i := 1) (L' := [some (.ref a0), some (.int (s_1.1 + 0)), some (.int s_1.2), some (.null)]) rfl (Nat.le_of_ble_eq_true rfl) rfl rfl dX9_onShelves_30 ?_
          refine j_iinc (i := 2) (v := s_1.2 + 1) (L' := [some (.ref a0), some (.int (s_1.1 + 0)), some (.int (s_1.2 + 1)), some (.null)]) rfl (m_o1 _) (Nat.le_of_ble_eq_true rfl) rfl rfl dX9_onShelves_31 ?_
          refine j_goto (tgt := 4) dX9_onShelves_34 rfl ?_
          cases hr
          exact j_weak (L' := [some (.ref a0), some (.int (s_1.1 + 0)), some (.int (s_1.2 + 1)), none]) (And.intro rfl (And.intro rfl (And.intro rfl trivial))) hk
        | some b5 =>
          dsimp only at hr
          refine j_ifnonnull_r (tgt := 25) dX9_onShelves_18 rfl ?_
          refine j_aload_n (i := 3) rfl rfl dX9_onShelves_25 ?_
          replace hr := m_bind hr; obtain ⟨x6, g7, hr⟩ := hr
          refine j_getf (C := RX6) (T := TX6) (N := 5) (ci := 5) (k := 3) rfl (by decide) inX6 tw_1_57 dX9_onShelves_26 (m_gi_spec g7) ?_
          refine j_iadd dX9_onShelves_29 ?_
          refine j_istore_n (i := 1) (L' := [some (.ref a0), some (.int (s_1.1 + x6)), some (.int s_1.2), some (.ref b5)]) rfl (Nat.le_of_ble_eq_true rfl) rfl rfl dX9_onShelves_30 ?_
          refine j_iinc (i := 2) (v := s_1.2 + 1) (L' := [some (.ref a0), some (.int (s_1.1 + x6)), some (.int (s_1.2 + 1)), some (.ref b5)]) rfl (m_o1 _) (Nat.le_of_ble_eq_true rfl) rfl rfl dX9_onShelves_31 ?_
          refine j_goto (tgt := 4) dX9_onShelves_34 rfl ?_
          cases hr
          exact j_weak (L' := [some (.ref a0), some (.int (s_1.1 + x6)), some (.int (s_1.2 + 1)), none]) (And.intro rfl (And.intro rfl (And.intro rfl trivial))) hk
      · rw [if_neg o8] at hr
        cases hr
  · skip
    refine j_iload_n (i := 1) rfl rfl dX9_onShelves_37 ?_
    cases hr
    exact j_ret dX9_onShelves_38 m_rk_i
def f_X9_count (h : mH) (a0 : Nat) (a1 : Int32) : Option (Int32) :=
  if a1 = 0 then
    (m_gr h a0 8 0).bind fun q2 =>
    (q2).bind fun b4 =>
    (m_gi h b4 7 2).bind fun x6 =>
    some x6
  else
    if a1 = 1 then
      (m_gi h a0 8 6).bind fun x9 =>
      some x9
    else
      if a1 = 2 then
        (m_gr h a0 8 4).bind fun q12 =>
        (q12).bind fun b14 =>
        if m_ob h b14 4 = true then
          (f_X5_size h b14).bind fun r17 =>
          some r17
        else none
      else
        if a1 = 3 then
          (m_gr h a0 8 5).bind fun q20 =>
          (q20).bind fun b22 =>
          (m_gi h b22 2 3).bind fun x24 =>
          some x24
        else
          if a1 = 4 then
            (m_gr h a0 8 5).bind fun q27 =>
            (q27).bind fun b29 =>
            (m_gi h b29 2 4).bind fun x31 =>
            some x31
          else
            if a1 = 5 then
              (m_gr h a0 8 0).bind fun q34 =>
              (q34).bind fun b36 =>
              if m_ob h b36 7 = true then
                (f_X8_countInBoxes h b36).bind fun r39 =>
                some r39
              else none
            else
              if a1 = 6 then
                if m_ob h a0 8 = true then
                  (f_X9_onShelves h a0).bind fun r43 =>
                  some r43
                else none
              else
                if a1 = 7 then
                  (m_gr h a0 8 5).bind fun q46 =>
                  (q46).bind fun b48 =>
                  if m_ob h b48 2 = true then
                    (f_X3_chargedToAll h b48).bind fun r51 =>
                    some r51
                  else none
                else
                  some ((-1))
def Y_X9_count : mY := (yX9_count, cX9_count, 2, some (FieldType.int), .ireturn)
theorem ok_X9_count : m_Ok Y_X9_count := ⟨by decide +kernel, ⟨by decide +kernel, by decide +kernel⟩, tw_3_164, tw_1_1, by decide, Or.inr (Or.inl ⟨Or.inl rfl, rfl⟩)⟩
theorem nn_X9_count : (parseMethodDescriptor Y_X9_count.1.desc).map (fun q => q.parameters.length) = some 1 := by decide +kernel
set_option maxHeartbeats 4000000 in
set_option maxRecDepth 20000 in
theorem j_X9_count {X : mX} {d : Nat} {h : mH} {a0 : Nat} {a1 : Int32} {rv : Int32} (hd : 2 ≤ d) (hr : f_X9_count h a0 a1 = some rv) : m_J X Y_X9_count d 0 [some (.ref a0), some (.int a1)] [] h (some (.int rv), h) := by
  obtain ⟨d, rfl⟩ : ∃ k, d = k + 1 := ⟨d - 1, by omega⟩
  unfold f_X9_count at hr
  refine j_iload_n (i := 1) rfl rfl dX9_count_0 ?_
  by_cases c1 : a1 = 0
  · rw [if_pos c1] at hr
    refine j_tswIn (off := 47) (tgt := 48) dX9_count_1 (by rw [c1]; decide) (by rw [c1]; decide) (by rw [c1]; rfl) rfl ?_
    refine j_aload_n (i := 0) rfl rfl dX9_count_48 ?_
    replace hr := m_bind hr; obtain ⟨q2, g3, hr⟩ := hr
    refine j_getf (C := RX9) (T := TX9) (N := 8) (ci := 8) (k := 0) rfl (by decide) inX9 tw_1_130 dX9_count_49 (m_gr_spec g3) ?_
    replace hr := m_bind hr; obtain ⟨b4, g5, hr⟩ := hr
    subst g5
    replace hr := m_bind hr; obtain ⟨x6, g7, hr⟩ := hr
    refine j_getf (C := RX8) (T := TX8) (N := 3) (ci := 7) (k := 2) rfl (by decide) inX8 tw_1_33 dX9_count_52 (m_gi_spec g7) ?_
    cases hr
    exact j_ret dX9_count_55 m_rk_i
  · rw [if_neg c1] at hr
    by_cases c8 : a1 = 1
    · rw [if_pos c8] at hr
      refine j_tswIn (off := 55) (tgt := 56) dX9_count_1 (by rw [c8]; decide) (by rw [c8]; decide) (by rw [c8]; rfl) rfl ?_
      refine j_aload_n (i := 0) rfl rfl dX9_count_56 ?_
      replace hr := m_bind hr; obtain ⟨x9, g10, hr⟩ := hr
      refine j_getf (C := RX9) (T := TX9) (N := 8) (ci := 8) (k := 6) rfl (by decide) inX9 tw_1_136 dX9_count_57 (m_gi_spec g10) ?_
      cases hr
      exact j_ret dX9_count_60 m_rk_i
    · rw [if_neg c8] at hr
      by_cases c11 : a1 = 2
      · rw [if_pos c11] at hr
        refine j_tswIn (off := 60) (tgt := 61) dX9_count_1 (by rw [c11]; decide) (by rw [c11]; decide) (by rw [c11]; rfl) rfl ?_
        refine j_aload_n (i := 0) rfl rfl dX9_count_61 ?_
        replace hr := m_bind hr; obtain ⟨q12, g13, hr⟩ := hr
        refine j_getf (C := RX9) (T := TX9) (N := 8) (ci := 8) (k := 4) rfl (by decide) inX9 tw_1_134 dX9_count_62 (m_gr_spec g13) ?_
        replace hr := m_bind hr; obtain ⟨b14, g15, hr⟩ := hr
        subst g15
        by_cases o18 : m_ob h b14 4 = true
        · rw [if_pos o18] at hr
          replace hr := m_bind hr; obtain ⟨r17, g16, hr⟩ := hr
          refine j_callV (Y' := Y_X5_size) (a := b14) (as := []) (ci := 4) (T := TX5) (N := 2) ok_X5_size [some (.ref b14), none, none] rfl rfl rfl tw_3_165 tw_3_166 tw_3_167 nn_X5_size (Nat.le_of_ble_eq_true rfl) dX9_count_65 o18 (j_X5_size (by omega) g16) ?_
          cases hr
          exact j_ret dX9_count_68 m_rk_i
        · rw [if_neg o18] at hr
          cases hr
      · rw [if_neg c11] at hr
        by_cases c19 : a1 = 3
        · rw [if_pos c19] at hr
          refine j_tswIn (off := 68) (tgt := 69) dX9_count_1 (by rw [c19]; decide) (by rw [c19]; decide) (by rw [c19]; rfl) rfl ?_
          refine j_aload_n (i := 0) rfl rfl dX9_count_69 ?_
          replace hr := m_bind hr; obtain ⟨q20, g21, hr⟩ := hr
          refine j_getf (C := RX9) (T := TX9) (N := 8) (ci := 8) (k := 5) rfl (by decide) inX9 tw_1_135 dX9_count_70 (m_gr_spec g21) ?_
          replace hr := m_bind hr; obtain ⟨b22, g23, hr⟩ := hr
          subst g23
          replace hr := m_bind hr; obtain ⟨x24, g25, hr⟩ := hr
          refine j_getf (C := RX3) (T := TX3) (N := 5) (ci := 2) (k := 3) rfl (by decide) inX3 tw_1_116 dX9_count_73 (m_gi_spec g25) ?_
          cases hr
          exact j_ret dX9_count_76 m_rk_i
        · rw [if_neg c19] at hr
          by_cases c26 : a1 = 4
          · rw [if_pos c26] at hr
            refine j_tswIn (off := 76) (tgt := 77) dX9_count_1 (by rw [c26]; decide) (by rw [c26]; decide) (by rw [c26]; rfl) rfl ?_
            refine j_aload_n (i := 0) rfl rfl dX9_count_77 ?_
            replace hr := m_bind hr; obtain ⟨q27, g28, hr⟩ := hr
            refine j_getf (C := RX9) (T := TX9) (N := 8) (ci := 8) (k := 5) rfl (by decide) inX9 tw_1_135 dX9_count_78 (m_gr_spec g28) ?_
            replace hr := m_bind hr; obtain ⟨b29, g30, hr⟩ := hr
            subst g30
            replace hr := m_bind hr; obtain ⟨x31, g32, hr⟩ := hr
            refine j_getf (C := RX3) (T := TX3) (N := 5) (ci := 2) (k := 4) rfl (by decide) inX3 tw_1_118 dX9_count_81 (m_gi_spec g32) ?_
            cases hr
            exact j_ret dX9_count_84 m_rk_i
          · rw [if_neg c26] at hr
            by_cases c33 : a1 = 5
            · rw [if_pos c33] at hr
              refine j_tswIn (off := 84) (tgt := 85) dX9_count_1 (by rw [c33]; decide) (by rw [c33]; decide) (by rw [c33]; rfl) rfl ?_
              refine j_aload_n (i := 0) rfl rfl dX9_count_85 ?_
              replace hr := m_bind hr; obtain ⟨q34, g35, hr⟩ := hr
              refine j_getf (C := RX9) (T := TX9) (N := 8) (ci := 8) (k := 0) rfl (by decide) inX9 tw_1_130 dX9_count_86 (m_gr_spec g35) ?_
              replace hr := m_bind hr; obtain ⟨b36, g37, hr⟩ := hr
              subst g37
              by_cases o40 : m_ob h b36 7 = true
              · rw [if_pos o40] at hr
                replace hr := m_bind hr; obtain ⟨r39, g38, hr⟩ := hr
                refine j_callV (Y' := Y_X8_countInBoxes) (a := b36) (as := []) (ci := 7) (T := TX8) (N := 3) ok_X8_countInBoxes [some (.ref b36), none, none, none] rfl rfl rfl tw_3_175 tw_3_176 tw_3_177 nn_X8_countInBoxes (Nat.le_of_ble_eq_true rfl) dX9_count_89 o40 (j_X8_countInBoxes g38) ?_
                cases hr
                exact j_ret dX9_count_92 m_rk_i
              · rw [if_neg o40] at hr
                cases hr
            · rw [if_neg c33] at hr
              by_cases c41 : a1 = 6
              · rw [if_pos c41] at hr
                refine j_tswIn (off := 92) (tgt := 93) dX9_count_1 (by rw [c41]; decide) (by rw [c41]; decide) (by rw [c41]; rfl) rfl ?_
                refine j_aload_n (i := 0) rfl rfl dX9_count_93 ?_
                by_cases o44 : m_ob h a0 8 = true
                · rw [if_pos o44] at hr
                  replace hr := m_bind hr; obtain ⟨r43, g42, hr⟩ := hr
                  refine j_callV (Y' := Y_X9_onShelves) (a := a0) (as := []) (ci := 8) (T := TX9) (N := 8) ok_X9_onShelves [some (.ref a0), none, none, none] rfl rfl rfl tw_3_179 tw_3_181 tw_p_11 nn_X9_onShelves (Nat.le_of_ble_eq_true rfl) dX9_count_94 o44 (j_X9_onShelves (by omega) g42) ?_
                  cases hr
                  exact j_ret dX9_count_97 m_rk_i
                · rw [if_neg o44] at hr
                  cases hr
              · rw [if_neg c41] at hr
                by_cases c45 : a1 = 7
                · rw [if_pos c45] at hr
                  refine j_tswIn (off := 97) (tgt := 98) dX9_count_1 (by rw [c45]; decide) (by rw [c45]; decide) (by rw [c45]; rfl) rfl ?_
                  refine j_aload_n (i := 0) rfl rfl dX9_count_98 ?_
                  replace hr := m_bind hr; obtain ⟨q46, g47, hr⟩ := hr
                  refine j_getf (C := RX9) (T := TX9) (N := 8) (ci := 8) (k := 5) rfl (by decide) inX9 tw_1_135 dX9_count_99 (m_gr_spec g47) ?_
                  replace hr := m_bind hr; obtain ⟨b48, g49, hr⟩ := hr
                  subst g49
                  by_cases o52 : m_ob h b48 2 = true
                  · rw [if_pos o52] at hr
                    replace hr := m_bind hr; obtain ⟨r51, g50, hr⟩ := hr
                    refine j_callV (Y' := Y_X3_chargedToAll) (a := b48) (as := []) (ci := 2) (T := TX3) (N := 5) ok_X3_chargedToAll [some (.ref b48), none, none] rfl rfl rfl tw_3_183 tw_3_184 tw_3_185 nn_X3_chargedToAll (Nat.le_of_ble_eq_true rfl) dX9_count_102 o52 (j_X3_chargedToAll g50) ?_
                    cases hr
                    exact j_ret dX9_count_105 m_rk_i
                  · rw [if_neg o52] at hr
                    cases hr
                · rw [if_neg c45] at hr
                  refine j_tswOut (tgt := 106) dX9_count_1 (by have := m_sw (k := 0) (by decide) c1; have := m_sw (k := 1) (by decide) c8; have := m_sw (k := 2) (by decide) c11; have := m_sw (k := 3) (by decide) c19; have := m_sw (k := 4) (by decide) c26; have := m_sw (k := 5) (by decide) c33; have := m_sw (k := 6) (by decide) c41; have := m_sw (k := 7) (by decide) c45; omega) rfl ?_
                  refine j_iconst (v := (-1)) rfl dX9_count_106 ?_
                  cases hr
                  exact j_ret dX9_count_107 m_rk_i
