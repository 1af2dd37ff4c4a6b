def w_X10_init_690 (a0 : Nat) : (Int32 × mH) → Option ((Int32 × mH) ⊕ (mH)) := fun s_273 =>
  if 245 ≤ s_273.1 then
    some (.inr s_273.2)
  else
    (m_gr s_273.2 a0 9 5).bind fun q275 =>
    (q275).bind fun b277 =>
    (m_ist s_273.2 b277 s_273.1 ((-1))).bind fun h279 =>
    some (.inl (s_273.1 + 1, h279))
def f_X10_init (h : mH) (a0 : Nat) : Option (mH) :=
  (m_newi h 24).bind fun h1 =>
  (m_ist h1 h.1 0 ((-1))).bind fun h3 =>
  (m_ist h3 h.1 1 0).bind fun h5 =>
  (m_ist h5 h.1 2 1).bind fun h7 =>
  (m_ist h7 h.1 3 1).bind fun h9 =>
  (m_ist h9 h.1 4 3).bind fun h11 =>
  (m_ist h11 h.1 5 3).bind fun h13 =>
  (m_ist h13 h.1 6 1).bind fun h15 =>
  (m_ist h15 h.1 7 6).bind fun h17 =>
  (m_ist h17 h.1 8 6).bind fun h19 =>
  (m_ist h19 h.1 9 0).bind fun h21 =>
  (m_ist h21 h.1 10 9).bind fun h23 =>
  (m_ist h23 h.1 11 10).bind fun h25 =>
  (m_ist h25 h.1 12 10).bind fun h27 =>
  (m_ist h27 h.1 13 12).bind fun h29 =>
  (m_ist h29 h.1 14 9).bind fun h31 =>
  (m_ist h31 h.1 15 14).bind fun h33 =>
  (m_ist h33 h.1 16 14).bind fun h35 =>
  (m_ist h35 h.1 17 9).bind fun h37 =>
  (m_ist h37 h.1 18 17).bind fun h39 =>
  (m_ist h39 h.1 19 17).bind fun h41 =>
  (m_ist h41 h.1 20 0).bind fun h43 =>
  (m_ist h43 h.1 21 20).bind fun h45 =>
  (m_ist h45 h.1 22 20).bind fun h47 =>
  (m_ist h47 h.1 23 21).bind fun h49 =>
  (m_pf h49 a0 9 0 (va_rf ((some h.1)))).bind fun h51 =>
  (m_newi h51 7).bind fun h53 =>
  (m_ist h53 h51.1 0 0).bind fun h55 =>
  (m_ist h55 h51.1 1 1).bind fun h57 =>
  (m_ist h57 h51.1 2 3).bind fun h59 =>
  (m_ist h59 h51.1 3 9).bind fun h61 =>
  (m_ist h61 h51.1 4 10).bind fun h63 =>
  (m_ist h63 h51.1 5 17).bind fun h65 =>
  (m_ist h65 h51.1 6 20).bind fun h67 =>
  (m_pf h67 a0 9 1 (va_rf ((some h51.1)))).bind fun h69 =>
  (m_newi h69 36).bind fun h71 =>
  (m_ist h71 h69.1 0 1).bind fun h73 =>
  (m_ist h73 h69.1 1 41).bind fun h75 =>
  (m_ist h75 h69.1 2 3).bind fun h77 =>
  (m_ist h77 h69.1 3 43).bind fun h79 =>
  (m_ist h79 h69.1 4 5).bind fun h81 =>
  (m_ist h81 h69.1 5 46).bind fun h83 =>
  (m_ist h83 h69.1 6 6).bind fun h85 =>
  (m_ist h85 h69.1 7 44).bind fun h87 =>
  (m_ist h87 h69.1 8 8).bind fun h89 =>
  (m_ist h89 h69.1 9 47).bind fun h91 =>
  (m_ist h91 h69.1 10 10).bind fun h93 =>
  (m_ist h93 h69.1 11 41).bind fun h95 =>
  (m_ist h95 h69.1 12 10).bind fun h97 =>
  (m_ist h97 h69.1 13 43).bind fun h99 =>
  (m_ist h99 h69.1 14 13).bind fun h101 =>
  (m_ist h101 h69.1 15 44).bind fun h103 =>
  (m_ist h103 h69.1 16 14).bind fun h105 =>
  (m_ist h105 h69.1 17 42).bind fun h107 =>
  (m_ist h107 h69.1 18 15).bind fun h109 =>
  (m_ist h109 h69.1 19 44).bind fun h111 =>
  (m_ist h111 h69.1 20 16).bind fun h113 =>
  (m_ist h113 h69.1 21 47).bind fun h115 =>
  (m_ist h115 h69.1 22 17).bind fun h117 =>
  (m_ist h117 h69.1 23 41).bind fun h119 =>
  (m_ist h119 h69.1 24 18).bind fun h121 =>
  (m_ist h121 h69.1 25 44).bind fun h123 =>
  (m_ist h123 h69.1 26 19).bind fun h125 =>
  (m_ist h125 h69.1 27 48).bind fun h127 =>
  (m_ist h127 h69.1 28 20).bind fun h129 =>
  (m_ist h129 h69.1 29 41).bind fun h131 =>
  (m_ist h131 h69.1 30 21).bind fun h133 =>
  (m_ist h133 h69.1 31 43).bind fun h135 =>
  (m_ist h135 h69.1 32 22).bind fun h137 =>
  (m_ist h137 h69.1 33 47).bind fun h139 =>
  (m_ist h139 h69.1 34 23).bind fun h141 =>
  (m_ist h141 h69.1 35 46).bind fun h143 =>
  (m_pf h143 a0 9 2 (va_rf ((some h69.1)))).bind fun h145 =>
  (m_newi h145 12).bind fun h147 =>
  (m_ist h147 h145.1 0 41).bind fun h149 =>
  (m_ist h149 h145.1 1 40).bind fun h151 =>
  (m_ist h151 h145.1 2 42).bind fun h153 =>
  (m_ist h153 h145.1 3 40).bind fun h155 =>
  (m_ist h155 h145.1 4 46).bind fun h157 =>
  (m_ist h157 h145.1 5 45).bind fun h159 =>
  (m_ist h159 h145.1 6 47).bind fun h161 =>
  (m_ist h161 h145.1 7 45).bind fun h163 =>
  (m_ist h163 h145.1 8 48).bind fun h165 =>
  (m_ist h165 h145.1 9 47).bind fun h167 =>
  (m_ist h167 h145.1 10 48).bind fun h169 =>
  (m_ist h169 h145.1 11 43).bind fun h171 =>
  (m_pf h171 a0 9 3 (va_rf ((some h145.1)))).bind fun h173 =>
  (m_newi h173 5).bind fun h175 =>
  (m_ist h175 h173.1 0 9).bind fun h177 =>
  (m_ist h177 h173.1 1 99).bind fun h179 =>
  (m_ist h179 h173.1 2 365).bind fun h181 =>
  (m_ist h181 h173.1 3 1000).bind fun h183 =>
  (m_ist h183 h173.1 4 9).bind fun h185 =>
  (m_pf h185 a0 9 4 (va_rf ((some h173.1)))).bind fun h187 =>
  (m_newi h187 245).bind fun h189 =>
  (m_pf h189 a0 9 5 (va_rf ((some h187.1)))).bind fun h191 =>
  (m_newi h191 300).bind fun h193 =>
  (m_pf h193 a0 9 7 (va_rf ((some h191.1)))).bind fun h195 =>
  (m_newi h195 300).bind fun h197 =>
  (m_pf h197 a0 9 8 (va_rf ((some h195.1)))).bind fun h199 =>
  (m_newi h199 300).bind fun h201 =>
  (m_pf h201 a0 9 9 (va_rf ((some h199.1)))).bind fun h203 =>
  (m_newi h203 300).bind fun h205 =>
  (m_pf h205 a0 9 10 (va_rf ((some h203.1)))).bind fun h207 =>
  (m_newi h207 300).bind fun h209 =>
  (m_pf h209 a0 9 11 (va_rf ((some h207.1)))).bind fun h211 =>
  (m_newi h211 300).bind fun h213 =>
  (m_pf h213 a0 9 12 (va_rf ((some h211.1)))).bind fun h215 =>
  (m_newi h215 300).bind fun h217 =>
  (m_pf h217 a0 9 13 (va_rf ((some h215.1)))).bind fun h219 =>
  (m_newi h219 300).bind fun h221 =>
  (m_pf h221 a0 9 14 (va_rf ((some h219.1)))).bind fun h223 =>
  (m_newi h223 300).bind fun h225 =>
  (m_pf h225 a0 9 15 (va_rf ((some h223.1)))).bind fun h227 =>
  (m_newi h227 300).bind fun h229 =>
  (m_pf h229 a0 9 16 (va_rf ((some h227.1)))).bind fun h231 =>
  (m_newi h231 40).bind fun h233 =>
  (m_pf h233 a0 9 18 (va_rf ((some h231.1)))).bind fun h235 =>
  (m_newi h235 40).bind fun h237 =>
  (m_pf h237 a0 9 19 (va_rf ((some h235.1)))).bind fun h239 =>
  (m_newi h239 10).bind fun h241 =>
  (m_pf h241 a0 9 20 (va_rf ((some h239.1)))).bind fun h243 =>
  (m_newi h243 10).bind fun h245 =>
  (m_pf h245 a0 9 21 (va_rf ((some h243.1)))).bind fun h247 =>
  (m_newi h247 20).bind fun h249 =>
  (m_pf h249 a0 9 22 (va_rf ((some h247.1)))).bind fun h251 =>
  (m_newi h251 10).bind fun h253 =>
  (m_pf h253 a0 9 24 (va_rf ((some h251.1)))).bind fun h255 =>
  (m_newi h255 400).bind fun h257 =>
  (m_pf h257 a0 9 25 (va_rf ((some h255.1)))).bind fun h259 =>
  (m_newi h259 400).bind fun h261 =>
  (m_pf h261 a0 9 26 (va_rf ((some h259.1)))).bind fun h263 =>
  (m_newi h263 400).bind fun h265 =>
  (m_pf h265 a0 9 27 (va_rf ((some h263.1)))).bind fun h267 =>
  (m_newi h267 400).bind fun h269 =>
  (m_pf h269 a0 9 28 (va_rf ((some h267.1)))).bind fun h271 =>
  (m_loop (w_X10_init_690 a0) 5000 ((0, h271))).bind fun e281 =>
  some e281
def Y_X10_init : mY := (yX10_init, cX10_init, 2, none, .return_)
theorem ok_X10_init : m_Ok Y_X10_init := ⟨by decide +kernel, ⟨by decide +kernel, by decide +kernel⟩, tw_3_191, tw_1_7, by decide, Or.inl ⟨rfl, rfl⟩⟩
theorem nn_X10_init : (parseMethodDescriptor Y_X10_init.1.desc).map (fun q => q.parameters.length) = some 0 := by decide +kernel
set_option maxHeartbeats 4000000 in
set_option maxRecDepth 20000 in
theorem j_X10_init {X : mX} {d : Nat} {h : mH} {a0 : Nat} {h' : mH} (hd : 1 ≤ d) (hr : f_X10_init h a0 = some h') : m_J X Y_X10_init d 0 [some (.ref a0), none] [] h (none, h') := by
  obtain ⟨d, rfl⟩ : ∃ k, d = k + 1 := ⟨d - 1, by omega⟩
  unfold f_X10_init at hr
  refine j_aload_n (i := 0) rfl rfl dX10_init_0 ?_
  refine j_objInit tw_3_192 (Nat.le_of_ble_eq_true rfl) dX10_init_1 ?_
  refine j_aload_n (i := 0) rfl rfl dX10_init_4 ?_
  refine j_bipush (v := 24) rfl dX10_init_5 ?_
  replace hr := m_bind hr; obtain ⟨h1, g2, hr⟩ := hr
  refine j_newi dX10_init_7 g2 ?_
  refine j_dup rfl dX10_init_9 ?_
  refine j_iconst (v := 0) rfl dX10_init_10 ?_
  refine j_iconst (v := (-1)) rfl dX10_init_11 ?_
  replace hr := m_bind hr; obtain ⟨h3, g4, hr⟩ := hr
  refine j_iastore dX10_init_12 g4 ?_
  refine j_dup rfl dX10_init_13 ?_
  refine j_iconst (v := 1) rfl dX10_init_14 ?_
  refine j_iconst (v := 0) rfl dX10_init_15 ?_
  replace hr := m_bind hr; obtain ⟨h5, g6, hr⟩ := hr
  refine j_iastore dX10_init_16 g6 ?_
  refine j_dup rfl dX10_init_17 ?_
  refine j_iconst (v := 2) rfl dX10_init_18 ?_
  refine j_iconst (v := 1) rfl dX10_init_19 ?_
  replace hr := m_bind hr; obtain ⟨h7, g8, hr⟩ := hr
  refine j_iastore dX10_init_20 g8 ?_
  refine j_dup rfl dX10_init_21 ?_
  refine j_iconst (v := 3) rfl dX10_init_22 ?_
  refine j_iconst (v := 1) rfl dX10_init_23 ?_
  replace hr := m_bind hr; obtain ⟨h9, g10, hr⟩ := hr
  refine j_iastore dX10_init_24 g10 ?_
  refine j_dup rfl dX10_init_25 ?_
  refine j_iconst (v := 4) rfl dX10_init_26 ?_
  refine j_iconst (v := 3) rfl dX10_init_27 ?_
  replace hr := m_bind hr; obtain ⟨h11, g12, hr⟩ := hr
  refine j_iastore dX10_init_28 g12 ?_
  refine j_dup rfl dX10_init_29 ?_
  refine j_iconst (v := 5) rfl dX10_init_30 ?_
  refine j_iconst (v := 3) rfl dX10_init_31 ?_
  replace hr := m_bind hr; obtain ⟨h13, g14, hr⟩ := hr
  refine j_iastore dX10_init_32 g14 ?_
  refine j_dup rfl dX10_init_33 ?_
  refine j_bipush (v := 6) rfl dX10_init_34 ?_
  refine j_iconst (v := 1) rfl dX10_init_36 ?_
  replace hr := m_bind hr; obtain ⟨h15, g16, hr⟩ := hr
  refine j_iastore dX10_init_37 g16 ?_
  refine j_dup rfl dX10_init_38 ?_
  refine j_bipush (v := 7) rfl dX10_init_39 ?_
  refine j_bipush (v := 6) rfl dX10_init_41 ?_
  replace hr := m_bind hr; obtain ⟨h17, g18, hr⟩ := hr
  refine j_iastore dX10_init_43 g18 ?_
  refine j_dup rfl dX10_init_44 ?_
  refine j_bipush (v := 8) rfl dX10_init_45 ?_
  refine j_bipush (v := 6) rfl dX10_init_47 ?_
  replace hr := m_bind hr; obtain ⟨h19, g20, hr⟩ := hr
  refine j_iastore dX10_init_49 g20 ?_
  refine j_dup rfl dX10_init_50 ?_
  refine j_bipush (v := 9) rfl dX10_init_51 ?_
  refine j_iconst (v := 0) rfl dX10_init_53 ?_
  replace hr := m_bind hr; obtain ⟨h21, g22, hr⟩ := hr
  refine j_iastore dX10_init_54 g22 ?_
  refine j_dup rfl dX10_init_55 ?_
  refine j_bipush (v := 10) rfl dX10_init_56 ?_
  refine j_bipush (v := 9) rfl dX10_init_58 ?_
  replace hr := m_bind hr; obtain ⟨h23, g24, hr⟩ := hr
  refine j_iastore dX10_init_60 g24 ?_
  refine j_dup rfl dX10_init_61 ?_
  refine j_bipush (v := 11) rfl dX10_init_62 ?_
  refine j_bipush (v := 10) rfl dX10_init_64 ?_
  replace hr := m_bind hr; obtain ⟨h25, g26, hr⟩ := hr
  refine j_iastore dX10_init_66 g26 ?_
  refine j_dup rfl dX10_init_67 ?_
  refine j_bipush (v := 12) rfl dX10_init_68 ?_
  refine j_bipush (v := 10) rfl dX10_init_70 ?_
  replace hr := m_bind hr; obtain ⟨h27, g28, hr⟩ := hr
  refine j_iastore dX10_init_72 g28 ?_
  refine j_dup rfl dX10_init_73 ?_
  refine j_bipush (v := 13) rfl dX10_init_74 ?_
  refine j_bipush (v := 12) rfl dX10_init_76 ?_
  replace hr := m_bind hr; obtain ⟨h29, g30, hr⟩ := hr
  refine j_iastore dX10_init_78 g30 ?_
  refine j_dup rfl dX10_init_79 ?_
  refine j_bipush (v := 14) rfl dX10_init_80 ?_
  refine j_bipush (v := 9) rfl dX10_init_82 ?_
  replace hr := m_bind hr; obtain ⟨h31, g32, hr⟩ := hr
  refine j_iastore dX10_init_84 g32 ?_
  refine j_dup rfl dX10_init_85 ?_
  refine j_bipush (v := 15) rfl dX10_init_86 ?_
  refine j_bipush (v := 14) rfl dX10_init_88 ?_
  replace hr := m_bind hr; obtain ⟨h33, g34, hr⟩ := hr
  refine j_iastore dX10_init_90 g34 ?_
  refine j_dup rfl dX10_init_91 ?_
  refine j_bipush (v := 16) rfl dX10_init_92 ?_
  refine j_bipush (v := 14) rfl dX10_init_94 ?_
  replace hr := m_bind hr; obtain ⟨h35, g36, hr⟩ := hr
  refine j_iastore dX10_init_96 g36 ?_
  refine j_dup rfl dX10_init_97 ?_
  refine j_bipush (v := 17) rfl dX10_init_98 ?_
  refine j_bipush (v := 9) rfl dX10_init_100 ?_
  replace hr := m_bind hr; obtain ⟨h37, g38, hr⟩ := hr
  refine j_iastore dX10_init_102 g38 ?_
  refine j_dup rfl dX10_init_103 ?_
  refine j_bipush (v := 18) rfl dX10_init_104 ?_
  refine j_bipush (v := 17) rfl dX10_init_106 ?_
  replace hr := m_bind hr; obtain ⟨h39, g40, hr⟩ := hr
  refine j_iastore dX10_init_108 g40 ?_
  refine j_dup rfl dX10_init_109 ?_
  refine j_bipush (v := 19) rfl dX10_init_110 ?_
  refine j_bipush (v := 17) rfl dX10_init_112 ?_
  replace hr := m_bind hr; obtain ⟨h41, g42, hr⟩ := hr
  refine j_iastore dX10_init_114 g42 ?_
  refine j_dup rfl dX10_init_115 ?_
  refine j_bipush (v := 20) rfl dX10_init_116 ?_
  refine j_iconst (v := 0) rfl dX10_init_118 ?_
  replace hr := m_bind hr; obtain ⟨h43, g44, hr⟩ := hr
  refine j_iastore dX10_init_119 g44 ?_
  refine j_dup rfl dX10_init_120 ?_
  refine j_bipush (v := 21) rfl dX10_init_121 ?_
  refine j_bipush (v := 20) rfl dX10_init_123 ?_
  replace hr := m_bind hr; obtain ⟨h45, g46, hr⟩ := hr
  refine j_iastore dX10_init_125 g46 ?_
  refine j_dup rfl dX10_init_126 ?_
  refine j_bipush (v := 22) rfl dX10_init_127 ?_
  refine j_bipush (v := 20) rfl dX10_init_129 ?_
  replace hr := m_bind hr; obtain ⟨h47, g48, hr⟩ := hr
  refine j_iastore dX10_init_131 g48 ?_
  refine j_dup rfl dX10_init_132 ?_
  refine j_bipush (v := 23) rfl dX10_init_133 ?_
  refine j_bipush (v := 21) rfl dX10_init_135 ?_
  replace hr := m_bind hr; obtain ⟨h49, g50, hr⟩ := hr
  refine j_iastore dX10_init_137 g50 ?_
  replace hr := m_bind hr; obtain ⟨h51, g52, hr⟩ := hr
  refine j_putrF (q := (some h.1)) (C := RX10) (T := TX10) (ty := tyX10) (N := 30) (ci := 9) (k := 0) rfl (by decide) inX10 tyX10_ok nmX10 tw_3_193 rfl rfl rfl rfl dX10_init_138 g52 ?_
  refine j_aload_n (i := 0) rfl rfl dX10_init_141 ?_
  refine j_bipush (v := 7) rfl dX10_init_142 ?_
  replace hr := m_bind hr; obtain ⟨h53, g54, hr⟩ := hr
  refine j_newi dX10_init_144 g54 ?_
  refine j_dup rfl dX10_init_146 ?_
  refine j_iconst (v := 0) rfl dX10_init_147 ?_
  refine j_iconst (v := 0) rfl dX10_init_148 ?_
  replace hr := m_bind hr; obtain ⟨h55, g56, hr⟩ := hr
  refine j_iastore dX10_init_149 g56 ?_
  refine j_dup rfl dX10_init_150 ?_
  refine j_iconst (v := 1) rfl dX10_init_151 ?_
  refine j_iconst (v := 1) rfl dX10_init_152 ?_
  replace hr := m_bind hr; obtain ⟨h57, g58, hr⟩ := hr
  refine j_iastore dX10_init_153 g58 ?_
  refine j_dup rfl dX10_init_154 ?_
  refine j_iconst (v := 2) rfl dX10_init_155 ?_
  refine j_iconst (v := 3) rfl dX10_init_156 ?_
  replace hr := m_bind hr; obtain ⟨h59, g60, hr⟩ := hr
  refine j_iastore dX10_init_157 g60 ?_
  refine j_dup rfl dX10_init_158 ?_
  refine j_iconst (v := 3) rfl dX10_init_159 ?_
  refine j_bipush (v := 9) rfl dX10_init_160 ?_
  replace hr := m_bind hr; obtain ⟨h61, g62, hr⟩ := hr
  refine j_iastore dX10_init_162 g62 ?_
  refine j_dup rfl dX10_init_163 ?_
  refine j_iconst (v := 4) rfl dX10_init_164 ?_
  refine j_bipush (v := 10) rfl dX10_init_165 ?_
  replace hr := m_bind hr; obtain ⟨h63, g64, hr⟩ := hr
  refine j_iastore dX10_init_167 g64 ?_
  refine j_dup rfl dX10_init_168 ?_
  refine j_iconst (v := 5) rfl dX10_init_169 ?_
  refine j_bipush (v := 17) rfl dX10_init_170 ?_
  replace hr := m_bind hr; obtain ⟨h65, g66, hr⟩ := hr
  refine j_iastore dX10_init_172 g66 ?_
  refine j_dup rfl dX10_init_173 ?_
  refine j_bipush (v := 6) rfl dX10_init_174 ?_
  refine j_bipush (v := 20) rfl dX10_init_176 ?_
  replace hr := m_bind hr; obtain ⟨h67, g68, hr⟩ := hr
  refine j_iastore dX10_init_178 g68 ?_
  replace hr := m_bind hr; obtain ⟨h69, g70, hr⟩ := hr
  refine j_putrF (q := (some h51.1)) (C := RX10) (T := TX10) (ty := tyX10) (N := 30) (ci := 9) (k := 1) rfl (by decide) inX10 tyX10_ok nmX10 tw_3_194 rfl rfl rfl rfl dX10_init_179 g70 ?_
  refine j_aload_n (i := 0) rfl rfl dX10_init_182 ?_
  refine j_bipush (v := 36) rfl dX10_init_183 ?_
  replace hr := m_bind hr; obtain ⟨h71, g72, hr⟩ := hr
  refine j_newi dX10_init_185 g72 ?_
  refine j_dup rfl dX10_init_187 ?_
  refine j_iconst (v := 0) rfl dX10_init_188 ?_
  refine j_iconst (v := 1) rfl dX10_init_189 ?_
  replace hr := m_bind hr; obtain ⟨h73, g74, hr⟩ := hr
  refine j_iastore dX10_init_190 g74 ?_
  refine j_dup rfl dX10_init_191 ?_
  refine j_iconst (v := 1) rfl dX10_init_192 ?_
  refine j_bipush (v := 41) rfl dX10_init_193 ?_
  replace hr := m_bind hr; obtain ⟨h75, g76, hr⟩ := hr
  refine j_iastore dX10_init_195 g76 ?_
  refine j_dup rfl dX10_init_196 ?_
  refine j_iconst (v := 2) rfl dX10_init_197 ?_
  refine j_iconst (v := 3) rfl dX10_init_198 ?_
  replace hr := m_bind hr; obtain ⟨h77, g78, hr⟩ := hr
  refine j_iastore dX10_init_199 g78 ?_
  refine j_dup rfl dX10_init_200 ?_
  refine j_iconst (v := 3) rfl dX10_init_201 ?_
  refine j_bipush (v := 43) rfl dX10_init_202 ?_
  replace hr := m_bind hr; obtain ⟨h79, g80, hr⟩ := hr
  refine j_iastore dX10_init_204 g80 ?_
  refine j_dup rfl dX10_init_205 ?_
  refine j_iconst (v := 4) rfl dX10_init_206 ?_
  refine j_iconst (v := 5) rfl dX10_init_207 ?_
  replace hr := m_bind hr; obtain ⟨h81, g82, hr⟩ := hr
  refine j_iastore dX10_init_208 g82 ?_
  refine j_dup rfl dX10_init_209 ?_
  refine j_iconst (v := 5) rfl dX10_init_210 ?_
  refine j_bipush (v := 46) rfl dX10_init_211 ?_
  replace hr := m_bind hr; obtain ⟨h83, g84, hr⟩ := hr
  refine j_iastore dX10_init_213 g84 ?_
  refine j_dup rfl dX10_init_214 ?_
  refine j_bipush (v := 6) rfl dX10_init_215 ?_
  refine j_bipush (v := 6) rfl dX10_init_217 ?_
  replace hr := m_bind hr; obtain ⟨h85, g86, hr⟩ := hr
  refine j_iastore dX10_init_219 g86 ?_
  refine j_dup rfl dX10_init_220 ?_
  refine j_bipush (v := 7) rfl dX10_init_221 ?_
  refine j_bipush (v := 44) rfl dX10_init_223 ?_
  replace hr := m_bind hr; obtain ⟨h87, g88, hr⟩ := hr
  refine j_iastore dX10_init_225 g88 ?_
  refine j_dup rfl dX10_init_226 ?_
  refine j_bipush (v := 8) rfl dX10_init_227 ?_
  refine j_bipush (v := 8) rfl dX10_init_229 ?_
  replace hr := m_bind hr; obtain ⟨h89, g90, hr⟩ := hr
  refine j_iastore dX10_init_231 g90 ?_
  refine j_dup rfl dX10_init_232 ?_
  refine j_bipush (v := 9) rfl dX10_init_233 ?_
  refine j_bipush (v := 47) rfl dX10_init_235 ?_
  replace hr := m_bind hr; obtain ⟨h91, g92, hr⟩ := hr
  refine j_iastore dX10_init_237 g92 ?_
  refine j_dup rfl dX10_init_238 ?_
  refine j_bipush (v := 10) rfl dX10_init_239 ?_
  refine j_bipush (v := 10) rfl dX10_init_241 ?_
  replace hr := m_bind hr; obtain ⟨h93, g94, hr⟩ := hr
  refine j_iastore dX10_init_243 g94 ?_
  refine j_dup rfl dX10_init_244 ?_
  refine j_bipush (v := 11) rfl dX10_init_245 ?_
  refine j_bipush (v := 41) rfl dX10_init_247 ?_
  replace hr := m_bind hr; obtain ⟨h95, g96, hr⟩ := hr
  refine j_iastore dX10_init_249 g96 ?_
  refine j_dup rfl dX10_init_250 ?_
  refine j_bipush (v := 12) rfl dX10_init_251 ?_
  refine j_bipush (v := 10) rfl dX10_init_253 ?_
  replace hr := m_bind hr; obtain ⟨h97, g98, hr⟩ := hr
  refine j_iastore dX10_init_255 g98 ?_
  refine j_dup rfl dX10_init_256 ?_
  refine j_bipush (v := 13) rfl dX10_init_257 ?_
  refine j_bipush (v := 43) rfl dX10_init_259 ?_
  replace hr := m_bind hr; obtain ⟨h99, g100, hr⟩ := hr
  refine j_iastore dX10_init_261 g100 ?_
  refine j_dup rfl dX10_init_262 ?_
  refine j_bipush (v := 14) rfl dX10_init_263 ?_
  refine j_bipush (v := 13) rfl dX10_init_265 ?_
  replace hr := m_bind hr; obtain ⟨h101, g102, hr⟩ := hr
  refine j_iastore dX10_init_267 g102 ?_
  refine j_dup rfl dX10_init_268 ?_
  refine j_bipush (v := 15) rfl dX10_init_269 ?_
  refine j_bipush (v := 44) rfl dX10_init_271 ?_
  replace hr := m_bind hr; obtain ⟨h103, g104, hr⟩ := hr
  refine j_iastore dX10_init_273 g104 ?_
  refine j_dup rfl dX10_init_274 ?_
  refine j_bipush (v := 16) rfl dX10_init_275 ?_
  refine j_bipush (v := 14) rfl dX10_init_277 ?_
  replace hr := m_bind hr; obtain ⟨h105, g106, hr⟩ := hr
  refine j_iastore dX10_init_279 g106 ?_
  refine j_dup rfl dX10_init_280 ?_
  refine j_bipush (v := 17) rfl dX10_init_281 ?_
  refine j_bipush (v := 42) rfl dX10_init_283 ?_
  replace hr := m_bind hr; obtain ⟨h107, g108, hr⟩ := hr
  refine j_iastore dX10_init_285 g108 ?_
  refine j_dup rfl dX10_init_286 ?_
  refine j_bipush (v := 18) rfl dX10_init_287 ?_
  refine j_bipush (v := 15) rfl dX10_init_289 ?_
  replace hr := m_bind hr; obtain ⟨h109, g110, hr⟩ := hr
  refine j_iastore dX10_init_291 g110 ?_
  refine j_dup rfl dX10_init_292 ?_
  refine j_bipush (v := 19) rfl dX10_init_293 ?_
  refine j_bipush (v := 44) rfl dX10_init_295 ?_
  replace hr := m_bind hr; obtain ⟨h111, g112, hr⟩ := hr
  refine j_iastore dX10_init_297 g112 ?_
  refine j_dup rfl dX10_init_298 ?_
  refine j_bipush (v := 20) rfl dX10_init_299 ?_
  refine j_bipush (v := 16) rfl dX10_init_301 ?_
  replace hr := m_bind hr; obtain ⟨h113, g114, hr⟩ := hr
  refine j_iastore dX10_init_303 g114 ?_
  refine j_dup rfl dX10_init_304 ?_
  refine j_bipush (v := 21) rfl dX10_init_305 ?_
  refine j_bipush (v := 47) rfl dX10_init_307 ?_
  replace hr := m_bind hr; obtain ⟨h115, g116, hr⟩ := hr
  refine j_iastore dX10_init_309 g116 ?_
  refine j_dup rfl dX10_init_310 ?_
  refine j_bipush (v := 22) rfl dX10_init_311 ?_
  refine j_bipush (v := 17) rfl dX10_init_313 ?_
  replace hr := m_bind hr; obtain ⟨h117, g118, hr⟩ := hr
  refine j_iastore dX10_init_315 g118 ?_
  refine j_dup rfl dX10_init_316 ?_
  refine j_bipush (v := 23) rfl dX10_init_317 ?_
  refine j_bipush (v := 41) rfl dX10_init_319 ?_
  replace hr := m_bind hr; obtain ⟨h119, g120, hr⟩ := hr
  refine j_iastore dX10_init_321 g120 ?_
  refine j_dup rfl dX10_init_322 ?_
  refine j_bipush (v := 24) rfl dX10_init_323 ?_
  refine j_bipush (v := 18) rfl dX10_init_325 ?_
  replace hr := m_bind hr; obtain ⟨h121, g122, hr⟩ := hr
  refine j_iastore dX10_init_327 g122 ?_
  refine j_dup rfl dX10_init_328 ?_
  refine j_bipush (v := 25) rfl dX10_init_329 ?_
  refine j_bipush (v := 44) rfl dX10_init_331 ?_
  replace hr := m_bind hr; obtain ⟨h123, g124, hr⟩ := hr
  refine j_iastore dX10_init_333 g124 ?_
  refine j_dup rfl dX10_init_334 ?_
  refine j_bipush (v := 26) rfl dX10_init_335 ?_
  refine j_bipush (v := 19) rfl dX10_init_337 ?_
  replace hr := m_bind hr; obtain ⟨h125, g126, hr⟩ := hr
  refine j_iastore dX10_init_339 g126 ?_
  refine j_dup rfl dX10_init_340 ?_
  refine j_bipush (v := 27) rfl dX10_init_341 ?_
  refine j_bipush (v := 48) rfl dX10_init_343 ?_
  replace hr := m_bind hr; obtain ⟨h127, g128, hr⟩ := hr
  refine j_iastore dX10_init_345 g128 ?_
  refine j_dup rfl dX10_init_346 ?_
  refine j_bipush (v := 28) rfl dX10_init_347 ?_
  refine j_bipush (v := 20) rfl dX10_init_349 ?_
  replace hr := m_bind hr; obtain ⟨h129, g130, hr⟩ := hr
  refine j_iastore dX10_init_351 g130 ?_
  refine j_dup rfl dX10_init_352 ?_
  refine j_bipush (v := 29) rfl dX10_init_353 ?_
  refine j_bipush (v := 41) rfl dX10_init_355 ?_
  replace hr := m_bind hr; obtain ⟨h131, g132, hr⟩ := hr
  refine j_iastore dX10_init_357 g132 ?_
  refine j_dup rfl dX10_init_358 ?_
  refine j_bipush (v := 30) rfl dX10_init_359 ?_
  refine j_bipush (v := 21) rfl dX10_init_361 ?_
  replace hr := m_bind hr; obtain ⟨h133, g134, hr⟩ := hr
  refine j_iastore dX10_init_363 g134 ?_
  refine j_dup rfl dX10_init_364 ?_
  refine j_bipush (v := 31) rfl dX10_init_365 ?_
  refine j_bipush (v := 43) rfl dX10_init_367 ?_
  replace hr := m_bind hr; obtain ⟨h135, g136, hr⟩ := hr
  refine j_iastore dX10_init_369 g136 ?_
  refine j_dup rfl dX10_init_370 ?_
  refine j_bipush (v := 32) rfl dX10_init_371 ?_
  refine j_bipush (v := 22) rfl dX10_init_373 ?_
  replace hr := m_bind hr; obtain ⟨h137, g138, hr⟩ := hr
  refine j_iastore dX10_init_375 g138 ?_
  refine j_dup rfl dX10_init_376 ?_
  refine j_bipush (v := 33) rfl dX10_init_377 ?_
  refine j_bipush (v := 47) rfl dX10_init_379 ?_
  replace hr := m_bind hr; obtain ⟨h139, g140, hr⟩ := hr
  refine j_iastore dX10_init_381 g140 ?_
  refine j_dup rfl dX10_init_382 ?_
  refine j_bipush (v := 34) rfl dX10_init_383 ?_
  refine j_bipush (v := 23) rfl dX10_init_385 ?_
  replace hr := m_bind hr; obtain ⟨h141, g142, hr⟩ := hr
  refine j_iastore dX10_init_387 g142 ?_
  refine j_dup rfl dX10_init_388 ?_
  refine j_bipush (v := 35) rfl dX10_init_389 ?_
  refine j_bipush (v := 46) rfl dX10_init_391 ?_
  replace hr := m_bind hr; obtain ⟨h143, g144, hr⟩ := hr
  refine j_iastore dX10_init_393 g144 ?_
  replace hr := m_bind hr; obtain ⟨h145, g146, hr⟩ := hr
  refine j_putrF (q := (some h69.1)) (C := RX10) (T := TX10) (ty := tyX10) (N := 30) (ci := 9) (k := 2) rfl (by decide) inX10 tyX10_ok nmX10 tw_3_195 rfl rfl rfl rfl dX10_init_394 g146 ?_
  refine j_aload_n (i := 0) rfl rfl dX10_init_397 ?_
  refine j_bipush (v := 12) rfl dX10_init_398 ?_
  replace hr := m_bind hr; obtain ⟨h147, g148, hr⟩ := hr
  refine j_newi dX10_init_400 g148 ?_
  refine j_dup rfl dX10_init_402 ?_
  refine j_iconst (v := 0) rfl dX10_init_403 ?_
  refine j_bipush (v := 41) rfl dX10_init_404 ?_
  replace hr := m_bind hr; obtain ⟨h149, g150, hr⟩ := hr
  refine j_iastore dX10_init_406 g150 ?_
  refine j_dup rfl dX10_init_407 ?_
  refine j_iconst (v := 1) rfl dX10_init_408 ?_
  refine j_bipush (v := 40) rfl dX10_init_409 ?_
  replace hr := m_bind hr; obtain ⟨h151, g152, hr⟩ := hr
  refine j_iastore dX10_init_411 g152 ?_
  refine j_dup rfl dX10_init_412 ?_
  refine j_iconst (v := 2) rfl dX10_init_413 ?_
  refine j_bipush (v := 42) rfl dX10_init_414 ?_
  replace hr := m_bind hr; obtain ⟨h153, g154, hr⟩ := hr
  refine j_iastore dX10_init_416 g154 ?_
  refine j_dup rfl dX10_init_417 ?_
  refine j_iconst (v := 3) rfl dX10_init_418 ?_
  refine j_bipush (v := 40) rfl dX10_init_419 ?_
  replace hr := m_bind hr; obtain ⟨h155, g156, hr⟩ := hr
  refine j_iastore dX10_init_421 g156 ?_
  refine j_dup rfl dX10_init_422 ?_
  refine j_iconst (v := 4) rfl dX10_init_423 ?_
  refine j_bipush (v := 46) rfl dX10_init_424 ?_
  replace hr := m_bind hr; obtain ⟨h157, g158, hr⟩ := hr
  refine j_iastore dX10_init_426 g158 ?_
  refine j_dup rfl dX10_init_427 ?_
  refine j_iconst (v := 5) rfl dX10_init_428 ?_
  refine j_bipush (v := 45) rfl dX10_init_429 ?_
  replace hr := m_bind hr; obtain ⟨h159, g160, hr⟩ := hr
  refine j_iastore dX10_init_431 g160 ?_
  refine j_dup rfl dX10_init_432 ?_
  refine j_bipush (v := 6) rfl dX10_init_433 ?_
  refine j_bipush (v := 47) rfl dX10_init_435 ?_
  replace hr := m_bind hr; obtain ⟨h161, g162, hr⟩ := hr
  refine j_iastore dX10_init_437 g162 ?_
  refine j_dup rfl dX10_init_438 ?_
  refine j_bipush (v := 7) rfl dX10_init_439 ?_
  refine j_bipush (v := 45) rfl dX10_init_441 ?_
  replace hr := m_bind hr; obtain ⟨h163, g164, hr⟩ := hr
  refine j_iastore dX10_init_443 g164 ?_
  refine j_dup rfl dX10_init_444 ?_
  refine j_bipush (v := 8) rfl dX10_init_445 ?_
  refine j_bipush (v := 48) rfl dX10_init_447 ?_
  replace hr := m_bind hr; obtain ⟨h165, g166, hr⟩ := hr
  refine j_iastore dX10_init_449 g166 ?_
  refine j_dup rfl dX10_init_450 ?_
  refine j_bipush (v := 9) rfl dX10_init_451 ?_
  refine j_bipush (v := 47) rfl dX10_init_453 ?_
  replace hr := m_bind hr; obtain ⟨h167, g168, hr⟩ := hr
  refine j_iastore dX10_init_455 g168 ?_
  refine j_dup rfl dX10_init_456 ?_
  refine j_bipush (v := 10) rfl dX10_init_457 ?_
  refine j_bipush (v := 48) rfl dX10_init_459 ?_
  replace hr := m_bind hr; obtain ⟨h169, g170, hr⟩ := hr
  refine j_iastore dX10_init_461 g170 ?_
  refine j_dup rfl dX10_init_462 ?_
  refine j_bipush (v := 11) rfl dX10_init_463 ?_
  refine j_bipush (v := 43) rfl dX10_init_465 ?_
  replace hr := m_bind hr; obtain ⟨h171, g172, hr⟩ := hr
  refine j_iastore dX10_init_467 g172 ?_
  replace hr := m_bind hr; obtain ⟨h173, g174, hr⟩ := hr
  refine j_putrF (q := (some h145.1)) (C := RX10) (T := TX10) (ty := tyX10) (N := 30) (ci := 9) (k := 3) rfl (by decide) inX10 tyX10_ok nmX10 tw_3_196 rfl rfl rfl rfl dX10_init_468 g174 ?_
  refine j_aload_n (i := 0) rfl rfl dX10_init_471 ?_
  refine j_iconst (v := 5) rfl dX10_init_472 ?_
  replace hr := m_bind hr; obtain ⟨h175, g176, hr⟩ := hr
  refine j_newi dX10_init_473 g176 ?_
  refine j_dup rfl dX10_init_475 ?_
  refine j_iconst (v := 0) rfl dX10_init_476 ?_
  refine j_bipush (v := 9) rfl dX10_init_477 ?_
  replace hr := m_bind hr; obtain ⟨h177, g178, hr⟩ := hr
  refine j_iastore dX10_init_479 g178 ?_
  refine j_dup rfl dX10_init_480 ?_
  refine j_iconst (v := 1) rfl dX10_init_481 ?_
  refine j_bipush (v := 99) rfl dX10_init_482 ?_
  replace hr := m_bind hr; obtain ⟨h179, g180, hr⟩ := hr
  refine j_iastore dX10_init_484 g180 ?_
  refine j_dup rfl dX10_init_485 ?_
  refine j_iconst (v := 2) rfl dX10_init_486 ?_
  refine j_sipush (v := 365) rfl dX10_init_487 ?_
  replace hr := m_bind hr; obtain ⟨h181, g182, hr⟩ := hr
  refine j_iastore dX10_init_490 g182 ?_
  refine j_dup rfl dX10_init_491 ?_
  refine j_iconst (v := 3) rfl dX10_init_492 ?_
  refine j_sipush (v := 1000) rfl dX10_init_493 ?_
  replace hr := m_bind hr; obtain ⟨h183, g184, hr⟩ := hr
  refine j_iastore dX10_init_496 g184 ?_
  refine j_dup rfl dX10_init_497 ?_
  refine j_iconst (v := 4) rfl dX10_init_498 ?_
  refine j_bipush (v := 9) rfl dX10_init_499 ?_
  replace hr := m_bind hr; obtain ⟨h185, g186, hr⟩ := hr
  refine j_iastore dX10_init_501 g186 ?_
  replace hr := m_bind hr; obtain ⟨h187, g188, hr⟩ := hr
  refine j_putrF (q := (some h173.1)) (C := RX10) (T := TX10) (ty := tyX10) (N := 30) (ci := 9) (k := 4) rfl (by decide) inX10 tyX10_ok nmX10 tw_3_197 rfl rfl rfl rfl dX10_init_502 g188 ?_
  refine j_aload_n (i := 0) rfl rfl dX10_init_505 ?_
  refine j_sipush (v := 245) rfl dX10_init_506 ?_
  replace hr := m_bind hr; obtain ⟨h189, g190, hr⟩ := hr
  refine j_newi dX10_init_509 g190 ?_
  replace hr := m_bind hr; obtain ⟨h191, g192, hr⟩ := hr
  refine j_putrF (q := (some h187.1)) (C := RX10) (T := TX10) (ty := tyX10) (N := 30) (ci := 9) (k := 5) rfl (by decide) inX10 tyX10_ok nmX10 tw_3_198 rfl rfl rfl rfl dX10_init_511 g192 ?_
  refine j_aload_n (i := 0) rfl rfl dX10_init_514 ?_
  refine j_sipush (v := 300) rfl dX10_init_515 ?_
  replace hr := m_bind hr; obtain ⟨h193, g194, hr⟩ := hr
  refine j_newi dX10_init_518 g194 ?_
  replace hr := m_bind hr; obtain ⟨h195, g196, hr⟩ := hr
  refine j_putrF (q := (some h191.1)) (C := RX10) (T := TX10) (ty := tyX10) (N := 30) (ci := 9) (k := 7) rfl (by decide) inX10 tyX10_ok nmX10 tw_3_200 rfl rfl rfl rfl dX10_init_520 g196 ?_
  refine j_aload_n (i := 0) rfl rfl dX10_init_523 ?_
  refine j_sipush (v := 300) rfl dX10_init_524 ?_
  replace hr := m_bind hr; obtain ⟨h197, g198, hr⟩ := hr
  refine j_newi dX10_init_527 g198 ?_
  replace hr := m_bind hr; obtain ⟨h199, g200, hr⟩ := hr
  refine j_putrF (q := (some h195.1)) (C := RX10) (T := TX10) (ty := tyX10) (N := 30) (ci := 9) (k := 8) rfl (by decide) inX10 tyX10_ok nmX10 tw_3_201 rfl rfl rfl rfl dX10_init_529 g200 ?_
  refine j_aload_n (i := 0) rfl rfl dX10_init_532 ?_
  refine j_sipush (v := 300) rfl dX10_init_533 ?_
  replace hr := m_bind hr; obtain ⟨h201, g202, hr⟩ := hr
  refine j_newi dX10_init_536 g202 ?_
  replace hr := m_bind hr; obtain ⟨h203, g204, hr⟩ := hr
  refine j_putrF (q := (some h199.1)) (C := RX10) (T := TX10) (ty := tyX10) (N := 30) (ci := 9) (k := 9) rfl (by decide) inX10 tyX10_ok nmX10 tw_3_202 rfl rfl rfl rfl dX10_init_538 g204 ?_
  refine j_aload_n (i := 0) rfl rfl dX10_init_541 ?_
  refine j_sipush (v := 300) rfl dX10_init_542 ?_
  replace hr := m_bind hr; obtain ⟨h205, g206, hr⟩ := hr
  refine j_newi dX10_init_545 g206 ?_
  replace hr := m_bind hr; obtain ⟨h207, g208, hr⟩ := hr
  refine j_putrF (q := (some h203.1)) (C := RX10) (T := TX10) (ty := tyX10) (N := 30) (ci := 9) (k := 10) rfl (by decide) inX10 tyX10_ok nmX10 tw_3_203 rfl rfl rfl rfl dX10_init_547 g208 ?_
  refine j_aload_n (i := 0) rfl rfl dX10_init_550 ?_
  refine j_sipush (v := 300) rfl dX10_init_551 ?_
  replace hr := m_bind hr; obtain ⟨h209, g210, hr⟩ := hr
  refine j_newi dX10_init_554 g210 ?_
  replace hr := m_bind hr; obtain ⟨h211, g212, hr⟩ := hr
  refine j_putrF (q := (some h207.1)) (C := RX10) (T := TX10) (ty := tyX10) (N := 30) (ci := 9) (k := 11) rfl (by decide) inX10 tyX10_ok nmX10 tw_3_204 rfl rfl rfl rfl dX10_init_556 g212 ?_
  refine j_aload_n (i := 0) rfl rfl dX10_init_559 ?_
  refine j_sipush (v := 300) rfl dX10_init_560 ?_
  replace hr := m_bind hr; obtain ⟨h213, g214, hr⟩ := hr
  refine j_newi dX10_init_563 g214 ?_
  replace hr := m_bind hr; obtain ⟨h215, g216, hr⟩ := hr
  refine j_putrF (q := (some h211.1)) (C := RX10) (T := TX10) (ty := tyX10) (N := 30) (ci := 9) (k := 12) rfl (by decide) inX10 tyX10_ok nmX10 tw_3_205 rfl rfl rfl rfl dX10_init_565 g216 ?_
  refine j_aload_n (i := 0) rfl rfl dX10_init_568 ?_
  refine j_sipush (v := 300) rfl dX10_init_569 ?_
  replace hr := m_bind hr; obtain ⟨h217, g218, hr⟩ := hr
  refine j_newi dX10_init_572 g218 ?_
  replace hr := m_bind hr; obtain ⟨h219, g220, hr⟩ := hr
  refine j_putrF (q := (some h215.1)) (C := RX10) (T := TX10) (ty := tyX10) (N := 30) (ci := 9) (k := 13) rfl (by decide) inX10 tyX10_ok nmX10 tw_3_206 rfl rfl rfl rfl dX10_init_574 g220 ?_
  refine j_aload_n (i := 0) rfl rfl dX10_init_577 ?_
  refine j_sipush (v := 300) rfl dX10_init_578 ?_
  replace hr := m_bind hr; obtain ⟨h221, g222, hr⟩ := hr
  refine j_newi dX10_init_581 g222 ?_
  replace hr := m_bind hr; obtain ⟨h223, g224, hr⟩ := hr
  refine j_putrF (q := (some h219.1)) (C := RX10) (T := TX10) (ty := tyX10) (N := 30) (ci := 9) (k := 14) rfl (by decide) inX10 tyX10_ok nmX10 tw_3_207 rfl rfl rfl rfl dX10_init_583 g224 ?_
  refine j_aload_n (i := 0) rfl rfl dX10_init_586 ?_
  refine j_sipush (v := 300) rfl dX10_init_587 ?_
  replace hr := m_bind hr; obtain ⟨h225, g226, hr⟩ := hr
  refine j_newi dX10_init_590 g226 ?_
  replace hr := m_bind hr; obtain ⟨h227, g228, hr⟩ := hr
  refine j_putrF (q := (some h223.1)) (C := RX10) (T := TX10) (ty := tyX10) (N := 30) (ci := 9) (k := 15) rfl (by decide) inX10 tyX10_ok nmX10 tw_3_208 rfl rfl rfl rfl dX10_init_592 g228 ?_
  refine j_aload_n (i := 0) rfl rfl dX10_init_595 ?_
  refine j_sipush (v := 300) rfl dX10_init_596 ?_
  replace hr := m_bind hr; obtain ⟨h229, g230, hr⟩ := hr
  refine j_newi dX10_init_599 g230 ?_
  replace hr := m_bind hr; obtain ⟨h231, g232, hr⟩ := hr
  refine j_putrF (q := (some h227.1)) (C := RX10) (T := TX10) (ty := tyX10) (N := 30) (ci := 9) (k := 16) rfl (by decide) inX10 tyX10_ok nmX10 tw_3_209 rfl rfl rfl rfl dX10_init_601 g232 ?_
  refine j_aload_n (i := 0) rfl rfl dX10_init_604 ?_
  refine j_bipush (v := 40) rfl dX10_init_605 ?_
  replace hr := m_bind hr; obtain ⟨h233, g234, hr⟩ := hr
  refine j_newi dX10_init_607 g234 ?_
  replace hr := m_bind hr; obtain ⟨h235, g236, hr⟩ := hr
  refine j_putrF (q := (some h231.1)) (C := RX10) (T := TX10) (ty := tyX10) (N := 30) (ci := 9) (k := 18) rfl (by decide) inX10 tyX10_ok nmX10 tw_3_211 rfl rfl rfl rfl dX10_init_609 g236 ?_
  refine j_aload_n (i := 0) rfl rfl dX10_init_612 ?_
  refine j_bipush (v := 40) rfl dX10_init_613 ?_
  replace hr := m_bind hr; obtain ⟨h237, g238, hr⟩ := hr
  refine j_newi dX10_init_615 g238 ?_
  replace hr := m_bind hr; obtain ⟨h239, g240, hr⟩ := hr
  refine j_putrF (q := (some h235.1)) (C := RX10) (T := TX10) (ty := tyX10) (N := 30) (ci := 9) (k := 19) rfl (by decide) inX10 tyX10_ok nmX10 tw_3_212 rfl rfl rfl rfl dX10_init_617 g240 ?_
  refine j_aload_n (i := 0) rfl rfl dX10_init_620 ?_
  refine j_bipush (v := 10) rfl dX10_init_621 ?_
  replace hr := m_bind hr; obtain ⟨h241, g242, hr⟩ := hr
  refine j_newi dX10_init_623 g242 ?_
  replace hr := m_bind hr; obtain ⟨h243, g244, hr⟩ := hr
  refine j_putrF (q := (some h239.1)) (C := RX10) (T := TX10) (ty := tyX10) (N := 30) (ci := 9) (k := 20) rfl (by decide) inX10 tyX10_ok nmX10 tw_3_213 rfl rfl rfl rfl dX10_init_625 g244 ?_
  refine j_aload_n (i := 0) rfl rfl dX10_init_628 ?_
  refine j_bipush (v := 10) rfl dX10_init_629 ?_
  replace hr := m_bind hr; obtain ⟨h245, g246, hr⟩ := hr
  refine j_newi dX10_init_631 g246 ?_
  replace hr := m_bind hr; obtain ⟨h247, g248, hr⟩ := hr
  refine j_putrF (q := (some h243.1)) (C := RX10) (T := TX10) (ty := tyX10) (N := 30) (ci := 9) (k := 21) rfl (by decide) inX10 tyX10_ok nmX10 tw_3_214 rfl rfl rfl rfl dX10_init_633 g248 ?_
  refine j_aload_n (i := 0) rfl rfl dX10_init_636 ?_
  refine j_bipush (v := 20) rfl dX10_init_637 ?_
  replace hr := m_bind hr; obtain ⟨h249, g250, hr⟩ := hr
  refine j_newi dX10_init_639 g250 ?_
  replace hr := m_bind hr; obtain ⟨h251, g252, hr⟩ := hr
  refine j_putrF (q := (some h247.1)) (C := RX10) (T := TX10) (ty := tyX10) (N := 30) (ci := 9) (k := 22) rfl (by decide) inX10 tyX10_ok nmX10 tw_3_215 rfl rfl rfl rfl dX10_init_641 g252 ?_
  refine j_aload_n (i := 0) rfl rfl dX10_init_644 ?_
  refine j_bipush (v := 10) rfl dX10_init_645 ?_
  replace hr := m_bind hr; obtain ⟨h253, g254, hr⟩ := hr
  refine j_newi dX10_init_647 g254 ?_
  replace hr := m_bind hr; obtain ⟨h255, g256, hr⟩ := hr
  refine j_putrF (q := (some h251.1)) (C := RX10) (T := TX10) (ty := tyX10) (N := 30) (ci := 9) (k := 24) rfl (by decide) inX10 tyX10_ok nmX10 tw_3_217 rfl rfl rfl rfl dX10_init_649 g256 ?_
  refine j_aload_n (i := 0) rfl rfl dX10_init_652 ?_
  refine j_sipush (v := 400) rfl dX10_init_653 ?_
  replace hr := m_bind hr; obtain ⟨h257, g258, hr⟩ := hr
  refine j_newi dX10_init_656 g258 ?_
  replace hr := m_bind hr; obtain ⟨h259, g260, hr⟩ := hr
  refine j_putrF (q := (some h255.1)) (C := RX10) (T := TX10) (ty := tyX10) (N := 30) (ci := 9) (k := 25) rfl (by decide) inX10 tyX10_ok nmX10 tw_3_218 rfl rfl rfl rfl dX10_init_658 g260 ?_
  refine j_aload_n (i := 0) rfl rfl dX10_init_661 ?_
  refine j_sipush (v := 400) rfl dX10_init_662 ?_
  replace hr := m_bind hr; obtain ⟨h261, g262, hr⟩ := hr
  refine j_newi dX10_init_665 g262 ?_
  replace hr := m_bind hr; obtain ⟨h263, g264, hr⟩ := hr
  refine j_putrF (q := (some h259.1)) (C := RX10) (T := TX10) (ty := tyX10) (N := 30) (ci := 9) (k := 26) rfl (by decide) inX10 tyX10_ok nmX10 tw_3_219 rfl rfl rfl rfl dX10_init_667 g264 ?_
  refine j_aload_n (i := 0) rfl rfl dX10_init_670 ?_
  refine j_sipush (v := 400) rfl dX10_init_671 ?_
  replace hr := m_bind hr; obtain ⟨h265, g266, hr⟩ := hr
  refine j_newi dX10_init_674 g266 ?_
  replace hr := m_bind hr; obtain ⟨h267, g268, hr⟩ := hr
  refine j_putrF (q := (some h263.1)) (C := RX10) (T := TX10) (ty := tyX10) (N := 30) (ci := 9) (k := 27) rfl (by decide) inX10 tyX10_ok nmX10 tw_3_220 rfl rfl rfl rfl dX10_init_676 g268 ?_
  refine j_aload_n (i := 0) rfl rfl dX10_init_679 ?_
  refine j_sipush (v := 400) rfl dX10_init_680 ?_
  replace hr := m_bind hr; obtain ⟨h269, g270, hr⟩ := hr
  refine j_newi dX10_init_683 g270 ?_
  replace hr := m_bind hr; obtain ⟨h271, g272, hr⟩ := hr
  refine j_putrF (q := (some h267.1)) (C := RX10) (T := TX10) (ty := tyX10) (N := 30) (ci := 9) (k := 28) rfl (by decide) inX10 tyX10_ok nmX10 tw_3_221 rfl rfl rfl rfl dX10_init_685 g272 ?_
  refine j_iconst (v := 0) rfl dX10_init_688 ?_
  refine j_istore_n (i := 1) (L' := [some (.ref a0), some (.int 0)]) rfl (Nat.le_of_ble_eq_true rfl) rfl rfl dX10_init_689 ?_
  replace hr := m_bind hr; obtain ⟨e281, q284, hr⟩ := hr
  refine j_weak (L' := [some (.ref a0), some (.int 0)]) (And.intro rfl (And.intro rfl trivial)) ?_
  refine m_loop_sound (step := w_X10_init_690 a0) (P := fun s_273 => m_J X Y_X10_init (d + 1) 690 [some (.ref a0), some (.int s_273.1)] [] s_273.2 (none, h')) (Qe := fun e281 => m_J X Y_X10_init (d + 1) 710 [none, none] [] e281 (none, h')) ?_ _ _ _ q284 ?_
  · intro s_273 o hr hk
    unfold w_X10_init_690 at hr
    refine j_iload_n (i := 1) rfl rfl dX10_init_690 ?_
    refine j_sipush (v := 245) rfl dX10_init_691 ?_
    refine j_ic_ge (tgt := 710) dX10_init_694 rfl (fun c274 => ?_) (fun c274 => ?_)
    · rw [if_pos c274] at hr
      cases hr
      exact j_weak (L' := [none, none]) trivial hk
    · rw [if_neg c274] at hr
      refine j_aload_n (i := 0) rfl rfl dX10_init_697 ?_
      replace hr := m_bind hr; obtain ⟨q275, g276, hr⟩ := hr
      refine j_getf (C := RX10) (T := TX10) (N := 30) (ci := 9) (k := 5) rfl (by decide) inX10 tw_3_198 dX10_init_698 (m_gr_spec g276) ?_
      refine j_iload_n (i := 1) rfl rfl dX10_init_701 ?_
      refine j_iconst (v := (-1)) rfl dX10_init_702 ?_
      replace hr := m_bind hr; obtain ⟨b277, g278, hr⟩ := hr
      subst g278
      replace hr := m_bind hr; obtain ⟨h279, g280, hr⟩ := hr
      refine j_iastore dX10_init_703 g280 ?_
      refine j_iinc (i := 1) (v := s_273.1 + 1) (L' := [some (.ref a0), some (.int (s_273.1 + 1))]) rfl (m_o1 _) (Nat.le_of_ble_eq_true rfl) rfl rfl dX10_init_704 ?_
      refine j_goto (tgt := 690) dX10_init_707 rfl ?_
      cases hr
      exact j_weak (L' := [some (.ref a0), some (.int (s_273.1 + 1))]) (And.intro rfl (And.intro rfl trivial)) hk
  · skip
    cases hr
    exact j_ret dX10_init_710 m_rk_v
def f_X10_in (a0 : Int32) (a1 : Int32) (a2 : Int32) : Option (Int32) :=
  if a0 < a1 then
    some 0
  else
    if a2 < a0 then
      some 0
    else
      some 1
def Y_X10_in : mY := (yX10_in, cX10_in, 3, some (FieldType.boolean), .ireturn)
theorem ok_X10_in : m_Ok Y_X10_in := ⟨by decide +kernel, ⟨by decide +kernel, by decide +kernel⟩, tw_4_56, tw_1_7, by decide, Or.inr (Or.inl ⟨Or.inr rfl, rfl⟩)⟩
theorem nn_X10_in : (parseMethodDescriptor Y_X10_in.1.desc).map (fun q => q.parameters.length) = some 3 := by decide +kernel
set_option maxHeartbeats 4000000 in
set_option maxRecDepth 20000 in
theorem j_X10_in {X : mX} {h : mH} {d : Nat} {a0 : Int32} {a1 : Int32} {a2 : Int32} {rv : Int32} (hr : f_X10_in a0 a1 a2 = some rv) : m_J X Y_X10_in d 0 [some (.int a0), some (.int a1), some (.int a2)] [] h (some (.int rv), h) := by
  unfold f_X10_in at hr
  refine j_iload_n (i := 0) rfl rfl dX10_in_0 ?_
  refine j_iload_n (i := 1) rfl rfl dX10_in_1 ?_
  refine j_ic_lt (tgt := 14) dX10_in_2 rfl (fun c1 => ?_) (fun c1 => ?_)
  · rw [if_pos c1] at hr
    refine j_iconst (v := 0) rfl dX10_in_14 ?_
    cases hr
    exact j_ret dX10_in_15 m_rk_z0
  · rw [if_neg c1] at hr
    refine j_iload_n (i := 0) rfl rfl dX10_in_5 ?_
    refine j_iload_n (i := 2) rfl rfl dX10_in_6 ?_
    refine j_ic_gt (tgt := 14) dX10_in_7 rfl (fun c2 => ?_) (fun c2 => ?_)
    · rw [if_pos c2] at hr
      refine j_iconst (v := 0) rfl dX10_in_14 ?_
      cases hr
      exact j_ret dX10_in_15 m_rk_z0
    · rw [if_neg c2] at hr
      refine j_iconst (v := 1) rfl dX10_in_10 ?_
      refine j_goto (tgt := 15) dX10_in_11 rfl ?_
      cases hr
      exact j_ret dX10_in_15 m_rk_z1
def f_X10_isKind (a0 : Int32) : Option (Int32) :=
  (f_X10_in a0 0 23).bind fun r2 =>
  if r2 = 0 then some 0
  else if r2 = 1 then some 1 else none
def Y_X10_isKind : mY := (yX10_isKind, cX10_isKind, 1, some (FieldType.boolean), .ireturn)
theorem ok_X10_isKind : m_Ok Y_X10_isKind := ⟨by decide +kernel, ⟨by decide +kernel, by decide +kernel⟩, tw_4_53, tw_1_7, by decide, Or.inr (Or.inl ⟨Or.inr rfl, rfl⟩)⟩
theorem nn_X10_isKind : (parseMethodDescriptor Y_X10_isKind.1.desc).map (fun q => q.parameters.length) = some 1 := by decide +kernel
set_option maxHeartbeats 4000000 in
set_option maxRecDepth 20000 in
theorem j_X10_isKind {X : mX} {h : mH} {d : Nat} {a0 : Int32} {rv : Int32} (hd : 1 ≤ d) (hr : f_X10_isKind a0 = some rv) : m_J X Y_X10_isKind d 0 [some (.int a0)] [] h (some (.int rv), h) := by
  obtain ⟨d, rfl⟩ : ∃ k, d = k + 1 := ⟨d - 1, by omega⟩
  unfold f_X10_isKind at hr
  refine j_iload_n (i := 0) rfl rfl dX10_isKind_0 ?_
  refine j_iconst (v := 0) rfl dX10_isKind_1 ?_
  refine j_bipush (v := 23) rfl dX10_isKind_2 ?_
  replace hr := m_bind hr; obtain ⟨r2, g1, hr⟩ := hr
  refine j_callS (Y' := Y_X10_in) (as := [.int a0, .int 0, .int 23]) ok_X10_in [some (.int a0), some (.int 0), some (.int 23)] rfl rfl tw_4_54 tw_4_55 nn_X10_in (Nat.le_of_ble_eq_true rfl) dX10_isKind_4 (j_X10_in g1) ?_
  by_cases c3 : r2 = 0
  · rw [if_pos c3] at hr
    rw [c3]
    cases hr
    exact j_ret dX10_isKind_7 m_rk_z0
  · rw [if_neg c3] at hr
    by_cases c4 : r2 = 1
    · rw [if_pos c4] at hr
      rw [c4]
      cases hr
      exact j_ret dX10_isKind_7 m_rk_z1
    · rw [if_neg c4] at hr
      cases hr
def f_X10_isTrait (a0 : Int32) : Option (Int32) :=
  (f_X10_in a0 40 48).bind fun r2 =>
  if r2 = 0 then some 0
  else if r2 = 1 then some 1 else none
def Y_X10_isTrait : mY := (yX10_isTrait, cX10_isTrait, 1, some (FieldType.boolean), .ireturn)
theorem ok_X10_isTrait : m_Ok Y_X10_isTrait := ⟨by decide +kernel, ⟨by decide +kernel, by decide +kernel⟩, tw_4_59, tw_1_7, by decide, Or.inr (Or.inl ⟨Or.inr rfl, rfl⟩)⟩
theorem nn_X10_isTrait : (parseMethodDescriptor Y_X10_isTrait.1.desc).map (fun q => q.parameters.length) = some 1 := by decide +kernel
set_option maxHeartbeats 4000000 in
set_option maxRecDepth 20000 in
theorem j_X10_isTrait {X : mX} {h : mH} {d : Nat} {a0 : Int32} {rv : Int32} (hd : 1 ≤ d) (hr : f_X10_isTrait a0 = some rv) : m_J X Y_X10_isTrait d 0 [some (.int a0)] [] h (some (.int rv), h) := by
  obtain ⟨d, rfl⟩ : ∃ k, d = k + 1 := ⟨d - 1, by omega⟩
  unfold f_X10_isTrait at hr
  refine j_iload_n (i := 0) rfl rfl dX10_isTrait_0 ?_
  refine j_bipush (v := 40) rfl dX10_isTrait_1 ?_
  refine j_bipush (v := 48) rfl dX10_isTrait_3 ?_
  replace hr := m_bind hr; obtain ⟨r2, g1, hr⟩ := hr
  refine j_callS (Y' := Y_X10_in) (as := [.int a0, .int 40, .int 48]) ok_X10_in [some (.int a0), some (.int 40), some (.int 48)] rfl rfl tw_4_54 tw_4_55 nn_X10_in (Nat.le_of_ble_eq_true rfl) dX10_isTrait_5 (j_X10_in g1) ?_
  by_cases c3 : r2 = 0
  · rw [if_pos c3] at hr
    rw [c3]
    cases hr
    exact j_ret dX10_isTrait_8 m_rk_z0
  · rw [if_neg c3] at hr
    by_cases c4 : r2 = 1
    · rw [if_pos c4] at hr
      rw [c4]
      cases hr
      exact j_ret dX10_isTrait_8 m_rk_z1
    · rw [if_neg c4] at hr
      cases hr
def f_X10_isCode (a0 : Int32) : Option (Int32) :=
  (f_X10_isKind a0).bind fun r2 =>
  if r2 = 0 then
    (f_X10_isTrait a0).bind fun r5 =>
    if r5 = 0 then
      some 0
    else
      some 1
  else
    some 1
def Y_X10_isCode : mY := (yX10_isCode, cX10_isCode, 1, some (FieldType.boolean), .ireturn)
theorem ok_X10_isCode : m_Ok Y_X10_isCode := ⟨by decide +kernel, ⟨by decide +kernel, by decide +kernel⟩, tw_4_50, tw_1_7, by decide, Or.inr (Or.inl ⟨Or.inr rfl, rfl⟩)⟩
theorem nn_X10_isCode : (parseMethodDescriptor Y_X10_isCode.1.desc).map (fun q => q.parameters.length) = some 1 := by decide +kernel
set_option maxHeartbeats 4000000 in
set_option maxRecDepth 20000 in
theorem j_X10_isCode {X : mX} {h : mH} {d : Nat} {a0 : Int32} {rv : Int32} (hd : 2 ≤ d) (hr : f_X10_isCode a0 = some rv) : m_J X Y_X10_isCode d 0 [some (.int a0)] [] h (some (.int rv), h) := by
  obtain ⟨d, rfl⟩ : ∃ k, d = k + 1 := ⟨d - 1, by omega⟩
  unfold f_X10_isCode at hr
  refine j_iload_n (i := 0) rfl rfl dX10_isCode_0 ?_
  replace hr := m_bind hr; obtain ⟨r2, g1, hr⟩ := hr
  refine j_callS (Y' := Y_X10_isKind) (as := [.int a0]) ok_X10_isKind [some (.int a0)] rfl rfl tw_4_51 tw_4_52 nn_X10_isKind (Nat.le_of_ble_eq_true rfl) dX10_isCode_1 (j_X10_isKind (by omega) g1) ?_
  refine j_if_ne (tgt := 14) dX10_isCode_4 rfl (fun c3 => ?_) (fun c3 => ?_)
  · rw [if_neg c3] at hr
    refine j_iconst (v := 1) rfl dX10_isCode_14 ?_
    refine j_goto (tgt := 19) dX10_isCode_15 rfl ?_
    cases hr
    exact j_ret dX10_isCode_19 m_rk_z1
  · rw [if_pos c3] at hr
    refine j_iload_n (i := 0) rfl rfl dX10_isCode_7 ?_
    replace hr := m_bind hr; obtain ⟨r5, g4, hr⟩ := hr
    refine j_callS (Y' := Y_X10_isTrait) (as := [.int a0]) ok_X10_isTrait [some (.int a0)] rfl rfl tw_4_57 tw_4_58 nn_X10_isTrait (Nat.le_of_ble_eq_true rfl) dX10_isCode_8 (j_X10_isTrait (by omega) g4) ?_
    refine j_if_eq (tgt := 18) dX10_isCode_11 rfl (fun c6 => ?_) (fun c6 => ?_)
    · rw [if_pos c6] at hr
      refine j_iconst (v := 0) rfl dX10_isCode_18 ?_
      cases hr
      exact j_ret dX10_isCode_19 m_rk_z0
    · rw [if_neg c6] at hr
      refine j_iconst (v := 1) rfl dX10_isCode_14 ?_
      refine j_goto (tgt := 19) dX10_isCode_15 rfl ?_
      cases hr
      exact j_ret dX10_isCode_19 m_rk_z1
def f_X10_isSpecimen (h : mH) (a0 : Nat) (a1 : Int32) : Option (Int32) :=
  (m_gi h a0 9 6).bind fun x1 =>
  (f_X10_in a1 0 (x1 - 1)).bind fun r4 =>
  if r4 = 0 then some 0
  else if r4 = 1 then some 1 else none
def Y_X10_isSpecimen : mY := (yX10_isSpecimen, cX10_isSpecimen, 2, some (FieldType.boolean), .ireturn)
theorem ok_X10_isSpecimen : m_Ok Y_X10_isSpecimen := ⟨by decide +kernel, ⟨by decide +kernel, by decide +kernel⟩, tw_4_116, tw_1_7, by decide, Or.inr (Or.inl ⟨Or.inr rfl, rfl⟩)⟩
theorem nn_X10_isSpecimen : (parseMethodDescriptor Y_X10_isSpecimen.1.desc).map (fun q => q.parameters.length) = some 1 := by decide +kernel
set_option maxHeartbeats 4000000 in
set_option maxRecDepth 20000 in
theorem j_X10_isSpecimen {X : mX} {d : Nat} {h : mH} {a0 : Nat} {a1 : Int32} {rv : Int32} (hd : 1 ≤ d) (hr : f_X10_isSpecimen h a0 a1 = some rv) : m_J X Y_X10_isSpecimen d 0 [some (.ref a0), some (.int a1)] [] h (some (.int rv), h) := by
  obtain ⟨d, rfl⟩ : ∃ k, d = k + 1 := ⟨d - 1, by omega⟩
  unfold f_X10_isSpecimen at hr
  refine j_iload_n (i := 1) rfl rfl dX10_isSpecimen_0 ?_
  refine j_iconst (v := 0) rfl dX10_isSpecimen_1 ?_
  refine j_aload_n (i := 0) rfl rfl dX10_isSpecimen_2 ?_
  replace hr := m_bind hr; obtain ⟨x1, g2, hr⟩ := hr
  refine j_getf (C := RX10) (T := TX10) (N := 30) (ci := 9) (k := 6) rfl (by decide) inX10 tw_3_199 dX10_isSpecimen_3 (m_gi_spec g2) ?_
  refine j_iconst (v := 1) rfl dX10_isSpecimen_6 ?_
  refine j_isub dX10_isSpecimen_7 ?_
  replace hr := m_bind hr; obtain ⟨r4, g3, hr⟩ := hr
  refine j_callS (Y' := Y_X10_in) (as := [.int a1, .int 0, .int (x1 - 1)]) ok_X10_in [some (.int a1), some (.int 0), some (.int (x1 - 1))] rfl rfl tw_4_54 tw_4_55 nn_X10_in (Nat.le_of_ble_eq_true rfl) dX10_isSpecimen_8 (j_X10_in g3) ?_
  by_cases c5 : r4 = 0
  · rw [if_pos c5] at hr
    rw [c5]
    cases hr
    exact j_ret dX10_isSpecimen_11 m_rk_z0
  · rw [if_neg c5] at hr
    by_cases c6 : r4 = 1
    · rw [if_pos c6] at hr
      rw [c6]
      cases hr
      exact j_ret dX10_isSpecimen_11 m_rk_z1
    · rw [if_neg c6] at hr
      cases hr
def w_X10_isAbstract_4 (h : mH) (a0 : Nat) (a1 : Int32) : (Int32 × Int32) → Option ((Int32 × Int32) ⊕ (Int32)) := fun s_1 =>
  if 7 ≤ s_1.2 then
    some (.inr s_1.1)
  else
    if s_1.1 = 0 then
      (m_gr h a0 9 1).bind fun q4 =>
      (q4).bind fun b6 =>
      (m_ild h b6 s_1.2).bind fun x8 =>
      if x8 = a1 then
        some (.inl (1, s_1.2 + 1))
      else
        some (.inl (0, s_1.2 + 1))
    else
      some (.inl (1, s_1.2 + 1))
def f_X10_isAbstract (h : mH) (a0 : Nat) (a1 : Int32) : Option (Int32) :=
  (m_loop (w_X10_isAbstract_4 h a0 a1) 5000 ((0, 0))).bind fun e11 =>
  if e11 = 0 then some 0
  else if e11 = 1 then some 1 else none
def Y_X10_isAbstract : mY := (yX10_isAbstract, cX10_isAbstract, 4, some (FieldType.boolean), .ireturn)
theorem ok_X10_isAbstract : m_Ok Y_X10_isAbstract := ⟨by decide +kernel, ⟨by decide +kernel, by decide +kernel⟩, tw_4_95, tw_1_7, by decide, Or.inr (Or.inl ⟨Or.inr rfl, rfl⟩)⟩
theorem nn_X10_isAbstract : (parseMethodDescriptor Y_X10_isAbstract.1.desc).map (fun q => q.parameters.length) = some 1 := by decide +kernel
set_option maxHeartbeats 4000000 in
set_option maxRecDepth 20000 in
theorem j_X10_isAbstract {X : mX} {d : Nat} {h : mH} {a0 : Nat} {a1 : Int32} {rv : Int32} (hr : f_X10_isAbstract h a0 a1 = some rv) : m_J X Y_X10_isAbstract d 0 [some (.ref a0), some (.int a1), none, none] [] h (some (.int rv), h) := by
  unfold f_X10_isAbstract at hr
  refine j_iconst (v := 0) rfl dX10_isAbstract_0 ?_
  refine j_istore_n (i := 2) (L' := [some (.ref a0), some (.int a1), some (.int 0), none]) rfl (Nat.le_of_ble_eq_true rfl) rfl rfl dX10_isAbstract_1 ?_
  refine j_iconst (v := 0) rfl dX10_isAbstract_2 ?_
  refine j_istore_n (i := 3) (L' := [some (.ref a0), some (.int a1), some (.int 0), some (.int 0)]) rfl (Nat.le_of_ble_eq_true rfl) rfl rfl dX10_isAbstract_3 ?_
  replace hr := m_bind hr; obtain ⟨e11, q16, hr⟩ := hr
  refine j_weak (L' := [some (.ref a0), some (.int a1), some (.int 0), some (.int 0)]) (And.intro rfl (And.intro rfl (And.intro rfl (And.intro rfl trivial)))) ?_
  refine m_loop_sound (step := w_X10_isAbstract_4 h a0 a1) (P := fun s_1 => m_J X Y_X10_isAbstract d 4 [some (.ref a0), some (.int a1), some (.int s_1.1), some (.int s_1.2)] [] h (some (.int rv), h)) (Qe := fun e11 => m_J X Y_X10_isAbstract d 36 [none, none, some (.int e11), none] [] h (some (.int rv), h)) ?_ _ _ _ q16 ?_
  · intro s_1 o hr hk
    unfold w_X10_isAbstract_4 at hr
    refine j_iload_n (i := 3) rfl rfl dX10_isAbstract_4 ?_
    refine j_bipush (v := 7) rfl dX10_isAbstract_5 ?_
    refine j_ic_ge (tgt := 36) dX10_isAbstract_7 rfl (fun c2 => ?_) (fun c2 => ?_)
    · rw [if_pos c2] at hr
      cases hr
      exact j_weak (L' := [none, none, some (.int s_1.1), none]) (And.intro rfl trivial) hk
    · rw [if_neg c2] at hr
      refine j_iload_n (i := 2) rfl rfl dX10_isAbstract_10 ?_
      refine j_if_ne (tgt := 24) dX10_isAbstract_11 rfl (fun c3 => ?_) (fun c3 => ?_)
      · rw [if_neg c3] at hr
        refine j_iconst (v := 1) rfl dX10_isAbstract_24 ?_
        refine j_goto (tgt := 29) dX10_isAbstract_25 rfl ?_
        refine j_istore_n (i := 2) (L' := [some (.ref a0), some (.int a1), some (.int 1), some (.int s_1.2)]) rfl (Nat.le_of_ble_eq_true rfl) rfl rfl dX10_isAbstract_29 ?_
        refine j_iinc (i := 3) (v := s_1.2 + 1) (L' := [some (.ref a0), some (.int a1), some (.int 1), some (.int (s_1.2 + 1))]) rfl (m_o1 _) (Nat.le_of_ble_eq_true rfl) rfl rfl dX10_isAbstract_30 ?_
        refine j_goto (tgt := 4) dX10_isAbstract_33 rfl ?_
        cases hr
        exact j_weak (L' := [some (.ref a0), some (.int a1), some (.int 1), some (.int (s_1.2 + 1))]) (And.intro rfl (And.intro rfl (And.intro rfl (And.intro rfl trivial)))) hk
      · rw [if_pos c3] at hr
        refine j_aload_n (i := 0) rfl rfl dX10_isAbstract_14 ?_
        replace hr := m_bind hr; obtain ⟨q4, g5, hr⟩ := hr
        refine j_getf (C := RX10) (T := TX10) (N := 30) (ci := 9) (k := 1) rfl (by decide) inX10 tw_3_194 dX10_isAbstract_15 (m_gr_spec g5) ?_
        refine j_iload_n (i := 3) rfl rfl dX10_isAbstract_18 ?_
        replace hr := m_bind hr; obtain ⟨b6, g7, hr⟩ := hr
        subst g7
        replace hr := m_bind hr; obtain ⟨x8, g9, hr⟩ := hr
        refine j_iaload dX10_isAbstract_19 g9 ?_
        refine j_iload_n (i := 1) rfl rfl dX10_isAbstract_20 ?_
        refine j_ic_ne (tgt := 28) dX10_isAbstract_21 rfl (fun c10 => ?_) (fun c10 => ?_)
        · rw [if_neg c10] at hr
          refine j_iconst (v := 0) rfl dX10_isAbstract_28 ?_
          refine j_istore_n (i := 2) (L' := [some (.ref a0), some (.int a1), some (.int 0), some (.int s_1.2)]) rfl (Nat.le_of_ble_eq_true rfl) rfl rfl dX10_isAbstract_29 ?_
          refine j_iinc (i := 3) (v := s_1.2 + 1) (L' := [some (.ref a0), some (.int a1), some (.int 0), some (.int (s_1.2 + 1))]) rfl (m_o1 _) (Nat.le_of_ble_eq_true rfl) rfl rfl dX10_isAbstract_30 ?_
          refine j_goto (tgt := 4) dX10_isAbstract_33 rfl ?_
          cases hr
          exact j_weak (L' := [some (.ref a0), some (.int a1), some (.int 0), some (.int (s_1.2 + 1))]) (And.intro rfl (And.intro rfl (And.intro rfl (And.intro rfl trivial)))) hk
        · rw [if_pos c10] at hr
          refine j_iconst (v := 1) rfl dX10_isAbstract_24 ?_
          refine j_goto (tgt := 29) dX10_isAbstract_25 rfl ?_
          refine j_istore_n (i := 2) (L' := [some (.ref a0), some (.int a1), some (.int 1), some (.int s_1.2)]) rfl (Nat.le_of_ble_eq_true rfl) rfl rfl dX10_isAbstract_29 ?_
          refine j_iinc (i := 3) (v := s_1.2 + 1) (L' := [some (.ref a0), some (.int a1), some (.int 1), some (.int (s_1.2 + 1))]) rfl (m_o1 _) (Nat.le_of_ble_eq_true rfl) rfl rfl dX10_isAbstract_30 ?_
          refine j_goto (tgt := 4) dX10_isAbstract_33 rfl ?_
          cases hr
          exact j_weak (L' := [some (.ref a0), some (.int a1), some (.int 1), some (.int (s_1.2 + 1))]) (And.intro rfl (And.intro rfl (And.intro rfl (And.intro rfl trivial)))) hk
  · skip
    refine j_iload_n (i := 2) rfl rfl dX10_isAbstract_36 ?_
    by_cases c12 : e11 = 0
    · rw [if_pos c12] at hr
      rw [c12]
      cases hr
      exact j_ret dX10_isAbstract_37 m_rk_z0
    · rw [if_neg c12] at hr
      by_cases c13 : e11 = 1
      · rw [if_pos c13] at hr
        rw [c13]
        cases hr
        exact j_ret dX10_isAbstract_37 m_rk_z1
      · rw [if_neg c13] at hr
        cases hr
def w_X10_traitAbove_55 (h : mH) (a0 : Nat) (a1 : Int32) (x15 : Int32) : Int32 → Option ((Int32) ⊕ ((Unit) ⊕ (Int32))) := fun s_18 =>
  if 12 ≤ s_18 then
    some (.inr (.inl ()))
  else
    (m_gr h a0 9 3).bind fun q20 =>
    (q20).bind fun b22 =>
    (m_ild h b22 s_18).bind fun x24 =>
    if x24 = x15 then
      (m_gr h a0 9 3).bind fun q27 =>
      (q27).bind fun b29 =>
      (m_ild h b29 (s_18 + 1)).bind fun x31 =>
      if x31 = a1 then
        some (.inr (.inr 1))
      else
        some (.inl (s_18 + 2))
    else
      some (.inl (s_18 + 2))
def w_X10_traitAbove_12 (h : mH) (a0 : Nat) (a1 : Int32) (a2 : Int32) : Int32 → Option ((Int32) ⊕ ((Unit) ⊕ (Int32))) := fun s_2 =>
  if 12 ≤ s_2 then
    some (.inr (.inl ()))
  else
    (m_gr h a0 9 3).bind fun q4 =>
    (q4).bind fun b6 =>
    (m_ild h b6 s_2).bind fun x8 =>
    if x8 = a2 then
      (m_gr h a0 9 3).bind fun q11 =>
      (q11).bind fun b13 =>
      (m_ild h b13 (s_2 + 1)).bind fun x15 =>
      if x15 = a1 then
        some (.inr (.inr 1))
      else
        (m_loop (w_X10_traitAbove_55 h a0 a1 x15) 5000 0).bind fun e34 => match e34 with
        | .inl x35 =>
          some (.inl (s_2 + 2))
        | .inr v37 => some (.inr (.inr v37))
    else
      some (.inl (s_2 + 2))
def f_X10_traitAbove (h : mH) (a0 : Nat) (a1 : Int32) (a2 : Int32) : Option (Int32) :=
  if a2 = a1 then
    some 1
  else
    (m_loop (w_X10_traitAbove_12 h a0 a1 a2) 5000 0).bind fun e39 => match e39 with
    | .inl x40 =>
      some 0
    | .inr v42 => some v42
def Y_X10_traitAbove : mY := (yX10_traitAbove, cX10_traitAbove, 7, some (FieldType.boolean), .ireturn)
theorem ok_X10_traitAbove : m_Ok Y_X10_traitAbove := ⟨by decide +kernel, ⟨by decide +kernel, by decide +kernel⟩, tw_4_71, tw_1_7, by decide, Or.inr (Or.inl ⟨Or.inr rfl, rfl⟩)⟩
theorem nn_X10_traitAbove : (parseMethodDescriptor Y_X10_traitAbove.1.desc).map (fun q => q.parameters.length) = some 2 := by decide +kernel
set_option maxHeartbeats 4000000 in
set_option maxRecDepth 20000 in
theorem j_X10_traitAbove {X : mX} {d : Nat} {h : mH} {a0 : Nat} {a1 : Int32} {a2 : Int32} {rv : Int32} (hr : f_X10_traitAbove h a0 a1 a2 = some rv) : m_J X Y_X10_traitAbove d 0 [some (.ref a0), some (.int a1), some (.int a2), none, none, none, none] [] h (some (.int rv), h) := by
  unfold f_X10_traitAbove at hr
  refine j_iload_n (i := 2) rfl rfl dX10_traitAbove_0 ?_
  refine j_istore_n (i := 3) (L' := [some (.ref a0), some (.int a1), some (.int a2), some (.int a2), none, none, none]) rfl (Nat.le_of_ble_eq_true rfl) rfl rfl dX10_traitAbove_1 ?_
  refine j_iload_n (i := 3) rfl rfl dX10_traitAbove_2 ?_
  refine j_iload_n (i := 1) rfl rfl dX10_traitAbove_3 ?_
  refine j_ic_ne (tgt := 9) dX10_traitAbove_4 rfl (fun c1 => ?_) (fun c1 => ?_)
  · rw [if_neg c1] at hr
    refine j_iconst (v := 0) rfl dX10_traitAbove_9 ?_
    refine j_istore (i := 4) (L' := [some (.ref a0), some (.int a1), some (.int a2), some (.int a2), some (.int 0), none, none]) (Nat.le_of_ble_eq_true rfl) rfl rfl dX10_traitAbove_10 ?_
    replace hr := m_bind hr; obtain ⟨e39, q43, hr⟩ := hr
    refine j_weak (L' := [some (.ref a0), some (.int a1), some (.int a2), none, some (.int 0), none, none]) (And.intro rfl (And.intro rfl (And.intro rfl (And.intro rfl trivial)))) ?_
    refine m_loop_sound (step := w_X10_traitAbove_12 h a0 a1 a2) (P := fun s_2 => m_J X Y_X10_traitAbove d 12 [some (.ref a0), some (.int a1), some (.int a2), none, some (.int s_2), none, none] [] h (some (.int rv), h)) (Qe := fun e39 => match e39 with | .inl x40 => m_J X Y_X10_traitAbove d 101 [none, none, none, none, none, none, none] [] h (some (.int rv), h) | .inr v42 => ((some (.int rv), h) : mR) = (some (.int v42), h)) ?_ _ _ _ q43 ?_
    · intro s_2 o hr hk
      unfold w_X10_traitAbove_12 at hr
      refine j_iload (i := 4) rfl dX10_traitAbove_12 ?_
      refine j_bipush (v := 12) rfl dX10_traitAbove_14 ?_
      refine j_ic_ge (tgt := 101) dX10_traitAbove_16 rfl (fun c3 => ?_) (fun c3 => ?_)
      · rw [if_pos c3] at hr
        cases hr
        exact j_weak (L' := [none, none, none, none, none, none, none]) trivial hk
      · rw [if_neg c3] at hr
        refine j_aload_n (i := 0) rfl rfl dX10_traitAbove_19 ?_
        replace hr := m_bind hr; obtain ⟨q4, g5, hr⟩ := hr
        refine j_getf (C := RX10) (T := TX10) (N := 30) (ci := 9) (k := 3) rfl (by decide) inX10 tw_3_196 dX10_traitAbove_20 (m_gr_spec g5) ?_
        refine j_iload (i := 4) rfl dX10_traitAbove_23 ?_
        replace hr := m_bind hr; obtain ⟨b6, g7, hr⟩ := hr
        subst g7
        replace hr := m_bind hr; obtain ⟨x8, g9, hr⟩ := hr
        refine j_iaload dX10_traitAbove_25 g9 ?_
        refine j_iload_n (i := 2) rfl rfl dX10_traitAbove_26 ?_
        refine j_ic_eq (tgt := 33) dX10_traitAbove_27 rfl (fun c10 => ?_) (fun c10 => ?_)
        · rw [if_pos c10] at hr
          refine j_aload_n (i := 0) rfl rfl dX10_traitAbove_33 ?_
          replace hr := m_bind hr; obtain ⟨q11, g12, hr⟩ := hr
          refine j_getf (C := RX10) (T := TX10) (N := 30) (ci := 9) (k := 3) rfl (by decide) inX10 tw_3_196 dX10_traitAbove_34 (m_gr_spec g12) ?_
          refine j_iload (i := 4) rfl dX10_traitAbove_37 ?_
          refine j_iconst (v := 1) rfl dX10_traitAbove_39 ?_
          refine j_iadd dX10_traitAbove_40 ?_
          replace hr := m_bind hr; obtain ⟨b13, g14, hr⟩ := hr
          subst g14
          replace hr := m_bind hr; obtain ⟨x15, g16, hr⟩ := hr
          refine j_iaload dX10_traitAbove_41 g16 ?_
          refine j_istore (i := 5) (L' := [some (.ref a0), some (.int a1), some (.int a2), none, some (.int s_2), some (.int x15), none]) (Nat.le_of_ble_eq_true rfl) rfl rfl dX10_traitAbove_42 ?_
          refine j_iload (i := 5) rfl dX10_traitAbove_44 ?_
          refine j_iload_n (i := 1) rfl rfl dX10_traitAbove_46 ?_
          refine j_ic_ne (tgt := 52) dX10_traitAbove_47 rfl (fun c17 => ?_) (fun c17 => ?_)
          · rw [if_neg c17] at hr
            refine j_iconst (v := 0) rfl dX10_traitAbove_52 ?_
            refine j_istore (i := 6) (L' := [some (.ref a0), some (.int a1), some (.int a2), none, some (.int s_2), some (.int x15), some (.int 0)]) (Nat.le_of_ble_eq_true rfl) rfl rfl dX10_traitAbove_53 ?_
            replace hr := m_bind hr; obtain ⟨e34, q38, hr⟩ := hr
            refine j_weak (L' := [some (.ref a0), some (.int a1), some (.int a2), none, some (.int s_2), some (.int x15), some (.int 0)]) (And.intro rfl (And.intro rfl (And.intro rfl (And.intro rfl (And.intro rfl (And.intro rfl trivial)))))) ?_
            refine m_loop_sound (step := w_X10_traitAbove_55 h a0 a1 x15) (P := fun s_18 => m_J X Y_X10_traitAbove d 55 [some (.ref a0), some (.int a1), some (.int a2), none, some (.int s_2), some (.int x15), some (.int s_18)] [] h (some (.int rv), h)) (Qe := fun e34 => match e34 with | .inl x35 => m_J X Y_X10_traitAbove d 95 [some (.ref a0), some (.int a1), some (.int a2), none, some (.int s_2), none, none] [] h (some (.int rv), h) | .inr v37 => ((some (.int rv), h) : mR) = (some (.int v37), h)) ?_ _ _ _ q38 ?_
            · intro s_18 o hr hk
              unfold w_X10_traitAbove_55 at hr
              refine j_iload (i := 6) rfl dX10_traitAbove_55 ?_
              refine j_bipush (v := 12) rfl dX10_traitAbove_57 ?_
              refine j_ic_ge (tgt := 95) dX10_traitAbove_59 rfl (fun c19 => ?_) (fun c19 => ?_)
              · rw [if_pos c19] at hr
                cases hr
                exact j_weak (L' := [some (.ref a0), some (.int a1), some (.int a2), none, some (.int s_2), none, none]) (And.intro rfl (And.intro rfl (And.intro rfl (And.intro rfl trivial)))) hk
              · rw [if_neg c19] at hr
                refine j_aload_n (i := 0) rfl rfl dX10_traitAbove_62 ?_
                replace hr := m_bind hr; obtain ⟨q20, g21, hr⟩ := hr
                refine j_getf (C := RX10) (T := TX10) (N := 30) (ci := 9) (k := 3) rfl (by decide) inX10 tw_3_196 dX10_traitAbove_63 (m_gr_spec g21) ?_
                refine j_iload (i := 6) rfl dX10_traitAbove_66 ?_
                replace hr := m_bind hr; obtain ⟨b22, g23, hr⟩ := hr
                subst g23
                replace hr := m_bind hr; obtain ⟨x24, g25, hr⟩ := hr
                refine j_iaload dX10_traitAbove_68 g25 ?_
                refine j_iload (i := 5) rfl dX10_traitAbove_69 ?_
                refine j_ic_ne (tgt := 89) dX10_traitAbove_71 rfl (fun c26 => ?_) (fun c26 => ?_)
                · rw [if_neg c26] at hr
                  refine j_iinc (i := 6) (v := s_18 + 2) (L' := [some (.ref a0), some (.int a1), some (.int a2), none, some (.int s_2), some (.int x15), some (.int (s_18 + 2))]) rfl (m_o2 _) (Nat.le_of_ble_eq_true rfl) rfl rfl dX10_traitAbove_89 ?_
                  refine j_goto (tgt := 55) dX10_traitAbove_92 rfl ?_
                  cases hr
                  exact j_weak (L' := [some (.ref a0), some (.int a1), some (.int a2), none, some (.int s_2), some (.int x15), some (.int (s_18 + 2))]) (And.intro rfl (And.intro rfl (And.intro rfl (And.intro rfl (And.intro rfl (And.intro rfl trivial)))))) hk
                · rw [if_pos c26] at hr
                  refine j_aload_n (i := 0) rfl rfl dX10_traitAbove_74 ?_
                  replace hr := m_bind hr; obtain ⟨q27, g28, hr⟩ := hr
                  refine j_getf (C := RX10) (T := TX10) (N := 30) (ci := 9) (k := 3) rfl (by decide) inX10 tw_3_196 dX10_traitAbove_75 (m_gr_spec g28) ?_
                  refine j_iload (i := 6) rfl dX10_traitAbove_78 ?_
                  refine j_iconst (v := 1) rfl dX10_traitAbove_80 ?_
                  refine j_iadd dX10_traitAbove_81 ?_
                  replace hr := m_bind hr; obtain ⟨b29, g30, hr⟩ := hr
                  subst g30
                  replace hr := m_bind hr; obtain ⟨x31, g32, hr⟩ := hr
                  refine j_iaload dX10_traitAbove_82 g32 ?_
                  refine j_iload_n (i := 1) rfl rfl dX10_traitAbove_83 ?_
                  refine j_ic_ne (tgt := 89) dX10_traitAbove_84 rfl (fun c33 => ?_) (fun c33 => ?_)
                  · rw [if_neg c33] at hr
                    refine j_iinc (i := 6) (v := s_18 + 2) (L' := [some (.ref a0), some (.int a1), some (.int a2), none, some (.int s_2), some (.int x15), some (.int (s_18 + 2))]) rfl (m_o2 _) (Nat.le_of_ble_eq_true rfl) rfl rfl dX10_traitAbove_89 ?_
                    refine j_goto (tgt := 55) dX10_traitAbove_92 rfl ?_
                    cases hr
                    exact j_weak (L' := [some (.ref a0), some (.int a1), some (.int a2), none, some (.int s_2), some (.int x15), some (.int (s_18 + 2))]) (And.intro rfl (And.intro rfl (And.intro rfl (And.intro rfl (And.intro rfl (And.intro rfl trivial)))))) hk
                  · rw [if_pos c33] at hr
                    refine j_iconst (v := 1) rfl dX10_traitAbove_87 ?_
                    cases hr
                    rw [show _ = _ from hk]
                    exact j_ret dX10_traitAbove_88 m_rk_z1
            · cases e34 with
              | inl x35 =>
                dsimp only at hr
                dsimp only
                refine j_iinc (i := 4) (v := s_2 + 2) (L' := [some (.ref a0), some (.int a1), some (.int a2), none, some (.int (s_2 + 2)), none, none]) rfl (m_o2 _) (Nat.le_of_ble_eq_true rfl) rfl rfl dX10_traitAbove_95 ?_
                refine j_goto (tgt := 12) dX10_traitAbove_98 rfl ?_
                cases hr
                exact j_weak (L' := [some (.ref a0), some (.int a1), some (.int a2), none, some (.int (s_2 + 2)), none, none]) (And.intro rfl (And.intro rfl (And.intro rfl (And.intro rfl trivial)))) hk
              | inr v37 =>
                dsimp only at hr
                cases hr
                exact hk
          · rw [if_pos c17] at hr
            refine j_iconst (v := 1) rfl dX10_traitAbove_50 ?_
            cases hr
            rw [show _ = _ from hk]
            exact j_ret dX10_traitAbove_51 m_rk_z1
        · rw [if_neg c10] at hr
          refine j_goto (tgt := 95) dX10_traitAbove_30 rfl ?_
          refine j_iinc (i := 4) (v := s_2 + 2) (L' := [some (.ref a0), some (.int a1), some (.int a2), none, some (.int (s_2 + 2)), none, none]) rfl (m_o2 _) (Nat.le_of_ble_eq_true rfl) rfl rfl dX10_traitAbove_95 ?_
          refine j_goto (tgt := 12) dX10_traitAbove_98 rfl ?_
          cases hr
          exact j_weak (L' := [some (.ref a0), some (.int a1), some (.int a2), none, some (.int (s_2 + 2)), none, none]) (And.intro rfl (And.intro rfl (And.intro rfl (And.intro rfl trivial)))) hk
    · cases e39 with
      | inl x40 =>
        dsimp only at hr
        dsimp only
        refine j_iconst (v := 0) rfl dX10_traitAbove_101 ?_
        cases hr
        exact j_ret dX10_traitAbove_102 m_rk_z0
      | inr v42 =>
        dsimp only at hr
        cases hr
        rfl
  · rw [if_pos c1] at hr
    refine j_iconst (v := 1) rfl dX10_traitAbove_7 ?_
    cases hr
    exact j_ret dX10_traitAbove_8 m_rk_z1
def w_X10_stepsTo_22 (h : mH) (a0 : Nat) (a2 : Int32) (s_1 : Int32 × Int32) : Int32 → Option ((Int32) ⊕ ((Unit) ⊕ (Int32))) := fun s_4 =>
  if 36 ≤ s_4 then
    some (.inr (.inl ()))
  else
    (f_X10_isTrait a2).bind fun r7 =>
    if r7 = 0 then
      some (.inr (.inl ()))
    else
      (m_gr h a0 9 2).bind fun q9 =>
      (q9).bind fun b11 =>
      (m_ild h b11 s_4).bind fun x13 =>
      if x13 = s_1.2 then
        (m_gr h a0 9 2).bind fun q16 =>
        (q16).bind fun b18 =>
        (m_ild h b18 (s_4 + 1)).bind fun x20 =>
        if m_ob h a0 9 = true then
          (f_X10_traitAbove h a0 a2 x20).bind fun r23 =>
          if r23 = 0 then
            some (.inl (s_4 + 2))
          else
            some (.inr (.inr s_1.1))
        else none
      else
        some (.inl (s_4 + 2))
def w_X10_stepsTo_5 (h : mH) (a0 : Nat) (a2 : Int32) : (Int32 × Int32) → Option ((Int32 × Int32) ⊕ ((Unit) ⊕ (Int32))) := fun s_1 =>
  if s_1.2 = ((-1)) then
    some (.inr (.inl ()))
  else
    if s_1.2 = a2 then
      some (.inr (.inr s_1.1))
    else
      (m_loop (w_X10_stepsTo_22 h a0 a2 s_1) 5000 0).bind fun e26 => match e26 with
      | .inl x27 =>
        (m_gr h a0 9 0).bind fun q28 =>
        (q28).bind fun b30 =>
        (m_ild h b30 s_1.2).bind fun x32 =>
        some (.inl (s_1.1 + 1, x32))
      | .inr v35 => some (.inr (.inr v35))
def f_X10_stepsTo (h : mH) (a0 : Nat) (a1 : Int32) (a2 : Int32) : Option (Int32) :=
  (m_loop (w_X10_stepsTo_5 h a0 a2) 5000 ((0, a1))).bind fun e37 => match e37 with
  | .inl x38 =>
    some ((-1))
  | .inr v40 => some v40
def Y_X10_stepsTo : mY := (yX10_stepsTo, cX10_stepsTo, 6, some (FieldType.int), .ireturn)
theorem ok_X10_stepsTo : m_Ok Y_X10_stepsTo := ⟨by decide +kernel, ⟨by decide +kernel, by decide +kernel⟩, tw_4_67, tw_1_7, by decide, Or.inr (Or.inl ⟨Or.inl rfl, rfl⟩)⟩
theorem nn_X10_stepsTo : (parseMethodDescriptor Y_X10_stepsTo.1.desc).map (fun q => q.parameters.length) = some 2 := by decide +kernel
set_option maxHeartbeats 4000000 in
set_option maxRecDepth 20000 in
theorem j_X10_stepsTo {X : mX} {d : Nat} {h : mH} {a0 : Nat} {a1 : Int32} {a2 : Int32} {rv : Int32} (hd : 2 ≤ d) (hr : f_X10_stepsTo h a0 a1 a2 = some rv) : m_J X Y_X10_stepsTo d 0 [some (.ref a0), some (.int a1), some (.int a2), none, none, none] [] h (some (.int rv), h) := by
  obtain ⟨d, rfl⟩ : ∃ k, d = k + 1 := ⟨d - 1, by omega⟩
  unfold f_X10_stepsTo at hr
  refine j_iconst (v := 0) rfl dX10_stepsTo_0 ?_
  refine j_istore_n (i := 3) (L' := [some (.ref a0), some (.int a1), some (.int a2), some (.int 0), none, none]) rfl (Nat.le_of_ble_eq_true rfl) rfl rfl dX10_stepsTo_1 ?_
  refine j_iload_n (i := 1) rfl rfl dX10_stepsTo_2 ?_
  refine j_istore (i := 4) (L' := [some (.ref a0), some (.int a1), some (.int a2), some (.int 0), some (.int a1), none]) (Nat.le_of_ble_eq_true rfl) rfl rfl dX10_stepsTo_3 ?_
  replace hr := m_bind hr; obtain ⟨e37, q41, hr⟩ := hr
  refine j_weak (L' := [some (.ref a0), none, some (.int a2), some (.int 0), some (.int a1), none]) (And.intro rfl (And.intro rfl (And.intro rfl (And.intro rfl trivial)))) ?_
  refine m_loop_sound (step := w_X10_stepsTo_5 h a0 a2) (P := fun s_1 => m_J X Y_X10_stepsTo (d + 1) 5 [some (.ref a0), none, some (.int a2), some (.int s_1.1), some (.int s_1.2), none] [] h (some (.int rv), h)) (Qe := fun e37 => match e37 with | .inl x38 => m_J X Y_X10_stepsTo (d + 1) 88 [none, none, none, none, none, none] [] h (some (.int rv), h) | .inr v40 => ((some (.int rv), h) : mR) = (some (.int v40), h)) ?_ _ _ _ q41 ?_
  · intro s_1 o hr hk
    unfold w_X10_stepsTo_5 at hr
    refine j_iload (i := 4) rfl dX10_stepsTo_5 ?_
    refine j_iconst (v := (-1)) rfl dX10_stepsTo_7 ?_
    refine j_ic_eq (tgt := 88) dX10_stepsTo_8 rfl (fun c2 => ?_) (fun c2 => ?_)
    · rw [if_pos c2] at hr
      cases hr
      exact j_weak (L' := [none, none, none, none, none, none]) trivial hk
    · rw [if_neg c2] at hr
      refine j_iload (i := 4) rfl dX10_stepsTo_11 ?_
      refine j_iload_n (i := 2) rfl rfl dX10_stepsTo_13 ?_
      refine j_ic_ne (tgt := 19) dX10_stepsTo_14 rfl (fun c3 => ?_) (fun c3 => ?_)
      · rw [if_neg c3] at hr
        refine j_iconst (v := 0) rfl dX10_stepsTo_19 ?_
        refine j_istore (i := 5) (L' := [some (.ref a0), none, some (.int a2), some (.int s_1.1), some (.int s_1.2), some (.int 0)]) (Nat.le_of_ble_eq_true rfl) rfl rfl dX10_stepsTo_20 ?_
        replace hr := m_bind hr; obtain ⟨e26, q36, hr⟩ := hr
        refine j_weak (L' := [some (.ref a0), none, some (.int a2), some (.int s_1.1), some (.int s_1.2), some (.int 0)]) (And.intro rfl (And.intro rfl (And.intro rfl (And.intro rfl (And.intro rfl trivial))))) ?_
        refine m_loop_sound (step := w_X10_stepsTo_22 h a0 a2 s_1) (P := fun s_4 => m_J X Y_X10_stepsTo (d + 1) 22 [some (.ref a0), none, some (.int a2), some (.int s_1.1), some (.int s_1.2), some (.int s_4)] [] h (some (.int rv), h)) (Qe := fun e26 => match e26 with | .inl x27 => m_J X Y_X10_stepsTo (d + 1) 73 [some (.ref a0), none, some (.int a2), some (.int s_1.1), some (.int s_1.2), none] [] h (some (.int rv), h) | .inr v35 => ((some (.int rv), h) : mR) = (some (.int v35), h)) ?_ _ _ _ q36 ?_
        · intro s_4 o hr hk
          unfold w_X10_stepsTo_22 at hr
          refine j_iload (i := 5) rfl dX10_stepsTo_22 ?_
          refine j_bipush (v := 36) rfl dX10_stepsTo_24 ?_
          refine j_ic_ge (tgt := 73) dX10_stepsTo_26 rfl (fun c5 => ?_) (fun c5 => ?_)
          · rw [if_pos c5] at hr
            cases hr
            exact j_weak (L' := [some (.ref a0), none, some (.int a2), some (.int s_1.1), some (.int s_1.2), none]) (And.intro rfl (And.intro rfl (And.intro rfl (And.intro rfl trivial)))) hk
          · rw [if_neg c5] at hr
            refine j_iload_n (i := 2) rfl rfl dX10_stepsTo_29 ?_
            replace hr := m_bind hr; obtain ⟨r7, g6, hr⟩ := hr
            refine j_callS (Y' := Y_X10_isTrait) (as := [.int a2]) ok_X10_isTrait [some (.int a2)] rfl rfl tw_4_57 tw_4_58 nn_X10_isTrait (Nat.le_of_ble_eq_true rfl) dX10_stepsTo_30 (j_X10_isTrait (by omega) g6) ?_
            refine j_if_eq (tgt := 73) dX10_stepsTo_33 rfl (fun c8 => ?_) (fun c8 => ?_)
            · rw [if_pos c8] at hr
              cases hr
              exact j_weak (L' := [some (.ref a0), none, some (.int a2), some (.int s_1.1), some (.int s_1.2), none]) (And.intro rfl (And.intro rfl (And.intro rfl (And.intro rfl trivial)))) hk
            · rw [if_neg c8] at hr
              refine j_aload_n (i := 0) rfl rfl dX10_stepsTo_36 ?_
              replace hr := m_bind hr; obtain ⟨q9, g10, hr⟩ := hr
              refine j_getf (C := RX10) (T := TX10) (N := 30) (ci := 9) (k := 2) rfl (by decide) inX10 tw_3_195 dX10_stepsTo_37 (m_gr_spec g10) ?_
              refine j_iload (i := 5) rfl dX10_stepsTo_40 ?_
              replace hr := m_bind hr; obtain ⟨b11, g12, hr⟩ := hr
              subst g12
              replace hr := m_bind hr; obtain ⟨x13, g14, hr⟩ := hr
              refine j_iaload dX10_stepsTo_42 g14 ?_
              refine j_iload (i := 4) rfl dX10_stepsTo_43 ?_
              refine j_ic_ne (tgt := 67) dX10_stepsTo_45 rfl (fun c15 => ?_) (fun c15 => ?_)
              · rw [if_neg c15] at hr
                refine j_iinc (i := 5) (v := s_4 + 2) (L' := [some (.ref a0), none, some (.int a2), some (.int s_1.1), some (.int s_1.2), some (.int (s_4 + 2))]) rfl (m_o2 _) (Nat.le_of_ble_eq_true rfl) rfl rfl dX10_stepsTo_67 ?_
                refine j_goto (tgt := 22) dX10_stepsTo_70 rfl ?_
                cases hr
                exact j_weak (L' := [some (.ref a0), none, some (.int a2), some (.int s_1.1), some (.int s_1.2), some (.int (s_4 + 2))]) (And.intro rfl (And.intro rfl (And.intro rfl (And.intro rfl (And.intro rfl trivial))))) hk
              · rw [if_pos c15] at hr
                refine j_aload_n (i := 0) rfl rfl dX10_stepsTo_48 ?_
                refine j_iload_n (i := 2) rfl rfl dX10_stepsTo_49 ?_
                refine j_aload_n (i := 0) rfl rfl dX10_stepsTo_50 ?_
                replace hr := m_bind hr; obtain ⟨q16, g17, hr⟩ := hr
                refine j_getf (C := RX10) (T := TX10) (N := 30) (ci := 9) (k := 2) rfl (by decide) inX10 tw_3_195 dX10_stepsTo_51 (m_gr_spec g17) ?_
                refine j_iload (i := 5) rfl dX10_stepsTo_54 ?_
                refine j_iconst (v := 1) rfl dX10_stepsTo_56 ?_
                refine j_iadd dX10_stepsTo_57 ?_
                replace hr := m_bind hr; obtain ⟨b18, g19, hr⟩ := hr
                subst g19
                replace hr := m_bind hr; obtain ⟨x20, g21, hr⟩ := hr
                refine j_iaload dX10_stepsTo_58 g21 ?_
                by_cases o25 : m_ob h a0 9 = true
                · rw [if_pos o25] at hr
                  replace hr := m_bind hr; obtain ⟨r23, g22, hr⟩ := hr
                  refine j_callV (Y' := Y_X10_traitAbove) (a := a0) (as := [.int a2, .int x20]) (ci := 9) (T := TX10) (N := 30) ok_X10_traitAbove [some (.ref a0), some (.int a2), some (.int x20), none, none, none, none] rfl rfl rfl tw_4_68 tw_4_70 tw_p_14 nn_X10_traitAbove (Nat.le_of_ble_eq_true rfl) dX10_stepsTo_59 o25 (j_X10_traitAbove g22) ?_
                  refine j_if_eq (tgt := 67) dX10_stepsTo_62 rfl (fun c24 => ?_) (fun c24 => ?_)
                  · rw [if_pos c24] at hr
                    refine j_iinc (i := 5) (v := s_4 + 2) (L' := [some (.ref a0), none, some (.int a2), some (.int s_1.1), some (.int s_1.2), some (.int (s_4 + 2))]) rfl (m_o2 _) (Nat.le_of_ble_eq_true rfl) rfl rfl dX10_stepsTo_67 ?_
                    refine j_goto (tgt := 22) dX10_stepsTo_70 rfl ?_
                    cases hr
                    exact j_weak (L' := [some (.ref a0), none, some (.int a2), some (.int s_1.1), some (.int s_1.2), some (.int (s_4 + 2))]) (And.intro rfl (And.intro rfl (And.intro rfl (And.intro rfl (And.intro rfl trivial))))) hk
                  · rw [if_neg c24] at hr
                    refine j_iload_n (i := 3) rfl rfl dX10_stepsTo_65 ?_
                    cases hr
                    rw [show _ = _ from hk]
                    exact j_ret dX10_stepsTo_66 m_rk_i
                · rw [if_neg o25] at hr
                  cases hr
        · cases e26 with
          | inl x27 =>
            dsimp only at hr
            dsimp only
            refine j_aload_n (i := 0) rfl rfl dX10_stepsTo_73 ?_
            replace hr := m_bind hr; obtain ⟨q28, g29, hr⟩ := hr
            refine j_getf (C := RX10) (T := TX10) (N := 30) (ci := 9) (k := 0) rfl (by decide) inX10 tw_3_193 dX10_stepsTo_74 (m_gr_spec g29) ?_
            refine j_iload (i := 4) rfl dX10_stepsTo_77 ?_
            replace hr := m_bind hr; obtain ⟨b30, g31, hr⟩ := hr
            subst g31
            replace hr := m_bind hr; obtain ⟨x32, g33, hr⟩ := hr
            refine j_iaload dX10_stepsTo_79 g33 ?_
            refine j_istore (i := 4) (L' := [some (.ref a0), none, some (.int a2), some (.int s_1.1), some (.int x32), none]) (Nat.le_of_ble_eq_true rfl) rfl rfl dX10_stepsTo_80 ?_
            refine j_iinc (i := 3) (v := s_1.1 + 1) (L' := [some (.ref a0), none, some (.int a2), some (.int (s_1.1 + 1)), some (.int x32), none]) rfl (m_o1 _) (Nat.le_of_ble_eq_true rfl) rfl rfl dX10_stepsTo_82 ?_
            refine j_goto (tgt := 5) dX10_stepsTo_85 rfl ?_
            cases hr
            exact j_weak (L' := [some (.ref a0), none, some (.int a2), some (.int (s_1.1 + 1)), some (.int x32), none]) (And.intro rfl (And.intro rfl (And.intro rfl (And.intro rfl trivial)))) hk
          | inr v35 =>
            dsimp only at hr
            cases hr
            exact hk
      · rw [if_pos c3] at hr
        refine j_iload_n (i := 3) rfl rfl dX10_stepsTo_17 ?_
        cases hr
        rw [show _ = _ from hk]
        exact j_ret dX10_stepsTo_18 m_rk_i
  · cases e37 with
    | inl x38 =>
      dsimp only at hr
      dsimp only
      refine j_iconst (v := (-1)) rfl dX10_stepsTo_88 ?_
      cases hr
      exact j_ret dX10_stepsTo_89 m_rk_i
    | inr v40 =>
      dsimp only at hr
      cases hr
      rfl
def f_X10_above (h : mH) (a0 : Nat) (a1 : Int32) (a2 : Int32) : Option (Int32) :=
  (f_X10_isKind a2).bind fun r2 =>
  if r2 = 0 then
    (f_X10_isTrait a1).bind fun r5 =>
    if r5 = 0 then
      some 0
    else
      if m_ob h a0 9 = true then
        (f_X10_traitAbove h a0 a1 a2).bind fun r8 =>
        if r8 = 0 then
          some 0
        else
          some 1
      else none
  else
    if m_ob h a0 9 = true then
      (f_X10_stepsTo h a0 a2 a1).bind fun r12 =>
      if r12 = ((-1)) then
        some 0
      else
        some 1
    else none
def Y_X10_above : mY := (yX10_above, cX10_above, 3, some (FieldType.boolean), .ireturn)
theorem ok_X10_above : m_Ok Y_X10_above := ⟨by decide +kernel, ⟨by decide +kernel, by decide +kernel⟩, tw_4_63, tw_1_7, by decide, Or.inr (Or.inl ⟨Or.inr rfl, rfl⟩)⟩
theorem nn_X10_above : (parseMethodDescriptor Y_X10_above.1.desc).map (fun q => q.parameters.length) = some 2 := by decide +kernel
set_option maxHeartbeats 4000000 in
set_option maxRecDepth 20000 in
theorem j_X10_above {X : mX} {d : Nat} {h : mH} {a0 : Nat} {a1 : Int32} {a2 : Int32} {rv : Int32} (hd : 3 ≤ d) (hr : f_X10_above h a0 a1 a2 = some rv) : m_J X Y_X10_above d 0 [some (.ref a0), some (.int a1), some (.int a2)] [] h (some (.int rv), h) := by
  obtain ⟨d, rfl⟩ : ∃ k, d = k + 1 := ⟨d - 1, by omega⟩
  unfold f_X10_above at hr
  refine j_iload_n (i := 2) rfl rfl dX10_above_0 ?_
  replace hr := m_bind hr; obtain ⟨r2, g1, hr⟩ := hr
  refine j_callS (Y' := Y_X10_isKind) (as := [.int a2]) ok_X10_isKind [some (.int a2)] rfl rfl tw_4_51 tw_4_52 nn_X10_isKind (Nat.le_of_ble_eq_true rfl) dX10_above_1 (j_X10_isKind (by omega) g1) ?_
  refine j_if_eq (tgt := 25) dX10_above_4 rfl (fun c3 => ?_) (fun c3 => ?_)
  · rw [if_pos c3] at hr
    refine j_iload_n (i := 1) rfl rfl dX10_above_25 ?_
    replace hr := m_bind hr; obtain ⟨r5, g4, hr⟩ := hr
    refine j_callS (Y' := Y_X10_isTrait) (as := [.int a1]) ok_X10_isTrait [some (.int a1)] rfl rfl tw_4_57 tw_4_58 nn_X10_isTrait (Nat.le_of_ble_eq_true rfl) dX10_above_26 (j_X10_isTrait (by omega) g4) ?_
    refine j_if_eq (tgt := 45) dX10_above_29 rfl (fun c6 => ?_) (fun c6 => ?_)
    · rw [if_pos c6] at hr
      refine j_iconst (v := 0) rfl dX10_above_45 ?_
      cases hr
      exact j_ret dX10_above_46 m_rk_z0
    · rw [if_neg c6] at hr
      refine j_aload_n (i := 0) rfl rfl dX10_above_32 ?_
      refine j_iload_n (i := 1) rfl rfl dX10_above_33 ?_
      refine j_iload_n (i := 2) rfl rfl dX10_above_34 ?_
      by_cases o10 : m_ob h a0 9 = true
      · rw [if_pos o10] at hr
        replace hr := m_bind hr; obtain ⟨r8, g7, hr⟩ := hr
        refine j_callV (Y' := Y_X10_traitAbove) (a := a0) (as := [.int a1, .int a2]) (ci := 9) (T := TX10) (N := 30) ok_X10_traitAbove [some (.ref a0), some (.int a1), some (.int a2), none, none, none, none] rfl rfl rfl tw_4_68 tw_4_70 tw_p_14 nn_X10_traitAbove (Nat.le_of_ble_eq_true rfl) dX10_above_35 o10 (j_X10_traitAbove g7) ?_
        refine j_if_eq (tgt := 45) dX10_above_38 rfl (fun c9 => ?_) (fun c9 => ?_)
        · rw [if_pos c9] at hr
          refine j_iconst (v := 0) rfl dX10_above_45 ?_
          cases hr
          exact j_ret dX10_above_46 m_rk_z0
        · rw [if_neg c9] at hr
          refine j_iconst (v := 1) rfl dX10_above_41 ?_
          refine j_goto (tgt := 46) dX10_above_42 rfl ?_
          cases hr
          exact j_ret dX10_above_46 m_rk_z1
      · rw [if_neg o10] at hr
        cases hr
  · rw [if_neg c3] at hr
    refine j_aload_n (i := 0) rfl rfl dX10_above_7 ?_
    refine j_iload_n (i := 2) rfl rfl dX10_above_8 ?_
    refine j_iload_n (i := 1) rfl rfl dX10_above_9 ?_
    by_cases o14 : m_ob h a0 9 = true
    · rw [if_pos o14] at hr
      replace hr := m_bind hr; obtain ⟨r12, g11, hr⟩ := hr
      refine j_callV (Y' := Y_X10_stepsTo) (a := a0) (as := [.int a2, .int a1]) (ci := 9) (T := TX10) (N := 30) ok_X10_stepsTo [some (.ref a0), some (.int a2), some (.int a1), none, none, none] rfl rfl rfl tw_4_64 tw_4_66 tw_p_13 nn_X10_stepsTo (Nat.le_of_ble_eq_true rfl) dX10_above_10 o14 (j_X10_stepsTo (by omega) g11) ?_
      refine j_iconst (v := (-1)) rfl dX10_above_13 ?_
      refine j_ic_eq (tgt := 21) dX10_above_14 rfl (fun c13 => ?_) (fun c13 => ?_)
      · rw [if_pos c13] at hr
        refine j_iconst (v := 0) rfl dX10_above_21 ?_
        refine j_goto (tgt := 46) dX10_above_22 rfl ?_
        cases hr
        exact j_ret dX10_above_46 m_rk_z0
      · rw [if_neg c13] at hr
        refine j_iconst (v := 1) rfl dX10_above_17 ?_
        refine j_goto (tgt := 46) dX10_above_18 rfl ?_
        cases hr
        exact j_ret dX10_above_46 m_rk_z1
    · rw [if_neg o14] at hr
      cases hr
def f_X10_below (h : mH) (a0 : Nat) (a1 : Int32) (a2 : Int32) : Option (Int32) :=
  (f_X10_isCode a1).bind fun r2 =>
  if r2 = 0 then
    (f_X10_isCode (a1 - 100)).bind fun r5 =>
    if r5 = 0 then
      some 0
    else
      (f_X10_isCode (a2 - 100)).bind fun r8 =>
      if r8 = 0 then
        some 0
      else
        if a1 < 100 then
          some 0
        else
          if a2 < 100 then
            some 0
          else
            if m_ob h a0 9 = true then
              (f_X10_above h a0 (a2 - 100) (a1 - 100)).bind fun r13 =>
              if r13 = 0 then
                some 0
              else
                some 1
            else none
  else
    (f_X10_isCode a2).bind fun r17 =>
    if r17 = 0 then
      (f_X10_isCode (a1 - 100)).bind fun r20 =>
      if r20 = 0 then
        some 0
      else
        (f_X10_isCode (a2 - 100)).bind fun r23 =>
        if r23 = 0 then
          some 0
        else
          if a1 < 100 then
            some 0
          else
            if a2 < 100 then
              some 0
            else
              if m_ob h a0 9 = true then
                (f_X10_above h a0 (a2 - 100) (a1 - 100)).bind fun r28 =>
                if r28 = 0 then
                  some 0
                else
                  some 1
              else none
    else
      if m_ob h a0 9 = true then
        (f_X10_above h a0 a2 a1).bind fun r32 =>
        if r32 = 0 then some 0
        else if r32 = 1 then some 1 else none
      else none
def Y_X10_below : mY := (yX10_below, cX10_below, 3, some (FieldType.boolean), .ireturn)
theorem ok_X10_below : m_Ok Y_X10_below := ⟨by decide +kernel, ⟨by decide +kernel, by decide +kernel⟩, tw_4_47, tw_1_7, by decide, Or.inr (Or.inl ⟨Or.inr rfl, rfl⟩)⟩
theorem nn_X10_below : (parseMethodDescriptor Y_X10_below.1.desc).map (fun q => q.parameters.length) = some 2 := by decide +kernel
set_option maxHeartbeats 4000000 in
set_option maxRecDepth 20000 in
theorem j_X10_below {X : mX} {d : Nat} {h : mH} {a0 : Nat} {a1 : Int32} {a2 : Int32} {rv : Int32} (hd : 4 ≤ d) (hr : f_X10_below h a0 a1 a2 = some rv) : m_J X Y_X10_below d 0 [some (.ref a0), some (.int a1), some (.int a2)] [] h (some (.int rv), h) := by
  obtain ⟨d, rfl⟩ : ∃ k, d = k + 1 := ⟨d - 1, by omega⟩
  unfold f_X10_below at hr
  refine j_iload_n (i := 1) rfl rfl dX10_below_0 ?_
  replace hr := m_bind hr; obtain ⟨r2, g1, hr⟩ := hr
  refine j_callS (Y' := Y_X10_isCode) (as := [.int a1]) ok_X10_isCode [some (.int a1)] rfl rfl tw_4_48 tw_4_49 nn_X10_isCode (Nat.le_of_ble_eq_true rfl) dX10_below_1 (j_X10_isCode (by omega) g1) ?_
  refine j_if_eq (tgt := 21) dX10_below_4 rfl (fun c3 => ?_) (fun c3 => ?_)
  · rw [if_pos c3] at hr
    refine j_iload_n (i := 1) rfl rfl dX10_below_21 ?_
    refine j_bipush (v := 100) rfl dX10_below_22 ?_
    refine j_isub dX10_below_24 ?_
    replace hr := m_bind hr; obtain ⟨r5, g4, hr⟩ := hr
    refine j_callS (Y' := Y_X10_isCode) (as := [.int (a1 - 100)]) ok_X10_isCode [some (.int (a1 - 100))] rfl rfl tw_4_48 tw_4_49 nn_X10_isCode (Nat.le_of_ble_eq_true rfl) dX10_below_25 (j_X10_isCode (by omega) g4) ?_
    refine j_if_eq (tgt := 72) dX10_below_28 rfl (fun c6 => ?_) (fun c6 => ?_)
    · rw [if_pos c6] at hr
      refine j_iconst (v := 0) rfl dX10_below_72 ?_
      cases hr
      exact j_ret dX10_below_73 m_rk_z0
    · rw [if_neg c6] at hr
      refine j_iload_n (i := 2) rfl rfl dX10_below_31 ?_
      refine j_bipush (v := 100) rfl dX10_below_32 ?_
      refine j_isub dX10_below_34 ?_
      replace hr := m_bind hr; obtain ⟨r8, g7, hr⟩ := hr
      refine j_callS (Y' := Y_X10_isCode) (as := [.int (a2 - 100)]) ok_X10_isCode [some (.int (a2 - 100))] rfl rfl tw_4_48 tw_4_49 nn_X10_isCode (Nat.le_of_ble_eq_true rfl) dX10_below_35 (j_X10_isCode (by omega) g7) ?_
      refine j_if_eq (tgt := 72) dX10_below_38 rfl (fun c9 => ?_) (fun c9 => ?_)
      · rw [if_pos c9] at hr
        refine j_iconst (v := 0) rfl dX10_below_72 ?_
        cases hr
        exact j_ret dX10_below_73 m_rk_z0
      · rw [if_neg c9] at hr
        refine j_iload_n (i := 1) rfl rfl dX10_below_41 ?_
        refine j_bipush (v := 100) rfl dX10_below_42 ?_
        refine j_ic_lt (tgt := 72) dX10_below_44 rfl (fun c10 => ?_) (fun c10 => ?_)
        · rw [if_pos c10] at hr
          refine j_iconst (v := 0) rfl dX10_below_72 ?_
          cases hr
          exact j_ret dX10_below_73 m_rk_z0
        · rw [if_neg c10] at hr
          refine j_iload_n (i := 2) rfl rfl dX10_below_47 ?_
          refine j_bipush (v := 100) rfl dX10_below_48 ?_
          refine j_ic_lt (tgt := 72) dX10_below_50 rfl (fun c11 => ?_) (fun c11 => ?_)
          · rw [if_pos c11] at hr
            refine j_iconst (v := 0) rfl dX10_below_72 ?_
            cases hr
            exact j_ret dX10_below_73 m_rk_z0
          · rw [if_neg c11] at hr
            refine j_aload_n (i := 0) rfl rfl dX10_below_53 ?_
            refine j_iload_n (i := 2) rfl rfl dX10_below_54 ?_
            refine j_bipush (v := 100) rfl dX10_below_55 ?_
            refine j_isub dX10_below_57 ?_
            refine j_iload_n (i := 1) rfl rfl dX10_below_58 ?_
            refine j_bipush (v := 100) rfl dX10_below_59 ?_
            refine j_isub dX10_below_61 ?_
            by_cases o15 : m_ob h a0 9 = true
            · rw [if_pos o15] at hr
              replace hr := m_bind hr; obtain ⟨r13, g12, hr⟩ := hr
              refine j_callV (Y' := Y_X10_above) (a := a0) (as := [.int (a2 - 100), .int (a1 - 100)]) (ci := 9) (T := TX10) (N := 30) ok_X10_above [some (.ref a0), some (.int (a2 - 100)), some (.int (a1 - 100))] rfl rfl rfl tw_4_60 tw_4_62 tw_p_12 nn_X10_above (Nat.le_of_ble_eq_true rfl) dX10_below_62 o15 (j_X10_above (by omega) g12) ?_
              refine j_if_eq (tgt := 72) dX10_below_65 rfl (fun c14 => ?_) (fun c14 => ?_)
              · rw [if_pos c14] at hr
                refine j_iconst (v := 0) rfl dX10_below_72 ?_
                cases hr
                exact j_ret dX10_below_73 m_rk_z0
              · rw [if_neg c14] at hr
                refine j_iconst (v := 1) rfl dX10_below_68 ?_
                refine j_goto (tgt := 73) dX10_below_69 rfl ?_
                cases hr
                exact j_ret dX10_below_73 m_rk_z1
            · rw [if_neg o15] at hr
              cases hr
  · rw [if_neg c3] at hr
    refine j_iload_n (i := 2) rfl rfl dX10_below_7 ?_
    replace hr := m_bind hr; obtain ⟨r17, g16, hr⟩ := hr
    refine j_callS (Y' := Y_X10_isCode) (as := [.int a2]) ok_X10_isCode [some (.int a2)] rfl rfl tw_4_48 tw_4_49 nn_X10_isCode (Nat.le_of_ble_eq_true rfl) dX10_below_8 (j_X10_isCode (by omega) g16) ?_
    refine j_if_eq (tgt := 21) dX10_below_11 rfl (fun c18 => ?_) (fun c18 => ?_)
    · rw [if_pos c18] at hr
      refine j_iload_n (i := 1) rfl rfl dX10_below_21 ?_
      refine j_bipush (v := 100) rfl dX10_below_22 ?_
      refine j_isub dX10_below_24 ?_
      replace hr := m_bind hr; obtain ⟨r20, g19, hr⟩ := hr
      refine j_callS (Y' := Y_X10_isCode) (as := [.int (a1 - 100)]) ok_X10_isCode [some (.int (a1 - 100))] rfl rfl tw_4_48 tw_4_49 nn_X10_isCode (Nat.le_of_ble_eq_true rfl) dX10_below_25 (j_X10_isCode (by omega) g19) ?_
      refine j_if_eq (tgt := 72) dX10_below_28 rfl (fun c21 => ?_) (fun c21 => ?_)
      · rw [if_pos c21] at hr
        refine j_iconst (v := 0) rfl dX10_below_72 ?_
        cases hr
        exact j_ret dX10_below_73 m_rk_z0
      · rw [if_neg c21] at hr
        refine j_iload_n (i := 2) rfl rfl dX10_below_31 ?_
        refine j_bipush (v := 100) rfl dX10_below_32 ?_
        refine j_isub dX10_below_34 ?_
        replace hr := m_bind hr; obtain ⟨r23, g22, hr⟩ := hr
        refine j_callS (Y' := Y_X10_isCode) (as := [.int (a2 - 100)]) ok_X10_isCode [some (.int (a2 - 100))] rfl rfl tw_4_48 tw_4_49 nn_X10_isCode (Nat.le_of_ble_eq_true rfl) dX10_below_35 (j_X10_isCode (by omega) g22) ?_
        refine j_if_eq (tgt := 72) dX10_below_38 rfl (fun c24 => ?_) (fun c24 => ?_)
        · rw [if_pos c24] at hr
          refine j_iconst (v := 0) rfl dX10_below_72 ?_
          cases hr
          exact j_ret dX10_below_73 m_rk_z0
        · rw [if_neg c24] at hr
          refine j_iload_n (i := 1) rfl rfl dX10_below_41 ?_
          refine j_bipush (v := 100) rfl dX10_below_42 ?_
          refine j_ic_lt (tgt := 72) dX10_below_44 rfl (fun c25 => ?_) (fun c25 => ?_)
          · rw [if_pos c25] at hr
            refine j_iconst (v := 0) rfl dX10_below_72 ?_
            cases hr
            exact j_ret dX10_below_73 m_rk_z0
          · rw [if_neg c25] at hr
            refine j_iload_n (i := 2) rfl rfl dX10_below_47 ?_
            refine j_bipush (v := 100) rfl dX10_below_48 ?_
            refine j_ic_lt (tgt := 72) dX10_below_50 rfl (fun c26 => ?_) (fun c26 => ?_)
            · rw [if_pos c26] at hr
              refine j_iconst (v := 0) rfl dX10_below_72 ?_
              cases hr
              exact j_ret dX10_below_73 m_rk_z0
            · rw [if_neg c26] at hr
              refine j_aload_n (i := 0) rfl rfl dX10_below_53 ?_
              refine j_iload_n (i := 2) rfl rfl dX10_below_54 ?_
              refine j_bipush (v := 100) rfl dX10_below_55 ?_
              refine j_isub dX10_below_57 ?_
              refine j_iload_n (i := 1) rfl rfl dX10_below_58 ?_
              refine j_bipush (v := 100) rfl dX10_below_59 ?_
              refine j_isub dX10_below_61 ?_
              by_cases o30 : m_ob h a0 9 = true
              · rw [if_pos o30] at hr
                replace hr := m_bind hr; obtain ⟨r28, g27, hr⟩ := hr
                refine j_callV (Y' := Y_X10_above) (a := a0) (as := [.int (a2 - 100), .int (a1 - 100)]) (ci := 9) (T := TX10) (N := 30) ok_X10_above [some (.ref a0), some (.int (a2 - 100)), some (.int (a1 - 100))] rfl rfl rfl tw_4_60 tw_4_62 tw_p_12 nn_X10_above (Nat.le_of_ble_eq_true rfl) dX10_below_62 o30 (j_X10_above (by omega) g27) ?_
                refine j_if_eq (tgt := 72) dX10_below_65 rfl (fun c29 => ?_) (fun c29 => ?_)
                · rw [if_pos c29] at hr
                  refine j_iconst (v := 0) rfl dX10_below_72 ?_
                  cases hr
                  exact j_ret dX10_below_73 m_rk_z0
                · rw [if_neg c29] at hr
                  refine j_iconst (v := 1) rfl dX10_below_68 ?_
                  refine j_goto (tgt := 73) dX10_below_69 rfl ?_
                  cases hr
                  exact j_ret dX10_below_73 m_rk_z1
              · rw [if_neg o30] at hr
                cases hr
    · rw [if_neg c18] at hr
      refine j_aload_n (i := 0) rfl rfl dX10_below_14 ?_
      refine j_iload_n (i := 2) rfl rfl dX10_below_15 ?_
      refine j_iload_n (i := 1) rfl rfl dX10_below_16 ?_
      by_cases o35 : m_ob h a0 9 = true
      · rw [if_pos o35] at hr
        replace hr := m_bind hr; obtain ⟨r32, g31, hr⟩ := hr
        refine j_callV (Y' := Y_X10_above) (a := a0) (as := [.int a2, .int a1]) (ci := 9) (T := TX10) (N := 30) ok_X10_above [some (.ref a0), some (.int a2), some (.int a1)] rfl rfl rfl tw_4_60 tw_4_62 tw_p_12 nn_X10_above (Nat.le_of_ble_eq_true rfl) dX10_below_17 o35 (j_X10_above (by omega) g31) ?_
        by_cases c33 : r32 = 0
        · rw [if_pos c33] at hr
          rw [c33]
          cases hr
          exact j_ret dX10_below_20 m_rk_z0
        · rw [if_neg c33] at hr
          by_cases c34 : r32 = 1
          · rw [if_pos c34] at hr
            rw [c34]
            cases hr
            exact j_ret dX10_below_20 m_rk_z1
          · rw [if_neg c34] at hr
            cases hr
      · rw [if_neg o35] at hr
        cases hr
def f_X10_steps (h : mH) (a0 : Nat) (a1 : Int32) (a2 : Int32) : Option (Int32) :=
  (f_X10_isKind a1).bind fun r2 =>
  if r2 = 0 then
    some ((-1))
  else
    (f_X10_isCode a2).bind fun r5 =>
    if r5 = 0 then
      some ((-1))
    else
      if m_ob h a0 9 = true then
        (f_X10_stepsTo h a0 a1 a2).bind fun r8 =>
        some r8
      else none
def Y_X10_steps : mY := (yX10_steps, cX10_steps, 3, some (FieldType.int), .ireturn)
theorem ok_X10_steps : m_Ok Y_X10_steps := ⟨by decide +kernel, ⟨by decide +kernel, by decide +kernel⟩, tw_4_75, tw_1_7, by decide, Or.inr (Or.inl ⟨Or.inl rfl, rfl⟩)⟩
theorem nn_X10_steps : (parseMethodDescriptor Y_X10_steps.1.desc).map (fun q => q.parameters.length) = some 2 := by decide +kernel
set_option maxHeartbeats 4000000 in
set_option maxRecDepth 20000 in
theorem j_X10_steps {X : mX} {d : Nat} {h : mH} {a0 : Nat} {a1 : Int32} {a2 : Int32} {rv : Int32} (hd : 3 ≤ d) (hr : f_X10_steps h a0 a1 a2 = some rv) : m_J X Y_X10_steps d 0 [some (.ref a0), some (.int a1), some (.int a2)] [] h (some (.int rv), h) := by
  obtain ⟨d, rfl⟩ : ∃ k, d = k + 1 := ⟨d - 1, by omega⟩
  unfold f_X10_steps at hr
  refine j_iload_n (i := 1) rfl rfl dX10_steps_0 ?_
  replace hr := m_bind hr; obtain ⟨r2, g1, hr⟩ := hr
  refine j_callS (Y' := Y_X10_isKind) (as := [.int a1]) ok_X10_isKind [some (.int a1)] rfl rfl tw_4_51 tw_4_52 nn_X10_isKind (Nat.le_of_ble_eq_true rfl) dX10_steps_1 (j_X10_isKind (by omega) g1) ?_
  refine j_if_eq (tgt := 23) dX10_steps_4 rfl (fun c3 => ?_) (fun c3 => ?_)
  · rw [if_pos c3] at hr
    refine j_iconst (v := (-1)) rfl dX10_steps_23 ?_
    cases hr
    exact j_ret dX10_steps_24 m_rk_i
  · rw [if_neg c3] at hr
    refine j_iload_n (i := 2) rfl rfl dX10_steps_7 ?_
    replace hr := m_bind hr; obtain ⟨r5, g4, hr⟩ := hr
    refine j_callS (Y' := Y_X10_isCode) (as := [.int a2]) ok_X10_isCode [some (.int a2)] rfl rfl tw_4_48 tw_4_49 nn_X10_isCode (Nat.le_of_ble_eq_true rfl) dX10_steps_8 (j_X10_isCode (by omega) g4) ?_
    refine j_if_eq (tgt := 23) dX10_steps_11 rfl (fun c6 => ?_) (fun c6 => ?_)
    · rw [if_pos c6] at hr
      refine j_iconst (v := (-1)) rfl dX10_steps_23 ?_
      cases hr
      exact j_ret dX10_steps_24 m_rk_i
    · rw [if_neg c6] at hr
      refine j_aload_n (i := 0) rfl rfl dX10_steps_14 ?_
      refine j_iload_n (i := 1) rfl rfl dX10_steps_15 ?_
      refine j_iload_n (i := 2) rfl rfl dX10_steps_16 ?_
      by_cases o9 : m_ob h a0 9 = true
      · rw [if_pos o9] at hr
        replace hr := m_bind hr; obtain ⟨r8, g7, hr⟩ := hr
        refine j_callV (Y' := Y_X10_stepsTo) (a := a0) (as := [.int a1, .int a2]) (ci := 9) (T := TX10) (N := 30) ok_X10_stepsTo [some (.ref a0), some (.int a1), some (.int a2), none, none, none] rfl rfl rfl tw_4_64 tw_4_66 tw_p_13 nn_X10_stepsTo (Nat.le_of_ble_eq_true rfl) dX10_steps_17 o9 (j_X10_stepsTo (by omega) g7) ?_
        refine j_goto (tgt := 24) dX10_steps_20 rfl ?_
        cases hr
        exact j_ret dX10_steps_24 m_rk_i
      · rw [if_neg o9] at hr
        cases hr
def w_X10_common_18 (h : mH) (a0 : Nat) (a2 : Int32) : Int32 → Option ((Int32) ⊕ (Int32)) := fun s_7 =>
  if m_ob h a0 9 = true then
    (f_X10_stepsTo h a0 a2 s_7).bind fun r9 =>
    if r9 = ((-1)) then
      (m_gr h a0 9 0).bind fun q11 =>
      (q11).bind fun b13 =>
      (m_ild h b13 s_7).bind fun x15 =>
      some (.inl x15)
    else
      some (.inr s_7)
  else none
def f_X10_common (h : mH) (a0 : Nat) (a1 : Int32) (a2 : Int32) : Option (Int32) :=
  (f_X10_isKind a1).bind fun r2 =>
  if r2 = 0 then
    some ((-1))
  else
    (f_X10_isKind a2).bind fun r5 =>
    if r5 = 0 then
      some ((-1))
    else
      (m_loop (w_X10_common_18 h a0 a2) 5000 a1).bind fun e18 =>
      some e18
def Y_X10_common : mY := (yX10_common, cX10_common, 4, some (FieldType.int), .ireturn)
theorem ok_X10_common : m_Ok Y_X10_common := ⟨by decide +kernel, ⟨by decide +kernel, by decide +kernel⟩, tw_4_79, tw_1_7, by decide, Or.inr (Or.inl ⟨Or.inl rfl, rfl⟩)⟩
theorem nn_X10_common : (parseMethodDescriptor Y_X10_common.1.desc).map (fun q => q.parameters.length) = some 2 := by decide +kernel
set_option maxHeartbeats 4000000 in
set_option maxRecDepth 20000 in
theorem j_X10_common {X : mX} {d : Nat} {h : mH} {a0 : Nat} {a1 : Int32} {a2 : Int32} {rv : Int32} (hd : 3 ≤ d) (hr : f_X10_common h a0 a1 a2 = some rv) : m_J X Y_X10_common d 0 [some (.ref a0), some (.int a1), some (.int a2), none] [] h (some (.int rv), h) := by
  obtain ⟨d, rfl⟩ : ∃ k, d = k + 1 := ⟨d - 1, by omega⟩
  unfold f_X10_common at hr
  refine j_iload_n (i := 1) rfl rfl dX10_common_0 ?_
  replace hr := m_bind hr; obtain ⟨r2, g1, hr⟩ := hr
  refine j_callS (Y' := Y_X10_isKind) (as := [.int a1]) ok_X10_isKind [some (.int a1)] rfl rfl tw_4_51 tw_4_52 nn_X10_isKind (Nat.le_of_ble_eq_true rfl) dX10_common_1 (j_X10_isKind (by omega) g1) ?_
  refine j_if_eq (tgt := 14) dX10_common_4 rfl (fun c3 => ?_) (fun c3 => ?_)
  · rw [if_pos c3] at hr
    refine j_iconst (v := (-1)) rfl dX10_common_14 ?_
    cases hr
    exact j_ret dX10_common_15 m_rk_i
  · rw [if_neg c3] at hr
    refine j_iload_n (i := 2) rfl rfl dX10_common_7 ?_
    replace hr := m_bind hr; obtain ⟨r5, g4, hr⟩ := hr
    refine j_callS (Y' := Y_X10_isKind) (as := [.int a2]) ok_X10_isKind [some (.int a2)] rfl rfl tw_4_51 tw_4_52 nn_X10_isKind (Nat.le_of_ble_eq_true rfl) dX10_common_8 (j_X10_isKind (by omega) g4) ?_
    refine j_if_ne (tgt := 16) dX10_common_11 rfl (fun c6 => ?_) (fun c6 => ?_)
    · rw [if_neg c6] at hr
      refine j_iload_n (i := 1) rfl rfl dX10_common_16 ?_
      refine j_istore_n (i := 3) (L' := [some (.ref a0), some (.int a1), some (.int a2), some (.int a1)]) rfl (Nat.le_of_ble_eq_true rfl) rfl rfl dX10_common_17 ?_
      replace hr := m_bind hr; obtain ⟨e18, q21, hr⟩ := hr
      refine j_weak (L' := [some (.ref a0), none, some (.int a2), some (.int a1)]) (And.intro rfl (And.intro rfl (And.intro rfl trivial))) ?_
      refine m_loop_sound (step := w_X10_common_18 h a0 a2) (P := fun s_7 => m_J X Y_X10_common (d + 1) 18 [some (.ref a0), none, some (.int a2), some (.int s_7)] [] h (some (.int rv), h)) (Qe := fun e18 => m_J X Y_X10_common (d + 1) 38 [none, none, none, some (.int e18)] [] h (some (.int rv), h)) ?_ _ _ _ q21 ?_
      · intro s_7 o hr hk
        unfold w_X10_common_18 at hr
        refine j_aload_n (i := 0) rfl rfl dX10_common_18 ?_
        refine j_iload_n (i := 2) rfl rfl dX10_common_19 ?_
        refine j_iload_n (i := 3) rfl rfl dX10_common_20 ?_
        by_cases o17 : m_ob h a0 9 = true
        · rw [if_pos o17] at hr
          replace hr := m_bind hr; obtain ⟨r9, g8, hr⟩ := hr
          refine j_callV (Y' := Y_X10_stepsTo) (a := a0) (as := [.int a2, .int s_7]) (ci := 9) (T := TX10) (N := 30) ok_X10_stepsTo [some (.ref a0), some (.int a2), some (.int s_7), none, none, none] rfl rfl rfl tw_4_64 tw_4_66 tw_p_13 nn_X10_stepsTo (Nat.le_of_ble_eq_true rfl) dX10_common_21 o17 (j_X10_stepsTo (by omega) g8) ?_
          refine j_iconst (v := (-1)) rfl dX10_common_24 ?_
          refine j_ic_ne (tgt := 38) dX10_common_25 rfl (fun c10 => ?_) (fun c10 => ?_)
          · rw [if_neg c10] at hr
            cases hr
            exact j_weak (L' := [none, none, none, some (.int s_7)]) (And.intro rfl trivial) hk
          · rw [if_pos c10] at hr
            refine j_aload_n (i := 0) rfl rfl dX10_common_28 ?_
            replace hr := m_bind hr; obtain ⟨q11, g12, hr⟩ := hr
            refine j_getf (C := RX10) (T := TX10) (N := 30) (ci := 9) (k := 0) rfl (by decide) inX10 tw_3_193 dX10_common_29 (m_gr_spec g12) ?_
            refine j_iload_n (i := 3) rfl rfl dX10_common_32 ?_
            replace hr := m_bind hr; obtain ⟨b13, g14, hr⟩ := hr
            subst g14
            replace hr := m_bind hr; obtain ⟨x15, g16, hr⟩ := hr
            refine j_iaload dX10_common_33 g16 ?_
            refine j_istore_n (i := 3) (L' := [some (.ref a0), none, some (.int a2), some (.int x15)]) rfl (Nat.le_of_ble_eq_true rfl) rfl rfl dX10_common_34 ?_
            refine j_goto (tgt := 18) dX10_common_35 rfl ?_
            cases hr
            exact j_weak (L' := [some (.ref a0), none, some (.int a2), some (.int x15)]) (And.intro rfl (And.intro rfl (And.intro rfl trivial))) hk
        · rw [if_neg o17] at hr
          cases hr
      · skip
        refine j_iload_n (i := 3) rfl rfl dX10_common_38 ?_
        cases hr
        exact j_ret dX10_common_39 m_rk_i
    · rw [if_pos c6] at hr
      refine j_iconst (v := (-1)) rfl dX10_common_14 ?_
      cases hr
      exact j_ret dX10_common_15 m_rk_i
def f_X10_isShared (h : mH) (a0 : Nat) (a1 : Int32) (a2 : Int32) (a3 : Int32) : Option (Int32) :=
  if m_ob h a0 9 = true then
    (f_X10_above h a0 a3 a1).bind fun r2 =>
    if r2 = 0 then
      some 0
    else
      if m_ob h a0 9 = true then
        (f_X10_above h a0 a3 a2).bind fun r5 =>
        if r5 = 0 then
          some 0
        else
          some 1
      else none
  else none
def Y_X10_isShared : mY := (yX10_isShared, cX10_isShared, 4, some (FieldType.boolean), .ireturn)
theorem ok_X10_isShared : m_Ok Y_X10_isShared := ⟨by decide +kernel, ⟨by decide +kernel, by decide +kernel⟩, tw_4_87, tw_1_7, by decide, Or.inr (Or.inl ⟨Or.inr rfl, rfl⟩)⟩
theorem nn_X10_isShared : (parseMethodDescriptor Y_X10_isShared.1.desc).map (fun q => q.parameters.length) = some 3 := by decide +kernel
set_option maxHeartbeats 4000000 in
set_option maxRecDepth 20000 in
theorem j_X10_isShared {X : mX} {d : Nat} {h : mH} {a0 : Nat} {a1 : Int32} {a2 : Int32} {a3 : Int32} {rv : Int32} (hd : 4 ≤ d) (hr : f_X10_isShared h a0 a1 a2 a3 = some rv) : m_J X Y_X10_isShared d 0 [some (.ref a0), some (.int a1), some (.int a2), some (.int a3)] [] h (some (.int rv), h) := by
  obtain ⟨d, rfl⟩ : ∃ k, d = k + 1 := ⟨d - 1, by omega⟩
  unfold f_X10_isShared at hr
  refine j_aload_n (i := 0) rfl rfl dX10_isShared_0 ?_
  refine j_iload_n (i := 3) rfl rfl dX10_isShared_1 ?_
  refine j_iload_n (i := 1) rfl rfl dX10_isShared_2 ?_
  by_cases o8 : m_ob h a0 9 = true
  · rw [if_pos o8] at hr
    replace hr := m_bind hr; obtain ⟨r2, g1, hr⟩ := hr
    refine j_callV (Y' := Y_X10_above) (a := a0) (as := [.int a3, .int a1]) (ci := 9) (T := TX10) (N := 30) ok_X10_above [some (.ref a0), some (.int a3), some (.int a1)] rfl rfl rfl tw_4_60 tw_4_62 tw_p_12 nn_X10_above (Nat.le_of_ble_eq_true rfl) dX10_isShared_3 o8 (j_X10_above (by omega) g1) ?_
    refine j_if_eq (tgt := 22) dX10_isShared_6 rfl (fun c3 => ?_) (fun c3 => ?_)
    · rw [if_pos c3] at hr
      refine j_iconst (v := 0) rfl dX10_isShared_22 ?_
      cases hr
      exact j_ret dX10_isShared_23 m_rk_z0
    · rw [if_neg c3] at hr
      refine j_aload_n (i := 0) rfl rfl dX10_isShared_9 ?_
      refine j_iload_n (i := 3) rfl rfl dX10_isShared_10 ?_
      refine j_iload_n (i := 2) rfl rfl dX10_isShared_11 ?_
      by_cases o7 : m_ob h a0 9 = true
      · rw [if_pos o7] at hr
        replace hr := m_bind hr; obtain ⟨r5, g4, hr⟩ := hr
        refine j_callV (Y' := Y_X10_above) (a := a0) (as := [.int a3, .int a2]) (ci := 9) (T := TX10) (N := 30) ok_X10_above [some (.ref a0), some (.int a3), some (.int a2)] rfl rfl rfl tw_4_60 tw_4_62 tw_p_12 nn_X10_above (Nat.le_of_ble_eq_true rfl) dX10_isShared_12 o7 (j_X10_above (by omega) g4) ?_
        refine j_if_eq (tgt := 22) dX10_isShared_15 rfl (fun c6 => ?_) (fun c6 => ?_)
        · rw [if_pos c6] at hr
          refine j_iconst (v := 0) rfl dX10_isShared_22 ?_
          cases hr
          exact j_ret dX10_isShared_23 m_rk_z0
        · rw [if_neg c6] at hr
          refine j_iconst (v := 1) rfl dX10_isShared_18 ?_
          refine j_goto (tgt := 23) dX10_isShared_19 rfl ?_
          cases hr
          exact j_ret dX10_isShared_23 m_rk_z1
      · rw [if_neg o7] at hr
        cases hr
  · rw [if_neg o8] at hr
    cases hr
def w_X10_commonTrait_48 (h : mH) (a0 : Nat) (a1 : Int32) (a2 : Int32) (s_8 : Int32 × Int32) : (Int32 × Int32) → Option ((Int32 × Int32) ⊕ (Int32)) := fun s_12 =>
  if 49 ≤ s_12.2 then
    some (.inr s_12.1)
  else
    if s_12.1 = 0 then
      some (.inl (0, s_12.2 + 1))
    else
      if s_12.2 = s_8.2 then
        some (.inl (1, s_12.2 + 1))
      else
        if m_ob h a0 9 = true then
          (f_X10_isShared h a0 a1 a2 s_12.2).bind fun r17 =>
          if r17 = 0 then
            some (.inl (1, s_12.2 + 1))
          else
            if m_ob h a0 9 = true then
              (f_X10_traitAbove h a0 s_8.2 s_12.2).bind fun r20 =>
              if r20 = 0 then
                some (.inl (1, s_12.2 + 1))
              else
                some (.inl (0, s_12.2 + 1))
            else none
        else none
def w_X10_commonTrait_27 (h : mH) (a0 : Nat) (a1 : Int32) (a2 : Int32) : (Int32 × Int32) → Option ((Int32 × Int32) ⊕ ((Unit) ⊕ (Int32))) := fun s_8 =>
  if 49 ≤ s_8.2 then
    some (.inr (.inl ()))
  else
    if m_ob h a0 9 = true then
      (f_X10_isShared h a0 a1 a2 s_8.2).bind fun r11 =>
      (m_loop (w_X10_commonTrait_48 h a0 a1 a2 s_8) 5000 ((r11, 40))).bind fun e24 =>
      if e24 = 0 then
        some (.inl (s_8.1, s_8.2 + 1))
      else
        if s_8.1 = 0 then
          some (.inr (.inr s_8.2))
        else
          some (.inl (s_8.1 + (-1), s_8.2 + 1))
    else none
def f_X10_commonTrait (h : mH) (a0 : Nat) (a1 : Int32) (a2 : Int32) (a3 : Int32) : Option (Int32) :=
  (f_X10_isKind a1).bind fun r2 =>
  if r2 = 0 then
    some ((-1))
  else
    (f_X10_isKind a2).bind fun r5 =>
    if r5 = 0 then
      some ((-1))
    else
      if 0 ≤ a3 then
        (m_loop (w_X10_commonTrait_27 h a0 a1 a2) 5000 ((a3, 40))).bind fun e31 => match e31 with
        | .inl x32 =>
          some ((-1))
        | .inr v34 => some v34
      else
        some ((-1))
def Y_X10_commonTrait : mY := (yX10_commonTrait, cX10_commonTrait, 8, some (FieldType.int), .ireturn)
theorem ok_X10_commonTrait : m_Ok Y_X10_commonTrait := ⟨by decide +kernel, ⟨by decide +kernel, by decide +kernel⟩, tw_4_83, tw_1_7, by decide, Or.inr (Or.inl ⟨Or.inl rfl, rfl⟩)⟩
theorem nn_X10_commonTrait : (parseMethodDescriptor Y_X10_commonTrait.1.desc).map (fun q => q.parameters.length) = some 3 := by decide +kernel
set_option maxHeartbeats 4000000 in
set_option maxRecDepth 20000 in
theorem j_X10_commonTrait {X : mX} {d : Nat} {h : mH} {a0 : Nat} {a1 : Int32} {a2 : Int32} {a3 : Int32} {rv : Int32} (hd : 5 ≤ d) (hr : f_X10_commonTrait h a0 a1 a2 a3 = some rv) : m_J X Y_X10_commonTrait d 0 [some (.ref a0), some (.int a1), some (.int a2), some (.int a3), none, none, none, none] [] h (some (.int rv), h) := by
  obtain ⟨d, rfl⟩ : ∃ k, d = k + 1 := ⟨d - 1, by omega⟩
  unfold f_X10_commonTrait at hr
  refine j_iload_n (i := 1) rfl rfl dX10_commonTrait_0 ?_
  replace hr := m_bind hr; obtain ⟨r2, g1, hr⟩ := hr
  refine j_callS (Y' := Y_X10_isKind) (as := [.int a1]) ok_X10_isKind [some (.int a1)] rfl rfl tw_4_51 tw_4_52 nn_X10_isKind (Nat.le_of_ble_eq_true rfl) dX10_commonTrait_1 (j_X10_isKind (by omega) g1) ?_
  refine j_if_eq (tgt := 18) dX10_commonTrait_4 rfl (fun c3 => ?_) (fun c3 => ?_)
  · rw [if_pos c3] at hr
    refine j_iconst (v := (-1)) rfl dX10_commonTrait_18 ?_
    cases hr
    exact j_ret dX10_commonTrait_19 m_rk_i
  · rw [if_neg c3] at hr
    refine j_iload_n (i := 2) rfl rfl dX10_commonTrait_7 ?_
    replace hr := m_bind hr; obtain ⟨r5, g4, hr⟩ := hr
    refine j_callS (Y' := Y_X10_isKind) (as := [.int a2]) ok_X10_isKind [some (.int a2)] rfl rfl tw_4_51 tw_4_52 nn_X10_isKind (Nat.le_of_ble_eq_true rfl) dX10_commonTrait_8 (j_X10_isKind (by omega) g4) ?_
    refine j_if_eq (tgt := 18) dX10_commonTrait_11 rfl (fun c6 => ?_) (fun c6 => ?_)
    · rw [if_pos c6] at hr
      refine j_iconst (v := (-1)) rfl dX10_commonTrait_18 ?_
      cases hr
      exact j_ret dX10_commonTrait_19 m_rk_i
    · rw [if_neg c6] at hr
      refine j_iload_n (i := 3) rfl rfl dX10_commonTrait_14 ?_
      refine j_if_ge (tgt := 20) dX10_commonTrait_15 rfl (fun c7 => ?_) (fun c7 => ?_)
      · rw [if_pos c7] at hr
        refine j_iload_n (i := 3) rfl rfl dX10_commonTrait_20 ?_
        refine j_istore (i := 4) (L' := [some (.ref a0), some (.int a1), some (.int a2), some (.int a3), some (.int a3), none, none, none]) (Nat.le_of_ble_eq_true rfl) rfl rfl dX10_commonTrait_21 ?_
        refine j_bipush (v := 40) rfl dX10_commonTrait_23 ?_
        refine j_istore (i := 5) (L' := [some (.ref a0), some (.int a1), some (.int a2), some (.int a3), some (.int a3), some (.int 40), none, none]) (Nat.le_of_ble_eq_true rfl) rfl rfl dX10_commonTrait_25 ?_
        replace hr := m_bind hr; obtain ⟨e31, q35, hr⟩ := hr
        refine j_weak (L' := [some (.ref a0), some (.int a1), some (.int a2), none, some (.int a3), some (.int 40), none, none]) (And.intro rfl (And.intro rfl (And.intro rfl (And.intro rfl (And.intro rfl trivial))))) ?_
        refine m_loop_sound (step := w_X10_commonTrait_27 h a0 a1 a2) (P := fun s_8 => m_J X Y_X10_commonTrait (d + 1) 27 [some (.ref a0), some (.int a1), some (.int a2), none, some (.int s_8.1), some (.int s_8.2), none, none] [] h (some (.int rv), h)) (Qe := fun e31 => match e31 with | .inl x32 => m_J X Y_X10_commonTrait (d + 1) 127 [none, none, none, none, none, none, none, none] [] h (some (.int rv), h) | .inr v34 => ((some (.int rv), h) : mR) = (some (.int v34), h)) ?_ _ _ _ q35 ?_
        · intro s_8 o hr hk
          unfold w_X10_commonTrait_27 at hr
          refine j_iload (i := 5) rfl dX10_commonTrait_27 ?_
          refine j_bipush (v := 49) rfl dX10_commonTrait_29 ?_
          refine j_ic_ge (tgt := 127) dX10_commonTrait_31 rfl (fun c9 => ?_) (fun c9 => ?_)
          · rw [if_pos c9] at hr
            cases hr
            exact j_weak (L' := [none, none, none, none, none, none, none, none]) trivial hk
          · rw [if_neg c9] at hr
            refine j_aload_n (i := 0) rfl rfl dX10_commonTrait_34 ?_
            refine j_iload_n (i := 1) rfl rfl dX10_commonTrait_35 ?_
            refine j_iload_n (i := 2) rfl rfl dX10_commonTrait_36 ?_
            refine j_iload (i := 5) rfl dX10_commonTrait_37 ?_
            by_cases o30 : m_ob h a0 9 = true
            · rw [if_pos o30] at hr
              replace hr := m_bind hr; obtain ⟨r11, g10, hr⟩ := hr
              refine j_callV (Y' := Y_X10_isShared) (a := a0) (as := [.int a1, .int a2, .int s_8.2]) (ci := 9) (T := TX10) (N := 30) ok_X10_isShared [some (.ref a0), some (.int a1), some (.int a2), some (.int s_8.2)] rfl rfl rfl tw_4_84 tw_4_86 tw_p_15 nn_X10_isShared (Nat.le_of_ble_eq_true rfl) dX10_commonTrait_39 o30 (j_X10_isShared (by omega) g10) ?_
              refine j_istore (i := 6) (L' := [some (.ref a0), some (.int a1), some (.int a2), none, some (.int s_8.1), some (.int s_8.2), some (.int r11), none]) (Nat.le_of_ble_eq_true rfl) rfl rfl dX10_commonTrait_42 ?_
              refine j_bipush (v := 40) rfl dX10_commonTrait_44 ?_
              refine j_istore (i := 7) (L' := [some (.ref a0), some (.int a1), some (.int a2), none, some (.int s_8.1), some (.int s_8.2), some (.int r11), some (.int 40)]) (Nat.le_of_ble_eq_true rfl) rfl rfl dX10_commonTrait_46 ?_
              replace hr := m_bind hr; obtain ⟨e24, q29, hr⟩ := hr
              refine j_weak (L' := [some (.ref a0), some (.int a1), some (.int a2), none, some (.int s_8.1), some (.int s_8.2), some (.int r11), some (.int 40)]) (And.intro rfl (And.intro rfl (And.intro rfl (And.intro rfl (And.intro rfl (And.intro rfl (And.intro rfl trivial))))))) ?_
              refine m_loop_sound (step := w_X10_commonTrait_48 h a0 a1 a2 s_8) (P := fun s_12 => m_J X Y_X10_commonTrait (d + 1) 48 [some (.ref a0), some (.int a1), some (.int a2), none, some (.int s_8.1), some (.int s_8.2), some (.int s_12.1), some (.int s_12.2)] [] h (some (.int rv), h)) (Qe := fun e24 => m_J X Y_X10_commonTrait (d + 1) 102 [some (.ref a0), some (.int a1), some (.int a2), none, some (.int s_8.1), some (.int s_8.2), some (.int e24), none] [] h (some (.int rv), h)) ?_ _ _ _ q29 ?_
              · intro s_12 o hr hk
                unfold w_X10_commonTrait_48 at hr
                refine j_iload (i := 7) rfl dX10_commonTrait_48 ?_
                refine j_bipush (v := 49) rfl dX10_commonTrait_50 ?_
                refine j_ic_ge (tgt := 102) dX10_commonTrait_52 rfl (fun c13 => ?_) (fun c13 => ?_)
                · rw [if_pos c13] at hr
                  cases hr
                  exact j_weak (L' := [some (.ref a0), some (.int a1), some (.int a2), none, some (.int s_8.1), some (.int s_8.2), some (.int s_12.1), none]) (And.intro rfl (And.intro rfl (And.intro rfl (And.intro rfl (And.intro rfl (And.intro rfl trivial)))))) hk
                · rw [if_neg c13] at hr
                  refine j_iload (i := 6) rfl dX10_commonTrait_55 ?_
                  refine j_if_eq (tgt := 93) dX10_commonTrait_57 rfl (fun c14 => ?_) (fun c14 => ?_)
                  · rw [if_pos c14] at hr
                    refine j_iconst (v := 0) rfl dX10_commonTrait_93 ?_
                    refine j_istore (i := 6) (L' := [some (.ref a0), some (.int a1), some (.int a2), none, some (.int s_8.1), some (.int s_8.2), some (.int 0), some (.int s_12.2)]) (Nat.le_of_ble_eq_true rfl) rfl rfl dX10_commonTrait_94 ?_
                    refine j_iinc (i := 7) (v := s_12.2 + 1) (L' := [some (.ref a0), some (.int a1), some (.int a2), none, some (.int s_8.1), some (.int s_8.2), some (.int 0), some (.int (s_12.2 + 1))]) rfl (m_o1 _) (Nat.le_of_ble_eq_true rfl) rfl rfl dX10_commonTrait_96 ?_
                    refine j_goto (tgt := 48) dX10_commonTrait_99 rfl ?_
                    cases hr
                    exact j_weak (L' := [some (.ref a0), some (.int a1), some (.int a2), none, some (.int s_8.1), some (.int s_8.2), some (.int 0), some (.int (s_12.2 + 1))]) (And.intro rfl (And.intro rfl (And.intro rfl (And.intro rfl (And.intro rfl (And.intro rfl (And.intro rfl trivial))))))) hk
                  · rw [if_neg c14] at hr
                    refine j_iload (i := 7) rfl dX10_commonTrait_60 ?_
                    refine j_iload (i := 5) rfl dX10_commonTrait_62 ?_
                    refine j_ic_eq (tgt := 89) dX10_commonTrait_64 rfl (fun c15 => ?_) (fun c15 => ?_)
                    · rw [if_pos c15] at hr
                      refine j_iconst (v := 1) rfl dX10_commonTrait_89 ?_
                      refine j_goto (tgt := 94) dX10_commonTrait_90 rfl ?_
                      refine j_istore (i := 6) (L' := [some (.ref a0), some (.int a1), some (.int a2), none, some (.int s_8.1), some (.int s_8.2), some (.int 1), some (.int s_12.2)]) (Nat.le_of_ble_eq_true rfl) rfl rfl dX10_commonTrait_94 ?_
                      refine j_iinc (i := 7) (v := s_12.2 + 1) (L' := [some (.ref a0), some (.int a1), some (.int a2), none, some (.int s_8.1), some (.int s_8.2), some (.int 1), some (.int (s_12.2 + 1))]) rfl (m_o1 _) (Nat.le_of_ble_eq_true rfl) rfl rfl dX10_commonTrait_96 ?_
                      refine j_goto (tgt := 48) dX10_commonTrait_99 rfl ?_
                      cases hr
                      exact j_weak (L' := [some (.ref a0), some (.int a1), some (.int a2), none, some (.int s_8.1), some (.int s_8.2), some (.int 1), some (.int (s_12.2 + 1))]) (And.intro rfl (And.intro rfl (And.intro rfl (And.intro rfl (And.intro rfl (And.intro rfl (And.intro rfl trivial))))))) hk
                    · rw [if_neg c15] at hr
                      refine j_aload_n (i := 0) rfl rfl dX10_commonTrait_67 ?_
                      refine j_iload_n (i := 1) rfl rfl dX10_commonTrait_68 ?_
                      refine j_iload_n (i := 2) rfl rfl dX10_commonTrait_69 ?_
                      refine j_iload (i := 7) rfl dX10_commonTrait_70 ?_
                      by_cases o23 : m_ob h a0 9 = true
                      · rw [if_pos o23] at hr
                        replace hr := m_bind hr; obtain ⟨r17, g16, hr⟩ := hr
                        refine j_callV (Y' := Y_X10_isShared) (a := a0) (as := [.int a1, .int a2, .int s_12.2]) (ci := 9) (T := TX10) (N := 30) ok_X10_isShared [some (.ref a0), some (.int a1), some (.int a2), some (.int s_12.2)] rfl rfl rfl tw_4_84 tw_4_86 tw_p_15 nn_X10_isShared (Nat.le_of_ble_eq_true rfl) dX10_commonTrait_72 o23 (j_X10_isShared (by omega) g16) ?_
                        refine j_if_eq (tgt := 89) dX10_commonTrait_75 rfl (fun c18 => ?_) (fun c18 => ?_)
                        · rw [if_pos c18] at hr
                          refine j_iconst (v := 1) rfl dX10_commonTrait_89 ?_
                          refine j_goto (tgt := 94) dX10_commonTrait_90 rfl ?_
                          refine j_istore (i := 6) (L' := [some (.ref a0), some (.int a1), some (.int a2), none, some (.int s_8.1), some (.int s_8.2), some (.int 1), some (.int s_12.2)]) (Nat.le_of_ble_eq_true rfl) rfl rfl dX10_commonTrait_94 ?_
                          refine j_iinc (i := 7) (v := s_12.2 + 1) (L' := [some (.ref a0), some (.int a1), some (.int a2), none, some (.int s_8.1), some (.int s_8.2), some (.int 1), some (.int (s_12.2 + 1))]) rfl (m_o1 _) (Nat.le_of_ble_eq_true rfl) rfl rfl dX10_commonTrait_96 ?_
                          refine j_goto (tgt := 48) dX10_commonTrait_99 rfl ?_
                          cases hr
                          exact j_weak (L' := [some (.ref a0), some (.int a1), some (.int a2), none, some (.int s_8.1), some (.int s_8.2), some (.int 1), some (.int (s_12.2 + 1))]) (And.intro rfl (And.intro rfl (And.intro rfl (And.intro rfl (And.intro rfl (And.intro rfl (And.intro rfl trivial))))))) hk
                        · rw [if_neg c18] at hr
                          refine j_aload_n (i := 0) rfl rfl dX10_commonTrait_78 ?_
                          refine j_iload (i := 5) rfl dX10_commonTrait_79 ?_
                          refine j_iload (i := 7) rfl dX10_commonTrait_81 ?_
                          by_cases o22 : m_ob h a0 9 = true
                          · rw [if_pos o22] at hr
                            replace hr := m_bind hr; obtain ⟨r20, g19, hr⟩ := hr
                            refine j_callV (Y' := Y_X10_traitAbove) (a := a0) (as := [.int s_8.2, .int s_12.2]) (ci := 9) (T := TX10) (N := 30) ok_X10_traitAbove [some (.ref a0), some (.int s_8.2), some (.int s_12.2), none, none, none, none] rfl rfl rfl tw_4_68 tw_4_70 tw_p_14 nn_X10_traitAbove (Nat.le_of_ble_eq_true rfl) dX10_commonTrait_83 o22 (j_X10_traitAbove g19) ?_
                            refine j_if_ne (tgt := 93) dX10_commonTrait_86 rfl (fun c21 => ?_) (fun c21 => ?_)
                            · rw [if_neg c21] at hr
                              refine j_iconst (v := 0) rfl dX10_commonTrait_93 ?_
                              refine j_istore (i := 6) (L' := [some (.ref a0), some (.int a1), some (.int a2), none, some (.int s_8.1), some (.int s_8.2), some (.int 0), some (.int s_12.2)]) (Nat.le_of_ble_eq_true rfl) rfl rfl dX10_commonTrait_94 ?_
                              refine j_iinc (i := 7) (v := s_12.2 + 1) (L' := [some (.ref a0), some (.int a1), some (.int a2), none, some (.int s_8.1), some (.int s_8.2), some (.int 0), some (.int (s_12.2 + 1))]) rfl (m_o1 _) (Nat.le_of_ble_eq_true rfl) rfl rfl dX10_commonTrait_96 ?_
                              refine j_goto (tgt := 48) dX10_commonTrait_99 rfl ?_
                              cases hr
                              exact j_weak (L' := [some (.ref a0), some (.int a1), some (.int a2), none, some (.int s_8.1), some (.int s_8.2), some (.int 0), some (.int (s_12.2 + 1))]) (And.intro rfl (And.intro rfl (And.intro rfl (And.intro rfl (And.intro rfl (And.intro rfl (And.intro rfl trivial))))))) hk
                            · rw [if_pos c21] at hr
                              refine j_iconst (v := 1) rfl dX10_commonTrait_89 ?_
                              refine j_goto (tgt := 94) dX10_commonTrait_90 rfl ?_
                              refine j_istore (i := 6) (L' := [some (.ref a0), some (.int a1), some (.int a2), none, some (.int s_8.1), some (.int s_8.2), some (.int 1), some (.int s_12.2)]) (Nat.le_of_ble_eq_true rfl) rfl rfl dX10_commonTrait_94 ?_
                              refine j_iinc (i := 7) (v := s_12.2 + 1) (L' := [some (.ref a0), some (.int a1), some (.int a2), none, some (.int s_8.1), some (.int s_8.2), some (.int 1), some (.int (s_12.2 + 1))]) rfl (m_o1 _) (Nat.le_of_ble_eq_true rfl) rfl rfl dX10_commonTrait_96 ?_
                              refine j_goto (tgt := 48) dX10_commonTrait_99 rfl ?_
                              cases hr
                              exact j_weak (L' := [some (.ref a0), some (.int a1), some (.int a2), none, some (.int s_8.1), some (.int s_8.2), some (.int 1), some (.int (s_12.2 + 1))]) (And.intro rfl (And.intro rfl (And.intro rfl (And.intro rfl (And.intro rfl (And.intro rfl (And.intro rfl trivial))))))) hk
                          · rw [if_neg o22] at hr
                            cases hr
                      · rw [if_neg o23] at hr
                        cases hr
              · skip
                refine j_iload (i := 6) rfl dX10_commonTrait_102 ?_
                refine j_if_ne (tgt := 110) dX10_commonTrait_104 rfl (fun c25 => ?_) (fun c25 => ?_)
                · rw [if_neg c25] at hr
                  refine j_iload (i := 4) rfl dX10_commonTrait_110 ?_
                  refine j_if_ne (tgt := 118) dX10_commonTrait_112 rfl (fun c26 => ?_) (fun c26 => ?_)
                  · rw [if_neg c26] at hr
                    refine j_iinc (i := 4) (v := s_8.1 + (-1)) (L' := [some (.ref a0), some (.int a1), some (.int a2), none, some (.int (s_8.1 + (-1))), some (.int s_8.2), some (.int e24), none]) rfl (m_om1 _) (Nat.le_of_ble_eq_true rfl) rfl rfl dX10_commonTrait_118 ?_
                    refine j_iinc (i := 5) (v := s_8.2 + 1) (L' := [some (.ref a0), some (.int a1), some (.int a2), none, some (.int (s_8.1 + (-1))), some (.int (s_8.2 + 1)), some (.int e24), none]) rfl (m_o1 _) (Nat.le_of_ble_eq_true rfl) rfl rfl dX10_commonTrait_121 ?_
                    refine j_goto (tgt := 27) dX10_commonTrait_124 rfl ?_
                    cases hr
                    exact j_weak (L' := [some (.ref a0), some (.int a1), some (.int a2), none, some (.int (s_8.1 + (-1))), some (.int (s_8.2 + 1)), none, none]) (And.intro rfl (And.intro rfl (And.intro rfl (And.intro rfl (And.intro rfl trivial))))) hk
                  · rw [if_pos c26] at hr
                    refine j_iload (i := 5) rfl dX10_commonTrait_115 ?_
                    cases hr
                    rw [show _ = _ from hk]
                    exact j_ret dX10_commonTrait_117 m_rk_i
                · rw [if_pos c25] at hr
                  refine j_goto (tgt := 121) dX10_commonTrait_107 rfl ?_
                  refine j_iinc (i := 5) (v := s_8.2 + 1) (L' := [some (.ref a0), some (.int a1), some (.int a2), none, some (.int s_8.1), some (.int (s_8.2 + 1)), some (.int e24), none]) rfl (m_o1 _) (Nat.le_of_ble_eq_true rfl) rfl rfl dX10_commonTrait_121 ?_
                  refine j_goto (tgt := 27) dX10_commonTrait_124 rfl ?_
                  cases hr
                  exact j_weak (L' := [some (.ref a0), some (.int a1), some (.int a2), none, some (.int s_8.1), some (.int (s_8.2 + 1)), none, none]) (And.intro rfl (And.intro rfl (And.intro rfl (And.intro rfl (And.intro rfl trivial))))) hk
            · rw [if_neg o30] at hr
              cases hr
        · cases e31 with
          | inl x32 =>
            dsimp only at hr
            dsimp only
            refine j_iconst (v := (-1)) rfl dX10_commonTrait_127 ?_
            cases hr
            exact j_ret dX10_commonTrait_128 m_rk_i
          | inr v34 =>
            dsimp only at hr
            cases hr
            rfl
      · rw [if_neg c7] at hr
        refine j_iconst (v := (-1)) rfl dX10_commonTrait_18 ?_
        cases hr
        exact j_ret dX10_commonTrait_19 m_rk_i
def f_X10_make (h : mH) (a0 : Nat) (a1 : Int32) (a2 : Int32) (a3 : Int32) : Option (Int32 × mH) :=
  (f_X10_isKind a1).bind fun r2 =>
  if r2 = 0 then
    some (((-1), h))
  else
    if m_ob h a0 9 = true then
      (f_X10_isAbstract h a0 a1).bind fun r5 =>
      if r5 = 0 then
        (f_X10_in a2 0 100000).bind fun r8 =>
        if r8 = 0 then
          some (((-1), h))
        else
          (f_X10_in a3 0 100000).bind fun r11 =>
          if r11 = 0 then
            some (((-1), h))
          else
            (m_gi h a0 9 6).bind fun x13 =>
            if x13 = 300 then
              some (((-1), h))
            else
              (m_gi h a0 9 6).bind fun x16 =>
              (m_gr h a0 9 7).bind fun q18 =>
              (q18).bind fun b20 =>
              (m_ist h b20 x16 a1).bind fun h22 =>
              (m_gr h22 a0 9 8).bind fun q24 =>
              (q24).bind fun b26 =>
              (m_ist h22 b26 x16 a2).bind fun h28 =>
              (m_gr h28 a0 9 9).bind fun q30 =>
              (q30).bind fun b32 =>
              (m_ist h28 b32 x16 a3).bind fun h34 =>
              (m_gr h34 a0 9 10).bind fun q36 =>
              (q36).bind fun b38 =>
              (m_ist h34 b38 x16 ((-1))).bind fun h40 =>
              (m_gr h40 a0 9 11).bind fun q42 =>
              (q42).bind fun b44 =>
              (m_ist h40 b44 x16 ((-1))).bind fun h46 =>
              (m_gr h46 a0 9 12).bind fun q48 =>
              (q48).bind fun b50 =>
              (m_ist h46 b50 x16 ((-1))).bind fun h52 =>
              (m_gr h52 a0 9 13).bind fun q54 =>
              (q54).bind fun b56 =>
              (m_ist h52 b56 x16 ((-1))).bind fun h58 =>
              (m_gr h58 a0 9 14).bind fun q60 =>
              (q60).bind fun b62 =>
              (m_ist h58 b62 x16 ((-1))).bind fun h64 =>
              (m_gr h64 a0 9 15).bind fun q66 =>
              (q66).bind fun b68 =>
              (m_ist h64 b68 x16 ((-1))).bind fun h70 =>
              (m_gr h70 a0 9 16).bind fun q72 =>
              (q72).bind fun b74 =>
              (m_ist h70 b74 x16 ((-1))).bind fun h76 =>
              (m_gi h76 a0 9 6).bind fun x78 =>
              (m_pf h76 a0 9 6 (.int (x78 + 1))).bind fun h80 =>
              some ((x16, h80))
      else
        some (((-1), h))
    else none
def Y_X10_make : mY := (yX10_make, cX10_make, 5, some (FieldType.int), .ireturn)
theorem ok_X10_make : m_Ok Y_X10_make := ⟨by decide +kernel, ⟨by decide +kernel, by decide +kernel⟩, tw_4_91, tw_1_7, by decide, Or.inr (Or.inl ⟨Or.inl rfl, rfl⟩)⟩
theorem nn_X10_make : (parseMethodDescriptor Y_X10_make.1.desc).map (fun q => q.parameters.length) = some 3 := by decide +kernel
set_option maxHeartbeats 4000000 in
set_option maxRecDepth 20000 in
theorem j_X10_make {X : mX} {d : Nat} {h : mH} {a0 : Nat} {a1 : Int32} {a2 : Int32} {a3 : Int32} {rv : Int32} {h' : mH} (hd : 2 ≤ d) (hr : f_X10_make h a0 a1 a2 a3 = some (rv, h')) : m_J X Y_X10_make d 0 [some (.ref a0), some (.int a1), some (.int a2), some (.int a3), none] [] h (some (.int rv), h') := by
  obtain ⟨d, rfl⟩ : ∃ k, d = k + 1 := ⟨d - 1, by omega⟩
  unfold f_X10_make at hr
  refine j_iload_n (i := 1) rfl rfl dX10_make_0 ?_
  replace hr := m_bind hr; obtain ⟨r2, g1, hr⟩ := hr
  refine j_callS (Y' := Y_X10_isKind) (as := [.int a1]) ok_X10_isKind [some (.int a1)] rfl rfl tw_4_51 tw_4_52 nn_X10_isKind (Nat.le_of_ble_eq_true rfl) dX10_make_1 (j_X10_isKind (by omega) g1) ?_
  refine j_if_eq (tgt := 45) dX10_make_4 rfl (fun c3 => ?_) (fun c3 => ?_)
  · rw [if_pos c3] at hr
    refine j_iconst (v := (-1)) rfl dX10_make_45 ?_
    cases hr
    exact j_ret dX10_make_46 m_rk_i
  · rw [if_neg c3] at hr
    refine j_aload_n (i := 0) rfl rfl dX10_make_7 ?_
    refine j_iload_n (i := 1) rfl rfl dX10_make_8 ?_
    by_cases o82 : m_ob h a0 9 = true
    · rw [if_pos o82] at hr
      replace hr := m_bind hr; obtain ⟨r5, g4, hr⟩ := hr
      refine j_callV (Y' := Y_X10_isAbstract) (a := a0) (as := [.int a1]) (ci := 9) (T := TX10) (N := 30) ok_X10_isAbstract [some (.ref a0), some (.int a1), none, none] rfl rfl rfl tw_4_92 tw_4_94 tw_p_16 nn_X10_isAbstract (Nat.le_of_ble_eq_true rfl) dX10_make_9 o82 (j_X10_isAbstract g4) ?_
      refine j_if_ne (tgt := 45) dX10_make_12 rfl (fun c6 => ?_) (fun c6 => ?_)
      · rw [if_neg c6] at hr
        refine j_iconst (v := (-1)) rfl dX10_make_45 ?_
        cases hr
        exact j_ret dX10_make_46 m_rk_i
      · rw [if_pos c6] at hr
        refine j_iload_n (i := 2) rfl rfl dX10_make_15 ?_
        refine j_iconst (v := 0) rfl dX10_make_16 ?_
        refine j_ldc (v := 100000) tw_4_96 dX10_make_17 ?_
        replace hr := m_bind hr; obtain ⟨r8, g7, hr⟩ := hr
        refine j_callS (Y' := Y_X10_in) (as := [.int a2, .int 0, .int 100000]) ok_X10_in [some (.int a2), some (.int 0), some (.int 100000)] rfl rfl tw_4_54 tw_4_55 nn_X10_in (Nat.le_of_ble_eq_true rfl) dX10_make_19 (j_X10_in g7) ?_
        refine j_if_eq (tgt := 45) dX10_make_22 rfl (fun c9 => ?_) (fun c9 => ?_)
        · rw [if_pos c9] at hr
          refine j_iconst (v := (-1)) rfl dX10_make_45 ?_
          cases hr
          exact j_ret dX10_make_46 m_rk_i
        · rw [if_neg c9] at hr
          refine j_iload_n (i := 3) rfl rfl dX10_make_25 ?_
          refine j_iconst (v := 0) rfl dX10_make_26 ?_
          refine j_ldc (v := 100000) tw_4_96 dX10_make_27 ?_
          replace hr := m_bind hr; obtain ⟨r11, g10, hr⟩ := hr
          refine j_callS (Y' := Y_X10_in) (as := [.int a3, .int 0, .int 100000]) ok_X10_in [some (.int a3), some (.int 0), some (.int 100000)] rfl rfl tw_4_54 tw_4_55 nn_X10_in (Nat.le_of_ble_eq_true rfl) dX10_make_29 (j_X10_in g10) ?_
          refine j_if_eq (tgt := 45) dX10_make_32 rfl (fun c12 => ?_) (fun c12 => ?_)
          · rw [if_pos c12] at hr
            refine j_iconst (v := (-1)) rfl dX10_make_45 ?_
            cases hr
            exact j_ret dX10_make_46 m_rk_i
          · rw [if_neg c12] at hr
            refine j_aload_n (i := 0) rfl rfl dX10_make_35 ?_
            replace hr := m_bind hr; obtain ⟨x13, g14, hr⟩ := hr
            refine j_getf (C := RX10) (T := TX10) (N := 30) (ci := 9) (k := 6) rfl (by decide) inX10 tw_3_199 dX10_make_36 (m_gi_spec g14) ?_
            refine j_sipush (v := 300) rfl dX10_make_39 ?_
            refine j_ic_ne (tgt := 47) dX10_make_42 rfl (fun c15 => ?_) (fun c15 => ?_)
            · rw [if_neg c15] at hr
              refine j_aload_n (i := 0) rfl rfl dX10_make_47 ?_
              replace hr := m_bind hr; obtain ⟨x16, g17, hr⟩ := hr
              refine j_getf (C := RX10) (T := TX10) (N := 30) (ci := 9) (k := 6) rfl (by decide) inX10 tw_3_199 dX10_make_48 (m_gi_spec g17) ?_
              refine j_istore (i := 4) (L' := [some (.ref a0), some (.int a1), some (.int a2), some (.int a3), some (.int x16)]) (Nat.le_of_ble_eq_true rfl) rfl rfl dX10_make_51 ?_
              refine j_aload_n (i := 0) rfl rfl dX10_make_53 ?_
              replace hr := m_bind hr; obtain ⟨q18, g19, hr⟩ := hr
              refine j_getf (C := RX10) (T := TX10) (N := 30) (ci := 9) (k := 7) rfl (by decide) inX10 tw_3_200 dX10_make_54 (m_gr_spec g19) ?_
              refine j_iload (i := 4) rfl dX10_make_57 ?_
              refine j_iload_n (i := 1) rfl rfl dX10_make_59 ?_
              replace hr := m_bind hr; obtain ⟨b20, g21, hr⟩ := hr
              subst g21
              replace hr := m_bind hr; obtain ⟨h22, g23, hr⟩ := hr
              refine j_iastore dX10_make_60 g23 ?_
              refine j_aload_n (i := 0) rfl rfl dX10_make_61 ?_
              replace hr := m_bind hr; obtain ⟨q24, g25, hr⟩ := hr
              refine j_getf (C := RX10) (T := TX10) (N := 30) (ci := 9) (k := 8) rfl (by decide) inX10 tw_3_201 dX10_make_62 (m_gr_spec g25) ?_
              refine j_iload (i := 4) rfl dX10_make_65 ?_
              refine j_iload_n (i := 2) rfl rfl dX10_make_67 ?_
              replace hr := m_bind hr; obtain ⟨b26, g27, hr⟩ := hr
              subst g27
              replace hr := m_bind hr; obtain ⟨h28, g29, hr⟩ := hr
              refine j_iastore dX10_make_68 g29 ?_
              refine j_aload_n (i := 0) rfl rfl dX10_make_69 ?_
              replace hr := m_bind hr; obtain ⟨q30, g31, hr⟩ := hr
              refine j_getf (C := RX10) (T := TX10) (N := 30) (ci := 9) (k := 9) rfl (by decide) inX10 tw_3_202 dX10_make_70 (m_gr_spec g31) ?_
              refine j_iload (i := 4) rfl dX10_make_73 ?_
              refine j_iload_n (i := 3) rfl rfl dX10_make_75 ?_
              replace hr := m_bind hr; obtain ⟨b32, g33, hr⟩ := hr
              subst g33
              replace hr := m_bind hr; obtain ⟨h34, g35, hr⟩ := hr
              refine j_iastore dX10_make_76 g35 ?_
              refine j_aload_n (i := 0) rfl rfl dX10_make_77 ?_
              replace hr := m_bind hr; obtain ⟨q36, g37, hr⟩ := hr
              refine j_getf (C := RX10) (T := TX10) (N := 30) (ci := 9) (k := 10) rfl (by decide) inX10 tw_3_203 dX10_make_78 (m_gr_spec g37) ?_
              refine j_iload (i := 4) rfl dX10_make_81 ?_
              refine j_iconst (v := (-1)) rfl dX10_make_83 ?_
              replace hr := m_bind hr; obtain ⟨b38, g39, hr⟩ := hr
              subst g39
              replace hr := m_bind hr; obtain ⟨h40, g41, hr⟩ := hr
              refine j_iastore dX10_make_84 g41 ?_
              refine j_aload_n (i := 0) rfl rfl dX10_make_85 ?_
              replace hr := m_bind hr; obtain ⟨q42, g43, hr⟩ := hr
              refine j_getf (C := RX10) (T := TX10) (N := 30) (ci := 9) (k := 11) rfl (by decide) inX10 tw_3_204 dX10_make_86 (m_gr_spec g43) ?_
              refine j_iload (i := 4) rfl dX10_make_89 ?_
              refine j_iconst (v := (-1)) rfl dX10_make_91 ?_
              replace hr := m_bind hr; obtain ⟨b44, g45, hr⟩ := hr
              subst g45
              replace hr := m_bind hr; obtain ⟨h46, g47, hr⟩ := hr
              refine j_iastore dX10_make_92 g47 ?_
              refine j_aload_n (i := 0) rfl rfl dX10_make_93 ?_
              replace hr := m_bind hr; obtain ⟨q48, g49, hr⟩ := hr
              refine j_getf (C := RX10) (T := TX10) (N := 30) (ci := 9) (k := 12) rfl (by decide) inX10 tw_3_205 dX10_make_94 (m_gr_spec g49) ?_
              refine j_iload (i := 4) rfl dX10_make_97 ?_
              refine j_iconst (v := (-1)) rfl dX10_make_99 ?_
              replace hr := m_bind hr; obtain ⟨b50, g51, hr⟩ := hr
              subst g51
              replace hr := m_bind hr; obtain ⟨h52, g53, hr⟩ := hr
              refine j_iastore dX10_make_100 g53 ?_
              refine j_aload_n (i := 0) rfl rfl dX10_make_101 ?_
              replace hr := m_bind hr; obtain ⟨q54, g55, hr⟩ := hr
              refine j_getf (C := RX10) (T := TX10) (N := 30) (ci := 9) (k := 13) rfl (by decide) inX10 tw_3_206 dX10_make_102 (m_gr_spec g55) ?_
              refine j_iload (i := 4) rfl dX10_make_105 ?_
              refine j_iconst (v := (-1)) rfl dX10_make_107 ?_
              replace hr := m_bind hr; obtain ⟨b56, g57, hr⟩ := hr
              subst g57
              replace hr := m_bind hr; obtain ⟨h58, g59, hr⟩ := hr
              refine j_iastore dX10_make_108 g59 ?_
              refine j_aload_n (i := 0) rfl rfl dX10_make_109 ?_
              replace hr := m_bind hr; obtain ⟨q60, g61, hr⟩ := hr
              refine j_getf (C := RX10) (T := TX10) (N := 30) (ci := 9) (k := 14) rfl (by decide) inX10 tw_3_207 dX10_make_110 (m_gr_spec g61) ?_
              refine j_iload (i := 4) rfl dX10_make_113 ?_
              refine j_iconst (v := (-1)) rfl dX10_make_115 ?_
              replace hr := m_bind hr; obtain ⟨b62, g63, hr⟩ := hr
              subst g63
              replace hr := m_bind hr; obtain ⟨h64, g65, hr⟩ := hr
              refine j_iastore dX10_make_116 g65 ?_
              refine j_aload_n (i := 0) rfl rfl dX10_make_117 ?_
              replace hr := m_bind hr; obtain ⟨q66, g67, hr⟩ := hr
              refine j_getf (C := RX10) (T := TX10) (N := 30) (ci := 9) (k := 15) rfl (by decide) inX10 tw_3_208 dX10_make_118 (m_gr_spec g67) ?_
              refine j_iload (i := 4) rfl dX10_make_121 ?_
              refine j_iconst (v := (-1)) rfl dX10_make_123 ?_
              replace hr := m_bind hr; obtain ⟨b68, g69, hr⟩ := hr
              subst g69
              replace hr := m_bind hr; obtain ⟨h70, g71, hr⟩ := hr
              refine j_iastore dX10_make_124 g71 ?_
              refine j_aload_n (i := 0) rfl rfl dX10_make_125 ?_
              replace hr := m_bind hr; obtain ⟨q72, g73, hr⟩ := hr
              refine j_getf (C := RX10) (T := TX10) (N := 30) (ci := 9) (k := 16) rfl (by decide) inX10 tw_3_209 dX10_make_126 (m_gr_spec g73) ?_
              refine j_iload (i := 4) rfl dX10_make_129 ?_
              refine j_iconst (v := (-1)) rfl dX10_make_131 ?_
              replace hr := m_bind hr; obtain ⟨b74, g75, hr⟩ := hr
              subst g75
              replace hr := m_bind hr; obtain ⟨h76, g77, hr⟩ := hr
              refine j_iastore dX10_make_132 g77 ?_
              refine j_aload_n (i := 0) rfl rfl dX10_make_133 ?_
              refine j_dup rfl dX10_make_134 ?_
              replace hr := m_bind hr; obtain ⟨x78, g79, hr⟩ := hr
              refine j_getf (C := RX10) (T := TX10) (N := 30) (ci := 9) (k := 6) rfl (by decide) inX10 tw_3_199 dX10_make_135 (m_gi_spec g79) ?_
              refine j_iconst (v := 1) rfl dX10_make_138 ?_
              refine j_iadd dX10_make_139 ?_
              replace hr := m_bind hr; obtain ⟨h80, g81, hr⟩ := hr
              refine j_puti (C := RX10) (T := TX10) (ty := tyX10) (N := 30) (ci := 9) (k := 6) rfl (by decide) inX10 tyX10_ok nmX10 tw_3_199 rfl rfl dX10_make_140 g81 ?_
              refine j_iload (i := 4) rfl dX10_make_143 ?_
              cases hr
              exact j_ret dX10_make_145 m_rk_i
            · rw [if_pos c15] at hr
              refine j_iconst (v := (-1)) rfl dX10_make_45 ?_
              cases hr
              exact j_ret dX10_make_46 m_rk_i
    · rw [if_neg o82] at hr
      cases hr
def f_X10_caseOf (h : mH) (a0 : Nat) (a1 : Int32) (a2 : Int32) : Option (Int32 × mH) :=
  (f_X10_isKind a1).bind fun r2 =>
  if r2 = 0 then
    some (((-1), h))
  else
    (f_X10_in a2 1 20).bind fun r5 =>
    if r5 = 0 then
      some (((-1), h))
    else
      (m_gi h a0 9 17).bind fun x7 =>
      if x7 = 40 then
        some (((-1), h))
      else
        (m_gr h a0 9 18).bind fun q10 =>
        (m_gi h a0 9 17).bind fun x12 =>
        (q10).bind fun b14 =>
        (m_ist h b14 x12 a1).bind fun h16 =>
        (m_gr h16 a0 9 19).bind fun q18 =>
        (m_gi h16 a0 9 17).bind fun x20 =>
        (q18).bind fun b22 =>
        (m_ist h16 b22 x20 a2).bind fun h24 =>
        (m_gi h24 a0 9 17).bind fun x26 =>
        (m_pf h24 a0 9 17 (.int (x26 + 1))).bind fun h28 =>
        (m_gi h28 a0 9 17).bind fun x30 =>
        some ((x30 - 1, h28))
def Y_X10_caseOf : mY := (yX10_caseOf, cX10_caseOf, 3, some (FieldType.int), .ireturn)
theorem ok_X10_caseOf : m_Ok Y_X10_caseOf := ⟨by decide +kernel, ⟨by decide +kernel, by decide +kernel⟩, tw_4_100, tw_1_7, by decide, Or.inr (Or.inl ⟨Or.inl rfl, rfl⟩)⟩
theorem nn_X10_caseOf : (parseMethodDescriptor Y_X10_caseOf.1.desc).map (fun q => q.parameters.length) = some 2 := by decide +kernel
set_option maxHeartbeats 4000000 in
set_option maxRecDepth 20000 in
theorem j_X10_caseOf {X : mX} {d : Nat} {h : mH} {a0 : Nat} {a1 : Int32} {a2 : Int32} {rv : Int32} {h' : mH} (hd : 2 ≤ d) (hr : f_X10_caseOf h a0 a1 a2 = some (rv, h')) : m_J X Y_X10_caseOf d 0 [some (.ref a0), some (.int a1), some (.int a2)] [] h (some (.int rv), h') := by
  obtain ⟨d, rfl⟩ : ∃ k, d = k + 1 := ⟨d - 1, by omega⟩
  unfold f_X10_caseOf at hr
  refine j_iload_n (i := 1) rfl rfl dX10_caseOf_0 ?_
  replace hr := m_bind hr; obtain ⟨r2, g1, hr⟩ := hr
  refine j_callS (Y' := Y_X10_isKind) (as := [.int a1]) ok_X10_isKind [some (.int a1)] rfl rfl tw_4_51 tw_4_52 nn_X10_isKind (Nat.le_of_ble_eq_true rfl) dX10_caseOf_1 (j_X10_isKind (by omega) g1) ?_
  refine j_if_eq (tgt := 26) dX10_caseOf_4 rfl (fun c3 => ?_) (fun c3 => ?_)
  · rw [if_pos c3] at hr
    refine j_iconst (v := (-1)) rfl dX10_caseOf_26 ?_
    cases hr
    exact j_ret dX10_caseOf_27 m_rk_i
  · rw [if_neg c3] at hr
    refine j_iload_n (i := 2) rfl rfl dX10_caseOf_7 ?_
    refine j_iconst (v := 1) rfl dX10_caseOf_8 ?_
    refine j_bipush (v := 20) rfl dX10_caseOf_9 ?_
    replace hr := m_bind hr; obtain ⟨r5, g4, hr⟩ := hr
    refine j_callS (Y' := Y_X10_in) (as := [.int a2, .int 1, .int 20]) ok_X10_in [some (.int a2), some (.int 1), some (.int 20)] rfl rfl tw_4_54 tw_4_55 nn_X10_in (Nat.le_of_ble_eq_true rfl) dX10_caseOf_11 (j_X10_in g4) ?_
    refine j_if_eq (tgt := 26) dX10_caseOf_14 rfl (fun c6 => ?_) (fun c6 => ?_)
    · rw [if_pos c6] at hr
      refine j_iconst (v := (-1)) rfl dX10_caseOf_26 ?_
      cases hr
      exact j_ret dX10_caseOf_27 m_rk_i
    · rw [if_neg c6] at hr
      refine j_aload_n (i := 0) rfl rfl dX10_caseOf_17 ?_
      replace hr := m_bind hr; obtain ⟨x7, g8, hr⟩ := hr
      refine j_getf (C := RX10) (T := TX10) (N := 30) (ci := 9) (k := 17) rfl (by decide) inX10 tw_3_210 dX10_caseOf_18 (m_gi_spec g8) ?_
      refine j_bipush (v := 40) rfl dX10_caseOf_21 ?_
      refine j_ic_ne (tgt := 28) dX10_caseOf_23 rfl (fun c9 => ?_) (fun c9 => ?_)
      · rw [if_neg c9] at hr
        refine j_aload_n (i := 0) rfl rfl dX10_caseOf_28 ?_
        replace hr := m_bind hr; obtain ⟨q10, g11, hr⟩ := hr
        refine j_getf (C := RX10) (T := TX10) (N := 30) (ci := 9) (k := 18) rfl (by decide) inX10 tw_3_211 dX10_caseOf_29 (m_gr_spec g11) ?_
        refine j_aload_n (i := 0) rfl rfl dX10_caseOf_32 ?_
        replace hr := m_bind hr; obtain ⟨x12, g13, hr⟩ := hr
        refine j_getf (C := RX10) (T := TX10) (N := 30) (ci := 9) (k := 17) rfl (by decide) inX10 tw_3_210 dX10_caseOf_33 (m_gi_spec g13) ?_
        refine j_iload_n (i := 1) rfl rfl dX10_caseOf_36 ?_
        replace hr := m_bind hr; obtain ⟨b14, g15, hr⟩ := hr
        subst g15
        replace hr := m_bind hr; obtain ⟨h16, g17, hr⟩ := hr
        refine j_iastore dX10_caseOf_37 g17 ?_
        refine j_aload_n (i := 0) rfl rfl dX10_caseOf_38 ?_
        replace hr := m_bind hr; obtain ⟨q18, g19, hr⟩ := hr
        refine j_getf (C := RX10) (T := TX10) (N := 30) (ci := 9) (k := 19) rfl (by decide) inX10 tw_3_212 dX10_caseOf_39 (m_gr_spec g19) ?_
        refine j_aload_n (i := 0) rfl rfl dX10_caseOf_42 ?_
        replace hr := m_bind hr; obtain ⟨x20, g21, hr⟩ := hr
        refine j_getf (C := RX10) (T := TX10) (N := 30) (ci := 9) (k := 17) rfl (by decide) inX10 tw_3_210 dX10_caseOf_43 (m_gi_spec g21) ?_
        refine j_iload_n (i := 2) rfl rfl dX10_caseOf_46 ?_
        replace hr := m_bind hr; obtain ⟨b22, g23, hr⟩ := hr
        subst g23
        replace hr := m_bind hr; obtain ⟨h24, g25, hr⟩ := hr
        refine j_iastore dX10_caseOf_47 g25 ?_
        refine j_aload_n (i := 0) rfl rfl dX10_caseOf_48 ?_
        refine j_dup rfl dX10_caseOf_49 ?_
        replace hr := m_bind hr; obtain ⟨x26, g27, hr⟩ := hr
        refine j_getf (C := RX10) (T := TX10) (N := 30) (ci := 9) (k := 17) rfl (by decide) inX10 tw_3_210 dX10_caseOf_50 (m_gi_spec g27) ?_
        refine j_iconst (v := 1) rfl dX10_caseOf_53 ?_
        refine j_iadd dX10_caseOf_54 ?_
        replace hr := m_bind hr; obtain ⟨h28, g29, hr⟩ := hr
        refine j_puti (C := RX10) (T := TX10) (ty := tyX10) (N := 30) (ci := 9) (k := 17) rfl (by decide) inX10 tyX10_ok nmX10 tw_3_210 rfl rfl dX10_caseOf_55 g29 ?_
        refine j_aload_n (i := 0) rfl rfl dX10_caseOf_58 ?_
        replace hr := m_bind hr; obtain ⟨x30, g31, hr⟩ := hr
        refine j_getf (C := RX10) (T := TX10) (N := 30) (ci := 9) (k := 17) rfl (by decide) inX10 tw_3_210 dX10_caseOf_59 (m_gi_spec g31) ?_
        refine j_iconst (v := 1) rfl dX10_caseOf_62 ?_
        refine j_isub dX10_caseOf_63 ?_
        cases hr
        exact j_ret dX10_caseOf_64 m_rk_i
      · rw [if_pos c9] at hr
        refine j_iconst (v := (-1)) rfl dX10_caseOf_26 ?_
        cases hr
        exact j_ret dX10_caseOf_27 m_rk_i
def f_X10_isPlace (h : mH) (a0 : Nat) (a1 : Int32) (a2 : Int32) : Option (Int32) :=
  (m_gi h a0 9 17).bind fun x1 =>
  (f_X10_in a1 0 (x1 - 1)).bind fun r4 =>
  if r4 = 0 then
    some 0
  else
    (m_gr h a0 9 19).bind fun q6 =>
    (q6).bind fun b8 =>
    (m_ild h b8 a1).bind fun x10 =>
    (f_X10_in a2 0 (x10 - 1)).bind fun r13 =>
    if r13 = 0 then
      some 0
    else
      some 1
def Y_X10_isPlace : mY := (yX10_isPlace, cX10_isPlace, 3, some (FieldType.boolean), .ireturn)
theorem ok_X10_isPlace : m_Ok Y_X10_isPlace := ⟨by decide +kernel, ⟨by decide +kernel, by decide +kernel⟩, tw_4_108, tw_1_7, by decide, Or.inr (Or.inl ⟨Or.inr rfl, rfl⟩)⟩
theorem nn_X10_isPlace : (parseMethodDescriptor Y_X10_isPlace.1.desc).map (fun q => q.parameters.length) = some 2 := by decide +kernel
set_option maxHeartbeats 4000000 in
set_option maxRecDepth 20000 in
theorem j_X10_isPlace {X : mX} {d : Nat} {h : mH} {a0 : Nat} {a1 : Int32} {a2 : Int32} {rv : Int32} (hd : 1 ≤ d) (hr : f_X10_isPlace h a0 a1 a2 = some rv) : m_J X Y_X10_isPlace d 0 [some (.ref a0), some (.int a1), some (.int a2)] [] h (some (.int rv), h) := by
  obtain ⟨d, rfl⟩ : ∃ k, d = k + 1 := ⟨d - 1, by omega⟩
  unfold f_X10_isPlace at hr
  refine j_iload_n (i := 1) rfl rfl dX10_isPlace_0 ?_
  refine j_iconst (v := 0) rfl dX10_isPlace_1 ?_
  refine j_aload_n (i := 0) rfl rfl dX10_isPlace_2 ?_
  replace hr := m_bind hr; obtain ⟨x1, g2, hr⟩ := hr
  refine j_getf (C := RX10) (T := TX10) (N := 30) (ci := 9) (k := 17) rfl (by decide) inX10 tw_3_210 dX10_isPlace_3 (m_gi_spec g2) ?_
  refine j_iconst (v := 1) rfl dX10_isPlace_6 ?_
  refine j_isub dX10_isPlace_7 ?_
  replace hr := m_bind hr; obtain ⟨r4, g3, hr⟩ := hr
  refine j_callS (Y' := Y_X10_in) (as := [.int a1, .int 0, .int (x1 - 1)]) ok_X10_in [some (.int a1), some (.int 0), some (.int (x1 - 1))] rfl rfl tw_4_54 tw_4_55 nn_X10_in (Nat.le_of_ble_eq_true rfl) dX10_isPlace_8 (j_X10_in g3) ?_
  refine j_if_eq (tgt := 34) dX10_isPlace_11 rfl (fun c5 => ?_) (fun c5 => ?_)
  · rw [if_pos c5] at hr
    refine j_iconst (v := 0) rfl dX10_isPlace_34 ?_
    cases hr
    exact j_ret dX10_isPlace_35 m_rk_z0
  · rw [if_neg c5] at hr
    refine j_iload_n (i := 2) rfl rfl dX10_isPlace_14 ?_
    refine j_iconst (v := 0) rfl dX10_isPlace_15 ?_
    refine j_aload_n (i := 0) rfl rfl dX10_isPlace_16 ?_
    replace hr := m_bind hr; obtain ⟨q6, g7, hr⟩ := hr
    refine j_getf (C := RX10) (T := TX10) (N := 30) (ci := 9) (k := 19) rfl (by decide) inX10 tw_3_212 dX10_isPlace_17 (m_gr_spec g7) ?_
    refine j_iload_n (i := 1) rfl rfl dX10_isPlace_20 ?_
    replace hr := m_bind hr; obtain ⟨b8, g9, hr⟩ := hr
    subst g9
    replace hr := m_bind hr; obtain ⟨x10, g11, hr⟩ := hr
    refine j_iaload dX10_isPlace_21 g11 ?_
    refine j_iconst (v := 1) rfl dX10_isPlace_22 ?_
    refine j_isub dX10_isPlace_23 ?_
    replace hr := m_bind hr; obtain ⟨r13, g12, hr⟩ := hr
    refine j_callS (Y' := Y_X10_in) (as := [.int a2, .int 0, .int (x10 - 1)]) ok_X10_in [some (.int a2), some (.int 0), some (.int (x10 - 1))] rfl rfl tw_4_54 tw_4_55 nn_X10_in (Nat.le_of_ble_eq_true rfl) dX10_isPlace_24 (j_X10_in g12) ?_
    refine j_if_eq (tgt := 34) dX10_isPlace_27 rfl (fun c14 => ?_) (fun c14 => ?_)
    · rw [if_pos c14] at hr
      refine j_iconst (v := 0) rfl dX10_isPlace_34 ?_
      cases hr
      exact j_ret dX10_isPlace_35 m_rk_z0
    · rw [if_neg c14] at hr
      refine j_iconst (v := 1) rfl dX10_isPlace_30 ?_
      refine j_goto (tgt := 35) dX10_isPlace_31 rfl ?_
      cases hr
      exact j_ret dX10_isPlace_35 m_rk_z1
def w_X10_placed_13 (h : mH) (a0 : Nat) (a1 : Int32) (a2 : Int32) : Int32 → Option ((Int32) ⊕ ((Unit) ⊕ (Int32))) := fun s_4 =>
  (m_gi h a0 9 6).bind fun x5 =>
  if x5 ≤ s_4 then
    some (.inr (.inl ()))
  else
    (m_gr h a0 9 10).bind fun q8 =>
    (q8).bind fun b10 =>
    (m_ild h b10 s_4).bind fun x12 =>
    if x12 = a1 then
      (m_gr h a0 9 11).bind fun q15 =>
      (q15).bind fun b17 =>
      (m_ild h b17 s_4).bind fun x19 =>
      if x19 = a2 then
        some (.inr (.inr s_4))
      else
        some (.inl (s_4 + 1))
    else
      some (.inl (s_4 + 1))
def f_X10_placed (h : mH) (a0 : Nat) (a1 : Int32) (a2 : Int32) : Option (Int32) :=
  if m_ob h a0 9 = true then
    (f_X10_isPlace h a0 a1 a2).bind fun r2 =>
    if r2 = 0 then
      some ((-1))
    else
      (m_loop (w_X10_placed_13 h a0 a1 a2) 5000 0).bind fun e22 => match e22 with
      | .inl x23 =>
        some ((-1))
      | .inr v25 => some v25
  else none
def Y_X10_placed : mY := (yX10_placed, cX10_placed, 4, some (FieldType.int), .ireturn)
theorem ok_X10_placed : m_Ok Y_X10_placed := ⟨by decide +kernel, ⟨by decide +kernel, by decide +kernel⟩, tw_4_104, tw_1_7, by decide, Or.inr (Or.inl ⟨Or.inl rfl, rfl⟩)⟩
theorem nn_X10_placed : (parseMethodDescriptor Y_X10_placed.1.desc).map (fun q => q.parameters.length) = some 2 := by decide +kernel
set_option maxHeartbeats 4000000 in
set_option maxRecDepth 20000 in
theorem j_X10_placed {X : mX} {d : Nat} {h : mH} {a0 : Nat} {a1 : Int32} {a2 : Int32} {rv : Int32} (hd : 2 ≤ d) (hr : f_X10_placed h a0 a1 a2 = some rv) : m_J X Y_X10_placed d 0 [some (.ref a0), some (.int a1), some (.int a2), none] [] h (some (.int rv), h) := by
  obtain ⟨d, rfl⟩ : ∃ k, d = k + 1 := ⟨d - 1, by omega⟩
  unfold f_X10_placed at hr
  refine j_aload_n (i := 0) rfl rfl dX10_placed_0 ?_
  refine j_iload_n (i := 1) rfl rfl dX10_placed_1 ?_
  refine j_iload_n (i := 2) rfl rfl dX10_placed_2 ?_
  by_cases o27 : m_ob h a0 9 = true
  · rw [if_pos o27] at hr
    replace hr := m_bind hr; obtain ⟨r2, g1, hr⟩ := hr
    refine j_callV (Y' := Y_X10_isPlace) (a := a0) (as := [.int a1, .int a2]) (ci := 9) (T := TX10) (N := 30) ok_X10_isPlace [some (.ref a0), some (.int a1), some (.int a2)] rfl rfl rfl tw_4_105 tw_4_107 tw_p_17 nn_X10_isPlace (Nat.le_of_ble_eq_true rfl) dX10_placed_3 o27 (j_X10_isPlace (by omega) g1) ?_
    refine j_if_ne (tgt := 11) dX10_placed_6 rfl (fun c3 => ?_) (fun c3 => ?_)
    · rw [if_neg c3] at hr
      refine j_iconst (v := 0) rfl dX10_placed_11 ?_
      refine j_istore_n (i := 3) (L' := [some (.ref a0), some (.int a1), some (.int a2), some (.int 0)]) rfl (Nat.le_of_ble_eq_true rfl) rfl rfl dX10_placed_12 ?_
      replace hr := m_bind hr; obtain ⟨e22, q26, hr⟩ := hr
      refine j_weak (L' := [some (.ref a0), some (.int a1), some (.int a2), some (.int 0)]) (And.intro rfl (And.intro rfl (And.intro rfl (And.intro rfl trivial)))) ?_
      refine m_loop_sound (step := w_X10_placed_13 h a0 a1 a2) (P := fun s_4 => m_J X Y_X10_placed (d + 1) 13 [some (.ref a0), some (.int a1), some (.int a2), some (.int s_4)] [] h (some (.int rv), h)) (Qe := fun e22 => match e22 with | .inl x23 => m_J X Y_X10_placed (d + 1) 49 [none, none, none, none] [] h (some (.int rv), h) | .inr v25 => ((some (.int rv), h) : mR) = (some (.int v25), h)) ?_ _ _ _ q26 ?_
      · intro s_4 o hr hk
        unfold w_X10_placed_13 at hr
        refine j_iload_n (i := 3) rfl rfl dX10_placed_13 ?_
        refine j_aload_n (i := 0) rfl rfl dX10_placed_14 ?_
        replace hr := m_bind hr; obtain ⟨x5, g6, hr⟩ := hr
        refine j_getf (C := RX10) (T := TX10) (N := 30) (ci := 9) (k := 6) rfl (by decide) inX10 tw_3_199 dX10_placed_15 (m_gi_spec g6) ?_
        refine j_ic_ge (tgt := 49) dX10_placed_18 rfl (fun c7 => ?_) (fun c7 => ?_)
        · rw [if_pos c7] at hr
          cases hr
          exact j_weak (L' := [none, none, none, none]) trivial hk
        · rw [if_neg c7] at hr
          refine j_aload_n (i := 0) rfl rfl dX10_placed_21 ?_
          replace hr := m_bind hr; obtain ⟨q8, g9, hr⟩ := hr
          refine j_getf (C := RX10) (T := TX10) (N := 30) (ci := 9) (k := 10) rfl (by decide) inX10 tw_3_203 dX10_placed_22 (m_gr_spec g9) ?_
          refine j_iload_n (i := 3) rfl rfl dX10_placed_25 ?_
          replace hr := m_bind hr; obtain ⟨b10, g11, hr⟩ := hr
          subst g11
          replace hr := m_bind hr; obtain ⟨x12, g13, hr⟩ := hr
          refine j_iaload dX10_placed_26 g13 ?_
          refine j_iload_n (i := 1) rfl rfl dX10_placed_27 ?_
          refine j_ic_ne (tgt := 43) dX10_placed_28 rfl (fun c14 => ?_) (fun c14 => ?_)
          · rw [if_neg c14] at hr
            refine j_iinc (i := 3) (v := s_4 + 1) (L' := [some (.ref a0), some (.int a1), some (.int a2), some (.int (s_4 + 1))]) rfl (m_o1 _) (Nat.le_of_ble_eq_true rfl) rfl rfl dX10_placed_43 ?_
            refine j_goto (tgt := 13) dX10_placed_46 rfl ?_
            cases hr
            exact j_weak (L' := [some (.ref a0), some (.int a1), some (.int a2), some (.int (s_4 + 1))]) (And.intro rfl (And.intro rfl (And.intro rfl (And.intro rfl trivial)))) hk
          · rw [if_pos c14] at hr
            refine j_aload_n (i := 0) rfl rfl dX10_placed_31 ?_
            replace hr := m_bind hr; obtain ⟨q15, g16, hr⟩ := hr
            refine j_getf (C := RX10) (T := TX10) (N := 30) (ci := 9) (k := 11) rfl (by decide) inX10 tw_3_204 dX10_placed_32 (m_gr_spec g16) ?_
            refine j_iload_n (i := 3) rfl rfl dX10_placed_35 ?_
            replace hr := m_bind hr; obtain ⟨b17, g18, hr⟩ := hr
            subst g18
            replace hr := m_bind hr; obtain ⟨x19, g20, hr⟩ := hr
            refine j_iaload dX10_placed_36 g20 ?_
            refine j_iload_n (i := 2) rfl rfl dX10_placed_37 ?_
            refine j_ic_ne (tgt := 43) dX10_placed_38 rfl (fun c21 => ?_) (fun c21 => ?_)
            · rw [if_neg c21] at hr
              refine j_iinc (i := 3) (v := s_4 + 1) (L' := [some (.ref a0), some (.int a1), some (.int a2), some (.int (s_4 + 1))]) rfl (m_o1 _) (Nat.le_of_ble_eq_true rfl) rfl rfl dX10_placed_43 ?_
              refine j_goto (tgt := 13) dX10_placed_46 rfl ?_
              cases hr
              exact j_weak (L' := [some (.ref a0), some (.int a1), some (.int a2), some (.int (s_4 + 1))]) (And.intro rfl (And.intro rfl (And.intro rfl (And.intro rfl trivial)))) hk
            · rw [if_pos c21] at hr
              refine j_iload_n (i := 3) rfl rfl dX10_placed_41 ?_
              cases hr
              rw [show _ = _ from hk]
              exact j_ret dX10_placed_42 m_rk_i
      · cases e22 with
        | inl x23 =>
          dsimp only at hr
          dsimp only
          refine j_iconst (v := (-1)) rfl dX10_placed_49 ?_
          cases hr
          exact j_ret dX10_placed_50 m_rk_i
        | inr v25 =>
          dsimp only at hr
          cases hr
          rfl
    · rw [if_pos c3] at hr
      refine j_iconst (v := (-1)) rfl dX10_placed_9 ?_
      cases hr
      exact j_ret dX10_placed_10 m_rk_i
  · rw [if_neg o27] at hr
    cases hr
def f_X10_putIn (h : mH) (a0 : Nat) (a1 : Int32) (a2 : Int32) (a3 : Int32) : Option (Int32 × mH) :=
  if m_ob h a0 9 = true then
    (f_X10_isPlace h a0 a1 a2).bind fun r2 =>
    if r2 = 0 then
      some (((-1), h))
    else
      if m_ob h a0 9 = true then
        (f_X10_isSpecimen h a0 a3).bind fun r5 =>
        if r5 = 0 then
          some (((-1), h))
        else
          if m_ob h a0 9 = true then
            (f_X10_placed h a0 a1 a2).bind fun r8 =>
            if r8 = ((-1)) then
              (m_gr h a0 9 13).bind fun q10 =>
              (q10).bind fun b12 =>
              (m_ild h b12 a3).bind fun x14 =>
              if x14 = ((-1)) then
                (m_gr h a0 9 18).bind fun q17 =>
                (q17).bind fun b19 =>
                (m_ild h b19 a1).bind fun x21 =>
                (m_gr h a0 9 7).bind fun q23 =>
                (q23).bind fun b25 =>
                (m_ild h b25 a3).bind fun x27 =>
                if m_ob h a0 9 = true then
                  (f_X10_above h a0 x21 x27).bind fun r30 =>
                  if r30 = 0 then
                    some (((-2), h))
                  else
                    (m_gr h a0 9 10).bind fun q32 =>
                    (q32).bind fun b34 =>
                    (m_ist h b34 a3 a1).bind fun h36 =>
                    (m_gr h36 a0 9 11).bind fun q38 =>
                    (q38).bind fun b40 =>
                    (m_ist h36 b40 a3 a2).bind fun h42 =>
                    some ((1, h42))
                else none
              else
                some (((-1), h))
            else
              some (((-1), h))
          else none
      else none
  else none
def Y_X10_putIn : mY := (yX10_putIn, cX10_putIn, 4, some (FieldType.int), .ireturn)
theorem ok_X10_putIn : m_Ok Y_X10_putIn := ⟨by decide +kernel, ⟨by decide +kernel, by decide +kernel⟩, tw_4_112, tw_1_7, by decide, Or.inr (Or.inl ⟨Or.inl rfl, rfl⟩)⟩
theorem nn_X10_putIn : (parseMethodDescriptor Y_X10_putIn.1.desc).map (fun q => q.parameters.length) = some 3 := by decide +kernel
set_option maxHeartbeats 4000000 in
set_option maxRecDepth 20000 in
theorem j_X10_putIn {X : mX} {d : Nat} {h : mH} {a0 : Nat} {a1 : Int32} {a2 : Int32} {a3 : Int32} {rv : Int32} {h' : mH} (hd : 4 ≤ d) (hr : f_X10_putIn h a0 a1 a2 a3 = some (rv, h')) : m_J X Y_X10_putIn d 0 [some (.ref a0), some (.int a1), some (.int a2), some (.int a3)] [] h (some (.int rv), h') := by
  obtain ⟨d, rfl⟩ : ∃ k, d = k + 1 := ⟨d - 1, by omega⟩
  unfold f_X10_putIn at hr
  refine j_aload_n (i := 0) rfl rfl dX10_putIn_0 ?_
  refine j_iload_n (i := 1) rfl rfl dX10_putIn_1 ?_
  refine j_iload_n (i := 2) rfl rfl dX10_putIn_2 ?_
  by_cases o47 : m_ob h a0 9 = true
  · rw [if_pos o47] at hr
    replace hr := m_bind hr; obtain ⟨r2, g1, hr⟩ := hr
    refine j_callV (Y' := Y_X10_isPlace) (a := a0) (as := [.int a1, .int a2]) (ci := 9) (T := TX10) (N := 30) ok_X10_isPlace [some (.ref a0), some (.int a1), some (.int a2)] rfl rfl rfl tw_4_105 tw_4_107 tw_p_17 nn_X10_isPlace (Nat.le_of_ble_eq_true rfl) dX10_putIn_3 o47 (j_X10_isPlace (by omega) g1) ?_
    refine j_if_eq (tgt := 37) dX10_putIn_6 rfl (fun c3 => ?_) (fun c3 => ?_)
    · rw [if_pos c3] at hr
      refine j_iconst (v := (-1)) rfl dX10_putIn_37 ?_
      cases hr
      exact j_ret dX10_putIn_38 m_rk_i
    · rw [if_neg c3] at hr
      refine j_aload_n (i := 0) rfl rfl dX10_putIn_9 ?_
      refine j_iload_n (i := 3) rfl rfl dX10_putIn_10 ?_
      by_cases o46 : m_ob h a0 9 = true
      · rw [if_pos o46] at hr
        replace hr := m_bind hr; obtain ⟨r5, g4, hr⟩ := hr
        refine j_callV (Y' := Y_X10_isSpecimen) (a := a0) (as := [.int a3]) (ci := 9) (T := TX10) (N := 30) ok_X10_isSpecimen [some (.ref a0), some (.int a3)] rfl rfl rfl tw_4_113 tw_4_115 tw_p_18 nn_X10_isSpecimen (Nat.le_of_ble_eq_true rfl) dX10_putIn_11 o46 (j_X10_isSpecimen (by omega) g4) ?_
        refine j_if_eq (tgt := 37) dX10_putIn_14 rfl (fun c6 => ?_) (fun c6 => ?_)
        · rw [if_pos c6] at hr
          refine j_iconst (v := (-1)) rfl dX10_putIn_37 ?_
          cases hr
          exact j_ret dX10_putIn_38 m_rk_i
        · rw [if_neg c6] at hr
          refine j_aload_n (i := 0) rfl rfl dX10_putIn_17 ?_
          refine j_iload_n (i := 1) rfl rfl dX10_putIn_18 ?_
          refine j_iload_n (i := 2) rfl rfl dX10_putIn_19 ?_
          by_cases o45 : m_ob h a0 9 = true
          · rw [if_pos o45] at hr
            replace hr := m_bind hr; obtain ⟨r8, g7, hr⟩ := hr
            refine j_callV (Y' := Y_X10_placed) (a := a0) (as := [.int a1, .int a2]) (ci := 9) (T := TX10) (N := 30) ok_X10_placed [some (.ref a0), some (.int a1), some (.int a2), none] rfl rfl rfl tw_4_117 tw_4_102 tw_4_103 nn_X10_placed (Nat.le_of_ble_eq_true rfl) dX10_putIn_20 o45 (j_X10_placed (by omega) g7) ?_
            refine j_iconst (v := (-1)) rfl dX10_putIn_23 ?_
            refine j_ic_ne (tgt := 37) dX10_putIn_24 rfl (fun c9 => ?_) (fun c9 => ?_)
            · rw [if_neg c9] at hr
              refine j_iconst (v := (-1)) rfl dX10_putIn_37 ?_
              cases hr
              exact j_ret dX10_putIn_38 m_rk_i
            · rw [if_pos c9] at hr
              refine j_aload_n (i := 0) rfl rfl dX10_putIn_27 ?_
              replace hr := m_bind hr; obtain ⟨q10, g11, hr⟩ := hr
              refine j_getf (C := RX10) (T := TX10) (N := 30) (ci := 9) (k := 13) rfl (by decide) inX10 tw_3_206 dX10_putIn_28 (m_gr_spec g11) ?_
              refine j_iload_n (i := 3) rfl rfl dX10_putIn_31 ?_
              replace hr := m_bind hr; obtain ⟨b12, g13, hr⟩ := hr
              subst g13
              replace hr := m_bind hr; obtain ⟨x14, g15, hr⟩ := hr
              refine j_iaload dX10_putIn_32 g15 ?_
              refine j_iconst (v := (-1)) rfl dX10_putIn_33 ?_
              refine j_ic_eq (tgt := 39) dX10_putIn_34 rfl (fun c16 => ?_) (fun c16 => ?_)
              · rw [if_pos c16] at hr
                refine j_aload_n (i := 0) rfl rfl dX10_putIn_39 ?_
                refine j_aload_n (i := 0) rfl rfl dX10_putIn_40 ?_
                replace hr := m_bind hr; obtain ⟨q17, g18, hr⟩ := hr
                refine j_getf (C := RX10) (T := TX10) (N := 30) (ci := 9) (k := 18) rfl (by decide) inX10 tw_3_211 dX10_putIn_41 (m_gr_spec g18) ?_
                refine j_iload_n (i := 1) rfl rfl dX10_putIn_44 ?_
                replace hr := m_bind hr; obtain ⟨b19, g20, hr⟩ := hr
                subst g20
                replace hr := m_bind hr; obtain ⟨x21, g22, hr⟩ := hr
                refine j_iaload dX10_putIn_45 g22 ?_
                refine j_aload_n (i := 0) rfl rfl dX10_putIn_46 ?_
                replace hr := m_bind hr; obtain ⟨q23, g24, hr⟩ := hr
                refine j_getf (C := RX10) (T := TX10) (N := 30) (ci := 9) (k := 7) rfl (by decide) inX10 tw_3_200 dX10_putIn_47 (m_gr_spec g24) ?_
                refine j_iload_n (i := 3) rfl rfl dX10_putIn_50 ?_
                replace hr := m_bind hr; obtain ⟨b25, g26, hr⟩ := hr
                subst g26
                replace hr := m_bind hr; obtain ⟨x27, g28, hr⟩ := hr
                refine j_iaload dX10_putIn_51 g28 ?_
                by_cases o44 : m_ob h a0 9 = true
                · rw [if_pos o44] at hr
                  replace hr := m_bind hr; obtain ⟨r30, g29, hr⟩ := hr
                  refine j_callV (Y' := Y_X10_above) (a := a0) (as := [.int x21, .int x27]) (ci := 9) (T := TX10) (N := 30) ok_X10_above [some (.ref a0), some (.int x21), some (.int x27)] rfl rfl rfl tw_4_60 tw_4_62 tw_p_12 nn_X10_above (Nat.le_of_ble_eq_true rfl) dX10_putIn_52 o44 (j_X10_above (by omega) g29) ?_
                  refine j_if_ne (tgt := 61) dX10_putIn_55 rfl (fun c31 => ?_) (fun c31 => ?_)
                  · rw [if_neg c31] at hr
                    refine j_aload_n (i := 0) rfl rfl dX10_putIn_61 ?_
                    replace hr := m_bind hr; obtain ⟨q32, g33, hr⟩ := hr
                    refine j_getf (C := RX10) (T := TX10) (N := 30) (ci := 9) (k := 10) rfl (by decide) inX10 tw_3_203 dX10_putIn_62 (m_gr_spec g33) ?_
                    refine j_iload_n (i := 3) rfl rfl dX10_putIn_65 ?_
                    refine j_iload_n (i := 1) rfl rfl dX10_putIn_66 ?_
                    replace hr := m_bind hr; obtain ⟨b34, g35, hr⟩ := hr
                    subst g35
                    replace hr := m_bind hr; obtain ⟨h36, g37, hr⟩ := hr
                    refine j_iastore dX10_putIn_67 g37 ?_
                    refine j_aload_n (i := 0) rfl rfl dX10_putIn_68 ?_
                    replace hr := m_bind hr; obtain ⟨q38, g39, hr⟩ := hr
                    refine j_getf (C := RX10) (T := TX10) (N := 30) (ci := 9) (k := 11) rfl (by decide) inX10 tw_3_204 dX10_putIn_69 (m_gr_spec g39) ?_
                    refine j_iload_n (i := 3) rfl rfl dX10_putIn_72 ?_
                    refine j_iload_n (i := 2) rfl rfl dX10_putIn_73 ?_
                    replace hr := m_bind hr; obtain ⟨b40, g41, hr⟩ := hr
                    subst g41
                    replace hr := m_bind hr; obtain ⟨h42, g43, hr⟩ := hr
                    refine j_iastore dX10_putIn_74 g43 ?_
                    refine j_iconst (v := 1) rfl dX10_putIn_75 ?_
                    cases hr
                    exact j_ret dX10_putIn_76 m_rk_i
                  · rw [if_pos c31] at hr
                    refine j_bipush (v := (-2)) rfl dX10_putIn_58 ?_
                    cases hr
                    exact j_ret dX10_putIn_60 m_rk_i
                · rw [if_neg o44] at hr
                  cases hr
              · rw [if_neg c16] at hr
                refine j_iconst (v := (-1)) rfl dX10_putIn_37 ?_
                cases hr
                exact j_ret dX10_putIn_38 m_rk_i
          · rw [if_neg o45] at hr
            cases hr
      · rw [if_neg o46] at hr
        cases hr
  · rw [if_neg o47] at hr
    cases hr
def f_X10_takeOut (h : mH) (a0 : Nat) (a1 : Int32) (a2 : Int32) : Option (Int32 × mH) :=
  if m_ob h a0 9 = true then
    (f_X10_placed h a0 a1 a2).bind fun r2 =>
    if r2 = ((-1)) then
      some (((-1), h))
    else
      (m_gr h a0 9 13).bind fun q4 =>
      (q4).bind fun b6 =>
      (m_ild h b6 r2).bind fun x8 =>
      if x8 = ((-1)) then
        (m_gr h a0 9 10).bind fun q11 =>
        (q11).bind fun b13 =>
        (m_ist h b13 r2 ((-1))).bind fun h15 =>
        (m_gr h15 a0 9 11).bind fun q17 =>
        (q17).bind fun b19 =>
        (m_ist h15 b19 r2 ((-1))).bind fun h21 =>
        some ((r2, h21))
      else
        some (((-1), h))
  else none
def Y_X10_takeOut : mY := (yX10_takeOut, cX10_takeOut, 4, some (FieldType.int), .ireturn)
theorem ok_X10_takeOut : m_Ok Y_X10_takeOut := ⟨by decide +kernel, ⟨by decide +kernel, by decide +kernel⟩, tw_4_121, tw_1_7, by decide, Or.inr (Or.inl ⟨Or.inl rfl, rfl⟩)⟩
theorem nn_X10_takeOut : (parseMethodDescriptor Y_X10_takeOut.1.desc).map (fun q => q.parameters.length) = some 2 := by decide +kernel
set_option maxHeartbeats 4000000 in
set_option maxRecDepth 20000 in
theorem j_X10_takeOut {X : mX} {d : Nat} {h : mH} {a0 : Nat} {a1 : Int32} {a2 : Int32} {rv : Int32} {h' : mH} (hd : 3 ≤ d) (hr : f_X10_takeOut h a0 a1 a2 = some (rv, h')) : m_J X Y_X10_takeOut d 0 [some (.ref a0), some (.int a1), some (.int a2), none] [] h (some (.int rv), h') := by
  obtain ⟨d, rfl⟩ : ∃ k, d = k + 1 := ⟨d - 1, by omega⟩
  unfold f_X10_takeOut at hr
  refine j_aload_n (i := 0) rfl rfl dX10_takeOut_0 ?_
  refine j_iload_n (i := 1) rfl rfl dX10_takeOut_1 ?_
  refine j_iload_n (i := 2) rfl rfl dX10_takeOut_2 ?_
  by_cases o23 : m_ob h a0 9 = true
  · rw [if_pos o23] at hr
    replace hr := m_bind hr; obtain ⟨r2, g1, hr⟩ := hr
    refine j_callV (Y' := Y_X10_placed) (a := a0) (as := [.int a1, .int a2]) (ci := 9) (T := TX10) (N := 30) ok_X10_placed [some (.ref a0), some (.int a1), some (.int a2), none] rfl rfl rfl tw_4_117 tw_4_102 tw_4_103 nn_X10_placed (Nat.le_of_ble_eq_true rfl) dX10_takeOut_3 o23 (j_X10_placed (by omega) g1) ?_
    refine j_istore_n (i := 3) (L' := [some (.ref a0), some (.int a1), some (.int a2), some (.int r2)]) rfl (Nat.le_of_ble_eq_true rfl) rfl rfl dX10_takeOut_6 ?_
    refine j_iload_n (i := 3) rfl rfl dX10_takeOut_7 ?_
    refine j_iconst (v := (-1)) rfl dX10_takeOut_8 ?_
    refine j_ic_eq (tgt := 22) dX10_takeOut_9 rfl (fun c3 => ?_) (fun c3 => ?_)
    · rw [if_pos c3] at hr
      refine j_iconst (v := (-1)) rfl dX10_takeOut_22 ?_
      cases hr
      exact j_ret dX10_takeOut_23 m_rk_i
    · rw [if_neg c3] at hr
      refine j_aload_n (i := 0) rfl rfl dX10_takeOut_12 ?_
      replace hr := m_bind hr; obtain ⟨q4, g5, hr⟩ := hr
      refine j_getf (C := RX10) (T := TX10) (N := 30) (ci := 9) (k := 13) rfl (by decide) inX10 tw_3_206 dX10_takeOut_13 (m_gr_spec g5) ?_
      refine j_iload_n (i := 3) rfl rfl dX10_takeOut_16 ?_
      replace hr := m_bind hr; obtain ⟨b6, g7, hr⟩ := hr
      subst g7
      replace hr := m_bind hr; obtain ⟨x8, g9, hr⟩ := hr
      refine j_iaload dX10_takeOut_17 g9 ?_
      refine j_iconst (v := (-1)) rfl dX10_takeOut_18 ?_
      refine j_ic_eq (tgt := 24) dX10_takeOut_19 rfl (fun c10 => ?_) (fun c10 => ?_)
      · rw [if_pos c10] at hr
        refine j_aload_n (i := 0) rfl rfl dX10_takeOut_24 ?_
        replace hr := m_bind hr; obtain ⟨q11, g12, hr⟩ := hr
        refine j_getf (C := RX10) (T := TX10) (N := 30) (ci := 9) (k := 10) rfl (by decide) inX10 tw_3_203 dX10_takeOut_25 (m_gr_spec g12) ?_
        refine j_iload_n (i := 3) rfl rfl dX10_takeOut_28 ?_
        refine j_iconst (v := (-1)) rfl dX10_takeOut_29 ?_
        replace hr := m_bind hr; obtain ⟨b13, g14, hr⟩ := hr
        subst g14
        replace hr := m_bind hr; obtain ⟨h15, g16, hr⟩ := hr
        refine j_iastore dX10_takeOut_30 g16 ?_
        refine j_aload_n (i := 0) rfl rfl dX10_takeOut_31 ?_
        replace hr := m_bind hr; obtain ⟨q17, g18, hr⟩ := hr
        refine j_getf (C := RX10) (T := TX10) (N := 30) (ci := 9) (k := 11) rfl (by decide) inX10 tw_3_204 dX10_takeOut_32 (m_gr_spec g18) ?_
        refine j_iload_n (i := 3) rfl rfl dX10_takeOut_35 ?_
        refine j_iconst (v := (-1)) rfl dX10_takeOut_36 ?_
        replace hr := m_bind hr; obtain ⟨b19, g20, hr⟩ := hr
        subst g20
        replace hr := m_bind hr; obtain ⟨h21, g22, hr⟩ := hr
        refine j_iastore dX10_takeOut_37 g22 ?_
        refine j_iload_n (i := 3) rfl rfl dX10_takeOut_38 ?_
        cases hr
        exact j_ret dX10_takeOut_39 m_rk_i
      · rw [if_neg c10] at hr
        refine j_iconst (v := (-1)) rfl dX10_takeOut_22 ?_
        cases hr
        exact j_ret dX10_takeOut_23 m_rk_i
  · rw [if_neg o23] at hr
    cases hr
def f_X10_told (h : mH) (a0 : Nat) (a1 : Int32) (a2 : Int32) : Option (Int32) :=
  if m_ob h a0 9 = true then
    (f_X10_isSpecimen h a0 a1).bind fun r2 =>
    if r2 = 0 then
      some ((-1))
    else
      if a2 = 0 then
        (m_gr h a0 9 7).bind fun q5 =>
        (q5).bind fun b7 =>
        (m_ild h b7 a1).bind fun x9 =>
        some x9
      else
        if a2 = 1 then
          (m_gr h a0 9 8).bind fun q12 =>
          (q12).bind fun b14 =>
          (m_ild h b14 a1).bind fun x16 =>
          some x16
        else
          if a2 = 2 then
            (m_gr h a0 9 9).bind fun q19 =>
            (q19).bind fun b21 =>
            (m_ild h b21 a1).bind fun x23 =>
            some x23
          else
            if a2 = 3 then
              (m_gr h a0 9 10).bind fun q26 =>
              (q26).bind fun b28 =>
              (m_ild h b28 a1).bind fun x30 =>
              some x30
            else
              if a2 = 4 then
                (m_gr h a0 9 11).bind fun q33 =>
                (q33).bind fun b35 =>
                (m_ild h b35 a1).bind fun x37 =>
                some x37
              else
                if a2 = 5 then
                  (m_gr h a0 9 12).bind fun q40 =>
                  (q40).bind fun b42 =>
                  (m_ild h b42 a1).bind fun x44 =>
                  some x44
                else
                  if a2 = 6 then
                    (m_gr h a0 9 13).bind fun q47 =>
                    (q47).bind fun b49 =>
                    (m_ild h b49 a1).bind fun x51 =>
                    some x51
                  else
                    if a2 = 7 then
                      (m_gr h a0 9 14).bind fun q54 =>
                      (q54).bind fun b56 =>
                      (m_ild h b56 a1).bind fun x58 =>
                      some x58
                    else
                      if a2 = 8 then
                        (m_gr h a0 9 15).bind fun q61 =>
                        (q61).bind fun b63 =>
                        (m_ild h b63 a1).bind fun x65 =>
                        some x65
                      else
                        if a2 = 9 then
                          (m_gr h a0 9 16).bind fun q68 =>
                          (q68).bind fun b70 =>
                          (m_ild h b70 a1).bind fun x72 =>
                          some x72
                        else
                          some ((-1))
  else none
def Y_X10_told : mY := (yX10_told, cX10_told, 3, some (FieldType.int), .ireturn)
theorem ok_X10_told : m_Ok Y_X10_told := ⟨by decide +kernel, ⟨by decide +kernel, by decide +kernel⟩, tw_4_125, tw_1_7, by decide, Or.inr (Or.inl ⟨Or.inl rfl, rfl⟩)⟩
theorem nn_X10_told : (parseMethodDescriptor Y_X10_told.1.desc).map (fun q => q.parameters.length) = some 2 := by decide +kernel
set_option maxHeartbeats 4000000 in
set_option maxRecDepth 20000 in
theorem j_X10_told {X : mX} {d : Nat} {h : mH} {a0 : Nat} {a1 : Int32} {a2 : Int32} {rv : Int32} (hd : 2 ≤ d) (hr : f_X10_told h a0 a1 a2 = some rv) : m_J X Y_X10_told d 0 [some (.ref a0), some (.int a1), some (.int a2)] [] h (some (.int rv), h) := by
  obtain ⟨d, rfl⟩ : ∃ k, d = k + 1 := ⟨d - 1, by omega⟩
  unfold f_X10_told at hr
  refine j_aload_n (i := 0) rfl rfl dX10_told_0 ?_
  refine j_iload_n (i := 1) rfl rfl dX10_told_1 ?_
  by_cases o74 : m_ob h a0 9 = true
  · rw [if_pos o74] at hr
    replace hr := m_bind hr; obtain ⟨r2, g1, hr⟩ := hr
    refine j_callV (Y' := Y_X10_isSpecimen) (a := a0) (as := [.int a1]) (ci := 9) (T := TX10) (N := 30) ok_X10_isSpecimen [some (.ref a0), some (.int a1)] rfl rfl rfl tw_4_113 tw_4_115 tw_p_18 nn_X10_isSpecimen (Nat.le_of_ble_eq_true rfl) dX10_told_2 o74 (j_X10_isSpecimen (by omega) g1) ?_
    refine j_if_ne (tgt := 10) dX10_told_5 rfl (fun c3 => ?_) (fun c3 => ?_)
    · rw [if_neg c3] at hr
      refine j_iload_n (i := 2) rfl rfl dX10_told_10 ?_
      by_cases c4 : a2 = 0
      · rw [if_pos c4] at hr
        refine j_tswIn (off := 53) (tgt := 64) dX10_told_11 (by rw [c4]; decide) (by rw [c4]; decide) (by rw [c4]; rfl) rfl ?_
        refine j_aload_n (i := 0) rfl rfl dX10_told_64 ?_
        replace hr := m_bind hr; obtain ⟨q5, g6, hr⟩ := hr
        refine j_getf (C := RX10) (T := TX10) (N := 30) (ci := 9) (k := 7) rfl (by decide) inX10 tw_3_200 dX10_told_65 (m_gr_spec g6) ?_
        refine j_iload_n (i := 1) rfl rfl dX10_told_68 ?_
        replace hr := m_bind hr; obtain ⟨b7, g8, hr⟩ := hr
        subst g8
        replace hr := m_bind hr; obtain ⟨x9, g10, hr⟩ := hr
        refine j_iaload dX10_told_69 g10 ?_
        cases hr
        exact j_ret dX10_told_70 m_rk_i
      · rw [if_neg c4] at hr
        by_cases c11 : a2 = 1
        · rw [if_pos c11] at hr
          refine j_tswIn (off := 60) (tgt := 71) dX10_told_11 (by rw [c11]; decide) (by rw [c11]; decide) (by rw [c11]; rfl) rfl ?_
          refine j_aload_n (i := 0) rfl rfl dX10_told_71 ?_
          replace hr := m_bind hr; obtain ⟨q12, g13, hr⟩ := hr
          refine j_getf (C := RX10) (T := TX10) (N := 30) (ci := 9) (k := 8) rfl (by decide) inX10 tw_3_201 dX10_told_72 (m_gr_spec g13) ?_
          refine j_iload_n (i := 1) rfl rfl dX10_told_75 ?_
          replace hr := m_bind hr; obtain ⟨b14, g15, hr⟩ := hr
          subst g15
          replace hr := m_bind hr; obtain ⟨x16, g17, hr⟩ := hr
          refine j_iaload dX10_told_76 g17 ?_
          cases hr
          exact j_ret dX10_told_77 m_rk_i
        · rw [if_neg c11] at hr
          by_cases c18 : a2 = 2
          · rw [if_pos c18] at hr
            refine j_tswIn (off := 67) (tgt := 78) dX10_told_11 (by rw [c18]; decide) (by rw [c18]; decide) (by rw [c18]; rfl) rfl ?_
            refine j_aload_n (i := 0) rfl rfl dX10_told_78 ?_
            replace hr := m_bind hr; obtain ⟨q19, g20, hr⟩ := hr
            refine j_getf (C := RX10) (T := TX10) (N := 30) (ci := 9) (k := 9) rfl (by decide) inX10 tw_3_202 dX10_told_79 (m_gr_spec g20) ?_
            refine j_iload_n (i := 1) rfl rfl dX10_told_82 ?_
            replace hr := m_bind hr; obtain ⟨b21, g22, hr⟩ := hr
            subst g22
            replace hr := m_bind hr; obtain ⟨x23, g24, hr⟩ := hr
            refine j_iaload dX10_told_83 g24 ?_
            cases hr
            exact j_ret dX10_told_84 m_rk_i
          · rw [if_neg c18] at hr
            by_cases c25 : a2 = 3
            · rw [if_pos c25] at hr
              refine j_tswIn (off := 74) (tgt := 85) dX10_told_11 (by rw [c25]; decide) (by rw [c25]; decide) (by rw [c25]; rfl) rfl ?_
              refine j_aload_n (i := 0) rfl rfl dX10_told_85 ?_
              replace hr := m_bind hr; obtain ⟨q26, g27, hr⟩ := hr
              refine j_getf (C := RX10) (T := TX10) (N := 30) (ci := 9) (k := 10) rfl (by decide) inX10 tw_3_203 dX10_told_86 (m_gr_spec g27) ?_
              refine j_iload_n (i := 1) rfl rfl dX10_told_89 ?_
              replace hr := m_bind hr; obtain ⟨b28, g29, hr⟩ := hr
              subst g29
              replace hr := m_bind hr; obtain ⟨x30, g31, hr⟩ := hr
              refine j_iaload dX10_told_90 g31 ?_
              cases hr
              exact j_ret dX10_told_91 m_rk_i
            · rw [if_neg c25] at hr
              by_cases c32 : a2 = 4
              · rw [if_pos c32] at hr
                refine j_tswIn (off := 81) (tgt := 92) dX10_told_11 (by rw [c32]; decide) (by rw [c32]; decide) (by rw [c32]; rfl) rfl ?_
                refine j_aload_n (i := 0) rfl rfl dX10_told_92 ?_
                replace hr := m_bind hr; obtain ⟨q33, g34, hr⟩ := hr
                refine j_getf (C := RX10) (T := TX10) (N := 30) (ci := 9) (k := 11) rfl (by decide) inX10 tw_3_204 dX10_told_93 (m_gr_spec g34) ?_
                refine j_iload_n (i := 1) rfl rfl dX10_told_96 ?_
                replace hr := m_bind hr; obtain ⟨b35, g36, hr⟩ := hr
                subst g36
                replace hr := m_bind hr; obtain ⟨x37, g38, hr⟩ := hr
                refine j_iaload dX10_told_97 g38 ?_
                cases hr
                exact j_ret dX10_told_98 m_rk_i
              · rw [if_neg c32] at hr
                by_cases c39 : a2 = 5
                · rw [if_pos c39] at hr
                  refine j_tswIn (off := 88) (tgt := 99) dX10_told_11 (by rw [c39]; decide) (by rw [c39]; decide) (by rw [c39]; rfl) rfl ?_
                  refine j_aload_n (i := 0) rfl rfl dX10_told_99 ?_
                  replace hr := m_bind hr; obtain ⟨q40, g41, hr⟩ := hr
                  refine j_getf (C := RX10) (T := TX10) (N := 30) (ci := 9) (k := 12) rfl (by decide) inX10 tw_3_205 dX10_told_100 (m_gr_spec g41) ?_
                  refine j_iload_n (i := 1) rfl rfl dX10_told_103 ?_
                  replace hr := m_bind hr; obtain ⟨b42, g43, hr⟩ := hr
                  subst g43
                  replace hr := m_bind hr; obtain ⟨x44, g45, hr⟩ := hr
                  refine j_iaload dX10_told_104 g45 ?_
                  cases hr
                  exact j_ret dX10_told_105 m_rk_i
                · rw [if_neg c39] at hr
                  by_cases c46 : a2 = 6
                  · rw [if_pos c46] at hr
                    refine j_tswIn (off := 95) (tgt := 106) dX10_told_11 (by rw [c46]; decide) (by rw [c46]; decide) (by rw [c46]; rfl) rfl ?_
                    refine j_aload_n (i := 0) rfl rfl dX10_told_106 ?_
                    replace hr := m_bind hr; obtain ⟨q47, g48, hr⟩ := hr
                    refine j_getf (C := RX10) (T := TX10) (N := 30) (ci := 9) (k := 13) rfl (by decide) inX10 tw_3_206 dX10_told_107 (m_gr_spec g48) ?_
                    refine j_iload_n (i := 1) rfl rfl dX10_told_110 ?_
                    replace hr := m_bind hr; obtain ⟨b49, g50, hr⟩ := hr
                    subst g50
                    replace hr := m_bind hr; obtain ⟨x51, g52, hr⟩ := hr
                    refine j_iaload dX10_told_111 g52 ?_
                    cases hr
                    exact j_ret dX10_told_112 m_rk_i
                  · rw [if_neg c46] at hr
                    by_cases c53 : a2 = 7
                    · rw [if_pos c53] at hr
                      refine j_tswIn (off := 102) (tgt := 113) dX10_told_11 (by rw [c53]; decide) (by rw [c53]; decide) (by rw [c53]; rfl) rfl ?_
                      refine j_aload_n (i := 0) rfl rfl dX10_told_113 ?_
                      replace hr := m_bind hr; obtain ⟨q54, g55, hr⟩ := hr
                      refine j_getf (C := RX10) (T := TX10) (N := 30) (ci := 9) (k := 14) rfl (by decide) inX10 tw_3_207 dX10_told_114 (m_gr_spec g55) ?_
                      refine j_iload_n (i := 1) rfl rfl dX10_told_117 ?_
                      replace hr := m_bind hr; obtain ⟨b56, g57, hr⟩ := hr
                      subst g57
                      replace hr := m_bind hr; obtain ⟨x58, g59, hr⟩ := hr
                      refine j_iaload dX10_told_118 g59 ?_
                      cases hr
                      exact j_ret dX10_told_119 m_rk_i
                    · rw [if_neg c53] at hr
                      by_cases c60 : a2 = 8
                      · rw [if_pos c60] at hr
                        refine j_tswIn (off := 109) (tgt := 120) dX10_told_11 (by rw [c60]; decide) (by rw [c60]; decide) (by rw [c60]; rfl) rfl ?_
                        refine j_aload_n (i := 0) rfl rfl dX10_told_120 ?_
                        replace hr := m_bind hr; obtain ⟨q61, g62, hr⟩ := hr
                        refine j_getf (C := RX10) (T := TX10) (N := 30) (ci := 9) (k := 15) rfl (by decide) inX10 tw_3_208 dX10_told_121 (m_gr_spec g62) ?_
                        refine j_iload_n (i := 1) rfl rfl dX10_told_124 ?_
                        replace hr := m_bind hr; obtain ⟨b63, g64, hr⟩ := hr
                        subst g64
                        replace hr := m_bind hr; obtain ⟨x65, g66, hr⟩ := hr
                        refine j_iaload dX10_told_125 g66 ?_
                        cases hr
                        exact j_ret dX10_told_126 m_rk_i
                      · rw [if_neg c60] at hr
                        by_cases c67 : a2 = 9
                        · rw [if_pos c67] at hr
                          refine j_tswIn (off := 116) (tgt := 127) dX10_told_11 (by rw [c67]; decide) (by rw [c67]; decide) (by rw [c67]; rfl) rfl ?_
                          refine j_aload_n (i := 0) rfl rfl dX10_told_127 ?_
                          replace hr := m_bind hr; obtain ⟨q68, g69, hr⟩ := hr
                          refine j_getf (C := RX10) (T := TX10) (N := 30) (ci := 9) (k := 16) rfl (by decide) inX10 tw_3_209 dX10_told_128 (m_gr_spec g69) ?_
                          refine j_iload_n (i := 1) rfl rfl dX10_told_131 ?_
                          replace hr := m_bind hr; obtain ⟨b70, g71, hr⟩ := hr
                          subst g71
                          replace hr := m_bind hr; obtain ⟨x72, g73, hr⟩ := hr
                          refine j_iaload dX10_told_132 g73 ?_
                          cases hr
                          exact j_ret dX10_told_133 m_rk_i
                        · rw [if_neg c67] at hr
                          refine j_tswOut (tgt := 134) dX10_told_11 (by have := m_sw (k := 0) (by decide) c4; have := m_sw (k := 1) (by decide) c11; have := m_sw (k := 2) (by decide) c18; have := m_sw (k := 3) (by decide) c25; have := m_sw (k := 4) (by decide) c32; have := m_sw (k := 5) (by decide) c39; have := m_sw (k := 6) (by decide) c46; have := m_sw (k := 7) (by decide) c53; have := m_sw (k := 8) (by decide) c60; have := m_sw (k := 9) (by decide) c67; omega) rfl ?_
                          refine j_iconst (v := (-1)) rfl dX10_told_134 ?_
                          cases hr
                          exact j_ret dX10_told_135 m_rk_i
    · rw [if_pos c3] at hr
      refine j_iconst (v := (-1)) rfl dX10_told_8 ?_
      cases hr
      exact j_ret dX10_told_9 m_rk_i
  · rw [if_neg o74] at hr
    cases hr
def f_X10_ruleAt (h : mH) (a0 : Nat) (a1 : Int32) (a2 : Int32) : Option (Int32) :=
  (m_gr h a0 9 5).bind fun q1 =>
  (q1).bind fun b3 =>
  (m_ild h b3 ((5 * a1) + a2)).bind fun x5 =>
  some x5
def Y_X10_ruleAt : mY := (yX10_ruleAt, cX10_ruleAt, 3, some (FieldType.int), .ireturn)
theorem ok_X10_ruleAt : m_Ok Y_X10_ruleAt := ⟨by decide +kernel, ⟨by decide +kernel, by decide +kernel⟩, tw_4_137, tw_1_7, by decide, Or.inr (Or.inl ⟨Or.inl rfl, rfl⟩)⟩
theorem nn_X10_ruleAt : (parseMethodDescriptor Y_X10_ruleAt.1.desc).map (fun q => q.parameters.length) = some 2 := by decide +kernel
set_option maxHeartbeats 4000000 in
set_option maxRecDepth 20000 in
theorem j_X10_ruleAt {X : mX} {d : Nat} {h : mH} {a0 : Nat} {a1 : Int32} {a2 : Int32} {rv : Int32} (hr : f_X10_ruleAt h a0 a1 a2 = some rv) : m_J X Y_X10_ruleAt d 0 [some (.ref a0), some (.int a1), some (.int a2)] [] h (some (.int rv), h) := by
  unfold f_X10_ruleAt at hr
  refine j_aload_n (i := 0) rfl rfl dX10_ruleAt_0 ?_
  replace hr := m_bind hr; obtain ⟨q1, g2, hr⟩ := hr
  refine j_getf (C := RX10) (T := TX10) (N := 30) (ci := 9) (k := 5) rfl (by decide) inX10 tw_3_198 dX10_ruleAt_1 (m_gr_spec g2) ?_
  refine j_iconst (v := 5) rfl dX10_ruleAt_4 ?_
  refine j_iload_n (i := 1) rfl rfl dX10_ruleAt_5 ?_
  refine j_imul dX10_ruleAt_6 ?_
  refine j_iload_n (i := 2) rfl rfl dX10_ruleAt_7 ?_
  refine j_iadd dX10_ruleAt_8 ?_
  replace hr := m_bind hr; obtain ⟨b3, g4, hr⟩ := hr
  subst g4
  replace hr := m_bind hr; obtain ⟨x5, g6, hr⟩ := hr
  refine j_iaload dX10_ruleAt_9 g6 ?_
  cases hr
  exact j_ret dX10_ruleAt_10 m_rk_i
def f_X10_rule (h : mH) (a0 : Nat) (a1 : Int32) (a2 : Int32) (a3 : Int32) : Option (Int32 × mH) :=
  (f_X10_isCode a1).bind fun r2 =>
  if r2 = 0 then
    some ((0, h))
  else
    (f_X10_in a2 0 4).bind fun r5 =>
    if r5 = 0 then
      some ((0, h))
    else
      (m_gr h a0 9 4).bind fun q7 =>
      (q7).bind fun b9 =>
      (m_ild h b9 a2).bind fun x11 =>
      (f_X10_in a3 0 x11).bind fun r14 =>
      if r14 = 0 then
        some ((0, h))
      else
        (m_gr h a0 9 5).bind fun q16 =>
        (q16).bind fun b18 =>
        (m_ist h b18 ((5 * a1) + a2) a3).bind fun h20 =>
        some ((1, h20))
def Y_X10_rule : mY := (yX10_rule, cX10_rule, 4, some (FieldType.boolean), .ireturn)
theorem ok_X10_rule : m_Ok Y_X10_rule := ⟨by decide +kernel, ⟨by decide +kernel, by decide +kernel⟩, tw_4_129, tw_1_7, by decide, Or.inr (Or.inl ⟨Or.inr rfl, rfl⟩)⟩
theorem nn_X10_rule : (parseMethodDescriptor Y_X10_rule.1.desc).map (fun q => q.parameters.length) = some 3 := by decide +kernel
set_option maxHeartbeats 4000000 in
set_option maxRecDepth 20000 in
theorem j_X10_rule {X : mX} {d : Nat} {h : mH} {a0 : Nat} {a1 : Int32} {a2 : Int32} {a3 : Int32} {rv : Int32} {h' : mH} (hd : 3 ≤ d) (hr : f_X10_rule h a0 a1 a2 a3 = some (rv, h')) : m_J X Y_X10_rule d 0 [some (.ref a0), some (.int a1), some (.int a2), some (.int a3)] [] h (some (.int rv), h') := by
  obtain ⟨d, rfl⟩ : ∃ k, d = k + 1 := ⟨d - 1, by omega⟩
  unfold f_X10_rule at hr
  refine j_iload_n (i := 1) rfl rfl dX10_rule_0 ?_
  replace hr := m_bind hr; obtain ⟨r2, g1, hr⟩ := hr
  refine j_callS (Y' := Y_X10_isCode) (as := [.int a1]) ok_X10_isCode [some (.int a1)] rfl rfl tw_4_48 tw_4_49 nn_X10_isCode (Nat.le_of_ble_eq_true rfl) dX10_rule_1 (j_X10_isCode (by omega) g1) ?_
  refine j_if_eq (tgt := 30) dX10_rule_4 rfl (fun c3 => ?_) (fun c3 => ?_)
  · rw [if_pos c3] at hr
    refine j_iconst (v := 0) rfl dX10_rule_30 ?_
    cases hr
    exact j_ret dX10_rule_31 m_rk_z0
  · rw [if_neg c3] at hr
    refine j_iload_n (i := 2) rfl rfl dX10_rule_7 ?_
    refine j_iconst (v := 0) rfl dX10_rule_8 ?_
    refine j_iconst (v := 4) rfl dX10_rule_9 ?_
    replace hr := m_bind hr; obtain ⟨r5, g4, hr⟩ := hr
    refine j_callS (Y' := Y_X10_in) (as := [.int a2, .int 0, .int 4]) ok_X10_in [some (.int a2), some (.int 0), some (.int 4)] rfl rfl tw_4_54 tw_4_55 nn_X10_in (Nat.le_of_ble_eq_true rfl) dX10_rule_10 (j_X10_in g4) ?_
    refine j_if_eq (tgt := 30) dX10_rule_13 rfl (fun c6 => ?_) (fun c6 => ?_)
    · rw [if_pos c6] at hr
      refine j_iconst (v := 0) rfl dX10_rule_30 ?_
      cases hr
      exact j_ret dX10_rule_31 m_rk_z0
    · rw [if_neg c6] at hr
      refine j_iload_n (i := 3) rfl rfl dX10_rule_16 ?_
      refine j_iconst (v := 0) rfl dX10_rule_17 ?_
      refine j_aload_n (i := 0) rfl rfl dX10_rule_18 ?_
      replace hr := m_bind hr; obtain ⟨q7, g8, hr⟩ := hr
      refine j_getf (C := RX10) (T := TX10) (N := 30) (ci := 9) (k := 4) rfl (by decide) inX10 tw_3_197 dX10_rule_19 (m_gr_spec g8) ?_
      refine j_iload_n (i := 2) rfl rfl dX10_rule_22 ?_
      replace hr := m_bind hr; obtain ⟨b9, g10, hr⟩ := hr
      subst g10
      replace hr := m_bind hr; obtain ⟨x11, g12, hr⟩ := hr
      refine j_iaload dX10_rule_23 g12 ?_
      replace hr := m_bind hr; obtain ⟨r14, g13, hr⟩ := hr
      refine j_callS (Y' := Y_X10_in) (as := [.int a3, .int 0, .int x11]) ok_X10_in [some (.int a3), some (.int 0), some (.int x11)] rfl rfl tw_4_54 tw_4_55 nn_X10_in (Nat.le_of_ble_eq_true rfl) dX10_rule_24 (j_X10_in g13) ?_
      refine j_if_ne (tgt := 32) dX10_rule_27 rfl (fun c15 => ?_) (fun c15 => ?_)
      · rw [if_neg c15] at hr
        refine j_aload_n (i := 0) rfl rfl dX10_rule_32 ?_
        replace hr := m_bind hr; obtain ⟨q16, g17, hr⟩ := hr
        refine j_getf (C := RX10) (T := TX10) (N := 30) (ci := 9) (k := 5) rfl (by decide) inX10 tw_3_198 dX10_rule_33 (m_gr_spec g17) ?_
        refine j_iconst (v := 5) rfl dX10_rule_36 ?_
        refine j_iload_n (i := 1) rfl rfl dX10_rule_37 ?_
        refine j_imul dX10_rule_38 ?_
        refine j_iload_n (i := 2) rfl rfl dX10_rule_39 ?_
        refine j_iadd dX10_rule_40 ?_
        refine j_iload_n (i := 3) rfl rfl dX10_rule_41 ?_
        replace hr := m_bind hr; obtain ⟨b18, g19, hr⟩ := hr
        subst g19
        replace hr := m_bind hr; obtain ⟨h20, g21, hr⟩ := hr
        refine j_iastore dX10_rule_42 g21 ?_
        refine j_iconst (v := 1) rfl dX10_rule_43 ?_
        cases hr
        exact j_ret dX10_rule_44 m_rk_z1
      · rw [if_pos c15] at hr
        refine j_iconst (v := 0) rfl dX10_rule_30 ?_
        cases hr
        exact j_ret dX10_rule_31 m_rk_z0
def f_X10_unrule (h : mH) (a0 : Nat) (a1 : Int32) (a2 : Int32) : Option (Int32 × mH) :=
  (f_X10_isCode a1).bind fun r2 =>
  if r2 = 0 then
    some ((0, h))
  else
    (f_X10_in a2 0 4).bind fun r5 =>
    if r5 = 0 then
      some ((0, h))
    else
      if m_ob h a0 9 = true then
        (f_X10_ruleAt h a0 a1 a2).bind fun r8 =>
        if r8 = ((-1)) then
          some ((0, h))
        else
          (m_gr h a0 9 5).bind fun q10 =>
          (q10).bind fun b12 =>
          (m_ist h b12 ((5 * a1) + a2) ((-1))).bind fun h14 =>
          some ((1, h14))
      else none
def Y_X10_unrule : mY := (yX10_unrule, cX10_unrule, 3, some (FieldType.boolean), .ireturn)
theorem ok_X10_unrule : m_Ok Y_X10_unrule := ⟨by decide +kernel, ⟨by decide +kernel, by decide +kernel⟩, tw_4_133, tw_1_7, by decide, Or.inr (Or.inl ⟨Or.inr rfl, rfl⟩)⟩
theorem nn_X10_unrule : (parseMethodDescriptor Y_X10_unrule.1.desc).map (fun q => q.parameters.length) = some 2 := by decide +kernel
set_option maxHeartbeats 4000000 in
set_option maxRecDepth 20000 in
theorem j_X10_unrule {X : mX} {d : Nat} {h : mH} {a0 : Nat} {a1 : Int32} {a2 : Int32} {rv : Int32} {h' : mH} (hd : 3 ≤ d) (hr : f_X10_unrule h a0 a1 a2 = some (rv, h')) : m_J X Y_X10_unrule d 0 [some (.ref a0), some (.int a1), some (.int a2)] [] h (some (.int rv), h') := by
  obtain ⟨d, rfl⟩ : ∃ k, d = k + 1 := ⟨d - 1, by omega⟩
  unfold f_X10_unrule at hr
  refine j_iload_n (i := 1) rfl rfl dX10_unrule_0 ?_
  replace hr := m_bind hr; obtain ⟨r2, g1, hr⟩ := hr
  refine j_callS (Y' := Y_X10_isCode) (as := [.int a1]) ok_X10_isCode [some (.int a1)] rfl rfl tw_4_48 tw_4_49 nn_X10_isCode (Nat.le_of_ble_eq_true rfl) dX10_unrule_1 (j_X10_isCode (by omega) g1) ?_
  refine j_if_eq (tgt := 26) dX10_unrule_4 rfl (fun c3 => ?_) (fun c3 => ?_)
  · rw [if_pos c3] at hr
    refine j_iconst (v := 0) rfl dX10_unrule_26 ?_
    cases hr
    exact j_ret dX10_unrule_27 m_rk_z0
  · rw [if_neg c3] at hr
    refine j_iload_n (i := 2) rfl rfl dX10_unrule_7 ?_
    refine j_iconst (v := 0) rfl dX10_unrule_8 ?_
    refine j_iconst (v := 4) rfl dX10_unrule_9 ?_
    replace hr := m_bind hr; obtain ⟨r5, g4, hr⟩ := hr
    refine j_callS (Y' := Y_X10_in) (as := [.int a2, .int 0, .int 4]) ok_X10_in [some (.int a2), some (.int 0), some (.int 4)] rfl rfl tw_4_54 tw_4_55 nn_X10_in (Nat.le_of_ble_eq_true rfl) dX10_unrule_10 (j_X10_in g4) ?_
    refine j_if_eq (tgt := 26) dX10_unrule_13 rfl (fun c6 => ?_) (fun c6 => ?_)
    · rw [if_pos c6] at hr
      refine j_iconst (v := 0) rfl dX10_unrule_26 ?_
      cases hr
      exact j_ret dX10_unrule_27 m_rk_z0
    · rw [if_neg c6] at hr
      refine j_aload_n (i := 0) rfl rfl dX10_unrule_16 ?_
      refine j_iload_n (i := 1) rfl rfl dX10_unrule_17 ?_
      refine j_iload_n (i := 2) rfl rfl dX10_unrule_18 ?_
      by_cases o16 : m_ob h a0 9 = true
      · rw [if_pos o16] at hr
        replace hr := m_bind hr; obtain ⟨r8, g7, hr⟩ := hr
        refine j_callV (Y' := Y_X10_ruleAt) (a := a0) (as := [.int a1, .int a2]) (ci := 9) (T := TX10) (N := 30) ok_X10_ruleAt [some (.ref a0), some (.int a1), some (.int a2)] rfl rfl rfl tw_4_134 tw_4_136 tw_p_19 nn_X10_ruleAt (Nat.le_of_ble_eq_true rfl) dX10_unrule_19 o16 (j_X10_ruleAt g7) ?_
        refine j_iconst (v := (-1)) rfl dX10_unrule_22 ?_
        refine j_ic_ne (tgt := 28) dX10_unrule_23 rfl (fun c9 => ?_) (fun c9 => ?_)
        · rw [if_neg c9] at hr
          refine j_aload_n (i := 0) rfl rfl dX10_unrule_28 ?_
          replace hr := m_bind hr; obtain ⟨q10, g11, hr⟩ := hr
          refine j_getf (C := RX10) (T := TX10) (N := 30) (ci := 9) (k := 5) rfl (by decide) inX10 tw_3_198 dX10_unrule_29 (m_gr_spec g11) ?_
          refine j_iconst (v := 5) rfl dX10_unrule_32 ?_
          refine j_iload_n (i := 1) rfl rfl dX10_unrule_33 ?_
          refine j_imul dX10_unrule_34 ?_
          refine j_iload_n (i := 2) rfl rfl dX10_unrule_35 ?_
          refine j_iadd dX10_unrule_36 ?_
          refine j_iconst (v := (-1)) rfl dX10_unrule_37 ?_
          replace hr := m_bind hr; obtain ⟨b12, g13, hr⟩ := hr
          subst g13
          replace hr := m_bind hr; obtain ⟨h14, g15, hr⟩ := hr
          refine j_iastore dX10_unrule_38 g15 ?_
          refine j_iconst (v := 1) rfl dX10_unrule_39 ?_
          cases hr
          exact j_ret dX10_unrule_40 m_rk_z1
        · rw [if_pos c9] at hr
          refine j_iconst (v := 0) rfl dX10_unrule_26 ?_
          cases hr
          exact j_ret dX10_unrule_27 m_rk_z0
      · rw [if_neg o16] at hr
        cases hr
def w_X10_fewest_5 (h : mH) (a0 : Nat) (a1 : Int32) (a2 : Int32) : (Int32 × Int32) → Option ((Int32 × Int32) ⊕ (Int32)) := fun s_1 =>
  if 49 ≤ s_1.2 then
    some (.inr s_1.1)
  else
    if m_ob h a0 9 = true then
      (f_X10_ruleAt h a0 s_1.2 a2).bind fun r4 =>
      if r4 = ((-1)) then
        some (.inl (s_1.1, s_1.2 + 1))
      else
        if m_ob h a0 9 = true then
          (f_X10_stepsTo h a0 a1 s_1.2).bind fun r7 =>
          if r7 = ((-1)) then
            some (.inl (s_1.1, s_1.2 + 1))
          else
            if s_1.1 = ((-1)) then
              some (.inl (r7, s_1.2 + 1))
            else
              if s_1.1 ≤ r7 then
                some (.inl (s_1.1, s_1.2 + 1))
              else
                some (.inl (r7, s_1.2 + 1))
        else none
    else none
def f_X10_fewest (h : mH) (a0 : Nat) (a1 : Int32) (a2 : Int32) : Option (Int32) :=
  (m_loop (w_X10_fewest_5 h a0 a1 a2) 5000 (((-1), 0))).bind fun e14 =>
  some e14
def Y_X10_fewest : mY := (yX10_fewest, cX10_fewest, 6, some (FieldType.int), .ireturn)
theorem ok_X10_fewest : m_Ok Y_X10_fewest := ⟨by decide +kernel, ⟨by decide +kernel, by decide +kernel⟩, tw_4_149, tw_1_7, by decide, Or.inr (Or.inl ⟨Or.inl rfl, rfl⟩)⟩
theorem nn_X10_fewest : (parseMethodDescriptor Y_X10_fewest.1.desc).map (fun q => q.parameters.length) = some 2 := by decide +kernel
set_option maxHeartbeats 4000000 in
set_option maxRecDepth 20000 in
theorem j_X10_fewest {X : mX} {d : Nat} {h : mH} {a0 : Nat} {a1 : Int32} {a2 : Int32} {rv : Int32} (hd : 3 ≤ d) (hr : f_X10_fewest h a0 a1 a2 = some rv) : m_J X Y_X10_fewest d 0 [some (.ref a0), some (.int a1), some (.int a2), none, none, none] [] h (some (.int rv), h) := by
  obtain ⟨d, rfl⟩ : ∃ k, d = k + 1 := ⟨d - 1, by omega⟩
  unfold f_X10_fewest at hr
  refine j_iconst (v := (-1)) rfl dX10_fewest_0 ?_
  refine j_istore_n (i := 3) (L' := [some (.ref a0), some (.int a1), some (.int a2), some (.int (-1)), none, none]) rfl (Nat.le_of_ble_eq_true rfl) rfl rfl dX10_fewest_1 ?_
  refine j_iconst (v := 0) rfl dX10_fewest_2 ?_
  refine j_istore (i := 4) (L' := [some (.ref a0), some (.int a1), some (.int a2), some (.int (-1)), some (.int 0), none]) (Nat.le_of_ble_eq_true rfl) rfl rfl dX10_fewest_3 ?_
  replace hr := m_bind hr; obtain ⟨e14, q17, hr⟩ := hr
  refine j_weak (L' := [some (.ref a0), some (.int a1), some (.int a2), some (.int (-1)), some (.int 0), none]) (And.intro rfl (And.intro rfl (And.intro rfl (And.intro rfl (And.intro rfl trivial))))) ?_
  refine m_loop_sound (step := w_X10_fewest_5 h a0 a1 a2) (P := fun s_1 => m_J X Y_X10_fewest (d + 1) 5 [some (.ref a0), some (.int a1), some (.int a2), some (.int s_1.1), some (.int s_1.2), none] [] h (some (.int rv), h)) (Qe := fun e14 => m_J X Y_X10_fewest (d + 1) 62 [none, none, none, some (.int e14), none, none] [] h (some (.int rv), h)) ?_ _ _ _ q17 ?_
  · intro s_1 o hr hk
    unfold w_X10_fewest_5 at hr
    refine j_iload (i := 4) rfl dX10_fewest_5 ?_
    refine j_bipush (v := 49) rfl dX10_fewest_7 ?_
    refine j_ic_ge (tgt := 62) dX10_fewest_9 rfl (fun c2 => ?_) (fun c2 => ?_)
    · rw [if_pos c2] at hr
      cases hr
      exact j_weak (L' := [none, none, none, some (.int s_1.1), none, none]) (And.intro rfl trivial) hk
    · rw [if_neg c2] at hr
      refine j_aload_n (i := 0) rfl rfl dX10_fewest_12 ?_
      refine j_iload (i := 4) rfl dX10_fewest_13 ?_
      refine j_iload_n (i := 2) rfl rfl dX10_fewest_15 ?_
      by_cases o13 : m_ob h a0 9 = true
      · rw [if_pos o13] at hr
        replace hr := m_bind hr; obtain ⟨r4, g3, hr⟩ := hr
        refine j_callV (Y' := Y_X10_ruleAt) (a := a0) (as := [.int s_1.2, .int a2]) (ci := 9) (T := TX10) (N := 30) ok_X10_ruleAt [some (.ref a0), some (.int s_1.2), some (.int a2)] rfl rfl rfl tw_4_134 tw_4_136 tw_p_19 nn_X10_ruleAt (Nat.le_of_ble_eq_true rfl) dX10_fewest_16 o13 (j_X10_ruleAt g3) ?_
        refine j_iconst (v := (-1)) rfl dX10_fewest_19 ?_
        refine j_ic_ne (tgt := 27) dX10_fewest_20 rfl (fun c5 => ?_) (fun c5 => ?_)
        · rw [if_neg c5] at hr
          refine j_aload_n (i := 0) rfl rfl dX10_fewest_27 ?_
          refine j_iload_n (i := 1) rfl rfl dX10_fewest_28 ?_
          refine j_iload (i := 4) rfl dX10_fewest_29 ?_
          by_cases o11 : m_ob h a0 9 = true
          · rw [if_pos o11] at hr
            replace hr := m_bind hr; obtain ⟨r7, g6, hr⟩ := hr
            refine j_callV (Y' := Y_X10_stepsTo) (a := a0) (as := [.int a1, .int s_1.2]) (ci := 9) (T := TX10) (N := 30) ok_X10_stepsTo [some (.ref a0), some (.int a1), some (.int s_1.2), none, none, none] rfl rfl rfl tw_4_64 tw_4_66 tw_p_13 nn_X10_stepsTo (Nat.le_of_ble_eq_true rfl) dX10_fewest_31 o11 (j_X10_stepsTo (by omega) g6) ?_
            refine j_istore (i := 5) (L' := [some (.ref a0), some (.int a1), some (.int a2), some (.int s_1.1), some (.int s_1.2), some (.int r7)]) (Nat.le_of_ble_eq_true rfl) rfl rfl dX10_fewest_34 ?_
            refine j_iload (i := 5) rfl dX10_fewest_36 ?_
            refine j_iconst (v := (-1)) rfl dX10_fewest_38 ?_
            refine j_ic_eq (tgt := 56) dX10_fewest_39 rfl (fun c8 => ?_) (fun c8 => ?_)
            · rw [if_pos c8] at hr
              refine j_iinc (i := 4) (v := s_1.2 + 1) (L' := [some (.ref a0), some (.int a1), some (.int a2), some (.int s_1.1), some (.int (s_1.2 + 1)), some (.int r7)]) rfl (m_o1 _) (Nat.le_of_ble_eq_true rfl) rfl rfl dX10_fewest_56 ?_
              refine j_goto (tgt := 5) dX10_fewest_59 rfl ?_
              cases hr
              exact j_weak (L' := [some (.ref a0), some (.int a1), some (.int a2), some (.int s_1.1), some (.int (s_1.2 + 1)), none]) (And.intro rfl (And.intro rfl (And.intro rfl (And.intro rfl (And.intro rfl trivial))))) hk
            · rw [if_neg c8] at hr
              refine j_iload_n (i := 3) rfl rfl dX10_fewest_42 ?_
              refine j_iconst (v := (-1)) rfl dX10_fewest_43 ?_
              refine j_ic_eq (tgt := 53) dX10_fewest_44 rfl (fun c9 => ?_) (fun c9 => ?_)
              · rw [if_pos c9] at hr
                refine j_iload (i := 5) rfl dX10_fewest_53 ?_
                refine j_istore_n (i := 3) (L' := [some (.ref a0), some (.int a1), some (.int a2), some (.int r7), some (.int s_1.2), some (.int r7)]) rfl (Nat.le_of_ble_eq_true rfl) rfl rfl dX10_fewest_55 ?_
                refine j_iinc (i := 4) (v := s_1.2 + 1) (L' := [some (.ref a0), some (.int a1), some (.int a2), some (.int r7), some (.int (s_1.2 + 1)), some (.int r7)]) rfl (m_o1 _) (Nat.le_of_ble_eq_true rfl) rfl rfl dX10_fewest_56 ?_
                refine j_goto (tgt := 5) dX10_fewest_59 rfl ?_
                cases hr
                exact j_weak (L' := [some (.ref a0), some (.int a1), some (.int a2), some (.int r7), some (.int (s_1.2 + 1)), none]) (And.intro rfl (And.intro rfl (And.intro rfl (And.intro rfl (And.intro rfl trivial))))) hk
              · rw [if_neg c9] at hr
                refine j_iload (i := 5) rfl dX10_fewest_47 ?_
                refine j_iload_n (i := 3) rfl rfl dX10_fewest_49 ?_
                refine j_ic_ge (tgt := 56) dX10_fewest_50 rfl (fun c10 => ?_) (fun c10 => ?_)
                · rw [if_pos c10] at hr
                  refine j_iinc (i := 4) (v := s_1.2 + 1) (L' := [some (.ref a0), some (.int a1), some (.int a2), some (.int s_1.1), some (.int (s_1.2 + 1)), some (.int r7)]) rfl (m_o1 _) (Nat.le_of_ble_eq_true rfl) rfl rfl dX10_fewest_56 ?_
                  refine j_goto (tgt := 5) dX10_fewest_59 rfl ?_
                  cases hr
                  exact j_weak (L' := [some (.ref a0), some (.int a1), some (.int a2), some (.int s_1.1), some (.int (s_1.2 + 1)), none]) (And.intro rfl (And.intro rfl (And.intro rfl (And.intro rfl (And.intro rfl trivial))))) hk
                · rw [if_neg c10] at hr
                  refine j_iload (i := 5) rfl dX10_fewest_53 ?_
                  refine j_istore_n (i := 3) (L' := [some (.ref a0), some (.int a1), some (.int a2), some (.int r7), some (.int s_1.2), some (.int r7)]) rfl (Nat.le_of_ble_eq_true rfl) rfl rfl dX10_fewest_55 ?_
                  refine j_iinc (i := 4) (v := s_1.2 + 1) (L' := [some (.ref a0), some (.int a1), some (.int a2), some (.int r7), some (.int (s_1.2 + 1)), some (.int r7)]) rfl (m_o1 _) (Nat.le_of_ble_eq_true rfl) rfl rfl dX10_fewest_56 ?_
                  refine j_goto (tgt := 5) dX10_fewest_59 rfl ?_
                  cases hr
                  exact j_weak (L' := [some (.ref a0), some (.int a1), some (.int a2), some (.int r7), some (.int (s_1.2 + 1)), none]) (And.intro rfl (And.intro rfl (And.intro rfl (And.intro rfl (And.intro rfl trivial))))) hk
          · rw [if_neg o11] at hr
            cases hr
        · rw [if_pos c5] at hr
          refine j_iconst (v := (-1)) rfl dX10_fewest_23 ?_
          refine j_goto (tgt := 34) dX10_fewest_24 rfl ?_
          refine j_istore (i := 5) (L' := [some (.ref a0), some (.int a1), some (.int a2), some (.int s_1.1), some (.int s_1.2), some (.int (-1))]) (Nat.le_of_ble_eq_true rfl) rfl rfl dX10_fewest_34 ?_
          refine j_iload (i := 5) rfl dX10_fewest_36 ?_
          refine j_iconst (v := (-1)) rfl dX10_fewest_38 ?_
          refine j_ic_eq (tgt := 56) dX10_fewest_39 rfl (fun c12 => ?_) (fun c12 => ?_)
          · skip
            refine j_iinc (i := 4) (v := s_1.2 + 1) (L' := [some (.ref a0), some (.int a1), some (.int a2), some (.int s_1.1), some (.int (s_1.2 + 1)), some (.int (-1))]) rfl (m_o1 _) (Nat.le_of_ble_eq_true rfl) rfl rfl dX10_fewest_56 ?_
            refine j_goto (tgt := 5) dX10_fewest_59 rfl ?_
            cases hr
            exact j_weak (L' := [some (.ref a0), some (.int a1), some (.int a2), some (.int s_1.1), some (.int (s_1.2 + 1)), none]) (And.intro rfl (And.intro rfl (And.intro rfl (And.intro rfl (And.intro rfl trivial))))) hk
          · exact absurd c12 (by decide)
      · rw [if_neg o13] at hr
        cases hr
  · skip
    refine j_iload_n (i := 3) rfl rfl dX10_fewest_62 ?_
    cases hr
    exact j_ret dX10_fewest_63 m_rk_i
def f_X10_isClose (h : mH) (a0 : Nat) (a1 : Int32) (a2 : Int32) (a3 : Int32) (a4 : Int32) : Option (Int32) :=
  if m_ob h a0 9 = true then
    (f_X10_ruleAt h a0 a3 a2).bind fun r2 =>
    if r2 = ((-1)) then
      some 0
    else
      if m_ob h a0 9 = true then
        (f_X10_stepsTo h a0 a1 a3).bind fun r5 =>
        if r5 = a4 then
          some 1
        else
          some 0
      else none
  else none
def Y_X10_isClose : mY := (yX10_isClose, cX10_isClose, 5, some (FieldType.boolean), .ireturn)
theorem ok_X10_isClose : m_Ok Y_X10_isClose := ⟨by decide +kernel, ⟨by decide +kernel, by decide +kernel⟩, tw_4_157, tw_1_7, by decide, Or.inr (Or.inl ⟨Or.inr rfl, rfl⟩)⟩
theorem nn_X10_isClose : (parseMethodDescriptor Y_X10_isClose.1.desc).map (fun q => q.parameters.length) = some 4 := by decide +kernel
set_option maxHeartbeats 4000000 in
set_option maxRecDepth 20000 in
theorem j_X10_isClose {X : mX} {d : Nat} {h : mH} {a0 : Nat} {a1 : Int32} {a2 : Int32} {a3 : Int32} {a4 : Int32} {rv : Int32} (hd : 3 ≤ d) (hr : f_X10_isClose h a0 a1 a2 a3 a4 = some rv) : m_J X Y_X10_isClose d 0 [some (.ref a0), some (.int a1), some (.int a2), some (.int a3), some (.int a4)] [] h (some (.int rv), h) := by
  obtain ⟨d, rfl⟩ : ∃ k, d = k + 1 := ⟨d - 1, by omega⟩
  unfold f_X10_isClose at hr
  refine j_aload_n (i := 0) rfl rfl dX10_isClose_0 ?_
  refine j_iload_n (i := 3) rfl rfl dX10_isClose_1 ?_
  refine j_iload_n (i := 2) rfl rfl dX10_isClose_2 ?_
  by_cases o8 : m_ob h a0 9 = true
  · rw [if_pos o8] at hr
    replace hr := m_bind hr; obtain ⟨r2, g1, hr⟩ := hr
    refine j_callV (Y' := Y_X10_ruleAt) (a := a0) (as := [.int a3, .int a2]) (ci := 9) (T := TX10) (N := 30) ok_X10_ruleAt [some (.ref a0), some (.int a3), some (.int a2)] rfl rfl rfl tw_4_134 tw_4_136 tw_p_19 nn_X10_ruleAt (Nat.le_of_ble_eq_true rfl) dX10_isClose_3 o8 (j_X10_ruleAt g1) ?_
    refine j_iconst (v := (-1)) rfl dX10_isClose_6 ?_
    refine j_ic_eq (tgt := 25) dX10_isClose_7 rfl (fun c3 => ?_) (fun c3 => ?_)
    · rw [if_pos c3] at hr
      refine j_iconst (v := 0) rfl dX10_isClose_25 ?_
      cases hr
      exact j_ret dX10_isClose_26 m_rk_z0
    · rw [if_neg c3] at hr
      refine j_aload_n (i := 0) rfl rfl dX10_isClose_10 ?_
      refine j_iload_n (i := 1) rfl rfl dX10_isClose_11 ?_
      refine j_iload_n (i := 3) rfl rfl dX10_isClose_12 ?_
      by_cases o7 : m_ob h a0 9 = true
      · rw [if_pos o7] at hr
        replace hr := m_bind hr; obtain ⟨r5, g4, hr⟩ := hr
        refine j_callV (Y' := Y_X10_stepsTo) (a := a0) (as := [.int a1, .int a3]) (ci := 9) (T := TX10) (N := 30) ok_X10_stepsTo [some (.ref a0), some (.int a1), some (.int a3), none, none, none] rfl rfl rfl tw_4_64 tw_4_66 tw_p_13 nn_X10_stepsTo (Nat.le_of_ble_eq_true rfl) dX10_isClose_13 o7 (j_X10_stepsTo (by omega) g4) ?_
        refine j_iload (i := 4) rfl dX10_isClose_16 ?_
        refine j_ic_ne (tgt := 25) dX10_isClose_18 rfl (fun c6 => ?_) (fun c6 => ?_)
        · rw [if_neg c6] at hr
          refine j_iconst (v := 0) rfl dX10_isClose_25 ?_
          cases hr
          exact j_ret dX10_isClose_26 m_rk_z0
        · rw [if_pos c6] at hr
          refine j_iconst (v := 1) rfl dX10_isClose_21 ?_
          refine j_goto (tgt := 26) dX10_isClose_22 rfl ?_
          cases hr
          exact j_ret dX10_isClose_26 m_rk_z1
      · rw [if_neg o7] at hr
        cases hr
  · rw [if_neg o8] at hr
    cases hr
def w_X10_isNearest_32 (h : mH) (a0 : Nat) (a1 : Int32) (a2 : Int32) (a4 : Int32) : Int32 → Option ((Int32) ⊕ ((Unit) ⊕ (Int32))) := fun s_8 =>
  if 24 ≤ s_8 then
    some (.inr (.inl ()))
  else
    if m_ob h a0 9 = true then
      (f_X10_isClose h a0 a1 a2 s_8 a4).bind fun r11 =>
      if r11 = 0 then
        some (.inl (s_8 + 1))
      else
        some (.inr (.inr 0))
    else none
def w_X10_isNearest_64 (h : mH) (a0 : Nat) (a1 : Int32) (a2 : Int32) (a3 : Int32) (a4 : Int32) : Int32 → Option ((Int32) ⊕ ((Unit) ⊕ (Int32))) := fun s_16 =>
  if 49 ≤ s_16 then
    some (.inr (.inl ()))
  else
    if s_16 = a3 then
      some (.inl (s_16 + 1))
    else
      if m_ob h a0 9 = true then
        (f_X10_isClose h a0 a1 a2 s_16 a4).bind fun r20 =>
        if r20 = 0 then
          some (.inl (s_16 + 1))
        else
          if m_ob h a0 9 = true then
            (f_X10_traitAbove h a0 a3 s_16).bind fun r23 =>
            if r23 = 0 then
              some (.inl (s_16 + 1))
            else
              some (.inr (.inr 0))
          else none
      else none
def f_X10_isNearest (h : mH) (a0 : Nat) (a1 : Int32) (a2 : Int32) (a3 : Int32) (a4 : Int32) : Option (Int32) :=
  if a4 = ((-1)) then
    some 0
  else
    if m_ob h a0 9 = true then
      (f_X10_isClose h a0 a1 a2 a3 a4).bind fun r3 =>
      if r3 = 0 then
        some 0
      else
        (f_X10_isKind a3).bind fun r6 =>
        if r6 = 0 then
          (m_loop (w_X10_isNearest_32 h a0 a1 a2 a4) 5000 0).bind fun e14 => match e14 with
          | .inl x15 =>
            (m_loop (w_X10_isNearest_64 h a0 a1 a2 a3 a4) 5000 40).bind fun e27 => match e27 with
            | .inl x28 =>
              some 1
            | .inr v30 => some v30
          | .inr v33 => some v33
        else
          some 1
    else none
def Y_X10_isNearest : mY := (yX10_isNearest, cX10_isNearest, 6, some (FieldType.boolean), .ireturn)
theorem ok_X10_isNearest : m_Ok Y_X10_isNearest := ⟨by decide +kernel, ⟨by decide +kernel, by decide +kernel⟩, tw_4_153, tw_1_7, by decide, Or.inr (Or.inl ⟨Or.inr rfl, rfl⟩)⟩
theorem nn_X10_isNearest : (parseMethodDescriptor Y_X10_isNearest.1.desc).map (fun q => q.parameters.length) = some 4 := by decide +kernel
set_option maxHeartbeats 4000000 in
set_option maxRecDepth 20000 in
theorem j_X10_isNearest {X : mX} {d : Nat} {h : mH} {a0 : Nat} {a1 : Int32} {a2 : Int32} {a3 : Int32} {a4 : Int32} {rv : Int32} (hd : 4 ≤ d) (hr : f_X10_isNearest h a0 a1 a2 a3 a4 = some rv) : m_J X Y_X10_isNearest d 0 [some (.ref a0), some (.int a1), some (.int a2), some (.int a3), some (.int a4), none] [] h (some (.int rv), h) := by
  obtain ⟨d, rfl⟩ : ∃ k, d = k + 1 := ⟨d - 1, by omega⟩
  unfold f_X10_isNearest at hr
  refine j_iload (i := 4) rfl dX10_isNearest_0 ?_
  refine j_iconst (v := (-1)) rfl dX10_isNearest_2 ?_
  refine j_ic_eq (tgt := 18) dX10_isNearest_3 rfl (fun c1 => ?_) (fun c1 => ?_)
  · rw [if_pos c1] at hr
    refine j_iconst (v := 0) rfl dX10_isNearest_18 ?_
    cases hr
    exact j_ret dX10_isNearest_19 m_rk_z0
  · rw [if_neg c1] at hr
    refine j_aload_n (i := 0) rfl rfl dX10_isNearest_6 ?_
    refine j_iload_n (i := 1) rfl rfl dX10_isNearest_7 ?_
    refine j_iload_n (i := 2) rfl rfl dX10_isNearest_8 ?_
    refine j_iload_n (i := 3) rfl rfl dX10_isNearest_9 ?_
    refine j_iload (i := 4) rfl dX10_isNearest_10 ?_
    by_cases o35 : m_ob h a0 9 = true
    · rw [if_pos o35] at hr
      replace hr := m_bind hr; obtain ⟨r3, g2, hr⟩ := hr
      refine j_callV (Y' := Y_X10_isClose) (a := a0) (as := [.int a1, .int a2, .int a3, .int a4]) (ci := 9) (T := TX10) (N := 30) ok_X10_isClose [some (.ref a0), some (.int a1), some (.int a2), some (.int a3), some (.int a4)] rfl rfl rfl tw_4_154 tw_4_156 tw_p_23 nn_X10_isClose (Nat.le_of_ble_eq_true rfl) dX10_isNearest_12 o35 (j_X10_isClose (by omega) g2) ?_
      refine j_if_ne (tgt := 20) dX10_isNearest_15 rfl (fun c4 => ?_) (fun c4 => ?_)
      · rw [if_neg c4] at hr
        refine j_iload_n (i := 3) rfl rfl dX10_isNearest_20 ?_
        replace hr := m_bind hr; obtain ⟨r6, g5, hr⟩ := hr
        refine j_callS (Y' := Y_X10_isKind) (as := [.int a3]) ok_X10_isKind [some (.int a3)] rfl rfl tw_4_51 tw_4_52 nn_X10_isKind (Nat.le_of_ble_eq_true rfl) dX10_isNearest_21 (j_X10_isKind (by omega) g5) ?_
        refine j_if_eq (tgt := 29) dX10_isNearest_24 rfl (fun c7 => ?_) (fun c7 => ?_)
        · rw [if_pos c7] at hr
          refine j_iconst (v := 0) rfl dX10_isNearest_29 ?_
          refine j_istore (i := 5) (L' := [some (.ref a0), some (.int a1), some (.int a2), some (.int a3), some (.int a4), some (.int 0)]) (Nat.le_of_ble_eq_true rfl) rfl rfl dX10_isNearest_30 ?_
          replace hr := m_bind hr; obtain ⟨e14, q34, hr⟩ := hr
          refine j_weak (L' := [some (.ref a0), some (.int a1), some (.int a2), some (.int a3), some (.int a4), some (.int 0)]) (And.intro rfl (And.intro rfl (And.intro rfl (And.intro rfl (And.intro rfl (And.intro rfl trivial)))))) ?_
          refine m_loop_sound (step := w_X10_isNearest_32 h a0 a1 a2 a4) (P := fun s_8 => m_J X Y_X10_isNearest (d + 1) 32 [some (.ref a0), some (.int a1), some (.int a2), some (.int a3), some (.int a4), some (.int s_8)] [] h (some (.int rv), h)) (Qe := fun e14 => match e14 with | .inl x15 => m_J X Y_X10_isNearest (d + 1) 60 [some (.ref a0), some (.int a1), some (.int a2), some (.int a3), some (.int a4), none] [] h (some (.int rv), h) | .inr v33 => ((some (.int rv), h) : mR) = (some (.int v33), h)) ?_ _ _ _ q34 ?_
          · intro s_8 o hr hk
            unfold w_X10_isNearest_32 at hr
            refine j_iload (i := 5) rfl dX10_isNearest_32 ?_
            refine j_bipush (v := 24) rfl dX10_isNearest_34 ?_
            refine j_ic_ge (tgt := 60) dX10_isNearest_36 rfl (fun c9 => ?_) (fun c9 => ?_)
            · rw [if_pos c9] at hr
              cases hr
              exact j_weak (L' := [some (.ref a0), some (.int a1), some (.int a2), some (.int a3), some (.int a4), none]) (And.intro rfl (And.intro rfl (And.intro rfl (And.intro rfl (And.intro rfl trivial))))) hk
            · rw [if_neg c9] at hr
              refine j_aload_n (i := 0) rfl rfl dX10_isNearest_39 ?_
              refine j_iload_n (i := 1) rfl rfl dX10_isNearest_40 ?_
              refine j_iload_n (i := 2) rfl rfl dX10_isNearest_41 ?_
              refine j_iload (i := 5) rfl dX10_isNearest_42 ?_
              refine j_iload (i := 4) rfl dX10_isNearest_44 ?_
              by_cases o13 : m_ob h a0 9 = true
              · rw [if_pos o13] at hr
                replace hr := m_bind hr; obtain ⟨r11, g10, hr⟩ := hr
                refine j_callV (Y' := Y_X10_isClose) (a := a0) (as := [.int a1, .int a2, .int s_8, .int a4]) (ci := 9) (T := TX10) (N := 30) ok_X10_isClose [some (.ref a0), some (.int a1), some (.int a2), some (.int s_8), some (.int a4)] rfl rfl rfl tw_4_154 tw_4_156 tw_p_23 nn_X10_isClose (Nat.le_of_ble_eq_true rfl) dX10_isNearest_46 o13 (j_X10_isClose (by omega) g10) ?_
                refine j_if_eq (tgt := 54) dX10_isNearest_49 rfl (fun c12 => ?_) (fun c12 => ?_)
                · rw [if_pos c12] at hr
                  refine j_iinc (i := 5) (v := s_8 + 1) (L' := [some (.ref a0), some (.int a1), some (.int a2), some (.int a3), some (.int a4), some (.int (s_8 + 1))]) rfl (m_o1 _) (Nat.le_of_ble_eq_true rfl) rfl rfl dX10_isNearest_54 ?_
                  refine j_goto (tgt := 32) dX10_isNearest_57 rfl ?_
                  cases hr
                  exact j_weak (L' := [some (.ref a0), some (.int a1), some (.int a2), some (.int a3), some (.int a4), some (.int (s_8 + 1))]) (And.intro rfl (And.intro rfl (And.intro rfl (And.intro rfl (And.intro rfl (And.intro rfl trivial)))))) hk
                · rw [if_neg c12] at hr
                  refine j_iconst (v := 0) rfl dX10_isNearest_52 ?_
                  cases hr
                  rw [show _ = _ from hk]
                  exact j_ret dX10_isNearest_53 m_rk_z0
              · rw [if_neg o13] at hr
                cases hr
          · cases e14 with
            | inl x15 =>
              dsimp only at hr
              dsimp only
              refine j_bipush (v := 40) rfl dX10_isNearest_60 ?_
              refine j_istore (i := 5) (L' := [some (.ref a0), some (.int a1), some (.int a2), some (.int a3), some (.int a4), some (.int 40)]) (Nat.le_of_ble_eq_true rfl) rfl rfl dX10_isNearest_62 ?_
              replace hr := m_bind hr; obtain ⟨e27, q31, hr⟩ := hr
              refine j_weak (L' := [some (.ref a0), some (.int a1), some (.int a2), some (.int a3), some (.int a4), some (.int 40)]) (And.intro rfl (And.intro rfl (And.intro rfl (And.intro rfl (And.intro rfl (And.intro rfl trivial)))))) ?_
              refine m_loop_sound (step := w_X10_isNearest_64 h a0 a1 a2 a3 a4) (P := fun s_16 => m_J X Y_X10_isNearest (d + 1) 64 [some (.ref a0), some (.int a1), some (.int a2), some (.int a3), some (.int a4), some (.int s_16)] [] h (some (.int rv), h)) (Qe := fun e27 => match e27 with | .inl x28 => m_J X Y_X10_isNearest (d + 1) 108 [none, none, none, none, none, none] [] h (some (.int rv), h) | .inr v30 => ((some (.int rv), h) : mR) = (some (.int v30), h)) ?_ _ _ _ q31 ?_
              · intro s_16 o hr hk
                unfold w_X10_isNearest_64 at hr
                refine j_iload (i := 5) rfl dX10_isNearest_64 ?_
                refine j_bipush (v := 49) rfl dX10_isNearest_66 ?_
                refine j_ic_ge (tgt := 108) dX10_isNearest_68 rfl (fun c17 => ?_) (fun c17 => ?_)
                · rw [if_pos c17] at hr
                  cases hr
                  exact j_weak (L' := [none, none, none, none, none, none]) trivial hk
                · rw [if_neg c17] at hr
                  refine j_iload (i := 5) rfl dX10_isNearest_71 ?_
                  refine j_iload_n (i := 3) rfl rfl dX10_isNearest_73 ?_
                  refine j_ic_eq (tgt := 102) dX10_isNearest_74 rfl (fun c18 => ?_) (fun c18 => ?_)
                  · rw [if_pos c18] at hr
                    refine j_iinc (i := 5) (v := s_16 + 1) (L' := [some (.ref a0), some (.int a1), some (.int a2), some (.int a3), some (.int a4), some (.int (s_16 + 1))]) rfl (m_o1 _) (Nat.le_of_ble_eq_true rfl) rfl rfl dX10_isNearest_102 ?_
                    refine j_goto (tgt := 64) dX10_isNearest_105 rfl ?_
                    cases hr
                    exact j_weak (L' := [some (.ref a0), some (.int a1), some (.int a2), some (.int a3), some (.int a4), some (.int (s_16 + 1))]) (And.intro rfl (And.intro rfl (And.intro rfl (And.intro rfl (And.intro rfl (And.intro rfl trivial)))))) hk
                  · rw [if_neg c18] at hr
                    refine j_aload_n (i := 0) rfl rfl dX10_isNearest_77 ?_
                    refine j_iload_n (i := 1) rfl rfl dX10_isNearest_78 ?_
                    refine j_iload_n (i := 2) rfl rfl dX10_isNearest_79 ?_
                    refine j_iload (i := 5) rfl dX10_isNearest_80 ?_
                    refine j_iload (i := 4) rfl dX10_isNearest_82 ?_
                    by_cases o26 : m_ob h a0 9 = true
                    · rw [if_pos o26] at hr
                      replace hr := m_bind hr; obtain ⟨r20, g19, hr⟩ := hr
                      refine j_callV (Y' := Y_X10_isClose) (a := a0) (as := [.int a1, .int a2, .int s_16, .int a4]) (ci := 9) (T := TX10) (N := 30) ok_X10_isClose [some (.ref a0), some (.int a1), some (.int a2), some (.int s_16), some (.int a4)] rfl rfl rfl tw_4_154 tw_4_156 tw_p_23 nn_X10_isClose (Nat.le_of_ble_eq_true rfl) dX10_isNearest_84 o26 (j_X10_isClose (by omega) g19) ?_
                      refine j_if_eq (tgt := 102) dX10_isNearest_87 rfl (fun c21 => ?_) (fun c21 => ?_)
                      · rw [if_pos c21] at hr
                        refine j_iinc (i := 5) (v := s_16 + 1) (L' := [some (.ref a0), some (.int a1), some (.int a2), some (.int a3), some (.int a4), some (.int (s_16 + 1))]) rfl (m_o1 _) (Nat.le_of_ble_eq_true rfl) rfl rfl dX10_isNearest_102 ?_
                        refine j_goto (tgt := 64) dX10_isNearest_105 rfl ?_
                        cases hr
                        exact j_weak (L' := [some (.ref a0), some (.int a1), some (.int a2), some (.int a3), some (.int a4), some (.int (s_16 + 1))]) (And.intro rfl (And.intro rfl (And.intro rfl (And.intro rfl (And.intro rfl (And.intro rfl trivial)))))) hk
                      · rw [if_neg c21] at hr
                        refine j_aload_n (i := 0) rfl rfl dX10_isNearest_90 ?_
                        refine j_iload_n (i := 3) rfl rfl dX10_isNearest_91 ?_
                        refine j_iload (i := 5) rfl dX10_isNearest_92 ?_
                        by_cases o25 : m_ob h a0 9 = true
                        · rw [if_pos o25] at hr
                          replace hr := m_bind hr; obtain ⟨r23, g22, hr⟩ := hr
                          refine j_callV (Y' := Y_X10_traitAbove) (a := a0) (as := [.int a3, .int s_16]) (ci := 9) (T := TX10) (N := 30) ok_X10_traitAbove [some (.ref a0), some (.int a3), some (.int s_16), none, none, none, none] rfl rfl rfl tw_4_68 tw_4_70 tw_p_14 nn_X10_traitAbove (Nat.le_of_ble_eq_true rfl) dX10_isNearest_94 o25 (j_X10_traitAbove g22) ?_
                          refine j_if_eq (tgt := 102) dX10_isNearest_97 rfl (fun c24 => ?_) (fun c24 => ?_)
                          · rw [if_pos c24] at hr
                            refine j_iinc (i := 5) (v := s_16 + 1) (L' := [some (.ref a0), some (.int a1), some (.int a2), some (.int a3), some (.int a4), some (.int (s_16 + 1))]) rfl (m_o1 _) (Nat.le_of_ble_eq_true rfl) rfl rfl dX10_isNearest_102 ?_
                            refine j_goto (tgt := 64) dX10_isNearest_105 rfl ?_
                            cases hr
                            exact j_weak (L' := [some (.ref a0), some (.int a1), some (.int a2), some (.int a3), some (.int a4), some (.int (s_16 + 1))]) (And.intro rfl (And.intro rfl (And.intro rfl (And.intro rfl (And.intro rfl (And.intro rfl trivial)))))) hk
                          · rw [if_neg c24] at hr
                            refine j_iconst (v := 0) rfl dX10_isNearest_100 ?_
                            cases hr
                            rw [show _ = _ from hk]
                            exact j_ret dX10_isNearest_101 m_rk_z0
                        · rw [if_neg o25] at hr
                          cases hr
                    · rw [if_neg o26] at hr
                      cases hr
              · cases e27 with
                | inl x28 =>
                  dsimp only at hr
                  dsimp only
                  refine j_iconst (v := 1) rfl dX10_isNearest_108 ?_
                  cases hr
                  exact j_ret dX10_isNearest_109 m_rk_z1
                | inr v30 =>
                  dsimp only at hr
                  cases hr
                  rfl
            | inr v33 =>
              dsimp only at hr
              cases hr
              rfl
        · rw [if_neg c7] at hr
          refine j_iconst (v := 1) rfl dX10_isNearest_27 ?_
          cases hr
          exact j_ret dX10_isNearest_28 m_rk_z1
      · rw [if_pos c4] at hr
        refine j_iconst (v := 0) rfl dX10_isNearest_18 ?_
        cases hr
        exact j_ret dX10_isNearest_19 m_rk_z0
    · rw [if_neg o35] at hr
      cases hr
def w_X10_says_13 (h : mH) (a0 : Nat) (a1 : Int32) (a2 : Int32) (r2 : Int32) : (Int32 × Int32) → Option ((Int32 × Int32) ⊕ ((Int32) ⊕ (Int32))) := fun s_3 =>
  if 49 ≤ s_3.2 then
    some (.inr (.inl s_3.1))
  else
    if m_ob h a0 9 = true then
      (f_X10_isNearest h a0 a1 a2 s_3.2 r2).bind fun r6 =>
      if r6 = 0 then
        some (.inl (s_3.1, s_3.2 + 1))
      else
        if s_3.1 = ((-1)) then
          if m_ob h a0 9 = true then
            (f_X10_ruleAt h a0 s_3.2 a2).bind fun r10 =>
            some (.inl (r10, s_3.2 + 1))
          else none
        else
          if m_ob h a0 9 = true then
            (f_X10_ruleAt h a0 s_3.2 a2).bind fun r13 =>
            if s_3.1 = r13 then
              if m_ob h a0 9 = true then
                (f_X10_ruleAt h a0 s_3.2 a2).bind fun r16 =>
                some (.inl (r16, s_3.2 + 1))
              else none
            else
              some (.inr (.inr ((-2))))
          else none
    else none
def f_X10_says (h : mH) (a0 : Nat) (a1 : Int32) (a2 : Int32) : Option (Int32) :=
  if m_ob h a0 9 = true then
    (f_X10_fewest h a0 a1 a2).bind fun r2 =>
    (m_loop (w_X10_says_13 h a0 a1 a2 r2) 5000 (((-1), 0))).bind fun e20 => match e20 with
    | .inl x21 =>
      some x21
    | .inr v23 => some v23
  else none
def Y_X10_says : mY := (yX10_says, cX10_says, 6, some (FieldType.int), .ireturn)
theorem ok_X10_says : m_Ok Y_X10_says := ⟨by decide +kernel, ⟨by decide +kernel, by decide +kernel⟩, tw_4_145, tw_1_7, by decide, Or.inr (Or.inl ⟨Or.inl rfl, rfl⟩)⟩
theorem nn_X10_says : (parseMethodDescriptor Y_X10_says.1.desc).map (fun q => q.parameters.length) = some 2 := by decide +kernel
set_option maxHeartbeats 4000000 in
set_option maxRecDepth 20000 in
theorem j_X10_says {X : mX} {d : Nat} {h : mH} {a0 : Nat} {a1 : Int32} {a2 : Int32} {rv : Int32} (hd : 5 ≤ d) (hr : f_X10_says h a0 a1 a2 = some rv) : m_J X Y_X10_says d 0 [some (.ref a0), some (.int a1), some (.int a2), none, none, none] [] h (some (.int rv), h) := by
  obtain ⟨d, rfl⟩ : ∃ k, d = k + 1 := ⟨d - 1, by omega⟩
  unfold f_X10_says at hr
  refine j_aload_n (i := 0) rfl rfl dX10_says_0 ?_
  refine j_iload_n (i := 1) rfl rfl dX10_says_1 ?_
  refine j_iload_n (i := 2) rfl rfl dX10_says_2 ?_
  by_cases o25 : m_ob h a0 9 = true
  · rw [if_pos o25] at hr
    replace hr := m_bind hr; obtain ⟨r2, g1, hr⟩ := hr
    refine j_callV (Y' := Y_X10_fewest) (a := a0) (as := [.int a1, .int a2]) (ci := 9) (T := TX10) (N := 30) ok_X10_fewest [some (.ref a0), some (.int a1), some (.int a2), none, none, none] rfl rfl rfl tw_4_146 tw_4_148 tw_p_21 nn_X10_fewest (Nat.le_of_ble_eq_true rfl) dX10_says_3 o25 (j_X10_fewest (by omega) g1) ?_
    refine j_istore_n (i := 3) (L' := [some (.ref a0), some (.int a1), some (.int a2), some (.int r2), none, none]) rfl (Nat.le_of_ble_eq_true rfl) rfl rfl dX10_says_6 ?_
    refine j_iconst (v := (-1)) rfl dX10_says_7 ?_
    refine j_istore (i := 4) (L' := [some (.ref a0), some (.int a1), some (.int a2), some (.int r2), some (.int (-1)), none]) (Nat.le_of_ble_eq_true rfl) rfl rfl dX10_says_8 ?_
    refine j_iconst (v := 0) rfl dX10_says_10 ?_
    refine j_istore (i := 5) (L' := [some (.ref a0), some (.int a1), some (.int a2), some (.int r2), some (.int (-1)), some (.int 0)]) (Nat.le_of_ble_eq_true rfl) rfl rfl dX10_says_11 ?_
    replace hr := m_bind hr; obtain ⟨e20, q24, hr⟩ := hr
    refine j_weak (L' := [some (.ref a0), some (.int a1), some (.int a2), some (.int r2), some (.int (-1)), some (.int 0)]) (And.intro rfl (And.intro rfl (And.intro rfl (And.intro rfl (And.intro rfl (And.intro rfl trivial)))))) ?_
    refine m_loop_sound (step := w_X10_says_13 h a0 a1 a2 r2) (P := fun s_3 => m_J X Y_X10_says (d + 1) 13 [some (.ref a0), some (.int a1), some (.int a2), some (.int r2), some (.int s_3.1), some (.int s_3.2)] [] h (some (.int rv), h)) (Qe := fun e20 => match e20 with | .inl x21 => m_J X Y_X10_says (d + 1) 71 [none, none, none, none, some (.int x21), none] [] h (some (.int rv), h) | .inr v23 => ((some (.int rv), h) : mR) = (some (.int v23), h)) ?_ _ _ _ q24 ?_
    · intro s_3 o hr hk
      unfold w_X10_says_13 at hr
      refine j_iload (i := 5) rfl dX10_says_13 ?_
      refine j_bipush (v := 49) rfl dX10_says_15 ?_
      refine j_ic_ge (tgt := 71) dX10_says_17 rfl (fun c4 => ?_) (fun c4 => ?_)
      · rw [if_pos c4] at hr
        cases hr
        exact j_weak (L' := [none, none, none, none, some (.int s_3.1), none]) (And.intro rfl trivial) hk
      · rw [if_neg c4] at hr
        refine j_aload_n (i := 0) rfl rfl dX10_says_20 ?_
        refine j_iload_n (i := 1) rfl rfl dX10_says_21 ?_
        refine j_iload_n (i := 2) rfl rfl dX10_says_22 ?_
        refine j_iload (i := 5) rfl dX10_says_23 ?_
        refine j_iload_n (i := 3) rfl rfl dX10_says_25 ?_
        by_cases o19 : m_ob h a0 9 = true
        · rw [if_pos o19] at hr
          replace hr := m_bind hr; obtain ⟨r6, g5, hr⟩ := hr
          refine j_callV (Y' := Y_X10_isNearest) (a := a0) (as := [.int a1, .int a2, .int s_3.2, .int r2]) (ci := 9) (T := TX10) (N := 30) ok_X10_isNearest [some (.ref a0), some (.int a1), some (.int a2), some (.int s_3.2), some (.int r2), none] rfl rfl rfl tw_4_150 tw_4_152 tw_p_22 nn_X10_isNearest (Nat.le_of_ble_eq_true rfl) dX10_says_26 o19 (j_X10_isNearest (by omega) g5) ?_
          refine j_if_ne (tgt := 35) dX10_says_29 rfl (fun c7 => ?_) (fun c7 => ?_)
          · rw [if_neg c7] at hr
            refine j_iload (i := 4) rfl dX10_says_35 ?_
            refine j_iconst (v := (-1)) rfl dX10_says_37 ?_
            refine j_ic_eq (tgt := 56) dX10_says_38 rfl (fun c8 => ?_) (fun c8 => ?_)
            · rw [if_pos c8] at hr
              refine j_aload_n (i := 0) rfl rfl dX10_says_56 ?_
              refine j_iload (i := 5) rfl dX10_says_57 ?_
              refine j_iload_n (i := 2) rfl rfl dX10_says_59 ?_
              by_cases o11 : m_ob h a0 9 = true
              · rw [if_pos o11] at hr
                replace hr := m_bind hr; obtain ⟨r10, g9, hr⟩ := hr
                refine j_callV (Y' := Y_X10_ruleAt) (a := a0) (as := [.int s_3.2, .int a2]) (ci := 9) (T := TX10) (N := 30) ok_X10_ruleAt [some (.ref a0), some (.int s_3.2), some (.int a2)] rfl rfl rfl tw_4_134 tw_4_136 tw_p_19 nn_X10_ruleAt (Nat.le_of_ble_eq_true rfl) dX10_says_60 o11 (j_X10_ruleAt g9) ?_
                refine j_istore (i := 4) (L' := [some (.ref a0), some (.int a1), some (.int a2), some (.int r2), some (.int r10), some (.int s_3.2)]) (Nat.le_of_ble_eq_true rfl) rfl rfl dX10_says_63 ?_
                refine j_iinc (i := 5) (v := s_3.2 + 1) (L' := [some (.ref a0), some (.int a1), some (.int a2), some (.int r2), some (.int r10), some (.int (s_3.2 + 1))]) rfl (m_o1 _) (Nat.le_of_ble_eq_true rfl) rfl rfl dX10_says_65 ?_
                refine j_goto (tgt := 13) dX10_says_68 rfl ?_
                cases hr
                exact j_weak (L' := [some (.ref a0), some (.int a1), some (.int a2), some (.int r2), some (.int r10), some (.int (s_3.2 + 1))]) (And.intro rfl (And.intro rfl (And.intro rfl (And.intro rfl (And.intro rfl (And.intro rfl trivial)))))) hk
              · rw [if_neg o11] at hr
                cases hr
            · rw [if_neg c8] at hr
              refine j_iload (i := 4) rfl dX10_says_41 ?_
              refine j_aload_n (i := 0) rfl rfl dX10_says_43 ?_
              refine j_iload (i := 5) rfl dX10_says_44 ?_
              refine j_iload_n (i := 2) rfl rfl dX10_says_46 ?_
              by_cases o18 : m_ob h a0 9 = true
              · rw [if_pos o18] at hr
                replace hr := m_bind hr; obtain ⟨r13, g12, hr⟩ := hr
                refine j_callV (Y' := Y_X10_ruleAt) (a := a0) (as := [.int s_3.2, .int a2]) (ci := 9) (T := TX10) (N := 30) ok_X10_ruleAt [some (.ref a0), some (.int s_3.2), some (.int a2)] rfl rfl rfl tw_4_134 tw_4_136 tw_p_19 nn_X10_ruleAt (Nat.le_of_ble_eq_true rfl) dX10_says_47 o18 (j_X10_ruleAt g12) ?_
                refine j_ic_eq (tgt := 56) dX10_says_50 rfl (fun c14 => ?_) (fun c14 => ?_)
                · rw [if_pos c14] at hr
                  refine j_aload_n (i := 0) rfl rfl dX10_says_56 ?_
                  refine j_iload (i := 5) rfl dX10_says_57 ?_
                  refine j_iload_n (i := 2) rfl rfl dX10_says_59 ?_
                  by_cases o17 : m_ob h a0 9 = true
                  · rw [if_pos o17] at hr
                    replace hr := m_bind hr; obtain ⟨r16, g15, hr⟩ := hr
                    refine j_callV (Y' := Y_X10_ruleAt) (a := a0) (as := [.int s_3.2, .int a2]) (ci := 9) (T := TX10) (N := 30) ok_X10_ruleAt [some (.ref a0), some (.int s_3.2), some (.int a2)] rfl rfl rfl tw_4_134 tw_4_136 tw_p_19 nn_X10_ruleAt (Nat.le_of_ble_eq_true rfl) dX10_says_60 o17 (j_X10_ruleAt g15) ?_
                    refine j_istore (i := 4) (L' := [some (.ref a0), some (.int a1), some (.int a2), some (.int r2), some (.int r16), some (.int s_3.2)]) (Nat.le_of_ble_eq_true rfl) rfl rfl dX10_says_63 ?_
                    refine j_iinc (i := 5) (v := s_3.2 + 1) (L' := [some (.ref a0), some (.int a1), some (.int a2), some (.int r2), some (.int r16), some (.int (s_3.2 + 1))]) rfl (m_o1 _) (Nat.le_of_ble_eq_true rfl) rfl rfl dX10_says_65 ?_
                    refine j_goto (tgt := 13) dX10_says_68 rfl ?_
                    cases hr
                    exact j_weak (L' := [some (.ref a0), some (.int a1), some (.int a2), some (.int r2), some (.int r16), some (.int (s_3.2 + 1))]) (And.intro rfl (And.intro rfl (And.intro rfl (And.intro rfl (And.intro rfl (And.intro rfl trivial)))))) hk
                  · rw [if_neg o17] at hr
                    cases hr
                · rw [if_neg c14] at hr
                  refine j_bipush (v := (-2)) rfl dX10_says_53 ?_
                  cases hr
                  rw [show _ = _ from hk]
                  exact j_ret dX10_says_55 m_rk_i
              · rw [if_neg o18] at hr
                cases hr
          · rw [if_pos c7] at hr
            refine j_goto (tgt := 65) dX10_says_32 rfl ?_
            refine j_iinc (i := 5) (v := s_3.2 + 1) (L' := [some (.ref a0), some (.int a1), some (.int a2), some (.int r2), some (.int s_3.1), some (.int (s_3.2 + 1))]) rfl (m_o1 _) (Nat.le_of_ble_eq_true rfl) rfl rfl dX10_says_65 ?_
            refine j_goto (tgt := 13) dX10_says_68 rfl ?_
            cases hr
            exact j_weak (L' := [some (.ref a0), some (.int a1), some (.int a2), some (.int r2), some (.int s_3.1), some (.int (s_3.2 + 1))]) (And.intro rfl (And.intro rfl (And.intro rfl (And.intro rfl (And.intro rfl (And.intro rfl trivial)))))) hk
        · rw [if_neg o19] at hr
          cases hr
    · cases e20 with
      | inl x21 =>
        dsimp only at hr
        dsimp only
        refine j_iload (i := 4) rfl dX10_says_71 ?_
        cases hr
        exact j_ret dX10_says_73 m_rk_i
      | inr v23 =>
        dsimp only at hr
        cases hr
        rfl
  · rw [if_neg o25] at hr
    cases hr
def f_X10_asks (h : mH) (a0 : Nat) (a1 : Int32) (a2 : Int32) : Option (Int32) :=
  if m_ob h a0 9 = true then
    (f_X10_isSpecimen h a0 a1).bind fun r2 =>
    if r2 = 0 then
      some ((-1))
    else
      (f_X10_in a2 0 4).bind fun r5 =>
      if r5 = 0 then
        some ((-1))
      else
        (m_gr h a0 9 7).bind fun q7 =>
        (q7).bind fun b9 =>
        (m_ild h b9 a1).bind fun x11 =>
        if m_ob h a0 9 = true then
          (f_X10_says h a0 x11 a2).bind fun r14 =>
          some r14
        else none
  else none
def Y_X10_asks : mY := (yX10_asks, cX10_asks, 3, some (FieldType.int), .ireturn)
theorem ok_X10_asks : m_Ok Y_X10_asks := ⟨by decide +kernel, ⟨by decide +kernel, by decide +kernel⟩, tw_4_141, tw_1_7, by decide, Or.inr (Or.inl ⟨Or.inl rfl, rfl⟩)⟩
theorem nn_X10_asks : (parseMethodDescriptor Y_X10_asks.1.desc).map (fun q => q.parameters.length) = some 2 := by decide +kernel
set_option maxHeartbeats 4000000 in
set_option maxRecDepth 20000 in
theorem j_X10_asks {X : mX} {d : Nat} {h : mH} {a0 : Nat} {a1 : Int32} {a2 : Int32} {rv : Int32} (hd : 6 ≤ d) (hr : f_X10_asks h a0 a1 a2 = some rv) : m_J X Y_X10_asks d 0 [some (.ref a0), some (.int a1), some (.int a2)] [] h (some (.int rv), h) := by
  obtain ⟨d, rfl⟩ : ∃ k, d = k + 1 := ⟨d - 1, by omega⟩
  unfold f_X10_asks at hr
  refine j_aload_n (i := 0) rfl rfl dX10_asks_0 ?_
  refine j_iload_n (i := 1) rfl rfl dX10_asks_1 ?_
  by_cases o16 : m_ob h a0 9 = true
  · rw [if_pos o16] at hr
    replace hr := m_bind hr; obtain ⟨r2, g1, hr⟩ := hr
    refine j_callV (Y' := Y_X10_isSpecimen) (a := a0) (as := [.int a1]) (ci := 9) (T := TX10) (N := 30) ok_X10_isSpecimen [some (.ref a0), some (.int a1)] rfl rfl rfl tw_4_113 tw_4_115 tw_p_18 nn_X10_isSpecimen (Nat.le_of_ble_eq_true rfl) dX10_asks_2 o16 (j_X10_isSpecimen (by omega) g1) ?_
    refine j_if_eq (tgt := 31) dX10_asks_5 rfl (fun c3 => ?_) (fun c3 => ?_)
    · rw [if_pos c3] at hr
      refine j_iconst (v := (-1)) rfl dX10_asks_31 ?_
      cases hr
      exact j_ret dX10_asks_32 m_rk_i
    · rw [if_neg c3] at hr
      refine j_iload_n (i := 2) rfl rfl dX10_asks_8 ?_
      refine j_iconst (v := 0) rfl dX10_asks_9 ?_
      refine j_iconst (v := 4) rfl dX10_asks_10 ?_
      replace hr := m_bind hr; obtain ⟨r5, g4, hr⟩ := hr
      refine j_callS (Y' := Y_X10_in) (as := [.int a2, .int 0, .int 4]) ok_X10_in [some (.int a2), some (.int 0), some (.int 4)] rfl rfl tw_4_54 tw_4_55 nn_X10_in (Nat.le_of_ble_eq_true rfl) dX10_asks_11 (j_X10_in g4) ?_
      refine j_if_eq (tgt := 31) dX10_asks_14 rfl (fun c6 => ?_) (fun c6 => ?_)
      · rw [if_pos c6] at hr
        refine j_iconst (v := (-1)) rfl dX10_asks_31 ?_
        cases hr
        exact j_ret dX10_asks_32 m_rk_i
      · rw [if_neg c6] at hr
        refine j_aload_n (i := 0) rfl rfl dX10_asks_17 ?_
        refine j_aload_n (i := 0) rfl rfl dX10_asks_18 ?_
        replace hr := m_bind hr; obtain ⟨q7, g8, hr⟩ := hr
        refine j_getf (C := RX10) (T := TX10) (N := 30) (ci := 9) (k := 7) rfl (by decide) inX10 tw_3_200 dX10_asks_19 (m_gr_spec g8) ?_
        refine j_iload_n (i := 1) rfl rfl dX10_asks_22 ?_
        replace hr := m_bind hr; obtain ⟨b9, g10, hr⟩ := hr
        subst g10
        replace hr := m_bind hr; obtain ⟨x11, g12, hr⟩ := hr
        refine j_iaload dX10_asks_23 g12 ?_
        refine j_iload_n (i := 2) rfl rfl dX10_asks_24 ?_
        by_cases o15 : m_ob h a0 9 = true
        · rw [if_pos o15] at hr
          replace hr := m_bind hr; obtain ⟨r14, g13, hr⟩ := hr
          refine j_callV (Y' := Y_X10_says) (a := a0) (as := [.int x11, .int a2]) (ci := 9) (T := TX10) (N := 30) ok_X10_says [some (.ref a0), some (.int x11), some (.int a2), none, none, none] rfl rfl rfl tw_4_142 tw_4_144 tw_p_20 nn_X10_says (Nat.le_of_ble_eq_true rfl) dX10_asks_25 o15 (j_X10_says (by omega) g13) ?_
          refine j_goto (tgt := 32) dX10_asks_28 rfl ?_
          cases hr
          exact j_ret dX10_asks_32 m_rk_i
        · rw [if_neg o15] at hr
          cases hr
  · rw [if_neg o16] at hr
    cases hr
def w_X10_nearest_42 (h : mH) (a0 : Nat) (a1 : Int32) (a2 : Int32) (r15 : Int32) : (Int32 × Int32) → Option ((Int32 × Int32) ⊕ ((Unit) ⊕ (Int32))) := fun s_16 =>
  if 49 ≤ s_16.2 then
    some (.inr (.inl ()))
  else
    (m_gr h a0 9 7).bind fun q18 =>
    (q18).bind fun b20 =>
    (m_ild h b20 a1).bind fun x22 =>
    if m_ob h a0 9 = true then
      (f_X10_isNearest h a0 x22 a2 s_16.2 r15).bind fun r25 =>
      if r25 = 0 then
        some (.inl (s_16.1, s_16.2 + 1))
      else
        if s_16.1 = 0 then
          some (.inr (.inr s_16.2))
        else
          some (.inl (s_16.1 + (-1), s_16.2 + 1))
    else none
def f_X10_nearest (h : mH) (a0 : Nat) (a1 : Int32) (a2 : Int32) (a3 : Int32) : Option (Int32) :=
  if m_ob h a0 9 = true then
    (f_X10_isSpecimen h a0 a1).bind fun r2 =>
    if r2 = 0 then
      some ((-1))
    else
      (f_X10_in a2 0 4).bind fun r5 =>
      if r5 = 0 then
        some ((-1))
      else
        if 0 ≤ a3 then
          (m_gr h a0 9 7).bind fun q8 =>
          (q8).bind fun b10 =>
          (m_ild h b10 a1).bind fun x12 =>
          if m_ob h a0 9 = true then
            (f_X10_fewest h a0 x12 a2).bind fun r15 =>
            (m_loop (w_X10_nearest_42 h a0 a1 a2 r15) 5000 ((a3, 0))).bind fun e29 => match e29 with
            | .inl x30 =>
              some ((-1))
            | .inr v32 => some v32
          else none
        else
          some ((-1))
  else none
def Y_X10_nearest : mY := (yX10_nearest, cX10_nearest, 7, some (FieldType.int), .ireturn)
theorem ok_X10_nearest : m_Ok Y_X10_nearest := ⟨by decide +kernel, ⟨by decide +kernel, by decide +kernel⟩, tw_4_161, tw_1_7, by decide, Or.inr (Or.inl ⟨Or.inl rfl, rfl⟩)⟩
theorem nn_X10_nearest : (parseMethodDescriptor Y_X10_nearest.1.desc).map (fun q => q.parameters.length) = some 3 := by decide +kernel
set_option maxHeartbeats 4000000 in
set_option maxRecDepth 20000 in
theorem j_X10_nearest {X : mX} {d : Nat} {h : mH} {a0 : Nat} {a1 : Int32} {a2 : Int32} {a3 : Int32} {rv : Int32} (hd : 5 ≤ d) (hr : f_X10_nearest h a0 a1 a2 a3 = some rv) : m_J X Y_X10_nearest d 0 [some (.ref a0), some (.int a1), some (.int a2), some (.int a3), none, none, none] [] h (some (.int rv), h) := by
  obtain ⟨d, rfl⟩ : ∃ k, d = k + 1 := ⟨d - 1, by omega⟩
  unfold f_X10_nearest at hr
  refine j_aload_n (i := 0) rfl rfl dX10_nearest_0 ?_
  refine j_iload_n (i := 1) rfl rfl dX10_nearest_1 ?_
  by_cases o35 : m_ob h a0 9 = true
  · rw [if_pos o35] at hr
    replace hr := m_bind hr; obtain ⟨r2, g1, hr⟩ := hr
    refine j_callV (Y' := Y_X10_isSpecimen) (a := a0) (as := [.int a1]) (ci := 9) (T := TX10) (N := 30) ok_X10_isSpecimen [some (.ref a0), some (.int a1)] rfl rfl rfl tw_4_113 tw_4_115 tw_p_18 nn_X10_isSpecimen (Nat.le_of_ble_eq_true rfl) dX10_nearest_2 o35 (j_X10_isSpecimen (by omega) g1) ?_
    refine j_if_eq (tgt := 21) dX10_nearest_5 rfl (fun c3 => ?_) (fun c3 => ?_)
    · rw [if_pos c3] at hr
      refine j_iconst (v := (-1)) rfl dX10_nearest_21 ?_
      cases hr
      exact j_ret dX10_nearest_22 m_rk_i
    · rw [if_neg c3] at hr
      refine j_iload_n (i := 2) rfl rfl dX10_nearest_8 ?_
      refine j_iconst (v := 0) rfl dX10_nearest_9 ?_
      refine j_iconst (v := 4) rfl dX10_nearest_10 ?_
      replace hr := m_bind hr; obtain ⟨r5, g4, hr⟩ := hr
      refine j_callS (Y' := Y_X10_in) (as := [.int a2, .int 0, .int 4]) ok_X10_in [some (.int a2), some (.int 0), some (.int 4)] rfl rfl tw_4_54 tw_4_55 nn_X10_in (Nat.le_of_ble_eq_true rfl) dX10_nearest_11 (j_X10_in g4) ?_
      refine j_if_eq (tgt := 21) dX10_nearest_14 rfl (fun c6 => ?_) (fun c6 => ?_)
      · rw [if_pos c6] at hr
        refine j_iconst (v := (-1)) rfl dX10_nearest_21 ?_
        cases hr
        exact j_ret dX10_nearest_22 m_rk_i
      · rw [if_neg c6] at hr
        refine j_iload_n (i := 3) rfl rfl dX10_nearest_17 ?_
        refine j_if_ge (tgt := 23) dX10_nearest_18 rfl (fun c7 => ?_) (fun c7 => ?_)
        · rw [if_pos c7] at hr
          refine j_aload_n (i := 0) rfl rfl dX10_nearest_23 ?_
          refine j_aload_n (i := 0) rfl rfl dX10_nearest_24 ?_
          replace hr := m_bind hr; obtain ⟨q8, g9, hr⟩ := hr
          refine j_getf (C := RX10) (T := TX10) (N := 30) (ci := 9) (k := 7) rfl (by decide) inX10 tw_3_200 dX10_nearest_25 (m_gr_spec g9) ?_
          refine j_iload_n (i := 1) rfl rfl dX10_nearest_28 ?_
          replace hr := m_bind hr; obtain ⟨b10, g11, hr⟩ := hr
          subst g11
          replace hr := m_bind hr; obtain ⟨x12, g13, hr⟩ := hr
          refine j_iaload dX10_nearest_29 g13 ?_
          refine j_iload_n (i := 2) rfl rfl dX10_nearest_30 ?_
          by_cases o34 : m_ob h a0 9 = true
          · rw [if_pos o34] at hr
            replace hr := m_bind hr; obtain ⟨r15, g14, hr⟩ := hr
            refine j_callV (Y' := Y_X10_fewest) (a := a0) (as := [.int x12, .int a2]) (ci := 9) (T := TX10) (N := 30) ok_X10_fewest [some (.ref a0), some (.int x12), some (.int a2), none, none, none] rfl rfl rfl tw_4_146 tw_4_148 tw_p_21 nn_X10_fewest (Nat.le_of_ble_eq_true rfl) dX10_nearest_31 o34 (j_X10_fewest (by omega) g14) ?_
            refine j_istore (i := 4) (L' := [some (.ref a0), some (.int a1), some (.int a2), some (.int a3), some (.int r15), none, none]) (Nat.le_of_ble_eq_true rfl) rfl rfl dX10_nearest_34 ?_
            refine j_iload_n (i := 3) rfl rfl dX10_nearest_36 ?_
            refine j_istore (i := 5) (L' := [some (.ref a0), some (.int a1), some (.int a2), some (.int a3), some (.int r15), some (.int a3), none]) (Nat.le_of_ble_eq_true rfl) rfl rfl dX10_nearest_37 ?_
            refine j_iconst (v := 0) rfl dX10_nearest_39 ?_
            refine j_istore (i := 6) (L' := [some (.ref a0), some (.int a1), some (.int a2), some (.int a3), some (.int r15), some (.int a3), some (.int 0)]) (Nat.le_of_ble_eq_true rfl) rfl rfl dX10_nearest_40 ?_
            replace hr := m_bind hr; obtain ⟨e29, q33, hr⟩ := hr
            refine j_weak (L' := [some (.ref a0), some (.int a1), some (.int a2), none, some (.int r15), some (.int a3), some (.int 0)]) (And.intro rfl (And.intro rfl (And.intro rfl (And.intro rfl (And.intro rfl (And.intro rfl trivial)))))) ?_
            refine m_loop_sound (step := w_X10_nearest_42 h a0 a1 a2 r15) (P := fun s_16 => m_J X Y_X10_nearest (d + 1) 42 [some (.ref a0), some (.int a1), some (.int a2), none, some (.int r15), some (.int s_16.1), some (.int s_16.2)] [] h (some (.int rv), h)) (Qe := fun e29 => match e29 with | .inl x30 => m_J X Y_X10_nearest (d + 1) 87 [none, none, none, none, none, none, none] [] h (some (.int rv), h) | .inr v32 => ((some (.int rv), h) : mR) = (some (.int v32), h)) ?_ _ _ _ q33 ?_
            · intro s_16 o hr hk
              unfold w_X10_nearest_42 at hr
              refine j_iload (i := 6) rfl dX10_nearest_42 ?_
              refine j_bipush (v := 49) rfl dX10_nearest_44 ?_
              refine j_ic_ge (tgt := 87) dX10_nearest_46 rfl (fun c17 => ?_) (fun c17 => ?_)
              · rw [if_pos c17] at hr
                cases hr
                exact j_weak (L' := [none, none, none, none, none, none, none]) trivial hk
              · rw [if_neg c17] at hr
                refine j_aload_n (i := 0) rfl rfl dX10_nearest_49 ?_
                refine j_aload_n (i := 0) rfl rfl dX10_nearest_50 ?_
                replace hr := m_bind hr; obtain ⟨q18, g19, hr⟩ := hr
                refine j_getf (C := RX10) (T := TX10) (N := 30) (ci := 9) (k := 7) rfl (by decide) inX10 tw_3_200 dX10_nearest_51 (m_gr_spec g19) ?_
                refine j_iload_n (i := 1) rfl rfl dX10_nearest_54 ?_
                replace hr := m_bind hr; obtain ⟨b20, g21, hr⟩ := hr
                subst g21
                replace hr := m_bind hr; obtain ⟨x22, g23, hr⟩ := hr
                refine j_iaload dX10_nearest_55 g23 ?_
                refine j_iload_n (i := 2) rfl rfl dX10_nearest_56 ?_
                refine j_iload (i := 6) rfl dX10_nearest_57 ?_
                refine j_iload (i := 4) rfl dX10_nearest_59 ?_
                by_cases o28 : m_ob h a0 9 = true
                · rw [if_pos o28] at hr
                  replace hr := m_bind hr; obtain ⟨r25, g24, hr⟩ := hr
                  refine j_callV (Y' := Y_X10_isNearest) (a := a0) (as := [.int x22, .int a2, .int s_16.2, .int r15]) (ci := 9) (T := TX10) (N := 30) ok_X10_isNearest [some (.ref a0), some (.int x22), some (.int a2), some (.int s_16.2), some (.int r15), none] rfl rfl rfl tw_4_150 tw_4_152 tw_p_22 nn_X10_isNearest (Nat.le_of_ble_eq_true rfl) dX10_nearest_61 o28 (j_X10_isNearest (by omega) g24) ?_
                  refine j_if_ne (tgt := 70) dX10_nearest_64 rfl (fun c26 => ?_) (fun c26 => ?_)
                  · rw [if_neg c26] at hr
                    refine j_iload (i := 5) rfl dX10_nearest_70 ?_
                    refine j_if_ne (tgt := 78) dX10_nearest_72 rfl (fun c27 => ?_) (fun c27 => ?_)
                    · rw [if_neg c27] at hr
                      refine j_iinc (i := 5) (v := s_16.1 + (-1)) (L' := [some (.ref a0), some (.int a1), some (.int a2), none, some (.int r15), some (.int (s_16.1 + (-1))), some (.int s_16.2)]) rfl (m_om1 _) (Nat.le_of_ble_eq_true rfl) rfl rfl dX10_nearest_78 ?_
                      refine j_iinc (i := 6) (v := s_16.2 + 1) (L' := [some (.ref a0), some (.int a1), some (.int a2), none, some (.int r15), some (.int (s_16.1 + (-1))), some (.int (s_16.2 + 1))]) rfl (m_o1 _) (Nat.le_of_ble_eq_true rfl) rfl rfl dX10_nearest_81 ?_
                      refine j_goto (tgt := 42) dX10_nearest_84 rfl ?_
                      cases hr
                      exact j_weak (L' := [some (.ref a0), some (.int a1), some (.int a2), none, some (.int r15), some (.int (s_16.1 + (-1))), some (.int (s_16.2 + 1))]) (And.intro rfl (And.intro rfl (And.intro rfl (And.intro rfl (And.intro rfl (And.intro rfl trivial)))))) hk
                    · rw [if_pos c27] at hr
                      refine j_iload (i := 6) rfl dX10_nearest_75 ?_
                      cases hr
                      rw [show _ = _ from hk]
                      exact j_ret dX10_nearest_77 m_rk_i
                  · rw [if_pos c26] at hr
                    refine j_goto (tgt := 81) dX10_nearest_67 rfl ?_
                    refine j_iinc (i := 6) (v := s_16.2 + 1) (L' := [some (.ref a0), some (.int a1), some (.int a2), none, some (.int r15), some (.int s_16.1), some (.int (s_16.2 + 1))]) rfl (m_o1 _) (Nat.le_of_ble_eq_true rfl) rfl rfl dX10_nearest_81 ?_
                    refine j_goto (tgt := 42) dX10_nearest_84 rfl ?_
                    cases hr
                    exact j_weak (L' := [some (.ref a0), some (.int a1), some (.int a2), none, some (.int r15), some (.int s_16.1), some (.int (s_16.2 + 1))]) (And.intro rfl (And.intro rfl (And.intro rfl (And.intro rfl (And.intro rfl (And.intro rfl trivial)))))) hk
                · rw [if_neg o28] at hr
                  cases hr
            · cases e29 with
              | inl x30 =>
                dsimp only at hr
                dsimp only
                refine j_iconst (v := (-1)) rfl dX10_nearest_87 ?_
                cases hr
                exact j_ret dX10_nearest_88 m_rk_i
              | inr v32 =>
                dsimp only at hr
                cases hr
                rfl
          · rw [if_neg o34] at hr
            cases hr
        · rw [if_neg c7] at hr
          refine j_iconst (v := (-1)) rfl dX10_nearest_21 ?_
          cases hr
          exact j_ret dX10_nearest_22 m_rk_i
  · rw [if_neg o35] at hr
    cases hr
def f_X10_mayLend (h : mH) (a0 : Nat) (a1 : Int32) : Option (Int32) :=
  (m_gr h a0 9 13).bind fun q1 =>
  (q1).bind fun b3 =>
  (m_ild h b3 a1).bind fun x5 =>
  if x5 = ((-1)) then
    (m_gr h a0 9 7).bind fun q8 =>
    (q8).bind fun b10 =>
    (m_ild h b10 a1).bind fun x12 =>
    if m_ob h a0 9 = true then
      (f_X10_says h a0 x12 2).bind fun r15 =>
      if r15 ≤ 0 then
        some 0
      else
        (m_gr h a0 9 7).bind fun q17 =>
        (q17).bind fun b19 =>
        (m_ild h b19 a1).bind fun x21 =>
        if m_ob h a0 9 = true then
          (f_X10_says h a0 x21 3).bind fun r24 =>
          if r24 = ((-2)) then
            some 0
          else
            some 1
        else none
    else none
  else
    some 0
def Y_X10_mayLend : mY := (yX10_mayLend, cX10_mayLend, 2, some (FieldType.boolean), .ireturn)
theorem ok_X10_mayLend : m_Ok Y_X10_mayLend := ⟨by decide +kernel, ⟨by decide +kernel, by decide +kernel⟩, tw_4_169, tw_1_7, by decide, Or.inr (Or.inl ⟨Or.inr rfl, rfl⟩)⟩
theorem nn_X10_mayLend : (parseMethodDescriptor Y_X10_mayLend.1.desc).map (fun q => q.parameters.length) = some 1 := by decide +kernel
set_option maxHeartbeats 4000000 in
set_option maxRecDepth 20000 in
theorem j_X10_mayLend {X : mX} {d : Nat} {h : mH} {a0 : Nat} {a1 : Int32} {rv : Int32} (hd : 6 ≤ d) (hr : f_X10_mayLend h a0 a1 = some rv) : m_J X Y_X10_mayLend d 0 [some (.ref a0), some (.int a1)] [] h (some (.int rv), h) := by
  obtain ⟨d, rfl⟩ : ∃ k, d = k + 1 := ⟨d - 1, by omega⟩
  unfold f_X10_mayLend at hr
  refine j_aload_n (i := 0) rfl rfl dX10_mayLend_0 ?_
  replace hr := m_bind hr; obtain ⟨q1, g2, hr⟩ := hr
  refine j_getf (C := RX10) (T := TX10) (N := 30) (ci := 9) (k := 13) rfl (by decide) inX10 tw_3_206 dX10_mayLend_1 (m_gr_spec g2) ?_
  refine j_iload_n (i := 1) rfl rfl dX10_mayLend_4 ?_
  replace hr := m_bind hr; obtain ⟨b3, g4, hr⟩ := hr
  subst g4
  replace hr := m_bind hr; obtain ⟨x5, g6, hr⟩ := hr
  refine j_iaload dX10_mayLend_5 g6 ?_
  refine j_iconst (v := (-1)) rfl dX10_mayLend_6 ?_
  refine j_ic_ne (tgt := 44) dX10_mayLend_7 rfl (fun c7 => ?_) (fun c7 => ?_)
  · rw [if_neg c7] at hr
    refine j_iconst (v := 0) rfl dX10_mayLend_44 ?_
    cases hr
    exact j_ret dX10_mayLend_45 m_rk_z0
  · rw [if_pos c7] at hr
    refine j_aload_n (i := 0) rfl rfl dX10_mayLend_10 ?_
    refine j_aload_n (i := 0) rfl rfl dX10_mayLend_11 ?_
    replace hr := m_bind hr; obtain ⟨q8, g9, hr⟩ := hr
    refine j_getf (C := RX10) (T := TX10) (N := 30) (ci := 9) (k := 7) rfl (by decide) inX10 tw_3_200 dX10_mayLend_12 (m_gr_spec g9) ?_
    refine j_iload_n (i := 1) rfl rfl dX10_mayLend_15 ?_
    replace hr := m_bind hr; obtain ⟨b10, g11, hr⟩ := hr
    subst g11
    replace hr := m_bind hr; obtain ⟨x12, g13, hr⟩ := hr
    refine j_iaload dX10_mayLend_16 g13 ?_
    refine j_iconst (v := 2) rfl dX10_mayLend_17 ?_
    by_cases o27 : m_ob h a0 9 = true
    · rw [if_pos o27] at hr
      replace hr := m_bind hr; obtain ⟨r15, g14, hr⟩ := hr
      refine j_callV (Y' := Y_X10_says) (a := a0) (as := [.int x12, .int 2]) (ci := 9) (T := TX10) (N := 30) ok_X10_says [some (.ref a0), some (.int x12), some (.int 2), none, none, none] rfl rfl rfl tw_4_142 tw_4_144 tw_p_20 nn_X10_says (Nat.le_of_ble_eq_true rfl) dX10_mayLend_18 o27 (j_X10_says (by omega) g14) ?_
      refine j_if_le (tgt := 44) dX10_mayLend_21 rfl (fun c16 => ?_) (fun c16 => ?_)
      · rw [if_pos c16] at hr
        refine j_iconst (v := 0) rfl dX10_mayLend_44 ?_
        cases hr
        exact j_ret dX10_mayLend_45 m_rk_z0
      · rw [if_neg c16] at hr
        refine j_aload_n (i := 0) rfl rfl dX10_mayLend_24 ?_
        refine j_aload_n (i := 0) rfl rfl dX10_mayLend_25 ?_
        replace hr := m_bind hr; obtain ⟨q17, g18, hr⟩ := hr
        refine j_getf (C := RX10) (T := TX10) (N := 30) (ci := 9) (k := 7) rfl (by decide) inX10 tw_3_200 dX10_mayLend_26 (m_gr_spec g18) ?_
        refine j_iload_n (i := 1) rfl rfl dX10_mayLend_29 ?_
        replace hr := m_bind hr; obtain ⟨b19, g20, hr⟩ := hr
        subst g20
        replace hr := m_bind hr; obtain ⟨x21, g22, hr⟩ := hr
        refine j_iaload dX10_mayLend_30 g22 ?_
        refine j_iconst (v := 3) rfl dX10_mayLend_31 ?_
        by_cases o26 : m_ob h a0 9 = true
        · rw [if_pos o26] at hr
          replace hr := m_bind hr; obtain ⟨r24, g23, hr⟩ := hr
          refine j_callV (Y' := Y_X10_says) (a := a0) (as := [.int x21, .int 3]) (ci := 9) (T := TX10) (N := 30) ok_X10_says [some (.ref a0), some (.int x21), some (.int 3), none, none, none] rfl rfl rfl tw_4_142 tw_4_144 tw_p_20 nn_X10_says (Nat.le_of_ble_eq_true rfl) dX10_mayLend_32 o26 (j_X10_says (by omega) g23) ?_
          refine j_bipush (v := (-2)) rfl dX10_mayLend_35 ?_
          refine j_ic_eq (tgt := 44) dX10_mayLend_37 rfl (fun c25 => ?_) (fun c25 => ?_)
          · rw [if_pos c25] at hr
            refine j_iconst (v := 0) rfl dX10_mayLend_44 ?_
            cases hr
            exact j_ret dX10_mayLend_45 m_rk_z0
          · rw [if_neg c25] at hr
            refine j_iconst (v := 1) rfl dX10_mayLend_40 ?_
            refine j_goto (tgt := 45) dX10_mayLend_41 rfl ?_
            cases hr
            exact j_ret dX10_mayLend_45 m_rk_z1
        · rw [if_neg o26] at hr
          cases hr
    · rw [if_neg o27] at hr
      cases hr
def w_X10_held_4 (h : mH) (a0 : Nat) (a1 : Int32) : (Int32 × Int32) → Option ((Int32 × Int32) ⊕ (Int32)) := fun s_1 =>
  (m_gi h a0 9 6).bind fun x2 =>
  if x2 ≤ s_1.2 then
    some (.inr s_1.1)
  else
    (m_gr h a0 9 13).bind fun q5 =>
    (q5).bind fun b7 =>
    (m_ild h b7 s_1.2).bind fun x9 =>
    if x9 = a1 then
      some (.inl (s_1.1 + 1, s_1.2 + 1))
    else
      some (.inl (s_1.1 + 0, s_1.2 + 1))
def f_X10_held (h : mH) (a0 : Nat) (a1 : Int32) : Option (Int32) :=
  (m_loop (w_X10_held_4 h a0 a1) 5000 ((0, 0))).bind fun e12 =>
  some e12
def Y_X10_held : mY := (yX10_held, cX10_held, 4, some (FieldType.int), .ireturn)
theorem ok_X10_held : m_Ok Y_X10_held := ⟨by decide +kernel, ⟨by decide +kernel, by decide +kernel⟩, tw_4_173, tw_1_7, by decide, Or.inr (Or.inl ⟨Or.inl rfl, rfl⟩)⟩
theorem nn_X10_held : (parseMethodDescriptor Y_X10_held.1.desc).map (fun q => q.parameters.length) = some 1 := by decide +kernel
set_option maxHeartbeats 4000000 in
set_option maxRecDepth 20000 in
theorem j_X10_held {X : mX} {d : Nat} {h : mH} {a0 : Nat} {a1 : Int32} {rv : Int32} (hr : f_X10_held h a0 a1 = some rv) : m_J X Y_X10_held d 0 [some (.ref a0), some (.int a1), none, none] [] h (some (.int rv), h) := by
  unfold f_X10_held at hr
  refine j_iconst (v := 0) rfl dX10_held_0 ?_
  refine j_istore_n (i := 2) (L' := [some (.ref a0), some (.int a1), some (.int 0), none]) rfl (Nat.le_of_ble_eq_true rfl) rfl rfl dX10_held_1 ?_
  refine j_iconst (v := 0) rfl dX10_held_2 ?_
  refine j_istore_n (i := 3) (L' := [some (.ref a0), some (.int a1), some (.int 0), some (.int 0)]) rfl (Nat.le_of_ble_eq_true rfl) rfl rfl dX10_held_3 ?_
  replace hr := m_bind hr; obtain ⟨e12, q15, hr⟩ := hr
  refine j_weak (L' := [some (.ref a0), some (.int a1), some (.int 0), some (.int 0)]) (And.intro rfl (And.intro rfl (And.intro rfl (And.intro rfl trivial)))) ?_
  refine m_loop_sound (step := w_X10_held_4 h a0 a1) (P := fun s_1 => m_J X Y_X10_held d 4 [some (.ref a0), some (.int a1), some (.int s_1.1), some (.int s_1.2)] [] h (some (.int rv), h)) (Qe := fun e12 => m_J X Y_X10_held d 36 [none, none, some (.int e12), none] [] h (some (.int rv), h)) ?_ _ _ _ q15 ?_
  · intro s_1 o hr hk
    unfold w_X10_held_4 at hr
    refine j_iload_n (i := 3) rfl rfl dX10_held_4 ?_
    refine j_aload_n (i := 0) rfl rfl dX10_held_5 ?_
    replace hr := m_bind hr; obtain ⟨x2, g3, hr⟩ := hr
    refine j_getf (C := RX10) (T := TX10) (N := 30) (ci := 9) (k := 6) rfl (by decide) inX10 tw_3_199 dX10_held_6 (m_gi_spec g3) ?_
    refine j_ic_ge (tgt := 36) dX10_held_9 rfl (fun c4 => ?_) (fun c4 => ?_)
    · rw [if_pos c4] at hr
      cases hr
      exact j_weak (L' := [none, none, some (.int s_1.1), none]) (And.intro rfl trivial) hk
    · rw [if_neg c4] at hr
      refine j_iload_n (i := 2) rfl rfl dX10_held_12 ?_
      refine j_aload_n (i := 0) rfl rfl dX10_held_13 ?_
      replace hr := m_bind hr; obtain ⟨q5, g6, hr⟩ := hr
      refine j_getf (C := RX10) (T := TX10) (N := 30) (ci := 9) (k := 13) rfl (by decide) inX10 tw_3_206 dX10_held_14 (m_gr_spec g6) ?_
      refine j_iload_n (i := 3) rfl rfl dX10_held_17 ?_
      replace hr := m_bind hr; obtain ⟨b7, g8, hr⟩ := hr
      subst g8
      replace hr := m_bind hr; obtain ⟨x9, g10, hr⟩ := hr
      refine j_iaload dX10_held_18 g10 ?_
      refine j_iload_n (i := 1) rfl rfl dX10_held_19 ?_
      refine j_ic_ne (tgt := 27) dX10_held_20 rfl (fun c11 => ?_) (fun c11 => ?_)
      · rw [if_neg c11] at hr
        refine j_iconst (v := 0) rfl dX10_held_27 ?_
        refine j_iadd dX10_held_28 ?_
        refine j_istore_n (i := 2) (L' := [some (.ref a0), some (.int a1), some (.int (s_1.1 + 0)), some (.int s_1.2)]) rfl (Nat.le_of_ble_eq_true rfl) rfl rfl dX10_held_29 ?_
        refine j_iinc (i := 3) (v := s_1.2 + 1) (L' := [some (.ref a0), some (.int a1), some (.int (s_1.1 + 0)), some (.int (s_1.2 + 1))]) rfl (m_o1 _) (Nat.le_of_ble_eq_true rfl) rfl rfl dX10_held_30 ?_
        refine j_goto (tgt := 4) dX10_held_33 rfl ?_
        cases hr
        exact j_weak (L' := [some (.ref a0), some (.int a1), some (.int (s_1.1 + 0)), some (.int (s_1.2 + 1))]) (And.intro rfl (And.intro rfl (And.intro rfl (And.intro rfl trivial)))) hk
      · rw [if_pos c11] at hr
        refine j_iconst (v := 1) rfl dX10_held_23 ?_
        refine j_goto (tgt := 28) dX10_held_24 rfl ?_
        refine j_iadd dX10_held_28 ?_
        refine j_istore_n (i := 2) (L' := [some (.ref a0), some (.int a1), some (.int (s_1.1 + 1)), some (.int s_1.2)]) rfl (Nat.le_of_ble_eq_true rfl) rfl rfl dX10_held_29 ?_
        refine j_iinc (i := 3) (v := s_1.2 + 1) (L' := [some (.ref a0), some (.int a1), some (.int (s_1.1 + 1)), some (.int (s_1.2 + 1))]) rfl (m_o1 _) (Nat.le_of_ble_eq_true rfl) rfl rfl dX10_held_30 ?_
        refine j_goto (tgt := 4) dX10_held_33 rfl ?_
        cases hr
        exact j_weak (L' := [some (.ref a0), some (.int a1), some (.int (s_1.1 + 1)), some (.int (s_1.2 + 1))]) (And.intro rfl (And.intro rfl (And.intro rfl (And.intro rfl trivial)))) hk
  · skip
    refine j_iload_n (i := 2) rfl rfl dX10_held_36 ?_
    cases hr
    exact j_ret dX10_held_37 m_rk_i
def f_X10_lends (h : mH) (a0 : Nat) (a1 : Int32) (a2 : Int32) (a3 : Int32) : Option (mH) :=
  (m_gr h a0 9 7).bind fun q1 =>
  (q1).bind fun b3 =>
  (m_ild h b3 a1).bind fun x5 =>
  if m_ob h a0 9 = true then
    (f_X10_says h a0 x5 3).bind fun r8 =>
    (m_gr h a0 9 13).bind fun q9 =>
    (q9).bind fun b11 =>
    (m_ist h b11 a1 a2).bind fun h13 =>
    (m_gr h13 a0 9 14).bind fun q15 =>
    (q15).bind fun b17 =>
    (m_ist h13 b17 a1 a3).bind fun h19 =>
    (m_gr h19 a0 9 15).bind fun q21 =>
    (m_gr h19 a0 9 7).bind fun q23 =>
    (q23).bind fun b25 =>
    (m_ild h19 b25 a1).bind fun x27 =>
    if m_ob h19 a0 9 = true then
      (f_X10_says h19 a0 x27 2).bind fun r30 =>
      (q21).bind fun b31 =>
      (m_ist h19 b31 a1 r30).bind fun h33 =>
      (m_gr h33 a0 9 16).bind fun q35 =>
      if r8 = ((-1)) then
        (q35).bind fun b46 =>
        (m_ist h33 b46 a1 0).bind fun h48 =>
        (m_gi h48 a0 9 23).bind fun x50 =>
        (m_pf h48 a0 9 23 (.int (x50 + 1))).bind fun h52 =>
        some h52
      else
        (q35).bind fun b38 =>
        (m_ist h33 b38 a1 r8).bind fun h40 =>
        (m_gi h40 a0 9 23).bind fun x42 =>
        (m_pf h40 a0 9 23 (.int (x42 + 1))).bind fun h44 =>
        some h44
    else none
  else none
def Y_X10_lends : mY := (yX10_lends, cX10_lends, 5, none, .return_)
theorem ok_X10_lends : m_Ok Y_X10_lends := ⟨by decide +kernel, ⟨by decide +kernel, by decide +kernel⟩, tw_4_177, tw_1_7, by decide, Or.inl ⟨rfl, rfl⟩⟩
theorem nn_X10_lends : (parseMethodDescriptor Y_X10_lends.1.desc).map (fun q => q.parameters.length) = some 3 := by decide +kernel
set_option maxHeartbeats 4000000 in
set_option maxRecDepth 20000 in
theorem j_X10_lends {X : mX} {d : Nat} {h : mH} {a0 : Nat} {a1 : Int32} {a2 : Int32} {a3 : Int32} {h' : mH} (hd : 6 ≤ d) (hr : f_X10_lends h a0 a1 a2 a3 = some h') : m_J X Y_X10_lends d 0 [some (.ref a0), some (.int a1), some (.int a2), some (.int a3), none] [] h (none, h') := by
  obtain ⟨d, rfl⟩ : ∃ k, d = k + 1 := ⟨d - 1, by omega⟩
  unfold f_X10_lends at hr
  refine j_aload_n (i := 0) rfl rfl dX10_lends_0 ?_
  refine j_aload_n (i := 0) rfl rfl dX10_lends_1 ?_
  replace hr := m_bind hr; obtain ⟨q1, g2, hr⟩ := hr
  refine j_getf (C := RX10) (T := TX10) (N := 30) (ci := 9) (k := 7) rfl (by decide) inX10 tw_3_200 dX10_lends_2 (m_gr_spec g2) ?_
  refine j_iload_n (i := 1) rfl rfl dX10_lends_5 ?_
  replace hr := m_bind hr; obtain ⟨b3, g4, hr⟩ := hr
  subst g4
  replace hr := m_bind hr; obtain ⟨x5, g6, hr⟩ := hr
  refine j_iaload dX10_lends_6 g6 ?_
  refine j_iconst (v := 3) rfl dX10_lends_7 ?_
  by_cases o55 : m_ob h a0 9 = true
  · rw [if_pos o55] at hr
    replace hr := m_bind hr; obtain ⟨r8, g7, hr⟩ := hr
    refine j_callV (Y' := Y_X10_says) (a := a0) (as := [.int x5, .int 3]) (ci := 9) (T := TX10) (N := 30) ok_X10_says [some (.ref a0), some (.int x5), some (.int 3), none, none, none] rfl rfl rfl tw_4_142 tw_4_144 tw_p_20 nn_X10_says (Nat.le_of_ble_eq_true rfl) dX10_lends_8 o55 (j_X10_says (by omega) g7) ?_
    refine j_istore (i := 4) (L' := [some (.ref a0), some (.int a1), some (.int a2), some (.int a3), some (.int r8)]) (Nat.le_of_ble_eq_true rfl) rfl rfl dX10_lends_11 ?_
    refine j_aload_n (i := 0) rfl rfl dX10_lends_13 ?_
    replace hr := m_bind hr; obtain ⟨q9, g10, hr⟩ := hr
    refine j_getf (C := RX10) (T := TX10) (N := 30) (ci := 9) (k := 13) rfl (by decide) inX10 tw_3_206 dX10_lends_14 (m_gr_spec g10) ?_
    refine j_iload_n (i := 1) rfl rfl dX10_lends_17 ?_
    refine j_iload_n (i := 2) rfl rfl dX10_lends_18 ?_
    replace hr := m_bind hr; obtain ⟨b11, g12, hr⟩ := hr
    subst g12
    replace hr := m_bind hr; obtain ⟨h13, g14, hr⟩ := hr
    refine j_iastore dX10_lends_19 g14 ?_
    refine j_aload_n (i := 0) rfl rfl dX10_lends_20 ?_
    replace hr := m_bind hr; obtain ⟨q15, g16, hr⟩ := hr
    refine j_getf (C := RX10) (T := TX10) (N := 30) (ci := 9) (k := 14) rfl (by decide) inX10 tw_3_207 dX10_lends_21 (m_gr_spec g16) ?_
    refine j_iload_n (i := 1) rfl rfl dX10_lends_24 ?_
    refine j_iload_n (i := 3) rfl rfl dX10_lends_25 ?_
    replace hr := m_bind hr; obtain ⟨b17, g18, hr⟩ := hr
    subst g18
    replace hr := m_bind hr; obtain ⟨h19, g20, hr⟩ := hr
    refine j_iastore dX10_lends_26 g20 ?_
    refine j_aload_n (i := 0) rfl rfl dX10_lends_27 ?_
    replace hr := m_bind hr; obtain ⟨q21, g22, hr⟩ := hr
    refine j_getf (C := RX10) (T := TX10) (N := 30) (ci := 9) (k := 15) rfl (by decide) inX10 tw_3_208 dX10_lends_28 (m_gr_spec g22) ?_
    refine j_iload_n (i := 1) rfl rfl dX10_lends_31 ?_
    refine j_aload_n (i := 0) rfl rfl dX10_lends_32 ?_
    refine j_aload_n (i := 0) rfl rfl dX10_lends_33 ?_
    replace hr := m_bind hr; obtain ⟨q23, g24, hr⟩ := hr
    refine j_getf (C := RX10) (T := TX10) (N := 30) (ci := 9) (k := 7) rfl (by decide) inX10 tw_3_200 dX10_lends_34 (m_gr_spec g24) ?_
    refine j_iload_n (i := 1) rfl rfl dX10_lends_37 ?_
    replace hr := m_bind hr; obtain ⟨b25, g26, hr⟩ := hr
    subst g26
    replace hr := m_bind hr; obtain ⟨x27, g28, hr⟩ := hr
    refine j_iaload dX10_lends_38 g28 ?_
    refine j_iconst (v := 2) rfl dX10_lends_39 ?_
    by_cases o54 : m_ob h19 a0 9 = true
    · rw [if_pos o54] at hr
      replace hr := m_bind hr; obtain ⟨r30, g29, hr⟩ := hr
      refine j_callV (Y' := Y_X10_says) (a := a0) (as := [.int x27, .int 2]) (ci := 9) (T := TX10) (N := 30) ok_X10_says [some (.ref a0), some (.int x27), some (.int 2), none, none, none] rfl rfl rfl tw_4_142 tw_4_144 tw_p_20 nn_X10_says (by cases q21 <;> exact Nat.le_of_ble_eq_true rfl) dX10_lends_40 o54 (j_X10_says (by omega) g29) ?_
      replace hr := m_bind hr; obtain ⟨b31, g32, hr⟩ := hr
      subst g32
      replace hr := m_bind hr; obtain ⟨h33, g34, hr⟩ := hr
      refine j_iastore dX10_lends_43 g34 ?_
      refine j_aload_n (i := 0) rfl rfl dX10_lends_44 ?_
      replace hr := m_bind hr; obtain ⟨q35, g36, hr⟩ := hr
      refine j_getf (C := RX10) (T := TX10) (N := 30) (ci := 9) (k := 16) rfl (by decide) inX10 tw_3_209 dX10_lends_45 (m_gr_spec g36) ?_
      refine j_iload_n (i := 1) rfl rfl dX10_lends_48 ?_
      refine j_iload (i := 4) rfl dX10_lends_49 ?_
      refine j_iconst (v := (-1)) rfl dX10_lends_51 ?_
      refine j_ic_ne (tgt := 59) dX10_lends_52 rfl (fun c37 => ?_) (fun c37 => ?_)
      · rw [if_neg c37] at hr
        refine j_iload (i := 4) rfl dX10_lends_59 ?_
        replace hr := m_bind hr; obtain ⟨b38, g39, hr⟩ := hr
        subst g39
        replace hr := m_bind hr; obtain ⟨h40, g41, hr⟩ := hr
        refine j_iastore dX10_lends_61 g41 ?_
        refine j_aload_n (i := 0) rfl rfl dX10_lends_62 ?_
        refine j_dup rfl dX10_lends_63 ?_
        replace hr := m_bind hr; obtain ⟨x42, g43, hr⟩ := hr
        refine j_getf (C := RX10) (T := TX10) (N := 30) (ci := 9) (k := 23) rfl (by decide) inX10 tw_3_216 dX10_lends_64 (m_gi_spec g43) ?_
        refine j_iconst (v := 1) rfl dX10_lends_67 ?_
        refine j_iadd dX10_lends_68 ?_
        replace hr := m_bind hr; obtain ⟨h44, g45, hr⟩ := hr
        refine j_puti (C := RX10) (T := TX10) (ty := tyX10) (N := 30) (ci := 9) (k := 23) rfl (by decide) inX10 tyX10_ok nmX10 tw_3_216 rfl rfl dX10_lends_69 g45 ?_
        cases hr
        exact j_ret dX10_lends_72 m_rk_v
      · rw [if_pos c37] at hr
        refine j_iconst (v := 0) rfl dX10_lends_55 ?_
        refine j_goto (tgt := 61) dX10_lends_56 rfl ?_
        replace hr := m_bind hr; obtain ⟨b46, g47, hr⟩ := hr
        subst g47
        replace hr := m_bind hr; obtain ⟨h48, g49, hr⟩ := hr
        refine j_iastore dX10_lends_61 g49 ?_
        refine j_aload_n (i := 0) rfl rfl dX10_lends_62 ?_
        refine j_dup rfl dX10_lends_63 ?_
        replace hr := m_bind hr; obtain ⟨x50, g51, hr⟩ := hr
        refine j_getf (C := RX10) (T := TX10) (N := 30) (ci := 9) (k := 23) rfl (by decide) inX10 tw_3_216 dX10_lends_64 (m_gi_spec g51) ?_
        refine j_iconst (v := 1) rfl dX10_lends_67 ?_
        refine j_iadd dX10_lends_68 ?_
        replace hr := m_bind hr; obtain ⟨h52, g53, hr⟩ := hr
        refine j_puti (C := RX10) (T := TX10) (ty := tyX10) (N := 30) (ci := 9) (k := 23) rfl (by decide) inX10 tyX10_ok nmX10 tw_3_216 rfl rfl dX10_lends_69 g53 ?_
        cases hr
        exact j_ret dX10_lends_72 m_rk_v
    · rw [if_neg o54] at hr
      cases hr
  · rw [if_neg o55] at hr
    cases hr
def w_X10_lend_96 (h : mH) (a0 : Nat) (a1 : Int32) : (Int32 × Int32) → Option ((Int32 × Int32) ⊕ ((Int32) ⊕ (Int32 × mH))) := fun s_16 =>
  (m_gi h a0 9 6).bind fun x17 =>
  if x17 ≤ s_16.2 then
    some (.inr (.inl s_16.1))
  else
    (m_gr h a0 9 10).bind fun q20 =>
    (q20).bind fun b22 =>
    (m_ild h b22 s_16.2).bind fun x24 =>
    if x24 = (a1 - 1000) then
      if m_ob h a0 9 = true then
        (f_X10_mayLend h a0 s_16.2).bind fun r28 =>
        if r28 = 0 then
          some (.inr (.inr (((-1), h))))
        else
          some (.inl (s_16.1 + 1, s_16.2 + 1))
      else none
    else
      some (.inl (s_16.1, s_16.2 + 1))
def w_X10_lend_163 (a0 : Nat) (a1 : Int32) (a2 : Int32) (a3 : Int32) : (Int32 × mH) → Option ((Int32 × mH) ⊕ (mH)) := fun s_37 =>
  (m_gi s_37.2 a0 9 6).bind fun x38 =>
  if x38 ≤ s_37.1 then
    some (.inr s_37.2)
  else
    (m_gr s_37.2 a0 9 10).bind fun q41 =>
    (q41).bind fun b43 =>
    (m_ild s_37.2 b43 s_37.1).bind fun x45 =>
    if x45 = (a1 - 1000) then
      if m_ob s_37.2 a0 9 = true then
        (f_X10_lends s_37.2 a0 s_37.1 a2 a3).bind fun h49 =>
        some (.inl (s_37.1 + 1, h49))
      else none
    else
      some (.inl (s_37.1 + 1, s_37.2))
def f_X10_lend (h : mH) (a0 : Nat) (a1 : Int32) (a2 : Int32) (a3 : Int32) : Option (Int32 × mH) :=
  (f_X10_in a2 0 19).bind fun r2 =>
  if r2 = 0 then
    some (((-1), h))
  else
    (f_X10_in a3 0 100000).bind fun r5 =>
    if r5 = 0 then
      some (((-1), h))
    else
      if m_ob h a0 9 = true then
        (f_X10_isSpecimen h a0 a1).bind fun r8 =>
        if r8 = 0 then
          if a1 < 1000 then
            some (((-1), h))
          else
            (m_gi h a0 9 17).bind fun x11 =>
            (f_X10_in (a1 - 1000) 0 (x11 - 1)).bind fun r14 =>
            if r14 = 0 then
              some (((-1), h))
            else
              (m_loop (w_X10_lend_96 h a0 a1) 5000 ((0, 0))).bind fun e31 => match e31 with
              | .inl x32 =>
                if x32 = 0 then
                  some (((-1), h))
                else
                  if m_ob h a0 9 = true then
                    (f_X10_held h a0 a2).bind fun r35 =>
                    if (r35 + x32) ≤ 12 then
                      (m_loop (w_X10_lend_163 a0 a1 a2 a3) 5000 ((0, h))).bind fun e51 =>
                      some ((x32, e51))
                    else
                      some (((-1), h))
                  else none
              | .inr v57 => some v57
        else
          if m_ob h a0 9 = true then
            (f_X10_mayLend h a0 a1).bind fun r60 =>
            if r60 = 0 then
              some (((-1), h))
            else
              if m_ob h a0 9 = true then
                (f_X10_held h a0 a2).bind fun r63 =>
                if r63 = 12 then
                  some (((-1), h))
                else
                  if m_ob h a0 9 = true then
                    (f_X10_lends h a0 a1 a2 a3).bind fun h66 =>
                    some ((1, h66))
                  else none
              else none
          else none
      else none
def Y_X10_lend : mY := (yX10_lend, cX10_lend, 7, some (FieldType.int), .ireturn)
theorem ok_X10_lend : m_Ok Y_X10_lend := ⟨by decide +kernel, ⟨by decide +kernel, by decide +kernel⟩, tw_4_165, tw_1_7, by decide, Or.inr (Or.inl ⟨Or.inl rfl, rfl⟩)⟩
theorem nn_X10_lend : (parseMethodDescriptor Y_X10_lend.1.desc).map (fun q => q.parameters.length) = some 3 := by decide +kernel
set_option maxHeartbeats 4000000 in
set_option maxRecDepth 20000 in
theorem j_X10_lend {X : mX} {d : Nat} {h : mH} {a0 : Nat} {a1 : Int32} {a2 : Int32} {a3 : Int32} {rv : Int32} {h' : mH} (hd : 7 ≤ d) (hr : f_X10_lend h a0 a1 a2 a3 = some (rv, h')) : m_J X Y_X10_lend d 0 [some (.ref a0), some (.int a1), some (.int a2), some (.int a3), none, none, none] [] h (some (.int rv), h') := by
  obtain ⟨d, rfl⟩ : ∃ k, d = k + 1 := ⟨d - 1, by omega⟩
  unfold f_X10_lend at hr
  refine j_iload_n (i := 2) rfl rfl dX10_lend_0 ?_
  refine j_iconst (v := 0) rfl dX10_lend_1 ?_
  refine j_bipush (v := 19) rfl dX10_lend_2 ?_
  replace hr := m_bind hr; obtain ⟨r2, g1, hr⟩ := hr
  refine j_callS (Y' := Y_X10_in) (as := [.int a2, .int 0, .int 19]) ok_X10_in [some (.int a2), some (.int 0), some (.int 19)] rfl rfl tw_4_54 tw_4_55 nn_X10_in (Nat.le_of_ble_eq_true rfl) dX10_lend_4 (j_X10_in g1) ?_
  refine j_if_eq (tgt := 20) dX10_lend_7 rfl (fun c3 => ?_) (fun c3 => ?_)
  · rw [if_pos c3] at hr
    refine j_iconst (v := (-1)) rfl dX10_lend_20 ?_
    cases hr
    exact j_ret dX10_lend_21 m_rk_i
  · rw [if_neg c3] at hr
    refine j_iload_n (i := 3) rfl rfl dX10_lend_10 ?_
    refine j_iconst (v := 0) rfl dX10_lend_11 ?_
    refine j_ldc (v := 100000) tw_4_96 dX10_lend_12 ?_
    replace hr := m_bind hr; obtain ⟨r5, g4, hr⟩ := hr
    refine j_callS (Y' := Y_X10_in) (as := [.int a3, .int 0, .int 100000]) ok_X10_in [some (.int a3), some (.int 0), some (.int 100000)] rfl rfl tw_4_54 tw_4_55 nn_X10_in (Nat.le_of_ble_eq_true rfl) dX10_lend_14 (j_X10_in g4) ?_
    refine j_if_ne (tgt := 22) dX10_lend_17 rfl (fun c6 => ?_) (fun c6 => ?_)
    · rw [if_neg c6] at hr
      refine j_aload_n (i := 0) rfl rfl dX10_lend_22 ?_
      refine j_iload_n (i := 1) rfl rfl dX10_lend_23 ?_
      by_cases o70 : m_ob h a0 9 = true
      · rw [if_pos o70] at hr
        replace hr := m_bind hr; obtain ⟨r8, g7, hr⟩ := hr
        refine j_callV (Y' := Y_X10_isSpecimen) (a := a0) (as := [.int a1]) (ci := 9) (T := TX10) (N := 30) ok_X10_isSpecimen [some (.ref a0), some (.int a1)] rfl rfl rfl tw_4_113 tw_4_115 tw_p_18 nn_X10_isSpecimen (Nat.le_of_ble_eq_true rfl) dX10_lend_24 o70 (j_X10_isSpecimen (by omega) g7) ?_
        refine j_if_eq (tgt := 59) dX10_lend_27 rfl (fun c9 => ?_) (fun c9 => ?_)
        · rw [if_pos c9] at hr
          refine j_iload_n (i := 1) rfl rfl dX10_lend_59 ?_
          refine j_sipush (v := 1000) rfl dX10_lend_60 ?_
          refine j_isub dX10_lend_63 ?_
          refine j_istore (i := 4) (L' := [some (.ref a0), some (.int a1), some (.int a2), some (.int a3), some (.int (a1 - 1000)), none, none]) (Nat.le_of_ble_eq_true rfl) rfl rfl dX10_lend_64 ?_
          refine j_iload_n (i := 1) rfl rfl dX10_lend_66 ?_
          refine j_sipush (v := 1000) rfl dX10_lend_67 ?_
          refine j_ic_lt (tgt := 88) dX10_lend_70 rfl (fun c10 => ?_) (fun c10 => ?_)
          · rw [if_pos c10] at hr
            refine j_iconst (v := (-1)) rfl dX10_lend_88 ?_
            cases hr
            exact j_ret dX10_lend_89 m_rk_i
          · rw [if_neg c10] at hr
            refine j_iload (i := 4) rfl dX10_lend_73 ?_
            refine j_iconst (v := 0) rfl dX10_lend_75 ?_
            refine j_aload_n (i := 0) rfl rfl dX10_lend_76 ?_
            replace hr := m_bind hr; obtain ⟨x11, g12, hr⟩ := hr
            refine j_getf (C := RX10) (T := TX10) (N := 30) (ci := 9) (k := 17) rfl (by decide) inX10 tw_3_210 dX10_lend_77 (m_gi_spec g12) ?_
            refine j_iconst (v := 1) rfl dX10_lend_80 ?_
            refine j_isub dX10_lend_81 ?_
            replace hr := m_bind hr; obtain ⟨r14, g13, hr⟩ := hr
            refine j_callS (Y' := Y_X10_in) (as := [.int (a1 - 1000), .int 0, .int (x11 - 1)]) ok_X10_in [some (.int (a1 - 1000)), some (.int 0), some (.int (x11 - 1))] rfl rfl tw_4_54 tw_4_55 nn_X10_in (Nat.le_of_ble_eq_true rfl) dX10_lend_82 (j_X10_in g13) ?_
            refine j_if_ne (tgt := 90) dX10_lend_85 rfl (fun c15 => ?_) (fun c15 => ?_)
            · rw [if_neg c15] at hr
              refine j_iconst (v := 0) rfl dX10_lend_90 ?_
              refine j_istore (i := 5) (L' := [some (.ref a0), some (.int a1), some (.int a2), some (.int a3), some (.int (a1 - 1000)), some (.int 0), none]) (Nat.le_of_ble_eq_true rfl) rfl rfl dX10_lend_91 ?_
              refine j_iconst (v := 0) rfl dX10_lend_93 ?_
              refine j_istore (i := 6) (L' := [some (.ref a0), some (.int a1), some (.int a2), some (.int a3), some (.int (a1 - 1000)), some (.int 0), some (.int 0)]) (Nat.le_of_ble_eq_true rfl) rfl rfl dX10_lend_94 ?_
              replace hr := m_bind hr; obtain ⟨e31, q58, hr⟩ := hr
              refine j_weak (L' := [some (.ref a0), none, some (.int a2), some (.int a3), some (.int (a1 - 1000)), some (.int 0), some (.int 0)]) (And.intro rfl (And.intro rfl (And.intro rfl (And.intro rfl (And.intro rfl (And.intro rfl trivial)))))) ?_
              refine m_loop_sound (step := w_X10_lend_96 h a0 a1) (P := fun s_16 => m_J X Y_X10_lend (d + 1) 96 [some (.ref a0), none, some (.int a2), some (.int a3), some (.int (a1 - 1000)), some (.int s_16.1), some (.int s_16.2)] [] h (some (.int rv), h')) (Qe := fun e31 => match e31 with | .inl x32 => m_J X Y_X10_lend (d + 1) 140 [some (.ref a0), none, some (.int a2), some (.int a3), some (.int (a1 - 1000)), some (.int x32), none] [] h (some (.int rv), h') | .inr v57 => ((some (.int rv), h') : mR) = (some (.int v57.1), v57.2)) ?_ _ _ _ q58 ?_
              · intro s_16 o hr hk
                unfold w_X10_lend_96 at hr
                refine j_iload (i := 6) rfl dX10_lend_96 ?_
                refine j_aload_n (i := 0) rfl rfl dX10_lend_98 ?_
                replace hr := m_bind hr; obtain ⟨x17, g18, hr⟩ := hr
                refine j_getf (C := RX10) (T := TX10) (N := 30) (ci := 9) (k := 6) rfl (by decide) inX10 tw_3_199 dX10_lend_99 (m_gi_spec g18) ?_
                refine j_ic_ge (tgt := 140) dX10_lend_102 rfl (fun c19 => ?_) (fun c19 => ?_)
                · rw [if_pos c19] at hr
                  cases hr
                  exact j_weak (L' := [some (.ref a0), none, some (.int a2), some (.int a3), some (.int (a1 - 1000)), some (.int s_16.1), none]) (And.intro rfl (And.intro rfl (And.intro rfl (And.intro rfl (And.intro rfl trivial))))) hk
                · rw [if_neg c19] at hr
                  refine j_aload_n (i := 0) rfl rfl dX10_lend_105 ?_
                  replace hr := m_bind hr; obtain ⟨q20, g21, hr⟩ := hr
                  refine j_getf (C := RX10) (T := TX10) (N := 30) (ci := 9) (k := 10) rfl (by decide) inX10 tw_3_203 dX10_lend_106 (m_gr_spec g21) ?_
                  refine j_iload (i := 6) rfl dX10_lend_109 ?_
                  replace hr := m_bind hr; obtain ⟨b22, g23, hr⟩ := hr
                  subst g23
                  replace hr := m_bind hr; obtain ⟨x24, g25, hr⟩ := hr
                  refine j_iaload dX10_lend_111 g25 ?_
                  refine j_iload (i := 4) rfl dX10_lend_112 ?_
                  refine j_ic_eq (tgt := 120) dX10_lend_114 rfl (fun c26 => ?_) (fun c26 => ?_)
                  · rw [if_pos c26] at hr
                    refine j_aload_n (i := 0) rfl rfl dX10_lend_120 ?_
                    refine j_iload (i := 6) rfl dX10_lend_121 ?_
                    by_cases o30 : m_ob h a0 9 = true
                    · rw [if_pos o30] at hr
                      replace hr := m_bind hr; obtain ⟨r28, g27, hr⟩ := hr
                      refine j_callV (Y' := Y_X10_mayLend) (a := a0) (as := [.int s_16.2]) (ci := 9) (T := TX10) (N := 30) ok_X10_mayLend [some (.ref a0), some (.int s_16.2)] rfl rfl rfl tw_4_166 tw_4_168 tw_p_24 nn_X10_mayLend (Nat.le_of_ble_eq_true rfl) dX10_lend_123 o30 (j_X10_mayLend (by omega) g27) ?_
                      refine j_if_ne (tgt := 131) dX10_lend_126 rfl (fun c29 => ?_) (fun c29 => ?_)
                      · rw [if_neg c29] at hr
                        refine j_iinc (i := 5) (v := s_16.1 + 1) (L' := [some (.ref a0), none, some (.int a2), some (.int a3), some (.int (a1 - 1000)), some (.int (s_16.1 + 1)), some (.int s_16.2)]) rfl (m_o1 _) (Nat.le_of_ble_eq_true rfl) rfl rfl dX10_lend_131 ?_
                        refine j_iinc (i := 6) (v := s_16.2 + 1) (L' := [some (.ref a0), none, some (.int a2), some (.int a3), some (.int (a1 - 1000)), some (.int (s_16.1 + 1)), some (.int (s_16.2 + 1))]) rfl (m_o1 _) (Nat.le_of_ble_eq_true rfl) rfl rfl dX10_lend_134 ?_
                        refine j_goto (tgt := 96) dX10_lend_137 rfl ?_
                        cases hr
                        exact j_weak (L' := [some (.ref a0), none, some (.int a2), some (.int a3), some (.int (a1 - 1000)), some (.int (s_16.1 + 1)), some (.int (s_16.2 + 1))]) (And.intro rfl (And.intro rfl (And.intro rfl (And.intro rfl (And.intro rfl (And.intro rfl trivial)))))) hk
                      · rw [if_pos c29] at hr
                        refine j_iconst (v := (-1)) rfl dX10_lend_129 ?_
                        cases hr
                        rw [show _ = _ from hk]
                        exact j_ret dX10_lend_130 m_rk_i
                    · rw [if_neg o30] at hr
                      cases hr
                  · rw [if_neg c26] at hr
                    refine j_goto (tgt := 134) dX10_lend_117 rfl ?_
                    refine j_iinc (i := 6) (v := s_16.2 + 1) (L' := [some (.ref a0), none, some (.int a2), some (.int a3), some (.int (a1 - 1000)), some (.int s_16.1), some (.int (s_16.2 + 1))]) rfl (m_o1 _) (Nat.le_of_ble_eq_true rfl) rfl rfl dX10_lend_134 ?_
                    refine j_goto (tgt := 96) dX10_lend_137 rfl ?_
                    cases hr
                    exact j_weak (L' := [some (.ref a0), none, some (.int a2), some (.int a3), some (.int (a1 - 1000)), some (.int s_16.1), some (.int (s_16.2 + 1))]) (And.intro rfl (And.intro rfl (And.intro rfl (And.intro rfl (And.intro rfl (And.intro rfl trivial)))))) hk
              · cases e31 with
                | inl x32 =>
                  dsimp only at hr
                  dsimp only
                  refine j_iload (i := 5) rfl dX10_lend_140 ?_
                  refine j_if_eq (tgt := 158) dX10_lend_142 rfl (fun c33 => ?_) (fun c33 => ?_)
                  · rw [if_pos c33] at hr
                    refine j_iconst (v := (-1)) rfl dX10_lend_158 ?_
                    cases hr
                    exact j_ret dX10_lend_159 m_rk_i
                  · rw [if_neg c33] at hr
                    refine j_aload_n (i := 0) rfl rfl dX10_lend_145 ?_
                    refine j_iload_n (i := 2) rfl rfl dX10_lend_146 ?_
                    by_cases o55 : m_ob h a0 9 = true
                    · rw [if_pos o55] at hr
                      replace hr := m_bind hr; obtain ⟨r35, g34, hr⟩ := hr
                      refine j_callV (Y' := Y_X10_held) (a := a0) (as := [.int a2]) (ci := 9) (T := TX10) (N := 30) ok_X10_held [some (.ref a0), some (.int a2), none, none] rfl rfl rfl tw_4_170 tw_4_172 tw_p_25 nn_X10_held (Nat.le_of_ble_eq_true rfl) dX10_lend_147 o55 (j_X10_held g34) ?_
                      refine j_iload (i := 5) rfl dX10_lend_150 ?_
                      refine j_iadd dX10_lend_152 ?_
                      refine j_bipush (v := 12) rfl dX10_lend_153 ?_
                      refine j_ic_le (tgt := 160) dX10_lend_155 rfl (fun c36 => ?_) (fun c36 => ?_)
                      · rw [if_pos c36] at hr
                        refine j_iconst (v := 0) rfl dX10_lend_160 ?_
                        refine j_istore (i := 6) (L' := [some (.ref a0), none, some (.int a2), some (.int a3), some (.int (a1 - 1000)), some (.int x32), some (.int 0)]) (Nat.le_of_ble_eq_true rfl) rfl rfl dX10_lend_161 ?_
                        replace hr := m_bind hr; obtain ⟨e51, q54, hr⟩ := hr
                        refine j_weak (L' := [some (.ref a0), none, some (.int a2), some (.int a3), some (.int (a1 - 1000)), some (.int x32), some (.int 0)]) (And.intro rfl (And.intro rfl (And.intro rfl (And.intro rfl (And.intro rfl (And.intro rfl trivial)))))) ?_
                        refine m_loop_sound (step := w_X10_lend_163 a0 a1 a2 a3) (P := fun s_37 => m_J X Y_X10_lend (d + 1) 163 [some (.ref a0), none, some (.int a2), some (.int a3), some (.int (a1 - 1000)), some (.int x32), some (.int s_37.1)] [] s_37.2 (some (.int rv), h')) (Qe := fun e51 => m_J X Y_X10_lend (d + 1) 198 [none, none, none, none, none, some (.int x32), none] [] e51 (some (.int rv), h')) ?_ _ _ _ q54 ?_
                        · intro s_37 o hr hk
                          unfold w_X10_lend_163 at hr
                          refine j_iload (i := 6) rfl dX10_lend_163 ?_
                          refine j_aload_n (i := 0) rfl rfl dX10_lend_165 ?_
                          replace hr := m_bind hr; obtain ⟨x38, g39, hr⟩ := hr
                          refine j_getf (C := RX10) (T := TX10) (N := 30) (ci := 9) (k := 6) rfl (by decide) inX10 tw_3_199 dX10_lend_166 (m_gi_spec g39) ?_
                          refine j_ic_ge (tgt := 198) dX10_lend_169 rfl (fun c40 => ?_) (fun c40 => ?_)
                          · rw [if_pos c40] at hr
                            cases hr
                            exact j_weak (L' := [none, none, none, none, none, some (.int x32), none]) (And.intro rfl trivial) hk
                          · rw [if_neg c40] at hr
                            refine j_aload_n (i := 0) rfl rfl dX10_lend_172 ?_
                            replace hr := m_bind hr; obtain ⟨q41, g42, hr⟩ := hr
                            refine j_getf (C := RX10) (T := TX10) (N := 30) (ci := 9) (k := 10) rfl (by decide) inX10 tw_3_203 dX10_lend_173 (m_gr_spec g42) ?_
                            refine j_iload (i := 6) rfl dX10_lend_176 ?_
                            replace hr := m_bind hr; obtain ⟨b43, g44, hr⟩ := hr
                            subst g44
                            replace hr := m_bind hr; obtain ⟨x45, g46, hr⟩ := hr
                            refine j_iaload dX10_lend_178 g46 ?_
                            refine j_iload (i := 4) rfl dX10_lend_179 ?_
                            refine j_ic_ne (tgt := 192) dX10_lend_181 rfl (fun c47 => ?_) (fun c47 => ?_)
                            · rw [if_neg c47] at hr
                              refine j_iinc (i := 6) (v := s_37.1 + 1) (L' := [some (.ref a0), none, some (.int a2), some (.int a3), some (.int (a1 - 1000)), some (.int x32), some (.int (s_37.1 + 1))]) rfl (m_o1 _) (Nat.le_of_ble_eq_true rfl) rfl rfl dX10_lend_192 ?_
                              refine j_goto (tgt := 163) dX10_lend_195 rfl ?_
                              cases hr
                              exact j_weak (L' := [some (.ref a0), none, some (.int a2), some (.int a3), some (.int (a1 - 1000)), some (.int x32), some (.int (s_37.1 + 1))]) (And.intro rfl (And.intro rfl (And.intro rfl (And.intro rfl (And.intro rfl (And.intro rfl trivial)))))) hk
                            · rw [if_pos c47] at hr
                              refine j_aload_n (i := 0) rfl rfl dX10_lend_184 ?_
                              refine j_iload (i := 6) rfl dX10_lend_185 ?_
                              refine j_iload_n (i := 2) rfl rfl dX10_lend_187 ?_
                              refine j_iload_n (i := 3) rfl rfl dX10_lend_188 ?_
                              by_cases o50 : m_ob s_37.2 a0 9 = true
                              · rw [if_pos o50] at hr
                                replace hr := m_bind hr; obtain ⟨h49, g48, hr⟩ := hr
                                refine j_callV (Y' := Y_X10_lends) (a := a0) (as := [.int s_37.1, .int a2, .int a3]) (ci := 9) (T := TX10) (N := 30) ok_X10_lends [some (.ref a0), some (.int s_37.1), some (.int a2), some (.int a3), none] rfl rfl rfl tw_4_174 tw_4_176 tw_p_26 nn_X10_lends (Nat.le_of_ble_eq_true rfl) dX10_lend_189 o50 (j_X10_lends (by omega) g48) ?_
                                refine j_iinc (i := 6) (v := s_37.1 + 1) (L' := [some (.ref a0), none, some (.int a2), some (.int a3), some (.int (a1 - 1000)), some (.int x32), some (.int (s_37.1 + 1))]) rfl (m_o1 _) (Nat.le_of_ble_eq_true rfl) rfl rfl dX10_lend_192 ?_
                                refine j_goto (tgt := 163) dX10_lend_195 rfl ?_
                                cases hr
                                exact j_weak (L' := [some (.ref a0), none, some (.int a2), some (.int a3), some (.int (a1 - 1000)), some (.int x32), some (.int (s_37.1 + 1))]) (And.intro rfl (And.intro rfl (And.intro rfl (And.intro rfl (And.intro rfl (And.intro rfl trivial)))))) hk
                              · rw [if_neg o50] at hr
                                cases hr
                        · skip
                          refine j_iload (i := 5) rfl dX10_lend_198 ?_
                          cases hr
                          exact j_ret dX10_lend_200 m_rk_i
                      · rw [if_neg c36] at hr
                        refine j_iconst (v := (-1)) rfl dX10_lend_158 ?_
                        cases hr
                        exact j_ret dX10_lend_159 m_rk_i
                    · rw [if_neg o55] at hr
                      cases hr
                | inr v57 =>
                  dsimp only at hr
                  cases hr
                  rfl
            · rw [if_pos c15] at hr
              refine j_iconst (v := (-1)) rfl dX10_lend_88 ?_
              cases hr
              exact j_ret dX10_lend_89 m_rk_i
        · rw [if_neg c9] at hr
          refine j_aload_n (i := 0) rfl rfl dX10_lend_30 ?_
          refine j_iload_n (i := 1) rfl rfl dX10_lend_31 ?_
          by_cases o69 : m_ob h a0 9 = true
          · rw [if_pos o69] at hr
            replace hr := m_bind hr; obtain ⟨r60, g59, hr⟩ := hr
            refine j_callV (Y' := Y_X10_mayLend) (a := a0) (as := [.int a1]) (ci := 9) (T := TX10) (N := 30) ok_X10_mayLend [some (.ref a0), some (.int a1)] rfl rfl rfl tw_4_166 tw_4_168 tw_p_24 nn_X10_mayLend (Nat.le_of_ble_eq_true rfl) dX10_lend_32 o69 (j_X10_mayLend (by omega) g59) ?_
            refine j_if_eq (tgt := 48) dX10_lend_35 rfl (fun c61 => ?_) (fun c61 => ?_)
            · rw [if_pos c61] at hr
              refine j_iconst (v := (-1)) rfl dX10_lend_48 ?_
              cases hr
              exact j_ret dX10_lend_49 m_rk_i
            · rw [if_neg c61] at hr
              refine j_aload_n (i := 0) rfl rfl dX10_lend_38 ?_
              refine j_iload_n (i := 2) rfl rfl dX10_lend_39 ?_
              by_cases o68 : m_ob h a0 9 = true
              · rw [if_pos o68] at hr
                replace hr := m_bind hr; obtain ⟨r63, g62, hr⟩ := hr
                refine j_callV (Y' := Y_X10_held) (a := a0) (as := [.int a2]) (ci := 9) (T := TX10) (N := 30) ok_X10_held [some (.ref a0), some (.int a2), none, none] rfl rfl rfl tw_4_170 tw_4_172 tw_p_25 nn_X10_held (Nat.le_of_ble_eq_true rfl) dX10_lend_40 o68 (j_X10_held g62) ?_
                refine j_bipush (v := 12) rfl dX10_lend_43 ?_
                refine j_ic_ne (tgt := 50) dX10_lend_45 rfl (fun c64 => ?_) (fun c64 => ?_)
                · rw [if_neg c64] at hr
                  refine j_aload_n (i := 0) rfl rfl dX10_lend_50 ?_
                  refine j_iload_n (i := 1) rfl rfl dX10_lend_51 ?_
                  refine j_iload_n (i := 2) rfl rfl dX10_lend_52 ?_
                  refine j_iload_n (i := 3) rfl rfl dX10_lend_53 ?_
                  by_cases o67 : m_ob h a0 9 = true
                  · rw [if_pos o67] at hr
                    replace hr := m_bind hr; obtain ⟨h66, g65, hr⟩ := hr
                    refine j_callV (Y' := Y_X10_lends) (a := a0) (as := [.int a1, .int a2, .int a3]) (ci := 9) (T := TX10) (N := 30) ok_X10_lends [some (.ref a0), some (.int a1), some (.int a2), some (.int a3), none] rfl rfl rfl tw_4_174 tw_4_176 tw_p_26 nn_X10_lends (Nat.le_of_ble_eq_true rfl) dX10_lend_54 o67 (j_X10_lends (by omega) g65) ?_
                    refine j_iconst (v := 1) rfl dX10_lend_57 ?_
                    cases hr
                    exact j_ret dX10_lend_58 m_rk_i
                  · rw [if_neg o67] at hr
                    cases hr
                · rw [if_pos c64] at hr
                  refine j_iconst (v := (-1)) rfl dX10_lend_48 ?_
                  cases hr
                  exact j_ret dX10_lend_49 m_rk_i
              · rw [if_neg o68] at hr
                cases hr
          · rw [if_neg o69] at hr
            cases hr
      · rw [if_neg o70] at hr
        cases hr
    · rw [if_pos c6] at hr
      refine j_iconst (v := (-1)) rfl dX10_lend_20 ?_
      cases hr
      exact j_ret dX10_lend_21 m_rk_i
def f_X10_late (h : mH) (a0 : Nat) (a1 : Int32) (a2 : Int32) : Option (Int32) :=
  (m_gr h a0 9 13).bind fun q1 =>
  (q1).bind fun b3 =>
  (m_ild h b3 a1).bind fun x5 =>
  if x5 = ((-1)) then
    some 0
  else
    (m_gr h a0 9 14).bind fun q8 =>
    (q8).bind fun b10 =>
    (m_ild h b10 a1).bind fun x12 =>
    (m_gr h a0 9 15).bind fun q14 =>
    (q14).bind fun b16 =>
    (m_ild h b16 a1).bind fun x18 =>
    if ((a2 - x12) - x18) ≤ 0 then
      some 0
    else
      some ((a2 - x12) - x18)
def Y_X10_late : mY := (yX10_late, cX10_late, 4, some (FieldType.int), .ireturn)
theorem ok_X10_late : m_Ok Y_X10_late := ⟨by decide +kernel, ⟨by decide +kernel, by decide +kernel⟩, tw_4_189, tw_1_7, by decide, Or.inr (Or.inl ⟨Or.inl rfl, rfl⟩)⟩
theorem nn_X10_late : (parseMethodDescriptor Y_X10_late.1.desc).map (fun q => q.parameters.length) = some 2 := by decide +kernel
set_option maxHeartbeats 4000000 in
set_option maxRecDepth 20000 in
theorem j_X10_late {X : mX} {d : Nat} {h : mH} {a0 : Nat} {a1 : Int32} {a2 : Int32} {rv : Int32} (hr : f_X10_late h a0 a1 a2 = some rv) : m_J X Y_X10_late d 0 [some (.ref a0), some (.int a1), some (.int a2), none] [] h (some (.int rv), h) := by
  unfold f_X10_late at hr
  refine j_aload_n (i := 0) rfl rfl dX10_late_0 ?_
  replace hr := m_bind hr; obtain ⟨q1, g2, hr⟩ := hr
  refine j_getf (C := RX10) (T := TX10) (N := 30) (ci := 9) (k := 13) rfl (by decide) inX10 tw_3_206 dX10_late_1 (m_gr_spec g2) ?_
  refine j_iload_n (i := 1) rfl rfl dX10_late_4 ?_
  replace hr := m_bind hr; obtain ⟨b3, g4, hr⟩ := hr
  subst g4
  replace hr := m_bind hr; obtain ⟨x5, g6, hr⟩ := hr
  refine j_iaload dX10_late_5 g6 ?_
  refine j_iconst (v := (-1)) rfl dX10_late_6 ?_
  refine j_ic_ne (tgt := 12) dX10_late_7 rfl (fun c7 => ?_) (fun c7 => ?_)
  · rw [if_neg c7] at hr
    refine j_iload_n (i := 2) rfl rfl dX10_late_12 ?_
    refine j_aload_n (i := 0) rfl rfl dX10_late_13 ?_
    replace hr := m_bind hr; obtain ⟨q8, g9, hr⟩ := hr
    refine j_getf (C := RX10) (T := TX10) (N := 30) (ci := 9) (k := 14) rfl (by decide) inX10 tw_3_207 dX10_late_14 (m_gr_spec g9) ?_
    refine j_iload_n (i := 1) rfl rfl dX10_late_17 ?_
    replace hr := m_bind hr; obtain ⟨b10, g11, hr⟩ := hr
    subst g11
    replace hr := m_bind hr; obtain ⟨x12, g13, hr⟩ := hr
    refine j_iaload dX10_late_18 g13 ?_
    refine j_isub dX10_late_19 ?_
    refine j_aload_n (i := 0) rfl rfl dX10_late_20 ?_
    replace hr := m_bind hr; obtain ⟨q14, g15, hr⟩ := hr
    refine j_getf (C := RX10) (T := TX10) (N := 30) (ci := 9) (k := 15) rfl (by decide) inX10 tw_3_208 dX10_late_21 (m_gr_spec g15) ?_
    refine j_iload_n (i := 1) rfl rfl dX10_late_24 ?_
    replace hr := m_bind hr; obtain ⟨b16, g17, hr⟩ := hr
    subst g17
    replace hr := m_bind hr; obtain ⟨x18, g19, hr⟩ := hr
    refine j_iaload dX10_late_25 g19 ?_
    refine j_isub dX10_late_26 ?_
    refine j_istore_n (i := 3) (L' := [some (.ref a0), some (.int a1), some (.int a2), some (.int ((a2 - x12) - x18))]) rfl (Nat.le_of_ble_eq_true rfl) rfl rfl dX10_late_27 ?_
    refine j_iload_n (i := 3) rfl rfl dX10_late_28 ?_
    refine j_if_le (tgt := 36) dX10_late_29 rfl (fun c20 => ?_) (fun c20 => ?_)
    · rw [if_pos c20] at hr
      refine j_iconst (v := 0) rfl dX10_late_36 ?_
      cases hr
      exact j_ret dX10_late_37 m_rk_i
    · rw [if_neg c20] at hr
      refine j_iload_n (i := 3) rfl rfl dX10_late_32 ?_
      refine j_goto (tgt := 37) dX10_late_33 rfl ?_
      cases hr
      exact j_ret dX10_late_37 m_rk_i
  · rw [if_pos c7] at hr
    refine j_iconst (v := 0) rfl dX10_late_10 ?_
    cases hr
    exact j_ret dX10_late_11 m_rk_i
def f_X10_due (h : mH) (a0 : Nat) (a1 : Int32) (a2 : Int32) : Option (Int32) :=
  if m_ob h a0 9 = true then
    (f_X10_late h a0 a1 a2).bind fun r2 =>
    if 30 < r2 then
      (m_gr h a0 9 16).bind fun q4 =>
      (q4).bind fun b6 =>
      (m_ild h b6 a1).bind fun x8 =>
      if (30 + (2 * (r2 - 30))) ≤ 100 then
        some (x8 * (30 + (2 * (r2 - 30))))
      else
        some (x8 * 100)
    else
      (m_gr h a0 9 16).bind fun q11 =>
      (q11).bind fun b13 =>
      (m_ild h b13 a1).bind fun x15 =>
      if r2 ≤ 100 then
        some (x15 * r2)
      else
        some (x15 * 100)
  else none
def Y_X10_due : mY := (yX10_due, cX10_due, 5, some (FieldType.int), .ireturn)
theorem ok_X10_due : m_Ok Y_X10_due := ⟨by decide +kernel, ⟨by decide +kernel, by decide +kernel⟩, tw_4_185, tw_1_7, by decide, Or.inr (Or.inl ⟨Or.inl rfl, rfl⟩)⟩
theorem nn_X10_due : (parseMethodDescriptor Y_X10_due.1.desc).map (fun q => q.parameters.length) = some 2 := by decide +kernel
set_option maxHeartbeats 4000000 in
set_option maxRecDepth 20000 in
theorem j_X10_due {X : mX} {d : Nat} {h : mH} {a0 : Nat} {a1 : Int32} {a2 : Int32} {rv : Int32} (hd : 1 ≤ d) (hr : f_X10_due h a0 a1 a2 = some rv) : m_J X Y_X10_due d 0 [some (.ref a0), some (.int a1), some (.int a2), none, none] [] h (some (.int rv), h) := by
  obtain ⟨d, rfl⟩ : ∃ k, d = k + 1 := ⟨d - 1, by omega⟩
  unfold f_X10_due at hr
  refine j_aload_n (i := 0) rfl rfl dX10_due_0 ?_
  refine j_iload_n (i := 1) rfl rfl dX10_due_1 ?_
  refine j_iload_n (i := 2) rfl rfl dX10_due_2 ?_
  by_cases o18 : m_ob h a0 9 = true
  · rw [if_pos o18] at hr
    replace hr := m_bind hr; obtain ⟨r2, g1, hr⟩ := hr
    refine j_callV (Y' := Y_X10_late) (a := a0) (as := [.int a1, .int a2]) (ci := 9) (T := TX10) (N := 30) ok_X10_late [some (.ref a0), some (.int a1), some (.int a2), none] rfl rfl rfl tw_4_186 tw_4_188 tw_p_28 nn_X10_late (Nat.le_of_ble_eq_true rfl) dX10_due_3 o18 (j_X10_late g1) ?_
    refine j_istore_n (i := 3) (L' := [some (.ref a0), some (.int a1), some (.int a2), some (.int r2), none]) rfl (Nat.le_of_ble_eq_true rfl) rfl rfl dX10_due_6 ?_
    refine j_iload_n (i := 3) rfl rfl dX10_due_7 ?_
    refine j_bipush (v := 30) rfl dX10_due_8 ?_
    refine j_ic_gt (tgt := 17) dX10_due_10 rfl (fun c3 => ?_) (fun c3 => ?_)
    · rw [if_pos c3] at hr
      refine j_bipush (v := 30) rfl dX10_due_17 ?_
      refine j_iconst (v := 2) rfl dX10_due_19 ?_
      refine j_iload_n (i := 3) rfl rfl dX10_due_20 ?_
      refine j_bipush (v := 30) rfl dX10_due_21 ?_
      refine j_isub dX10_due_23 ?_
      refine j_imul dX10_due_24 ?_
      refine j_iadd dX10_due_25 ?_
      refine j_istore (i := 4) (L' := [some (.ref a0), some (.int a1), some (.int a2), some (.int r2), some (.int (30 + (2 * (r2 - 30))))]) (Nat.le_of_ble_eq_true rfl) rfl rfl dX10_due_26 ?_
      refine j_aload_n (i := 0) rfl rfl dX10_due_28 ?_
      replace hr := m_bind hr; obtain ⟨q4, g5, hr⟩ := hr
      refine j_getf (C := RX10) (T := TX10) (N := 30) (ci := 9) (k := 16) rfl (by decide) inX10 tw_3_209 dX10_due_29 (m_gr_spec g5) ?_
      refine j_iload_n (i := 1) rfl rfl dX10_due_32 ?_
      replace hr := m_bind hr; obtain ⟨b6, g7, hr⟩ := hr
      subst g7
      replace hr := m_bind hr; obtain ⟨x8, g9, hr⟩ := hr
      refine j_iaload dX10_due_33 g9 ?_
      refine j_iload (i := 4) rfl dX10_due_34 ?_
      refine j_bipush (v := 100) rfl dX10_due_36 ?_
      refine j_ic_le (tgt := 46) dX10_due_38 rfl (fun c10 => ?_) (fun c10 => ?_)
      · rw [if_pos c10] at hr
        refine j_iload (i := 4) rfl dX10_due_46 ?_
        refine j_imul dX10_due_48 ?_
        cases hr
        exact j_ret dX10_due_49 m_rk_i
      · rw [if_neg c10] at hr
        refine j_bipush (v := 100) rfl dX10_due_41 ?_
        refine j_goto (tgt := 48) dX10_due_43 rfl ?_
        refine j_imul dX10_due_48 ?_
        cases hr
        exact j_ret dX10_due_49 m_rk_i
    · rw [if_neg c3] at hr
      refine j_iload_n (i := 3) rfl rfl dX10_due_13 ?_
      refine j_goto (tgt := 26) dX10_due_14 rfl ?_
      refine j_istore (i := 4) (L' := [some (.ref a0), some (.int a1), some (.int a2), some (.int r2), some (.int r2)]) (Nat.le_of_ble_eq_true rfl) rfl rfl dX10_due_26 ?_
      refine j_aload_n (i := 0) rfl rfl dX10_due_28 ?_
      replace hr := m_bind hr; obtain ⟨q11, g12, hr⟩ := hr
      refine j_getf (C := RX10) (T := TX10) (N := 30) (ci := 9) (k := 16) rfl (by decide) inX10 tw_3_209 dX10_due_29 (m_gr_spec g12) ?_
      refine j_iload_n (i := 1) rfl rfl dX10_due_32 ?_
      replace hr := m_bind hr; obtain ⟨b13, g14, hr⟩ := hr
      subst g14
      replace hr := m_bind hr; obtain ⟨x15, g16, hr⟩ := hr
      refine j_iaload dX10_due_33 g16 ?_
      refine j_iload (i := 4) rfl dX10_due_34 ?_
      refine j_bipush (v := 100) rfl dX10_due_36 ?_
      refine j_ic_le (tgt := 46) dX10_due_38 rfl (fun c17 => ?_) (fun c17 => ?_)
      · rw [if_pos c17] at hr
        refine j_iload (i := 4) rfl dX10_due_46 ?_
        refine j_imul dX10_due_48 ?_
        cases hr
        exact j_ret dX10_due_49 m_rk_i
      · rw [if_neg c17] at hr
        refine j_bipush (v := 100) rfl dX10_due_41 ?_
        refine j_goto (tgt := 48) dX10_due_43 rfl ?_
        refine j_imul dX10_due_48 ?_
        cases hr
        exact j_ret dX10_due_49 m_rk_i
  · rw [if_neg o18] at hr
    cases hr
def f_X10_giveBack (h : mH) (a0 : Nat) (a1 : Int32) (a2 : Int32) : Option (Int32 × mH) :=
  if m_ob h a0 9 = true then
    (f_X10_isSpecimen h a0 a1).bind fun r2 =>
    if r2 = 0 then
      some (((-1), h))
    else
      (m_gr h a0 9 13).bind fun q4 =>
      (q4).bind fun b6 =>
      (m_ild h b6 a1).bind fun x8 =>
      if x8 = ((-1)) then
        some (((-1), h))
      else
        (m_gr h a0 9 14).bind fun q11 =>
        (q11).bind fun b13 =>
        (m_ild h b13 a1).bind fun x15 =>
        (f_X10_in a2 x15 100000).bind fun r18 =>
        if r18 = 0 then
          some (((-1), h))
        else
          if m_ob h a0 9 = true then
            (f_X10_due h a0 a1 a2).bind fun r21 =>
            (m_gr h a0 9 22).bind fun q22 =>
            (m_gr h a0 9 13).bind fun q24 =>
            (q24).bind fun b26 =>
            (m_ild h b26 a1).bind fun x28 =>
            (q22).bind fun b30 =>
            (m_ild h b30 x28).bind fun x32 =>
            (m_ist h b30 x28 (x32 + r21)).bind fun h34 =>
            (m_gr h34 a0 9 13).bind fun q36 =>
            (q36).bind fun b38 =>
            (m_ist h34 b38 a1 ((-1))).bind fun h40 =>
            (m_gr h40 a0 9 14).bind fun q42 =>
            (q42).bind fun b44 =>
            (m_ist h40 b44 a1 ((-1))).bind fun h46 =>
            (m_gr h46 a0 9 15).bind fun q48 =>
            (q48).bind fun b50 =>
            (m_ist h46 b50 a1 ((-1))).bind fun h52 =>
            (m_gr h52 a0 9 16).bind fun q54 =>
            (q54).bind fun b56 =>
            (m_ist h52 b56 a1 ((-1))).bind fun h58 =>
            some ((r21, h58))
          else none
  else none
def Y_X10_giveBack : mY := (yX10_giveBack, cX10_giveBack, 4, some (FieldType.int), .ireturn)
theorem ok_X10_giveBack : m_Ok Y_X10_giveBack := ⟨by decide +kernel, ⟨by decide +kernel, by decide +kernel⟩, tw_4_181, tw_1_7, by decide, Or.inr (Or.inl ⟨Or.inl rfl, rfl⟩)⟩
theorem nn_X10_giveBack : (parseMethodDescriptor Y_X10_giveBack.1.desc).map (fun q => q.parameters.length) = some 2 := by decide +kernel
set_option maxHeartbeats 4000000 in
set_option maxRecDepth 20000 in
theorem j_X10_giveBack {X : mX} {d : Nat} {h : mH} {a0 : Nat} {a1 : Int32} {a2 : Int32} {rv : Int32} {h' : mH} (hd : 2 ≤ d) (hr : f_X10_giveBack h a0 a1 a2 = some (rv, h')) : m_J X Y_X10_giveBack d 0 [some (.ref a0), some (.int a1), some (.int a2), none] [] h (some (.int rv), h') := by
  obtain ⟨d, rfl⟩ : ∃ k, d = k + 1 := ⟨d - 1, by omega⟩
  unfold f_X10_giveBack at hr
  refine j_aload_n (i := 0) rfl rfl dX10_giveBack_0 ?_
  refine j_iload_n (i := 1) rfl rfl dX10_giveBack_1 ?_
  by_cases o61 : m_ob h a0 9 = true
  · rw [if_pos o61] at hr
    replace hr := m_bind hr; obtain ⟨r2, g1, hr⟩ := hr
    refine j_callV (Y' := Y_X10_isSpecimen) (a := a0) (as := [.int a1]) (ci := 9) (T := TX10) (N := 30) ok_X10_isSpecimen [some (.ref a0), some (.int a1)] rfl rfl rfl tw_4_113 tw_4_115 tw_p_18 nn_X10_isSpecimen (Nat.le_of_ble_eq_true rfl) dX10_giveBack_2 o61 (j_X10_isSpecimen (by omega) g1) ?_
    refine j_if_eq (tgt := 33) dX10_giveBack_5 rfl (fun c3 => ?_) (fun c3 => ?_)
    · rw [if_pos c3] at hr
      refine j_iconst (v := (-1)) rfl dX10_giveBack_33 ?_
      cases hr
      exact j_ret dX10_giveBack_34 m_rk_i
    · rw [if_neg c3] at hr
      refine j_aload_n (i := 0) rfl rfl dX10_giveBack_8 ?_
      replace hr := m_bind hr; obtain ⟨q4, g5, hr⟩ := hr
      refine j_getf (C := RX10) (T := TX10) (N := 30) (ci := 9) (k := 13) rfl (by decide) inX10 tw_3_206 dX10_giveBack_9 (m_gr_spec g5) ?_
      refine j_iload_n (i := 1) rfl rfl dX10_giveBack_12 ?_
      replace hr := m_bind hr; obtain ⟨b6, g7, hr⟩ := hr
      subst g7
      replace hr := m_bind hr; obtain ⟨x8, g9, hr⟩ := hr
      refine j_iaload dX10_giveBack_13 g9 ?_
      refine j_iconst (v := (-1)) rfl dX10_giveBack_14 ?_
      refine j_ic_eq (tgt := 33) dX10_giveBack_15 rfl (fun c10 => ?_) (fun c10 => ?_)
      · rw [if_pos c10] at hr
        refine j_iconst (v := (-1)) rfl dX10_giveBack_33 ?_
        cases hr
        exact j_ret dX10_giveBack_34 m_rk_i
      · rw [if_neg c10] at hr
        refine j_iload_n (i := 2) rfl rfl dX10_giveBack_18 ?_
        refine j_aload_n (i := 0) rfl rfl dX10_giveBack_19 ?_
        replace hr := m_bind hr; obtain ⟨q11, g12, hr⟩ := hr
        refine j_getf (C := RX10) (T := TX10) (N := 30) (ci := 9) (k := 14) rfl (by decide) inX10 tw_3_207 dX10_giveBack_20 (m_gr_spec g12) ?_
        refine j_iload_n (i := 1) rfl rfl dX10_giveBack_23 ?_
        replace hr := m_bind hr; obtain ⟨b13, g14, hr⟩ := hr
        subst g14
        replace hr := m_bind hr; obtain ⟨x15, g16, hr⟩ := hr
        refine j_iaload dX10_giveBack_24 g16 ?_
        refine j_ldc (v := 100000) tw_4_96 dX10_giveBack_25 ?_
        replace hr := m_bind hr; obtain ⟨r18, g17, hr⟩ := hr
        refine j_callS (Y' := Y_X10_in) (as := [.int a2, .int x15, .int 100000]) ok_X10_in [some (.int a2), some (.int x15), some (.int 100000)] rfl rfl tw_4_54 tw_4_55 nn_X10_in (Nat.le_of_ble_eq_true rfl) dX10_giveBack_27 (j_X10_in g17) ?_
        refine j_if_ne (tgt := 35) dX10_giveBack_30 rfl (fun c19 => ?_) (fun c19 => ?_)
        · rw [if_neg c19] at hr
          refine j_aload_n (i := 0) rfl rfl dX10_giveBack_35 ?_
          refine j_iload_n (i := 1) rfl rfl dX10_giveBack_36 ?_
          refine j_iload_n (i := 2) rfl rfl dX10_giveBack_37 ?_
          by_cases o60 : m_ob h a0 9 = true
          · rw [if_pos o60] at hr
            replace hr := m_bind hr; obtain ⟨r21, g20, hr⟩ := hr
            refine j_callV (Y' := Y_X10_due) (a := a0) (as := [.int a1, .int a2]) (ci := 9) (T := TX10) (N := 30) ok_X10_due [some (.ref a0), some (.int a1), some (.int a2), none, none] rfl rfl rfl tw_4_182 tw_4_184 tw_p_27 nn_X10_due (Nat.le_of_ble_eq_true rfl) dX10_giveBack_38 o60 (j_X10_due (by omega) g20) ?_
            refine j_istore_n (i := 3) (L' := [some (.ref a0), some (.int a1), some (.int a2), some (.int r21)]) rfl (Nat.le_of_ble_eq_true rfl) rfl rfl dX10_giveBack_41 ?_
            refine j_aload_n (i := 0) rfl rfl dX10_giveBack_42 ?_
            replace hr := m_bind hr; obtain ⟨q22, g23, hr⟩ := hr
            refine j_getf (C := RX10) (T := TX10) (N := 30) (ci := 9) (k := 22) rfl (by decide) inX10 tw_3_215 dX10_giveBack_43 (m_gr_spec g23) ?_
            refine j_aload_n (i := 0) rfl rfl dX10_giveBack_46 ?_
            replace hr := m_bind hr; obtain ⟨q24, g25, hr⟩ := hr
            refine j_getf (C := RX10) (T := TX10) (N := 30) (ci := 9) (k := 13) rfl (by decide) inX10 tw_3_206 dX10_giveBack_47 (m_gr_spec g25) ?_
            refine j_iload_n (i := 1) rfl rfl dX10_giveBack_50 ?_
            replace hr := m_bind hr; obtain ⟨b26, g27, hr⟩ := hr
            subst g27
            replace hr := m_bind hr; obtain ⟨x28, g29, hr⟩ := hr
            refine j_iaload dX10_giveBack_51 g29 ?_
            refine j_dup2 rfl (m_crf _) dX10_giveBack_52 ?_
            replace hr := m_bind hr; obtain ⟨b30, g31, hr⟩ := hr
            subst g31
            replace hr := m_bind hr; obtain ⟨x32, g33, hr⟩ := hr
            refine j_iaload dX10_giveBack_53 g33 ?_
            refine j_iload_n (i := 3) rfl rfl dX10_giveBack_54 ?_
            refine j_iadd dX10_giveBack_55 ?_
            replace hr := m_bind hr; obtain ⟨h34, g35, hr⟩ := hr
            refine j_iastore dX10_giveBack_56 g35 ?_
            refine j_aload_n (i := 0) rfl rfl dX10_giveBack_57 ?_
            replace hr := m_bind hr; obtain ⟨q36, g37, hr⟩ := hr
            refine j_getf (C := RX10) (T := TX10) (N := 30) (ci := 9) (k := 13) rfl (by decide) inX10 tw_3_206 dX10_giveBack_58 (m_gr_spec g37) ?_
            refine j_iload_n (i := 1) rfl rfl dX10_giveBack_61 ?_
            refine j_iconst (v := (-1)) rfl dX10_giveBack_62 ?_
            replace hr := m_bind hr; obtain ⟨b38, g39, hr⟩ := hr
            subst g39
            replace hr := m_bind hr; obtain ⟨h40, g41, hr⟩ := hr
            refine j_iastore dX10_giveBack_63 g41 ?_
            refine j_aload_n (i := 0) rfl rfl dX10_giveBack_64 ?_
            replace hr := m_bind hr; obtain ⟨q42, g43, hr⟩ := hr
            refine j_getf (C := RX10) (T := TX10) (N := 30) (ci := 9) (k := 14) rfl (by decide) inX10 tw_3_207 dX10_giveBack_65 (m_gr_spec g43) ?_
            refine j_iload_n (i := 1) rfl rfl dX10_giveBack_68 ?_
            refine j_iconst (v := (-1)) rfl dX10_giveBack_69 ?_
            replace hr := m_bind hr; obtain ⟨b44, g45, hr⟩ := hr
            subst g45
            replace hr := m_bind hr; obtain ⟨h46, g47, hr⟩ := hr
            refine j_iastore dX10_giveBack_70 g47 ?_
            refine j_aload_n (i := 0) rfl rfl dX10_giveBack_71 ?_
            replace hr := m_bind hr; obtain ⟨q48, g49, hr⟩ := hr
            refine j_getf (C := RX10) (T := TX10) (N := 30) (ci := 9) (k := 15) rfl (by decide) inX10 tw_3_208 dX10_giveBack_72 (m_gr_spec g49) ?_
            refine j_iload_n (i := 1) rfl rfl dX10_giveBack_75 ?_
            refine j_iconst (v := (-1)) rfl dX10_giveBack_76 ?_
            replace hr := m_bind hr; obtain ⟨b50, g51, hr⟩ := hr
            subst g51
            replace hr := m_bind hr; obtain ⟨h52, g53, hr⟩ := hr
            refine j_iastore dX10_giveBack_77 g53 ?_
            refine j_aload_n (i := 0) rfl rfl dX10_giveBack_78 ?_
            replace hr := m_bind hr; obtain ⟨q54, g55, hr⟩ := hr
            refine j_getf (C := RX10) (T := TX10) (N := 30) (ci := 9) (k := 16) rfl (by decide) inX10 tw_3_209 dX10_giveBack_79 (m_gr_spec g55) ?_
            refine j_iload_n (i := 1) rfl rfl dX10_giveBack_82 ?_
            refine j_iconst (v := (-1)) rfl dX10_giveBack_83 ?_
            replace hr := m_bind hr; obtain ⟨b56, g57, hr⟩ := hr
            subst g57
            replace hr := m_bind hr; obtain ⟨h58, g59, hr⟩ := hr
            refine j_iastore dX10_giveBack_84 g59 ?_
            refine j_iload_n (i := 3) rfl rfl dX10_giveBack_85 ?_
            cases hr
            exact j_ret dX10_giveBack_86 m_rk_i
          · rw [if_neg o60] at hr
            cases hr
        · rw [if_pos c19] at hr
          refine j_iconst (v := (-1)) rfl dX10_giveBack_33 ?_
          cases hr
          exact j_ret dX10_giveBack_34 m_rk_i
  · rw [if_neg o61] at hr
    cases hr
def w_X10_overdue_16 (h : mH) (a0 : Nat) (a1 : Int32) : (Int32 × Int32) → Option ((Int32 × Int32) ⊕ (Int32)) := fun s_4 =>
  (m_gi h a0 9 6).bind fun x5 =>
  if x5 ≤ s_4.2 then
    some (.inr s_4.1)
  else
    if m_ob h a0 9 = true then
      (f_X10_late h a0 s_4.2 a1).bind fun r9 =>
      if r9 ≤ 0 then
        some (.inl (s_4.1 + 0, s_4.2 + 1))
      else
        some (.inl (s_4.1 + 1, s_4.2 + 1))
    else none
def f_X10_overdue (h : mH) (a0 : Nat) (a1 : Int32) : Option (Int32) :=
  (f_X10_in a1 0 100000).bind fun r2 =>
  if r2 = 0 then
    some ((-1))
  else
    (m_loop (w_X10_overdue_16 h a0 a1) 5000 ((0, 0))).bind fun e12 =>
    some e12
def Y_X10_overdue : mY := (yX10_overdue, cX10_overdue, 4, some (FieldType.int), .ireturn)
theorem ok_X10_overdue : m_Ok Y_X10_overdue := ⟨by decide +kernel, ⟨by decide +kernel, by decide +kernel⟩, tw_4_193, tw_1_7, by decide, Or.inr (Or.inl ⟨Or.inl rfl, rfl⟩)⟩
theorem nn_X10_overdue : (parseMethodDescriptor Y_X10_overdue.1.desc).map (fun q => q.parameters.length) = some 1 := by decide +kernel
set_option maxHeartbeats 4000000 in
set_option maxRecDepth 20000 in
theorem j_X10_overdue {X : mX} {d : Nat} {h : mH} {a0 : Nat} {a1 : Int32} {rv : Int32} (hd : 1 ≤ d) (hr : f_X10_overdue h a0 a1 = some rv) : m_J X Y_X10_overdue d 0 [some (.ref a0), some (.int a1), none, none] [] h (some (.int rv), h) := by
  obtain ⟨d, rfl⟩ : ∃ k, d = k + 1 := ⟨d - 1, by omega⟩
  unfold f_X10_overdue at hr
  refine j_iload_n (i := 1) rfl rfl dX10_overdue_0 ?_
  refine j_iconst (v := 0) rfl dX10_overdue_1 ?_
  refine j_ldc (v := 100000) tw_4_96 dX10_overdue_2 ?_
  replace hr := m_bind hr; obtain ⟨r2, g1, hr⟩ := hr
  refine j_callS (Y' := Y_X10_in) (as := [.int a1, .int 0, .int 100000]) ok_X10_in [some (.int a1), some (.int 0), some (.int 100000)] rfl rfl tw_4_54 tw_4_55 nn_X10_in (Nat.le_of_ble_eq_true rfl) dX10_overdue_4 (j_X10_in g1) ?_
  refine j_if_ne (tgt := 12) dX10_overdue_7 rfl (fun c3 => ?_) (fun c3 => ?_)
  · rw [if_neg c3] at hr
    refine j_iconst (v := 0) rfl dX10_overdue_12 ?_
    refine j_istore_n (i := 2) (L' := [some (.ref a0), some (.int a1), some (.int 0), none]) rfl (Nat.le_of_ble_eq_true rfl) rfl rfl dX10_overdue_13 ?_
    refine j_iconst (v := 0) rfl dX10_overdue_14 ?_
    refine j_istore_n (i := 3) (L' := [some (.ref a0), some (.int a1), some (.int 0), some (.int 0)]) rfl (Nat.le_of_ble_eq_true rfl) rfl rfl dX10_overdue_15 ?_
    replace hr := m_bind hr; obtain ⟨e12, q15, hr⟩ := hr
    refine j_weak (L' := [some (.ref a0), some (.int a1), some (.int 0), some (.int 0)]) (And.intro rfl (And.intro rfl (And.intro rfl (And.intro rfl trivial)))) ?_
    refine m_loop_sound (step := w_X10_overdue_16 h a0 a1) (P := fun s_4 => m_J X Y_X10_overdue (d + 1) 16 [some (.ref a0), some (.int a1), some (.int s_4.1), some (.int s_4.2)] [] h (some (.int rv), h)) (Qe := fun e12 => m_J X Y_X10_overdue (d + 1) 47 [none, none, some (.int e12), none] [] h (some (.int rv), h)) ?_ _ _ _ q15 ?_
    · intro s_4 o hr hk
      unfold w_X10_overdue_16 at hr
      refine j_iload_n (i := 3) rfl rfl dX10_overdue_16 ?_
      refine j_aload_n (i := 0) rfl rfl dX10_overdue_17 ?_
      replace hr := m_bind hr; obtain ⟨x5, g6, hr⟩ := hr
      refine j_getf (C := RX10) (T := TX10) (N := 30) (ci := 9) (k := 6) rfl (by decide) inX10 tw_3_199 dX10_overdue_18 (m_gi_spec g6) ?_
      refine j_ic_ge (tgt := 47) dX10_overdue_21 rfl (fun c7 => ?_) (fun c7 => ?_)
      · rw [if_pos c7] at hr
        cases hr
        exact j_weak (L' := [none, none, some (.int s_4.1), none]) (And.intro rfl trivial) hk
      · rw [if_neg c7] at hr
        refine j_iload_n (i := 2) rfl rfl dX10_overdue_24 ?_
        refine j_aload_n (i := 0) rfl rfl dX10_overdue_25 ?_
        refine j_iload_n (i := 3) rfl rfl dX10_overdue_26 ?_
        refine j_iload_n (i := 1) rfl rfl dX10_overdue_27 ?_
        by_cases o11 : m_ob h a0 9 = true
        · rw [if_pos o11] at hr
          replace hr := m_bind hr; obtain ⟨r9, g8, hr⟩ := hr
          refine j_callV (Y' := Y_X10_late) (a := a0) (as := [.int s_4.2, .int a1]) (ci := 9) (T := TX10) (N := 30) ok_X10_late [some (.ref a0), some (.int s_4.2), some (.int a1), none] rfl rfl rfl tw_4_186 tw_4_188 tw_p_28 nn_X10_late (Nat.le_of_ble_eq_true rfl) dX10_overdue_28 o11 (j_X10_late g8) ?_
          refine j_if_le (tgt := 38) dX10_overdue_31 rfl (fun c10 => ?_) (fun c10 => ?_)
          · rw [if_pos c10] at hr
            refine j_iconst (v := 0) rfl dX10_overdue_38 ?_
            refine j_iadd dX10_overdue_39 ?_
            refine j_istore_n (i := 2) (L' := [some (.ref a0), some (.int a1), some (.int (s_4.1 + 0)), some (.int s_4.2)]) rfl (Nat.le_of_ble_eq_true rfl) rfl rfl dX10_overdue_40 ?_
            refine j_iinc (i := 3) (v := s_4.2 + 1) (L' := [some (.ref a0), some (.int a1), some (.int (s_4.1 + 0)), some (.int (s_4.2 + 1))]) rfl (m_o1 _) (Nat.le_of_ble_eq_true rfl) rfl rfl dX10_overdue_41 ?_
            refine j_goto (tgt := 16) dX10_overdue_44 rfl ?_
            cases hr
            exact j_weak (L' := [some (.ref a0), some (.int a1), some (.int (s_4.1 + 0)), some (.int (s_4.2 + 1))]) (And.intro rfl (And.intro rfl (And.intro rfl (And.intro rfl trivial)))) hk
          · rw [if_neg c10] at hr
            refine j_iconst (v := 1) rfl dX10_overdue_34 ?_
            refine j_goto (tgt := 39) dX10_overdue_35 rfl ?_
            refine j_iadd dX10_overdue_39 ?_
            refine j_istore_n (i := 2) (L' := [some (.ref a0), some (.int a1), some (.int (s_4.1 + 1)), some (.int s_4.2)]) rfl (Nat.le_of_ble_eq_true rfl) rfl rfl dX10_overdue_40 ?_
            refine j_iinc (i := 3) (v := s_4.2 + 1) (L' := [some (.ref a0), some (.int a1), some (.int (s_4.1 + 1)), some (.int (s_4.2 + 1))]) rfl (m_o1 _) (Nat.le_of_ble_eq_true rfl) rfl rfl dX10_overdue_41 ?_
            refine j_goto (tgt := 16) dX10_overdue_44 rfl ?_
            cases hr
            exact j_weak (L' := [some (.ref a0), some (.int a1), some (.int (s_4.1 + 1)), some (.int (s_4.2 + 1))]) (And.intro rfl (And.intro rfl (And.intro rfl (And.intro rfl trivial)))) hk
        · rw [if_neg o11] at hr
          cases hr
    · skip
      refine j_iload_n (i := 2) rfl rfl dX10_overdue_47 ?_
      cases hr
      exact j_ret dX10_overdue_48 m_rk_i
  · rw [if_pos c3] at hr
    refine j_iconst (v := (-1)) rfl dX10_overdue_10 ?_
    cases hr
    exact j_ret dX10_overdue_11 m_rk_i
def w_X10_lateOne_44 (h : mH) (a0 : Nat) (a1 : Int32) (s_4 : Int32) (r9 : Int32) : (Int32 × Int32) → Option ((Int32 × Int32) ⊕ (Int32)) := fun s_11 =>
  (m_gi h a0 9 6).bind fun x12 =>
  if x12 ≤ s_11.2 then
    some (.inr s_11.1)
  else
    if m_ob h a0 9 = true then
      (f_X10_late h a0 s_11.2 a1).bind fun r16 =>
      if r9 < r16 then
        some (.inl (s_11.1 + 1, s_11.2 + 1))
      else
        if m_ob h a0 9 = true then
          (f_X10_late h a0 s_11.2 a1).bind fun r19 =>
          if r19 = r9 then
            if s_4 ≤ s_11.2 then
              some (.inl (s_11.1 + 0, s_11.2 + 1))
            else
              some (.inl (s_11.1 + 1, s_11.2 + 1))
          else
            some (.inl (s_11.1 + 0, s_11.2 + 1))
        else none
    else none
def w_X10_lateOne_14 (h : mH) (a0 : Nat) (a1 : Int32) (a2 : Int32) : Int32 → Option ((Int32) ⊕ ((Unit) ⊕ (Int32))) := fun s_4 =>
  (m_gi h a0 9 6).bind fun x5 =>
  if x5 ≤ s_4 then
    some (.inr (.inl ()))
  else
    if m_ob h a0 9 = true then
      (f_X10_late h a0 s_4 a1).bind fun r9 =>
      if r9 = 0 then
        some (.inl (s_4 + 1))
      else
        (m_loop (w_X10_lateOne_44 h a0 a1 s_4 r9) 5000 ((0, 0))).bind fun e24 =>
        if e24 = a2 then
          some (.inr (.inr s_4))
        else
          some (.inl (s_4 + 1))
    else none
def f_X10_lateOne (h : mH) (a0 : Nat) (a1 : Int32) (a2 : Int32) : Option (Int32) :=
  (f_X10_in a1 0 100000).bind fun r2 =>
  if r2 = 0 then
    some ((-1))
  else
    (m_loop (w_X10_lateOne_14 h a0 a1 a2) 5000 0).bind fun e30 => match e30 with
    | .inl x31 =>
      some ((-1))
    | .inr v33 => some v33
def Y_X10_lateOne : mY := (yX10_lateOne, cX10_lateOne, 7, some (FieldType.int), .ireturn)
theorem ok_X10_lateOne : m_Ok Y_X10_lateOne := ⟨by decide +kernel, ⟨by decide +kernel, by decide +kernel⟩, tw_4_197, tw_1_7, by decide, Or.inr (Or.inl ⟨Or.inl rfl, rfl⟩)⟩
theorem nn_X10_lateOne : (parseMethodDescriptor Y_X10_lateOne.1.desc).map (fun q => q.parameters.length) = some 2 := by decide +kernel
set_option maxHeartbeats 4000000 in
set_option maxRecDepth 20000 in
theorem j_X10_lateOne {X : mX} {d : Nat} {h : mH} {a0 : Nat} {a1 : Int32} {a2 : Int32} {rv : Int32} (hd : 1 ≤ d) (hr : f_X10_lateOne h a0 a1 a2 = some rv) : m_J X Y_X10_lateOne d 0 [some (.ref a0), some (.int a1), some (.int a2), none, none, none, none] [] h (some (.int rv), h) := by
  obtain ⟨d, rfl⟩ : ∃ k, d = k + 1 := ⟨d - 1, by omega⟩
  unfold f_X10_lateOne at hr
  refine j_iload_n (i := 1) rfl rfl dX10_lateOne_0 ?_
  refine j_iconst (v := 0) rfl dX10_lateOne_1 ?_
  refine j_ldc (v := 100000) tw_4_96 dX10_lateOne_2 ?_
  replace hr := m_bind hr; obtain ⟨r2, g1, hr⟩ := hr
  refine j_callS (Y' := Y_X10_in) (as := [.int a1, .int 0, .int 100000]) ok_X10_in [some (.int a1), some (.int 0), some (.int 100000)] rfl rfl tw_4_54 tw_4_55 nn_X10_in (Nat.le_of_ble_eq_true rfl) dX10_lateOne_4 (j_X10_in g1) ?_
  refine j_if_ne (tgt := 12) dX10_lateOne_7 rfl (fun c3 => ?_) (fun c3 => ?_)
  · rw [if_neg c3] at hr
    refine j_iconst (v := 0) rfl dX10_lateOne_12 ?_
    refine j_istore_n (i := 3) (L' := [some (.ref a0), some (.int a1), some (.int a2), some (.int 0), none, none, none]) rfl (Nat.le_of_ble_eq_true rfl) rfl rfl dX10_lateOne_13 ?_
    replace hr := m_bind hr; obtain ⟨e30, q34, hr⟩ := hr
    refine j_weak (L' := [some (.ref a0), some (.int a1), some (.int a2), some (.int 0), none, none, none]) (And.intro rfl (And.intro rfl (And.intro rfl (And.intro rfl trivial)))) ?_
    refine m_loop_sound (step := w_X10_lateOne_14 h a0 a1 a2) (P := fun s_4 => m_J X Y_X10_lateOne (d + 1) 14 [some (.ref a0), some (.int a1), some (.int a2), some (.int s_4), none, none, none] [] h (some (.int rv), h)) (Qe := fun e30 => match e30 with | .inl x31 => m_J X Y_X10_lateOne (d + 1) 113 [none, none, none, none, none, none, none] [] h (some (.int rv), h) | .inr v33 => ((some (.int rv), h) : mR) = (some (.int v33), h)) ?_ _ _ _ q34 ?_
    · intro s_4 o hr hk
      unfold w_X10_lateOne_14 at hr
      refine j_iload_n (i := 3) rfl rfl dX10_lateOne_14 ?_
      refine j_aload_n (i := 0) rfl rfl dX10_lateOne_15 ?_
      replace hr := m_bind hr; obtain ⟨x5, g6, hr⟩ := hr
      refine j_getf (C := RX10) (T := TX10) (N := 30) (ci := 9) (k := 6) rfl (by decide) inX10 tw_3_199 dX10_lateOne_16 (m_gi_spec g6) ?_
      refine j_ic_ge (tgt := 113) dX10_lateOne_19 rfl (fun c7 => ?_) (fun c7 => ?_)
      · rw [if_pos c7] at hr
        cases hr
        exact j_weak (L' := [none, none, none, none, none, none, none]) trivial hk
      · rw [if_neg c7] at hr
        refine j_aload_n (i := 0) rfl rfl dX10_lateOne_22 ?_
        refine j_iload_n (i := 3) rfl rfl dX10_lateOne_23 ?_
        refine j_iload_n (i := 1) rfl rfl dX10_lateOne_24 ?_
        by_cases o29 : m_ob h a0 9 = true
        · rw [if_pos o29] at hr
          replace hr := m_bind hr; obtain ⟨r9, g8, hr⟩ := hr
          refine j_callV (Y' := Y_X10_late) (a := a0) (as := [.int s_4, .int a1]) (ci := 9) (T := TX10) (N := 30) ok_X10_late [some (.ref a0), some (.int s_4), some (.int a1), none] rfl rfl rfl tw_4_186 tw_4_188 tw_p_28 nn_X10_late (Nat.le_of_ble_eq_true rfl) dX10_lateOne_25 o29 (j_X10_late g8) ?_
          refine j_istore (i := 4) (L' := [some (.ref a0), some (.int a1), some (.int a2), some (.int s_4), some (.int r9), none, none]) (Nat.le_of_ble_eq_true rfl) rfl rfl dX10_lateOne_28 ?_
          refine j_iload (i := 4) rfl dX10_lateOne_30 ?_
          refine j_if_ne (tgt := 38) dX10_lateOne_32 rfl (fun c10 => ?_) (fun c10 => ?_)
          · rw [if_neg c10] at hr
            refine j_iconst (v := 0) rfl dX10_lateOne_38 ?_
            refine j_istore (i := 5) (L' := [some (.ref a0), some (.int a1), some (.int a2), some (.int s_4), some (.int r9), some (.int 0), none]) (Nat.le_of_ble_eq_true rfl) rfl rfl dX10_lateOne_39 ?_
            refine j_iconst (v := 0) rfl dX10_lateOne_41 ?_
            refine j_istore (i := 6) (L' := [some (.ref a0), some (.int a1), some (.int a2), some (.int s_4), some (.int r9), some (.int 0), some (.int 0)]) (Nat.le_of_ble_eq_true rfl) rfl rfl dX10_lateOne_42 ?_
            replace hr := m_bind hr; obtain ⟨e24, q28, hr⟩ := hr
            refine j_weak (L' := [some (.ref a0), some (.int a1), some (.int a2), some (.int s_4), some (.int r9), some (.int 0), some (.int 0)]) (And.intro rfl (And.intro rfl (And.intro rfl (And.intro rfl (And.intro rfl (And.intro rfl (And.intro rfl trivial))))))) ?_
            refine m_loop_sound (step := w_X10_lateOne_44 h a0 a1 s_4 r9) (P := fun s_11 => m_J X Y_X10_lateOne (d + 1) 44 [some (.ref a0), some (.int a1), some (.int a2), some (.int s_4), some (.int r9), some (.int s_11.1), some (.int s_11.2)] [] h (some (.int rv), h)) (Qe := fun e24 => m_J X Y_X10_lateOne (d + 1) 99 [some (.ref a0), some (.int a1), some (.int a2), some (.int s_4), none, some (.int e24), none] [] h (some (.int rv), h)) ?_ _ _ _ q28 ?_
            · intro s_11 o hr hk
              unfold w_X10_lateOne_44 at hr
              refine j_iload (i := 6) rfl dX10_lateOne_44 ?_
              refine j_aload_n (i := 0) rfl rfl dX10_lateOne_46 ?_
              replace hr := m_bind hr; obtain ⟨x12, g13, hr⟩ := hr
              refine j_getf (C := RX10) (T := TX10) (N := 30) (ci := 9) (k := 6) rfl (by decide) inX10 tw_3_199 dX10_lateOne_47 (m_gi_spec g13) ?_
              refine j_ic_ge (tgt := 99) dX10_lateOne_50 rfl (fun c14 => ?_) (fun c14 => ?_)
              · rw [if_pos c14] at hr
                cases hr
                exact j_weak (L' := [some (.ref a0), some (.int a1), some (.int a2), some (.int s_4), none, some (.int s_11.1), none]) (And.intro rfl (And.intro rfl (And.intro rfl (And.intro rfl (And.intro rfl trivial))))) hk
              · rw [if_neg c14] at hr
                refine j_iload (i := 5) rfl dX10_lateOne_53 ?_
                refine j_aload_n (i := 0) rfl rfl dX10_lateOne_55 ?_
                refine j_iload (i := 6) rfl dX10_lateOne_56 ?_
                refine j_iload_n (i := 1) rfl rfl dX10_lateOne_58 ?_
                by_cases o23 : m_ob h a0 9 = true
                · rw [if_pos o23] at hr
                  replace hr := m_bind hr; obtain ⟨r16, g15, hr⟩ := hr
                  refine j_callV (Y' := Y_X10_late) (a := a0) (as := [.int s_11.2, .int a1]) (ci := 9) (T := TX10) (N := 30) ok_X10_late [some (.ref a0), some (.int s_11.2), some (.int a1), none] rfl rfl rfl tw_4_186 tw_4_188 tw_p_28 nn_X10_late (Nat.le_of_ble_eq_true rfl) dX10_lateOne_59 o23 (j_X10_late g15) ?_
                  refine j_iload (i := 4) rfl dX10_lateOne_62 ?_
                  refine j_ic_gt (tgt := 85) dX10_lateOne_64 rfl (fun c17 => ?_) (fun c17 => ?_)
                  · rw [if_pos c17] at hr
                    refine j_iconst (v := 1) rfl dX10_lateOne_85 ?_
                    refine j_goto (tgt := 90) dX10_lateOne_86 rfl ?_
                    refine j_iadd dX10_lateOne_90 ?_
                    refine j_istore (i := 5) (L' := [some (.ref a0), some (.int a1), some (.int a2), some (.int s_4), some (.int r9), some (.int (s_11.1 + 1)), some (.int s_11.2)]) (Nat.le_of_ble_eq_true rfl) rfl rfl dX10_lateOne_91 ?_
                    refine j_iinc (i := 6) (v := s_11.2 + 1) (L' := [some (.ref a0), some (.int a1), some (.int a2), some (.int s_4), some (.int r9), some (.int (s_11.1 + 1)), some (.int (s_11.2 + 1))]) rfl (m_o1 _) (Nat.le_of_ble_eq_true rfl) rfl rfl dX10_lateOne_93 ?_
                    refine j_goto (tgt := 44) dX10_lateOne_96 rfl ?_
                    cases hr
                    exact j_weak (L' := [some (.ref a0), some (.int a1), some (.int a2), some (.int s_4), some (.int r9), some (.int (s_11.1 + 1)), some (.int (s_11.2 + 1))]) (And.intro rfl (And.intro rfl (And.intro rfl (And.intro rfl (And.intro rfl (And.intro rfl (And.intro rfl trivial))))))) hk
                  · rw [if_neg c17] at hr
                    refine j_aload_n (i := 0) rfl rfl dX10_lateOne_67 ?_
                    refine j_iload (i := 6) rfl dX10_lateOne_68 ?_
                    refine j_iload_n (i := 1) rfl rfl dX10_lateOne_70 ?_
                    by_cases o22 : m_ob h a0 9 = true
                    · rw [if_pos o22] at hr
                      replace hr := m_bind hr; obtain ⟨r19, g18, hr⟩ := hr
                      refine j_callV (Y' := Y_X10_late) (a := a0) (as := [.int s_11.2, .int a1]) (ci := 9) (T := TX10) (N := 30) ok_X10_late [some (.ref a0), some (.int s_11.2), some (.int a1), none] rfl rfl rfl tw_4_186 tw_4_188 tw_p_28 nn_X10_late (Nat.le_of_ble_eq_true rfl) dX10_lateOne_71 o22 (j_X10_late g18) ?_
                      refine j_iload (i := 4) rfl dX10_lateOne_74 ?_
                      refine j_ic_ne (tgt := 89) dX10_lateOne_76 rfl (fun c20 => ?_) (fun c20 => ?_)
                      · rw [if_neg c20] at hr
                        refine j_iconst (v := 0) rfl dX10_lateOne_89 ?_
                        refine j_iadd dX10_lateOne_90 ?_
                        refine j_istore (i := 5) (L' := [some (.ref a0), some (.int a1), some (.int a2), some (.int s_4), some (.int r9), some (.int (s_11.1 + 0)), some (.int s_11.2)]) (Nat.le_of_ble_eq_true rfl) rfl rfl dX10_lateOne_91 ?_
                        refine j_iinc (i := 6) (v := s_11.2 + 1) (L' := [some (.ref a0), some (.int a1), some (.int a2), some (.int s_4), some (.int r9), some (.int (s_11.1 + 0)), some (.int (s_11.2 + 1))]) rfl (m_o1 _) (Nat.le_of_ble_eq_true rfl) rfl rfl dX10_lateOne_93 ?_
                        refine j_goto (tgt := 44) dX10_lateOne_96 rfl ?_
                        cases hr
                        exact j_weak (L' := [some (.ref a0), some (.int a1), some (.int a2), some (.int s_4), some (.int r9), some (.int (s_11.1 + 0)), some (.int (s_11.2 + 1))]) (And.intro rfl (And.intro rfl (And.intro rfl (And.intro rfl (And.intro rfl (And.intro rfl (And.intro rfl trivial))))))) hk
                      · rw [if_pos c20] at hr
                        refine j_iload (i := 6) rfl dX10_lateOne_79 ?_
                        refine j_iload_n (i := 3) rfl rfl dX10_lateOne_81 ?_
                        refine j_ic_ge (tgt := 89) dX10_lateOne_82 rfl (fun c21 => ?_) (fun c21 => ?_)
                        · rw [if_pos c21] at hr
                          refine j_iconst (v := 0) rfl dX10_lateOne_89 ?_
                          refine j_iadd dX10_lateOne_90 ?_
                          refine j_istore (i := 5) (L' := [some (.ref a0), some (.int a1), some (.int a2), some (.int s_4), some (.int r9), some (.int (s_11.1 + 0)), some (.int s_11.2)]) (Nat.le_of_ble_eq_true rfl) rfl rfl dX10_lateOne_91 ?_
                          refine j_iinc (i := 6) (v := s_11.2 + 1) (L' := [some (.ref a0), some (.int a1), some (.int a2), some (.int s_4), some (.int r9), some (.int (s_11.1 + 0)), some (.int (s_11.2 + 1))]) rfl (m_o1 _) (Nat.le_of_ble_eq_true rfl) rfl rfl dX10_lateOne_93 ?_
                          refine j_goto (tgt := 44) dX10_lateOne_96 rfl ?_
                          cases hr
                          exact j_weak (L' := [some (.ref a0), some (.int a1), some (.int a2), some (.int s_4), some (.int r9), some (.int (s_11.1 + 0)), some (.int (s_11.2 + 1))]) (And.intro rfl (And.intro rfl (And.intro rfl (And.intro rfl (And.intro rfl (And.intro rfl (And.intro rfl trivial))))))) hk
                        · rw [if_neg c21] at hr
                          refine j_iconst (v := 1) rfl dX10_lateOne_85 ?_
                          refine j_goto (tgt := 90) dX10_lateOne_86 rfl ?_
                          refine j_iadd dX10_lateOne_90 ?_
                          refine j_istore (i := 5) (L' := [some (.ref a0), some (.int a1), some (.int a2), some (.int s_4), some (.int r9), some (.int (s_11.1 + 1)), some (.int s_11.2)]) (Nat.le_of_ble_eq_true rfl) rfl rfl dX10_lateOne_91 ?_
                          refine j_iinc (i := 6) (v := s_11.2 + 1) (L' := [some (.ref a0), some (.int a1), some (.int a2), some (.int s_4), some (.int r9), some (.int (s_11.1 + 1)), some (.int (s_11.2 + 1))]) rfl (m_o1 _) (Nat.le_of_ble_eq_true rfl) rfl rfl dX10_lateOne_93 ?_
                          refine j_goto (tgt := 44) dX10_lateOne_96 rfl ?_
                          cases hr
                          exact j_weak (L' := [some (.ref a0), some (.int a1), some (.int a2), some (.int s_4), some (.int r9), some (.int (s_11.1 + 1)), some (.int (s_11.2 + 1))]) (And.intro rfl (And.intro rfl (And.intro rfl (And.intro rfl (And.intro rfl (And.intro rfl (And.intro rfl trivial))))))) hk
                    · rw [if_neg o22] at hr
                      cases hr
                · rw [if_neg o23] at hr
                  cases hr
            · skip
              refine j_iload (i := 5) rfl dX10_lateOne_99 ?_
              refine j_iload_n (i := 2) rfl rfl dX10_lateOne_101 ?_
              refine j_ic_ne (tgt := 107) dX10_lateOne_102 rfl (fun c25 => ?_) (fun c25 => ?_)
              · rw [if_neg c25] at hr
                refine j_iinc (i := 3) (v := s_4 + 1) (L' := [some (.ref a0), some (.int a1), some (.int a2), some (.int (s_4 + 1)), none, some (.int e24), none]) rfl (m_o1 _) (Nat.le_of_ble_eq_true rfl) rfl rfl dX10_lateOne_107 ?_
                refine j_goto (tgt := 14) dX10_lateOne_110 rfl ?_
                cases hr
                exact j_weak (L' := [some (.ref a0), some (.int a1), some (.int a2), some (.int (s_4 + 1)), none, none, none]) (And.intro rfl (And.intro rfl (And.intro rfl (And.intro rfl trivial)))) hk
              · rw [if_pos c25] at hr
                refine j_iload_n (i := 3) rfl rfl dX10_lateOne_105 ?_
                cases hr
                rw [show _ = _ from hk]
                exact j_ret dX10_lateOne_106 m_rk_i
          · rw [if_pos c10] at hr
            refine j_goto (tgt := 107) dX10_lateOne_35 rfl ?_
            refine j_iinc (i := 3) (v := s_4 + 1) (L' := [some (.ref a0), some (.int a1), some (.int a2), some (.int (s_4 + 1)), some (.int r9), none, none]) rfl (m_o1 _) (Nat.le_of_ble_eq_true rfl) rfl rfl dX10_lateOne_107 ?_
            refine j_goto (tgt := 14) dX10_lateOne_110 rfl ?_
            cases hr
            exact j_weak (L' := [some (.ref a0), some (.int a1), some (.int a2), some (.int (s_4 + 1)), none, none, none]) (And.intro rfl (And.intro rfl (And.intro rfl (And.intro rfl trivial)))) hk
        · rw [if_neg o29] at hr
          cases hr
    · cases e30 with
      | inl x31 =>
        dsimp only at hr
        dsimp only
        refine j_iconst (v := (-1)) rfl dX10_lateOne_113 ?_
        cases hr
        exact j_ret dX10_lateOne_114 m_rk_i
      | inr v33 =>
        dsimp only at hr
        cases hr
        rfl
  · rw [if_pos c3] at hr
    refine j_iconst (v := (-1)) rfl dX10_lateOne_10 ?_
    cases hr
    exact j_ret dX10_lateOne_11 m_rk_i
def w_X10_fees_32 (h : mH) (a0 : Nat) (a1 : Int32) (a2 : Int32) : (Int32 × Int32) → Option ((Int32 × Int32) ⊕ (Int32)) := fun s_13 =>
  (m_gi h a0 9 6).bind fun x14 =>
  if x14 ≤ s_13.2 then
    some (.inr s_13.1)
  else
    (m_gr h a0 9 13).bind fun q17 =>
    (q17).bind fun b19 =>
    (m_ild h b19 s_13.2).bind fun x21 =>
    if x21 = a1 then
      if m_ob h a0 9 = true then
        (f_X10_due h a0 s_13.2 a2).bind fun r25 =>
        some (.inl (s_13.1 + r25, s_13.2 + 1))
      else none
    else
      some (.inl (s_13.1 + 0, s_13.2 + 1))
def f_X10_fees (h : mH) (a0 : Nat) (a1 : Int32) (a2 : Int32) : Option (Int32) :=
  (f_X10_in a1 0 19).bind fun r2 =>
  if r2 = 0 then
    some ((-1))
  else
    (f_X10_in a2 0 100000).bind fun r5 =>
    if r5 = 0 then
      some ((-1))
    else
      (m_gr h a0 9 22).bind fun q7 =>
      (q7).bind fun b9 =>
      (m_ild h b9 a1).bind fun x11 =>
      (m_loop (w_X10_fees_32 h a0 a1 a2) 5000 ((x11, 0))).bind fun e27 =>
      some e27
def Y_X10_fees : mY := (yX10_fees, cX10_fees, 5, some (FieldType.int), .ireturn)
theorem ok_X10_fees : m_Ok Y_X10_fees := ⟨by decide +kernel, ⟨by decide +kernel, by decide +kernel⟩, tw_4_201, tw_1_7, by decide, Or.inr (Or.inl ⟨Or.inl rfl, rfl⟩)⟩
theorem nn_X10_fees : (parseMethodDescriptor Y_X10_fees.1.desc).map (fun q => q.parameters.length) = some 2 := by decide +kernel
set_option maxHeartbeats 4000000 in
set_option maxRecDepth 20000 in
theorem j_X10_fees {X : mX} {d : Nat} {h : mH} {a0 : Nat} {a1 : Int32} {a2 : Int32} {rv : Int32} (hd : 2 ≤ d) (hr : f_X10_fees h a0 a1 a2 = some rv) : m_J X Y_X10_fees d 0 [some (.ref a0), some (.int a1), some (.int a2), none, none] [] h (some (.int rv), h) := by
  obtain ⟨d, rfl⟩ : ∃ k, d = k + 1 := ⟨d - 1, by omega⟩
  unfold f_X10_fees at hr
  refine j_iload_n (i := 1) rfl rfl dX10_fees_0 ?_
  refine j_iconst (v := 0) rfl dX10_fees_1 ?_
  refine j_bipush (v := 19) rfl dX10_fees_2 ?_
  replace hr := m_bind hr; obtain ⟨r2, g1, hr⟩ := hr
  refine j_callS (Y' := Y_X10_in) (as := [.int a1, .int 0, .int 19]) ok_X10_in [some (.int a1), some (.int 0), some (.int 19)] rfl rfl tw_4_54 tw_4_55 nn_X10_in (Nat.le_of_ble_eq_true rfl) dX10_fees_4 (j_X10_in g1) ?_
  refine j_if_eq (tgt := 20) dX10_fees_7 rfl (fun c3 => ?_) (fun c3 => ?_)
  · rw [if_pos c3] at hr
    refine j_iconst (v := (-1)) rfl dX10_fees_20 ?_
    cases hr
    exact j_ret dX10_fees_21 m_rk_i
  · rw [if_neg c3] at hr
    refine j_iload_n (i := 2) rfl rfl dX10_fees_10 ?_
    refine j_iconst (v := 0) rfl dX10_fees_11 ?_
    refine j_ldc (v := 100000) tw_4_96 dX10_fees_12 ?_
    replace hr := m_bind hr; obtain ⟨r5, g4, hr⟩ := hr
    refine j_callS (Y' := Y_X10_in) (as := [.int a2, .int 0, .int 100000]) ok_X10_in [some (.int a2), some (.int 0), some (.int 100000)] rfl rfl tw_4_54 tw_4_55 nn_X10_in (Nat.le_of_ble_eq_true rfl) dX10_fees_14 (j_X10_in g4) ?_
    refine j_if_ne (tgt := 22) dX10_fees_17 rfl (fun c6 => ?_) (fun c6 => ?_)
    · rw [if_neg c6] at hr
      refine j_aload_n (i := 0) rfl rfl dX10_fees_22 ?_
      replace hr := m_bind hr; obtain ⟨q7, g8, hr⟩ := hr
      refine j_getf (C := RX10) (T := TX10) (N := 30) (ci := 9) (k := 22) rfl (by decide) inX10 tw_3_215 dX10_fees_23 (m_gr_spec g8) ?_
      refine j_iload_n (i := 1) rfl rfl dX10_fees_26 ?_
      replace hr := m_bind hr; obtain ⟨b9, g10, hr⟩ := hr
      subst g10
      replace hr := m_bind hr; obtain ⟨x11, g12, hr⟩ := hr
      refine j_iaload dX10_fees_27 g12 ?_
      refine j_istore_n (i := 3) (L' := [some (.ref a0), some (.int a1), some (.int a2), some (.int x11), none]) rfl (Nat.le_of_ble_eq_true rfl) rfl rfl dX10_fees_28 ?_
      refine j_iconst (v := 0) rfl dX10_fees_29 ?_
      refine j_istore (i := 4) (L' := [some (.ref a0), some (.int a1), some (.int a2), some (.int x11), some (.int 0)]) (Nat.le_of_ble_eq_true rfl) rfl rfl dX10_fees_30 ?_
      replace hr := m_bind hr; obtain ⟨e27, q30, hr⟩ := hr
      refine j_weak (L' := [some (.ref a0), some (.int a1), some (.int a2), some (.int x11), some (.int 0)]) (And.intro rfl (And.intro rfl (And.intro rfl (And.intro rfl (And.intro rfl trivial))))) ?_
      refine m_loop_sound (step := w_X10_fees_32 h a0 a1 a2) (P := fun s_13 => m_J X Y_X10_fees (d + 1) 32 [some (.ref a0), some (.int a1), some (.int a2), some (.int s_13.1), some (.int s_13.2)] [] h (some (.int rv), h)) (Qe := fun e27 => m_J X Y_X10_fees (d + 1) 72 [none, none, none, some (.int e27), none] [] h (some (.int rv), h)) ?_ _ _ _ q30 ?_
      · intro s_13 o hr hk
        unfold w_X10_fees_32 at hr
        refine j_iload (i := 4) rfl dX10_fees_32 ?_
        refine j_aload_n (i := 0) rfl rfl dX10_fees_34 ?_
        replace hr := m_bind hr; obtain ⟨x14, g15, hr⟩ := hr
        refine j_getf (C := RX10) (T := TX10) (N := 30) (ci := 9) (k := 6) rfl (by decide) inX10 tw_3_199 dX10_fees_35 (m_gi_spec g15) ?_
        refine j_ic_ge (tgt := 72) dX10_fees_38 rfl (fun c16 => ?_) (fun c16 => ?_)
        · rw [if_pos c16] at hr
          cases hr
          exact j_weak (L' := [none, none, none, some (.int s_13.1), none]) (And.intro rfl trivial) hk
        · rw [if_neg c16] at hr
          refine j_iload_n (i := 3) rfl rfl dX10_fees_41 ?_
          refine j_aload_n (i := 0) rfl rfl dX10_fees_42 ?_
          replace hr := m_bind hr; obtain ⟨q17, g18, hr⟩ := hr
          refine j_getf (C := RX10) (T := TX10) (N := 30) (ci := 9) (k := 13) rfl (by decide) inX10 tw_3_206 dX10_fees_43 (m_gr_spec g18) ?_
          refine j_iload (i := 4) rfl dX10_fees_46 ?_
          replace hr := m_bind hr; obtain ⟨b19, g20, hr⟩ := hr
          subst g20
          replace hr := m_bind hr; obtain ⟨x21, g22, hr⟩ := hr
          refine j_iaload dX10_fees_48 g22 ?_
          refine j_iload_n (i := 1) rfl rfl dX10_fees_49 ?_
          refine j_ic_ne (tgt := 63) dX10_fees_50 rfl (fun c23 => ?_) (fun c23 => ?_)
          · rw [if_neg c23] at hr
            refine j_iconst (v := 0) rfl dX10_fees_63 ?_
            refine j_iadd dX10_fees_64 ?_
            refine j_istore_n (i := 3) (L' := [some (.ref a0), some (.int a1), some (.int a2), some (.int (s_13.1 + 0)), some (.int s_13.2)]) rfl (Nat.le_of_ble_eq_true rfl) rfl rfl dX10_fees_65 ?_
            refine j_iinc (i := 4) (v := s_13.2 + 1) (L' := [some (.ref a0), some (.int a1), some (.int a2), some (.int (s_13.1 + 0)), some (.int (s_13.2 + 1))]) rfl (m_o1 _) (Nat.le_of_ble_eq_true rfl) rfl rfl dX10_fees_66 ?_
            refine j_goto (tgt := 32) dX10_fees_69 rfl ?_
            cases hr
            exact j_weak (L' := [some (.ref a0), some (.int a1), some (.int a2), some (.int (s_13.1 + 0)), some (.int (s_13.2 + 1))]) (And.intro rfl (And.intro rfl (And.intro rfl (And.intro rfl (And.intro rfl trivial))))) hk
          · rw [if_pos c23] at hr
            refine j_aload_n (i := 0) rfl rfl dX10_fees_53 ?_
            refine j_iload (i := 4) rfl dX10_fees_54 ?_
            refine j_iload_n (i := 2) rfl rfl dX10_fees_56 ?_
            by_cases o26 : m_ob h a0 9 = true
            · rw [if_pos o26] at hr
              replace hr := m_bind hr; obtain ⟨r25, g24, hr⟩ := hr
              refine j_callV (Y' := Y_X10_due) (a := a0) (as := [.int s_13.2, .int a2]) (ci := 9) (T := TX10) (N := 30) ok_X10_due [some (.ref a0), some (.int s_13.2), some (.int a2), none, none] rfl rfl rfl tw_4_182 tw_4_184 tw_p_27 nn_X10_due (Nat.le_of_ble_eq_true rfl) dX10_fees_57 o26 (j_X10_due (by omega) g24) ?_
              refine j_goto (tgt := 64) dX10_fees_60 rfl ?_
              refine j_iadd dX10_fees_64 ?_
              refine j_istore_n (i := 3) (L' := [some (.ref a0), some (.int a1), some (.int a2), some (.int (s_13.1 + r25)), some (.int s_13.2)]) rfl (Nat.le_of_ble_eq_true rfl) rfl rfl dX10_fees_65 ?_
              refine j_iinc (i := 4) (v := s_13.2 + 1) (L' := [some (.ref a0), some (.int a1), some (.int a2), some (.int (s_13.1 + r25)), some (.int (s_13.2 + 1))]) rfl (m_o1 _) (Nat.le_of_ble_eq_true rfl) rfl rfl dX10_fees_66 ?_
              refine j_goto (tgt := 32) dX10_fees_69 rfl ?_
              cases hr
              exact j_weak (L' := [some (.ref a0), some (.int a1), some (.int a2), some (.int (s_13.1 + r25)), some (.int (s_13.2 + 1))]) (And.intro rfl (And.intro rfl (And.intro rfl (And.intro rfl (And.intro rfl trivial))))) hk
            · rw [if_neg o26] at hr
              cases hr
      · skip
        refine j_iload_n (i := 3) rfl rfl dX10_fees_72 ?_
        cases hr
        exact j_ret dX10_fees_73 m_rk_i
    · rw [if_pos c6] at hr
      refine j_iconst (v := (-1)) rfl dX10_fees_20 ?_
      cases hr
      exact j_ret dX10_fees_21 m_rk_i
def f_X10_isEnd (a0 : Int32) (a1 : Int32) : Option (Int32) :=
  if a0 = ((-1)) then
    some 1
  else
    (f_X10_isCode a0).bind fun r3 =>
    if r3 = 0 then
      (f_X10_in a0 (201 + a1) 239).bind fun r6 =>
      if r6 = 0 then
        some 0
      else
        some 1
    else
      some 1
def Y_X10_isEnd : mY := (yX10_isEnd, cX10_isEnd, 2, some (FieldType.boolean), .ireturn)
theorem ok_X10_isEnd : m_Ok Y_X10_isEnd := ⟨by decide +kernel, ⟨by decide +kernel, by decide +kernel⟩, tw_4_208, tw_1_7, by decide, Or.inr (Or.inl ⟨Or.inr rfl, rfl⟩)⟩
theorem nn_X10_isEnd : (parseMethodDescriptor Y_X10_isEnd.1.desc).map (fun q => q.parameters.length) = some 2 := by decide +kernel
set_option maxHeartbeats 4000000 in
set_option maxRecDepth 20000 in
theorem j_X10_isEnd {X : mX} {h : mH} {d : Nat} {a0 : Int32} {a1 : Int32} {rv : Int32} (hd : 3 ≤ d) (hr : f_X10_isEnd a0 a1 = some rv) : m_J X Y_X10_isEnd d 0 [some (.int a0), some (.int a1)] [] h (some (.int rv), h) := by
  obtain ⟨d, rfl⟩ : ∃ k, d = k + 1 := ⟨d - 1, by omega⟩
  unfold f_X10_isEnd at hr
  refine j_iload_n (i := 0) rfl rfl dX10_isEnd_0 ?_
  refine j_iconst (v := (-1)) rfl dX10_isEnd_1 ?_
  refine j_ic_eq (tgt := 27) dX10_isEnd_2 rfl (fun c1 => ?_) (fun c1 => ?_)
  · rw [if_pos c1] at hr
    refine j_iconst (v := 1) rfl dX10_isEnd_27 ?_
    refine j_goto (tgt := 32) dX10_isEnd_28 rfl ?_
    cases hr
    exact j_ret dX10_isEnd_32 m_rk_z1
  · rw [if_neg c1] at hr
    refine j_iload_n (i := 0) rfl rfl dX10_isEnd_5 ?_
    replace hr := m_bind hr; obtain ⟨r3, g2, hr⟩ := hr
    refine j_callS (Y' := Y_X10_isCode) (as := [.int a0]) ok_X10_isCode [some (.int a0)] rfl rfl tw_4_48 tw_4_49 nn_X10_isCode (Nat.le_of_ble_eq_true rfl) dX10_isEnd_6 (j_X10_isCode (by omega) g2) ?_
    refine j_if_ne (tgt := 27) dX10_isEnd_9 rfl (fun c4 => ?_) (fun c4 => ?_)
    · rw [if_neg c4] at hr
      refine j_iconst (v := 1) rfl dX10_isEnd_27 ?_
      refine j_goto (tgt := 32) dX10_isEnd_28 rfl ?_
      cases hr
      exact j_ret dX10_isEnd_32 m_rk_z1
    · rw [if_pos c4] at hr
      refine j_iload_n (i := 0) rfl rfl dX10_isEnd_12 ?_
      refine j_sipush (v := 201) rfl dX10_isEnd_13 ?_
      refine j_iload_n (i := 1) rfl rfl dX10_isEnd_16 ?_
      refine j_iadd dX10_isEnd_17 ?_
      refine j_sipush (v := 239) rfl dX10_isEnd_18 ?_
      replace hr := m_bind hr; obtain ⟨r6, g5, hr⟩ := hr
      refine j_callS (Y' := Y_X10_in) (as := [.int a0, .int (201 + a1), .int 239]) ok_X10_in [some (.int a0), some (.int (201 + a1)), some (.int 239)] rfl rfl tw_4_54 tw_4_55 nn_X10_in (Nat.le_of_ble_eq_true rfl) dX10_isEnd_21 (j_X10_in g5) ?_
      refine j_if_eq (tgt := 31) dX10_isEnd_24 rfl (fun c7 => ?_) (fun c7 => ?_)
      · rw [if_pos c7] at hr
        refine j_iconst (v := 0) rfl dX10_isEnd_31 ?_
        cases hr
        exact j_ret dX10_isEnd_32 m_rk_z0
      · rw [if_neg c7] at hr
        refine j_iconst (v := 1) rfl dX10_isEnd_27 ?_
        refine j_goto (tgt := 32) dX10_isEnd_28 rfl ?_
        cases hr
        exact j_ret dX10_isEnd_32 m_rk_z1
def f_X10_question (h : mH) (a0 : Nat) (a1 : Int32) (a2 : Int32) (a3 : Int32) (a4 : Int32) (a5 : Int32) : Option (Int32 × mH) :=
  (f_X10_in a1 0 9).bind fun r2 =>
  if r2 = 0 then
    some (((-1), h))
  else
    (m_gr h a0 9 24).bind fun q4 =>
    (q4).bind fun b6 =>
    (m_ild h b6 a1).bind fun x8 =>
    if x8 = 40 then
      some (((-1), h))
    else
      if a2 = 60 then
        (f_X10_in a3 0 100000).bind fun r14 =>
        if r14 = 0 then
          some (((-1), h))
        else
          (m_gr h a0 9 24).bind fun q16 =>
          (q16).bind fun b18 =>
          (m_ild h b18 a1).bind fun x20 =>
          (f_X10_isEnd a4 x20).bind fun r23 =>
          if r23 = 0 then
            some (((-1), h))
          else
            (f_X10_isEnd a5 x20).bind fun r26 =>
            if r26 = 0 then
              some (((-1), h))
            else
              (m_gr h a0 9 25).bind fun q28 =>
              (q28).bind fun b30 =>
              (m_ist h b30 ((40 * a1) + x20) a2).bind fun h32 =>
              (m_gr h32 a0 9 26).bind fun q34 =>
              (q34).bind fun b36 =>
              (m_ist h32 b36 ((40 * a1) + x20) a3).bind fun h38 =>
              (m_gr h38 a0 9 27).bind fun q40 =>
              (q40).bind fun b42 =>
              (m_ist h38 b42 ((40 * a1) + x20) a4).bind fun h44 =>
              (m_gr h44 a0 9 28).bind fun q46 =>
              (q46).bind fun b48 =>
              (m_ist h44 b48 ((40 * a1) + x20) a5).bind fun h50 =>
              (m_gr h50 a0 9 24).bind fun q52 =>
              (q52).bind fun b54 =>
              (m_ild h50 b54 a1).bind fun x56 =>
              (m_ist h50 b54 a1 (x56 + 1)).bind fun h58 =>
              some ((x20 + 1, h58))
      else
        if a2 = 61 then
          (f_X10_in a3 0 100000).bind fun r112 =>
          if r112 = 0 then
            some (((-1), h))
          else
            (m_gr h a0 9 24).bind fun q114 =>
            (q114).bind fun b116 =>
            (m_ild h b116 a1).bind fun x118 =>
            (f_X10_isEnd a4 x118).bind fun r121 =>
            if r121 = 0 then
              some (((-1), h))
            else
              (f_X10_isEnd a5 x118).bind fun r124 =>
              if r124 = 0 then
                some (((-1), h))
              else
                (m_gr h a0 9 25).bind fun q126 =>
                (q126).bind fun b128 =>
                (m_ist h b128 ((40 * a1) + x118) a2).bind fun h130 =>
                (m_gr h130 a0 9 26).bind fun q132 =>
                (q132).bind fun b134 =>
                (m_ist h130 b134 ((40 * a1) + x118) a3).bind fun h136 =>
                (m_gr h136 a0 9 27).bind fun q138 =>
                (q138).bind fun b140 =>
                (m_ist h136 b140 ((40 * a1) + x118) a4).bind fun h142 =>
                (m_gr h142 a0 9 28).bind fun q144 =>
                (q144).bind fun b146 =>
                (m_ist h142 b146 ((40 * a1) + x118) a5).bind fun h148 =>
                (m_gr h148 a0 9 24).bind fun q150 =>
                (q150).bind fun b152 =>
                (m_ild h148 b152 a1).bind fun x154 =>
                (m_ist h148 b152 a1 (x154 + 1)).bind fun h156 =>
                some ((x118 + 1, h156))
        else
          (f_X10_isCode a2).bind fun r63 =>
          if r63 = 0 then
            some (((-1), h))
          else
            if a3 = 0 then
              (m_gr h a0 9 24).bind fun q66 =>
              (q66).bind fun b68 =>
              (m_ild h b68 a1).bind fun x70 =>
              (f_X10_isEnd a4 x70).bind fun r73 =>
              if r73 = 0 then
                some (((-1), h))
              else
                (f_X10_isEnd a5 x70).bind fun r76 =>
                if r76 = 0 then
                  some (((-1), h))
                else
                  (m_gr h a0 9 25).bind fun q78 =>
                  (q78).bind fun b80 =>
                  (m_ist h b80 ((40 * a1) + x70) a2).bind fun h82 =>
                  (m_gr h82 a0 9 26).bind fun q84 =>
                  (q84).bind fun b86 =>
                  (m_ist h82 b86 ((40 * a1) + x70) a3).bind fun h88 =>
                  (m_gr h88 a0 9 27).bind fun q90 =>
                  (q90).bind fun b92 =>
                  (m_ist h88 b92 ((40 * a1) + x70) a4).bind fun h94 =>
                  (m_gr h94 a0 9 28).bind fun q96 =>
                  (q96).bind fun b98 =>
                  (m_ist h94 b98 ((40 * a1) + x70) a5).bind fun h100 =>
                  (m_gr h100 a0 9 24).bind fun q102 =>
                  (q102).bind fun b104 =>
                  (m_ild h100 b104 a1).bind fun x106 =>
                  (m_ist h100 b104 a1 (x106 + 1)).bind fun h108 =>
                  some ((x70 + 1, h108))
            else
              some (((-1), h))
def Y_X10_question : mY := (yX10_question, cX10_question, 9, some (FieldType.int), .ireturn)
theorem ok_X10_question : m_Ok Y_X10_question := ⟨by decide +kernel, ⟨by decide +kernel, by decide +kernel⟩, tw_4_205, tw_1_7, by decide, Or.inr (Or.inl ⟨Or.inl rfl, rfl⟩)⟩
theorem nn_X10_question : (parseMethodDescriptor Y_X10_question.1.desc).map (fun q => q.parameters.length) = some 5 := by decide +kernel
set_option maxHeartbeats 4000000 in
set_option maxRecDepth 20000 in
theorem j_X10_question {X : mX} {d : Nat} {h : mH} {a0 : Nat} {a1 : Int32} {a2 : Int32} {a3 : Int32} {a4 : Int32} {a5 : Int32} {rv : Int32} {h' : mH} (hd : 4 ≤ d) (hr : f_X10_question h a0 a1 a2 a3 a4 a5 = some (rv, h')) : m_J X Y_X10_question d 0 [some (.ref a0), some (.int a1), some (.int a2), some (.int a3), some (.int a4), some (.int a5), none, none, none] [] h (some (.int rv), h') := by
  obtain ⟨d, rfl⟩ : ∃ k, d = k + 1 := ⟨d - 1, by omega⟩
  unfold f_X10_question at hr
  refine j_iload_n (i := 1) rfl rfl dX10_question_0 ?_
  refine j_iconst (v := 0) rfl dX10_question_1 ?_
  refine j_bipush (v := 9) rfl dX10_question_2 ?_
  replace hr := m_bind hr; obtain ⟨r2, g1, hr⟩ := hr
  refine j_callS (Y' := Y_X10_in) (as := [.int a1, .int 0, .int 9]) ok_X10_in [some (.int a1), some (.int 0), some (.int 9)] rfl rfl tw_4_54 tw_4_55 nn_X10_in (Nat.le_of_ble_eq_true rfl) dX10_question_4 (j_X10_in g1) ?_
  refine j_if_eq (tgt := 21) dX10_question_7 rfl (fun c3 => ?_) (fun c3 => ?_)
  · rw [if_pos c3] at hr
    refine j_iconst (v := (-1)) rfl dX10_question_21 ?_
    cases hr
    exact j_ret dX10_question_22 m_rk_i
  · rw [if_neg c3] at hr
    refine j_aload_n (i := 0) rfl rfl dX10_question_10 ?_
    replace hr := m_bind hr; obtain ⟨q4, g5, hr⟩ := hr
    refine j_getf (C := RX10) (T := TX10) (N := 30) (ci := 9) (k := 24) rfl (by decide) inX10 tw_3_217 dX10_question_11 (m_gr_spec g5) ?_
    refine j_iload_n (i := 1) rfl rfl dX10_question_14 ?_
    replace hr := m_bind hr; obtain ⟨b6, g7, hr⟩ := hr
    subst g7
    replace hr := m_bind hr; obtain ⟨x8, g9, hr⟩ := hr
    refine j_iaload dX10_question_15 g9 ?_
    refine j_bipush (v := 40) rfl dX10_question_16 ?_
    refine j_ic_ne (tgt := 23) dX10_question_18 rfl (fun c10 => ?_) (fun c10 => ?_)
    · rw [if_neg c10] at hr
      refine j_iload_n (i := 2) rfl rfl dX10_question_23 ?_
      refine j_bipush (v := 60) rfl dX10_question_24 ?_
      refine j_ic_eq (tgt := 35) dX10_question_26 rfl (fun c11 => ?_) (fun c11 => ?_)
      · rw [if_pos c11] at hr
        refine j_iconst (v := 1) rfl dX10_question_35 ?_
        refine j_goto (tgt := 40) dX10_question_36 rfl ?_
        refine j_istore (i := 6) (L' := [some (.ref a0), some (.int a1), some (.int a2), some (.int a3), some (.int a4), some (.int a5), some (.int 1), none, none]) (Nat.le_of_ble_eq_true rfl) rfl rfl dX10_question_40 ?_
        refine j_iload (i := 6) rfl dX10_question_42 ?_
        refine j_if_eq (tgt := 60) dX10_question_44 rfl (fun c12 => ?_) (fun c12 => ?_)
        · exact absurd c12 (by decide)
        · skip
          refine j_iload_n (i := 3) rfl rfl dX10_question_47 ?_
          refine j_iconst (v := 0) rfl dX10_question_48 ?_
          refine j_ldc (v := 100000) tw_4_96 dX10_question_49 ?_
          replace hr := m_bind hr; obtain ⟨r14, g13, hr⟩ := hr
          refine j_callS (Y' := Y_X10_in) (as := [.int a3, .int 0, .int 100000]) ok_X10_in [some (.int a3), some (.int 0), some (.int 100000)] rfl rfl tw_4_54 tw_4_55 nn_X10_in (Nat.le_of_ble_eq_true rfl) dX10_question_51 (j_X10_in g13) ?_
          refine j_if_ne (tgt := 73) dX10_question_54 rfl (fun c15 => ?_) (fun c15 => ?_)
          · rw [if_neg c15] at hr
            refine j_aload_n (i := 0) rfl rfl dX10_question_73 ?_
            replace hr := m_bind hr; obtain ⟨q16, g17, hr⟩ := hr
            refine j_getf (C := RX10) (T := TX10) (N := 30) (ci := 9) (k := 24) rfl (by decide) inX10 tw_3_217 dX10_question_74 (m_gr_spec g17) ?_
            refine j_iload_n (i := 1) rfl rfl dX10_question_77 ?_
            replace hr := m_bind hr; obtain ⟨b18, g19, hr⟩ := hr
            subst g19
            replace hr := m_bind hr; obtain ⟨x20, g21, hr⟩ := hr
            refine j_iaload dX10_question_78 g21 ?_
            refine j_istore (i := 7) (L' := [some (.ref a0), some (.int a1), some (.int a2), some (.int a3), some (.int a4), some (.int a5), some (.int 1), some (.int x20), none]) (Nat.le_of_ble_eq_true rfl) rfl rfl dX10_question_79 ?_
            refine j_iload (i := 4) rfl dX10_question_81 ?_
            refine j_iload (i := 7) rfl dX10_question_83 ?_
            replace hr := m_bind hr; obtain ⟨r23, g22, hr⟩ := hr
            refine j_callS (Y' := Y_X10_isEnd) (as := [.int a4, .int x20]) ok_X10_isEnd [some (.int a4), some (.int x20)] rfl rfl tw_4_206 tw_4_207 nn_X10_isEnd (Nat.le_of_ble_eq_true rfl) dX10_question_85 (j_X10_isEnd (by omega) g22) ?_
            refine j_if_eq (tgt := 101) dX10_question_88 rfl (fun c24 => ?_) (fun c24 => ?_)
            · rw [if_pos c24] at hr
              refine j_iconst (v := (-1)) rfl dX10_question_101 ?_
              cases hr
              exact j_ret dX10_question_102 m_rk_i
            · rw [if_neg c24] at hr
              refine j_iload (i := 5) rfl dX10_question_91 ?_
              refine j_iload (i := 7) rfl dX10_question_93 ?_
              replace hr := m_bind hr; obtain ⟨r26, g25, hr⟩ := hr
              refine j_callS (Y' := Y_X10_isEnd) (as := [.int a5, .int x20]) ok_X10_isEnd [some (.int a5), some (.int x20)] rfl rfl tw_4_206 tw_4_207 nn_X10_isEnd (Nat.le_of_ble_eq_true rfl) dX10_question_95 (j_X10_isEnd (by omega) g25) ?_
              refine j_if_ne (tgt := 103) dX10_question_98 rfl (fun c27 => ?_) (fun c27 => ?_)
              · rw [if_neg c27] at hr
                refine j_bipush (v := 40) rfl dX10_question_103 ?_
                refine j_iload_n (i := 1) rfl rfl dX10_question_105 ?_
                refine j_imul dX10_question_106 ?_
                refine j_iload (i := 7) rfl dX10_question_107 ?_
                refine j_iadd dX10_question_109 ?_
                refine j_istore (i := 8) (L' := [some (.ref a0), some (.int a1), some (.int a2), some (.int a3), some (.int a4), some (.int a5), some (.int 1), some (.int x20), some (.int ((40 * a1) + x20))]) (Nat.le_of_ble_eq_true rfl) rfl rfl dX10_question_110 ?_
                refine j_aload_n (i := 0) rfl rfl dX10_question_112 ?_
                replace hr := m_bind hr; obtain ⟨q28, g29, hr⟩ := hr
                refine j_getf (C := RX10) (T := TX10) (N := 30) (ci := 9) (k := 25) rfl (by decide) inX10 tw_3_218 dX10_question_113 (m_gr_spec g29) ?_
                refine j_iload (i := 8) rfl dX10_question_116 ?_
                refine j_iload_n (i := 2) rfl rfl dX10_question_118 ?_
                replace hr := m_bind hr; obtain ⟨b30, g31, hr⟩ := hr
                subst g31
                replace hr := m_bind hr; obtain ⟨h32, g33, hr⟩ := hr
                refine j_iastore dX10_question_119 g33 ?_
                refine j_aload_n (i := 0) rfl rfl dX10_question_120 ?_
                replace hr := m_bind hr; obtain ⟨q34, g35, hr⟩ := hr
                refine j_getf (C := RX10) (T := TX10) (N := 30) (ci := 9) (k := 26) rfl (by decide) inX10 tw_3_219 dX10_question_121 (m_gr_spec g35) ?_
                refine j_iload (i := 8) rfl dX10_question_124 ?_
                refine j_iload_n (i := 3) rfl rfl dX10_question_126 ?_
                replace hr := m_bind hr; obtain ⟨b36, g37, hr⟩ := hr
                subst g37
                replace hr := m_bind hr; obtain ⟨h38, g39, hr⟩ := hr
                refine j_iastore dX10_question_127 g39 ?_
                refine j_aload_n (i := 0) rfl rfl dX10_question_128 ?_
                replace hr := m_bind hr; obtain ⟨q40, g41, hr⟩ := hr
                refine j_getf (C := RX10) (T := TX10) (N := 30) (ci := 9) (k := 27) rfl (by decide) inX10 tw_3_220 dX10_question_129 (m_gr_spec g41) ?_
                refine j_iload (i := 8) rfl dX10_question_132 ?_
                refine j_iload (i := 4) rfl dX10_question_134 ?_
                replace hr := m_bind hr; obtain ⟨b42, g43, hr⟩ := hr
                subst g43
                replace hr := m_bind hr; obtain ⟨h44, g45, hr⟩ := hr
                refine j_iastore dX10_question_136 g45 ?_
                refine j_aload_n (i := 0) rfl rfl dX10_question_137 ?_
                replace hr := m_bind hr; obtain ⟨q46, g47, hr⟩ := hr
                refine j_getf (C := RX10) (T := TX10) (N := 30) (ci := 9) (k := 28) rfl (by decide) inX10 tw_3_221 dX10_question_138 (m_gr_spec g47) ?_
                refine j_iload (i := 8) rfl dX10_question_141 ?_
                refine j_iload (i := 5) rfl dX10_question_143 ?_
                replace hr := m_bind hr; obtain ⟨b48, g49, hr⟩ := hr
                subst g49
                replace hr := m_bind hr; obtain ⟨h50, g51, hr⟩ := hr
                refine j_iastore dX10_question_145 g51 ?_
                refine j_aload_n (i := 0) rfl rfl dX10_question_146 ?_
                replace hr := m_bind hr; obtain ⟨q52, g53, hr⟩ := hr
                refine j_getf (C := RX10) (T := TX10) (N := 30) (ci := 9) (k := 24) rfl (by decide) inX10 tw_3_217 dX10_question_147 (m_gr_spec g53) ?_
                refine j_iload_n (i := 1) rfl rfl dX10_question_150 ?_
                refine j_dup2 rfl (m_crf _) dX10_question_151 ?_
                replace hr := m_bind hr; obtain ⟨b54, g55, hr⟩ := hr
                subst g55
                replace hr := m_bind hr; obtain ⟨x56, g57, hr⟩ := hr
                refine j_iaload dX10_question_152 g57 ?_
                refine j_iconst (v := 1) rfl dX10_question_153 ?_
                refine j_iadd dX10_question_154 ?_
                replace hr := m_bind hr; obtain ⟨h58, g59, hr⟩ := hr
                refine j_iastore dX10_question_155 g59 ?_
                refine j_iload (i := 7) rfl dX10_question_156 ?_
                refine j_iconst (v := 1) rfl dX10_question_158 ?_
                refine j_iadd dX10_question_159 ?_
                cases hr
                exact j_ret dX10_question_160 m_rk_i
              · rw [if_pos c27] at hr
                refine j_iconst (v := (-1)) rfl dX10_question_101 ?_
                cases hr
                exact j_ret dX10_question_102 m_rk_i
          · rw [if_pos c15] at hr
            refine j_goto (tgt := 71) dX10_question_57 rfl ?_
            refine j_iconst (v := (-1)) rfl dX10_question_71 ?_
            cases hr
            exact j_ret dX10_question_72 m_rk_i
      · rw [if_neg c11] at hr
        refine j_iload_n (i := 2) rfl rfl dX10_question_29 ?_
        refine j_bipush (v := 61) rfl dX10_question_30 ?_
        refine j_ic_ne (tgt := 39) dX10_question_32 rfl (fun c60 => ?_) (fun c60 => ?_)
        · rw [if_neg c60] at hr
          refine j_iconst (v := 0) rfl dX10_question_39 ?_
          refine j_istore (i := 6) (L' := [some (.ref a0), some (.int a1), some (.int a2), some (.int a3), some (.int a4), some (.int a5), some (.int 0), none, none]) (Nat.le_of_ble_eq_true rfl) rfl rfl dX10_question_40 ?_
          refine j_iload (i := 6) rfl dX10_question_42 ?_
          refine j_if_eq (tgt := 60) dX10_question_44 rfl (fun c61 => ?_) (fun c61 => ?_)
          · skip
            refine j_iload_n (i := 2) rfl rfl dX10_question_60 ?_
            replace hr := m_bind hr; obtain ⟨r63, g62, hr⟩ := hr
            refine j_callS (Y' := Y_X10_isCode) (as := [.int a2]) ok_X10_isCode [some (.int a2)] rfl rfl tw_4_48 tw_4_49 nn_X10_isCode (Nat.le_of_ble_eq_true rfl) dX10_question_61 (j_X10_isCode (by omega) g62) ?_
            refine j_if_eq (tgt := 71) dX10_question_64 rfl (fun c64 => ?_) (fun c64 => ?_)
            · rw [if_pos c64] at hr
              refine j_iconst (v := (-1)) rfl dX10_question_71 ?_
              cases hr
              exact j_ret dX10_question_72 m_rk_i
            · rw [if_neg c64] at hr
              refine j_iload_n (i := 3) rfl rfl dX10_question_67 ?_
              refine j_if_eq (tgt := 73) dX10_question_68 rfl (fun c65 => ?_) (fun c65 => ?_)
              · rw [if_pos c65] at hr
                refine j_aload_n (i := 0) rfl rfl dX10_question_73 ?_
                replace hr := m_bind hr; obtain ⟨q66, g67, hr⟩ := hr
                refine j_getf (C := RX10) (T := TX10) (N := 30) (ci := 9) (k := 24) rfl (by decide) inX10 tw_3_217 dX10_question_74 (m_gr_spec g67) ?_
                refine j_iload_n (i := 1) rfl rfl dX10_question_77 ?_
                replace hr := m_bind hr; obtain ⟨b68, g69, hr⟩ := hr
                subst g69
                replace hr := m_bind hr; obtain ⟨x70, g71, hr⟩ := hr
                refine j_iaload dX10_question_78 g71 ?_
                refine j_istore (i := 7) (L' := [some (.ref a0), some (.int a1), some (.int a2), some (.int a3), some (.int a4), some (.int a5), some (.int 0), some (.int x70), none]) (Nat.le_of_ble_eq_true rfl) rfl rfl dX10_question_79 ?_
                refine j_iload (i := 4) rfl dX10_question_81 ?_
                refine j_iload (i := 7) rfl dX10_question_83 ?_
                replace hr := m_bind hr; obtain ⟨r73, g72, hr⟩ := hr
                refine j_callS (Y' := Y_X10_isEnd) (as := [.int a4, .int x70]) ok_X10_isEnd [some (.int a4), some (.int x70)] rfl rfl tw_4_206 tw_4_207 nn_X10_isEnd (Nat.le_of_ble_eq_true rfl) dX10_question_85 (j_X10_isEnd (by omega) g72) ?_
                refine j_if_eq (tgt := 101) dX10_question_88 rfl (fun c74 => ?_) (fun c74 => ?_)
                · rw [if_pos c74] at hr
                  refine j_iconst (v := (-1)) rfl dX10_question_101 ?_
                  cases hr
                  exact j_ret dX10_question_102 m_rk_i
                · rw [if_neg c74] at hr
                  refine j_iload (i := 5) rfl dX10_question_91 ?_
                  refine j_iload (i := 7) rfl dX10_question_93 ?_
                  replace hr := m_bind hr; obtain ⟨r76, g75, hr⟩ := hr
                  refine j_callS (Y' := Y_X10_isEnd) (as := [.int a5, .int x70]) ok_X10_isEnd [some (.int a5), some (.int x70)] rfl rfl tw_4_206 tw_4_207 nn_X10_isEnd (Nat.le_of_ble_eq_true rfl) dX10_question_95 (j_X10_isEnd (by omega) g75) ?_
                  refine j_if_ne (tgt := 103) dX10_question_98 rfl (fun c77 => ?_) (fun c77 => ?_)
                  · rw [if_neg c77] at hr
                    refine j_bipush (v := 40) rfl dX10_question_103 ?_
                    refine j_iload_n (i := 1) rfl rfl dX10_question_105 ?_
                    refine j_imul dX10_question_106 ?_
                    refine j_iload (i := 7) rfl dX10_question_107 ?_
                    refine j_iadd dX10_question_109 ?_
                    refine j_istore (i := 8) (L' := [some (.ref a0), some (.int a1), some (.int a2), some (.int a3), some (.int a4), some (.int a5), some (.int 0), some (.int x70), some (.int ((40 * a1) + x70))]) (Nat.le_of_ble_eq_true rfl) rfl rfl dX10_question_110 ?_
                    refine j_aload_n (i := 0) rfl rfl dX10_question_112 ?_
                    replace hr := m_bind hr; obtain ⟨q78, g79, hr⟩ := hr
                    refine j_getf (C := RX10) (T := TX10) (N := 30) (ci := 9) (k := 25) rfl (by decide) inX10 tw_3_218 dX10_question_113 (m_gr_spec g79) ?_
                    refine j_iload (i := 8) rfl dX10_question_116 ?_
                    refine j_iload_n (i := 2) rfl rfl dX10_question_118 ?_
                    replace hr := m_bind hr; obtain ⟨b80, g81, hr⟩ := hr
                    subst g81
                    replace hr := m_bind hr; obtain ⟨h82, g83, hr⟩ := hr
                    refine j_iastore dX10_question_119 g83 ?_
                    refine j_aload_n (i := 0) rfl rfl dX10_question_120 ?_
                    replace hr := m_bind hr; obtain ⟨q84, g85, hr⟩ := hr
                    refine j_getf (C := RX10) (T := TX10) (N := 30) (ci := 9) (k := 26) rfl (by decide) inX10 tw_3_219 dX10_question_121 (m_gr_spec g85) ?_
                    refine j_iload (i := 8) rfl dX10_question_124 ?_
                    refine j_iload_n (i := 3) rfl rfl dX10_question_126 ?_
                    replace hr := m_bind hr; obtain ⟨b86, g87, hr⟩ := hr
                    subst g87
                    replace hr := m_bind hr; obtain ⟨h88, g89, hr⟩ := hr
                    refine j_iastore dX10_question_127 g89 ?_
                    refine j_aload_n (i := 0) rfl rfl dX10_question_128 ?_
                    replace hr := m_bind hr; obtain ⟨q90, g91, hr⟩ := hr
                    refine j_getf (C := RX10) (T := TX10) (N := 30) (ci := 9) (k := 27) rfl (by decide) inX10 tw_3_220 dX10_question_129 (m_gr_spec g91) ?_
                    refine j_iload (i := 8) rfl dX10_question_132 ?_
                    refine j_iload (i := 4) rfl dX10_question_134 ?_
                    replace hr := m_bind hr; obtain ⟨b92, g93, hr⟩ := hr
                    subst g93
                    replace hr := m_bind hr; obtain ⟨h94, g95, hr⟩ := hr
                    refine j_iastore dX10_question_136 g95 ?_
                    refine j_aload_n (i := 0) rfl rfl dX10_question_137 ?_
                    replace hr := m_bind hr; obtain ⟨q96, g97, hr⟩ := hr
                    refine j_getf (C := RX10) (T := TX10) (N := 30) (ci := 9) (k := 28) rfl (by decide) inX10 tw_3_221 dX10_question_138 (m_gr_spec g97) ?_
                    refine j_iload (i := 8) rfl dX10_question_141 ?_
                    refine j_iload (i := 5) rfl dX10_question_143 ?_
                    replace hr := m_bind hr; obtain ⟨b98, g99, hr⟩ := hr
                    subst g99
                    replace hr := m_bind hr; obtain ⟨h100, g101, hr⟩ := hr
                    refine j_iastore dX10_question_145 g101 ?_
                    refine j_aload_n (i := 0) rfl rfl dX10_question_146 ?_
                    replace hr := m_bind hr; obtain ⟨q102, g103, hr⟩ := hr
                    refine j_getf (C := RX10) (T := TX10) (N := 30) (ci := 9) (k := 24) rfl (by decide) inX10 tw_3_217 dX10_question_147 (m_gr_spec g103) ?_
                    refine j_iload_n (i := 1) rfl rfl dX10_question_150 ?_
                    refine j_dup2 rfl (m_crf _) dX10_question_151 ?_
                    replace hr := m_bind hr; obtain ⟨b104, g105, hr⟩ := hr
                    subst g105
                    replace hr := m_bind hr; obtain ⟨x106, g107, hr⟩ := hr
                    refine j_iaload dX10_question_152 g107 ?_
                    refine j_iconst (v := 1) rfl dX10_question_153 ?_
                    refine j_iadd dX10_question_154 ?_
                    replace hr := m_bind hr; obtain ⟨h108, g109, hr⟩ := hr
                    refine j_iastore dX10_question_155 g109 ?_
                    refine j_iload (i := 7) rfl dX10_question_156 ?_
                    refine j_iconst (v := 1) rfl dX10_question_158 ?_
                    refine j_iadd dX10_question_159 ?_
                    cases hr
                    exact j_ret dX10_question_160 m_rk_i
                  · rw [if_pos c77] at hr
                    refine j_iconst (v := (-1)) rfl dX10_question_101 ?_
                    cases hr
                    exact j_ret dX10_question_102 m_rk_i
              · rw [if_neg c65] at hr
                refine j_iconst (v := (-1)) rfl dX10_question_71 ?_
                cases hr
                exact j_ret dX10_question_72 m_rk_i
          · exact absurd c61 (by decide)
        · rw [if_pos c60] at hr
          refine j_iconst (v := 1) rfl dX10_question_35 ?_
          refine j_goto (tgt := 40) dX10_question_36 rfl ?_
          refine j_istore (i := 6) (L' := [some (.ref a0), some (.int a1), some (.int a2), some (.int a3), some (.int a4), some (.int a5), some (.int 1), none, none]) (Nat.le_of_ble_eq_true rfl) rfl rfl dX10_question_40 ?_
          refine j_iload (i := 6) rfl dX10_question_42 ?_
          refine j_if_eq (tgt := 60) dX10_question_44 rfl (fun c110 => ?_) (fun c110 => ?_)
          · exact absurd c110 (by decide)
          · skip
            refine j_iload_n (i := 3) rfl rfl dX10_question_47 ?_
            refine j_iconst (v := 0) rfl dX10_question_48 ?_
            refine j_ldc (v := 100000) tw_4_96 dX10_question_49 ?_
            replace hr := m_bind hr; obtain ⟨r112, g111, hr⟩ := hr
            refine j_callS (Y' := Y_X10_in) (as := [.int a3, .int 0, .int 100000]) ok_X10_in [some (.int a3), some (.int 0), some (.int 100000)] rfl rfl tw_4_54 tw_4_55 nn_X10_in (Nat.le_of_ble_eq_true rfl) dX10_question_51 (j_X10_in g111) ?_
            refine j_if_ne (tgt := 73) dX10_question_54 rfl (fun c113 => ?_) (fun c113 => ?_)
            · rw [if_neg c113] at hr
              refine j_aload_n (i := 0) rfl rfl dX10_question_73 ?_
              replace hr := m_bind hr; obtain ⟨q114, g115, hr⟩ := hr
              refine j_getf (C := RX10) (T := TX10) (N := 30) (ci := 9) (k := 24) rfl (by decide) inX10 tw_3_217 dX10_question_74 (m_gr_spec g115) ?_
              refine j_iload_n (i := 1) rfl rfl dX10_question_77 ?_
              replace hr := m_bind hr; obtain ⟨b116, g117, hr⟩ := hr
              subst g117
              replace hr := m_bind hr; obtain ⟨x118, g119, hr⟩ := hr
              refine j_iaload dX10_question_78 g119 ?_
              refine j_istore (i := 7) (L' := [some (.ref a0), some (.int a1), some (.int a2), some (.int a3), some (.int a4), some (.int a5), some (.int 1), some (.int x118), none]) (Nat.le_of_ble_eq_true rfl) rfl rfl dX10_question_79 ?_
              refine j_iload (i := 4) rfl dX10_question_81 ?_
              refine j_iload (i := 7) rfl dX10_question_83 ?_
              replace hr := m_bind hr; obtain ⟨r121, g120, hr⟩ := hr
              refine j_callS (Y' := Y_X10_isEnd) (as := [.int a4, .int x118]) ok_X10_isEnd [some (.int a4), some (.int x118)] rfl rfl tw_4_206 tw_4_207 nn_X10_isEnd (Nat.le_of_ble_eq_true rfl) dX10_question_85 (j_X10_isEnd (by omega) g120) ?_
              refine j_if_eq (tgt := 101) dX10_question_88 rfl (fun c122 => ?_) (fun c122 => ?_)
              · rw [if_pos c122] at hr
                refine j_iconst (v := (-1)) rfl dX10_question_101 ?_
                cases hr
                exact j_ret dX10_question_102 m_rk_i
              · rw [if_neg c122] at hr
                refine j_iload (i := 5) rfl dX10_question_91 ?_
                refine j_iload (i := 7) rfl dX10_question_93 ?_
                replace hr := m_bind hr; obtain ⟨r124, g123, hr⟩ := hr
                refine j_callS (Y' := Y_X10_isEnd) (as := [.int a5, .int x118]) ok_X10_isEnd [some (.int a5), some (.int x118)] rfl rfl tw_4_206 tw_4_207 nn_X10_isEnd (Nat.le_of_ble_eq_true rfl) dX10_question_95 (j_X10_isEnd (by omega) g123) ?_
                refine j_if_ne (tgt := 103) dX10_question_98 rfl (fun c125 => ?_) (fun c125 => ?_)
                · rw [if_neg c125] at hr
                  refine j_bipush (v := 40) rfl dX10_question_103 ?_
                  refine j_iload_n (i := 1) rfl rfl dX10_question_105 ?_
                  refine j_imul dX10_question_106 ?_
                  refine j_iload (i := 7) rfl dX10_question_107 ?_
                  refine j_iadd dX10_question_109 ?_
                  refine j_istore (i := 8) (L' := [some (.ref a0), some (.int a1), some (.int a2), some (.int a3), some (.int a4), some (.int a5), some (.int 1), some (.int x118), some (.int ((40 * a1) + x118))]) (Nat.le_of_ble_eq_true rfl) rfl rfl dX10_question_110 ?_
                  refine j_aload_n (i := 0) rfl rfl dX10_question_112 ?_
                  replace hr := m_bind hr; obtain ⟨q126, g127, hr⟩ := hr
                  refine j_getf (C := RX10) (T := TX10) (N := 30) (ci := 9) (k := 25) rfl (by decide) inX10 tw_3_218 dX10_question_113 (m_gr_spec g127) ?_
                  refine j_iload (i := 8) rfl dX10_question_116 ?_
                  refine j_iload_n (i := 2) rfl rfl dX10_question_118 ?_
                  replace hr := m_bind hr; obtain ⟨b128, g129, hr⟩ := hr
                  subst g129
                  replace hr := m_bind hr; obtain ⟨h130, g131, hr⟩ := hr
                  refine j_iastore dX10_question_119 g131 ?_
                  refine j_aload_n (i := 0) rfl rfl dX10_question_120 ?_
                  replace hr := m_bind hr; obtain ⟨q132, g133, hr⟩ := hr
                  refine j_getf (C := RX10) (T := TX10) (N := 30) (ci := 9) (k := 26) rfl (by decide) inX10 tw_3_219 dX10_question_121 (m_gr_spec g133) ?_
                  refine j_iload (i := 8) rfl dX10_question_124 ?_
                  refine j_iload_n (i := 3) rfl rfl dX10_question_126 ?_
                  replace hr := m_bind hr; obtain ⟨b134, g135, hr⟩ := hr
                  subst g135
                  replace hr := m_bind hr; obtain ⟨h136, g137, hr⟩ := hr
                  refine j_iastore dX10_question_127 g137 ?_
                  refine j_aload_n (i := 0) rfl rfl dX10_question_128 ?_
                  replace hr := m_bind hr; obtain ⟨q138, g139, hr⟩ := hr
                  refine j_getf (C := RX10) (T := TX10) (N := 30) (ci := 9) (k := 27) rfl (by decide) inX10 tw_3_220 dX10_question_129 (m_gr_spec g139) ?_
                  refine j_iload (i := 8) rfl dX10_question_132 ?_
                  refine j_iload (i := 4) rfl dX10_question_134 ?_
                  replace hr := m_bind hr; obtain ⟨b140, g141, hr⟩ := hr
                  subst g141
                  replace hr := m_bind hr; obtain ⟨h142, g143, hr⟩ := hr
                  refine j_iastore dX10_question_136 g143 ?_
                  refine j_aload_n (i := 0) rfl rfl dX10_question_137 ?_
                  replace hr := m_bind hr; obtain ⟨q144, g145, hr⟩ := hr
                  refine j_getf (C := RX10) (T := TX10) (N := 30) (ci := 9) (k := 28) rfl (by decide) inX10 tw_3_221 dX10_question_138 (m_gr_spec g145) ?_
                  refine j_iload (i := 8) rfl dX10_question_141 ?_
                  refine j_iload (i := 5) rfl dX10_question_143 ?_
                  replace hr := m_bind hr; obtain ⟨b146, g147, hr⟩ := hr
                  subst g147
                  replace hr := m_bind hr; obtain ⟨h148, g149, hr⟩ := hr
                  refine j_iastore dX10_question_145 g149 ?_
                  refine j_aload_n (i := 0) rfl rfl dX10_question_146 ?_
                  replace hr := m_bind hr; obtain ⟨q150, g151, hr⟩ := hr
                  refine j_getf (C := RX10) (T := TX10) (N := 30) (ci := 9) (k := 24) rfl (by decide) inX10 tw_3_217 dX10_question_147 (m_gr_spec g151) ?_
                  refine j_iload_n (i := 1) rfl rfl dX10_question_150 ?_
                  refine j_dup2 rfl (m_crf _) dX10_question_151 ?_
                  replace hr := m_bind hr; obtain ⟨b152, g153, hr⟩ := hr
                  subst g153
                  replace hr := m_bind hr; obtain ⟨x154, g155, hr⟩ := hr
                  refine j_iaload dX10_question_152 g155 ?_
                  refine j_iconst (v := 1) rfl dX10_question_153 ?_
                  refine j_iadd dX10_question_154 ?_
                  replace hr := m_bind hr; obtain ⟨h156, g157, hr⟩ := hr
                  refine j_iastore dX10_question_155 g157 ?_
                  refine j_iload (i := 7) rfl dX10_question_156 ?_
                  refine j_iconst (v := 1) rfl dX10_question_158 ?_
                  refine j_iadd dX10_question_159 ?_
                  cases hr
                  exact j_ret dX10_question_160 m_rk_i
                · rw [if_pos c125] at hr
                  refine j_iconst (v := (-1)) rfl dX10_question_101 ?_
                  cases hr
                  exact j_ret dX10_question_102 m_rk_i
            · rw [if_pos c113] at hr
              refine j_goto (tgt := 71) dX10_question_57 rfl ?_
              refine j_iconst (v := (-1)) rfl dX10_question_71 ?_
              cases hr
              exact j_ret dX10_question_72 m_rk_i
    · rw [if_pos c10] at hr
      refine j_iconst (v := (-1)) rfl dX10_question_21 ?_
      cases hr
      exact j_ret dX10_question_22 m_rk_i
def f_X10_answer (h : mH) (a0 : Nat) (a1 : Int32) (a2 : Int32) : Option (Int32) :=
  (m_gr h a0 9 25).bind fun q1 =>
  (q1).bind fun b3 =>
  (m_ild h b3 a1).bind fun x5 =>
  if x5 = 60 then
    (m_gr h a0 9 8).bind fun q45 =>
    (q45).bind fun b47 =>
    (m_ild h b47 a2).bind fun x49 =>
    (m_gr h a0 9 26).bind fun q51 =>
    (q51).bind fun b53 =>
    (m_ild h b53 a1).bind fun x55 =>
    if x49 < x55 then
      some 0
    else
      some 1
  else
    (m_gr h a0 9 25).bind fun q8 =>
    (q8).bind fun b10 =>
    (m_ild h b10 a1).bind fun x12 =>
    if x12 = 61 then
      (m_gr h a0 9 9).bind fun q32 =>
      (q32).bind fun b34 =>
      (m_ild h b34 a2).bind fun x36 =>
      (m_gr h a0 9 26).bind fun q38 =>
      (q38).bind fun b40 =>
      (m_ild h b40 a1).bind fun x42 =>
      if x36 < x42 then
        some 0
      else
        some 1
    else
      (m_gr h a0 9 25).bind fun q15 =>
      (q15).bind fun b17 =>
      (m_ild h b17 a1).bind fun x19 =>
      (m_gr h a0 9 7).bind fun q21 =>
      (q21).bind fun b23 =>
      (m_ild h b23 a2).bind fun x25 =>
      if m_ob h a0 9 = true then
        (f_X10_above h a0 x19 x25).bind fun r28 =>
        if r28 = 0 then some 0
        else if r28 = 1 then some 1 else none
      else none
def Y_X10_answer : mY := (yX10_answer, cX10_answer, 3, some (FieldType.boolean), .ireturn)
theorem ok_X10_answer : m_Ok Y_X10_answer := ⟨by decide +kernel, ⟨by decide +kernel, by decide +kernel⟩, tw_4_216, tw_1_7, by decide, Or.inr (Or.inl ⟨Or.inr rfl, rfl⟩)⟩
theorem nn_X10_answer : (parseMethodDescriptor Y_X10_answer.1.desc).map (fun q => q.parameters.length) = some 2 := by decide +kernel
set_option maxHeartbeats 4000000 in
set_option maxRecDepth 20000 in
theorem j_X10_answer {X : mX} {d : Nat} {h : mH} {a0 : Nat} {a1 : Int32} {a2 : Int32} {rv : Int32} (hd : 4 ≤ d) (hr : f_X10_answer h a0 a1 a2 = some rv) : m_J X Y_X10_answer d 0 [some (.ref a0), some (.int a1), some (.int a2)] [] h (some (.int rv), h) := by
  obtain ⟨d, rfl⟩ : ∃ k, d = k + 1 := ⟨d - 1, by omega⟩
  unfold f_X10_answer at hr
  refine j_aload_n (i := 0) rfl rfl dX10_answer_0 ?_
  replace hr := m_bind hr; obtain ⟨q1, g2, hr⟩ := hr
  refine j_getf (C := RX10) (T := TX10) (N := 30) (ci := 9) (k := 25) rfl (by decide) inX10 tw_3_218 dX10_answer_1 (m_gr_spec g2) ?_
  refine j_iload_n (i := 1) rfl rfl dX10_answer_4 ?_
  replace hr := m_bind hr; obtain ⟨b3, g4, hr⟩ := hr
  subst g4
  replace hr := m_bind hr; obtain ⟨x5, g6, hr⟩ := hr
  refine j_iaload dX10_answer_5 g6 ?_
  refine j_bipush (v := 60) rfl dX10_answer_6 ?_
  refine j_ic_ne (tgt := 32) dX10_answer_8 rfl (fun c7 => ?_) (fun c7 => ?_)
  · rw [if_neg c7] at hr
    refine j_aload_n (i := 0) rfl rfl dX10_answer_32 ?_
    replace hr := m_bind hr; obtain ⟨q8, g9, hr⟩ := hr
    refine j_getf (C := RX10) (T := TX10) (N := 30) (ci := 9) (k := 25) rfl (by decide) inX10 tw_3_218 dX10_answer_33 (m_gr_spec g9) ?_
    refine j_iload_n (i := 1) rfl rfl dX10_answer_36 ?_
    replace hr := m_bind hr; obtain ⟨b10, g11, hr⟩ := hr
    subst g11
    replace hr := m_bind hr; obtain ⟨x12, g13, hr⟩ := hr
    refine j_iaload dX10_answer_37 g13 ?_
    refine j_bipush (v := 61) rfl dX10_answer_38 ?_
    refine j_ic_ne (tgt := 64) dX10_answer_40 rfl (fun c14 => ?_) (fun c14 => ?_)
    · rw [if_neg c14] at hr
      refine j_aload_n (i := 0) rfl rfl dX10_answer_64 ?_
      refine j_aload_n (i := 0) rfl rfl dX10_answer_65 ?_
      replace hr := m_bind hr; obtain ⟨q15, g16, hr⟩ := hr
      refine j_getf (C := RX10) (T := TX10) (N := 30) (ci := 9) (k := 25) rfl (by decide) inX10 tw_3_218 dX10_answer_66 (m_gr_spec g16) ?_
      refine j_iload_n (i := 1) rfl rfl dX10_answer_69 ?_
      replace hr := m_bind hr; obtain ⟨b17, g18, hr⟩ := hr
      subst g18
      replace hr := m_bind hr; obtain ⟨x19, g20, hr⟩ := hr
      refine j_iaload dX10_answer_70 g20 ?_
      refine j_aload_n (i := 0) rfl rfl dX10_answer_71 ?_
      replace hr := m_bind hr; obtain ⟨q21, g22, hr⟩ := hr
      refine j_getf (C := RX10) (T := TX10) (N := 30) (ci := 9) (k := 7) rfl (by decide) inX10 tw_3_200 dX10_answer_72 (m_gr_spec g22) ?_
      refine j_iload_n (i := 2) rfl rfl dX10_answer_75 ?_
      replace hr := m_bind hr; obtain ⟨b23, g24, hr⟩ := hr
      subst g24
      replace hr := m_bind hr; obtain ⟨x25, g26, hr⟩ := hr
      refine j_iaload dX10_answer_76 g26 ?_
      by_cases o31 : m_ob h a0 9 = true
      · rw [if_pos o31] at hr
        replace hr := m_bind hr; obtain ⟨r28, g27, hr⟩ := hr
        refine j_callV (Y' := Y_X10_above) (a := a0) (as := [.int x19, .int x25]) (ci := 9) (T := TX10) (N := 30) ok_X10_above [some (.ref a0), some (.int x19), some (.int x25)] rfl rfl rfl tw_4_60 tw_4_62 tw_p_12 nn_X10_above (Nat.le_of_ble_eq_true rfl) dX10_answer_77 o31 (j_X10_above (by omega) g27) ?_
        by_cases c29 : r28 = 0
        · rw [if_pos c29] at hr
          rw [c29]
          cases hr
          exact j_ret dX10_answer_80 m_rk_z0
        · rw [if_neg c29] at hr
          by_cases c30 : r28 = 1
          · rw [if_pos c30] at hr
            rw [c30]
            cases hr
            exact j_ret dX10_answer_80 m_rk_z1
          · rw [if_neg c30] at hr
            cases hr
      · rw [if_neg o31] at hr
        cases hr
    · rw [if_pos c14] at hr
      refine j_aload_n (i := 0) rfl rfl dX10_answer_43 ?_
      replace hr := m_bind hr; obtain ⟨q32, g33, hr⟩ := hr
      refine j_getf (C := RX10) (T := TX10) (N := 30) (ci := 9) (k := 9) rfl (by decide) inX10 tw_3_202 dX10_answer_44 (m_gr_spec g33) ?_
      refine j_iload_n (i := 2) rfl rfl dX10_answer_47 ?_
      replace hr := m_bind hr; obtain ⟨b34, g35, hr⟩ := hr
      subst g35
      replace hr := m_bind hr; obtain ⟨x36, g37, hr⟩ := hr
      refine j_iaload dX10_answer_48 g37 ?_
      refine j_aload_n (i := 0) rfl rfl dX10_answer_49 ?_
      replace hr := m_bind hr; obtain ⟨q38, g39, hr⟩ := hr
      refine j_getf (C := RX10) (T := TX10) (N := 30) (ci := 9) (k := 26) rfl (by decide) inX10 tw_3_219 dX10_answer_50 (m_gr_spec g39) ?_
      refine j_iload_n (i := 1) rfl rfl dX10_answer_53 ?_
      replace hr := m_bind hr; obtain ⟨b40, g41, hr⟩ := hr
      subst g41
      replace hr := m_bind hr; obtain ⟨x42, g43, hr⟩ := hr
      refine j_iaload dX10_answer_54 g43 ?_
      refine j_ic_lt (tgt := 62) dX10_answer_55 rfl (fun c44 => ?_) (fun c44 => ?_)
      · rw [if_pos c44] at hr
        refine j_iconst (v := 0) rfl dX10_answer_62 ?_
        cases hr
        exact j_ret dX10_answer_63 m_rk_z0
      · rw [if_neg c44] at hr
        refine j_iconst (v := 1) rfl dX10_answer_58 ?_
        refine j_goto (tgt := 63) dX10_answer_59 rfl ?_
        cases hr
        exact j_ret dX10_answer_63 m_rk_z1
  · rw [if_pos c7] at hr
    refine j_aload_n (i := 0) rfl rfl dX10_answer_11 ?_
    replace hr := m_bind hr; obtain ⟨q45, g46, hr⟩ := hr
    refine j_getf (C := RX10) (T := TX10) (N := 30) (ci := 9) (k := 8) rfl (by decide) inX10 tw_3_201 dX10_answer_12 (m_gr_spec g46) ?_
    refine j_iload_n (i := 2) rfl rfl dX10_answer_15 ?_
    replace hr := m_bind hr; obtain ⟨b47, g48, hr⟩ := hr
    subst g48
    replace hr := m_bind hr; obtain ⟨x49, g50, hr⟩ := hr
    refine j_iaload dX10_answer_16 g50 ?_
    refine j_aload_n (i := 0) rfl rfl dX10_answer_17 ?_
    replace hr := m_bind hr; obtain ⟨q51, g52, hr⟩ := hr
    refine j_getf (C := RX10) (T := TX10) (N := 30) (ci := 9) (k := 26) rfl (by decide) inX10 tw_3_219 dX10_answer_18 (m_gr_spec g52) ?_
    refine j_iload_n (i := 1) rfl rfl dX10_answer_21 ?_
    replace hr := m_bind hr; obtain ⟨b53, g54, hr⟩ := hr
    subst g54
    replace hr := m_bind hr; obtain ⟨x55, g56, hr⟩ := hr
    refine j_iaload dX10_answer_22 g56 ?_
    refine j_ic_lt (tgt := 30) dX10_answer_23 rfl (fun c57 => ?_) (fun c57 => ?_)
    · rw [if_pos c57] at hr
      refine j_iconst (v := 0) rfl dX10_answer_30 ?_
      cases hr
      exact j_ret dX10_answer_31 m_rk_z0
    · rw [if_neg c57] at hr
      refine j_iconst (v := 1) rfl dX10_answer_26 ?_
      refine j_goto (tgt := 31) dX10_answer_27 rfl ?_
      cases hr
      exact j_ret dX10_answer_31 m_rk_z1
def w_X10_name_29 (a0 : Nat) (a1 : Int32) (a2 : Int32) : (Int32 × mH) → Option ((Int32 × mH) ⊕ (Int32 × mH)) := fun s_9 =>
  if s_9.1 < 200 then
    some (.inr (s_9.1, s_9.2))
  else
    (m_gr s_9.2 a0 9 24).bind fun q11 =>
    (q11).bind fun b13 =>
    (m_ild s_9.2 b13 a1).bind fun x15 =>
    if x15 ≤ (s_9.1 - 200) then
      some (.inr (s_9.1, s_9.2))
    else
      (m_gi s_9.2 a0 9 29).bind fun x18 =>
      (m_pf s_9.2 a0 9 29 (.int (x18 + 1))).bind fun h20 =>
      if m_ob h20 a0 9 = true then
        (f_X10_answer h20 a0 (((40 * a1) + s_9.1) - 200) a2).bind fun r23 =>
        if r23 = 0 then
          (m_gr h20 a0 9 28).bind fun q25 =>
          (q25).bind fun b27 =>
          (m_ild h20 b27 (((40 * a1) + s_9.1) - 200)).bind fun x29 =>
          some (.inl (x29, h20))
        else
          (m_gr h20 a0 9 27).bind fun q31 =>
          (q31).bind fun b33 =>
          (m_ild h20 b33 (((40 * a1) + s_9.1) - 200)).bind fun x35 =>
          some (.inl (x35, h20))
      else none
def f_X10_name (h : mH) (a0 : Nat) (a1 : Int32) (a2 : Int32) : Option (Int32 × mH) :=
  (f_X10_in a1 0 9).bind fun r2 =>
  if r2 = 0 then
    some (((-1), h))
  else
    if m_ob h a0 9 = true then
      (f_X10_isSpecimen h a0 a2).bind fun r5 =>
      if r5 = 0 then
        some (((-1), h))
      else
        (m_pf h a0 9 29 (.int 0)).bind fun h7 =>
        (m_loop (w_X10_name_29 a0 a1 a2) 5000 ((200, h7))).bind fun e38 =>
        if e38.1 < 200 then
          some ((e38.1, e38.2))
        else
          some (((-1), e38.2))
    else none
def Y_X10_name : mY := (yX10_name, cX10_name, 5, some (FieldType.int), .ireturn)
theorem ok_X10_name : m_Ok Y_X10_name := ⟨by decide +kernel, ⟨by decide +kernel, by decide +kernel⟩, tw_4_212, tw_1_7, by decide, Or.inr (Or.inl ⟨Or.inl rfl, rfl⟩)⟩
theorem nn_X10_name : (parseMethodDescriptor Y_X10_name.1.desc).map (fun q => q.parameters.length) = some 2 := by decide +kernel
set_option maxHeartbeats 4000000 in
set_option maxRecDepth 20000 in
theorem j_X10_name {X : mX} {d : Nat} {h : mH} {a0 : Nat} {a1 : Int32} {a2 : Int32} {rv : Int32} {h' : mH} (hd : 5 ≤ d) (hr : f_X10_name h a0 a1 a2 = some (rv, h')) : m_J X Y_X10_name d 0 [some (.ref a0), some (.int a1), some (.int a2), none, none] [] h (some (.int rv), h') := by
  obtain ⟨d, rfl⟩ : ∃ k, d = k + 1 := ⟨d - 1, by omega⟩
  unfold f_X10_name at hr
  refine j_iload_n (i := 1) rfl rfl dX10_name_0 ?_
  refine j_iconst (v := 0) rfl dX10_name_1 ?_
  refine j_bipush (v := 9) rfl dX10_name_2 ?_
  replace hr := m_bind hr; obtain ⟨r2, g1, hr⟩ := hr
  refine j_callS (Y' := Y_X10_in) (as := [.int a1, .int 0, .int 9]) ok_X10_in [some (.int a1), some (.int 0), some (.int 9)] rfl rfl tw_4_54 tw_4_55 nn_X10_in (Nat.le_of_ble_eq_true rfl) dX10_name_4 (j_X10_in g1) ?_
  refine j_if_eq (tgt := 18) dX10_name_7 rfl (fun c3 => ?_) (fun c3 => ?_)
  · rw [if_pos c3] at hr
    refine j_iconst (v := (-1)) rfl dX10_name_18 ?_
    cases hr
    exact j_ret dX10_name_19 m_rk_i
  · rw [if_neg c3] at hr
    refine j_aload_n (i := 0) rfl rfl dX10_name_10 ?_
    refine j_iload_n (i := 2) rfl rfl dX10_name_11 ?_
    by_cases o43 : m_ob h a0 9 = true
    · rw [if_pos o43] at hr
      replace hr := m_bind hr; obtain ⟨r5, g4, hr⟩ := hr
      refine j_callV (Y' := Y_X10_isSpecimen) (a := a0) (as := [.int a2]) (ci := 9) (T := TX10) (N := 30) ok_X10_isSpecimen [some (.ref a0), some (.int a2)] rfl rfl rfl tw_4_113 tw_4_115 tw_p_18 nn_X10_isSpecimen (Nat.le_of_ble_eq_true rfl) dX10_name_12 o43 (j_X10_isSpecimen (by omega) g4) ?_
      refine j_if_ne (tgt := 20) dX10_name_15 rfl (fun c6 => ?_) (fun c6 => ?_)
      · rw [if_neg c6] at hr
        refine j_aload_n (i := 0) rfl rfl dX10_name_20 ?_
        refine j_iconst (v := 0) rfl dX10_name_21 ?_
        replace hr := m_bind hr; obtain ⟨h7, g8, hr⟩ := hr
        refine j_puti (C := RX10) (T := TX10) (ty := tyX10) (N := 30) (ci := 9) (k := 29) rfl (by decide) inX10 tyX10_ok nmX10 tw_3_222 rfl rfl dX10_name_22 g8 ?_
        refine j_sipush (v := 200) rfl dX10_name_25 ?_
        refine j_istore_n (i := 3) (L' := [some (.ref a0), some (.int a1), some (.int a2), some (.int 200), none]) rfl (Nat.le_of_ble_eq_true rfl) rfl rfl dX10_name_28 ?_
        replace hr := m_bind hr; obtain ⟨e38, q42, hr⟩ := hr
        refine j_weak (L' := [some (.ref a0), some (.int a1), some (.int a2), some (.int 200), none]) (And.intro rfl (And.intro rfl (And.intro rfl (And.intro rfl trivial)))) ?_
        refine m_loop_sound (step := w_X10_name_29 a0 a1 a2) (P := fun s_9 => m_J X Y_X10_name (d + 1) 29 [some (.ref a0), some (.int a1), some (.int a2), some (.int s_9.1), none] [] s_9.2 (some (.int rv), h')) (Qe := fun e38 => m_J X Y_X10_name (d + 1) 103 [none, none, none, some (.int e38.1), none] [] e38.2 (some (.int rv), h')) ?_ _ _ _ q42 ?_
        · intro s_9 o hr hk
          unfold w_X10_name_29 at hr
          refine j_iload_n (i := 3) rfl rfl dX10_name_29 ?_
          refine j_sipush (v := 200) rfl dX10_name_30 ?_
          refine j_ic_lt (tgt := 103) dX10_name_33 rfl (fun c10 => ?_) (fun c10 => ?_)
          · rw [if_pos c10] at hr
            cases hr
            exact j_weak (L' := [none, none, none, some (.int s_9.1), none]) (And.intro rfl trivial) hk
          · rw [if_neg c10] at hr
            refine j_iload_n (i := 3) rfl rfl dX10_name_36 ?_
            refine j_sipush (v := 200) rfl dX10_name_37 ?_
            refine j_isub dX10_name_40 ?_
            refine j_aload_n (i := 0) rfl rfl dX10_name_41 ?_
            replace hr := m_bind hr; obtain ⟨q11, g12, hr⟩ := hr
            refine j_getf (C := RX10) (T := TX10) (N := 30) (ci := 9) (k := 24) rfl (by decide) inX10 tw_3_217 dX10_name_42 (m_gr_spec g12) ?_
            refine j_iload_n (i := 1) rfl rfl dX10_name_45 ?_
            replace hr := m_bind hr; obtain ⟨b13, g14, hr⟩ := hr
            subst g14
            replace hr := m_bind hr; obtain ⟨x15, g16, hr⟩ := hr
            refine j_iaload dX10_name_46 g16 ?_
            refine j_ic_ge (tgt := 103) dX10_name_47 rfl (fun c17 => ?_) (fun c17 => ?_)
            · rw [if_pos c17] at hr
              cases hr
              exact j_weak (L' := [none, none, none, some (.int s_9.1), none]) (And.intro rfl trivial) hk
            · rw [if_neg c17] at hr
              refine j_bipush (v := 40) rfl dX10_name_50 ?_
              refine j_iload_n (i := 1) rfl rfl dX10_name_52 ?_
              refine j_imul dX10_name_53 ?_
              refine j_iload_n (i := 3) rfl rfl dX10_name_54 ?_
              refine j_iadd dX10_name_55 ?_
              refine j_sipush (v := 200) rfl dX10_name_56 ?_
              refine j_isub dX10_name_59 ?_
              refine j_istore (i := 4) (L' := [some (.ref a0), some (.int a1), some (.int a2), some (.int s_9.1), some (.int (((40 * a1) + s_9.1) - 200))]) (Nat.le_of_ble_eq_true rfl) rfl rfl dX10_name_60 ?_
              refine j_aload_n (i := 0) rfl rfl dX10_name_62 ?_
              refine j_dup rfl dX10_name_63 ?_
              replace hr := m_bind hr; obtain ⟨x18, g19, hr⟩ := hr
              refine j_getf (C := RX10) (T := TX10) (N := 30) (ci := 9) (k := 29) rfl (by decide) inX10 tw_3_222 dX10_name_64 (m_gi_spec g19) ?_
              refine j_iconst (v := 1) rfl dX10_name_67 ?_
              refine j_iadd dX10_name_68 ?_
              replace hr := m_bind hr; obtain ⟨h20, g21, hr⟩ := hr
              refine j_puti (C := RX10) (T := TX10) (ty := tyX10) (N := 30) (ci := 9) (k := 29) rfl (by decide) inX10 tyX10_ok nmX10 tw_3_222 rfl rfl dX10_name_69 g21 ?_
              refine j_aload_n (i := 0) rfl rfl dX10_name_72 ?_
              refine j_iload (i := 4) rfl dX10_name_73 ?_
              refine j_iload_n (i := 2) rfl rfl dX10_name_75 ?_
              by_cases o37 : m_ob h20 a0 9 = true
              · rw [if_pos o37] at hr
                replace hr := m_bind hr; obtain ⟨r23, g22, hr⟩ := hr
                refine j_callV (Y' := Y_X10_answer) (a := a0) (as := [.int (((40 * a1) + s_9.1) - 200), .int a2]) (ci := 9) (T := TX10) (N := 30) ok_X10_answer [some (.ref a0), some (.int (((40 * a1) + s_9.1) - 200)), some (.int a2)] rfl rfl rfl tw_4_213 tw_4_215 tw_p_29 nn_X10_answer (Nat.le_of_ble_eq_true rfl) dX10_name_76 o37 (j_X10_answer (by omega) g22) ?_
                refine j_if_eq (tgt := 92) dX10_name_79 rfl (fun c24 => ?_) (fun c24 => ?_)
                · rw [if_pos c24] at hr
                  refine j_aload_n (i := 0) rfl rfl dX10_name_92 ?_
                  replace hr := m_bind hr; obtain ⟨q25, g26, hr⟩ := hr
                  refine j_getf (C := RX10) (T := TX10) (N := 30) (ci := 9) (k := 28) rfl (by decide) inX10 tw_3_221 dX10_name_93 (m_gr_spec g26) ?_
                  refine j_iload (i := 4) rfl dX10_name_96 ?_
                  replace hr := m_bind hr; obtain ⟨b27, g28, hr⟩ := hr
                  subst g28
                  replace hr := m_bind hr; obtain ⟨x29, g30, hr⟩ := hr
                  refine j_iaload dX10_name_98 g30 ?_
                  refine j_istore_n (i := 3) (L' := [some (.ref a0), some (.int a1), some (.int a2), some (.int x29), some (.int (((40 * a1) + s_9.1) - 200))]) rfl (Nat.le_of_ble_eq_true rfl) rfl rfl dX10_name_99 ?_
                  refine j_goto (tgt := 29) dX10_name_100 rfl ?_
                  cases hr
                  exact j_weak (L' := [some (.ref a0), some (.int a1), some (.int a2), some (.int x29), none]) (And.intro rfl (And.intro rfl (And.intro rfl (And.intro rfl trivial)))) hk
                · rw [if_neg c24] at hr
                  refine j_aload_n (i := 0) rfl rfl dX10_name_82 ?_
                  replace hr := m_bind hr; obtain ⟨q31, g32, hr⟩ := hr
                  refine j_getf (C := RX10) (T := TX10) (N := 30) (ci := 9) (k := 27) rfl (by decide) inX10 tw_3_220 dX10_name_83 (m_gr_spec g32) ?_
                  refine j_iload (i := 4) rfl dX10_name_86 ?_
                  replace hr := m_bind hr; obtain ⟨b33, g34, hr⟩ := hr
                  subst g34
                  replace hr := m_bind hr; obtain ⟨x35, g36, hr⟩ := hr
                  refine j_iaload dX10_name_88 g36 ?_
                  refine j_goto (tgt := 99) dX10_name_89 rfl ?_
                  refine j_istore_n (i := 3) (L' := [some (.ref a0), some (.int a1), some (.int a2), some (.int x35), some (.int (((40 * a1) + s_9.1) - 200))]) rfl (Nat.le_of_ble_eq_true rfl) rfl rfl dX10_name_99 ?_
                  refine j_goto (tgt := 29) dX10_name_100 rfl ?_
                  cases hr
                  exact j_weak (L' := [some (.ref a0), some (.int a1), some (.int a2), some (.int x35), none]) (And.intro rfl (And.intro rfl (And.intro rfl (And.intro rfl trivial)))) hk
              · rw [if_neg o37] at hr
                cases hr
        · skip
          refine j_iload_n (i := 3) rfl rfl dX10_name_103 ?_
          refine j_sipush (v := 200) rfl dX10_name_104 ?_
          refine j_ic_lt (tgt := 114) dX10_name_107 rfl (fun c39 => ?_) (fun c39 => ?_)
          · rw [if_pos c39] at hr
            refine j_iload_n (i := 3) rfl rfl dX10_name_114 ?_
            cases hr
            exact j_ret dX10_name_115 m_rk_i
          · rw [if_neg c39] at hr
            refine j_iconst (v := (-1)) rfl dX10_name_110 ?_
            refine j_goto (tgt := 115) dX10_name_111 rfl ?_
            cases hr
            exact j_ret dX10_name_115 m_rk_i
      · rw [if_pos c6] at hr
        refine j_iconst (v := (-1)) rfl dX10_name_18 ?_
        cases hr
        exact j_ret dX10_name_19 m_rk_i
    · rw [if_neg o43] at hr
      cases hr
def f_X10_asked (h : mH) (a0 : Nat) : Option (Int32) :=
  (m_gi h a0 9 29).bind fun x1 =>
  some x1
def Y_X10_asked : mY := (yX10_asked, cX10_asked, 1, some (FieldType.int), .ireturn)
theorem ok_X10_asked : m_Ok Y_X10_asked := ⟨by decide +kernel, ⟨by decide +kernel, by decide +kernel⟩, tw_4_220, tw_1_7, by decide, Or.inr (Or.inl ⟨Or.inl rfl, rfl⟩)⟩
theorem nn_X10_asked : (parseMethodDescriptor Y_X10_asked.1.desc).map (fun q => q.parameters.length) = some 0 := by decide +kernel
set_option maxHeartbeats 4000000 in
set_option maxRecDepth 20000 in
theorem j_X10_asked {X : mX} {d : Nat} {h : mH} {a0 : Nat} {rv : Int32} (hr : f_X10_asked h a0 = some rv) : m_J X Y_X10_asked d 0 [some (.ref a0)] [] h (some (.int rv), h) := by
  unfold f_X10_asked at hr
  refine j_aload_n (i := 0) rfl rfl dX10_asked_0 ?_
  replace hr := m_bind hr; obtain ⟨x1, g2, hr⟩ := hr
  refine j_getf (C := RX10) (T := TX10) (N := 30) (ci := 9) (k := 29) rfl (by decide) inX10 tw_3_222 dX10_asked_1 (m_gi_spec g2) ?_
  cases hr
  exact j_ret dX10_asked_4 m_rk_i
def w_X10_convert_51 (h : mH) (a0 : Nat) (a1 : Int32) (a2 : Int32) : (Int32 × Int32) → Option ((Int32 × Int32) ⊕ (Int32)) := fun s_24 =>
  if 49 ≤ s_24.2 then
    some (.inr s_24.1)
  else
    if s_24.1 = 0 then
      (m_gr h a0 9 7).bind fun q27 =>
      (q27).bind fun b29 =>
      (m_ild h b29 a1).bind fun x31 =>
      if m_ob h a0 9 = true then
        (f_X10_isShared h a0 x31 a2 s_24.2).bind fun r34 =>
        if r34 = 0 then
          some (.inl (0, s_24.2 + 1))
        else
          some (.inl (1, s_24.2 + 1))
      else none
    else
      some (.inl (1, s_24.2 + 1))
def f_X10_convert (h : mH) (a0 : Nat) (a1 : Int32) (a2 : Int32) : Option (Int32 × mH) :=
  if m_ob h a0 9 = true then
    (f_X10_isSpecimen h a0 a1).bind fun r2 =>
    if r2 = 0 then
      some ((0, h))
    else
      (f_X10_isKind a2).bind fun r5 =>
      if r5 = 0 then
        some ((0, h))
      else
        if m_ob h a0 9 = true then
          (f_X10_isAbstract h a0 a2).bind fun r8 =>
          if r8 = 0 then
            (m_gr h a0 9 7).bind fun q10 =>
            (q10).bind fun b12 =>
            (m_ild h b12 a1).bind fun x14 =>
            if x14 = a2 then
              some ((0, h))
            else
              (m_gr h a0 9 13).bind fun q17 =>
              (q17).bind fun b19 =>
              (m_ild h b19 a1).bind fun x21 =>
              if x21 = ((-1)) then
                (m_loop (w_X10_convert_51 h a0 a1 a2) 5000 ((0, 41))).bind fun e37 =>
                if e37 = 0 then
                  some ((0, h))
                else
                  (m_gr h a0 9 7).bind fun q39 =>
                  (q39).bind fun b41 =>
                  (m_ist h b41 a1 a2).bind fun h43 =>
                  (m_gr h43 a0 9 10).bind fun q45 =>
                  (q45).bind fun b47 =>
                  (m_ild h43 b47 a1).bind fun x49 =>
                  if x49 = ((-1)) then
                    (m_gr h43 a0 9 12).bind fun q52 =>
                    (q52).bind fun b54 =>
                    (m_ild h43 b54 a1).bind fun x56 =>
                    if x56 = ((-1)) then
                      some ((1, h43))
                    else
                      (m_gr h43 a0 9 20).bind fun q59 =>
                      (m_gr h43 a0 9 12).bind fun q61 =>
                      (q61).bind fun b63 =>
                      (m_ild h43 b63 a1).bind fun x65 =>
                      (q59).bind fun b67 =>
                      (m_ild h43 b67 x65).bind fun x69 =>
                      if m_ob h43 a0 9 = true then
                        (f_X10_above h43 a0 x69 a2).bind fun r72 =>
                        if r72 = 0 then
                          (m_gr h43 a0 9 12).bind fun q74 =>
                          (q74).bind fun b76 =>
                          (m_ist h43 b76 a1 ((-1))).bind fun h78 =>
                          some ((1, h78))
                        else
                          some ((1, h43))
                      else none
                  else
                    (m_gr h43 a0 9 18).bind fun q81 =>
                    (m_gr h43 a0 9 10).bind fun q83 =>
                    (q83).bind fun b85 =>
                    (m_ild h43 b85 a1).bind fun x87 =>
                    (q81).bind fun b89 =>
                    (m_ild h43 b89 x87).bind fun x91 =>
                    if m_ob h43 a0 9 = true then
                      (f_X10_above h43 a0 x91 a2).bind fun r94 =>
                      if r94 = 0 then
                        (m_gr h43 a0 9 10).bind fun q125 =>
                        (q125).bind fun b127 =>
                        (m_ist h43 b127 a1 ((-1))).bind fun h129 =>
                        (m_gr h129 a0 9 11).bind fun q131 =>
                        (q131).bind fun b133 =>
                        (m_ist h129 b133 a1 ((-1))).bind fun h135 =>
                        (m_gr h135 a0 9 12).bind fun q137 =>
                        (q137).bind fun b139 =>
                        (m_ild h135 b139 a1).bind fun x141 =>
                        if x141 = ((-1)) then
                          some ((1, h135))
                        else
                          (m_gr h135 a0 9 20).bind fun q144 =>
                          (m_gr h135 a0 9 12).bind fun q146 =>
                          (q146).bind fun b148 =>
                          (m_ild h135 b148 a1).bind fun x150 =>
                          (q144).bind fun b152 =>
                          (m_ild h135 b152 x150).bind fun x154 =>
                          if m_ob h135 a0 9 = true then
                            (f_X10_above h135 a0 x154 a2).bind fun r157 =>
                            if r157 = 0 then
                              (m_gr h135 a0 9 12).bind fun q159 =>
                              (q159).bind fun b161 =>
                              (m_ist h135 b161 a1 ((-1))).bind fun h163 =>
                              some ((1, h163))
                            else
                              some ((1, h135))
                          else none
                      else
                        (m_gr h43 a0 9 12).bind fun q96 =>
                        (q96).bind fun b98 =>
                        (m_ild h43 b98 a1).bind fun x100 =>
                        if x100 = ((-1)) then
                          some ((1, h43))
                        else
                          (m_gr h43 a0 9 20).bind fun q103 =>
                          (m_gr h43 a0 9 12).bind fun q105 =>
                          (q105).bind fun b107 =>
                          (m_ild h43 b107 a1).bind fun x109 =>
                          (q103).bind fun b111 =>
                          (m_ild h43 b111 x109).bind fun x113 =>
                          if m_ob h43 a0 9 = true then
                            (f_X10_above h43 a0 x113 a2).bind fun r116 =>
                            if r116 = 0 then
                              (m_gr h43 a0 9 12).bind fun q118 =>
                              (q118).bind fun b120 =>
                              (m_ist h43 b120 a1 ((-1))).bind fun h122 =>
                              some ((1, h122))
                            else
                              some ((1, h43))
                          else none
                    else none
              else
                some ((0, h))
          else
            some ((0, h))
        else none
  else none
def Y_X10_convert : mY := (yX10_convert, cX10_convert, 5, some (FieldType.boolean), .ireturn)
theorem ok_X10_convert : m_Ok Y_X10_convert := ⟨by decide +kernel, ⟨by decide +kernel, by decide +kernel⟩, tw_4_224, tw_1_7, by decide, Or.inr (Or.inl ⟨Or.inr rfl, rfl⟩)⟩
theorem nn_X10_convert : (parseMethodDescriptor Y_X10_convert.1.desc).map (fun q => q.parameters.length) = some 2 := by decide +kernel
set_option maxHeartbeats 4000000 in
set_option maxRecDepth 20000 in
theorem j_X10_convert {X : mX} {d : Nat} {h : mH} {a0 : Nat} {a1 : Int32} {a2 : Int32} {rv : Int32} {h' : mH} (hd : 5 ≤ d) (hr : f_X10_convert h a0 a1 a2 = some (rv, h')) : m_J X Y_X10_convert d 0 [some (.ref a0), some (.int a1), some (.int a2), none, none] [] h (some (.int rv), h') := by
  obtain ⟨d, rfl⟩ : ∃ k, d = k + 1 := ⟨d - 1, by omega⟩
  unfold f_X10_convert at hr
  refine j_aload_n (i := 0) rfl rfl dX10_convert_0 ?_
  refine j_iload_n (i := 1) rfl rfl dX10_convert_1 ?_
  by_cases o171 : m_ob h a0 9 = true
  · rw [if_pos o171] at hr
    replace hr := m_bind hr; obtain ⟨r2, g1, hr⟩ := hr
    refine j_callV (Y' := Y_X10_isSpecimen) (a := a0) (as := [.int a1]) (ci := 9) (T := TX10) (N := 30) ok_X10_isSpecimen [some (.ref a0), some (.int a1)] rfl rfl rfl tw_4_113 tw_4_115 tw_p_18 nn_X10_isSpecimen (Nat.le_of_ble_eq_true rfl) dX10_convert_2 o171 (j_X10_isSpecimen (by omega) g1) ?_
    refine j_if_eq (tgt := 43) dX10_convert_5 rfl (fun c3 => ?_) (fun c3 => ?_)
    · rw [if_pos c3] at hr
      refine j_iconst (v := 0) rfl dX10_convert_43 ?_
      cases hr
      exact j_ret dX10_convert_44 m_rk_z0
    · rw [if_neg c3] at hr
      refine j_iload_n (i := 2) rfl rfl dX10_convert_8 ?_
      replace hr := m_bind hr; obtain ⟨r5, g4, hr⟩ := hr
      refine j_callS (Y' := Y_X10_isKind) (as := [.int a2]) ok_X10_isKind [some (.int a2)] rfl rfl tw_4_51 tw_4_52 nn_X10_isKind (Nat.le_of_ble_eq_true rfl) dX10_convert_9 (j_X10_isKind (by omega) g4) ?_
      refine j_if_eq (tgt := 43) dX10_convert_12 rfl (fun c6 => ?_) (fun c6 => ?_)
      · rw [if_pos c6] at hr
        refine j_iconst (v := 0) rfl dX10_convert_43 ?_
        cases hr
        exact j_ret dX10_convert_44 m_rk_z0
      · rw [if_neg c6] at hr
        refine j_aload_n (i := 0) rfl rfl dX10_convert_15 ?_
        refine j_iload_n (i := 2) rfl rfl dX10_convert_16 ?_
        by_cases o170 : m_ob h a0 9 = true
        · rw [if_pos o170] at hr
          replace hr := m_bind hr; obtain ⟨r8, g7, hr⟩ := hr
          refine j_callV (Y' := Y_X10_isAbstract) (a := a0) (as := [.int a2]) (ci := 9) (T := TX10) (N := 30) ok_X10_isAbstract [some (.ref a0), some (.int a2), none, none] rfl rfl rfl tw_4_92 tw_4_94 tw_p_16 nn_X10_isAbstract (Nat.le_of_ble_eq_true rfl) dX10_convert_17 o170 (j_X10_isAbstract g7) ?_
          refine j_if_ne (tgt := 43) dX10_convert_20 rfl (fun c9 => ?_) (fun c9 => ?_)
          · rw [if_neg c9] at hr
            refine j_iconst (v := 0) rfl dX10_convert_43 ?_
            cases hr
            exact j_ret dX10_convert_44 m_rk_z0
          · rw [if_pos c9] at hr
            refine j_aload_n (i := 0) rfl rfl dX10_convert_23 ?_
            replace hr := m_bind hr; obtain ⟨q10, g11, hr⟩ := hr
            refine j_getf (C := RX10) (T := TX10) (N := 30) (ci := 9) (k := 7) rfl (by decide) inX10 tw_3_200 dX10_convert_24 (m_gr_spec g11) ?_
            refine j_iload_n (i := 1) rfl rfl dX10_convert_27 ?_
            replace hr := m_bind hr; obtain ⟨b12, g13, hr⟩ := hr
            subst g13
            replace hr := m_bind hr; obtain ⟨x14, g15, hr⟩ := hr
            refine j_iaload dX10_convert_28 g15 ?_
            refine j_iload_n (i := 2) rfl rfl dX10_convert_29 ?_
            refine j_ic_eq (tgt := 43) dX10_convert_30 rfl (fun c16 => ?_) (fun c16 => ?_)
            · rw [if_pos c16] at hr
              refine j_iconst (v := 0) rfl dX10_convert_43 ?_
              cases hr
              exact j_ret dX10_convert_44 m_rk_z0
            · rw [if_neg c16] at hr
              refine j_aload_n (i := 0) rfl rfl dX10_convert_33 ?_
              replace hr := m_bind hr; obtain ⟨q17, g18, hr⟩ := hr
              refine j_getf (C := RX10) (T := TX10) (N := 30) (ci := 9) (k := 13) rfl (by decide) inX10 tw_3_206 dX10_convert_34 (m_gr_spec g18) ?_
              refine j_iload_n (i := 1) rfl rfl dX10_convert_37 ?_
              replace hr := m_bind hr; obtain ⟨b19, g20, hr⟩ := hr
              subst g20
              replace hr := m_bind hr; obtain ⟨x21, g22, hr⟩ := hr
              refine j_iaload dX10_convert_38 g22 ?_
              refine j_iconst (v := (-1)) rfl dX10_convert_39 ?_
              refine j_ic_eq (tgt := 45) dX10_convert_40 rfl (fun c23 => ?_) (fun c23 => ?_)
              · rw [if_pos c23] at hr
                refine j_iconst (v := 0) rfl dX10_convert_45 ?_
                refine j_istore_n (i := 3) (L' := [some (.ref a0), some (.int a1), some (.int a2), some (.int 0), none]) rfl (Nat.le_of_ble_eq_true rfl) rfl rfl dX10_convert_46 ?_
                refine j_bipush (v := 41) rfl dX10_convert_47 ?_
                refine j_istore (i := 4) (L' := [some (.ref a0), some (.int a1), some (.int a2), some (.int 0), some (.int 41)]) (Nat.le_of_ble_eq_true rfl) rfl rfl dX10_convert_49 ?_
                replace hr := m_bind hr; obtain ⟨e37, q169, hr⟩ := hr
                refine j_weak (L' := [some (.ref a0), some (.int a1), some (.int a2), some (.int 0), some (.int 41)]) (And.intro rfl (And.intro rfl (And.intro rfl (And.intro rfl (And.intro rfl trivial))))) ?_
                refine m_loop_sound (step := w_X10_convert_51 h a0 a1 a2) (P := fun s_24 => m_J X Y_X10_convert (d + 1) 51 [some (.ref a0), some (.int a1), some (.int a2), some (.int s_24.1), some (.int s_24.2)] [] h (some (.int rv), h')) (Qe := fun e37 => m_J X Y_X10_convert (d + 1) 90 [some (.ref a0), some (.int a1), some (.int a2), some (.int e37), none] [] h (some (.int rv), h')) ?_ _ _ _ q169 ?_
                · intro s_24 o hr hk
                  unfold w_X10_convert_51 at hr
                  refine j_iload (i := 4) rfl dX10_convert_51 ?_
                  refine j_bipush (v := 49) rfl dX10_convert_53 ?_
                  refine j_ic_ge (tgt := 90) dX10_convert_55 rfl (fun c25 => ?_) (fun c25 => ?_)
                  · rw [if_pos c25] at hr
                    cases hr
                    exact j_weak (L' := [some (.ref a0), some (.int a1), some (.int a2), some (.int s_24.1), none]) (And.intro rfl (And.intro rfl (And.intro rfl (And.intro rfl trivial)))) hk
                  · rw [if_neg c25] at hr
                    refine j_iload_n (i := 3) rfl rfl dX10_convert_58 ?_
                    refine j_if_ne (tgt := 78) dX10_convert_59 rfl (fun c26 => ?_) (fun c26 => ?_)
                    · rw [if_neg c26] at hr
                      refine j_iconst (v := 1) rfl dX10_convert_78 ?_
                      refine j_goto (tgt := 83) dX10_convert_79 rfl ?_
                      refine j_istore_n (i := 3) (L' := [some (.ref a0), some (.int a1), some (.int a2), some (.int 1), some (.int s_24.2)]) rfl (Nat.le_of_ble_eq_true rfl) rfl rfl dX10_convert_83 ?_
                      refine j_iinc (i := 4) (v := s_24.2 + 1) (L' := [some (.ref a0), some (.int a1), some (.int a2), some (.int 1), some (.int (s_24.2 + 1))]) rfl (m_o1 _) (Nat.le_of_ble_eq_true rfl) rfl rfl dX10_convert_84 ?_
                      refine j_goto (tgt := 51) dX10_convert_87 rfl ?_
                      cases hr
                      exact j_weak (L' := [some (.ref a0), some (.int a1), some (.int a2), some (.int 1), some (.int (s_24.2 + 1))]) (And.intro rfl (And.intro rfl (And.intro rfl (And.intro rfl (And.intro rfl trivial))))) hk
                    · rw [if_pos c26] at hr
                      refine j_aload_n (i := 0) rfl rfl dX10_convert_62 ?_
                      refine j_aload_n (i := 0) rfl rfl dX10_convert_63 ?_
                      replace hr := m_bind hr; obtain ⟨q27, g28, hr⟩ := hr
                      refine j_getf (C := RX10) (T := TX10) (N := 30) (ci := 9) (k := 7) rfl (by decide) inX10 tw_3_200 dX10_convert_64 (m_gr_spec g28) ?_
                      refine j_iload_n (i := 1) rfl rfl dX10_convert_67 ?_
                      replace hr := m_bind hr; obtain ⟨b29, g30, hr⟩ := hr
                      subst g30
                      replace hr := m_bind hr; obtain ⟨x31, g32, hr⟩ := hr
                      refine j_iaload dX10_convert_68 g32 ?_
                      refine j_iload_n (i := 2) rfl rfl dX10_convert_69 ?_
                      refine j_iload (i := 4) rfl dX10_convert_70 ?_
                      by_cases o36 : m_ob h a0 9 = true
                      · rw [if_pos o36] at hr
                        replace hr := m_bind hr; obtain ⟨r34, g33, hr⟩ := hr
                        refine j_callV (Y' := Y_X10_isShared) (a := a0) (as := [.int x31, .int a2, .int s_24.2]) (ci := 9) (T := TX10) (N := 30) ok_X10_isShared [some (.ref a0), some (.int x31), some (.int a2), some (.int s_24.2)] rfl rfl rfl tw_4_84 tw_4_86 tw_p_15 nn_X10_isShared (Nat.le_of_ble_eq_true rfl) dX10_convert_72 o36 (j_X10_isShared (by omega) g33) ?_
                        refine j_if_eq (tgt := 82) dX10_convert_75 rfl (fun c35 => ?_) (fun c35 => ?_)
                        · rw [if_pos c35] at hr
                          refine j_iconst (v := 0) rfl dX10_convert_82 ?_
                          refine j_istore_n (i := 3) (L' := [some (.ref a0), some (.int a1), some (.int a2), some (.int 0), some (.int s_24.2)]) rfl (Nat.le_of_ble_eq_true rfl) rfl rfl dX10_convert_83 ?_
                          refine j_iinc (i := 4) (v := s_24.2 + 1) (L' := [some (.ref a0), some (.int a1), some (.int a2), some (.int 0), some (.int (s_24.2 + 1))]) rfl (m_o1 _) (Nat.le_of_ble_eq_true rfl) rfl rfl dX10_convert_84 ?_
                          refine j_goto (tgt := 51) dX10_convert_87 rfl ?_
                          cases hr
                          exact j_weak (L' := [some (.ref a0), some (.int a1), some (.int a2), some (.int 0), some (.int (s_24.2 + 1))]) (And.intro rfl (And.intro rfl (And.intro rfl (And.intro rfl (And.intro rfl trivial))))) hk
                        · rw [if_neg c35] at hr
                          refine j_iconst (v := 1) rfl dX10_convert_78 ?_
                          refine j_goto (tgt := 83) dX10_convert_79 rfl ?_
                          refine j_istore_n (i := 3) (L' := [some (.ref a0), some (.int a1), some (.int a2), some (.int 1), some (.int s_24.2)]) rfl (Nat.le_of_ble_eq_true rfl) rfl rfl dX10_convert_83 ?_
                          refine j_iinc (i := 4) (v := s_24.2 + 1) (L' := [some (.ref a0), some (.int a1), some (.int a2), some (.int 1), some (.int (s_24.2 + 1))]) rfl (m_o1 _) (Nat.le_of_ble_eq_true rfl) rfl rfl dX10_convert_84 ?_
                          refine j_goto (tgt := 51) dX10_convert_87 rfl ?_
                          cases hr
                          exact j_weak (L' := [some (.ref a0), some (.int a1), some (.int a2), some (.int 1), some (.int (s_24.2 + 1))]) (And.intro rfl (And.intro rfl (And.intro rfl (And.intro rfl (And.intro rfl trivial))))) hk
                      · rw [if_neg o36] at hr
                        cases hr
                · skip
                  refine j_iload_n (i := 3) rfl rfl dX10_convert_90 ?_
                  refine j_if_ne (tgt := 96) dX10_convert_91 rfl (fun c38 => ?_) (fun c38 => ?_)
                  · rw [if_neg c38] at hr
                    refine j_aload_n (i := 0) rfl rfl dX10_convert_96 ?_
                    replace hr := m_bind hr; obtain ⟨q39, g40, hr⟩ := hr
                    refine j_getf (C := RX10) (T := TX10) (N := 30) (ci := 9) (k := 7) rfl (by decide) inX10 tw_3_200 dX10_convert_97 (m_gr_spec g40) ?_
                    refine j_iload_n (i := 1) rfl rfl dX10_convert_100 ?_
                    refine j_iload_n (i := 2) rfl rfl dX10_convert_101 ?_
                    replace hr := m_bind hr; obtain ⟨b41, g42, hr⟩ := hr
                    subst g42
                    replace hr := m_bind hr; obtain ⟨h43, g44, hr⟩ := hr
                    refine j_iastore dX10_convert_102 g44 ?_
                    refine j_aload_n (i := 0) rfl rfl dX10_convert_103 ?_
                    replace hr := m_bind hr; obtain ⟨q45, g46, hr⟩ := hr
                    refine j_getf (C := RX10) (T := TX10) (N := 30) (ci := 9) (k := 10) rfl (by decide) inX10 tw_3_203 dX10_convert_104 (m_gr_spec g46) ?_
                    refine j_iload_n (i := 1) rfl rfl dX10_convert_107 ?_
                    replace hr := m_bind hr; obtain ⟨b47, g48, hr⟩ := hr
                    subst g48
                    replace hr := m_bind hr; obtain ⟨x49, g50, hr⟩ := hr
                    refine j_iaload dX10_convert_108 g50 ?_
                    refine j_iconst (v := (-1)) rfl dX10_convert_109 ?_
                    refine j_ic_eq (tgt := 146) dX10_convert_110 rfl (fun c51 => ?_) (fun c51 => ?_)
                    · rw [if_pos c51] at hr
                      refine j_aload_n (i := 0) rfl rfl dX10_convert_146 ?_
                      replace hr := m_bind hr; obtain ⟨q52, g53, hr⟩ := hr
                      refine j_getf (C := RX10) (T := TX10) (N := 30) (ci := 9) (k := 12) rfl (by decide) inX10 tw_3_205 dX10_convert_147 (m_gr_spec g53) ?_
                      refine j_iload_n (i := 1) rfl rfl dX10_convert_150 ?_
                      replace hr := m_bind hr; obtain ⟨b54, g55, hr⟩ := hr
                      subst g55
                      replace hr := m_bind hr; obtain ⟨x56, g57, hr⟩ := hr
                      refine j_iaload dX10_convert_151 g57 ?_
                      refine j_iconst (v := (-1)) rfl dX10_convert_152 ?_
                      refine j_ic_eq (tgt := 182) dX10_convert_153 rfl (fun c58 => ?_) (fun c58 => ?_)
                      · rw [if_pos c58] at hr
                        refine j_iconst (v := 1) rfl dX10_convert_182 ?_
                        cases hr
                        exact j_ret dX10_convert_183 m_rk_z1
                      · rw [if_neg c58] at hr
                        refine j_aload_n (i := 0) rfl rfl dX10_convert_156 ?_
                        refine j_aload_n (i := 0) rfl rfl dX10_convert_157 ?_
                        replace hr := m_bind hr; obtain ⟨q59, g60, hr⟩ := hr
                        refine j_getf (C := RX10) (T := TX10) (N := 30) (ci := 9) (k := 20) rfl (by decide) inX10 tw_3_213 dX10_convert_158 (m_gr_spec g60) ?_
                        refine j_aload_n (i := 0) rfl rfl dX10_convert_161 ?_
                        replace hr := m_bind hr; obtain ⟨q61, g62, hr⟩ := hr
                        refine j_getf (C := RX10) (T := TX10) (N := 30) (ci := 9) (k := 12) rfl (by decide) inX10 tw_3_205 dX10_convert_162 (m_gr_spec g62) ?_
                        refine j_iload_n (i := 1) rfl rfl dX10_convert_165 ?_
                        replace hr := m_bind hr; obtain ⟨b63, g64, hr⟩ := hr
                        subst g64
                        replace hr := m_bind hr; obtain ⟨x65, g66, hr⟩ := hr
                        refine j_iaload dX10_convert_166 g66 ?_
                        replace hr := m_bind hr; obtain ⟨b67, g68, hr⟩ := hr
                        subst g68
                        replace hr := m_bind hr; obtain ⟨x69, g70, hr⟩ := hr
                        refine j_iaload dX10_convert_167 g70 ?_
                        refine j_iload_n (i := 2) rfl rfl dX10_convert_168 ?_
                        by_cases o80 : m_ob h43 a0 9 = true
                        · rw [if_pos o80] at hr
                          replace hr := m_bind hr; obtain ⟨r72, g71, hr⟩ := hr
                          refine j_callV (Y' := Y_X10_above) (a := a0) (as := [.int x69, .int a2]) (ci := 9) (T := TX10) (N := 30) ok_X10_above [some (.ref a0), some (.int x69), some (.int a2)] rfl rfl rfl tw_4_60 tw_4_62 tw_p_12 nn_X10_above (Nat.le_of_ble_eq_true rfl) dX10_convert_169 o80 (j_X10_above (by omega) g71) ?_
                          refine j_if_ne (tgt := 182) dX10_convert_172 rfl (fun c73 => ?_) (fun c73 => ?_)
                          · rw [if_neg c73] at hr
                            refine j_iconst (v := 1) rfl dX10_convert_182 ?_
                            cases hr
                            exact j_ret dX10_convert_183 m_rk_z1
                          · rw [if_pos c73] at hr
                            refine j_aload_n (i := 0) rfl rfl dX10_convert_175 ?_
                            replace hr := m_bind hr; obtain ⟨q74, g75, hr⟩ := hr
                            refine j_getf (C := RX10) (T := TX10) (N := 30) (ci := 9) (k := 12) rfl (by decide) inX10 tw_3_205 dX10_convert_176 (m_gr_spec g75) ?_
                            refine j_iload_n (i := 1) rfl rfl dX10_convert_179 ?_
                            refine j_iconst (v := (-1)) rfl dX10_convert_180 ?_
                            replace hr := m_bind hr; obtain ⟨b76, g77, hr⟩ := hr
                            subst g77
                            replace hr := m_bind hr; obtain ⟨h78, g79, hr⟩ := hr
                            refine j_iastore dX10_convert_181 g79 ?_
                            refine j_iconst (v := 1) rfl dX10_convert_182 ?_
                            cases hr
                            exact j_ret dX10_convert_183 m_rk_z1
                        · rw [if_neg o80] at hr
                          cases hr
                    · rw [if_neg c51] at hr
                      refine j_aload_n (i := 0) rfl rfl dX10_convert_113 ?_
                      refine j_aload_n (i := 0) rfl rfl dX10_convert_114 ?_
                      replace hr := m_bind hr; obtain ⟨q81, g82, hr⟩ := hr
                      refine j_getf (C := RX10) (T := TX10) (N := 30) (ci := 9) (k := 18) rfl (by decide) inX10 tw_3_211 dX10_convert_115 (m_gr_spec g82) ?_
                      refine j_aload_n (i := 0) rfl rfl dX10_convert_118 ?_
                      replace hr := m_bind hr; obtain ⟨q83, g84, hr⟩ := hr
                      refine j_getf (C := RX10) (T := TX10) (N := 30) (ci := 9) (k := 10) rfl (by decide) inX10 tw_3_203 dX10_convert_119 (m_gr_spec g84) ?_
                      refine j_iload_n (i := 1) rfl rfl dX10_convert_122 ?_
                      replace hr := m_bind hr; obtain ⟨b85, g86, hr⟩ := hr
                      subst g86
                      replace hr := m_bind hr; obtain ⟨x87, g88, hr⟩ := hr
                      refine j_iaload dX10_convert_123 g88 ?_
                      replace hr := m_bind hr; obtain ⟨b89, g90, hr⟩ := hr
                      subst g90
                      replace hr := m_bind hr; obtain ⟨x91, g92, hr⟩ := hr
                      refine j_iaload dX10_convert_124 g92 ?_
                      refine j_iload_n (i := 2) rfl rfl dX10_convert_125 ?_
                      by_cases o166 : m_ob h43 a0 9 = true
                      · rw [if_pos o166] at hr
                        replace hr := m_bind hr; obtain ⟨r94, g93, hr⟩ := hr
                        refine j_callV (Y' := Y_X10_above) (a := a0) (as := [.int x91, .int a2]) (ci := 9) (T := TX10) (N := 30) ok_X10_above [some (.ref a0), some (.int x91), some (.int a2)] rfl rfl rfl tw_4_60 tw_4_62 tw_p_12 nn_X10_above (Nat.le_of_ble_eq_true rfl) dX10_convert_126 o166 (j_X10_above (by omega) g93) ?_
                        refine j_if_ne (tgt := 146) dX10_convert_129 rfl (fun c95 => ?_) (fun c95 => ?_)
                        · rw [if_neg c95] at hr
                          refine j_aload_n (i := 0) rfl rfl dX10_convert_146 ?_
                          replace hr := m_bind hr; obtain ⟨q96, g97, hr⟩ := hr
                          refine j_getf (C := RX10) (T := TX10) (N := 30) (ci := 9) (k := 12) rfl (by decide) inX10 tw_3_205 dX10_convert_147 (m_gr_spec g97) ?_
                          refine j_iload_n (i := 1) rfl rfl dX10_convert_150 ?_
                          replace hr := m_bind hr; obtain ⟨b98, g99, hr⟩ := hr
                          subst g99
                          replace hr := m_bind hr; obtain ⟨x100, g101, hr⟩ := hr
                          refine j_iaload dX10_convert_151 g101 ?_
                          refine j_iconst (v := (-1)) rfl dX10_convert_152 ?_
                          refine j_ic_eq (tgt := 182) dX10_convert_153 rfl (fun c102 => ?_) (fun c102 => ?_)
                          · rw [if_pos c102] at hr
                            refine j_iconst (v := 1) rfl dX10_convert_182 ?_
                            cases hr
                            exact j_ret dX10_convert_183 m_rk_z1
                          · rw [if_neg c102] at hr
                            refine j_aload_n (i := 0) rfl rfl dX10_convert_156 ?_
                            refine j_aload_n (i := 0) rfl rfl dX10_convert_157 ?_
                            replace hr := m_bind hr; obtain ⟨q103, g104, hr⟩ := hr
                            refine j_getf (C := RX10) (T := TX10) (N := 30) (ci := 9) (k := 20) rfl (by decide) inX10 tw_3_213 dX10_convert_158 (m_gr_spec g104) ?_
                            refine j_aload_n (i := 0) rfl rfl dX10_convert_161 ?_
                            replace hr := m_bind hr; obtain ⟨q105, g106, hr⟩ := hr
                            refine j_getf (C := RX10) (T := TX10) (N := 30) (ci := 9) (k := 12) rfl (by decide) inX10 tw_3_205 dX10_convert_162 (m_gr_spec g106) ?_
                            refine j_iload_n (i := 1) rfl rfl dX10_convert_165 ?_
                            replace hr := m_bind hr; obtain ⟨b107, g108, hr⟩ := hr
                            subst g108
                            replace hr := m_bind hr; obtain ⟨x109, g110, hr⟩ := hr
                            refine j_iaload dX10_convert_166 g110 ?_
                            replace hr := m_bind hr; obtain ⟨b111, g112, hr⟩ := hr
                            subst g112
                            replace hr := m_bind hr; obtain ⟨x113, g114, hr⟩ := hr
                            refine j_iaload dX10_convert_167 g114 ?_
                            refine j_iload_n (i := 2) rfl rfl dX10_convert_168 ?_
                            by_cases o124 : m_ob h43 a0 9 = true
                            · rw [if_pos o124] at hr
                              replace hr := m_bind hr; obtain ⟨r116, g115, hr⟩ := hr
                              refine j_callV (Y' := Y_X10_above) (a := a0) (as := [.int x113, .int a2]) (ci := 9) (T := TX10) (N := 30) ok_X10_above [some (.ref a0), some (.int x113), some (.int a2)] rfl rfl rfl tw_4_60 tw_4_62 tw_p_12 nn_X10_above (Nat.le_of_ble_eq_true rfl) dX10_convert_169 o124 (j_X10_above (by omega) g115) ?_
                              refine j_if_ne (tgt := 182) dX10_convert_172 rfl (fun c117 => ?_) (fun c117 => ?_)
                              · rw [if_neg c117] at hr
                                refine j_iconst (v := 1) rfl dX10_convert_182 ?_
                                cases hr
                                exact j_ret dX10_convert_183 m_rk_z1
                              · rw [if_pos c117] at hr
                                refine j_aload_n (i := 0) rfl rfl dX10_convert_175 ?_
                                replace hr := m_bind hr; obtain ⟨q118, g119, hr⟩ := hr
                                refine j_getf (C := RX10) (T := TX10) (N := 30) (ci := 9) (k := 12) rfl (by decide) inX10 tw_3_205 dX10_convert_176 (m_gr_spec g119) ?_
                                refine j_iload_n (i := 1) rfl rfl dX10_convert_179 ?_
                                refine j_iconst (v := (-1)) rfl dX10_convert_180 ?_
                                replace hr := m_bind hr; obtain ⟨b120, g121, hr⟩ := hr
                                subst g121
                                replace hr := m_bind hr; obtain ⟨h122, g123, hr⟩ := hr
                                refine j_iastore dX10_convert_181 g123 ?_
                                refine j_iconst (v := 1) rfl dX10_convert_182 ?_
                                cases hr
                                exact j_ret dX10_convert_183 m_rk_z1
                            · rw [if_neg o124] at hr
                              cases hr
                        · rw [if_pos c95] at hr
                          refine j_aload_n (i := 0) rfl rfl dX10_convert_132 ?_
                          replace hr := m_bind hr; obtain ⟨q125, g126, hr⟩ := hr
                          refine j_getf (C := RX10) (T := TX10) (N := 30) (ci := 9) (k := 10) rfl (by decide) inX10 tw_3_203 dX10_convert_133 (m_gr_spec g126) ?_
                          refine j_iload_n (i := 1) rfl rfl dX10_convert_136 ?_
                          refine j_iconst (v := (-1)) rfl dX10_convert_137 ?_
                          replace hr := m_bind hr; obtain ⟨b127, g128, hr⟩ := hr
                          subst g128
                          replace hr := m_bind hr; obtain ⟨h129, g130, hr⟩ := hr
                          refine j_iastore dX10_convert_138 g130 ?_
                          refine j_aload_n (i := 0) rfl rfl dX10_convert_139 ?_
                          replace hr := m_bind hr; obtain ⟨q131, g132, hr⟩ := hr
                          refine j_getf (C := RX10) (T := TX10) (N := 30) (ci := 9) (k := 11) rfl (by decide) inX10 tw_3_204 dX10_convert_140 (m_gr_spec g132) ?_
                          refine j_iload_n (i := 1) rfl rfl dX10_convert_143 ?_
                          refine j_iconst (v := (-1)) rfl dX10_convert_144 ?_
                          replace hr := m_bind hr; obtain ⟨b133, g134, hr⟩ := hr
                          subst g134
                          replace hr := m_bind hr; obtain ⟨h135, g136, hr⟩ := hr
                          refine j_iastore dX10_convert_145 g136 ?_
                          refine j_aload_n (i := 0) rfl rfl dX10_convert_146 ?_
                          replace hr := m_bind hr; obtain ⟨q137, g138, hr⟩ := hr
                          refine j_getf (C := RX10) (T := TX10) (N := 30) (ci := 9) (k := 12) rfl (by decide) inX10 tw_3_205 dX10_convert_147 (m_gr_spec g138) ?_
                          refine j_iload_n (i := 1) rfl rfl dX10_convert_150 ?_
                          replace hr := m_bind hr; obtain ⟨b139, g140, hr⟩ := hr
                          subst g140
                          replace hr := m_bind hr; obtain ⟨x141, g142, hr⟩ := hr
                          refine j_iaload dX10_convert_151 g142 ?_
                          refine j_iconst (v := (-1)) rfl dX10_convert_152 ?_
                          refine j_ic_eq (tgt := 182) dX10_convert_153 rfl (fun c143 => ?_) (fun c143 => ?_)
                          · rw [if_pos c143] at hr
                            refine j_iconst (v := 1) rfl dX10_convert_182 ?_
                            cases hr
                            exact j_ret dX10_convert_183 m_rk_z1
                          · rw [if_neg c143] at hr
                            refine j_aload_n (i := 0) rfl rfl dX10_convert_156 ?_
                            refine j_aload_n (i := 0) rfl rfl dX10_convert_157 ?_
                            replace hr := m_bind hr; obtain ⟨q144, g145, hr⟩ := hr
                            refine j_getf (C := RX10) (T := TX10) (N := 30) (ci := 9) (k := 20) rfl (by decide) inX10 tw_3_213 dX10_convert_158 (m_gr_spec g145) ?_
                            refine j_aload_n (i := 0) rfl rfl dX10_convert_161 ?_
                            replace hr := m_bind hr; obtain ⟨q146, g147, hr⟩ := hr
                            refine j_getf (C := RX10) (T := TX10) (N := 30) (ci := 9) (k := 12) rfl (by decide) inX10 tw_3_205 dX10_convert_162 (m_gr_spec g147) ?_
                            refine j_iload_n (i := 1) rfl rfl dX10_convert_165 ?_
                            replace hr := m_bind hr; obtain ⟨b148, g149, hr⟩ := hr
                            subst g149
                            replace hr := m_bind hr; obtain ⟨x150, g151, hr⟩ := hr
                            refine j_iaload dX10_convert_166 g151 ?_
                            replace hr := m_bind hr; obtain ⟨b152, g153, hr⟩ := hr
                            subst g153
                            replace hr := m_bind hr; obtain ⟨x154, g155, hr⟩ := hr
                            refine j_iaload dX10_convert_167 g155 ?_
                            refine j_iload_n (i := 2) rfl rfl dX10_convert_168 ?_
                            by_cases o165 : m_ob h135 a0 9 = true
                            · rw [if_pos o165] at hr
                              replace hr := m_bind hr; obtain ⟨r157, g156, hr⟩ := hr
                              refine j_callV (Y' := Y_X10_above) (a := a0) (as := [.int x154, .int a2]) (ci := 9) (T := TX10) (N := 30) ok_X10_above [some (.ref a0), some (.int x154), some (.int a2)] rfl rfl rfl tw_4_60 tw_4_62 tw_p_12 nn_X10_above (Nat.le_of_ble_eq_true rfl) dX10_convert_169 o165 (j_X10_above (by omega) g156) ?_
                              refine j_if_ne (tgt := 182) dX10_convert_172 rfl (fun c158 => ?_) (fun c158 => ?_)
                              · rw [if_neg c158] at hr
                                refine j_iconst (v := 1) rfl dX10_convert_182 ?_
                                cases hr
                                exact j_ret dX10_convert_183 m_rk_z1
                              · rw [if_pos c158] at hr
                                refine j_aload_n (i := 0) rfl rfl dX10_convert_175 ?_
                                replace hr := m_bind hr; obtain ⟨q159, g160, hr⟩ := hr
                                refine j_getf (C := RX10) (T := TX10) (N := 30) (ci := 9) (k := 12) rfl (by decide) inX10 tw_3_205 dX10_convert_176 (m_gr_spec g160) ?_
                                refine j_iload_n (i := 1) rfl rfl dX10_convert_179 ?_
                                refine j_iconst (v := (-1)) rfl dX10_convert_180 ?_
                                replace hr := m_bind hr; obtain ⟨b161, g162, hr⟩ := hr
                                subst g162
                                replace hr := m_bind hr; obtain ⟨h163, g164, hr⟩ := hr
                                refine j_iastore dX10_convert_181 g164 ?_
                                refine j_iconst (v := 1) rfl dX10_convert_182 ?_
                                cases hr
                                exact j_ret dX10_convert_183 m_rk_z1
                            · rw [if_neg o165] at hr
                              cases hr
                      · rw [if_neg o166] at hr
                        cases hr
                  · rw [if_pos c38] at hr
                    refine j_iconst (v := 0) rfl dX10_convert_94 ?_
                    cases hr
                    exact j_ret dX10_convert_95 m_rk_z0
              · rw [if_neg c23] at hr
                refine j_iconst (v := 0) rfl dX10_convert_43 ?_
                cases hr
                exact j_ret dX10_convert_44 m_rk_z0
        · rw [if_neg o170] at hr
          cases hr
  · rw [if_neg o171] at hr
    cases hr
def w_X10_find_15 (h : mH) (a0 : Nat) (a1 : Int32) (a2 : Int32) (a3 : Int32) : (Int32 × Int32) → Option ((Int32 × Int32) ⊕ (Int32)) := fun s_4 =>
  (m_gi h a0 9 6).bind fun x5 =>
  if x5 ≤ s_4.2 then
    some (.inr s_4.1)
  else
    (m_gr h a0 9 7).bind fun q8 =>
    (q8).bind fun b10 =>
    (m_ild h b10 s_4.2).bind fun x12 =>
    if m_ob h a0 9 = true then
      (f_X10_above h a0 a1 x12).bind fun r15 =>
      if r15 = 0 then
        some (.inl (s_4.1 + 0, s_4.2 + 1))
      else
        (m_gr h a0 9 8).bind fun q17 =>
        (q17).bind fun b19 =>
        (m_ild h b19 s_4.2).bind fun x21 =>
        (f_X10_in x21 a2 a3).bind fun r24 =>
        if r24 = 0 then
          some (.inl (s_4.1 + 0, s_4.2 + 1))
        else
          some (.inl (s_4.1 + 1, s_4.2 + 1))
    else none
def f_X10_find (h : mH) (a0 : Nat) (a1 : Int32) (a2 : Int32) (a3 : Int32) : Option (Int32) :=
  (f_X10_isCode a1).bind fun r2 =>
  if r2 = 0 then
    some ((-1))
  else
    (m_loop (w_X10_find_15 h a0 a1 a2 a3) 5000 ((0, 0))).bind fun e27 =>
    some e27
def Y_X10_find : mY := (yX10_find, cX10_find, 6, some (FieldType.int), .ireturn)
theorem ok_X10_find : m_Ok Y_X10_find := ⟨by decide +kernel, ⟨by decide +kernel, by decide +kernel⟩, tw_4_228, tw_1_7, by decide, Or.inr (Or.inl ⟨Or.inl rfl, rfl⟩)⟩
theorem nn_X10_find : (parseMethodDescriptor Y_X10_find.1.desc).map (fun q => q.parameters.length) = some 3 := by decide +kernel
set_option maxHeartbeats 4000000 in
set_option maxRecDepth 20000 in
theorem j_X10_find {X : mX} {d : Nat} {h : mH} {a0 : Nat} {a1 : Int32} {a2 : Int32} {a3 : Int32} {rv : Int32} (hd : 4 ≤ d) (hr : f_X10_find h a0 a1 a2 a3 = some rv) : m_J X Y_X10_find d 0 [some (.ref a0), some (.int a1), some (.int a2), some (.int a3), none, none] [] h (some (.int rv), h) := by
  obtain ⟨d, rfl⟩ : ∃ k, d = k + 1 := ⟨d - 1, by omega⟩
  unfold f_X10_find at hr
  refine j_iload_n (i := 1) rfl rfl dX10_find_0 ?_
  replace hr := m_bind hr; obtain ⟨r2, g1, hr⟩ := hr
  refine j_callS (Y' := Y_X10_isCode) (as := [.int a1]) ok_X10_isCode [some (.int a1)] rfl rfl tw_4_48 tw_4_49 nn_X10_isCode (Nat.le_of_ble_eq_true rfl) dX10_find_1 (j_X10_isCode (by omega) g1) ?_
  refine j_if_ne (tgt := 9) dX10_find_4 rfl (fun c3 => ?_) (fun c3 => ?_)
  · rw [if_neg c3] at hr
    refine j_iconst (v := 0) rfl dX10_find_9 ?_
    refine j_istore (i := 4) (L' := [some (.ref a0), some (.int a1), some (.int a2), some (.int a3), some (.int 0), none]) (Nat.le_of_ble_eq_true rfl) rfl rfl dX10_find_10 ?_
    refine j_iconst (v := 0) rfl dX10_find_12 ?_
    refine j_istore (i := 5) (L' := [some (.ref a0), some (.int a1), some (.int a2), some (.int a3), some (.int 0), some (.int 0)]) (Nat.le_of_ble_eq_true rfl) rfl rfl dX10_find_13 ?_
    replace hr := m_bind hr; obtain ⟨e27, q30, hr⟩ := hr
    refine j_weak (L' := [some (.ref a0), some (.int a1), some (.int a2), some (.int a3), some (.int 0), some (.int 0)]) (And.intro rfl (And.intro rfl (And.intro rfl (And.intro rfl (And.intro rfl (And.intro rfl trivial)))))) ?_
    refine m_loop_sound (step := w_X10_find_15 h a0 a1 a2 a3) (P := fun s_4 => m_J X Y_X10_find (d + 1) 15 [some (.ref a0), some (.int a1), some (.int a2), some (.int a3), some (.int s_4.1), some (.int s_4.2)] [] h (some (.int rv), h)) (Qe := fun e27 => m_J X Y_X10_find (d + 1) 70 [none, none, none, none, some (.int e27), none] [] h (some (.int rv), h)) ?_ _ _ _ q30 ?_
    · intro s_4 o hr hk
      unfold w_X10_find_15 at hr
      refine j_iload (i := 5) rfl dX10_find_15 ?_
      refine j_aload_n (i := 0) rfl rfl dX10_find_17 ?_
      replace hr := m_bind hr; obtain ⟨x5, g6, hr⟩ := hr
      refine j_getf (C := RX10) (T := TX10) (N := 30) (ci := 9) (k := 6) rfl (by decide) inX10 tw_3_199 dX10_find_18 (m_gi_spec g6) ?_
      refine j_ic_ge (tgt := 70) dX10_find_21 rfl (fun c7 => ?_) (fun c7 => ?_)
      · rw [if_pos c7] at hr
        cases hr
        exact j_weak (L' := [none, none, none, none, some (.int s_4.1), none]) (And.intro rfl trivial) hk
      · rw [if_neg c7] at hr
        refine j_iload (i := 4) rfl dX10_find_24 ?_
        refine j_aload_n (i := 0) rfl rfl dX10_find_26 ?_
        refine j_iload_n (i := 1) rfl rfl dX10_find_27 ?_
        refine j_aload_n (i := 0) rfl rfl dX10_find_28 ?_
        replace hr := m_bind hr; obtain ⟨q8, g9, hr⟩ := hr
        refine j_getf (C := RX10) (T := TX10) (N := 30) (ci := 9) (k := 7) rfl (by decide) inX10 tw_3_200 dX10_find_29 (m_gr_spec g9) ?_
        refine j_iload (i := 5) rfl dX10_find_32 ?_
        replace hr := m_bind hr; obtain ⟨b10, g11, hr⟩ := hr
        subst g11
        replace hr := m_bind hr; obtain ⟨x12, g13, hr⟩ := hr
        refine j_iaload dX10_find_34 g13 ?_
        by_cases o26 : m_ob h a0 9 = true
        · rw [if_pos o26] at hr
          replace hr := m_bind hr; obtain ⟨r15, g14, hr⟩ := hr
          refine j_callV (Y' := Y_X10_above) (a := a0) (as := [.int a1, .int x12]) (ci := 9) (T := TX10) (N := 30) ok_X10_above [some (.ref a0), some (.int a1), some (.int x12)] rfl rfl rfl tw_4_60 tw_4_62 tw_p_12 nn_X10_above (Nat.le_of_ble_eq_true rfl) dX10_find_35 o26 (j_X10_above (by omega) g14) ?_
          refine j_if_eq (tgt := 60) dX10_find_38 rfl (fun c16 => ?_) (fun c16 => ?_)
          · rw [if_pos c16] at hr
            refine j_iconst (v := 0) rfl dX10_find_60 ?_
            refine j_iadd dX10_find_61 ?_
            refine j_istore (i := 4) (L' := [some (.ref a0), some (.int a1), some (.int a2), some (.int a3), some (.int (s_4.1 + 0)), some (.int s_4.2)]) (Nat.le_of_ble_eq_true rfl) rfl rfl dX10_find_62 ?_
            refine j_iinc (i := 5) (v := s_4.2 + 1) (L' := [some (.ref a0), some (.int a1), some (.int a2), some (.int a3), some (.int (s_4.1 + 0)), some (.int (s_4.2 + 1))]) rfl (m_o1 _) (Nat.le_of_ble_eq_true rfl) rfl rfl dX10_find_64 ?_
            refine j_goto (tgt := 15) dX10_find_67 rfl ?_
            cases hr
            exact j_weak (L' := [some (.ref a0), some (.int a1), some (.int a2), some (.int a3), some (.int (s_4.1 + 0)), some (.int (s_4.2 + 1))]) (And.intro rfl (And.intro rfl (And.intro rfl (And.intro rfl (And.intro rfl (And.intro rfl trivial)))))) hk
          · rw [if_neg c16] at hr
            refine j_aload_n (i := 0) rfl rfl dX10_find_41 ?_
            replace hr := m_bind hr; obtain ⟨q17, g18, hr⟩ := hr
            refine j_getf (C := RX10) (T := TX10) (N := 30) (ci := 9) (k := 8) rfl (by decide) inX10 tw_3_201 dX10_find_42 (m_gr_spec g18) ?_
            refine j_iload (i := 5) rfl dX10_find_45 ?_
            replace hr := m_bind hr; obtain ⟨b19, g20, hr⟩ := hr
            subst g20
            replace hr := m_bind hr; obtain ⟨x21, g22, hr⟩ := hr
            refine j_iaload dX10_find_47 g22 ?_
            refine j_iload_n (i := 2) rfl rfl dX10_find_48 ?_
            refine j_iload_n (i := 3) rfl rfl dX10_find_49 ?_
            replace hr := m_bind hr; obtain ⟨r24, g23, hr⟩ := hr
            refine j_callS (Y' := Y_X10_in) (as := [.int x21, .int a2, .int a3]) ok_X10_in [some (.int x21), some (.int a2), some (.int a3)] rfl rfl tw_4_54 tw_4_55 nn_X10_in (Nat.le_of_ble_eq_true rfl) dX10_find_50 (j_X10_in g23) ?_
            refine j_if_eq (tgt := 60) dX10_find_53 rfl (fun c25 => ?_) (fun c25 => ?_)
            · rw [if_pos c25] at hr
              refine j_iconst (v := 0) rfl dX10_find_60 ?_
              refine j_iadd dX10_find_61 ?_
              refine j_istore (i := 4) (L' := [some (.ref a0), some (.int a1), some (.int a2), some (.int a3), some (.int (s_4.1 + 0)), some (.int s_4.2)]) (Nat.le_of_ble_eq_true rfl) rfl rfl dX10_find_62 ?_
              refine j_iinc (i := 5) (v := s_4.2 + 1) (L' := [some (.ref a0), some (.int a1), some (.int a2), some (.int a3), some (.int (s_4.1 + 0)), some (.int (s_4.2 + 1))]) rfl (m_o1 _) (Nat.le_of_ble_eq_true rfl) rfl rfl dX10_find_64 ?_
              refine j_goto (tgt := 15) dX10_find_67 rfl ?_
              cases hr
              exact j_weak (L' := [some (.ref a0), some (.int a1), some (.int a2), some (.int a3), some (.int (s_4.1 + 0)), some (.int (s_4.2 + 1))]) (And.intro rfl (And.intro rfl (And.intro rfl (And.intro rfl (And.intro rfl (And.intro rfl trivial)))))) hk
            · rw [if_neg c25] at hr
              refine j_iconst (v := 1) rfl dX10_find_56 ?_
              refine j_goto (tgt := 61) dX10_find_57 rfl ?_
              refine j_iadd dX10_find_61 ?_
              refine j_istore (i := 4) (L' := [some (.ref a0), some (.int a1), some (.int a2), some (.int a3), some (.int (s_4.1 + 1)), some (.int s_4.2)]) (Nat.le_of_ble_eq_true rfl) rfl rfl dX10_find_62 ?_
              refine j_iinc (i := 5) (v := s_4.2 + 1) (L' := [some (.ref a0), some (.int a1), some (.int a2), some (.int a3), some (.int (s_4.1 + 1)), some (.int (s_4.2 + 1))]) rfl (m_o1 _) (Nat.le_of_ble_eq_true rfl) rfl rfl dX10_find_64 ?_
              refine j_goto (tgt := 15) dX10_find_67 rfl ?_
              cases hr
              exact j_weak (L' := [some (.ref a0), some (.int a1), some (.int a2), some (.int a3), some (.int (s_4.1 + 1)), some (.int (s_4.2 + 1))]) (And.intro rfl (And.intro rfl (And.intro rfl (And.intro rfl (And.intro rfl (And.intro rfl trivial)))))) hk
        · rw [if_neg o26] at hr
          cases hr
    · skip
      refine j_iload (i := 4) rfl dX10_find_70 ?_
      cases hr
      exact j_ret dX10_find_72 m_rk_i
  · rw [if_pos c3] at hr
    refine j_iconst (v := (-1)) rfl dX10_find_7 ?_
    cases hr
    exact j_ret dX10_find_8 m_rk_i
def w_X10_nth_42 (h : mH) (a0 : Nat) (a1 : Int32) (s_4 : Int32) : (Int32 × Int32) → Option ((Int32 × Int32) ⊕ (Int32)) := fun s_17 =>
  (m_gi h a0 9 6).bind fun x18 =>
  if x18 ≤ s_17.2 then
    some (.inr s_17.1)
  else
    (m_gr h a0 9 8).bind fun q21 =>
    (q21).bind fun b23 =>
    (m_ild h b23 s_17.2).bind fun x25 =>
    (m_gr h a0 9 8).bind fun q27 =>
    (q27).bind fun b29 =>
    (m_ild h b29 s_4).bind fun x31 =>
    if x25 < x31 then
      (m_gr h a0 9 7).bind fun q35 =>
      (q35).bind fun b37 =>
      (m_ild h b37 s_17.2).bind fun x39 =>
      if m_ob h a0 9 = true then
        (f_X10_above h a0 a1 x39).bind fun r42 =>
        if r42 = 0 then
          some (.inl (s_17.1 + 0, s_17.2 + 1))
        else
          some (.inl (s_17.1 + 1, s_17.2 + 1))
      else none
    else
      (m_gr h a0 9 8).bind fun q45 =>
      (q45).bind fun b47 =>
      (m_ild h b47 s_17.2).bind fun x49 =>
      (m_gr h a0 9 8).bind fun q51 =>
      (q51).bind fun b53 =>
      (m_ild h b53 s_4).bind fun x55 =>
      if x49 = x55 then
        if s_4 ≤ s_17.2 then
          some (.inl (s_17.1 + 0, s_17.2 + 1))
        else
          (m_gr h a0 9 7).bind fun q62 =>
          (q62).bind fun b64 =>
          (m_ild h b64 s_17.2).bind fun x66 =>
          if m_ob h a0 9 = true then
            (f_X10_above h a0 a1 x66).bind fun r69 =>
            if r69 = 0 then
              some (.inl (s_17.1 + 0, s_17.2 + 1))
            else
              some (.inl (s_17.1 + 1, s_17.2 + 1))
          else none
      else
        some (.inl (s_17.1 + 0, s_17.2 + 1))
def w_X10_nth_11 (h : mH) (a0 : Nat) (a1 : Int32) (a2 : Int32) : Int32 → Option ((Int32) ⊕ ((Unit) ⊕ (Int32))) := fun s_4 =>
  (m_gi h a0 9 6).bind fun x5 =>
  if x5 ≤ s_4 then
    some (.inr (.inl ()))
  else
    (m_gr h a0 9 7).bind fun q8 =>
    (q8).bind fun b10 =>
    (m_ild h b10 s_4).bind fun x12 =>
    if m_ob h a0 9 = true then
      (f_X10_above h a0 a1 x12).bind fun r15 =>
      if r15 = 0 then
        some (.inl (s_4 + 1))
      else
        (m_loop (w_X10_nth_42 h a0 a1 s_4) 5000 ((0, 0))).bind fun e72 =>
        if e72 = a2 then
          some (.inr (.inr s_4))
        else
          some (.inl (s_4 + 1))
    else none
def f_X10_nth (h : mH) (a0 : Nat) (a1 : Int32) (a2 : Int32) : Option (Int32) :=
  (f_X10_isCode a1).bind fun r2 =>
  if r2 = 0 then
    some ((-1))
  else
    (m_loop (w_X10_nth_11 h a0 a1 a2) 5000 0).bind fun e78 => match e78 with
    | .inl x79 =>
      some ((-1))
    | .inr v81 => some v81
def Y_X10_nth : mY := (yX10_nth, cX10_nth, 7, some (FieldType.int), .ireturn)
theorem ok_X10_nth : m_Ok Y_X10_nth := ⟨by decide +kernel, ⟨by decide +kernel, by decide +kernel⟩, tw_4_232, tw_1_7, by decide, Or.inr (Or.inl ⟨Or.inl rfl, rfl⟩)⟩
theorem nn_X10_nth : (parseMethodDescriptor Y_X10_nth.1.desc).map (fun q => q.parameters.length) = some 2 := by decide +kernel
set_option maxHeartbeats 4000000 in
set_option maxRecDepth 20000 in
theorem j_X10_nth {X : mX} {d : Nat} {h : mH} {a0 : Nat} {a1 : Int32} {a2 : Int32} {rv : Int32} (hd : 4 ≤ d) (hr : f_X10_nth h a0 a1 a2 = some rv) : m_J X Y_X10_nth d 0 [some (.ref a0), some (.int a1), some (.int a2), none, none, none, none] [] h (some (.int rv), h) := by
  obtain ⟨d, rfl⟩ : ∃ k, d = k + 1 := ⟨d - 1, by omega⟩
  unfold f_X10_nth at hr
  refine j_iload_n (i := 1) rfl rfl dX10_nth_0 ?_
  replace hr := m_bind hr; obtain ⟨r2, g1, hr⟩ := hr
  refine j_callS (Y' := Y_X10_isCode) (as := [.int a1]) ok_X10_isCode [some (.int a1)] rfl rfl tw_4_48 tw_4_49 nn_X10_isCode (Nat.le_of_ble_eq_true rfl) dX10_nth_1 (j_X10_isCode (by omega) g1) ?_
  refine j_if_ne (tgt := 9) dX10_nth_4 rfl (fun c3 => ?_) (fun c3 => ?_)
  · rw [if_neg c3] at hr
    refine j_iconst (v := 0) rfl dX10_nth_9 ?_
    refine j_istore_n (i := 3) (L' := [some (.ref a0), some (.int a1), some (.int a2), some (.int 0), none, none, none]) rfl (Nat.le_of_ble_eq_true rfl) rfl rfl dX10_nth_10 ?_
    replace hr := m_bind hr; obtain ⟨e78, q82, hr⟩ := hr
    refine j_weak (L' := [some (.ref a0), some (.int a1), some (.int a2), some (.int 0), none, none, none]) (And.intro rfl (And.intro rfl (And.intro rfl (And.intro rfl trivial)))) ?_
    refine m_loop_sound (step := w_X10_nth_11 h a0 a1 a2) (P := fun s_4 => m_J X Y_X10_nth (d + 1) 11 [some (.ref a0), some (.int a1), some (.int a2), some (.int s_4), none, none, none] [] h (some (.int rv), h)) (Qe := fun e78 => match e78 with | .inl x79 => m_J X Y_X10_nth (d + 1) 146 [none, none, none, none, none, none, none] [] h (some (.int rv), h) | .inr v81 => ((some (.int rv), h) : mR) = (some (.int v81), h)) ?_ _ _ _ q82 ?_
    · intro s_4 o hr hk
      unfold w_X10_nth_11 at hr
      refine j_iload_n (i := 3) rfl rfl dX10_nth_11 ?_
      refine j_aload_n (i := 0) rfl rfl dX10_nth_12 ?_
      replace hr := m_bind hr; obtain ⟨x5, g6, hr⟩ := hr
      refine j_getf (C := RX10) (T := TX10) (N := 30) (ci := 9) (k := 6) rfl (by decide) inX10 tw_3_199 dX10_nth_13 (m_gi_spec g6) ?_
      refine j_ic_ge (tgt := 146) dX10_nth_16 rfl (fun c7 => ?_) (fun c7 => ?_)
      · rw [if_pos c7] at hr
        cases hr
        exact j_weak (L' := [none, none, none, none, none, none, none]) trivial hk
      · rw [if_neg c7] at hr
        refine j_aload_n (i := 0) rfl rfl dX10_nth_19 ?_
        refine j_iload_n (i := 1) rfl rfl dX10_nth_20 ?_
        refine j_aload_n (i := 0) rfl rfl dX10_nth_21 ?_
        replace hr := m_bind hr; obtain ⟨q8, g9, hr⟩ := hr
        refine j_getf (C := RX10) (T := TX10) (N := 30) (ci := 9) (k := 7) rfl (by decide) inX10 tw_3_200 dX10_nth_22 (m_gr_spec g9) ?_
        refine j_iload_n (i := 3) rfl rfl dX10_nth_25 ?_
        replace hr := m_bind hr; obtain ⟨b10, g11, hr⟩ := hr
        subst g11
        replace hr := m_bind hr; obtain ⟨x12, g13, hr⟩ := hr
        refine j_iaload dX10_nth_26 g13 ?_
        by_cases o77 : m_ob h a0 9 = true
        · rw [if_pos o77] at hr
          replace hr := m_bind hr; obtain ⟨r15, g14, hr⟩ := hr
          refine j_callV (Y' := Y_X10_above) (a := a0) (as := [.int a1, .int x12]) (ci := 9) (T := TX10) (N := 30) ok_X10_above [some (.ref a0), some (.int a1), some (.int x12)] rfl rfl rfl tw_4_60 tw_4_62 tw_p_12 nn_X10_above (Nat.le_of_ble_eq_true rfl) dX10_nth_27 o77 (j_X10_above (by omega) g14) ?_
          refine j_if_ne (tgt := 36) dX10_nth_30 rfl (fun c16 => ?_) (fun c16 => ?_)
          · rw [if_neg c16] at hr
            refine j_iconst (v := 0) rfl dX10_nth_36 ?_
            refine j_istore (i := 4) (L' := [some (.ref a0), some (.int a1), some (.int a2), some (.int s_4), some (.int 0), none, none]) (Nat.le_of_ble_eq_true rfl) rfl rfl dX10_nth_37 ?_
            refine j_iconst (v := 0) rfl dX10_nth_39 ?_
            refine j_istore (i := 5) (L' := [some (.ref a0), some (.int a1), some (.int a2), some (.int s_4), some (.int 0), some (.int 0), none]) (Nat.le_of_ble_eq_true rfl) rfl rfl dX10_nth_40 ?_
            replace hr := m_bind hr; obtain ⟨e72, q76, hr⟩ := hr
            refine j_weak (L' := [some (.ref a0), some (.int a1), some (.int a2), some (.int s_4), some (.int 0), some (.int 0), none]) (And.intro rfl (And.intro rfl (And.intro rfl (And.intro rfl (And.intro rfl (And.intro rfl trivial)))))) ?_
            refine m_loop_sound (step := w_X10_nth_42 h a0 a1 s_4) (P := fun s_17 => m_J X Y_X10_nth (d + 1) 42 [some (.ref a0), some (.int a1), some (.int a2), some (.int s_4), some (.int s_17.1), some (.int s_17.2), none] [] h (some (.int rv), h)) (Qe := fun e72 => m_J X Y_X10_nth (d + 1) 132 [some (.ref a0), some (.int a1), some (.int a2), some (.int s_4), some (.int e72), none, none] [] h (some (.int rv), h)) ?_ _ _ _ q76 ?_
            · intro s_17 o hr hk
              unfold w_X10_nth_42 at hr
              refine j_iload (i := 5) rfl dX10_nth_42 ?_
              refine j_aload_n (i := 0) rfl rfl dX10_nth_44 ?_
              replace hr := m_bind hr; obtain ⟨x18, g19, hr⟩ := hr
              refine j_getf (C := RX10) (T := TX10) (N := 30) (ci := 9) (k := 6) rfl (by decide) inX10 tw_3_199 dX10_nth_45 (m_gi_spec g19) ?_
              refine j_ic_ge (tgt := 132) dX10_nth_48 rfl (fun c20 => ?_) (fun c20 => ?_)
              · rw [if_pos c20] at hr
                cases hr
                exact j_weak (L' := [some (.ref a0), some (.int a1), some (.int a2), some (.int s_4), some (.int s_17.1), none, none]) (And.intro rfl (And.intro rfl (And.intro rfl (And.intro rfl (And.intro rfl trivial))))) hk
              · rw [if_neg c20] at hr
                refine j_aload_n (i := 0) rfl rfl dX10_nth_51 ?_
                replace hr := m_bind hr; obtain ⟨q21, g22, hr⟩ := hr
                refine j_getf (C := RX10) (T := TX10) (N := 30) (ci := 9) (k := 8) rfl (by decide) inX10 tw_3_201 dX10_nth_52 (m_gr_spec g22) ?_
                refine j_iload (i := 5) rfl dX10_nth_55 ?_
                replace hr := m_bind hr; obtain ⟨b23, g24, hr⟩ := hr
                subst g24
                replace hr := m_bind hr; obtain ⟨x25, g26, hr⟩ := hr
                refine j_iaload dX10_nth_57 g26 ?_
                refine j_aload_n (i := 0) rfl rfl dX10_nth_58 ?_
                replace hr := m_bind hr; obtain ⟨q27, g28, hr⟩ := hr
                refine j_getf (C := RX10) (T := TX10) (N := 30) (ci := 9) (k := 8) rfl (by decide) inX10 tw_3_201 dX10_nth_59 (m_gr_spec g28) ?_
                refine j_iload_n (i := 3) rfl rfl dX10_nth_62 ?_
                replace hr := m_bind hr; obtain ⟨b29, g30, hr⟩ := hr
                subst g30
                replace hr := m_bind hr; obtain ⟨x31, g32, hr⟩ := hr
                refine j_iaload dX10_nth_63 g32 ?_
                refine j_ic_lt (tgt := 89) dX10_nth_64 rfl (fun c33 => ?_) (fun c33 => ?_)
                · rw [if_pos c33] at hr
                  refine j_iconst (v := 1) rfl dX10_nth_89 ?_
                  refine j_goto (tgt := 94) dX10_nth_90 rfl ?_
                  refine j_istore (i := 6) (L' := [some (.ref a0), some (.int a1), some (.int a2), some (.int s_4), some (.int s_17.1), some (.int s_17.2), some (.int 1)]) (Nat.le_of_ble_eq_true rfl) rfl rfl dX10_nth_94 ?_
                  refine j_iload (i := 4) rfl dX10_nth_96 ?_
                  refine j_iload (i := 6) rfl dX10_nth_98 ?_
                  refine j_if_eq (tgt := 122) dX10_nth_100 rfl (fun c34 => ?_) (fun c34 => ?_)
                  · exact absurd c34 (by decide)
                  · skip
                    refine j_aload_n (i := 0) rfl rfl dX10_nth_103 ?_
                    refine j_iload_n (i := 1) rfl rfl dX10_nth_104 ?_
                    refine j_aload_n (i := 0) rfl rfl dX10_nth_105 ?_
                    replace hr := m_bind hr; obtain ⟨q35, g36, hr⟩ := hr
                    refine j_getf (C := RX10) (T := TX10) (N := 30) (ci := 9) (k := 7) rfl (by decide) inX10 tw_3_200 dX10_nth_106 (m_gr_spec g36) ?_
                    refine j_iload (i := 5) rfl dX10_nth_109 ?_
                    replace hr := m_bind hr; obtain ⟨b37, g38, hr⟩ := hr
                    subst g38
                    replace hr := m_bind hr; obtain ⟨x39, g40, hr⟩ := hr
                    refine j_iaload dX10_nth_111 g40 ?_
                    by_cases o44 : m_ob h a0 9 = true
                    · rw [if_pos o44] at hr
                      replace hr := m_bind hr; obtain ⟨r42, g41, hr⟩ := hr
                      refine j_callV (Y' := Y_X10_above) (a := a0) (as := [.int a1, .int x39]) (ci := 9) (T := TX10) (N := 30) ok_X10_above [some (.ref a0), some (.int a1), some (.int x39)] rfl rfl rfl tw_4_60 tw_4_62 tw_p_12 nn_X10_above (Nat.le_of_ble_eq_true rfl) dX10_nth_112 o44 (j_X10_above (by omega) g41) ?_
                      refine j_if_eq (tgt := 122) dX10_nth_115 rfl (fun c43 => ?_) (fun c43 => ?_)
                      · rw [if_pos c43] at hr
                        refine j_iconst (v := 0) rfl dX10_nth_122 ?_
                        refine j_iadd dX10_nth_123 ?_
                        refine j_istore (i := 4) (L' := [some (.ref a0), some (.int a1), some (.int a2), some (.int s_4), some (.int (s_17.1 + 0)), some (.int s_17.2), some (.int 1)]) (Nat.le_of_ble_eq_true rfl) rfl rfl dX10_nth_124 ?_
                        refine j_iinc (i := 5) (v := s_17.2 + 1) (L' := [some (.ref a0), some (.int a1), some (.int a2), some (.int s_4), some (.int (s_17.1 + 0)), some (.int (s_17.2 + 1)), some (.int 1)]) rfl (m_o1 _) (Nat.le_of_ble_eq_true rfl) rfl rfl dX10_nth_126 ?_
                        refine j_goto (tgt := 42) dX10_nth_129 rfl ?_
                        cases hr
                        exact j_weak (L' := [some (.ref a0), some (.int a1), some (.int a2), some (.int s_4), some (.int (s_17.1 + 0)), some (.int (s_17.2 + 1)), none]) (And.intro rfl (And.intro rfl (And.intro rfl (And.intro rfl (And.intro rfl (And.intro rfl trivial)))))) hk
                      · rw [if_neg c43] at hr
                        refine j_iconst (v := 1) rfl dX10_nth_118 ?_
                        refine j_goto (tgt := 123) dX10_nth_119 rfl ?_
                        refine j_iadd dX10_nth_123 ?_
                        refine j_istore (i := 4) (L' := [some (.ref a0), some (.int a1), some (.int a2), some (.int s_4), some (.int (s_17.1 + 1)), some (.int s_17.2), some (.int 1)]) (Nat.le_of_ble_eq_true rfl) rfl rfl dX10_nth_124 ?_
                        refine j_iinc (i := 5) (v := s_17.2 + 1) (L' := [some (.ref a0), some (.int a1), some (.int a2), some (.int s_4), some (.int (s_17.1 + 1)), some (.int (s_17.2 + 1)), some (.int 1)]) rfl (m_o1 _) (Nat.le_of_ble_eq_true rfl) rfl rfl dX10_nth_126 ?_
                        refine j_goto (tgt := 42) dX10_nth_129 rfl ?_
                        cases hr
                        exact j_weak (L' := [some (.ref a0), some (.int a1), some (.int a2), some (.int s_4), some (.int (s_17.1 + 1)), some (.int (s_17.2 + 1)), none]) (And.intro rfl (And.intro rfl (And.intro rfl (And.intro rfl (And.intro rfl (And.intro rfl trivial)))))) hk
                    · rw [if_neg o44] at hr
                      cases hr
                · rw [if_neg c33] at hr
                  refine j_aload_n (i := 0) rfl rfl dX10_nth_67 ?_
                  replace hr := m_bind hr; obtain ⟨q45, g46, hr⟩ := hr
                  refine j_getf (C := RX10) (T := TX10) (N := 30) (ci := 9) (k := 8) rfl (by decide) inX10 tw_3_201 dX10_nth_68 (m_gr_spec g46) ?_
                  refine j_iload (i := 5) rfl dX10_nth_71 ?_
                  replace hr := m_bind hr; obtain ⟨b47, g48, hr⟩ := hr
                  subst g48
                  replace hr := m_bind hr; obtain ⟨x49, g50, hr⟩ := hr
                  refine j_iaload dX10_nth_73 g50 ?_
                  refine j_aload_n (i := 0) rfl rfl dX10_nth_74 ?_
                  replace hr := m_bind hr; obtain ⟨q51, g52, hr⟩ := hr
                  refine j_getf (C := RX10) (T := TX10) (N := 30) (ci := 9) (k := 8) rfl (by decide) inX10 tw_3_201 dX10_nth_75 (m_gr_spec g52) ?_
                  refine j_iload_n (i := 3) rfl rfl dX10_nth_78 ?_
                  replace hr := m_bind hr; obtain ⟨b53, g54, hr⟩ := hr
                  subst g54
                  replace hr := m_bind hr; obtain ⟨x55, g56, hr⟩ := hr
                  refine j_iaload dX10_nth_79 g56 ?_
                  refine j_ic_ne (tgt := 93) dX10_nth_80 rfl (fun c57 => ?_) (fun c57 => ?_)
                  · rw [if_neg c57] at hr
                    refine j_iconst (v := 0) rfl dX10_nth_93 ?_
                    refine j_istore (i := 6) (L' := [some (.ref a0), some (.int a1), some (.int a2), some (.int s_4), some (.int s_17.1), some (.int s_17.2), some (.int 0)]) (Nat.le_of_ble_eq_true rfl) rfl rfl dX10_nth_94 ?_
                    refine j_iload (i := 4) rfl dX10_nth_96 ?_
                    refine j_iload (i := 6) rfl dX10_nth_98 ?_
                    refine j_if_eq (tgt := 122) dX10_nth_100 rfl (fun c58 => ?_) (fun c58 => ?_)
                    · skip
                      refine j_iconst (v := 0) rfl dX10_nth_122 ?_
                      refine j_iadd dX10_nth_123 ?_
                      refine j_istore (i := 4) (L' := [some (.ref a0), some (.int a1), some (.int a2), some (.int s_4), some (.int (s_17.1 + 0)), some (.int s_17.2), some (.int 0)]) (Nat.le_of_ble_eq_true rfl) rfl rfl dX10_nth_124 ?_
                      refine j_iinc (i := 5) (v := s_17.2 + 1) (L' := [some (.ref a0), some (.int a1), some (.int a2), some (.int s_4), some (.int (s_17.1 + 0)), some (.int (s_17.2 + 1)), some (.int 0)]) rfl (m_o1 _) (Nat.le_of_ble_eq_true rfl) rfl rfl dX10_nth_126 ?_
                      refine j_goto (tgt := 42) dX10_nth_129 rfl ?_
                      cases hr
                      exact j_weak (L' := [some (.ref a0), some (.int a1), some (.int a2), some (.int s_4), some (.int (s_17.1 + 0)), some (.int (s_17.2 + 1)), none]) (And.intro rfl (And.intro rfl (And.intro rfl (And.intro rfl (And.intro rfl (And.intro rfl trivial)))))) hk
                    · exact absurd c58 (by decide)
                  · rw [if_pos c57] at hr
                    refine j_iload (i := 5) rfl dX10_nth_83 ?_
                    refine j_iload_n (i := 3) rfl rfl dX10_nth_85 ?_
                    refine j_ic_ge (tgt := 93) dX10_nth_86 rfl (fun c59 => ?_) (fun c59 => ?_)
                    · rw [if_pos c59] at hr
                      refine j_iconst (v := 0) rfl dX10_nth_93 ?_
                      refine j_istore (i := 6) (L' := [some (.ref a0), some (.int a1), some (.int a2), some (.int s_4), some (.int s_17.1), some (.int s_17.2), some (.int 0)]) (Nat.le_of_ble_eq_true rfl) rfl rfl dX10_nth_94 ?_
                      refine j_iload (i := 4) rfl dX10_nth_96 ?_
                      refine j_iload (i := 6) rfl dX10_nth_98 ?_
                      refine j_if_eq (tgt := 122) dX10_nth_100 rfl (fun c60 => ?_) (fun c60 => ?_)
                      · skip
                        refine j_iconst (v := 0) rfl dX10_nth_122 ?_
                        refine j_iadd dX10_nth_123 ?_
                        refine j_istore (i := 4) (L' := [some (.ref a0), some (.int a1), some (.int a2), some (.int s_4), some (.int (s_17.1 + 0)), some (.int s_17.2), some (.int 0)]) (Nat.le_of_ble_eq_true rfl) rfl rfl dX10_nth_124 ?_
                        refine j_iinc (i := 5) (v := s_17.2 + 1) (L' := [some (.ref a0), some (.int a1), some (.int a2), some (.int s_4), some (.int (s_17.1 + 0)), some (.int (s_17.2 + 1)), some (.int 0)]) rfl (m_o1 _) (Nat.le_of_ble_eq_true rfl) rfl rfl dX10_nth_126 ?_
                        refine j_goto (tgt := 42) dX10_nth_129 rfl ?_
                        cases hr
                        exact j_weak (L' := [some (.ref a0), some (.int a1), some (.int a2), some (.int s_4), some (.int (s_17.1 + 0)), some (.int (s_17.2 + 1)), none]) (And.intro rfl (And.intro rfl (And.intro rfl (And.intro rfl (And.intro rfl (And.intro rfl trivial)))))) hk
                      · exact absurd c60 (by decide)
                    · rw [if_neg c59] at hr
                      refine j_iconst (v := 1) rfl dX10_nth_89 ?_
                      refine j_goto (tgt := 94) dX10_nth_90 rfl ?_
                      refine j_istore (i := 6) (L' := [some (.ref a0), some (.int a1), some (.int a2), some (.int s_4), some (.int s_17.1), some (.int s_17.2), some (.int 1)]) (Nat.le_of_ble_eq_true rfl) rfl rfl dX10_nth_94 ?_
                      refine j_iload (i := 4) rfl dX10_nth_96 ?_
                      refine j_iload (i := 6) rfl dX10_nth_98 ?_
                      refine j_if_eq (tgt := 122) dX10_nth_100 rfl (fun c61 => ?_) (fun c61 => ?_)
                      · exact absurd c61 (by decide)
                      · skip
                        refine j_aload_n (i := 0) rfl rfl dX10_nth_103 ?_
                        refine j_iload_n (i := 1) rfl rfl dX10_nth_104 ?_
                        refine j_aload_n (i := 0) rfl rfl dX10_nth_105 ?_
                        replace hr := m_bind hr; obtain ⟨q62, g63, hr⟩ := hr
                        refine j_getf (C := RX10) (T := TX10) (N := 30) (ci := 9) (k := 7) rfl (by decide) inX10 tw_3_200 dX10_nth_106 (m_gr_spec g63) ?_
                        refine j_iload (i := 5) rfl dX10_nth_109 ?_
                        replace hr := m_bind hr; obtain ⟨b64, g65, hr⟩ := hr
                        subst g65
                        replace hr := m_bind hr; obtain ⟨x66, g67, hr⟩ := hr
                        refine j_iaload dX10_nth_111 g67 ?_
                        by_cases o71 : m_ob h a0 9 = true
                        · rw [if_pos o71] at hr
                          replace hr := m_bind hr; obtain ⟨r69, g68, hr⟩ := hr
                          refine j_callV (Y' := Y_X10_above) (a := a0) (as := [.int a1, .int x66]) (ci := 9) (T := TX10) (N := 30) ok_X10_above [some (.ref a0), some (.int a1), some (.int x66)] rfl rfl rfl tw_4_60 tw_4_62 tw_p_12 nn_X10_above (Nat.le_of_ble_eq_true rfl) dX10_nth_112 o71 (j_X10_above (by omega) g68) ?_
                          refine j_if_eq (tgt := 122) dX10_nth_115 rfl (fun c70 => ?_) (fun c70 => ?_)
                          · rw [if_pos c70] at hr
                            refine j_iconst (v := 0) rfl dX10_nth_122 ?_
                            refine j_iadd dX10_nth_123 ?_
                            refine j_istore (i := 4) (L' := [some (.ref a0), some (.int a1), some (.int a2), some (.int s_4), some (.int (s_17.1 + 0)), some (.int s_17.2), some (.int 1)]) (Nat.le_of_ble_eq_true rfl) rfl rfl dX10_nth_124 ?_
                            refine j_iinc (i := 5) (v := s_17.2 + 1) (L' := [some (.ref a0), some (.int a1), some (.int a2), some (.int s_4), some (.int (s_17.1 + 0)), some (.int (s_17.2 + 1)), some (.int 1)]) rfl (m_o1 _) (Nat.le_of_ble_eq_true rfl) rfl rfl dX10_nth_126 ?_
                            refine j_goto (tgt := 42) dX10_nth_129 rfl ?_
                            cases hr
                            exact j_weak (L' := [some (.ref a0), some (.int a1), some (.int a2), some (.int s_4), some (.int (s_17.1 + 0)), some (.int (s_17.2 + 1)), none]) (And.intro rfl (And.intro rfl (And.intro rfl (And.intro rfl (And.intro rfl (And.intro rfl trivial)))))) hk
                          · rw [if_neg c70] at hr
                            refine j_iconst (v := 1) rfl dX10_nth_118 ?_
                            refine j_goto (tgt := 123) dX10_nth_119 rfl ?_
                            refine j_iadd dX10_nth_123 ?_
                            refine j_istore (i := 4) (L' := [some (.ref a0), some (.int a1), some (.int a2), some (.int s_4), some (.int (s_17.1 + 1)), some (.int s_17.2), some (.int 1)]) (Nat.le_of_ble_eq_true rfl) rfl rfl dX10_nth_124 ?_
                            refine j_iinc (i := 5) (v := s_17.2 + 1) (L' := [some (.ref a0), some (.int a1), some (.int a2), some (.int s_4), some (.int (s_17.1 + 1)), some (.int (s_17.2 + 1)), some (.int 1)]) rfl (m_o1 _) (Nat.le_of_ble_eq_true rfl) rfl rfl dX10_nth_126 ?_
                            refine j_goto (tgt := 42) dX10_nth_129 rfl ?_
                            cases hr
                            exact j_weak (L' := [some (.ref a0), some (.int a1), some (.int a2), some (.int s_4), some (.int (s_17.1 + 1)), some (.int (s_17.2 + 1)), none]) (And.intro rfl (And.intro rfl (And.intro rfl (And.intro rfl (And.intro rfl (And.intro rfl trivial)))))) hk
                        · rw [if_neg o71] at hr
                          cases hr
            · skip
              refine j_iload (i := 4) rfl dX10_nth_132 ?_
              refine j_iload_n (i := 2) rfl rfl dX10_nth_134 ?_
              refine j_ic_ne (tgt := 140) dX10_nth_135 rfl (fun c73 => ?_) (fun c73 => ?_)
              · rw [if_neg c73] at hr
                refine j_iinc (i := 3) (v := s_4 + 1) (L' := [some (.ref a0), some (.int a1), some (.int a2), some (.int (s_4 + 1)), some (.int e72), none, none]) rfl (m_o1 _) (Nat.le_of_ble_eq_true rfl) rfl rfl dX10_nth_140 ?_
                refine j_goto (tgt := 11) dX10_nth_143 rfl ?_
                cases hr
                exact j_weak (L' := [some (.ref a0), some (.int a1), some (.int a2), some (.int (s_4 + 1)), none, none, none]) (And.intro rfl (And.intro rfl (And.intro rfl (And.intro rfl trivial)))) hk
              · rw [if_pos c73] at hr
                refine j_iload_n (i := 3) rfl rfl dX10_nth_138 ?_
                cases hr
                rw [show _ = _ from hk]
                exact j_ret dX10_nth_139 m_rk_i
          · rw [if_pos c16] at hr
            refine j_goto (tgt := 140) dX10_nth_33 rfl ?_
            refine j_iinc (i := 3) (v := s_4 + 1) (L' := [some (.ref a0), some (.int a1), some (.int a2), some (.int (s_4 + 1)), none, none, none]) rfl (m_o1 _) (Nat.le_of_ble_eq_true rfl) rfl rfl dX10_nth_140 ?_
            refine j_goto (tgt := 11) dX10_nth_143 rfl ?_
            cases hr
            exact j_weak (L' := [some (.ref a0), some (.int a1), some (.int a2), some (.int (s_4 + 1)), none, none, none]) (And.intro rfl (And.intro rfl (And.intro rfl (And.intro rfl trivial)))) hk
        · rw [if_neg o77] at hr
          cases hr
    · cases e78 with
      | inl x79 =>
        dsimp only at hr
        dsimp only
        refine j_iconst (v := (-1)) rfl dX10_nth_146 ?_
        cases hr
        exact j_ret dX10_nth_147 m_rk_i
      | inr v81 =>
        dsimp only at hr
        cases hr
        rfl
  · rw [if_pos c3] at hr
    refine j_iconst (v := (-1)) rfl dX10_nth_7 ?_
    cases hr
    exact j_ret dX10_nth_8 m_rk_i
def w_X10_used_4 (h : mH) (a0 : Nat) (a1 : Int32) : (Int32 × Int32) → Option ((Int32 × Int32) ⊕ (Int32)) := fun s_1 =>
  (m_gi h a0 9 6).bind fun x2 =>
  if x2 ≤ s_1.2 then
    some (.inr s_1.1)
  else
    (m_gr h a0 9 12).bind fun q5 =>
    (q5).bind fun b7 =>
    (m_ild h b7 s_1.2).bind fun x9 =>
    if x9 = a1 then
      (m_gr h a0 9 8).bind fun q12 =>
      (q12).bind fun b14 =>
      (m_ild h b14 s_1.2).bind fun x16 =>
      some (.inl (s_1.1 + x16, s_1.2 + 1))
    else
      some (.inl (s_1.1 + 0, s_1.2 + 1))
def f_X10_used (h : mH) (a0 : Nat) (a1 : Int32) : Option (Int32) :=
  (m_loop (w_X10_used_4 h a0 a1) 5000 ((0, 0))).bind fun e18 =>
  some e18
def Y_X10_used : mY := (yX10_used, cX10_used, 4, some (FieldType.int), .ireturn)
theorem ok_X10_used : m_Ok Y_X10_used := ⟨by decide +kernel, ⟨by decide +kernel, by decide +kernel⟩, tw_5_5, tw_1_7, by decide, Or.inr (Or.inl ⟨Or.inl rfl, rfl⟩)⟩
theorem nn_X10_used : (parseMethodDescriptor Y_X10_used.1.desc).map (fun q => q.parameters.length) = some 1 := by decide +kernel
set_option maxHeartbeats 4000000 in
set_option maxRecDepth 20000 in
theorem j_X10_used {X : mX} {d : Nat} {h : mH} {a0 : Nat} {a1 : Int32} {rv : Int32} (hr : f_X10_used h a0 a1 = some rv) : m_J X Y_X10_used d 0 [some (.ref a0), some (.int a1), none, none] [] h (some (.int rv), h) := by
  unfold f_X10_used at hr
  refine j_iconst (v := 0) rfl dX10_used_0 ?_
  refine j_istore_n (i := 2) (L' := [some (.ref a0), some (.int a1), some (.int 0), none]) rfl (Nat.le_of_ble_eq_true rfl) rfl rfl dX10_used_1 ?_
  refine j_iconst (v := 0) rfl dX10_used_2 ?_
  refine j_istore_n (i := 3) (L' := [some (.ref a0), some (.int a1), some (.int 0), some (.int 0)]) rfl (Nat.le_of_ble_eq_true rfl) rfl rfl dX10_used_3 ?_
  replace hr := m_bind hr; obtain ⟨e18, q21, hr⟩ := hr
  refine j_weak (L' := [some (.ref a0), some (.int a1), some (.int 0), some (.int 0)]) (And.intro rfl (And.intro rfl (And.intro rfl (And.intro rfl trivial)))) ?_
  refine m_loop_sound (step := w_X10_used_4 h a0 a1) (P := fun s_1 => m_J X Y_X10_used d 4 [some (.ref a0), some (.int a1), some (.int s_1.1), some (.int s_1.2)] [] h (some (.int rv), h)) (Qe := fun e18 => m_J X Y_X10_used d 41 [none, none, some (.int e18), none] [] h (some (.int rv), h)) ?_ _ _ _ q21 ?_
  · intro s_1 o hr hk
    unfold w_X10_used_4 at hr
    refine j_iload_n (i := 3) rfl rfl dX10_used_4 ?_
    refine j_aload_n (i := 0) rfl rfl dX10_used_5 ?_
    replace hr := m_bind hr; obtain ⟨x2, g3, hr⟩ := hr
    refine j_getf (C := RX10) (T := TX10) (N := 30) (ci := 9) (k := 6) rfl (by decide) inX10 tw_3_199 dX10_used_6 (m_gi_spec g3) ?_
    refine j_ic_ge (tgt := 41) dX10_used_9 rfl (fun c4 => ?_) (fun c4 => ?_)
    · rw [if_pos c4] at hr
      cases hr
      exact j_weak (L' := [none, none, some (.int s_1.1), none]) (And.intro rfl trivial) hk
    · rw [if_neg c4] at hr
      refine j_iload_n (i := 2) rfl rfl dX10_used_12 ?_
      refine j_aload_n (i := 0) rfl rfl dX10_used_13 ?_
      replace hr := m_bind hr; obtain ⟨q5, g6, hr⟩ := hr
      refine j_getf (C := RX10) (T := TX10) (N := 30) (ci := 9) (k := 12) rfl (by decide) inX10 tw_3_205 dX10_used_14 (m_gr_spec g6) ?_
      refine j_iload_n (i := 3) rfl rfl dX10_used_17 ?_
      replace hr := m_bind hr; obtain ⟨b7, g8, hr⟩ := hr
      subst g8
      replace hr := m_bind hr; obtain ⟨x9, g10, hr⟩ := hr
      refine j_iaload dX10_used_18 g10 ?_
      refine j_iload_n (i := 1) rfl rfl dX10_used_19 ?_
      refine j_ic_ne (tgt := 32) dX10_used_20 rfl (fun c11 => ?_) (fun c11 => ?_)
      · rw [if_neg c11] at hr
        refine j_iconst (v := 0) rfl dX10_used_32 ?_
        refine j_iadd dX10_used_33 ?_
        refine j_istore_n (i := 2) (L' := [some (.ref a0), some (.int a1), some (.int (s_1.1 + 0)), some (.int s_1.2)]) rfl (Nat.le_of_ble_eq_true rfl) rfl rfl dX10_used_34 ?_
        refine j_iinc (i := 3) (v := s_1.2 + 1) (L' := [some (.ref a0), some (.int a1), some (.int (s_1.1 + 0)), some (.int (s_1.2 + 1))]) rfl (m_o1 _) (Nat.le_of_ble_eq_true rfl) rfl rfl dX10_used_35 ?_
        refine j_goto (tgt := 4) dX10_used_38 rfl ?_
        cases hr
        exact j_weak (L' := [some (.ref a0), some (.int a1), some (.int (s_1.1 + 0)), some (.int (s_1.2 + 1))]) (And.intro rfl (And.intro rfl (And.intro rfl (And.intro rfl trivial)))) hk
      · rw [if_pos c11] at hr
        refine j_aload_n (i := 0) rfl rfl dX10_used_23 ?_
        replace hr := m_bind hr; obtain ⟨q12, g13, hr⟩ := hr
        refine j_getf (C := RX10) (T := TX10) (N := 30) (ci := 9) (k := 8) rfl (by decide) inX10 tw_3_201 dX10_used_24 (m_gr_spec g13) ?_
        refine j_iload_n (i := 3) rfl rfl dX10_used_27 ?_
        replace hr := m_bind hr; obtain ⟨b14, g15, hr⟩ := hr
        subst g15
        replace hr := m_bind hr; obtain ⟨x16, g17, hr⟩ := hr
        refine j_iaload dX10_used_28 g17 ?_
        refine j_goto (tgt := 33) dX10_used_29 rfl ?_
        refine j_iadd dX10_used_33 ?_
        refine j_istore_n (i := 2) (L' := [some (.ref a0), some (.int a1), some (.int (s_1.1 + x16)), some (.int s_1.2)]) rfl (Nat.le_of_ble_eq_true rfl) rfl rfl dX10_used_34 ?_
        refine j_iinc (i := 3) (v := s_1.2 + 1) (L' := [some (.ref a0), some (.int a1), some (.int (s_1.1 + x16)), some (.int (s_1.2 + 1))]) rfl (m_o1 _) (Nat.le_of_ble_eq_true rfl) rfl rfl dX10_used_35 ?_
        refine j_goto (tgt := 4) dX10_used_38 rfl ?_
        cases hr
        exact j_weak (L' := [some (.ref a0), some (.int a1), some (.int (s_1.1 + x16)), some (.int (s_1.2 + 1))]) (And.intro rfl (And.intro rfl (And.intro rfl (And.intro rfl trivial)))) hk
  · skip
    refine j_iload_n (i := 2) rfl rfl dX10_used_41 ?_
    cases hr
    exact j_ret dX10_used_42 m_rk_i
def w_X10_shelf_32 (h : mH) (a0 : Nat) (a1 : Int32) : Int32 → Option ((Int32) ⊕ ((Unit) ⊕ (Int32 × mH))) := fun s_10 =>
  (m_gi h a0 9 6).bind fun x11 =>
  if x11 ≤ s_10 then
    some (.inr (.inl ()))
  else
    (m_gr h a0 9 12).bind fun q14 =>
    (q14).bind fun b16 =>
    (m_ild h b16 s_10).bind fun x18 =>
    if x18 = a1 then
      some (.inr (.inr ((0, h))))
    else
      some (.inl (s_10 + 1))
def f_X10_shelf (h : mH) (a0 : Nat) (a1 : Int32) (a2 : Int32) (a3 : Int32) : Option (Int32 × mH) :=
  (f_X10_in a1 0 9).bind fun r2 =>
  if r2 = 0 then
    some ((0, h))
  else
    (f_X10_isKind a2).bind fun r5 =>
    if r5 = 0 then
      some ((0, h))
    else
      (f_X10_in a3 0 1000000).bind fun r8 =>
      if r8 = 0 then
        some ((0, h))
      else
        (m_loop (w_X10_shelf_32 h a0 a1) 5000 0).bind fun e21 => match e21 with
        | .inl x22 =>
          (m_gr h a0 9 20).bind fun q23 =>
          (q23).bind fun b25 =>
          (m_ist h b25 a1 a2).bind fun h27 =>
          (m_gr h27 a0 9 21).bind fun q29 =>
          (q29).bind fun b31 =>
          (m_ist h27 b31 a1 a3).bind fun h33 =>
          some ((1, h33))
        | .inr v36 => some v36
def Y_X10_shelf : mY := (yX10_shelf, cX10_shelf, 5, some (FieldType.boolean), .ireturn)
theorem ok_X10_shelf : m_Ok Y_X10_shelf := ⟨by decide +kernel, ⟨by decide +kernel, by decide +kernel⟩, tw_4_236, tw_1_7, by decide, Or.inr (Or.inl ⟨Or.inr rfl, rfl⟩)⟩
theorem nn_X10_shelf : (parseMethodDescriptor Y_X10_shelf.1.desc).map (fun q => q.parameters.length) = some 3 := by decide +kernel
set_option maxHeartbeats 4000000 in
set_option maxRecDepth 20000 in
theorem j_X10_shelf {X : mX} {d : Nat} {h : mH} {a0 : Nat} {a1 : Int32} {a2 : Int32} {a3 : Int32} {rv : Int32} {h' : mH} (hd : 2 ≤ d) (hr : f_X10_shelf h a0 a1 a2 a3 = some (rv, h')) : m_J X Y_X10_shelf d 0 [some (.ref a0), some (.int a1), some (.int a2), some (.int a3), none] [] h (some (.int rv), h') := by
  obtain ⟨d, rfl⟩ : ∃ k, d = k + 1 := ⟨d - 1, by omega⟩
  unfold f_X10_shelf at hr
  refine j_iload_n (i := 1) rfl rfl dX10_shelf_0 ?_
  refine j_iconst (v := 0) rfl dX10_shelf_1 ?_
  refine j_bipush (v := 9) rfl dX10_shelf_2 ?_
  replace hr := m_bind hr; obtain ⟨r2, g1, hr⟩ := hr
  refine j_callS (Y' := Y_X10_in) (as := [.int a1, .int 0, .int 9]) ok_X10_in [some (.int a1), some (.int 0), some (.int 9)] rfl rfl tw_4_54 tw_4_55 nn_X10_in (Nat.le_of_ble_eq_true rfl) dX10_shelf_4 (j_X10_in g1) ?_
  refine j_if_eq (tgt := 27) dX10_shelf_7 rfl (fun c3 => ?_) (fun c3 => ?_)
  · rw [if_pos c3] at hr
    refine j_iconst (v := 0) rfl dX10_shelf_27 ?_
    cases hr
    exact j_ret dX10_shelf_28 m_rk_z0
  · rw [if_neg c3] at hr
    refine j_iload_n (i := 2) rfl rfl dX10_shelf_10 ?_
    replace hr := m_bind hr; obtain ⟨r5, g4, hr⟩ := hr
    refine j_callS (Y' := Y_X10_isKind) (as := [.int a2]) ok_X10_isKind [some (.int a2)] rfl rfl tw_4_51 tw_4_52 nn_X10_isKind (Nat.le_of_ble_eq_true rfl) dX10_shelf_11 (j_X10_isKind (by omega) g4) ?_
    refine j_if_eq (tgt := 27) dX10_shelf_14 rfl (fun c6 => ?_) (fun c6 => ?_)
    · rw [if_pos c6] at hr
      refine j_iconst (v := 0) rfl dX10_shelf_27 ?_
      cases hr
      exact j_ret dX10_shelf_28 m_rk_z0
    · rw [if_neg c6] at hr
      refine j_iload_n (i := 3) rfl rfl dX10_shelf_17 ?_
      refine j_iconst (v := 0) rfl dX10_shelf_18 ?_
      refine j_ldc (v := 1000000) tw_4_237 dX10_shelf_19 ?_
      replace hr := m_bind hr; obtain ⟨r8, g7, hr⟩ := hr
      refine j_callS (Y' := Y_X10_in) (as := [.int a3, .int 0, .int 1000000]) ok_X10_in [some (.int a3), some (.int 0), some (.int 1000000)] rfl rfl tw_4_54 tw_4_55 nn_X10_in (Nat.le_of_ble_eq_true rfl) dX10_shelf_21 (j_X10_in g7) ?_
      refine j_if_ne (tgt := 29) dX10_shelf_24 rfl (fun c9 => ?_) (fun c9 => ?_)
      · rw [if_neg c9] at hr
        refine j_iconst (v := 0) rfl dX10_shelf_29 ?_
        refine j_istore (i := 4) (L' := [some (.ref a0), some (.int a1), some (.int a2), some (.int a3), some (.int 0)]) (Nat.le_of_ble_eq_true rfl) rfl rfl dX10_shelf_30 ?_
        replace hr := m_bind hr; obtain ⟨e21, q37, hr⟩ := hr
        refine j_weak (L' := [some (.ref a0), some (.int a1), some (.int a2), some (.int a3), some (.int 0)]) (And.intro rfl (And.intro rfl (And.intro rfl (And.intro rfl (And.intro rfl trivial))))) ?_
        refine m_loop_sound (step := w_X10_shelf_32 h a0 a1) (P := fun s_10 => m_J X Y_X10_shelf (d + 1) 32 [some (.ref a0), some (.int a1), some (.int a2), some (.int a3), some (.int s_10)] [] h (some (.int rv), h')) (Qe := fun e21 => match e21 with | .inl x22 => m_J X Y_X10_shelf (d + 1) 60 [some (.ref a0), some (.int a1), some (.int a2), some (.int a3), none] [] h (some (.int rv), h') | .inr v36 => ((some (.int rv), h') : mR) = (some (.int v36.1), v36.2)) ?_ _ _ _ q37 ?_
        · intro s_10 o hr hk
          unfold w_X10_shelf_32 at hr
          refine j_iload (i := 4) rfl dX10_shelf_32 ?_
          refine j_aload_n (i := 0) rfl rfl dX10_shelf_34 ?_
          replace hr := m_bind hr; obtain ⟨x11, g12, hr⟩ := hr
          refine j_getf (C := RX10) (T := TX10) (N := 30) (ci := 9) (k := 6) rfl (by decide) inX10 tw_3_199 dX10_shelf_35 (m_gi_spec g12) ?_
          refine j_ic_ge (tgt := 60) dX10_shelf_38 rfl (fun c13 => ?_) (fun c13 => ?_)
          · rw [if_pos c13] at hr
            cases hr
            exact j_weak (L' := [some (.ref a0), some (.int a1), some (.int a2), some (.int a3), none]) (And.intro rfl (And.intro rfl (And.intro rfl (And.intro rfl trivial)))) hk
          · rw [if_neg c13] at hr
            refine j_aload_n (i := 0) rfl rfl dX10_shelf_41 ?_
            replace hr := m_bind hr; obtain ⟨q14, g15, hr⟩ := hr
            refine j_getf (C := RX10) (T := TX10) (N := 30) (ci := 9) (k := 12) rfl (by decide) inX10 tw_3_205 dX10_shelf_42 (m_gr_spec g15) ?_
            refine j_iload (i := 4) rfl dX10_shelf_45 ?_
            replace hr := m_bind hr; obtain ⟨b16, g17, hr⟩ := hr
            subst g17
            replace hr := m_bind hr; obtain ⟨x18, g19, hr⟩ := hr
            refine j_iaload dX10_shelf_47 g19 ?_
            refine j_iload_n (i := 1) rfl rfl dX10_shelf_48 ?_
            refine j_ic_ne (tgt := 54) dX10_shelf_49 rfl (fun c20 => ?_) (fun c20 => ?_)
            · rw [if_neg c20] at hr
              refine j_iinc (i := 4) (v := s_10 + 1) (L' := [some (.ref a0), some (.int a1), some (.int a2), some (.int a3), some (.int (s_10 + 1))]) rfl (m_o1 _) (Nat.le_of_ble_eq_true rfl) rfl rfl dX10_shelf_54 ?_
              refine j_goto (tgt := 32) dX10_shelf_57 rfl ?_
              cases hr
              exact j_weak (L' := [some (.ref a0), some (.int a1), some (.int a2), some (.int a3), some (.int (s_10 + 1))]) (And.intro rfl (And.intro rfl (And.intro rfl (And.intro rfl (And.intro rfl trivial))))) hk
            · rw [if_pos c20] at hr
              refine j_iconst (v := 0) rfl dX10_shelf_52 ?_
              cases hr
              rw [show _ = _ from hk]
              exact j_ret dX10_shelf_53 m_rk_z0
        · cases e21 with
          | inl x22 =>
            dsimp only at hr
            dsimp only
            refine j_aload_n (i := 0) rfl rfl dX10_shelf_60 ?_
            replace hr := m_bind hr; obtain ⟨q23, g24, hr⟩ := hr
            refine j_getf (C := RX10) (T := TX10) (N := 30) (ci := 9) (k := 20) rfl (by decide) inX10 tw_3_213 dX10_shelf_61 (m_gr_spec g24) ?_
            refine j_iload_n (i := 1) rfl rfl dX10_shelf_64 ?_
            refine j_iload_n (i := 2) rfl rfl dX10_shelf_65 ?_
            replace hr := m_bind hr; obtain ⟨b25, g26, hr⟩ := hr
            subst g26
            replace hr := m_bind hr; obtain ⟨h27, g28, hr⟩ := hr
            refine j_iastore dX10_shelf_66 g28 ?_
            refine j_aload_n (i := 0) rfl rfl dX10_shelf_67 ?_
            replace hr := m_bind hr; obtain ⟨q29, g30, hr⟩ := hr
            refine j_getf (C := RX10) (T := TX10) (N := 30) (ci := 9) (k := 21) rfl (by decide) inX10 tw_3_214 dX10_shelf_68 (m_gr_spec g30) ?_
            refine j_iload_n (i := 1) rfl rfl dX10_shelf_71 ?_
            refine j_iload_n (i := 3) rfl rfl dX10_shelf_72 ?_
            replace hr := m_bind hr; obtain ⟨b31, g32, hr⟩ := hr
            subst g32
            replace hr := m_bind hr; obtain ⟨h33, g34, hr⟩ := hr
            refine j_iastore dX10_shelf_73 g34 ?_
            refine j_iconst (v := 1) rfl dX10_shelf_74 ?_
            cases hr
            exact j_ret dX10_shelf_75 m_rk_z1
          | inr v36 =>
            dsimp only at hr
            cases hr
            rfl
      · rw [if_pos c9] at hr
        refine j_iconst (v := 0) rfl dX10_shelf_27 ?_
        cases hr
        exact j_ret dX10_shelf_28 m_rk_z0
def f_X10_move (h : mH) (a0 : Nat) (a1 : Int32) (a2 : Int32) : Option (Int32 × mH) :=
  if m_ob h a0 9 = true then
    (f_X10_isSpecimen h a0 a1).bind fun r2 =>
    if r2 = 0 then
      some ((0, h))
    else
      (f_X10_in a2 ((-1)) 9).bind fun r5 =>
      if r5 = 0 then
        some ((0, h))
      else
        (m_gr h a0 9 12).bind fun q7 =>
        (q7).bind fun b9 =>
        (m_ild h b9 a1).bind fun x11 =>
        if x11 = a2 then
          some ((0, h))
        else
          (m_gr h a0 9 13).bind fun q14 =>
          (q14).bind fun b16 =>
          (m_ild h b16 a1).bind fun x18 =>
          if x18 = ((-1)) then
            if a2 = ((-1)) then
              (m_gr h a0 9 12).bind fun q22 =>
              (q22).bind fun b24 =>
              (m_ist h b24 a1 a2).bind fun h26 =>
              some ((1, h26))
            else
              (m_gr h a0 9 20).bind fun q28 =>
              (q28).bind fun b30 =>
              (m_ild h b30 a2).bind fun x32 =>
              (m_gr h a0 9 7).bind fun q34 =>
              (q34).bind fun b36 =>
              (m_ild h b36 a1).bind fun x38 =>
              if m_ob h a0 9 = true then
                (f_X10_above h a0 x32 x38).bind fun r41 =>
                if r41 = 0 then
                  some ((0, h))
                else
                  if m_ob h a0 9 = true then
                    (f_X10_used h a0 a2).bind fun r44 =>
                    (m_gr h a0 9 8).bind fun q45 =>
                    (q45).bind fun b47 =>
                    (m_ild h b47 a1).bind fun x49 =>
                    (m_gr h a0 9 21).bind fun q51 =>
                    (q51).bind fun b53 =>
                    (m_ild h b53 a2).bind fun x55 =>
                    if (r44 + x49) ≤ x55 then
                      (m_gr h a0 9 12).bind fun q58 =>
                      (q58).bind fun b60 =>
                      (m_ist h b60 a1 a2).bind fun h62 =>
                      some ((1, h62))
                    else
                      some ((0, h))
                  else none
              else none
          else
            some ((0, h))
  else none
def Y_X10_move : mY := (yX10_move, cX10_move, 3, some (FieldType.boolean), .ireturn)
theorem ok_X10_move : m_Ok Y_X10_move := ⟨by decide +kernel, ⟨by decide +kernel, by decide +kernel⟩, tw_5_1, tw_1_7, by decide, Or.inr (Or.inl ⟨Or.inr rfl, rfl⟩)⟩
theorem nn_X10_move : (parseMethodDescriptor Y_X10_move.1.desc).map (fun q => q.parameters.length) = some 2 := by decide +kernel
set_option maxHeartbeats 4000000 in
set_option maxRecDepth 20000 in
theorem j_X10_move {X : mX} {d : Nat} {h : mH} {a0 : Nat} {a1 : Int32} {a2 : Int32} {rv : Int32} {h' : mH} (hd : 4 ≤ d) (hr : f_X10_move h a0 a1 a2 = some (rv, h')) : m_J X Y_X10_move d 0 [some (.ref a0), some (.int a1), some (.int a2)] [] h (some (.int rv), h') := by
  obtain ⟨d, rfl⟩ : ∃ k, d = k + 1 := ⟨d - 1, by omega⟩
  unfold f_X10_move at hr
  refine j_aload_n (i := 0) rfl rfl dX10_move_0 ?_
  refine j_iload_n (i := 1) rfl rfl dX10_move_1 ?_
  by_cases o66 : m_ob h a0 9 = true
  · rw [if_pos o66] at hr
    replace hr := m_bind hr; obtain ⟨r2, g1, hr⟩ := hr
    refine j_callV (Y' := Y_X10_isSpecimen) (a := a0) (as := [.int a1]) (ci := 9) (T := TX10) (N := 30) ok_X10_isSpecimen [some (.ref a0), some (.int a1)] rfl rfl rfl tw_4_113 tw_4_115 tw_p_18 nn_X10_isSpecimen (Nat.le_of_ble_eq_true rfl) dX10_move_2 o66 (j_X10_isSpecimen (by omega) g1) ?_
    refine j_if_eq (tgt := 38) dX10_move_5 rfl (fun c3 => ?_) (fun c3 => ?_)
    · rw [if_pos c3] at hr
      refine j_iconst (v := 0) rfl dX10_move_38 ?_
      cases hr
      exact j_ret dX10_move_39 m_rk_z0
    · rw [if_neg c3] at hr
      refine j_iload_n (i := 2) rfl rfl dX10_move_8 ?_
      refine j_iconst (v := (-1)) rfl dX10_move_9 ?_
      refine j_bipush (v := 9) rfl dX10_move_10 ?_
      replace hr := m_bind hr; obtain ⟨r5, g4, hr⟩ := hr
      refine j_callS (Y' := Y_X10_in) (as := [.int a2, .int (-1), .int 9]) ok_X10_in [some (.int a2), some (.int (-1)), some (.int 9)] rfl rfl tw_4_54 tw_4_55 nn_X10_in (Nat.le_of_ble_eq_true rfl) dX10_move_12 (j_X10_in g4) ?_
      refine j_if_eq (tgt := 38) dX10_move_15 rfl (fun c6 => ?_) (fun c6 => ?_)
      · rw [if_pos c6] at hr
        refine j_iconst (v := 0) rfl dX10_move_38 ?_
        cases hr
        exact j_ret dX10_move_39 m_rk_z0
      · rw [if_neg c6] at hr
        refine j_aload_n (i := 0) rfl rfl dX10_move_18 ?_
        replace hr := m_bind hr; obtain ⟨q7, g8, hr⟩ := hr
        refine j_getf (C := RX10) (T := TX10) (N := 30) (ci := 9) (k := 12) rfl (by decide) inX10 tw_3_205 dX10_move_19 (m_gr_spec g8) ?_
        refine j_iload_n (i := 1) rfl rfl dX10_move_22 ?_
        replace hr := m_bind hr; obtain ⟨b9, g10, hr⟩ := hr
        subst g10
        replace hr := m_bind hr; obtain ⟨x11, g12, hr⟩ := hr
        refine j_iaload dX10_move_23 g12 ?_
        refine j_iload_n (i := 2) rfl rfl dX10_move_24 ?_
        refine j_ic_eq (tgt := 38) dX10_move_25 rfl (fun c13 => ?_) (fun c13 => ?_)
        · rw [if_pos c13] at hr
          refine j_iconst (v := 0) rfl dX10_move_38 ?_
          cases hr
          exact j_ret dX10_move_39 m_rk_z0
        · rw [if_neg c13] at hr
          refine j_aload_n (i := 0) rfl rfl dX10_move_28 ?_
          replace hr := m_bind hr; obtain ⟨q14, g15, hr⟩ := hr
          refine j_getf (C := RX10) (T := TX10) (N := 30) (ci := 9) (k := 13) rfl (by decide) inX10 tw_3_206 dX10_move_29 (m_gr_spec g15) ?_
          refine j_iload_n (i := 1) rfl rfl dX10_move_32 ?_
          replace hr := m_bind hr; obtain ⟨b16, g17, hr⟩ := hr
          subst g17
          replace hr := m_bind hr; obtain ⟨x18, g19, hr⟩ := hr
          refine j_iaload dX10_move_33 g19 ?_
          refine j_iconst (v := (-1)) rfl dX10_move_34 ?_
          refine j_ic_eq (tgt := 40) dX10_move_35 rfl (fun c20 => ?_) (fun c20 => ?_)
          · rw [if_pos c20] at hr
            refine j_iload_n (i := 2) rfl rfl dX10_move_40 ?_
            refine j_iconst (v := (-1)) rfl dX10_move_41 ?_
            refine j_ic_eq (tgt := 87) dX10_move_42 rfl (fun c21 => ?_) (fun c21 => ?_)
            · rw [if_pos c21] at hr
              refine j_aload_n (i := 0) rfl rfl dX10_move_87 ?_
              replace hr := m_bind hr; obtain ⟨q22, g23, hr⟩ := hr
              refine j_getf (C := RX10) (T := TX10) (N := 30) (ci := 9) (k := 12) rfl (by decide) inX10 tw_3_205 dX10_move_88 (m_gr_spec g23) ?_
              refine j_iload_n (i := 1) rfl rfl dX10_move_91 ?_
              refine j_iload_n (i := 2) rfl rfl dX10_move_92 ?_
              replace hr := m_bind hr; obtain ⟨b24, g25, hr⟩ := hr
              subst g25
              replace hr := m_bind hr; obtain ⟨h26, g27, hr⟩ := hr
              refine j_iastore dX10_move_93 g27 ?_
              refine j_iconst (v := 1) rfl dX10_move_94 ?_
              cases hr
              exact j_ret dX10_move_95 m_rk_z1
            · rw [if_neg c21] at hr
              refine j_aload_n (i := 0) rfl rfl dX10_move_45 ?_
              refine j_aload_n (i := 0) rfl rfl dX10_move_46 ?_
              replace hr := m_bind hr; obtain ⟨q28, g29, hr⟩ := hr
              refine j_getf (C := RX10) (T := TX10) (N := 30) (ci := 9) (k := 20) rfl (by decide) inX10 tw_3_213 dX10_move_47 (m_gr_spec g29) ?_
              refine j_iload_n (i := 2) rfl rfl dX10_move_50 ?_
              replace hr := m_bind hr; obtain ⟨b30, g31, hr⟩ := hr
              subst g31
              replace hr := m_bind hr; obtain ⟨x32, g33, hr⟩ := hr
              refine j_iaload dX10_move_51 g33 ?_
              refine j_aload_n (i := 0) rfl rfl dX10_move_52 ?_
              replace hr := m_bind hr; obtain ⟨q34, g35, hr⟩ := hr
              refine j_getf (C := RX10) (T := TX10) (N := 30) (ci := 9) (k := 7) rfl (by decide) inX10 tw_3_200 dX10_move_53 (m_gr_spec g35) ?_
              refine j_iload_n (i := 1) rfl rfl dX10_move_56 ?_
              replace hr := m_bind hr; obtain ⟨b36, g37, hr⟩ := hr
              subst g37
              replace hr := m_bind hr; obtain ⟨x38, g39, hr⟩ := hr
              refine j_iaload dX10_move_57 g39 ?_
              by_cases o65 : m_ob h a0 9 = true
              · rw [if_pos o65] at hr
                replace hr := m_bind hr; obtain ⟨r41, g40, hr⟩ := hr
                refine j_callV (Y' := Y_X10_above) (a := a0) (as := [.int x32, .int x38]) (ci := 9) (T := TX10) (N := 30) ok_X10_above [some (.ref a0), some (.int x32), some (.int x38)] rfl rfl rfl tw_4_60 tw_4_62 tw_p_12 nn_X10_above (Nat.le_of_ble_eq_true rfl) dX10_move_58 o65 (j_X10_above (by omega) g40) ?_
                refine j_if_eq (tgt := 85) dX10_move_61 rfl (fun c42 => ?_) (fun c42 => ?_)
                · rw [if_pos c42] at hr
                  refine j_iconst (v := 0) rfl dX10_move_85 ?_
                  cases hr
                  exact j_ret dX10_move_86 m_rk_z0
                · rw [if_neg c42] at hr
                  refine j_aload_n (i := 0) rfl rfl dX10_move_64 ?_
                  refine j_iload_n (i := 2) rfl rfl dX10_move_65 ?_
                  by_cases o64 : m_ob h a0 9 = true
                  · rw [if_pos o64] at hr
                    replace hr := m_bind hr; obtain ⟨r44, g43, hr⟩ := hr
                    refine j_callV (Y' := Y_X10_used) (a := a0) (as := [.int a2]) (ci := 9) (T := TX10) (N := 30) ok_X10_used [some (.ref a0), some (.int a2), none, none] rfl rfl rfl tw_5_2 tw_5_4 tw_p_30 nn_X10_used (Nat.le_of_ble_eq_true rfl) dX10_move_66 o64 (j_X10_used g43) ?_
                    refine j_aload_n (i := 0) rfl rfl dX10_move_69 ?_
                    replace hr := m_bind hr; obtain ⟨q45, g46, hr⟩ := hr
                    refine j_getf (C := RX10) (T := TX10) (N := 30) (ci := 9) (k := 8) rfl (by decide) inX10 tw_3_201 dX10_move_70 (m_gr_spec g46) ?_
                    refine j_iload_n (i := 1) rfl rfl dX10_move_73 ?_
                    replace hr := m_bind hr; obtain ⟨b47, g48, hr⟩ := hr
                    subst g48
                    replace hr := m_bind hr; obtain ⟨x49, g50, hr⟩ := hr
                    refine j_iaload dX10_move_74 g50 ?_
                    refine j_iadd dX10_move_75 ?_
                    refine j_aload_n (i := 0) rfl rfl dX10_move_76 ?_
                    replace hr := m_bind hr; obtain ⟨q51, g52, hr⟩ := hr
                    refine j_getf (C := RX10) (T := TX10) (N := 30) (ci := 9) (k := 21) rfl (by decide) inX10 tw_3_214 dX10_move_77 (m_gr_spec g52) ?_
                    refine j_iload_n (i := 2) rfl rfl dX10_move_80 ?_
                    replace hr := m_bind hr; obtain ⟨b53, g54, hr⟩ := hr
                    subst g54
                    replace hr := m_bind hr; obtain ⟨x55, g56, hr⟩ := hr
                    refine j_iaload dX10_move_81 g56 ?_
                    refine j_ic_le (tgt := 87) dX10_move_82 rfl (fun c57 => ?_) (fun c57 => ?_)
                    · rw [if_pos c57] at hr
                      refine j_aload_n (i := 0) rfl rfl dX10_move_87 ?_
                      replace hr := m_bind hr; obtain ⟨q58, g59, hr⟩ := hr
                      refine j_getf (C := RX10) (T := TX10) (N := 30) (ci := 9) (k := 12) rfl (by decide) inX10 tw_3_205 dX10_move_88 (m_gr_spec g59) ?_
                      refine j_iload_n (i := 1) rfl rfl dX10_move_91 ?_
                      refine j_iload_n (i := 2) rfl rfl dX10_move_92 ?_
                      replace hr := m_bind hr; obtain ⟨b60, g61, hr⟩ := hr
                      subst g61
                      replace hr := m_bind hr; obtain ⟨h62, g63, hr⟩ := hr
                      refine j_iastore dX10_move_93 g63 ?_
                      refine j_iconst (v := 1) rfl dX10_move_94 ?_
                      cases hr
                      exact j_ret dX10_move_95 m_rk_z1
                    · rw [if_neg c57] at hr
                      refine j_iconst (v := 0) rfl dX10_move_85 ?_
                      cases hr
                      exact j_ret dX10_move_86 m_rk_z0
                  · rw [if_neg o64] at hr
                    cases hr
              · rw [if_neg o65] at hr
                cases hr
          · rw [if_neg c20] at hr
            refine j_iconst (v := 0) rfl dX10_move_38 ?_
            cases hr
            exact j_ret dX10_move_39 m_rk_z0
  · rw [if_neg o66] at hr
    cases hr
def w_X10_count_60 (h : mH) (a0 : Nat) : (Int32 × Int32) → Option ((Int32 × Int32) ⊕ (Int32)) := fun s_8 =>
  if 245 ≤ s_8.2 then
    some (.inr s_8.1)
  else
    (m_gr h a0 9 5).bind fun q10 =>
    (q10).bind fun b12 =>
    (m_ild h b12 s_8.2).bind fun x14 =>
    if x14 = ((-1)) then
      some (.inl (s_8.1 + 0, s_8.2 + 1))
    else
      some (.inl (s_8.1 + 1, s_8.2 + 1))
def w_X10_count_95 (h : mH) (a0 : Nat) : (Int32 × Int32) → Option ((Int32 × Int32) ⊕ (Int32)) := fun s_22 =>
  (m_gi h a0 9 6).bind fun x23 =>
  if x23 ≤ s_22.2 then
    some (.inr s_22.1)
  else
    (m_gr h a0 9 13).bind fun q26 =>
    (q26).bind fun b28 =>
    (m_ild h b28 s_22.2).bind fun x30 =>
    if x30 = ((-1)) then
      some (.inl (s_22.1 + 0, s_22.2 + 1))
    else
      some (.inl (s_22.1 + 1, s_22.2 + 1))
def w_X10_count_136 (h : mH) (a0 : Nat) : (Int32 × Int32) → Option ((Int32 × Int32) ⊕ (Int32)) := fun s_41 =>
  (m_gi h a0 9 6).bind fun x42 =>
  if x42 ≤ s_41.2 then
    some (.inr s_41.1)
  else
    (m_gr h a0 9 10).bind fun q45 =>
    (q45).bind fun b47 =>
    (m_ild h b47 s_41.2).bind fun x49 =>
    if x49 = ((-1)) then
      some (.inl (s_41.1 + 0, s_41.2 + 1))
    else
      some (.inl (s_41.1 + 1, s_41.2 + 1))
def w_X10_count_172 (h : mH) (a0 : Nat) : (Int32 × Int32) → Option ((Int32 × Int32) ⊕ (Int32)) := fun s_57 =>
  (m_gi h a0 9 6).bind fun x58 =>
  if x58 ≤ s_57.2 then
    some (.inr s_57.1)
  else
    (m_gr h a0 9 12).bind fun q61 =>
    (q61).bind fun b63 =>
    (m_ild h b63 s_57.2).bind fun x65 =>
    if x65 = ((-1)) then
      some (.inl (s_57.1 + 0, s_57.2 + 1))
    else
      some (.inl (s_57.1 + 1, s_57.2 + 1))
def w_X10_count_208 (h : mH) (a0 : Nat) : (Int32 × Int32) → Option ((Int32 × Int32) ⊕ (Int32)) := fun s_73 =>
  if 20 ≤ s_73.2 then
    some (.inr s_73.1)
  else
    (m_gr h a0 9 22).bind fun q75 =>
    (q75).bind fun b77 =>
    (m_ild h b77 s_73.2).bind fun x79 =>
    some (.inl (s_73.1 + x79, s_73.2 + 1))
def f_X10_count (h : mH) (a0 : Nat) (a1 : Int32) : Option (Int32) :=
  if a1 = 0 then
    (m_gi h a0 9 6).bind fun x2 =>
    some x2
  else
    if a1 = 1 then
      (m_gi h a0 9 17).bind fun x5 =>
      some x5
    else
      if a1 = 2 then
        (m_loop (w_X10_count_60 h a0) 5000 ((0, 0))).bind fun e17 =>
        some e17
      else
        if a1 = 3 then
          (m_loop (w_X10_count_95 h a0) 5000 ((0, 0))).bind fun e33 =>
          some e33
        else
          if a1 = 4 then
            (m_gi h a0 9 23).bind fun x38 =>
            some x38
          else
            if a1 = 5 then
              (m_loop (w_X10_count_136 h a0) 5000 ((0, 0))).bind fun e52 =>
              some e52
            else
              if a1 = 6 then
                (m_loop (w_X10_count_172 h a0) 5000 ((0, 0))).bind fun e68 =>
                some e68
              else
                if a1 = 7 then
                  (m_loop (w_X10_count_208 h a0) 5000 ((0, 0))).bind fun e81 =>
                  some e81
                else
                  some ((-1))
def Y_X10_count : mY := (yX10_count, cX10_count, 4, some (FieldType.int), .ireturn)
theorem ok_X10_count : m_Ok Y_X10_count := ⟨by decide +kernel, ⟨by decide +kernel, by decide +kernel⟩, tw_5_9, tw_1_7, by decide, Or.inr (Or.inl ⟨Or.inl rfl, rfl⟩)⟩
theorem nn_X10_count : (parseMethodDescriptor Y_X10_count.1.desc).map (fun q => q.parameters.length) = some 1 := by decide +kernel
set_option maxHeartbeats 4000000 in
set_option maxRecDepth 20000 in
theorem j_X10_count {X : mX} {d : Nat} {h : mH} {a0 : Nat} {a1 : Int32} {rv : Int32} (hr : f_X10_count h a0 a1 = some rv) : m_J X Y_X10_count d 0 [some (.ref a0), some (.int a1), none, none] [] h (some (.int rv), h) := by
  unfold f_X10_count at hr
  refine j_iconst (v := 0) rfl dX10_count_0 ?_
  refine j_istore_n (i := 2) (L' := [some (.ref a0), some (.int a1), some (.int 0), none]) rfl (Nat.le_of_ble_eq_true rfl) rfl rfl dX10_count_1 ?_
  refine j_iload_n (i := 1) rfl rfl dX10_count_2 ?_
  by_cases c1 : a1 = 0
  · rw [if_pos c1] at hr
    refine j_tswIn (off := 45) (tgt := 48) dX10_count_3 (by rw [c1]; decide) (by rw [c1]; decide) (by rw [c1]; rfl) rfl ?_
    refine j_aload_n (i := 0) rfl rfl dX10_count_48 ?_
    replace hr := m_bind hr; obtain ⟨x2, g3, hr⟩ := hr
    refine j_getf (C := RX10) (T := TX10) (N := 30) (ci := 9) (k := 6) rfl (by decide) inX10 tw_3_199 dX10_count_49 (m_gi_spec g3) ?_
    cases hr
    exact j_ret dX10_count_52 m_rk_i
  · rw [if_neg c1] at hr
    by_cases c4 : a1 = 1
    · rw [if_pos c4] at hr
      refine j_tswIn (off := 50) (tgt := 53) dX10_count_3 (by rw [c4]; decide) (by rw [c4]; decide) (by rw [c4]; rfl) rfl ?_
      refine j_aload_n (i := 0) rfl rfl dX10_count_53 ?_
      replace hr := m_bind hr; obtain ⟨x5, g6, hr⟩ := hr
      refine j_getf (C := RX10) (T := TX10) (N := 30) (ci := 9) (k := 17) rfl (by decide) inX10 tw_3_210 dX10_count_54 (m_gi_spec g6) ?_
      cases hr
      exact j_ret dX10_count_57 m_rk_i
    · rw [if_neg c4] at hr
      by_cases c7 : a1 = 2
      · rw [if_pos c7] at hr
        refine j_tswIn (off := 55) (tgt := 58) dX10_count_3 (by rw [c7]; decide) (by rw [c7]; decide) (by rw [c7]; rfl) rfl ?_
        refine j_iconst (v := 0) rfl dX10_count_58 ?_
        refine j_istore_n (i := 3) (L' := [some (.ref a0), some (.int a1), some (.int 0), some (.int 0)]) rfl (Nat.le_of_ble_eq_true rfl) rfl rfl dX10_count_59 ?_
        replace hr := m_bind hr; obtain ⟨e17, q20, hr⟩ := hr
        refine j_weak (L' := [some (.ref a0), none, some (.int 0), some (.int 0)]) (And.intro rfl (And.intro rfl (And.intro rfl trivial))) ?_
        refine m_loop_sound (step := w_X10_count_60 h a0) (P := fun s_8 => m_J X Y_X10_count d 60 [some (.ref a0), none, some (.int s_8.1), some (.int s_8.2)] [] h (some (.int rv), h)) (Qe := fun e17 => m_J X Y_X10_count d 91 [none, none, some (.int e17), none] [] h (some (.int rv), h)) ?_ _ _ _ q20 ?_
        · intro s_8 o hr hk
          unfold w_X10_count_60 at hr
          refine j_iload_n (i := 3) rfl rfl dX10_count_60 ?_
          refine j_sipush (v := 245) rfl dX10_count_61 ?_
          refine j_ic_ge (tgt := 91) dX10_count_64 rfl (fun c9 => ?_) (fun c9 => ?_)
          · rw [if_pos c9] at hr
            cases hr
            exact j_weak (L' := [none, none, some (.int s_8.1), none]) (And.intro rfl trivial) hk
          · rw [if_neg c9] at hr
            refine j_iload_n (i := 2) rfl rfl dX10_count_67 ?_
            refine j_aload_n (i := 0) rfl rfl dX10_count_68 ?_
            replace hr := m_bind hr; obtain ⟨q10, g11, hr⟩ := hr
            refine j_getf (C := RX10) (T := TX10) (N := 30) (ci := 9) (k := 5) rfl (by decide) inX10 tw_3_198 dX10_count_69 (m_gr_spec g11) ?_
            refine j_iload_n (i := 3) rfl rfl dX10_count_72 ?_
            replace hr := m_bind hr; obtain ⟨b12, g13, hr⟩ := hr
            subst g13
            replace hr := m_bind hr; obtain ⟨x14, g15, hr⟩ := hr
            refine j_iaload dX10_count_73 g15 ?_
            refine j_iconst (v := (-1)) rfl dX10_count_74 ?_
            refine j_ic_eq (tgt := 82) dX10_count_75 rfl (fun c16 => ?_) (fun c16 => ?_)
            · rw [if_pos c16] at hr
              refine j_iconst (v := 0) rfl dX10_count_82 ?_
              refine j_iadd dX10_count_83 ?_
              refine j_istore_n (i := 2) (L' := [some (.ref a0), none, some (.int (s_8.1 + 0)), some (.int s_8.2)]) rfl (Nat.le_of_ble_eq_true rfl) rfl rfl dX10_count_84 ?_
              refine j_iinc (i := 3) (v := s_8.2 + 1) (L' := [some (.ref a0), none, some (.int (s_8.1 + 0)), some (.int (s_8.2 + 1))]) rfl (m_o1 _) (Nat.le_of_ble_eq_true rfl) rfl rfl dX10_count_85 ?_
              refine j_goto (tgt := 60) dX10_count_88 rfl ?_
              cases hr
              exact j_weak (L' := [some (.ref a0), none, some (.int (s_8.1 + 0)), some (.int (s_8.2 + 1))]) (And.intro rfl (And.intro rfl (And.intro rfl trivial))) hk
            · rw [if_neg c16] at hr
              refine j_iconst (v := 1) rfl dX10_count_78 ?_
              refine j_goto (tgt := 83) dX10_count_79 rfl ?_
              refine j_iadd dX10_count_83 ?_
              refine j_istore_n (i := 2) (L' := [some (.ref a0), none, some (.int (s_8.1 + 1)), some (.int s_8.2)]) rfl (Nat.le_of_ble_eq_true rfl) rfl rfl dX10_count_84 ?_
              refine j_iinc (i := 3) (v := s_8.2 + 1) (L' := [some (.ref a0), none, some (.int (s_8.1 + 1)), some (.int (s_8.2 + 1))]) rfl (m_o1 _) (Nat.le_of_ble_eq_true rfl) rfl rfl dX10_count_85 ?_
              refine j_goto (tgt := 60) dX10_count_88 rfl ?_
              cases hr
              exact j_weak (L' := [some (.ref a0), none, some (.int (s_8.1 + 1)), some (.int (s_8.2 + 1))]) (And.intro rfl (And.intro rfl (And.intro rfl trivial))) hk
        · skip
          refine j_iload_n (i := 2) rfl rfl dX10_count_91 ?_
          cases hr
          exact j_ret dX10_count_92 m_rk_i
      · rw [if_neg c7] at hr
        by_cases c21 : a1 = 3
        · rw [if_pos c21] at hr
          refine j_tswIn (off := 90) (tgt := 93) dX10_count_3 (by rw [c21]; decide) (by rw [c21]; decide) (by rw [c21]; rfl) rfl ?_
          refine j_iconst (v := 0) rfl dX10_count_93 ?_
          refine j_istore_n (i := 3) (L' := [some (.ref a0), some (.int a1), some (.int 0), some (.int 0)]) rfl (Nat.le_of_ble_eq_true rfl) rfl rfl dX10_count_94 ?_
          replace hr := m_bind hr; obtain ⟨e33, q36, hr⟩ := hr
          refine j_weak (L' := [some (.ref a0), none, some (.int 0), some (.int 0)]) (And.intro rfl (And.intro rfl (And.intro rfl trivial))) ?_
          refine m_loop_sound (step := w_X10_count_95 h a0) (P := fun s_22 => m_J X Y_X10_count d 95 [some (.ref a0), none, some (.int s_22.1), some (.int s_22.2)] [] h (some (.int rv), h)) (Qe := fun e33 => m_J X Y_X10_count d 127 [none, none, some (.int e33), none] [] h (some (.int rv), h)) ?_ _ _ _ q36 ?_
          · intro s_22 o hr hk
            unfold w_X10_count_95 at hr
            refine j_iload_n (i := 3) rfl rfl dX10_count_95 ?_
            refine j_aload_n (i := 0) rfl rfl dX10_count_96 ?_
            replace hr := m_bind hr; obtain ⟨x23, g24, hr⟩ := hr
            refine j_getf (C := RX10) (T := TX10) (N := 30) (ci := 9) (k := 6) rfl (by decide) inX10 tw_3_199 dX10_count_97 (m_gi_spec g24) ?_
            refine j_ic_ge (tgt := 127) dX10_count_100 rfl (fun c25 => ?_) (fun c25 => ?_)
            · rw [if_pos c25] at hr
              cases hr
              exact j_weak (L' := [none, none, some (.int s_22.1), none]) (And.intro rfl trivial) hk
            · rw [if_neg c25] at hr
              refine j_iload_n (i := 2) rfl rfl dX10_count_103 ?_
              refine j_aload_n (i := 0) rfl rfl dX10_count_104 ?_
              replace hr := m_bind hr; obtain ⟨q26, g27, hr⟩ := hr
              refine j_getf (C := RX10) (T := TX10) (N := 30) (ci := 9) (k := 13) rfl (by decide) inX10 tw_3_206 dX10_count_105 (m_gr_spec g27) ?_
              refine j_iload_n (i := 3) rfl rfl dX10_count_108 ?_
              replace hr := m_bind hr; obtain ⟨b28, g29, hr⟩ := hr
              subst g29
              replace hr := m_bind hr; obtain ⟨x30, g31, hr⟩ := hr
              refine j_iaload dX10_count_109 g31 ?_
              refine j_iconst (v := (-1)) rfl dX10_count_110 ?_
              refine j_ic_eq (tgt := 118) dX10_count_111 rfl (fun c32 => ?_) (fun c32 => ?_)
              · rw [if_pos c32] at hr
                refine j_iconst (v := 0) rfl dX10_count_118 ?_
                refine j_iadd dX10_count_119 ?_
                refine j_istore_n (i := 2) (L' := [some (.ref a0), none, some (.int (s_22.1 + 0)), some (.int s_22.2)]) rfl (Nat.le_of_ble_eq_true rfl) rfl rfl dX10_count_120 ?_
                refine j_iinc (i := 3) (v := s_22.2 + 1) (L' := [some (.ref a0), none, some (.int (s_22.1 + 0)), some (.int (s_22.2 + 1))]) rfl (m_o1 _) (Nat.le_of_ble_eq_true rfl) rfl rfl dX10_count_121 ?_
                refine j_goto (tgt := 95) dX10_count_124 rfl ?_
                cases hr
                exact j_weak (L' := [some (.ref a0), none, some (.int (s_22.1 + 0)), some (.int (s_22.2 + 1))]) (And.intro rfl (And.intro rfl (And.intro rfl trivial))) hk
              · rw [if_neg c32] at hr
                refine j_iconst (v := 1) rfl dX10_count_114 ?_
                refine j_goto (tgt := 119) dX10_count_115 rfl ?_
                refine j_iadd dX10_count_119 ?_
                refine j_istore_n (i := 2) (L' := [some (.ref a0), none, some (.int (s_22.1 + 1)), some (.int s_22.2)]) rfl (Nat.le_of_ble_eq_true rfl) rfl rfl dX10_count_120 ?_
                refine j_iinc (i := 3) (v := s_22.2 + 1) (L' := [some (.ref a0), none, some (.int (s_22.1 + 1)), some (.int (s_22.2 + 1))]) rfl (m_o1 _) (Nat.le_of_ble_eq_true rfl) rfl rfl dX10_count_121 ?_
                refine j_goto (tgt := 95) dX10_count_124 rfl ?_
                cases hr
                exact j_weak (L' := [some (.ref a0), none, some (.int (s_22.1 + 1)), some (.int (s_22.2 + 1))]) (And.intro rfl (And.intro rfl (And.intro rfl trivial))) hk
          · skip
            refine j_iload_n (i := 2) rfl rfl dX10_count_127 ?_
            cases hr
            exact j_ret dX10_count_128 m_rk_i
        · rw [if_neg c21] at hr
          by_cases c37 : a1 = 4
          · rw [if_pos c37] at hr
            refine j_tswIn (off := 126) (tgt := 129) dX10_count_3 (by rw [c37]; decide) (by rw [c37]; decide) (by rw [c37]; rfl) rfl ?_
            refine j_aload_n (i := 0) rfl rfl dX10_count_129 ?_
            replace hr := m_bind hr; obtain ⟨x38, g39, hr⟩ := hr
            refine j_getf (C := RX10) (T := TX10) (N := 30) (ci := 9) (k := 23) rfl (by decide) inX10 tw_3_216 dX10_count_130 (m_gi_spec g39) ?_
            cases hr
            exact j_ret dX10_count_133 m_rk_i
          · rw [if_neg c37] at hr
            by_cases c40 : a1 = 5
            · rw [if_pos c40] at hr
              refine j_tswIn (off := 131) (tgt := 134) dX10_count_3 (by rw [c40]; decide) (by rw [c40]; decide) (by rw [c40]; rfl) rfl ?_
              refine j_iconst (v := 0) rfl dX10_count_134 ?_
              refine j_istore_n (i := 3) (L' := [some (.ref a0), some (.int a1), some (.int 0), some (.int 0)]) rfl (Nat.le_of_ble_eq_true rfl) rfl rfl dX10_count_135 ?_
              replace hr := m_bind hr; obtain ⟨e52, q55, hr⟩ := hr
              refine j_weak (L' := [some (.ref a0), none, some (.int 0), some (.int 0)]) (And.intro rfl (And.intro rfl (And.intro rfl trivial))) ?_
              refine m_loop_sound (step := w_X10_count_136 h a0) (P := fun s_41 => m_J X Y_X10_count d 136 [some (.ref a0), none, some (.int s_41.1), some (.int s_41.2)] [] h (some (.int rv), h)) (Qe := fun e52 => m_J X Y_X10_count d 168 [none, none, some (.int e52), none] [] h (some (.int rv), h)) ?_ _ _ _ q55 ?_
              · intro s_41 o hr hk
                unfold w_X10_count_136 at hr
                refine j_iload_n (i := 3) rfl rfl dX10_count_136 ?_
                refine j_aload_n (i := 0) rfl rfl dX10_count_137 ?_
                replace hr := m_bind hr; obtain ⟨x42, g43, hr⟩ := hr
                refine j_getf (C := RX10) (T := TX10) (N := 30) (ci := 9) (k := 6) rfl (by decide) inX10 tw_3_199 dX10_count_138 (m_gi_spec g43) ?_
                refine j_ic_ge (tgt := 168) dX10_count_141 rfl (fun c44 => ?_) (fun c44 => ?_)
                · rw [if_pos c44] at hr
                  cases hr
                  exact j_weak (L' := [none, none, some (.int s_41.1), none]) (And.intro rfl trivial) hk
                · rw [if_neg c44] at hr
                  refine j_iload_n (i := 2) rfl rfl dX10_count_144 ?_
                  refine j_aload_n (i := 0) rfl rfl dX10_count_145 ?_
                  replace hr := m_bind hr; obtain ⟨q45, g46, hr⟩ := hr
                  refine j_getf (C := RX10) (T := TX10) (N := 30) (ci := 9) (k := 10) rfl (by decide) inX10 tw_3_203 dX10_count_146 (m_gr_spec g46) ?_
                  refine j_iload_n (i := 3) rfl rfl dX10_count_149 ?_
                  replace hr := m_bind hr; obtain ⟨b47, g48, hr⟩ := hr
                  subst g48
                  replace hr := m_bind hr; obtain ⟨x49, g50, hr⟩ := hr
                  refine j_iaload dX10_count_150 g50 ?_
                  refine j_iconst (v := (-1)) rfl dX10_count_151 ?_
                  refine j_ic_eq (tgt := 159) dX10_count_152 rfl (fun c51 => ?_) (fun c51 => ?_)
                  · rw [if_pos c51] at hr
                    refine j_iconst (v := 0) rfl dX10_count_159 ?_
                    refine j_iadd dX10_count_160 ?_
                    refine j_istore_n (i := 2) (L' := [some (.ref a0), none, some (.int (s_41.1 + 0)), some (.int s_41.2)]) rfl (Nat.le_of_ble_eq_true rfl) rfl rfl dX10_count_161 ?_
                    refine j_iinc (i := 3) (v := s_41.2 + 1) (L' := [some (.ref a0), none, some (.int (s_41.1 + 0)), some (.int (s_41.2 + 1))]) rfl (m_o1 _) (Nat.le_of_ble_eq_true rfl) rfl rfl dX10_count_162 ?_
                    refine j_goto (tgt := 136) dX10_count_165 rfl ?_
                    cases hr
                    exact j_weak (L' := [some (.ref a0), none, some (.int (s_41.1 + 0)), some (.int (s_41.2 + 1))]) (And.intro rfl (And.intro rfl (And.intro rfl trivial))) hk
                  · rw [if_neg c51] at hr
                    refine j_iconst (v := 1) rfl dX10_count_155 ?_
                    refine j_goto (tgt := 160) dX10_count_156 rfl ?_
                    refine j_iadd dX10_count_160 ?_
                    refine j_istore_n (i := 2) (L' := [some (.ref a0), none, some (.int (s_41.1 + 1)), some (.int s_41.2)]) rfl (Nat.le_of_ble_eq_true rfl) rfl rfl dX10_count_161 ?_
                    refine j_iinc (i := 3) (v := s_41.2 + 1) (L' := [some (.ref a0), none, some (.int (s_41.1 + 1)), some (.int (s_41.2 + 1))]) rfl (m_o1 _) (Nat.le_of_ble_eq_true rfl) rfl rfl dX10_count_162 ?_
                    refine j_goto (tgt := 136) dX10_count_165 rfl ?_
                    cases hr
                    exact j_weak (L' := [some (.ref a0), none, some (.int (s_41.1 + 1)), some (.int (s_41.2 + 1))]) (And.intro rfl (And.intro rfl (And.intro rfl trivial))) hk
              · skip
                refine j_iload_n (i := 2) rfl rfl dX10_count_168 ?_
                cases hr
                exact j_ret dX10_count_169 m_rk_i
            · rw [if_neg c40] at hr
              by_cases c56 : a1 = 6
              · rw [if_pos c56] at hr
                refine j_tswIn (off := 167) (tgt := 170) dX10_count_3 (by rw [c56]; decide) (by rw [c56]; decide) (by rw [c56]; rfl) rfl ?_
                refine j_iconst (v := 0) rfl dX10_count_170 ?_
                refine j_istore_n (i := 3) (L' := [some (.ref a0), some (.int a1), some (.int 0), some (.int 0)]) rfl (Nat.le_of_ble_eq_true rfl) rfl rfl dX10_count_171 ?_
                replace hr := m_bind hr; obtain ⟨e68, q71, hr⟩ := hr
                refine j_weak (L' := [some (.ref a0), none, some (.int 0), some (.int 0)]) (And.intro rfl (And.intro rfl (And.intro rfl trivial))) ?_
                refine m_loop_sound (step := w_X10_count_172 h a0) (P := fun s_57 => m_J X Y_X10_count d 172 [some (.ref a0), none, some (.int s_57.1), some (.int s_57.2)] [] h (some (.int rv), h)) (Qe := fun e68 => m_J X Y_X10_count d 204 [none, none, some (.int e68), none] [] h (some (.int rv), h)) ?_ _ _ _ q71 ?_
                · intro s_57 o hr hk
                  unfold w_X10_count_172 at hr
                  refine j_iload_n (i := 3) rfl rfl dX10_count_172 ?_
                  refine j_aload_n (i := 0) rfl rfl dX10_count_173 ?_
                  replace hr := m_bind hr; obtain ⟨x58, g59, hr⟩ := hr
                  refine j_getf (C := RX10) (T := TX10) (N := 30) (ci := 9) (k := 6) rfl (by decide) inX10 tw_3_199 dX10_count_174 (m_gi_spec g59) ?_
                  refine j_ic_ge (tgt := 204) dX10_count_177 rfl (fun c60 => ?_) (fun c60 => ?_)
                  · rw [if_pos c60] at hr
                    cases hr
                    exact j_weak (L' := [none, none, some (.int s_57.1), none]) (And.intro rfl trivial) hk
                  · rw [if_neg c60] at hr
                    refine j_iload_n (i := 2) rfl rfl dX10_count_180 ?_
                    refine j_aload_n (i := 0) rfl rfl dX10_count_181 ?_
                    replace hr := m_bind hr; obtain ⟨q61, g62, hr⟩ := hr
                    refine j_getf (C := RX10) (T := TX10) (N := 30) (ci := 9) (k := 12) rfl (by decide) inX10 tw_3_205 dX10_count_182 (m_gr_spec g62) ?_
                    refine j_iload_n (i := 3) rfl rfl dX10_count_185 ?_
                    replace hr := m_bind hr; obtain ⟨b63, g64, hr⟩ := hr
                    subst g64
                    replace hr := m_bind hr; obtain ⟨x65, g66, hr⟩ := hr
                    refine j_iaload dX10_count_186 g66 ?_
                    refine j_iconst (v := (-1)) rfl dX10_count_187 ?_
                    refine j_ic_eq (tgt := 195) dX10_count_188 rfl (fun c67 => ?_) (fun c67 => ?_)
                    · rw [if_pos c67] at hr
                      refine j_iconst (v := 0) rfl dX10_count_195 ?_
                      refine j_iadd dX10_count_196 ?_
                      refine j_istore_n (i := 2) (L' := [some (.ref a0), none, some (.int (s_57.1 + 0)), some (.int s_57.2)]) rfl (Nat.le_of_ble_eq_true rfl) rfl rfl dX10_count_197 ?_
                      refine j_iinc (i := 3) (v := s_57.2 + 1) (L' := [some (.ref a0), none, some (.int (s_57.1 + 0)), some (.int (s_57.2 + 1))]) rfl (m_o1 _) (Nat.le_of_ble_eq_true rfl) rfl rfl dX10_count_198 ?_
                      refine j_goto (tgt := 172) dX10_count_201 rfl ?_
                      cases hr
                      exact j_weak (L' := [some (.ref a0), none, some (.int (s_57.1 + 0)), some (.int (s_57.2 + 1))]) (And.intro rfl (And.intro rfl (And.intro rfl trivial))) hk
                    · rw [if_neg c67] at hr
                      refine j_iconst (v := 1) rfl dX10_count_191 ?_
                      refine j_goto (tgt := 196) dX10_count_192 rfl ?_
                      refine j_iadd dX10_count_196 ?_
                      refine j_istore_n (i := 2) (L' := [some (.ref a0), none, some (.int (s_57.1 + 1)), some (.int s_57.2)]) rfl (Nat.le_of_ble_eq_true rfl) rfl rfl dX10_count_197 ?_
                      refine j_iinc (i := 3) (v := s_57.2 + 1) (L' := [some (.ref a0), none, some (.int (s_57.1 + 1)), some (.int (s_57.2 + 1))]) rfl (m_o1 _) (Nat.le_of_ble_eq_true rfl) rfl rfl dX10_count_198 ?_
                      refine j_goto (tgt := 172) dX10_count_201 rfl ?_
                      cases hr
                      exact j_weak (L' := [some (.ref a0), none, some (.int (s_57.1 + 1)), some (.int (s_57.2 + 1))]) (And.intro rfl (And.intro rfl (And.intro rfl trivial))) hk
                · skip
                  refine j_iload_n (i := 2) rfl rfl dX10_count_204 ?_
                  cases hr
                  exact j_ret dX10_count_205 m_rk_i
              · rw [if_neg c56] at hr
                by_cases c72 : a1 = 7
                · rw [if_pos c72] at hr
                  refine j_tswIn (off := 203) (tgt := 206) dX10_count_3 (by rw [c72]; decide) (by rw [c72]; decide) (by rw [c72]; rfl) rfl ?_
                  refine j_iconst (v := 0) rfl dX10_count_206 ?_
                  refine j_istore_n (i := 3) (L' := [some (.ref a0), some (.int a1), some (.int 0), some (.int 0)]) rfl (Nat.le_of_ble_eq_true rfl) rfl rfl dX10_count_207 ?_
                  replace hr := m_bind hr; obtain ⟨e81, q84, hr⟩ := hr
                  refine j_weak (L' := [some (.ref a0), none, some (.int 0), some (.int 0)]) (And.intro rfl (And.intro rfl (And.intro rfl trivial))) ?_
                  refine m_loop_sound (step := w_X10_count_208 h a0) (P := fun s_73 => m_J X Y_X10_count d 208 [some (.ref a0), none, some (.int s_73.1), some (.int s_73.2)] [] h (some (.int rv), h)) (Qe := fun e81 => m_J X Y_X10_count d 229 [none, none, some (.int e81), none] [] h (some (.int rv), h)) ?_ _ _ _ q84 ?_
                  · intro s_73 o hr hk
                    unfold w_X10_count_208 at hr
                    refine j_iload_n (i := 3) rfl rfl dX10_count_208 ?_
                    refine j_bipush (v := 20) rfl dX10_count_209 ?_
                    refine j_ic_ge (tgt := 229) dX10_count_211 rfl (fun c74 => ?_) (fun c74 => ?_)
                    · rw [if_pos c74] at hr
                      cases hr
                      exact j_weak (L' := [none, none, some (.int s_73.1), none]) (And.intro rfl trivial) hk
                    · rw [if_neg c74] at hr
                      refine j_iload_n (i := 2) rfl rfl dX10_count_214 ?_
                      refine j_aload_n (i := 0) rfl rfl dX10_count_215 ?_
                      replace hr := m_bind hr; obtain ⟨q75, g76, hr⟩ := hr
                      refine j_getf (C := RX10) (T := TX10) (N := 30) (ci := 9) (k := 22) rfl (by decide) inX10 tw_3_215 dX10_count_216 (m_gr_spec g76) ?_
                      refine j_iload_n (i := 3) rfl rfl dX10_count_219 ?_
                      replace hr := m_bind hr; obtain ⟨b77, g78, hr⟩ := hr
                      subst g78
                      replace hr := m_bind hr; obtain ⟨x79, g80, hr⟩ := hr
                      refine j_iaload dX10_count_220 g80 ?_
                      refine j_iadd dX10_count_221 ?_
                      refine j_istore_n (i := 2) (L' := [some (.ref a0), none, some (.int (s_73.1 + x79)), some (.int s_73.2)]) rfl (Nat.le_of_ble_eq_true rfl) rfl rfl dX10_count_222 ?_
                      refine j_iinc (i := 3) (v := s_73.2 + 1) (L' := [some (.ref a0), none, some (.int (s_73.1 + x79)), some (.int (s_73.2 + 1))]) rfl (m_o1 _) (Nat.le_of_ble_eq_true rfl) rfl rfl dX10_count_223 ?_
                      refine j_goto (tgt := 208) dX10_count_226 rfl ?_
                      cases hr
                      exact j_weak (L' := [some (.ref a0), none, some (.int (s_73.1 + x79)), some (.int (s_73.2 + 1))]) (And.intro rfl (And.intro rfl (And.intro rfl trivial))) hk
                  · skip
                    refine j_iload_n (i := 2) rfl rfl dX10_count_229 ?_
                    cases hr
                    exact j_ret dX10_count_230 m_rk_i
                · rw [if_neg c72] at hr
                  refine j_tswOut (tgt := 231) dX10_count_3 (by have := m_sw (k := 0) (by decide) c1; have := m_sw (k := 1) (by decide) c4; have := m_sw (k := 2) (by decide) c7; have := m_sw (k := 3) (by decide) c21; have := m_sw (k := 4) (by decide) c37; have := m_sw (k := 5) (by decide) c40; have := m_sw (k := 6) (by decide) c56; have := m_sw (k := 7) (by decide) c72; omega) rfl ?_
                  refine j_iconst (v := (-1)) rfl dX10_count_231 ?_
                  cases hr
                  exact j_ret dX10_count_232 m_rk_i
