/-! CONSTRUCTORS of Statement, Sets, Trial and the model, by program -/
set_option maxRecDepth 20000 in
theorem kI_G (l : Launch) (D : va_G) (cI cS : ClassId) (h0 : Nat) (sz : Nat) : KI M_G_init 0 0 l D cI cS (h0, .inr (4, fsG)) [] sz (fun w => w = [(h0, .inr (4, fsG))]) := by
  refine KI_of (by decide) rfl rfl (Nat.le_of_ble_eq_true rfl) ?_
  intro p e s m args below meth c A QM ls X hin hP hD hl fin
  have hl : lv_has ls 1 [(0, .ref h0)] := hl
  have hS : va_S A s.heap s.heap [] := va_S.rf
  refine lv_aload_n X.1 X.2.1 di_G_0 rfl (lv_at hl 0 rfl) ?_
  refine k_obj X hl rfl wki_G_1 wo_i wo_c (by decide) (by decide) di_G_1 ?_
  exact fin _ _ _ _ 4 rfl di_G_4 hP hD hS
set_option maxRecDepth 20000 in
theorem kI_S (l : Launch) (D : va_G) (cI cS : ClassId) (h0 h1 : Nat) (sz : Nat) : KI M_S_init 3 4108 l D cI cS (h0, .inr (2, fsS)) [.ref h1] sz (fun w => ∃ L : Nat → Nat, L 1 = h1 ∧ L 2 = h0 ∧ w = wOrd L cI cS [2, 13, 14, 15]) := by
  refine KI_of (by decide) rfl rfl (Nat.le_of_ble_eq_true rfl) ?_
  intro p e s m args below meth c A QM ls X hin hP hD hl fin
  have hl : lv_has ls 2 [(0, .ref h0), (1, .ref h1)] := hl
  have hS : va_S A s.heap s.heap [] := va_S.rf
  refine lv_aload_n X.1 X.2.1 di_S_0 rfl (lv_at hl 0 rfl) ?_
  refine k_obj X hl rfl wki_S_3 wo_i wo_c (by decide) (by decide) di_S_1 ?_
  refine k_arrs X hin (n := 1454) hl mff_S_9 (by decide) (Nat.le_of_ble_eq_true rfl) (Nat.le_of_ble_eq_true rfl) (Nat.le_of_ble_eq_true rfl) wa_I di_S_4 di_S_5 rfl di_S_8 di_S_10 hP hD hS (fun q0 H locs hP hD hS => ?_)
  refine k_arrs X hin (n := 1454) hl mff_S_15 (by decide) (Nat.le_of_ble_eq_true rfl) (Nat.le_of_ble_eq_true rfl) (Nat.le_of_ble_eq_true rfl) wa_I di_S_13 di_S_14 rfl di_S_17 di_S_19 hP hD hS (fun q1 H locs hP hD hS => ?_)
  refine k_arrs X hin (n := 1200) hl mff_S_18 (by decide) (Nat.le_of_ble_eq_true rfl) (Nat.le_of_ble_eq_true rfl) (Nat.le_of_ble_eq_true rfl) wa_I di_S_22 di_S_23 rfl di_S_26 di_S_28 hP hD hS (fun q2 H locs hP hD hS => ?_)
  refine lv_aload_n X.1 X.2.1 di_S_31 rfl (lv_at hl 0 rfl) (lv_aload_n X.1 X.2.1 di_S_32 rfl (lv_at hl 1 rfl) ?_)
  refine k_put X hin mff_S_21 rfl rfl (Nat.le_of_ble_eq_true rfl) di_S_33 hP hD hS (fun H locs hP hD hS => ?_)
  exact fin _ _ _ _ 36 ⟨fun k => if k = 1 then h1 else if k = 2 then h0 else if k = 13 then q0 else if k = 14 then q1 else q2, rfl, rfl, rfl⟩ di_S_36 hP hD hS
set_option maxRecDepth 20000 in
theorem kI_T (l : Launch) (D : va_G) (cI cS : ClassId) (h0 h1 h2 : Nat) (sz : Nat) : KI M_T_init 8 454 l D cI cS (h0, .inr (3, fsT)) [.ref h1, .ref h2] sz (fun w => ∃ L : Nat → Nat, L 1 = h1 ∧ L 2 = h2 ∧ L 3 = h0 ∧ w = wOrd L cI cS [3, 16, 17, 18, 19, 20, 21, 22, 23]) := by
  refine KI_of (by decide) rfl rfl (Nat.le_of_ble_eq_true rfl) ?_
  intro p e s m args below meth c A QM ls X hin hP hD hl fin
  have hl : lv_has ls 3 [(0, .ref h0), (1, .ref h1), (2, .ref h2)] := hl
  have hS : va_S A s.heap s.heap [] := va_S.rf
  refine lv_aload_n X.1 X.2.1 di_T_0 rfl (lv_at hl 0 rfl) ?_
  refine k_obj X hl rfl wki_T_3 wo_i wo_c (by decide) (by decide) di_T_1 ?_
  refine k_arrb X hin (n := 30) hl mff_T_9 (by decide) (Nat.le_of_ble_eq_true rfl) (Nat.le_of_ble_eq_true rfl) (Nat.le_of_ble_eq_true rfl) wa_I di_T_4 di_T_5 rfl di_T_7 di_T_9 hP hD hS (fun q0 H locs hP hD hS => ?_)
  refine k_arrs X hin (n := 270) hl mff_T_15 (by decide) (Nat.le_of_ble_eq_true rfl) (Nat.le_of_ble_eq_true rfl) (Nat.le_of_ble_eq_true rfl) wa_I di_T_12 di_T_13 rfl di_T_16 di_T_18 hP hD hS (fun q1 H locs hP hD hS => ?_)
  refine k_arri X hin (n := 4) hl mff_T_18 (by decide) (Nat.le_of_ble_eq_true rfl) (Nat.le_of_ble_eq_true rfl) (Nat.le_of_ble_eq_true rfl) wa_I di_T_21 di_T_22 rfl di_T_23 di_T_25 hP hD hS (fun q2 H locs hP hD hS => ?_)
  refine k_arrb X hin (n := 60) hl mff_T_21 (by decide) (Nat.le_of_ble_eq_true rfl) (Nat.le_of_ble_eq_true rfl) (Nat.le_of_ble_eq_true rfl) wa_I di_T_28 di_T_29 rfl di_T_31 di_T_33 hP hD hS (fun q3 H locs hP hD hS => ?_)
  refine k_arrb X hin (n := 10) hl mff_T_24 (by decide) (Nat.le_of_ble_eq_true rfl) (Nat.le_of_ble_eq_true rfl) (Nat.le_of_ble_eq_true rfl) wa_I di_T_36 di_T_37 rfl di_T_39 di_T_41 hP hD hS (fun q4 H locs hP hD hS => ?_)
  refine k_arrb X hin (n := 10) hl mff_T_27 (by decide) (Nat.le_of_ble_eq_true rfl) (Nat.le_of_ble_eq_true rfl) (Nat.le_of_ble_eq_true rfl) wa_I di_T_44 di_T_45 rfl di_T_47 di_T_49 hP hD hS (fun q5 H locs hP hD hS => ?_)
  refine k_arrb X hin (n := 10) hl mff_T_30 (by decide) (Nat.le_of_ble_eq_true rfl) (Nat.le_of_ble_eq_true rfl) (Nat.le_of_ble_eq_true rfl) wa_I di_T_52 di_T_53 rfl di_T_55 di_T_57 hP hD hS (fun q6 H locs hP hD hS => ?_)
  refine k_arrb X hin (n := 60) hl mff_T_33 (by decide) (Nat.le_of_ble_eq_true rfl) (Nat.le_of_ble_eq_true rfl) (Nat.le_of_ble_eq_true rfl) wa_I di_T_60 di_T_61 rfl di_T_63 di_T_65 hP hD hS (fun q7 H locs hP hD hS => ?_)
  refine lv_aload_n X.1 X.2.1 di_T_68 rfl (lv_at hl 0 rfl) (lv_aload_n X.1 X.2.1 di_T_69 rfl (lv_at hl 1 rfl) ?_)
  refine k_put X hin mff_T_36 rfl rfl (Nat.le_of_ble_eq_true rfl) di_T_70 hP hD hS (fun H locs hP hD hS => ?_)
  refine lv_aload_n X.1 X.2.1 di_T_73 rfl (lv_at hl 0 rfl) (lv_aload_n X.1 X.2.1 di_T_74 rfl (lv_at hl 2 rfl) ?_)
  refine k_put X hin mff_T_40 rfl rfl (Nat.le_of_ble_eq_true rfl) di_T_75 hP hD hS (fun H locs hP hD hS => ?_)
  exact fin _ _ _ _ 78 ⟨fun k => if k = 1 then h1 else if k = 2 then h2 else if k = 3 then h0 else if k = 16 then q0 else if k = 17 then q1 else if k = 18 then q2 else if k = 19 then q3 else if k = 20 then q4 else if k = 21 then q5 else if k = 22 then q6 else q7, rfl, rfl, rfl, rfl⟩ di_T_78 hP hD hS
set_option maxRecDepth 20000 in
theorem kI_M (l : Launch) (D : va_G) (cI cS : ClassId) (h0 : Nat) (sz : Nat) : KI M_M_init 33 5098 l D cI cS (h0, .inr (5, fsM)) [] sz (fun w => ∃ L : Nat → Nat, L 25 = h0 ∧ w = wOrd L cI cS [25, 26, 27, 28, 29, 30, 31, 32, 33, 34, 35, 36, 37, 38, 39, 40, 41, 42, 43, 44, 45, 46, 47, 48, 49, 50, 51, 52, 53, 54, 55, 56, 57, 58]) := by
  refine KI_of (by decide) rfl rfl (Nat.le_of_ble_eq_true rfl) ?_
  intro p e s m args below meth c A QM ls X hin hP hD hl fin
  have hl : lv_has ls 1 [(0, .ref h0)] := hl
  have hS : va_S A s.heap s.heap [] := va_S.rf
  refine lv_aload_n X.1 X.2.1 di_M_0 rfl (lv_at hl 0 rfl) ?_
  refine k_obj X hl rfl wki_M_1 wo_i wo_c (by decide) (by decide) di_M_1 ?_
  refine k_arrb X hin (n := 8) hl mff_M_7 (by decide) (Nat.le_of_ble_eq_true rfl) (Nat.le_of_ble_eq_true rfl) (Nat.le_of_ble_eq_true rfl) wa_I di_M_4 di_M_5 rfl di_M_7 di_M_9 hP hD hS (fun q0 H locs hP hD hS => ?_)
  refine k_arrb X hin (n := 8) hl mff_M_13 (by decide) (Nat.le_of_ble_eq_true rfl) (Nat.le_of_ble_eq_true rfl) (Nat.le_of_ble_eq_true rfl) wa_I di_M_12 di_M_13 rfl di_M_15 di_M_17 hP hD hS (fun q1 H locs hP hD hS => ?_)
  refine k_arrb X hin (n := 10) hl mff_M_16 (by decide) (Nat.le_of_ble_eq_true rfl) (Nat.le_of_ble_eq_true rfl) (Nat.le_of_ble_eq_true rfl) wa_I di_M_20 di_M_21 rfl di_M_23 di_M_25 hP hD hS (fun q2 H locs hP hD hS => ?_)
  refine k_arrb X hin (n := 10) hl mff_M_19 (by decide) (Nat.le_of_ble_eq_true rfl) (Nat.le_of_ble_eq_true rfl) (Nat.le_of_ble_eq_true rfl) wa_I di_M_28 di_M_29 rfl di_M_31 di_M_33 hP hD hS (fun q3 H locs hP hD hS => ?_)
  refine k_arrb X hin (n := 60) hl mff_M_22 (by decide) (Nat.le_of_ble_eq_true rfl) (Nat.le_of_ble_eq_true rfl) (Nat.le_of_ble_eq_true rfl) wa_I di_M_36 di_M_37 rfl di_M_39 di_M_41 hP hD hS (fun q4 H locs hP hD hS => ?_)
  refine k_arrb X hin (n := 60) hl mff_M_25 (by decide) (Nat.le_of_ble_eq_true rfl) (Nat.le_of_ble_eq_true rfl) (Nat.le_of_ble_eq_true rfl) wa_I di_M_44 di_M_45 rfl di_M_47 di_M_49 hP hD hS (fun q5 H locs hP hD hS => ?_)
  refine k_arrb X hin (n := 60) hl mff_M_28 (by decide) (Nat.le_of_ble_eq_true rfl) (Nat.le_of_ble_eq_true rfl) (Nat.le_of_ble_eq_true rfl) wa_I di_M_52 di_M_53 rfl di_M_55 di_M_57 hP hD hS (fun q6 H locs hP hD hS => ?_)
  refine k_arrb X hin (n := 60) hl mff_M_31 (by decide) (Nat.le_of_ble_eq_true rfl) (Nat.le_of_ble_eq_true rfl) (Nat.le_of_ble_eq_true rfl) wa_I di_M_60 di_M_61 rfl di_M_63 di_M_65 hP hD hS (fun q7 H locs hP hD hS => ?_)
  refine k_arrb X hin (n := 60) hl mff_M_34 (by decide) (Nat.le_of_ble_eq_true rfl) (Nat.le_of_ble_eq_true rfl) (Nat.le_of_ble_eq_true rfl) wa_I di_M_68 di_M_69 rfl di_M_71 di_M_73 hP hD hS (fun q8 H locs hP hD hS => ?_)
  refine k_arrb X hin (n := 60) hl mff_M_37 (by decide) (Nat.le_of_ble_eq_true rfl) (Nat.le_of_ble_eq_true rfl) (Nat.le_of_ble_eq_true rfl) wa_I di_M_76 di_M_77 rfl di_M_79 di_M_81 hP hD hS (fun q9 H locs hP hD hS => ?_)
  refine k_arrb X hin (n := 60) hl mff_M_40 (by decide) (Nat.le_of_ble_eq_true rfl) (Nat.le_of_ble_eq_true rfl) (Nat.le_of_ble_eq_true rfl) wa_I di_M_84 di_M_85 rfl di_M_87 di_M_89 hP hD hS (fun q10 H locs hP hD hS => ?_)
  refine k_arrb X hin (n := 60) hl mff_M_43 (by decide) (Nat.le_of_ble_eq_true rfl) (Nat.le_of_ble_eq_true rfl) (Nat.le_of_ble_eq_true rfl) wa_I di_M_92 di_M_93 rfl di_M_95 di_M_97 hP hD hS (fun q11 H locs hP hD hS => ?_)
  refine k_arrb X hin (n := 20) hl mff_M_46 (by decide) (Nat.le_of_ble_eq_true rfl) (Nat.le_of_ble_eq_true rfl) (Nat.le_of_ble_eq_true rfl) wa_I di_M_100 di_M_101 rfl di_M_103 di_M_105 hP hD hS (fun q12 H locs hP hD hS => ?_)
  refine k_arrs X hin (n := 1260) hl mff_M_49 (by decide) (Nat.le_of_ble_eq_true rfl) (Nat.le_of_ble_eq_true rfl) (Nat.le_of_ble_eq_true rfl) wa_I di_M_108 di_M_109 rfl di_M_112 di_M_114 hP hD hS (fun q13 H locs hP hD hS => ?_)
  refine k_arrs X hin (n := 1260) hl mff_M_52 (by decide) (Nat.le_of_ble_eq_true rfl) (Nat.le_of_ble_eq_true rfl) (Nat.le_of_ble_eq_true rfl) wa_I di_M_117 di_M_118 rfl di_M_121 di_M_123 hP hD hS (fun q14 H locs hP hD hS => ?_)
  refine k_arrs X hin (n := 160) hl mff_M_55 (by decide) (Nat.le_of_ble_eq_true rfl) (Nat.le_of_ble_eq_true rfl) (Nat.le_of_ble_eq_true rfl) wa_I di_M_126 di_M_127 rfl di_M_130 di_M_132 hP hD hS (fun q15 H locs hP hD hS => ?_)
  refine k_arrs X hin (n := 160) hl mff_M_58 (by decide) (Nat.le_of_ble_eq_true rfl) (Nat.le_of_ble_eq_true rfl) (Nat.le_of_ble_eq_true rfl) wa_I di_M_135 di_M_136 rfl di_M_139 di_M_141 hP hD hS (fun q16 H locs hP hD hS => ?_)
  refine k_arrb X hin (n := 20) hl mff_M_61 (by decide) (Nat.le_of_ble_eq_true rfl) (Nat.le_of_ble_eq_true rfl) (Nat.le_of_ble_eq_true rfl) wa_I di_M_144 di_M_145 rfl di_M_147 di_M_149 hP hD hS (fun q17 H locs hP hD hS => ?_)
  refine k_arrb X hin (n := 20) hl mff_M_64 (by decide) (Nat.le_of_ble_eq_true rfl) (Nat.le_of_ble_eq_true rfl) (Nat.le_of_ble_eq_true rfl) wa_I di_M_152 di_M_153 rfl di_M_155 di_M_157 hP hD hS (fun q18 H locs hP hD hS => ?_)
  refine k_arri X hin (n := 4) hl mff_M_67 (by decide) (Nat.le_of_ble_eq_true rfl) (Nat.le_of_ble_eq_true rfl) (Nat.le_of_ble_eq_true rfl) wa_I di_M_160 di_M_161 rfl di_M_162 di_M_164 hP hD hS (fun q19 H locs hP hD hS => ?_)
  refine k_arri X hin (n := 4) hl mff_M_70 (by decide) (Nat.le_of_ble_eq_true rfl) (Nat.le_of_ble_eq_true rfl) (Nat.le_of_ble_eq_true rfl) wa_I di_M_167 di_M_168 rfl di_M_169 di_M_171 hP hD hS (fun q20 H locs hP hD hS => ?_)
  refine k_arrb X hin (n := 10) hl mff_M_73 (by decide) (Nat.le_of_ble_eq_true rfl) (Nat.le_of_ble_eq_true rfl) (Nat.le_of_ble_eq_true rfl) wa_I di_M_174 di_M_175 rfl di_M_177 di_M_179 hP hD hS (fun q21 H locs hP hD hS => ?_)
  refine k_arrb X hin (n := 10) hl mff_M_76 (by decide) (Nat.le_of_ble_eq_true rfl) (Nat.le_of_ble_eq_true rfl) (Nat.le_of_ble_eq_true rfl) wa_I di_M_182 di_M_183 rfl di_M_185 di_M_187 hP hD hS (fun q22 H locs hP hD hS => ?_)
  refine k_arrs X hin (n := 1200) hl mff_M_79 (by decide) (Nat.le_of_ble_eq_true rfl) (Nat.le_of_ble_eq_true rfl) (Nat.le_of_ble_eq_true rfl) wa_I di_M_190 di_M_191 rfl di_M_194 di_M_196 hP hD hS (fun q23 H locs hP hD hS => ?_)
  refine k_arrb X hin (n := 30) hl mff_M_82 (by decide) (Nat.le_of_ble_eq_true rfl) (Nat.le_of_ble_eq_true rfl) (Nat.le_of_ble_eq_true rfl) wa_I di_M_199 di_M_200 rfl di_M_202 di_M_204 hP hD hS (fun q24 H locs hP hD hS => ?_)
  refine k_arrs X hin (n := 240) hl mff_M_85 (by decide) (Nat.le_of_ble_eq_true rfl) (Nat.le_of_ble_eq_true rfl) (Nat.le_of_ble_eq_true rfl) wa_I di_M_207 di_M_208 rfl di_M_211 di_M_213 hP hD hS (fun q25 H locs hP hD hS => ?_)
  refine k_arrb X hin (n := 30) hl mff_M_88 (by decide) (Nat.le_of_ble_eq_true rfl) (Nat.le_of_ble_eq_true rfl) (Nat.le_of_ble_eq_true rfl) wa_I di_M_216 di_M_217 rfl di_M_219 di_M_221 hP hD hS (fun q26 H locs hP hD hS => ?_)
  refine k_arri X hin (n := 4) hl mff_M_91 (by decide) (Nat.le_of_ble_eq_true rfl) (Nat.le_of_ble_eq_true rfl) (Nat.le_of_ble_eq_true rfl) wa_I di_M_224 di_M_225 rfl di_M_226 di_M_228 hP hD hS (fun q27 H locs hP hD hS => ?_)
  refine k_arrb X hin (n := 10) hl mff_M_94 (by decide) (Nat.le_of_ble_eq_true rfl) (Nat.le_of_ble_eq_true rfl) (Nat.le_of_ble_eq_true rfl) wa_I di_M_231 di_M_232 rfl di_M_234 di_M_236 hP hD hS (fun q28 H locs hP hD hS => ?_)
  refine k_arrb X hin (n := 10) hl mff_M_97 (by decide) (Nat.le_of_ble_eq_true rfl) (Nat.le_of_ble_eq_true rfl) (Nat.le_of_ble_eq_true rfl) wa_I di_M_239 di_M_240 rfl di_M_242 di_M_244 hP hD hS (fun q29 H locs hP hD hS => ?_)
  refine k_arrb X hin (n := 10) hl mff_M_100 (by decide) (Nat.le_of_ble_eq_true rfl) (Nat.le_of_ble_eq_true rfl) (Nat.le_of_ble_eq_true rfl) wa_I di_M_247 di_M_248 rfl di_M_250 di_M_252 hP hD hS (fun q30 H locs hP hD hS => ?_)
  refine k_arrb X hin (n := 60) hl mff_M_103 (by decide) (Nat.le_of_ble_eq_true rfl) (Nat.le_of_ble_eq_true rfl) (Nat.le_of_ble_eq_true rfl) wa_I di_M_255 di_M_256 rfl di_M_258 di_M_260 hP hD hS (fun q31 H locs hP hD hS => ?_)
  refine k_arrb X hin (n := 60) hl mff_M_106 (by decide) (Nat.le_of_ble_eq_true rfl) (Nat.le_of_ble_eq_true rfl) (Nat.le_of_ble_eq_true rfl) wa_I di_M_263 di_M_264 rfl di_M_266 di_M_268 hP hD hS (fun q32 H locs hP hD hS => ?_)
  exact fin _ _ _ _ 271 ⟨fun k => ([h0, q0, q1, q2, q3, q4, q5, q6, q7, q8, q9, q10, q11, q12, q13, q14, q15, q16, q17, q18, q19, q20, q21, q22, q23, q24, q25, q26, q27, q28, q29, q30, q31, q32] : List Nat).getD (k - 25) 0, rfl, rfl⟩ di_M_271 hP hD hS
