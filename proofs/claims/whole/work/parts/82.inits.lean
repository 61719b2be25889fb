/-! CONSTRUCTORS of Statement, Sets, Trial and the model, by program -/
set_option maxRecDepth 20000 in
theorem kI_G (l : Launch) (D : va_G) (cI cS : ClassId) (h0 : Nat) (sz : Nat) : KI M_G_init 0 0 l D cI cS (h0, .inr (4, fsG)) [] sz (fun w => w = [(h0, .inr (4, fsG))]) := by
  refine KI_of (by decide) rfl rfl (Nat.le_of_ble_eq_true rfl) ?_
  intro p e s m args below meth c A QM ls X hin hP hD hl fin
  have hl : lv_has ls 1 [(0, .ref h0)] := hl
  have hS : va_S A s.heap s.heap [] := va_S.rf
  refine lv_aload_n X.1 X.2.1 di_G_0 rfl (lv_at hl 0 rfl) ?_
  refine k_obj X hl rfl wki_G_1 wo_i wo_c (by decide) (by decide) di_G_1 ?_
  exact fin _ _ _ _ 4 rfl di_G_4 hP hD hS
set_option maxRecDepth 20000 in
theorem kI_S (l : Launch) (D : va_G) (cI cS : ClassId) (h0 h1 : Nat) (sz : Nat) : KI M_S_init 3 4108 l D cI cS (h0, .inr (2, fsS)) [.ref h1] sz (fun w => ∃ L : Nat → Nat, L 1 = h1 ∧ L 2 = h0 ∧ w = wOrd L cI cS [2, 13, 14, 15]) := by
  refine KI_of (by decide) rfl rfl (Nat.le_of_ble_eq_true rfl) ?_
  intro p e s m args below meth c A QM ls X hin hP hD hl fin
  have hl : lv_has ls 2 [(0, .ref h0), (1, .ref h1)] := hl
  have hS : va_S A s.heap s.heap [] := va_S.rf
  refine lv_aload_n X.1 X.2.1 di_S_0 rfl (lv_at hl 0 rfl) ?_
  refine k_obj X hl rfl wki_S_3 wo_i wo_c (by decide) (by decide) di_S_1 ?_
  refine k_arrs X hin (n := 1454) hl mff_S_9 (by decide) (Nat.le_of_ble_eq_true rfl) (Nat.le_of_ble_eq_true rfl) (Nat.le_of_ble_eq_true rfl) wa_I di_S_4 di_S_5 rfl di_S_8 di_S_10 hP hD hS (fun q0 H locs hP hD hS => ?_)
  refine k_arrs X hin (n := 1454) hl mff_S_15 (by decide) (Nat.le_of_ble_eq_true rfl) (Nat.le_of_ble_eq_true rfl) (Nat.le_of_ble_eq_true rfl) wa_I di_S_13 di_S_14 rfl di_S_17 di_S_19 hP hD hS (fun q1 H locs hP hD hS => ?_)
  refine k_arrs X hin (n := 1200) hl mff_S_18 (by decide) (Nat.le_of_ble_eq_true rfl) (Nat.le_of_ble_eq_true rfl) (Nat.le_of_ble_eq_true rfl) wa_I di_S_22 di_S_23 rfl di_S_26 di_S_28 hP hD hS (fun q2 H locs hP hD hS => ?_)
  refine lv_aload_n X.1 X.2.1 di_S_31 rfl (lv_at hl 0 rfl) (lv_aload_n X.1 X.2.1 di_S_32 rfl (lv_at hl 1 rfl) ?_)
  refine k_put X hin mff_S_21 rfl rfl (Nat.le_of_ble_eq_true rfl) di_S_33 hP hD hS (fun H locs hP hD hS => ?_)
  exact fin _ _ _ _ 36 ⟨fun k => if k = 1 then h1 else if k = 2 then h0 else if k = 13 then q0 else if k = 14 then q1 else q2, rfl, rfl, rfl⟩ di_S_36 hP hD hS
set_option maxRecDepth 20000 in
theorem kI_T (l : Launch) (D : va_G) (cI cS : ClassId) (h0 h1 h2 : Nat) (sz : Nat) : KI M_T_init 8 454 l D cI cS (h0, .inr (3, fsT)) [.ref h1, .ref h2] sz (fun w => ∃ L : Nat → Nat, L 1 = h1 ∧ L 2 = h2 ∧ L 3 = h0 ∧ w = wOrd L cI cS [3, 16, 17, 18, 19, 20, 21, 22, 23]) := by
  refine KI_of (by decide) rfl rfl (Nat.le_of_ble_eq_true rfl) ?_
  intro p e s m args below meth c A QM ls X hin hP hD hl fin
  have hl : lv_has ls 3 [(0, .ref h0), (1, .ref h1), (2, .ref h2)] := hl
  have hS : va_S A s.heap s.heap [] := va_S.rf
  refine lv_aload_n X.1 X.2.1 di_T_0 rfl (lv_at hl 0 rfl) ?_
  refine k_obj X hl rfl wki_T_3 wo_i wo_c (by decide) (by decide) di_T_1 ?_
  refine k_arrb X hin (n := 30) hl mff_T_9 (by decide) (Nat.le_of_ble_eq_true rfl) (Nat.le_of_ble_eq_true rfl) (Nat.le_of_ble_eq_true rfl) wa_I di_T_4 di_T_5 rfl di_T_7 di_T_9 hP hD hS (fun q0 H locs hP hD hS => ?_)
  refine k_arrs X hin (n := 270) hl mff_T_15 (by decide) (Nat.le_of_ble_eq_true rfl) (Nat.le_of_ble_eq_true rfl) (Nat.le_of_ble_eq_true rfl) wa_I di_T_12 di_T_13 rfl di_T_16 di_T_18 hP hD hS (fun q1 H locs hP hD hS => ?_)
  refine k_arri X hin (n := 4) hl mff_T_18 (by decide) (Nat.le_of_ble_eq_true rfl) (Nat.le_of_ble_eq_true rfl) (Nat.le_of_ble_eq_true rfl) wa_I di_T_21 di_T_22 rfl di_T_23 di_T_25 hP hD hS (fun q2 H locs hP hD hS => ?_)
  refine k_arrb X hin (n := 60) hl mff_T_21 (by decide) (Nat.le_of_ble_eq_true rfl) (Nat.le_of_ble_eq_true rfl) (Nat.le_of_ble_eq_true rfl) wa_I di_T_28 di_T_29 rfl di_T_31 di_T_33 hP hD hS (fun q3 H locs hP hD hS => ?_)
  refine k_arrb X hin (n := 10) hl mff_T_24 (by decide) (Nat.le_of_ble_eq_true rfl) (Nat.le_of_ble_eq_true rfl) (Nat.le_of_ble_eq_true rfl) wa_I di_T_36 di_T_37 rfl di_T_39 di_T_41 hP hD hS (fun q4 H locs hP hD hS => ?_)
  refine k_arrb X hin (n := 10) hl mff_T_27 (by decide) (Nat.le_of_ble_eq_true rfl) (Nat.le_of_ble_eq_true rfl) (Nat.le_of_ble_eq_true rfl) wa_I di_T_44 di_T_45 rfl di_T_47 di_T_49 hP hD hS (fun q5 H locs hP hD hS => ?_)
  refine k_arrb X hin (n := 10) hl mff_T_30 (by decide) (Nat.le_of_ble_eq_true rfl) (Nat.le_of_ble_eq_true rfl) (Nat.le_of_ble_eq_true rfl) wa_I di_T_52 di_T_53 rfl di_T_55 di_T_57 hP hD hS (fun q6 H locs hP hD hS => ?_)
  refine k_arrb X hin (n := 60) hl mff_T_33 (by decide) (Nat.le_of_ble_eq_true rfl) (Nat.le_of_ble_eq_true rfl) (Nat.le_of_ble_eq_true rfl) wa_I di_T_60 di_T_61 rfl di_T_63 di_T_65 hP hD hS (fun q7 H locs hP hD hS => ?_)
  refine lv_aload_n X.1 X.2.1 di_T_68 rfl (lv_at hl 0 rfl) (lv_aload_n X.1 X.2.1 di_T_69 rfl (lv_at hl 1 rfl) ?_)
  refine k_put X hin mff_T_36 rfl rfl (Nat.le_of_ble_eq_true rfl) di_T_70 hP hD hS (fun H locs hP hD hS => ?_)
  refine lv_aload_n X.1 X.2.1 di_T_73 rfl (lv_at hl 0 rfl) (lv_aload_n X.1 X.2.1 di_T_74 rfl (lv_at hl 2 rfl) ?_)
  refine k_put X hin mff_T_40 rfl rfl (Nat.le_of_ble_eq_true rfl) di_T_75 hP hD hS (fun H locs hP hD hS => ?_)
  exact fin _ _ _ _ 78 ⟨fun k => if k = 1 then h1 else if k = 2 then h2 else if k = 3 then h0 else if k = 16 then q0 else if k = 17 then q1 else if k = 18 then q2 else if k = 19 then q3 else if k = 20 then q4 else if k = 21 then q5 else if k = 22 then q6 else q7, rfl, rfl, rfl, rfl⟩ di_T_78 hP hD hS
