/-! CONSTRUCTORS: words and instructions, by program -/
theorem wa_I : (Jvm.Cond.arrayClass Jvm.ClassFile.FieldType.int) ∈ TB := TB1 (List.mem_of_getElem? (i := 76) (by decide +kernel)) rfl
theorem wo_i : (Jvm.Cond.instanceMethod ({ cls := "java/lang/Object", name := "<init>", desc := "()V" } : Jvm.MethodName)) ∈ TB := TB1 (List.mem_of_getElem? (i := 16) (by decide +kernel)) rfl
theorem wo_c : Cond.code Lib.objectInit ⟨#[0xb1]⟩ 1 none ∈ TB := TB1 (List.mem_of_getElem? (i := 17) rfl) rfl
abbrev M_O_init : mM := (⟨"PointsToRounds", "<init>", "()V"⟩, prog_1_method_1_code, 1, 3, none)
abbrev fsO : List Value := [.null, .null, .null]
theorem wc_O_init : (Jvm.Cond.code ({ cls := "PointsToRounds", name := "<init>", desc := "()V" } : Jvm.MethodName) prog_1_method_1_code (1 : Nat) (Option.none : Option Jvm.ClassFile.FieldType)) ∈ TB := TB1 (List.mem_of_getElem? (i := 14) rfl) rfl
theorem wn_O_init : (Jvm.Cond.instanceMethod ({ cls := "PointsToRounds", name := "<init>", desc := "()V" } : Jvm.MethodName)) ∈ TB := TB1 (List.mem_of_getElem? (i := 13) (by decide +kernel)) rfl
theorem mc_O : m_MC M_O_init 0 := ⟨⟨wc_O_init, wi_O, ⟨by decide +kernel, by decide +kernel, by decide +kernel⟩, by decide +kernel⟩, wn_O_init, rfl, rfl⟩
theorem wz_O : (Jvm.Cond.instantiable "PointsToRounds" (3 : Nat)) ∈ TB := TB1 (List.mem_of_getElem? (i := 11) (by decide +kernel)) rfl
theorem fd_O : ∀ j, j < 3 → defaultValue (tyO j) = vp_V fsO j := by decide +kernel
theorem di_O_0 : decode prog_1_method_1_code 0 = .ok (.aload_n 0, 1) := by decide +kernel
theorem di_O_1 : decode prog_1_method_1_code 1 = .ok (.invokespecial 3, 3) := by decide +kernel
theorem wki_O_3 : (Jvm.Cond.methodLink "PointsToRounds" (3 : Nat) ({ cls := "java/lang/Object", name := "<init>", desc := "()V" } : Jvm.MethodName)) ∈ TB := TB1 (List.mem_of_getElem? (i := 15) (by decide +kernel)) rfl
theorem di_O_4 : decode prog_1_method_1_code 4 = .ok (.aload_n 0, 1) := by decide +kernel
theorem di_O_5 : decode prog_1_method_1_code 5 = .ok (.new 9, 3) := by decide +kernel
theorem wcl_O_9 : (Jvm.Cond.classLink "PointsToRounds" (9 : Nat) "PointsToRounds$Program") ∈ TB := TB1 (List.mem_of_getElem? (i := 18) (by decide +kernel)) rfl
theorem di_O_8 : decode prog_1_method_1_code 8 = .ok (.dup, 1) := by decide +kernel
theorem di_O_9 : decode prog_1_method_1_code 9 = .ok (.invokespecial 11, 3) := by decide +kernel
theorem wki_O_11 : (Jvm.Cond.methodLink "PointsToRounds" (11 : Nat) ({ cls := "PointsToRounds$Program", name := "<init>", desc := "()V" } : Jvm.MethodName)) ∈ TB := TB1 (List.mem_of_getElem? (i := 20) (by decide +kernel)) rfl
theorem di_O_12 : decode prog_1_method_1_code 12 = .ok (.putfield 12, 3) := by decide +kernel
theorem wff_O_12 : (Jvm.Cond.fieldLink "PointsToRounds" (12 : Nat) "PointsToRounds" "program" "LPointsToRounds$Program;") ∈ TB := TB1 (List.mem_of_getElem? (i := 225) (by decide +kernel)) rfl
theorem mff_O_12 : m_Ff "PointsToRounds" 12 0 0 (.object "PointsToRounds$Program") := ⟨RO, TO, 3, tyO, rfl, inO, by decide, wff_O_12, tyO_ok, nmO, rfl, rfl, by decide +kernel⟩
theorem di_O_15 : decode prog_1_method_1_code 15 = .ok (.aload_n 0, 1) := by decide +kernel
theorem di_O_16 : decode prog_1_method_1_code 16 = .ok (.new 16, 3) := by decide +kernel
theorem wcl_O_16 : (Jvm.Cond.classLink "PointsToRounds" (16 : Nat) "PointsToRounds$Sets") ∈ TB := TB1 (List.mem_of_getElem? (i := 135) (by decide +kernel)) rfl
theorem di_O_19 : decode prog_1_method_1_code 19 = .ok (.dup, 1) := by decide +kernel
theorem di_O_20 : decode prog_1_method_1_code 20 = .ok (.aload_n 0, 1) := by decide +kernel
theorem di_O_21 : decode prog_1_method_1_code 21 = .ok (.getfield 12, 3) := by decide +kernel
theorem di_O_24 : decode prog_1_method_1_code 24 = .ok (.invokespecial 18, 3) := by decide +kernel
theorem wki_O_18 : (Jvm.Cond.methodLink "PointsToRounds" (18 : Nat) ({ cls := "PointsToRounds$Sets", name := "<init>", desc := "(LPointsToRounds$Program;)V" } : Jvm.MethodName)) ∈ TB := TB1 (List.mem_of_getElem? (i := 137) (by decide +kernel)) rfl
theorem di_O_27 : decode prog_1_method_1_code 27 = .ok (.putfield 21, 3) := by decide +kernel
theorem wff_O_21 : (Jvm.Cond.fieldLink "PointsToRounds" (21 : Nat) "PointsToRounds" "sets" "LPointsToRounds$Sets;") ∈ TB := TB1 (List.mem_of_getElem? (i := 226) (by decide +kernel)) rfl
theorem mff_O_21 : m_Ff "PointsToRounds" 21 0 1 (.object "PointsToRounds$Sets") := ⟨RO, TO, 3, tyO, rfl, inO, by decide, wff_O_21, tyO_ok, nmO, rfl, rfl, by decide +kernel⟩
theorem di_O_30 : decode prog_1_method_1_code 30 = .ok (.aload_n 0, 1) := by decide +kernel
theorem di_O_31 : decode prog_1_method_1_code 31 = .ok (.new 25, 3) := by decide +kernel
theorem wcl_O_25 : (Jvm.Cond.classLink "PointsToRounds" (25 : Nat) "PointsToRounds$Trial") ∈ TB := TB1 (List.mem_of_getElem? (i := 172) (by decide +kernel)) rfl
theorem di_O_34 : decode prog_1_method_1_code 34 = .ok (.dup, 1) := by decide +kernel
theorem di_O_35 : decode prog_1_method_1_code 35 = .ok (.aload_n 0, 1) := by decide +kernel
theorem di_O_36 : decode prog_1_method_1_code 36 = .ok (.getfield 12, 3) := by decide +kernel
theorem di_O_39 : decode prog_1_method_1_code 39 = .ok (.aload_n 0, 1) := by decide +kernel
theorem di_O_40 : decode prog_1_method_1_code 40 = .ok (.getfield 21, 3) := by decide +kernel
theorem di_O_43 : decode prog_1_method_1_code 43 = .ok (.invokespecial 27, 3) := by decide +kernel
theorem wki_O_27 : (Jvm.Cond.methodLink "PointsToRounds" (27 : Nat) ({ cls := "PointsToRounds$Trial", name := "<init>", desc := "(LPointsToRounds$Program;LPointsToRounds$Sets;)V" } : Jvm.MethodName)) ∈ TB := TB1 (List.mem_of_getElem? (i := 174) (by decide +kernel)) rfl
theorem di_O_46 : decode prog_1_method_1_code 46 = .ok (.putfield 30, 3) := by decide +kernel
theorem wff_O_30 : (Jvm.Cond.fieldLink "PointsToRounds" (30 : Nat) "PointsToRounds" "trial" "LPointsToRounds$Trial;") ∈ TB := TB1 (List.mem_of_getElem? (i := 227) (by decide +kernel)) rfl
theorem mff_O_30 : m_Ff "PointsToRounds" 30 0 2 (.object "PointsToRounds$Trial") := ⟨RO, TO, 3, tyO, rfl, inO, by decide, wff_O_30, tyO_ok, nmO, rfl, rfl, by decide +kernel⟩
theorem di_O_49 : decode prog_1_method_1_code 49 = .ok (.return_, 1) := by decide +kernel
abbrev M_P_init : mM := (⟨"PointsToRounds$Program", "<init>", "()V"⟩, prog_2_method_1_code, 2, 2, none)
abbrev fsP : List Value := [.int 0, .int 0, .int 0, .int 0, .int 0, .null, .null, .null, .null, .null, .null, .null, .null, .null, .null]
theorem wc_P_init : (Jvm.Cond.code ({ cls := "PointsToRounds$Program", name := "<init>", desc := "()V" } : Jvm.MethodName) prog_2_method_1_code (2 : Nat) (Option.none : Option Jvm.ClassFile.FieldType)) ∈ TB := TB1 (List.mem_of_getElem? (i := 22) rfl) rfl
theorem wn_P_init : (Jvm.Cond.instanceMethod ({ cls := "PointsToRounds$Program", name := "<init>", desc := "()V" } : Jvm.MethodName)) ∈ TB := TB1 (List.mem_of_getElem? (i := 21) (by decide +kernel)) rfl
theorem mc_P : m_MC M_P_init 0 := ⟨⟨wc_P_init, wi_P, ⟨by decide +kernel, by decide +kernel, by decide +kernel⟩, by decide +kernel⟩, wn_P_init, rfl, rfl⟩
theorem wz_P : (Jvm.Cond.instantiable "PointsToRounds$Program" (15 : Nat)) ∈ TB := TB1 (List.mem_of_getElem? (i := 19) (by decide +kernel)) rfl
theorem fd_P : ∀ j, j < 15 → defaultValue (tyP j) = vp_V fsP j := by decide +kernel
theorem di_P_0 : decode prog_2_method_1_code 0 = .ok (.aload_n 0, 1) := by decide +kernel
theorem di_P_1 : decode prog_2_method_1_code 1 = .ok (.invokespecial 3, 3) := by decide +kernel
theorem wki_P_3 : (Jvm.Cond.methodLink "PointsToRounds$Program" (3 : Nat) ({ cls := "java/lang/Object", name := "<init>", desc := "()V" } : Jvm.MethodName)) ∈ TB := TB1 (List.mem_of_getElem? (i := 23) (by decide +kernel)) rfl
theorem di_P_4 : decode prog_2_method_1_code 4 = .ok (.aload_n 0, 1) := by decide +kernel
theorem di_P_5 : decode prog_2_method_1_code 5 = .ok (.bipush 8, 2) := by decide +kernel
theorem di_P_7 : decode prog_2_method_1_code 7 = .ok (.newarray .int, 2) := by decide +kernel
theorem di_P_9 : decode prog_2_method_1_code 9 = .ok (.putfield 9, 3) := by decide +kernel
theorem wff_P_9 : (Jvm.Cond.fieldLink "PointsToRounds$Program" (9 : Nat) "PointsToRounds$Program" "parent" "[I") ∈ TB := TB1 (List.mem_of_getElem? (i := 88) (by decide +kernel)) rfl
theorem mff_P_9 : m_Ff "PointsToRounds$Program" 9 1 5 (.array .int) := ⟨RP, TP, 15, tyP, rfl, inP, by decide, wff_P_9, tyP_ok, nmP, rfl, rfl, by decide +kernel⟩
theorem di_P_12 : decode prog_2_method_1_code 12 = .ok (.aload_n 0, 1) := by decide +kernel
theorem di_P_13 : decode prog_2_method_1_code 13 = .ok (.bipush 8, 2) := by decide +kernel
theorem di_P_15 : decode prog_2_method_1_code 15 = .ok (.newarray .int, 2) := by decide +kernel
theorem di_P_17 : decode prog_2_method_1_code 17 = .ok (.putfield 15, 3) := by decide +kernel
theorem wff_P_15 : (Jvm.Cond.fieldLink "PointsToRounds$Program" (15 : Nat) "PointsToRounds$Program" "above" "[I") ∈ TB := TB1 (List.mem_of_getElem? (i := 89) (by decide +kernel)) rfl
theorem mff_P_15 : m_Ff "PointsToRounds$Program" 15 1 6 (.array .int) := ⟨RP, TP, 15, tyP, rfl, inP, by decide, wff_P_15, tyP_ok, nmP, rfl, rfl, by decide +kernel⟩
theorem di_P_20 : decode prog_2_method_1_code 20 = .ok (.aload_n 0, 1) := by decide +kernel
theorem di_P_21 : decode prog_2_method_1_code 21 = .ok (.bipush 8, 2) := by decide +kernel
theorem di_P_23 : decode prog_2_method_1_code 23 = .ok (.newarray .int, 2) := by decide +kernel
theorem di_P_25 : decode prog_2_method_1_code 25 = .ok (.putfield 18, 3) := by decide +kernel
theorem wff_P_18 : (Jvm.Cond.fieldLink "PointsToRounds$Program" (18 : Nat) "PointsToRounds$Program" "sitesUnder" "[I") ∈ TB := TB1 (List.mem_of_getElem? (i := 90) (by decide +kernel)) rfl
theorem mff_P_18 : m_Ff "PointsToRounds$Program" 18 1 7 (.array .int) := ⟨RP, TP, 15, tyP, rfl, inP, by decide, wff_P_18, tyP_ok, nmP, rfl, rfl, by decide +kernel⟩
theorem di_P_28 : decode prog_2_method_1_code 28 = .ok (.aload_n 0, 1) := by decide +kernel
theorem di_P_29 : decode prog_2_method_1_code 29 = .ok (.bipush 32, 2) := by decide +kernel
theorem di_P_31 : decode prog_2_method_1_code 31 = .ok (.newarray .int, 2) := by decide +kernel
theorem di_P_33 : decode prog_2_method_1_code 33 = .ok (.putfield 21, 3) := by decide +kernel
theorem wff_P_21 : (Jvm.Cond.fieldLink "PointsToRounds$Program" (21 : Nat) "PointsToRounds$Program" "own" "[I") ∈ TB := TB1 (List.mem_of_getElem? (i := 94) (by decide +kernel)) rfl
theorem mff_P_21 : m_Ff "PointsToRounds$Program" 21 1 8 (.array .int) := ⟨RP, TP, 15, tyP, rfl, inP, by decide, wff_P_21, tyP_ok, nmP, rfl, rfl, by decide +kernel⟩
theorem di_P_36 : decode prog_2_method_1_code 36 = .ok (.aload_n 0, 1) := by decide +kernel
theorem di_P_37 : decode prog_2_method_1_code 37 = .ok (.bipush 32, 2) := by decide +kernel
theorem di_P_39 : decode prog_2_method_1_code 39 = .ok (.newarray .int, 2) := by decide +kernel
theorem di_P_41 : decode prog_2_method_1_code 41 = .ok (.putfield 24, 3) := by decide +kernel
theorem wff_P_24 : (Jvm.Cond.fieldLink "PointsToRounds$Program" (24 : Nat) "PointsToRounds$Program" "found" "[I") ∈ TB := TB1 (List.mem_of_getElem? (i := 95) (by decide +kernel)) rfl
theorem mff_P_24 : m_Ff "PointsToRounds$Program" 24 1 9 (.array .int) := ⟨RP, TP, 15, tyP, rfl, inP, by decide, wff_P_24, tyP_ok, nmP, rfl, rfl, by decide +kernel⟩
theorem di_P_44 : decode prog_2_method_1_code 44 = .ok (.aload_n 0, 1) := by decide +kernel
theorem di_P_45 : decode prog_2_method_1_code 45 = .ok (.bipush 8, 2) := by decide +kernel
theorem di_P_47 : decode prog_2_method_1_code 47 = .ok (.newarray .int, 2) := by decide +kernel
theorem di_P_49 : decode prog_2_method_1_code 49 = .ok (.putfield 27, 3) := by decide +kernel
theorem wff_P_27 : (Jvm.Cond.fieldLink "PointsToRounds$Program" (27 : Nat) "PointsToRounds$Program" "fieldClass" "[I") ∈ TB := TB1 (List.mem_of_getElem? (i := 96) (by decide +kernel)) rfl
theorem mff_P_27 : m_Ff "PointsToRounds$Program" 27 1 10 (.array .int) := ⟨RP, TP, 15, tyP, rfl, inP, by decide, wff_P_27, tyP_ok, nmP, rfl, rfl, by decide +kernel⟩
theorem di_P_52 : decode prog_2_method_1_code 52 = .ok (.aload_n 0, 1) := by decide +kernel
theorem di_P_53 : decode prog_2_method_1_code 53 = .ok (.bipush 20, 2) := by decide +kernel
theorem di_P_55 : decode prog_2_method_1_code 55 = .ok (.newarray .int, 2) := by decide +kernel
theorem di_P_57 : decode prog_2_method_1_code 57 = .ok (.putfield 30, 3) := by decide +kernel
theorem wff_P_30 : (Jvm.Cond.fieldLink "PointsToRounds$Program" (30 : Nat) "PointsToRounds$Program" "siteClass" "[I") ∈ TB := TB1 (List.mem_of_getElem? (i := 97) (by decide +kernel)) rfl
theorem mff_P_30 : m_Ff "PointsToRounds$Program" 30 1 11 (.array .int) := ⟨RP, TP, 15, tyP, rfl, inP, by decide, wff_P_30, tyP_ok, nmP, rfl, rfl, by decide +kernel⟩
theorem di_P_60 : decode prog_2_method_1_code 60 = .ok (.aload_n 0, 1) := by decide +kernel
theorem di_P_61 : decode prog_2_method_1_code 61 = .ok (.bipush 60, 2) := by decide +kernel
theorem di_P_63 : decode prog_2_method_1_code 63 = .ok (.anewarray 33, 3) := by decide +kernel
theorem wcl_P_33 : (Jvm.Cond.classLink "PointsToRounds$Program" (33 : Nat) "PointsToRounds$Statement") ∈ TB := TB1 (List.mem_of_getElem? (i := 24) (by decide +kernel)) rfl
theorem di_P_66 : decode prog_2_method_1_code 66 = .ok (.putfield 35, 3) := by decide +kernel
theorem wff_P_35 : (Jvm.Cond.fieldLink "PointsToRounds$Program" (35 : Nat) "PointsToRounds$Program" "numbered" "[LPointsToRounds$Statement;") ∈ TB := TB1 (List.mem_of_getElem? (i := 98) (by decide +kernel)) rfl
theorem mff_P_35 : m_Ff "PointsToRounds$Program" 35 1 12 (.array (.object "PointsToRounds$Statement")) := ⟨RP, TP, 15, tyP, rfl, inP, by decide, wff_P_35, tyP_ok, nmP, rfl, rfl, by decide +kernel⟩
theorem di_P_69 : decode prog_2_method_1_code 69 = .ok (.aload_n 0, 1) := by decide +kernel
theorem di_P_70 : decode prog_2_method_1_code 70 = .ok (.bipush 10, 2) := by decide +kernel
theorem di_P_72 : decode prog_2_method_1_code 72 = .ok (.newarray .int, 2) := by decide +kernel
theorem di_P_74 : decode prog_2_method_1_code 74 = .ok (.putfield 39, 3) := by decide +kernel
theorem wff_P_39 : (Jvm.Cond.fieldLink "PointsToRounds$Program" (39 : Nat) "PointsToRounds$Program" "length" "[I") ∈ TB := TB1 (List.mem_of_getElem? (i := 100) (by decide +kernel)) rfl
theorem mff_P_39 : m_Ff "PointsToRounds$Program" 39 1 13 (.array .int) := ⟨RP, TP, 15, tyP, rfl, inP, by decide, wff_P_39, tyP_ok, nmP, rfl, rfl, by decide +kernel⟩
theorem di_P_77 : decode prog_2_method_1_code 77 = .ok (.aload_n 0, 1) := by decide +kernel
theorem di_P_78 : decode prog_2_method_1_code 78 = .ok (.sipush 600, 3) := by decide +kernel
theorem di_P_81 : decode prog_2_method_1_code 81 = .ok (.newarray .int, 2) := by decide +kernel
theorem di_P_83 : decode prog_2_method_1_code 83 = .ok (.putfield 42, 3) := by decide +kernel
theorem wff_P_42 : (Jvm.Cond.fieldLink "PointsToRounds$Program" (42 : Nat) "PointsToRounds$Program" "order" "[I") ∈ TB := TB1 (List.mem_of_getElem? (i := 103) (by decide +kernel)) rfl
theorem mff_P_42 : m_Ff "PointsToRounds$Program" 42 1 14 (.array .int) := ⟨RP, TP, 15, tyP, rfl, inP, by decide, wff_P_42, tyP_ok, nmP, rfl, rfl, by decide +kernel⟩
theorem di_P_86 : decode prog_2_method_1_code 86 = .ok (.iconst 0, 1) := by decide +kernel
theorem di_P_87 : decode prog_2_method_1_code 87 = .ok (.istore_n 1, 1) := by decide +kernel
theorem di_P_88 : decode prog_2_method_1_code 88 = .ok (.iload_n 1, 1) := by decide +kernel
theorem di_P_89 : decode prog_2_method_1_code 89 = .ok (.bipush 60, 2) := by decide +kernel
theorem di_P_91 : decode prog_2_method_1_code 91 = .ok (.if_icmp .ge 22, 3) := by decide +kernel
theorem di_P_94 : decode prog_2_method_1_code 94 = .ok (.aload_n 0, 1) := by decide +kernel
theorem di_P_95 : decode prog_2_method_1_code 95 = .ok (.getfield 35, 3) := by decide +kernel
theorem di_P_98 : decode prog_2_method_1_code 98 = .ok (.iload_n 1, 1) := by decide +kernel
theorem di_P_99 : decode prog_2_method_1_code 99 = .ok (.new 33, 3) := by decide +kernel
theorem di_P_102 : decode prog_2_method_1_code 102 = .ok (.dup, 1) := by decide +kernel
theorem di_P_103 : decode prog_2_method_1_code 103 = .ok (.invokespecial 45, 3) := by decide +kernel
theorem wki_P_45 : Cond.methodLinkNest "PointsToRounds$Program" 45 ⟨"PointsToRounds$Statement", "<init>", "()V"⟩ "PointsToRounds" ∈ NW := by decide +kernel
theorem di_P_106 : decode prog_2_method_1_code 106 = .ok (.aastore, 1) := by decide +kernel
theorem di_P_107 : decode prog_2_method_1_code 107 = .ok (.iinc 1 1, 3) := by decide +kernel
theorem di_P_110 : decode prog_2_method_1_code 110 = .ok (.goto (-22), 3) := by decide +kernel
theorem di_P_113 : decode prog_2_method_1_code 113 = .ok (.return_, 1) := by decide +kernel
abbrev M_S_init : mM := (⟨"PointsToRounds$Sets", "<init>", "(LPointsToRounds$Program;)V"⟩, prog_3_method_1_code, 2, 1, none)
abbrev fsS : List Value := [.null, .null, .null, .null, .int 0, .int 0, .int 0, .int 0, .int 0]
theorem wc_S_init : (Jvm.Cond.code ({ cls := "PointsToRounds$Sets", name := "<init>", desc := "(LPointsToRounds$Program;)V" } : Jvm.MethodName) prog_3_method_1_code (2 : Nat) (Option.none : Option Jvm.ClassFile.FieldType)) ∈ TB := TB1 (List.mem_of_getElem? (i := 139) rfl) rfl
theorem wn_S_init : (Jvm.Cond.instanceMethod ({ cls := "PointsToRounds$Sets", name := "<init>", desc := "(LPointsToRounds$Program;)V" } : Jvm.MethodName)) ∈ TB := TB1 (List.mem_of_getElem? (i := 138) (by decide +kernel)) rfl
theorem mc_S : m_MC M_S_init 1 := ⟨⟨wc_S_init, wi_S, ⟨by decide +kernel, by decide +kernel, by decide +kernel⟩, by decide +kernel⟩, wn_S_init, rfl, rfl⟩
theorem wz_S : (Jvm.Cond.instantiable "PointsToRounds$Sets" (9 : Nat)) ∈ TB := TB1 (List.mem_of_getElem? (i := 136) (by decide +kernel)) rfl
theorem fd_S : ∀ j, j < 9 → defaultValue (tyS j) = vp_V fsS j := by decide +kernel
theorem di_S_0 : decode prog_3_method_1_code 0 = .ok (.aload_n 0, 1) := by decide +kernel
theorem di_S_1 : decode prog_3_method_1_code 1 = .ok (.invokespecial 3, 3) := by decide +kernel
theorem wki_S_3 : (Jvm.Cond.methodLink "PointsToRounds$Sets" (3 : Nat) ({ cls := "java/lang/Object", name := "<init>", desc := "()V" } : Jvm.MethodName)) ∈ TB := TB1 (List.mem_of_getElem? (i := 140) (by decide +kernel)) rfl
theorem di_S_4 : decode prog_3_method_1_code 4 = .ok (.aload_n 0, 1) := by decide +kernel
theorem di_S_5 : decode prog_3_method_1_code 5 = .ok (.sipush 1454, 3) := by decide +kernel
theorem di_S_8 : decode prog_3_method_1_code 8 = .ok (.newarray .int, 2) := by decide +kernel
theorem di_S_10 : decode prog_3_method_1_code 10 = .ok (.putfield 9, 3) := by decide +kernel
theorem wff_S_9 : (Jvm.Cond.fieldLink "PointsToRounds$Sets" (9 : Nat) "PointsToRounds$Sets" "before" "[I") ∈ TB := TB1 (List.mem_of_getElem? (i := 142) (by decide +kernel)) rfl
theorem mff_S_9 : m_Ff "PointsToRounds$Sets" 9 2 1 (.array .int) := ⟨RS, TS, 9, tyS, rfl, inS, by decide, wff_S_9, tyS_ok, nmS, rfl, rfl, by decide +kernel⟩
theorem di_S_13 : decode prog_3_method_1_code 13 = .ok (.aload_n 0, 1) := by decide +kernel
theorem di_S_14 : decode prog_3_method_1_code 14 = .ok (.sipush 1454, 3) := by decide +kernel
theorem di_S_17 : decode prog_3_method_1_code 17 = .ok (.newarray .int, 2) := by decide +kernel
theorem di_S_19 : decode prog_3_method_1_code 19 = .ok (.putfield 15, 3) := by decide +kernel
theorem wff_S_15 : (Jvm.Cond.fieldLink "PointsToRounds$Sets" (15 : Nat) "PointsToRounds$Sets" "now" "[I") ∈ TB := TB1 (List.mem_of_getElem? (i := 143) (by decide +kernel)) rfl
theorem mff_S_15 : m_Ff "PointsToRounds$Sets" 15 2 2 (.array .int) := ⟨RS, TS, 9, tyS, rfl, inS, by decide, wff_S_15, tyS_ok, nmS, rfl, rfl, by decide +kernel⟩
theorem di_S_22 : decode prog_3_method_1_code 22 = .ok (.aload_n 0, 1) := by decide +kernel
theorem di_S_23 : decode prog_3_method_1_code 23 = .ok (.sipush 1200, 3) := by decide +kernel
theorem di_S_26 : decode prog_3_method_1_code 26 = .ok (.newarray .int, 2) := by decide +kernel
theorem di_S_28 : decode prog_3_method_1_code 28 = .ok (.putfield 18, 3) := by decide +kernel
theorem wff_S_18 : (Jvm.Cond.fieldLink "PointsToRounds$Sets" (18 : Nat) "PointsToRounds$Sets" "cameAt" "[I") ∈ TB := TB1 (List.mem_of_getElem? (i := 144) (by decide +kernel)) rfl
theorem mff_S_18 : m_Ff "PointsToRounds$Sets" 18 2 3 (.array .int) := ⟨RS, TS, 9, tyS, rfl, inS, by decide, wff_S_18, tyS_ok, nmS, rfl, rfl, by decide +kernel⟩
theorem di_S_31 : decode prog_3_method_1_code 31 = .ok (.aload_n 0, 1) := by decide +kernel
theorem di_S_32 : decode prog_3_method_1_code 32 = .ok (.aload_n 1, 1) := by decide +kernel
theorem di_S_33 : decode prog_3_method_1_code 33 = .ok (.putfield 21, 3) := by decide +kernel
theorem wff_S_21 : (Jvm.Cond.fieldLink "PointsToRounds$Sets" (21 : Nat) "PointsToRounds$Sets" "program" "LPointsToRounds$Program;") ∈ TB := TB1 (List.mem_of_getElem? (i := 141) (by decide +kernel)) rfl
theorem mff_S_21 : m_Ff "PointsToRounds$Sets" 21 2 0 (.object "PointsToRounds$Program") := ⟨RS, TS, 9, tyS, rfl, inS, by decide, wff_S_21, tyS_ok, nmS, rfl, rfl, by decide +kernel⟩
theorem di_S_36 : decode prog_3_method_1_code 36 = .ok (.return_, 1) := by decide +kernel
abbrev M_T_init : mM := (⟨"PointsToRounds$Trial", "<init>", "(LPointsToRounds$Program;LPointsToRounds$Sets;)V"⟩, prog_5_method_1_code, 3, 1, none)
abbrev fsT : List Value := [.null, .null, .null, .null, .null, .null, .null, .null, .null, .null, .int 0, .int 0, .int 0, .int 0]
theorem wc_T_init : (Jvm.Cond.code ({ cls := "PointsToRounds$Trial", name := "<init>", desc := "(LPointsToRounds$Program;LPointsToRounds$Sets;)V" } : Jvm.MethodName) prog_5_method_1_code (3 : Nat) (Option.none : Option Jvm.ClassFile.FieldType)) ∈ TB := TB1 (List.mem_of_getElem? (i := 176) rfl) rfl
theorem wn_T_init : (Jvm.Cond.instanceMethod ({ cls := "PointsToRounds$Trial", name := "<init>", desc := "(LPointsToRounds$Program;LPointsToRounds$Sets;)V" } : Jvm.MethodName)) ∈ TB := TB1 (List.mem_of_getElem? (i := 175) (by decide +kernel)) rfl
theorem mc_T : m_MC M_T_init 2 := ⟨⟨wc_T_init, wi_T, ⟨by decide +kernel, by decide +kernel, by decide +kernel⟩, by decide +kernel⟩, wn_T_init, rfl, rfl⟩
theorem wz_T : (Jvm.Cond.instantiable "PointsToRounds$Trial" (14 : Nat)) ∈ TB := TB1 (List.mem_of_getElem? (i := 173) (by decide +kernel)) rfl
theorem fd_T : ∀ j, j < 14 → defaultValue (tyT j) = vp_V fsT j := by decide +kernel
theorem di_T_0 : decode prog_5_method_1_code 0 = .ok (.aload_n 0, 1) := by decide +kernel
theorem di_T_1 : decode prog_5_method_1_code 1 = .ok (.invokespecial 3, 3) := by decide +kernel
theorem wki_T_3 : (Jvm.Cond.methodLink "PointsToRounds$Trial" (3 : Nat) ({ cls := "java/lang/Object", name := "<init>", desc := "()V" } : Jvm.MethodName)) ∈ TB := TB1 (List.mem_of_getElem? (i := 177) (by decide +kernel)) rfl
theorem di_T_4 : decode prog_5_method_1_code 4 = .ok (.aload_n 0, 1) := by decide +kernel
theorem di_T_5 : decode prog_5_method_1_code 5 = .ok (.bipush 30, 2) := by decide +kernel
theorem di_T_7 : decode prog_5_method_1_code 7 = .ok (.newarray .int, 2) := by decide +kernel
theorem di_T_9 : decode prog_5_method_1_code 9 = .ok (.putfield 9, 3) := by decide +kernel
theorem wff_T_9 : (Jvm.Cond.fieldLink "PointsToRounds$Trial" (9 : Nat) "PointsToRounds$Trial" "siteOf" "[I") ∈ TB := TB1 (List.mem_of_getElem? (i := 180) (by decide +kernel)) rfl
theorem mff_T_9 : m_Ff "PointsToRounds$Trial" 9 3 2 (.array .int) := ⟨RT, TT, 14, tyT, rfl, inT, by decide, wff_T_9, tyT_ok, nmT, rfl, rfl, by decide +kernel⟩
theorem di_T_12 : decode prog_5_method_1_code 12 = .ok (.aload_n 0, 1) := by decide +kernel
theorem di_T_13 : decode prog_5_method_1_code 13 = .ok (.sipush 270, 3) := by decide +kernel
theorem di_T_16 : decode prog_5_method_1_code 16 = .ok (.newarray .int, 2) := by decide +kernel
theorem di_T_18 : decode prog_5_method_1_code 18 = .ok (.putfield 15, 3) := by decide +kernel
theorem wff_T_15 : (Jvm.Cond.fieldLink "PointsToRounds$Trial" (15 : Nat) "PointsToRounds$Trial" "slots" "[I") ∈ TB := TB1 (List.mem_of_getElem? (i := 181) (by decide +kernel)) rfl
theorem mff_T_15 : m_Ff "PointsToRounds$Trial" 15 3 3 (.array .int) := ⟨RT, TT, 14, tyT, rfl, inT, by decide, wff_T_15, tyT_ok, nmT, rfl, rfl, by decide +kernel⟩
theorem di_T_21 : decode prog_5_method_1_code 21 = .ok (.aload_n 0, 1) := by decide +kernel
theorem di_T_22 : decode prog_5_method_1_code 22 = .ok (.iconst 4, 1) := by decide +kernel
theorem di_T_23 : decode prog_5_method_1_code 23 = .ok (.newarray .int, 2) := by decide +kernel
theorem di_T_25 : decode prog_5_method_1_code 25 = .ok (.putfield 18, 3) := by decide +kernel
theorem wff_T_18 : (Jvm.Cond.fieldLink "PointsToRounds$Trial" (18 : Nat) "PointsToRounds$Trial" "statics" "[I") ∈ TB := TB1 (List.mem_of_getElem? (i := 182) (by decide +kernel)) rfl
theorem mff_T_18 : m_Ff "PointsToRounds$Trial" 18 3 4 (.array .int) := ⟨RT, TT, 14, tyT, rfl, inT, by decide, wff_T_18, tyT_ok, nmT, rfl, rfl, by decide +kernel⟩
theorem di_T_28 : decode prog_5_method_1_code 28 = .ok (.aload_n 0, 1) := by decide +kernel
theorem di_T_29 : decode prog_5_method_1_code 29 = .ok (.bipush 60, 2) := by decide +kernel
theorem di_T_31 : decode prog_5_method_1_code 31 = .ok (.newarray .int, 2) := by decide +kernel
theorem di_T_33 : decode prog_5_method_1_code 33 = .ok (.putfield 21, 3) := by decide +kernel
theorem wff_T_21 : (Jvm.Cond.fieldLink "PointsToRounds$Trial" (21 : Nat) "PointsToRounds$Trial" "names" "[I") ∈ TB := TB1 (List.mem_of_getElem? (i := 183) (by decide +kernel)) rfl
theorem mff_T_21 : m_Ff "PointsToRounds$Trial" 21 3 5 (.array .int) := ⟨RT, TT, 14, tyT, rfl, inT, by decide, wff_T_21, tyT_ok, nmT, rfl, rfl, by decide +kernel⟩
theorem di_T_36 : decode prog_5_method_1_code 36 = .ok (.aload_n 0, 1) := by decide +kernel
theorem di_T_37 : decode prog_5_method_1_code 37 = .ok (.bipush 10, 2) := by decide +kernel
theorem di_T_39 : decode prog_5_method_1_code 39 = .ok (.newarray .int, 2) := by decide +kernel
theorem di_T_41 : decode prog_5_method_1_code 41 = .ok (.putfield 24, 3) := by decide +kernel
theorem wff_T_24 : (Jvm.Cond.fieldLink "PointsToRounds$Trial" (24 : Nat) "PointsToRounds$Trial" "frameMethod" "[I") ∈ TB := TB1 (List.mem_of_getElem? (i := 184) (by decide +kernel)) rfl
theorem mff_T_24 : m_Ff "PointsToRounds$Trial" 24 3 6 (.array .int) := ⟨RT, TT, 14, tyT, rfl, inT, by decide, wff_T_24, tyT_ok, nmT, rfl, rfl, by decide +kernel⟩
theorem di_T_44 : decode prog_5_method_1_code 44 = .ok (.aload_n 0, 1) := by decide +kernel
theorem di_T_45 : decode prog_5_method_1_code 45 = .ok (.bipush 10, 2) := by decide +kernel
theorem di_T_47 : decode prog_5_method_1_code 47 = .ok (.newarray .int, 2) := by decide +kernel
theorem di_T_49 : decode prog_5_method_1_code 49 = .ok (.putfield 27, 3) := by decide +kernel
theorem wff_T_27 : (Jvm.Cond.fieldLink "PointsToRounds$Trial" (27 : Nat) "PointsToRounds$Trial" "frameContext" "[I") ∈ TB := TB1 (List.mem_of_getElem? (i := 185) (by decide +kernel)) rfl
theorem mff_T_27 : m_Ff "PointsToRounds$Trial" 27 3 7 (.array .int) := ⟨RT, TT, 14, tyT, rfl, inT, by decide, wff_T_27, tyT_ok, nmT, rfl, rfl, by decide +kernel⟩
theorem di_T_52 : decode prog_5_method_1_code 52 = .ok (.aload_n 0, 1) := by decide +kernel
theorem di_T_53 : decode prog_5_method_1_code 53 = .ok (.bipush 10, 2) := by decide +kernel
theorem di_T_55 : decode prog_5_method_1_code 55 = .ok (.newarray .int, 2) := by decide +kernel
theorem di_T_57 : decode prog_5_method_1_code 57 = .ok (.putfield 30, 3) := by decide +kernel
theorem wff_T_30 : (Jvm.Cond.fieldLink "PointsToRounds$Trial" (30 : Nat) "PointsToRounds$Trial" "frameTarget" "[I") ∈ TB := TB1 (List.mem_of_getElem? (i := 186) (by decide +kernel)) rfl
theorem mff_T_30 : m_Ff "PointsToRounds$Trial" 30 3 8 (.array .int) := ⟨RT, TT, 14, tyT, rfl, inT, by decide, wff_T_30, tyT_ok, nmT, rfl, rfl, by decide +kernel⟩
theorem di_T_60 : decode prog_5_method_1_code 60 = .ok (.aload_n 0, 1) := by decide +kernel
theorem di_T_61 : decode prog_5_method_1_code 61 = .ok (.bipush 60, 2) := by decide +kernel
theorem di_T_63 : decode prog_5_method_1_code 63 = .ok (.newarray .int, 2) := by decide +kernel
theorem di_T_65 : decode prog_5_method_1_code 65 = .ok (.putfield 33, 3) := by decide +kernel
theorem wff_T_33 : (Jvm.Cond.fieldLink "PointsToRounds$Trial" (33 : Nat) "PointsToRounds$Trial" "metSites" "[I") ∈ TB := TB1 (List.mem_of_getElem? (i := 187) (by decide +kernel)) rfl
theorem mff_T_33 : m_Ff "PointsToRounds$Trial" 33 3 9 (.array .int) := ⟨RT, TT, 14, tyT, rfl, inT, by decide, wff_T_33, tyT_ok, nmT, rfl, rfl, by decide +kernel⟩
theorem di_T_68 : decode prog_5_method_1_code 68 = .ok (.aload_n 0, 1) := by decide +kernel
theorem di_T_69 : decode prog_5_method_1_code 69 = .ok (.aload_n 1, 1) := by decide +kernel
theorem di_T_70 : decode prog_5_method_1_code 70 = .ok (.putfield 36, 3) := by decide +kernel
theorem wff_T_36 : (Jvm.Cond.fieldLink "PointsToRounds$Trial" (36 : Nat) "PointsToRounds$Trial" "program" "LPointsToRounds$Program;") ∈ TB := TB1 (List.mem_of_getElem? (i := 178) (by decide +kernel)) rfl
theorem mff_T_36 : m_Ff "PointsToRounds$Trial" 36 3 0 (.object "PointsToRounds$Program") := ⟨RT, TT, 14, tyT, rfl, inT, by decide, wff_T_36, tyT_ok, nmT, rfl, rfl, by decide +kernel⟩
theorem di_T_73 : decode prog_5_method_1_code 73 = .ok (.aload_n 0, 1) := by decide +kernel
theorem di_T_74 : decode prog_5_method_1_code 74 = .ok (.aload_n 2, 1) := by decide +kernel
theorem di_T_75 : decode prog_5_method_1_code 75 = .ok (.putfield 40, 3) := by decide +kernel
theorem wff_T_40 : (Jvm.Cond.fieldLink "PointsToRounds$Trial" (40 : Nat) "PointsToRounds$Trial" "sets" "LPointsToRounds$Sets;") ∈ TB := TB1 (List.mem_of_getElem? (i := 179) (by decide +kernel)) rfl
theorem mff_T_40 : m_Ff "PointsToRounds$Trial" 40 3 1 (.object "PointsToRounds$Sets") := ⟨RT, TT, 14, tyT, rfl, inT, by decide, wff_T_40, tyT_ok, nmT, rfl, rfl, by decide +kernel⟩
theorem di_T_78 : decode prog_5_method_1_code 78 = .ok (.return_, 1) := by decide +kernel
abbrev M_G_init : mM := (⟨"PointsToRounds$Statement", "<init>", "()V"⟩, prog_4_method_1_code, 1, 1, none)
abbrev fsG : List Value := [.int 0, .int 0, .int 0, .int 0, .int 0, .int 0, .int 0, .int 0]
theorem wc_G_init : (Jvm.Cond.code ({ cls := "PointsToRounds$Statement", name := "<init>", desc := "()V" } : Jvm.MethodName) prog_4_method_1_code (1 : Nat) (Option.none : Option Jvm.ClassFile.FieldType)) ∈ TB := TB1 (List.mem_of_getElem? (i := 29) rfl) rfl
theorem wn_G_init : (Jvm.Cond.instanceMethod ({ cls := "PointsToRounds$Statement", name := "<init>", desc := "()V" } : Jvm.MethodName)) ∈ TB := TB1 (List.mem_of_getElem? (i := 28) (by decide +kernel)) rfl
theorem mc_G : m_MC M_G_init 0 := ⟨⟨wc_G_init, wi_G, ⟨by decide +kernel, by decide +kernel, by decide +kernel⟩, by decide +kernel⟩, wn_G_init, rfl, rfl⟩
theorem wz_G : (Jvm.Cond.instantiable "PointsToRounds$Statement" (8 : Nat)) ∈ TB := TB1 (List.mem_of_getElem? (i := 26) (by decide +kernel)) rfl
theorem fd_G : ∀ j, j < 8 → defaultValue (tyG j) = vp_V fsG j := by decide +kernel
theorem di_G_0 : decode prog_4_method_1_code 0 = .ok (.aload_n 0, 1) := by decide +kernel
theorem di_G_1 : decode prog_4_method_1_code 1 = .ok (.invokespecial 1, 3) := by decide +kernel
theorem wki_G_1 : (Jvm.Cond.methodLink "PointsToRounds$Statement" (1 : Nat) ({ cls := "java/lang/Object", name := "<init>", desc := "()V" } : Jvm.MethodName)) ∈ TB := TB1 (List.mem_of_getElem? (i := 30) (by decide +kernel)) rfl
theorem di_G_4 : decode prog_4_method_1_code 4 = .ok (.return_, 1) := by decide +kernel
abbrev M_M_init : mM := (⟨"PointsToRoundsModel", "<init>", "()V"⟩, prog_7_method_1_code, 1, 1, none)
abbrev fsM : List Value := [.int 0, .null, .int 0, .null, .int 0, .null, .null, .int 0, .null, .null, .null, .null, .null, .null, .null, .null, .int 0, .null, .int 0, .int 0, .null, .null, .null, .null, .null, .null, .null, .null, .null, .null, .null, .int 0, .int 0, .null, .null, .null, .null, .int 0, .null, .null, .null, .null, .null, .int 0]
theorem wc_M_init : (Jvm.Cond.code ({ cls := "PointsToRoundsModel", name := "<init>", desc := "()V" } : Jvm.MethodName) prog_7_method_1_code (1 : Nat) (Option.none : Option Jvm.ClassFile.FieldType)) ∈ TB := TB3 (List.mem_of_getElem? (i := 84) rfl) rfl
theorem wn_M_init : (Jvm.Cond.instanceMethod ({ cls := "PointsToRoundsModel", name := "<init>", desc := "()V" } : Jvm.MethodName)) ∈ TB := TB3 (List.mem_of_getElem? (i := 83) (by decide +kernel)) rfl
theorem mc_M : m_MC M_M_init 0 := ⟨⟨wc_M_init, wi_M, ⟨by decide +kernel, by decide +kernel, by decide +kernel⟩, by decide +kernel⟩, wn_M_init, rfl, rfl⟩
theorem wz_M : (Jvm.Cond.instantiable "PointsToRoundsModel" (44 : Nat)) ∈ TB := TB3 (List.mem_of_getElem? (i := 81) (by decide +kernel)) rfl
theorem fd_M : ∀ j, j < 44 → defaultValue (tyM j) = vp_V fsM j := by decide +kernel
theorem di_M_0 : decode prog_7_method_1_code 0 = .ok (.aload_n 0, 1) := by decide +kernel
theorem di_M_1 : decode prog_7_method_1_code 1 = .ok (.invokespecial 1, 3) := by decide +kernel
theorem wki_M_1 : (Jvm.Cond.methodLink "PointsToRoundsModel" (1 : Nat) ({ cls := "java/lang/Object", name := "<init>", desc := "()V" } : Jvm.MethodName)) ∈ TB := TB3 (List.mem_of_getElem? (i := 85) (by decide +kernel)) rfl
theorem di_M_4 : decode prog_7_method_1_code 4 = .ok (.aload_n 0, 1) := by decide +kernel
theorem di_M_5 : decode prog_7_method_1_code 5 = .ok (.bipush 8, 2) := by decide +kernel
theorem di_M_7 : decode prog_7_method_1_code 7 = .ok (.newarray .int, 2) := by decide +kernel
theorem di_M_9 : decode prog_7_method_1_code 9 = .ok (.putfield 7, 3) := by decide +kernel
theorem wff_M_7 : (Jvm.Cond.fieldLink "PointsToRoundsModel" (7 : Nat) "PointsToRoundsModel" "parents" "[I") ∈ TB := TB3 (List.mem_of_getElem? (i := 87) (by decide +kernel)) rfl
theorem mff_M_7 : m_Ff "PointsToRoundsModel" 7 5 1 (.array .int) := ⟨RM, TM, 44, tyM, rfl, inM, by decide, wff_M_7, tyM_ok, nmM, rfl, rfl, by decide +kernel⟩
theorem di_M_12 : decode prog_7_method_1_code 12 = .ok (.aload_n 0, 1) := by decide +kernel
theorem di_M_13 : decode prog_7_method_1_code 13 = .ok (.bipush 8, 2) := by decide +kernel
theorem di_M_15 : decode prog_7_method_1_code 15 = .ok (.newarray .int, 2) := by decide +kernel
theorem di_M_17 : decode prog_7_method_1_code 17 = .ok (.putfield 13, 3) := by decide +kernel
theorem wff_M_13 : (Jvm.Cond.fieldLink "PointsToRoundsModel" (13 : Nat) "PointsToRoundsModel" "fieldOf" "[I") ∈ TB := TB3 (List.mem_of_getElem? (i := 89) (by decide +kernel)) rfl
theorem mff_M_13 : m_Ff "PointsToRoundsModel" 13 5 3 (.array .int) := ⟨RM, TM, 44, tyM, rfl, inM, by decide, wff_M_13, tyM_ok, nmM, rfl, rfl, by decide +kernel⟩
theorem di_M_20 : decode prog_7_method_1_code 20 = .ok (.aload_n 0, 1) := by decide +kernel
theorem di_M_21 : decode prog_7_method_1_code 21 = .ok (.bipush 10, 2) := by decide +kernel
theorem di_M_23 : decode prog_7_method_1_code 23 = .ok (.newarray .int, 2) := by decide +kernel
theorem di_M_25 : decode prog_7_method_1_code 25 = .ok (.putfield 16, 3) := by decide +kernel
theorem wff_M_16 : (Jvm.Cond.fieldLink "PointsToRoundsModel" (16 : Nat) "PointsToRoundsModel" "methodOf" "[I") ∈ TB := TB3 (List.mem_of_getElem? (i := 91) (by decide +kernel)) rfl
theorem mff_M_16 : m_Ff "PointsToRoundsModel" 16 5 5 (.array .int) := ⟨RM, TM, 44, tyM, rfl, inM, by decide, wff_M_16, tyM_ok, nmM, rfl, rfl, by decide +kernel⟩
theorem di_M_28 : decode prog_7_method_1_code 28 = .ok (.aload_n 0, 1) := by decide +kernel
theorem di_M_29 : decode prog_7_method_1_code 29 = .ok (.bipush 10, 2) := by decide +kernel
theorem di_M_31 : decode prog_7_method_1_code 31 = .ok (.newarray .int, 2) := by decide +kernel
theorem di_M_33 : decode prog_7_method_1_code 33 = .ok (.putfield 19, 3) := by decide +kernel
theorem wff_M_19 : (Jvm.Cond.fieldLink "PointsToRoundsModel" (19 : Nat) "PointsToRoundsModel" "signatures" "[I") ∈ TB := TB3 (List.mem_of_getElem? (i := 92) (by decide +kernel)) rfl
theorem mff_M_19 : m_Ff "PointsToRoundsModel" 19 5 6 (.array .int) := ⟨RM, TM, 44, tyM, rfl, inM, by decide, wff_M_19, tyM_ok, nmM, rfl, rfl, by decide +kernel⟩
theorem di_M_36 : decode prog_7_method_1_code 36 = .ok (.aload_n 0, 1) := by decide +kernel
theorem di_M_37 : decode prog_7_method_1_code 37 = .ok (.bipush 60, 2) := by decide +kernel
theorem di_M_39 : decode prog_7_method_1_code 39 = .ok (.newarray .int, 2) := by decide +kernel
theorem di_M_41 : decode prog_7_method_1_code 41 = .ok (.putfield 22, 3) := by decide +kernel
theorem wff_M_22 : (Jvm.Cond.fieldLink "PointsToRoundsModel" (22 : Nat) "PointsToRoundsModel" "owner" "[I") ∈ TB := TB3 (List.mem_of_getElem? (i := 94) (by decide +kernel)) rfl
theorem mff_M_22 : m_Ff "PointsToRoundsModel" 22 5 8 (.array .int) := ⟨RM, TM, 44, tyM, rfl, inM, by decide, wff_M_22, tyM_ok, nmM, rfl, rfl, by decide +kernel⟩
theorem di_M_44 : decode prog_7_method_1_code 44 = .ok (.aload_n 0, 1) := by decide +kernel
theorem di_M_45 : decode prog_7_method_1_code 45 = .ok (.bipush 60, 2) := by decide +kernel
theorem di_M_47 : decode prog_7_method_1_code 47 = .ok (.newarray .int, 2) := by decide +kernel
theorem di_M_49 : decode prog_7_method_1_code 49 = .ok (.putfield 25, 3) := by decide +kernel
theorem wff_M_25 : (Jvm.Cond.fieldLink "PointsToRoundsModel" (25 : Nat) "PointsToRoundsModel" "kinds" "[I") ∈ TB := TB3 (List.mem_of_getElem? (i := 95) (by decide +kernel)) rfl
theorem mff_M_25 : m_Ff "PointsToRoundsModel" 25 5 9 (.array .int) := ⟨RM, TM, 44, tyM, rfl, inM, by decide, wff_M_25, tyM_ok, nmM, rfl, rfl, by decide +kernel⟩
theorem di_M_52 : decode prog_7_method_1_code 52 = .ok (.aload_n 0, 1) := by decide +kernel
theorem di_M_53 : decode prog_7_method_1_code 53 = .ok (.bipush 60, 2) := by decide +kernel
theorem di_M_55 : decode prog_7_method_1_code 55 = .ok (.newarray .int, 2) := by decide +kernel
theorem di_M_57 : decode prog_7_method_1_code 57 = .ok (.putfield 28, 3) := by decide +kernel
theorem wff_M_28 : (Jvm.Cond.fieldLink "PointsToRoundsModel" (28 : Nat) "PointsToRoundsModel" "pOf" "[I") ∈ TB := TB3 (List.mem_of_getElem? (i := 96) (by decide +kernel)) rfl
theorem mff_M_28 : m_Ff "PointsToRoundsModel" 28 5 10 (.array .int) := ⟨RM, TM, 44, tyM, rfl, inM, by decide, wff_M_28, tyM_ok, nmM, rfl, rfl, by decide +kernel⟩
theorem di_M_60 : decode prog_7_method_1_code 60 = .ok (.aload_n 0, 1) := by decide +kernel
theorem di_M_61 : decode prog_7_method_1_code 61 = .ok (.bipush 60, 2) := by decide +kernel
theorem di_M_63 : decode prog_7_method_1_code 63 = .ok (.newarray .int, 2) := by decide +kernel
theorem di_M_65 : decode prog_7_method_1_code 65 = .ok (.putfield 31, 3) := by decide +kernel
theorem wff_M_31 : (Jvm.Cond.fieldLink "PointsToRoundsModel" (31 : Nat) "PointsToRoundsModel" "qOf" "[I") ∈ TB := TB3 (List.mem_of_getElem? (i := 97) (by decide +kernel)) rfl
theorem mff_M_31 : m_Ff "PointsToRoundsModel" 31 5 11 (.array .int) := ⟨RM, TM, 44, tyM, rfl, inM, by decide, wff_M_31, tyM_ok, nmM, rfl, rfl, by decide +kernel⟩
theorem di_M_68 : decode prog_7_method_1_code 68 = .ok (.aload_n 0, 1) := by decide +kernel
theorem di_M_69 : decode prog_7_method_1_code 69 = .ok (.bipush 60, 2) := by decide +kernel
theorem di_M_71 : decode prog_7_method_1_code 71 = .ok (.newarray .int, 2) := by decide +kernel
theorem di_M_73 : decode prog_7_method_1_code 73 = .ok (.putfield 34, 3) := by decide +kernel
theorem wff_M_34 : (Jvm.Cond.fieldLink "PointsToRoundsModel" (34 : Nat) "PointsToRoundsModel" "rOf" "[I") ∈ TB := TB3 (List.mem_of_getElem? (i := 98) (by decide +kernel)) rfl
theorem mff_M_34 : m_Ff "PointsToRoundsModel" 34 5 12 (.array .int) := ⟨RM, TM, 44, tyM, rfl, inM, by decide, wff_M_34, tyM_ok, nmM, rfl, rfl, by decide +kernel⟩
theorem di_M_76 : decode prog_7_method_1_code 76 = .ok (.aload_n 0, 1) := by decide +kernel
theorem di_M_77 : decode prog_7_method_1_code 77 = .ok (.bipush 60, 2) := by decide +kernel
theorem di_M_79 : decode prog_7_method_1_code 79 = .ok (.newarray .int, 2) := by decide +kernel
theorem di_M_81 : decode prog_7_method_1_code 81 = .ok (.putfield 37, 3) := by decide +kernel
theorem wff_M_37 : (Jvm.Cond.fieldLink "PointsToRoundsModel" (37 : Nat) "PointsToRoundsModel" "sOf" "[I") ∈ TB := TB3 (List.mem_of_getElem? (i := 99) (by decide +kernel)) rfl
theorem mff_M_37 : m_Ff "PointsToRoundsModel" 37 5 13 (.array .int) := ⟨RM, TM, 44, tyM, rfl, inM, by decide, wff_M_37, tyM_ok, nmM, rfl, rfl, by decide +kernel⟩
theorem di_M_84 : decode prog_7_method_1_code 84 = .ok (.aload_n 0, 1) := by decide +kernel
theorem di_M_85 : decode prog_7_method_1_code 85 = .ok (.bipush 60, 2) := by decide +kernel
theorem di_M_87 : decode prog_7_method_1_code 87 = .ok (.newarray .int, 2) := by decide +kernel
theorem di_M_89 : decode prog_7_method_1_code 89 = .ok (.putfield 40, 3) := by decide +kernel
theorem wff_M_40 : (Jvm.Cond.fieldLink "PointsToRoundsModel" (40 : Nat) "PointsToRoundsModel" "tOf" "[I") ∈ TB := TB3 (List.mem_of_getElem? (i := 100) (by decide +kernel)) rfl
theorem mff_M_40 : m_Ff "PointsToRoundsModel" 40 5 14 (.array .int) := ⟨RM, TM, 44, tyM, rfl, inM, by decide, wff_M_40, tyM_ok, nmM, rfl, rfl, by decide +kernel⟩
theorem di_M_92 : decode prog_7_method_1_code 92 = .ok (.aload_n 0, 1) := by decide +kernel
theorem di_M_93 : decode prog_7_method_1_code 93 = .ok (.bipush 60, 2) := by decide +kernel
theorem di_M_95 : decode prog_7_method_1_code 95 = .ok (.newarray .int, 2) := by decide +kernel
theorem di_M_97 : decode prog_7_method_1_code 97 = .ok (.putfield 43, 3) := by decide +kernel
theorem wff_M_43 : (Jvm.Cond.fieldLink "PointsToRoundsModel" (43 : Nat) "PointsToRoundsModel" "siteOf" "[I") ∈ TB := TB3 (List.mem_of_getElem? (i := 101) (by decide +kernel)) rfl
theorem mff_M_43 : m_Ff "PointsToRoundsModel" 43 5 15 (.array .int) := ⟨RM, TM, 44, tyM, rfl, inM, by decide, wff_M_43, tyM_ok, nmM, rfl, rfl, by decide +kernel⟩
theorem di_M_100 : decode prog_7_method_1_code 100 = .ok (.aload_n 0, 1) := by decide +kernel
theorem di_M_101 : decode prog_7_method_1_code 101 = .ok (.bipush 20, 2) := by decide +kernel
theorem di_M_103 : decode prog_7_method_1_code 103 = .ok (.newarray .int, 2) := by decide +kernel
theorem di_M_105 : decode prog_7_method_1_code 105 = .ok (.putfield 46, 3) := by decide +kernel
theorem wff_M_46 : (Jvm.Cond.fieldLink "PointsToRoundsModel" (46 : Nat) "PointsToRoundsModel" "siteClass" "[I") ∈ TB := TB3 (List.mem_of_getElem? (i := 103) (by decide +kernel)) rfl
theorem mff_M_46 : m_Ff "PointsToRoundsModel" 46 5 17 (.array .int) := ⟨RM, TM, 44, tyM, rfl, inM, by decide, wff_M_46, tyM_ok, nmM, rfl, rfl, by decide +kernel⟩
theorem di_M_108 : decode prog_7_method_1_code 108 = .ok (.aload_n 0, 1) := by decide +kernel
theorem di_M_109 : decode prog_7_method_1_code 109 = .ok (.sipush 1260, 3) := by decide +kernel
theorem di_M_112 : decode prog_7_method_1_code 112 = .ok (.newarray .int, 2) := by decide +kernel
theorem di_M_114 : decode prog_7_method_1_code 114 = .ok (.putfield 49, 3) := by decide +kernel
theorem wff_M_49 : (Jvm.Cond.fieldLink "PointsToRoundsModel" (49 : Nat) "PointsToRoundsModel" "nameNow" "[I") ∈ TB := TB3 (List.mem_of_getElem? (i := 106) (by decide +kernel)) rfl
theorem mff_M_49 : m_Ff "PointsToRoundsModel" 49 5 20 (.array .int) := ⟨RM, TM, 44, tyM, rfl, inM, by decide, wff_M_49, tyM_ok, nmM, rfl, rfl, by decide +kernel⟩
theorem di_M_117 : decode prog_7_method_1_code 117 = .ok (.aload_n 0, 1) := by decide +kernel
theorem di_M_118 : decode prog_7_method_1_code 118 = .ok (.sipush 1260, 3) := by decide +kernel
theorem di_M_121 : decode prog_7_method_1_code 121 = .ok (.newarray .int, 2) := by decide +kernel
theorem di_M_123 : decode prog_7_method_1_code 123 = .ok (.putfield 52, 3) := by decide +kernel
theorem wff_M_52 : (Jvm.Cond.fieldLink "PointsToRoundsModel" (52 : Nat) "PointsToRoundsModel" "nameThen" "[I") ∈ TB := TB3 (List.mem_of_getElem? (i := 107) (by decide +kernel)) rfl
theorem mff_M_52 : m_Ff "PointsToRoundsModel" 52 5 21 (.array .int) := ⟨RM, TM, 44, tyM, rfl, inM, by decide, wff_M_52, tyM_ok, nmM, rfl, rfl, by decide +kernel⟩
theorem di_M_126 : decode prog_7_method_1_code 126 = .ok (.aload_n 0, 1) := by decide +kernel
theorem di_M_127 : decode prog_7_method_1_code 127 = .ok (.sipush 160, 3) := by decide +kernel
theorem di_M_130 : decode prog_7_method_1_code 130 = .ok (.newarray .int, 2) := by decide +kernel
theorem di_M_132 : decode prog_7_method_1_code 132 = .ok (.putfield 55, 3) := by decide +kernel
theorem wff_M_55 : (Jvm.Cond.fieldLink "PointsToRoundsModel" (55 : Nat) "PointsToRoundsModel" "fieldNow" "[I") ∈ TB := TB3 (List.mem_of_getElem? (i := 108) (by decide +kernel)) rfl
theorem mff_M_55 : m_Ff "PointsToRoundsModel" 55 5 22 (.array .int) := ⟨RM, TM, 44, tyM, rfl, inM, by decide, wff_M_55, tyM_ok, nmM, rfl, rfl, by decide +kernel⟩
theorem di_M_135 : decode prog_7_method_1_code 135 = .ok (.aload_n 0, 1) := by decide +kernel
theorem di_M_136 : decode prog_7_method_1_code 136 = .ok (.sipush 160, 3) := by decide +kernel
theorem di_M_139 : decode prog_7_method_1_code 139 = .ok (.newarray .int, 2) := by decide +kernel
theorem di_M_141 : decode prog_7_method_1_code 141 = .ok (.putfield 58, 3) := by decide +kernel
theorem wff_M_58 : (Jvm.Cond.fieldLink "PointsToRoundsModel" (58 : Nat) "PointsToRoundsModel" "fieldThen" "[I") ∈ TB := TB3 (List.mem_of_getElem? (i := 109) (by decide +kernel)) rfl
theorem mff_M_58 : m_Ff "PointsToRoundsModel" 58 5 23 (.array .int) := ⟨RM, TM, 44, tyM, rfl, inM, by decide, wff_M_58, tyM_ok, nmM, rfl, rfl, by decide +kernel⟩
theorem di_M_144 : decode prog_7_method_1_code 144 = .ok (.aload_n 0, 1) := by decide +kernel
theorem di_M_145 : decode prog_7_method_1_code 145 = .ok (.bipush 20, 2) := by decide +kernel
theorem di_M_147 : decode prog_7_method_1_code 147 = .ok (.newarray .int, 2) := by decide +kernel
theorem di_M_149 : decode prog_7_method_1_code 149 = .ok (.putfield 61, 3) := by decide +kernel
theorem wff_M_61 : (Jvm.Cond.fieldLink "PointsToRoundsModel" (61 : Nat) "PointsToRoundsModel" "elementNow" "[I") ∈ TB := TB3 (List.mem_of_getElem? (i := 110) (by decide +kernel)) rfl
theorem mff_M_61 : m_Ff "PointsToRoundsModel" 61 5 24 (.array .int) := ⟨RM, TM, 44, tyM, rfl, inM, by decide, wff_M_61, tyM_ok, nmM, rfl, rfl, by decide +kernel⟩
theorem di_M_152 : decode prog_7_method_1_code 152 = .ok (.aload_n 0, 1) := by decide +kernel
theorem di_M_153 : decode prog_7_method_1_code 153 = .ok (.bipush 20, 2) := by decide +kernel
theorem di_M_155 : decode prog_7_method_1_code 155 = .ok (.newarray .int, 2) := by decide +kernel
theorem di_M_157 : decode prog_7_method_1_code 157 = .ok (.putfield 64, 3) := by decide +kernel
theorem wff_M_64 : (Jvm.Cond.fieldLink "PointsToRoundsModel" (64 : Nat) "PointsToRoundsModel" "elementThen" "[I") ∈ TB := TB3 (List.mem_of_getElem? (i := 111) (by decide +kernel)) rfl
theorem mff_M_64 : m_Ff "PointsToRoundsModel" 64 5 25 (.array .int) := ⟨RM, TM, 44, tyM, rfl, inM, by decide, wff_M_64, tyM_ok, nmM, rfl, rfl, by decide +kernel⟩
theorem di_M_160 : decode prog_7_method_1_code 160 = .ok (.aload_n 0, 1) := by decide +kernel
theorem di_M_161 : decode prog_7_method_1_code 161 = .ok (.iconst 4, 1) := by decide +kernel
theorem di_M_162 : decode prog_7_method_1_code 162 = .ok (.newarray .int, 2) := by decide +kernel
theorem di_M_164 : decode prog_7_method_1_code 164 = .ok (.putfield 67, 3) := by decide +kernel
theorem wff_M_67 : (Jvm.Cond.fieldLink "PointsToRoundsModel" (67 : Nat) "PointsToRoundsModel" "staticNow" "[I") ∈ TB := TB3 (List.mem_of_getElem? (i := 112) (by decide +kernel)) rfl
theorem mff_M_67 : m_Ff "PointsToRoundsModel" 67 5 26 (.array .int) := ⟨RM, TM, 44, tyM, rfl, inM, by decide, wff_M_67, tyM_ok, nmM, rfl, rfl, by decide +kernel⟩
theorem di_M_167 : decode prog_7_method_1_code 167 = .ok (.aload_n 0, 1) := by decide +kernel
theorem di_M_168 : decode prog_7_method_1_code 168 = .ok (.iconst 4, 1) := by decide +kernel
theorem di_M_169 : decode prog_7_method_1_code 169 = .ok (.newarray .int, 2) := by decide +kernel
theorem di_M_171 : decode prog_7_method_1_code 171 = .ok (.putfield 70, 3) := by decide +kernel
theorem wff_M_70 : (Jvm.Cond.fieldLink "PointsToRoundsModel" (70 : Nat) "PointsToRoundsModel" "staticThen" "[I") ∈ TB := TB3 (List.mem_of_getElem? (i := 113) (by decide +kernel)) rfl
theorem mff_M_70 : m_Ff "PointsToRoundsModel" 70 5 27 (.array .int) := ⟨RM, TM, 44, tyM, rfl, inM, by decide, wff_M_70, tyM_ok, nmM, rfl, rfl, by decide +kernel⟩
theorem di_M_174 : decode prog_7_method_1_code 174 = .ok (.aload_n 0, 1) := by decide +kernel
theorem di_M_175 : decode prog_7_method_1_code 175 = .ok (.bipush 10, 2) := by decide +kernel
theorem di_M_177 : decode prog_7_method_1_code 177 = .ok (.newarray .int, 2) := by decide +kernel
theorem di_M_179 : decode prog_7_method_1_code 179 = .ok (.putfield 73, 3) := by decide +kernel
theorem wff_M_73 : (Jvm.Cond.fieldLink "PointsToRoundsModel" (73 : Nat) "PointsToRoundsModel" "reachNow" "[I") ∈ TB := TB3 (List.mem_of_getElem? (i := 114) (by decide +kernel)) rfl
theorem mff_M_73 : m_Ff "PointsToRoundsModel" 73 5 28 (.array .int) := ⟨RM, TM, 44, tyM, rfl, inM, by decide, wff_M_73, tyM_ok, nmM, rfl, rfl, by decide +kernel⟩
theorem di_M_182 : decode prog_7_method_1_code 182 = .ok (.aload_n 0, 1) := by decide +kernel
theorem di_M_183 : decode prog_7_method_1_code 183 = .ok (.bipush 10, 2) := by decide +kernel
theorem di_M_185 : decode prog_7_method_1_code 185 = .ok (.newarray .int, 2) := by decide +kernel
theorem di_M_187 : decode prog_7_method_1_code 187 = .ok (.putfield 76, 3) := by decide +kernel
theorem wff_M_76 : (Jvm.Cond.fieldLink "PointsToRoundsModel" (76 : Nat) "PointsToRoundsModel" "reachThen" "[I") ∈ TB := TB3 (List.mem_of_getElem? (i := 115) (by decide +kernel)) rfl
theorem mff_M_76 : m_Ff "PointsToRoundsModel" 76 5 29 (.array .int) := ⟨RM, TM, 44, tyM, rfl, inM, by decide, wff_M_76, tyM_ok, nmM, rfl, rfl, by decide +kernel⟩
theorem di_M_190 : decode prog_7_method_1_code 190 = .ok (.aload_n 0, 1) := by decide +kernel
theorem di_M_191 : decode prog_7_method_1_code 191 = .ok (.sipush 1200, 3) := by decide +kernel
theorem di_M_194 : decode prog_7_method_1_code 194 = .ok (.newarray .int, 2) := by decide +kernel
theorem di_M_196 : decode prog_7_method_1_code 196 = .ok (.putfield 79, 3) := by decide +kernel
theorem wff_M_79 : (Jvm.Cond.fieldLink "PointsToRoundsModel" (79 : Nat) "PointsToRoundsModel" "whenOf" "[I") ∈ TB := TB3 (List.mem_of_getElem? (i := 116) (by decide +kernel)) rfl
theorem mff_M_79 : m_Ff "PointsToRoundsModel" 79 5 30 (.array .int) := ⟨RM, TM, 44, tyM, rfl, inM, by decide, wff_M_79, tyM_ok, nmM, rfl, rfl, by decide +kernel⟩
theorem di_M_199 : decode prog_7_method_1_code 199 = .ok (.aload_n 0, 1) := by decide +kernel
theorem di_M_200 : decode prog_7_method_1_code 200 = .ok (.bipush 30, 2) := by decide +kernel
theorem di_M_202 : decode prog_7_method_1_code 202 = .ok (.newarray .int, 2) := by decide +kernel
theorem di_M_204 : decode prog_7_method_1_code 204 = .ok (.putfield 82, 3) := by decide +kernel
theorem wff_M_82 : (Jvm.Cond.fieldLink "PointsToRoundsModel" (82 : Nat) "PointsToRoundsModel" "objectSite" "[I") ∈ TB := TB3 (List.mem_of_getElem? (i := 119) (by decide +kernel)) rfl
theorem mff_M_82 : m_Ff "PointsToRoundsModel" 82 5 33 (.array .int) := ⟨RM, TM, 44, tyM, rfl, inM, by decide, wff_M_82, tyM_ok, nmM, rfl, rfl, by decide +kernel⟩
theorem di_M_207 : decode prog_7_method_1_code 207 = .ok (.aload_n 0, 1) := by decide +kernel
theorem di_M_208 : decode prog_7_method_1_code 208 = .ok (.sipush 240, 3) := by decide +kernel
theorem di_M_211 : decode prog_7_method_1_code 211 = .ok (.newarray .int, 2) := by decide +kernel
theorem di_M_213 : decode prog_7_method_1_code 213 = .ok (.putfield 85, 3) := by decide +kernel
theorem wff_M_85 : (Jvm.Cond.fieldLink "PointsToRoundsModel" (85 : Nat) "PointsToRoundsModel" "objectField" "[I") ∈ TB := TB3 (List.mem_of_getElem? (i := 120) (by decide +kernel)) rfl
theorem mff_M_85 : m_Ff "PointsToRoundsModel" 85 5 34 (.array .int) := ⟨RM, TM, 44, tyM, rfl, inM, by decide, wff_M_85, tyM_ok, nmM, rfl, rfl, by decide +kernel⟩
theorem di_M_216 : decode prog_7_method_1_code 216 = .ok (.aload_n 0, 1) := by decide +kernel
theorem di_M_217 : decode prog_7_method_1_code 217 = .ok (.bipush 30, 2) := by decide +kernel
theorem di_M_219 : decode prog_7_method_1_code 219 = .ok (.newarray .int, 2) := by decide +kernel
theorem di_M_221 : decode prog_7_method_1_code 221 = .ok (.putfield 88, 3) := by decide +kernel
theorem wff_M_88 : (Jvm.Cond.fieldLink "PointsToRoundsModel" (88 : Nat) "PointsToRoundsModel" "objectElement" "[I") ∈ TB := TB3 (List.mem_of_getElem? (i := 121) (by decide +kernel)) rfl
theorem mff_M_88 : m_Ff "PointsToRoundsModel" 88 5 35 (.array .int) := ⟨RM, TM, 44, tyM, rfl, inM, by decide, wff_M_88, tyM_ok, nmM, rfl, rfl, by decide +kernel⟩
theorem di_M_224 : decode prog_7_method_1_code 224 = .ok (.aload_n 0, 1) := by decide +kernel
theorem di_M_225 : decode prog_7_method_1_code 225 = .ok (.iconst 4, 1) := by decide +kernel
theorem di_M_226 : decode prog_7_method_1_code 226 = .ok (.newarray .int, 2) := by decide +kernel
theorem di_M_228 : decode prog_7_method_1_code 228 = .ok (.putfield 91, 3) := by decide +kernel
theorem wff_M_91 : (Jvm.Cond.fieldLink "PointsToRoundsModel" (91 : Nat) "PointsToRoundsModel" "statics" "[I") ∈ TB := TB3 (List.mem_of_getElem? (i := 122) (by decide +kernel)) rfl
theorem mff_M_91 : m_Ff "PointsToRoundsModel" 91 5 36 (.array .int) := ⟨RM, TM, 44, tyM, rfl, inM, by decide, wff_M_91, tyM_ok, nmM, rfl, rfl, by decide +kernel⟩
theorem di_M_231 : decode prog_7_method_1_code 231 = .ok (.aload_n 0, 1) := by decide +kernel
theorem di_M_232 : decode prog_7_method_1_code 232 = .ok (.bipush 10, 2) := by decide +kernel
theorem di_M_234 : decode prog_7_method_1_code 234 = .ok (.newarray .int, 2) := by decide +kernel
theorem di_M_236 : decode prog_7_method_1_code 236 = .ok (.putfield 94, 3) := by decide +kernel
theorem wff_M_94 : (Jvm.Cond.fieldLink "PointsToRoundsModel" (94 : Nat) "PointsToRoundsModel" "frameMethod" "[I") ∈ TB := TB3 (List.mem_of_getElem? (i := 124) (by decide +kernel)) rfl
theorem mff_M_94 : m_Ff "PointsToRoundsModel" 94 5 38 (.array .int) := ⟨RM, TM, 44, tyM, rfl, inM, by decide, wff_M_94, tyM_ok, nmM, rfl, rfl, by decide +kernel⟩
theorem di_M_239 : decode prog_7_method_1_code 239 = .ok (.aload_n 0, 1) := by decide +kernel
theorem di_M_240 : decode prog_7_method_1_code 240 = .ok (.bipush 10, 2) := by decide +kernel
theorem di_M_242 : decode prog_7_method_1_code 242 = .ok (.newarray .int, 2) := by decide +kernel
theorem di_M_244 : decode prog_7_method_1_code 244 = .ok (.putfield 97, 3) := by decide +kernel
theorem wff_M_97 : (Jvm.Cond.fieldLink "PointsToRoundsModel" (97 : Nat) "PointsToRoundsModel" "frameContext" "[I") ∈ TB := TB3 (List.mem_of_getElem? (i := 125) (by decide +kernel)) rfl
theorem mff_M_97 : m_Ff "PointsToRoundsModel" 97 5 39 (.array .int) := ⟨RM, TM, 44, tyM, rfl, inM, by decide, wff_M_97, tyM_ok, nmM, rfl, rfl, by decide +kernel⟩
theorem di_M_247 : decode prog_7_method_1_code 247 = .ok (.aload_n 0, 1) := by decide +kernel
theorem di_M_248 : decode prog_7_method_1_code 248 = .ok (.bipush 10, 2) := by decide +kernel
theorem di_M_250 : decode prog_7_method_1_code 250 = .ok (.newarray .int, 2) := by decide +kernel
theorem di_M_252 : decode prog_7_method_1_code 252 = .ok (.putfield 100, 3) := by decide +kernel
theorem wff_M_100 : (Jvm.Cond.fieldLink "PointsToRoundsModel" (100 : Nat) "PointsToRoundsModel" "frameTo" "[I") ∈ TB := TB3 (List.mem_of_getElem? (i := 126) (by decide +kernel)) rfl
theorem mff_M_100 : m_Ff "PointsToRoundsModel" 100 5 40 (.array .int) := ⟨RM, TM, 44, tyM, rfl, inM, by decide, wff_M_100, tyM_ok, nmM, rfl, rfl, by decide +kernel⟩
theorem di_M_255 : decode prog_7_method_1_code 255 = .ok (.aload_n 0, 1) := by decide +kernel
theorem di_M_256 : decode prog_7_method_1_code 256 = .ok (.bipush 60, 2) := by decide +kernel
theorem di_M_258 : decode prog_7_method_1_code 258 = .ok (.newarray .int, 2) := by decide +kernel
theorem di_M_260 : decode prog_7_method_1_code 260 = .ok (.putfield 103, 3) := by decide +kernel
theorem wff_M_103 : (Jvm.Cond.fieldLink "PointsToRoundsModel" (103 : Nat) "PointsToRoundsModel" "frameName" "[I") ∈ TB := TB3 (List.mem_of_getElem? (i := 127) (by decide +kernel)) rfl
theorem mff_M_103 : m_Ff "PointsToRoundsModel" 103 5 41 (.array .int) := ⟨RM, TM, 44, tyM, rfl, inM, by decide, wff_M_103, tyM_ok, nmM, rfl, rfl, by decide +kernel⟩
theorem di_M_263 : decode prog_7_method_1_code 263 = .ok (.aload_n 0, 1) := by decide +kernel
theorem di_M_264 : decode prog_7_method_1_code 264 = .ok (.bipush 60, 2) := by decide +kernel
theorem di_M_266 : decode prog_7_method_1_code 266 = .ok (.newarray .int, 2) := by decide +kernel
theorem di_M_268 : decode prog_7_method_1_code 268 = .ok (.putfield 106, 3) := by decide +kernel
theorem wff_M_106 : (Jvm.Cond.fieldLink "PointsToRoundsModel" (106 : Nat) "PointsToRoundsModel" "metOf" "[I") ∈ TB := TB3 (List.mem_of_getElem? (i := 128) (by decide +kernel)) rfl
theorem mff_M_106 : m_Ff "PointsToRoundsModel" 106 5 42 (.array .int) := ⟨RM, TM, 44, tyM, rfl, inM, by decide, wff_M_106, tyM_ok, nmM, rfl, rfl, by decide +kernel⟩
theorem di_M_271 : decode prog_7_method_1_code 271 = .ok (.return_, 1) := by decide +kernel
theorem wcl_L_7 : (Jvm.Cond.classLink "PointsToRoundsLaw" (7 : Nat) "PointsToRounds") ∈ TB := TB1 (List.mem_of_getElem? (i := 10) (by decide +kernel)) rfl
theorem wcl_L_10 : (Jvm.Cond.classLink "PointsToRoundsLaw" (10 : Nat) "PointsToRoundsModel") ∈ TB := TB3 (List.mem_of_getElem? (i := 80) (by decide +kernel)) rfl
theorem wki_L_9 : (Jvm.Cond.methodLink "PointsToRoundsLaw" (9 : Nat) ({ cls := "PointsToRounds", name := "<init>", desc := "()V" } : Jvm.MethodName)) ∈ TB := TB1 (List.mem_of_getElem? (i := 12) (by decide +kernel)) rfl
theorem wki_L_12 : (Jvm.Cond.methodLink "PointsToRoundsLaw" (12 : Nat) ({ cls := "PointsToRoundsModel", name := "<init>", desc := "()V" } : Jvm.MethodName)) ∈ TB := TB3 (List.mem_of_getElem? (i := 82) (by decide +kernel)) rfl
