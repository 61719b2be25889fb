section
-- ===== PART A: goes FIRST, ahead of the names: the tables' words, and 'selects' of the private methods out of them =====
/-- a private method of a class that the tables say can be made, by its rows of tables_1 -/
def lw_okq (q : MethodName × Nat) : Prop := (q.1.cls ≠ "java/lang/invoke/MethodHandle" ∧ q.1.cls ≠ "java/lang/invoke/VarHandle") ∧ Cond.instantiable q.1.cls q.2 ∈ tables_1 ∧ Cond.privateMethod q.1 ∈ tables_1 ∧ Cond.instanceMethod q.1 ∈ tables_1
theorem lw_p0 : lw_okq (⟨"PointsToRounds", "forgetAnswers", "()V"⟩, 3) := ⟨⟨by decide +kernel, by decide +kernel⟩, List.mem_of_getElem? (i := 11) (by decide +kernel), List.mem_of_getElem? (i := 244) (by decide +kernel), List.mem_of_getElem? (i := 245) (by decide +kernel)⟩
theorem lw_p1 : lw_okq (⟨"PointsToRounds$Program", "findMethod", "(II)V"⟩, 15) := ⟨⟨by decide +kernel, by decide +kernel⟩, List.mem_of_getElem? (i := 19) (by decide +kernel), List.mem_of_getElem? (i := 259) (by decide +kernel), List.mem_of_getElem? (i := 260) (by decide +kernel)⟩
theorem lw_p2 : lw_okq (⟨"PointsToRounds$Program", "addSite", "(I)I"⟩, 15) := ⟨⟨by decide +kernel, by decide +kernel⟩, List.mem_of_getElem? (i := 19) (by decide +kernel), List.mem_of_getElem? (i := 325) (by decide +kernel), List.mem_of_getElem? (i := 326) (by decide +kernel)⟩
theorem lw_p3 : lw_okq (⟨"PointsToRounds$Sets", "doRound", "()V"⟩, 9) := ⟨⟨by decide +kernel, by decide +kernel⟩, List.mem_of_getElem? (i := 136) (by decide +kernel), List.mem_of_getElem? (i := 365) (by decide +kernel), List.mem_of_getElem? (i := 366) (by decide +kernel)⟩
theorem lw_p4 : lw_okq (⟨"PointsToRounds$Sets", "doStatement", "(LPointsToRounds$Statement;I)V"⟩, 9) := ⟨⟨by decide +kernel, by decide +kernel⟩, List.mem_of_getElem? (i := 136) (by decide +kernel), List.mem_of_getElem? (i := 377) (by decide +kernel), List.mem_of_getElem? (i := 378) (by decide +kernel)⟩
theorem lw_p5 : lw_okq (⟨"PointsToRounds$Sets", "add", "(II)V"⟩, 9) := ⟨⟨by decide +kernel, by decide +kernel⟩, List.mem_of_getElem? (i := 136) (by decide +kernel), List.mem_of_getElem? (i := 381) (by decide +kernel), List.mem_of_getElem? (i := 382) (by decide +kernel)⟩
theorem lw_p6 : lw_okq (⟨"PointsToRounds$Sets", "noteRound", "(II)V"⟩, 9) := ⟨⟨by decide +kernel, by decide +kernel⟩, List.mem_of_getElem? (i := 136) (by decide +kernel), List.mem_of_getElem? (i := 385) (by decide +kernel), List.mem_of_getElem? (i := 386) (by decide +kernel)⟩
theorem lw_p7 : lw_okq (⟨"PointsToRounds$Sets", "addFromSlot", "(III)V"⟩, 9) := ⟨⟨by decide +kernel, by decide +kernel⟩, List.mem_of_getElem? (i := 136) (by decide +kernel), List.mem_of_getElem? (i := 389) (by decide +kernel), List.mem_of_getElem? (i := 390) (by decide +kernel)⟩
theorem lw_p8 : lw_okq (⟨"PointsToRounds$Sets", "addToSlot", "(III)V"⟩, 9) := ⟨⟨by decide +kernel, by decide +kernel⟩, List.mem_of_getElem? (i := 136) (by decide +kernel), List.mem_of_getElem? (i := 400) (by decide +kernel), List.mem_of_getElem? (i := 401) (by decide +kernel)⟩
theorem lw_p9 : lw_okq (⟨"PointsToRounds$Sets", "doCall", "(LPointsToRounds$Statement;I)V"⟩, 9) := ⟨⟨by decide +kernel, by decide +kernel⟩, List.mem_of_getElem? (i := 136) (by decide +kernel), List.mem_of_getElem? (i := 404) (by decide +kernel), List.mem_of_getElem? (i := 405) (by decide +kernel)⟩
theorem lw_p10 : lw_okq (⟨"PointsToRounds$Trial", "pushFrame", "(III)V"⟩, 14) := ⟨⟨by decide +kernel, by decide +kernel⟩, List.mem_of_getElem? (i := 173) (by decide +kernel), List.mem_of_getElem? (i := 493) (by decide +kernel), List.mem_of_getElem? (i := 494) (by decide +kernel)⟩
theorem lw_p11 : lw_okq (⟨"PointsToRounds$Trial", "doStep", "(I)V"⟩, 14) := ⟨⟨by decide +kernel, by decide +kernel⟩, List.mem_of_getElem? (i := 173) (by decide +kernel), List.mem_of_getElem? (i := 505) (by decide +kernel), List.mem_of_getElem? (i := 506) (by decide +kernel)⟩
theorem lw_p12 : lw_okq (⟨"PointsToRounds$Trial", "doStatement", "(LPointsToRounds$Statement;I)V"⟩, 14) := ⟨⟨by decide +kernel, by decide +kernel⟩, List.mem_of_getElem? (i := 173) (by decide +kernel), List.mem_of_getElem? (i := 510) (by decide +kernel), List.mem_of_getElem? (i := 511) (by decide +kernel)⟩
theorem lw_p13 : lw_okq (⟨"PointsToRounds$Trial", "makeObject", "(LPointsToRounds$Statement;I)V"⟩, 14) := ⟨⟨by decide +kernel, by decide +kernel⟩, List.mem_of_getElem? (i := 173) (by decide +kernel), List.mem_of_getElem? (i := 514) (by decide +kernel), List.mem_of_getElem? (i := 515) (by decide +kernel)⟩
theorem lw_p14 : lw_okq (⟨"PointsToRounds$Trial", "readSlot", "(III)V"⟩, 14) := ⟨⟨by decide +kernel, by decide +kernel⟩, List.mem_of_getElem? (i := 173) (by decide +kernel), List.mem_of_getElem? (i := 518) (by decide +kernel), List.mem_of_getElem? (i := 519) (by decide +kernel)⟩
theorem lw_p15 : lw_okq (⟨"PointsToRounds$Trial", "hasSlot", "(II)Z"⟩, 14) := ⟨⟨by decide +kernel, by decide +kernel⟩, List.mem_of_getElem? (i := 173) (by decide +kernel), List.mem_of_getElem? (i := 522) (by decide +kernel), List.mem_of_getElem? (i := 523) (by decide +kernel)⟩
def lw_privs_1 : List (MethodName × Nat) := [(⟨"PointsToRounds", "forgetAnswers", "()V"⟩, 3), (⟨"PointsToRounds$Program", "findMethod", "(II)V"⟩, 15), (⟨"PointsToRounds$Program", "addSite", "(I)I"⟩, 15), (⟨"PointsToRounds$Sets", "doRound", "()V"⟩, 9), (⟨"PointsToRounds$Sets", "doStatement", "(LPointsToRounds$Statement;I)V"⟩, 9), (⟨"PointsToRounds$Sets", "add", "(II)V"⟩, 9), (⟨"PointsToRounds$Sets", "noteRound", "(II)V"⟩, 9), (⟨"PointsToRounds$Sets", "addFromSlot", "(III)V"⟩, 9), (⟨"PointsToRounds$Sets", "addToSlot", "(III)V"⟩, 9), (⟨"PointsToRounds$Sets", "doCall", "(LPointsToRounds$Statement;I)V"⟩, 9), (⟨"PointsToRounds$Trial", "pushFrame", "(III)V"⟩, 14), (⟨"PointsToRounds$Trial", "doStep", "(I)V"⟩, 14), (⟨"PointsToRounds$Trial", "doStatement", "(LPointsToRounds$Statement;I)V"⟩, 14), (⟨"PointsToRounds$Trial", "makeObject", "(LPointsToRounds$Statement;I)V"⟩, 14), (⟨"PointsToRounds$Trial", "readSlot", "(III)V"⟩, 14), (⟨"PointsToRounds$Trial", "hasSlot", "(II)Z"⟩, 14)]
theorem lw_r1 : ∀ q ∈ lw_privs_1, lw_okq q := List.forall_mem_cons.mpr ⟨lw_p0, List.forall_mem_cons.mpr ⟨lw_p1, List.forall_mem_cons.mpr ⟨lw_p2, List.forall_mem_cons.mpr ⟨lw_p3, List.forall_mem_cons.mpr ⟨lw_p4, List.forall_mem_cons.mpr ⟨lw_p5, List.forall_mem_cons.mpr ⟨lw_p6, List.forall_mem_cons.mpr ⟨lw_p7, List.forall_mem_cons.mpr ⟨lw_p8, List.forall_mem_cons.mpr ⟨lw_p9, List.forall_mem_cons.mpr ⟨lw_p10, List.forall_mem_cons.mpr ⟨lw_p11, List.forall_mem_cons.mpr ⟨lw_p12, List.forall_mem_cons.mpr ⟨lw_p13, List.forall_mem_cons.mpr ⟨lw_p14, List.forall_mem_cons.mpr ⟨lw_p15, fun _ h => absurd h List.not_mem_nil⟩⟩⟩⟩⟩⟩⟩⟩⟩⟩⟩⟩⟩⟩⟩⟩
theorem lw_p16 : lw_okq (⟨"PointsToRounds$Trial", "writeSlot", "(III)V"⟩, 14) := ⟨⟨by decide +kernel, by decide +kernel⟩, List.mem_of_getElem? (i := 173) (by decide +kernel), List.mem_of_getElem? (i := 528) (by decide +kernel), List.mem_of_getElem? (i := 529) (by decide +kernel)⟩
theorem lw_p17 : lw_okq (⟨"PointsToRounds$Trial", "lookAt", "(II)V"⟩, 14) := ⟨⟨by decide +kernel, by decide +kernel⟩, List.mem_of_getElem? (i := 173) (by decide +kernel), List.mem_of_getElem? (i := 533) (by decide +kernel), List.mem_of_getElem? (i := 534) (by decide +kernel)⟩
theorem lw_p18 : lw_okq (⟨"PointsToRounds$Trial", "castObject", "(LPointsToRounds$Statement;I)V"⟩, 14) := ⟨⟨by decide +kernel, by decide +kernel⟩, List.mem_of_getElem? (i := 173) (by decide +kernel), List.mem_of_getElem? (i := 538) (by decide +kernel), List.mem_of_getElem? (i := 539) (by decide +kernel)⟩
theorem lw_p19 : lw_okq (⟨"PointsToRounds$Trial", "enterMethod", "(LPointsToRounds$Statement;I)V"⟩, 14) := ⟨⟨by decide +kernel, by decide +kernel⟩, List.mem_of_getElem? (i := 173) (by decide +kernel), List.mem_of_getElem? (i := 542) (by decide +kernel), List.mem_of_getElem? (i := 543) (by decide +kernel)⟩
theorem lw_p20 : lw_okq (⟨"PointsToRounds$Trial", "lookAtNames", "()V"⟩, 14) := ⟨⟨by decide +kernel, by decide +kernel⟩, List.mem_of_getElem? (i := 173) (by decide +kernel), List.mem_of_getElem? (i := 548) (by decide +kernel), List.mem_of_getElem? (i := 549) (by decide +kernel)⟩
theorem lw_p21 : lw_okq (⟨"PointsToRoundsModel", "change", "()V"⟩, 44) := ⟨⟨by decide +kernel, by decide +kernel⟩, List.mem_of_getElem? (i := 561) (by decide +kernel), List.mem_of_getElem? (i := 704) (by decide +kernel), List.mem_of_getElem? (i := 705) (by decide +kernel)⟩
theorem lw_p22 : lw_okq (⟨"PointsToRoundsModel", "forgetRun", "()V"⟩, 44) := ⟨⟨by decide +kernel, by decide +kernel⟩, List.mem_of_getElem? (i := 561) (by decide +kernel), List.mem_of_getElem? (i := 708) (by decide +kernel), List.mem_of_getElem? (i := 709) (by decide +kernel)⟩
theorem lw_p23 : lw_okq (⟨"PointsToRoundsModel", "isClass", "(I)Z"⟩, 44) := ⟨⟨by decide +kernel, by decide +kernel⟩, List.mem_of_getElem? (i := 561) (by decide +kernel), List.mem_of_getElem? (i := 716) (by decide +kernel), List.mem_of_getElem? (i := 717) (by decide +kernel)⟩
theorem lw_p24 : lw_okq (⟨"PointsToRoundsModel", "methodWith", "(II)I"⟩, 44) := ⟨⟨by decide +kernel, by decide +kernel⟩, List.mem_of_getElem? (i := 561) (by decide +kernel), List.mem_of_getElem? (i := 724) (by decide +kernel), List.mem_of_getElem? (i := 725) (by decide +kernel)⟩
theorem lw_p25 : lw_okq (⟨"PointsToRoundsModel", "isMethod", "(I)Z"⟩, 44) := ⟨⟨by decide +kernel, by decide +kernel⟩, List.mem_of_getElem? (i := 561) (by decide +kernel), List.mem_of_getElem? (i := 732) (by decide +kernel), List.mem_of_getElem? (i := 733) (by decide +kernel)⟩
theorem lw_p26 : lw_okq (⟨"PointsToRoundsModel", "isGood", "(IIIIII)Z"⟩, 44) := ⟨⟨by decide +kernel, by decide +kernel⟩, List.mem_of_getElem? (i := 561) (by decide +kernel), List.mem_of_getElem? (i := 736) (by decide +kernel), List.mem_of_getElem? (i := 737) (by decide +kernel)⟩
theorem lw_p27 : lw_okq (⟨"PointsToRoundsModel", "isField", "(I)Z"⟩, 44) := ⟨⟨by decide +kernel, by decide +kernel⟩, List.mem_of_getElem? (i := 561) (by decide +kernel), List.mem_of_getElem? (i := 743) (by decide +kernel), List.mem_of_getElem? (i := 744) (by decide +kernel)⟩
theorem lw_p28 : lw_okq (⟨"PointsToRoundsModel", "isContext", "(I)Z"⟩, 44) := ⟨⟨by decide +kernel, by decide +kernel⟩, List.mem_of_getElem? (i := 561) (by decide +kernel), List.mem_of_getElem? (i := 762) (by decide +kernel), List.mem_of_getElem? (i := 763) (by decide +kernel)⟩
theorem lw_p29 : lw_okq (⟨"PointsToRoundsModel", "know", "()V"⟩, 44) := ⟨⟨by decide +kernel, by decide +kernel⟩, List.mem_of_getElem? (i := 561) (by decide +kernel), List.mem_of_getElem? (i := 766) (by decide +kernel), List.mem_of_getElem? (i := 767) (by decide +kernel)⟩
theorem lw_p30 : lw_okq (⟨"PointsToRoundsModel", "empty", "()V"⟩, 44) := ⟨⟨by decide +kernel, by decide +kernel⟩, List.mem_of_getElem? (i := 561) (by decide +kernel), List.mem_of_getElem? (i := 770) (by decide +kernel), List.mem_of_getElem? (i := 771) (by decide +kernel)⟩
theorem lw_p31 : lw_okq (⟨"PointsToRoundsModel", "copy", "()V"⟩, 44) := ⟨⟨by decide +kernel, by decide +kernel⟩, List.mem_of_getElem? (i := 561) (by decide +kernel), List.mem_of_getElem? (i := 774) (by decide +kernel), List.mem_of_getElem? (i := 775) (by decide +kernel)⟩
def lw_privs_2 : List (MethodName × Nat) := [(⟨"PointsToRounds$Trial", "writeSlot", "(III)V"⟩, 14), (⟨"PointsToRounds$Trial", "lookAt", "(II)V"⟩, 14), (⟨"PointsToRounds$Trial", "castObject", "(LPointsToRounds$Statement;I)V"⟩, 14), (⟨"PointsToRounds$Trial", "enterMethod", "(LPointsToRounds$Statement;I)V"⟩, 14), (⟨"PointsToRounds$Trial", "lookAtNames", "()V"⟩, 14), (⟨"PointsToRoundsModel", "change", "()V"⟩, 44), (⟨"PointsToRoundsModel", "forgetRun", "()V"⟩, 44), (⟨"PointsToRoundsModel", "isClass", "(I)Z"⟩, 44), (⟨"PointsToRoundsModel", "methodWith", "(II)I"⟩, 44), (⟨"PointsToRoundsModel", "isMethod", "(I)Z"⟩, 44), (⟨"PointsToRoundsModel", "isGood", "(IIIIII)Z"⟩, 44), (⟨"PointsToRoundsModel", "isField", "(I)Z"⟩, 44), (⟨"PointsToRoundsModel", "isContext", "(I)Z"⟩, 44), (⟨"PointsToRoundsModel", "know", "()V"⟩, 44), (⟨"PointsToRoundsModel", "empty", "()V"⟩, 44), (⟨"PointsToRoundsModel", "copy", "()V"⟩, 44)]
theorem lw_r2 : ∀ q ∈ lw_privs_2, lw_okq q := List.forall_mem_cons.mpr ⟨lw_p16, List.forall_mem_cons.mpr ⟨lw_p17, List.forall_mem_cons.mpr ⟨lw_p18, List.forall_mem_cons.mpr ⟨lw_p19, List.forall_mem_cons.mpr ⟨lw_p20, List.forall_mem_cons.mpr ⟨lw_p21, List.forall_mem_cons.mpr ⟨lw_p22, List.forall_mem_cons.mpr ⟨lw_p23, List.forall_mem_cons.mpr ⟨lw_p24, List.forall_mem_cons.mpr ⟨lw_p25, List.forall_mem_cons.mpr ⟨lw_p26, List.forall_mem_cons.mpr ⟨lw_p27, List.forall_mem_cons.mpr ⟨lw_p28, List.forall_mem_cons.mpr ⟨lw_p29, List.forall_mem_cons.mpr ⟨lw_p30, List.forall_mem_cons.mpr ⟨lw_p31, fun _ h => absurd h List.not_mem_nil⟩⟩⟩⟩⟩⟩⟩⟩⟩⟩⟩⟩⟩⟩⟩⟩
theorem lw_p32 : lw_okq (⟨"PointsToRoundsModel", "bring", "(II)V"⟩, 44) := ⟨⟨by decide +kernel, by decide +kernel⟩, List.mem_of_getElem? (i := 561) (by decide +kernel), List.mem_of_getElem? (i := 778) (by decide +kernel), List.mem_of_getElem? (i := 779) (by decide +kernel)⟩
theorem lw_p33 : lw_okq (⟨"PointsToRoundsModel", "call", "(IIII)V"⟩, 44) := ⟨⟨by decide +kernel, by decide +kernel⟩, List.mem_of_getElem? (i := 561) (by decide +kernel), List.mem_of_getElem? (i := 785) (by decide +kernel), List.mem_of_getElem? (i := 786) (by decide +kernel)⟩
theorem lw_p34 : lw_okq (⟨"PointsToRoundsModel", "found", "(II)I"⟩, 44) := ⟨⟨by decide +kernel, by decide +kernel⟩, List.mem_of_getElem? (i := 561) (by decide +kernel), List.mem_of_getElem? (i := 789) (by decide +kernel), List.mem_of_getElem? (i := 790) (by decide +kernel)⟩
theorem lw_p35 : lw_okq (⟨"PointsToRoundsModel", "bringEach", "(IIII)V"⟩, 44) := ⟨⟨by decide +kernel, by decide +kernel⟩, List.mem_of_getElem? (i := 561) (by decide +kernel), List.mem_of_getElem? (i := 793) (by decide +kernel), List.mem_of_getElem? (i := 794) (by decide +kernel)⟩
theorem lw_p36 : lw_okq (⟨"PointsToRoundsModel", "hasField", "(II)Z"⟩, 44) := ⟨⟨by decide +kernel, by decide +kernel⟩, List.mem_of_getElem? (i := 561) (by decide +kernel), List.mem_of_getElem? (i := 797) (by decide +kernel), List.mem_of_getElem? (i := 798) (by decide +kernel)⟩
theorem lw_p37 : lw_okq (⟨"PointsToRoundsModel", "isUnder", "(II)Z"⟩, 44) := ⟨⟨by decide +kernel, by decide +kernel⟩, List.mem_of_getElem? (i := 561) (by decide +kernel), List.mem_of_getElem? (i := 801) (by decide +kernel), List.mem_of_getElem? (i := 802) (by decide +kernel)⟩
theorem lw_p38 : lw_okq (⟨"PointsToRoundsModel", "isSame", "()Z"⟩, 44) := ⟨⟨by decide +kernel, by decide +kernel⟩, List.mem_of_getElem? (i := 561) (by decide +kernel), List.mem_of_getElem? (i := 805) (by decide +kernel), List.mem_of_getElem? (i := 806) (by decide +kernel)⟩
theorem lw_p39 : lw_okq (⟨"PointsToRoundsModel", "swap", "()V"⟩, 44) := ⟨⟨by decide +kernel, by decide +kernel⟩, List.mem_of_getElem? (i := 561) (by decide +kernel), List.mem_of_getElem? (i := 809) (by decide +kernel), List.mem_of_getElem? (i := 810) (by decide +kernel)⟩
theorem lw_p40 : lw_okq (⟨"PointsToRoundsModel", "note", "(I)V"⟩, 44) := ⟨⟨by decide +kernel, by decide +kernel⟩, List.mem_of_getElem? (i := 561) (by decide +kernel), List.mem_of_getElem? (i := 813) (by decide +kernel), List.mem_of_getElem? (i := 814) (by decide +kernel)⟩
theorem lw_p41 : lw_okq (⟨"PointsToRoundsModel", "allOf", "(II)I"⟩, 44) := ⟨⟨by decide +kernel, by decide +kernel⟩, List.mem_of_getElem? (i := 561) (by decide +kernel), List.mem_of_getElem? (i := 817) (by decide +kernel), List.mem_of_getElem? (i := 818) (by decide +kernel)⟩
theorem lw_p42 : lw_okq (⟨"PointsToRoundsModel", "isSite", "(I)Z"⟩, 44) := ⟨⟨by decide +kernel, by decide +kernel⟩, List.mem_of_getElem? (i := 561) (by decide +kernel), List.mem_of_getElem? (i := 825) (by decide +kernel), List.mem_of_getElem? (i := 826) (by decide +kernel)⟩
theorem lw_p43 : lw_okq (⟨"PointsToRoundsModel", "open", "(III)V"⟩, 44) := ⟨⟨by decide +kernel, by decide +kernel⟩, List.mem_of_getElem? (i := 561) (by decide +kernel), List.mem_of_getElem? (i := 861) (by decide +kernel), List.mem_of_getElem? (i := 862) (by decide +kernel)⟩
theorem lw_p44 : lw_okq (⟨"PointsToRoundsModel", "many", "(I)I"⟩, 44) := ⟨⟨by decide +kernel, by decide +kernel⟩, List.mem_of_getElem? (i := 561) (by decide +kernel), List.mem_of_getElem? (i := 867) (by decide +kernel), List.mem_of_getElem? (i := 868) (by decide +kernel)⟩
theorem lw_p45 : lw_okq (⟨"PointsToRoundsModel", "statementOf", "(II)I"⟩, 44) := ⟨⟨by decide +kernel, by decide +kernel⟩, List.mem_of_getElem? (i := 561) (by decide +kernel), List.mem_of_getElem? (i := 871) (by decide +kernel), List.mem_of_getElem? (i := 872) (by decide +kernel)⟩
theorem lw_p46 : lw_okq (⟨"PointsToRoundsModel", "act", "(I)V"⟩, 44) := ⟨⟨by decide +kernel, by decide +kernel⟩, List.mem_of_getElem? (i := 561) (by decide +kernel), List.mem_of_getElem? (i := 875) (by decide +kernel), List.mem_of_getElem? (i := 876) (by decide +kernel)⟩
theorem lw_p47 : lw_okq (⟨"PointsToRoundsModel", "make", "(II)V"⟩, 44) := ⟨⟨by decide +kernel, by decide +kernel⟩, List.mem_of_getElem? (i := 561) (by decide +kernel), List.mem_of_getElem? (i := 879) (by decide +kernel), List.mem_of_getElem? (i := 880) (by decide +kernel)⟩
def lw_privs_3 : List (MethodName × Nat) := [(⟨"PointsToRoundsModel", "bring", "(II)V"⟩, 44), (⟨"PointsToRoundsModel", "call", "(IIII)V"⟩, 44), (⟨"PointsToRoundsModel", "found", "(II)I"⟩, 44), (⟨"PointsToRoundsModel", "bringEach", "(IIII)V"⟩, 44), (⟨"PointsToRoundsModel", "hasField", "(II)Z"⟩, 44), (⟨"PointsToRoundsModel", "isUnder", "(II)Z"⟩, 44), (⟨"PointsToRoundsModel", "isSame", "()Z"⟩, 44), (⟨"PointsToRoundsModel", "swap", "()V"⟩, 44), (⟨"PointsToRoundsModel", "note", "(I)V"⟩, 44), (⟨"PointsToRoundsModel", "allOf", "(II)I"⟩, 44), (⟨"PointsToRoundsModel", "isSite", "(I)Z"⟩, 44), (⟨"PointsToRoundsModel", "open", "(III)V"⟩, 44), (⟨"PointsToRoundsModel", "many", "(I)I"⟩, 44), (⟨"PointsToRoundsModel", "statementOf", "(II)I"⟩, 44), (⟨"PointsToRoundsModel", "act", "(I)V"⟩, 44), (⟨"PointsToRoundsModel", "make", "(II)V"⟩, 44)]
theorem lw_r3 : ∀ q ∈ lw_privs_3, lw_okq q := List.forall_mem_cons.mpr ⟨lw_p32, List.forall_mem_cons.mpr ⟨lw_p33, List.forall_mem_cons.mpr ⟨lw_p34, List.forall_mem_cons.mpr ⟨lw_p35, List.forall_mem_cons.mpr ⟨lw_p36, List.forall_mem_cons.mpr ⟨lw_p37, List.forall_mem_cons.mpr ⟨lw_p38, List.forall_mem_cons.mpr ⟨lw_p39, List.forall_mem_cons.mpr ⟨lw_p40, List.forall_mem_cons.mpr ⟨lw_p41, List.forall_mem_cons.mpr ⟨lw_p42, List.forall_mem_cons.mpr ⟨lw_p43, List.forall_mem_cons.mpr ⟨lw_p44, List.forall_mem_cons.mpr ⟨lw_p45, List.forall_mem_cons.mpr ⟨lw_p46, List.forall_mem_cons.mpr ⟨lw_p47, fun _ h => absurd h List.not_mem_nil⟩⟩⟩⟩⟩⟩⟩⟩⟩⟩⟩⟩⟩⟩⟩⟩
theorem lw_p48 : lw_okq (⟨"PointsToRoundsModel", "canHave", "(II)Z"⟩, 44) := ⟨⟨by decide +kernel, by decide +kernel⟩, List.mem_of_getElem? (i := 561) (by decide +kernel), List.mem_of_getElem? (i := 883) (by decide +kernel), List.mem_of_getElem? (i := 884) (by decide +kernel)⟩
theorem lw_p49 : lw_okq (⟨"PointsToRoundsModel", "enter", "(III)V"⟩, 44) := ⟨⟨by decide +kernel, by decide +kernel⟩, List.mem_of_getElem? (i := 561) (by decide +kernel), List.mem_of_getElem? (i := 887) (by decide +kernel), List.mem_of_getElem? (i := 888) (by decide +kernel)⟩
theorem lw_p50 : lw_okq (⟨"PointsToRoundsModel", "leave", "()V"⟩, 44) := ⟨⟨by decide +kernel, by decide +kernel⟩, List.mem_of_getElem? (i := 561) (by decide +kernel), List.mem_of_getElem? (i := 891) (by decide +kernel), List.mem_of_getElem? (i := 892) (by decide +kernel)⟩
theorem lw_p51 : lw_okq (⟨"PointsToRoundsModel", "holds", "()Z"⟩, 44) := ⟨⟨by decide +kernel, by decide +kernel⟩, List.mem_of_getElem? (i := 561) (by decide +kernel), List.mem_of_getElem? (i := 895) (by decide +kernel), List.mem_of_getElem? (i := 896) (by decide +kernel)⟩
theorem lw_p52 : lw_okq (⟨"PointsToRoundsModel", "isIn", "(II)Z"⟩, 44) := ⟨⟨by decide +kernel, by decide +kernel⟩, List.mem_of_getElem? (i := 561) (by decide +kernel), List.mem_of_getElem? (i := 899) (by decide +kernel), List.mem_of_getElem? (i := 900) (by decide +kernel)⟩
def lw_privs_4 : List (MethodName × Nat) := [(⟨"PointsToRoundsModel", "canHave", "(II)Z"⟩, 44), (⟨"PointsToRoundsModel", "enter", "(III)V"⟩, 44), (⟨"PointsToRoundsModel", "leave", "()V"⟩, 44), (⟨"PointsToRoundsModel", "holds", "()Z"⟩, 44), (⟨"PointsToRoundsModel", "isIn", "(II)Z"⟩, 44)]
theorem lw_r4 : ∀ q ∈ lw_privs_4, lw_okq q := List.forall_mem_cons.mpr ⟨lw_p48, List.forall_mem_cons.mpr ⟨lw_p49, List.forall_mem_cons.mpr ⟨lw_p50, List.forall_mem_cons.mpr ⟨lw_p51, List.forall_mem_cons.mpr ⟨lw_p52, fun _ h => absurd h List.not_mem_nil⟩⟩⟩⟩⟩
def lw_privs : List (MethodName × Nat) := lw_privs_1 ++ (lw_privs_2 ++ (lw_privs_3 ++ (lw_privs_4)))
def lw_tbl : List Cond := k2_sels lw_privs ++ tables_1
theorem lw_privs_ok : ∀ q ∈ lw_privs, lw_okq q := by
  show ∀ q ∈ lw_privs_1 ++ (lw_privs_2 ++ (lw_privs_3 ++ (lw_privs_4))), lw_okq q
  exact List.forall_mem_append.mpr ⟨lw_r1, List.forall_mem_append.mpr ⟨lw_r2, List.forall_mem_append.mpr ⟨lw_r3, lw_r4⟩⟩⟩
end
section
/-! NAMES AND TABLES, by program (names.py): classes, methods, the cells of the small machine, the words of the tables -/
def TB : List Cond := lw_tbl.filter goodWord
theorem TB_good : ∀ w ∈ TB, goodWord w = true := fun w h => (List.mem_filter.mp h).2
theorem TB1 {w : Cond} (h : w ∈ tables_1_1) (g : goodWord w = true) : w ∈ TB := List.mem_filter.mpr ⟨List.mem_append_right _ (List.mem_append_left _ h), g⟩
theorem TB2 {w : Cond} (h : w ∈ tables_1_2) (g : goodWord w = true) : w ∈ TB := List.mem_filter.mpr ⟨List.mem_append_right _ (List.mem_append_right _ (List.mem_append_left _ h)), g⟩
theorem TB3 {w : Cond} (h : w ∈ tables_1_3) (g : goodWord w = true) : w ∈ TB := List.mem_filter.mpr ⟨List.mem_append_right _ (List.mem_append_right _ (List.mem_append_right _ (List.mem_append_left _ h))), g⟩
theorem TB4 {w : Cond} (h : w ∈ tables_1_4) (g : goodWord w = true) : w ∈ TB := List.mem_filter.mpr ⟨List.mem_append_right _ (List.mem_append_right _ (List.mem_append_right _ (List.mem_append_right _ h))), g⟩
theorem TBs {w : Cond} (h : w ∈ k2_sels lw_privs) (g : goodWord w = true) : w ∈ TB := List.mem_filter.mpr ⟨List.mem_append_left _ h, g⟩
def mK : Nat := 40
def RO : String := "PointsToRounds"
def TO : u_T := fun k => match k with
  | 0 => ("PointsToRounds", "program", "LPointsToRounds$Program;", true)
  | 1 => ("PointsToRounds", "sets", "LPointsToRounds$Sets;", true)
  | _ => ("PointsToRounds", "trial", "LPointsToRounds$Trial;", true)
def tyO : Nat → FieldType := fun k => match k with
  | 0 => .object "PointsToRounds$Program"
  | 1 => .object "PointsToRounds$Sets"
  | _ => .object "PointsToRounds$Trial"
theorem nmO : ∀ a, a < 3 → ∀ b, b < 3 → a ≠ b → (TO a).2.1 ≠ (TO b).2.1 := by decide +kernel
theorem tyO_ok : ∀ k, k < 3 → parseFieldDescriptor (TO k).2.2.1 = some (tyO k) := by decide +kernel
set_option maxRecDepth 20000 in
theorem inO : ∀ w ∈ u_ws RO TO 3, w ∈ TB := by
  intro w hw
  obtain ⟨k, hk, rfl⟩ := List.mem_map.mp hw
  have hk := List.mem_range.mp hk
  match k, hk with
  | 0, _ => exact TB1 (List.mem_of_getElem? (i := 228) (by decide +kernel)) rfl
  | 1, _ => exact TB1 (List.mem_of_getElem? (i := 230) (by decide +kernel)) rfl
  | 2, _ => exact TB1 (List.mem_of_getElem? (i := 232) (by decide +kernel)) rfl
  | k + 3, h => exact absurd h (by omega)
def RP : String := "PointsToRounds$Program"
def TP : u_T := fun k => match k with
  | 0 => ("PointsToRounds$Program", "classes", "I", false)
  | 1 => ("PointsToRounds$Program", "fields", "I", false)
  | 2 => ("PointsToRounds$Program", "methods", "I", false)
  | 3 => ("PointsToRounds$Program", "statements", "I", false)
  | 4 => ("PointsToRounds$Program", "sites", "I", false)
  | 5 => ("PointsToRounds$Program", "parent", "[I", true)
  | 6 => ("PointsToRounds$Program", "above", "[I", true)
  | 7 => ("PointsToRounds$Program", "sitesUnder", "[I", true)
  | 8 => ("PointsToRounds$Program", "own", "[I", true)
  | 9 => ("PointsToRounds$Program", "found", "[I", true)
  | 10 => ("PointsToRounds$Program", "fieldClass", "[I", true)
  | 11 => ("PointsToRounds$Program", "siteClass", "[I", true)
  | 12 => ("PointsToRounds$Program", "numbered", "[LPointsToRounds$Statement;", true)
  | 13 => ("PointsToRounds$Program", "length", "[I", true)
  | _ => ("PointsToRounds$Program", "order", "[I", true)
def tyP : Nat → FieldType := fun k => match k with
  | 0 => .int
  | 1 => .int
  | 2 => .int
  | 3 => .int
  | 4 => .int
  | 5 => .array .int
  | 6 => .array .int
  | 7 => .array .int
  | 8 => .array .int
  | 9 => .array .int
  | 10 => .array .int
  | 11 => .array .int
  | 12 => .array (.object "PointsToRounds$Statement")
  | 13 => .array .int
  | _ => .array .int
theorem nmP : ∀ a, a < 15 → ∀ b, b < 15 → a ≠ b → (TP a).2.1 ≠ (TP b).2.1 := by decide +kernel
theorem tyP_ok : ∀ k, k < 15 → parseFieldDescriptor (TP k).2.2.1 = some (tyP k) := by decide +kernel
set_option maxRecDepth 20000 in
theorem inP : ∀ w ∈ u_ws RP TP 15, w ∈ TB := by
  intro w hw
  obtain ⟨k, hk, rfl⟩ := List.mem_map.mp hw
  have hk := List.mem_range.mp hk
  match k, hk with
  | 0, _ => exact TB1 (List.mem_of_getElem? (i := 104) (by decide +kernel)) rfl
  | 1, _ => exact TB1 (List.mem_of_getElem? (i := 106) (by decide +kernel)) rfl
  | 2, _ => exact TB1 (List.mem_of_getElem? (i := 108) (by decide +kernel)) rfl
  | 3, _ => exact TB1 (List.mem_of_getElem? (i := 110) (by decide +kernel)) rfl
  | 4, _ => exact TB1 (List.mem_of_getElem? (i := 112) (by decide +kernel)) rfl
  | 5, _ => exact TB1 (List.mem_of_getElem? (i := 114) (by decide +kernel)) rfl
  | 6, _ => exact TB1 (List.mem_of_getElem? (i := 116) (by decide +kernel)) rfl
  | 7, _ => exact TB1 (List.mem_of_getElem? (i := 118) (by decide +kernel)) rfl
  | 8, _ => exact TB1 (List.mem_of_getElem? (i := 120) (by decide +kernel)) rfl
  | 9, _ => exact TB1 (List.mem_of_getElem? (i := 122) (by decide +kernel)) rfl
  | 10, _ => exact TB1 (List.mem_of_getElem? (i := 124) (by decide +kernel)) rfl
  | 11, _ => exact TB1 (List.mem_of_getElem? (i := 126) (by decide +kernel)) rfl
  | 12, _ => exact TB1 (List.mem_of_getElem? (i := 128) (by decide +kernel)) rfl
  | 13, _ => exact TB1 (List.mem_of_getElem? (i := 130) (by decide +kernel)) rfl
  | 14, _ => exact TB1 (List.mem_of_getElem? (i := 132) (by decide +kernel)) rfl
  | k + 15, h => exact absurd h (by omega)
def RS : String := "PointsToRounds$Sets"
def TS : u_T := fun k => match k with
  | 0 => ("PointsToRounds$Sets", "program", "LPointsToRounds$Program;", true)
  | 1 => ("PointsToRounds$Sets", "before", "[I", true)
  | 2 => ("PointsToRounds$Sets", "now", "[I", true)
  | 3 => ("PointsToRounds$Sets", "cameAt", "[I", true)
  | 4 => ("PointsToRounds$Sets", "round", "I", false)
  | 5 => ("PointsToRounds$Sets", "grown", "Z", false)
  | 6 => ("PointsToRounds$Sets", "last", "I", false)
  | 7 => ("PointsToRounds$Sets", "settled", "Z", false)
  | _ => ("PointsToRounds$Sets", "perReceiver", "Z", false)
def tyS : Nat → FieldType := fun k => match k with
  | 0 => .object "PointsToRounds$Program"
  | 1 => .array .int
  | 2 => .array .int
  | 3 => .array .int
  | 4 => .int
  | 5 => .boolean
  | 6 => .int
  | 7 => .boolean
  | _ => .boolean
theorem nmS : ∀ a, a < 9 → ∀ b, b < 9 → a ≠ b → (TS a).2.1 ≠ (TS b).2.1 := by decide +kernel
theorem tyS_ok : ∀ k, k < 9 → parseFieldDescriptor (TS k).2.2.1 = some (tyS k) := by decide +kernel
set_option maxRecDepth 20000 in
theorem inS : ∀ w ∈ u_ws RS TS 9, w ∈ TB := by
  intro w hw
  obtain ⟨k, hk, rfl⟩ := List.mem_map.mp hw
  have hk := List.mem_range.mp hk
  match k, hk with
  | 0, _ => exact TB1 (List.mem_of_getElem? (i := 153) (by decide +kernel)) rfl
  | 1, _ => exact TB1 (List.mem_of_getElem? (i := 155) (by decide +kernel)) rfl
  | 2, _ => exact TB1 (List.mem_of_getElem? (i := 157) (by decide +kernel)) rfl
  | 3, _ => exact TB1 (List.mem_of_getElem? (i := 159) (by decide +kernel)) rfl
  | 4, _ => exact TB1 (List.mem_of_getElem? (i := 161) (by decide +kernel)) rfl
  | 5, _ => exact TB1 (List.mem_of_getElem? (i := 163) (by decide +kernel)) rfl
  | 6, _ => exact TB1 (List.mem_of_getElem? (i := 165) (by decide +kernel)) rfl
  | 7, _ => exact TB1 (List.mem_of_getElem? (i := 167) (by decide +kernel)) rfl
  | 8, _ => exact TB1 (List.mem_of_getElem? (i := 169) (by decide +kernel)) rfl
  | k + 9, h => exact absurd h (by omega)
def RT : String := "PointsToRounds$Trial"
def TT : u_T := fun k => match k with
  | 0 => ("PointsToRounds$Trial", "program", "LPointsToRounds$Program;", true)
  | 1 => ("PointsToRounds$Trial", "sets", "LPointsToRounds$Sets;", true)
  | 2 => ("PointsToRounds$Trial", "siteOf", "[I", true)
  | 3 => ("PointsToRounds$Trial", "slots", "[I", true)
  | 4 => ("PointsToRounds$Trial", "statics", "[I", true)
  | 5 => ("PointsToRounds$Trial", "names", "[I", true)
  | 6 => ("PointsToRounds$Trial", "frameMethod", "[I", true)
  | 7 => ("PointsToRounds$Trial", "frameContext", "[I", true)
  | 8 => ("PointsToRounds$Trial", "frameTarget", "[I", true)
  | 9 => ("PointsToRounds$Trial", "metSites", "[I", true)
  | 10 => ("PointsToRounds$Trial", "holding", "Z", false)
  | 11 => ("PointsToRounds$Trial", "objects", "I", false)
  | 12 => ("PointsToRounds$Trial", "frames", "I", false)
  | _ => ("PointsToRounds$Trial", "calls", "I", false)
def tyT : Nat → FieldType := fun k => match k with
  | 0 => .object "PointsToRounds$Program"
  | 1 => .object "PointsToRounds$Sets"
  | 2 => .array .int
  | 3 => .array .int
  | 4 => .array .int
  | 5 => .array .int
  | 6 => .array .int
  | 7 => .array .int
  | 8 => .array .int
  | 9 => .array .int
  | 10 => .boolean
  | 11 => .int
  | 12 => .int
  | _ => .int
theorem nmT : ∀ a, a < 14 → ∀ b, b < 14 → a ≠ b → (TT a).2.1 ≠ (TT b).2.1 := by decide +kernel
theorem tyT_ok : ∀ k, k < 14 → parseFieldDescriptor (TT k).2.2.1 = some (tyT k) := by decide +kernel
set_option maxRecDepth 20000 in
theorem inT : ∀ w ∈ u_ws RT TT 14, w ∈ TB := by
  intro w hw
  obtain ⟨k, hk, rfl⟩ := List.mem_map.mp hw
  have hk := List.mem_range.mp hk
  match k, hk with
  | 0, _ => exact TB1 (List.mem_of_getElem? (i := 196) (by decide +kernel)) rfl
  | 1, _ => exact TB1 (List.mem_of_getElem? (i := 198) (by decide +kernel)) rfl
  | 2, _ => exact TB1 (List.mem_of_getElem? (i := 200) (by decide +kernel)) rfl
  | 3, _ => exact TB1 (List.mem_of_getElem? (i := 202) (by decide +kernel)) rfl
  | 4, _ => exact TB1 (List.mem_of_getElem? (i := 204) (by decide +kernel)) rfl
  | 5, _ => exact TB1 (List.mem_of_getElem? (i := 206) (by decide +kernel)) rfl
  | 6, _ => exact TB1 (List.mem_of_getElem? (i := 208) (by decide +kernel)) rfl
  | 7, _ => exact TB1 (List.mem_of_getElem? (i := 210) (by decide +kernel)) rfl
  | 8, _ => exact TB1 (List.mem_of_getElem? (i := 212) (by decide +kernel)) rfl
  | 9, _ => exact TB1 (List.mem_of_getElem? (i := 214) (by decide +kernel)) rfl
  | 10, _ => exact TB1 (List.mem_of_getElem? (i := 216) (by decide +kernel)) rfl
  | 11, _ => exact TB1 (List.mem_of_getElem? (i := 218) (by decide +kernel)) rfl
  | 12, _ => exact TB1 (List.mem_of_getElem? (i := 220) (by decide +kernel)) rfl
  | 13, _ => exact TB1 (List.mem_of_getElem? (i := 222) (by decide +kernel)) rfl
  | k + 14, h => exact absurd h (by omega)
def RG : String := "PointsToRounds$Statement"
def TG : u_T := fun k => match k with
  | 0 => ("PointsToRounds$Statement", "method", "I", false)
  | 1 => ("PointsToRounds$Statement", "site", "I", false)
  | 2 => ("PointsToRounds$Statement", "kind", "I", false)
  | 3 => ("PointsToRounds$Statement", "p", "I", false)
  | 4 => ("PointsToRounds$Statement", "q", "I", false)
  | 5 => ("PointsToRounds$Statement", "\u0072", "I", false)
  | 6 => ("PointsToRounds$Statement", "s", "I", false)
  | _ => ("PointsToRounds$Statement", "t", "I", false)
def tyG : Nat → FieldType := fun k => match k with
  | 0 => .int
  | 1 => .int
  | 2 => .int
  | 3 => .int
  | 4 => .int
  | 5 => .int
  | 6 => .int
  | _ => .int
theorem nmG : ∀ a, a < 8 → ∀ b, b < 8 → a ≠ b → (TG a).2.1 ≠ (TG b).2.1 := by decide +kernel
theorem tyG_ok : ∀ k, k < 8 → parseFieldDescriptor (TG k).2.2.1 = some (tyG k) := by decide +kernel
set_option maxRecDepth 20000 in
theorem inG : ∀ w ∈ u_ws RG TG 8, w ∈ TB := by
  intro w hw
  obtain ⟨k, hk, rfl⟩ := List.mem_map.mp hw
  have hk := List.mem_range.mp hk
  match k, hk with
  | 0, _ => exact TB1 (List.mem_of_getElem? (i := 59) (by decide +kernel)) rfl
  | 1, _ => exact TB1 (List.mem_of_getElem? (i := 61) (by decide +kernel)) rfl
  | 2, _ => exact TB1 (List.mem_of_getElem? (i := 63) (by decide +kernel)) rfl
  | 3, _ => exact TB1 (List.mem_of_getElem? (i := 65) (by decide +kernel)) rfl
  | 4, _ => exact TB1 (List.mem_of_getElem? (i := 67) (by decide +kernel)) rfl
  | 5, _ => exact TB1 (List.mem_of_getElem? (i := 69) (by decide +kernel)) rfl
  | 6, _ => exact TB1 (List.mem_of_getElem? (i := 71) (by decide +kernel)) rfl
  | 7, _ => exact TB1 (List.mem_of_getElem? (i := 73) (by decide +kernel)) rfl
  | k + 8, h => exact absurd h (by omega)
def RM : String := "PointsToRoundsModel"
def TM : u_T := fun k => match k with
  | 0 => ("PointsToRoundsModel", "classes", "I", false)
  | 1 => ("PointsToRoundsModel", "parents", "[I", true)
  | 2 => ("PointsToRoundsModel", "fields", "I", false)
  | 3 => ("PointsToRoundsModel", "fieldOf", "[I", true)
  | 4 => ("PointsToRoundsModel", "methods", "I", false)
  | 5 => ("PointsToRoundsModel", "methodOf", "[I", true)
  | 6 => ("PointsToRoundsModel", "signatures", "[I", true)
  | 7 => ("PointsToRoundsModel", "statements", "I", false)
  | 8 => ("PointsToRoundsModel", "owner", "[I", true)
  | 9 => ("PointsToRoundsModel", "kinds", "[I", true)
  | 10 => ("PointsToRoundsModel", "pOf", "[I", true)
  | 11 => ("PointsToRoundsModel", "qOf", "[I", true)
  | 12 => ("PointsToRoundsModel", "rOf", "[I", true)
  | 13 => ("PointsToRoundsModel", "sOf", "[I", true)
  | 14 => ("PointsToRoundsModel", "tOf", "[I", true)
  | 15 => ("PointsToRoundsModel", "siteOf", "[I", true)
  | 16 => ("PointsToRoundsModel", "sites", "I", false)
  | 17 => ("PointsToRoundsModel", "siteClass", "[I", true)
  | 18 => ("PointsToRoundsModel", "mode", "I", false)
  | 19 => ("PointsToRoundsModel", "known", "Z", false)
  | 20 => ("PointsToRoundsModel", "nameNow", "[I", true)
  | 21 => ("PointsToRoundsModel", "nameThen", "[I", true)
  | 22 => ("PointsToRoundsModel", "fieldNow", "[I", true)
  | 23 => ("PointsToRoundsModel", "fieldThen", "[I", true)
  | 24 => ("PointsToRoundsModel", "elementNow", "[I", true)
  | 25 => ("PointsToRoundsModel", "elementThen", "[I", true)
  | 26 => ("PointsToRoundsModel", "staticNow", "[I", true)
  | 27 => ("PointsToRoundsModel", "staticThen", "[I", true)
  | 28 => ("PointsToRoundsModel", "reachNow", "[I", true)
  | 29 => ("PointsToRoundsModel", "reachThen", "[I", true)
  | 30 => ("PointsToRoundsModel", "whenOf", "[I", true)
  | 31 => ("PointsToRoundsModel", "last", "I", false)
  | 32 => ("PointsToRoundsModel", "objects", "I", false)
  | 33 => ("PointsToRoundsModel", "objectSite", "[I", true)
  | 34 => ("PointsToRoundsModel", "objectField", "[I", true)
  | 35 => ("PointsToRoundsModel", "objectElement", "[I", true)
  | 36 => ("PointsToRoundsModel", "statics", "[I", true)
  | 37 => ("PointsToRoundsModel", "frames", "I", false)
  | 38 => ("PointsToRoundsModel", "frameMethod", "[I", true)
  | 39 => ("PointsToRoundsModel", "frameContext", "[I", true)
  | 40 => ("PointsToRoundsModel", "frameTo", "[I", true)
  | 41 => ("PointsToRoundsModel", "frameName", "[I", true)
  | 42 => ("PointsToRoundsModel", "metOf", "[I", true)
  | _ => ("PointsToRoundsModel", "calls", "I", false)
def tyM : Nat → FieldType := fun k => match k with
  | 0 => .int
  | 1 => .array .int
  | 2 => .int
  | 3 => .array .int
  | 4 => .int
  | 5 => .array .int
  | 6 => .array .int
  | 7 => .int
  | 8 => .array .int
  | 9 => .array .int
  | 10 => .array .int
  | 11 => .array .int
  | 12 => .array .int
  | 13 => .array .int
  | 14 => .array .int
  | 15 => .array .int
  | 16 => .int
  | 17 => .array .int
  | 18 => .int
  | 19 => .boolean
  | 20 => .array .int
  | 21 => .array .int
  | 22 => .array .int
  | 23 => .array .int
  | 24 => .array .int
  | 25 => .array .int
  | 26 => .array .int
  | 27 => .array .int
  | 28 => .array .int
  | 29 => .array .int
  | 30 => .array .int
  | 31 => .int
  | 32 => .int
  | 33 => .array .int
  | 34 => .array .int
  | 35 => .array .int
  | 36 => .array .int
  | 37 => .int
  | 38 => .array .int
  | 39 => .array .int
  | 40 => .array .int
  | 41 => .array .int
  | 42 => .array .int
  | _ => .int
theorem nmM : ∀ a, a < 44 → ∀ b, b < 44 → a ≠ b → (TM a).2.1 ≠ (TM b).2.1 := by decide +kernel
theorem tyM_ok : ∀ k, k < 44 → parseFieldDescriptor (TM k).2.2.1 = some (tyM k) := by decide +kernel
set_option maxRecDepth 20000 in
theorem inM : ∀ w ∈ u_ws RM TM 44, w ∈ TB := by
  intro w hw
  obtain ⟨k, hk, rfl⟩ := List.mem_map.mp hw
  have hk := List.mem_range.mp hk
  match k, hk with
  | 0, _ => exact TB3 (List.mem_of_getElem? (i := 130) (by decide +kernel)) rfl
  | 1, _ => exact TB3 (List.mem_of_getElem? (i := 132) (by decide +kernel)) rfl
  | 2, _ => exact TB3 (List.mem_of_getElem? (i := 134) (by decide +kernel)) rfl
  | 3, _ => exact TB3 (List.mem_of_getElem? (i := 136) (by decide +kernel)) rfl
  | 4, _ => exact TB3 (List.mem_of_getElem? (i := 138) (by decide +kernel)) rfl
  | 5, _ => exact TB3 (List.mem_of_getElem? (i := 140) (by decide +kernel)) rfl
  | 6, _ => exact TB3 (List.mem_of_getElem? (i := 142) (by decide +kernel)) rfl
  | 7, _ => exact TB3 (List.mem_of_getElem? (i := 144) (by decide +kernel)) rfl
  | 8, _ => exact TB3 (List.mem_of_getElem? (i := 146) (by decide +kernel)) rfl
  | 9, _ => exact TB3 (List.mem_of_getElem? (i := 148) (by decide +kernel)) rfl
  | 10, _ => exact TB3 (List.mem_of_getElem? (i := 150) (by decide +kernel)) rfl
  | 11, _ => exact TB3 (List.mem_of_getElem? (i := 152) (by decide +kernel)) rfl
  | 12, _ => exact TB3 (List.mem_of_getElem? (i := 154) (by decide +kernel)) rfl
  | 13, _ => exact TB3 (List.mem_of_getElem? (i := 156) (by decide +kernel)) rfl
  | 14, _ => exact TB3 (List.mem_of_getElem? (i := 158) (by decide +kernel)) rfl
  | 15, _ => exact TB3 (List.mem_of_getElem? (i := 160) (by decide +kernel)) rfl
  | 16, _ => exact TB3 (List.mem_of_getElem? (i := 162) (by decide +kernel)) rfl
  | 17, _ => exact TB3 (List.mem_of_getElem? (i := 164) (by decide +kernel)) rfl
  | 18, _ => exact TB3 (List.mem_of_getElem? (i := 166) (by decide +kernel)) rfl
  | 19, _ => exact TB3 (List.mem_of_getElem? (i := 168) (by decide +kernel)) rfl
  | 20, _ => exact TB3 (List.mem_of_getElem? (i := 170) (by decide +kernel)) rfl
  | 21, _ => exact TB3 (List.mem_of_getElem? (i := 172) (by decide +kernel)) rfl
  | 22, _ => exact TB3 (List.mem_of_getElem? (i := 174) (by decide +kernel)) rfl
  | 23, _ => exact TB3 (List.mem_of_getElem? (i := 176) (by decide +kernel)) rfl
  | 24, _ => exact TB3 (List.mem_of_getElem? (i := 178) (by decide +kernel)) rfl
  | 25, _ => exact TB3 (List.mem_of_getElem? (i := 180) (by decide +kernel)) rfl
  | 26, _ => exact TB3 (List.mem_of_getElem? (i := 182) (by decide +kernel)) rfl
  | 27, _ => exact TB3 (List.mem_of_getElem? (i := 184) (by decide +kernel)) rfl
  | 28, _ => exact TB3 (List.mem_of_getElem? (i := 186) (by decide +kernel)) rfl
  | 29, _ => exact TB3 (List.mem_of_getElem? (i := 188) (by decide +kernel)) rfl
  | 30, _ => exact TB3 (List.mem_of_getElem? (i := 190) (by decide +kernel)) rfl
  | 31, _ => exact TB3 (List.mem_of_getElem? (i := 192) (by decide +kernel)) rfl
  | 32, _ => exact TB3 (List.mem_of_getElem? (i := 194) (by decide +kernel)) rfl
  | 33, _ => exact TB3 (List.mem_of_getElem? (i := 196) (by decide +kernel)) rfl
  | 34, _ => exact TB3 (List.mem_of_getElem? (i := 198) (by decide +kernel)) rfl
  | 35, _ => exact TB3 (List.mem_of_getElem? (i := 200) (by decide +kernel)) rfl
  | 36, _ => exact TB3 (List.mem_of_getElem? (i := 202) (by decide +kernel)) rfl
  | 37, _ => exact TB3 (List.mem_of_getElem? (i := 204) (by decide +kernel)) rfl
  | 38, _ => exact TB3 (List.mem_of_getElem? (i := 206) (by decide +kernel)) rfl
  | 39, _ => exact TB3 (List.mem_of_getElem? (i := 208) (by decide +kernel)) rfl
  | 40, _ => exact TB3 (List.mem_of_getElem? (i := 210) (by decide +kernel)) rfl
  | 41, _ => exact TB3 (List.mem_of_getElem? (i := 212) (by decide +kernel)) rfl
  | 42, _ => exact TB3 (List.mem_of_getElem? (i := 214) (by decide +kernel)) rfl
  | 43, _ => exact TB3 (List.mem_of_getElem? (i := 216) (by decide +kernel)) rfl
  | k + 44, h => exact absurd h (by omega)
abbrev vwCl : List vw_C := [(RO, TO, 3), (RP, TP, 15), (RS, TS, 9), (RT, TT, 14), (RG, TG, 8), (RM, TM, 44)]
def aLens : List Nat := [0, 0, 0, 0, 8, 8, 8, 32, 32, 8, 20, 10, 600, 1454, 1454, 1200, 30, 270, 4, 60, 10, 10, 10, 60, 0, 0, 8, 8, 10, 10, 60, 60, 60, 60, 60, 60, 60, 60, 20, 1260, 1260, 160, 160, 20, 20, 4, 4, 10, 10, 1200, 30, 240, 30, 4, 10, 10, 10, 60, 60]
def a_n (k : Nat) : Nat := aLens.getD k 0
def oCi : List (Option Nat) := [some 0, some 1, some 2, some 3, none, none, none, none, none, none, none, none, none, none, none, none, none, none, none, none, none, none, none, none, none, some 5, none, none, none, none, none, none, none, none, none, none, none, none, none, none, none, none, none, none, none, none, none, none, none, none, none, none, none, none, none, none, none, none, none]
def o_ci (k : Nat) : Option Nat := if k < 59 then oCi.getD k none else if k < 119 then some 4 else none
def oN : List Nat := [3, 15, 9, 14, 0, 0, 0, 0, 0, 0, 0, 0, 0, 0, 0, 0, 0, 0, 0, 0, 0, 0, 0, 0, 0, 44, 0, 0, 0, 0, 0, 0, 0, 0, 0, 0, 0, 0, 0, 0, 0, 0, 0, 0, 0, 0, 0, 0, 0, 0, 0, 0, 0, 0, 0, 0, 0, 0, 0]
def o_n (k : Nat) : Nat := if k < 59 then oN.getD k 0 else 8
def oR : List (List (Option Nat)) := [[some 1, some 2, some 3], [none, none, none, none, none, some 4, some 5, some 6, some 7, some 8, some 9, some 10, some 24, some 11, some 12], [some 1, some 13, some 14, some 15, none, none, none, none, none], [some 1, some 2, some 16, some 17, some 18, some 19, some 20, some 21, some 22, some 23, none, none, none, none], [], [], [], [], [], [], [], [], [], [], [], [], [], [], [], [], [], [], [], [], [], [none, some 26, none, some 27, none, some 28, some 29, none, some 30, some 31, some 32, some 33, some 34, some 35, some 36, some 37, none, some 38, none, none, some 39, some 40, some 41, some 42, some 43, some 44, some 45, some 46, some 47, some 48, some 49, none, none, some 50, some 51, some 52, some 53, none, some 54, some 55, some 56, some 57, some 58, none], [], [], [], [], [], [], [], [], [], [], [], [], [], [], [], [], [], [], [], [], [], [], [], [], [], [], [], [], [], [], [], [], []]
def o_r (k j : Nat) : Option Nat := (oR.getD k []).getD j none
theorem a_n_pos (k : Nat) (h : 0 < a_n k) : k < 119 ∧ o_ci k = none ∧ ¬ k = 24 := by
  have hk : k < 59 := by
    rcases Nat.lt_or_ge k 59 with q | q
    · exact q
    · have e : a_n k = 0 := by
        unfold a_n
        rw [List.getD_eq_getElem?_getD, List.getElem?_eq_none (by simpa [aLens] using q)]
        rfl
      omega
  have g : ∀ k, k < 59 → 0 < a_n k → k < 119 ∧ o_ci k = none ∧ ¬ k = 24 := by decide +kernel
  exact g k hk h
theorem o_ci_lt {k ci : Nat} (h : o_ci k = some ci) : k < 119 := by
  unfold o_ci at h
  split at h
  · omega
  · split at h
    · assumption
    · cases h
def m_cl (q : Nat × Nat) : Nat := if q.1 = 59 then 59 + q.2 % 60 else q.1
theorem m_cl_st (n : Nat) : m_cl (59, n) = 59 + n % 60 := if_pos rfl
theorem o_ci_st (n : Nat) : o_ci (m_cl (59, n)) = some 4 := by
  have h := Nat.mod_lt n (show 0 < 60 by decide)
  rw [m_cl_st]
  unfold o_ci
  rw [if_neg (by omega), if_pos (by omega)]
theorem o_n_st (n : Nat) : o_n (m_cl (59, n)) = 8 := by
  rw [m_cl_st]
  unfold o_n
  rw [if_neg (by omega)]
theorem o_r_st (n j : Nat) : o_r (m_cl (59, n)) j = none := by
  rw [m_cl_st]
  unfold o_r
  rw [List.getD_eq_getElem?_getD (l := oR), List.getElem?_eq_none (by simp [oR])]
  rfl
def NWl : List (String × Nat × MethodName × String) := [("PointsToRounds$Program", 45, ⟨"PointsToRounds$Statement", "<init>", "()V"⟩, "PointsToRounds"), ("PointsToRounds$Program", 60, ⟨"PointsToRounds", "isName", "(I)Z"⟩, "PointsToRounds"), ("PointsToRounds$Program", 75, ⟨"PointsToRounds", "isStatic", "(I)Z"⟩, "PointsToRounds"), ("PointsToRounds$Program", 98, ⟨"PointsToRounds", "hasBit", "(II)Z"⟩, "PointsToRounds"), ("PointsToRounds$Sets", 70, ⟨"PointsToRounds", "hasBit", "(II)Z"⟩, "PointsToRounds"), ("PointsToRounds$Sets", 35, ⟨"PointsToRounds", "namesOf", "(II)I"⟩, "PointsToRounds"), ("PointsToRounds$Sets", 123, ⟨"PointsToRounds", "slotPlace", "(II)I"⟩, "PointsToRounds"), ("PointsToRounds$Trial", 135, ⟨"PointsToRounds", "hasBit", "(II)Z"⟩, "PointsToRounds"), ("PointsToRounds$Trial", 146, ⟨"PointsToRounds", "slotPlace", "(II)I"⟩, "PointsToRounds"), ("PointsToRounds$Trial", 167, ⟨"PointsToRounds", "namesOf", "(II)I"⟩, "PointsToRounds")]
def NW : List Cond := NWl.map (fun q => Cond.methodLinkNest q.1 q.2.1 q.2.2.1 q.2.2.2)
theorem NW_on : ∀ w ∈ NW, w.onTables = true := by
  intro w hw
  obtain ⟨q, -, rfl⟩ := List.mem_map.mp hw
  rfl
theorem NW_tb : ∀ w ∈ NW, w ∈ tables_1 := by decide +kernel
/-- the table's words of private members across the nest -/
def m_N (s : State) : Prop := ∀ w ∈ NW, va_Nw w s
theorem m_N.warm {s U : State} (hW : s.WarmedH U.vm) (h : m_N s) : m_N U := by
  intro w hw
  obtain ⟨q, hq, rfl⟩ := List.mem_map.mp hw
  exact va_Nw.warmM hW (h _ hw)
/-- arraycopy's words -/
def m_cpw (own : String) (index : Nat) : Prop := Cond.methodLink own index arraycopyName ∈ TB ∧ Cond.native arraycopyName ∈ TB ∧ Cond.static arraycopyName ∈ TB ∧ Cond.initialized "java/lang/System" ∈ TB
abbrev mM : Type := MethodName × ByteArray × Nat × Nat × Option FieldType
abbrev M_O_cls : mM := (⟨"PointsToRounds", "cls", "(I)I"⟩, prog_1_method_2_code, 2, 3, (some .int))
abbrev M_O_field : mM := (⟨"PointsToRounds", "field", "(I)I"⟩, prog_1_method_3_code, 2, 3, (some .int))
abbrev M_O_method : mM := (⟨"PointsToRounds", "method", "(II)I"⟩, prog_1_method_4_code, 3, 3, (some .int))
abbrev M_O_statement : mM := (⟨"PointsToRounds", "statement", "(IIIIIII)I"⟩, prog_1_method_5_code, 8, 3, (some .int))
abbrev M_O_mode : mM := (⟨"PointsToRounds", "mode", "(I)I"⟩, prog_1_method_6_code, 3, 3, (some .int))
abbrev M_O_clear : mM := (⟨"PointsToRounds", "clear", "()I"⟩, prog_1_method_7_code, 2, 3, (some .int))
abbrev M_O_points : mM := (⟨"PointsToRounds", "points", "(III)I"⟩, prog_1_method_8_code, 4, 6, (some .int))
abbrev M_O_inField : mM := (⟨"PointsToRounds", "inField", "(II)I"⟩, prog_1_method_9_code, 3, 6, (some .int))
abbrev M_O_element : mM := (⟨"PointsToRounds", "element", "(I)I"⟩, prog_1_method_10_code, 2, 6, (some .int))
abbrev M_O_inStatic : mM := (⟨"PointsToRounds", "inStatic", "(I)I"⟩, prog_1_method_11_code, 2, 6, (some .int))
abbrev M_O_reached : mM := (⟨"PointsToRounds", "reached", "(I)I"⟩, prog_1_method_12_code, 2, 6, (some .int))
abbrev M_O_may : mM := (⟨"PointsToRounds", "may", "(I)I"⟩, prog_1_method_13_code, 4, 6, (some .int))
abbrev M_O_alias : mM := (⟨"PointsToRounds", "alias", "(IIII)I"⟩, prog_1_method_14_code, 6, 6, (some .int))
abbrev M_O_rounds : mM := (⟨"PointsToRounds", "rounds", "()I"⟩, prog_1_method_15_code, 1, 6, (some .int))
abbrev M_O_when : mM := (⟨"PointsToRounds", "when", "(III)I"⟩, prog_1_method_16_code, 5, 6, (some .int))
abbrev M_O_run : mM := (⟨"PointsToRounds", "run", "(II)I"⟩, prog_1_method_17_code, 3, 7, (some .int))
abbrev M_O_met : mM := (⟨"PointsToRounds", "met", "(II)I"⟩, prog_1_method_18_code, 3, 2, (some .int))
abbrev M_O_ran : mM := (⟨"PointsToRounds", "ran", "(I)I"⟩, prog_1_method_19_code, 2, 0, (some .int))
abbrev M_O_forgetAnswers : mM := (⟨"PointsToRounds", "forgetAnswers", "()V"⟩, prog_1_method_20_code, 1, 2, none)
abbrev M_O_isName : mM := (⟨"PointsToRounds", "isName", "(I)Z"⟩, prog_1_method_21_code, 1, 0, (some .boolean))
abbrev M_O_isStatic : mM := (⟨"PointsToRounds", "isStatic", "(I)Z"⟩, prog_1_method_22_code, 1, 0, (some .boolean))
abbrev M_O_isSignature : mM := (⟨"PointsToRounds", "isSignature", "(I)Z"⟩, prog_1_method_23_code, 1, 0, (some .boolean))
abbrev M_O_hasBit : mM := (⟨"PointsToRounds", "hasBit", "(II)Z"⟩, prog_1_method_24_code, 2, 0, (some .boolean))
abbrev M_O_namesOf : mM := (⟨"PointsToRounds", "namesOf", "(II)I"⟩, prog_1_method_25_code, 2, 0, (some .int))
abbrev M_O_slotPlace : mM := (⟨"PointsToRounds", "slotPlace", "(II)I"⟩, prog_1_method_26_code, 2, 0, (some .int))
abbrev M_M_isClass : mM := (⟨"PointsToRoundsModel", "isClass", "(I)Z"⟩, prog_7_method_2_code, 2, 0, (some .boolean))
abbrev M_M_isField : mM := (⟨"PointsToRoundsModel", "isField", "(I)Z"⟩, prog_7_method_3_code, 2, 0, (some .boolean))
abbrev M_M_isMethod : mM := (⟨"PointsToRoundsModel", "isMethod", "(I)Z"⟩, prog_7_method_4_code, 2, 0, (some .boolean))
abbrev M_M_isName : mM := (⟨"PointsToRoundsModel", "isName", "(I)Z"⟩, prog_7_method_5_code, 1, 0, (some .boolean))
abbrev M_M_isStatic : mM := (⟨"PointsToRoundsModel", "isStatic", "(I)Z"⟩, prog_7_method_6_code, 1, 0, (some .boolean))
abbrev M_M_isUnder : mM := (⟨"PointsToRoundsModel", "isUnder", "(II)Z"⟩, prog_7_method_7_code, 4, 0, (some .boolean))
abbrev M_M_hasField : mM := (⟨"PointsToRoundsModel", "hasField", "(II)Z"⟩, prog_7_method_8_code, 3, 1, (some .boolean))
abbrev M_M_methodWith : mM := (⟨"PointsToRoundsModel", "methodWith", "(II)I"⟩, prog_7_method_9_code, 4, 0, (some .int))
abbrev M_M_found : mM := (⟨"PointsToRoundsModel", "found", "(II)I"⟩, prog_7_method_10_code, 5, 1, (some .int))
abbrev M_M_change : mM := (⟨"PointsToRoundsModel", "change", "()V"⟩, prog_7_method_11_code, 1, 1, none)
abbrev M_M_cls : mM := (⟨"PointsToRoundsModel", "cls", "(I)I"⟩, prog_7_method_12_code, 2, 2, (some .int))
abbrev M_M_field : mM := (⟨"PointsToRoundsModel", "field", "(I)I"⟩, prog_7_method_13_code, 2, 2, (some .int))
abbrev M_M_method : mM := (⟨"PointsToRoundsModel", "method", "(II)I"⟩, prog_7_method_14_code, 3, 2, (some .int))
abbrev M_M_isGood : mM := (⟨"PointsToRoundsModel", "isGood", "(IIIIII)Z"⟩, prog_7_method_15_code, 7, 1, (some .boolean))
abbrev M_M_statement : mM := (⟨"PointsToRoundsModel", "statement", "(IIIIIII)I"⟩, prog_7_method_16_code, 9, 2, (some .int))
abbrev M_M_mode : mM := (⟨"PointsToRoundsModel", "mode", "(I)I"⟩, prog_7_method_17_code, 3, 2, (some .int))
abbrev M_M_clear : mM := (⟨"PointsToRoundsModel", "clear", "()I"⟩, prog_7_method_18_code, 2, 2, (some .int))
abbrev M_M_nameAt : mM := (⟨"PointsToRoundsModel", "nameAt", "(III)I"⟩, prog_7_method_19_code, 3, 0, (some .int))
abbrev M_M_empty : mM := (⟨"PointsToRoundsModel", "empty", "()V"⟩, prog_7_method_20_code, 2, 0, none)
abbrev M_M_copy : mM := (⟨"PointsToRoundsModel", "copy", "()V"⟩, prog_7_method_21_code, 2, 0, none)
abbrev M_M_isSame : mM := (⟨"PointsToRoundsModel", "isSame", "()Z"⟩, prog_7_method_22_code, 3, 0, (some .boolean))
abbrev M_M_bring : mM := (⟨"PointsToRoundsModel", "bring", "(II)V"⟩, prog_7_method_23_code, 7, 3, none)
abbrev M_M_bringEach : mM := (⟨"PointsToRoundsModel", "bringEach", "(IIII)V"⟩, prog_7_method_24_code, 8, 2, none)
abbrev M_M_call : mM := (⟨"PointsToRoundsModel", "call", "(IIII)V"⟩, prog_7_method_25_code, 10, 2, none)
abbrev M_M_swap : mM := (⟨"PointsToRoundsModel", "swap", "()V"⟩, prog_7_method_26_code, 2, 0, none)
abbrev M_M_allOf : mM := (⟨"PointsToRoundsModel", "allOf", "(II)I"⟩, prog_7_method_27_code, 5, 1, (some .int))
abbrev M_M_note : mM := (⟨"PointsToRoundsModel", "note", "(I)V"⟩, prog_7_method_28_code, 7, 2, none)
abbrev M_M_know : mM := (⟨"PointsToRoundsModel", "know", "()V"⟩, prog_7_method_29_code, 4, 4, none)
abbrev M_M_isContext : mM := (⟨"PointsToRoundsModel", "isContext", "(I)Z"⟩, prog_7_method_30_code, 2, 0, (some .boolean))
abbrev M_M_points : mM := (⟨"PointsToRoundsModel", "points", "(III)I"⟩, prog_7_method_31_code, 4, 5, (some .int))
abbrev M_M_isSite : mM := (⟨"PointsToRoundsModel", "isSite", "(I)Z"⟩, prog_7_method_32_code, 2, 0, (some .boolean))
abbrev M_M_inField : mM := (⟨"PointsToRoundsModel", "inField", "(II)I"⟩, prog_7_method_33_code, 3, 5, (some .int))
abbrev M_M_element : mM := (⟨"PointsToRoundsModel", "element", "(I)I"⟩, prog_7_method_34_code, 2, 5, (some .int))
abbrev M_M_inStatic : mM := (⟨"PointsToRoundsModel", "inStatic", "(I)I"⟩, prog_7_method_35_code, 2, 5, (some .int))
abbrev M_M_reached : mM := (⟨"PointsToRoundsModel", "reached", "(I)I"⟩, prog_7_method_36_code, 4, 5, (some .int))
abbrev M_M_may : mM := (⟨"PointsToRoundsModel", "may", "(I)I"⟩, prog_7_method_37_code, 6, 5, (some .int))
abbrev M_M_alias : mM := (⟨"PointsToRoundsModel", "alias", "(IIII)I"⟩, prog_7_method_38_code, 5, 5, (some .int))
abbrev M_M_rounds : mM := (⟨"PointsToRoundsModel", "rounds", "()I"⟩, prog_7_method_39_code, 1, 5, (some .int))
abbrev M_M_when : mM := (⟨"PointsToRoundsModel", "when", "(III)I"⟩, prog_7_method_40_code, 5, 5, (some .int))
abbrev M_M_forgetRun : mM := (⟨"PointsToRoundsModel", "forgetRun", "()V"⟩, prog_7_method_41_code, 2, 0, none)
abbrev M_M_open : mM := (⟨"PointsToRoundsModel", "open", "(III)V"⟩, prog_7_method_42_code, 5, 0, none)
abbrev M_M_statementOf : mM := (⟨"PointsToRoundsModel", "statementOf", "(II)I"⟩, prog_7_method_43_code, 5, 0, (some .int))
abbrev M_M_many : mM := (⟨"PointsToRoundsModel", "many", "(I)I"⟩, prog_7_method_44_code, 4, 0, (some .int))
abbrev M_M_canHave : mM := (⟨"PointsToRoundsModel", "canHave", "(II)Z"⟩, prog_7_method_45_code, 3, 2, (some .boolean))
abbrev M_M_make : mM := (⟨"PointsToRoundsModel", "make", "(II)V"⟩, prog_7_method_46_code, 4, 0, none)
abbrev M_M_enter : mM := (⟨"PointsToRoundsModel", "enter", "(III)V"⟩, prog_7_method_47_code, 7, 2, none)
abbrev M_M_act : mM := (⟨"PointsToRoundsModel", "act", "(I)V"⟩, prog_7_method_48_code, 6, 3, none)
abbrev M_M_leave : mM := (⟨"PointsToRoundsModel", "leave", "()V"⟩, prog_7_method_49_code, 1, 0, none)
abbrev M_M_isIn : mM := (⟨"PointsToRoundsModel", "isIn", "(II)Z"⟩, prog_7_method_50_code, 3, 0, (some .boolean))
abbrev M_M_holds : mM := (⟨"PointsToRoundsModel", "holds", "()Z"⟩, prog_7_method_51_code, 5, 1, (some .boolean))
abbrev M_M_run : mM := (⟨"PointsToRoundsModel", "run", "(II)I"⟩, prog_7_method_52_code, 10, 5, (some .int))
abbrev M_M_met : mM := (⟨"PointsToRoundsModel", "met", "(II)I"⟩, prog_7_method_53_code, 3, 1, (some .int))
abbrev M_M_ran : mM := (⟨"PointsToRoundsModel", "ran", "(I)I"⟩, prog_7_method_54_code, 2, 0, (some .int))
abbrev M_P_hasClass : mM := (⟨"PointsToRounds$Program", "hasClass", "(I)Z"⟩, prog_2_method_2_code, 2, 0, (some .boolean))
abbrev M_P_hasField : mM := (⟨"PointsToRounds$Program", "hasField", "(I)Z"⟩, prog_2_method_3_code, 2, 0, (some .boolean))
abbrev M_P_hasMethod : mM := (⟨"PointsToRounds$Program", "hasMethod", "(I)Z"⟩, prog_2_method_4_code, 2, 0, (some .boolean))
abbrev M_P_hasName : mM := (⟨"PointsToRounds$Program", "hasName", "(II)Z"⟩, prog_2_method_5_code, 3, 1, (some .boolean))
abbrev M_P_hasStatement : mM := (⟨"PointsToRounds$Program", "hasStatement", "(I)Z"⟩, prog_2_method_6_code, 2, 0, (some .boolean))
abbrev M_P_hasSite : mM := (⟨"PointsToRounds$Program", "hasSite", "(I)Z"⟩, prog_2_method_7_code, 2, 0, (some .boolean))
abbrev M_P_hasOperands : mM := (⟨"PointsToRounds$Program", "hasOperands", "(IIIIII)Z"⟩, prog_2_method_8_code, 7, 1, (some .boolean))
abbrev M_P_hasRoomFor : mM := (⟨"PointsToRounds$Program", "hasRoomFor", "(I)Z"⟩, prog_2_method_9_code, 2, 0, (some .boolean))
abbrev M_P_empty : mM := (⟨"PointsToRounds$Program", "empty", "()V"⟩, prog_2_method_10_code, 1, 0, none)
abbrev M_P_addClass : mM := (⟨"PointsToRounds$Program", "addClass", "(I)I"⟩, prog_2_method_11_code, 4, 1, (some .int))
abbrev M_P_addField : mM := (⟨"PointsToRounds$Program", "addField", "(I)I"⟩, prog_2_method_12_code, 3, 0, (some .int))
abbrev M_P_addMethod : mM := (⟨"PointsToRounds$Program", "addMethod", "(II)I"⟩, prog_2_method_13_code, 5, 1, (some .int))
abbrev M_P_findMethod : mM := (⟨"PointsToRounds$Program", "findMethod", "(II)V"⟩, prog_2_method_14_code, 4, 0, none)
abbrev M_P_nextStatement : mM := (⟨"PointsToRounds$Program", "nextStatement", "()LPointsToRounds$Statement;"⟩, prog_2_method_15_code, 1, 0, (some (.object "PointsToRounds$Statement")))
abbrev M_P_addStatement : mM := (⟨"PointsToRounds$Program", "addStatement", "(I)I"⟩, prog_2_method_16_code, 4, 2, (some .int))
abbrev M_P_addSite : mM := (⟨"PointsToRounds$Program", "addSite", "(I)I"⟩, prog_2_method_17_code, 4, 1, (some .int))
abbrev M_P_ownMethod : mM := (⟨"PointsToRounds$Program", "ownMethod", "(II)I"⟩, prog_2_method_18_code, 3, 0, (some .int))
abbrev M_P_methodFound : mM := (⟨"PointsToRounds$Program", "methodFound", "(II)I"⟩, prog_2_method_19_code, 3, 0, (some .int))
abbrev M_P_methodsFound : mM := (⟨"PointsToRounds$Program", "methodsFound", "(II)I"⟩, prog_2_method_20_code, 6, 1, (some .int))
abbrev M_P_sitesWith : mM := (⟨"PointsToRounds$Program", "sitesWith", "(I)I"⟩, prog_2_method_21_code, 2, 0, (some .int))
abbrev M_P_statementOf : mM := (⟨"PointsToRounds$Program", "statementOf", "(II)LPointsToRounds$Statement;"⟩, prog_2_method_22_code, 3, 0, (some (.object "PointsToRounds$Statement")))
abbrev M_S_hasContext : mM := (⟨"PointsToRounds$Sets", "hasContext", "(I)Z"⟩, prog_3_method_2_code, 2, 0, (some .boolean))
abbrev M_S_contextOf : mM := (⟨"PointsToRounds$Sets", "contextOf", "(I)I"⟩, prog_3_method_3_code, 2, 0, (some .int))
abbrev M_S_at : mM := (⟨"PointsToRounds$Sets", "at", "(I)I"⟩, prog_3_method_4_code, 2, 0, (some .int))
abbrev M_S_inAllContexts : mM := (⟨"PointsToRounds$Sets", "inAllContexts", "(II)I"⟩, prog_3_method_5_code, 5, 1, (some .int))
abbrev M_S_firstRound : mM := (⟨"PointsToRounds$Sets", "firstRound", "(III)I"⟩, prog_3_method_6_code, 4, 0, (some .int))
abbrev M_S_settle : mM := (⟨"PointsToRounds$Sets", "settle", "()V"⟩, prog_3_method_7_code, 1, 5, none)
abbrev M_S_doRound : mM := (⟨"PointsToRounds$Sets", "doRound", "()V"⟩, prog_3_method_8_code, 6, 4, none)
abbrev M_S_doStatement : mM := (⟨"PointsToRounds$Sets", "doStatement", "(LPointsToRounds$Statement;I)V"⟩, prog_3_method_9_code, 5, 3, none)
abbrev M_S_addFromSlot : mM := (⟨"PointsToRounds$Sets", "addFromSlot", "(III)V"⟩, prog_3_method_10_code, 6, 2, none)
abbrev M_S_addToSlot : mM := (⟨"PointsToRounds$Sets", "addToSlot", "(III)V"⟩, prog_3_method_11_code, 6, 2, none)
abbrev M_S_doCall : mM := (⟨"PointsToRounds$Sets", "doCall", "(LPointsToRounds$Statement;I)V"⟩, prog_3_method_12_code, 8, 2, none)
abbrev M_S_add : mM := (⟨"PointsToRounds$Sets", "add", "(II)V"⟩, prog_3_method_13_code, 4, 1, none)
abbrev M_S_noteRound : mM := (⟨"PointsToRounds$Sets", "noteRound", "(II)V"⟩, prog_3_method_14_code, 6, 0, none)
abbrev M_G_tell : mM := (⟨"PointsToRounds$Statement", "tell", "(IIIIII)V"⟩, prog_4_method_2_code, 7, 0, none)
abbrev M_T_forget : mM := (⟨"PointsToRounds$Trial", "forget", "()V"⟩, prog_5_method_2_code, 1, 1, none)
abbrev M_T_holdsFor : mM := (⟨"PointsToRounds$Trial", "holdsFor", "(II)Z"⟩, prog_5_method_3_code, 5, 6, (some .boolean))
abbrev M_T_pushFrame : mM := (⟨"PointsToRounds$Trial", "pushFrame", "(III)V"⟩, prog_5_method_4_code, 5, 2, none)
abbrev M_T_doStep : mM := (⟨"PointsToRounds$Trial", "doStep", "(I)V"⟩, prog_5_method_5_code, 6, 5, none)
abbrev M_T_doStatement : mM := (⟨"PointsToRounds$Trial", "doStatement", "(LPointsToRounds$Statement;I)V"⟩, prog_5_method_6_code, 3, 4, none)
abbrev M_T_makeObject : mM := (⟨"PointsToRounds$Trial", "makeObject", "(LPointsToRounds$Statement;I)V"⟩, prog_5_method_7_code, 3, 2, none)
abbrev M_T_castObject : mM := (⟨"PointsToRounds$Trial", "castObject", "(LPointsToRounds$Statement;I)V"⟩, prog_5_method_8_code, 4, 1, none)
abbrev M_T_hasSlot : mM := (⟨"PointsToRounds$Trial", "hasSlot", "(II)Z"⟩, prog_5_method_9_code, 3, 1, (some .boolean))
abbrev M_T_readSlot : mM := (⟨"PointsToRounds$Trial", "readSlot", "(III)V"⟩, prog_5_method_10_code, 4, 2, none)
abbrev M_T_writeSlot : mM := (⟨"PointsToRounds$Trial", "writeSlot", "(III)V"⟩, prog_5_method_11_code, 4, 2, none)
abbrev M_T_enterMethod : mM := (⟨"PointsToRounds$Trial", "enterMethod", "(LPointsToRounds$Statement;I)V"⟩, prog_5_method_12_code, 7, 3, none)
abbrev M_T_lookAt : mM := (⟨"PointsToRounds$Trial", "lookAt", "(II)V"⟩, prog_5_method_13_code, 3, 1, none)
abbrev M_T_lookAtNames : mM := (⟨"PointsToRounds$Trial", "lookAtNames", "()V"⟩, prog_5_method_14_code, 6, 2, none)
abbrev M_I_bitCount : mM := (⟨"java/lang/Integer", "bitCount", "(I)I"⟩, prog_8_method_49_code, 1, 0, (some .int))
abbrev M_A_fill : mM := (⟨"java/util/Arrays", "fill", "([II)V"⟩, prog_10_method_103_code, 4, 0, none)
abbrev M_A_fillR : mM := (⟨"java/util/Arrays", "fill", "([IIII)V"⟩, prog_10_method_104_code, 5, 1, none)
abbrev M_A_rangeCheck : mM := (⟨"java/util/Arrays", "rangeCheck", "(III)V"⟩, prog_10_method_30_code, 3, 0, none)
end
section
/-! THE SMALL MACHINE. A value is an int or a reference to a cell by its number (base, offset); the state gives each cell's ints; J M Q pc ls st σ: the method M, at pc with the locals ls, the stack st and the state σ, comes to an end with Q. -/
abbrev mV : Type := Int32 ⊕ (Nat × Nat)
abbrev mS : Type := Nat → Nat → Int32
def m_v (ad : Nat → Nat) (v : mV) : Value := match v with
  | .inl x => .int x
  | .inr q => .ref (ad (m_cl q))
def m_up (σ : mS) (k j : Nat) (v : Int32) : mS := fun k' => if k' = k then upd (σ k) j v else σ k'
def m_cp (σ : mS) (a b sp dp n : Nat) : mS := fun k' => if k' = b then va_cpy (σ a) (σ b) sp dp n else σ k'
def m_ushr (x y : Int32) : Int32 := (x.toUInt32 >>> (y.toUInt32 &&& Int32.toUInt32 31)).toInt32
def m_rem (x y : Int32) : Int32 := x - x / y * y
def m_fv (ad : Nat → Nat) (σ : mS) (k j : Nat) : Value := match o_r k j with
  | some r => .ref (ad r)
  | none => .int (σ k j)
def m_cell (ad : Nat → Nat) (cI cS : ClassId) (σ : mS) (k : Nat) : va_E := match o_ci k with
  | some c => .inr (c, (List.range (o_n k)).map (m_fv ad σ k))
  | none => if k = 24 then .inl (cS, 60, .inr (.inr (.inr (.inr (fun j => some (ad (59 + j))))))) else .inl (cI, a_n k, .inl (σ k))
def m_ws (ad : Nat → Nat) (cI cS : ClassId) (σ : mS) : va_W := (List.range 119).map (fun k => (ad k, m_cell ad cI cS σ k))
abbrev m_ty (cI cS : ClassId) : List (ClassId × FieldType) := [(cI, .int), (cS, .object "PointsToRounds$Statement")]
theorem m_ws_at {ad : Nat → Nat} {cI cS : ClassId} {σ : mS} {k : Nat} (h : k < 119) : (m_ws ad cI cS σ)[k]? = some (ad k, m_cell ad cI cS σ k) := by
  unfold m_ws
  rw [List.getElem?_map, List.getElem?_range h]
  rfl
theorem m_ws_inv {ad : Nat → Nat} {cI cS : ClassId} {σ : mS} {k : Nat} {q : Nat × va_E} (h : (m_ws ad cI cS σ)[k]? = some q) : k < 119 ∧ q = (ad k, m_cell ad cI cS σ k) := by
  have hk : k < 119 := by
    have := (List.getElem?_eq_some_iff.mp h).1
    simpa [m_ws] using this
  rw [m_ws_at hk] at h
  exact ⟨hk, (Option.some.inj h).symm⟩
theorem m_cell_eq {ad : Nat → Nat} {cI cS : ClassId} {σ τ : mS} {k : Nat} (h : σ k = τ k) : m_cell ad cI cS σ k = m_cell ad cI cS τ k := by
  have e : m_fv ad σ k = m_fv ad τ k := by funext j; unfold m_fv; rw [h]
  unfold m_cell
  rw [h, e]
theorem m_ws_set {ad : Nat → Nat} {cI cS : ClassId} {σ τ : mS} {k : Nat} (hk : k < 119) (h : ∀ j, j ≠ k → σ j = τ j) : (m_ws ad cI cS σ).set k (ad k, m_cell ad cI cS τ k) = m_ws ad cI cS τ := by
  apply List.ext_getElem?
  intro j
  rw [List.getElem?_set]
  by_cases hj : k = j
  · subst hj
    rw [if_pos rfl, if_pos (by simpa [m_ws] using hk), m_ws_at hk]
  · rw [if_neg hj]
    by_cases h9 : j < 119
    · rw [m_ws_at h9, m_ws_at h9, m_cell_eq (h j (Ne.symm hj))]
    · rw [List.getElem?_eq_none (by simp [m_ws]; omega), List.getElem?_eq_none (by simp [m_ws]; omega)]
theorem m_up_o {σ : mS} {k j : Nat} {v : Int32} (i : Nat) (h : i ≠ k) : σ i = m_up σ k j v i := by unfold m_up; rw [if_neg h]
theorem m_up_s {σ : mS} {k j : Nat} {v : Int32} : m_up σ k j v k = upd (σ k) j v := by unfold m_up; rw [if_pos rfl]
theorem m_cp_o {σ : mS} {a b sp dp n : Nat} (i : Nat) (h : i ≠ b) : σ i = m_cp σ a b sp dp n i := by unfold m_cp; rw [if_neg h]
/-- the cells' addresses are apart, and may be written -/
def m_A (ad : Nat → Nat) (A : Nat → Prop) : Prop := (∀ i j, i < 119 → j < 119 → ad i = ad j → i = j) ∧ ∀ k, k < 119 → A (ad k)
theorem m_A.D {ad : Nat → Nat} {A : Nat → Prop} (h : m_A ad A) (cI cS : ClassId) (σ : mS) : va_D A (m_ws ad cI cS σ) := by
  refine ⟨fun i j p q hp hq e => ?_, fun k q hq => ?_⟩
  · obtain ⟨h1, rfl⟩ := m_ws_inv hp
    obtain ⟨h2, rfl⟩ := m_ws_inv hq
    exact h.1 i j h1 h2 e
  · obtain ⟨h1, rfl⟩ := m_ws_inv hq
    exact h.2 k h1
theorem m_A.of {ad : Nat → Nat} {A : Nat → Prop} {cI cS : ClassId} {σ : mS} (h : va_D A (m_ws ad cI cS σ)) : m_A ad A :=
  ⟨fun i j hi hj e => h.1 i j _ _ (m_ws_at hi) (m_ws_at hj) e, fun k hk => h.2 k _ (m_ws_at hk)⟩
theorem m_A_iff {ad : Nat → Nat} {cI cS : ClassId} {σ : mS} {sz q : Nat} : va_A (m_ws ad cI cS σ) sz q ↔ (∃ k, k < 119 ∧ q = ad k) ∨ sz ≤ q := by
  constructor
  · rintro (⟨k, e, h⟩ | h)
    · obtain ⟨h1, h2⟩ := m_ws_inv h
      exact Or.inl ⟨k, h1, (Prod.mk.inj h2).1⟩
    · exact Or.inr h
  · rintro (⟨k, hk, rfl⟩ | h)
    · exact Or.inl ⟨k, _, m_ws_at hk⟩
    · exact Or.inr h
/-- the locals: those that are told are held -/
def m_L (ad : Nat → Nat) (n : Nat) (ls : List (Option mV)) (lsA : Array Slot) : Prop := ∃ L, lv_has lsA n L ∧ ∀ i v, ls[i]? = some (some v) → (i, m_v ad v) ∈ L
theorem m_L.get {ad : Nat → Nat} {n : Nat} {ls : List (Option mV)} {lsA : Array Slot} (h : m_L ad n ls lsA) {i : Nat} {v : mV} (hi : ls[i]? = some (some v)) : lsA[i]? = some (.val (m_v ad v)) := by
  obtain ⟨L, h1, h2⟩ := h
  exact h1.2.2 _ (h2 i v hi)
theorem m_cat (ad : Nat → Nat) (v : mV) : (m_v ad v).category = 1 := by rcases v with x | q <;> rfl
theorem m_L.put {ad : Nat → Nat} {n i : Nat} {ls ls' : List (Option mV)} {v : mV} {L : List (Nat × Value)} (h : ∀ i v, ls[i]? = some (some v) → (i, m_v ad v) ∈ L) (he : ls.set i (some v) = ls') {lsA' : Array Slot} (h' : lv_has lsA' n ((i, m_v ad v) :: L.filter (fun q => !(q.1 == i) && !(q.1 + 1 == i && q.2.category == 2)))) : m_L ad n ls' lsA' := by
  subst he
  refine ⟨_, h', fun j w hj => ?_⟩
  rw [List.getElem?_set] at hj
  by_cases hij : i = j
  · subst hij
    rw [if_pos rfl] at hj
    split at hj
    · cases hj; exact List.mem_cons_self
    · cases hj
  · rw [if_neg hij] at hj
    refine List.mem_cons_of_mem _ (List.mem_filter.mpr ⟨h j w hj, ?_⟩)
    have h2 : ¬ j = i := fun q => hij q.symm
    simp [h2, m_cat]
/-- a return at pc that gives r -/
def m_ret (M : mM) (pc : Nat) (r : Option mV) : Prop := match r with
  | none => decode M.2.1 pc = .ok (.return_, 1) ∧ M.2.2.2.2 = none
  | some (.inl x) => decode M.2.1 pc = .ok (.ireturn, 1) ∧ ∃ ty, M.2.2.2.2 = some ty ∧ narrow ty (.int x) = .int x
  | some (.inr _) => decode M.2.1 pc = .ok (.areturn, 1) ∧ ∃ C, M.2.2.2.2 = some (.object C)
/-- what stands around a method's walk -/
def mX (M : mM) (Q : Option mV → mS → Prop) (p : Program) (l : Launch) (e : Env) (R : Room) (s : State) (m : MethodId) (args : Array Value) (below : List Frame) (meth : Method) (c : Code) (ad : Nat → Nat) (D : va_G) (cI cS : ClassId) (A : Nat → Prop) (cells slots : Nat) (QM : State → Prop) : Prop :=
  p.tables.exec = Jvm.exec ∧ c.code = M.2.1 ∧ c.maxLocals = M.2.2.1 ∧ s.vm.findClass M.1.cls = some m.cls ∧ (∀ w ∈ TB, w.before args s = true) ∧ m_N s ∧ va_K D vwCl (m_ty cI cS) s ∧ (M.2.2.2.1 ≤ R.frames ∧ mK * M.2.2.2.1 ≤ R.locals ∧ cells ≤ R.cells ∧ slots ≤ R.slots) ∧ m_A ad A ∧ (∀ q, s.heap.size ≤ q → A q) ∧
  (∀ (r : Option mV) (σ : mS) (H : Heap) (locs : List Loc) (lsA : Array Slot) (pc : Nat), Q r σ → m_ret M pc r → va_P D vwCl (m_ws ad cI cS σ) H → va_S A s.heap H locs → W p l e R s m args below meth c H locs cells slots QM (F0 m pc lsA (r.toList.map (m_v ad))))
def J (M : mM) (Q : Option mV → mS → Prop) (pc : Nat) (ls : List (Option mV)) (st : List mV) (σ : mS) : Prop :=
  ∀ (p : Program) (l : Launch) (e : Env) (R : Room) (s : State) (m : MethodId) (args : Array Value) (below : List Frame) (meth : Method) (c : Code) (ad : Nat → Nat) (D : va_G) (cI cS : ClassId) (A : Nat → Prop) (cells slots : Nat) (QM : State → Prop), mX M Q p l e R s m args below meth c ad D cI cS A cells slots QM →
    ∀ (H : Heap) (locs : List Loc) (lsA : Array Slot), va_P D vwCl (m_ws ad cI cS σ) H → va_S A s.heap H locs → m_L ad M.2.2.1 ls lsA → W p l e R s m args below meth c H locs cells slots QM (F0 m pc lsA (st.map (m_v ad)))
theorem J_iadd {M : mM} {Q : Option mV → mS → Prop} {pc : Nat} {ls : List (Option mV)} {st : List mV} {σ : mS} {x y : Int32} (d : decode M.2.1 pc = .ok (.iadd, 1)) (k : J M Q (pc + 1) ls (.inl (x + y) :: st) σ) : J M Q pc ls (.inl y :: .inl x :: st) σ := by
  intro p l e R s m args below meth c ad D cI cS A cells slots QM X H locs lsA hP hS hL
  exact lv_iadd X.1 X.2.1 d (k _ _ _ _ _ _ _ _ _ _ _ _ _ _ _ _ _ _ X _ _ _ hP hS hL)
theorem J_isub {M : mM} {Q : Option mV → mS → Prop} {pc : Nat} {ls : List (Option mV)} {st : List mV} {σ : mS} {x y : Int32} (d : decode M.2.1 pc = .ok (.isub, 1)) (k : J M Q (pc + 1) ls (.inl (x - y) :: st) σ) : J M Q pc ls (.inl y :: .inl x :: st) σ := by
  intro p l e R s m args below meth c ad D cI cS A cells slots QM X H locs lsA hP hS hL
  exact lv_isub X.1 X.2.1 d (k _ _ _ _ _ _ _ _ _ _ _ _ _ _ _ _ _ _ X _ _ _ hP hS hL)
theorem J_imul {M : mM} {Q : Option mV → mS → Prop} {pc : Nat} {ls : List (Option mV)} {st : List mV} {σ : mS} {x y : Int32} (d : decode M.2.1 pc = .ok (.imul, 1)) (k : J M Q (pc + 1) ls (.inl (x * y) :: st) σ) : J M Q pc ls (.inl y :: .inl x :: st) σ := by
  intro p l e R s m args below meth c ad D cI cS A cells slots QM X H locs lsA hP hS hL
  exact lv_imul X.1 X.2.1 d (k _ _ _ _ _ _ _ _ _ _ _ _ _ _ _ _ _ _ X _ _ _ hP hS hL)
theorem J_iand {M : mM} {Q : Option mV → mS → Prop} {pc : Nat} {ls : List (Option mV)} {st : List mV} {σ : mS} {x y : Int32} (d : decode M.2.1 pc = .ok (.iand, 1)) (k : J M Q (pc + 1) ls (.inl (x &&& y) :: st) σ) : J M Q pc ls (.inl y :: .inl x :: st) σ := by
  intro p l e R s m args below meth c ad D cI cS A cells slots QM X H locs lsA hP hS hL
  exact lv_iand X.1 X.2.1 d (k _ _ _ _ _ _ _ _ _ _ _ _ _ _ _ _ _ _ X _ _ _ hP hS hL)
theorem J_ior {M : mM} {Q : Option mV → mS → Prop} {pc : Nat} {ls : List (Option mV)} {st : List mV} {σ : mS} {x y : Int32} (d : decode M.2.1 pc = .ok (.ior, 1)) (k : J M Q (pc + 1) ls (.inl (x ||| y) :: st) σ) : J M Q pc ls (.inl y :: .inl x :: st) σ := by
  intro p l e R s m args below meth c ad D cI cS A cells slots QM X H locs lsA hP hS hL
  exact lv_ior X.1 X.2.1 d (k _ _ _ _ _ _ _ _ _ _ _ _ _ _ _ _ _ _ X _ _ _ hP hS hL)
theorem J_ixor {M : mM} {Q : Option mV → mS → Prop} {pc : Nat} {ls : List (Option mV)} {st : List mV} {σ : mS} {x y : Int32} (d : decode M.2.1 pc = .ok (.ixor, 1)) (k : J M Q (pc + 1) ls (.inl (x ^^^ y) :: st) σ) : J M Q pc ls (.inl y :: .inl x :: st) σ := by
  intro p l e R s m args below meth c ad D cI cS A cells slots QM X H locs lsA hP hS hL
  exact lv_ixor X.1 X.2.1 d (k _ _ _ _ _ _ _ _ _ _ _ _ _ _ _ _ _ _ X _ _ _ hP hS hL)
theorem J_ishl {M : mM} {Q : Option mV → mS → Prop} {pc : Nat} {ls : List (Option mV)} {st : List mV} {σ : mS} {x y : Int32} (d : decode M.2.1 pc = .ok (.ishl, 1)) (k : J M Q (pc + 1) ls (.inl (x <<< (y &&& 31)) :: st) σ) : J M Q pc ls (.inl y :: .inl x :: st) σ := by
  intro p l e R s m args below meth c ad D cI cS A cells slots QM X H locs lsA hP hS hL
  exact lv_ishl X.1 X.2.1 d (k _ _ _ _ _ _ _ _ _ _ _ _ _ _ _ _ _ _ X _ _ _ hP hS hL)
theorem J_ishr {M : mM} {Q : Option mV → mS → Prop} {pc : Nat} {ls : List (Option mV)} {st : List mV} {σ : mS} {x y : Int32} (d : decode M.2.1 pc = .ok (.ishr, 1)) (k : J M Q (pc + 1) ls (.inl (x >>> (y &&& 31)) :: st) σ) : J M Q pc ls (.inl y :: .inl x :: st) σ := by
  intro p l e R s m args below meth c ad D cI cS A cells slots QM X H locs lsA hP hS hL
  exact lv_ishr X.1 X.2.1 d (k _ _ _ _ _ _ _ _ _ _ _ _ _ _ _ _ _ _ X _ _ _ hP hS hL)
theorem J_iushr {M : mM} {Q : Option mV → mS → Prop} {pc : Nat} {ls : List (Option mV)} {st : List mV} {σ : mS} {x y : Int32} (d : decode M.2.1 pc = .ok (.iushr, 1)) (k : J M Q (pc + 1) ls (.inl (m_ushr x y) :: st) σ) : J M Q pc ls (.inl y :: .inl x :: st) σ := by
  intro p l e R s m args below meth c ad D cI cS A cells slots QM X H locs lsA hP hS hL
  exact lv_iushr X.1 X.2.1 d rfl (k _ _ _ _ _ _ _ _ _ _ _ _ _ _ _ _ _ _ X _ _ _ hP hS hL)
theorem J_irem {M : mM} {Q : Option mV → mS → Prop} {pc : Nat} {ls : List (Option mV)} {st : List mV} {σ : mS} {x y : Int32} (d : decode M.2.1 pc = .ok (.irem, 1)) (h : ¬ y = 0) (k : J M Q (pc + 1) ls (.inl (m_rem x y) :: st) σ) : J M Q pc ls (.inl y :: .inl x :: st) σ := by
  intro p l e R s m args below meth c ad D cI cS A cells slots QM X H locs lsA hP hS hL
  exact lv_irem X.1 X.2.1 d h (k _ _ _ _ _ _ _ _ _ _ _ _ _ _ _ _ _ _ X _ _ _ hP hS hL)
theorem J_idiv {M : mM} {Q : Option mV → mS → Prop} {pc : Nat} {ls : List (Option mV)} {st : List mV} {σ : mS} {x y : Int32} (d : decode M.2.1 pc = .ok (.idiv, 1)) (h : ¬ y = 0) (k : J M Q (pc + 1) ls (.inl (x / y) :: st) σ) : J M Q pc ls (.inl y :: .inl x :: st) σ := by
  intro p l e R s m args below meth c ad D cI cS A cells slots QM X H locs lsA hP hS hL
  exact lv_idiv X.1 X.2.1 d h (k _ _ _ _ _ _ _ _ _ _ _ _ _ _ _ _ _ _ X _ _ _ hP hS hL)
theorem J_iconst {M : mM} {Q : Option mV → mS → Prop} {pc : Nat} {ls : List (Option mV)} {st : List mV} {σ : mS} {n : Int} {v : Int32} (d : decode M.2.1 pc = .ok (.iconst n, 1)) (hv : Int32.ofInt n = v) (k : J M Q (pc + 1) ls (.inl v :: st) σ) : J M Q pc ls st σ := by
  intro p l e R s m args below meth c ad D cI cS A cells slots QM X H locs lsA hP hS hL
  exact lv_iconst X.1 X.2.1 d hv (k _ _ _ _ _ _ _ _ _ _ _ _ _ _ _ _ _ _ X _ _ _ hP hS hL)
theorem J_bipush {M : mM} {Q : Option mV → mS → Prop} {pc : Nat} {ls : List (Option mV)} {st : List mV} {σ : mS} {n : Int} {v : Int32} (d : decode M.2.1 pc = .ok (.bipush n, 2)) (hv : (Int8.ofInt n).toInt32 = v) (k : J M Q (pc + 2) ls (.inl v :: st) σ) : J M Q pc ls st σ := by
  intro p l e R s m args below meth c ad D cI cS A cells slots QM X H locs lsA hP hS hL
  exact lv_bipush X.1 X.2.1 d hv (k _ _ _ _ _ _ _ _ _ _ _ _ _ _ _ _ _ _ X _ _ _ hP hS hL)
theorem J_sipush {M : mM} {Q : Option mV → mS → Prop} {pc : Nat} {ls : List (Option mV)} {st : List mV} {σ : mS} {n : Int} {v : Int32} (d : decode M.2.1 pc = .ok (.sipush n, 3)) (hv : (Int16.ofInt n).toInt32 = v) (k : J M Q (pc + 3) ls (.inl v :: st) σ) : J M Q pc ls st σ := by
  intro p l e R s m args below meth c ad D cI cS A cells slots QM X H locs lsA hP hS hL
  exact lv_sipush X.1 X.2.1 d hv (k _ _ _ _ _ _ _ _ _ _ _ _ _ _ _ _ _ _ X _ _ _ hP hS hL)
theorem J_ldc {M : mM} {Q : Option mV → mS → Prop} {pc : Nat} {ls : List (Option mV)} {st : List mV} {σ : mS} {own : String} {index : Nat} {v : Int32} (hw : Cond.constant own index v ∈ TB) (ho : own = M.1.cls) (d : decode M.2.1 pc = .ok (.ldc index, 2)) (k : J M Q (pc + 2) ls (.inl v :: st) σ) : J M Q pc ls st σ := by
  intro p l e R s m args below meth c ad D cI cS A cells slots QM X H locs lsA hP hS hL
  exact lv_ldc X.1 X.2.1 (own := own) (by rw [ho]; exact X.2.2.2.1) (X.2.2.2.2.1 _ hw) d (k _ _ _ _ _ _ _ _ _ _ _ _ _ _ _ _ _ _ X _ _ _ hP hS hL)
theorem J_iload_n {M : mM} {Q : Option mV → mS → Prop} {pc : Nat} {ls : List (Option mV)} {st : List mV} {σ : mS} {k4 : Fin 4} {i : Nat} {x : Int32} (hi : (k4 : Nat) = i) (hg : ls[i]? = some (some (.inl x))) (d : decode M.2.1 pc = .ok (.iload_n k4, 1)) (k : J M Q (pc + 1) ls (.inl x :: st) σ) : J M Q pc ls st σ := by
  intro p l e R s m args below meth c ad D cI cS A cells slots QM X H locs lsA hP hS hL
  exact lv_iload_n X.1 X.2.1 d hi (hL.get hg) (k _ _ _ _ _ _ _ _ _ _ _ _ _ _ _ _ _ _ X _ _ _ hP hS hL)
theorem J_iload {M : mM} {Q : Option mV → mS → Prop} {pc : Nat} {ls : List (Option mV)} {st : List mV} {σ : mS} {i : Nat} {x : Int32} (hg : ls[i]? = some (some (.inl x))) (d : decode M.2.1 pc = .ok (.iload i, 2)) (k : J M Q (pc + 2) ls (.inl x :: st) σ) : J M Q pc ls st σ := by
  intro p l e R s m args below meth c ad D cI cS A cells slots QM X H locs lsA hP hS hL
  exact lv_iload X.1 X.2.1 d (hL.get hg) (k _ _ _ _ _ _ _ _ _ _ _ _ _ _ _ _ _ _ X _ _ _ hP hS hL)
theorem J_istore_n {M : mM} {Q : Option mV → mS → Prop} {pc : Nat} {ls : List (Option mV)} {st : List mV} {σ : mS} {k4 : Fin 4} {i : Nat} {x : Int32} {ls' : List (Option mV)} (hi : (k4 : Nat) = i) (he : ls.set i (some (.inl x)) = ls') (hn : Nat.ble (i + 1) ls.length = true) (hm : ls.length = M.2.2.1) (d : decode M.2.1 pc = .ok (.istore_n k4, 1)) (k : J M Q (pc + 1) ls' st σ) : J M Q pc ls (.inl x :: st) σ := by
  intro p l e R s m args below meth c ad D cI cS A cells slots QM X H locs lsA hP hS hL
  obtain ⟨L, h1, h2⟩ := hL
  exact lv_istore_n X.1 X.2.1 d hi h1 (by rw [← hm]; exact Nat.le_of_ble_eq_true hn) rfl (fun lsA' h' => k _ _ _ _ _ _ _ _ _ _ _ _ _ _ _ _ _ _ X _ _ _ hP hS (m_L.put (v := .inl x) h2 he h'))
theorem J_istore {M : mM} {Q : Option mV → mS → Prop} {pc : Nat} {ls : List (Option mV)} {st : List mV} {σ : mS} {i : Nat} {x : Int32} {ls' : List (Option mV)} (he : ls.set i (some (.inl x)) = ls') (hn : Nat.ble (i + 1) ls.length = true) (hm : ls.length = M.2.2.1) (d : decode M.2.1 pc = .ok (.istore i, 2)) (k : J M Q (pc + 2) ls' st σ) : J M Q pc ls (.inl x :: st) σ := by
  intro p l e R s m args below meth c ad D cI cS A cells slots QM X H locs lsA hP hS hL
  obtain ⟨L, h1, h2⟩ := hL
  exact lv_istore X.1 X.2.1 d h1 (by rw [← hm]; exact Nat.le_of_ble_eq_true hn) rfl (fun lsA' h' => k _ _ _ _ _ _ _ _ _ _ _ _ _ _ _ _ _ _ X _ _ _ hP hS (m_L.put (v := .inl x) h2 he h'))
theorem J_aload_n {M : mM} {Q : Option mV → mS → Prop} {pc : Nat} {ls : List (Option mV)} {st : List mV} {σ : mS} {k4 : Fin 4} {i : Nat} {x : Nat × Nat} (hi : (k4 : Nat) = i) (hg : ls[i]? = some (some (.inr x))) (d : decode M.2.1 pc = .ok (.aload_n k4, 1)) (k : J M Q (pc + 1) ls (.inr x :: st) σ) : J M Q pc ls st σ := by
  intro p l e R s m args below meth c ad D cI cS A cells slots QM X H locs lsA hP hS hL
  exact lv_aload_n X.1 X.2.1 d hi (hL.get hg) (k _ _ _ _ _ _ _ _ _ _ _ _ _ _ _ _ _ _ X _ _ _ hP hS hL)
theorem J_aload {M : mM} {Q : Option mV → mS → Prop} {pc : Nat} {ls : List (Option mV)} {st : List mV} {σ : mS} {i : Nat} {x : Nat × Nat} (hg : ls[i]? = some (some (.inr x))) (d : decode M.2.1 pc = .ok (.aload i, 2)) (k : J M Q (pc + 2) ls (.inr x :: st) σ) : J M Q pc ls st σ := by
  intro p l e R s m args below meth c ad D cI cS A cells slots QM X H locs lsA hP hS hL
  exact lv_aload X.1 X.2.1 d (hL.get hg) (k _ _ _ _ _ _ _ _ _ _ _ _ _ _ _ _ _ _ X _ _ _ hP hS hL)
theorem J_astore_n {M : mM} {Q : Option mV → mS → Prop} {pc : Nat} {ls : List (Option mV)} {st : List mV} {σ : mS} {k4 : Fin 4} {i : Nat} {x : Nat × Nat} {ls' : List (Option mV)} (hi : (k4 : Nat) = i) (he : ls.set i (some (.inr x)) = ls') (hn : Nat.ble (i + 1) ls.length = true) (hm : ls.length = M.2.2.1) (d : decode M.2.1 pc = .ok (.astore_n k4, 1)) (k : J M Q (pc + 1) ls' st σ) : J M Q pc ls (.inr x :: st) σ := by
  intro p l e R s m args below meth c ad D cI cS A cells slots QM X H locs lsA hP hS hL
  obtain ⟨L, h1, h2⟩ := hL
  exact lv_astore_n X.1 X.2.1 d hi h1 (by rw [← hm]; exact Nat.le_of_ble_eq_true hn) rfl (fun lsA' h' => k _ _ _ _ _ _ _ _ _ _ _ _ _ _ _ _ _ _ X _ _ _ hP hS (m_L.put (v := .inr x) h2 he h'))
theorem J_astore {M : mM} {Q : Option mV → mS → Prop} {pc : Nat} {ls : List (Option mV)} {st : List mV} {σ : mS} {i : Nat} {x : Nat × Nat} {ls' : List (Option mV)} (he : ls.set i (some (.inr x)) = ls') (hn : Nat.ble (i + 1) ls.length = true) (hm : ls.length = M.2.2.1) (d : decode M.2.1 pc = .ok (.astore i, 2)) (k : J M Q (pc + 2) ls' st σ) : J M Q pc ls (.inr x :: st) σ := by
  intro p l e R s m args below meth c ad D cI cS A cells slots QM X H locs lsA hP hS hL
  obtain ⟨L, h1, h2⟩ := hL
  exact lv_astore X.1 X.2.1 d h1 (by rw [← hm]; exact Nat.le_of_ble_eq_true hn) rfl (fun lsA' h' => k _ _ _ _ _ _ _ _ _ _ _ _ _ _ _ _ _ _ X _ _ _ hP hS (m_L.put (v := .inr x) h2 he h'))
theorem J_iinc {M : mM} {Q : Option mV → mS → Prop} {pc : Nat} {ls : List (Option mV)} {st : List mV} {σ : mS} {i : Nat} {n : Int} {x v : Int32} {ls' : List (Option mV)} (hg : ls[i]? = some (some (.inl x))) (hv : x + Int32.ofInt n = v) (he : ls.set i (some (.inl v)) = ls') (hn : Nat.ble (i + 1) ls.length = true) (hm : ls.length = M.2.2.1) (d : decode M.2.1 pc = .ok (.iinc i n, 3)) (k : J M Q (pc + 3) ls' st σ) : J M Q pc ls st σ := by
  intro p l e R s m args below meth c ad D cI cS A cells slots QM X H locs lsA hP hS hL
  obtain ⟨L, h1, h2⟩ := hL
  obtain ⟨j, hj⟩ := List.getElem?_of_mem (h2 i _ hg)
  exact lv_iinc (k := j) X.1 X.2.1 d h1 hj hv (by rw [← hm]; exact Nat.le_of_ble_eq_true hn) rfl (fun lsA' h' => k _ _ _ _ _ _ _ _ _ _ _ _ _ _ _ _ _ _ X _ _ _ hP hS (m_L.put (v := .inl v) h2 he h'))
theorem J_dup {M : mM} {Q : Option mV → mS → Prop} {pc : Nat} {ls : List (Option mV)} {st : List mV} {σ : mS} {v : mV} (d : decode M.2.1 pc = .ok (.dup, 1)) (k : J M Q (pc + 1) ls (v :: v :: st) σ) : J M Q pc ls (v :: st) σ := by
  intro p l e R s m args below meth c ad D cI cS A cells slots QM X H locs lsA hP hS hL
  exact lv_dup X.1 X.2.1 d (m_cat _ _) (k _ _ _ _ _ _ _ _ _ _ _ _ _ _ _ _ _ _ X _ _ _ hP hS hL)
theorem J_dup2 {M : mM} {Q : Option mV → mS → Prop} {pc : Nat} {ls : List (Option mV)} {st : List mV} {σ : mS} {v w : mV} (d : decode M.2.1 pc = .ok (.dup2, 1)) (k : J M Q (pc + 1) ls (v :: w :: v :: w :: st) σ) : J M Q pc ls (v :: w :: st) σ := by
  intro p l e R s m args below meth c ad D cI cS A cells slots QM X H locs lsA hP hS hL
  exact lv_dup2_11 X.1 X.2.1 d (m_cat _ _) (m_cat _ _) (k _ _ _ _ _ _ _ _ _ _ _ _ _ _ _ _ _ _ X _ _ _ hP hS hL)
theorem J_dup_x1 {M : mM} {Q : Option mV → mS → Prop} {pc : Nat} {ls : List (Option mV)} {st : List mV} {σ : mS} {v w : mV} (d : decode M.2.1 pc = .ok (.dup_x1, 1)) (k : J M Q (pc + 1) ls (v :: w :: v :: st) σ) : J M Q pc ls (v :: w :: st) σ := by
  intro p l e R s m args below meth c ad D cI cS A cells slots QM X H locs lsA hP hS hL
  exact lv_dup_x1 X.1 X.2.1 d (m_cat _ _) (m_cat _ _) (k _ _ _ _ _ _ _ _ _ _ _ _ _ _ _ _ _ _ X _ _ _ hP hS hL)
theorem J_pop {M : mM} {Q : Option mV → mS → Prop} {pc : Nat} {ls : List (Option mV)} {st : List mV} {σ : mS} {v : mV} (d : decode M.2.1 pc = .ok (.pop, 1)) (k : J M Q (pc + 1) ls st σ) : J M Q pc ls (v :: st) σ := by
  intro p l e R s m args below meth c ad D cI cS A cells slots QM X H locs lsA hP hS hL
  exact lv_pop X.1 X.2.1 d (m_cat _ _) (k _ _ _ _ _ _ _ _ _ _ _ _ _ _ _ _ _ _ X _ _ _ hP hS hL)
theorem J_goto {M : mM} {Q : Option mV → mS → Prop} {pc : Nat} {ls : List (Option mV)} {st : List mV} {σ : mS} {off : Int} {tgt : Nat} (d : decode M.2.1 pc = .ok (.goto off, 3)) (ht : (pc : Int) + off = (tgt : Int)) (k : J M Q tgt ls st σ) : J M Q pc ls st σ := by
  intro p l e R s m args below meth c ad D cI cS A cells slots QM X H locs lsA hP hS hL
  exact lv_goto X.1 X.2.1 d ht (k _ _ _ _ _ _ _ _ _ _ _ _ _ _ _ _ _ _ X _ _ _ hP hS hL)
theorem J_icmp_eq {M : mM} {Q : Option mV → mS → Prop} {pc : Nat} {ls : List (Option mV)} {st : List mV} {σ : mS} {x y : Int32} {off : Int} {tgt : Nat} (d : decode M.2.1 pc = .ok (.if_icmp .eq off, 3)) (ht : (pc : Int) + off = (tgt : Int)) (kt : x = y → J M Q tgt ls st σ) (kf : ¬ x = y → J M Q (pc + 3) ls st σ) : J M Q pc ls (.inl y :: .inl x :: st) σ := by
  intro p l e R s m args below meth c ad D cI cS A cells slots QM X H locs lsA hP hS hL
  exact lv_icmp_eq X.1 X.2.1 d ht (fun q => kt q _ _ _ _ _ _ _ _ _ _ _ _ _ _ _ _ _ _ X _ _ _ hP hS hL) (fun q => kf q _ _ _ _ _ _ _ _ _ _ _ _ _ _ _ _ _ _ X _ _ _ hP hS hL)
theorem J_if_eq {M : mM} {Q : Option mV → mS → Prop} {pc : Nat} {ls : List (Option mV)} {st : List mV} {σ : mS} {x : Int32} {off : Int} {tgt : Nat} (d : decode M.2.1 pc = .ok (.ifCond .eq off, 3)) (ht : (pc : Int) + off = (tgt : Int)) (kt : x = 0 → J M Q tgt ls st σ) (kf : ¬ x = 0 → J M Q (pc + 3) ls st σ) : J M Q pc ls (.inl x :: st) σ := by
  intro p l e R s m args below meth c ad D cI cS A cells slots QM X H locs lsA hP hS hL
  exact lv_if_eq X.1 X.2.1 d ht (fun q => kt q _ _ _ _ _ _ _ _ _ _ _ _ _ _ _ _ _ _ X _ _ _ hP hS hL) (fun q => kf q _ _ _ _ _ _ _ _ _ _ _ _ _ _ _ _ _ _ X _ _ _ hP hS hL)
theorem J_icmp_ne {M : mM} {Q : Option mV → mS → Prop} {pc : Nat} {ls : List (Option mV)} {st : List mV} {σ : mS} {x y : Int32} {off : Int} {tgt : Nat} (d : decode M.2.1 pc = .ok (.if_icmp .ne off, 3)) (ht : (pc : Int) + off = (tgt : Int)) (kt : ¬ x = y → J M Q tgt ls st σ) (kf : x = y → J M Q (pc + 3) ls st σ) : J M Q pc ls (.inl y :: .inl x :: st) σ := by
  intro p l e R s m args below meth c ad D cI cS A cells slots QM X H locs lsA hP hS hL
  exact lv_icmp_ne X.1 X.2.1 d ht (fun q => kt q _ _ _ _ _ _ _ _ _ _ _ _ _ _ _ _ _ _ X _ _ _ hP hS hL) (fun q => kf q _ _ _ _ _ _ _ _ _ _ _ _ _ _ _ _ _ _ X _ _ _ hP hS hL)
theorem J_if_ne {M : mM} {Q : Option mV → mS → Prop} {pc : Nat} {ls : List (Option mV)} {st : List mV} {σ : mS} {x : Int32} {off : Int} {tgt : Nat} (d : decode M.2.1 pc = .ok (.ifCond .ne off, 3)) (ht : (pc : Int) + off = (tgt : Int)) (kt : ¬ x = 0 → J M Q tgt ls st σ) (kf : x = 0 → J M Q (pc + 3) ls st σ) : J M Q pc ls (.inl x :: st) σ := by
  intro p l e R s m args below meth c ad D cI cS A cells slots QM X H locs lsA hP hS hL
  exact lv_if_ne X.1 X.2.1 d ht (fun q => kt q _ _ _ _ _ _ _ _ _ _ _ _ _ _ _ _ _ _ X _ _ _ hP hS hL) (fun q => kf q _ _ _ _ _ _ _ _ _ _ _ _ _ _ _ _ _ _ X _ _ _ hP hS hL)
theorem J_icmp_lt {M : mM} {Q : Option mV → mS → Prop} {pc : Nat} {ls : List (Option mV)} {st : List mV} {σ : mS} {x y : Int32} {off : Int} {tgt : Nat} (d : decode M.2.1 pc = .ok (.if_icmp .lt off, 3)) (ht : (pc : Int) + off = (tgt : Int)) (kt : x < y → J M Q tgt ls st σ) (kf : ¬ x < y → J M Q (pc + 3) ls st σ) : J M Q pc ls (.inl y :: .inl x :: st) σ := by
  intro p l e R s m args below meth c ad D cI cS A cells slots QM X H locs lsA hP hS hL
  exact lv_icmp_lt X.1 X.2.1 d ht (fun q => kt q _ _ _ _ _ _ _ _ _ _ _ _ _ _ _ _ _ _ X _ _ _ hP hS hL) (fun q => kf q _ _ _ _ _ _ _ _ _ _ _ _ _ _ _ _ _ _ X _ _ _ hP hS hL)
theorem J_if_lt {M : mM} {Q : Option mV → mS → Prop} {pc : Nat} {ls : List (Option mV)} {st : List mV} {σ : mS} {x : Int32} {off : Int} {tgt : Nat} (d : decode M.2.1 pc = .ok (.ifCond .lt off, 3)) (ht : (pc : Int) + off = (tgt : Int)) (kt : x < 0 → J M Q tgt ls st σ) (kf : ¬ x < 0 → J M Q (pc + 3) ls st σ) : J M Q pc ls (.inl x :: st) σ := by
  intro p l e R s m args below meth c ad D cI cS A cells slots QM X H locs lsA hP hS hL
  exact lv_if_lt X.1 X.2.1 d ht (fun q => kt q _ _ _ _ _ _ _ _ _ _ _ _ _ _ _ _ _ _ X _ _ _ hP hS hL) (fun q => kf q _ _ _ _ _ _ _ _ _ _ _ _ _ _ _ _ _ _ X _ _ _ hP hS hL)
theorem J_icmp_ge {M : mM} {Q : Option mV → mS → Prop} {pc : Nat} {ls : List (Option mV)} {st : List mV} {σ : mS} {x y : Int32} {off : Int} {tgt : Nat} (d : decode M.2.1 pc = .ok (.if_icmp .ge off, 3)) (ht : (pc : Int) + off = (tgt : Int)) (kt : y ≤ x → J M Q tgt ls st σ) (kf : ¬ y ≤ x → J M Q (pc + 3) ls st σ) : J M Q pc ls (.inl y :: .inl x :: st) σ := by
  intro p l e R s m args below meth c ad D cI cS A cells slots QM X H locs lsA hP hS hL
  exact lv_icmp_ge X.1 X.2.1 d ht (fun q => kt q _ _ _ _ _ _ _ _ _ _ _ _ _ _ _ _ _ _ X _ _ _ hP hS hL) (fun q => kf q _ _ _ _ _ _ _ _ _ _ _ _ _ _ _ _ _ _ X _ _ _ hP hS hL)
theorem J_if_ge {M : mM} {Q : Option mV → mS → Prop} {pc : Nat} {ls : List (Option mV)} {st : List mV} {σ : mS} {x : Int32} {off : Int} {tgt : Nat} (d : decode M.2.1 pc = .ok (.ifCond .ge off, 3)) (ht : (pc : Int) + off = (tgt : Int)) (kt : 0 ≤ x → J M Q tgt ls st σ) (kf : ¬ 0 ≤ x → J M Q (pc + 3) ls st σ) : J M Q pc ls (.inl x :: st) σ := by
  intro p l e R s m args below meth c ad D cI cS A cells slots QM X H locs lsA hP hS hL
  exact lv_if_ge X.1 X.2.1 d ht (fun q => kt q _ _ _ _ _ _ _ _ _ _ _ _ _ _ _ _ _ _ X _ _ _ hP hS hL) (fun q => kf q _ _ _ _ _ _ _ _ _ _ _ _ _ _ _ _ _ _ X _ _ _ hP hS hL)
theorem J_icmp_gt {M : mM} {Q : Option mV → mS → Prop} {pc : Nat} {ls : List (Option mV)} {st : List mV} {σ : mS} {x y : Int32} {off : Int} {tgt : Nat} (d : decode M.2.1 pc = .ok (.if_icmp .gt off, 3)) (ht : (pc : Int) + off = (tgt : Int)) (kt : y < x → J M Q tgt ls st σ) (kf : ¬ y < x → J M Q (pc + 3) ls st σ) : J M Q pc ls (.inl y :: .inl x :: st) σ := by
  intro p l e R s m args below meth c ad D cI cS A cells slots QM X H locs lsA hP hS hL
  exact lv_icmp_gt X.1 X.2.1 d ht (fun q => kt q _ _ _ _ _ _ _ _ _ _ _ _ _ _ _ _ _ _ X _ _ _ hP hS hL) (fun q => kf q _ _ _ _ _ _ _ _ _ _ _ _ _ _ _ _ _ _ X _ _ _ hP hS hL)
theorem J_if_gt {M : mM} {Q : Option mV → mS → Prop} {pc : Nat} {ls : List (Option mV)} {st : List mV} {σ : mS} {x : Int32} {off : Int} {tgt : Nat} (d : decode M.2.1 pc = .ok (.ifCond .gt off, 3)) (ht : (pc : Int) + off = (tgt : Int)) (kt : 0 < x → J M Q tgt ls st σ) (kf : ¬ 0 < x → J M Q (pc + 3) ls st σ) : J M Q pc ls (.inl x :: st) σ := by
  intro p l e R s m args below meth c ad D cI cS A cells slots QM X H locs lsA hP hS hL
  exact lv_if_gt X.1 X.2.1 d ht (fun q => kt q _ _ _ _ _ _ _ _ _ _ _ _ _ _ _ _ _ _ X _ _ _ hP hS hL) (fun q => kf q _ _ _ _ _ _ _ _ _ _ _ _ _ _ _ _ _ _ X _ _ _ hP hS hL)
theorem J_icmp_le {M : mM} {Q : Option mV → mS → Prop} {pc : Nat} {ls : List (Option mV)} {st : List mV} {σ : mS} {x y : Int32} {off : Int} {tgt : Nat} (d : decode M.2.1 pc = .ok (.if_icmp .le off, 3)) (ht : (pc : Int) + off = (tgt : Int)) (kt : x ≤ y → J M Q tgt ls st σ) (kf : ¬ x ≤ y → J M Q (pc + 3) ls st σ) : J M Q pc ls (.inl y :: .inl x :: st) σ := by
  intro p l e R s m args below meth c ad D cI cS A cells slots QM X H locs lsA hP hS hL
  exact lv_icmp_le X.1 X.2.1 d ht (fun q => kt q _ _ _ _ _ _ _ _ _ _ _ _ _ _ _ _ _ _ X _ _ _ hP hS hL) (fun q => kf q _ _ _ _ _ _ _ _ _ _ _ _ _ _ _ _ _ _ X _ _ _ hP hS hL)
theorem J_if_le {M : mM} {Q : Option mV → mS → Prop} {pc : Nat} {ls : List (Option mV)} {st : List mV} {σ : mS} {x : Int32} {off : Int} {tgt : Nat} (d : decode M.2.1 pc = .ok (.ifCond .le off, 3)) (ht : (pc : Int) + off = (tgt : Int)) (kt : x ≤ 0 → J M Q tgt ls st σ) (kf : ¬ x ≤ 0 → J M Q (pc + 3) ls st σ) : J M Q pc ls (.inl x :: st) σ := by
  intro p l e R s m args below meth c ad D cI cS A cells slots QM X H locs lsA hP hS hL
  exact lv_if_le X.1 X.2.1 d ht (fun q => kt q _ _ _ _ _ _ _ _ _ _ _ _ _ _ _ _ _ _ X _ _ _ hP hS hL) (fun q => kf q _ _ _ _ _ _ _ _ _ _ _ _ _ _ _ _ _ _ X _ _ _ hP hS hL)
theorem J_tabIn {M : mM} {Q : Option mV → mS → Prop} {pc : Nat} {ls : List (Option mV)} {st : List mV} {σ : mS} {dflt lo hi : Int} {offs : Array Int} {len : Nat} {x v : Int32} {off : Int} {tgt : Nat} (hx : x = v) (d : decode M.2.1 pc = .ok (.tableswitch dflt lo hi offs, len)) (h1 : ¬ v.toInt < lo) (h2 : ¬ hi < v.toInt) (ho : offs[(v.toInt - lo).toNat]? = some off) (ht : (pc : Int) + off = (tgt : Int)) (k : J M Q tgt ls st σ) : J M Q pc ls (.inl x :: st) σ := by
  intro p l e R s m args below meth c ad D cI cS A cells slots QM X H locs lsA hP hS hL
  subst hx
  exact lv_tableIn X.1 X.2.1 d h1 h2 ho ht (k _ _ _ _ _ _ _ _ _ _ _ _ _ _ _ _ _ _ X _ _ _ hP hS hL)
theorem J_tabOut {M : mM} {Q : Option mV → mS → Prop} {pc : Nat} {ls : List (Option mV)} {st : List mV} {σ : mS} {dflt lo hi : Int} {offs : Array Int} {len : Nat} {x : Int32} {tgt : Nat} (h : x.toInt < lo ∨ hi < x.toInt) (d : decode M.2.1 pc = .ok (.tableswitch dflt lo hi offs, len)) (ht : (pc : Int) + dflt = (tgt : Int)) (k : J M Q tgt ls st σ) : J M Q pc ls (.inl x :: st) σ := by
  intro p l e R s m args below meth c ad D cI cS A cells slots QM X H locs lsA hP hS hL
  exact lv_tableOut X.1 X.2.1 d h ht (k _ _ _ _ _ _ _ _ _ _ _ _ _ _ _ _ _ _ X _ _ _ hP hS hL)
theorem J_vret {M : mM} {Q : Option mV → mS → Prop} {pc : Nat} {ls : List (Option mV)} {st : List mV} {σ : mS} (hr : M.2.2.2.2 = none) (d : decode M.2.1 pc = .ok (.return_, 1)) (h : Q none σ) : J M Q pc ls [] σ := by
  intro p l e R s m args below meth c ad D cI cS A cells slots QM X H locs lsA hP hS hL
  exact X.2.2.2.2.2.2.2.2.2.2 none σ H locs lsA pc h ⟨d, hr⟩ hP hS
theorem J_iret {M : mM} {Q : Option mV → mS → Prop} {pc : Nat} {ls : List (Option mV)} {st : List mV} {σ : mS} {x : Int32} (hr : M.2.2.2.2 = some .int) (d : decode M.2.1 pc = .ok (.ireturn, 1)) (h : Q (some (.inl x)) σ) : J M Q pc ls [.inl x] σ := by
  intro p l e R s m args below meth c ad D cI cS A cells slots QM X H locs lsA hP hS hL
  exact X.2.2.2.2.2.2.2.2.2.2 (some (.inl x)) σ H locs lsA pc h ⟨d, .int, hr, rfl⟩ hP hS
theorem J_zret {M : mM} {Q : Option mV → mS → Prop} {pc : Nat} {ls : List (Option mV)} {st : List mV} {σ : mS} {x : Int32} (hr : M.2.2.2.2 = some .boolean) (hx : x = 0 ∨ x = 1) (d : decode M.2.1 pc = .ok (.ireturn, 1)) (h : Q (some (.inl x)) σ) : J M Q pc ls [.inl x] σ := by
  intro p l e R s m args below meth c ad D cI cS A cells slots QM X H locs lsA hP hS hL
  exact X.2.2.2.2.2.2.2.2.2.2 (some (.inl x)) σ H locs lsA pc h ⟨d, .boolean, hr, by rcases hx with rfl | rfl <;> decide⟩ hP hS
theorem J_aret {M : mM} {Q : Option mV → mS → Prop} {pc : Nat} {ls : List (Option mV)} {st : List mV} {σ : mS} {C : String} {q : Nat × Nat} (hr : M.2.2.2.2 = some (.object C)) (d : decode M.2.1 pc = .ok (.areturn, 1)) (h : Q (some (.inr q)) σ) : J M Q pc ls [.inr q] σ := by
  intro p l e R s m args below meth c ad D cI cS A cells slots QM X H locs lsA hP hS hL
  exact X.2.2.2.2.2.2.2.2.2.2 (some (.inr q)) σ H locs lsA pc h ⟨d, C, hr⟩ hP hS
theorem m_cell_a {ad : Nat → Nat} {cI cS : ClassId} {σ : mS} {k : Nat} (h : 0 < a_n k) : k < 119 ∧ m_cell ad cI cS σ k = .inl (cI, a_n k, .inl (σ k)) := by
  obtain ⟨h1, h2, h3⟩ := a_n_pos k h
  refine ⟨h1, ?_⟩
  unfold m_cell
  rw [h2, if_neg h3]
theorem m_in_pos {x : Int32} {n : Nat} (h : vp_in x n) : 0 < n := by
  rcases Nat.eq_zero_or_pos n with q | q
  · subst q; exact absurd (Or.inr (Nat.zero_le _)) h
  · exact q
theorem J_iald {M : mM} {Q : Option mV → mS → Prop} {pc : Nat} {ls : List (Option mV)} {st : List mV} {σ : mS} {x : Int32} {q : Nat × Nat} (h : vp_in x (a_n (m_cl q))) (d : decode M.2.1 pc = .ok (.iaload, 1)) (k : J M Q (pc + 1) ls (.inl (σ (m_cl q) x.toNatClampNeg) :: st) σ) : J M Q pc ls (.inl x :: .inr q :: st) σ := by
  intro p l e R s m args below meth c ad D cI cS A cells slots QM X H locs lsA hP hS hL
  obtain ⟨h1, h2⟩ := m_cell_a (ad := ad) (cI := cI) (cS := cS) (σ := σ) (m_in_pos h)
  exact va_iald (D := D) (cl := vwCl) X.1 X.2.1 X.2.2.2.2.2.2.1 hP (m_cl q) 0 (by rw [m_ws_at h1, h2]) rfl h d (k _ _ _ _ _ _ _ _ _ _ _ _ _ _ _ _ _ _ X _ _ _ hP hS hL)
theorem J_iast {M : mM} {Q : Option mV → mS → Prop} {pc : Nat} {ls : List (Option mV)} {st : List mV} {σ : mS} {x v : Int32} {q : Nat × Nat} (h : vp_in x (a_n (m_cl q))) (d : decode M.2.1 pc = .ok (.iastore, 1)) (k : J M Q (pc + 1) ls st (m_up σ (m_cl q) x.toNatClampNeg v)) : J M Q pc ls (.inl v :: .inl x :: .inr q :: st) σ := by
  intro p l e R s m args below meth c ad D cI cS A cells slots QM X H locs lsA hP hS hL
  obtain ⟨h1, h2⟩ := m_cell_a (ad := ad) (cI := cI) (cS := cS) (σ := σ) (m_in_pos h)
  obtain ⟨-, h3⟩ := m_cell_a (ad := ad) (cI := cI) (cS := cS) (σ := m_up σ (m_cl q) x.toNatClampNeg v) (m_in_pos h)
  refine va_iast (D := D) (cl := vwCl) X.1 X.2.1 X.2.2.2.2.2.2.1 hP (X.2.2.2.2.2.2.2.2.1.D cI cS σ) hS (m_cl q) 0 (by rw [m_ws_at h1, h2]) rfl h d (fun H1 locs1 hP1 _ hS1 => ?_)
  rw [m_up_s] at h3
  rw [← h3, m_ws_set h1 (m_up_o)] at hP1
  exact k _ _ _ _ _ _ _ _ _ _ _ _ _ _ _ _ _ _ X _ _ _ hP1 hS1 hL
theorem J_alen {M : mM} {Q : Option mV → mS → Prop} {pc : Nat} {ls : List (Option mV)} {st : List mV} {σ : mS} {q : Nat × Nat} (h : 0 < a_n (m_cl q)) (d : decode M.2.1 pc = .ok (.arraylength, 1)) (k : J M Q (pc + 1) ls (.inl (nI (a_n (m_cl q))) :: st) σ) : J M Q pc ls (.inr q :: st) σ := by
  intro p l e R s m args below meth c ad D cI cS A cells slots QM X H locs lsA hP hS hL
  obtain ⟨h1, h2⟩ := m_cell_a (ad := ad) (cI := cI) (cS := cS) (σ := σ) h
  exact va_alen (D := D) (cl := vwCl) X.1 X.2.1 X.2.2.2.2.2.2.1 hP (m_cl q) 0 (x := (a_n (m_cl q), .inl (σ (m_cl q)))) (by rw [m_ws_at h1, h2]) rfl rfl d (k _ _ _ _ _ _ _ _ _ _ _ _ _ _ _ _ _ _ X _ _ _ hP hS hL)
theorem J_aald {M : mM} {Q : Option mV → mS → Prop} {pc : Nat} {ls : List (Option mV)} {st : List mV} {σ : mS} {x : Int32} (h : vp_in x 60) (d : decode M.2.1 pc = .ok (.aaload, 1)) (k : J M Q (pc + 1) ls (.inr (59, x.toNatClampNeg) :: st) σ) : J M Q pc ls (.inl x :: .inr (24, 0) :: st) σ := by
  intro p l e R s m args below meth c ad D cI cS A cells slots QM X H locs lsA hP hS hL
  have hlt : x.toNatClampNeg < 60 := Nat.not_le.mp fun q => h (Or.inr q)
  refine va_aldq (D := D) (cl := vwCl) (f := fun j => some (ad (59 + j))) (n := 60) (cA := cS) X.1 X.2.1 X.2.2.2.2.2.2.1 hP 24 1 (by rw [m_ws_at (by decide)]; rfl) rfl h d ?_
  have e : va_rf (some (ad (59 + x.toNatClampNeg))) = m_v ad (.inr (59, x.toNatClampNeg)) := by
    show Value.ref _ = Value.ref (ad (if (59 : Nat) = 59 then 59 + x.toNatClampNeg % 60 else 59))
    rw [if_pos rfl, Nat.mod_eq_of_lt hlt]
  show W _ _ _ _ _ _ _ _ _ _ _ _ _ _ _ (F0 m (pc + 1) lsA (va_rf (some (ad (59 + x.toNatClampNeg))) :: st.map (m_v ad)))
  rw [e]
  exact k _ _ _ _ _ _ _ _ _ _ _ _ _ _ _ _ _ _ X _ _ _ hP hS hL
theorem J_copy {M : mM} {Q : Option mV → mS → Prop} {pc : Nat} {ls : List (Option mV)} {st : List mV} {σ : mS} {own : String} {index : Nat} {q r : Nat × Nat} {sp dp n : Int32} (hw : m_cpw own index) (h : ¬ sp < 0 ∧ ¬ dp < 0 ∧ ¬ n < 0 ∧ sp.toNatClampNeg + n.toNatClampNeg ≤ a_n (m_cl q) ∧ dp.toNatClampNeg + n.toNatClampNeg ≤ a_n (m_cl r)) (hq : 0 < a_n (m_cl q)) (hr : 0 < a_n (m_cl r)) (ho : own = M.1.cls) (hR : 0 + (nativeFrameWords "java/lang/System" "arraycopy" 5 + 11) ≤ mK * M.2.2.2.1 ∧ 1 ≤ M.2.2.2.1) (hst : st = []) (d : decode M.2.1 pc = .ok (.invokestatic index, 3)) (k : J M Q (pc + 3) ls st (m_cp σ (m_cl q) (m_cl r) sp.toNatClampNeg dp.toNatClampNeg n.toNatClampNeg)) : J M Q pc ls (.inl n :: .inl dp :: .inr r :: .inl sp :: .inr q :: st) σ := by
  intro p l e R s m args below meth c ad D cI cS A cells slots QM X H locs lsA hP hS hL
  obtain ⟨h1, h2⟩ := m_cell_a (ad := ad) (cI := cI) (cS := cS) (σ := σ) hq
  obtain ⟨h3, h4⟩ := m_cell_a (ad := ad) (cI := cI) (cS := cS) (σ := σ) hr
  obtain ⟨-, h5⟩ := m_cell_a (ad := ad) (cI := cI) (cS := cS) (σ := m_cp σ (m_cl q) (m_cl r) sp.toNatClampNeg dp.toNatClampNeg n.toNatClampNeg) hr
  obtain ⟨L, l1, l2⟩ := hL
  have hL : m_L ad M.2.2.1 ls lsA := ⟨L, l1, l2⟩
  obtain ⟨hx1, hx2, hx3, hx4, hx5, hx6, hx7, hx8, hx9, hx10, hx11⟩ := id X
  subst hst
  refine va_copyi (D := D) (cl := vwCl) hx1 hx2 (by rw [hx3]; exact l1.1.symm) (own := own) (by rw [ho]; exact hx4) (hx5 _ hw.1) (hx5 _ hw.2.1) (hx5 _ hw.2.2.1) (hx5 _ hw.2.2.2) hx7 hP (hx9.D cI cS σ) hS (m_cl q) (m_cl r) 0 0 (by rw [m_ws_at h1, h2]) (by rw [m_ws_at h3, h4]) rfl rfl rfl h.1 h.2.1 h.2.2.1 h.2.2.2.1 h.2.2.2.2 (fun _ _ => rfl) (Nat.le_trans hR.2 hx8.1) (Nat.le_trans hR.1 hx8.2.1) d (fun H1 locs1 hP1 _ hS1 => ?_)
  have e9 : m_cp σ (m_cl q) (m_cl r) sp.toNatClampNeg dp.toNatClampNeg n.toNatClampNeg (m_cl r) = va_cpy (σ (m_cl q)) (σ (m_cl r)) sp.toNatClampNeg dp.toNatClampNeg n.toNatClampNeg := by unfold m_cp; rw [if_pos rfl]
  rw [e9] at h5
  rw [← h5, m_ws_set h3 (m_cp_o)] at hP1
  exact k _ _ _ _ _ _ _ _ _ _ _ _ _ _ _ _ _ _ X _ _ _ hP1 hS1 hL
/-- a field's words: of class number ci, its place j, by the link 'index' of class own -/
def m_F (own : String) (index ci j : Nat) : Prop := ∃ (C : String) (T : u_T) (N : Nat), vwCl[ci]? = some (C, T, N) ∧ (∀ w ∈ u_ws C T N, w ∈ TB) ∧ j < N ∧ Cond.fieldLink own index (T j).1 (T j).2.1 (T j).2.2.1 ∈ TB
/-- .. and it may be written, its type is ty -/
def m_Fw (own : String) (index ci j : Nat) (ty : FieldType) : Prop := ∃ (C : String) (T : u_T) (N : Nat) (ty0 : Nat → FieldType), vwCl[ci]? = some (C, T, N) ∧ (∀ w ∈ u_ws C T N, w ∈ TB) ∧ j < N ∧ Cond.fieldLink own index (T j).1 (T j).2.1 (T j).2.2.1 ∈ TB ∧ (∀ k, k < N → parseFieldDescriptor (T k).2.2.1 = some (ty0 k)) ∧ (∀ a, a < N → ∀ b, b < N → a ≠ b → (T a).2.1 ≠ (T b).2.1) ∧ (T j).2.2.2 = false ∧ parseFieldDescriptor (T j).2.2.1 = some ty
theorem m_cell_o {ad : Nat → Nat} {cI cS : ClassId} {σ : mS} {k ci : Nat} (h : o_ci k = some ci) : k < 119 ∧ m_cell ad cI cS σ k = .inr (ci, (List.range (o_n k)).map (m_fv ad σ k)) := by
  refine ⟨o_ci_lt h, ?_⟩
  unfold m_cell
  rw [h]
theorem m_fs_at {ad : Nat → Nat} {σ : mS} {k j n : Nat} (h : j < n) : ((List.range n).map (m_fv ad σ k))[j]? = some (m_fv ad σ k j) := by
  rw [List.getElem?_map, List.getElem?_range h]
  rfl
theorem m_fs_set {ad : Nat → Nat} {σ : mS} {k j n : Nat} {v : Int32} (hr : o_r k j = none) : ((List.range n).map (m_fv ad σ k)).set j (.int v) = (List.range n).map (m_fv ad (m_up σ k j v) k) := by
  apply List.ext_getElem?
  intro i
  rw [List.getElem?_set]
  by_cases hij : j = i
  · subst hij
    rw [if_pos rfl]
    by_cases hn : j < n
    · rw [if_pos (by simpa using hn), m_fs_at hn]
      unfold m_fv
      rw [hr, m_up_s]
      simp [upd]
    · rw [if_neg (by simpa using hn), List.getElem?_eq_none (by simp; omega)]
  · rw [if_neg hij]
    by_cases hn : i < n
    · rw [m_fs_at hn, m_fs_at hn]
      unfold m_fv
      rw [m_up_s]
      simp [upd, Ne.symm hij]
    · rw [List.getElem?_eq_none (by simp; omega), List.getElem?_eq_none (by simp; omega)]
theorem J_getI {M : mM} {Q : Option mV → mS → Prop} {pc : Nat} {ls : List (Option mV)} {st : List mV} {σ : mS} {own : String} {index ci j : Nat} {q : Nat × Nat} (hF : m_F own index ci j) (ho : own = M.1.cls) (hc : o_ci (m_cl q) = some ci) (hj : Nat.ble (j + 1) (o_n (m_cl q)) = true) (hr : o_r (m_cl q) j = none) (d : decode M.2.1 pc = .ok (.getfield index, 3)) (k : J M Q (pc + 3) ls (.inl (σ (m_cl q) j) :: st) σ) : J M Q pc ls (.inr q :: st) σ := by
  intro p l e R s m args below meth c ad D cI cS A cells slots QM X H locs lsA hP hS hL
  obtain ⟨C, T, N, h1, h2, h3, h4⟩ := hF
  obtain ⟨g1, g2⟩ := m_cell_o (ad := ad) (cI := cI) (cS := cS) (σ := σ) hc
  exact va_get (D := D) (v := .int (σ (m_cl q) j)) X.1 X.2.1 X.2.2.2.2.1 h2 (own := own) (by rw [ho]; exact X.2.2.2.1) X.2.2.2.2.2.2.1 hP (m_cl q) (by rw [m_ws_at g1, g2]) h1 j h3 (X.2.2.2.2.1 _ h4) (fun _ h => h) (by rw [m_fs_at (Nat.le_of_ble_eq_true hj)]; unfold m_fv; rw [hr]) d (k _ _ _ _ _ _ _ _ _ _ _ _ _ _ _ _ _ _ X _ _ _ hP hS hL)
theorem J_getR {M : mM} {Q : Option mV → mS → Prop} {pc : Nat} {ls : List (Option mV)} {st : List mV} {σ : mS} {own : String} {index ci j r : Nat} {q : Nat × Nat} (hF : m_F own index ci j) (ho : own = M.1.cls) (hc : o_ci (m_cl q) = some ci) (hj : Nat.ble (j + 1) (o_n (m_cl q)) = true) (hr : o_r (m_cl q) j = some r) (h9 : m_cl (r, 0) = r) (d : decode M.2.1 pc = .ok (.getfield index, 3)) (k : J M Q (pc + 3) ls (.inr (r, 0) :: st) σ) : J M Q pc ls (.inr q :: st) σ := by
  intro p l e R s m args below meth c ad D cI cS A cells slots QM X H locs lsA hP hS hL
  obtain ⟨C, T, N, h1, h2, h3, h4⟩ := hF
  obtain ⟨g1, g2⟩ := m_cell_o (ad := ad) (cI := cI) (cS := cS) (σ := σ) hc
  exact va_get (D := D) (v := m_v ad (.inr (r, 0))) X.1 X.2.1 X.2.2.2.2.1 h2 (own := own) (by rw [ho]; exact X.2.2.2.1) X.2.2.2.2.2.2.1 hP (m_cl q) (by rw [m_ws_at g1, g2]) h1 j h3 (X.2.2.2.2.1 _ h4) (fun _ h => h) (by rw [m_fs_at (Nat.le_of_ble_eq_true hj)]; unfold m_fv m_v; rw [hr]; simp only [h9]) d (k _ _ _ _ _ _ _ _ _ _ _ _ _ _ _ _ _ _ X _ _ _ hP hS hL)
theorem J_putI {M : mM} {Q : Option mV → mS → Prop} {pc : Nat} {ls : List (Option mV)} {st : List mV} {σ : mS} {own : String} {index ci j : Nat} {ty : FieldType} {v : Int32} {q : Nat × Nat} (hF : m_Fw own index ci j ty) (ho : own = M.1.cls) (hn : narrow ty (.int v) = .int v) (hf : fits ty (.int v) = true) (hc : o_ci (m_cl q) = some ci) (hj : Nat.ble (j + 1) (o_n (m_cl q)) = true) (hr : o_r (m_cl q) j = none) (d : decode M.2.1 pc = .ok (.putfield index, 3)) (k : J M Q (pc + 3) ls st (m_up σ (m_cl q) j v)) : J M Q pc ls (.inl v :: .inr q :: st) σ := by
  intro p l e R s m args below meth c ad D cI cS A cells slots QM X H locs lsA hP hS hL
  obtain ⟨C, T, N, ty0, h1, h2, h3, h4, h5, h6, h7, h8⟩ := hF
  obtain ⟨g1, g2⟩ := m_cell_o (ad := ad) (cI := cI) (cS := cS) (σ := σ) hc
  obtain ⟨-, g3⟩ := m_cell_o (ad := ad) (cI := cI) (cS := cS) (σ := m_up σ (m_cl q) j v) hc
  refine va_put (D := D) X.1 X.2.1 X.2.2.2.2.1 h2 ty0 h5 h6 (own := own) (by rw [ho]; exact X.2.2.2.1) X.2.2.2.2.2.2.1 hP (X.2.2.2.2.2.2.2.2.1.D cI cS σ) hS (m_cl q) (by rw [m_ws_at g1, g2]) h1 j h3 (X.2.2.2.2.1 _ h4) (fun _ h => h) h7 h8 hn hf (by rw [List.length_map, List.length_range]; exact Nat.le_of_ble_eq_true hj) d (fun H1 locs1 hP1 _ hS1 => ?_)
  rw [show m_v ad (Sum.inl v) = Value.int v from rfl, m_fs_set hr, ← g3, m_ws_set g1 (m_up_o)] at hP1
  exact k _ _ _ _ _ _ _ _ _ _ _ _ _ _ _ _ _ _ X _ _ _ hP1 hS1 hL
/-- a method's start, its end, its contract -/
def m_pre (ad : Nat → Nat) (D : va_G) (cI cS : ClassId) (σ : mS) (sz : Nat) (U : State) : Prop := U.heap.size = sz ∧ va_P D vwCl (m_ws ad cI cS σ) U.heap ∧ va_K D vwCl (m_ty cI cS) U ∧ m_N U ∧ m_A ad (fun _ => True)
def m_post (ad : Nat → Nat) (D : va_G) (cI cS : ClassId) (σ : mS) (sz : Nat) (Q : Option mV → mS → Prop) : Array Value → State → Outcome → State → Prop := fun _ st oc t => ∃ (r : Option mV) (τ : mS), oc = .returned (r.map (m_v ad)) ∧ Q r τ ∧ va_P D vwCl (m_ws ad cI cS τ) t.heap ∧ va_F (va_A (m_ws ad cI cS σ) sz) st t
abbrev m_rm (M : mM) : Room := { frames := M.2.2.2.1, cells := 0, slots := 0, locals := mK * M.2.2.2.1 }
def MU (M : mM) (as : List mV) (σ : mS) (Q : Option mV → mS → Prop) : Prop := ∀ (l : Launch) (ad : Nat → Nat) (D : va_G) (cI cS : ClassId) (sz : Nat), Met l M.1 (Cond.code M.1 M.2.1 M.2.2.1 M.2.2.2.2 :: TB) (m_rm M) (va_Pc (as.map (m_v ad)) (m_pre ad D cI cS σ sz)) (m_post ad D cI cS σ sz Q) 0 0 (va_A (m_ws ad cI cS σ) sz)
theorem m_sl (ad : Nat → Nat) (as : List mV) : lg_sl (as.map (m_v ad)) = (as.map (m_v ad)).map Slot.val := by
  induction as with
  | nil => rfl
  | cons a t ih =>
    show lg_sl (m_v ad a :: t.map (m_v ad)) = Slot.val (m_v ad a) :: (t.map (m_v ad)).map Slot.val
    rw [← ih]
    unfold lg_sl
    rw [List.flatMap_cons, if_neg (by rw [m_cat]; decide)]
    rfl
theorem m_args (ad : Nat → Nat) (as : List mV) : ∀ (n i : Nat) (v : mV), as[i]? = some v → (n + i, m_v ad v) ∈ lv_args n (as.map (m_v ad)) := by
  induction as with
  | nil => intro n i v h; simp at h
  | cons a t ih =>
    intro n i v h
    show _ ∈ (n, m_v ad a) :: lv_args (if (m_v ad a).category = 2 then n + 2 else n + 1) (t.map (m_v ad))
    rw [if_neg (by rw [m_cat]; decide)]
    cases i with
    | zero => simp at h; subst h; exact List.mem_cons_self
    | succ i =>
      rw [List.getElem?_cons_succ] at h
      have h2 := ih (n + 1) i v h
      rw [show n + (i + 1) = n + 1 + i by omega]
      exact List.mem_cons_of_mem _ h2
theorem MU_of {M : mM} {as : List mV} {σ : mS} {Q : Option mV → mS → Prop} {ls : List (Option mV)} (hy : plainName M.1.cls = true) (hn : Nat.ble as.length M.2.2.1 = true) (hls : ls = as.map some ++ List.replicate (M.2.2.1 - as.length) none) (h : J M Q 0 ls [] σ) : MU M as σ Q := by
  intro l ad D cI cS sz
  refine Met.ofW (cc := M.2.1) (maxL := M.2.2.1) (ret := M.2.2.2.2) hy rfl ?_
  intro p e s m args below meth c s₁ B hml hv
  obtain ⟨rfl, hsz, hP, hK, hN, hA0⟩ := hv
  have hts := atoms_spec (ws := Cond.code M.1 M.2.1 M.2.2.1 M.2.2.2.2 :: TB) B.pre
  have hown : s.vm.findClass M.1.cls = some m.cls := findClass_of_methodNamed B.named
  subst hsz
  have hl := lv_entry (as.map (m_v ad)) (n := M.2.2.1) (by rw [m_sl]; simpa using Nat.le_of_ble_eq_true hn)
  rw [lg_entry_eq]
  refine h p l e _ s m _ below meth c ad D cI cS (va_A (m_ws ad cI cS σ) s.heap.size) 0 0 _ ⟨B.exec, B.bytes, hml, hown, fun w hw => hts w (List.mem_cons_of_mem _ hw), hN, hK, ⟨Nat.le_refl _, Nat.le_refl _, Nat.le_refl _, Nat.le_refl _⟩, ⟨hA0.1, fun k hk => m_A_iff.mpr (Or.inl ⟨k, hk, rfl⟩)⟩, fun q hq => m_A_iff.mpr (Or.inr hq), ?_⟩ _ _ _ hP va_S.rf ⟨_, hl, ?_⟩
  · intro r τ H locs lsA pc hQ hret hP1 hS1
    rcases r with _ | (x | q)
    · obtain ⟨d, hr⟩ := hret
      exact W.vret B.exec B.bytes (B.returns.trans hr) (fun t ht hW => ⟨none, τ, rfl, hQ, by rw [ht]; exact hP1, hS1.F ht⟩) hS1.2.2 d
    · obtain ⟨d, ty, hr, hn9⟩ := hret
      exact W.zret (v := x) B.exec B.bytes (B.returns.trans hr) hn9 (fun t ht hW => ⟨some (.inl x), τ, rfl, hQ, by rw [ht]; exact hP1, hS1.F ht⟩) hS1.2.2 d
    · obtain ⟨d, C, hr⟩ := hret
      exact W.aret (v := m_v ad (.inr q)) B.exec B.bytes (B.returns.trans hr) (Or.inl ⟨C, rfl⟩) (Or.inr ⟨_, rfl⟩) (fun t ht hW => ⟨some (.inr q), τ, rfl, hQ, by rw [ht]; exact hP1, hS1.F ht⟩) hS1.2.2 d
  · intro i v hi
    subst hls
    have h3 : as[i]? = some v := by
      rw [List.getElem?_append] at hi
      split at hi
      · rw [List.getElem?_map] at hi
        cases h4 : as[i]? with
        | none => rw [h4] at hi; cases hi
        | some w => rw [h4] at hi; cases hi; rfl
      · rw [List.getElem?_replicate] at hi
        split at hi <;> cases hi
    have h5 := m_args ad as 0 i v h3
    rwa [Nat.zero_add] at h5
theorem MU.mono {M : mM} {as : List mV} {σ : mS} {Q Q' : Option mV → mS → Prop} (h : MU M as σ Q) (hq : ∀ r τ, Q r τ → Q' r τ) : MU M as σ Q' := by
  intro l ad D cI cS sz
  have h1 := h l ad D cI cS sz
  intro p e ha hc hk s m args below hf happ hP hK
  obtain ⟨t, o, a1, a2, a3, ⟨r, τ, b1, b2, b3⟩, a4⟩ := h1 p e ha hc hk s m args below hf happ hP hK
  exact ⟨t, o, a1, a2, a3, ⟨r, τ, b1, hq r τ b2, b3⟩, a4⟩
theorem m_N.same {u U : State} (h : u.vm = U.vm) (hN : m_N u) : m_N U := fun w hw => va_Nw.same (NW_on w hw) h (hN w hw)
theorem m_blind {ad : Nat → Nat} {D : va_G} {cI cS : ClassId} {σ : mS} {sz : Nat} {av : List Value} : FrameBlind (va_Pc av (m_pre ad D cI cS σ sz)) := by
  intro a U g mk q
  obtain ⟨q0, q1, qP, qK, qN, qA⟩ := q
  exact ⟨q0, q1, qP, va_K.moved (u := U) (U := U.calling g mk a) (Vm.Alike.refl U.vm) qK, m_N.same (u := U) (U := U.calling g mk a) rfl qN, qA⟩
theorem m_good {w : Cond} (h : w ∈ TB) : GoodIn TB (w :: TB) := by
  intro v hv
  have h1 : v ∈ TB := by
    rcases List.mem_cons.mp hv with rfl | h2
    · exact h
    · exact h2
  exact ⟨h1, good_of_word (TB_good v h1)⟩
theorem m_sum (ad : Nat → Nat) (st : List mV) : ((st.map (m_v ad)).map fun v => v.category).sum = st.length := by
  induction st with
  | nil => rfl
  | cons a t ih => simp only [List.map_cons, List.sum_cons, List.length_cons, m_cat]; simp only [List.map_map] at ih ⊢; omega
/-- behind a call -/
theorem m_after {M : mM} {Q : Option mV → mS → Prop} {pc : Nat} {ls : List (Option mV)} {st : List mV} {σ : mS} {Q' : Option mV → mS → Prop} {p : Program} {l : Launch} {e : Env} {R : Room} {s : State} {m : MethodId} {args : Array Value} {below : List Frame} {meth : Method} {c : Code} {ad : Nat → Nat} {D : va_G} {cI cS : ClassId} {A : Nat → Prop} {cells slots : Nat} {QM : State → Prop} {H : Heap} {locs : List Loc} {lsA : Array Slot} {st0 : List Value} {a : Array Value}
    (X : mX M Q p l e R s m args below meth c ad D cI cS A cells slots QM) (hS : va_S A s.heap H locs) (hL : m_L ad M.2.2.1 ls lsA)
    (hr : va_Run p l e R s m args below meth c H locs cells slots 0 0 (F0 m pc lsA st0) (st.map (m_v ad)) (m_post ad D cI cS σ H.size Q' a) (va_A (m_ws ad cI cS σ) H.size))
    (k : ∀ r τ, Q' r τ → J M Q (pc + 3) ls (r.toList ++ st) τ) : W p l e R s m args below meth c H locs cells slots QM (F0 m pc lsA st0) := by
  have hfree : ∀ q, va_A (m_ws ad cI cS σ) H.size q → A q := by
    intro q hq
    rcases m_A_iff.mp hq with ⟨k, hk, rfl⟩ | h
    · exact X.2.2.2.2.2.2.2.2.1.2 k hk
    · exact X.2.2.2.2.2.2.2.2.2.1 q (Nat.le_trans hS.1 h)
  intro T hT X0
  obtain ⟨v, st₀, t, T', L, h0, X', hL', e1, e2, ⟨r, τ, hv, hq, hP1, hz, hk⟩, stp⟩ := hr T hT X0
  cases hv
  rw [h0] at hz hk
  have hS1 : va_S A s.heap T'.heap (locs ++ L) := ⟨Nat.le_trans hS.1 (by rw [e1]; exact hz), fun q h1 h2 => by rw [e1, hk q (Nat.lt_of_lt_of_le h1 hS.1) (fun z => h2 (hfree q z))]; exact hS.2.1 q h1 h2, fun q hq => by
    rcases List.mem_append.mp hq with h | h
    · exact hS.2.2 q h
    · exact hfree _ (hL' q h)⟩
  obtain ⟨t2, a1, b1⟩ := k r τ hq _ _ _ _ _ _ _ _ _ _ _ _ _ _ _ _ _ _ X T'.heap (locs ++ L) lsA (by rw [e1]; exact hP1) hS1 hL T' rfl X'
  refine ⟨t2, stp t2 ?_, b1⟩
  rcases r with _ | r <;> exact a1
/-- a callee's words -/
def m_MW (M' : mM) (n : Nat) : Prop := Cond.code M'.1 M'.2.1 M'.2.2.1 M'.2.2.2.2 ∈ TB ∧ Cond.initialized M'.1.cls ∈ TB ∧ (M'.1.cls ≠ "java/lang/invoke/MethodHandle" ∧ M'.1.cls ≠ "java/lang/invoke/VarHandle" ∧ (parseMethodDescriptor M'.1.desc).map (fun d => d.parameters.length) = some n) ∧ 19 + M'.2.2.1 ≤ mK
def m_MI (M' : mM) (n ci : Nat) : Prop := m_MW M' n ∧ Cond.instanceMethod M'.1 ∈ TB ∧ Cond.selects M'.1.cls M'.1 M'.1 ∈ TB ∧ ∃ (T : u_T) (N : Nat), vwCl[ci]? = some (M'.1.cls, T, N)
def m_MS (M' : mM) (n : Nat) : Prop := m_MW M' n ∧ Cond.static M'.1 ∈ TB
theorem m_rooms {M M' : mM} {R : Room} (hd : M'.2.2.2.1 + 1 ≤ M.2.2.2.1) (hk : 19 + M'.2.2.1 ≤ mK) (h1 : M.2.2.2.1 ≤ R.frames) (h2 : mK * M.2.2.2.1 ≤ R.locals) : (m_rm M').frames + 1 ≤ R.frames ∧ 8 + (M'.2.2.1 + 11) + (m_rm M').locals ≤ R.locals := by
  refine ⟨Nat.le_trans hd h1, ?_⟩
  have h3 : mK * (M'.2.2.2.1 + 1) ≤ mK * M.2.2.2.1 := Nat.mul_le_mul_left _ hd
  rw [Nat.mul_add, Nat.mul_one] at h3
  show 8 + (M'.2.2.1 + 11) + mK * M'.2.2.2.1 ≤ R.locals
  omega
theorem J_callV {M : mM} {Q : Option mV → mS → Prop} {pc : Nat} {ls : List (Option mV)} {st : List mV} {σ : mS} {M' : mM} {Q' : Option mV → mS → Prop} {q : Nat × Nat} {as : List mV} {index n ci : Nat} (hM : MU M' (.inr q :: as) σ Q') (hi : m_MI M' n ci) (hl : Cond.methodLink M.1.cls index M'.1 ∈ TB) (hc : o_ci (m_cl q) = some ci) (hn : as.length = n) (hd : M'.2.2.2.1 + 1 ≤ M.2.2.2.1) (hst : Nat.ble st.length 8 = true) (d : decode M.2.1 pc = .ok (.invokevirtual index, 3)) (k : ∀ r τ, Q' r τ → J M Q (pc + 3) ls (r.toList ++ st) τ) : J M Q pc ls (as.reverse ++ .inr q :: st) σ := by
  intro p l e R s m args below meth c ad D cI cS A cells slots QM X H locs lsA hP hS hL
  obtain ⟨x1, x2, x3, x4, x5, x6, x7, x8, x9, x10, x11⟩ := id X
  obtain ⟨L, l1, l2⟩ := id hL
  obtain ⟨c1, c2, c3, c4⟩ := hi.1
  have hR := m_rooms (R := R) hd c4 x8.1 x8.2.1
  have hc0 : cells + 0 ≤ R.cells ∧ slots + 0 ≤ R.slots := ⟨x8.2.2.1, x8.2.2.2⟩
  obtain ⟨T, N, hcl⟩ := hi.2.2.2
  obtain ⟨g1, g2⟩ := m_cell_o (ad := ad) (cI := cI) (cS := cS) (σ := σ) hc
  exact m_after X hS hL (va_runV (C := M'.1.cls) (As := as.map (m_v ad)) (rest := st.map (m_v ad)) (n := n) (own := M.1.cls) (Ts := TB) ⟨x1, x2, x3, x4, x5⟩ (hM l ad D cI cS H.size) ⟨callB_of n x5 (m_good c1) rfl rfl rfl (x5 _ c2) (x5 _ hl) c3 hR, x5 _ hi.2.1, x5 _ hi.2.2.1⟩ ⟨m_blind, va_recv x7 hP hcl (q0 := m_cl q) (by rw [m_ws_at g1, g2]), fun U hU hW => ⟨rfl, by rw [hU], by rw [hU]; exact hP, va_K.moved hW.alike x7, m_N.warm hW x6, ⟨x9.1, fun _ _ => trivial⟩⟩⟩ rfl (by simpa using hn) l1.1 (by show (as.reverse ++ .inr q :: st).map (m_v ad) = _; rw [List.map_append, List.map_reverse]; rfl) (lv_room (by rw [m_sum]; exact Nat.le_of_ble_eq_true hst)) d hc0) k
theorem J_callVN {M : mM} {Q : Option mV → mS → Prop} {pc : Nat} {ls : List (Option mV)} {st : List mV} {σ : mS} {M' : mM} {Q' : Option mV → mS → Prop} {q : Nat × Nat} {as : List mV} {index n ci : Nat} {host : String} (hM : MU M' (.inr q :: as) σ Q') (hi : m_MI M' n ci) (hl : Cond.methodLinkNest M.1.cls index M'.1 host ∈ NW) (hc : o_ci (m_cl q) = some ci) (hn : as.length = n) (hd : M'.2.2.2.1 + 1 ≤ M.2.2.2.1) (hst : Nat.ble st.length 8 = true) (d : decode M.2.1 pc = .ok (.invokevirtual index, 3)) (k : ∀ r τ, Q' r τ → J M Q (pc + 3) ls (r.toList ++ st) τ) : J M Q pc ls (as.reverse ++ .inr q :: st) σ := by
  intro p l e R s m args below meth c ad D cI cS A cells slots QM X H locs lsA hP hS hL
  obtain ⟨x1, x2, x3, x4, x5, x6, x7, x8, x9, x10, x11⟩ := id X
  obtain ⟨L, l1, l2⟩ := id hL
  obtain ⟨c1, c2, c3, c4⟩ := hi.1
  have hR := m_rooms (R := R) hd c4 x8.1 x8.2.1
  have hc0 : cells + 0 ≤ R.cells ∧ slots + 0 ≤ R.slots := ⟨x8.2.2.1, x8.2.2.2⟩
  obtain ⟨T, N, hcl⟩ := hi.2.2.2
  obtain ⟨g1, g2⟩ := m_cell_o (ad := ad) (cI := cI) (cS := cS) (σ := σ) hc
  exact m_after X hS hL (va_runVN (C := M'.1.cls) (host := host) (As := as.map (m_v ad)) (rest := st.map (m_v ad)) (n := n) (own := M.1.cls) (Ts := TB) ⟨x1, x2, x3, x4, x5⟩ (hM l ad D cI cS H.size) ⟨va_cnB n x5 (m_good c1) rfl rfl rfl (x6 _ hl) (x5 _ c2) c3 hR, x5 _ hi.2.1, x5 _ hi.2.2.1⟩ ⟨m_blind, va_recv x7 hP hcl (q0 := m_cl q) (by rw [m_ws_at g1, g2]), fun U hU hW => ⟨rfl, by rw [hU], by rw [hU]; exact hP, va_K.moved hW.alike x7, m_N.warm hW x6, ⟨x9.1, fun _ _ => trivial⟩⟩⟩ rfl (by simpa using hn) l1.1 (by show (as.reverse ++ .inr q :: st).map (m_v ad) = _; rw [List.map_append, List.map_reverse]; rfl) (lv_room (by rw [m_sum]; exact Nat.le_of_ble_eq_true hst)) d hc0) k
theorem J_callS {M : mM} {Q : Option mV → mS → Prop} {pc : Nat} {ls : List (Option mV)} {st : List mV} {σ : mS} {M' : mM} {Q' : Option mV → mS → Prop} {as : List mV} {index n : Nat} (hM : MU M' as σ Q') (hi : m_MS M' n) (hl : Cond.methodLink M.1.cls index M'.1 ∈ TB) (hn : as.length = n) (hd : M'.2.2.2.1 + 1 ≤ M.2.2.2.1) (hst : Nat.ble st.length 8 = true) (d : decode M.2.1 pc = .ok (.invokestatic index, 3)) (k : ∀ r τ, Q' r τ → J M Q (pc + 3) ls (r.toList ++ st) τ) : J M Q pc ls (as.reverse ++ st) σ := by
  intro p l e R s m args below meth c ad D cI cS A cells slots QM X H locs lsA hP hS hL
  obtain ⟨x1, x2, x3, x4, x5, x6, x7, x8, x9, x10, x11⟩ := id X
  obtain ⟨L, l1, l2⟩ := id hL
  obtain ⟨c1, c2, c3, c4⟩ := hi.1
  have hR := m_rooms (R := R) hd c4 x8.1 x8.2.1
  have hc0 : cells + 0 ≤ R.cells ∧ slots + 0 ≤ R.slots := ⟨x8.2.2.1, x8.2.2.2⟩
  exact m_after X hS hL (va_runS (As := as.map (m_v ad)) (rest := st.map (m_v ad)) (n := n) (own := M.1.cls) (Ts := TB) ⟨x1, x2, x3, x4, x5⟩ (hM l ad D cI cS H.size) ⟨callB_of n x5 (m_good c1) rfl rfl rfl (x5 _ c2) (x5 _ hl) c3 hR, x5 _ hi.2⟩ ⟨m_blind, fun U hU hW => ⟨rfl, by rw [hU], by rw [hU]; exact hP, va_K.moved hW.alike x7, m_N.warm hW x6, ⟨x9.1, fun _ _ => trivial⟩⟩⟩ rfl (by simpa using hn) l1.1 (by show (as.reverse ++ st).map (m_v ad) = _; rw [List.map_append, List.map_reverse]) (lv_room (by rw [m_sum]; exact Nat.le_of_ble_eq_true hst)) d hc0) k
theorem J_callSN {M : mM} {Q : Option mV → mS → Prop} {pc : Nat} {ls : List (Option mV)} {st : List mV} {σ : mS} {M' : mM} {Q' : Option mV → mS → Prop} {as : List mV} {index n : Nat} {host : String} (hM : MU M' as σ Q') (hi : m_MS M' n) (hl : Cond.methodLinkNest M.1.cls index M'.1 host ∈ NW) (hn : as.length = n) (hd : M'.2.2.2.1 + 1 ≤ M.2.2.2.1) (hst : Nat.ble st.length 8 = true) (d : decode M.2.1 pc = .ok (.invokestatic index, 3)) (k : ∀ r τ, Q' r τ → J M Q (pc + 3) ls (r.toList ++ st) τ) : J M Q pc ls (as.reverse ++ st) σ := by
  intro p l e R s m args below meth c ad D cI cS A cells slots QM X H locs lsA hP hS hL
  obtain ⟨x1, x2, x3, x4, x5, x6, x7, x8, x9, x10, x11⟩ := id X
  obtain ⟨L, l1, l2⟩ := id hL
  obtain ⟨c1, c2, c3, c4⟩ := hi.1
  have hR := m_rooms (R := R) hd c4 x8.1 x8.2.1
  have hc0 : cells + 0 ≤ R.cells ∧ slots + 0 ≤ R.slots := ⟨x8.2.2.1, x8.2.2.2⟩
  exact m_after X hS hL (va_runSN (host := host) (As := as.map (m_v ad)) (rest := st.map (m_v ad)) (n := n) (own := M.1.cls) (Ts := TB) ⟨x1, x2, x3, x4, x5⟩ (hM l ad D cI cS H.size) ⟨va_cnB n x5 (m_good c1) rfl rfl rfl (x6 _ hl) (x5 _ c2) c3 hR, x5 _ hi.2, trivial⟩ ⟨m_blind, fun U hU hW => ⟨rfl, by rw [hU], by rw [hU]; exact hP, va_K.moved hW.alike x7, m_N.warm hW x6, ⟨x9.1, fun _ _ => trivial⟩⟩⟩ rfl (by simpa using hn) l1.1 (by show (as.reverse ++ st).map (m_v ad) = _; rw [List.map_append, List.map_reverse]) (lv_room (by rw [m_sum]; exact Nat.le_of_ble_eq_true hst)) d hc0) k
end
