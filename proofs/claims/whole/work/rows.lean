section
-- ===== PART A: goes FIRST, ahead of the names: the tables' words, and 'selects' of the private methods out of them =====
/-- a private method of a class that the tables say can be made, by its rows of tables_1 -/
def lw_okq (q : MethodName × Nat) : Prop := (q.1.cls ≠ "java/lang/invoke/MethodHandle" ∧ q.1.cls ≠ "java/lang/invoke/VarHandle") ∧ Cond.instantiable q.1.cls q.2 ∈ tables_1 ∧ Cond.privateMethod q.1 ∈ tables_1 ∧ Cond.instanceMethod q.1 ∈ tables_1
theorem lw_p0 : lw_okq (⟨"PointsToRounds", "forgetAnswers", "()V"⟩, 3) := ⟨⟨by decide +kernel, by decide +kernel⟩, List.mem_of_getElem? (i := 11) (by decide +kernel), List.mem_of_getElem? (i := 244) (by decide +kernel), List.mem_of_getElem? (i := 245) (by decide +kernel)⟩
theorem lw_p1 : lw_okq (⟨"PointsToRounds$Program", "findMethod", "(II)V"⟩, 15) := ⟨⟨by decide +kernel, by decide +kernel⟩, List.mem_of_getElem? (i := 19) (by decide +kernel), List.mem_of_getElem? (i := 259) (by decide +kernel), List.mem_of_getElem? (i := 260) (by decide +kernel)⟩
theorem lw_p2 : lw_okq (⟨"PointsToRounds$Program", "addSite", "(I)I"⟩, 15) := ⟨⟨by decide +kernel, by decide +kernel⟩, List.mem_of_getElem? (i := 19) (by decide +kernel), List.mem_of_getElem? (i := 325) (by decide +kernel), List.mem_of_getElem? (i := 326) (by decide +kernel)⟩
theorem lw_p3 : lw_okq (⟨"PointsToRounds$Sets", "doRound", "()V"⟩, 9) := ⟨⟨by decide +kernel, by decide +kernel⟩, List.mem_of_getElem? (i := 136) (by decide +kernel), List.mem_of_getElem? (i := 365) (by decide +kernel), List.mem_of_getElem? (i := 366) (by decide +kernel)⟩
theorem lw_p4 : lw_okq (⟨"PointsToRounds$Sets", "doStatement", "(LPointsToRounds$Statement;I)V"⟩, 9) := ⟨⟨by decide +kernel, by decide +kernel⟩, List.mem_of_getElem? (i := 136) (by decide +kernel), List.mem_of_getElem? (i := 377) (by decide +kernel), List.mem_of_getElem? (i := 378) (by decide +kernel)⟩
theorem lw_p5 : lw_okq (⟨"PointsToRounds$Sets", "add", "(II)V"⟩, 9) := ⟨⟨by decide +kernel, by decide +kernel⟩, List.mem_of_getElem? (i := 136) (by decide +kernel), List.mem_of_getElem? (i := 381) (by decide +kernel), List.mem_of_getElem? (i := 382) (by decide +kernel)⟩
theorem lw_p6 : lw_okq (⟨"PointsToRounds$Sets", "noteRound", "(II)V"⟩, 9) := ⟨⟨by decide +kernel, by decide +kernel⟩, List.mem_of_getElem? (i := 136) (by decide +kernel), List.mem_of_getElem? (i := 385) (by decide +kernel), List.mem_of_getElem? (i := 386) (by decide +kernel)⟩
theorem lw_p7 : lw_okq (⟨"PointsToRounds$Sets", "addFromSlot", "(III)V"⟩, 9) := ⟨⟨by decide +kernel, by decide +kernel⟩, List.mem_of_getElem? (i := 136) (by decide +kernel), List.mem_of_getElem? (i := 389) (by decide +kernel), List.mem_of_getElem? (i := 390) (by decide +kernel)⟩
theorem lw_p8 : lw_okq (⟨"PointsToRounds$Sets", "addToSlot", "(III)V"⟩, 9) := ⟨⟨by decide +kernel, by decide +kernel⟩, List.mem_of_getElem? (i := 136) (by decide +kernel), List.mem_of_getElem? (i := 400) (by decide +kernel), List.mem_of_getElem? (i := 401) (by decide +kernel)⟩
theorem lw_p9 : lw_okq (⟨"PointsToRounds$Sets", "doCall", "(LPointsToRounds$Statement;I)V"⟩, 9) := ⟨⟨by decide +kernel, by decide +kernel⟩, List.mem_of_getElem? (i := 136) (by decide +kernel), List.mem_of_getElem? (i := 404) (by decide +kernel), List.mem_of_getElem? (i := 405) (by decide +kernel)⟩
theorem lw_p10 : lw_okq (⟨"PointsToRounds$Trial", "pushFrame", "(III)V"⟩, 14) := ⟨⟨by decide +kernel, by decide +kernel⟩, List.mem_of_getElem? (i := 173) (by decide +kernel), List.mem_of_getElem? (i := 493) (by decide +kernel), List.mem_of_getElem? (i := 494) (by decide +kernel)⟩
theorem lw_p11 : lw_okq (⟨"PointsToRounds$Trial", "doStep", "(I)V"⟩, 14) := ⟨⟨by decide +kernel, by decide +kernel⟩, List.mem_of_getElem? (i := 173) (by decide +kernel), List.mem_of_getElem? (i := 505) (by decide +kernel), List.mem_of_getElem? (i := 506) (by decide +kernel)⟩
theorem lw_p12 : lw_okq (⟨"PointsToRounds$Trial", "doStatement", "(LPointsToRounds$Statement;I)V"⟩, 14) := ⟨⟨by decide +kernel, by decide +kernel⟩, List.mem_of_getElem? (i := 173) (by decide +kernel), List.mem_of_getElem? (i := 510) (by decide +kernel), List.mem_of_getElem? (i := 511) (by decide +kernel)⟩
theorem lw_p13 : lw_okq (⟨"PointsToRounds$Trial", "makeObject", "(LPointsToRounds$Statement;I)V"⟩, 14) := ⟨⟨by decide +kernel, by decide +kernel⟩, List.mem_of_getElem? (i := 173) (by decide +kernel), List.mem_of_getElem? (i := 514) (by decide +kernel), List.mem_of_getElem? (i := 515) (by decide +kernel)⟩
theorem lw_p14 : lw_okq (⟨"PointsToRounds$Trial", "readSlot", "(III)V"⟩, 14) := ⟨⟨by decide +kernel, by decide +kernel⟩, List.mem_of_getElem? (i := 173) (by decide +kernel), List.mem_of_getElem? (i := 518) (by decide +kernel), List.mem_of_getElem? (i := 519) (by decide +kernel)⟩
theorem lw_p15 : lw_okq (⟨"PointsToRounds$Trial", "hasSlot", "(II)Z"⟩, 14) := ⟨⟨by decide +kernel, by decide +kernel⟩, List.mem_of_getElem? (i := 173) (by decide +kernel), List.mem_of_getElem? (i := 522) (by decide +kernel), List.mem_of_getElem? (i := 523) (by decide +kernel)⟩
def lw_privs_1 : List (MethodName × Nat) := [(⟨"PointsToRounds", "forgetAnswers", "()V"⟩, 3), (⟨"PointsToRounds$Program", "findMethod", "(II)V"⟩, 15), (⟨"PointsToRounds$Program", "addSite", "(I)I"⟩, 15), (⟨"PointsToRounds$Sets", "doRound", "()V"⟩, 9), (⟨"PointsToRounds$Sets", "doStatement", "(LPointsToRounds$Statement;I)V"⟩, 9), (⟨"PointsToRounds$Sets", "add", "(II)V"⟩, 9), (⟨"PointsToRounds$Sets", "noteRound", "(II)V"⟩, 9), (⟨"PointsToRounds$Sets", "addFromSlot", "(III)V"⟩, 9), (⟨"PointsToRounds$Sets", "addToSlot", "(III)V"⟩, 9), (⟨"PointsToRounds$Sets", "doCall", "(LPointsToRounds$Statement;I)V"⟩, 9), (⟨"PointsToRounds$Trial", "pushFrame", "(III)V"⟩, 14), (⟨"PointsToRounds$Trial", "doStep", "(I)V"⟩, 14), (⟨"PointsToRounds$Trial", "doStatement", "(LPointsToRounds$Statement;I)V"⟩, 14), (⟨"PointsToRounds$Trial", "makeObject", "(LPointsToRounds$Statement;I)V"⟩, 14), (⟨"PointsToRounds$Trial", "readSlot", "(III)V"⟩, 14), (⟨"PointsToRounds$Trial", "hasSlot", "(II)Z"⟩, 14)]
theorem lw_r1 : ∀ q ∈ lw_privs_1, lw_okq q := List.forall_mem_cons.mpr ⟨lw_p0, List.forall_mem_cons.mpr ⟨lw_p1, List.forall_mem_cons.mpr ⟨lw_p2, List.forall_mem_cons.mpr ⟨lw_p3, List.forall_mem_cons.mpr ⟨lw_p4, List.forall_mem_cons.mpr ⟨lw_p5, List.forall_mem_cons.mpr ⟨lw_p6, List.forall_mem_cons.mpr ⟨lw_p7, List.forall_mem_cons.mpr ⟨lw_p8, List.forall_mem_cons.mpr ⟨lw_p9, List.forall_mem_cons.mpr ⟨lw_p10, List.forall_mem_cons.mpr ⟨lw_p11, List.forall_mem_cons.mpr ⟨lw_p12, List.forall_mem_cons.mpr ⟨lw_p13, List.forall_mem_cons.mpr ⟨lw_p14, List.forall_mem_cons.mpr ⟨lw_p15, fun _ h => absurd h List.not_mem_nil⟩⟩⟩⟩⟩⟩⟩⟩⟩⟩⟩⟩⟩⟩⟩⟩
theorem lw_p16 : lw_okq (⟨"PointsToRounds$Trial", "writeSlot", "(III)V"⟩, 14) := ⟨⟨by decide +kernel, by decide +kernel⟩, List.mem_of_getElem? (i := 173) (by decide +kernel), List.mem_of_getElem? (i := 528) (by decide +kernel), List.mem_of_getElem? (i := 529) (by decide +kernel)⟩
theorem lw_p17 : lw_okq (⟨"PointsToRounds$Trial", "lookAt", "(II)V"⟩, 14) := ⟨⟨by decide +kernel, by decide +kernel⟩, List.mem_of_getElem? (i := 173) (by decide +kernel), List.mem_of_getElem? (i := 533) (by decide +kernel), List.mem_of_getElem? (i := 534) (by decide +kernel)⟩
theorem lw_p18 : lw_okq (⟨"PointsToRounds$Trial", "castObject", "(LPointsToRounds$Statement;I)V"⟩, 14) := ⟨⟨by decide +kernel, by decide +kernel⟩, List.mem_of_getElem? (i := 173) (by decide +kernel), List.mem_of_getElem? (i := 538) (by decide +kernel), List.mem_of_getElem? (i := 539) (by decide +kernel)⟩
theorem lw_p19 : lw_okq (⟨"PointsToRounds$Trial", "enterMethod", "(LPointsToRounds$Statement;I)V"⟩, 14) := ⟨⟨by decide +kernel, by decide +kernel⟩, List.mem_of_getElem? (i := 173) (by decide +kernel), List.mem_of_getElem? (i := 542) (by decide +kernel), List.mem_of_getElem? (i := 543) (by decide +kernel)⟩
theorem lw_p20 : lw_okq (⟨"PointsToRounds$Trial", "lookAtNames", "()V"⟩, 14) := ⟨⟨by decide +kernel, by decide +kernel⟩, List.mem_of_getElem? (i := 173) (by decide +kernel), List.mem_of_getElem? (i := 548) (by decide +kernel), List.mem_of_getElem? (i := 549) (by decide +kernel)⟩
theorem lw_p21 : lw_okq (⟨"PointsToRoundsModel", "change", "()V"⟩, 44) := ⟨⟨by decide +kernel, by decide +kernel⟩, List.mem_of_getElem? (i := 561) (by decide +kernel), List.mem_of_getElem? (i := 704) (by decide +kernel), List.mem_of_getElem? (i := 705) (by decide +kernel)⟩
theorem lw_p22 : lw_okq (⟨"PointsToRoundsModel", "forgetRun", "()V"⟩, 44) := ⟨⟨by decide +kernel, by decide +kernel⟩, List.mem_of_getElem? (i := 561) (by decide +kernel), List.mem_of_getElem? (i := 708) (by decide +kernel), List.mem_of_getElem? (i := 709) (by decide +kernel)⟩
theorem lw_p23 : lw_okq (⟨"PointsToRoundsModel", "isClass", "(I)Z"⟩, 44) := ⟨⟨by decide +kernel, by decide +kernel⟩, List.mem_of_getElem? (i := 561) (by decide +kernel), List.mem_of_getElem? (i := 716) (by decide +kernel), List.mem_of_getElem? (i := 717) (by decide +kernel)⟩
theorem lw_p24 : lw_okq (⟨"PointsToRoundsModel", "methodWith", "(II)I"⟩, 44) := ⟨⟨by decide +kernel, by decide +kernel⟩, List.mem_of_getElem? (i := 561) (by decide +kernel), List.mem_of_getElem? (i := 724) (by decide +kernel), List.mem_of_getElem? (i := 725) (by decide +kernel)⟩
theorem lw_p25 : lw_okq (⟨"PointsToRoundsModel", "isMethod", "(I)Z"⟩, 44) := ⟨⟨by decide +kernel, by decide +kernel⟩, List.mem_of_getElem? (i := 561) (by decide +kernel), List.mem_of_getElem? (i := 732) (by decide +kernel), List.mem_of_getElem? (i := 733) (by decide +kernel)⟩
theorem lw_p26 : lw_okq (⟨"PointsToRoundsModel", "isGood", "(IIIIII)Z"⟩, 44) := ⟨⟨by decide +kernel, by decide +kernel⟩, List.mem_of_getElem? (i := 561) (by decide +kernel), List.mem_of_getElem? (i := 736) (by decide +kernel), List.mem_of_getElem? (i := 737) (by decide +kernel)⟩
theorem lw_p27 : lw_okq (⟨"PointsToRoundsModel", "isField", "(I)Z"⟩, 44) := ⟨⟨by decide +kernel, by decide +kernel⟩, List.mem_of_getElem? (i := 561) (by decide +kernel), List.mem_of_getElem? (i := 743) (by decide +kernel), List.mem_of_getElem? (i := 744) (by decide +kernel)⟩
theorem lw_p28 : lw_okq (⟨"PointsToRoundsModel", "isContext", "(I)Z"⟩, 44) := ⟨⟨by decide +kernel, by decide +kernel⟩, List.mem_of_getElem? (i := 561) (by decide +kernel), List.mem_of_getElem? (i := 762) (by decide +kernel), List.mem_of_getElem? (i := 763) (by decide +kernel)⟩
theorem lw_p29 : lw_okq (⟨"PointsToRoundsModel", "know", "()V"⟩, 44) := ⟨⟨by decide +kernel, by decide +kernel⟩, List.mem_of_getElem? (i := 561) (by decide +kernel), List.mem_of_getElem? (i := 766) (by decide +kernel), List.mem_of_getElem? (i := 767) (by decide +kernel)⟩
theorem lw_p30 : lw_okq (⟨"PointsToRoundsModel", "empty", "()V"⟩, 44) := ⟨⟨by decide +kernel, by decide +kernel⟩, List.mem_of_getElem? (i := 561) (by decide +kernel), List.mem_of_getElem? (i := 770) (by decide +kernel), List.mem_of_getElem? (i := 771) (by decide +kernel)⟩
theorem lw_p31 : lw_okq (⟨"PointsToRoundsModel", "copy", "()V"⟩, 44) := ⟨⟨by decide +kernel, by decide +kernel⟩, List.mem_of_getElem? (i := 561) (by decide +kernel), List.mem_of_getElem? (i := 774) (by decide +kernel), List.mem_of_getElem? (i := 775) (by decide +kernel)⟩
def lw_privs_2 : List (MethodName × Nat) := [(⟨"PointsToRounds$Trial", "writeSlot", "(III)V"⟩, 14), (⟨"PointsToRounds$Trial", "lookAt", "(II)V"⟩, 14), (⟨"PointsToRounds$Trial", "castObject", "(LPointsToRounds$Statement;I)V"⟩, 14), (⟨"PointsToRounds$Trial", "enterMethod", "(LPointsToRounds$Statement;I)V"⟩, 14), (⟨"PointsToRounds$Trial", "lookAtNames", "()V"⟩, 14), (⟨"PointsToRoundsModel", "change", "()V"⟩, 44), (⟨"PointsToRoundsModel", "forgetRun", "()V"⟩, 44), (⟨"PointsToRoundsModel", "isClass", "(I)Z"⟩, 44), (⟨"PointsToRoundsModel", "methodWith", "(II)I"⟩, 44), (⟨"PointsToRoundsModel", "isMethod", "(I)Z"⟩, 44), (⟨"PointsToRoundsModel", "isGood", "(IIIIII)Z"⟩, 44), (⟨"PointsToRoundsModel", "isField", "(I)Z"⟩, 44), (⟨"PointsToRoundsModel", "isContext", "(I)Z"⟩, 44), (⟨"PointsToRoundsModel", "know", "()V"⟩, 44), (⟨"PointsToRoundsModel", "empty", "()V"⟩, 44), (⟨"PointsToRoundsModel", "copy", "()V"⟩, 44)]
theorem lw_r2 : ∀ q ∈ lw_privs_2, lw_okq q := List.forall_mem_cons.mpr ⟨lw_p16, List.forall_mem_cons.mpr ⟨lw_p17, List.forall_mem_cons.mpr ⟨lw_p18, List.forall_mem_cons.mpr ⟨lw_p19, List.forall_mem_cons.mpr ⟨lw_p20, List.forall_mem_cons.mpr ⟨lw_p21, List.forall_mem_cons.mpr ⟨lw_p22, List.forall_mem_cons.mpr ⟨lw_p23, List.forall_mem_cons.mpr ⟨lw_p24, List.forall_mem_cons.mpr ⟨lw_p25, List.forall_mem_cons.mpr ⟨lw_p26, List.forall_mem_cons.mpr ⟨lw_p27, List.forall_mem_cons.mpr ⟨lw_p28, List.forall_mem_cons.mpr ⟨lw_p29, List.forall_mem_cons.mpr ⟨lw_p30, List.forall_mem_cons.mpr ⟨lw_p31, fun _ h => absurd h List.not_mem_nil⟩⟩⟩⟩⟩⟩⟩⟩⟩⟩⟩⟩⟩⟩⟩⟩
theorem lw_p32 : lw_okq (⟨"PointsToRoundsModel", "bring", "(II)V"⟩, 44) := ⟨⟨by decide +kernel, by decide +kernel⟩, List.mem_of_getElem? (i := 561) (by decide +kernel), List.mem_of_getElem? (i := 778) (by decide +kernel), List.mem_of_getElem? (i := 779) (by decide +kernel)⟩
theorem lw_p33 : lw_okq (⟨"PointsToRoundsModel", "call", "(IIII)V"⟩, 44) := ⟨⟨by decide +kernel, by decide +kernel⟩, List.mem_of_getElem? (i := 561) (by decide +kernel), List.mem_of_getElem? (i := 785) (by decide +kernel), List.mem_of_getElem? (i := 786) (by decide +kernel)⟩
theorem lw_p34 : lw_okq (⟨"PointsToRoundsModel", "found", "(II)I"⟩, 44) := ⟨⟨by decide +kernel, by decide +kernel⟩, List.mem_of_getElem? (i := 561) (by decide +kernel), List.mem_of_getElem? (i := 789) (by decide +kernel), List.mem_of_getElem? (i := 790) (by decide +kernel)⟩
theorem lw_p35 : lw_okq (⟨"PointsToRoundsModel", "bringEach", "(IIII)V"⟩, 44) := ⟨⟨by decide +kernel, by decide +kernel⟩, List.mem_of_getElem? (i := 561) (by decide +kernel), List.mem_of_getElem? (i := 793) (by decide +kernel), List.mem_of_getElem? (i := 794) (by decide +kernel)⟩
theorem lw_p36 : lw_okq (⟨"PointsToRoundsModel", "hasField", "(II)Z"⟩, 44) := ⟨⟨by decide +kernel, by decide +kernel⟩, List.mem_of_getElem? (i := 561) (by decide +kernel), List.mem_of_getElem? (i := 797) (by decide +kernel), List.mem_of_getElem? (i := 798) (by decide +kernel)⟩
theorem lw_p37 : lw_okq (⟨"PointsToRoundsModel", "isUnder", "(II)Z"⟩, 44) := ⟨⟨by decide +kernel, by decide +kernel⟩, List.mem_of_getElem? (i := 561) (by decide +kernel), List.mem_of_getElem? (i := 801) (by decide +kernel), List.mem_of_getElem? (i := 802) (by decide +kernel)⟩
theorem lw_p38 : lw_okq (⟨"PointsToRoundsModel", "isSame", "()Z"⟩, 44) := ⟨⟨by decide +kernel, by decide +kernel⟩, List.mem_of_getElem? (i := 561) (by decide +kernel), List.mem_of_getElem? (i := 805) (by decide +kernel), List.mem_of_getElem? (i := 806) (by decide +kernel)⟩
theorem lw_p39 : lw_okq (⟨"PointsToRoundsModel", "swap", "()V"⟩, 44) := ⟨⟨by decide +kernel, by decide +kernel⟩, List.mem_of_getElem? (i := 561) (by decide +kernel), List.mem_of_getElem? (i := 809) (by decide +kernel), List.mem_of_getElem? (i := 810) (by decide +kernel)⟩
theorem lw_p40 : lw_okq (⟨"PointsToRoundsModel", "note", "(I)V"⟩, 44) := ⟨⟨by decide +kernel, by decide +kernel⟩, List.mem_of_getElem? (i := 561) (by decide +kernel), List.mem_of_getElem? (i := 813) (by decide +kernel), List.mem_of_getElem? (i := 814) (by decide +kernel)⟩
theorem lw_p41 : lw_okq (⟨"PointsToRoundsModel", "allOf", "(II)I"⟩, 44) := ⟨⟨by decide +kernel, by decide +kernel⟩, List.mem_of_getElem? (i := 561) (by decide +kernel), List.mem_of_getElem? (i := 817) (by decide +kernel), List.mem_of_getElem? (i := 818) (by decide +kernel)⟩
theorem lw_p42 : lw_okq (⟨"PointsToRoundsModel", "isSite", "(I)Z"⟩, 44) := ⟨⟨by decide +kernel, by decide +kernel⟩, List.mem_of_getElem? (i := 561) (by decide +kernel), List.mem_of_getElem? (i := 825) (by decide +kernel), List.mem_of_getElem? (i := 826) (by decide +kernel)⟩
theorem lw_p43 : lw_okq (⟨"PointsToRoundsModel", "open", "(III)V"⟩, 44) := ⟨⟨by decide +kernel, by decide +kernel⟩, List.mem_of_getElem? (i := 561) (by decide +kernel), List.mem_of_getElem? (i := 861) (by decide +kernel), List.mem_of_getElem? (i := 862) (by decide +kernel)⟩
theorem lw_p44 : lw_okq (⟨"PointsToRoundsModel", "many", "(I)I"⟩, 44) := ⟨⟨by decide +kernel, by decide +kernel⟩, List.mem_of_getElem? (i := 561) (by decide +kernel), List.mem_of_getElem? (i := 867) (by decide +kernel), List.mem_of_getElem? (i := 868) (by decide +kernel)⟩
theorem lw_p45 : lw_okq (⟨"PointsToRoundsModel", "statementOf", "(II)I"⟩, 44) := ⟨⟨by decide +kernel, by decide +kernel⟩, List.mem_of_getElem? (i := 561) (by decide +kernel), List.mem_of_getElem? (i := 871) (by decide +kernel), List.mem_of_getElem? (i := 872) (by decide +kernel)⟩
theorem lw_p46 : lw_okq (⟨"PointsToRoundsModel", "act", "(I)V"⟩, 44) := ⟨⟨by decide +kernel, by decide +kernel⟩, List.mem_of_getElem? (i := 561) (by decide +kernel), List.mem_of_getElem? (i := 875) (by decide +kernel), List.mem_of_getElem? (i := 876) (by decide +kernel)⟩
theorem lw_p47 : lw_okq (⟨"PointsToRoundsModel", "make", "(II)V"⟩, 44) := ⟨⟨by decide +kernel, by decide +kernel⟩, List.mem_of_getElem? (i := 561) (by decide +kernel), List.mem_of_getElem? (i := 879) (by decide +kernel), List.mem_of_getElem? (i := 880) (by decide +kernel)⟩
def lw_privs_3 : List (MethodName × Nat) := [(⟨"PointsToRoundsModel", "bring", "(II)V"⟩, 44), (⟨"PointsToRoundsModel", "call", "(IIII)V"⟩, 44), (⟨"PointsToRoundsModel", "found", "(II)I"⟩, 44), (⟨"PointsToRoundsModel", "bringEach", "(IIII)V"⟩, 44), (⟨"PointsToRoundsModel", "hasField", "(II)Z"⟩, 44), (⟨"PointsToRoundsModel", "isUnder", "(II)Z"⟩, 44), (⟨"PointsToRoundsModel", "isSame", "()Z"⟩, 44), (⟨"PointsToRoundsModel", "swap", "()V"⟩, 44), (⟨"PointsToRoundsModel", "note", "(I)V"⟩, 44), (⟨"PointsToRoundsModel", "allOf", "(II)I"⟩, 44), (⟨"PointsToRoundsModel", "isSite", "(I)Z"⟩, 44), (⟨"PointsToRoundsModel", "open", "(III)V"⟩, 44), (⟨"PointsToRoundsModel", "many", "(I)I"⟩, 44), (⟨"PointsToRoundsModel", "statementOf", "(II)I"⟩, 44), (⟨"PointsToRoundsModel", "act", "(I)V"⟩, 44), (⟨"PointsToRoundsModel", "make", "(II)V"⟩, 44)]
theorem lw_r3 : ∀ q ∈ lw_privs_3, lw_okq q := List.forall_mem_cons.mpr ⟨lw_p32, List.forall_mem_cons.mpr ⟨lw_p33, List.forall_mem_cons.mpr ⟨lw_p34, List.forall_mem_cons.mpr ⟨lw_p35, List.forall_mem_cons.mpr ⟨lw_p36, List.forall_mem_cons.mpr ⟨lw_p37, List.forall_mem_cons.mpr ⟨lw_p38, List.forall_mem_cons.mpr ⟨lw_p39, List.forall_mem_cons.mpr ⟨lw_p40, List.forall_mem_cons.mpr ⟨lw_p41, List.forall_mem_cons.mpr ⟨lw_p42, List.forall_mem_cons.mpr ⟨lw_p43, List.forall_mem_cons.mpr ⟨lw_p44, List.forall_mem_cons.mpr ⟨lw_p45, List.forall_mem_cons.mpr ⟨lw_p46, List.forall_mem_cons.mpr ⟨lw_p47, fun _ h => absurd h List.not_mem_nil⟩⟩⟩⟩⟩⟩⟩⟩⟩⟩⟩⟩⟩⟩⟩⟩
theorem lw_p48 : lw_okq (⟨"PointsToRoundsModel", "canHave", "(II)Z"⟩, 44) := ⟨⟨by decide +kernel, by decide +kernel⟩, List.mem_of_getElem? (i := 561) (by decide +kernel), List.mem_of_getElem? (i := 883) (by decide +kernel), List.mem_of_getElem? (i := 884) (by decide +kernel)⟩
theorem lw_p49 : lw_okq (⟨"PointsToRoundsModel", "enter", "(III)V"⟩, 44) := ⟨⟨by decide +kernel, by decide +kernel⟩, List.mem_of_getElem? (i := 561) (by decide +kernel), List.mem_of_getElem? (i := 887) (by decide +kernel), List.mem_of_getElem? (i := 888) (by decide +kernel)⟩
theorem lw_p50 : lw_okq (⟨"PointsToRoundsModel", "leave", "()V"⟩, 44) := ⟨⟨by decide +kernel, by decide +kernel⟩, List.mem_of_getElem? (i := 561) (by decide +kernel), List.mem_of_getElem? (i := 891) (by decide +kernel), List.mem_of_getElem? (i := 892) (by decide +kernel)⟩
theorem lw_p51 : lw_okq (⟨"PointsToRoundsModel", "holds", "()Z"⟩, 44) := ⟨⟨by decide +kernel, by decide +kernel⟩, List.mem_of_getElem? (i := 561) (by decide +kernel), List.mem_of_getElem? (i := 895) (by decide +kernel), List.mem_of_getElem? (i := 896) (by decide +kernel)⟩
theorem lw_p52 : lw_okq (⟨"PointsToRoundsModel", "isIn", "(II)Z"⟩, 44) := ⟨⟨by decide +kernel, by decide +kernel⟩, List.mem_of_getElem? (i := 561) (by decide +kernel), List.mem_of_getElem? (i := 899) (by decide +kernel), List.mem_of_getElem? (i := 900) (by decide +kernel)⟩
def lw_privs_4 : List (MethodName × Nat) := [(⟨"PointsToRoundsModel", "canHave", "(II)Z"⟩, 44), (⟨"PointsToRoundsModel", "enter", "(III)V"⟩, 44), (⟨"PointsToRoundsModel", "leave", "()V"⟩, 44), (⟨"PointsToRoundsModel", "holds", "()Z"⟩, 44), (⟨"PointsToRoundsModel", "isIn", "(II)Z"⟩, 44)]
theorem lw_r4 : ∀ q ∈ lw_privs_4, lw_okq q := List.forall_mem_cons.mpr ⟨lw_p48, List.forall_mem_cons.mpr ⟨lw_p49, List.forall_mem_cons.mpr ⟨lw_p50, List.forall_mem_cons.mpr ⟨lw_p51, List.forall_mem_cons.mpr ⟨lw_p52, fun _ h => absurd h List.not_mem_nil⟩⟩⟩⟩⟩
def lw_privs : List (MethodName × Nat) := lw_privs_1 ++ (lw_privs_2 ++ (lw_privs_3 ++ (lw_privs_4)))
def lw_tbl : List Cond := k2_sels lw_privs ++ tables_1
theorem lw_privs_ok : ∀ q ∈ lw_privs, lw_okq q := by
  show ∀ q ∈ lw_privs_1 ++ (lw_privs_2 ++ (lw_privs_3 ++ (lw_privs_4))), lw_okq q
  exact List.forall_mem_append.mpr ⟨lw_r1, List.forall_mem_append.mpr ⟨lw_r2, List.forall_mem_append.mpr ⟨lw_r3, lw_r4⟩⟩⟩
end
section
/-! NAMES AND TABLES, by program (names.py): classes, methods, the cells of the small machine, the words of the tables -/
def TB : List Cond := lw_tbl.filter goodWord
theorem TB_good : ∀ w ∈ TB, goodWord w = true := fun w h => (List.mem_filter.mp h).2
theorem TB1 {w : Cond} (h : w ∈ tables_1_1) (g : goodWord w = true) : w ∈ TB := List.mem_filter.mpr ⟨List.mem_append_right _ (List.mem_append_left _ h), g⟩
theorem TB2 {w : Cond} (h : w ∈ tables_1_2) (g : goodWord w = true) : w ∈ TB := List.mem_filter.mpr ⟨List.mem_append_right _ (List.mem_append_right _ (List.mem_append_left _ h)), g⟩
theorem TB3 {w : Cond} (h : w ∈ tables_1_3) (g : goodWord w = true) : w ∈ TB := List.mem_filter.mpr ⟨List.mem_append_right _ (List.mem_append_right _ (List.mem_append_right _ (List.mem_append_left _ h))), g⟩
theorem TB4 {w : Cond} (h : w ∈ tables_1_4) (g : goodWord w = true) : w ∈ TB := List.mem_filter.mpr ⟨List.mem_append_right _ (List.mem_append_right _ (List.mem_append_right _ (List.mem_append_right _ h))), g⟩
theorem TBs {w : Cond} (h : w ∈ k2_sels lw_privs) (g : goodWord w = true) : w ∈ TB := List.mem_filter.mpr ⟨List.mem_append_left _ h, g⟩
def mK : Nat := 40
def RO : String := "PointsToRounds"
def TO : u_T := fun k => match k with
  | 0 => ("PointsToRounds", "program", "LPointsToRounds$Program;", true)
  | 1 => ("PointsToRounds", "sets", "LPointsToRounds$Sets;", true)
  | _ => ("PointsToRounds", "trial", "LPointsToRounds$Trial;", true)
def tyO : Nat → FieldType := fun k => match k with
  | 0 => .object "PointsToRounds$Program"
  | 1 => .object "PointsToRounds$Sets"
  | _ => .object "PointsToRounds$Trial"
theorem nmO : ∀ a, a < 3 → ∀ b, b < 3 → a ≠ b → (TO a).2.1 ≠ (TO b).2.1 := by decide +kernel
theorem tyO_ok : ∀ k, k < 3 → parseFieldDescriptor (TO k).2.2.1 = some (tyO k) := by decide +kernel
set_option maxRecDepth 20000 in
theorem inO : ∀ w ∈ u_ws RO TO 3, w ∈ TB := by
  intro w hw
  obtain ⟨k, hk, rfl⟩ := List.mem_map.mp hw
  have hk := List.mem_range.mp hk
  match k, hk with
  | 0, _ => exact TB1 (List.mem_of_getElem? (i := 228) (by decide +kernel)) rfl
  | 1, _ => exact TB1 (List.mem_of_getElem? (i := 230) (by decide +kernel)) rfl
  | 2, _ => exact TB1 (List.mem_of_getElem? (i := 232) (by decide +kernel)) rfl
  | k + 3, h => exact absurd h (by omega)
def RP : String := "PointsToRounds$Program"
def TP : u_T := fun k => match k with
  | 0 => ("PointsToRounds$Program", "classes", "I", false)
  | 1 => ("PointsToRounds$Program", "fields", "I", false)
  | 2 => ("PointsToRounds$Program", "methods", "I", false)
  | 3 => ("PointsToRounds$Program", "statements", "I", false)
  | 4 => ("PointsToRounds$Program", "sites", "I", false)
  | 5 => ("PointsToRounds$Program", "parent", "[I", true)
  | 6 => ("PointsToRounds$Program", "above", "[I", true)
  | 7 => ("PointsToRounds$Program", "sitesUnder", "[I", true)
  | 8 => ("PointsToRounds$Program", "own", "[I", true)
  | 9 => ("PointsToRounds$Program", "found", "[I", true)
  | 10 => ("PointsToRounds$Program", "fieldClass", "[I", true)
  | 11 => ("PointsToRounds$Program", "siteClass", "[I", true)
  | 12 => ("PointsToRounds$Program", "numbered", "[LPointsToRounds$Statement;", true)
  | 13 => ("PointsToRounds$Program", "length", "[I", true)
  | _ => ("PointsToRounds$Program", "order", "[I", true)
def tyP : Nat → FieldType := fun k => match k with
  | 0 => .int
  | 1 => .int
  | 2 => .int
  | 3 => .int
  | 4 => .int
  | 5 => .array .int
  | 6 => .array .int
  | 7 => .array .int
  | 8 => .array .int
  | 9 => .array .int
  | 10 => .array .int
  | 11 => .array .int
  | 12 => .array (.object "PointsToRounds$Statement")
  | 13 => .array .int
  | _ => .array .int
theorem nmP : ∀ a, a < 15 → ∀ b, b < 15 → a ≠ b → (TP a).2.1 ≠ (TP b).2.1 := by decide +kernel
theorem tyP_ok : ∀ k, k < 15 → parseFieldDescriptor (TP k).2.2.1 = some (tyP k) := by decide +kernel
set_option maxRecDepth 20000 in
theorem inP : ∀ w ∈ u_ws RP TP 15, w ∈ TB := by
  intro w hw
  obtain ⟨k, hk, rfl⟩ := List.mem_map.mp hw
  have hk := List.mem_range.mp hk
  match k, hk with
  | 0, _ => exact TB1 (List.mem_of_getElem? (i := 104) (by decide +kernel)) rfl
  | 1, _ => exact TB1 (List.mem_of_getElem? (i := 106) (by decide +kernel)) rfl
  | 2, _ => exact TB1 (List.mem_of_getElem? (i := 108) (by decide +kernel)) rfl
  | 3, _ => exact TB1 (List.mem_of_getElem? (i := 110) (by decide +kernel)) rfl
  | 4, _ => exact TB1 (List.mem_of_getElem? (i := 112) (by decide +kernel)) rfl
  | 5, _ => exact TB1 (List.mem_of_getElem? (i := 114) (by decide +kernel)) rfl
  | 6, _ => exact TB1 (List.mem_of_getElem? (i := 116) (by decide +kernel)) rfl
  | 7, _ => exact TB1 (List.mem_of_getElem? (i := 118) (by decide +kernel)) rfl
  | 8, _ => exact TB1 (List.mem_of_getElem? (i := 120) (by decide +kernel)) rfl
  | 9, _ => exact TB1 (List.mem_of_getElem? (i := 122) (by decide +kernel)) rfl
  | 10, _ => exact TB1 (List.mem_of_getElem? (i := 124) (by decide +kernel)) rfl
  | 11, _ => exact TB1 (List.mem_of_getElem? (i := 126) (by decide +kernel)) rfl
  | 12, _ => exact TB1 (List.mem_of_getElem? (i := 128) (by decide +kernel)) rfl
  | 13, _ => exact TB1 (List.mem_of_getElem? (i := 130) (by decide +kernel)) rfl
  | 14, _ => exact TB1 (List.mem_of_getElem? (i := 132) (by decide +kernel)) rfl
  | k + 15, h => exact absurd h (by omega)
def RS : String := "PointsToRounds$Sets"
def TS : u_T := fun k => match k with
  | 0 => ("PointsToRounds$Sets", "program", "LPointsToRounds$Program;", true)
  | 1 => ("PointsToRounds$Sets", "before", "[I", true)
  | 2 => ("PointsToRounds$Sets", "now", "[I", true)
  | 3 => ("PointsToRounds$Sets", "cameAt", "[I", true)
  | 4 => ("PointsToRounds$Sets", "round", "I", false)
  | 5 => ("PointsToRounds$Sets", "grown", "Z", false)
  | 6 => ("PointsToRounds$Sets", "last", "I", false)
  | 7 => ("PointsToRounds$Sets", "settled", "Z", false)
  | _ => ("PointsToRounds$Sets", "perReceiver", "Z", false)
def tyS : Nat → FieldType := fun k => match k with
  | 0 => .object "PointsToRounds$Program"
  | 1 => .array .int
  | 2 => .array .int
  | 3 => .array .int
  | 4 => .int
  | 5 => .boolean
  | 6 => .int
  | 7 => .boolean
  | _ => .boolean
theorem nmS : ∀ a, a < 9 → ∀ b, b < 9 → a ≠ b → (TS a).2.1 ≠ (TS b).2.1 := by decide +kernel
theorem tyS_ok : ∀ k, k < 9 → parseFieldDescriptor (TS k).2.2.1 = some (tyS k) := by decide +kernel
set_option maxRecDepth 20000 in
theorem inS : ∀ w ∈ u_ws RS TS 9, w ∈ TB := by
  intro w hw
  obtain ⟨k, hk, rfl⟩ := List.mem_map.mp hw
  have hk := List.mem_range.mp hk
  match k, hk with
  | 0, _ => exact TB1 (List.mem_of_getElem? (i := 153) (by decide +kernel)) rfl
  | 1, _ => exact TB1 (List.mem_of_getElem? (i := 155) (by decide +kernel)) rfl
  | 2, _ => exact TB1 (List.mem_of_getElem? (i := 157) (by decide +kernel)) rfl
  | 3, _ => exact TB1 (List.mem_of_getElem? (i := 159) (by decide +kernel)) rfl
  | 4, _ => exact TB1 (List.mem_of_getElem? (i := 161) (by decide +kernel)) rfl
  | 5, _ => exact TB1 (List.mem_of_getElem? (i := 163) (by decide +kernel)) rfl
  | 6, _ => exact TB1 (List.mem_of_getElem? (i := 165) (by decide +kernel)) rfl
  | 7, _ => exact TB1 (List.mem_of_getElem? (i := 167) (by decide +kernel)) rfl
  | 8, _ => exact TB1 (List.mem_of_getElem? (i := 169) (by decide +kernel)) rfl
  | k + 9, h => exact absurd h (by omega)
def RT : String := "PointsToRounds$Trial"
def TT : u_T := fun k => match k with
  | 0 => ("PointsToRounds$Trial", "program", "LPointsToRounds$Program;", true)
  | 1 => ("PointsToRounds$Trial", "sets", "LPointsToRounds$Sets;", true)
  | 2 => ("PointsToRounds$Trial", "siteOf", "[I", true)
  | 3 => ("PointsToRounds$Trial", "slots", "[I", true)
  | 4 => ("PointsToRounds$Trial", "statics", "[I", true)
  | 5 => ("PointsToRounds$Trial", "names", "[I", true)
  | 6 => ("PointsToRounds$Trial", "frameMethod", "[I", true)
  | 7 => ("PointsToRounds$Trial", "frameContext", "[I", true)
  | 8 => ("PointsToRounds$Trial", "frameTarget", "[I", true)
  | 9 => ("PointsToRounds$Trial", "metSites", "[I", true)
  | 10 => ("PointsToRounds$Trial", "holding", "Z", false)
  | 11 => ("PointsToRounds$Trial", "objects", "I", false)
  | 12 => ("PointsToRounds$Trial", "frames", "I", false)
  | _ => ("PointsToRounds$Trial", "calls", "I", false)
def tyT : Nat → FieldType := fun k => match k with
  | 0 => .object "PointsToRounds$Program"
  | 1 => .object "PointsToRounds$Sets"
  | 2 => .array .int
  | 3 => .array .int
  | 4 => .array .int
  | 5 => .array .int
  | 6 => .array .int
  | 7 => .array .int
  | 8 => .array .int
  | 9 => .array .int
  | 10 => .boolean
  | 11 => .int
  | 12 => .int
  | _ => .int
theorem nmT : ∀ a, a < 14 → ∀ b, b < 14 → a ≠ b → (TT a).2.1 ≠ (TT b).2.1 := by decide +kernel
theorem tyT_ok : ∀ k, k < 14 → parseFieldDescriptor (TT k).2.2.1 = some (tyT k) := by decide +kernel
set_option maxRecDepth 20000 in
theorem inT : ∀ w ∈ u_ws RT TT 14, w ∈ TB := by
  intro w hw
  obtain ⟨k, hk, rfl⟩ := List.mem_map.mp hw
  have hk := List.mem_range.mp hk
  match k, hk with
  | 0, _ => exact TB1 (List.mem_of_getElem? (i := 196) (by decide +kernel)) rfl
  | 1, _ => exact TB1 (List.mem_of_getElem? (i := 198) (by decide +kernel)) rfl
  | 2, _ => exact TB1 (List.mem_of_getElem? (i := 200) (by decide +kernel)) rfl
  | 3, _ => exact TB1 (List.mem_of_getElem? (i := 202) (by decide +kernel)) rfl
  | 4, _ => exact TB1 (List.mem_of_getElem? (i := 204) (by decide +kernel)) rfl
  | 5, _ => exact TB1 (List.mem_of_getElem? (i := 206) (by decide +kernel)) rfl
  | 6, _ => exact TB1 (List.mem_of_getElem? (i := 208) (by decide +kernel)) rfl
  | 7, _ => exact TB1 (List.mem_of_getElem? (i := 210) (by decide +kernel)) rfl
  | 8, _ => exact TB1 (List.mem_of_getElem? (i := 212) (by decide +kernel)) rfl
  | 9, _ => exact TB1 (List.mem_of_getElem? (i := 214) (by decide +kernel)) rfl
  | 10, _ => exact TB1 (List.mem_of_getElem? (i := 216) (by decide +kernel)) rfl
  | 11, _ => exact TB1 (List.mem_of_getElem? (i := 218) (by decide +kernel)) rfl
  | 12, _ => exact TB1 (List.mem_of_getElem? (i := 220) (by decide +kernel)) rfl
  | 13, _ => exact TB1 (List.mem_of_getElem? (i := 222) (by decide +kernel)) rfl
  | k + 14, h => exact absurd h (by omega)
def RG : String := "PointsToRounds$Statement"
def TG : u_T := fun k => match k with
  | 0 => ("PointsToRounds$Statement", "method", "I", false)
  | 1 => ("PointsToRounds$Statement", "site", "I", false)
  | 2 => ("PointsToRounds$Statement", "kind", "I", false)
  | 3 => ("PointsToRounds$Statement", "p", "I", false)
  | 4 => ("PointsToRounds$Statement", "q", "I", false)
  | 5 => ("PointsToRounds$Statement", "\u0072", "I", false)
  | 6 => ("PointsToRounds$Statement", "s", "I", false)
  | _ => ("PointsToRounds$Statement", "t", "I", false)
def tyG : Nat → FieldType := fun k => match k with
  | 0 => .int
  | 1 => .int
  | 2 => .int
  | 3 => .int
  | 4 => .int
  | 5 => .int
  | 6 => .int
  | _ => .int
theorem nmG : ∀ a, a < 8 → ∀ b, b < 8 → a ≠ b → (TG a).2.1 ≠ (TG b).2.1 := by decide +kernel
theorem tyG_ok : ∀ k, k < 8 → parseFieldDescriptor (TG k).2.2.1 = some (tyG k) := by decide +kernel
set_option maxRecDepth 20000 in
theorem inG : ∀ w ∈ u_ws RG TG 8, w ∈ TB := by
  intro w hw
  obtain ⟨k, hk, rfl⟩ := List.mem_map.mp hw
  have hk := List.mem_range.mp hk
  match k, hk with
  | 0, _ => exact TB1 (List.mem_of_getElem? (i := 59) (by decide +kernel)) rfl
  | 1, _ => exact TB1 (List.mem_of_getElem? (i := 61) (by decide +kernel)) rfl
  | 2, _ => exact TB1 (List.mem_of_getElem? (i := 63) (by decide +kernel)) rfl
  | 3, _ => exact TB1 (List.mem_of_getElem? (i := 65) (by decide +kernel)) rfl
  | 4, _ => exact TB1 (List.mem_of_getElem? (i := 67) (by decide +kernel)) rfl
  | 5, _ => exact TB1 (List.mem_of_getElem? (i := 69) (by decide +kernel)) rfl
  | 6, _ => exact TB1 (List.mem_of_getElem? (i := 71) (by decide +kernel)) rfl
  | 7, _ => exact TB1 (List.mem_of_getElem? (i := 73) (by decide +kernel)) rfl
  | k + 8, h => exact absurd h (by omega)
def RM : String := "PointsToRoundsModel"
def TM : u_T := fun k => match k with
  | 0 => ("PointsToRoundsModel", "classes", "I", false)
  | 1 => ("PointsToRoundsModel", "parents", "[I", true)
  | 2 => ("PointsToRoundsModel", "fields", "I", false)
  | 3 => ("PointsToRoundsModel", "fieldOf", "[I", true)
  | 4 => ("PointsToRoundsModel", "methods", "I", false)
  | 5 => ("PointsToRoundsModel", "methodOf", "[I", true)
  | 6 => ("PointsToRoundsModel", "signatures", "[I", true)
  | 7 => ("PointsToRoundsModel", "statements", "I", false)
  | 8 => ("PointsToRoundsModel", "owner", "[I", true)
  | 9 => ("PointsToRoundsModel", "kinds", "[I", true)
  | 10 => ("PointsToRoundsModel", "pOf", "[I", true)
  | 11 => ("PointsToRoundsModel", "qOf", "[I", true)
  | 12 => ("PointsToRoundsModel", "rOf", "[I", true)
  | 13 => ("PointsToRoundsModel", "sOf", "[I", true)
  | 14 => ("PointsToRoundsModel", "tOf", "[I", true)
  | 15 => ("PointsToRoundsModel", "siteOf", "[I", true)
  | 16 => ("PointsToRoundsModel", "sites", "I", false)
  | 17 => ("PointsToRoundsModel", "siteClass", "[I", true)
  | 18 => ("PointsToRoundsModel", "mode", "I", false)
  | 19 => ("PointsToRoundsModel", "known", "Z", false)
  | 20 => ("PointsToRoundsModel", "nameNow", "[I", true)
  | 21 => ("PointsToRoundsModel", "nameThen", "[I", true)
  | 22 => ("PointsToRoundsModel", "fieldNow", "[I", true)
  | 23 => ("PointsToRoundsModel", "fieldThen", "[I", true)
  | 24 => ("PointsToRoundsModel", "elementNow", "[I", true)
  | 25 => ("PointsToRoundsModel", "elementThen", "[I", true)
  | 26 => ("PointsToRoundsModel", "staticNow", "[I", true)
  | 27 => ("PointsToRoundsModel", "staticThen", "[I", true)
  | 28 => ("PointsToRoundsModel", "reachNow", "[I", true)
  | 29 => ("PointsToRoundsModel", "reachThen", "[I", true)
  | 30 => ("PointsToRoundsModel", "whenOf", "[I", true)
  | 31 => ("PointsToRoundsModel", "last", "I", false)
  | 32 => ("PointsToRoundsModel", "objects", "I", false)
  | 33 => ("PointsToRoundsModel", "objectSite", "[I", true)
  | 34 => ("PointsToRoundsModel", "objectField", "[I", true)
  | 35 => ("PointsToRoundsModel", "objectElement", "[I", true)
  | 36 => ("PointsToRoundsModel", "statics", "[I", true)
  | 37 => ("PointsToRoundsModel", "frames", "I", false)
  | 38 => ("PointsToRoundsModel", "frameMethod", "[I", true)
  | 39 => ("PointsToRoundsModel", "frameContext", "[I", true)
  | 40 => ("PointsToRoundsModel", "frameTo", "[I", true)
  | 41 => ("PointsToRoundsModel", "frameName", "[I", true)
  | 42 => ("PointsToRoundsModel", "metOf", "[I", true)
  | _ => ("PointsToRoundsModel", "calls", "I", false)
def tyM : Nat → FieldType := fun k => match k with
  | 0 => .int
  | 1 => .array .int
  | 2 => .int
  | 3 => .array .int
  | 4 => .int
  | 5 => .array .int
  | 6 => .array .int
  | 7 => .int
  | 8 => .array .int
  | 9 => .array .int
  | 10 => .array .int
  | 11 => .array .int
  | 12 => .array .int
  | 13 => .array .int
  | 14 => .array .int
  | 15 => .array .int
  | 16 => .int
  | 17 => .array .int
  | 18 => .int
  | 19 => .boolean
  | 20 => .array .int
  | 21 => .array .int
  | 22 => .array .int
  | 23 => .array .int
  | 24 => .array .int
  | 25 => .array .int
  | 26 => .array .int
  | 27 => .array .int
  | 28 => .array .int
  | 29 => .array .int
  | 30 => .array .int
  | 31 => .int
  | 32 => .int
  | 33 => .array .int
  | 34 => .array .int
  | 35 => .array .int
  | 36 => .array .int
  | 37 => .int
  | 38 => .array .int
  | 39 => .array .int
  | 40 => .array .int
  | 41 => .array .int
  | 42 => .array .int
  | _ => .int
theorem nmM : ∀ a, a < 44 → ∀ b, b < 44 → a ≠ b → (TM a).2.1 ≠ (TM b).2.1 := by decide +kernel
theorem tyM_ok : ∀ k, k < 44 → parseFieldDescriptor (TM k).2.2.1 = some (tyM k) := by decide +kernel
set_option maxRecDepth 20000 in
theorem inM : ∀ w ∈ u_ws RM TM 44, w ∈ TB := by
  intro w hw
  obtain ⟨k, hk, rfl⟩ := List.mem_map.mp hw
  have hk := List.mem_range.mp hk
  match k, hk with
  | 0, _ => exact TB3 (List.mem_of_getElem? (i := 130) (by decide +kernel)) rfl
  | 1, _ => exact TB3 (List.mem_of_getElem? (i := 132) (by decide +kernel)) rfl
  | 2, _ => exact TB3 (List.mem_of_getElem? (i := 134) (by decide +kernel)) rfl
  | 3, _ => exact TB3 (List.mem_of_getElem? (i := 136) (by decide +kernel)) rfl
  | 4, _ => exact TB3 (List.mem_of_getElem? (i := 138) (by decide +kernel)) rfl
  | 5, _ => exact TB3 (List.mem_of_getElem? (i := 140) (by decide +kernel)) rfl
  | 6, _ => exact TB3 (List.mem_of_getElem? (i := 142) (by decide +kernel)) rfl
  | 7, _ => exact TB3 (List.mem_of_getElem? (i := 144) (by decide +kernel)) rfl
  | 8, _ => exact TB3 (List.mem_of_getElem? (i := 146) (by decide +kernel)) rfl
  | 9, _ => exact TB3 (List.mem_of_getElem? (i := 148) (by decide +kernel)) rfl
  | 10, _ => exact TB3 (List.mem_of_getElem? (i := 150) (by decide +kernel)) rfl
  | 11, _ => exact TB3 (List.mem_of_getElem? (i := 152) (by decide +kernel)) rfl
  | 12, _ => exact TB3 (List.mem_of_getElem? (i := 154) (by decide +kernel)) rfl
  | 13, _ => exact TB3 (List.mem_of_getElem? (i := 156) (by decide +kernel)) rfl
  | 14, _ => exact TB3 (List.mem_of_getElem? (i := 158) (by decide +kernel)) rfl
  | 15, _ => exact TB3 (List.mem_of_getElem? (i := 160) (by decide +kernel)) rfl
  | 16, _ => exact TB3 (List.mem_of_getElem? (i := 162) (by decide +kernel)) rfl
  | 17, _ => exact TB3 (List.mem_of_getElem? (i := 164) (by decide +kernel)) rfl
  | 18, _ => exact TB3 (List.mem_of_getElem? (i := 166) (by decide +kernel)) rfl
  | 19, _ => exact TB3 (List.mem_of_getElem? (i := 168) (by decide +kernel)) rfl
  | 20, _ => exact TB3 (List.mem_of_getElem? (i := 170) (by decide +kernel)) rfl
  | 21, _ => exact TB3 (List.mem_of_getElem? (i := 172) (by decide +kernel)) rfl
  | 22, _ => exact TB3 (List.mem_of_getElem? (i := 174) (by decide +kernel)) rfl
  | 23, _ => exact TB3 (List.mem_of_getElem? (i := 176) (by decide +kernel)) rfl
  | 24, _ => exact TB3 (List.mem_of_getElem? (i := 178) (by decide +kernel)) rfl
  | 25, _ => exact TB3 (List.mem_of_getElem? (i := 180) (by decide +kernel)) rfl
  | 26, _ => exact TB3 (List.mem_of_getElem? (i := 182) (by decide +kernel)) rfl
  | 27, _ => exact TB3 (List.mem_of_getElem? (i := 184) (by decide +kernel)) rfl
  | 28, _ => exact TB3 (List.mem_of_getElem? (i := 186) (by decide +kernel)) rfl
  | 29, _ => exact TB3 (List.mem_of_getElem? (i := 188) (by decide +kernel)) rfl
  | 30, _ => exact TB3 (List.mem_of_getElem? (i := 190) (by decide +kernel)) rfl
  | 31, _ => exact TB3 (List.mem_of_getElem? (i := 192) (by decide +kernel)) rfl
  | 32, _ => exact TB3 (List.mem_of_getElem? (i := 194) (by decide +kernel)) rfl
  | 33, _ => exact TB3 (List.mem_of_getElem? (i := 196) (by decide +kernel)) rfl
  | 34, _ => exact TB3 (List.mem_of_getElem? (i := 198) (by decide +kernel)) rfl
  | 35, _ => exact TB3 (List.mem_of_getElem? (i := 200) (by decide +kernel)) rfl
  | 36, _ => exact TB3 (List.mem_of_getElem? (i := 202) (by decide +kernel)) rfl
  | 37, _ => exact TB3 (List.mem_of_getElem? (i := 204) (by decide +kernel)) rfl
  | 38, _ => exact TB3 (List.mem_of_getElem? (i := 206) (by decide +kernel)) rfl
  | 39, _ => exact TB3 (List.mem_of_getElem? (i := 208) (by decide +kernel)) rfl
  | 40, _ => exact TB3 (List.mem_of_getElem? (i := 210) (by decide +kernel)) rfl
  | 41, _ => exact TB3 (List.mem_of_getElem? (i := 212) (by decide +kernel)) rfl
  | 42, _ => exact TB3 (List.mem_of_getElem? (i := 214) (by decide +kernel)) rfl
  | 43, _ => exact TB3 (List.mem_of_getElem? (i := 216) (by decide +kernel)) rfl
  | k + 44, h => exact absurd h (by omega)
abbrev vwCl : List vw_C := [(RO, TO, 3), (RP, TP, 15), (RS, TS, 9), (RT, TT, 14), (RG, TG, 8), (RM, TM, 44)]
def aLens : List Nat := [0, 0, 0, 0, 8, 8, 8, 32, 32, 8, 20, 10, 600, 1454, 1454, 1200, 30, 270, 4, 60, 10, 10, 10, 60, 0, 0, 8, 8, 10, 10, 60, 60, 60, 60, 60, 60, 60, 60, 20, 1260, 1260, 160, 160, 20, 20, 4, 4, 10, 10, 1200, 30, 240, 30, 4, 10, 10, 10, 60, 60]
def a_n (k : Nat) : Nat := aLens.getD k 0
def oCi : List (Option Nat) := [some 0, some 1, some 2, some 3, none, none, none, none, none, none, none, none, none, none, none, none, none, none, none, none, none, none, none, none, none, some 5, none, none, none, none, none, none, none, none, none, none, none, none, none, none, none, none, none, none, none, none, none, none, none, none, none, none, none, none, none, none, none, none, none]
def o_ci (k : Nat) : Option Nat := if k < 59 then oCi.getD k none else if k < 119 then some 4 else none
def oN : List Nat := [3, 15, 9, 14, 0, 0, 0, 0, 0, 0, 0, 0, 0, 0, 0, 0, 0, 0, 0, 0, 0, 0, 0, 0, 0, 44, 0, 0, 0, 0, 0, 0, 0, 0, 0, 0, 0, 0, 0, 0, 0, 0, 0, 0, 0, 0, 0, 0, 0, 0, 0, 0, 0, 0, 0, 0, 0, 0, 0]
def o_n (k : Nat) : Nat := if k < 59 then oN.getD k 0 else 8
def oR : List (List (Option Nat)) := [[some 1, some 2, some 3], [none, none, none, none, none, some 4, some 5, some 6, some 7, some 8, some 9, some 10, some 24, some 11, some 12], [some 1, some 13, some 14, some 15, none, none, none, none, none], [some 1, some 2, some 16, some 17, some 18, some 19, some 20, some 21, some 22, some 23, none, none, none, none], [], [], [], [], [], [], [], [], [], [], [], [], [], [], [], [], [], [], [], [], [], [none, some 26, none, some 27, none, some 28, some 29, none, some 30, some 31, some 32, some 33, some 34, some 35, some 36, some 37, none, some 38, none, none, some 39, some 40, some 41, some 42, some 43, some 44, some 45, some 46, some 47, some 48, some 49, none, none, some 50, some 51, some 52, some 53, none, some 54, some 55, some 56, some 57, some 58, none], [], [], [], [], [], [], [], [], [], [], [], [], [], [], [], [], [], [], [], [], [], [], [], [], [], [], [], [], [], [], [], [], []]
def o_r (k j : Nat) : Option Nat := (oR.getD k []).getD j none
theorem a_n_pos (k : Nat) (h : 0 < a_n k) : k < 119 ∧ o_ci k = none ∧ ¬ k = 24 := by
  have hk : k < 59 := by
    rcases Nat.lt_or_ge k 59 with q | q
    · exact q
    · have e : a_n k = 0 := by
        unfold a_n
        rw [List.getD_eq_getElem?_getD, List.getElem?_eq_none (by simpa [aLens] using q)]
        rfl
      omega
  have g : ∀ k, k < 59 → 0 < a_n k → k < 119 ∧ o_ci k = none ∧ ¬ k = 24 := by decide +kernel
  exact g k hk h
theorem o_ci_lt {k ci : Nat} (h : o_ci k = some ci) : k < 119 := by
  unfold o_ci at h
  split at h
  · omega
  · split at h
    · assumption
    · cases h
def m_cl (q : Nat × Nat) : Nat := if q.1 = 59 then 59 + q.2 % 60 else q.1
theorem m_cl_st (n : Nat) : m_cl (59, n) = 59 + n % 60 := if_pos rfl
theorem o_ci_st (n : Nat) : o_ci (m_cl (59, n)) = some 4 := by
  have h := Nat.mod_lt n (show 0 < 60 by decide)
  rw [m_cl_st]
  unfold o_ci
  rw [if_neg (by omega), if_pos (by omega)]
theorem o_n_st (n : Nat) : o_n (m_cl (59, n)) = 8 := by
  rw [m_cl_st]
  unfold o_n
  rw [if_neg (by omega)]
theorem o_r_st (n j : Nat) : o_r (m_cl (59, n)) j = none := by
  rw [m_cl_st]
  unfold o_r
  rw [List.getD_eq_getElem?_getD (l := oR), List.getElem?_eq_none (by simp [oR])]
  rfl
def NWl : List (String × Nat × MethodName × String) := [("PointsToRounds$Program", 45, ⟨"PointsToRounds$Statement", "<init>", "()V"⟩, "PointsToRounds"), ("PointsToRounds$Program", 60, ⟨"PointsToRounds", "isName", "(I)Z"⟩, "PointsToRounds"), ("PointsToRounds$Program", 75, ⟨"PointsToRounds", "isStatic", "(I)Z"⟩, "PointsToRounds"), ("PointsToRounds$Program", 98, ⟨"PointsToRounds", "hasBit", "(II)Z"⟩, "PointsToRounds"), ("PointsToRounds$Sets", 70, ⟨"PointsToRounds", "hasBit", "(II)Z"⟩, "PointsToRounds"), ("PointsToRounds$Sets", 35, ⟨"PointsToRounds", "namesOf", "(II)I"⟩, "PointsToRounds"), ("PointsToRounds$Sets", 123, ⟨"PointsToRounds", "slotPlace", "(II)I"⟩, "PointsToRounds"), ("PointsToRounds$Trial", 135, ⟨"PointsToRounds", "hasBit", "(II)Z"⟩, "PointsToRounds"), ("PointsToRounds$Trial", 146, ⟨"PointsToRounds", "slotPlace", "(II)I"⟩, "PointsToRounds"), ("PointsToRounds$Trial", 167, ⟨"PointsToRounds", "namesOf", "(II)I"⟩, "PointsToRounds")]
def NW : List Cond := NWl.map (fun q => Cond.methodLinkNest q.1 q.2.1 q.2.2.1 q.2.2.2)
theorem NW_on : ∀ w ∈ NW, w.onTables = true := by
  intro w hw
  obtain ⟨q, -, rfl⟩ := List.mem_map.mp hw
  rfl
theorem NW_tb : ∀ w ∈ NW, w ∈ tables_1 := by decide +kernel
/-- the table's words of private members across the nest -/
def m_N (s : State) : Prop := ∀ w ∈ NW, va_Nw w s
theorem m_N.warm {s U : State} (hW : s.WarmedH U.vm) (h : m_N s) : m_N U := by
  intro w hw
  obtain ⟨q, hq, rfl⟩ := List.mem_map.mp hw
  exact va_Nw.warmM hW (h _ hw)
/-- arraycopy's words -/
def m_cpw (own : String) (index : Nat) : Prop := Cond.methodLink own index arraycopyName ∈ TB ∧ Cond.native arraycopyName ∈ TB ∧ Cond.static arraycopyName ∈ TB ∧ Cond.initialized "java/lang/System" ∈ TB
abbrev mM : Type := MethodName × ByteArray × Nat × Nat × Option FieldType
abbrev M_O_cls : mM := (⟨"PointsToRounds", "cls", "(I)I"⟩, prog_1_method_2_code, 2, 3, (some .int))
abbrev M_O_field : mM := (⟨"PointsToRounds", "field", "(I)I"⟩, prog_1_method_3_code, 2, 3, (some .int))
abbrev M_O_method : mM := (⟨"PointsToRounds", "method", "(II)I"⟩, prog_1_method_4_code, 3, 3, (some .int))
abbrev M_O_statement : mM := (⟨"PointsToRounds", "statement", "(IIIIIII)I"⟩, prog_1_method_5_code, 8, 3, (some .int))
abbrev M_O_mode : mM := (⟨"PointsToRounds", "mode", "(I)I"⟩, prog_1_method_6_code, 3, 3, (some .int))
abbrev M_O_clear : mM := (⟨"PointsToRounds", "clear", "()I"⟩, prog_1_method_7_code, 2, 3, (some .int))
abbrev M_O_points : mM := (⟨"PointsToRounds", "points", "(III)I"⟩, prog_1_method_8_code, 4, 6, (some .int))
abbrev M_O_inField : mM := (⟨"PointsToRounds", "inField", "(II)I"⟩, prog_1_method_9_code, 3, 6, (some .int))
abbrev M_O_element : mM := (⟨"PointsToRounds", "element", "(I)I"⟩, prog_1_method_10_code, 2, 6, (some .int))
abbrev M_O_inStatic : mM := (⟨"PointsToRounds", "inStatic", "(I)I"⟩, prog_1_method_11_code, 2, 6, (some .int))
abbrev M_O_reached : mM := (⟨"PointsToRounds", "reached", "(I)I"⟩, prog_1_method_12_code, 2, 6, (some .int))
abbrev M_O_may : mM := (⟨"PointsToRounds", "may", "(I)I"⟩, prog_1_method_13_code, 4, 6, (some .int))
abbrev M_O_alias : mM := (⟨"PointsToRounds", "alias", "(IIII)I"⟩, prog_1_method_14_code, 6, 6, (some .int))
abbrev M_O_rounds : mM := (⟨"PointsToRounds", "rounds", "()I"⟩, prog_1_method_15_code, 1, 6, (some .int))
abbrev M_O_when : mM := (⟨"PointsToRounds", "when", "(III)I"⟩, prog_1_method_16_code, 5, 6, (some .int))
abbrev M_O_run : mM := (⟨"PointsToRounds", "run", "(II)I"⟩, prog_1_method_17_code, 3, 7, (some .int))
abbrev M_O_met : mM := (⟨"PointsToRounds", "met", "(II)I"⟩, prog_1_method_18_code, 3, 2, (some .int))
abbrev M_O_ran : mM := (⟨"PointsToRounds", "ran", "(I)I"⟩, prog_1_method_19_code, 2, 0, (some .int))
abbrev M_O_forgetAnswers : mM := (⟨"PointsToRounds", "forgetAnswers", "()V"⟩, prog_1_method_20_code, 1, 2, none)
abbrev M_O_isName : mM := (⟨"PointsToRounds", "isName", "(I)Z"⟩, prog_1_method_21_code, 1, 0, (some .boolean))
abbrev M_O_isStatic : mM := (⟨"PointsToRounds", "isStatic", "(I)Z"⟩, prog_1_method_22_code, 1, 0, (some .boolean))
abbrev M_O_isSignature : mM := (⟨"PointsToRounds", "isSignature", "(I)Z"⟩, prog_1_method_23_code, 1, 0, (some .boolean))
abbrev M_O_hasBit : mM := (⟨"PointsToRounds", "hasBit", "(II)Z"⟩, prog_1_method_24_code, 2, 0, (some .boolean))
abbrev M_O_namesOf : mM := (⟨"PointsToRounds", "namesOf", "(II)I"⟩, prog_1_method_25_code, 2, 0, (some .int))
abbrev M_O_slotPlace : mM := (⟨"PointsToRounds", "slotPlace", "(II)I"⟩, prog_1_method_26_code, 2, 0, (some .int))
abbrev M_M_isClass : mM := (⟨"PointsToRoundsModel", "isClass", "(I)Z"⟩, prog_7_method_2_code, 2, 0, (some .boolean))
abbrev M_M_isField : mM := (⟨"PointsToRoundsModel", "isField", "(I)Z"⟩, prog_7_method_3_code, 2, 0, (some .boolean))
abbrev M_M_isMethod : mM := (⟨"PointsToRoundsModel", "isMethod", "(I)Z"⟩, prog_7_method_4_code, 2, 0, (some .boolean))
abbrev M_M_isName : mM := (⟨"PointsToRoundsModel", "isName", "(I)Z"⟩, prog_7_method_5_code, 1, 0, (some .boolean))
abbrev M_M_isStatic : mM := (⟨"PointsToRoundsModel", "isStatic", "(I)Z"⟩, prog_7_method_6_code, 1, 0, (some .boolean))
abbrev M_M_isUnder : mM := (⟨"PointsToRoundsModel", "isUnder", "(II)Z"⟩, prog_7_method_7_code, 4, 0, (some .boolean))
abbrev M_M_hasField : mM := (⟨"PointsToRoundsModel", "hasField", "(II)Z"⟩, prog_7_method_8_code, 3, 1, (some .boolean))
abbrev M_M_methodWith : mM := (⟨"PointsToRoundsModel", "methodWith", "(II)I"⟩, prog_7_method_9_code, 4, 0, (some .int))
abbrev M_M_found : mM := (⟨"PointsToRoundsModel", "found", "(II)I"⟩, prog_7_method_10_code, 5, 1, (some .int))
abbrev M_M_change : mM := (⟨"PointsToRoundsModel", "change", "()V"⟩, prog_7_method_11_code, 1, 1, none)
abbrev M_M_cls : mM := (⟨"PointsToRoundsModel", "cls", "(I)I"⟩, prog_7_method_12_code, 2, 2, (some .int))
abbrev M_M_field : mM := (⟨"PointsToRoundsModel", "field", "(I)I"⟩, prog_7_method_13_code, 2, 2, (some .int))
abbrev M_M_method : mM := (⟨"PointsToRoundsModel", "method", "(II)I"⟩, prog_7_method_14_code, 3, 2, (some .int))
abbrev M_M_isGood : mM := (⟨"PointsToRoundsModel", "isGood", "(IIIIII)Z"⟩, prog_7_method_15_code, 7, 1, (some .boolean))
abbrev M_M_statement : mM := (⟨"PointsToRoundsModel", "statement", "(IIIIIII)I"⟩, prog_7_method_16_code, 9, 2, (some .int))
abbrev M_M_mode : mM := (⟨"PointsToRoundsModel", "mode", "(I)I"⟩, prog_7_method_17_code, 3, 2, (some .int))
abbrev M_M_clear : mM := (⟨"PointsToRoundsModel", "clear", "()I"⟩, prog_7_method_18_code, 2, 2, (some .int))
abbrev M_M_nameAt : mM := (⟨"PointsToRoundsModel", "nameAt", "(III)I"⟩, prog_7_method_19_code, 3, 0, (some .int))
abbrev M_M_empty : mM := (⟨"PointsToRoundsModel", "empty", "()V"⟩, prog_7_method_20_code, 2, 0, none)
abbrev M_M_copy : mM := (⟨"PointsToRoundsModel", "copy", "()V"⟩, prog_7_method_21_code, 2, 0, none)
abbrev M_M_isSame : mM := (⟨"PointsToRoundsModel", "isSame", "()Z"⟩, prog_7_method_22_code, 3, 0, (some .boolean))
abbrev M_M_bring : mM := (⟨"PointsToRoundsModel", "bring", "(II)V"⟩, prog_7_method_23_code, 7, 3, none)
abbrev M_M_bringEach : mM := (⟨"PointsToRoundsModel", "bringEach", "(IIII)V"⟩, prog_7_method_24_code, 8, 2, none)
abbrev M_M_call : mM := (⟨"PointsToRoundsModel", "call", "(IIII)V"⟩, prog_7_method_25_code, 10, 2, none)
abbrev M_M_swap : mM := (⟨"PointsToRoundsModel", "swap", "()V"⟩, prog_7_method_26_code, 2, 0, none)
abbrev M_M_allOf : mM := (⟨"PointsToRoundsModel", "allOf", "(II)I"⟩, prog_7_method_27_code, 5, 1, (some .int))
abbrev M_M_note : mM := (⟨"PointsToRoundsModel", "note", "(I)V"⟩, prog_7_method_28_code, 7, 2, none)
abbrev M_M_know : mM := (⟨"PointsToRoundsModel", "know", "()V"⟩, prog_7_method_29_code, 4, 4, none)
abbrev M_M_isContext : mM := (⟨"PointsToRoundsModel", "isContext", "(I)Z"⟩, prog_7_method_30_code, 2, 0, (some .boolean))
abbrev M_M_points : mM := (⟨"PointsToRoundsModel", "points", "(III)I"⟩, prog_7_method_31_code, 4, 5, (some .int))
abbrev M_M_isSite : mM := (⟨"PointsToRoundsModel", "isSite", "(I)Z"⟩, prog_7_method_32_code, 2, 0, (some .boolean))
abbrev M_M_inField : mM := (⟨"PointsToRoundsModel", "inField", "(II)I"⟩, prog_7_method_33_code, 3, 5, (some .int))
abbrev M_M_element : mM := (⟨"PointsToRoundsModel", "element", "(I)I"⟩, prog_7_method_34_code, 2, 5, (some .int))
abbrev M_M_inStatic : mM := (⟨"PointsToRoundsModel", "inStatic", "(I)I"⟩, prog_7_method_35_code, 2, 5, (some .int))
abbrev M_M_reached : mM := (⟨"PointsToRoundsModel", "reached", "(I)I"⟩, prog_7_method_36_code, 4, 5, (some .int))
abbrev M_M_may : mM := (⟨"PointsToRoundsModel", "may", "(I)I"⟩, prog_7_method_37_code, 6, 5, (some .int))
abbrev M_M_alias : mM := (⟨"PointsToRoundsModel", "alias", "(IIII)I"⟩, prog_7_method_38_code, 5, 5, (some .int))
abbrev M_M_rounds : mM := (⟨"PointsToRoundsModel", "rounds", "()I"⟩, prog_7_method_39_code, 1, 5, (some .int))
abbrev M_M_when : mM := (⟨"PointsToRoundsModel", "when", "(III)I"⟩, prog_7_method_40_code, 5, 5, (some .int))
abbrev M_M_forgetRun : mM := (⟨"PointsToRoundsModel", "forgetRun", "()V"⟩, prog_7_method_41_code, 2, 0, none)
abbrev M_M_open : mM := (⟨"PointsToRoundsModel", "open", "(III)V"⟩, prog_7_method_42_code, 5, 0, none)
abbrev M_M_statementOf : mM := (⟨"PointsToRoundsModel", "statementOf", "(II)I"⟩, prog_7_method_43_code, 5, 0, (some .int))
abbrev M_M_many : mM := (⟨"PointsToRoundsModel", "many", "(I)I"⟩, prog_7_method_44_code, 4, 0, (some .int))
abbrev M_M_canHave : mM := (⟨"PointsToRoundsModel", "canHave", "(II)Z"⟩, prog_7_method_45_code, 3, 2, (some .boolean))
abbrev M_M_make : mM := (⟨"PointsToRoundsModel", "make", "(II)V"⟩, prog_7_method_46_code, 4, 0, none)
abbrev M_M_enter : mM := (⟨"PointsToRoundsModel", "enter", "(III)V"⟩, prog_7_method_47_code, 7, 2, none)
abbrev M_M_act : mM := (⟨"PointsToRoundsModel", "act", "(I)V"⟩, prog_7_method_48_code, 6, 3, none)
abbrev M_M_leave : mM := (⟨"PointsToRoundsModel", "leave", "()V"⟩, prog_7_method_49_code, 1, 0, none)
abbrev M_M_isIn : mM := (⟨"PointsToRoundsModel", "isIn", "(II)Z"⟩, prog_7_method_50_code, 3, 0, (some .boolean))
abbrev M_M_holds : mM := (⟨"PointsToRoundsModel", "holds", "()Z"⟩, prog_7_method_51_code, 5, 1, (some .boolean))
abbrev M_M_run : mM := (⟨"PointsToRoundsModel", "run", "(II)I"⟩, prog_7_method_52_code, 10, 5, (some .int))
abbrev M_M_met : mM := (⟨"PointsToRoundsModel", "met", "(II)I"⟩, prog_7_method_53_code, 3, 1, (some .int))
abbrev M_M_ran : mM := (⟨"PointsToRoundsModel", "ran", "(I)I"⟩, prog_7_method_54_code, 2, 0, (some .int))
abbrev M_P_hasClass : mM := (⟨"PointsToRounds$Program", "hasClass", "(I)Z"⟩, prog_2_method_2_code, 2, 0, (some .boolean))
abbrev M_P_hasField : mM := (⟨"PointsToRounds$Program", "hasField", "(I)Z"⟩, prog_2_method_3_code, 2, 0, (some .boolean))
abbrev M_P_hasMethod : mM := (⟨"PointsToRounds$Program", "hasMethod", "(I)Z"⟩, prog_2_method_4_code, 2, 0, (some .boolean))
abbrev M_P_hasName : mM := (⟨"PointsToRounds$Program", "hasName", "(II)Z"⟩, prog_2_method_5_code, 3, 1, (some .boolean))
abbrev M_P_hasStatement : mM := (⟨"PointsToRounds$Program", "hasStatement", "(I)Z"⟩, prog_2_method_6_code, 2, 0, (some .boolean))
abbrev M_P_hasSite : mM := (⟨"PointsToRounds$Program", "hasSite", "(I)Z"⟩, prog_2_method_7_code, 2, 0, (some .boolean))
abbrev M_P_hasOperands : mM := (⟨"PointsToRounds$Program", "hasOperands", "(IIIIII)Z"⟩, prog_2_method_8_code, 7, 1, (some .boolean))
abbrev M_P_hasRoomFor : mM := (⟨"PointsToRounds$Program", "hasRoomFor", "(I)Z"⟩, prog_2_method_9_code, 2, 0, (some .boolean))
abbrev M_P_empty : mM := (⟨"PointsToRounds$Program", "empty", "()V"⟩, prog_2_method_10_code, 1, 0, none)
abbrev M_P_addClass : mM := (⟨"PointsToRounds$Program", "addClass", "(I)I"⟩, prog_2_method_11_code, 4, 1, (some .int))
abbrev M_P_addField : mM := (⟨"PointsToRounds$Program", "addField", "(I)I"⟩, prog_2_method_12_code, 3, 0, (some .int))
abbrev M_P_addMethod : mM := (⟨"PointsToRounds$Program", "addMethod", "(II)I"⟩, prog_2_method_13_code, 5, 1, (some .int))
abbrev M_P_findMethod : mM := (⟨"PointsToRounds$Program", "findMethod", "(II)V"⟩, prog_2_method_14_code, 4, 0, none)
abbrev M_P_nextStatement : mM := (⟨"PointsToRounds$Program", "nextStatement", "()LPointsToRounds$Statement;"⟩, prog_2_method_15_code, 1, 0, (some (.object "PointsToRounds$Statement")))
abbrev M_P_addStatement : mM := (⟨"PointsToRounds$Program", "addStatement", "(I)I"⟩, prog_2_method_16_code, 4, 2, (some .int))
abbrev M_P_addSite : mM := (⟨"PointsToRounds$Program", "addSite", "(I)I"⟩, prog_2_method_17_code, 4, 1, (some .int))
abbrev M_P_ownMethod : mM := (⟨"PointsToRounds$Program", "ownMethod", "(II)I"⟩, prog_2_method_18_code, 3, 0, (some .int))
abbrev M_P_methodFound : mM := (⟨"PointsToRounds$Program", "methodFound", "(II)I"⟩, prog_2_method_19_code, 3, 0, (some .int))
abbrev M_P_methodsFound : mM := (⟨"PointsToRounds$Program", "methodsFound", "(II)I"⟩, prog_2_method_20_code, 6, 1, (some .int))
abbrev M_P_sitesWith : mM := (⟨"PointsToRounds$Program", "sitesWith", "(I)I"⟩, prog_2_method_21_code, 2, 0, (some .int))
abbrev M_P_statementOf : mM := (⟨"PointsToRounds$Program", "statementOf", "(II)LPointsToRounds$Statement;"⟩, prog_2_method_22_code, 3, 0, (some (.object "PointsToRounds$Statement")))
abbrev M_S_hasContext : mM := (⟨"PointsToRounds$Sets", "hasContext", "(I)Z"⟩, prog_3_method_2_code, 2, 0, (some .boolean))
abbrev M_S_contextOf : mM := (⟨"PointsToRounds$Sets", "contextOf", "(I)I"⟩, prog_3_method_3_code, 2, 0, (some .int))
abbrev M_S_at : mM := (⟨"PointsToRounds$Sets", "at", "(I)I"⟩, prog_3_method_4_code, 2, 0, (some .int))
abbrev M_S_inAllContexts : mM := (⟨"PointsToRounds$Sets", "inAllContexts", "(II)I"⟩, prog_3_method_5_code, 5, 1, (some .int))
abbrev M_S_firstRound : mM := (⟨"PointsToRounds$Sets", "firstRound", "(III)I"⟩, prog_3_method_6_code, 4, 0, (some .int))
abbrev M_S_settle : mM := (⟨"PointsToRounds$Sets", "settle", "()V"⟩, prog_3_method_7_code, 1, 5, none)
abbrev M_S_doRound : mM := (⟨"PointsToRounds$Sets", "doRound", "()V"⟩, prog_3_method_8_code, 6, 4, none)
abbrev M_S_doStatement : mM := (⟨"PointsToRounds$Sets", "doStatement", "(LPointsToRounds$Statement;I)V"⟩, prog_3_method_9_code, 5, 3, none)
abbrev M_S_addFromSlot : mM := (⟨"PointsToRounds$Sets", "addFromSlot", "(III)V"⟩, prog_3_method_10_code, 6, 2, none)
abbrev M_S_addToSlot : mM := (⟨"PointsToRounds$Sets", "addToSlot", "(III)V"⟩, prog_3_method_11_code, 6, 2, none)
abbrev M_S_doCall : mM := (⟨"PointsToRounds$Sets", "doCall", "(LPointsToRounds$Statement;I)V"⟩, prog_3_method_12_code, 8, 2, none)
abbrev M_S_add : mM := (⟨"PointsToRounds$Sets", "add", "(II)V"⟩, prog_3_method_13_code, 4, 1, none)
abbrev M_S_noteRound : mM := (⟨"PointsToRounds$Sets", "noteRound", "(II)V"⟩, prog_3_method_14_code, 6, 0, none)
abbrev M_G_tell : mM := (⟨"PointsToRounds$Statement", "tell", "(IIIIII)V"⟩, prog_4_method_2_code, 7, 0, none)
abbrev M_T_forget : mM := (⟨"PointsToRounds$Trial", "forget", "()V"⟩, prog_5_method_2_code, 1, 1, none)
abbrev M_T_holdsFor : mM := (⟨"PointsToRounds$Trial", "holdsFor", "(II)Z"⟩, prog_5_method_3_code, 5, 6, (some .boolean))
abbrev M_T_pushFrame : mM := (⟨"PointsToRounds$Trial", "pushFrame", "(III)V"⟩, prog_5_method_4_code, 5, 2, none)
abbrev M_T_doStep : mM := (⟨"PointsToRounds$Trial", "doStep", "(I)V"⟩, prog_5_method_5_code, 6, 5, none)
abbrev M_T_doStatement : mM := (⟨"PointsToRounds$Trial", "doStatement", "(LPointsToRounds$Statement;I)V"⟩, prog_5_method_6_code, 3, 4, none)
abbrev M_T_makeObject : mM := (⟨"PointsToRounds$Trial", "makeObject", "(LPointsToRounds$Statement;I)V"⟩, prog_5_method_7_code, 3, 2, none)
abbrev M_T_castObject : mM := (⟨"PointsToRounds$Trial", "castObject", "(LPointsToRounds$Statement;I)V"⟩, prog_5_method_8_code, 4, 1, none)
abbrev M_T_hasSlot : mM := (⟨"PointsToRounds$Trial", "hasSlot", "(II)Z"⟩, prog_5_method_9_code, 3, 1, (some .boolean))
abbrev M_T_readSlot : mM := (⟨"PointsToRounds$Trial", "readSlot", "(III)V"⟩, prog_5_method_10_code, 4, 2, none)
abbrev M_T_writeSlot : mM := (⟨"PointsToRounds$Trial", "writeSlot", "(III)V"⟩, prog_5_method_11_code, 4, 2, none)
abbrev M_T_enterMethod : mM := (⟨"PointsToRounds$Trial", "enterMethod", "(LPointsToRounds$Statement;I)V"⟩, prog_5_method_12_code, 7, 3, none)
abbrev M_T_lookAt : mM := (⟨"PointsToRounds$Trial", "lookAt", "(II)V"⟩, prog_5_method_13_code, 3, 1, none)
abbrev M_T_lookAtNames : mM := (⟨"PointsToRounds$Trial", "lookAtNames", "()V"⟩, prog_5_method_14_code, 6, 2, none)
abbrev M_I_bitCount : mM := (⟨"java/lang/Integer", "bitCount", "(I)I"⟩, prog_8_method_49_code, 1, 0, (some .int))
abbrev M_A_fill : mM := (⟨"java/util/Arrays", "fill", "([II)V"⟩, prog_10_method_103_code, 4, 0, none)
abbrev M_A_fillR : mM := (⟨"java/util/Arrays", "fill", "([IIII)V"⟩, prog_10_method_104_code, 5, 1, none)
abbrev M_A_rangeCheck : mM := (⟨"java/util/Arrays", "rangeCheck", "(III)V"⟩, prog_10_method_30_code, 3, 0, none)
end
section
/-! THE SMALL MACHINE. A value is an int or a reference to a cell by its number (base, offset); the state gives each cell's ints; J M Q pc ls st σ: the method M, at pc with the locals ls, the stack st and the state σ, comes to an end with Q. -/
abbrev mV : Type := Int32 ⊕ (Nat × Nat)
abbrev mS : Type := Nat → Nat → Int32
def m_v (ad : Nat → Nat) (v : mV) : Value := match v with
  | .inl x => .int x
  | .inr q => .ref (ad (m_cl q))
def m_up (σ : mS) (k j : Nat) (v : Int32) : mS := fun k' => if k' = k then upd (σ k) j v else σ k'
def m_cp (σ : mS) (a b sp dp n : Nat) : mS := fun k' => if k' = b then va_cpy (σ a) (σ b) sp dp n else σ k'
def m_ushr (x y : Int32) : Int32 := (x.toUInt32 >>> (y.toUInt32 &&& Int32.toUInt32 31)).toInt32
def m_rem (x y : Int32) : Int32 := x - x / y * y
def m_fv (ad : Nat → Nat) (σ : mS) (k j : Nat) : Value := match o_r k j with
  | some r => .ref (ad r)
  | none => .int (σ k j)
def m_cell (ad : Nat → Nat) (cI cS : ClassId) (σ : mS) (k : Nat) : va_E := match o_ci k with
  | some c => .inr (c, (List.range (o_n k)).map (m_fv ad σ k))
  | none => if k = 24 then .inl (cS, 60, .inr (.inr (.inr (.inr (fun j => some (ad (59 + j))))))) else .inl (cI, a_n k, .inl (σ k))
def m_ws (ad : Nat → Nat) (cI cS : ClassId) (σ : mS) : va_W := (List.range 119).map (fun k => (ad k, m_cell ad cI cS σ k))
abbrev m_ty (cI cS : ClassId) : List (ClassId × FieldType) := [(cI, .int), (cS, .object "PointsToRounds$Statement")]
theorem m_ws_at {ad : Nat → Nat} {cI cS : ClassId} {σ : mS} {k : Nat} (h : k < 119) : (m_ws ad cI cS σ)[k]? = some (ad k, m_cell ad cI cS σ k) := by
  unfold m_ws
  rw [List.getElem?_map, List.getElem?_range h]
  rfl
theorem m_ws_inv {ad : Nat → Nat} {cI cS : ClassId} {σ : mS} {k : Nat} {q : Nat × va_E} (h : (m_ws ad cI cS σ)[k]? = some q) : k < 119 ∧ q = (ad k, m_cell ad cI cS σ k) := by
  have hk : k < 119 := by
    have := (List.getElem?_eq_some_iff.mp h).1
    simpa [m_ws] using this
  rw [m_ws_at hk] at h
  exact ⟨hk, (Option.some.inj h).symm⟩
theorem m_cell_eq {ad : Nat → Nat} {cI cS : ClassId} {σ τ : mS} {k : Nat} (h : σ k = τ k) : m_cell ad cI cS σ k = m_cell ad cI cS τ k := by
  have e : m_fv ad σ k = m_fv ad τ k := by funext j; unfold m_fv; rw [h]
  unfold m_cell
  rw [h, e]
theorem m_ws_set {ad : Nat → Nat} {cI cS : ClassId} {σ τ : mS} {k : Nat} (hk : k < 119) (h : ∀ j, j ≠ k → σ j = τ j) : (m_ws ad cI cS σ).set k (ad k, m_cell ad cI cS τ k) = m_ws ad cI cS τ := by
  apply List.ext_getElem?
  intro j
  rw [List.getElem?_set]
  by_cases hj : k = j
  · subst hj
    rw [if_pos rfl, if_pos (by simpa [m_ws] using hk), m_ws_at hk]
  · rw [if_neg hj]
    by_cases h9 : j < 119
    · rw [m_ws_at h9, m_ws_at h9, m_cell_eq (h j (Ne.symm hj))]
    · rw [List.getElem?_eq_none (by simp [m_ws]; omega), List.getElem?_eq_none (by simp [m_ws]; omega)]
theorem m_up_o {σ : mS} {k j : Nat} {v : Int32} (i : Nat) (h : i ≠ k) : σ i = m_up σ k j v i := by unfold m_up; rw [if_neg h]
theorem m_up_s {σ : mS} {k j : Nat} {v : Int32} : m_up σ k j v k = upd (σ k) j v := by unfold m_up; rw [if_pos rfl]
theorem m_cp_o {σ : mS} {a b sp dp n : Nat} (i : Nat) (h : i ≠ b) : σ i = m_cp σ a b sp dp n i := by unfold m_cp; rw [if_neg h]
/-- the cells' addresses are apart, and may be written -/
def m_A (ad : Nat → Nat) (A : Nat → Prop) : Prop := (∀ i j, i < 119 → j < 119 → ad i = ad j → i = j) ∧ ∀ k, k < 119 → A (ad k)
theorem m_A.D {ad : Nat → Nat} {A : Nat → Prop} (h : m_A ad A) (cI cS : ClassId) (σ : mS) : va_D A (m_ws ad cI cS σ) := by
  refine ⟨fun i j p q hp hq e => ?_, fun k q hq => ?_⟩
  · obtain ⟨h1, rfl⟩ := m_ws_inv hp
    obtain ⟨h2, rfl⟩ := m_ws_inv hq
    exact h.1 i j h1 h2 e
  · obtain ⟨h1, rfl⟩ := m_ws_inv hq
    exact h.2 k h1
theorem m_A.of {ad : Nat → Nat} {A : Nat → Prop} {cI cS : ClassId} {σ : mS} (h : va_D A (m_ws ad cI cS σ)) : m_A ad A :=
  ⟨fun i j hi hj e => h.1 i j _ _ (m_ws_at hi) (m_ws_at hj) e, fun k hk => h.2 k _ (m_ws_at hk)⟩
theorem m_A_iff {ad : Nat → Nat} {cI cS : ClassId} {σ : mS} {sz q : Nat} : va_A (m_ws ad cI cS σ) sz q ↔ (∃ k, k < 119 ∧ q = ad k) ∨ sz ≤ q := by
  constructor
  · rintro (⟨k, e, h⟩ | h)
    · obtain ⟨h1, h2⟩ := m_ws_inv h
      exact Or.inl ⟨k, h1, (Prod.mk.inj h2).1⟩
    · exact Or.inr h
  · rintro (⟨k, hk, rfl⟩ | h)
    · exact Or.inl ⟨k, _, m_ws_at hk⟩
    · exact Or.inr h
/-- the locals: those that are told are held -/
def m_L (ad : Nat → Nat) (n : Nat) (ls : List (Option mV)) (lsA : Array Slot) : Prop := ∃ L, lv_has lsA n L ∧ ∀ i v, ls[i]? = some (some v) → (i, m_v ad v) ∈ L
theorem m_L.get {ad : Nat → Nat} {n : Nat} {ls : List (Option mV)} {lsA : Array Slot} (h : m_L ad n ls lsA) {i : Nat} {v : mV} (hi : ls[i]? = some (some v)) : lsA[i]? = some (.val (m_v ad v)) := by
  obtain ⟨L, h1, h2⟩ := h
  exact h1.2.2 _ (h2 i v hi)
theorem m_cat (ad : Nat → Nat) (v : mV) : (m_v ad v).category = 1 := by rcases v with x | q <;> rfl
theorem m_L.put {ad : Nat → Nat} {n i : Nat} {ls ls' : List (Option mV)} {v : mV} {L : List (Nat × Value)} (h : ∀ i v, ls[i]? = some (some v) → (i, m_v ad v) ∈ L) (he : ls.set i (some v) = ls') {lsA' : Array Slot} (h' : lv_has lsA' n ((i, m_v ad v) :: L.filter (fun q => !(q.1 == i) && !(q.1 + 1 == i && q.2.category == 2)))) : m_L ad n ls' lsA' := by
  subst he
  refine ⟨_, h', fun j w hj => ?_⟩
  rw [List.getElem?_set] at hj
  by_cases hij : i = j
  · subst hij
    rw [if_pos rfl] at hj
    split at hj
    · cases hj; exact List.mem_cons_self
    · cases hj
  · rw [if_neg hij] at hj
    refine List.mem_cons_of_mem _ (List.mem_filter.mpr ⟨h j w hj, ?_⟩)
    have h2 : ¬ j = i := fun q => hij q.symm
    simp [h2, m_cat]
/-- a return at pc that gives r -/
def m_ret (M : mM) (pc : Nat) (r : Option mV) : Prop := match r with
  | none => decode M.2.1 pc = .ok (.return_, 1) ∧ M.2.2.2.2 = none
  | some (.inl x) => decode M.2.1 pc = .ok (.ireturn, 1) ∧ ∃ ty, M.2.2.2.2 = some ty ∧ narrow ty (.int x) = .int x
  | some (.inr _) => decode M.2.1 pc = .ok (.areturn, 1) ∧ ∃ C, M.2.2.2.2 = some (.object C)
/-- what stands around a method's walk -/
def mX (M : mM) (Q : Option mV → mS → Prop) (p : Program) (l : Launch) (e : Env) (R : Room) (s : State) (m : MethodId) (args : Array Value) (below : List Frame) (meth : Method) (c : Code) (ad : Nat → Nat) (D : va_G) (cI cS : ClassId) (A : Nat → Prop) (cells slots : Nat) (QM : State → Prop) : Prop :=
  p.tables.exec = Jvm.exec ∧ c.code = M.2.1 ∧ c.maxLocals = M.2.2.1 ∧ s.vm.findClass M.1.cls = some m.cls ∧ (∀ w ∈ TB, w.before args s = true) ∧ m_N s ∧ va_K D vwCl (m_ty cI cS) s ∧ (M.2.2.2.1 ≤ R.frames ∧ mK * M.2.2.2.1 ≤ R.locals ∧ cells ≤ R.cells ∧ slots ≤ R.slots) ∧ m_A ad A ∧ (∀ q, s.heap.size ≤ q → A q) ∧
  (∀ (r : Option mV) (σ : mS) (H : Heap) (locs : List Loc) (lsA : Array Slot) (pc : Nat), Q r σ → m_ret M pc r → va_P D vwCl (m_ws ad cI cS σ) H → va_S A s.heap H locs → W p l e R s m args below meth c H locs cells slots QM (F0 m pc lsA (r.toList.map (m_v ad))))
def J (M : mM) (Q : Option mV → mS → Prop) (pc : Nat) (ls : List (Option mV)) (st : List mV) (σ : mS) : Prop :=
  ∀ (p : Program) (l : Launch) (e : Env) (R : Room) (s : State) (m : MethodId) (args : Array Value) (below : List Frame) (meth : Method) (c : Code) (ad : Nat → Nat) (D : va_G) (cI cS : ClassId) (A : Nat → Prop) (cells slots : Nat) (QM : State → Prop), mX M Q p l e R s m args below meth c ad D cI cS A cells slots QM →
    ∀ (H : Heap) (locs : List Loc) (lsA : Array Slot), va_P D vwCl (m_ws ad cI cS σ) H → va_S A s.heap H locs → m_L ad M.2.2.1 ls lsA → W p l e R s m args below meth c H locs cells slots QM (F0 m pc lsA (st.map (m_v ad)))
theorem J_iadd {M : mM} {Q : Option mV → mS → Prop} {pc : Nat} {ls : List (Option mV)} {st : List mV} {σ : mS} {x y : Int32} (d : decode M.2.1 pc = .ok (.iadd, 1)) (k : J M Q (pc + 1) ls (.inl (x + y) :: st) σ) : J M Q pc ls (.inl y :: .inl x :: st) σ := by
  intro p l e R s m args below meth c ad D cI cS A cells slots QM X H locs lsA hP hS hL
  exact lv_iadd X.1 X.2.1 d (k _ _ _ _ _ _ _ _ _ _ _ _ _ _ _ _ _ _ X _ _ _ hP hS hL)
theorem J_isub {M : mM} {Q : Option mV → mS → Prop} {pc : Nat} {ls : List (Option mV)} {st : List mV} {σ : mS} {x y : Int32} (d : decode M.2.1 pc = .ok (.isub, 1)) (k : J M Q (pc + 1) ls (.inl (x - y) :: st) σ) : J M Q pc ls (.inl y :: .inl x :: st) σ := by
  intro p l e R s m args below meth c ad D cI cS A cells slots QM X H locs lsA hP hS hL
  exact lv_isub X.1 X.2.1 d (k _ _ _ _ _ _ _ _ _ _ _ _ _ _ _ _ _ _ X _ _ _ hP hS hL)
theorem J_imul {M : mM} {Q : Option mV → mS → Prop} {pc : Nat} {ls : List (Option mV)} {st : List mV} {σ : mS} {x y : Int32} (d : decode M.2.1 pc = .ok (.imul, 1)) (k : J M Q (pc + 1) ls (.inl (x * y) :: st) σ) : J M Q pc ls (.inl y :: .inl x :: st) σ := by
  intro p l e R s m args below meth c ad D cI cS A cells slots QM X H locs lsA hP hS hL
  exact lv_imul X.1 X.2.1 d (k _ _ _ _ _ _ _ _ _ _ _ _ _ _ _ _ _ _ X _ _ _ hP hS hL)
theorem J_iand {M : mM} {Q : Option mV → mS → Prop} {pc : Nat} {ls : List (Option mV)} {st : List mV} {σ : mS} {x y : Int32} (d : decode M.2.1 pc = .ok (.iand, 1)) (k : J M Q (pc + 1) ls (.inl (x &&& y) :: st) σ) : J M Q pc ls (.inl y :: .inl x :: st) σ := by
  intro p l e R s m args below meth c ad D cI cS A cells slots QM X H locs lsA hP hS hL
  exact lv_iand X.1 X.2.1 d (k _ _ _ _ _ _ _ _ _ _ _ _ _ _ _ _ _ _ X _ _ _ hP hS hL)
theorem J_ior {M : mM} {Q : Option mV → mS → Prop} {pc : Nat} {ls : List (Option mV)} {st : List mV} {σ : mS} {x y : Int32} (d : decode M.2.1 pc = .ok (.ior, 1)) (k : J M Q (pc + 1) ls (.inl (x ||| y) :: st) σ) : J M Q pc ls (.inl y :: .inl x :: st) σ := by
  intro p l e R s m args below meth c ad D cI cS A cells slots QM X H locs lsA hP hS hL
  exact lv_ior X.1 X.2.1 d (k _ _ _ _ _ _ _ _ _ _ _ _ _ _ _ _ _ _ X _ _ _ hP hS hL)
theorem J_ixor {M : mM} {Q : Option mV → mS → Prop} {pc : Nat} {ls : List (Option mV)} {st : List mV} {σ : mS} {x y : Int32} (d : decode M.2.1 pc = .ok (.ixor, 1)) (k : J M Q (pc + 1) ls (.inl (x ^^^ y) :: st) σ) : J M Q pc ls (.inl y :: .inl x :: st) σ := by
  intro p l e R s m args below meth c ad D cI cS A cells slots QM X H locs lsA hP hS hL
  exact lv_ixor X.1 X.2.1 d (k _ _ _ _ _ _ _ _ _ _ _ _ _ _ _ _ _ _ X _ _ _ hP hS hL)
theorem J_ishl {M : mM} {Q : Option mV → mS → Prop} {pc : Nat} {ls : List (Option mV)} {st : List mV} {σ : mS} {x y : Int32} (d : decode M.2.1 pc = .ok (.ishl, 1)) (k : J M Q (pc + 1) ls (.inl (x <<< (y &&& 31)) :: st) σ) : J M Q pc ls (.inl y :: .inl x :: st) σ := by
  intro p l e R s m args below meth c ad D cI cS A cells slots QM X H locs lsA hP hS hL
  exact lv_ishl X.1 X.2.1 d (k _ _ _ _ _ _ _ _ _ _ _ _ _ _ _ _ _ _ X _ _ _ hP hS hL)
theorem J_ishr {M : mM} {Q : Option mV → mS → Prop} {pc : Nat} {ls : List (Option mV)} {st : List mV} {σ : mS} {x y : Int32} (d : decode M.2.1 pc = .ok (.ishr, 1)) (k : J M Q (pc + 1) ls (.inl (x >>> (y &&& 31)) :: st) σ) : J M Q pc ls (.inl y :: .inl x :: st) σ := by
  intro p l e R s m args below meth c ad D cI cS A cells slots QM X H locs lsA hP hS hL
  exact lv_ishr X.1 X.2.1 d (k _ _ _ _ _ _ _ _ _ _ _ _ _ _ _ _ _ _ X _ _ _ hP hS hL)
theorem J_iushr {M : mM} {Q : Option mV → mS → Prop} {pc : Nat} {ls : List (Option mV)} {st : List mV} {σ : mS} {x y : Int32} (d : decode M.2.1 pc = .ok (.iushr, 1)) (k : J M Q (pc + 1) ls (.inl (m_ushr x y) :: st) σ) : J M Q pc ls (.inl y :: .inl x :: st) σ := by
  intro p l e R s m args below meth c ad D cI cS A cells slots QM X H locs lsA hP hS hL
  exact lv_iushr X.1 X.2.1 d rfl (k _ _ _ _ _ _ _ _ _ _ _ _ _ _ _ _ _ _ X _ _ _ hP hS hL)
theorem J_irem {M : mM} {Q : Option mV → mS → Prop} {pc : Nat} {ls : List (Option mV)} {st : List mV} {σ : mS} {x y : Int32} (d : decode M.2.1 pc = .ok (.irem, 1)) (h : ¬ y = 0) (k : J M Q (pc + 1) ls (.inl (m_rem x y) :: st) σ) : J M Q pc ls (.inl y :: .inl x :: st) σ := by
  intro p l e R s m args below meth c ad D cI cS A cells slots QM X H locs lsA hP hS hL
  exact lv_irem X.1 X.2.1 d h (k _ _ _ _ _ _ _ _ _ _ _ _ _ _ _ _ _ _ X _ _ _ hP hS hL)
theorem J_idiv {M : mM} {Q : Option mV → mS → Prop} {pc : Nat} {ls : List (Option mV)} {st : List mV} {σ : mS} {x y : Int32} (d : decode M.2.1 pc = .ok (.idiv, 1)) (h : ¬ y = 0) (k : J M Q (pc + 1) ls (.inl (x / y) :: st) σ) : J M Q pc ls (.inl y :: .inl x :: st) σ := by
  intro p l e R s m args below meth c ad D cI cS A cells slots QM X H locs lsA hP hS hL
  exact lv_idiv X.1 X.2.1 d h (k _ _ _ _ _ _ _ _ _ _ _ _ _ _ _ _ _ _ X _ _ _ hP hS hL)
theorem J_iconst {M : mM} {Q : Option mV → mS → Prop} {pc : Nat} {ls : List (Option mV)} {st : List mV} {σ : mS} {n : Int} {v : Int32} (d : decode M.2.1 pc = .ok (.iconst n, 1)) (hv : Int32.ofInt n = v) (k : J M Q (pc + 1) ls (.inl v :: st) σ) : J M Q pc ls st σ := by
  intro p l e R s m args below meth c ad D cI cS A cells slots QM X H locs lsA hP hS hL
  exact lv_iconst X.1 X.2.1 d hv (k _ _ _ _ _ _ _ _ _ _ _ _ _ _ _ _ _ _ X _ _ _ hP hS hL)
theorem J_bipush {M : mM} {Q : Option mV → mS → Prop} {pc : Nat} {ls : List (Option mV)} {st : List mV} {σ : mS} {n : Int} {v : Int32} (d : decode M.2.1 pc = .ok (.bipush n, 2)) (hv : (Int8.ofInt n).toInt32 = v) (k : J M Q (pc + 2) ls (.inl v :: st) σ) : J M Q pc ls st σ := by
  intro p l e R s m args below meth c ad D cI cS A cells slots QM X H locs lsA hP hS hL
  exact lv_bipush X.1 X.2.1 d hv (k _ _ _ _ _ _ _ _ _ _ _ _ _ _ _ _ _ _ X _ _ _ hP hS hL)
theorem J_sipush {M : mM} {Q : Option mV → mS → Prop} {pc : Nat} {ls : List (Option mV)} {st : List mV} {σ : mS} {n : Int} {v : Int32} (d : decode M.2.1 pc = .ok (.sipush n, 3)) (hv : (Int16.ofInt n).toInt32 = v) (k : J M Q (pc + 3) ls (.inl v :: st) σ) : J M Q pc ls st σ := by
  intro p l e R s m args below meth c ad D cI cS A cells slots QM X H locs lsA hP hS hL
  exact lv_sipush X.1 X.2.1 d hv (k _ _ _ _ _ _ _ _ _ _ _ _ _ _ _ _ _ _ X _ _ _ hP hS hL)
theorem J_ldc {M : mM} {Q : Option mV → mS → Prop} {pc : Nat} {ls : List (Option mV)} {st : List mV} {σ : mS} {own : String} {index : Nat} {v : Int32} (hw : Cond.constant own index v ∈ TB) (ho : own = M.1.cls) (d : decode M.2.1 pc = .ok (.ldc index, 2)) (k : J M Q (pc + 2) ls (.inl v :: st) σ) : J M Q pc ls st σ := by
  intro p l e R s m args below meth c ad D cI cS A cells slots QM X H locs lsA hP hS hL
  exact lv_ldc X.1 X.2.1 (own := own) (by rw [ho]; exact X.2.2.2.1) (X.2.2.2.2.1 _ hw) d (k _ _ _ _ _ _ _ _ _ _ _ _ _ _ _ _ _ _ X _ _ _ hP hS hL)
theorem J_ldc_w {M : mM} {Q : Option mV → mS → Prop} {pc : Nat} {ls : List (Option mV)} {st : List mV} {σ : mS} {own : String} {index : Nat} {v : Int32} (hw : Cond.constant own index v ∈ TB) (ho : own = M.1.cls) (d : decode M.2.1 pc = .ok (.ldc_w index, 3)) (k : J M Q (pc + 3) ls (.inl v :: st) σ) : J M Q pc ls st σ := by
  intro p l e R s m args below meth c ad D cI cS A cells slots QM X H locs lsA hP hS hL
  exact lv_ldcw X.1 X.2.1 (own := own) (by rw [ho]; exact X.2.2.2.1) (X.2.2.2.2.1 _ hw) d (k _ _ _ _ _ _ _ _ _ _ _ _ _ _ _ _ _ _ X _ _ _ hP hS hL)
theorem J_iload_n {M : mM} {Q : Option mV → mS → Prop} {pc : Nat} {ls : List (Option mV)} {st : List mV} {σ : mS} {k4 : Fin 4} {i : Nat} {x : Int32} (hi : (k4 : Nat) = i) (hg : ls[i]? = some (some (.inl x))) (d : decode M.2.1 pc = .ok (.iload_n k4, 1)) (k : J M Q (pc + 1) ls (.inl x :: st) σ) : J M Q pc ls st σ := by
  intro p l e R s m args below meth c ad D cI cS A cells slots QM X H locs lsA hP hS hL
  exact lv_iload_n X.1 X.2.1 d hi (hL.get hg) (k _ _ _ _ _ _ _ _ _ _ _ _ _ _ _ _ _ _ X _ _ _ hP hS hL)
theorem J_iload {M : mM} {Q : Option mV → mS → Prop} {pc : Nat} {ls : List (Option mV)} {st : List mV} {σ : mS} {i : Nat} {x : Int32} (hg : ls[i]? = some (some (.inl x))) (d : decode M.2.1 pc = .ok (.iload i, 2)) (k : J M Q (pc + 2) ls (.inl x :: st) σ) : J M Q pc ls st σ := by
  intro p l e R s m args below meth c ad D cI cS A cells slots QM X H locs lsA hP hS hL
  exact lv_iload X.1 X.2.1 d (hL.get hg) (k _ _ _ _ _ _ _ _ _ _ _ _ _ _ _ _ _ _ X _ _ _ hP hS hL)
theorem J_istore_n {M : mM} {Q : Option mV → mS → Prop} {pc : Nat} {ls : List (Option mV)} {st : List mV} {σ : mS} {k4 : Fin 4} {i : Nat} {x : Int32} {ls' : List (Option mV)} (hi : (k4 : Nat) = i) (he : ls.set i (some (.inl x)) = ls') (hn : Nat.ble (i + 1) ls.length = true) (hm : ls.length = M.2.2.1) (d : decode M.2.1 pc = .ok (.istore_n k4, 1)) (k : J M Q (pc + 1) ls' st σ) : J M Q pc ls (.inl x :: st) σ := by
  intro p l e R s m args below meth c ad D cI cS A cells slots QM X H locs lsA hP hS hL
  obtain ⟨L, h1, h2⟩ := hL
  exact lv_istore_n X.1 X.2.1 d hi h1 (by rw [← hm]; exact Nat.le_of_ble_eq_true hn) rfl (fun lsA' h' => k _ _ _ _ _ _ _ _ _ _ _ _ _ _ _ _ _ _ X _ _ _ hP hS (m_L.put (v := .inl x) h2 he h'))
theorem J_istore {M : mM} {Q : Option mV → mS → Prop} {pc : Nat} {ls : List (Option mV)} {st : List mV} {σ : mS} {i : Nat} {x : Int32} {ls' : List (Option mV)} (he : ls.set i (some (.inl x)) = ls') (hn : Nat.ble (i + 1) ls.length = true) (hm : ls.length = M.2.2.1) (d : decode M.2.1 pc = .ok (.istore i, 2)) (k : J M Q (pc + 2) ls' st σ) : J M Q pc ls (.inl x :: st) σ := by
  intro p l e R s m args below meth c ad D cI cS A cells slots QM X H locs lsA hP hS hL
  obtain ⟨L, h1, h2⟩ := hL
  exact lv_istore X.1 X.2.1 d h1 (by rw [← hm]; exact Nat.le_of_ble_eq_true hn) rfl (fun lsA' h' => k _ _ _ _ _ _ _ _ _ _ _ _ _ _ _ _ _ _ X _ _ _ hP hS (m_L.put (v := .inl x) h2 he h'))
theorem J_aload_n {M : mM} {Q : Option mV → mS → Prop} {pc : Nat} {ls : List (Option mV)} {st : List mV} {σ : mS} {k4 : Fin 4} {i : Nat} {x : Nat × Nat} (hi : (k4 : Nat) = i) (hg : ls[i]? = some (some (.inr x))) (d : decode M.2.1 pc = .ok (.aload_n k4, 1)) (k : J M Q (pc + 1) ls (.inr x :: st) σ) : J M Q pc ls st σ := by
  intro p l e R s m args below meth c ad D cI cS A cells slots QM X H locs lsA hP hS hL
  exact lv_aload_n X.1 X.2.1 d hi (hL.get hg) (k _ _ _ _ _ _ _ _ _ _ _ _ _ _ _ _ _ _ X _ _ _ hP hS hL)
theorem J_aload {M : mM} {Q : Option mV → mS → Prop} {pc : Nat} {ls : List (Option mV)} {st : List mV} {σ : mS} {i : Nat} {x : Nat × Nat} (hg : ls[i]? = some (some (.inr x))) (d : decode M.2.1 pc = .ok (.aload i, 2)) (k : J M Q (pc + 2) ls (.inr x :: st) σ) : J M Q pc ls st σ := by
  intro p l e R s m args below meth c ad D cI cS A cells slots QM X H locs lsA hP hS hL
  exact lv_aload X.1 X.2.1 d (hL.get hg) (k _ _ _ _ _ _ _ _ _ _ _ _ _ _ _ _ _ _ X _ _ _ hP hS hL)
theorem J_astore_n {M : mM} {Q : Option mV → mS → Prop} {pc : Nat} {ls : List (Option mV)} {st : List mV} {σ : mS} {k4 : Fin 4} {i : Nat} {x : Nat × Nat} {ls' : List (Option mV)} (hi : (k4 : Nat) = i) (he : ls.set i (some (.inr x)) = ls') (hn : Nat.ble (i + 1) ls.length = true) (hm : ls.length = M.2.2.1) (d : decode M.2.1 pc = .ok (.astore_n k4, 1)) (k : J M Q (pc + 1) ls' st σ) : J M Q pc ls (.inr x :: st) σ := by
  intro p l e R s m args below meth c ad D cI cS A cells slots QM X H locs lsA hP hS hL
  obtain ⟨L, h1, h2⟩ := hL
  exact lv_astore_n X.1 X.2.1 d hi h1 (by rw [← hm]; exact Nat.le_of_ble_eq_true hn) rfl (fun lsA' h' => k _ _ _ _ _ _ _ _ _ _ _ _ _ _ _ _ _ _ X _ _ _ hP hS (m_L.put (v := .inr x) h2 he h'))
theorem J_astore {M : mM} {Q : Option mV → mS → Prop} {pc : Nat} {ls : List (Option mV)} {st : List mV} {σ : mS} {i : Nat} {x : Nat × Nat} {ls' : List (Option mV)} (he : ls.set i (some (.inr x)) = ls') (hn : Nat.ble (i + 1) ls.length = true) (hm : ls.length = M.2.2.1) (d : decode M.2.1 pc = .ok (.astore i, 2)) (k : J M Q (pc + 2) ls' st σ) : J M Q pc ls (.inr x :: st) σ := by
  intro p l e R s m args below meth c ad D cI cS A cells slots QM X H locs lsA hP hS hL
  obtain ⟨L, h1, h2⟩ := hL
  exact lv_astore X.1 X.2.1 d h1 (by rw [← hm]; exact Nat.le_of_ble_eq_true hn) rfl (fun lsA' h' => k _ _ _ _ _ _ _ _ _ _ _ _ _ _ _ _ _ _ X _ _ _ hP hS (m_L.put (v := .inr x) h2 he h'))
theorem J_iinc {M : mM} {Q : Option mV → mS → Prop} {pc : Nat} {ls : List (Option mV)} {st : List mV} {σ : mS} {i : Nat} {n : Int} {x v : Int32} {ls' : List (Option mV)} (hg : ls[i]? = some (some (.inl x))) (hv : x + Int32.ofInt n = v) (he : ls.set i (some (.inl v)) = ls') (hn : Nat.ble (i + 1) ls.length = true) (hm : ls.length = M.2.2.1) (d : decode M.2.1 pc = .ok (.iinc i n, 3)) (k : J M Q (pc + 3) ls' st σ) : J M Q pc ls st σ := by
  intro p l e R s m args below meth c ad D cI cS A cells slots QM X H locs lsA hP hS hL
  obtain ⟨L, h1, h2⟩ := hL
  obtain ⟨j, hj⟩ := List.getElem?_of_mem (h2 i _ hg)
  exact lv_iinc (k := j) X.1 X.2.1 d h1 hj hv (by rw [← hm]; exact Nat.le_of_ble_eq_true hn) rfl (fun lsA' h' => k _ _ _ _ _ _ _ _ _ _ _ _ _ _ _ _ _ _ X _ _ _ hP hS (m_L.put (v := .inl v) h2 he h'))
theorem J_dup {M : mM} {Q : Option mV → mS → Prop} {pc : Nat} {ls : List (Option mV)} {st : List mV} {σ : mS} {v : mV} (d : decode M.2.1 pc = .ok (.dup, 1)) (k : J M Q (pc + 1) ls (v :: v :: st) σ) : J M Q pc ls (v :: st) σ := by
  intro p l e R s m args below meth c ad D cI cS A cells slots QM X H locs lsA hP hS hL
  exact lv_dup X.1 X.2.1 d (m_cat _ _) (k _ _ _ _ _ _ _ _ _ _ _ _ _ _ _ _ _ _ X _ _ _ hP hS hL)
theorem J_dup2 {M : mM} {Q : Option mV → mS → Prop} {pc : Nat} {ls : List (Option mV)} {st : List mV} {σ : mS} {v w : mV} (d : decode M.2.1 pc = .ok (.dup2, 1)) (k : J M Q (pc + 1) ls (v :: w :: v :: w :: st) σ) : J M Q pc ls (v :: w :: st) σ := by
  intro p l e R s m args below meth c ad D cI cS A cells slots QM X H locs lsA hP hS hL
  exact lv_dup2_11 X.1 X.2.1 d (m_cat _ _) (m_cat _ _) (k _ _ _ _ _ _ _ _ _ _ _ _ _ _ _ _ _ _ X _ _ _ hP hS hL)
theorem J_dup_x1 {M : mM} {Q : Option mV → mS → Prop} {pc : Nat} {ls : List (Option mV)} {st : List mV} {σ : mS} {v w : mV} (d : decode M.2.1 pc = .ok (.dup_x1, 1)) (k : J M Q (pc + 1) ls (v :: w :: v :: st) σ) : J M Q pc ls (v :: w :: st) σ := by
  intro p l e R s m args below meth c ad D cI cS A cells slots QM X H locs lsA hP hS hL
  exact lv_dup_x1 X.1 X.2.1 d (m_cat _ _) (m_cat _ _) (k _ _ _ _ _ _ _ _ _ _ _ _ _ _ _ _ _ _ X _ _ _ hP hS hL)
theorem J_pop {M : mM} {Q : Option mV → mS → Prop} {pc : Nat} {ls : List (Option mV)} {st : List mV} {σ : mS} {v : mV} (d : decode M.2.1 pc = .ok (.pop, 1)) (k : J M Q (pc + 1) ls st σ) : J M Q pc ls (v :: st) σ := by
  intro p l e R s m args below meth c ad D cI cS A cells slots QM X H locs lsA hP hS hL
  exact lv_pop X.1 X.2.1 d (m_cat _ _) (k _ _ _ _ _ _ _ _ _ _ _ _ _ _ _ _ _ _ X _ _ _ hP hS hL)
theorem J_goto {M : mM} {Q : Option mV → mS → Prop} {pc : Nat} {ls : List (Option mV)} {st : List mV} {σ : mS} {off : Int} {tgt : Nat} (d : decode M.2.1 pc = .ok (.goto off, 3)) (ht : (pc : Int) + off = (tgt : Int)) (k : J M Q tgt ls st σ) : J M Q pc ls st σ := by
  intro p l e R s m args below meth c ad D cI cS A cells slots QM X H locs lsA hP hS hL
  exact lv_goto X.1 X.2.1 d ht (k _ _ _ _ _ _ _ _ _ _ _ _ _ _ _ _ _ _ X _ _ _ hP hS hL)
theorem J_icmp_eq {M : mM} {Q : Option mV → mS → Prop} {pc : Nat} {ls : List (Option mV)} {st : List mV} {σ : mS} {x y : Int32} {off : Int} {tgt : Nat} (d : decode M.2.1 pc = .ok (.if_icmp .eq off, 3)) (ht : (pc : Int) + off = (tgt : Int)) (kt : x = y → J M Q tgt ls st σ) (kf : ¬ x = y → J M Q (pc + 3) ls st σ) : J M Q pc ls (.inl y :: .inl x :: st) σ := by
  intro p l e R s m args below meth c ad D cI cS A cells slots QM X H locs lsA hP hS hL
  exact lv_icmp_eq X.1 X.2.1 d ht (fun q => kt q _ _ _ _ _ _ _ _ _ _ _ _ _ _ _ _ _ _ X _ _ _ hP hS hL) (fun q => kf q _ _ _ _ _ _ _ _ _ _ _ _ _ _ _ _ _ _ X _ _ _ hP hS hL)
theorem J_if_eq {M : mM} {Q : Option mV → mS → Prop} {pc : Nat} {ls : List (Option mV)} {st : List mV} {σ : mS} {x : Int32} {off : Int} {tgt : Nat} (d : decode M.2.1 pc = .ok (.ifCond .eq off, 3)) (ht : (pc : Int) + off = (tgt : Int)) (kt : x = 0 → J M Q tgt ls st σ) (kf : ¬ x = 0 → J M Q (pc + 3) ls st σ) : J M Q pc ls (.inl x :: st) σ := by
  intro p l e R s m args below meth c ad D cI cS A cells slots QM X H locs lsA hP hS hL
  exact lv_if_eq X.1 X.2.1 d ht (fun q => kt q _ _ _ _ _ _ _ _ _ _ _ _ _ _ _ _ _ _ X _ _ _ hP hS hL) (fun q => kf q _ _ _ _ _ _ _ _ _ _ _ _ _ _ _ _ _ _ X _ _ _ hP hS hL)
theorem J_icmp_ne {M : mM} {Q : Option mV → mS → Prop} {pc : Nat} {ls : List (Option mV)} {st : List mV} {σ : mS} {x y : Int32} {off : Int} {tgt : Nat} (d : decode M.2.1 pc = .ok (.if_icmp .ne off, 3)) (ht : (pc : Int) + off = (tgt : Int)) (kt : ¬ x = y → J M Q tgt ls st σ) (kf : x = y → J M Q (pc + 3) ls st σ) : J M Q pc ls (.inl y :: .inl x :: st) σ := by
  intro p l e R s m args below meth c ad D cI cS A cells slots QM X H locs lsA hP hS hL
  exact lv_icmp_ne X.1 X.2.1 d ht (fun q => kt q _ _ _ _ _ _ _ _ _ _ _ _ _ _ _ _ _ _ X _ _ _ hP hS hL) (fun q => kf q _ _ _ _ _ _ _ _ _ _ _ _ _ _ _ _ _ _ X _ _ _ hP hS hL)
theorem J_if_ne {M : mM} {Q : Option mV → mS → Prop} {pc : Nat} {ls : List (Option mV)} {st : List mV} {σ : mS} {x : Int32} {off : Int} {tgt : Nat} (d : decode M.2.1 pc = .ok (.ifCond .ne off, 3)) (ht : (pc : Int) + off = (tgt : Int)) (kt : ¬ x = 0 → J M Q tgt ls st σ) (kf : x = 0 → J M Q (pc + 3) ls st σ) : J M Q pc ls (.inl x :: st) σ := by
  intro p l e R s m args below meth c ad D cI cS A cells slots QM X H locs lsA hP hS hL
  exact lv_if_ne X.1 X.2.1 d ht (fun q => kt q _ _ _ _ _ _ _ _ _ _ _ _ _ _ _ _ _ _ X _ _ _ hP hS hL) (fun q => kf q _ _ _ _ _ _ _ _ _ _ _ _ _ _ _ _ _ _ X _ _ _ hP hS hL)
theorem J_icmp_lt {M : mM} {Q : Option mV → mS → Prop} {pc : Nat} {ls : List (Option mV)} {st : List mV} {σ : mS} {x y : Int32} {off : Int} {tgt : Nat} (d : decode M.2.1 pc = .ok (.if_icmp .lt off, 3)) (ht : (pc : Int) + off = (tgt : Int)) (kt : x < y → J M Q tgt ls st σ) (kf : ¬ x < y → J M Q (pc + 3) ls st σ) : J M Q pc ls (.inl y :: .inl x :: st) σ := by
  intro p l e R s m args below meth c ad D cI cS A cells slots QM X H locs lsA hP hS hL
  exact lv_icmp_lt X.1 X.2.1 d ht (fun q => kt q _ _ _ _ _ _ _ _ _ _ _ _ _ _ _ _ _ _ X _ _ _ hP hS hL) (fun q => kf q _ _ _ _ _ _ _ _ _ _ _ _ _ _ _ _ _ _ X _ _ _ hP hS hL)
theorem J_if_lt {M : mM} {Q : Option mV → mS → Prop} {pc : Nat} {ls : List (Option mV)} {st : List mV} {σ : mS} {x : Int32} {off : Int} {tgt : Nat} (d : decode M.2.1 pc = .ok (.ifCond .lt off, 3)) (ht : (pc : Int) + off = (tgt : Int)) (kt : x < 0 → J M Q tgt ls st σ) (kf : ¬ x < 0 → J M Q (pc + 3) ls st σ) : J M Q pc ls (.inl x :: st) σ := by
  intro p l e R s m args below meth c ad D cI cS A cells slots QM X H locs lsA hP hS hL
  exact lv_if_lt X.1 X.2.1 d ht (fun q => kt q _ _ _ _ _ _ _ _ _ _ _ _ _ _ _ _ _ _ X _ _ _ hP hS hL) (fun q => kf q _ _ _ _ _ _ _ _ _ _ _ _ _ _ _ _ _ _ X _ _ _ hP hS hL)
theorem J_icmp_ge {M : mM} {Q : Option mV → mS → Prop} {pc : Nat} {ls : List (Option mV)} {st : List mV} {σ : mS} {x y : Int32} {off : Int} {tgt : Nat} (d : decode M.2.1 pc = .ok (.if_icmp .ge off, 3)) (ht : (pc : Int) + off = (tgt : Int)) (kt : y ≤ x → J M Q tgt ls st σ) (kf : ¬ y ≤ x → J M Q (pc + 3) ls st σ) : J M Q pc ls (.inl y :: .inl x :: st) σ := by
  intro p l e R s m args below meth c ad D cI cS A cells slots QM X H locs lsA hP hS hL
  exact lv_icmp_ge X.1 X.2.1 d ht (fun q => kt q _ _ _ _ _ _ _ _ _ _ _ _ _ _ _ _ _ _ X _ _ _ hP hS hL) (fun q => kf q _ _ _ _ _ _ _ _ _ _ _ _ _ _ _ _ _ _ X _ _ _ hP hS hL)
theorem J_if_ge {M : mM} {Q : Option mV → mS → Prop} {pc : Nat} {ls : List (Option mV)} {st : List mV} {σ : mS} {x : Int32} {off : Int} {tgt : Nat} (d : decode M.2.1 pc = .ok (.ifCond .ge off, 3)) (ht : (pc : Int) + off = (tgt : Int)) (kt : 0 ≤ x → J M Q tgt ls st σ) (kf : ¬ 0 ≤ x → J M Q (pc + 3) ls st σ) : J M Q pc ls (.inl x :: st) σ := by
  intro p l e R s m args below meth c ad D cI cS A cells slots QM X H locs lsA hP hS hL
  exact lv_if_ge X.1 X.2.1 d ht (fun q => kt q _ _ _ _ _ _ _ _ _ _ _ _ _ _ _ _ _ _ X _ _ _ hP hS hL) (fun q => kf q _ _ _ _ _ _ _ _ _ _ _ _ _ _ _ _ _ _ X _ _ _ hP hS hL)
theorem J_icmp_gt {M : mM} {Q : Option mV → mS → Prop} {pc : Nat} {ls : List (Option mV)} {st : List mV} {σ : mS} {x y : Int32} {off : Int} {tgt : Nat} (d : decode M.2.1 pc = .ok (.if_icmp .gt off, 3)) (ht : (pc : Int) + off = (tgt : Int)) (kt : y < x → J M Q tgt ls st σ) (kf : ¬ y < x → J M Q (pc + 3) ls st σ) : J M Q pc ls (.inl y :: .inl x :: st) σ := by
  intro p l e R s m args below meth c ad D cI cS A cells slots QM X H locs lsA hP hS hL
  exact lv_icmp_gt X.1 X.2.1 d ht (fun q => kt q _ _ _ _ _ _ _ _ _ _ _ _ _ _ _ _ _ _ X _ _ _ hP hS hL) (fun q => kf q _ _ _ _ _ _ _ _ _ _ _ _ _ _ _ _ _ _ X _ _ _ hP hS hL)
theorem J_if_gt {M : mM} {Q : Option mV → mS → Prop} {pc : Nat} {ls : List (Option mV)} {st : List mV} {σ : mS} {x : Int32} {off : Int} {tgt : Nat} (d : decode M.2.1 pc = .ok (.ifCond .gt off, 3)) (ht : (pc : Int) + off = (tgt : Int)) (kt : 0 < x → J M Q tgt ls st σ) (kf : ¬ 0 < x → J M Q (pc + 3) ls st σ) : J M Q pc ls (.inl x :: st) σ := by
  intro p l e R s m args below meth c ad D cI cS A cells slots QM X H locs lsA hP hS hL
  exact lv_if_gt X.1 X.2.1 d ht (fun q => kt q _ _ _ _ _ _ _ _ _ _ _ _ _ _ _ _ _ _ X _ _ _ hP hS hL) (fun q => kf q _ _ _ _ _ _ _ _ _ _ _ _ _ _ _ _ _ _ X _ _ _ hP hS hL)
theorem J_icmp_le {M : mM} {Q : Option mV → mS → Prop} {pc : Nat} {ls : List (Option mV)} {st : List mV} {σ : mS} {x y : Int32} {off : Int} {tgt : Nat} (d : decode M.2.1 pc = .ok (.if_icmp .le off, 3)) (ht : (pc : Int) + off = (tgt : Int)) (kt : x ≤ y → J M Q tgt ls st σ) (kf : ¬ x ≤ y → J M Q (pc + 3) ls st σ) : J M Q pc ls (.inl y :: .inl x :: st) σ := by
  intro p l e R s m args below meth c ad D cI cS A cells slots QM X H locs lsA hP hS hL
  exact lv_icmp_le X.1 X.2.1 d ht (fun q => kt q _ _ _ _ _ _ _ _ _ _ _ _ _ _ _ _ _ _ X _ _ _ hP hS hL) (fun q => kf q _ _ _ _ _ _ _ _ _ _ _ _ _ _ _ _ _ _ X _ _ _ hP hS hL)
theorem J_if_le {M : mM} {Q : Option mV → mS → Prop} {pc : Nat} {ls : List (Option mV)} {st : List mV} {σ : mS} {x : Int32} {off : Int} {tgt : Nat} (d : decode M.2.1 pc = .ok (.ifCond .le off, 3)) (ht : (pc : Int) + off = (tgt : Int)) (kt : x ≤ 0 → J M Q tgt ls st σ) (kf : ¬ x ≤ 0 → J M Q (pc + 3) ls st σ) : J M Q pc ls (.inl x :: st) σ := by
  intro p l e R s m args below meth c ad D cI cS A cells slots QM X H locs lsA hP hS hL
  exact lv_if_le X.1 X.2.1 d ht (fun q => kt q _ _ _ _ _ _ _ _ _ _ _ _ _ _ _ _ _ _ X _ _ _ hP hS hL) (fun q => kf q _ _ _ _ _ _ _ _ _ _ _ _ _ _ _ _ _ _ X _ _ _ hP hS hL)
theorem J_tabIn {M : mM} {Q : Option mV → mS → Prop} {pc : Nat} {ls : List (Option mV)} {st : List mV} {σ : mS} {dflt lo hi : Int} {offs : Array Int} {len : Nat} {x v : Int32} {off : Int} {tgt : Nat} (hx : x = v) (d : decode M.2.1 pc = .ok (.tableswitch dflt lo hi offs, len)) (h1 : ¬ v.toInt < lo) (h2 : ¬ hi < v.toInt) (ho : offs[(v.toInt - lo).toNat]? = some off) (ht : (pc : Int) + off = (tgt : Int)) (k : J M Q tgt ls st σ) : J M Q pc ls (.inl x :: st) σ := by
  intro p l e R s m args below meth c ad D cI cS A cells slots QM X H locs lsA hP hS hL
  subst hx
  exact lv_tableIn X.1 X.2.1 d h1 h2 ho ht (k _ _ _ _ _ _ _ _ _ _ _ _ _ _ _ _ _ _ X _ _ _ hP hS hL)
theorem J_tabOut {M : mM} {Q : Option mV → mS → Prop} {pc : Nat} {ls : List (Option mV)} {st : List mV} {σ : mS} {dflt lo hi : Int} {offs : Array Int} {len : Nat} {x : Int32} {tgt : Nat} (h : x.toInt < lo ∨ hi < x.toInt) (d : decode M.2.1 pc = .ok (.tableswitch dflt lo hi offs, len)) (ht : (pc : Int) + dflt = (tgt : Int)) (k : J M Q tgt ls st σ) : J M Q pc ls (.inl x :: st) σ := by
  intro p l e R s m args below meth c ad D cI cS A cells slots QM X H locs lsA hP hS hL
  exact lv_tableOut X.1 X.2.1 d h ht (k _ _ _ _ _ _ _ _ _ _ _ _ _ _ _ _ _ _ X _ _ _ hP hS hL)
theorem J_vret {M : mM} {Q : Option mV → mS → Prop} {pc : Nat} {ls : List (Option mV)} {σ : mS} (hr : M.2.2.2.2 = none) (d : decode M.2.1 pc = .ok (.return_, 1)) (h : Q none σ) : J M Q pc ls [] σ := by
  intro p l e R s m args below meth c ad D cI cS A cells slots QM X H locs lsA hP hS hL
  exact X.2.2.2.2.2.2.2.2.2.2 none σ H locs lsA pc h ⟨d, hr⟩ hP hS
theorem J_iret {M : mM} {Q : Option mV → mS → Prop} {pc : Nat} {ls : List (Option mV)} {σ : mS} {x : Int32} (hr : M.2.2.2.2 = some .int) (d : decode M.2.1 pc = .ok (.ireturn, 1)) (h : Q (some (.inl x)) σ) : J M Q pc ls [.inl x] σ := by
  intro p l e R s m args below meth c ad D cI cS A cells slots QM X H locs lsA hP hS hL
  exact X.2.2.2.2.2.2.2.2.2.2 (some (.inl x)) σ H locs lsA pc h ⟨d, .int, hr, rfl⟩ hP hS
theorem J_zret {M : mM} {Q : Option mV → mS → Prop} {pc : Nat} {ls : List (Option mV)} {σ : mS} {x : Int32} (hr : M.2.2.2.2 = some .boolean) (hx : x = 0 ∨ x = 1) (d : decode M.2.1 pc = .ok (.ireturn, 1)) (h : Q (some (.inl x)) σ) : J M Q pc ls [.inl x] σ := by
  intro p l e R s m args below meth c ad D cI cS A cells slots QM X H locs lsA hP hS hL
  exact X.2.2.2.2.2.2.2.2.2.2 (some (.inl x)) σ H locs lsA pc h ⟨d, .boolean, hr, by rcases hx with rfl | rfl <;> decide⟩ hP hS
theorem J_aret {M : mM} {Q : Option mV → mS → Prop} {pc : Nat} {ls : List (Option mV)} {σ : mS} {C : String} {q : Nat × Nat} (hr : M.2.2.2.2 = some (.object C)) (d : decode M.2.1 pc = .ok (.areturn, 1)) (h : Q (some (.inr q)) σ) : J M Q pc ls [.inr q] σ := by
  intro p l e R s m args below meth c ad D cI cS A cells slots QM X H locs lsA hP hS hL
  exact X.2.2.2.2.2.2.2.2.2.2 (some (.inr q)) σ H locs lsA pc h ⟨d, C, hr⟩ hP hS
theorem m_cell_a {ad : Nat → Nat} {cI cS : ClassId} {σ : mS} {k : Nat} (h : 0 < a_n k) : k < 119 ∧ m_cell ad cI cS σ k = .inl (cI, a_n k, .inl (σ k)) := by
  obtain ⟨h1, h2, h3⟩ := a_n_pos k h
  refine ⟨h1, ?_⟩
  unfold m_cell
  rw [h2, if_neg h3]
theorem m_in_pos {x : Int32} {n : Nat} (h : vp_in x n) : 0 < n := by
  rcases Nat.eq_zero_or_pos n with q | q
  · subst q; exact absurd (Or.inr (Nat.zero_le _)) h
  · exact q
theorem J_iald {M : mM} {Q : Option mV → mS → Prop} {pc : Nat} {ls : List (Option mV)} {st : List mV} {σ : mS} {x : Int32} {q : Nat × Nat} (h : vp_in x (a_n (m_cl q))) (d : decode M.2.1 pc = .ok (.iaload, 1)) (k : J M Q (pc + 1) ls (.inl (σ (m_cl q) x.toNatClampNeg) :: st) σ) : J M Q pc ls (.inl x :: .inr q :: st) σ := by
  intro p l e R s m args below meth c ad D cI cS A cells slots QM X H locs lsA hP hS hL
  obtain ⟨h1, h2⟩ := m_cell_a (ad := ad) (cI := cI) (cS := cS) (σ := σ) (m_in_pos h)
  exact va_iald (D := D) (cl := vwCl) X.1 X.2.1 X.2.2.2.2.2.2.1 hP (m_cl q) 0 (by rw [m_ws_at h1, h2]) rfl h d (k _ _ _ _ _ _ _ _ _ _ _ _ _ _ _ _ _ _ X _ _ _ hP hS hL)
theorem J_iast {M : mM} {Q : Option mV → mS → Prop} {pc : Nat} {ls : List (Option mV)} {st : List mV} {σ : mS} {x v : Int32} {q : Nat × Nat} (h : vp_in x (a_n (m_cl q))) (d : decode M.2.1 pc = .ok (.iastore, 1)) (k : J M Q (pc + 1) ls st (m_up σ (m_cl q) x.toNatClampNeg v)) : J M Q pc ls (.inl v :: .inl x :: .inr q :: st) σ := by
  intro p l e R s m args below meth c ad D cI cS A cells slots QM X H locs lsA hP hS hL
  obtain ⟨h1, h2⟩ := m_cell_a (ad := ad) (cI := cI) (cS := cS) (σ := σ) (m_in_pos h)
  obtain ⟨-, h3⟩ := m_cell_a (ad := ad) (cI := cI) (cS := cS) (σ := m_up σ (m_cl q) x.toNatClampNeg v) (m_in_pos h)
  refine va_iast (D := D) (cl := vwCl) X.1 X.2.1 X.2.2.2.2.2.2.1 hP (X.2.2.2.2.2.2.2.2.1.D cI cS σ) hS (m_cl q) 0 (by rw [m_ws_at h1, h2]) rfl h d (fun H1 locs1 hP1 _ hS1 => ?_)
  rw [m_up_s] at h3
  rw [← h3, m_ws_set h1 (m_up_o)] at hP1
  exact k _ _ _ _ _ _ _ _ _ _ _ _ _ _ _ _ _ _ X _ _ _ hP1 hS1 hL
theorem J_alen {M : mM} {Q : Option mV → mS → Prop} {pc : Nat} {ls : List (Option mV)} {st : List mV} {σ : mS} {q : Nat × Nat} (h : 0 < a_n (m_cl q)) (d : decode M.2.1 pc = .ok (.arraylength, 1)) (k : J M Q (pc + 1) ls (.inl (nI (a_n (m_cl q))) :: st) σ) : J M Q pc ls (.inr q :: st) σ := by
  intro p l e R s m args below meth c ad D cI cS A cells slots QM X H locs lsA hP hS hL
  obtain ⟨h1, h2⟩ := m_cell_a (ad := ad) (cI := cI) (cS := cS) (σ := σ) h
  exact va_alen (D := D) (cl := vwCl) X.1 X.2.1 X.2.2.2.2.2.2.1 hP (m_cl q) 0 (x := (a_n (m_cl q), .inl (σ (m_cl q)))) (by rw [m_ws_at h1, h2]) rfl rfl d (k _ _ _ _ _ _ _ _ _ _ _ _ _ _ _ _ _ _ X _ _ _ hP hS hL)
theorem J_aald {M : mM} {Q : Option mV → mS → Prop} {pc : Nat} {ls : List (Option mV)} {st : List mV} {σ : mS} {x : Int32} (h : vp_in x 60) (d : decode M.2.1 pc = .ok (.aaload, 1)) (k : J M Q (pc + 1) ls (.inr (59, x.toNatClampNeg) :: st) σ) : J M Q pc ls (.inl x :: .inr (24, 0) :: st) σ := by
  intro p l e R s m args below meth c ad D cI cS A cells slots QM X H locs lsA hP hS hL
  have hlt : x.toNatClampNeg < 60 := Nat.not_le.mp fun q => h (Or.inr q)
  refine va_aldq (D := D) (cl := vwCl) (f := fun j => some (ad (59 + j))) (n := 60) (cA := cS) X.1 X.2.1 X.2.2.2.2.2.2.1 hP 24 1 (by rw [m_ws_at (by decide)]; rfl) rfl h d ?_
  have e : va_rf (some (ad (59 + x.toNatClampNeg))) = m_v ad (.inr (59, x.toNatClampNeg)) := by
    show Value.ref _ = Value.ref (ad (if (59 : Nat) = 59 then 59 + x.toNatClampNeg % 60 else 59))
    rw [if_pos rfl, Nat.mod_eq_of_lt hlt]
  show W _ _ _ _ _ _ _ _ _ _ _ _ _ _ _ (F0 m (pc + 1) lsA (va_rf (some (ad (59 + x.toNatClampNeg))) :: st.map (m_v ad)))
  rw [e]
  exact k _ _ _ _ _ _ _ _ _ _ _ _ _ _ _ _ _ _ X _ _ _ hP hS hL
theorem J_copy {M : mM} {Q : Option mV → mS → Prop} {pc : Nat} {ls : List (Option mV)} {st : List mV} {σ : mS} {own : String} {index : Nat} {q r : Nat × Nat} {sp dp n : Int32} (hw : m_cpw own index) (h : ¬ sp < 0 ∧ ¬ dp < 0 ∧ ¬ n < 0 ∧ sp.toNatClampNeg + n.toNatClampNeg ≤ a_n (m_cl q) ∧ dp.toNatClampNeg + n.toNatClampNeg ≤ a_n (m_cl r)) (hq : 0 < a_n (m_cl q)) (hr : 0 < a_n (m_cl r)) (ho : own = M.1.cls) (hR : 0 + (nativeFrameWords "java/lang/System" "arraycopy" 5 + 11) ≤ mK * M.2.2.2.1 ∧ 1 ≤ M.2.2.2.1) (hst : st = []) (d : decode M.2.1 pc = .ok (.invokestatic index, 3)) (k : J M Q (pc + 3) ls st (m_cp σ (m_cl q) (m_cl r) sp.toNatClampNeg dp.toNatClampNeg n.toNatClampNeg)) : J M Q pc ls (.inl n :: .inl dp :: .inr r :: .inl sp :: .inr q :: st) σ := by
  intro p l e R s m args below meth c ad D cI cS A cells slots QM X H locs lsA hP hS hL
  obtain ⟨h1, h2⟩ := m_cell_a (ad := ad) (cI := cI) (cS := cS) (σ := σ) hq
  obtain ⟨h3, h4⟩ := m_cell_a (ad := ad) (cI := cI) (cS := cS) (σ := σ) hr
  obtain ⟨-, h5⟩ := m_cell_a (ad := ad) (cI := cI) (cS := cS) (σ := m_cp σ (m_cl q) (m_cl r) sp.toNatClampNeg dp.toNatClampNeg n.toNatClampNeg) hr
  obtain ⟨L, l1, l2⟩ := hL
  have hL : m_L ad M.2.2.1 ls lsA := ⟨L, l1, l2⟩
  obtain ⟨hx1, hx2, hx3, hx4, hx5, hx6, hx7, hx8, hx9, hx10, hx11⟩ := id X
  subst hst
  refine va_copyi (D := D) (cl := vwCl) hx1 hx2 (by rw [hx3]; exact l1.1.symm) (own := own) (by rw [ho]; exact hx4) (hx5 _ hw.1) (hx5 _ hw.2.1) (hx5 _ hw.2.2.1) (hx5 _ hw.2.2.2) hx7 hP (hx9.D cI cS σ) hS (m_cl q) (m_cl r) 0 0 (by rw [m_ws_at h1, h2]) (by rw [m_ws_at h3, h4]) rfl rfl rfl h.1 h.2.1 h.2.2.1 h.2.2.2.1 h.2.2.2.2 (fun _ _ => rfl) (Nat.le_trans hR.2 hx8.1) (Nat.le_trans hR.1 hx8.2.1) d (fun H1 locs1 hP1 _ hS1 => ?_)
  have e9 : m_cp σ (m_cl q) (m_cl r) sp.toNatClampNeg dp.toNatClampNeg n.toNatClampNeg (m_cl r) = va_cpy (σ (m_cl q)) (σ (m_cl r)) sp.toNatClampNeg dp.toNatClampNeg n.toNatClampNeg := by unfold m_cp; rw [if_pos rfl]
  rw [e9] at h5
  rw [← h5, m_ws_set h3 (m_cp_o)] at hP1
  exact k _ _ _ _ _ _ _ _ _ _ _ _ _ _ _ _ _ _ X _ _ _ hP1 hS1 hL
/-- a field's words: of class number ci, its place j, by the link 'index' of class own -/
def m_F (own : String) (index ci j : Nat) : Prop := ∃ (C : String) (T : u_T) (N : Nat), vwCl[ci]? = some (C, T, N) ∧ (∀ w ∈ u_ws C T N, w ∈ TB) ∧ j < N ∧ Cond.fieldLink own index (T j).1 (T j).2.1 (T j).2.2.1 ∈ TB
/-- .. and it may be written, its type is ty -/
def m_Fw (own : String) (index ci j : Nat) (ty : FieldType) : Prop := ∃ (C : String) (T : u_T) (N : Nat) (ty0 : Nat → FieldType), vwCl[ci]? = some (C, T, N) ∧ (∀ w ∈ u_ws C T N, w ∈ TB) ∧ j < N ∧ Cond.fieldLink own index (T j).1 (T j).2.1 (T j).2.2.1 ∈ TB ∧ (∀ k, k < N → parseFieldDescriptor (T k).2.2.1 = some (ty0 k)) ∧ (∀ a, a < N → ∀ b, b < N → a ≠ b → (T a).2.1 ≠ (T b).2.1) ∧ (T j).2.2.2 = false ∧ parseFieldDescriptor (T j).2.2.1 = some ty
theorem m_cell_o {ad : Nat → Nat} {cI cS : ClassId} {σ : mS} {k ci : Nat} (h : o_ci k = some ci) : k < 119 ∧ m_cell ad cI cS σ k = .inr (ci, (List.range (o_n k)).map (m_fv ad σ k)) := by
  refine ⟨o_ci_lt h, ?_⟩
  unfold m_cell
  rw [h]
theorem m_fs_at {ad : Nat → Nat} {σ : mS} {k j n : Nat} (h : j < n) : ((List.range n).map (m_fv ad σ k))[j]? = some (m_fv ad σ k j) := by
  rw [List.getElem?_map, List.getElem?_range h]
  rfl
theorem m_fs_set {ad : Nat → Nat} {σ : mS} {k j n : Nat} {v : Int32} (hr : o_r k j = none) : ((List.range n).map (m_fv ad σ k)).set j (.int v) = (List.range n).map (m_fv ad (m_up σ k j v) k) := by
  apply List.ext_getElem?
  intro i
  rw [List.getElem?_set]
  by_cases hij : j = i
  · subst hij
    rw [if_pos rfl]
    by_cases hn : j < n
    · rw [if_pos (by simpa using hn), m_fs_at hn]
      unfold m_fv
      rw [hr, m_up_s]
      simp [upd]
    · rw [if_neg (by simpa using hn), List.getElem?_eq_none (by simp; omega)]
  · rw [if_neg hij]
    by_cases hn : i < n
    · rw [m_fs_at hn, m_fs_at hn]
      unfold m_fv
      rw [m_up_s]
      simp [upd, Ne.symm hij]
    · rw [List.getElem?_eq_none (by simp; omega), List.getElem?_eq_none (by simp; omega)]
theorem J_getI {M : mM} {Q : Option mV → mS → Prop} {pc : Nat} {ls : List (Option mV)} {st : List mV} {σ : mS} {own : String} {index ci j : Nat} {q : Nat × Nat} (hF : m_F own index ci j) (ho : own = M.1.cls) (hc : o_ci (m_cl q) = some ci) (hj : Nat.ble (j + 1) (o_n (m_cl q)) = true) (hr : o_r (m_cl q) j = none) (d : decode M.2.1 pc = .ok (.getfield index, 3)) (k : J M Q (pc + 3) ls (.inl (σ (m_cl q) j) :: st) σ) : J M Q pc ls (.inr q :: st) σ := by
  intro p l e R s m args below meth c ad D cI cS A cells slots QM X H locs lsA hP hS hL
  obtain ⟨C, T, N, h1, h2, h3, h4⟩ := hF
  obtain ⟨g1, g2⟩ := m_cell_o (ad := ad) (cI := cI) (cS := cS) (σ := σ) hc
  exact va_get (D := D) (v := .int (σ (m_cl q) j)) X.1 X.2.1 X.2.2.2.2.1 h2 (own := own) (by rw [ho]; exact X.2.2.2.1) X.2.2.2.2.2.2.1 hP (m_cl q) (by rw [m_ws_at g1, g2]) h1 j h3 (X.2.2.2.2.1 _ h4) (fun _ h => h) (by rw [m_fs_at (Nat.le_of_ble_eq_true hj)]; unfold m_fv; rw [hr]) d (k _ _ _ _ _ _ _ _ _ _ _ _ _ _ _ _ _ _ X _ _ _ hP hS hL)
theorem J_getR {M : mM} {Q : Option mV → mS → Prop} {pc : Nat} {ls : List (Option mV)} {st : List mV} {σ : mS} {own : String} {index ci j r : Nat} {q : Nat × Nat} (hF : m_F own index ci j) (ho : own = M.1.cls) (hc : o_ci (m_cl q) = some ci) (hj : Nat.ble (j + 1) (o_n (m_cl q)) = true) (hr : o_r (m_cl q) j = some r) (h9 : m_cl (r, 0) = r) (d : decode M.2.1 pc = .ok (.getfield index, 3)) (k : J M Q (pc + 3) ls (.inr (r, 0) :: st) σ) : J M Q pc ls (.inr q :: st) σ := by
  intro p l e R s m args below meth c ad D cI cS A cells slots QM X H locs lsA hP hS hL
  obtain ⟨C, T, N, h1, h2, h3, h4⟩ := hF
  obtain ⟨g1, g2⟩ := m_cell_o (ad := ad) (cI := cI) (cS := cS) (σ := σ) hc
  exact va_get (D := D) (v := m_v ad (.inr (r, 0))) X.1 X.2.1 X.2.2.2.2.1 h2 (own := own) (by rw [ho]; exact X.2.2.2.1) X.2.2.2.2.2.2.1 hP (m_cl q) (by rw [m_ws_at g1, g2]) h1 j h3 (X.2.2.2.2.1 _ h4) (fun _ h => h) (by rw [m_fs_at (Nat.le_of_ble_eq_true hj)]; unfold m_fv m_v; rw [hr]; simp only [h9]) d (k _ _ _ _ _ _ _ _ _ _ _ _ _ _ _ _ _ _ X _ _ _ hP hS hL)
theorem J_putI {M : mM} {Q : Option mV → mS → Prop} {pc : Nat} {ls : List (Option mV)} {st : List mV} {σ : mS} {own : String} {index ci j : Nat} {ty : FieldType} {v : Int32} {q : Nat × Nat} (hF : m_Fw own index ci j ty) (ho : own = M.1.cls) (hn : narrow ty (.int v) = .int v) (hf : fits ty (.int v) = true) (hc : o_ci (m_cl q) = some ci) (hj : Nat.ble (j + 1) (o_n (m_cl q)) = true) (hr : o_r (m_cl q) j = none) (d : decode M.2.1 pc = .ok (.putfield index, 3)) (k : J M Q (pc + 3) ls st (m_up σ (m_cl q) j v)) : J M Q pc ls (.inl v :: .inr q :: st) σ := by
  intro p l e R s m args below meth c ad D cI cS A cells slots QM X H locs lsA hP hS hL
  obtain ⟨C, T, N, ty0, h1, h2, h3, h4, h5, h6, h7, h8⟩ := hF
  obtain ⟨g1, g2⟩ := m_cell_o (ad := ad) (cI := cI) (cS := cS) (σ := σ) hc
  obtain ⟨-, g3⟩ := m_cell_o (ad := ad) (cI := cI) (cS := cS) (σ := m_up σ (m_cl q) j v) hc
  refine va_put (D := D) X.1 X.2.1 X.2.2.2.2.1 h2 ty0 h5 h6 (own := own) (by rw [ho]; exact X.2.2.2.1) X.2.2.2.2.2.2.1 hP (X.2.2.2.2.2.2.2.2.1.D cI cS σ) hS (m_cl q) (by rw [m_ws_at g1, g2]) h1 j h3 (X.2.2.2.2.1 _ h4) (fun _ h => h) h7 h8 hn hf (by rw [List.length_map, List.length_range]; exact Nat.le_of_ble_eq_true hj) d (fun H1 locs1 hP1 _ hS1 => ?_)
  rw [show m_v ad (Sum.inl v) = Value.int v from rfl, m_fs_set hr, ← g3, m_ws_set g1 (m_up_o)] at hP1
  exact k _ _ _ _ _ _ _ _ _ _ _ _ _ _ _ _ _ _ X _ _ _ hP1 hS1 hL
/-- a method's start, its end, its contract -/
def m_pre (ad : Nat → Nat) (D : va_G) (cI cS : ClassId) (σ : mS) (sz : Nat) (U : State) : Prop := U.heap.size = sz ∧ va_P D vwCl (m_ws ad cI cS σ) U.heap ∧ va_K D vwCl (m_ty cI cS) U ∧ m_N U ∧ m_A ad (fun _ => True)
def m_post (ad : Nat → Nat) (D : va_G) (cI cS : ClassId) (σ : mS) (sz : Nat) (Q : Option mV → mS → Prop) : Array Value → State → Outcome → State → Prop := fun _ st oc t => ∃ (r : Option mV) (τ : mS), oc = .returned (r.map (m_v ad)) ∧ Q r τ ∧ va_P D vwCl (m_ws ad cI cS τ) t.heap ∧ va_F (va_A (m_ws ad cI cS σ) sz) st t
abbrev m_rm (M : mM) : Room := { frames := M.2.2.2.1, cells := 0, slots := 0, locals := mK * M.2.2.2.1 }
def MU (M : mM) (as : List mV) (σ : mS) (Q : Option mV → mS → Prop) : Prop := ∀ (l : Launch) (ad : Nat → Nat) (D : va_G) (cI cS : ClassId) (sz : Nat), Met l M.1 (Cond.code M.1 M.2.1 M.2.2.1 M.2.2.2.2 :: TB) (m_rm M) (va_Pc (as.map (m_v ad)) (m_pre ad D cI cS σ sz)) (m_post ad D cI cS σ sz Q) 0 0 (va_A (m_ws ad cI cS σ) sz)
theorem m_sl (ad : Nat → Nat) (as : List mV) : lg_sl (as.map (m_v ad)) = (as.map (m_v ad)).map Slot.val := by
  induction as with
  | nil => rfl
  | cons a t ih =>
    show lg_sl (m_v ad a :: t.map (m_v ad)) = Slot.val (m_v ad a) :: (t.map (m_v ad)).map Slot.val
    rw [← ih]
    unfold lg_sl
    rw [List.flatMap_cons, if_neg (by rw [m_cat]; decide)]
    rfl
theorem m_args (ad : Nat → Nat) (as : List mV) : ∀ (n i : Nat) (v : mV), as[i]? = some v → (n + i, m_v ad v) ∈ lv_args n (as.map (m_v ad)) := by
  induction as with
  | nil => intro n i v h; simp at h
  | cons a t ih =>
    intro n i v h
    show _ ∈ (n, m_v ad a) :: lv_args (if (m_v ad a).category = 2 then n + 2 else n + 1) (t.map (m_v ad))
    rw [if_neg (by rw [m_cat]; decide)]
    cases i with
    | zero => simp at h; subst h; exact List.mem_cons_self
    | succ i =>
      rw [List.getElem?_cons_succ] at h
      have h2 := ih (n + 1) i v h
      rw [show n + (i + 1) = n + 1 + i by omega]
      exact List.mem_cons_of_mem _ h2
theorem MU_of {M : mM} {as : List mV} {σ : mS} {Q : Option mV → mS → Prop} {ls : List (Option mV)} (hy : plainName M.1.cls = true) (hn : Nat.ble as.length M.2.2.1 = true) (hls : ls = as.map some ++ List.replicate (M.2.2.1 - as.length) none) (h : J M Q 0 ls [] σ) : MU M as σ Q := by
  intro l ad D cI cS sz
  refine Met.ofW (cc := M.2.1) (maxL := M.2.2.1) (ret := M.2.2.2.2) hy rfl ?_
  intro p e s m args below meth c s₁ B hml hv
  obtain ⟨rfl, hsz, hP, hK, hN, hA0⟩ := hv
  have hts := atoms_spec (ws := Cond.code M.1 M.2.1 M.2.2.1 M.2.2.2.2 :: TB) B.pre
  have hown : s.vm.findClass M.1.cls = some m.cls := findClass_of_methodNamed B.named
  subst hsz
  have hl := lv_entry (as.map (m_v ad)) (n := M.2.2.1) (by rw [m_sl]; simpa using Nat.le_of_ble_eq_true hn)
  rw [lg_entry_eq]
  refine h p l e _ s m _ below meth c ad D cI cS (va_A (m_ws ad cI cS σ) s.heap.size) 0 0 _ ⟨B.exec, B.bytes, hml, hown, fun w hw => hts w (List.mem_cons_of_mem _ hw), hN, hK, ⟨Nat.le_refl _, Nat.le_refl _, Nat.le_refl _, Nat.le_refl _⟩, ⟨hA0.1, fun k hk => m_A_iff.mpr (Or.inl ⟨k, hk, rfl⟩)⟩, fun q hq => m_A_iff.mpr (Or.inr hq), ?_⟩ _ _ _ hP va_S.rf ⟨_, hl, ?_⟩
  · intro r τ H locs lsA pc hQ hret hP1 hS1
    rcases r with _ | (x | q)
    · obtain ⟨d, hr⟩ := hret
      exact W.vret B.exec B.bytes (B.returns.trans hr) (fun t ht hW => ⟨none, τ, rfl, hQ, by rw [ht]; exact hP1, hS1.F ht⟩) hS1.2.2 d
    · obtain ⟨d, ty, hr, hn9⟩ := hret
      exact W.zret (v := x) B.exec B.bytes (B.returns.trans hr) hn9 (fun t ht hW => ⟨some (.inl x), τ, rfl, hQ, by rw [ht]; exact hP1, hS1.F ht⟩) hS1.2.2 d
    · obtain ⟨d, C, hr⟩ := hret
      exact W.aret (v := m_v ad (.inr q)) B.exec B.bytes (B.returns.trans hr) (Or.inl ⟨C, rfl⟩) (Or.inr ⟨_, rfl⟩) (fun t ht hW => ⟨some (.inr q), τ, rfl, hQ, by rw [ht]; exact hP1, hS1.F ht⟩) hS1.2.2 d
  · intro i v hi
    subst hls
    have h3 : as[i]? = some v := by
      rw [List.getElem?_append] at hi
      split at hi
      · rw [List.getElem?_map] at hi
        cases h4 : as[i]? with
        | none => rw [h4] at hi; cases hi
        | some w => rw [h4] at hi; cases hi; rfl
      · rw [List.getElem?_replicate] at hi
        split at hi <;> cases hi
    have h5 := m_args ad as 0 i v h3
    rwa [Nat.zero_add] at h5
theorem MU.mono {M : mM} {as : List mV} {σ : mS} {Q Q' : Option mV → mS → Prop} (h : MU M as σ Q) (hq : ∀ r τ, Q r τ → Q' r τ) : MU M as σ Q' := by
  intro l ad D cI cS sz
  have h1 := h l ad D cI cS sz
  intro p e ha hc hk s m args below hf happ hP hK
  obtain ⟨t, o, a1, a2, a3, ⟨r, τ, b1, b2, b3⟩, a4⟩ := h1 p e ha hc hk s m args below hf happ hP hK
  exact ⟨t, o, a1, a2, a3, ⟨r, τ, b1, hq r τ b2, b3⟩, a4⟩
theorem m_N.same {u U : State} (h : u.vm = U.vm) (hN : m_N u) : m_N U := fun w hw => va_Nw.same (NW_on w hw) h (hN w hw)
theorem m_blind {ad : Nat → Nat} {D : va_G} {cI cS : ClassId} {σ : mS} {sz : Nat} {av : List Value} : FrameBlind (va_Pc av (m_pre ad D cI cS σ sz)) := by
  intro a U g mk q
  obtain ⟨q0, q1, qP, qK, qN, qA⟩ := q
  exact ⟨q0, q1, qP, va_K.moved (u := U) (U := U.calling g mk a) (Vm.Alike.refl U.vm) qK, m_N.same (u := U) (U := U.calling g mk a) rfl qN, qA⟩
theorem m_good {w : Cond} (h : w ∈ TB) : GoodIn TB (w :: TB) := by
  intro v hv
  have h1 : v ∈ TB := by
    rcases List.mem_cons.mp hv with rfl | h2
    · exact h
    · exact h2
  exact ⟨h1, good_of_word (TB_good v h1)⟩
theorem m_sum (ad : Nat → Nat) (st : List mV) : ((st.map (m_v ad)).map fun v => v.category).sum = st.length := by
  induction st with
  | nil => rfl
  | cons a t ih => simp only [List.map_cons, List.sum_cons, List.length_cons, m_cat]; simp only [List.map_map] at ih ⊢; omega
/-- behind a call -/
theorem m_after {M : mM} {Q : Option mV → mS → Prop} {pc : Nat} {ls : List (Option mV)} {st : List mV} {σ : mS} {Q' : Option mV → mS → Prop} {p : Program} {l : Launch} {e : Env} {R : Room} {s : State} {m : MethodId} {args : Array Value} {below : List Frame} {meth : Method} {c : Code} {ad : Nat → Nat} {D : va_G} {cI cS : ClassId} {A : Nat → Prop} {cells slots : Nat} {QM : State → Prop} {H : Heap} {locs : List Loc} {lsA : Array Slot} {st0 : List Value} {a : Array Value}
    (X : mX M Q p l e R s m args below meth c ad D cI cS A cells slots QM) (hS : va_S A s.heap H locs) (hL : m_L ad M.2.2.1 ls lsA)
    (hr : va_Run p l e R s m args below meth c H locs cells slots 0 0 (F0 m pc lsA st0) (st.map (m_v ad)) (m_post ad D cI cS σ H.size Q' a) (va_A (m_ws ad cI cS σ) H.size))
    (k : ∀ r τ, Q' r τ → J M Q (pc + 3) ls (r.toList ++ st) τ) : W p l e R s m args below meth c H locs cells slots QM (F0 m pc lsA st0) := by
  have hfree : ∀ q, va_A (m_ws ad cI cS σ) H.size q → A q := by
    intro q hq
    rcases m_A_iff.mp hq with ⟨k, hk, rfl⟩ | h
    · exact X.2.2.2.2.2.2.2.2.1.2 k hk
    · exact X.2.2.2.2.2.2.2.2.2.1 q (Nat.le_trans hS.1 h)
  intro T hT X0
  obtain ⟨v, st₀, t, T', L, h0, X', hL', e1, e2, ⟨r, τ, hv, hq, hP1, hz, hk⟩, stp⟩ := hr T hT X0
  cases hv
  rw [h0] at hz hk
  have hS1 : va_S A s.heap T'.heap (locs ++ L) := ⟨Nat.le_trans hS.1 (by rw [e1]; exact hz), fun q h1 h2 => by rw [e1, hk q (Nat.lt_of_lt_of_le h1 hS.1) (fun z => h2 (hfree q z))]; exact hS.2.1 q h1 h2, fun q hq => by
    rcases List.mem_append.mp hq with h | h
    · exact hS.2.2 q h
    · exact hfree _ (hL' q h)⟩
  obtain ⟨t2, a1, b1⟩ := k r τ hq _ _ _ _ _ _ _ _ _ _ _ _ _ _ _ _ _ _ X T'.heap (locs ++ L) lsA (by rw [e1]; exact hP1) hS1 hL T' rfl X'
  refine ⟨t2, stp t2 ?_, b1⟩
  rcases r with _ | r <;> exact a1
/-- a callee's words -/
def m_MW (M' : mM) (n : Nat) : Prop := Cond.code M'.1 M'.2.1 M'.2.2.1 M'.2.2.2.2 ∈ TB ∧ Cond.initialized M'.1.cls ∈ TB ∧ (M'.1.cls ≠ "java/lang/invoke/MethodHandle" ∧ M'.1.cls ≠ "java/lang/invoke/VarHandle" ∧ (parseMethodDescriptor M'.1.desc).map (fun d => d.parameters.length) = some n) ∧ 19 + M'.2.2.1 ≤ mK
def m_MI (M' : mM) (n ci : Nat) : Prop := m_MW M' n ∧ Cond.instanceMethod M'.1 ∈ TB ∧ Cond.selects M'.1.cls M'.1 M'.1 ∈ TB ∧ ∃ (T : u_T) (N : Nat), vwCl[ci]? = some (M'.1.cls, T, N)
def m_MS (M' : mM) (n : Nat) : Prop := m_MW M' n ∧ Cond.static M'.1 ∈ TB
theorem m_rooms {M M' : mM} {R : Room} (hd : M'.2.2.2.1 + 1 ≤ M.2.2.2.1) (hk : 19 + M'.2.2.1 ≤ mK) (h1 : M.2.2.2.1 ≤ R.frames) (h2 : mK * M.2.2.2.1 ≤ R.locals) : (m_rm M').frames + 1 ≤ R.frames ∧ 8 + (M'.2.2.1 + 11) + (m_rm M').locals ≤ R.locals := by
  refine ⟨Nat.le_trans hd h1, ?_⟩
  have h3 : mK * (M'.2.2.2.1 + 1) ≤ mK * M.2.2.2.1 := Nat.mul_le_mul_left _ hd
  rw [Nat.mul_add, Nat.mul_one] at h3
  show 8 + (M'.2.2.1 + 11) + mK * M'.2.2.2.1 ≤ R.locals
  omega
theorem J_callV {M : mM} {Q : Option mV → mS → Prop} {pc : Nat} {ls : List (Option mV)} {st : List mV} {σ : mS} {M' : mM} {Q' : Option mV → mS → Prop} {q : Nat × Nat} {as : List mV} {index n ci : Nat} (hM : MU M' (.inr q :: as) σ Q') (hi : m_MI M' n ci) (hl : Cond.methodLink M.1.cls index M'.1 ∈ TB) (hc : o_ci (m_cl q) = some ci) (hn : as.length = n) (hd : M'.2.2.2.1 + 1 ≤ M.2.2.2.1) (hst : Nat.ble st.length 8 = true) (d : decode M.2.1 pc = .ok (.invokevirtual index, 3)) (k : ∀ r τ, Q' r τ → J M Q (pc + 3) ls (r.toList ++ st) τ) : J M Q pc ls (as.reverse ++ .inr q :: st) σ := by
  intro p l e R s m args below meth c ad D cI cS A cells slots QM X H locs lsA hP hS hL
  obtain ⟨x1, x2, x3, x4, x5, x6, x7, x8, x9, x10, x11⟩ := id X
  obtain ⟨L, l1, l2⟩ := id hL
  obtain ⟨c1, c2, c3, c4⟩ := hi.1
  have hR := m_rooms (R := R) hd c4 x8.1 x8.2.1
  have hc0 : cells + 0 ≤ R.cells ∧ slots + 0 ≤ R.slots := ⟨x8.2.2.1, x8.2.2.2⟩
  obtain ⟨T, N, hcl⟩ := hi.2.2.2
  obtain ⟨g1, g2⟩ := m_cell_o (ad := ad) (cI := cI) (cS := cS) (σ := σ) hc
  exact m_after X hS hL (va_runV (C := M'.1.cls) (As := as.map (m_v ad)) (rest := st.map (m_v ad)) (n := n) (own := M.1.cls) (Ts := TB) ⟨x1, x2, x3, x4, x5⟩ (hM l ad D cI cS H.size) ⟨callB_of n x5 (m_good c1) rfl rfl rfl (x5 _ c2) (x5 _ hl) c3 hR, x5 _ hi.2.1, x5 _ hi.2.2.1⟩ ⟨m_blind, va_recv x7 hP hcl (q0 := m_cl q) (by rw [m_ws_at g1, g2]), fun U hU hW => ⟨rfl, by rw [hU], by rw [hU]; exact hP, va_K.moved hW.alike x7, m_N.warm hW x6, ⟨x9.1, fun _ _ => trivial⟩⟩⟩ rfl (by simpa using hn) l1.1 (by show (as.reverse ++ .inr q :: st).map (m_v ad) = _; rw [List.map_append, List.map_reverse]; rfl) (lv_room (by rw [m_sum]; exact Nat.le_of_ble_eq_true hst)) d hc0) k
theorem J_callVN {M : mM} {Q : Option mV → mS → Prop} {pc : Nat} {ls : List (Option mV)} {st : List mV} {σ : mS} {M' : mM} {Q' : Option mV → mS → Prop} {q : Nat × Nat} {as : List mV} {index n ci : Nat} {host : String} (hM : MU M' (.inr q :: as) σ Q') (hi : m_MI M' n ci) (hl : Cond.methodLinkNest M.1.cls index M'.1 host ∈ NW) (hc : o_ci (m_cl q) = some ci) (hn : as.length = n) (hd : M'.2.2.2.1 + 1 ≤ M.2.2.2.1) (hst : Nat.ble st.length 8 = true) (d : decode M.2.1 pc = .ok (.invokevirtual index, 3)) (k : ∀ r τ, Q' r τ → J M Q (pc + 3) ls (r.toList ++ st) τ) : J M Q pc ls (as.reverse ++ .inr q :: st) σ := by
  intro p l e R s m args below meth c ad D cI cS A cells slots QM X H locs lsA hP hS hL
  obtain ⟨x1, x2, x3, x4, x5, x6, x7, x8, x9, x10, x11⟩ := id X
  obtain ⟨L, l1, l2⟩ := id hL
  obtain ⟨c1, c2, c3, c4⟩ := hi.1
  have hR := m_rooms (R := R) hd c4 x8.1 x8.2.1
  have hc0 : cells + 0 ≤ R.cells ∧ slots + 0 ≤ R.slots := ⟨x8.2.2.1, x8.2.2.2⟩
  obtain ⟨T, N, hcl⟩ := hi.2.2.2
  obtain ⟨g1, g2⟩ := m_cell_o (ad := ad) (cI := cI) (cS := cS) (σ := σ) hc
  exact m_after X hS hL (va_runVN (C := M'.1.cls) (host := host) (As := as.map (m_v ad)) (rest := st.map (m_v ad)) (n := n) (own := M.1.cls) (Ts := TB) ⟨x1, x2, x3, x4, x5⟩ (hM l ad D cI cS H.size) ⟨va_cnB n x5 (m_good c1) rfl rfl rfl (x6 _ hl) (x5 _ c2) c3 hR, x5 _ hi.2.1, x5 _ hi.2.2.1⟩ ⟨m_blind, va_recv x7 hP hcl (q0 := m_cl q) (by rw [m_ws_at g1, g2]), fun U hU hW => ⟨rfl, by rw [hU], by rw [hU]; exact hP, va_K.moved hW.alike x7, m_N.warm hW x6, ⟨x9.1, fun _ _ => trivial⟩⟩⟩ rfl (by simpa using hn) l1.1 (by show (as.reverse ++ .inr q :: st).map (m_v ad) = _; rw [List.map_append, List.map_reverse]; rfl) (lv_room (by rw [m_sum]; exact Nat.le_of_ble_eq_true hst)) d hc0) k
theorem J_callS {M : mM} {Q : Option mV → mS → Prop} {pc : Nat} {ls : List (Option mV)} {st : List mV} {σ : mS} {M' : mM} {Q' : Option mV → mS → Prop} {as : List mV} {index n : Nat} (hM : MU M' as σ Q') (hi : m_MS M' n) (hl : Cond.methodLink M.1.cls index M'.1 ∈ TB) (hn : as.length = n) (hd : M'.2.2.2.1 + 1 ≤ M.2.2.2.1) (hst : Nat.ble st.length 8 = true) (d : decode M.2.1 pc = .ok (.invokestatic index, 3)) (k : ∀ r τ, Q' r τ → J M Q (pc + 3) ls (r.toList ++ st) τ) : J M Q pc ls (as.reverse ++ st) σ := by
  intro p l e R s m args below meth c ad D cI cS A cells slots QM X H locs lsA hP hS hL
  obtain ⟨x1, x2, x3, x4, x5, x6, x7, x8, x9, x10, x11⟩ := id X
  obtain ⟨L, l1, l2⟩ := id hL
  obtain ⟨c1, c2, c3, c4⟩ := hi.1
  have hR := m_rooms (R := R) hd c4 x8.1 x8.2.1
  have hc0 : cells + 0 ≤ R.cells ∧ slots + 0 ≤ R.slots := ⟨x8.2.2.1, x8.2.2.2⟩
  exact m_after X hS hL (va_runS (As := as.map (m_v ad)) (rest := st.map (m_v ad)) (n := n) (own := M.1.cls) (Ts := TB) ⟨x1, x2, x3, x4, x5⟩ (hM l ad D cI cS H.size) ⟨callB_of n x5 (m_good c1) rfl rfl rfl (x5 _ c2) (x5 _ hl) c3 hR, x5 _ hi.2⟩ ⟨m_blind, fun U hU hW => ⟨rfl, by rw [hU], by rw [hU]; exact hP, va_K.moved hW.alike x7, m_N.warm hW x6, ⟨x9.1, fun _ _ => trivial⟩⟩⟩ rfl (by simpa using hn) l1.1 (by show (as.reverse ++ st).map (m_v ad) = _; rw [List.map_append, List.map_reverse]) (lv_room (by rw [m_sum]; exact Nat.le_of_ble_eq_true hst)) d hc0) k
theorem J_callSN {M : mM} {Q : Option mV → mS → Prop} {pc : Nat} {ls : List (Option mV)} {st : List mV} {σ : mS} {M' : mM} {Q' : Option mV → mS → Prop} {as : List mV} {index n : Nat} {host : String} (hM : MU M' as σ Q') (hi : m_MS M' n) (hl : Cond.methodLinkNest M.1.cls index M'.1 host ∈ NW) (hn : as.length = n) (hd : M'.2.2.2.1 + 1 ≤ M.2.2.2.1) (hst : Nat.ble st.length 8 = true) (d : decode M.2.1 pc = .ok (.invokestatic index, 3)) (k : ∀ r τ, Q' r τ → J M Q (pc + 3) ls (r.toList ++ st) τ) : J M Q pc ls (as.reverse ++ st) σ := by
  intro p l e R s m args below meth c ad D cI cS A cells slots QM X H locs lsA hP hS hL
  obtain ⟨x1, x2, x3, x4, x5, x6, x7, x8, x9, x10, x11⟩ := id X
  obtain ⟨L, l1, l2⟩ := id hL
  obtain ⟨c1, c2, c3, c4⟩ := hi.1
  have hR := m_rooms (R := R) hd c4 x8.1 x8.2.1
  have hc0 : cells + 0 ≤ R.cells ∧ slots + 0 ≤ R.slots := ⟨x8.2.2.1, x8.2.2.2⟩
  exact m_after X hS hL (va_runSN (host := host) (As := as.map (m_v ad)) (rest := st.map (m_v ad)) (n := n) (own := M.1.cls) (Ts := TB) ⟨x1, x2, x3, x4, x5⟩ (hM l ad D cI cS H.size) ⟨va_cnB n x5 (m_good c1) rfl rfl rfl (x6 _ hl) (x5 _ c2) c3 hR, x5 _ hi.2, trivial⟩ ⟨m_blind, fun U hU hW => ⟨rfl, by rw [hU], by rw [hU]; exact hP, va_K.moved hW.alike x7, m_N.warm hW x6, ⟨x9.1, fun _ _ => trivial⟩⟩⟩ rfl (by simpa using hn) l1.1 (by show (as.reverse ++ st).map (m_v ad) = _; rw [List.map_append, List.map_reverse]) (lv_room (by rw [m_sum]; exact Nat.le_of_ble_eq_true hst)) d hc0) k
end
section
/-! ROWS ON NUMBERS AND CONTRACTS (the first family is the kit's BITS.to-paste, pasted) -/
/-! ===== Int32 by its bits: bt x i ===== -/
def bt (x : Int32) (i : Nat) : Bool := x.toBitVec.getLsbD i
theorem b_ext {x y : Int32} (h : ∀ i, i < 32 → bt x i = bt y i) : x = y := Int32.toBitVec_inj.mp (BitVec.eq_of_getLsbD_eq (fun i hi => h i hi))
theorem b_or (x y : Int32) (i : Nat) : bt (x ||| y) i = (bt x i || bt y i) := by unfold bt; rw [Int32.toBitVec_or, BitVec.getLsbD_or]
theorem b_and (x y : Int32) (i : Nat) : bt (x &&& y) i = (bt x i && bt y i) := by unfold bt; rw [Int32.toBitVec_and, BitVec.getLsbD_and]
theorem b_xor (x y : Int32) (i : Nat) : bt (x ^^^ y) i = (bt x i ^^ bt y i) := by unfold bt; rw [Int32.toBitVec_xor, BitVec.getLsbD_xor]
theorem b_big {x : Int32} {i : Nat} (h : 32 ≤ i) : bt x i = false := BitVec.getLsbD_of_ge _ _ h
theorem b_255 (i : Nat) : bt 255 i = decide (i < 8) := by
  rcases Nat.lt_or_ge i 32 with h | h
  · exact (by decide +kernel : ∀ i, i < 32 → bt 255 i = decide (i < 8)) i h
  · rw [b_big h, decide_eq_false (by omega)]
theorem b_65535 (i : Nat) : bt 65535 i = decide (i < 16) := by
  rcases Nat.lt_or_ge i 32 with h | h
  · exact (by decide +kernel : ∀ i, i < 32 → bt 65535 i = decide (i < 16)) i h
  · rw [b_big h, decide_eq_false (by omega)]
theorem b_m1 : ∀ i, i < 32 → bt (-1) i = true := by decide +kernel
theorem b_0 (i : Nat) : bt 0 i = false := BitVec.getLsbD_zero
theorem s_l : ∀ n, n < 32 → ((nI n &&& 31).toBitVec.smod 32).toNat = n := by decide +kernel
theorem s_u : ∀ n, n < 32 → (((nI n).toUInt32 &&& Int32.toUInt32 31).toBitVec % 32).toNat = n := by decide +kernel
theorem b_shl (n : Nat) (hn : n < 32) (x : Int32) {i : Nat} (hi : i < 32) : bt (x <<< (nI n &&& 31)) i = (decide (n ≤ i) && bt x (i - n)) := by
  unfold bt
  rw [Int32.toBitVec_shiftLeft]
  show (x.toBitVec <<< ((nI n &&& 31).toBitVec.smod 32).toNat).getLsbD i = _
  rw [s_l n hn, BitVec.getLsbD_shiftLeft]
  rcases Nat.lt_or_ge i n with h | h
  · simp [h, Nat.not_le.mpr h]
  · simp [hi, h, Nat.not_lt.mpr h]
theorem b_ushr (n : Nat) (hn : n < 32) (x : Int32) (i : Nat) : bt ((x.toUInt32 >>> ((nI n).toUInt32 &&& Int32.toUInt32 31)).toInt32) i = bt x (n + i) := by
  show (x.toUInt32 >>> ((nI n).toUInt32 &&& Int32.toUInt32 31)).toBitVec.getLsbD i = x.toUInt32.toBitVec.getLsbD (n + i)
  rw [UInt32.toBitVec_shiftRight]
  show (x.toUInt32.toBitVec >>> (((nI n).toUInt32 &&& Int32.toUInt32 31).toBitVec % 32).toNat).getLsbD i = _
  rw [s_u n hn, BitVec.getLsbD_ushiftRight]
theorem b_sshr (n : Nat) (hn : n < 32) (x : Int32) {i : Nat} (hi : i < 32) : bt (x >>> (nI n &&& 31)) i = if n + i < 32 then bt x (n + i) else bt x 31 := by
  unfold bt
  rw [Int32.toBitVec_shiftRight]
  show (x.toBitVec.sshiftRight ((nI n &&& 31).toBitVec.smod 32).toNat).getLsbD i = _
  rw [s_l n hn, BitVec.getLsbD_sshiftRight, BitVec.msb_eq_getLsbD_last]
  simp [hi]
theorem b_shl8 (x : Int32) {i : Nat} (hi : i < 32) : bt (x <<< ((8 : Int32) &&& 31)) i = (decide (8 ≤ i) && bt x (i - 8)) := b_shl 8 (by omega) x hi
theorem b_shl16 (x : Int32) {i : Nat} (hi : i < 32) : bt (x <<< ((16 : Int32) &&& 31)) i = (decide (16 ≤ i) && bt x (i - 16)) := b_shl 16 (by omega) x hi
theorem b_shl24 (x : Int32) {i : Nat} (hi : i < 32) : bt (x <<< ((24 : Int32) &&& 31)) i = (decide (24 ≤ i) && bt x (i - 24)) := b_shl 24 (by omega) x hi
theorem b_sshr8 (x : Int32) {i : Nat} (hi : i < 32) : bt (x >>> ((8 : Int32) &&& 31)) i = if 8 + i < 32 then bt x (8 + i) else bt x 31 := b_sshr 8 (by omega) x hi
def bI (b : Bool) : Int32 := if b = true then 1 else 0
theorem bI_0 {b : Bool} : bI b = 0 ↔ b = false := by cases b <;> simp [bI]
theorem bI_n0 {b : Bool} : ¬ bI b = 0 ↔ b = true := by cases b <;> simp [bI]
theorem bI_01 (b : Bool) : bI b = 0 ∨ bI b = 1 := by cases b <;> simp [bI]
theorem bI_t : bI true = 1 := rfl
theorem bI_f : bI false = 0 := rfl
/-- 0 ≤ x < y -/
def rg (x y : Int32) : Bool := decide (¬ x < 0) && decide (¬ y ≤ x)
theorem rg_n {x : Int32} {n : Nat} (hn : n < 2 ^ 31) (h : rg x (nI n) = true) : ∃ j, j < n ∧ x = nI j := by
  simp only [rg, Bool.and_eq_true, decide_eq_true_eq] at h
  obtain ⟨j, hj, rfl⟩ := nI_of h.1
  refine ⟨j, ?_, rfl⟩
  rcases Nat.lt_or_ge j n with q | q
  · exact q
  · exact absurd (nI_le q hj) h.2
theorem rg_t {j n : Nat} (h : j < n) (hn : n < 2 ^ 31) : rg (nI j) (nI n) = true := by
  simp only [rg, Bool.and_eq_true, decide_eq_true_eq]
  exact ⟨nI_pos (by omega), nI_ge h hn⟩
theorem nI_inj {a b : Nat} (ha : a < 2 ^ 31) (hb : b < 2 ^ 31) (h : nI a = nI b) : a = b := (nI_eq ha hb).mp h
/-- a contract with one answer and one end -/
abbrev MR (M : mM) (as : List mV) (σ : mS) (r0 : Option mV) (τ0 : mS) : Prop := MU M as σ (fun r τ => r = r0 ∧ τ = τ0)
theorem MR.i {M : mM} {as : List mV} {σ τ0 : mS} {v : Int32} {P : Int32 → mS → Prop} (h : MR M as σ (some (.inl v)) τ0) (hp : P v τ0) : MU M as σ (fun r τ => ∃ x, r = some (.inl x) ∧ P x τ) := h.mono (fun r τ q => ⟨v, q.1, by rw [q.2]; exact hp⟩)
theorem MR.v {M : mM} {as : List mV} {σ τ0 : mS} {P : mS → Prop} (h : MR M as σ none τ0) (hp : P τ0) : MU M as σ (fun r τ => r = none ∧ P τ) := h.mono (fun r τ q => ⟨q.1, by rw [q.2]; exact hp⟩)
theorem MR.r {M : mM} {as : List mV} {σ τ0 : mS} {n : Nat} {P : Nat → mS → Prop} (h : MR M as σ (some (.inr (59, n))) τ0) (hp : P n τ0) : MU M as σ (fun r τ => ∃ x, r = some (.inr (59, x)) ∧ P x τ) := h.mono (fun r τ q => ⟨n, q.1, by rw [q.2]; exact hp⟩)
end
section
/-! LINKS, by program: fields, calls, constants -/
theorem wfO_12 : (Jvm.Cond.fieldLink "PointsToRounds" (12 : Nat) "PointsToRounds" "program" "LPointsToRounds$Program;") ∈ TB := TB1 (List.mem_of_getElem? (i := 225) (by decide +kernel)) rfl
theorem mfO_12 : m_F "PointsToRounds" 12 0 0 := ⟨RO, TO, 3, rfl, inO, by decide, wfO_12⟩
theorem gO_12 {M : mM} {Q : Option mV → mS → Prop} {pc : Nat} {ls : List (Option mV)} {st : List mV} {σ : mS} (hM : "PointsToRounds" = M.1.cls) (d : decode M.2.1 pc = .ok (.getfield 12, 3)) (k : J M Q (pc + 3) ls (.inr (1, 0) :: st) σ) : J M Q pc ls (.inr (0, 0) :: st) σ := J_getR mfO_12 hM rfl rfl rfl rfl d k
theorem wfO_21 : (Jvm.Cond.fieldLink "PointsToRounds" (21 : Nat) "PointsToRounds" "sets" "LPointsToRounds$Sets;") ∈ TB := TB1 (List.mem_of_getElem? (i := 226) (by decide +kernel)) rfl
theorem mfO_21 : m_F "PointsToRounds" 21 0 1 := ⟨RO, TO, 3, rfl, inO, by decide, wfO_21⟩
theorem gO_21 {M : mM} {Q : Option mV → mS → Prop} {pc : Nat} {ls : List (Option mV)} {st : List mV} {σ : mS} (hM : "PointsToRounds" = M.1.cls) (d : decode M.2.1 pc = .ok (.getfield 21, 3)) (k : J M Q (pc + 3) ls (.inr (2, 0) :: st) σ) : J M Q pc ls (.inr (0, 0) :: st) σ := J_getR mfO_21 hM rfl rfl rfl rfl d k
theorem wfO_30 : (Jvm.Cond.fieldLink "PointsToRounds" (30 : Nat) "PointsToRounds" "trial" "LPointsToRounds$Trial;") ∈ TB := TB1 (List.mem_of_getElem? (i := 227) (by decide +kernel)) rfl
theorem mfO_30 : m_F "PointsToRounds" 30 0 2 := ⟨RO, TO, 3, rfl, inO, by decide, wfO_30⟩
theorem gO_30 {M : mM} {Q : Option mV → mS → Prop} {pc : Nat} {ls : List (Option mV)} {st : List mV} {σ : mS} (hM : "PointsToRounds" = M.1.cls) (d : decode M.2.1 pc = .ok (.getfield 30, 3)) (k : J M Q (pc + 3) ls (.inr (3, 0) :: st) σ) : J M Q pc ls (.inr (0, 0) :: st) σ := J_getR mfO_30 hM rfl rfl rfl rfl d k
theorem wfO_38 : (Jvm.Cond.fieldLink "PointsToRounds" (38 : Nat) "PointsToRounds$Program" "classes" "I") ∈ TB := TB1 (List.mem_of_getElem? (i := 78) (by decide +kernel)) rfl
theorem mfO_38 : m_F "PointsToRounds" 38 1 0 := ⟨RP, TP, 15, rfl, inP, by decide, wfO_38⟩
theorem gO_38 {M : mM} {Q : Option mV → mS → Prop} {pc : Nat} {ls : List (Option mV)} {st : List mV} {σ : mS} (hM : "PointsToRounds" = M.1.cls) (d : decode M.2.1 pc = .ok (.getfield 38, 3)) (k : J M Q (pc + 3) ls (.inl (σ 1 0) :: st) σ) : J M Q pc ls (.inr (1, 0) :: st) σ := J_getI mfO_38 hM rfl rfl rfl d k
theorem wfO_49 : (Jvm.Cond.fieldLink "PointsToRounds" (49 : Nat) "PointsToRounds$Program" "fields" "I") ∈ TB := TB1 (List.mem_of_getElem? (i := 80) (by decide +kernel)) rfl
theorem mfO_49 : m_F "PointsToRounds" 49 1 1 := ⟨RP, TP, 15, rfl, inP, by decide, wfO_49⟩
theorem gO_49 {M : mM} {Q : Option mV → mS → Prop} {pc : Nat} {ls : List (Option mV)} {st : List mV} {σ : mS} (hM : "PointsToRounds" = M.1.cls) (d : decode M.2.1 pc = .ok (.getfield 49, 3)) (k : J M Q (pc + 3) ls (.inl (σ 1 1) :: st) σ) : J M Q pc ls (.inr (1, 0) :: st) σ := J_getI mfO_49 hM rfl rfl rfl d k
theorem wfO_62 : (Jvm.Cond.fieldLink "PointsToRounds" (62 : Nat) "PointsToRounds$Program" "methods" "I") ∈ TB := TB1 (List.mem_of_getElem? (i := 82) (by decide +kernel)) rfl
theorem mfO_62 : m_F "PointsToRounds" 62 1 2 := ⟨RP, TP, 15, rfl, inP, by decide, wfO_62⟩
theorem gO_62 {M : mM} {Q : Option mV → mS → Prop} {pc : Nat} {ls : List (Option mV)} {st : List mV} {σ : mS} (hM : "PointsToRounds" = M.1.cls) (d : decode M.2.1 pc = .ok (.getfield 62, 3)) (k : J M Q (pc + 3) ls (.inl (σ 1 2) :: st) σ) : J M Q pc ls (.inr (1, 0) :: st) σ := J_getI mfO_62 hM rfl rfl rfl d k
theorem wfO_91 : (Jvm.Cond.fieldLink "PointsToRounds" (91 : Nat) "PointsToRounds$Sets" "perReceiver" "Z") ∈ TB := TB1 (List.mem_of_getElem? (i := 152) (by decide +kernel)) rfl
theorem mfO_91 : m_F "PointsToRounds" 91 2 8 := ⟨RS, TS, 9, rfl, inS, by decide, wfO_91⟩
theorem gO_91 {M : mM} {Q : Option mV → mS → Prop} {pc : Nat} {ls : List (Option mV)} {st : List mV} {σ : mS} (hM : "PointsToRounds" = M.1.cls) (d : decode M.2.1 pc = .ok (.getfield 91, 3)) (k : J M Q (pc + 3) ls (.inl (σ 2 8) :: st) σ) : J M Q pc ls (.inr (2, 0) :: st) σ := J_getI mfO_91 hM rfl rfl rfl d k
theorem mfwO_91 : m_Fw "PointsToRounds" 91 2 8 .boolean := ⟨RS, TS, 9, tyS, rfl, inS, by decide, wfO_91, tyS_ok, nmS, rfl, by decide +kernel⟩
theorem pO_91 {M : mM} {Q : Option mV → mS → Prop} {pc : Nat} {ls : List (Option mV)} {st : List mV} {σ : mS} {v : Int32} (hM : "PointsToRounds" = M.1.cls) (hz : v = 0 ∨ v = 1) (d : decode M.2.1 pc = .ok (.putfield 91, 3)) (k : J M Q (pc + 3) ls st (m_up σ 2 8 v)) : J M Q pc ls (.inl v :: .inr (2, 0) :: st) σ := J_putI mfwO_91 hM (by rcases hz with rfl | rfl <;> decide) (by rcases hz with rfl | rfl <;> decide) rfl rfl rfl d k
theorem wfO_95 : (Jvm.Cond.fieldLink "PointsToRounds" (95 : Nat) "PointsToRounds$Program" "statements" "I") ∈ TB := TB1 (List.mem_of_getElem? (i := 85) (by decide +kernel)) rfl
theorem mfO_95 : m_F "PointsToRounds" 95 1 3 := ⟨RP, TP, 15, rfl, inP, by decide, wfO_95⟩
theorem gO_95 {M : mM} {Q : Option mV → mS → Prop} {pc : Nat} {ls : List (Option mV)} {st : List mV} {σ : mS} (hM : "PointsToRounds" = M.1.cls) (d : decode M.2.1 pc = .ok (.getfield 95, 3)) (k : J M Q (pc + 3) ls (.inl (σ 1 3) :: st) σ) : J M Q pc ls (.inr (1, 0) :: st) σ := J_getI mfO_95 hM rfl rfl rfl d k
theorem wfO_140 : (Jvm.Cond.fieldLink "PointsToRounds" (140 : Nat) "PointsToRounds$Program" "numbered" "[LPointsToRounds$Statement;") ∈ TB := TB1 (List.mem_of_getElem? (i := 99) (by decide +kernel)) rfl
theorem mfO_140 : m_F "PointsToRounds" 140 1 12 := ⟨RP, TP, 15, rfl, inP, by decide, wfO_140⟩
theorem gO_140 {M : mM} {Q : Option mV → mS → Prop} {pc : Nat} {ls : List (Option mV)} {st : List mV} {σ : mS} (hM : "PointsToRounds" = M.1.cls) (d : decode M.2.1 pc = .ok (.getfield 140, 3)) (k : J M Q (pc + 3) ls (.inr (24, 0) :: st) σ) : J M Q pc ls (.inr (1, 0) :: st) σ := J_getR mfO_140 hM rfl rfl rfl rfl d k
theorem wfO_144 : (Jvm.Cond.fieldLink "PointsToRounds" (144 : Nat) "PointsToRounds$Statement" "kind" "I") ∈ TB := TB1 (List.mem_of_getElem? (i := 39) (by decide +kernel)) rfl
theorem mfO_144 : m_F "PointsToRounds" 144 4 2 := ⟨RG, TG, 8, rfl, inG, by decide, wfO_144⟩
theorem gO_144 {M : mM} {Q : Option mV → mS → Prop} {pc : Nat} {ls : List (Option mV)} {st : List mV} {σ : mS} {n : Nat} (hM : "PointsToRounds" = M.1.cls) (d : decode M.2.1 pc = .ok (.getfield 144, 3)) (k : J M Q (pc + 3) ls (.inl (σ (59 + n % 60) 2) :: st) σ) : J M Q pc ls (.inr (59, n) :: st) σ := J_getI mfO_144 hM (o_ci_st n) (by rw [o_n_st]; rfl) (o_r_st n 2) d (by rw [m_cl_st]; exact k)
theorem wfO_147 : (Jvm.Cond.fieldLink "PointsToRounds" (147 : Nat) "PointsToRounds$Statement" "method" "I") ∈ TB := TB1 (List.mem_of_getElem? (i := 31) (by decide +kernel)) rfl
theorem mfO_147 : m_F "PointsToRounds" 147 4 0 := ⟨RG, TG, 8, rfl, inG, by decide, wfO_147⟩
theorem gO_147 {M : mM} {Q : Option mV → mS → Prop} {pc : Nat} {ls : List (Option mV)} {st : List mV} {σ : mS} {n : Nat} (hM : "PointsToRounds" = M.1.cls) (d : decode M.2.1 pc = .ok (.getfield 147, 3)) (k : J M Q (pc + 3) ls (.inl (σ (59 + n % 60) 0) :: st) σ) : J M Q pc ls (.inr (59, n) :: st) σ := J_getI mfO_147 hM (o_ci_st n) (by rw [o_n_st]; rfl) (o_r_st n 0) d (by rw [m_cl_st]; exact k)
theorem wfO_150 : (Jvm.Cond.fieldLink "PointsToRounds" (150 : Nat) "PointsToRounds$Statement" "q" "I") ∈ TB := TB1 (List.mem_of_getElem? (i := 47) (by decide +kernel)) rfl
theorem mfO_150 : m_F "PointsToRounds" 150 4 4 := ⟨RG, TG, 8, rfl, inG, by decide, wfO_150⟩
theorem gO_150 {M : mM} {Q : Option mV → mS → Prop} {pc : Nat} {ls : List (Option mV)} {st : List mV} {σ : mS} {n : Nat} (hM : "PointsToRounds" = M.1.cls) (d : decode M.2.1 pc = .ok (.getfield 150, 3)) (k : J M Q (pc + 3) ls (.inl (σ (59 + n % 60) 4) :: st) σ) : J M Q pc ls (.inr (59, n) :: st) σ := J_getI mfO_150 hM (o_ci_st n) (by rw [o_n_st]; rfl) (o_r_st n 4) d (by rw [m_cl_st]; exact k)
theorem wfO_153 : (Jvm.Cond.fieldLink "PointsToRounds" (153 : Nat) "PointsToRounds$Statement" "\u0072" "I") ∈ TB := TB1 (List.mem_of_getElem? (i := 52) (by decide +kernel)) rfl
theorem mfO_153 : m_F "PointsToRounds" 153 4 5 := ⟨RG, TG, 8, rfl, inG, by decide, wfO_153⟩
theorem gO_153 {M : mM} {Q : Option mV → mS → Prop} {pc : Nat} {ls : List (Option mV)} {st : List mV} {σ : mS} {n : Nat} (hM : "PointsToRounds" = M.1.cls) (d : decode M.2.1 pc = .ok (.getfield 153, 3)) (k : J M Q (pc + 3) ls (.inl (σ (59 + n % 60) 5) :: st) σ) : J M Q pc ls (.inr (59, n) :: st) σ := J_getI mfO_153 hM (o_ci_st n) (by rw [o_n_st]; rfl) (o_r_st n 5) d (by rw [m_cl_st]; exact k)
theorem wfO_159 : (Jvm.Cond.fieldLink "PointsToRounds" (159 : Nat) "PointsToRounds$Program" "sitesUnder" "[I") ∈ TB := TB1 (List.mem_of_getElem? (i := 93) (by decide +kernel)) rfl
theorem mfO_159 : m_F "PointsToRounds" 159 1 7 := ⟨RP, TP, 15, rfl, inP, by decide, wfO_159⟩
theorem gO_159 {M : mM} {Q : Option mV → mS → Prop} {pc : Nat} {ls : List (Option mV)} {st : List mV} {σ : mS} (hM : "PointsToRounds" = M.1.cls) (d : decode M.2.1 pc = .ok (.getfield 159, 3)) (k : J M Q (pc + 3) ls (.inr (6, 0) :: st) σ) : J M Q pc ls (.inr (1, 0) :: st) σ := J_getR mfO_159 hM rfl rfl rfl rfl d k
theorem wfO_163 : (Jvm.Cond.fieldLink "PointsToRounds" (163 : Nat) "PointsToRounds$Sets" "last" "I") ∈ TB := TB1 (List.mem_of_getElem? (i := 148) (by decide +kernel)) rfl
theorem mfO_163 : m_F "PointsToRounds" 163 2 6 := ⟨RS, TS, 9, rfl, inS, by decide, wfO_163⟩
theorem gO_163 {M : mM} {Q : Option mV → mS → Prop} {pc : Nat} {ls : List (Option mV)} {st : List mV} {σ : mS} (hM : "PointsToRounds" = M.1.cls) (d : decode M.2.1 pc = .ok (.getfield 163, 3)) (k : J M Q (pc + 3) ls (.inl (σ 2 6) :: st) σ) : J M Q pc ls (.inr (2, 0) :: st) σ := J_getI mfO_163 hM rfl rfl rfl d k
theorem wfO_173 : (Jvm.Cond.fieldLink "PointsToRounds" (173 : Nat) "PointsToRounds$Trial" "metSites" "[I") ∈ TB := TB1 (List.mem_of_getElem? (i := 188) (by decide +kernel)) rfl
theorem mfO_173 : m_F "PointsToRounds" 173 3 9 := ⟨RT, TT, 14, rfl, inT, by decide, wfO_173⟩
theorem gO_173 {M : mM} {Q : Option mV → mS → Prop} {pc : Nat} {ls : List (Option mV)} {st : List mV} {σ : mS} (hM : "PointsToRounds" = M.1.cls) (d : decode M.2.1 pc = .ok (.getfield 173, 3)) (k : J M Q (pc + 3) ls (.inr (23, 0) :: st) σ) : J M Q pc ls (.inr (3, 0) :: st) σ := J_getR mfO_173 hM rfl rfl rfl rfl d k
theorem wfO_176 : (Jvm.Cond.fieldLink "PointsToRounds" (176 : Nat) "PointsToRounds$Trial" "objects" "I") ∈ TB := TB1 (List.mem_of_getElem? (i := 191) (by decide +kernel)) rfl
theorem mfO_176 : m_F "PointsToRounds" 176 3 11 := ⟨RT, TT, 14, rfl, inT, by decide, wfO_176⟩
theorem gO_176 {M : mM} {Q : Option mV → mS → Prop} {pc : Nat} {ls : List (Option mV)} {st : List mV} {σ : mS} (hM : "PointsToRounds" = M.1.cls) (d : decode M.2.1 pc = .ok (.getfield 176, 3)) (k : J M Q (pc + 3) ls (.inl (σ 3 11) :: st) σ) : J M Q pc ls (.inr (3, 0) :: st) σ := J_getI mfO_176 hM rfl rfl rfl d k
theorem wfO_179 : (Jvm.Cond.fieldLink "PointsToRounds" (179 : Nat) "PointsToRounds$Trial" "frames" "I") ∈ TB := TB1 (List.mem_of_getElem? (i := 193) (by decide +kernel)) rfl
theorem mfO_179 : m_F "PointsToRounds" 179 3 12 := ⟨RT, TT, 14, rfl, inT, by decide, wfO_179⟩
theorem gO_179 {M : mM} {Q : Option mV → mS → Prop} {pc : Nat} {ls : List (Option mV)} {st : List mV} {σ : mS} (hM : "PointsToRounds" = M.1.cls) (d : decode M.2.1 pc = .ok (.getfield 179, 3)) (k : J M Q (pc + 3) ls (.inl (σ 3 12) :: st) σ) : J M Q pc ls (.inr (3, 0) :: st) σ := J_getI mfO_179 hM rfl rfl rfl d k
theorem wfO_182 : (Jvm.Cond.fieldLink "PointsToRounds" (182 : Nat) "PointsToRounds$Trial" "calls" "I") ∈ TB := TB1 (List.mem_of_getElem? (i := 195) (by decide +kernel)) rfl
theorem mfO_182 : m_F "PointsToRounds" 182 3 13 := ⟨RT, TT, 14, rfl, inT, by decide, wfO_182⟩
theorem gO_182 {M : mM} {Q : Option mV → mS → Prop} {pc : Nat} {ls : List (Option mV)} {st : List mV} {σ : mS} (hM : "PointsToRounds" = M.1.cls) (d : decode M.2.1 pc = .ok (.getfield 182, 3)) (k : J M Q (pc + 3) ls (.inl (σ 3 13) :: st) σ) : J M Q pc ls (.inr (3, 0) :: st) σ := J_getI mfO_182 hM rfl rfl rfl d k
theorem wfO_185 : (Jvm.Cond.fieldLink "PointsToRounds" (185 : Nat) "PointsToRounds$Sets" "settled" "Z") ∈ TB := TB1 (List.mem_of_getElem? (i := 150) (by decide +kernel)) rfl
theorem mfwO_185 : m_Fw "PointsToRounds" 185 2 7 .boolean := ⟨RS, TS, 9, tyS, rfl, inS, by decide, wfO_185, tyS_ok, nmS, rfl, by decide +kernel⟩
theorem pO_185 {M : mM} {Q : Option mV → mS → Prop} {pc : Nat} {ls : List (Option mV)} {st : List mV} {σ : mS} {v : Int32} (hM : "PointsToRounds" = M.1.cls) (hz : v = 0 ∨ v = 1) (d : decode M.2.1 pc = .ok (.putfield 185, 3)) (k : J M Q (pc + 3) ls st (m_up σ 2 7 v)) : J M Q pc ls (.inl v :: .inr (2, 0) :: st) σ := J_putI mfwO_185 hM (by rcases hz with rfl | rfl <;> decide) (by rcases hz with rfl | rfl <;> decide) rfl rfl rfl d k
theorem wfP_9 : (Jvm.Cond.fieldLink "PointsToRounds$Program" (9 : Nat) "PointsToRounds$Program" "parent" "[I") ∈ TB := TB1 (List.mem_of_getElem? (i := 88) (by decide +kernel)) rfl
theorem mfP_9 : m_F "PointsToRounds$Program" 9 1 5 := ⟨RP, TP, 15, rfl, inP, by decide, wfP_9⟩
theorem gP_9 {M : mM} {Q : Option mV → mS → Prop} {pc : Nat} {ls : List (Option mV)} {st : List mV} {σ : mS} (hM : "PointsToRounds$Program" = M.1.cls) (d : decode M.2.1 pc = .ok (.getfield 9, 3)) (k : J M Q (pc + 3) ls (.inr (4, 0) :: st) σ) : J M Q pc ls (.inr (1, 0) :: st) σ := J_getR mfP_9 hM rfl rfl rfl rfl d k
theorem wfP_15 : (Jvm.Cond.fieldLink "PointsToRounds$Program" (15 : Nat) "PointsToRounds$Program" "above" "[I") ∈ TB := TB1 (List.mem_of_getElem? (i := 89) (by decide +kernel)) rfl
theorem mfP_15 : m_F "PointsToRounds$Program" 15 1 6 := ⟨RP, TP, 15, rfl, inP, by decide, wfP_15⟩
theorem gP_15 {M : mM} {Q : Option mV → mS → Prop} {pc : Nat} {ls : List (Option mV)} {st : List mV} {σ : mS} (hM : "PointsToRounds$Program" = M.1.cls) (d : decode M.2.1 pc = .ok (.getfield 15, 3)) (k : J M Q (pc + 3) ls (.inr (5, 0) :: st) σ) : J M Q pc ls (.inr (1, 0) :: st) σ := J_getR mfP_15 hM rfl rfl rfl rfl d k
theorem wfP_18 : (Jvm.Cond.fieldLink "PointsToRounds$Program" (18 : Nat) "PointsToRounds$Program" "sitesUnder" "[I") ∈ TB := TB1 (List.mem_of_getElem? (i := 90) (by decide +kernel)) rfl
theorem mfP_18 : m_F "PointsToRounds$Program" 18 1 7 := ⟨RP, TP, 15, rfl, inP, by decide, wfP_18⟩
theorem gP_18 {M : mM} {Q : Option mV → mS → Prop} {pc : Nat} {ls : List (Option mV)} {st : List mV} {σ : mS} (hM : "PointsToRounds$Program" = M.1.cls) (d : decode M.2.1 pc = .ok (.getfield 18, 3)) (k : J M Q (pc + 3) ls (.inr (6, 0) :: st) σ) : J M Q pc ls (.inr (1, 0) :: st) σ := J_getR mfP_18 hM rfl rfl rfl rfl d k
theorem wfP_21 : (Jvm.Cond.fieldLink "PointsToRounds$Program" (21 : Nat) "PointsToRounds$Program" "own" "[I") ∈ TB := TB1 (List.mem_of_getElem? (i := 94) (by decide +kernel)) rfl
theorem mfP_21 : m_F "PointsToRounds$Program" 21 1 8 := ⟨RP, TP, 15, rfl, inP, by decide, wfP_21⟩
theorem gP_21 {M : mM} {Q : Option mV → mS → Prop} {pc : Nat} {ls : List (Option mV)} {st : List mV} {σ : mS} (hM : "PointsToRounds$Program" = M.1.cls) (d : decode M.2.1 pc = .ok (.getfield 21, 3)) (k : J M Q (pc + 3) ls (.inr (7, 0) :: st) σ) : J M Q pc ls (.inr (1, 0) :: st) σ := J_getR mfP_21 hM rfl rfl rfl rfl d k
theorem wfP_24 : (Jvm.Cond.fieldLink "PointsToRounds$Program" (24 : Nat) "PointsToRounds$Program" "found" "[I") ∈ TB := TB1 (List.mem_of_getElem? (i := 95) (by decide +kernel)) rfl
theorem mfP_24 : m_F "PointsToRounds$Program" 24 1 9 := ⟨RP, TP, 15, rfl, inP, by decide, wfP_24⟩
theorem gP_24 {M : mM} {Q : Option mV → mS → Prop} {pc : Nat} {ls : List (Option mV)} {st : List mV} {σ : mS} (hM : "PointsToRounds$Program" = M.1.cls) (d : decode M.2.1 pc = .ok (.getfield 24, 3)) (k : J M Q (pc + 3) ls (.inr (8, 0) :: st) σ) : J M Q pc ls (.inr (1, 0) :: st) σ := J_getR mfP_24 hM rfl rfl rfl rfl d k
theorem wfP_27 : (Jvm.Cond.fieldLink "PointsToRounds$Program" (27 : Nat) "PointsToRounds$Program" "fieldClass" "[I") ∈ TB := TB1 (List.mem_of_getElem? (i := 96) (by decide +kernel)) rfl
theorem mfP_27 : m_F "PointsToRounds$Program" 27 1 10 := ⟨RP, TP, 15, rfl, inP, by decide, wfP_27⟩
theorem gP_27 {M : mM} {Q : Option mV → mS → Prop} {pc : Nat} {ls : List (Option mV)} {st : List mV} {σ : mS} (hM : "PointsToRounds$Program" = M.1.cls) (d : decode M.2.1 pc = .ok (.getfield 27, 3)) (k : J M Q (pc + 3) ls (.inr (9, 0) :: st) σ) : J M Q pc ls (.inr (1, 0) :: st) σ := J_getR mfP_27 hM rfl rfl rfl rfl d k
theorem wfP_30 : (Jvm.Cond.fieldLink "PointsToRounds$Program" (30 : Nat) "PointsToRounds$Program" "siteClass" "[I") ∈ TB := TB1 (List.mem_of_getElem? (i := 97) (by decide +kernel)) rfl
theorem mfP_30 : m_F "PointsToRounds$Program" 30 1 11 := ⟨RP, TP, 15, rfl, inP, by decide, wfP_30⟩
theorem gP_30 {M : mM} {Q : Option mV → mS → Prop} {pc : Nat} {ls : List (Option mV)} {st : List mV} {σ : mS} (hM : "PointsToRounds$Program" = M.1.cls) (d : decode M.2.1 pc = .ok (.getfield 30, 3)) (k : J M Q (pc + 3) ls (.inr (10, 0) :: st) σ) : J M Q pc ls (.inr (1, 0) :: st) σ := J_getR mfP_30 hM rfl rfl rfl rfl d k
theorem wfP_35 : (Jvm.Cond.fieldLink "PointsToRounds$Program" (35 : Nat) "PointsToRounds$Program" "numbered" "[LPointsToRounds$Statement;") ∈ TB := TB1 (List.mem_of_getElem? (i := 98) (by decide +kernel)) rfl
theorem mfP_35 : m_F "PointsToRounds$Program" 35 1 12 := ⟨RP, TP, 15, rfl, inP, by decide, wfP_35⟩
theorem gP_35 {M : mM} {Q : Option mV → mS → Prop} {pc : Nat} {ls : List (Option mV)} {st : List mV} {σ : mS} (hM : "PointsToRounds$Program" = M.1.cls) (d : decode M.2.1 pc = .ok (.getfield 35, 3)) (k : J M Q (pc + 3) ls (.inr (24, 0) :: st) σ) : J M Q pc ls (.inr (1, 0) :: st) σ := J_getR mfP_35 hM rfl rfl rfl rfl d k
theorem wfP_39 : (Jvm.Cond.fieldLink "PointsToRounds$Program" (39 : Nat) "PointsToRounds$Program" "length" "[I") ∈ TB := TB1 (List.mem_of_getElem? (i := 100) (by decide +kernel)) rfl
theorem mfP_39 : m_F "PointsToRounds$Program" 39 1 13 := ⟨RP, TP, 15, rfl, inP, by decide, wfP_39⟩
theorem gP_39 {M : mM} {Q : Option mV → mS → Prop} {pc : Nat} {ls : List (Option mV)} {st : List mV} {σ : mS} (hM : "PointsToRounds$Program" = M.1.cls) (d : decode M.2.1 pc = .ok (.getfield 39, 3)) (k : J M Q (pc + 3) ls (.inr (11, 0) :: st) σ) : J M Q pc ls (.inr (1, 0) :: st) σ := J_getR mfP_39 hM rfl rfl rfl rfl d k
theorem wfP_42 : (Jvm.Cond.fieldLink "PointsToRounds$Program" (42 : Nat) "PointsToRounds$Program" "order" "[I") ∈ TB := TB1 (List.mem_of_getElem? (i := 103) (by decide +kernel)) rfl
theorem mfP_42 : m_F "PointsToRounds$Program" 42 1 14 := ⟨RP, TP, 15, rfl, inP, by decide, wfP_42⟩
theorem gP_42 {M : mM} {Q : Option mV → mS → Prop} {pc : Nat} {ls : List (Option mV)} {st : List mV} {σ : mS} (hM : "PointsToRounds$Program" = M.1.cls) (d : decode M.2.1 pc = .ok (.getfield 42, 3)) (k : J M Q (pc + 3) ls (.inr (12, 0) :: st) σ) : J M Q pc ls (.inr (1, 0) :: st) σ := J_getR mfP_42 hM rfl rfl rfl rfl d k
theorem wfP_46 : (Jvm.Cond.fieldLink "PointsToRounds$Program" (46 : Nat) "PointsToRounds$Program" "classes" "I") ∈ TB := TB1 (List.mem_of_getElem? (i := 77) (by decide +kernel)) rfl
theorem mfP_46 : m_F "PointsToRounds$Program" 46 1 0 := ⟨RP, TP, 15, rfl, inP, by decide, wfP_46⟩
theorem gP_46 {M : mM} {Q : Option mV → mS → Prop} {pc : Nat} {ls : List (Option mV)} {st : List mV} {σ : mS} (hM : "PointsToRounds$Program" = M.1.cls) (d : decode M.2.1 pc = .ok (.getfield 46, 3)) (k : J M Q (pc + 3) ls (.inl (σ 1 0) :: st) σ) : J M Q pc ls (.inr (1, 0) :: st) σ := J_getI mfP_46 hM rfl rfl rfl d k
theorem mfwP_46 : m_Fw "PointsToRounds$Program" 46 1 0 .int := ⟨RP, TP, 15, tyP, rfl, inP, by decide, wfP_46, tyP_ok, nmP, rfl, by decide +kernel⟩
theorem pP_46 {M : mM} {Q : Option mV → mS → Prop} {pc : Nat} {ls : List (Option mV)} {st : List mV} {σ : mS} {v : Int32} (hM : "PointsToRounds$Program" = M.1.cls) (d : decode M.2.1 pc = .ok (.putfield 46, 3)) (k : J M Q (pc + 3) ls st (m_up σ 1 0 v)) : J M Q pc ls (.inl v :: .inr (1, 0) :: st) σ := J_putI mfwP_46 hM rfl rfl rfl rfl rfl d k
theorem wfP_50 : (Jvm.Cond.fieldLink "PointsToRounds$Program" (50 : Nat) "PointsToRounds$Program" "fields" "I") ∈ TB := TB1 (List.mem_of_getElem? (i := 79) (by decide +kernel)) rfl
theorem mfP_50 : m_F "PointsToRounds$Program" 50 1 1 := ⟨RP, TP, 15, rfl, inP, by decide, wfP_50⟩
theorem gP_50 {M : mM} {Q : Option mV → mS → Prop} {pc : Nat} {ls : List (Option mV)} {st : List mV} {σ : mS} (hM : "PointsToRounds$Program" = M.1.cls) (d : decode M.2.1 pc = .ok (.getfield 50, 3)) (k : J M Q (pc + 3) ls (.inl (σ 1 1) :: st) σ) : J M Q pc ls (.inr (1, 0) :: st) σ := J_getI mfP_50 hM rfl rfl rfl d k
theorem mfwP_50 : m_Fw "PointsToRounds$Program" 50 1 1 .int := ⟨RP, TP, 15, tyP, rfl, inP, by decide, wfP_50, tyP_ok, nmP, rfl, by decide +kernel⟩
theorem pP_50 {M : mM} {Q : Option mV → mS → Prop} {pc : Nat} {ls : List (Option mV)} {st : List mV} {σ : mS} {v : Int32} (hM : "PointsToRounds$Program" = M.1.cls) (d : decode M.2.1 pc = .ok (.putfield 50, 3)) (k : J M Q (pc + 3) ls st (m_up σ 1 1 v)) : J M Q pc ls (.inl v :: .inr (1, 0) :: st) σ := J_putI mfwP_50 hM rfl rfl rfl rfl rfl d k
theorem wfP_53 : (Jvm.Cond.fieldLink "PointsToRounds$Program" (53 : Nat) "PointsToRounds$Program" "methods" "I") ∈ TB := TB1 (List.mem_of_getElem? (i := 81) (by decide +kernel)) rfl
theorem mfP_53 : m_F "PointsToRounds$Program" 53 1 2 := ⟨RP, TP, 15, rfl, inP, by decide, wfP_53⟩
theorem gP_53 {M : mM} {Q : Option mV → mS → Prop} {pc : Nat} {ls : List (Option mV)} {st : List mV} {σ : mS} (hM : "PointsToRounds$Program" = M.1.cls) (d : decode M.2.1 pc = .ok (.getfield 53, 3)) (k : J M Q (pc + 3) ls (.inl (σ 1 2) :: st) σ) : J M Q pc ls (.inr (1, 0) :: st) σ := J_getI mfP_53 hM rfl rfl rfl d k
theorem mfwP_53 : m_Fw "PointsToRounds$Program" 53 1 2 .int := ⟨RP, TP, 15, tyP, rfl, inP, by decide, wfP_53, tyP_ok, nmP, rfl, by decide +kernel⟩
theorem pP_53 {M : mM} {Q : Option mV → mS → Prop} {pc : Nat} {ls : List (Option mV)} {st : List mV} {σ : mS} {v : Int32} (hM : "PointsToRounds$Program" = M.1.cls) (d : decode M.2.1 pc = .ok (.putfield 53, 3)) (k : J M Q (pc + 3) ls st (m_up σ 1 2 v)) : J M Q pc ls (.inl v :: .inr (1, 0) :: st) σ := J_putI mfwP_53 hM rfl rfl rfl rfl rfl d k
theorem wfP_63 : (Jvm.Cond.fieldLink "PointsToRounds$Program" (63 : Nat) "PointsToRounds$Program" "statements" "I") ∈ TB := TB1 (List.mem_of_getElem? (i := 84) (by decide +kernel)) rfl
theorem mfP_63 : m_F "PointsToRounds$Program" 63 1 3 := ⟨RP, TP, 15, rfl, inP, by decide, wfP_63⟩
theorem gP_63 {M : mM} {Q : Option mV → mS → Prop} {pc : Nat} {ls : List (Option mV)} {st : List mV} {σ : mS} (hM : "PointsToRounds$Program" = M.1.cls) (d : decode M.2.1 pc = .ok (.getfield 63, 3)) (k : J M Q (pc + 3) ls (.inl (σ 1 3) :: st) σ) : J M Q pc ls (.inr (1, 0) :: st) σ := J_getI mfP_63 hM rfl rfl rfl d k
theorem mfwP_63 : m_Fw "PointsToRounds$Program" 63 1 3 .int := ⟨RP, TP, 15, tyP, rfl, inP, by decide, wfP_63, tyP_ok, nmP, rfl, by decide +kernel⟩
theorem pP_63 {M : mM} {Q : Option mV → mS → Prop} {pc : Nat} {ls : List (Option mV)} {st : List mV} {σ : mS} {v : Int32} (hM : "PointsToRounds$Program" = M.1.cls) (d : decode M.2.1 pc = .ok (.putfield 63, 3)) (k : J M Q (pc + 3) ls st (m_up σ 1 3 v)) : J M Q pc ls (.inl v :: .inr (1, 0) :: st) σ := J_putI mfwP_63 hM rfl rfl rfl rfl rfl d k
theorem wfP_66 : (Jvm.Cond.fieldLink "PointsToRounds$Program" (66 : Nat) "PointsToRounds$Program" "sites" "I") ∈ TB := TB1 (List.mem_of_getElem? (i := 87) (by decide +kernel)) rfl
theorem mfP_66 : m_F "PointsToRounds$Program" 66 1 4 := ⟨RP, TP, 15, rfl, inP, by decide, wfP_66⟩
theorem gP_66 {M : mM} {Q : Option mV → mS → Prop} {pc : Nat} {ls : List (Option mV)} {st : List mV} {σ : mS} (hM : "PointsToRounds$Program" = M.1.cls) (d : decode M.2.1 pc = .ok (.getfield 66, 3)) (k : J M Q (pc + 3) ls (.inl (σ 1 4) :: st) σ) : J M Q pc ls (.inr (1, 0) :: st) σ := J_getI mfP_66 hM rfl rfl rfl d k
theorem mfwP_66 : m_Fw "PointsToRounds$Program" 66 1 4 .int := ⟨RP, TP, 15, tyP, rfl, inP, by decide, wfP_66, tyP_ok, nmP, rfl, by decide +kernel⟩
theorem pP_66 {M : mM} {Q : Option mV → mS → Prop} {pc : Nat} {ls : List (Option mV)} {st : List mV} {σ : mS} {v : Int32} (hM : "PointsToRounds$Program" = M.1.cls) (d : decode M.2.1 pc = .ok (.putfield 66, 3)) (k : J M Q (pc + 3) ls st (m_up σ 1 4 v)) : J M Q pc ls (.inl v :: .inr (1, 0) :: st) σ := J_putI mfwP_66 hM rfl rfl rfl rfl rfl d k
theorem wfP_82 : (Jvm.Cond.fieldLink "PointsToRounds$Program" (82 : Nat) "PointsToRounds$Statement" "method" "I") ∈ TB := TB1 (List.mem_of_getElem? (i := 32) (by decide +kernel)) rfl
theorem mfwP_82 : m_Fw "PointsToRounds$Program" 82 4 0 .int := ⟨RG, TG, 8, tyG, rfl, inG, by decide, wfP_82, tyG_ok, nmG, rfl, by decide +kernel⟩
theorem pP_82 {M : mM} {Q : Option mV → mS → Prop} {pc : Nat} {ls : List (Option mV)} {st : List mV} {σ : mS} {n : Nat} {v : Int32} (hM : "PointsToRounds$Program" = M.1.cls) (d : decode M.2.1 pc = .ok (.putfield 82, 3)) (k : J M Q (pc + 3) ls st (m_up σ (59 + n % 60) 0 v)) : J M Q pc ls (.inl v :: .inr (59, n) :: st) σ := J_putI mfwP_82 hM rfl rfl (o_ci_st n) (by rw [o_n_st]; rfl) (o_r_st n 0) d (by rw [m_cl_st]; exact k)
theorem wfP_85 : (Jvm.Cond.fieldLink "PointsToRounds$Program" (85 : Nat) "PointsToRounds$Statement" "kind" "I") ∈ TB := TB1 (List.mem_of_getElem? (i := 40) (by decide +kernel)) rfl
theorem mfP_85 : m_F "PointsToRounds$Program" 85 4 2 := ⟨RG, TG, 8, rfl, inG, by decide, wfP_85⟩
theorem gP_85 {M : mM} {Q : Option mV → mS → Prop} {pc : Nat} {ls : List (Option mV)} {st : List mV} {σ : mS} {n : Nat} (hM : "PointsToRounds$Program" = M.1.cls) (d : decode M.2.1 pc = .ok (.getfield 85, 3)) (k : J M Q (pc + 3) ls (.inl (σ (59 + n % 60) 2) :: st) σ) : J M Q pc ls (.inr (59, n) :: st) σ := J_getI mfP_85 hM (o_ci_st n) (by rw [o_n_st]; rfl) (o_r_st n 2) d (by rw [m_cl_st]; exact k)
theorem wfP_88 : (Jvm.Cond.fieldLink "PointsToRounds$Program" (88 : Nat) "PointsToRounds$Statement" "q" "I") ∈ TB := TB1 (List.mem_of_getElem? (i := 48) (by decide +kernel)) rfl
theorem mfP_88 : m_F "PointsToRounds$Program" 88 4 4 := ⟨RG, TG, 8, rfl, inG, by decide, wfP_88⟩
theorem gP_88 {M : mM} {Q : Option mV → mS → Prop} {pc : Nat} {ls : List (Option mV)} {st : List mV} {σ : mS} {n : Nat} (hM : "PointsToRounds$Program" = M.1.cls) (d : decode M.2.1 pc = .ok (.getfield 88, 3)) (k : J M Q (pc + 3) ls (.inl (σ (59 + n % 60) 4) :: st) σ) : J M Q pc ls (.inr (59, n) :: st) σ := J_getI mfP_88 hM (o_ci_st n) (by rw [o_n_st]; rfl) (o_r_st n 4) d (by rw [m_cl_st]; exact k)
theorem wfP_95 : (Jvm.Cond.fieldLink "PointsToRounds$Program" (95 : Nat) "PointsToRounds$Statement" "site" "I") ∈ TB := TB1 (List.mem_of_getElem? (i := 35) (by decide +kernel)) rfl
theorem mfwP_95 : m_Fw "PointsToRounds$Program" 95 4 1 .int := ⟨RG, TG, 8, tyG, rfl, inG, by decide, wfP_95, tyG_ok, nmG, rfl, by decide +kernel⟩
theorem pP_95 {M : mM} {Q : Option mV → mS → Prop} {pc : Nat} {ls : List (Option mV)} {st : List mV} {σ : mS} {n : Nat} {v : Int32} (hM : "PointsToRounds$Program" = M.1.cls) (d : decode M.2.1 pc = .ok (.putfield 95, 3)) (k : J M Q (pc + 3) ls st (m_up σ (59 + n % 60) 1 v)) : J M Q pc ls (.inl v :: .inr (59, n) :: st) σ := J_putI mfwP_95 hM rfl rfl (o_ci_st n) (by rw [o_n_st]; rfl) (o_r_st n 1) d (by rw [m_cl_st]; exact k)
theorem wfS_9 : (Jvm.Cond.fieldLink "PointsToRounds$Sets" (9 : Nat) "PointsToRounds$Sets" "before" "[I") ∈ TB := TB1 (List.mem_of_getElem? (i := 142) (by decide +kernel)) rfl
theorem mfS_9 : m_F "PointsToRounds$Sets" 9 2 1 := ⟨RS, TS, 9, rfl, inS, by decide, wfS_9⟩
theorem gS_9 {M : mM} {Q : Option mV → mS → Prop} {pc : Nat} {ls : List (Option mV)} {st : List mV} {σ : mS} (hM : "PointsToRounds$Sets" = M.1.cls) (d : decode M.2.1 pc = .ok (.getfield 9, 3)) (k : J M Q (pc + 3) ls (.inr (13, 0) :: st) σ) : J M Q pc ls (.inr (2, 0) :: st) σ := J_getR mfS_9 hM rfl rfl rfl rfl d k
theorem wfS_15 : (Jvm.Cond.fieldLink "PointsToRounds$Sets" (15 : Nat) "PointsToRounds$Sets" "now" "[I") ∈ TB := TB1 (List.mem_of_getElem? (i := 143) (by decide +kernel)) rfl
theorem mfS_15 : m_F "PointsToRounds$Sets" 15 2 2 := ⟨RS, TS, 9, rfl, inS, by decide, wfS_15⟩
theorem gS_15 {M : mM} {Q : Option mV → mS → Prop} {pc : Nat} {ls : List (Option mV)} {st : List mV} {σ : mS} (hM : "PointsToRounds$Sets" = M.1.cls) (d : decode M.2.1 pc = .ok (.getfield 15, 3)) (k : J M Q (pc + 3) ls (.inr (14, 0) :: st) σ) : J M Q pc ls (.inr (2, 0) :: st) σ := J_getR mfS_15 hM rfl rfl rfl rfl d k
theorem wfS_18 : (Jvm.Cond.fieldLink "PointsToRounds$Sets" (18 : Nat) "PointsToRounds$Sets" "cameAt" "[I") ∈ TB := TB1 (List.mem_of_getElem? (i := 144) (by decide +kernel)) rfl
theorem mfS_18 : m_F "PointsToRounds$Sets" 18 2 3 := ⟨RS, TS, 9, rfl, inS, by decide, wfS_18⟩
theorem gS_18 {M : mM} {Q : Option mV → mS → Prop} {pc : Nat} {ls : List (Option mV)} {st : List mV} {σ : mS} (hM : "PointsToRounds$Sets" = M.1.cls) (d : decode M.2.1 pc = .ok (.getfield 18, 3)) (k : J M Q (pc + 3) ls (.inr (15, 0) :: st) σ) : J M Q pc ls (.inr (2, 0) :: st) σ := J_getR mfS_18 hM rfl rfl rfl rfl d k
theorem wfS_21 : (Jvm.Cond.fieldLink "PointsToRounds$Sets" (21 : Nat) "PointsToRounds$Sets" "program" "LPointsToRounds$Program;") ∈ TB := TB1 (List.mem_of_getElem? (i := 141) (by decide +kernel)) rfl
theorem mfS_21 : m_F "PointsToRounds$Sets" 21 2 0 := ⟨RS, TS, 9, rfl, inS, by decide, wfS_21⟩
theorem gS_21 {M : mM} {Q : Option mV → mS → Prop} {pc : Nat} {ls : List (Option mV)} {st : List mV} {σ : mS} (hM : "PointsToRounds$Sets" = M.1.cls) (d : decode M.2.1 pc = .ok (.getfield 21, 3)) (k : J M Q (pc + 3) ls (.inr (1, 0) :: st) σ) : J M Q pc ls (.inr (2, 0) :: st) σ := J_getR mfS_21 hM rfl rfl rfl rfl d k
theorem wfS_25 : (Jvm.Cond.fieldLink "PointsToRounds$Sets" (25 : Nat) "PointsToRounds$Sets" "perReceiver" "Z") ∈ TB := TB1 (List.mem_of_getElem? (i := 151) (by decide +kernel)) rfl
theorem mfS_25 : m_F "PointsToRounds$Sets" 25 2 8 := ⟨RS, TS, 9, rfl, inS, by decide, wfS_25⟩
theorem gS_25 {M : mM} {Q : Option mV → mS → Prop} {pc : Nat} {ls : List (Option mV)} {st : List mV} {σ : mS} (hM : "PointsToRounds$Sets" = M.1.cls) (d : decode M.2.1 pc = .ok (.getfield 25, 3)) (k : J M Q (pc + 3) ls (.inl (σ 2 8) :: st) σ) : J M Q pc ls (.inr (2, 0) :: st) σ := J_getI mfS_25 hM rfl rfl rfl d k
theorem wfS_29 : (Jvm.Cond.fieldLink "PointsToRounds$Sets" (29 : Nat) "PointsToRounds$Program" "sites" "I") ∈ TB := TB1 (List.mem_of_getElem? (i := 86) (by decide +kernel)) rfl
theorem mfS_29 : m_F "PointsToRounds$Sets" 29 1 4 := ⟨RP, TP, 15, rfl, inP, by decide, wfS_29⟩
theorem gS_29 {M : mM} {Q : Option mV → mS → Prop} {pc : Nat} {ls : List (Option mV)} {st : List mV} {σ : mS} (hM : "PointsToRounds$Sets" = M.1.cls) (d : decode M.2.1 pc = .ok (.getfield 29, 3)) (k : J M Q (pc + 3) ls (.inl (σ 1 4) :: st) σ) : J M Q pc ls (.inr (1, 0) :: st) σ := J_getI mfS_29 hM rfl rfl rfl d k
theorem wfS_39 : (Jvm.Cond.fieldLink "PointsToRounds$Sets" (39 : Nat) "PointsToRounds$Sets" "settled" "Z") ∈ TB := TB1 (List.mem_of_getElem? (i := 149) (by decide +kernel)) rfl
theorem mfS_39 : m_F "PointsToRounds$Sets" 39 2 7 := ⟨RS, TS, 9, rfl, inS, by decide, wfS_39⟩
theorem gS_39 {M : mM} {Q : Option mV → mS → Prop} {pc : Nat} {ls : List (Option mV)} {st : List mV} {σ : mS} (hM : "PointsToRounds$Sets" = M.1.cls) (d : decode M.2.1 pc = .ok (.getfield 39, 3)) (k : J M Q (pc + 3) ls (.inl (σ 2 7) :: st) σ) : J M Q pc ls (.inr (2, 0) :: st) σ := J_getI mfS_39 hM rfl rfl rfl d k
theorem mfwS_39 : m_Fw "PointsToRounds$Sets" 39 2 7 .boolean := ⟨RS, TS, 9, tyS, rfl, inS, by decide, wfS_39, tyS_ok, nmS, rfl, by decide +kernel⟩
theorem pS_39 {M : mM} {Q : Option mV → mS → Prop} {pc : Nat} {ls : List (Option mV)} {st : List mV} {σ : mS} {v : Int32} (hM : "PointsToRounds$Sets" = M.1.cls) (hz : v = 0 ∨ v = 1) (d : decode M.2.1 pc = .ok (.putfield 39, 3)) (k : J M Q (pc + 3) ls st (m_up σ 2 7 v)) : J M Q pc ls (.inl v :: .inr (2, 0) :: st) σ := J_putI mfwS_39 hM (by rcases hz with rfl | rfl <;> decide) (by rcases hz with rfl | rfl <;> decide) rfl rfl rfl d k
theorem wfS_48 : (Jvm.Cond.fieldLink "PointsToRounds$Sets" (48 : Nat) "PointsToRounds$Program" "methods" "I") ∈ TB := TB1 (List.mem_of_getElem? (i := 83) (by decide +kernel)) rfl
theorem mfS_48 : m_F "PointsToRounds$Sets" 48 1 2 := ⟨RP, TP, 15, rfl, inP, by decide, wfS_48⟩
theorem gS_48 {M : mM} {Q : Option mV → mS → Prop} {pc : Nat} {ls : List (Option mV)} {st : List mV} {σ : mS} (hM : "PointsToRounds$Sets" = M.1.cls) (d : decode M.2.1 pc = .ok (.getfield 48, 3)) (k : J M Q (pc + 3) ls (.inl (σ 1 2) :: st) σ) : J M Q pc ls (.inr (1, 0) :: st) σ := J_getI mfS_48 hM rfl rfl rfl d k
theorem wfS_51 : (Jvm.Cond.fieldLink "PointsToRounds$Sets" (51 : Nat) "PointsToRounds$Sets" "round" "I") ∈ TB := TB1 (List.mem_of_getElem? (i := 145) (by decide +kernel)) rfl
theorem mfS_51 : m_F "PointsToRounds$Sets" 51 2 4 := ⟨RS, TS, 9, rfl, inS, by decide, wfS_51⟩
theorem gS_51 {M : mM} {Q : Option mV → mS → Prop} {pc : Nat} {ls : List (Option mV)} {st : List mV} {σ : mS} (hM : "PointsToRounds$Sets" = M.1.cls) (d : decode M.2.1 pc = .ok (.getfield 51, 3)) (k : J M Q (pc + 3) ls (.inl (σ 2 4) :: st) σ) : J M Q pc ls (.inr (2, 0) :: st) σ := J_getI mfS_51 hM rfl rfl rfl d k
theorem mfwS_51 : m_Fw "PointsToRounds$Sets" 51 2 4 .int := ⟨RS, TS, 9, tyS, rfl, inS, by decide, wfS_51, tyS_ok, nmS, rfl, by decide +kernel⟩
theorem pS_51 {M : mM} {Q : Option mV → mS → Prop} {pc : Nat} {ls : List (Option mV)} {st : List mV} {σ : mS} {v : Int32} (hM : "PointsToRounds$Sets" = M.1.cls) (d : decode M.2.1 pc = .ok (.putfield 51, 3)) (k : J M Q (pc + 3) ls st (m_up σ 2 4 v)) : J M Q pc ls (.inl v :: .inr (2, 0) :: st) σ := J_putI mfwS_51 hM rfl rfl rfl rfl rfl d k
theorem wfS_60 : (Jvm.Cond.fieldLink "PointsToRounds$Sets" (60 : Nat) "PointsToRounds$Sets" "grown" "Z") ∈ TB := TB1 (List.mem_of_getElem? (i := 146) (by decide +kernel)) rfl
theorem mfS_60 : m_F "PointsToRounds$Sets" 60 2 5 := ⟨RS, TS, 9, rfl, inS, by decide, wfS_60⟩
theorem gS_60 {M : mM} {Q : Option mV → mS → Prop} {pc : Nat} {ls : List (Option mV)} {st : List mV} {σ : mS} (hM : "PointsToRounds$Sets" = M.1.cls) (d : decode M.2.1 pc = .ok (.getfield 60, 3)) (k : J M Q (pc + 3) ls (.inl (σ 2 5) :: st) σ) : J M Q pc ls (.inr (2, 0) :: st) σ := J_getI mfS_60 hM rfl rfl rfl d k
theorem mfwS_60 : m_Fw "PointsToRounds$Sets" 60 2 5 .boolean := ⟨RS, TS, 9, tyS, rfl, inS, by decide, wfS_60, tyS_ok, nmS, rfl, by decide +kernel⟩
theorem pS_60 {M : mM} {Q : Option mV → mS → Prop} {pc : Nat} {ls : List (Option mV)} {st : List mV} {σ : mS} {v : Int32} (hM : "PointsToRounds$Sets" = M.1.cls) (hz : v = 0 ∨ v = 1) (d : decode M.2.1 pc = .ok (.putfield 60, 3)) (k : J M Q (pc + 3) ls st (m_up σ 2 5 v)) : J M Q pc ls (.inl v :: .inr (2, 0) :: st) σ := J_putI mfwS_60 hM (by rcases hz with rfl | rfl <;> decide) (by rcases hz with rfl | rfl <;> decide) rfl rfl rfl d k
theorem wfS_67 : (Jvm.Cond.fieldLink "PointsToRounds$Sets" (67 : Nat) "PointsToRounds$Sets" "last" "I") ∈ TB := TB1 (List.mem_of_getElem? (i := 147) (by decide +kernel)) rfl
theorem mfwS_67 : m_Fw "PointsToRounds$Sets" 67 2 6 .int := ⟨RS, TS, 9, tyS, rfl, inS, by decide, wfS_67, tyS_ok, nmS, rfl, by decide +kernel⟩
theorem pS_67 {M : mM} {Q : Option mV → mS → Prop} {pc : Nat} {ls : List (Option mV)} {st : List mV} {σ : mS} {v : Int32} (hM : "PointsToRounds$Sets" = M.1.cls) (d : decode M.2.1 pc = .ok (.putfield 67, 3)) (k : J M Q (pc + 3) ls st (m_up σ 2 6 v)) : J M Q pc ls (.inl v :: .inr (2, 0) :: st) σ := J_putI mfwS_67 hM rfl rfl rfl rfl rfl d k
theorem wfS_74 : (Jvm.Cond.fieldLink "PointsToRounds$Sets" (74 : Nat) "PointsToRounds$Program" "length" "[I") ∈ TB := TB1 (List.mem_of_getElem? (i := 102) (by decide +kernel)) rfl
theorem mfS_74 : m_F "PointsToRounds$Sets" 74 1 13 := ⟨RP, TP, 15, rfl, inP, by decide, wfS_74⟩
theorem gS_74 {M : mM} {Q : Option mV → mS → Prop} {pc : Nat} {ls : List (Option mV)} {st : List mV} {σ : mS} (hM : "PointsToRounds$Sets" = M.1.cls) (d : decode M.2.1 pc = .ok (.getfield 74, 3)) (k : J M Q (pc + 3) ls (.inr (11, 0) :: st) σ) : J M Q pc ls (.inr (1, 0) :: st) σ := J_getR mfS_74 hM rfl rfl rfl rfl d k
theorem wfS_85 : (Jvm.Cond.fieldLink "PointsToRounds$Sets" (85 : Nat) "PointsToRounds$Statement" "p" "I") ∈ TB := TB1 (List.mem_of_getElem? (i := 43) (by decide +kernel)) rfl
theorem mfS_85 : m_F "PointsToRounds$Sets" 85 4 3 := ⟨RG, TG, 8, rfl, inG, by decide, wfS_85⟩
theorem gS_85 {M : mM} {Q : Option mV → mS → Prop} {pc : Nat} {ls : List (Option mV)} {st : List mV} {σ : mS} {n : Nat} (hM : "PointsToRounds$Sets" = M.1.cls) (d : decode M.2.1 pc = .ok (.getfield 85, 3)) (k : J M Q (pc + 3) ls (.inl (σ (59 + n % 60) 3) :: st) σ) : J M Q pc ls (.inr (59, n) :: st) σ := J_getI mfS_85 hM (o_ci_st n) (by rw [o_n_st]; rfl) (o_r_st n 3) d (by rw [m_cl_st]; exact k)
theorem wfS_90 : (Jvm.Cond.fieldLink "PointsToRounds$Sets" (90 : Nat) "PointsToRounds$Statement" "q" "I") ∈ TB := TB1 (List.mem_of_getElem? (i := 46) (by decide +kernel)) rfl
theorem mfS_90 : m_F "PointsToRounds$Sets" 90 4 4 := ⟨RG, TG, 8, rfl, inG, by decide, wfS_90⟩
theorem gS_90 {M : mM} {Q : Option mV → mS → Prop} {pc : Nat} {ls : List (Option mV)} {st : List mV} {σ : mS} {n : Nat} (hM : "PointsToRounds$Sets" = M.1.cls) (d : decode M.2.1 pc = .ok (.getfield 90, 3)) (k : J M Q (pc + 3) ls (.inl (σ (59 + n % 60) 4) :: st) σ) : J M Q pc ls (.inr (59, n) :: st) σ := J_getI mfS_90 hM (o_ci_st n) (by rw [o_n_st]; rfl) (o_r_st n 4) d (by rw [m_cl_st]; exact k)
theorem wfS_93 : (Jvm.Cond.fieldLink "PointsToRounds$Sets" (93 : Nat) "PointsToRounds$Statement" "kind" "I") ∈ TB := TB1 (List.mem_of_getElem? (i := 38) (by decide +kernel)) rfl
theorem mfS_93 : m_F "PointsToRounds$Sets" 93 4 2 := ⟨RG, TG, 8, rfl, inG, by decide, wfS_93⟩
theorem gS_93 {M : mM} {Q : Option mV → mS → Prop} {pc : Nat} {ls : List (Option mV)} {st : List mV} {σ : mS} {n : Nat} (hM : "PointsToRounds$Sets" = M.1.cls) (d : decode M.2.1 pc = .ok (.getfield 93, 3)) (k : J M Q (pc + 3) ls (.inl (σ (59 + n % 60) 2) :: st) σ) : J M Q pc ls (.inr (59, n) :: st) σ := J_getI mfS_93 hM (o_ci_st n) (by rw [o_n_st]; rfl) (o_r_st n 2) d (by rw [m_cl_st]; exact k)
theorem wfS_96 : (Jvm.Cond.fieldLink "PointsToRounds$Sets" (96 : Nat) "PointsToRounds$Statement" "site" "I") ∈ TB := TB1 (List.mem_of_getElem? (i := 34) (by decide +kernel)) rfl
theorem mfS_96 : m_F "PointsToRounds$Sets" 96 4 1 := ⟨RG, TG, 8, rfl, inG, by decide, wfS_96⟩
theorem gS_96 {M : mM} {Q : Option mV → mS → Prop} {pc : Nat} {ls : List (Option mV)} {st : List mV} {σ : mS} {n : Nat} (hM : "PointsToRounds$Sets" = M.1.cls) (d : decode M.2.1 pc = .ok (.getfield 96, 3)) (k : J M Q (pc + 3) ls (.inl (σ (59 + n % 60) 1) :: st) σ) : J M Q pc ls (.inr (59, n) :: st) σ := J_getI mfS_96 hM (o_ci_st n) (by rw [o_n_st]; rfl) (o_r_st n 1) d (by rw [m_cl_st]; exact k)
theorem wfS_103 : (Jvm.Cond.fieldLink "PointsToRounds$Sets" (103 : Nat) "PointsToRounds$Statement" "\u0072" "I") ∈ TB := TB1 (List.mem_of_getElem? (i := 51) (by decide +kernel)) rfl
theorem mfS_103 : m_F "PointsToRounds$Sets" 103 4 5 := ⟨RG, TG, 8, rfl, inG, by decide, wfS_103⟩
theorem gS_103 {M : mM} {Q : Option mV → mS → Prop} {pc : Nat} {ls : List (Option mV)} {st : List mV} {σ : mS} {n : Nat} (hM : "PointsToRounds$Sets" = M.1.cls) (d : decode M.2.1 pc = .ok (.getfield 103, 3)) (k : J M Q (pc + 3) ls (.inl (σ (59 + n % 60) 5) :: st) σ) : J M Q pc ls (.inr (59, n) :: st) σ := J_getI mfS_103 hM (o_ci_st n) (by rw [o_n_st]; rfl) (o_r_st n 5) d (by rw [m_cl_st]; exact k)
theorem wfS_113 : (Jvm.Cond.fieldLink "PointsToRounds$Sets" (113 : Nat) "PointsToRounds$Program" "sitesUnder" "[I") ∈ TB := TB1 (List.mem_of_getElem? (i := 92) (by decide +kernel)) rfl
theorem mfS_113 : m_F "PointsToRounds$Sets" 113 1 7 := ⟨RP, TP, 15, rfl, inP, by decide, wfS_113⟩
theorem gS_113 {M : mM} {Q : Option mV → mS → Prop} {pc : Nat} {ls : List (Option mV)} {st : List mV} {σ : mS} (hM : "PointsToRounds$Sets" = M.1.cls) (d : decode M.2.1 pc = .ok (.getfield 113, 3)) (k : J M Q (pc + 3) ls (.inr (6, 0) :: st) σ) : J M Q pc ls (.inr (1, 0) :: st) σ := J_getR mfS_113 hM rfl rfl rfl rfl d k
theorem wfS_132 : (Jvm.Cond.fieldLink "PointsToRounds$Sets" (132 : Nat) "PointsToRounds$Statement" "s" "I") ∈ TB := TB1 (List.mem_of_getElem? (i := 55) (by decide +kernel)) rfl
theorem mfS_132 : m_F "PointsToRounds$Sets" 132 4 6 := ⟨RG, TG, 8, rfl, inG, by decide, wfS_132⟩
theorem gS_132 {M : mM} {Q : Option mV → mS → Prop} {pc : Nat} {ls : List (Option mV)} {st : List mV} {σ : mS} {n : Nat} (hM : "PointsToRounds$Sets" = M.1.cls) (d : decode M.2.1 pc = .ok (.getfield 132, 3)) (k : J M Q (pc + 3) ls (.inl (σ (59 + n % 60) 6) :: st) σ) : J M Q pc ls (.inr (59, n) :: st) σ := J_getI mfS_132 hM (o_ci_st n) (by rw [o_n_st]; rfl) (o_r_st n 6) d (by rw [m_cl_st]; exact k)
theorem wfS_135 : (Jvm.Cond.fieldLink "PointsToRounds$Sets" (135 : Nat) "PointsToRounds$Statement" "t" "I") ∈ TB := TB1 (List.mem_of_getElem? (i := 58) (by decide +kernel)) rfl
theorem mfS_135 : m_F "PointsToRounds$Sets" 135 4 7 := ⟨RG, TG, 8, rfl, inG, by decide, wfS_135⟩
theorem gS_135 {M : mM} {Q : Option mV → mS → Prop} {pc : Nat} {ls : List (Option mV)} {st : List mV} {σ : mS} {n : Nat} (hM : "PointsToRounds$Sets" = M.1.cls) (d : decode M.2.1 pc = .ok (.getfield 135, 3)) (k : J M Q (pc + 3) ls (.inl (σ (59 + n % 60) 7) :: st) σ) : J M Q pc ls (.inr (59, n) :: st) σ := J_getI mfS_135 hM (o_ci_st n) (by rw [o_n_st]; rfl) (o_r_st n 7) d (by rw [m_cl_st]; exact k)
theorem wfG_7 : (Jvm.Cond.fieldLink "PointsToRounds$Statement" (7 : Nat) "PointsToRounds$Statement" "kind" "I") ∈ TB := TB1 (List.mem_of_getElem? (i := 36) (by decide +kernel)) rfl
theorem mfwG_7 : m_Fw "PointsToRounds$Statement" 7 4 2 .int := ⟨RG, TG, 8, tyG, rfl, inG, by decide, wfG_7, tyG_ok, nmG, rfl, by decide +kernel⟩
theorem pG_7 {M : mM} {Q : Option mV → mS → Prop} {pc : Nat} {ls : List (Option mV)} {st : List mV} {σ : mS} {n : Nat} {v : Int32} (hM : "PointsToRounds$Statement" = M.1.cls) (d : decode M.2.1 pc = .ok (.putfield 7, 3)) (k : J M Q (pc + 3) ls st (m_up σ (59 + n % 60) 2 v)) : J M Q pc ls (.inl v :: .inr (59, n) :: st) σ := J_putI mfwG_7 hM rfl rfl (o_ci_st n) (by rw [o_n_st]; rfl) (o_r_st n 2) d (by rw [m_cl_st]; exact k)
theorem wfG_13 : (Jvm.Cond.fieldLink "PointsToRounds$Statement" (13 : Nat) "PointsToRounds$Statement" "p" "I") ∈ TB := TB1 (List.mem_of_getElem? (i := 41) (by decide +kernel)) rfl
theorem mfwG_13 : m_Fw "PointsToRounds$Statement" 13 4 3 .int := ⟨RG, TG, 8, tyG, rfl, inG, by decide, wfG_13, tyG_ok, nmG, rfl, by decide +kernel⟩
theorem pG_13 {M : mM} {Q : Option mV → mS → Prop} {pc : Nat} {ls : List (Option mV)} {st : List mV} {σ : mS} {n : Nat} {v : Int32} (hM : "PointsToRounds$Statement" = M.1.cls) (d : decode M.2.1 pc = .ok (.putfield 13, 3)) (k : J M Q (pc + 3) ls st (m_up σ (59 + n % 60) 3 v)) : J M Q pc ls (.inl v :: .inr (59, n) :: st) σ := J_putI mfwG_13 hM rfl rfl (o_ci_st n) (by rw [o_n_st]; rfl) (o_r_st n 3) d (by rw [m_cl_st]; exact k)
theorem wfG_16 : (Jvm.Cond.fieldLink "PointsToRounds$Statement" (16 : Nat) "PointsToRounds$Statement" "q" "I") ∈ TB := TB1 (List.mem_of_getElem? (i := 44) (by decide +kernel)) rfl
theorem mfwG_16 : m_Fw "PointsToRounds$Statement" 16 4 4 .int := ⟨RG, TG, 8, tyG, rfl, inG, by decide, wfG_16, tyG_ok, nmG, rfl, by decide +kernel⟩
theorem pG_16 {M : mM} {Q : Option mV → mS → Prop} {pc : Nat} {ls : List (Option mV)} {st : List mV} {σ : mS} {n : Nat} {v : Int32} (hM : "PointsToRounds$Statement" = M.1.cls) (d : decode M.2.1 pc = .ok (.putfield 16, 3)) (k : J M Q (pc + 3) ls st (m_up σ (59 + n % 60) 4 v)) : J M Q pc ls (.inl v :: .inr (59, n) :: st) σ := J_putI mfwG_16 hM rfl rfl (o_ci_st n) (by rw [o_n_st]; rfl) (o_r_st n 4) d (by rw [m_cl_st]; exact k)
theorem wfG_19 : (Jvm.Cond.fieldLink "PointsToRounds$Statement" (19 : Nat) "PointsToRounds$Statement" "\u0072" "I") ∈ TB := TB1 (List.mem_of_getElem? (i := 49) (by decide +kernel)) rfl
theorem mfwG_19 : m_Fw "PointsToRounds$Statement" 19 4 5 .int := ⟨RG, TG, 8, tyG, rfl, inG, by decide, wfG_19, tyG_ok, nmG, rfl, by decide +kernel⟩
theorem pG_19 {M : mM} {Q : Option mV → mS → Prop} {pc : Nat} {ls : List (Option mV)} {st : List mV} {σ : mS} {n : Nat} {v : Int32} (hM : "PointsToRounds$Statement" = M.1.cls) (d : decode M.2.1 pc = .ok (.putfield 19, 3)) (k : J M Q (pc + 3) ls st (m_up σ (59 + n % 60) 5 v)) : J M Q pc ls (.inl v :: .inr (59, n) :: st) σ := J_putI mfwG_19 hM rfl rfl (o_ci_st n) (by rw [o_n_st]; rfl) (o_r_st n 5) d (by rw [m_cl_st]; exact k)
theorem wfG_22 : (Jvm.Cond.fieldLink "PointsToRounds$Statement" (22 : Nat) "PointsToRounds$Statement" "s" "I") ∈ TB := TB1 (List.mem_of_getElem? (i := 53) (by decide +kernel)) rfl
theorem mfwG_22 : m_Fw "PointsToRounds$Statement" 22 4 6 .int := ⟨RG, TG, 8, tyG, rfl, inG, by decide, wfG_22, tyG_ok, nmG, rfl, by decide +kernel⟩
theorem pG_22 {M : mM} {Q : Option mV → mS → Prop} {pc : Nat} {ls : List (Option mV)} {st : List mV} {σ : mS} {n : Nat} {v : Int32} (hM : "PointsToRounds$Statement" = M.1.cls) (d : decode M.2.1 pc = .ok (.putfield 22, 3)) (k : J M Q (pc + 3) ls st (m_up σ (59 + n % 60) 6 v)) : J M Q pc ls (.inl v :: .inr (59, n) :: st) σ := J_putI mfwG_22 hM rfl rfl (o_ci_st n) (by rw [o_n_st]; rfl) (o_r_st n 6) d (by rw [m_cl_st]; exact k)
theorem wfG_25 : (Jvm.Cond.fieldLink "PointsToRounds$Statement" (25 : Nat) "PointsToRounds$Statement" "t" "I") ∈ TB := TB1 (List.mem_of_getElem? (i := 56) (by decide +kernel)) rfl
theorem mfwG_25 : m_Fw "PointsToRounds$Statement" 25 4 7 .int := ⟨RG, TG, 8, tyG, rfl, inG, by decide, wfG_25, tyG_ok, nmG, rfl, by decide +kernel⟩
theorem pG_25 {M : mM} {Q : Option mV → mS → Prop} {pc : Nat} {ls : List (Option mV)} {st : List mV} {σ : mS} {n : Nat} {v : Int32} (hM : "PointsToRounds$Statement" = M.1.cls) (d : decode M.2.1 pc = .ok (.putfield 25, 3)) (k : J M Q (pc + 3) ls st (m_up σ (59 + n % 60) 7 v)) : J M Q pc ls (.inl v :: .inr (59, n) :: st) σ := J_putI mfwG_25 hM rfl rfl (o_ci_st n) (by rw [o_n_st]; rfl) (o_r_st n 7) d (by rw [m_cl_st]; exact k)
theorem wfT_9 : (Jvm.Cond.fieldLink "PointsToRounds$Trial" (9 : Nat) "PointsToRounds$Trial" "siteOf" "[I") ∈ TB := TB1 (List.mem_of_getElem? (i := 180) (by decide +kernel)) rfl
theorem mfT_9 : m_F "PointsToRounds$Trial" 9 3 2 := ⟨RT, TT, 14, rfl, inT, by decide, wfT_9⟩
theorem gT_9 {M : mM} {Q : Option mV → mS → Prop} {pc : Nat} {ls : List (Option mV)} {st : List mV} {σ : mS} (hM : "PointsToRounds$Trial" = M.1.cls) (d : decode M.2.1 pc = .ok (.getfield 9, 3)) (k : J M Q (pc + 3) ls (.inr (16, 0) :: st) σ) : J M Q pc ls (.inr (3, 0) :: st) σ := J_getR mfT_9 hM rfl rfl rfl rfl d k
theorem wfT_15 : (Jvm.Cond.fieldLink "PointsToRounds$Trial" (15 : Nat) "PointsToRounds$Trial" "slots" "[I") ∈ TB := TB1 (List.mem_of_getElem? (i := 181) (by decide +kernel)) rfl
theorem mfT_15 : m_F "PointsToRounds$Trial" 15 3 3 := ⟨RT, TT, 14, rfl, inT, by decide, wfT_15⟩
theorem gT_15 {M : mM} {Q : Option mV → mS → Prop} {pc : Nat} {ls : List (Option mV)} {st : List mV} {σ : mS} (hM : "PointsToRounds$Trial" = M.1.cls) (d : decode M.2.1 pc = .ok (.getfield 15, 3)) (k : J M Q (pc + 3) ls (.inr (17, 0) :: st) σ) : J M Q pc ls (.inr (3, 0) :: st) σ := J_getR mfT_15 hM rfl rfl rfl rfl d k
theorem wfT_18 : (Jvm.Cond.fieldLink "PointsToRounds$Trial" (18 : Nat) "PointsToRounds$Trial" "statics" "[I") ∈ TB := TB1 (List.mem_of_getElem? (i := 182) (by decide +kernel)) rfl
theorem mfT_18 : m_F "PointsToRounds$Trial" 18 3 4 := ⟨RT, TT, 14, rfl, inT, by decide, wfT_18⟩
theorem gT_18 {M : mM} {Q : Option mV → mS → Prop} {pc : Nat} {ls : List (Option mV)} {st : List mV} {σ : mS} (hM : "PointsToRounds$Trial" = M.1.cls) (d : decode M.2.1 pc = .ok (.getfield 18, 3)) (k : J M Q (pc + 3) ls (.inr (18, 0) :: st) σ) : J M Q pc ls (.inr (3, 0) :: st) σ := J_getR mfT_18 hM rfl rfl rfl rfl d k
theorem wfT_21 : (Jvm.Cond.fieldLink "PointsToRounds$Trial" (21 : Nat) "PointsToRounds$Trial" "names" "[I") ∈ TB := TB1 (List.mem_of_getElem? (i := 183) (by decide +kernel)) rfl
theorem mfT_21 : m_F "PointsToRounds$Trial" 21 3 5 := ⟨RT, TT, 14, rfl, inT, by decide, wfT_21⟩
theorem gT_21 {M : mM} {Q : Option mV → mS → Prop} {pc : Nat} {ls : List (Option mV)} {st : List mV} {σ : mS} (hM : "PointsToRounds$Trial" = M.1.cls) (d : decode M.2.1 pc = .ok (.getfield 21, 3)) (k : J M Q (pc + 3) ls (.inr (19, 0) :: st) σ) : J M Q pc ls (.inr (3, 0) :: st) σ := J_getR mfT_21 hM rfl rfl rfl rfl d k
theorem wfT_24 : (Jvm.Cond.fieldLink "PointsToRounds$Trial" (24 : Nat) "PointsToRounds$Trial" "frameMethod" "[I") ∈ TB := TB1 (List.mem_of_getElem? (i := 184) (by decide +kernel)) rfl
theorem mfT_24 : m_F "PointsToRounds$Trial" 24 3 6 := ⟨RT, TT, 14, rfl, inT, by decide, wfT_24⟩
theorem gT_24 {M : mM} {Q : Option mV → mS → Prop} {pc : Nat} {ls : List (Option mV)} {st : List mV} {σ : mS} (hM : "PointsToRounds$Trial" = M.1.cls) (d : decode M.2.1 pc = .ok (.getfield 24, 3)) (k : J M Q (pc + 3) ls (.inr (20, 0) :: st) σ) : J M Q pc ls (.inr (3, 0) :: st) σ := J_getR mfT_24 hM rfl rfl rfl rfl d k
theorem wfT_27 : (Jvm.Cond.fieldLink "PointsToRounds$Trial" (27 : Nat) "PointsToRounds$Trial" "frameContext" "[I") ∈ TB := TB1 (List.mem_of_getElem? (i := 185) (by decide +kernel)) rfl
theorem mfT_27 : m_F "PointsToRounds$Trial" 27 3 7 := ⟨RT, TT, 14, rfl, inT, by decide, wfT_27⟩
theorem gT_27 {M : mM} {Q : Option mV → mS → Prop} {pc : Nat} {ls : List (Option mV)} {st : List mV} {σ : mS} (hM : "PointsToRounds$Trial" = M.1.cls) (d : decode M.2.1 pc = .ok (.getfield 27, 3)) (k : J M Q (pc + 3) ls (.inr (21, 0) :: st) σ) : J M Q pc ls (.inr (3, 0) :: st) σ := J_getR mfT_27 hM rfl rfl rfl rfl d k
theorem wfT_30 : (Jvm.Cond.fieldLink "PointsToRounds$Trial" (30 : Nat) "PointsToRounds$Trial" "frameTarget" "[I") ∈ TB := TB1 (List.mem_of_getElem? (i := 186) (by decide +kernel)) rfl
theorem mfT_30 : m_F "PointsToRounds$Trial" 30 3 8 := ⟨RT, TT, 14, rfl, inT, by decide, wfT_30⟩
theorem gT_30 {M : mM} {Q : Option mV → mS → Prop} {pc : Nat} {ls : List (Option mV)} {st : List mV} {σ : mS} (hM : "PointsToRounds$Trial" = M.1.cls) (d : decode M.2.1 pc = .ok (.getfield 30, 3)) (k : J M Q (pc + 3) ls (.inr (22, 0) :: st) σ) : J M Q pc ls (.inr (3, 0) :: st) σ := J_getR mfT_30 hM rfl rfl rfl rfl d k
theorem wfT_33 : (Jvm.Cond.fieldLink "PointsToRounds$Trial" (33 : Nat) "PointsToRounds$Trial" "metSites" "[I") ∈ TB := TB1 (List.mem_of_getElem? (i := 187) (by decide +kernel)) rfl
theorem mfT_33 : m_F "PointsToRounds$Trial" 33 3 9 := ⟨RT, TT, 14, rfl, inT, by decide, wfT_33⟩
theorem gT_33 {M : mM} {Q : Option mV → mS → Prop} {pc : Nat} {ls : List (Option mV)} {st : List mV} {σ : mS} (hM : "PointsToRounds$Trial" = M.1.cls) (d : decode M.2.1 pc = .ok (.getfield 33, 3)) (k : J M Q (pc + 3) ls (.inr (23, 0) :: st) σ) : J M Q pc ls (.inr (3, 0) :: st) σ := J_getR mfT_33 hM rfl rfl rfl rfl d k
theorem wfT_36 : (Jvm.Cond.fieldLink "PointsToRounds$Trial" (36 : Nat) "PointsToRounds$Trial" "program" "LPointsToRounds$Program;") ∈ TB := TB1 (List.mem_of_getElem? (i := 178) (by decide +kernel)) rfl
theorem mfT_36 : m_F "PointsToRounds$Trial" 36 3 0 := ⟨RT, TT, 14, rfl, inT, by decide, wfT_36⟩
theorem gT_36 {M : mM} {Q : Option mV → mS → Prop} {pc : Nat} {ls : List (Option mV)} {st : List mV} {σ : mS} (hM : "PointsToRounds$Trial" = M.1.cls) (d : decode M.2.1 pc = .ok (.getfield 36, 3)) (k : J M Q (pc + 3) ls (.inr (1, 0) :: st) σ) : J M Q pc ls (.inr (3, 0) :: st) σ := J_getR mfT_36 hM rfl rfl rfl rfl d k
theorem wfT_40 : (Jvm.Cond.fieldLink "PointsToRounds$Trial" (40 : Nat) "PointsToRounds$Trial" "sets" "LPointsToRounds$Sets;") ∈ TB := TB1 (List.mem_of_getElem? (i := 179) (by decide +kernel)) rfl
theorem mfT_40 : m_F "PointsToRounds$Trial" 40 3 1 := ⟨RT, TT, 14, rfl, inT, by decide, wfT_40⟩
theorem gT_40 {M : mM} {Q : Option mV → mS → Prop} {pc : Nat} {ls : List (Option mV)} {st : List mV} {σ : mS} (hM : "PointsToRounds$Trial" = M.1.cls) (d : decode M.2.1 pc = .ok (.getfield 40, 3)) (k : J M Q (pc + 3) ls (.inr (2, 0) :: st) σ) : J M Q pc ls (.inr (3, 0) :: st) σ := J_getR mfT_40 hM rfl rfl rfl rfl d k
theorem wfT_50 : (Jvm.Cond.fieldLink "PointsToRounds$Trial" (50 : Nat) "PointsToRounds$Trial" "objects" "I") ∈ TB := TB1 (List.mem_of_getElem? (i := 190) (by decide +kernel)) rfl
theorem mfT_50 : m_F "PointsToRounds$Trial" 50 3 11 := ⟨RT, TT, 14, rfl, inT, by decide, wfT_50⟩
theorem gT_50 {M : mM} {Q : Option mV → mS → Prop} {pc : Nat} {ls : List (Option mV)} {st : List mV} {σ : mS} (hM : "PointsToRounds$Trial" = M.1.cls) (d : decode M.2.1 pc = .ok (.getfield 50, 3)) (k : J M Q (pc + 3) ls (.inl (σ 3 11) :: st) σ) : J M Q pc ls (.inr (3, 0) :: st) σ := J_getI mfT_50 hM rfl rfl rfl d k
theorem mfwT_50 : m_Fw "PointsToRounds$Trial" 50 3 11 .int := ⟨RT, TT, 14, tyT, rfl, inT, by decide, wfT_50, tyT_ok, nmT, rfl, by decide +kernel⟩
theorem pT_50 {M : mM} {Q : Option mV → mS → Prop} {pc : Nat} {ls : List (Option mV)} {st : List mV} {σ : mS} {v : Int32} (hM : "PointsToRounds$Trial" = M.1.cls) (d : decode M.2.1 pc = .ok (.putfield 50, 3)) (k : J M Q (pc + 3) ls st (m_up σ 3 11 v)) : J M Q pc ls (.inl v :: .inr (3, 0) :: st) σ := J_putI mfwT_50 hM rfl rfl rfl rfl rfl d k
theorem wfT_54 : (Jvm.Cond.fieldLink "PointsToRounds$Trial" (54 : Nat) "PointsToRounds$Trial" "frames" "I") ∈ TB := TB1 (List.mem_of_getElem? (i := 192) (by decide +kernel)) rfl
theorem mfT_54 : m_F "PointsToRounds$Trial" 54 3 12 := ⟨RT, TT, 14, rfl, inT, by decide, wfT_54⟩
theorem gT_54 {M : mM} {Q : Option mV → mS → Prop} {pc : Nat} {ls : List (Option mV)} {st : List mV} {σ : mS} (hM : "PointsToRounds$Trial" = M.1.cls) (d : decode M.2.1 pc = .ok (.getfield 54, 3)) (k : J M Q (pc + 3) ls (.inl (σ 3 12) :: st) σ) : J M Q pc ls (.inr (3, 0) :: st) σ := J_getI mfT_54 hM rfl rfl rfl d k
theorem mfwT_54 : m_Fw "PointsToRounds$Trial" 54 3 12 .int := ⟨RT, TT, 14, tyT, rfl, inT, by decide, wfT_54, tyT_ok, nmT, rfl, by decide +kernel⟩
theorem pT_54 {M : mM} {Q : Option mV → mS → Prop} {pc : Nat} {ls : List (Option mV)} {st : List mV} {σ : mS} {v : Int32} (hM : "PointsToRounds$Trial" = M.1.cls) (d : decode M.2.1 pc = .ok (.putfield 54, 3)) (k : J M Q (pc + 3) ls st (m_up σ 3 12 v)) : J M Q pc ls (.inl v :: .inr (3, 0) :: st) σ := J_putI mfwT_54 hM rfl rfl rfl rfl rfl d k
theorem wfT_57 : (Jvm.Cond.fieldLink "PointsToRounds$Trial" (57 : Nat) "PointsToRounds$Trial" "calls" "I") ∈ TB := TB1 (List.mem_of_getElem? (i := 194) (by decide +kernel)) rfl
theorem mfT_57 : m_F "PointsToRounds$Trial" 57 3 13 := ⟨RT, TT, 14, rfl, inT, by decide, wfT_57⟩
theorem gT_57 {M : mM} {Q : Option mV → mS → Prop} {pc : Nat} {ls : List (Option mV)} {st : List mV} {σ : mS} (hM : "PointsToRounds$Trial" = M.1.cls) (d : decode M.2.1 pc = .ok (.getfield 57, 3)) (k : J M Q (pc + 3) ls (.inl (σ 3 13) :: st) σ) : J M Q pc ls (.inr (3, 0) :: st) σ := J_getI mfT_57 hM rfl rfl rfl d k
theorem mfwT_57 : m_Fw "PointsToRounds$Trial" 57 3 13 .int := ⟨RT, TT, 14, tyT, rfl, inT, by decide, wfT_57, tyT_ok, nmT, rfl, by decide +kernel⟩
theorem pT_57 {M : mM} {Q : Option mV → mS → Prop} {pc : Nat} {ls : List (Option mV)} {st : List mV} {σ : mS} {v : Int32} (hM : "PointsToRounds$Trial" = M.1.cls) (d : decode M.2.1 pc = .ok (.putfield 57, 3)) (k : J M Q (pc + 3) ls st (m_up σ 3 13 v)) : J M Q pc ls (.inl v :: .inr (3, 0) :: st) σ := J_putI mfwT_57 hM rfl rfl rfl rfl rfl d k
theorem wfT_67 : (Jvm.Cond.fieldLink "PointsToRounds$Trial" (67 : Nat) "PointsToRounds$Trial" "holding" "Z") ∈ TB := TB1 (List.mem_of_getElem? (i := 189) (by decide +kernel)) rfl
theorem mfT_67 : m_F "PointsToRounds$Trial" 67 3 10 := ⟨RT, TT, 14, rfl, inT, by decide, wfT_67⟩
theorem gT_67 {M : mM} {Q : Option mV → mS → Prop} {pc : Nat} {ls : List (Option mV)} {st : List mV} {σ : mS} (hM : "PointsToRounds$Trial" = M.1.cls) (d : decode M.2.1 pc = .ok (.getfield 67, 3)) (k : J M Q (pc + 3) ls (.inl (σ 3 10) :: st) σ) : J M Q pc ls (.inr (3, 0) :: st) σ := J_getI mfT_67 hM rfl rfl rfl d k
theorem mfwT_67 : m_Fw "PointsToRounds$Trial" 67 3 10 .boolean := ⟨RT, TT, 14, tyT, rfl, inT, by decide, wfT_67, tyT_ok, nmT, rfl, by decide +kernel⟩
theorem pT_67 {M : mM} {Q : Option mV → mS → Prop} {pc : Nat} {ls : List (Option mV)} {st : List mV} {σ : mS} {v : Int32} (hM : "PointsToRounds$Trial" = M.1.cls) (hz : v = 0 ∨ v = 1) (d : decode M.2.1 pc = .ok (.putfield 67, 3)) (k : J M Q (pc + 3) ls st (m_up σ 3 10 v)) : J M Q pc ls (.inl v :: .inr (3, 0) :: st) σ := J_putI mfwT_67 hM (by rcases hz with rfl | rfl <;> decide) (by rcases hz with rfl | rfl <;> decide) rfl rfl rfl d k
theorem wfT_83 : (Jvm.Cond.fieldLink "PointsToRounds$Trial" (83 : Nat) "PointsToRounds$Program" "length" "[I") ∈ TB := TB1 (List.mem_of_getElem? (i := 101) (by decide +kernel)) rfl
theorem mfT_83 : m_F "PointsToRounds$Trial" 83 1 13 := ⟨RP, TP, 15, rfl, inP, by decide, wfT_83⟩
theorem gT_83 {M : mM} {Q : Option mV → mS → Prop} {pc : Nat} {ls : List (Option mV)} {st : List mV} {σ : mS} (hM : "PointsToRounds$Trial" = M.1.cls) (d : decode M.2.1 pc = .ok (.getfield 83, 3)) (k : J M Q (pc + 3) ls (.inr (11, 0) :: st) σ) : J M Q pc ls (.inr (1, 0) :: st) σ := J_getR mfT_83 hM rfl rfl rfl rfl d k
theorem wfT_96 : (Jvm.Cond.fieldLink "PointsToRounds$Trial" (96 : Nat) "PointsToRounds$Statement" "kind" "I") ∈ TB := TB1 (List.mem_of_getElem? (i := 37) (by decide +kernel)) rfl
theorem mfT_96 : m_F "PointsToRounds$Trial" 96 4 2 := ⟨RG, TG, 8, rfl, inG, by decide, wfT_96⟩
theorem gT_96 {M : mM} {Q : Option mV → mS → Prop} {pc : Nat} {ls : List (Option mV)} {st : List mV} {σ : mS} {n : Nat} (hM : "PointsToRounds$Trial" = M.1.cls) (d : decode M.2.1 pc = .ok (.getfield 96, 3)) (k : J M Q (pc + 3) ls (.inl (σ (59 + n % 60) 2) :: st) σ) : J M Q pc ls (.inr (59, n) :: st) σ := J_getI mfT_96 hM (o_ci_st n) (by rw [o_n_st]; rfl) (o_r_st n 2) d (by rw [m_cl_st]; exact k)
theorem wfT_104 : (Jvm.Cond.fieldLink "PointsToRounds$Trial" (104 : Nat) "PointsToRounds$Statement" "p" "I") ∈ TB := TB1 (List.mem_of_getElem? (i := 42) (by decide +kernel)) rfl
theorem mfT_104 : m_F "PointsToRounds$Trial" 104 4 3 := ⟨RG, TG, 8, rfl, inG, by decide, wfT_104⟩
theorem gT_104 {M : mM} {Q : Option mV → mS → Prop} {pc : Nat} {ls : List (Option mV)} {st : List mV} {σ : mS} {n : Nat} (hM : "PointsToRounds$Trial" = M.1.cls) (d : decode M.2.1 pc = .ok (.getfield 104, 3)) (k : J M Q (pc + 3) ls (.inl (σ (59 + n % 60) 3) :: st) σ) : J M Q pc ls (.inr (59, n) :: st) σ := J_getI mfT_104 hM (o_ci_st n) (by rw [o_n_st]; rfl) (o_r_st n 3) d (by rw [m_cl_st]; exact k)
theorem wfT_107 : (Jvm.Cond.fieldLink "PointsToRounds$Trial" (107 : Nat) "PointsToRounds$Statement" "q" "I") ∈ TB := TB1 (List.mem_of_getElem? (i := 45) (by decide +kernel)) rfl
theorem mfT_107 : m_F "PointsToRounds$Trial" 107 4 4 := ⟨RG, TG, 8, rfl, inG, by decide, wfT_107⟩
theorem gT_107 {M : mM} {Q : Option mV → mS → Prop} {pc : Nat} {ls : List (Option mV)} {st : List mV} {σ : mS} {n : Nat} (hM : "PointsToRounds$Trial" = M.1.cls) (d : decode M.2.1 pc = .ok (.getfield 107, 3)) (k : J M Q (pc + 3) ls (.inl (σ (59 + n % 60) 4) :: st) σ) : J M Q pc ls (.inr (59, n) :: st) σ := J_getI mfT_107 hM (o_ci_st n) (by rw [o_n_st]; rfl) (o_r_st n 4) d (by rw [m_cl_st]; exact k)
theorem wfT_110 : (Jvm.Cond.fieldLink "PointsToRounds$Trial" (110 : Nat) "PointsToRounds$Statement" "\u0072" "I") ∈ TB := TB1 (List.mem_of_getElem? (i := 50) (by decide +kernel)) rfl
theorem mfT_110 : m_F "PointsToRounds$Trial" 110 4 5 := ⟨RG, TG, 8, rfl, inG, by decide, wfT_110⟩
theorem gT_110 {M : mM} {Q : Option mV → mS → Prop} {pc : Nat} {ls : List (Option mV)} {st : List mV} {σ : mS} {n : Nat} (hM : "PointsToRounds$Trial" = M.1.cls) (d : decode M.2.1 pc = .ok (.getfield 110, 3)) (k : J M Q (pc + 3) ls (.inl (σ (59 + n % 60) 5) :: st) σ) : J M Q pc ls (.inr (59, n) :: st) σ := J_getI mfT_110 hM (o_ci_st n) (by rw [o_n_st]; rfl) (o_r_st n 5) d (by rw [m_cl_st]; exact k)
theorem wfT_129 : (Jvm.Cond.fieldLink "PointsToRounds$Trial" (129 : Nat) "PointsToRounds$Statement" "site" "I") ∈ TB := TB1 (List.mem_of_getElem? (i := 33) (by decide +kernel)) rfl
theorem mfT_129 : m_F "PointsToRounds$Trial" 129 4 1 := ⟨RG, TG, 8, rfl, inG, by decide, wfT_129⟩
theorem gT_129 {M : mM} {Q : Option mV → mS → Prop} {pc : Nat} {ls : List (Option mV)} {st : List mV} {σ : mS} {n : Nat} (hM : "PointsToRounds$Trial" = M.1.cls) (d : decode M.2.1 pc = .ok (.getfield 129, 3)) (k : J M Q (pc + 3) ls (.inl (σ (59 + n % 60) 1) :: st) σ) : J M Q pc ls (.inr (59, n) :: st) σ := J_getI mfT_129 hM (o_ci_st n) (by rw [o_n_st]; rfl) (o_r_st n 1) d (by rw [m_cl_st]; exact k)
theorem wfT_132 : (Jvm.Cond.fieldLink "PointsToRounds$Trial" (132 : Nat) "PointsToRounds$Program" "sitesUnder" "[I") ∈ TB := TB1 (List.mem_of_getElem? (i := 91) (by decide +kernel)) rfl
theorem mfT_132 : m_F "PointsToRounds$Trial" 132 1 7 := ⟨RP, TP, 15, rfl, inP, by decide, wfT_132⟩
theorem gT_132 {M : mM} {Q : Option mV → mS → Prop} {pc : Nat} {ls : List (Option mV)} {st : List mV} {σ : mS} (hM : "PointsToRounds$Trial" = M.1.cls) (d : decode M.2.1 pc = .ok (.getfield 132, 3)) (k : J M Q (pc + 3) ls (.inr (6, 0) :: st) σ) : J M Q pc ls (.inr (1, 0) :: st) σ := J_getR mfT_132 hM rfl rfl rfl rfl d k
theorem wfT_158 : (Jvm.Cond.fieldLink "PointsToRounds$Trial" (158 : Nat) "PointsToRounds$Statement" "s" "I") ∈ TB := TB1 (List.mem_of_getElem? (i := 54) (by decide +kernel)) rfl
theorem mfT_158 : m_F "PointsToRounds$Trial" 158 4 6 := ⟨RG, TG, 8, rfl, inG, by decide, wfT_158⟩
theorem gT_158 {M : mM} {Q : Option mV → mS → Prop} {pc : Nat} {ls : List (Option mV)} {st : List mV} {σ : mS} {n : Nat} (hM : "PointsToRounds$Trial" = M.1.cls) (d : decode M.2.1 pc = .ok (.getfield 158, 3)) (k : J M Q (pc + 3) ls (.inl (σ (59 + n % 60) 6) :: st) σ) : J M Q pc ls (.inr (59, n) :: st) σ := J_getI mfT_158 hM (o_ci_st n) (by rw [o_n_st]; rfl) (o_r_st n 6) d (by rw [m_cl_st]; exact k)
theorem wfT_161 : (Jvm.Cond.fieldLink "PointsToRounds$Trial" (161 : Nat) "PointsToRounds$Statement" "t" "I") ∈ TB := TB1 (List.mem_of_getElem? (i := 57) (by decide +kernel)) rfl
theorem mfT_161 : m_F "PointsToRounds$Trial" 161 4 7 := ⟨RG, TG, 8, rfl, inG, by decide, wfT_161⟩
theorem gT_161 {M : mM} {Q : Option mV → mS → Prop} {pc : Nat} {ls : List (Option mV)} {st : List mV} {σ : mS} {n : Nat} (hM : "PointsToRounds$Trial" = M.1.cls) (d : decode M.2.1 pc = .ok (.getfield 161, 3)) (k : J M Q (pc + 3) ls (.inl (σ (59 + n % 60) 7) :: st) σ) : J M Q pc ls (.inr (59, n) :: st) σ := J_getI mfT_161 hM (o_ci_st n) (by rw [o_n_st]; rfl) (o_r_st n 7) d (by rw [m_cl_st]; exact k)
theorem wfM_7 : (Jvm.Cond.fieldLink "PointsToRoundsModel" (7 : Nat) "PointsToRoundsModel" "parents" "[I") ∈ TB := TB3 (List.mem_of_getElem? (i := 87) (by decide +kernel)) rfl
theorem mfM_7 : m_F "PointsToRoundsModel" 7 5 1 := ⟨RM, TM, 44, rfl, inM, by decide, wfM_7⟩
theorem gM_7 {M : mM} {Q : Option mV → mS → Prop} {pc : Nat} {ls : List (Option mV)} {st : List mV} {σ : mS} (hM : "PointsToRoundsModel" = M.1.cls) (d : decode M.2.1 pc = .ok (.getfield 7, 3)) (k : J M Q (pc + 3) ls (.inr (26, 0) :: st) σ) : J M Q pc ls (.inr (25, 0) :: st) σ := J_getR mfM_7 hM rfl rfl rfl rfl d k
theorem wfM_13 : (Jvm.Cond.fieldLink "PointsToRoundsModel" (13 : Nat) "PointsToRoundsModel" "fieldOf" "[I") ∈ TB := TB3 (List.mem_of_getElem? (i := 89) (by decide +kernel)) rfl
theorem mfM_13 : m_F "PointsToRoundsModel" 13 5 3 := ⟨RM, TM, 44, rfl, inM, by decide, wfM_13⟩
theorem gM_13 {M : mM} {Q : Option mV → mS → Prop} {pc : Nat} {ls : List (Option mV)} {st : List mV} {σ : mS} (hM : "PointsToRoundsModel" = M.1.cls) (d : decode M.2.1 pc = .ok (.getfield 13, 3)) (k : J M Q (pc + 3) ls (.inr (27, 0) :: st) σ) : J M Q pc ls (.inr (25, 0) :: st) σ := J_getR mfM_13 hM rfl rfl rfl rfl d k
theorem wfM_16 : (Jvm.Cond.fieldLink "PointsToRoundsModel" (16 : Nat) "PointsToRoundsModel" "methodOf" "[I") ∈ TB := TB3 (List.mem_of_getElem? (i := 91) (by decide +kernel)) rfl
theorem mfM_16 : m_F "PointsToRoundsModel" 16 5 5 := ⟨RM, TM, 44, rfl, inM, by decide, wfM_16⟩
theorem gM_16 {M : mM} {Q : Option mV → mS → Prop} {pc : Nat} {ls : List (Option mV)} {st : List mV} {σ : mS} (hM : "PointsToRoundsModel" = M.1.cls) (d : decode M.2.1 pc = .ok (.getfield 16, 3)) (k : J M Q (pc + 3) ls (.inr (28, 0) :: st) σ) : J M Q pc ls (.inr (25, 0) :: st) σ := J_getR mfM_16 hM rfl rfl rfl rfl d k
theorem wfM_19 : (Jvm.Cond.fieldLink "PointsToRoundsModel" (19 : Nat) "PointsToRoundsModel" "signatures" "[I") ∈ TB := TB3 (List.mem_of_getElem? (i := 92) (by decide +kernel)) rfl
theorem mfM_19 : m_F "PointsToRoundsModel" 19 5 6 := ⟨RM, TM, 44, rfl, inM, by decide, wfM_19⟩
theorem gM_19 {M : mM} {Q : Option mV → mS → Prop} {pc : Nat} {ls : List (Option mV)} {st : List mV} {σ : mS} (hM : "PointsToRoundsModel" = M.1.cls) (d : decode M.2.1 pc = .ok (.getfield 19, 3)) (k : J M Q (pc + 3) ls (.inr (29, 0) :: st) σ) : J M Q pc ls (.inr (25, 0) :: st) σ := J_getR mfM_19 hM rfl rfl rfl rfl d k
theorem wfM_22 : (Jvm.Cond.fieldLink "PointsToRoundsModel" (22 : Nat) "PointsToRoundsModel" "owner" "[I") ∈ TB := TB3 (List.mem_of_getElem? (i := 94) (by decide +kernel)) rfl
theorem mfM_22 : m_F "PointsToRoundsModel" 22 5 8 := ⟨RM, TM, 44, rfl, inM, by decide, wfM_22⟩
theorem gM_22 {M : mM} {Q : Option mV → mS → Prop} {pc : Nat} {ls : List (Option mV)} {st : List mV} {σ : mS} (hM : "PointsToRoundsModel" = M.1.cls) (d : decode M.2.1 pc = .ok (.getfield 22, 3)) (k : J M Q (pc + 3) ls (.inr (30, 0) :: st) σ) : J M Q pc ls (.inr (25, 0) :: st) σ := J_getR mfM_22 hM rfl rfl rfl rfl d k
theorem wfM_25 : (Jvm.Cond.fieldLink "PointsToRoundsModel" (25 : Nat) "PointsToRoundsModel" "kinds" "[I") ∈ TB := TB3 (List.mem_of_getElem? (i := 95) (by decide +kernel)) rfl
theorem mfM_25 : m_F "PointsToRoundsModel" 25 5 9 := ⟨RM, TM, 44, rfl, inM, by decide, wfM_25⟩
theorem gM_25 {M : mM} {Q : Option mV → mS → Prop} {pc : Nat} {ls : List (Option mV)} {st : List mV} {σ : mS} (hM : "PointsToRoundsModel" = M.1.cls) (d : decode M.2.1 pc = .ok (.getfield 25, 3)) (k : J M Q (pc + 3) ls (.inr (31, 0) :: st) σ) : J M Q pc ls (.inr (25, 0) :: st) σ := J_getR mfM_25 hM rfl rfl rfl rfl d k
theorem wfM_28 : (Jvm.Cond.fieldLink "PointsToRoundsModel" (28 : Nat) "PointsToRoundsModel" "pOf" "[I") ∈ TB := TB3 (List.mem_of_getElem? (i := 96) (by decide +kernel)) rfl
theorem mfM_28 : m_F "PointsToRoundsModel" 28 5 10 := ⟨RM, TM, 44, rfl, inM, by decide, wfM_28⟩
theorem gM_28 {M : mM} {Q : Option mV → mS → Prop} {pc : Nat} {ls : List (Option mV)} {st : List mV} {σ : mS} (hM : "PointsToRoundsModel" = M.1.cls) (d : decode M.2.1 pc = .ok (.getfield 28, 3)) (k : J M Q (pc + 3) ls (.inr (32, 0) :: st) σ) : J M Q pc ls (.inr (25, 0) :: st) σ := J_getR mfM_28 hM rfl rfl rfl rfl d k
theorem wfM_31 : (Jvm.Cond.fieldLink "PointsToRoundsModel" (31 : Nat) "PointsToRoundsModel" "qOf" "[I") ∈ TB := TB3 (List.mem_of_getElem? (i := 97) (by decide +kernel)) rfl
theorem mfM_31 : m_F "PointsToRoundsModel" 31 5 11 := ⟨RM, TM, 44, rfl, inM, by decide, wfM_31⟩
theorem gM_31 {M : mM} {Q : Option mV → mS → Prop} {pc : Nat} {ls : List (Option mV)} {st : List mV} {σ : mS} (hM : "PointsToRoundsModel" = M.1.cls) (d : decode M.2.1 pc = .ok (.getfield 31, 3)) (k : J M Q (pc + 3) ls (.inr (33, 0) :: st) σ) : J M Q pc ls (.inr (25, 0) :: st) σ := J_getR mfM_31 hM rfl rfl rfl rfl d k
theorem wfM_34 : (Jvm.Cond.fieldLink "PointsToRoundsModel" (34 : Nat) "PointsToRoundsModel" "rOf" "[I") ∈ TB := TB3 (List.mem_of_getElem? (i := 98) (by decide +kernel)) rfl
theorem mfM_34 : m_F "PointsToRoundsModel" 34 5 12 := ⟨RM, TM, 44, rfl, inM, by decide, wfM_34⟩
theorem gM_34 {M : mM} {Q : Option mV → mS → Prop} {pc : Nat} {ls : List (Option mV)} {st : List mV} {σ : mS} (hM : "PointsToRoundsModel" = M.1.cls) (d : decode M.2.1 pc = .ok (.getfield 34, 3)) (k : J M Q (pc + 3) ls (.inr (34, 0) :: st) σ) : J M Q pc ls (.inr (25, 0) :: st) σ := J_getR mfM_34 hM rfl rfl rfl rfl d k
theorem wfM_37 : (Jvm.Cond.fieldLink "PointsToRoundsModel" (37 : Nat) "PointsToRoundsModel" "sOf" "[I") ∈ TB := TB3 (List.mem_of_getElem? (i := 99) (by decide +kernel)) rfl
theorem mfM_37 : m_F "PointsToRoundsModel" 37 5 13 := ⟨RM, TM, 44, rfl, inM, by decide, wfM_37⟩
theorem gM_37 {M : mM} {Q : Option mV → mS → Prop} {pc : Nat} {ls : List (Option mV)} {st : List mV} {σ : mS} (hM : "PointsToRoundsModel" = M.1.cls) (d : decode M.2.1 pc = .ok (.getfield 37, 3)) (k : J M Q (pc + 3) ls (.inr (35, 0) :: st) σ) : J M Q pc ls (.inr (25, 0) :: st) σ := J_getR mfM_37 hM rfl rfl rfl rfl d k
theorem wfM_40 : (Jvm.Cond.fieldLink "PointsToRoundsModel" (40 : Nat) "PointsToRoundsModel" "tOf" "[I") ∈ TB := TB3 (List.mem_of_getElem? (i := 100) (by decide +kernel)) rfl
theorem mfM_40 : m_F "PointsToRoundsModel" 40 5 14 := ⟨RM, TM, 44, rfl, inM, by decide, wfM_40⟩
theorem gM_40 {M : mM} {Q : Option mV → mS → Prop} {pc : Nat} {ls : List (Option mV)} {st : List mV} {σ : mS} (hM : "PointsToRoundsModel" = M.1.cls) (d : decode M.2.1 pc = .ok (.getfield 40, 3)) (k : J M Q (pc + 3) ls (.inr (36, 0) :: st) σ) : J M Q pc ls (.inr (25, 0) :: st) σ := J_getR mfM_40 hM rfl rfl rfl rfl d k
theorem wfM_43 : (Jvm.Cond.fieldLink "PointsToRoundsModel" (43 : Nat) "PointsToRoundsModel" "siteOf" "[I") ∈ TB := TB3 (List.mem_of_getElem? (i := 101) (by decide +kernel)) rfl
theorem mfM_43 : m_F "PointsToRoundsModel" 43 5 15 := ⟨RM, TM, 44, rfl, inM, by decide, wfM_43⟩
theorem gM_43 {M : mM} {Q : Option mV → mS → Prop} {pc : Nat} {ls : List (Option mV)} {st : List mV} {σ : mS} (hM : "PointsToRoundsModel" = M.1.cls) (d : decode M.2.1 pc = .ok (.getfield 43, 3)) (k : J M Q (pc + 3) ls (.inr (37, 0) :: st) σ) : J M Q pc ls (.inr (25, 0) :: st) σ := J_getR mfM_43 hM rfl rfl rfl rfl d k
theorem wfM_46 : (Jvm.Cond.fieldLink "PointsToRoundsModel" (46 : Nat) "PointsToRoundsModel" "siteClass" "[I") ∈ TB := TB3 (List.mem_of_getElem? (i := 103) (by decide +kernel)) rfl
theorem mfM_46 : m_F "PointsToRoundsModel" 46 5 17 := ⟨RM, TM, 44, rfl, inM, by decide, wfM_46⟩
theorem gM_46 {M : mM} {Q : Option mV → mS → Prop} {pc : Nat} {ls : List (Option mV)} {st : List mV} {σ : mS} (hM : "PointsToRoundsModel" = M.1.cls) (d : decode M.2.1 pc = .ok (.getfield 46, 3)) (k : J M Q (pc + 3) ls (.inr (38, 0) :: st) σ) : J M Q pc ls (.inr (25, 0) :: st) σ := J_getR mfM_46 hM rfl rfl rfl rfl d k
theorem wfM_49 : (Jvm.Cond.fieldLink "PointsToRoundsModel" (49 : Nat) "PointsToRoundsModel" "nameNow" "[I") ∈ TB := TB3 (List.mem_of_getElem? (i := 106) (by decide +kernel)) rfl
theorem mfM_49 : m_F "PointsToRoundsModel" 49 5 20 := ⟨RM, TM, 44, rfl, inM, by decide, wfM_49⟩
theorem gM_49 {M : mM} {Q : Option mV → mS → Prop} {pc : Nat} {ls : List (Option mV)} {st : List mV} {σ : mS} (hM : "PointsToRoundsModel" = M.1.cls) (d : decode M.2.1 pc = .ok (.getfield 49, 3)) (k : J M Q (pc + 3) ls (.inr (39, 0) :: st) σ) : J M Q pc ls (.inr (25, 0) :: st) σ := J_getR mfM_49 hM rfl rfl rfl rfl d k
theorem wfM_52 : (Jvm.Cond.fieldLink "PointsToRoundsModel" (52 : Nat) "PointsToRoundsModel" "nameThen" "[I") ∈ TB := TB3 (List.mem_of_getElem? (i := 107) (by decide +kernel)) rfl
theorem mfM_52 : m_F "PointsToRoundsModel" 52 5 21 := ⟨RM, TM, 44, rfl, inM, by decide, wfM_52⟩
theorem gM_52 {M : mM} {Q : Option mV → mS → Prop} {pc : Nat} {ls : List (Option mV)} {st : List mV} {σ : mS} (hM : "PointsToRoundsModel" = M.1.cls) (d : decode M.2.1 pc = .ok (.getfield 52, 3)) (k : J M Q (pc + 3) ls (.inr (40, 0) :: st) σ) : J M Q pc ls (.inr (25, 0) :: st) σ := J_getR mfM_52 hM rfl rfl rfl rfl d k
theorem wfM_55 : (Jvm.Cond.fieldLink "PointsToRoundsModel" (55 : Nat) "PointsToRoundsModel" "fieldNow" "[I") ∈ TB := TB3 (List.mem_of_getElem? (i := 108) (by decide +kernel)) rfl
theorem mfM_55 : m_F "PointsToRoundsModel" 55 5 22 := ⟨RM, TM, 44, rfl, inM, by decide, wfM_55⟩
theorem gM_55 {M : mM} {Q : Option mV → mS → Prop} {pc : Nat} {ls : List (Option mV)} {st : List mV} {σ : mS} (hM : "PointsToRoundsModel" = M.1.cls) (d : decode M.2.1 pc = .ok (.getfield 55, 3)) (k : J M Q (pc + 3) ls (.inr (41, 0) :: st) σ) : J M Q pc ls (.inr (25, 0) :: st) σ := J_getR mfM_55 hM rfl rfl rfl rfl d k
theorem wfM_58 : (Jvm.Cond.fieldLink "PointsToRoundsModel" (58 : Nat) "PointsToRoundsModel" "fieldThen" "[I") ∈ TB := TB3 (List.mem_of_getElem? (i := 109) (by decide +kernel)) rfl
theorem mfM_58 : m_F "PointsToRoundsModel" 58 5 23 := ⟨RM, TM, 44, rfl, inM, by decide, wfM_58⟩
theorem gM_58 {M : mM} {Q : Option mV → mS → Prop} {pc : Nat} {ls : List (Option mV)} {st : List mV} {σ : mS} (hM : "PointsToRoundsModel" = M.1.cls) (d : decode M.2.1 pc = .ok (.getfield 58, 3)) (k : J M Q (pc + 3) ls (.inr (42, 0) :: st) σ) : J M Q pc ls (.inr (25, 0) :: st) σ := J_getR mfM_58 hM rfl rfl rfl rfl d k
theorem wfM_61 : (Jvm.Cond.fieldLink "PointsToRoundsModel" (61 : Nat) "PointsToRoundsModel" "elementNow" "[I") ∈ TB := TB3 (List.mem_of_getElem? (i := 110) (by decide +kernel)) rfl
theorem mfM_61 : m_F "PointsToRoundsModel" 61 5 24 := ⟨RM, TM, 44, rfl, inM, by decide, wfM_61⟩
theorem gM_61 {M : mM} {Q : Option mV → mS → Prop} {pc : Nat} {ls : List (Option mV)} {st : List mV} {σ : mS} (hM : "PointsToRoundsModel" = M.1.cls) (d : decode M.2.1 pc = .ok (.getfield 61, 3)) (k : J M Q (pc + 3) ls (.inr (43, 0) :: st) σ) : J M Q pc ls (.inr (25, 0) :: st) σ := J_getR mfM_61 hM rfl rfl rfl rfl d k
theorem wfM_64 : (Jvm.Cond.fieldLink "PointsToRoundsModel" (64 : Nat) "PointsToRoundsModel" "elementThen" "[I") ∈ TB := TB3 (List.mem_of_getElem? (i := 111) (by decide +kernel)) rfl
theorem mfM_64 : m_F "PointsToRoundsModel" 64 5 25 := ⟨RM, TM, 44, rfl, inM, by decide, wfM_64⟩
theorem gM_64 {M : mM} {Q : Option mV → mS → Prop} {pc : Nat} {ls : List (Option mV)} {st : List mV} {σ : mS} (hM : "PointsToRoundsModel" = M.1.cls) (d : decode M.2.1 pc = .ok (.getfield 64, 3)) (k : J M Q (pc + 3) ls (.inr (44, 0) :: st) σ) : J M Q pc ls (.inr (25, 0) :: st) σ := J_getR mfM_64 hM rfl rfl rfl rfl d k
theorem wfM_67 : (Jvm.Cond.fieldLink "PointsToRoundsModel" (67 : Nat) "PointsToRoundsModel" "staticNow" "[I") ∈ TB := TB3 (List.mem_of_getElem? (i := 112) (by decide +kernel)) rfl
theorem mfM_67 : m_F "PointsToRoundsModel" 67 5 26 := ⟨RM, TM, 44, rfl, inM, by decide, wfM_67⟩
theorem gM_67 {M : mM} {Q : Option mV → mS → Prop} {pc : Nat} {ls : List (Option mV)} {st : List mV} {σ : mS} (hM : "PointsToRoundsModel" = M.1.cls) (d : decode M.2.1 pc = .ok (.getfield 67, 3)) (k : J M Q (pc + 3) ls (.inr (45, 0) :: st) σ) : J M Q pc ls (.inr (25, 0) :: st) σ := J_getR mfM_67 hM rfl rfl rfl rfl d k
theorem wfM_70 : (Jvm.Cond.fieldLink "PointsToRoundsModel" (70 : Nat) "PointsToRoundsModel" "staticThen" "[I") ∈ TB := TB3 (List.mem_of_getElem? (i := 113) (by decide +kernel)) rfl
theorem mfM_70 : m_F "PointsToRoundsModel" 70 5 27 := ⟨RM, TM, 44, rfl, inM, by decide, wfM_70⟩
theorem gM_70 {M : mM} {Q : Option mV → mS → Prop} {pc : Nat} {ls : List (Option mV)} {st : List mV} {σ : mS} (hM : "PointsToRoundsModel" = M.1.cls) (d : decode M.2.1 pc = .ok (.getfield 70, 3)) (k : J M Q (pc + 3) ls (.inr (46, 0) :: st) σ) : J M Q pc ls (.inr (25, 0) :: st) σ := J_getR mfM_70 hM rfl rfl rfl rfl d k
theorem wfM_73 : (Jvm.Cond.fieldLink "PointsToRoundsModel" (73 : Nat) "PointsToRoundsModel" "reachNow" "[I") ∈ TB := TB3 (List.mem_of_getElem? (i := 114) (by decide +kernel)) rfl
theorem mfM_73 : m_F "PointsToRoundsModel" 73 5 28 := ⟨RM, TM, 44, rfl, inM, by decide, wfM_73⟩
theorem gM_73 {M : mM} {Q : Option mV → mS → Prop} {pc : Nat} {ls : List (Option mV)} {st : List mV} {σ : mS} (hM : "PointsToRoundsModel" = M.1.cls) (d : decode M.2.1 pc = .ok (.getfield 73, 3)) (k : J M Q (pc + 3) ls (.inr (47, 0) :: st) σ) : J M Q pc ls (.inr (25, 0) :: st) σ := J_getR mfM_73 hM rfl rfl rfl rfl d k
theorem wfM_76 : (Jvm.Cond.fieldLink "PointsToRoundsModel" (76 : Nat) "PointsToRoundsModel" "reachThen" "[I") ∈ TB := TB3 (List.mem_of_getElem? (i := 115) (by decide +kernel)) rfl
theorem mfM_76 : m_F "PointsToRoundsModel" 76 5 29 := ⟨RM, TM, 44, rfl, inM, by decide, wfM_76⟩
theorem gM_76 {M : mM} {Q : Option mV → mS → Prop} {pc : Nat} {ls : List (Option mV)} {st : List mV} {σ : mS} (hM : "PointsToRoundsModel" = M.1.cls) (d : decode M.2.1 pc = .ok (.getfield 76, 3)) (k : J M Q (pc + 3) ls (.inr (48, 0) :: st) σ) : J M Q pc ls (.inr (25, 0) :: st) σ := J_getR mfM_76 hM rfl rfl rfl rfl d k
theorem wfM_79 : (Jvm.Cond.fieldLink "PointsToRoundsModel" (79 : Nat) "PointsToRoundsModel" "whenOf" "[I") ∈ TB := TB3 (List.mem_of_getElem? (i := 116) (by decide +kernel)) rfl
theorem mfM_79 : m_F "PointsToRoundsModel" 79 5 30 := ⟨RM, TM, 44, rfl, inM, by decide, wfM_79⟩
theorem gM_79 {M : mM} {Q : Option mV → mS → Prop} {pc : Nat} {ls : List (Option mV)} {st : List mV} {σ : mS} (hM : "PointsToRoundsModel" = M.1.cls) (d : decode M.2.1 pc = .ok (.getfield 79, 3)) (k : J M Q (pc + 3) ls (.inr (49, 0) :: st) σ) : J M Q pc ls (.inr (25, 0) :: st) σ := J_getR mfM_79 hM rfl rfl rfl rfl d k
theorem wfM_82 : (Jvm.Cond.fieldLink "PointsToRoundsModel" (82 : Nat) "PointsToRoundsModel" "objectSite" "[I") ∈ TB := TB3 (List.mem_of_getElem? (i := 119) (by decide +kernel)) rfl
theorem mfM_82 : m_F "PointsToRoundsModel" 82 5 33 := ⟨RM, TM, 44, rfl, inM, by decide, wfM_82⟩
theorem gM_82 {M : mM} {Q : Option mV → mS → Prop} {pc : Nat} {ls : List (Option mV)} {st : List mV} {σ : mS} (hM : "PointsToRoundsModel" = M.1.cls) (d : decode M.2.1 pc = .ok (.getfield 82, 3)) (k : J M Q (pc + 3) ls (.inr (50, 0) :: st) σ) : J M Q pc ls (.inr (25, 0) :: st) σ := J_getR mfM_82 hM rfl rfl rfl rfl d k
theorem wfM_85 : (Jvm.Cond.fieldLink "PointsToRoundsModel" (85 : Nat) "PointsToRoundsModel" "objectField" "[I") ∈ TB := TB3 (List.mem_of_getElem? (i := 120) (by decide +kernel)) rfl
theorem mfM_85 : m_F "PointsToRoundsModel" 85 5 34 := ⟨RM, TM, 44, rfl, inM, by decide, wfM_85⟩
theorem gM_85 {M : mM} {Q : Option mV → mS → Prop} {pc : Nat} {ls : List (Option mV)} {st : List mV} {σ : mS} (hM : "PointsToRoundsModel" = M.1.cls) (d : decode M.2.1 pc = .ok (.getfield 85, 3)) (k : J M Q (pc + 3) ls (.inr (51, 0) :: st) σ) : J M Q pc ls (.inr (25, 0) :: st) σ := J_getR mfM_85 hM rfl rfl rfl rfl d k
theorem wfM_88 : (Jvm.Cond.fieldLink "PointsToRoundsModel" (88 : Nat) "PointsToRoundsModel" "objectElement" "[I") ∈ TB := TB3 (List.mem_of_getElem? (i := 121) (by decide +kernel)) rfl
theorem mfM_88 : m_F "PointsToRoundsModel" 88 5 35 := ⟨RM, TM, 44, rfl, inM, by decide, wfM_88⟩
theorem gM_88 {M : mM} {Q : Option mV → mS → Prop} {pc : Nat} {ls : List (Option mV)} {st : List mV} {σ : mS} (hM : "PointsToRoundsModel" = M.1.cls) (d : decode M.2.1 pc = .ok (.getfield 88, 3)) (k : J M Q (pc + 3) ls (.inr (52, 0) :: st) σ) : J M Q pc ls (.inr (25, 0) :: st) σ := J_getR mfM_88 hM rfl rfl rfl rfl d k
theorem wfM_91 : (Jvm.Cond.fieldLink "PointsToRoundsModel" (91 : Nat) "PointsToRoundsModel" "statics" "[I") ∈ TB := TB3 (List.mem_of_getElem? (i := 122) (by decide +kernel)) rfl
theorem mfM_91 : m_F "PointsToRoundsModel" 91 5 36 := ⟨RM, TM, 44, rfl, inM, by decide, wfM_91⟩
theorem gM_91 {M : mM} {Q : Option mV → mS → Prop} {pc : Nat} {ls : List (Option mV)} {st : List mV} {σ : mS} (hM : "PointsToRoundsModel" = M.1.cls) (d : decode M.2.1 pc = .ok (.getfield 91, 3)) (k : J M Q (pc + 3) ls (.inr (53, 0) :: st) σ) : J M Q pc ls (.inr (25, 0) :: st) σ := J_getR mfM_91 hM rfl rfl rfl rfl d k
theorem wfM_94 : (Jvm.Cond.fieldLink "PointsToRoundsModel" (94 : Nat) "PointsToRoundsModel" "frameMethod" "[I") ∈ TB := TB3 (List.mem_of_getElem? (i := 124) (by decide +kernel)) rfl
theorem mfM_94 : m_F "PointsToRoundsModel" 94 5 38 := ⟨RM, TM, 44, rfl, inM, by decide, wfM_94⟩
theorem gM_94 {M : mM} {Q : Option mV → mS → Prop} {pc : Nat} {ls : List (Option mV)} {st : List mV} {σ : mS} (hM : "PointsToRoundsModel" = M.1.cls) (d : decode M.2.1 pc = .ok (.getfield 94, 3)) (k : J M Q (pc + 3) ls (.inr (54, 0) :: st) σ) : J M Q pc ls (.inr (25, 0) :: st) σ := J_getR mfM_94 hM rfl rfl rfl rfl d k
theorem wfM_97 : (Jvm.Cond.fieldLink "PointsToRoundsModel" (97 : Nat) "PointsToRoundsModel" "frameContext" "[I") ∈ TB := TB3 (List.mem_of_getElem? (i := 125) (by decide +kernel)) rfl
theorem mfM_97 : m_F "PointsToRoundsModel" 97 5 39 := ⟨RM, TM, 44, rfl, inM, by decide, wfM_97⟩
theorem gM_97 {M : mM} {Q : Option mV → mS → Prop} {pc : Nat} {ls : List (Option mV)} {st : List mV} {σ : mS} (hM : "PointsToRoundsModel" = M.1.cls) (d : decode M.2.1 pc = .ok (.getfield 97, 3)) (k : J M Q (pc + 3) ls (.inr (55, 0) :: st) σ) : J M Q pc ls (.inr (25, 0) :: st) σ := J_getR mfM_97 hM rfl rfl rfl rfl d k
theorem wfM_100 : (Jvm.Cond.fieldLink "PointsToRoundsModel" (100 : Nat) "PointsToRoundsModel" "frameTo" "[I") ∈ TB := TB3 (List.mem_of_getElem? (i := 126) (by decide +kernel)) rfl
theorem mfM_100 : m_F "PointsToRoundsModel" 100 5 40 := ⟨RM, TM, 44, rfl, inM, by decide, wfM_100⟩
theorem gM_100 {M : mM} {Q : Option mV → mS → Prop} {pc : Nat} {ls : List (Option mV)} {st : List mV} {σ : mS} (hM : "PointsToRoundsModel" = M.1.cls) (d : decode M.2.1 pc = .ok (.getfield 100, 3)) (k : J M Q (pc + 3) ls (.inr (56, 0) :: st) σ) : J M Q pc ls (.inr (25, 0) :: st) σ := J_getR mfM_100 hM rfl rfl rfl rfl d k
theorem wfM_103 : (Jvm.Cond.fieldLink "PointsToRoundsModel" (103 : Nat) "PointsToRoundsModel" "frameName" "[I") ∈ TB := TB3 (List.mem_of_getElem? (i := 127) (by decide +kernel)) rfl
theorem mfM_103 : m_F "PointsToRoundsModel" 103 5 41 := ⟨RM, TM, 44, rfl, inM, by decide, wfM_103⟩
theorem gM_103 {M : mM} {Q : Option mV → mS → Prop} {pc : Nat} {ls : List (Option mV)} {st : List mV} {σ : mS} (hM : "PointsToRoundsModel" = M.1.cls) (d : decode M.2.1 pc = .ok (.getfield 103, 3)) (k : J M Q (pc + 3) ls (.inr (57, 0) :: st) σ) : J M Q pc ls (.inr (25, 0) :: st) σ := J_getR mfM_103 hM rfl rfl rfl rfl d k
theorem wfM_106 : (Jvm.Cond.fieldLink "PointsToRoundsModel" (106 : Nat) "PointsToRoundsModel" "metOf" "[I") ∈ TB := TB3 (List.mem_of_getElem? (i := 128) (by decide +kernel)) rfl
theorem mfM_106 : m_F "PointsToRoundsModel" 106 5 42 := ⟨RM, TM, 44, rfl, inM, by decide, wfM_106⟩
theorem gM_106 {M : mM} {Q : Option mV → mS → Prop} {pc : Nat} {ls : List (Option mV)} {st : List mV} {σ : mS} (hM : "PointsToRoundsModel" = M.1.cls) (d : decode M.2.1 pc = .ok (.getfield 106, 3)) (k : J M Q (pc + 3) ls (.inr (58, 0) :: st) σ) : J M Q pc ls (.inr (25, 0) :: st) σ := J_getR mfM_106 hM rfl rfl rfl rfl d k
theorem wfM_109 : (Jvm.Cond.fieldLink "PointsToRoundsModel" (109 : Nat) "PointsToRoundsModel" "classes" "I") ∈ TB := TB3 (List.mem_of_getElem? (i := 86) (by decide +kernel)) rfl
theorem mfM_109 : m_F "PointsToRoundsModel" 109 5 0 := ⟨RM, TM, 44, rfl, inM, by decide, wfM_109⟩
theorem gM_109 {M : mM} {Q : Option mV → mS → Prop} {pc : Nat} {ls : List (Option mV)} {st : List mV} {σ : mS} (hM : "PointsToRoundsModel" = M.1.cls) (d : decode M.2.1 pc = .ok (.getfield 109, 3)) (k : J M Q (pc + 3) ls (.inl (σ 25 0) :: st) σ) : J M Q pc ls (.inr (25, 0) :: st) σ := J_getI mfM_109 hM rfl rfl rfl d k
theorem mfwM_109 : m_Fw "PointsToRoundsModel" 109 5 0 .int := ⟨RM, TM, 44, tyM, rfl, inM, by decide, wfM_109, tyM_ok, nmM, rfl, by decide +kernel⟩
theorem pM_109 {M : mM} {Q : Option mV → mS → Prop} {pc : Nat} {ls : List (Option mV)} {st : List mV} {σ : mS} {v : Int32} (hM : "PointsToRoundsModel" = M.1.cls) (d : decode M.2.1 pc = .ok (.putfield 109, 3)) (k : J M Q (pc + 3) ls st (m_up σ 25 0 v)) : J M Q pc ls (.inl v :: .inr (25, 0) :: st) σ := J_putI mfwM_109 hM rfl rfl rfl rfl rfl d k
theorem wfM_113 : (Jvm.Cond.fieldLink "PointsToRoundsModel" (113 : Nat) "PointsToRoundsModel" "fields" "I") ∈ TB := TB3 (List.mem_of_getElem? (i := 88) (by decide +kernel)) rfl
theorem mfM_113 : m_F "PointsToRoundsModel" 113 5 2 := ⟨RM, TM, 44, rfl, inM, by decide, wfM_113⟩
theorem gM_113 {M : mM} {Q : Option mV → mS → Prop} {pc : Nat} {ls : List (Option mV)} {st : List mV} {σ : mS} (hM : "PointsToRoundsModel" = M.1.cls) (d : decode M.2.1 pc = .ok (.getfield 113, 3)) (k : J M Q (pc + 3) ls (.inl (σ 25 2) :: st) σ) : J M Q pc ls (.inr (25, 0) :: st) σ := J_getI mfM_113 hM rfl rfl rfl d k
theorem mfwM_113 : m_Fw "PointsToRoundsModel" 113 5 2 .int := ⟨RM, TM, 44, tyM, rfl, inM, by decide, wfM_113, tyM_ok, nmM, rfl, by decide +kernel⟩
theorem pM_113 {M : mM} {Q : Option mV → mS → Prop} {pc : Nat} {ls : List (Option mV)} {st : List mV} {σ : mS} {v : Int32} (hM : "PointsToRoundsModel" = M.1.cls) (d : decode M.2.1 pc = .ok (.putfield 113, 3)) (k : J M Q (pc + 3) ls st (m_up σ 25 2 v)) : J M Q pc ls (.inl v :: .inr (25, 0) :: st) σ := J_putI mfwM_113 hM rfl rfl rfl rfl rfl d k
theorem wfM_116 : (Jvm.Cond.fieldLink "PointsToRoundsModel" (116 : Nat) "PointsToRoundsModel" "methods" "I") ∈ TB := TB3 (List.mem_of_getElem? (i := 90) (by decide +kernel)) rfl
theorem mfM_116 : m_F "PointsToRoundsModel" 116 5 4 := ⟨RM, TM, 44, rfl, inM, by decide, wfM_116⟩
theorem gM_116 {M : mM} {Q : Option mV → mS → Prop} {pc : Nat} {ls : List (Option mV)} {st : List mV} {σ : mS} (hM : "PointsToRoundsModel" = M.1.cls) (d : decode M.2.1 pc = .ok (.getfield 116, 3)) (k : J M Q (pc + 3) ls (.inl (σ 25 4) :: st) σ) : J M Q pc ls (.inr (25, 0) :: st) σ := J_getI mfM_116 hM rfl rfl rfl d k
theorem mfwM_116 : m_Fw "PointsToRoundsModel" 116 5 4 .int := ⟨RM, TM, 44, tyM, rfl, inM, by decide, wfM_116, tyM_ok, nmM, rfl, by decide +kernel⟩
theorem pM_116 {M : mM} {Q : Option mV → mS → Prop} {pc : Nat} {ls : List (Option mV)} {st : List mV} {σ : mS} {v : Int32} (hM : "PointsToRoundsModel" = M.1.cls) (d : decode M.2.1 pc = .ok (.putfield 116, 3)) (k : J M Q (pc + 3) ls st (m_up σ 25 4 v)) : J M Q pc ls (.inl v :: .inr (25, 0) :: st) σ := J_putI mfwM_116 hM rfl rfl rfl rfl rfl d k
theorem wfM_127 : (Jvm.Cond.fieldLink "PointsToRoundsModel" (127 : Nat) "PointsToRoundsModel" "known" "Z") ∈ TB := TB3 (List.mem_of_getElem? (i := 105) (by decide +kernel)) rfl
theorem mfM_127 : m_F "PointsToRoundsModel" 127 5 19 := ⟨RM, TM, 44, rfl, inM, by decide, wfM_127⟩
theorem gM_127 {M : mM} {Q : Option mV → mS → Prop} {pc : Nat} {ls : List (Option mV)} {st : List mV} {σ : mS} (hM : "PointsToRoundsModel" = M.1.cls) (d : decode M.2.1 pc = .ok (.getfield 127, 3)) (k : J M Q (pc + 3) ls (.inl (σ 25 19) :: st) σ) : J M Q pc ls (.inr (25, 0) :: st) σ := J_getI mfM_127 hM rfl rfl rfl d k
theorem mfwM_127 : m_Fw "PointsToRoundsModel" 127 5 19 .boolean := ⟨RM, TM, 44, tyM, rfl, inM, by decide, wfM_127, tyM_ok, nmM, rfl, by decide +kernel⟩
theorem pM_127 {M : mM} {Q : Option mV → mS → Prop} {pc : Nat} {ls : List (Option mV)} {st : List mV} {σ : mS} {v : Int32} (hM : "PointsToRoundsModel" = M.1.cls) (hz : v = 0 ∨ v = 1) (d : decode M.2.1 pc = .ok (.putfield 127, 3)) (k : J M Q (pc + 3) ls st (m_up σ 25 19 v)) : J M Q pc ls (.inl v :: .inr (25, 0) :: st) σ := J_putI mfwM_127 hM (by rcases hz with rfl | rfl <;> decide) (by rcases hz with rfl | rfl <;> decide) rfl rfl rfl d k
theorem wfM_157 : (Jvm.Cond.fieldLink "PointsToRoundsModel" (157 : Nat) "PointsToRoundsModel" "statements" "I") ∈ TB := TB3 (List.mem_of_getElem? (i := 93) (by decide +kernel)) rfl
theorem mfM_157 : m_F "PointsToRoundsModel" 157 5 7 := ⟨RM, TM, 44, rfl, inM, by decide, wfM_157⟩
theorem gM_157 {M : mM} {Q : Option mV → mS → Prop} {pc : Nat} {ls : List (Option mV)} {st : List mV} {σ : mS} (hM : "PointsToRoundsModel" = M.1.cls) (d : decode M.2.1 pc = .ok (.getfield 157, 3)) (k : J M Q (pc + 3) ls (.inl (σ 25 7) :: st) σ) : J M Q pc ls (.inr (25, 0) :: st) σ := J_getI mfM_157 hM rfl rfl rfl d k
theorem mfwM_157 : m_Fw "PointsToRoundsModel" 157 5 7 .int := ⟨RM, TM, 44, tyM, rfl, inM, by decide, wfM_157, tyM_ok, nmM, rfl, by decide +kernel⟩
theorem pM_157 {M : mM} {Q : Option mV → mS → Prop} {pc : Nat} {ls : List (Option mV)} {st : List mV} {σ : mS} {v : Int32} (hM : "PointsToRoundsModel" = M.1.cls) (d : decode M.2.1 pc = .ok (.putfield 157, 3)) (k : J M Q (pc + 3) ls st (m_up σ 25 7 v)) : J M Q pc ls (.inl v :: .inr (25, 0) :: st) σ := J_putI mfwM_157 hM rfl rfl rfl rfl rfl d k
theorem wfM_160 : (Jvm.Cond.fieldLink "PointsToRoundsModel" (160 : Nat) "PointsToRoundsModel" "sites" "I") ∈ TB := TB3 (List.mem_of_getElem? (i := 102) (by decide +kernel)) rfl
theorem mfM_160 : m_F "PointsToRoundsModel" 160 5 16 := ⟨RM, TM, 44, rfl, inM, by decide, wfM_160⟩
theorem gM_160 {M : mM} {Q : Option mV → mS → Prop} {pc : Nat} {ls : List (Option mV)} {st : List mV} {σ : mS} (hM : "PointsToRoundsModel" = M.1.cls) (d : decode M.2.1 pc = .ok (.getfield 160, 3)) (k : J M Q (pc + 3) ls (.inl (σ 25 16) :: st) σ) : J M Q pc ls (.inr (25, 0) :: st) σ := J_getI mfM_160 hM rfl rfl rfl d k
theorem mfwM_160 : m_Fw "PointsToRoundsModel" 160 5 16 .int := ⟨RM, TM, 44, tyM, rfl, inM, by decide, wfM_160, tyM_ok, nmM, rfl, by decide +kernel⟩
theorem pM_160 {M : mM} {Q : Option mV → mS → Prop} {pc : Nat} {ls : List (Option mV)} {st : List mV} {σ : mS} {v : Int32} (hM : "PointsToRoundsModel" = M.1.cls) (d : decode M.2.1 pc = .ok (.putfield 160, 3)) (k : J M Q (pc + 3) ls st (m_up σ 25 16 v)) : J M Q pc ls (.inl v :: .inr (25, 0) :: st) σ := J_putI mfwM_160 hM rfl rfl rfl rfl rfl d k
theorem wfM_163 : (Jvm.Cond.fieldLink "PointsToRoundsModel" (163 : Nat) "PointsToRoundsModel" "mode" "I") ∈ TB := TB3 (List.mem_of_getElem? (i := 104) (by decide +kernel)) rfl
theorem mfM_163 : m_F "PointsToRoundsModel" 163 5 18 := ⟨RM, TM, 44, rfl, inM, by decide, wfM_163⟩
theorem gM_163 {M : mM} {Q : Option mV → mS → Prop} {pc : Nat} {ls : List (Option mV)} {st : List mV} {σ : mS} (hM : "PointsToRoundsModel" = M.1.cls) (d : decode M.2.1 pc = .ok (.getfield 163, 3)) (k : J M Q (pc + 3) ls (.inl (σ 25 18) :: st) σ) : J M Q pc ls (.inr (25, 0) :: st) σ := J_getI mfM_163 hM rfl rfl rfl d k
theorem mfwM_163 : m_Fw "PointsToRoundsModel" 163 5 18 .int := ⟨RM, TM, 44, tyM, rfl, inM, by decide, wfM_163, tyM_ok, nmM, rfl, by decide +kernel⟩
theorem pM_163 {M : mM} {Q : Option mV → mS → Prop} {pc : Nat} {ls : List (Option mV)} {st : List mV} {σ : mS} {v : Int32} (hM : "PointsToRoundsModel" = M.1.cls) (d : decode M.2.1 pc = .ok (.putfield 163, 3)) (k : J M Q (pc + 3) ls st (m_up σ 25 18 v)) : J M Q pc ls (.inl v :: .inr (25, 0) :: st) σ := J_putI mfwM_163 hM rfl rfl rfl rfl rfl d k
theorem wfM_189 : (Jvm.Cond.fieldLink "PointsToRoundsModel" (189 : Nat) "PointsToRoundsModel" "last" "I") ∈ TB := TB3 (List.mem_of_getElem? (i := 117) (by decide +kernel)) rfl
theorem mfM_189 : m_F "PointsToRoundsModel" 189 5 31 := ⟨RM, TM, 44, rfl, inM, by decide, wfM_189⟩
theorem gM_189 {M : mM} {Q : Option mV → mS → Prop} {pc : Nat} {ls : List (Option mV)} {st : List mV} {σ : mS} (hM : "PointsToRoundsModel" = M.1.cls) (d : decode M.2.1 pc = .ok (.getfield 189, 3)) (k : J M Q (pc + 3) ls (.inl (σ 25 31) :: st) σ) : J M Q pc ls (.inr (25, 0) :: st) σ := J_getI mfM_189 hM rfl rfl rfl d k
theorem mfwM_189 : m_Fw "PointsToRoundsModel" 189 5 31 .int := ⟨RM, TM, 44, tyM, rfl, inM, by decide, wfM_189, tyM_ok, nmM, rfl, by decide +kernel⟩
theorem pM_189 {M : mM} {Q : Option mV → mS → Prop} {pc : Nat} {ls : List (Option mV)} {st : List mV} {σ : mS} {v : Int32} (hM : "PointsToRoundsModel" = M.1.cls) (d : decode M.2.1 pc = .ok (.putfield 189, 3)) (k : J M Q (pc + 3) ls st (m_up σ 25 31 v)) : J M Q pc ls (.inl v :: .inr (25, 0) :: st) σ := J_putI mfwM_189 hM rfl rfl rfl rfl rfl d k
theorem wfM_219 : (Jvm.Cond.fieldLink "PointsToRoundsModel" (219 : Nat) "PointsToRoundsModel" "objects" "I") ∈ TB := TB3 (List.mem_of_getElem? (i := 118) (by decide +kernel)) rfl
theorem mfM_219 : m_F "PointsToRoundsModel" 219 5 32 := ⟨RM, TM, 44, rfl, inM, by decide, wfM_219⟩
theorem gM_219 {M : mM} {Q : Option mV → mS → Prop} {pc : Nat} {ls : List (Option mV)} {st : List mV} {σ : mS} (hM : "PointsToRoundsModel" = M.1.cls) (d : decode M.2.1 pc = .ok (.getfield 219, 3)) (k : J M Q (pc + 3) ls (.inl (σ 25 32) :: st) σ) : J M Q pc ls (.inr (25, 0) :: st) σ := J_getI mfM_219 hM rfl rfl rfl d k
theorem mfwM_219 : m_Fw "PointsToRoundsModel" 219 5 32 .int := ⟨RM, TM, 44, tyM, rfl, inM, by decide, wfM_219, tyM_ok, nmM, rfl, by decide +kernel⟩
theorem pM_219 {M : mM} {Q : Option mV → mS → Prop} {pc : Nat} {ls : List (Option mV)} {st : List mV} {σ : mS} {v : Int32} (hM : "PointsToRoundsModel" = M.1.cls) (d : decode M.2.1 pc = .ok (.putfield 219, 3)) (k : J M Q (pc + 3) ls st (m_up σ 25 32 v)) : J M Q pc ls (.inl v :: .inr (25, 0) :: st) σ := J_putI mfwM_219 hM rfl rfl rfl rfl rfl d k
theorem wfM_222 : (Jvm.Cond.fieldLink "PointsToRoundsModel" (222 : Nat) "PointsToRoundsModel" "frames" "I") ∈ TB := TB3 (List.mem_of_getElem? (i := 123) (by decide +kernel)) rfl
theorem mfM_222 : m_F "PointsToRoundsModel" 222 5 37 := ⟨RM, TM, 44, rfl, inM, by decide, wfM_222⟩
theorem gM_222 {M : mM} {Q : Option mV → mS → Prop} {pc : Nat} {ls : List (Option mV)} {st : List mV} {σ : mS} (hM : "PointsToRoundsModel" = M.1.cls) (d : decode M.2.1 pc = .ok (.getfield 222, 3)) (k : J M Q (pc + 3) ls (.inl (σ 25 37) :: st) σ) : J M Q pc ls (.inr (25, 0) :: st) σ := J_getI mfM_222 hM rfl rfl rfl d k
theorem mfwM_222 : m_Fw "PointsToRoundsModel" 222 5 37 .int := ⟨RM, TM, 44, tyM, rfl, inM, by decide, wfM_222, tyM_ok, nmM, rfl, by decide +kernel⟩
theorem pM_222 {M : mM} {Q : Option mV → mS → Prop} {pc : Nat} {ls : List (Option mV)} {st : List mV} {σ : mS} {v : Int32} (hM : "PointsToRoundsModel" = M.1.cls) (d : decode M.2.1 pc = .ok (.putfield 222, 3)) (k : J M Q (pc + 3) ls st (m_up σ 25 37 v)) : J M Q pc ls (.inl v :: .inr (25, 0) :: st) σ := J_putI mfwM_222 hM rfl rfl rfl rfl rfl d k
theorem wfM_225 : (Jvm.Cond.fieldLink "PointsToRoundsModel" (225 : Nat) "PointsToRoundsModel" "calls" "I") ∈ TB := TB3 (List.mem_of_getElem? (i := 129) (by decide +kernel)) rfl
theorem mfM_225 : m_F "PointsToRoundsModel" 225 5 43 := ⟨RM, TM, 44, rfl, inM, by decide, wfM_225⟩
theorem gM_225 {M : mM} {Q : Option mV → mS → Prop} {pc : Nat} {ls : List (Option mV)} {st : List mV} {σ : mS} (hM : "PointsToRoundsModel" = M.1.cls) (d : decode M.2.1 pc = .ok (.getfield 225, 3)) (k : J M Q (pc + 3) ls (.inl (σ 25 43) :: st) σ) : J M Q pc ls (.inr (25, 0) :: st) σ := J_getI mfM_225 hM rfl rfl rfl d k
theorem mfwM_225 : m_Fw "PointsToRoundsModel" 225 5 43 .int := ⟨RM, TM, 44, tyM, rfl, inM, by decide, wfM_225, tyM_ok, nmM, rfl, by decide +kernel⟩
theorem pM_225 {M : mM} {Q : Option mV → mS → Prop} {pc : Nat} {ls : List (Option mV)} {st : List mV} {σ : mS} {v : Int32} (hM : "PointsToRoundsModel" = M.1.cls) (d : decode M.2.1 pc = .ok (.putfield 225, 3)) (k : J M Q (pc + 3) ls st (m_up σ 25 43 v)) : J M Q pc ls (.inl v :: .inr (25, 0) :: st) σ := J_putI mfwM_225 hM rfl rfl rfl rfl rfl d k
theorem ldc_S_66 : (Jvm.Cond.constant "PointsToRounds$Sets" (66 : Nat) (46528 : Int32)) ∈ TB := TB2 (List.mem_of_getElem? (i := 175) (by decide +kernel)) rfl
theorem ldc_T_71 : (Jvm.Cond.constant "PointsToRounds$Trial" (71 : Nat) (1664525 : Int32)) ∈ TB := TB3 (List.mem_of_getElem? (i := 22) (by decide +kernel)) rfl
theorem ldc_T_72 : (Jvm.Cond.constant "PointsToRounds$Trial" (72 : Nat) (1013904223 : Int32)) ∈ TB := TB3 (List.mem_of_getElem? (i := 23) (by decide +kernel)) rfl
theorem ldc_M_244 : (Jvm.Cond.constant "PointsToRoundsModel" (244 : Nat) (1664525 : Int32)) ∈ TB := TB4 (List.mem_of_getElem? (i := 144) (by decide +kernel)) rfl
theorem ldc_M_245 : (Jvm.Cond.constant "PointsToRoundsModel" (245 : Nat) (1013904223 : Int32)) ∈ TB := TB4 (List.mem_of_getElem? (i := 145) (by decide +kernel)) rfl
theorem ldc_I_265 : (Jvm.Cond.constant "java/lang/Integer" (265 : Nat) (1431655765 : Int32)) ∈ TB := TB2 (List.mem_of_getElem? (i := 211) (by decide +kernel)) rfl
theorem ldc_I_266 : (Jvm.Cond.constant "java/lang/Integer" (266 : Nat) (858993459 : Int32)) ∈ TB := TB2 (List.mem_of_getElem? (i := 212) (by decide +kernel)) rfl
theorem ldc_I_267 : (Jvm.Cond.constant "java/lang/Integer" (267 : Nat) (252645135 : Int32)) ∈ TB := TB2 (List.mem_of_getElem? (i := 213) (by decide +kernel)) rfl
theorem cp0_S_54 : (Jvm.Cond.methodLink "PointsToRounds$Sets" (54 : Nat) ({ cls := "java/lang/System", name := "arraycopy", desc := "(Ljava/lang/Object;ILjava/lang/Object;II)V" } : Jvm.MethodName)) ∈ TB := TB2 (List.mem_of_getElem? (i := 121) (by decide +kernel)) rfl
theorem cp1_S_54 : (Jvm.Cond.native ({ cls := "java/lang/System", name := "arraycopy", desc := "(Ljava/lang/Object;ILjava/lang/Object;II)V" } : Jvm.MethodName)) ∈ TB := TB2 (List.mem_of_getElem? (i := 123) (by decide +kernel)) rfl
theorem cp2_S_54 : (Jvm.Cond.static ({ cls := "java/lang/System", name := "arraycopy", desc := "(Ljava/lang/Object;ILjava/lang/Object;II)V" } : Jvm.MethodName)) ∈ TB := TB2 (List.mem_of_getElem? (i := 122) (by decide +kernel)) rfl
theorem cp3_S_54 : (Jvm.Cond.initialized "java/lang/System") ∈ TB := TB1 (List.mem_of_getElem? (i := 8) (by decide +kernel)) rfl
theorem cp_S_54 : m_cpw "PointsToRounds$Sets" 54 := ⟨cp0_S_54, cp1_S_54, cp2_S_54, cp3_S_54⟩
theorem wi_O : (Jvm.Cond.initialized "PointsToRounds") ∈ TB := TB1 (List.mem_of_getElem? (i := 1) (by decide +kernel)) rfl
theorem wc_O_forgetAnswers : (Jvm.Cond.code ({ cls := "PointsToRounds", name := "forgetAnswers", desc := "()V" } : Jvm.MethodName) prog_1_method_20_code (1 : Nat) (Option.none : Option Jvm.ClassFile.FieldType)) ∈ TB := TB2 (List.mem_of_getElem? (i := 6) rfl) rfl
theorem mw_O_forgetAnswers : m_MW M_O_forgetAnswers 0 := ⟨wc_O_forgetAnswers, wi_O, ⟨by decide +kernel, by decide +kernel, by decide +kernel⟩, by decide +kernel⟩
theorem wn_O_forgetAnswers : (Jvm.Cond.instanceMethod ({ cls := "PointsToRounds", name := "forgetAnswers", desc := "()V" } : Jvm.MethodName)) ∈ TB := TB2 (List.mem_of_getElem? (i := 5) (by decide +kernel)) rfl
theorem wl_O_forgetAnswers : Cond.selects "PointsToRounds" ⟨"PointsToRounds", "forgetAnswers", "()V"⟩ ⟨"PointsToRounds", "forgetAnswers", "()V"⟩ ∈ TB := TBs (List.mem_of_getElem? (i := 0) (by decide +kernel)) rfl
theorem mi_O_forgetAnswers : m_MI M_O_forgetAnswers 0 0 := ⟨mw_O_forgetAnswers, wn_O_forgetAnswers, wl_O_forgetAnswers, TO, 3, rfl⟩
theorem wc_O_hasBit : (Jvm.Cond.code ({ cls := "PointsToRounds", name := "hasBit", desc := "(II)Z" } : Jvm.MethodName) prog_1_method_24_code (2 : Nat) (Option.some Jvm.ClassFile.FieldType.boolean)) ∈ TB := TB2 (List.mem_of_getElem? (i := 90) rfl) rfl
theorem mw_O_hasBit : m_MW M_O_hasBit 2 := ⟨wc_O_hasBit, wi_O, ⟨by decide +kernel, by decide +kernel, by decide +kernel⟩, by decide +kernel⟩
theorem ws_O_hasBit : (Jvm.Cond.static ({ cls := "PointsToRounds", name := "hasBit", desc := "(II)Z" } : Jvm.MethodName)) ∈ TB := TB2 (List.mem_of_getElem? (i := 89) (by decide +kernel)) rfl
theorem ms_O_hasBit : m_MS M_O_hasBit 2 := ⟨mw_O_hasBit, ws_O_hasBit⟩
theorem wc_O_isName : (Jvm.Cond.code ({ cls := "PointsToRounds", name := "isName", desc := "(I)Z" } : Jvm.MethodName) prog_1_method_21_code (1 : Nat) (Option.some Jvm.ClassFile.FieldType.boolean)) ∈ TB := TB2 (List.mem_of_getElem? (i := 59) rfl) rfl
theorem mw_O_isName : m_MW M_O_isName 1 := ⟨wc_O_isName, wi_O, ⟨by decide +kernel, by decide +kernel, by decide +kernel⟩, by decide +kernel⟩
theorem ws_O_isName : (Jvm.Cond.static ({ cls := "PointsToRounds", name := "isName", desc := "(I)Z" } : Jvm.MethodName)) ∈ TB := TB2 (List.mem_of_getElem? (i := 58) (by decide +kernel)) rfl
theorem ms_O_isName : m_MS M_O_isName 1 := ⟨mw_O_isName, ws_O_isName⟩
theorem wc_O_isSignature : (Jvm.Cond.code ({ cls := "PointsToRounds", name := "isSignature", desc := "(I)Z" } : Jvm.MethodName) prog_1_method_23_code (1 : Nat) (Option.some Jvm.ClassFile.FieldType.boolean)) ∈ TB := TB2 (List.mem_of_getElem? (i := 36) rfl) rfl
theorem mw_O_isSignature : m_MW M_O_isSignature 1 := ⟨wc_O_isSignature, wi_O, ⟨by decide +kernel, by decide +kernel, by decide +kernel⟩, by decide +kernel⟩
theorem ws_O_isSignature : (Jvm.Cond.static ({ cls := "PointsToRounds", name := "isSignature", desc := "(I)Z" } : Jvm.MethodName)) ∈ TB := TB2 (List.mem_of_getElem? (i := 35) (by decide +kernel)) rfl
theorem ms_O_isSignature : m_MS M_O_isSignature 1 := ⟨mw_O_isSignature, ws_O_isSignature⟩
theorem wc_O_isStatic : (Jvm.Cond.code ({ cls := "PointsToRounds", name := "isStatic", desc := "(I)Z" } : Jvm.MethodName) prog_1_method_22_code (1 : Nat) (Option.some Jvm.ClassFile.FieldType.boolean)) ∈ TB := TB2 (List.mem_of_getElem? (i := 67) rfl) rfl
theorem mw_O_isStatic : m_MW M_O_isStatic 1 := ⟨wc_O_isStatic, wi_O, ⟨by decide +kernel, by decide +kernel, by decide +kernel⟩, by decide +kernel⟩
theorem ws_O_isStatic : (Jvm.Cond.static ({ cls := "PointsToRounds", name := "isStatic", desc := "(I)Z" } : Jvm.MethodName)) ∈ TB := TB2 (List.mem_of_getElem? (i := 66) (by decide +kernel)) rfl
theorem ms_O_isStatic : m_MS M_O_isStatic 1 := ⟨mw_O_isStatic, ws_O_isStatic⟩
theorem wc_O_namesOf : (Jvm.Cond.code ({ cls := "PointsToRounds", name := "namesOf", desc := "(II)I" } : Jvm.MethodName) prog_1_method_25_code (2 : Nat) (Option.some Jvm.ClassFile.FieldType.int)) ∈ TB := TB2 (List.mem_of_getElem? (i := 135) rfl) rfl
theorem mw_O_namesOf : m_MW M_O_namesOf 2 := ⟨wc_O_namesOf, wi_O, ⟨by decide +kernel, by decide +kernel, by decide +kernel⟩, by decide +kernel⟩
theorem ws_O_namesOf : (Jvm.Cond.static ({ cls := "PointsToRounds", name := "namesOf", desc := "(II)I" } : Jvm.MethodName)) ∈ TB := TB2 (List.mem_of_getElem? (i := 134) (by decide +kernel)) rfl
theorem ms_O_namesOf : m_MS M_O_namesOf 2 := ⟨mw_O_namesOf, ws_O_namesOf⟩
theorem wc_O_slotPlace : (Jvm.Cond.code ({ cls := "PointsToRounds", name := "slotPlace", desc := "(II)I" } : Jvm.MethodName) prog_1_method_26_code (2 : Nat) (Option.some Jvm.ClassFile.FieldType.int)) ∈ TB := TB2 (List.mem_of_getElem? (i := 158) rfl) rfl
theorem mw_O_slotPlace : m_MW M_O_slotPlace 2 := ⟨wc_O_slotPlace, wi_O, ⟨by decide +kernel, by decide +kernel, by decide +kernel⟩, by decide +kernel⟩
theorem ws_O_slotPlace : (Jvm.Cond.static ({ cls := "PointsToRounds", name := "slotPlace", desc := "(II)I" } : Jvm.MethodName)) ∈ TB := TB2 (List.mem_of_getElem? (i := 157) (by decide +kernel)) rfl
theorem ms_O_slotPlace : m_MS M_O_slotPlace 2 := ⟨mw_O_slotPlace, ws_O_slotPlace⟩
theorem wi_P : (Jvm.Cond.initialized "PointsToRounds$Program") ∈ TB := TB1 (List.mem_of_getElem? (i := 2) (by decide +kernel)) rfl
theorem wc_P_addClass : (Jvm.Cond.code ({ cls := "PointsToRounds$Program", name := "addClass", desc := "(I)I" } : Jvm.MethodName) prog_2_method_11_code (4 : Nat) (Option.some Jvm.ClassFile.FieldType.int)) ∈ TB := TB2 (List.mem_of_getElem? (i := 17) rfl) rfl
theorem mw_P_addClass : m_MW M_P_addClass 1 := ⟨wc_P_addClass, wi_P, ⟨by decide +kernel, by decide +kernel, by decide +kernel⟩, by decide +kernel⟩
theorem wn_P_addClass : (Jvm.Cond.instanceMethod ({ cls := "PointsToRounds$Program", name := "addClass", desc := "(I)I" } : Jvm.MethodName)) ∈ TB := TB2 (List.mem_of_getElem? (i := 15) (by decide +kernel)) rfl
theorem wl_P_addClass : (Jvm.Cond.selects "PointsToRounds$Program" ({ cls := "PointsToRounds$Program", name := "addClass", desc := "(I)I" } : Jvm.MethodName) ({ cls := "PointsToRounds$Program", name := "addClass", desc := "(I)I" } : Jvm.MethodName)) ∈ TB := TB2 (List.mem_of_getElem? (i := 16) (by decide +kernel)) rfl
theorem mi_P_addClass : m_MI M_P_addClass 1 1 := ⟨mw_P_addClass, wn_P_addClass, wl_P_addClass, TP, 15, rfl⟩
theorem wc_P_addField : (Jvm.Cond.code ({ cls := "PointsToRounds$Program", name := "addField", desc := "(I)I" } : Jvm.MethodName) prog_2_method_12_code (3 : Nat) (Option.some Jvm.ClassFile.FieldType.int)) ∈ TB := TB2 (List.mem_of_getElem? (i := 29) rfl) rfl
theorem mw_P_addField : m_MW M_P_addField 1 := ⟨wc_P_addField, wi_P, ⟨by decide +kernel, by decide +kernel, by decide +kernel⟩, by decide +kernel⟩
theorem wn_P_addField : (Jvm.Cond.instanceMethod ({ cls := "PointsToRounds$Program", name := "addField", desc := "(I)I" } : Jvm.MethodName)) ∈ TB := TB2 (List.mem_of_getElem? (i := 27) (by decide +kernel)) rfl
theorem wl_P_addField : (Jvm.Cond.selects "PointsToRounds$Program" ({ cls := "PointsToRounds$Program", name := "addField", desc := "(I)I" } : Jvm.MethodName) ({ cls := "PointsToRounds$Program", name := "addField", desc := "(I)I" } : Jvm.MethodName)) ∈ TB := TB2 (List.mem_of_getElem? (i := 28) (by decide +kernel)) rfl
theorem mi_P_addField : m_MI M_P_addField 1 1 := ⟨mw_P_addField, wn_P_addField, wl_P_addField, TP, 15, rfl⟩
theorem wc_P_addMethod : (Jvm.Cond.code ({ cls := "PointsToRounds$Program", name := "addMethod", desc := "(II)I" } : Jvm.MethodName) prog_2_method_13_code (5 : Nat) (Option.some Jvm.ClassFile.FieldType.int)) ∈ TB := TB2 (List.mem_of_getElem? (i := 44) rfl) rfl
theorem mw_P_addMethod : m_MW M_P_addMethod 2 := ⟨wc_P_addMethod, wi_P, ⟨by decide +kernel, by decide +kernel, by decide +kernel⟩, by decide +kernel⟩
theorem wn_P_addMethod : (Jvm.Cond.instanceMethod ({ cls := "PointsToRounds$Program", name := "addMethod", desc := "(II)I" } : Jvm.MethodName)) ∈ TB := TB2 (List.mem_of_getElem? (i := 42) (by decide +kernel)) rfl
theorem wl_P_addMethod : (Jvm.Cond.selects "PointsToRounds$Program" ({ cls := "PointsToRounds$Program", name := "addMethod", desc := "(II)I" } : Jvm.MethodName) ({ cls := "PointsToRounds$Program", name := "addMethod", desc := "(II)I" } : Jvm.MethodName)) ∈ TB := TB2 (List.mem_of_getElem? (i := 43) (by decide +kernel)) rfl
theorem mi_P_addMethod : m_MI M_P_addMethod 2 1 := ⟨mw_P_addMethod, wn_P_addMethod, wl_P_addMethod, TP, 15, rfl⟩
theorem wc_P_addSite : (Jvm.Cond.code ({ cls := "PointsToRounds$Program", name := "addSite", desc := "(I)I" } : Jvm.MethodName) prog_2_method_17_code (4 : Nat) (Option.some Jvm.ClassFile.FieldType.int)) ∈ TB := TB2 (List.mem_of_getElem? (i := 87) rfl) rfl
theorem mw_P_addSite : m_MW M_P_addSite 1 := ⟨wc_P_addSite, wi_P, ⟨by decide +kernel, by decide +kernel, by decide +kernel⟩, by decide +kernel⟩
theorem wn_P_addSite : (Jvm.Cond.instanceMethod ({ cls := "PointsToRounds$Program", name := "addSite", desc := "(I)I" } : Jvm.MethodName)) ∈ TB := TB2 (List.mem_of_getElem? (i := 86) (by decide +kernel)) rfl
theorem wl_P_addSite : Cond.selects "PointsToRounds$Program" ⟨"PointsToRounds$Program", "addSite", "(I)I"⟩ ⟨"PointsToRounds$Program", "addSite", "(I)I"⟩ ∈ TB := TBs (List.mem_of_getElem? (i := 2) (by decide +kernel)) rfl
theorem mi_P_addSite : m_MI M_P_addSite 1 1 := ⟨mw_P_addSite, wn_P_addSite, wl_P_addSite, TP, 15, rfl⟩
theorem wc_P_addStatement : (Jvm.Cond.code ({ cls := "PointsToRounds$Program", name := "addStatement", desc := "(I)I" } : Jvm.MethodName) prog_2_method_16_code (4 : Nat) (Option.some Jvm.ClassFile.FieldType.int)) ∈ TB := TB2 (List.mem_of_getElem? (i := 83) rfl) rfl
theorem mw_P_addStatement : m_MW M_P_addStatement 1 := ⟨wc_P_addStatement, wi_P, ⟨by decide +kernel, by decide +kernel, by decide +kernel⟩, by decide +kernel⟩
theorem wn_P_addStatement : (Jvm.Cond.instanceMethod ({ cls := "PointsToRounds$Program", name := "addStatement", desc := "(I)I" } : Jvm.MethodName)) ∈ TB := TB2 (List.mem_of_getElem? (i := 81) (by decide +kernel)) rfl
theorem wl_P_addStatement : (Jvm.Cond.selects "PointsToRounds$Program" ({ cls := "PointsToRounds$Program", name := "addStatement", desc := "(I)I" } : Jvm.MethodName) ({ cls := "PointsToRounds$Program", name := "addStatement", desc := "(I)I" } : Jvm.MethodName)) ∈ TB := TB2 (List.mem_of_getElem? (i := 82) (by decide +kernel)) rfl
theorem mi_P_addStatement : m_MI M_P_addStatement 1 1 := ⟨mw_P_addStatement, wn_P_addStatement, wl_P_addStatement, TP, 15, rfl⟩
theorem wc_P_empty : (Jvm.Cond.code ({ cls := "PointsToRounds$Program", name := "empty", desc := "()V" } : Jvm.MethodName) prog_2_method_10_code (1 : Nat) (Option.none : Option Jvm.ClassFile.FieldType)) ∈ TB := TB2 (List.mem_of_getElem? (i := 102) rfl) rfl
theorem mw_P_empty : m_MW M_P_empty 0 := ⟨wc_P_empty, wi_P, ⟨by decide +kernel, by decide +kernel, by decide +kernel⟩, by decide +kernel⟩
theorem wn_P_empty : (Jvm.Cond.instanceMethod ({ cls := "PointsToRounds$Program", name := "empty", desc := "()V" } : Jvm.MethodName)) ∈ TB := TB2 (List.mem_of_getElem? (i := 100) (by decide +kernel)) rfl
theorem wl_P_empty : (Jvm.Cond.selects "PointsToRounds$Program" ({ cls := "PointsToRounds$Program", name := "empty", desc := "()V" } : Jvm.MethodName) ({ cls := "PointsToRounds$Program", name := "empty", desc := "()V" } : Jvm.MethodName)) ∈ TB := TB2 (List.mem_of_getElem? (i := 101) (by decide +kernel)) rfl
theorem mi_P_empty : m_MI M_P_empty 0 1 := ⟨mw_P_empty, wn_P_empty, wl_P_empty, TP, 15, rfl⟩
theorem wc_P_findMethod : (Jvm.Cond.code ({ cls := "PointsToRounds$Program", name := "findMethod", desc := "(II)V" } : Jvm.MethodName) prog_2_method_14_code (4 : Nat) (Option.none : Option Jvm.ClassFile.FieldType)) ∈ TB := TB2 (List.mem_of_getElem? (i := 21) rfl) rfl
theorem mw_P_findMethod : m_MW M_P_findMethod 2 := ⟨wc_P_findMethod, wi_P, ⟨by decide +kernel, by decide +kernel, by decide +kernel⟩, by decide +kernel⟩
theorem wn_P_findMethod : (Jvm.Cond.instanceMethod ({ cls := "PointsToRounds$Program", name := "findMethod", desc := "(II)V" } : Jvm.MethodName)) ∈ TB := TB2 (List.mem_of_getElem? (i := 20) (by decide +kernel)) rfl
theorem wl_P_findMethod : Cond.selects "PointsToRounds$Program" ⟨"PointsToRounds$Program", "findMethod", "(II)V"⟩ ⟨"PointsToRounds$Program", "findMethod", "(II)V"⟩ ∈ TB := TBs (List.mem_of_getElem? (i := 1) (by decide +kernel)) rfl
theorem mi_P_findMethod : m_MI M_P_findMethod 2 1 := ⟨mw_P_findMethod, wn_P_findMethod, wl_P_findMethod, TP, 15, rfl⟩
theorem wc_P_hasClass : (Jvm.Cond.code ({ cls := "PointsToRounds$Program", name := "hasClass", desc := "(I)Z" } : Jvm.MethodName) prog_2_method_2_code (2 : Nat) (Option.some Jvm.ClassFile.FieldType.boolean)) ∈ TB := TB2 (List.mem_of_getElem? (i := 2) rfl) rfl
theorem mw_P_hasClass : m_MW M_P_hasClass 1 := ⟨wc_P_hasClass, wi_P, ⟨by decide +kernel, by decide +kernel, by decide +kernel⟩, by decide +kernel⟩
theorem wn_P_hasClass : (Jvm.Cond.instanceMethod ({ cls := "PointsToRounds$Program", name := "hasClass", desc := "(I)Z" } : Jvm.MethodName)) ∈ TB := TB2 (List.mem_of_getElem? (i := 0) (by decide +kernel)) rfl
theorem wl_P_hasClass : (Jvm.Cond.selects "PointsToRounds$Program" ({ cls := "PointsToRounds$Program", name := "hasClass", desc := "(I)Z" } : Jvm.MethodName) ({ cls := "PointsToRounds$Program", name := "hasClass", desc := "(I)Z" } : Jvm.MethodName)) ∈ TB := TB2 (List.mem_of_getElem? (i := 1) (by decide +kernel)) rfl
theorem mi_P_hasClass : m_MI M_P_hasClass 1 1 := ⟨mw_P_hasClass, wn_P_hasClass, wl_P_hasClass, TP, 15, rfl⟩
theorem wc_P_hasField : (Jvm.Cond.code ({ cls := "PointsToRounds$Program", name := "hasField", desc := "(I)Z" } : Jvm.MethodName) prog_2_method_3_code (2 : Nat) (Option.some Jvm.ClassFile.FieldType.boolean)) ∈ TB := TB2 (List.mem_of_getElem? (i := 64) rfl) rfl
theorem mw_P_hasField : m_MW M_P_hasField 1 := ⟨wc_P_hasField, wi_P, ⟨by decide +kernel, by decide +kernel, by decide +kernel⟩, by decide +kernel⟩
theorem wn_P_hasField : (Jvm.Cond.instanceMethod ({ cls := "PointsToRounds$Program", name := "hasField", desc := "(I)Z" } : Jvm.MethodName)) ∈ TB := TB2 (List.mem_of_getElem? (i := 62) (by decide +kernel)) rfl
theorem wl_P_hasField : (Jvm.Cond.selects "PointsToRounds$Program" ({ cls := "PointsToRounds$Program", name := "hasField", desc := "(I)Z" } : Jvm.MethodName) ({ cls := "PointsToRounds$Program", name := "hasField", desc := "(I)Z" } : Jvm.MethodName)) ∈ TB := TB2 (List.mem_of_getElem? (i := 63) (by decide +kernel)) rfl
theorem mi_P_hasField : m_MI M_P_hasField 1 1 := ⟨mw_P_hasField, wn_P_hasField, wl_P_hasField, TP, 15, rfl⟩
theorem wc_P_hasMethod : (Jvm.Cond.code ({ cls := "PointsToRounds$Program", name := "hasMethod", desc := "(I)Z" } : Jvm.MethodName) prog_2_method_4_code (2 : Nat) (Option.some Jvm.ClassFile.FieldType.boolean)) ∈ TB := TB2 (List.mem_of_getElem? (i := 52) rfl) rfl
theorem mw_P_hasMethod : m_MW M_P_hasMethod 1 := ⟨wc_P_hasMethod, wi_P, ⟨by decide +kernel, by decide +kernel, by decide +kernel⟩, by decide +kernel⟩
theorem wn_P_hasMethod : (Jvm.Cond.instanceMethod ({ cls := "PointsToRounds$Program", name := "hasMethod", desc := "(I)Z" } : Jvm.MethodName)) ∈ TB := TB2 (List.mem_of_getElem? (i := 50) (by decide +kernel)) rfl
theorem wl_P_hasMethod : (Jvm.Cond.selects "PointsToRounds$Program" ({ cls := "PointsToRounds$Program", name := "hasMethod", desc := "(I)Z" } : Jvm.MethodName) ({ cls := "PointsToRounds$Program", name := "hasMethod", desc := "(I)Z" } : Jvm.MethodName)) ∈ TB := TB2 (List.mem_of_getElem? (i := 51) (by decide +kernel)) rfl
theorem mi_P_hasMethod : m_MI M_P_hasMethod 1 1 := ⟨mw_P_hasMethod, wn_P_hasMethod, wl_P_hasMethod, TP, 15, rfl⟩
theorem wc_P_hasName : (Jvm.Cond.code ({ cls := "PointsToRounds$Program", name := "hasName", desc := "(II)Z" } : Jvm.MethodName) prog_2_method_5_code (3 : Nat) (Option.some Jvm.ClassFile.FieldType.boolean)) ∈ TB := TB2 (List.mem_of_getElem? (i := 110) rfl) rfl
theorem mw_P_hasName : m_MW M_P_hasName 2 := ⟨wc_P_hasName, wi_P, ⟨by decide +kernel, by decide +kernel, by decide +kernel⟩, by decide +kernel⟩
theorem wn_P_hasName : (Jvm.Cond.instanceMethod ({ cls := "PointsToRounds$Program", name := "hasName", desc := "(II)Z" } : Jvm.MethodName)) ∈ TB := TB2 (List.mem_of_getElem? (i := 108) (by decide +kernel)) rfl
theorem wl_P_hasName : (Jvm.Cond.selects "PointsToRounds$Program" ({ cls := "PointsToRounds$Program", name := "hasName", desc := "(II)Z" } : Jvm.MethodName) ({ cls := "PointsToRounds$Program", name := "hasName", desc := "(II)Z" } : Jvm.MethodName)) ∈ TB := TB2 (List.mem_of_getElem? (i := 109) (by decide +kernel)) rfl
theorem mi_P_hasName : m_MI M_P_hasName 2 1 := ⟨mw_P_hasName, wn_P_hasName, wl_P_hasName, TP, 15, rfl⟩
theorem wc_P_hasOperands : (Jvm.Cond.code ({ cls := "PointsToRounds$Program", name := "hasOperands", desc := "(IIIIII)Z" } : Jvm.MethodName) prog_2_method_8_code (7 : Nat) (Option.some Jvm.ClassFile.FieldType.boolean)) ∈ TB := TB2 (List.mem_of_getElem? (i := 56) rfl) rfl
theorem mw_P_hasOperands : m_MW M_P_hasOperands 6 := ⟨wc_P_hasOperands, wi_P, ⟨by decide +kernel, by decide +kernel, by decide +kernel⟩, by decide +kernel⟩
theorem wn_P_hasOperands : (Jvm.Cond.instanceMethod ({ cls := "PointsToRounds$Program", name := "hasOperands", desc := "(IIIIII)Z" } : Jvm.MethodName)) ∈ TB := TB2 (List.mem_of_getElem? (i := 54) (by decide +kernel)) rfl
theorem wl_P_hasOperands : (Jvm.Cond.selects "PointsToRounds$Program" ({ cls := "PointsToRounds$Program", name := "hasOperands", desc := "(IIIIII)Z" } : Jvm.MethodName) ({ cls := "PointsToRounds$Program", name := "hasOperands", desc := "(IIIIII)Z" } : Jvm.MethodName)) ∈ TB := TB2 (List.mem_of_getElem? (i := 55) (by decide +kernel)) rfl
theorem mi_P_hasOperands : m_MI M_P_hasOperands 6 1 := ⟨mw_P_hasOperands, wn_P_hasOperands, wl_P_hasOperands, TP, 15, rfl⟩
theorem wc_P_hasRoomFor : (Jvm.Cond.code ({ cls := "PointsToRounds$Program", name := "hasRoomFor", desc := "(I)Z" } : Jvm.MethodName) prog_2_method_9_code (2 : Nat) (Option.some Jvm.ClassFile.FieldType.boolean)) ∈ TB := TB2 (List.mem_of_getElem? (i := 71) rfl) rfl
theorem mw_P_hasRoomFor : m_MW M_P_hasRoomFor 1 := ⟨wc_P_hasRoomFor, wi_P, ⟨by decide +kernel, by decide +kernel, by decide +kernel⟩, by decide +kernel⟩
theorem wn_P_hasRoomFor : (Jvm.Cond.instanceMethod ({ cls := "PointsToRounds$Program", name := "hasRoomFor", desc := "(I)Z" } : Jvm.MethodName)) ∈ TB := TB2 (List.mem_of_getElem? (i := 69) (by decide +kernel)) rfl
theorem wl_P_hasRoomFor : (Jvm.Cond.selects "PointsToRounds$Program" ({ cls := "PointsToRounds$Program", name := "hasRoomFor", desc := "(I)Z" } : Jvm.MethodName) ({ cls := "PointsToRounds$Program", name := "hasRoomFor", desc := "(I)Z" } : Jvm.MethodName)) ∈ TB := TB2 (List.mem_of_getElem? (i := 70) (by decide +kernel)) rfl
theorem mi_P_hasRoomFor : m_MI M_P_hasRoomFor 1 1 := ⟨mw_P_hasRoomFor, wn_P_hasRoomFor, wl_P_hasRoomFor, TP, 15, rfl⟩
theorem wc_P_hasSite : (Jvm.Cond.code ({ cls := "PointsToRounds$Program", name := "hasSite", desc := "(I)Z" } : Jvm.MethodName) prog_2_method_7_code (2 : Nat) (Option.some Jvm.ClassFile.FieldType.boolean)) ∈ TB := TB2 (List.mem_of_getElem? (i := 192) rfl) rfl
theorem mw_P_hasSite : m_MW M_P_hasSite 1 := ⟨wc_P_hasSite, wi_P, ⟨by decide +kernel, by decide +kernel, by decide +kernel⟩, by decide +kernel⟩
theorem wn_P_hasSite : (Jvm.Cond.instanceMethod ({ cls := "PointsToRounds$Program", name := "hasSite", desc := "(I)Z" } : Jvm.MethodName)) ∈ TB := TB2 (List.mem_of_getElem? (i := 190) (by decide +kernel)) rfl
theorem wl_P_hasSite : (Jvm.Cond.selects "PointsToRounds$Program" ({ cls := "PointsToRounds$Program", name := "hasSite", desc := "(I)Z" } : Jvm.MethodName) ({ cls := "PointsToRounds$Program", name := "hasSite", desc := "(I)Z" } : Jvm.MethodName)) ∈ TB := TB2 (List.mem_of_getElem? (i := 191) (by decide +kernel)) rfl
theorem mi_P_hasSite : m_MI M_P_hasSite 1 1 := ⟨mw_P_hasSite, wn_P_hasSite, wl_P_hasSite, TP, 15, rfl⟩
theorem wc_P_hasStatement : (Jvm.Cond.code ({ cls := "PointsToRounds$Program", name := "hasStatement", desc := "(I)Z" } : Jvm.MethodName) prog_2_method_6_code (2 : Nat) (Option.some Jvm.ClassFile.FieldType.boolean)) ∈ TB := TB2 (List.mem_of_getElem? (i := 221) rfl) rfl
theorem mw_P_hasStatement : m_MW M_P_hasStatement 1 := ⟨wc_P_hasStatement, wi_P, ⟨by decide +kernel, by decide +kernel, by decide +kernel⟩, by decide +kernel⟩
theorem wn_P_hasStatement : (Jvm.Cond.instanceMethod ({ cls := "PointsToRounds$Program", name := "hasStatement", desc := "(I)Z" } : Jvm.MethodName)) ∈ TB := TB2 (List.mem_of_getElem? (i := 219) (by decide +kernel)) rfl
theorem wl_P_hasStatement : (Jvm.Cond.selects "PointsToRounds$Program" ({ cls := "PointsToRounds$Program", name := "hasStatement", desc := "(I)Z" } : Jvm.MethodName) ({ cls := "PointsToRounds$Program", name := "hasStatement", desc := "(I)Z" } : Jvm.MethodName)) ∈ TB := TB2 (List.mem_of_getElem? (i := 220) (by decide +kernel)) rfl
theorem mi_P_hasStatement : m_MI M_P_hasStatement 1 1 := ⟨mw_P_hasStatement, wn_P_hasStatement, wl_P_hasStatement, TP, 15, rfl⟩
theorem wc_P_methodFound : (Jvm.Cond.code ({ cls := "PointsToRounds$Program", name := "methodFound", desc := "(II)I" } : Jvm.MethodName) prog_2_method_19_code (3 : Nat) (Option.some Jvm.ClassFile.FieldType.int)) ∈ TB := TB2 (List.mem_of_getElem? (i := 170) rfl) rfl
theorem mw_P_methodFound : m_MW M_P_methodFound 2 := ⟨wc_P_methodFound, wi_P, ⟨by decide +kernel, by decide +kernel, by decide +kernel⟩, by decide +kernel⟩
theorem wn_P_methodFound : (Jvm.Cond.instanceMethod ({ cls := "PointsToRounds$Program", name := "methodFound", desc := "(II)I" } : Jvm.MethodName)) ∈ TB := TB2 (List.mem_of_getElem? (i := 168) (by decide +kernel)) rfl
theorem wl_P_methodFound : (Jvm.Cond.selects "PointsToRounds$Program" ({ cls := "PointsToRounds$Program", name := "methodFound", desc := "(II)I" } : Jvm.MethodName) ({ cls := "PointsToRounds$Program", name := "methodFound", desc := "(II)I" } : Jvm.MethodName)) ∈ TB := TB2 (List.mem_of_getElem? (i := 169) (by decide +kernel)) rfl
theorem mi_P_methodFound : m_MI M_P_methodFound 2 1 := ⟨mw_P_methodFound, wn_P_methodFound, wl_P_methodFound, TP, 15, rfl⟩
theorem wc_P_methodsFound : (Jvm.Cond.code ({ cls := "PointsToRounds$Program", name := "methodsFound", desc := "(II)I" } : Jvm.MethodName) prog_2_method_20_code (6 : Nat) (Option.some Jvm.ClassFile.FieldType.int)) ∈ TB := TB2 (List.mem_of_getElem? (i := 225) rfl) rfl
theorem mw_P_methodsFound : m_MW M_P_methodsFound 2 := ⟨wc_P_methodsFound, wi_P, ⟨by decide +kernel, by decide +kernel, by decide +kernel⟩, by decide +kernel⟩
theorem wn_P_methodsFound : (Jvm.Cond.instanceMethod ({ cls := "PointsToRounds$Program", name := "methodsFound", desc := "(II)I" } : Jvm.MethodName)) ∈ TB := TB2 (List.mem_of_getElem? (i := 223) (by decide +kernel)) rfl
theorem wl_P_methodsFound : (Jvm.Cond.selects "PointsToRounds$Program" ({ cls := "PointsToRounds$Program", name := "methodsFound", desc := "(II)I" } : Jvm.MethodName) ({ cls := "PointsToRounds$Program", name := "methodsFound", desc := "(II)I" } : Jvm.MethodName)) ∈ TB := TB2 (List.mem_of_getElem? (i := 224) (by decide +kernel)) rfl
theorem mi_P_methodsFound : m_MI M_P_methodsFound 2 1 := ⟨mw_P_methodsFound, wn_P_methodsFound, wl_P_methodsFound, TP, 15, rfl⟩
theorem wc_P_nextStatement : (Jvm.Cond.code ({ cls := "PointsToRounds$Program", name := "nextStatement", desc := "()LPointsToRounds$Statement;" } : Jvm.MethodName) prog_2_method_15_code (1 : Nat) (Option.some (Jvm.ClassFile.FieldType.object "PointsToRounds$Statement"))) ∈ TB := TB2 (List.mem_of_getElem? (i := 75) rfl) rfl
theorem mw_P_nextStatement : m_MW M_P_nextStatement 0 := ⟨wc_P_nextStatement, wi_P, ⟨by decide +kernel, by decide +kernel, by decide +kernel⟩, by decide +kernel⟩
theorem wn_P_nextStatement : (Jvm.Cond.instanceMethod ({ cls := "PointsToRounds$Program", name := "nextStatement", desc := "()LPointsToRounds$Statement;" } : Jvm.MethodName)) ∈ TB := TB2 (List.mem_of_getElem? (i := 73) (by decide +kernel)) rfl
theorem wl_P_nextStatement : (Jvm.Cond.selects "PointsToRounds$Program" ({ cls := "PointsToRounds$Program", name := "nextStatement", desc := "()LPointsToRounds$Statement;" } : Jvm.MethodName) ({ cls := "PointsToRounds$Program", name := "nextStatement", desc := "()LPointsToRounds$Statement;" } : Jvm.MethodName)) ∈ TB := TB2 (List.mem_of_getElem? (i := 74) (by decide +kernel)) rfl
theorem mi_P_nextStatement : m_MI M_P_nextStatement 0 1 := ⟨mw_P_nextStatement, wn_P_nextStatement, wl_P_nextStatement, TP, 15, rfl⟩
theorem wc_P_ownMethod : (Jvm.Cond.code ({ cls := "PointsToRounds$Program", name := "ownMethod", desc := "(II)I" } : Jvm.MethodName) prog_2_method_18_code (3 : Nat) (Option.some Jvm.ClassFile.FieldType.int)) ∈ TB := TB2 (List.mem_of_getElem? (i := 40) rfl) rfl
theorem mw_P_ownMethod : m_MW M_P_ownMethod 2 := ⟨wc_P_ownMethod, wi_P, ⟨by decide +kernel, by decide +kernel, by decide +kernel⟩, by decide +kernel⟩
theorem wn_P_ownMethod : (Jvm.Cond.instanceMethod ({ cls := "PointsToRounds$Program", name := "ownMethod", desc := "(II)I" } : Jvm.MethodName)) ∈ TB := TB2 (List.mem_of_getElem? (i := 38) (by decide +kernel)) rfl
theorem wl_P_ownMethod : (Jvm.Cond.selects "PointsToRounds$Program" ({ cls := "PointsToRounds$Program", name := "ownMethod", desc := "(II)I" } : Jvm.MethodName) ({ cls := "PointsToRounds$Program", name := "ownMethod", desc := "(II)I" } : Jvm.MethodName)) ∈ TB := TB2 (List.mem_of_getElem? (i := 39) (by decide +kernel)) rfl
theorem mi_P_ownMethod : m_MI M_P_ownMethod 2 1 := ⟨mw_P_ownMethod, wn_P_ownMethod, wl_P_ownMethod, TP, 15, rfl⟩
theorem wc_P_sitesWith : (Jvm.Cond.code ({ cls := "PointsToRounds$Program", name := "sitesWith", desc := "(I)I" } : Jvm.MethodName) prog_2_method_21_code (2 : Nat) (Option.some Jvm.ClassFile.FieldType.int)) ∈ TB := TB2 (List.mem_of_getElem? (i := 155) rfl) rfl
theorem mw_P_sitesWith : m_MW M_P_sitesWith 1 := ⟨wc_P_sitesWith, wi_P, ⟨by decide +kernel, by decide +kernel, by decide +kernel⟩, by decide +kernel⟩
theorem wn_P_sitesWith : (Jvm.Cond.instanceMethod ({ cls := "PointsToRounds$Program", name := "sitesWith", desc := "(I)I" } : Jvm.MethodName)) ∈ TB := TB2 (List.mem_of_getElem? (i := 153) (by decide +kernel)) rfl
theorem wl_P_sitesWith : (Jvm.Cond.selects "PointsToRounds$Program" ({ cls := "PointsToRounds$Program", name := "sitesWith", desc := "(I)I" } : Jvm.MethodName) ({ cls := "PointsToRounds$Program", name := "sitesWith", desc := "(I)I" } : Jvm.MethodName)) ∈ TB := TB2 (List.mem_of_getElem? (i := 154) (by decide +kernel)) rfl
theorem mi_P_sitesWith : m_MI M_P_sitesWith 1 1 := ⟨mw_P_sitesWith, wn_P_sitesWith, wl_P_sitesWith, TP, 15, rfl⟩
theorem wc_P_statementOf : (Jvm.Cond.code ({ cls := "PointsToRounds$Program", name := "statementOf", desc := "(II)LPointsToRounds$Statement;" } : Jvm.MethodName) prog_2_method_22_code (3 : Nat) (Option.some (Jvm.ClassFile.FieldType.object "PointsToRounds$Statement"))) ∈ TB := TB2 (List.mem_of_getElem? (i := 132) rfl) rfl
theorem mw_P_statementOf : m_MW M_P_statementOf 2 := ⟨wc_P_statementOf, wi_P, ⟨by decide +kernel, by decide +kernel, by decide +kernel⟩, by decide +kernel⟩
theorem wn_P_statementOf : (Jvm.Cond.instanceMethod ({ cls := "PointsToRounds$Program", name := "statementOf", desc := "(II)LPointsToRounds$Statement;" } : Jvm.MethodName)) ∈ TB := TB2 (List.mem_of_getElem? (i := 130) (by decide +kernel)) rfl
theorem wl_P_statementOf : (Jvm.Cond.selects "PointsToRounds$Program" ({ cls := "PointsToRounds$Program", name := "statementOf", desc := "(II)LPointsToRounds$Statement;" } : Jvm.MethodName) ({ cls := "PointsToRounds$Program", name := "statementOf", desc := "(II)LPointsToRounds$Statement;" } : Jvm.MethodName)) ∈ TB := TB2 (List.mem_of_getElem? (i := 131) (by decide +kernel)) rfl
theorem mi_P_statementOf : m_MI M_P_statementOf 2 1 := ⟨mw_P_statementOf, wn_P_statementOf, wl_P_statementOf, TP, 15, rfl⟩
theorem wi_S : (Jvm.Cond.initialized "PointsToRounds$Sets") ∈ TB := TB1 (List.mem_of_getElem? (i := 4) (by decide +kernel)) rfl
theorem wc_S_add : (Jvm.Cond.code ({ cls := "PointsToRounds$Sets", name := "add", desc := "(II)V" } : Jvm.MethodName) prog_3_method_13_code (4 : Nat) (Option.none : Option Jvm.ClassFile.FieldType)) ∈ TB := TB2 (List.mem_of_getElem? (i := 143) rfl) rfl
theorem mw_S_add : m_MW M_S_add 2 := ⟨wc_S_add, wi_S, ⟨by decide +kernel, by decide +kernel, by decide +kernel⟩, by decide +kernel⟩
theorem wn_S_add : (Jvm.Cond.instanceMethod ({ cls := "PointsToRounds$Sets", name := "add", desc := "(II)V" } : Jvm.MethodName)) ∈ TB := TB2 (List.mem_of_getElem? (i := 142) (by decide +kernel)) rfl
theorem wl_S_add : Cond.selects "PointsToRounds$Sets" ⟨"PointsToRounds$Sets", "add", "(II)V"⟩ ⟨"PointsToRounds$Sets", "add", "(II)V"⟩ ∈ TB := TBs (List.mem_of_getElem? (i := 5) (by decide +kernel)) rfl
theorem mi_S_add : m_MI M_S_add 2 2 := ⟨mw_S_add, wn_S_add, wl_S_add, TS, 9, rfl⟩
theorem wc_S_addFromSlot : (Jvm.Cond.code ({ cls := "PointsToRounds$Sets", name := "addFromSlot", desc := "(III)V" } : Jvm.MethodName) prog_3_method_10_code (6 : Nat) (Option.none : Option Jvm.ClassFile.FieldType)) ∈ TB := TB2 (List.mem_of_getElem? (i := 151) rfl) rfl
theorem mw_S_addFromSlot : m_MW M_S_addFromSlot 3 := ⟨wc_S_addFromSlot, wi_S, ⟨by decide +kernel, by decide +kernel, by decide +kernel⟩, by decide +kernel⟩
theorem wn_S_addFromSlot : (Jvm.Cond.instanceMethod ({ cls := "PointsToRounds$Sets", name := "addFromSlot", desc := "(III)V" } : Jvm.MethodName)) ∈ TB := TB2 (List.mem_of_getElem? (i := 150) (by decide +kernel)) rfl
theorem wl_S_addFromSlot : Cond.selects "PointsToRounds$Sets" ⟨"PointsToRounds$Sets", "addFromSlot", "(III)V"⟩ ⟨"PointsToRounds$Sets", "addFromSlot", "(III)V"⟩ ∈ TB := TBs (List.mem_of_getElem? (i := 7) (by decide +kernel)) rfl
theorem mi_S_addFromSlot : m_MI M_S_addFromSlot 3 2 := ⟨mw_S_addFromSlot, wn_S_addFromSlot, wl_S_addFromSlot, TS, 9, rfl⟩
theorem wc_S_addToSlot : (Jvm.Cond.code ({ cls := "PointsToRounds$Sets", name := "addToSlot", desc := "(III)V" } : Jvm.MethodName) prog_3_method_11_code (6 : Nat) (Option.none : Option Jvm.ClassFile.FieldType)) ∈ TB := TB2 (List.mem_of_getElem? (i := 162) rfl) rfl
theorem mw_S_addToSlot : m_MW M_S_addToSlot 3 := ⟨wc_S_addToSlot, wi_S, ⟨by decide +kernel, by decide +kernel, by decide +kernel⟩, by decide +kernel⟩
theorem wn_S_addToSlot : (Jvm.Cond.instanceMethod ({ cls := "PointsToRounds$Sets", name := "addToSlot", desc := "(III)V" } : Jvm.MethodName)) ∈ TB := TB2 (List.mem_of_getElem? (i := 161) (by decide +kernel)) rfl
theorem wl_S_addToSlot : Cond.selects "PointsToRounds$Sets" ⟨"PointsToRounds$Sets", "addToSlot", "(III)V"⟩ ⟨"PointsToRounds$Sets", "addToSlot", "(III)V"⟩ ∈ TB := TBs (List.mem_of_getElem? (i := 8) (by decide +kernel)) rfl
theorem mi_S_addToSlot : m_MI M_S_addToSlot 3 2 := ⟨mw_S_addToSlot, wn_S_addToSlot, wl_S_addToSlot, TS, 9, rfl⟩
theorem wc_S_at : (Jvm.Cond.code ({ cls := "PointsToRounds$Sets", name := "at", desc := "(I)I" } : Jvm.MethodName) prog_3_method_4_code (2 : Nat) (Option.some Jvm.ClassFile.FieldType.int)) ∈ TB := TB2 (List.mem_of_getElem? (i := 184) rfl) rfl
theorem mw_S_at : m_MW M_S_at 1 := ⟨wc_S_at, wi_S, ⟨by decide +kernel, by decide +kernel, by decide +kernel⟩, by decide +kernel⟩
theorem wn_S_at : (Jvm.Cond.instanceMethod ({ cls := "PointsToRounds$Sets", name := "at", desc := "(I)I" } : Jvm.MethodName)) ∈ TB := TB2 (List.mem_of_getElem? (i := 182) (by decide +kernel)) rfl
theorem wl_S_at : (Jvm.Cond.selects "PointsToRounds$Sets" ({ cls := "PointsToRounds$Sets", name := "at", desc := "(I)I" } : Jvm.MethodName) ({ cls := "PointsToRounds$Sets", name := "at", desc := "(I)I" } : Jvm.MethodName)) ∈ TB := TB2 (List.mem_of_getElem? (i := 183) (by decide +kernel)) rfl
theorem mi_S_at : m_MI M_S_at 1 2 := ⟨mw_S_at, wn_S_at, wl_S_at, TS, 9, rfl⟩
theorem wc_S_contextOf : (Jvm.Cond.code ({ cls := "PointsToRounds$Sets", name := "contextOf", desc := "(I)I" } : Jvm.MethodName) prog_3_method_3_code (2 : Nat) (Option.some Jvm.ClassFile.FieldType.int)) ∈ TB := TB2 (List.mem_of_getElem? (i := 174) rfl) rfl
theorem mw_S_contextOf : m_MW M_S_contextOf 1 := ⟨wc_S_contextOf, wi_S, ⟨by decide +kernel, by decide +kernel, by decide +kernel⟩, by decide +kernel⟩
theorem wn_S_contextOf : (Jvm.Cond.instanceMethod ({ cls := "PointsToRounds$Sets", name := "contextOf", desc := "(I)I" } : Jvm.MethodName)) ∈ TB := TB2 (List.mem_of_getElem? (i := 172) (by decide +kernel)) rfl
theorem wl_S_contextOf : (Jvm.Cond.selects "PointsToRounds$Sets" ({ cls := "PointsToRounds$Sets", name := "contextOf", desc := "(I)I" } : Jvm.MethodName) ({ cls := "PointsToRounds$Sets", name := "contextOf", desc := "(I)I" } : Jvm.MethodName)) ∈ TB := TB2 (List.mem_of_getElem? (i := 173) (by decide +kernel)) rfl
theorem mi_S_contextOf : m_MI M_S_contextOf 1 2 := ⟨mw_S_contextOf, wn_S_contextOf, wl_S_contextOf, TS, 9, rfl⟩
theorem wc_S_doCall : (Jvm.Cond.code ({ cls := "PointsToRounds$Sets", name := "doCall", desc := "(LPointsToRounds$Statement;I)V" } : Jvm.MethodName) prog_3_method_12_code (8 : Nat) (Option.none : Option Jvm.ClassFile.FieldType)) ∈ TB := TB2 (List.mem_of_getElem? (i := 166) rfl) rfl
theorem mw_S_doCall : m_MW M_S_doCall 2 := ⟨wc_S_doCall, wi_S, ⟨by decide +kernel, by decide +kernel, by decide +kernel⟩, by decide +kernel⟩
theorem wn_S_doCall : (Jvm.Cond.instanceMethod ({ cls := "PointsToRounds$Sets", name := "doCall", desc := "(LPointsToRounds$Statement;I)V" } : Jvm.MethodName)) ∈ TB := TB2 (List.mem_of_getElem? (i := 165) (by decide +kernel)) rfl
theorem wl_S_doCall : Cond.selects "PointsToRounds$Sets" ⟨"PointsToRounds$Sets", "doCall", "(LPointsToRounds$Statement;I)V"⟩ ⟨"PointsToRounds$Sets", "doCall", "(LPointsToRounds$Statement;I)V"⟩ ∈ TB := TBs (List.mem_of_getElem? (i := 9) (by decide +kernel)) rfl
theorem mi_S_doCall : m_MI M_S_doCall 2 2 := ⟨mw_S_doCall, wn_S_doCall, wl_S_doCall, TS, 9, rfl⟩
theorem wc_S_doRound : (Jvm.Cond.code ({ cls := "PointsToRounds$Sets", name := "doRound", desc := "()V" } : Jvm.MethodName) prog_3_method_8_code (6 : Nat) (Option.none : Option Jvm.ClassFile.FieldType)) ∈ TB := TB2 (List.mem_of_getElem? (i := 127) rfl) rfl
theorem mw_S_doRound : m_MW M_S_doRound 0 := ⟨wc_S_doRound, wi_S, ⟨by decide +kernel, by decide +kernel, by decide +kernel⟩, by decide +kernel⟩
theorem wn_S_doRound : (Jvm.Cond.instanceMethod ({ cls := "PointsToRounds$Sets", name := "doRound", desc := "()V" } : Jvm.MethodName)) ∈ TB := TB2 (List.mem_of_getElem? (i := 126) (by decide +kernel)) rfl
theorem wl_S_doRound : Cond.selects "PointsToRounds$Sets" ⟨"PointsToRounds$Sets", "doRound", "()V"⟩ ⟨"PointsToRounds$Sets", "doRound", "()V"⟩ ∈ TB := TBs (List.mem_of_getElem? (i := 3) (by decide +kernel)) rfl
theorem mi_S_doRound : m_MI M_S_doRound 0 2 := ⟨mw_S_doRound, wn_S_doRound, wl_S_doRound, TS, 9, rfl⟩
theorem wc_S_doStatement : (Jvm.Cond.code ({ cls := "PointsToRounds$Sets", name := "doStatement", desc := "(LPointsToRounds$Statement;I)V" } : Jvm.MethodName) prog_3_method_9_code (5 : Nat) (Option.none : Option Jvm.ClassFile.FieldType)) ∈ TB := TB2 (List.mem_of_getElem? (i := 139) rfl) rfl
theorem mw_S_doStatement : m_MW M_S_doStatement 2 := ⟨wc_S_doStatement, wi_S, ⟨by decide +kernel, by decide +kernel, by decide +kernel⟩, by decide +kernel⟩
theorem wn_S_doStatement : (Jvm.Cond.instanceMethod ({ cls := "PointsToRounds$Sets", name := "doStatement", desc := "(LPointsToRounds$Statement;I)V" } : Jvm.MethodName)) ∈ TB := TB2 (List.mem_of_getElem? (i := 138) (by decide +kernel)) rfl
theorem wl_S_doStatement : Cond.selects "PointsToRounds$Sets" ⟨"PointsToRounds$Sets", "doStatement", "(LPointsToRounds$Statement;I)V"⟩ ⟨"PointsToRounds$Sets", "doStatement", "(LPointsToRounds$Statement;I)V"⟩ ∈ TB := TBs (List.mem_of_getElem? (i := 4) (by decide +kernel)) rfl
theorem mi_S_doStatement : m_MI M_S_doStatement 2 2 := ⟨mw_S_doStatement, wn_S_doStatement, wl_S_doStatement, TS, 9, rfl⟩
theorem wc_S_firstRound : (Jvm.Cond.code ({ cls := "PointsToRounds$Sets", name := "firstRound", desc := "(III)I" } : Jvm.MethodName) prog_3_method_6_code (4 : Nat) (Option.some Jvm.ClassFile.FieldType.int)) ∈ TB := TB3 (List.mem_of_getElem? (i := 2) rfl) rfl
theorem mw_S_firstRound : m_MW M_S_firstRound 3 := ⟨wc_S_firstRound, wi_S, ⟨by decide +kernel, by decide +kernel, by decide +kernel⟩, by decide +kernel⟩
theorem wn_S_firstRound : (Jvm.Cond.instanceMethod ({ cls := "PointsToRounds$Sets", name := "firstRound", desc := "(III)I" } : Jvm.MethodName)) ∈ TB := TB3 (List.mem_of_getElem? (i := 0) (by decide +kernel)) rfl
theorem wl_S_firstRound : (Jvm.Cond.selects "PointsToRounds$Sets" ({ cls := "PointsToRounds$Sets", name := "firstRound", desc := "(III)I" } : Jvm.MethodName) ({ cls := "PointsToRounds$Sets", name := "firstRound", desc := "(III)I" } : Jvm.MethodName)) ∈ TB := TB3 (List.mem_of_getElem? (i := 1) (by decide +kernel)) rfl
theorem mi_S_firstRound : m_MI M_S_firstRound 3 2 := ⟨mw_S_firstRound, wn_S_firstRound, wl_S_firstRound, TS, 9, rfl⟩
theorem wc_S_hasContext : (Jvm.Cond.code ({ cls := "PointsToRounds$Sets", name := "hasContext", desc := "(I)Z" } : Jvm.MethodName) prog_3_method_2_code (2 : Nat) (Option.some Jvm.ClassFile.FieldType.boolean)) ∈ TB := TB2 (List.mem_of_getElem? (i := 115) rfl) rfl
theorem mw_S_hasContext : m_MW M_S_hasContext 1 := ⟨wc_S_hasContext, wi_S, ⟨by decide +kernel, by decide +kernel, by decide +kernel⟩, by decide +kernel⟩
theorem wn_S_hasContext : (Jvm.Cond.instanceMethod ({ cls := "PointsToRounds$Sets", name := "hasContext", desc := "(I)Z" } : Jvm.MethodName)) ∈ TB := TB2 (List.mem_of_getElem? (i := 113) (by decide +kernel)) rfl
theorem wl_S_hasContext : (Jvm.Cond.selects "PointsToRounds$Sets" ({ cls := "PointsToRounds$Sets", name := "hasContext", desc := "(I)Z" } : Jvm.MethodName) ({ cls := "PointsToRounds$Sets", name := "hasContext", desc := "(I)Z" } : Jvm.MethodName)) ∈ TB := TB2 (List.mem_of_getElem? (i := 114) (by decide +kernel)) rfl
theorem mi_S_hasContext : m_MI M_S_hasContext 1 2 := ⟨mw_S_hasContext, wn_S_hasContext, wl_S_hasContext, TS, 9, rfl⟩
theorem wc_S_inAllContexts : (Jvm.Cond.code ({ cls := "PointsToRounds$Sets", name := "inAllContexts", desc := "(II)I" } : Jvm.MethodName) prog_3_method_5_code (5 : Nat) (Option.some Jvm.ClassFile.FieldType.int)) ∈ TB := TB2 (List.mem_of_getElem? (i := 179) rfl) rfl
theorem mw_S_inAllContexts : m_MW M_S_inAllContexts 2 := ⟨wc_S_inAllContexts, wi_S, ⟨by decide +kernel, by decide +kernel, by decide +kernel⟩, by decide +kernel⟩
theorem wn_S_inAllContexts : (Jvm.Cond.instanceMethod ({ cls := "PointsToRounds$Sets", name := "inAllContexts", desc := "(II)I" } : Jvm.MethodName)) ∈ TB := TB2 (List.mem_of_getElem? (i := 177) (by decide +kernel)) rfl
theorem wl_S_inAllContexts : (Jvm.Cond.selects "PointsToRounds$Sets" ({ cls := "PointsToRounds$Sets", name := "inAllContexts", desc := "(II)I" } : Jvm.MethodName) ({ cls := "PointsToRounds$Sets", name := "inAllContexts", desc := "(II)I" } : Jvm.MethodName)) ∈ TB := TB2 (List.mem_of_getElem? (i := 178) (by decide +kernel)) rfl
theorem mi_S_inAllContexts : m_MI M_S_inAllContexts 2 2 := ⟨mw_S_inAllContexts, wn_S_inAllContexts, wl_S_inAllContexts, TS, 9, rfl⟩
theorem wc_S_noteRound : (Jvm.Cond.code ({ cls := "PointsToRounds$Sets", name := "noteRound", desc := "(II)V" } : Jvm.MethodName) prog_3_method_14_code (6 : Nat) (Option.none : Option Jvm.ClassFile.FieldType)) ∈ TB := TB2 (List.mem_of_getElem? (i := 147) rfl) rfl
theorem mw_S_noteRound : m_MW M_S_noteRound 2 := ⟨wc_S_noteRound, wi_S, ⟨by decide +kernel, by decide +kernel, by decide +kernel⟩, by decide +kernel⟩
theorem wn_S_noteRound : (Jvm.Cond.instanceMethod ({ cls := "PointsToRounds$Sets", name := "noteRound", desc := "(II)V" } : Jvm.MethodName)) ∈ TB := TB2 (List.mem_of_getElem? (i := 146) (by decide +kernel)) rfl
theorem wl_S_noteRound : Cond.selects "PointsToRounds$Sets" ⟨"PointsToRounds$Sets", "noteRound", "(II)V"⟩ ⟨"PointsToRounds$Sets", "noteRound", "(II)V"⟩ ∈ TB := TBs (List.mem_of_getElem? (i := 6) (by decide +kernel)) rfl
theorem mi_S_noteRound : m_MI M_S_noteRound 2 2 := ⟨mw_S_noteRound, wn_S_noteRound, wl_S_noteRound, TS, 9, rfl⟩
theorem wc_S_settle : (Jvm.Cond.code ({ cls := "PointsToRounds$Sets", name := "settle", desc := "()V" } : Jvm.MethodName) prog_3_method_7_code (1 : Nat) (Option.none : Option Jvm.ClassFile.FieldType)) ∈ TB := TB2 (List.mem_of_getElem? (i := 119) rfl) rfl
theorem mw_S_settle : m_MW M_S_settle 0 := ⟨wc_S_settle, wi_S, ⟨by decide +kernel, by decide +kernel, by decide +kernel⟩, by decide +kernel⟩
theorem wn_S_settle : (Jvm.Cond.instanceMethod ({ cls := "PointsToRounds$Sets", name := "settle", desc := "()V" } : Jvm.MethodName)) ∈ TB := TB2 (List.mem_of_getElem? (i := 117) (by decide +kernel)) rfl
theorem wl_S_settle : (Jvm.Cond.selects "PointsToRounds$Sets" ({ cls := "PointsToRounds$Sets", name := "settle", desc := "()V" } : Jvm.MethodName) ({ cls := "PointsToRounds$Sets", name := "settle", desc := "()V" } : Jvm.MethodName)) ∈ TB := TB2 (List.mem_of_getElem? (i := 118) (by decide +kernel)) rfl
theorem mi_S_settle : m_MI M_S_settle 0 2 := ⟨mw_S_settle, wn_S_settle, wl_S_settle, TS, 9, rfl⟩
theorem wi_G : (Jvm.Cond.initialized "PointsToRounds$Statement") ∈ TB := TB1 (List.mem_of_getElem? (i := 3) (by decide +kernel)) rfl
theorem wc_G_tell : (Jvm.Cond.code ({ cls := "PointsToRounds$Statement", name := "tell", desc := "(IIIIII)V" } : Jvm.MethodName) prog_4_method_2_code (7 : Nat) (Option.none : Option Jvm.ClassFile.FieldType)) ∈ TB := TB2 (List.mem_of_getElem? (i := 79) rfl) rfl
theorem mw_G_tell : m_MW M_G_tell 6 := ⟨wc_G_tell, wi_G, ⟨by decide +kernel, by decide +kernel, by decide +kernel⟩, by decide +kernel⟩
theorem wn_G_tell : (Jvm.Cond.instanceMethod ({ cls := "PointsToRounds$Statement", name := "tell", desc := "(IIIIII)V" } : Jvm.MethodName)) ∈ TB := TB2 (List.mem_of_getElem? (i := 77) (by decide +kernel)) rfl
theorem wl_G_tell : (Jvm.Cond.selects "PointsToRounds$Statement" ({ cls := "PointsToRounds$Statement", name := "tell", desc := "(IIIIII)V" } : Jvm.MethodName) ({ cls := "PointsToRounds$Statement", name := "tell", desc := "(IIIIII)V" } : Jvm.MethodName)) ∈ TB := TB2 (List.mem_of_getElem? (i := 78) (by decide +kernel)) rfl
theorem mi_G_tell : m_MI M_G_tell 6 4 := ⟨mw_G_tell, wn_G_tell, wl_G_tell, TG, 8, rfl⟩
theorem wi_T : (Jvm.Cond.initialized "PointsToRounds$Trial") ∈ TB := TB1 (List.mem_of_getElem? (i := 5) (by decide +kernel)) rfl
theorem wc_T_castObject : (Jvm.Cond.code ({ cls := "PointsToRounds$Trial", name := "castObject", desc := "(LPointsToRounds$Statement;I)V" } : Jvm.MethodName) prog_5_method_8_code (4 : Nat) (Option.none : Option Jvm.ClassFile.FieldType)) ∈ TB := TB3 (List.mem_of_getElem? (i := 60) rfl) rfl
theorem mw_T_castObject : m_MW M_T_castObject 2 := ⟨wc_T_castObject, wi_T, ⟨by decide +kernel, by decide +kernel, by decide +kernel⟩, by decide +kernel⟩
theorem wn_T_castObject : (Jvm.Cond.instanceMethod ({ cls := "PointsToRounds$Trial", name := "castObject", desc := "(LPointsToRounds$Statement;I)V" } : Jvm.MethodName)) ∈ TB := TB3 (List.mem_of_getElem? (i := 59) (by decide +kernel)) rfl
theorem wl_T_castObject : Cond.selects "PointsToRounds$Trial" ⟨"PointsToRounds$Trial", "castObject", "(LPointsToRounds$Statement;I)V"⟩ ⟨"PointsToRounds$Trial", "castObject", "(LPointsToRounds$Statement;I)V"⟩ ∈ TB := TBs (List.mem_of_getElem? (i := 18) (by decide +kernel)) rfl
theorem mi_T_castObject : m_MI M_T_castObject 2 3 := ⟨mw_T_castObject, wn_T_castObject, wl_T_castObject, TT, 14, rfl⟩
theorem wc_T_doStatement : (Jvm.Cond.code ({ cls := "PointsToRounds$Trial", name := "doStatement", desc := "(LPointsToRounds$Statement;I)V" } : Jvm.MethodName) prog_5_method_6_code (3 : Nat) (Option.none : Option Jvm.ClassFile.FieldType)) ∈ TB := TB3 (List.mem_of_getElem? (i := 32) rfl) rfl
theorem mw_T_doStatement : m_MW M_T_doStatement 2 := ⟨wc_T_doStatement, wi_T, ⟨by decide +kernel, by decide +kernel, by decide +kernel⟩, by decide +kernel⟩
theorem wn_T_doStatement : (Jvm.Cond.instanceMethod ({ cls := "PointsToRounds$Trial", name := "doStatement", desc := "(LPointsToRounds$Statement;I)V" } : Jvm.MethodName)) ∈ TB := TB3 (List.mem_of_getElem? (i := 31) (by decide +kernel)) rfl
theorem wl_T_doStatement : Cond.selects "PointsToRounds$Trial" ⟨"PointsToRounds$Trial", "doStatement", "(LPointsToRounds$Statement;I)V"⟩ ⟨"PointsToRounds$Trial", "doStatement", "(LPointsToRounds$Statement;I)V"⟩ ∈ TB := TBs (List.mem_of_getElem? (i := 12) (by decide +kernel)) rfl
theorem mi_T_doStatement : m_MI M_T_doStatement 2 3 := ⟨mw_T_doStatement, wn_T_doStatement, wl_T_doStatement, TT, 14, rfl⟩
theorem wc_T_doStep : (Jvm.Cond.code ({ cls := "PointsToRounds$Trial", name := "doStep", desc := "(I)V" } : Jvm.MethodName) prog_5_method_5_code (6 : Nat) (Option.none : Option Jvm.ClassFile.FieldType)) ∈ TB := TB3 (List.mem_of_getElem? (i := 27) rfl) rfl
theorem mw_T_doStep : m_MW M_T_doStep 1 := ⟨wc_T_doStep, wi_T, ⟨by decide +kernel, by decide +kernel, by decide +kernel⟩, by decide +kernel⟩
theorem wn_T_doStep : (Jvm.Cond.instanceMethod ({ cls := "PointsToRounds$Trial", name := "doStep", desc := "(I)V" } : Jvm.MethodName)) ∈ TB := TB3 (List.mem_of_getElem? (i := 26) (by decide +kernel)) rfl
theorem wl_T_doStep : Cond.selects "PointsToRounds$Trial" ⟨"PointsToRounds$Trial", "doStep", "(I)V"⟩ ⟨"PointsToRounds$Trial", "doStep", "(I)V"⟩ ∈ TB := TBs (List.mem_of_getElem? (i := 11) (by decide +kernel)) rfl
theorem mi_T_doStep : m_MI M_T_doStep 1 3 := ⟨mw_T_doStep, wn_T_doStep, wl_T_doStep, TT, 14, rfl⟩
theorem wc_T_enterMethod : (Jvm.Cond.code ({ cls := "PointsToRounds$Trial", name := "enterMethod", desc := "(LPointsToRounds$Statement;I)V" } : Jvm.MethodName) prog_5_method_12_code (7 : Nat) (Option.none : Option Jvm.ClassFile.FieldType)) ∈ TB := TB3 (List.mem_of_getElem? (i := 64) rfl) rfl
theorem mw_T_enterMethod : m_MW M_T_enterMethod 2 := ⟨wc_T_enterMethod, wi_T, ⟨by decide +kernel, by decide +kernel, by decide +kernel⟩, by decide +kernel⟩
theorem wn_T_enterMethod : (Jvm.Cond.instanceMethod ({ cls := "PointsToRounds$Trial", name := "enterMethod", desc := "(LPointsToRounds$Statement;I)V" } : Jvm.MethodName)) ∈ TB := TB3 (List.mem_of_getElem? (i := 63) (by decide +kernel)) rfl
theorem wl_T_enterMethod : Cond.selects "PointsToRounds$Trial" ⟨"PointsToRounds$Trial", "enterMethod", "(LPointsToRounds$Statement;I)V"⟩ ⟨"PointsToRounds$Trial", "enterMethod", "(LPointsToRounds$Statement;I)V"⟩ ∈ TB := TBs (List.mem_of_getElem? (i := 19) (by decide +kernel)) rfl
theorem mi_T_enterMethod : m_MI M_T_enterMethod 2 3 := ⟨mw_T_enterMethod, wn_T_enterMethod, wl_T_enterMethod, TT, 14, rfl⟩
theorem wc_T_forget : (Jvm.Cond.code ({ cls := "PointsToRounds$Trial", name := "forget", desc := "()V" } : Jvm.MethodName) prog_5_method_2_code (1 : Nat) (Option.none : Option Jvm.ClassFile.FieldType)) ∈ TB := TB2 (List.mem_of_getElem? (i := 10) rfl) rfl
theorem mw_T_forget : m_MW M_T_forget 0 := ⟨wc_T_forget, wi_T, ⟨by decide +kernel, by decide +kernel, by decide +kernel⟩, by decide +kernel⟩
theorem wn_T_forget : (Jvm.Cond.instanceMethod ({ cls := "PointsToRounds$Trial", name := "forget", desc := "()V" } : Jvm.MethodName)) ∈ TB := TB2 (List.mem_of_getElem? (i := 8) (by decide +kernel)) rfl
theorem wl_T_forget : (Jvm.Cond.selects "PointsToRounds$Trial" ({ cls := "PointsToRounds$Trial", name := "forget", desc := "()V" } : Jvm.MethodName) ({ cls := "PointsToRounds$Trial", name := "forget", desc := "()V" } : Jvm.MethodName)) ∈ TB := TB2 (List.mem_of_getElem? (i := 9) (by decide +kernel)) rfl
theorem mi_T_forget : m_MI M_T_forget 0 3 := ⟨mw_T_forget, wn_T_forget, wl_T_forget, TT, 14, rfl⟩
theorem wc_T_hasSlot : (Jvm.Cond.code ({ cls := "PointsToRounds$Trial", name := "hasSlot", desc := "(II)Z" } : Jvm.MethodName) prog_5_method_9_code (3 : Nat) (Option.some Jvm.ClassFile.FieldType.boolean)) ∈ TB := TB3 (List.mem_of_getElem? (i := 44) rfl) rfl
theorem mw_T_hasSlot : m_MW M_T_hasSlot 2 := ⟨wc_T_hasSlot, wi_T, ⟨by decide +kernel, by decide +kernel, by decide +kernel⟩, by decide +kernel⟩
theorem wn_T_hasSlot : (Jvm.Cond.instanceMethod ({ cls := "PointsToRounds$Trial", name := "hasSlot", desc := "(II)Z" } : Jvm.MethodName)) ∈ TB := TB3 (List.mem_of_getElem? (i := 43) (by decide +kernel)) rfl
theorem wl_T_hasSlot : Cond.selects "PointsToRounds$Trial" ⟨"PointsToRounds$Trial", "hasSlot", "(II)Z"⟩ ⟨"PointsToRounds$Trial", "hasSlot", "(II)Z"⟩ ∈ TB := TBs (List.mem_of_getElem? (i := 15) (by decide +kernel)) rfl
theorem mi_T_hasSlot : m_MI M_T_hasSlot 2 3 := ⟨mw_T_hasSlot, wn_T_hasSlot, wl_T_hasSlot, TT, 14, rfl⟩
theorem wc_T_holdsFor : (Jvm.Cond.code ({ cls := "PointsToRounds$Trial", name := "holdsFor", desc := "(II)Z" } : Jvm.MethodName) prog_5_method_3_code (5 : Nat) (Option.some Jvm.ClassFile.FieldType.boolean)) ∈ TB := TB3 (List.mem_of_getElem? (i := 10) rfl) rfl
theorem mw_T_holdsFor : m_MW M_T_holdsFor 2 := ⟨wc_T_holdsFor, wi_T, ⟨by decide +kernel, by decide +kernel, by decide +kernel⟩, by decide +kernel⟩
theorem wn_T_holdsFor : (Jvm.Cond.instanceMethod ({ cls := "PointsToRounds$Trial", name := "holdsFor", desc := "(II)Z" } : Jvm.MethodName)) ∈ TB := TB3 (List.mem_of_getElem? (i := 8) (by decide +kernel)) rfl
theorem wl_T_holdsFor : (Jvm.Cond.selects "PointsToRounds$Trial" ({ cls := "PointsToRounds$Trial", name := "holdsFor", desc := "(II)Z" } : Jvm.MethodName) ({ cls := "PointsToRounds$Trial", name := "holdsFor", desc := "(II)Z" } : Jvm.MethodName)) ∈ TB := TB3 (List.mem_of_getElem? (i := 9) (by decide +kernel)) rfl
theorem mi_T_holdsFor : m_MI M_T_holdsFor 2 3 := ⟨mw_T_holdsFor, wn_T_holdsFor, wl_T_holdsFor, TT, 14, rfl⟩
theorem wc_T_lookAt : (Jvm.Cond.code ({ cls := "PointsToRounds$Trial", name := "lookAt", desc := "(II)V" } : Jvm.MethodName) prog_5_method_13_code (3 : Nat) (Option.none : Option Jvm.ClassFile.FieldType)) ∈ TB := TB3 (List.mem_of_getElem? (i := 55) rfl) rfl
theorem mw_T_lookAt : m_MW M_T_lookAt 2 := ⟨wc_T_lookAt, wi_T, ⟨by decide +kernel, by decide +kernel, by decide +kernel⟩, by decide +kernel⟩
theorem wn_T_lookAt : (Jvm.Cond.instanceMethod ({ cls := "PointsToRounds$Trial", name := "lookAt", desc := "(II)V" } : Jvm.MethodName)) ∈ TB := TB3 (List.mem_of_getElem? (i := 54) (by decide +kernel)) rfl
theorem wl_T_lookAt : Cond.selects "PointsToRounds$Trial" ⟨"PointsToRounds$Trial", "lookAt", "(II)V"⟩ ⟨"PointsToRounds$Trial", "lookAt", "(II)V"⟩ ∈ TB := TBs (List.mem_of_getElem? (i := 17) (by decide +kernel)) rfl
theorem mi_T_lookAt : m_MI M_T_lookAt 2 3 := ⟨mw_T_lookAt, wn_T_lookAt, wl_T_lookAt, TT, 14, rfl⟩
theorem wc_T_lookAtNames : (Jvm.Cond.code ({ cls := "PointsToRounds$Trial", name := "lookAtNames", desc := "()V" } : Jvm.MethodName) prog_5_method_14_code (6 : Nat) (Option.none : Option Jvm.ClassFile.FieldType)) ∈ TB := TB3 (List.mem_of_getElem? (i := 70) rfl) rfl
theorem mw_T_lookAtNames : m_MW M_T_lookAtNames 0 := ⟨wc_T_lookAtNames, wi_T, ⟨by decide +kernel, by decide +kernel, by decide +kernel⟩, by decide +kernel⟩
theorem wn_T_lookAtNames : (Jvm.Cond.instanceMethod ({ cls := "PointsToRounds$Trial", name := "lookAtNames", desc := "()V" } : Jvm.MethodName)) ∈ TB := TB3 (List.mem_of_getElem? (i := 69) (by decide +kernel)) rfl
theorem wl_T_lookAtNames : Cond.selects "PointsToRounds$Trial" ⟨"PointsToRounds$Trial", "lookAtNames", "()V"⟩ ⟨"PointsToRounds$Trial", "lookAtNames", "()V"⟩ ∈ TB := TBs (List.mem_of_getElem? (i := 20) (by decide +kernel)) rfl
theorem mi_T_lookAtNames : m_MI M_T_lookAtNames 0 3 := ⟨mw_T_lookAtNames, wn_T_lookAtNames, wl_T_lookAtNames, TT, 14, rfl⟩
theorem wc_T_makeObject : (Jvm.Cond.code ({ cls := "PointsToRounds$Trial", name := "makeObject", desc := "(LPointsToRounds$Statement;I)V" } : Jvm.MethodName) prog_5_method_7_code (3 : Nat) (Option.none : Option Jvm.ClassFile.FieldType)) ∈ TB := TB3 (List.mem_of_getElem? (i := 36) rfl) rfl
theorem mw_T_makeObject : m_MW M_T_makeObject 2 := ⟨wc_T_makeObject, wi_T, ⟨by decide +kernel, by decide +kernel, by decide +kernel⟩, by decide +kernel⟩
theorem wn_T_makeObject : (Jvm.Cond.instanceMethod ({ cls := "PointsToRounds$Trial", name := "makeObject", desc := "(LPointsToRounds$Statement;I)V" } : Jvm.MethodName)) ∈ TB := TB3 (List.mem_of_getElem? (i := 35) (by decide +kernel)) rfl
theorem wl_T_makeObject : Cond.selects "PointsToRounds$Trial" ⟨"PointsToRounds$Trial", "makeObject", "(LPointsToRounds$Statement;I)V"⟩ ⟨"PointsToRounds$Trial", "makeObject", "(LPointsToRounds$Statement;I)V"⟩ ∈ TB := TBs (List.mem_of_getElem? (i := 13) (by decide +kernel)) rfl
theorem mi_T_makeObject : m_MI M_T_makeObject 2 3 := ⟨mw_T_makeObject, wn_T_makeObject, wl_T_makeObject, TT, 14, rfl⟩
theorem wc_T_pushFrame : (Jvm.Cond.code ({ cls := "PointsToRounds$Trial", name := "pushFrame", desc := "(III)V" } : Jvm.MethodName) prog_5_method_4_code (5 : Nat) (Option.none : Option Jvm.ClassFile.FieldType)) ∈ TB := TB3 (List.mem_of_getElem? (i := 15) rfl) rfl
theorem mw_T_pushFrame : m_MW M_T_pushFrame 3 := ⟨wc_T_pushFrame, wi_T, ⟨by decide +kernel, by decide +kernel, by decide +kernel⟩, by decide +kernel⟩
theorem wn_T_pushFrame : (Jvm.Cond.instanceMethod ({ cls := "PointsToRounds$Trial", name := "pushFrame", desc := "(III)V" } : Jvm.MethodName)) ∈ TB := TB3 (List.mem_of_getElem? (i := 14) (by decide +kernel)) rfl
theorem wl_T_pushFrame : Cond.selects "PointsToRounds$Trial" ⟨"PointsToRounds$Trial", "pushFrame", "(III)V"⟩ ⟨"PointsToRounds$Trial", "pushFrame", "(III)V"⟩ ∈ TB := TBs (List.mem_of_getElem? (i := 10) (by decide +kernel)) rfl
theorem mi_T_pushFrame : m_MI M_T_pushFrame 3 3 := ⟨mw_T_pushFrame, wn_T_pushFrame, wl_T_pushFrame, TT, 14, rfl⟩
theorem wc_T_readSlot : (Jvm.Cond.code ({ cls := "PointsToRounds$Trial", name := "readSlot", desc := "(III)V" } : Jvm.MethodName) prog_5_method_10_code (4 : Nat) (Option.none : Option Jvm.ClassFile.FieldType)) ∈ TB := TB3 (List.mem_of_getElem? (i := 40) rfl) rfl
theorem mw_T_readSlot : m_MW M_T_readSlot 3 := ⟨wc_T_readSlot, wi_T, ⟨by decide +kernel, by decide +kernel, by decide +kernel⟩, by decide +kernel⟩
theorem wn_T_readSlot : (Jvm.Cond.instanceMethod ({ cls := "PointsToRounds$Trial", name := "readSlot", desc := "(III)V" } : Jvm.MethodName)) ∈ TB := TB3 (List.mem_of_getElem? (i := 39) (by decide +kernel)) rfl
theorem wl_T_readSlot : Cond.selects "PointsToRounds$Trial" ⟨"PointsToRounds$Trial", "readSlot", "(III)V"⟩ ⟨"PointsToRounds$Trial", "readSlot", "(III)V"⟩ ∈ TB := TBs (List.mem_of_getElem? (i := 14) (by decide +kernel)) rfl
theorem mi_T_readSlot : m_MI M_T_readSlot 3 3 := ⟨mw_T_readSlot, wn_T_readSlot, wl_T_readSlot, TT, 14, rfl⟩
theorem wc_T_writeSlot : (Jvm.Cond.code ({ cls := "PointsToRounds$Trial", name := "writeSlot", desc := "(III)V" } : Jvm.MethodName) prog_5_method_11_code (4 : Nat) (Option.none : Option Jvm.ClassFile.FieldType)) ∈ TB := TB3 (List.mem_of_getElem? (i := 50) rfl) rfl
theorem mw_T_writeSlot : m_MW M_T_writeSlot 3 := ⟨wc_T_writeSlot, wi_T, ⟨by decide +kernel, by decide +kernel, by decide +kernel⟩, by decide +kernel⟩
theorem wn_T_writeSlot : (Jvm.Cond.instanceMethod ({ cls := "PointsToRounds$Trial", name := "writeSlot", desc := "(III)V" } : Jvm.MethodName)) ∈ TB := TB3 (List.mem_of_getElem? (i := 49) (by decide +kernel)) rfl
theorem wl_T_writeSlot : Cond.selects "PointsToRounds$Trial" ⟨"PointsToRounds$Trial", "writeSlot", "(III)V"⟩ ⟨"PointsToRounds$Trial", "writeSlot", "(III)V"⟩ ∈ TB := TBs (List.mem_of_getElem? (i := 16) (by decide +kernel)) rfl
theorem mi_T_writeSlot : m_MI M_T_writeSlot 3 3 := ⟨mw_T_writeSlot, wn_T_writeSlot, wl_T_writeSlot, TT, 14, rfl⟩
theorem wi_M : (Jvm.Cond.initialized "PointsToRoundsModel") ∈ TB := TB1 (List.mem_of_getElem? (i := 6) (by decide +kernel)) rfl
theorem wc_M_act : (Jvm.Cond.code ({ cls := "PointsToRoundsModel", name := "act", desc := "(I)V" } : Jvm.MethodName) prog_7_method_48_code (6 : Nat) (Option.none : Option Jvm.ClassFile.FieldType)) ∈ TB := TB4 (List.mem_of_getElem? (i := 157) rfl) rfl
theorem mw_M_act : m_MW M_M_act 1 := ⟨wc_M_act, wi_M, ⟨by decide +kernel, by decide +kernel, by decide +kernel⟩, by decide +kernel⟩
theorem wn_M_act : (Jvm.Cond.instanceMethod ({ cls := "PointsToRoundsModel", name := "act", desc := "(I)V" } : Jvm.MethodName)) ∈ TB := TB4 (List.mem_of_getElem? (i := 156) (by decide +kernel)) rfl
theorem wl_M_act : Cond.selects "PointsToRoundsModel" ⟨"PointsToRoundsModel", "act", "(I)V"⟩ ⟨"PointsToRoundsModel", "act", "(I)V"⟩ ∈ TB := TBs (List.mem_of_getElem? (i := 46) (by decide +kernel)) rfl
theorem mi_M_act : m_MI M_M_act 1 5 := ⟨mw_M_act, wn_M_act, wl_M_act, TM, 44, rfl⟩
theorem wc_M_allOf : (Jvm.Cond.code ({ cls := "PointsToRoundsModel", name := "allOf", desc := "(II)I" } : Jvm.MethodName) prog_7_method_27_code (5 : Nat) (Option.some Jvm.ClassFile.FieldType.int)) ∈ TB := TB4 (List.mem_of_getElem? (i := 99) rfl) rfl
theorem mw_M_allOf : m_MW M_M_allOf 2 := ⟨wc_M_allOf, wi_M, ⟨by decide +kernel, by decide +kernel, by decide +kernel⟩, by decide +kernel⟩
theorem wn_M_allOf : (Jvm.Cond.instanceMethod ({ cls := "PointsToRoundsModel", name := "allOf", desc := "(II)I" } : Jvm.MethodName)) ∈ TB := TB4 (List.mem_of_getElem? (i := 98) (by decide +kernel)) rfl
theorem wl_M_allOf : Cond.selects "PointsToRoundsModel" ⟨"PointsToRoundsModel", "allOf", "(II)I"⟩ ⟨"PointsToRoundsModel", "allOf", "(II)I"⟩ ∈ TB := TBs (List.mem_of_getElem? (i := 41) (by decide +kernel)) rfl
theorem mi_M_allOf : m_MI M_M_allOf 2 5 := ⟨mw_M_allOf, wn_M_allOf, wl_M_allOf, TM, 44, rfl⟩
theorem wc_M_bring : (Jvm.Cond.code ({ cls := "PointsToRoundsModel", name := "bring", desc := "(II)V" } : Jvm.MethodName) prog_7_method_23_code (7 : Nat) (Option.none : Option Jvm.ClassFile.FieldType)) ∈ TB := TB4 (List.mem_of_getElem? (i := 60) rfl) rfl
theorem mw_M_bring : m_MW M_M_bring 2 := ⟨wc_M_bring, wi_M, ⟨by decide +kernel, by decide +kernel, by decide +kernel⟩, by decide +kernel⟩
theorem wn_M_bring : (Jvm.Cond.instanceMethod ({ cls := "PointsToRoundsModel", name := "bring", desc := "(II)V" } : Jvm.MethodName)) ∈ TB := TB4 (List.mem_of_getElem? (i := 59) (by decide +kernel)) rfl
theorem wl_M_bring : Cond.selects "PointsToRoundsModel" ⟨"PointsToRoundsModel", "bring", "(II)V"⟩ ⟨"PointsToRoundsModel", "bring", "(II)V"⟩ ∈ TB := TBs (List.mem_of_getElem? (i := 32) (by decide +kernel)) rfl
theorem mi_M_bring : m_MI M_M_bring 2 5 := ⟨mw_M_bring, wn_M_bring, wl_M_bring, TM, 44, rfl⟩
theorem wc_M_bringEach : (Jvm.Cond.code ({ cls := "PointsToRoundsModel", name := "bringEach", desc := "(IIII)V" } : Jvm.MethodName) prog_7_method_24_code (8 : Nat) (Option.none : Option Jvm.ClassFile.FieldType)) ∈ TB := TB4 (List.mem_of_getElem? (i := 75) rfl) rfl
theorem mw_M_bringEach : m_MW M_M_bringEach 4 := ⟨wc_M_bringEach, wi_M, ⟨by decide +kernel, by decide +kernel, by decide +kernel⟩, by decide +kernel⟩
theorem wn_M_bringEach : (Jvm.Cond.instanceMethod ({ cls := "PointsToRoundsModel", name := "bringEach", desc := "(IIII)V" } : Jvm.MethodName)) ∈ TB := TB4 (List.mem_of_getElem? (i := 74) (by decide +kernel)) rfl
theorem wl_M_bringEach : Cond.selects "PointsToRoundsModel" ⟨"PointsToRoundsModel", "bringEach", "(IIII)V"⟩ ⟨"PointsToRoundsModel", "bringEach", "(IIII)V"⟩ ∈ TB := TBs (List.mem_of_getElem? (i := 35) (by decide +kernel)) rfl
theorem mi_M_bringEach : m_MI M_M_bringEach 4 5 := ⟨mw_M_bringEach, wn_M_bringEach, wl_M_bringEach, TM, 44, rfl⟩
theorem wc_M_call : (Jvm.Cond.code ({ cls := "PointsToRoundsModel", name := "call", desc := "(IIII)V" } : Jvm.MethodName) prog_7_method_25_code (10 : Nat) (Option.none : Option Jvm.ClassFile.FieldType)) ∈ TB := TB4 (List.mem_of_getElem? (i := 67) rfl) rfl
theorem mw_M_call : m_MW M_M_call 4 := ⟨wc_M_call, wi_M, ⟨by decide +kernel, by decide +kernel, by decide +kernel⟩, by decide +kernel⟩
theorem wn_M_call : (Jvm.Cond.instanceMethod ({ cls := "PointsToRoundsModel", name := "call", desc := "(IIII)V" } : Jvm.MethodName)) ∈ TB := TB4 (List.mem_of_getElem? (i := 66) (by decide +kernel)) rfl
theorem wl_M_call : Cond.selects "PointsToRoundsModel" ⟨"PointsToRoundsModel", "call", "(IIII)V"⟩ ⟨"PointsToRoundsModel", "call", "(IIII)V"⟩ ∈ TB := TBs (List.mem_of_getElem? (i := 33) (by decide +kernel)) rfl
theorem mi_M_call : m_MI M_M_call 4 5 := ⟨mw_M_call, wn_M_call, wl_M_call, TM, 44, rfl⟩
theorem wc_M_canHave : (Jvm.Cond.code ({ cls := "PointsToRoundsModel", name := "canHave", desc := "(II)Z" } : Jvm.MethodName) prog_7_method_45_code (3 : Nat) (Option.some Jvm.ClassFile.FieldType.boolean)) ∈ TB := TB4 (List.mem_of_getElem? (i := 165) rfl) rfl
theorem mw_M_canHave : m_MW M_M_canHave 2 := ⟨wc_M_canHave, wi_M, ⟨by decide +kernel, by decide +kernel, by decide +kernel⟩, by decide +kernel⟩
theorem wn_M_canHave : (Jvm.Cond.instanceMethod ({ cls := "PointsToRoundsModel", name := "canHave", desc := "(II)Z" } : Jvm.MethodName)) ∈ TB := TB4 (List.mem_of_getElem? (i := 164) (by decide +kernel)) rfl
theorem wl_M_canHave : Cond.selects "PointsToRoundsModel" ⟨"PointsToRoundsModel", "canHave", "(II)Z"⟩ ⟨"PointsToRoundsModel", "canHave", "(II)Z"⟩ ∈ TB := TBs (List.mem_of_getElem? (i := 48) (by decide +kernel)) rfl
theorem mi_M_canHave : m_MI M_M_canHave 2 5 := ⟨mw_M_canHave, wn_M_canHave, wl_M_canHave, TM, 44, rfl⟩
theorem wc_M_change : (Jvm.Cond.code ({ cls := "PointsToRoundsModel", name := "change", desc := "()V" } : Jvm.MethodName) prog_7_method_11_code (1 : Nat) (Option.none : Option Jvm.ClassFile.FieldType)) ∈ TB := TB3 (List.mem_of_getElem? (i := 226) rfl) rfl
theorem mw_M_change : m_MW M_M_change 0 := ⟨wc_M_change, wi_M, ⟨by decide +kernel, by decide +kernel, by decide +kernel⟩, by decide +kernel⟩
theorem wn_M_change : (Jvm.Cond.instanceMethod ({ cls := "PointsToRoundsModel", name := "change", desc := "()V" } : Jvm.MethodName)) ∈ TB := TB3 (List.mem_of_getElem? (i := 225) (by decide +kernel)) rfl
theorem wl_M_change : Cond.selects "PointsToRoundsModel" ⟨"PointsToRoundsModel", "change", "()V"⟩ ⟨"PointsToRoundsModel", "change", "()V"⟩ ∈ TB := TBs (List.mem_of_getElem? (i := 21) (by decide +kernel)) rfl
theorem mi_M_change : m_MI M_M_change 0 5 := ⟨mw_M_change, wn_M_change, wl_M_change, TM, 44, rfl⟩
theorem wc_M_copy : (Jvm.Cond.code ({ cls := "PointsToRoundsModel", name := "copy", desc := "()V" } : Jvm.MethodName) prog_7_method_21_code (2 : Nat) (Option.none : Option Jvm.ClassFile.FieldType)) ∈ TB := TB4 (List.mem_of_getElem? (i := 56) rfl) rfl
theorem mw_M_copy : m_MW M_M_copy 0 := ⟨wc_M_copy, wi_M, ⟨by decide +kernel, by decide +kernel, by decide +kernel⟩, by decide +kernel⟩
theorem wn_M_copy : (Jvm.Cond.instanceMethod ({ cls := "PointsToRoundsModel", name := "copy", desc := "()V" } : Jvm.MethodName)) ∈ TB := TB4 (List.mem_of_getElem? (i := 55) (by decide +kernel)) rfl
theorem wl_M_copy : Cond.selects "PointsToRoundsModel" ⟨"PointsToRoundsModel", "copy", "()V"⟩ ⟨"PointsToRoundsModel", "copy", "()V"⟩ ∈ TB := TBs (List.mem_of_getElem? (i := 31) (by decide +kernel)) rfl
theorem mi_M_copy : m_MI M_M_copy 0 5 := ⟨mw_M_copy, wn_M_copy, wl_M_copy, TM, 44, rfl⟩
theorem wc_M_empty : (Jvm.Cond.code ({ cls := "PointsToRoundsModel", name := "empty", desc := "()V" } : Jvm.MethodName) prog_7_method_20_code (2 : Nat) (Option.none : Option Jvm.ClassFile.FieldType)) ∈ TB := TB4 (List.mem_of_getElem? (i := 52) rfl) rfl
theorem mw_M_empty : m_MW M_M_empty 0 := ⟨wc_M_empty, wi_M, ⟨by decide +kernel, by decide +kernel, by decide +kernel⟩, by decide +kernel⟩
theorem wn_M_empty : (Jvm.Cond.instanceMethod ({ cls := "PointsToRoundsModel", name := "empty", desc := "()V" } : Jvm.MethodName)) ∈ TB := TB4 (List.mem_of_getElem? (i := 51) (by decide +kernel)) rfl
theorem wl_M_empty : Cond.selects "PointsToRoundsModel" ⟨"PointsToRoundsModel", "empty", "()V"⟩ ⟨"PointsToRoundsModel", "empty", "()V"⟩ ∈ TB := TBs (List.mem_of_getElem? (i := 30) (by decide +kernel)) rfl
theorem mi_M_empty : m_MI M_M_empty 0 5 := ⟨mw_M_empty, wn_M_empty, wl_M_empty, TM, 44, rfl⟩
theorem wc_M_enter : (Jvm.Cond.code ({ cls := "PointsToRoundsModel", name := "enter", desc := "(III)V" } : Jvm.MethodName) prog_7_method_47_code (7 : Nat) (Option.none : Option Jvm.ClassFile.FieldType)) ∈ TB := TB4 (List.mem_of_getElem? (i := 169) rfl) rfl
theorem mw_M_enter : m_MW M_M_enter 3 := ⟨wc_M_enter, wi_M, ⟨by decide +kernel, by decide +kernel, by decide +kernel⟩, by decide +kernel⟩
theorem wn_M_enter : (Jvm.Cond.instanceMethod ({ cls := "PointsToRoundsModel", name := "enter", desc := "(III)V" } : Jvm.MethodName)) ∈ TB := TB4 (List.mem_of_getElem? (i := 168) (by decide +kernel)) rfl
theorem wl_M_enter : Cond.selects "PointsToRoundsModel" ⟨"PointsToRoundsModel", "enter", "(III)V"⟩ ⟨"PointsToRoundsModel", "enter", "(III)V"⟩ ∈ TB := TBs (List.mem_of_getElem? (i := 49) (by decide +kernel)) rfl
theorem mi_M_enter : m_MI M_M_enter 3 5 := ⟨mw_M_enter, wn_M_enter, wl_M_enter, TM, 44, rfl⟩
theorem wc_M_forgetRun : (Jvm.Cond.code ({ cls := "PointsToRoundsModel", name := "forgetRun", desc := "()V" } : Jvm.MethodName) prog_7_method_41_code (2 : Nat) (Option.none : Option Jvm.ClassFile.FieldType)) ∈ TB := TB3 (List.mem_of_getElem? (i := 230) rfl) rfl
theorem mw_M_forgetRun : m_MW M_M_forgetRun 0 := ⟨wc_M_forgetRun, wi_M, ⟨by decide +kernel, by decide +kernel, by decide +kernel⟩, by decide +kernel⟩
theorem wn_M_forgetRun : (Jvm.Cond.instanceMethod ({ cls := "PointsToRoundsModel", name := "forgetRun", desc := "()V" } : Jvm.MethodName)) ∈ TB := TB3 (List.mem_of_getElem? (i := 229) (by decide +kernel)) rfl
theorem wl_M_forgetRun : Cond.selects "PointsToRoundsModel" ⟨"PointsToRoundsModel", "forgetRun", "()V"⟩ ⟨"PointsToRoundsModel", "forgetRun", "()V"⟩ ∈ TB := TBs (List.mem_of_getElem? (i := 22) (by decide +kernel)) rfl
theorem mi_M_forgetRun : m_MI M_M_forgetRun 0 5 := ⟨mw_M_forgetRun, wn_M_forgetRun, wl_M_forgetRun, TM, 44, rfl⟩
theorem wc_M_found : (Jvm.Cond.code ({ cls := "PointsToRoundsModel", name := "found", desc := "(II)I" } : Jvm.MethodName) prog_7_method_10_code (5 : Nat) (Option.some Jvm.ClassFile.FieldType.int)) ∈ TB := TB4 (List.mem_of_getElem? (i := 71) rfl) rfl
theorem mw_M_found : m_MW M_M_found 2 := ⟨wc_M_found, wi_M, ⟨by decide +kernel, by decide +kernel, by decide +kernel⟩, by decide +kernel⟩
theorem wn_M_found : (Jvm.Cond.instanceMethod ({ cls := "PointsToRoundsModel", name := "found", desc := "(II)I" } : Jvm.MethodName)) ∈ TB := TB4 (List.mem_of_getElem? (i := 70) (by decide +kernel)) rfl
theorem wl_M_found : Cond.selects "PointsToRoundsModel" ⟨"PointsToRoundsModel", "found", "(II)I"⟩ ⟨"PointsToRoundsModel", "found", "(II)I"⟩ ∈ TB := TBs (List.mem_of_getElem? (i := 34) (by decide +kernel)) rfl
theorem mi_M_found : m_MI M_M_found 2 5 := ⟨mw_M_found, wn_M_found, wl_M_found, TM, 44, rfl⟩
theorem wc_M_hasField : (Jvm.Cond.code ({ cls := "PointsToRoundsModel", name := "hasField", desc := "(II)Z" } : Jvm.MethodName) prog_7_method_8_code (3 : Nat) (Option.some Jvm.ClassFile.FieldType.boolean)) ∈ TB := TB4 (List.mem_of_getElem? (i := 79) rfl) rfl
theorem mw_M_hasField : m_MW M_M_hasField 2 := ⟨wc_M_hasField, wi_M, ⟨by decide +kernel, by decide +kernel, by decide +kernel⟩, by decide +kernel⟩
theorem wn_M_hasField : (Jvm.Cond.instanceMethod ({ cls := "PointsToRoundsModel", name := "hasField", desc := "(II)Z" } : Jvm.MethodName)) ∈ TB := TB4 (List.mem_of_getElem? (i := 78) (by decide +kernel)) rfl
theorem wl_M_hasField : Cond.selects "PointsToRoundsModel" ⟨"PointsToRoundsModel", "hasField", "(II)Z"⟩ ⟨"PointsToRoundsModel", "hasField", "(II)Z"⟩ ∈ TB := TBs (List.mem_of_getElem? (i := 36) (by decide +kernel)) rfl
theorem mi_M_hasField : m_MI M_M_hasField 2 5 := ⟨mw_M_hasField, wn_M_hasField, wl_M_hasField, TM, 44, rfl⟩
theorem wc_M_holds : (Jvm.Cond.code ({ cls := "PointsToRoundsModel", name := "holds", desc := "()Z" } : Jvm.MethodName) prog_7_method_51_code (5 : Nat) (Option.some Jvm.ClassFile.FieldType.boolean)) ∈ TB := TB4 (List.mem_of_getElem? (i := 177) rfl) rfl
theorem mw_M_holds : m_MW M_M_holds 0 := ⟨wc_M_holds, wi_M, ⟨by decide +kernel, by decide +kernel, by decide +kernel⟩, by decide +kernel⟩
theorem wn_M_holds : (Jvm.Cond.instanceMethod ({ cls := "PointsToRoundsModel", name := "holds", desc := "()Z" } : Jvm.MethodName)) ∈ TB := TB4 (List.mem_of_getElem? (i := 176) (by decide +kernel)) rfl
theorem wl_M_holds : Cond.selects "PointsToRoundsModel" ⟨"PointsToRoundsModel", "holds", "()Z"⟩ ⟨"PointsToRoundsModel", "holds", "()Z"⟩ ∈ TB := TBs (List.mem_of_getElem? (i := 51) (by decide +kernel)) rfl
theorem mi_M_holds : m_MI M_M_holds 0 5 := ⟨mw_M_holds, wn_M_holds, wl_M_holds, TM, 44, rfl⟩
theorem wc_M_isClass : (Jvm.Cond.code ({ cls := "PointsToRoundsModel", name := "isClass", desc := "(I)Z" } : Jvm.MethodName) prog_7_method_2_code (2 : Nat) (Option.some Jvm.ClassFile.FieldType.boolean)) ∈ TB := TB3 (List.mem_of_getElem? (i := 238) rfl) rfl
theorem mw_M_isClass : m_MW M_M_isClass 1 := ⟨wc_M_isClass, wi_M, ⟨by decide +kernel, by decide +kernel, by decide +kernel⟩, by decide +kernel⟩
theorem wn_M_isClass : (Jvm.Cond.instanceMethod ({ cls := "PointsToRoundsModel", name := "isClass", desc := "(I)Z" } : Jvm.MethodName)) ∈ TB := TB3 (List.mem_of_getElem? (i := 237) (by decide +kernel)) rfl
theorem wl_M_isClass : Cond.selects "PointsToRoundsModel" ⟨"PointsToRoundsModel", "isClass", "(I)Z"⟩ ⟨"PointsToRoundsModel", "isClass", "(I)Z"⟩ ∈ TB := TBs (List.mem_of_getElem? (i := 23) (by decide +kernel)) rfl
theorem mi_M_isClass : m_MI M_M_isClass 1 5 := ⟨mw_M_isClass, wn_M_isClass, wl_M_isClass, TM, 44, rfl⟩
theorem wc_M_isContext : (Jvm.Cond.code ({ cls := "PointsToRoundsModel", name := "isContext", desc := "(I)Z" } : Jvm.MethodName) prog_7_method_30_code (2 : Nat) (Option.some Jvm.ClassFile.FieldType.boolean)) ∈ TB := TB4 (List.mem_of_getElem? (i := 44) rfl) rfl
theorem mw_M_isContext : m_MW M_M_isContext 1 := ⟨wc_M_isContext, wi_M, ⟨by decide +kernel, by decide +kernel, by decide +kernel⟩, by decide +kernel⟩
theorem wn_M_isContext : (Jvm.Cond.instanceMethod ({ cls := "PointsToRoundsModel", name := "isContext", desc := "(I)Z" } : Jvm.MethodName)) ∈ TB := TB4 (List.mem_of_getElem? (i := 43) (by decide +kernel)) rfl
theorem wl_M_isContext : Cond.selects "PointsToRoundsModel" ⟨"PointsToRoundsModel", "isContext", "(I)Z"⟩ ⟨"PointsToRoundsModel", "isContext", "(I)Z"⟩ ∈ TB := TBs (List.mem_of_getElem? (i := 28) (by decide +kernel)) rfl
theorem mi_M_isContext : m_MI M_M_isContext 1 5 := ⟨mw_M_isContext, wn_M_isContext, wl_M_isContext, TM, 44, rfl⟩
theorem wc_M_isField : (Jvm.Cond.code ({ cls := "PointsToRoundsModel", name := "isField", desc := "(I)Z" } : Jvm.MethodName) prog_7_method_3_code (2 : Nat) (Option.some Jvm.ClassFile.FieldType.boolean)) ∈ TB := TB4 (List.mem_of_getElem? (i := 25) rfl) rfl
theorem mw_M_isField : m_MW M_M_isField 1 := ⟨wc_M_isField, wi_M, ⟨by decide +kernel, by decide +kernel, by decide +kernel⟩, by decide +kernel⟩
theorem wn_M_isField : (Jvm.Cond.instanceMethod ({ cls := "PointsToRoundsModel", name := "isField", desc := "(I)Z" } : Jvm.MethodName)) ∈ TB := TB4 (List.mem_of_getElem? (i := 24) (by decide +kernel)) rfl
theorem wl_M_isField : Cond.selects "PointsToRoundsModel" ⟨"PointsToRoundsModel", "isField", "(I)Z"⟩ ⟨"PointsToRoundsModel", "isField", "(I)Z"⟩ ∈ TB := TBs (List.mem_of_getElem? (i := 27) (by decide +kernel)) rfl
theorem mi_M_isField : m_MI M_M_isField 1 5 := ⟨mw_M_isField, wn_M_isField, wl_M_isField, TM, 44, rfl⟩
theorem wc_M_isGood : (Jvm.Cond.code ({ cls := "PointsToRoundsModel", name := "isGood", desc := "(IIIIII)Z" } : Jvm.MethodName) prog_7_method_15_code (7 : Nat) (Option.some Jvm.ClassFile.FieldType.boolean)) ∈ TB := TB4 (List.mem_of_getElem? (i := 18) rfl) rfl
theorem mw_M_isGood : m_MW M_M_isGood 6 := ⟨wc_M_isGood, wi_M, ⟨by decide +kernel, by decide +kernel, by decide +kernel⟩, by decide +kernel⟩
theorem wn_M_isGood : (Jvm.Cond.instanceMethod ({ cls := "PointsToRoundsModel", name := "isGood", desc := "(IIIIII)Z" } : Jvm.MethodName)) ∈ TB := TB4 (List.mem_of_getElem? (i := 17) (by decide +kernel)) rfl
theorem wl_M_isGood : Cond.selects "PointsToRoundsModel" ⟨"PointsToRoundsModel", "isGood", "(IIIIII)Z"⟩ ⟨"PointsToRoundsModel", "isGood", "(IIIIII)Z"⟩ ∈ TB := TBs (List.mem_of_getElem? (i := 26) (by decide +kernel)) rfl
theorem mi_M_isGood : m_MI M_M_isGood 6 5 := ⟨mw_M_isGood, wn_M_isGood, wl_M_isGood, TM, 44, rfl⟩
theorem wc_M_isIn : (Jvm.Cond.code ({ cls := "PointsToRoundsModel", name := "isIn", desc := "(II)Z" } : Jvm.MethodName) prog_7_method_50_code (3 : Nat) (Option.some Jvm.ClassFile.FieldType.boolean)) ∈ TB := TB4 (List.mem_of_getElem? (i := 181) rfl) rfl
theorem mw_M_isIn : m_MW M_M_isIn 2 := ⟨wc_M_isIn, wi_M, ⟨by decide +kernel, by decide +kernel, by decide +kernel⟩, by decide +kernel⟩
theorem wn_M_isIn : (Jvm.Cond.instanceMethod ({ cls := "PointsToRoundsModel", name := "isIn", desc := "(II)Z" } : Jvm.MethodName)) ∈ TB := TB4 (List.mem_of_getElem? (i := 180) (by decide +kernel)) rfl
theorem wl_M_isIn : Cond.selects "PointsToRoundsModel" ⟨"PointsToRoundsModel", "isIn", "(II)Z"⟩ ⟨"PointsToRoundsModel", "isIn", "(II)Z"⟩ ∈ TB := TBs (List.mem_of_getElem? (i := 52) (by decide +kernel)) rfl
theorem mi_M_isIn : m_MI M_M_isIn 2 5 := ⟨mw_M_isIn, wn_M_isIn, wl_M_isIn, TM, 44, rfl⟩
theorem wc_M_isMethod : (Jvm.Cond.code ({ cls := "PointsToRoundsModel", name := "isMethod", desc := "(I)Z" } : Jvm.MethodName) prog_7_method_4_code (2 : Nat) (Option.some Jvm.ClassFile.FieldType.boolean)) ∈ TB := TB4 (List.mem_of_getElem? (i := 14) rfl) rfl
theorem mw_M_isMethod : m_MW M_M_isMethod 1 := ⟨wc_M_isMethod, wi_M, ⟨by decide +kernel, by decide +kernel, by decide +kernel⟩, by decide +kernel⟩
theorem wn_M_isMethod : (Jvm.Cond.instanceMethod ({ cls := "PointsToRoundsModel", name := "isMethod", desc := "(I)Z" } : Jvm.MethodName)) ∈ TB := TB4 (List.mem_of_getElem? (i := 13) (by decide +kernel)) rfl
theorem wl_M_isMethod : Cond.selects "PointsToRoundsModel" ⟨"PointsToRoundsModel", "isMethod", "(I)Z"⟩ ⟨"PointsToRoundsModel", "isMethod", "(I)Z"⟩ ∈ TB := TBs (List.mem_of_getElem? (i := 25) (by decide +kernel)) rfl
theorem mi_M_isMethod : m_MI M_M_isMethod 1 5 := ⟨mw_M_isMethod, wn_M_isMethod, wl_M_isMethod, TM, 44, rfl⟩
theorem wc_M_isName : (Jvm.Cond.code ({ cls := "PointsToRoundsModel", name := "isName", desc := "(I)Z" } : Jvm.MethodName) prog_7_method_5_code (1 : Nat) (Option.some Jvm.ClassFile.FieldType.boolean)) ∈ TB := TB4 (List.mem_of_getElem? (i := 21) rfl) rfl
theorem mw_M_isName : m_MW M_M_isName 1 := ⟨wc_M_isName, wi_M, ⟨by decide +kernel, by decide +kernel, by decide +kernel⟩, by decide +kernel⟩
theorem ws_M_isName : (Jvm.Cond.static ({ cls := "PointsToRoundsModel", name := "isName", desc := "(I)Z" } : Jvm.MethodName)) ∈ TB := TB4 (List.mem_of_getElem? (i := 20) (by decide +kernel)) rfl
theorem ms_M_isName : m_MS M_M_isName 1 := ⟨mw_M_isName, ws_M_isName⟩
theorem wc_M_isSame : (Jvm.Cond.code ({ cls := "PointsToRoundsModel", name := "isSame", desc := "()Z" } : Jvm.MethodName) prog_7_method_22_code (3 : Nat) (Option.some Jvm.ClassFile.FieldType.boolean)) ∈ TB := TB4 (List.mem_of_getElem? (i := 87) rfl) rfl
theorem mw_M_isSame : m_MW M_M_isSame 0 := ⟨wc_M_isSame, wi_M, ⟨by decide +kernel, by decide +kernel, by decide +kernel⟩, by decide +kernel⟩
theorem wn_M_isSame : (Jvm.Cond.instanceMethod ({ cls := "PointsToRoundsModel", name := "isSame", desc := "()Z" } : Jvm.MethodName)) ∈ TB := TB4 (List.mem_of_getElem? (i := 86) (by decide +kernel)) rfl
theorem wl_M_isSame : Cond.selects "PointsToRoundsModel" ⟨"PointsToRoundsModel", "isSame", "()Z"⟩ ⟨"PointsToRoundsModel", "isSame", "()Z"⟩ ∈ TB := TBs (List.mem_of_getElem? (i := 38) (by decide +kernel)) rfl
theorem mi_M_isSame : m_MI M_M_isSame 0 5 := ⟨mw_M_isSame, wn_M_isSame, wl_M_isSame, TM, 44, rfl⟩
theorem wc_M_isSite : (Jvm.Cond.code ({ cls := "PointsToRoundsModel", name := "isSite", desc := "(I)Z" } : Jvm.MethodName) prog_7_method_32_code (2 : Nat) (Option.some Jvm.ClassFile.FieldType.boolean)) ∈ TB := TB4 (List.mem_of_getElem? (i := 107) rfl) rfl
theorem mw_M_isSite : m_MW M_M_isSite 1 := ⟨wc_M_isSite, wi_M, ⟨by decide +kernel, by decide +kernel, by decide +kernel⟩, by decide +kernel⟩
theorem wn_M_isSite : (Jvm.Cond.instanceMethod ({ cls := "PointsToRoundsModel", name := "isSite", desc := "(I)Z" } : Jvm.MethodName)) ∈ TB := TB4 (List.mem_of_getElem? (i := 106) (by decide +kernel)) rfl
theorem wl_M_isSite : Cond.selects "PointsToRoundsModel" ⟨"PointsToRoundsModel", "isSite", "(I)Z"⟩ ⟨"PointsToRoundsModel", "isSite", "(I)Z"⟩ ∈ TB := TBs (List.mem_of_getElem? (i := 42) (by decide +kernel)) rfl
theorem mi_M_isSite : m_MI M_M_isSite 1 5 := ⟨mw_M_isSite, wn_M_isSite, wl_M_isSite, TM, 44, rfl⟩
theorem wc_M_isStatic : (Jvm.Cond.code ({ cls := "PointsToRoundsModel", name := "isStatic", desc := "(I)Z" } : Jvm.MethodName) prog_7_method_6_code (1 : Nat) (Option.some Jvm.ClassFile.FieldType.boolean)) ∈ TB := TB4 (List.mem_of_getElem? (i := 28) rfl) rfl
theorem mw_M_isStatic : m_MW M_M_isStatic 1 := ⟨wc_M_isStatic, wi_M, ⟨by decide +kernel, by decide +kernel, by decide +kernel⟩, by decide +kernel⟩
theorem ws_M_isStatic : (Jvm.Cond.static ({ cls := "PointsToRoundsModel", name := "isStatic", desc := "(I)Z" } : Jvm.MethodName)) ∈ TB := TB4 (List.mem_of_getElem? (i := 27) (by decide +kernel)) rfl
theorem ms_M_isStatic : m_MS M_M_isStatic 1 := ⟨mw_M_isStatic, ws_M_isStatic⟩
theorem wc_M_isUnder : (Jvm.Cond.code ({ cls := "PointsToRoundsModel", name := "isUnder", desc := "(II)Z" } : Jvm.MethodName) prog_7_method_7_code (4 : Nat) (Option.some Jvm.ClassFile.FieldType.boolean)) ∈ TB := TB4 (List.mem_of_getElem? (i := 83) rfl) rfl
theorem mw_M_isUnder : m_MW M_M_isUnder 2 := ⟨wc_M_isUnder, wi_M, ⟨by decide +kernel, by decide +kernel, by decide +kernel⟩, by decide +kernel⟩
theorem wn_M_isUnder : (Jvm.Cond.instanceMethod ({ cls := "PointsToRoundsModel", name := "isUnder", desc := "(II)Z" } : Jvm.MethodName)) ∈ TB := TB4 (List.mem_of_getElem? (i := 82) (by decide +kernel)) rfl
theorem wl_M_isUnder : Cond.selects "PointsToRoundsModel" ⟨"PointsToRoundsModel", "isUnder", "(II)Z"⟩ ⟨"PointsToRoundsModel", "isUnder", "(II)Z"⟩ ∈ TB := TBs (List.mem_of_getElem? (i := 37) (by decide +kernel)) rfl
theorem mi_M_isUnder : m_MI M_M_isUnder 2 5 := ⟨mw_M_isUnder, wn_M_isUnder, wl_M_isUnder, TM, 44, rfl⟩
theorem wc_M_know : (Jvm.Cond.code ({ cls := "PointsToRoundsModel", name := "know", desc := "()V" } : Jvm.MethodName) prog_7_method_29_code (4 : Nat) (Option.none : Option Jvm.ClassFile.FieldType)) ∈ TB := TB4 (List.mem_of_getElem? (i := 48) rfl) rfl
theorem mw_M_know : m_MW M_M_know 0 := ⟨wc_M_know, wi_M, ⟨by decide +kernel, by decide +kernel, by decide +kernel⟩, by decide +kernel⟩
theorem wn_M_know : (Jvm.Cond.instanceMethod ({ cls := "PointsToRoundsModel", name := "know", desc := "()V" } : Jvm.MethodName)) ∈ TB := TB4 (List.mem_of_getElem? (i := 47) (by decide +kernel)) rfl
theorem wl_M_know : Cond.selects "PointsToRoundsModel" ⟨"PointsToRoundsModel", "know", "()V"⟩ ⟨"PointsToRoundsModel", "know", "()V"⟩ ∈ TB := TBs (List.mem_of_getElem? (i := 29) (by decide +kernel)) rfl
theorem mi_M_know : m_MI M_M_know 0 5 := ⟨mw_M_know, wn_M_know, wl_M_know, TM, 44, rfl⟩
theorem wc_M_leave : (Jvm.Cond.code ({ cls := "PointsToRoundsModel", name := "leave", desc := "()V" } : Jvm.MethodName) prog_7_method_49_code (1 : Nat) (Option.none : Option Jvm.ClassFile.FieldType)) ∈ TB := TB4 (List.mem_of_getElem? (i := 173) rfl) rfl
theorem mw_M_leave : m_MW M_M_leave 0 := ⟨wc_M_leave, wi_M, ⟨by decide +kernel, by decide +kernel, by decide +kernel⟩, by decide +kernel⟩
theorem wn_M_leave : (Jvm.Cond.instanceMethod ({ cls := "PointsToRoundsModel", name := "leave", desc := "()V" } : Jvm.MethodName)) ∈ TB := TB4 (List.mem_of_getElem? (i := 172) (by decide +kernel)) rfl
theorem wl_M_leave : Cond.selects "PointsToRoundsModel" ⟨"PointsToRoundsModel", "leave", "()V"⟩ ⟨"PointsToRoundsModel", "leave", "()V"⟩ ∈ TB := TBs (List.mem_of_getElem? (i := 50) (by decide +kernel)) rfl
theorem mi_M_leave : m_MI M_M_leave 0 5 := ⟨mw_M_leave, wn_M_leave, wl_M_leave, TM, 44, rfl⟩
theorem wc_M_make : (Jvm.Cond.code ({ cls := "PointsToRoundsModel", name := "make", desc := "(II)V" } : Jvm.MethodName) prog_7_method_46_code (4 : Nat) (Option.none : Option Jvm.ClassFile.FieldType)) ∈ TB := TB4 (List.mem_of_getElem? (i := 161) rfl) rfl
theorem mw_M_make : m_MW M_M_make 2 := ⟨wc_M_make, wi_M, ⟨by decide +kernel, by decide +kernel, by decide +kernel⟩, by decide +kernel⟩
theorem wn_M_make : (Jvm.Cond.instanceMethod ({ cls := "PointsToRoundsModel", name := "make", desc := "(II)V" } : Jvm.MethodName)) ∈ TB := TB4 (List.mem_of_getElem? (i := 160) (by decide +kernel)) rfl
theorem wl_M_make : Cond.selects "PointsToRoundsModel" ⟨"PointsToRoundsModel", "make", "(II)V"⟩ ⟨"PointsToRoundsModel", "make", "(II)V"⟩ ∈ TB := TBs (List.mem_of_getElem? (i := 47) (by decide +kernel)) rfl
theorem mi_M_make : m_MI M_M_make 2 5 := ⟨mw_M_make, wn_M_make, wl_M_make, TM, 44, rfl⟩
theorem wc_M_many : (Jvm.Cond.code ({ cls := "PointsToRoundsModel", name := "many", desc := "(I)I" } : Jvm.MethodName) prog_7_method_44_code (4 : Nat) (Option.some Jvm.ClassFile.FieldType.int)) ∈ TB := TB4 (List.mem_of_getElem? (i := 149) rfl) rfl
theorem mw_M_many : m_MW M_M_many 1 := ⟨wc_M_many, wi_M, ⟨by decide +kernel, by decide +kernel, by decide +kernel⟩, by decide +kernel⟩
theorem wn_M_many : (Jvm.Cond.instanceMethod ({ cls := "PointsToRoundsModel", name := "many", desc := "(I)I" } : Jvm.MethodName)) ∈ TB := TB4 (List.mem_of_getElem? (i := 148) (by decide +kernel)) rfl
theorem wl_M_many : Cond.selects "PointsToRoundsModel" ⟨"PointsToRoundsModel", "many", "(I)I"⟩ ⟨"PointsToRoundsModel", "many", "(I)I"⟩ ∈ TB := TBs (List.mem_of_getElem? (i := 44) (by decide +kernel)) rfl
theorem mi_M_many : m_MI M_M_many 1 5 := ⟨mw_M_many, wn_M_many, wl_M_many, TM, 44, rfl⟩
theorem wc_M_methodWith : (Jvm.Cond.code ({ cls := "PointsToRoundsModel", name := "methodWith", desc := "(II)I" } : Jvm.MethodName) prog_7_method_9_code (4 : Nat) (Option.some Jvm.ClassFile.FieldType.int)) ∈ TB := TB4 (List.mem_of_getElem? (i := 6) rfl) rfl
theorem mw_M_methodWith : m_MW M_M_methodWith 2 := ⟨wc_M_methodWith, wi_M, ⟨by decide +kernel, by decide +kernel, by decide +kernel⟩, by decide +kernel⟩
theorem wn_M_methodWith : (Jvm.Cond.instanceMethod ({ cls := "PointsToRoundsModel", name := "methodWith", desc := "(II)I" } : Jvm.MethodName)) ∈ TB := TB4 (List.mem_of_getElem? (i := 5) (by decide +kernel)) rfl
theorem wl_M_methodWith : Cond.selects "PointsToRoundsModel" ⟨"PointsToRoundsModel", "methodWith", "(II)I"⟩ ⟨"PointsToRoundsModel", "methodWith", "(II)I"⟩ ∈ TB := TBs (List.mem_of_getElem? (i := 24) (by decide +kernel)) rfl
theorem mi_M_methodWith : m_MI M_M_methodWith 2 5 := ⟨mw_M_methodWith, wn_M_methodWith, wl_M_methodWith, TM, 44, rfl⟩
theorem wc_M_nameAt : (Jvm.Cond.code ({ cls := "PointsToRoundsModel", name := "nameAt", desc := "(III)I" } : Jvm.MethodName) prog_7_method_19_code (3 : Nat) (Option.some Jvm.ClassFile.FieldType.int)) ∈ TB := TB4 (List.mem_of_getElem? (i := 63) rfl) rfl
theorem mw_M_nameAt : m_MW M_M_nameAt 3 := ⟨wc_M_nameAt, wi_M, ⟨by decide +kernel, by decide +kernel, by decide +kernel⟩, by decide +kernel⟩
theorem ws_M_nameAt : (Jvm.Cond.static ({ cls := "PointsToRoundsModel", name := "nameAt", desc := "(III)I" } : Jvm.MethodName)) ∈ TB := TB4 (List.mem_of_getElem? (i := 62) (by decide +kernel)) rfl
theorem ms_M_nameAt : m_MS M_M_nameAt 3 := ⟨mw_M_nameAt, ws_M_nameAt⟩
theorem wc_M_note : (Jvm.Cond.code ({ cls := "PointsToRoundsModel", name := "note", desc := "(I)V" } : Jvm.MethodName) prog_7_method_28_code (7 : Nat) (Option.none : Option Jvm.ClassFile.FieldType)) ∈ TB := TB4 (List.mem_of_getElem? (i := 95) rfl) rfl
theorem mw_M_note : m_MW M_M_note 1 := ⟨wc_M_note, wi_M, ⟨by decide +kernel, by decide +kernel, by decide +kernel⟩, by decide +kernel⟩
theorem wn_M_note : (Jvm.Cond.instanceMethod ({ cls := "PointsToRoundsModel", name := "note", desc := "(I)V" } : Jvm.MethodName)) ∈ TB := TB4 (List.mem_of_getElem? (i := 94) (by decide +kernel)) rfl
theorem wl_M_note : Cond.selects "PointsToRoundsModel" ⟨"PointsToRoundsModel", "note", "(I)V"⟩ ⟨"PointsToRoundsModel", "note", "(I)V"⟩ ∈ TB := TBs (List.mem_of_getElem? (i := 40) (by decide +kernel)) rfl
theorem mi_M_note : m_MI M_M_note 1 5 := ⟨mw_M_note, wn_M_note, wl_M_note, TM, 44, rfl⟩
theorem wc_M_open : (Jvm.Cond.code ({ cls := "PointsToRoundsModel", name := "open", desc := "(III)V" } : Jvm.MethodName) prog_7_method_42_code (5 : Nat) (Option.none : Option Jvm.ClassFile.FieldType)) ∈ TB := TB4 (List.mem_of_getElem? (i := 143) rfl) rfl
theorem mw_M_open : m_MW M_M_open 3 := ⟨wc_M_open, wi_M, ⟨by decide +kernel, by decide +kernel, by decide +kernel⟩, by decide +kernel⟩
theorem wn_M_open : (Jvm.Cond.instanceMethod ({ cls := "PointsToRoundsModel", name := "open", desc := "(III)V" } : Jvm.MethodName)) ∈ TB := TB4 (List.mem_of_getElem? (i := 142) (by decide +kernel)) rfl
theorem wl_M_open : Cond.selects "PointsToRoundsModel" ⟨"PointsToRoundsModel", "open", "(III)V"⟩ ⟨"PointsToRoundsModel", "open", "(III)V"⟩ ∈ TB := TBs (List.mem_of_getElem? (i := 43) (by decide +kernel)) rfl
theorem mi_M_open : m_MI M_M_open 3 5 := ⟨mw_M_open, wn_M_open, wl_M_open, TM, 44, rfl⟩
theorem wc_M_statementOf : (Jvm.Cond.code ({ cls := "PointsToRoundsModel", name := "statementOf", desc := "(II)I" } : Jvm.MethodName) prog_7_method_43_code (5 : Nat) (Option.some Jvm.ClassFile.FieldType.int)) ∈ TB := TB4 (List.mem_of_getElem? (i := 153) rfl) rfl
theorem mw_M_statementOf : m_MW M_M_statementOf 2 := ⟨wc_M_statementOf, wi_M, ⟨by decide +kernel, by decide +kernel, by decide +kernel⟩, by decide +kernel⟩
theorem wn_M_statementOf : (Jvm.Cond.instanceMethod ({ cls := "PointsToRoundsModel", name := "statementOf", desc := "(II)I" } : Jvm.MethodName)) ∈ TB := TB4 (List.mem_of_getElem? (i := 152) (by decide +kernel)) rfl
theorem wl_M_statementOf : Cond.selects "PointsToRoundsModel" ⟨"PointsToRoundsModel", "statementOf", "(II)I"⟩ ⟨"PointsToRoundsModel", "statementOf", "(II)I"⟩ ∈ TB := TBs (List.mem_of_getElem? (i := 45) (by decide +kernel)) rfl
theorem mi_M_statementOf : m_MI M_M_statementOf 2 5 := ⟨mw_M_statementOf, wn_M_statementOf, wl_M_statementOf, TM, 44, rfl⟩
theorem wc_M_swap : (Jvm.Cond.code ({ cls := "PointsToRoundsModel", name := "swap", desc := "()V" } : Jvm.MethodName) prog_7_method_26_code (2 : Nat) (Option.none : Option Jvm.ClassFile.FieldType)) ∈ TB := TB4 (List.mem_of_getElem? (i := 91) rfl) rfl
theorem mw_M_swap : m_MW M_M_swap 0 := ⟨wc_M_swap, wi_M, ⟨by decide +kernel, by decide +kernel, by decide +kernel⟩, by decide +kernel⟩
theorem wn_M_swap : (Jvm.Cond.instanceMethod ({ cls := "PointsToRoundsModel", name := "swap", desc := "()V" } : Jvm.MethodName)) ∈ TB := TB4 (List.mem_of_getElem? (i := 90) (by decide +kernel)) rfl
theorem wl_M_swap : Cond.selects "PointsToRoundsModel" ⟨"PointsToRoundsModel", "swap", "()V"⟩ ⟨"PointsToRoundsModel", "swap", "()V"⟩ ∈ TB := TBs (List.mem_of_getElem? (i := 39) (by decide +kernel)) rfl
theorem mi_M_swap : m_MI M_M_swap 0 5 := ⟨mw_M_swap, wn_M_swap, wl_M_swap, TM, 44, rfl⟩
theorem wi_I : (Jvm.Cond.initialized "java/lang/Integer") ∈ TB := TB1 (List.mem_of_getElem? (i := 9) (by decide +kernel)) rfl
theorem wc_I_bitCount : (Jvm.Cond.code ({ cls := "java/lang/Integer", name := "bitCount", desc := "(I)I" } : Jvm.MethodName) prog_8_method_49_code (1 : Nat) (Option.some Jvm.ClassFile.FieldType.int)) ∈ TB := TB2 (List.mem_of_getElem? (i := 210) rfl) rfl
theorem mw_I_bitCount : m_MW M_I_bitCount 1 := ⟨wc_I_bitCount, wi_I, ⟨by decide +kernel, by decide +kernel, by decide +kernel⟩, by decide +kernel⟩
theorem ws_I_bitCount : (Jvm.Cond.static ({ cls := "java/lang/Integer", name := "bitCount", desc := "(I)I" } : Jvm.MethodName)) ∈ TB := TB2 (List.mem_of_getElem? (i := 209) (by decide +kernel)) rfl
theorem ms_I_bitCount : m_MS M_I_bitCount 1 := ⟨mw_I_bitCount, ws_I_bitCount⟩
theorem wi_A : (Jvm.Cond.initialized "java/util/Arrays") ∈ TB := TB1 (List.mem_of_getElem? (i := 7) (by decide +kernel)) rfl
theorem wc_A_fill : (Jvm.Cond.code ({ cls := "java/util/Arrays", name := "fill", desc := "([II)V" } : Jvm.MethodName) prog_10_method_103_code (4 : Nat) (Option.none : Option Jvm.ClassFile.FieldType)) ∈ TB := TB2 (List.mem_of_getElem? (i := 13) rfl) rfl
theorem mw_A_fill : m_MW M_A_fill 2 := ⟨wc_A_fill, wi_A, ⟨by decide +kernel, by decide +kernel, by decide +kernel⟩, by decide +kernel⟩
theorem ws_A_fill : (Jvm.Cond.static ({ cls := "java/util/Arrays", name := "fill", desc := "([II)V" } : Jvm.MethodName)) ∈ TB := TB2 (List.mem_of_getElem? (i := 12) (by decide +kernel)) rfl
theorem ms_A_fill : m_MS M_A_fill 2 := ⟨mw_A_fill, ws_A_fill⟩
theorem wc_A_fillR : (Jvm.Cond.code ({ cls := "java/util/Arrays", name := "fill", desc := "([IIII)V" } : Jvm.MethodName) prog_10_method_104_code (5 : Nat) (Option.none : Option Jvm.ClassFile.FieldType)) ∈ TB := TB3 (List.mem_of_getElem? (i := 18) rfl) rfl
theorem mw_A_fillR : m_MW M_A_fillR 4 := ⟨wc_A_fillR, wi_A, ⟨by decide +kernel, by decide +kernel, by decide +kernel⟩, by decide +kernel⟩
theorem ws_A_fillR : (Jvm.Cond.static ({ cls := "java/util/Arrays", name := "fill", desc := "([IIII)V" } : Jvm.MethodName)) ∈ TB := TB3 (List.mem_of_getElem? (i := 17) (by decide +kernel)) rfl
theorem ms_A_fillR : m_MS M_A_fillR 4 := ⟨mw_A_fillR, ws_A_fillR⟩
theorem wc_A_rangeCheck : (Jvm.Cond.code ({ cls := "java/util/Arrays", name := "rangeCheck", desc := "(III)V" } : Jvm.MethodName) prog_10_method_30_code (3 : Nat) (Option.none : Option Jvm.ClassFile.FieldType)) ∈ TB := TB3 (List.mem_of_getElem? (i := 21) rfl) rfl
theorem mw_A_rangeCheck : m_MW M_A_rangeCheck 3 := ⟨wc_A_rangeCheck, wi_A, ⟨by decide +kernel, by decide +kernel, by decide +kernel⟩, by decide +kernel⟩
theorem ws_A_rangeCheck : (Jvm.Cond.static ({ cls := "java/util/Arrays", name := "rangeCheck", desc := "(III)V" } : Jvm.MethodName)) ∈ TB := TB3 (List.mem_of_getElem? (i := 20) (by decide +kernel)) rfl
theorem ms_A_rangeCheck : m_MS M_A_rangeCheck 3 := ⟨mw_A_rangeCheck, ws_A_rangeCheck⟩
theorem wkO_34 : (Jvm.Cond.methodLink "PointsToRounds" (34 : Nat) ({ cls := "PointsToRounds$Program", name := "hasClass", desc := "(I)Z" } : Jvm.MethodName)) ∈ TB := TB1 (List.mem_of_getElem? (i := 239) (by decide +kernel)) rfl
theorem kO_34_i {M : mM} {Q : Option mV → mS → Prop} {pc : Nat} {ls : List (Option mV)} {st : List mV} {σ : mS} {args : List mV} {P : Int32 → mS → Prop} (hM : M.1.cls = "PointsToRounds") (hd : Nat.ble (M_P_hasClass.2.2.2.1 + 1) M.2.2.2.1 = true) (hst : Nat.ble st.length 8 = true) (h : MU M_P_hasClass (.inr (1, 0) :: args) σ (fun r s1 => ∃ x, r = some (.inl x) ∧ P x s1)) (d : decode M.2.1 pc = .ok (.invokevirtual 34, 3)) (k : ∀ x s1, P x s1 → J M Q (pc + 3) ls (.inl x :: st) s1) (hn : args.length = 1 := by rfl) : J M Q pc ls (args.reverse ++ .inr (1, 0) :: st) σ := J_callV h mi_P_hasClass (by rw [hM]; exact wkO_34) rfl hn (Nat.le_of_ble_eq_true hd) hst d (fun r τ h => by obtain ⟨x, rfl, h⟩ := h; exact k x τ h)
theorem wkO_42 : (Jvm.Cond.methodLink "PointsToRounds" (42 : Nat) ({ cls := "PointsToRounds", name := "forgetAnswers", desc := "()V" } : Jvm.MethodName)) ∈ TB := TB2 (List.mem_of_getElem? (i := 3) (by decide +kernel)) rfl
theorem kO_42_v {M : mM} {Q : Option mV → mS → Prop} {pc : Nat} {ls : List (Option mV)} {st : List mV} {σ : mS} {args : List mV} {P : mS → Prop} (hM : M.1.cls = "PointsToRounds") (hd : Nat.ble (M_O_forgetAnswers.2.2.2.1 + 1) M.2.2.2.1 = true) (hst : Nat.ble st.length 8 = true) (h : MU M_O_forgetAnswers (.inr (0, 0) :: args) σ (fun r s1 => r = none ∧ P s1)) (d : decode M.2.1 pc = .ok (.invokevirtual 42, 3)) (k : ∀ s1, P s1 → J M Q (pc + 3) ls st s1) (hn : args.length = 0 := by rfl) : J M Q pc ls (args.reverse ++ .inr (0, 0) :: st) σ := J_callV h mi_O_forgetAnswers (by rw [hM]; exact wkO_42) rfl hn (Nat.le_of_ble_eq_true hd) hst d (fun r τ h => by obtain ⟨rfl, h⟩ := h; exact k τ h)
theorem wkO_45 : (Jvm.Cond.methodLink "PointsToRounds" (45 : Nat) ({ cls := "PointsToRounds$Program", name := "addClass", desc := "(I)I" } : Jvm.MethodName)) ∈ TB := TB2 (List.mem_of_getElem? (i := 14) (by decide +kernel)) rfl
theorem kO_45_i {M : mM} {Q : Option mV → mS → Prop} {pc : Nat} {ls : List (Option mV)} {st : List mV} {σ : mS} {args : List mV} {P : Int32 → mS → Prop} (hM : M.1.cls = "PointsToRounds") (hd : Nat.ble (M_P_addClass.2.2.2.1 + 1) M.2.2.2.1 = true) (hst : Nat.ble st.length 8 = true) (h : MU M_P_addClass (.inr (1, 0) :: args) σ (fun r s1 => ∃ x, r = some (.inl x) ∧ P x s1)) (d : decode M.2.1 pc = .ok (.invokevirtual 45, 3)) (k : ∀ x s1, P x s1 → J M Q (pc + 3) ls (.inl x :: st) s1) (hn : args.length = 1 := by rfl) : J M Q pc ls (args.reverse ++ .inr (1, 0) :: st) σ := J_callV h mi_P_addClass (by rw [hM]; exact wkO_45) rfl hn (Nat.le_of_ble_eq_true hd) hst d (fun r τ h => by obtain ⟨x, rfl, h⟩ := h; exact k x τ h)
theorem wkO_52 : (Jvm.Cond.methodLink "PointsToRounds" (52 : Nat) ({ cls := "PointsToRounds$Program", name := "addField", desc := "(I)I" } : Jvm.MethodName)) ∈ TB := TB2 (List.mem_of_getElem? (i := 26) (by decide +kernel)) rfl
theorem kO_52_i {M : mM} {Q : Option mV → mS → Prop} {pc : Nat} {ls : List (Option mV)} {st : List mV} {σ : mS} {args : List mV} {P : Int32 → mS → Prop} (hM : M.1.cls = "PointsToRounds") (hd : Nat.ble (M_P_addField.2.2.2.1 + 1) M.2.2.2.1 = true) (hst : Nat.ble st.length 8 = true) (h : MU M_P_addField (.inr (1, 0) :: args) σ (fun r s1 => ∃ x, r = some (.inl x) ∧ P x s1)) (d : decode M.2.1 pc = .ok (.invokevirtual 52, 3)) (k : ∀ x s1, P x s1 → J M Q (pc + 3) ls (.inl x :: st) s1) (hn : args.length = 1 := by rfl) : J M Q pc ls (args.reverse ++ .inr (1, 0) :: st) σ := J_callV h mi_P_addField (by rw [hM]; exact wkO_52) rfl hn (Nat.le_of_ble_eq_true hd) hst d (fun r τ h => by obtain ⟨x, rfl, h⟩ := h; exact k x τ h)
theorem wkO_55 : (Jvm.Cond.methodLink "PointsToRounds" (55 : Nat) ({ cls := "PointsToRounds", name := "isSignature", desc := "(I)Z" } : Jvm.MethodName)) ∈ TB := TB2 (List.mem_of_getElem? (i := 34) (by decide +kernel)) rfl
theorem kO_55_i {M : mM} {Q : Option mV → mS → Prop} {pc : Nat} {ls : List (Option mV)} {st : List mV} {σ : mS} {args : List mV} {P : Int32 → mS → Prop} (hM : M.1.cls = "PointsToRounds") (hd : Nat.ble (M_O_isSignature.2.2.2.1 + 1) M.2.2.2.1 = true) (hst : Nat.ble st.length 8 = true) (h : MU M_O_isSignature args σ (fun r s1 => ∃ x, r = some (.inl x) ∧ P x s1)) (d : decode M.2.1 pc = .ok (.invokestatic 55, 3)) (k : ∀ x s1, P x s1 → J M Q (pc + 3) ls (.inl x :: st) s1) (hn : args.length = 1 := by rfl) : J M Q pc ls (args.reverse ++ st) σ := J_callS h ms_O_isSignature (by rw [hM]; exact wkO_55) hn (Nat.le_of_ble_eq_true hd) hst d (fun r τ h => by obtain ⟨x, rfl, h⟩ := h; exact k x τ h)
theorem wkO_58 : (Jvm.Cond.methodLink "PointsToRounds" (58 : Nat) ({ cls := "PointsToRounds$Program", name := "ownMethod", desc := "(II)I" } : Jvm.MethodName)) ∈ TB := TB2 (List.mem_of_getElem? (i := 37) (by decide +kernel)) rfl
theorem kO_58_i {M : mM} {Q : Option mV → mS → Prop} {pc : Nat} {ls : List (Option mV)} {st : List mV} {σ : mS} {args : List mV} {P : Int32 → mS → Prop} (hM : M.1.cls = "PointsToRounds") (hd : Nat.ble (M_P_ownMethod.2.2.2.1 + 1) M.2.2.2.1 = true) (hst : Nat.ble st.length 8 = true) (h : MU M_P_ownMethod (.inr (1, 0) :: args) σ (fun r s1 => ∃ x, r = some (.inl x) ∧ P x s1)) (d : decode M.2.1 pc = .ok (.invokevirtual 58, 3)) (k : ∀ x s1, P x s1 → J M Q (pc + 3) ls (.inl x :: st) s1) (hn : args.length = 2 := by rfl) : J M Q pc ls (args.reverse ++ .inr (1, 0) :: st) σ := J_callV h mi_P_ownMethod (by rw [hM]; exact wkO_58) rfl hn (Nat.le_of_ble_eq_true hd) hst d (fun r τ h => by obtain ⟨x, rfl, h⟩ := h; exact k x τ h)
theorem wkO_65 : (Jvm.Cond.methodLink "PointsToRounds" (65 : Nat) ({ cls := "PointsToRounds$Program", name := "addMethod", desc := "(II)I" } : Jvm.MethodName)) ∈ TB := TB2 (List.mem_of_getElem? (i := 41) (by decide +kernel)) rfl
theorem kO_65_i {M : mM} {Q : Option mV → mS → Prop} {pc : Nat} {ls : List (Option mV)} {st : List mV} {σ : mS} {args : List mV} {P : Int32 → mS → Prop} (hM : M.1.cls = "PointsToRounds") (hd : Nat.ble (M_P_addMethod.2.2.2.1 + 1) M.2.2.2.1 = true) (hst : Nat.ble st.length 8 = true) (h : MU M_P_addMethod (.inr (1, 0) :: args) σ (fun r s1 => ∃ x, r = some (.inl x) ∧ P x s1)) (d : decode M.2.1 pc = .ok (.invokevirtual 65, 3)) (k : ∀ x s1, P x s1 → J M Q (pc + 3) ls (.inl x :: st) s1) (hn : args.length = 2 := by rfl) : J M Q pc ls (args.reverse ++ .inr (1, 0) :: st) σ := J_callV h mi_P_addMethod (by rw [hM]; exact wkO_65) rfl hn (Nat.le_of_ble_eq_true hd) hst d (fun r τ h => by obtain ⟨x, rfl, h⟩ := h; exact k x τ h)
theorem wkO_68 : (Jvm.Cond.methodLink "PointsToRounds" (68 : Nat) ({ cls := "PointsToRounds$Program", name := "hasMethod", desc := "(I)Z" } : Jvm.MethodName)) ∈ TB := TB2 (List.mem_of_getElem? (i := 49) (by decide +kernel)) rfl
theorem kO_68_i {M : mM} {Q : Option mV → mS → Prop} {pc : Nat} {ls : List (Option mV)} {st : List mV} {σ : mS} {args : List mV} {P : Int32 → mS → Prop} (hM : M.1.cls = "PointsToRounds") (hd : Nat.ble (M_P_hasMethod.2.2.2.1 + 1) M.2.2.2.1 = true) (hst : Nat.ble st.length 8 = true) (h : MU M_P_hasMethod (.inr (1, 0) :: args) σ (fun r s1 => ∃ x, r = some (.inl x) ∧ P x s1)) (d : decode M.2.1 pc = .ok (.invokevirtual 68, 3)) (k : ∀ x s1, P x s1 → J M Q (pc + 3) ls (.inl x :: st) s1) (hn : args.length = 1 := by rfl) : J M Q pc ls (args.reverse ++ .inr (1, 0) :: st) σ := J_callV h mi_P_hasMethod (by rw [hM]; exact wkO_68) rfl hn (Nat.le_of_ble_eq_true hd) hst d (fun r τ h => by obtain ⟨x, rfl, h⟩ := h; exact k x τ h)
theorem wkO_71 : (Jvm.Cond.methodLink "PointsToRounds" (71 : Nat) ({ cls := "PointsToRounds$Program", name := "hasOperands", desc := "(IIIIII)Z" } : Jvm.MethodName)) ∈ TB := TB2 (List.mem_of_getElem? (i := 53) (by decide +kernel)) rfl
theorem kO_71_i {M : mM} {Q : Option mV → mS → Prop} {pc : Nat} {ls : List (Option mV)} {st : List mV} {σ : mS} {args : List mV} {P : Int32 → mS → Prop} (hM : M.1.cls = "PointsToRounds") (hd : Nat.ble (M_P_hasOperands.2.2.2.1 + 1) M.2.2.2.1 = true) (hst : Nat.ble st.length 8 = true) (h : MU M_P_hasOperands (.inr (1, 0) :: args) σ (fun r s1 => ∃ x, r = some (.inl x) ∧ P x s1)) (d : decode M.2.1 pc = .ok (.invokevirtual 71, 3)) (k : ∀ x s1, P x s1 → J M Q (pc + 3) ls (.inl x :: st) s1) (hn : args.length = 6 := by rfl) : J M Q pc ls (args.reverse ++ .inr (1, 0) :: st) σ := J_callV h mi_P_hasOperands (by rw [hM]; exact wkO_71) rfl hn (Nat.le_of_ble_eq_true hd) hst d (fun r τ h => by obtain ⟨x, rfl, h⟩ := h; exact k x τ h)
theorem wkO_75 : (Jvm.Cond.methodLink "PointsToRounds" (75 : Nat) ({ cls := "PointsToRounds$Program", name := "hasRoomFor", desc := "(I)Z" } : Jvm.MethodName)) ∈ TB := TB2 (List.mem_of_getElem? (i := 68) (by decide +kernel)) rfl
theorem kO_75_i {M : mM} {Q : Option mV → mS → Prop} {pc : Nat} {ls : List (Option mV)} {st : List mV} {σ : mS} {args : List mV} {P : Int32 → mS → Prop} (hM : M.1.cls = "PointsToRounds") (hd : Nat.ble (M_P_hasRoomFor.2.2.2.1 + 1) M.2.2.2.1 = true) (hst : Nat.ble st.length 8 = true) (h : MU M_P_hasRoomFor (.inr (1, 0) :: args) σ (fun r s1 => ∃ x, r = some (.inl x) ∧ P x s1)) (d : decode M.2.1 pc = .ok (.invokevirtual 75, 3)) (k : ∀ x s1, P x s1 → J M Q (pc + 3) ls (.inl x :: st) s1) (hn : args.length = 1 := by rfl) : J M Q pc ls (args.reverse ++ .inr (1, 0) :: st) σ := J_callV h mi_P_hasRoomFor (by rw [hM]; exact wkO_75) rfl hn (Nat.le_of_ble_eq_true hd) hst d (fun r τ h => by obtain ⟨x, rfl, h⟩ := h; exact k x τ h)
theorem wkO_78 : (Jvm.Cond.methodLink "PointsToRounds" (78 : Nat) ({ cls := "PointsToRounds$Program", name := "nextStatement", desc := "()LPointsToRounds$Statement;" } : Jvm.MethodName)) ∈ TB := TB2 (List.mem_of_getElem? (i := 72) (by decide +kernel)) rfl
theorem kO_78_r {M : mM} {Q : Option mV → mS → Prop} {pc : Nat} {ls : List (Option mV)} {st : List mV} {σ : mS} {args : List mV} {P : Nat → mS → Prop} (hM : M.1.cls = "PointsToRounds") (hd : Nat.ble (M_P_nextStatement.2.2.2.1 + 1) M.2.2.2.1 = true) (hst : Nat.ble st.length 8 = true) (h : MU M_P_nextStatement (.inr (1, 0) :: args) σ (fun r s1 => ∃ x, r = some (.inr (59, x)) ∧ P x s1)) (d : decode M.2.1 pc = .ok (.invokevirtual 78, 3)) (k : ∀ x s1, P x s1 → J M Q (pc + 3) ls (.inr (59, x) :: st) s1) (hn : args.length = 0 := by rfl) : J M Q pc ls (args.reverse ++ .inr (1, 0) :: st) σ := J_callV h mi_P_nextStatement (by rw [hM]; exact wkO_78) rfl hn (Nat.le_of_ble_eq_true hd) hst d (fun r τ h => by obtain ⟨x, rfl, h⟩ := h; exact k x τ h)
theorem wkO_82 : (Jvm.Cond.methodLink "PointsToRounds" (82 : Nat) ({ cls := "PointsToRounds$Statement", name := "tell", desc := "(IIIIII)V" } : Jvm.MethodName)) ∈ TB := TB2 (List.mem_of_getElem? (i := 76) (by decide +kernel)) rfl
theorem kO_82_v {M : mM} {Q : Option mV → mS → Prop} {pc : Nat} {ls : List (Option mV)} {st : List mV} {σ : mS} {n : Nat} {args : List mV} {P : mS → Prop} (hM : M.1.cls = "PointsToRounds") (hd : Nat.ble (M_G_tell.2.2.2.1 + 1) M.2.2.2.1 = true) (hst : Nat.ble st.length 8 = true) (h : MU M_G_tell (.inr (59, n) :: args) σ (fun r s1 => r = none ∧ P s1)) (d : decode M.2.1 pc = .ok (.invokevirtual 82, 3)) (k : ∀ s1, P s1 → J M Q (pc + 3) ls st s1) (hn : args.length = 6 := by rfl) : J M Q pc ls (args.reverse ++ .inr (59, n) :: st) σ := J_callV h mi_G_tell (by rw [hM]; exact wkO_82) (o_ci_st n) hn (Nat.le_of_ble_eq_true hd) hst d (fun r τ h => by obtain ⟨rfl, h⟩ := h; exact k τ h)
theorem wkO_88 : (Jvm.Cond.methodLink "PointsToRounds" (88 : Nat) ({ cls := "PointsToRounds$Program", name := "addStatement", desc := "(I)I" } : Jvm.MethodName)) ∈ TB := TB2 (List.mem_of_getElem? (i := 80) (by decide +kernel)) rfl
theorem kO_88_i {M : mM} {Q : Option mV → mS → Prop} {pc : Nat} {ls : List (Option mV)} {st : List mV} {σ : mS} {args : List mV} {P : Int32 → mS → Prop} (hM : M.1.cls = "PointsToRounds") (hd : Nat.ble (M_P_addStatement.2.2.2.1 + 1) M.2.2.2.1 = true) (hst : Nat.ble st.length 8 = true) (h : MU M_P_addStatement (.inr (1, 0) :: args) σ (fun r s1 => ∃ x, r = some (.inl x) ∧ P x s1)) (d : decode M.2.1 pc = .ok (.invokevirtual 88, 3)) (k : ∀ x s1, P x s1 → J M Q (pc + 3) ls (.inl x :: st) s1) (hn : args.length = 1 := by rfl) : J M Q pc ls (args.reverse ++ .inr (1, 0) :: st) σ := J_callV h mi_P_addStatement (by rw [hM]; exact wkO_88) rfl hn (Nat.le_of_ble_eq_true hd) hst d (fun r τ h => by obtain ⟨x, rfl, h⟩ := h; exact k x τ h)
theorem wkO_98 : (Jvm.Cond.methodLink "PointsToRounds" (98 : Nat) ({ cls := "PointsToRounds$Program", name := "empty", desc := "()V" } : Jvm.MethodName)) ∈ TB := TB2 (List.mem_of_getElem? (i := 99) (by decide +kernel)) rfl
theorem kO_98_v {M : mM} {Q : Option mV → mS → Prop} {pc : Nat} {ls : List (Option mV)} {st : List mV} {σ : mS} {args : List mV} {P : mS → Prop} (hM : M.1.cls = "PointsToRounds") (hd : Nat.ble (M_P_empty.2.2.2.1 + 1) M.2.2.2.1 = true) (hst : Nat.ble st.length 8 = true) (h : MU M_P_empty (.inr (1, 0) :: args) σ (fun r s1 => r = none ∧ P s1)) (d : decode M.2.1 pc = .ok (.invokevirtual 98, 3)) (k : ∀ s1, P s1 → J M Q (pc + 3) ls st s1) (hn : args.length = 0 := by rfl) : J M Q pc ls (args.reverse ++ .inr (1, 0) :: st) σ := J_callV h mi_P_empty (by rw [hM]; exact wkO_98) rfl hn (Nat.le_of_ble_eq_true hd) hst d (fun r τ h => by obtain ⟨rfl, h⟩ := h; exact k τ h)
theorem wkO_101 : (Jvm.Cond.methodLink "PointsToRounds" (101 : Nat) ({ cls := "PointsToRounds$Program", name := "hasName", desc := "(II)Z" } : Jvm.MethodName)) ∈ TB := TB2 (List.mem_of_getElem? (i := 107) (by decide +kernel)) rfl
theorem kO_101_i {M : mM} {Q : Option mV → mS → Prop} {pc : Nat} {ls : List (Option mV)} {st : List mV} {σ : mS} {args : List mV} {P : Int32 → mS → Prop} (hM : M.1.cls = "PointsToRounds") (hd : Nat.ble (M_P_hasName.2.2.2.1 + 1) M.2.2.2.1 = true) (hst : Nat.ble st.length 8 = true) (h : MU M_P_hasName (.inr (1, 0) :: args) σ (fun r s1 => ∃ x, r = some (.inl x) ∧ P x s1)) (d : decode M.2.1 pc = .ok (.invokevirtual 101, 3)) (k : ∀ x s1, P x s1 → J M Q (pc + 3) ls (.inl x :: st) s1) (hn : args.length = 2 := by rfl) : J M Q pc ls (args.reverse ++ .inr (1, 0) :: st) σ := J_callV h mi_P_hasName (by rw [hM]; exact wkO_101) rfl hn (Nat.le_of_ble_eq_true hd) hst d (fun r τ h => by obtain ⟨x, rfl, h⟩ := h; exact k x τ h)
theorem wkO_105 : (Jvm.Cond.methodLink "PointsToRounds" (105 : Nat) ({ cls := "PointsToRounds$Sets", name := "hasContext", desc := "(I)Z" } : Jvm.MethodName)) ∈ TB := TB2 (List.mem_of_getElem? (i := 112) (by decide +kernel)) rfl
theorem kO_105_i {M : mM} {Q : Option mV → mS → Prop} {pc : Nat} {ls : List (Option mV)} {st : List mV} {σ : mS} {args : List mV} {P : Int32 → mS → Prop} (hM : M.1.cls = "PointsToRounds") (hd : Nat.ble (M_S_hasContext.2.2.2.1 + 1) M.2.2.2.1 = true) (hst : Nat.ble st.length 8 = true) (h : MU M_S_hasContext (.inr (2, 0) :: args) σ (fun r s1 => ∃ x, r = some (.inl x) ∧ P x s1)) (d : decode M.2.1 pc = .ok (.invokevirtual 105, 3)) (k : ∀ x s1, P x s1 → J M Q (pc + 3) ls (.inl x :: st) s1) (hn : args.length = 1 := by rfl) : J M Q pc ls (args.reverse ++ .inr (2, 0) :: st) σ := J_callV h mi_S_hasContext (by rw [hM]; exact wkO_105) rfl hn (Nat.le_of_ble_eq_true hd) hst d (fun r τ h => by obtain ⟨x, rfl, h⟩ := h; exact k x τ h)
theorem wkO_108 : (Jvm.Cond.methodLink "PointsToRounds" (108 : Nat) ({ cls := "PointsToRounds$Sets", name := "settle", desc := "()V" } : Jvm.MethodName)) ∈ TB := TB2 (List.mem_of_getElem? (i := 116) (by decide +kernel)) rfl
theorem kO_108_v {M : mM} {Q : Option mV → mS → Prop} {pc : Nat} {ls : List (Option mV)} {st : List mV} {σ : mS} {args : List mV} {P : mS → Prop} (hM : M.1.cls = "PointsToRounds") (hd : Nat.ble (M_S_settle.2.2.2.1 + 1) M.2.2.2.1 = true) (hst : Nat.ble st.length 8 = true) (h : MU M_S_settle (.inr (2, 0) :: args) σ (fun r s1 => r = none ∧ P s1)) (d : decode M.2.1 pc = .ok (.invokevirtual 108, 3)) (k : ∀ s1, P s1 → J M Q (pc + 3) ls st s1) (hn : args.length = 0 := by rfl) : J M Q pc ls (args.reverse ++ .inr (2, 0) :: st) σ := J_callV h mi_S_settle (by rw [hM]; exact wkO_108) rfl hn (Nat.le_of_ble_eq_true hd) hst d (fun r τ h => by obtain ⟨rfl, h⟩ := h; exact k τ h)
theorem wkO_111 : (Jvm.Cond.methodLink "PointsToRounds" (111 : Nat) ({ cls := "PointsToRounds$Sets", name := "inAllContexts", desc := "(II)I" } : Jvm.MethodName)) ∈ TB := TB2 (List.mem_of_getElem? (i := 176) (by decide +kernel)) rfl
theorem kO_111_i {M : mM} {Q : Option mV → mS → Prop} {pc : Nat} {ls : List (Option mV)} {st : List mV} {σ : mS} {args : List mV} {P : Int32 → mS → Prop} (hM : M.1.cls = "PointsToRounds") (hd : Nat.ble (M_S_inAllContexts.2.2.2.1 + 1) M.2.2.2.1 = true) (hst : Nat.ble st.length 8 = true) (h : MU M_S_inAllContexts (.inr (2, 0) :: args) σ (fun r s1 => ∃ x, r = some (.inl x) ∧ P x s1)) (d : decode M.2.1 pc = .ok (.invokevirtual 111, 3)) (k : ∀ x s1, P x s1 → J M Q (pc + 3) ls (.inl x :: st) s1) (hn : args.length = 2 := by rfl) : J M Q pc ls (args.reverse ++ .inr (2, 0) :: st) σ := J_callV h mi_S_inAllContexts (by rw [hM]; exact wkO_111) rfl hn (Nat.le_of_ble_eq_true hd) hst d (fun r τ h => by obtain ⟨x, rfl, h⟩ := h; exact k x τ h)
theorem wkO_114 : (Jvm.Cond.methodLink "PointsToRounds" (114 : Nat) ({ cls := "PointsToRounds", name := "namesOf", desc := "(II)I" } : Jvm.MethodName)) ∈ TB := TB2 (List.mem_of_getElem? (i := 180) (by decide +kernel)) rfl
theorem kO_114_i {M : mM} {Q : Option mV → mS → Prop} {pc : Nat} {ls : List (Option mV)} {st : List mV} {σ : mS} {args : List mV} {P : Int32 → mS → Prop} (hM : M.1.cls = "PointsToRounds") (hd : Nat.ble (M_O_namesOf.2.2.2.1 + 1) M.2.2.2.1 = true) (hst : Nat.ble st.length 8 = true) (h : MU M_O_namesOf args σ (fun r s1 => ∃ x, r = some (.inl x) ∧ P x s1)) (d : decode M.2.1 pc = .ok (.invokestatic 114, 3)) (k : ∀ x s1, P x s1 → J M Q (pc + 3) ls (.inl x :: st) s1) (hn : args.length = 2 := by rfl) : J M Q pc ls (args.reverse ++ st) σ := J_callS h ms_O_namesOf (by rw [hM]; exact wkO_114) hn (Nat.le_of_ble_eq_true hd) hst d (fun r τ h => by obtain ⟨x, rfl, h⟩ := h; exact k x τ h)
theorem wkO_117 : (Jvm.Cond.methodLink "PointsToRounds" (117 : Nat) ({ cls := "PointsToRounds$Sets", name := "at", desc := "(I)I" } : Jvm.MethodName)) ∈ TB := TB2 (List.mem_of_getElem? (i := 181) (by decide +kernel)) rfl
theorem kO_117_i {M : mM} {Q : Option mV → mS → Prop} {pc : Nat} {ls : List (Option mV)} {st : List mV} {σ : mS} {args : List mV} {P : Int32 → mS → Prop} (hM : M.1.cls = "PointsToRounds") (hd : Nat.ble (M_S_at.2.2.2.1 + 1) M.2.2.2.1 = true) (hst : Nat.ble st.length 8 = true) (h : MU M_S_at (.inr (2, 0) :: args) σ (fun r s1 => ∃ x, r = some (.inl x) ∧ P x s1)) (d : decode M.2.1 pc = .ok (.invokevirtual 117, 3)) (k : ∀ x s1, P x s1 → J M Q (pc + 3) ls (.inl x :: st) s1) (hn : args.length = 1 := by rfl) : J M Q pc ls (args.reverse ++ .inr (2, 0) :: st) σ := J_callV h mi_S_at (by rw [hM]; exact wkO_117) rfl hn (Nat.le_of_ble_eq_true hd) hst d (fun r τ h => by obtain ⟨x, rfl, h⟩ := h; exact k x τ h)
theorem wkO_120 : (Jvm.Cond.methodLink "PointsToRounds" (120 : Nat) ({ cls := "PointsToRounds$Program", name := "hasSite", desc := "(I)Z" } : Jvm.MethodName)) ∈ TB := TB2 (List.mem_of_getElem? (i := 189) (by decide +kernel)) rfl
theorem kO_120_i {M : mM} {Q : Option mV → mS → Prop} {pc : Nat} {ls : List (Option mV)} {st : List mV} {σ : mS} {args : List mV} {P : Int32 → mS → Prop} (hM : M.1.cls = "PointsToRounds") (hd : Nat.ble (M_P_hasSite.2.2.2.1 + 1) M.2.2.2.1 = true) (hst : Nat.ble st.length 8 = true) (h : MU M_P_hasSite (.inr (1, 0) :: args) σ (fun r s1 => ∃ x, r = some (.inl x) ∧ P x s1)) (d : decode M.2.1 pc = .ok (.invokevirtual 120, 3)) (k : ∀ x s1, P x s1 → J M Q (pc + 3) ls (.inl x :: st) s1) (hn : args.length = 1 := by rfl) : J M Q pc ls (args.reverse ++ .inr (1, 0) :: st) σ := J_callV h mi_P_hasSite (by rw [hM]; exact wkO_120) rfl hn (Nat.le_of_ble_eq_true hd) hst d (fun r τ h => by obtain ⟨x, rfl, h⟩ := h; exact k x τ h)
theorem wkO_123 : (Jvm.Cond.methodLink "PointsToRounds" (123 : Nat) ({ cls := "PointsToRounds$Program", name := "hasField", desc := "(I)Z" } : Jvm.MethodName)) ∈ TB := TB2 (List.mem_of_getElem? (i := 193) (by decide +kernel)) rfl
theorem kO_123_i {M : mM} {Q : Option mV → mS → Prop} {pc : Nat} {ls : List (Option mV)} {st : List mV} {σ : mS} {args : List mV} {P : Int32 → mS → Prop} (hM : M.1.cls = "PointsToRounds") (hd : Nat.ble (M_P_hasField.2.2.2.1 + 1) M.2.2.2.1 = true) (hst : Nat.ble st.length 8 = true) (h : MU M_P_hasField (.inr (1, 0) :: args) σ (fun r s1 => ∃ x, r = some (.inl x) ∧ P x s1)) (d : decode M.2.1 pc = .ok (.invokevirtual 123, 3)) (k : ∀ x s1, P x s1 → J M Q (pc + 3) ls (.inl x :: st) s1) (hn : args.length = 1 := by rfl) : J M Q pc ls (args.reverse ++ .inr (1, 0) :: st) σ := J_callV h mi_P_hasField (by rw [hM]; exact wkO_123) rfl hn (Nat.le_of_ble_eq_true hd) hst d (fun r τ h => by obtain ⟨x, rfl, h⟩ := h; exact k x τ h)
theorem wkO_126 : (Jvm.Cond.methodLink "PointsToRounds" (126 : Nat) ({ cls := "PointsToRounds", name := "slotPlace", desc := "(II)I" } : Jvm.MethodName)) ∈ TB := TB2 (List.mem_of_getElem? (i := 194) (by decide +kernel)) rfl
theorem kO_126_i {M : mM} {Q : Option mV → mS → Prop} {pc : Nat} {ls : List (Option mV)} {st : List mV} {σ : mS} {args : List mV} {P : Int32 → mS → Prop} (hM : M.1.cls = "PointsToRounds") (hd : Nat.ble (M_O_slotPlace.2.2.2.1 + 1) M.2.2.2.1 = true) (hst : Nat.ble st.length 8 = true) (h : MU M_O_slotPlace args σ (fun r s1 => ∃ x, r = some (.inl x) ∧ P x s1)) (d : decode M.2.1 pc = .ok (.invokestatic 126, 3)) (k : ∀ x s1, P x s1 → J M Q (pc + 3) ls (.inl x :: st) s1) (hn : args.length = 2 := by rfl) : J M Q pc ls (args.reverse ++ st) σ := J_callS h ms_O_slotPlace (by rw [hM]; exact wkO_126) hn (Nat.le_of_ble_eq_true hd) hst d (fun r τ h => by obtain ⟨x, rfl, h⟩ := h; exact k x τ h)
theorem wkO_129 : (Jvm.Cond.methodLink "PointsToRounds" (129 : Nat) ({ cls := "PointsToRounds", name := "isStatic", desc := "(I)Z" } : Jvm.MethodName)) ∈ TB := TB2 (List.mem_of_getElem? (i := 203) (by decide +kernel)) rfl
theorem kO_129_i {M : mM} {Q : Option mV → mS → Prop} {pc : Nat} {ls : List (Option mV)} {st : List mV} {σ : mS} {args : List mV} {P : Int32 → mS → Prop} (hM : M.1.cls = "PointsToRounds") (hd : Nat.ble (M_O_isStatic.2.2.2.1 + 1) M.2.2.2.1 = true) (hst : Nat.ble st.length 8 = true) (h : MU M_O_isStatic args σ (fun r s1 => ∃ x, r = some (.inl x) ∧ P x s1)) (d : decode M.2.1 pc = .ok (.invokestatic 129, 3)) (k : ∀ x s1, P x s1 → J M Q (pc + 3) ls (.inl x :: st) s1) (hn : args.length = 1 := by rfl) : J M Q pc ls (args.reverse ++ st) σ := J_callS h ms_O_isStatic (by rw [hM]; exact wkO_129) hn (Nat.le_of_ble_eq_true hd) hst d (fun r τ h => by obtain ⟨x, rfl, h⟩ := h; exact k x τ h)
theorem wkO_132 : (Jvm.Cond.methodLink "PointsToRounds" (132 : Nat) ({ cls := "java/lang/Integer", name := "bitCount", desc := "(I)I" } : Jvm.MethodName)) ∈ TB := TB2 (List.mem_of_getElem? (i := 208) (by decide +kernel)) rfl
theorem kO_132_i {M : mM} {Q : Option mV → mS → Prop} {pc : Nat} {ls : List (Option mV)} {st : List mV} {σ : mS} {args : List mV} {P : Int32 → mS → Prop} (hM : M.1.cls = "PointsToRounds") (hd : Nat.ble (M_I_bitCount.2.2.2.1 + 1) M.2.2.2.1 = true) (hst : Nat.ble st.length 8 = true) (h : MU M_I_bitCount args σ (fun r s1 => ∃ x, r = some (.inl x) ∧ P x s1)) (d : decode M.2.1 pc = .ok (.invokestatic 132, 3)) (k : ∀ x s1, P x s1 → J M Q (pc + 3) ls (.inl x :: st) s1) (hn : args.length = 1 := by rfl) : J M Q pc ls (args.reverse ++ st) σ := J_callS h ms_I_bitCount (by rw [hM]; exact wkO_132) hn (Nat.le_of_ble_eq_true hd) hst d (fun r τ h => by obtain ⟨x, rfl, h⟩ := h; exact k x τ h)
theorem wkO_137 : (Jvm.Cond.methodLink "PointsToRounds" (137 : Nat) ({ cls := "PointsToRounds$Program", name := "hasStatement", desc := "(I)Z" } : Jvm.MethodName)) ∈ TB := TB2 (List.mem_of_getElem? (i := 218) (by decide +kernel)) rfl
theorem kO_137_i {M : mM} {Q : Option mV → mS → Prop} {pc : Nat} {ls : List (Option mV)} {st : List mV} {σ : mS} {args : List mV} {P : Int32 → mS → Prop} (hM : M.1.cls = "PointsToRounds") (hd : Nat.ble (M_P_hasStatement.2.2.2.1 + 1) M.2.2.2.1 = true) (hst : Nat.ble st.length 8 = true) (h : MU M_P_hasStatement (.inr (1, 0) :: args) σ (fun r s1 => ∃ x, r = some (.inl x) ∧ P x s1)) (d : decode M.2.1 pc = .ok (.invokevirtual 137, 3)) (k : ∀ x s1, P x s1 → J M Q (pc + 3) ls (.inl x :: st) s1) (hn : args.length = 1 := by rfl) : J M Q pc ls (args.reverse ++ .inr (1, 0) :: st) σ := J_callV h mi_P_hasStatement (by rw [hM]; exact wkO_137) rfl hn (Nat.le_of_ble_eq_true hd) hst d (fun r τ h => by obtain ⟨x, rfl, h⟩ := h; exact k x τ h)
theorem wkO_156 : (Jvm.Cond.methodLink "PointsToRounds" (156 : Nat) ({ cls := "PointsToRounds$Program", name := "methodsFound", desc := "(II)I" } : Jvm.MethodName)) ∈ TB := TB2 (List.mem_of_getElem? (i := 222) (by decide +kernel)) rfl
theorem kO_156_i {M : mM} {Q : Option mV → mS → Prop} {pc : Nat} {ls : List (Option mV)} {st : List mV} {σ : mS} {args : List mV} {P : Int32 → mS → Prop} (hM : M.1.cls = "PointsToRounds") (hd : Nat.ble (M_P_methodsFound.2.2.2.1 + 1) M.2.2.2.1 = true) (hst : Nat.ble st.length 8 = true) (h : MU M_P_methodsFound (.inr (1, 0) :: args) σ (fun r s1 => ∃ x, r = some (.inl x) ∧ P x s1)) (d : decode M.2.1 pc = .ok (.invokevirtual 156, 3)) (k : ∀ x s1, P x s1 → J M Q (pc + 3) ls (.inl x :: st) s1) (hn : args.length = 2 := by rfl) : J M Q pc ls (args.reverse ++ .inr (1, 0) :: st) σ := J_callV h mi_P_methodsFound (by rw [hM]; exact wkO_156) rfl hn (Nat.le_of_ble_eq_true hd) hst d (fun r τ h => by obtain ⟨x, rfl, h⟩ := h; exact k x τ h)
theorem wkO_166 : (Jvm.Cond.methodLink "PointsToRounds" (166 : Nat) ({ cls := "PointsToRounds$Sets", name := "firstRound", desc := "(III)I" } : Jvm.MethodName)) ∈ TB := TB2 (List.mem_of_getElem? (i := 239) (by decide +kernel)) rfl
theorem kO_166_i {M : mM} {Q : Option mV → mS → Prop} {pc : Nat} {ls : List (Option mV)} {st : List mV} {σ : mS} {args : List mV} {P : Int32 → mS → Prop} (hM : M.1.cls = "PointsToRounds") (hd : Nat.ble (M_S_firstRound.2.2.2.1 + 1) M.2.2.2.1 = true) (hst : Nat.ble st.length 8 = true) (h : MU M_S_firstRound (.inr (2, 0) :: args) σ (fun r s1 => ∃ x, r = some (.inl x) ∧ P x s1)) (d : decode M.2.1 pc = .ok (.invokevirtual 166, 3)) (k : ∀ x s1, P x s1 → J M Q (pc + 3) ls (.inl x :: st) s1) (hn : args.length = 3 := by rfl) : J M Q pc ls (args.reverse ++ .inr (2, 0) :: st) σ := J_callV h mi_S_firstRound (by rw [hM]; exact wkO_166) rfl hn (Nat.le_of_ble_eq_true hd) hst d (fun r τ h => by obtain ⟨x, rfl, h⟩ := h; exact k x τ h)
theorem wkO_170 : (Jvm.Cond.methodLink "PointsToRounds" (170 : Nat) ({ cls := "PointsToRounds$Trial", name := "holdsFor", desc := "(II)Z" } : Jvm.MethodName)) ∈ TB := TB3 (List.mem_of_getElem? (i := 7) (by decide +kernel)) rfl
theorem kO_170_i {M : mM} {Q : Option mV → mS → Prop} {pc : Nat} {ls : List (Option mV)} {st : List mV} {σ : mS} {args : List mV} {P : Int32 → mS → Prop} (hM : M.1.cls = "PointsToRounds") (hd : Nat.ble (M_T_holdsFor.2.2.2.1 + 1) M.2.2.2.1 = true) (hst : Nat.ble st.length 8 = true) (h : MU M_T_holdsFor (.inr (3, 0) :: args) σ (fun r s1 => ∃ x, r = some (.inl x) ∧ P x s1)) (d : decode M.2.1 pc = .ok (.invokevirtual 170, 3)) (k : ∀ x s1, P x s1 → J M Q (pc + 3) ls (.inl x :: st) s1) (hn : args.length = 2 := by rfl) : J M Q pc ls (args.reverse ++ .inr (3, 0) :: st) σ := J_callV h mi_T_holdsFor (by rw [hM]; exact wkO_170) rfl hn (Nat.le_of_ble_eq_true hd) hst d (fun r τ h => by obtain ⟨x, rfl, h⟩ := h; exact k x τ h)
theorem wkO_188 : (Jvm.Cond.methodLink "PointsToRounds" (188 : Nat) ({ cls := "PointsToRounds$Trial", name := "forget", desc := "()V" } : Jvm.MethodName)) ∈ TB := TB2 (List.mem_of_getElem? (i := 7) (by decide +kernel)) rfl
theorem kO_188_v {M : mM} {Q : Option mV → mS → Prop} {pc : Nat} {ls : List (Option mV)} {st : List mV} {σ : mS} {args : List mV} {P : mS → Prop} (hM : M.1.cls = "PointsToRounds") (hd : Nat.ble (M_T_forget.2.2.2.1 + 1) M.2.2.2.1 = true) (hst : Nat.ble st.length 8 = true) (h : MU M_T_forget (.inr (3, 0) :: args) σ (fun r s1 => r = none ∧ P s1)) (d : decode M.2.1 pc = .ok (.invokevirtual 188, 3)) (k : ∀ s1, P s1 → J M Q (pc + 3) ls st s1) (hn : args.length = 0 := by rfl) : J M Q pc ls (args.reverse ++ .inr (3, 0) :: st) σ := J_callV h mi_T_forget (by rw [hM]; exact wkO_188) rfl hn (Nat.le_of_ble_eq_true hd) hst d (fun r τ h => by obtain ⟨rfl, h⟩ := h; exact k τ h)
theorem wkP_56 : (Jvm.Cond.methodLink "PointsToRounds$Program" (56 : Nat) ({ cls := "PointsToRounds$Program", name := "hasMethod", desc := "(I)Z" } : Jvm.MethodName)) ∈ TB := TB2 (List.mem_of_getElem? (i := 111) (by decide +kernel)) rfl
theorem kP_56_i {M : mM} {Q : Option mV → mS → Prop} {pc : Nat} {ls : List (Option mV)} {st : List mV} {σ : mS} {args : List mV} {P : Int32 → mS → Prop} (hM : M.1.cls = "PointsToRounds$Program") (hd : Nat.ble (M_P_hasMethod.2.2.2.1 + 1) M.2.2.2.1 = true) (hst : Nat.ble st.length 8 = true) (h : MU M_P_hasMethod (.inr (1, 0) :: args) σ (fun r s1 => ∃ x, r = some (.inl x) ∧ P x s1)) (d : decode M.2.1 pc = .ok (.invokevirtual 56, 3)) (k : ∀ x s1, P x s1 → J M Q (pc + 3) ls (.inl x :: st) s1) (hn : args.length = 1 := by rfl) : J M Q pc ls (args.reverse ++ .inr (1, 0) :: st) σ := J_callV h mi_P_hasMethod (by rw [hM]; exact wkP_56) rfl hn (Nat.le_of_ble_eq_true hd) hst d (fun r τ h => by obtain ⟨x, rfl, h⟩ := h; exact k x τ h)
theorem wkP_60 : Cond.methodLinkNest "PointsToRounds$Program" 60 ⟨"PointsToRounds", "isName", "(I)Z"⟩ "PointsToRounds" ∈ NW := by decide +kernel
theorem kP_60_i {M : mM} {Q : Option mV → mS → Prop} {pc : Nat} {ls : List (Option mV)} {st : List mV} {σ : mS} {args : List mV} {P : Int32 → mS → Prop} (hM : M.1.cls = "PointsToRounds$Program") (hd : Nat.ble (M_O_isName.2.2.2.1 + 1) M.2.2.2.1 = true) (hst : Nat.ble st.length 8 = true) (h : MU M_O_isName args σ (fun r s1 => ∃ x, r = some (.inl x) ∧ P x s1)) (d : decode M.2.1 pc = .ok (.invokestatic 60, 3)) (k : ∀ x s1, P x s1 → J M Q (pc + 3) ls (.inl x :: st) s1) (hn : args.length = 1 := by rfl) : J M Q pc ls (args.reverse ++ st) σ := J_callSN h ms_O_isName (by rw [hM]; exact wkP_60) hn (Nat.le_of_ble_eq_true hd) hst d (fun r τ h => by obtain ⟨x, rfl, h⟩ := h; exact k x τ h)
theorem wkP_69 : (Jvm.Cond.methodLink "PointsToRounds$Program" (69 : Nat) ({ cls := "PointsToRounds$Program", name := "hasClass", desc := "(I)Z" } : Jvm.MethodName)) ∈ TB := TB2 (List.mem_of_getElem? (i := 60) (by decide +kernel)) rfl
theorem kP_69_i {M : mM} {Q : Option mV → mS → Prop} {pc : Nat} {ls : List (Option mV)} {st : List mV} {σ : mS} {args : List mV} {P : Int32 → mS → Prop} (hM : M.1.cls = "PointsToRounds$Program") (hd : Nat.ble (M_P_hasClass.2.2.2.1 + 1) M.2.2.2.1 = true) (hst : Nat.ble st.length 8 = true) (h : MU M_P_hasClass (.inr (1, 0) :: args) σ (fun r s1 => ∃ x, r = some (.inl x) ∧ P x s1)) (d : decode M.2.1 pc = .ok (.invokevirtual 69, 3)) (k : ∀ x s1, P x s1 → J M Q (pc + 3) ls (.inl x :: st) s1) (hn : args.length = 1 := by rfl) : J M Q pc ls (args.reverse ++ .inr (1, 0) :: st) σ := J_callV h mi_P_hasClass (by rw [hM]; exact wkP_69) rfl hn (Nat.le_of_ble_eq_true hd) hst d (fun r τ h => by obtain ⟨x, rfl, h⟩ := h; exact k x τ h)
theorem wkP_72 : (Jvm.Cond.methodLink "PointsToRounds$Program" (72 : Nat) ({ cls := "PointsToRounds$Program", name := "hasField", desc := "(I)Z" } : Jvm.MethodName)) ∈ TB := TB2 (List.mem_of_getElem? (i := 61) (by decide +kernel)) rfl
theorem kP_72_i {M : mM} {Q : Option mV → mS → Prop} {pc : Nat} {ls : List (Option mV)} {st : List mV} {σ : mS} {args : List mV} {P : Int32 → mS → Prop} (hM : M.1.cls = "PointsToRounds$Program") (hd : Nat.ble (M_P_hasField.2.2.2.1 + 1) M.2.2.2.1 = true) (hst : Nat.ble st.length 8 = true) (h : MU M_P_hasField (.inr (1, 0) :: args) σ (fun r s1 => ∃ x, r = some (.inl x) ∧ P x s1)) (d : decode M.2.1 pc = .ok (.invokevirtual 72, 3)) (k : ∀ x s1, P x s1 → J M Q (pc + 3) ls (.inl x :: st) s1) (hn : args.length = 1 := by rfl) : J M Q pc ls (args.reverse ++ .inr (1, 0) :: st) σ := J_callV h mi_P_hasField (by rw [hM]; exact wkP_72) rfl hn (Nat.le_of_ble_eq_true hd) hst d (fun r τ h => by obtain ⟨x, rfl, h⟩ := h; exact k x τ h)
theorem wkP_75 : Cond.methodLinkNest "PointsToRounds$Program" 75 ⟨"PointsToRounds", "isStatic", "(I)Z"⟩ "PointsToRounds" ∈ NW := by decide +kernel
theorem kP_75_i {M : mM} {Q : Option mV → mS → Prop} {pc : Nat} {ls : List (Option mV)} {st : List mV} {σ : mS} {args : List mV} {P : Int32 → mS → Prop} (hM : M.1.cls = "PointsToRounds$Program") (hd : Nat.ble (M_O_isStatic.2.2.2.1 + 1) M.2.2.2.1 = true) (hst : Nat.ble st.length 8 = true) (h : MU M_O_isStatic args σ (fun r s1 => ∃ x, r = some (.inl x) ∧ P x s1)) (d : decode M.2.1 pc = .ok (.invokestatic 75, 3)) (k : ∀ x s1, P x s1 → J M Q (pc + 3) ls (.inl x :: st) s1) (hn : args.length = 1 := by rfl) : J M Q pc ls (args.reverse ++ st) σ := J_callSN h ms_O_isStatic (by rw [hM]; exact wkP_75) hn (Nat.le_of_ble_eq_true hd) hst d (fun r τ h => by obtain ⟨x, rfl, h⟩ := h; exact k x τ h)
theorem wkP_78 : (Jvm.Cond.methodLink "PointsToRounds$Program" (78 : Nat) ({ cls := "PointsToRounds$Program", name := "findMethod", desc := "(II)V" } : Jvm.MethodName)) ∈ TB := TB2 (List.mem_of_getElem? (i := 18) (by decide +kernel)) rfl
theorem kP_78_v {M : mM} {Q : Option mV → mS → Prop} {pc : Nat} {ls : List (Option mV)} {st : List mV} {σ : mS} {args : List mV} {P : mS → Prop} (hM : M.1.cls = "PointsToRounds$Program") (hd : Nat.ble (M_P_findMethod.2.2.2.1 + 1) M.2.2.2.1 = true) (hst : Nat.ble st.length 8 = true) (h : MU M_P_findMethod (.inr (1, 0) :: args) σ (fun r s1 => r = none ∧ P s1)) (d : decode M.2.1 pc = .ok (.invokevirtual 78, 3)) (k : ∀ s1, P s1 → J M Q (pc + 3) ls st s1) (hn : args.length = 2 := by rfl) : J M Q pc ls (args.reverse ++ .inr (1, 0) :: st) σ := J_callV h mi_P_findMethod (by rw [hM]; exact wkP_78) rfl hn (Nat.le_of_ble_eq_true hd) hst d (fun r τ h => by obtain ⟨rfl, h⟩ := h; exact k τ h)
theorem wkP_91 : (Jvm.Cond.methodLink "PointsToRounds$Program" (91 : Nat) ({ cls := "PointsToRounds$Program", name := "addSite", desc := "(I)I" } : Jvm.MethodName)) ∈ TB := TB2 (List.mem_of_getElem? (i := 84) (by decide +kernel)) rfl
theorem kP_91_i {M : mM} {Q : Option mV → mS → Prop} {pc : Nat} {ls : List (Option mV)} {st : List mV} {σ : mS} {args : List mV} {P : Int32 → mS → Prop} (hM : M.1.cls = "PointsToRounds$Program") (hd : Nat.ble (M_P_addSite.2.2.2.1 + 1) M.2.2.2.1 = true) (hst : Nat.ble st.length 8 = true) (h : MU M_P_addSite (.inr (1, 0) :: args) σ (fun r s1 => ∃ x, r = some (.inl x) ∧ P x s1)) (d : decode M.2.1 pc = .ok (.invokevirtual 91, 3)) (k : ∀ x s1, P x s1 → J M Q (pc + 3) ls (.inl x :: st) s1) (hn : args.length = 1 := by rfl) : J M Q pc ls (args.reverse ++ .inr (1, 0) :: st) σ := J_callV h mi_P_addSite (by rw [hM]; exact wkP_91) rfl hn (Nat.le_of_ble_eq_true hd) hst d (fun r τ h => by obtain ⟨x, rfl, h⟩ := h; exact k x τ h)
theorem wkP_98 : Cond.methodLinkNest "PointsToRounds$Program" 98 ⟨"PointsToRounds", "hasBit", "(II)Z"⟩ "PointsToRounds" ∈ NW := by decide +kernel
theorem kP_98_i {M : mM} {Q : Option mV → mS → Prop} {pc : Nat} {ls : List (Option mV)} {st : List mV} {σ : mS} {args : List mV} {P : Int32 → mS → Prop} (hM : M.1.cls = "PointsToRounds$Program") (hd : Nat.ble (M_O_hasBit.2.2.2.1 + 1) M.2.2.2.1 = true) (hst : Nat.ble st.length 8 = true) (h : MU M_O_hasBit args σ (fun r s1 => ∃ x, r = some (.inl x) ∧ P x s1)) (d : decode M.2.1 pc = .ok (.invokestatic 98, 3)) (k : ∀ x s1, P x s1 → J M Q (pc + 3) ls (.inl x :: st) s1) (hn : args.length = 2 := by rfl) : J M Q pc ls (args.reverse ++ st) σ := J_callSN h ms_O_hasBit (by rw [hM]; exact wkP_98) hn (Nat.le_of_ble_eq_true hd) hst d (fun r τ h => by obtain ⟨x, rfl, h⟩ := h; exact k x τ h)
theorem wkP_102 : (Jvm.Cond.methodLink "PointsToRounds$Program" (102 : Nat) ({ cls := "PointsToRounds$Program", name := "methodFound", desc := "(II)I" } : Jvm.MethodName)) ∈ TB := TB2 (List.mem_of_getElem? (i := 226) (by decide +kernel)) rfl
theorem kP_102_i {M : mM} {Q : Option mV → mS → Prop} {pc : Nat} {ls : List (Option mV)} {st : List mV} {σ : mS} {args : List mV} {P : Int32 → mS → Prop} (hM : M.1.cls = "PointsToRounds$Program") (hd : Nat.ble (M_P_methodFound.2.2.2.1 + 1) M.2.2.2.1 = true) (hst : Nat.ble st.length 8 = true) (h : MU M_P_methodFound (.inr (1, 0) :: args) σ (fun r s1 => ∃ x, r = some (.inl x) ∧ P x s1)) (d : decode M.2.1 pc = .ok (.invokevirtual 102, 3)) (k : ∀ x s1, P x s1 → J M Q (pc + 3) ls (.inl x :: st) s1) (hn : args.length = 2 := by rfl) : J M Q pc ls (args.reverse ++ .inr (1, 0) :: st) σ := J_callV h mi_P_methodFound (by rw [hM]; exact wkP_102) rfl hn (Nat.le_of_ble_eq_true hd) hst d (fun r τ h => by obtain ⟨x, rfl, h⟩ := h; exact k x τ h)
theorem wkS_35 : Cond.methodLinkNest "PointsToRounds$Sets" 35 ⟨"PointsToRounds", "namesOf", "(II)I"⟩ "PointsToRounds" ∈ NW := by decide +kernel
theorem kS_35_i {M : mM} {Q : Option mV → mS → Prop} {pc : Nat} {ls : List (Option mV)} {st : List mV} {σ : mS} {args : List mV} {P : Int32 → mS → Prop} (hM : M.1.cls = "PointsToRounds$Sets") (hd : Nat.ble (M_O_namesOf.2.2.2.1 + 1) M.2.2.2.1 = true) (hst : Nat.ble st.length 8 = true) (h : MU M_O_namesOf args σ (fun r s1 => ∃ x, r = some (.inl x) ∧ P x s1)) (d : decode M.2.1 pc = .ok (.invokestatic 35, 3)) (k : ∀ x s1, P x s1 → J M Q (pc + 3) ls (.inl x :: st) s1) (hn : args.length = 2 := by rfl) : J M Q pc ls (args.reverse ++ st) σ := J_callSN h ms_O_namesOf (by rw [hM]; exact wkS_35) hn (Nat.le_of_ble_eq_true hd) hst d (fun r τ h => by obtain ⟨x, rfl, h⟩ := h; exact k x τ h)
theorem wkS_42 : (Jvm.Cond.methodLink "PointsToRounds$Sets" (42 : Nat) ({ cls := "java/util/Arrays", name := "fill", desc := "([II)V" } : Jvm.MethodName)) ∈ TB := TB2 (List.mem_of_getElem? (i := 120) (by decide +kernel)) rfl
theorem kS_42_v {M : mM} {Q : Option mV → mS → Prop} {pc : Nat} {ls : List (Option mV)} {st : List mV} {σ : mS} {args : List mV} {P : mS → Prop} (hM : M.1.cls = "PointsToRounds$Sets") (hd : Nat.ble (M_A_fill.2.2.2.1 + 1) M.2.2.2.1 = true) (hst : Nat.ble st.length 8 = true) (h : MU M_A_fill args σ (fun r s1 => r = none ∧ P s1)) (d : decode M.2.1 pc = .ok (.invokestatic 42, 3)) (k : ∀ s1, P s1 → J M Q (pc + 3) ls st s1) (hn : args.length = 2 := by rfl) : J M Q pc ls (args.reverse ++ st) σ := J_callS h ms_A_fill (by rw [hM]; exact wkS_42) hn (Nat.le_of_ble_eq_true hd) hst d (fun r τ h => by obtain ⟨rfl, h⟩ := h; exact k τ h)
theorem wkS_63 : (Jvm.Cond.methodLink "PointsToRounds$Sets" (63 : Nat) ({ cls := "PointsToRounds$Sets", name := "doRound", desc := "()V" } : Jvm.MethodName)) ∈ TB := TB2 (List.mem_of_getElem? (i := 124) (by decide +kernel)) rfl
theorem kS_63_v {M : mM} {Q : Option mV → mS → Prop} {pc : Nat} {ls : List (Option mV)} {st : List mV} {σ : mS} {args : List mV} {P : mS → Prop} (hM : M.1.cls = "PointsToRounds$Sets") (hd : Nat.ble (M_S_doRound.2.2.2.1 + 1) M.2.2.2.1 = true) (hst : Nat.ble st.length 8 = true) (h : MU M_S_doRound (.inr (2, 0) :: args) σ (fun r s1 => r = none ∧ P s1)) (d : decode M.2.1 pc = .ok (.invokevirtual 63, 3)) (k : ∀ s1, P s1 → J M Q (pc + 3) ls st s1) (hn : args.length = 0 := by rfl) : J M Q pc ls (args.reverse ++ .inr (2, 0) :: st) σ := J_callV h mi_S_doRound (by rw [hM]; exact wkS_63) rfl hn (Nat.le_of_ble_eq_true hd) hst d (fun r τ h => by obtain ⟨rfl, h⟩ := h; exact k τ h)
theorem wkS_70 : Cond.methodLinkNest "PointsToRounds$Sets" 70 ⟨"PointsToRounds", "hasBit", "(II)Z"⟩ "PointsToRounds" ∈ NW := by decide +kernel
theorem kS_70_i {M : mM} {Q : Option mV → mS → Prop} {pc : Nat} {ls : List (Option mV)} {st : List mV} {σ : mS} {args : List mV} {P : Int32 → mS → Prop} (hM : M.1.cls = "PointsToRounds$Sets") (hd : Nat.ble (M_O_hasBit.2.2.2.1 + 1) M.2.2.2.1 = true) (hst : Nat.ble st.length 8 = true) (h : MU M_O_hasBit args σ (fun r s1 => ∃ x, r = some (.inl x) ∧ P x s1)) (d : decode M.2.1 pc = .ok (.invokestatic 70, 3)) (k : ∀ x s1, P x s1 → J M Q (pc + 3) ls (.inl x :: st) s1) (hn : args.length = 2 := by rfl) : J M Q pc ls (args.reverse ++ st) σ := J_callSN h ms_O_hasBit (by rw [hM]; exact wkS_70) hn (Nat.le_of_ble_eq_true hd) hst d (fun r τ h => by obtain ⟨x, rfl, h⟩ := h; exact k x τ h)
theorem wkS_77 : (Jvm.Cond.methodLink "PointsToRounds$Sets" (77 : Nat) ({ cls := "PointsToRounds$Program", name := "statementOf", desc := "(II)LPointsToRounds$Statement;" } : Jvm.MethodName)) ∈ TB := TB2 (List.mem_of_getElem? (i := 129) (by decide +kernel)) rfl
theorem kS_77_r {M : mM} {Q : Option mV → mS → Prop} {pc : Nat} {ls : List (Option mV)} {st : List mV} {σ : mS} {args : List mV} {P : Nat → mS → Prop} (hM : M.1.cls = "PointsToRounds$Sets") (hd : Nat.ble (M_P_statementOf.2.2.2.1 + 1) M.2.2.2.1 = true) (hst : Nat.ble st.length 8 = true) (h : MU M_P_statementOf (.inr (1, 0) :: args) σ (fun r s1 => ∃ x, r = some (.inr (59, x)) ∧ P x s1)) (d : decode M.2.1 pc = .ok (.invokevirtual 77, 3)) (k : ∀ x s1, P x s1 → J M Q (pc + 3) ls (.inr (59, x) :: st) s1) (hn : args.length = 2 := by rfl) : J M Q pc ls (args.reverse ++ .inr (1, 0) :: st) σ := J_callV h mi_P_statementOf (by rw [hM]; exact wkS_77) rfl hn (Nat.le_of_ble_eq_true hd) hst d (fun r τ h => by obtain ⟨x, rfl, h⟩ := h; exact k x τ h)
theorem wkS_81 : (Jvm.Cond.methodLink "PointsToRounds$Sets" (81 : Nat) ({ cls := "PointsToRounds$Sets", name := "doStatement", desc := "(LPointsToRounds$Statement;I)V" } : Jvm.MethodName)) ∈ TB := TB2 (List.mem_of_getElem? (i := 136) (by decide +kernel)) rfl
theorem kS_81_v {M : mM} {Q : Option mV → mS → Prop} {pc : Nat} {ls : List (Option mV)} {st : List mV} {σ : mS} {args : List mV} {P : mS → Prop} (hM : M.1.cls = "PointsToRounds$Sets") (hd : Nat.ble (M_S_doStatement.2.2.2.1 + 1) M.2.2.2.1 = true) (hst : Nat.ble st.length 8 = true) (h : MU M_S_doStatement (.inr (2, 0) :: args) σ (fun r s1 => r = none ∧ P s1)) (d : decode M.2.1 pc = .ok (.invokevirtual 81, 3)) (k : ∀ s1, P s1 → J M Q (pc + 3) ls st s1) (hn : args.length = 2 := by rfl) : J M Q pc ls (args.reverse ++ .inr (2, 0) :: st) σ := J_callV h mi_S_doStatement (by rw [hM]; exact wkS_81) rfl hn (Nat.le_of_ble_eq_true hd) hst d (fun r τ h => by obtain ⟨rfl, h⟩ := h; exact k τ h)
theorem wkS_99 : (Jvm.Cond.methodLink "PointsToRounds$Sets" (99 : Nat) ({ cls := "PointsToRounds$Sets", name := "add", desc := "(II)V" } : Jvm.MethodName)) ∈ TB := TB2 (List.mem_of_getElem? (i := 140) (by decide +kernel)) rfl
theorem kS_99_v {M : mM} {Q : Option mV → mS → Prop} {pc : Nat} {ls : List (Option mV)} {st : List mV} {σ : mS} {args : List mV} {P : mS → Prop} (hM : M.1.cls = "PointsToRounds$Sets") (hd : Nat.ble (M_S_add.2.2.2.1 + 1) M.2.2.2.1 = true) (hst : Nat.ble st.length 8 = true) (h : MU M_S_add (.inr (2, 0) :: args) σ (fun r s1 => r = none ∧ P s1)) (d : decode M.2.1 pc = .ok (.invokevirtual 99, 3)) (k : ∀ s1, P s1 → J M Q (pc + 3) ls st s1) (hn : args.length = 2 := by rfl) : J M Q pc ls (args.reverse ++ .inr (2, 0) :: st) σ := J_callV h mi_S_add (by rw [hM]; exact wkS_99) rfl hn (Nat.le_of_ble_eq_true hd) hst d (fun r τ h => by obtain ⟨rfl, h⟩ := h; exact k τ h)
theorem wkS_106 : (Jvm.Cond.methodLink "PointsToRounds$Sets" (106 : Nat) ({ cls := "PointsToRounds$Sets", name := "addFromSlot", desc := "(III)V" } : Jvm.MethodName)) ∈ TB := TB2 (List.mem_of_getElem? (i := 148) (by decide +kernel)) rfl
theorem kS_106_v {M : mM} {Q : Option mV → mS → Prop} {pc : Nat} {ls : List (Option mV)} {st : List mV} {σ : mS} {args : List mV} {P : mS → Prop} (hM : M.1.cls = "PointsToRounds$Sets") (hd : Nat.ble (M_S_addFromSlot.2.2.2.1 + 1) M.2.2.2.1 = true) (hst : Nat.ble st.length 8 = true) (h : MU M_S_addFromSlot (.inr (2, 0) :: args) σ (fun r s1 => r = none ∧ P s1)) (d : decode M.2.1 pc = .ok (.invokevirtual 106, 3)) (k : ∀ s1, P s1 → J M Q (pc + 3) ls st s1) (hn : args.length = 3 := by rfl) : J M Q pc ls (args.reverse ++ .inr (2, 0) :: st) σ := J_callV h mi_S_addFromSlot (by rw [hM]; exact wkS_106) rfl hn (Nat.le_of_ble_eq_true hd) hst d (fun r τ h => by obtain ⟨rfl, h⟩ := h; exact k τ h)
theorem wkS_110 : (Jvm.Cond.methodLink "PointsToRounds$Sets" (110 : Nat) ({ cls := "PointsToRounds$Sets", name := "addToSlot", desc := "(III)V" } : Jvm.MethodName)) ∈ TB := TB2 (List.mem_of_getElem? (i := 159) (by decide +kernel)) rfl
theorem kS_110_v {M : mM} {Q : Option mV → mS → Prop} {pc : Nat} {ls : List (Option mV)} {st : List mV} {σ : mS} {args : List mV} {P : mS → Prop} (hM : M.1.cls = "PointsToRounds$Sets") (hd : Nat.ble (M_S_addToSlot.2.2.2.1 + 1) M.2.2.2.1 = true) (hst : Nat.ble st.length 8 = true) (h : MU M_S_addToSlot (.inr (2, 0) :: args) σ (fun r s1 => r = none ∧ P s1)) (d : decode M.2.1 pc = .ok (.invokevirtual 110, 3)) (k : ∀ s1, P s1 → J M Q (pc + 3) ls st s1) (hn : args.length = 3 := by rfl) : J M Q pc ls (args.reverse ++ .inr (2, 0) :: st) σ := J_callV h mi_S_addToSlot (by rw [hM]; exact wkS_110) rfl hn (Nat.le_of_ble_eq_true hd) hst d (fun r τ h => by obtain ⟨rfl, h⟩ := h; exact k τ h)
theorem wkS_116 : (Jvm.Cond.methodLink "PointsToRounds$Sets" (116 : Nat) ({ cls := "PointsToRounds$Sets", name := "doCall", desc := "(LPointsToRounds$Statement;I)V" } : Jvm.MethodName)) ∈ TB := TB2 (List.mem_of_getElem? (i := 163) (by decide +kernel)) rfl
theorem kS_116_v {M : mM} {Q : Option mV → mS → Prop} {pc : Nat} {ls : List (Option mV)} {st : List mV} {σ : mS} {args : List mV} {P : mS → Prop} (hM : M.1.cls = "PointsToRounds$Sets") (hd : Nat.ble (M_S_doCall.2.2.2.1 + 1) M.2.2.2.1 = true) (hst : Nat.ble st.length 8 = true) (h : MU M_S_doCall (.inr (2, 0) :: args) σ (fun r s1 => r = none ∧ P s1)) (d : decode M.2.1 pc = .ok (.invokevirtual 116, 3)) (k : ∀ s1, P s1 → J M Q (pc + 3) ls st s1) (hn : args.length = 2 := by rfl) : J M Q pc ls (args.reverse ++ .inr (2, 0) :: st) σ := J_callV h mi_S_doCall (by rw [hM]; exact wkS_116) rfl hn (Nat.le_of_ble_eq_true hd) hst d (fun r τ h => by obtain ⟨rfl, h⟩ := h; exact k τ h)
theorem wkS_119 : (Jvm.Cond.methodLink "PointsToRounds$Sets" (119 : Nat) ({ cls := "PointsToRounds$Program", name := "sitesWith", desc := "(I)I" } : Jvm.MethodName)) ∈ TB := TB2 (List.mem_of_getElem? (i := 152) (by decide +kernel)) rfl
theorem kS_119_i {M : mM} {Q : Option mV → mS → Prop} {pc : Nat} {ls : List (Option mV)} {st : List mV} {σ : mS} {args : List mV} {P : Int32 → mS → Prop} (hM : M.1.cls = "PointsToRounds$Sets") (hd : Nat.ble (M_P_sitesWith.2.2.2.1 + 1) M.2.2.2.1 = true) (hst : Nat.ble st.length 8 = true) (h : MU M_P_sitesWith (.inr (1, 0) :: args) σ (fun r s1 => ∃ x, r = some (.inl x) ∧ P x s1)) (d : decode M.2.1 pc = .ok (.invokevirtual 119, 3)) (k : ∀ x s1, P x s1 → J M Q (pc + 3) ls (.inl x :: st) s1) (hn : args.length = 1 := by rfl) : J M Q pc ls (args.reverse ++ .inr (1, 0) :: st) σ := J_callV h mi_P_sitesWith (by rw [hM]; exact wkS_119) rfl hn (Nat.le_of_ble_eq_true hd) hst d (fun r τ h => by obtain ⟨x, rfl, h⟩ := h; exact k x τ h)
theorem wkS_123 : Cond.methodLinkNest "PointsToRounds$Sets" 123 ⟨"PointsToRounds", "slotPlace", "(II)I"⟩ "PointsToRounds" ∈ NW := by decide +kernel
theorem kS_123_i {M : mM} {Q : Option mV → mS → Prop} {pc : Nat} {ls : List (Option mV)} {st : List mV} {σ : mS} {args : List mV} {P : Int32 → mS → Prop} (hM : M.1.cls = "PointsToRounds$Sets") (hd : Nat.ble (M_O_slotPlace.2.2.2.1 + 1) M.2.2.2.1 = true) (hst : Nat.ble st.length 8 = true) (h : MU M_O_slotPlace args σ (fun r s1 => ∃ x, r = some (.inl x) ∧ P x s1)) (d : decode M.2.1 pc = .ok (.invokestatic 123, 3)) (k : ∀ x s1, P x s1 → J M Q (pc + 3) ls (.inl x :: st) s1) (hn : args.length = 2 := by rfl) : J M Q pc ls (args.reverse ++ st) σ := J_callSN h ms_O_slotPlace (by rw [hM]; exact wkS_123) hn (Nat.le_of_ble_eq_true hd) hst d (fun r τ h => by obtain ⟨x, rfl, h⟩ := h; exact k x τ h)
theorem wkS_126 : (Jvm.Cond.methodLink "PointsToRounds$Sets" (126 : Nat) ({ cls := "PointsToRounds$Program", name := "methodFound", desc := "(II)I" } : Jvm.MethodName)) ∈ TB := TB2 (List.mem_of_getElem? (i := 167) (by decide +kernel)) rfl
theorem kS_126_i {M : mM} {Q : Option mV → mS → Prop} {pc : Nat} {ls : List (Option mV)} {st : List mV} {σ : mS} {args : List mV} {P : Int32 → mS → Prop} (hM : M.1.cls = "PointsToRounds$Sets") (hd : Nat.ble (M_P_methodFound.2.2.2.1 + 1) M.2.2.2.1 = true) (hst : Nat.ble st.length 8 = true) (h : MU M_P_methodFound (.inr (1, 0) :: args) σ (fun r s1 => ∃ x, r = some (.inl x) ∧ P x s1)) (d : decode M.2.1 pc = .ok (.invokevirtual 126, 3)) (k : ∀ x s1, P x s1 → J M Q (pc + 3) ls (.inl x :: st) s1) (hn : args.length = 2 := by rfl) : J M Q pc ls (args.reverse ++ .inr (1, 0) :: st) σ := J_callV h mi_P_methodFound (by rw [hM]; exact wkS_126) rfl hn (Nat.le_of_ble_eq_true hd) hst d (fun r τ h => by obtain ⟨x, rfl, h⟩ := h; exact k x τ h)
theorem wkS_129 : (Jvm.Cond.methodLink "PointsToRounds$Sets" (129 : Nat) ({ cls := "PointsToRounds$Sets", name := "contextOf", desc := "(I)I" } : Jvm.MethodName)) ∈ TB := TB2 (List.mem_of_getElem? (i := 171) (by decide +kernel)) rfl
theorem kS_129_i {M : mM} {Q : Option mV → mS → Prop} {pc : Nat} {ls : List (Option mV)} {st : List mV} {σ : mS} {args : List mV} {P : Int32 → mS → Prop} (hM : M.1.cls = "PointsToRounds$Sets") (hd : Nat.ble (M_S_contextOf.2.2.2.1 + 1) M.2.2.2.1 = true) (hst : Nat.ble st.length 8 = true) (h : MU M_S_contextOf (.inr (2, 0) :: args) σ (fun r s1 => ∃ x, r = some (.inl x) ∧ P x s1)) (d : decode M.2.1 pc = .ok (.invokevirtual 129, 3)) (k : ∀ x s1, P x s1 → J M Q (pc + 3) ls (.inl x :: st) s1) (hn : args.length = 1 := by rfl) : J M Q pc ls (args.reverse ++ .inr (2, 0) :: st) σ := J_callV h mi_S_contextOf (by rw [hM]; exact wkS_129) rfl hn (Nat.le_of_ble_eq_true hd) hst d (fun r τ h => by obtain ⟨x, rfl, h⟩ := h; exact k x τ h)
theorem wkS_138 : (Jvm.Cond.methodLink "PointsToRounds$Sets" (138 : Nat) ({ cls := "PointsToRounds$Sets", name := "noteRound", desc := "(II)V" } : Jvm.MethodName)) ∈ TB := TB2 (List.mem_of_getElem? (i := 144) (by decide +kernel)) rfl
theorem kS_138_v {M : mM} {Q : Option mV → mS → Prop} {pc : Nat} {ls : List (Option mV)} {st : List mV} {σ : mS} {args : List mV} {P : mS → Prop} (hM : M.1.cls = "PointsToRounds$Sets") (hd : Nat.ble (M_S_noteRound.2.2.2.1 + 1) M.2.2.2.1 = true) (hst : Nat.ble st.length 8 = true) (h : MU M_S_noteRound (.inr (2, 0) :: args) σ (fun r s1 => r = none ∧ P s1)) (d : decode M.2.1 pc = .ok (.invokevirtual 138, 3)) (k : ∀ s1, P s1 → J M Q (pc + 3) ls st s1) (hn : args.length = 2 := by rfl) : J M Q pc ls (args.reverse ++ .inr (2, 0) :: st) σ := J_callV h mi_S_noteRound (by rw [hM]; exact wkS_138) rfl hn (Nat.le_of_ble_eq_true hd) hst d (fun r τ h => by obtain ⟨rfl, h⟩ := h; exact k τ h)
theorem wkT_44 : (Jvm.Cond.methodLink "PointsToRounds$Trial" (44 : Nat) ({ cls := "java/util/Arrays", name := "fill", desc := "([II)V" } : Jvm.MethodName)) ∈ TB := TB2 (List.mem_of_getElem? (i := 11) (by decide +kernel)) rfl
theorem kT_44_v {M : mM} {Q : Option mV → mS → Prop} {pc : Nat} {ls : List (Option mV)} {st : List mV} {σ : mS} {args : List mV} {P : mS → Prop} (hM : M.1.cls = "PointsToRounds$Trial") (hd : Nat.ble (M_A_fill.2.2.2.1 + 1) M.2.2.2.1 = true) (hst : Nat.ble st.length 8 = true) (h : MU M_A_fill args σ (fun r s1 => r = none ∧ P s1)) (d : decode M.2.1 pc = .ok (.invokestatic 44, 3)) (k : ∀ s1, P s1 → J M Q (pc + 3) ls st s1) (hn : args.length = 2 := by rfl) : J M Q pc ls (args.reverse ++ st) σ := J_callS h ms_A_fill (by rw [hM]; exact wkT_44) hn (Nat.le_of_ble_eq_true hd) hst d (fun r τ h => by obtain ⟨rfl, h⟩ := h; exact k τ h)
theorem wkT_60 : (Jvm.Cond.methodLink "PointsToRounds$Trial" (60 : Nat) ({ cls := "PointsToRounds$Trial", name := "forget", desc := "()V" } : Jvm.MethodName)) ∈ TB := TB3 (List.mem_of_getElem? (i := 11) (by decide +kernel)) rfl
theorem kT_60_v {M : mM} {Q : Option mV → mS → Prop} {pc : Nat} {ls : List (Option mV)} {st : List mV} {σ : mS} {args : List mV} {P : mS → Prop} (hM : M.1.cls = "PointsToRounds$Trial") (hd : Nat.ble (M_T_forget.2.2.2.1 + 1) M.2.2.2.1 = true) (hst : Nat.ble st.length 8 = true) (h : MU M_T_forget (.inr (3, 0) :: args) σ (fun r s1 => r = none ∧ P s1)) (d : decode M.2.1 pc = .ok (.invokevirtual 60, 3)) (k : ∀ s1, P s1 → J M Q (pc + 3) ls st s1) (hn : args.length = 0 := by rfl) : J M Q pc ls (args.reverse ++ .inr (3, 0) :: st) σ := J_callV h mi_T_forget (by rw [hM]; exact wkT_60) rfl hn (Nat.le_of_ble_eq_true hd) hst d (fun r τ h => by obtain ⟨rfl, h⟩ := h; exact k τ h)
theorem wkT_63 : (Jvm.Cond.methodLink "PointsToRounds$Trial" (63 : Nat) ({ cls := "PointsToRounds$Trial", name := "pushFrame", desc := "(III)V" } : Jvm.MethodName)) ∈ TB := TB3 (List.mem_of_getElem? (i := 12) (by decide +kernel)) rfl
theorem kT_63_v {M : mM} {Q : Option mV → mS → Prop} {pc : Nat} {ls : List (Option mV)} {st : List mV} {σ : mS} {args : List mV} {P : mS → Prop} (hM : M.1.cls = "PointsToRounds$Trial") (hd : Nat.ble (M_T_pushFrame.2.2.2.1 + 1) M.2.2.2.1 = true) (hst : Nat.ble st.length 8 = true) (h : MU M_T_pushFrame (.inr (3, 0) :: args) σ (fun r s1 => r = none ∧ P s1)) (d : decode M.2.1 pc = .ok (.invokevirtual 63, 3)) (k : ∀ s1, P s1 → J M Q (pc + 3) ls st s1) (hn : args.length = 3 := by rfl) : J M Q pc ls (args.reverse ++ .inr (3, 0) :: st) σ := J_callV h mi_T_pushFrame (by rw [hM]; exact wkT_63) rfl hn (Nat.le_of_ble_eq_true hd) hst d (fun r τ h => by obtain ⟨rfl, h⟩ := h; exact k τ h)
theorem wkT_73 : (Jvm.Cond.methodLink "PointsToRounds$Trial" (73 : Nat) ({ cls := "PointsToRounds$Trial", name := "doStep", desc := "(I)V" } : Jvm.MethodName)) ∈ TB := TB3 (List.mem_of_getElem? (i := 24) (by decide +kernel)) rfl
theorem kT_73_v {M : mM} {Q : Option mV → mS → Prop} {pc : Nat} {ls : List (Option mV)} {st : List mV} {σ : mS} {args : List mV} {P : mS → Prop} (hM : M.1.cls = "PointsToRounds$Trial") (hd : Nat.ble (M_T_doStep.2.2.2.1 + 1) M.2.2.2.1 = true) (hst : Nat.ble st.length 8 = true) (h : MU M_T_doStep (.inr (3, 0) :: args) σ (fun r s1 => r = none ∧ P s1)) (d : decode M.2.1 pc = .ok (.invokevirtual 73, 3)) (k : ∀ s1, P s1 → J M Q (pc + 3) ls st s1) (hn : args.length = 1 := by rfl) : J M Q pc ls (args.reverse ++ .inr (3, 0) :: st) σ := J_callV h mi_T_doStep (by rw [hM]; exact wkT_73) rfl hn (Nat.le_of_ble_eq_true hd) hst d (fun r τ h => by obtain ⟨rfl, h⟩ := h; exact k τ h)
theorem wkT_77 : (Jvm.Cond.methodLink "PointsToRounds$Trial" (77 : Nat) ({ cls := "PointsToRounds$Trial", name := "lookAtNames", desc := "()V" } : Jvm.MethodName)) ∈ TB := TB3 (List.mem_of_getElem? (i := 67) (by decide +kernel)) rfl
theorem kT_77_v {M : mM} {Q : Option mV → mS → Prop} {pc : Nat} {ls : List (Option mV)} {st : List mV} {σ : mS} {args : List mV} {P : mS → Prop} (hM : M.1.cls = "PointsToRounds$Trial") (hd : Nat.ble (M_T_lookAtNames.2.2.2.1 + 1) M.2.2.2.1 = true) (hst : Nat.ble st.length 8 = true) (h : MU M_T_lookAtNames (.inr (3, 0) :: args) σ (fun r s1 => r = none ∧ P s1)) (d : decode M.2.1 pc = .ok (.invokevirtual 77, 3)) (k : ∀ s1, P s1 → J M Q (pc + 3) ls st s1) (hn : args.length = 0 := by rfl) : J M Q pc ls (args.reverse ++ .inr (3, 0) :: st) σ := J_callV h mi_T_lookAtNames (by rw [hM]; exact wkT_77) rfl hn (Nat.le_of_ble_eq_true hd) hst d (fun r τ h => by obtain ⟨rfl, h⟩ := h; exact k τ h)
theorem wkT_80 : (Jvm.Cond.methodLink "PointsToRounds$Trial" (80 : Nat) ({ cls := "java/util/Arrays", name := "fill", desc := "([IIII)V" } : Jvm.MethodName)) ∈ TB := TB3 (List.mem_of_getElem? (i := 16) (by decide +kernel)) rfl
theorem kT_80_v {M : mM} {Q : Option mV → mS → Prop} {pc : Nat} {ls : List (Option mV)} {st : List mV} {σ : mS} {args : List mV} {P : mS → Prop} (hM : M.1.cls = "PointsToRounds$Trial") (hd : Nat.ble (M_A_fillR.2.2.2.1 + 1) M.2.2.2.1 = true) (hst : Nat.ble st.length 8 = true) (h : MU M_A_fillR args σ (fun r s1 => r = none ∧ P s1)) (d : decode M.2.1 pc = .ok (.invokestatic 80, 3)) (k : ∀ s1, P s1 → J M Q (pc + 3) ls st s1) (hn : args.length = 4 := by rfl) : J M Q pc ls (args.reverse ++ st) σ := J_callS h ms_A_fillR (by rw [hM]; exact wkT_80) hn (Nat.le_of_ble_eq_true hd) hst d (fun r τ h => by obtain ⟨rfl, h⟩ := h; exact k τ h)
theorem wkT_88 : (Jvm.Cond.methodLink "PointsToRounds$Trial" (88 : Nat) ({ cls := "PointsToRounds$Program", name := "statementOf", desc := "(II)LPointsToRounds$Statement;" } : Jvm.MethodName)) ∈ TB := TB3 (List.mem_of_getElem? (i := 28) (by decide +kernel)) rfl
theorem kT_88_r {M : mM} {Q : Option mV → mS → Prop} {pc : Nat} {ls : List (Option mV)} {st : List mV} {σ : mS} {args : List mV} {P : Nat → mS → Prop} (hM : M.1.cls = "PointsToRounds$Trial") (hd : Nat.ble (M_P_statementOf.2.2.2.1 + 1) M.2.2.2.1 = true) (hst : Nat.ble st.length 8 = true) (h : MU M_P_statementOf (.inr (1, 0) :: args) σ (fun r s1 => ∃ x, r = some (.inr (59, x)) ∧ P x s1)) (d : decode M.2.1 pc = .ok (.invokevirtual 88, 3)) (k : ∀ x s1, P x s1 → J M Q (pc + 3) ls (.inr (59, x) :: st) s1) (hn : args.length = 2 := by rfl) : J M Q pc ls (args.reverse ++ .inr (1, 0) :: st) σ := J_callV h mi_P_statementOf (by rw [hM]; exact wkT_88) rfl hn (Nat.le_of_ble_eq_true hd) hst d (fun r τ h => by obtain ⟨x, rfl, h⟩ := h; exact k x τ h)
theorem wkT_92 : (Jvm.Cond.methodLink "PointsToRounds$Trial" (92 : Nat) ({ cls := "PointsToRounds$Trial", name := "doStatement", desc := "(LPointsToRounds$Statement;I)V" } : Jvm.MethodName)) ∈ TB := TB3 (List.mem_of_getElem? (i := 29) (by decide +kernel)) rfl
theorem kT_92_v {M : mM} {Q : Option mV → mS → Prop} {pc : Nat} {ls : List (Option mV)} {st : List mV} {σ : mS} {args : List mV} {P : mS → Prop} (hM : M.1.cls = "PointsToRounds$Trial") (hd : Nat.ble (M_T_doStatement.2.2.2.1 + 1) M.2.2.2.1 = true) (hst : Nat.ble st.length 8 = true) (h : MU M_T_doStatement (.inr (3, 0) :: args) σ (fun r s1 => r = none ∧ P s1)) (d : decode M.2.1 pc = .ok (.invokevirtual 92, 3)) (k : ∀ s1, P s1 → J M Q (pc + 3) ls st s1) (hn : args.length = 2 := by rfl) : J M Q pc ls (args.reverse ++ .inr (3, 0) :: st) σ := J_callV h mi_T_doStatement (by rw [hM]; exact wkT_92) rfl hn (Nat.le_of_ble_eq_true hd) hst d (fun r τ h => by obtain ⟨rfl, h⟩ := h; exact k τ h)
theorem wkT_101 : (Jvm.Cond.methodLink "PointsToRounds$Trial" (101 : Nat) ({ cls := "PointsToRounds$Trial", name := "makeObject", desc := "(LPointsToRounds$Statement;I)V" } : Jvm.MethodName)) ∈ TB := TB3 (List.mem_of_getElem? (i := 33) (by decide +kernel)) rfl
theorem kT_101_v {M : mM} {Q : Option mV → mS → Prop} {pc : Nat} {ls : List (Option mV)} {st : List mV} {σ : mS} {args : List mV} {P : mS → Prop} (hM : M.1.cls = "PointsToRounds$Trial") (hd : Nat.ble (M_T_makeObject.2.2.2.1 + 1) M.2.2.2.1 = true) (hst : Nat.ble st.length 8 = true) (h : MU M_T_makeObject (.inr (3, 0) :: args) σ (fun r s1 => r = none ∧ P s1)) (d : decode M.2.1 pc = .ok (.invokevirtual 101, 3)) (k : ∀ s1, P s1 → J M Q (pc + 3) ls st s1) (hn : args.length = 2 := by rfl) : J M Q pc ls (args.reverse ++ .inr (3, 0) :: st) σ := J_callV h mi_T_makeObject (by rw [hM]; exact wkT_101) rfl hn (Nat.le_of_ble_eq_true hd) hst d (fun r τ h => by obtain ⟨rfl, h⟩ := h; exact k τ h)
theorem wkT_113 : (Jvm.Cond.methodLink "PointsToRounds$Trial" (113 : Nat) ({ cls := "PointsToRounds$Trial", name := "readSlot", desc := "(III)V" } : Jvm.MethodName)) ∈ TB := TB3 (List.mem_of_getElem? (i := 37) (by decide +kernel)) rfl
theorem kT_113_v {M : mM} {Q : Option mV → mS → Prop} {pc : Nat} {ls : List (Option mV)} {st : List mV} {σ : mS} {args : List mV} {P : mS → Prop} (hM : M.1.cls = "PointsToRounds$Trial") (hd : Nat.ble (M_T_readSlot.2.2.2.1 + 1) M.2.2.2.1 = true) (hst : Nat.ble st.length 8 = true) (h : MU M_T_readSlot (.inr (3, 0) :: args) σ (fun r s1 => r = none ∧ P s1)) (d : decode M.2.1 pc = .ok (.invokevirtual 113, 3)) (k : ∀ s1, P s1 → J M Q (pc + 3) ls st s1) (hn : args.length = 3 := by rfl) : J M Q pc ls (args.reverse ++ .inr (3, 0) :: st) σ := J_callV h mi_T_readSlot (by rw [hM]; exact wkT_113) rfl hn (Nat.le_of_ble_eq_true hd) hst d (fun r τ h => by obtain ⟨rfl, h⟩ := h; exact k τ h)
theorem wkT_116 : (Jvm.Cond.methodLink "PointsToRounds$Trial" (116 : Nat) ({ cls := "PointsToRounds$Trial", name := "writeSlot", desc := "(III)V" } : Jvm.MethodName)) ∈ TB := TB3 (List.mem_of_getElem? (i := 47) (by decide +kernel)) rfl
theorem kT_116_v {M : mM} {Q : Option mV → mS → Prop} {pc : Nat} {ls : List (Option mV)} {st : List mV} {σ : mS} {args : List mV} {P : mS → Prop} (hM : M.1.cls = "PointsToRounds$Trial") (hd : Nat.ble (M_T_writeSlot.2.2.2.1 + 1) M.2.2.2.1 = true) (hst : Nat.ble st.length 8 = true) (h : MU M_T_writeSlot (.inr (3, 0) :: args) σ (fun r s1 => r = none ∧ P s1)) (d : decode M.2.1 pc = .ok (.invokevirtual 116, 3)) (k : ∀ s1, P s1 → J M Q (pc + 3) ls st s1) (hn : args.length = 3 := by rfl) : J M Q pc ls (args.reverse ++ .inr (3, 0) :: st) σ := J_callV h mi_T_writeSlot (by rw [hM]; exact wkT_116) rfl hn (Nat.le_of_ble_eq_true hd) hst d (fun r τ h => by obtain ⟨rfl, h⟩ := h; exact k τ h)
theorem wkT_119 : (Jvm.Cond.methodLink "PointsToRounds$Trial" (119 : Nat) ({ cls := "PointsToRounds$Trial", name := "castObject", desc := "(LPointsToRounds$Statement;I)V" } : Jvm.MethodName)) ∈ TB := TB3 (List.mem_of_getElem? (i := 57) (by decide +kernel)) rfl
theorem kT_119_v {M : mM} {Q : Option mV → mS → Prop} {pc : Nat} {ls : List (Option mV)} {st : List mV} {σ : mS} {args : List mV} {P : mS → Prop} (hM : M.1.cls = "PointsToRounds$Trial") (hd : Nat.ble (M_T_castObject.2.2.2.1 + 1) M.2.2.2.1 = true) (hst : Nat.ble st.length 8 = true) (h : MU M_T_castObject (.inr (3, 0) :: args) σ (fun r s1 => r = none ∧ P s1)) (d : decode M.2.1 pc = .ok (.invokevirtual 119, 3)) (k : ∀ s1, P s1 → J M Q (pc + 3) ls st s1) (hn : args.length = 2 := by rfl) : J M Q pc ls (args.reverse ++ .inr (3, 0) :: st) σ := J_callV h mi_T_castObject (by rw [hM]; exact wkT_119) rfl hn (Nat.le_of_ble_eq_true hd) hst d (fun r τ h => by obtain ⟨rfl, h⟩ := h; exact k τ h)
theorem wkT_122 : (Jvm.Cond.methodLink "PointsToRounds$Trial" (122 : Nat) ({ cls := "PointsToRounds$Trial", name := "lookAt", desc := "(II)V" } : Jvm.MethodName)) ∈ TB := TB3 (List.mem_of_getElem? (i := 52) (by decide +kernel)) rfl
theorem kT_122_v {M : mM} {Q : Option mV → mS → Prop} {pc : Nat} {ls : List (Option mV)} {st : List mV} {σ : mS} {args : List mV} {P : mS → Prop} (hM : M.1.cls = "PointsToRounds$Trial") (hd : Nat.ble (M_T_lookAt.2.2.2.1 + 1) M.2.2.2.1 = true) (hst : Nat.ble st.length 8 = true) (h : MU M_T_lookAt (.inr (3, 0) :: args) σ (fun r s1 => r = none ∧ P s1)) (d : decode M.2.1 pc = .ok (.invokevirtual 122, 3)) (k : ∀ s1, P s1 → J M Q (pc + 3) ls st s1) (hn : args.length = 2 := by rfl) : J M Q pc ls (args.reverse ++ .inr (3, 0) :: st) σ := J_callV h mi_T_lookAt (by rw [hM]; exact wkT_122) rfl hn (Nat.le_of_ble_eq_true hd) hst d (fun r τ h => by obtain ⟨rfl, h⟩ := h; exact k τ h)
theorem wkT_126 : (Jvm.Cond.methodLink "PointsToRounds$Trial" (126 : Nat) ({ cls := "PointsToRounds$Trial", name := "enterMethod", desc := "(LPointsToRounds$Statement;I)V" } : Jvm.MethodName)) ∈ TB := TB3 (List.mem_of_getElem? (i := 61) (by decide +kernel)) rfl
theorem kT_126_v {M : mM} {Q : Option mV → mS → Prop} {pc : Nat} {ls : List (Option mV)} {st : List mV} {σ : mS} {args : List mV} {P : mS → Prop} (hM : M.1.cls = "PointsToRounds$Trial") (hd : Nat.ble (M_T_enterMethod.2.2.2.1 + 1) M.2.2.2.1 = true) (hst : Nat.ble st.length 8 = true) (h : MU M_T_enterMethod (.inr (3, 0) :: args) σ (fun r s1 => r = none ∧ P s1)) (d : decode M.2.1 pc = .ok (.invokevirtual 126, 3)) (k : ∀ s1, P s1 → J M Q (pc + 3) ls st s1) (hn : args.length = 2 := by rfl) : J M Q pc ls (args.reverse ++ .inr (3, 0) :: st) σ := J_callV h mi_T_enterMethod (by rw [hM]; exact wkT_126) rfl hn (Nat.le_of_ble_eq_true hd) hst d (fun r τ h => by obtain ⟨rfl, h⟩ := h; exact k τ h)
theorem wkT_135 : Cond.methodLinkNest "PointsToRounds$Trial" 135 ⟨"PointsToRounds", "hasBit", "(II)Z"⟩ "PointsToRounds" ∈ NW := by decide +kernel
theorem kT_135_i {M : mM} {Q : Option mV → mS → Prop} {pc : Nat} {ls : List (Option mV)} {st : List mV} {σ : mS} {args : List mV} {P : Int32 → mS → Prop} (hM : M.1.cls = "PointsToRounds$Trial") (hd : Nat.ble (M_O_hasBit.2.2.2.1 + 1) M.2.2.2.1 = true) (hst : Nat.ble st.length 8 = true) (h : MU M_O_hasBit args σ (fun r s1 => ∃ x, r = some (.inl x) ∧ P x s1)) (d : decode M.2.1 pc = .ok (.invokestatic 135, 3)) (k : ∀ x s1, P x s1 → J M Q (pc + 3) ls (.inl x :: st) s1) (hn : args.length = 2 := by rfl) : J M Q pc ls (args.reverse ++ st) σ := J_callSN h ms_O_hasBit (by rw [hM]; exact wkT_135) hn (Nat.le_of_ble_eq_true hd) hst d (fun r τ h => by obtain ⟨x, rfl, h⟩ := h; exact k x τ h)
theorem wkT_139 : (Jvm.Cond.methodLink "PointsToRounds$Trial" (139 : Nat) ({ cls := "PointsToRounds$Program", name := "sitesWith", desc := "(I)I" } : Jvm.MethodName)) ∈ TB := TB3 (List.mem_of_getElem? (i := 45) (by decide +kernel)) rfl
theorem kT_139_i {M : mM} {Q : Option mV → mS → Prop} {pc : Nat} {ls : List (Option mV)} {st : List mV} {σ : mS} {args : List mV} {P : Int32 → mS → Prop} (hM : M.1.cls = "PointsToRounds$Trial") (hd : Nat.ble (M_P_sitesWith.2.2.2.1 + 1) M.2.2.2.1 = true) (hst : Nat.ble st.length 8 = true) (h : MU M_P_sitesWith (.inr (1, 0) :: args) σ (fun r s1 => ∃ x, r = some (.inl x) ∧ P x s1)) (d : decode M.2.1 pc = .ok (.invokevirtual 139, 3)) (k : ∀ x s1, P x s1 → J M Q (pc + 3) ls (.inl x :: st) s1) (hn : args.length = 1 := by rfl) : J M Q pc ls (args.reverse ++ .inr (1, 0) :: st) σ := J_callV h mi_P_sitesWith (by rw [hM]; exact wkT_139) rfl hn (Nat.le_of_ble_eq_true hd) hst d (fun r τ h => by obtain ⟨x, rfl, h⟩ := h; exact k x τ h)
theorem wkT_143 : (Jvm.Cond.methodLink "PointsToRounds$Trial" (143 : Nat) ({ cls := "PointsToRounds$Trial", name := "hasSlot", desc := "(II)Z" } : Jvm.MethodName)) ∈ TB := TB3 (List.mem_of_getElem? (i := 41) (by decide +kernel)) rfl
theorem kT_143_i {M : mM} {Q : Option mV → mS → Prop} {pc : Nat} {ls : List (Option mV)} {st : List mV} {σ : mS} {args : List mV} {P : Int32 → mS → Prop} (hM : M.1.cls = "PointsToRounds$Trial") (hd : Nat.ble (M_T_hasSlot.2.2.2.1 + 1) M.2.2.2.1 = true) (hst : Nat.ble st.length 8 = true) (h : MU M_T_hasSlot (.inr (3, 0) :: args) σ (fun r s1 => ∃ x, r = some (.inl x) ∧ P x s1)) (d : decode M.2.1 pc = .ok (.invokevirtual 143, 3)) (k : ∀ x s1, P x s1 → J M Q (pc + 3) ls (.inl x :: st) s1) (hn : args.length = 2 := by rfl) : J M Q pc ls (args.reverse ++ .inr (3, 0) :: st) σ := J_callV h mi_T_hasSlot (by rw [hM]; exact wkT_143) rfl hn (Nat.le_of_ble_eq_true hd) hst d (fun r τ h => by obtain ⟨x, rfl, h⟩ := h; exact k x τ h)
theorem wkT_146 : Cond.methodLinkNest "PointsToRounds$Trial" 146 ⟨"PointsToRounds", "slotPlace", "(II)I"⟩ "PointsToRounds" ∈ NW := by decide +kernel
theorem kT_146_i {M : mM} {Q : Option mV → mS → Prop} {pc : Nat} {ls : List (Option mV)} {st : List mV} {σ : mS} {args : List mV} {P : Int32 → mS → Prop} (hM : M.1.cls = "PointsToRounds$Trial") (hd : Nat.ble (M_O_slotPlace.2.2.2.1 + 1) M.2.2.2.1 = true) (hst : Nat.ble st.length 8 = true) (h : MU M_O_slotPlace args σ (fun r s1 => ∃ x, r = some (.inl x) ∧ P x s1)) (d : decode M.2.1 pc = .ok (.invokestatic 146, 3)) (k : ∀ x s1, P x s1 → J M Q (pc + 3) ls (.inl x :: st) s1) (hn : args.length = 2 := by rfl) : J M Q pc ls (args.reverse ++ st) σ := J_callSN h ms_O_slotPlace (by rw [hM]; exact wkT_146) hn (Nat.le_of_ble_eq_true hd) hst d (fun r τ h => by obtain ⟨x, rfl, h⟩ := h; exact k x τ h)
theorem wkT_150 : (Jvm.Cond.methodLink "PointsToRounds$Trial" (150 : Nat) ({ cls := "PointsToRounds$Program", name := "methodFound", desc := "(II)I" } : Jvm.MethodName)) ∈ TB := TB3 (List.mem_of_getElem? (i := 65) (by decide +kernel)) rfl
theorem kT_150_i {M : mM} {Q : Option mV → mS → Prop} {pc : Nat} {ls : List (Option mV)} {st : List mV} {σ : mS} {args : List mV} {P : Int32 → mS → Prop} (hM : M.1.cls = "PointsToRounds$Trial") (hd : Nat.ble (M_P_methodFound.2.2.2.1 + 1) M.2.2.2.1 = true) (hst : Nat.ble st.length 8 = true) (h : MU M_P_methodFound (.inr (1, 0) :: args) σ (fun r s1 => ∃ x, r = some (.inl x) ∧ P x s1)) (d : decode M.2.1 pc = .ok (.invokevirtual 150, 3)) (k : ∀ x s1, P x s1 → J M Q (pc + 3) ls (.inl x :: st) s1) (hn : args.length = 2 := by rfl) : J M Q pc ls (args.reverse ++ .inr (1, 0) :: st) σ := J_callV h mi_P_methodFound (by rw [hM]; exact wkT_150) rfl hn (Nat.le_of_ble_eq_true hd) hst d (fun r τ h => by obtain ⟨x, rfl, h⟩ := h; exact k x τ h)
theorem wkT_153 : (Jvm.Cond.methodLink "PointsToRounds$Trial" (153 : Nat) ({ cls := "PointsToRounds$Sets", name := "contextOf", desc := "(I)I" } : Jvm.MethodName)) ∈ TB := TB3 (List.mem_of_getElem? (i := 66) (by decide +kernel)) rfl
theorem kT_153_i {M : mM} {Q : Option mV → mS → Prop} {pc : Nat} {ls : List (Option mV)} {st : List mV} {σ : mS} {args : List mV} {P : Int32 → mS → Prop} (hM : M.1.cls = "PointsToRounds$Trial") (hd : Nat.ble (M_S_contextOf.2.2.2.1 + 1) M.2.2.2.1 = true) (hst : Nat.ble st.length 8 = true) (h : MU M_S_contextOf (.inr (2, 0) :: args) σ (fun r s1 => ∃ x, r = some (.inl x) ∧ P x s1)) (d : decode M.2.1 pc = .ok (.invokevirtual 153, 3)) (k : ∀ x s1, P x s1 → J M Q (pc + 3) ls (.inl x :: st) s1) (hn : args.length = 1 := by rfl) : J M Q pc ls (args.reverse ++ .inr (2, 0) :: st) σ := J_callV h mi_S_contextOf (by rw [hM]; exact wkT_153) rfl hn (Nat.le_of_ble_eq_true hd) hst d (fun r τ h => by obtain ⟨x, rfl, h⟩ := h; exact k x τ h)
theorem wkT_164 : (Jvm.Cond.methodLink "PointsToRounds$Trial" (164 : Nat) ({ cls := "PointsToRounds$Sets", name := "at", desc := "(I)I" } : Jvm.MethodName)) ∈ TB := TB3 (List.mem_of_getElem? (i := 56) (by decide +kernel)) rfl
theorem kT_164_i {M : mM} {Q : Option mV → mS → Prop} {pc : Nat} {ls : List (Option mV)} {st : List mV} {σ : mS} {args : List mV} {P : Int32 → mS → Prop} (hM : M.1.cls = "PointsToRounds$Trial") (hd : Nat.ble (M_S_at.2.2.2.1 + 1) M.2.2.2.1 = true) (hst : Nat.ble st.length 8 = true) (h : MU M_S_at (.inr (2, 0) :: args) σ (fun r s1 => ∃ x, r = some (.inl x) ∧ P x s1)) (d : decode M.2.1 pc = .ok (.invokevirtual 164, 3)) (k : ∀ x s1, P x s1 → J M Q (pc + 3) ls (.inl x :: st) s1) (hn : args.length = 1 := by rfl) : J M Q pc ls (args.reverse ++ .inr (2, 0) :: st) σ := J_callV h mi_S_at (by rw [hM]; exact wkT_164) rfl hn (Nat.le_of_ble_eq_true hd) hst d (fun r τ h => by obtain ⟨x, rfl, h⟩ := h; exact k x τ h)
theorem wkT_167 : Cond.methodLinkNest "PointsToRounds$Trial" 167 ⟨"PointsToRounds", "namesOf", "(II)I"⟩ "PointsToRounds" ∈ NW := by decide +kernel
theorem kT_167_i {M : mM} {Q : Option mV → mS → Prop} {pc : Nat} {ls : List (Option mV)} {st : List mV} {σ : mS} {args : List mV} {P : Int32 → mS → Prop} (hM : M.1.cls = "PointsToRounds$Trial") (hd : Nat.ble (M_O_namesOf.2.2.2.1 + 1) M.2.2.2.1 = true) (hst : Nat.ble st.length 8 = true) (h : MU M_O_namesOf args σ (fun r s1 => ∃ x, r = some (.inl x) ∧ P x s1)) (d : decode M.2.1 pc = .ok (.invokestatic 167, 3)) (k : ∀ x s1, P x s1 → J M Q (pc + 3) ls (.inl x :: st) s1) (hn : args.length = 2 := by rfl) : J M Q pc ls (args.reverse ++ st) σ := J_callSN h ms_O_namesOf (by rw [hM]; exact wkT_167) hn (Nat.le_of_ble_eq_true hd) hst d (fun r τ h => by obtain ⟨x, rfl, h⟩ := h; exact k x τ h)
theorem wkM_119 : (Jvm.Cond.methodLink "PointsToRoundsModel" (119 : Nat) ({ cls := "PointsToRoundsModel", name := "isUnder", desc := "(II)Z" } : Jvm.MethodName)) ∈ TB := TB4 (List.mem_of_getElem? (i := 80) (by decide +kernel)) rfl
theorem kM_119_i {M : mM} {Q : Option mV → mS → Prop} {pc : Nat} {ls : List (Option mV)} {st : List mV} {σ : mS} {args : List mV} {P : Int32 → mS → Prop} (hM : M.1.cls = "PointsToRoundsModel") (hd : Nat.ble (M_M_isUnder.2.2.2.1 + 1) M.2.2.2.1 = true) (hst : Nat.ble st.length 8 = true) (h : MU M_M_isUnder (.inr (25, 0) :: args) σ (fun r s1 => ∃ x, r = some (.inl x) ∧ P x s1)) (d : decode M.2.1 pc = .ok (.invokevirtual 119, 3)) (k : ∀ x s1, P x s1 → J M Q (pc + 3) ls (.inl x :: st) s1) (hn : args.length = 2 := by rfl) : J M Q pc ls (args.reverse ++ .inr (25, 0) :: st) σ := J_callV h mi_M_isUnder (by rw [hM]; exact wkM_119) rfl hn (Nat.le_of_ble_eq_true hd) hst d (fun r τ h => by obtain ⟨x, rfl, h⟩ := h; exact k x τ h)
theorem wkM_123 : (Jvm.Cond.methodLink "PointsToRoundsModel" (123 : Nat) ({ cls := "PointsToRoundsModel", name := "methodWith", desc := "(II)I" } : Jvm.MethodName)) ∈ TB := TB4 (List.mem_of_getElem? (i := 3) (by decide +kernel)) rfl
theorem kM_123_i {M : mM} {Q : Option mV → mS → Prop} {pc : Nat} {ls : List (Option mV)} {st : List mV} {σ : mS} {args : List mV} {P : Int32 → mS → Prop} (hM : M.1.cls = "PointsToRoundsModel") (hd : Nat.ble (M_M_methodWith.2.2.2.1 + 1) M.2.2.2.1 = true) (hst : Nat.ble st.length 8 = true) (h : MU M_M_methodWith (.inr (25, 0) :: args) σ (fun r s1 => ∃ x, r = some (.inl x) ∧ P x s1)) (d : decode M.2.1 pc = .ok (.invokevirtual 123, 3)) (k : ∀ x s1, P x s1 → J M Q (pc + 3) ls (.inl x :: st) s1) (hn : args.length = 2 := by rfl) : J M Q pc ls (args.reverse ++ .inr (25, 0) :: st) σ := J_callV h mi_M_methodWith (by rw [hM]; exact wkM_123) rfl hn (Nat.le_of_ble_eq_true hd) hst d (fun r τ h => by obtain ⟨x, rfl, h⟩ := h; exact k x τ h)
theorem wkM_131 : (Jvm.Cond.methodLink "PointsToRoundsModel" (131 : Nat) ({ cls := "PointsToRoundsModel", name := "forgetRun", desc := "()V" } : Jvm.MethodName)) ∈ TB := TB3 (List.mem_of_getElem? (i := 227) (by decide +kernel)) rfl
theorem kM_131_v {M : mM} {Q : Option mV → mS → Prop} {pc : Nat} {ls : List (Option mV)} {st : List mV} {σ : mS} {args : List mV} {P : mS → Prop} (hM : M.1.cls = "PointsToRoundsModel") (hd : Nat.ble (M_M_forgetRun.2.2.2.1 + 1) M.2.2.2.1 = true) (hst : Nat.ble st.length 8 = true) (h : MU M_M_forgetRun (.inr (25, 0) :: args) σ (fun r s1 => r = none ∧ P s1)) (d : decode M.2.1 pc = .ok (.invokevirtual 131, 3)) (k : ∀ s1, P s1 → J M Q (pc + 3) ls st s1) (hn : args.length = 0 := by rfl) : J M Q pc ls (args.reverse ++ .inr (25, 0) :: st) σ := J_callV h mi_M_forgetRun (by rw [hM]; exact wkM_131) rfl hn (Nat.le_of_ble_eq_true hd) hst d (fun r τ h => by obtain ⟨rfl, h⟩ := h; exact k τ h)
theorem wkM_134 : (Jvm.Cond.methodLink "PointsToRoundsModel" (134 : Nat) ({ cls := "PointsToRoundsModel", name := "change", desc := "()V" } : Jvm.MethodName)) ∈ TB := TB3 (List.mem_of_getElem? (i := 223) (by decide +kernel)) rfl
theorem kM_134_v {M : mM} {Q : Option mV → mS → Prop} {pc : Nat} {ls : List (Option mV)} {st : List mV} {σ : mS} {args : List mV} {P : mS → Prop} (hM : M.1.cls = "PointsToRoundsModel") (hd : Nat.ble (M_M_change.2.2.2.1 + 1) M.2.2.2.1 = true) (hst : Nat.ble st.length 8 = true) (h : MU M_M_change (.inr (25, 0) :: args) σ (fun r s1 => r = none ∧ P s1)) (d : decode M.2.1 pc = .ok (.invokevirtual 134, 3)) (k : ∀ s1, P s1 → J M Q (pc + 3) ls st s1) (hn : args.length = 0 := by rfl) : J M Q pc ls (args.reverse ++ .inr (25, 0) :: st) σ := J_callV h mi_M_change (by rw [hM]; exact wkM_134) rfl hn (Nat.le_of_ble_eq_true hd) hst d (fun r τ h => by obtain ⟨rfl, h⟩ := h; exact k τ h)
theorem wkM_137 : (Jvm.Cond.methodLink "PointsToRoundsModel" (137 : Nat) ({ cls := "PointsToRoundsModel", name := "isClass", desc := "(I)Z" } : Jvm.MethodName)) ∈ TB := TB3 (List.mem_of_getElem? (i := 235) (by decide +kernel)) rfl
theorem kM_137_i {M : mM} {Q : Option mV → mS → Prop} {pc : Nat} {ls : List (Option mV)} {st : List mV} {σ : mS} {args : List mV} {P : Int32 → mS → Prop} (hM : M.1.cls = "PointsToRoundsModel") (hd : Nat.ble (M_M_isClass.2.2.2.1 + 1) M.2.2.2.1 = true) (hst : Nat.ble st.length 8 = true) (h : MU M_M_isClass (.inr (25, 0) :: args) σ (fun r s1 => ∃ x, r = some (.inl x) ∧ P x s1)) (d : decode M.2.1 pc = .ok (.invokevirtual 137, 3)) (k : ∀ x s1, P x s1 → J M Q (pc + 3) ls (.inl x :: st) s1) (hn : args.length = 1 := by rfl) : J M Q pc ls (args.reverse ++ .inr (25, 0) :: st) σ := J_callV h mi_M_isClass (by rw [hM]; exact wkM_137) rfl hn (Nat.le_of_ble_eq_true hd) hst d (fun r τ h => by obtain ⟨x, rfl, h⟩ := h; exact k x τ h)
theorem wkM_141 : (Jvm.Cond.methodLink "PointsToRoundsModel" (141 : Nat) ({ cls := "PointsToRoundsModel", name := "isName", desc := "(I)Z" } : Jvm.MethodName)) ∈ TB := TB4 (List.mem_of_getElem? (i := 19) (by decide +kernel)) rfl
theorem kM_141_i {M : mM} {Q : Option mV → mS → Prop} {pc : Nat} {ls : List (Option mV)} {st : List mV} {σ : mS} {args : List mV} {P : Int32 → mS → Prop} (hM : M.1.cls = "PointsToRoundsModel") (hd : Nat.ble (M_M_isName.2.2.2.1 + 1) M.2.2.2.1 = true) (hst : Nat.ble st.length 8 = true) (h : MU M_M_isName args σ (fun r s1 => ∃ x, r = some (.inl x) ∧ P x s1)) (d : decode M.2.1 pc = .ok (.invokestatic 141, 3)) (k : ∀ x s1, P x s1 → J M Q (pc + 3) ls (.inl x :: st) s1) (hn : args.length = 1 := by rfl) : J M Q pc ls (args.reverse ++ st) σ := J_callS h ms_M_isName (by rw [hM]; exact wkM_141) hn (Nat.le_of_ble_eq_true hd) hst d (fun r τ h => by obtain ⟨x, rfl, h⟩ := h; exact k x τ h)
theorem wkM_144 : (Jvm.Cond.methodLink "PointsToRoundsModel" (144 : Nat) ({ cls := "PointsToRoundsModel", name := "isField", desc := "(I)Z" } : Jvm.MethodName)) ∈ TB := TB4 (List.mem_of_getElem? (i := 22) (by decide +kernel)) rfl
theorem kM_144_i {M : mM} {Q : Option mV → mS → Prop} {pc : Nat} {ls : List (Option mV)} {st : List mV} {σ : mS} {args : List mV} {P : Int32 → mS → Prop} (hM : M.1.cls = "PointsToRoundsModel") (hd : Nat.ble (M_M_isField.2.2.2.1 + 1) M.2.2.2.1 = true) (hst : Nat.ble st.length 8 = true) (h : MU M_M_isField (.inr (25, 0) :: args) σ (fun r s1 => ∃ x, r = some (.inl x) ∧ P x s1)) (d : decode M.2.1 pc = .ok (.invokevirtual 144, 3)) (k : ∀ x s1, P x s1 → J M Q (pc + 3) ls (.inl x :: st) s1) (hn : args.length = 1 := by rfl) : J M Q pc ls (args.reverse ++ .inr (25, 0) :: st) σ := J_callV h mi_M_isField (by rw [hM]; exact wkM_144) rfl hn (Nat.le_of_ble_eq_true hd) hst d (fun r τ h => by obtain ⟨x, rfl, h⟩ := h; exact k x τ h)
theorem wkM_147 : (Jvm.Cond.methodLink "PointsToRoundsModel" (147 : Nat) ({ cls := "PointsToRoundsModel", name := "isStatic", desc := "(I)Z" } : Jvm.MethodName)) ∈ TB := TB4 (List.mem_of_getElem? (i := 26) (by decide +kernel)) rfl
theorem kM_147_i {M : mM} {Q : Option mV → mS → Prop} {pc : Nat} {ls : List (Option mV)} {st : List mV} {σ : mS} {args : List mV} {P : Int32 → mS → Prop} (hM : M.1.cls = "PointsToRoundsModel") (hd : Nat.ble (M_M_isStatic.2.2.2.1 + 1) M.2.2.2.1 = true) (hst : Nat.ble st.length 8 = true) (h : MU M_M_isStatic args σ (fun r s1 => ∃ x, r = some (.inl x) ∧ P x s1)) (d : decode M.2.1 pc = .ok (.invokestatic 147, 3)) (k : ∀ x s1, P x s1 → J M Q (pc + 3) ls (.inl x :: st) s1) (hn : args.length = 1 := by rfl) : J M Q pc ls (args.reverse ++ st) σ := J_callS h ms_M_isStatic (by rw [hM]; exact wkM_147) hn (Nat.le_of_ble_eq_true hd) hst d (fun r τ h => by obtain ⟨x, rfl, h⟩ := h; exact k x τ h)
theorem wkM_150 : (Jvm.Cond.methodLink "PointsToRoundsModel" (150 : Nat) ({ cls := "PointsToRoundsModel", name := "isMethod", desc := "(I)Z" } : Jvm.MethodName)) ∈ TB := TB4 (List.mem_of_getElem? (i := 11) (by decide +kernel)) rfl
theorem kM_150_i {M : mM} {Q : Option mV → mS → Prop} {pc : Nat} {ls : List (Option mV)} {st : List mV} {σ : mS} {args : List mV} {P : Int32 → mS → Prop} (hM : M.1.cls = "PointsToRoundsModel") (hd : Nat.ble (M_M_isMethod.2.2.2.1 + 1) M.2.2.2.1 = true) (hst : Nat.ble st.length 8 = true) (h : MU M_M_isMethod (.inr (25, 0) :: args) σ (fun r s1 => ∃ x, r = some (.inl x) ∧ P x s1)) (d : decode M.2.1 pc = .ok (.invokevirtual 150, 3)) (k : ∀ x s1, P x s1 → J M Q (pc + 3) ls (.inl x :: st) s1) (hn : args.length = 1 := by rfl) : J M Q pc ls (args.reverse ++ .inr (25, 0) :: st) σ := J_callV h mi_M_isMethod (by rw [hM]; exact wkM_150) rfl hn (Nat.le_of_ble_eq_true hd) hst d (fun r τ h => by obtain ⟨x, rfl, h⟩ := h; exact k x τ h)
theorem wkM_153 : (Jvm.Cond.methodLink "PointsToRoundsModel" (153 : Nat) ({ cls := "PointsToRoundsModel", name := "isGood", desc := "(IIIIII)Z" } : Jvm.MethodName)) ∈ TB := TB4 (List.mem_of_getElem? (i := 15) (by decide +kernel)) rfl
theorem kM_153_i {M : mM} {Q : Option mV → mS → Prop} {pc : Nat} {ls : List (Option mV)} {st : List mV} {σ : mS} {args : List mV} {P : Int32 → mS → Prop} (hM : M.1.cls = "PointsToRoundsModel") (hd : Nat.ble (M_M_isGood.2.2.2.1 + 1) M.2.2.2.1 = true) (hst : Nat.ble st.length 8 = true) (h : MU M_M_isGood (.inr (25, 0) :: args) σ (fun r s1 => ∃ x, r = some (.inl x) ∧ P x s1)) (d : decode M.2.1 pc = .ok (.invokevirtual 153, 3)) (k : ∀ x s1, P x s1 → J M Q (pc + 3) ls (.inl x :: st) s1) (hn : args.length = 6 := by rfl) : J M Q pc ls (args.reverse ++ .inr (25, 0) :: st) σ := J_callV h mi_M_isGood (by rw [hM]; exact wkM_153) rfl hn (Nat.le_of_ble_eq_true hd) hst d (fun r τ h => by obtain ⟨x, rfl, h⟩ := h; exact k x τ h)
theorem wkM_166 : (Jvm.Cond.methodLink "PointsToRoundsModel" (166 : Nat) ({ cls := "PointsToRoundsModel", name := "nameAt", desc := "(III)I" } : Jvm.MethodName)) ∈ TB := TB4 (List.mem_of_getElem? (i := 61) (by decide +kernel)) rfl
theorem kM_166_i {M : mM} {Q : Option mV → mS → Prop} {pc : Nat} {ls : List (Option mV)} {st : List mV} {σ : mS} {args : List mV} {P : Int32 → mS → Prop} (hM : M.1.cls = "PointsToRoundsModel") (hd : Nat.ble (M_M_nameAt.2.2.2.1 + 1) M.2.2.2.1 = true) (hst : Nat.ble st.length 8 = true) (h : MU M_M_nameAt args σ (fun r s1 => ∃ x, r = some (.inl x) ∧ P x s1)) (d : decode M.2.1 pc = .ok (.invokestatic 166, 3)) (k : ∀ x s1, P x s1 → J M Q (pc + 3) ls (.inl x :: st) s1) (hn : args.length = 3 := by rfl) : J M Q pc ls (args.reverse ++ st) σ := J_callS h ms_M_nameAt (by rw [hM]; exact wkM_166) hn (Nat.le_of_ble_eq_true hd) hst d (fun r τ h => by obtain ⟨x, rfl, h⟩ := h; exact k x τ h)
theorem wkM_170 : (Jvm.Cond.methodLink "PointsToRoundsModel" (170 : Nat) ({ cls := "PointsToRoundsModel", name := "call", desc := "(IIII)V" } : Jvm.MethodName)) ∈ TB := TB4 (List.mem_of_getElem? (i := 64) (by decide +kernel)) rfl
theorem kM_170_v {M : mM} {Q : Option mV → mS → Prop} {pc : Nat} {ls : List (Option mV)} {st : List mV} {σ : mS} {args : List mV} {P : mS → Prop} (hM : M.1.cls = "PointsToRoundsModel") (hd : Nat.ble (M_M_call.2.2.2.1 + 1) M.2.2.2.1 = true) (hst : Nat.ble st.length 8 = true) (h : MU M_M_call (.inr (25, 0) :: args) σ (fun r s1 => r = none ∧ P s1)) (d : decode M.2.1 pc = .ok (.invokevirtual 170, 3)) (k : ∀ s1, P s1 → J M Q (pc + 3) ls st s1) (hn : args.length = 4 := by rfl) : J M Q pc ls (args.reverse ++ .inr (25, 0) :: st) σ := J_callV h mi_M_call (by rw [hM]; exact wkM_170) rfl hn (Nat.le_of_ble_eq_true hd) hst d (fun r τ h => by obtain ⟨rfl, h⟩ := h; exact k τ h)
theorem wkM_174 : (Jvm.Cond.methodLink "PointsToRoundsModel" (174 : Nat) ({ cls := "PointsToRoundsModel", name := "bringEach", desc := "(IIII)V" } : Jvm.MethodName)) ∈ TB := TB4 (List.mem_of_getElem? (i := 72) (by decide +kernel)) rfl
theorem kM_174_v {M : mM} {Q : Option mV → mS → Prop} {pc : Nat} {ls : List (Option mV)} {st : List mV} {σ : mS} {args : List mV} {P : mS → Prop} (hM : M.1.cls = "PointsToRoundsModel") (hd : Nat.ble (M_M_bringEach.2.2.2.1 + 1) M.2.2.2.1 = true) (hst : Nat.ble st.length 8 = true) (h : MU M_M_bringEach (.inr (25, 0) :: args) σ (fun r s1 => r = none ∧ P s1)) (d : decode M.2.1 pc = .ok (.invokevirtual 174, 3)) (k : ∀ s1, P s1 → J M Q (pc + 3) ls st s1) (hn : args.length = 4 := by rfl) : J M Q pc ls (args.reverse ++ .inr (25, 0) :: st) σ := J_callV h mi_M_bringEach (by rw [hM]; exact wkM_174) rfl hn (Nat.le_of_ble_eq_true hd) hst d (fun r τ h => by obtain ⟨rfl, h⟩ := h; exact k τ h)
theorem wkM_177 : (Jvm.Cond.methodLink "PointsToRoundsModel" (177 : Nat) ({ cls := "PointsToRoundsModel", name := "hasField", desc := "(II)Z" } : Jvm.MethodName)) ∈ TB := TB4 (List.mem_of_getElem? (i := 76) (by decide +kernel)) rfl
theorem kM_177_i {M : mM} {Q : Option mV → mS → Prop} {pc : Nat} {ls : List (Option mV)} {st : List mV} {σ : mS} {args : List mV} {P : Int32 → mS → Prop} (hM : M.1.cls = "PointsToRoundsModel") (hd : Nat.ble (M_M_hasField.2.2.2.1 + 1) M.2.2.2.1 = true) (hst : Nat.ble st.length 8 = true) (h : MU M_M_hasField (.inr (25, 0) :: args) σ (fun r s1 => ∃ x, r = some (.inl x) ∧ P x s1)) (d : decode M.2.1 pc = .ok (.invokevirtual 177, 3)) (k : ∀ x s1, P x s1 → J M Q (pc + 3) ls (.inl x :: st) s1) (hn : args.length = 2 := by rfl) : J M Q pc ls (args.reverse ++ .inr (25, 0) :: st) σ := J_callV h mi_M_hasField (by rw [hM]; exact wkM_177) rfl hn (Nat.le_of_ble_eq_true hd) hst d (fun r τ h => by obtain ⟨x, rfl, h⟩ := h; exact k x τ h)
theorem wkM_180 : (Jvm.Cond.methodLink "PointsToRoundsModel" (180 : Nat) ({ cls := "PointsToRoundsModel", name := "found", desc := "(II)I" } : Jvm.MethodName)) ∈ TB := TB4 (List.mem_of_getElem? (i := 68) (by decide +kernel)) rfl
theorem kM_180_i {M : mM} {Q : Option mV → mS → Prop} {pc : Nat} {ls : List (Option mV)} {st : List mV} {σ : mS} {args : List mV} {P : Int32 → mS → Prop} (hM : M.1.cls = "PointsToRoundsModel") (hd : Nat.ble (M_M_found.2.2.2.1 + 1) M.2.2.2.1 = true) (hst : Nat.ble st.length 8 = true) (h : MU M_M_found (.inr (25, 0) :: args) σ (fun r s1 => ∃ x, r = some (.inl x) ∧ P x s1)) (d : decode M.2.1 pc = .ok (.invokevirtual 180, 3)) (k : ∀ x s1, P x s1 → J M Q (pc + 3) ls (.inl x :: st) s1) (hn : args.length = 2 := by rfl) : J M Q pc ls (args.reverse ++ .inr (25, 0) :: st) σ := J_callV h mi_M_found (by rw [hM]; exact wkM_180) rfl hn (Nat.le_of_ble_eq_true hd) hst d (fun r τ h => by obtain ⟨x, rfl, h⟩ := h; exact k x τ h)
theorem wkM_183 : (Jvm.Cond.methodLink "PointsToRoundsModel" (183 : Nat) ({ cls := "PointsToRoundsModel", name := "allOf", desc := "(II)I" } : Jvm.MethodName)) ∈ TB := TB4 (List.mem_of_getElem? (i := 96) (by decide +kernel)) rfl
theorem kM_183_i {M : mM} {Q : Option mV → mS → Prop} {pc : Nat} {ls : List (Option mV)} {st : List mV} {σ : mS} {args : List mV} {P : Int32 → mS → Prop} (hM : M.1.cls = "PointsToRoundsModel") (hd : Nat.ble (M_M_allOf.2.2.2.1 + 1) M.2.2.2.1 = true) (hst : Nat.ble st.length 8 = true) (h : MU M_M_allOf (.inr (25, 0) :: args) σ (fun r s1 => ∃ x, r = some (.inl x) ∧ P x s1)) (d : decode M.2.1 pc = .ok (.invokevirtual 183, 3)) (k : ∀ x s1, P x s1 → J M Q (pc + 3) ls (.inl x :: st) s1) (hn : args.length = 2 := by rfl) : J M Q pc ls (args.reverse ++ .inr (25, 0) :: st) σ := J_callV h mi_M_allOf (by rw [hM]; exact wkM_183) rfl hn (Nat.le_of_ble_eq_true hd) hst d (fun r τ h => by obtain ⟨x, rfl, h⟩ := h; exact k x τ h)
theorem wkM_186 : (Jvm.Cond.methodLink "PointsToRoundsModel" (186 : Nat) ({ cls := "PointsToRoundsModel", name := "empty", desc := "()V" } : Jvm.MethodName)) ∈ TB := TB4 (List.mem_of_getElem? (i := 49) (by decide +kernel)) rfl
theorem kM_186_v {M : mM} {Q : Option mV → mS → Prop} {pc : Nat} {ls : List (Option mV)} {st : List mV} {σ : mS} {args : List mV} {P : mS → Prop} (hM : M.1.cls = "PointsToRoundsModel") (hd : Nat.ble (M_M_empty.2.2.2.1 + 1) M.2.2.2.1 = true) (hst : Nat.ble st.length 8 = true) (h : MU M_M_empty (.inr (25, 0) :: args) σ (fun r s1 => r = none ∧ P s1)) (d : decode M.2.1 pc = .ok (.invokevirtual 186, 3)) (k : ∀ s1, P s1 → J M Q (pc + 3) ls st s1) (hn : args.length = 0 := by rfl) : J M Q pc ls (args.reverse ++ .inr (25, 0) :: st) σ := J_callV h mi_M_empty (by rw [hM]; exact wkM_186) rfl hn (Nat.le_of_ble_eq_true hd) hst d (fun r τ h => by obtain ⟨rfl, h⟩ := h; exact k τ h)
theorem wkM_192 : (Jvm.Cond.methodLink "PointsToRoundsModel" (192 : Nat) ({ cls := "PointsToRoundsModel", name := "copy", desc := "()V" } : Jvm.MethodName)) ∈ TB := TB4 (List.mem_of_getElem? (i := 53) (by decide +kernel)) rfl
theorem kM_192_v {M : mM} {Q : Option mV → mS → Prop} {pc : Nat} {ls : List (Option mV)} {st : List mV} {σ : mS} {args : List mV} {P : mS → Prop} (hM : M.1.cls = "PointsToRoundsModel") (hd : Nat.ble (M_M_copy.2.2.2.1 + 1) M.2.2.2.1 = true) (hst : Nat.ble st.length 8 = true) (h : MU M_M_copy (.inr (25, 0) :: args) σ (fun r s1 => r = none ∧ P s1)) (d : decode M.2.1 pc = .ok (.invokevirtual 192, 3)) (k : ∀ s1, P s1 → J M Q (pc + 3) ls st s1) (hn : args.length = 0 := by rfl) : J M Q pc ls (args.reverse ++ .inr (25, 0) :: st) σ := J_callV h mi_M_copy (by rw [hM]; exact wkM_192) rfl hn (Nat.le_of_ble_eq_true hd) hst d (fun r τ h => by obtain ⟨rfl, h⟩ := h; exact k τ h)
theorem wkM_195 : (Jvm.Cond.methodLink "PointsToRoundsModel" (195 : Nat) ({ cls := "PointsToRoundsModel", name := "bring", desc := "(II)V" } : Jvm.MethodName)) ∈ TB := TB4 (List.mem_of_getElem? (i := 57) (by decide +kernel)) rfl
theorem kM_195_v {M : mM} {Q : Option mV → mS → Prop} {pc : Nat} {ls : List (Option mV)} {st : List mV} {σ : mS} {args : List mV} {P : mS → Prop} (hM : M.1.cls = "PointsToRoundsModel") (hd : Nat.ble (M_M_bring.2.2.2.1 + 1) M.2.2.2.1 = true) (hst : Nat.ble st.length 8 = true) (h : MU M_M_bring (.inr (25, 0) :: args) σ (fun r s1 => r = none ∧ P s1)) (d : decode M.2.1 pc = .ok (.invokevirtual 195, 3)) (k : ∀ s1, P s1 → J M Q (pc + 3) ls st s1) (hn : args.length = 2 := by rfl) : J M Q pc ls (args.reverse ++ .inr (25, 0) :: st) σ := J_callV h mi_M_bring (by rw [hM]; exact wkM_195) rfl hn (Nat.le_of_ble_eq_true hd) hst d (fun r τ h => by obtain ⟨rfl, h⟩ := h; exact k τ h)
theorem wkM_199 : (Jvm.Cond.methodLink "PointsToRoundsModel" (199 : Nat) ({ cls := "PointsToRoundsModel", name := "isSame", desc := "()Z" } : Jvm.MethodName)) ∈ TB := TB4 (List.mem_of_getElem? (i := 84) (by decide +kernel)) rfl
theorem kM_199_i {M : mM} {Q : Option mV → mS → Prop} {pc : Nat} {ls : List (Option mV)} {st : List mV} {σ : mS} {args : List mV} {P : Int32 → mS → Prop} (hM : M.1.cls = "PointsToRoundsModel") (hd : Nat.ble (M_M_isSame.2.2.2.1 + 1) M.2.2.2.1 = true) (hst : Nat.ble st.length 8 = true) (h : MU M_M_isSame (.inr (25, 0) :: args) σ (fun r s1 => ∃ x, r = some (.inl x) ∧ P x s1)) (d : decode M.2.1 pc = .ok (.invokevirtual 199, 3)) (k : ∀ x s1, P x s1 → J M Q (pc + 3) ls (.inl x :: st) s1) (hn : args.length = 0 := by rfl) : J M Q pc ls (args.reverse ++ .inr (25, 0) :: st) σ := J_callV h mi_M_isSame (by rw [hM]; exact wkM_199) rfl hn (Nat.le_of_ble_eq_true hd) hst d (fun r τ h => by obtain ⟨x, rfl, h⟩ := h; exact k x τ h)
theorem wkM_203 : (Jvm.Cond.methodLink "PointsToRoundsModel" (203 : Nat) ({ cls := "PointsToRoundsModel", name := "swap", desc := "()V" } : Jvm.MethodName)) ∈ TB := TB4 (List.mem_of_getElem? (i := 88) (by decide +kernel)) rfl
theorem kM_203_v {M : mM} {Q : Option mV → mS → Prop} {pc : Nat} {ls : List (Option mV)} {st : List mV} {σ : mS} {args : List mV} {P : mS → Prop} (hM : M.1.cls = "PointsToRoundsModel") (hd : Nat.ble (M_M_swap.2.2.2.1 + 1) M.2.2.2.1 = true) (hst : Nat.ble st.length 8 = true) (h : MU M_M_swap (.inr (25, 0) :: args) σ (fun r s1 => r = none ∧ P s1)) (d : decode M.2.1 pc = .ok (.invokevirtual 203, 3)) (k : ∀ s1, P s1 → J M Q (pc + 3) ls st s1) (hn : args.length = 0 := by rfl) : J M Q pc ls (args.reverse ++ .inr (25, 0) :: st) σ := J_callV h mi_M_swap (by rw [hM]; exact wkM_203) rfl hn (Nat.le_of_ble_eq_true hd) hst d (fun r τ h => by obtain ⟨rfl, h⟩ := h; exact k τ h)
theorem wkM_206 : (Jvm.Cond.methodLink "PointsToRoundsModel" (206 : Nat) ({ cls := "PointsToRoundsModel", name := "note", desc := "(I)V" } : Jvm.MethodName)) ∈ TB := TB4 (List.mem_of_getElem? (i := 92) (by decide +kernel)) rfl
theorem kM_206_v {M : mM} {Q : Option mV → mS → Prop} {pc : Nat} {ls : List (Option mV)} {st : List mV} {σ : mS} {args : List mV} {P : mS → Prop} (hM : M.1.cls = "PointsToRoundsModel") (hd : Nat.ble (M_M_note.2.2.2.1 + 1) M.2.2.2.1 = true) (hst : Nat.ble st.length 8 = true) (h : MU M_M_note (.inr (25, 0) :: args) σ (fun r s1 => r = none ∧ P s1)) (d : decode M.2.1 pc = .ok (.invokevirtual 206, 3)) (k : ∀ s1, P s1 → J M Q (pc + 3) ls st s1) (hn : args.length = 1 := by rfl) : J M Q pc ls (args.reverse ++ .inr (25, 0) :: st) σ := J_callV h mi_M_note (by rw [hM]; exact wkM_206) rfl hn (Nat.le_of_ble_eq_true hd) hst d (fun r τ h => by obtain ⟨rfl, h⟩ := h; exact k τ h)
theorem wkM_210 : (Jvm.Cond.methodLink "PointsToRoundsModel" (210 : Nat) ({ cls := "PointsToRoundsModel", name := "isContext", desc := "(I)Z" } : Jvm.MethodName)) ∈ TB := TB4 (List.mem_of_getElem? (i := 41) (by decide +kernel)) rfl
theorem kM_210_i {M : mM} {Q : Option mV → mS → Prop} {pc : Nat} {ls : List (Option mV)} {st : List mV} {σ : mS} {args : List mV} {P : Int32 → mS → Prop} (hM : M.1.cls = "PointsToRoundsModel") (hd : Nat.ble (M_M_isContext.2.2.2.1 + 1) M.2.2.2.1 = true) (hst : Nat.ble st.length 8 = true) (h : MU M_M_isContext (.inr (25, 0) :: args) σ (fun r s1 => ∃ x, r = some (.inl x) ∧ P x s1)) (d : decode M.2.1 pc = .ok (.invokevirtual 210, 3)) (k : ∀ x s1, P x s1 → J M Q (pc + 3) ls (.inl x :: st) s1) (hn : args.length = 1 := by rfl) : J M Q pc ls (args.reverse ++ .inr (25, 0) :: st) σ := J_callV h mi_M_isContext (by rw [hM]; exact wkM_210) rfl hn (Nat.le_of_ble_eq_true hd) hst d (fun r τ h => by obtain ⟨x, rfl, h⟩ := h; exact k x τ h)
theorem wkM_213 : (Jvm.Cond.methodLink "PointsToRoundsModel" (213 : Nat) ({ cls := "PointsToRoundsModel", name := "know", desc := "()V" } : Jvm.MethodName)) ∈ TB := TB4 (List.mem_of_getElem? (i := 45) (by decide +kernel)) rfl
theorem kM_213_v {M : mM} {Q : Option mV → mS → Prop} {pc : Nat} {ls : List (Option mV)} {st : List mV} {σ : mS} {args : List mV} {P : mS → Prop} (hM : M.1.cls = "PointsToRoundsModel") (hd : Nat.ble (M_M_know.2.2.2.1 + 1) M.2.2.2.1 = true) (hst : Nat.ble st.length 8 = true) (h : MU M_M_know (.inr (25, 0) :: args) σ (fun r s1 => r = none ∧ P s1)) (d : decode M.2.1 pc = .ok (.invokevirtual 213, 3)) (k : ∀ s1, P s1 → J M Q (pc + 3) ls st s1) (hn : args.length = 0 := by rfl) : J M Q pc ls (args.reverse ++ .inr (25, 0) :: st) σ := J_callV h mi_M_know (by rw [hM]; exact wkM_213) rfl hn (Nat.le_of_ble_eq_true hd) hst d (fun r τ h => by obtain ⟨rfl, h⟩ := h; exact k τ h)
theorem wkM_216 : (Jvm.Cond.methodLink "PointsToRoundsModel" (216 : Nat) ({ cls := "PointsToRoundsModel", name := "isSite", desc := "(I)Z" } : Jvm.MethodName)) ∈ TB := TB4 (List.mem_of_getElem? (i := 104) (by decide +kernel)) rfl
theorem kM_216_i {M : mM} {Q : Option mV → mS → Prop} {pc : Nat} {ls : List (Option mV)} {st : List mV} {σ : mS} {args : List mV} {P : Int32 → mS → Prop} (hM : M.1.cls = "PointsToRoundsModel") (hd : Nat.ble (M_M_isSite.2.2.2.1 + 1) M.2.2.2.1 = true) (hst : Nat.ble st.length 8 = true) (h : MU M_M_isSite (.inr (25, 0) :: args) σ (fun r s1 => ∃ x, r = some (.inl x) ∧ P x s1)) (d : decode M.2.1 pc = .ok (.invokevirtual 216, 3)) (k : ∀ x s1, P x s1 → J M Q (pc + 3) ls (.inl x :: st) s1) (hn : args.length = 1 := by rfl) : J M Q pc ls (args.reverse ++ .inr (25, 0) :: st) σ := J_callV h mi_M_isSite (by rw [hM]; exact wkM_216) rfl hn (Nat.le_of_ble_eq_true hd) hst d (fun r τ h => by obtain ⟨x, rfl, h⟩ := h; exact k x τ h)
theorem wkM_228 : (Jvm.Cond.methodLink "PointsToRoundsModel" (228 : Nat) ({ cls := "PointsToRoundsModel", name := "open", desc := "(III)V" } : Jvm.MethodName)) ∈ TB := TB4 (List.mem_of_getElem? (i := 140) (by decide +kernel)) rfl
theorem kM_228_v {M : mM} {Q : Option mV → mS → Prop} {pc : Nat} {ls : List (Option mV)} {st : List mV} {σ : mS} {args : List mV} {P : mS → Prop} (hM : M.1.cls = "PointsToRoundsModel") (hd : Nat.ble (M_M_open.2.2.2.1 + 1) M.2.2.2.1 = true) (hst : Nat.ble st.length 8 = true) (h : MU M_M_open (.inr (25, 0) :: args) σ (fun r s1 => r = none ∧ P s1)) (d : decode M.2.1 pc = .ok (.invokevirtual 228, 3)) (k : ∀ s1, P s1 → J M Q (pc + 3) ls st s1) (hn : args.length = 3 := by rfl) : J M Q pc ls (args.reverse ++ .inr (25, 0) :: st) σ := J_callV h mi_M_open (by rw [hM]; exact wkM_228) rfl hn (Nat.le_of_ble_eq_true hd) hst d (fun r τ h => by obtain ⟨rfl, h⟩ := h; exact k τ h)
theorem wkM_232 : (Jvm.Cond.methodLink "PointsToRoundsModel" (232 : Nat) ({ cls := "PointsToRoundsModel", name := "make", desc := "(II)V" } : Jvm.MethodName)) ∈ TB := TB4 (List.mem_of_getElem? (i := 158) (by decide +kernel)) rfl
theorem kM_232_v {M : mM} {Q : Option mV → mS → Prop} {pc : Nat} {ls : List (Option mV)} {st : List mV} {σ : mS} {args : List mV} {P : mS → Prop} (hM : M.1.cls = "PointsToRoundsModel") (hd : Nat.ble (M_M_make.2.2.2.1 + 1) M.2.2.2.1 = true) (hst : Nat.ble st.length 8 = true) (h : MU M_M_make (.inr (25, 0) :: args) σ (fun r s1 => r = none ∧ P s1)) (d : decode M.2.1 pc = .ok (.invokevirtual 232, 3)) (k : ∀ s1, P s1 → J M Q (pc + 3) ls st s1) (hn : args.length = 2 := by rfl) : J M Q pc ls (args.reverse ++ .inr (25, 0) :: st) σ := J_callV h mi_M_make (by rw [hM]; exact wkM_232) rfl hn (Nat.le_of_ble_eq_true hd) hst d (fun r τ h => by obtain ⟨rfl, h⟩ := h; exact k τ h)
theorem wkM_235 : (Jvm.Cond.methodLink "PointsToRoundsModel" (235 : Nat) ({ cls := "PointsToRoundsModel", name := "canHave", desc := "(II)Z" } : Jvm.MethodName)) ∈ TB := TB4 (List.mem_of_getElem? (i := 162) (by decide +kernel)) rfl
theorem kM_235_i {M : mM} {Q : Option mV → mS → Prop} {pc : Nat} {ls : List (Option mV)} {st : List mV} {σ : mS} {args : List mV} {P : Int32 → mS → Prop} (hM : M.1.cls = "PointsToRoundsModel") (hd : Nat.ble (M_M_canHave.2.2.2.1 + 1) M.2.2.2.1 = true) (hst : Nat.ble st.length 8 = true) (h : MU M_M_canHave (.inr (25, 0) :: args) σ (fun r s1 => ∃ x, r = some (.inl x) ∧ P x s1)) (d : decode M.2.1 pc = .ok (.invokevirtual 235, 3)) (k : ∀ x s1, P x s1 → J M Q (pc + 3) ls (.inl x :: st) s1) (hn : args.length = 2 := by rfl) : J M Q pc ls (args.reverse ++ .inr (25, 0) :: st) σ := J_callV h mi_M_canHave (by rw [hM]; exact wkM_235) rfl hn (Nat.le_of_ble_eq_true hd) hst d (fun r τ h => by obtain ⟨x, rfl, h⟩ := h; exact k x τ h)
theorem wkM_238 : (Jvm.Cond.methodLink "PointsToRoundsModel" (238 : Nat) ({ cls := "PointsToRoundsModel", name := "enter", desc := "(III)V" } : Jvm.MethodName)) ∈ TB := TB4 (List.mem_of_getElem? (i := 166) (by decide +kernel)) rfl
theorem kM_238_v {M : mM} {Q : Option mV → mS → Prop} {pc : Nat} {ls : List (Option mV)} {st : List mV} {σ : mS} {args : List mV} {P : mS → Prop} (hM : M.1.cls = "PointsToRoundsModel") (hd : Nat.ble (M_M_enter.2.2.2.1 + 1) M.2.2.2.1 = true) (hst : Nat.ble st.length 8 = true) (h : MU M_M_enter (.inr (25, 0) :: args) σ (fun r s1 => r = none ∧ P s1)) (d : decode M.2.1 pc = .ok (.invokevirtual 238, 3)) (k : ∀ s1, P s1 → J M Q (pc + 3) ls st s1) (hn : args.length = 3 := by rfl) : J M Q pc ls (args.reverse ++ .inr (25, 0) :: st) σ := J_callV h mi_M_enter (by rw [hM]; exact wkM_238) rfl hn (Nat.le_of_ble_eq_true hd) hst d (fun r τ h => by obtain ⟨rfl, h⟩ := h; exact k τ h)
theorem wkM_241 : (Jvm.Cond.methodLink "PointsToRoundsModel" (241 : Nat) ({ cls := "PointsToRoundsModel", name := "isIn", desc := "(II)Z" } : Jvm.MethodName)) ∈ TB := TB4 (List.mem_of_getElem? (i := 178) (by decide +kernel)) rfl
theorem kM_241_i {M : mM} {Q : Option mV → mS → Prop} {pc : Nat} {ls : List (Option mV)} {st : List mV} {σ : mS} {args : List mV} {P : Int32 → mS → Prop} (hM : M.1.cls = "PointsToRoundsModel") (hd : Nat.ble (M_M_isIn.2.2.2.1 + 1) M.2.2.2.1 = true) (hst : Nat.ble st.length 8 = true) (h : MU M_M_isIn (.inr (25, 0) :: args) σ (fun r s1 => ∃ x, r = some (.inl x) ∧ P x s1)) (d : decode M.2.1 pc = .ok (.invokevirtual 241, 3)) (k : ∀ x s1, P x s1 → J M Q (pc + 3) ls (.inl x :: st) s1) (hn : args.length = 2 := by rfl) : J M Q pc ls (args.reverse ++ .inr (25, 0) :: st) σ := J_callV h mi_M_isIn (by rw [hM]; exact wkM_241) rfl hn (Nat.le_of_ble_eq_true hd) hst d (fun r τ h => by obtain ⟨x, rfl, h⟩ := h; exact k x τ h)
theorem wkM_246 : (Jvm.Cond.methodLink "PointsToRoundsModel" (246 : Nat) ({ cls := "PointsToRoundsModel", name := "many", desc := "(I)I" } : Jvm.MethodName)) ∈ TB := TB4 (List.mem_of_getElem? (i := 146) (by decide +kernel)) rfl
theorem kM_246_i {M : mM} {Q : Option mV → mS → Prop} {pc : Nat} {ls : List (Option mV)} {st : List mV} {σ : mS} {args : List mV} {P : Int32 → mS → Prop} (hM : M.1.cls = "PointsToRoundsModel") (hd : Nat.ble (M_M_many.2.2.2.1 + 1) M.2.2.2.1 = true) (hst : Nat.ble st.length 8 = true) (h : MU M_M_many (.inr (25, 0) :: args) σ (fun r s1 => ∃ x, r = some (.inl x) ∧ P x s1)) (d : decode M.2.1 pc = .ok (.invokevirtual 246, 3)) (k : ∀ x s1, P x s1 → J M Q (pc + 3) ls (.inl x :: st) s1) (hn : args.length = 1 := by rfl) : J M Q pc ls (args.reverse ++ .inr (25, 0) :: st) σ := J_callV h mi_M_many (by rw [hM]; exact wkM_246) rfl hn (Nat.le_of_ble_eq_true hd) hst d (fun r τ h => by obtain ⟨x, rfl, h⟩ := h; exact k x τ h)
theorem wkM_250 : (Jvm.Cond.methodLink "PointsToRoundsModel" (250 : Nat) ({ cls := "PointsToRoundsModel", name := "statementOf", desc := "(II)I" } : Jvm.MethodName)) ∈ TB := TB4 (List.mem_of_getElem? (i := 150) (by decide +kernel)) rfl
theorem kM_250_i {M : mM} {Q : Option mV → mS → Prop} {pc : Nat} {ls : List (Option mV)} {st : List mV} {σ : mS} {args : List mV} {P : Int32 → mS → Prop} (hM : M.1.cls = "PointsToRoundsModel") (hd : Nat.ble (M_M_statementOf.2.2.2.1 + 1) M.2.2.2.1 = true) (hst : Nat.ble st.length 8 = true) (h : MU M_M_statementOf (.inr (25, 0) :: args) σ (fun r s1 => ∃ x, r = some (.inl x) ∧ P x s1)) (d : decode M.2.1 pc = .ok (.invokevirtual 250, 3)) (k : ∀ x s1, P x s1 → J M Q (pc + 3) ls (.inl x :: st) s1) (hn : args.length = 2 := by rfl) : J M Q pc ls (args.reverse ++ .inr (25, 0) :: st) σ := J_callV h mi_M_statementOf (by rw [hM]; exact wkM_250) rfl hn (Nat.le_of_ble_eq_true hd) hst d (fun r τ h => by obtain ⟨x, rfl, h⟩ := h; exact k x τ h)
theorem wkM_253 : (Jvm.Cond.methodLink "PointsToRoundsModel" (253 : Nat) ({ cls := "PointsToRoundsModel", name := "act", desc := "(I)V" } : Jvm.MethodName)) ∈ TB := TB4 (List.mem_of_getElem? (i := 154) (by decide +kernel)) rfl
theorem kM_253_v {M : mM} {Q : Option mV → mS → Prop} {pc : Nat} {ls : List (Option mV)} {st : List mV} {σ : mS} {args : List mV} {P : mS → Prop} (hM : M.1.cls = "PointsToRoundsModel") (hd : Nat.ble (M_M_act.2.2.2.1 + 1) M.2.2.2.1 = true) (hst : Nat.ble st.length 8 = true) (h : MU M_M_act (.inr (25, 0) :: args) σ (fun r s1 => r = none ∧ P s1)) (d : decode M.2.1 pc = .ok (.invokevirtual 253, 3)) (k : ∀ s1, P s1 → J M Q (pc + 3) ls st s1) (hn : args.length = 1 := by rfl) : J M Q pc ls (args.reverse ++ .inr (25, 0) :: st) σ := J_callV h mi_M_act (by rw [hM]; exact wkM_253) rfl hn (Nat.le_of_ble_eq_true hd) hst d (fun r τ h => by obtain ⟨rfl, h⟩ := h; exact k τ h)
theorem wkM_256 : (Jvm.Cond.methodLink "PointsToRoundsModel" (256 : Nat) ({ cls := "PointsToRoundsModel", name := "leave", desc := "()V" } : Jvm.MethodName)) ∈ TB := TB4 (List.mem_of_getElem? (i := 170) (by decide +kernel)) rfl
theorem kM_256_v {M : mM} {Q : Option mV → mS → Prop} {pc : Nat} {ls : List (Option mV)} {st : List mV} {σ : mS} {args : List mV} {P : mS → Prop} (hM : M.1.cls = "PointsToRoundsModel") (hd : Nat.ble (M_M_leave.2.2.2.1 + 1) M.2.2.2.1 = true) (hst : Nat.ble st.length 8 = true) (h : MU M_M_leave (.inr (25, 0) :: args) σ (fun r s1 => r = none ∧ P s1)) (d : decode M.2.1 pc = .ok (.invokevirtual 256, 3)) (k : ∀ s1, P s1 → J M Q (pc + 3) ls st s1) (hn : args.length = 0 := by rfl) : J M Q pc ls (args.reverse ++ .inr (25, 0) :: st) σ := J_callV h mi_M_leave (by rw [hM]; exact wkM_256) rfl hn (Nat.le_of_ble_eq_true hd) hst d (fun r τ h => by obtain ⟨rfl, h⟩ := h; exact k τ h)
theorem wkM_259 : (Jvm.Cond.methodLink "PointsToRoundsModel" (259 : Nat) ({ cls := "PointsToRoundsModel", name := "holds", desc := "()Z" } : Jvm.MethodName)) ∈ TB := TB4 (List.mem_of_getElem? (i := 174) (by decide +kernel)) rfl
theorem kM_259_i {M : mM} {Q : Option mV → mS → Prop} {pc : Nat} {ls : List (Option mV)} {st : List mV} {σ : mS} {args : List mV} {P : Int32 → mS → Prop} (hM : M.1.cls = "PointsToRoundsModel") (hd : Nat.ble (M_M_holds.2.2.2.1 + 1) M.2.2.2.1 = true) (hst : Nat.ble st.length 8 = true) (h : MU M_M_holds (.inr (25, 0) :: args) σ (fun r s1 => ∃ x, r = some (.inl x) ∧ P x s1)) (d : decode M.2.1 pc = .ok (.invokevirtual 259, 3)) (k : ∀ x s1, P x s1 → J M Q (pc + 3) ls (.inl x :: st) s1) (hn : args.length = 0 := by rfl) : J M Q pc ls (args.reverse ++ .inr (25, 0) :: st) σ := J_callV h mi_M_holds (by rw [hM]; exact wkM_259) rfl hn (Nat.le_of_ble_eq_true hd) hst d (fun r τ h => by obtain ⟨x, rfl, h⟩ := h; exact k x τ h)
theorem wkA_13 : (Jvm.Cond.methodLink "java/util/Arrays" (13 : Nat) ({ cls := "java/util/Arrays", name := "rangeCheck", desc := "(III)V" } : Jvm.MethodName)) ∈ TB := TB3 (List.mem_of_getElem? (i := 19) (by decide +kernel)) rfl
theorem kA_13_v {M : mM} {Q : Option mV → mS → Prop} {pc : Nat} {ls : List (Option mV)} {st : List mV} {σ : mS} {args : List mV} {P : mS → Prop} (hM : M.1.cls = "java/util/Arrays") (hd : Nat.ble (M_A_rangeCheck.2.2.2.1 + 1) M.2.2.2.1 = true) (hst : Nat.ble st.length 8 = true) (h : MU M_A_rangeCheck args σ (fun r s1 => r = none ∧ P s1)) (d : decode M.2.1 pc = .ok (.invokestatic 13, 3)) (k : ∀ s1, P s1 → J M Q (pc + 3) ls st s1) (hn : args.length = 3 := by rfl) : J M Q pc ls (args.reverse ++ st) σ := J_callS h ms_A_rangeCheck (by rw [hM]; exact wkA_13) hn (Nat.le_of_ble_eq_true hd) hst d (fun r τ h => by obtain ⟨rfl, h⟩ := h; exact k τ h)
end
section
theorem d_O_cls_0 : decode prog_1_method_2_code 0 = .ok (.iload_n 1, 1) := by decide +kernel
theorem d_O_cls_1 : decode prog_1_method_2_code 1 = .ok (.iconst (-1), 1) := by decide +kernel
theorem d_O_cls_2 : decode prog_1_method_2_code 2 = .ok (.if_icmp .eq 16, 3) := by decide +kernel
theorem d_O_cls_5 : decode prog_1_method_2_code 5 = .ok (.aload_n 0, 1) := by decide +kernel
theorem d_O_cls_6 : decode prog_1_method_2_code 6 = .ok (.getfield 12, 3) := by decide +kernel
theorem d_O_cls_9 : decode prog_1_method_2_code 9 = .ok (.iload_n 1, 1) := by decide +kernel
theorem d_O_cls_10 : decode prog_1_method_2_code 10 = .ok (.invokevirtual 34, 3) := by decide +kernel
theorem d_O_cls_13 : decode prog_1_method_2_code 13 = .ok (.ifCond .ne 5, 3) := by decide +kernel
theorem d_O_cls_16 : decode prog_1_method_2_code 16 = .ok (.iconst (-1), 1) := by decide +kernel
theorem d_O_cls_17 : decode prog_1_method_2_code 17 = .ok (.ireturn, 1) := by decide +kernel
theorem d_O_cls_18 : decode prog_1_method_2_code 18 = .ok (.aload_n 0, 1) := by decide +kernel
theorem d_O_cls_19 : decode prog_1_method_2_code 19 = .ok (.getfield 12, 3) := by decide +kernel
theorem d_O_cls_22 : decode prog_1_method_2_code 22 = .ok (.getfield 38, 3) := by decide +kernel
theorem d_O_cls_25 : decode prog_1_method_2_code 25 = .ok (.bipush 8, 2) := by decide +kernel
theorem d_O_cls_27 : decode prog_1_method_2_code 27 = .ok (.if_icmp .lt 6, 3) := by decide +kernel
theorem d_O_cls_30 : decode prog_1_method_2_code 30 = .ok (.bipush (-4), 2) := by decide +kernel
theorem d_O_cls_32 : decode prog_1_method_2_code 32 = .ok (.ireturn, 1) := by decide +kernel
theorem d_O_cls_33 : decode prog_1_method_2_code 33 = .ok (.aload_n 0, 1) := by decide +kernel
theorem d_O_cls_34 : decode prog_1_method_2_code 34 = .ok (.invokevirtual 42, 3) := by decide +kernel
theorem d_O_cls_37 : decode prog_1_method_2_code 37 = .ok (.aload_n 0, 1) := by decide +kernel
theorem d_O_cls_38 : decode prog_1_method_2_code 38 = .ok (.getfield 12, 3) := by decide +kernel
theorem d_O_cls_41 : decode prog_1_method_2_code 41 = .ok (.iload_n 1, 1) := by decide +kernel
theorem d_O_cls_42 : decode prog_1_method_2_code 42 = .ok (.invokevirtual 45, 3) := by decide +kernel
theorem d_O_cls_45 : decode prog_1_method_2_code 45 = .ok (.ireturn, 1) := by decide +kernel
theorem d_O_field_0 : decode prog_1_method_3_code 0 = .ok (.aload_n 0, 1) := by decide +kernel
theorem d_O_field_1 : decode prog_1_method_3_code 1 = .ok (.getfield 12, 3) := by decide +kernel
theorem d_O_field_4 : decode prog_1_method_3_code 4 = .ok (.iload_n 1, 1) := by decide +kernel
theorem d_O_field_5 : decode prog_1_method_3_code 5 = .ok (.invokevirtual 34, 3) := by decide +kernel
theorem d_O_field_8 : decode prog_1_method_3_code 8 = .ok (.ifCond .ne 5, 3) := by decide +kernel
theorem d_O_field_11 : decode prog_1_method_3_code 11 = .ok (.iconst (-1), 1) := by decide +kernel
theorem d_O_field_12 : decode prog_1_method_3_code 12 = .ok (.ireturn, 1) := by decide +kernel
theorem d_O_field_13 : decode prog_1_method_3_code 13 = .ok (.aload_n 0, 1) := by decide +kernel
theorem d_O_field_14 : decode prog_1_method_3_code 14 = .ok (.getfield 12, 3) := by decide +kernel
theorem d_O_field_17 : decode prog_1_method_3_code 17 = .ok (.getfield 49, 3) := by decide +kernel
theorem d_O_field_20 : decode prog_1_method_3_code 20 = .ok (.bipush 8, 2) := by decide +kernel
theorem d_O_field_22 : decode prog_1_method_3_code 22 = .ok (.if_icmp .lt 6, 3) := by decide +kernel
theorem d_O_field_25 : decode prog_1_method_3_code 25 = .ok (.bipush (-4), 2) := by decide +kernel
theorem d_O_field_27 : decode prog_1_method_3_code 27 = .ok (.ireturn, 1) := by decide +kernel
theorem d_O_field_28 : decode prog_1_method_3_code 28 = .ok (.aload_n 0, 1) := by decide +kernel
theorem d_O_field_29 : decode prog_1_method_3_code 29 = .ok (.invokevirtual 42, 3) := by decide +kernel
theorem d_O_field_32 : decode prog_1_method_3_code 32 = .ok (.aload_n 0, 1) := by decide +kernel
theorem d_O_field_33 : decode prog_1_method_3_code 33 = .ok (.getfield 12, 3) := by decide +kernel
theorem d_O_field_36 : decode prog_1_method_3_code 36 = .ok (.iload_n 1, 1) := by decide +kernel
theorem d_O_field_37 : decode prog_1_method_3_code 37 = .ok (.invokevirtual 52, 3) := by decide +kernel
theorem d_O_field_40 : decode prog_1_method_3_code 40 = .ok (.ireturn, 1) := by decide +kernel
theorem d_O_method_0 : decode prog_1_method_4_code 0 = .ok (.aload_n 0, 1) := by decide +kernel
theorem d_O_method_1 : decode prog_1_method_4_code 1 = .ok (.getfield 12, 3) := by decide +kernel
theorem d_O_method_4 : decode prog_1_method_4_code 4 = .ok (.iload_n 1, 1) := by decide +kernel
theorem d_O_method_5 : decode prog_1_method_4_code 5 = .ok (.invokevirtual 34, 3) := by decide +kernel
theorem d_O_method_8 : decode prog_1_method_4_code 8 = .ok (.ifCond .ne 5, 3) := by decide +kernel
theorem d_O_method_11 : decode prog_1_method_4_code 11 = .ok (.iconst (-1), 1) := by decide +kernel
theorem d_O_method_12 : decode prog_1_method_4_code 12 = .ok (.ireturn, 1) := by decide +kernel
theorem d_O_method_13 : decode prog_1_method_4_code 13 = .ok (.iload_n 2, 1) := by decide +kernel
theorem d_O_method_14 : decode prog_1_method_4_code 14 = .ok (.invokestatic 55, 3) := by decide +kernel
theorem d_O_method_17 : decode prog_1_method_4_code 17 = .ok (.ifCond .ne 6, 3) := by decide +kernel
theorem d_O_method_20 : decode prog_1_method_4_code 20 = .ok (.bipush (-2), 2) := by decide +kernel
theorem d_O_method_22 : decode prog_1_method_4_code 22 = .ok (.ireturn, 1) := by decide +kernel
theorem d_O_method_23 : decode prog_1_method_4_code 23 = .ok (.aload_n 0, 1) := by decide +kernel
theorem d_O_method_24 : decode prog_1_method_4_code 24 = .ok (.getfield 12, 3) := by decide +kernel
theorem d_O_method_27 : decode prog_1_method_4_code 27 = .ok (.iload_n 1, 1) := by decide +kernel
theorem d_O_method_28 : decode prog_1_method_4_code 28 = .ok (.iload_n 2, 1) := by decide +kernel
theorem d_O_method_29 : decode prog_1_method_4_code 29 = .ok (.invokevirtual 58, 3) := by decide +kernel
theorem d_O_method_32 : decode prog_1_method_4_code 32 = .ok (.iconst (-1), 1) := by decide +kernel
theorem d_O_method_33 : decode prog_1_method_4_code 33 = .ok (.if_icmp .eq 6, 3) := by decide +kernel
theorem d_O_method_36 : decode prog_1_method_4_code 36 = .ok (.bipush (-3), 2) := by decide +kernel
theorem d_O_method_38 : decode prog_1_method_4_code 38 = .ok (.ireturn, 1) := by decide +kernel
theorem d_O_method_39 : decode prog_1_method_4_code 39 = .ok (.aload_n 0, 1) := by decide +kernel
theorem d_O_method_40 : decode prog_1_method_4_code 40 = .ok (.getfield 12, 3) := by decide +kernel
theorem d_O_method_43 : decode prog_1_method_4_code 43 = .ok (.getfield 62, 3) := by decide +kernel
theorem d_O_method_46 : decode prog_1_method_4_code 46 = .ok (.bipush 10, 2) := by decide +kernel
theorem d_O_method_48 : decode prog_1_method_4_code 48 = .ok (.if_icmp .lt 6, 3) := by decide +kernel
theorem d_O_method_51 : decode prog_1_method_4_code 51 = .ok (.bipush (-4), 2) := by decide +kernel
theorem d_O_method_53 : decode prog_1_method_4_code 53 = .ok (.ireturn, 1) := by decide +kernel
theorem d_O_method_54 : decode prog_1_method_4_code 54 = .ok (.aload_n 0, 1) := by decide +kernel
theorem d_O_method_55 : decode prog_1_method_4_code 55 = .ok (.invokevirtual 42, 3) := by decide +kernel
theorem d_O_method_58 : decode prog_1_method_4_code 58 = .ok (.aload_n 0, 1) := by decide +kernel
theorem d_O_method_59 : decode prog_1_method_4_code 59 = .ok (.getfield 12, 3) := by decide +kernel
theorem d_O_method_62 : decode prog_1_method_4_code 62 = .ok (.iload_n 1, 1) := by decide +kernel
theorem d_O_method_63 : decode prog_1_method_4_code 63 = .ok (.iload_n 2, 1) := by decide +kernel
theorem d_O_method_64 : decode prog_1_method_4_code 64 = .ok (.invokevirtual 65, 3) := by decide +kernel
theorem d_O_method_67 : decode prog_1_method_4_code 67 = .ok (.ireturn, 1) := by decide +kernel
theorem d_O_statement_0 : decode prog_1_method_5_code 0 = .ok (.aload_n 0, 1) := by decide +kernel
theorem d_O_statement_1 : decode prog_1_method_5_code 1 = .ok (.getfield 12, 3) := by decide +kernel
theorem d_O_statement_4 : decode prog_1_method_5_code 4 = .ok (.iload_n 1, 1) := by decide +kernel
theorem d_O_statement_5 : decode prog_1_method_5_code 5 = .ok (.invokevirtual 68, 3) := by decide +kernel
theorem d_O_statement_8 : decode prog_1_method_5_code 8 = .ok (.ifCond .ne 5, 3) := by decide +kernel
theorem d_O_statement_11 : decode prog_1_method_5_code 11 = .ok (.iconst (-1), 1) := by decide +kernel
theorem d_O_statement_12 : decode prog_1_method_5_code 12 = .ok (.ireturn, 1) := by decide +kernel
theorem d_O_statement_13 : decode prog_1_method_5_code 13 = .ok (.iload_n 2, 1) := by decide +kernel
theorem d_O_statement_14 : decode prog_1_method_5_code 14 = .ok (.ifCond .lt 9, 3) := by decide +kernel
theorem d_O_statement_17 : decode prog_1_method_5_code 17 = .ok (.iload_n 2, 1) := by decide +kernel
theorem d_O_statement_18 : decode prog_1_method_5_code 18 = .ok (.bipush 9, 2) := by decide +kernel
theorem d_O_statement_20 : decode prog_1_method_5_code 20 = .ok (.if_icmp .le 6, 3) := by decide +kernel
theorem d_O_statement_23 : decode prog_1_method_5_code 23 = .ok (.bipush (-2), 2) := by decide +kernel
theorem d_O_statement_25 : decode prog_1_method_5_code 25 = .ok (.ireturn, 1) := by decide +kernel
theorem d_O_statement_26 : decode prog_1_method_5_code 26 = .ok (.aload_n 0, 1) := by decide +kernel
theorem d_O_statement_27 : decode prog_1_method_5_code 27 = .ok (.getfield 12, 3) := by decide +kernel
theorem d_O_statement_30 : decode prog_1_method_5_code 30 = .ok (.iload_n 2, 1) := by decide +kernel
theorem d_O_statement_31 : decode prog_1_method_5_code 31 = .ok (.iload_n 3, 1) := by decide +kernel
theorem d_O_statement_32 : decode prog_1_method_5_code 32 = .ok (.iload 4, 2) := by decide +kernel
theorem d_O_statement_34 : decode prog_1_method_5_code 34 = .ok (.iload 5, 2) := by decide +kernel
theorem d_O_statement_36 : decode prog_1_method_5_code 36 = .ok (.iload 6, 2) := by decide +kernel
theorem d_O_statement_38 : decode prog_1_method_5_code 38 = .ok (.iload 7, 2) := by decide +kernel
theorem d_O_statement_40 : decode prog_1_method_5_code 40 = .ok (.invokevirtual 71, 3) := by decide +kernel
theorem d_O_statement_43 : decode prog_1_method_5_code 43 = .ok (.ifCond .ne 5, 3) := by decide +kernel
theorem d_O_statement_46 : decode prog_1_method_5_code 46 = .ok (.iconst (-1), 1) := by decide +kernel
theorem d_O_statement_47 : decode prog_1_method_5_code 47 = .ok (.ireturn, 1) := by decide +kernel
theorem d_O_statement_48 : decode prog_1_method_5_code 48 = .ok (.iload_n 2, 1) := by decide +kernel
theorem d_O_statement_49 : decode prog_1_method_5_code 49 = .ok (.bipush 7, 2) := by decide +kernel
theorem d_O_statement_51 : decode prog_1_method_5_code 51 = .ok (.if_icmp .ne 14, 3) := by decide +kernel
theorem d_O_statement_54 : decode prog_1_method_5_code 54 = .ok (.iload 5, 2) := by decide +kernel
theorem d_O_statement_56 : decode prog_1_method_5_code 56 = .ok (.invokestatic 55, 3) := by decide +kernel
theorem d_O_statement_59 : decode prog_1_method_5_code 59 = .ok (.ifCond .ne 6, 3) := by decide +kernel
theorem d_O_statement_62 : decode prog_1_method_5_code 62 = .ok (.bipush (-2), 2) := by decide +kernel
theorem d_O_statement_64 : decode prog_1_method_5_code 64 = .ok (.ireturn, 1) := by decide +kernel
theorem d_O_statement_65 : decode prog_1_method_5_code 65 = .ok (.aload_n 0, 1) := by decide +kernel
theorem d_O_statement_66 : decode prog_1_method_5_code 66 = .ok (.getfield 12, 3) := by decide +kernel
theorem d_O_statement_69 : decode prog_1_method_5_code 69 = .ok (.iload_n 2, 1) := by decide +kernel
theorem d_O_statement_70 : decode prog_1_method_5_code 70 = .ok (.invokevirtual 75, 3) := by decide +kernel
theorem d_O_statement_73 : decode prog_1_method_5_code 73 = .ok (.ifCond .ne 6, 3) := by decide +kernel
theorem d_O_statement_76 : decode prog_1_method_5_code 76 = .ok (.bipush (-4), 2) := by decide +kernel
theorem d_O_statement_78 : decode prog_1_method_5_code 78 = .ok (.ireturn, 1) := by decide +kernel
theorem d_O_statement_79 : decode prog_1_method_5_code 79 = .ok (.aload_n 0, 1) := by decide +kernel
theorem d_O_statement_80 : decode prog_1_method_5_code 80 = .ok (.invokevirtual 42, 3) := by decide +kernel
theorem d_O_statement_83 : decode prog_1_method_5_code 83 = .ok (.aload_n 0, 1) := by decide +kernel
theorem d_O_statement_84 : decode prog_1_method_5_code 84 = .ok (.getfield 12, 3) := by decide +kernel
theorem d_O_statement_87 : decode prog_1_method_5_code 87 = .ok (.invokevirtual 78, 3) := by decide +kernel
theorem d_O_statement_90 : decode prog_1_method_5_code 90 = .ok (.iload_n 2, 1) := by decide +kernel
theorem d_O_statement_91 : decode prog_1_method_5_code 91 = .ok (.iload_n 3, 1) := by decide +kernel
theorem d_O_statement_92 : decode prog_1_method_5_code 92 = .ok (.iload 4, 2) := by decide +kernel
theorem d_O_statement_94 : decode prog_1_method_5_code 94 = .ok (.iload 5, 2) := by decide +kernel
theorem d_O_statement_96 : decode prog_1_method_5_code 96 = .ok (.iload 6, 2) := by decide +kernel
theorem d_O_statement_98 : decode prog_1_method_5_code 98 = .ok (.iload 7, 2) := by decide +kernel
theorem d_O_statement_100 : decode prog_1_method_5_code 100 = .ok (.invokevirtual 82, 3) := by decide +kernel
theorem d_O_statement_103 : decode prog_1_method_5_code 103 = .ok (.aload_n 0, 1) := by decide +kernel
theorem d_O_statement_104 : decode prog_1_method_5_code 104 = .ok (.getfield 12, 3) := by decide +kernel
theorem d_O_statement_107 : decode prog_1_method_5_code 107 = .ok (.iload_n 1, 1) := by decide +kernel
theorem d_O_statement_108 : decode prog_1_method_5_code 108 = .ok (.invokevirtual 88, 3) := by decide +kernel
theorem d_O_statement_111 : decode prog_1_method_5_code 111 = .ok (.ireturn, 1) := by decide +kernel
theorem d_O_mode_0 : decode prog_1_method_6_code 0 = .ok (.iload_n 1, 1) := by decide +kernel
theorem d_O_mode_1 : decode prog_1_method_6_code 1 = .ok (.ifCond .eq 11, 3) := by decide +kernel
theorem d_O_mode_4 : decode prog_1_method_6_code 4 = .ok (.iload_n 1, 1) := by decide +kernel
theorem d_O_mode_5 : decode prog_1_method_6_code 5 = .ok (.iconst 1, 1) := by decide +kernel
theorem d_O_mode_6 : decode prog_1_method_6_code 6 = .ok (.if_icmp .eq 6, 3) := by decide +kernel
theorem d_O_mode_9 : decode prog_1_method_6_code 9 = .ok (.bipush (-2), 2) := by decide +kernel
theorem d_O_mode_11 : decode prog_1_method_6_code 11 = .ok (.ireturn, 1) := by decide +kernel
theorem d_O_mode_12 : decode prog_1_method_6_code 12 = .ok (.aload_n 0, 1) := by decide +kernel
theorem d_O_mode_13 : decode prog_1_method_6_code 13 = .ok (.getfield 21, 3) := by decide +kernel
theorem d_O_mode_16 : decode prog_1_method_6_code 16 = .ok (.getfield 91, 3) := by decide +kernel
theorem d_O_mode_19 : decode prog_1_method_6_code 19 = .ok (.ifCond .eq 7, 3) := by decide +kernel
theorem d_O_mode_22 : decode prog_1_method_6_code 22 = .ok (.iconst 1, 1) := by decide +kernel
theorem d_O_mode_23 : decode prog_1_method_6_code 23 = .ok (.goto 4, 3) := by decide +kernel
theorem d_O_mode_26 : decode prog_1_method_6_code 26 = .ok (.iconst 0, 1) := by decide +kernel
theorem d_O_mode_27 : decode prog_1_method_6_code 27 = .ok (.istore_n 2, 1) := by decide +kernel
theorem d_O_mode_28 : decode prog_1_method_6_code 28 = .ok (.aload_n 0, 1) := by decide +kernel
theorem d_O_mode_29 : decode prog_1_method_6_code 29 = .ok (.invokevirtual 42, 3) := by decide +kernel
theorem d_O_mode_32 : decode prog_1_method_6_code 32 = .ok (.aload_n 0, 1) := by decide +kernel
theorem d_O_mode_33 : decode prog_1_method_6_code 33 = .ok (.getfield 21, 3) := by decide +kernel
theorem d_O_mode_36 : decode prog_1_method_6_code 36 = .ok (.iload_n 1, 1) := by decide +kernel
theorem d_O_mode_37 : decode prog_1_method_6_code 37 = .ok (.iconst 1, 1) := by decide +kernel
theorem d_O_mode_38 : decode prog_1_method_6_code 38 = .ok (.if_icmp .ne 7, 3) := by decide +kernel
theorem d_O_mode_41 : decode prog_1_method_6_code 41 = .ok (.iconst 1, 1) := by decide +kernel
theorem d_O_mode_42 : decode prog_1_method_6_code 42 = .ok (.goto 4, 3) := by decide +kernel
theorem d_O_mode_45 : decode prog_1_method_6_code 45 = .ok (.iconst 0, 1) := by decide +kernel
theorem d_O_mode_46 : decode prog_1_method_6_code 46 = .ok (.putfield 91, 3) := by decide +kernel
theorem d_O_mode_49 : decode prog_1_method_6_code 49 = .ok (.iload_n 2, 1) := by decide +kernel
theorem d_O_mode_50 : decode prog_1_method_6_code 50 = .ok (.ireturn, 1) := by decide +kernel
theorem d_O_clear_0 : decode prog_1_method_7_code 0 = .ok (.aload_n 0, 1) := by decide +kernel
theorem d_O_clear_1 : decode prog_1_method_7_code 1 = .ok (.getfield 12, 3) := by decide +kernel
theorem d_O_clear_4 : decode prog_1_method_7_code 4 = .ok (.getfield 95, 3) := by decide +kernel
theorem d_O_clear_7 : decode prog_1_method_7_code 7 = .ok (.istore_n 1, 1) := by decide +kernel
theorem d_O_clear_8 : decode prog_1_method_7_code 8 = .ok (.aload_n 0, 1) := by decide +kernel
theorem d_O_clear_9 : decode prog_1_method_7_code 9 = .ok (.invokevirtual 42, 3) := by decide +kernel
theorem d_O_clear_12 : decode prog_1_method_7_code 12 = .ok (.aload_n 0, 1) := by decide +kernel
theorem d_O_clear_13 : decode prog_1_method_7_code 13 = .ok (.getfield 12, 3) := by decide +kernel
theorem d_O_clear_16 : decode prog_1_method_7_code 16 = .ok (.invokevirtual 98, 3) := by decide +kernel
theorem d_O_clear_19 : decode prog_1_method_7_code 19 = .ok (.iload_n 1, 1) := by decide +kernel
theorem d_O_clear_20 : decode prog_1_method_7_code 20 = .ok (.ireturn, 1) := by decide +kernel
theorem d_O_points_0 : decode prog_1_method_8_code 0 = .ok (.aload_n 0, 1) := by decide +kernel
theorem d_O_points_1 : decode prog_1_method_8_code 1 = .ok (.getfield 12, 3) := by decide +kernel
theorem d_O_points_4 : decode prog_1_method_8_code 4 = .ok (.iload_n 1, 1) := by decide +kernel
theorem d_O_points_5 : decode prog_1_method_8_code 5 = .ok (.iload_n 3, 1) := by decide +kernel
theorem d_O_points_6 : decode prog_1_method_8_code 6 = .ok (.invokevirtual 101, 3) := by decide +kernel
theorem d_O_points_9 : decode prog_1_method_8_code 9 = .ok (.ifCond .ne 5, 3) := by decide +kernel
theorem d_O_points_12 : decode prog_1_method_8_code 12 = .ok (.iconst (-1), 1) := by decide +kernel
theorem d_O_points_13 : decode prog_1_method_8_code 13 = .ok (.ireturn, 1) := by decide +kernel
theorem d_O_points_14 : decode prog_1_method_8_code 14 = .ok (.iload_n 2, 1) := by decide +kernel
theorem d_O_points_15 : decode prog_1_method_8_code 15 = .ok (.iconst (-1), 1) := by decide +kernel
theorem d_O_points_16 : decode prog_1_method_8_code 16 = .ok (.if_icmp .eq 16, 3) := by decide +kernel
theorem d_O_points_19 : decode prog_1_method_8_code 19 = .ok (.aload_n 0, 1) := by decide +kernel
theorem d_O_points_20 : decode prog_1_method_8_code 20 = .ok (.getfield 21, 3) := by decide +kernel
theorem d_O_points_23 : decode prog_1_method_8_code 23 = .ok (.iload_n 2, 1) := by decide +kernel
theorem d_O_points_24 : decode prog_1_method_8_code 24 = .ok (.invokevirtual 105, 3) := by decide +kernel
theorem d_O_points_27 : decode prog_1_method_8_code 27 = .ok (.ifCond .ne 5, 3) := by decide +kernel
theorem d_O_points_30 : decode prog_1_method_8_code 30 = .ok (.iconst (-1), 1) := by decide +kernel
theorem d_O_points_31 : decode prog_1_method_8_code 31 = .ok (.ireturn, 1) := by decide +kernel
theorem d_O_points_32 : decode prog_1_method_8_code 32 = .ok (.aload_n 0, 1) := by decide +kernel
theorem d_O_points_33 : decode prog_1_method_8_code 33 = .ok (.getfield 21, 3) := by decide +kernel
theorem d_O_points_36 : decode prog_1_method_8_code 36 = .ok (.invokevirtual 108, 3) := by decide +kernel
theorem d_O_points_39 : decode prog_1_method_8_code 39 = .ok (.iload_n 2, 1) := by decide +kernel
theorem d_O_points_40 : decode prog_1_method_8_code 40 = .ok (.iconst (-1), 1) := by decide +kernel
theorem d_O_points_41 : decode prog_1_method_8_code 41 = .ok (.if_icmp .ne 13, 3) := by decide +kernel
theorem d_O_points_44 : decode prog_1_method_8_code 44 = .ok (.aload_n 0, 1) := by decide +kernel
theorem d_O_points_45 : decode prog_1_method_8_code 45 = .ok (.getfield 21, 3) := by decide +kernel
theorem d_O_points_48 : decode prog_1_method_8_code 48 = .ok (.iload_n 1, 1) := by decide +kernel
theorem d_O_points_49 : decode prog_1_method_8_code 49 = .ok (.iload_n 3, 1) := by decide +kernel
theorem d_O_points_50 : decode prog_1_method_8_code 50 = .ok (.invokevirtual 111, 3) := by decide +kernel
theorem d_O_points_53 : decode prog_1_method_8_code 53 = .ok (.ireturn, 1) := by decide +kernel
theorem d_O_points_54 : decode prog_1_method_8_code 54 = .ok (.aload_n 0, 1) := by decide +kernel
theorem d_O_points_55 : decode prog_1_method_8_code 55 = .ok (.getfield 21, 3) := by decide +kernel
theorem d_O_points_58 : decode prog_1_method_8_code 58 = .ok (.iload_n 1, 1) := by decide +kernel
theorem d_O_points_59 : decode prog_1_method_8_code 59 = .ok (.iload_n 2, 1) := by decide +kernel
theorem d_O_points_60 : decode prog_1_method_8_code 60 = .ok (.invokestatic 114, 3) := by decide +kernel
theorem d_O_points_63 : decode prog_1_method_8_code 63 = .ok (.iload_n 3, 1) := by decide +kernel
theorem d_O_points_64 : decode prog_1_method_8_code 64 = .ok (.iadd, 1) := by decide +kernel
theorem d_O_points_65 : decode prog_1_method_8_code 65 = .ok (.invokevirtual 117, 3) := by decide +kernel
theorem d_O_points_68 : decode prog_1_method_8_code 68 = .ok (.ireturn, 1) := by decide +kernel
theorem d_O_inField_0 : decode prog_1_method_9_code 0 = .ok (.aload_n 0, 1) := by decide +kernel
theorem d_O_inField_1 : decode prog_1_method_9_code 1 = .ok (.getfield 12, 3) := by decide +kernel
theorem d_O_inField_4 : decode prog_1_method_9_code 4 = .ok (.iload_n 1, 1) := by decide +kernel
theorem d_O_inField_5 : decode prog_1_method_9_code 5 = .ok (.invokevirtual 120, 3) := by decide +kernel
theorem d_O_inField_8 : decode prog_1_method_9_code 8 = .ok (.ifCond .eq 14, 3) := by decide +kernel
theorem d_O_inField_11 : decode prog_1_method_9_code 11 = .ok (.aload_n 0, 1) := by decide +kernel
theorem d_O_inField_12 : decode prog_1_method_9_code 12 = .ok (.getfield 12, 3) := by decide +kernel
theorem d_O_inField_15 : decode prog_1_method_9_code 15 = .ok (.iload_n 2, 1) := by decide +kernel
theorem d_O_inField_16 : decode prog_1_method_9_code 16 = .ok (.invokevirtual 123, 3) := by decide +kernel
theorem d_O_inField_19 : decode prog_1_method_9_code 19 = .ok (.ifCond .ne 5, 3) := by decide +kernel
theorem d_O_inField_22 : decode prog_1_method_9_code 22 = .ok (.iconst (-1), 1) := by decide +kernel
theorem d_O_inField_23 : decode prog_1_method_9_code 23 = .ok (.ireturn, 1) := by decide +kernel
theorem d_O_inField_24 : decode prog_1_method_9_code 24 = .ok (.aload_n 0, 1) := by decide +kernel
theorem d_O_inField_25 : decode prog_1_method_9_code 25 = .ok (.getfield 21, 3) := by decide +kernel
theorem d_O_inField_28 : decode prog_1_method_9_code 28 = .ok (.invokevirtual 108, 3) := by decide +kernel
theorem d_O_inField_31 : decode prog_1_method_9_code 31 = .ok (.aload_n 0, 1) := by decide +kernel
theorem d_O_inField_32 : decode prog_1_method_9_code 32 = .ok (.getfield 21, 3) := by decide +kernel
theorem d_O_inField_35 : decode prog_1_method_9_code 35 = .ok (.iload_n 1, 1) := by decide +kernel
theorem d_O_inField_36 : decode prog_1_method_9_code 36 = .ok (.iload_n 2, 1) := by decide +kernel
theorem d_O_inField_37 : decode prog_1_method_9_code 37 = .ok (.invokestatic 126, 3) := by decide +kernel
theorem d_O_inField_40 : decode prog_1_method_9_code 40 = .ok (.invokevirtual 117, 3) := by decide +kernel
theorem d_O_inField_43 : decode prog_1_method_9_code 43 = .ok (.ireturn, 1) := by decide +kernel
theorem d_O_element_0 : decode prog_1_method_10_code 0 = .ok (.aload_n 0, 1) := by decide +kernel
theorem d_O_element_1 : decode prog_1_method_10_code 1 = .ok (.getfield 12, 3) := by decide +kernel
theorem d_O_element_4 : decode prog_1_method_10_code 4 = .ok (.iload_n 1, 1) := by decide +kernel
theorem d_O_element_5 : decode prog_1_method_10_code 5 = .ok (.invokevirtual 120, 3) := by decide +kernel
theorem d_O_element_8 : decode prog_1_method_10_code 8 = .ok (.ifCond .ne 5, 3) := by decide +kernel
theorem d_O_element_11 : decode prog_1_method_10_code 11 = .ok (.iconst (-1), 1) := by decide +kernel
theorem d_O_element_12 : decode prog_1_method_10_code 12 = .ok (.ireturn, 1) := by decide +kernel
theorem d_O_element_13 : decode prog_1_method_10_code 13 = .ok (.aload_n 0, 1) := by decide +kernel
theorem d_O_element_14 : decode prog_1_method_10_code 14 = .ok (.getfield 21, 3) := by decide +kernel
theorem d_O_element_17 : decode prog_1_method_10_code 17 = .ok (.invokevirtual 108, 3) := by decide +kernel
theorem d_O_element_20 : decode prog_1_method_10_code 20 = .ok (.aload_n 0, 1) := by decide +kernel
theorem d_O_element_21 : decode prog_1_method_10_code 21 = .ok (.getfield 21, 3) := by decide +kernel
theorem d_O_element_24 : decode prog_1_method_10_code 24 = .ok (.iload_n 1, 1) := by decide +kernel
theorem d_O_element_25 : decode prog_1_method_10_code 25 = .ok (.bipush 8, 2) := by decide +kernel
theorem d_O_element_27 : decode prog_1_method_10_code 27 = .ok (.invokestatic 126, 3) := by decide +kernel
theorem d_O_element_30 : decode prog_1_method_10_code 30 = .ok (.invokevirtual 117, 3) := by decide +kernel
theorem d_O_element_33 : decode prog_1_method_10_code 33 = .ok (.ireturn, 1) := by decide +kernel
theorem d_O_inStatic_0 : decode prog_1_method_11_code 0 = .ok (.iload_n 1, 1) := by decide +kernel
theorem d_O_inStatic_1 : decode prog_1_method_11_code 1 = .ok (.invokestatic 129, 3) := by decide +kernel
theorem d_O_inStatic_4 : decode prog_1_method_11_code 4 = .ok (.ifCond .ne 5, 3) := by decide +kernel
theorem d_O_inStatic_7 : decode prog_1_method_11_code 7 = .ok (.iconst (-1), 1) := by decide +kernel
theorem d_O_inStatic_8 : decode prog_1_method_11_code 8 = .ok (.ireturn, 1) := by decide +kernel
theorem d_O_inStatic_9 : decode prog_1_method_11_code 9 = .ok (.aload_n 0, 1) := by decide +kernel
theorem d_O_inStatic_10 : decode prog_1_method_11_code 10 = .ok (.getfield 21, 3) := by decide +kernel
theorem d_O_inStatic_13 : decode prog_1_method_11_code 13 = .ok (.invokevirtual 108, 3) := by decide +kernel
theorem d_O_inStatic_16 : decode prog_1_method_11_code 16 = .ok (.aload_n 0, 1) := by decide +kernel
theorem d_O_inStatic_17 : decode prog_1_method_11_code 17 = .ok (.getfield 21, 3) := by decide +kernel
theorem d_O_inStatic_20 : decode prog_1_method_11_code 20 = .ok (.sipush 1440, 3) := by decide +kernel
theorem d_O_inStatic_23 : decode prog_1_method_11_code 23 = .ok (.iload_n 1, 1) := by decide +kernel
theorem d_O_inStatic_24 : decode prog_1_method_11_code 24 = .ok (.iadd, 1) := by decide +kernel
theorem d_O_inStatic_25 : decode prog_1_method_11_code 25 = .ok (.invokevirtual 117, 3) := by decide +kernel
theorem d_O_inStatic_28 : decode prog_1_method_11_code 28 = .ok (.ireturn, 1) := by decide +kernel
theorem d_O_reached_0 : decode prog_1_method_12_code 0 = .ok (.aload_n 0, 1) := by decide +kernel
theorem d_O_reached_1 : decode prog_1_method_12_code 1 = .ok (.getfield 12, 3) := by decide +kernel
theorem d_O_reached_4 : decode prog_1_method_12_code 4 = .ok (.iload_n 1, 1) := by decide +kernel
theorem d_O_reached_5 : decode prog_1_method_12_code 5 = .ok (.invokevirtual 68, 3) := by decide +kernel
theorem d_O_reached_8 : decode prog_1_method_12_code 8 = .ok (.ifCond .ne 5, 3) := by decide +kernel
theorem d_O_reached_11 : decode prog_1_method_12_code 11 = .ok (.iconst (-1), 1) := by decide +kernel
theorem d_O_reached_12 : decode prog_1_method_12_code 12 = .ok (.ireturn, 1) := by decide +kernel
theorem d_O_reached_13 : decode prog_1_method_12_code 13 = .ok (.aload_n 0, 1) := by decide +kernel
theorem d_O_reached_14 : decode prog_1_method_12_code 14 = .ok (.getfield 21, 3) := by decide +kernel
theorem d_O_reached_17 : decode prog_1_method_12_code 17 = .ok (.invokevirtual 108, 3) := by decide +kernel
theorem d_O_reached_20 : decode prog_1_method_12_code 20 = .ok (.aload_n 0, 1) := by decide +kernel
theorem d_O_reached_21 : decode prog_1_method_12_code 21 = .ok (.getfield 21, 3) := by decide +kernel
theorem d_O_reached_24 : decode prog_1_method_12_code 24 = .ok (.sipush 1444, 3) := by decide +kernel
theorem d_O_reached_27 : decode prog_1_method_12_code 27 = .ok (.iload_n 1, 1) := by decide +kernel
theorem d_O_reached_28 : decode prog_1_method_12_code 28 = .ok (.iadd, 1) := by decide +kernel
theorem d_O_reached_29 : decode prog_1_method_12_code 29 = .ok (.invokevirtual 117, 3) := by decide +kernel
theorem d_O_reached_32 : decode prog_1_method_12_code 32 = .ok (.invokestatic 132, 3) := by decide +kernel
theorem d_O_reached_35 : decode prog_1_method_12_code 35 = .ok (.ireturn, 1) := by decide +kernel
theorem d_O_may_0 : decode prog_1_method_13_code 0 = .ok (.aload_n 0, 1) := by decide +kernel
theorem d_O_may_1 : decode prog_1_method_13_code 1 = .ok (.getfield 12, 3) := by decide +kernel
theorem d_O_may_4 : decode prog_1_method_13_code 4 = .ok (.iload_n 1, 1) := by decide +kernel
theorem d_O_may_5 : decode prog_1_method_13_code 5 = .ok (.invokevirtual 137, 3) := by decide +kernel
theorem d_O_may_8 : decode prog_1_method_13_code 8 = .ok (.ifCond .ne 5, 3) := by decide +kernel
theorem d_O_may_11 : decode prog_1_method_13_code 11 = .ok (.iconst (-1), 1) := by decide +kernel
theorem d_O_may_12 : decode prog_1_method_13_code 12 = .ok (.ireturn, 1) := by decide +kernel
theorem d_O_may_13 : decode prog_1_method_13_code 13 = .ok (.aload_n 0, 1) := by decide +kernel
theorem d_O_may_14 : decode prog_1_method_13_code 14 = .ok (.getfield 12, 3) := by decide +kernel
theorem d_O_may_17 : decode prog_1_method_13_code 17 = .ok (.getfield 140, 3) := by decide +kernel
theorem d_O_may_20 : decode prog_1_method_13_code 20 = .ok (.iload_n 1, 1) := by decide +kernel
theorem d_O_may_21 : decode prog_1_method_13_code 21 = .ok (.aaload, 1) := by decide +kernel
theorem d_O_may_22 : decode prog_1_method_13_code 22 = .ok (.astore_n 2, 1) := by decide +kernel
theorem d_O_may_23 : decode prog_1_method_13_code 23 = .ok (.aload_n 2, 1) := by decide +kernel
theorem d_O_may_24 : decode prog_1_method_13_code 24 = .ok (.getfield 144, 3) := by decide +kernel
theorem d_O_may_27 : decode prog_1_method_13_code 27 = .ok (.bipush 7, 2) := by decide +kernel
theorem d_O_may_29 : decode prog_1_method_13_code 29 = .ok (.if_icmp .eq 14, 3) := by decide +kernel
theorem d_O_may_32 : decode prog_1_method_13_code 32 = .ok (.aload_n 2, 1) := by decide +kernel
theorem d_O_may_33 : decode prog_1_method_13_code 33 = .ok (.getfield 144, 3) := by decide +kernel
theorem d_O_may_36 : decode prog_1_method_13_code 36 = .ok (.iconst 4, 1) := by decide +kernel
theorem d_O_may_37 : decode prog_1_method_13_code 37 = .ok (.if_icmp .eq 6, 3) := by decide +kernel
theorem d_O_may_40 : decode prog_1_method_13_code 40 = .ok (.bipush (-3), 2) := by decide +kernel
theorem d_O_may_42 : decode prog_1_method_13_code 42 = .ok (.ireturn, 1) := by decide +kernel
theorem d_O_may_43 : decode prog_1_method_13_code 43 = .ok (.aload_n 0, 1) := by decide +kernel
theorem d_O_may_44 : decode prog_1_method_13_code 44 = .ok (.getfield 21, 3) := by decide +kernel
theorem d_O_may_47 : decode prog_1_method_13_code 47 = .ok (.invokevirtual 108, 3) := by decide +kernel
theorem d_O_may_50 : decode prog_1_method_13_code 50 = .ok (.aload_n 0, 1) := by decide +kernel
theorem d_O_may_51 : decode prog_1_method_13_code 51 = .ok (.getfield 21, 3) := by decide +kernel
theorem d_O_may_54 : decode prog_1_method_13_code 54 = .ok (.aload_n 2, 1) := by decide +kernel
theorem d_O_may_55 : decode prog_1_method_13_code 55 = .ok (.getfield 147, 3) := by decide +kernel
theorem d_O_may_58 : decode prog_1_method_13_code 58 = .ok (.aload_n 2, 1) := by decide +kernel
theorem d_O_may_59 : decode prog_1_method_13_code 59 = .ok (.getfield 150, 3) := by decide +kernel
theorem d_O_may_62 : decode prog_1_method_13_code 62 = .ok (.invokevirtual 111, 3) := by decide +kernel
theorem d_O_may_65 : decode prog_1_method_13_code 65 = .ok (.istore_n 3, 1) := by decide +kernel
theorem d_O_may_66 : decode prog_1_method_13_code 66 = .ok (.aload_n 2, 1) := by decide +kernel
theorem d_O_may_67 : decode prog_1_method_13_code 67 = .ok (.getfield 144, 3) := by decide +kernel
theorem d_O_may_70 : decode prog_1_method_13_code 70 = .ok (.bipush 7, 2) := by decide +kernel
theorem d_O_may_72 : decode prog_1_method_13_code 72 = .ok (.if_icmp .ne 16, 3) := by decide +kernel
theorem d_O_may_75 : decode prog_1_method_13_code 75 = .ok (.aload_n 0, 1) := by decide +kernel
theorem d_O_may_76 : decode prog_1_method_13_code 76 = .ok (.getfield 12, 3) := by decide +kernel
theorem d_O_may_79 : decode prog_1_method_13_code 79 = .ok (.iload_n 3, 1) := by decide +kernel
theorem d_O_may_80 : decode prog_1_method_13_code 80 = .ok (.aload_n 2, 1) := by decide +kernel
theorem d_O_may_81 : decode prog_1_method_13_code 81 = .ok (.getfield 153, 3) := by decide +kernel
theorem d_O_may_84 : decode prog_1_method_13_code 84 = .ok (.invokevirtual 156, 3) := by decide +kernel
theorem d_O_may_87 : decode prog_1_method_13_code 87 = .ok (.ireturn, 1) := by decide +kernel
theorem d_O_may_88 : decode prog_1_method_13_code 88 = .ok (.iload_n 3, 1) := by decide +kernel
theorem d_O_may_89 : decode prog_1_method_13_code 89 = .ok (.aload_n 0, 1) := by decide +kernel
theorem d_O_may_90 : decode prog_1_method_13_code 90 = .ok (.getfield 12, 3) := by decide +kernel
theorem d_O_may_93 : decode prog_1_method_13_code 93 = .ok (.getfield 159, 3) := by decide +kernel
theorem d_O_may_96 : decode prog_1_method_13_code 96 = .ok (.aload_n 2, 1) := by decide +kernel
theorem d_O_may_97 : decode prog_1_method_13_code 97 = .ok (.getfield 153, 3) := by decide +kernel
theorem d_O_may_100 : decode prog_1_method_13_code 100 = .ok (.iaload, 1) := by decide +kernel
theorem d_O_may_101 : decode prog_1_method_13_code 101 = .ok (.iconst (-1), 1) := by decide +kernel
theorem d_O_may_102 : decode prog_1_method_13_code 102 = .ok (.ixor, 1) := by decide +kernel
theorem d_O_may_103 : decode prog_1_method_13_code 103 = .ok (.iand, 1) := by decide +kernel
theorem d_O_may_104 : decode prog_1_method_13_code 104 = .ok (.ireturn, 1) := by decide +kernel
theorem d_O_alias_0 : decode prog_1_method_14_code 0 = .ok (.aload_n 0, 1) := by decide +kernel
theorem d_O_alias_1 : decode prog_1_method_14_code 1 = .ok (.getfield 12, 3) := by decide +kernel
theorem d_O_alias_4 : decode prog_1_method_14_code 4 = .ok (.iload_n 1, 1) := by decide +kernel
theorem d_O_alias_5 : decode prog_1_method_14_code 5 = .ok (.iload_n 2, 1) := by decide +kernel
theorem d_O_alias_6 : decode prog_1_method_14_code 6 = .ok (.invokevirtual 101, 3) := by decide +kernel
theorem d_O_alias_9 : decode prog_1_method_14_code 9 = .ok (.ifCond .eq 16, 3) := by decide +kernel
theorem d_O_alias_12 : decode prog_1_method_14_code 12 = .ok (.aload_n 0, 1) := by decide +kernel
theorem d_O_alias_13 : decode prog_1_method_14_code 13 = .ok (.getfield 12, 3) := by decide +kernel
theorem d_O_alias_16 : decode prog_1_method_14_code 16 = .ok (.iload_n 3, 1) := by decide +kernel
theorem d_O_alias_17 : decode prog_1_method_14_code 17 = .ok (.iload 4, 2) := by decide +kernel
theorem d_O_alias_19 : decode prog_1_method_14_code 19 = .ok (.invokevirtual 101, 3) := by decide +kernel
theorem d_O_alias_22 : decode prog_1_method_14_code 22 = .ok (.ifCond .ne 5, 3) := by decide +kernel
theorem d_O_alias_25 : decode prog_1_method_14_code 25 = .ok (.iconst (-1), 1) := by decide +kernel
theorem d_O_alias_26 : decode prog_1_method_14_code 26 = .ok (.ireturn, 1) := by decide +kernel
theorem d_O_alias_27 : decode prog_1_method_14_code 27 = .ok (.aload_n 0, 1) := by decide +kernel
theorem d_O_alias_28 : decode prog_1_method_14_code 28 = .ok (.getfield 21, 3) := by decide +kernel
theorem d_O_alias_31 : decode prog_1_method_14_code 31 = .ok (.invokevirtual 108, 3) := by decide +kernel
theorem d_O_alias_34 : decode prog_1_method_14_code 34 = .ok (.aload_n 0, 1) := by decide +kernel
theorem d_O_alias_35 : decode prog_1_method_14_code 35 = .ok (.getfield 21, 3) := by decide +kernel
theorem d_O_alias_38 : decode prog_1_method_14_code 38 = .ok (.iload_n 1, 1) := by decide +kernel
theorem d_O_alias_39 : decode prog_1_method_14_code 39 = .ok (.iload_n 2, 1) := by decide +kernel
theorem d_O_alias_40 : decode prog_1_method_14_code 40 = .ok (.invokevirtual 111, 3) := by decide +kernel
theorem d_O_alias_43 : decode prog_1_method_14_code 43 = .ok (.aload_n 0, 1) := by decide +kernel
theorem d_O_alias_44 : decode prog_1_method_14_code 44 = .ok (.getfield 21, 3) := by decide +kernel
theorem d_O_alias_47 : decode prog_1_method_14_code 47 = .ok (.iload_n 3, 1) := by decide +kernel
theorem d_O_alias_48 : decode prog_1_method_14_code 48 = .ok (.iload 4, 2) := by decide +kernel
theorem d_O_alias_50 : decode prog_1_method_14_code 50 = .ok (.invokevirtual 111, 3) := by decide +kernel
theorem d_O_alias_53 : decode prog_1_method_14_code 53 = .ok (.iand, 1) := by decide +kernel
theorem d_O_alias_54 : decode prog_1_method_14_code 54 = .ok (.istore 5, 2) := by decide +kernel
theorem d_O_alias_56 : decode prog_1_method_14_code 56 = .ok (.iload 5, 2) := by decide +kernel
theorem d_O_alias_58 : decode prog_1_method_14_code 58 = .ok (.ifCond .eq 7, 3) := by decide +kernel
theorem d_O_alias_61 : decode prog_1_method_14_code 61 = .ok (.iconst 1, 1) := by decide +kernel
theorem d_O_alias_62 : decode prog_1_method_14_code 62 = .ok (.goto 4, 3) := by decide +kernel
theorem d_O_alias_65 : decode prog_1_method_14_code 65 = .ok (.iconst 0, 1) := by decide +kernel
theorem d_O_alias_66 : decode prog_1_method_14_code 66 = .ok (.ireturn, 1) := by decide +kernel
theorem d_O_rounds_0 : decode prog_1_method_15_code 0 = .ok (.aload_n 0, 1) := by decide +kernel
theorem d_O_rounds_1 : decode prog_1_method_15_code 1 = .ok (.getfield 21, 3) := by decide +kernel
theorem d_O_rounds_4 : decode prog_1_method_15_code 4 = .ok (.invokevirtual 108, 3) := by decide +kernel
theorem d_O_rounds_7 : decode prog_1_method_15_code 7 = .ok (.aload_n 0, 1) := by decide +kernel
theorem d_O_rounds_8 : decode prog_1_method_15_code 8 = .ok (.getfield 21, 3) := by decide +kernel
theorem d_O_rounds_11 : decode prog_1_method_15_code 11 = .ok (.getfield 163, 3) := by decide +kernel
theorem d_O_rounds_14 : decode prog_1_method_15_code 14 = .ok (.ireturn, 1) := by decide +kernel
theorem d_O_when_0 : decode prog_1_method_16_code 0 = .ok (.aload_n 0, 1) := by decide +kernel
theorem d_O_when_1 : decode prog_1_method_16_code 1 = .ok (.getfield 12, 3) := by decide +kernel
theorem d_O_when_4 : decode prog_1_method_16_code 4 = .ok (.iload_n 1, 1) := by decide +kernel
theorem d_O_when_5 : decode prog_1_method_16_code 5 = .ok (.iload_n 2, 1) := by decide +kernel
theorem d_O_when_6 : decode prog_1_method_16_code 6 = .ok (.invokevirtual 101, 3) := by decide +kernel
theorem d_O_when_9 : decode prog_1_method_16_code 9 = .ok (.ifCond .eq 14, 3) := by decide +kernel
theorem d_O_when_12 : decode prog_1_method_16_code 12 = .ok (.aload_n 0, 1) := by decide +kernel
theorem d_O_when_13 : decode prog_1_method_16_code 13 = .ok (.getfield 12, 3) := by decide +kernel
theorem d_O_when_16 : decode prog_1_method_16_code 16 = .ok (.iload_n 3, 1) := by decide +kernel
theorem d_O_when_17 : decode prog_1_method_16_code 17 = .ok (.invokevirtual 120, 3) := by decide +kernel
theorem d_O_when_20 : decode prog_1_method_16_code 20 = .ok (.ifCond .ne 5, 3) := by decide +kernel
theorem d_O_when_23 : decode prog_1_method_16_code 23 = .ok (.iconst (-1), 1) := by decide +kernel
theorem d_O_when_24 : decode prog_1_method_16_code 24 = .ok (.ireturn, 1) := by decide +kernel
theorem d_O_when_25 : decode prog_1_method_16_code 25 = .ok (.aload_n 0, 1) := by decide +kernel
theorem d_O_when_26 : decode prog_1_method_16_code 26 = .ok (.getfield 21, 3) := by decide +kernel
theorem d_O_when_29 : decode prog_1_method_16_code 29 = .ok (.invokevirtual 108, 3) := by decide +kernel
theorem d_O_when_32 : decode prog_1_method_16_code 32 = .ok (.aload_n 0, 1) := by decide +kernel
theorem d_O_when_33 : decode prog_1_method_16_code 33 = .ok (.getfield 21, 3) := by decide +kernel
theorem d_O_when_36 : decode prog_1_method_16_code 36 = .ok (.iload_n 1, 1) := by decide +kernel
theorem d_O_when_37 : decode prog_1_method_16_code 37 = .ok (.iload_n 2, 1) := by decide +kernel
theorem d_O_when_38 : decode prog_1_method_16_code 38 = .ok (.iload_n 3, 1) := by decide +kernel
theorem d_O_when_39 : decode prog_1_method_16_code 39 = .ok (.invokevirtual 166, 3) := by decide +kernel
theorem d_O_when_42 : decode prog_1_method_16_code 42 = .ok (.istore 4, 2) := by decide +kernel
theorem d_O_when_44 : decode prog_1_method_16_code 44 = .ok (.iload 4, 2) := by decide +kernel
theorem d_O_when_46 : decode prog_1_method_16_code 46 = .ok (.ifCond .ne 8, 3) := by decide +kernel
theorem d_O_when_49 : decode prog_1_method_16_code 49 = .ok (.bipush (-3), 2) := by decide +kernel
theorem d_O_when_51 : decode prog_1_method_16_code 51 = .ok (.goto 5, 3) := by decide +kernel
theorem d_O_when_54 : decode prog_1_method_16_code 54 = .ok (.iload 4, 2) := by decide +kernel
theorem d_O_when_56 : decode prog_1_method_16_code 56 = .ok (.ireturn, 1) := by decide +kernel
theorem d_O_run_0 : decode prog_1_method_17_code 0 = .ok (.iload_n 2, 1) := by decide +kernel
theorem d_O_run_1 : decode prog_1_method_17_code 1 = .ok (.ifCond .lt 10, 3) := by decide +kernel
theorem d_O_run_4 : decode prog_1_method_17_code 4 = .ok (.iload_n 2, 1) := by decide +kernel
theorem d_O_run_5 : decode prog_1_method_17_code 5 = .ok (.sipush 300, 3) := by decide +kernel
theorem d_O_run_8 : decode prog_1_method_17_code 8 = .ok (.if_icmp .le 6, 3) := by decide +kernel
theorem d_O_run_11 : decode prog_1_method_17_code 11 = .ok (.bipush (-2), 2) := by decide +kernel
theorem d_O_run_13 : decode prog_1_method_17_code 13 = .ok (.ireturn, 1) := by decide +kernel
theorem d_O_run_14 : decode prog_1_method_17_code 14 = .ok (.aload_n 0, 1) := by decide +kernel
theorem d_O_run_15 : decode prog_1_method_17_code 15 = .ok (.getfield 12, 3) := by decide +kernel
theorem d_O_run_18 : decode prog_1_method_17_code 18 = .ok (.getfield 62, 3) := by decide +kernel
theorem d_O_run_21 : decode prog_1_method_17_code 21 = .ok (.ifCond .ne 6, 3) := by decide +kernel
theorem d_O_run_24 : decode prog_1_method_17_code 24 = .ok (.bipush (-3), 2) := by decide +kernel
theorem d_O_run_26 : decode prog_1_method_17_code 26 = .ok (.ireturn, 1) := by decide +kernel
theorem d_O_run_27 : decode prog_1_method_17_code 27 = .ok (.aload_n 0, 1) := by decide +kernel
theorem d_O_run_28 : decode prog_1_method_17_code 28 = .ok (.getfield 21, 3) := by decide +kernel
theorem d_O_run_31 : decode prog_1_method_17_code 31 = .ok (.invokevirtual 108, 3) := by decide +kernel
theorem d_O_run_34 : decode prog_1_method_17_code 34 = .ok (.aload_n 0, 1) := by decide +kernel
theorem d_O_run_35 : decode prog_1_method_17_code 35 = .ok (.getfield 30, 3) := by decide +kernel
theorem d_O_run_38 : decode prog_1_method_17_code 38 = .ok (.iload_n 1, 1) := by decide +kernel
theorem d_O_run_39 : decode prog_1_method_17_code 39 = .ok (.iload_n 2, 1) := by decide +kernel
theorem d_O_run_40 : decode prog_1_method_17_code 40 = .ok (.invokevirtual 170, 3) := by decide +kernel
theorem d_O_run_43 : decode prog_1_method_17_code 43 = .ok (.ifCond .eq 7, 3) := by decide +kernel
theorem d_O_run_46 : decode prog_1_method_17_code 46 = .ok (.iconst 1, 1) := by decide +kernel
theorem d_O_run_47 : decode prog_1_method_17_code 47 = .ok (.goto 4, 3) := by decide +kernel
theorem d_O_run_50 : decode prog_1_method_17_code 50 = .ok (.iconst 0, 1) := by decide +kernel
theorem d_O_run_51 : decode prog_1_method_17_code 51 = .ok (.ireturn, 1) := by decide +kernel
theorem d_O_met_0 : decode prog_1_method_18_code 0 = .ok (.aload_n 0, 1) := by decide +kernel
theorem d_O_met_1 : decode prog_1_method_18_code 1 = .ok (.getfield 12, 3) := by decide +kernel
theorem d_O_met_4 : decode prog_1_method_18_code 4 = .ok (.iload_n 1, 1) := by decide +kernel
theorem d_O_met_5 : decode prog_1_method_18_code 5 = .ok (.iload_n 2, 1) := by decide +kernel
theorem d_O_met_6 : decode prog_1_method_18_code 6 = .ok (.invokevirtual 101, 3) := by decide +kernel
theorem d_O_met_9 : decode prog_1_method_18_code 9 = .ok (.ifCond .ne 5, 3) := by decide +kernel
theorem d_O_met_12 : decode prog_1_method_18_code 12 = .ok (.iconst (-1), 1) := by decide +kernel
theorem d_O_met_13 : decode prog_1_method_18_code 13 = .ok (.ireturn, 1) := by decide +kernel
theorem d_O_met_14 : decode prog_1_method_18_code 14 = .ok (.aload_n 0, 1) := by decide +kernel
theorem d_O_met_15 : decode prog_1_method_18_code 15 = .ok (.getfield 30, 3) := by decide +kernel
theorem d_O_met_18 : decode prog_1_method_18_code 18 = .ok (.getfield 173, 3) := by decide +kernel
theorem d_O_met_21 : decode prog_1_method_18_code 21 = .ok (.iload_n 1, 1) := by decide +kernel
theorem d_O_met_22 : decode prog_1_method_18_code 22 = .ok (.bipush 6, 2) := by decide +kernel
theorem d_O_met_24 : decode prog_1_method_18_code 24 = .ok (.imul, 1) := by decide +kernel
theorem d_O_met_25 : decode prog_1_method_18_code 25 = .ok (.iload_n 2, 1) := by decide +kernel
theorem d_O_met_26 : decode prog_1_method_18_code 26 = .ok (.iadd, 1) := by decide +kernel
theorem d_O_met_27 : decode prog_1_method_18_code 27 = .ok (.iaload, 1) := by decide +kernel
theorem d_O_met_28 : decode prog_1_method_18_code 28 = .ok (.ireturn, 1) := by decide +kernel
theorem d_O_ran_0 : decode prog_1_method_19_code 0 = .ok (.iload_n 1, 1) := by decide +kernel
theorem d_O_ran_1 : decode prog_1_method_19_code 1 = .ok (.tableswitch 51 0 2 #[27, 35, 43], 27) := by decide +kernel
theorem d_O_ran_28 : decode prog_1_method_19_code 28 = .ok (.aload_n 0, 1) := by decide +kernel
theorem d_O_ran_29 : decode prog_1_method_19_code 29 = .ok (.getfield 30, 3) := by decide +kernel
theorem d_O_ran_32 : decode prog_1_method_19_code 32 = .ok (.getfield 176, 3) := by decide +kernel
theorem d_O_ran_35 : decode prog_1_method_19_code 35 = .ok (.ireturn, 1) := by decide +kernel
theorem d_O_ran_36 : decode prog_1_method_19_code 36 = .ok (.aload_n 0, 1) := by decide +kernel
theorem d_O_ran_37 : decode prog_1_method_19_code 37 = .ok (.getfield 30, 3) := by decide +kernel
theorem d_O_ran_40 : decode prog_1_method_19_code 40 = .ok (.getfield 179, 3) := by decide +kernel
theorem d_O_ran_43 : decode prog_1_method_19_code 43 = .ok (.ireturn, 1) := by decide +kernel
theorem d_O_ran_44 : decode prog_1_method_19_code 44 = .ok (.aload_n 0, 1) := by decide +kernel
theorem d_O_ran_45 : decode prog_1_method_19_code 45 = .ok (.getfield 30, 3) := by decide +kernel
theorem d_O_ran_48 : decode prog_1_method_19_code 48 = .ok (.getfield 182, 3) := by decide +kernel
theorem d_O_ran_51 : decode prog_1_method_19_code 51 = .ok (.ireturn, 1) := by decide +kernel
theorem d_O_ran_52 : decode prog_1_method_19_code 52 = .ok (.bipush (-2), 2) := by decide +kernel
theorem d_O_ran_54 : decode prog_1_method_19_code 54 = .ok (.ireturn, 1) := by decide +kernel
theorem d_O_forgetAnswers_0 : decode prog_1_method_20_code 0 = .ok (.aload_n 0, 1) := by decide +kernel
theorem d_O_forgetAnswers_1 : decode prog_1_method_20_code 1 = .ok (.getfield 21, 3) := by decide +kernel
theorem d_O_forgetAnswers_4 : decode prog_1_method_20_code 4 = .ok (.iconst 0, 1) := by decide +kernel
theorem d_O_forgetAnswers_5 : decode prog_1_method_20_code 5 = .ok (.putfield 185, 3) := by decide +kernel
theorem d_O_forgetAnswers_8 : decode prog_1_method_20_code 8 = .ok (.aload_n 0, 1) := by decide +kernel
theorem d_O_forgetAnswers_9 : decode prog_1_method_20_code 9 = .ok (.getfield 30, 3) := by decide +kernel
theorem d_O_forgetAnswers_12 : decode prog_1_method_20_code 12 = .ok (.invokevirtual 188, 3) := by decide +kernel
theorem d_O_forgetAnswers_15 : decode prog_1_method_20_code 15 = .ok (.return_, 1) := by decide +kernel
theorem d_O_isName_0 : decode prog_1_method_21_code 0 = .ok (.iload_n 0, 1) := by decide +kernel
theorem d_O_isName_1 : decode prog_1_method_21_code 1 = .ok (.ifCond .lt 13, 3) := by decide +kernel
theorem d_O_isName_4 : decode prog_1_method_21_code 4 = .ok (.iload_n 0, 1) := by decide +kernel
theorem d_O_isName_5 : decode prog_1_method_21_code 5 = .ok (.bipush 6, 2) := by decide +kernel
theorem d_O_isName_7 : decode prog_1_method_21_code 7 = .ok (.if_icmp .ge 7, 3) := by decide +kernel
theorem d_O_isName_10 : decode prog_1_method_21_code 10 = .ok (.iconst 1, 1) := by decide +kernel
theorem d_O_isName_11 : decode prog_1_method_21_code 11 = .ok (.goto 4, 3) := by decide +kernel
theorem d_O_isName_14 : decode prog_1_method_21_code 14 = .ok (.iconst 0, 1) := by decide +kernel
theorem d_O_isName_15 : decode prog_1_method_21_code 15 = .ok (.ireturn, 1) := by decide +kernel
theorem d_O_isStatic_0 : decode prog_1_method_22_code 0 = .ok (.iload_n 0, 1) := by decide +kernel
theorem d_O_isStatic_1 : decode prog_1_method_22_code 1 = .ok (.ifCond .lt 12, 3) := by decide +kernel
theorem d_O_isStatic_4 : decode prog_1_method_22_code 4 = .ok (.iload_n 0, 1) := by decide +kernel
theorem d_O_isStatic_5 : decode prog_1_method_22_code 5 = .ok (.iconst 4, 1) := by decide +kernel
theorem d_O_isStatic_6 : decode prog_1_method_22_code 6 = .ok (.if_icmp .ge 7, 3) := by decide +kernel
theorem d_O_isStatic_9 : decode prog_1_method_22_code 9 = .ok (.iconst 1, 1) := by decide +kernel
theorem d_O_isStatic_10 : decode prog_1_method_22_code 10 = .ok (.goto 4, 3) := by decide +kernel
theorem d_O_isStatic_13 : decode prog_1_method_22_code 13 = .ok (.iconst 0, 1) := by decide +kernel
theorem d_O_isStatic_14 : decode prog_1_method_22_code 14 = .ok (.ireturn, 1) := by decide +kernel
theorem d_O_isSignature_0 : decode prog_1_method_23_code 0 = .ok (.iload_n 0, 1) := by decide +kernel
theorem d_O_isSignature_1 : decode prog_1_method_23_code 1 = .ok (.ifCond .lt 12, 3) := by decide +kernel
theorem d_O_isSignature_4 : decode prog_1_method_23_code 4 = .ok (.iload_n 0, 1) := by decide +kernel
theorem d_O_isSignature_5 : decode prog_1_method_23_code 5 = .ok (.iconst 4, 1) := by decide +kernel
theorem d_O_isSignature_6 : decode prog_1_method_23_code 6 = .ok (.if_icmp .ge 7, 3) := by decide +kernel
theorem d_O_isSignature_9 : decode prog_1_method_23_code 9 = .ok (.iconst 1, 1) := by decide +kernel
theorem d_O_isSignature_10 : decode prog_1_method_23_code 10 = .ok (.goto 4, 3) := by decide +kernel
theorem d_O_isSignature_13 : decode prog_1_method_23_code 13 = .ok (.iconst 0, 1) := by decide +kernel
theorem d_O_isSignature_14 : decode prog_1_method_23_code 14 = .ok (.ireturn, 1) := by decide +kernel
theorem d_O_hasBit_0 : decode prog_1_method_24_code 0 = .ok (.iload_n 0, 1) := by decide +kernel
theorem d_O_hasBit_1 : decode prog_1_method_24_code 1 = .ok (.iload_n 1, 1) := by decide +kernel
theorem d_O_hasBit_2 : decode prog_1_method_24_code 2 = .ok (.iushr, 1) := by decide +kernel
theorem d_O_hasBit_3 : decode prog_1_method_24_code 3 = .ok (.iconst 1, 1) := by decide +kernel
theorem d_O_hasBit_4 : decode prog_1_method_24_code 4 = .ok (.iand, 1) := by decide +kernel
theorem d_O_hasBit_5 : decode prog_1_method_24_code 5 = .ok (.ifCond .eq 7, 3) := by decide +kernel
theorem d_O_hasBit_8 : decode prog_1_method_24_code 8 = .ok (.iconst 1, 1) := by decide +kernel
theorem d_O_hasBit_9 : decode prog_1_method_24_code 9 = .ok (.goto 4, 3) := by decide +kernel
theorem d_O_hasBit_12 : decode prog_1_method_24_code 12 = .ok (.iconst 0, 1) := by decide +kernel
theorem d_O_hasBit_13 : decode prog_1_method_24_code 13 = .ok (.ireturn, 1) := by decide +kernel
theorem d_O_namesOf_0 : decode prog_1_method_25_code 0 = .ok (.iload_n 0, 1) := by decide +kernel
theorem d_O_namesOf_1 : decode prog_1_method_25_code 1 = .ok (.bipush 21, 2) := by decide +kernel
theorem d_O_namesOf_3 : decode prog_1_method_25_code 3 = .ok (.imul, 1) := by decide +kernel
theorem d_O_namesOf_4 : decode prog_1_method_25_code 4 = .ok (.iload_n 1, 1) := by decide +kernel
theorem d_O_namesOf_5 : decode prog_1_method_25_code 5 = .ok (.iadd, 1) := by decide +kernel
theorem d_O_namesOf_6 : decode prog_1_method_25_code 6 = .ok (.bipush 6, 2) := by decide +kernel
theorem d_O_namesOf_8 : decode prog_1_method_25_code 8 = .ok (.imul, 1) := by decide +kernel
theorem d_O_namesOf_9 : decode prog_1_method_25_code 9 = .ok (.ireturn, 1) := by decide +kernel
theorem d_O_slotPlace_0 : decode prog_1_method_26_code 0 = .ok (.sipush 1260, 3) := by decide +kernel
theorem d_O_slotPlace_3 : decode prog_1_method_26_code 3 = .ok (.iload_n 0, 1) := by decide +kernel
theorem d_O_slotPlace_4 : decode prog_1_method_26_code 4 = .ok (.bipush 9, 2) := by decide +kernel
theorem d_O_slotPlace_6 : decode prog_1_method_26_code 6 = .ok (.imul, 1) := by decide +kernel
theorem d_O_slotPlace_7 : decode prog_1_method_26_code 7 = .ok (.iadd, 1) := by decide +kernel
theorem d_O_slotPlace_8 : decode prog_1_method_26_code 8 = .ok (.iload_n 1, 1) := by decide +kernel
theorem d_O_slotPlace_9 : decode prog_1_method_26_code 9 = .ok (.iadd, 1) := by decide +kernel
theorem d_O_slotPlace_10 : decode prog_1_method_26_code 10 = .ok (.ireturn, 1) := by decide +kernel
theorem d_M_isClass_0 : decode prog_7_method_2_code 0 = .ok (.iload_n 1, 1) := by decide +kernel
theorem d_M_isClass_1 : decode prog_7_method_2_code 1 = .ok (.ifCond .lt 15, 3) := by decide +kernel
theorem d_M_isClass_4 : decode prog_7_method_2_code 4 = .ok (.iload_n 1, 1) := by decide +kernel
theorem d_M_isClass_5 : decode prog_7_method_2_code 5 = .ok (.aload_n 0, 1) := by decide +kernel
theorem d_M_isClass_6 : decode prog_7_method_2_code 6 = .ok (.getfield 109, 3) := by decide +kernel
theorem d_M_isClass_9 : decode prog_7_method_2_code 9 = .ok (.if_icmp .ge 7, 3) := by decide +kernel
theorem d_M_isClass_12 : decode prog_7_method_2_code 12 = .ok (.iconst 1, 1) := by decide +kernel
theorem d_M_isClass_13 : decode prog_7_method_2_code 13 = .ok (.goto 4, 3) := by decide +kernel
theorem d_M_isClass_16 : decode prog_7_method_2_code 16 = .ok (.iconst 0, 1) := by decide +kernel
theorem d_M_isClass_17 : decode prog_7_method_2_code 17 = .ok (.ireturn, 1) := by decide +kernel
theorem d_M_isField_0 : decode prog_7_method_3_code 0 = .ok (.iload_n 1, 1) := by decide +kernel
theorem d_M_isField_1 : decode prog_7_method_3_code 1 = .ok (.ifCond .lt 15, 3) := by decide +kernel
theorem d_M_isField_4 : decode prog_7_method_3_code 4 = .ok (.iload_n 1, 1) := by decide +kernel
theorem d_M_isField_5 : decode prog_7_method_3_code 5 = .ok (.aload_n 0, 1) := by decide +kernel
theorem d_M_isField_6 : decode prog_7_method_3_code 6 = .ok (.getfield 113, 3) := by decide +kernel
theorem d_M_isField_9 : decode prog_7_method_3_code 9 = .ok (.if_icmp .ge 7, 3) := by decide +kernel
theorem d_M_isField_12 : decode prog_7_method_3_code 12 = .ok (.iconst 1, 1) := by decide +kernel
theorem d_M_isField_13 : decode prog_7_method_3_code 13 = .ok (.goto 4, 3) := by decide +kernel
theorem d_M_isField_16 : decode prog_7_method_3_code 16 = .ok (.iconst 0, 1) := by decide +kernel
theorem d_M_isField_17 : decode prog_7_method_3_code 17 = .ok (.ireturn, 1) := by decide +kernel
theorem d_M_isMethod_0 : decode prog_7_method_4_code 0 = .ok (.iload_n 1, 1) := by decide +kernel
theorem d_M_isMethod_1 : decode prog_7_method_4_code 1 = .ok (.ifCond .lt 15, 3) := by decide +kernel
theorem d_M_isMethod_4 : decode prog_7_method_4_code 4 = .ok (.iload_n 1, 1) := by decide +kernel
theorem d_M_isMethod_5 : decode prog_7_method_4_code 5 = .ok (.aload_n 0, 1) := by decide +kernel
theorem d_M_isMethod_6 : decode prog_7_method_4_code 6 = .ok (.getfield 116, 3) := by decide +kernel
theorem d_M_isMethod_9 : decode prog_7_method_4_code 9 = .ok (.if_icmp .ge 7, 3) := by decide +kernel
theorem d_M_isMethod_12 : decode prog_7_method_4_code 12 = .ok (.iconst 1, 1) := by decide +kernel
theorem d_M_isMethod_13 : decode prog_7_method_4_code 13 = .ok (.goto 4, 3) := by decide +kernel
theorem d_M_isMethod_16 : decode prog_7_method_4_code 16 = .ok (.iconst 0, 1) := by decide +kernel
theorem d_M_isMethod_17 : decode prog_7_method_4_code 17 = .ok (.ireturn, 1) := by decide +kernel
theorem d_M_isName_0 : decode prog_7_method_5_code 0 = .ok (.iload_n 0, 1) := by decide +kernel
theorem d_M_isName_1 : decode prog_7_method_5_code 1 = .ok (.ifCond .lt 13, 3) := by decide +kernel
theorem d_M_isName_4 : decode prog_7_method_5_code 4 = .ok (.iload_n 0, 1) := by decide +kernel
theorem d_M_isName_5 : decode prog_7_method_5_code 5 = .ok (.bipush 6, 2) := by decide +kernel
theorem d_M_isName_7 : decode prog_7_method_5_code 7 = .ok (.if_icmp .ge 7, 3) := by decide +kernel
theorem d_M_isName_10 : decode prog_7_method_5_code 10 = .ok (.iconst 1, 1) := by decide +kernel
theorem d_M_isName_11 : decode prog_7_method_5_code 11 = .ok (.goto 4, 3) := by decide +kernel
theorem d_M_isName_14 : decode prog_7_method_5_code 14 = .ok (.iconst 0, 1) := by decide +kernel
theorem d_M_isName_15 : decode prog_7_method_5_code 15 = .ok (.ireturn, 1) := by decide +kernel
theorem d_M_isStatic_0 : decode prog_7_method_6_code 0 = .ok (.iload_n 0, 1) := by decide +kernel
theorem d_M_isStatic_1 : decode prog_7_method_6_code 1 = .ok (.ifCond .lt 12, 3) := by decide +kernel
theorem d_M_isStatic_4 : decode prog_7_method_6_code 4 = .ok (.iload_n 0, 1) := by decide +kernel
theorem d_M_isStatic_5 : decode prog_7_method_6_code 5 = .ok (.iconst 4, 1) := by decide +kernel
theorem d_M_isStatic_6 : decode prog_7_method_6_code 6 = .ok (.if_icmp .ge 7, 3) := by decide +kernel
theorem d_M_isStatic_9 : decode prog_7_method_6_code 9 = .ok (.iconst 1, 1) := by decide +kernel
theorem d_M_isStatic_10 : decode prog_7_method_6_code 10 = .ok (.goto 4, 3) := by decide +kernel
theorem d_M_isStatic_13 : decode prog_7_method_6_code 13 = .ok (.iconst 0, 1) := by decide +kernel
theorem d_M_isStatic_14 : decode prog_7_method_6_code 14 = .ok (.ireturn, 1) := by decide +kernel
theorem d_M_isUnder_0 : decode prog_7_method_7_code 0 = .ok (.iload_n 1, 1) := by decide +kernel
theorem d_M_isUnder_1 : decode prog_7_method_7_code 1 = .ok (.istore_n 3, 1) := by decide +kernel
theorem d_M_isUnder_2 : decode prog_7_method_7_code 2 = .ok (.iload_n 3, 1) := by decide +kernel
theorem d_M_isUnder_3 : decode prog_7_method_7_code 3 = .ok (.ifCond .lt 18, 3) := by decide +kernel
theorem d_M_isUnder_6 : decode prog_7_method_7_code 6 = .ok (.iload_n 3, 1) := by decide +kernel
theorem d_M_isUnder_7 : decode prog_7_method_7_code 7 = .ok (.iload_n 2, 1) := by decide +kernel
theorem d_M_isUnder_8 : decode prog_7_method_7_code 8 = .ok (.if_icmp .eq 13, 3) := by decide +kernel
theorem d_M_isUnder_11 : decode prog_7_method_7_code 11 = .ok (.aload_n 0, 1) := by decide +kernel
theorem d_M_isUnder_12 : decode prog_7_method_7_code 12 = .ok (.getfield 7, 3) := by decide +kernel
theorem d_M_isUnder_15 : decode prog_7_method_7_code 15 = .ok (.iload_n 3, 1) := by decide +kernel
theorem d_M_isUnder_16 : decode prog_7_method_7_code 16 = .ok (.iaload, 1) := by decide +kernel
theorem d_M_isUnder_17 : decode prog_7_method_7_code 17 = .ok (.istore_n 3, 1) := by decide +kernel
theorem d_M_isUnder_18 : decode prog_7_method_7_code 18 = .ok (.goto (-16), 3) := by decide +kernel
theorem d_M_isUnder_21 : decode prog_7_method_7_code 21 = .ok (.iload_n 3, 1) := by decide +kernel
theorem d_M_isUnder_22 : decode prog_7_method_7_code 22 = .ok (.ifCond .lt 7, 3) := by decide +kernel
theorem d_M_isUnder_25 : decode prog_7_method_7_code 25 = .ok (.iconst 1, 1) := by decide +kernel
theorem d_M_isUnder_26 : decode prog_7_method_7_code 26 = .ok (.goto 4, 3) := by decide +kernel
theorem d_M_isUnder_29 : decode prog_7_method_7_code 29 = .ok (.iconst 0, 1) := by decide +kernel
theorem d_M_isUnder_30 : decode prog_7_method_7_code 30 = .ok (.ireturn, 1) := by decide +kernel
theorem d_M_hasField_0 : decode prog_7_method_8_code 0 = .ok (.aload_n 0, 1) := by decide +kernel
theorem d_M_hasField_1 : decode prog_7_method_8_code 1 = .ok (.aload_n 0, 1) := by decide +kernel
theorem d_M_hasField_2 : decode prog_7_method_8_code 2 = .ok (.getfield 46, 3) := by decide +kernel
theorem d_M_hasField_5 : decode prog_7_method_8_code 5 = .ok (.iload_n 1, 1) := by decide +kernel
theorem d_M_hasField_6 : decode prog_7_method_8_code 6 = .ok (.iaload, 1) := by decide +kernel
theorem d_M_hasField_7 : decode prog_7_method_8_code 7 = .ok (.aload_n 0, 1) := by decide +kernel
theorem d_M_hasField_8 : decode prog_7_method_8_code 8 = .ok (.getfield 13, 3) := by decide +kernel
theorem d_M_hasField_11 : decode prog_7_method_8_code 11 = .ok (.iload_n 2, 1) := by decide +kernel
theorem d_M_hasField_12 : decode prog_7_method_8_code 12 = .ok (.iaload, 1) := by decide +kernel
theorem d_M_hasField_13 : decode prog_7_method_8_code 13 = .ok (.invokevirtual 119, 3) := by decide +kernel
theorem d_M_hasField_16 : decode prog_7_method_8_code 16 = .ok (.ireturn, 1) := by decide +kernel
theorem d_M_methodWith_0 : decode prog_7_method_9_code 0 = .ok (.iconst 0, 1) := by decide +kernel
theorem d_M_methodWith_1 : decode prog_7_method_9_code 1 = .ok (.istore_n 3, 1) := by decide +kernel
theorem d_M_methodWith_2 : decode prog_7_method_9_code 2 = .ok (.iload_n 3, 1) := by decide +kernel
theorem d_M_methodWith_3 : decode prog_7_method_9_code 3 = .ok (.aload_n 0, 1) := by decide +kernel
theorem d_M_methodWith_4 : decode prog_7_method_9_code 4 = .ok (.getfield 116, 3) := by decide +kernel
theorem d_M_methodWith_7 : decode prog_7_method_9_code 7 = .ok (.if_icmp .ge 31, 3) := by decide +kernel
theorem d_M_methodWith_10 : decode prog_7_method_9_code 10 = .ok (.aload_n 0, 1) := by decide +kernel
theorem d_M_methodWith_11 : decode prog_7_method_9_code 11 = .ok (.getfield 16, 3) := by decide +kernel
theorem d_M_methodWith_14 : decode prog_7_method_9_code 14 = .ok (.iload_n 3, 1) := by decide +kernel
theorem d_M_methodWith_15 : decode prog_7_method_9_code 15 = .ok (.iaload, 1) := by decide +kernel
theorem d_M_methodWith_16 : decode prog_7_method_9_code 16 = .ok (.iload_n 1, 1) := by decide +kernel
theorem d_M_methodWith_17 : decode prog_7_method_9_code 17 = .ok (.if_icmp .ne 15, 3) := by decide +kernel
theorem d_M_methodWith_20 : decode prog_7_method_9_code 20 = .ok (.aload_n 0, 1) := by decide +kernel
theorem d_M_methodWith_21 : decode prog_7_method_9_code 21 = .ok (.getfield 19, 3) := by decide +kernel
theorem d_M_methodWith_24 : decode prog_7_method_9_code 24 = .ok (.iload_n 3, 1) := by decide +kernel
theorem d_M_methodWith_25 : decode prog_7_method_9_code 25 = .ok (.iaload, 1) := by decide +kernel
theorem d_M_methodWith_26 : decode prog_7_method_9_code 26 = .ok (.iload_n 2, 1) := by decide +kernel
theorem d_M_methodWith_27 : decode prog_7_method_9_code 27 = .ok (.if_icmp .ne 5, 3) := by decide +kernel
theorem d_M_methodWith_30 : decode prog_7_method_9_code 30 = .ok (.iload_n 3, 1) := by decide +kernel
theorem d_M_methodWith_31 : decode prog_7_method_9_code 31 = .ok (.ireturn, 1) := by decide +kernel
theorem d_M_methodWith_32 : decode prog_7_method_9_code 32 = .ok (.iinc 3 1, 3) := by decide +kernel
theorem d_M_methodWith_35 : decode prog_7_method_9_code 35 = .ok (.goto (-33), 3) := by decide +kernel
theorem d_M_methodWith_38 : decode prog_7_method_9_code 38 = .ok (.iconst (-1), 1) := by decide +kernel
theorem d_M_methodWith_39 : decode prog_7_method_9_code 39 = .ok (.ireturn, 1) := by decide +kernel
theorem d_M_found_0 : decode prog_7_method_10_code 0 = .ok (.iload_n 1, 1) := by decide +kernel
theorem d_M_found_1 : decode prog_7_method_10_code 1 = .ok (.istore_n 3, 1) := by decide +kernel
theorem d_M_found_2 : decode prog_7_method_10_code 2 = .ok (.iload_n 3, 1) := by decide +kernel
theorem d_M_found_3 : decode prog_7_method_10_code 3 = .ok (.ifCond .lt 29, 3) := by decide +kernel
theorem d_M_found_6 : decode prog_7_method_10_code 6 = .ok (.aload_n 0, 1) := by decide +kernel
theorem d_M_found_7 : decode prog_7_method_10_code 7 = .ok (.iload_n 3, 1) := by decide +kernel
theorem d_M_found_8 : decode prog_7_method_10_code 8 = .ok (.iload_n 2, 1) := by decide +kernel
theorem d_M_found_9 : decode prog_7_method_10_code 9 = .ok (.invokevirtual 123, 3) := by decide +kernel
theorem d_M_found_12 : decode prog_7_method_10_code 12 = .ok (.istore 4, 2) := by decide +kernel
theorem d_M_found_14 : decode prog_7_method_10_code 14 = .ok (.iload 4, 2) := by decide +kernel
theorem d_M_found_16 : decode prog_7_method_10_code 16 = .ok (.ifCond .lt 6, 3) := by decide +kernel
theorem d_M_found_19 : decode prog_7_method_10_code 19 = .ok (.iload 4, 2) := by decide +kernel
theorem d_M_found_21 : decode prog_7_method_10_code 21 = .ok (.ireturn, 1) := by decide +kernel
theorem d_M_found_22 : decode prog_7_method_10_code 22 = .ok (.aload_n 0, 1) := by decide +kernel
theorem d_M_found_23 : decode prog_7_method_10_code 23 = .ok (.getfield 7, 3) := by decide +kernel
theorem d_M_found_26 : decode prog_7_method_10_code 26 = .ok (.iload_n 3, 1) := by decide +kernel
theorem d_M_found_27 : decode prog_7_method_10_code 27 = .ok (.iaload, 1) := by decide +kernel
theorem d_M_found_28 : decode prog_7_method_10_code 28 = .ok (.istore_n 3, 1) := by decide +kernel
theorem d_M_found_29 : decode prog_7_method_10_code 29 = .ok (.goto (-27), 3) := by decide +kernel
theorem d_M_found_32 : decode prog_7_method_10_code 32 = .ok (.iconst (-1), 1) := by decide +kernel
theorem d_M_found_33 : decode prog_7_method_10_code 33 = .ok (.ireturn, 1) := by decide +kernel
theorem d_M_change_0 : decode prog_7_method_11_code 0 = .ok (.aload_n 0, 1) := by decide +kernel
theorem d_M_change_1 : decode prog_7_method_11_code 1 = .ok (.iconst 0, 1) := by decide +kernel
theorem d_M_change_2 : decode prog_7_method_11_code 2 = .ok (.putfield 127, 3) := by decide +kernel
theorem d_M_change_5 : decode prog_7_method_11_code 5 = .ok (.aload_n 0, 1) := by decide +kernel
theorem d_M_change_6 : decode prog_7_method_11_code 6 = .ok (.invokevirtual 131, 3) := by decide +kernel
theorem d_M_change_9 : decode prog_7_method_11_code 9 = .ok (.return_, 1) := by decide +kernel
theorem d_M_cls_0 : decode prog_7_method_12_code 0 = .ok (.iload_n 1, 1) := by decide +kernel
theorem d_M_cls_1 : decode prog_7_method_12_code 1 = .ok (.iconst (-1), 1) := by decide +kernel
theorem d_M_cls_2 : decode prog_7_method_12_code 2 = .ok (.if_icmp .lt 11, 3) := by decide +kernel
theorem d_M_cls_5 : decode prog_7_method_12_code 5 = .ok (.iload_n 1, 1) := by decide +kernel
theorem d_M_cls_6 : decode prog_7_method_12_code 6 = .ok (.aload_n 0, 1) := by decide +kernel
theorem d_M_cls_7 : decode prog_7_method_12_code 7 = .ok (.getfield 109, 3) := by decide +kernel
theorem d_M_cls_10 : decode prog_7_method_12_code 10 = .ok (.if_icmp .lt 5, 3) := by decide +kernel
theorem d_M_cls_13 : decode prog_7_method_12_code 13 = .ok (.iconst (-1), 1) := by decide +kernel
theorem d_M_cls_14 : decode prog_7_method_12_code 14 = .ok (.ireturn, 1) := by decide +kernel
theorem d_M_cls_15 : decode prog_7_method_12_code 15 = .ok (.aload_n 0, 1) := by decide +kernel
theorem d_M_cls_16 : decode prog_7_method_12_code 16 = .ok (.getfield 109, 3) := by decide +kernel
theorem d_M_cls_19 : decode prog_7_method_12_code 19 = .ok (.bipush 8, 2) := by decide +kernel
theorem d_M_cls_21 : decode prog_7_method_12_code 21 = .ok (.if_icmp .ne 6, 3) := by decide +kernel
theorem d_M_cls_24 : decode prog_7_method_12_code 24 = .ok (.bipush (-4), 2) := by decide +kernel
theorem d_M_cls_26 : decode prog_7_method_12_code 26 = .ok (.ireturn, 1) := by decide +kernel
theorem d_M_cls_27 : decode prog_7_method_12_code 27 = .ok (.aload_n 0, 1) := by decide +kernel
theorem d_M_cls_28 : decode prog_7_method_12_code 28 = .ok (.getfield 7, 3) := by decide +kernel
theorem d_M_cls_31 : decode prog_7_method_12_code 31 = .ok (.aload_n 0, 1) := by decide +kernel
theorem d_M_cls_32 : decode prog_7_method_12_code 32 = .ok (.getfield 109, 3) := by decide +kernel
theorem d_M_cls_35 : decode prog_7_method_12_code 35 = .ok (.iload_n 1, 1) := by decide +kernel
theorem d_M_cls_36 : decode prog_7_method_12_code 36 = .ok (.iastore, 1) := by decide +kernel
theorem d_M_cls_37 : decode prog_7_method_12_code 37 = .ok (.aload_n 0, 1) := by decide +kernel
theorem d_M_cls_38 : decode prog_7_method_12_code 38 = .ok (.dup, 1) := by decide +kernel
theorem d_M_cls_39 : decode prog_7_method_12_code 39 = .ok (.getfield 109, 3) := by decide +kernel
theorem d_M_cls_42 : decode prog_7_method_12_code 42 = .ok (.iconst 1, 1) := by decide +kernel
theorem d_M_cls_43 : decode prog_7_method_12_code 43 = .ok (.iadd, 1) := by decide +kernel
theorem d_M_cls_44 : decode prog_7_method_12_code 44 = .ok (.putfield 109, 3) := by decide +kernel
theorem d_M_cls_47 : decode prog_7_method_12_code 47 = .ok (.aload_n 0, 1) := by decide +kernel
theorem d_M_cls_48 : decode prog_7_method_12_code 48 = .ok (.invokevirtual 134, 3) := by decide +kernel
theorem d_M_cls_51 : decode prog_7_method_12_code 51 = .ok (.aload_n 0, 1) := by decide +kernel
theorem d_M_cls_52 : decode prog_7_method_12_code 52 = .ok (.getfield 109, 3) := by decide +kernel
theorem d_M_cls_55 : decode prog_7_method_12_code 55 = .ok (.iconst 1, 1) := by decide +kernel
theorem d_M_cls_56 : decode prog_7_method_12_code 56 = .ok (.isub, 1) := by decide +kernel
theorem d_M_cls_57 : decode prog_7_method_12_code 57 = .ok (.ireturn, 1) := by decide +kernel
theorem r_O_cls_0 {Q : Option mV → mS → Prop} {σ : mS} {x1 : Int32} (h : (x1 = (-1) → (((σ 1 0) < (nI 8) → (MU M_O_forgetAnswers [.inr (0, 0)] σ (fun r s1 => r = none ∧ (MU M_P_addClass [.inr (1, 0), .inl x1] s1 (fun r s3 => ∃ r5, r = some (.inl r5) ∧ (Q (some (.inl r5)) s3)))))) ∧ (¬ (σ 1 0) < (nI 8) → (Q (some (.inl (-nI 4))) σ)))) ∧ (¬ x1 = (-1) → (MU M_P_hasClass [.inr (1, 0), .inl x1] σ (fun r s7 => ∃ r9, r = some (.inl r9) ∧ ((¬ r9 = 0 → (((s7 1 0) < (nI 8) → (MU M_O_forgetAnswers [.inr (0, 0)] s7 (fun r s10 => r = none ∧ (MU M_P_addClass [.inr (1, 0), .inl x1] s10 (fun r s12 => ∃ r14, r = some (.inl r14) ∧ (Q (some (.inl r14)) s12)))))) ∧ (¬ (s7 1 0) < (nI 8) → (Q (some (.inl (-nI 4))) s7)))) ∧ (r9 = 0 → (Q (some (.inl (-1))) s7))))))) : J M_O_cls Q 0 [some (.inr (0, 0)), some (.inl x1)] [] σ :=
  J_iload_n (i := 1) rfl rfl d_O_cls_0 <|
  J_iconst (v := (-1)) d_O_cls_1 (by decide) <|
  J_icmp_eq (tgt := 18) d_O_cls_2 (by decide) (fun c17 =>
  J_aload_n (i := 0) rfl rfl d_O_cls_18 <|
  gO_12 rfl d_O_cls_19 <|
  gO_38 rfl d_O_cls_22 <|
  J_bipush (v := (nI 8)) d_O_cls_25 (by decide) <|
  J_icmp_lt (tgt := 33) d_O_cls_27 (by decide) (fun c6 =>
  J_aload_n (i := 0) rfl rfl d_O_cls_33 <|
  kO_42_v rfl rfl rfl (args := []) (((((h).1 c17)).1 c6)) d_O_cls_34 (fun s1 h2 =>
  J_aload_n (i := 0) rfl rfl d_O_cls_37 <|
  gO_12 rfl d_O_cls_38 <|
  J_iload_n (i := 1) rfl rfl d_O_cls_41 <|
  kO_45_i rfl rfl rfl (args := [.inl x1]) (h2) d_O_cls_42 (fun r5 s3 h4 =>
  J_iret rfl d_O_cls_45 (h4)))) (fun c6 =>
  J_bipush (v := (-nI 4)) d_O_cls_30 (by decide) <|
  J_iret rfl d_O_cls_32 (((((h).1 c17)).2 c6)))) (fun c17 =>
  J_aload_n (i := 0) rfl rfl d_O_cls_5 <|
  gO_12 rfl d_O_cls_6 <|
  J_iload_n (i := 1) rfl rfl d_O_cls_9 <|
  kO_34_i rfl rfl rfl (args := [.inl x1]) (((h).2 c17)) d_O_cls_10 (fun r9 s7 h8 =>
  J_if_ne (tgt := 18) d_O_cls_13 (by decide) (fun c16 =>
  J_aload_n (i := 0) rfl rfl d_O_cls_18 <|
  gO_12 rfl d_O_cls_19 <|
  gO_38 rfl d_O_cls_22 <|
  J_bipush (v := (nI 8)) d_O_cls_25 (by decide) <|
  J_icmp_lt (tgt := 33) d_O_cls_27 (by decide) (fun c15 =>
  J_aload_n (i := 0) rfl rfl d_O_cls_33 <|
  kO_42_v rfl rfl rfl (args := []) (((((h8).1 c16)).1 c15)) d_O_cls_34 (fun s10 h11 =>
  J_aload_n (i := 0) rfl rfl d_O_cls_37 <|
  gO_12 rfl d_O_cls_38 <|
  J_iload_n (i := 1) rfl rfl d_O_cls_41 <|
  kO_45_i rfl rfl rfl (args := [.inl x1]) (h11) d_O_cls_42 (fun r14 s12 h13 =>
  J_iret rfl d_O_cls_45 (h13)))) (fun c15 =>
  J_bipush (v := (-nI 4)) d_O_cls_30 (by decide) <|
  J_iret rfl d_O_cls_32 (((((h8).1 c16)).2 c15)))) (fun c16 =>
  J_iconst (v := (-1)) d_O_cls_16 (by decide) <|
  J_iret rfl d_O_cls_17 (((h8).2 c16)))))
theorem r_O_field_0 {Q : Option mV → mS → Prop} {σ : mS} {x1 : Int32} (h : MU M_P_hasClass [.inr (1, 0), .inl x1] σ (fun r s1 => ∃ r3, r = some (.inl r3) ∧ ((¬ r3 = 0 → (((s1 1 1) < (nI 8) → (MU M_O_forgetAnswers [.inr (0, 0)] s1 (fun r s4 => r = none ∧ (MU M_P_addField [.inr (1, 0), .inl x1] s4 (fun r s6 => ∃ r8, r = some (.inl r8) ∧ (Q (some (.inl r8)) s6)))))) ∧ (¬ (s1 1 1) < (nI 8) → (Q (some (.inl (-nI 4))) s1)))) ∧ (r3 = 0 → (Q (some (.inl (-1))) s1))))) : J M_O_field Q 0 [some (.inr (0, 0)), some (.inl x1)] [] σ :=
  J_aload_n (i := 0) rfl rfl d_O_field_0 <|
  gO_12 rfl d_O_field_1 <|
  J_iload_n (i := 1) rfl rfl d_O_field_4 <|
  kO_34_i rfl rfl rfl (args := [.inl x1]) (h) d_O_field_5 (fun r3 s1 h2 =>
  J_if_ne (tgt := 13) d_O_field_8 (by decide) (fun c10 =>
  J_aload_n (i := 0) rfl rfl d_O_field_13 <|
  gO_12 rfl d_O_field_14 <|
  gO_49 rfl d_O_field_17 <|
  J_bipush (v := (nI 8)) d_O_field_20 (by decide) <|
  J_icmp_lt (tgt := 28) d_O_field_22 (by decide) (fun c9 =>
  J_aload_n (i := 0) rfl rfl d_O_field_28 <|
  kO_42_v rfl rfl rfl (args := []) (((((h2).1 c10)).1 c9)) d_O_field_29 (fun s4 h5 =>
  J_aload_n (i := 0) rfl rfl d_O_field_32 <|
  gO_12 rfl d_O_field_33 <|
  J_iload_n (i := 1) rfl rfl d_O_field_36 <|
  kO_52_i rfl rfl rfl (args := [.inl x1]) (h5) d_O_field_37 (fun r8 s6 h7 =>
  J_iret rfl d_O_field_40 (h7)))) (fun c9 =>
  J_bipush (v := (-nI 4)) d_O_field_25 (by decide) <|
  J_iret rfl d_O_field_27 (((((h2).1 c10)).2 c9)))) (fun c10 =>
  J_iconst (v := (-1)) d_O_field_11 (by decide) <|
  J_iret rfl d_O_field_12 (((h2).2 c10))))
theorem r_O_method_0 {Q : Option mV → mS → Prop} {σ : mS} {x1 x2 : Int32} (h : MU M_P_hasClass [.inr (1, 0), .inl x1] σ (fun r s1 => ∃ r3, r = some (.inl r3) ∧ ((¬ r3 = 0 → (MU M_O_isSignature [.inl x2] s1 (fun r s4 => ∃ r6, r = some (.inl r6) ∧ ((¬ r6 = 0 → (MU M_P_ownMethod [.inr (1, 0), .inl x1, .inl x2] s4 (fun r s7 => ∃ r9, r = some (.inl r9) ∧ ((r9 = (-1) → (((s7 1 2) < (nI 10) → (MU M_O_forgetAnswers [.inr (0, 0)] s7 (fun r s10 => r = none ∧ (MU M_P_addMethod [.inr (1, 0), .inl x1, .inl x2] s10 (fun r s12 => ∃ r14, r = some (.inl r14) ∧ (Q (some (.inl r14)) s12)))))) ∧ (¬ (s7 1 2) < (nI 10) → (Q (some (.inl (-nI 4))) s7)))) ∧ (¬ r9 = (-1) → (Q (some (.inl (-nI 3))) s7)))))) ∧ (r6 = 0 → (Q (some (.inl (-nI 2))) s4)))))) ∧ (r3 = 0 → (Q (some (.inl (-1))) s1))))) : J M_O_method Q 0 [some (.inr (0, 0)), some (.inl x1), some (.inl x2)] [] σ :=
  J_aload_n (i := 0) rfl rfl d_O_method_0 <|
  gO_12 rfl d_O_method_1 <|
  J_iload_n (i := 1) rfl rfl d_O_method_4 <|
  kO_34_i rfl rfl rfl (args := [.inl x1]) (h) d_O_method_5 (fun r3 s1 h2 =>
  J_if_ne (tgt := 13) d_O_method_8 (by decide) (fun c18 =>
  J_iload_n (i := 2) rfl rfl d_O_method_13 <|
  kO_55_i rfl rfl rfl (args := [.inl x2]) (((h2).1 c18)) d_O_method_14 (fun r6 s4 h5 =>
  J_if_ne (tgt := 23) d_O_method_17 (by decide) (fun c17 =>
  J_aload_n (i := 0) rfl rfl d_O_method_23 <|
  gO_12 rfl d_O_method_24 <|
  J_iload_n (i := 1) rfl rfl d_O_method_27 <|
  J_iload_n (i := 2) rfl rfl d_O_method_28 <|
  kO_58_i rfl rfl rfl (args := [.inl x1, .inl x2]) (((h5).1 c17)) d_O_method_29 (fun r9 s7 h8 =>
  J_iconst (v := (-1)) d_O_method_32 (by decide) <|
  J_icmp_eq (tgt := 39) d_O_method_33 (by decide) (fun c16 =>
  J_aload_n (i := 0) rfl rfl d_O_method_39 <|
  gO_12 rfl d_O_method_40 <|
  gO_62 rfl d_O_method_43 <|
  J_bipush (v := (nI 10)) d_O_method_46 (by decide) <|
  J_icmp_lt (tgt := 54) d_O_method_48 (by decide) (fun c15 =>
  J_aload_n (i := 0) rfl rfl d_O_method_54 <|
  kO_42_v rfl rfl rfl (args := []) (((((h8).1 c16)).1 c15)) d_O_method_55 (fun s10 h11 =>
  J_aload_n (i := 0) rfl rfl d_O_method_58 <|
  gO_12 rfl d_O_method_59 <|
  J_iload_n (i := 1) rfl rfl d_O_method_62 <|
  J_iload_n (i := 2) rfl rfl d_O_method_63 <|
  kO_65_i rfl rfl rfl (args := [.inl x1, .inl x2]) (h11) d_O_method_64 (fun r14 s12 h13 =>
  J_iret rfl d_O_method_67 (h13)))) (fun c15 =>
  J_bipush (v := (-nI 4)) d_O_method_51 (by decide) <|
  J_iret rfl d_O_method_53 (((((h8).1 c16)).2 c15)))) (fun c16 =>
  J_bipush (v := (-nI 3)) d_O_method_36 (by decide) <|
  J_iret rfl d_O_method_38 (((h8).2 c16))))) (fun c17 =>
  J_bipush (v := (-nI 2)) d_O_method_20 (by decide) <|
  J_iret rfl d_O_method_22 (((h5).2 c17))))) (fun c18 =>
  J_iconst (v := (-1)) d_O_method_11 (by decide) <|
  J_iret rfl d_O_method_12 (((h2).2 c18))))
theorem r_O_statement_0 {Q : Option mV → mS → Prop} {σ : mS} {x1 x2 x3 x4 x5 x6 x7 : Int32} (h : MU M_P_hasMethod [.inr (1, 0), .inl x1] σ (fun r s1 => ∃ r3, r = some (.inl r3) ∧ ((¬ r3 = 0 → ((x2 < 0 → (Q (some (.inl (-nI 2))) s1)) ∧ (¬ x2 < 0 → ((x2 ≤ (nI 9) → (MU M_P_hasOperands [.inr (1, 0), .inl x2, .inl x3, .inl x4, .inl x5, .inl x6, .inl x7] s1 (fun r s4 => ∃ r6, r = some (.inl r6) ∧ ((¬ r6 = 0 → ((¬ x2 = (nI 7) → (J M_O_statement Q 65 [some (.inr (0, 0)), some (.inl x1), some (.inl x2), some (.inl x3), some (.inl x4), some (.inl x5), some (.inl x6), some (.inl x7)] [] s4)) ∧ (x2 = (nI 7) → (MU M_O_isSignature [.inl x5] s4 (fun r s7 => ∃ r9, r = some (.inl r9) ∧ ((¬ r9 = 0 → (J M_O_statement Q 65 [some (.inr (0, 0)), some (.inl x1), some (.inl x2), some (.inl x3), some (.inl x4), some (.inl x5), some (.inl x6), some (.inl x7)] [] s7)) ∧ (r9 = 0 → (Q (some (.inl (-nI 2))) s7)))))))) ∧ (r6 = 0 → (Q (some (.inl (-1))) s4)))))) ∧ (¬ x2 ≤ (nI 9) → (Q (some (.inl (-nI 2))) s1)))))) ∧ (r3 = 0 → (Q (some (.inl (-1))) s1))))) : J M_O_statement Q 0 [some (.inr (0, 0)), some (.inl x1), some (.inl x2), some (.inl x3), some (.inl x4), some (.inl x5), some (.inl x6), some (.inl x7)] [] σ :=
  J_aload_n (i := 0) rfl rfl d_O_statement_0 <|
  gO_12 rfl d_O_statement_1 <|
  J_iload_n (i := 1) rfl rfl d_O_statement_4 <|
  kO_68_i rfl rfl rfl (args := [.inl x1]) (h) d_O_statement_5 (fun r3 s1 h2 =>
  J_if_ne (tgt := 13) d_O_statement_8 (by decide) (fun c15 =>
  J_iload_n (i := 2) rfl rfl d_O_statement_13 <|
  J_if_lt (tgt := 23) d_O_statement_14 (by decide) (fun c14 =>
  J_bipush (v := (-nI 2)) d_O_statement_23 (by decide) <|
  J_iret rfl d_O_statement_25 (((((h2).1 c15)).1 c14))) (fun c14 =>
  J_iload_n (i := 2) rfl rfl d_O_statement_17 <|
  J_bipush (v := (nI 9)) d_O_statement_18 (by decide) <|
  J_icmp_le (tgt := 26) d_O_statement_20 (by decide) (fun c13 =>
  J_aload_n (i := 0) rfl rfl d_O_statement_26 <|
  gO_12 rfl d_O_statement_27 <|
  J_iload_n (i := 2) rfl rfl d_O_statement_30 <|
  J_iload_n (i := 3) rfl rfl d_O_statement_31 <|
  J_iload (i := 4) rfl d_O_statement_32 <|
  J_iload (i := 5) rfl d_O_statement_34 <|
  J_iload (i := 6) rfl d_O_statement_36 <|
  J_iload (i := 7) rfl d_O_statement_38 <|
  kO_71_i rfl rfl rfl (args := [.inl x2, .inl x3, .inl x4, .inl x5, .inl x6, .inl x7]) (((((((h2).1 c15)).2 c14)).1 c13)) d_O_statement_40 (fun r6 s4 h5 =>
  J_if_ne (tgt := 48) d_O_statement_43 (by decide) (fun c12 =>
  J_iload_n (i := 2) rfl rfl d_O_statement_48 <|
  J_bipush (v := (nI 7)) d_O_statement_49 (by decide) <|
  J_icmp_ne (tgt := 65) d_O_statement_51 (by decide) (fun c11 =>
  ((((h5).1 c12)).1 c11)) (fun c11 =>
  J_iload (i := 5) rfl d_O_statement_54 <|
  kO_55_i rfl rfl rfl (args := [.inl x5]) (((((h5).1 c12)).2 c11)) d_O_statement_56 (fun r9 s7 h8 =>
  J_if_ne (tgt := 65) d_O_statement_59 (by decide) (fun c10 =>
  ((h8).1 c10)) (fun c10 =>
  J_bipush (v := (-nI 2)) d_O_statement_62 (by decide) <|
  J_iret rfl d_O_statement_64 (((h8).2 c10)))))) (fun c12 =>
  J_iconst (v := (-1)) d_O_statement_46 (by decide) <|
  J_iret rfl d_O_statement_47 (((h5).2 c12))))) (fun c13 =>
  J_bipush (v := (-nI 2)) d_O_statement_23 (by decide) <|
  J_iret rfl d_O_statement_25 (((((((h2).1 c15)).2 c14)).2 c13))))) (fun c15 =>
  J_iconst (v := (-1)) d_O_statement_11 (by decide) <|
  J_iret rfl d_O_statement_12 (((h2).2 c15))))
theorem r_O_statement_65 {Q : Option mV → mS → Prop} {σ : mS} {x1 x2 x3 x4 x5 x6 x7 : Int32} (h : MU M_P_hasRoomFor [.inr (1, 0), .inl x2] σ (fun r s16 => ∃ r18, r = some (.inl r18) ∧ ((¬ r18 = 0 → (MU M_O_forgetAnswers [.inr (0, 0)] s16 (fun r s19 => r = none ∧ (MU M_P_nextStatement [.inr (1, 0)] s19 (fun r s21 => ∃ n23, r = some (.inr (59, n23)) ∧ (MU M_G_tell [.inr (59, n23), .inl x2, .inl x3, .inl x4, .inl x5, .inl x6, .inl x7] s21 (fun r s24 => r = none ∧ (MU M_P_addStatement [.inr (1, 0), .inl x1] s24 (fun r s26 => ∃ r28, r = some (.inl r28) ∧ (Q (some (.inl r28)) s26)))))))))) ∧ (r18 = 0 → (Q (some (.inl (-nI 4))) s16))))) : J M_O_statement Q 65 [some (.inr (0, 0)), some (.inl x1), some (.inl x2), some (.inl x3), some (.inl x4), some (.inl x5), some (.inl x6), some (.inl x7)] [] σ :=
  J_aload_n (i := 0) rfl rfl d_O_statement_65 <|
  gO_12 rfl d_O_statement_66 <|
  J_iload_n (i := 2) rfl rfl d_O_statement_69 <|
  kO_75_i rfl rfl rfl (args := [.inl x2]) (h) d_O_statement_70 (fun r18 s16 h17 =>
  J_if_ne (tgt := 79) d_O_statement_73 (by decide) (fun c29 =>
  J_aload_n (i := 0) rfl rfl d_O_statement_79 <|
  kO_42_v rfl rfl rfl (args := []) (((h17).1 c29)) d_O_statement_80 (fun s19 h20 =>
  J_aload_n (i := 0) rfl rfl d_O_statement_83 <|
  gO_12 rfl d_O_statement_84 <|
  kO_78_r rfl rfl rfl (args := []) (h20) d_O_statement_87 (fun n23 s21 h22 =>
  J_iload_n (i := 2) rfl rfl d_O_statement_90 <|
  J_iload_n (i := 3) rfl rfl d_O_statement_91 <|
  J_iload (i := 4) rfl d_O_statement_92 <|
  J_iload (i := 5) rfl d_O_statement_94 <|
  J_iload (i := 6) rfl d_O_statement_96 <|
  J_iload (i := 7) rfl d_O_statement_98 <|
  kO_82_v rfl rfl rfl (args := [.inl x2, .inl x3, .inl x4, .inl x5, .inl x6, .inl x7]) (h22) d_O_statement_100 (fun s24 h25 =>
  J_aload_n (i := 0) rfl rfl d_O_statement_103 <|
  gO_12 rfl d_O_statement_104 <|
  J_iload_n (i := 1) rfl rfl d_O_statement_107 <|
  kO_88_i rfl rfl rfl (args := [.inl x1]) (h25) d_O_statement_108 (fun r28 s26 h27 =>
  J_iret rfl d_O_statement_111 (h27)))))) (fun c29 =>
  J_bipush (v := (-nI 4)) d_O_statement_76 (by decide) <|
  J_iret rfl d_O_statement_78 (((h17).2 c29))))
theorem r_O_mode_0 {Q : Option mV → mS → Prop} {σ : mS} {x1 : Int32} (h : (x1 = 0 → (((σ 2 8) = 0 → (J M_O_mode Q 27 [some (.inr (0, 0)), some (.inl x1), none] [.inl 0] σ)) ∧ (¬ (σ 2 8) = 0 → (J M_O_mode Q 27 [some (.inr (0, 0)), some (.inl x1), none] [.inl 1] σ)))) ∧ (¬ x1 = 0 → ((x1 = 1 → (((σ 2 8) = 0 → (J M_O_mode Q 27 [some (.inr (0, 0)), some (.inl x1), none] [.inl 0] σ)) ∧ (¬ (σ 2 8) = 0 → (J M_O_mode Q 27 [some (.inr (0, 0)), some (.inl x1), none] [.inl 1] σ)))) ∧ (¬ x1 = 1 → (Q (some (.inl (-nI 2))) σ))))) : J M_O_mode Q 0 [some (.inr (0, 0)), some (.inl x1), none] [] σ :=
  J_iload_n (i := 1) rfl rfl d_O_mode_0 <|
  J_if_eq (tgt := 12) d_O_mode_1 (by decide) (fun c4 =>
  J_aload_n (i := 0) rfl rfl d_O_mode_12 <|
  gO_21 rfl d_O_mode_13 <|
  gO_91 rfl d_O_mode_16 <|
  J_if_eq (tgt := 26) d_O_mode_19 (by decide) (fun c1 =>
  J_iconst (v := 0) d_O_mode_26 (by decide) <|
  ((((h).1 c4)).1 c1)) (fun c1 =>
  J_iconst (v := 1) d_O_mode_22 (by decide) <|
  J_goto (tgt := 27) d_O_mode_23 (by decide) <|
  ((((h).1 c4)).2 c1))) (fun c4 =>
  J_iload_n (i := 1) rfl rfl d_O_mode_4 <|
  J_iconst (v := 1) d_O_mode_5 (by decide) <|
  J_icmp_eq (tgt := 12) d_O_mode_6 (by decide) (fun c3 =>
  J_aload_n (i := 0) rfl rfl d_O_mode_12 <|
  gO_21 rfl d_O_mode_13 <|
  gO_91 rfl d_O_mode_16 <|
  J_if_eq (tgt := 26) d_O_mode_19 (by decide) (fun c2 =>
  J_iconst (v := 0) d_O_mode_26 (by decide) <|
  ((((((h).2 c4)).1 c3)).1 c2)) (fun c2 =>
  J_iconst (v := 1) d_O_mode_22 (by decide) <|
  J_goto (tgt := 27) d_O_mode_23 (by decide) <|
  ((((((h).2 c4)).1 c3)).2 c2))) (fun c3 =>
  J_bipush (v := (-nI 2)) d_O_mode_9 (by decide) <|
  J_iret rfl d_O_mode_11 (((((h).2 c4)).2 c3))))
theorem r_O_mode_27 {Q : Option mV → mS → Prop} {σ : mS} {x1 y0 : Int32} {u2 : Option mV} (h : MU M_O_forgetAnswers [.inr (0, 0)] σ (fun r s5 => r = none ∧ ((¬ x1 = 1 → (Q (some (.inl y0)) (m_up s5 2 8 0))) ∧ (x1 = 1 → (Q (some (.inl y0)) (m_up s5 2 8 1)))))) : J M_O_mode Q 27 [some (.inr (0, 0)), some (.inl x1), u2] [.inl y0] σ :=
  J_istore_n (i := 2) (ls' := [some (.inr (0, 0)), some (.inl x1), some (.inl y0)]) rfl rfl rfl rfl d_O_mode_27 <|
  J_aload_n (i := 0) rfl rfl d_O_mode_28 <|
  kO_42_v rfl rfl rfl (args := []) (h) d_O_mode_29 (fun s5 h6 =>
  J_aload_n (i := 0) rfl rfl d_O_mode_32 <|
  gO_21 rfl d_O_mode_33 <|
  J_iload_n (i := 1) rfl rfl d_O_mode_36 <|
  J_iconst (v := 1) d_O_mode_37 (by decide) <|
  J_icmp_ne (tgt := 45) d_O_mode_38 (by decide) (fun c7 =>
  J_iconst (v := 0) d_O_mode_45 (by decide) <|
  pO_91 rfl (Or.inl rfl) d_O_mode_46 <|
  J_iload_n (i := 2) rfl rfl d_O_mode_49 <|
  J_iret rfl d_O_mode_50 (((h6).1 c7))) (fun c7 =>
  J_iconst (v := 1) d_O_mode_41 (by decide) <|
  J_goto (tgt := 46) d_O_mode_42 (by decide) <|
  pO_91 rfl (Or.inr rfl) d_O_mode_46 <|
  J_iload_n (i := 2) rfl rfl d_O_mode_49 <|
  J_iret rfl d_O_mode_50 (((h6).2 c7))))
theorem r_O_clear_0 {Q : Option mV → mS → Prop} {σ : mS} (h : MU M_O_forgetAnswers [.inr (0, 0)] σ (fun r s1 => r = none ∧ (MU M_P_empty [.inr (1, 0)] s1 (fun r s3 => r = none ∧ (Q (some (.inl (σ 1 3))) s3))))) : J M_O_clear Q 0 [some (.inr (0, 0)), none] [] σ :=
  J_aload_n (i := 0) rfl rfl d_O_clear_0 <|
  gO_12 rfl d_O_clear_1 <|
  gO_95 rfl d_O_clear_4 <|
  J_istore_n (i := 1) (ls' := [some (.inr (0, 0)), some (.inl (σ 1 3))]) rfl rfl rfl rfl d_O_clear_7 <|
  J_aload_n (i := 0) rfl rfl d_O_clear_8 <|
  kO_42_v rfl rfl rfl (args := []) (h) d_O_clear_9 (fun s1 h2 =>
  J_aload_n (i := 0) rfl rfl d_O_clear_12 <|
  gO_12 rfl d_O_clear_13 <|
  kO_98_v rfl rfl rfl (args := []) (h2) d_O_clear_16 (fun s3 h4 =>
  J_iload_n (i := 1) rfl rfl d_O_clear_19 <|
  J_iret rfl d_O_clear_20 (h4)))
theorem r_O_points_0 {Q : Option mV → mS → Prop} {σ : mS} {x1 x2 x3 : Int32} (h : MU M_P_hasName [.inr (1, 0), .inl x1, .inl x3] σ (fun r s1 => ∃ r3, r = some (.inl r3) ∧ ((¬ r3 = 0 → ((x2 = (-1) → (J M_O_points Q 32 [some (.inr (0, 0)), some (.inl x1), some (.inl x2), some (.inl x3)] [] s1)) ∧ (¬ x2 = (-1) → (MU M_S_hasContext [.inr (2, 0), .inl x2] s1 (fun r s4 => ∃ r6, r = some (.inl r6) ∧ ((¬ r6 = 0 → (J M_O_points Q 32 [some (.inr (0, 0)), some (.inl x1), some (.inl x2), some (.inl x3)] [] s4)) ∧ (r6 = 0 → (Q (some (.inl (-1))) s4)))))))) ∧ (r3 = 0 → (Q (some (.inl (-1))) s1))))) : J M_O_points Q 0 [some (.inr (0, 0)), some (.inl x1), some (.inl x2), some (.inl x3)] [] σ :=
  J_aload_n (i := 0) rfl rfl d_O_points_0 <|
  gO_12 rfl d_O_points_1 <|
  J_iload_n (i := 1) rfl rfl d_O_points_4 <|
  J_iload_n (i := 3) rfl rfl d_O_points_5 <|
  kO_101_i rfl rfl rfl (args := [.inl x1, .inl x3]) (h) d_O_points_6 (fun r3 s1 h2 =>
  J_if_ne (tgt := 14) d_O_points_9 (by decide) (fun c9 =>
  J_iload_n (i := 2) rfl rfl d_O_points_14 <|
  J_iconst (v := (-1)) d_O_points_15 (by decide) <|
  J_icmp_eq (tgt := 32) d_O_points_16 (by decide) (fun c8 =>
  ((((h2).1 c9)).1 c8)) (fun c8 =>
  J_aload_n (i := 0) rfl rfl d_O_points_19 <|
  gO_21 rfl d_O_points_20 <|
  J_iload_n (i := 2) rfl rfl d_O_points_23 <|
  kO_105_i rfl rfl rfl (args := [.inl x2]) (((((h2).1 c9)).2 c8)) d_O_points_24 (fun r6 s4 h5 =>
  J_if_ne (tgt := 32) d_O_points_27 (by decide) (fun c7 =>
  ((h5).1 c7)) (fun c7 =>
  J_iconst (v := (-1)) d_O_points_30 (by decide) <|
  J_iret rfl d_O_points_31 (((h5).2 c7)))))) (fun c9 =>
  J_iconst (v := (-1)) d_O_points_12 (by decide) <|
  J_iret rfl d_O_points_13 (((h2).2 c9))))
theorem r_O_points_32 {Q : Option mV → mS → Prop} {σ : mS} {x1 x2 x3 : Int32} (h : MU M_S_settle [.inr (2, 0)] σ (fun r s10 => r = none ∧ ((¬ x2 = (-1) → (MU M_O_namesOf [.inl x1, .inl x2] s10 (fun r s12 => ∃ r14, r = some (.inl r14) ∧ (MU M_S_at [.inr (2, 0), .inl (r14 + x3)] s12 (fun r s15 => ∃ r17, r = some (.inl r17) ∧ (Q (some (.inl r17)) s15)))))) ∧ (x2 = (-1) → (MU M_S_inAllContexts [.inr (2, 0), .inl x1, .inl x3] s10 (fun r s18 => ∃ r20, r = some (.inl r20) ∧ (Q (some (.inl r20)) s18))))))) : J M_O_points Q 32 [some (.inr (0, 0)), some (.inl x1), some (.inl x2), some (.inl x3)] [] σ :=
  J_aload_n (i := 0) rfl rfl d_O_points_32 <|
  gO_21 rfl d_O_points_33 <|
  kO_108_v rfl rfl rfl (args := []) (h) d_O_points_36 (fun s10 h11 =>
  J_iload_n (i := 2) rfl rfl d_O_points_39 <|
  J_iconst (v := (-1)) d_O_points_40 (by decide) <|
  J_icmp_ne (tgt := 54) d_O_points_41 (by decide) (fun c21 =>
  J_aload_n (i := 0) rfl rfl d_O_points_54 <|
  gO_21 rfl d_O_points_55 <|
  J_iload_n (i := 1) rfl rfl d_O_points_58 <|
  J_iload_n (i := 2) rfl rfl d_O_points_59 <|
  kO_114_i rfl rfl rfl (args := [.inl x1, .inl x2]) (((h11).1 c21)) d_O_points_60 (fun r14 s12 h13 =>
  J_iload_n (i := 3) rfl rfl d_O_points_63 <|
  J_iadd d_O_points_64 <|
  kO_117_i rfl rfl rfl (args := [.inl (r14 + x3)]) (h13) d_O_points_65 (fun r17 s15 h16 =>
  J_iret rfl d_O_points_68 (h16)))) (fun c21 =>
  J_aload_n (i := 0) rfl rfl d_O_points_44 <|
  gO_21 rfl d_O_points_45 <|
  J_iload_n (i := 1) rfl rfl d_O_points_48 <|
  J_iload_n (i := 3) rfl rfl d_O_points_49 <|
  kO_111_i rfl rfl rfl (args := [.inl x1, .inl x3]) (((h11).2 c21)) d_O_points_50 (fun r20 s18 h19 =>
  J_iret rfl d_O_points_53 (h19))))
theorem r_O_inField_0 {Q : Option mV → mS → Prop} {σ : mS} {x1 x2 : Int32} (h : MU M_P_hasSite [.inr (1, 0), .inl x1] σ (fun r s1 => ∃ r3, r = some (.inl r3) ∧ ((r3 = 0 → (Q (some (.inl (-1))) s1)) ∧ (¬ r3 = 0 → (MU M_P_hasField [.inr (1, 0), .inl x2] s1 (fun r s4 => ∃ r6, r = some (.inl r6) ∧ ((¬ r6 = 0 → (MU M_S_settle [.inr (2, 0)] s4 (fun r s7 => r = none ∧ (MU M_O_slotPlace [.inl x1, .inl x2] s7 (fun r s9 => ∃ r11, r = some (.inl r11) ∧ (MU M_S_at [.inr (2, 0), .inl r11] s9 (fun r s12 => ∃ r14, r = some (.inl r14) ∧ (Q (some (.inl r14)) s12)))))))) ∧ (r6 = 0 → (Q (some (.inl (-1))) s4))))))))) : J M_O_inField Q 0 [some (.inr (0, 0)), some (.inl x1), some (.inl x2)] [] σ :=
  J_aload_n (i := 0) rfl rfl d_O_inField_0 <|
  gO_12 rfl d_O_inField_1 <|
  J_iload_n (i := 1) rfl rfl d_O_inField_4 <|
  kO_120_i rfl rfl rfl (args := [.inl x1]) (h) d_O_inField_5 (fun r3 s1 h2 =>
  J_if_eq (tgt := 22) d_O_inField_8 (by decide) (fun c16 =>
  J_iconst (v := (-1)) d_O_inField_22 (by decide) <|
  J_iret rfl d_O_inField_23 (((h2).1 c16))) (fun c16 =>
  J_aload_n (i := 0) rfl rfl d_O_inField_11 <|
  gO_12 rfl d_O_inField_12 <|
  J_iload_n (i := 2) rfl rfl d_O_inField_15 <|
  kO_123_i rfl rfl rfl (args := [.inl x2]) (((h2).2 c16)) d_O_inField_16 (fun r6 s4 h5 =>
  J_if_ne (tgt := 24) d_O_inField_19 (by decide) (fun c15 =>
  J_aload_n (i := 0) rfl rfl d_O_inField_24 <|
  gO_21 rfl d_O_inField_25 <|
  kO_108_v rfl rfl rfl (args := []) (((h5).1 c15)) d_O_inField_28 (fun s7 h8 =>
  J_aload_n (i := 0) rfl rfl d_O_inField_31 <|
  gO_21 rfl d_O_inField_32 <|
  J_iload_n (i := 1) rfl rfl d_O_inField_35 <|
  J_iload_n (i := 2) rfl rfl d_O_inField_36 <|
  kO_126_i rfl rfl rfl (args := [.inl x1, .inl x2]) (h8) d_O_inField_37 (fun r11 s9 h10 =>
  kO_117_i rfl rfl rfl (args := [.inl r11]) (h10) d_O_inField_40 (fun r14 s12 h13 =>
  J_iret rfl d_O_inField_43 (h13))))) (fun c15 =>
  J_iconst (v := (-1)) d_O_inField_22 (by decide) <|
  J_iret rfl d_O_inField_23 (((h5).2 c15))))))
theorem r_O_element_0 {Q : Option mV → mS → Prop} {σ : mS} {x1 : Int32} (h : MU M_P_hasSite [.inr (1, 0), .inl x1] σ (fun r s1 => ∃ r3, r = some (.inl r3) ∧ ((¬ r3 = 0 → (MU M_S_settle [.inr (2, 0)] s1 (fun r s4 => r = none ∧ (MU M_O_slotPlace [.inl x1, .inl (nI 8)] s4 (fun r s6 => ∃ r8, r = some (.inl r8) ∧ (MU M_S_at [.inr (2, 0), .inl r8] s6 (fun r s9 => ∃ r11, r = some (.inl r11) ∧ (Q (some (.inl r11)) s9)))))))) ∧ (r3 = 0 → (Q (some (.inl (-1))) s1))))) : J M_O_element Q 0 [some (.inr (0, 0)), some (.inl x1)] [] σ :=
  J_aload_n (i := 0) rfl rfl d_O_element_0 <|
  gO_12 rfl d_O_element_1 <|
  J_iload_n (i := 1) rfl rfl d_O_element_4 <|
  kO_120_i rfl rfl rfl (args := [.inl x1]) (h) d_O_element_5 (fun r3 s1 h2 =>
  J_if_ne (tgt := 13) d_O_element_8 (by decide) (fun c12 =>
  J_aload_n (i := 0) rfl rfl d_O_element_13 <|
  gO_21 rfl d_O_element_14 <|
  kO_108_v rfl rfl rfl (args := []) (((h2).1 c12)) d_O_element_17 (fun s4 h5 =>
  J_aload_n (i := 0) rfl rfl d_O_element_20 <|
  gO_21 rfl d_O_element_21 <|
  J_iload_n (i := 1) rfl rfl d_O_element_24 <|
  J_bipush (v := (nI 8)) d_O_element_25 (by decide) <|
  kO_126_i rfl rfl rfl (args := [.inl x1, .inl (nI 8)]) (h5) d_O_element_27 (fun r8 s6 h7 =>
  kO_117_i rfl rfl rfl (args := [.inl r8]) (h7) d_O_element_30 (fun r11 s9 h10 =>
  J_iret rfl d_O_element_33 (h10))))) (fun c12 =>
  J_iconst (v := (-1)) d_O_element_11 (by decide) <|
  J_iret rfl d_O_element_12 (((h2).2 c12))))
theorem r_O_inStatic_0 {Q : Option mV → mS → Prop} {σ : mS} {x1 : Int32} (h : MU M_O_isStatic [.inl x1] σ (fun r s1 => ∃ r3, r = some (.inl r3) ∧ ((¬ r3 = 0 → (MU M_S_settle [.inr (2, 0)] s1 (fun r s4 => r = none ∧ (MU M_S_at [.inr (2, 0), .inl ((nI 1440) + x1)] s4 (fun r s6 => ∃ r8, r = some (.inl r8) ∧ (Q (some (.inl r8)) s6)))))) ∧ (r3 = 0 → (Q (some (.inl (-1))) s1))))) : J M_O_inStatic Q 0 [some (.inr (0, 0)), some (.inl x1)] [] σ :=
  J_iload_n (i := 1) rfl rfl d_O_inStatic_0 <|
  kO_129_i rfl rfl rfl (args := [.inl x1]) (h) d_O_inStatic_1 (fun r3 s1 h2 =>
  J_if_ne (tgt := 9) d_O_inStatic_4 (by decide) (fun c9 =>
  J_aload_n (i := 0) rfl rfl d_O_inStatic_9 <|
  gO_21 rfl d_O_inStatic_10 <|
  kO_108_v rfl rfl rfl (args := []) (((h2).1 c9)) d_O_inStatic_13 (fun s4 h5 =>
  J_aload_n (i := 0) rfl rfl d_O_inStatic_16 <|
  gO_21 rfl d_O_inStatic_17 <|
  J_sipush (v := (nI 1440)) d_O_inStatic_20 (by decide) <|
  J_iload_n (i := 1) rfl rfl d_O_inStatic_23 <|
  J_iadd d_O_inStatic_24 <|
  kO_117_i rfl rfl rfl (args := [.inl ((nI 1440) + x1)]) (h5) d_O_inStatic_25 (fun r8 s6 h7 =>
  J_iret rfl d_O_inStatic_28 (h7)))) (fun c9 =>
  J_iconst (v := (-1)) d_O_inStatic_7 (by decide) <|
  J_iret rfl d_O_inStatic_8 (((h2).2 c9))))
theorem r_O_reached_0 {Q : Option mV → mS → Prop} {σ : mS} {x1 : Int32} (h : MU M_P_hasMethod [.inr (1, 0), .inl x1] σ (fun r s1 => ∃ r3, r = some (.inl r3) ∧ ((¬ r3 = 0 → (MU M_S_settle [.inr (2, 0)] s1 (fun r s4 => r = none ∧ (MU M_S_at [.inr (2, 0), .inl ((nI 1444) + x1)] s4 (fun r s6 => ∃ r8, r = some (.inl r8) ∧ (MU M_I_bitCount [.inl r8] s6 (fun r s9 => ∃ r11, r = some (.inl r11) ∧ (Q (some (.inl r11)) s9)))))))) ∧ (r3 = 0 → (Q (some (.inl (-1))) s1))))) : J M_O_reached Q 0 [some (.inr (0, 0)), some (.inl x1)] [] σ :=
  J_aload_n (i := 0) rfl rfl d_O_reached_0 <|
  gO_12 rfl d_O_reached_1 <|
  J_iload_n (i := 1) rfl rfl d_O_reached_4 <|
  kO_68_i rfl rfl rfl (args := [.inl x1]) (h) d_O_reached_5 (fun r3 s1 h2 =>
  J_if_ne (tgt := 13) d_O_reached_8 (by decide) (fun c12 =>
  J_aload_n (i := 0) rfl rfl d_O_reached_13 <|
  gO_21 rfl d_O_reached_14 <|
  kO_108_v rfl rfl rfl (args := []) (((h2).1 c12)) d_O_reached_17 (fun s4 h5 =>
  J_aload_n (i := 0) rfl rfl d_O_reached_20 <|
  gO_21 rfl d_O_reached_21 <|
  J_sipush (v := (nI 1444)) d_O_reached_24 (by decide) <|
  J_iload_n (i := 1) rfl rfl d_O_reached_27 <|
  J_iadd d_O_reached_28 <|
  kO_117_i rfl rfl rfl (args := [.inl ((nI 1444) + x1)]) (h5) d_O_reached_29 (fun r8 s6 h7 =>
  kO_132_i rfl rfl rfl (args := [.inl r8]) (h7) d_O_reached_32 (fun r11 s9 h10 =>
  J_iret rfl d_O_reached_35 (h10))))) (fun c12 =>
  J_iconst (v := (-1)) d_O_reached_11 (by decide) <|
  J_iret rfl d_O_reached_12 (((h2).2 c12))))
theorem r_O_may_0 {Q : Option mV → mS → Prop} {σ : mS} {x1 : Int32} (h : MU M_P_hasStatement [.inr (1, 0), .inl x1] σ (fun r s1 => ∃ r3, r = some (.inl r3) ∧ ((¬ r3 = 0 → (vp_in x1 60 ∧ (((s1 (59 + x1.toNatClampNeg % 60) 2) = (nI 7) → (J M_O_may Q 43 [some (.inr (0, 0)), some (.inl x1), some (.inr (59, x1.toNatClampNeg)), none] [] s1)) ∧ (¬ (s1 (59 + x1.toNatClampNeg % 60) 2) = (nI 7) → (((s1 (59 + x1.toNatClampNeg % 60) 2) = (nI 4) → (J M_O_may Q 43 [some (.inr (0, 0)), some (.inl x1), some (.inr (59, x1.toNatClampNeg)), none] [] s1)) ∧ (¬ (s1 (59 + x1.toNatClampNeg % 60) 2) = (nI 4) → (Q (some (.inl (-nI 3))) s1))))))) ∧ (r3 = 0 → (Q (some (.inl (-1))) s1))))) : J M_O_may Q 0 [some (.inr (0, 0)), some (.inl x1), none, none] [] σ :=
  J_aload_n (i := 0) rfl rfl d_O_may_0 <|
  gO_12 rfl d_O_may_1 <|
  J_iload_n (i := 1) rfl rfl d_O_may_4 <|
  kO_137_i rfl rfl rfl (args := [.inl x1]) (h) d_O_may_5 (fun r3 s1 h2 =>
  J_if_ne (tgt := 13) d_O_may_8 (by decide) (fun c6 =>
  J_aload_n (i := 0) rfl rfl d_O_may_13 <|
  gO_12 rfl d_O_may_14 <|
  gO_140 rfl d_O_may_17 <|
  J_iload_n (i := 1) rfl rfl d_O_may_20 <|
  J_aald (((h2).1 c6)).1 d_O_may_21 <|
  J_astore_n (i := 2) (ls' := [some (.inr (0, 0)), some (.inl x1), some (.inr (59, x1.toNatClampNeg)), none]) rfl rfl rfl rfl d_O_may_22 <|
  J_aload_n (i := 2) rfl rfl d_O_may_23 <|
  gO_144 rfl d_O_may_24 <|
  J_bipush (v := (nI 7)) d_O_may_27 (by decide) <|
  J_icmp_eq (tgt := 43) d_O_may_29 (by decide) (fun c5 =>
  (((((h2).1 c6)).2).1 c5)) (fun c5 =>
  J_aload_n (i := 2) rfl rfl d_O_may_32 <|
  gO_144 rfl d_O_may_33 <|
  J_iconst (v := (nI 4)) d_O_may_36 (by decide) <|
  J_icmp_eq (tgt := 43) d_O_may_37 (by decide) (fun c4 =>
  (((((((h2).1 c6)).2).2 c5)).1 c4)) (fun c4 =>
  J_bipush (v := (-nI 3)) d_O_may_40 (by decide) <|
  J_iret rfl d_O_may_42 ((((((((h2).1 c6)).2).2 c5)).2 c4))))) (fun c6 =>
  J_iconst (v := (-1)) d_O_may_11 (by decide) <|
  J_iret rfl d_O_may_12 (((h2).2 c6))))
theorem r_O_may_43 {Q : Option mV → mS → Prop} {σ : mS} {n2 : Nat} {u1 u3 : Option mV} (h : MU M_S_settle [.inr (2, 0)] σ (fun r s7 => r = none ∧ (MU M_S_inAllContexts [.inr (2, 0), .inl (s7 (59 + n2 % 60) 0), .inl (s7 (59 + n2 % 60) 4)] s7 (fun r s9 => ∃ r11, r = some (.inl r11) ∧ ((¬ (s9 (59 + n2 % 60) 2) = (nI 7) → (vp_in (s9 (59 + n2 % 60) 5) 8 ∧ (Q (some (.inl (r11 &&& ((s9 6 (s9 (59 + n2 % 60) 5).toNatClampNeg) ^^^ (-1))))) s9))) ∧ ((s9 (59 + n2 % 60) 2) = (nI 7) → (MU M_P_methodsFound [.inr (1, 0), .inl r11, .inl (s9 (59 + n2 % 60) 5)] s9 (fun r s12 => ∃ r14, r = some (.inl r14) ∧ (Q (some (.inl r14)) s12))))))))) : J M_O_may Q 43 [some (.inr (0, 0)), u1, some (.inr (59, n2)), u3] [] σ :=
  J_aload_n (i := 0) rfl rfl d_O_may_43 <|
  gO_21 rfl d_O_may_44 <|
  kO_108_v rfl rfl rfl (args := []) (h) d_O_may_47 (fun s7 h8 =>
  J_aload_n (i := 0) rfl rfl d_O_may_50 <|
  gO_21 rfl d_O_may_51 <|
  J_aload_n (i := 2) rfl rfl d_O_may_54 <|
  gO_147 rfl d_O_may_55 <|
  J_aload_n (i := 2) rfl rfl d_O_may_58 <|
  gO_150 rfl d_O_may_59 <|
  kO_111_i rfl rfl rfl (args := [.inl (s7 (59 + n2 % 60) 0), .inl (s7 (59 + n2 % 60) 4)]) (h8) d_O_may_62 (fun r11 s9 h10 =>
  J_istore_n (i := 3) (ls' := [some (.inr (0, 0)), u1, some (.inr (59, n2)), some (.inl r11)]) rfl rfl rfl rfl d_O_may_65 <|
  J_aload_n (i := 2) rfl rfl d_O_may_66 <|
  gO_144 rfl d_O_may_67 <|
  J_bipush (v := (nI 7)) d_O_may_70 (by decide) <|
  J_icmp_ne (tgt := 88) d_O_may_72 (by decide) (fun c15 =>
  J_iload_n (i := 3) rfl rfl d_O_may_88 <|
  J_aload_n (i := 0) rfl rfl d_O_may_89 <|
  gO_12 rfl d_O_may_90 <|
  gO_159 rfl d_O_may_93 <|
  J_aload_n (i := 2) rfl rfl d_O_may_96 <|
  gO_153 rfl d_O_may_97 <|
  J_iald (((h10).1 c15)).1 d_O_may_100 <|
  J_iconst (v := (-1)) d_O_may_101 (by decide) <|
  J_ixor d_O_may_102 <|
  J_iand d_O_may_103 <|
  J_iret rfl d_O_may_104 ((((h10).1 c15)).2)) (fun c15 =>
  J_aload_n (i := 0) rfl rfl d_O_may_75 <|
  gO_12 rfl d_O_may_76 <|
  J_iload_n (i := 3) rfl rfl d_O_may_79 <|
  J_aload_n (i := 2) rfl rfl d_O_may_80 <|
  gO_153 rfl d_O_may_81 <|
  kO_156_i rfl rfl rfl (args := [.inl r11, .inl (s9 (59 + n2 % 60) 5)]) (((h10).2 c15)) d_O_may_84 (fun r14 s12 h13 =>
  J_iret rfl d_O_may_87 (h13)))))
theorem r_O_alias_0 {Q : Option mV → mS → Prop} {σ : mS} {x1 x2 x3 x4 : Int32} (h : MU M_P_hasName [.inr (1, 0), .inl x1, .inl x2] σ (fun r s1 => ∃ r3, r = some (.inl r3) ∧ ((r3 = 0 → (Q (some (.inl (-1))) s1)) ∧ (¬ r3 = 0 → (MU M_P_hasName [.inr (1, 0), .inl x3, .inl x4] s1 (fun r s4 => ∃ r6, r = some (.inl r6) ∧ ((¬ r6 = 0 → (MU M_S_settle [.inr (2, 0)] s4 (fun r s7 => r = none ∧ (MU M_S_inAllContexts [.inr (2, 0), .inl x1, .inl x2] s7 (fun r s9 => ∃ r11, r = some (.inl r11) ∧ (MU M_S_inAllContexts [.inr (2, 0), .inl x3, .inl x4] s9 (fun r s12 => ∃ r14, r = some (.inl r14) ∧ (((r11 &&& r14) = 0 → (Q (some (.inl 0)) s12)) ∧ (¬ (r11 &&& r14) = 0 → (Q (some (.inl 1)) s12)))))))))) ∧ (r6 = 0 → (Q (some (.inl (-1))) s4))))))))) : J M_O_alias Q 0 [some (.inr (0, 0)), some (.inl x1), some (.inl x2), some (.inl x3), some (.inl x4), none] [] σ :=
  J_aload_n (i := 0) rfl rfl d_O_alias_0 <|
  gO_12 rfl d_O_alias_1 <|
  J_iload_n (i := 1) rfl rfl d_O_alias_4 <|
  J_iload_n (i := 2) rfl rfl d_O_alias_5 <|
  kO_101_i rfl rfl rfl (args := [.inl x1, .inl x2]) (h) d_O_alias_6 (fun r3 s1 h2 =>
  J_if_eq (tgt := 25) d_O_alias_9 (by decide) (fun c17 =>
  J_iconst (v := (-1)) d_O_alias_25 (by decide) <|
  J_iret rfl d_O_alias_26 (((h2).1 c17))) (fun c17 =>
  J_aload_n (i := 0) rfl rfl d_O_alias_12 <|
  gO_12 rfl d_O_alias_13 <|
  J_iload_n (i := 3) rfl rfl d_O_alias_16 <|
  J_iload (i := 4) rfl d_O_alias_17 <|
  kO_101_i rfl rfl rfl (args := [.inl x3, .inl x4]) (((h2).2 c17)) d_O_alias_19 (fun r6 s4 h5 =>
  J_if_ne (tgt := 27) d_O_alias_22 (by decide) (fun c16 =>
  J_aload_n (i := 0) rfl rfl d_O_alias_27 <|
  gO_21 rfl d_O_alias_28 <|
  kO_108_v rfl rfl rfl (args := []) (((h5).1 c16)) d_O_alias_31 (fun s7 h8 =>
  J_aload_n (i := 0) rfl rfl d_O_alias_34 <|
  gO_21 rfl d_O_alias_35 <|
  J_iload_n (i := 1) rfl rfl d_O_alias_38 <|
  J_iload_n (i := 2) rfl rfl d_O_alias_39 <|
  kO_111_i rfl rfl rfl (args := [.inl x1, .inl x2]) (h8) d_O_alias_40 (fun r11 s9 h10 =>
  J_aload_n (i := 0) rfl rfl d_O_alias_43 <|
  gO_21 rfl d_O_alias_44 <|
  J_iload_n (i := 3) rfl rfl d_O_alias_47 <|
  J_iload (i := 4) rfl d_O_alias_48 <|
  kO_111_i rfl rfl rfl (args := [.inl x3, .inl x4]) (h10) d_O_alias_50 (fun r14 s12 h13 =>
  J_iand d_O_alias_53 <|
  J_istore (i := 5) (ls' := [some (.inr (0, 0)), some (.inl x1), some (.inl x2), some (.inl x3), some (.inl x4), some (.inl (r11 &&& r14))]) rfl rfl rfl d_O_alias_54 <|
  J_iload (i := 5) rfl d_O_alias_56 <|
  J_if_eq (tgt := 65) d_O_alias_58 (by decide) (fun c15 =>
  J_iconst (v := 0) d_O_alias_65 (by decide) <|
  J_iret rfl d_O_alias_66 (((h13).1 c15))) (fun c15 =>
  J_iconst (v := 1) d_O_alias_61 (by decide) <|
  J_goto (tgt := 66) d_O_alias_62 (by decide) <|
  J_iret rfl d_O_alias_66 (((h13).2 c15))))))) (fun c16 =>
  J_iconst (v := (-1)) d_O_alias_25 (by decide) <|
  J_iret rfl d_O_alias_26 (((h5).2 c16))))))
theorem r_O_rounds_0 {Q : Option mV → mS → Prop} {σ : mS} (h : MU M_S_settle [.inr (2, 0)] σ (fun r s1 => r = none ∧ (Q (some (.inl (s1 2 6))) s1))) : J M_O_rounds Q 0 [some (.inr (0, 0))] [] σ :=
  J_aload_n (i := 0) rfl rfl d_O_rounds_0 <|
  gO_21 rfl d_O_rounds_1 <|
  kO_108_v rfl rfl rfl (args := []) (h) d_O_rounds_4 (fun s1 h2 =>
  J_aload_n (i := 0) rfl rfl d_O_rounds_7 <|
  gO_21 rfl d_O_rounds_8 <|
  gO_163 rfl d_O_rounds_11 <|
  J_iret rfl d_O_rounds_14 (h2))
theorem r_O_when_0 {Q : Option mV → mS → Prop} {σ : mS} {x1 x2 x3 : Int32} (h : MU M_P_hasName [.inr (1, 0), .inl x1, .inl x2] σ (fun r s1 => ∃ r3, r = some (.inl r3) ∧ ((r3 = 0 → (Q (some (.inl (-1))) s1)) ∧ (¬ r3 = 0 → (MU M_P_hasSite [.inr (1, 0), .inl x3] s1 (fun r s4 => ∃ r6, r = some (.inl r6) ∧ ((¬ r6 = 0 → (MU M_S_settle [.inr (2, 0)] s4 (fun r s7 => r = none ∧ (MU M_S_firstRound [.inr (2, 0), .inl x1, .inl x2, .inl x3] s7 (fun r s9 => ∃ r11, r = some (.inl r11) ∧ ((¬ r11 = 0 → (Q (some (.inl r11)) s9)) ∧ (r11 = 0 → (Q (some (.inl (-nI 3))) s9)))))))) ∧ (r6 = 0 → (Q (some (.inl (-1))) s4))))))))) : J M_O_when Q 0 [some (.inr (0, 0)), some (.inl x1), some (.inl x2), some (.inl x3), none] [] σ :=
  J_aload_n (i := 0) rfl rfl d_O_when_0 <|
  gO_12 rfl d_O_when_1 <|
  J_iload_n (i := 1) rfl rfl d_O_when_4 <|
  J_iload_n (i := 2) rfl rfl d_O_when_5 <|
  kO_101_i rfl rfl rfl (args := [.inl x1, .inl x2]) (h) d_O_when_6 (fun r3 s1 h2 =>
  J_if_eq (tgt := 23) d_O_when_9 (by decide) (fun c14 =>
  J_iconst (v := (-1)) d_O_when_23 (by decide) <|
  J_iret rfl d_O_when_24 (((h2).1 c14))) (fun c14 =>
  J_aload_n (i := 0) rfl rfl d_O_when_12 <|
  gO_12 rfl d_O_when_13 <|
  J_iload_n (i := 3) rfl rfl d_O_when_16 <|
  kO_120_i rfl rfl rfl (args := [.inl x3]) (((h2).2 c14)) d_O_when_17 (fun r6 s4 h5 =>
  J_if_ne (tgt := 25) d_O_when_20 (by decide) (fun c13 =>
  J_aload_n (i := 0) rfl rfl d_O_when_25 <|
  gO_21 rfl d_O_when_26 <|
  kO_108_v rfl rfl rfl (args := []) (((h5).1 c13)) d_O_when_29 (fun s7 h8 =>
  J_aload_n (i := 0) rfl rfl d_O_when_32 <|
  gO_21 rfl d_O_when_33 <|
  J_iload_n (i := 1) rfl rfl d_O_when_36 <|
  J_iload_n (i := 2) rfl rfl d_O_when_37 <|
  J_iload_n (i := 3) rfl rfl d_O_when_38 <|
  kO_166_i rfl rfl rfl (args := [.inl x1, .inl x2, .inl x3]) (h8) d_O_when_39 (fun r11 s9 h10 =>
  J_istore (i := 4) (ls' := [some (.inr (0, 0)), some (.inl x1), some (.inl x2), some (.inl x3), some (.inl r11)]) rfl rfl rfl d_O_when_42 <|
  J_iload (i := 4) rfl d_O_when_44 <|
  J_if_ne (tgt := 54) d_O_when_46 (by decide) (fun c12 =>
  J_iload (i := 4) rfl d_O_when_54 <|
  J_iret rfl d_O_when_56 (((h10).1 c12))) (fun c12 =>
  J_bipush (v := (-nI 3)) d_O_when_49 (by decide) <|
  J_goto (tgt := 56) d_O_when_51 (by decide) <|
  J_iret rfl d_O_when_56 (((h10).2 c12)))))) (fun c13 =>
  J_iconst (v := (-1)) d_O_when_23 (by decide) <|
  J_iret rfl d_O_when_24 (((h5).2 c13))))))
theorem r_O_run_0 {Q : Option mV → mS → Prop} {σ : mS} {x1 x2 : Int32} (h : (x2 < 0 → (Q (some (.inl (-nI 2))) σ)) ∧ (¬ x2 < 0 → ((x2 ≤ (nI 300) → ((¬ (σ 1 2) = 0 → (MU M_S_settle [.inr (2, 0)] σ (fun r s1 => r = none ∧ (MU M_T_holdsFor [.inr (3, 0), .inl x1, .inl x2] s1 (fun r s3 => ∃ r5, r = some (.inl r5) ∧ ((r5 = 0 → (Q (some (.inl 0)) s3)) ∧ (¬ r5 = 0 → (Q (some (.inl 1)) s3)))))))) ∧ ((σ 1 2) = 0 → (Q (some (.inl (-nI 3))) σ)))) ∧ (¬ x2 ≤ (nI 300) → (Q (some (.inl (-nI 2))) σ))))) : J M_O_run Q 0 [some (.inr (0, 0)), some (.inl x1), some (.inl x2)] [] σ :=
  J_iload_n (i := 2) rfl rfl d_O_run_0 <|
  J_if_lt (tgt := 11) d_O_run_1 (by decide) (fun c9 =>
  J_bipush (v := (-nI 2)) d_O_run_11 (by decide) <|
  J_iret rfl d_O_run_13 (((h).1 c9))) (fun c9 =>
  J_iload_n (i := 2) rfl rfl d_O_run_4 <|
  J_sipush (v := (nI 300)) d_O_run_5 (by decide) <|
  J_icmp_le (tgt := 14) d_O_run_8 (by decide) (fun c8 =>
  J_aload_n (i := 0) rfl rfl d_O_run_14 <|
  gO_12 rfl d_O_run_15 <|
  gO_62 rfl d_O_run_18 <|
  J_if_ne (tgt := 27) d_O_run_21 (by decide) (fun c7 =>
  J_aload_n (i := 0) rfl rfl d_O_run_27 <|
  gO_21 rfl d_O_run_28 <|
  kO_108_v rfl rfl rfl (args := []) (((((((h).2 c9)).1 c8)).1 c7)) d_O_run_31 (fun s1 h2 =>
  J_aload_n (i := 0) rfl rfl d_O_run_34 <|
  gO_30 rfl d_O_run_35 <|
  J_iload_n (i := 1) rfl rfl d_O_run_38 <|
  J_iload_n (i := 2) rfl rfl d_O_run_39 <|
  kO_170_i rfl rfl rfl (args := [.inl x1, .inl x2]) (h2) d_O_run_40 (fun r5 s3 h4 =>
  J_if_eq (tgt := 50) d_O_run_43 (by decide) (fun c6 =>
  J_iconst (v := 0) d_O_run_50 (by decide) <|
  J_iret rfl d_O_run_51 (((h4).1 c6))) (fun c6 =>
  J_iconst (v := 1) d_O_run_46 (by decide) <|
  J_goto (tgt := 51) d_O_run_47 (by decide) <|
  J_iret rfl d_O_run_51 (((h4).2 c6)))))) (fun c7 =>
  J_bipush (v := (-nI 3)) d_O_run_24 (by decide) <|
  J_iret rfl d_O_run_26 (((((((h).2 c9)).1 c8)).2 c7)))) (fun c8 =>
  J_bipush (v := (-nI 2)) d_O_run_11 (by decide) <|
  J_iret rfl d_O_run_13 (((((h).2 c9)).2 c8))))
theorem r_O_met_0 {Q : Option mV → mS → Prop} {σ : mS} {x1 x2 : Int32} (h : MU M_P_hasName [.inr (1, 0), .inl x1, .inl x2] σ (fun r s1 => ∃ r3, r = some (.inl r3) ∧ ((¬ r3 = 0 → (vp_in ((x1 * (nI 6)) + x2) 60 ∧ (Q (some (.inl (s1 23 ((x1 * (nI 6)) + x2).toNatClampNeg))) s1))) ∧ (r3 = 0 → (Q (some (.inl (-1))) s1))))) : J M_O_met Q 0 [some (.inr (0, 0)), some (.inl x1), some (.inl x2)] [] σ :=
  J_aload_n (i := 0) rfl rfl d_O_met_0 <|
  gO_12 rfl d_O_met_1 <|
  J_iload_n (i := 1) rfl rfl d_O_met_4 <|
  J_iload_n (i := 2) rfl rfl d_O_met_5 <|
  kO_101_i rfl rfl rfl (args := [.inl x1, .inl x2]) (h) d_O_met_6 (fun r3 s1 h2 =>
  J_if_ne (tgt := 14) d_O_met_9 (by decide) (fun c4 =>
  J_aload_n (i := 0) rfl rfl d_O_met_14 <|
  gO_30 rfl d_O_met_15 <|
  gO_173 rfl d_O_met_18 <|
  J_iload_n (i := 1) rfl rfl d_O_met_21 <|
  J_bipush (v := (nI 6)) d_O_met_22 (by decide) <|
  J_imul d_O_met_24 <|
  J_iload_n (i := 2) rfl rfl d_O_met_25 <|
  J_iadd d_O_met_26 <|
  J_iald (((h2).1 c4)).1 d_O_met_27 <|
  J_iret rfl d_O_met_28 ((((h2).1 c4)).2)) (fun c4 =>
  J_iconst (v := (-1)) d_O_met_12 (by decide) <|
  J_iret rfl d_O_met_13 (((h2).2 c4))))
theorem r_O_ran_0 {Q : Option mV → mS → Prop} {σ : mS} {x1 : Int32} (h : (x1 = 0 → (Q (some (.inl (σ 3 11))) σ)) ∧ (x1 = 1 → (Q (some (.inl (σ 3 12))) σ)) ∧ (x1 = (nI 2) → (Q (some (.inl (σ 3 13))) σ)) ∧ (¬ x1 = 0 → ¬ x1 = 1 → ¬ x1 = (nI 2) → (Q (some (.inl (-nI 2))) σ))) : J M_O_ran Q 0 [some (.inr (0, 0)), some (.inl x1)] [] σ :=
  J_iload_n (i := 1) rfl rfl d_O_ran_0 <|
  Classical.byCases (p := x1 = 0) (fun c1 => J_tabIn (tgt := 28) c1 d_O_ran_1 (by decide) (by decide) rfl (by decide) <|
  J_aload_n (i := 0) rfl rfl d_O_ran_28 <|
  gO_30 rfl d_O_ran_29 <|
  gO_176 rfl d_O_ran_32 <|
  J_iret rfl d_O_ran_35 (((h).1 c1))) <| fun c1_0 =>
  Classical.byCases (p := x1 = 1) (fun c1 => J_tabIn (tgt := 36) c1 d_O_ran_1 (by decide) (by decide) rfl (by decide) <|
  J_aload_n (i := 0) rfl rfl d_O_ran_36 <|
  gO_30 rfl d_O_ran_37 <|
  gO_179 rfl d_O_ran_40 <|
  J_iret rfl d_O_ran_43 ((((h).2).1 c1))) <| fun c1_1 =>
  Classical.byCases (p := x1 = (nI 2)) (fun c1 => J_tabIn (tgt := 44) c1 d_O_ran_1 (by decide) (by decide) rfl (by decide) <|
  J_aload_n (i := 0) rfl rfl d_O_ran_44 <|
  gO_30 rfl d_O_ran_45 <|
  gO_182 rfl d_O_ran_48 <|
  J_iret rfl d_O_ran_51 (((((h).2).2).1 c1))) <| fun c1_2 =>
  J_tabOut (tgt := 52) (by have q0 := lv_neT (a := 0) c1_0 (by decide); have q1 := lv_neT (a := 1) c1_1 (by decide); have q2 := lv_neT (a := 2) c1_2 (by decide); omega) d_O_ran_1 (by decide) <|
  J_bipush (v := (-nI 2)) d_O_ran_52 (by decide) <|
  J_iret rfl d_O_ran_54 ((((((h).2).2).2) c1_0 c1_1 c1_2))
theorem r_O_forgetAnswers_0 {Q : Option mV → mS → Prop} {σ : mS} (h : MU M_T_forget [.inr (3, 0)] (m_up σ 2 7 0) (fun r s1 => r = none ∧ (Q none s1))) : J M_O_forgetAnswers Q 0 [some (.inr (0, 0))] [] σ :=
  J_aload_n (i := 0) rfl rfl d_O_forgetAnswers_0 <|
  gO_21 rfl d_O_forgetAnswers_1 <|
  J_iconst (v := 0) d_O_forgetAnswers_4 (by decide) <|
  pO_185 rfl (Or.inl rfl) d_O_forgetAnswers_5 <|
  J_aload_n (i := 0) rfl rfl d_O_forgetAnswers_8 <|
  gO_30 rfl d_O_forgetAnswers_9 <|
  kO_188_v rfl rfl rfl (args := []) (h) d_O_forgetAnswers_12 (fun s1 h2 =>
  J_vret rfl d_O_forgetAnswers_15 (h2))
theorem r_O_isName_0 {Q : Option mV → mS → Prop} {σ : mS} {x0 : Int32} (h : (x0 < 0 → (Q (some (.inl 0)) σ)) ∧ (¬ x0 < 0 → (((nI 6) ≤ x0 → (Q (some (.inl 0)) σ)) ∧ (¬ (nI 6) ≤ x0 → (Q (some (.inl 1)) σ))))) : J M_O_isName Q 0 [some (.inl x0)] [] σ :=
  J_iload_n (i := 0) rfl rfl d_O_isName_0 <|
  J_if_lt (tgt := 14) d_O_isName_1 (by decide) (fun c2 =>
  J_iconst (v := 0) d_O_isName_14 (by decide) <|
  J_zret rfl (Or.inl rfl) d_O_isName_15 (((h).1 c2))) (fun c2 =>
  J_iload_n (i := 0) rfl rfl d_O_isName_4 <|
  J_bipush (v := (nI 6)) d_O_isName_5 (by decide) <|
  J_icmp_ge (tgt := 14) d_O_isName_7 (by decide) (fun c1 =>
  J_iconst (v := 0) d_O_isName_14 (by decide) <|
  J_zret rfl (Or.inl rfl) d_O_isName_15 (((((h).2 c2)).1 c1))) (fun c1 =>
  J_iconst (v := 1) d_O_isName_10 (by decide) <|
  J_goto (tgt := 15) d_O_isName_11 (by decide) <|
  J_zret rfl (Or.inr rfl) d_O_isName_15 (((((h).2 c2)).2 c1))))
theorem r_O_isStatic_0 {Q : Option mV → mS → Prop} {σ : mS} {x0 : Int32} (h : (x0 < 0 → (Q (some (.inl 0)) σ)) ∧ (¬ x0 < 0 → (((nI 4) ≤ x0 → (Q (some (.inl 0)) σ)) ∧ (¬ (nI 4) ≤ x0 → (Q (some (.inl 1)) σ))))) : J M_O_isStatic Q 0 [some (.inl x0)] [] σ :=
  J_iload_n (i := 0) rfl rfl d_O_isStatic_0 <|
  J_if_lt (tgt := 13) d_O_isStatic_1 (by decide) (fun c2 =>
  J_iconst (v := 0) d_O_isStatic_13 (by decide) <|
  J_zret rfl (Or.inl rfl) d_O_isStatic_14 (((h).1 c2))) (fun c2 =>
  J_iload_n (i := 0) rfl rfl d_O_isStatic_4 <|
  J_iconst (v := (nI 4)) d_O_isStatic_5 (by decide) <|
  J_icmp_ge (tgt := 13) d_O_isStatic_6 (by decide) (fun c1 =>
  J_iconst (v := 0) d_O_isStatic_13 (by decide) <|
  J_zret rfl (Or.inl rfl) d_O_isStatic_14 (((((h).2 c2)).1 c1))) (fun c1 =>
  J_iconst (v := 1) d_O_isStatic_9 (by decide) <|
  J_goto (tgt := 14) d_O_isStatic_10 (by decide) <|
  J_zret rfl (Or.inr rfl) d_O_isStatic_14 (((((h).2 c2)).2 c1))))
theorem r_O_isSignature_0 {Q : Option mV → mS → Prop} {σ : mS} {x0 : Int32} (h : (x0 < 0 → (Q (some (.inl 0)) σ)) ∧ (¬ x0 < 0 → (((nI 4) ≤ x0 → (Q (some (.inl 0)) σ)) ∧ (¬ (nI 4) ≤ x0 → (Q (some (.inl 1)) σ))))) : J M_O_isSignature Q 0 [some (.inl x0)] [] σ :=
  J_iload_n (i := 0) rfl rfl d_O_isSignature_0 <|
  J_if_lt (tgt := 13) d_O_isSignature_1 (by decide) (fun c2 =>
  J_iconst (v := 0) d_O_isSignature_13 (by decide) <|
  J_zret rfl (Or.inl rfl) d_O_isSignature_14 (((h).1 c2))) (fun c2 =>
  J_iload_n (i := 0) rfl rfl d_O_isSignature_4 <|
  J_iconst (v := (nI 4)) d_O_isSignature_5 (by decide) <|
  J_icmp_ge (tgt := 13) d_O_isSignature_6 (by decide) (fun c1 =>
  J_iconst (v := 0) d_O_isSignature_13 (by decide) <|
  J_zret rfl (Or.inl rfl) d_O_isSignature_14 (((((h).2 c2)).1 c1))) (fun c1 =>
  J_iconst (v := 1) d_O_isSignature_9 (by decide) <|
  J_goto (tgt := 14) d_O_isSignature_10 (by decide) <|
  J_zret rfl (Or.inr rfl) d_O_isSignature_14 (((((h).2 c2)).2 c1))))
theorem r_O_hasBit_0 {Q : Option mV → mS → Prop} {σ : mS} {x0 x1 : Int32} (h : (((m_ushr x0 x1) &&& 1) = 0 → (Q (some (.inl 0)) σ)) ∧ (¬ ((m_ushr x0 x1) &&& 1) = 0 → (Q (some (.inl 1)) σ))) : J M_O_hasBit Q 0 [some (.inl x0), some (.inl x1)] [] σ :=
  J_iload_n (i := 0) rfl rfl d_O_hasBit_0 <|
  J_iload_n (i := 1) rfl rfl d_O_hasBit_1 <|
  J_iushr d_O_hasBit_2 <|
  J_iconst (v := 1) d_O_hasBit_3 (by decide) <|
  J_iand d_O_hasBit_4 <|
  J_if_eq (tgt := 12) d_O_hasBit_5 (by decide) (fun c1 =>
  J_iconst (v := 0) d_O_hasBit_12 (by decide) <|
  J_zret rfl (Or.inl rfl) d_O_hasBit_13 (((h).1 c1))) (fun c1 =>
  J_iconst (v := 1) d_O_hasBit_8 (by decide) <|
  J_goto (tgt := 13) d_O_hasBit_9 (by decide) <|
  J_zret rfl (Or.inr rfl) d_O_hasBit_13 (((h).2 c1)))
theorem r_O_namesOf_0 {Q : Option mV → mS → Prop} {σ : mS} {x0 x1 : Int32} (h : Q (some (.inl (((x0 * (nI 21)) + x1) * (nI 6)))) σ) : J M_O_namesOf Q 0 [some (.inl x0), some (.inl x1)] [] σ :=
  J_iload_n (i := 0) rfl rfl d_O_namesOf_0 <|
  J_bipush (v := (nI 21)) d_O_namesOf_1 (by decide) <|
  J_imul d_O_namesOf_3 <|
  J_iload_n (i := 1) rfl rfl d_O_namesOf_4 <|
  J_iadd d_O_namesOf_5 <|
  J_bipush (v := (nI 6)) d_O_namesOf_6 (by decide) <|
  J_imul d_O_namesOf_8 <|
  J_iret rfl d_O_namesOf_9 (h)
theorem r_O_slotPlace_0 {Q : Option mV → mS → Prop} {σ : mS} {x0 x1 : Int32} (h : Q (some (.inl (((nI 1260) + (x0 * (nI 9))) + x1))) σ) : J M_O_slotPlace Q 0 [some (.inl x0), some (.inl x1)] [] σ :=
  J_sipush (v := (nI 1260)) d_O_slotPlace_0 (by decide) <|
  J_iload_n (i := 0) rfl rfl d_O_slotPlace_3 <|
  J_bipush (v := (nI 9)) d_O_slotPlace_4 (by decide) <|
  J_imul d_O_slotPlace_6 <|
  J_iadd d_O_slotPlace_7 <|
  J_iload_n (i := 1) rfl rfl d_O_slotPlace_8 <|
  J_iadd d_O_slotPlace_9 <|
  J_iret rfl d_O_slotPlace_10 (h)
theorem r_M_isClass_0 {Q : Option mV → mS → Prop} {σ : mS} {x1 : Int32} (h : (x1 < 0 → (Q (some (.inl 0)) σ)) ∧ (¬ x1 < 0 → (((σ 25 0) ≤ x1 → (Q (some (.inl 0)) σ)) ∧ (¬ (σ 25 0) ≤ x1 → (Q (some (.inl 1)) σ))))) : J M_M_isClass Q 0 [some (.inr (25, 0)), some (.inl x1)] [] σ :=
  J_iload_n (i := 1) rfl rfl d_M_isClass_0 <|
  J_if_lt (tgt := 16) d_M_isClass_1 (by decide) (fun c2 =>
  J_iconst (v := 0) d_M_isClass_16 (by decide) <|
  J_zret rfl (Or.inl rfl) d_M_isClass_17 (((h).1 c2))) (fun c2 =>
  J_iload_n (i := 1) rfl rfl d_M_isClass_4 <|
  J_aload_n (i := 0) rfl rfl d_M_isClass_5 <|
  gM_109 rfl d_M_isClass_6 <|
  J_icmp_ge (tgt := 16) d_M_isClass_9 (by decide) (fun c1 =>
  J_iconst (v := 0) d_M_isClass_16 (by decide) <|
  J_zret rfl (Or.inl rfl) d_M_isClass_17 (((((h).2 c2)).1 c1))) (fun c1 =>
  J_iconst (v := 1) d_M_isClass_12 (by decide) <|
  J_goto (tgt := 17) d_M_isClass_13 (by decide) <|
  J_zret rfl (Or.inr rfl) d_M_isClass_17 (((((h).2 c2)).2 c1))))
theorem r_M_isField_0 {Q : Option mV → mS → Prop} {σ : mS} {x1 : Int32} (h : (x1 < 0 → (Q (some (.inl 0)) σ)) ∧ (¬ x1 < 0 → (((σ 25 2) ≤ x1 → (Q (some (.inl 0)) σ)) ∧ (¬ (σ 25 2) ≤ x1 → (Q (some (.inl 1)) σ))))) : J M_M_isField Q 0 [some (.inr (25, 0)), some (.inl x1)] [] σ :=
  J_iload_n (i := 1) rfl rfl d_M_isField_0 <|
  J_if_lt (tgt := 16) d_M_isField_1 (by decide) (fun c2 =>
  J_iconst (v := 0) d_M_isField_16 (by decide) <|
  J_zret rfl (Or.inl rfl) d_M_isField_17 (((h).1 c2))) (fun c2 =>
  J_iload_n (i := 1) rfl rfl d_M_isField_4 <|
  J_aload_n (i := 0) rfl rfl d_M_isField_5 <|
  gM_113 rfl d_M_isField_6 <|
  J_icmp_ge (tgt := 16) d_M_isField_9 (by decide) (fun c1 =>
  J_iconst (v := 0) d_M_isField_16 (by decide) <|
  J_zret rfl (Or.inl rfl) d_M_isField_17 (((((h).2 c2)).1 c1))) (fun c1 =>
  J_iconst (v := 1) d_M_isField_12 (by decide) <|
  J_goto (tgt := 17) d_M_isField_13 (by decide) <|
  J_zret rfl (Or.inr rfl) d_M_isField_17 (((((h).2 c2)).2 c1))))
theorem r_M_isMethod_0 {Q : Option mV → mS → Prop} {σ : mS} {x1 : Int32} (h : (x1 < 0 → (Q (some (.inl 0)) σ)) ∧ (¬ x1 < 0 → (((σ 25 4) ≤ x1 → (Q (some (.inl 0)) σ)) ∧ (¬ (σ 25 4) ≤ x1 → (Q (some (.inl 1)) σ))))) : J M_M_isMethod Q 0 [some (.inr (25, 0)), some (.inl x1)] [] σ :=
  J_iload_n (i := 1) rfl rfl d_M_isMethod_0 <|
  J_if_lt (tgt := 16) d_M_isMethod_1 (by decide) (fun c2 =>
  J_iconst (v := 0) d_M_isMethod_16 (by decide) <|
  J_zret rfl (Or.inl rfl) d_M_isMethod_17 (((h).1 c2))) (fun c2 =>
  J_iload_n (i := 1) rfl rfl d_M_isMethod_4 <|
  J_aload_n (i := 0) rfl rfl d_M_isMethod_5 <|
  gM_116 rfl d_M_isMethod_6 <|
  J_icmp_ge (tgt := 16) d_M_isMethod_9 (by decide) (fun c1 =>
  J_iconst (v := 0) d_M_isMethod_16 (by decide) <|
  J_zret rfl (Or.inl rfl) d_M_isMethod_17 (((((h).2 c2)).1 c1))) (fun c1 =>
  J_iconst (v := 1) d_M_isMethod_12 (by decide) <|
  J_goto (tgt := 17) d_M_isMethod_13 (by decide) <|
  J_zret rfl (Or.inr rfl) d_M_isMethod_17 (((((h).2 c2)).2 c1))))
theorem r_M_isName_0 {Q : Option mV → mS → Prop} {σ : mS} {x0 : Int32} (h : (x0 < 0 → (Q (some (.inl 0)) σ)) ∧ (¬ x0 < 0 → (((nI 6) ≤ x0 → (Q (some (.inl 0)) σ)) ∧ (¬ (nI 6) ≤ x0 → (Q (some (.inl 1)) σ))))) : J M_M_isName Q 0 [some (.inl x0)] [] σ :=
  J_iload_n (i := 0) rfl rfl d_M_isName_0 <|
  J_if_lt (tgt := 14) d_M_isName_1 (by decide) (fun c2 =>
  J_iconst (v := 0) d_M_isName_14 (by decide) <|
  J_zret rfl (Or.inl rfl) d_M_isName_15 (((h).1 c2))) (fun c2 =>
  J_iload_n (i := 0) rfl rfl d_M_isName_4 <|
  J_bipush (v := (nI 6)) d_M_isName_5 (by decide) <|
  J_icmp_ge (tgt := 14) d_M_isName_7 (by decide) (fun c1 =>
  J_iconst (v := 0) d_M_isName_14 (by decide) <|
  J_zret rfl (Or.inl rfl) d_M_isName_15 (((((h).2 c2)).1 c1))) (fun c1 =>
  J_iconst (v := 1) d_M_isName_10 (by decide) <|
  J_goto (tgt := 15) d_M_isName_11 (by decide) <|
  J_zret rfl (Or.inr rfl) d_M_isName_15 (((((h).2 c2)).2 c1))))
theorem r_M_isStatic_0 {Q : Option mV → mS → Prop} {σ : mS} {x0 : Int32} (h : (x0 < 0 → (Q (some (.inl 0)) σ)) ∧ (¬ x0 < 0 → (((nI 4) ≤ x0 → (Q (some (.inl 0)) σ)) ∧ (¬ (nI 4) ≤ x0 → (Q (some (.inl 1)) σ))))) : J M_M_isStatic Q 0 [some (.inl x0)] [] σ :=
  J_iload_n (i := 0) rfl rfl d_M_isStatic_0 <|
  J_if_lt (tgt := 13) d_M_isStatic_1 (by decide) (fun c2 =>
  J_iconst (v := 0) d_M_isStatic_13 (by decide) <|
  J_zret rfl (Or.inl rfl) d_M_isStatic_14 (((h).1 c2))) (fun c2 =>
  J_iload_n (i := 0) rfl rfl d_M_isStatic_4 <|
  J_iconst (v := (nI 4)) d_M_isStatic_5 (by decide) <|
  J_icmp_ge (tgt := 13) d_M_isStatic_6 (by decide) (fun c1 =>
  J_iconst (v := 0) d_M_isStatic_13 (by decide) <|
  J_zret rfl (Or.inl rfl) d_M_isStatic_14 (((((h).2 c2)).1 c1))) (fun c1 =>
  J_iconst (v := 1) d_M_isStatic_9 (by decide) <|
  J_goto (tgt := 14) d_M_isStatic_10 (by decide) <|
  J_zret rfl (Or.inr rfl) d_M_isStatic_14 (((((h).2 c2)).2 c1))))
theorem r_M_isUnder_0 {Q : Option mV → mS → Prop} {σ : mS} {x1 x2 : Int32} (h : J M_M_isUnder Q 2 [some (.inr (25, 0)), some (.inl x1), some (.inl x2), some (.inl x1)] [] σ) : J M_M_isUnder Q 0 [some (.inr (25, 0)), some (.inl x1), some (.inl x2), none] [] σ :=
  J_iload_n (i := 1) rfl rfl d_M_isUnder_0 <|
  J_istore_n (i := 3) (ls' := [some (.inr (25, 0)), some (.inl x1), some (.inl x2), some (.inl x1)]) rfl rfl rfl rfl d_M_isUnder_1 <|
  h
theorem r_M_isUnder_2 {Q : Option mV → mS → Prop} {σ : mS} {x2 x3 : Int32} {u1 : Option mV} (h : (x3 < 0 → ((x3 < 0 → (Q (some (.inl 0)) σ)) ∧ (¬ x3 < 0 → (Q (some (.inl 1)) σ)))) ∧ (¬ x3 < 0 → ((x3 = x2 → ((x3 < 0 → (Q (some (.inl 0)) σ)) ∧ (¬ x3 < 0 → (Q (some (.inl 1)) σ)))) ∧ (¬ x3 = x2 → (vp_in x3 8 ∧ (J M_M_isUnder Q 2 [some (.inr (25, 0)), u1, some (.inl x2), some (.inl (σ 26 x3.toNatClampNeg))] [] σ)))))) : J M_M_isUnder Q 2 [some (.inr (25, 0)), u1, some (.inl x2), some (.inl x3)] [] σ :=
  J_iload_n (i := 3) rfl rfl d_M_isUnder_2 <|
  J_if_lt (tgt := 21) d_M_isUnder_3 (by decide) (fun c4 =>
  J_iload_n (i := 3) rfl rfl d_M_isUnder_21 <|
  J_if_lt (tgt := 29) d_M_isUnder_22 (by decide) (fun c1 =>
  J_iconst (v := 0) d_M_isUnder_29 (by decide) <|
  J_zret rfl (Or.inl rfl) d_M_isUnder_30 (((((h).1 c4)).1 c1))) (fun c1 =>
  J_iconst (v := 1) d_M_isUnder_25 (by decide) <|
  J_goto (tgt := 30) d_M_isUnder_26 (by decide) <|
  J_zret rfl (Or.inr rfl) d_M_isUnder_30 (((((h).1 c4)).2 c1)))) (fun c4 =>
  J_iload_n (i := 3) rfl rfl d_M_isUnder_6 <|
  J_iload_n (i := 2) rfl rfl d_M_isUnder_7 <|
  J_icmp_eq (tgt := 21) d_M_isUnder_8 (by decide) (fun c3 =>
  J_iload_n (i := 3) rfl rfl d_M_isUnder_21 <|
  J_if_lt (tgt := 29) d_M_isUnder_22 (by decide) (fun c2 =>
  J_iconst (v := 0) d_M_isUnder_29 (by decide) <|
  J_zret rfl (Or.inl rfl) d_M_isUnder_30 (((((((h).2 c4)).1 c3)).1 c2))) (fun c2 =>
  J_iconst (v := 1) d_M_isUnder_25 (by decide) <|
  J_goto (tgt := 30) d_M_isUnder_26 (by decide) <|
  J_zret rfl (Or.inr rfl) d_M_isUnder_30 (((((((h).2 c4)).1 c3)).2 c2)))) (fun c3 =>
  J_aload_n (i := 0) rfl rfl d_M_isUnder_11 <|
  gM_7 rfl d_M_isUnder_12 <|
  J_iload_n (i := 3) rfl rfl d_M_isUnder_15 <|
  J_iald (((((h).2 c4)).2 c3)).1 d_M_isUnder_16 <|
  J_istore_n (i := 3) (ls' := [some (.inr (25, 0)), u1, some (.inl x2), some (.inl (σ 26 x3.toNatClampNeg))]) rfl rfl rfl rfl d_M_isUnder_17 <|
  J_goto (tgt := 2) d_M_isUnder_18 (by decide) <|
  (((((h).2 c4)).2 c3)).2))
theorem r_M_hasField_0 {Q : Option mV → mS → Prop} {σ : mS} {x1 x2 : Int32} (h : vp_in x1 20 ∧ (vp_in x2 8 ∧ (MU M_M_isUnder [.inr (25, 0), .inl (σ 38 x1.toNatClampNeg), .inl (σ 27 x2.toNatClampNeg)] σ (fun r s1 => ∃ r3, r = some (.inl r3) ∧ ((r3 = 0 ∨ r3 = 1) ∧ Q (some (.inl r3)) s1))))) : J M_M_hasField Q 0 [some (.inr (25, 0)), some (.inl x1), some (.inl x2)] [] σ :=
  J_aload_n (i := 0) rfl rfl d_M_hasField_0 <|
  J_aload_n (i := 0) rfl rfl d_M_hasField_1 <|
  gM_46 rfl d_M_hasField_2 <|
  J_iload_n (i := 1) rfl rfl d_M_hasField_5 <|
  J_iald (h).1 d_M_hasField_6 <|
  J_aload_n (i := 0) rfl rfl d_M_hasField_7 <|
  gM_13 rfl d_M_hasField_8 <|
  J_iload_n (i := 2) rfl rfl d_M_hasField_11 <|
  J_iald ((h).2).1 d_M_hasField_12 <|
  kM_119_i rfl rfl rfl (args := [.inl (σ 38 x1.toNatClampNeg), .inl (σ 27 x2.toNatClampNeg)]) (((h).2).2) d_M_hasField_13 (fun r3 s1 h2 =>
  J_zret rfl (h2).1 d_M_hasField_16 (h2).2)
theorem r_M_methodWith_0 {Q : Option mV → mS → Prop} {σ : mS} {x1 x2 : Int32} (h : J M_M_methodWith Q 2 [some (.inr (25, 0)), some (.inl x1), some (.inl x2), some (.inl 0)] [] σ) : J M_M_methodWith Q 0 [some (.inr (25, 0)), some (.inl x1), some (.inl x2), none] [] σ :=
  J_iconst (v := 0) d_M_methodWith_0 (by decide) <|
  J_istore_n (i := 3) (ls' := [some (.inr (25, 0)), some (.inl x1), some (.inl x2), some (.inl 0)]) rfl rfl rfl rfl d_M_methodWith_1 <|
  h
theorem r_M_methodWith_2 {Q : Option mV → mS → Prop} {σ : mS} {x1 x2 x3 : Int32} (h : ((σ 25 4) ≤ x3 → (Q (some (.inl (-1))) σ)) ∧ (¬ (σ 25 4) ≤ x3 → (vp_in x3 10 ∧ ((¬ (σ 28 x3.toNatClampNeg) = x1 → (J M_M_methodWith Q 2 [some (.inr (25, 0)), some (.inl x1), some (.inl x2), some (.inl (x3 + 1))] [] σ)) ∧ ((σ 28 x3.toNatClampNeg) = x1 → (vp_in x3 10 ∧ ((¬ (σ 29 x3.toNatClampNeg) = x2 → (J M_M_methodWith Q 2 [some (.inr (25, 0)), some (.inl x1), some (.inl x2), some (.inl (x3 + 1))] [] σ)) ∧ ((σ 29 x3.toNatClampNeg) = x2 → (Q (some (.inl x3)) σ))))))))) : J M_M_methodWith Q 2 [some (.inr (25, 0)), some (.inl x1), some (.inl x2), some (.inl x3)] [] σ :=
  J_iload_n (i := 3) rfl rfl d_M_methodWith_2 <|
  J_aload_n (i := 0) rfl rfl d_M_methodWith_3 <|
  gM_116 rfl d_M_methodWith_4 <|
  J_icmp_ge (tgt := 38) d_M_methodWith_7 (by decide) (fun c3 =>
  J_iconst (v := (-1)) d_M_methodWith_38 (by decide) <|
  J_iret rfl d_M_methodWith_39 (((h).1 c3))) (fun c3 =>
  J_aload_n (i := 0) rfl rfl d_M_methodWith_10 <|
  gM_16 rfl d_M_methodWith_11 <|
  J_iload_n (i := 3) rfl rfl d_M_methodWith_14 <|
  J_iald (((h).2 c3)).1 d_M_methodWith_15 <|
  J_iload_n (i := 1) rfl rfl d_M_methodWith_16 <|
  J_icmp_ne (tgt := 32) d_M_methodWith_17 (by decide) (fun c2 =>
  J_iinc (i := 3) (v := (x3 + 1)) (ls' := [some (.inr (25, 0)), some (.inl x1), some (.inl x2), some (.inl (x3 + 1))]) rfl rfl rfl rfl rfl d_M_methodWith_32 <|
  J_goto (tgt := 2) d_M_methodWith_35 (by decide) <|
  (((((h).2 c3)).2).1 c2)) (fun c2 =>
  J_aload_n (i := 0) rfl rfl d_M_methodWith_20 <|
  gM_19 rfl d_M_methodWith_21 <|
  J_iload_n (i := 3) rfl rfl d_M_methodWith_24 <|
  J_iald ((((((h).2 c3)).2).2 c2)).1 d_M_methodWith_25 <|
  J_iload_n (i := 2) rfl rfl d_M_methodWith_26 <|
  J_icmp_ne (tgt := 32) d_M_methodWith_27 (by decide) (fun c1 =>
  J_iinc (i := 3) (v := (x3 + 1)) (ls' := [some (.inr (25, 0)), some (.inl x1), some (.inl x2), some (.inl (x3 + 1))]) rfl rfl rfl rfl rfl d_M_methodWith_32 <|
  J_goto (tgt := 2) d_M_methodWith_35 (by decide) <|
  ((((((((h).2 c3)).2).2 c2)).2).1 c1)) (fun c1 =>
  J_iload_n (i := 3) rfl rfl d_M_methodWith_30 <|
  J_iret rfl d_M_methodWith_31 (((((((((h).2 c3)).2).2 c2)).2).2 c1)))))
theorem r_M_found_0 {Q : Option mV → mS → Prop} {σ : mS} {x1 x2 : Int32} (h : J M_M_found Q 2 [some (.inr (25, 0)), some (.inl x1), some (.inl x2), some (.inl x1), none] [] σ) : J M_M_found Q 0 [some (.inr (25, 0)), some (.inl x1), some (.inl x2), none, none] [] σ :=
  J_iload_n (i := 1) rfl rfl d_M_found_0 <|
  J_istore_n (i := 3) (ls' := [some (.inr (25, 0)), some (.inl x1), some (.inl x2), some (.inl x1), none]) rfl rfl rfl rfl d_M_found_1 <|
  h
theorem r_M_found_2 {Q : Option mV → mS → Prop} {σ : mS} {x2 x3 : Int32} {u1 u4 : Option mV} (h : (x3 < 0 → (Q (some (.inl (-1))) σ)) ∧ (¬ x3 < 0 → (MU M_M_methodWith [.inr (25, 0), .inl x3, .inl x2] σ (fun r s1 => ∃ r3, r = some (.inl r3) ∧ ((r3 < 0 → (vp_in x3 8 ∧ (J M_M_found Q 2 [some (.inr (25, 0)), u1, some (.inl x2), some (.inl (s1 26 x3.toNatClampNeg)), some (.inl r3)] [] s1))) ∧ (¬ r3 < 0 → (Q (some (.inl r3)) s1))))))) : J M_M_found Q 2 [some (.inr (25, 0)), u1, some (.inl x2), some (.inl x3), u4] [] σ :=
  J_iload_n (i := 3) rfl rfl d_M_found_2 <|
  J_if_lt (tgt := 32) d_M_found_3 (by decide) (fun c5 =>
  J_iconst (v := (-1)) d_M_found_32 (by decide) <|
  J_iret rfl d_M_found_33 (((h).1 c5))) (fun c5 =>
  J_aload_n (i := 0) rfl rfl d_M_found_6 <|
  J_iload_n (i := 3) rfl rfl d_M_found_7 <|
  J_iload_n (i := 2) rfl rfl d_M_found_8 <|
  kM_123_i rfl rfl rfl (args := [.inl x3, .inl x2]) (((h).2 c5)) d_M_found_9 (fun r3 s1 h2 =>
  J_istore (i := 4) (ls' := [some (.inr (25, 0)), u1, some (.inl x2), some (.inl x3), some (.inl r3)]) rfl rfl rfl d_M_found_12 <|
  J_iload (i := 4) rfl d_M_found_14 <|
  J_if_lt (tgt := 22) d_M_found_16 (by decide) (fun c4 =>
  J_aload_n (i := 0) rfl rfl d_M_found_22 <|
  gM_7 rfl d_M_found_23 <|
  J_iload_n (i := 3) rfl rfl d_M_found_26 <|
  J_iald (((h2).1 c4)).1 d_M_found_27 <|
  J_istore_n (i := 3) (ls' := [some (.inr (25, 0)), u1, some (.inl x2), some (.inl (s1 26 x3.toNatClampNeg)), some (.inl r3)]) rfl rfl rfl rfl d_M_found_28 <|
  J_goto (tgt := 2) d_M_found_29 (by decide) <|
  (((h2).1 c4)).2) (fun c4 =>
  J_iload (i := 4) rfl d_M_found_19 <|
  J_iret rfl d_M_found_21 (((h2).2 c4)))))
theorem r_M_change_0 {Q : Option mV → mS → Prop} {σ : mS} (h : MU M_M_forgetRun [.inr (25, 0)] (m_up σ 25 19 0) (fun r s1 => r = none ∧ (Q none s1))) : J M_M_change Q 0 [some (.inr (25, 0))] [] σ :=
  J_aload_n (i := 0) rfl rfl d_M_change_0 <|
  J_iconst (v := 0) d_M_change_1 (by decide) <|
  pM_127 rfl (Or.inl rfl) d_M_change_2 <|
  J_aload_n (i := 0) rfl rfl d_M_change_5 <|
  kM_131_v rfl rfl rfl (args := []) (h) d_M_change_6 (fun s1 h2 =>
  J_vret rfl d_M_change_9 (h2))
theorem r_M_cls_0 {Q : Option mV → mS → Prop} {σ : mS} {x1 : Int32} (h : (x1 < (-1) → (Q (some (.inl (-1))) σ)) ∧ (¬ x1 < (-1) → ((x1 < (σ 25 0) → ((¬ (σ 25 0) = (nI 8) → (vp_in (σ 25 0) 8 ∧ (MU M_M_change [.inr (25, 0)] (m_up (m_up σ 26 (σ 25 0).toNatClampNeg x1) 25 0 (((m_up σ 26 (σ 25 0).toNatClampNeg x1) 25 0) + 1)) (fun r s1 => r = none ∧ (Q (some (.inl ((s1 25 0) - 1))) s1))))) ∧ ((σ 25 0) = (nI 8) → (Q (some (.inl (-nI 4))) σ)))) ∧ (¬ x1 < (σ 25 0) → (Q (some (.inl (-1))) σ))))) : J M_M_cls Q 0 [some (.inr (25, 0)), some (.inl x1)] [] σ :=
  J_iload_n (i := 1) rfl rfl d_M_cls_0 <|
  J_iconst (v := (-1)) d_M_cls_1 (by decide) <|
  J_icmp_lt (tgt := 13) d_M_cls_2 (by decide) (fun c5 =>
  J_iconst (v := (-1)) d_M_cls_13 (by decide) <|
  J_iret rfl d_M_cls_14 (((h).1 c5))) (fun c5 =>
  J_iload_n (i := 1) rfl rfl d_M_cls_5 <|
  J_aload_n (i := 0) rfl rfl d_M_cls_6 <|
  gM_109 rfl d_M_cls_7 <|
  J_icmp_lt (tgt := 15) d_M_cls_10 (by decide) (fun c4 =>
  J_aload_n (i := 0) rfl rfl d_M_cls_15 <|
  gM_109 rfl d_M_cls_16 <|
  J_bipush (v := (nI 8)) d_M_cls_19 (by decide) <|
  J_icmp_ne (tgt := 27) d_M_cls_21 (by decide) (fun c3 =>
  J_aload_n (i := 0) rfl rfl d_M_cls_27 <|
  gM_7 rfl d_M_cls_28 <|
  J_aload_n (i := 0) rfl rfl d_M_cls_31 <|
  gM_109 rfl d_M_cls_32 <|
  J_iload_n (i := 1) rfl rfl d_M_cls_35 <|
  J_iast (((((((h).2 c5)).1 c4)).1 c3)).1 d_M_cls_36 <|
  J_aload_n (i := 0) rfl rfl d_M_cls_37 <|
  J_dup d_M_cls_38 <|
  gM_109 rfl d_M_cls_39 <|
  J_iconst (v := 1) d_M_cls_42 (by decide) <|
  J_iadd d_M_cls_43 <|
  pM_109 rfl d_M_cls_44 <|
  J_aload_n (i := 0) rfl rfl d_M_cls_47 <|
  kM_134_v rfl rfl rfl (args := []) ((((((((h).2 c5)).1 c4)).1 c3)).2) d_M_cls_48 (fun s1 h2 =>
  J_aload_n (i := 0) rfl rfl d_M_cls_51 <|
  gM_109 rfl d_M_cls_52 <|
  J_iconst (v := 1) d_M_cls_55 (by decide) <|
  J_isub d_M_cls_56 <|
  J_iret rfl d_M_cls_57 (h2))) (fun c3 =>
  J_bipush (v := (-nI 4)) d_M_cls_24 (by decide) <|
  J_iret rfl d_M_cls_26 (((((((h).2 c5)).1 c4)).2 c3)))) (fun c4 =>
  J_iconst (v := (-1)) d_M_cls_13 (by decide) <|
  J_iret rfl d_M_cls_14 (((((h).2 c5)).2 c4))))
end
