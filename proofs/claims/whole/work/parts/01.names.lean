-- ===== PART A: goes FIRST, ahead of the names: the tables' words, and 'selects' of the private methods out of them =====
/-- a private method of a class that the tables say can be made, by its rows of tables_1 -/
def lw_okq (q : MethodName × Nat) : Prop := (q.1.cls ≠ "java/lang/invoke/MethodHandle" ∧ q.1.cls ≠ "java/lang/invoke/VarHandle") ∧ Cond.instantiable q.1.cls q.2 ∈ tables_1 ∧ Cond.privateMethod q.1 ∈ tables_1 ∧ Cond.instanceMethod q.1 ∈ tables_1
theorem lw_p0 : lw_okq (⟨"SackedGlass$World", "followAgenda", "(LSackedGlass$Court;)V"⟩, 8) := ⟨⟨by decide +kernel, by decide +kernel⟩, List.mem_of_getElem? (i := 66) (by decide +kernel), List.mem_of_getElem? (i := 468) (by decide +kernel), List.mem_of_getElem? (i := 469) (by decide +kernel)⟩
theorem lw_p1 : lw_okq (⟨"SackedGlass$World", "tellAll", "(LSackedGlass$Court;)Z"⟩, 8) := ⟨⟨by decide +kernel, by decide +kernel⟩, List.mem_of_getElem? (i := 66) (by decide +kernel), List.mem_of_getElem? (i := 478) (by decide +kernel), List.mem_of_getElem? (i := 479) (by decide +kernel)⟩
theorem lw_p2 : lw_okq (⟨"SackedGlass$World", "freeWord", "(LSackedGlass$Court;I)I"⟩, 8) := ⟨⟨by decide +kernel, by decide +kernel⟩, List.mem_of_getElem? (i := 66) (by decide +kernel), List.mem_of_getElem? (i := 484) (by decide +kernel), List.mem_of_getElem? (i := 485) (by decide +kernel)⟩
theorem lw_p3 : lw_okq (⟨"SackedGlass$Law", "reckon", "(II)I"⟩, 9) := ⟨⟨by decide +kernel, by decide +kernel⟩, List.mem_of_getElem? (i := 145) (by decide +kernel), List.mem_of_getElem? (i := 506) (by decide +kernel), List.mem_of_getElem? (i := 507) (by decide +kernel)⟩
theorem lw_p4 : lw_okq (⟨"SackedGlass$World", "moveGlass", "(LSackedGlass$Court;)V"⟩, 8) := ⟨⟨by decide +kernel, by decide +kernel⟩, List.mem_of_getElem? (i := 66) (by decide +kernel), List.mem_of_getElem? (i := 530) (by decide +kernel), List.mem_of_getElem? (i := 531) (by decide +kernel)⟩
theorem lw_p5 : lw_okq (⟨"SackedGlass$World", "blameAll", "(LSackedGlass$Court;)V"⟩, 8) := ⟨⟨by decide +kernel, by decide +kernel⟩, List.mem_of_getElem? (i := 66) (by decide +kernel), List.mem_of_getElem? (i := 547) (by decide +kernel), List.mem_of_getElem? (i := 548) (by decide +kernel)⟩
theorem lw_p6 : lw_okq (⟨"SackedGlass$World", "floodAny", "(LSackedGlass$Court;)V"⟩, 8) := ⟨⟨by decide +kernel, by decide +kernel⟩, List.mem_of_getElem? (i := 66) (by decide +kernel), List.mem_of_getElem? (i := 563) (by decide +kernel), List.mem_of_getElem? (i := 564) (by decide +kernel)⟩
theorem lw_p7 : lw_okq (⟨"SackedGlass$World", "fallAny", "(LSackedGlass$Court;)I"⟩, 8) := ⟨⟨by decide +kernel, by decide +kernel⟩, List.mem_of_getElem? (i := 66) (by decide +kernel), List.mem_of_getElem? (i := 567) (by decide +kernel), List.mem_of_getElem? (i := 568) (by decide +kernel)⟩
theorem lw_p8 : lw_okq (⟨"SackedGlass$World", "nameAny", "(LSackedGlass$Court;)V"⟩, 8) := ⟨⟨by decide +kernel, by decide +kernel⟩, List.mem_of_getElem? (i := 66) (by decide +kernel), List.mem_of_getElem? (i := 571) (by decide +kernel), List.mem_of_getElem? (i := 572) (by decide +kernel)⟩
theorem lw_p9 : lw_okq (⟨"SackedGlass$Tape", "runFrom", "(I)I"⟩, 8) := ⟨⟨by decide +kernel, by decide +kernel⟩, List.mem_of_getElem? (i := 31) (by decide +kernel), List.mem_of_getElem? (i := 616) (by decide +kernel), List.mem_of_getElem? (i := 617) (by decide +kernel)⟩
theorem lw_p10 : lw_okq (⟨"SackedGlass$Tape", "tokenOf", "(IILjava/lang/String;)I"⟩, 8) := ⟨⟨by decide +kernel, by decide +kernel⟩, List.mem_of_getElem? (i := 31) (by decide +kernel), List.mem_of_getElem? (i := 629) (by decide +kernel), List.mem_of_getElem? (i := 630) (by decide +kernel)⟩
theorem lw_p11 : lw_okq (⟨"SackedGlass$Tape", "wordOf", "(IILjava/lang/String;)I"⟩, 8) := ⟨⟨by decide +kernel, by decide +kernel⟩, List.mem_of_getElem? (i := 31) (by decide +kernel), List.mem_of_getElem? (i := 633) (by decide +kernel), List.mem_of_getElem? (i := 634) (by decide +kernel)⟩
theorem lw_p12 : lw_okq (⟨"SackedGlass$Tape", "isSame", "(IILjava/lang/String;I)Z"⟩, 8) := ⟨⟨by decide +kernel, by decide +kernel⟩, List.mem_of_getElem? (i := 31) (by decide +kernel), List.mem_of_getElem? (i := 685) (by decide +kernel), List.mem_of_getElem? (i := 686) (by decide +kernel)⟩
theorem lw_p13 : lw_okq (⟨"SackedGlass$Tape", "numberOf", "(II)I"⟩, 8) := ⟨⟨by decide +kernel, by decide +kernel⟩, List.mem_of_getElem? (i := 31) (by decide +kernel), List.mem_of_getElem? (i := 745) (by decide +kernel), List.mem_of_getElem? (i := 746) (by decide +kernel)⟩
theorem lw_p14 : lw_okq (⟨"SackedGlass$Law", "readLine", "(LSackedGlass$Tape;)Z"⟩, 9) := ⟨⟨by decide +kernel, by decide +kernel⟩, List.mem_of_getElem? (i := 145) (by decide +kernel), List.mem_of_getElem? (i := 753) (by decide +kernel), List.mem_of_getElem? (i := 754) (by decide +kernel)⟩
theorem lw_p15 : lw_okq (⟨"SackedGlass$Law", "readSum", "(LSackedGlass$Tape;)Z"⟩, 9) := ⟨⟨by decide +kernel, by decide +kernel⟩, List.mem_of_getElem? (i := 145) (by decide +kernel), List.mem_of_getElem? (i := 765) (by decide +kernel), List.mem_of_getElem? (i := 766) (by decide +kernel)⟩
def lw_privs_1 : List (MethodName × Nat) := [(⟨"SackedGlass$World", "followAgenda", "(LSackedGlass$Court;)V"⟩, 8), (⟨"SackedGlass$World", "tellAll", "(LSackedGlass$Court;)Z"⟩, 8), (⟨"SackedGlass$World", "freeWord", "(LSackedGlass$Court;I)I"⟩, 8), (⟨"SackedGlass$Law", "reckon", "(II)I"⟩, 9), (⟨"SackedGlass$World", "moveGlass", "(LSackedGlass$Court;)V"⟩, 8), (⟨"SackedGlass$World", "blameAll", "(LSackedGlass$Court;)V"⟩, 8), (⟨"SackedGlass$World", "floodAny", "(LSackedGlass$Court;)V"⟩, 8), (⟨"SackedGlass$World", "fallAny", "(LSackedGlass$Court;)I"⟩, 8), (⟨"SackedGlass$World", "nameAny", "(LSackedGlass$Court;)V"⟩, 8), (⟨"SackedGlass$Tape", "runFrom", "(I)I"⟩, 8), (⟨"SackedGlass$Tape", "tokenOf", "(IILjava/lang/String;)I"⟩, 8), (⟨"SackedGlass$Tape", "wordOf", "(IILjava/lang/String;)I"⟩, 8), (⟨"SackedGlass$Tape", "isSame", "(IILjava/lang/String;I)Z"⟩, 8), (⟨"SackedGlass$Tape", "numberOf", "(II)I"⟩, 8), (⟨"SackedGlass$Law", "readLine", "(LSackedGlass$Tape;)Z"⟩, 9), (⟨"SackedGlass$Law", "readSum", "(LSackedGlass$Tape;)Z"⟩, 9)]
theorem lw_r1 : ∀ q ∈ lw_privs_1, lw_okq q := List.forall_mem_cons.mpr ⟨lw_p0, List.forall_mem_cons.mpr ⟨lw_p1, List.forall_mem_cons.mpr ⟨lw_p2, List.forall_mem_cons.mpr ⟨lw_p3, List.forall_mem_cons.mpr ⟨lw_p4, List.forall_mem_cons.mpr ⟨lw_p5, List.forall_mem_cons.mpr ⟨lw_p6, List.forall_mem_cons.mpr ⟨lw_p7, List.forall_mem_cons.mpr ⟨lw_p8, List.forall_mem_cons.mpr ⟨lw_p9, List.forall_mem_cons.mpr ⟨lw_p10, List.forall_mem_cons.mpr ⟨lw_p11, List.forall_mem_cons.mpr ⟨lw_p12, List.forall_mem_cons.mpr ⟨lw_p13, List.forall_mem_cons.mpr ⟨lw_p14, List.forall_mem_cons.mpr ⟨lw_p15, fun _ h => absurd h List.not_mem_nil⟩⟩⟩⟩⟩⟩⟩⟩⟩⟩⟩⟩⟩⟩⟩⟩
theorem lw_p16 : lw_okq (⟨"SackedGlass$Law", "readUnit", "(LSackedGlass$Tape;Z)Z"⟩, 9) := ⟨⟨by decide +kernel, by decide +kernel⟩, List.mem_of_getElem? (i := 145) (by decide +kernel), List.mem_of_getElem? (i := 769) (by decide +kernel), List.mem_of_getElem? (i := 770) (by decide +kernel)⟩
theorem lw_p17 : lw_okq (⟨"SackedGlass$Law", "emit", "(I)V"⟩, 9) := ⟨⟨by decide +kernel, by decide +kernel⟩, List.mem_of_getElem? (i := 145) (by decide +kernel), List.mem_of_getElem? (i := 777) (by decide +kernel), List.mem_of_getElem? (i := 778) (by decide +kernel)⟩
theorem lw_p18 : lw_okq (⟨"SackedGlass$Law", "readEither", "(LSackedGlass$Tape;I)Z"⟩, 9) := ⟨⟨by decide +kernel, by decide +kernel⟩, List.mem_of_getElem? (i := 145) (by decide +kernel), List.mem_of_getElem? (i := 781) (by decide +kernel), List.mem_of_getElem? (i := 782) (by decide +kernel)⟩
theorem lw_p19 : lw_okq (⟨"SackedGlass$Law", "readTest", "(LSackedGlass$Tape;I)Z"⟩, 9) := ⟨⟨by decide +kernel, by decide +kernel⟩, List.mem_of_getElem? (i := 145) (by decide +kernel), List.mem_of_getElem? (i := 785) (by decide +kernel), List.mem_of_getElem? (i := 786) (by decide +kernel)⟩
theorem lw_p20 : lw_okq (⟨"SackedGlass$Rounds", "readLine", "(LSackedGlass$Tape;)Z"⟩, 4) := ⟨⟨by decide +kernel, by decide +kernel⟩, List.mem_of_getElem? (i := 180) (by decide +kernel), List.mem_of_getElem? (i := 807) (by decide +kernel), List.mem_of_getElem? (i := 808) (by decide +kernel)⟩
theorem lw_p21 : lw_okq (⟨"SackedGlass$Agenda", "readLine", "(LSackedGlass$Tape;I)Z"⟩, 5) := ⟨⟨by decide +kernel, by decide +kernel⟩, List.mem_of_getElem? (i := 200) (by decide +kernel), List.mem_of_getElem? (i := 830) (by decide +kernel), List.mem_of_getElem? (i := 831) (by decide +kernel)⟩
theorem lw_p22 : lw_okq (⟨"SackedGlass$Agenda", "readWhom", "(LSackedGlass$Tape;I)Z"⟩, 5) := ⟨⟨by decide +kernel, by decide +kernel⟩, List.mem_of_getElem? (i := 200) (by decide +kernel), List.mem_of_getElem? (i := 839) (by decide +kernel), List.mem_of_getElem? (i := 840) (by decide +kernel)⟩
theorem lw_p23 : lw_okq (⟨"SackedGlass$Memory", "saidIn", "(II)I"⟩, 4) := ⟨⟨by decide +kernel, by decide +kernel⟩, List.mem_of_getElem? (i := 238) (by decide +kernel), List.mem_of_getElem? (i := 903) (by decide +kernel), List.mem_of_getElem? (i := 904) (by decide +kernel)⟩
theorem lw_p24 : lw_okq (⟨"SackedGlass$Notes", "repeatsAfter", "(I)Z"⟩, 9) := ⟨⟨by decide +kernel, by decide +kernel⟩, List.mem_of_getElem? (i := 259) (by decide +kernel), List.mem_of_getElem? (i := 965) (by decide +kernel), List.mem_of_getElem? (i := 966) (by decide +kernel)⟩
theorem lw_p25 : lw_okq (⟨"SackedGlass$Notes", "tellersOf", "(I)I"⟩, 9) := ⟨⟨by decide +kernel, by decide +kernel⟩, List.mem_of_getElem? (i := 259) (by decide +kernel), List.mem_of_getElem? (i := 1003) (by decide +kernel), List.mem_of_getElem? (i := 1004) (by decide +kernel)⟩
theorem lw_p26 : lw_okq (⟨"SackedGlass", "theCouncil", "()LSackedGlass$Council;"⟩, 9) := ⟨⟨by decide +kernel, by decide +kernel⟩, List.mem_of_getElem? (i := 23) (by decide +kernel), List.mem_of_getElem? (i := 1014) (by decide +kernel), List.mem_of_getElem? (i := 1015) (by decide +kernel)⟩
theorem lw_p27 : lw_okq (⟨"SackedGlass$Council", "countVotes", "(LSackedGlass$Court;)I"⟩, 2) := ⟨⟨by decide +kernel, by decide +kernel⟩, List.mem_of_getElem? (i := 1018) (by decide +kernel), List.mem_of_getElem? (i := 1049) (by decide +kernel), List.mem_of_getElem? (i := 1050) (by decide +kernel)⟩
theorem lw_p28 : lw_okq (⟨"SackedGlass$Council", "countWorths", "(LSackedGlass$Court;LSackedGlass$Notes;)V"⟩, 2) := ⟨⟨by decide +kernel, by decide +kernel⟩, List.mem_of_getElem? (i := 1018) (by decide +kernel), List.mem_of_getElem? (i := 1086) (by decide +kernel), List.mem_of_getElem? (i := 1087) (by decide +kernel)⟩
theorem lw_p29 : lw_okq (⟨"SackedGlass$Council", "bestFrom", "(II)I"⟩, 2) := ⟨⟨by decide +kernel, by decide +kernel⟩, List.mem_of_getElem? (i := 1018) (by decide +kernel), List.mem_of_getElem? (i := 1094) (by decide +kernel), List.mem_of_getElem? (i := 1095) (by decide +kernel)⟩
theorem lw_p30 : lw_okq (⟨"SackedGlass$Council", "firstHolder", "(II)I"⟩, 2) := ⟨⟨by decide +kernel, by decide +kernel⟩, List.mem_of_getElem? (i := 1018) (by decide +kernel), List.mem_of_getElem? (i := 1104) (by decide +kernel), List.mem_of_getElem? (i := 1105) (by decide +kernel)⟩
theorem lw_p31 : lw_okq (⟨"SackedGlass$Council", "waysWithHats", "(LSackedGlass$Court;II)I"⟩, 2) := ⟨⟨by decide +kernel, by decide +kernel⟩, List.mem_of_getElem? (i := 1018) (by decide +kernel), List.mem_of_getElem? (i := 1123) (by decide +kernel), List.mem_of_getElem? (i := 1124) (by decide +kernel)⟩
def lw_privs_2 : List (MethodName × Nat) := [(⟨"SackedGlass$Law", "readUnit", "(LSackedGlass$Tape;Z)Z"⟩, 9), (⟨"SackedGlass$Law", "emit", "(I)V"⟩, 9), (⟨"SackedGlass$Law", "readEither", "(LSackedGlass$Tape;I)Z"⟩, 9), (⟨"SackedGlass$Law", "readTest", "(LSackedGlass$Tape;I)Z"⟩, 9), (⟨"SackedGlass$Rounds", "readLine", "(LSackedGlass$Tape;)Z"⟩, 4), (⟨"SackedGlass$Agenda", "readLine", "(LSackedGlass$Tape;I)Z"⟩, 5), (⟨"SackedGlass$Agenda", "readWhom", "(LSackedGlass$Tape;I)Z"⟩, 5), (⟨"SackedGlass$Memory", "saidIn", "(II)I"⟩, 4), (⟨"SackedGlass$Notes", "repeatsAfter", "(I)Z"⟩, 9), (⟨"SackedGlass$Notes", "tellersOf", "(I)I"⟩, 9), (⟨"SackedGlass", "theCouncil", "()LSackedGlass$Council;"⟩, 9), (⟨"SackedGlass$Council", "countVotes", "(LSackedGlass$Court;)I"⟩, 2), (⟨"SackedGlass$Council", "countWorths", "(LSackedGlass$Court;LSackedGlass$Notes;)V"⟩, 2), (⟨"SackedGlass$Council", "bestFrom", "(II)I"⟩, 2), (⟨"SackedGlass$Council", "firstHolder", "(II)I"⟩, 2), (⟨"SackedGlass$Council", "waysWithHats", "(LSackedGlass$Court;II)I"⟩, 2)]
theorem lw_r2 : ∀ q ∈ lw_privs_2, lw_okq q := List.forall_mem_cons.mpr ⟨lw_p16, List.forall_mem_cons.mpr ⟨lw_p17, List.forall_mem_cons.mpr ⟨lw_p18, List.forall_mem_cons.mpr ⟨lw_p19, List.forall_mem_cons.mpr ⟨lw_p20, List.forall_mem_cons.mpr ⟨lw_p21, List.forall_mem_cons.mpr ⟨lw_p22, List.forall_mem_cons.mpr ⟨lw_p23, List.forall_mem_cons.mpr ⟨lw_p24, List.forall_mem_cons.mpr ⟨lw_p25, List.forall_mem_cons.mpr ⟨lw_p26, List.forall_mem_cons.mpr ⟨lw_p27, List.forall_mem_cons.mpr ⟨lw_p28, List.forall_mem_cons.mpr ⟨lw_p29, List.forall_mem_cons.mpr ⟨lw_p30, List.forall_mem_cons.mpr ⟨lw_p31, fun _ h => absurd h List.not_mem_nil⟩⟩⟩⟩⟩⟩⟩⟩⟩⟩⟩⟩⟩⟩⟩⟩
theorem lw_p32 : lw_okq (⟨"SackedGlassModel", "isIn", "(III)Z"⟩, 57) := ⟨⟨by decide +kernel, by decide +kernel⟩, List.mem_of_getElem? (i := 1197) (by decide +kernel), List.mem_of_getElem? (i := 1387) (by decide +kernel), List.mem_of_getElem? (i := 1388) (by decide +kernel)⟩
theorem lw_p33 : lw_okq (⟨"SackedGlassModel", "canSet", "(III)Z"⟩, 57) := ⟨⟨by decide +kernel, by decide +kernel⟩, List.mem_of_getElem? (i := 1197) (by decide +kernel), List.mem_of_getElem? (i := 1395) (by decide +kernel), List.mem_of_getElem? (i := 1396) (by decide +kernel)⟩
theorem lw_p34 : lw_okq (⟨"SackedGlassModel", "isTeller", "(I)Z"⟩, 57) := ⟨⟨by decide +kernel, by decide +kernel⟩, List.mem_of_getElem? (i := 1197) (by decide +kernel), List.mem_of_getElem? (i := 1399) (by decide +kernel), List.mem_of_getElem? (i := 1400) (by decide +kernel)⟩
theorem lw_p35 : lw_okq (⟨"SackedGlassModel", "glassBe", "(I)V"⟩, 57) := ⟨⟨by decide +kernel, by decide +kernel⟩, List.mem_of_getElem? (i := 1197) (by decide +kernel), List.mem_of_getElem? (i := 1403) (by decide +kernel), List.mem_of_getElem? (i := 1404) (by decide +kernel)⟩
theorem lw_p36 : lw_okq (⟨"SackedGlassModel", "types", "(I)V"⟩, 57) := ⟨⟨by decide +kernel, by decide +kernel⟩, List.mem_of_getElem? (i := 1197) (by decide +kernel), List.mem_of_getElem? (i := 1411) (by decide +kernel), List.mem_of_getElem? (i := 1412) (by decide +kernel)⟩
theorem lw_p37 : lw_okq (⟨"SackedGlassModel", "readsText", "(I)I"⟩, 57) := ⟨⟨by decide +kernel, by decide +kernel⟩, List.mem_of_getElem? (i := 1197) (by decide +kernel), List.mem_of_getElem? (i := 1423) (by decide +kernel), List.mem_of_getElem? (i := 1424) (by decide +kernel)⟩
theorem lw_p38 : lw_okq (⟨"SackedGlassModel", "reads", "()V"⟩, 57) := ⟨⟨by decide +kernel, by decide +kernel⟩, List.mem_of_getElem? (i := 1197) (by decide +kernel), List.mem_of_getElem? (i := 1427) (by decide +kernel), List.mem_of_getElem? (i := 1428) (by decide +kernel)⟩
theorem lw_p39 : lw_okq (⟨"SackedGlassModel", "raw", "(I)I"⟩, 57) := ⟨⟨by decide +kernel, by decide +kernel⟩, List.mem_of_getElem? (i := 1197) (by decide +kernel), List.mem_of_getElem? (i := 1431) (by decide +kernel), List.mem_of_getElem? (i := 1432) (by decide +kernel)⟩
theorem lw_p40 : lw_okq (⟨"SackedGlassModel", "isLetter", "(I)Z"⟩, 57) := ⟨⟨by decide +kernel, by decide +kernel⟩, List.mem_of_getElem? (i := 1197) (by decide +kernel), List.mem_of_getElem? (i := 1435) (by decide +kernel), List.mem_of_getElem? (i := 1436) (by decide +kernel)⟩
theorem lw_p41 : lw_okq (⟨"SackedGlassModel", "wordAt", "(II)I"⟩, 57) := ⟨⟨by decide +kernel, by decide +kernel⟩, List.mem_of_getElem? (i := 1197) (by decide +kernel), List.mem_of_getElem? (i := 1439) (by decide +kernel), List.mem_of_getElem? (i := 1440) (by decide +kernel)⟩
theorem lw_p42 : lw_okq (⟨"SackedGlassModel", "isDigit", "(I)Z"⟩, 57) := ⟨⟨by decide +kernel, by decide +kernel⟩, List.mem_of_getElem? (i := 1197) (by decide +kernel), List.mem_of_getElem? (i := 1443) (by decide +kernel), List.mem_of_getElem? (i := 1444) (by decide +kernel)⟩
theorem lw_p43 : lw_okq (⟨"SackedGlassModel", "isMarkSign", "(I)Z"⟩, 57) := ⟨⟨by decide +kernel, by decide +kernel⟩, List.mem_of_getElem? (i := 1197) (by decide +kernel), List.mem_of_getElem? (i := 1447) (by decide +kernel), List.mem_of_getElem? (i := 1448) (by decide +kernel)⟩
theorem lw_p44 : lw_okq (⟨"SackedGlassModel", "readRounds", "()I"⟩, 57) := ⟨⟨by decide +kernel, by decide +kernel⟩, List.mem_of_getElem? (i := 1197) (by decide +kernel), List.mem_of_getElem? (i := 1451) (by decide +kernel), List.mem_of_getElem? (i := 1452) (by decide +kernel)⟩
theorem lw_p45 : lw_okq (⟨"SackedGlassModel", "isWord", "(I)Z"⟩, 57) := ⟨⟨by decide +kernel, by decide +kernel⟩, List.mem_of_getElem? (i := 1197) (by decide +kernel), List.mem_of_getElem? (i := 1455) (by decide +kernel), List.mem_of_getElem? (i := 1456) (by decide +kernel)⟩
theorem lw_p46 : lw_okq (⟨"SackedGlassModel", "errs", "(I)I"⟩, 57) := ⟨⟨by decide +kernel, by decide +kernel⟩, List.mem_of_getElem? (i := 1197) (by decide +kernel), List.mem_of_getElem? (i := 1459) (by decide +kernel), List.mem_of_getElem? (i := 1460) (by decide +kernel)⟩
theorem lw_p47 : lw_okq (⟨"SackedGlassModel", "readRound", "(I)I"⟩, 57) := ⟨⟨by decide +kernel, by decide +kernel⟩, List.mem_of_getElem? (i := 1197) (by decide +kernel), List.mem_of_getElem? (i := 1463) (by decide +kernel), List.mem_of_getElem? (i := 1464) (by decide +kernel)⟩
def lw_privs_3 : List (MethodName × Nat) := [(⟨"SackedGlassModel", "isIn", "(III)Z"⟩, 57), (⟨"SackedGlassModel", "canSet", "(III)Z"⟩, 57), (⟨"SackedGlassModel", "isTeller", "(I)Z"⟩, 57), (⟨"SackedGlassModel", "glassBe", "(I)V"⟩, 57), (⟨"SackedGlassModel", "types", "(I)V"⟩, 57), (⟨"SackedGlassModel", "readsText", "(I)I"⟩, 57), (⟨"SackedGlassModel", "reads", "()V"⟩, 57), (⟨"SackedGlassModel", "raw", "(I)I"⟩, 57), (⟨"SackedGlassModel", "isLetter", "(I)Z"⟩, 57), (⟨"SackedGlassModel", "wordAt", "(II)I"⟩, 57), (⟨"SackedGlassModel", "isDigit", "(I)Z"⟩, 57), (⟨"SackedGlassModel", "isMarkSign", "(I)Z"⟩, 57), (⟨"SackedGlassModel", "readRounds", "()I"⟩, 57), (⟨"SackedGlassModel", "isWord", "(I)Z"⟩, 57), (⟨"SackedGlassModel", "errs", "(I)I"⟩, 57), (⟨"SackedGlassModel", "readRound", "(I)I"⟩, 57)]
theorem lw_r3 : ∀ q ∈ lw_privs_3, lw_okq q := List.forall_mem_cons.mpr ⟨lw_p32, List.forall_mem_cons.mpr ⟨lw_p33, List.forall_mem_cons.mpr ⟨lw_p34, List.forall_mem_cons.mpr ⟨lw_p35, List.forall_mem_cons.mpr ⟨lw_p36, List.forall_mem_cons.mpr ⟨lw_p37, List.forall_mem_cons.mpr ⟨lw_p38, List.forall_mem_cons.mpr ⟨lw_p39, List.forall_mem_cons.mpr ⟨lw_p40, List.forall_mem_cons.mpr ⟨lw_p41, List.forall_mem_cons.mpr ⟨lw_p42, List.forall_mem_cons.mpr ⟨lw_p43, List.forall_mem_cons.mpr ⟨lw_p44, List.forall_mem_cons.mpr ⟨lw_p45, List.forall_mem_cons.mpr ⟨lw_p46, List.forall_mem_cons.mpr ⟨lw_p47, fun _ h => absurd h List.not_mem_nil⟩⟩⟩⟩⟩⟩⟩⟩⟩⟩⟩⟩⟩⟩⟩⟩
theorem lw_p48 : lw_okq (⟨"SackedGlassModel", "readTold", "(III)I"⟩, 57) := ⟨⟨by decide +kernel, by decide +kernel⟩, List.mem_of_getElem? (i := 1197) (by decide +kernel), List.mem_of_getElem? (i := 1467) (by decide +kernel), List.mem_of_getElem? (i := 1468) (by decide +kernel)⟩
theorem lw_p49 : lw_okq (⟨"SackedGlassModel", "readNumber", "(II)I"⟩, 57) := ⟨⟨by decide +kernel, by decide +kernel⟩, List.mem_of_getElem? (i := 1197) (by decide +kernel), List.mem_of_getElem? (i := 1471) (by decide +kernel), List.mem_of_getElem? (i := 1472) (by decide +kernel)⟩
theorem lw_p50 : lw_okq (⟨"SackedGlassModel", "readMark", "(I)I"⟩, 57) := ⟨⟨by decide +kernel, by decide +kernel⟩, List.mem_of_getElem? (i := 1197) (by decide +kernel), List.mem_of_getElem? (i := 1475) (by decide +kernel), List.mem_of_getElem? (i := 1476) (by decide +kernel)⟩
theorem lw_p51 : lw_okq (⟨"SackedGlassModel", "isSign", "(I)Z"⟩, 57) := ⟨⟨by decide +kernel, by decide +kernel⟩, List.mem_of_getElem? (i := 1197) (by decide +kernel), List.mem_of_getElem? (i := 1479) (by decide +kernel), List.mem_of_getElem? (i := 1480) (by decide +kernel)⟩
theorem lw_p52 : lw_okq (⟨"SackedGlassModel", "readAgenda", "()I"⟩, 57) := ⟨⟨by decide +kernel, by decide +kernel⟩, List.mem_of_getElem? (i := 1197) (by decide +kernel), List.mem_of_getElem? (i := 1483) (by decide +kernel), List.mem_of_getElem? (i := 1484) (by decide +kernel)⟩
theorem lw_p53 : lw_okq (⟨"SackedGlassModel", "readDeed", "(I)I"⟩, 57) := ⟨⟨by decide +kernel, by decide +kernel⟩, List.mem_of_getElem? (i := 1197) (by decide +kernel), List.mem_of_getElem? (i := 1487) (by decide +kernel), List.mem_of_getElem? (i := 1488) (by decide +kernel)⟩
theorem lw_p54 : lw_okq (⟨"SackedGlassModel", "kindOfDeed", "()I"⟩, 57) := ⟨⟨by decide +kernel, by decide +kernel⟩, List.mem_of_getElem? (i := 1197) (by decide +kernel), List.mem_of_getElem? (i := 1491) (by decide +kernel), List.mem_of_getElem? (i := 1492) (by decide +kernel)⟩
theorem lw_p55 : lw_okq (⟨"SackedGlassModel", "readLaw", "()I"⟩, 57) := ⟨⟨by decide +kernel, by decide +kernel⟩, List.mem_of_getElem? (i := 1197) (by decide +kernel), List.mem_of_getElem? (i := 1495) (by decide +kernel), List.mem_of_getElem? (i := 1496) (by decide +kernel)⟩
theorem lw_p56 : lw_okq (⟨"SackedGlassModel", "isLineWord", "()Z"⟩, 57) := ⟨⟨by decide +kernel, by decide +kernel⟩, List.mem_of_getElem? (i := 1197) (by decide +kernel), List.mem_of_getElem? (i := 1499) (by decide +kernel), List.mem_of_getElem? (i := 1500) (by decide +kernel)⟩
theorem lw_p57 : lw_okq (⟨"SackedGlassModel", "readSum", "()I"⟩, 57) := ⟨⟨by decide +kernel, by decide +kernel⟩, List.mem_of_getElem? (i := 1197) (by decide +kernel), List.mem_of_getElem? (i := 1503) (by decide +kernel), List.mem_of_getElem? (i := 1504) (by decide +kernel)⟩
theorem lw_p58 : lw_okq (⟨"SackedGlassModel", "readProduct", "()I"⟩, 57) := ⟨⟨by decide +kernel, by decide +kernel⟩, List.mem_of_getElem? (i := 1197) (by decide +kernel), List.mem_of_getElem? (i := 1507) (by decide +kernel), List.mem_of_getElem? (i := 1508) (by decide +kernel)⟩
theorem lw_p59 : lw_okq (⟨"SackedGlassModel", "readUnit", "()I"⟩, 57) := ⟨⟨by decide +kernel, by decide +kernel⟩, List.mem_of_getElem? (i := 1197) (by decide +kernel), List.mem_of_getElem? (i := 1511) (by decide +kernel), List.mem_of_getElem? (i := 1512) (by decide +kernel)⟩
theorem lw_p60 : lw_okq (⟨"SackedGlassModel", "canAsk", "(I)Z"⟩, 57) := ⟨⟨by decide +kernel, by decide +kernel⟩, List.mem_of_getElem? (i := 1197) (by decide +kernel), List.mem_of_getElem? (i := 1515) (by decide +kernel), List.mem_of_getElem? (i := 1516) (by decide +kernel)⟩
theorem lw_p61 : lw_okq (⟨"SackedGlassModel", "emits", "(II)V"⟩, 57) := ⟨⟨by decide +kernel, by decide +kernel⟩, List.mem_of_getElem? (i := 1197) (by decide +kernel), List.mem_of_getElem? (i := 1519) (by decide +kernel), List.mem_of_getElem? (i := 1520) (by decide +kernel)⟩
theorem lw_p62 : lw_okq (⟨"SackedGlassModel", "readAny", "()I"⟩, 57) := ⟨⟨by decide +kernel, by decide +kernel⟩, List.mem_of_getElem? (i := 1197) (by decide +kernel), List.mem_of_getElem? (i := 1523) (by decide +kernel), List.mem_of_getElem? (i := 1524) (by decide +kernel)⟩
theorem lw_p63 : lw_okq (⟨"SackedGlassModel", "waits", "(I)V"⟩, 57) := ⟨⟨by decide +kernel, by decide +kernel⟩, List.mem_of_getElem? (i := 1197) (by decide +kernel), List.mem_of_getElem? (i := 1527) (by decide +kernel), List.mem_of_getElem? (i := 1528) (by decide +kernel)⟩
def lw_privs_4 : List (MethodName × Nat) := [(⟨"SackedGlassModel", "readTold", "(III)I"⟩, 57), (⟨"SackedGlassModel", "readNumber", "(II)I"⟩, 57), (⟨"SackedGlassModel", "readMark", "(I)I"⟩, 57), (⟨"SackedGlassModel", "isSign", "(I)Z"⟩, 57), (⟨"SackedGlassModel", "readAgenda", "()I"⟩, 57), (⟨"SackedGlassModel", "readDeed", "(I)I"⟩, 57), (⟨"SackedGlassModel", "kindOfDeed", "()I"⟩, 57), (⟨"SackedGlassModel", "readLaw", "()I"⟩, 57), (⟨"SackedGlassModel", "isLineWord", "()Z"⟩, 57), (⟨"SackedGlassModel", "readSum", "()I"⟩, 57), (⟨"SackedGlassModel", "readProduct", "()I"⟩, 57), (⟨"SackedGlassModel", "readUnit", "()I"⟩, 57), (⟨"SackedGlassModel", "canAsk", "(I)Z"⟩, 57), (⟨"SackedGlassModel", "emits", "(II)V"⟩, 57), (⟨"SackedGlassModel", "readAny", "()I"⟩, 57), (⟨"SackedGlassModel", "waits", "(I)V"⟩, 57)]
theorem lw_r4 : ∀ q ∈ lw_privs_4, lw_okq q := List.forall_mem_cons.mpr ⟨lw_p48, List.forall_mem_cons.mpr ⟨lw_p49, List.forall_mem_cons.mpr ⟨lw_p50, List.forall_mem_cons.mpr ⟨lw_p51, List.forall_mem_cons.mpr ⟨lw_p52, List.forall_mem_cons.mpr ⟨lw_p53, List.forall_mem_cons.mpr ⟨lw_p54, List.forall_mem_cons.mpr ⟨lw_p55, List.forall_mem_cons.mpr ⟨lw_p56, List.forall_mem_cons.mpr ⟨lw_p57, List.forall_mem_cons.mpr ⟨lw_p58, List.forall_mem_cons.mpr ⟨lw_p59, List.forall_mem_cons.mpr ⟨lw_p60, List.forall_mem_cons.mpr ⟨lw_p61, List.forall_mem_cons.mpr ⟨lw_p62, List.forall_mem_cons.mpr ⟨lw_p63, fun _ h => absurd h List.not_mem_nil⟩⟩⟩⟩⟩⟩⟩⟩⟩⟩⟩⟩⟩⟩⟩⟩
theorem lw_p64 : lw_okq (⟨"SackedGlassModel", "readCompared", "()I"⟩, 57) := ⟨⟨by decide +kernel, by decide +kernel⟩, List.mem_of_getElem? (i := 1197) (by decide +kernel), List.mem_of_getElem? (i := 1531) (by decide +kernel), List.mem_of_getElem? (i := 1532) (by decide +kernel)⟩
theorem lw_p65 : lw_okq (⟨"SackedGlassModel", "settles", "(I)V"⟩, 57) := ⟨⟨by decide +kernel, by decide +kernel⟩, List.mem_of_getElem? (i := 1197) (by decide +kernel), List.mem_of_getElem? (i := 1535) (by decide +kernel), List.mem_of_getElem? (i := 1536) (by decide +kernel)⟩
theorem lw_p66 : lw_okq (⟨"SackedGlassModel", "takesLaw", "(I)V"⟩, 57) := ⟨⟨by decide +kernel, by decide +kernel⟩, List.mem_of_getElem? (i := 1197) (by decide +kernel), List.mem_of_getElem? (i := 1539) (by decide +kernel), List.mem_of_getElem? (i := 1540) (by decide +kernel)⟩
theorem lw_p67 : lw_okq (⟨"SackedGlassModel", "takesOther", "(II)V"⟩, 57) := ⟨⟨by decide +kernel, by decide +kernel⟩, List.mem_of_getElem? (i := 1197) (by decide +kernel), List.mem_of_getElem? (i := 1543) (by decide +kernel), List.mem_of_getElem? (i := 1544) (by decide +kernel)⟩
theorem lw_p68 : lw_okq (⟨"SackedGlassModel", "canAct", "(II)Z"⟩, 57) := ⟨⟨by decide +kernel, by decide +kernel⟩, List.mem_of_getElem? (i := 1197) (by decide +kernel), List.mem_of_getElem? (i := 1555) (by decide +kernel), List.mem_of_getElem? (i := 1556) (by decide +kernel)⟩
theorem lw_p69 : lw_okq (⟨"SackedGlassModel", "isHere", "(I)Z"⟩, 57) := ⟨⟨by decide +kernel, by decide +kernel⟩, List.mem_of_getElem? (i := 1197) (by decide +kernel), List.mem_of_getElem? (i := 1559) (by decide +kernel), List.mem_of_getElem? (i := 1560) (by decide +kernel)⟩
theorem lw_p70 : lw_okq (⟨"SackedGlassModel", "keepsAhead", "()V"⟩, 57) := ⟨⟨by decide +kernel, by decide +kernel⟩, List.mem_of_getElem? (i := 1197) (by decide +kernel), List.mem_of_getElem? (i := 1563) (by decide +kernel), List.mem_of_getElem? (i := 1564) (by decide +kernel)⟩
theorem lw_p71 : lw_okq (⟨"SackedGlassModel", "acts", "(III)V"⟩, 57) := ⟨⟨by decide +kernel, by decide +kernel⟩, List.mem_of_getElem? (i := 1197) (by decide +kernel), List.mem_of_getElem? (i := 1567) (by decide +kernel), List.mem_of_getElem? (i := 1568) (by decide +kernel)⟩
theorem lw_p72 : lw_okq (⟨"SackedGlassModel", "notes", "(III)V"⟩, 57) := ⟨⟨by decide +kernel, by decide +kernel⟩, List.mem_of_getElem? (i := 1197) (by decide +kernel), List.mem_of_getElem? (i := 1571) (by decide +kernel), List.mem_of_getElem? (i := 1572) (by decide +kernel)⟩
theorem lw_p73 : lw_okq (⟨"SackedGlassModel", "goesBy", "()I"⟩, 57) := ⟨⟨by decide +kernel, by decide +kernel⟩, List.mem_of_getElem? (i := 1197) (by decide +kernel), List.mem_of_getElem? (i := 1579) (by decide +kernel), List.mem_of_getElem? (i := 1580) (by decide +kernel)⟩
theorem lw_p74 : lw_okq (⟨"SackedGlassModel", "does", "(I)V"⟩, 57) := ⟨⟨by decide +kernel, by decide +kernel⟩, List.mem_of_getElem? (i := 1197) (by decide +kernel), List.mem_of_getElem? (i := 1583) (by decide +kernel), List.mem_of_getElem? (i := 1584) (by decide +kernel)⟩
theorem lw_p75 : lw_okq (⟨"SackedGlassModel", "taps", "()V"⟩, 57) := ⟨⟨by decide +kernel, by decide +kernel⟩, List.mem_of_getElem? (i := 1197) (by decide +kernel), List.mem_of_getElem? (i := 1587) (by decide +kernel), List.mem_of_getElem? (i := 1588) (by decide +kernel)⟩
theorem lw_p76 : lw_okq (⟨"SackedGlassModel", "saysOf", "(I)I"⟩, 57) := ⟨⟨by decide +kernel, by decide +kernel⟩, List.mem_of_getElem? (i := 1197) (by decide +kernel), List.mem_of_getElem? (i := 1591) (by decide +kernel), List.mem_of_getElem? (i := 1592) (by decide +kernel)⟩
theorem lw_p77 : lw_okq (⟨"SackedGlassModel", "tellOf", "(I)I"⟩, 57) := ⟨⟨by decide +kernel, by decide +kernel⟩, List.mem_of_getElem? (i := 1197) (by decide +kernel), List.mem_of_getElem? (i := 1595) (by decide +kernel), List.mem_of_getElem? (i := 1596) (by decide +kernel)⟩
theorem lw_p78 : lw_okq (⟨"SackedGlassModel", "asks", "(II)V"⟩, 57) := ⟨⟨by decide +kernel, by decide +kernel⟩, List.mem_of_getElem? (i := 1197) (by decide +kernel), List.mem_of_getElem? (i := 1599) (by decide +kernel), List.mem_of_getElem? (i := 1600) (by decide +kernel)⟩
theorem lw_p79 : lw_okq (⟨"SackedGlassModel", "glass", "()I"⟩, 57) := ⟨⟨by decide +kernel, by decide +kernel⟩, List.mem_of_getElem? (i := 1197) (by decide +kernel), List.mem_of_getElem? (i := 1603) (by decide +kernel), List.mem_of_getElem? (i := 1604) (by decide +kernel)⟩
def lw_privs_5 : List (MethodName × Nat) := [(⟨"SackedGlassModel", "readCompared", "()I"⟩, 57), (⟨"SackedGlassModel", "settles", "(I)V"⟩, 57), (⟨"SackedGlassModel", "takesLaw", "(I)V"⟩, 57), (⟨"SackedGlassModel", "takesOther", "(II)V"⟩, 57), (⟨"SackedGlassModel", "canAct", "(II)Z"⟩, 57), (⟨"SackedGlassModel", "isHere", "(I)Z"⟩, 57), (⟨"SackedGlassModel", "keepsAhead", "()V"⟩, 57), (⟨"SackedGlassModel", "acts", "(III)V"⟩, 57), (⟨"SackedGlassModel", "notes", "(III)V"⟩, 57), (⟨"SackedGlassModel", "goesBy", "()I"⟩, 57), (⟨"SackedGlassModel", "does", "(I)V"⟩, 57), (⟨"SackedGlassModel", "taps", "()V"⟩, 57), (⟨"SackedGlassModel", "saysOf", "(I)I"⟩, 57), (⟨"SackedGlassModel", "tellOf", "(I)I"⟩, 57), (⟨"SackedGlassModel", "asks", "(II)V"⟩, 57), (⟨"SackedGlassModel", "glass", "()I"⟩, 57)]
theorem lw_r5 : ∀ q ∈ lw_privs_5, lw_okq q := List.forall_mem_cons.mpr ⟨lw_p64, List.forall_mem_cons.mpr ⟨lw_p65, List.forall_mem_cons.mpr ⟨lw_p66, List.forall_mem_cons.mpr ⟨lw_p67, List.forall_mem_cons.mpr ⟨lw_p68, List.forall_mem_cons.mpr ⟨lw_p69, List.forall_mem_cons.mpr ⟨lw_p70, List.forall_mem_cons.mpr ⟨lw_p71, List.forall_mem_cons.mpr ⟨lw_p72, List.forall_mem_cons.mpr ⟨lw_p73, List.forall_mem_cons.mpr ⟨lw_p74, List.forall_mem_cons.mpr ⟨lw_p75, List.forall_mem_cons.mpr ⟨lw_p76, List.forall_mem_cons.mpr ⟨lw_p77, List.forall_mem_cons.mpr ⟨lw_p78, List.forall_mem_cons.mpr ⟨lw_p79, fun _ h => absurd h List.not_mem_nil⟩⟩⟩⟩⟩⟩⟩⟩⟩⟩⟩⟩⟩⟩⟩⟩
theorem lw_p80 : lw_okq (⟨"SackedGlassModel", "kindOf", "(I)I"⟩, 57) := ⟨⟨by decide +kernel, by decide +kernel⟩, List.mem_of_getElem? (i := 1197) (by decide +kernel), List.mem_of_getElem? (i := 1607) (by decide +kernel), List.mem_of_getElem? (i := 1608) (by decide +kernel)⟩
theorem lw_p81 : lw_okq (⟨"SackedGlassModel", "minister", "()I"⟩, 57) := ⟨⟨by decide +kernel, by decide +kernel⟩, List.mem_of_getElem? (i := 1197) (by decide +kernel), List.mem_of_getElem? (i := 1611) (by decide +kernel), List.mem_of_getElem? (i := 1612) (by decide +kernel)⟩
theorem lw_p82 : lw_okq (⟨"SackedGlassModel", "lawTells", "(III)I"⟩, 57) := ⟨⟨by decide +kernel, by decide +kernel⟩, List.mem_of_getElem? (i := 1197) (by decide +kernel), List.mem_of_getElem? (i := 1615) (by decide +kernel), List.mem_of_getElem? (i := 1616) (by decide +kernel)⟩
theorem lw_p83 : lw_okq (⟨"SackedGlassModel", "lineOf", "(I)I"⟩, 57) := ⟨⟨by decide +kernel, by decide +kernel⟩, List.mem_of_getElem? (i := 1197) (by decide +kernel), List.mem_of_getElem? (i := 1619) (by decide +kernel), List.mem_of_getElem? (i := 1620) (by decide +kernel)⟩
theorem lw_p84 : lw_okq (⟨"SackedGlassModel", "runs", "(III)I"⟩, 57) := ⟨⟨by decide +kernel, by decide +kernel⟩, List.mem_of_getElem? (i := 1197) (by decide +kernel), List.mem_of_getElem? (i := 1623) (by decide +kernel), List.mem_of_getElem? (i := 1624) (by decide +kernel)⟩
theorem lw_p85 : lw_okq (⟨"SackedGlassModel", "twoOf", "(III)I"⟩, 57) := ⟨⟨by decide +kernel, by decide +kernel⟩, List.mem_of_getElem? (i := 1197) (by decide +kernel), List.mem_of_getElem? (i := 1627) (by decide +kernel), List.mem_of_getElem? (i := 1628) (by decide +kernel)⟩
theorem lw_p86 : lw_okq (⟨"SackedGlassModel", "held", "(III)I"⟩, 57) := ⟨⟨by decide +kernel, by decide +kernel⟩, List.mem_of_getElem? (i := 1197) (by decide +kernel), List.mem_of_getElem? (i := 1631) (by decide +kernel), List.mem_of_getElem? (i := 1632) (by decide +kernel)⟩
theorem lw_p87 : lw_okq (⟨"SackedGlassModel", "errOf", "(I)I"⟩, 57) := ⟨⟨by decide +kernel, by decide +kernel⟩, List.mem_of_getElem? (i := 1197) (by decide +kernel), List.mem_of_getElem? (i := 1635) (by decide +kernel), List.mem_of_getElem? (i := 1636) (by decide +kernel)⟩
theorem lw_p88 : lw_okq (⟨"SackedGlassModel", "draw", "(I)I"⟩, 57) := ⟨⟨by decide +kernel, by decide +kernel⟩, List.mem_of_getElem? (i := 1197) (by decide +kernel), List.mem_of_getElem? (i := 1639) (by decide +kernel), List.mem_of_getElem? (i := 1640) (by decide +kernel)⟩
theorem lw_p89 : lw_okq (⟨"SackedGlassModel", "comes", "()V"⟩, 57) := ⟨⟨by decide +kernel, by decide +kernel⟩, List.mem_of_getElem? (i := 1197) (by decide +kernel), List.mem_of_getElem? (i := 1645) (by decide +kernel), List.mem_of_getElem? (i := 1646) (by decide +kernel)⟩
theorem lw_p90 : lw_okq (⟨"SackedGlassModel", "rounded", "(I)I"⟩, 57) := ⟨⟨by decide +kernel, by decide +kernel⟩, List.mem_of_getElem? (i := 1197) (by decide +kernel), List.mem_of_getElem? (i := 1649) (by decide +kernel), List.mem_of_getElem? (i := 1650) (by decide +kernel)⟩
theorem lw_p91 : lw_okq (⟨"SackedGlassModel", "records", "()V"⟩, 57) := ⟨⟨by decide +kernel, by decide +kernel⟩, List.mem_of_getElem? (i := 1197) (by decide +kernel), List.mem_of_getElem? (i := 1653) (by decide +kernel), List.mem_of_getElem? (i := 1654) (by decide +kernel)⟩
theorem lw_p92 : lw_okq (⟨"SackedGlassModel", "judges", "()V"⟩, 57) := ⟨⟨by decide +kernel, by decide +kernel⟩, List.mem_of_getElem? (i := 1197) (by decide +kernel), List.mem_of_getElem? (i := 1657) (by decide +kernel), List.mem_of_getElem? (i := 1658) (by decide +kernel)⟩
theorem lw_p93 : lw_okq (⟨"SackedGlassModel", "saidBy", "(I)I"⟩, 57) := ⟨⟨by decide +kernel, by decide +kernel⟩, List.mem_of_getElem? (i := 1197) (by decide +kernel), List.mem_of_getElem? (i := 1661) (by decide +kernel), List.mem_of_getElem? (i := 1662) (by decide +kernel)⟩
theorem lw_p94 : lw_okq (⟨"SackedGlassModel", "blameFor", "(II)I"⟩, 57) := ⟨⟨by decide +kernel, by decide +kernel⟩, List.mem_of_getElem? (i := 1197) (by decide +kernel), List.mem_of_getElem? (i := 1665) (by decide +kernel), List.mem_of_getElem? (i := 1666) (by decide +kernel)⟩
theorem lw_p95 : lw_okq (⟨"SackedGlassModel", "far", "(II)I"⟩, 57) := ⟨⟨by decide +kernel, by decide +kernel⟩, List.mem_of_getElem? (i := 1197) (by decide +kernel), List.mem_of_getElem? (i := 1669) (by decide +kernel), List.mem_of_getElem? (i := 1670) (by decide +kernel)⟩
def lw_privs_6 : List (MethodName × Nat) := [(⟨"SackedGlassModel", "kindOf", "(I)I"⟩, 57), (⟨"SackedGlassModel", "minister", "()I"⟩, 57), (⟨"SackedGlassModel", "lawTells", "(III)I"⟩, 57), (⟨"SackedGlassModel", "lineOf", "(I)I"⟩, 57), (⟨"SackedGlassModel", "runs", "(III)I"⟩, 57), (⟨"SackedGlassModel", "twoOf", "(III)I"⟩, 57), (⟨"SackedGlassModel", "held", "(III)I"⟩, 57), (⟨"SackedGlassModel", "errOf", "(I)I"⟩, 57), (⟨"SackedGlassModel", "draw", "(I)I"⟩, 57), (⟨"SackedGlassModel", "comes", "()V"⟩, 57), (⟨"SackedGlassModel", "rounded", "(I)I"⟩, 57), (⟨"SackedGlassModel", "records", "()V"⟩, 57), (⟨"SackedGlassModel", "judges", "()V"⟩, 57), (⟨"SackedGlassModel", "saidBy", "(I)I"⟩, 57), (⟨"SackedGlassModel", "blameFor", "(II)I"⟩, 57), (⟨"SackedGlassModel", "far", "(II)I"⟩, 57)]
theorem lw_r6 : ∀ q ∈ lw_privs_6, lw_okq q := List.forall_mem_cons.mpr ⟨lw_p80, List.forall_mem_cons.mpr ⟨lw_p81, List.forall_mem_cons.mpr ⟨lw_p82, List.forall_mem_cons.mpr ⟨lw_p83, List.forall_mem_cons.mpr ⟨lw_p84, List.forall_mem_cons.mpr ⟨lw_p85, List.forall_mem_cons.mpr ⟨lw_p86, List.forall_mem_cons.mpr ⟨lw_p87, List.forall_mem_cons.mpr ⟨lw_p88, List.forall_mem_cons.mpr ⟨lw_p89, List.forall_mem_cons.mpr ⟨lw_p90, List.forall_mem_cons.mpr ⟨lw_p91, List.forall_mem_cons.mpr ⟨lw_p92, List.forall_mem_cons.mpr ⟨lw_p93, List.forall_mem_cons.mpr ⟨lw_p94, List.forall_mem_cons.mpr ⟨lw_p95, fun _ h => absurd h List.not_mem_nil⟩⟩⟩⟩⟩⟩⟩⟩⟩⟩⟩⟩⟩⟩⟩⟩
theorem lw_p96 : lw_okq (⟨"SackedGlassModel", "floods", "()V"⟩, 57) := ⟨⟨by decide +kernel, by decide +kernel⟩, List.mem_of_getElem? (i := 1197) (by decide +kernel), List.mem_of_getElem? (i := 1673) (by decide +kernel), List.mem_of_getElem? (i := 1674) (by decide +kernel)⟩
theorem lw_p97 : lw_okq (⟨"SackedGlassModel", "greater", "(II)I"⟩, 57) := ⟨⟨by decide +kernel, by decide +kernel⟩, List.mem_of_getElem? (i := 1197) (by decide +kernel), List.mem_of_getElem? (i := 1677) (by decide +kernel), List.mem_of_getElem? (i := 1678) (by decide +kernel)⟩
theorem lw_p98 : lw_okq (⟨"SackedGlassModel", "falling", "()Z"⟩, 57) := ⟨⟨by decide +kernel, by decide +kernel⟩, List.mem_of_getElem? (i := 1197) (by decide +kernel), List.mem_of_getElem? (i := 1681) (by decide +kernel), List.mem_of_getElem? (i := 1682) (by decide +kernel)⟩
theorem lw_p99 : lw_okq (⟨"SackedGlassModel", "falls", "()I"⟩, 57) := ⟨⟨by decide +kernel, by decide +kernel⟩, List.mem_of_getElem? (i := 1197) (by decide +kernel), List.mem_of_getElem? (i := 1685) (by decide +kernel), List.mem_of_getElem? (i := 1686) (by decide +kernel)⟩
theorem lw_p100 : lw_okq (⟨"SackedGlassModel", "bestStanding", "()I"⟩, 57) := ⟨⟨by decide +kernel, by decide +kernel⟩, List.mem_of_getElem? (i := 1197) (by decide +kernel), List.mem_of_getElem? (i := 1689) (by decide +kernel), List.mem_of_getElem? (i := 1690) (by decide +kernel)⟩
theorem lw_p101 : lw_okq (⟨"SackedGlassModel", "thinks", "()V"⟩, 57) := ⟨⟨by decide +kernel, by decide +kernel⟩, List.mem_of_getElem? (i := 1197) (by decide +kernel), List.mem_of_getElem? (i := 1710) (by decide +kernel), List.mem_of_getElem? (i := 1711) (by decide +kernel)⟩
theorem lw_p102 : lw_okq (⟨"SackedGlassModel", "endsThought", "()V"⟩, 57) := ⟨⟨by decide +kernel, by decide +kernel⟩, List.mem_of_getElem? (i := 1197) (by decide +kernel), List.mem_of_getElem? (i := 1714) (by decide +kernel), List.mem_of_getElem? (i := 1715) (by decide +kernel)⟩
theorem lw_p103 : lw_okq (⟨"SackedGlassModel", "glassAhead", "(I)I"⟩, 57) := ⟨⟨by decide +kernel, by decide +kernel⟩, List.mem_of_getElem? (i := 1197) (by decide +kernel), List.mem_of_getElem? (i := 1722) (by decide +kernel), List.mem_of_getElem? (i := 1723) (by decide +kernel)⟩
theorem lw_p104 : lw_okq (⟨"SackedGlassModel", "rightOf", "(I)I"⟩, 57) := ⟨⟨by decide +kernel, by decide +kernel⟩, List.mem_of_getElem? (i := 1197) (by decide +kernel), List.mem_of_getElem? (i := 1730) (by decide +kernel), List.mem_of_getElem? (i := 1731) (by decide +kernel)⟩
theorem lw_p105 : lw_okq (⟨"SackedGlassModel", "toldOn", "(II)I"⟩, 57) := ⟨⟨by decide +kernel, by decide +kernel⟩, List.mem_of_getElem? (i := 1197) (by decide +kernel), List.mem_of_getElem? (i := 1734) (by decide +kernel), List.mem_of_getElem? (i := 1735) (by decide +kernel)⟩
theorem lw_p106 : lw_okq (⟨"SackedGlassModel", "cameOn", "(I)I"⟩, 57) := ⟨⟨by decide +kernel, by decide +kernel⟩, List.mem_of_getElem? (i := 1197) (by decide +kernel), List.mem_of_getElem? (i := 1738) (by decide +kernel), List.mem_of_getElem? (i := 1739) (by decide +kernel)⟩
theorem lw_p107 : lw_okq (⟨"SackedGlassModel", "daysOf", "(I)I"⟩, 57) := ⟨⟨by decide +kernel, by decide +kernel⟩, List.mem_of_getElem? (i := 1197) (by decide +kernel), List.mem_of_getElem? (i := 1742) (by decide +kernel), List.mem_of_getElem? (i := 1743) (by decide +kernel)⟩
theorem lw_p108 : lw_okq (⟨"SackedGlassModel", "hasSomeoneSaid", "()Z"⟩, 57) := ⟨⟨by decide +kernel, by decide +kernel⟩, List.mem_of_getElem? (i := 1197) (by decide +kernel), List.mem_of_getElem? (i := 1754) (by decide +kernel), List.mem_of_getElem? (i := 1755) (by decide +kernel)⟩
theorem lw_p109 : lw_okq (⟨"SackedGlassModel", "oddsOf", "(I)I"⟩, 57) := ⟨⟨by decide +kernel, by decide +kernel⟩, List.mem_of_getElem? (i := 1197) (by decide +kernel), List.mem_of_getElem? (i := 1758) (by decide +kernel), List.mem_of_getElem? (i := 1759) (by decide +kernel)⟩
theorem lw_p110 : lw_okq (⟨"SackedGlassModel", "shareOf", "(II)I"⟩, 57) := ⟨⟨by decide +kernel, by decide +kernel⟩, List.mem_of_getElem? (i := 1197) (by decide +kernel), List.mem_of_getElem? (i := 1763) (by decide +kernel), List.mem_of_getElem? (i := 1764) (by decide +kernel)⟩
theorem lw_p111 : lw_okq (⟨"SackedGlassModel", "isGlued", "(I)Z"⟩, 57) := ⟨⟨by decide +kernel, by decide +kernel⟩, List.mem_of_getElem? (i := 1197) (by decide +kernel), List.mem_of_getElem? (i := 1771) (by decide +kernel), List.mem_of_getElem? (i := 1772) (by decide +kernel)⟩
def lw_privs_7 : List (MethodName × Nat) := [(⟨"SackedGlassModel", "floods", "()V"⟩, 57), (⟨"SackedGlassModel", "greater", "(II)I"⟩, 57), (⟨"SackedGlassModel", "falling", "()Z"⟩, 57), (⟨"SackedGlassModel", "falls", "()I"⟩, 57), (⟨"SackedGlassModel", "bestStanding", "()I"⟩, 57), (⟨"SackedGlassModel", "thinks", "()V"⟩, 57), (⟨"SackedGlassModel", "endsThought", "()V"⟩, 57), (⟨"SackedGlassModel", "glassAhead", "(I)I"⟩, 57), (⟨"SackedGlassModel", "rightOf", "(I)I"⟩, 57), (⟨"SackedGlassModel", "toldOn", "(II)I"⟩, 57), (⟨"SackedGlassModel", "cameOn", "(I)I"⟩, 57), (⟨"SackedGlassModel", "daysOf", "(I)I"⟩, 57), (⟨"SackedGlassModel", "hasSomeoneSaid", "()Z"⟩, 57), (⟨"SackedGlassModel", "oddsOf", "(I)I"⟩, 57), (⟨"SackedGlassModel", "shareOf", "(II)I"⟩, 57), (⟨"SackedGlassModel", "isGlued", "(I)Z"⟩, 57)]
theorem lw_r7 : ∀ q ∈ lw_privs_7, lw_okq q := List.forall_mem_cons.mpr ⟨lw_p96, List.forall_mem_cons.mpr ⟨lw_p97, List.forall_mem_cons.mpr ⟨lw_p98, List.forall_mem_cons.mpr ⟨lw_p99, List.forall_mem_cons.mpr ⟨lw_p100, List.forall_mem_cons.mpr ⟨lw_p101, List.forall_mem_cons.mpr ⟨lw_p102, List.forall_mem_cons.mpr ⟨lw_p103, List.forall_mem_cons.mpr ⟨lw_p104, List.forall_mem_cons.mpr ⟨lw_p105, List.forall_mem_cons.mpr ⟨lw_p106, List.forall_mem_cons.mpr ⟨lw_p107, List.forall_mem_cons.mpr ⟨lw_p108, List.forall_mem_cons.mpr ⟨lw_p109, List.forall_mem_cons.mpr ⟨lw_p110, List.forall_mem_cons.mpr ⟨lw_p111, fun _ h => absurd h List.not_mem_nil⟩⟩⟩⟩⟩⟩⟩⟩⟩⟩⟩⟩⟩⟩⟩⟩
theorem lw_p112 : lw_okq (⟨"SackedGlassModel", "isRound", "(I)Z"⟩, 57) := ⟨⟨by decide +kernel, by decide +kernel⟩, List.mem_of_getElem? (i := 1197) (by decide +kernel), List.mem_of_getElem? (i := 1783) (by decide +kernel), List.mem_of_getElem? (i := 1784) (by decide +kernel)⟩
theorem lw_p113 : lw_okq (⟨"SackedGlassModel", "blamedIn", "(II)I"⟩, 57) := ⟨⟨by decide +kernel, by decide +kernel⟩, List.mem_of_getElem? (i := 1197) (by decide +kernel), List.mem_of_getElem? (i := 1792) (by decide +kernel), List.mem_of_getElem? (i := 1793) (by decide +kernel)⟩
theorem lw_p114 : lw_okq (⟨"SackedGlassModel", "lesser", "(II)I"⟩, 57) := ⟨⟨by decide +kernel, by decide +kernel⟩, List.mem_of_getElem? (i := 1197) (by decide +kernel), List.mem_of_getElem? (i := 1796) (by decide +kernel), List.mem_of_getElem? (i := 1797) (by decide +kernel)⟩
theorem lw_p115 : lw_okq (⟨"SackedGlassModel", "askedBest", "()I"⟩, 57) := ⟨⟨by decide +kernel, by decide +kernel⟩, List.mem_of_getElem? (i := 1197) (by decide +kernel), List.mem_of_getElem? (i := 1812) (by decide +kernel), List.mem_of_getElem? (i := 1813) (by decide +kernel)⟩
theorem lw_p116 : lw_okq (⟨"SackedGlassModel", "toldOf", "()I"⟩, 57) := ⟨⟨by decide +kernel, by decide +kernel⟩, List.mem_of_getElem? (i := 1197) (by decide +kernel), List.mem_of_getElem? (i := 1816) (by decide +kernel), List.mem_of_getElem? (i := 1817) (by decide +kernel)⟩
theorem lw_p117 : lw_okq (⟨"SackedGlassModel", "onesOf", "(I)I"⟩, 57) := ⟨⟨by decide +kernel, by decide +kernel⟩, List.mem_of_getElem? (i := 1197) (by decide +kernel), List.mem_of_getElem? (i := 1820) (by decide +kernel), List.mem_of_getElem? (i := 1821) (by decide +kernel)⟩
theorem lw_p118 : lw_okq (⟨"SackedGlassModel", "has", "(II)Z"⟩, 57) := ⟨⟨by decide +kernel, by decide +kernel⟩, List.mem_of_getElem? (i := 1197) (by decide +kernel), List.mem_of_getElem? (i := 1824) (by decide +kernel), List.mem_of_getElem? (i := 1825) (by decide +kernel)⟩
theorem lw_p119 : lw_okq (⟨"SackedGlassModel", "courtsOf", "(I)I"⟩, 57) := ⟨⟨by decide +kernel, by decide +kernel⟩, List.mem_of_getElem? (i := 1197) (by decide +kernel), List.mem_of_getElem? (i := 1828) (by decide +kernel), List.mem_of_getElem? (i := 1829) (by decide +kernel)⟩
theorem lw_p120 : lw_okq (⟨"SackedGlassModel", "here", "()I"⟩, 57) := ⟨⟨by decide +kernel, by decide +kernel⟩, List.mem_of_getElem? (i := 1197) (by decide +kernel), List.mem_of_getElem? (i := 1836) (by decide +kernel), List.mem_of_getElem? (i := 1837) (by decide +kernel)⟩
theorem lw_p121 : lw_okq (⟨"SackedGlassModel", "doesWin", "(I)Z"⟩, 57) := ⟨⟨by decide +kernel, by decide +kernel⟩, List.mem_of_getElem? (i := 1197) (by decide +kernel), List.mem_of_getElem? (i := 1840) (by decide +kernel), List.mem_of_getElem? (i := 1841) (by decide +kernel)⟩
theorem lw_p122 : lw_okq (⟨"SackedGlassModel", "votesOf", "(I)I"⟩, 57) := ⟨⟨by decide +kernel, by decide +kernel⟩, List.mem_of_getElem? (i := 1197) (by decide +kernel), List.mem_of_getElem? (i := 1844) (by decide +kernel), List.mem_of_getElem? (i := 1845) (by decide +kernel)⟩
theorem lw_p123 : lw_okq (⟨"SackedGlassModel", "findsServed", "()V"⟩, 57) := ⟨⟨by decide +kernel, by decide +kernel⟩, List.mem_of_getElem? (i := 1197) (by decide +kernel), List.mem_of_getElem? (i := 1860) (by decide +kernel), List.mem_of_getElem? (i := 1861) (by decide +kernel)⟩
theorem lw_p124 : lw_okq (⟨"SackedGlassModel", "servedBy", "(III)I"⟩, 57) := ⟨⟨by decide +kernel, by decide +kernel⟩, List.mem_of_getElem? (i := 1197) (by decide +kernel), List.mem_of_getElem? (i := 1864) (by decide +kernel), List.mem_of_getElem? (i := 1865) (by decide +kernel)⟩
theorem lw_p125 : lw_okq (⟨"SackedGlassModel", "leastBy", "(I)I"⟩, 57) := ⟨⟨by decide +kernel, by decide +kernel⟩, List.mem_of_getElem? (i := 1197) (by decide +kernel), List.mem_of_getElem? (i := 1880) (by decide +kernel), List.mem_of_getElem? (i := 1881) (by decide +kernel)⟩
theorem lw_p126 : lw_okq (⟨"SackedGlassModel", "keeps", "(I)I"⟩, 57) := ⟨⟨by decide +kernel, by decide +kernel⟩, List.mem_of_getElem? (i := 1197) (by decide +kernel), List.mem_of_getElem? (i := 1892) (by decide +kernel), List.mem_of_getElem? (i := 1893) (by decide +kernel)⟩
theorem lw_p127 : lw_okq (⟨"SackedGlassModel", "keepsTold", "()V"⟩, 57) := ⟨⟨by decide +kernel, by decide +kernel⟩, List.mem_of_getElem? (i := 1197) (by decide +kernel), List.mem_of_getElem? (i := 1896) (by decide +kernel), List.mem_of_getElem? (i := 1897) (by decide +kernel)⟩
def lw_privs_8 : List (MethodName × Nat) := [(⟨"SackedGlassModel", "isRound", "(I)Z"⟩, 57), (⟨"SackedGlassModel", "blamedIn", "(II)I"⟩, 57), (⟨"SackedGlassModel", "lesser", "(II)I"⟩, 57), (⟨"SackedGlassModel", "askedBest", "()I"⟩, 57), (⟨"SackedGlassModel", "toldOf", "()I"⟩, 57), (⟨"SackedGlassModel", "onesOf", "(I)I"⟩, 57), (⟨"SackedGlassModel", "has", "(II)Z"⟩, 57), (⟨"SackedGlassModel", "courtsOf", "(I)I"⟩, 57), (⟨"SackedGlassModel", "here", "()I"⟩, 57), (⟨"SackedGlassModel", "doesWin", "(I)Z"⟩, 57), (⟨"SackedGlassModel", "votesOf", "(I)I"⟩, 57), (⟨"SackedGlassModel", "findsServed", "()V"⟩, 57), (⟨"SackedGlassModel", "servedBy", "(III)I"⟩, 57), (⟨"SackedGlassModel", "leastBy", "(I)I"⟩, 57), (⟨"SackedGlassModel", "keeps", "(I)I"⟩, 57), (⟨"SackedGlassModel", "keepsTold", "()V"⟩, 57)]
theorem lw_r8 : ∀ q ∈ lw_privs_8, lw_okq q := List.forall_mem_cons.mpr ⟨lw_p112, List.forall_mem_cons.mpr ⟨lw_p113, List.forall_mem_cons.mpr ⟨lw_p114, List.forall_mem_cons.mpr ⟨lw_p115, List.forall_mem_cons.mpr ⟨lw_p116, List.forall_mem_cons.mpr ⟨lw_p117, List.forall_mem_cons.mpr ⟨lw_p118, List.forall_mem_cons.mpr ⟨lw_p119, List.forall_mem_cons.mpr ⟨lw_p120, List.forall_mem_cons.mpr ⟨lw_p121, List.forall_mem_cons.mpr ⟨lw_p122, List.forall_mem_cons.mpr ⟨lw_p123, List.forall_mem_cons.mpr ⟨lw_p124, List.forall_mem_cons.mpr ⟨lw_p125, List.forall_mem_cons.mpr ⟨lw_p126, List.forall_mem_cons.mpr ⟨lw_p127, fun _ h => absurd h List.not_mem_nil⟩⟩⟩⟩⟩⟩⟩⟩⟩⟩⟩⟩⟩⟩⟩⟩
theorem lw_p128 : lw_okq (⟨"SackedGlassModel", "keepsLaw", "()V"⟩, 57) := ⟨⟨by decide +kernel, by decide +kernel⟩, List.mem_of_getElem? (i := 1197) (by decide +kernel), List.mem_of_getElem? (i := 1900) (by decide +kernel), List.mem_of_getElem? (i := 1901) (by decide +kernel)⟩
def lw_privs_9 : List (MethodName × Nat) := [(⟨"SackedGlassModel", "keepsLaw", "()V"⟩, 57)]
theorem lw_r9 : ∀ q ∈ lw_privs_9, lw_okq q := List.forall_mem_cons.mpr ⟨lw_p128, fun _ h => absurd h List.not_mem_nil⟩
def lw_privs : List (MethodName × Nat) := lw_privs_1 ++ (lw_privs_2 ++ (lw_privs_3 ++ (lw_privs_4 ++ (lw_privs_5 ++ (lw_privs_6 ++ (lw_privs_7 ++ (lw_privs_8 ++ (lw_privs_9))))))))
def lw_tbl : List Cond := k2_sels lw_privs ++ tables_1
theorem lw_privs_ok : ∀ q ∈ lw_privs, lw_okq q := by
  show ∀ q ∈ lw_privs_1 ++ (lw_privs_2 ++ (lw_privs_3 ++ (lw_privs_4 ++ (lw_privs_5 ++ (lw_privs_6 ++ (lw_privs_7 ++ (lw_privs_8 ++ (lw_privs_9)))))))), lw_okq q
  exact List.forall_mem_append.mpr ⟨lw_r1, List.forall_mem_append.mpr ⟨lw_r2, List.forall_mem_append.mpr ⟨lw_r3, List.forall_mem_append.mpr ⟨lw_r4, List.forall_mem_append.mpr ⟨lw_r5, List.forall_mem_append.mpr ⟨lw_r6, List.forall_mem_append.mpr ⟨lw_r7, List.forall_mem_append.mpr ⟨lw_r8, lw_r9⟩⟩⟩⟩⟩⟩⟩⟩
def RX0 : String := "SackedGlass$Agenda"
def TX0 : u_T := fun k => match k with
  | 0 => ("SackedGlass$Agenda", "onDays", "[I", true)
  | 1 => ("SackedGlass$Agenda", "acts", "[I", true)
  | 2 => ("SackedGlass$Agenda", "whom", "[I", true)
  | 3 => ("SackedGlass$Agenda", "much", "[I", true)
  | _ => ("SackedGlass$Agenda", "count", "I", false)
def tyX0 : Nat → FieldType := fun k => match k with
  | 0 => .array .int
  | 1 => .array .int
  | 2 => .array .int
  | 3 => .array .int
  | _ => .int
abbrev wsX00 : List Cond := u_ws RX0 TX0 5
theorem nmX0 : ∀ a, a < 5 → ∀ b, b < 5 → a ≠ b → (TX0 a).2.1 ≠ (TX0 b).2.1 := by decide +kernel
theorem tyX0_ok : ∀ k, k < 5 → parseFieldDescriptor (TX0 k).2.2.1 = some (tyX0 k) := by decide +kernel
abbrev cX0_init : ByteArray := prog_2_method_1_code
def yX0_init : MethodName := ⟨RX0, "<init>", "()V"⟩
abbrev cX0_take : ByteArray := prog_2_method_2_code
def yX0_take : MethodName := ⟨RX0, "take", "(LSackedGlass$Agenda;)V"⟩
abbrev cX0_read : ByteArray := prog_2_method_3_code
def yX0_read : MethodName := ⟨RX0, "read", "(LSackedGlass$Tape;I)Z"⟩
abbrev cX0_readLine : ByteArray := prog_2_method_4_code
def yX0_readLine : MethodName := ⟨RX0, "readLine", "(LSackedGlass$Tape;I)Z"⟩
abbrev cX0_readWhom : ByteArray := prog_2_method_5_code
def yX0_readWhom : MethodName := ⟨RX0, "readWhom", "(LSackedGlass$Tape;I)Z"⟩
def RX1 : String := "SackedGlass$Book"
def TX1 : u_T := fun k => match k with
  | _ => ("SackedGlass$Book", "rows", "[I", true)
def tyX1 : Nat → FieldType := fun k => match k with
  | _ => .array .int
abbrev wsX10 : List Cond := u_ws RX1 TX1 1
theorem nmX1 : ∀ a, a < 1 → ∀ b, b < 1 → a ≠ b → (TX1 a).2.1 ≠ (TX1 b).2.1 := by decide +kernel
theorem tyX1_ok : ∀ k, k < 1 → parseFieldDescriptor (TX1 k).2.2.1 = some (tyX1 k) := by decide +kernel
abbrev cX1_init : ByteArray := prog_3_method_1_code
def yX1_init : MethodName := ⟨RX1, "<init>", "()V"⟩
abbrev cX1_take : ByteArray := prog_3_method_2_code
def yX1_take : MethodName := ⟨RX1, "take", "(LSackedGlass$Book;)V"⟩
abbrev cX1_write : ByteArray := prog_3_method_3_code
def yX1_write : MethodName := ⟨RX1, "write", "(LSackedGlass$Court;III)V"⟩
abbrev cX1_read : ByteArray := prog_3_method_4_code
def yX1_read : MethodName := ⟨RX1, "read", "(II)I"⟩
def RX2 : String := "SackedGlass$Council"
def TX2 : u_T := fun k => match k with
  | 0 => ("SackedGlass$Council", "table", "[I", true)
  | _ => ("SackedGlass$Council", "worths", "[I", true)
def tyX2 : Nat → FieldType := fun k => match k with
  | 0 => .array .int
  | _ => .array .int
abbrev wsX20 : List Cond := u_ws RX2 TX2 2
theorem nmX2 : ∀ a, a < 2 → ∀ b, b < 2 → a ≠ b → (TX2 a).2.1 ≠ (TX2 b).2.1 := by decide +kernel
theorem tyX2_ok : ∀ k, k < 2 → parseFieldDescriptor (TX2 k).2.2.1 = some (tyX2 k) := by decide +kernel
abbrev cX2_init : ByteArray := prog_4_method_1_code
def yX2_init : MethodName := ⟨RX2, "<init>", "()V"⟩
abbrev cX2_votesOf : ByteArray := prog_4_method_2_code
def yX2_votesOf : MethodName := ⟨RX2, "votesOf", "(LSackedGlass$Court;I)I"⟩
abbrev cX2_countVotes : ByteArray := prog_4_method_3_code
def yX2_countVotes : MethodName := ⟨RX2, "countVotes", "(LSackedGlass$Court;)I"⟩
abbrev cX2_winners : ByteArray := prog_4_method_4_code
def yX2_winners : MethodName := ⟨RX2, "winners", "(LSackedGlass$Court;)I"⟩
abbrev cX2_weightOf : ByteArray := prog_4_method_5_code
def yX2_weightOf : MethodName := ⟨RX2, "weightOf", "(LSackedGlass$Court;I)I"⟩
abbrev cX2_leaking : ByteArray := prog_4_method_6_code
def yX2_leaking : MethodName := ⟨RX2, "leaking", "(LSackedGlass$Notes;I)I"⟩
abbrev cX2_wrongHats : ByteArray := prog_4_method_7_code
def yX2_wrongHats : MethodName := ⟨RX2, "wrongHats", "(LSackedGlass$Court;)I"⟩
abbrev cX2_memberOf : ByteArray := prog_4_method_8_code
def yX2_memberOf : MethodName := ⟨RX2, "memberOf", "(II)I"⟩
abbrev cX2_waysWithHats : ByteArray := prog_4_method_9_code
def yX2_waysWithHats : MethodName := ⟨RX2, "waysWithHats", "(LSackedGlass$Court;II)I"⟩
abbrev cX2_countWorths : ByteArray := prog_4_method_10_code
def yX2_countWorths : MethodName := ⟨RX2, "countWorths", "(LSackedGlass$Court;LSackedGlass$Notes;)V"⟩
abbrev cX2_greatestService : ByteArray := prog_4_method_11_code
def yX2_greatestService : MethodName := ⟨RX2, "greatestService", "(LSackedGlass$Court;LSackedGlass$Notes;)I"⟩
abbrev cX2_bestFrom : ByteArray := prog_4_method_12_code
def yX2_bestFrom : MethodName := ⟨RX2, "bestFrom", "(II)I"⟩
abbrev cX2_holderOf : ByteArray := prog_4_method_13_code
def yX2_holderOf : MethodName := ⟨RX2, "holderOf", "(LSackedGlass$Court;LSackedGlass$Notes;I)I"⟩
abbrev cX2_firstHolder : ByteArray := prog_4_method_14_code
def yX2_firstHolder : MethodName := ⟨RX2, "firstHolder", "(II)I"⟩
abbrev cX2_goodTap : ByteArray := prog_4_method_15_code
def yX2_goodTap : MethodName := ⟨RX2, "goodTap", "(LSackedGlass$Court;Z)I"⟩
def RX3 : String := "SackedGlass$Court"
def TX3 : u_T := fun k => match k with
  | 0 => ("SackedGlass$Court", "real", "Z", true)
  | 1 => ("SackedGlass$Court", "rows", "[I", true)
  | 2 => ("SackedGlass$Court", "count", "I", false)
  | 3 => ("SackedGlass$Court", "state", "I", false)
  | 4 => ("SackedGlass$Court", "glass", "I", false)
  | 5 => ("SackedGlass$Court", "gusts", "I", false)
  | 6 => ("SackedGlass$Court", "falls", "I", false)
  | 7 => ("SackedGlass$Court", "minister", "I", false)
  | 8 => ("SackedGlass$Court", "floods", "I", false)
  | 9 => ("SackedGlass$Court", "coin", "I", false)
  | 10 => ("SackedGlass$Court", "day", "I", false)
  | 11 => ("SackedGlass$Court", "lines", "I", false)
  | _ => ("SackedGlass$Court", "recorded", "I", false)
def tyX3 : Nat → FieldType := fun k => match k with
  | 0 => .boolean
  | 1 => .array .int
  | 2 => .int
  | 3 => .int
  | 4 => .int
  | 5 => .int
  | 6 => .int
  | 7 => .int
  | 8 => .int
  | 9 => .int
  | 10 => .int
  | 11 => .int
  | _ => .int
abbrev wsX30 : List Cond := u_ws RX3 TX3 13
theorem nmX3 : ∀ a, a < 13 → ∀ b, b < 13 → a ≠ b → (TX3 a).2.1 ≠ (TX3 b).2.1 := by decide +kernel
theorem tyX3_ok : ∀ k, k < 13 → parseFieldDescriptor (TX3 k).2.2.1 = some (tyX3 k) := by decide +kernel
abbrev cX3_init : ByteArray := prog_5_method_1_code
def yX3_init : MethodName := ⟨RX3, "<init>", "(Z)V"⟩
abbrev cX3_take : ByteArray := prog_5_method_2_code
def yX3_take : MethodName := ⟨RX3, "take", "(LSackedGlass$Court;)V"⟩
abbrev cX3_admit : ByteArray := prog_5_method_3_code
def nX3_adm : String := match (tables_1_2[161]? : Option Jvm.Cond) with
  | some (Jvm.Cond.instanceMethod y) => y.name
  | _ => ""
def yX3_admit : MethodName := ⟨RX3, nX3_adm, "(II)I"⟩
abbrev cX3_has : ByteArray := prog_5_method_4_code
def yX3_has : MethodName := ⟨RX3, "has", "(I)Z"⟩
abbrev cX3_get : ByteArray := prog_5_method_5_code
def yX3_get : MethodName := ⟨RX3, "get", "(II)I"⟩
abbrev cX3_put : ByteArray := prog_5_method_6_code
def yX3_put : MethodName := ⟨RX3, "put", "(III)V"⟩
abbrev cX3_addStand : ByteArray := prog_5_method_7_code
def yX3_addStand : MethodName := ⟨RX3, "addStand", "(II)V"⟩
abbrev cX3_serving : ByteArray := prog_5_method_8_code
def yX3_serving : MethodName := ⟨RX3, "serving", "(I)Z"⟩
abbrev cX3_servingSet : ByteArray := prog_5_method_9_code
def yX3_servingSet : MethodName := ⟨RX3, "servingSet", "()I"⟩
abbrev cX3_kind : ByteArray := prog_5_method_10_code
def yX3_kind : MethodName := ⟨RX3, "kind", "()I"⟩
abbrev cX3_draw : ByteArray := prog_5_method_11_code
def yX3_draw : MethodName := ⟨RX3, "draw", "(I)I"⟩
abbrev cX3_allows : ByteArray := prog_5_method_12_code
def yX3_allows : MethodName := ⟨RX3, "allows", "(III)Z"⟩
abbrev cX3_tapAll : ByteArray := prog_5_method_13_code
def yX3_tapAll : MethodName := ⟨RX3, "tapAll", "()V"⟩
abbrev cX3_bestStanding : ByteArray := prog_5_method_14_code
def yX3_bestStanding : MethodName := ⟨RX3, "bestStanding", "()I"⟩
def RX4 : String := "SackedGlass$Law"
def TX4 : u_T := fun k => match k with
  | 0 => ("SackedGlass$Law", "words", "[I", true)
  | 1 => ("SackedGlass$Law", "froms", "[I", true)
  | 2 => ("SackedGlass$Law", "whens", "[I", true)
  | 3 => ("SackedGlass$Law", "ends", "[I", true)
  | 4 => ("SackedGlass$Law", "code", "[I", true)
  | 5 => ("SackedGlass$Law", "stack", "[I", true)
  | 6 => ("SackedGlass$Law", "facts", "[I", true)
  | 7 => ("SackedGlass$Law", "size", "I", false)
  | _ => ("SackedGlass$Law", "count", "I", false)
def tyX4 : Nat → FieldType := fun k => match k with
  | 0 => .array .int
  | 1 => .array .int
  | 2 => .array .int
  | 3 => .array .int
  | 4 => .array .int
  | 5 => .array .int
  | 6 => .array .int
  | 7 => .int
  | _ => .int
abbrev wsX40 : List Cond := u_ws RX4 TX4 9
theorem nmX4 : ∀ a, a < 9 → ∀ b, b < 9 → a ≠ b → (TX4 a).2.1 ≠ (TX4 b).2.1 := by decide +kernel
theorem tyX4_ok : ∀ k, k < 9 → parseFieldDescriptor (TX4 k).2.2.1 = some (tyX4 k) := by decide +kernel
abbrev cX4_init : ByteArray := prog_6_method_1_code
def yX4_init : MethodName := ⟨RX4, "<init>", "()V"⟩
abbrev cX4_take : ByteArray := prog_6_method_2_code
def yX4_take : MethodName := ⟨RX4, "take", "(LSackedGlass$Law;)V"⟩
abbrev cX4_read : ByteArray := prog_6_method_3_code
def yX4_read : MethodName := ⟨RX4, "read", "(LSackedGlass$Tape;)Z"⟩
abbrev cX4_readLine : ByteArray := prog_6_method_4_code
def yX4_readLine : MethodName := ⟨RX4, "readLine", "(LSackedGlass$Tape;)Z"⟩
abbrev cX4_readEither : ByteArray := prog_6_method_5_code
def yX4_readEither : MethodName := ⟨RX4, "readEither", "(LSackedGlass$Tape;I)Z"⟩
abbrev cX4_readTest : ByteArray := prog_6_method_6_code
def yX4_readTest : MethodName := ⟨RX4, "readTest", "(LSackedGlass$Tape;I)Z"⟩
abbrev cX4_readSum : ByteArray := prog_6_method_7_code
def yX4_readSum : MethodName := ⟨RX4, "readSum", "(LSackedGlass$Tape;)Z"⟩
abbrev cX4_readUnit : ByteArray := prog_6_method_8_code
def yX4_readUnit : MethodName := ⟨RX4, "readUnit", "(LSackedGlass$Tape;Z)Z"⟩
abbrev cX4_emit : ByteArray := prog_6_method_9_code
def yX4_emit : MethodName := ⟨RX4, "emit", "(I)V"⟩
abbrev cX4_learn : ByteArray := prog_6_method_10_code
def yX4_learn : MethodName := ⟨RX4, "learn", "(LSackedGlass$Court;I)V"⟩
abbrev cX4_answer : ByteArray := prog_6_method_11_code
def yX4_answer : MethodName := ⟨RX4, "answer", "(III)I"⟩
abbrev cX4_reckon : ByteArray := prog_6_method_12_code
def yX4_reckon : MethodName := ⟨RX4, "reckon", "(II)I"⟩
abbrev cX4_join : ByteArray := prog_6_method_13_code
def yX4_join : MethodName := ⟨RX4, "join", "(III)I"⟩
def RX5 : String := "SackedGlass$Memory"
def TX5 : u_T := fun k => match k with
  | 0 => ("SackedGlass$Memory", "came", "[I", true)
  | 1 => ("SackedGlass$Memory", "said", "[I", true)
  | 2 => ("SackedGlass$Memory", "cameDays", "[I", true)
  | _ => ("SackedGlass$Memory", "saidDays", "[I", true)
def tyX5 : Nat → FieldType := fun k => match k with
  | 0 => .array .int
  | 1 => .array .int
  | 2 => .array .int
  | _ => .array .int
abbrev wsX50 : List Cond := u_ws RX5 TX5 4
theorem nmX5 : ∀ a, a < 4 → ∀ b, b < 4 → a ≠ b → (TX5 a).2.1 ≠ (TX5 b).2.1 := by decide +kernel
theorem tyX5_ok : ∀ k, k < 4 → parseFieldDescriptor (TX5 k).2.2.1 = some (tyX5 k) := by decide +kernel
abbrev cX5_init : ByteArray := prog_7_method_1_code
def yX5_init : MethodName := ⟨RX5, "<init>", "()V"⟩
abbrev cX5_take : ByteArray := prog_7_method_2_code
def yX5_take : MethodName := ⟨RX5, "take", "(LSackedGlass$Memory;)V"⟩
abbrev cX5_add : ByteArray := prog_7_method_3_code
def yX5_add : MethodName := ⟨RX5, "add", "(LSackedGlass$Court;)V"⟩
abbrev cX5_kept : ByteArray := prog_7_method_4_code
def yX5_kept : MethodName := ⟨RX5, "kept", "(LSackedGlass$Court;)I"⟩
abbrev cX5_slotOf : ByteArray := prog_7_method_5_code
def yX5_slotOf : MethodName := ⟨RX5, "slotOf", "(LSackedGlass$Court;I)I"⟩
abbrev cX5_saidIn : ByteArray := prog_7_method_6_code
def yX5_saidIn : MethodName := ⟨RX5, "saidIn", "(II)I"⟩
abbrev cX5_toldDays : ByteArray := prog_7_method_7_code
def yX5_toldDays : MethodName := ⟨RX5, "toldDays", "(LSackedGlass$Court;I)I"⟩
abbrev cX5_rightDays : ByteArray := prog_7_method_8_code
def yX5_rightDays : MethodName := ⟨RX5, "rightDays", "(LSackedGlass$Court;I)I"⟩
abbrev cX5_countDays : ByteArray := prog_7_method_9_code
def yX5_countDays : MethodName := ⟨RX5, "countDays", "(LSackedGlass$Court;II)V"⟩
abbrev cX5_looksGlued : ByteArray := prog_7_method_10_code
def yX5_looksGlued : MethodName := ⟨RX5, "looksGlued", "(LSackedGlass$Court;I)Z"⟩
def RX6 : String := "SackedGlass$Notes"
def TX6 : u_T := fun k => match k with
  | 0 => ("SackedGlass$Notes", "seenGlass", "[I", true)
  | 1 => ("SackedGlass$Notes", "tellsWho", "[I", true)
  | 2 => ("SackedGlass$Notes", "tellsWhom", "[I", true)
  | 3 => ("SackedGlass$Notes", "postSorts", "[I", true)
  | 4 => ("SackedGlass$Notes", "postWorths", "[I", true)
  | 5 => ("SackedGlass$Notes", "gains", "[I", true)
  | 6 => ("SackedGlass$Notes", "seenCount", "I", false)
  | 7 => ("SackedGlass$Notes", "umbrellaCount", "I", false)
  | _ => ("SackedGlass$Notes", "postCount", "I", false)
def tyX6 : Nat → FieldType := fun k => match k with
  | 0 => .array .int
  | 1 => .array .int
  | 2 => .array .int
  | 3 => .array .int
  | 4 => .array .int
  | 5 => .array .int
  | 6 => .int
  | 7 => .int
  | _ => .int
abbrev wsX60 : List Cond := u_ws RX6 TX6 9
theorem nmX6 : ∀ a, a < 9 → ∀ b, b < 9 → a ≠ b → (TX6 a).2.1 ≠ (TX6 b).2.1 := by decide +kernel
theorem tyX6_ok : ∀ k, k < 9 → parseFieldDescriptor (TX6 k).2.2.1 = some (tyX6 k) := by decide +kernel
abbrev cX6_init : ByteArray := prog_8_method_1_code
def yX6_init : MethodName := ⟨RX6, "<init>", "()V"⟩
abbrev cX6_take : ByteArray := prog_8_method_2_code
def yX6_take : MethodName := ⟨RX6, "take", "(LSackedGlass$Notes;)V"⟩
abbrev cX6_addSeen : ByteArray := prog_8_method_3_code
def yX6_addSeen : MethodName := ⟨RX6, "addSeen", "(I)I"⟩
abbrev cX6_period : ByteArray := prog_8_method_4_code
def yX6_period : MethodName := ⟨RX6, "period", "()I"⟩
abbrev cX6_repeatsAfter : ByteArray := prog_8_method_5_code
def yX6_repeatsAfter : MethodName := ⟨RX6, "repeatsAfter", "(I)Z"⟩
abbrev cX6_seenBehind : ByteArray := prog_8_method_6_code
def yX6_seenBehind : MethodName := ⟨RX6, "seenBehind", "(I)I"⟩
abbrev cX6_addUmbrella : ByteArray := prog_8_method_7_code
def yX6_addUmbrella : MethodName := ⟨RX6, "addUmbrella", "(III)I"⟩
abbrev cX6_courtiersOf : ByteArray := prog_8_method_8_code
def yX6_courtiersOf : MethodName := ⟨RX6, "courtiersOf", "(I)I"⟩
abbrev cX6_tellersOf : ByteArray := prog_8_method_9_code
def yX6_tellersOf : MethodName := ⟨RX6, "tellersOf", "(I)I"⟩
abbrev cX6_bestToAsk : ByteArray := prog_8_method_10_code
def yX6_bestToAsk : MethodName := ⟨RX6, "bestToAsk", "()I"⟩
abbrev cX6_addPost : ByteArray := prog_8_method_11_code
def yX6_addPost : MethodName := ⟨RX6, "addPost", "(II)I"⟩
abbrev cX6_worthOf : ByteArray := prog_8_method_12_code
def yX6_worthOf : MethodName := ⟨RX6, "worthOf", "(II)I"⟩
abbrev cX6_setMix : ByteArray := prog_8_method_13_code
def yX6_setMix : MethodName := ⟨RX6, "setMix", "(II)Z"⟩
abbrev cX6_mixWorth : ByteArray := prog_8_method_14_code
def yX6_mixWorth : MethodName := ⟨RX6, "mixWorth", "(I)I"⟩
abbrev cX6_bestMix : ByteArray := prog_8_method_15_code
def yX6_bestMix : MethodName := ⟨RX6, "bestMix", "()I"⟩
def RX7 : String := "SackedGlass$Rounds"
def TX7 : u_T := fun k => match k with
  | 0 => ("SackedGlass$Rounds", "lasts", "[I", true)
  | 1 => ("SackedGlass$Rounds", "moves", "[I", true)
  | 2 => ("SackedGlass$Rounds", "all", "I", false)
  | _ => ("SackedGlass$Rounds", "count", "I", false)
def tyX7 : Nat → FieldType := fun k => match k with
  | 0 => .array .int
  | 1 => .array .int
  | 2 => .int
  | _ => .int
abbrev wsX70 : List Cond := u_ws RX7 TX7 4
theorem nmX7 : ∀ a, a < 4 → ∀ b, b < 4 → a ≠ b → (TX7 a).2.1 ≠ (TX7 b).2.1 := by decide +kernel
theorem tyX7_ok : ∀ k, k < 4 → parseFieldDescriptor (TX7 k).2.2.1 = some (tyX7 k) := by decide +kernel
abbrev cX7_init : ByteArray := prog_9_method_1_code
def yX7_init : MethodName := ⟨RX7, "<init>", "()V"⟩
abbrev cX7_take : ByteArray := prog_9_method_2_code
def yX7_take : MethodName := ⟨RX7, "take", "(LSackedGlass$Rounds;)V"⟩
abbrev cX7_read : ByteArray := prog_9_method_3_code
def yX7_read : MethodName := ⟨RX7, "read", "(LSackedGlass$Tape;)Z"⟩
abbrev cX7_readLine : ByteArray := prog_9_method_4_code
def yX7_readLine : MethodName := ⟨RX7, "readLine", "(LSackedGlass$Tape;)Z"⟩
abbrev cX7_moveOn : ByteArray := prog_9_method_5_code
def yX7_moveOn : MethodName := ⟨RX7, "moveOn", "(I)I"⟩
def RX8 : String := "SackedGlass$Steps"
def TX8 : u_T := fun k => match k with
  | 0 => ("SackedGlass$Steps", "courts", "[LSackedGlass$Court;", true)
  | 1 => ("SackedGlass$Steps", "next", "I", false)
  | _ => ("SackedGlass$Steps", "count", "I", false)
def tyX8 : Nat → FieldType := fun k => match k with
  | 0 => .array (.object "SackedGlass$Court")
  | 1 => .int
  | _ => .int
abbrev wsX80 : List Cond := u_ws RX8 TX8 3
theorem nmX8 : ∀ a, a < 3 → ∀ b, b < 3 → a ≠ b → (TX8 a).2.1 ≠ (TX8 b).2.1 := by decide +kernel
theorem tyX8_ok : ∀ k, k < 3 → parseFieldDescriptor (TX8 k).2.2.1 = some (tyX8 k) := by decide +kernel
abbrev cX8_init : ByteArray := prog_10_method_1_code
def yX8_init : MethodName := ⟨RX8, "<init>", "()V"⟩
abbrev cX8_keep : ByteArray := prog_10_method_2_code
def yX8_keep : MethodName := ⟨RX8, "keep", "(LSackedGlass$Court;)V"⟩
abbrev cX8_back : ByteArray := prog_10_method_3_code
def yX8_back : MethodName := ⟨RX8, "back", "(LSackedGlass$Court;)Z"⟩
abbrev cX8_forget : ByteArray := prog_10_method_4_code
def yX8_forget : MethodName := ⟨RX8, "forget", "()V"⟩
def RX9 : String := "SackedGlass$Tape"
def TX9 : u_T := fun k => match k with
  | 0 => ("SackedGlass$Tape", "bytes", "[I", true)
  | 1 => ("SackedGlass$Tape", "tokens", "[I", true)
  | 2 => ("SackedGlass$Tape", "numbers", "[I", true)
  | 3 => ("SackedGlass$Tape", "places", "[I", true)
  | 4 => ("SackedGlass$Tape", "at", "I", false)
  | 5 => ("SackedGlass$Tape", "length", "I", false)
  | 6 => ("SackedGlass$Tape", "fault", "I", false)
  | _ => ("SackedGlass$Tape", "faultPlace", "I", false)
def tyX9 : Nat → FieldType := fun k => match k with
  | 0 => .array .int
  | 1 => .array .int
  | 2 => .array .int
  | 3 => .array .int
  | 4 => .int
  | 5 => .int
  | 6 => .int
  | _ => .int
abbrev wsX90 : List Cond := u_ws RX9 TX9 8
theorem nmX9 : ∀ a, a < 8 → ∀ b, b < 8 → a ≠ b → (TX9 a).2.1 ≠ (TX9 b).2.1 := by decide +kernel
theorem tyX9_ok : ∀ k, k < 8 → parseFieldDescriptor (TX9 k).2.2.1 = some (tyX9 k) := by decide +kernel
abbrev cX9_init : ByteArray := prog_11_method_1_code
def yX9_init : MethodName := ⟨RX9, "<init>", "()V"⟩
abbrev cX9_hasRoom : ByteArray := prog_11_method_2_code
def yX9_hasRoom : MethodName := ⟨RX9, "hasRoom", "()Z"⟩
abbrev cX9_add : ByteArray := prog_11_method_3_code
def yX9_add : MethodName := ⟨RX9, "add", "(I)V"⟩
abbrev cX9_cut : ByteArray := prog_11_method_4_code
def yX9_cut : MethodName := ⟨RX9, "cut", "(I)Z"⟩
abbrev cX9_clearFault : ByteArray := prog_11_method_5_code
def yX9_clearFault : MethodName := ⟨RX9, "clearFault", "()V"⟩
abbrev cX9_split : ByteArray := prog_11_method_6_code
def yX9_split : MethodName := ⟨RX9, "split", "(Ljava/lang/String;)V"⟩
abbrev cX9_runFrom : ByteArray := prog_11_method_7_code
def yX9_runFrom : MethodName := ⟨RX9, "runFrom", "(I)I"⟩
abbrev cX9_tokenOf : ByteArray := prog_11_method_8_code
def yX9_tokenOf : MethodName := ⟨RX9, "tokenOf", "(IILjava/lang/String;)I"⟩
abbrev cX9_wordOf : ByteArray := prog_11_method_9_code
def yX9_wordOf : MethodName := ⟨RX9, "wordOf", "(IILjava/lang/String;)I"⟩
abbrev cX9_isSame : ByteArray := prog_11_method_10_code
def yX9_isSame : MethodName := ⟨RX9, "isSame", "(IILjava/lang/String;I)Z"⟩
abbrev cX9_numberOf : ByteArray := prog_11_method_11_code
def yX9_numberOf : MethodName := ⟨RX9, "numberOf", "(II)I"⟩
abbrev cX9_isBlank : ByteArray := prog_11_method_12_code
def yX9_isBlank : MethodName := ⟨RX9, "isBlank", "(I)Z"⟩
abbrev cX9_isLetter : ByteArray := prog_11_method_13_code
def yX9_isLetter : MethodName := ⟨RX9, "isLetter", "(I)Z"⟩
abbrev cX9_isDigit : ByteArray := prog_11_method_14_code
def yX9_isDigit : MethodName := ⟨RX9, "isDigit", "(I)Z"⟩
abbrev cX9_token : ByteArray := prog_11_method_15_code
def yX9_token : MethodName := ⟨RX9, "token", "()I"⟩
abbrev cX9_number : ByteArray := prog_11_method_16_code
def yX9_number : MethodName := ⟨RX9, "number", "()I"⟩
abbrev cX9_step : ByteArray := prog_11_method_17_code
def yX9_step : MethodName := ⟨RX9, "step", "()V"⟩
abbrev cX9_refuse : ByteArray := prog_11_method_18_code
def yX9_refuse : MethodName := ⟨RX9, "refuse", "(I)Z"⟩
abbrev cX9_expect : ByteArray := prog_11_method_19_code
def yX9_expect : MethodName := ⟨RX9, "expect", "(I)Z"⟩
abbrev cX9_expectNumber : ByteArray := prog_11_method_20_code
def yX9_expectNumber : MethodName := ⟨RX9, "expectNumber", "(II)I"⟩
def RX10 : String := "SackedGlass$World"
def TX10 : u_T := fun k => match k with
  | 0 => ("SackedGlass$World", "court", "LSackedGlass$Court;", true)
  | 1 => ("SackedGlass$World", "law", "LSackedGlass$Law;", true)
  | 2 => ("SackedGlass$World", "rounds", "LSackedGlass$Rounds;", true)
  | 3 => ("SackedGlass$World", "agenda", "LSackedGlass$Agenda;", true)
  | 4 => ("SackedGlass$World", "book", "LSackedGlass$Book;", true)
  | 5 => ("SackedGlass$World", "memory", "LSackedGlass$Memory;", true)
  | 6 => ("SackedGlass$World", "notes", "LSackedGlass$Notes;", true)
  | _ => ("SackedGlass$World", "chances", "[J", true)
def tyX10 : Nat → FieldType := fun k => match k with
  | 0 => .object "SackedGlass$Court"
  | 1 => .object "SackedGlass$Law"
  | 2 => .object "SackedGlass$Rounds"
  | 3 => .object "SackedGlass$Agenda"
  | 4 => .object "SackedGlass$Book"
  | 5 => .object "SackedGlass$Memory"
  | 6 => .object "SackedGlass$Notes"
  | _ => .array .long
abbrev wsX100 : List Cond := u_ws RX10 TX10 8
theorem nmX10 : ∀ a, a < 8 → ∀ b, b < 8 → a ≠ b → (TX10 a).2.1 ≠ (TX10 b).2.1 := by decide +kernel
theorem tyX10_ok : ∀ k, k < 8 → parseFieldDescriptor (TX10 k).2.2.1 = some (tyX10 k) := by decide +kernel
abbrev cX10_init : ByteArray := prog_12_method_1_code
def yX10_init : MethodName := ⟨RX10, "<init>", "()V"⟩
abbrev cX10_take : ByteArray := prog_12_method_2_code
def yX10_take : MethodName := ⟨RX10, "take", "(LSackedGlass$World;)V"⟩
abbrev cX10_tellBy : ByteArray := prog_12_method_3_code
def yX10_tellBy : MethodName := ⟨RX10, "tellBy", "(LSackedGlass$Court;I)I"⟩
abbrev cX10_errBy : ByteArray := prog_12_method_4_code
def yX10_errBy : MethodName := ⟨RX10, "errBy", "(LSackedGlass$Court;I)I"⟩
abbrev cX10_blameBy : ByteArray := prog_12_method_5_code
def yX10_blameBy : MethodName := ⟨RX10, "blameBy", "(LSackedGlass$Court;II)I"⟩
abbrev cX10_glassBehind : ByteArray := prog_12_method_6_code
def yX10_glassBehind : MethodName := ⟨RX10, "glassBehind", "(II)I"⟩
abbrev cX10_pass : ByteArray := prog_12_method_7_code
def yX10_pass : MethodName := ⟨RX10, "pass", "(LSackedGlass$Court;)I"⟩
abbrev cX10_followAgenda : ByteArray := prog_12_method_8_code
def yX10_followAgenda : MethodName := ⟨RX10, "followAgenda", "(LSackedGlass$Court;)V"⟩
abbrev cX10_carryOut : ByteArray := prog_12_method_9_code
def yX10_carryOut : MethodName := ⟨RX10, "carryOut", "(LSackedGlass$Court;III)V"⟩
abbrev cX10_tellAll : ByteArray := prog_12_method_10_code
def yX10_tellAll : MethodName := ⟨RX10, "tellAll", "(LSackedGlass$Court;)Z"⟩
abbrev cX10_freeWord : ByteArray := prog_12_method_11_code
def yX10_freeWord : MethodName := ⟨RX10, "freeWord", "(LSackedGlass$Court;I)I"⟩
abbrev cX10_moveGlass : ByteArray := prog_12_method_12_code
def yX10_moveGlass : MethodName := ⟨RX10, "moveGlass", "(LSackedGlass$Court;)V"⟩
abbrev cX10_blameAll : ByteArray := prog_12_method_13_code
def yX10_blameAll : MethodName := ⟨RX10, "blameAll", "(LSackedGlass$Court;)V"⟩
abbrev cX10_floodAny : ByteArray := prog_12_method_14_code
def yX10_floodAny : MethodName := ⟨RX10, "floodAny", "(LSackedGlass$Court;)V"⟩
abbrev cX10_fallAny : ByteArray := prog_12_method_15_code
def yX10_fallAny : MethodName := ⟨RX10, "fallAny", "(LSackedGlass$Court;)I"⟩
abbrev cX10_nameAny : ByteArray := prog_12_method_16_code
def yX10_nameAny : MethodName := ⟨RX10, "nameAny", "(LSackedGlass$Court;)V"⟩
abbrev cX10_blameTomorrow : ByteArray := prog_12_method_17_code
def yX10_blameTomorrow : MethodName := ⟨RX10, "blameTomorrow", "(LSackedGlass$Court;II)I"⟩
abbrev cX10_weighKinds : ByteArray := prog_12_method_18_code
def yX10_weighKinds : MethodName := ⟨RX10, "weighKinds", "()Z"⟩
abbrev cX10_heaviestKind : ByteArray := prog_12_method_19_code
def yX10_heaviestKind : MethodName := ⟨RX10, "heaviestKind", "()I"⟩
abbrev cX10_shareOfMillion : ByteArray := prog_12_method_20_code
def yX10_shareOfMillion : MethodName := ⟨RX10, "shareOfMillion", "(I)I"⟩
def RX11 : String := "SackedGlass"
def TX11 : u_T := fun k => match k with
  | 0 => ("SackedGlass", "tape", "LSackedGlass$Tape;", true)
  | 1 => ("SackedGlass", "now", "LSackedGlass$World;", true)
  | 2 => ("SackedGlass", "thought", "LSackedGlass$Court;", true)
  | 3 => ("SackedGlass", "steps", "LSackedGlass$Steps;", true)
  | 4 => ("SackedGlass", "nextLaw", "LSackedGlass$Law;", true)
  | 5 => ("SackedGlass", "nextRounds", "LSackedGlass$Rounds;", true)
  | 6 => ("SackedGlass", "nextAgenda", "LSackedGlass$Agenda;", true)
  | 7 => ("SackedGlass", "kept", "LSackedGlass$World;", false)
  | _ => ("SackedGlass", "council", "LSackedGlass$Council;", false)
def tyX11 : Nat → FieldType := fun k => match k with
  | 0 => .object "SackedGlass$Tape"
  | 1 => .object "SackedGlass$World"
  | 2 => .object "SackedGlass$Court"
  | 3 => .object "SackedGlass$Steps"
  | 4 => .object "SackedGlass$Law"
  | 5 => .object "SackedGlass$Rounds"
  | 6 => .object "SackedGlass$Agenda"
  | 7 => .object "SackedGlass$World"
  | _ => .object "SackedGlass$Council"
abbrev wsX110 : List Cond := u_ws RX11 TX11 9
theorem nmX11 : ∀ a, a < 9 → ∀ b, b < 9 → a ≠ b → (TX11 a).2.1 ≠ (TX11 b).2.1 := by decide +kernel
theorem tyX11_ok : ∀ k, k < 9 → parseFieldDescriptor (TX11 k).2.2.1 = some (tyX11 k) := by decide +kernel
abbrev cX11_init : ByteArray := prog_1_method_1_code
def yX11_init : MethodName := ⟨RX11, "<init>", "()V"⟩
abbrev cX11_state : ByteArray := prog_1_method_2_code
def yX11_state : MethodName := ⟨RX11, "state", "(I)I"⟩
abbrev cX11_teller : ByteArray := prog_1_method_3_code
def yX11_teller : MethodName := ⟨RX11, "teller", "(II)I"⟩
abbrev cX11_set : ByteArray := prog_1_method_4_code
def yX11_set : MethodName := ⟨RX11, "set", "(III)Z"⟩
abbrev cX11_act : ByteArray := prog_1_method_5_code
def yX11_act : MethodName := ⟨RX11, "act", "(III)Z"⟩
abbrev cX11_days : ByteArray := prog_1_method_6_code
def yX11_days : MethodName := ⟨RX11, "days", "(I)I"⟩
abbrev cX11_feed : ByteArray := prog_1_method_7_code
def yX11_feed : MethodName := ⟨RX11, "feed", "(IIIII)I"⟩
abbrev cX11_end : ByteArray := prog_1_method_8_code
def yX11_end : MethodName := ⟨RX11, "end", "(I)Z"⟩
abbrev cX11_text : ByteArray := prog_1_method_9_code
def yX11_text : MethodName := ⟨RX11, "text", "(I)I"⟩
abbrev cX11_fault : ByteArray := prog_1_method_10_code
def yX11_fault : MethodName := ⟨RX11, "fault", "(I)I"⟩
abbrev cX11_of : ByteArray := prog_1_method_11_code
def yX11_of : MethodName := ⟨RX11, "of", "(II)I"⟩
abbrev cX11_moves : ByteArray := prog_1_method_12_code
def yX11_moves : MethodName := ⟨RX11, "moves", "(I)I"⟩
abbrev cX11_book : ByteArray := prog_1_method_13_code
def yX11_book : MethodName := ⟨RX11, "book", "(II)I"⟩
abbrev cX11_goes : ByteArray := prog_1_method_14_code
def yX11_goes : MethodName := ⟨RX11, "goes", "(II)I"⟩
abbrev cX11_ahead : ByteArray := prog_1_method_15_code
def yX11_ahead : MethodName := ⟨RX11, "ahead", "(I)I"⟩
abbrev cX11_right : ByteArray := prog_1_method_16_code
def yX11_right : MethodName := ⟨RX11, "right", "(II)I"⟩
abbrev cX11_surest : ByteArray := prog_1_method_17_code
def yX11_surest : MethodName := ⟨RX11, "surest", "()I"⟩
abbrev cX11_likely : ByteArray := prog_1_method_18_code
def yX11_likely : MethodName := ⟨RX11, "likely", "(I)I"⟩
abbrev cX11_glued : ByteArray := prog_1_method_19_code
def yX11_glued : MethodName := ⟨RX11, "glued", "()I"⟩
abbrev cX11_seen : ByteArray := prog_1_method_20_code
def yX11_seen : MethodName := ⟨RX11, "seen", "(I)I"⟩
abbrev cX11_round : ByteArray := prog_1_method_21_code
def yX11_round : MethodName := ⟨RX11, "round", "(I)I"⟩
abbrev cX11_safe : ByteArray := prog_1_method_22_code
def yX11_safe : MethodName := ⟨RX11, "safe", "(II)I"⟩
abbrev cX11_works : ByteArray := prog_1_method_23_code
def yX11_works : MethodName := ⟨RX11, "works", "(IIII)I"⟩
abbrev cX11_umbrella : ByteArray := prog_1_method_24_code
def yX11_umbrella : MethodName := ⟨RX11, "umbrella", "(II)I"⟩
abbrev cX11_leaks : ByteArray := prog_1_method_25_code
def yX11_leaks : MethodName := ⟨RX11, "leaks", "(II)I"⟩
abbrev cX11_wins : ByteArray := prog_1_method_26_code
def yX11_wins : MethodName := ⟨RX11, "wins", "(I)I"⟩
abbrev cX11_weighs : ByteArray := prog_1_method_27_code
def yX11_weighs : MethodName := ⟨RX11, "weighs", "(I)I"⟩
abbrev cX11_post : ByteArray := prog_1_method_28_code
def yX11_post : MethodName := ⟨RX11, "post", "(II)I"⟩
abbrev cX11_serves : ByteArray := prog_1_method_29_code
def yX11_serves : MethodName := ⟨RX11, "serves", "(I)I"⟩
abbrev cX11_hats : ByteArray := prog_1_method_30_code
def yX11_hats : MethodName := ⟨RX11, "hats", "()I"⟩
abbrev cX11_mix : ByteArray := prog_1_method_31_code
def yX11_mix : MethodName := ⟨RX11, "mix", "(II)Z"⟩
abbrev cX11_mixes : ByteArray := prog_1_method_32_code
def yX11_mixes : MethodName := ⟨RX11, "mixes", "(I)I"⟩
abbrev cX11_game : ByteArray := prog_1_method_33_code
def yX11_game : MethodName := ⟨RX11, "game", "(I)I"⟩
abbrev cX11_undo : ByteArray := prog_1_method_34_code
def yX11_undo : MethodName := ⟨RX11, "undo", "()Z"⟩
abbrev cX11_image : ByteArray := prog_1_method_35_code
def yX11_image : MethodName := ⟨RX11, "image", "(Z)Z"⟩
abbrev cX11_look : ByteArray := prog_1_method_36_code
def yX11_look : MethodName := ⟨RX11, "look", "(I)I"⟩
abbrev cX11_theCouncil : ByteArray := prog_1_method_37_code
def yX11_theCouncil : MethodName := ⟨RX11, "theCouncil", "()LSackedGlass$Council;"⟩
abbrev cX11_within : ByteArray := prog_1_method_38_code
def yX11_within : MethodName := ⟨RX11, "within", "(III)Z"⟩
abbrev cX11_hold : ByteArray := prog_1_method_39_code
def yX11_hold : MethodName := ⟨RX11, "hold", "(III)I"⟩
def RX12 : String := "SackedGlassModel"
def TX12 : u_T := fun k => match k with
  | 0 => ("SackedGlassModel", "told", "I", false)
  | 1 => ("SackedGlassModel", "now", "[I", true)
  | 2 => ("SackedGlassModel", "rows", "[I", true)
  | 3 => ("SackedGlassModel", "undoable", "I", false)
  | 4 => ("SackedGlassModel", "waiting", "[I", true)
  | 5 => ("SackedGlassModel", "isThought", "Z", false)
  | 6 => ("SackedGlassModel", "tellers", "I", false)
  | 7 => ("SackedGlassModel", "gustOdds", "I", false)
  | 8 => ("SackedGlassModel", "fallsBut", "I", false)
  | 9 => ("SackedGlassModel", "sort", "[I", true)
  | 10 => ("SackedGlassModel", "fear", "[I", true)
  | 11 => ("SackedGlassModel", "book", "[I", true)
  | 12 => ("SackedGlassModel", "tape", "[I", true)
  | 13 => ("SackedGlassModel", "taped", "I", false)
  | 14 => ("SackedGlassModel", "spot", "I", false)
  | 15 => ("SackedGlassModel", "from", "I", false)
  | 16 => ("SackedGlassModel", "token", "I", false)
  | 17 => ("SackedGlassModel", "value", "I", false)
  | 18 => ("SackedGlassModel", "words", "[I", true)
  | 19 => ("SackedGlassModel", "lineMany", "[I", true)
  | 20 => ("SackedGlassModel", "lineWord", "[I", true)
  | 21 => ("SackedGlassModel", "lineFrom", "[I", true)
  | 22 => ("SackedGlassModel", "lineWhen", "[I", true)
  | 23 => ("SackedGlassModel", "lineTo", "[I", true)
  | 24 => ("SackedGlassModel", "op", "[I", true)
  | 25 => ("SackedGlassModel", "arg", "[I", true)
  | 26 => ("SackedGlassModel", "which", "I", false)
  | 27 => ("SackedGlassModel", "codes", "I", false)
  | 28 => ("SackedGlassModel", "open", "I", false)
  | 29 => ("SackedGlassModel", "pending", "[I", true)
  | 30 => ("SackedGlassModel", "pendings", "I", false)
  | 31 => ("SackedGlassModel", "readFault", "I", false)
  | 32 => ("SackedGlassModel", "readPlace", "I", false)
  | 33 => ("SackedGlassModel", "faultKind", "I", false)
  | 34 => ("SackedGlassModel", "faultPlace", "I", false)
  | 35 => ("SackedGlassModel", "roundMany", "I", false)
  | 36 => ("SackedGlassModel", "rounds", "[I", true)
  | 37 => ("SackedGlassModel", "deedMany", "I", false)
  | 38 => ("SackedGlassModel", "deeds", "[I", true)
  | 39 => ("SackedGlassModel", "asked", "[I", true)
  | 40 => ("SackedGlassModel", "stack", "[I", true)
  | 41 => ("SackedGlassModel", "fellFirst", "I", false)
  | 42 => ("SackedGlassModel", "fellDay", "I", false)
  | 43 => ("SackedGlassModel", "seenMany", "I", false)
  | 44 => ("SackedGlassModel", "seen", "[I", true)
  | 45 => ("SackedGlassModel", "umbrellaMany", "I", false)
  | 46 => ("SackedGlassModel", "courts", "[I", true)
  | 47 => ("SackedGlassModel", "postMany", "I", false)
  | 48 => ("SackedGlassModel", "postSort", "[I", true)
  | 49 => ("SackedGlassModel", "postWorth", "[I", true)
  | 50 => ("SackedGlassModel", "servedFrom", "[I", true)
  | 51 => ("SackedGlassModel", "hatsFrom", "[I", true)
  | 52 => ("SackedGlassModel", "mixed", "[I", true)
  | 53 => ("SackedGlassModel", "isTaking", "Z", false)
  | 54 => ("SackedGlassModel", "hasImage", "Z", false)
  | 55 => ("SackedGlassModel", "keptAt", "I", false)
  | _ => ("SackedGlassModel", "images", "[I", true)
def tyX12 : Nat → FieldType := fun k => match k with
  | 0 => .int
  | 1 => .array .int
  | 2 => .array .int
  | 3 => .int
  | 4 => .array .int
  | 5 => .boolean
  | 6 => .int
  | 7 => .int
  | 8 => .int
  | 9 => .array .int
  | 10 => .array .int
  | 11 => .array .int
  | 12 => .array .int
  | 13 => .int
  | 14 => .int
  | 15 => .int
  | 16 => .int
  | 17 => .int
  | 18 => .array .int
  | 19 => .array .int
  | 20 => .array .int
  | 21 => .array .int
  | 22 => .array .int
  | 23 => .array .int
  | 24 => .array .int
  | 25 => .array .int
  | 26 => .int
  | 27 => .int
  | 28 => .int
  | 29 => .array .int
  | 30 => .int
  | 31 => .int
  | 32 => .int
  | 33 => .int
  | 34 => .int
  | 35 => .int
  | 36 => .array .int
  | 37 => .int
  | 38 => .array .int
  | 39 => .array .int
  | 40 => .array .int
  | 41 => .int
  | 42 => .int
  | 43 => .int
  | 44 => .array .int
  | 45 => .int
  | 46 => .array .int
  | 47 => .int
  | 48 => .array .int
  | 49 => .array .int
  | 50 => .array .int
  | 51 => .array .int
  | 52 => .array .int
  | 53 => .boolean
  | 54 => .boolean
  | 55 => .int
  | _ => .array .int
abbrev wsX120 : List Cond := u_ws RX12 TX12 57
theorem nmX12 : ∀ a, a < 57 → ∀ b, b < 57 → a ≠ b → (TX12 a).2.1 ≠ (TX12 b).2.1 := by decide +kernel
theorem tyX12_ok : ∀ k, k < 57 → parseFieldDescriptor (TX12 k).2.2.1 = some (tyX12 k) := by decide +kernel
abbrev cX12_init : ByteArray := prog_14_method_1_code
def yX12_init : MethodName := ⟨RX12, "<init>", "()V"⟩
abbrev cX12_isIn : ByteArray := prog_14_method_3_code
def yX12_isIn : MethodName := ⟨RX12, "isIn", "(III)Z"⟩
abbrev cX12_held : ByteArray := prog_14_method_4_code
def yX12_held : MethodName := ⟨RX12, "held", "(III)I"⟩
abbrev cX12_greater : ByteArray := prog_14_method_5_code
def yX12_greater : MethodName := ⟨RX12, "greater", "(II)I"⟩
abbrev cX12_lesser : ByteArray := prog_14_method_6_code
def yX12_lesser : MethodName := ⟨RX12, "lesser", "(II)I"⟩
abbrev cX12_far : ByteArray := prog_14_method_7_code
def yX12_far : MethodName := ⟨RX12, "far", "(II)I"⟩
abbrev cX12_onesOf : ByteArray := prog_14_method_8_code
def yX12_onesOf : MethodName := ⟨RX12, "onesOf", "(I)I"⟩
abbrev cX12_has : ByteArray := prog_14_method_9_code
def yX12_has : MethodName := ⟨RX12, "has", "(II)Z"⟩
abbrev cX12_keepsAhead : ByteArray := prog_14_method_10_code
def yX12_keepsAhead : MethodName := ⟨RX12, "keepsAhead", "()V"⟩
abbrev cX12_undo : ByteArray := prog_14_method_11_code
def yX12_undo : MethodName := ⟨RX12, "undo", "()Z"⟩
abbrev cX12_thinks : ByteArray := prog_14_method_12_code
def yX12_thinks : MethodName := ⟨RX12, "thinks", "()V"⟩
abbrev cX12_endsThought : ByteArray := prog_14_method_13_code
def yX12_endsThought : MethodName := ⟨RX12, "endsThought", "()V"⟩
abbrev cX12_state : ByteArray := prog_14_method_14_code
def yX12_state : MethodName := ⟨RX12, "state", "(I)I"⟩
abbrev cX12_draw : ByteArray := prog_14_method_15_code
def yX12_draw : MethodName := ⟨RX12, "draw", "(I)I"⟩
abbrev cX12_falls : ByteArray := prog_14_method_16_code
def yX12_falls : MethodName := ⟨RX12, "falls", "()I"⟩
abbrev cX12_glass : ByteArray := prog_14_method_17_code
def yX12_glass : MethodName := ⟨RX12, "glass", "()I"⟩
abbrev cX12_glassBe : ByteArray := prog_14_method_18_code
def yX12_glassBe : MethodName := ⟨RX12, "glassBe", "(I)V"⟩
abbrev cX12_kindOf : ByteArray := prog_14_method_19_code
def yX12_kindOf : MethodName := ⟨RX12, "kindOf", "(I)I"⟩
abbrev cX12_minister : ByteArray := prog_14_method_20_code
def yX12_minister : MethodName := ⟨RX12, "minister", "()I"⟩
abbrev cX12_isTeller : ByteArray := prog_14_method_21_code
def yX12_isTeller : MethodName := ⟨RX12, "isTeller", "(I)Z"⟩
abbrev cX12_isHere : ByteArray := prog_14_method_22_code
def yX12_isHere : MethodName := ⟨RX12, "isHere", "(I)Z"⟩
abbrev cX12_saidBy : ByteArray := prog_14_method_23_code
def yX12_saidBy : MethodName := ⟨RX12, "saidBy", "(I)I"⟩
abbrev cX12_here : ByteArray := prog_14_method_24_code
def yX12_here : MethodName := ⟨RX12, "here", "()I"⟩
abbrev cX12_teller : ByteArray := prog_14_method_25_code
def yX12_teller : MethodName := ⟨RX12, "teller", "(II)I"⟩
abbrev cX12_canSet : ByteArray := prog_14_method_26_code
def yX12_canSet : MethodName := ⟨RX12, "canSet", "(III)Z"⟩
abbrev cX12_set : ByteArray := prog_14_method_27_code
def yX12_set : MethodName := ⟨RX12, "set", "(III)Z"⟩
abbrev cX12_types : ByteArray := prog_14_method_28_code
def yX12_types : MethodName := ⟨RX12, "types", "(I)V"⟩
abbrev cX12_feed : ByteArray := prog_14_method_29_code
def yX12_feed : MethodName := ⟨RX12, "feed", "(IIIII)I"⟩
abbrev cX12_end : ByteArray := prog_14_method_30_code
def yX12_end : MethodName := ⟨RX12, "end", "(I)Z"⟩
abbrev cX12_raw : ByteArray := prog_14_method_31_code
def yX12_raw : MethodName := ⟨RX12, "raw", "(I)I"⟩
abbrev cX12_isLetter : ByteArray := prog_14_method_32_code
def yX12_isLetter : MethodName := ⟨RX12, "isLetter", "(I)Z"⟩
abbrev cX12_isDigit : ByteArray := prog_14_method_33_code
def yX12_isDigit : MethodName := ⟨RX12, "isDigit", "(I)Z"⟩
abbrev cX12_isMarkSign : ByteArray := prog_14_method_34_code
def yX12_isMarkSign : MethodName := ⟨RX12, "isMarkSign", "(I)Z"⟩
abbrev cX12_wordAt : ByteArray := prog_14_method_35_code
def yX12_wordAt : MethodName := ⟨RX12, "wordAt", "(II)I"⟩
abbrev cX12_reads : ByteArray := prog_14_method_36_code
def yX12_reads : MethodName := ⟨RX12, "reads", "()V"⟩
abbrev cX12_errs : ByteArray := prog_14_method_37_code
def yX12_errs : MethodName := ⟨RX12, "errs", "(I)I"⟩
abbrev cX12_isWord : ByteArray := prog_14_method_38_code
def yX12_isWord : MethodName := ⟨RX12, "isWord", "(I)Z"⟩
abbrev cX12_isSign : ByteArray := prog_14_method_39_code
def yX12_isSign : MethodName := ⟨RX12, "isSign", "(I)Z"⟩
abbrev cX12_emits : ByteArray := prog_14_method_40_code
def yX12_emits : MethodName := ⟨RX12, "emits", "(II)V"⟩
abbrev cX12_canAsk : ByteArray := prog_14_method_41_code
def yX12_canAsk : MethodName := ⟨RX12, "canAsk", "(I)Z"⟩
abbrev cX12_readUnit : ByteArray := prog_14_method_42_code
def yX12_readUnit : MethodName := ⟨RX12, "readUnit", "()I"⟩
abbrev cX12_readProduct : ByteArray := prog_14_method_43_code
def yX12_readProduct : MethodName := ⟨RX12, "readProduct", "()I"⟩
abbrev cX12_readSum : ByteArray := prog_14_method_44_code
def yX12_readSum : MethodName := ⟨RX12, "readSum", "()I"⟩
abbrev cX12_readCompared : ByteArray := prog_14_method_45_code
def yX12_readCompared : MethodName := ⟨RX12, "readCompared", "()I"⟩
abbrev cX12_waits : ByteArray := prog_14_method_46_code
def yX12_waits : MethodName := ⟨RX12, "waits", "(I)V"⟩
abbrev cX12_settles : ByteArray := prog_14_method_47_code
def yX12_settles : MethodName := ⟨RX12, "settles", "(I)V"⟩
abbrev cX12_readAny : ByteArray := prog_14_method_48_code
def yX12_readAny : MethodName := ⟨RX12, "readAny", "()I"⟩
abbrev cX12_isLineWord : ByteArray := prog_14_method_49_code
def yX12_isLineWord : MethodName := ⟨RX12, "isLineWord", "()Z"⟩
abbrev cX12_readLaw : ByteArray := prog_14_method_50_code
def yX12_readLaw : MethodName := ⟨RX12, "readLaw", "()I"⟩
abbrev cX12_takesLaw : ByteArray := prog_14_method_51_code
def yX12_takesLaw : MethodName := ⟨RX12, "takesLaw", "(I)V"⟩
abbrev cX12_readNumber : ByteArray := prog_14_method_52_code
def yX12_readNumber : MethodName := ⟨RX12, "readNumber", "(II)I"⟩
abbrev cX12_readMark : ByteArray := prog_14_method_53_code
def yX12_readMark : MethodName := ⟨RX12, "readMark", "(I)I"⟩
abbrev cX12_readTold : ByteArray := prog_14_method_54_code
def yX12_readTold : MethodName := ⟨RX12, "readTold", "(III)I"⟩
abbrev cX12_readRound : ByteArray := prog_14_method_55_code
def yX12_readRound : MethodName := ⟨RX12, "readRound", "(I)I"⟩
abbrev cX12_readRounds : ByteArray := prog_14_method_56_code
def yX12_readRounds : MethodName := ⟨RX12, "readRounds", "()I"⟩
abbrev cX12_kindOfDeed : ByteArray := prog_14_method_57_code
def yX12_kindOfDeed : MethodName := ⟨RX12, "kindOfDeed", "()I"⟩
abbrev cX12_readDeed : ByteArray := prog_14_method_58_code
def yX12_readDeed : MethodName := ⟨RX12, "readDeed", "(I)I"⟩
abbrev cX12_readAgenda : ByteArray := prog_14_method_59_code
def yX12_readAgenda : MethodName := ⟨RX12, "readAgenda", "()I"⟩
abbrev cX12_readsText : ByteArray := prog_14_method_60_code
def yX12_readsText : MethodName := ⟨RX12, "readsText", "(I)I"⟩
abbrev cX12_takesOther : ByteArray := prog_14_method_61_code
def yX12_takesOther : MethodName := ⟨RX12, "takesOther", "(II)V"⟩
abbrev cX12_text : ByteArray := prog_14_method_62_code
def yX12_text : MethodName := ⟨RX12, "text", "(I)I"⟩
abbrev cX12_fault : ByteArray := prog_14_method_63_code
def yX12_fault : MethodName := ⟨RX12, "fault", "(I)I"⟩
abbrev cX12_twoOf : ByteArray := prog_14_method_64_code
def yX12_twoOf : MethodName := ⟨RX12, "twoOf", "(III)I"⟩
abbrev cX12_runs : ByteArray := prog_14_method_65_code
def yX12_runs : MethodName := ⟨RX12, "runs", "(III)I"⟩
abbrev cX12_lineOf : ByteArray := prog_14_method_66_code
def yX12_lineOf : MethodName := ⟨RX12, "lineOf", "(I)I"⟩
abbrev cX12_asks : ByteArray := prog_14_method_67_code
def yX12_asks : MethodName := ⟨RX12, "asks", "(II)V"⟩
abbrev cX12_lawTells : ByteArray := prog_14_method_68_code
def yX12_lawTells : MethodName := ⟨RX12, "lawTells", "(III)I"⟩
abbrev cX12_tellOf : ByteArray := prog_14_method_69_code
def yX12_tellOf : MethodName := ⟨RX12, "tellOf", "(I)I"⟩
abbrev cX12_errOf : ByteArray := prog_14_method_70_code
def yX12_errOf : MethodName := ⟨RX12, "errOf", "(I)I"⟩
abbrev cX12_blameFor : ByteArray := prog_14_method_71_code
def yX12_blameFor : MethodName := ⟨RX12, "blameFor", "(II)I"⟩
abbrev cX12_notes : ByteArray := prog_14_method_72_code
def yX12_notes : MethodName := ⟨RX12, "notes", "(III)V"⟩
abbrev cX12_canAct : ByteArray := prog_14_method_73_code
def yX12_canAct : MethodName := ⟨RX12, "canAct", "(II)Z"⟩
abbrev cX12_acts : ByteArray := prog_14_method_74_code
def yX12_acts : MethodName := ⟨RX12, "acts", "(III)V"⟩
abbrev cX12_act : ByteArray := prog_14_method_75_code
def yX12_act : MethodName := ⟨RX12, "act", "(III)Z"⟩
abbrev cX12_taps : ByteArray := prog_14_method_76_code
def yX12_taps : MethodName := ⟨RX12, "taps", "()V"⟩
abbrev cX12_does : ByteArray := prog_14_method_77_code
def yX12_does : MethodName := ⟨RX12, "does", "(I)V"⟩
abbrev cX12_saysOf : ByteArray := prog_14_method_78_code
def yX12_saysOf : MethodName := ⟨RX12, "saysOf", "(I)I"⟩
abbrev cX12_rounded : ByteArray := prog_14_method_79_code
def yX12_rounded : MethodName := ⟨RX12, "rounded", "(I)I"⟩
abbrev cX12_comes : ByteArray := prog_14_method_80_code
def yX12_comes : MethodName := ⟨RX12, "comes", "()V"⟩
abbrev cX12_records : ByteArray := prog_14_method_81_code
def yX12_records : MethodName := ⟨RX12, "records", "()V"⟩
abbrev cX12_judges : ByteArray := prog_14_method_82_code
def yX12_judges : MethodName := ⟨RX12, "judges", "()V"⟩
abbrev cX12_floods : ByteArray := prog_14_method_83_code
def yX12_floods : MethodName := ⟨RX12, "floods", "()V"⟩
abbrev cX12_bestStanding : ByteArray := prog_14_method_84_code
def yX12_bestStanding : MethodName := ⟨RX12, "bestStanding", "()I"⟩
abbrev cX12_falling : ByteArray := prog_14_method_85_code
def yX12_falling : MethodName := ⟨RX12, "falling", "()Z"⟩
abbrev cX12_goesBy : ByteArray := prog_14_method_86_code
def yX12_goesBy : MethodName := ⟨RX12, "goesBy", "()I"⟩
abbrev cX12_days : ByteArray := prog_14_method_87_code
def yX12_days : MethodName := ⟨RX12, "days", "(I)I"⟩
abbrev cX12_of : ByteArray := prog_14_method_88_code
def yX12_of : MethodName := ⟨RX12, "of", "(II)I"⟩
abbrev cX12_moves : ByteArray := prog_14_method_89_code
def yX12_moves : MethodName := ⟨RX12, "moves", "(I)I"⟩
abbrev cX12_book : ByteArray := prog_14_method_90_code
def yX12_book : MethodName := ⟨RX12, "book", "(II)I"⟩
abbrev cX12_goes : ByteArray := prog_14_method_91_code
def yX12_goes : MethodName := ⟨RX12, "goes", "(II)I"⟩
abbrev cX12_glassAhead : ByteArray := prog_14_method_92_code
def yX12_glassAhead : MethodName := ⟨RX12, "glassAhead", "(I)I"⟩
abbrev cX12_ahead : ByteArray := prog_14_method_93_code
def yX12_ahead : MethodName := ⟨RX12, "ahead", "(I)I"⟩
abbrev cX12_cameOn : ByteArray := prog_14_method_94_code
def yX12_cameOn : MethodName := ⟨RX12, "cameOn", "(I)I"⟩
abbrev cX12_toldOn : ByteArray := prog_14_method_95_code
def yX12_toldOn : MethodName := ⟨RX12, "toldOn", "(II)I"⟩
abbrev cX12_daysOf : ByteArray := prog_14_method_96_code
def yX12_daysOf : MethodName := ⟨RX12, "daysOf", "(I)I"⟩
abbrev cX12_rightOf : ByteArray := prog_14_method_97_code
def yX12_rightOf : MethodName := ⟨RX12, "rightOf", "(I)I"⟩
abbrev cX12_right : ByteArray := prog_14_method_98_code
def yX12_right : MethodName := ⟨RX12, "right", "(II)I"⟩
abbrev cX12_surest : ByteArray := prog_14_method_99_code
def yX12_surest : MethodName := ⟨RX12, "surest", "()I"⟩
abbrev cX12_oddsOf : ByteArray := prog_14_method_100_code
def yX12_oddsOf : MethodName := ⟨RX12, "oddsOf", "(I)I"⟩
abbrev cX12_shareOf : ByteArray := prog_14_method_101_code
def yX12_shareOf : MethodName := ⟨RX12, "shareOf", "(II)I"⟩
abbrev cX12_hasSomeoneSaid : ByteArray := prog_14_method_102_code
def yX12_hasSomeoneSaid : MethodName := ⟨RX12, "hasSomeoneSaid", "()Z"⟩
abbrev cX12_likely : ByteArray := prog_14_method_103_code
def yX12_likely : MethodName := ⟨RX12, "likely", "(I)I"⟩
abbrev cX12_isGlued : ByteArray := prog_14_method_104_code
def yX12_isGlued : MethodName := ⟨RX12, "isGlued", "(I)Z"⟩
abbrev cX12_glued : ByteArray := prog_14_method_105_code
def yX12_glued : MethodName := ⟨RX12, "glued", "()I"⟩
abbrev cX12_seen : ByteArray := prog_14_method_106_code
def yX12_seen : MethodName := ⟨RX12, "seen", "(I)I"⟩
abbrev cX12_isRound : ByteArray := prog_14_method_107_code
def yX12_isRound : MethodName := ⟨RX12, "isRound", "(I)Z"⟩
abbrev cX12_round : ByteArray := prog_14_method_108_code
def yX12_round : MethodName := ⟨RX12, "round", "(I)I"⟩
abbrev cX12_blamedIn : ByteArray := prog_14_method_109_code
def yX12_blamedIn : MethodName := ⟨RX12, "blamedIn", "(II)I"⟩
abbrev cX12_safe : ByteArray := prog_14_method_110_code
def yX12_safe : MethodName := ⟨RX12, "safe", "(II)I"⟩
abbrev cX12_works : ByteArray := prog_14_method_111_code
def yX12_works : MethodName := ⟨RX12, "works", "(IIII)I"⟩
abbrev cX12_umbrella : ByteArray := prog_14_method_112_code
def yX12_umbrella : MethodName := ⟨RX12, "umbrella", "(II)I"⟩
abbrev cX12_courtsOf : ByteArray := prog_14_method_113_code
def yX12_courtsOf : MethodName := ⟨RX12, "courtsOf", "(I)I"⟩
abbrev cX12_toldOf : ByteArray := prog_14_method_114_code
def yX12_toldOf : MethodName := ⟨RX12, "toldOf", "()I"⟩
abbrev cX12_askedBest : ByteArray := prog_14_method_115_code
def yX12_askedBest : MethodName := ⟨RX12, "askedBest", "()I"⟩
abbrev cX12_leaks : ByteArray := prog_14_method_116_code
def yX12_leaks : MethodName := ⟨RX12, "leaks", "(II)I"⟩
abbrev cX12_votesOf : ByteArray := prog_14_method_117_code
def yX12_votesOf : MethodName := ⟨RX12, "votesOf", "(I)I"⟩
abbrev cX12_doesWin : ByteArray := prog_14_method_118_code
def yX12_doesWin : MethodName := ⟨RX12, "doesWin", "(I)Z"⟩
abbrev cX12_wins : ByteArray := prog_14_method_119_code
def yX12_wins : MethodName := ⟨RX12, "wins", "(I)I"⟩
abbrev cX12_weighs : ByteArray := prog_14_method_120_code
def yX12_weighs : MethodName := ⟨RX12, "weighs", "(I)I"⟩
abbrev cX12_post : ByteArray := prog_14_method_121_code
def yX12_post : MethodName := ⟨RX12, "post", "(II)I"⟩
abbrev cX12_servedBy : ByteArray := prog_14_method_122_code
def yX12_servedBy : MethodName := ⟨RX12, "servedBy", "(III)I"⟩
abbrev cX12_findsServed : ByteArray := prog_14_method_123_code
def yX12_findsServed : MethodName := ⟨RX12, "findsServed", "()V"⟩
abbrev cX12_serves : ByteArray := prog_14_method_124_code
def yX12_serves : MethodName := ⟨RX12, "serves", "(I)I"⟩
abbrev cX12_hats : ByteArray := prog_14_method_125_code
def yX12_hats : MethodName := ⟨RX12, "hats", "()I"⟩
abbrev cX12_mix : ByteArray := prog_14_method_126_code
def yX12_mix : MethodName := ⟨RX12, "mix", "(II)Z"⟩
abbrev cX12_leastBy : ByteArray := prog_14_method_127_code
def yX12_leastBy : MethodName := ⟨RX12, "leastBy", "(I)I"⟩
abbrev cX12_mixes : ByteArray := prog_14_method_128_code
def yX12_mixes : MethodName := ⟨RX12, "mixes", "(I)I"⟩
abbrev cX12_game : ByteArray := prog_14_method_129_code
def yX12_game : MethodName := ⟨RX12, "game", "(I)I"⟩
abbrev cX12_keeps : ByteArray := prog_14_method_130_code
def yX12_keeps : MethodName := ⟨RX12, "keeps", "(I)I"⟩
abbrev cX12_keepsLaw : ByteArray := prog_14_method_131_code
def yX12_keepsLaw : MethodName := ⟨RX12, "keepsLaw", "()V"⟩
abbrev cX12_keepsTold : ByteArray := prog_14_method_132_code
def yX12_keepsTold : MethodName := ⟨RX12, "keepsTold", "()V"⟩
abbrev cX12_image : ByteArray := prog_14_method_133_code
def yX12_image : MethodName := ⟨RX12, "image", "(Z)Z"⟩
abbrev cX12_look : ByteArray := prog_14_method_134_code
def yX12_look : MethodName := ⟨RX12, "look", "(I)I"⟩
def RJ11 : String := "java/lang/Character"
abbrev cJ11_isValidCodePoint_9a6ad : ByteArray := prog_15_method_11_code
def yJ11_isValidCodePoint_9a6ad : MethodName := ⟨RJ11, "isValidCodePoint", "(I)Z"⟩
abbrev cJ11_highSurrogate_5068e : ByteArray := prog_15_method_28_code
def yJ11_highSurrogate_5068e : MethodName := ⟨RJ11, "highSurrogate", "(I)C"⟩
abbrev cJ11_lowSurrogate_5068e : ByteArray := prog_15_method_29_code
def yJ11_lowSurrogate_5068e : MethodName := ⟨RJ11, "lowSurrogate", "(I)C"⟩
def RJ6 : String := "java/lang/Integer"
abbrev cJ6_numberOfTrailingZeros_0f7a4 : ByteArray := prog_16_method_48_code
def yJ6_numberOfTrailingZeros_0f7a4 : MethodName := ⟨RJ6, "numberOfTrailingZeros", "(I)I"⟩
abbrev cJ6_bitCount_0f7a4 : ByteArray := prog_16_method_49_code
def yJ6_bitCount_0f7a4 : MethodName := ⟨RJ6, "bitCount", "(I)I"⟩
def RJ9 : String := "java/lang/Math"
abbrev cJ9_floorMod_7cf53 : ByteArray := prog_17_method_50_code
def yJ9_floorMod_7cf53 : MethodName := ⟨RJ9, "floorMod", "(II)I"⟩
abbrev cJ9_abs_0f7a4 : ByteArray := prog_17_method_59_code
def yJ9_abs_0f7a4 : MethodName := ⟨RJ9, "abs", "(I)I"⟩
abbrev cJ9_max_7cf53 : ByteArray := prog_17_method_65_code
def yJ9_max_7cf53 : MethodName := ⟨RJ9, "max", "(II)I"⟩
abbrev cJ9_min_7cf53 : ByteArray := prog_17_method_69_code
def yJ9_min_7cf53 : MethodName := ⟨RJ9, "min", "(II)I"⟩
def RJ0 : String := "java/lang/String"
abbrev cJ0_length_8abf5 : ByteArray := prog_18_method_54_code
def yJ0_length_8abf5 : MethodName := ⟨RJ0, "length", "()I"⟩
abbrev cJ0_charAt_5068e : ByteArray := prog_18_method_56_code
def yJ0_charAt_5068e : MethodName := ⟨RJ0, "charAt", "(I)C"⟩
abbrev cJ0_indexOf_0f7a4 : ByteArray := prog_18_method_79_code
def yJ0_indexOf_0f7a4 : MethodName := ⟨RJ0, "indexOf", "(I)I"⟩
abbrev cJ0_indexOf_7cf53 : ByteArray := prog_18_method_80_code
def yJ0_indexOf_7cf53 : MethodName := ⟨RJ0, "indexOf", "(II)I"⟩
abbrev cJ0_coder_7d493 : ByteArray := prog_18_method_152_code
def yJ0_coder_7d493 : MethodName := ⟨RJ0, "coder", "()B"⟩
abbrev cJ0_isLatin1_aae02 : ByteArray := prog_18_method_154_code
def yJ0_isLatin1_aae02 : MethodName := ⟨RJ0, "isLatin1", "()Z"⟩
abbrev cJ0_checkIndex_df160 : ByteArray := prog_18_method_155_code
def yJ0_checkIndex_df160 : MethodName := ⟨RJ0, "checkIndex", "(II)V"⟩
abbrev cJ0_checkBoundsBeginEnd_23922 : ByteArray := prog_18_method_158_code
def yJ0_checkBoundsBeginEnd_23922 : MethodName := ⟨RJ0, "checkBoundsBeginEnd", "(III)V"⟩
def RJ1 : String := "java/lang/StringLatin1"
abbrev cJ1_charAt_3b067 : ByteArray := prog_19_method_2_code
def yJ1_charAt_3b067 : MethodName := ⟨RJ1, "charAt", "([BI)C"⟩
abbrev cJ1_canEncode_9a6ad : ByteArray := prog_19_method_4_code
def yJ1_canEncode_9a6ad : MethodName := ⟨RJ1, "canEncode", "(I)Z"⟩
abbrev cJ1_indexOf_4cfef : ByteArray := prog_19_method_22_code
def yJ1_indexOf_4cfef : MethodName := ⟨RJ1, "indexOf", "([BIII)I"⟩
abbrev cJ1_indexOfChar_4cfef : ByteArray := prog_19_method_23_code
def yJ1_indexOfChar_4cfef : MethodName := ⟨RJ1, "indexOfChar", "([BIII)I"⟩
def RJ2 : String := "java/lang/StringUTF16"
abbrev cJ2_getChar_3b067 : ByteArray := prog_20_method_5_code
def yJ2_getChar_3b067 : MethodName := ⟨RJ2, "getChar", "([BI)C"⟩
abbrev cJ2_length_9d52b : ByteArray := prog_20_method_6_code
def yJ2_length_9d52b : MethodName := ⟨RJ2, "length", "([B)I"⟩
abbrev cJ2_indexOf_4cfef : ByteArray := prog_20_method_40_code
def yJ2_indexOf_4cfef : MethodName := ⟨RJ2, "indexOf", "([BIII)I"⟩
abbrev cJ2_indexOfChar_4cfef : ByteArray := prog_20_method_47_code
def yJ2_indexOfChar_4cfef : MethodName := ⟨RJ2, "indexOfChar", "([BIII)I"⟩
abbrev cJ2_indexOfCharUnsafe_4cfef : ByteArray := prog_20_method_48_code
def yJ2_indexOfCharUnsafe_4cfef : MethodName := ⟨RJ2, "indexOfCharUnsafe", "([BIII)I"⟩
abbrev cJ2_indexOfSupplementary_4cfef : ByteArray := prog_20_method_49_code
def yJ2_indexOfSupplementary_4cfef : MethodName := ⟨RJ2, "indexOfSupplementary", "([BIII)I"⟩
abbrev cJ2_charAt_3b067 : ByteArray := prog_20_method_83_code
def yJ2_charAt_3b067 : MethodName := ⟨RJ2, "charAt", "([BI)C"⟩
abbrev cJ2_checkIndex_2214a : ByteArray := prog_20_method_91_code
def yJ2_checkIndex_2214a : MethodName := ⟨RJ2, "checkIndex", "(I[B)V"⟩
abbrev cJ2_checkBoundsBeginEnd_d044e : ByteArray := prog_20_method_93_code
def yJ2_checkBoundsBeginEnd_d044e : MethodName := ⟨RJ2, "checkBoundsBeginEnd", "(II[B)V"⟩
def RJ10 : String := "java/lang/System"
def RJ3 : String := "jdk/internal/util/Preconditions"
abbrev cJ3_checkIndex_8e157 : ByteArray := prog_22_method_11_code
def yJ3_checkIndex_8e157 : MethodName := ⟨RJ3, "checkIndex", "(IILjava/util/function/BiFunction;)I"⟩
abbrev cJ3_checkFromToIndex_8c36e : ByteArray := prog_22_method_12_code
def yJ3_checkFromToIndex_8c36e : MethodName := ⟨RJ3, "checkFromToIndex", "(IIILjava/util/function/BiFunction;)I"⟩
def RL : String := "SackedGlassLaw"
abbrev cL_law : ByteArray := code
def yL_law : MethodName := ⟨RL, "law", "([I)Z"⟩
abbrev vwCl : List vw_C := [(RX0, TX0, 5), (RX1, TX1, 1), (RX2, TX2, 2), (RX3, TX3, 13), (RX4, TX4, 9), (RX5, TX5, 4), (RX6, TX6, 9), (RX7, TX7, 4), (RX8, TX8, 3), (RX9, TX9, 8), (RX10, TX10, 8), (RX11, TX11, 9), (RX12, TX12, 57)]
