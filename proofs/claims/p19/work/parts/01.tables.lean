-- ===== PART A: goes FIRST, ahead of the names: the tables' words, and 'selects' of the private methods out of them =====
/-- a private method of a class that the tables say can be made, by its rows of tables_1 -/
def lw_okq (q : MethodName × Nat) : Prop := (q.1.cls ≠ "java/lang/invoke/MethodHandle" ∧ q.1.cls ≠ "java/lang/invoke/VarHandle") ∧ Cond.instantiable q.1.cls q.2 ∈ tables_1 ∧ Cond.privateMethod q.1 ∈ tables_1 ∧ Cond.instanceMethod q.1 ∈ tables_1
theorem lw_p0 : lw_okq (⟨"DayKnown$Town", "read", "([II)I"⟩, 9) := ⟨⟨by decide +kernel, by decide +kernel⟩, List.mem_of_getElem? (i := 95) (by decide +kernel), List.mem_of_getElem? (i := 244) (by decide +kernel), List.mem_of_getElem? (i := 245) (by decide +kernel)⟩
theorem lw_p1 : lw_okq (⟨"DayKnown$Town", "readClause", "()Z"⟩, 9) := ⟨⟨by decide +kernel, by decide +kernel⟩, List.mem_of_getElem? (i := 95) (by decide +kernel), List.mem_of_getElem? (i := 257) (by decide +kernel), List.mem_of_getElem? (i := 258) (by decide +kernel)⟩
theorem lw_p2 : lw_okq (⟨"DayKnown$Town", "sign", "()I"⟩, 9) := ⟨⟨by decide +kernel, by decide +kernel⟩, List.mem_of_getElem? (i := 95) (by decide +kernel), List.mem_of_getElem? (i := 261) (by decide +kernel), List.mem_of_getElem? (i := 262) (by decide +kernel)⟩
theorem lw_p3 : lw_okq (⟨"DayKnown$Town", "takeWord", "(Ljava/lang/String;)Z"⟩, 9) := ⟨⟨by decide +kernel, by decide +kernel⟩, List.mem_of_getElem? (i := 95) (by decide +kernel), List.mem_of_getElem? (i := 268) (by decide +kernel), List.mem_of_getElem? (i := 269) (by decide +kernel)⟩
theorem lw_p4 : lw_okq (⟨"DayKnown$Town", "take", "(I)Z"⟩, 9) := ⟨⟨by decide +kernel, by decide +kernel⟩, List.mem_of_getElem? (i := 95) (by decide +kernel), List.mem_of_getElem? (i := 320) (by decide +kernel), List.mem_of_getElem? (i := 321) (by decide +kernel)⟩
theorem lw_p5 : lw_okq (⟨"DayKnown$Town", "readNumber", "()I"⟩, 9) := ⟨⟨by decide +kernel, by decide +kernel⟩, List.mem_of_getElem? (i := 95) (by decide +kernel), List.mem_of_getElem? (i := 324) (by decide +kernel), List.mem_of_getElem? (i := 325) (by decide +kernel)⟩
theorem lw_p6 : lw_okq (⟨"DayKnown$Town", "takeOneOf", "(Ljava/lang/String;)I"⟩, 9) := ⟨⟨by decide +kernel, by decide +kernel⟩, List.mem_of_getElem? (i := 95) (by decide +kernel), List.mem_of_getElem? (i := 329) (by decide +kernel), List.mem_of_getElem? (i := 330) (by decide +kernel)⟩
theorem lw_p7 : lw_okq (⟨"DayKnown$Town", "readAny", "(I)Z"⟩, 9) := ⟨⟨by decide +kernel, by decide +kernel⟩, List.mem_of_getElem? (i := 95) (by decide +kernel), List.mem_of_getElem? (i := 333) (by decide +kernel), List.mem_of_getElem? (i := 334) (by decide +kernel)⟩
theorem lw_p8 : lw_okq (⟨"DayKnown$Town", "readBoth", "(I)Z"⟩, 9) := ⟨⟨by decide +kernel, by decide +kernel⟩, List.mem_of_getElem? (i := 95) (by decide +kernel), List.mem_of_getElem? (i := 337) (by decide +kernel), List.mem_of_getElem? (i := 338) (by decide +kernel)⟩
theorem lw_p9 : lw_okq (⟨"DayKnown$Town", "readFactor", "(I)Z"⟩, 9) := ⟨⟨by decide +kernel, by decide +kernel⟩, List.mem_of_getElem? (i := 95) (by decide +kernel), List.mem_of_getElem? (i := 341) (by decide +kernel), List.mem_of_getElem? (i := 342) (by decide +kernel)⟩
theorem lw_p10 : lw_okq (⟨"DayKnown$Town", "readTest", "()Z"⟩, 9) := ⟨⟨by decide +kernel, by decide +kernel⟩, List.mem_of_getElem? (i := 95) (by decide +kernel), List.mem_of_getElem? (i := 345) (by decide +kernel), List.mem_of_getElem? (i := 346) (by decide +kernel)⟩
theorem lw_p11 : lw_okq (⟨"DayKnown$Town", "keepCode", "(I)V"⟩, 9) := ⟨⟨by decide +kernel, by decide +kernel⟩, List.mem_of_getElem? (i := 95) (by decide +kernel), List.mem_of_getElem? (i := 351) (by decide +kernel), List.mem_of_getElem? (i := 352) (by decide +kernel)⟩
theorem lw_p12 : lw_okq (⟨"DayKnown$Town", "keepClause", "(I)V"⟩, 9) := ⟨⟨by decide +kernel, by decide +kernel⟩, List.mem_of_getElem? (i := 95) (by decide +kernel), List.mem_of_getElem? (i := 355) (by decide +kernel), List.mem_of_getElem? (i := 356) (by decide +kernel)⟩
theorem lw_p13 : lw_okq (⟨"DayKnown", "forgetTowns", "()V"⟩, 9) := ⟨⟨by decide +kernel, by decide +kernel⟩, List.mem_of_getElem? (i := 16) (by decide +kernel), List.mem_of_getElem? (i := 359) (by decide +kernel), List.mem_of_getElem? (i := 360) (by decide +kernel)⟩
theorem lw_p14 : lw_okq (⟨"DayKnown$Days", "forgetTown", "()V"⟩, 12) := ⟨⟨by decide +kernel, by decide +kernel⟩, List.mem_of_getElem? (i := 131) (by decide +kernel), List.mem_of_getElem? (i := 363) (by decide +kernel), List.mem_of_getElem? (i := 364) (by decide +kernel)⟩
theorem lw_p15 : lw_okq (⟨"DayKnown$Days", "forget", "()V"⟩, 12) := ⟨⟨by decide +kernel, by decide +kernel⟩, List.mem_of_getElem? (i := 131) (by decide +kernel), List.mem_of_getElem? (i := 367) (by decide +kernel), List.mem_of_getElem? (i := 368) (by decide +kernel)⟩
def lw_privs_1 : List (MethodName × Nat) := [(⟨"DayKnown$Town", "read", "([II)I"⟩, 9), (⟨"DayKnown$Town", "readClause", "()Z"⟩, 9), (⟨"DayKnown$Town", "sign", "()I"⟩, 9), (⟨"DayKnown$Town", "takeWord", "(Ljava/lang/String;)Z"⟩, 9), (⟨"DayKnown$Town", "take", "(I)Z"⟩, 9), (⟨"DayKnown$Town", "readNumber", "()I"⟩, 9), (⟨"DayKnown$Town", "takeOneOf", "(Ljava/lang/String;)I"⟩, 9), (⟨"DayKnown$Town", "readAny", "(I)Z"⟩, 9), (⟨"DayKnown$Town", "readBoth", "(I)Z"⟩, 9), (⟨"DayKnown$Town", "readFactor", "(I)Z"⟩, 9), (⟨"DayKnown$Town", "readTest", "()Z"⟩, 9), (⟨"DayKnown$Town", "keepCode", "(I)V"⟩, 9), (⟨"DayKnown$Town", "keepClause", "(I)V"⟩, 9), (⟨"DayKnown", "forgetTowns", "()V"⟩, 9), (⟨"DayKnown$Days", "forgetTown", "()V"⟩, 12), (⟨"DayKnown$Days", "forget", "()V"⟩, 12)]
theorem lw_r1 : ∀ q ∈ lw_privs_1, lw_okq q := List.forall_mem_cons.mpr ⟨lw_p0, List.forall_mem_cons.mpr ⟨lw_p1, List.forall_mem_cons.mpr ⟨lw_p2, List.forall_mem_cons.mpr ⟨lw_p3, List.forall_mem_cons.mpr ⟨lw_p4, List.forall_mem_cons.mpr ⟨lw_p5, List.forall_mem_cons.mpr ⟨lw_p6, List.forall_mem_cons.mpr ⟨lw_p7, List.forall_mem_cons.mpr ⟨lw_p8, List.forall_mem_cons.mpr ⟨lw_p9, List.forall_mem_cons.mpr ⟨lw_p10, List.forall_mem_cons.mpr ⟨lw_p11, List.forall_mem_cons.mpr ⟨lw_p12, List.forall_mem_cons.mpr ⟨lw_p13, List.forall_mem_cons.mpr ⟨lw_p14, List.forall_mem_cons.mpr ⟨lw_p15, fun _ h => absurd h List.not_mem_nil⟩⟩⟩⟩⟩⟩⟩⟩⟩⟩⟩⟩⟩⟩⟩⟩
theorem lw_p16 : lw_okq (⟨"DayKnown", "newestTown", "()LDayKnown$Town;"⟩, 9) := ⟨⟨by decide +kernel, by decide +kernel⟩, List.mem_of_getElem? (i := 16) (by decide +kernel), List.mem_of_getElem? (i := 376) (by decide +kernel), List.mem_of_getElem? (i := 377) (by decide +kernel)⟩
theorem lw_p17 : lw_okq (⟨"DayKnown$Folk", "join", "(II)I"⟩, 6) := ⟨⟨by decide +kernel, by decide +kernel⟩, List.mem_of_getElem? (i := 30) (by decide +kernel), List.mem_of_getElem? (i := 384) (by decide +kernel), List.mem_of_getElem? (i := 385) (by decide +kernel)⟩
theorem lw_p18 : lw_okq (⟨"DayKnown$Folk", "putNote", "(IZ)V"⟩, 6) := ⟨⟨by decide +kernel, by decide +kernel⟩, List.mem_of_getElem? (i := 30) (by decide +kernel), List.mem_of_getElem? (i := 388) (by decide +kernel), List.mem_of_getElem? (i := 389) (by decide +kernel)⟩
theorem lw_p19 : lw_okq (⟨"DayKnown$Folk", "has", "(I)Z"⟩, 6) := ⟨⟨by decide +kernel, by decide +kernel⟩, List.mem_of_getElem? (i := 30) (by decide +kernel), List.mem_of_getElem? (i := 397) (by decide +kernel), List.mem_of_getElem? (i := 398) (by decide +kernel)⟩
theorem lw_p20 : lw_okq (⟨"DayKnown$Folk", "noteOf", "(I)I"⟩, 6) := ⟨⟨by decide +kernel, by decide +kernel⟩, List.mem_of_getElem? (i := 30) (by decide +kernel), List.mem_of_getElem? (i := 401) (by decide +kernel), List.mem_of_getElem? (i := 402) (by decide +kernel)⟩
theorem lw_p21 : lw_okq (⟨"DayKnown$Folk", "isDay", "(I)Z"⟩, 6) := ⟨⟨by decide +kernel, by decide +kernel⟩, List.mem_of_getElem? (i := 30) (by decide +kernel), List.mem_of_getElem? (i := 418) (by decide +kernel), List.mem_of_getElem? (i := 419) (by decide +kernel)⟩
theorem lw_p22 : lw_okq (⟨"DayKnown$Folk", "allDays", "()I"⟩, 6) := ⟨⟨by decide +kernel, by decide +kernel⟩, List.mem_of_getElem? (i := 30) (by decide +kernel), List.mem_of_getElem? (i := 422) (by decide +kernel), List.mem_of_getElem? (i := 423) (by decide +kernel)⟩
theorem lw_p23 : lw_okq (⟨"DayKnown$Days", "prepare", "(LDayKnown$Town;)V"⟩, 12) := ⟨⟨by decide +kernel, by decide +kernel⟩, List.mem_of_getElem? (i := 131) (by decide +kernel), List.mem_of_getElem? (i := 433) (by decide +kernel), List.mem_of_getElem? (i := 434) (by decide +kernel)⟩
theorem lw_p24 : lw_okq (⟨"DayKnown$Days", "fillWorths", "(ILDayKnown$Town;)V"⟩, 12) := ⟨⟨by decide +kernel, by decide +kernel⟩, List.mem_of_getElem? (i := 131) (by decide +kernel), List.mem_of_getElem? (i := 437) (by decide +kernel), List.mem_of_getElem? (i := 438) (by decide +kernel)⟩
theorem lw_p25 : lw_okq (⟨"DayKnown$Town", "worth", "([I)I"⟩, 9) := ⟨⟨by decide +kernel, by decide +kernel⟩, List.mem_of_getElem? (i := 95) (by decide +kernel), List.mem_of_getElem? (i := 441) (by decide +kernel), List.mem_of_getElem? (i := 442) (by decide +kernel)⟩
theorem lw_p26 : lw_okq (⟨"DayKnown$Town", "holds", "(II[I)Z"⟩, 9) := ⟨⟨by decide +kernel, by decide +kernel⟩, List.mem_of_getElem? (i := 95) (by decide +kernel), List.mem_of_getElem? (i := 445) (by decide +kernel), List.mem_of_getElem? (i := 446) (by decide +kernel)⟩
theorem lw_p27 : lw_okq (⟨"DayKnown$Days", "sightOf", "(II)I"⟩, 12) := ⟨⟨by decide +kernel, by decide +kernel⟩, List.mem_of_getElem? (i := 131) (by decide +kernel), List.mem_of_getElem? (i := 452) (by decide +kernel), List.mem_of_getElem? (i := 453) (by decide +kernel)⟩
theorem lw_p28 : lw_okq (⟨"DayKnown$Days", "rowAt", "(III)I"⟩, 12) := ⟨⟨by decide +kernel, by decide +kernel⟩, List.mem_of_getElem? (i := 131) (by decide +kernel), List.mem_of_getElem? (i := 465) (by decide +kernel), List.mem_of_getElem? (i := 466) (by decide +kernel)⟩
theorem lw_p29 : lw_okq (⟨"DayKnown$Days", "bestRow", "(II)I"⟩, 12) := ⟨⟨by decide +kernel, by decide +kernel⟩, List.mem_of_getElem? (i := 131) (by decide +kernel), List.mem_of_getElem? (i := 469) (by decide +kernel), List.mem_of_getElem? (i := 470) (by decide +kernel)⟩
theorem lw_p30 : lw_okq (⟨"DayKnown$Days", "gain", "(II)I"⟩, 12) := ⟨⟨by decide +kernel, by decide +kernel⟩, List.mem_of_getElem? (i := 131) (by decide +kernel), List.mem_of_getElem? (i := 473) (by decide +kernel), List.mem_of_getElem? (i := 474) (by decide +kernel)⟩
theorem lw_p31 : lw_okq (⟨"DayKnown$Days", "worth", "(III)I"⟩, 12) := ⟨⟨by decide +kernel, by decide +kernel⟩, List.mem_of_getElem? (i := 131) (by decide +kernel), List.mem_of_getElem? (i := 480) (by decide +kernel), List.mem_of_getElem? (i := 481) (by decide +kernel)⟩
def lw_privs_2 : List (MethodName × Nat) := [(⟨"DayKnown", "newestTown", "()LDayKnown$Town;"⟩, 9), (⟨"DayKnown$Folk", "join", "(II)I"⟩, 6), (⟨"DayKnown$Folk", "putNote", "(IZ)V"⟩, 6), (⟨"DayKnown$Folk", "has", "(I)Z"⟩, 6), (⟨"DayKnown$Folk", "noteOf", "(I)I"⟩, 6), (⟨"DayKnown$Folk", "isDay", "(I)Z"⟩, 6), (⟨"DayKnown$Folk", "allDays", "()I"⟩, 6), (⟨"DayKnown$Days", "prepare", "(LDayKnown$Town;)V"⟩, 12), (⟨"DayKnown$Days", "fillWorths", "(ILDayKnown$Town;)V"⟩, 12), (⟨"DayKnown$Town", "worth", "([I)I"⟩, 9), (⟨"DayKnown$Town", "holds", "(II[I)Z"⟩, 9), (⟨"DayKnown$Days", "sightOf", "(II)I"⟩, 12), (⟨"DayKnown$Days", "rowAt", "(III)I"⟩, 12), (⟨"DayKnown$Days", "bestRow", "(II)I"⟩, 12), (⟨"DayKnown$Days", "gain", "(II)I"⟩, 12), (⟨"DayKnown$Days", "worth", "(III)I"⟩, 12)]
theorem lw_r2 : ∀ q ∈ lw_privs_2, lw_okq q := List.forall_mem_cons.mpr ⟨lw_p16, List.forall_mem_cons.mpr ⟨lw_p17, List.forall_mem_cons.mpr ⟨lw_p18, List.forall_mem_cons.mpr ⟨lw_p19, List.forall_mem_cons.mpr ⟨lw_p20, List.forall_mem_cons.mpr ⟨lw_p21, List.forall_mem_cons.mpr ⟨lw_p22, List.forall_mem_cons.mpr ⟨lw_p23, List.forall_mem_cons.mpr ⟨lw_p24, List.forall_mem_cons.mpr ⟨lw_p25, List.forall_mem_cons.mpr ⟨lw_p26, List.forall_mem_cons.mpr ⟨lw_p27, List.forall_mem_cons.mpr ⟨lw_p28, List.forall_mem_cons.mpr ⟨lw_p29, List.forall_mem_cons.mpr ⟨lw_p30, List.forall_mem_cons.mpr ⟨lw_p31, fun _ h => absurd h List.not_mem_nil⟩⟩⟩⟩⟩⟩⟩⟩⟩⟩⟩⟩⟩⟩⟩⟩
theorem lw_p32 : lw_okq (⟨"DayKnown$Days", "would", "(IIII)Z"⟩, 12) := ⟨⟨by decide +kernel, by decide +kernel⟩, List.mem_of_getElem? (i := 131) (by decide +kernel), List.mem_of_getElem? (i := 484) (by decide +kernel), List.mem_of_getElem? (i := 485) (by decide +kernel)⟩
theorem lw_p33 : lw_okq (⟨"DayKnown$Days", "answerOf", "(II)I"⟩, 12) := ⟨⟨by decide +kernel, by decide +kernel⟩, List.mem_of_getElem? (i := 131) (by decide +kernel), List.mem_of_getElem? (i := 490) (by decide +kernel), List.mem_of_getElem? (i := 491) (by decide +kernel)⟩
theorem lw_p34 : lw_okq (⟨"DayKnown$Days", "firstOtherwise", "(I)I"⟩, 12) := ⟨⟨by decide +kernel, by decide +kernel⟩, List.mem_of_getElem? (i := 131) (by decide +kernel), List.mem_of_getElem? (i := 501) (by decide +kernel), List.mem_of_getElem? (i := 502) (by decide +kernel)⟩
theorem lw_p35 : lw_okq (⟨"DayKnown$Days", "answer", "(I)I"⟩, 12) := ⟨⟨by decide +kernel, by decide +kernel⟩, List.mem_of_getElem? (i := 131) (by decide +kernel), List.mem_of_getElem? (i := 506) (by decide +kernel), List.mem_of_getElem? (i := 507) (by decide +kernel)⟩
theorem lw_p36 : lw_okq (⟨"DayKnown$Days", "gainOfAll", "(I)I"⟩, 12) := ⟨⟨by decide +kernel, by decide +kernel⟩, List.mem_of_getElem? (i := 131) (by decide +kernel), List.mem_of_getElem? (i := 510) (by decide +kernel), List.mem_of_getElem? (i := 511) (by decide +kernel)⟩
theorem lw_p37 : lw_okq (⟨"DayKnown", "searchNow", "()V"⟩, 9) := ⟨⟨by decide +kernel, by decide +kernel⟩, List.mem_of_getElem? (i := 16) (by decide +kernel), List.mem_of_getElem? (i := 518) (by decide +kernel), List.mem_of_getElem? (i := 519) (by decide +kernel)⟩
theorem lw_p38 : lw_okq (⟨"DayKnown$Days", "search", "()V"⟩, 12) := ⟨⟨by decide +kernel, by decide +kernel⟩, List.mem_of_getElem? (i := 131) (by decide +kernel), List.mem_of_getElem? (i := 522) (by decide +kernel), List.mem_of_getElem? (i := 523) (by decide +kernel)⟩
theorem lw_p39 : lw_okq (⟨"DayKnown$Days", "stands", "(I)Z"⟩, 12) := ⟨⟨by decide +kernel, by decide +kernel⟩, List.mem_of_getElem? (i := 131) (by decide +kernel), List.mem_of_getElem? (i := 527) (by decide +kernel), List.mem_of_getElem? (i := 528) (by decide +kernel)⟩
theorem lw_p40 : lw_okq (⟨"DayKnown$Days", "addStanding", "(I)V"⟩, 12) := ⟨⟨by decide +kernel, by decide +kernel⟩, List.mem_of_getElem? (i := 131) (by decide +kernel), List.mem_of_getElem? (i := 532) (by decide +kernel), List.mem_of_getElem? (i := 533) (by decide +kernel)⟩
theorem lw_p41 : lw_okq (⟨"DayKnown", "placeOnPath", "(II)I"⟩, 9) := ⟨⟨by decide +kernel, by decide +kernel⟩, List.mem_of_getElem? (i := 16) (by decide +kernel), List.mem_of_getElem? (i := 549) (by decide +kernel), List.mem_of_getElem? (i := 550) (by decide +kernel)⟩
theorem lw_p42 : lw_okq (⟨"DayKnown$Days", "comingDay", "()I"⟩, 12) := ⟨⟨by decide +kernel, by decide +kernel⟩, List.mem_of_getElem? (i := 131) (by decide +kernel), List.mem_of_getElem? (i := 557) (by decide +kernel), List.mem_of_getElem? (i := 558) (by decide +kernel)⟩
theorem lw_p43 : lw_okq (⟨"DayKnown$Folk", "endMorning", "(II)V"⟩, 6) := ⟨⟨by decide +kernel, by decide +kernel⟩, List.mem_of_getElem? (i := 30) (by decide +kernel), List.mem_of_getElem? (i := 562) (by decide +kernel), List.mem_of_getElem? (i := 563) (by decide +kernel)⟩
theorem lw_p44 : lw_okq (⟨"DayKnown$Folk", "become", "(LDayKnown$Folk;)V"⟩, 6) := ⟨⟨by decide +kernel, by decide +kernel⟩, List.mem_of_getElem? (i := 30) (by decide +kernel), List.mem_of_getElem? (i := 572) (by decide +kernel), List.mem_of_getElem? (i := 573) (by decide +kernel)⟩
theorem lw_p45 : lw_okq (⟨"DayKnown", "searchThen", "()V"⟩, 9) := ⟨⟨by decide +kernel, by decide +kernel⟩, List.mem_of_getElem? (i := 16) (by decide +kernel), List.mem_of_getElem? (i := 577) (by decide +kernel), List.mem_of_getElem? (i := 578) (by decide +kernel)⟩
theorem lw_p46 : lw_okq (⟨"DayKnown$Days", "stoodWith", "(I)I"⟩, 12) := ⟨⟨by decide +kernel, by decide +kernel⟩, List.mem_of_getElem? (i := 131) (by decide +kernel), List.mem_of_getElem? (i := 585) (by decide +kernel), List.mem_of_getElem? (i := 586) (by decide +kernel)⟩
theorem lw_p47 : lw_okq (⟨"DayKnown", "tellThen", "(I)V"⟩, 9) := ⟨⟨by decide +kernel, by decide +kernel⟩, List.mem_of_getElem? (i := 16) (by decide +kernel), List.mem_of_getElem? (i := 598) (by decide +kernel), List.mem_of_getElem? (i := 599) (by decide +kernel)⟩
def lw_privs_3 : List (MethodName × Nat) := [(⟨"DayKnown$Days", "would", "(IIII)Z"⟩, 12), (⟨"DayKnown$Days", "answerOf", "(II)I"⟩, 12), (⟨"DayKnown$Days", "firstOtherwise", "(I)I"⟩, 12), (⟨"DayKnown$Days", "answer", "(I)I"⟩, 12), (⟨"DayKnown$Days", "gainOfAll", "(I)I"⟩, 12), (⟨"DayKnown", "searchNow", "()V"⟩, 9), (⟨"DayKnown$Days", "search", "()V"⟩, 12), (⟨"DayKnown$Days", "stands", "(I)Z"⟩, 12), (⟨"DayKnown$Days", "addStanding", "(I)V"⟩, 12), (⟨"DayKnown", "placeOnPath", "(II)I"⟩, 9), (⟨"DayKnown$Days", "comingDay", "()I"⟩, 12), (⟨"DayKnown$Folk", "endMorning", "(II)V"⟩, 6), (⟨"DayKnown$Folk", "become", "(LDayKnown$Folk;)V"⟩, 6), (⟨"DayKnown", "searchThen", "()V"⟩, 9), (⟨"DayKnown$Days", "stoodWith", "(I)I"⟩, 12), (⟨"DayKnown", "tellThen", "(I)V"⟩, 9)]
theorem lw_r3 : ∀ q ∈ lw_privs_3, lw_okq q := List.forall_mem_cons.mpr ⟨lw_p32, List.forall_mem_cons.mpr ⟨lw_p33, List.forall_mem_cons.mpr ⟨lw_p34, List.forall_mem_cons.mpr ⟨lw_p35, List.forall_mem_cons.mpr ⟨lw_p36, List.forall_mem_cons.mpr ⟨lw_p37, List.forall_mem_cons.mpr ⟨lw_p38, List.forall_mem_cons.mpr ⟨lw_p39, List.forall_mem_cons.mpr ⟨lw_p40, List.forall_mem_cons.mpr ⟨lw_p41, List.forall_mem_cons.mpr ⟨lw_p42, List.forall_mem_cons.mpr ⟨lw_p43, List.forall_mem_cons.mpr ⟨lw_p44, List.forall_mem_cons.mpr ⟨lw_p45, List.forall_mem_cons.mpr ⟨lw_p46, List.forall_mem_cons.mpr ⟨lw_p47, fun _ h => absurd h List.not_mem_nil⟩⟩⟩⟩⟩⟩⟩⟩⟩⟩⟩⟩⟩⟩⟩⟩
theorem lw_p48 : lw_okq (⟨"DayKnown$Folk", "exchange", "(II)V"⟩, 6) := ⟨⟨by decide +kernel, by decide +kernel⟩, List.mem_of_getElem? (i := 30) (by decide +kernel), List.mem_of_getElem? (i := 611) (by decide +kernel), List.mem_of_getElem? (i := 612) (by decide +kernel)⟩
theorem lw_p49 : lw_okq (⟨"DayKnown", "wouldRather", "(II)Z"⟩, 9) := ⟨⟨by decide +kernel, by decide +kernel⟩, List.mem_of_getElem? (i := 16) (by decide +kernel), List.mem_of_getElem? (i := 616) (by decide +kernel), List.mem_of_getElem? (i := 617) (by decide +kernel)⟩
theorem lw_p50 : lw_okq (⟨"DayKnown", "isBetterThen", "(I)Z"⟩, 9) := ⟨⟨by decide +kernel, by decide +kernel⟩, List.mem_of_getElem? (i := 16) (by decide +kernel), List.mem_of_getElem? (i := 620) (by decide +kernel), List.mem_of_getElem? (i := 621) (by decide +kernel)⟩
theorem lw_p51 : lw_okq (⟨"DayKnown$Acts", "clear", "()V"⟩, 5) := ⟨⟨by decide +kernel, by decide +kernel⟩, List.mem_of_getElem? (i := 184) (by decide +kernel), List.mem_of_getElem? (i := 636) (by decide +kernel), List.mem_of_getElem? (i := 637) (by decide +kernel)⟩
theorem lw_p52 : lw_okq (⟨"DayKnown$Acts", "start", "(LDayKnown$Folk;III)I"⟩, 5) := ⟨⟨by decide +kernel, by decide +kernel⟩, List.mem_of_getElem? (i := 184) (by decide +kernel), List.mem_of_getElem? (i := 640) (by decide +kernel), List.mem_of_getElem? (i := 641) (by decide +kernel)⟩
theorem lw_p53 : lw_okq (⟨"DayKnown$Acts", "ask", "(IIII)I"⟩, 5) := ⟨⟨by decide +kernel, by decide +kernel⟩, List.mem_of_getElem? (i := 184) (by decide +kernel), List.mem_of_getElem? (i := 645) (by decide +kernel), List.mem_of_getElem? (i := 646) (by decide +kernel)⟩
theorem lw_p54 : lw_okq (⟨"DayKnown$Acts", "begin", "(I)V"⟩, 5) := ⟨⟨by decide +kernel, by decide +kernel⟩, List.mem_of_getElem? (i := 184) (by decide +kernel), List.mem_of_getElem? (i := 656) (by decide +kernel), List.mem_of_getElem? (i := 657) (by decide +kernel)⟩
theorem lw_p55 : lw_okq (⟨"DayKnown$Held", "become", "(LDayKnown$Held;)V"⟩, 6) := ⟨⟨by decide +kernel, by decide +kernel⟩, List.mem_of_getElem? (i := 24) (by decide +kernel), List.mem_of_getElem? (i := 673) (by decide +kernel), List.mem_of_getElem? (i := 674) (by decide +kernel)⟩
theorem lw_p56 : lw_okq (⟨"DayKnownModel", "clauseHere", "()V"⟩, 28) := ⟨⟨by decide +kernel, by decide +kernel⟩, List.mem_of_getElem? (i := 687) (by decide +kernel), List.mem_of_getElem? (i := 789) (by decide +kernel), List.mem_of_getElem? (i := 790) (by decide +kernel)⟩
theorem lw_p57 : lw_okq (⟨"DayKnownModel", "here", "()I"⟩, 28) := ⟨⟨by decide +kernel, by decide +kernel⟩, List.mem_of_getElem? (i := 687) (by decide +kernel), List.mem_of_getElem? (i := 793) (by decide +kernel), List.mem_of_getElem? (i := 794) (by decide +kernel)⟩
theorem lw_p58 : lw_okq (⟨"DayKnownModel", "much", "(ILjava/lang/String;)V"⟩, 28) := ⟨⟨by decide +kernel, by decide +kernel⟩, List.mem_of_getElem? (i := 687) (by decide +kernel), List.mem_of_getElem? (i := 798) (by decide +kernel), List.mem_of_getElem? (i := 799) (by decide +kernel)⟩
theorem lw_p59 : lw_okq (⟨"DayKnownModel", "spells", "(Ljava/lang/String;)V"⟩, 28) := ⟨⟨by decide +kernel, by decide +kernel⟩, List.mem_of_getElem? (i := 687) (by decide +kernel), List.mem_of_getElem? (i := 802) (by decide +kernel), List.mem_of_getElem? (i := 803) (by decide +kernel)⟩
theorem lw_p60 : lw_okq (⟨"DayKnownModel", "must", "(I)V"⟩, 28) := ⟨⟨by decide +kernel, by decide +kernel⟩, List.mem_of_getElem? (i := 687) (by decide +kernel), List.mem_of_getElem? (i := 808) (by decide +kernel), List.mem_of_getElem? (i := 809) (by decide +kernel)⟩
theorem lw_p61 : lw_okq (⟨"DayKnownModel", "figures", "()I"⟩, 28) := ⟨⟨by decide +kernel, by decide +kernel⟩, List.mem_of_getElem? (i := 687) (by decide +kernel), List.mem_of_getElem? (i := 812) (by decide +kernel), List.mem_of_getElem? (i := 813) (by decide +kernel)⟩
theorem lw_p62 : lw_okq (⟨"DayKnownModel", "some", "()V"⟩, 28) := ⟨⟨by decide +kernel, by decide +kernel⟩, List.mem_of_getElem? (i := 687) (by decide +kernel), List.mem_of_getElem? (i := 816) (by decide +kernel), List.mem_of_getElem? (i := 817) (by decide +kernel)⟩
theorem lw_p63 : lw_okq (⟨"DayKnownModel", "every", "()V"⟩, 28) := ⟨⟨by decide +kernel, by decide +kernel⟩, List.mem_of_getElem? (i := 687) (by decide +kernel), List.mem_of_getElem? (i := 820) (by decide +kernel), List.mem_of_getElem? (i := 821) (by decide +kernel)⟩
def lw_privs_4 : List (MethodName × Nat) := [(⟨"DayKnown$Folk", "exchange", "(II)V"⟩, 6), (⟨"DayKnown", "wouldRather", "(II)Z"⟩, 9), (⟨"DayKnown", "isBetterThen", "(I)Z"⟩, 9), (⟨"DayKnown$Acts", "clear", "()V"⟩, 5), (⟨"DayKnown$Acts", "start", "(LDayKnown$Folk;III)I"⟩, 5), (⟨"DayKnown$Acts", "ask", "(IIII)I"⟩, 5), (⟨"DayKnown$Acts", "begin", "(I)V"⟩, 5), (⟨"DayKnown$Held", "become", "(LDayKnown$Held;)V"⟩, 6), (⟨"DayKnownModel", "clauseHere", "()V"⟩, 28), (⟨"DayKnownModel", "here", "()I"⟩, 28), (⟨"DayKnownModel", "much", "(ILjava/lang/String;)V"⟩, 28), (⟨"DayKnownModel", "spells", "(Ljava/lang/String;)V"⟩, 28), (⟨"DayKnownModel", "must", "(I)V"⟩, 28), (⟨"DayKnownModel", "figures", "()I"⟩, 28), (⟨"DayKnownModel", "some", "()V"⟩, 28), (⟨"DayKnownModel", "every", "()V"⟩, 28)]
theorem lw_r4 : ∀ q ∈ lw_privs_4, lw_okq q := List.forall_mem_cons.mpr ⟨lw_p48, List.forall_mem_cons.mpr ⟨lw_p49, List.forall_mem_cons.mpr ⟨lw_p50, List.forall_mem_cons.mpr ⟨lw_p51, List.forall_mem_cons.mpr ⟨lw_p52, List.forall_mem_cons.mpr ⟨lw_p53, List.forall_mem_cons.mpr ⟨lw_p54, List.forall_mem_cons.mpr ⟨lw_p55, List.forall_mem_cons.mpr ⟨lw_p56, List.forall_mem_cons.mpr ⟨lw_p57, List.forall_mem_cons.mpr ⟨lw_p58, List.forall_mem_cons.mpr ⟨lw_p59, List.forall_mem_cons.mpr ⟨lw_p60, List.forall_mem_cons.mpr ⟨lw_p61, List.forall_mem_cons.mpr ⟨lw_p62, List.forall_mem_cons.mpr ⟨lw_p63, fun _ h => absurd h List.not_mem_nil⟩⟩⟩⟩⟩⟩⟩⟩⟩⟩⟩⟩⟩⟩⟩⟩
theorem lw_p64 : lw_okq (⟨"DayKnownModel", "factor", "()V"⟩, 28) := ⟨⟨by decide +kernel, by decide +kernel⟩, List.mem_of_getElem? (i := 687) (by decide +kernel), List.mem_of_getElem? (i := 824) (by decide +kernel), List.mem_of_getElem? (i := 825) (by decide +kernel)⟩
theorem lw_p65 : lw_okq (⟨"DayKnownModel", "emits", "(I)V"⟩, 28) := ⟨⟨by decide +kernel, by decide +kernel⟩, List.mem_of_getElem? (i := 687) (by decide +kernel), List.mem_of_getElem? (i := 828) (by decide +kernel), List.mem_of_getElem? (i := 829) (by decide +kernel)⟩
theorem lw_p66 : lw_okq (⟨"DayKnownModel", "among", "(Ljava/lang/String;)I"⟩, 28) := ⟨⟨by decide +kernel, by decide +kernel⟩, List.mem_of_getElem? (i := 687) (by decide +kernel), List.mem_of_getElem? (i := 833) (by decide +kernel), List.mem_of_getElem? (i := 834) (by decide +kernel)⟩
theorem lw_p67 : lw_okq (⟨"DayKnownModel", "tellsOf", "(I)I"⟩, 28) := ⟨⟨by decide +kernel, by decide +kernel⟩, List.mem_of_getElem? (i := 687) (by decide +kernel), List.mem_of_getElem? (i := 844) (by decide +kernel), List.mem_of_getElem? (i := 845) (by decide +kernel)⟩
theorem lw_p68 : lw_okq (⟨"DayKnownModel", "isPerson", "(I)Z"⟩, 28) := ⟨⟨by decide +kernel, by decide +kernel⟩, List.mem_of_getElem? (i := 687) (by decide +kernel), List.mem_of_getElem? (i := 856) (by decide +kernel), List.mem_of_getElem? (i := 857) (by decide +kernel)⟩
theorem lw_p69 : lw_okq (⟨"DayKnownModel", "isDay", "(I)Z"⟩, 28) := ⟨⟨by decide +kernel, by decide +kernel⟩, List.mem_of_getElem? (i := 687) (by decide +kernel), List.mem_of_getElem? (i := 872) (by decide +kernel), List.mem_of_getElem? (i := 873) (by decide +kernel)⟩
theorem lw_p70 : lw_okq (⟨"DayKnownModel", "days", "()I"⟩, 28) := ⟨⟨by decide +kernel, by decide +kernel⟩, List.mem_of_getElem? (i := 687) (by decide +kernel), List.mem_of_getElem? (i := 876) (by decide +kernel), List.mem_of_getElem? (i := 877) (by decide +kernel)⟩
theorem lw_p71 : lw_okq (⟨"DayKnownModel", "looks", "()V"⟩, 28) := ⟨⟨by decide +kernel, by decide +kernel⟩, List.mem_of_getElem? (i := 687) (by decide +kernel), List.mem_of_getElem? (i := 887) (by decide +kernel), List.mem_of_getElem? (i := 888) (by decide +kernel)⟩
theorem lw_p72 : lw_okq (⟨"DayKnownModel", "looksAt", "(I)V"⟩, 28) := ⟨⟨by decide +kernel, by decide +kernel⟩, List.mem_of_getElem? (i := 687) (by decide +kernel), List.mem_of_getElem? (i := 891) (by decide +kernel), List.mem_of_getElem? (i := 892) (by decide +kernel)⟩
theorem lw_p73 : lw_okq (⟨"DayKnownModel", "worthBy", "()I"⟩, 28) := ⟨⟨by decide +kernel, by decide +kernel⟩, List.mem_of_getElem? (i := 687) (by decide +kernel), List.mem_of_getElem? (i := 895) (by decide +kernel), List.mem_of_getElem? (i := 896) (by decide +kernel)⟩
theorem lw_p74 : lw_okq (⟨"DayKnownModel", "worthOf", "(III)I"⟩, 28) := ⟨⟨by decide +kernel, by decide +kernel⟩, List.mem_of_getElem? (i := 687) (by decide +kernel), List.mem_of_getElem? (i := 899) (by decide +kernel), List.mem_of_getElem? (i := 900) (by decide +kernel)⟩
theorem lw_p75 : lw_okq (⟨"DayKnownModel", "others", "(III)I"⟩, 28) := ⟨⟨by decide +kernel, by decide +kernel⟩, List.mem_of_getElem? (i := 687) (by decide +kernel), List.mem_of_getElem? (i := 903) (by decide +kernel), List.mem_of_getElem? (i := 904) (by decide +kernel)⟩
theorem lw_p76 : lw_okq (⟨"DayKnownModel", "would", "(III)Z"⟩, 28) := ⟨⟨by decide +kernel, by decide +kernel⟩, List.mem_of_getElem? (i := 687) (by decide +kernel), List.mem_of_getElem? (i := 910) (by decide +kernel), List.mem_of_getElem? (i := 911) (by decide +kernel)⟩
theorem lw_p77 : lw_okq (⟨"DayKnownModel", "bestOwn", "(II)I"⟩, 28) := ⟨⟨by decide +kernel, by decide +kernel⟩, List.mem_of_getElem? (i := 687) (by decide +kernel), List.mem_of_getElem? (i := 914) (by decide +kernel), List.mem_of_getElem? (i := 915) (by decide +kernel)⟩
theorem lw_p78 : lw_okq (⟨"DayKnownModel", "gainOf", "(II)I"⟩, 28) := ⟨⟨by decide +kernel, by decide +kernel⟩, List.mem_of_getElem? (i := 687) (by decide +kernel), List.mem_of_getElem? (i := 921) (by decide +kernel), List.mem_of_getElem? (i := 922) (by decide +kernel)⟩
theorem lw_p79 : lw_okq (⟨"DayKnownModel", "wouldPlainly", "(III)Z"⟩, 28) := ⟨⟨by decide +kernel, by decide +kernel⟩, List.mem_of_getElem? (i := 687) (by decide +kernel), List.mem_of_getElem? (i := 925) (by decide +kernel), List.mem_of_getElem? (i := 926) (by decide +kernel)⟩
def lw_privs_5 : List (MethodName × Nat) := [(⟨"DayKnownModel", "factor", "()V"⟩, 28), (⟨"DayKnownModel", "emits", "(I)V"⟩, 28), (⟨"DayKnownModel", "among", "(Ljava/lang/String;)I"⟩, 28), (⟨"DayKnownModel", "tellsOf", "(I)I"⟩, 28), (⟨"DayKnownModel", "isPerson", "(I)Z"⟩, 28), (⟨"DayKnownModel", "isDay", "(I)Z"⟩, 28), (⟨"DayKnownModel", "days", "()I"⟩, 28), (⟨"DayKnownModel", "looks", "()V"⟩, 28), (⟨"DayKnownModel", "looksAt", "(I)V"⟩, 28), (⟨"DayKnownModel", "worthBy", "()I"⟩, 28), (⟨"DayKnownModel", "worthOf", "(III)I"⟩, 28), (⟨"DayKnownModel", "others", "(III)I"⟩, 28), (⟨"DayKnownModel", "would", "(III)Z"⟩, 28), (⟨"DayKnownModel", "bestOwn", "(II)I"⟩, 28), (⟨"DayKnownModel", "gainOf", "(II)I"⟩, 28), (⟨"DayKnownModel", "wouldPlainly", "(III)Z"⟩, 28)]
theorem lw_r5 : ∀ q ∈ lw_privs_5, lw_okq q := List.forall_mem_cons.mpr ⟨lw_p64, List.forall_mem_cons.mpr ⟨lw_p65, List.forall_mem_cons.mpr ⟨lw_p66, List.forall_mem_cons.mpr ⟨lw_p67, List.forall_mem_cons.mpr ⟨lw_p68, List.forall_mem_cons.mpr ⟨lw_p69, List.forall_mem_cons.mpr ⟨lw_p70, List.forall_mem_cons.mpr ⟨lw_p71, List.forall_mem_cons.mpr ⟨lw_p72, List.forall_mem_cons.mpr ⟨lw_p73, List.forall_mem_cons.mpr ⟨lw_p74, List.forall_mem_cons.mpr ⟨lw_p75, List.forall_mem_cons.mpr ⟨lw_p76, List.forall_mem_cons.mpr ⟨lw_p77, List.forall_mem_cons.mpr ⟨lw_p78, List.forall_mem_cons.mpr ⟨lw_p79, fun _ h => absurd h List.not_mem_nil⟩⟩⟩⟩⟩⟩⟩⟩⟩⟩⟩⟩⟩⟩⟩⟩
theorem lw_p80 : lw_okq (⟨"DayKnownModel", "isStrange", "(II)Z"⟩, 28) := ⟨⟨by decide +kernel, by decide +kernel⟩, List.mem_of_getElem? (i := 687) (by decide +kernel), List.mem_of_getElem? (i := 929) (by decide +kernel), List.mem_of_getElem? (i := 930) (by decide +kernel)⟩
theorem lw_p81 : lw_okq (⟨"DayKnownModel", "firstOtherwise", "(I)I"⟩, 28) := ⟨⟨by decide +kernel, by decide +kernel⟩, List.mem_of_getElem? (i := 687) (by decide +kernel), List.mem_of_getElem? (i := 937) (by decide +kernel), List.mem_of_getElem? (i := 938) (by decide +kernel)⟩
theorem lw_p82 : lw_okq (⟨"DayKnownModel", "answerTo", "(I)I"⟩, 28) := ⟨⟨by decide +kernel, by decide +kernel⟩, List.mem_of_getElem? (i := 687) (by decide +kernel), List.mem_of_getElem? (i := 941) (by decide +kernel), List.mem_of_getElem? (i := 942) (by decide +kernel)⟩
theorem lw_p83 : lw_okq (⟨"DayKnownModel", "gainOfAll", "(I)I"⟩, 28) := ⟨⟨by decide +kernel, by decide +kernel⟩, List.mem_of_getElem? (i := 687) (by decide +kernel), List.mem_of_getElem? (i := 945) (by decide +kernel), List.mem_of_getElem? (i := 946) (by decide +kernel)⟩
theorem lw_p84 : lw_okq (⟨"DayKnownModel", "looksThrough", "()V"⟩, 28) := ⟨⟨by decide +kernel, by decide +kernel⟩, List.mem_of_getElem? (i := 687) (by decide +kernel), List.mem_of_getElem? (i := 953) (by decide +kernel), List.mem_of_getElem? (i := 954) (by decide +kernel)⟩
theorem lw_p85 : lw_okq (⟨"DayKnownModel", "stands", "(I)Z"⟩, 28) := ⟨⟨by decide +kernel, by decide +kernel⟩, List.mem_of_getElem? (i := 687) (by decide +kernel), List.mem_of_getElem? (i := 957) (by decide +kernel), List.mem_of_getElem? (i := 958) (by decide +kernel)⟩
theorem lw_p86 : lw_okq (⟨"DayKnownModel", "morningComes", "()I"⟩, 28) := ⟨⟨by decide +kernel, by decide +kernel⟩, List.mem_of_getElem? (i := 687) (by decide +kernel), List.mem_of_getElem? (i := 973) (by decide +kernel), List.mem_of_getElem? (i := 974) (by decide +kernel)⟩
theorem lw_p87 : lw_okq (⟨"DayKnownModel", "keeps", "()V"⟩, 28) := ⟨⟨by decide +kernel, by decide +kernel⟩, List.mem_of_getElem? (i := 687) (by decide +kernel), List.mem_of_getElem? (i := 992) (by decide +kernel), List.mem_of_getElem? (i := 993) (by decide +kernel)⟩
theorem lw_p88 : lw_okq (⟨"DayKnownModel", "goesBack", "()V"⟩, 28) := ⟨⟨by decide +kernel, by decide +kernel⟩, List.mem_of_getElem? (i := 687) (by decide +kernel), List.mem_of_getElem? (i := 999) (by decide +kernel), List.mem_of_getElem? (i := 1000) (by decide +kernel)⟩
theorem lw_p89 : lw_okq (⟨"DayKnownModel", "isGood", "(III)Z"⟩, 28) := ⟨⟨by decide +kernel, by decide +kernel⟩, List.mem_of_getElem? (i := 687) (by decide +kernel), List.mem_of_getElem? (i := 1011) (by decide +kernel), List.mem_of_getElem? (i := 1012) (by decide +kernel)⟩
theorem lw_p90 : lw_okq (⟨"DayKnownModel", "knowsActs", "(I)I"⟩, 28) := ⟨⟨by decide +kernel, by decide +kernel⟩, List.mem_of_getElem? (i := 687) (by decide +kernel), List.mem_of_getElem? (i := 1027) (by decide +kernel), List.mem_of_getElem? (i := 1028) (by decide +kernel)⟩
theorem lw_p91 : lw_okq (⟨"DayKnownModel", "runs", "(I)V"⟩, 28) := ⟨⟨by decide +kernel, by decide +kernel⟩, List.mem_of_getElem? (i := 687) (by decide +kernel), List.mem_of_getElem? (i := 1031) (by decide +kernel), List.mem_of_getElem? (i := 1032) (by decide +kernel)⟩
theorem lw_p92 : lw_okq (⟨"DayKnownModel", "plainKnows", "(I)I"⟩, 28) := ⟨⟨by decide +kernel, by decide +kernel⟩, List.mem_of_getElem? (i := 687) (by decide +kernel), List.mem_of_getElem? (i := 1035) (by decide +kernel), List.mem_of_getElem? (i := 1036) (by decide +kernel)⟩
theorem lw_p93 : lw_okq (⟨"DayKnownModel", "doesActs", "(I)I"⟩, 28) := ⟨⟨by decide +kernel, by decide +kernel⟩, List.mem_of_getElem? (i := 687) (by decide +kernel), List.mem_of_getElem? (i := 1039) (by decide +kernel), List.mem_of_getElem? (i := 1040) (by decide +kernel)⟩
theorem lw_p94 : lw_okq (⟨"DayKnownModel", "plainDoes", "(I)I"⟩, 28) := ⟨⟨by decide +kernel, by decide +kernel⟩, List.mem_of_getElem? (i := 687) (by decide +kernel), List.mem_of_getElem? (i := 1046) (by decide +kernel), List.mem_of_getElem? (i := 1047) (by decide +kernel)⟩
theorem lw_p95 : lw_okq (⟨"DayKnownModel", "tellsActs", "(I)I"⟩, 28) := ⟨⟨by decide +kernel, by decide +kernel⟩, List.mem_of_getElem? (i := 687) (by decide +kernel), List.mem_of_getElem? (i := 1050) (by decide +kernel), List.mem_of_getElem? (i := 1051) (by decide +kernel)⟩
def lw_privs_6 : List (MethodName × Nat) := [(⟨"DayKnownModel", "isStrange", "(II)Z"⟩, 28), (⟨"DayKnownModel", "firstOtherwise", "(I)I"⟩, 28), (⟨"DayKnownModel", "answerTo", "(I)I"⟩, 28), (⟨"DayKnownModel", "gainOfAll", "(I)I"⟩, 28), (⟨"DayKnownModel", "looksThrough", "()V"⟩, 28), (⟨"DayKnownModel", "stands", "(I)Z"⟩, 28), (⟨"DayKnownModel", "morningComes", "()I"⟩, 28), (⟨"DayKnownModel", "keeps", "()V"⟩, 28), (⟨"DayKnownModel", "goesBack", "()V"⟩, 28), (⟨"DayKnownModel", "isGood", "(III)Z"⟩, 28), (⟨"DayKnownModel", "knowsActs", "(I)I"⟩, 28), (⟨"DayKnownModel", "runs", "(I)V"⟩, 28), (⟨"DayKnownModel", "plainKnows", "(I)I"⟩, 28), (⟨"DayKnownModel", "doesActs", "(I)I"⟩, 28), (⟨"DayKnownModel", "plainDoes", "(I)I"⟩, 28), (⟨"DayKnownModel", "tellsActs", "(I)I"⟩, 28)]
theorem lw_r6 : ∀ q ∈ lw_privs_6, lw_okq q := List.forall_mem_cons.mpr ⟨lw_p80, List.forall_mem_cons.mpr ⟨lw_p81, List.forall_mem_cons.mpr ⟨lw_p82, List.forall_mem_cons.mpr ⟨lw_p83, List.forall_mem_cons.mpr ⟨lw_p84, List.forall_mem_cons.mpr ⟨lw_p85, List.forall_mem_cons.mpr ⟨lw_p86, List.forall_mem_cons.mpr ⟨lw_p87, List.forall_mem_cons.mpr ⟨lw_p88, List.forall_mem_cons.mpr ⟨lw_p89, List.forall_mem_cons.mpr ⟨lw_p90, List.forall_mem_cons.mpr ⟨lw_p91, List.forall_mem_cons.mpr ⟨lw_p92, List.forall_mem_cons.mpr ⟨lw_p93, List.forall_mem_cons.mpr ⟨lw_p94, List.forall_mem_cons.mpr ⟨lw_p95, fun _ h => absurd h List.not_mem_nil⟩⟩⟩⟩⟩⟩⟩⟩⟩⟩⟩⟩⟩⟩⟩⟩
theorem lw_p96 : lw_okq (⟨"DayKnownModel", "plainTells", "(I)I"⟩, 28) := ⟨⟨by decide +kernel, by decide +kernel⟩, List.mem_of_getElem? (i := 687) (by decide +kernel), List.mem_of_getElem? (i := 1054) (by decide +kernel), List.mem_of_getElem? (i := 1055) (by decide +kernel)⟩
def lw_privs_7 : List (MethodName × Nat) := [(⟨"DayKnownModel", "plainTells", "(I)I"⟩, 28)]
theorem lw_r7 : ∀ q ∈ lw_privs_7, lw_okq q := List.forall_mem_cons.mpr ⟨lw_p96, fun _ h => absurd h List.not_mem_nil⟩
def lw_privs : List (MethodName × Nat) := lw_privs_1 ++ (lw_privs_2 ++ (lw_privs_3 ++ (lw_privs_4 ++ (lw_privs_5 ++ (lw_privs_6 ++ (lw_privs_7))))))
def lw_tbl : List Cond := k2_sels lw_privs ++ tables_1
theorem lw_privs_ok : ∀ q ∈ lw_privs, lw_okq q := by
  show ∀ q ∈ lw_privs_1 ++ (lw_privs_2 ++ (lw_privs_3 ++ (lw_privs_4 ++ (lw_privs_5 ++ (lw_privs_6 ++ (lw_privs_7)))))), lw_okq q
  exact List.forall_mem_append.mpr ⟨lw_r1, List.forall_mem_append.mpr ⟨lw_r2, List.forall_mem_append.mpr ⟨lw_r3, List.forall_mem_append.mpr ⟨lw_r4, List.forall_mem_append.mpr ⟨lw_r5, List.forall_mem_append.mpr ⟨lw_r6, lw_r7⟩⟩⟩⟩⟩⟩
-- ===== end of PART A; then your names; then what follows =====
def RX0 : String := "DayKnown$Acts"
def TX0 : u_T := fun k => match k with
  | 0 => ("DayKnown$Acts", "bodies", "[I", true)
  | 1 => ("DayKnown$Acts", "ran", "I", false)
  | 2 => ("DayKnown$Acts", "self", "I", false)
  | 3 => ("DayKnown$Acts", "kind", "I", false)
  | _ => ("DayKnown$Acts", "v", "I", false)
def tyX0 : Nat → FieldType := fun k => match k with
  | 0 => .array .int
  | 1 => .int
  | 2 => .int
  | 3 => .int
  | _ => .int
abbrev wsX00 : List Cond := u_ws RX0 TX0 5
theorem nmX0 : ∀ a, a < 5 → ∀ b, b < 5 → a ≠ b → (TX0 a).2.1 ≠ (TX0 b).2.1 := by decide +kernel
theorem tyX0_ok : ∀ k, k < 5 → parseFieldDescriptor (TX0 k).2.2.1 = some (tyX0 k) := by decide +kernel
abbrev cX0_init : ByteArray := prog_2_method_1_code
def yX0_init : MethodName := ⟨RX0, "<init>", "()V"⟩
abbrev cX0_clear : ByteArray := prog_2_method_2_code
def yX0_clear : MethodName := ⟨RX0, "clear", "()V"⟩
abbrev cX0_start : ByteArray := prog_2_method_3_code
def yX0_start : MethodName := ⟨RX0, "start", "(LDayKnown$Folk;III)I"⟩
abbrev cX0_bodyOf : ByteArray := prog_2_method_4_code
def yX0_bodyOf : MethodName := ⟨RX0, "bodyOf", "(II)I"⟩
abbrev cX0_begin : ByteArray := prog_2_method_5_code
def yX0_begin : MethodName := ⟨RX0, "begin", "(I)V"⟩
abbrev cX0_ask : ByteArray := prog_2_method_6_code
def yX0_ask : MethodName := ⟨RX0, "ask", "(IIII)I"⟩
def RX1 : String := "DayKnown$Days"
def TX1 : u_T := fun k => match k with
  | 0 => ("DayKnown$Days", "folk", "LDayKnown$Folk;", true)
  | 1 => ("DayKnown$Days", "worths", "[[I", true)
  | 2 => ("DayKnown$Days", "worthsKind", "[I", true)
  | 3 => ("DayKnown$Days", "facts", "[I", true)
  | 4 => ("DayKnown$Days", "replies", "[[I", true)
  | 5 => ("DayKnown$Days", "isPrepared", "Z", false)
  | 6 => ("DayKnown$Days", "isSearched", "Z", false)
  | 7 => ("DayKnown$Days", "stood", "I", false)
  | 8 => ("DayKnown$Days", "least", "I", false)
  | 9 => ("DayKnown$Days", "greatest", "I", false)
  | 10 => ("DayKnown$Days", "chosen", "I", false)
  | _ => ("DayKnown$Days", "chosenGain", "I", false)
def tyX1 : Nat → FieldType := fun k => match k with
  | 0 => .object "DayKnown$Folk"
  | 1 => .array (.array .int)
  | 2 => .array .int
  | 3 => .array .int
  | 4 => .array (.array .int)
  | 5 => .boolean
  | 6 => .boolean
  | 7 => .int
  | 8 => .int
  | 9 => .int
  | 10 => .int
  | _ => .int
abbrev wsX10 : List Cond := u_ws RX1 TX1 12
theorem nmX1 : ∀ a, a < 12 → ∀ b, b < 12 → a ≠ b → (TX1 a).2.1 ≠ (TX1 b).2.1 := by decide +kernel
theorem tyX1_ok : ∀ k, k < 12 → parseFieldDescriptor (TX1 k).2.2.1 = some (tyX1 k) := by decide +kernel
abbrev cX1_init : ByteArray := prog_3_method_1_code
def yX1_init : MethodName := ⟨RX1, "<init>", "(LDayKnown$Folk;)V"⟩
abbrev cX1_forget : ByteArray := prog_3_method_2_code
def yX1_forget : MethodName := ⟨RX1, "forget", "()V"⟩
abbrev cX1_forgetTown : ByteArray := prog_3_method_3_code
def yX1_forgetTown : MethodName := ⟨RX1, "forgetTown", "()V"⟩
abbrev cX1_prepare : ByteArray := prog_3_method_4_code
def yX1_prepare : MethodName := ⟨RX1, "prepare", "(LDayKnown$Town;)V"⟩
abbrev cX1_fillWorths : ByteArray := prog_3_method_5_code
def yX1_fillWorths : MethodName := ⟨RX1, "fillWorths", "(ILDayKnown$Town;)V"⟩
abbrev cX1_sightOf : ByteArray := prog_3_method_6_code
def yX1_sightOf : MethodName := ⟨RX1, "sightOf", "(II)I"⟩
abbrev cX1_worth : ByteArray := prog_3_method_7_code
def yX1_worth : MethodName := ⟨RX1, "worth", "(III)I"⟩
abbrev cX1_gain : ByteArray := prog_3_method_8_code
def yX1_gain : MethodName := ⟨RX1, "gain", "(II)I"⟩
abbrev cX1_rowAt : ByteArray := prog_3_method_9_code
def yX1_rowAt : MethodName := ⟨RX1, "rowAt", "(III)I"⟩
abbrev cX1_bestRow : ByteArray := prog_3_method_10_code
def yX1_bestRow : MethodName := ⟨RX1, "bestRow", "(II)I"⟩
abbrev cX1_would : ByteArray := prog_3_method_11_code
def yX1_would : MethodName := ⟨RX1, "would", "(IIII)Z"⟩
abbrev cX1_answerOf : ByteArray := prog_3_method_12_code
def yX1_answerOf : MethodName := ⟨RX1, "answerOf", "(II)I"⟩
abbrev cX1_answer : ByteArray := prog_3_method_13_code
def yX1_answer : MethodName := ⟨RX1, "answer", "(I)I"⟩
abbrev cX1_firstOtherwise : ByteArray := prog_3_method_14_code
def yX1_firstOtherwise : MethodName := ⟨RX1, "firstOtherwise", "(I)I"⟩
abbrev cX1_stands : ByteArray := prog_3_method_15_code
def yX1_stands : MethodName := ⟨RX1, "stands", "(I)Z"⟩
abbrev cX1_gainOfAll : ByteArray := prog_3_method_16_code
def yX1_gainOfAll : MethodName := ⟨RX1, "gainOfAll", "(I)I"⟩
abbrev cX1_search : ByteArray := prog_3_method_17_code
def yX1_search : MethodName := ⟨RX1, "search", "()V"⟩
abbrev cX1_addStanding : ByteArray := prog_3_method_18_code
def yX1_addStanding : MethodName := ⟨RX1, "addStanding", "(I)V"⟩
abbrev cX1_comingDay : ByteArray := prog_3_method_19_code
def yX1_comingDay : MethodName := ⟨RX1, "comingDay", "()I"⟩
abbrev cX1_stoodWith : ByteArray := prog_3_method_20_code
def yX1_stoodWith : MethodName := ⟨RX1, "stoodWith", "(I)I"⟩
def RX2 : String := "DayKnown$Folk"
def TX2 : u_T := fun k => match k with
  | 0 => ("DayKnown$Folk", "kind", "[I", true)
  | 1 => ("DayKnown$Folk", "v", "[I", true)
  | 2 => ("DayKnown$Folk", "row", "[I", true)
  | 3 => ("DayKnown$Folk", "people", "I", false)
  | 4 => ("DayKnown$Folk", "notes", "I", false)
  | _ => ("DayKnown$Folk", "yesterday", "I", false)
def tyX2 : Nat → FieldType := fun k => match k with
  | 0 => .array .int
  | 1 => .array .int
  | 2 => .array .int
  | 3 => .int
  | 4 => .int
  | _ => .int
abbrev wsX20 : List Cond := u_ws RX2 TX2 6
theorem nmX2 : ∀ a, a < 6 → ∀ b, b < 6 → a ≠ b → (TX2 a).2.1 ≠ (TX2 b).2.1 := by decide +kernel
theorem tyX2_ok : ∀ k, k < 6 → parseFieldDescriptor (TX2 k).2.2.1 = some (tyX2 k) := by decide +kernel
abbrev cX2_init : ByteArray := prog_4_method_1_code
def yX2_init : MethodName := ⟨RX2, "<init>", "()V"⟩
abbrev cX2_has : ByteArray := prog_4_method_2_code
def yX2_has : MethodName := ⟨RX2, "has", "(I)Z"⟩
abbrev cX2_allDays : ByteArray := prog_4_method_3_code
def yX2_allDays : MethodName := ⟨RX2, "allDays", "()I"⟩
abbrev cX2_isDay : ByteArray := prog_4_method_4_code
def yX2_isDay : MethodName := ⟨RX2, "isDay", "(I)Z"⟩
abbrev cX2_join : ByteArray := prog_4_method_5_code
def yX2_join : MethodName := ⟨RX2, "join", "(II)I"⟩
abbrev cX2_noteOf : ByteArray := prog_4_method_6_code
def yX2_noteOf : MethodName := ⟨RX2, "noteOf", "(I)I"⟩
abbrev cX2_putNote : ByteArray := prog_4_method_7_code
def yX2_putNote : MethodName := ⟨RX2, "putNote", "(IZ)V"⟩
abbrev cX2_exchange : ByteArray := prog_4_method_8_code
def yX2_exchange : MethodName := ⟨RX2, "exchange", "(II)V"⟩
abbrev cX2_endMorning : ByteArray := prog_4_method_9_code
def yX2_endMorning : MethodName := ⟨RX2, "endMorning", "(II)V"⟩
abbrev cX2_become : ByteArray := prog_4_method_10_code
def yX2_become : MethodName := ⟨RX2, "become", "(LDayKnown$Folk;)V"⟩
def RX3 : String := "DayKnown$Held"
def TX3 : u_T := fun k => match k with
  | 0 => ("DayKnown$Held", "folk", "LDayKnown$Folk;", true)
  | 1 => ("DayKnown$Held", "tape", "[I", true)
  | 2 => ("DayKnown$Held", "book", "[I", true)
  | 3 => ("DayKnown$Held", "signs", "I", false)
  | 4 => ("DayKnown$Held", "booked", "I", false)
  | _ => ("DayKnown$Held", "towns", "I", false)
def tyX3 : Nat → FieldType := fun k => match k with
  | 0 => .object "DayKnown$Folk"
  | 1 => .array .int
  | 2 => .array .int
  | 3 => .int
  | 4 => .int
  | _ => .int
abbrev wsX30 : List Cond := u_ws RX3 TX3 6
theorem nmX3 : ∀ a, a < 6 → ∀ b, b < 6 → a ≠ b → (TX3 a).2.1 ≠ (TX3 b).2.1 := by decide +kernel
theorem tyX3_ok : ∀ k, k < 6 → parseFieldDescriptor (TX3 k).2.2.1 = some (tyX3 k) := by decide +kernel
abbrev cX3_init : ByteArray := prog_5_method_1_code
def yX3_init : MethodName := ⟨RX3, "<init>", "()V"⟩
abbrev cX3_become : ByteArray := prog_5_method_2_code
def yX3_become : MethodName := ⟨RX3, "become", "(LDayKnown$Held;)V"⟩
def RX4 : String := "DayKnown$Town"
def TX4 : u_T := fun k => match k with
  | 0 => ("DayKnown$Town", "text", "[I", true)
  | 1 => ("DayKnown$Town", "size", "I", false)
  | 2 => ("DayKnown$Town", "at", "I", false)
  | 3 => ("DayKnown$Town", "code", "[I", true)
  | 4 => ("DayKnown$Town", "codes", "I", false)
  | 5 => ("DayKnown$Town", "amount", "[I", true)
  | 6 => ("DayKnown$Town", "codeEnd", "[I", true)
  | 7 => ("DayKnown$Town", "clauses", "I", false)
  | _ => ("DayKnown$Town", "noteHours", "I", false)
def tyX4 : Nat → FieldType := fun k => match k with
  | 0 => .array .int
  | 1 => .int
  | 2 => .int
  | 3 => .array .int
  | 4 => .int
  | 5 => .array .int
  | 6 => .array .int
  | 7 => .int
  | _ => .int
abbrev wsX40 : List Cond := u_ws RX4 TX4 9
theorem nmX4 : ∀ a, a < 9 → ∀ b, b < 9 → a ≠ b → (TX4 a).2.1 ≠ (TX4 b).2.1 := by decide +kernel
theorem tyX4_ok : ∀ k, k < 9 → parseFieldDescriptor (TX4 k).2.2.1 = some (tyX4 k) := by decide +kernel
abbrev cX4_init : ByteArray := prog_6_method_1_code
def yX4_init : MethodName := ⟨RX4, "<init>", "()V"⟩
abbrev cX4_read : ByteArray := prog_6_method_2_code
def yX4_read : MethodName := ⟨RX4, "read", "([II)I"⟩
abbrev cX4_sign : ByteArray := prog_6_method_3_code
def yX4_sign : MethodName := ⟨RX4, "sign", "()I"⟩
abbrev cX4_take : ByteArray := prog_6_method_4_code
def yX4_take : MethodName := ⟨RX4, "take", "(I)Z"⟩
abbrev cX4_takeOneOf : ByteArray := prog_6_method_5_code
def yX4_takeOneOf : MethodName := ⟨RX4, "takeOneOf", "(Ljava/lang/String;)I"⟩
abbrev cX4_takeWord : ByteArray := prog_6_method_6_code
def yX4_takeWord : MethodName := ⟨RX4, "takeWord", "(Ljava/lang/String;)Z"⟩
abbrev cX4_readClause : ByteArray := prog_6_method_7_code
def yX4_readClause : MethodName := ⟨RX4, "readClause", "()Z"⟩
abbrev cX4_keepClause : ByteArray := prog_6_method_8_code
def yX4_keepClause : MethodName := ⟨RX4, "keepClause", "(I)V"⟩
abbrev cX4_keepCode : ByteArray := prog_6_method_9_code
def yX4_keepCode : MethodName := ⟨RX4, "keepCode", "(I)V"⟩
abbrev cX4_readNumber : ByteArray := prog_6_method_10_code
def yX4_readNumber : MethodName := ⟨RX4, "readNumber", "()I"⟩
abbrev cX4_readAny : ByteArray := prog_6_method_11_code
def yX4_readAny : MethodName := ⟨RX4, "readAny", "(I)Z"⟩
abbrev cX4_readBoth : ByteArray := prog_6_method_12_code
def yX4_readBoth : MethodName := ⟨RX4, "readBoth", "(I)Z"⟩
abbrev cX4_readFactor : ByteArray := prog_6_method_13_code
def yX4_readFactor : MethodName := ⟨RX4, "readFactor", "(I)Z"⟩
abbrev cX4_readTest : ByteArray := prog_6_method_14_code
def yX4_readTest : MethodName := ⟨RX4, "readTest", "()Z"⟩
abbrev cX4_worth : ByteArray := prog_6_method_15_code
def yX4_worth : MethodName := ⟨RX4, "worth", "([I)I"⟩
abbrev cX4_holds : ByteArray := prog_6_method_16_code
def yX4_holds : MethodName := ⟨RX4, "holds", "(II[I)Z"⟩
abbrev cX4_passes : ByteArray := prog_6_method_17_code
def yX4_passes : MethodName := ⟨RX4, "passes", "(I[I)Z"⟩
def RX5 : String := "DayKnown"
def TX5 : u_T := fun k => match k with
  | 0 => ("DayKnown", "held", "LDayKnown$Held;", true)
  | 1 => ("DayKnown", "saved", "LDayKnown$Held;", true)
  | 2 => ("DayKnown", "isSaved", "Z", false)
  | 3 => ("DayKnown", "noTown", "LDayKnown$Town;", true)
  | 4 => ("DayKnown", "towns", "[LDayKnown$Town;", true)
  | 5 => ("DayKnown", "now", "LDayKnown$Days;", true)
  | 6 => ("DayKnown", "then", "LDayKnown$Days;", true)
  | 7 => ("DayKnown", "path", "[I", true)
  | _ => ("DayKnown", "acts", "LDayKnown$Acts;", true)
def tyX5 : Nat → FieldType := fun k => match k with
  | 0 => .object "DayKnown$Held"
  | 1 => .object "DayKnown$Held"
  | 2 => .boolean
  | 3 => .object "DayKnown$Town"
  | 4 => .array (.object "DayKnown$Town")
  | 5 => .object "DayKnown$Days"
  | 6 => .object "DayKnown$Days"
  | 7 => .array .int
  | _ => .object "DayKnown$Acts"
abbrev wsX50 : List Cond := u_ws RX5 TX5 9
theorem nmX5 : ∀ a, a < 9 → ∀ b, b < 9 → a ≠ b → (TX5 a).2.1 ≠ (TX5 b).2.1 := by decide +kernel
theorem tyX5_ok : ∀ k, k < 9 → parseFieldDescriptor (TX5 k).2.2.1 = some (tyX5 k) := by decide +kernel
abbrev cX5_init : ByteArray := prog_1_method_1_code
def yX5_init : MethodName := ⟨RX5, "<init>", "()V"⟩
abbrev cX5_feed : ByteArray := prog_1_method_2_code
def yX5_feed : MethodName := ⟨RX5, "feed", "(I)I"⟩
abbrev cX5_town : ByteArray := prog_1_method_3_code
def yX5_town : MethodName := ⟨RX5, "town", "()I"⟩
abbrev cX5_told : ByteArray := prog_1_method_4_code
def yX5_told : MethodName := ⟨RX5, "told", "(I)I"⟩
abbrev cX5_person : ByteArray := prog_1_method_5_code
def yX5_person : MethodName := ⟨RX5, "person", "(II)I"⟩
abbrev cX5_of : ByteArray := prog_1_method_6_code
def yX5_of : MethodName := ⟨RX5, "of", "(II)I"⟩
abbrev cX5_row : ByteArray := prog_1_method_7_code
def yX5_row : MethodName := ⟨RX5, "row", "(II)I"⟩
abbrev cX5_note : ByteArray := prog_1_method_8_code
def yX5_note : MethodName := ⟨RX5, "note", "(IZ)I"⟩
abbrev cX5_yesterday : ByteArray := prog_1_method_9_code
def yX5_yesterday : MethodName := ⟨RX5, "yesterday", "(I)I"⟩
abbrev cX5_by : ByteArray := prog_1_method_10_code
def yX5_by : MethodName := ⟨RX5, "by", "(IIII)I"⟩
abbrev cX5_day : ByteArray := prog_1_method_11_code
def yX5_day : MethodName := ⟨RX5, "day", "(II)I"⟩
abbrev cX5_all : ByteArray := prog_1_method_12_code
def yX5_all : MethodName := ⟨RX5, "all", "(I)I"⟩
abbrev cX5_once : ByteArray := prog_1_method_13_code
def yX5_once : MethodName := ⟨RX5, "once", "(IIII)I"⟩
abbrev cX5_again : ByteArray := prog_1_method_14_code
def yX5_again : MethodName := ⟨RX5, "again", "(II)I"⟩
abbrev cX5_morning : ByteArray := prog_1_method_15_code
def yX5_morning : MethodName := ⟨RX5, "morning", "()I"⟩
abbrev cX5_year : ByteArray := prog_1_method_16_code
def yX5_year : MethodName := ⟨RX5, "year", "(II)I"⟩
abbrev cX5_bet : ByteArray := prog_1_method_17_code
def yX5_bet : MethodName := ⟨RX5, "bet", "(III)I"⟩
abbrev cX5_sure : ByteArray := prog_1_method_18_code
def yX5_sure : MethodName := ⟨RX5, "sure", "()I"⟩
abbrev cX5_secret : ByteArray := prog_1_method_19_code
def yX5_secret : MethodName := ⟨RX5, "secret", "(II)I"⟩
abbrev cX5_swap : ByteArray := prog_1_method_20_code
def yX5_swap : MethodName := ⟨RX5, "swap", "(I)I"⟩
abbrev cX5_book : ByteArray := prog_1_method_21_code
def yX5_book : MethodName := ⟨RX5, "book", "(I)I"⟩
abbrev cX5_looked : ByteArray := prog_1_method_22_code
def yX5_looked : MethodName := ⟨RX5, "looked", "(I)I"⟩
abbrev cX5_act : ByteArray := prog_1_method_23_code
def yX5_act : MethodName := ⟨RX5, "act", "(III)I"⟩
abbrev cX5_trace : ByteArray := prog_1_method_24_code
def yX5_trace : MethodName := ⟨RX5, "trace", "(I)I"⟩
abbrev cX5_as : ByteArray := prog_1_method_25_code
def yX5_as : MethodName := ⟨RX5, "as", "(II)I"⟩
abbrev cX5_image : ByteArray := prog_1_method_26_code
def yX5_image : MethodName := ⟨RX5, "image", "()I"⟩
abbrev cX5_undo : ByteArray := prog_1_method_27_code
def yX5_undo : MethodName := ⟨RX5, "undo", "()I"⟩
abbrev cX5_count : ByteArray := prog_1_method_28_code
def yX5_count : MethodName := ⟨RX5, "count", "(I)I"⟩
abbrev cX5_isHour : ByteArray := prog_1_method_29_code
def yX5_isHour : MethodName := ⟨RX5, "isHour", "(I)Z"⟩
abbrev cX5_isPart : ByteArray := prog_1_method_30_code
def yX5_isPart : MethodName := ⟨RX5, "isPart", "(I)Z"⟩
abbrev cX5_bit : ByteArray := prog_1_method_31_code
def yX5_bit : MethodName := ⟨RX5, "bit", "(II)I"⟩
abbrev cX5_ownRow : ByteArray := prog_1_method_32_code
def yX5_ownRow : MethodName := ⟨RX5, "ownRow", "(II)I"⟩
abbrev cX5_commonDivisor : ByteArray := prog_1_method_33_code
def yX5_commonDivisor : MethodName := ⟨RX5, "commonDivisor", "(II)I"⟩
abbrev cX5_newestTown : ByteArray := prog_1_method_34_code
def yX5_newestTown : MethodName := ⟨RX5, "newestTown", "()LDayKnown$Town;"⟩
abbrev cX5_forgetTowns : ByteArray := prog_1_method_35_code
def yX5_forgetTowns : MethodName := ⟨RX5, "forgetTowns", "()V"⟩
abbrev cX5_searchNow : ByteArray := prog_1_method_36_code
def yX5_searchNow : MethodName := ⟨RX5, "searchNow", "()V"⟩
abbrev cX5_searchThen : ByteArray := prog_1_method_37_code
def yX5_searchThen : MethodName := ⟨RX5, "searchThen", "()V"⟩
abbrev cX5_placeOnPath : ByteArray := prog_1_method_38_code
def yX5_placeOnPath : MethodName := ⟨RX5, "placeOnPath", "(II)I"⟩
abbrev cX5_tellThen : ByteArray := prog_1_method_39_code
def yX5_tellThen : MethodName := ⟨RX5, "tellThen", "(I)V"⟩
abbrev cX5_wouldRather : ByteArray := prog_1_method_40_code
def yX5_wouldRather : MethodName := ⟨RX5, "wouldRather", "(II)Z"⟩
abbrev cX5_isBetterThen : ByteArray := prog_1_method_41_code
def yX5_isBetterThen : MethodName := ⟨RX5, "isBetterThen", "(I)Z"⟩
def RX6 : String := "DayKnownModel"
def TX6 : u_T := fun k => match k with
  | 0 => ("DayKnownModel", "thrown", "I", false)
  | 1 => ("DayKnownModel", "s", "[I", true)
  | 2 => ("DayKnownModel", "image", "[I", true)
  | 3 => ("DayKnownModel", "hasImage", "Z", false)
  | 4 => ("DayKnownModel", "act", "I", false)
  | 5 => ("DayKnownModel", "spot", "I", false)
  | 6 => ("DayKnownModel", "end", "I", false)
  | 7 => ("DayKnownModel", "isWrong", "Z", false)
  | 8 => ("DayKnownModel", "open", "I", false)
  | 9 => ("DayKnownModel", "by", "[I", true)
  | 10 => ("DayKnownModel", "truths", "[Z", true)
  | 11 => ("DayKnownModel", "table", "[I", true)
  | 12 => ("DayKnownModel", "bests", "[I", true)
  | 13 => ("DayKnownModel", "times", "I", false)
  | 14 => ("DayKnownModel", "standing", "I", false)
  | 15 => ("DayKnownModel", "leastDay", "I", false)
  | 16 => ("DayKnownModel", "greatestDay", "I", false)
  | 17 => ("DayKnownModel", "chosen", "I", false)
  | 18 => ("DayKnownModel", "chosenGain", "I", false)
  | 19 => ("DayKnownModel", "came", "[I", true)
  | 20 => ("DayKnownModel", "dayGain", "I", false)
  | 21 => ("DayKnownModel", "noteKept", "[I", true)
  | 22 => ("DayKnownModel", "kept", "[I", true)
  | 23 => ("DayKnownModel", "bodies", "[I", true)
  | 24 => ("DayKnownModel", "ran", "I", false)
  | 25 => ("DayKnownModel", "kind", "I", false)
  | 26 => ("DayKnownModel", "number", "I", false)
  | _ => ("DayKnownModel", "tellsV", "I", false)
def tyX6 : Nat → FieldType := fun k => match k with
  | 0 => .int
  | 1 => .array .int
  | 2 => .array .int
  | 3 => .boolean
  | 4 => .int
  | 5 => .int
  | 6 => .int
  | 7 => .boolean
  | 8 => .int
  | 9 => .array .int
  | 10 => .array .boolean
  | 11 => .array .int
  | 12 => .array .int
  | 13 => .int
  | 14 => .int
  | 15 => .int
  | 16 => .int
  | 17 => .int
  | 18 => .int
  | 19 => .array .int
  | 20 => .int
  | 21 => .array .int
  | 22 => .array .int
  | 23 => .array .int
  | 24 => .int
  | 25 => .int
  | 26 => .int
  | _ => .int
abbrev wsX60 : List Cond := u_ws RX6 TX6 28
theorem nmX6 : ∀ a, a < 28 → ∀ b, b < 28 → a ≠ b → (TX6 a).2.1 ≠ (TX6 b).2.1 := by decide +kernel
theorem tyX6_ok : ∀ k, k < 28 → parseFieldDescriptor (TX6 k).2.2.1 = some (tyX6 k) := by decide +kernel
abbrev cX6_init : ByteArray := prog_8_method_1_code
def yX6_init : MethodName := ⟨RX6, "<init>", "()V"⟩
abbrev cX6_in : ByteArray := prog_8_method_3_code
def yX6_in : MethodName := ⟨RX6, "in", "(III)Z"⟩
abbrev cX6_isPerson : ByteArray := prog_8_method_4_code
def yX6_isPerson : MethodName := ⟨RX6, "isPerson", "(I)Z"⟩
abbrev cX6_isHour : ByteArray := prog_8_method_5_code
def yX6_isHour : MethodName := ⟨RX6, "isHour", "(I)Z"⟩
abbrev cX6_days : ByteArray := prog_8_method_6_code
def yX6_days : MethodName := ⟨RX6, "days", "()I"⟩
abbrev cX6_isDay : ByteArray := prog_8_method_7_code
def yX6_isDay : MethodName := ⟨RX6, "isDay", "(I)Z"⟩
abbrev cX6_does : ByteArray := prog_8_method_8_code
def yX6_does : MethodName := ⟨RX6, "does", "(III)Z"⟩
abbrev cX6_feed : ByteArray := prog_8_method_9_code
def yX6_feed : MethodName := ⟨RX6, "feed", "(I)I"⟩
abbrev cX6_here : ByteArray := prog_8_method_10_code
def yX6_here : MethodName := ⟨RX6, "here", "()I"⟩
abbrev cX6_must : ByteArray := prog_8_method_11_code
def yX6_must : MethodName := ⟨RX6, "must", "(I)V"⟩
abbrev cX6_spells : ByteArray := prog_8_method_12_code
def yX6_spells : MethodName := ⟨RX6, "spells", "(Ljava/lang/String;)V"⟩
abbrev cX6_figures : ByteArray := prog_8_method_13_code
def yX6_figures : MethodName := ⟨RX6, "figures", "()I"⟩
abbrev cX6_among : ByteArray := prog_8_method_14_code
def yX6_among : MethodName := ⟨RX6, "among", "(Ljava/lang/String;)I"⟩
abbrev cX6_emits : ByteArray := prog_8_method_15_code
def yX6_emits : MethodName := ⟨RX6, "emits", "(I)V"⟩
abbrev cX6_factor : ByteArray := prog_8_method_16_code
def yX6_factor : MethodName := ⟨RX6, "factor", "()V"⟩
abbrev cX6_every : ByteArray := prog_8_method_17_code
def yX6_every : MethodName := ⟨RX6, "every", "()V"⟩
abbrev cX6_some : ByteArray := prog_8_method_18_code
def yX6_some : MethodName := ⟨RX6, "some", "()V"⟩
abbrev cX6_much : ByteArray := prog_8_method_19_code
def yX6_much : MethodName := ⟨RX6, "much", "(ILjava/lang/String;)V"⟩
abbrev cX6_clauseHere : ByteArray := prog_8_method_20_code
def yX6_clauseHere : MethodName := ⟨RX6, "clauseHere", "()V"⟩
abbrev cX6_town : ByteArray := prog_8_method_21_code
def yX6_town : MethodName := ⟨RX6, "town", "()I"⟩
abbrev cX6_tellsOf : ByteArray := prog_8_method_22_code
def yX6_tellsOf : MethodName := ⟨RX6, "tellsOf", "(I)I"⟩
abbrev cX6_worthBy : ByteArray := prog_8_method_23_code
def yX6_worthBy : MethodName := ⟨RX6, "worthBy", "()I"⟩
abbrev cX6_looksAt : ByteArray := prog_8_method_24_code
def yX6_looksAt : MethodName := ⟨RX6, "looksAt", "(I)V"⟩
abbrev cX6_looks : ByteArray := prog_8_method_25_code
def yX6_looks : MethodName := ⟨RX6, "looks", "()V"⟩
abbrev cX6_others : ByteArray := prog_8_method_26_code
def yX6_others : MethodName := ⟨RX6, "others", "(III)I"⟩
abbrev cX6_worthOf : ByteArray := prog_8_method_27_code
def yX6_worthOf : MethodName := ⟨RX6, "worthOf", "(III)I"⟩
abbrev cX6_gainOf : ByteArray := prog_8_method_28_code
def yX6_gainOf : MethodName := ⟨RX6, "gainOf", "(II)I"⟩
abbrev cX6_gainOfAll : ByteArray := prog_8_method_29_code
def yX6_gainOfAll : MethodName := ⟨RX6, "gainOfAll", "(I)I"⟩
abbrev cX6_told : ByteArray := prog_8_method_30_code
def yX6_told : MethodName := ⟨RX6, "told", "(I)I"⟩
abbrev cX6_person : ByteArray := prog_8_method_31_code
def yX6_person : MethodName := ⟨RX6, "person", "(II)I"⟩
abbrev cX6_of : ByteArray := prog_8_method_32_code
def yX6_of : MethodName := ⟨RX6, "of", "(II)I"⟩
abbrev cX6_row : ByteArray := prog_8_method_33_code
def yX6_row : MethodName := ⟨RX6, "row", "(II)I"⟩
abbrev cX6_note : ByteArray := prog_8_method_34_code
def yX6_note : MethodName := ⟨RX6, "note", "(IZ)I"⟩
abbrev cX6_yesterday : ByteArray := prog_8_method_35_code
def yX6_yesterday : MethodName := ⟨RX6, "yesterday", "(I)I"⟩
abbrev cX6_withOwn : ByteArray := prog_8_method_36_code
def yX6_withOwn : MethodName := ⟨RX6, "withOwn", "(III)I"⟩
abbrev cX6_bestOwn : ByteArray := prog_8_method_37_code
def yX6_bestOwn : MethodName := ⟨RX6, "bestOwn", "(II)I"⟩
abbrev cX6_isStrange : ByteArray := prog_8_method_38_code
def yX6_isStrange : MethodName := ⟨RX6, "isStrange", "(II)Z"⟩
abbrev cX6_wouldPlainly : ByteArray := prog_8_method_39_code
def yX6_wouldPlainly : MethodName := ⟨RX6, "wouldPlainly", "(III)Z"⟩
abbrev cX6_would : ByteArray := prog_8_method_40_code
def yX6_would : MethodName := ⟨RX6, "would", "(III)Z"⟩
abbrev cX6_answerTo : ByteArray := prog_8_method_41_code
def yX6_answerTo : MethodName := ⟨RX6, "answerTo", "(I)I"⟩
abbrev cX6_firstOtherwise : ByteArray := prog_8_method_42_code
def yX6_firstOtherwise : MethodName := ⟨RX6, "firstOtherwise", "(I)I"⟩
abbrev cX6_stands : ByteArray := prog_8_method_43_code
def yX6_stands : MethodName := ⟨RX6, "stands", "(I)Z"⟩
abbrev cX6_by : ByteArray := prog_8_method_44_code
def yX6_by : MethodName := ⟨RX6, "by", "(IIII)I"⟩
abbrev cX6_day : ByteArray := prog_8_method_45_code
def yX6_day : MethodName := ⟨RX6, "day", "(II)I"⟩
abbrev cX6_looksThrough : ByteArray := prog_8_method_46_code
def yX6_looksThrough : MethodName := ⟨RX6, "looksThrough", "()V"⟩
abbrev cX6_all : ByteArray := prog_8_method_47_code
def yX6_all : MethodName := ⟨RX6, "all", "(I)I"⟩
abbrev cX6_once : ByteArray := prog_8_method_48_code
def yX6_once : MethodName := ⟨RX6, "once", "(IIII)I"⟩
abbrev cX6_again : ByteArray := prog_8_method_49_code
def yX6_again : MethodName := ⟨RX6, "again", "(II)I"⟩
abbrev cX6_morningComes : ByteArray := prog_8_method_50_code
def yX6_morningComes : MethodName := ⟨RX6, "morningComes", "()I"⟩
abbrev cX6_morning : ByteArray := prog_8_method_51_code
def yX6_morning : MethodName := ⟨RX6, "morning", "()I"⟩
abbrev cX6_year : ByteArray := prog_8_method_52_code
def yX6_year : MethodName := ⟨RX6, "year", "(II)I"⟩
abbrev cX6_divisor : ByteArray := prog_8_method_53_code
def yX6_divisor : MethodName := ⟨RX6, "divisor", "(II)I"⟩
abbrev cX6_bet : ByteArray := prog_8_method_54_code
def yX6_bet : MethodName := ⟨RX6, "bet", "(III)I"⟩
abbrev cX6_keeps : ByteArray := prog_8_method_55_code
def yX6_keeps : MethodName := ⟨RX6, "keeps", "()V"⟩
abbrev cX6_goesBack : ByteArray := prog_8_method_56_code
def yX6_goesBack : MethodName := ⟨RX6, "goesBack", "()V"⟩
abbrev cX6_count1 : ByteArray := prog_8_method_57_code
def yX6_count1 : MethodName := ⟨RX6, "count1", "(I)I"⟩
abbrev cX6_sure : ByteArray := prog_8_method_58_code
def yX6_sure : MethodName := ⟨RX6, "sure", "()I"⟩
abbrev cX6_secret : ByteArray := prog_8_method_59_code
def yX6_secret : MethodName := ⟨RX6, "secret", "(II)I"⟩
abbrev cX6_isGood : ByteArray := prog_8_method_60_code
def yX6_isGood : MethodName := ⟨RX6, "isGood", "(III)Z"⟩
abbrev cX6_swap : ByteArray := prog_8_method_61_code
def yX6_swap : MethodName := ⟨RX6, "swap", "(I)I"⟩
abbrev cX6_book : ByteArray := prog_8_method_62_code
def yX6_book : MethodName := ⟨RX6, "book", "(I)I"⟩
abbrev cX6_looked : ByteArray := prog_8_method_63_code
def yX6_looked : MethodName := ⟨RX6, "looked", "(I)I"⟩
abbrev cX6_runs : ByteArray := prog_8_method_64_code
def yX6_runs : MethodName := ⟨RX6, "runs", "(I)V"⟩
abbrev cX6_isUnder : ByteArray := prog_8_method_65_code
def yX6_isUnder : MethodName := ⟨RX6, "isUnder", "(II)Z"⟩
abbrev cX6_plainKnows : ByteArray := prog_8_method_66_code
def yX6_plainKnows : MethodName := ⟨RX6, "plainKnows", "(I)I"⟩
abbrev cX6_knowsActs : ByteArray := prog_8_method_67_code
def yX6_knowsActs : MethodName := ⟨RX6, "knowsActs", "(I)I"⟩
abbrev cX6_plainDoes : ByteArray := prog_8_method_68_code
def yX6_plainDoes : MethodName := ⟨RX6, "plainDoes", "(I)I"⟩
abbrev cX6_doesActs : ByteArray := prog_8_method_69_code
def yX6_doesActs : MethodName := ⟨RX6, "doesActs", "(I)I"⟩
abbrev cX6_plainTells : ByteArray := prog_8_method_70_code
def yX6_plainTells : MethodName := ⟨RX6, "plainTells", "(I)I"⟩
abbrev cX6_tellsActs : ByteArray := prog_8_method_71_code
def yX6_tellsActs : MethodName := ⟨RX6, "tellsActs", "(I)I"⟩
abbrev cX6_act : ByteArray := prog_8_method_72_code
def yX6_act : MethodName := ⟨RX6, "act", "(III)I"⟩
abbrev cX6_trace : ByteArray := prog_8_method_73_code
def yX6_trace : MethodName := ⟨RX6, "trace", "(I)I"⟩
abbrev cX6_as : ByteArray := prog_8_method_74_code
def yX6_as : MethodName := ⟨RX6, "as", "(II)I"⟩
abbrev cX6_image : ByteArray := prog_8_method_75_code
def yX6_image : MethodName := ⟨RX6, "image", "()I"⟩
abbrev cX6_undo : ByteArray := prog_8_method_76_code
def yX6_undo : MethodName := ⟨RX6, "undo", "()I"⟩
abbrev cX6_count : ByteArray := prog_8_method_77_code
def yX6_count : MethodName := ⟨RX6, "count", "(I)I"⟩
def RJ6 : String := "java/lang/Integer"
def TJ6 : u_T := fun k => match k with
  | _ => ("", "", "", false)
def tyJ6 : Nat → FieldType := fun k => match k with
  | _ => .int
abbrev wsJ60 : List Cond := u_ws RJ6 TJ6 0
theorem nmJ6 : ∀ a, a < 0 → ∀ b, b < 0 → a ≠ b → (TJ6 a).2.1 ≠ (TJ6 b).2.1 := by decide +kernel
theorem tyJ6_ok : ∀ k, k < 0 → parseFieldDescriptor (TJ6 k).2.2.1 = some (tyJ6 k) := by decide +kernel
abbrev cJ6_bitCount_0f7a4 : ByteArray := prog_9_method_49_code
def yJ6_bitCount_0f7a4 : MethodName := ⟨RJ6, "bitCount", "(I)I"⟩
def RJ9 : String := "java/lang/Math"
def TJ9 : u_T := fun k => match k with
  | _ => ("", "", "", false)
def tyJ9 : Nat → FieldType := fun k => match k with
  | _ => .int
abbrev wsJ90 : List Cond := u_ws RJ9 TJ9 0
theorem nmJ9 : ∀ a, a < 0 → ∀ b, b < 0 → a ≠ b → (TJ9 a).2.1 ≠ (TJ9 b).2.1 := by decide +kernel
theorem tyJ9_ok : ∀ k, k < 0 → parseFieldDescriptor (TJ9 k).2.2.1 = some (tyJ9 k) := by decide +kernel
abbrev cJ9_max_7cf53 : ByteArray := prog_10_method_65_code
def yJ9_max_7cf53 : MethodName := ⟨RJ9, "max", "(II)I"⟩
abbrev cJ9_min_7cf53 : ByteArray := prog_10_method_69_code
def yJ9_min_7cf53 : MethodName := ⟨RJ9, "min", "(II)I"⟩
def RJ0 : String := "java/lang/String"
def TJ0 : u_T := fun k => match k with
  | _ => ("", "", "", false)
def tyJ0 : Nat → FieldType := fun k => match k with
  | _ => .int
abbrev wsJ00 : List Cond := u_ws RJ0 TJ0 0
theorem nmJ0 : ∀ a, a < 0 → ∀ b, b < 0 → a ≠ b → (TJ0 a).2.1 ≠ (TJ0 b).2.1 := by decide +kernel
theorem tyJ0_ok : ∀ k, k < 0 → parseFieldDescriptor (TJ0 k).2.2.1 = some (tyJ0 k) := by decide +kernel
abbrev cJ0_length_8abf5 : ByteArray := prog_11_method_54_code
def yJ0_length_8abf5 : MethodName := ⟨RJ0, "length", "()I"⟩
abbrev cJ0_charAt_5068e : ByteArray := prog_11_method_56_code
def yJ0_charAt_5068e : MethodName := ⟨RJ0, "charAt", "(I)C"⟩
abbrev cJ0_coder_7d493 : ByteArray := prog_11_method_152_code
def yJ0_coder_7d493 : MethodName := ⟨RJ0, "coder", "()B"⟩
abbrev cJ0_isLatin1_aae02 : ByteArray := prog_11_method_154_code
def yJ0_isLatin1_aae02 : MethodName := ⟨RJ0, "isLatin1", "()Z"⟩
abbrev cJ0_checkIndex_df160 : ByteArray := prog_11_method_155_code
def yJ0_checkIndex_df160 : MethodName := ⟨RJ0, "checkIndex", "(II)V"⟩
def RJ1 : String := "java/lang/StringLatin1"
def TJ1 : u_T := fun k => match k with
  | _ => ("", "", "", false)
def tyJ1 : Nat → FieldType := fun k => match k with
  | _ => .int
abbrev wsJ10 : List Cond := u_ws RJ1 TJ1 0
theorem nmJ1 : ∀ a, a < 0 → ∀ b, b < 0 → a ≠ b → (TJ1 a).2.1 ≠ (TJ1 b).2.1 := by decide +kernel
theorem tyJ1_ok : ∀ k, k < 0 → parseFieldDescriptor (TJ1 k).2.2.1 = some (tyJ1 k) := by decide +kernel
abbrev cJ1_charAt_3b067 : ByteArray := prog_12_method_2_code
def yJ1_charAt_3b067 : MethodName := ⟨RJ1, "charAt", "([BI)C"⟩
def RJ2 : String := "java/lang/StringUTF16"
def TJ2 : u_T := fun k => match k with
  | _ => ("", "", "", false)
def tyJ2 : Nat → FieldType := fun k => match k with
  | _ => .int
abbrev wsJ20 : List Cond := u_ws RJ2 TJ2 0
theorem nmJ2 : ∀ a, a < 0 → ∀ b, b < 0 → a ≠ b → (TJ2 a).2.1 ≠ (TJ2 b).2.1 := by decide +kernel
theorem tyJ2_ok : ∀ k, k < 0 → parseFieldDescriptor (TJ2 k).2.2.1 = some (tyJ2 k) := by decide +kernel
abbrev cJ2_getChar_3b067 : ByteArray := prog_13_method_5_code
def yJ2_getChar_3b067 : MethodName := ⟨RJ2, "getChar", "([BI)C"⟩
abbrev cJ2_length_9d52b : ByteArray := prog_13_method_6_code
def yJ2_length_9d52b : MethodName := ⟨RJ2, "length", "([B)I"⟩
abbrev cJ2_charAt_3b067 : ByteArray := prog_13_method_83_code
def yJ2_charAt_3b067 : MethodName := ⟨RJ2, "charAt", "([BI)C"⟩
abbrev cJ2_checkIndex_2214a : ByteArray := prog_13_method_91_code
def yJ2_checkIndex_2214a : MethodName := ⟨RJ2, "checkIndex", "(I[B)V"⟩
def RJ10 : String := "java/lang/System"
def TJ10 : u_T := fun k => match k with
  | _ => ("", "", "", false)
def tyJ10 : Nat → FieldType := fun k => match k with
  | _ => .int
abbrev wsJ100 : List Cond := u_ws RJ10 TJ10 0
theorem nmJ10 : ∀ a, a < 0 → ∀ b, b < 0 → a ≠ b → (TJ10 a).2.1 ≠ (TJ10 b).2.1 := by decide +kernel
theorem tyJ10_ok : ∀ k, k < 0 → parseFieldDescriptor (TJ10 k).2.2.1 = some (tyJ10 k) := by decide +kernel
def RJ3 : String := "jdk/internal/util/Preconditions"
def TJ3 : u_T := fun k => match k with
  | _ => ("", "", "", false)
def tyJ3 : Nat → FieldType := fun k => match k with
  | _ => .int
abbrev wsJ30 : List Cond := u_ws RJ3 TJ3 0
theorem nmJ3 : ∀ a, a < 0 → ∀ b, b < 0 → a ≠ b → (TJ3 a).2.1 ≠ (TJ3 b).2.1 := by decide +kernel
theorem tyJ3_ok : ∀ k, k < 0 → parseFieldDescriptor (TJ3 k).2.2.1 = some (tyJ3 k) := by decide +kernel
abbrev cJ3_checkIndex_8e157 : ByteArray := prog_15_method_11_code
def yJ3_checkIndex_8e157 : MethodName := ⟨RJ3, "checkIndex", "(IILjava/util/function/BiFunction;)I"⟩
def RL : String := "DayKnownLaw"
abbrev cL_law : ByteArray := code
def yL_law : MethodName := ⟨RL, "law", "([I)Z"⟩
