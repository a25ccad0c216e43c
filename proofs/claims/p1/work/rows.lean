section
-- ===== PART A: goes FIRST, ahead of the names: the tables' words, and 'selects' of the private methods out of them =====
/-- a private method of a class that the tables say can be made, by its rows of tables_1 -/
def lw_okq (q : MethodName × Nat) : Prop := (q.1.cls ≠ "java/lang/invoke/MethodHandle" ∧ q.1.cls ≠ "java/lang/invoke/VarHandle") ∧ Cond.instantiable q.1.cls q.2 ∈ tables_1 ∧ Cond.privateMethod q.1 ∈ tables_1 ∧ Cond.instanceMethod q.1 ∈ tables_1
theorem lw_p0 : lw_okq (⟨"DayKnown$Town", "read", "([II)I"⟩, 9) := ⟨⟨by decide +kernel, by decide +kernel⟩, List.mem_of_getElem? (i := 95) (by decide +kernel), List.mem_of_getElem? (i := 244) (by decide +kernel), List.mem_of_getElem? (i := 245) (by decide +kernel)⟩
theorem lw_p1 : lw_okq (⟨"DayKnown$Town", "readClause", "()Z"⟩, 9) := ⟨⟨by decide +kernel, by decide +kernel⟩, List.mem_of_getElem? (i := 95) (by decide +kernel), List.mem_of_getElem? (i := 257) (by decide +kernel), List.mem_of_getElem? (i := 258) (by decide +kernel)⟩
theorem lw_p2 : lw_okq (⟨"DayKnown$Town", "sign", "()I"⟩, 9) := ⟨⟨by decide +kernel, by decide +kernel⟩, List.mem_of_getElem? (i := 95) (by decide +kernel), List.mem_of_getElem? (i := 261) (by decide +kernel), List.mem_of_getElem? (i := 262) (by decide +kernel)⟩
theorem lw_p3 : lw_okq (⟨"DayKnown$Town", "takeWord", "(Ljava/lang/String;)Z"⟩, 9) := ⟨⟨by decide +kernel, by decide +kernel⟩, List.mem_of_getElem? (i := 95) (by decide +kernel), List.mem_of_getElem? (i := 268) (by decide +kernel), List.mem_of_getElem? (i := 269) (by decide +kernel)⟩
theorem lw_p4 : lw_okq (⟨"DayKnown$Town", "take", "(I)Z"⟩, 9) := ⟨⟨by decide +kernel, by decide +kernel⟩, List.mem_of_getElem? (i := 95) (by decide +kernel), List.mem_of_getElem? (i := 320) (by decide +kernel), List.mem_of_getElem? (i := 321) (by decide +kernel)⟩
theorem lw_p5 : lw_okq (⟨"DayKnown$Town", "readNumber", "()I"⟩, 9) := ⟨⟨by decide +kernel, by decide +kernel⟩, List.mem_of_getElem? (i := 95) (by decide +kernel), List.mem_of_getElem? (i := 324) (by decide +kernel), List.mem_of_getElem? (i := 325) (by decide +kernel)⟩
theorem lw_p6 : lw_okq (⟨"DayKnown$Town", "takeOneOf", "(Ljava/lang/String;)I"⟩, 9) := ⟨⟨by decide +kernel, by decide +kernel⟩, List.mem_of_getElem? (i := 95) (by decide +kernel), List.mem_of_getElem? (i := 329) (by decide +kernel), List.mem_of_getElem? (i := 330) (by decide +kernel)⟩
theorem lw_p7 : lw_okq (⟨"DayKnown$Town", "readAny", "(I)Z"⟩, 9) := ⟨⟨by decide +kernel, by decide +kernel⟩, List.mem_of_getElem? (i := 95) (by decide +kernel), List.mem_of_getElem? (i := 333) (by decide +kernel), List.mem_of_getElem? (i := 334) (by decide +kernel)⟩
theorem lw_p8 : lw_okq (⟨"DayKnown$Town", "readBoth", "(I)Z"⟩, 9) := ⟨⟨by decide +kernel, by decide +kernel⟩, List.mem_of_getElem? (i := 95) (by decide +kernel), List.mem_of_getElem? (i := 337) (by decide +kernel), List.mem_of_getElem? (i := 338) (by decide +kernel)⟩
theorem lw_p9 : lw_okq (⟨"DayKnown$Town", "readFactor", "(I)Z"⟩, 9) := ⟨⟨by decide +kernel, by decide +kernel⟩, List.mem_of_getElem? (i := 95) (by decide +kernel), List.mem_of_getElem? (i := 341) (by decide +kernel), List.mem_of_getElem? (i := 342) (by decide +kernel)⟩
theorem lw_p10 : lw_okq (⟨"DayKnown$Town", "readTest", "()Z"⟩, 9) := ⟨⟨by decide +kernel, by decide +kernel⟩, List.mem_of_getElem? (i := 95) (by decide +kernel), List.mem_of_getElem? (i := 345) (by decide +kernel), List.mem_of_getElem? (i := 346) (by decide +kernel)⟩
theorem lw_p11 : lw_okq (⟨"DayKnown$Town", "keepCode", "(I)V"⟩, 9) := ⟨⟨by decide +kernel, by decide +kernel⟩, List.mem_of_getElem? (i := 95) (by decide +kernel), List.mem_of_getElem? (i := 351) (by decide +kernel), List.mem_of_getElem? (i := 352) (by decide +kernel)⟩
theorem lw_p12 : lw_okq (⟨"DayKnown$Town", "keepClause", "(I)V"⟩, 9) := ⟨⟨by decide +kernel, by decide +kernel⟩, List.mem_of_getElem? (i := 95) (by decide +kernel), List.mem_of_getElem? (i := 355) (by decide +kernel), List.mem_of_getElem? (i := 356) (by decide +kernel)⟩
theorem lw_p13 : lw_okq (⟨"DayKnown", "forgetTowns", "()V"⟩, 9) := ⟨⟨by decide +kernel, by decide +kernel⟩, List.mem_of_getElem? (i := 16) (by decide +kernel), List.mem_of_getElem? (i := 359) (by decide +kernel), List.mem_of_getElem? (i := 360) (by decide +kernel)⟩
theorem lw_p14 : lw_okq (⟨"DayKnown$Days", "forgetTown", "()V"⟩, 12) := ⟨⟨by decide +kernel, by decide +kernel⟩, List.mem_of_getElem? (i := 131) (by decide +kernel), List.mem_of_getElem? (i := 363) (by decide +kernel), List.mem_of_getElem? (i := 364) (by decide +kernel)⟩
theorem lw_p15 : lw_okq (⟨"DayKnown$Days", "forget", "()V"⟩, 12) := ⟨⟨by decide +kernel, by decide +kernel⟩, List.mem_of_getElem? (i := 131) (by decide +kernel), List.mem_of_getElem? (i := 367) (by decide +kernel), List.mem_of_getElem? (i := 368) (by decide +kernel)⟩
def lw_privs_1 : List (MethodName × Nat) := [(⟨"DayKnown$Town", "read", "([II)I"⟩, 9), (⟨"DayKnown$Town", "readClause", "()Z"⟩, 9), (⟨"DayKnown$Town", "sign", "()I"⟩, 9), (⟨"DayKnown$Town", "takeWord", "(Ljava/lang/String;)Z"⟩, 9), (⟨"DayKnown$Town", "take", "(I)Z"⟩, 9), (⟨"DayKnown$Town", "readNumber", "()I"⟩, 9), (⟨"DayKnown$Town", "takeOneOf", "(Ljava/lang/String;)I"⟩, 9), (⟨"DayKnown$Town", "readAny", "(I)Z"⟩, 9), (⟨"DayKnown$Town", "readBoth", "(I)Z"⟩, 9), (⟨"DayKnown$Town", "readFactor", "(I)Z"⟩, 9), (⟨"DayKnown$Town", "readTest", "()Z"⟩, 9), (⟨"DayKnown$Town", "keepCode", "(I)V"⟩, 9), (⟨"DayKnown$Town", "keepClause", "(I)V"⟩, 9), (⟨"DayKnown", "forgetTowns", "()V"⟩, 9), (⟨"DayKnown$Days", "forgetTown", "()V"⟩, 12), (⟨"DayKnown$Days", "forget", "()V"⟩, 12)]
theorem lw_r1 : ∀ q ∈ lw_privs_1, lw_okq q := List.forall_mem_cons.mpr ⟨lw_p0, List.forall_mem_cons.mpr ⟨lw_p1, List.forall_mem_cons.mpr ⟨lw_p2, List.forall_mem_cons.mpr ⟨lw_p3, List.forall_mem_cons.mpr ⟨lw_p4, List.forall_mem_cons.mpr ⟨lw_p5, List.forall_mem_cons.mpr ⟨lw_p6, List.forall_mem_cons.mpr ⟨lw_p7, List.forall_mem_cons.mpr ⟨lw_p8, List.forall_mem_cons.mpr ⟨lw_p9, List.forall_mem_cons.mpr ⟨lw_p10, List.forall_mem_cons.mpr ⟨lw_p11, List.forall_mem_cons.mpr ⟨lw_p12, List.forall_mem_cons.mpr ⟨lw_p13, List.forall_mem_cons.mpr ⟨lw_p14, List.forall_mem_cons.mpr ⟨lw_p15, fun _ h => absurd h List.not_mem_nil⟩⟩⟩⟩⟩⟩⟩⟩⟩⟩⟩⟩⟩⟩⟩⟩
theorem lw_p16 : lw_okq (⟨"DayKnown", "newestTown", "()LDayKnown$Town;"⟩, 9) := ⟨⟨by decide +kernel, by decide +kernel⟩, List.mem_of_getElem? (i := 16) (by decide +kernel), List.mem_of_getElem? (i := 376) (by decide +kernel), List.mem_of_getElem? (i := 377) (by decide +kernel)⟩
theorem lw_p17 : lw_okq (⟨"DayKnown$Folk", "join", "(II)I"⟩, 6) := ⟨⟨by decide +kernel, by decide +kernel⟩, List.mem_of_getElem? (i := 30) (by decide +kernel), List.mem_of_getElem? (i := 384) (by decide +kernel), List.mem_of_getElem? (i := 385) (by decide +kernel)⟩
theorem lw_p18 : lw_okq (⟨"DayKnown$Folk", "putNote", "(IZ)V"⟩, 6) := ⟨⟨by decide +kernel, by decide +kernel⟩, List.mem_of_getElem? (i := 30) (by decide +kernel), List.mem_of_getElem? (i := 388) (by decide +kernel), List.mem_of_getElem? (i := 389) (by decide +kernel)⟩
theorem lw_p19 : lw_okq (⟨"DayKnown$Folk", "has", "(I)Z"⟩, 6) := ⟨⟨by decide +kernel, by decide +kernel⟩, List.mem_of_getElem? (i := 30) (by decide +kernel), List.mem_of_getElem? (i := 397) (by decide +kernel), List.mem_of_getElem? (i := 398) (by decide +kernel)⟩
theorem lw_p20 : lw_okq (⟨"DayKnown$Folk", "noteOf", "(I)I"⟩, 6) := ⟨⟨by decide +kernel, by decide +kernel⟩, List.mem_of_getElem? (i := 30) (by decide +kernel), List.mem_of_getElem? (i := 401) (by decide +kernel), List.mem_of_getElem? (i := 402) (by decide +kernel)⟩
theorem lw_p21 : lw_okq (⟨"DayKnown$Folk", "isDay", "(I)Z"⟩, 6) := ⟨⟨by decide +kernel, by decide +kernel⟩, List.mem_of_getElem? (i := 30) (by decide +kernel), List.mem_of_getElem? (i := 418) (by decide +kernel), List.mem_of_getElem? (i := 419) (by decide +kernel)⟩
theorem lw_p22 : lw_okq (⟨"DayKnown$Folk", "allDays", "()I"⟩, 6) := ⟨⟨by decide +kernel, by decide +kernel⟩, List.mem_of_getElem? (i := 30) (by decide +kernel), List.mem_of_getElem? (i := 422) (by decide +kernel), List.mem_of_getElem? (i := 423) (by decide +kernel)⟩
theorem lw_p23 : lw_okq (⟨"DayKnown$Days", "prepare", "(LDayKnown$Town;)V"⟩, 12) := ⟨⟨by decide +kernel, by decide +kernel⟩, List.mem_of_getElem? (i := 131) (by decide +kernel), List.mem_of_getElem? (i := 433) (by decide +kernel), List.mem_of_getElem? (i := 434) (by decide +kernel)⟩
theorem lw_p24 : lw_okq (⟨"DayKnown$Days", "fillWorths", "(ILDayKnown$Town;)V"⟩, 12) := ⟨⟨by decide +kernel, by decide +kernel⟩, List.mem_of_getElem? (i := 131) (by decide +kernel), List.mem_of_getElem? (i := 437) (by decide +kernel), List.mem_of_getElem? (i := 438) (by decide +kernel)⟩
theorem lw_p25 : lw_okq (⟨"DayKnown$Town", "worth", "([I)I"⟩, 9) := ⟨⟨by decide +kernel, by decide +kernel⟩, List.mem_of_getElem? (i := 95) (by decide +kernel), List.mem_of_getElem? (i := 441) (by decide +kernel), List.mem_of_getElem? (i := 442) (by decide +kernel)⟩
theorem lw_p26 : lw_okq (⟨"DayKnown$Town", "holds", "(II[I)Z"⟩, 9) := ⟨⟨by decide +kernel, by decide +kernel⟩, List.mem_of_getElem? (i := 95) (by decide +kernel), List.mem_of_getElem? (i := 445) (by decide +kernel), List.mem_of_getElem? (i := 446) (by decide +kernel)⟩
theorem lw_p27 : lw_okq (⟨"DayKnown$Days", "sightOf", "(II)I"⟩, 12) := ⟨⟨by decide +kernel, by decide +kernel⟩, List.mem_of_getElem? (i := 131) (by decide +kernel), List.mem_of_getElem? (i := 452) (by decide +kernel), List.mem_of_getElem? (i := 453) (by decide +kernel)⟩
theorem lw_p28 : lw_okq (⟨"DayKnown$Days", "rowAt", "(III)I"⟩, 12) := ⟨⟨by decide +kernel, by decide +kernel⟩, List.mem_of_getElem? (i := 131) (by decide +kernel), List.mem_of_getElem? (i := 465) (by decide +kernel), List.mem_of_getElem? (i := 466) (by decide +kernel)⟩
theorem lw_p29 : lw_okq (⟨"DayKnown$Days", "bestRow", "(II)I"⟩, 12) := ⟨⟨by decide +kernel, by decide +kernel⟩, List.mem_of_getElem? (i := 131) (by decide +kernel), List.mem_of_getElem? (i := 469) (by decide +kernel), List.mem_of_getElem? (i := 470) (by decide +kernel)⟩
theorem lw_p30 : lw_okq (⟨"DayKnown$Days", "gain", "(II)I"⟩, 12) := ⟨⟨by decide +kernel, by decide +kernel⟩, List.mem_of_getElem? (i := 131) (by decide +kernel), List.mem_of_getElem? (i := 473) (by decide +kernel), List.mem_of_getElem? (i := 474) (by decide +kernel)⟩
theorem lw_p31 : lw_okq (⟨"DayKnown$Days", "worth", "(III)I"⟩, 12) := ⟨⟨by decide +kernel, by decide +kernel⟩, List.mem_of_getElem? (i := 131) (by decide +kernel), List.mem_of_getElem? (i := 480) (by decide +kernel), List.mem_of_getElem? (i := 481) (by decide +kernel)⟩
def lw_privs_2 : List (MethodName × Nat) := [(⟨"DayKnown", "newestTown", "()LDayKnown$Town;"⟩, 9), (⟨"DayKnown$Folk", "join", "(II)I"⟩, 6), (⟨"DayKnown$Folk", "putNote", "(IZ)V"⟩, 6), (⟨"DayKnown$Folk", "has", "(I)Z"⟩, 6), (⟨"DayKnown$Folk", "noteOf", "(I)I"⟩, 6), (⟨"DayKnown$Folk", "isDay", "(I)Z"⟩, 6), (⟨"DayKnown$Folk", "allDays", "()I"⟩, 6), (⟨"DayKnown$Days", "prepare", "(LDayKnown$Town;)V"⟩, 12), (⟨"DayKnown$Days", "fillWorths", "(ILDayKnown$Town;)V"⟩, 12), (⟨"DayKnown$Town", "worth", "([I)I"⟩, 9), (⟨"DayKnown$Town", "holds", "(II[I)Z"⟩, 9), (⟨"DayKnown$Days", "sightOf", "(II)I"⟩, 12), (⟨"DayKnown$Days", "rowAt", "(III)I"⟩, 12), (⟨"DayKnown$Days", "bestRow", "(II)I"⟩, 12), (⟨"DayKnown$Days", "gain", "(II)I"⟩, 12), (⟨"DayKnown$Days", "worth", "(III)I"⟩, 12)]
theorem lw_r2 : ∀ q ∈ lw_privs_2, lw_okq q := List.forall_mem_cons.mpr ⟨lw_p16, List.forall_mem_cons.mpr ⟨lw_p17, List.forall_mem_cons.mpr ⟨lw_p18, List.forall_mem_cons.mpr ⟨lw_p19, List.forall_mem_cons.mpr ⟨lw_p20, List.forall_mem_cons.mpr ⟨lw_p21, List.forall_mem_cons.mpr ⟨lw_p22, List.forall_mem_cons.mpr ⟨lw_p23, List.forall_mem_cons.mpr ⟨lw_p24, List.forall_mem_cons.mpr ⟨lw_p25, List.forall_mem_cons.mpr ⟨lw_p26, List.forall_mem_cons.mpr ⟨lw_p27, List.forall_mem_cons.mpr ⟨lw_p28, List.forall_mem_cons.mpr ⟨lw_p29, List.forall_mem_cons.mpr ⟨lw_p30, List.forall_mem_cons.mpr ⟨lw_p31, fun _ h => absurd h List.not_mem_nil⟩⟩⟩⟩⟩⟩⟩⟩⟩⟩⟩⟩⟩⟩⟩⟩
theorem lw_p32 : lw_okq (⟨"DayKnown$Days", "would", "(IIII)Z"⟩, 12) := ⟨⟨by decide +kernel, by decide +kernel⟩, List.mem_of_getElem? (i := 131) (by decide +kernel), List.mem_of_getElem? (i := 484) (by decide +kernel), List.mem_of_getElem? (i := 485) (by decide +kernel)⟩
theorem lw_p33 : lw_okq (⟨"DayKnown$Days", "answerOf", "(II)I"⟩, 12) := ⟨⟨by decide +kernel, by decide +kernel⟩, List.mem_of_getElem? (i := 131) (by decide +kernel), List.mem_of_getElem? (i := 490) (by decide +kernel), List.mem_of_getElem? (i := 491) (by decide +kernel)⟩
theorem lw_p34 : lw_okq (⟨"DayKnown$Days", "firstOtherwise", "(I)I"⟩, 12) := ⟨⟨by decide +kernel, by decide +kernel⟩, List.mem_of_getElem? (i := 131) (by decide +kernel), List.mem_of_getElem? (i := 501) (by decide +kernel), List.mem_of_getElem? (i := 502) (by decide +kernel)⟩
theorem lw_p35 : lw_okq (⟨"DayKnown$Days", "answer", "(I)I"⟩, 12) := ⟨⟨by decide +kernel, by decide +kernel⟩, List.mem_of_getElem? (i := 131) (by decide +kernel), List.mem_of_getElem? (i := 506) (by decide +kernel), List.mem_of_getElem? (i := 507) (by decide +kernel)⟩
theorem lw_p36 : lw_okq (⟨"DayKnown$Days", "gainOfAll", "(I)I"⟩, 12) := ⟨⟨by decide +kernel, by decide +kernel⟩, List.mem_of_getElem? (i := 131) (by decide +kernel), List.mem_of_getElem? (i := 510) (by decide +kernel), List.mem_of_getElem? (i := 511) (by decide +kernel)⟩
theorem lw_p37 : lw_okq (⟨"DayKnown", "searchNow", "()V"⟩, 9) := ⟨⟨by decide +kernel, by decide +kernel⟩, List.mem_of_getElem? (i := 16) (by decide +kernel), List.mem_of_getElem? (i := 518) (by decide +kernel), List.mem_of_getElem? (i := 519) (by decide +kernel)⟩
theorem lw_p38 : lw_okq (⟨"DayKnown$Days", "search", "()V"⟩, 12) := ⟨⟨by decide +kernel, by decide +kernel⟩, List.mem_of_getElem? (i := 131) (by decide +kernel), List.mem_of_getElem? (i := 522) (by decide +kernel), List.mem_of_getElem? (i := 523) (by decide +kernel)⟩
theorem lw_p39 : lw_okq (⟨"DayKnown$Days", "stands", "(I)Z"⟩, 12) := ⟨⟨by decide +kernel, by decide +kernel⟩, List.mem_of_getElem? (i := 131) (by decide +kernel), List.mem_of_getElem? (i := 527) (by decide +kernel), List.mem_of_getElem? (i := 528) (by decide +kernel)⟩
theorem lw_p40 : lw_okq (⟨"DayKnown$Days", "addStanding", "(I)V"⟩, 12) := ⟨⟨by decide +kernel, by decide +kernel⟩, List.mem_of_getElem? (i := 131) (by decide +kernel), List.mem_of_getElem? (i := 532) (by decide +kernel), List.mem_of_getElem? (i := 533) (by decide +kernel)⟩
theorem lw_p41 : lw_okq (⟨"DayKnown", "placeOnPath", "(II)I"⟩, 9) := ⟨⟨by decide +kernel, by decide +kernel⟩, List.mem_of_getElem? (i := 16) (by decide +kernel), List.mem_of_getElem? (i := 549) (by decide +kernel), List.mem_of_getElem? (i := 550) (by decide +kernel)⟩
theorem lw_p42 : lw_okq (⟨"DayKnown$Days", "comingDay", "()I"⟩, 12) := ⟨⟨by decide +kernel, by decide +kernel⟩, List.mem_of_getElem? (i := 131) (by decide +kernel), List.mem_of_getElem? (i := 557) (by decide +kernel), List.mem_of_getElem? (i := 558) (by decide +kernel)⟩
theorem lw_p43 : lw_okq (⟨"DayKnown$Folk", "endMorning", "(II)V"⟩, 6) := ⟨⟨by decide +kernel, by decide +kernel⟩, List.mem_of_getElem? (i := 30) (by decide +kernel), List.mem_of_getElem? (i := 562) (by decide +kernel), List.mem_of_getElem? (i := 563) (by decide +kernel)⟩
theorem lw_p44 : lw_okq (⟨"DayKnown$Folk", "become", "(LDayKnown$Folk;)V"⟩, 6) := ⟨⟨by decide +kernel, by decide +kernel⟩, List.mem_of_getElem? (i := 30) (by decide +kernel), List.mem_of_getElem? (i := 572) (by decide +kernel), List.mem_of_getElem? (i := 573) (by decide +kernel)⟩
theorem lw_p45 : lw_okq (⟨"DayKnown", "searchThen", "()V"⟩, 9) := ⟨⟨by decide +kernel, by decide +kernel⟩, List.mem_of_getElem? (i := 16) (by decide +kernel), List.mem_of_getElem? (i := 577) (by decide +kernel), List.mem_of_getElem? (i := 578) (by decide +kernel)⟩
theorem lw_p46 : lw_okq (⟨"DayKnown$Days", "stoodWith", "(I)I"⟩, 12) := ⟨⟨by decide +kernel, by decide +kernel⟩, List.mem_of_getElem? (i := 131) (by decide +kernel), List.mem_of_getElem? (i := 585) (by decide +kernel), List.mem_of_getElem? (i := 586) (by decide +kernel)⟩
theorem lw_p47 : lw_okq (⟨"DayKnown", "tellThen", "(I)V"⟩, 9) := ⟨⟨by decide +kernel, by decide +kernel⟩, List.mem_of_getElem? (i := 16) (by decide +kernel), List.mem_of_getElem? (i := 598) (by decide +kernel), List.mem_of_getElem? (i := 599) (by decide +kernel)⟩
def lw_privs_3 : List (MethodName × Nat) := [(⟨"DayKnown$Days", "would", "(IIII)Z"⟩, 12), (⟨"DayKnown$Days", "answerOf", "(II)I"⟩, 12), (⟨"DayKnown$Days", "firstOtherwise", "(I)I"⟩, 12), (⟨"DayKnown$Days", "answer", "(I)I"⟩, 12), (⟨"DayKnown$Days", "gainOfAll", "(I)I"⟩, 12), (⟨"DayKnown", "searchNow", "()V"⟩, 9), (⟨"DayKnown$Days", "search", "()V"⟩, 12), (⟨"DayKnown$Days", "stands", "(I)Z"⟩, 12), (⟨"DayKnown$Days", "addStanding", "(I)V"⟩, 12), (⟨"DayKnown", "placeOnPath", "(II)I"⟩, 9), (⟨"DayKnown$Days", "comingDay", "()I"⟩, 12), (⟨"DayKnown$Folk", "endMorning", "(II)V"⟩, 6), (⟨"DayKnown$Folk", "become", "(LDayKnown$Folk;)V"⟩, 6), (⟨"DayKnown", "searchThen", "()V"⟩, 9), (⟨"DayKnown$Days", "stoodWith", "(I)I"⟩, 12), (⟨"DayKnown", "tellThen", "(I)V"⟩, 9)]
theorem lw_r3 : ∀ q ∈ lw_privs_3, lw_okq q := List.forall_mem_cons.mpr ⟨lw_p32, List.forall_mem_cons.mpr ⟨lw_p33, List.forall_mem_cons.mpr ⟨lw_p34, List.forall_mem_cons.mpr ⟨lw_p35, List.forall_mem_cons.mpr ⟨lw_p36, List.forall_mem_cons.mpr ⟨lw_p37, List.forall_mem_cons.mpr ⟨lw_p38, List.forall_mem_cons.mpr ⟨lw_p39, List.forall_mem_cons.mpr ⟨lw_p40, List.forall_mem_cons.mpr ⟨lw_p41, List.forall_mem_cons.mpr ⟨lw_p42, List.forall_mem_cons.mpr ⟨lw_p43, List.forall_mem_cons.mpr ⟨lw_p44, List.forall_mem_cons.mpr ⟨lw_p45, List.forall_mem_cons.mpr ⟨lw_p46, List.forall_mem_cons.mpr ⟨lw_p47, fun _ h => absurd h List.not_mem_nil⟩⟩⟩⟩⟩⟩⟩⟩⟩⟩⟩⟩⟩⟩⟩⟩
theorem lw_p48 : lw_okq (⟨"DayKnown$Folk", "exchange", "(II)V"⟩, 6) := ⟨⟨by decide +kernel, by decide +kernel⟩, List.mem_of_getElem? (i := 30) (by decide +kernel), List.mem_of_getElem? (i := 611) (by decide +kernel), List.mem_of_getElem? (i := 612) (by decide +kernel)⟩
theorem lw_p49 : lw_okq (⟨"DayKnown", "wouldRather", "(II)Z"⟩, 9) := ⟨⟨by decide +kernel, by decide +kernel⟩, List.mem_of_getElem? (i := 16) (by decide +kernel), List.mem_of_getElem? (i := 616) (by decide +kernel), List.mem_of_getElem? (i := 617) (by decide +kernel)⟩
theorem lw_p50 : lw_okq (⟨"DayKnown", "isBetterThen", "(I)Z"⟩, 9) := ⟨⟨by decide +kernel, by decide +kernel⟩, List.mem_of_getElem? (i := 16) (by decide +kernel), List.mem_of_getElem? (i := 620) (by decide +kernel), List.mem_of_getElem? (i := 621) (by decide +kernel)⟩
theorem lw_p51 : lw_okq (⟨"DayKnown$Acts", "clear", "()V"⟩, 5) := ⟨⟨by decide +kernel, by decide +kernel⟩, List.mem_of_getElem? (i := 184) (by decide +kernel), List.mem_of_getElem? (i := 636) (by decide +kernel), List.mem_of_getElem? (i := 637) (by decide +kernel)⟩
theorem lw_p52 : lw_okq (⟨"DayKnown$Acts", "start", "(LDayKnown$Folk;III)I"⟩, 5) := ⟨⟨by decide +kernel, by decide +kernel⟩, List.mem_of_getElem? (i := 184) (by decide +kernel), List.mem_of_getElem? (i := 640) (by decide +kernel), List.mem_of_getElem? (i := 641) (by decide +kernel)⟩
theorem lw_p53 : lw_okq (⟨"DayKnown$Acts", "ask", "(IIII)I"⟩, 5) := ⟨⟨by decide +kernel, by decide +kernel⟩, List.mem_of_getElem? (i := 184) (by decide +kernel), List.mem_of_getElem? (i := 645) (by decide +kernel), List.mem_of_getElem? (i := 646) (by decide +kernel)⟩
theorem lw_p54 : lw_okq (⟨"DayKnown$Acts", "begin", "(I)V"⟩, 5) := ⟨⟨by decide +kernel, by decide +kernel⟩, List.mem_of_getElem? (i := 184) (by decide +kernel), List.mem_of_getElem? (i := 656) (by decide +kernel), List.mem_of_getElem? (i := 657) (by decide +kernel)⟩
theorem lw_p55 : lw_okq (⟨"DayKnown$Held", "become", "(LDayKnown$Held;)V"⟩, 6) := ⟨⟨by decide +kernel, by decide +kernel⟩, List.mem_of_getElem? (i := 24) (by decide +kernel), List.mem_of_getElem? (i := 673) (by decide +kernel), List.mem_of_getElem? (i := 674) (by decide +kernel)⟩
theorem lw_p56 : lw_okq (⟨"DayKnownModel", "clauseHere", "()V"⟩, 28) := ⟨⟨by decide +kernel, by decide +kernel⟩, List.mem_of_getElem? (i := 687) (by decide +kernel), List.mem_of_getElem? (i := 789) (by decide +kernel), List.mem_of_getElem? (i := 790) (by decide +kernel)⟩
theorem lw_p57 : lw_okq (⟨"DayKnownModel", "here", "()I"⟩, 28) := ⟨⟨by decide +kernel, by decide +kernel⟩, List.mem_of_getElem? (i := 687) (by decide +kernel), List.mem_of_getElem? (i := 793) (by decide +kernel), List.mem_of_getElem? (i := 794) (by decide +kernel)⟩
theorem lw_p58 : lw_okq (⟨"DayKnownModel", "much", "(ILjava/lang/String;)V"⟩, 28) := ⟨⟨by decide +kernel, by decide +kernel⟩, List.mem_of_getElem? (i := 687) (by decide +kernel), List.mem_of_getElem? (i := 798) (by decide +kernel), List.mem_of_getElem? (i := 799) (by decide +kernel)⟩
theorem lw_p59 : lw_okq (⟨"DayKnownModel", "spells", "(Ljava/lang/String;)V"⟩, 28) := ⟨⟨by decide +kernel, by decide +kernel⟩, List.mem_of_getElem? (i := 687) (by decide +kernel), List.mem_of_getElem? (i := 802) (by decide +kernel), List.mem_of_getElem? (i := 803) (by decide +kernel)⟩
theorem lw_p60 : lw_okq (⟨"DayKnownModel", "must", "(I)V"⟩, 28) := ⟨⟨by decide +kernel, by decide +kernel⟩, List.mem_of_getElem? (i := 687) (by decide +kernel), List.mem_of_getElem? (i := 808) (by decide +kernel), List.mem_of_getElem? (i := 809) (by decide +kernel)⟩
theorem lw_p61 : lw_okq (⟨"DayKnownModel", "figures", "()I"⟩, 28) := ⟨⟨by decide +kernel, by decide +kernel⟩, List.mem_of_getElem? (i := 687) (by decide +kernel), List.mem_of_getElem? (i := 812) (by decide +kernel), List.mem_of_getElem? (i := 813) (by decide +kernel)⟩
theorem lw_p62 : lw_okq (⟨"DayKnownModel", "some", "()V"⟩, 28) := ⟨⟨by decide +kernel, by decide +kernel⟩, List.mem_of_getElem? (i := 687) (by decide +kernel), List.mem_of_getElem? (i := 816) (by decide +kernel), List.mem_of_getElem? (i := 817) (by decide +kernel)⟩
theorem lw_p63 : lw_okq (⟨"DayKnownModel", "every", "()V"⟩, 28) := ⟨⟨by decide +kernel, by decide +kernel⟩, List.mem_of_getElem? (i := 687) (by decide +kernel), List.mem_of_getElem? (i := 820) (by decide +kernel), List.mem_of_getElem? (i := 821) (by decide +kernel)⟩
def lw_privs_4 : List (MethodName × Nat) := [(⟨"DayKnown$Folk", "exchange", "(II)V"⟩, 6), (⟨"DayKnown", "wouldRather", "(II)Z"⟩, 9), (⟨"DayKnown", "isBetterThen", "(I)Z"⟩, 9), (⟨"DayKnown$Acts", "clear", "()V"⟩, 5), (⟨"DayKnown$Acts", "start", "(LDayKnown$Folk;III)I"⟩, 5), (⟨"DayKnown$Acts", "ask", "(IIII)I"⟩, 5), (⟨"DayKnown$Acts", "begin", "(I)V"⟩, 5), (⟨"DayKnown$Held", "become", "(LDayKnown$Held;)V"⟩, 6), (⟨"DayKnownModel", "clauseHere", "()V"⟩, 28), (⟨"DayKnownModel", "here", "()I"⟩, 28), (⟨"DayKnownModel", "much", "(ILjava/lang/String;)V"⟩, 28), (⟨"DayKnownModel", "spells", "(Ljava/lang/String;)V"⟩, 28), (⟨"DayKnownModel", "must", "(I)V"⟩, 28), (⟨"DayKnownModel", "figures", "()I"⟩, 28), (⟨"DayKnownModel", "some", "()V"⟩, 28), (⟨"DayKnownModel", "every", "()V"⟩, 28)]
theorem lw_r4 : ∀ q ∈ lw_privs_4, lw_okq q := List.forall_mem_cons.mpr ⟨lw_p48, List.forall_mem_cons.mpr ⟨lw_p49, List.forall_mem_cons.mpr ⟨lw_p50, List.forall_mem_cons.mpr ⟨lw_p51, List.forall_mem_cons.mpr ⟨lw_p52, List.forall_mem_cons.mpr ⟨lw_p53, List.forall_mem_cons.mpr ⟨lw_p54, List.forall_mem_cons.mpr ⟨lw_p55, List.forall_mem_cons.mpr ⟨lw_p56, List.forall_mem_cons.mpr ⟨lw_p57, List.forall_mem_cons.mpr ⟨lw_p58, List.forall_mem_cons.mpr ⟨lw_p59, List.forall_mem_cons.mpr ⟨lw_p60, List.forall_mem_cons.mpr ⟨lw_p61, List.forall_mem_cons.mpr ⟨lw_p62, List.forall_mem_cons.mpr ⟨lw_p63, fun _ h => absurd h List.not_mem_nil⟩⟩⟩⟩⟩⟩⟩⟩⟩⟩⟩⟩⟩⟩⟩⟩
theorem lw_p64 : lw_okq (⟨"DayKnownModel", "factor", "()V"⟩, 28) := ⟨⟨by decide +kernel, by decide +kernel⟩, List.mem_of_getElem? (i := 687) (by decide +kernel), List.mem_of_getElem? (i := 824) (by decide +kernel), List.mem_of_getElem? (i := 825) (by decide +kernel)⟩
theorem lw_p65 : lw_okq (⟨"DayKnownModel", "emits", "(I)V"⟩, 28) := ⟨⟨by decide +kernel, by decide +kernel⟩, List.mem_of_getElem? (i := 687) (by decide +kernel), List.mem_of_getElem? (i := 828) (by decide +kernel), List.mem_of_getElem? (i := 829) (by decide +kernel)⟩
theorem lw_p66 : lw_okq (⟨"DayKnownModel", "among", "(Ljava/lang/String;)I"⟩, 28) := ⟨⟨by decide +kernel, by decide +kernel⟩, List.mem_of_getElem? (i := 687) (by decide +kernel), List.mem_of_getElem? (i := 833) (by decide +kernel), List.mem_of_getElem? (i := 834) (by decide +kernel)⟩
theorem lw_p67 : lw_okq (⟨"DayKnownModel", "tellsOf", "(I)I"⟩, 28) := ⟨⟨by decide +kernel, by decide +kernel⟩, List.mem_of_getElem? (i := 687) (by decide +kernel), List.mem_of_getElem? (i := 844) (by decide +kernel), List.mem_of_getElem? (i := 845) (by decide +kernel)⟩
theorem lw_p68 : lw_okq (⟨"DayKnownModel", "isPerson", "(I)Z"⟩, 28) := ⟨⟨by decide +kernel, by decide +kernel⟩, List.mem_of_getElem? (i := 687) (by decide +kernel), List.mem_of_getElem? (i := 856) (by decide +kernel), List.mem_of_getElem? (i := 857) (by decide +kernel)⟩
theorem lw_p69 : lw_okq (⟨"DayKnownModel", "isDay", "(I)Z"⟩, 28) := ⟨⟨by decide +kernel, by decide +kernel⟩, List.mem_of_getElem? (i := 687) (by decide +kernel), List.mem_of_getElem? (i := 872) (by decide +kernel), List.mem_of_getElem? (i := 873) (by decide +kernel)⟩
theorem lw_p70 : lw_okq (⟨"DayKnownModel", "days", "()I"⟩, 28) := ⟨⟨by decide +kernel, by decide +kernel⟩, List.mem_of_getElem? (i := 687) (by decide +kernel), List.mem_of_getElem? (i := 876) (by decide +kernel), List.mem_of_getElem? (i := 877) (by decide +kernel)⟩
theorem lw_p71 : lw_okq (⟨"DayKnownModel", "looks", "()V"⟩, 28) := ⟨⟨by decide +kernel, by decide +kernel⟩, List.mem_of_getElem? (i := 687) (by decide +kernel), List.mem_of_getElem? (i := 887) (by decide +kernel), List.mem_of_getElem? (i := 888) (by decide +kernel)⟩
theorem lw_p72 : lw_okq (⟨"DayKnownModel", "looksAt", "(I)V"⟩, 28) := ⟨⟨by decide +kernel, by decide +kernel⟩, List.mem_of_getElem? (i := 687) (by decide +kernel), List.mem_of_getElem? (i := 891) (by decide +kernel), List.mem_of_getElem? (i := 892) (by decide +kernel)⟩
theorem lw_p73 : lw_okq (⟨"DayKnownModel", "worthBy", "()I"⟩, 28) := ⟨⟨by decide +kernel, by decide +kernel⟩, List.mem_of_getElem? (i := 687) (by decide +kernel), List.mem_of_getElem? (i := 895) (by decide +kernel), List.mem_of_getElem? (i := 896) (by decide +kernel)⟩
theorem lw_p74 : lw_okq (⟨"DayKnownModel", "worthOf", "(III)I"⟩, 28) := ⟨⟨by decide +kernel, by decide +kernel⟩, List.mem_of_getElem? (i := 687) (by decide +kernel), List.mem_of_getElem? (i := 899) (by decide +kernel), List.mem_of_getElem? (i := 900) (by decide +kernel)⟩
theorem lw_p75 : lw_okq (⟨"DayKnownModel", "others", "(III)I"⟩, 28) := ⟨⟨by decide +kernel, by decide +kernel⟩, List.mem_of_getElem? (i := 687) (by decide +kernel), List.mem_of_getElem? (i := 903) (by decide +kernel), List.mem_of_getElem? (i := 904) (by decide +kernel)⟩
theorem lw_p76 : lw_okq (⟨"DayKnownModel", "would", "(III)Z"⟩, 28) := ⟨⟨by decide +kernel, by decide +kernel⟩, List.mem_of_getElem? (i := 687) (by decide +kernel), List.mem_of_getElem? (i := 910) (by decide +kernel), List.mem_of_getElem? (i := 911) (by decide +kernel)⟩
theorem lw_p77 : lw_okq (⟨"DayKnownModel", "bestOwn", "(II)I"⟩, 28) := ⟨⟨by decide +kernel, by decide +kernel⟩, List.mem_of_getElem? (i := 687) (by decide +kernel), List.mem_of_getElem? (i := 914) (by decide +kernel), List.mem_of_getElem? (i := 915) (by decide +kernel)⟩
theorem lw_p78 : lw_okq (⟨"DayKnownModel", "gainOf", "(II)I"⟩, 28) := ⟨⟨by decide +kernel, by decide +kernel⟩, List.mem_of_getElem? (i := 687) (by decide +kernel), List.mem_of_getElem? (i := 921) (by decide +kernel), List.mem_of_getElem? (i := 922) (by decide +kernel)⟩
theorem lw_p79 : lw_okq (⟨"DayKnownModel", "wouldPlainly", "(III)Z"⟩, 28) := ⟨⟨by decide +kernel, by decide +kernel⟩, List.mem_of_getElem? (i := 687) (by decide +kernel), List.mem_of_getElem? (i := 925) (by decide +kernel), List.mem_of_getElem? (i := 926) (by decide +kernel)⟩
def lw_privs_5 : List (MethodName × Nat) := [(⟨"DayKnownModel", "factor", "()V"⟩, 28), (⟨"DayKnownModel", "emits", "(I)V"⟩, 28), (⟨"DayKnownModel", "among", "(Ljava/lang/String;)I"⟩, 28), (⟨"DayKnownModel", "tellsOf", "(I)I"⟩, 28), (⟨"DayKnownModel", "isPerson", "(I)Z"⟩, 28), (⟨"DayKnownModel", "isDay", "(I)Z"⟩, 28), (⟨"DayKnownModel", "days", "()I"⟩, 28), (⟨"DayKnownModel", "looks", "()V"⟩, 28), (⟨"DayKnownModel", "looksAt", "(I)V"⟩, 28), (⟨"DayKnownModel", "worthBy", "()I"⟩, 28), (⟨"DayKnownModel", "worthOf", "(III)I"⟩, 28), (⟨"DayKnownModel", "others", "(III)I"⟩, 28), (⟨"DayKnownModel", "would", "(III)Z"⟩, 28), (⟨"DayKnownModel", "bestOwn", "(II)I"⟩, 28), (⟨"DayKnownModel", "gainOf", "(II)I"⟩, 28), (⟨"DayKnownModel", "wouldPlainly", "(III)Z"⟩, 28)]
theorem lw_r5 : ∀ q ∈ lw_privs_5, lw_okq q := List.forall_mem_cons.mpr ⟨lw_p64, List.forall_mem_cons.mpr ⟨lw_p65, List.forall_mem_cons.mpr ⟨lw_p66, List.forall_mem_cons.mpr ⟨lw_p67, List.forall_mem_cons.mpr ⟨lw_p68, List.forall_mem_cons.mpr ⟨lw_p69, List.forall_mem_cons.mpr ⟨lw_p70, List.forall_mem_cons.mpr ⟨lw_p71, List.forall_mem_cons.mpr ⟨lw_p72, List.forall_mem_cons.mpr ⟨lw_p73, List.forall_mem_cons.mpr ⟨lw_p74, List.forall_mem_cons.mpr ⟨lw_p75, List.forall_mem_cons.mpr ⟨lw_p76, List.forall_mem_cons.mpr ⟨lw_p77, List.forall_mem_cons.mpr ⟨lw_p78, List.forall_mem_cons.mpr ⟨lw_p79, fun _ h => absurd h List.not_mem_nil⟩⟩⟩⟩⟩⟩⟩⟩⟩⟩⟩⟩⟩⟩⟩⟩
theorem lw_p80 : lw_okq (⟨"DayKnownModel", "isStrange", "(II)Z"⟩, 28) := ⟨⟨by decide +kernel, by decide +kernel⟩, List.mem_of_getElem? (i := 687) (by decide +kernel), List.mem_of_getElem? (i := 929) (by decide +kernel), List.mem_of_getElem? (i := 930) (by decide +kernel)⟩
theorem lw_p81 : lw_okq (⟨"DayKnownModel", "firstOtherwise", "(I)I"⟩, 28) := ⟨⟨by decide +kernel, by decide +kernel⟩, List.mem_of_getElem? (i := 687) (by decide +kernel), List.mem_of_getElem? (i := 937) (by decide +kernel), List.mem_of_getElem? (i := 938) (by decide +kernel)⟩
theorem lw_p82 : lw_okq (⟨"DayKnownModel", "answerTo", "(I)I"⟩, 28) := ⟨⟨by decide +kernel, by decide +kernel⟩, List.mem_of_getElem? (i := 687) (by decide +kernel), List.mem_of_getElem? (i := 941) (by decide +kernel), List.mem_of_getElem? (i := 942) (by decide +kernel)⟩
theorem lw_p83 : lw_okq (⟨"DayKnownModel", "gainOfAll", "(I)I"⟩, 28) := ⟨⟨by decide +kernel, by decide +kernel⟩, List.mem_of_getElem? (i := 687) (by decide +kernel), List.mem_of_getElem? (i := 945) (by decide +kernel), List.mem_of_getElem? (i := 946) (by decide +kernel)⟩
theorem lw_p84 : lw_okq (⟨"DayKnownModel", "looksThrough", "()V"⟩, 28) := ⟨⟨by decide +kernel, by decide +kernel⟩, List.mem_of_getElem? (i := 687) (by decide +kernel), List.mem_of_getElem? (i := 953) (by decide +kernel), List.mem_of_getElem? (i := 954) (by decide +kernel)⟩
theorem lw_p85 : lw_okq (⟨"DayKnownModel", "stands", "(I)Z"⟩, 28) := ⟨⟨by decide +kernel, by decide +kernel⟩, List.mem_of_getElem? (i := 687) (by decide +kernel), List.mem_of_getElem? (i := 957) (by decide +kernel), List.mem_of_getElem? (i := 958) (by decide +kernel)⟩
theorem lw_p86 : lw_okq (⟨"DayKnownModel", "morningComes", "()I"⟩, 28) := ⟨⟨by decide +kernel, by decide +kernel⟩, List.mem_of_getElem? (i := 687) (by decide +kernel), List.mem_of_getElem? (i := 973) (by decide +kernel), List.mem_of_getElem? (i := 974) (by decide +kernel)⟩
theorem lw_p87 : lw_okq (⟨"DayKnownModel", "keeps", "()V"⟩, 28) := ⟨⟨by decide +kernel, by decide +kernel⟩, List.mem_of_getElem? (i := 687) (by decide +kernel), List.mem_of_getElem? (i := 992) (by decide +kernel), List.mem_of_getElem? (i := 993) (by decide +kernel)⟩
theorem lw_p88 : lw_okq (⟨"DayKnownModel", "goesBack", "()V"⟩, 28) := ⟨⟨by decide +kernel, by decide +kernel⟩, List.mem_of_getElem? (i := 687) (by decide +kernel), List.mem_of_getElem? (i := 999) (by decide +kernel), List.mem_of_getElem? (i := 1000) (by decide +kernel)⟩
theorem lw_p89 : lw_okq (⟨"DayKnownModel", "isGood", "(III)Z"⟩, 28) := ⟨⟨by decide +kernel, by decide +kernel⟩, List.mem_of_getElem? (i := 687) (by decide +kernel), List.mem_of_getElem? (i := 1011) (by decide +kernel), List.mem_of_getElem? (i := 1012) (by decide +kernel)⟩
theorem lw_p90 : lw_okq (⟨"DayKnownModel", "knowsActs", "(I)I"⟩, 28) := ⟨⟨by decide +kernel, by decide +kernel⟩, List.mem_of_getElem? (i := 687) (by decide +kernel), List.mem_of_getElem? (i := 1027) (by decide +kernel), List.mem_of_getElem? (i := 1028) (by decide +kernel)⟩
theorem lw_p91 : lw_okq (⟨"DayKnownModel", "runs", "(I)V"⟩, 28) := ⟨⟨by decide +kernel, by decide +kernel⟩, List.mem_of_getElem? (i := 687) (by decide +kernel), List.mem_of_getElem? (i := 1031) (by decide +kernel), List.mem_of_getElem? (i := 1032) (by decide +kernel)⟩
theorem lw_p92 : lw_okq (⟨"DayKnownModel", "plainKnows", "(I)I"⟩, 28) := ⟨⟨by decide +kernel, by decide +kernel⟩, List.mem_of_getElem? (i := 687) (by decide +kernel), List.mem_of_getElem? (i := 1035) (by decide +kernel), List.mem_of_getElem? (i := 1036) (by decide +kernel)⟩
theorem lw_p93 : lw_okq (⟨"DayKnownModel", "doesActs", "(I)I"⟩, 28) := ⟨⟨by decide +kernel, by decide +kernel⟩, List.mem_of_getElem? (i := 687) (by decide +kernel), List.mem_of_getElem? (i := 1039) (by decide +kernel), List.mem_of_getElem? (i := 1040) (by decide +kernel)⟩
theorem lw_p94 : lw_okq (⟨"DayKnownModel", "plainDoes", "(I)I"⟩, 28) := ⟨⟨by decide +kernel, by decide +kernel⟩, List.mem_of_getElem? (i := 687) (by decide +kernel), List.mem_of_getElem? (i := 1046) (by decide +kernel), List.mem_of_getElem? (i := 1047) (by decide +kernel)⟩
theorem lw_p95 : lw_okq (⟨"DayKnownModel", "tellsActs", "(I)I"⟩, 28) := ⟨⟨by decide +kernel, by decide +kernel⟩, List.mem_of_getElem? (i := 687) (by decide +kernel), List.mem_of_getElem? (i := 1050) (by decide +kernel), List.mem_of_getElem? (i := 1051) (by decide +kernel)⟩
def lw_privs_6 : List (MethodName × Nat) := [(⟨"DayKnownModel", "isStrange", "(II)Z"⟩, 28), (⟨"DayKnownModel", "firstOtherwise", "(I)I"⟩, 28), (⟨"DayKnownModel", "answerTo", "(I)I"⟩, 28), (⟨"DayKnownModel", "gainOfAll", "(I)I"⟩, 28), (⟨"DayKnownModel", "looksThrough", "()V"⟩, 28), (⟨"DayKnownModel", "stands", "(I)Z"⟩, 28), (⟨"DayKnownModel", "morningComes", "()I"⟩, 28), (⟨"DayKnownModel", "keeps", "()V"⟩, 28), (⟨"DayKnownModel", "goesBack", "()V"⟩, 28), (⟨"DayKnownModel", "isGood", "(III)Z"⟩, 28), (⟨"DayKnownModel", "knowsActs", "(I)I"⟩, 28), (⟨"DayKnownModel", "runs", "(I)V"⟩, 28), (⟨"DayKnownModel", "plainKnows", "(I)I"⟩, 28), (⟨"DayKnownModel", "doesActs", "(I)I"⟩, 28), (⟨"DayKnownModel", "plainDoes", "(I)I"⟩, 28), (⟨"DayKnownModel", "tellsActs", "(I)I"⟩, 28)]
theorem lw_r6 : ∀ q ∈ lw_privs_6, lw_okq q := List.forall_mem_cons.mpr ⟨lw_p80, List.forall_mem_cons.mpr ⟨lw_p81, List.forall_mem_cons.mpr ⟨lw_p82, List.forall_mem_cons.mpr ⟨lw_p83, List.forall_mem_cons.mpr ⟨lw_p84, List.forall_mem_cons.mpr ⟨lw_p85, List.forall_mem_cons.mpr ⟨lw_p86, List.forall_mem_cons.mpr ⟨lw_p87, List.forall_mem_cons.mpr ⟨lw_p88, List.forall_mem_cons.mpr ⟨lw_p89, List.forall_mem_cons.mpr ⟨lw_p90, List.forall_mem_cons.mpr ⟨lw_p91, List.forall_mem_cons.mpr ⟨lw_p92, List.forall_mem_cons.mpr ⟨lw_p93, List.forall_mem_cons.mpr ⟨lw_p94, List.forall_mem_cons.mpr ⟨lw_p95, fun _ h => absurd h List.not_mem_nil⟩⟩⟩⟩⟩⟩⟩⟩⟩⟩⟩⟩⟩⟩⟩⟩
theorem lw_p96 : lw_okq (⟨"DayKnownModel", "plainTells", "(I)I"⟩, 28) := ⟨⟨by decide +kernel, by decide +kernel⟩, List.mem_of_getElem? (i := 687) (by decide +kernel), List.mem_of_getElem? (i := 1054) (by decide +kernel), List.mem_of_getElem? (i := 1055) (by decide +kernel)⟩
def lw_privs_7 : List (MethodName × Nat) := [(⟨"DayKnownModel", "plainTells", "(I)I"⟩, 28)]
theorem lw_r7 : ∀ q ∈ lw_privs_7, lw_okq q := List.forall_mem_cons.mpr ⟨lw_p96, fun _ h => absurd h List.not_mem_nil⟩
def lw_privs : List (MethodName × Nat) := lw_privs_1 ++ (lw_privs_2 ++ (lw_privs_3 ++ (lw_privs_4 ++ (lw_privs_5 ++ (lw_privs_6 ++ (lw_privs_7))))))
def lw_tbl : List Cond := k2_sels lw_privs ++ tables_1
theorem lw_privs_ok : ∀ q ∈ lw_privs, lw_okq q := by
  show ∀ q ∈ lw_privs_1 ++ (lw_privs_2 ++ (lw_privs_3 ++ (lw_privs_4 ++ (lw_privs_5 ++ (lw_privs_6 ++ (lw_privs_7)))))), lw_okq q
  exact List.forall_mem_append.mpr ⟨lw_r1, List.forall_mem_append.mpr ⟨lw_r2, List.forall_mem_append.mpr ⟨lw_r3, List.forall_mem_append.mpr ⟨lw_r4, List.forall_mem_append.mpr ⟨lw_r5, List.forall_mem_append.mpr ⟨lw_r6, lw_r7⟩⟩⟩⟩⟩⟩
-- ===== end of PART A; then your names; then what follows =====
def RX0 : String := "DayKnown$Acts"
def TX0 : u_T := fun k => match k with
  | 0 => ("DayKnown$Acts", "bodies", "[I", true)
  | 1 => ("DayKnown$Acts", "ran", "I", false)
  | 2 => ("DayKnown$Acts", "self", "I", false)
  | 3 => ("DayKnown$Acts", "kind", "I", false)
  | _ => ("DayKnown$Acts", "v", "I", false)
def tyX0 : Nat → FieldType := fun k => match k with
  | 0 => .array .int
  | 1 => .int
  | 2 => .int
  | 3 => .int
  | _ => .int
abbrev wsX00 : List Cond := u_ws RX0 TX0 5
theorem nmX0 : ∀ a, a < 5 → ∀ b, b < 5 → a ≠ b → (TX0 a).2.1 ≠ (TX0 b).2.1 := by decide +kernel
theorem tyX0_ok : ∀ k, k < 5 → parseFieldDescriptor (TX0 k).2.2.1 = some (tyX0 k) := by decide +kernel
abbrev cX0_init : ByteArray := prog_2_method_1_code
def yX0_init : MethodName := ⟨RX0, "<init>", "()V"⟩
abbrev cX0_clear : ByteArray := prog_2_method_2_code
def yX0_clear : MethodName := ⟨RX0, "clear", "()V"⟩
abbrev cX0_start : ByteArray := prog_2_method_3_code
def yX0_start : MethodName := ⟨RX0, "start", "(LDayKnown$Folk;III)I"⟩
abbrev cX0_bodyOf : ByteArray := prog_2_method_4_code
def yX0_bodyOf : MethodName := ⟨RX0, "bodyOf", "(II)I"⟩
abbrev cX0_begin : ByteArray := prog_2_method_5_code
def yX0_begin : MethodName := ⟨RX0, "begin", "(I)V"⟩
abbrev cX0_ask : ByteArray := prog_2_method_6_code
def yX0_ask : MethodName := ⟨RX0, "ask", "(IIII)I"⟩
def RX1 : String := "DayKnown$Days"
def TX1 : u_T := fun k => match k with
  | 0 => ("DayKnown$Days", "folk", "LDayKnown$Folk;", true)
  | 1 => ("DayKnown$Days", "worths", "[[I", true)
  | 2 => ("DayKnown$Days", "worthsKind", "[I", true)
  | 3 => ("DayKnown$Days", "facts", "[I", true)
  | 4 => ("DayKnown$Days", "replies", "[[I", true)
  | 5 => ("DayKnown$Days", "isPrepared", "Z", false)
  | 6 => ("DayKnown$Days", "isSearched", "Z", false)
  | 7 => ("DayKnown$Days", "stood", "I", false)
  | 8 => ("DayKnown$Days", "least", "I", false)
  | 9 => ("DayKnown$Days", "greatest", "I", false)
  | 10 => ("DayKnown$Days", "chosen", "I", false)
  | _ => ("DayKnown$Days", "chosenGain", "I", false)
def tyX1 : Nat → FieldType := fun k => match k with
  | 0 => .object "DayKnown$Folk"
  | 1 => .array (.array .int)
  | 2 => .array .int
  | 3 => .array .int
  | 4 => .array (.array .int)
  | 5 => .boolean
  | 6 => .boolean
  | 7 => .int
  | 8 => .int
  | 9 => .int
  | 10 => .int
  | _ => .int
abbrev wsX10 : List Cond := u_ws RX1 TX1 12
theorem nmX1 : ∀ a, a < 12 → ∀ b, b < 12 → a ≠ b → (TX1 a).2.1 ≠ (TX1 b).2.1 := by decide +kernel
theorem tyX1_ok : ∀ k, k < 12 → parseFieldDescriptor (TX1 k).2.2.1 = some (tyX1 k) := by decide +kernel
abbrev cX1_init : ByteArray := prog_3_method_1_code
def yX1_init : MethodName := ⟨RX1, "<init>", "(LDayKnown$Folk;)V"⟩
abbrev cX1_forget : ByteArray := prog_3_method_2_code
def yX1_forget : MethodName := ⟨RX1, "forget", "()V"⟩
abbrev cX1_forgetTown : ByteArray := prog_3_method_3_code
def yX1_forgetTown : MethodName := ⟨RX1, "forgetTown", "()V"⟩
abbrev cX1_prepare : ByteArray := prog_3_method_4_code
def yX1_prepare : MethodName := ⟨RX1, "prepare", "(LDayKnown$Town;)V"⟩
abbrev cX1_fillWorths : ByteArray := prog_3_method_5_code
def yX1_fillWorths : MethodName := ⟨RX1, "fillWorths", "(ILDayKnown$Town;)V"⟩
abbrev cX1_sightOf : ByteArray := prog_3_method_6_code
def yX1_sightOf : MethodName := ⟨RX1, "sightOf", "(II)I"⟩
abbrev cX1_worth : ByteArray := prog_3_method_7_code
def yX1_worth : MethodName := ⟨RX1, "worth", "(III)I"⟩
abbrev cX1_gain : ByteArray := prog_3_method_8_code
def yX1_gain : MethodName := ⟨RX1, "gain", "(II)I"⟩
abbrev cX1_rowAt : ByteArray := prog_3_method_9_code
def yX1_rowAt : MethodName := ⟨RX1, "rowAt", "(III)I"⟩
abbrev cX1_bestRow : ByteArray := prog_3_method_10_code
def yX1_bestRow : MethodName := ⟨RX1, "bestRow", "(II)I"⟩
abbrev cX1_would : ByteArray := prog_3_method_11_code
def yX1_would : MethodName := ⟨RX1, "would", "(IIII)Z"⟩
abbrev cX1_answerOf : ByteArray := prog_3_method_12_code
def yX1_answerOf : MethodName := ⟨RX1, "answerOf", "(II)I"⟩
abbrev cX1_answer : ByteArray := prog_3_method_13_code
def yX1_answer : MethodName := ⟨RX1, "answer", "(I)I"⟩
abbrev cX1_firstOtherwise : ByteArray := prog_3_method_14_code
def yX1_firstOtherwise : MethodName := ⟨RX1, "firstOtherwise", "(I)I"⟩
abbrev cX1_stands : ByteArray := prog_3_method_15_code
def yX1_stands : MethodName := ⟨RX1, "stands", "(I)Z"⟩
abbrev cX1_gainOfAll : ByteArray := prog_3_method_16_code
def yX1_gainOfAll : MethodName := ⟨RX1, "gainOfAll", "(I)I"⟩
abbrev cX1_search : ByteArray := prog_3_method_17_code
def yX1_search : MethodName := ⟨RX1, "search", "()V"⟩
abbrev cX1_addStanding : ByteArray := prog_3_method_18_code
def yX1_addStanding : MethodName := ⟨RX1, "addStanding", "(I)V"⟩
abbrev cX1_comingDay : ByteArray := prog_3_method_19_code
def yX1_comingDay : MethodName := ⟨RX1, "comingDay", "()I"⟩
abbrev cX1_stoodWith : ByteArray := prog_3_method_20_code
def yX1_stoodWith : MethodName := ⟨RX1, "stoodWith", "(I)I"⟩
def RX2 : String := "DayKnown$Folk"
def TX2 : u_T := fun k => match k with
  | 0 => ("DayKnown$Folk", "kind", "[I", true)
  | 1 => ("DayKnown$Folk", "v", "[I", true)
  | 2 => ("DayKnown$Folk", "row", "[I", true)
  | 3 => ("DayKnown$Folk", "people", "I", false)
  | 4 => ("DayKnown$Folk", "notes", "I", false)
  | _ => ("DayKnown$Folk", "yesterday", "I", false)
def tyX2 : Nat → FieldType := fun k => match k with
  | 0 => .array .int
  | 1 => .array .int
  | 2 => .array .int
  | 3 => .int
  | 4 => .int
  | _ => .int
abbrev wsX20 : List Cond := u_ws RX2 TX2 6
theorem nmX2 : ∀ a, a < 6 → ∀ b, b < 6 → a ≠ b → (TX2 a).2.1 ≠ (TX2 b).2.1 := by decide +kernel
theorem tyX2_ok : ∀ k, k < 6 → parseFieldDescriptor (TX2 k).2.2.1 = some (tyX2 k) := by decide +kernel
abbrev cX2_init : ByteArray := prog_4_method_1_code
def yX2_init : MethodName := ⟨RX2, "<init>", "()V"⟩
abbrev cX2_has : ByteArray := prog_4_method_2_code
def yX2_has : MethodName := ⟨RX2, "has", "(I)Z"⟩
abbrev cX2_allDays : ByteArray := prog_4_method_3_code
def yX2_allDays : MethodName := ⟨RX2, "allDays", "()I"⟩
abbrev cX2_isDay : ByteArray := prog_4_method_4_code
def yX2_isDay : MethodName := ⟨RX2, "isDay", "(I)Z"⟩
abbrev cX2_join : ByteArray := prog_4_method_5_code
def yX2_join : MethodName := ⟨RX2, "join", "(II)I"⟩
abbrev cX2_noteOf : ByteArray := prog_4_method_6_code
def yX2_noteOf : MethodName := ⟨RX2, "noteOf", "(I)I"⟩
abbrev cX2_putNote : ByteArray := prog_4_method_7_code
def yX2_putNote : MethodName := ⟨RX2, "putNote", "(IZ)V"⟩
abbrev cX2_exchange : ByteArray := prog_4_method_8_code
def yX2_exchange : MethodName := ⟨RX2, "exchange", "(II)V"⟩
abbrev cX2_endMorning : ByteArray := prog_4_method_9_code
def yX2_endMorning : MethodName := ⟨RX2, "endMorning", "(II)V"⟩
abbrev cX2_become : ByteArray := prog_4_method_10_code
def yX2_become : MethodName := ⟨RX2, "become", "(LDayKnown$Folk;)V"⟩
def RX3 : String := "DayKnown$Held"
def TX3 : u_T := fun k => match k with
  | 0 => ("DayKnown$Held", "folk", "LDayKnown$Folk;", true)
  | 1 => ("DayKnown$Held", "tape", "[I", true)
  | 2 => ("DayKnown$Held", "book", "[I", true)
  | 3 => ("DayKnown$Held", "signs", "I", false)
  | 4 => ("DayKnown$Held", "booked", "I", false)
  | _ => ("DayKnown$Held", "towns", "I", false)
def tyX3 : Nat → FieldType := fun k => match k with
  | 0 => .object "DayKnown$Folk"
  | 1 => .array .int
  | 2 => .array .int
  | 3 => .int
  | 4 => .int
  | _ => .int
abbrev wsX30 : List Cond := u_ws RX3 TX3 6
theorem nmX3 : ∀ a, a < 6 → ∀ b, b < 6 → a ≠ b → (TX3 a).2.1 ≠ (TX3 b).2.1 := by decide +kernel
theorem tyX3_ok : ∀ k, k < 6 → parseFieldDescriptor (TX3 k).2.2.1 = some (tyX3 k) := by decide +kernel
abbrev cX3_init : ByteArray := prog_5_method_1_code
def yX3_init : MethodName := ⟨RX3, "<init>", "()V"⟩
abbrev cX3_become : ByteArray := prog_5_method_2_code
def yX3_become : MethodName := ⟨RX3, "become", "(LDayKnown$Held;)V"⟩
def RX4 : String := "DayKnown$Town"
def TX4 : u_T := fun k => match k with
  | 0 => ("DayKnown$Town", "text", "[I", true)
  | 1 => ("DayKnown$Town", "size", "I", false)
  | 2 => ("DayKnown$Town", "at", "I", false)
  | 3 => ("DayKnown$Town", "code", "[I", true)
  | 4 => ("DayKnown$Town", "codes", "I", false)
  | 5 => ("DayKnown$Town", "amount", "[I", true)
  | 6 => ("DayKnown$Town", "codeEnd", "[I", true)
  | 7 => ("DayKnown$Town", "clauses", "I", false)
  | _ => ("DayKnown$Town", "noteHours", "I", false)
def tyX4 : Nat → FieldType := fun k => match k with
  | 0 => .array .int
  | 1 => .int
  | 2 => .int
  | 3 => .array .int
  | 4 => .int
  | 5 => .array .int
  | 6 => .array .int
  | 7 => .int
  | _ => .int
abbrev wsX40 : List Cond := u_ws RX4 TX4 9
theorem nmX4 : ∀ a, a < 9 → ∀ b, b < 9 → a ≠ b → (TX4 a).2.1 ≠ (TX4 b).2.1 := by decide +kernel
theorem tyX4_ok : ∀ k, k < 9 → parseFieldDescriptor (TX4 k).2.2.1 = some (tyX4 k) := by decide +kernel
abbrev cX4_init : ByteArray := prog_6_method_1_code
def yX4_init : MethodName := ⟨RX4, "<init>", "()V"⟩
abbrev cX4_read : ByteArray := prog_6_method_2_code
def yX4_read : MethodName := ⟨RX4, "read", "([II)I"⟩
abbrev cX4_sign : ByteArray := prog_6_method_3_code
def yX4_sign : MethodName := ⟨RX4, "sign", "()I"⟩
abbrev cX4_take : ByteArray := prog_6_method_4_code
def yX4_take : MethodName := ⟨RX4, "take", "(I)Z"⟩
abbrev cX4_takeOneOf : ByteArray := prog_6_method_5_code
def yX4_takeOneOf : MethodName := ⟨RX4, "takeOneOf", "(Ljava/lang/String;)I"⟩
abbrev cX4_takeWord : ByteArray := prog_6_method_6_code
def yX4_takeWord : MethodName := ⟨RX4, "takeWord", "(Ljava/lang/String;)Z"⟩
abbrev cX4_readClause : ByteArray := prog_6_method_7_code
def yX4_readClause : MethodName := ⟨RX4, "readClause", "()Z"⟩
abbrev cX4_keepClause : ByteArray := prog_6_method_8_code
def yX4_keepClause : MethodName := ⟨RX4, "keepClause", "(I)V"⟩
abbrev cX4_keepCode : ByteArray := prog_6_method_9_code
def yX4_keepCode : MethodName := ⟨RX4, "keepCode", "(I)V"⟩
abbrev cX4_readNumber : ByteArray := prog_6_method_10_code
def yX4_readNumber : MethodName := ⟨RX4, "readNumber", "()I"⟩
abbrev cX4_readAny : ByteArray := prog_6_method_11_code
def yX4_readAny : MethodName := ⟨RX4, "readAny", "(I)Z"⟩
abbrev cX4_readBoth : ByteArray := prog_6_method_12_code
def yX4_readBoth : MethodName := ⟨RX4, "readBoth", "(I)Z"⟩
abbrev cX4_readFactor : ByteArray := prog_6_method_13_code
def yX4_readFactor : MethodName := ⟨RX4, "readFactor", "(I)Z"⟩
abbrev cX4_readTest : ByteArray := prog_6_method_14_code
def yX4_readTest : MethodName := ⟨RX4, "readTest", "()Z"⟩
abbrev cX4_worth : ByteArray := prog_6_method_15_code
def yX4_worth : MethodName := ⟨RX4, "worth", "([I)I"⟩
abbrev cX4_holds : ByteArray := prog_6_method_16_code
def yX4_holds : MethodName := ⟨RX4, "holds", "(II[I)Z"⟩
abbrev cX4_passes : ByteArray := prog_6_method_17_code
def yX4_passes : MethodName := ⟨RX4, "passes", "(I[I)Z"⟩
def RX5 : String := "DayKnown"
def TX5 : u_T := fun k => match k with
  | 0 => ("DayKnown", "held", "LDayKnown$Held;", true)
  | 1 => ("DayKnown", "saved", "LDayKnown$Held;", true)
  | 2 => ("DayKnown", "isSaved", "Z", false)
  | 3 => ("DayKnown", "noTown", "LDayKnown$Town;", true)
  | 4 => ("DayKnown", "towns", "[LDayKnown$Town;", true)
  | 5 => ("DayKnown", "now", "LDayKnown$Days;", true)
  | 6 => ("DayKnown", "then", "LDayKnown$Days;", true)
  | 7 => ("DayKnown", "path", "[I", true)
  | _ => ("DayKnown", "acts", "LDayKnown$Acts;", true)
def tyX5 : Nat → FieldType := fun k => match k with
  | 0 => .object "DayKnown$Held"
  | 1 => .object "DayKnown$Held"
  | 2 => .boolean
  | 3 => .object "DayKnown$Town"
  | 4 => .array (.object "DayKnown$Town")
  | 5 => .object "DayKnown$Days"
  | 6 => .object "DayKnown$Days"
  | 7 => .array .int
  | _ => .object "DayKnown$Acts"
abbrev wsX50 : List Cond := u_ws RX5 TX5 9
theorem nmX5 : ∀ a, a < 9 → ∀ b, b < 9 → a ≠ b → (TX5 a).2.1 ≠ (TX5 b).2.1 := by decide +kernel
theorem tyX5_ok : ∀ k, k < 9 → parseFieldDescriptor (TX5 k).2.2.1 = some (tyX5 k) := by decide +kernel
abbrev cX5_init : ByteArray := prog_1_method_1_code
def yX5_init : MethodName := ⟨RX5, "<init>", "()V"⟩
abbrev cX5_feed : ByteArray := prog_1_method_2_code
def yX5_feed : MethodName := ⟨RX5, "feed", "(I)I"⟩
abbrev cX5_town : ByteArray := prog_1_method_3_code
def yX5_town : MethodName := ⟨RX5, "town", "()I"⟩
abbrev cX5_told : ByteArray := prog_1_method_4_code
def yX5_told : MethodName := ⟨RX5, "told", "(I)I"⟩
abbrev cX5_person : ByteArray := prog_1_method_5_code
def yX5_person : MethodName := ⟨RX5, "person", "(II)I"⟩
abbrev cX5_of : ByteArray := prog_1_method_6_code
def yX5_of : MethodName := ⟨RX5, "of", "(II)I"⟩
abbrev cX5_row : ByteArray := prog_1_method_7_code
def yX5_row : MethodName := ⟨RX5, "row", "(II)I"⟩
abbrev cX5_note : ByteArray := prog_1_method_8_code
def yX5_note : MethodName := ⟨RX5, "note", "(IZ)I"⟩
abbrev cX5_yesterday : ByteArray := prog_1_method_9_code
def yX5_yesterday : MethodName := ⟨RX5, "yesterday", "(I)I"⟩
abbrev cX5_by : ByteArray := prog_1_method_10_code
def yX5_by : MethodName := ⟨RX5, "by", "(IIII)I"⟩
abbrev cX5_day : ByteArray := prog_1_method_11_code
def yX5_day : MethodName := ⟨RX5, "day", "(II)I"⟩
abbrev cX5_all : ByteArray := prog_1_method_12_code
def yX5_all : MethodName := ⟨RX5, "all", "(I)I"⟩
abbrev cX5_once : ByteArray := prog_1_method_13_code
def yX5_once : MethodName := ⟨RX5, "once", "(IIII)I"⟩
abbrev cX5_again : ByteArray := prog_1_method_14_code
def yX5_again : MethodName := ⟨RX5, "again", "(II)I"⟩
abbrev cX5_morning : ByteArray := prog_1_method_15_code
def yX5_morning : MethodName := ⟨RX5, "morning", "()I"⟩
abbrev cX5_year : ByteArray := prog_1_method_16_code
def yX5_year : MethodName := ⟨RX5, "year", "(II)I"⟩
abbrev cX5_bet : ByteArray := prog_1_method_17_code
def yX5_bet : MethodName := ⟨RX5, "bet", "(III)I"⟩
abbrev cX5_sure : ByteArray := prog_1_method_18_code
def yX5_sure : MethodName := ⟨RX5, "sure", "()I"⟩
abbrev cX5_secret : ByteArray := prog_1_method_19_code
def yX5_secret : MethodName := ⟨RX5, "secret", "(II)I"⟩
abbrev cX5_swap : ByteArray := prog_1_method_20_code
def yX5_swap : MethodName := ⟨RX5, "swap", "(I)I"⟩
abbrev cX5_book : ByteArray := prog_1_method_21_code
def yX5_book : MethodName := ⟨RX5, "book", "(I)I"⟩
abbrev cX5_looked : ByteArray := prog_1_method_22_code
def yX5_looked : MethodName := ⟨RX5, "looked", "(I)I"⟩
abbrev cX5_act : ByteArray := prog_1_method_23_code
def yX5_act : MethodName := ⟨RX5, "act", "(III)I"⟩
abbrev cX5_trace : ByteArray := prog_1_method_24_code
def yX5_trace : MethodName := ⟨RX5, "trace", "(I)I"⟩
abbrev cX5_as : ByteArray := prog_1_method_25_code
def yX5_as : MethodName := ⟨RX5, "as", "(II)I"⟩
abbrev cX5_image : ByteArray := prog_1_method_26_code
def yX5_image : MethodName := ⟨RX5, "image", "()I"⟩
abbrev cX5_undo : ByteArray := prog_1_method_27_code
def yX5_undo : MethodName := ⟨RX5, "undo", "()I"⟩
abbrev cX5_count : ByteArray := prog_1_method_28_code
def yX5_count : MethodName := ⟨RX5, "count", "(I)I"⟩
abbrev cX5_isHour : ByteArray := prog_1_method_29_code
def yX5_isHour : MethodName := ⟨RX5, "isHour", "(I)Z"⟩
abbrev cX5_isPart : ByteArray := prog_1_method_30_code
def yX5_isPart : MethodName := ⟨RX5, "isPart", "(I)Z"⟩
abbrev cX5_bit : ByteArray := prog_1_method_31_code
def yX5_bit : MethodName := ⟨RX5, "bit", "(II)I"⟩
abbrev cX5_ownRow : ByteArray := prog_1_method_32_code
def yX5_ownRow : MethodName := ⟨RX5, "ownRow", "(II)I"⟩
abbrev cX5_commonDivisor : ByteArray := prog_1_method_33_code
def yX5_commonDivisor : MethodName := ⟨RX5, "commonDivisor", "(II)I"⟩
abbrev cX5_newestTown : ByteArray := prog_1_method_34_code
def yX5_newestTown : MethodName := ⟨RX5, "newestTown", "()LDayKnown$Town;"⟩
abbrev cX5_forgetTowns : ByteArray := prog_1_method_35_code
def yX5_forgetTowns : MethodName := ⟨RX5, "forgetTowns", "()V"⟩
abbrev cX5_searchNow : ByteArray := prog_1_method_36_code
def yX5_searchNow : MethodName := ⟨RX5, "searchNow", "()V"⟩
abbrev cX5_searchThen : ByteArray := prog_1_method_37_code
def yX5_searchThen : MethodName := ⟨RX5, "searchThen", "()V"⟩
abbrev cX5_placeOnPath : ByteArray := prog_1_method_38_code
def yX5_placeOnPath : MethodName := ⟨RX5, "placeOnPath", "(II)I"⟩
abbrev cX5_tellThen : ByteArray := prog_1_method_39_code
def yX5_tellThen : MethodName := ⟨RX5, "tellThen", "(I)V"⟩
abbrev cX5_wouldRather : ByteArray := prog_1_method_40_code
def yX5_wouldRather : MethodName := ⟨RX5, "wouldRather", "(II)Z"⟩
abbrev cX5_isBetterThen : ByteArray := prog_1_method_41_code
def yX5_isBetterThen : MethodName := ⟨RX5, "isBetterThen", "(I)Z"⟩
def RX6 : String := "DayKnownModel"
def TX6 : u_T := fun k => match k with
  | 0 => ("DayKnownModel", "thrown", "I", false)
  | 1 => ("DayKnownModel", "s", "[I", true)
  | 2 => ("DayKnownModel", "image", "[I", true)
  | 3 => ("DayKnownModel", "hasImage", "Z", false)
  | 4 => ("DayKnownModel", "act", "I", false)
  | 5 => ("DayKnownModel", "spot", "I", false)
  | 6 => ("DayKnownModel", "end", "I", false)
  | 7 => ("DayKnownModel", "isWrong", "Z", false)
  | 8 => ("DayKnownModel", "open", "I", false)
  | 9 => ("DayKnownModel", "by", "[I", true)
  | 10 => ("DayKnownModel", "truths", "[Z", true)
  | 11 => ("DayKnownModel", "table", "[I", true)
  | 12 => ("DayKnownModel", "bests", "[I", true)
  | 13 => ("DayKnownModel", "times", "I", false)
  | 14 => ("DayKnownModel", "standing", "I", false)
  | 15 => ("DayKnownModel", "leastDay", "I", false)
  | 16 => ("DayKnownModel", "greatestDay", "I", false)
  | 17 => ("DayKnownModel", "chosen", "I", false)
  | 18 => ("DayKnownModel", "chosenGain", "I", false)
  | 19 => ("DayKnownModel", "came", "[I", true)
  | 20 => ("DayKnownModel", "dayGain", "I", false)
  | 21 => ("DayKnownModel", "noteKept", "[I", true)
  | 22 => ("DayKnownModel", "kept", "[I", true)
  | 23 => ("DayKnownModel", "bodies", "[I", true)
  | 24 => ("DayKnownModel", "ran", "I", false)
  | 25 => ("DayKnownModel", "kind", "I", false)
  | 26 => ("DayKnownModel", "number", "I", false)
  | _ => ("DayKnownModel", "tellsV", "I", false)
def tyX6 : Nat → FieldType := fun k => match k with
  | 0 => .int
  | 1 => .array .int
  | 2 => .array .int
  | 3 => .boolean
  | 4 => .int
  | 5 => .int
  | 6 => .int
  | 7 => .boolean
  | 8 => .int
  | 9 => .array .int
  | 10 => .array .boolean
  | 11 => .array .int
  | 12 => .array .int
  | 13 => .int
  | 14 => .int
  | 15 => .int
  | 16 => .int
  | 17 => .int
  | 18 => .int
  | 19 => .array .int
  | 20 => .int
  | 21 => .array .int
  | 22 => .array .int
  | 23 => .array .int
  | 24 => .int
  | 25 => .int
  | 26 => .int
  | _ => .int
abbrev wsX60 : List Cond := u_ws RX6 TX6 28
theorem nmX6 : ∀ a, a < 28 → ∀ b, b < 28 → a ≠ b → (TX6 a).2.1 ≠ (TX6 b).2.1 := by decide +kernel
theorem tyX6_ok : ∀ k, k < 28 → parseFieldDescriptor (TX6 k).2.2.1 = some (tyX6 k) := by decide +kernel
abbrev cX6_init : ByteArray := prog_8_method_1_code
def yX6_init : MethodName := ⟨RX6, "<init>", "()V"⟩
abbrev cX6_in : ByteArray := prog_8_method_3_code
def yX6_in : MethodName := ⟨RX6, "in", "(III)Z"⟩
abbrev cX6_isPerson : ByteArray := prog_8_method_4_code
def yX6_isPerson : MethodName := ⟨RX6, "isPerson", "(I)Z"⟩
abbrev cX6_isHour : ByteArray := prog_8_method_5_code
def yX6_isHour : MethodName := ⟨RX6, "isHour", "(I)Z"⟩
abbrev cX6_days : ByteArray := prog_8_method_6_code
def yX6_days : MethodName := ⟨RX6, "days", "()I"⟩
abbrev cX6_isDay : ByteArray := prog_8_method_7_code
def yX6_isDay : MethodName := ⟨RX6, "isDay", "(I)Z"⟩
abbrev cX6_does : ByteArray := prog_8_method_8_code
def yX6_does : MethodName := ⟨RX6, "does", "(III)Z"⟩
abbrev cX6_feed : ByteArray := prog_8_method_9_code
def yX6_feed : MethodName := ⟨RX6, "feed", "(I)I"⟩
abbrev cX6_here : ByteArray := prog_8_method_10_code
def yX6_here : MethodName := ⟨RX6, "here", "()I"⟩
abbrev cX6_must : ByteArray := prog_8_method_11_code
def yX6_must : MethodName := ⟨RX6, "must", "(I)V"⟩
abbrev cX6_spells : ByteArray := prog_8_method_12_code
def yX6_spells : MethodName := ⟨RX6, "spells", "(Ljava/lang/String;)V"⟩
abbrev cX6_figures : ByteArray := prog_8_method_13_code
def yX6_figures : MethodName := ⟨RX6, "figures", "()I"⟩
abbrev cX6_among : ByteArray := prog_8_method_14_code
def yX6_among : MethodName := ⟨RX6, "among", "(Ljava/lang/String;)I"⟩
abbrev cX6_emits : ByteArray := prog_8_method_15_code
def yX6_emits : MethodName := ⟨RX6, "emits", "(I)V"⟩
abbrev cX6_factor : ByteArray := prog_8_method_16_code
def yX6_factor : MethodName := ⟨RX6, "factor", "()V"⟩
abbrev cX6_every : ByteArray := prog_8_method_17_code
def yX6_every : MethodName := ⟨RX6, "every", "()V"⟩
abbrev cX6_some : ByteArray := prog_8_method_18_code
def yX6_some : MethodName := ⟨RX6, "some", "()V"⟩
abbrev cX6_much : ByteArray := prog_8_method_19_code
def yX6_much : MethodName := ⟨RX6, "much", "(ILjava/lang/String;)V"⟩
abbrev cX6_clauseHere : ByteArray := prog_8_method_20_code
def yX6_clauseHere : MethodName := ⟨RX6, "clauseHere", "()V"⟩
abbrev cX6_town : ByteArray := prog_8_method_21_code
def yX6_town : MethodName := ⟨RX6, "town", "()I"⟩
abbrev cX6_tellsOf : ByteArray := prog_8_method_22_code
def yX6_tellsOf : MethodName := ⟨RX6, "tellsOf", "(I)I"⟩
abbrev cX6_worthBy : ByteArray := prog_8_method_23_code
def yX6_worthBy : MethodName := ⟨RX6, "worthBy", "()I"⟩
abbrev cX6_looksAt : ByteArray := prog_8_method_24_code
def yX6_looksAt : MethodName := ⟨RX6, "looksAt", "(I)V"⟩
abbrev cX6_looks : ByteArray := prog_8_method_25_code
def yX6_looks : MethodName := ⟨RX6, "looks", "()V"⟩
abbrev cX6_others : ByteArray := prog_8_method_26_code
def yX6_others : MethodName := ⟨RX6, "others", "(III)I"⟩
abbrev cX6_worthOf : ByteArray := prog_8_method_27_code
def yX6_worthOf : MethodName := ⟨RX6, "worthOf", "(III)I"⟩
abbrev cX6_gainOf : ByteArray := prog_8_method_28_code
def yX6_gainOf : MethodName := ⟨RX6, "gainOf", "(II)I"⟩
abbrev cX6_gainOfAll : ByteArray := prog_8_method_29_code
def yX6_gainOfAll : MethodName := ⟨RX6, "gainOfAll", "(I)I"⟩
abbrev cX6_told : ByteArray := prog_8_method_30_code
def yX6_told : MethodName := ⟨RX6, "told", "(I)I"⟩
abbrev cX6_person : ByteArray := prog_8_method_31_code
def yX6_person : MethodName := ⟨RX6, "person", "(II)I"⟩
abbrev cX6_of : ByteArray := prog_8_method_32_code
def yX6_of : MethodName := ⟨RX6, "of", "(II)I"⟩
abbrev cX6_row : ByteArray := prog_8_method_33_code
def yX6_row : MethodName := ⟨RX6, "row", "(II)I"⟩
abbrev cX6_note : ByteArray := prog_8_method_34_code
def yX6_note : MethodName := ⟨RX6, "note", "(IZ)I"⟩
abbrev cX6_yesterday : ByteArray := prog_8_method_35_code
def yX6_yesterday : MethodName := ⟨RX6, "yesterday", "(I)I"⟩
abbrev cX6_withOwn : ByteArray := prog_8_method_36_code
def yX6_withOwn : MethodName := ⟨RX6, "withOwn", "(III)I"⟩
abbrev cX6_bestOwn : ByteArray := prog_8_method_37_code
def yX6_bestOwn : MethodName := ⟨RX6, "bestOwn", "(II)I"⟩
abbrev cX6_isStrange : ByteArray := prog_8_method_38_code
def yX6_isStrange : MethodName := ⟨RX6, "isStrange", "(II)Z"⟩
abbrev cX6_wouldPlainly : ByteArray := prog_8_method_39_code
def yX6_wouldPlainly : MethodName := ⟨RX6, "wouldPlainly", "(III)Z"⟩
abbrev cX6_would : ByteArray := prog_8_method_40_code
def yX6_would : MethodName := ⟨RX6, "would", "(III)Z"⟩
abbrev cX6_answerTo : ByteArray := prog_8_method_41_code
def yX6_answerTo : MethodName := ⟨RX6, "answerTo", "(I)I"⟩
abbrev cX6_firstOtherwise : ByteArray := prog_8_method_42_code
def yX6_firstOtherwise : MethodName := ⟨RX6, "firstOtherwise", "(I)I"⟩
abbrev cX6_stands : ByteArray := prog_8_method_43_code
def yX6_stands : MethodName := ⟨RX6, "stands", "(I)Z"⟩
abbrev cX6_by : ByteArray := prog_8_method_44_code
def yX6_by : MethodName := ⟨RX6, "by", "(IIII)I"⟩
abbrev cX6_day : ByteArray := prog_8_method_45_code
def yX6_day : MethodName := ⟨RX6, "day", "(II)I"⟩
abbrev cX6_looksThrough : ByteArray := prog_8_method_46_code
def yX6_looksThrough : MethodName := ⟨RX6, "looksThrough", "()V"⟩
abbrev cX6_all : ByteArray := prog_8_method_47_code
def yX6_all : MethodName := ⟨RX6, "all", "(I)I"⟩
abbrev cX6_once : ByteArray := prog_8_method_48_code
def yX6_once : MethodName := ⟨RX6, "once", "(IIII)I"⟩
abbrev cX6_again : ByteArray := prog_8_method_49_code
def yX6_again : MethodName := ⟨RX6, "again", "(II)I"⟩
abbrev cX6_morningComes : ByteArray := prog_8_method_50_code
def yX6_morningComes : MethodName := ⟨RX6, "morningComes", "()I"⟩
abbrev cX6_morning : ByteArray := prog_8_method_51_code
def yX6_morning : MethodName := ⟨RX6, "morning", "()I"⟩
abbrev cX6_year : ByteArray := prog_8_method_52_code
def yX6_year : MethodName := ⟨RX6, "year", "(II)I"⟩
abbrev cX6_divisor : ByteArray := prog_8_method_53_code
def yX6_divisor : MethodName := ⟨RX6, "divisor", "(II)I"⟩
abbrev cX6_bet : ByteArray := prog_8_method_54_code
def yX6_bet : MethodName := ⟨RX6, "bet", "(III)I"⟩
abbrev cX6_keeps : ByteArray := prog_8_method_55_code
def yX6_keeps : MethodName := ⟨RX6, "keeps", "()V"⟩
abbrev cX6_goesBack : ByteArray := prog_8_method_56_code
def yX6_goesBack : MethodName := ⟨RX6, "goesBack", "()V"⟩
abbrev cX6_count1 : ByteArray := prog_8_method_57_code
def yX6_count1 : MethodName := ⟨RX6, "count1", "(I)I"⟩
abbrev cX6_sure : ByteArray := prog_8_method_58_code
def yX6_sure : MethodName := ⟨RX6, "sure", "()I"⟩
abbrev cX6_secret : ByteArray := prog_8_method_59_code
def yX6_secret : MethodName := ⟨RX6, "secret", "(II)I"⟩
abbrev cX6_isGood : ByteArray := prog_8_method_60_code
def yX6_isGood : MethodName := ⟨RX6, "isGood", "(III)Z"⟩
abbrev cX6_swap : ByteArray := prog_8_method_61_code
def yX6_swap : MethodName := ⟨RX6, "swap", "(I)I"⟩
abbrev cX6_book : ByteArray := prog_8_method_62_code
def yX6_book : MethodName := ⟨RX6, "book", "(I)I"⟩
abbrev cX6_looked : ByteArray := prog_8_method_63_code
def yX6_looked : MethodName := ⟨RX6, "looked", "(I)I"⟩
abbrev cX6_runs : ByteArray := prog_8_method_64_code
def yX6_runs : MethodName := ⟨RX6, "runs", "(I)V"⟩
abbrev cX6_isUnder : ByteArray := prog_8_method_65_code
def yX6_isUnder : MethodName := ⟨RX6, "isUnder", "(II)Z"⟩
abbrev cX6_plainKnows : ByteArray := prog_8_method_66_code
def yX6_plainKnows : MethodName := ⟨RX6, "plainKnows", "(I)I"⟩
abbrev cX6_knowsActs : ByteArray := prog_8_method_67_code
def yX6_knowsActs : MethodName := ⟨RX6, "knowsActs", "(I)I"⟩
abbrev cX6_plainDoes : ByteArray := prog_8_method_68_code
def yX6_plainDoes : MethodName := ⟨RX6, "plainDoes", "(I)I"⟩
abbrev cX6_doesActs : ByteArray := prog_8_method_69_code
def yX6_doesActs : MethodName := ⟨RX6, "doesActs", "(I)I"⟩
abbrev cX6_plainTells : ByteArray := prog_8_method_70_code
def yX6_plainTells : MethodName := ⟨RX6, "plainTells", "(I)I"⟩
abbrev cX6_tellsActs : ByteArray := prog_8_method_71_code
def yX6_tellsActs : MethodName := ⟨RX6, "tellsActs", "(I)I"⟩
abbrev cX6_act : ByteArray := prog_8_method_72_code
def yX6_act : MethodName := ⟨RX6, "act", "(III)I"⟩
abbrev cX6_trace : ByteArray := prog_8_method_73_code
def yX6_trace : MethodName := ⟨RX6, "trace", "(I)I"⟩
abbrev cX6_as : ByteArray := prog_8_method_74_code
def yX6_as : MethodName := ⟨RX6, "as", "(II)I"⟩
abbrev cX6_image : ByteArray := prog_8_method_75_code
def yX6_image : MethodName := ⟨RX6, "image", "()I"⟩
abbrev cX6_undo : ByteArray := prog_8_method_76_code
def yX6_undo : MethodName := ⟨RX6, "undo", "()I"⟩
abbrev cX6_count : ByteArray := prog_8_method_77_code
def yX6_count : MethodName := ⟨RX6, "count", "(I)I"⟩
def RJ6 : String := "java/lang/Integer"
def TJ6 : u_T := fun k => match k with
  | _ => ("", "", "", false)
def tyJ6 : Nat → FieldType := fun k => match k with
  | _ => .int
abbrev wsJ60 : List Cond := u_ws RJ6 TJ6 0
theorem nmJ6 : ∀ a, a < 0 → ∀ b, b < 0 → a ≠ b → (TJ6 a).2.1 ≠ (TJ6 b).2.1 := by decide +kernel
theorem tyJ6_ok : ∀ k, k < 0 → parseFieldDescriptor (TJ6 k).2.2.1 = some (tyJ6 k) := by decide +kernel
abbrev cJ6_bitCount_0f7a4 : ByteArray := prog_9_method_49_code
def yJ6_bitCount_0f7a4 : MethodName := ⟨RJ6, "bitCount", "(I)I"⟩
def RJ9 : String := "java/lang/Math"
def TJ9 : u_T := fun k => match k with
  | _ => ("", "", "", false)
def tyJ9 : Nat → FieldType := fun k => match k with
  | _ => .int
abbrev wsJ90 : List Cond := u_ws RJ9 TJ9 0
theorem nmJ9 : ∀ a, a < 0 → ∀ b, b < 0 → a ≠ b → (TJ9 a).2.1 ≠ (TJ9 b).2.1 := by decide +kernel
theorem tyJ9_ok : ∀ k, k < 0 → parseFieldDescriptor (TJ9 k).2.2.1 = some (tyJ9 k) := by decide +kernel
abbrev cJ9_max_7cf53 : ByteArray := prog_10_method_65_code
def yJ9_max_7cf53 : MethodName := ⟨RJ9, "max", "(II)I"⟩
abbrev cJ9_min_7cf53 : ByteArray := prog_10_method_69_code
def yJ9_min_7cf53 : MethodName := ⟨RJ9, "min", "(II)I"⟩
def RJ0 : String := "java/lang/String"
def TJ0 : u_T := fun k => match k with
  | _ => ("", "", "", false)
def tyJ0 : Nat → FieldType := fun k => match k with
  | _ => .int
abbrev wsJ00 : List Cond := u_ws RJ0 TJ0 0
theorem nmJ0 : ∀ a, a < 0 → ∀ b, b < 0 → a ≠ b → (TJ0 a).2.1 ≠ (TJ0 b).2.1 := by decide +kernel
theorem tyJ0_ok : ∀ k, k < 0 → parseFieldDescriptor (TJ0 k).2.2.1 = some (tyJ0 k) := by decide +kernel
abbrev cJ0_length_8abf5 : ByteArray := prog_11_method_54_code
def yJ0_length_8abf5 : MethodName := ⟨RJ0, "length", "()I"⟩
abbrev cJ0_charAt_5068e : ByteArray := prog_11_method_56_code
def yJ0_charAt_5068e : MethodName := ⟨RJ0, "charAt", "(I)C"⟩
abbrev cJ0_coder_7d493 : ByteArray := prog_11_method_152_code
def yJ0_coder_7d493 : MethodName := ⟨RJ0, "coder", "()B"⟩
abbrev cJ0_isLatin1_aae02 : ByteArray := prog_11_method_154_code
def yJ0_isLatin1_aae02 : MethodName := ⟨RJ0, "isLatin1", "()Z"⟩
abbrev cJ0_checkIndex_df160 : ByteArray := prog_11_method_155_code
def yJ0_checkIndex_df160 : MethodName := ⟨RJ0, "checkIndex", "(II)V"⟩
def RJ1 : String := "java/lang/StringLatin1"
def TJ1 : u_T := fun k => match k with
  | _ => ("", "", "", false)
def tyJ1 : Nat → FieldType := fun k => match k with
  | _ => .int
abbrev wsJ10 : List Cond := u_ws RJ1 TJ1 0
theorem nmJ1 : ∀ a, a < 0 → ∀ b, b < 0 → a ≠ b → (TJ1 a).2.1 ≠ (TJ1 b).2.1 := by decide +kernel
theorem tyJ1_ok : ∀ k, k < 0 → parseFieldDescriptor (TJ1 k).2.2.1 = some (tyJ1 k) := by decide +kernel
abbrev cJ1_charAt_3b067 : ByteArray := prog_12_method_2_code
def yJ1_charAt_3b067 : MethodName := ⟨RJ1, "charAt", "([BI)C"⟩
def RJ2 : String := "java/lang/StringUTF16"
def TJ2 : u_T := fun k => match k with
  | _ => ("", "", "", false)
def tyJ2 : Nat → FieldType := fun k => match k with
  | _ => .int
abbrev wsJ20 : List Cond := u_ws RJ2 TJ2 0
theorem nmJ2 : ∀ a, a < 0 → ∀ b, b < 0 → a ≠ b → (TJ2 a).2.1 ≠ (TJ2 b).2.1 := by decide +kernel
theorem tyJ2_ok : ∀ k, k < 0 → parseFieldDescriptor (TJ2 k).2.2.1 = some (tyJ2 k) := by decide +kernel
abbrev cJ2_getChar_3b067 : ByteArray := prog_13_method_5_code
def yJ2_getChar_3b067 : MethodName := ⟨RJ2, "getChar", "([BI)C"⟩
abbrev cJ2_length_9d52b : ByteArray := prog_13_method_6_code
def yJ2_length_9d52b : MethodName := ⟨RJ2, "length", "([B)I"⟩
abbrev cJ2_charAt_3b067 : ByteArray := prog_13_method_83_code
def yJ2_charAt_3b067 : MethodName := ⟨RJ2, "charAt", "([BI)C"⟩
abbrev cJ2_checkIndex_2214a : ByteArray := prog_13_method_91_code
def yJ2_checkIndex_2214a : MethodName := ⟨RJ2, "checkIndex", "(I[B)V"⟩
def RJ10 : String := "java/lang/System"
def TJ10 : u_T := fun k => match k with
  | _ => ("", "", "", false)
def tyJ10 : Nat → FieldType := fun k => match k with
  | _ => .int
abbrev wsJ100 : List Cond := u_ws RJ10 TJ10 0
theorem nmJ10 : ∀ a, a < 0 → ∀ b, b < 0 → a ≠ b → (TJ10 a).2.1 ≠ (TJ10 b).2.1 := by decide +kernel
theorem tyJ10_ok : ∀ k, k < 0 → parseFieldDescriptor (TJ10 k).2.2.1 = some (tyJ10 k) := by decide +kernel
def RJ3 : String := "jdk/internal/util/Preconditions"
def TJ3 : u_T := fun k => match k with
  | _ => ("", "", "", false)
def tyJ3 : Nat → FieldType := fun k => match k with
  | _ => .int
abbrev wsJ30 : List Cond := u_ws RJ3 TJ3 0
theorem nmJ3 : ∀ a, a < 0 → ∀ b, b < 0 → a ≠ b → (TJ3 a).2.1 ≠ (TJ3 b).2.1 := by decide +kernel
theorem tyJ3_ok : ∀ k, k < 0 → parseFieldDescriptor (TJ3 k).2.2.1 = some (tyJ3 k) := by decide +kernel
abbrev cJ3_checkIndex_8e157 : ByteArray := prog_15_method_11_code
def yJ3_checkIndex_8e157 : MethodName := ⟨RJ3, "checkIndex", "(IILjava/util/function/BiFunction;)I"⟩
def RL : String := "DayKnownLaw"
abbrev cL_law : ByteArray := code
def yL_law : MethodName := ⟨RL, "law", "([I)Z"⟩
end
section
/-! the words in one list; links of nest mates; what every method is told -/
section CB
def va_AOA (t : FieldType) (U : State) : Prop := (Cond.arrayOver (.array t)).before #[] U = true
theorem va_AOA.use {t : FieldType} {A : Array Value} {U : State} (h : va_AOA t U) : (Cond.arrayOver (.array t)).before A U = true := h
theorem va_AOA.moved {t : FieldType} {u U : State} (hvm : u.vm.Alike U.vm) (h : va_AOA t u) : va_AOA t U := over_moved (a := #[]) (a' := #[]) hvm h
def isNest : Cond → Bool
  | .fieldLinkNest .. => true
  | .methodLinkNest .. => true
  | _ => false
def WALL : List Cond := lw_tbl.filter goodWord
theorem wall {w : Cond} (k : Nat) (h : lw_tbl[k]? = some w) (hg : goodWord w = true) : w ∈ WALL := List.mem_filter.mpr ⟨List.mem_of_getElem? h, hg⟩
theorem wall_in {w : Cond} (h : w ∈ WALL) : GoodIn WALL (w :: WALL) := by
  intro v hv
  have hv : v ∈ WALL := by
    rcases List.mem_cons.mp hv with rfl | hv
    · exact h
    · exact hv
  exact ⟨hv, good_of_word (List.mem_filter.mp hv).2⟩
def NW (U : State) : Prop := (∀ w ∈ lw_tbl, isNest w = true → va_Nw w U) ∧ va_AO "DayKnown$Town" U ∧ va_AOA .int U
theorem NW.warm {s U : State} (hW : s.WarmedH U.vm) (h : NW s) : NW U := by
  refine ⟨fun w hw hn => ?_, va_AO.moved hW.alike h.2.1, va_AOA.moved hW.alike h.2.2⟩
  have h1 := h.1 w hw hn
  cases w <;> first | (simp [isNest] at hn; done) | exact va_Nw.warmF hW h1 | exact va_Nw.warmM hW h1
theorem NW.same {u U : State} (hv : u.vm = U.vm) (h : NW u) : NW U := by
  refine ⟨fun w hw hn => ?_, va_AO.moved (by rw [hv]; exact Vm.Alike.refl _) h.2.1, va_AOA.moved (by rw [hv]; exact Vm.Alike.refl _) h.2.2⟩
  have h1 := h.1 w hw hn
  cases w <;> first | (simp [isNest] at hn; done) | exact va_Nw.same rfl hv h1
theorem NW.get {U : State} (h : NW U) {w : Cond} (k : Nat) (hk : lw_tbl[k]? = some w) (hn : isNest w = true) : va_Nw w U := h.1 w (List.mem_of_getElem? hk) hn
/-- the classes whose objects the worlds hold -/
abbrev CL : List vw_C := [(RX0, TX0, 5), (RX1, TX1, 12), (RX2, TX2, 6), (RX3, TX3, 6), (RX4, TX4, 9), (RX5, TX5, 9), (RX6, TX6, 28)]
abbrev XT : Type := (Nat → Prop) → State → Heap → Prop
/-- facts of what nobody writes: they stand while the machine goes on, and hold for a smaller part -/
def XOK (X : XT) : Prop := (∀ (A : Nat → Prop) (u U : State) (H : Heap), u.WarmedH U.vm → X A u H → X A U H) ∧ (∀ (A : Nat → Prop) (U : State) (H H1 : Heap), (∀ a : Nat, a < H.size → ¬ A a → H1[a]? = H[a]?) → X A U H → X A U H1) ∧ (∀ (A B : Nat → Prop) (U : State) (H : Heap), (∀ q, B q → A q) → X A U H → X B U H)
def wB (D : va_G) (ty : List (ClassId × FieldType)) (X : XT) (sz : Nat) (ws : va_W) : State → Prop := fun U => U.heap.size = sz ∧ va_P D CL ws U.heap ∧ va_K D CL ty U ∧ va_D (fun _ => True) ws ∧ NW U ∧ X (va_A ws sz) U U.heap
def wE (D : va_G) (ty : List (ClassId × FieldType)) (A : Nat → Prop) (ws : va_W) : State → Prop := fun t => va_P D CL ws t.heap ∧ va_K D CL ty t ∧ va_D A ws
theorem wB.blind {D : va_G} {ty : List (ClassId × FieldType)} {X : XT} (hX : XOK X) {sz : Nat} {ws : va_W} (av : List Value) : FrameBlind (va_Pc av (wB D ty X sz ws)) := fun a U g mk q => by
  obtain ⟨q0, q1, qP, qK, qD, qN, qX⟩ := q
  exact ⟨q0, q1, qP, va_K.moved (u := U) (U := U.calling g mk a) (Vm.Alike.refl U.vm) qK, qD, NW.same (u := U) (U := U.calling g mk a) rfl qN, hX.1 _ U (U.calling g mk a) _ (State.WarmedH.refl U) qX⟩
def MetI (l : Launch) (y : MethodName) (cc : ByteArray) (n : Nat) (rt : FieldType) (rm : Room) (av : List Value) (D : va_G) (ty : List (ClassId × FieldType)) (X : XT) (sz : Nat) (ws : va_W) {S : Type} (post : Int32 → S → Prop) (w1 : S → va_W) : Prop :=
  Met l y (.code y cc n (some rt) :: WALL) rm (va_Pc av (wB D ty X sz ws)) (va_Qi post (fun u => wE D ty (va_A ws sz) (w1 u)) (va_A ws sz)) rm.cells rm.slots (va_A ws sz)
def MetV (l : Launch) (y : MethodName) (cc : ByteArray) (n : Nat) (rm : Room) (av : List Value) (D : va_G) (ty : List (ClassId × FieldType)) (X : XT) (sz : Nat) (ws : va_W) {S : Type} (post : S → Prop) (w1 : S → va_W) : Prop :=
  Met l y (.code y cc n none :: WALL) rm (va_Pc av (wB D ty X sz ws)) (va_Qv post (fun u => wE D ty (va_A ws sz) (w1 u)) (va_A ws sz)) rm.cells rm.slots (va_A ws sz)
/-- an answer that is the cell at ra -/
def MetR (l : Launch) (y : MethodName) (cc : ByteArray) (n : Nat) (rt : FieldType) (rm : Room) (av : List Value) (D : va_G) (ty : List (ClassId × FieldType)) (X : XT) (sz : Nat) (ws : va_W) (ra : Nat) {S : Type} (post : S → Prop) (w1 : S → va_W) : Prop :=
  Met l y (.code y cc n (some rt) :: WALL) rm (va_Pc av (wB D ty X sz ws)) (va_Qr post (fun u a t => a = ra ∧ wE D ty (va_A ws sz) (w1 u) t) (va_A ws sz)) rm.cells rm.slots (va_A ws sz)
/-- what holds in a method's body from its entry on -/
def Ctx (p : Program) (s : State) (m : MethodId) (args : Array Value) (meth : Method) (c : Code) (y : MethodName) (cc : ByteArray) (n : Nat) (rt : Option FieldType) (D : va_G) (ty : List (ClassId × FieldType)) (A : Nat → Prop) : Prop :=
  p.tables.exec = Jvm.exec ∧ c.code = cc ∧ meth.sig.returnType = rt ∧ c.maxLocals = n ∧ s.vm.findClass y.cls = some m.cls ∧ meth.locks = false ∧ (y.name = "<init>" → meth.name = "<init>") ∧ (∀ w ∈ WALL, w.before args s = true) ∧ NW s ∧ va_K D CL ty s ∧ ∀ q, s.heap.size ≤ q → A q
theorem MetI.mk {l : Launch} {y : MethodName} {cc : ByteArray} {n : Nat} {rt : FieldType} {rm : Room} {av : List Value} {D : va_G} {ty : List (ClassId × FieldType)} {X : XT} {sz : Nat} {ws : va_W} {S : Type} {post : Int32 → S → Prop} {w1 : S → va_W}
    (hy : plainName y.cls = true) (hn : (lg_sl av).length ≤ n) {lv : List (Nat × Value)} (hlv : lv_args 0 av = lv)
    (body : ∀ (p : Program) (e : Env) (s : State) (m : MethodId) (below : List Frame) (meth : Method) (c : Code) (A : Nat → Prop) (ls : Array Slot), Ctx p s m av.toArray meth c y cc n (some rt) D ty A → va_P D CL ws s.heap → va_D A ws → va_S A s.heap s.heap [] → X A s s.heap → lv_has ls n lv →
      W p l e rm s m av.toArray below meth c s.heap [] 0 0 (MQ below (va_Qi post (fun u => wE D ty A (w1 u)) A) av.toArray s rm.cells rm.slots A) (F0 m 0 ls [])) : MetI l y cc n rt rm av D ty X sz ws post w1 := by
  refine Met.ofW (cc := cc) (maxL := n) (ret := some rt) hy rfl ?_
  intro p e s m args below meth c s₁ B hml hv
  obtain ⟨rfl, hsz, hP, hK, hD0, hN, hX⟩ := hv
  have hts := atoms_spec (ws := .code y cc n (some rt) :: WALL) B.pre
  subst hsz
  have hD := hD0.self (sz := s.heap.size)
  have hl := lv_entry av (n := n) hn
  rw [lg_entry_eq]
  rw [hlv] at hl
  exact body p e s m below meth c _ _ ⟨B.exec, B.bytes, B.returns, hml, findClass_of_methodNamed B.named, B.notSynchronized, fun h => (name_of_methodNamed B.named B.method).1.trans h, fun w h => hts w (List.mem_cons_of_mem _ h), hN, hK, fun q h => Or.inr h⟩ hP hD va_S.rf hX hl
theorem MetV.mk {l : Launch} {y : MethodName} {cc : ByteArray} {n : Nat} {rm : Room} {av : List Value} {D : va_G} {ty : List (ClassId × FieldType)} {X : XT} {sz : Nat} {ws : va_W} {S : Type} {post : S → Prop} {w1 : S → va_W}
    (hy : plainName y.cls = true) (hn : (lg_sl av).length ≤ n) {lv : List (Nat × Value)} (hlv : lv_args 0 av = lv)
    (body : ∀ (p : Program) (e : Env) (s : State) (m : MethodId) (below : List Frame) (meth : Method) (c : Code) (A : Nat → Prop) (ls : Array Slot), Ctx p s m av.toArray meth c y cc n none D ty A → va_P D CL ws s.heap → va_D A ws → va_S A s.heap s.heap [] → X A s s.heap → lv_has ls n lv →
      W p l e rm s m av.toArray below meth c s.heap [] 0 0 (MQ below (va_Qv post (fun u => wE D ty A (w1 u)) A) av.toArray s rm.cells rm.slots A) (F0 m 0 ls [])) : MetV l y cc n rm av D ty X sz ws post w1 := by
  refine Met.ofW (cc := cc) (maxL := n) (ret := none) hy rfl ?_
  intro p e s m args below meth c s₁ B hml hv
  obtain ⟨rfl, hsz, hP, hK, hD0, hN, hX⟩ := hv
  have hts := atoms_spec (ws := .code y cc n none :: WALL) B.pre
  subst hsz
  have hD := hD0.self (sz := s.heap.size)
  have hl := lv_entry av (n := n) hn
  rw [lg_entry_eq]
  rw [hlv] at hl
  exact body p e s m below meth c _ _ ⟨B.exec, B.bytes, B.returns, hml, findClass_of_methodNamed B.named, B.notSynchronized, fun h => (name_of_methodNamed B.named B.method).1.trans h, fun w h => hts w (List.mem_cons_of_mem _ h), hN, hK, fun q h => Or.inr h⟩ hP hD va_S.rf hX hl
theorem MetR.mk {l : Launch} {y : MethodName} {cc : ByteArray} {n : Nat} {rt : FieldType} {rm : Room} {av : List Value} {D : va_G} {ty : List (ClassId × FieldType)} {X : XT} {sz : Nat} {ws : va_W} {ra : Nat} {S : Type} {post : S → Prop} {w1 : S → va_W}
    (hy : plainName y.cls = true) (hn : (lg_sl av).length ≤ n) {lv : List (Nat × Value)} (hlv : lv_args 0 av = lv)
    (body : ∀ (p : Program) (e : Env) (s : State) (m : MethodId) (below : List Frame) (meth : Method) (c : Code) (A : Nat → Prop) (ls : Array Slot), Ctx p s m av.toArray meth c y cc n (some rt) D ty A → va_P D CL ws s.heap → va_D A ws → va_S A s.heap s.heap [] → X A s s.heap → lv_has ls n lv →
      W p l e rm s m av.toArray below meth c s.heap [] 0 0 (MQ below (va_Qr post (fun u a t => a = ra ∧ wE D ty A (w1 u) t) A) av.toArray s rm.cells rm.slots A) (F0 m 0 ls [])) : MetR l y cc n rt rm av D ty X sz ws ra post w1 := by
  refine Met.ofW (cc := cc) (maxL := n) (ret := some rt) hy rfl ?_
  intro p e s m args below meth c s₁ B hml hv
  obtain ⟨rfl, hsz, hP, hK, hD0, hN, hX⟩ := hv
  have hts := atoms_spec (ws := .code y cc n (some rt) :: WALL) B.pre
  subst hsz
  have hD := hD0.self (sz := s.heap.size)
  have hl := lv_entry av (n := n) hn
  rw [lg_entry_eq]
  rw [hlv] at hl
  exact body p e s m below meth c _ _ ⟨B.exec, B.bytes, B.returns, hml, findClass_of_methodNamed B.named, B.notSynchronized, fun h => (name_of_methodNamed B.named B.method).1.trans h, fun w h => hts w (List.mem_cons_of_mem _ h), hN, hK, fun q h => Or.inr h⟩ hP hD va_S.rf hX hl
section RET
variable {p : Program} {l : Launch} {e : Env} {R : Room} {s : State} {m : MethodId} {args : Array Value} {below : List Frame} {meth : Method} {c : Code} {H : Heap} {locs : List Loc} {cells slots : Nat} {Q : State → Prop}
variable {y : MethodName} {cc : ByteArray} {n : Nat} {D : va_G} {ty : List (ClassId × FieldType)} {A : Nat → Prop} {pc mc ms : Nat} {ls : Array Slot} {S : Type} {w1 : S → va_W}
theorem retI {rt : FieldType} {post : Int32 → S → Prop} {v : Int32} (C0 : Ctx p s m args meth c y cc n (some rt) D ty A) (hn : narrow rt (.int v) = .int v) (u : S) (hp : post v u) (hP : va_P D CL (w1 u) H) (hD : va_D A (w1 u)) (hS : va_S A s.heap H locs) (hc : cells ≤ mc) (hs : slots ≤ ms) (hdg : decode cc pc = .ok (.ireturn, 1)) :
    W p l e R s m args below meth c H locs cells slots (MQ below (va_Qi post (fun u => wE D ty A (w1 u)) A) args s mc ms A) (F0 m pc ls [.int v]) := by
  obtain ⟨hx, hb, hr, hml, hown, hlocks, hname, hT, hN, hK, hA⟩ := C0
  refine W.widen (k := mc) (n := ms) hc hs ?_
  exact W.zret hx hb hr hn (fun t ht hW => ⟨⟨v, u, rfl, hp, by rw [ht]; exact hP, va_K.moved hW.alike hK, hD⟩, hS.F ht⟩) hS.2.2 hdg (hlocks := hlocks)
theorem retV {post : S → Prop} (C0 : Ctx p s m args meth c y cc n none D ty A) (u : S) (hp : post u) (hP : va_P D CL (w1 u) H) (hD : va_D A (w1 u)) (hS : va_S A s.heap H locs) (hc : cells ≤ mc) (hs : slots ≤ ms) (hdg : decode cc pc = .ok (.return_, 1)) :
    W p l e R s m args below meth c H locs cells slots (MQ below (va_Qv post (fun u => wE D ty A (w1 u)) A) args s mc ms A) (F0 m pc ls []) := by
  obtain ⟨hx, hb, hr, hml, hown, hlocks, hname, hT, hN, hK, hA⟩ := C0
  refine W.widen (k := mc) (n := ms) hc hs ?_
  exact W.vret hx hb hr (fun t ht hW => ⟨⟨u, rfl, hp, by rw [ht]; exact hP, va_K.moved hW.alike hK, hD⟩, hS.F ht⟩) hS.2.2 hdg (hlocks := hlocks)
theorem retR {rt : FieldType} {post : S → Prop} {ra : Nat} (C0 : Ctx p s m args meth c y cc n (some rt) D ty A) (hrt : ∃ n, rt = .object n) (u : S) (hp : post u) (hP : va_P D CL (w1 u) H) (hD : va_D A (w1 u)) (hS : va_S A s.heap H locs) (hc : cells ≤ mc) (hs : slots ≤ ms) (hdg : decode cc pc = .ok (.areturn, 1)) :
    W p l e R s m args below meth c H locs cells slots (MQ below (va_Qr post (fun u a t => a = ra ∧ wE D ty A (w1 u) t) A) args s mc ms A) (F0 m pc ls [.ref ra]) := by
  obtain ⟨hx, hb, hr, hml, hown, hlocks, hname, hT, hN, hK, hA⟩ := C0
  refine W.widen (k := mc) (n := ms) hc hs ?_
  exact W.aret hx hb hr (Or.inl hrt) (Or.inr ⟨ra, rfl⟩) (fun t ht hW => ⟨⟨u, ra, rfl, hp, rfl, by rw [ht]; exact hP, va_K.moved hW.alike hK, hD⟩, hS.F ht⟩) hS.2.2 hdg (hlocks := hlocks)
/-- a concrete number under another spelling -/
theorem lv_ci {x : Int32} {rest : List Value} (z : Int32) (h : x = z) (k : W p l e R s m args below meth c H locs cells slots Q (F0 m pc ls (.int z :: rest))) : W p l e R s m args below meth c H locs cells slots Q (F0 m pc ls (.int x :: rest)) := h ▸ k
end RET
end CB
end
section
/-! calls out of a body: the callee's cells are cut out, and what came back is put beside the rest; new arrays of known classes -/
section CC
theorem fm_of {α β : Type} {f : α → Option β} : ∀ {is : List α} {w : List β}, is.map f = w.map some → is.filterMap f = w
  | [], [], _ => rfl
  | [], _ :: _, h => by cases h
  | _ :: _, [], h => by cases h
  | a :: is, b :: w, h => by
    rw [List.map_cons, List.map_cons, List.cons.injEq] at h
    rw [List.filterMap_cons, h.1]
    exact congrArg (b :: ·) (fm_of h.2)
variable {p : Program} {l : Launch} {e : Env} {R : Room} {s : State} {m : MethodId} {args : Array Value} {below : List Frame} {meth : Method} {c : Code} {H : Heap} {locs : List Loc} {cells slots : Nat} {Q : State → Prop}
variable {y : MethodName} {cc : ByteArray} {n : Nat} {rt : Option FieldType} {D : va_G} {ty : List (ClassId × FieldType)} {A : Nat → Prop} {pc : Nat} {ls : Array Slot} {rest st0 : List Value} {ws wc wr : va_W}
theorem pre_of {X : XT} (C0 : Ctx p s m args meth c y cc n rt D ty A) (hP : va_P D CL ws H) (hD : va_D A ws) (hS : va_S A s.heap H locs) (hX : XOK X) (hXs : X A s s.heap) (isC : List Nat) (hC : isC.map (fun i => ws[i]?) = wc.map some) (hn : va_nd isC = true) :
    ∀ U : State, U.heap = H → s.WarmedH U.vm → wB D ty X H.size wc U := by
  obtain ⟨hx, hb, hr, hml, hown, hlocks, hname, hT, hN, hK, hA⟩ := C0
  intro U hU hW
  refine ⟨by rw [hU], by rw [hU]; exact hP.sub isC (fm_of hC), va_K.moved hW.alike hK, (hD.sub isC hn hC).weaken (fun _ _ _ _ => trivial), NW.warm hW hN, ?_⟩
  rw [hU]
  exact hX.2.2 A _ _ _ (va_free hD hS hA isC hC) (hX.1 _ s U _ hW (hX.2.1 A s s.heap H hS.2.1 hXs))
theorem runV {y' : MethodName} {bytes : ByteArray} {maxL k index : Nat} {ret : Option FieldType} {rm : Room} {Qc : Array Value → State → Outcome → State → Prop} {b : Nat} {As : List Value} {X : XT}
    (C0 : Ctx p s m args meth c y cc n rt D ty A) (hM : Met l y' (.code y' bytes maxL ret :: WALL) rm (va_Pc (.ref b :: As) (wB D ty X H.size wc)) Qc rm.cells rm.slots (va_A wc H.size))
    (hcode : Cond.code y' bytes maxL ret ∈ WALL) (hlk : Cond.methodLink y.cls index y' ∈ WALL) (hin : Cond.instanceMethod y' ∈ WALL) (hse : Cond.selects y'.cls y' y' ∈ WALL) (hini : Cond.initialized y'.cls ∈ WALL)
    (hd : y'.cls ≠ "java/lang/invoke/MethodHandle" ∧ y'.cls ≠ "java/lang/invoke/VarHandle" ∧ (parseMethodDescriptor y'.desc).map (fun d => d.parameters.length) = some k) (hR : rm.frames + 1 ≤ R.frames ∧ 8 + (maxL + 11) + rm.locals ≤ R.locals)
    (hP : va_P D CL ws H) (hD : va_D A ws) (hS : va_S A s.heap H locs) (hX : XOK X) (hXs : X A s s.heap) (isC : List Nat) (hC : isC.map (fun i => ws[i]?) = wc.map some) (hnd : va_nd isC = true)
    (q0 : Nat) {ci : Nat} {fs : List Value} {q : vw_C} (he : ws[q0]? = some (b, .inr (ci, fs))) (hc : CL[ci]? = some q) (hq : q.1 = y'.cls)
    (hk : As.length = k) (hsize : ls.size = n) (hst : st0 = As.reverse ++ .ref b :: rest) (hW : (rest.map fun v => v.category).sum ≤ 8) (hdg : decode cc pc = .ok (.invokevirtual index, 3)) (hf : cells + rm.cells ≤ R.cells ∧ slots + rm.slots ≤ R.slots) :
    va_Run p l e R s m args below meth c H locs cells slots rm.cells rm.slots (F0 m pc ls st0) rest (Qc (Value.ref b :: As).toArray) (va_A wc H.size) := by
  have hpre := pre_of C0 hP hD hS hX hXs isC hC hnd
  obtain ⟨hx, hb, hr, hml, hown, hlocks, hname, hT, hN, hK, hA⟩ := C0
  have hG : GoodIn WALL (wsV y.cls index y'.cls y' (.code y' bytes maxL ret :: WALL)) := by
    intro w hw
    rcases List.mem_append.mp hw with hw | hw
    · have hw : w ∈ WALL := by
        simp only [List.mem_cons, List.not_mem_nil, or_false] at hw
        rcases hw with rfl | rfl | rfl | rfl <;> assumption
      exact ⟨hw, good_of_word (List.mem_filter.mp hw).2⟩
    · exact wall_in hcode w hw
  have hrec := va_recv hK hP hc he
  rw [hq] at hrec
  exact va_runV (As := As) (rest := rest) (C := y'.cls) ⟨hx, hb, hml, hown, hT⟩ hM (cwV k hT hG rfl rfl rfl ⟨rfl, hd⟩ hR) ⟨wB.blind hX _, hrec, fun U hU hW => ⟨rfl, hpre U hU hW⟩⟩ rfl hk hsize hst (lv_room hW) hdg hf
theorem runVN {y' : MethodName} {bytes : ByteArray} {maxL k index : Nat} {ret : Option FieldType} {rm : Room} {Qc : Array Value → State → Outcome → State → Prop} {b : Nat} {As : List Value} {X : XT} (host : String) (kN : Nat)
    (C0 : Ctx p s m args meth c y cc n rt D ty A) (hM : Met l y' (.code y' bytes maxL ret :: WALL) rm (va_Pc (.ref b :: As) (wB D ty X H.size wc)) Qc rm.cells rm.slots (va_A wc H.size))
    (hcode : Cond.code y' bytes maxL ret ∈ WALL) (hlk : lw_tbl[kN]? = some (Cond.methodLinkNest y.cls index y' host)) (hin : Cond.instanceMethod y' ∈ WALL) (hse : Cond.selects y'.cls y' y' ∈ WALL) (hini : Cond.initialized y'.cls ∈ WALL)
    (hd : y'.cls ≠ "java/lang/invoke/MethodHandle" ∧ y'.cls ≠ "java/lang/invoke/VarHandle" ∧ (parseMethodDescriptor y'.desc).map (fun d => d.parameters.length) = some k) (hR : rm.frames + 1 ≤ R.frames ∧ 8 + (maxL + 11) + rm.locals ≤ R.locals)
    (hP : va_P D CL ws H) (hD : va_D A ws) (hS : va_S A s.heap H locs) (hX : XOK X) (hXs : X A s s.heap) (isC : List Nat) (hC : isC.map (fun i => ws[i]?) = wc.map some) (hnd : va_nd isC = true)
    (q0 : Nat) {ci : Nat} {fs : List Value} {q : vw_C} (he : ws[q0]? = some (b, .inr (ci, fs))) (hc : CL[ci]? = some q) (hq : q.1 = y'.cls)
    (hk : As.length = k) (hsize : ls.size = n) (hst : st0 = As.reverse ++ .ref b :: rest) (hW : (rest.map fun v => v.category).sum ≤ 8) (hdg : decode cc pc = .ok (.invokevirtual index, 3)) (hf : cells + rm.cells ≤ R.cells ∧ slots + rm.slots ≤ R.slots) :
    va_Run p l e R s m args below meth c H locs cells slots rm.cells rm.slots (F0 m pc ls st0) rest (Qc (Value.ref b :: As).toArray) (va_A wc H.size) := by
  have hpre := pre_of C0 hP hD hS hX hXs isC hC hnd
  obtain ⟨hx, hb, hr, hml, hown, hlocks, hname, hT, hN, hK, hA⟩ := C0
  have hrec := va_recv hK hP hc he
  rw [hq] at hrec
  exact va_runVN (As := As) (rest := rest) (C := y'.cls) (host := host) ⟨hx, hb, hml, hown, hT⟩ hM ⟨va_cnB k hT (wall_in hcode) rfl rfl rfl (hN.get kN hlk rfl) (hT _ hini) hd hR, hT _ hin, hT _ hse⟩ ⟨wB.blind hX _, hrec, fun U hU hW => ⟨rfl, hpre U hU hW⟩⟩ rfl hk hsize hst (lv_room hW) hdg hf
theorem runS {y' : MethodName} {bytes : ByteArray} {maxL k index : Nat} {ret : Option FieldType} {rm : Room} {Qc : Array Value → State → Outcome → State → Prop} {As : List Value} {X : XT}
    (C0 : Ctx p s m args meth c y cc n rt D ty A) (hM : Met l y' (.code y' bytes maxL ret :: WALL) rm (va_Pc As (wB D ty X H.size wc)) Qc rm.cells rm.slots (va_A wc H.size))
    (hcode : Cond.code y' bytes maxL ret ∈ WALL) (hlk : Cond.methodLink y.cls index y' ∈ WALL) (hsc : Cond.static y' ∈ WALL) (hini : Cond.initialized y'.cls ∈ WALL)
    (hd : y'.cls ≠ "java/lang/invoke/MethodHandle" ∧ y'.cls ≠ "java/lang/invoke/VarHandle" ∧ (parseMethodDescriptor y'.desc).map (fun d => d.parameters.length) = some k) (hR : rm.frames + 1 ≤ R.frames ∧ 8 + (maxL + 11) + rm.locals ≤ R.locals)
    (hP : va_P D CL ws H) (hD : va_D A ws) (hS : va_S A s.heap H locs) (hX : XOK X) (hXs : X A s s.heap) (isC : List Nat) (hC : isC.map (fun i => ws[i]?) = wc.map some) (hnd : va_nd isC = true)
    (hk : As.length = k) (hsize : ls.size = n) (hst : st0 = As.reverse ++ rest) (hW : (rest.map fun v => v.category).sum ≤ 8) (hdg : decode cc pc = .ok (.invokestatic index, 3)) (hf : cells + rm.cells ≤ R.cells ∧ slots + rm.slots ≤ R.slots) :
    va_Run p l e R s m args below meth c H locs cells slots rm.cells rm.slots (F0 m pc ls st0) rest (Qc As.toArray) (va_A wc H.size) := by
  have hpre := pre_of C0 hP hD hS hX hXs isC hC hnd
  obtain ⟨hx, hb, hr, hml, hown, hlocks, hname, hT, hN, hK, hA⟩ := C0
  have hG : GoodIn WALL (va_wsS y.cls index y' (.code y' bytes maxL ret :: WALL)) := by
    intro w hw
    rcases List.mem_append.mp hw with hw | hw
    · have hw : w ∈ WALL := by
        simp only [List.mem_cons, List.not_mem_nil, or_false] at hw
        rcases hw with rfl | rfl | rfl <;> assumption
      exact ⟨hw, good_of_word (List.mem_filter.mp hw).2⟩
    · exact wall_in hcode w hw
  exact va_runS (As := As) (rest := rest) ⟨hx, hb, hml, hown, hT⟩ hM (va_cwS k hT hG rfl rfl rfl hd hR) ⟨wB.blind hX _, fun U hU hW => ⟨rfl, hpre U hU hW⟩⟩ rfl hk hsize hst (lv_room hW) hdg hf
theorem runSN {y' : MethodName} {bytes : ByteArray} {maxL k index : Nat} {ret : Option FieldType} {rm : Room} {Qc : Array Value → State → Outcome → State → Prop} {As : List Value} {X : XT} (host : String) (kN : Nat)
    (C0 : Ctx p s m args meth c y cc n rt D ty A) (hM : Met l y' (.code y' bytes maxL ret :: WALL) rm (va_Pc As (wB D ty X H.size wc)) Qc rm.cells rm.slots (va_A wc H.size))
    (hcode : Cond.code y' bytes maxL ret ∈ WALL) (hlk : lw_tbl[kN]? = some (Cond.methodLinkNest y.cls index y' host)) (hsc : Cond.static y' ∈ WALL) (hini : Cond.initialized y'.cls ∈ WALL)
    (hd : y'.cls ≠ "java/lang/invoke/MethodHandle" ∧ y'.cls ≠ "java/lang/invoke/VarHandle" ∧ (parseMethodDescriptor y'.desc).map (fun d => d.parameters.length) = some k) (hR : rm.frames + 1 ≤ R.frames ∧ 8 + (maxL + 11) + rm.locals ≤ R.locals)
    (hP : va_P D CL ws H) (hD : va_D A ws) (hS : va_S A s.heap H locs) (hX : XOK X) (hXs : X A s s.heap) (isC : List Nat) (hC : isC.map (fun i => ws[i]?) = wc.map some) (hnd : va_nd isC = true)
    (hk : As.length = k) (hsize : ls.size = n) (hst : st0 = As.reverse ++ rest) (hW : (rest.map fun v => v.category).sum ≤ 8) (hdg : decode cc pc = .ok (.invokestatic index, 3)) (hf : cells + rm.cells ≤ R.cells ∧ slots + rm.slots ≤ R.slots) :
    va_Run p l e R s m args below meth c H locs cells slots rm.cells rm.slots (F0 m pc ls st0) rest (Qc As.toArray) (va_A wc H.size) := by
  have hpre := pre_of C0 hP hD hS hX hXs isC hC hnd
  obtain ⟨hx, hb, hr, hml, hown, hlocks, hname, hT, hN, hK, hA⟩ := C0
  exact va_runSN (As := As) (rest := rest) (host := host) ⟨hx, hb, hml, hown, hT⟩ hM ⟨va_cnB k hT (wall_in hcode) rfl rfl rfl (hN.get kN hlk rfl) (hT _ hini) hd hR, hT _ hsc, trivial⟩ ⟨wB.blind hX _, fun U hU hW => ⟨rfl, hpre U hU hW⟩⟩ rfl hk hsize hst (lv_room hW) hdg hf
theorem runI {y' : MethodName} {bytes : ByteArray} {maxL k index : Nat} {rm : Room} {Qc : Array Value → State → Outcome → State → Prop} {b : Nat} {As : List Value} {X : XT}
    (C0 : Ctx p s m args meth c y cc n rt D ty A) (hM : Met l y' (.code y' bytes maxL none :: WALL) rm (va_Pc (.ref b :: As) (wB D ty X H.size wc)) Qc rm.cells rm.slots (va_A wc H.size))
    (hcode : Cond.code y' bytes maxL none ∈ WALL) (hlk : Cond.methodLink y.cls index y' ∈ WALL) (hin : Cond.instanceMethod y' ∈ WALL) (hini : Cond.initialized y'.cls ∈ WALL) (hnm : y'.name = "<init>")
    (hd : y'.cls ≠ "java/lang/invoke/MethodHandle" ∧ y'.cls ≠ "java/lang/invoke/VarHandle" ∧ (parseMethodDescriptor y'.desc).map (fun d => d.parameters.length) = some k) (hR : rm.frames + 1 ≤ R.frames ∧ 8 + (maxL + 11) + rm.locals ≤ R.locals)
    (hP : va_P D CL ws H) (hD : va_D A ws) (hS : va_S A s.heap H locs) (hX : XOK X) (hXs : X A s s.heap) (isC : List Nat) (hC : isC.map (fun i => ws[i]?) = wc.map some) (hnd : va_nd isC = true)
    (hk : As.length = k) (hsize : ls.size = n) (hst : st0 = As.reverse ++ .ref b :: rest) (hW : (rest.map fun v => v.category).sum ≤ 8) (hdg : decode cc pc = .ok (.invokespecial index, 3)) (hf : cells + rm.cells ≤ R.cells ∧ slots + rm.slots ≤ R.slots) :
    va_Run p l e R s m args below meth c H locs cells slots rm.cells rm.slots (F0 m pc ls st0) rest (Qc (Value.ref b :: As).toArray) (va_A wc H.size) := by
  have hpre := pre_of C0 hP hD hS hX hXs isC hC hnd
  obtain ⟨hx, hb, hr, hml, hown, hlocks, hname, hT, hN, hK, hA⟩ := C0
  exact va_runI (As := As) (rest := rest) ⟨hx, hb, hml, hown, hT⟩ hM (cwI k hT (wall_in hcode) rfl rfl rfl (hT _ hini) (hT _ hlk) (hT _ hin) hnm hd hR) ⟨wB.blind hX _, fun U hU hW => ⟨rfl, hpre U hU hW⟩⟩ rfl hk hsize hst (lv_room hW) hdg hf
theorem runIN {y' : MethodName} {bytes : ByteArray} {maxL k index : Nat} {rm : Room} {Qc : Array Value → State → Outcome → State → Prop} {b : Nat} {As : List Value} {X : XT} (host : String) (kN : Nat)
    (C0 : Ctx p s m args meth c y cc n rt D ty A) (hM : Met l y' (.code y' bytes maxL none :: WALL) rm (va_Pc (.ref b :: As) (wB D ty X H.size wc)) Qc rm.cells rm.slots (va_A wc H.size))
    (hcode : Cond.code y' bytes maxL none ∈ WALL) (hlk : lw_tbl[kN]? = some (Cond.methodLinkNest y.cls index y' host)) (hin : Cond.instanceMethod y' ∈ WALL) (hini : Cond.initialized y'.cls ∈ WALL) (hnm : y'.name = "<init>")
    (hd : y'.cls ≠ "java/lang/invoke/MethodHandle" ∧ y'.cls ≠ "java/lang/invoke/VarHandle" ∧ (parseMethodDescriptor y'.desc).map (fun d => d.parameters.length) = some k) (hR : rm.frames + 1 ≤ R.frames ∧ 8 + (maxL + 11) + rm.locals ≤ R.locals)
    (hP : va_P D CL ws H) (hD : va_D A ws) (hS : va_S A s.heap H locs) (hX : XOK X) (hXs : X A s s.heap) (isC : List Nat) (hC : isC.map (fun i => ws[i]?) = wc.map some) (hnd : va_nd isC = true)
    (hk : As.length = k) (hsize : ls.size = n) (hst : st0 = As.reverse ++ .ref b :: rest) (hW : (rest.map fun v => v.category).sum ≤ 8) (hdg : decode cc pc = .ok (.invokespecial index, 3)) (hf : cells + rm.cells ≤ R.cells ∧ slots + rm.slots ≤ R.slots) :
    va_Run p l e R s m args below meth c H locs cells slots rm.cells rm.slots (F0 m pc ls st0) rest (Qc (Value.ref b :: As).toArray) (va_A wc H.size) := by
  have hpre := pre_of C0 hP hD hS hX hXs isC hC hnd
  obtain ⟨hx, hb, hr, hml, hown, hlocks, hname, hT, hN, hK, hA⟩ := C0
  exact va_runIN (As := As) (rest := rest) (host := host) ⟨hx, hb, hml, hown, hT⟩ hM ⟨va_cnB k hT (wall_in hcode) rfl rfl rfl (hN.get kN hlk rfl) (hT _ hini) hd hR, hnm, hT _ hin⟩ ⟨wB.blind hX _, fun U hU hW => ⟨rfl, hpre U hU hW⟩⟩ rfl hk hsize hst (lv_room hW) hdg hf
section CONT
variable {S : Type} {w1 : S → va_W} {rm : Room} {a : Array Value}
theorem contI {post : Int32 → S → Prop} (C0 : Ctx p s m args meth c y cc n rt D ty A) (hP : va_P D CL ws H) (hD : va_D A ws) (hS : va_S A s.heap H locs) (isC isR : List Nat) (hC : isC.map (fun i => ws[i]?) = wc.map some) (hR : isR.map (fun i => ws[i]?) = wr.map some) (hn : va_nd isR = true) (hdis : ∀ i ∈ isR, i ∉ isC) (kc ks : Nat) (hkc : cells + rm.cells ≤ kc) (hks : slots + rm.slots ≤ ks)
    (hr : va_Run p l e R s m args below meth c H locs cells slots rm.cells rm.slots (F0 m pc ls st0) rest (va_Qi post (fun u => wE D ty (va_A wc H.size) (w1 u)) (va_A wc H.size) a) (va_A wc H.size))
    (kk : ∀ (r : Int32) (u : S) (H1 : Heap) (locs1 : List Loc), post r u → va_P D CL (wr ++ w1 u) H1 → va_D A (wr ++ w1 u) → va_S A s.heap H1 locs1 → W p l e R s m args below meth c H1 locs1 kc ks Q (F0 m (pc + 3) ls (.int r :: rest))) : W p l e R s m args below meth c H locs cells slots Q (F0 m pc ls st0) := by
  obtain ⟨hx, hb, hrr, hml, hown, hlocks, hname, hT, hN, hK, hA⟩ := C0
  have hF := va_free (wc := wc) hD hS hA isC hC
  refine va_calli hr hS (fun q _ h => hF q h) hF (fun r u t H1 locs1 ht hvm hw hB hz1 hk1 hS1 => ?_)
  obtain ⟨hP1, -, hD1⟩ := hB
  rw [ht] at hP1
  obtain ⟨hP2, hD2⟩ := va_join (wr := wr) (w1 := w1 u) hP hD isC isR hC hR hn hdis hk1 hF hP1 hD1
  exact W.widen hkc hks (kk r u H1 locs1 hw hP2 hD2 hS1)
theorem contV {post : S → Prop} (C0 : Ctx p s m args meth c y cc n rt D ty A) (hP : va_P D CL ws H) (hD : va_D A ws) (hS : va_S A s.heap H locs) (isC isR : List Nat) (hC : isC.map (fun i => ws[i]?) = wc.map some) (hR : isR.map (fun i => ws[i]?) = wr.map some) (hn : va_nd isR = true) (hdis : ∀ i ∈ isR, i ∉ isC) (kc ks : Nat) (hkc : cells + rm.cells ≤ kc) (hks : slots + rm.slots ≤ ks)
    (hr : va_Run p l e R s m args below meth c H locs cells slots rm.cells rm.slots (F0 m pc ls st0) rest (va_Qv post (fun u => wE D ty (va_A wc H.size) (w1 u)) (va_A wc H.size) a) (va_A wc H.size))
    (kk : ∀ (u : S) (H1 : Heap) (locs1 : List Loc), post u → va_P D CL (wr ++ w1 u) H1 → va_D A (wr ++ w1 u) → va_S A s.heap H1 locs1 → W p l e R s m args below meth c H1 locs1 kc ks Q (F0 m (pc + 3) ls rest)) : W p l e R s m args below meth c H locs cells slots Q (F0 m pc ls st0) := by
  obtain ⟨hx, hb, hrr, hml, hown, hlocks, hname, hT, hN, hK, hA⟩ := C0
  have hF := va_free (wc := wc) hD hS hA isC hC
  refine va_callv hr hS (fun q _ h => hF q h) hF (fun u t H1 locs1 ht hvm hw hB hz1 hk1 hS1 => ?_)
  obtain ⟨hP1, -, hD1⟩ := hB
  rw [ht] at hP1
  obtain ⟨hP2, hD2⟩ := va_join (wr := wr) (w1 := w1 u) hP hD isC isR hC hR hn hdis hk1 hF hP1 hD1
  exact W.widen hkc hks (kk u H1 locs1 hw hP2 hD2 hS1)
theorem contR {post : S → Prop} {ra : Nat} (C0 : Ctx p s m args meth c y cc n rt D ty A) (hP : va_P D CL ws H) (hD : va_D A ws) (hS : va_S A s.heap H locs) (isC isR : List Nat) (hC : isC.map (fun i => ws[i]?) = wc.map some) (hR : isR.map (fun i => ws[i]?) = wr.map some) (hn : va_nd isR = true) (hdis : ∀ i ∈ isR, i ∉ isC) (kc ks : Nat) (hkc : cells + rm.cells ≤ kc) (hks : slots + rm.slots ≤ ks)
    (hr : va_Run p l e R s m args below meth c H locs cells slots rm.cells rm.slots (F0 m pc ls st0) rest (va_Qr post (fun u x t => x = ra ∧ wE D ty (va_A wc H.size) (w1 u) t) (va_A wc H.size) a) (va_A wc H.size))
    (kk : ∀ (u : S) (H1 : Heap) (locs1 : List Loc), post u → va_P D CL (wr ++ w1 u) H1 → va_D A (wr ++ w1 u) → va_S A s.heap H1 locs1 → W p l e R s m args below meth c H1 locs1 kc ks Q (F0 m (pc + 3) ls (.ref ra :: rest))) : W p l e R s m args below meth c H locs cells slots Q (F0 m pc ls st0) := by
  obtain ⟨hx, hb, hrr, hml, hown, hlocks, hname, hT, hN, hK, hA⟩ := C0
  have hF := va_free (wc := wc) hD hS hA isC hC
  refine va_callr hr hS (fun q _ h => hF q h) hF (fun u x t H1 locs1 ht hvm hw hB hz1 hk1 hS1 => ?_)
  obtain ⟨rfl, hP1, -, hD1⟩ := hB
  rw [ht] at hP1
  obtain ⟨hP2, hD2⟩ := va_join (wr := wr) (w1 := w1 u) hP hD isC isR hC hR hn hdis hk1 hF hP1 hD1
  exact W.widen hkc hks (kk u H1 locs1 hw hP2 hD2 hS1)
end CONT
theorem newI (C0 : Ctx p s m args meth c y cc n rt D ty A) (hw : Cond.arrayClass .int ∈ WALL) {cI : ClassId} (t0 : Nat) (ht : ty[t0]? = some (cI, .int)) (hP : va_P D CL ws H) (hD : va_D A ws) (hS : va_S A s.heap H locs) {i : Int32} {N : Nat} (hn : ¬ i < 0) (hN : i.toNatClampNeg = N) (hbytes : N * 4 ≤ 536870912) (kc ks : Nat) (hkc : cells + 1 ≤ kc) (hks : slots + N ≤ ks) (hcR : kc ≤ R.cells) (hsR : ks ≤ R.slots) (hdg : decode cc pc = .ok (.newarray .int, 2))
    (kk : ∀ (q : Nat) (H1 : Heap), va_P D CL (ws ++ [(q, .inl (cI, N, .inl (fun _ => 0)))]) H1 → va_D A (ws ++ [(q, .inl (cI, N, .inl (fun _ => 0)))]) → va_S A s.heap H1 locs → W p l e R s m args below meth c H1 locs kc ks Q (F0 m (pc + 2) ls (.ref q :: rest))) : W p l e R s m args below meth c H locs cells slots Q (F0 m pc ls (.int i :: rest)) := by
  obtain ⟨hx, hb, hrr, hml, hown, hlocks, hname, hT, hNW, hK, hA⟩ := C0
  refine va_newa (atype := .int) (ty := .int) (a0 := (N, .inl (fun _ => 0))) hx hb (hT _ hw) rfl hK hP hD hS hA (fun cA => rfl) hn hN hbytes (Nat.le_trans hkc hcR) (Nat.le_trans hks hsR) hdg (fun q cA H1 hK1 hP1 hD1 hS1 => ?_)
  have e1 : s.vm.findClass ("[" ++ FieldType.int.toString) = some cI := (hK.2 t0 _ ht).2
  have e2 : s.vm.findClass ("[" ++ FieldType.int.toString) = some cA := (hK1.2 ty.length (cA, .int) (by simp)).2
  obtain rfl : cI = cA := Option.some.inj (e1.symm.trans e2)
  exact W.widen hkc hks (kk q H1 hP1 hD1 hS1)
theorem newZ (C0 : Ctx p s m args meth c y cc n rt D ty A) (hw : Cond.arrayClass .boolean ∈ WALL) {cI : ClassId} (t0 : Nat) (ht : ty[t0]? = some (cI, .boolean)) (hP : va_P D CL ws H) (hD : va_D A ws) (hS : va_S A s.heap H locs) {i : Int32} {N : Nat} (hn : ¬ i < 0) (hN : i.toNatClampNeg = N) (hbytes : N * 1 ≤ 536870912) (kc ks : Nat) (hkc : cells + 1 ≤ kc) (hks : slots + N ≤ ks) (hcR : kc ≤ R.cells) (hsR : ks ≤ R.slots) (hdg : decode cc pc = .ok (.newarray .boolean, 2))
    (kk : ∀ (q : Nat) (H1 : Heap), va_P D CL (ws ++ [(q, .inl (cI, N, .inl (fun _ => 0)))]) H1 → va_D A (ws ++ [(q, .inl (cI, N, .inl (fun _ => 0)))]) → va_S A s.heap H1 locs → W p l e R s m args below meth c H1 locs kc ks Q (F0 m (pc + 2) ls (.ref q :: rest))) : W p l e R s m args below meth c H locs cells slots Q (F0 m pc ls (.int i :: rest)) := by
  obtain ⟨hx, hb, hrr, hml, hown, hlocks, hname, hT, hNW, hK, hA⟩ := C0
  refine va_newa (atype := .boolean) (ty := .boolean) (a0 := (N, .inl (fun _ => 0))) hx hb (hT _ hw) rfl hK hP hD hS hA (fun cA => rfl) hn hN hbytes (Nat.le_trans hkc hcR) (Nat.le_trans hks hsR) hdg (fun q cA H1 hK1 hP1 hD1 hS1 => ?_)
  have e1 : s.vm.findClass ("[" ++ FieldType.boolean.toString) = some cI := (hK.2 t0 _ ht).2
  have e2 : s.vm.findClass ("[" ++ FieldType.boolean.toString) = some cA := (hK1.2 ty.length (cA, .boolean) (by simp)).2
  obtain rfl : cI = cA := Option.some.inj (e1.symm.trans e2)
  exact W.widen hkc hks (kk q H1 hP1 hD1 hS1)
theorem newT (C0 : Ctx p s m args meth c y cc n rt D ty A) {index : Nat} (hw : Cond.classLink y.cls index "DayKnown$Town" ∈ WALL) {cI : ClassId} (t0 : Nat) (ht : ty[t0]? = some (cI, .object "DayKnown$Town")) (hP : va_P D CL ws H) (hD : va_D A ws) (hS : va_S A s.heap H locs) {i : Int32} {N : Nat} (hn : ¬ i < 0) (hN : i.toNatClampNeg = N) (hbytes : N * 4 ≤ 536870912) (kc ks : Nat) (hkc : cells + 1 ≤ kc) (hks : slots + N ≤ ks) (hcR : kc ≤ R.cells) (hsR : ks ≤ R.slots) (hdg : decode cc pc = .ok (.anewarray index, 3))
    (kk : ∀ (q : Nat) (H1 : Heap), va_P D CL (ws ++ [(q, .inl (cI, N, .inr (.inr (.inr (.inr (fun _ => none))))))]) H1 → va_D A (ws ++ [(q, .inl (cI, N, .inr (.inr (.inr (.inr (fun _ => none))))))]) → va_S A s.heap H1 locs → W p l e R s m args below meth c H1 locs kc ks Q (F0 m (pc + 3) ls (.ref q :: rest))) : W p l e R s m args below meth c H locs cells slots Q (F0 m pc ls (.int i :: rest)) := by
  obtain ⟨hx, hb, hrr, hml, hown, hlocks, hname, hT, hNW, hK, hA⟩ := C0
  refine va_newq hx hb hown (hT _ hw) hNW.2.1 hK hP hD hS hA hn hN hbytes (Nat.le_trans hkc hcR) (Nat.le_trans hks hsR) hdg (fun q cA H1 hK1 hP1 hD1 hS1 => ?_)
  obtain ⟨-, -, -, -, -, e1⟩ := (hK.2 t0 _ ht).2
  obtain ⟨-, -, -, -, -, e2⟩ := (hK1.2 ty.length (cA, .object "DayKnown$Town") (by simp)).2
  obtain rfl : cI = cA := Option.some.inj (e1.symm.trans e2)
  exact W.widen hkc hks (kk q H1 hP1 hD1 hS1)
end CC
end
section
/-! facts of statics and String constants, which nobody writes -/
section CF
/-- the String at q, of len signs f, its bytes at t -/
def SO (q t len : Nat) (f : Nat → Int32) : XT := fun A U H => va_O "java/lang/String" q A U H ∧ va_OF "java/lang/String" "coder" "B" (.int 0) q A U H ∧ va_OF "java/lang/String" "value" "[B" (.ref t) q A U H ∧ va_T .byte t len (fun j => .int (f j)) A U H
theorem SO.ok {q t len : Nat} {f : Nat → Int32} : XOK (SO q t len f) :=
  ⟨fun A u U H hW h => ⟨va_O.moved hW.alike h.1, va_OF.moved hW.alike h.2.1, va_OF.moved hW.alike h.2.2.1, va_T.moved hW.alike h.2.2.2⟩,
   fun A U H H1 hq h => ⟨h.1.kept hq, h.2.1.kept hq, h.2.2.1.kept hq, h.2.2.2.kept hq⟩,
   fun A B U H hAB h => ⟨h.1.narrow hAB, h.2.1.narrow hAB, h.2.2.1.narrow hAB, h.2.2.2.narrow hAB⟩⟩
/-- String's switches, as the launch has them -/
def CS : XT := fun A U H => va_Z "java/lang/String" "COMPACT_STRINGS" "Z" (.int 1) A U H ∧ va_Zq "jdk/internal/util/Preconditions" "SIOOBE_FORMATTER" "Ljava/util/function/BiFunction;" A U H
theorem CS.ok : XOK CS :=
  ⟨fun A u U H hW h => ⟨va_Z.moved hW.alike h.1, va_Zq.moved hW.alike h.2⟩, fun A U H H1 hq h => ⟨h.1.kept hq, h.2.kept hq⟩, fun A B U H hAB h => ⟨h.1.narrow hAB, h.2.narrow hAB⟩⟩
/-- the constant of a class's pool -/
def SK (own : String) (k : Nat) (tx : String) (len : Nat) (f : Nat → Int32) : XT := fun A U H => ∃ q t : Nat, vk_R own k tx q U ∧ SO q t len f A U H
theorem SK.ok {own : String} {k : Nat} {tx : String} {len : Nat} {f : Nat → Int32} : XOK (SK own k tx len f) :=
  ⟨fun A u U H hW h => by obtain ⟨q, t, h1, h2⟩ := h; exact ⟨q, t, vk_R.warm hW h1, SO.ok.1 A u U H hW h2⟩,
   fun A U H H1 hq h => by obtain ⟨q, t, h1, h2⟩ := h; exact ⟨q, t, h1, SO.ok.2.1 A U H H1 hq h2⟩,
   fun A B U H hAB h => by obtain ⟨q, t, h1, h2⟩ := h; exact ⟨q, t, h1, SO.ok.2.2 A B U H hAB h2⟩⟩
/-- a static array of ints -/
def ST (C n : String) (len : Nat) (f : Nat → Int32) : XT := fun A U H => ∃ t : Nat, va_Z C n "[I" (.ref t) A U H ∧ va_T .int t len (fun j => .int (f j)) A U H
theorem ST.ok {C n : String} {len : Nat} {f : Nat → Int32} : XOK (ST C n len f) :=
  ⟨fun A u U H hW h => by obtain ⟨t, h1, h2⟩ := h; exact ⟨t, va_Z.moved hW.alike h1, va_T.moved hW.alike h2⟩,
   fun A U H H1 hq h => by obtain ⟨t, h1, h2⟩ := h; exact ⟨t, h1.kept hq, h2.kept hq⟩,
   fun A B U H hAB h => by obtain ⟨t, h1, h2⟩ := h; exact ⟨t, h1.narrow hAB, h2.narrow hAB⟩⟩
def andX (X Y : XT) : XT := fun A U H => X A U H ∧ Y A U H
theorem andX.ok {X Y : XT} (hX : XOK X) (hY : XOK Y) : XOK (andX X Y) :=
  ⟨fun A u U H hW h => ⟨hX.1 A u U H hW h.1, hY.1 A u U H hW h.2⟩, fun A U H H1 hq h => ⟨hX.2.1 A U H H1 hq h.1, hY.2.1 A U H H1 hq h.2⟩, fun A B U H hAB h => ⟨hX.2.2 A B U H hAB h.1, hY.2.2 A B U H hAB h.2⟩⟩
def li (l : List Int32) : Nat → Int32 := fun j => l.getD j 0
def EF : XT := andX CS (andX (ST "DayKnown" "KIND_ABOVE" 7 (li [-1, 0, 0, 0, 2, 3, 3])) (andX (ST "DayKnown$Acts" "BODY" 21 (li [1, 2, 3, 11, 0, 0, 0, 21, 0, 0, 0, 31, 0, 0, 41, 51, 0, 0, 0, 61, 0]))
  (andX (SK "DayKnown$Town" 76 "note" 4 (li [110, 111, 116, 101])) (andX (SK "DayKnown$Town" 78 "harm" 4 (li [104, 97, 114, 109])) (andX (SK "DayKnown$Town" 80 "good" 4 (li [103, 111, 111, 100]))
  (andX (SK "DayKnown$Town" 96 "0123456789" 10 (li [48, 49, 50, 51, 52, 53, 54, 55, 56, 57])) (andX (SK "DayKnown$Town" 114 "hpmnyk" 6 (li [104, 112, 109, 110, 121, 107])) (andX (SK "DayKnown$Town" 116 "<=>" 3 (li [60, 61, 62]))
  (andX (SK "DayKnownModel" 112 "good " 5 (li [103, 111, 111, 100, 32])) (andX (SK "DayKnownModel" 94 "hpmnyk" 6 (li [104, 112, 109, 110, 121, 107])) (andX (SK "DayKnownModel" 100 "<=>" 3 (li [60, 61, 62]))
  (andX (SK "DayKnownModel" 118 "harm " 5 (li [104, 97, 114, 109, 32])) (SK "DayKnownModel" 120 "note " 5 (li [110, 111, 116, 101, 32]))))))))))))))
theorem EF.ok : XOK EF := andX.ok CS.ok (andX.ok ST.ok (andX.ok ST.ok (andX.ok SK.ok (andX.ok SK.ok (andX.ok SK.ok (andX.ok SK.ok (andX.ok SK.ok (andX.ok SK.ok (andX.ok SK.ok (andX.ok SK.ok (andX.ok SK.ok (andX.ok SK.ok SK.ok))))))))))))
variable {p : Program} {l : Launch} {e : Env} {R : Room} {s : State} {m : MethodId} {args : Array Value} {below : List Frame} {meth : Method} {c : Code} {H : Heap} {locs : List Loc} {cells slots : Nat} {Q : State → Prop}
variable {y : MethodName} {cc : ByteArray} {n : Nat} {rt : Option FieldType} {D : va_G} {ty : List (ClassId × FieldType)} {A : Nat → Prop} {pc : Nat} {ls : Array Slot} {rest st0 : List Value} {ws wc wr : va_W}
theorem objI (C0 : Ctx p s m args meth c y cc n rt D ty A) {idx a : Nat} (hlk : Cond.methodLink y.cls idx Lib.objectInit ∈ WALL) (hin : Cond.instanceMethod Lib.objectInit ∈ WALL) (hcode : Cond.code Lib.objectInit ⟨#[0xb1]⟩ 1 none ∈ WALL) (hsize : ls.size = n) (hfr : 1 ≤ R.frames) (hlo : (rest.map fun v => v.category).sum + 12 ≤ R.locals) (hdg : decode cc pc = .ok (.invokespecial idx, 3))
    (k : W p l e R s m args below meth c H locs cells slots Q (F0 m (pc + 3) ls rest)) : W p l e R s m args below meth c H locs cells slots Q (F0 m pc ls (.ref a :: rest)) := by
  obtain ⟨hx, hb, hrr, hml, hown, hlocks, hname, hT, hNW, hK, hA⟩ := C0
  exact W.objInit (g := F0 m pc ls (.ref a :: rest)) hx hb hown (hT _ hlk) (hT _ hin) (hT _ hcode) rfl (by rw [hml]; exact hsize) rfl hdg hfr (by show 2 * 0 + _ + 12 ≤ _; omega) k
end CF
end
section
section CW
set_option maxRecDepth 100000 in
theorem we_X4_read : Cond.selects RX4 yX4_read yX4_read ∈ WALL := wall 0 (by decide +kernel) rfl
set_option maxRecDepth 100000 in
theorem we_X4_readClause : Cond.selects RX4 yX4_readClause yX4_readClause ∈ WALL := wall 1 (by decide +kernel) rfl
set_option maxRecDepth 100000 in
theorem we_X4_sign : Cond.selects RX4 yX4_sign yX4_sign ∈ WALL := wall 2 (by decide +kernel) rfl
set_option maxRecDepth 100000 in
theorem we_X4_takeWord : Cond.selects RX4 yX4_takeWord yX4_takeWord ∈ WALL := wall 3 (by decide +kernel) rfl
set_option maxRecDepth 100000 in
theorem we_X4_take : Cond.selects RX4 yX4_take yX4_take ∈ WALL := wall 4 (by decide +kernel) rfl
set_option maxRecDepth 100000 in
theorem we_X4_readNumber : Cond.selects RX4 yX4_readNumber yX4_readNumber ∈ WALL := wall 5 (by decide +kernel) rfl
set_option maxRecDepth 100000 in
theorem we_X4_takeOneOf : Cond.selects RX4 yX4_takeOneOf yX4_takeOneOf ∈ WALL := wall 6 (by decide +kernel) rfl
set_option maxRecDepth 100000 in
theorem we_X4_readAny : Cond.selects RX4 yX4_readAny yX4_readAny ∈ WALL := wall 7 (by decide +kernel) rfl
set_option maxRecDepth 100000 in
theorem we_X4_readBoth : Cond.selects RX4 yX4_readBoth yX4_readBoth ∈ WALL := wall 8 (by decide +kernel) rfl
set_option maxRecDepth 100000 in
theorem we_X4_readFactor : Cond.selects RX4 yX4_readFactor yX4_readFactor ∈ WALL := wall 9 (by decide +kernel) rfl
set_option maxRecDepth 100000 in
theorem we_X4_readTest : Cond.selects RX4 yX4_readTest yX4_readTest ∈ WALL := wall 10 (by decide +kernel) rfl
set_option maxRecDepth 100000 in
theorem we_X4_keepCode : Cond.selects RX4 yX4_keepCode yX4_keepCode ∈ WALL := wall 11 (by decide +kernel) rfl
set_option maxRecDepth 100000 in
theorem we_X4_keepClause : Cond.selects RX4 yX4_keepClause yX4_keepClause ∈ WALL := wall 12 (by decide +kernel) rfl
set_option maxRecDepth 100000 in
theorem we_X5_forgetTowns : Cond.selects RX5 yX5_forgetTowns yX5_forgetTowns ∈ WALL := wall 13 (by decide +kernel) rfl
set_option maxRecDepth 100000 in
theorem we_X1_forgetTown : Cond.selects RX1 yX1_forgetTown yX1_forgetTown ∈ WALL := wall 14 (by decide +kernel) rfl
set_option maxRecDepth 100000 in
theorem we_X1_forget : Cond.selects RX1 yX1_forget yX1_forget ∈ WALL := wall 15 (by decide +kernel) rfl
set_option maxRecDepth 100000 in
theorem we_X5_newestTown : Cond.selects RX5 yX5_newestTown yX5_newestTown ∈ WALL := wall 16 (by decide +kernel) rfl
set_option maxRecDepth 100000 in
theorem we_X2_join : Cond.selects RX2 yX2_join yX2_join ∈ WALL := wall 17 (by decide +kernel) rfl
set_option maxRecDepth 100000 in
theorem we_X2_putNote : Cond.selects RX2 yX2_putNote yX2_putNote ∈ WALL := wall 18 (by decide +kernel) rfl
set_option maxRecDepth 100000 in
theorem we_X2_has : Cond.selects RX2 yX2_has yX2_has ∈ WALL := wall 19 (by decide +kernel) rfl
set_option maxRecDepth 100000 in
theorem we_X2_noteOf : Cond.selects RX2 yX2_noteOf yX2_noteOf ∈ WALL := wall 20 (by decide +kernel) rfl
set_option maxRecDepth 100000 in
theorem we_X2_isDay : Cond.selects RX2 yX2_isDay yX2_isDay ∈ WALL := wall 21 (by decide +kernel) rfl
set_option maxRecDepth 100000 in
theorem we_X2_allDays : Cond.selects RX2 yX2_allDays yX2_allDays ∈ WALL := wall 22 (by decide +kernel) rfl
set_option maxRecDepth 100000 in
theorem we_X1_prepare : Cond.selects RX1 yX1_prepare yX1_prepare ∈ WALL := wall 23 (by decide +kernel) rfl
set_option maxRecDepth 100000 in
theorem we_X1_fillWorths : Cond.selects RX1 yX1_fillWorths yX1_fillWorths ∈ WALL := wall 24 (by decide +kernel) rfl
set_option maxRecDepth 100000 in
theorem we_X4_worth : Cond.selects RX4 yX4_worth yX4_worth ∈ WALL := wall 25 (by decide +kernel) rfl
set_option maxRecDepth 100000 in
theorem we_X4_holds : Cond.selects RX4 yX4_holds yX4_holds ∈ WALL := wall 26 (by decide +kernel) rfl
set_option maxRecDepth 100000 in
theorem we_X1_sightOf : Cond.selects RX1 yX1_sightOf yX1_sightOf ∈ WALL := wall 27 (by decide +kernel) rfl
set_option maxRecDepth 100000 in
theorem we_X1_rowAt : Cond.selects RX1 yX1_rowAt yX1_rowAt ∈ WALL := wall 28 (by decide +kernel) rfl
set_option maxRecDepth 100000 in
theorem we_X1_bestRow : Cond.selects RX1 yX1_bestRow yX1_bestRow ∈ WALL := wall 29 (by decide +kernel) rfl
set_option maxRecDepth 100000 in
theorem we_X1_gain : Cond.selects RX1 yX1_gain yX1_gain ∈ WALL := wall 30 (by decide +kernel) rfl
set_option maxRecDepth 100000 in
theorem we_X1_worth : Cond.selects RX1 yX1_worth yX1_worth ∈ WALL := wall 31 (by decide +kernel) rfl
set_option maxRecDepth 100000 in
theorem we_X1_would : Cond.selects RX1 yX1_would yX1_would ∈ WALL := wall 32 (by decide +kernel) rfl
set_option maxRecDepth 100000 in
theorem we_X1_answerOf : Cond.selects RX1 yX1_answerOf yX1_answerOf ∈ WALL := wall 33 (by decide +kernel) rfl
set_option maxRecDepth 100000 in
theorem we_X1_firstOtherwise : Cond.selects RX1 yX1_firstOtherwise yX1_firstOtherwise ∈ WALL := wall 34 (by decide +kernel) rfl
set_option maxRecDepth 100000 in
theorem we_X1_answer : Cond.selects RX1 yX1_answer yX1_answer ∈ WALL := wall 35 (by decide +kernel) rfl
set_option maxRecDepth 100000 in
theorem we_X1_gainOfAll : Cond.selects RX1 yX1_gainOfAll yX1_gainOfAll ∈ WALL := wall 36 (by decide +kernel) rfl
set_option maxRecDepth 100000 in
theorem we_X5_searchNow : Cond.selects RX5 yX5_searchNow yX5_searchNow ∈ WALL := wall 37 (by decide +kernel) rfl
set_option maxRecDepth 100000 in
theorem we_X1_search : Cond.selects RX1 yX1_search yX1_search ∈ WALL := wall 38 (by decide +kernel) rfl
set_option maxRecDepth 100000 in
theorem we_X1_stands : Cond.selects RX1 yX1_stands yX1_stands ∈ WALL := wall 39 (by decide +kernel) rfl
set_option maxRecDepth 100000 in
theorem we_X1_addStanding : Cond.selects RX1 yX1_addStanding yX1_addStanding ∈ WALL := wall 40 (by decide +kernel) rfl
set_option maxRecDepth 100000 in
theorem we_X5_placeOnPath : Cond.selects RX5 yX5_placeOnPath yX5_placeOnPath ∈ WALL := wall 41 (by decide +kernel) rfl
set_option maxRecDepth 100000 in
theorem we_X1_comingDay : Cond.selects RX1 yX1_comingDay yX1_comingDay ∈ WALL := wall 42 (by decide +kernel) rfl
set_option maxRecDepth 100000 in
theorem we_X2_endMorning : Cond.selects RX2 yX2_endMorning yX2_endMorning ∈ WALL := wall 43 (by decide +kernel) rfl
set_option maxRecDepth 100000 in
theorem we_X2_become : Cond.selects RX2 yX2_become yX2_become ∈ WALL := wall 44 (by decide +kernel) rfl
set_option maxRecDepth 100000 in
theorem we_X5_searchThen : Cond.selects RX5 yX5_searchThen yX5_searchThen ∈ WALL := wall 45 (by decide +kernel) rfl
set_option maxRecDepth 100000 in
theorem we_X1_stoodWith : Cond.selects RX1 yX1_stoodWith yX1_stoodWith ∈ WALL := wall 46 (by decide +kernel) rfl
set_option maxRecDepth 100000 in
theorem we_X5_tellThen : Cond.selects RX5 yX5_tellThen yX5_tellThen ∈ WALL := wall 47 (by decide +kernel) rfl
set_option maxRecDepth 100000 in
theorem we_X2_exchange : Cond.selects RX2 yX2_exchange yX2_exchange ∈ WALL := wall 48 (by decide +kernel) rfl
set_option maxRecDepth 100000 in
theorem we_X5_wouldRather : Cond.selects RX5 yX5_wouldRather yX5_wouldRather ∈ WALL := wall 49 (by decide +kernel) rfl
set_option maxRecDepth 100000 in
theorem we_X5_isBetterThen : Cond.selects RX5 yX5_isBetterThen yX5_isBetterThen ∈ WALL := wall 50 (by decide +kernel) rfl
set_option maxRecDepth 100000 in
theorem we_X0_clear : Cond.selects RX0 yX0_clear yX0_clear ∈ WALL := wall 51 (by decide +kernel) rfl
set_option maxRecDepth 100000 in
theorem we_X0_start : Cond.selects RX0 yX0_start yX0_start ∈ WALL := wall 52 (by decide +kernel) rfl
set_option maxRecDepth 100000 in
theorem we_X0_ask : Cond.selects RX0 yX0_ask yX0_ask ∈ WALL := wall 53 (by decide +kernel) rfl
set_option maxRecDepth 100000 in
theorem we_X0_begin : Cond.selects RX0 yX0_begin yX0_begin ∈ WALL := wall 54 (by decide +kernel) rfl
set_option maxRecDepth 100000 in
theorem we_X3_become : Cond.selects RX3 yX3_become yX3_become ∈ WALL := wall 55 (by decide +kernel) rfl
set_option maxRecDepth 100000 in
theorem we_X6_clauseHere : Cond.selects RX6 yX6_clauseHere yX6_clauseHere ∈ WALL := wall 56 (by decide +kernel) rfl
set_option maxRecDepth 100000 in
theorem we_X6_here : Cond.selects RX6 yX6_here yX6_here ∈ WALL := wall 57 (by decide +kernel) rfl
set_option maxRecDepth 100000 in
theorem we_X6_much : Cond.selects RX6 yX6_much yX6_much ∈ WALL := wall 58 (by decide +kernel) rfl
set_option maxRecDepth 100000 in
theorem we_X6_spells : Cond.selects RX6 yX6_spells yX6_spells ∈ WALL := wall 59 (by decide +kernel) rfl
set_option maxRecDepth 100000 in
theorem we_X6_must : Cond.selects RX6 yX6_must yX6_must ∈ WALL := wall 60 (by decide +kernel) rfl
set_option maxRecDepth 100000 in
theorem we_X6_figures : Cond.selects RX6 yX6_figures yX6_figures ∈ WALL := wall 61 (by decide +kernel) rfl
set_option maxRecDepth 100000 in
theorem we_X6_some : Cond.selects RX6 yX6_some yX6_some ∈ WALL := wall 62 (by decide +kernel) rfl
set_option maxRecDepth 100000 in
theorem we_X6_every : Cond.selects RX6 yX6_every yX6_every ∈ WALL := wall 63 (by decide +kernel) rfl
set_option maxRecDepth 100000 in
theorem we_X6_factor : Cond.selects RX6 yX6_factor yX6_factor ∈ WALL := wall 64 (by decide +kernel) rfl
set_option maxRecDepth 100000 in
theorem we_X6_emits : Cond.selects RX6 yX6_emits yX6_emits ∈ WALL := wall 65 (by decide +kernel) rfl
set_option maxRecDepth 100000 in
theorem we_X6_among : Cond.selects RX6 yX6_among yX6_among ∈ WALL := wall 66 (by decide +kernel) rfl
set_option maxRecDepth 100000 in
theorem we_X6_tellsOf : Cond.selects RX6 yX6_tellsOf yX6_tellsOf ∈ WALL := wall 67 (by decide +kernel) rfl
set_option maxRecDepth 100000 in
theorem we_X6_isPerson : Cond.selects RX6 yX6_isPerson yX6_isPerson ∈ WALL := wall 68 (by decide +kernel) rfl
set_option maxRecDepth 100000 in
theorem we_X6_isDay : Cond.selects RX6 yX6_isDay yX6_isDay ∈ WALL := wall 69 (by decide +kernel) rfl
set_option maxRecDepth 100000 in
theorem we_X6_days : Cond.selects RX6 yX6_days yX6_days ∈ WALL := wall 70 (by decide +kernel) rfl
set_option maxRecDepth 100000 in
theorem we_X6_looks : Cond.selects RX6 yX6_looks yX6_looks ∈ WALL := wall 71 (by decide +kernel) rfl
set_option maxRecDepth 100000 in
theorem we_X6_looksAt : Cond.selects RX6 yX6_looksAt yX6_looksAt ∈ WALL := wall 72 (by decide +kernel) rfl
set_option maxRecDepth 100000 in
theorem we_X6_worthBy : Cond.selects RX6 yX6_worthBy yX6_worthBy ∈ WALL := wall 73 (by decide +kernel) rfl
set_option maxRecDepth 100000 in
theorem we_X6_worthOf : Cond.selects RX6 yX6_worthOf yX6_worthOf ∈ WALL := wall 74 (by decide +kernel) rfl
set_option maxRecDepth 100000 in
theorem we_X6_others : Cond.selects RX6 yX6_others yX6_others ∈ WALL := wall 75 (by decide +kernel) rfl
set_option maxRecDepth 100000 in
theorem we_X6_would : Cond.selects RX6 yX6_would yX6_would ∈ WALL := wall 76 (by decide +kernel) rfl
set_option maxRecDepth 100000 in
theorem we_X6_bestOwn : Cond.selects RX6 yX6_bestOwn yX6_bestOwn ∈ WALL := wall 77 (by decide +kernel) rfl
set_option maxRecDepth 100000 in
theorem we_X6_gainOf : Cond.selects RX6 yX6_gainOf yX6_gainOf ∈ WALL := wall 78 (by decide +kernel) rfl
set_option maxRecDepth 100000 in
theorem we_X6_wouldPlainly : Cond.selects RX6 yX6_wouldPlainly yX6_wouldPlainly ∈ WALL := wall 79 (by decide +kernel) rfl
set_option maxRecDepth 100000 in
theorem we_X6_isStrange : Cond.selects RX6 yX6_isStrange yX6_isStrange ∈ WALL := wall 80 (by decide +kernel) rfl
set_option maxRecDepth 100000 in
theorem we_X6_firstOtherwise : Cond.selects RX6 yX6_firstOtherwise yX6_firstOtherwise ∈ WALL := wall 81 (by decide +kernel) rfl
set_option maxRecDepth 100000 in
theorem we_X6_answerTo : Cond.selects RX6 yX6_answerTo yX6_answerTo ∈ WALL := wall 82 (by decide +kernel) rfl
set_option maxRecDepth 100000 in
theorem we_X6_gainOfAll : Cond.selects RX6 yX6_gainOfAll yX6_gainOfAll ∈ WALL := wall 83 (by decide +kernel) rfl
set_option maxRecDepth 100000 in
theorem we_X6_looksThrough : Cond.selects RX6 yX6_looksThrough yX6_looksThrough ∈ WALL := wall 84 (by decide +kernel) rfl
set_option maxRecDepth 100000 in
theorem we_X6_stands : Cond.selects RX6 yX6_stands yX6_stands ∈ WALL := wall 85 (by decide +kernel) rfl
set_option maxRecDepth 100000 in
theorem we_X6_morningComes : Cond.selects RX6 yX6_morningComes yX6_morningComes ∈ WALL := wall 86 (by decide +kernel) rfl
set_option maxRecDepth 100000 in
theorem we_X6_keeps : Cond.selects RX6 yX6_keeps yX6_keeps ∈ WALL := wall 87 (by decide +kernel) rfl
set_option maxRecDepth 100000 in
theorem we_X6_goesBack : Cond.selects RX6 yX6_goesBack yX6_goesBack ∈ WALL := wall 88 (by decide +kernel) rfl
set_option maxRecDepth 100000 in
theorem we_X6_isGood : Cond.selects RX6 yX6_isGood yX6_isGood ∈ WALL := wall 89 (by decide +kernel) rfl
set_option maxRecDepth 100000 in
theorem we_X6_knowsActs : Cond.selects RX6 yX6_knowsActs yX6_knowsActs ∈ WALL := wall 90 (by decide +kernel) rfl
set_option maxRecDepth 100000 in
theorem we_X6_runs : Cond.selects RX6 yX6_runs yX6_runs ∈ WALL := wall 91 (by decide +kernel) rfl
set_option maxRecDepth 100000 in
theorem we_X6_plainKnows : Cond.selects RX6 yX6_plainKnows yX6_plainKnows ∈ WALL := wall 92 (by decide +kernel) rfl
set_option maxRecDepth 100000 in
theorem we_X6_doesActs : Cond.selects RX6 yX6_doesActs yX6_doesActs ∈ WALL := wall 93 (by decide +kernel) rfl
set_option maxRecDepth 100000 in
theorem we_X6_plainDoes : Cond.selects RX6 yX6_plainDoes yX6_plainDoes ∈ WALL := wall 94 (by decide +kernel) rfl
set_option maxRecDepth 100000 in
theorem we_X6_tellsActs : Cond.selects RX6 yX6_tellsActs yX6_tellsActs ∈ WALL := wall 95 (by decide +kernel) rfl
set_option maxRecDepth 100000 in
theorem we_X6_plainTells : Cond.selects RX6 yX6_plainTells yX6_plainTells ∈ WALL := wall 96 (by decide +kernel) rfl
set_option maxRecDepth 100000 in
theorem wz_L : Cond.initialized RL ∈ WALL := wall 97 (by decide +kernel) rfl
set_option maxRecDepth 100000 in
theorem wz_X5 : Cond.initialized RX5 ∈ WALL := wall 98 (by decide +kernel) rfl
set_option maxRecDepth 100000 in
theorem wz_X3 : Cond.initialized RX3 ∈ WALL := wall 99 (by decide +kernel) rfl
set_option maxRecDepth 100000 in
theorem wz_X2 : Cond.initialized RX2 ∈ WALL := wall 100 (by decide +kernel) rfl
set_option maxRecDepth 100000 in
theorem wz_X4 : Cond.initialized RX4 ∈ WALL := wall 101 (by decide +kernel) rfl
set_option maxRecDepth 100000 in
theorem wz_X1 : Cond.initialized RX1 ∈ WALL := wall 102 (by decide +kernel) rfl
set_option maxRecDepth 100000 in
theorem wz_X0 : Cond.initialized RX0 ∈ WALL := wall 103 (by decide +kernel) rfl
set_option maxRecDepth 100000 in
theorem wz_X6 : Cond.initialized RX6 ∈ WALL := wall 104 (by decide +kernel) rfl
set_option maxRecDepth 100000 in
theorem wz_J9 : Cond.initialized RJ9 ∈ WALL := wall 105 (by decide +kernel) rfl
set_option maxRecDepth 100000 in
theorem wz_J10 : Cond.initialized RJ10 ∈ WALL := wall 106 (by decide +kernel) rfl
set_option maxRecDepth 100000 in
theorem wz_J0 : Cond.initialized RJ0 ∈ WALL := wall 107 (by decide +kernel) rfl
set_option maxRecDepth 100000 in
theorem wz_J1 : Cond.initialized RJ1 ∈ WALL := wall 108 (by decide +kernel) rfl
set_option maxRecDepth 100000 in
theorem wz_J3 : Cond.initialized RJ3 ∈ WALL := wall 109 (by decide +kernel) rfl
set_option maxRecDepth 100000 in
theorem wz_J2 : Cond.initialized RJ2 ∈ WALL := wall 110 (by decide +kernel) rfl
set_option maxRecDepth 100000 in
theorem wz_J6 : Cond.initialized RJ6 ∈ WALL := wall 111 (by decide +kernel) rfl
set_option maxRecDepth 100000 in
theorem wcl_L_7 : Cond.classLink RL 7 "DayKnown" ∈ WALL := wall 112 (by decide +kernel) rfl
set_option maxRecDepth 100000 in
theorem wn_X5 : Cond.instantiable RX5 9 ∈ WALL := wall 113 (by decide +kernel) rfl
set_option maxRecDepth 100000 in
theorem wl_L_9 : Cond.methodLink RL 9 yX5_init ∈ WALL := wall 114 (by decide +kernel) rfl
set_option maxRecDepth 100000 in
theorem wi_X5_init : Cond.instanceMethod yX5_init ∈ WALL := wall 115 (by decide +kernel) rfl
set_option maxRecDepth 100000 in
theorem wc_X5_init : Cond.code yX5_init cX5_init 2 none ∈ WALL := wall 116 (by decide +kernel) rfl
set_option maxRecDepth 100000 in
theorem wl_X5_3 : Cond.methodLink RX5 3 Lib.objectInit ∈ WALL := wall 117 (by decide +kernel) rfl
set_option maxRecDepth 100000 in
theorem wi_objectInit : Cond.instanceMethod Lib.objectInit ∈ WALL := wall 118 (by decide +kernel) rfl
set_option maxRecDepth 100000 in
theorem wc_objectInit : Cond.code Lib.objectInit ⟨#[0xb1]⟩ 1 none ∈ WALL := wall 119 (by decide +kernel) rfl
set_option maxRecDepth 100000 in
theorem wcl_X5_9 : Cond.classLink RX5 9 "DayKnown$Held" ∈ WALL := wall 120 (by decide +kernel) rfl
set_option maxRecDepth 100000 in
theorem wn_X3 : Cond.instantiable RX3 6 ∈ WALL := wall 121 (by decide +kernel) rfl
set_option maxRecDepth 100000 in
theorem kl_X5_11 : lw_tbl[122]? = some (Cond.methodLinkNest RX5 11 yX3_init "DayKnown") := by decide +kernel
set_option maxRecDepth 100000 in
theorem wi_X3_init : Cond.instanceMethod yX3_init ∈ WALL := wall 123 (by decide +kernel) rfl
set_option maxRecDepth 100000 in
theorem wc_X3_init : Cond.code yX3_init cX3_init 1 none ∈ WALL := wall 124 (by decide +kernel) rfl
set_option maxRecDepth 100000 in
theorem wl_X3_3 : Cond.methodLink RX3 3 Lib.objectInit ∈ WALL := wall 125 (by decide +kernel) rfl
set_option maxRecDepth 100000 in
theorem wcl_X3_9 : Cond.classLink RX3 9 "DayKnown$Folk" ∈ WALL := wall 126 (by decide +kernel) rfl
set_option maxRecDepth 100000 in
theorem wn_X2 : Cond.instantiable RX2 6 ∈ WALL := wall 127 (by decide +kernel) rfl
set_option maxRecDepth 100000 in
theorem kl_X3_11 : lw_tbl[128]? = some (Cond.methodLinkNest RX3 11 yX2_init "DayKnown") := by decide +kernel
set_option maxRecDepth 100000 in
theorem wi_X2_init : Cond.instanceMethod yX2_init ∈ WALL := wall 129 (by decide +kernel) rfl
set_option maxRecDepth 100000 in
theorem wc_X2_init : Cond.code yX2_init cX2_init 1 none ∈ WALL := wall 130 (by decide +kernel) rfl
set_option maxRecDepth 100000 in
theorem wl_X2_3 : Cond.methodLink RX2 3 Lib.objectInit ∈ WALL := wall 131 (by decide +kernel) rfl
set_option maxRecDepth 100000 in
theorem wf_X2_9 : Cond.fieldLink RX2 9 "DayKnown$Folk" "kind" "[I" ∈ WALL := wall 132 (by decide +kernel) rfl
set_option maxRecDepth 100000 in
theorem kf_X0_28 : lw_tbl[133]? = some (Cond.fieldLinkNest RX0 28 "DayKnown$Folk" "kind" "[I" "DayKnown") := by decide +kernel
set_option maxRecDepth 100000 in
theorem kf_X1_57 : lw_tbl[134]? = some (Cond.fieldLinkNest RX1 57 "DayKnown$Folk" "kind" "[I" "DayKnown") := by decide +kernel
set_option maxRecDepth 100000 in
theorem kf_X5_100 : lw_tbl[135]? = some (Cond.fieldLinkNest RX5 100 "DayKnown$Folk" "kind" "[I" "DayKnown") := by decide +kernel
set_option maxRecDepth 100000 in
theorem wf_X2_15 : Cond.fieldLink RX2 15 "DayKnown$Folk" "v" "[I" ∈ WALL := wall 136 (by decide +kernel) rfl
set_option maxRecDepth 100000 in
theorem kf_X0_33 : lw_tbl[137]? = some (Cond.fieldLinkNest RX0 33 "DayKnown$Folk" "v" "[I" "DayKnown") := by decide +kernel
set_option maxRecDepth 100000 in
theorem kf_X5_103 : lw_tbl[138]? = some (Cond.fieldLinkNest RX5 103 "DayKnown$Folk" "v" "[I" "DayKnown") := by decide +kernel
set_option maxRecDepth 100000 in
theorem kf_X1_100 : lw_tbl[139]? = some (Cond.fieldLinkNest RX1 100 "DayKnown$Folk" "v" "[I" "DayKnown") := by decide +kernel
set_option maxRecDepth 100000 in
theorem wf_X2_18 : Cond.fieldLink RX2 18 "DayKnown$Folk" "row" "[I" ∈ WALL := wall 140 (by decide +kernel) rfl
set_option maxRecDepth 100000 in
theorem kf_X5_106 : lw_tbl[141]? = some (Cond.fieldLinkNest RX5 106 "DayKnown$Folk" "row" "[I" "DayKnown") := by decide +kernel
set_option maxRecDepth 100000 in
theorem kf_X1_87 : lw_tbl[142]? = some (Cond.fieldLinkNest RX1 87 "DayKnown$Folk" "row" "[I" "DayKnown") := by decide +kernel
set_option maxRecDepth 100000 in
theorem wf_X2_21 : Cond.fieldLink RX2 21 "DayKnown$Folk" "people" "I" ∈ WALL := wall 143 (by decide +kernel) rfl
set_option maxRecDepth 100000 in
theorem kf_X1_40 : lw_tbl[144]? = some (Cond.fieldLinkNest RX1 40 "DayKnown$Folk" "people" "I" "DayKnown") := by decide +kernel
set_option maxRecDepth 100000 in
theorem kf_X5_205 : lw_tbl[145]? = some (Cond.fieldLinkNest RX5 205 "DayKnown$Folk" "people" "I" "DayKnown") := by decide +kernel
set_option maxRecDepth 100000 in
theorem kf_X5_86 : lw_tbl[146]? = some (Cond.fieldLinkNest RX5 86 "DayKnown$Folk" "notes" "I" "DayKnown") := by decide +kernel
set_option maxRecDepth 100000 in
theorem wf_X2_33 : Cond.fieldLink RX2 33 "DayKnown$Folk" "notes" "I" ∈ WALL := wall 147 (by decide +kernel) rfl
set_option maxRecDepth 100000 in
theorem kf_X1_79 : lw_tbl[148]? = some (Cond.fieldLinkNest RX1 79 "DayKnown$Folk" "notes" "I" "DayKnown") := by decide +kernel
set_option maxRecDepth 100000 in
theorem kf_X1_50 : lw_tbl[149]? = some (Cond.fieldLinkNest RX1 50 "DayKnown$Folk" "yesterday" "I" "DayKnown") := by decide +kernel
set_option maxRecDepth 100000 in
theorem kf_X5_83 : lw_tbl[150]? = some (Cond.fieldLinkNest RX5 83 "DayKnown$Folk" "yesterday" "I" "DayKnown") := by decide +kernel
set_option maxRecDepth 100000 in
theorem wf_X2_40 : Cond.fieldLink RX2 40 "DayKnown$Folk" "yesterday" "I" ∈ WALL := wall 151 (by decide +kernel) rfl
set_option maxRecDepth 100000 in
theorem wa_int : Cond.arrayClass .int ∈ WALL := wall 165 (by decide +kernel) rfl
set_option maxRecDepth 100000 in
theorem wf_X3_12 : Cond.fieldLink RX3 12 "DayKnown$Held" "folk" "LDayKnown$Folk;" ∈ WALL := wall 166 (by decide +kernel) rfl
set_option maxRecDepth 100000 in
theorem kf_X5_32 : lw_tbl[167]? = some (Cond.fieldLinkNest RX5 32 "DayKnown$Held" "folk" "LDayKnown$Folk;" "DayKnown") := by decide +kernel
set_option maxRecDepth 100000 in
theorem wf_X3_18 : Cond.fieldLink RX3 18 "DayKnown$Held" "tape" "[I" ∈ WALL := wall 168 (by decide +kernel) rfl
set_option maxRecDepth 100000 in
theorem kf_X5_64 : lw_tbl[169]? = some (Cond.fieldLinkNest RX5 64 "DayKnown$Held" "tape" "[I" "DayKnown") := by decide +kernel
set_option maxRecDepth 100000 in
theorem wf_X3_22 : Cond.fieldLink RX3 22 "DayKnown$Held" "book" "[I" ∈ WALL := wall 170 (by decide +kernel) rfl
set_option maxRecDepth 100000 in
theorem kf_X5_230 : lw_tbl[171]? = some (Cond.fieldLinkNest RX5 230 "DayKnown$Held" "book" "[I" "DayKnown") := by decide +kernel
set_option maxRecDepth 100000 in
theorem kf_X5_60 : lw_tbl[172]? = some (Cond.fieldLinkNest RX5 60 "DayKnown$Held" "signs" "I" "DayKnown") := by decide +kernel
set_option maxRecDepth 100000 in
theorem wf_X3_35 : Cond.fieldLink RX3 35 "DayKnown$Held" "signs" "I" ∈ WALL := wall 173 (by decide +kernel) rfl
set_option maxRecDepth 100000 in
theorem wf_X3_39 : Cond.fieldLink RX3 39 "DayKnown$Held" "booked" "I" ∈ WALL := wall 174 (by decide +kernel) rfl
set_option maxRecDepth 100000 in
theorem kf_X5_227 : lw_tbl[175]? = some (Cond.fieldLinkNest RX5 227 "DayKnown$Held" "booked" "I" "DayKnown") := by decide +kernel
set_option maxRecDepth 100000 in
theorem wf_X3_42 : Cond.fieldLink RX3 42 "DayKnown$Held" "towns" "I" ∈ WALL := wall 176 (by decide +kernel) rfl
set_option maxRecDepth 100000 in
theorem kf_X5_67 : lw_tbl[177]? = some (Cond.fieldLinkNest RX5 67 "DayKnown$Held" "towns" "I" "DayKnown") := by decide +kernel
set_option maxRecDepth 100000 in
theorem wcl_X5_19 : Cond.classLink RX5 19 "DayKnown$Town" ∈ WALL := wall 191 (by decide +kernel) rfl
set_option maxRecDepth 100000 in
theorem wn_X4 : Cond.instantiable RX4 9 ∈ WALL := wall 192 (by decide +kernel) rfl
set_option maxRecDepth 100000 in
theorem kl_X5_21 : lw_tbl[193]? = some (Cond.methodLinkNest RX5 21 yX4_init "DayKnown") := by decide +kernel
set_option maxRecDepth 100000 in
theorem wi_X4_init : Cond.instanceMethod yX4_init ∈ WALL := wall 194 (by decide +kernel) rfl
set_option maxRecDepth 100000 in
theorem wc_X4_init : Cond.code yX4_init cX4_init 1 none ∈ WALL := wall 195 (by decide +kernel) rfl
set_option maxRecDepth 100000 in
theorem wl_X4_3 : Cond.methodLink RX4 3 Lib.objectInit ∈ WALL := wall 196 (by decide +kernel) rfl
set_option maxRecDepth 100000 in
theorem wf_X4_9 : Cond.fieldLink RX4 9 "DayKnown$Town" "text" "[I" ∈ WALL := wall 197 (by decide +kernel) rfl
set_option maxRecDepth 100000 in
theorem wf_X4_33 : Cond.fieldLink RX4 33 "DayKnown$Town" "size" "I" ∈ WALL := wall 198 (by decide +kernel) rfl
set_option maxRecDepth 100000 in
theorem wf_X4_43 : Cond.fieldLink RX4 43 "DayKnown$Town" "at" "I" ∈ WALL := wall 199 (by decide +kernel) rfl
set_option maxRecDepth 100000 in
theorem wf_X4_15 : Cond.fieldLink RX4 15 "DayKnown$Town" "code" "[I" ∈ WALL := wall 200 (by decide +kernel) rfl
set_option maxRecDepth 100000 in
theorem wf_X4_46 : Cond.fieldLink RX4 46 "DayKnown$Town" "codes" "I" ∈ WALL := wall 201 (by decide +kernel) rfl
set_option maxRecDepth 100000 in
theorem wf_X4_18 : Cond.fieldLink RX4 18 "DayKnown$Town" "amount" "[I" ∈ WALL := wall 202 (by decide +kernel) rfl
set_option maxRecDepth 100000 in
theorem wf_X4_21 : Cond.fieldLink RX4 21 "DayKnown$Town" "codeEnd" "[I" ∈ WALL := wall 203 (by decide +kernel) rfl
set_option maxRecDepth 100000 in
theorem wf_X4_49 : Cond.fieldLink RX4 49 "DayKnown$Town" "clauses" "I" ∈ WALL := wall 204 (by decide +kernel) rfl
set_option maxRecDepth 100000 in
theorem wf_X4_52 : Cond.fieldLink RX4 52 "DayKnown$Town" "noteHours" "I" ∈ WALL := wall 205 (by decide +kernel) rfl
set_option maxRecDepth 100000 in
theorem kf_X5_80 : lw_tbl[206]? = some (Cond.fieldLinkNest RX5 80 "DayKnown$Town" "noteHours" "I" "DayKnown") := by decide +kernel
set_option maxRecDepth 100000 in
theorem wcl_X5_30 : Cond.classLink RX5 30 "DayKnown$Days" ∈ WALL := wall 227 (by decide +kernel) rfl
set_option maxRecDepth 100000 in
theorem wn_X1 : Cond.instantiable RX1 12 ∈ WALL := wall 228 (by decide +kernel) rfl
set_option maxRecDepth 100000 in
theorem kl_X5_36 : lw_tbl[229]? = some (Cond.methodLinkNest RX5 36 yX1_init "DayKnown") := by decide +kernel
set_option maxRecDepth 100000 in
theorem wi_X1_init : Cond.instanceMethod yX1_init ∈ WALL := wall 230 (by decide +kernel) rfl
set_option maxRecDepth 100000 in
theorem wc_X1_init : Cond.code yX1_init cX1_init 3 none ∈ WALL := wall 231 (by decide +kernel) rfl
set_option maxRecDepth 100000 in
theorem wl_X1_5 : Cond.methodLink RX1 5 Lib.objectInit ∈ WALL := wall 232 (by decide +kernel) rfl
set_option maxRecDepth 100000 in
theorem wcl_X1_11 : Cond.classLink RX1 11 "[[I" ∈ WALL := wall 233 (by decide +kernel) rfl
set_option maxRecDepth 100000 in
theorem wf_X1_26 : Cond.fieldLink RX1 26 "DayKnown$Days" "folk" "LDayKnown$Folk;" ∈ WALL := wall 235 (by decide +kernel) rfl
set_option maxRecDepth 100000 in
theorem kf_X5_187 : lw_tbl[236]? = some (Cond.fieldLinkNest RX5 187 "DayKnown$Days" "folk" "LDayKnown$Folk;" "DayKnown") := by decide +kernel
set_option maxRecDepth 100000 in
theorem wf_X1_13 : Cond.fieldLink RX1 13 "DayKnown$Days" "worths" "[[I" ∈ WALL := wall 237 (by decide +kernel) rfl
set_option maxRecDepth 100000 in
theorem wf_X1_16 : Cond.fieldLink RX1 16 "DayKnown$Days" "worthsKind" "[I" ∈ WALL := wall 238 (by decide +kernel) rfl
set_option maxRecDepth 100000 in
theorem wf_X1_20 : Cond.fieldLink RX1 20 "DayKnown$Days" "facts" "[I" ∈ WALL := wall 239 (by decide +kernel) rfl
set_option maxRecDepth 100000 in
theorem wf_X1_23 : Cond.fieldLink RX1 23 "DayKnown$Days" "replies" "[[I" ∈ WALL := wall 240 (by decide +kernel) rfl
set_option maxRecDepth 100000 in
theorem wf_X1_30 : Cond.fieldLink RX1 30 "DayKnown$Days" "isPrepared" "Z" ∈ WALL := wall 241 (by decide +kernel) rfl
set_option maxRecDepth 100000 in
theorem wf_X1_34 : Cond.fieldLink RX1 34 "DayKnown$Days" "isSearched" "Z" ∈ WALL := wall 242 (by decide +kernel) rfl
set_option maxRecDepth 100000 in
theorem kf_X5_155 : lw_tbl[243]? = some (Cond.fieldLinkNest RX5 155 "DayKnown$Days" "stood" "I" "DayKnown") := by decide +kernel
set_option maxRecDepth 100000 in
theorem wf_X1_113 : Cond.fieldLink RX1 113 "DayKnown$Days" "stood" "I" ∈ WALL := wall 244 (by decide +kernel) rfl
set_option maxRecDepth 100000 in
theorem kf_X5_158 : lw_tbl[245]? = some (Cond.fieldLinkNest RX5 158 "DayKnown$Days" "least" "I" "DayKnown") := by decide +kernel
set_option maxRecDepth 100000 in
theorem wf_X1_116 : Cond.fieldLink RX1 116 "DayKnown$Days" "least" "I" ∈ WALL := wall 246 (by decide +kernel) rfl
set_option maxRecDepth 100000 in
theorem kf_X5_161 : lw_tbl[247]? = some (Cond.fieldLinkNest RX5 161 "DayKnown$Days" "greatest" "I" "DayKnown") := by decide +kernel
set_option maxRecDepth 100000 in
theorem wf_X1_119 : Cond.fieldLink RX1 119 "DayKnown$Days" "greatest" "I" ∈ WALL := wall 248 (by decide +kernel) rfl
set_option maxRecDepth 100000 in
theorem kf_X5_164 : lw_tbl[249]? = some (Cond.fieldLinkNest RX5 164 "DayKnown$Days" "chosen" "I" "DayKnown") := by decide +kernel
set_option maxRecDepth 100000 in
theorem wf_X1_122 : Cond.fieldLink RX1 122 "DayKnown$Days" "chosen" "I" ∈ WALL := wall 250 (by decide +kernel) rfl
set_option maxRecDepth 100000 in
theorem kf_X5_167 : lw_tbl[251]? = some (Cond.fieldLinkNest RX5 167 "DayKnown$Days" "chosenGain" "I" "DayKnown") := by decide +kernel
set_option maxRecDepth 100000 in
theorem wf_X1_139 : Cond.fieldLink RX1 139 "DayKnown$Days" "chosenGain" "I" ∈ WALL := wall 252 (by decide +kernel) rfl
set_option maxRecDepth 100000 in
theorem wcl_X5_43 : Cond.classLink RX5 43 "DayKnown$Folk" ∈ WALL := wall 278 (by decide +kernel) rfl
set_option maxRecDepth 100000 in
theorem kl_X5_45 : lw_tbl[279]? = some (Cond.methodLinkNest RX5 45 yX2_init "DayKnown") := by decide +kernel
set_option maxRecDepth 100000 in
theorem wcl_X5_53 : Cond.classLink RX5 53 "DayKnown$Acts" ∈ WALL := wall 280 (by decide +kernel) rfl
set_option maxRecDepth 100000 in
theorem wn_X0 : Cond.instantiable RX0 5 ∈ WALL := wall 281 (by decide +kernel) rfl
set_option maxRecDepth 100000 in
theorem kl_X5_55 : lw_tbl[282]? = some (Cond.methodLinkNest RX5 55 yX0_init "DayKnown") := by decide +kernel
set_option maxRecDepth 100000 in
theorem wi_X0_init : Cond.instanceMethod yX0_init ∈ WALL := wall 283 (by decide +kernel) rfl
set_option maxRecDepth 100000 in
theorem wc_X0_init : Cond.code yX0_init cX0_init 1 none ∈ WALL := wall 284 (by decide +kernel) rfl
set_option maxRecDepth 100000 in
theorem wl_X0_3 : Cond.methodLink RX0 3 Lib.objectInit ∈ WALL := wall 285 (by decide +kernel) rfl
set_option maxRecDepth 100000 in
theorem wf_X0_11 : Cond.fieldLink RX0 11 "DayKnown$Acts" "bodies" "[I" ∈ WALL := wall 286 (by decide +kernel) rfl
set_option maxRecDepth 100000 in
theorem kf_X5_243 : lw_tbl[287]? = some (Cond.fieldLinkNest RX5 243 "DayKnown$Acts" "bodies" "[I" "DayKnown") := by decide +kernel
set_option maxRecDepth 100000 in
theorem wf_X0_15 : Cond.fieldLink RX0 15 "DayKnown$Acts" "ran" "I" ∈ WALL := wall 288 (by decide +kernel) rfl
set_option maxRecDepth 100000 in
theorem kf_X5_240 : lw_tbl[289]? = some (Cond.fieldLinkNest RX5 240 "DayKnown$Acts" "ran" "I" "DayKnown") := by decide +kernel
set_option maxRecDepth 100000 in
theorem wf_X0_25 : Cond.fieldLink RX0 25 "DayKnown$Acts" "self" "I" ∈ WALL := wall 290 (by decide +kernel) rfl
set_option maxRecDepth 100000 in
theorem wf_X0_31 : Cond.fieldLink RX0 31 "DayKnown$Acts" "kind" "I" ∈ WALL := wall 291 (by decide +kernel) rfl
set_option maxRecDepth 100000 in
theorem wf_X0_36 : Cond.fieldLink RX0 36 "DayKnown$Acts" "v" "I" ∈ WALL := wall 292 (by decide +kernel) rfl
set_option maxRecDepth 100000 in
theorem wf_X5_12 : Cond.fieldLink RX5 12 "DayKnown" "held" "LDayKnown$Held;" ∈ WALL := wall 304 (by decide +kernel) rfl
set_option maxRecDepth 100000 in
theorem wf_X5_16 : Cond.fieldLink RX5 16 "DayKnown" "saved" "LDayKnown$Held;" ∈ WALL := wall 305 (by decide +kernel) rfl
set_option maxRecDepth 100000 in
theorem wf_X5_252 : Cond.fieldLink RX5 252 "DayKnown" "isSaved" "Z" ∈ WALL := wall 306 (by decide +kernel) rfl
set_option maxRecDepth 100000 in
theorem wf_X5_22 : Cond.fieldLink RX5 22 "DayKnown" "noTown" "LDayKnown$Town;" ∈ WALL := wall 307 (by decide +kernel) rfl
set_option maxRecDepth 100000 in
theorem wf_X5_26 : Cond.fieldLink RX5 26 "DayKnown" "towns" "[LDayKnown$Town;" ∈ WALL := wall 308 (by decide +kernel) rfl
set_option maxRecDepth 100000 in
theorem wf_X5_39 : Cond.fieldLink RX5 39 "DayKnown" "now" "LDayKnown$Days;" ∈ WALL := wall 309 (by decide +kernel) rfl
set_option maxRecDepth 100000 in
theorem wf_X5_46 : Cond.fieldLink RX5 46 "DayKnown" "then" "LDayKnown$Days;" ∈ WALL := wall 310 (by decide +kernel) rfl
set_option maxRecDepth 100000 in
theorem wf_X5_49 : Cond.fieldLink RX5 49 "DayKnown" "path" "[I" ∈ WALL := wall 311 (by decide +kernel) rfl
set_option maxRecDepth 100000 in
theorem wf_X5_56 : Cond.fieldLink RX5 56 "DayKnown" "acts" "LDayKnown$Acts;" ∈ WALL := wall 312 (by decide +kernel) rfl
set_option maxRecDepth 100000 in
theorem wl_L_13 : Cond.methodLink RL 13 yX5_feed ∈ WALL := wall 332 (by decide +kernel) rfl
set_option maxRecDepth 100000 in
theorem wi_X5_feed : Cond.instanceMethod yX5_feed ∈ WALL := wall 333 (by decide +kernel) rfl
set_option maxRecDepth 100000 in
theorem we_X5_feed : Cond.selects RX5 yX5_feed yX5_feed ∈ WALL := wall 334 (by decide +kernel) rfl
set_option maxRecDepth 100000 in
theorem wc_X5_feed : Cond.code yX5_feed cX5_feed 2 (some .int) ∈ WALL := wall 335 (by decide +kernel) rfl
set_option maxRecDepth 100000 in
theorem wl_L_18 : Cond.methodLink RL 18 yX5_town ∈ WALL := wall 336 (by decide +kernel) rfl
set_option maxRecDepth 100000 in
theorem wi_X5_town : Cond.instanceMethod yX5_town ∈ WALL := wall 337 (by decide +kernel) rfl
set_option maxRecDepth 100000 in
theorem we_X5_town : Cond.selects RX5 yX5_town yX5_town ∈ WALL := wall 338 (by decide +kernel) rfl
set_option maxRecDepth 100000 in
theorem wc_X5_town : Cond.code yX5_town cX5_town 3 (some .int) ∈ WALL := wall 339 (by decide +kernel) rfl
set_option maxRecDepth 100000 in
theorem kl_X5_69 : lw_tbl[340]? = some (Cond.methodLinkNest RX5 69 yX4_read "DayKnown") := by decide +kernel
set_option maxRecDepth 100000 in
theorem wi_X4_read : Cond.instanceMethod yX4_read ∈ WALL := wall 342 (by decide +kernel) rfl
set_option maxRecDepth 100000 in
theorem wc_X4_read : Cond.code yX4_read cX4_read 4 (some .int) ∈ WALL := wall 343 (by decide +kernel) rfl
set_option maxRecDepth 100000 in
theorem wl_X4_24 : Cond.methodLink RX4 24 yJ9_min_7cf53 ∈ WALL := wall 344 (by decide +kernel) rfl
set_option maxRecDepth 100000 in
theorem wt_J9_min_7cf53 : Cond.static yJ9_min_7cf53 ∈ WALL := wall 345 (by decide +kernel) rfl
set_option maxRecDepth 100000 in
theorem wc_J9_min_7cf53 : Cond.code yJ9_min_7cf53 cJ9_min_7cf53 2 (some .int) ∈ WALL := wall 346 (by decide +kernel) rfl
set_option maxRecDepth 100000 in
theorem wl_X4_30 : Cond.methodLink RX4 30 yJ9_max_7cf53 ∈ WALL := wall 347 (by decide +kernel) rfl
set_option maxRecDepth 100000 in
theorem wt_J9_max_7cf53 : Cond.static yJ9_max_7cf53 ∈ WALL := wall 348 (by decide +kernel) rfl
set_option maxRecDepth 100000 in
theorem wc_J9_max_7cf53 : Cond.code yJ9_max_7cf53 cJ9_max_7cf53 2 (some .int) ∈ WALL := wall 349 (by decide +kernel) rfl
set_option maxRecDepth 100000 in
theorem wl_X4_37 : Cond.methodLink RX4 37 arraycopyName ∈ WALL := wall 350 (by decide +kernel) rfl
set_option maxRecDepth 100000 in
theorem wt_arraycopy : Cond.static arraycopyName ∈ WALL := wall 351 (by decide +kernel) rfl
set_option maxRecDepth 100000 in
theorem wnat_arraycopy : Cond.native arraycopyName ∈ WALL := wall 352 (by decide +kernel) rfl
set_option maxRecDepth 100000 in
theorem wl_X4_55 : Cond.methodLink RX4 55 yX4_readClause ∈ WALL := wall 353 (by decide +kernel) rfl
set_option maxRecDepth 100000 in
theorem wi_X4_readClause : Cond.instanceMethod yX4_readClause ∈ WALL := wall 355 (by decide +kernel) rfl
set_option maxRecDepth 100000 in
theorem wc_X4_readClause : Cond.code yX4_readClause cX4_readClause 4 (some .boolean) ∈ WALL := wall 356 (by decide +kernel) rfl
set_option maxRecDepth 100000 in
theorem wl_X4_63 : Cond.methodLink RX4 63 yX4_sign ∈ WALL := wall 357 (by decide +kernel) rfl
set_option maxRecDepth 100000 in
theorem wi_X4_sign : Cond.instanceMethod yX4_sign ∈ WALL := wall 359 (by decide +kernel) rfl
set_option maxRecDepth 100000 in
theorem wc_X4_sign : Cond.code yX4_sign cX4_sign 1 (some .int) ∈ WALL := wall 360 (by decide +kernel) rfl
set_option maxRecDepth 100000 in
theorem wl_X4_82 : Cond.methodLink RX4 82 yX4_takeWord ∈ WALL := wall 364 (by decide +kernel) rfl
set_option maxRecDepth 100000 in
theorem wi_X4_takeWord : Cond.instanceMethod yX4_takeWord ∈ WALL := wall 366 (by decide +kernel) rfl
set_option maxRecDepth 100000 in
theorem wc_X4_takeWord : Cond.code yX4_takeWord cX4_takeWord 3 (some .boolean) ∈ WALL := wall 367 (by decide +kernel) rfl
set_option maxRecDepth 100000 in
theorem wl_X4_67 : Cond.methodLink RX4 67 yJ0_length_8abf5 ∈ WALL := wall 368 (by decide +kernel) rfl
set_option maxRecDepth 100000 in
theorem wi_J0_length_8abf5 : Cond.instanceMethod yJ0_length_8abf5 ∈ WALL := wall 369 (by decide +kernel) rfl
set_option maxRecDepth 100000 in
theorem we_J0_length_8abf5 : Cond.selects RJ0 yJ0_length_8abf5 yJ0_length_8abf5 ∈ WALL := wall 370 (by decide +kernel) rfl
set_option maxRecDepth 100000 in
theorem wc_J0_length_8abf5 : Cond.code yJ0_length_8abf5 cJ0_length_8abf5 1 (some .int) ∈ WALL := wall 371 (by decide +kernel) rfl
set_option maxRecDepth 100000 in
theorem wl_J0_335 : Cond.methodLink RJ0 335 yJ0_coder_7d493 ∈ WALL := wall 372 (by decide +kernel) rfl
set_option maxRecDepth 100000 in
theorem wi_J0_coder_7d493 : Cond.instanceMethod yJ0_coder_7d493 ∈ WALL := wall 373 (by decide +kernel) rfl
set_option maxRecDepth 100000 in
theorem we_J0_coder_7d493 : Cond.selects RJ0 yJ0_coder_7d493 yJ0_coder_7d493 ∈ WALL := wall 374 (by decide +kernel) rfl
set_option maxRecDepth 100000 in
theorem wc_J0_coder_7d493 : Cond.code yJ0_coder_7d493 cJ0_coder_7d493 1 (some .byte) ∈ WALL := wall 375 (by decide +kernel) rfl
set_option maxRecDepth 100000 in
theorem wf_J0_38 : Cond.fieldLink RJ0 38 "java/lang/String" "COMPACT_STRINGS" "Z" ∈ WALL := wall 376 (by decide +kernel) rfl
set_option maxRecDepth 100000 in
theorem wl_X4_72 : Cond.methodLink RX4 72 yJ0_charAt_5068e ∈ WALL := wall 378 (by decide +kernel) rfl
set_option maxRecDepth 100000 in
theorem wi_J0_charAt_5068e : Cond.instanceMethod yJ0_charAt_5068e ∈ WALL := wall 379 (by decide +kernel) rfl
set_option maxRecDepth 100000 in
theorem we_J0_charAt_5068e : Cond.selects RJ0 yJ0_charAt_5068e yJ0_charAt_5068e ∈ WALL := wall 380 (by decide +kernel) rfl
set_option maxRecDepth 100000 in
theorem wc_J0_charAt_5068e : Cond.code yJ0_charAt_5068e cJ0_charAt_5068e 2 (some .char) ∈ WALL := wall 381 (by decide +kernel) rfl
set_option maxRecDepth 100000 in
theorem wl_J0_492 : Cond.methodLink RJ0 492 yJ0_isLatin1_aae02 ∈ WALL := wall 382 (by decide +kernel) rfl
set_option maxRecDepth 100000 in
theorem wi_J0_isLatin1_aae02 : Cond.instanceMethod yJ0_isLatin1_aae02 ∈ WALL := wall 383 (by decide +kernel) rfl
set_option maxRecDepth 100000 in
theorem we_J0_isLatin1_aae02 : Cond.selects RJ0 yJ0_isLatin1_aae02 yJ0_isLatin1_aae02 ∈ WALL := wall 384 (by decide +kernel) rfl
set_option maxRecDepth 100000 in
theorem wc_J0_isLatin1_aae02 : Cond.code yJ0_isLatin1_aae02 cJ0_isLatin1_aae02 1 (some .boolean) ∈ WALL := wall 385 (by decide +kernel) rfl
set_option maxRecDepth 100000 in
theorem wl_J0_495 : Cond.methodLink RJ0 495 yJ1_charAt_3b067 ∈ WALL := wall 386 (by decide +kernel) rfl
set_option maxRecDepth 100000 in
theorem wt_J1_charAt_3b067 : Cond.static yJ1_charAt_3b067 ∈ WALL := wall 387 (by decide +kernel) rfl
set_option maxRecDepth 100000 in
theorem wc_J1_charAt_3b067 : Cond.code yJ1_charAt_3b067 cJ1_charAt_3b067 2 (some .char) ∈ WALL := wall 388 (by decide +kernel) rfl
set_option maxRecDepth 100000 in
theorem wl_J1_9 : Cond.methodLink RJ1 9 yJ0_checkIndex_df160 ∈ WALL := wall 389 (by decide +kernel) rfl
set_option maxRecDepth 100000 in
theorem wt_J0_checkIndex_df160 : Cond.static yJ0_checkIndex_df160 ∈ WALL := wall 390 (by decide +kernel) rfl
set_option maxRecDepth 100000 in
theorem wc_J0_checkIndex_df160 : Cond.code yJ0_checkIndex_df160 cJ0_checkIndex_df160 2 none ∈ WALL := wall 391 (by decide +kernel) rfl
set_option maxRecDepth 100000 in
theorem wf_J0_1053 : Cond.fieldLink RJ0 1053 "jdk/internal/util/Preconditions" "SIOOBE_FORMATTER" "Ljava/util/function/BiFunction;" ∈ WALL := wall 392 (by decide +kernel) rfl
set_option maxRecDepth 100000 in
theorem wl_J0_1059 : Cond.methodLink RJ0 1059 yJ3_checkIndex_8e157 ∈ WALL := wall 394 (by decide +kernel) rfl
set_option maxRecDepth 100000 in
theorem wt_J3_checkIndex_8e157 : Cond.static yJ3_checkIndex_8e157 ∈ WALL := wall 395 (by decide +kernel) rfl
set_option maxRecDepth 100000 in
theorem wc_J3_checkIndex_8e157 : Cond.code yJ3_checkIndex_8e157 cJ3_checkIndex_8e157 3 (some .int) ∈ WALL := wall 396 (by decide +kernel) rfl
set_option maxRecDepth 100000 in
theorem wl_J0_498 : Cond.methodLink RJ0 498 yJ2_charAt_3b067 ∈ WALL := wall 397 (by decide +kernel) rfl
set_option maxRecDepth 100000 in
theorem wt_J2_charAt_3b067 : Cond.static yJ2_charAt_3b067 ∈ WALL := wall 398 (by decide +kernel) rfl
set_option maxRecDepth 100000 in
theorem wc_J2_charAt_3b067 : Cond.code yJ2_charAt_3b067 cJ2_charAt_3b067 2 (some .char) ∈ WALL := wall 399 (by decide +kernel) rfl
set_option maxRecDepth 100000 in
theorem wl_J2_67 : Cond.methodLink RJ2 67 yJ2_checkIndex_2214a ∈ WALL := wall 400 (by decide +kernel) rfl
set_option maxRecDepth 100000 in
theorem wt_J2_checkIndex_2214a : Cond.static yJ2_checkIndex_2214a ∈ WALL := wall 401 (by decide +kernel) rfl
set_option maxRecDepth 100000 in
theorem wc_J2_checkIndex_2214a : Cond.code yJ2_checkIndex_2214a cJ2_checkIndex_2214a 2 none ∈ WALL := wall 402 (by decide +kernel) rfl
set_option maxRecDepth 100000 in
theorem wl_J2_48 : Cond.methodLink RJ2 48 yJ2_length_9d52b ∈ WALL := wall 403 (by decide +kernel) rfl
set_option maxRecDepth 100000 in
theorem wt_J2_length_9d52b : Cond.static yJ2_length_9d52b ∈ WALL := wall 404 (by decide +kernel) rfl
set_option maxRecDepth 100000 in
theorem wc_J2_length_9d52b : Cond.code yJ2_length_9d52b cJ2_length_9d52b 1 (some .int) ∈ WALL := wall 405 (by decide +kernel) rfl
set_option maxRecDepth 100000 in
theorem wl_J2_414 : Cond.methodLink RJ2 414 yJ0_checkIndex_df160 ∈ WALL := wall 406 (by decide +kernel) rfl
set_option maxRecDepth 100000 in
theorem wl_J2_71 : Cond.methodLink RJ2 71 yJ2_getChar_3b067 ∈ WALL := wall 407 (by decide +kernel) rfl
set_option maxRecDepth 100000 in
theorem wt_J2_getChar_3b067 : Cond.static yJ2_getChar_3b067 ∈ WALL := wall 408 (by decide +kernel) rfl
set_option maxRecDepth 100000 in
theorem wc_J2_getChar_3b067 : Cond.code yJ2_getChar_3b067 cJ2_getChar_3b067 2 (some .char) ∈ WALL := wall 409 (by decide +kernel) rfl
set_option maxRecDepth 100000 in
theorem wf_J2_44 : Cond.fieldLink RJ2 44 "java/lang/StringUTF16" "$assertionsDisabled" "Z" ∈ WALL := wall 410 (by decide +kernel) rfl
set_option maxRecDepth 100000 in
theorem wf_J2_59 : Cond.fieldLink RJ2 59 "java/lang/StringUTF16" "HI_BYTE_SHIFT" "I" ∈ WALL := wall 412 (by decide +kernel) rfl
set_option maxRecDepth 100000 in
theorem wf_J2_63 : Cond.fieldLink RJ2 63 "java/lang/StringUTF16" "LO_BYTE_SHIFT" "I" ∈ WALL := wall 414 (by decide +kernel) rfl
set_option maxRecDepth 100000 in
theorem wl_X4_59 : Cond.methodLink RX4 59 yX4_take ∈ WALL := wall 416 (by decide +kernel) rfl
set_option maxRecDepth 100000 in
theorem wi_X4_take : Cond.instanceMethod yX4_take ∈ WALL := wall 418 (by decide +kernel) rfl
set_option maxRecDepth 100000 in
theorem wc_X4_take : Cond.code yX4_take cX4_take 2 (some .boolean) ∈ WALL := wall 419 (by decide +kernel) rfl
set_option maxRecDepth 100000 in
theorem wl_X4_86 : Cond.methodLink RX4 86 yX4_readNumber ∈ WALL := wall 420 (by decide +kernel) rfl
set_option maxRecDepth 100000 in
theorem wi_X4_readNumber : Cond.instanceMethod yX4_readNumber ∈ WALL := wall 422 (by decide +kernel) rfl
set_option maxRecDepth 100000 in
theorem wc_X4_readNumber : Cond.code yX4_readNumber cX4_readNumber 3 (some .int) ∈ WALL := wall 423 (by decide +kernel) rfl
set_option maxRecDepth 100000 in
theorem wl_X4_98 : Cond.methodLink RX4 98 yX4_takeOneOf ∈ WALL := wall 425 (by decide +kernel) rfl
set_option maxRecDepth 100000 in
theorem wi_X4_takeOneOf : Cond.instanceMethod yX4_takeOneOf ∈ WALL := wall 427 (by decide +kernel) rfl
set_option maxRecDepth 100000 in
theorem wc_X4_takeOneOf : Cond.code yX4_takeOneOf cX4_takeOneOf 4 (some .int) ∈ WALL := wall 428 (by decide +kernel) rfl
set_option maxRecDepth 100000 in
theorem wl_X4_89 : Cond.methodLink RX4 89 yX4_readAny ∈ WALL := wall 429 (by decide +kernel) rfl
set_option maxRecDepth 100000 in
theorem wi_X4_readAny : Cond.instanceMethod yX4_readAny ∈ WALL := wall 431 (by decide +kernel) rfl
set_option maxRecDepth 100000 in
theorem wc_X4_readAny : Cond.code yX4_readAny cX4_readAny 3 (some .boolean) ∈ WALL := wall 432 (by decide +kernel) rfl
set_option maxRecDepth 100000 in
theorem wl_X4_102 : Cond.methodLink RX4 102 yX4_readBoth ∈ WALL := wall 433 (by decide +kernel) rfl
set_option maxRecDepth 100000 in
theorem wi_X4_readBoth : Cond.instanceMethod yX4_readBoth ∈ WALL := wall 435 (by decide +kernel) rfl
set_option maxRecDepth 100000 in
theorem wc_X4_readBoth : Cond.code yX4_readBoth cX4_readBoth 3 (some .boolean) ∈ WALL := wall 436 (by decide +kernel) rfl
set_option maxRecDepth 100000 in
theorem wl_X4_108 : Cond.methodLink RX4 108 yX4_readFactor ∈ WALL := wall 437 (by decide +kernel) rfl
set_option maxRecDepth 100000 in
theorem wi_X4_readFactor : Cond.instanceMethod yX4_readFactor ∈ WALL := wall 439 (by decide +kernel) rfl
set_option maxRecDepth 100000 in
theorem wc_X4_readFactor : Cond.code yX4_readFactor cX4_readFactor 2 (some .boolean) ∈ WALL := wall 440 (by decide +kernel) rfl
set_option maxRecDepth 100000 in
theorem wl_X4_111 : Cond.methodLink RX4 111 yX4_readTest ∈ WALL := wall 441 (by decide +kernel) rfl
set_option maxRecDepth 100000 in
theorem wi_X4_readTest : Cond.instanceMethod yX4_readTest ∈ WALL := wall 443 (by decide +kernel) rfl
set_option maxRecDepth 100000 in
theorem wc_X4_readTest : Cond.code yX4_readTest cX4_readTest 4 (some .boolean) ∈ WALL := wall 444 (by decide +kernel) rfl
set_option maxRecDepth 100000 in
theorem wl_X4_105 : Cond.methodLink RX4 105 yX4_keepCode ∈ WALL := wall 447 (by decide +kernel) rfl
set_option maxRecDepth 100000 in
theorem wi_X4_keepCode : Cond.instanceMethod yX4_keepCode ∈ WALL := wall 449 (by decide +kernel) rfl
set_option maxRecDepth 100000 in
theorem wc_X4_keepCode : Cond.code yX4_keepCode cX4_keepCode 2 none ∈ WALL := wall 450 (by decide +kernel) rfl
set_option maxRecDepth 100000 in
theorem wl_X4_92 : Cond.methodLink RX4 92 yX4_keepClause ∈ WALL := wall 451 (by decide +kernel) rfl
set_option maxRecDepth 100000 in
theorem wi_X4_keepClause : Cond.instanceMethod yX4_keepClause ∈ WALL := wall 453 (by decide +kernel) rfl
set_option maxRecDepth 100000 in
theorem wc_X4_keepClause : Cond.code yX4_keepClause cX4_keepClause 2 none ∈ WALL := wall 454 (by decide +kernel) rfl
set_option maxRecDepth 100000 in
theorem wl_X5_73 : Cond.methodLink RX5 73 yX5_forgetTowns ∈ WALL := wall 455 (by decide +kernel) rfl
set_option maxRecDepth 100000 in
theorem wi_X5_forgetTowns : Cond.instanceMethod yX5_forgetTowns ∈ WALL := wall 457 (by decide +kernel) rfl
set_option maxRecDepth 100000 in
theorem wc_X5_forgetTowns : Cond.code yX5_forgetTowns cX5_forgetTowns 1 none ∈ WALL := wall 458 (by decide +kernel) rfl
set_option maxRecDepth 100000 in
theorem kl_X5_256 : lw_tbl[459]? = some (Cond.methodLinkNest RX5 256 yX1_forgetTown "DayKnown") := by decide +kernel
set_option maxRecDepth 100000 in
theorem wi_X1_forgetTown : Cond.instanceMethod yX1_forgetTown ∈ WALL := wall 461 (by decide +kernel) rfl
set_option maxRecDepth 100000 in
theorem wc_X1_forgetTown : Cond.code yX1_forgetTown cX1_forgetTown 2 none ∈ WALL := wall 462 (by decide +kernel) rfl
set_option maxRecDepth 100000 in
theorem wl_X1_37 : Cond.methodLink RX1 37 yX1_forget ∈ WALL := wall 463 (by decide +kernel) rfl
set_option maxRecDepth 100000 in
theorem wi_X1_forget : Cond.instanceMethod yX1_forget ∈ WALL := wall 465 (by decide +kernel) rfl
set_option maxRecDepth 100000 in
theorem wc_X1_forget : Cond.code yX1_forget cX1_forget 1 none ∈ WALL := wall 466 (by decide +kernel) rfl
set_option maxRecDepth 100000 in
theorem wa_byte : Cond.arrayClass .byte ∈ WALL := wall 467 (by decide +kernel) rfl
set_option maxRecDepth 100000 in
theorem wl_L_23 : Cond.methodLink RL 23 yX5_told ∈ WALL := wall 468 (by decide +kernel) rfl
set_option maxRecDepth 100000 in
theorem wi_X5_told : Cond.instanceMethod yX5_told ∈ WALL := wall 469 (by decide +kernel) rfl
set_option maxRecDepth 100000 in
theorem we_X5_told : Cond.selects RX5 yX5_told yX5_told ∈ WALL := wall 470 (by decide +kernel) rfl
set_option maxRecDepth 100000 in
theorem wc_X5_told : Cond.code yX5_told cX5_told 2 (some .int) ∈ WALL := wall 471 (by decide +kernel) rfl
set_option maxRecDepth 100000 in
theorem wl_X5_76 : Cond.methodLink RX5 76 yX5_newestTown ∈ WALL := wall 472 (by decide +kernel) rfl
set_option maxRecDepth 100000 in
theorem wi_X5_newestTown : Cond.instanceMethod yX5_newestTown ∈ WALL := wall 474 (by decide +kernel) rfl
set_option maxRecDepth 100000 in
theorem wc_X5_newestTown : Cond.code yX5_newestTown cX5_newestTown 2 (some (.object "DayKnown$Town")) ∈ WALL := wall 475 (by decide +kernel) rfl
set_option maxRecDepth 100000 in
theorem wl_L_27 : Cond.methodLink RL 27 yX5_person ∈ WALL := wall 476 (by decide +kernel) rfl
set_option maxRecDepth 100000 in
theorem wi_X5_person : Cond.instanceMethod yX5_person ∈ WALL := wall 477 (by decide +kernel) rfl
set_option maxRecDepth 100000 in
theorem we_X5_person : Cond.selects RX5 yX5_person yX5_person ∈ WALL := wall 478 (by decide +kernel) rfl
set_option maxRecDepth 100000 in
theorem wc_X5_person : Cond.code yX5_person cX5_person 4 (some .int) ∈ WALL := wall 479 (by decide +kernel) rfl
set_option maxRecDepth 100000 in
theorem kl_X5_89 : lw_tbl[480]? = some (Cond.methodLinkNest RX5 89 yX2_join "DayKnown") := by decide +kernel
set_option maxRecDepth 100000 in
theorem wi_X2_join : Cond.instanceMethod yX2_join ∈ WALL := wall 482 (by decide +kernel) rfl
set_option maxRecDepth 100000 in
theorem wc_X2_join : Cond.code yX2_join cX2_join 3 (some .int) ∈ WALL := wall 483 (by decide +kernel) rfl
set_option maxRecDepth 100000 in
theorem wl_X2_29 : Cond.methodLink RX2 29 yX2_putNote ∈ WALL := wall 484 (by decide +kernel) rfl
set_option maxRecDepth 100000 in
theorem wi_X2_putNote : Cond.instanceMethod yX2_putNote ∈ WALL := wall 486 (by decide +kernel) rfl
set_option maxRecDepth 100000 in
theorem wc_X2_putNote : Cond.code yX2_putNote cX2_putNote 3 none ∈ WALL := wall 487 (by decide +kernel) rfl
set_option maxRecDepth 100000 in
theorem kl_X5_93 : lw_tbl[488]? = some (Cond.methodLinkNest RX5 93 yX1_forget "DayKnown") := by decide +kernel
set_option maxRecDepth 100000 in
theorem wl_L_32 : Cond.methodLink RL 32 yX5_of ∈ WALL := wall 489 (by decide +kernel) rfl
set_option maxRecDepth 100000 in
theorem wi_X5_of : Cond.instanceMethod yX5_of ∈ WALL := wall 490 (by decide +kernel) rfl
set_option maxRecDepth 100000 in
theorem we_X5_of : Cond.selects RX5 yX5_of yX5_of ∈ WALL := wall 491 (by decide +kernel) rfl
set_option maxRecDepth 100000 in
theorem wc_X5_of : Cond.code yX5_of cX5_of 4 (some .int) ∈ WALL := wall 492 (by decide +kernel) rfl
set_option maxRecDepth 100000 in
theorem kl_X5_96 : lw_tbl[493]? = some (Cond.methodLinkNest RX5 96 yX2_has "DayKnown") := by decide +kernel
set_option maxRecDepth 100000 in
theorem wi_X2_has : Cond.instanceMethod yX2_has ∈ WALL := wall 495 (by decide +kernel) rfl
set_option maxRecDepth 100000 in
theorem wc_X2_has : Cond.code yX2_has cX2_has 2 (some .boolean) ∈ WALL := wall 496 (by decide +kernel) rfl
set_option maxRecDepth 100000 in
theorem kl_X5_109 : lw_tbl[497]? = some (Cond.methodLinkNest RX5 109 yX2_noteOf "DayKnown") := by decide +kernel
set_option maxRecDepth 100000 in
theorem wi_X2_noteOf : Cond.instanceMethod yX2_noteOf ∈ WALL := wall 499 (by decide +kernel) rfl
set_option maxRecDepth 100000 in
theorem wc_X2_noteOf : Cond.code yX2_noteOf cX2_noteOf 2 (some .int) ∈ WALL := wall 500 (by decide +kernel) rfl
set_option maxRecDepth 100000 in
theorem wl_L_36 : Cond.methodLink RL 36 yX5_row ∈ WALL := wall 501 (by decide +kernel) rfl
set_option maxRecDepth 100000 in
theorem wi_X5_row : Cond.instanceMethod yX5_row ∈ WALL := wall 502 (by decide +kernel) rfl
set_option maxRecDepth 100000 in
theorem we_X5_row : Cond.selects RX5 yX5_row yX5_row ∈ WALL := wall 503 (by decide +kernel) rfl
set_option maxRecDepth 100000 in
theorem wc_X5_row : Cond.code yX5_row cX5_row 5 (some .int) ∈ WALL := wall 504 (by decide +kernel) rfl
set_option maxRecDepth 100000 in
theorem wl_L_40 : Cond.methodLink RL 40 yX5_note ∈ WALL := wall 505 (by decide +kernel) rfl
set_option maxRecDepth 100000 in
theorem wi_X5_note : Cond.instanceMethod yX5_note ∈ WALL := wall 506 (by decide +kernel) rfl
set_option maxRecDepth 100000 in
theorem we_X5_note : Cond.selects RX5 yX5_note yX5_note ∈ WALL := wall 507 (by decide +kernel) rfl
set_option maxRecDepth 100000 in
theorem wc_X5_note : Cond.code yX5_note cX5_note 5 (some .int) ∈ WALL := wall 508 (by decide +kernel) rfl
set_option maxRecDepth 100000 in
theorem kl_X5_113 : lw_tbl[509]? = some (Cond.methodLinkNest RX5 113 yX2_putNote "DayKnown") := by decide +kernel
set_option maxRecDepth 100000 in
theorem wl_L_45 : Cond.methodLink RL 45 yX5_yesterday ∈ WALL := wall 510 (by decide +kernel) rfl
set_option maxRecDepth 100000 in
theorem wi_X5_yesterday : Cond.instanceMethod yX5_yesterday ∈ WALL := wall 511 (by decide +kernel) rfl
set_option maxRecDepth 100000 in
theorem we_X5_yesterday : Cond.selects RX5 yX5_yesterday yX5_yesterday ∈ WALL := wall 512 (by decide +kernel) rfl
set_option maxRecDepth 100000 in
theorem wc_X5_yesterday : Cond.code yX5_yesterday cX5_yesterday 3 (some .int) ∈ WALL := wall 513 (by decide +kernel) rfl
set_option maxRecDepth 100000 in
theorem kl_X5_117 : lw_tbl[514]? = some (Cond.methodLinkNest RX5 117 yX2_isDay "DayKnown") := by decide +kernel
set_option maxRecDepth 100000 in
theorem wi_X2_isDay : Cond.instanceMethod yX2_isDay ∈ WALL := wall 516 (by decide +kernel) rfl
set_option maxRecDepth 100000 in
theorem wc_X2_isDay : Cond.code yX2_isDay cX2_isDay 2 (some .boolean) ∈ WALL := wall 517 (by decide +kernel) rfl
set_option maxRecDepth 100000 in
theorem wl_X2_25 : Cond.methodLink RX2 25 yX2_allDays ∈ WALL := wall 518 (by decide +kernel) rfl
set_option maxRecDepth 100000 in
theorem wi_X2_allDays : Cond.instanceMethod yX2_allDays ∈ WALL := wall 520 (by decide +kernel) rfl
set_option maxRecDepth 100000 in
theorem wc_X2_allDays : Cond.code yX2_allDays cX2_allDays 1 (some .int) ∈ WALL := wall 521 (by decide +kernel) rfl
set_option maxRecDepth 100000 in
theorem wl_L_49 : Cond.methodLink RL 49 yX5_by ∈ WALL := wall 522 (by decide +kernel) rfl
set_option maxRecDepth 100000 in
theorem wi_X5_by : Cond.instanceMethod yX5_by ∈ WALL := wall 523 (by decide +kernel) rfl
set_option maxRecDepth 100000 in
theorem we_X5_by : Cond.selects RX5 yX5_by yX5_by ∈ WALL := wall 524 (by decide +kernel) rfl
set_option maxRecDepth 100000 in
theorem wc_X5_by : Cond.code yX5_by cX5_by 6 (some .int) ∈ WALL := wall 525 (by decide +kernel) rfl
set_option maxRecDepth 100000 in
theorem wl_X5_120 : Cond.methodLink RX5 120 yX5_isHour ∈ WALL := wall 526 (by decide +kernel) rfl
set_option maxRecDepth 100000 in
theorem wt_X5_isHour : Cond.static yX5_isHour ∈ WALL := wall 527 (by decide +kernel) rfl
set_option maxRecDepth 100000 in
theorem wc_X5_isHour : Cond.code yX5_isHour cX5_isHour 1 (some .boolean) ∈ WALL := wall 528 (by decide +kernel) rfl
set_option maxRecDepth 100000 in
theorem kl_X5_123 : lw_tbl[529]? = some (Cond.methodLinkNest RX5 123 yX1_prepare "DayKnown") := by decide +kernel
set_option maxRecDepth 100000 in
theorem wi_X1_prepare : Cond.instanceMethod yX1_prepare ∈ WALL := wall 531 (by decide +kernel) rfl
set_option maxRecDepth 100000 in
theorem wc_X1_prepare : Cond.code yX1_prepare cX1_prepare 8 none ∈ WALL := wall 532 (by decide +kernel) rfl
set_option maxRecDepth 100000 in
theorem wl_X1_46 : Cond.methodLink RX1 46 yX1_fillWorths ∈ WALL := wall 533 (by decide +kernel) rfl
set_option maxRecDepth 100000 in
theorem wi_X1_fillWorths : Cond.instanceMethod yX1_fillWorths ∈ WALL := wall 535 (by decide +kernel) rfl
set_option maxRecDepth 100000 in
theorem wc_X1_fillWorths : Cond.code yX1_fillWorths cX1_fillWorths 4 none ∈ WALL := wall 536 (by decide +kernel) rfl
set_option maxRecDepth 100000 in
theorem kl_X1_64 : lw_tbl[537]? = some (Cond.methodLinkNest RX1 64 yX4_worth "DayKnown") := by decide +kernel
set_option maxRecDepth 100000 in
theorem wi_X4_worth : Cond.instanceMethod yX4_worth ∈ WALL := wall 539 (by decide +kernel) rfl
set_option maxRecDepth 100000 in
theorem wc_X4_worth : Cond.code yX4_worth cX4_worth 5 (some .int) ∈ WALL := wall 540 (by decide +kernel) rfl
set_option maxRecDepth 100000 in
theorem wl_X4_118 : Cond.methodLink RX4 118 yX4_holds ∈ WALL := wall 541 (by decide +kernel) rfl
set_option maxRecDepth 100000 in
theorem wi_X4_holds : Cond.instanceMethod yX4_holds ∈ WALL := wall 543 (by decide +kernel) rfl
set_option maxRecDepth 100000 in
theorem wc_X4_holds : Cond.code yX4_holds cX4_holds 6 (some .boolean) ∈ WALL := wall 544 (by decide +kernel) rfl
set_option maxRecDepth 100000 in
theorem wl_X4_122 : Cond.methodLink RX4 122 yX4_passes ∈ WALL := wall 545 (by decide +kernel) rfl
set_option maxRecDepth 100000 in
theorem wt_X4_passes : Cond.static yX4_passes ∈ WALL := wall 546 (by decide +kernel) rfl
set_option maxRecDepth 100000 in
theorem wc_X4_passes : Cond.code yX4_passes cX4_passes 4 (some .boolean) ∈ WALL := wall 547 (by decide +kernel) rfl
set_option maxRecDepth 100000 in
theorem wl_X1_53 : Cond.methodLink RX1 53 yX1_sightOf ∈ WALL := wall 548 (by decide +kernel) rfl
set_option maxRecDepth 100000 in
theorem wi_X1_sightOf : Cond.instanceMethod yX1_sightOf ∈ WALL := wall 550 (by decide +kernel) rfl
set_option maxRecDepth 100000 in
theorem wc_X1_sightOf : Cond.code yX1_sightOf cX1_sightOf 6 (some .int) ∈ WALL := wall 551 (by decide +kernel) rfl
set_option maxRecDepth 100000 in
theorem kl_X1_70 : lw_tbl[552]? = some (Cond.methodLinkNest RX1 70 yX5_ownRow "DayKnown") := by decide +kernel
set_option maxRecDepth 100000 in
theorem wt_X5_ownRow : Cond.static yX5_ownRow ∈ WALL := wall 553 (by decide +kernel) rfl
set_option maxRecDepth 100000 in
theorem wc_X5_ownRow : Cond.code yX5_ownRow cX5_ownRow 2 (some .int) ∈ WALL := wall 554 (by decide +kernel) rfl
set_option maxRecDepth 100000 in
theorem wl_X1_73 : Cond.methodLink RX1 73 yJ6_bitCount_0f7a4 ∈ WALL := wall 555 (by decide +kernel) rfl
set_option maxRecDepth 100000 in
theorem wt_J6_bitCount_0f7a4 : Cond.static yJ6_bitCount_0f7a4 ∈ WALL := wall 556 (by decide +kernel) rfl
set_option maxRecDepth 100000 in
theorem wc_J6_bitCount_0f7a4 : Cond.code yJ6_bitCount_0f7a4 cJ6_bitCount_0f7a4 1 (some .int) ∈ WALL := wall 557 (by decide +kernel) rfl
set_option maxRecDepth 100000 in
theorem wk_J6_265 : Cond.constant RJ6 265 (1431655765 : Int32) ∈ WALL := wall 558 (by decide +kernel) rfl
set_option maxRecDepth 100000 in
theorem wk_J6_266 : Cond.constant RJ6 266 (858993459 : Int32) ∈ WALL := wall 559 (by decide +kernel) rfl
set_option maxRecDepth 100000 in
theorem wk_J6_267 : Cond.constant RJ6 267 (252645135 : Int32) ∈ WALL := wall 560 (by decide +kernel) rfl
set_option maxRecDepth 100000 in
theorem wl_X1_60 : Cond.methodLink RX1 60 yX1_rowAt ∈ WALL := wall 561 (by decide +kernel) rfl
set_option maxRecDepth 100000 in
theorem wi_X1_rowAt : Cond.instanceMethod yX1_rowAt ∈ WALL := wall 563 (by decide +kernel) rfl
set_option maxRecDepth 100000 in
theorem wc_X1_rowAt : Cond.code yX1_rowAt cX1_rowAt 7 (some .int) ∈ WALL := wall 564 (by decide +kernel) rfl
set_option maxRecDepth 100000 in
theorem wl_X1_90 : Cond.methodLink RX1 90 yX1_bestRow ∈ WALL := wall 565 (by decide +kernel) rfl
set_option maxRecDepth 100000 in
theorem wi_X1_bestRow : Cond.instanceMethod yX1_bestRow ∈ WALL := wall 567 (by decide +kernel) rfl
set_option maxRecDepth 100000 in
theorem wc_X1_bestRow : Cond.code yX1_bestRow cX1_bestRow 8 (some .int) ∈ WALL := wall 568 (by decide +kernel) rfl
set_option maxRecDepth 100000 in
theorem wl_X1_97 : Cond.methodLink RX1 97 yX1_gain ∈ WALL := wall 569 (by decide +kernel) rfl
set_option maxRecDepth 100000 in
theorem wi_X1_gain : Cond.instanceMethod yX1_gain ∈ WALL := wall 571 (by decide +kernel) rfl
set_option maxRecDepth 100000 in
theorem wc_X1_gain : Cond.code yX1_gain cX1_gain 5 (some .int) ∈ WALL := wall 572 (by decide +kernel) rfl
set_option maxRecDepth 100000 in
theorem kl_X1_82 : lw_tbl[573]? = some (Cond.methodLinkNest RX1 82 yX5_bit "DayKnown") := by decide +kernel
set_option maxRecDepth 100000 in
theorem wt_X5_bit : Cond.static yX5_bit ∈ WALL := wall 574 (by decide +kernel) rfl
set_option maxRecDepth 100000 in
theorem wc_X5_bit : Cond.code yX5_bit cX5_bit 2 (some .int) ∈ WALL := wall 575 (by decide +kernel) rfl
set_option maxRecDepth 100000 in
theorem wl_X1_85 : Cond.methodLink RX1 85 yX1_worth ∈ WALL := wall 576 (by decide +kernel) rfl
set_option maxRecDepth 100000 in
theorem wi_X1_worth : Cond.instanceMethod yX1_worth ∈ WALL := wall 578 (by decide +kernel) rfl
set_option maxRecDepth 100000 in
theorem wc_X1_worth : Cond.code yX1_worth cX1_worth 7 (some .int) ∈ WALL := wall 579 (by decide +kernel) rfl
set_option maxRecDepth 100000 in
theorem wl_X1_93 : Cond.methodLink RX1 93 yX1_would ∈ WALL := wall 580 (by decide +kernel) rfl
set_option maxRecDepth 100000 in
theorem wi_X1_would : Cond.instanceMethod yX1_would ∈ WALL := wall 582 (by decide +kernel) rfl
set_option maxRecDepth 100000 in
theorem wc_X1_would : Cond.code yX1_would cX1_would 7 (some .boolean) ∈ WALL := wall 583 (by decide +kernel) rfl
set_option maxRecDepth 100000 in
theorem kl_X5_127 : lw_tbl[584]? = some (Cond.methodLinkNest RX5 127 yX1_sightOf "DayKnown") := by decide +kernel
set_option maxRecDepth 100000 in
theorem kl_X5_130 : lw_tbl[585]? = some (Cond.methodLinkNest RX5 130 yX1_worth "DayKnown") := by decide +kernel
set_option maxRecDepth 100000 in
theorem kl_X5_134 : lw_tbl[586]? = some (Cond.methodLinkNest RX5 134 yX1_answerOf "DayKnown") := by decide +kernel
set_option maxRecDepth 100000 in
theorem wi_X1_answerOf : Cond.instanceMethod yX1_answerOf ∈ WALL := wall 588 (by decide +kernel) rfl
set_option maxRecDepth 100000 in
theorem wc_X1_answerOf : Cond.code yX1_answerOf cX1_answerOf 4 (some .int) ∈ WALL := wall 589 (by decide +kernel) rfl
set_option maxRecDepth 100000 in
theorem kl_X1_103 : lw_tbl[590]? = some (Cond.methodLinkNest RX1 103 yX2_has "DayKnown") := by decide +kernel
set_option maxRecDepth 100000 in
theorem wl_X5_137 : Cond.methodLink RX5 137 yX5_bit ∈ WALL := wall 591 (by decide +kernel) rfl
set_option maxRecDepth 100000 in
theorem kl_X5_140 : lw_tbl[592]? = some (Cond.methodLinkNest RX5 140 yX1_gain "DayKnown") := by decide +kernel
set_option maxRecDepth 100000 in
theorem wl_L_54 : Cond.methodLink RL 54 yX5_day ∈ WALL := wall 593 (by decide +kernel) rfl
set_option maxRecDepth 100000 in
theorem wi_X5_day : Cond.instanceMethod yX5_day ∈ WALL := wall 594 (by decide +kernel) rfl
set_option maxRecDepth 100000 in
theorem we_X5_day : Cond.selects RX5 yX5_day yX5_day ∈ WALL := wall 595 (by decide +kernel) rfl
set_option maxRecDepth 100000 in
theorem wc_X5_day : Cond.code yX5_day cX5_day 3 (some .int) ∈ WALL := wall 596 (by decide +kernel) rfl
set_option maxRecDepth 100000 in
theorem kl_X5_143 : lw_tbl[597]? = some (Cond.methodLinkNest RX5 143 yX1_firstOtherwise "DayKnown") := by decide +kernel
set_option maxRecDepth 100000 in
theorem wi_X1_firstOtherwise : Cond.instanceMethod yX1_firstOtherwise ∈ WALL := wall 599 (by decide +kernel) rfl
set_option maxRecDepth 100000 in
theorem wc_X1_firstOtherwise : Cond.code yX1_firstOtherwise cX1_firstOtherwise 5 (some .int) ∈ WALL := wall 600 (by decide +kernel) rfl
set_option maxRecDepth 100000 in
theorem wl_X1_107 : Cond.methodLink RX1 107 yX1_answerOf ∈ WALL := wall 601 (by decide +kernel) rfl
set_option maxRecDepth 100000 in
theorem kl_X5_146 : lw_tbl[602]? = some (Cond.methodLinkNest RX5 146 yX1_answer "DayKnown") := by decide +kernel
set_option maxRecDepth 100000 in
theorem wi_X1_answer : Cond.instanceMethod yX1_answer ∈ WALL := wall 604 (by decide +kernel) rfl
set_option maxRecDepth 100000 in
theorem wc_X1_answer : Cond.code yX1_answer cX1_answer 4 (some .int) ∈ WALL := wall 605 (by decide +kernel) rfl
set_option maxRecDepth 100000 in
theorem kl_X5_149 : lw_tbl[606]? = some (Cond.methodLinkNest RX5 149 yX1_gainOfAll "DayKnown") := by decide +kernel
set_option maxRecDepth 100000 in
theorem wi_X1_gainOfAll : Cond.instanceMethod yX1_gainOfAll ∈ WALL := wall 608 (by decide +kernel) rfl
set_option maxRecDepth 100000 in
theorem wc_X1_gainOfAll : Cond.code yX1_gainOfAll cX1_gainOfAll 4 (some .int) ∈ WALL := wall 609 (by decide +kernel) rfl
set_option maxRecDepth 100000 in
theorem wl_L_58 : Cond.methodLink RL 58 yX5_all ∈ WALL := wall 610 (by decide +kernel) rfl
set_option maxRecDepth 100000 in
theorem wi_X5_all : Cond.instanceMethod yX5_all ∈ WALL := wall 611 (by decide +kernel) rfl
set_option maxRecDepth 100000 in
theorem we_X5_all : Cond.selects RX5 yX5_all yX5_all ∈ WALL := wall 612 (by decide +kernel) rfl
set_option maxRecDepth 100000 in
theorem wc_X5_all : Cond.code yX5_all cX5_all 2 (some .int) ∈ WALL := wall 613 (by decide +kernel) rfl
set_option maxRecDepth 100000 in
theorem wl_X5_152 : Cond.methodLink RX5 152 yX5_searchNow ∈ WALL := wall 614 (by decide +kernel) rfl
set_option maxRecDepth 100000 in
theorem wi_X5_searchNow : Cond.instanceMethod yX5_searchNow ∈ WALL := wall 616 (by decide +kernel) rfl
set_option maxRecDepth 100000 in
theorem wc_X5_searchNow : Cond.code yX5_searchNow cX5_searchNow 1 none ∈ WALL := wall 617 (by decide +kernel) rfl
set_option maxRecDepth 100000 in
theorem kl_X5_259 : lw_tbl[618]? = some (Cond.methodLinkNest RX5 259 yX1_search "DayKnown") := by decide +kernel
set_option maxRecDepth 100000 in
theorem wi_X1_search : Cond.instanceMethod yX1_search ∈ WALL := wall 620 (by decide +kernel) rfl
set_option maxRecDepth 100000 in
theorem wc_X1_search : Cond.code yX1_search cX1_search 3 none ∈ WALL := wall 621 (by decide +kernel) rfl
set_option maxRecDepth 100000 in
theorem kl_X1_125 : lw_tbl[622]? = some (Cond.methodLinkNest RX1 125 yX2_allDays "DayKnown") := by decide +kernel
set_option maxRecDepth 100000 in
theorem wl_X1_129 : Cond.methodLink RX1 129 yX1_stands ∈ WALL := wall 623 (by decide +kernel) rfl
set_option maxRecDepth 100000 in
theorem wi_X1_stands : Cond.instanceMethod yX1_stands ∈ WALL := wall 625 (by decide +kernel) rfl
set_option maxRecDepth 100000 in
theorem wc_X1_stands : Cond.code yX1_stands cX1_stands 2 (some .boolean) ∈ WALL := wall 626 (by decide +kernel) rfl
set_option maxRecDepth 100000 in
theorem wl_X1_110 : Cond.methodLink RX1 110 yX1_firstOtherwise ∈ WALL := wall 627 (by decide +kernel) rfl
set_option maxRecDepth 100000 in
theorem wl_X1_132 : Cond.methodLink RX1 132 yX1_addStanding ∈ WALL := wall 628 (by decide +kernel) rfl
set_option maxRecDepth 100000 in
theorem wi_X1_addStanding : Cond.instanceMethod yX1_addStanding ∈ WALL := wall 630 (by decide +kernel) rfl
set_option maxRecDepth 100000 in
theorem wc_X1_addStanding : Cond.code yX1_addStanding cX1_addStanding 3 none ∈ WALL := wall 631 (by decide +kernel) rfl
set_option maxRecDepth 100000 in
theorem wl_X1_136 : Cond.methodLink RX1 136 yX1_gainOfAll ∈ WALL := wall 632 (by decide +kernel) rfl
set_option maxRecDepth 100000 in
theorem wl_L_62 : Cond.methodLink RL 62 yX5_once ∈ WALL := wall 633 (by decide +kernel) rfl
set_option maxRecDepth 100000 in
theorem wi_X5_once : Cond.instanceMethod yX5_once ∈ WALL := wall 634 (by decide +kernel) rfl
set_option maxRecDepth 100000 in
theorem we_X5_once : Cond.selects RX5 yX5_once yX5_once ∈ WALL := wall 635 (by decide +kernel) rfl
set_option maxRecDepth 100000 in
theorem wc_X5_once : Cond.code yX5_once cX5_once 7 (some .int) ∈ WALL := wall 636 (by decide +kernel) rfl
set_option maxRecDepth 100000 in
theorem wl_X5_170 : Cond.methodLink RX5 170 yX5_isPart ∈ WALL := wall 637 (by decide +kernel) rfl
set_option maxRecDepth 100000 in
theorem wt_X5_isPart : Cond.static yX5_isPart ∈ WALL := wall 638 (by decide +kernel) rfl
set_option maxRecDepth 100000 in
theorem wc_X5_isPart : Cond.code yX5_isPart cX5_isPart 1 (some .boolean) ∈ WALL := wall 639 (by decide +kernel) rfl
set_option maxRecDepth 100000 in
theorem kl_X5_173 : lw_tbl[640]? = some (Cond.methodLinkNest RX5 173 yX1_stands "DayKnown") := by decide +kernel
set_option maxRecDepth 100000 in
theorem wl_L_66 : Cond.methodLink RL 66 yX5_again ∈ WALL := wall 641 (by decide +kernel) rfl
set_option maxRecDepth 100000 in
theorem wi_X5_again : Cond.instanceMethod yX5_again ∈ WALL := wall 642 (by decide +kernel) rfl
set_option maxRecDepth 100000 in
theorem we_X5_again : Cond.selects RX5 yX5_again yX5_again ∈ WALL := wall 643 (by decide +kernel) rfl
set_option maxRecDepth 100000 in
theorem wc_X5_again : Cond.code yX5_again cX5_again 5 (some .int) ∈ WALL := wall 644 (by decide +kernel) rfl
set_option maxRecDepth 100000 in
theorem wl_X5_176 : Cond.methodLink RX5 176 yX5_placeOnPath ∈ WALL := wall 645 (by decide +kernel) rfl
set_option maxRecDepth 100000 in
theorem wi_X5_placeOnPath : Cond.instanceMethod yX5_placeOnPath ∈ WALL := wall 647 (by decide +kernel) rfl
set_option maxRecDepth 100000 in
theorem wc_X5_placeOnPath : Cond.code yX5_placeOnPath cX5_placeOnPath 4 (some .int) ∈ WALL := wall 648 (by decide +kernel) rfl
set_option maxRecDepth 100000 in
theorem wl_L_70 : Cond.methodLink RL 70 yX5_morning ∈ WALL := wall 649 (by decide +kernel) rfl
set_option maxRecDepth 100000 in
theorem wi_X5_morning : Cond.instanceMethod yX5_morning ∈ WALL := wall 650 (by decide +kernel) rfl
set_option maxRecDepth 100000 in
theorem we_X5_morning : Cond.selects RX5 yX5_morning yX5_morning ∈ WALL := wall 651 (by decide +kernel) rfl
set_option maxRecDepth 100000 in
theorem wc_X5_morning : Cond.code yX5_morning cX5_morning 2 (some .int) ∈ WALL := wall 652 (by decide +kernel) rfl
set_option maxRecDepth 100000 in
theorem kl_X5_179 : lw_tbl[653]? = some (Cond.methodLinkNest RX5 179 yX1_comingDay "DayKnown") := by decide +kernel
set_option maxRecDepth 100000 in
theorem wi_X1_comingDay : Cond.instanceMethod yX1_comingDay ∈ WALL := wall 655 (by decide +kernel) rfl
set_option maxRecDepth 100000 in
theorem wc_X1_comingDay : Cond.code yX1_comingDay cX1_comingDay 1 (some .int) ∈ WALL := wall 656 (by decide +kernel) rfl
set_option maxRecDepth 100000 in
theorem wl_X1_142 : Cond.methodLink RX1 142 yX1_answer ∈ WALL := wall 657 (by decide +kernel) rfl
set_option maxRecDepth 100000 in
theorem kl_X5_183 : lw_tbl[658]? = some (Cond.methodLinkNest RX5 183 yX2_endMorning "DayKnown") := by decide +kernel
set_option maxRecDepth 100000 in
theorem wi_X2_endMorning : Cond.instanceMethod yX2_endMorning ∈ WALL := wall 660 (by decide +kernel) rfl
set_option maxRecDepth 100000 in
theorem wc_X2_endMorning : Cond.code yX2_endMorning cX2_endMorning 4 none ∈ WALL := wall 661 (by decide +kernel) rfl
set_option maxRecDepth 100000 in
theorem kl_X2_43 : lw_tbl[662]? = some (Cond.methodLinkNest RX2 43 yX5_ownRow "DayKnown") := by decide +kernel
set_option maxRecDepth 100000 in
theorem wl_X2_47 : Cond.methodLink RX2 47 yJ6_bitCount_0f7a4 ∈ WALL := wall 663 (by decide +kernel) rfl
set_option maxRecDepth 100000 in
theorem wl_L_74 : Cond.methodLink RL 74 yX5_year ∈ WALL := wall 664 (by decide +kernel) rfl
set_option maxRecDepth 100000 in
theorem wi_X5_year : Cond.instanceMethod yX5_year ∈ WALL := wall 665 (by decide +kernel) rfl
set_option maxRecDepth 100000 in
theorem we_X5_year : Cond.selects RX5 yX5_year yX5_year ∈ WALL := wall 666 (by decide +kernel) rfl
set_option maxRecDepth 100000 in
theorem wc_X5_year : Cond.code yX5_year cX5_year 7 (some .int) ∈ WALL := wall 667 (by decide +kernel) rfl
set_option maxRecDepth 100000 in
theorem kl_X5_188 : lw_tbl[668]? = some (Cond.methodLinkNest RX5 188 yX2_become "DayKnown") := by decide +kernel
set_option maxRecDepth 100000 in
theorem wi_X2_become : Cond.instanceMethod yX2_become ∈ WALL := wall 670 (by decide +kernel) rfl
set_option maxRecDepth 100000 in
theorem wc_X2_become : Cond.code yX2_become cX2_become 2 none ∈ WALL := wall 671 (by decide +kernel) rfl
set_option maxRecDepth 100000 in
theorem wl_X2_53 : Cond.methodLink RX2 53 arraycopyName ∈ WALL := wall 672 (by decide +kernel) rfl
set_option maxRecDepth 100000 in
theorem wl_X5_191 : Cond.methodLink RX5 191 yX5_searchThen ∈ WALL := wall 673 (by decide +kernel) rfl
set_option maxRecDepth 100000 in
theorem wi_X5_searchThen : Cond.instanceMethod yX5_searchThen ∈ WALL := wall 675 (by decide +kernel) rfl
set_option maxRecDepth 100000 in
theorem wc_X5_searchThen : Cond.code yX5_searchThen cX5_searchThen 1 none ∈ WALL := wall 676 (by decide +kernel) rfl
set_option maxRecDepth 100000 in
theorem wl_L_78 : Cond.methodLink RL 78 yX5_bet ∈ WALL := wall 677 (by decide +kernel) rfl
set_option maxRecDepth 100000 in
theorem wi_X5_bet : Cond.instanceMethod yX5_bet ∈ WALL := wall 678 (by decide +kernel) rfl
set_option maxRecDepth 100000 in
theorem we_X5_bet : Cond.selects RX5 yX5_bet yX5_bet ∈ WALL := wall 679 (by decide +kernel) rfl
set_option maxRecDepth 100000 in
theorem wc_X5_bet : Cond.code yX5_bet cX5_bet 6 (some .int) ∈ WALL := wall 680 (by decide +kernel) rfl
set_option maxRecDepth 100000 in
theorem kl_X5_194 : lw_tbl[681]? = some (Cond.methodLinkNest RX5 194 yX1_stoodWith "DayKnown") := by decide +kernel
set_option maxRecDepth 100000 in
theorem wi_X1_stoodWith : Cond.instanceMethod yX1_stoodWith ∈ WALL := wall 683 (by decide +kernel) rfl
set_option maxRecDepth 100000 in
theorem wc_X1_stoodWith : Cond.code yX1_stoodWith cX1_stoodWith 5 (some .int) ∈ WALL := wall 684 (by decide +kernel) rfl
set_option maxRecDepth 100000 in
theorem wl_X5_197 : Cond.methodLink RX5 197 yX5_commonDivisor ∈ WALL := wall 685 (by decide +kernel) rfl
set_option maxRecDepth 100000 in
theorem wt_X5_commonDivisor : Cond.static yX5_commonDivisor ∈ WALL := wall 686 (by decide +kernel) rfl
set_option maxRecDepth 100000 in
theorem wc_X5_commonDivisor : Cond.code yX5_commonDivisor cX5_commonDivisor 4 (some .int) ∈ WALL := wall 687 (by decide +kernel) rfl
set_option maxRecDepth 100000 in
theorem wl_X5_200 : Cond.methodLink RX5 200 yJ9_max_7cf53 ∈ WALL := wall 688 (by decide +kernel) rfl
set_option maxRecDepth 100000 in
theorem wl_L_83 : Cond.methodLink RL 83 yX5_sure ∈ WALL := wall 689 (by decide +kernel) rfl
set_option maxRecDepth 100000 in
theorem wi_X5_sure : Cond.instanceMethod yX5_sure ∈ WALL := wall 690 (by decide +kernel) rfl
set_option maxRecDepth 100000 in
theorem we_X5_sure : Cond.selects RX5 yX5_sure yX5_sure ∈ WALL := wall 691 (by decide +kernel) rfl
set_option maxRecDepth 100000 in
theorem wc_X5_sure : Cond.code yX5_sure cX5_sure 5 (some .int) ∈ WALL := wall 692 (by decide +kernel) rfl
set_option maxRecDepth 100000 in
theorem wl_X5_208 : Cond.methodLink RX5 208 yJ6_bitCount_0f7a4 ∈ WALL := wall 693 (by decide +kernel) rfl
set_option maxRecDepth 100000 in
theorem wl_X5_213 : Cond.methodLink RX5 213 yX5_tellThen ∈ WALL := wall 694 (by decide +kernel) rfl
set_option maxRecDepth 100000 in
theorem wi_X5_tellThen : Cond.instanceMethod yX5_tellThen ∈ WALL := wall 696 (by decide +kernel) rfl
set_option maxRecDepth 100000 in
theorem wc_X5_tellThen : Cond.code yX5_tellThen cX5_tellThen 3 none ∈ WALL := wall 697 (by decide +kernel) rfl
set_option maxRecDepth 100000 in
theorem wl_X5_217 : Cond.methodLink RX5 217 yX5_ownRow ∈ WALL := wall 698 (by decide +kernel) rfl
set_option maxRecDepth 100000 in
theorem wl_L_87 : Cond.methodLink RL 87 yX5_secret ∈ WALL := wall 699 (by decide +kernel) rfl
set_option maxRecDepth 100000 in
theorem wi_X5_secret : Cond.instanceMethod yX5_secret ∈ WALL := wall 700 (by decide +kernel) rfl
set_option maxRecDepth 100000 in
theorem we_X5_secret : Cond.selects RX5 yX5_secret yX5_secret ∈ WALL := wall 701 (by decide +kernel) rfl
set_option maxRecDepth 100000 in
theorem wc_X5_secret : Cond.code yX5_secret cX5_secret 3 (some .int) ∈ WALL := wall 702 (by decide +kernel) rfl
set_option maxRecDepth 100000 in
theorem wl_L_91 : Cond.methodLink RL 91 yX5_swap ∈ WALL := wall 703 (by decide +kernel) rfl
set_option maxRecDepth 100000 in
theorem wi_X5_swap : Cond.instanceMethod yX5_swap ∈ WALL := wall 704 (by decide +kernel) rfl
set_option maxRecDepth 100000 in
theorem we_X5_swap : Cond.selects RX5 yX5_swap yX5_swap ∈ WALL := wall 705 (by decide +kernel) rfl
set_option maxRecDepth 100000 in
theorem wc_X5_swap : Cond.code yX5_swap cX5_swap 6 (some .int) ∈ WALL := wall 706 (by decide +kernel) rfl
set_option maxRecDepth 100000 in
theorem kl_X5_220 : lw_tbl[707]? = some (Cond.methodLinkNest RX5 220 yX2_exchange "DayKnown") := by decide +kernel
set_option maxRecDepth 100000 in
theorem wi_X2_exchange : Cond.instanceMethod yX2_exchange ∈ WALL := wall 709 (by decide +kernel) rfl
set_option maxRecDepth 100000 in
theorem wc_X2_exchange : Cond.code yX2_exchange cX2_exchange 5 none ∈ WALL := wall 710 (by decide +kernel) rfl
set_option maxRecDepth 100000 in
theorem wl_X2_36 : Cond.methodLink RX2 36 yX2_has ∈ WALL := wall 711 (by decide +kernel) rfl
set_option maxRecDepth 100000 in
theorem wl_X5_223 : Cond.methodLink RX5 223 yX5_wouldRather ∈ WALL := wall 712 (by decide +kernel) rfl
set_option maxRecDepth 100000 in
theorem wi_X5_wouldRather : Cond.instanceMethod yX5_wouldRather ∈ WALL := wall 714 (by decide +kernel) rfl
set_option maxRecDepth 100000 in
theorem wc_X5_wouldRather : Cond.code yX5_wouldRather cX5_wouldRather 3 (some .boolean) ∈ WALL := wall 715 (by decide +kernel) rfl
set_option maxRecDepth 100000 in
theorem wl_X5_262 : Cond.methodLink RX5 262 yX5_isBetterThen ∈ WALL := wall 716 (by decide +kernel) rfl
set_option maxRecDepth 100000 in
theorem wi_X5_isBetterThen : Cond.instanceMethod yX5_isBetterThen ∈ WALL := wall 718 (by decide +kernel) rfl
set_option maxRecDepth 100000 in
theorem wc_X5_isBetterThen : Cond.code yX5_isBetterThen cX5_isBetterThen 3 (some .boolean) ∈ WALL := wall 719 (by decide +kernel) rfl
set_option maxRecDepth 100000 in
theorem wl_L_95 : Cond.methodLink RL 95 yX5_book ∈ WALL := wall 720 (by decide +kernel) rfl
set_option maxRecDepth 100000 in
theorem wi_X5_book : Cond.instanceMethod yX5_book ∈ WALL := wall 721 (by decide +kernel) rfl
set_option maxRecDepth 100000 in
theorem we_X5_book : Cond.selects RX5 yX5_book yX5_book ∈ WALL := wall 722 (by decide +kernel) rfl
set_option maxRecDepth 100000 in
theorem wc_X5_book : Cond.code yX5_book cX5_book 2 (some .int) ∈ WALL := wall 723 (by decide +kernel) rfl
set_option maxRecDepth 100000 in
theorem wl_L_99 : Cond.methodLink RL 99 yX5_looked ∈ WALL := wall 724 (by decide +kernel) rfl
set_option maxRecDepth 100000 in
theorem wi_X5_looked : Cond.instanceMethod yX5_looked ∈ WALL := wall 725 (by decide +kernel) rfl
set_option maxRecDepth 100000 in
theorem we_X5_looked : Cond.selects RX5 yX5_looked yX5_looked ∈ WALL := wall 726 (by decide +kernel) rfl
set_option maxRecDepth 100000 in
theorem wc_X5_looked : Cond.code yX5_looked cX5_looked 5 (some .int) ∈ WALL := wall 727 (by decide +kernel) rfl
set_option maxRecDepth 100000 in
theorem wl_L_103 : Cond.methodLink RL 103 yX5_act ∈ WALL := wall 728 (by decide +kernel) rfl
set_option maxRecDepth 100000 in
theorem wi_X5_act : Cond.instanceMethod yX5_act ∈ WALL := wall 729 (by decide +kernel) rfl
set_option maxRecDepth 100000 in
theorem we_X5_act : Cond.selects RX5 yX5_act yX5_act ∈ WALL := wall 730 (by decide +kernel) rfl
set_option maxRecDepth 100000 in
theorem wc_X5_act : Cond.code yX5_act cX5_act 4 (some .int) ∈ WALL := wall 731 (by decide +kernel) rfl
set_option maxRecDepth 100000 in
theorem kl_X5_233 : lw_tbl[732]? = some (Cond.methodLinkNest RX5 233 yX0_clear "DayKnown") := by decide +kernel
set_option maxRecDepth 100000 in
theorem wi_X0_clear : Cond.instanceMethod yX0_clear ∈ WALL := wall 734 (by decide +kernel) rfl
set_option maxRecDepth 100000 in
theorem wc_X0_clear : Cond.code yX0_clear cX0_clear 1 none ∈ WALL := wall 735 (by decide +kernel) rfl
set_option maxRecDepth 100000 in
theorem kl_X5_236 : lw_tbl[736]? = some (Cond.methodLinkNest RX5 236 yX0_start "DayKnown") := by decide +kernel
set_option maxRecDepth 100000 in
theorem wi_X0_start : Cond.instanceMethod yX0_start ∈ WALL := wall 738 (by decide +kernel) rfl
set_option maxRecDepth 100000 in
theorem wc_X0_start : Cond.code yX0_start cX0_start 5 (some .int) ∈ WALL := wall 739 (by decide +kernel) rfl
set_option maxRecDepth 100000 in
theorem kl_X0_19 : lw_tbl[740]? = some (Cond.methodLinkNest RX0 19 yX2_has "DayKnown") := by decide +kernel
set_option maxRecDepth 100000 in
theorem wl_X0_38 : Cond.methodLink RX0 38 yX0_ask ∈ WALL := wall 741 (by decide +kernel) rfl
set_option maxRecDepth 100000 in
theorem wi_X0_ask : Cond.instanceMethod yX0_ask ∈ WALL := wall 743 (by decide +kernel) rfl
set_option maxRecDepth 100000 in
theorem wc_X0_ask : Cond.code yX0_ask cX0_ask 7 (some .int) ∈ WALL := wall 744 (by decide +kernel) rfl
set_option maxRecDepth 100000 in
theorem wl_X0_48 : Cond.methodLink RX0 48 yX0_bodyOf ∈ WALL := wall 745 (by decide +kernel) rfl
set_option maxRecDepth 100000 in
theorem wt_X0_bodyOf : Cond.static yX0_bodyOf ∈ WALL := wall 746 (by decide +kernel) rfl
set_option maxRecDepth 100000 in
theorem wc_X0_bodyOf : Cond.code yX0_bodyOf cX0_bodyOf 5 (some .int) ∈ WALL := wall 747 (by decide +kernel) rfl
set_option maxRecDepth 100000 in
theorem wf_X0_42 : Cond.fieldLink RX0 42 "DayKnown$Acts" "BODY" "[I" ∈ WALL := wall 748 (by decide +kernel) rfl
set_option maxRecDepth 100000 in
theorem kf_X0_45 : lw_tbl[750]? = some (Cond.fieldLinkNest RX0 45 "DayKnown" "KIND_ABOVE" "[I" "DayKnown") := by decide +kernel
set_option maxRecDepth 100000 in
theorem wl_X0_52 : Cond.methodLink RX0 52 yX0_begin ∈ WALL := wall 752 (by decide +kernel) rfl
set_option maxRecDepth 100000 in
theorem wi_X0_begin : Cond.instanceMethod yX0_begin ∈ WALL := wall 754 (by decide +kernel) rfl
set_option maxRecDepth 100000 in
theorem wc_X0_begin : Cond.code yX0_begin cX0_begin 2 none ∈ WALL := wall 755 (by decide +kernel) rfl
set_option maxRecDepth 100000 in
theorem wl_L_107 : Cond.methodLink RL 107 yX5_trace ∈ WALL := wall 756 (by decide +kernel) rfl
set_option maxRecDepth 100000 in
theorem wi_X5_trace : Cond.instanceMethod yX5_trace ∈ WALL := wall 757 (by decide +kernel) rfl
set_option maxRecDepth 100000 in
theorem we_X5_trace : Cond.selects RX5 yX5_trace yX5_trace ∈ WALL := wall 758 (by decide +kernel) rfl
set_option maxRecDepth 100000 in
theorem wc_X5_trace : Cond.code yX5_trace cX5_trace 2 (some .int) ∈ WALL := wall 759 (by decide +kernel) rfl
set_option maxRecDepth 100000 in
theorem wl_L_111 : Cond.methodLink RL 111 yX5_as ∈ WALL := wall 760 (by decide +kernel) rfl
set_option maxRecDepth 100000 in
theorem wi_X5_as : Cond.instanceMethod yX5_as ∈ WALL := wall 761 (by decide +kernel) rfl
set_option maxRecDepth 100000 in
theorem we_X5_as : Cond.selects RX5 yX5_as yX5_as ∈ WALL := wall 762 (by decide +kernel) rfl
set_option maxRecDepth 100000 in
theorem wc_X5_as : Cond.code yX5_as cX5_as 5 (some .int) ∈ WALL := wall 763 (by decide +kernel) rfl
set_option maxRecDepth 100000 in
theorem wf_X5_246 : Cond.fieldLink RX5 246 "DayKnown" "KIND_ABOVE" "[I" ∈ WALL := wall 764 (by decide +kernel) rfl
set_option maxRecDepth 100000 in
theorem wl_L_115 : Cond.methodLink RL 115 yX5_image ∈ WALL := wall 765 (by decide +kernel) rfl
set_option maxRecDepth 100000 in
theorem wi_X5_image : Cond.instanceMethod yX5_image ∈ WALL := wall 766 (by decide +kernel) rfl
set_option maxRecDepth 100000 in
theorem we_X5_image : Cond.selects RX5 yX5_image yX5_image ∈ WALL := wall 767 (by decide +kernel) rfl
set_option maxRecDepth 100000 in
theorem wc_X5_image : Cond.code yX5_image cX5_image 1 (some .int) ∈ WALL := wall 768 (by decide +kernel) rfl
set_option maxRecDepth 100000 in
theorem kl_X5_249 : lw_tbl[769]? = some (Cond.methodLinkNest RX5 249 yX3_become "DayKnown") := by decide +kernel
set_option maxRecDepth 100000 in
theorem wi_X3_become : Cond.instanceMethod yX3_become ∈ WALL := wall 771 (by decide +kernel) rfl
set_option maxRecDepth 100000 in
theorem wc_X3_become : Cond.code yX3_become cX3_become 2 none ∈ WALL := wall 772 (by decide +kernel) rfl
set_option maxRecDepth 100000 in
theorem kl_X3_25 : lw_tbl[773]? = some (Cond.methodLinkNest RX3 25 yX2_become "DayKnown") := by decide +kernel
set_option maxRecDepth 100000 in
theorem wl_X3_29 : Cond.methodLink RX3 29 arraycopyName ∈ WALL := wall 774 (by decide +kernel) rfl
set_option maxRecDepth 100000 in
theorem wl_L_119 : Cond.methodLink RL 119 yX5_undo ∈ WALL := wall 775 (by decide +kernel) rfl
set_option maxRecDepth 100000 in
theorem wi_X5_undo : Cond.instanceMethod yX5_undo ∈ WALL := wall 776 (by decide +kernel) rfl
set_option maxRecDepth 100000 in
theorem we_X5_undo : Cond.selects RX5 yX5_undo yX5_undo ∈ WALL := wall 777 (by decide +kernel) rfl
set_option maxRecDepth 100000 in
theorem wc_X5_undo : Cond.code yX5_undo cX5_undo 1 (some .int) ∈ WALL := wall 778 (by decide +kernel) rfl
set_option maxRecDepth 100000 in
theorem wl_L_123 : Cond.methodLink RL 123 yX5_count ∈ WALL := wall 779 (by decide +kernel) rfl
set_option maxRecDepth 100000 in
theorem wi_X5_count : Cond.instanceMethod yX5_count ∈ WALL := wall 780 (by decide +kernel) rfl
set_option maxRecDepth 100000 in
theorem we_X5_count : Cond.selects RX5 yX5_count yX5_count ∈ WALL := wall 781 (by decide +kernel) rfl
set_option maxRecDepth 100000 in
theorem wc_X5_count : Cond.code yX5_count cX5_count 2 (some .int) ∈ WALL := wall 782 (by decide +kernel) rfl
set_option maxRecDepth 100000 in
theorem wcl_L_10 : Cond.classLink RL 10 "DayKnownModel" ∈ WALL := wall 783 (by decide +kernel) rfl
set_option maxRecDepth 100000 in
theorem wn_X6 : Cond.instantiable RX6 28 ∈ WALL := wall 784 (by decide +kernel) rfl
set_option maxRecDepth 100000 in
theorem wl_L_12 : Cond.methodLink RL 12 yX6_init ∈ WALL := wall 785 (by decide +kernel) rfl
set_option maxRecDepth 100000 in
theorem wi_X6_init : Cond.instanceMethod yX6_init ∈ WALL := wall 786 (by decide +kernel) rfl
set_option maxRecDepth 100000 in
theorem wc_X6_init : Cond.code yX6_init cX6_init 1 none ∈ WALL := wall 787 (by decide +kernel) rfl
set_option maxRecDepth 100000 in
theorem wl_X6_1 : Cond.methodLink RX6 1 Lib.objectInit ∈ WALL := wall 788 (by decide +kernel) rfl
set_option maxRecDepth 100000 in
theorem wf_X6_7 : Cond.fieldLink RX6 7 "DayKnownModel" "s" "[I" ∈ WALL := wall 789 (by decide +kernel) rfl
set_option maxRecDepth 100000 in
theorem wf_X6_13 : Cond.fieldLink RX6 13 "DayKnownModel" "image" "[I" ∈ WALL := wall 790 (by decide +kernel) rfl
set_option maxRecDepth 100000 in
theorem wf_X6_268 : Cond.fieldLink RX6 268 "DayKnownModel" "hasImage" "Z" ∈ WALL := wall 791 (by decide +kernel) rfl
set_option maxRecDepth 100000 in
theorem wf_X6_79 : Cond.fieldLink RX6 79 "DayKnownModel" "act" "I" ∈ WALL := wall 792 (by decide +kernel) rfl
set_option maxRecDepth 100000 in
theorem wf_X6_53 : Cond.fieldLink RX6 53 "DayKnownModel" "spot" "I" ∈ WALL := wall 793 (by decide +kernel) rfl
set_option maxRecDepth 100000 in
theorem wf_X6_56 : Cond.fieldLink RX6 56 "DayKnownModel" "end" "I" ∈ WALL := wall 794 (by decide +kernel) rfl
set_option maxRecDepth 100000 in
theorem wf_X6_59 : Cond.fieldLink RX6 59 "DayKnownModel" "isWrong" "Z" ∈ WALL := wall 795 (by decide +kernel) rfl
set_option maxRecDepth 100000 in
theorem wf_X6_82 : Cond.fieldLink RX6 82 "DayKnownModel" "open" "I" ∈ WALL := wall 796 (by decide +kernel) rfl
set_option maxRecDepth 100000 in
theorem wf_X6_16 : Cond.fieldLink RX6 16 "DayKnownModel" "by" "[I" ∈ WALL := wall 797 (by decide +kernel) rfl
set_option maxRecDepth 100000 in
theorem wf_X6_19 : Cond.fieldLink RX6 19 "DayKnownModel" "truths" "[Z" ∈ WALL := wall 798 (by decide +kernel) rfl
set_option maxRecDepth 100000 in
theorem wf_X6_23 : Cond.fieldLink RX6 23 "DayKnownModel" "table" "[I" ∈ WALL := wall 799 (by decide +kernel) rfl
set_option maxRecDepth 100000 in
theorem wf_X6_26 : Cond.fieldLink RX6 26 "DayKnownModel" "bests" "[I" ∈ WALL := wall 800 (by decide +kernel) rfl
set_option maxRecDepth 100000 in
theorem wf_X6_132 : Cond.fieldLink RX6 132 "DayKnownModel" "times" "I" ∈ WALL := wall 801 (by decide +kernel) rfl
set_option maxRecDepth 100000 in
theorem wf_X6_190 : Cond.fieldLink RX6 190 "DayKnownModel" "standing" "I" ∈ WALL := wall 802 (by decide +kernel) rfl
set_option maxRecDepth 100000 in
theorem wf_X6_193 : Cond.fieldLink RX6 193 "DayKnownModel" "leastDay" "I" ∈ WALL := wall 803 (by decide +kernel) rfl
set_option maxRecDepth 100000 in
theorem wf_X6_196 : Cond.fieldLink RX6 196 "DayKnownModel" "greatestDay" "I" ∈ WALL := wall 804 (by decide +kernel) rfl
set_option maxRecDepth 100000 in
theorem wf_X6_199 : Cond.fieldLink RX6 199 "DayKnownModel" "chosen" "I" ∈ WALL := wall 805 (by decide +kernel) rfl
set_option maxRecDepth 100000 in
theorem wf_X6_202 : Cond.fieldLink RX6 202 "DayKnownModel" "chosenGain" "I" ∈ WALL := wall 806 (by decide +kernel) rfl
set_option maxRecDepth 100000 in
theorem wf_X6_29 : Cond.fieldLink RX6 29 "DayKnownModel" "came" "[I" ∈ WALL := wall 807 (by decide +kernel) rfl
set_option maxRecDepth 100000 in
theorem wf_X6_211 : Cond.fieldLink RX6 211 "DayKnownModel" "dayGain" "I" ∈ WALL := wall 808 (by decide +kernel) rfl
set_option maxRecDepth 100000 in
theorem wf_X6_32 : Cond.fieldLink RX6 32 "DayKnownModel" "noteKept" "[I" ∈ WALL := wall 809 (by decide +kernel) rfl
set_option maxRecDepth 100000 in
theorem wf_X6_35 : Cond.fieldLink RX6 35 "DayKnownModel" "kept" "[I" ∈ WALL := wall 810 (by decide +kernel) rfl
set_option maxRecDepth 100000 in
theorem wf_X6_38 : Cond.fieldLink RX6 38 "DayKnownModel" "bodies" "[I" ∈ WALL := wall 811 (by decide +kernel) rfl
set_option maxRecDepth 100000 in
theorem wf_X6_232 : Cond.fieldLink RX6 232 "DayKnownModel" "ran" "I" ∈ WALL := wall 812 (by decide +kernel) rfl
set_option maxRecDepth 100000 in
theorem wf_X6_241 : Cond.fieldLink RX6 241 "DayKnownModel" "kind" "I" ∈ WALL := wall 813 (by decide +kernel) rfl
set_option maxRecDepth 100000 in
theorem wf_X6_238 : Cond.fieldLink RX6 238 "DayKnownModel" "number" "I" ∈ WALL := wall 814 (by decide +kernel) rfl
set_option maxRecDepth 100000 in
theorem wf_X6_250 : Cond.fieldLink RX6 250 "DayKnownModel" "tellsV" "I" ∈ WALL := wall 815 (by decide +kernel) rfl
set_option maxRecDepth 100000 in
theorem wa_boolean : Cond.arrayClass .boolean ∈ WALL := wall 873 (by decide +kernel) rfl
set_option maxRecDepth 100000 in
theorem wl_L_17 : Cond.methodLink RL 17 yX6_feed ∈ WALL := wall 874 (by decide +kernel) rfl
set_option maxRecDepth 100000 in
theorem wi_X6_feed : Cond.instanceMethod yX6_feed ∈ WALL := wall 875 (by decide +kernel) rfl
set_option maxRecDepth 100000 in
theorem we_X6_feed : Cond.selects RX6 yX6_feed yX6_feed ∈ WALL := wall 876 (by decide +kernel) rfl
set_option maxRecDepth 100000 in
theorem wc_X6_feed : Cond.code yX6_feed cX6_feed 2 (some .int) ∈ WALL := wall 877 (by decide +kernel) rfl
set_option maxRecDepth 100000 in
theorem wl_X6_45 : Cond.methodLink RX6 45 yX6_in ∈ WALL := wall 878 (by decide +kernel) rfl
set_option maxRecDepth 100000 in
theorem wt_X6_in : Cond.static yX6_in ∈ WALL := wall 879 (by decide +kernel) rfl
set_option maxRecDepth 100000 in
theorem wc_X6_in : Cond.code yX6_in cX6_in 3 (some .boolean) ∈ WALL := wall 880 (by decide +kernel) rfl
set_option maxRecDepth 100000 in
theorem wl_L_22 : Cond.methodLink RL 22 yX6_town ∈ WALL := wall 881 (by decide +kernel) rfl
set_option maxRecDepth 100000 in
theorem wi_X6_town : Cond.instanceMethod yX6_town ∈ WALL := wall 882 (by decide +kernel) rfl
set_option maxRecDepth 100000 in
theorem we_X6_town : Cond.selects RX6 yX6_town yX6_town ∈ WALL := wall 883 (by decide +kernel) rfl
set_option maxRecDepth 100000 in
theorem wc_X6_town : Cond.code yX6_town cX6_town 2 (some .int) ∈ WALL := wall 884 (by decide +kernel) rfl
set_option maxRecDepth 100000 in
theorem wl_X6_122 : Cond.methodLink RX6 122 yX6_clauseHere ∈ WALL := wall 885 (by decide +kernel) rfl
set_option maxRecDepth 100000 in
theorem wi_X6_clauseHere : Cond.instanceMethod yX6_clauseHere ∈ WALL := wall 887 (by decide +kernel) rfl
set_option maxRecDepth 100000 in
theorem wc_X6_clauseHere : Cond.code yX6_clauseHere cX6_clauseHere 2 none ∈ WALL := wall 888 (by decide +kernel) rfl
set_option maxRecDepth 100000 in
theorem wl_X6_63 : Cond.methodLink RX6 63 yX6_here ∈ WALL := wall 889 (by decide +kernel) rfl
set_option maxRecDepth 100000 in
theorem wi_X6_here : Cond.instanceMethod yX6_here ∈ WALL := wall 891 (by decide +kernel) rfl
set_option maxRecDepth 100000 in
theorem wc_X6_here : Cond.code yX6_here cX6_here 1 (some .int) ∈ WALL := wall 892 (by decide +kernel) rfl
set_option maxRecDepth 100000 in
theorem wl_X6_114 : Cond.methodLink RX6 114 yX6_much ∈ WALL := wall 894 (by decide +kernel) rfl
set_option maxRecDepth 100000 in
theorem wi_X6_much : Cond.instanceMethod yX6_much ∈ WALL := wall 896 (by decide +kernel) rfl
set_option maxRecDepth 100000 in
theorem wc_X6_much : Cond.code yX6_much cX6_much 4 none ∈ WALL := wall 897 (by decide +kernel) rfl
set_option maxRecDepth 100000 in
theorem wl_X6_108 : Cond.methodLink RX6 108 yX6_spells ∈ WALL := wall 898 (by decide +kernel) rfl
set_option maxRecDepth 100000 in
theorem wi_X6_spells : Cond.instanceMethod yX6_spells ∈ WALL := wall 900 (by decide +kernel) rfl
set_option maxRecDepth 100000 in
theorem wc_X6_spells : Cond.code yX6_spells cX6_spells 3 none ∈ WALL := wall 901 (by decide +kernel) rfl
set_option maxRecDepth 100000 in
theorem wl_X6_66 : Cond.methodLink RX6 66 yJ0_length_8abf5 ∈ WALL := wall 902 (by decide +kernel) rfl
set_option maxRecDepth 100000 in
theorem wl_X6_71 : Cond.methodLink RX6 71 yJ0_charAt_5068e ∈ WALL := wall 903 (by decide +kernel) rfl
set_option maxRecDepth 100000 in
theorem wl_X6_75 : Cond.methodLink RX6 75 yX6_must ∈ WALL := wall 904 (by decide +kernel) rfl
set_option maxRecDepth 100000 in
theorem wi_X6_must : Cond.instanceMethod yX6_must ∈ WALL := wall 906 (by decide +kernel) rfl
set_option maxRecDepth 100000 in
theorem wc_X6_must : Cond.code yX6_must cX6_must 2 none ∈ WALL := wall 907 (by decide +kernel) rfl
set_option maxRecDepth 100000 in
theorem wl_X6_102 : Cond.methodLink RX6 102 yX6_figures ∈ WALL := wall 908 (by decide +kernel) rfl
set_option maxRecDepth 100000 in
theorem wi_X6_figures : Cond.instanceMethod yX6_figures ∈ WALL := wall 910 (by decide +kernel) rfl
set_option maxRecDepth 100000 in
theorem wc_X6_figures : Cond.code yX6_figures cX6_figures 3 (some .int) ∈ WALL := wall 911 (by decide +kernel) rfl
set_option maxRecDepth 100000 in
theorem wl_X6_91 : Cond.methodLink RX6 91 yX6_some ∈ WALL := wall 912 (by decide +kernel) rfl
set_option maxRecDepth 100000 in
theorem wi_X6_some : Cond.instanceMethod yX6_some ∈ WALL := wall 914 (by decide +kernel) rfl
set_option maxRecDepth 100000 in
theorem wc_X6_some : Cond.code yX6_some cX6_some 1 none ∈ WALL := wall 915 (by decide +kernel) rfl
set_option maxRecDepth 100000 in
theorem wl_X6_105 : Cond.methodLink RX6 105 yX6_every ∈ WALL := wall 916 (by decide +kernel) rfl
set_option maxRecDepth 100000 in
theorem wi_X6_every : Cond.instanceMethod yX6_every ∈ WALL := wall 918 (by decide +kernel) rfl
set_option maxRecDepth 100000 in
theorem wc_X6_every : Cond.code yX6_every cX6_every 1 none ∈ WALL := wall 919 (by decide +kernel) rfl
set_option maxRecDepth 100000 in
theorem wl_X6_85 : Cond.methodLink RX6 85 yX6_factor ∈ WALL := wall 920 (by decide +kernel) rfl
set_option maxRecDepth 100000 in
theorem wi_X6_factor : Cond.instanceMethod yX6_factor ∈ WALL := wall 922 (by decide +kernel) rfl
set_option maxRecDepth 100000 in
theorem wc_X6_factor : Cond.code yX6_factor cX6_factor 5 none ∈ WALL := wall 923 (by decide +kernel) rfl
set_option maxRecDepth 100000 in
theorem wl_X6_88 : Cond.methodLink RX6 88 yX6_emits ∈ WALL := wall 924 (by decide +kernel) rfl
set_option maxRecDepth 100000 in
theorem wi_X6_emits : Cond.instanceMethod yX6_emits ∈ WALL := wall 926 (by decide +kernel) rfl
set_option maxRecDepth 100000 in
theorem wc_X6_emits : Cond.code yX6_emits cX6_emits 2 none ∈ WALL := wall 927 (by decide +kernel) rfl
set_option maxRecDepth 100000 in
theorem wl_X6_96 : Cond.methodLink RX6 96 yX6_among ∈ WALL := wall 929 (by decide +kernel) rfl
set_option maxRecDepth 100000 in
theorem wi_X6_among : Cond.instanceMethod yX6_among ∈ WALL := wall 931 (by decide +kernel) rfl
set_option maxRecDepth 100000 in
theorem wc_X6_among : Cond.code yX6_among cX6_among 3 (some .int) ∈ WALL := wall 932 (by decide +kernel) rfl
set_option maxRecDepth 100000 in
theorem wl_L_26 : Cond.methodLink RL 26 yX6_told ∈ WALL := wall 936 (by decide +kernel) rfl
set_option maxRecDepth 100000 in
theorem wi_X6_told : Cond.instanceMethod yX6_told ∈ WALL := wall 937 (by decide +kernel) rfl
set_option maxRecDepth 100000 in
theorem we_X6_told : Cond.selects RX6 yX6_told yX6_told ∈ WALL := wall 938 (by decide +kernel) rfl
set_option maxRecDepth 100000 in
theorem wc_X6_told : Cond.code yX6_told cX6_told 4 (some .int) ∈ WALL := wall 939 (by decide +kernel) rfl
set_option maxRecDepth 100000 in
theorem wl_X6_125 : Cond.methodLink RX6 125 yX6_tellsOf ∈ WALL := wall 940 (by decide +kernel) rfl
set_option maxRecDepth 100000 in
theorem wi_X6_tellsOf : Cond.instanceMethod yX6_tellsOf ∈ WALL := wall 942 (by decide +kernel) rfl
set_option maxRecDepth 100000 in
theorem wc_X6_tellsOf : Cond.code yX6_tellsOf cX6_tellsOf 2 (some .int) ∈ WALL := wall 943 (by decide +kernel) rfl
set_option maxRecDepth 100000 in
theorem wl_L_31 : Cond.methodLink RL 31 yX6_person ∈ WALL := wall 944 (by decide +kernel) rfl
set_option maxRecDepth 100000 in
theorem wi_X6_person : Cond.instanceMethod yX6_person ∈ WALL := wall 945 (by decide +kernel) rfl
set_option maxRecDepth 100000 in
theorem we_X6_person : Cond.selects RX6 yX6_person yX6_person ∈ WALL := wall 946 (by decide +kernel) rfl
set_option maxRecDepth 100000 in
theorem wc_X6_person : Cond.code yX6_person cX6_person 4 (some .int) ∈ WALL := wall 947 (by decide +kernel) rfl
set_option maxRecDepth 100000 in
theorem wl_L_35 : Cond.methodLink RL 35 yX6_of ∈ WALL := wall 948 (by decide +kernel) rfl
set_option maxRecDepth 100000 in
theorem wi_X6_of : Cond.instanceMethod yX6_of ∈ WALL := wall 949 (by decide +kernel) rfl
set_option maxRecDepth 100000 in
theorem we_X6_of : Cond.selects RX6 yX6_of yX6_of ∈ WALL := wall 950 (by decide +kernel) rfl
set_option maxRecDepth 100000 in
theorem wc_X6_of : Cond.code yX6_of cX6_of 3 (some .int) ∈ WALL := wall 951 (by decide +kernel) rfl
set_option maxRecDepth 100000 in
theorem wl_X6_152 : Cond.methodLink RX6 152 yX6_isPerson ∈ WALL := wall 952 (by decide +kernel) rfl
set_option maxRecDepth 100000 in
theorem wi_X6_isPerson : Cond.instanceMethod yX6_isPerson ∈ WALL := wall 954 (by decide +kernel) rfl
set_option maxRecDepth 100000 in
theorem wc_X6_isPerson : Cond.code yX6_isPerson cX6_isPerson 2 (some .boolean) ∈ WALL := wall 955 (by decide +kernel) rfl
set_option maxRecDepth 100000 in
theorem wl_L_39 : Cond.methodLink RL 39 yX6_row ∈ WALL := wall 956 (by decide +kernel) rfl
set_option maxRecDepth 100000 in
theorem wi_X6_row : Cond.instanceMethod yX6_row ∈ WALL := wall 957 (by decide +kernel) rfl
set_option maxRecDepth 100000 in
theorem we_X6_row : Cond.selects RX6 yX6_row yX6_row ∈ WALL := wall 958 (by decide +kernel) rfl
set_option maxRecDepth 100000 in
theorem wc_X6_row : Cond.code yX6_row cX6_row 4 (some .int) ∈ WALL := wall 959 (by decide +kernel) rfl
set_option maxRecDepth 100000 in
theorem wl_L_44 : Cond.methodLink RL 44 yX6_note ∈ WALL := wall 960 (by decide +kernel) rfl
set_option maxRecDepth 100000 in
theorem wi_X6_note : Cond.instanceMethod yX6_note ∈ WALL := wall 961 (by decide +kernel) rfl
set_option maxRecDepth 100000 in
theorem we_X6_note : Cond.selects RX6 yX6_note yX6_note ∈ WALL := wall 962 (by decide +kernel) rfl
set_option maxRecDepth 100000 in
theorem wc_X6_note : Cond.code yX6_note cX6_note 4 (some .int) ∈ WALL := wall 963 (by decide +kernel) rfl
set_option maxRecDepth 100000 in
theorem wl_L_48 : Cond.methodLink RL 48 yX6_yesterday ∈ WALL := wall 964 (by decide +kernel) rfl
set_option maxRecDepth 100000 in
theorem wi_X6_yesterday : Cond.instanceMethod yX6_yesterday ∈ WALL := wall 965 (by decide +kernel) rfl
set_option maxRecDepth 100000 in
theorem we_X6_yesterday : Cond.selects RX6 yX6_yesterday yX6_yesterday ∈ WALL := wall 966 (by decide +kernel) rfl
set_option maxRecDepth 100000 in
theorem wc_X6_yesterday : Cond.code yX6_yesterday cX6_yesterday 3 (some .int) ∈ WALL := wall 967 (by decide +kernel) rfl
set_option maxRecDepth 100000 in
theorem wl_X6_156 : Cond.methodLink RX6 156 yX6_isDay ∈ WALL := wall 968 (by decide +kernel) rfl
set_option maxRecDepth 100000 in
theorem wi_X6_isDay : Cond.instanceMethod yX6_isDay ∈ WALL := wall 970 (by decide +kernel) rfl
set_option maxRecDepth 100000 in
theorem wc_X6_isDay : Cond.code yX6_isDay cX6_isDay 2 (some .boolean) ∈ WALL := wall 971 (by decide +kernel) rfl
set_option maxRecDepth 100000 in
theorem wl_X6_49 : Cond.methodLink RX6 49 yX6_days ∈ WALL := wall 972 (by decide +kernel) rfl
set_option maxRecDepth 100000 in
theorem wi_X6_days : Cond.instanceMethod yX6_days ∈ WALL := wall 974 (by decide +kernel) rfl
set_option maxRecDepth 100000 in
theorem wc_X6_days : Cond.code yX6_days cX6_days 1 (some .int) ∈ WALL := wall 975 (by decide +kernel) rfl
set_option maxRecDepth 100000 in
theorem wl_L_53 : Cond.methodLink RL 53 yX6_by ∈ WALL := wall 976 (by decide +kernel) rfl
set_option maxRecDepth 100000 in
theorem wi_X6_by : Cond.instanceMethod yX6_by ∈ WALL := wall 977 (by decide +kernel) rfl
set_option maxRecDepth 100000 in
theorem we_X6_by : Cond.selects RX6 yX6_by yX6_by ∈ WALL := wall 978 (by decide +kernel) rfl
set_option maxRecDepth 100000 in
theorem wc_X6_by : Cond.code yX6_by cX6_by 5 (some .int) ∈ WALL := wall 979 (by decide +kernel) rfl
set_option maxRecDepth 100000 in
theorem wl_X6_178 : Cond.methodLink RX6 178 yX6_isHour ∈ WALL := wall 980 (by decide +kernel) rfl
set_option maxRecDepth 100000 in
theorem wt_X6_isHour : Cond.static yX6_isHour ∈ WALL := wall 981 (by decide +kernel) rfl
set_option maxRecDepth 100000 in
theorem wc_X6_isHour : Cond.code yX6_isHour cX6_isHour 1 (some .boolean) ∈ WALL := wall 982 (by decide +kernel) rfl
set_option maxRecDepth 100000 in
theorem wl_X6_181 : Cond.methodLink RX6 181 yX6_looks ∈ WALL := wall 983 (by decide +kernel) rfl
set_option maxRecDepth 100000 in
theorem wi_X6_looks : Cond.instanceMethod yX6_looks ∈ WALL := wall 985 (by decide +kernel) rfl
set_option maxRecDepth 100000 in
theorem wc_X6_looks : Cond.code yX6_looks cX6_looks 2 none ∈ WALL := wall 986 (by decide +kernel) rfl
set_option maxRecDepth 100000 in
theorem wl_X6_135 : Cond.methodLink RX6 135 yX6_looksAt ∈ WALL := wall 987 (by decide +kernel) rfl
set_option maxRecDepth 100000 in
theorem wi_X6_looksAt : Cond.instanceMethod yX6_looksAt ∈ WALL := wall 989 (by decide +kernel) rfl
set_option maxRecDepth 100000 in
theorem wc_X6_looksAt : Cond.code yX6_looksAt cX6_looksAt 3 none ∈ WALL := wall 990 (by decide +kernel) rfl
set_option maxRecDepth 100000 in
theorem wl_X6_129 : Cond.methodLink RX6 129 yX6_worthBy ∈ WALL := wall 991 (by decide +kernel) rfl
set_option maxRecDepth 100000 in
theorem wi_X6_worthBy : Cond.instanceMethod yX6_worthBy ∈ WALL := wall 993 (by decide +kernel) rfl
set_option maxRecDepth 100000 in
theorem wc_X6_worthBy : Cond.code yX6_worthBy cX6_worthBy 10 (some .int) ∈ WALL := wall 994 (by decide +kernel) rfl
set_option maxRecDepth 100000 in
theorem wl_X6_145 : Cond.methodLink RX6 145 yX6_worthOf ∈ WALL := wall 995 (by decide +kernel) rfl
set_option maxRecDepth 100000 in
theorem wi_X6_worthOf : Cond.instanceMethod yX6_worthOf ∈ WALL := wall 997 (by decide +kernel) rfl
set_option maxRecDepth 100000 in
theorem wc_X6_worthOf : Cond.code yX6_worthOf cX6_worthOf 6 (some .int) ∈ WALL := wall 998 (by decide +kernel) rfl
set_option maxRecDepth 100000 in
theorem wl_X6_141 : Cond.methodLink RX6 141 yX6_others ∈ WALL := wall 999 (by decide +kernel) rfl
set_option maxRecDepth 100000 in
theorem wi_X6_others : Cond.instanceMethod yX6_others ∈ WALL := wall 1001 (by decide +kernel) rfl
set_option maxRecDepth 100000 in
theorem wc_X6_others : Cond.code yX6_others cX6_others 6 (some .int) ∈ WALL := wall 1002 (by decide +kernel) rfl
set_option maxRecDepth 100000 in
theorem wl_X6_138 : Cond.methodLink RX6 138 yX6_does ∈ WALL := wall 1003 (by decide +kernel) rfl
set_option maxRecDepth 100000 in
theorem wt_X6_does : Cond.static yX6_does ∈ WALL := wall 1004 (by decide +kernel) rfl
set_option maxRecDepth 100000 in
theorem wc_X6_does : Cond.code yX6_does cX6_does 3 (some .boolean) ∈ WALL := wall 1005 (by decide +kernel) rfl
set_option maxRecDepth 100000 in
theorem wl_X6_172 : Cond.methodLink RX6 172 yX6_would ∈ WALL := wall 1006 (by decide +kernel) rfl
set_option maxRecDepth 100000 in
theorem wi_X6_would : Cond.instanceMethod yX6_would ∈ WALL := wall 1008 (by decide +kernel) rfl
set_option maxRecDepth 100000 in
theorem wc_X6_would : Cond.code yX6_would cX6_would 4 (some .boolean) ∈ WALL := wall 1009 (by decide +kernel) rfl
set_option maxRecDepth 100000 in
theorem wl_X6_162 : Cond.methodLink RX6 162 yX6_bestOwn ∈ WALL := wall 1010 (by decide +kernel) rfl
set_option maxRecDepth 100000 in
theorem wi_X6_bestOwn : Cond.instanceMethod yX6_bestOwn ∈ WALL := wall 1012 (by decide +kernel) rfl
set_option maxRecDepth 100000 in
theorem wc_X6_bestOwn : Cond.code yX6_bestOwn cX6_bestOwn 8 (some .int) ∈ WALL := wall 1013 (by decide +kernel) rfl
set_option maxRecDepth 100000 in
theorem wl_X6_159 : Cond.methodLink RX6 159 yX6_withOwn ∈ WALL := wall 1014 (by decide +kernel) rfl
set_option maxRecDepth 100000 in
theorem wt_X6_withOwn : Cond.static yX6_withOwn ∈ WALL := wall 1015 (by decide +kernel) rfl
set_option maxRecDepth 100000 in
theorem wc_X6_withOwn : Cond.code yX6_withOwn cX6_withOwn 3 (some .int) ∈ WALL := wall 1016 (by decide +kernel) rfl
set_option maxRecDepth 100000 in
theorem wl_X6_148 : Cond.methodLink RX6 148 yX6_gainOf ∈ WALL := wall 1017 (by decide +kernel) rfl
set_option maxRecDepth 100000 in
theorem wi_X6_gainOf : Cond.instanceMethod yX6_gainOf ∈ WALL := wall 1019 (by decide +kernel) rfl
set_option maxRecDepth 100000 in
theorem wc_X6_gainOf : Cond.code yX6_gainOf cX6_gainOf 5 (some .int) ∈ WALL := wall 1020 (by decide +kernel) rfl
set_option maxRecDepth 100000 in
theorem wl_X6_165 : Cond.methodLink RX6 165 yX6_wouldPlainly ∈ WALL := wall 1021 (by decide +kernel) rfl
set_option maxRecDepth 100000 in
theorem wi_X6_wouldPlainly : Cond.instanceMethod yX6_wouldPlainly ∈ WALL := wall 1023 (by decide +kernel) rfl
set_option maxRecDepth 100000 in
theorem wc_X6_wouldPlainly : Cond.code yX6_wouldPlainly cX6_wouldPlainly 4 (some .boolean) ∈ WALL := wall 1024 (by decide +kernel) rfl
set_option maxRecDepth 100000 in
theorem wl_X6_168 : Cond.methodLink RX6 168 yX6_isStrange ∈ WALL := wall 1025 (by decide +kernel) rfl
set_option maxRecDepth 100000 in
theorem wi_X6_isStrange : Cond.instanceMethod yX6_isStrange ∈ WALL := wall 1027 (by decide +kernel) rfl
set_option maxRecDepth 100000 in
theorem wc_X6_isStrange : Cond.code yX6_isStrange cX6_isStrange 3 (some .boolean) ∈ WALL := wall 1028 (by decide +kernel) rfl
set_option maxRecDepth 100000 in
theorem wl_L_57 : Cond.methodLink RL 57 yX6_day ∈ WALL := wall 1029 (by decide +kernel) rfl
set_option maxRecDepth 100000 in
theorem wi_X6_day : Cond.instanceMethod yX6_day ∈ WALL := wall 1030 (by decide +kernel) rfl
set_option maxRecDepth 100000 in
theorem we_X6_day : Cond.selects RX6 yX6_day yX6_day ∈ WALL := wall 1031 (by decide +kernel) rfl
set_option maxRecDepth 100000 in
theorem wc_X6_day : Cond.code yX6_day cX6_day 3 (some .int) ∈ WALL := wall 1032 (by decide +kernel) rfl
set_option maxRecDepth 100000 in
theorem wl_X6_175 : Cond.methodLink RX6 175 yX6_firstOtherwise ∈ WALL := wall 1033 (by decide +kernel) rfl
set_option maxRecDepth 100000 in
theorem wi_X6_firstOtherwise : Cond.instanceMethod yX6_firstOtherwise ∈ WALL := wall 1035 (by decide +kernel) rfl
set_option maxRecDepth 100000 in
theorem wc_X6_firstOtherwise : Cond.code yX6_firstOtherwise cX6_firstOtherwise 4 (some .int) ∈ WALL := wall 1036 (by decide +kernel) rfl
set_option maxRecDepth 100000 in
theorem wl_X6_184 : Cond.methodLink RX6 184 yX6_answerTo ∈ WALL := wall 1037 (by decide +kernel) rfl
set_option maxRecDepth 100000 in
theorem wi_X6_answerTo : Cond.instanceMethod yX6_answerTo ∈ WALL := wall 1039 (by decide +kernel) rfl
set_option maxRecDepth 100000 in
theorem wc_X6_answerTo : Cond.code yX6_answerTo cX6_answerTo 5 (some .int) ∈ WALL := wall 1040 (by decide +kernel) rfl
set_option maxRecDepth 100000 in
theorem wl_X6_187 : Cond.methodLink RX6 187 yX6_gainOfAll ∈ WALL := wall 1041 (by decide +kernel) rfl
set_option maxRecDepth 100000 in
theorem wi_X6_gainOfAll : Cond.instanceMethod yX6_gainOfAll ∈ WALL := wall 1043 (by decide +kernel) rfl
set_option maxRecDepth 100000 in
theorem wc_X6_gainOfAll : Cond.code yX6_gainOfAll cX6_gainOfAll 4 (some .int) ∈ WALL := wall 1044 (by decide +kernel) rfl
set_option maxRecDepth 100000 in
theorem wl_L_61 : Cond.methodLink RL 61 yX6_all ∈ WALL := wall 1045 (by decide +kernel) rfl
set_option maxRecDepth 100000 in
theorem wi_X6_all : Cond.instanceMethod yX6_all ∈ WALL := wall 1046 (by decide +kernel) rfl
set_option maxRecDepth 100000 in
theorem we_X6_all : Cond.selects RX6 yX6_all yX6_all ∈ WALL := wall 1047 (by decide +kernel) rfl
set_option maxRecDepth 100000 in
theorem wc_X6_all : Cond.code yX6_all cX6_all 2 (some .int) ∈ WALL := wall 1048 (by decide +kernel) rfl
set_option maxRecDepth 100000 in
theorem wl_X6_208 : Cond.methodLink RX6 208 yX6_looksThrough ∈ WALL := wall 1049 (by decide +kernel) rfl
set_option maxRecDepth 100000 in
theorem wi_X6_looksThrough : Cond.instanceMethod yX6_looksThrough ∈ WALL := wall 1051 (by decide +kernel) rfl
set_option maxRecDepth 100000 in
theorem wc_X6_looksThrough : Cond.code yX6_looksThrough cX6_looksThrough 4 none ∈ WALL := wall 1052 (by decide +kernel) rfl
set_option maxRecDepth 100000 in
theorem wl_X6_205 : Cond.methodLink RX6 205 yX6_stands ∈ WALL := wall 1053 (by decide +kernel) rfl
set_option maxRecDepth 100000 in
theorem wi_X6_stands : Cond.instanceMethod yX6_stands ∈ WALL := wall 1055 (by decide +kernel) rfl
set_option maxRecDepth 100000 in
theorem wc_X6_stands : Cond.code yX6_stands cX6_stands 2 (some .boolean) ∈ WALL := wall 1056 (by decide +kernel) rfl
set_option maxRecDepth 100000 in
theorem wl_L_65 : Cond.methodLink RL 65 yX6_once ∈ WALL := wall 1057 (by decide +kernel) rfl
set_option maxRecDepth 100000 in
theorem wi_X6_once : Cond.instanceMethod yX6_once ∈ WALL := wall 1058 (by decide +kernel) rfl
set_option maxRecDepth 100000 in
theorem we_X6_once : Cond.selects RX6 yX6_once yX6_once ∈ WALL := wall 1059 (by decide +kernel) rfl
set_option maxRecDepth 100000 in
theorem wc_X6_once : Cond.code yX6_once cX6_once 8 (some .int) ∈ WALL := wall 1060 (by decide +kernel) rfl
set_option maxRecDepth 100000 in
theorem wl_L_69 : Cond.methodLink RL 69 yX6_again ∈ WALL := wall 1061 (by decide +kernel) rfl
set_option maxRecDepth 100000 in
theorem wi_X6_again : Cond.instanceMethod yX6_again ∈ WALL := wall 1062 (by decide +kernel) rfl
set_option maxRecDepth 100000 in
theorem we_X6_again : Cond.selects RX6 yX6_again yX6_again ∈ WALL := wall 1063 (by decide +kernel) rfl
set_option maxRecDepth 100000 in
theorem wc_X6_again : Cond.code yX6_again cX6_again 5 (some .int) ∈ WALL := wall 1064 (by decide +kernel) rfl
set_option maxRecDepth 100000 in
theorem wl_L_73 : Cond.methodLink RL 73 yX6_morning ∈ WALL := wall 1065 (by decide +kernel) rfl
set_option maxRecDepth 100000 in
theorem wi_X6_morning : Cond.instanceMethod yX6_morning ∈ WALL := wall 1066 (by decide +kernel) rfl
set_option maxRecDepth 100000 in
theorem we_X6_morning : Cond.selects RX6 yX6_morning yX6_morning ∈ WALL := wall 1067 (by decide +kernel) rfl
set_option maxRecDepth 100000 in
theorem wc_X6_morning : Cond.code yX6_morning cX6_morning 1 (some .int) ∈ WALL := wall 1068 (by decide +kernel) rfl
set_option maxRecDepth 100000 in
theorem wl_X6_214 : Cond.methodLink RX6 214 yX6_morningComes ∈ WALL := wall 1069 (by decide +kernel) rfl
set_option maxRecDepth 100000 in
theorem wi_X6_morningComes : Cond.instanceMethod yX6_morningComes ∈ WALL := wall 1071 (by decide +kernel) rfl
set_option maxRecDepth 100000 in
theorem wc_X6_morningComes : Cond.code yX6_morningComes cX6_morningComes 5 (some .int) ∈ WALL := wall 1072 (by decide +kernel) rfl
set_option maxRecDepth 100000 in
theorem wl_L_77 : Cond.methodLink RL 77 yX6_year ∈ WALL := wall 1073 (by decide +kernel) rfl
set_option maxRecDepth 100000 in
theorem wi_X6_year : Cond.instanceMethod yX6_year ∈ WALL := wall 1074 (by decide +kernel) rfl
set_option maxRecDepth 100000 in
theorem we_X6_year : Cond.selects RX6 yX6_year yX6_year ∈ WALL := wall 1075 (by decide +kernel) rfl
set_option maxRecDepth 100000 in
theorem wc_X6_year : Cond.code yX6_year cX6_year 8 (some .int) ∈ WALL := wall 1076 (by decide +kernel) rfl
set_option maxRecDepth 100000 in
theorem wl_L_82 : Cond.methodLink RL 82 yX6_bet ∈ WALL := wall 1077 (by decide +kernel) rfl
set_option maxRecDepth 100000 in
theorem wi_X6_bet : Cond.instanceMethod yX6_bet ∈ WALL := wall 1078 (by decide +kernel) rfl
set_option maxRecDepth 100000 in
theorem we_X6_bet : Cond.selects RX6 yX6_bet yX6_bet ∈ WALL := wall 1079 (by decide +kernel) rfl
set_option maxRecDepth 100000 in
theorem wc_X6_bet : Cond.code yX6_bet cX6_bet 8 (some .int) ∈ WALL := wall 1080 (by decide +kernel) rfl
set_option maxRecDepth 100000 in
theorem wl_X6_217 : Cond.methodLink RX6 217 yX6_divisor ∈ WALL := wall 1081 (by decide +kernel) rfl
set_option maxRecDepth 100000 in
theorem wt_X6_divisor : Cond.static yX6_divisor ∈ WALL := wall 1082 (by decide +kernel) rfl
set_option maxRecDepth 100000 in
theorem wc_X6_divisor : Cond.code yX6_divisor cX6_divisor 5 (some .int) ∈ WALL := wall 1083 (by decide +kernel) rfl
set_option maxRecDepth 100000 in
theorem wl_L_86 : Cond.methodLink RL 86 yX6_sure ∈ WALL := wall 1084 (by decide +kernel) rfl
set_option maxRecDepth 100000 in
theorem wi_X6_sure : Cond.instanceMethod yX6_sure ∈ WALL := wall 1085 (by decide +kernel) rfl
set_option maxRecDepth 100000 in
theorem we_X6_sure : Cond.selects RX6 yX6_sure yX6_sure ∈ WALL := wall 1086 (by decide +kernel) rfl
set_option maxRecDepth 100000 in
theorem wc_X6_sure : Cond.code yX6_sure cX6_sure 6 (some .int) ∈ WALL := wall 1087 (by decide +kernel) rfl
set_option maxRecDepth 100000 in
theorem wl_X6_220 : Cond.methodLink RX6 220 yX6_keeps ∈ WALL := wall 1088 (by decide +kernel) rfl
set_option maxRecDepth 100000 in
theorem wi_X6_keeps : Cond.instanceMethod yX6_keeps ∈ WALL := wall 1090 (by decide +kernel) rfl
set_option maxRecDepth 100000 in
theorem wc_X6_keeps : Cond.code yX6_keeps cX6_keeps 2 none ∈ WALL := wall 1091 (by decide +kernel) rfl
set_option maxRecDepth 100000 in
theorem wl_X6_223 : Cond.methodLink RX6 223 yX6_count1 ∈ WALL := wall 1092 (by decide +kernel) rfl
set_option maxRecDepth 100000 in
theorem wt_X6_count1 : Cond.static yX6_count1 ∈ WALL := wall 1093 (by decide +kernel) rfl
set_option maxRecDepth 100000 in
theorem wc_X6_count1 : Cond.code yX6_count1 cX6_count1 3 (some .int) ∈ WALL := wall 1094 (by decide +kernel) rfl
set_option maxRecDepth 100000 in
theorem wl_X6_226 : Cond.methodLink RX6 226 yX6_goesBack ∈ WALL := wall 1095 (by decide +kernel) rfl
set_option maxRecDepth 100000 in
theorem wi_X6_goesBack : Cond.instanceMethod yX6_goesBack ∈ WALL := wall 1097 (by decide +kernel) rfl
set_option maxRecDepth 100000 in
theorem wc_X6_goesBack : Cond.code yX6_goesBack cX6_goesBack 2 none ∈ WALL := wall 1098 (by decide +kernel) rfl
set_option maxRecDepth 100000 in
theorem wl_L_90 : Cond.methodLink RL 90 yX6_secret ∈ WALL := wall 1099 (by decide +kernel) rfl
set_option maxRecDepth 100000 in
theorem wi_X6_secret : Cond.instanceMethod yX6_secret ∈ WALL := wall 1100 (by decide +kernel) rfl
set_option maxRecDepth 100000 in
theorem we_X6_secret : Cond.selects RX6 yX6_secret yX6_secret ∈ WALL := wall 1101 (by decide +kernel) rfl
set_option maxRecDepth 100000 in
theorem wc_X6_secret : Cond.code yX6_secret cX6_secret 6 (some .int) ∈ WALL := wall 1102 (by decide +kernel) rfl
set_option maxRecDepth 100000 in
theorem wl_L_94 : Cond.methodLink RL 94 yX6_swap ∈ WALL := wall 1103 (by decide +kernel) rfl
set_option maxRecDepth 100000 in
theorem wi_X6_swap : Cond.instanceMethod yX6_swap ∈ WALL := wall 1104 (by decide +kernel) rfl
set_option maxRecDepth 100000 in
theorem we_X6_swap : Cond.selects RX6 yX6_swap yX6_swap ∈ WALL := wall 1105 (by decide +kernel) rfl
set_option maxRecDepth 100000 in
theorem wc_X6_swap : Cond.code yX6_swap cX6_swap 8 (some .int) ∈ WALL := wall 1106 (by decide +kernel) rfl
set_option maxRecDepth 100000 in
theorem wl_X6_229 : Cond.methodLink RX6 229 yX6_isGood ∈ WALL := wall 1107 (by decide +kernel) rfl
set_option maxRecDepth 100000 in
theorem wi_X6_isGood : Cond.instanceMethod yX6_isGood ∈ WALL := wall 1109 (by decide +kernel) rfl
set_option maxRecDepth 100000 in
theorem wc_X6_isGood : Cond.code yX6_isGood cX6_isGood 7 (some .boolean) ∈ WALL := wall 1110 (by decide +kernel) rfl
set_option maxRecDepth 100000 in
theorem wl_L_98 : Cond.methodLink RL 98 yX6_book ∈ WALL := wall 1111 (by decide +kernel) rfl
set_option maxRecDepth 100000 in
theorem wi_X6_book : Cond.instanceMethod yX6_book ∈ WALL := wall 1112 (by decide +kernel) rfl
set_option maxRecDepth 100000 in
theorem we_X6_book : Cond.selects RX6 yX6_book yX6_book ∈ WALL := wall 1113 (by decide +kernel) rfl
set_option maxRecDepth 100000 in
theorem wc_X6_book : Cond.code yX6_book cX6_book 2 (some .int) ∈ WALL := wall 1114 (by decide +kernel) rfl
set_option maxRecDepth 100000 in
theorem wl_L_102 : Cond.methodLink RL 102 yX6_looked ∈ WALL := wall 1115 (by decide +kernel) rfl
set_option maxRecDepth 100000 in
theorem wi_X6_looked : Cond.instanceMethod yX6_looked ∈ WALL := wall 1116 (by decide +kernel) rfl
set_option maxRecDepth 100000 in
theorem we_X6_looked : Cond.selects RX6 yX6_looked yX6_looked ∈ WALL := wall 1117 (by decide +kernel) rfl
set_option maxRecDepth 100000 in
theorem wc_X6_looked : Cond.code yX6_looked cX6_looked 6 (some .int) ∈ WALL := wall 1118 (by decide +kernel) rfl
set_option maxRecDepth 100000 in
theorem wl_L_106 : Cond.methodLink RL 106 yX6_act ∈ WALL := wall 1119 (by decide +kernel) rfl
set_option maxRecDepth 100000 in
theorem wi_X6_act : Cond.instanceMethod yX6_act ∈ WALL := wall 1120 (by decide +kernel) rfl
set_option maxRecDepth 100000 in
theorem we_X6_act : Cond.selects RX6 yX6_act yX6_act ∈ WALL := wall 1121 (by decide +kernel) rfl
set_option maxRecDepth 100000 in
theorem wc_X6_act : Cond.code yX6_act cX6_act 4 (some .int) ∈ WALL := wall 1122 (by decide +kernel) rfl
set_option maxRecDepth 100000 in
theorem wl_X6_247 : Cond.methodLink RX6 247 yX6_knowsActs ∈ WALL := wall 1123 (by decide +kernel) rfl
set_option maxRecDepth 100000 in
theorem wi_X6_knowsActs : Cond.instanceMethod yX6_knowsActs ∈ WALL := wall 1125 (by decide +kernel) rfl
set_option maxRecDepth 100000 in
theorem wc_X6_knowsActs : Cond.code yX6_knowsActs cX6_knowsActs 2 (some .int) ∈ WALL := wall 1126 (by decide +kernel) rfl
set_option maxRecDepth 100000 in
theorem wl_X6_235 : Cond.methodLink RX6 235 yX6_runs ∈ WALL := wall 1127 (by decide +kernel) rfl
set_option maxRecDepth 100000 in
theorem wi_X6_runs : Cond.instanceMethod yX6_runs ∈ WALL := wall 1129 (by decide +kernel) rfl
set_option maxRecDepth 100000 in
theorem wc_X6_runs : Cond.code yX6_runs cX6_runs 2 none ∈ WALL := wall 1130 (by decide +kernel) rfl
set_option maxRecDepth 100000 in
theorem wl_X6_244 : Cond.methodLink RX6 244 yX6_plainKnows ∈ WALL := wall 1131 (by decide +kernel) rfl
set_option maxRecDepth 100000 in
theorem wi_X6_plainKnows : Cond.instanceMethod yX6_plainKnows ∈ WALL := wall 1133 (by decide +kernel) rfl
set_option maxRecDepth 100000 in
theorem wc_X6_plainKnows : Cond.code yX6_plainKnows cX6_plainKnows 2 (some .int) ∈ WALL := wall 1134 (by decide +kernel) rfl
set_option maxRecDepth 100000 in
theorem wl_X6_259 : Cond.methodLink RX6 259 yX6_doesActs ∈ WALL := wall 1135 (by decide +kernel) rfl
set_option maxRecDepth 100000 in
theorem wi_X6_doesActs : Cond.instanceMethod yX6_doesActs ∈ WALL := wall 1137 (by decide +kernel) rfl
set_option maxRecDepth 100000 in
theorem wc_X6_doesActs : Cond.code yX6_doesActs cX6_doesActs 2 (some .int) ∈ WALL := wall 1138 (by decide +kernel) rfl
set_option maxRecDepth 100000 in
theorem wl_X6_253 : Cond.methodLink RX6 253 yX6_isUnder ∈ WALL := wall 1139 (by decide +kernel) rfl
set_option maxRecDepth 100000 in
theorem wt_X6_isUnder : Cond.static yX6_isUnder ∈ WALL := wall 1140 (by decide +kernel) rfl
set_option maxRecDepth 100000 in
theorem wc_X6_isUnder : Cond.code yX6_isUnder cX6_isUnder 2 (some .boolean) ∈ WALL := wall 1141 (by decide +kernel) rfl
set_option maxRecDepth 100000 in
theorem wl_X6_256 : Cond.methodLink RX6 256 yX6_plainDoes ∈ WALL := wall 1142 (by decide +kernel) rfl
set_option maxRecDepth 100000 in
theorem wi_X6_plainDoes : Cond.instanceMethod yX6_plainDoes ∈ WALL := wall 1144 (by decide +kernel) rfl
set_option maxRecDepth 100000 in
theorem wc_X6_plainDoes : Cond.code yX6_plainDoes cX6_plainDoes 2 (some .int) ∈ WALL := wall 1145 (by decide +kernel) rfl
set_option maxRecDepth 100000 in
theorem wl_X6_265 : Cond.methodLink RX6 265 yX6_tellsActs ∈ WALL := wall 1146 (by decide +kernel) rfl
set_option maxRecDepth 100000 in
theorem wi_X6_tellsActs : Cond.instanceMethod yX6_tellsActs ∈ WALL := wall 1148 (by decide +kernel) rfl
set_option maxRecDepth 100000 in
theorem wc_X6_tellsActs : Cond.code yX6_tellsActs cX6_tellsActs 3 (some .int) ∈ WALL := wall 1149 (by decide +kernel) rfl
set_option maxRecDepth 100000 in
theorem wl_X6_262 : Cond.methodLink RX6 262 yX6_plainTells ∈ WALL := wall 1150 (by decide +kernel) rfl
set_option maxRecDepth 100000 in
theorem wi_X6_plainTells : Cond.instanceMethod yX6_plainTells ∈ WALL := wall 1152 (by decide +kernel) rfl
set_option maxRecDepth 100000 in
theorem wc_X6_plainTells : Cond.code yX6_plainTells cX6_plainTells 2 (some .int) ∈ WALL := wall 1153 (by decide +kernel) rfl
set_option maxRecDepth 100000 in
theorem wl_L_110 : Cond.methodLink RL 110 yX6_trace ∈ WALL := wall 1154 (by decide +kernel) rfl
set_option maxRecDepth 100000 in
theorem wi_X6_trace : Cond.instanceMethod yX6_trace ∈ WALL := wall 1155 (by decide +kernel) rfl
set_option maxRecDepth 100000 in
theorem we_X6_trace : Cond.selects RX6 yX6_trace yX6_trace ∈ WALL := wall 1156 (by decide +kernel) rfl
set_option maxRecDepth 100000 in
theorem wc_X6_trace : Cond.code yX6_trace cX6_trace 2 (some .int) ∈ WALL := wall 1157 (by decide +kernel) rfl
set_option maxRecDepth 100000 in
theorem wl_L_114 : Cond.methodLink RL 114 yX6_as ∈ WALL := wall 1158 (by decide +kernel) rfl
set_option maxRecDepth 100000 in
theorem wi_X6_as : Cond.instanceMethod yX6_as ∈ WALL := wall 1159 (by decide +kernel) rfl
set_option maxRecDepth 100000 in
theorem we_X6_as : Cond.selects RX6 yX6_as yX6_as ∈ WALL := wall 1160 (by decide +kernel) rfl
set_option maxRecDepth 100000 in
theorem wc_X6_as : Cond.code yX6_as cX6_as 3 (some .int) ∈ WALL := wall 1161 (by decide +kernel) rfl
set_option maxRecDepth 100000 in
theorem wl_L_118 : Cond.methodLink RL 118 yX6_image ∈ WALL := wall 1162 (by decide +kernel) rfl
set_option maxRecDepth 100000 in
theorem wi_X6_image : Cond.instanceMethod yX6_image ∈ WALL := wall 1163 (by decide +kernel) rfl
set_option maxRecDepth 100000 in
theorem we_X6_image : Cond.selects RX6 yX6_image yX6_image ∈ WALL := wall 1164 (by decide +kernel) rfl
set_option maxRecDepth 100000 in
theorem wc_X6_image : Cond.code yX6_image cX6_image 2 (some .int) ∈ WALL := wall 1165 (by decide +kernel) rfl
set_option maxRecDepth 100000 in
theorem wl_L_122 : Cond.methodLink RL 122 yX6_undo ∈ WALL := wall 1166 (by decide +kernel) rfl
set_option maxRecDepth 100000 in
theorem wi_X6_undo : Cond.instanceMethod yX6_undo ∈ WALL := wall 1167 (by decide +kernel) rfl
set_option maxRecDepth 100000 in
theorem we_X6_undo : Cond.selects RX6 yX6_undo yX6_undo ∈ WALL := wall 1168 (by decide +kernel) rfl
set_option maxRecDepth 100000 in
theorem wc_X6_undo : Cond.code yX6_undo cX6_undo 2 (some .int) ∈ WALL := wall 1169 (by decide +kernel) rfl
set_option maxRecDepth 100000 in
theorem wl_L_126 : Cond.methodLink RL 126 yX6_count ∈ WALL := wall 1170 (by decide +kernel) rfl
set_option maxRecDepth 100000 in
theorem wi_X6_count : Cond.instanceMethod yX6_count ∈ WALL := wall 1171 (by decide +kernel) rfl
set_option maxRecDepth 100000 in
theorem we_X6_count : Cond.selects RX6 yX6_count yX6_count ∈ WALL := wall 1172 (by decide +kernel) rfl
set_option maxRecDepth 100000 in
theorem wc_X6_count : Cond.code yX6_count cX6_count 2 (some .int) ∈ WALL := wall 1173 (by decide +kernel) rfl
set_option maxRecDepth 100000 in
theorem wf_J0_9 : Cond.fieldLink RJ0 9 "java/lang/String" "value" "[B" ∈ WALL := wall 1174 (by decide +kernel) rfl
set_option maxRecDepth 100000 in
theorem wf_J0_15 : Cond.fieldLink RJ0 15 "java/lang/String" "coder" "B" ∈ WALL := wall 1175 (by decide +kernel) rfl
set_option maxRecDepth 100000 in
theorem wu_X0 : ∀ w ∈ u_ws RX0 TX0 5, w ∈ WALL := fun w h => List.mem_filter.mpr ⟨(by decide +kernel : ∀ w ∈ u_ws RX0 TX0 5, w ∈ lw_tbl) w h, (by decide +kernel : ∀ w ∈ u_ws RX0 TX0 5, goodWord w = true) w h⟩
set_option maxRecDepth 100000 in
theorem wu_X1 : ∀ w ∈ u_ws RX1 TX1 12, w ∈ WALL := fun w h => List.mem_filter.mpr ⟨(by decide +kernel : ∀ w ∈ u_ws RX1 TX1 12, w ∈ lw_tbl) w h, (by decide +kernel : ∀ w ∈ u_ws RX1 TX1 12, goodWord w = true) w h⟩
set_option maxRecDepth 100000 in
theorem wu_X2 : ∀ w ∈ u_ws RX2 TX2 6, w ∈ WALL := fun w h => List.mem_filter.mpr ⟨(by decide +kernel : ∀ w ∈ u_ws RX2 TX2 6, w ∈ lw_tbl) w h, (by decide +kernel : ∀ w ∈ u_ws RX2 TX2 6, goodWord w = true) w h⟩
set_option maxRecDepth 100000 in
theorem wu_X3 : ∀ w ∈ u_ws RX3 TX3 6, w ∈ WALL := fun w h => List.mem_filter.mpr ⟨(by decide +kernel : ∀ w ∈ u_ws RX3 TX3 6, w ∈ lw_tbl) w h, (by decide +kernel : ∀ w ∈ u_ws RX3 TX3 6, goodWord w = true) w h⟩
set_option maxRecDepth 100000 in
theorem wu_X4 : ∀ w ∈ u_ws RX4 TX4 9, w ∈ WALL := fun w h => List.mem_filter.mpr ⟨(by decide +kernel : ∀ w ∈ u_ws RX4 TX4 9, w ∈ lw_tbl) w h, (by decide +kernel : ∀ w ∈ u_ws RX4 TX4 9, goodWord w = true) w h⟩
set_option maxRecDepth 100000 in
theorem wu_X5 : ∀ w ∈ u_ws RX5 TX5 9, w ∈ WALL := fun w h => List.mem_filter.mpr ⟨(by decide +kernel : ∀ w ∈ u_ws RX5 TX5 9, w ∈ lw_tbl) w h, (by decide +kernel : ∀ w ∈ u_ws RX5 TX5 9, goodWord w = true) w h⟩
set_option maxRecDepth 100000 in
theorem wu_X6 : ∀ w ∈ u_ws RX6 TX6 28, w ∈ WALL := fun w h => List.mem_filter.mpr ⟨(by decide +kernel : ∀ w ∈ u_ws RX6 TX6 28, w ∈ lw_tbl) w h, (by decide +kernel : ∀ w ∈ u_ws RX6 TX6 28, goodWord w = true) w h⟩
end CW
end
section
section CDC
theorem dX0_init_0 : decode cX0_init 0 = .ok (.aload_n 0, 1) := by decide +kernel
theorem dX0_init_1 : decode cX0_init 1 = .ok (.invokespecial 3, 3) := by decide +kernel
theorem dX0_init_4 : decode cX0_init 4 = .ok (.aload_n 0, 1) := by decide +kernel
theorem dX0_init_5 : decode cX0_init 5 = .ok (.bipush 20, 2) := by decide +kernel
theorem dX0_init_7 : decode cX0_init 7 = .ok (.newarray .int, 2) := by decide +kernel
theorem dX0_init_9 : decode cX0_init 9 = .ok (.putfield 11, 3) := by decide +kernel
theorem dX0_init_12 : decode cX0_init 12 = .ok (.return_, 1) := by decide +kernel
theorem dX0_clear_0 : decode cX0_clear 0 = .ok (.aload_n 0, 1) := by decide +kernel
theorem dX0_clear_1 : decode cX0_clear 1 = .ok (.iconst 0, 1) := by decide +kernel
theorem dX0_clear_2 : decode cX0_clear 2 = .ok (.putfield 15, 3) := by decide +kernel
theorem dX0_clear_5 : decode cX0_clear 5 = .ok (.return_, 1) := by decide +kernel
theorem dX0_start_0 : decode cX0_start 0 = .ok (.aload_n 1, 1) := by decide +kernel
theorem dX0_start_1 : decode cX0_start 1 = .ok (.iload_n 2, 1) := by decide +kernel
theorem dX0_start_2 : decode cX0_start 2 = .ok (.invokevirtual 19, 3) := by decide +kernel
theorem dX0_start_5 : decode cX0_start 5 = .ok (.ifCond .ne 5, 3) := by decide +kernel
theorem dX0_start_8 : decode cX0_start 8 = .ok (.iconst 0, 1) := by decide +kernel
theorem dX0_start_9 : decode cX0_start 9 = .ok (.ireturn, 1) := by decide +kernel
theorem dX0_start_10 : decode cX0_start 10 = .ok (.aload_n 0, 1) := by decide +kernel
theorem dX0_start_11 : decode cX0_start 11 = .ok (.iload_n 2, 1) := by decide +kernel
theorem dX0_start_12 : decode cX0_start 12 = .ok (.putfield 25, 3) := by decide +kernel
theorem dX0_start_15 : decode cX0_start 15 = .ok (.aload_n 0, 1) := by decide +kernel
theorem dX0_start_16 : decode cX0_start 16 = .ok (.aload_n 1, 1) := by decide +kernel
theorem dX0_start_17 : decode cX0_start 17 = .ok (.getfield 28, 3) := by decide +kernel
theorem dX0_start_20 : decode cX0_start 20 = .ok (.iload_n 2, 1) := by decide +kernel
theorem dX0_start_21 : decode cX0_start 21 = .ok (.iaload, 1) := by decide +kernel
theorem dX0_start_22 : decode cX0_start 22 = .ok (.putfield 31, 3) := by decide +kernel
theorem dX0_start_25 : decode cX0_start 25 = .ok (.aload_n 0, 1) := by decide +kernel
theorem dX0_start_26 : decode cX0_start 26 = .ok (.aload_n 1, 1) := by decide +kernel
theorem dX0_start_27 : decode cX0_start 27 = .ok (.getfield 33, 3) := by decide +kernel
theorem dX0_start_30 : decode cX0_start 30 = .ok (.iload_n 2, 1) := by decide +kernel
theorem dX0_start_31 : decode cX0_start 31 = .ok (.iaload, 1) := by decide +kernel
theorem dX0_start_32 : decode cX0_start 32 = .ok (.putfield 36, 3) := by decide +kernel
theorem dX0_start_35 : decode cX0_start 35 = .ok (.aload_n 0, 1) := by decide +kernel
theorem dX0_start_36 : decode cX0_start 36 = .ok (.aload_n 0, 1) := by decide +kernel
theorem dX0_start_37 : decode cX0_start 37 = .ok (.getfield 31, 3) := by decide +kernel
theorem dX0_start_40 : decode cX0_start 40 = .ok (.iload_n 3, 1) := by decide +kernel
theorem dX0_start_41 : decode cX0_start 41 = .ok (.iload 4, 2) := by decide +kernel
theorem dX0_start_43 : decode cX0_start 43 = .ok (.iconst 0, 1) := by decide +kernel
theorem dX0_start_44 : decode cX0_start 44 = .ok (.invokevirtual 38, 3) := by decide +kernel
theorem dX0_start_47 : decode cX0_start 47 = .ok (.ireturn, 1) := by decide +kernel
theorem dX0_bodyOf_0 : decode cX0_bodyOf 0 = .ok (.iload_n 0, 1) := by decide +kernel
theorem dX0_bodyOf_1 : decode cX0_bodyOf 1 = .ok (.istore_n 2, 1) := by decide +kernel
theorem dX0_bodyOf_2 : decode cX0_bodyOf 2 = .ok (.iconst 0, 1) := by decide +kernel
theorem dX0_bodyOf_3 : decode cX0_bodyOf 3 = .ok (.istore_n 3, 1) := by decide +kernel
theorem dX0_bodyOf_4 : decode cX0_bodyOf 4 = .ok (.iload_n 3, 1) := by decide +kernel
theorem dX0_bodyOf_5 : decode cX0_bodyOf 5 = .ok (.bipush 7, 2) := by decide +kernel
theorem dX0_bodyOf_7 : decode cX0_bodyOf 7 = .ok (.if_icmp .ge 62, 3) := by decide +kernel
theorem dX0_bodyOf_10 : decode cX0_bodyOf 10 = .ok (.iload_n 2, 1) := by decide +kernel
theorem dX0_bodyOf_11 : decode cX0_bodyOf 11 = .ok (.ifCond .lt 58, 3) := by decide +kernel
theorem dX0_bodyOf_14 : decode cX0_bodyOf 14 = .ok (.iload_n 2, 1) := by decide +kernel
theorem dX0_bodyOf_15 : decode cX0_bodyOf 15 = .ok (.bipush 7, 2) := by decide +kernel
theorem dX0_bodyOf_17 : decode cX0_bodyOf 17 = .ok (.if_icmp .ge 52, 3) := by decide +kernel
theorem dX0_bodyOf_20 : decode cX0_bodyOf 20 = .ok (.iload_n 2, 1) := by decide +kernel
theorem dX0_bodyOf_21 : decode cX0_bodyOf 21 = .ok (.iconst 3, 1) := by decide +kernel
theorem dX0_bodyOf_22 : decode cX0_bodyOf 22 = .ok (.imul, 1) := by decide +kernel
theorem dX0_bodyOf_23 : decode cX0_bodyOf 23 = .ok (.iload_n 1, 1) := by decide +kernel
theorem dX0_bodyOf_24 : decode cX0_bodyOf 24 = .ok (.iadd, 1) := by decide +kernel
theorem dX0_bodyOf_25 : decode cX0_bodyOf 25 = .ok (.istore 4, 2) := by decide +kernel
theorem dX0_bodyOf_27 : decode cX0_bodyOf 27 = .ok (.iload 4, 2) := by decide +kernel
theorem dX0_bodyOf_29 : decode cX0_bodyOf 29 = .ok (.ifCond .lt 28, 3) := by decide +kernel
theorem dX0_bodyOf_32 : decode cX0_bodyOf 32 = .ok (.iload 4, 2) := by decide +kernel
theorem dX0_bodyOf_34 : decode cX0_bodyOf 34 = .ok (.getstatic 42, 3) := by decide +kernel
theorem dX0_bodyOf_37 : decode cX0_bodyOf 37 = .ok (.arraylength, 1) := by decide +kernel
theorem dX0_bodyOf_38 : decode cX0_bodyOf 38 = .ok (.if_icmp .ge 19, 3) := by decide +kernel
theorem dX0_bodyOf_41 : decode cX0_bodyOf 41 = .ok (.getstatic 42, 3) := by decide +kernel
theorem dX0_bodyOf_44 : decode cX0_bodyOf 44 = .ok (.iload 4, 2) := by decide +kernel
theorem dX0_bodyOf_46 : decode cX0_bodyOf 46 = .ok (.iaload, 1) := by decide +kernel
theorem dX0_bodyOf_47 : decode cX0_bodyOf 47 = .ok (.ifCond .eq 10, 3) := by decide +kernel
theorem dX0_bodyOf_50 : decode cX0_bodyOf 50 = .ok (.getstatic 42, 3) := by decide +kernel
theorem dX0_bodyOf_53 : decode cX0_bodyOf 53 = .ok (.iload 4, 2) := by decide +kernel
theorem dX0_bodyOf_55 : decode cX0_bodyOf 55 = .ok (.iaload, 1) := by decide +kernel
theorem dX0_bodyOf_56 : decode cX0_bodyOf 56 = .ok (.ireturn, 1) := by decide +kernel
theorem dX0_bodyOf_57 : decode cX0_bodyOf 57 = .ok (.getstatic 45, 3) := by decide +kernel
theorem dX0_bodyOf_60 : decode cX0_bodyOf 60 = .ok (.iload_n 2, 1) := by decide +kernel
theorem dX0_bodyOf_61 : decode cX0_bodyOf 61 = .ok (.iaload, 1) := by decide +kernel
theorem dX0_bodyOf_62 : decode cX0_bodyOf 62 = .ok (.istore_n 2, 1) := by decide +kernel
theorem dX0_bodyOf_63 : decode cX0_bodyOf 63 = .ok (.iinc 3 1, 3) := by decide +kernel
theorem dX0_bodyOf_66 : decode cX0_bodyOf 66 = .ok (.goto (-62), 3) := by decide +kernel
theorem dX0_bodyOf_69 : decode cX0_bodyOf 69 = .ok (.iconst 0, 1) := by decide +kernel
theorem dX0_bodyOf_70 : decode cX0_bodyOf 70 = .ok (.ireturn, 1) := by decide +kernel
theorem dX0_begin_0 : decode cX0_begin 0 = .ok (.aload_n 0, 1) := by decide +kernel
theorem dX0_begin_1 : decode cX0_begin 1 = .ok (.getfield 15, 3) := by decide +kernel
theorem dX0_begin_4 : decode cX0_begin 4 = .ok (.ifCond .lt 22, 3) := by decide +kernel
theorem dX0_begin_7 : decode cX0_begin 7 = .ok (.aload_n 0, 1) := by decide +kernel
theorem dX0_begin_8 : decode cX0_begin 8 = .ok (.getfield 15, 3) := by decide +kernel
theorem dX0_begin_11 : decode cX0_begin 11 = .ok (.bipush 20, 2) := by decide +kernel
theorem dX0_begin_13 : decode cX0_begin 13 = .ok (.if_icmp .ge 13, 3) := by decide +kernel
theorem dX0_begin_16 : decode cX0_begin 16 = .ok (.aload_n 0, 1) := by decide +kernel
theorem dX0_begin_17 : decode cX0_begin 17 = .ok (.getfield 11, 3) := by decide +kernel
theorem dX0_begin_20 : decode cX0_begin 20 = .ok (.aload_n 0, 1) := by decide +kernel
theorem dX0_begin_21 : decode cX0_begin 21 = .ok (.getfield 15, 3) := by decide +kernel
theorem dX0_begin_24 : decode cX0_begin 24 = .ok (.iload_n 1, 1) := by decide +kernel
theorem dX0_begin_25 : decode cX0_begin 25 = .ok (.iastore, 1) := by decide +kernel
theorem dX0_begin_26 : decode cX0_begin 26 = .ok (.aload_n 0, 1) := by decide +kernel
theorem dX0_begin_27 : decode cX0_begin 27 = .ok (.dup, 1) := by decide +kernel
theorem dX0_begin_28 : decode cX0_begin 28 = .ok (.getfield 15, 3) := by decide +kernel
theorem dX0_begin_31 : decode cX0_begin 31 = .ok (.iconst 1, 1) := by decide +kernel
theorem dX0_begin_32 : decode cX0_begin 32 = .ok (.iadd, 1) := by decide +kernel
theorem dX0_begin_33 : decode cX0_begin 33 = .ok (.putfield 15, 3) := by decide +kernel
theorem dX0_begin_36 : decode cX0_begin 36 = .ok (.return_, 1) := by decide +kernel
theorem dX0_ask_0 : decode cX0_ask 0 = .ok (.iload_n 1, 1) := by decide +kernel
theorem dX0_ask_1 : decode cX0_ask 1 = .ok (.iload_n 2, 1) := by decide +kernel
theorem dX0_ask_2 : decode cX0_ask 2 = .ok (.invokestatic 48, 3) := by decide +kernel
theorem dX0_ask_5 : decode cX0_ask 5 = .ok (.istore 5, 2) := by decide +kernel
theorem dX0_ask_7 : decode cX0_ask 7 = .ok (.iload 5, 2) := by decide +kernel
theorem dX0_ask_9 : decode cX0_ask 9 = .ok (.ifCond .eq 10, 3) := by decide +kernel
theorem dX0_ask_12 : decode cX0_ask 12 = .ok (.iload 4, 2) := by decide +kernel
theorem dX0_ask_14 : decode cX0_ask 14 = .ok (.bipush 40, 2) := by decide +kernel
theorem dX0_ask_16 : decode cX0_ask 16 = .ok (.if_icmp .le 5, 3) := by decide +kernel
theorem dX0_ask_19 : decode cX0_ask 19 = .ok (.iconst 0, 1) := by decide +kernel
theorem dX0_ask_20 : decode cX0_ask 20 = .ok (.ireturn, 1) := by decide +kernel
theorem dX0_ask_21 : decode cX0_ask 21 = .ok (.aload_n 0, 1) := by decide +kernel
theorem dX0_ask_22 : decode cX0_ask 22 = .ok (.iload 5, 2) := by decide +kernel
theorem dX0_ask_24 : decode cX0_ask 24 = .ok (.invokevirtual 52, 3) := by decide +kernel
theorem dX0_ask_27 : decode cX0_ask 27 = .ok (.iload 4, 2) := by decide +kernel
theorem dX0_ask_29 : decode cX0_ask 29 = .ok (.iconst 1, 1) := by decide +kernel
theorem dX0_ask_30 : decode cX0_ask 30 = .ok (.iadd, 1) := by decide +kernel
theorem dX0_ask_31 : decode cX0_ask 31 = .ok (.istore 6, 2) := by decide +kernel
theorem dX0_ask_33 : decode cX0_ask 33 = .ok (.iload 5, 2) := by decide +kernel
theorem dX0_ask_35 : decode cX0_ask 35 = .ok (.lookupswitch 212 #[(1, 81), (2, 88), (3, 106), (11, 121), (21, 133), (31, 144), (41, 157), (51, 182), (61, 197)], 81) := by decide +kernel
theorem dX0_ask_116 : decode cX0_ask 116 = .ok (.iload_n 3, 1) := by decide +kernel
theorem dX0_ask_117 : decode cX0_ask 117 = .ok (.aload_n 0, 1) := by decide +kernel
theorem dX0_ask_118 : decode cX0_ask 118 = .ok (.getfield 25, 3) := by decide +kernel
theorem dX0_ask_121 : decode cX0_ask 121 = .ok (.iadd, 1) := by decide +kernel
theorem dX0_ask_122 : decode cX0_ask 122 = .ok (.ireturn, 1) := by decide +kernel
theorem dX0_ask_123 : decode cX0_ask 123 = .ok (.aload_n 0, 1) := by decide +kernel
theorem dX0_ask_124 : decode cX0_ask 124 = .ok (.aload_n 0, 1) := by decide +kernel
theorem dX0_ask_125 : decode cX0_ask 125 = .ok (.getfield 31, 3) := by decide +kernel
theorem dX0_ask_128 : decode cX0_ask 128 = .ok (.iconst 0, 1) := by decide +kernel
theorem dX0_ask_129 : decode cX0_ask 129 = .ok (.iload_n 3, 1) := by decide +kernel
theorem dX0_ask_130 : decode cX0_ask 130 = .ok (.iload 6, 2) := by decide +kernel
theorem dX0_ask_132 : decode cX0_ask 132 = .ok (.invokevirtual 38, 3) := by decide +kernel
theorem dX0_ask_135 : decode cX0_ask 135 = .ok (.aload_n 0, 1) := by decide +kernel
theorem dX0_ask_136 : decode cX0_ask 136 = .ok (.getfield 36, 3) := by decide +kernel
theorem dX0_ask_139 : decode cX0_ask 139 = .ok (.isub, 1) := by decide +kernel
theorem dX0_ask_140 : decode cX0_ask 140 = .ok (.ireturn, 1) := by decide +kernel
theorem dX0_ask_141 : decode cX0_ask 141 = .ok (.aload_n 0, 1) := by decide +kernel
theorem dX0_ask_142 : decode cX0_ask 142 = .ok (.aload_n 0, 1) := by decide +kernel
theorem dX0_ask_143 : decode cX0_ask 143 = .ok (.getfield 31, 3) := by decide +kernel
theorem dX0_ask_146 : decode cX0_ask 146 = .ok (.iconst 1, 1) := by decide +kernel
theorem dX0_ask_147 : decode cX0_ask 147 = .ok (.iload_n 3, 1) := by decide +kernel
theorem dX0_ask_148 : decode cX0_ask 148 = .ok (.iload 6, 2) := by decide +kernel
theorem dX0_ask_150 : decode cX0_ask 150 = .ok (.invokevirtual 38, 3) := by decide +kernel
theorem dX0_ask_153 : decode cX0_ask 153 = .ok (.iconst 2, 1) := by decide +kernel
theorem dX0_ask_154 : decode cX0_ask 154 = .ok (.imul, 1) := by decide +kernel
theorem dX0_ask_155 : decode cX0_ask 155 = .ok (.ireturn, 1) := by decide +kernel
theorem dX0_ask_156 : decode cX0_ask 156 = .ok (.aload_n 0, 1) := by decide +kernel
theorem dX0_ask_157 : decode cX0_ask 157 = .ok (.iconst 0, 1) := by decide +kernel
theorem dX0_ask_158 : decode cX0_ask 158 = .ok (.iconst 0, 1) := by decide +kernel
theorem dX0_ask_159 : decode cX0_ask 159 = .ok (.iload_n 3, 1) := by decide +kernel
theorem dX0_ask_160 : decode cX0_ask 160 = .ok (.iconst 3, 1) := by decide +kernel
theorem dX0_ask_161 : decode cX0_ask 161 = .ok (.imul, 1) := by decide +kernel
theorem dX0_ask_162 : decode cX0_ask 162 = .ok (.iload 6, 2) := by decide +kernel
theorem dX0_ask_164 : decode cX0_ask 164 = .ok (.invokevirtual 38, 3) := by decide +kernel
theorem dX0_ask_167 : decode cX0_ask 167 = .ok (.ireturn, 1) := by decide +kernel
theorem dX0_ask_168 : decode cX0_ask 168 = .ok (.aload_n 0, 1) := by decide +kernel
theorem dX0_ask_169 : decode cX0_ask 169 = .ok (.iconst 0, 1) := by decide +kernel
theorem dX0_ask_170 : decode cX0_ask 170 = .ok (.iconst 1, 1) := by decide +kernel
theorem dX0_ask_171 : decode cX0_ask 171 = .ok (.iload_n 3, 1) := by decide +kernel
theorem dX0_ask_172 : decode cX0_ask 172 = .ok (.iload 6, 2) := by decide +kernel
theorem dX0_ask_174 : decode cX0_ask 174 = .ok (.invokevirtual 38, 3) := by decide +kernel
theorem dX0_ask_177 : decode cX0_ask 177 = .ok (.ineg, 1) := by decide +kernel
theorem dX0_ask_178 : decode cX0_ask 178 = .ok (.ireturn, 1) := by decide +kernel
theorem dX0_ask_179 : decode cX0_ask 179 = .ok (.aload_n 0, 1) := by decide +kernel
theorem dX0_ask_180 : decode cX0_ask 180 = .ok (.iconst 0, 1) := by decide +kernel
theorem dX0_ask_181 : decode cX0_ask 181 = .ok (.iconst 2, 1) := by decide +kernel
theorem dX0_ask_182 : decode cX0_ask 182 = .ok (.iload_n 3, 1) := by decide +kernel
theorem dX0_ask_183 : decode cX0_ask 183 = .ok (.iload 6, 2) := by decide +kernel
theorem dX0_ask_185 : decode cX0_ask 185 = .ok (.invokevirtual 38, 3) := by decide +kernel
theorem dX0_ask_188 : decode cX0_ask 188 = .ok (.bipush 7, 2) := by decide +kernel
theorem dX0_ask_190 : decode cX0_ask 190 = .ok (.ixor, 1) := by decide +kernel
theorem dX0_ask_191 : decode cX0_ask 191 = .ok (.ireturn, 1) := by decide +kernel
theorem dX0_ask_192 : decode cX0_ask 192 = .ok (.aload_n 0, 1) := by decide +kernel
theorem dX0_ask_193 : decode cX0_ask 193 = .ok (.iconst 2, 1) := by decide +kernel
theorem dX0_ask_194 : decode cX0_ask 194 = .ok (.iconst 2, 1) := by decide +kernel
theorem dX0_ask_195 : decode cX0_ask 195 = .ok (.iload_n 3, 1) := by decide +kernel
theorem dX0_ask_196 : decode cX0_ask 196 = .ok (.iconst 1, 1) := by decide +kernel
theorem dX0_ask_197 : decode cX0_ask 197 = .ok (.isub, 1) := by decide +kernel
theorem dX0_ask_198 : decode cX0_ask 198 = .ok (.iload 6, 2) := by decide +kernel
theorem dX0_ask_200 : decode cX0_ask 200 = .ok (.invokevirtual 38, 3) := by decide +kernel
theorem dX0_ask_203 : decode cX0_ask 203 = .ok (.aload_n 0, 1) := by decide +kernel
theorem dX0_ask_204 : decode cX0_ask 204 = .ok (.aload_n 0, 1) := by decide +kernel
theorem dX0_ask_205 : decode cX0_ask 205 = .ok (.getfield 31, 3) := by decide +kernel
theorem dX0_ask_208 : decode cX0_ask 208 = .ok (.iconst 0, 1) := by decide +kernel
theorem dX0_ask_209 : decode cX0_ask 209 = .ok (.iconst 2, 1) := by decide +kernel
theorem dX0_ask_210 : decode cX0_ask 210 = .ok (.iload 6, 2) := by decide +kernel
theorem dX0_ask_212 : decode cX0_ask 212 = .ok (.invokevirtual 38, 3) := by decide +kernel
theorem dX0_ask_215 : decode cX0_ask 215 = .ok (.iadd, 1) := by decide +kernel
theorem dX0_ask_216 : decode cX0_ask 216 = .ok (.ireturn, 1) := by decide +kernel
theorem dX0_ask_217 : decode cX0_ask 217 = .ok (.aload_n 0, 1) := by decide +kernel
theorem dX0_ask_218 : decode cX0_ask 218 = .ok (.iconst 3, 1) := by decide +kernel
theorem dX0_ask_219 : decode cX0_ask 219 = .ok (.iconst 0, 1) := by decide +kernel
theorem dX0_ask_220 : decode cX0_ask 220 = .ok (.iload_n 3, 1) := by decide +kernel
theorem dX0_ask_221 : decode cX0_ask 221 = .ok (.iload 6, 2) := by decide +kernel
theorem dX0_ask_223 : decode cX0_ask 223 = .ok (.invokevirtual 38, 3) := by decide +kernel
theorem dX0_ask_226 : decode cX0_ask 226 = .ok (.aload_n 0, 1) := by decide +kernel
theorem dX0_ask_227 : decode cX0_ask 227 = .ok (.getfield 25, 3) := by decide +kernel
theorem dX0_ask_230 : decode cX0_ask 230 = .ok (.ixor, 1) := by decide +kernel
theorem dX0_ask_231 : decode cX0_ask 231 = .ok (.ireturn, 1) := by decide +kernel
theorem dX0_ask_232 : decode cX0_ask 232 = .ok (.aload_n 0, 1) := by decide +kernel
theorem dX0_ask_233 : decode cX0_ask 233 = .ok (.iconst 3, 1) := by decide +kernel
theorem dX0_ask_234 : decode cX0_ask 234 = .ok (.iconst 1, 1) := by decide +kernel
theorem dX0_ask_235 : decode cX0_ask 235 = .ok (.iload_n 3, 1) := by decide +kernel
theorem dX0_ask_236 : decode cX0_ask 236 = .ok (.iload 6, 2) := by decide +kernel
theorem dX0_ask_238 : decode cX0_ask 238 = .ok (.invokevirtual 38, 3) := by decide +kernel
theorem dX0_ask_241 : decode cX0_ask 241 = .ok (.aload_n 0, 1) := by decide +kernel
theorem dX0_ask_242 : decode cX0_ask 242 = .ok (.getfield 36, 3) := by decide +kernel
theorem dX0_ask_245 : decode cX0_ask 245 = .ok (.iadd, 1) := by decide +kernel
theorem dX0_ask_246 : decode cX0_ask 246 = .ok (.ireturn, 1) := by decide +kernel
theorem dX0_ask_247 : decode cX0_ask 247 = .ok (.iconst 0, 1) := by decide +kernel
theorem dX0_ask_248 : decode cX0_ask 248 = .ok (.ireturn, 1) := by decide +kernel
theorem dX1_init_0 : decode cX1_init 0 = .ok (.aload_n 0, 1) := by decide +kernel
theorem dX1_init_1 : decode cX1_init 1 = .ok (.invokespecial 5, 3) := by decide +kernel
theorem dX1_init_4 : decode cX1_init 4 = .ok (.aload_n 0, 1) := by decide +kernel
theorem dX1_init_5 : decode cX1_init 5 = .ok (.iconst 4, 1) := by decide +kernel
theorem dX1_init_6 : decode cX1_init 6 = .ok (.bipush 96, 2) := by decide +kernel
theorem dX1_init_8 : decode cX1_init 8 = .ok (.multianewarray 11 2, 4) := by decide +kernel
theorem dX1_init_12 : decode cX1_init 12 = .ok (.putfield 13, 3) := by decide +kernel
theorem dX1_init_15 : decode cX1_init 15 = .ok (.aload_n 0, 1) := by decide +kernel
theorem dX1_init_16 : decode cX1_init 16 = .ok (.iconst 4, 1) := by decide +kernel
theorem dX1_init_17 : decode cX1_init 17 = .ok (.newarray .int, 2) := by decide +kernel
theorem dX1_init_19 : decode cX1_init 19 = .ok (.putfield 16, 3) := by decide +kernel
theorem dX1_init_22 : decode cX1_init 22 = .ok (.aload_n 0, 1) := by decide +kernel
theorem dX1_init_23 : decode cX1_init 23 = .ok (.bipush 6, 2) := by decide +kernel
theorem dX1_init_25 : decode cX1_init 25 = .ok (.newarray .int, 2) := by decide +kernel
theorem dX1_init_27 : decode cX1_init 27 = .ok (.putfield 20, 3) := by decide +kernel
theorem dX1_init_30 : decode cX1_init 30 = .ok (.aload_n 0, 1) := by decide +kernel
theorem dX1_init_31 : decode cX1_init 31 = .ok (.iconst 4, 1) := by decide +kernel
theorem dX1_init_32 : decode cX1_init 32 = .ok (.bipush 64, 2) := by decide +kernel
theorem dX1_init_34 : decode cX1_init 34 = .ok (.multianewarray 11 2, 4) := by decide +kernel
theorem dX1_init_38 : decode cX1_init 38 = .ok (.putfield 23, 3) := by decide +kernel
theorem dX1_init_41 : decode cX1_init 41 = .ok (.aload_n 0, 1) := by decide +kernel
theorem dX1_init_42 : decode cX1_init 42 = .ok (.aload_n 1, 1) := by decide +kernel
theorem dX1_init_43 : decode cX1_init 43 = .ok (.putfield 26, 3) := by decide +kernel
theorem dX1_init_46 : decode cX1_init 46 = .ok (.iconst 0, 1) := by decide +kernel
theorem dX1_init_47 : decode cX1_init 47 = .ok (.istore_n 2, 1) := by decide +kernel
theorem dX1_init_48 : decode cX1_init 48 = .ok (.iload_n 2, 1) := by decide +kernel
theorem dX1_init_49 : decode cX1_init 49 = .ok (.iconst 4, 1) := by decide +kernel
theorem dX1_init_50 : decode cX1_init 50 = .ok (.if_icmp .ge 16, 3) := by decide +kernel
theorem dX1_init_53 : decode cX1_init 53 = .ok (.aload_n 0, 1) := by decide +kernel
theorem dX1_init_54 : decode cX1_init 54 = .ok (.getfield 16, 3) := by decide +kernel
theorem dX1_init_57 : decode cX1_init 57 = .ok (.iload_n 2, 1) := by decide +kernel
theorem dX1_init_58 : decode cX1_init 58 = .ok (.iconst (-1), 1) := by decide +kernel
theorem dX1_init_59 : decode cX1_init 59 = .ok (.iastore, 1) := by decide +kernel
theorem dX1_init_60 : decode cX1_init 60 = .ok (.iinc 2 1, 3) := by decide +kernel
theorem dX1_init_63 : decode cX1_init 63 = .ok (.goto (-15), 3) := by decide +kernel
theorem dX1_init_66 : decode cX1_init 66 = .ok (.return_, 1) := by decide +kernel
theorem dX1_forget_0 : decode cX1_forget 0 = .ok (.aload_n 0, 1) := by decide +kernel
theorem dX1_forget_1 : decode cX1_forget 1 = .ok (.iconst 0, 1) := by decide +kernel
theorem dX1_forget_2 : decode cX1_forget 2 = .ok (.putfield 30, 3) := by decide +kernel
theorem dX1_forget_5 : decode cX1_forget 5 = .ok (.aload_n 0, 1) := by decide +kernel
theorem dX1_forget_6 : decode cX1_forget 6 = .ok (.iconst 0, 1) := by decide +kernel
theorem dX1_forget_7 : decode cX1_forget 7 = .ok (.putfield 34, 3) := by decide +kernel
theorem dX1_forget_10 : decode cX1_forget 10 = .ok (.return_, 1) := by decide +kernel
theorem dX1_forgetTown_0 : decode cX1_forgetTown 0 = .ok (.aload_n 0, 1) := by decide +kernel
theorem dX1_forgetTown_1 : decode cX1_forgetTown 1 = .ok (.invokevirtual 37, 3) := by decide +kernel
theorem dX1_forgetTown_4 : decode cX1_forgetTown 4 = .ok (.iconst 0, 1) := by decide +kernel
theorem dX1_forgetTown_5 : decode cX1_forgetTown 5 = .ok (.istore_n 1, 1) := by decide +kernel
theorem dX1_forgetTown_6 : decode cX1_forgetTown 6 = .ok (.iload_n 1, 1) := by decide +kernel
theorem dX1_forgetTown_7 : decode cX1_forgetTown 7 = .ok (.iconst 4, 1) := by decide +kernel
theorem dX1_forgetTown_8 : decode cX1_forgetTown 8 = .ok (.if_icmp .ge 16, 3) := by decide +kernel
theorem dX1_forgetTown_11 : decode cX1_forgetTown 11 = .ok (.aload_n 0, 1) := by decide +kernel
theorem dX1_forgetTown_12 : decode cX1_forgetTown 12 = .ok (.getfield 16, 3) := by decide +kernel
theorem dX1_forgetTown_15 : decode cX1_forgetTown 15 = .ok (.iload_n 1, 1) := by decide +kernel
theorem dX1_forgetTown_16 : decode cX1_forgetTown 16 = .ok (.iconst (-1), 1) := by decide +kernel
theorem dX1_forgetTown_17 : decode cX1_forgetTown 17 = .ok (.iastore, 1) := by decide +kernel
theorem dX1_forgetTown_18 : decode cX1_forgetTown 18 = .ok (.iinc 1 1, 3) := by decide +kernel
theorem dX1_forgetTown_21 : decode cX1_forgetTown 21 = .ok (.goto (-15), 3) := by decide +kernel
theorem dX1_forgetTown_24 : decode cX1_forgetTown 24 = .ok (.return_, 1) := by decide +kernel
theorem dX1_prepare_0 : decode cX1_prepare 0 = .ok (.aload_n 0, 1) := by decide +kernel
theorem dX1_prepare_1 : decode cX1_prepare 1 = .ok (.getfield 30, 3) := by decide +kernel
theorem dX1_prepare_4 : decode cX1_prepare 4 = .ok (.ifCond .eq 4, 3) := by decide +kernel
theorem dX1_prepare_7 : decode cX1_prepare 7 = .ok (.return_, 1) := by decide +kernel
theorem dX1_prepare_8 : decode cX1_prepare 8 = .ok (.iconst 0, 1) := by decide +kernel
theorem dX1_prepare_9 : decode cX1_prepare 9 = .ok (.istore_n 2, 1) := by decide +kernel
theorem dX1_prepare_10 : decode cX1_prepare 10 = .ok (.iload_n 2, 1) := by decide +kernel
theorem dX1_prepare_11 : decode cX1_prepare 11 = .ok (.aload_n 0, 1) := by decide +kernel
theorem dX1_prepare_12 : decode cX1_prepare 12 = .ok (.getfield 26, 3) := by decide +kernel
theorem dX1_prepare_15 : decode cX1_prepare 15 = .ok (.getfield 40, 3) := by decide +kernel
theorem dX1_prepare_18 : decode cX1_prepare 18 = .ok (.if_icmp .ge 128, 3) := by decide +kernel
theorem dX1_prepare_21 : decode cX1_prepare 21 = .ok (.iload_n 2, 1) := by decide +kernel
theorem dX1_prepare_22 : decode cX1_prepare 22 = .ok (.iconst 4, 1) := by decide +kernel
theorem dX1_prepare_23 : decode cX1_prepare 23 = .ok (.if_icmp .ge 123, 3) := by decide +kernel
theorem dX1_prepare_26 : decode cX1_prepare 26 = .ok (.aload_n 0, 1) := by decide +kernel
theorem dX1_prepare_27 : decode cX1_prepare 27 = .ok (.iload_n 2, 1) := by decide +kernel
theorem dX1_prepare_28 : decode cX1_prepare 28 = .ok (.aload_n 1, 1) := by decide +kernel
theorem dX1_prepare_29 : decode cX1_prepare 29 = .ok (.invokevirtual 46, 3) := by decide +kernel
theorem dX1_prepare_32 : decode cX1_prepare 32 = .ok (.aload_n 0, 1) := by decide +kernel
theorem dX1_prepare_33 : decode cX1_prepare 33 = .ok (.iload_n 2, 1) := by decide +kernel
theorem dX1_prepare_34 : decode cX1_prepare 34 = .ok (.aload_n 0, 1) := by decide +kernel
theorem dX1_prepare_35 : decode cX1_prepare 35 = .ok (.getfield 26, 3) := by decide +kernel
theorem dX1_prepare_38 : decode cX1_prepare 38 = .ok (.getfield 50, 3) := by decide +kernel
theorem dX1_prepare_41 : decode cX1_prepare 41 = .ok (.invokevirtual 53, 3) := by decide +kernel
theorem dX1_prepare_44 : decode cX1_prepare 44 = .ok (.istore_n 3, 1) := by decide +kernel
theorem dX1_prepare_45 : decode cX1_prepare 45 = .ok (.iconst 0, 1) := by decide +kernel
theorem dX1_prepare_46 : decode cX1_prepare 46 = .ok (.istore 4, 2) := by decide +kernel
theorem dX1_prepare_48 : decode cX1_prepare 48 = .ok (.iload 4, 2) := by decide +kernel
theorem dX1_prepare_50 : decode cX1_prepare 50 = .ok (.bipush 64, 2) := by decide +kernel
theorem dX1_prepare_52 : decode cX1_prepare 52 = .ok (.if_icmp .ge 88, 3) := by decide +kernel
theorem dX1_prepare_55 : decode cX1_prepare 55 = .ok (.iconst 0, 1) := by decide +kernel
theorem dX1_prepare_56 : decode cX1_prepare 56 = .ok (.istore 5, 2) := by decide +kernel
theorem dX1_prepare_58 : decode cX1_prepare 58 = .ok (.iconst 0, 1) := by decide +kernel
theorem dX1_prepare_59 : decode cX1_prepare 59 = .ok (.istore 6, 2) := by decide +kernel
theorem dX1_prepare_61 : decode cX1_prepare 61 = .ok (.iconst 0, 1) := by decide +kernel
theorem dX1_prepare_62 : decode cX1_prepare 62 = .ok (.istore 7, 2) := by decide +kernel
theorem dX1_prepare_64 : decode cX1_prepare 64 = .ok (.iload 7, 2) := by decide +kernel
theorem dX1_prepare_66 : decode cX1_prepare 66 = .ok (.bipush 8, 2) := by decide +kernel
theorem dX1_prepare_68 : decode cX1_prepare 68 = .ok (.if_icmp .ge 55, 3) := by decide +kernel
theorem dX1_prepare_71 : decode cX1_prepare 71 = .ok (.iload 7, 2) := by decide +kernel
theorem dX1_prepare_73 : decode cX1_prepare 73 = .ok (.ifCond .eq 16, 3) := by decide +kernel
theorem dX1_prepare_76 : decode cX1_prepare 76 = .ok (.aload_n 0, 1) := by decide +kernel
theorem dX1_prepare_77 : decode cX1_prepare 77 = .ok (.getfield 26, 3) := by decide +kernel
theorem dX1_prepare_80 : decode cX1_prepare 80 = .ok (.getfield 57, 3) := by decide +kernel
theorem dX1_prepare_83 : decode cX1_prepare 83 = .ok (.iload_n 2, 1) := by decide +kernel
theorem dX1_prepare_84 : decode cX1_prepare 84 = .ok (.iaload, 1) := by decide +kernel
theorem dX1_prepare_85 : decode cX1_prepare 85 = .ok (.iconst 1, 1) := by decide +kernel
theorem dX1_prepare_86 : decode cX1_prepare 86 = .ok (.if_icmp .eq 19, 3) := by decide +kernel
theorem dX1_prepare_89 : decode cX1_prepare 89 = .ok (.aload_n 0, 1) := by decide +kernel
theorem dX1_prepare_90 : decode cX1_prepare 90 = .ok (.iload_n 2, 1) := by decide +kernel
theorem dX1_prepare_91 : decode cX1_prepare 91 = .ok (.iload 4, 2) := by decide +kernel
theorem dX1_prepare_93 : decode cX1_prepare 93 = .ok (.bipush 8, 2) := by decide +kernel
theorem dX1_prepare_95 : decode cX1_prepare 95 = .ok (.imul, 1) := by decide +kernel
theorem dX1_prepare_96 : decode cX1_prepare 96 = .ok (.iload 7, 2) := by decide +kernel
theorem dX1_prepare_98 : decode cX1_prepare 98 = .ok (.iadd, 1) := by decide +kernel
theorem dX1_prepare_99 : decode cX1_prepare 99 = .ok (.iload_n 3, 1) := by decide +kernel
theorem dX1_prepare_100 : decode cX1_prepare 100 = .ok (.invokevirtual 60, 3) := by decide +kernel
theorem dX1_prepare_103 : decode cX1_prepare 103 = .ok (.istore 6, 2) := by decide +kernel
theorem dX1_prepare_105 : decode cX1_prepare 105 = .ok (.iload 5, 2) := by decide +kernel
theorem dX1_prepare_107 : decode cX1_prepare 107 = .ok (.iload 6, 2) := by decide +kernel
theorem dX1_prepare_109 : decode cX1_prepare 109 = .ok (.iconst 3, 1) := by decide +kernel
theorem dX1_prepare_110 : decode cX1_prepare 110 = .ok (.iload 7, 2) := by decide +kernel
theorem dX1_prepare_112 : decode cX1_prepare 112 = .ok (.imul, 1) := by decide +kernel
theorem dX1_prepare_113 : decode cX1_prepare 113 = .ok (.ishl, 1) := by decide +kernel
theorem dX1_prepare_114 : decode cX1_prepare 114 = .ok (.ior, 1) := by decide +kernel
theorem dX1_prepare_115 : decode cX1_prepare 115 = .ok (.istore 5, 2) := by decide +kernel
theorem dX1_prepare_117 : decode cX1_prepare 117 = .ok (.iinc 7 1, 3) := by decide +kernel
theorem dX1_prepare_120 : decode cX1_prepare 120 = .ok (.goto (-56), 3) := by decide +kernel
theorem dX1_prepare_123 : decode cX1_prepare 123 = .ok (.aload_n 0, 1) := by decide +kernel
theorem dX1_prepare_124 : decode cX1_prepare 124 = .ok (.getfield 23, 3) := by decide +kernel
theorem dX1_prepare_127 : decode cX1_prepare 127 = .ok (.iload_n 2, 1) := by decide +kernel
theorem dX1_prepare_128 : decode cX1_prepare 128 = .ok (.aaload, 1) := by decide +kernel
theorem dX1_prepare_129 : decode cX1_prepare 129 = .ok (.iload 4, 2) := by decide +kernel
theorem dX1_prepare_131 : decode cX1_prepare 131 = .ok (.iload 5, 2) := by decide +kernel
theorem dX1_prepare_133 : decode cX1_prepare 133 = .ok (.iastore, 1) := by decide +kernel
theorem dX1_prepare_134 : decode cX1_prepare 134 = .ok (.iinc 4 1, 3) := by decide +kernel
theorem dX1_prepare_137 : decode cX1_prepare 137 = .ok (.goto (-89), 3) := by decide +kernel
theorem dX1_prepare_140 : decode cX1_prepare 140 = .ok (.iinc 2 1, 3) := by decide +kernel
theorem dX1_prepare_143 : decode cX1_prepare 143 = .ok (.goto (-133), 3) := by decide +kernel
theorem dX1_prepare_146 : decode cX1_prepare 146 = .ok (.aload_n 0, 1) := by decide +kernel
theorem dX1_prepare_147 : decode cX1_prepare 147 = .ok (.iconst 1, 1) := by decide +kernel
theorem dX1_prepare_148 : decode cX1_prepare 148 = .ok (.putfield 30, 3) := by decide +kernel
theorem dX1_prepare_151 : decode cX1_prepare 151 = .ok (.return_, 1) := by decide +kernel
theorem dX1_fillWorths_0 : decode cX1_fillWorths 0 = .ok (.iload_n 1, 1) := by decide +kernel
theorem dX1_fillWorths_1 : decode cX1_fillWorths 1 = .ok (.ifCond .lt 26, 3) := by decide +kernel
theorem dX1_fillWorths_4 : decode cX1_fillWorths 4 = .ok (.iload_n 1, 1) := by decide +kernel
theorem dX1_fillWorths_5 : decode cX1_fillWorths 5 = .ok (.iconst 4, 1) := by decide +kernel
theorem dX1_fillWorths_6 : decode cX1_fillWorths 6 = .ok (.if_icmp .ge 21, 3) := by decide +kernel
theorem dX1_fillWorths_9 : decode cX1_fillWorths 9 = .ok (.aload_n 0, 1) := by decide +kernel
theorem dX1_fillWorths_10 : decode cX1_fillWorths 10 = .ok (.getfield 16, 3) := by decide +kernel
theorem dX1_fillWorths_13 : decode cX1_fillWorths 13 = .ok (.iload_n 1, 1) := by decide +kernel
theorem dX1_fillWorths_14 : decode cX1_fillWorths 14 = .ok (.iaload, 1) := by decide +kernel
theorem dX1_fillWorths_15 : decode cX1_fillWorths 15 = .ok (.aload_n 0, 1) := by decide +kernel
theorem dX1_fillWorths_16 : decode cX1_fillWorths 16 = .ok (.getfield 26, 3) := by decide +kernel
theorem dX1_fillWorths_19 : decode cX1_fillWorths 19 = .ok (.getfield 57, 3) := by decide +kernel
theorem dX1_fillWorths_22 : decode cX1_fillWorths 22 = .ok (.iload_n 1, 1) := by decide +kernel
theorem dX1_fillWorths_23 : decode cX1_fillWorths 23 = .ok (.iaload, 1) := by decide +kernel
theorem dX1_fillWorths_24 : decode cX1_fillWorths 24 = .ok (.if_icmp .ne 4, 3) := by decide +kernel
theorem dX1_fillWorths_27 : decode cX1_fillWorths 27 = .ok (.return_, 1) := by decide +kernel
theorem dX1_fillWorths_28 : decode cX1_fillWorths 28 = .ok (.aload_n 0, 1) := by decide +kernel
theorem dX1_fillWorths_29 : decode cX1_fillWorths 29 = .ok (.getfield 20, 3) := by decide +kernel
theorem dX1_fillWorths_32 : decode cX1_fillWorths 32 = .ok (.iconst 1, 1) := by decide +kernel
theorem dX1_fillWorths_33 : decode cX1_fillWorths 33 = .ok (.iload_n 1, 1) := by decide +kernel
theorem dX1_fillWorths_34 : decode cX1_fillWorths 34 = .ok (.iastore, 1) := by decide +kernel
theorem dX1_fillWorths_35 : decode cX1_fillWorths 35 = .ok (.aload_n 0, 1) := by decide +kernel
theorem dX1_fillWorths_36 : decode cX1_fillWorths 36 = .ok (.getfield 20, 3) := by decide +kernel
theorem dX1_fillWorths_39 : decode cX1_fillWorths 39 = .ok (.iconst 5, 1) := by decide +kernel
theorem dX1_fillWorths_40 : decode cX1_fillWorths 40 = .ok (.aload_n 0, 1) := by decide +kernel
theorem dX1_fillWorths_41 : decode cX1_fillWorths 41 = .ok (.getfield 26, 3) := by decide +kernel
theorem dX1_fillWorths_44 : decode cX1_fillWorths 44 = .ok (.getfield 57, 3) := by decide +kernel
theorem dX1_fillWorths_47 : decode cX1_fillWorths 47 = .ok (.iload_n 1, 1) := by decide +kernel
theorem dX1_fillWorths_48 : decode cX1_fillWorths 48 = .ok (.iaload, 1) := by decide +kernel
theorem dX1_fillWorths_49 : decode cX1_fillWorths 49 = .ok (.iastore, 1) := by decide +kernel
theorem dX1_fillWorths_50 : decode cX1_fillWorths 50 = .ok (.iconst 0, 1) := by decide +kernel
theorem dX1_fillWorths_51 : decode cX1_fillWorths 51 = .ok (.istore_n 3, 1) := by decide +kernel
theorem dX1_fillWorths_52 : decode cX1_fillWorths 52 = .ok (.iload_n 3, 1) := by decide +kernel
theorem dX1_fillWorths_53 : decode cX1_fillWorths 53 = .ok (.bipush 96, 2) := by decide +kernel
theorem dX1_fillWorths_55 : decode cX1_fillWorths 55 = .ok (.if_icmp .ge 67, 3) := by decide +kernel
theorem dX1_fillWorths_58 : decode cX1_fillWorths 58 = .ok (.aload_n 0, 1) := by decide +kernel
theorem dX1_fillWorths_59 : decode cX1_fillWorths 59 = .ok (.getfield 20, 3) := by decide +kernel
theorem dX1_fillWorths_62 : decode cX1_fillWorths 62 = .ok (.iconst 0, 1) := by decide +kernel
theorem dX1_fillWorths_63 : decode cX1_fillWorths 63 = .ok (.iload_n 3, 1) := by decide +kernel
theorem dX1_fillWorths_64 : decode cX1_fillWorths 64 = .ok (.bipush 32, 2) := by decide +kernel
theorem dX1_fillWorths_66 : decode cX1_fillWorths 66 = .ok (.idiv, 1) := by decide +kernel
theorem dX1_fillWorths_67 : decode cX1_fillWorths 67 = .ok (.iastore, 1) := by decide +kernel
theorem dX1_fillWorths_68 : decode cX1_fillWorths 68 = .ok (.aload_n 0, 1) := by decide +kernel
theorem dX1_fillWorths_69 : decode cX1_fillWorths 69 = .ok (.getfield 20, 3) := by decide +kernel
theorem dX1_fillWorths_72 : decode cX1_fillWorths 72 = .ok (.iconst 3, 1) := by decide +kernel
theorem dX1_fillWorths_73 : decode cX1_fillWorths 73 = .ok (.iload_n 3, 1) := by decide +kernel
theorem dX1_fillWorths_74 : decode cX1_fillWorths 74 = .ok (.bipush 8, 2) := by decide +kernel
theorem dX1_fillWorths_76 : decode cX1_fillWorths 76 = .ok (.idiv, 1) := by decide +kernel
theorem dX1_fillWorths_77 : decode cX1_fillWorths 77 = .ok (.iconst 4, 1) := by decide +kernel
theorem dX1_fillWorths_78 : decode cX1_fillWorths 78 = .ok (.irem, 1) := by decide +kernel
theorem dX1_fillWorths_79 : decode cX1_fillWorths 79 = .ok (.iastore, 1) := by decide +kernel
theorem dX1_fillWorths_80 : decode cX1_fillWorths 80 = .ok (.aload_n 0, 1) := by decide +kernel
theorem dX1_fillWorths_81 : decode cX1_fillWorths 81 = .ok (.getfield 20, 3) := by decide +kernel
theorem dX1_fillWorths_84 : decode cX1_fillWorths 84 = .ok (.iconst 2, 1) := by decide +kernel
theorem dX1_fillWorths_85 : decode cX1_fillWorths 85 = .ok (.iload_n 3, 1) := by decide +kernel
theorem dX1_fillWorths_86 : decode cX1_fillWorths 86 = .ok (.iconst 2, 1) := by decide +kernel
theorem dX1_fillWorths_87 : decode cX1_fillWorths 87 = .ok (.idiv, 1) := by decide +kernel
theorem dX1_fillWorths_88 : decode cX1_fillWorths 88 = .ok (.iconst 4, 1) := by decide +kernel
theorem dX1_fillWorths_89 : decode cX1_fillWorths 89 = .ok (.irem, 1) := by decide +kernel
theorem dX1_fillWorths_90 : decode cX1_fillWorths 90 = .ok (.iastore, 1) := by decide +kernel
theorem dX1_fillWorths_91 : decode cX1_fillWorths 91 = .ok (.aload_n 0, 1) := by decide +kernel
theorem dX1_fillWorths_92 : decode cX1_fillWorths 92 = .ok (.getfield 20, 3) := by decide +kernel
theorem dX1_fillWorths_95 : decode cX1_fillWorths 95 = .ok (.iconst 4, 1) := by decide +kernel
theorem dX1_fillWorths_96 : decode cX1_fillWorths 96 = .ok (.iload_n 3, 1) := by decide +kernel
theorem dX1_fillWorths_97 : decode cX1_fillWorths 97 = .ok (.iconst 2, 1) := by decide +kernel
theorem dX1_fillWorths_98 : decode cX1_fillWorths 98 = .ok (.irem, 1) := by decide +kernel
theorem dX1_fillWorths_99 : decode cX1_fillWorths 99 = .ok (.iastore, 1) := by decide +kernel
theorem dX1_fillWorths_100 : decode cX1_fillWorths 100 = .ok (.aload_n 0, 1) := by decide +kernel
theorem dX1_fillWorths_101 : decode cX1_fillWorths 101 = .ok (.getfield 13, 3) := by decide +kernel
theorem dX1_fillWorths_104 : decode cX1_fillWorths 104 = .ok (.iload_n 1, 1) := by decide +kernel
theorem dX1_fillWorths_105 : decode cX1_fillWorths 105 = .ok (.aaload, 1) := by decide +kernel
theorem dX1_fillWorths_106 : decode cX1_fillWorths 106 = .ok (.iload_n 3, 1) := by decide +kernel
theorem dX1_fillWorths_107 : decode cX1_fillWorths 107 = .ok (.aload_n 2, 1) := by decide +kernel
theorem dX1_fillWorths_108 : decode cX1_fillWorths 108 = .ok (.aload_n 0, 1) := by decide +kernel
theorem dX1_fillWorths_109 : decode cX1_fillWorths 109 = .ok (.getfield 20, 3) := by decide +kernel
theorem dX1_fillWorths_112 : decode cX1_fillWorths 112 = .ok (.invokevirtual 64, 3) := by decide +kernel
theorem dX1_fillWorths_115 : decode cX1_fillWorths 115 = .ok (.iastore, 1) := by decide +kernel
theorem dX1_fillWorths_116 : decode cX1_fillWorths 116 = .ok (.iinc 3 1, 3) := by decide +kernel
theorem dX1_fillWorths_119 : decode cX1_fillWorths 119 = .ok (.goto (-67), 3) := by decide +kernel
theorem dX1_fillWorths_122 : decode cX1_fillWorths 122 = .ok (.aload_n 0, 1) := by decide +kernel
theorem dX1_fillWorths_123 : decode cX1_fillWorths 123 = .ok (.getfield 16, 3) := by decide +kernel
theorem dX1_fillWorths_126 : decode cX1_fillWorths 126 = .ok (.iload_n 1, 1) := by decide +kernel
theorem dX1_fillWorths_127 : decode cX1_fillWorths 127 = .ok (.aload_n 0, 1) := by decide +kernel
theorem dX1_fillWorths_128 : decode cX1_fillWorths 128 = .ok (.getfield 26, 3) := by decide +kernel
theorem dX1_fillWorths_131 : decode cX1_fillWorths 131 = .ok (.getfield 57, 3) := by decide +kernel
theorem dX1_fillWorths_134 : decode cX1_fillWorths 134 = .ok (.iload_n 1, 1) := by decide +kernel
theorem dX1_fillWorths_135 : decode cX1_fillWorths 135 = .ok (.iaload, 1) := by decide +kernel
theorem dX1_fillWorths_136 : decode cX1_fillWorths 136 = .ok (.iastore, 1) := by decide +kernel
theorem dX1_fillWorths_137 : decode cX1_fillWorths 137 = .ok (.return_, 1) := by decide +kernel
theorem dX1_sightOf_0 : decode cX1_sightOf 0 = .ok (.iload_n 1, 1) := by decide +kernel
theorem dX1_sightOf_1 : decode cX1_sightOf 1 = .ok (.iload_n 2, 1) := by decide +kernel
theorem dX1_sightOf_2 : decode cX1_sightOf 2 = .ok (.invokestatic 70, 3) := by decide +kernel
theorem dX1_sightOf_5 : decode cX1_sightOf 5 = .ok (.istore_n 3, 1) := by decide +kernel
theorem dX1_sightOf_6 : decode cX1_sightOf 6 = .ok (.sipush 585, 3) := by decide +kernel
theorem dX1_sightOf_9 : decode cX1_sightOf 9 = .ok (.iconst 1, 1) := by decide +kernel
theorem dX1_sightOf_10 : decode cX1_sightOf 10 = .ok (.iconst 3, 1) := by decide +kernel
theorem dX1_sightOf_11 : decode cX1_sightOf 11 = .ok (.iload_n 1, 1) := by decide +kernel
theorem dX1_sightOf_12 : decode cX1_sightOf 12 = .ok (.imul, 1) := by decide +kernel
theorem dX1_sightOf_13 : decode cX1_sightOf 13 = .ok (.ishl, 1) := by decide +kernel
theorem dX1_sightOf_14 : decode cX1_sightOf 14 = .ok (.iconst (-1), 1) := by decide +kernel
theorem dX1_sightOf_15 : decode cX1_sightOf 15 = .ok (.ixor, 1) := by decide +kernel
theorem dX1_sightOf_16 : decode cX1_sightOf 16 = .ok (.iand, 1) := by decide +kernel
theorem dX1_sightOf_17 : decode cX1_sightOf 17 = .ok (.istore 4, 2) := by decide +kernel
theorem dX1_sightOf_19 : decode cX1_sightOf 19 = .ok (.iconst 0, 1) := by decide +kernel
theorem dX1_sightOf_20 : decode cX1_sightOf 20 = .ok (.istore 5, 2) := by decide +kernel
theorem dX1_sightOf_22 : decode cX1_sightOf 22 = .ok (.iload 5, 2) := by decide +kernel
theorem dX1_sightOf_24 : decode cX1_sightOf 24 = .ok (.iconst 3, 1) := by decide +kernel
theorem dX1_sightOf_25 : decode cX1_sightOf 25 = .ok (.if_icmp .ge 29, 3) := by decide +kernel
theorem dX1_sightOf_28 : decode cX1_sightOf 28 = .ok (.iload_n 3, 1) := by decide +kernel
theorem dX1_sightOf_29 : decode cX1_sightOf 29 = .ok (.iload_n 2, 1) := by decide +kernel
theorem dX1_sightOf_30 : decode cX1_sightOf 30 = .ok (.iload 5, 2) := by decide +kernel
theorem dX1_sightOf_32 : decode cX1_sightOf 32 = .ok (.ishr, 1) := by decide +kernel
theorem dX1_sightOf_33 : decode cX1_sightOf 33 = .ok (.iload 4, 2) := by decide +kernel
theorem dX1_sightOf_35 : decode cX1_sightOf 35 = .ok (.iand, 1) := by decide +kernel
theorem dX1_sightOf_36 : decode cX1_sightOf 36 = .ok (.invokestatic 73, 3) := by decide +kernel
theorem dX1_sightOf_39 : decode cX1_sightOf 39 = .ok (.iconst 3, 1) := by decide +kernel
theorem dX1_sightOf_40 : decode cX1_sightOf 40 = .ok (.iconst 2, 1) := by decide +kernel
theorem dX1_sightOf_41 : decode cX1_sightOf 41 = .ok (.iload 5, 2) := by decide +kernel
theorem dX1_sightOf_43 : decode cX1_sightOf 43 = .ok (.imul, 1) := by decide +kernel
theorem dX1_sightOf_44 : decode cX1_sightOf 44 = .ok (.iadd, 1) := by decide +kernel
theorem dX1_sightOf_45 : decode cX1_sightOf 45 = .ok (.ishl, 1) := by decide +kernel
theorem dX1_sightOf_46 : decode cX1_sightOf 46 = .ok (.ior, 1) := by decide +kernel
theorem dX1_sightOf_47 : decode cX1_sightOf 47 = .ok (.istore_n 3, 1) := by decide +kernel
theorem dX1_sightOf_48 : decode cX1_sightOf 48 = .ok (.iinc 5 1, 3) := by decide +kernel
theorem dX1_sightOf_51 : decode cX1_sightOf 51 = .ok (.goto (-29), 3) := by decide +kernel
theorem dX1_sightOf_54 : decode cX1_sightOf 54 = .ok (.iload_n 3, 1) := by decide +kernel
theorem dX1_sightOf_55 : decode cX1_sightOf 55 = .ok (.sipush 511, 3) := by decide +kernel
theorem dX1_sightOf_58 : decode cX1_sightOf 58 = .ok (.iand, 1) := by decide +kernel
theorem dX1_sightOf_59 : decode cX1_sightOf 59 = .ok (.ireturn, 1) := by decide +kernel
theorem dX1_worth_0 : decode cX1_worth 0 = .ok (.iload_n 1, 1) := by decide +kernel
theorem dX1_worth_1 : decode cX1_worth 1 = .ok (.ifCond .lt 17, 3) := by decide +kernel
theorem dX1_worth_4 : decode cX1_worth 4 = .ok (.iload_n 1, 1) := by decide +kernel
theorem dX1_worth_5 : decode cX1_worth 5 = .ok (.iconst 4, 1) := by decide +kernel
theorem dX1_worth_6 : decode cX1_worth 6 = .ok (.if_icmp .ge 12, 3) := by decide +kernel
theorem dX1_worth_9 : decode cX1_worth 9 = .ok (.iload_n 2, 1) := by decide +kernel
theorem dX1_worth_10 : decode cX1_worth 10 = .ok (.ifCond .lt 8, 3) := by decide +kernel
theorem dX1_worth_13 : decode cX1_worth 13 = .ok (.iload_n 2, 1) := by decide +kernel
theorem dX1_worth_14 : decode cX1_worth 14 = .ok (.iconst 3, 1) := by decide +kernel
theorem dX1_worth_15 : decode cX1_worth 15 = .ok (.if_icmp .lt 5, 3) := by decide +kernel
theorem dX1_worth_18 : decode cX1_worth 18 = .ok (.iconst 0, 1) := by decide +kernel
theorem dX1_worth_19 : decode cX1_worth 19 = .ok (.ireturn, 1) := by decide +kernel
theorem dX1_worth_20 : decode cX1_worth 20 = .ok (.iload_n 2, 1) := by decide +kernel
theorem dX1_worth_21 : decode cX1_worth 21 = .ok (.ifCond .ne 14, 3) := by decide +kernel
theorem dX1_worth_24 : decode cX1_worth 24 = .ok (.iload_n 3, 1) := by decide +kernel
theorem dX1_worth_25 : decode cX1_worth 25 = .ok (.iconst 3, 1) := by decide +kernel
theorem dX1_worth_26 : decode cX1_worth 26 = .ok (.ishr, 1) := by decide +kernel
theorem dX1_worth_27 : decode cX1_worth 27 = .ok (.iconst 2, 1) := by decide +kernel
theorem dX1_worth_28 : decode cX1_worth 28 = .ok (.ishl, 1) := by decide +kernel
theorem dX1_worth_29 : decode cX1_worth 29 = .ok (.bipush 12, 2) := by decide +kernel
theorem dX1_worth_31 : decode cX1_worth 31 = .ok (.iand, 1) := by decide +kernel
theorem dX1_worth_32 : decode cX1_worth 32 = .ok (.goto 15, 3) := by decide +kernel
theorem dX1_worth_35 : decode cX1_worth 35 = .ok (.iload_n 3, 1) := by decide +kernel
theorem dX1_worth_36 : decode cX1_worth 36 = .ok (.iconst 3, 1) := by decide +kernel
theorem dX1_worth_37 : decode cX1_worth 37 = .ok (.iconst 2, 1) := by decide +kernel
theorem dX1_worth_38 : decode cX1_worth 38 = .ok (.iload_n 2, 1) := by decide +kernel
theorem dX1_worth_39 : decode cX1_worth 39 = .ok (.iconst 1, 1) := by decide +kernel
theorem dX1_worth_40 : decode cX1_worth 40 = .ok (.isub, 1) := by decide +kernel
theorem dX1_worth_41 : decode cX1_worth 41 = .ok (.imul, 1) := by decide +kernel
theorem dX1_worth_42 : decode cX1_worth 42 = .ok (.iadd, 1) := by decide +kernel
theorem dX1_worth_43 : decode cX1_worth 43 = .ok (.ishr, 1) := by decide +kernel
theorem dX1_worth_44 : decode cX1_worth 44 = .ok (.bipush 15, 2) := by decide +kernel
theorem dX1_worth_46 : decode cX1_worth 46 = .ok (.iand, 1) := by decide +kernel
theorem dX1_worth_47 : decode cX1_worth 47 = .ok (.istore 4, 2) := by decide +kernel
theorem dX1_worth_49 : decode cX1_worth 49 = .ok (.iload_n 2, 1) := by decide +kernel
theorem dX1_worth_50 : decode cX1_worth 50 = .ok (.ifCond .ne 15, 3) := by decide +kernel
theorem dX1_worth_53 : decode cX1_worth 53 = .ok (.aload_n 0, 1) := by decide +kernel
theorem dX1_worth_54 : decode cX1_worth 54 = .ok (.getfield 26, 3) := by decide +kernel
theorem dX1_worth_57 : decode cX1_worth 57 = .ok (.getfield 79, 3) := by decide +kernel
theorem dX1_worth_60 : decode cX1_worth 60 = .ok (.iload_n 1, 1) := by decide +kernel
theorem dX1_worth_61 : decode cX1_worth 61 = .ok (.ishr, 1) := by decide +kernel
theorem dX1_worth_62 : decode cX1_worth 62 = .ok (.goto 8, 3) := by decide +kernel
theorem dX1_worth_65 : decode cX1_worth 65 = .ok (.iload_n 3, 1) := by decide +kernel
theorem dX1_worth_66 : decode cX1_worth 66 = .ok (.iload_n 2, 1) := by decide +kernel
theorem dX1_worth_67 : decode cX1_worth 67 = .ok (.iconst 1, 1) := by decide +kernel
theorem dX1_worth_68 : decode cX1_worth 68 = .ok (.isub, 1) := by decide +kernel
theorem dX1_worth_69 : decode cX1_worth 69 = .ok (.ishr, 1) := by decide +kernel
theorem dX1_worth_70 : decode cX1_worth 70 = .ok (.iconst 1, 1) := by decide +kernel
theorem dX1_worth_71 : decode cX1_worth 71 = .ok (.iand, 1) := by decide +kernel
theorem dX1_worth_72 : decode cX1_worth 72 = .ok (.istore 5, 2) := by decide +kernel
theorem dX1_worth_74 : decode cX1_worth 74 = .ok (.iload_n 2, 1) := by decide +kernel
theorem dX1_worth_75 : decode cX1_worth 75 = .ok (.iconst 4, 1) := by decide +kernel
theorem dX1_worth_76 : decode cX1_worth 76 = .ok (.imul, 1) := by decide +kernel
theorem dX1_worth_77 : decode cX1_worth 77 = .ok (.iconst 4, 1) := by decide +kernel
theorem dX1_worth_78 : decode cX1_worth 78 = .ok (.imul, 1) := by decide +kernel
theorem dX1_worth_79 : decode cX1_worth 79 = .ok (.iload 4, 2) := by decide +kernel
theorem dX1_worth_81 : decode cX1_worth 81 = .ok (.iadd, 1) := by decide +kernel
theorem dX1_worth_82 : decode cX1_worth 82 = .ok (.iconst 2, 1) := by decide +kernel
theorem dX1_worth_83 : decode cX1_worth 83 = .ok (.imul, 1) := by decide +kernel
theorem dX1_worth_84 : decode cX1_worth 84 = .ok (.iload 5, 2) := by decide +kernel
theorem dX1_worth_86 : decode cX1_worth 86 = .ok (.iadd, 1) := by decide +kernel
theorem dX1_worth_87 : decode cX1_worth 87 = .ok (.istore 6, 2) := by decide +kernel
theorem dX1_worth_89 : decode cX1_worth 89 = .ok (.iload 6, 2) := by decide +kernel
theorem dX1_worth_91 : decode cX1_worth 91 = .ok (.ifCond .lt 22, 3) := by decide +kernel
theorem dX1_worth_94 : decode cX1_worth 94 = .ok (.iload 6, 2) := by decide +kernel
theorem dX1_worth_96 : decode cX1_worth 96 = .ok (.bipush 96, 2) := by decide +kernel
theorem dX1_worth_98 : decode cX1_worth 98 = .ok (.if_icmp .ge 15, 3) := by decide +kernel
theorem dX1_worth_101 : decode cX1_worth 101 = .ok (.aload_n 0, 1) := by decide +kernel
theorem dX1_worth_102 : decode cX1_worth 102 = .ok (.getfield 13, 3) := by decide +kernel
theorem dX1_worth_105 : decode cX1_worth 105 = .ok (.iload_n 1, 1) := by decide +kernel
theorem dX1_worth_106 : decode cX1_worth 106 = .ok (.aaload, 1) := by decide +kernel
theorem dX1_worth_107 : decode cX1_worth 107 = .ok (.iload 6, 2) := by decide +kernel
theorem dX1_worth_109 : decode cX1_worth 109 = .ok (.iaload, 1) := by decide +kernel
theorem dX1_worth_110 : decode cX1_worth 110 = .ok (.goto 4, 3) := by decide +kernel
theorem dX1_worth_113 : decode cX1_worth 113 = .ok (.iconst 0, 1) := by decide +kernel
theorem dX1_worth_114 : decode cX1_worth 114 = .ok (.ireturn, 1) := by decide +kernel
theorem dX1_gain_0 : decode cX1_gain 0 = .ok (.iconst 0, 1) := by decide +kernel
theorem dX1_gain_1 : decode cX1_gain 1 = .ok (.istore_n 3, 1) := by decide +kernel
theorem dX1_gain_2 : decode cX1_gain 2 = .ok (.iconst 0, 1) := by decide +kernel
theorem dX1_gain_3 : decode cX1_gain 3 = .ok (.istore 4, 2) := by decide +kernel
theorem dX1_gain_5 : decode cX1_gain 5 = .ok (.iload 4, 2) := by decide +kernel
theorem dX1_gain_7 : decode cX1_gain 7 = .ok (.iconst 3, 1) := by decide +kernel
theorem dX1_gain_8 : decode cX1_gain 8 = .ok (.if_icmp .ge 30, 3) := by decide +kernel
theorem dX1_gain_11 : decode cX1_gain 11 = .ok (.iload_n 2, 1) := by decide +kernel
theorem dX1_gain_12 : decode cX1_gain 12 = .ok (.iload 4, 2) := by decide +kernel
theorem dX1_gain_14 : decode cX1_gain 14 = .ok (.invokestatic 82, 3) := by decide +kernel
theorem dX1_gain_17 : decode cX1_gain 17 = .ok (.iconst 1, 1) := by decide +kernel
theorem dX1_gain_18 : decode cX1_gain 18 = .ok (.if_icmp .ne 14, 3) := by decide +kernel
theorem dX1_gain_21 : decode cX1_gain 21 = .ok (.iload_n 3, 1) := by decide +kernel
theorem dX1_gain_22 : decode cX1_gain 22 = .ok (.aload_n 0, 1) := by decide +kernel
theorem dX1_gain_23 : decode cX1_gain 23 = .ok (.iload_n 1, 1) := by decide +kernel
theorem dX1_gain_24 : decode cX1_gain 24 = .ok (.iload 4, 2) := by decide +kernel
theorem dX1_gain_26 : decode cX1_gain 26 = .ok (.iload_n 2, 1) := by decide +kernel
theorem dX1_gain_27 : decode cX1_gain 27 = .ok (.invokevirtual 85, 3) := by decide +kernel
theorem dX1_gain_30 : decode cX1_gain 30 = .ok (.iadd, 1) := by decide +kernel
theorem dX1_gain_31 : decode cX1_gain 31 = .ok (.istore_n 3, 1) := by decide +kernel
theorem dX1_gain_32 : decode cX1_gain 32 = .ok (.iinc 4 1, 3) := by decide +kernel
theorem dX1_gain_35 : decode cX1_gain 35 = .ok (.goto (-30), 3) := by decide +kernel
theorem dX1_gain_38 : decode cX1_gain 38 = .ok (.iload_n 3, 1) := by decide +kernel
theorem dX1_gain_39 : decode cX1_gain 39 = .ok (.ireturn, 1) := by decide +kernel
theorem dX1_rowAt_0 : decode cX1_rowAt 0 = .ok (.aload_n 0, 1) := by decide +kernel
theorem dX1_rowAt_1 : decode cX1_rowAt 1 = .ok (.getfield 26, 3) := by decide +kernel
theorem dX1_rowAt_4 : decode cX1_rowAt 4 = .ok (.getfield 57, 3) := by decide +kernel
theorem dX1_rowAt_7 : decode cX1_rowAt 7 = .ok (.iload_n 1, 1) := by decide +kernel
theorem dX1_rowAt_8 : decode cX1_rowAt 8 = .ok (.iaload, 1) := by decide +kernel
theorem dX1_rowAt_9 : decode cX1_rowAt 9 = .ok (.istore 4, 2) := by decide +kernel
theorem dX1_rowAt_11 : decode cX1_rowAt 11 = .ok (.iload 4, 2) := by decide +kernel
theorem dX1_rowAt_13 : decode cX1_rowAt 13 = .ok (.bipush 6, 2) := by decide +kernel
theorem dX1_rowAt_15 : decode cX1_rowAt 15 = .ok (.if_icmp .ne 13, 3) := by decide +kernel
theorem dX1_rowAt_18 : decode cX1_rowAt 18 = .ok (.aload_n 0, 1) := by decide +kernel
theorem dX1_rowAt_19 : decode cX1_rowAt 19 = .ok (.getfield 26, 3) := by decide +kernel
theorem dX1_rowAt_22 : decode cX1_rowAt 22 = .ok (.getfield 87, 3) := by decide +kernel
theorem dX1_rowAt_25 : decode cX1_rowAt 25 = .ok (.iload_n 1, 1) := by decide +kernel
theorem dX1_rowAt_26 : decode cX1_rowAt 26 = .ok (.iaload, 1) := by decide +kernel
theorem dX1_rowAt_27 : decode cX1_rowAt 27 = .ok (.ireturn, 1) := by decide +kernel
theorem dX1_rowAt_28 : decode cX1_rowAt 28 = .ok (.iload 4, 2) := by decide +kernel
theorem dX1_rowAt_30 : decode cX1_rowAt 30 = .ok (.iconst 1, 1) := by decide +kernel
theorem dX1_rowAt_31 : decode cX1_rowAt 31 = .ok (.if_icmp .ne 10, 3) := by decide +kernel
theorem dX1_rowAt_34 : decode cX1_rowAt 34 = .ok (.aload_n 0, 1) := by decide +kernel
theorem dX1_rowAt_35 : decode cX1_rowAt 35 = .ok (.iload_n 1, 1) := by decide +kernel
theorem dX1_rowAt_36 : decode cX1_rowAt 36 = .ok (.iload_n 2, 1) := by decide +kernel
theorem dX1_rowAt_37 : decode cX1_rowAt 37 = .ok (.invokevirtual 90, 3) := by decide +kernel
theorem dX1_rowAt_40 : decode cX1_rowAt 40 = .ok (.ireturn, 1) := by decide +kernel
theorem dX1_rowAt_41 : decode cX1_rowAt 41 = .ok (.iconst 0, 1) := by decide +kernel
theorem dX1_rowAt_42 : decode cX1_rowAt 42 = .ok (.istore 5, 2) := by decide +kernel
theorem dX1_rowAt_44 : decode cX1_rowAt 44 = .ok (.iconst 0, 1) := by decide +kernel
theorem dX1_rowAt_45 : decode cX1_rowAt 45 = .ok (.istore 6, 2) := by decide +kernel
theorem dX1_rowAt_47 : decode cX1_rowAt 47 = .ok (.iload 6, 2) := by decide +kernel
theorem dX1_rowAt_49 : decode cX1_rowAt 49 = .ok (.iconst 3, 1) := by decide +kernel
theorem dX1_rowAt_50 : decode cX1_rowAt 50 = .ok (.if_icmp .ge 30, 3) := by decide +kernel
theorem dX1_rowAt_53 : decode cX1_rowAt 53 = .ok (.aload_n 0, 1) := by decide +kernel
theorem dX1_rowAt_54 : decode cX1_rowAt 54 = .ok (.iload_n 1, 1) := by decide +kernel
theorem dX1_rowAt_55 : decode cX1_rowAt 55 = .ok (.iload 6, 2) := by decide +kernel
theorem dX1_rowAt_57 : decode cX1_rowAt 57 = .ok (.iload_n 2, 1) := by decide +kernel
theorem dX1_rowAt_58 : decode cX1_rowAt 58 = .ok (.iload_n 3, 1) := by decide +kernel
theorem dX1_rowAt_59 : decode cX1_rowAt 59 = .ok (.invokevirtual 93, 3) := by decide +kernel
theorem dX1_rowAt_62 : decode cX1_rowAt 62 = .ok (.ifCond .eq 12, 3) := by decide +kernel
theorem dX1_rowAt_65 : decode cX1_rowAt 65 = .ok (.iload 5, 2) := by decide +kernel
theorem dX1_rowAt_67 : decode cX1_rowAt 67 = .ok (.iconst 1, 1) := by decide +kernel
theorem dX1_rowAt_68 : decode cX1_rowAt 68 = .ok (.iload 6, 2) := by decide +kernel
theorem dX1_rowAt_70 : decode cX1_rowAt 70 = .ok (.ishl, 1) := by decide +kernel
theorem dX1_rowAt_71 : decode cX1_rowAt 71 = .ok (.ior, 1) := by decide +kernel
theorem dX1_rowAt_72 : decode cX1_rowAt 72 = .ok (.istore 5, 2) := by decide +kernel
theorem dX1_rowAt_74 : decode cX1_rowAt 74 = .ok (.iinc 6 1, 3) := by decide +kernel
theorem dX1_rowAt_77 : decode cX1_rowAt 77 = .ok (.goto (-30), 3) := by decide +kernel
theorem dX1_rowAt_80 : decode cX1_rowAt 80 = .ok (.iload 5, 2) := by decide +kernel
theorem dX1_rowAt_82 : decode cX1_rowAt 82 = .ok (.ireturn, 1) := by decide +kernel
theorem dX1_bestRow_0 : decode cX1_bestRow 0 = .ok (.iload_n 2, 1) := by decide +kernel
theorem dX1_bestRow_1 : decode cX1_bestRow 1 = .ok (.bipush (-8), 2) := by decide +kernel
theorem dX1_bestRow_3 : decode cX1_bestRow 3 = .ok (.iand, 1) := by decide +kernel
theorem dX1_bestRow_4 : decode cX1_bestRow 4 = .ok (.istore_n 3, 1) := by decide +kernel
theorem dX1_bestRow_5 : decode cX1_bestRow 5 = .ok (.iconst 0, 1) := by decide +kernel
theorem dX1_bestRow_6 : decode cX1_bestRow 6 = .ok (.istore 4, 2) := by decide +kernel
theorem dX1_bestRow_8 : decode cX1_bestRow 8 = .ok (.iconst 0, 1) := by decide +kernel
theorem dX1_bestRow_9 : decode cX1_bestRow 9 = .ok (.istore 5, 2) := by decide +kernel
theorem dX1_bestRow_11 : decode cX1_bestRow 11 = .ok (.iconst 1, 1) := by decide +kernel
theorem dX1_bestRow_12 : decode cX1_bestRow 12 = .ok (.istore 6, 2) := by decide +kernel
theorem dX1_bestRow_14 : decode cX1_bestRow 14 = .ok (.iload 6, 2) := by decide +kernel
theorem dX1_bestRow_16 : decode cX1_bestRow 16 = .ok (.bipush 8, 2) := by decide +kernel
theorem dX1_bestRow_18 : decode cX1_bestRow 18 = .ok (.if_icmp .ge 35, 3) := by decide +kernel
theorem dX1_bestRow_21 : decode cX1_bestRow 21 = .ok (.aload_n 0, 1) := by decide +kernel
theorem dX1_bestRow_22 : decode cX1_bestRow 22 = .ok (.iload_n 1, 1) := by decide +kernel
theorem dX1_bestRow_23 : decode cX1_bestRow 23 = .ok (.iload_n 3, 1) := by decide +kernel
theorem dX1_bestRow_24 : decode cX1_bestRow 24 = .ok (.iload 6, 2) := by decide +kernel
theorem dX1_bestRow_26 : decode cX1_bestRow 26 = .ok (.ior, 1) := by decide +kernel
theorem dX1_bestRow_27 : decode cX1_bestRow 27 = .ok (.invokevirtual 97, 3) := by decide +kernel
theorem dX1_bestRow_30 : decode cX1_bestRow 30 = .ok (.istore 7, 2) := by decide +kernel
theorem dX1_bestRow_32 : decode cX1_bestRow 32 = .ok (.iload 7, 2) := by decide +kernel
theorem dX1_bestRow_34 : decode cX1_bestRow 34 = .ok (.iload 5, 2) := by decide +kernel
theorem dX1_bestRow_36 : decode cX1_bestRow 36 = .ok (.if_icmp .le 11, 3) := by decide +kernel
theorem dX1_bestRow_39 : decode cX1_bestRow 39 = .ok (.iload 7, 2) := by decide +kernel
theorem dX1_bestRow_41 : decode cX1_bestRow 41 = .ok (.istore 5, 2) := by decide +kernel
theorem dX1_bestRow_43 : decode cX1_bestRow 43 = .ok (.iload 6, 2) := by decide +kernel
theorem dX1_bestRow_45 : decode cX1_bestRow 45 = .ok (.istore 4, 2) := by decide +kernel
theorem dX1_bestRow_47 : decode cX1_bestRow 47 = .ok (.iinc 6 1, 3) := by decide +kernel
theorem dX1_bestRow_50 : decode cX1_bestRow 50 = .ok (.goto (-36), 3) := by decide +kernel
theorem dX1_bestRow_53 : decode cX1_bestRow 53 = .ok (.iload 4, 2) := by decide +kernel
theorem dX1_bestRow_55 : decode cX1_bestRow 55 = .ok (.ireturn, 1) := by decide +kernel
theorem dX1_would_0 : decode cX1_would 0 = .ok (.iload_n 3, 1) := by decide +kernel
theorem dX1_would_1 : decode cX1_would 1 = .ok (.iload_n 2, 1) := by decide +kernel
theorem dX1_would_2 : decode cX1_would 2 = .ok (.invokestatic 82, 3) := by decide +kernel
theorem dX1_would_5 : decode cX1_would 5 = .ok (.iconst 1, 1) := by decide +kernel
theorem dX1_would_6 : decode cX1_would 6 = .ok (.if_icmp .ne 7, 3) := by decide +kernel
theorem dX1_would_9 : decode cX1_would 9 = .ok (.iconst 1, 1) := by decide +kernel
theorem dX1_would_10 : decode cX1_would 10 = .ok (.goto 4, 3) := by decide +kernel
theorem dX1_would_13 : decode cX1_would 13 = .ok (.iconst 0, 1) := by decide +kernel
theorem dX1_would_14 : decode cX1_would 14 = .ok (.istore 5, 2) := by decide +kernel
theorem dX1_would_16 : decode cX1_would 16 = .ok (.aload_n 0, 1) := by decide +kernel
theorem dX1_would_17 : decode cX1_would 17 = .ok (.getfield 26, 3) := by decide +kernel
theorem dX1_would_20 : decode cX1_would 20 = .ok (.getfield 100, 3) := by decide +kernel
theorem dX1_would_23 : decode cX1_would 23 = .ok (.iload_n 1, 1) := by decide +kernel
theorem dX1_would_24 : decode cX1_would 24 = .ok (.iaload, 1) := by decide +kernel
theorem dX1_would_25 : decode cX1_would 25 = .ok (.istore 6, 2) := by decide +kernel
theorem dX1_would_27 : decode cX1_would 27 = .ok (.aload_n 0, 1) := by decide +kernel
theorem dX1_would_28 : decode cX1_would 28 = .ok (.getfield 26, 3) := by decide +kernel
theorem dX1_would_31 : decode cX1_would 31 = .ok (.getfield 57, 3) := by decide +kernel
theorem dX1_would_34 : decode cX1_would 34 = .ok (.iload_n 1, 1) := by decide +kernel
theorem dX1_would_35 : decode cX1_would 35 = .ok (.iaload, 1) := by decide +kernel
theorem dX1_would_36 : decode cX1_would 36 = .ok (.tableswitch 149 2 5 #[32, 56, 73, 111], 32) := by decide +kernel
theorem dX1_would_68 : decode cX1_would 68 = .ok (.iload 5, 2) := by decide +kernel
theorem dX1_would_70 : decode cX1_would 70 = .ok (.ifCond .eq 20, 3) := by decide +kernel
theorem dX1_would_73 : decode cX1_would 73 = .ok (.aload_n 0, 1) := by decide +kernel
theorem dX1_would_74 : decode cX1_would 74 = .ok (.iload_n 1, 1) := by decide +kernel
theorem dX1_would_75 : decode cX1_would 75 = .ok (.iload_n 2, 1) := by decide +kernel
theorem dX1_would_76 : decode cX1_would 76 = .ok (.iload_n 3, 1) := by decide +kernel
theorem dX1_would_77 : decode cX1_would 77 = .ok (.invokevirtual 85, 3) := by decide +kernel
theorem dX1_would_80 : decode cX1_would 80 = .ok (.iload 6, 2) := by decide +kernel
theorem dX1_would_82 : decode cX1_would 82 = .ok (.ineg, 1) := by decide +kernel
theorem dX1_would_83 : decode cX1_would 83 = .ok (.if_icmp .lt 7, 3) := by decide +kernel
theorem dX1_would_86 : decode cX1_would 86 = .ok (.iconst 1, 1) := by decide +kernel
theorem dX1_would_87 : decode cX1_would 87 = .ok (.goto 4, 3) := by decide +kernel
theorem dX1_would_90 : decode cX1_would 90 = .ok (.iconst 0, 1) := by decide +kernel
theorem dX1_would_91 : decode cX1_would 91 = .ok (.ireturn, 1) := by decide +kernel
theorem dX1_would_92 : decode cX1_would 92 = .ok (.aload_n 0, 1) := by decide +kernel
theorem dX1_would_93 : decode cX1_would 93 = .ok (.iload_n 1, 1) := by decide +kernel
theorem dX1_would_94 : decode cX1_would 94 = .ok (.iload_n 2, 1) := by decide +kernel
theorem dX1_would_95 : decode cX1_would 95 = .ok (.iload 4, 2) := by decide +kernel
theorem dX1_would_97 : decode cX1_would 97 = .ok (.invokevirtual 85, 3) := by decide +kernel
theorem dX1_would_100 : decode cX1_would 100 = .ok (.ifCond .le 7, 3) := by decide +kernel
theorem dX1_would_103 : decode cX1_would 103 = .ok (.iconst 1, 1) := by decide +kernel
theorem dX1_would_104 : decode cX1_would 104 = .ok (.goto 4, 3) := by decide +kernel
theorem dX1_would_107 : decode cX1_would 107 = .ok (.iconst 0, 1) := by decide +kernel
theorem dX1_would_108 : decode cX1_would 108 = .ok (.ireturn, 1) := by decide +kernel
theorem dX1_would_109 : decode cX1_would 109 = .ok (.iload_n 3, 1) := by decide +kernel
theorem dX1_would_110 : decode cX1_would 110 = .ok (.iconst 3, 1) := by decide +kernel
theorem dX1_would_111 : decode cX1_would 111 = .ok (.iconst 2, 1) := by decide +kernel
theorem dX1_would_112 : decode cX1_would 112 = .ok (.iload_n 2, 1) := by decide +kernel
theorem dX1_would_113 : decode cX1_would 113 = .ok (.imul, 1) := by decide +kernel
theorem dX1_would_114 : decode cX1_would 114 = .ok (.iadd, 1) := by decide +kernel
theorem dX1_would_115 : decode cX1_would 115 = .ok (.ishr, 1) := by decide +kernel
theorem dX1_would_116 : decode cX1_would 116 = .ok (.iconst 3, 1) := by decide +kernel
theorem dX1_would_117 : decode cX1_would 117 = .ok (.iand, 1) := by decide +kernel
theorem dX1_would_118 : decode cX1_would 118 = .ok (.iload 6, 2) := by decide +kernel
theorem dX1_would_120 : decode cX1_would 120 = .ok (.if_icmp .ge 21, 3) := by decide +kernel
theorem dX1_would_123 : decode cX1_would 123 = .ok (.iload 5, 2) := by decide +kernel
theorem dX1_would_125 : decode cX1_would 125 = .ok (.ifCond .eq 20, 3) := by decide +kernel
theorem dX1_would_128 : decode cX1_would 128 = .ok (.aload_n 0, 1) := by decide +kernel
theorem dX1_would_129 : decode cX1_would 129 = .ok (.iload_n 1, 1) := by decide +kernel
theorem dX1_would_130 : decode cX1_would 130 = .ok (.iload_n 2, 1) := by decide +kernel
theorem dX1_would_131 : decode cX1_would 131 = .ok (.iload_n 3, 1) := by decide +kernel
theorem dX1_would_132 : decode cX1_would 132 = .ok (.invokevirtual 85, 3) := by decide +kernel
theorem dX1_would_135 : decode cX1_would 135 = .ok (.iload 6, 2) := by decide +kernel
theorem dX1_would_137 : decode cX1_would 137 = .ok (.ineg, 1) := by decide +kernel
theorem dX1_would_138 : decode cX1_would 138 = .ok (.if_icmp .lt 7, 3) := by decide +kernel
theorem dX1_would_141 : decode cX1_would 141 = .ok (.iconst 1, 1) := by decide +kernel
theorem dX1_would_142 : decode cX1_would 142 = .ok (.goto 4, 3) := by decide +kernel
theorem dX1_would_145 : decode cX1_would 145 = .ok (.iconst 0, 1) := by decide +kernel
theorem dX1_would_146 : decode cX1_would 146 = .ok (.ireturn, 1) := by decide +kernel
theorem dX1_would_147 : decode cX1_would 147 = .ok (.iload_n 2, 1) := by decide +kernel
theorem dX1_would_148 : decode cX1_would 148 = .ok (.iload 6, 2) := by decide +kernel
theorem dX1_would_150 : decode cX1_would 150 = .ok (.iconst 3, 1) := by decide +kernel
theorem dX1_would_151 : decode cX1_would 151 = .ok (.irem, 1) := by decide +kernel
theorem dX1_would_152 : decode cX1_would 152 = .ok (.if_icmp .ne 16, 3) := by decide +kernel
theorem dX1_would_155 : decode cX1_would 155 = .ok (.iload 5, 2) := by decide +kernel
theorem dX1_would_157 : decode cX1_would 157 = .ok (.ifCond .ne 7, 3) := by decide +kernel
theorem dX1_would_160 : decode cX1_would 160 = .ok (.iconst 1, 1) := by decide +kernel
theorem dX1_would_161 : decode cX1_would 161 = .ok (.goto 23, 3) := by decide +kernel
theorem dX1_would_164 : decode cX1_would 164 = .ok (.iconst 0, 1) := by decide +kernel
theorem dX1_would_165 : decode cX1_would 165 = .ok (.goto 19, 3) := by decide +kernel
theorem dX1_would_168 : decode cX1_would 168 = .ok (.aload_n 0, 1) := by decide +kernel
theorem dX1_would_169 : decode cX1_would 169 = .ok (.iload_n 1, 1) := by decide +kernel
theorem dX1_would_170 : decode cX1_would 170 = .ok (.iload_n 2, 1) := by decide +kernel
theorem dX1_would_171 : decode cX1_would 171 = .ok (.iload 4, 2) := by decide +kernel
theorem dX1_would_173 : decode cX1_would 173 = .ok (.invokevirtual 85, 3) := by decide +kernel
theorem dX1_would_176 : decode cX1_would 176 = .ok (.ifCond .le 7, 3) := by decide +kernel
theorem dX1_would_179 : decode cX1_would 179 = .ok (.iconst 1, 1) := by decide +kernel
theorem dX1_would_180 : decode cX1_would 180 = .ok (.goto 4, 3) := by decide +kernel
theorem dX1_would_183 : decode cX1_would 183 = .ok (.iconst 0, 1) := by decide +kernel
theorem dX1_would_184 : decode cX1_would 184 = .ok (.ireturn, 1) := by decide +kernel
theorem dX1_would_185 : decode cX1_would 185 = .ok (.aload_n 0, 1) := by decide +kernel
theorem dX1_would_186 : decode cX1_would 186 = .ok (.iload_n 1, 1) := by decide +kernel
theorem dX1_would_187 : decode cX1_would 187 = .ok (.iload_n 2, 1) := by decide +kernel
theorem dX1_would_188 : decode cX1_would 188 = .ok (.iload_n 3, 1) := by decide +kernel
theorem dX1_would_189 : decode cX1_would 189 = .ok (.invokevirtual 85, 3) := by decide +kernel
theorem dX1_would_192 : decode cX1_would 192 = .ok (.ifCond .le 7, 3) := by decide +kernel
theorem dX1_would_195 : decode cX1_would 195 = .ok (.iconst 1, 1) := by decide +kernel
theorem dX1_would_196 : decode cX1_would 196 = .ok (.goto 4, 3) := by decide +kernel
theorem dX1_would_199 : decode cX1_would 199 = .ok (.iconst 0, 1) := by decide +kernel
theorem dX1_would_200 : decode cX1_would 200 = .ok (.ireturn, 1) := by decide +kernel
theorem dX1_answerOf_0 : decode cX1_answerOf 0 = .ok (.aload_n 0, 1) := by decide +kernel
theorem dX1_answerOf_1 : decode cX1_answerOf 1 = .ok (.getfield 26, 3) := by decide +kernel
theorem dX1_answerOf_4 : decode cX1_answerOf 4 = .ok (.iload_n 1, 1) := by decide +kernel
theorem dX1_answerOf_5 : decode cX1_answerOf 5 = .ok (.invokevirtual 103, 3) := by decide +kernel
theorem dX1_answerOf_8 : decode cX1_answerOf 8 = .ok (.ifCond .ne 5, 3) := by decide +kernel
theorem dX1_answerOf_11 : decode cX1_answerOf 11 = .ok (.iconst 0, 1) := by decide +kernel
theorem dX1_answerOf_12 : decode cX1_answerOf 12 = .ok (.ireturn, 1) := by decide +kernel
theorem dX1_answerOf_13 : decode cX1_answerOf 13 = .ok (.aload_n 0, 1) := by decide +kernel
theorem dX1_answerOf_14 : decode cX1_answerOf 14 = .ok (.iload_n 1, 1) := by decide +kernel
theorem dX1_answerOf_15 : decode cX1_answerOf 15 = .ok (.iload_n 2, 1) := by decide +kernel
theorem dX1_answerOf_16 : decode cX1_answerOf 16 = .ok (.invokevirtual 53, 3) := by decide +kernel
theorem dX1_answerOf_19 : decode cX1_answerOf 19 = .ok (.istore_n 3, 1) := by decide +kernel
theorem dX1_answerOf_20 : decode cX1_answerOf 20 = .ok (.aload_n 0, 1) := by decide +kernel
theorem dX1_answerOf_21 : decode cX1_answerOf 21 = .ok (.getfield 23, 3) := by decide +kernel
theorem dX1_answerOf_24 : decode cX1_answerOf 24 = .ok (.iload_n 1, 1) := by decide +kernel
theorem dX1_answerOf_25 : decode cX1_answerOf 25 = .ok (.aaload, 1) := by decide +kernel
theorem dX1_answerOf_26 : decode cX1_answerOf 26 = .ok (.iload_n 3, 1) := by decide +kernel
theorem dX1_answerOf_27 : decode cX1_answerOf 27 = .ok (.bipush 8, 2) := by decide +kernel
theorem dX1_answerOf_29 : decode cX1_answerOf 29 = .ok (.idiv, 1) := by decide +kernel
theorem dX1_answerOf_30 : decode cX1_answerOf 30 = .ok (.iaload, 1) := by decide +kernel
theorem dX1_answerOf_31 : decode cX1_answerOf 31 = .ok (.iconst 3, 1) := by decide +kernel
theorem dX1_answerOf_32 : decode cX1_answerOf 32 = .ok (.iload_n 3, 1) := by decide +kernel
theorem dX1_answerOf_33 : decode cX1_answerOf 33 = .ok (.bipush 7, 2) := by decide +kernel
theorem dX1_answerOf_35 : decode cX1_answerOf 35 = .ok (.iand, 1) := by decide +kernel
theorem dX1_answerOf_36 : decode cX1_answerOf 36 = .ok (.imul, 1) := by decide +kernel
theorem dX1_answerOf_37 : decode cX1_answerOf 37 = .ok (.ishr, 1) := by decide +kernel
theorem dX1_answerOf_38 : decode cX1_answerOf 38 = .ok (.bipush 7, 2) := by decide +kernel
theorem dX1_answerOf_40 : decode cX1_answerOf 40 = .ok (.iand, 1) := by decide +kernel
theorem dX1_answerOf_41 : decode cX1_answerOf 41 = .ok (.ireturn, 1) := by decide +kernel
theorem dX1_answer_0 : decode cX1_answer 0 = .ok (.iconst 0, 1) := by decide +kernel
theorem dX1_answer_1 : decode cX1_answer 1 = .ok (.istore_n 2, 1) := by decide +kernel
theorem dX1_answer_2 : decode cX1_answer 2 = .ok (.iconst 0, 1) := by decide +kernel
theorem dX1_answer_3 : decode cX1_answer 3 = .ok (.istore_n 3, 1) := by decide +kernel
theorem dX1_answer_4 : decode cX1_answer 4 = .ok (.iload_n 3, 1) := by decide +kernel
theorem dX1_answer_5 : decode cX1_answer 5 = .ok (.aload_n 0, 1) := by decide +kernel
theorem dX1_answer_6 : decode cX1_answer 6 = .ok (.getfield 26, 3) := by decide +kernel
theorem dX1_answer_9 : decode cX1_answer 9 = .ok (.getfield 40, 3) := by decide +kernel
theorem dX1_answer_12 : decode cX1_answer 12 = .ok (.if_icmp .ge 22, 3) := by decide +kernel
theorem dX1_answer_15 : decode cX1_answer 15 = .ok (.iload_n 2, 1) := by decide +kernel
theorem dX1_answer_16 : decode cX1_answer 16 = .ok (.aload_n 0, 1) := by decide +kernel
theorem dX1_answer_17 : decode cX1_answer 17 = .ok (.iload_n 3, 1) := by decide +kernel
theorem dX1_answer_18 : decode cX1_answer 18 = .ok (.iload_n 1, 1) := by decide +kernel
theorem dX1_answer_19 : decode cX1_answer 19 = .ok (.invokevirtual 107, 3) := by decide +kernel
theorem dX1_answer_22 : decode cX1_answer 22 = .ok (.iconst 3, 1) := by decide +kernel
theorem dX1_answer_23 : decode cX1_answer 23 = .ok (.iload_n 3, 1) := by decide +kernel
theorem dX1_answer_24 : decode cX1_answer 24 = .ok (.imul, 1) := by decide +kernel
theorem dX1_answer_25 : decode cX1_answer 25 = .ok (.ishl, 1) := by decide +kernel
theorem dX1_answer_26 : decode cX1_answer 26 = .ok (.ior, 1) := by decide +kernel
theorem dX1_answer_27 : decode cX1_answer 27 = .ok (.istore_n 2, 1) := by decide +kernel
theorem dX1_answer_28 : decode cX1_answer 28 = .ok (.iinc 3 1, 3) := by decide +kernel
theorem dX1_answer_31 : decode cX1_answer 31 = .ok (.goto (-27), 3) := by decide +kernel
theorem dX1_answer_34 : decode cX1_answer 34 = .ok (.iload_n 2, 1) := by decide +kernel
theorem dX1_answer_35 : decode cX1_answer 35 = .ok (.ireturn, 1) := by decide +kernel
theorem dX1_firstOtherwise_0 : decode cX1_firstOtherwise 0 = .ok (.iconst 0, 1) := by decide +kernel
theorem dX1_firstOtherwise_1 : decode cX1_firstOtherwise 1 = .ok (.istore_n 2, 1) := by decide +kernel
theorem dX1_firstOtherwise_2 : decode cX1_firstOtherwise 2 = .ok (.iload_n 2, 1) := by decide +kernel
theorem dX1_firstOtherwise_3 : decode cX1_firstOtherwise 3 = .ok (.aload_n 0, 1) := by decide +kernel
theorem dX1_firstOtherwise_4 : decode cX1_firstOtherwise 4 = .ok (.getfield 26, 3) := by decide +kernel
theorem dX1_firstOtherwise_7 : decode cX1_firstOtherwise 7 = .ok (.getfield 40, 3) := by decide +kernel
theorem dX1_firstOtherwise_10 : decode cX1_firstOtherwise 10 = .ok (.if_icmp .ge 59, 3) := by decide +kernel
theorem dX1_firstOtherwise_13 : decode cX1_firstOtherwise 13 = .ok (.aload_n 0, 1) := by decide +kernel
theorem dX1_firstOtherwise_14 : decode cX1_firstOtherwise 14 = .ok (.iload_n 2, 1) := by decide +kernel
theorem dX1_firstOtherwise_15 : decode cX1_firstOtherwise 15 = .ok (.iload_n 1, 1) := by decide +kernel
theorem dX1_firstOtherwise_16 : decode cX1_firstOtherwise 16 = .ok (.invokevirtual 107, 3) := by decide +kernel
theorem dX1_firstOtherwise_19 : decode cX1_firstOtherwise 19 = .ok (.iload_n 2, 1) := by decide +kernel
theorem dX1_firstOtherwise_20 : decode cX1_firstOtherwise 20 = .ok (.iload_n 1, 1) := by decide +kernel
theorem dX1_firstOtherwise_21 : decode cX1_firstOtherwise 21 = .ok (.invokestatic 70, 3) := by decide +kernel
theorem dX1_firstOtherwise_24 : decode cX1_firstOtherwise 24 = .ok (.ixor, 1) := by decide +kernel
theorem dX1_firstOtherwise_25 : decode cX1_firstOtherwise 25 = .ok (.istore_n 3, 1) := by decide +kernel
theorem dX1_firstOtherwise_26 : decode cX1_firstOtherwise 26 = .ok (.iconst 0, 1) := by decide +kernel
theorem dX1_firstOtherwise_27 : decode cX1_firstOtherwise 27 = .ok (.istore 4, 2) := by decide +kernel
theorem dX1_firstOtherwise_29 : decode cX1_firstOtherwise 29 = .ok (.iload 4, 2) := by decide +kernel
theorem dX1_firstOtherwise_31 : decode cX1_firstOtherwise 31 = .ok (.iconst 3, 1) := by decide +kernel
theorem dX1_firstOtherwise_32 : decode cX1_firstOtherwise 32 = .ok (.if_icmp .ge 31, 3) := by decide +kernel
theorem dX1_firstOtherwise_35 : decode cX1_firstOtherwise 35 = .ok (.iload_n 3, 1) := by decide +kernel
theorem dX1_firstOtherwise_36 : decode cX1_firstOtherwise 36 = .ok (.ifCond .eq 27, 3) := by decide +kernel
theorem dX1_firstOtherwise_39 : decode cX1_firstOtherwise 39 = .ok (.iload_n 3, 1) := by decide +kernel
theorem dX1_firstOtherwise_40 : decode cX1_firstOtherwise 40 = .ok (.iload 4, 2) := by decide +kernel
theorem dX1_firstOtherwise_42 : decode cX1_firstOtherwise 42 = .ok (.invokestatic 82, 3) := by decide +kernel
theorem dX1_firstOtherwise_45 : decode cX1_firstOtherwise 45 = .ok (.iconst 1, 1) := by decide +kernel
theorem dX1_firstOtherwise_46 : decode cX1_firstOtherwise 46 = .ok (.if_icmp .ne 11, 3) := by decide +kernel
theorem dX1_firstOtherwise_49 : decode cX1_firstOtherwise 49 = .ok (.bipush 10, 2) := by decide +kernel
theorem dX1_firstOtherwise_51 : decode cX1_firstOtherwise 51 = .ok (.iload_n 2, 1) := by decide +kernel
theorem dX1_firstOtherwise_52 : decode cX1_firstOtherwise 52 = .ok (.imul, 1) := by decide +kernel
theorem dX1_firstOtherwise_53 : decode cX1_firstOtherwise 53 = .ok (.iload 4, 2) := by decide +kernel
theorem dX1_firstOtherwise_55 : decode cX1_firstOtherwise 55 = .ok (.iadd, 1) := by decide +kernel
theorem dX1_firstOtherwise_56 : decode cX1_firstOtherwise 56 = .ok (.ireturn, 1) := by decide +kernel
theorem dX1_firstOtherwise_57 : decode cX1_firstOtherwise 57 = .ok (.iinc 4 1, 3) := by decide +kernel
theorem dX1_firstOtherwise_60 : decode cX1_firstOtherwise 60 = .ok (.goto (-31), 3) := by decide +kernel
theorem dX1_firstOtherwise_63 : decode cX1_firstOtherwise 63 = .ok (.iinc 2 1, 3) := by decide +kernel
theorem dX1_firstOtherwise_66 : decode cX1_firstOtherwise 66 = .ok (.goto (-64), 3) := by decide +kernel
theorem dX1_firstOtherwise_69 : decode cX1_firstOtherwise 69 = .ok (.bipush (-5), 2) := by decide +kernel
theorem dX1_firstOtherwise_71 : decode cX1_firstOtherwise 71 = .ok (.ireturn, 1) := by decide +kernel
theorem dX1_stands_0 : decode cX1_stands 0 = .ok (.aload_n 0, 1) := by decide +kernel
theorem dX1_stands_1 : decode cX1_stands 1 = .ok (.iload_n 1, 1) := by decide +kernel
theorem dX1_stands_2 : decode cX1_stands 2 = .ok (.invokevirtual 110, 3) := by decide +kernel
theorem dX1_stands_5 : decode cX1_stands 5 = .ok (.bipush (-5), 2) := by decide +kernel
theorem dX1_stands_7 : decode cX1_stands 7 = .ok (.if_icmp .ne 7, 3) := by decide +kernel
theorem dX1_stands_10 : decode cX1_stands 10 = .ok (.iconst 1, 1) := by decide +kernel
theorem dX1_stands_11 : decode cX1_stands 11 = .ok (.goto 4, 3) := by decide +kernel
theorem dX1_stands_14 : decode cX1_stands 14 = .ok (.iconst 0, 1) := by decide +kernel
theorem dX1_stands_15 : decode cX1_stands 15 = .ok (.ireturn, 1) := by decide +kernel
theorem dX1_gainOfAll_0 : decode cX1_gainOfAll 0 = .ok (.iconst 0, 1) := by decide +kernel
theorem dX1_gainOfAll_1 : decode cX1_gainOfAll 1 = .ok (.istore_n 2, 1) := by decide +kernel
theorem dX1_gainOfAll_2 : decode cX1_gainOfAll 2 = .ok (.iconst 0, 1) := by decide +kernel
theorem dX1_gainOfAll_3 : decode cX1_gainOfAll 3 = .ok (.istore_n 3, 1) := by decide +kernel
theorem dX1_gainOfAll_4 : decode cX1_gainOfAll 4 = .ok (.iload_n 3, 1) := by decide +kernel
theorem dX1_gainOfAll_5 : decode cX1_gainOfAll 5 = .ok (.aload_n 0, 1) := by decide +kernel
theorem dX1_gainOfAll_6 : decode cX1_gainOfAll 6 = .ok (.getfield 26, 3) := by decide +kernel
theorem dX1_gainOfAll_9 : decode cX1_gainOfAll 9 = .ok (.getfield 40, 3) := by decide +kernel
theorem dX1_gainOfAll_12 : decode cX1_gainOfAll 12 = .ok (.if_icmp .ge 23, 3) := by decide +kernel
theorem dX1_gainOfAll_15 : decode cX1_gainOfAll 15 = .ok (.iload_n 2, 1) := by decide +kernel
theorem dX1_gainOfAll_16 : decode cX1_gainOfAll 16 = .ok (.aload_n 0, 1) := by decide +kernel
theorem dX1_gainOfAll_17 : decode cX1_gainOfAll 17 = .ok (.iload_n 3, 1) := by decide +kernel
theorem dX1_gainOfAll_18 : decode cX1_gainOfAll 18 = .ok (.aload_n 0, 1) := by decide +kernel
theorem dX1_gainOfAll_19 : decode cX1_gainOfAll 19 = .ok (.iload_n 3, 1) := by decide +kernel
theorem dX1_gainOfAll_20 : decode cX1_gainOfAll 20 = .ok (.iload_n 1, 1) := by decide +kernel
theorem dX1_gainOfAll_21 : decode cX1_gainOfAll 21 = .ok (.invokevirtual 53, 3) := by decide +kernel
theorem dX1_gainOfAll_24 : decode cX1_gainOfAll 24 = .ok (.invokevirtual 97, 3) := by decide +kernel
theorem dX1_gainOfAll_27 : decode cX1_gainOfAll 27 = .ok (.iadd, 1) := by decide +kernel
theorem dX1_gainOfAll_28 : decode cX1_gainOfAll 28 = .ok (.istore_n 2, 1) := by decide +kernel
theorem dX1_gainOfAll_29 : decode cX1_gainOfAll 29 = .ok (.iinc 3 1, 3) := by decide +kernel
theorem dX1_gainOfAll_32 : decode cX1_gainOfAll 32 = .ok (.goto (-28), 3) := by decide +kernel
theorem dX1_gainOfAll_35 : decode cX1_gainOfAll 35 = .ok (.iload_n 2, 1) := by decide +kernel
theorem dX1_gainOfAll_36 : decode cX1_gainOfAll 36 = .ok (.ireturn, 1) := by decide +kernel
theorem dX1_search_0 : decode cX1_search 0 = .ok (.aload_n 0, 1) := by decide +kernel
theorem dX1_search_1 : decode cX1_search 1 = .ok (.getfield 34, 3) := by decide +kernel
theorem dX1_search_4 : decode cX1_search 4 = .ok (.ifCond .eq 4, 3) := by decide +kernel
theorem dX1_search_7 : decode cX1_search 7 = .ok (.return_, 1) := by decide +kernel
theorem dX1_search_8 : decode cX1_search 8 = .ok (.aload_n 0, 1) := by decide +kernel
theorem dX1_search_9 : decode cX1_search 9 = .ok (.iconst 0, 1) := by decide +kernel
theorem dX1_search_10 : decode cX1_search 10 = .ok (.putfield 113, 3) := by decide +kernel
theorem dX1_search_13 : decode cX1_search 13 = .ok (.aload_n 0, 1) := by decide +kernel
theorem dX1_search_14 : decode cX1_search 14 = .ok (.bipush (-5), 2) := by decide +kernel
theorem dX1_search_16 : decode cX1_search 16 = .ok (.putfield 116, 3) := by decide +kernel
theorem dX1_search_19 : decode cX1_search 19 = .ok (.aload_n 0, 1) := by decide +kernel
theorem dX1_search_20 : decode cX1_search 20 = .ok (.bipush (-5), 2) := by decide +kernel
theorem dX1_search_22 : decode cX1_search 22 = .ok (.putfield 119, 3) := by decide +kernel
theorem dX1_search_25 : decode cX1_search 25 = .ok (.aload_n 0, 1) := by decide +kernel
theorem dX1_search_26 : decode cX1_search 26 = .ok (.bipush (-5), 2) := by decide +kernel
theorem dX1_search_28 : decode cX1_search 28 = .ok (.putfield 122, 3) := by decide +kernel
theorem dX1_search_31 : decode cX1_search 31 = .ok (.aload_n 0, 1) := by decide +kernel
theorem dX1_search_32 : decode cX1_search 32 = .ok (.getfield 26, 3) := by decide +kernel
theorem dX1_search_35 : decode cX1_search 35 = .ok (.invokevirtual 125, 3) := by decide +kernel
theorem dX1_search_38 : decode cX1_search 38 = .ok (.istore_n 1, 1) := by decide +kernel
theorem dX1_search_39 : decode cX1_search 39 = .ok (.iconst 0, 1) := by decide +kernel
theorem dX1_search_40 : decode cX1_search 40 = .ok (.istore_n 2, 1) := by decide +kernel
theorem dX1_search_41 : decode cX1_search 41 = .ok (.iload_n 2, 1) := by decide +kernel
theorem dX1_search_42 : decode cX1_search 42 = .ok (.iload_n 1, 1) := by decide +kernel
theorem dX1_search_43 : decode cX1_search 43 = .ok (.if_icmp .ge 22, 3) := by decide +kernel
theorem dX1_search_46 : decode cX1_search 46 = .ok (.aload_n 0, 1) := by decide +kernel
theorem dX1_search_47 : decode cX1_search 47 = .ok (.iload_n 2, 1) := by decide +kernel
theorem dX1_search_48 : decode cX1_search 48 = .ok (.invokevirtual 129, 3) := by decide +kernel
theorem dX1_search_51 : decode cX1_search 51 = .ok (.ifCond .eq 8, 3) := by decide +kernel
theorem dX1_search_54 : decode cX1_search 54 = .ok (.aload_n 0, 1) := by decide +kernel
theorem dX1_search_55 : decode cX1_search 55 = .ok (.iload_n 2, 1) := by decide +kernel
theorem dX1_search_56 : decode cX1_search 56 = .ok (.invokevirtual 132, 3) := by decide +kernel
theorem dX1_search_59 : decode cX1_search 59 = .ok (.iinc 2 1, 3) := by decide +kernel
theorem dX1_search_62 : decode cX1_search 62 = .ok (.goto (-21), 3) := by decide +kernel
theorem dX1_search_65 : decode cX1_search 65 = .ok (.aload_n 0, 1) := by decide +kernel
theorem dX1_search_66 : decode cX1_search 66 = .ok (.iconst 1, 1) := by decide +kernel
theorem dX1_search_67 : decode cX1_search 67 = .ok (.putfield 34, 3) := by decide +kernel
theorem dX1_search_70 : decode cX1_search 70 = .ok (.return_, 1) := by decide +kernel
theorem dX1_addStanding_0 : decode cX1_addStanding 0 = .ok (.aload_n 0, 1) := by decide +kernel
theorem dX1_addStanding_1 : decode cX1_addStanding 1 = .ok (.iload_n 1, 1) := by decide +kernel
theorem dX1_addStanding_2 : decode cX1_addStanding 2 = .ok (.invokevirtual 136, 3) := by decide +kernel
theorem dX1_addStanding_5 : decode cX1_addStanding 5 = .ok (.istore_n 2, 1) := by decide +kernel
theorem dX1_addStanding_6 : decode cX1_addStanding 6 = .ok (.aload_n 0, 1) := by decide +kernel
theorem dX1_addStanding_7 : decode cX1_addStanding 7 = .ok (.getfield 113, 3) := by decide +kernel
theorem dX1_addStanding_10 : decode cX1_addStanding 10 = .ok (.ifCond .eq 11, 3) := by decide +kernel
theorem dX1_addStanding_13 : decode cX1_addStanding 13 = .ok (.iload_n 2, 1) := by decide +kernel
theorem dX1_addStanding_14 : decode cX1_addStanding 14 = .ok (.aload_n 0, 1) := by decide +kernel
theorem dX1_addStanding_15 : decode cX1_addStanding 15 = .ok (.getfield 139, 3) := by decide +kernel
theorem dX1_addStanding_18 : decode cX1_addStanding 18 = .ok (.if_icmp .le 13, 3) := by decide +kernel
theorem dX1_addStanding_21 : decode cX1_addStanding 21 = .ok (.aload_n 0, 1) := by decide +kernel
theorem dX1_addStanding_22 : decode cX1_addStanding 22 = .ok (.iload_n 1, 1) := by decide +kernel
theorem dX1_addStanding_23 : decode cX1_addStanding 23 = .ok (.putfield 122, 3) := by decide +kernel
theorem dX1_addStanding_26 : decode cX1_addStanding 26 = .ok (.aload_n 0, 1) := by decide +kernel
theorem dX1_addStanding_27 : decode cX1_addStanding 27 = .ok (.iload_n 2, 1) := by decide +kernel
theorem dX1_addStanding_28 : decode cX1_addStanding 28 = .ok (.putfield 139, 3) := by decide +kernel
theorem dX1_addStanding_31 : decode cX1_addStanding 31 = .ok (.aload_n 0, 1) := by decide +kernel
theorem dX1_addStanding_32 : decode cX1_addStanding 32 = .ok (.getfield 113, 3) := by decide +kernel
theorem dX1_addStanding_35 : decode cX1_addStanding 35 = .ok (.ifCond .ne 8, 3) := by decide +kernel
theorem dX1_addStanding_38 : decode cX1_addStanding 38 = .ok (.aload_n 0, 1) := by decide +kernel
theorem dX1_addStanding_39 : decode cX1_addStanding 39 = .ok (.iload_n 1, 1) := by decide +kernel
theorem dX1_addStanding_40 : decode cX1_addStanding 40 = .ok (.putfield 116, 3) := by decide +kernel
theorem dX1_addStanding_43 : decode cX1_addStanding 43 = .ok (.aload_n 0, 1) := by decide +kernel
theorem dX1_addStanding_44 : decode cX1_addStanding 44 = .ok (.iload_n 1, 1) := by decide +kernel
theorem dX1_addStanding_45 : decode cX1_addStanding 45 = .ok (.putfield 119, 3) := by decide +kernel
theorem dX1_addStanding_48 : decode cX1_addStanding 48 = .ok (.aload_n 0, 1) := by decide +kernel
theorem dX1_addStanding_49 : decode cX1_addStanding 49 = .ok (.dup, 1) := by decide +kernel
theorem dX1_addStanding_50 : decode cX1_addStanding 50 = .ok (.getfield 113, 3) := by decide +kernel
theorem dX1_addStanding_53 : decode cX1_addStanding 53 = .ok (.iconst 1, 1) := by decide +kernel
theorem dX1_addStanding_54 : decode cX1_addStanding 54 = .ok (.iadd, 1) := by decide +kernel
theorem dX1_addStanding_55 : decode cX1_addStanding 55 = .ok (.putfield 113, 3) := by decide +kernel
theorem dX1_addStanding_58 : decode cX1_addStanding 58 = .ok (.return_, 1) := by decide +kernel
theorem dX1_comingDay_0 : decode cX1_comingDay 0 = .ok (.aload_n 0, 1) := by decide +kernel
theorem dX1_comingDay_1 : decode cX1_comingDay 1 = .ok (.getfield 113, 3) := by decide +kernel
theorem dX1_comingDay_4 : decode cX1_comingDay 4 = .ok (.ifCond .le 10, 3) := by decide +kernel
theorem dX1_comingDay_7 : decode cX1_comingDay 7 = .ok (.aload_n 0, 1) := by decide +kernel
theorem dX1_comingDay_8 : decode cX1_comingDay 8 = .ok (.getfield 122, 3) := by decide +kernel
theorem dX1_comingDay_11 : decode cX1_comingDay 11 = .ok (.goto 14, 3) := by decide +kernel
theorem dX1_comingDay_14 : decode cX1_comingDay 14 = .ok (.aload_n 0, 1) := by decide +kernel
theorem dX1_comingDay_15 : decode cX1_comingDay 15 = .ok (.aload_n 0, 1) := by decide +kernel
theorem dX1_comingDay_16 : decode cX1_comingDay 16 = .ok (.getfield 26, 3) := by decide +kernel
theorem dX1_comingDay_19 : decode cX1_comingDay 19 = .ok (.getfield 50, 3) := by decide +kernel
theorem dX1_comingDay_22 : decode cX1_comingDay 22 = .ok (.invokevirtual 142, 3) := by decide +kernel
theorem dX1_comingDay_25 : decode cX1_comingDay 25 = .ok (.ireturn, 1) := by decide +kernel
theorem dX1_stoodWith_0 : decode cX1_stoodWith 0 = .ok (.iconst 0, 1) := by decide +kernel
theorem dX1_stoodWith_1 : decode cX1_stoodWith 1 = .ok (.istore_n 2, 1) := by decide +kernel
theorem dX1_stoodWith_2 : decode cX1_stoodWith 2 = .ok (.aload_n 0, 1) := by decide +kernel
theorem dX1_stoodWith_3 : decode cX1_stoodWith 3 = .ok (.getfield 26, 3) := by decide +kernel
theorem dX1_stoodWith_6 : decode cX1_stoodWith 6 = .ok (.invokevirtual 125, 3) := by decide +kernel
theorem dX1_stoodWith_9 : decode cX1_stoodWith 9 = .ok (.istore_n 3, 1) := by decide +kernel
theorem dX1_stoodWith_10 : decode cX1_stoodWith 10 = .ok (.iconst 0, 1) := by decide +kernel
theorem dX1_stoodWith_11 : decode cX1_stoodWith 11 = .ok (.istore 4, 2) := by decide +kernel
theorem dX1_stoodWith_13 : decode cX1_stoodWith 13 = .ok (.iload 4, 2) := by decide +kernel
theorem dX1_stoodWith_15 : decode cX1_stoodWith 15 = .ok (.iload_n 3, 1) := by decide +kernel
theorem dX1_stoodWith_16 : decode cX1_stoodWith 16 = .ok (.if_icmp .ge 31, 3) := by decide +kernel
theorem dX1_stoodWith_19 : decode cX1_stoodWith 19 = .ok (.iload 4, 2) := by decide +kernel
theorem dX1_stoodWith_21 : decode cX1_stoodWith 21 = .ok (.iload_n 1, 1) := by decide +kernel
theorem dX1_stoodWith_22 : decode cX1_stoodWith 22 = .ok (.invokestatic 82, 3) := by decide +kernel
theorem dX1_stoodWith_25 : decode cX1_stoodWith 25 = .ok (.iconst 1, 1) := by decide +kernel
theorem dX1_stoodWith_26 : decode cX1_stoodWith 26 = .ok (.if_icmp .ne 15, 3) := by decide +kernel
theorem dX1_stoodWith_29 : decode cX1_stoodWith 29 = .ok (.aload_n 0, 1) := by decide +kernel
theorem dX1_stoodWith_30 : decode cX1_stoodWith 30 = .ok (.iload 4, 2) := by decide +kernel
theorem dX1_stoodWith_32 : decode cX1_stoodWith 32 = .ok (.invokevirtual 129, 3) := by decide +kernel
theorem dX1_stoodWith_35 : decode cX1_stoodWith 35 = .ok (.ifCond .eq 6, 3) := by decide +kernel
theorem dX1_stoodWith_38 : decode cX1_stoodWith 38 = .ok (.iinc 2 1, 3) := by decide +kernel
theorem dX1_stoodWith_41 : decode cX1_stoodWith 41 = .ok (.iinc 4 1, 3) := by decide +kernel
theorem dX1_stoodWith_44 : decode cX1_stoodWith 44 = .ok (.goto (-31), 3) := by decide +kernel
theorem dX1_stoodWith_47 : decode cX1_stoodWith 47 = .ok (.iload_n 2, 1) := by decide +kernel
theorem dX1_stoodWith_48 : decode cX1_stoodWith 48 = .ok (.ireturn, 1) := by decide +kernel
theorem dX2_init_0 : decode cX2_init 0 = .ok (.aload_n 0, 1) := by decide +kernel
theorem dX2_init_1 : decode cX2_init 1 = .ok (.invokespecial 3, 3) := by decide +kernel
theorem dX2_init_4 : decode cX2_init 4 = .ok (.aload_n 0, 1) := by decide +kernel
theorem dX2_init_5 : decode cX2_init 5 = .ok (.iconst 4, 1) := by decide +kernel
theorem dX2_init_6 : decode cX2_init 6 = .ok (.newarray .int, 2) := by decide +kernel
theorem dX2_init_8 : decode cX2_init 8 = .ok (.putfield 9, 3) := by decide +kernel
theorem dX2_init_11 : decode cX2_init 11 = .ok (.aload_n 0, 1) := by decide +kernel
theorem dX2_init_12 : decode cX2_init 12 = .ok (.iconst 4, 1) := by decide +kernel
theorem dX2_init_13 : decode cX2_init 13 = .ok (.newarray .int, 2) := by decide +kernel
theorem dX2_init_15 : decode cX2_init 15 = .ok (.putfield 15, 3) := by decide +kernel
theorem dX2_init_18 : decode cX2_init 18 = .ok (.aload_n 0, 1) := by decide +kernel
theorem dX2_init_19 : decode cX2_init 19 = .ok (.iconst 4, 1) := by decide +kernel
theorem dX2_init_20 : decode cX2_init 20 = .ok (.newarray .int, 2) := by decide +kernel
theorem dX2_init_22 : decode cX2_init 22 = .ok (.putfield 18, 3) := by decide +kernel
theorem dX2_init_25 : decode cX2_init 25 = .ok (.return_, 1) := by decide +kernel
theorem dX2_has_0 : decode cX2_has 0 = .ok (.iload_n 1, 1) := by decide +kernel
theorem dX2_has_1 : decode cX2_has 1 = .ok (.ifCond .lt 20, 3) := by decide +kernel
theorem dX2_has_4 : decode cX2_has 4 = .ok (.iload_n 1, 1) := by decide +kernel
theorem dX2_has_5 : decode cX2_has 5 = .ok (.aload_n 0, 1) := by decide +kernel
theorem dX2_has_6 : decode cX2_has 6 = .ok (.getfield 21, 3) := by decide +kernel
theorem dX2_has_9 : decode cX2_has 9 = .ok (.if_icmp .ge 12, 3) := by decide +kernel
theorem dX2_has_12 : decode cX2_has 12 = .ok (.iload_n 1, 1) := by decide +kernel
theorem dX2_has_13 : decode cX2_has 13 = .ok (.iconst 4, 1) := by decide +kernel
theorem dX2_has_14 : decode cX2_has 14 = .ok (.if_icmp .ge 7, 3) := by decide +kernel
theorem dX2_has_17 : decode cX2_has 17 = .ok (.iconst 1, 1) := by decide +kernel
theorem dX2_has_18 : decode cX2_has 18 = .ok (.goto 4, 3) := by decide +kernel
theorem dX2_has_21 : decode cX2_has 21 = .ok (.iconst 0, 1) := by decide +kernel
theorem dX2_has_22 : decode cX2_has 22 = .ok (.ireturn, 1) := by decide +kernel
theorem dX2_allDays_0 : decode cX2_allDays 0 = .ok (.iconst 1, 1) := by decide +kernel
theorem dX2_allDays_1 : decode cX2_allDays 1 = .ok (.iconst 3, 1) := by decide +kernel
theorem dX2_allDays_2 : decode cX2_allDays 2 = .ok (.aload_n 0, 1) := by decide +kernel
theorem dX2_allDays_3 : decode cX2_allDays 3 = .ok (.getfield 21, 3) := by decide +kernel
theorem dX2_allDays_6 : decode cX2_allDays 6 = .ok (.imul, 1) := by decide +kernel
theorem dX2_allDays_7 : decode cX2_allDays 7 = .ok (.ishl, 1) := by decide +kernel
theorem dX2_allDays_8 : decode cX2_allDays 8 = .ok (.ireturn, 1) := by decide +kernel
theorem dX2_isDay_0 : decode cX2_isDay 0 = .ok (.iload_n 1, 1) := by decide +kernel
theorem dX2_isDay_1 : decode cX2_isDay 1 = .ok (.ifCond .lt 15, 3) := by decide +kernel
theorem dX2_isDay_4 : decode cX2_isDay 4 = .ok (.iload_n 1, 1) := by decide +kernel
theorem dX2_isDay_5 : decode cX2_isDay 5 = .ok (.aload_n 0, 1) := by decide +kernel
theorem dX2_isDay_6 : decode cX2_isDay 6 = .ok (.invokevirtual 25, 3) := by decide +kernel
theorem dX2_isDay_9 : decode cX2_isDay 9 = .ok (.if_icmp .ge 7, 3) := by decide +kernel
theorem dX2_isDay_12 : decode cX2_isDay 12 = .ok (.iconst 1, 1) := by decide +kernel
theorem dX2_isDay_13 : decode cX2_isDay 13 = .ok (.goto 4, 3) := by decide +kernel
theorem dX2_isDay_16 : decode cX2_isDay 16 = .ok (.iconst 0, 1) := by decide +kernel
theorem dX2_isDay_17 : decode cX2_isDay 17 = .ok (.ireturn, 1) := by decide +kernel
theorem dX2_join_0 : decode cX2_join 0 = .ok (.aload_n 0, 1) := by decide +kernel
theorem dX2_join_1 : decode cX2_join 1 = .ok (.getfield 21, 3) := by decide +kernel
theorem dX2_join_4 : decode cX2_join 4 = .ok (.ifCond .lt 11, 3) := by decide +kernel
theorem dX2_join_7 : decode cX2_join 7 = .ok (.aload_n 0, 1) := by decide +kernel
theorem dX2_join_8 : decode cX2_join 8 = .ok (.getfield 21, 3) := by decide +kernel
theorem dX2_join_11 : decode cX2_join 11 = .ok (.iconst 4, 1) := by decide +kernel
theorem dX2_join_12 : decode cX2_join 12 = .ok (.if_icmp .lt 6, 3) := by decide +kernel
theorem dX2_join_15 : decode cX2_join 15 = .ok (.bipush (-4), 2) := by decide +kernel
theorem dX2_join_17 : decode cX2_join 17 = .ok (.ireturn, 1) := by decide +kernel
theorem dX2_join_18 : decode cX2_join 18 = .ok (.aload_n 0, 1) := by decide +kernel
theorem dX2_join_19 : decode cX2_join 19 = .ok (.getfield 9, 3) := by decide +kernel
theorem dX2_join_22 : decode cX2_join 22 = .ok (.aload_n 0, 1) := by decide +kernel
theorem dX2_join_23 : decode cX2_join 23 = .ok (.getfield 21, 3) := by decide +kernel
theorem dX2_join_26 : decode cX2_join 26 = .ok (.iload_n 1, 1) := by decide +kernel
theorem dX2_join_27 : decode cX2_join 27 = .ok (.iastore, 1) := by decide +kernel
theorem dX2_join_28 : decode cX2_join 28 = .ok (.aload_n 0, 1) := by decide +kernel
theorem dX2_join_29 : decode cX2_join 29 = .ok (.getfield 15, 3) := by decide +kernel
theorem dX2_join_32 : decode cX2_join 32 = .ok (.aload_n 0, 1) := by decide +kernel
theorem dX2_join_33 : decode cX2_join 33 = .ok (.getfield 21, 3) := by decide +kernel
theorem dX2_join_36 : decode cX2_join 36 = .ok (.iload_n 2, 1) := by decide +kernel
theorem dX2_join_37 : decode cX2_join 37 = .ok (.iastore, 1) := by decide +kernel
theorem dX2_join_38 : decode cX2_join 38 = .ok (.aload_n 0, 1) := by decide +kernel
theorem dX2_join_39 : decode cX2_join 39 = .ok (.getfield 18, 3) := by decide +kernel
theorem dX2_join_42 : decode cX2_join 42 = .ok (.aload_n 0, 1) := by decide +kernel
theorem dX2_join_43 : decode cX2_join 43 = .ok (.getfield 21, 3) := by decide +kernel
theorem dX2_join_46 : decode cX2_join 46 = .ok (.iconst 0, 1) := by decide +kernel
theorem dX2_join_47 : decode cX2_join 47 = .ok (.iastore, 1) := by decide +kernel
theorem dX2_join_48 : decode cX2_join 48 = .ok (.aload_n 0, 1) := by decide +kernel
theorem dX2_join_49 : decode cX2_join 49 = .ok (.aload_n 0, 1) := by decide +kernel
theorem dX2_join_50 : decode cX2_join 50 = .ok (.getfield 21, 3) := by decide +kernel
theorem dX2_join_53 : decode cX2_join 53 = .ok (.iconst 0, 1) := by decide +kernel
theorem dX2_join_54 : decode cX2_join 54 = .ok (.invokevirtual 29, 3) := by decide +kernel
theorem dX2_join_57 : decode cX2_join 57 = .ok (.aload_n 0, 1) := by decide +kernel
theorem dX2_join_58 : decode cX2_join 58 = .ok (.dup, 1) := by decide +kernel
theorem dX2_join_59 : decode cX2_join 59 = .ok (.getfield 21, 3) := by decide +kernel
theorem dX2_join_62 : decode cX2_join 62 = .ok (.iconst 1, 1) := by decide +kernel
theorem dX2_join_63 : decode cX2_join 63 = .ok (.iadd, 1) := by decide +kernel
theorem dX2_join_64 : decode cX2_join 64 = .ok (.putfield 21, 3) := by decide +kernel
theorem dX2_join_67 : decode cX2_join 67 = .ok (.aload_n 0, 1) := by decide +kernel
theorem dX2_join_68 : decode cX2_join 68 = .ok (.getfield 21, 3) := by decide +kernel
theorem dX2_join_71 : decode cX2_join 71 = .ok (.iconst 1, 1) := by decide +kernel
theorem dX2_join_72 : decode cX2_join 72 = .ok (.isub, 1) := by decide +kernel
theorem dX2_join_73 : decode cX2_join 73 = .ok (.ireturn, 1) := by decide +kernel
theorem dX2_noteOf_0 : decode cX2_noteOf 0 = .ok (.aload_n 0, 1) := by decide +kernel
theorem dX2_noteOf_1 : decode cX2_noteOf 1 = .ok (.getfield 33, 3) := by decide +kernel
theorem dX2_noteOf_4 : decode cX2_noteOf 4 = .ok (.iload_n 1, 1) := by decide +kernel
theorem dX2_noteOf_5 : decode cX2_noteOf 5 = .ok (.ishr, 1) := by decide +kernel
theorem dX2_noteOf_6 : decode cX2_noteOf 6 = .ok (.iconst 1, 1) := by decide +kernel
theorem dX2_noteOf_7 : decode cX2_noteOf 7 = .ok (.iand, 1) := by decide +kernel
theorem dX2_noteOf_8 : decode cX2_noteOf 8 = .ok (.ireturn, 1) := by decide +kernel
theorem dX2_putNote_0 : decode cX2_putNote 0 = .ok (.aload_n 0, 1) := by decide +kernel
theorem dX2_putNote_1 : decode cX2_putNote 1 = .ok (.iload_n 2, 1) := by decide +kernel
theorem dX2_putNote_2 : decode cX2_putNote 2 = .ok (.ifCond .eq 14, 3) := by decide +kernel
theorem dX2_putNote_5 : decode cX2_putNote 5 = .ok (.aload_n 0, 1) := by decide +kernel
theorem dX2_putNote_6 : decode cX2_putNote 6 = .ok (.getfield 33, 3) := by decide +kernel
theorem dX2_putNote_9 : decode cX2_putNote 9 = .ok (.iconst 1, 1) := by decide +kernel
theorem dX2_putNote_10 : decode cX2_putNote 10 = .ok (.iload_n 1, 1) := by decide +kernel
theorem dX2_putNote_11 : decode cX2_putNote 11 = .ok (.ishl, 1) := by decide +kernel
theorem dX2_putNote_12 : decode cX2_putNote 12 = .ok (.ior, 1) := by decide +kernel
theorem dX2_putNote_13 : decode cX2_putNote 13 = .ok (.goto 13, 3) := by decide +kernel
theorem dX2_putNote_16 : decode cX2_putNote 16 = .ok (.aload_n 0, 1) := by decide +kernel
theorem dX2_putNote_17 : decode cX2_putNote 17 = .ok (.getfield 33, 3) := by decide +kernel
theorem dX2_putNote_20 : decode cX2_putNote 20 = .ok (.iconst 1, 1) := by decide +kernel
theorem dX2_putNote_21 : decode cX2_putNote 21 = .ok (.iload_n 1, 1) := by decide +kernel
theorem dX2_putNote_22 : decode cX2_putNote 22 = .ok (.ishl, 1) := by decide +kernel
theorem dX2_putNote_23 : decode cX2_putNote 23 = .ok (.iconst (-1), 1) := by decide +kernel
theorem dX2_putNote_24 : decode cX2_putNote 24 = .ok (.ixor, 1) := by decide +kernel
theorem dX2_putNote_25 : decode cX2_putNote 25 = .ok (.iand, 1) := by decide +kernel
theorem dX2_putNote_26 : decode cX2_putNote 26 = .ok (.putfield 33, 3) := by decide +kernel
theorem dX2_putNote_29 : decode cX2_putNote 29 = .ok (.return_, 1) := by decide +kernel
theorem dX2_exchange_0 : decode cX2_exchange 0 = .ok (.aload_n 0, 1) := by decide +kernel
theorem dX2_exchange_1 : decode cX2_exchange 1 = .ok (.iload_n 1, 1) := by decide +kernel
theorem dX2_exchange_2 : decode cX2_exchange 2 = .ok (.invokevirtual 36, 3) := by decide +kernel
theorem dX2_exchange_5 : decode cX2_exchange 5 = .ok (.ifCond .eq 11, 3) := by decide +kernel
theorem dX2_exchange_8 : decode cX2_exchange 8 = .ok (.aload_n 0, 1) := by decide +kernel
theorem dX2_exchange_9 : decode cX2_exchange 9 = .ok (.iload_n 2, 1) := by decide +kernel
theorem dX2_exchange_10 : decode cX2_exchange 10 = .ok (.invokevirtual 36, 3) := by decide +kernel
theorem dX2_exchange_13 : decode cX2_exchange 13 = .ok (.ifCond .ne 4, 3) := by decide +kernel
theorem dX2_exchange_16 : decode cX2_exchange 16 = .ok (.return_, 1) := by decide +kernel
theorem dX2_exchange_17 : decode cX2_exchange 17 = .ok (.aload_n 0, 1) := by decide +kernel
theorem dX2_exchange_18 : decode cX2_exchange 18 = .ok (.getfield 9, 3) := by decide +kernel
theorem dX2_exchange_21 : decode cX2_exchange 21 = .ok (.iload_n 1, 1) := by decide +kernel
theorem dX2_exchange_22 : decode cX2_exchange 22 = .ok (.iaload, 1) := by decide +kernel
theorem dX2_exchange_23 : decode cX2_exchange 23 = .ok (.istore_n 3, 1) := by decide +kernel
theorem dX2_exchange_24 : decode cX2_exchange 24 = .ok (.aload_n 0, 1) := by decide +kernel
theorem dX2_exchange_25 : decode cX2_exchange 25 = .ok (.getfield 15, 3) := by decide +kernel
theorem dX2_exchange_28 : decode cX2_exchange 28 = .ok (.iload_n 1, 1) := by decide +kernel
theorem dX2_exchange_29 : decode cX2_exchange 29 = .ok (.iaload, 1) := by decide +kernel
theorem dX2_exchange_30 : decode cX2_exchange 30 = .ok (.istore 4, 2) := by decide +kernel
theorem dX2_exchange_32 : decode cX2_exchange 32 = .ok (.aload_n 0, 1) := by decide +kernel
theorem dX2_exchange_33 : decode cX2_exchange 33 = .ok (.getfield 9, 3) := by decide +kernel
theorem dX2_exchange_36 : decode cX2_exchange 36 = .ok (.iload_n 1, 1) := by decide +kernel
theorem dX2_exchange_37 : decode cX2_exchange 37 = .ok (.aload_n 0, 1) := by decide +kernel
theorem dX2_exchange_38 : decode cX2_exchange 38 = .ok (.getfield 9, 3) := by decide +kernel
theorem dX2_exchange_41 : decode cX2_exchange 41 = .ok (.iload_n 2, 1) := by decide +kernel
theorem dX2_exchange_42 : decode cX2_exchange 42 = .ok (.iaload, 1) := by decide +kernel
theorem dX2_exchange_43 : decode cX2_exchange 43 = .ok (.iastore, 1) := by decide +kernel
theorem dX2_exchange_44 : decode cX2_exchange 44 = .ok (.aload_n 0, 1) := by decide +kernel
theorem dX2_exchange_45 : decode cX2_exchange 45 = .ok (.getfield 15, 3) := by decide +kernel
theorem dX2_exchange_48 : decode cX2_exchange 48 = .ok (.iload_n 1, 1) := by decide +kernel
theorem dX2_exchange_49 : decode cX2_exchange 49 = .ok (.aload_n 0, 1) := by decide +kernel
theorem dX2_exchange_50 : decode cX2_exchange 50 = .ok (.getfield 15, 3) := by decide +kernel
theorem dX2_exchange_53 : decode cX2_exchange 53 = .ok (.iload_n 2, 1) := by decide +kernel
theorem dX2_exchange_54 : decode cX2_exchange 54 = .ok (.iaload, 1) := by decide +kernel
theorem dX2_exchange_55 : decode cX2_exchange 55 = .ok (.iastore, 1) := by decide +kernel
theorem dX2_exchange_56 : decode cX2_exchange 56 = .ok (.aload_n 0, 1) := by decide +kernel
theorem dX2_exchange_57 : decode cX2_exchange 57 = .ok (.getfield 9, 3) := by decide +kernel
theorem dX2_exchange_60 : decode cX2_exchange 60 = .ok (.iload_n 2, 1) := by decide +kernel
theorem dX2_exchange_61 : decode cX2_exchange 61 = .ok (.iload_n 3, 1) := by decide +kernel
theorem dX2_exchange_62 : decode cX2_exchange 62 = .ok (.iastore, 1) := by decide +kernel
theorem dX2_exchange_63 : decode cX2_exchange 63 = .ok (.aload_n 0, 1) := by decide +kernel
theorem dX2_exchange_64 : decode cX2_exchange 64 = .ok (.getfield 15, 3) := by decide +kernel
theorem dX2_exchange_67 : decode cX2_exchange 67 = .ok (.iload_n 2, 1) := by decide +kernel
theorem dX2_exchange_68 : decode cX2_exchange 68 = .ok (.iload 4, 2) := by decide +kernel
theorem dX2_exchange_70 : decode cX2_exchange 70 = .ok (.iastore, 1) := by decide +kernel
theorem dX2_exchange_71 : decode cX2_exchange 71 = .ok (.return_, 1) := by decide +kernel
theorem dX2_endMorning_0 : decode cX2_endMorning 0 = .ok (.aload_n 0, 1) := by decide +kernel
theorem dX2_endMorning_1 : decode cX2_endMorning 1 = .ok (.iload_n 1, 1) := by decide +kernel
theorem dX2_endMorning_2 : decode cX2_endMorning 2 = .ok (.putfield 40, 3) := by decide +kernel
theorem dX2_endMorning_5 : decode cX2_endMorning 5 = .ok (.iconst 0, 1) := by decide +kernel
theorem dX2_endMorning_6 : decode cX2_endMorning 6 = .ok (.istore_n 3, 1) := by decide +kernel
theorem dX2_endMorning_7 : decode cX2_endMorning 7 = .ok (.iload_n 3, 1) := by decide +kernel
theorem dX2_endMorning_8 : decode cX2_endMorning 8 = .ok (.aload_n 0, 1) := by decide +kernel
theorem dX2_endMorning_9 : decode cX2_endMorning 9 = .ok (.getfield 21, 3) := by decide +kernel
theorem dX2_endMorning_12 : decode cX2_endMorning 12 = .ok (.if_icmp .ge 31, 3) := by decide +kernel
theorem dX2_endMorning_15 : decode cX2_endMorning 15 = .ok (.aload_n 0, 1) := by decide +kernel
theorem dX2_endMorning_16 : decode cX2_endMorning 16 = .ok (.iload_n 3, 1) := by decide +kernel
theorem dX2_endMorning_17 : decode cX2_endMorning 17 = .ok (.iload_n 3, 1) := by decide +kernel
theorem dX2_endMorning_18 : decode cX2_endMorning 18 = .ok (.iload_n 1, 1) := by decide +kernel
theorem dX2_endMorning_19 : decode cX2_endMorning 19 = .ok (.invokestatic 43, 3) := by decide +kernel
theorem dX2_endMorning_22 : decode cX2_endMorning 22 = .ok (.invokestatic 47, 3) := by decide +kernel
theorem dX2_endMorning_25 : decode cX2_endMorning 25 = .ok (.iload_n 2, 1) := by decide +kernel
theorem dX2_endMorning_26 : decode cX2_endMorning 26 = .ok (.if_icmp .lt 7, 3) := by decide +kernel
theorem dX2_endMorning_29 : decode cX2_endMorning 29 = .ok (.iconst 1, 1) := by decide +kernel
theorem dX2_endMorning_30 : decode cX2_endMorning 30 = .ok (.goto 4, 3) := by decide +kernel
theorem dX2_endMorning_33 : decode cX2_endMorning 33 = .ok (.iconst 0, 1) := by decide +kernel
theorem dX2_endMorning_34 : decode cX2_endMorning 34 = .ok (.invokevirtual 29, 3) := by decide +kernel
theorem dX2_endMorning_37 : decode cX2_endMorning 37 = .ok (.iinc 3 1, 3) := by decide +kernel
theorem dX2_endMorning_40 : decode cX2_endMorning 40 = .ok (.goto (-33), 3) := by decide +kernel
theorem dX2_endMorning_43 : decode cX2_endMorning 43 = .ok (.return_, 1) := by decide +kernel
theorem dX2_become_0 : decode cX2_become 0 = .ok (.aload_n 1, 1) := by decide +kernel
theorem dX2_become_1 : decode cX2_become 1 = .ok (.getfield 9, 3) := by decide +kernel
theorem dX2_become_4 : decode cX2_become 4 = .ok (.iconst 0, 1) := by decide +kernel
theorem dX2_become_5 : decode cX2_become 5 = .ok (.aload_n 0, 1) := by decide +kernel
theorem dX2_become_6 : decode cX2_become 6 = .ok (.getfield 9, 3) := by decide +kernel
theorem dX2_become_9 : decode cX2_become 9 = .ok (.iconst 0, 1) := by decide +kernel
theorem dX2_become_10 : decode cX2_become 10 = .ok (.iconst 4, 1) := by decide +kernel
theorem dX2_become_11 : decode cX2_become 11 = .ok (.invokestatic 53, 3) := by decide +kernel
theorem dX2_become_14 : decode cX2_become 14 = .ok (.aload_n 1, 1) := by decide +kernel
theorem dX2_become_15 : decode cX2_become 15 = .ok (.getfield 15, 3) := by decide +kernel
theorem dX2_become_18 : decode cX2_become 18 = .ok (.iconst 0, 1) := by decide +kernel
theorem dX2_become_19 : decode cX2_become 19 = .ok (.aload_n 0, 1) := by decide +kernel
theorem dX2_become_20 : decode cX2_become 20 = .ok (.getfield 15, 3) := by decide +kernel
theorem dX2_become_23 : decode cX2_become 23 = .ok (.iconst 0, 1) := by decide +kernel
theorem dX2_become_24 : decode cX2_become 24 = .ok (.iconst 4, 1) := by decide +kernel
theorem dX2_become_25 : decode cX2_become 25 = .ok (.invokestatic 53, 3) := by decide +kernel
theorem dX2_become_28 : decode cX2_become 28 = .ok (.aload_n 1, 1) := by decide +kernel
theorem dX2_become_29 : decode cX2_become 29 = .ok (.getfield 18, 3) := by decide +kernel
theorem dX2_become_32 : decode cX2_become 32 = .ok (.iconst 0, 1) := by decide +kernel
theorem dX2_become_33 : decode cX2_become 33 = .ok (.aload_n 0, 1) := by decide +kernel
theorem dX2_become_34 : decode cX2_become 34 = .ok (.getfield 18, 3) := by decide +kernel
theorem dX2_become_37 : decode cX2_become 37 = .ok (.iconst 0, 1) := by decide +kernel
theorem dX2_become_38 : decode cX2_become 38 = .ok (.iconst 4, 1) := by decide +kernel
theorem dX2_become_39 : decode cX2_become 39 = .ok (.invokestatic 53, 3) := by decide +kernel
theorem dX2_become_42 : decode cX2_become 42 = .ok (.aload_n 0, 1) := by decide +kernel
theorem dX2_become_43 : decode cX2_become 43 = .ok (.aload_n 1, 1) := by decide +kernel
theorem dX2_become_44 : decode cX2_become 44 = .ok (.getfield 21, 3) := by decide +kernel
theorem dX2_become_47 : decode cX2_become 47 = .ok (.putfield 21, 3) := by decide +kernel
theorem dX2_become_50 : decode cX2_become 50 = .ok (.aload_n 0, 1) := by decide +kernel
theorem dX2_become_51 : decode cX2_become 51 = .ok (.aload_n 1, 1) := by decide +kernel
theorem dX2_become_52 : decode cX2_become 52 = .ok (.getfield 33, 3) := by decide +kernel
theorem dX2_become_55 : decode cX2_become 55 = .ok (.putfield 33, 3) := by decide +kernel
theorem dX2_become_58 : decode cX2_become 58 = .ok (.aload_n 0, 1) := by decide +kernel
theorem dX2_become_59 : decode cX2_become 59 = .ok (.aload_n 1, 1) := by decide +kernel
theorem dX2_become_60 : decode cX2_become 60 = .ok (.getfield 40, 3) := by decide +kernel
theorem dX2_become_63 : decode cX2_become 63 = .ok (.putfield 40, 3) := by decide +kernel
theorem dX2_become_66 : decode cX2_become 66 = .ok (.return_, 1) := by decide +kernel
theorem dX3_init_0 : decode cX3_init 0 = .ok (.aload_n 0, 1) := by decide +kernel
theorem dX3_init_1 : decode cX3_init 1 = .ok (.invokespecial 3, 3) := by decide +kernel
theorem dX3_init_4 : decode cX3_init 4 = .ok (.aload_n 0, 1) := by decide +kernel
theorem dX3_init_5 : decode cX3_init 5 = .ok (.new 9, 3) := by decide +kernel
theorem dX3_init_8 : decode cX3_init 8 = .ok (.dup, 1) := by decide +kernel
theorem dX3_init_9 : decode cX3_init 9 = .ok (.invokespecial 11, 3) := by decide +kernel
theorem dX3_init_12 : decode cX3_init 12 = .ok (.putfield 12, 3) := by decide +kernel
theorem dX3_init_15 : decode cX3_init 15 = .ok (.aload_n 0, 1) := by decide +kernel
theorem dX3_init_16 : decode cX3_init 16 = .ok (.bipush 100, 2) := by decide +kernel
theorem dX3_init_18 : decode cX3_init 18 = .ok (.newarray .int, 2) := by decide +kernel
theorem dX3_init_20 : decode cX3_init 20 = .ok (.putfield 18, 3) := by decide +kernel
theorem dX3_init_23 : decode cX3_init 23 = .ok (.aload_n 0, 1) := by decide +kernel
theorem dX3_init_24 : decode cX3_init 24 = .ok (.bipush 10, 2) := by decide +kernel
theorem dX3_init_26 : decode cX3_init 26 = .ok (.newarray .int, 2) := by decide +kernel
theorem dX3_init_28 : decode cX3_init 28 = .ok (.putfield 22, 3) := by decide +kernel
theorem dX3_init_31 : decode cX3_init 31 = .ok (.return_, 1) := by decide +kernel
theorem dX3_become_0 : decode cX3_become 0 = .ok (.aload_n 0, 1) := by decide +kernel
theorem dX3_become_1 : decode cX3_become 1 = .ok (.getfield 12, 3) := by decide +kernel
theorem dX3_become_4 : decode cX3_become 4 = .ok (.aload_n 1, 1) := by decide +kernel
theorem dX3_become_5 : decode cX3_become 5 = .ok (.getfield 12, 3) := by decide +kernel
theorem dX3_become_8 : decode cX3_become 8 = .ok (.invokevirtual 25, 3) := by decide +kernel
theorem dX3_become_11 : decode cX3_become 11 = .ok (.aload_n 1, 1) := by decide +kernel
theorem dX3_become_12 : decode cX3_become 12 = .ok (.getfield 18, 3) := by decide +kernel
theorem dX3_become_15 : decode cX3_become 15 = .ok (.iconst 0, 1) := by decide +kernel
theorem dX3_become_16 : decode cX3_become 16 = .ok (.aload_n 0, 1) := by decide +kernel
theorem dX3_become_17 : decode cX3_become 17 = .ok (.getfield 18, 3) := by decide +kernel
theorem dX3_become_20 : decode cX3_become 20 = .ok (.iconst 0, 1) := by decide +kernel
theorem dX3_become_21 : decode cX3_become 21 = .ok (.bipush 100, 2) := by decide +kernel
theorem dX3_become_23 : decode cX3_become 23 = .ok (.invokestatic 29, 3) := by decide +kernel
theorem dX3_become_26 : decode cX3_become 26 = .ok (.aload_n 1, 1) := by decide +kernel
theorem dX3_become_27 : decode cX3_become 27 = .ok (.getfield 22, 3) := by decide +kernel
theorem dX3_become_30 : decode cX3_become 30 = .ok (.iconst 0, 1) := by decide +kernel
theorem dX3_become_31 : decode cX3_become 31 = .ok (.aload_n 0, 1) := by decide +kernel
theorem dX3_become_32 : decode cX3_become 32 = .ok (.getfield 22, 3) := by decide +kernel
theorem dX3_become_35 : decode cX3_become 35 = .ok (.iconst 0, 1) := by decide +kernel
theorem dX3_become_36 : decode cX3_become 36 = .ok (.bipush 10, 2) := by decide +kernel
theorem dX3_become_38 : decode cX3_become 38 = .ok (.invokestatic 29, 3) := by decide +kernel
theorem dX3_become_41 : decode cX3_become 41 = .ok (.aload_n 0, 1) := by decide +kernel
theorem dX3_become_42 : decode cX3_become 42 = .ok (.aload_n 1, 1) := by decide +kernel
theorem dX3_become_43 : decode cX3_become 43 = .ok (.getfield 35, 3) := by decide +kernel
theorem dX3_become_46 : decode cX3_become 46 = .ok (.putfield 35, 3) := by decide +kernel
theorem dX3_become_49 : decode cX3_become 49 = .ok (.aload_n 0, 1) := by decide +kernel
theorem dX3_become_50 : decode cX3_become 50 = .ok (.aload_n 1, 1) := by decide +kernel
theorem dX3_become_51 : decode cX3_become 51 = .ok (.getfield 39, 3) := by decide +kernel
theorem dX3_become_54 : decode cX3_become 54 = .ok (.putfield 39, 3) := by decide +kernel
theorem dX3_become_57 : decode cX3_become 57 = .ok (.aload_n 0, 1) := by decide +kernel
theorem dX3_become_58 : decode cX3_become 58 = .ok (.aload_n 1, 1) := by decide +kernel
theorem dX3_become_59 : decode cX3_become 59 = .ok (.getfield 42, 3) := by decide +kernel
theorem dX3_become_62 : decode cX3_become 62 = .ok (.putfield 42, 3) := by decide +kernel
theorem dX3_become_65 : decode cX3_become 65 = .ok (.return_, 1) := by decide +kernel
theorem dX4_init_0 : decode cX4_init 0 = .ok (.aload_n 0, 1) := by decide +kernel
theorem dX4_init_1 : decode cX4_init 1 = .ok (.invokespecial 3, 3) := by decide +kernel
theorem dX4_init_4 : decode cX4_init 4 = .ok (.aload_n 0, 1) := by decide +kernel
theorem dX4_init_5 : decode cX4_init 5 = .ok (.bipush 100, 2) := by decide +kernel
theorem dX4_init_7 : decode cX4_init 7 = .ok (.newarray .int, 2) := by decide +kernel
theorem dX4_init_9 : decode cX4_init 9 = .ok (.putfield 9, 3) := by decide +kernel
theorem dX4_init_12 : decode cX4_init 12 = .ok (.aload_n 0, 1) := by decide +kernel
theorem dX4_init_13 : decode cX4_init 13 = .ok (.bipush 100, 2) := by decide +kernel
theorem dX4_init_15 : decode cX4_init 15 = .ok (.newarray .int, 2) := by decide +kernel
theorem dX4_init_17 : decode cX4_init 17 = .ok (.putfield 15, 3) := by decide +kernel
theorem dX4_init_20 : decode cX4_init 20 = .ok (.aload_n 0, 1) := by decide +kernel
theorem dX4_init_21 : decode cX4_init 21 = .ok (.bipush 8, 2) := by decide +kernel
theorem dX4_init_23 : decode cX4_init 23 = .ok (.newarray .int, 2) := by decide +kernel
theorem dX4_init_25 : decode cX4_init 25 = .ok (.putfield 18, 3) := by decide +kernel
theorem dX4_init_28 : decode cX4_init 28 = .ok (.aload_n 0, 1) := by decide +kernel
theorem dX4_init_29 : decode cX4_init 29 = .ok (.bipush 8, 2) := by decide +kernel
theorem dX4_init_31 : decode cX4_init 31 = .ok (.newarray .int, 2) := by decide +kernel
theorem dX4_init_33 : decode cX4_init 33 = .ok (.putfield 21, 3) := by decide +kernel
theorem dX4_init_36 : decode cX4_init 36 = .ok (.return_, 1) := by decide +kernel
theorem dX4_read_0 : decode cX4_read 0 = .ok (.aload_n 0, 1) := by decide +kernel
theorem dX4_read_1 : decode cX4_read 1 = .ok (.iconst 0, 1) := by decide +kernel
theorem dX4_read_2 : decode cX4_read 2 = .ok (.iload_n 2, 1) := by decide +kernel
theorem dX4_read_3 : decode cX4_read 3 = .ok (.bipush 100, 2) := by decide +kernel
theorem dX4_read_5 : decode cX4_read 5 = .ok (.invokestatic 24, 3) := by decide +kernel
theorem dX4_read_8 : decode cX4_read 8 = .ok (.invokestatic 30, 3) := by decide +kernel
theorem dX4_read_11 : decode cX4_read 11 = .ok (.putfield 33, 3) := by decide +kernel
theorem dX4_read_14 : decode cX4_read 14 = .ok (.aload_n 1, 1) := by decide +kernel
theorem dX4_read_15 : decode cX4_read 15 = .ok (.iconst 0, 1) := by decide +kernel
theorem dX4_read_16 : decode cX4_read 16 = .ok (.aload_n 0, 1) := by decide +kernel
theorem dX4_read_17 : decode cX4_read 17 = .ok (.getfield 9, 3) := by decide +kernel
theorem dX4_read_20 : decode cX4_read 20 = .ok (.iconst 0, 1) := by decide +kernel
theorem dX4_read_21 : decode cX4_read 21 = .ok (.aload_n 1, 1) := by decide +kernel
theorem dX4_read_22 : decode cX4_read 22 = .ok (.arraylength, 1) := by decide +kernel
theorem dX4_read_23 : decode cX4_read 23 = .ok (.bipush 100, 2) := by decide +kernel
theorem dX4_read_25 : decode cX4_read 25 = .ok (.invokestatic 24, 3) := by decide +kernel
theorem dX4_read_28 : decode cX4_read 28 = .ok (.invokestatic 37, 3) := by decide +kernel
theorem dX4_read_31 : decode cX4_read 31 = .ok (.aload_n 0, 1) := by decide +kernel
theorem dX4_read_32 : decode cX4_read 32 = .ok (.iconst 0, 1) := by decide +kernel
theorem dX4_read_33 : decode cX4_read 33 = .ok (.putfield 43, 3) := by decide +kernel
theorem dX4_read_36 : decode cX4_read 36 = .ok (.aload_n 0, 1) := by decide +kernel
theorem dX4_read_37 : decode cX4_read 37 = .ok (.iconst 0, 1) := by decide +kernel
theorem dX4_read_38 : decode cX4_read 38 = .ok (.putfield 46, 3) := by decide +kernel
theorem dX4_read_41 : decode cX4_read 41 = .ok (.aload_n 0, 1) := by decide +kernel
theorem dX4_read_42 : decode cX4_read 42 = .ok (.iconst 0, 1) := by decide +kernel
theorem dX4_read_43 : decode cX4_read 43 = .ok (.putfield 49, 3) := by decide +kernel
theorem dX4_read_46 : decode cX4_read 46 = .ok (.aload_n 0, 1) := by decide +kernel
theorem dX4_read_47 : decode cX4_read 47 = .ok (.iconst 0, 1) := by decide +kernel
theorem dX4_read_48 : decode cX4_read 48 = .ok (.putfield 52, 3) := by decide +kernel
theorem dX4_read_51 : decode cX4_read 51 = .ok (.bipush 7, 2) := by decide +kernel
theorem dX4_read_53 : decode cX4_read 53 = .ok (.istore_n 3, 1) := by decide +kernel
theorem dX4_read_54 : decode cX4_read 54 = .ok (.iload_n 3, 1) := by decide +kernel
theorem dX4_read_55 : decode cX4_read 55 = .ok (.ifCond .lt 52, 3) := by decide +kernel
theorem dX4_read_58 : decode cX4_read 58 = .ok (.aload_n 0, 1) := by decide +kernel
theorem dX4_read_59 : decode cX4_read 59 = .ok (.invokevirtual 55, 3) := by decide +kernel
theorem dX4_read_62 : decode cX4_read 62 = .ok (.ifCond .ne 8, 3) := by decide +kernel
theorem dX4_read_65 : decode cX4_read 65 = .ok (.aload_n 0, 1) := by decide +kernel
theorem dX4_read_66 : decode cX4_read 66 = .ok (.getfield 43, 3) := by decide +kernel
theorem dX4_read_69 : decode cX4_read 69 = .ok (.ireturn, 1) := by decide +kernel
theorem dX4_read_70 : decode cX4_read 70 = .ok (.aload_n 0, 1) := by decide +kernel
theorem dX4_read_71 : decode cX4_read 71 = .ok (.getfield 43, 3) := by decide +kernel
theorem dX4_read_74 : decode cX4_read 74 = .ok (.aload_n 0, 1) := by decide +kernel
theorem dX4_read_75 : decode cX4_read 75 = .ok (.getfield 33, 3) := by decide +kernel
theorem dX4_read_78 : decode cX4_read 78 = .ok (.if_icmp .lt 5, 3) := by decide +kernel
theorem dX4_read_81 : decode cX4_read 81 = .ok (.iconst (-1), 1) := by decide +kernel
theorem dX4_read_82 : decode cX4_read 82 = .ok (.ireturn, 1) := by decide +kernel
theorem dX4_read_83 : decode cX4_read 83 = .ok (.iload_n 3, 1) := by decide +kernel
theorem dX4_read_84 : decode cX4_read 84 = .ok (.ifCond .eq 12, 3) := by decide +kernel
theorem dX4_read_87 : decode cX4_read 87 = .ok (.aload_n 0, 1) := by decide +kernel
theorem dX4_read_88 : decode cX4_read 88 = .ok (.bipush 59, 2) := by decide +kernel
theorem dX4_read_90 : decode cX4_read 90 = .ok (.invokevirtual 59, 3) := by decide +kernel
theorem dX4_read_93 : decode cX4_read 93 = .ok (.ifCond .ne 8, 3) := by decide +kernel
theorem dX4_read_96 : decode cX4_read 96 = .ok (.aload_n 0, 1) := by decide +kernel
theorem dX4_read_97 : decode cX4_read 97 = .ok (.getfield 43, 3) := by decide +kernel
theorem dX4_read_100 : decode cX4_read 100 = .ok (.ireturn, 1) := by decide +kernel
theorem dX4_read_101 : decode cX4_read 101 = .ok (.iinc 3 (-1), 3) := by decide +kernel
theorem dX4_read_104 : decode cX4_read 104 = .ok (.goto (-50), 3) := by decide +kernel
theorem dX4_read_107 : decode cX4_read 107 = .ok (.aload_n 0, 1) := by decide +kernel
theorem dX4_read_108 : decode cX4_read 108 = .ok (.getfield 43, 3) := by decide +kernel
theorem dX4_read_111 : decode cX4_read 111 = .ok (.ireturn, 1) := by decide +kernel
theorem dX4_sign_0 : decode cX4_sign 0 = .ok (.aload_n 0, 1) := by decide +kernel
theorem dX4_sign_1 : decode cX4_sign 1 = .ok (.getfield 43, 3) := by decide +kernel
theorem dX4_sign_4 : decode cX4_sign 4 = .ok (.ifCond .lt 35, 3) := by decide +kernel
theorem dX4_sign_7 : decode cX4_sign 7 = .ok (.aload_n 0, 1) := by decide +kernel
theorem dX4_sign_8 : decode cX4_sign 8 = .ok (.getfield 43, 3) := by decide +kernel
theorem dX4_sign_11 : decode cX4_sign 11 = .ok (.aload_n 0, 1) := by decide +kernel
theorem dX4_sign_12 : decode cX4_sign 12 = .ok (.getfield 33, 3) := by decide +kernel
theorem dX4_sign_15 : decode cX4_sign 15 = .ok (.if_icmp .ge 24, 3) := by decide +kernel
theorem dX4_sign_18 : decode cX4_sign 18 = .ok (.aload_n 0, 1) := by decide +kernel
theorem dX4_sign_19 : decode cX4_sign 19 = .ok (.getfield 43, 3) := by decide +kernel
theorem dX4_sign_22 : decode cX4_sign 22 = .ok (.bipush 100, 2) := by decide +kernel
theorem dX4_sign_24 : decode cX4_sign 24 = .ok (.if_icmp .ge 15, 3) := by decide +kernel
theorem dX4_sign_27 : decode cX4_sign 27 = .ok (.aload_n 0, 1) := by decide +kernel
theorem dX4_sign_28 : decode cX4_sign 28 = .ok (.getfield 9, 3) := by decide +kernel
theorem dX4_sign_31 : decode cX4_sign 31 = .ok (.aload_n 0, 1) := by decide +kernel
theorem dX4_sign_32 : decode cX4_sign 32 = .ok (.getfield 43, 3) := by decide +kernel
theorem dX4_sign_35 : decode cX4_sign 35 = .ok (.iaload, 1) := by decide +kernel
theorem dX4_sign_36 : decode cX4_sign 36 = .ok (.goto 4, 3) := by decide +kernel
theorem dX4_sign_39 : decode cX4_sign 39 = .ok (.iconst (-1), 1) := by decide +kernel
theorem dX4_sign_40 : decode cX4_sign 40 = .ok (.ireturn, 1) := by decide +kernel
theorem dX4_take_0 : decode cX4_take 0 = .ok (.aload_n 0, 1) := by decide +kernel
theorem dX4_take_1 : decode cX4_take 1 = .ok (.invokevirtual 63, 3) := by decide +kernel
theorem dX4_take_4 : decode cX4_take 4 = .ok (.iload_n 1, 1) := by decide +kernel
theorem dX4_take_5 : decode cX4_take 5 = .ok (.if_icmp .eq 5, 3) := by decide +kernel
theorem dX4_take_8 : decode cX4_take 8 = .ok (.iconst 0, 1) := by decide +kernel
theorem dX4_take_9 : decode cX4_take 9 = .ok (.ireturn, 1) := by decide +kernel
theorem dX4_take_10 : decode cX4_take 10 = .ok (.aload_n 0, 1) := by decide +kernel
theorem dX4_take_11 : decode cX4_take 11 = .ok (.dup, 1) := by decide +kernel
theorem dX4_take_12 : decode cX4_take 12 = .ok (.getfield 43, 3) := by decide +kernel
theorem dX4_take_15 : decode cX4_take 15 = .ok (.iconst 1, 1) := by decide +kernel
theorem dX4_take_16 : decode cX4_take 16 = .ok (.iadd, 1) := by decide +kernel
theorem dX4_take_17 : decode cX4_take 17 = .ok (.putfield 43, 3) := by decide +kernel
theorem dX4_take_20 : decode cX4_take 20 = .ok (.iconst 1, 1) := by decide +kernel
theorem dX4_take_21 : decode cX4_take 21 = .ok (.ireturn, 1) := by decide +kernel
theorem dX4_takeOneOf_0 : decode cX4_takeOneOf 0 = .ok (.aload_n 0, 1) := by decide +kernel
theorem dX4_takeOneOf_1 : decode cX4_takeOneOf 1 = .ok (.invokevirtual 63, 3) := by decide +kernel
theorem dX4_takeOneOf_4 : decode cX4_takeOneOf 4 = .ok (.istore_n 2, 1) := by decide +kernel
theorem dX4_takeOneOf_5 : decode cX4_takeOneOf 5 = .ok (.iconst 0, 1) := by decide +kernel
theorem dX4_takeOneOf_6 : decode cX4_takeOneOf 6 = .ok (.istore_n 3, 1) := by decide +kernel
theorem dX4_takeOneOf_7 : decode cX4_takeOneOf 7 = .ok (.iload_n 3, 1) := by decide +kernel
theorem dX4_takeOneOf_8 : decode cX4_takeOneOf 8 = .ok (.aload_n 1, 1) := by decide +kernel
theorem dX4_takeOneOf_9 : decode cX4_takeOneOf 9 = .ok (.invokevirtual 67, 3) := by decide +kernel
theorem dX4_takeOneOf_12 : decode cX4_takeOneOf 12 = .ok (.if_icmp .ge 30, 3) := by decide +kernel
theorem dX4_takeOneOf_15 : decode cX4_takeOneOf 15 = .ok (.aload_n 1, 1) := by decide +kernel
theorem dX4_takeOneOf_16 : decode cX4_takeOneOf 16 = .ok (.iload_n 3, 1) := by decide +kernel
theorem dX4_takeOneOf_17 : decode cX4_takeOneOf 17 = .ok (.invokevirtual 72, 3) := by decide +kernel
theorem dX4_takeOneOf_20 : decode cX4_takeOneOf 20 = .ok (.iload_n 2, 1) := by decide +kernel
theorem dX4_takeOneOf_21 : decode cX4_takeOneOf 21 = .ok (.if_icmp .ne 15, 3) := by decide +kernel
theorem dX4_takeOneOf_24 : decode cX4_takeOneOf 24 = .ok (.aload_n 0, 1) := by decide +kernel
theorem dX4_takeOneOf_25 : decode cX4_takeOneOf 25 = .ok (.dup, 1) := by decide +kernel
theorem dX4_takeOneOf_26 : decode cX4_takeOneOf 26 = .ok (.getfield 43, 3) := by decide +kernel
theorem dX4_takeOneOf_29 : decode cX4_takeOneOf 29 = .ok (.iconst 1, 1) := by decide +kernel
theorem dX4_takeOneOf_30 : decode cX4_takeOneOf 30 = .ok (.iadd, 1) := by decide +kernel
theorem dX4_takeOneOf_31 : decode cX4_takeOneOf 31 = .ok (.putfield 43, 3) := by decide +kernel
theorem dX4_takeOneOf_34 : decode cX4_takeOneOf 34 = .ok (.iload_n 3, 1) := by decide +kernel
theorem dX4_takeOneOf_35 : decode cX4_takeOneOf 35 = .ok (.ireturn, 1) := by decide +kernel
theorem dX4_takeOneOf_36 : decode cX4_takeOneOf 36 = .ok (.iinc 3 1, 3) := by decide +kernel
theorem dX4_takeOneOf_39 : decode cX4_takeOneOf 39 = .ok (.goto (-32), 3) := by decide +kernel
theorem dX4_takeOneOf_42 : decode cX4_takeOneOf 42 = .ok (.iconst (-1), 1) := by decide +kernel
theorem dX4_takeOneOf_43 : decode cX4_takeOneOf 43 = .ok (.ireturn, 1) := by decide +kernel
theorem dX4_takeWord_0 : decode cX4_takeWord 0 = .ok (.iconst 0, 1) := by decide +kernel
theorem dX4_takeWord_1 : decode cX4_takeWord 1 = .ok (.istore_n 2, 1) := by decide +kernel
theorem dX4_takeWord_2 : decode cX4_takeWord 2 = .ok (.iload_n 2, 1) := by decide +kernel
theorem dX4_takeWord_3 : decode cX4_takeWord 3 = .ok (.aload_n 1, 1) := by decide +kernel
theorem dX4_takeWord_4 : decode cX4_takeWord 4 = .ok (.invokevirtual 67, 3) := by decide +kernel
theorem dX4_takeWord_7 : decode cX4_takeWord 7 = .ok (.if_icmp .ge 23, 3) := by decide +kernel
theorem dX4_takeWord_10 : decode cX4_takeWord 10 = .ok (.aload_n 0, 1) := by decide +kernel
theorem dX4_takeWord_11 : decode cX4_takeWord 11 = .ok (.aload_n 1, 1) := by decide +kernel
theorem dX4_takeWord_12 : decode cX4_takeWord 12 = .ok (.iload_n 2, 1) := by decide +kernel
theorem dX4_takeWord_13 : decode cX4_takeWord 13 = .ok (.invokevirtual 72, 3) := by decide +kernel
theorem dX4_takeWord_16 : decode cX4_takeWord 16 = .ok (.invokevirtual 59, 3) := by decide +kernel
theorem dX4_takeWord_19 : decode cX4_takeWord 19 = .ok (.ifCond .ne 5, 3) := by decide +kernel
theorem dX4_takeWord_22 : decode cX4_takeWord 22 = .ok (.iconst 0, 1) := by decide +kernel
theorem dX4_takeWord_23 : decode cX4_takeWord 23 = .ok (.ireturn, 1) := by decide +kernel
theorem dX4_takeWord_24 : decode cX4_takeWord 24 = .ok (.iinc 2 1, 3) := by decide +kernel
theorem dX4_takeWord_27 : decode cX4_takeWord 27 = .ok (.goto (-25), 3) := by decide +kernel
theorem dX4_takeWord_30 : decode cX4_takeWord 30 = .ok (.aload_n 0, 1) := by decide +kernel
theorem dX4_takeWord_31 : decode cX4_takeWord 31 = .ok (.bipush 32, 2) := by decide +kernel
theorem dX4_takeWord_33 : decode cX4_takeWord 33 = .ok (.invokevirtual 59, 3) := by decide +kernel
theorem dX4_takeWord_36 : decode cX4_takeWord 36 = .ok (.ireturn, 1) := by decide +kernel
theorem dX4_readClause_0 : decode cX4_readClause 0 = .ok (.aload_n 0, 1) := by decide +kernel
theorem dX4_readClause_1 : decode cX4_readClause 1 = .ok (.invokevirtual 63, 3) := by decide +kernel
theorem dX4_readClause_4 : decode cX4_readClause 4 = .ok (.bipush 110, 2) := by decide +kernel
theorem dX4_readClause_6 : decode cX4_readClause 6 = .ok (.if_icmp .ne 7, 3) := by decide +kernel
theorem dX4_readClause_9 : decode cX4_readClause 9 = .ok (.iconst 1, 1) := by decide +kernel
theorem dX4_readClause_10 : decode cX4_readClause 10 = .ok (.goto 4, 3) := by decide +kernel
theorem dX4_readClause_13 : decode cX4_readClause 13 = .ok (.iconst 0, 1) := by decide +kernel
theorem dX4_readClause_14 : decode cX4_readClause 14 = .ok (.istore_n 1, 1) := by decide +kernel
theorem dX4_readClause_15 : decode cX4_readClause 15 = .ok (.aload_n 0, 1) := by decide +kernel
theorem dX4_readClause_16 : decode cX4_readClause 16 = .ok (.invokevirtual 63, 3) := by decide +kernel
theorem dX4_readClause_19 : decode cX4_readClause 19 = .ok (.bipush 104, 2) := by decide +kernel
theorem dX4_readClause_21 : decode cX4_readClause 21 = .ok (.if_icmp .ne 7, 3) := by decide +kernel
theorem dX4_readClause_24 : decode cX4_readClause 24 = .ok (.iconst 1, 1) := by decide +kernel
theorem dX4_readClause_25 : decode cX4_readClause 25 = .ok (.goto 4, 3) := by decide +kernel
theorem dX4_readClause_28 : decode cX4_readClause 28 = .ok (.iconst 0, 1) := by decide +kernel
theorem dX4_readClause_29 : decode cX4_readClause 29 = .ok (.istore_n 2, 1) := by decide +kernel
theorem dX4_readClause_30 : decode cX4_readClause 30 = .ok (.aload_n 0, 1) := by decide +kernel
theorem dX4_readClause_31 : decode cX4_readClause 31 = .ok (.iload_n 1, 1) := by decide +kernel
theorem dX4_readClause_32 : decode cX4_readClause 32 = .ok (.ifCond .eq 8, 3) := by decide +kernel
theorem dX4_readClause_35 : decode cX4_readClause 35 = .ok (.ldc 76, 2) := by decide +kernel
theorem dX4_readClause_37 : decode cX4_readClause 37 = .ok (.goto 14, 3) := by decide +kernel
theorem dX4_readClause_40 : decode cX4_readClause 40 = .ok (.iload_n 2, 1) := by decide +kernel
theorem dX4_readClause_41 : decode cX4_readClause 41 = .ok (.ifCond .eq 8, 3) := by decide +kernel
theorem dX4_readClause_44 : decode cX4_readClause 44 = .ok (.ldc 78, 2) := by decide +kernel
theorem dX4_readClause_46 : decode cX4_readClause 46 = .ok (.goto 5, 3) := by decide +kernel
theorem dX4_readClause_49 : decode cX4_readClause 49 = .ok (.ldc 80, 2) := by decide +kernel
theorem dX4_readClause_51 : decode cX4_readClause 51 = .ok (.invokevirtual 82, 3) := by decide +kernel
theorem dX4_readClause_54 : decode cX4_readClause 54 = .ok (.ifCond .ne 5, 3) := by decide +kernel
theorem dX4_readClause_57 : decode cX4_readClause 57 = .ok (.iconst 0, 1) := by decide +kernel
theorem dX4_readClause_58 : decode cX4_readClause 58 = .ok (.ireturn, 1) := by decide +kernel
theorem dX4_readClause_59 : decode cX4_readClause 59 = .ok (.aload_n 0, 1) := by decide +kernel
theorem dX4_readClause_60 : decode cX4_readClause 60 = .ok (.invokevirtual 86, 3) := by decide +kernel
theorem dX4_readClause_63 : decode cX4_readClause 63 = .ok (.istore_n 3, 1) := by decide +kernel
theorem dX4_readClause_64 : decode cX4_readClause 64 = .ok (.iload_n 3, 1) := by decide +kernel
theorem dX4_readClause_65 : decode cX4_readClause 65 = .ok (.ifCond .ge 5, 3) := by decide +kernel
theorem dX4_readClause_68 : decode cX4_readClause 68 = .ok (.iconst 0, 1) := by decide +kernel
theorem dX4_readClause_69 : decode cX4_readClause 69 = .ok (.ireturn, 1) := by decide +kernel
theorem dX4_readClause_70 : decode cX4_readClause 70 = .ok (.iload_n 1, 1) := by decide +kernel
theorem dX4_readClause_71 : decode cX4_readClause 71 = .ok (.ifCond .eq 10, 3) := by decide +kernel
theorem dX4_readClause_74 : decode cX4_readClause 74 = .ok (.aload_n 0, 1) := by decide +kernel
theorem dX4_readClause_75 : decode cX4_readClause 75 = .ok (.iload_n 3, 1) := by decide +kernel
theorem dX4_readClause_76 : decode cX4_readClause 76 = .ok (.putfield 52, 3) := by decide +kernel
theorem dX4_readClause_79 : decode cX4_readClause 79 = .ok (.iconst 1, 1) := by decide +kernel
theorem dX4_readClause_80 : decode cX4_readClause 80 = .ok (.ireturn, 1) := by decide +kernel
theorem dX4_readClause_81 : decode cX4_readClause 81 = .ok (.aload_n 0, 1) := by decide +kernel
theorem dX4_readClause_82 : decode cX4_readClause 82 = .ok (.bipush 32, 2) := by decide +kernel
theorem dX4_readClause_84 : decode cX4_readClause 84 = .ok (.invokevirtual 59, 3) := by decide +kernel
theorem dX4_readClause_87 : decode cX4_readClause 87 = .ok (.ifCond .eq 11, 3) := by decide +kernel
theorem dX4_readClause_90 : decode cX4_readClause 90 = .ok (.aload_n 0, 1) := by decide +kernel
theorem dX4_readClause_91 : decode cX4_readClause 91 = .ok (.iconst 0, 1) := by decide +kernel
theorem dX4_readClause_92 : decode cX4_readClause 92 = .ok (.invokevirtual 89, 3) := by decide +kernel
theorem dX4_readClause_95 : decode cX4_readClause 95 = .ok (.ifCond .ne 5, 3) := by decide +kernel
theorem dX4_readClause_98 : decode cX4_readClause 98 = .ok (.iconst 0, 1) := by decide +kernel
theorem dX4_readClause_99 : decode cX4_readClause 99 = .ok (.ireturn, 1) := by decide +kernel
theorem dX4_readClause_100 : decode cX4_readClause 100 = .ok (.aload_n 0, 1) := by decide +kernel
theorem dX4_readClause_101 : decode cX4_readClause 101 = .ok (.iload_n 2, 1) := by decide +kernel
theorem dX4_readClause_102 : decode cX4_readClause 102 = .ok (.ifCond .eq 8, 3) := by decide +kernel
theorem dX4_readClause_105 : decode cX4_readClause 105 = .ok (.iload_n 3, 1) := by decide +kernel
theorem dX4_readClause_106 : decode cX4_readClause 106 = .ok (.ineg, 1) := by decide +kernel
theorem dX4_readClause_107 : decode cX4_readClause 107 = .ok (.goto 4, 3) := by decide +kernel
theorem dX4_readClause_110 : decode cX4_readClause 110 = .ok (.iload_n 3, 1) := by decide +kernel
theorem dX4_readClause_111 : decode cX4_readClause 111 = .ok (.invokevirtual 92, 3) := by decide +kernel
theorem dX4_readClause_114 : decode cX4_readClause 114 = .ok (.iconst 1, 1) := by decide +kernel
theorem dX4_readClause_115 : decode cX4_readClause 115 = .ok (.ireturn, 1) := by decide +kernel
theorem dX4_keepClause_0 : decode cX4_keepClause 0 = .ok (.aload_n 0, 1) := by decide +kernel
theorem dX4_keepClause_1 : decode cX4_keepClause 1 = .ok (.getfield 49, 3) := by decide +kernel
theorem dX4_keepClause_4 : decode cX4_keepClause 4 = .ok (.ifCond .lt 45, 3) := by decide +kernel
theorem dX4_keepClause_7 : decode cX4_keepClause 7 = .ok (.aload_n 0, 1) := by decide +kernel
theorem dX4_keepClause_8 : decode cX4_keepClause 8 = .ok (.getfield 49, 3) := by decide +kernel
theorem dX4_keepClause_11 : decode cX4_keepClause 11 = .ok (.bipush 8, 2) := by decide +kernel
theorem dX4_keepClause_13 : decode cX4_keepClause 13 = .ok (.if_icmp .ge 36, 3) := by decide +kernel
theorem dX4_keepClause_16 : decode cX4_keepClause 16 = .ok (.aload_n 0, 1) := by decide +kernel
theorem dX4_keepClause_17 : decode cX4_keepClause 17 = .ok (.getfield 18, 3) := by decide +kernel
theorem dX4_keepClause_20 : decode cX4_keepClause 20 = .ok (.aload_n 0, 1) := by decide +kernel
theorem dX4_keepClause_21 : decode cX4_keepClause 21 = .ok (.getfield 49, 3) := by decide +kernel
theorem dX4_keepClause_24 : decode cX4_keepClause 24 = .ok (.iload_n 1, 1) := by decide +kernel
theorem dX4_keepClause_25 : decode cX4_keepClause 25 = .ok (.iastore, 1) := by decide +kernel
theorem dX4_keepClause_26 : decode cX4_keepClause 26 = .ok (.aload_n 0, 1) := by decide +kernel
theorem dX4_keepClause_27 : decode cX4_keepClause 27 = .ok (.getfield 21, 3) := by decide +kernel
theorem dX4_keepClause_30 : decode cX4_keepClause 30 = .ok (.aload_n 0, 1) := by decide +kernel
theorem dX4_keepClause_31 : decode cX4_keepClause 31 = .ok (.getfield 49, 3) := by decide +kernel
theorem dX4_keepClause_34 : decode cX4_keepClause 34 = .ok (.aload_n 0, 1) := by decide +kernel
theorem dX4_keepClause_35 : decode cX4_keepClause 35 = .ok (.getfield 46, 3) := by decide +kernel
theorem dX4_keepClause_38 : decode cX4_keepClause 38 = .ok (.iastore, 1) := by decide +kernel
theorem dX4_keepClause_39 : decode cX4_keepClause 39 = .ok (.aload_n 0, 1) := by decide +kernel
theorem dX4_keepClause_40 : decode cX4_keepClause 40 = .ok (.dup, 1) := by decide +kernel
theorem dX4_keepClause_41 : decode cX4_keepClause 41 = .ok (.getfield 49, 3) := by decide +kernel
theorem dX4_keepClause_44 : decode cX4_keepClause 44 = .ok (.iconst 1, 1) := by decide +kernel
theorem dX4_keepClause_45 : decode cX4_keepClause 45 = .ok (.iadd, 1) := by decide +kernel
theorem dX4_keepClause_46 : decode cX4_keepClause 46 = .ok (.putfield 49, 3) := by decide +kernel
theorem dX4_keepClause_49 : decode cX4_keepClause 49 = .ok (.return_, 1) := by decide +kernel
theorem dX4_keepCode_0 : decode cX4_keepCode 0 = .ok (.aload_n 0, 1) := by decide +kernel
theorem dX4_keepCode_1 : decode cX4_keepCode 1 = .ok (.getfield 46, 3) := by decide +kernel
theorem dX4_keepCode_4 : decode cX4_keepCode 4 = .ok (.ifCond .lt 32, 3) := by decide +kernel
theorem dX4_keepCode_7 : decode cX4_keepCode 7 = .ok (.aload_n 0, 1) := by decide +kernel
theorem dX4_keepCode_8 : decode cX4_keepCode 8 = .ok (.getfield 46, 3) := by decide +kernel
theorem dX4_keepCode_11 : decode cX4_keepCode 11 = .ok (.bipush 100, 2) := by decide +kernel
theorem dX4_keepCode_13 : decode cX4_keepCode 13 = .ok (.if_icmp .ge 23, 3) := by decide +kernel
theorem dX4_keepCode_16 : decode cX4_keepCode 16 = .ok (.aload_n 0, 1) := by decide +kernel
theorem dX4_keepCode_17 : decode cX4_keepCode 17 = .ok (.getfield 15, 3) := by decide +kernel
theorem dX4_keepCode_20 : decode cX4_keepCode 20 = .ok (.aload_n 0, 1) := by decide +kernel
theorem dX4_keepCode_21 : decode cX4_keepCode 21 = .ok (.getfield 46, 3) := by decide +kernel
theorem dX4_keepCode_24 : decode cX4_keepCode 24 = .ok (.iload_n 1, 1) := by decide +kernel
theorem dX4_keepCode_25 : decode cX4_keepCode 25 = .ok (.iastore, 1) := by decide +kernel
theorem dX4_keepCode_26 : decode cX4_keepCode 26 = .ok (.aload_n 0, 1) := by decide +kernel
theorem dX4_keepCode_27 : decode cX4_keepCode 27 = .ok (.dup, 1) := by decide +kernel
theorem dX4_keepCode_28 : decode cX4_keepCode 28 = .ok (.getfield 46, 3) := by decide +kernel
theorem dX4_keepCode_31 : decode cX4_keepCode 31 = .ok (.iconst 1, 1) := by decide +kernel
theorem dX4_keepCode_32 : decode cX4_keepCode 32 = .ok (.iadd, 1) := by decide +kernel
theorem dX4_keepCode_33 : decode cX4_keepCode 33 = .ok (.putfield 46, 3) := by decide +kernel
theorem dX4_keepCode_36 : decode cX4_keepCode 36 = .ok (.return_, 1) := by decide +kernel
theorem dX4_readNumber_0 : decode cX4_readNumber 0 = .ok (.aload_n 0, 1) := by decide +kernel
theorem dX4_readNumber_1 : decode cX4_readNumber 1 = .ok (.ldc 96, 2) := by decide +kernel
theorem dX4_readNumber_3 : decode cX4_readNumber 3 = .ok (.invokevirtual 98, 3) := by decide +kernel
theorem dX4_readNumber_6 : decode cX4_readNumber 6 = .ok (.istore_n 1, 1) := by decide +kernel
theorem dX4_readNumber_7 : decode cX4_readNumber 7 = .ok (.iload_n 1, 1) := by decide +kernel
theorem dX4_readNumber_8 : decode cX4_readNumber 8 = .ok (.ifCond .gt 5, 3) := by decide +kernel
theorem dX4_readNumber_11 : decode cX4_readNumber 11 = .ok (.iload_n 1, 1) := by decide +kernel
theorem dX4_readNumber_12 : decode cX4_readNumber 12 = .ok (.ireturn, 1) := by decide +kernel
theorem dX4_readNumber_13 : decode cX4_readNumber 13 = .ok (.aload_n 0, 1) := by decide +kernel
theorem dX4_readNumber_14 : decode cX4_readNumber 14 = .ok (.ldc 96, 2) := by decide +kernel
theorem dX4_readNumber_16 : decode cX4_readNumber 16 = .ok (.invokevirtual 98, 3) := by decide +kernel
theorem dX4_readNumber_19 : decode cX4_readNumber 19 = .ok (.istore_n 2, 1) := by decide +kernel
theorem dX4_readNumber_20 : decode cX4_readNumber 20 = .ok (.iload_n 2, 1) := by decide +kernel
theorem dX4_readNumber_21 : decode cX4_readNumber 21 = .ok (.ifCond .ge 7, 3) := by decide +kernel
theorem dX4_readNumber_24 : decode cX4_readNumber 24 = .ok (.iload_n 1, 1) := by decide +kernel
theorem dX4_readNumber_25 : decode cX4_readNumber 25 = .ok (.goto 9, 3) := by decide +kernel
theorem dX4_readNumber_28 : decode cX4_readNumber 28 = .ok (.bipush 10, 2) := by decide +kernel
theorem dX4_readNumber_30 : decode cX4_readNumber 30 = .ok (.iload_n 1, 1) := by decide +kernel
theorem dX4_readNumber_31 : decode cX4_readNumber 31 = .ok (.imul, 1) := by decide +kernel
theorem dX4_readNumber_32 : decode cX4_readNumber 32 = .ok (.iload_n 2, 1) := by decide +kernel
theorem dX4_readNumber_33 : decode cX4_readNumber 33 = .ok (.iadd, 1) := by decide +kernel
theorem dX4_readNumber_34 : decode cX4_readNumber 34 = .ok (.ireturn, 1) := by decide +kernel
theorem dX4_readAny_0 : decode cX4_readAny 0 = .ok (.iconst 0, 1) := by decide +kernel
theorem dX4_readAny_1 : decode cX4_readAny 1 = .ok (.istore_n 2, 1) := by decide +kernel
theorem dX4_readAny_2 : decode cX4_readAny 2 = .ok (.iload_n 2, 1) := by decide +kernel
theorem dX4_readAny_3 : decode cX4_readAny 3 = .ok (.bipush 100, 2) := by decide +kernel
theorem dX4_readAny_5 : decode cX4_readAny 5 = .ok (.if_icmp .ge 39, 3) := by decide +kernel
theorem dX4_readAny_8 : decode cX4_readAny 8 = .ok (.aload_n 0, 1) := by decide +kernel
theorem dX4_readAny_9 : decode cX4_readAny 9 = .ok (.iload_n 1, 1) := by decide +kernel
theorem dX4_readAny_10 : decode cX4_readAny 10 = .ok (.invokevirtual 102, 3) := by decide +kernel
theorem dX4_readAny_13 : decode cX4_readAny 13 = .ok (.ifCond .ne 5, 3) := by decide +kernel
theorem dX4_readAny_16 : decode cX4_readAny 16 = .ok (.iconst 0, 1) := by decide +kernel
theorem dX4_readAny_17 : decode cX4_readAny 17 = .ok (.ireturn, 1) := by decide +kernel
theorem dX4_readAny_18 : decode cX4_readAny 18 = .ok (.iload_n 2, 1) := by decide +kernel
theorem dX4_readAny_19 : decode cX4_readAny 19 = .ok (.ifCond .le 8, 3) := by decide +kernel
theorem dX4_readAny_22 : decode cX4_readAny 22 = .ok (.aload_n 0, 1) := by decide +kernel
theorem dX4_readAny_23 : decode cX4_readAny 23 = .ok (.iconst (-1), 1) := by decide +kernel
theorem dX4_readAny_24 : decode cX4_readAny 24 = .ok (.invokevirtual 105, 3) := by decide +kernel
theorem dX4_readAny_27 : decode cX4_readAny 27 = .ok (.aload_n 0, 1) := by decide +kernel
theorem dX4_readAny_28 : decode cX4_readAny 28 = .ok (.bipush 124, 2) := by decide +kernel
theorem dX4_readAny_30 : decode cX4_readAny 30 = .ok (.invokevirtual 59, 3) := by decide +kernel
theorem dX4_readAny_33 : decode cX4_readAny 33 = .ok (.ifCond .ne 5, 3) := by decide +kernel
theorem dX4_readAny_36 : decode cX4_readAny 36 = .ok (.iconst 1, 1) := by decide +kernel
theorem dX4_readAny_37 : decode cX4_readAny 37 = .ok (.ireturn, 1) := by decide +kernel
theorem dX4_readAny_38 : decode cX4_readAny 38 = .ok (.iinc 2 1, 3) := by decide +kernel
theorem dX4_readAny_41 : decode cX4_readAny 41 = .ok (.goto (-39), 3) := by decide +kernel
theorem dX4_readAny_44 : decode cX4_readAny 44 = .ok (.iconst 0, 1) := by decide +kernel
theorem dX4_readAny_45 : decode cX4_readAny 45 = .ok (.ireturn, 1) := by decide +kernel
theorem dX4_readBoth_0 : decode cX4_readBoth 0 = .ok (.iconst 0, 1) := by decide +kernel
theorem dX4_readBoth_1 : decode cX4_readBoth 1 = .ok (.istore_n 2, 1) := by decide +kernel
theorem dX4_readBoth_2 : decode cX4_readBoth 2 = .ok (.iload_n 2, 1) := by decide +kernel
theorem dX4_readBoth_3 : decode cX4_readBoth 3 = .ok (.bipush 100, 2) := by decide +kernel
theorem dX4_readBoth_5 : decode cX4_readBoth 5 = .ok (.if_icmp .ge 40, 3) := by decide +kernel
theorem dX4_readBoth_8 : decode cX4_readBoth 8 = .ok (.aload_n 0, 1) := by decide +kernel
theorem dX4_readBoth_9 : decode cX4_readBoth 9 = .ok (.iload_n 1, 1) := by decide +kernel
theorem dX4_readBoth_10 : decode cX4_readBoth 10 = .ok (.invokevirtual 108, 3) := by decide +kernel
theorem dX4_readBoth_13 : decode cX4_readBoth 13 = .ok (.ifCond .ne 5, 3) := by decide +kernel
theorem dX4_readBoth_16 : decode cX4_readBoth 16 = .ok (.iconst 0, 1) := by decide +kernel
theorem dX4_readBoth_17 : decode cX4_readBoth 17 = .ok (.ireturn, 1) := by decide +kernel
theorem dX4_readBoth_18 : decode cX4_readBoth 18 = .ok (.iload_n 2, 1) := by decide +kernel
theorem dX4_readBoth_19 : decode cX4_readBoth 19 = .ok (.ifCond .le 9, 3) := by decide +kernel
theorem dX4_readBoth_22 : decode cX4_readBoth 22 = .ok (.aload_n 0, 1) := by decide +kernel
theorem dX4_readBoth_23 : decode cX4_readBoth 23 = .ok (.bipush (-2), 2) := by decide +kernel
theorem dX4_readBoth_25 : decode cX4_readBoth 25 = .ok (.invokevirtual 105, 3) := by decide +kernel
theorem dX4_readBoth_28 : decode cX4_readBoth 28 = .ok (.aload_n 0, 1) := by decide +kernel
theorem dX4_readBoth_29 : decode cX4_readBoth 29 = .ok (.bipush 38, 2) := by decide +kernel
theorem dX4_readBoth_31 : decode cX4_readBoth 31 = .ok (.invokevirtual 59, 3) := by decide +kernel
theorem dX4_readBoth_34 : decode cX4_readBoth 34 = .ok (.ifCond .ne 5, 3) := by decide +kernel
theorem dX4_readBoth_37 : decode cX4_readBoth 37 = .ok (.iconst 1, 1) := by decide +kernel
theorem dX4_readBoth_38 : decode cX4_readBoth 38 = .ok (.ireturn, 1) := by decide +kernel
theorem dX4_readBoth_39 : decode cX4_readBoth 39 = .ok (.iinc 2 1, 3) := by decide +kernel
theorem dX4_readBoth_42 : decode cX4_readBoth 42 = .ok (.goto (-40), 3) := by decide +kernel
theorem dX4_readBoth_45 : decode cX4_readBoth 45 = .ok (.iconst 0, 1) := by decide +kernel
theorem dX4_readBoth_46 : decode cX4_readBoth 46 = .ok (.ireturn, 1) := by decide +kernel
theorem dX4_readFactor_0 : decode cX4_readFactor 0 = .ok (.aload_n 0, 1) := by decide +kernel
theorem dX4_readFactor_1 : decode cX4_readFactor 1 = .ok (.invokevirtual 63, 3) := by decide +kernel
theorem dX4_readFactor_4 : decode cX4_readFactor 4 = .ok (.bipush 33, 2) := by decide +kernel
theorem dX4_readFactor_6 : decode cX4_readFactor 6 = .ok (.if_icmp .eq 17, 3) := by decide +kernel
theorem dX4_readFactor_9 : decode cX4_readFactor 9 = .ok (.aload_n 0, 1) := by decide +kernel
theorem dX4_readFactor_10 : decode cX4_readFactor 10 = .ok (.invokevirtual 63, 3) := by decide +kernel
theorem dX4_readFactor_13 : decode cX4_readFactor 13 = .ok (.bipush 40, 2) := by decide +kernel
theorem dX4_readFactor_15 : decode cX4_readFactor 15 = .ok (.if_icmp .eq 8, 3) := by decide +kernel
theorem dX4_readFactor_18 : decode cX4_readFactor 18 = .ok (.aload_n 0, 1) := by decide +kernel
theorem dX4_readFactor_19 : decode cX4_readFactor 19 = .ok (.invokevirtual 111, 3) := by decide +kernel
theorem dX4_readFactor_22 : decode cX4_readFactor 22 = .ok (.ireturn, 1) := by decide +kernel
theorem dX4_readFactor_23 : decode cX4_readFactor 23 = .ok (.iload_n 1, 1) := by decide +kernel
theorem dX4_readFactor_24 : decode cX4_readFactor 24 = .ok (.iconst 5, 1) := by decide +kernel
theorem dX4_readFactor_25 : decode cX4_readFactor 25 = .ok (.if_icmp .lt 5, 3) := by decide +kernel
theorem dX4_readFactor_28 : decode cX4_readFactor 28 = .ok (.iconst 0, 1) := by decide +kernel
theorem dX4_readFactor_29 : decode cX4_readFactor 29 = .ok (.ireturn, 1) := by decide +kernel
theorem dX4_readFactor_30 : decode cX4_readFactor 30 = .ok (.aload_n 0, 1) := by decide +kernel
theorem dX4_readFactor_31 : decode cX4_readFactor 31 = .ok (.bipush 40, 2) := by decide +kernel
theorem dX4_readFactor_33 : decode cX4_readFactor 33 = .ok (.invokevirtual 59, 3) := by decide +kernel
theorem dX4_readFactor_36 : decode cX4_readFactor 36 = .ok (.ifCond .eq 28, 3) := by decide +kernel
theorem dX4_readFactor_39 : decode cX4_readFactor 39 = .ok (.aload_n 0, 1) := by decide +kernel
theorem dX4_readFactor_40 : decode cX4_readFactor 40 = .ok (.iload_n 1, 1) := by decide +kernel
theorem dX4_readFactor_41 : decode cX4_readFactor 41 = .ok (.iconst 1, 1) := by decide +kernel
theorem dX4_readFactor_42 : decode cX4_readFactor 42 = .ok (.iadd, 1) := by decide +kernel
theorem dX4_readFactor_43 : decode cX4_readFactor 43 = .ok (.invokevirtual 89, 3) := by decide +kernel
theorem dX4_readFactor_46 : decode cX4_readFactor 46 = .ok (.ifCond .eq 16, 3) := by decide +kernel
theorem dX4_readFactor_49 : decode cX4_readFactor 49 = .ok (.aload_n 0, 1) := by decide +kernel
theorem dX4_readFactor_50 : decode cX4_readFactor 50 = .ok (.bipush 41, 2) := by decide +kernel
theorem dX4_readFactor_52 : decode cX4_readFactor 52 = .ok (.invokevirtual 59, 3) := by decide +kernel
theorem dX4_readFactor_55 : decode cX4_readFactor 55 = .ok (.ifCond .eq 7, 3) := by decide +kernel
theorem dX4_readFactor_58 : decode cX4_readFactor 58 = .ok (.iconst 1, 1) := by decide +kernel
theorem dX4_readFactor_59 : decode cX4_readFactor 59 = .ok (.goto 4, 3) := by decide +kernel
theorem dX4_readFactor_62 : decode cX4_readFactor 62 = .ok (.iconst 0, 1) := by decide +kernel
theorem dX4_readFactor_63 : decode cX4_readFactor 63 = .ok (.ireturn, 1) := by decide +kernel
theorem dX4_readFactor_64 : decode cX4_readFactor 64 = .ok (.aload_n 0, 1) := by decide +kernel
theorem dX4_readFactor_65 : decode cX4_readFactor 65 = .ok (.dup, 1) := by decide +kernel
theorem dX4_readFactor_66 : decode cX4_readFactor 66 = .ok (.getfield 43, 3) := by decide +kernel
theorem dX4_readFactor_69 : decode cX4_readFactor 69 = .ok (.iconst 1, 1) := by decide +kernel
theorem dX4_readFactor_70 : decode cX4_readFactor 70 = .ok (.iadd, 1) := by decide +kernel
theorem dX4_readFactor_71 : decode cX4_readFactor 71 = .ok (.putfield 43, 3) := by decide +kernel
theorem dX4_readFactor_74 : decode cX4_readFactor 74 = .ok (.aload_n 0, 1) := by decide +kernel
theorem dX4_readFactor_75 : decode cX4_readFactor 75 = .ok (.iload_n 1, 1) := by decide +kernel
theorem dX4_readFactor_76 : decode cX4_readFactor 76 = .ok (.iconst 1, 1) := by decide +kernel
theorem dX4_readFactor_77 : decode cX4_readFactor 77 = .ok (.iadd, 1) := by decide +kernel
theorem dX4_readFactor_78 : decode cX4_readFactor 78 = .ok (.invokevirtual 108, 3) := by decide +kernel
theorem dX4_readFactor_81 : decode cX4_readFactor 81 = .ok (.ifCond .ne 5, 3) := by decide +kernel
theorem dX4_readFactor_84 : decode cX4_readFactor 84 = .ok (.iconst 0, 1) := by decide +kernel
theorem dX4_readFactor_85 : decode cX4_readFactor 85 = .ok (.ireturn, 1) := by decide +kernel
theorem dX4_readFactor_86 : decode cX4_readFactor 86 = .ok (.aload_n 0, 1) := by decide +kernel
theorem dX4_readFactor_87 : decode cX4_readFactor 87 = .ok (.bipush (-3), 2) := by decide +kernel
theorem dX4_readFactor_89 : decode cX4_readFactor 89 = .ok (.invokevirtual 105, 3) := by decide +kernel
theorem dX4_readFactor_92 : decode cX4_readFactor 92 = .ok (.iconst 1, 1) := by decide +kernel
theorem dX4_readFactor_93 : decode cX4_readFactor 93 = .ok (.ireturn, 1) := by decide +kernel
theorem dX4_readTest_0 : decode cX4_readTest 0 = .ok (.aload_n 0, 1) := by decide +kernel
theorem dX4_readTest_1 : decode cX4_readTest 1 = .ok (.ldc 114, 2) := by decide +kernel
theorem dX4_readTest_3 : decode cX4_readTest 3 = .ok (.invokevirtual 98, 3) := by decide +kernel
theorem dX4_readTest_6 : decode cX4_readTest 6 = .ok (.istore_n 1, 1) := by decide +kernel
theorem dX4_readTest_7 : decode cX4_readTest 7 = .ok (.iload_n 1, 1) := by decide +kernel
theorem dX4_readTest_8 : decode cX4_readTest 8 = .ok (.ifCond .ge 5, 3) := by decide +kernel
theorem dX4_readTest_11 : decode cX4_readTest 11 = .ok (.iconst 0, 1) := by decide +kernel
theorem dX4_readTest_12 : decode cX4_readTest 12 = .ok (.ireturn, 1) := by decide +kernel
theorem dX4_readTest_13 : decode cX4_readTest 13 = .ok (.aload_n 0, 1) := by decide +kernel
theorem dX4_readTest_14 : decode cX4_readTest 14 = .ok (.ldc 116, 2) := by decide +kernel
theorem dX4_readTest_16 : decode cX4_readTest 16 = .ok (.invokevirtual 98, 3) := by decide +kernel
theorem dX4_readTest_19 : decode cX4_readTest 19 = .ok (.istore_n 2, 1) := by decide +kernel
theorem dX4_readTest_20 : decode cX4_readTest 20 = .ok (.iload_n 2, 1) := by decide +kernel
theorem dX4_readTest_21 : decode cX4_readTest 21 = .ok (.ifCond .ge 5, 3) := by decide +kernel
theorem dX4_readTest_24 : decode cX4_readTest 24 = .ok (.iconst 0, 1) := by decide +kernel
theorem dX4_readTest_25 : decode cX4_readTest 25 = .ok (.ireturn, 1) := by decide +kernel
theorem dX4_readTest_26 : decode cX4_readTest 26 = .ok (.aload_n 0, 1) := by decide +kernel
theorem dX4_readTest_27 : decode cX4_readTest 27 = .ok (.invokevirtual 86, 3) := by decide +kernel
theorem dX4_readTest_30 : decode cX4_readTest 30 = .ok (.istore_n 3, 1) := by decide +kernel
theorem dX4_readTest_31 : decode cX4_readTest 31 = .ok (.iload_n 3, 1) := by decide +kernel
theorem dX4_readTest_32 : decode cX4_readTest 32 = .ok (.ifCond .ge 5, 3) := by decide +kernel
theorem dX4_readTest_35 : decode cX4_readTest 35 = .ok (.iconst 0, 1) := by decide +kernel
theorem dX4_readTest_36 : decode cX4_readTest 36 = .ok (.ireturn, 1) := by decide +kernel
theorem dX4_readTest_37 : decode cX4_readTest 37 = .ok (.aload_n 0, 1) := by decide +kernel
theorem dX4_readTest_38 : decode cX4_readTest 38 = .ok (.iload_n 1, 1) := by decide +kernel
theorem dX4_readTest_39 : decode cX4_readTest 39 = .ok (.iconst 3, 1) := by decide +kernel
theorem dX4_readTest_40 : decode cX4_readTest 40 = .ok (.imul, 1) := by decide +kernel
theorem dX4_readTest_41 : decode cX4_readTest 41 = .ok (.iload_n 2, 1) := by decide +kernel
theorem dX4_readTest_42 : decode cX4_readTest 42 = .ok (.iadd, 1) := by decide +kernel
theorem dX4_readTest_43 : decode cX4_readTest 43 = .ok (.bipush 100, 2) := by decide +kernel
theorem dX4_readTest_45 : decode cX4_readTest 45 = .ok (.imul, 1) := by decide +kernel
theorem dX4_readTest_46 : decode cX4_readTest 46 = .ok (.iload_n 3, 1) := by decide +kernel
theorem dX4_readTest_47 : decode cX4_readTest 47 = .ok (.iadd, 1) := by decide +kernel
theorem dX4_readTest_48 : decode cX4_readTest 48 = .ok (.invokevirtual 105, 3) := by decide +kernel
theorem dX4_readTest_51 : decode cX4_readTest 51 = .ok (.iconst 1, 1) := by decide +kernel
theorem dX4_readTest_52 : decode cX4_readTest 52 = .ok (.ireturn, 1) := by decide +kernel
theorem dX4_worth_0 : decode cX4_worth 0 = .ok (.iconst 0, 1) := by decide +kernel
theorem dX4_worth_1 : decode cX4_worth 1 = .ok (.istore_n 2, 1) := by decide +kernel
theorem dX4_worth_2 : decode cX4_worth 2 = .ok (.iconst 0, 1) := by decide +kernel
theorem dX4_worth_3 : decode cX4_worth 3 = .ok (.istore_n 3, 1) := by decide +kernel
theorem dX4_worth_4 : decode cX4_worth 4 = .ok (.iconst 0, 1) := by decide +kernel
theorem dX4_worth_5 : decode cX4_worth 5 = .ok (.istore 4, 2) := by decide +kernel
theorem dX4_worth_7 : decode cX4_worth 7 = .ok (.iload 4, 2) := by decide +kernel
theorem dX4_worth_9 : decode cX4_worth 9 = .ok (.aload_n 0, 1) := by decide +kernel
theorem dX4_worth_10 : decode cX4_worth 10 = .ok (.getfield 49, 3) := by decide +kernel
theorem dX4_worth_13 : decode cX4_worth 13 = .ok (.if_icmp .ge 50, 3) := by decide +kernel
theorem dX4_worth_16 : decode cX4_worth 16 = .ok (.iload 4, 2) := by decide +kernel
theorem dX4_worth_18 : decode cX4_worth 18 = .ok (.bipush 8, 2) := by decide +kernel
theorem dX4_worth_20 : decode cX4_worth 20 = .ok (.if_icmp .ge 43, 3) := by decide +kernel
theorem dX4_worth_23 : decode cX4_worth 23 = .ok (.aload_n 0, 1) := by decide +kernel
theorem dX4_worth_24 : decode cX4_worth 24 = .ok (.iload_n 3, 1) := by decide +kernel
theorem dX4_worth_25 : decode cX4_worth 25 = .ok (.aload_n 0, 1) := by decide +kernel
theorem dX4_worth_26 : decode cX4_worth 26 = .ok (.getfield 21, 3) := by decide +kernel
theorem dX4_worth_29 : decode cX4_worth 29 = .ok (.iload 4, 2) := by decide +kernel
theorem dX4_worth_31 : decode cX4_worth 31 = .ok (.iaload, 1) := by decide +kernel
theorem dX4_worth_32 : decode cX4_worth 32 = .ok (.aload_n 1, 1) := by decide +kernel
theorem dX4_worth_33 : decode cX4_worth 33 = .ok (.invokevirtual 118, 3) := by decide +kernel
theorem dX4_worth_36 : decode cX4_worth 36 = .ok (.ifCond .eq 13, 3) := by decide +kernel
theorem dX4_worth_39 : decode cX4_worth 39 = .ok (.iload_n 2, 1) := by decide +kernel
theorem dX4_worth_40 : decode cX4_worth 40 = .ok (.aload_n 0, 1) := by decide +kernel
theorem dX4_worth_41 : decode cX4_worth 41 = .ok (.getfield 18, 3) := by decide +kernel
theorem dX4_worth_44 : decode cX4_worth 44 = .ok (.iload 4, 2) := by decide +kernel
theorem dX4_worth_46 : decode cX4_worth 46 = .ok (.iaload, 1) := by decide +kernel
theorem dX4_worth_47 : decode cX4_worth 47 = .ok (.iadd, 1) := by decide +kernel
theorem dX4_worth_48 : decode cX4_worth 48 = .ok (.istore_n 2, 1) := by decide +kernel
theorem dX4_worth_49 : decode cX4_worth 49 = .ok (.aload_n 0, 1) := by decide +kernel
theorem dX4_worth_50 : decode cX4_worth 50 = .ok (.getfield 21, 3) := by decide +kernel
theorem dX4_worth_53 : decode cX4_worth 53 = .ok (.iload 4, 2) := by decide +kernel
theorem dX4_worth_55 : decode cX4_worth 55 = .ok (.iaload, 1) := by decide +kernel
theorem dX4_worth_56 : decode cX4_worth 56 = .ok (.istore_n 3, 1) := by decide +kernel
theorem dX4_worth_57 : decode cX4_worth 57 = .ok (.iinc 4 1, 3) := by decide +kernel
theorem dX4_worth_60 : decode cX4_worth 60 = .ok (.goto (-53), 3) := by decide +kernel
theorem dX4_worth_63 : decode cX4_worth 63 = .ok (.iload_n 2, 1) := by decide +kernel
theorem dX4_worth_64 : decode cX4_worth 64 = .ok (.ireturn, 1) := by decide +kernel
theorem dX4_holds_0 : decode cX4_holds 0 = .ok (.iconst 0, 1) := by decide +kernel
theorem dX4_holds_1 : decode cX4_holds 1 = .ok (.istore 4, 2) := by decide +kernel
theorem dX4_holds_3 : decode cX4_holds 3 = .ok (.iload_n 1, 1) := by decide +kernel
theorem dX4_holds_4 : decode cX4_holds 4 = .ok (.iconst 0, 1) := by decide +kernel
theorem dX4_holds_5 : decode cX4_holds 5 = .ok (.invokestatic 30, 3) := by decide +kernel
theorem dX4_holds_8 : decode cX4_holds 8 = .ok (.istore 5, 2) := by decide +kernel
theorem dX4_holds_10 : decode cX4_holds 10 = .ok (.iload 5, 2) := by decide +kernel
theorem dX4_holds_12 : decode cX4_holds 12 = .ok (.iload_n 2, 1) := by decide +kernel
theorem dX4_holds_13 : decode cX4_holds 13 = .ok (.if_icmp .ge 113, 3) := by decide +kernel
theorem dX4_holds_16 : decode cX4_holds 16 = .ok (.iload 5, 2) := by decide +kernel
theorem dX4_holds_18 : decode cX4_holds 18 = .ok (.bipush 100, 2) := by decide +kernel
theorem dX4_holds_20 : decode cX4_holds 20 = .ok (.if_icmp .ge 106, 3) := by decide +kernel
theorem dX4_holds_23 : decode cX4_holds 23 = .ok (.aload_n 0, 1) := by decide +kernel
theorem dX4_holds_24 : decode cX4_holds 24 = .ok (.getfield 15, 3) := by decide +kernel
theorem dX4_holds_27 : decode cX4_holds 27 = .ok (.iload 5, 2) := by decide +kernel
theorem dX4_holds_29 : decode cX4_holds 29 = .ok (.iaload, 1) := by decide +kernel
theorem dX4_holds_30 : decode cX4_holds 30 = .ok (.tableswitch 64 (-3) (-1) #[55, 40, 26], 26) := by decide +kernel
theorem dX4_holds_56 : decode cX4_holds 56 = .ok (.iload 4, 2) := by decide +kernel
theorem dX4_holds_58 : decode cX4_holds 58 = .ok (.iconst 1, 1) := by decide +kernel
theorem dX4_holds_59 : decode cX4_holds 59 = .ok (.iushr, 1) := by decide +kernel
theorem dX4_holds_60 : decode cX4_holds 60 = .ok (.iload 4, 2) := by decide +kernel
theorem dX4_holds_62 : decode cX4_holds 62 = .ok (.iconst 1, 1) := by decide +kernel
theorem dX4_holds_63 : decode cX4_holds 63 = .ok (.iand, 1) := by decide +kernel
theorem dX4_holds_64 : decode cX4_holds 64 = .ok (.ior, 1) := by decide +kernel
theorem dX4_holds_65 : decode cX4_holds 65 = .ok (.istore 4, 2) := by decide +kernel
theorem dX4_holds_67 : decode cX4_holds 67 = .ok (.goto 53, 3) := by decide +kernel
theorem dX4_holds_70 : decode cX4_holds 70 = .ok (.iload 4, 2) := by decide +kernel
theorem dX4_holds_72 : decode cX4_holds 72 = .ok (.iconst 1, 1) := by decide +kernel
theorem dX4_holds_73 : decode cX4_holds 73 = .ok (.iushr, 1) := by decide +kernel
theorem dX4_holds_74 : decode cX4_holds 74 = .ok (.iload 4, 2) := by decide +kernel
theorem dX4_holds_76 : decode cX4_holds 76 = .ok (.bipush (-2), 2) := by decide +kernel
theorem dX4_holds_78 : decode cX4_holds 78 = .ok (.ior, 1) := by decide +kernel
theorem dX4_holds_79 : decode cX4_holds 79 = .ok (.iand, 1) := by decide +kernel
theorem dX4_holds_80 : decode cX4_holds 80 = .ok (.istore 4, 2) := by decide +kernel
theorem dX4_holds_82 : decode cX4_holds 82 = .ok (.goto 38, 3) := by decide +kernel
theorem dX4_holds_85 : decode cX4_holds 85 = .ok (.iload 4, 2) := by decide +kernel
theorem dX4_holds_87 : decode cX4_holds 87 = .ok (.iconst 1, 1) := by decide +kernel
theorem dX4_holds_88 : decode cX4_holds 88 = .ok (.ixor, 1) := by decide +kernel
theorem dX4_holds_89 : decode cX4_holds 89 = .ok (.istore 4, 2) := by decide +kernel
theorem dX4_holds_91 : decode cX4_holds 91 = .ok (.goto 29, 3) := by decide +kernel
theorem dX4_holds_94 : decode cX4_holds 94 = .ok (.iload 4, 2) := by decide +kernel
theorem dX4_holds_96 : decode cX4_holds 96 = .ok (.iconst 1, 1) := by decide +kernel
theorem dX4_holds_97 : decode cX4_holds 97 = .ok (.ishl, 1) := by decide +kernel
theorem dX4_holds_98 : decode cX4_holds 98 = .ok (.aload_n 0, 1) := by decide +kernel
theorem dX4_holds_99 : decode cX4_holds 99 = .ok (.getfield 15, 3) := by decide +kernel
theorem dX4_holds_102 : decode cX4_holds 102 = .ok (.iload 5, 2) := by decide +kernel
theorem dX4_holds_104 : decode cX4_holds 104 = .ok (.iaload, 1) := by decide +kernel
theorem dX4_holds_105 : decode cX4_holds 105 = .ok (.aload_n 3, 1) := by decide +kernel
theorem dX4_holds_106 : decode cX4_holds 106 = .ok (.invokestatic 122, 3) := by decide +kernel
theorem dX4_holds_109 : decode cX4_holds 109 = .ok (.ifCond .eq 7, 3) := by decide +kernel
theorem dX4_holds_112 : decode cX4_holds 112 = .ok (.iconst 1, 1) := by decide +kernel
theorem dX4_holds_113 : decode cX4_holds 113 = .ok (.goto 4, 3) := by decide +kernel
theorem dX4_holds_116 : decode cX4_holds 116 = .ok (.iconst 0, 1) := by decide +kernel
theorem dX4_holds_117 : decode cX4_holds 117 = .ok (.ior, 1) := by decide +kernel
theorem dX4_holds_118 : decode cX4_holds 118 = .ok (.istore 4, 2) := by decide +kernel
theorem dX4_holds_120 : decode cX4_holds 120 = .ok (.iinc 5 1, 3) := by decide +kernel
theorem dX4_holds_123 : decode cX4_holds 123 = .ok (.goto (-113), 3) := by decide +kernel
theorem dX4_holds_126 : decode cX4_holds 126 = .ok (.iload 4, 2) := by decide +kernel
theorem dX4_holds_128 : decode cX4_holds 128 = .ok (.iconst 1, 1) := by decide +kernel
theorem dX4_holds_129 : decode cX4_holds 129 = .ok (.iand, 1) := by decide +kernel
theorem dX4_holds_130 : decode cX4_holds 130 = .ok (.iconst 1, 1) := by decide +kernel
theorem dX4_holds_131 : decode cX4_holds 131 = .ok (.if_icmp .ne 7, 3) := by decide +kernel
theorem dX4_holds_134 : decode cX4_holds 134 = .ok (.iconst 1, 1) := by decide +kernel
theorem dX4_holds_135 : decode cX4_holds 135 = .ok (.goto 4, 3) := by decide +kernel
theorem dX4_holds_138 : decode cX4_holds 138 = .ok (.iconst 0, 1) := by decide +kernel
theorem dX4_holds_139 : decode cX4_holds 139 = .ok (.ireturn, 1) := by decide +kernel
theorem dX4_passes_0 : decode cX4_passes 0 = .ok (.iload_n 0, 1) := by decide +kernel
theorem dX4_passes_1 : decode cX4_passes 1 = .ok (.bipush 100, 2) := by decide +kernel
theorem dX4_passes_3 : decode cX4_passes 3 = .ok (.idiv, 1) := by decide +kernel
theorem dX4_passes_4 : decode cX4_passes 4 = .ok (.iconst 3, 1) := by decide +kernel
theorem dX4_passes_5 : decode cX4_passes 5 = .ok (.idiv, 1) := by decide +kernel
theorem dX4_passes_6 : decode cX4_passes 6 = .ok (.istore_n 2, 1) := by decide +kernel
theorem dX4_passes_7 : decode cX4_passes 7 = .ok (.iload_n 2, 1) := by decide +kernel
theorem dX4_passes_8 : decode cX4_passes 8 = .ok (.ifCond .lt 9, 3) := by decide +kernel
theorem dX4_passes_11 : decode cX4_passes 11 = .ok (.iload_n 2, 1) := by decide +kernel
theorem dX4_passes_12 : decode cX4_passes 12 = .ok (.aload_n 1, 1) := by decide +kernel
theorem dX4_passes_13 : decode cX4_passes 13 = .ok (.arraylength, 1) := by decide +kernel
theorem dX4_passes_14 : decode cX4_passes 14 = .ok (.if_icmp .lt 5, 3) := by decide +kernel
theorem dX4_passes_17 : decode cX4_passes 17 = .ok (.iconst 0, 1) := by decide +kernel
theorem dX4_passes_18 : decode cX4_passes 18 = .ok (.ireturn, 1) := by decide +kernel
theorem dX4_passes_19 : decode cX4_passes 19 = .ok (.iload_n 0, 1) := by decide +kernel
theorem dX4_passes_20 : decode cX4_passes 20 = .ok (.bipush 100, 2) := by decide +kernel
theorem dX4_passes_22 : decode cX4_passes 22 = .ok (.irem, 1) := by decide +kernel
theorem dX4_passes_23 : decode cX4_passes 23 = .ok (.istore_n 3, 1) := by decide +kernel
theorem dX4_passes_24 : decode cX4_passes 24 = .ok (.iload_n 0, 1) := by decide +kernel
theorem dX4_passes_25 : decode cX4_passes 25 = .ok (.bipush 100, 2) := by decide +kernel
theorem dX4_passes_27 : decode cX4_passes 27 = .ok (.idiv, 1) := by decide +kernel
theorem dX4_passes_28 : decode cX4_passes 28 = .ok (.iconst 3, 1) := by decide +kernel
theorem dX4_passes_29 : decode cX4_passes 29 = .ok (.irem, 1) := by decide +kernel
theorem dX4_passes_30 : decode cX4_passes 30 = .ok (.lookupswitch 52 #[(0, 26), (1, 39)], 26) := by decide +kernel
theorem dX4_passes_56 : decode cX4_passes 56 = .ok (.aload_n 1, 1) := by decide +kernel
theorem dX4_passes_57 : decode cX4_passes 57 = .ok (.iload_n 2, 1) := by decide +kernel
theorem dX4_passes_58 : decode cX4_passes 58 = .ok (.iaload, 1) := by decide +kernel
theorem dX4_passes_59 : decode cX4_passes 59 = .ok (.iload_n 3, 1) := by decide +kernel
theorem dX4_passes_60 : decode cX4_passes 60 = .ok (.if_icmp .ge 7, 3) := by decide +kernel
theorem dX4_passes_63 : decode cX4_passes 63 = .ok (.iconst 1, 1) := by decide +kernel
theorem dX4_passes_64 : decode cX4_passes 64 = .ok (.goto 4, 3) := by decide +kernel
theorem dX4_passes_67 : decode cX4_passes 67 = .ok (.iconst 0, 1) := by decide +kernel
theorem dX4_passes_68 : decode cX4_passes 68 = .ok (.ireturn, 1) := by decide +kernel
theorem dX4_passes_69 : decode cX4_passes 69 = .ok (.aload_n 1, 1) := by decide +kernel
theorem dX4_passes_70 : decode cX4_passes 70 = .ok (.iload_n 2, 1) := by decide +kernel
theorem dX4_passes_71 : decode cX4_passes 71 = .ok (.iaload, 1) := by decide +kernel
theorem dX4_passes_72 : decode cX4_passes 72 = .ok (.iload_n 3, 1) := by decide +kernel
theorem dX4_passes_73 : decode cX4_passes 73 = .ok (.if_icmp .ne 7, 3) := by decide +kernel
theorem dX4_passes_76 : decode cX4_passes 76 = .ok (.iconst 1, 1) := by decide +kernel
theorem dX4_passes_77 : decode cX4_passes 77 = .ok (.goto 4, 3) := by decide +kernel
theorem dX4_passes_80 : decode cX4_passes 80 = .ok (.iconst 0, 1) := by decide +kernel
theorem dX4_passes_81 : decode cX4_passes 81 = .ok (.ireturn, 1) := by decide +kernel
theorem dX4_passes_82 : decode cX4_passes 82 = .ok (.aload_n 1, 1) := by decide +kernel
theorem dX4_passes_83 : decode cX4_passes 83 = .ok (.iload_n 2, 1) := by decide +kernel
theorem dX4_passes_84 : decode cX4_passes 84 = .ok (.iaload, 1) := by decide +kernel
theorem dX4_passes_85 : decode cX4_passes 85 = .ok (.iload_n 3, 1) := by decide +kernel
theorem dX4_passes_86 : decode cX4_passes 86 = .ok (.if_icmp .le 7, 3) := by decide +kernel
theorem dX4_passes_89 : decode cX4_passes 89 = .ok (.iconst 1, 1) := by decide +kernel
theorem dX4_passes_90 : decode cX4_passes 90 = .ok (.goto 4, 3) := by decide +kernel
theorem dX4_passes_93 : decode cX4_passes 93 = .ok (.iconst 0, 1) := by decide +kernel
theorem dX4_passes_94 : decode cX4_passes 94 = .ok (.ireturn, 1) := by decide +kernel
end CDC
end
section
section CDC
theorem dX5_init_0 : decode cX5_init 0 = .ok (.aload_n 0, 1) := by decide +kernel
theorem dX5_init_1 : decode cX5_init 1 = .ok (.invokespecial 3, 3) := by decide +kernel
theorem dX5_init_4 : decode cX5_init 4 = .ok (.aload_n 0, 1) := by decide +kernel
theorem dX5_init_5 : decode cX5_init 5 = .ok (.new 9, 3) := by decide +kernel
theorem dX5_init_8 : decode cX5_init 8 = .ok (.dup, 1) := by decide +kernel
theorem dX5_init_9 : decode cX5_init 9 = .ok (.invokespecial 11, 3) := by decide +kernel
theorem dX5_init_12 : decode cX5_init 12 = .ok (.putfield 12, 3) := by decide +kernel
theorem dX5_init_15 : decode cX5_init 15 = .ok (.aload_n 0, 1) := by decide +kernel
theorem dX5_init_16 : decode cX5_init 16 = .ok (.new 9, 3) := by decide +kernel
theorem dX5_init_19 : decode cX5_init 19 = .ok (.dup, 1) := by decide +kernel
theorem dX5_init_20 : decode cX5_init 20 = .ok (.invokespecial 11, 3) := by decide +kernel
theorem dX5_init_23 : decode cX5_init 23 = .ok (.putfield 16, 3) := by decide +kernel
theorem dX5_init_26 : decode cX5_init 26 = .ok (.aload_n 0, 1) := by decide +kernel
theorem dX5_init_27 : decode cX5_init 27 = .ok (.new 19, 3) := by decide +kernel
theorem dX5_init_30 : decode cX5_init 30 = .ok (.dup, 1) := by decide +kernel
theorem dX5_init_31 : decode cX5_init 31 = .ok (.invokespecial 21, 3) := by decide +kernel
theorem dX5_init_34 : decode cX5_init 34 = .ok (.putfield 22, 3) := by decide +kernel
theorem dX5_init_37 : decode cX5_init 37 = .ok (.aload_n 0, 1) := by decide +kernel
theorem dX5_init_38 : decode cX5_init 38 = .ok (.iconst 5, 1) := by decide +kernel
theorem dX5_init_39 : decode cX5_init 39 = .ok (.anewarray 19, 3) := by decide +kernel
theorem dX5_init_42 : decode cX5_init 42 = .ok (.putfield 26, 3) := by decide +kernel
theorem dX5_init_45 : decode cX5_init 45 = .ok (.aload_n 0, 1) := by decide +kernel
theorem dX5_init_46 : decode cX5_init 46 = .ok (.new 30, 3) := by decide +kernel
theorem dX5_init_49 : decode cX5_init 49 = .ok (.dup, 1) := by decide +kernel
theorem dX5_init_50 : decode cX5_init 50 = .ok (.aload_n 0, 1) := by decide +kernel
theorem dX5_init_51 : decode cX5_init 51 = .ok (.getfield 12, 3) := by decide +kernel
theorem dX5_init_54 : decode cX5_init 54 = .ok (.getfield 32, 3) := by decide +kernel
theorem dX5_init_57 : decode cX5_init 57 = .ok (.invokespecial 36, 3) := by decide +kernel
theorem dX5_init_60 : decode cX5_init 60 = .ok (.putfield 39, 3) := by decide +kernel
theorem dX5_init_63 : decode cX5_init 63 = .ok (.aload_n 0, 1) := by decide +kernel
theorem dX5_init_64 : decode cX5_init 64 = .ok (.new 30, 3) := by decide +kernel
theorem dX5_init_67 : decode cX5_init 67 = .ok (.dup, 1) := by decide +kernel
theorem dX5_init_68 : decode cX5_init 68 = .ok (.new 43, 3) := by decide +kernel
theorem dX5_init_71 : decode cX5_init 71 = .ok (.dup, 1) := by decide +kernel
theorem dX5_init_72 : decode cX5_init 72 = .ok (.invokespecial 45, 3) := by decide +kernel
theorem dX5_init_75 : decode cX5_init 75 = .ok (.invokespecial 36, 3) := by decide +kernel
theorem dX5_init_78 : decode cX5_init 78 = .ok (.putfield 46, 3) := by decide +kernel
theorem dX5_init_81 : decode cX5_init 81 = .ok (.aload_n 0, 1) := by decide +kernel
theorem dX5_init_82 : decode cX5_init 82 = .ok (.sipush 201, 3) := by decide +kernel
theorem dX5_init_85 : decode cX5_init 85 = .ok (.newarray .int, 2) := by decide +kernel
theorem dX5_init_87 : decode cX5_init 87 = .ok (.putfield 49, 3) := by decide +kernel
theorem dX5_init_90 : decode cX5_init 90 = .ok (.aload_n 0, 1) := by decide +kernel
theorem dX5_init_91 : decode cX5_init 91 = .ok (.new 53, 3) := by decide +kernel
theorem dX5_init_94 : decode cX5_init 94 = .ok (.dup, 1) := by decide +kernel
theorem dX5_init_95 : decode cX5_init 95 = .ok (.invokespecial 55, 3) := by decide +kernel
theorem dX5_init_98 : decode cX5_init 98 = .ok (.putfield 56, 3) := by decide +kernel
theorem dX5_init_101 : decode cX5_init 101 = .ok (.iconst 0, 1) := by decide +kernel
theorem dX5_init_102 : decode cX5_init 102 = .ok (.istore_n 1, 1) := by decide +kernel
theorem dX5_init_103 : decode cX5_init 103 = .ok (.iload_n 1, 1) := by decide +kernel
theorem dX5_init_104 : decode cX5_init 104 = .ok (.aload_n 0, 1) := by decide +kernel
theorem dX5_init_105 : decode cX5_init 105 = .ok (.getfield 26, 3) := by decide +kernel
theorem dX5_init_108 : decode cX5_init 108 = .ok (.arraylength, 1) := by decide +kernel
theorem dX5_init_109 : decode cX5_init 109 = .ok (.if_icmp .ge 22, 3) := by decide +kernel
theorem dX5_init_112 : decode cX5_init 112 = .ok (.aload_n 0, 1) := by decide +kernel
theorem dX5_init_113 : decode cX5_init 113 = .ok (.getfield 26, 3) := by decide +kernel
theorem dX5_init_116 : decode cX5_init 116 = .ok (.iload_n 1, 1) := by decide +kernel
theorem dX5_init_117 : decode cX5_init 117 = .ok (.new 19, 3) := by decide +kernel
theorem dX5_init_120 : decode cX5_init 120 = .ok (.dup, 1) := by decide +kernel
theorem dX5_init_121 : decode cX5_init 121 = .ok (.invokespecial 21, 3) := by decide +kernel
theorem dX5_init_124 : decode cX5_init 124 = .ok (.aastore, 1) := by decide +kernel
theorem dX5_init_125 : decode cX5_init 125 = .ok (.iinc 1 1, 3) := by decide +kernel
theorem dX5_init_128 : decode cX5_init 128 = .ok (.goto (-25), 3) := by decide +kernel
theorem dX5_init_131 : decode cX5_init 131 = .ok (.return_, 1) := by decide +kernel
theorem dX5_feed_0 : decode cX5_feed 0 = .ok (.iload_n 1, 1) := by decide +kernel
theorem dX5_feed_1 : decode cX5_feed 1 = .ok (.ifCond .lt 9, 3) := by decide +kernel
theorem dX5_feed_4 : decode cX5_feed 4 = .ok (.iload_n 1, 1) := by decide +kernel
theorem dX5_feed_5 : decode cX5_feed 5 = .ok (.bipush 127, 2) := by decide +kernel
theorem dX5_feed_7 : decode cX5_feed 7 = .ok (.if_icmp .le 6, 3) := by decide +kernel
theorem dX5_feed_10 : decode cX5_feed 10 = .ok (.bipush (-2), 2) := by decide +kernel
theorem dX5_feed_12 : decode cX5_feed 12 = .ok (.ireturn, 1) := by decide +kernel
theorem dX5_feed_13 : decode cX5_feed 13 = .ok (.aload_n 0, 1) := by decide +kernel
theorem dX5_feed_14 : decode cX5_feed 14 = .ok (.getfield 12, 3) := by decide +kernel
theorem dX5_feed_17 : decode cX5_feed 17 = .ok (.getfield 60, 3) := by decide +kernel
theorem dX5_feed_20 : decode cX5_feed 20 = .ok (.ifCond .lt 21, 3) := by decide +kernel
theorem dX5_feed_23 : decode cX5_feed 23 = .ok (.aload_n 0, 1) := by decide +kernel
theorem dX5_feed_24 : decode cX5_feed 24 = .ok (.getfield 12, 3) := by decide +kernel
theorem dX5_feed_27 : decode cX5_feed 27 = .ok (.getfield 60, 3) := by decide +kernel
theorem dX5_feed_30 : decode cX5_feed 30 = .ok (.aload_n 0, 1) := by decide +kernel
theorem dX5_feed_31 : decode cX5_feed 31 = .ok (.getfield 12, 3) := by decide +kernel
theorem dX5_feed_34 : decode cX5_feed 34 = .ok (.getfield 64, 3) := by decide +kernel
theorem dX5_feed_37 : decode cX5_feed 37 = .ok (.arraylength, 1) := by decide +kernel
theorem dX5_feed_38 : decode cX5_feed 38 = .ok (.if_icmp .lt 6, 3) := by decide +kernel
theorem dX5_feed_41 : decode cX5_feed 41 = .ok (.bipush (-4), 2) := by decide +kernel
theorem dX5_feed_43 : decode cX5_feed 43 = .ok (.ireturn, 1) := by decide +kernel
theorem dX5_feed_44 : decode cX5_feed 44 = .ok (.aload_n 0, 1) := by decide +kernel
theorem dX5_feed_45 : decode cX5_feed 45 = .ok (.getfield 12, 3) := by decide +kernel
theorem dX5_feed_48 : decode cX5_feed 48 = .ok (.getfield 64, 3) := by decide +kernel
theorem dX5_feed_51 : decode cX5_feed 51 = .ok (.aload_n 0, 1) := by decide +kernel
theorem dX5_feed_52 : decode cX5_feed 52 = .ok (.getfield 12, 3) := by decide +kernel
theorem dX5_feed_55 : decode cX5_feed 55 = .ok (.getfield 60, 3) := by decide +kernel
theorem dX5_feed_58 : decode cX5_feed 58 = .ok (.iload_n 1, 1) := by decide +kernel
theorem dX5_feed_59 : decode cX5_feed 59 = .ok (.iastore, 1) := by decide +kernel
theorem dX5_feed_60 : decode cX5_feed 60 = .ok (.aload_n 0, 1) := by decide +kernel
theorem dX5_feed_61 : decode cX5_feed 61 = .ok (.getfield 12, 3) := by decide +kernel
theorem dX5_feed_64 : decode cX5_feed 64 = .ok (.dup, 1) := by decide +kernel
theorem dX5_feed_65 : decode cX5_feed 65 = .ok (.getfield 60, 3) := by decide +kernel
theorem dX5_feed_68 : decode cX5_feed 68 = .ok (.iconst 1, 1) := by decide +kernel
theorem dX5_feed_69 : decode cX5_feed 69 = .ok (.iadd, 1) := by decide +kernel
theorem dX5_feed_70 : decode cX5_feed 70 = .ok (.putfield 60, 3) := by decide +kernel
theorem dX5_feed_73 : decode cX5_feed 73 = .ok (.aload_n 0, 1) := by decide +kernel
theorem dX5_feed_74 : decode cX5_feed 74 = .ok (.getfield 12, 3) := by decide +kernel
theorem dX5_feed_77 : decode cX5_feed 77 = .ok (.getfield 60, 3) := by decide +kernel
theorem dX5_feed_80 : decode cX5_feed 80 = .ok (.ireturn, 1) := by decide +kernel
theorem dX5_town_0 : decode cX5_town 0 = .ok (.aload_n 0, 1) := by decide +kernel
theorem dX5_town_1 : decode cX5_town 1 = .ok (.getfield 12, 3) := by decide +kernel
theorem dX5_town_4 : decode cX5_town 4 = .ok (.getfield 67, 3) := by decide +kernel
theorem dX5_town_7 : decode cX5_town 7 = .ok (.istore_n 1, 1) := by decide +kernel
theorem dX5_town_8 : decode cX5_town 8 = .ok (.iload_n 1, 1) := by decide +kernel
theorem dX5_town_9 : decode cX5_town 9 = .ok (.ifCond .lt 21, 3) := by decide +kernel
theorem dX5_town_12 : decode cX5_town 12 = .ok (.iload_n 1, 1) := by decide +kernel
theorem dX5_town_13 : decode cX5_town 13 = .ok (.aload_n 0, 1) := by decide +kernel
theorem dX5_town_14 : decode cX5_town 14 = .ok (.getfield 26, 3) := by decide +kernel
theorem dX5_town_17 : decode cX5_town 17 = .ok (.arraylength, 1) := by decide +kernel
theorem dX5_town_18 : decode cX5_town 18 = .ok (.if_icmp .ge 12, 3) := by decide +kernel
theorem dX5_town_21 : decode cX5_town 21 = .ok (.aload_n 0, 1) := by decide +kernel
theorem dX5_town_22 : decode cX5_town 22 = .ok (.getfield 26, 3) := by decide +kernel
theorem dX5_town_25 : decode cX5_town 25 = .ok (.iload_n 1, 1) := by decide +kernel
theorem dX5_town_26 : decode cX5_town 26 = .ok (.aaload, 1) := by decide +kernel
theorem dX5_town_27 : decode cX5_town 27 = .ok (.ifnonnull 6, 3) := by decide +kernel
theorem dX5_town_30 : decode cX5_town 30 = .ok (.bipush (-4), 2) := by decide +kernel
theorem dX5_town_32 : decode cX5_town 32 = .ok (.ireturn, 1) := by decide +kernel
theorem dX5_town_33 : decode cX5_town 33 = .ok (.aload_n 0, 1) := by decide +kernel
theorem dX5_town_34 : decode cX5_town 34 = .ok (.getfield 26, 3) := by decide +kernel
theorem dX5_town_37 : decode cX5_town 37 = .ok (.iload_n 1, 1) := by decide +kernel
theorem dX5_town_38 : decode cX5_town 38 = .ok (.aaload, 1) := by decide +kernel
theorem dX5_town_39 : decode cX5_town 39 = .ok (.aload_n 0, 1) := by decide +kernel
theorem dX5_town_40 : decode cX5_town 40 = .ok (.getfield 12, 3) := by decide +kernel
theorem dX5_town_43 : decode cX5_town 43 = .ok (.getfield 64, 3) := by decide +kernel
theorem dX5_town_46 : decode cX5_town 46 = .ok (.aload_n 0, 1) := by decide +kernel
theorem dX5_town_47 : decode cX5_town 47 = .ok (.getfield 12, 3) := by decide +kernel
theorem dX5_town_50 : decode cX5_town 50 = .ok (.getfield 60, 3) := by decide +kernel
theorem dX5_town_53 : decode cX5_town 53 = .ok (.invokevirtual 69, 3) := by decide +kernel
theorem dX5_town_56 : decode cX5_town 56 = .ok (.istore_n 2, 1) := by decide +kernel
theorem dX5_town_57 : decode cX5_town 57 = .ok (.aload_n 0, 1) := by decide +kernel
theorem dX5_town_58 : decode cX5_town 58 = .ok (.getfield 12, 3) := by decide +kernel
theorem dX5_town_61 : decode cX5_town 61 = .ok (.iconst 0, 1) := by decide +kernel
theorem dX5_town_62 : decode cX5_town 62 = .ok (.putfield 60, 3) := by decide +kernel
theorem dX5_town_65 : decode cX5_town 65 = .ok (.iload_n 2, 1) := by decide +kernel
theorem dX5_town_66 : decode cX5_town 66 = .ok (.ifCond .lt 8, 3) := by decide +kernel
theorem dX5_town_69 : decode cX5_town 69 = .ok (.bipush (-10), 2) := by decide +kernel
theorem dX5_town_71 : decode cX5_town 71 = .ok (.iload_n 2, 1) := by decide +kernel
theorem dX5_town_72 : decode cX5_town 72 = .ok (.isub, 1) := by decide +kernel
theorem dX5_town_73 : decode cX5_town 73 = .ok (.ireturn, 1) := by decide +kernel
theorem dX5_town_74 : decode cX5_town 74 = .ok (.aload_n 0, 1) := by decide +kernel
theorem dX5_town_75 : decode cX5_town 75 = .ok (.getfield 12, 3) := by decide +kernel
theorem dX5_town_78 : decode cX5_town 78 = .ok (.dup, 1) := by decide +kernel
theorem dX5_town_79 : decode cX5_town 79 = .ok (.getfield 67, 3) := by decide +kernel
theorem dX5_town_82 : decode cX5_town 82 = .ok (.iconst 1, 1) := by decide +kernel
theorem dX5_town_83 : decode cX5_town 83 = .ok (.iadd, 1) := by decide +kernel
theorem dX5_town_84 : decode cX5_town 84 = .ok (.putfield 67, 3) := by decide +kernel
theorem dX5_town_87 : decode cX5_town 87 = .ok (.aload_n 0, 1) := by decide +kernel
theorem dX5_town_88 : decode cX5_town 88 = .ok (.invokevirtual 73, 3) := by decide +kernel
theorem dX5_town_91 : decode cX5_town 91 = .ok (.iload_n 1, 1) := by decide +kernel
theorem dX5_town_92 : decode cX5_town 92 = .ok (.ireturn, 1) := by decide +kernel
theorem dX5_told_0 : decode cX5_told 0 = .ok (.iload_n 1, 1) := by decide +kernel
theorem dX5_told_1 : decode cX5_told 1 = .ok (.tableswitch 57 0 2 #[27, 35, 46], 27) := by decide +kernel
theorem dX5_told_28 : decode cX5_told 28 = .ok (.aload_n 0, 1) := by decide +kernel
theorem dX5_told_29 : decode cX5_told 29 = .ok (.invokevirtual 76, 3) := by decide +kernel
theorem dX5_told_32 : decode cX5_told 32 = .ok (.getfield 80, 3) := by decide +kernel
theorem dX5_told_35 : decode cX5_told 35 = .ok (.ireturn, 1) := by decide +kernel
theorem dX5_told_36 : decode cX5_told 36 = .ok (.aload_n 0, 1) := by decide +kernel
theorem dX5_told_37 : decode cX5_told 37 = .ok (.getfield 12, 3) := by decide +kernel
theorem dX5_told_40 : decode cX5_told 40 = .ok (.getfield 32, 3) := by decide +kernel
theorem dX5_told_43 : decode cX5_told 43 = .ok (.getfield 83, 3) := by decide +kernel
theorem dX5_told_46 : decode cX5_told 46 = .ok (.ireturn, 1) := by decide +kernel
theorem dX5_told_47 : decode cX5_told 47 = .ok (.aload_n 0, 1) := by decide +kernel
theorem dX5_told_48 : decode cX5_told 48 = .ok (.getfield 12, 3) := by decide +kernel
theorem dX5_told_51 : decode cX5_told 51 = .ok (.getfield 32, 3) := by decide +kernel
theorem dX5_told_54 : decode cX5_told 54 = .ok (.getfield 86, 3) := by decide +kernel
theorem dX5_told_57 : decode cX5_told 57 = .ok (.ireturn, 1) := by decide +kernel
theorem dX5_told_58 : decode cX5_told 58 = .ok (.iconst (-1), 1) := by decide +kernel
theorem dX5_told_59 : decode cX5_told 59 = .ok (.ireturn, 1) := by decide +kernel
theorem dX5_person_0 : decode cX5_person 0 = .ok (.iload_n 1, 1) := by decide +kernel
theorem dX5_person_1 : decode cX5_person 1 = .ok (.ifCond .lt 9, 3) := by decide +kernel
theorem dX5_person_4 : decode cX5_person 4 = .ok (.iload_n 1, 1) := by decide +kernel
theorem dX5_person_5 : decode cX5_person 5 = .ok (.bipush 7, 2) := by decide +kernel
theorem dX5_person_7 : decode cX5_person 7 = .ok (.if_icmp .lt 5, 3) := by decide +kernel
theorem dX5_person_10 : decode cX5_person 10 = .ok (.iconst (-1), 1) := by decide +kernel
theorem dX5_person_11 : decode cX5_person 11 = .ok (.ireturn, 1) := by decide +kernel
theorem dX5_person_12 : decode cX5_person 12 = .ok (.iload_n 2, 1) := by decide +kernel
theorem dX5_person_13 : decode cX5_person 13 = .ok (.ifCond .lt 9, 3) := by decide +kernel
theorem dX5_person_16 : decode cX5_person 16 = .ok (.iload_n 2, 1) := by decide +kernel
theorem dX5_person_17 : decode cX5_person 17 = .ok (.bipush 9, 2) := by decide +kernel
theorem dX5_person_19 : decode cX5_person 19 = .ok (.if_icmp .le 6, 3) := by decide +kernel
theorem dX5_person_22 : decode cX5_person 22 = .ok (.bipush (-2), 2) := by decide +kernel
theorem dX5_person_24 : decode cX5_person 24 = .ok (.ireturn, 1) := by decide +kernel
theorem dX5_person_25 : decode cX5_person 25 = .ok (.aload_n 0, 1) := by decide +kernel
theorem dX5_person_26 : decode cX5_person 26 = .ok (.getfield 12, 3) := by decide +kernel
theorem dX5_person_29 : decode cX5_person 29 = .ok (.getfield 32, 3) := by decide +kernel
theorem dX5_person_32 : decode cX5_person 32 = .ok (.iload_n 1, 1) := by decide +kernel
theorem dX5_person_33 : decode cX5_person 33 = .ok (.iload_n 2, 1) := by decide +kernel
theorem dX5_person_34 : decode cX5_person 34 = .ok (.invokevirtual 89, 3) := by decide +kernel
theorem dX5_person_37 : decode cX5_person 37 = .ok (.istore_n 3, 1) := by decide +kernel
theorem dX5_person_38 : decode cX5_person 38 = .ok (.iload_n 3, 1) := by decide +kernel
theorem dX5_person_39 : decode cX5_person 39 = .ok (.ifCond .ge 6, 3) := by decide +kernel
theorem dX5_person_42 : decode cX5_person 42 = .ok (.bipush (-4), 2) := by decide +kernel
theorem dX5_person_44 : decode cX5_person 44 = .ok (.ireturn, 1) := by decide +kernel
theorem dX5_person_45 : decode cX5_person 45 = .ok (.aload_n 0, 1) := by decide +kernel
theorem dX5_person_46 : decode cX5_person 46 = .ok (.getfield 39, 3) := by decide +kernel
theorem dX5_person_49 : decode cX5_person 49 = .ok (.invokevirtual 93, 3) := by decide +kernel
theorem dX5_person_52 : decode cX5_person 52 = .ok (.iload_n 3, 1) := by decide +kernel
theorem dX5_person_53 : decode cX5_person 53 = .ok (.ireturn, 1) := by decide +kernel
theorem dX5_of_0 : decode cX5_of 0 = .ok (.aload_n 0, 1) := by decide +kernel
theorem dX5_of_1 : decode cX5_of 1 = .ok (.getfield 12, 3) := by decide +kernel
theorem dX5_of_4 : decode cX5_of 4 = .ok (.getfield 32, 3) := by decide +kernel
theorem dX5_of_7 : decode cX5_of 7 = .ok (.astore_n 3, 1) := by decide +kernel
theorem dX5_of_8 : decode cX5_of 8 = .ok (.aload_n 3, 1) := by decide +kernel
theorem dX5_of_9 : decode cX5_of 9 = .ok (.iload_n 1, 1) := by decide +kernel
theorem dX5_of_10 : decode cX5_of 10 = .ok (.invokevirtual 96, 3) := by decide +kernel
theorem dX5_of_13 : decode cX5_of 13 = .ok (.ifCond .ne 5, 3) := by decide +kernel
theorem dX5_of_16 : decode cX5_of 16 = .ok (.iconst (-1), 1) := by decide +kernel
theorem dX5_of_17 : decode cX5_of 17 = .ok (.ireturn, 1) := by decide +kernel
theorem dX5_of_18 : decode cX5_of 18 = .ok (.iload_n 2, 1) := by decide +kernel
theorem dX5_of_19 : decode cX5_of 19 = .ok (.tableswitch 72 0 3 #[29, 36, 43, 66], 29) := by decide +kernel
theorem dX5_of_48 : decode cX5_of 48 = .ok (.aload_n 3, 1) := by decide +kernel
theorem dX5_of_49 : decode cX5_of 49 = .ok (.getfield 100, 3) := by decide +kernel
theorem dX5_of_52 : decode cX5_of 52 = .ok (.iload_n 1, 1) := by decide +kernel
theorem dX5_of_53 : decode cX5_of 53 = .ok (.iaload, 1) := by decide +kernel
theorem dX5_of_54 : decode cX5_of 54 = .ok (.ireturn, 1) := by decide +kernel
theorem dX5_of_55 : decode cX5_of 55 = .ok (.aload_n 3, 1) := by decide +kernel
theorem dX5_of_56 : decode cX5_of 56 = .ok (.getfield 103, 3) := by decide +kernel
theorem dX5_of_59 : decode cX5_of 59 = .ok (.iload_n 1, 1) := by decide +kernel
theorem dX5_of_60 : decode cX5_of 60 = .ok (.iaload, 1) := by decide +kernel
theorem dX5_of_61 : decode cX5_of 61 = .ok (.ireturn, 1) := by decide +kernel
theorem dX5_of_62 : decode cX5_of 62 = .ok (.aload_n 3, 1) := by decide +kernel
theorem dX5_of_63 : decode cX5_of 63 = .ok (.getfield 100, 3) := by decide +kernel
theorem dX5_of_66 : decode cX5_of 66 = .ok (.iload_n 1, 1) := by decide +kernel
theorem dX5_of_67 : decode cX5_of 67 = .ok (.iaload, 1) := by decide +kernel
theorem dX5_of_68 : decode cX5_of 68 = .ok (.bipush 6, 2) := by decide +kernel
theorem dX5_of_70 : decode cX5_of 70 = .ok (.if_icmp .ne 12, 3) := by decide +kernel
theorem dX5_of_73 : decode cX5_of 73 = .ok (.aload_n 3, 1) := by decide +kernel
theorem dX5_of_74 : decode cX5_of 74 = .ok (.getfield 106, 3) := by decide +kernel
theorem dX5_of_77 : decode cX5_of 77 = .ok (.iload_n 1, 1) := by decide +kernel
theorem dX5_of_78 : decode cX5_of 78 = .ok (.iaload, 1) := by decide +kernel
theorem dX5_of_79 : decode cX5_of 79 = .ok (.goto 5, 3) := by decide +kernel
theorem dX5_of_82 : decode cX5_of 82 = .ok (.bipush (-5), 2) := by decide +kernel
theorem dX5_of_84 : decode cX5_of 84 = .ok (.ireturn, 1) := by decide +kernel
theorem dX5_of_85 : decode cX5_of 85 = .ok (.aload_n 3, 1) := by decide +kernel
theorem dX5_of_86 : decode cX5_of 86 = .ok (.iload_n 1, 1) := by decide +kernel
theorem dX5_of_87 : decode cX5_of 87 = .ok (.invokevirtual 109, 3) := by decide +kernel
theorem dX5_of_90 : decode cX5_of 90 = .ok (.ireturn, 1) := by decide +kernel
theorem dX5_of_91 : decode cX5_of 91 = .ok (.iconst (-1), 1) := by decide +kernel
theorem dX5_of_92 : decode cX5_of 92 = .ok (.ireturn, 1) := by decide +kernel
theorem dX5_row_0 : decode cX5_row 0 = .ok (.aload_n 0, 1) := by decide +kernel
theorem dX5_row_1 : decode cX5_row 1 = .ok (.getfield 12, 3) := by decide +kernel
theorem dX5_row_4 : decode cX5_row 4 = .ok (.getfield 32, 3) := by decide +kernel
theorem dX5_row_7 : decode cX5_row 7 = .ok (.astore_n 3, 1) := by decide +kernel
theorem dX5_row_8 : decode cX5_row 8 = .ok (.aload_n 3, 1) := by decide +kernel
theorem dX5_row_9 : decode cX5_row 9 = .ok (.iload_n 1, 1) := by decide +kernel
theorem dX5_row_10 : decode cX5_row 10 = .ok (.invokevirtual 96, 3) := by decide +kernel
theorem dX5_row_13 : decode cX5_row 13 = .ok (.ifCond .ne 5, 3) := by decide +kernel
theorem dX5_row_16 : decode cX5_row 16 = .ok (.iconst (-1), 1) := by decide +kernel
theorem dX5_row_17 : decode cX5_row 17 = .ok (.ireturn, 1) := by decide +kernel
theorem dX5_row_18 : decode cX5_row 18 = .ok (.iload_n 2, 1) := by decide +kernel
theorem dX5_row_19 : decode cX5_row 19 = .ok (.ifCond .lt 9, 3) := by decide +kernel
theorem dX5_row_22 : decode cX5_row 22 = .ok (.iload_n 2, 1) := by decide +kernel
theorem dX5_row_23 : decode cX5_row 23 = .ok (.bipush 8, 2) := by decide +kernel
theorem dX5_row_25 : decode cX5_row 25 = .ok (.if_icmp .lt 6, 3) := by decide +kernel
theorem dX5_row_28 : decode cX5_row 28 = .ok (.bipush (-2), 2) := by decide +kernel
theorem dX5_row_30 : decode cX5_row 30 = .ok (.ireturn, 1) := by decide +kernel
theorem dX5_row_31 : decode cX5_row 31 = .ok (.aload_n 3, 1) := by decide +kernel
theorem dX5_row_32 : decode cX5_row 32 = .ok (.getfield 100, 3) := by decide +kernel
theorem dX5_row_35 : decode cX5_row 35 = .ok (.iload_n 1, 1) := by decide +kernel
theorem dX5_row_36 : decode cX5_row 36 = .ok (.iaload, 1) := by decide +kernel
theorem dX5_row_37 : decode cX5_row 37 = .ok (.bipush 6, 2) := by decide +kernel
theorem dX5_row_39 : decode cX5_row 39 = .ok (.if_icmp .eq 6, 3) := by decide +kernel
theorem dX5_row_42 : decode cX5_row 42 = .ok (.bipush (-3), 2) := by decide +kernel
theorem dX5_row_44 : decode cX5_row 44 = .ok (.ireturn, 1) := by decide +kernel
theorem dX5_row_45 : decode cX5_row 45 = .ok (.aload_n 3, 1) := by decide +kernel
theorem dX5_row_46 : decode cX5_row 46 = .ok (.getfield 106, 3) := by decide +kernel
theorem dX5_row_49 : decode cX5_row 49 = .ok (.iload_n 1, 1) := by decide +kernel
theorem dX5_row_50 : decode cX5_row 50 = .ok (.iaload, 1) := by decide +kernel
theorem dX5_row_51 : decode cX5_row 51 = .ok (.istore 4, 2) := by decide +kernel
theorem dX5_row_53 : decode cX5_row 53 = .ok (.aload_n 3, 1) := by decide +kernel
theorem dX5_row_54 : decode cX5_row 54 = .ok (.getfield 106, 3) := by decide +kernel
theorem dX5_row_57 : decode cX5_row 57 = .ok (.iload_n 1, 1) := by decide +kernel
theorem dX5_row_58 : decode cX5_row 58 = .ok (.iload_n 2, 1) := by decide +kernel
theorem dX5_row_59 : decode cX5_row 59 = .ok (.iastore, 1) := by decide +kernel
theorem dX5_row_60 : decode cX5_row 60 = .ok (.aload_n 0, 1) := by decide +kernel
theorem dX5_row_61 : decode cX5_row 61 = .ok (.getfield 39, 3) := by decide +kernel
theorem dX5_row_64 : decode cX5_row 64 = .ok (.invokevirtual 93, 3) := by decide +kernel
theorem dX5_row_67 : decode cX5_row 67 = .ok (.iload 4, 2) := by decide +kernel
theorem dX5_row_69 : decode cX5_row 69 = .ok (.ireturn, 1) := by decide +kernel
theorem dX5_note_0 : decode cX5_note 0 = .ok (.aload_n 0, 1) := by decide +kernel
theorem dX5_note_1 : decode cX5_note 1 = .ok (.getfield 12, 3) := by decide +kernel
theorem dX5_note_4 : decode cX5_note 4 = .ok (.getfield 32, 3) := by decide +kernel
theorem dX5_note_7 : decode cX5_note 7 = .ok (.astore_n 3, 1) := by decide +kernel
theorem dX5_note_8 : decode cX5_note 8 = .ok (.aload_n 3, 1) := by decide +kernel
theorem dX5_note_9 : decode cX5_note 9 = .ok (.iload_n 1, 1) := by decide +kernel
theorem dX5_note_10 : decode cX5_note 10 = .ok (.invokevirtual 96, 3) := by decide +kernel
theorem dX5_note_13 : decode cX5_note 13 = .ok (.ifCond .ne 5, 3) := by decide +kernel
theorem dX5_note_16 : decode cX5_note 16 = .ok (.iconst (-1), 1) := by decide +kernel
theorem dX5_note_17 : decode cX5_note 17 = .ok (.ireturn, 1) := by decide +kernel
theorem dX5_note_18 : decode cX5_note 18 = .ok (.aload_n 3, 1) := by decide +kernel
theorem dX5_note_19 : decode cX5_note 19 = .ok (.iload_n 1, 1) := by decide +kernel
theorem dX5_note_20 : decode cX5_note 20 = .ok (.invokevirtual 109, 3) := by decide +kernel
theorem dX5_note_23 : decode cX5_note 23 = .ok (.istore 4, 2) := by decide +kernel
theorem dX5_note_25 : decode cX5_note 25 = .ok (.aload_n 3, 1) := by decide +kernel
theorem dX5_note_26 : decode cX5_note 26 = .ok (.iload_n 1, 1) := by decide +kernel
theorem dX5_note_27 : decode cX5_note 27 = .ok (.iload_n 2, 1) := by decide +kernel
theorem dX5_note_28 : decode cX5_note 28 = .ok (.invokevirtual 113, 3) := by decide +kernel
theorem dX5_note_31 : decode cX5_note 31 = .ok (.aload_n 0, 1) := by decide +kernel
theorem dX5_note_32 : decode cX5_note 32 = .ok (.getfield 39, 3) := by decide +kernel
theorem dX5_note_35 : decode cX5_note 35 = .ok (.invokevirtual 93, 3) := by decide +kernel
theorem dX5_note_38 : decode cX5_note 38 = .ok (.iload 4, 2) := by decide +kernel
theorem dX5_note_40 : decode cX5_note 40 = .ok (.ireturn, 1) := by decide +kernel
theorem dX5_yesterday_0 : decode cX5_yesterday 0 = .ok (.aload_n 0, 1) := by decide +kernel
theorem dX5_yesterday_1 : decode cX5_yesterday 1 = .ok (.getfield 12, 3) := by decide +kernel
theorem dX5_yesterday_4 : decode cX5_yesterday 4 = .ok (.getfield 32, 3) := by decide +kernel
theorem dX5_yesterday_7 : decode cX5_yesterday 7 = .ok (.iload_n 1, 1) := by decide +kernel
theorem dX5_yesterday_8 : decode cX5_yesterday 8 = .ok (.invokevirtual 117, 3) := by decide +kernel
theorem dX5_yesterday_11 : decode cX5_yesterday 11 = .ok (.ifCond .ne 6, 3) := by decide +kernel
theorem dX5_yesterday_14 : decode cX5_yesterday 14 = .ok (.bipush (-2), 2) := by decide +kernel
theorem dX5_yesterday_16 : decode cX5_yesterday 16 = .ok (.ireturn, 1) := by decide +kernel
theorem dX5_yesterday_17 : decode cX5_yesterday 17 = .ok (.aload_n 0, 1) := by decide +kernel
theorem dX5_yesterday_18 : decode cX5_yesterday 18 = .ok (.getfield 12, 3) := by decide +kernel
theorem dX5_yesterday_21 : decode cX5_yesterday 21 = .ok (.getfield 32, 3) := by decide +kernel
theorem dX5_yesterday_24 : decode cX5_yesterday 24 = .ok (.getfield 83, 3) := by decide +kernel
theorem dX5_yesterday_27 : decode cX5_yesterday 27 = .ok (.istore_n 2, 1) := by decide +kernel
theorem dX5_yesterday_28 : decode cX5_yesterday 28 = .ok (.aload_n 0, 1) := by decide +kernel
theorem dX5_yesterday_29 : decode cX5_yesterday 29 = .ok (.getfield 12, 3) := by decide +kernel
theorem dX5_yesterday_32 : decode cX5_yesterday 32 = .ok (.getfield 32, 3) := by decide +kernel
theorem dX5_yesterday_35 : decode cX5_yesterday 35 = .ok (.iload_n 1, 1) := by decide +kernel
theorem dX5_yesterday_36 : decode cX5_yesterday 36 = .ok (.putfield 83, 3) := by decide +kernel
theorem dX5_yesterday_39 : decode cX5_yesterday 39 = .ok (.aload_n 0, 1) := by decide +kernel
theorem dX5_yesterday_40 : decode cX5_yesterday 40 = .ok (.getfield 39, 3) := by decide +kernel
theorem dX5_yesterday_43 : decode cX5_yesterday 43 = .ok (.invokevirtual 93, 3) := by decide +kernel
theorem dX5_yesterday_46 : decode cX5_yesterday 46 = .ok (.iload_n 2, 1) := by decide +kernel
theorem dX5_yesterday_47 : decode cX5_yesterday 47 = .ok (.ireturn, 1) := by decide +kernel
theorem dX5_by_0 : decode cX5_by 0 = .ok (.aload_n 0, 1) := by decide +kernel
theorem dX5_by_1 : decode cX5_by 1 = .ok (.getfield 12, 3) := by decide +kernel
theorem dX5_by_4 : decode cX5_by 4 = .ok (.getfield 32, 3) := by decide +kernel
theorem dX5_by_7 : decode cX5_by 7 = .ok (.iload_n 2, 1) := by decide +kernel
theorem dX5_by_8 : decode cX5_by 8 = .ok (.invokevirtual 96, 3) := by decide +kernel
theorem dX5_by_11 : decode cX5_by 11 = .ok (.ifCond .eq 21, 3) := by decide +kernel
theorem dX5_by_14 : decode cX5_by 14 = .ok (.iload_n 3, 1) := by decide +kernel
theorem dX5_by_15 : decode cX5_by 15 = .ok (.invokestatic 120, 3) := by decide +kernel
theorem dX5_by_18 : decode cX5_by 18 = .ok (.ifCond .eq 14, 3) := by decide +kernel
theorem dX5_by_21 : decode cX5_by 21 = .ok (.iload 4, 2) := by decide +kernel
theorem dX5_by_23 : decode cX5_by 23 = .ok (.ifCond .lt 9, 3) := by decide +kernel
theorem dX5_by_26 : decode cX5_by 26 = .ok (.iload 4, 2) := by decide +kernel
theorem dX5_by_28 : decode cX5_by 28 = .ok (.iconst 2, 1) := by decide +kernel
theorem dX5_by_29 : decode cX5_by 29 = .ok (.if_icmp .le 7, 3) := by decide +kernel
theorem dX5_by_32 : decode cX5_by 32 = .ok (.sipush (-10001), 3) := by decide +kernel
theorem dX5_by_35 : decode cX5_by 35 = .ok (.ireturn, 1) := by decide +kernel
theorem dX5_by_36 : decode cX5_by 36 = .ok (.aload_n 0, 1) := by decide +kernel
theorem dX5_by_37 : decode cX5_by 37 = .ok (.getfield 12, 3) := by decide +kernel
theorem dX5_by_40 : decode cX5_by 40 = .ok (.getfield 32, 3) := by decide +kernel
theorem dX5_by_43 : decode cX5_by 43 = .ok (.iload_n 1, 1) := by decide +kernel
theorem dX5_by_44 : decode cX5_by 44 = .ok (.invokevirtual 117, 3) := by decide +kernel
theorem dX5_by_47 : decode cX5_by 47 = .ok (.ifCond .ne 7, 3) := by decide +kernel
theorem dX5_by_50 : decode cX5_by 50 = .ok (.sipush (-10002), 3) := by decide +kernel
theorem dX5_by_53 : decode cX5_by 53 = .ok (.ireturn, 1) := by decide +kernel
theorem dX5_by_54 : decode cX5_by 54 = .ok (.aload_n 0, 1) := by decide +kernel
theorem dX5_by_55 : decode cX5_by 55 = .ok (.getfield 39, 3) := by decide +kernel
theorem dX5_by_58 : decode cX5_by 58 = .ok (.aload_n 0, 1) := by decide +kernel
theorem dX5_by_59 : decode cX5_by 59 = .ok (.invokevirtual 76, 3) := by decide +kernel
theorem dX5_by_62 : decode cX5_by 62 = .ok (.invokevirtual 123, 3) := by decide +kernel
theorem dX5_by_65 : decode cX5_by 65 = .ok (.aload_n 0, 1) := by decide +kernel
theorem dX5_by_66 : decode cX5_by 66 = .ok (.getfield 39, 3) := by decide +kernel
theorem dX5_by_69 : decode cX5_by 69 = .ok (.iload_n 2, 1) := by decide +kernel
theorem dX5_by_70 : decode cX5_by 70 = .ok (.iload_n 1, 1) := by decide +kernel
theorem dX5_by_71 : decode cX5_by 71 = .ok (.invokevirtual 127, 3) := by decide +kernel
theorem dX5_by_74 : decode cX5_by 74 = .ok (.istore 5, 2) := by decide +kernel
theorem dX5_by_76 : decode cX5_by 76 = .ok (.iload 4, 2) := by decide +kernel
theorem dX5_by_78 : decode cX5_by 78 = .ok (.lookupswitch 52 #[(0, 26), (1, 38)], 26) := by decide +kernel
theorem dX5_by_104 : decode cX5_by 104 = .ok (.aload_n 0, 1) := by decide +kernel
theorem dX5_by_105 : decode cX5_by 105 = .ok (.getfield 39, 3) := by decide +kernel
theorem dX5_by_108 : decode cX5_by 108 = .ok (.iload_n 2, 1) := by decide +kernel
theorem dX5_by_109 : decode cX5_by 109 = .ok (.iload_n 3, 1) := by decide +kernel
theorem dX5_by_110 : decode cX5_by 110 = .ok (.iload 5, 2) := by decide +kernel
theorem dX5_by_112 : decode cX5_by 112 = .ok (.invokevirtual 130, 3) := by decide +kernel
theorem dX5_by_115 : decode cX5_by 115 = .ok (.ireturn, 1) := by decide +kernel
theorem dX5_by_116 : decode cX5_by 116 = .ok (.aload_n 0, 1) := by decide +kernel
theorem dX5_by_117 : decode cX5_by 117 = .ok (.getfield 39, 3) := by decide +kernel
theorem dX5_by_120 : decode cX5_by 120 = .ok (.iload_n 2, 1) := by decide +kernel
theorem dX5_by_121 : decode cX5_by 121 = .ok (.iload_n 1, 1) := by decide +kernel
theorem dX5_by_122 : decode cX5_by 122 = .ok (.invokevirtual 134, 3) := by decide +kernel
theorem dX5_by_125 : decode cX5_by 125 = .ok (.iload_n 3, 1) := by decide +kernel
theorem dX5_by_126 : decode cX5_by 126 = .ok (.invokestatic 137, 3) := by decide +kernel
theorem dX5_by_129 : decode cX5_by 129 = .ok (.ireturn, 1) := by decide +kernel
theorem dX5_by_130 : decode cX5_by 130 = .ok (.aload_n 0, 1) := by decide +kernel
theorem dX5_by_131 : decode cX5_by 131 = .ok (.getfield 39, 3) := by decide +kernel
theorem dX5_by_134 : decode cX5_by 134 = .ok (.iload_n 2, 1) := by decide +kernel
theorem dX5_by_135 : decode cX5_by 135 = .ok (.iload 5, 2) := by decide +kernel
theorem dX5_by_137 : decode cX5_by 137 = .ok (.invokevirtual 140, 3) := by decide +kernel
theorem dX5_by_140 : decode cX5_by 140 = .ok (.ireturn, 1) := by decide +kernel
theorem dX5_day_0 : decode cX5_day 0 = .ok (.iload_n 2, 1) := by decide +kernel
theorem dX5_day_1 : decode cX5_day 1 = .ok (.ifCond .lt 8, 3) := by decide +kernel
theorem dX5_day_4 : decode cX5_day 4 = .ok (.iload_n 2, 1) := by decide +kernel
theorem dX5_day_5 : decode cX5_day 5 = .ok (.iconst 2, 1) := by decide +kernel
theorem dX5_day_6 : decode cX5_day 6 = .ok (.if_icmp .le 7, 3) := by decide +kernel
theorem dX5_day_9 : decode cX5_day 9 = .ok (.sipush (-10001), 3) := by decide +kernel
theorem dX5_day_12 : decode cX5_day 12 = .ok (.ireturn, 1) := by decide +kernel
theorem dX5_day_13 : decode cX5_day 13 = .ok (.aload_n 0, 1) := by decide +kernel
theorem dX5_day_14 : decode cX5_day 14 = .ok (.getfield 12, 3) := by decide +kernel
theorem dX5_day_17 : decode cX5_day 17 = .ok (.getfield 32, 3) := by decide +kernel
theorem dX5_day_20 : decode cX5_day 20 = .ok (.iload_n 1, 1) := by decide +kernel
theorem dX5_day_21 : decode cX5_day 21 = .ok (.invokevirtual 117, 3) := by decide +kernel
theorem dX5_day_24 : decode cX5_day 24 = .ok (.ifCond .ne 7, 3) := by decide +kernel
theorem dX5_day_27 : decode cX5_day 27 = .ok (.sipush (-10002), 3) := by decide +kernel
theorem dX5_day_30 : decode cX5_day 30 = .ok (.ireturn, 1) := by decide +kernel
theorem dX5_day_31 : decode cX5_day 31 = .ok (.aload_n 0, 1) := by decide +kernel
theorem dX5_day_32 : decode cX5_day 32 = .ok (.getfield 39, 3) := by decide +kernel
theorem dX5_day_35 : decode cX5_day 35 = .ok (.aload_n 0, 1) := by decide +kernel
theorem dX5_day_36 : decode cX5_day 36 = .ok (.invokevirtual 76, 3) := by decide +kernel
theorem dX5_day_39 : decode cX5_day 39 = .ok (.invokevirtual 123, 3) := by decide +kernel
theorem dX5_day_42 : decode cX5_day 42 = .ok (.iload_n 2, 1) := by decide +kernel
theorem dX5_day_43 : decode cX5_day 43 = .ok (.lookupswitch 43 #[(0, 25), (1, 34)], 25) := by decide +kernel
theorem dX5_day_68 : decode cX5_day 68 = .ok (.aload_n 0, 1) := by decide +kernel
theorem dX5_day_69 : decode cX5_day 69 = .ok (.getfield 39, 3) := by decide +kernel
theorem dX5_day_72 : decode cX5_day 72 = .ok (.iload_n 1, 1) := by decide +kernel
theorem dX5_day_73 : decode cX5_day 73 = .ok (.invokevirtual 143, 3) := by decide +kernel
theorem dX5_day_76 : decode cX5_day 76 = .ok (.ireturn, 1) := by decide +kernel
theorem dX5_day_77 : decode cX5_day 77 = .ok (.aload_n 0, 1) := by decide +kernel
theorem dX5_day_78 : decode cX5_day 78 = .ok (.getfield 39, 3) := by decide +kernel
theorem dX5_day_81 : decode cX5_day 81 = .ok (.iload_n 1, 1) := by decide +kernel
theorem dX5_day_82 : decode cX5_day 82 = .ok (.invokevirtual 146, 3) := by decide +kernel
theorem dX5_day_85 : decode cX5_day 85 = .ok (.ireturn, 1) := by decide +kernel
theorem dX5_day_86 : decode cX5_day 86 = .ok (.aload_n 0, 1) := by decide +kernel
theorem dX5_day_87 : decode cX5_day 87 = .ok (.getfield 39, 3) := by decide +kernel
theorem dX5_day_90 : decode cX5_day 90 = .ok (.iload_n 1, 1) := by decide +kernel
theorem dX5_day_91 : decode cX5_day 91 = .ok (.invokevirtual 149, 3) := by decide +kernel
theorem dX5_day_94 : decode cX5_day 94 = .ok (.ireturn, 1) := by decide +kernel
theorem dX5_all_0 : decode cX5_all 0 = .ok (.iload_n 1, 1) := by decide +kernel
theorem dX5_all_1 : decode cX5_all 1 = .ok (.ifCond .lt 8, 3) := by decide +kernel
theorem dX5_all_4 : decode cX5_all 4 = .ok (.iload_n 1, 1) := by decide +kernel
theorem dX5_all_5 : decode cX5_all 5 = .ok (.iconst 4, 1) := by decide +kernel
theorem dX5_all_6 : decode cX5_all 6 = .ok (.if_icmp .le 7, 3) := by decide +kernel
theorem dX5_all_9 : decode cX5_all 9 = .ok (.sipush (-10001), 3) := by decide +kernel
theorem dX5_all_12 : decode cX5_all 12 = .ok (.ireturn, 1) := by decide +kernel
theorem dX5_all_13 : decode cX5_all 13 = .ok (.aload_n 0, 1) := by decide +kernel
theorem dX5_all_14 : decode cX5_all 14 = .ok (.invokevirtual 152, 3) := by decide +kernel
theorem dX5_all_17 : decode cX5_all 17 = .ok (.iload_n 1, 1) := by decide +kernel
theorem dX5_all_18 : decode cX5_all 18 = .ok (.tableswitch 62 0 3 #[30, 38, 46, 54], 30) := by decide +kernel
theorem dX5_all_48 : decode cX5_all 48 = .ok (.aload_n 0, 1) := by decide +kernel
theorem dX5_all_49 : decode cX5_all 49 = .ok (.getfield 39, 3) := by decide +kernel
theorem dX5_all_52 : decode cX5_all 52 = .ok (.getfield 155, 3) := by decide +kernel
theorem dX5_all_55 : decode cX5_all 55 = .ok (.ireturn, 1) := by decide +kernel
theorem dX5_all_56 : decode cX5_all 56 = .ok (.aload_n 0, 1) := by decide +kernel
theorem dX5_all_57 : decode cX5_all 57 = .ok (.getfield 39, 3) := by decide +kernel
theorem dX5_all_60 : decode cX5_all 60 = .ok (.getfield 158, 3) := by decide +kernel
theorem dX5_all_63 : decode cX5_all 63 = .ok (.ireturn, 1) := by decide +kernel
theorem dX5_all_64 : decode cX5_all 64 = .ok (.aload_n 0, 1) := by decide +kernel
theorem dX5_all_65 : decode cX5_all 65 = .ok (.getfield 39, 3) := by decide +kernel
theorem dX5_all_68 : decode cX5_all 68 = .ok (.getfield 161, 3) := by decide +kernel
theorem dX5_all_71 : decode cX5_all 71 = .ok (.ireturn, 1) := by decide +kernel
theorem dX5_all_72 : decode cX5_all 72 = .ok (.aload_n 0, 1) := by decide +kernel
theorem dX5_all_73 : decode cX5_all 73 = .ok (.getfield 39, 3) := by decide +kernel
theorem dX5_all_76 : decode cX5_all 76 = .ok (.getfield 164, 3) := by decide +kernel
theorem dX5_all_79 : decode cX5_all 79 = .ok (.ireturn, 1) := by decide +kernel
theorem dX5_all_80 : decode cX5_all 80 = .ok (.aload_n 0, 1) := by decide +kernel
theorem dX5_all_81 : decode cX5_all 81 = .ok (.getfield 39, 3) := by decide +kernel
theorem dX5_all_84 : decode cX5_all 84 = .ok (.getfield 155, 3) := by decide +kernel
theorem dX5_all_87 : decode cX5_all 87 = .ok (.ifCond .le 13, 3) := by decide +kernel
theorem dX5_all_90 : decode cX5_all 90 = .ok (.aload_n 0, 1) := by decide +kernel
theorem dX5_all_91 : decode cX5_all 91 = .ok (.getfield 39, 3) := by decide +kernel
theorem dX5_all_94 : decode cX5_all 94 = .ok (.getfield 167, 3) := by decide +kernel
theorem dX5_all_97 : decode cX5_all 97 = .ok (.goto 5, 3) := by decide +kernel
theorem dX5_all_100 : decode cX5_all 100 = .ok (.bipush (-5), 2) := by decide +kernel
theorem dX5_all_102 : decode cX5_all 102 = .ok (.ireturn, 1) := by decide +kernel
theorem dX5_once_0 : decode cX5_once 0 = .ok (.aload_n 0, 1) := by decide +kernel
theorem dX5_once_1 : decode cX5_once 1 = .ok (.getfield 12, 3) := by decide +kernel
theorem dX5_once_4 : decode cX5_once 4 = .ok (.getfield 32, 3) := by decide +kernel
theorem dX5_once_7 : decode cX5_once 7 = .ok (.iload_n 2, 1) := by decide +kernel
theorem dX5_once_8 : decode cX5_once 8 = .ok (.invokevirtual 96, 3) := by decide +kernel
theorem dX5_once_11 : decode cX5_once 11 = .ok (.ifCond .eq 18, 3) := by decide +kernel
theorem dX5_once_14 : decode cX5_once 14 = .ok (.iload_n 3, 1) := by decide +kernel
theorem dX5_once_15 : decode cX5_once 15 = .ok (.invokestatic 120, 3) := by decide +kernel
theorem dX5_once_18 : decode cX5_once 18 = .ok (.ifCond .eq 11, 3) := by decide +kernel
theorem dX5_once_21 : decode cX5_once 21 = .ok (.iload 4, 2) := by decide +kernel
theorem dX5_once_23 : decode cX5_once 23 = .ok (.invokestatic 170, 3) := by decide +kernel
theorem dX5_once_26 : decode cX5_once 26 = .ok (.ifCond .ne 5, 3) := by decide +kernel
theorem dX5_once_29 : decode cX5_once 29 = .ok (.iconst (-1), 1) := by decide +kernel
theorem dX5_once_30 : decode cX5_once 30 = .ok (.ireturn, 1) := by decide +kernel
theorem dX5_once_31 : decode cX5_once 31 = .ok (.aload_n 0, 1) := by decide +kernel
theorem dX5_once_32 : decode cX5_once 32 = .ok (.getfield 12, 3) := by decide +kernel
theorem dX5_once_35 : decode cX5_once 35 = .ok (.getfield 32, 3) := by decide +kernel
theorem dX5_once_38 : decode cX5_once 38 = .ok (.iload_n 1, 1) := by decide +kernel
theorem dX5_once_39 : decode cX5_once 39 = .ok (.invokevirtual 117, 3) := by decide +kernel
theorem dX5_once_42 : decode cX5_once 42 = .ok (.ifCond .ne 6, 3) := by decide +kernel
theorem dX5_once_45 : decode cX5_once 45 = .ok (.bipush (-2), 2) := by decide +kernel
theorem dX5_once_47 : decode cX5_once 47 = .ok (.ireturn, 1) := by decide +kernel
theorem dX5_once_48 : decode cX5_once 48 = .ok (.aload_n 0, 1) := by decide +kernel
theorem dX5_once_49 : decode cX5_once 49 = .ok (.getfield 39, 3) := by decide +kernel
theorem dX5_once_52 : decode cX5_once 52 = .ok (.aload_n 0, 1) := by decide +kernel
theorem dX5_once_53 : decode cX5_once 53 = .ok (.invokevirtual 76, 3) := by decide +kernel
theorem dX5_once_56 : decode cX5_once 56 = .ok (.invokevirtual 123, 3) := by decide +kernel
theorem dX5_once_59 : decode cX5_once 59 = .ok (.iload_n 1, 1) := by decide +kernel
theorem dX5_once_60 : decode cX5_once 60 = .ok (.iconst 1, 1) := by decide +kernel
theorem dX5_once_61 : decode cX5_once 61 = .ok (.iconst 3, 1) := by decide +kernel
theorem dX5_once_62 : decode cX5_once 62 = .ok (.iload_n 2, 1) := by decide +kernel
theorem dX5_once_63 : decode cX5_once 63 = .ok (.imul, 1) := by decide +kernel
theorem dX5_once_64 : decode cX5_once 64 = .ok (.iload_n 3, 1) := by decide +kernel
theorem dX5_once_65 : decode cX5_once 65 = .ok (.iadd, 1) := by decide +kernel
theorem dX5_once_66 : decode cX5_once 66 = .ok (.ishl, 1) := by decide +kernel
theorem dX5_once_67 : decode cX5_once 67 = .ok (.ixor, 1) := by decide +kernel
theorem dX5_once_68 : decode cX5_once 68 = .ok (.istore 5, 2) := by decide +kernel
theorem dX5_once_70 : decode cX5_once 70 = .ok (.iconst 0, 1) := by decide +kernel
theorem dX5_once_71 : decode cX5_once 71 = .ok (.istore 6, 2) := by decide +kernel
theorem dX5_once_73 : decode cX5_once 73 = .ok (.iload 6, 2) := by decide +kernel
theorem dX5_once_75 : decode cX5_once 75 = .ok (.bipush 60, 2) := by decide +kernel
theorem dX5_once_77 : decode cX5_once 77 = .ok (.if_icmp .gt 45, 3) := by decide +kernel
theorem dX5_once_80 : decode cX5_once 80 = .ok (.aload_n 0, 1) := by decide +kernel
theorem dX5_once_81 : decode cX5_once 81 = .ok (.getfield 39, 3) := by decide +kernel
theorem dX5_once_84 : decode cX5_once 84 = .ok (.iload 5, 2) := by decide +kernel
theorem dX5_once_86 : decode cX5_once 86 = .ok (.invokevirtual 173, 3) := by decide +kernel
theorem dX5_once_89 : decode cX5_once 89 = .ok (.ifCond .eq 16, 3) := by decide +kernel
theorem dX5_once_92 : decode cX5_once 92 = .ok (.iload 4, 2) := by decide +kernel
theorem dX5_once_94 : decode cX5_once 94 = .ok (.ifCond .ne 8, 3) := by decide +kernel
theorem dX5_once_97 : decode cX5_once 97 = .ok (.iload 6, 2) := by decide +kernel
theorem dX5_once_99 : decode cX5_once 99 = .ok (.goto 5, 3) := by decide +kernel
theorem dX5_once_102 : decode cX5_once 102 = .ok (.iload 5, 2) := by decide +kernel
theorem dX5_once_104 : decode cX5_once 104 = .ok (.ireturn, 1) := by decide +kernel
theorem dX5_once_105 : decode cX5_once 105 = .ok (.aload_n 0, 1) := by decide +kernel
theorem dX5_once_106 : decode cX5_once 106 = .ok (.getfield 39, 3) := by decide +kernel
theorem dX5_once_109 : decode cX5_once 109 = .ok (.iload 5, 2) := by decide +kernel
theorem dX5_once_111 : decode cX5_once 111 = .ok (.invokevirtual 146, 3) := by decide +kernel
theorem dX5_once_114 : decode cX5_once 114 = .ok (.istore 5, 2) := by decide +kernel
theorem dX5_once_116 : decode cX5_once 116 = .ok (.iinc 6 1, 3) := by decide +kernel
theorem dX5_once_119 : decode cX5_once 119 = .ok (.goto (-46), 3) := by decide +kernel
theorem dX5_once_122 : decode cX5_once 122 = .ok (.bipush (-5), 2) := by decide +kernel
theorem dX5_once_124 : decode cX5_once 124 = .ok (.ireturn, 1) := by decide +kernel
theorem dX5_again_0 : decode cX5_again 0 = .ok (.iload_n 2, 1) := by decide +kernel
theorem dX5_again_1 : decode cX5_again 1 = .ok (.invokestatic 170, 3) := by decide +kernel
theorem dX5_again_4 : decode cX5_again 4 = .ok (.ifCond .ne 5, 3) := by decide +kernel
theorem dX5_again_7 : decode cX5_again 7 = .ok (.iconst (-1), 1) := by decide +kernel
theorem dX5_again_8 : decode cX5_again 8 = .ok (.ireturn, 1) := by decide +kernel
theorem dX5_again_9 : decode cX5_again 9 = .ok (.aload_n 0, 1) := by decide +kernel
theorem dX5_again_10 : decode cX5_again 10 = .ok (.getfield 12, 3) := by decide +kernel
theorem dX5_again_13 : decode cX5_again 13 = .ok (.getfield 32, 3) := by decide +kernel
theorem dX5_again_16 : decode cX5_again 16 = .ok (.iload_n 1, 1) := by decide +kernel
theorem dX5_again_17 : decode cX5_again 17 = .ok (.invokevirtual 117, 3) := by decide +kernel
theorem dX5_again_20 : decode cX5_again 20 = .ok (.ifCond .ne 6, 3) := by decide +kernel
theorem dX5_again_23 : decode cX5_again 23 = .ok (.bipush (-2), 2) := by decide +kernel
theorem dX5_again_25 : decode cX5_again 25 = .ok (.ireturn, 1) := by decide +kernel
theorem dX5_again_26 : decode cX5_again 26 = .ok (.aload_n 0, 1) := by decide +kernel
theorem dX5_again_27 : decode cX5_again 27 = .ok (.getfield 39, 3) := by decide +kernel
theorem dX5_again_30 : decode cX5_again 30 = .ok (.aload_n 0, 1) := by decide +kernel
theorem dX5_again_31 : decode cX5_again 31 = .ok (.invokevirtual 76, 3) := by decide +kernel
theorem dX5_again_34 : decode cX5_again 34 = .ok (.invokevirtual 123, 3) := by decide +kernel
theorem dX5_again_37 : decode cX5_again 37 = .ok (.aload_n 0, 1) := by decide +kernel
theorem dX5_again_38 : decode cX5_again 38 = .ok (.getfield 49, 3) := by decide +kernel
theorem dX5_again_41 : decode cX5_again 41 = .ok (.iconst 0, 1) := by decide +kernel
theorem dX5_again_42 : decode cX5_again 42 = .ok (.iload_n 1, 1) := by decide +kernel
theorem dX5_again_43 : decode cX5_again 43 = .ok (.iastore, 1) := by decide +kernel
theorem dX5_again_44 : decode cX5_again 44 = .ok (.iconst 1, 1) := by decide +kernel
theorem dX5_again_45 : decode cX5_again 45 = .ok (.istore_n 3, 1) := by decide +kernel
theorem dX5_again_46 : decode cX5_again 46 = .ok (.iload_n 3, 1) := by decide +kernel
theorem dX5_again_47 : decode cX5_again 47 = .ok (.aload_n 0, 1) := by decide +kernel
theorem dX5_again_48 : decode cX5_again 48 = .ok (.getfield 49, 3) := by decide +kernel
theorem dX5_again_51 : decode cX5_again 51 = .ok (.arraylength, 1) := by decide +kernel
theorem dX5_again_52 : decode cX5_again 52 = .ok (.if_icmp .ge 61, 3) := by decide +kernel
theorem dX5_again_55 : decode cX5_again 55 = .ok (.aload_n 0, 1) := by decide +kernel
theorem dX5_again_56 : decode cX5_again 56 = .ok (.getfield 49, 3) := by decide +kernel
theorem dX5_again_59 : decode cX5_again 59 = .ok (.iload_n 3, 1) := by decide +kernel
theorem dX5_again_60 : decode cX5_again 60 = .ok (.aload_n 0, 1) := by decide +kernel
theorem dX5_again_61 : decode cX5_again 61 = .ok (.getfield 39, 3) := by decide +kernel
theorem dX5_again_64 : decode cX5_again 64 = .ok (.aload_n 0, 1) := by decide +kernel
theorem dX5_again_65 : decode cX5_again 65 = .ok (.getfield 49, 3) := by decide +kernel
theorem dX5_again_68 : decode cX5_again 68 = .ok (.iload_n 3, 1) := by decide +kernel
theorem dX5_again_69 : decode cX5_again 69 = .ok (.iconst 1, 1) := by decide +kernel
theorem dX5_again_70 : decode cX5_again 70 = .ok (.isub, 1) := by decide +kernel
theorem dX5_again_71 : decode cX5_again 71 = .ok (.iaload, 1) := by decide +kernel
theorem dX5_again_72 : decode cX5_again 72 = .ok (.invokevirtual 146, 3) := by decide +kernel
theorem dX5_again_75 : decode cX5_again 75 = .ok (.iastore, 1) := by decide +kernel
theorem dX5_again_76 : decode cX5_again 76 = .ok (.aload_n 0, 1) := by decide +kernel
theorem dX5_again_77 : decode cX5_again 77 = .ok (.aload_n 0, 1) := by decide +kernel
theorem dX5_again_78 : decode cX5_again 78 = .ok (.getfield 49, 3) := by decide +kernel
theorem dX5_again_81 : decode cX5_again 81 = .ok (.iload_n 3, 1) := by decide +kernel
theorem dX5_again_82 : decode cX5_again 82 = .ok (.iaload, 1) := by decide +kernel
theorem dX5_again_83 : decode cX5_again 83 = .ok (.iload_n 3, 1) := by decide +kernel
theorem dX5_again_84 : decode cX5_again 84 = .ok (.invokevirtual 176, 3) := by decide +kernel
theorem dX5_again_87 : decode cX5_again 87 = .ok (.istore 4, 2) := by decide +kernel
theorem dX5_again_89 : decode cX5_again 89 = .ok (.iload 4, 2) := by decide +kernel
theorem dX5_again_91 : decode cX5_again 91 = .ok (.ifCond .lt 16, 3) := by decide +kernel
theorem dX5_again_94 : decode cX5_again 94 = .ok (.iload_n 2, 1) := by decide +kernel
theorem dX5_again_95 : decode cX5_again 95 = .ok (.ifCond .ne 7, 3) := by decide +kernel
theorem dX5_again_98 : decode cX5_again 98 = .ok (.iload_n 3, 1) := by decide +kernel
theorem dX5_again_99 : decode cX5_again 99 = .ok (.goto 7, 3) := by decide +kernel
theorem dX5_again_102 : decode cX5_again 102 = .ok (.iload_n 3, 1) := by decide +kernel
theorem dX5_again_103 : decode cX5_again 103 = .ok (.iload 4, 2) := by decide +kernel
theorem dX5_again_105 : decode cX5_again 105 = .ok (.isub, 1) := by decide +kernel
theorem dX5_again_106 : decode cX5_again 106 = .ok (.ireturn, 1) := by decide +kernel
theorem dX5_again_107 : decode cX5_again 107 = .ok (.iinc 3 1, 3) := by decide +kernel
theorem dX5_again_110 : decode cX5_again 110 = .ok (.goto (-64), 3) := by decide +kernel
theorem dX5_again_113 : decode cX5_again 113 = .ok (.bipush (-5), 2) := by decide +kernel
theorem dX5_again_115 : decode cX5_again 115 = .ok (.ireturn, 1) := by decide +kernel
theorem dX5_morning_0 : decode cX5_morning 0 = .ok (.aload_n 0, 1) := by decide +kernel
theorem dX5_morning_1 : decode cX5_morning 1 = .ok (.invokevirtual 152, 3) := by decide +kernel
theorem dX5_morning_4 : decode cX5_morning 4 = .ok (.aload_n 0, 1) := by decide +kernel
theorem dX5_morning_5 : decode cX5_morning 5 = .ok (.getfield 39, 3) := by decide +kernel
theorem dX5_morning_8 : decode cX5_morning 8 = .ok (.invokevirtual 179, 3) := by decide +kernel
theorem dX5_morning_11 : decode cX5_morning 11 = .ok (.istore_n 1, 1) := by decide +kernel
theorem dX5_morning_12 : decode cX5_morning 12 = .ok (.aload_n 0, 1) := by decide +kernel
theorem dX5_morning_13 : decode cX5_morning 13 = .ok (.getfield 12, 3) := by decide +kernel
theorem dX5_morning_16 : decode cX5_morning 16 = .ok (.getfield 32, 3) := by decide +kernel
theorem dX5_morning_19 : decode cX5_morning 19 = .ok (.iload_n 1, 1) := by decide +kernel
theorem dX5_morning_20 : decode cX5_morning 20 = .ok (.aload_n 0, 1) := by decide +kernel
theorem dX5_morning_21 : decode cX5_morning 21 = .ok (.invokevirtual 76, 3) := by decide +kernel
theorem dX5_morning_24 : decode cX5_morning 24 = .ok (.getfield 80, 3) := by decide +kernel
theorem dX5_morning_27 : decode cX5_morning 27 = .ok (.invokevirtual 183, 3) := by decide +kernel
theorem dX5_morning_30 : decode cX5_morning 30 = .ok (.aload_n 0, 1) := by decide +kernel
theorem dX5_morning_31 : decode cX5_morning 31 = .ok (.getfield 39, 3) := by decide +kernel
theorem dX5_morning_34 : decode cX5_morning 34 = .ok (.invokevirtual 93, 3) := by decide +kernel
theorem dX5_morning_37 : decode cX5_morning 37 = .ok (.iload_n 1, 1) := by decide +kernel
theorem dX5_morning_38 : decode cX5_morning 38 = .ok (.ireturn, 1) := by decide +kernel
theorem dX5_year_0 : decode cX5_year 0 = .ok (.iload_n 2, 1) := by decide +kernel
theorem dX5_year_1 : decode cX5_year 1 = .ok (.invokestatic 170, 3) := by decide +kernel
theorem dX5_year_4 : decode cX5_year 4 = .ok (.ifCond .ne 7, 3) := by decide +kernel
theorem dX5_year_7 : decode cX5_year 7 = .ok (.sipush (-10001), 3) := by decide +kernel
theorem dX5_year_10 : decode cX5_year 10 = .ok (.ireturn, 1) := by decide +kernel
theorem dX5_year_11 : decode cX5_year 11 = .ok (.iload_n 1, 1) := by decide +kernel
theorem dX5_year_12 : decode cX5_year 12 = .ok (.iconst 1, 1) := by decide +kernel
theorem dX5_year_13 : decode cX5_year 13 = .ok (.if_icmp .lt 9, 3) := by decide +kernel
theorem dX5_year_16 : decode cX5_year 16 = .ok (.iload_n 1, 1) := by decide +kernel
theorem dX5_year_17 : decode cX5_year 17 = .ok (.bipush 30, 2) := by decide +kernel
theorem dX5_year_19 : decode cX5_year 19 = .ok (.if_icmp .le 7, 3) := by decide +kernel
theorem dX5_year_22 : decode cX5_year 22 = .ok (.sipush (-10002), 3) := by decide +kernel
theorem dX5_year_25 : decode cX5_year 25 = .ok (.ireturn, 1) := by decide +kernel
theorem dX5_year_26 : decode cX5_year 26 = .ok (.iconst 0, 1) := by decide +kernel
theorem dX5_year_27 : decode cX5_year 27 = .ok (.istore_n 3, 1) := by decide +kernel
theorem dX5_year_28 : decode cX5_year 28 = .ok (.iconst 0, 1) := by decide +kernel
theorem dX5_year_29 : decode cX5_year 29 = .ok (.istore 4, 2) := by decide +kernel
theorem dX5_year_31 : decode cX5_year 31 = .ok (.aload_n 0, 1) := by decide +kernel
theorem dX5_year_32 : decode cX5_year 32 = .ok (.getfield 46, 3) := by decide +kernel
theorem dX5_year_35 : decode cX5_year 35 = .ok (.getfield 187, 3) := by decide +kernel
theorem dX5_year_38 : decode cX5_year 38 = .ok (.aload_n 0, 1) := by decide +kernel
theorem dX5_year_39 : decode cX5_year 39 = .ok (.getfield 12, 3) := by decide +kernel
theorem dX5_year_42 : decode cX5_year 42 = .ok (.getfield 32, 3) := by decide +kernel
theorem dX5_year_45 : decode cX5_year 45 = .ok (.invokevirtual 188, 3) := by decide +kernel
theorem dX5_year_48 : decode cX5_year 48 = .ok (.iconst 0, 1) := by decide +kernel
theorem dX5_year_49 : decode cX5_year 49 = .ok (.istore 5, 2) := by decide +kernel
theorem dX5_year_51 : decode cX5_year 51 = .ok (.iload 5, 2) := by decide +kernel
theorem dX5_year_53 : decode cX5_year 53 = .ok (.iload_n 1, 1) := by decide +kernel
theorem dX5_year_54 : decode cX5_year 54 = .ok (.if_icmp .ge 73, 3) := by decide +kernel
theorem dX5_year_57 : decode cX5_year 57 = .ok (.aload_n 0, 1) := by decide +kernel
theorem dX5_year_58 : decode cX5_year 58 = .ok (.invokevirtual 191, 3) := by decide +kernel
theorem dX5_year_61 : decode cX5_year 61 = .ok (.aload_n 0, 1) := by decide +kernel
theorem dX5_year_62 : decode cX5_year 62 = .ok (.getfield 46, 3) := by decide +kernel
theorem dX5_year_65 : decode cX5_year 65 = .ok (.invokevirtual 179, 3) := by decide +kernel
theorem dX5_year_68 : decode cX5_year 68 = .ok (.istore 6, 2) := by decide +kernel
theorem dX5_year_70 : decode cX5_year 70 = .ok (.iload_n 3, 1) := by decide +kernel
theorem dX5_year_71 : decode cX5_year 71 = .ok (.aload_n 0, 1) := by decide +kernel
theorem dX5_year_72 : decode cX5_year 72 = .ok (.getfield 46, 3) := by decide +kernel
theorem dX5_year_75 : decode cX5_year 75 = .ok (.iload 6, 2) := by decide +kernel
theorem dX5_year_77 : decode cX5_year 77 = .ok (.invokevirtual 149, 3) := by decide +kernel
theorem dX5_year_80 : decode cX5_year 80 = .ok (.iadd, 1) := by decide +kernel
theorem dX5_year_81 : decode cX5_year 81 = .ok (.istore_n 3, 1) := by decide +kernel
theorem dX5_year_82 : decode cX5_year 82 = .ok (.iload 4, 2) := by decide +kernel
theorem dX5_year_84 : decode cX5_year 84 = .ok (.aload_n 0, 1) := by decide +kernel
theorem dX5_year_85 : decode cX5_year 85 = .ok (.getfield 46, 3) := by decide +kernel
theorem dX5_year_88 : decode cX5_year 88 = .ok (.getfield 155, 3) := by decide +kernel
theorem dX5_year_91 : decode cX5_year 91 = .ok (.ifCond .ne 7, 3) := by decide +kernel
theorem dX5_year_94 : decode cX5_year 94 = .ok (.iconst 1, 1) := by decide +kernel
theorem dX5_year_95 : decode cX5_year 95 = .ok (.goto 4, 3) := by decide +kernel
theorem dX5_year_98 : decode cX5_year 98 = .ok (.iconst 0, 1) := by decide +kernel
theorem dX5_year_99 : decode cX5_year 99 = .ok (.iadd, 1) := by decide +kernel
theorem dX5_year_100 : decode cX5_year 100 = .ok (.istore 4, 2) := by decide +kernel
theorem dX5_year_102 : decode cX5_year 102 = .ok (.aload_n 0, 1) := by decide +kernel
theorem dX5_year_103 : decode cX5_year 103 = .ok (.getfield 46, 3) := by decide +kernel
theorem dX5_year_106 : decode cX5_year 106 = .ok (.getfield 187, 3) := by decide +kernel
theorem dX5_year_109 : decode cX5_year 109 = .ok (.iload 6, 2) := by decide +kernel
theorem dX5_year_111 : decode cX5_year 111 = .ok (.aload_n 0, 1) := by decide +kernel
theorem dX5_year_112 : decode cX5_year 112 = .ok (.invokevirtual 76, 3) := by decide +kernel
theorem dX5_year_115 : decode cX5_year 115 = .ok (.getfield 80, 3) := by decide +kernel
theorem dX5_year_118 : decode cX5_year 118 = .ok (.invokevirtual 183, 3) := by decide +kernel
theorem dX5_year_121 : decode cX5_year 121 = .ok (.iinc 5 1, 3) := by decide +kernel
theorem dX5_year_124 : decode cX5_year 124 = .ok (.goto (-73), 3) := by decide +kernel
theorem dX5_year_127 : decode cX5_year 127 = .ok (.iload_n 2, 1) := by decide +kernel
theorem dX5_year_128 : decode cX5_year 128 = .ok (.ifCond .ne 7, 3) := by decide +kernel
theorem dX5_year_131 : decode cX5_year 131 = .ok (.iload_n 3, 1) := by decide +kernel
theorem dX5_year_132 : decode cX5_year 132 = .ok (.goto 5, 3) := by decide +kernel
theorem dX5_year_135 : decode cX5_year 135 = .ok (.iload 4, 2) := by decide +kernel
theorem dX5_year_137 : decode cX5_year 137 = .ok (.ireturn, 1) := by decide +kernel
theorem dX5_bet_0 : decode cX5_bet 0 = .ok (.aload_n 0, 1) := by decide +kernel
theorem dX5_bet_1 : decode cX5_bet 1 = .ok (.getfield 12, 3) := by decide +kernel
theorem dX5_bet_4 : decode cX5_bet 4 = .ok (.getfield 32, 3) := by decide +kernel
theorem dX5_bet_7 : decode cX5_bet 7 = .ok (.iload_n 1, 1) := by decide +kernel
theorem dX5_bet_8 : decode cX5_bet 8 = .ok (.invokevirtual 96, 3) := by decide +kernel
theorem dX5_bet_11 : decode cX5_bet 11 = .ok (.ifCond .eq 17, 3) := by decide +kernel
theorem dX5_bet_14 : decode cX5_bet 14 = .ok (.iload_n 2, 1) := by decide +kernel
theorem dX5_bet_15 : decode cX5_bet 15 = .ok (.invokestatic 120, 3) := by decide +kernel
theorem dX5_bet_18 : decode cX5_bet 18 = .ok (.ifCond .eq 10, 3) := by decide +kernel
theorem dX5_bet_21 : decode cX5_bet 21 = .ok (.iload_n 3, 1) := by decide +kernel
theorem dX5_bet_22 : decode cX5_bet 22 = .ok (.invokestatic 170, 3) := by decide +kernel
theorem dX5_bet_25 : decode cX5_bet 25 = .ok (.ifCond .ne 5, 3) := by decide +kernel
theorem dX5_bet_28 : decode cX5_bet 28 = .ok (.iconst (-1), 1) := by decide +kernel
theorem dX5_bet_29 : decode cX5_bet 29 = .ok (.ireturn, 1) := by decide +kernel
theorem dX5_bet_30 : decode cX5_bet 30 = .ok (.aload_n 0, 1) := by decide +kernel
theorem dX5_bet_31 : decode cX5_bet 31 = .ok (.invokevirtual 152, 3) := by decide +kernel
theorem dX5_bet_34 : decode cX5_bet 34 = .ok (.aload_n 0, 1) := by decide +kernel
theorem dX5_bet_35 : decode cX5_bet 35 = .ok (.getfield 39, 3) := by decide +kernel
theorem dX5_bet_38 : decode cX5_bet 38 = .ok (.iconst 3, 1) := by decide +kernel
theorem dX5_bet_39 : decode cX5_bet 39 = .ok (.iload_n 1, 1) := by decide +kernel
theorem dX5_bet_40 : decode cX5_bet 40 = .ok (.imul, 1) := by decide +kernel
theorem dX5_bet_41 : decode cX5_bet 41 = .ok (.iload_n 2, 1) := by decide +kernel
theorem dX5_bet_42 : decode cX5_bet 42 = .ok (.iadd, 1) := by decide +kernel
theorem dX5_bet_43 : decode cX5_bet 43 = .ok (.invokevirtual 194, 3) := by decide +kernel
theorem dX5_bet_46 : decode cX5_bet 46 = .ok (.istore 4, 2) := by decide +kernel
theorem dX5_bet_48 : decode cX5_bet 48 = .ok (.iload 4, 2) := by decide +kernel
theorem dX5_bet_50 : decode cX5_bet 50 = .ok (.ifCond .ne 5, 3) := by decide +kernel
theorem dX5_bet_53 : decode cX5_bet 53 = .ok (.iload_n 3, 1) := by decide +kernel
theorem dX5_bet_54 : decode cX5_bet 54 = .ok (.ireturn, 1) := by decide +kernel
theorem dX5_bet_55 : decode cX5_bet 55 = .ok (.iload 4, 2) := by decide +kernel
theorem dX5_bet_57 : decode cX5_bet 57 = .ok (.aload_n 0, 1) := by decide +kernel
theorem dX5_bet_58 : decode cX5_bet 58 = .ok (.getfield 39, 3) := by decide +kernel
theorem dX5_bet_61 : decode cX5_bet 61 = .ok (.getfield 155, 3) := by decide +kernel
theorem dX5_bet_64 : decode cX5_bet 64 = .ok (.invokestatic 197, 3) := by decide +kernel
theorem dX5_bet_67 : decode cX5_bet 67 = .ok (.istore 5, 2) := by decide +kernel
theorem dX5_bet_69 : decode cX5_bet 69 = .ok (.iload_n 3, 1) := by decide +kernel
theorem dX5_bet_70 : decode cX5_bet 70 = .ok (.ifCond .ne 8, 3) := by decide +kernel
theorem dX5_bet_73 : decode cX5_bet 73 = .ok (.iload 4, 2) := by decide +kernel
theorem dX5_bet_75 : decode cX5_bet 75 = .ok (.goto 10, 3) := by decide +kernel
theorem dX5_bet_78 : decode cX5_bet 78 = .ok (.aload_n 0, 1) := by decide +kernel
theorem dX5_bet_79 : decode cX5_bet 79 = .ok (.getfield 39, 3) := by decide +kernel
theorem dX5_bet_82 : decode cX5_bet 82 = .ok (.getfield 155, 3) := by decide +kernel
theorem dX5_bet_85 : decode cX5_bet 85 = .ok (.iload 5, 2) := by decide +kernel
theorem dX5_bet_87 : decode cX5_bet 87 = .ok (.iconst 1, 1) := by decide +kernel
theorem dX5_bet_88 : decode cX5_bet 88 = .ok (.invokestatic 200, 3) := by decide +kernel
theorem dX5_bet_91 : decode cX5_bet 91 = .ok (.idiv, 1) := by decide +kernel
theorem dX5_bet_92 : decode cX5_bet 92 = .ok (.ireturn, 1) := by decide +kernel
theorem dX5_sure_0 : decode cX5_sure 0 = .ok (.aload_n 0, 1) := by decide +kernel
theorem dX5_sure_1 : decode cX5_sure 1 = .ok (.invokevirtual 152, 3) := by decide +kernel
theorem dX5_sure_4 : decode cX5_sure 4 = .ok (.aload_n 0, 1) := by decide +kernel
theorem dX5_sure_5 : decode cX5_sure 5 = .ok (.getfield 39, 3) := by decide +kernel
theorem dX5_sure_8 : decode cX5_sure 8 = .ok (.getfield 155, 3) := by decide +kernel
theorem dX5_sure_11 : decode cX5_sure 11 = .ok (.ifCond .ne 6, 3) := by decide +kernel
theorem dX5_sure_14 : decode cX5_sure 14 = .ok (.bipush (-5), 2) := by decide +kernel
theorem dX5_sure_16 : decode cX5_sure 16 = .ok (.ireturn, 1) := by decide +kernel
theorem dX5_sure_17 : decode cX5_sure 17 = .ok (.bipush (-5), 2) := by decide +kernel
theorem dX5_sure_19 : decode cX5_sure 19 = .ok (.istore_n 1, 1) := by decide +kernel
theorem dX5_sure_20 : decode cX5_sure 20 = .ok (.iconst 5, 1) := by decide +kernel
theorem dX5_sure_21 : decode cX5_sure 21 = .ok (.istore_n 2, 1) := by decide +kernel
theorem dX5_sure_22 : decode cX5_sure 22 = .ok (.iconst 0, 1) := by decide +kernel
theorem dX5_sure_23 : decode cX5_sure 23 = .ok (.istore_n 3, 1) := by decide +kernel
theorem dX5_sure_24 : decode cX5_sure 24 = .ok (.iload_n 3, 1) := by decide +kernel
theorem dX5_sure_25 : decode cX5_sure 25 = .ok (.iconst 1, 1) := by decide +kernel
theorem dX5_sure_26 : decode cX5_sure 26 = .ok (.aload_n 0, 1) := by decide +kernel
theorem dX5_sure_27 : decode cX5_sure 27 = .ok (.getfield 12, 3) := by decide +kernel
theorem dX5_sure_30 : decode cX5_sure 30 = .ok (.getfield 32, 3) := by decide +kernel
theorem dX5_sure_33 : decode cX5_sure 33 = .ok (.getfield 205, 3) := by decide +kernel
theorem dX5_sure_36 : decode cX5_sure 36 = .ok (.ishl, 1) := by decide +kernel
theorem dX5_sure_37 : decode cX5_sure 37 = .ok (.if_icmp .ge 65, 3) := by decide +kernel
theorem dX5_sure_40 : decode cX5_sure 40 = .ok (.iload_n 3, 1) := by decide +kernel
theorem dX5_sure_41 : decode cX5_sure 41 = .ok (.invokestatic 208, 3) := by decide +kernel
theorem dX5_sure_44 : decode cX5_sure 44 = .ok (.istore 4, 2) := by decide +kernel
theorem dX5_sure_46 : decode cX5_sure 46 = .ok (.iload 4, 2) := by decide +kernel
theorem dX5_sure_48 : decode cX5_sure 48 = .ok (.iload_n 2, 1) := by decide +kernel
theorem dX5_sure_49 : decode cX5_sure 49 = .ok (.if_icmp .ge 47, 3) := by decide +kernel
theorem dX5_sure_52 : decode cX5_sure 52 = .ok (.aload_n 0, 1) := by decide +kernel
theorem dX5_sure_53 : decode cX5_sure 53 = .ok (.iload_n 3, 1) := by decide +kernel
theorem dX5_sure_54 : decode cX5_sure 54 = .ok (.invokevirtual 213, 3) := by decide +kernel
theorem dX5_sure_57 : decode cX5_sure 57 = .ok (.aload_n 0, 1) := by decide +kernel
theorem dX5_sure_58 : decode cX5_sure 58 = .ok (.invokevirtual 191, 3) := by decide +kernel
theorem dX5_sure_61 : decode cX5_sure 61 = .ok (.aload_n 0, 1) := by decide +kernel
theorem dX5_sure_62 : decode cX5_sure 62 = .ok (.getfield 46, 3) := by decide +kernel
theorem dX5_sure_65 : decode cX5_sure 65 = .ok (.getfield 155, 3) := by decide +kernel
theorem dX5_sure_68 : decode cX5_sure 68 = .ok (.iconst 1, 1) := by decide +kernel
theorem dX5_sure_69 : decode cX5_sure 69 = .ok (.if_icmp .ne 7, 3) := by decide +kernel
theorem dX5_sure_72 : decode cX5_sure 72 = .ok (.iload_n 3, 1) := by decide +kernel
theorem dX5_sure_73 : decode cX5_sure 73 = .ok (.goto 4, 3) := by decide +kernel
theorem dX5_sure_76 : decode cX5_sure 76 = .ok (.iload_n 1, 1) := by decide +kernel
theorem dX5_sure_77 : decode cX5_sure 77 = .ok (.istore_n 1, 1) := by decide +kernel
theorem dX5_sure_78 : decode cX5_sure 78 = .ok (.aload_n 0, 1) := by decide +kernel
theorem dX5_sure_79 : decode cX5_sure 79 = .ok (.getfield 46, 3) := by decide +kernel
theorem dX5_sure_82 : decode cX5_sure 82 = .ok (.getfield 155, 3) := by decide +kernel
theorem dX5_sure_85 : decode cX5_sure 85 = .ok (.iconst 1, 1) := by decide +kernel
theorem dX5_sure_86 : decode cX5_sure 86 = .ok (.if_icmp .ne 8, 3) := by decide +kernel
theorem dX5_sure_89 : decode cX5_sure 89 = .ok (.iload 4, 2) := by decide +kernel
theorem dX5_sure_91 : decode cX5_sure 91 = .ok (.goto 4, 3) := by decide +kernel
theorem dX5_sure_94 : decode cX5_sure 94 = .ok (.iload_n 2, 1) := by decide +kernel
theorem dX5_sure_95 : decode cX5_sure 95 = .ok (.istore_n 2, 1) := by decide +kernel
theorem dX5_sure_96 : decode cX5_sure 96 = .ok (.iinc 3 1, 3) := by decide +kernel
theorem dX5_sure_99 : decode cX5_sure 99 = .ok (.goto (-75), 3) := by decide +kernel
theorem dX5_sure_102 : decode cX5_sure 102 = .ok (.iload_n 1, 1) := by decide +kernel
theorem dX5_sure_103 : decode cX5_sure 103 = .ok (.ireturn, 1) := by decide +kernel
theorem dX5_secret_0 : decode cX5_secret 0 = .ok (.aload_n 0, 1) := by decide +kernel
theorem dX5_secret_1 : decode cX5_secret 1 = .ok (.getfield 12, 3) := by decide +kernel
theorem dX5_secret_4 : decode cX5_secret 4 = .ok (.getfield 32, 3) := by decide +kernel
theorem dX5_secret_7 : decode cX5_secret 7 = .ok (.iload_n 1, 1) := by decide +kernel
theorem dX5_secret_8 : decode cX5_secret 8 = .ok (.invokevirtual 96, 3) := by decide +kernel
theorem dX5_secret_11 : decode cX5_secret 11 = .ok (.ifCond .eq 10, 3) := by decide +kernel
theorem dX5_secret_14 : decode cX5_secret 14 = .ok (.iload_n 2, 1) := by decide +kernel
theorem dX5_secret_15 : decode cX5_secret 15 = .ok (.invokestatic 170, 3) := by decide +kernel
theorem dX5_secret_18 : decode cX5_secret 18 = .ok (.ifCond .ne 5, 3) := by decide +kernel
theorem dX5_secret_21 : decode cX5_secret 21 = .ok (.iconst (-1), 1) := by decide +kernel
theorem dX5_secret_22 : decode cX5_secret 22 = .ok (.ireturn, 1) := by decide +kernel
theorem dX5_secret_23 : decode cX5_secret 23 = .ok (.aload_n 0, 1) := by decide +kernel
theorem dX5_secret_24 : decode cX5_secret 24 = .ok (.getfield 46, 3) := by decide +kernel
theorem dX5_secret_27 : decode cX5_secret 27 = .ok (.getfield 187, 3) := by decide +kernel
theorem dX5_secret_30 : decode cX5_secret 30 = .ok (.aload_n 0, 1) := by decide +kernel
theorem dX5_secret_31 : decode cX5_secret 31 = .ok (.getfield 12, 3) := by decide +kernel
theorem dX5_secret_34 : decode cX5_secret 34 = .ok (.getfield 32, 3) := by decide +kernel
theorem dX5_secret_37 : decode cX5_secret 37 = .ok (.invokevirtual 188, 3) := by decide +kernel
theorem dX5_secret_40 : decode cX5_secret 40 = .ok (.aload_n 0, 1) := by decide +kernel
theorem dX5_secret_41 : decode cX5_secret 41 = .ok (.getfield 46, 3) := by decide +kernel
theorem dX5_secret_44 : decode cX5_secret 44 = .ok (.getfield 187, 3) := by decide +kernel
theorem dX5_secret_47 : decode cX5_secret 47 = .ok (.getfield 100, 3) := by decide +kernel
theorem dX5_secret_50 : decode cX5_secret 50 = .ok (.iload_n 1, 1) := by decide +kernel
theorem dX5_secret_51 : decode cX5_secret 51 = .ok (.iconst 3, 1) := by decide +kernel
theorem dX5_secret_52 : decode cX5_secret 52 = .ok (.iastore, 1) := by decide +kernel
theorem dX5_secret_53 : decode cX5_secret 53 = .ok (.aload_n 0, 1) := by decide +kernel
theorem dX5_secret_54 : decode cX5_secret 54 = .ok (.invokevirtual 191, 3) := by decide +kernel
theorem dX5_secret_57 : decode cX5_secret 57 = .ok (.iload_n 2, 1) := by decide +kernel
theorem dX5_secret_58 : decode cX5_secret 58 = .ok (.ifCond .ne 11, 3) := by decide +kernel
theorem dX5_secret_61 : decode cX5_secret 61 = .ok (.aload_n 0, 1) := by decide +kernel
theorem dX5_secret_62 : decode cX5_secret 62 = .ok (.getfield 46, 3) := by decide +kernel
theorem dX5_secret_65 : decode cX5_secret 65 = .ok (.getfield 164, 3) := by decide +kernel
theorem dX5_secret_68 : decode cX5_secret 68 = .ok (.ireturn, 1) := by decide +kernel
theorem dX5_secret_69 : decode cX5_secret 69 = .ok (.aload_n 0, 1) := by decide +kernel
theorem dX5_secret_70 : decode cX5_secret 70 = .ok (.invokevirtual 152, 3) := by decide +kernel
theorem dX5_secret_73 : decode cX5_secret 73 = .ok (.aload_n 0, 1) := by decide +kernel
theorem dX5_secret_74 : decode cX5_secret 74 = .ok (.getfield 46, 3) := by decide +kernel
theorem dX5_secret_77 : decode cX5_secret 77 = .ok (.getfield 155, 3) := by decide +kernel
theorem dX5_secret_80 : decode cX5_secret 80 = .ok (.ifCond .eq 13, 3) := by decide +kernel
theorem dX5_secret_83 : decode cX5_secret 83 = .ok (.aload_n 0, 1) := by decide +kernel
theorem dX5_secret_84 : decode cX5_secret 84 = .ok (.getfield 39, 3) := by decide +kernel
theorem dX5_secret_87 : decode cX5_secret 87 = .ok (.getfield 155, 3) := by decide +kernel
theorem dX5_secret_90 : decode cX5_secret 90 = .ok (.ifCond .ne 6, 3) := by decide +kernel
theorem dX5_secret_93 : decode cX5_secret 93 = .ok (.bipush (-5), 2) := by decide +kernel
theorem dX5_secret_95 : decode cX5_secret 95 = .ok (.ireturn, 1) := by decide +kernel
theorem dX5_secret_96 : decode cX5_secret 96 = .ok (.iload_n 1, 1) := by decide +kernel
theorem dX5_secret_97 : decode cX5_secret 97 = .ok (.aload_n 0, 1) := by decide +kernel
theorem dX5_secret_98 : decode cX5_secret 98 = .ok (.getfield 46, 3) := by decide +kernel
theorem dX5_secret_101 : decode cX5_secret 101 = .ok (.getfield 164, 3) := by decide +kernel
theorem dX5_secret_104 : decode cX5_secret 104 = .ok (.invokestatic 217, 3) := by decide +kernel
theorem dX5_secret_107 : decode cX5_secret 107 = .ok (.iload_n 1, 1) := by decide +kernel
theorem dX5_secret_108 : decode cX5_secret 108 = .ok (.aload_n 0, 1) := by decide +kernel
theorem dX5_secret_109 : decode cX5_secret 109 = .ok (.getfield 39, 3) := by decide +kernel
theorem dX5_secret_112 : decode cX5_secret 112 = .ok (.getfield 164, 3) := by decide +kernel
theorem dX5_secret_115 : decode cX5_secret 115 = .ok (.invokestatic 217, 3) := by decide +kernel
theorem dX5_secret_118 : decode cX5_secret 118 = .ok (.ixor, 1) := by decide +kernel
theorem dX5_secret_119 : decode cX5_secret 119 = .ok (.invokestatic 208, 3) := by decide +kernel
theorem dX5_secret_122 : decode cX5_secret 122 = .ok (.ireturn, 1) := by decide +kernel
theorem dX5_swap_0 : decode cX5_swap 0 = .ok (.iload_n 1, 1) := by decide +kernel
theorem dX5_swap_1 : decode cX5_swap 1 = .ok (.invokestatic 170, 3) := by decide +kernel
theorem dX5_swap_4 : decode cX5_swap 4 = .ok (.ifCond .ne 5, 3) := by decide +kernel
theorem dX5_swap_7 : decode cX5_swap 7 = .ok (.iconst (-1), 1) := by decide +kernel
theorem dX5_swap_8 : decode cX5_swap 8 = .ok (.ireturn, 1) := by decide +kernel
theorem dX5_swap_9 : decode cX5_swap 9 = .ok (.aload_n 0, 1) := by decide +kernel
theorem dX5_swap_10 : decode cX5_swap 10 = .ok (.invokevirtual 152, 3) := by decide +kernel
theorem dX5_swap_13 : decode cX5_swap 13 = .ok (.iconst 0, 1) := by decide +kernel
theorem dX5_swap_14 : decode cX5_swap 14 = .ok (.istore_n 2, 1) := by decide +kernel
theorem dX5_swap_15 : decode cX5_swap 15 = .ok (.bipush (-5), 2) := by decide +kernel
theorem dX5_swap_17 : decode cX5_swap 17 = .ok (.istore_n 3, 1) := by decide +kernel
theorem dX5_swap_18 : decode cX5_swap 18 = .ok (.iconst 0, 1) := by decide +kernel
theorem dX5_swap_19 : decode cX5_swap 19 = .ok (.istore 4, 2) := by decide +kernel
theorem dX5_swap_21 : decode cX5_swap 21 = .ok (.iload 4, 2) := by decide +kernel
theorem dX5_swap_23 : decode cX5_swap 23 = .ok (.aload_n 0, 1) := by decide +kernel
theorem dX5_swap_24 : decode cX5_swap 24 = .ok (.getfield 12, 3) := by decide +kernel
theorem dX5_swap_27 : decode cX5_swap 27 = .ok (.getfield 32, 3) := by decide +kernel
theorem dX5_swap_30 : decode cX5_swap 30 = .ok (.getfield 205, 3) := by decide +kernel
theorem dX5_swap_33 : decode cX5_swap 33 = .ok (.if_icmp .ge 102, 3) := by decide +kernel
theorem dX5_swap_36 : decode cX5_swap 36 = .ok (.iload 4, 2) := by decide +kernel
theorem dX5_swap_38 : decode cX5_swap 38 = .ok (.iconst 1, 1) := by decide +kernel
theorem dX5_swap_39 : decode cX5_swap 39 = .ok (.iadd, 1) := by decide +kernel
theorem dX5_swap_40 : decode cX5_swap 40 = .ok (.istore 5, 2) := by decide +kernel
theorem dX5_swap_42 : decode cX5_swap 42 = .ok (.iload 5, 2) := by decide +kernel
theorem dX5_swap_44 : decode cX5_swap 44 = .ok (.aload_n 0, 1) := by decide +kernel
theorem dX5_swap_45 : decode cX5_swap 45 = .ok (.getfield 12, 3) := by decide +kernel
theorem dX5_swap_48 : decode cX5_swap 48 = .ok (.getfield 32, 3) := by decide +kernel
theorem dX5_swap_51 : decode cX5_swap 51 = .ok (.getfield 205, 3) := by decide +kernel
theorem dX5_swap_54 : decode cX5_swap 54 = .ok (.if_icmp .ge 75, 3) := by decide +kernel
theorem dX5_swap_57 : decode cX5_swap 57 = .ok (.aload_n 0, 1) := by decide +kernel
theorem dX5_swap_58 : decode cX5_swap 58 = .ok (.getfield 46, 3) := by decide +kernel
theorem dX5_swap_61 : decode cX5_swap 61 = .ok (.getfield 187, 3) := by decide +kernel
theorem dX5_swap_64 : decode cX5_swap 64 = .ok (.aload_n 0, 1) := by decide +kernel
theorem dX5_swap_65 : decode cX5_swap 65 = .ok (.getfield 12, 3) := by decide +kernel
theorem dX5_swap_68 : decode cX5_swap 68 = .ok (.getfield 32, 3) := by decide +kernel
theorem dX5_swap_71 : decode cX5_swap 71 = .ok (.invokevirtual 188, 3) := by decide +kernel
theorem dX5_swap_74 : decode cX5_swap 74 = .ok (.aload_n 0, 1) := by decide +kernel
theorem dX5_swap_75 : decode cX5_swap 75 = .ok (.getfield 46, 3) := by decide +kernel
theorem dX5_swap_78 : decode cX5_swap 78 = .ok (.getfield 187, 3) := by decide +kernel
theorem dX5_swap_81 : decode cX5_swap 81 = .ok (.iload 4, 2) := by decide +kernel
theorem dX5_swap_83 : decode cX5_swap 83 = .ok (.iload 5, 2) := by decide +kernel
theorem dX5_swap_85 : decode cX5_swap 85 = .ok (.invokevirtual 220, 3) := by decide +kernel
theorem dX5_swap_88 : decode cX5_swap 88 = .ok (.aload_n 0, 1) := by decide +kernel
theorem dX5_swap_89 : decode cX5_swap 89 = .ok (.invokevirtual 191, 3) := by decide +kernel
theorem dX5_swap_92 : decode cX5_swap 92 = .ok (.aload_n 0, 1) := by decide +kernel
theorem dX5_swap_93 : decode cX5_swap 93 = .ok (.iload 4, 2) := by decide +kernel
theorem dX5_swap_95 : decode cX5_swap 95 = .ok (.iload 5, 2) := by decide +kernel
theorem dX5_swap_97 : decode cX5_swap 97 = .ok (.invokevirtual 223, 3) := by decide +kernel
theorem dX5_swap_100 : decode cX5_swap 100 = .ok (.ifCond .eq 23, 3) := by decide +kernel
theorem dX5_swap_103 : decode cX5_swap 103 = .ok (.iload_n 2, 1) := by decide +kernel
theorem dX5_swap_104 : decode cX5_swap 104 = .ok (.ifCond .ne 14, 3) := by decide +kernel
theorem dX5_swap_107 : decode cX5_swap 107 = .ok (.bipush 10, 2) := by decide +kernel
theorem dX5_swap_109 : decode cX5_swap 109 = .ok (.iload 4, 2) := by decide +kernel
theorem dX5_swap_111 : decode cX5_swap 111 = .ok (.imul, 1) := by decide +kernel
theorem dX5_swap_112 : decode cX5_swap 112 = .ok (.iload 5, 2) := by decide +kernel
theorem dX5_swap_114 : decode cX5_swap 114 = .ok (.iadd, 1) := by decide +kernel
theorem dX5_swap_115 : decode cX5_swap 115 = .ok (.goto 4, 3) := by decide +kernel
theorem dX5_swap_118 : decode cX5_swap 118 = .ok (.iload_n 3, 1) := by decide +kernel
theorem dX5_swap_119 : decode cX5_swap 119 = .ok (.istore_n 3, 1) := by decide +kernel
theorem dX5_swap_120 : decode cX5_swap 120 = .ok (.iinc 2 1, 3) := by decide +kernel
theorem dX5_swap_123 : decode cX5_swap 123 = .ok (.iinc 5 1, 3) := by decide +kernel
theorem dX5_swap_126 : decode cX5_swap 126 = .ok (.goto (-84), 3) := by decide +kernel
theorem dX5_swap_129 : decode cX5_swap 129 = .ok (.iinc 4 1, 3) := by decide +kernel
theorem dX5_swap_132 : decode cX5_swap 132 = .ok (.goto (-111), 3) := by decide +kernel
theorem dX5_swap_135 : decode cX5_swap 135 = .ok (.iload_n 1, 1) := by decide +kernel
theorem dX5_swap_136 : decode cX5_swap 136 = .ok (.ifCond .ne 7, 3) := by decide +kernel
theorem dX5_swap_139 : decode cX5_swap 139 = .ok (.iload_n 2, 1) := by decide +kernel
theorem dX5_swap_140 : decode cX5_swap 140 = .ok (.goto 4, 3) := by decide +kernel
theorem dX5_swap_143 : decode cX5_swap 143 = .ok (.iload_n 3, 1) := by decide +kernel
theorem dX5_swap_144 : decode cX5_swap 144 = .ok (.ireturn, 1) := by decide +kernel
theorem dX5_book_0 : decode cX5_book 0 = .ok (.iload_n 1, 1) := by decide +kernel
theorem dX5_book_1 : decode cX5_book 1 = .ok (.iconst (-1), 1) := by decide +kernel
theorem dX5_book_2 : decode cX5_book 2 = .ok (.if_icmp .ne 13, 3) := by decide +kernel
theorem dX5_book_5 : decode cX5_book 5 = .ok (.aload_n 0, 1) := by decide +kernel
theorem dX5_book_6 : decode cX5_book 6 = .ok (.getfield 12, 3) := by decide +kernel
theorem dX5_book_9 : decode cX5_book 9 = .ok (.iconst 0, 1) := by decide +kernel
theorem dX5_book_10 : decode cX5_book 10 = .ok (.putfield 227, 3) := by decide +kernel
theorem dX5_book_13 : decode cX5_book 13 = .ok (.iconst 0, 1) := by decide +kernel
theorem dX5_book_14 : decode cX5_book 14 = .ok (.ireturn, 1) := by decide +kernel
theorem dX5_book_15 : decode cX5_book 15 = .ok (.aload_n 0, 1) := by decide +kernel
theorem dX5_book_16 : decode cX5_book 16 = .ok (.getfield 12, 3) := by decide +kernel
theorem dX5_book_19 : decode cX5_book 19 = .ok (.getfield 32, 3) := by decide +kernel
theorem dX5_book_22 : decode cX5_book 22 = .ok (.iload_n 1, 1) := by decide +kernel
theorem dX5_book_23 : decode cX5_book 23 = .ok (.invokevirtual 117, 3) := by decide +kernel
theorem dX5_book_26 : decode cX5_book 26 = .ok (.ifCond .ne 6, 3) := by decide +kernel
theorem dX5_book_29 : decode cX5_book 29 = .ok (.bipush (-2), 2) := by decide +kernel
theorem dX5_book_31 : decode cX5_book 31 = .ok (.ireturn, 1) := by decide +kernel
theorem dX5_book_32 : decode cX5_book 32 = .ok (.aload_n 0, 1) := by decide +kernel
theorem dX5_book_33 : decode cX5_book 33 = .ok (.getfield 12, 3) := by decide +kernel
theorem dX5_book_36 : decode cX5_book 36 = .ok (.getfield 227, 3) := by decide +kernel
theorem dX5_book_39 : decode cX5_book 39 = .ok (.ifCond .lt 21, 3) := by decide +kernel
theorem dX5_book_42 : decode cX5_book 42 = .ok (.aload_n 0, 1) := by decide +kernel
theorem dX5_book_43 : decode cX5_book 43 = .ok (.getfield 12, 3) := by decide +kernel
theorem dX5_book_46 : decode cX5_book 46 = .ok (.getfield 227, 3) := by decide +kernel
theorem dX5_book_49 : decode cX5_book 49 = .ok (.aload_n 0, 1) := by decide +kernel
theorem dX5_book_50 : decode cX5_book 50 = .ok (.getfield 12, 3) := by decide +kernel
theorem dX5_book_53 : decode cX5_book 53 = .ok (.getfield 230, 3) := by decide +kernel
theorem dX5_book_56 : decode cX5_book 56 = .ok (.arraylength, 1) := by decide +kernel
theorem dX5_book_57 : decode cX5_book 57 = .ok (.if_icmp .lt 6, 3) := by decide +kernel
theorem dX5_book_60 : decode cX5_book 60 = .ok (.bipush (-4), 2) := by decide +kernel
theorem dX5_book_62 : decode cX5_book 62 = .ok (.ireturn, 1) := by decide +kernel
theorem dX5_book_63 : decode cX5_book 63 = .ok (.aload_n 0, 1) := by decide +kernel
theorem dX5_book_64 : decode cX5_book 64 = .ok (.getfield 12, 3) := by decide +kernel
theorem dX5_book_67 : decode cX5_book 67 = .ok (.getfield 230, 3) := by decide +kernel
theorem dX5_book_70 : decode cX5_book 70 = .ok (.aload_n 0, 1) := by decide +kernel
theorem dX5_book_71 : decode cX5_book 71 = .ok (.getfield 12, 3) := by decide +kernel
theorem dX5_book_74 : decode cX5_book 74 = .ok (.getfield 227, 3) := by decide +kernel
theorem dX5_book_77 : decode cX5_book 77 = .ok (.iload_n 1, 1) := by decide +kernel
theorem dX5_book_78 : decode cX5_book 78 = .ok (.iastore, 1) := by decide +kernel
theorem dX5_book_79 : decode cX5_book 79 = .ok (.aload_n 0, 1) := by decide +kernel
theorem dX5_book_80 : decode cX5_book 80 = .ok (.getfield 12, 3) := by decide +kernel
theorem dX5_book_83 : decode cX5_book 83 = .ok (.dup, 1) := by decide +kernel
theorem dX5_book_84 : decode cX5_book 84 = .ok (.getfield 227, 3) := by decide +kernel
theorem dX5_book_87 : decode cX5_book 87 = .ok (.iconst 1, 1) := by decide +kernel
theorem dX5_book_88 : decode cX5_book 88 = .ok (.iadd, 1) := by decide +kernel
theorem dX5_book_89 : decode cX5_book 89 = .ok (.putfield 227, 3) := by decide +kernel
theorem dX5_book_92 : decode cX5_book 92 = .ok (.aload_n 0, 1) := by decide +kernel
theorem dX5_book_93 : decode cX5_book 93 = .ok (.getfield 12, 3) := by decide +kernel
theorem dX5_book_96 : decode cX5_book 96 = .ok (.getfield 227, 3) := by decide +kernel
theorem dX5_book_99 : decode cX5_book 99 = .ok (.ireturn, 1) := by decide +kernel
theorem dX5_looked_0 : decode cX5_looked 0 = .ok (.iload_n 1, 1) := by decide +kernel
theorem dX5_looked_1 : decode cX5_looked 1 = .ok (.invokestatic 170, 3) := by decide +kernel
theorem dX5_looked_4 : decode cX5_looked 4 = .ok (.ifCond .ne 5, 3) := by decide +kernel
theorem dX5_looked_7 : decode cX5_looked 7 = .ok (.iconst (-1), 1) := by decide +kernel
theorem dX5_looked_8 : decode cX5_looked 8 = .ok (.ireturn, 1) := by decide +kernel
theorem dX5_looked_9 : decode cX5_looked 9 = .ok (.aload_n 0, 1) := by decide +kernel
theorem dX5_looked_10 : decode cX5_looked 10 = .ok (.getfield 39, 3) := by decide +kernel
theorem dX5_looked_13 : decode cX5_looked 13 = .ok (.aload_n 0, 1) := by decide +kernel
theorem dX5_looked_14 : decode cX5_looked 14 = .ok (.invokevirtual 76, 3) := by decide +kernel
theorem dX5_looked_17 : decode cX5_looked 17 = .ok (.invokevirtual 123, 3) := by decide +kernel
theorem dX5_looked_20 : decode cX5_looked 20 = .ok (.iconst 0, 1) := by decide +kernel
theorem dX5_looked_21 : decode cX5_looked 21 = .ok (.istore_n 2, 1) := by decide +kernel
theorem dX5_looked_22 : decode cX5_looked 22 = .ok (.bipush (-5), 2) := by decide +kernel
theorem dX5_looked_24 : decode cX5_looked 24 = .ok (.istore_n 3, 1) := by decide +kernel
theorem dX5_looked_25 : decode cX5_looked 25 = .ok (.iconst 0, 1) := by decide +kernel
theorem dX5_looked_26 : decode cX5_looked 26 = .ok (.istore 4, 2) := by decide +kernel
theorem dX5_looked_28 : decode cX5_looked 28 = .ok (.iload 4, 2) := by decide +kernel
theorem dX5_looked_30 : decode cX5_looked 30 = .ok (.aload_n 0, 1) := by decide +kernel
theorem dX5_looked_31 : decode cX5_looked 31 = .ok (.getfield 12, 3) := by decide +kernel
theorem dX5_looked_34 : decode cX5_looked 34 = .ok (.getfield 227, 3) := by decide +kernel
theorem dX5_looked_37 : decode cX5_looked 37 = .ok (.if_icmp .ge 63, 3) := by decide +kernel
theorem dX5_looked_40 : decode cX5_looked 40 = .ok (.iload 4, 2) := by decide +kernel
theorem dX5_looked_42 : decode cX5_looked 42 = .ok (.aload_n 0, 1) := by decide +kernel
theorem dX5_looked_43 : decode cX5_looked 43 = .ok (.getfield 12, 3) := by decide +kernel
theorem dX5_looked_46 : decode cX5_looked 46 = .ok (.getfield 230, 3) := by decide +kernel
theorem dX5_looked_49 : decode cX5_looked 49 = .ok (.arraylength, 1) := by decide +kernel
theorem dX5_looked_50 : decode cX5_looked 50 = .ok (.if_icmp .ge 50, 3) := by decide +kernel
theorem dX5_looked_53 : decode cX5_looked 53 = .ok (.aload_n 0, 1) := by decide +kernel
theorem dX5_looked_54 : decode cX5_looked 54 = .ok (.getfield 39, 3) := by decide +kernel
theorem dX5_looked_57 : decode cX5_looked 57 = .ok (.aload_n 0, 1) := by decide +kernel
theorem dX5_looked_58 : decode cX5_looked 58 = .ok (.getfield 12, 3) := by decide +kernel
theorem dX5_looked_61 : decode cX5_looked 61 = .ok (.getfield 230, 3) := by decide +kernel
theorem dX5_looked_64 : decode cX5_looked 64 = .ok (.iload 4, 2) := by decide +kernel
theorem dX5_looked_66 : decode cX5_looked 66 = .ok (.iaload, 1) := by decide +kernel
theorem dX5_looked_67 : decode cX5_looked 67 = .ok (.invokevirtual 173, 3) := by decide +kernel
theorem dX5_looked_70 : decode cX5_looked 70 = .ok (.ifCond .eq 9, 3) := by decide +kernel
theorem dX5_looked_73 : decode cX5_looked 73 = .ok (.iinc 2 1, 3) := by decide +kernel
theorem dX5_looked_76 : decode cX5_looked 76 = .ok (.goto 18, 3) := by decide +kernel
theorem dX5_looked_79 : decode cX5_looked 79 = .ok (.iload_n 3, 1) := by decide +kernel
theorem dX5_looked_80 : decode cX5_looked 80 = .ok (.ifCond .ge 14, 3) := by decide +kernel
theorem dX5_looked_83 : decode cX5_looked 83 = .ok (.aload_n 0, 1) := by decide +kernel
theorem dX5_looked_84 : decode cX5_looked 84 = .ok (.getfield 12, 3) := by decide +kernel
theorem dX5_looked_87 : decode cX5_looked 87 = .ok (.getfield 230, 3) := by decide +kernel
theorem dX5_looked_90 : decode cX5_looked 90 = .ok (.iload 4, 2) := by decide +kernel
theorem dX5_looked_92 : decode cX5_looked 92 = .ok (.iaload, 1) := by decide +kernel
theorem dX5_looked_93 : decode cX5_looked 93 = .ok (.istore_n 3, 1) := by decide +kernel
theorem dX5_looked_94 : decode cX5_looked 94 = .ok (.iinc 4 1, 3) := by decide +kernel
theorem dX5_looked_97 : decode cX5_looked 97 = .ok (.goto (-69), 3) := by decide +kernel
theorem dX5_looked_100 : decode cX5_looked 100 = .ok (.iload_n 1, 1) := by decide +kernel
theorem dX5_looked_101 : decode cX5_looked 101 = .ok (.ifCond .ne 7, 3) := by decide +kernel
theorem dX5_looked_104 : decode cX5_looked 104 = .ok (.iload_n 2, 1) := by decide +kernel
theorem dX5_looked_105 : decode cX5_looked 105 = .ok (.goto 4, 3) := by decide +kernel
theorem dX5_looked_108 : decode cX5_looked 108 = .ok (.iload_n 3, 1) := by decide +kernel
theorem dX5_looked_109 : decode cX5_looked 109 = .ok (.ireturn, 1) := by decide +kernel
theorem dX5_act_0 : decode cX5_act 0 = .ok (.aload_n 0, 1) := by decide +kernel
theorem dX5_act_1 : decode cX5_act 1 = .ok (.getfield 56, 3) := by decide +kernel
theorem dX5_act_4 : decode cX5_act 4 = .ok (.invokevirtual 233, 3) := by decide +kernel
theorem dX5_act_7 : decode cX5_act 7 = .ok (.aload_n 0, 1) := by decide +kernel
theorem dX5_act_8 : decode cX5_act 8 = .ok (.getfield 12, 3) := by decide +kernel
theorem dX5_act_11 : decode cX5_act 11 = .ok (.getfield 32, 3) := by decide +kernel
theorem dX5_act_14 : decode cX5_act 14 = .ok (.iload_n 1, 1) := by decide +kernel
theorem dX5_act_15 : decode cX5_act 15 = .ok (.invokevirtual 96, 3) := by decide +kernel
theorem dX5_act_18 : decode cX5_act 18 = .ok (.ifCond .eq 12, 3) := by decide +kernel
theorem dX5_act_21 : decode cX5_act 21 = .ok (.iload_n 2, 1) := by decide +kernel
theorem dX5_act_22 : decode cX5_act 22 = .ok (.ifCond .lt 8, 3) := by decide +kernel
theorem dX5_act_25 : decode cX5_act 25 = .ok (.iload_n 2, 1) := by decide +kernel
theorem dX5_act_26 : decode cX5_act 26 = .ok (.iconst 3, 1) := by decide +kernel
theorem dX5_act_27 : decode cX5_act 27 = .ok (.if_icmp .lt 5, 3) := by decide +kernel
theorem dX5_act_30 : decode cX5_act 30 = .ok (.iconst 0, 1) := by decide +kernel
theorem dX5_act_31 : decode cX5_act 31 = .ok (.ireturn, 1) := by decide +kernel
theorem dX5_act_32 : decode cX5_act 32 = .ok (.aload_n 0, 1) := by decide +kernel
theorem dX5_act_33 : decode cX5_act 33 = .ok (.getfield 56, 3) := by decide +kernel
theorem dX5_act_36 : decode cX5_act 36 = .ok (.aload_n 0, 1) := by decide +kernel
theorem dX5_act_37 : decode cX5_act 37 = .ok (.getfield 12, 3) := by decide +kernel
theorem dX5_act_40 : decode cX5_act 40 = .ok (.getfield 32, 3) := by decide +kernel
theorem dX5_act_43 : decode cX5_act 43 = .ok (.iload_n 1, 1) := by decide +kernel
theorem dX5_act_44 : decode cX5_act 44 = .ok (.iload_n 2, 1) := by decide +kernel
theorem dX5_act_45 : decode cX5_act 45 = .ok (.iload_n 3, 1) := by decide +kernel
theorem dX5_act_46 : decode cX5_act 46 = .ok (.invokevirtual 236, 3) := by decide +kernel
theorem dX5_act_49 : decode cX5_act 49 = .ok (.ireturn, 1) := by decide +kernel
theorem dX5_trace_0 : decode cX5_trace 0 = .ok (.iload_n 1, 1) := by decide +kernel
theorem dX5_trace_1 : decode cX5_trace 1 = .ok (.ifCond .lt 26, 3) := by decide +kernel
theorem dX5_trace_4 : decode cX5_trace 4 = .ok (.iload_n 1, 1) := by decide +kernel
theorem dX5_trace_5 : decode cX5_trace 5 = .ok (.aload_n 0, 1) := by decide +kernel
theorem dX5_trace_6 : decode cX5_trace 6 = .ok (.getfield 56, 3) := by decide +kernel
theorem dX5_trace_9 : decode cX5_trace 9 = .ok (.getfield 240, 3) := by decide +kernel
theorem dX5_trace_12 : decode cX5_trace 12 = .ok (.if_icmp .ge 15, 3) := by decide +kernel
theorem dX5_trace_15 : decode cX5_trace 15 = .ok (.iload_n 1, 1) := by decide +kernel
theorem dX5_trace_16 : decode cX5_trace 16 = .ok (.aload_n 0, 1) := by decide +kernel
theorem dX5_trace_17 : decode cX5_trace 17 = .ok (.getfield 56, 3) := by decide +kernel
theorem dX5_trace_20 : decode cX5_trace 20 = .ok (.getfield 243, 3) := by decide +kernel
theorem dX5_trace_23 : decode cX5_trace 23 = .ok (.arraylength, 1) := by decide +kernel
theorem dX5_trace_24 : decode cX5_trace 24 = .ok (.if_icmp .lt 5, 3) := by decide +kernel
theorem dX5_trace_27 : decode cX5_trace 27 = .ok (.iconst (-1), 1) := by decide +kernel
theorem dX5_trace_28 : decode cX5_trace 28 = .ok (.ireturn, 1) := by decide +kernel
theorem dX5_trace_29 : decode cX5_trace 29 = .ok (.aload_n 0, 1) := by decide +kernel
theorem dX5_trace_30 : decode cX5_trace 30 = .ok (.getfield 56, 3) := by decide +kernel
theorem dX5_trace_33 : decode cX5_trace 33 = .ok (.getfield 243, 3) := by decide +kernel
theorem dX5_trace_36 : decode cX5_trace 36 = .ok (.iload_n 1, 1) := by decide +kernel
theorem dX5_trace_37 : decode cX5_trace 37 = .ok (.iaload, 1) := by decide +kernel
theorem dX5_trace_38 : decode cX5_trace 38 = .ok (.ireturn, 1) := by decide +kernel
theorem dX5_as_0 : decode cX5_as 0 = .ok (.aload_n 0, 1) := by decide +kernel
theorem dX5_as_1 : decode cX5_as 1 = .ok (.getfield 12, 3) := by decide +kernel
theorem dX5_as_4 : decode cX5_as 4 = .ok (.getfield 32, 3) := by decide +kernel
theorem dX5_as_7 : decode cX5_as 7 = .ok (.iload_n 1, 1) := by decide +kernel
theorem dX5_as_8 : decode cX5_as 8 = .ok (.invokevirtual 96, 3) := by decide +kernel
theorem dX5_as_11 : decode cX5_as 11 = .ok (.ifCond .eq 13, 3) := by decide +kernel
theorem dX5_as_14 : decode cX5_as 14 = .ok (.iload_n 2, 1) := by decide +kernel
theorem dX5_as_15 : decode cX5_as 15 = .ok (.ifCond .lt 9, 3) := by decide +kernel
theorem dX5_as_18 : decode cX5_as 18 = .ok (.iload_n 2, 1) := by decide +kernel
theorem dX5_as_19 : decode cX5_as 19 = .ok (.bipush 7, 2) := by decide +kernel
theorem dX5_as_21 : decode cX5_as 21 = .ok (.if_icmp .lt 5, 3) := by decide +kernel
theorem dX5_as_24 : decode cX5_as 24 = .ok (.iconst (-1), 1) := by decide +kernel
theorem dX5_as_25 : decode cX5_as 25 = .ok (.ireturn, 1) := by decide +kernel
theorem dX5_as_26 : decode cX5_as 26 = .ok (.aload_n 0, 1) := by decide +kernel
theorem dX5_as_27 : decode cX5_as 27 = .ok (.getfield 12, 3) := by decide +kernel
theorem dX5_as_30 : decode cX5_as 30 = .ok (.getfield 32, 3) := by decide +kernel
theorem dX5_as_33 : decode cX5_as 33 = .ok (.getfield 100, 3) := by decide +kernel
theorem dX5_as_36 : decode cX5_as 36 = .ok (.iload_n 1, 1) := by decide +kernel
theorem dX5_as_37 : decode cX5_as 37 = .ok (.iaload, 1) := by decide +kernel
theorem dX5_as_38 : decode cX5_as 38 = .ok (.istore_n 3, 1) := by decide +kernel
theorem dX5_as_39 : decode cX5_as 39 = .ok (.iconst 0, 1) := by decide +kernel
theorem dX5_as_40 : decode cX5_as 40 = .ok (.istore 4, 2) := by decide +kernel
theorem dX5_as_42 : decode cX5_as 42 = .ok (.iload 4, 2) := by decide +kernel
theorem dX5_as_44 : decode cX5_as 44 = .ok (.bipush 7, 2) := by decide +kernel
theorem dX5_as_46 : decode cX5_as 46 = .ok (.if_icmp .ge 43, 3) := by decide +kernel
theorem dX5_as_49 : decode cX5_as 49 = .ok (.iload_n 3, 1) := by decide +kernel
theorem dX5_as_50 : decode cX5_as 50 = .ok (.ifCond .lt 39, 3) := by decide +kernel
theorem dX5_as_53 : decode cX5_as 53 = .ok (.iload_n 3, 1) := by decide +kernel
theorem dX5_as_54 : decode cX5_as 54 = .ok (.bipush 7, 2) := by decide +kernel
theorem dX5_as_56 : decode cX5_as 56 = .ok (.if_icmp .ge 33, 3) := by decide +kernel
theorem dX5_as_59 : decode cX5_as 59 = .ok (.iload_n 3, 1) := by decide +kernel
theorem dX5_as_60 : decode cX5_as 60 = .ok (.iload_n 2, 1) := by decide +kernel
theorem dX5_as_61 : decode cX5_as 61 = .ok (.if_icmp .ne 16, 3) := by decide +kernel
theorem dX5_as_64 : decode cX5_as 64 = .ok (.aload_n 0, 1) := by decide +kernel
theorem dX5_as_65 : decode cX5_as 65 = .ok (.getfield 12, 3) := by decide +kernel
theorem dX5_as_68 : decode cX5_as 68 = .ok (.getfield 32, 3) := by decide +kernel
theorem dX5_as_71 : decode cX5_as 71 = .ok (.getfield 103, 3) := by decide +kernel
theorem dX5_as_74 : decode cX5_as 74 = .ok (.iload_n 1, 1) := by decide +kernel
theorem dX5_as_75 : decode cX5_as 75 = .ok (.iaload, 1) := by decide +kernel
theorem dX5_as_76 : decode cX5_as 76 = .ok (.ireturn, 1) := by decide +kernel
theorem dX5_as_77 : decode cX5_as 77 = .ok (.getstatic 246, 3) := by decide +kernel
theorem dX5_as_80 : decode cX5_as 80 = .ok (.iload_n 3, 1) := by decide +kernel
theorem dX5_as_81 : decode cX5_as 81 = .ok (.iaload, 1) := by decide +kernel
theorem dX5_as_82 : decode cX5_as 82 = .ok (.istore_n 3, 1) := by decide +kernel
theorem dX5_as_83 : decode cX5_as 83 = .ok (.iinc 4 1, 3) := by decide +kernel
theorem dX5_as_86 : decode cX5_as 86 = .ok (.goto (-44), 3) := by decide +kernel
theorem dX5_as_89 : decode cX5_as 89 = .ok (.bipush (-6), 2) := by decide +kernel
theorem dX5_as_91 : decode cX5_as 91 = .ok (.ireturn, 1) := by decide +kernel
theorem dX5_image_0 : decode cX5_image 0 = .ok (.aload_n 0, 1) := by decide +kernel
theorem dX5_image_1 : decode cX5_image 1 = .ok (.getfield 16, 3) := by decide +kernel
theorem dX5_image_4 : decode cX5_image 4 = .ok (.aload_n 0, 1) := by decide +kernel
theorem dX5_image_5 : decode cX5_image 5 = .ok (.getfield 12, 3) := by decide +kernel
theorem dX5_image_8 : decode cX5_image 8 = .ok (.invokevirtual 249, 3) := by decide +kernel
theorem dX5_image_11 : decode cX5_image 11 = .ok (.aload_n 0, 1) := by decide +kernel
theorem dX5_image_12 : decode cX5_image 12 = .ok (.iconst 1, 1) := by decide +kernel
theorem dX5_image_13 : decode cX5_image 13 = .ok (.putfield 252, 3) := by decide +kernel
theorem dX5_image_16 : decode cX5_image 16 = .ok (.aload_n 0, 1) := by decide +kernel
theorem dX5_image_17 : decode cX5_image 17 = .ok (.getfield 12, 3) := by decide +kernel
theorem dX5_image_20 : decode cX5_image 20 = .ok (.getfield 32, 3) := by decide +kernel
theorem dX5_image_23 : decode cX5_image 23 = .ok (.getfield 205, 3) := by decide +kernel
theorem dX5_image_26 : decode cX5_image 26 = .ok (.ireturn, 1) := by decide +kernel
theorem dX5_undo_0 : decode cX5_undo 0 = .ok (.aload_n 0, 1) := by decide +kernel
theorem dX5_undo_1 : decode cX5_undo 1 = .ok (.getfield 252, 3) := by decide +kernel
theorem dX5_undo_4 : decode cX5_undo 4 = .ok (.ifCond .ne 6, 3) := by decide +kernel
theorem dX5_undo_7 : decode cX5_undo 7 = .ok (.bipush (-3), 2) := by decide +kernel
theorem dX5_undo_9 : decode cX5_undo 9 = .ok (.ireturn, 1) := by decide +kernel
theorem dX5_undo_10 : decode cX5_undo 10 = .ok (.aload_n 0, 1) := by decide +kernel
theorem dX5_undo_11 : decode cX5_undo 11 = .ok (.getfield 12, 3) := by decide +kernel
theorem dX5_undo_14 : decode cX5_undo 14 = .ok (.aload_n 0, 1) := by decide +kernel
theorem dX5_undo_15 : decode cX5_undo 15 = .ok (.getfield 16, 3) := by decide +kernel
theorem dX5_undo_18 : decode cX5_undo 18 = .ok (.invokevirtual 249, 3) := by decide +kernel
theorem dX5_undo_21 : decode cX5_undo 21 = .ok (.aload_n 0, 1) := by decide +kernel
theorem dX5_undo_22 : decode cX5_undo 22 = .ok (.invokevirtual 73, 3) := by decide +kernel
theorem dX5_undo_25 : decode cX5_undo 25 = .ok (.aload_n 0, 1) := by decide +kernel
theorem dX5_undo_26 : decode cX5_undo 26 = .ok (.getfield 12, 3) := by decide +kernel
theorem dX5_undo_29 : decode cX5_undo 29 = .ok (.getfield 32, 3) := by decide +kernel
theorem dX5_undo_32 : decode cX5_undo 32 = .ok (.getfield 205, 3) := by decide +kernel
theorem dX5_undo_35 : decode cX5_undo 35 = .ok (.ireturn, 1) := by decide +kernel
theorem dX5_count_0 : decode cX5_count 0 = .ok (.iload_n 1, 1) := by decide +kernel
theorem dX5_count_1 : decode cX5_count 1 = .ok (.tableswitch 78 0 4 #[35, 46, 54, 62, 70], 35) := by decide +kernel
theorem dX5_count_36 : decode cX5_count 36 = .ok (.aload_n 0, 1) := by decide +kernel
theorem dX5_count_37 : decode cX5_count 37 = .ok (.getfield 12, 3) := by decide +kernel
theorem dX5_count_40 : decode cX5_count 40 = .ok (.getfield 32, 3) := by decide +kernel
theorem dX5_count_43 : decode cX5_count 43 = .ok (.getfield 205, 3) := by decide +kernel
theorem dX5_count_46 : decode cX5_count 46 = .ok (.ireturn, 1) := by decide +kernel
theorem dX5_count_47 : decode cX5_count 47 = .ok (.aload_n 0, 1) := by decide +kernel
theorem dX5_count_48 : decode cX5_count 48 = .ok (.getfield 12, 3) := by decide +kernel
theorem dX5_count_51 : decode cX5_count 51 = .ok (.getfield 67, 3) := by decide +kernel
theorem dX5_count_54 : decode cX5_count 54 = .ok (.ireturn, 1) := by decide +kernel
theorem dX5_count_55 : decode cX5_count 55 = .ok (.aload_n 0, 1) := by decide +kernel
theorem dX5_count_56 : decode cX5_count 56 = .ok (.getfield 12, 3) := by decide +kernel
theorem dX5_count_59 : decode cX5_count 59 = .ok (.getfield 227, 3) := by decide +kernel
theorem dX5_count_62 : decode cX5_count 62 = .ok (.ireturn, 1) := by decide +kernel
theorem dX5_count_63 : decode cX5_count 63 = .ok (.aload_n 0, 1) := by decide +kernel
theorem dX5_count_64 : decode cX5_count 64 = .ok (.getfield 12, 3) := by decide +kernel
theorem dX5_count_67 : decode cX5_count 67 = .ok (.getfield 60, 3) := by decide +kernel
theorem dX5_count_70 : decode cX5_count 70 = .ok (.ireturn, 1) := by decide +kernel
theorem dX5_count_71 : decode cX5_count 71 = .ok (.aload_n 0, 1) := by decide +kernel
theorem dX5_count_72 : decode cX5_count 72 = .ok (.getfield 56, 3) := by decide +kernel
theorem dX5_count_75 : decode cX5_count 75 = .ok (.getfield 240, 3) := by decide +kernel
theorem dX5_count_78 : decode cX5_count 78 = .ok (.ireturn, 1) := by decide +kernel
theorem dX5_count_79 : decode cX5_count 79 = .ok (.iconst (-1), 1) := by decide +kernel
theorem dX5_count_80 : decode cX5_count 80 = .ok (.ireturn, 1) := by decide +kernel
theorem dX5_isHour_0 : decode cX5_isHour 0 = .ok (.iload_n 0, 1) := by decide +kernel
theorem dX5_isHour_1 : decode cX5_isHour 1 = .ok (.ifCond .lt 12, 3) := by decide +kernel
theorem dX5_isHour_4 : decode cX5_isHour 4 = .ok (.iload_n 0, 1) := by decide +kernel
theorem dX5_isHour_5 : decode cX5_isHour 5 = .ok (.iconst 3, 1) := by decide +kernel
theorem dX5_isHour_6 : decode cX5_isHour 6 = .ok (.if_icmp .ge 7, 3) := by decide +kernel
theorem dX5_isHour_9 : decode cX5_isHour 9 = .ok (.iconst 1, 1) := by decide +kernel
theorem dX5_isHour_10 : decode cX5_isHour 10 = .ok (.goto 4, 3) := by decide +kernel
theorem dX5_isHour_13 : decode cX5_isHour 13 = .ok (.iconst 0, 1) := by decide +kernel
theorem dX5_isHour_14 : decode cX5_isHour 14 = .ok (.ireturn, 1) := by decide +kernel
theorem dX5_isPart_0 : decode cX5_isPart 0 = .ok (.iload_n 0, 1) := by decide +kernel
theorem dX5_isPart_1 : decode cX5_isPart 1 = .ok (.ifCond .eq 8, 3) := by decide +kernel
theorem dX5_isPart_4 : decode cX5_isPart 4 = .ok (.iload_n 0, 1) := by decide +kernel
theorem dX5_isPart_5 : decode cX5_isPart 5 = .ok (.iconst 1, 1) := by decide +kernel
theorem dX5_isPart_6 : decode cX5_isPart 6 = .ok (.if_icmp .ne 7, 3) := by decide +kernel
theorem dX5_isPart_9 : decode cX5_isPart 9 = .ok (.iconst 1, 1) := by decide +kernel
theorem dX5_isPart_10 : decode cX5_isPart 10 = .ok (.goto 4, 3) := by decide +kernel
theorem dX5_isPart_13 : decode cX5_isPart 13 = .ok (.iconst 0, 1) := by decide +kernel
theorem dX5_isPart_14 : decode cX5_isPart 14 = .ok (.ireturn, 1) := by decide +kernel
theorem dX5_bit_0 : decode cX5_bit 0 = .ok (.iload_n 0, 1) := by decide +kernel
theorem dX5_bit_1 : decode cX5_bit 1 = .ok (.iload_n 1, 1) := by decide +kernel
theorem dX5_bit_2 : decode cX5_bit 2 = .ok (.ishr, 1) := by decide +kernel
theorem dX5_bit_3 : decode cX5_bit 3 = .ok (.iconst 1, 1) := by decide +kernel
theorem dX5_bit_4 : decode cX5_bit 4 = .ok (.iand, 1) := by decide +kernel
theorem dX5_bit_5 : decode cX5_bit 5 = .ok (.ireturn, 1) := by decide +kernel
theorem dX5_ownRow_0 : decode cX5_ownRow 0 = .ok (.iload_n 1, 1) := by decide +kernel
theorem dX5_ownRow_1 : decode cX5_ownRow 1 = .ok (.iconst 3, 1) := by decide +kernel
theorem dX5_ownRow_2 : decode cX5_ownRow 2 = .ok (.iload_n 0, 1) := by decide +kernel
theorem dX5_ownRow_3 : decode cX5_ownRow 3 = .ok (.imul, 1) := by decide +kernel
theorem dX5_ownRow_4 : decode cX5_ownRow 4 = .ok (.ishr, 1) := by decide +kernel
theorem dX5_ownRow_5 : decode cX5_ownRow 5 = .ok (.bipush 7, 2) := by decide +kernel
theorem dX5_ownRow_7 : decode cX5_ownRow 7 = .ok (.iand, 1) := by decide +kernel
theorem dX5_ownRow_8 : decode cX5_ownRow 8 = .ok (.ireturn, 1) := by decide +kernel
theorem dX5_commonDivisor_0 : decode cX5_commonDivisor 0 = .ok (.iconst 0, 1) := by decide +kernel
theorem dX5_commonDivisor_1 : decode cX5_commonDivisor 1 = .ok (.istore_n 2, 1) := by decide +kernel
theorem dX5_commonDivisor_2 : decode cX5_commonDivisor 2 = .ok (.iload_n 2, 1) := by decide +kernel
theorem dX5_commonDivisor_3 : decode cX5_commonDivisor 3 = .ok (.bipush 100, 2) := by decide +kernel
theorem dX5_commonDivisor_5 : decode cX5_commonDivisor 5 = .ok (.if_icmp .ge 21, 3) := by decide +kernel
theorem dX5_commonDivisor_8 : decode cX5_commonDivisor 8 = .ok (.iload_n 1, 1) := by decide +kernel
theorem dX5_commonDivisor_9 : decode cX5_commonDivisor 9 = .ok (.ifCond .eq 17, 3) := by decide +kernel
theorem dX5_commonDivisor_12 : decode cX5_commonDivisor 12 = .ok (.iload_n 0, 1) := by decide +kernel
theorem dX5_commonDivisor_13 : decode cX5_commonDivisor 13 = .ok (.iload_n 1, 1) := by decide +kernel
theorem dX5_commonDivisor_14 : decode cX5_commonDivisor 14 = .ok (.irem, 1) := by decide +kernel
theorem dX5_commonDivisor_15 : decode cX5_commonDivisor 15 = .ok (.istore_n 3, 1) := by decide +kernel
theorem dX5_commonDivisor_16 : decode cX5_commonDivisor 16 = .ok (.iload_n 1, 1) := by decide +kernel
theorem dX5_commonDivisor_17 : decode cX5_commonDivisor 17 = .ok (.istore_n 0, 1) := by decide +kernel
theorem dX5_commonDivisor_18 : decode cX5_commonDivisor 18 = .ok (.iload_n 3, 1) := by decide +kernel
theorem dX5_commonDivisor_19 : decode cX5_commonDivisor 19 = .ok (.istore_n 1, 1) := by decide +kernel
theorem dX5_commonDivisor_20 : decode cX5_commonDivisor 20 = .ok (.iinc 2 1, 3) := by decide +kernel
theorem dX5_commonDivisor_23 : decode cX5_commonDivisor 23 = .ok (.goto (-21), 3) := by decide +kernel
theorem dX5_commonDivisor_26 : decode cX5_commonDivisor 26 = .ok (.iload_n 0, 1) := by decide +kernel
theorem dX5_commonDivisor_27 : decode cX5_commonDivisor 27 = .ok (.ireturn, 1) := by decide +kernel
theorem dX5_newestTown_0 : decode cX5_newestTown 0 = .ok (.aload_n 0, 1) := by decide +kernel
theorem dX5_newestTown_1 : decode cX5_newestTown 1 = .ok (.getfield 12, 3) := by decide +kernel
theorem dX5_newestTown_4 : decode cX5_newestTown 4 = .ok (.getfield 67, 3) := by decide +kernel
theorem dX5_newestTown_7 : decode cX5_newestTown 7 = .ok (.iconst 1, 1) := by decide +kernel
theorem dX5_newestTown_8 : decode cX5_newestTown 8 = .ok (.isub, 1) := by decide +kernel
theorem dX5_newestTown_9 : decode cX5_newestTown 9 = .ok (.istore_n 1, 1) := by decide +kernel
theorem dX5_newestTown_10 : decode cX5_newestTown 10 = .ok (.iload_n 1, 1) := by decide +kernel
theorem dX5_newestTown_11 : decode cX5_newestTown 11 = .ok (.ifCond .lt 21, 3) := by decide +kernel
theorem dX5_newestTown_14 : decode cX5_newestTown 14 = .ok (.iload_n 1, 1) := by decide +kernel
theorem dX5_newestTown_15 : decode cX5_newestTown 15 = .ok (.aload_n 0, 1) := by decide +kernel
theorem dX5_newestTown_16 : decode cX5_newestTown 16 = .ok (.getfield 26, 3) := by decide +kernel
theorem dX5_newestTown_19 : decode cX5_newestTown 19 = .ok (.arraylength, 1) := by decide +kernel
theorem dX5_newestTown_20 : decode cX5_newestTown 20 = .ok (.if_icmp .ge 12, 3) := by decide +kernel
theorem dX5_newestTown_23 : decode cX5_newestTown 23 = .ok (.aload_n 0, 1) := by decide +kernel
theorem dX5_newestTown_24 : decode cX5_newestTown 24 = .ok (.getfield 26, 3) := by decide +kernel
theorem dX5_newestTown_27 : decode cX5_newestTown 27 = .ok (.iload_n 1, 1) := by decide +kernel
theorem dX5_newestTown_28 : decode cX5_newestTown 28 = .ok (.aaload, 1) := by decide +kernel
theorem dX5_newestTown_29 : decode cX5_newestTown 29 = .ok (.ifnonnull 8, 3) := by decide +kernel
theorem dX5_newestTown_32 : decode cX5_newestTown 32 = .ok (.aload_n 0, 1) := by decide +kernel
theorem dX5_newestTown_33 : decode cX5_newestTown 33 = .ok (.getfield 22, 3) := by decide +kernel
theorem dX5_newestTown_36 : decode cX5_newestTown 36 = .ok (.areturn, 1) := by decide +kernel
theorem dX5_newestTown_37 : decode cX5_newestTown 37 = .ok (.aload_n 0, 1) := by decide +kernel
theorem dX5_newestTown_38 : decode cX5_newestTown 38 = .ok (.getfield 26, 3) := by decide +kernel
theorem dX5_newestTown_41 : decode cX5_newestTown 41 = .ok (.iload_n 1, 1) := by decide +kernel
theorem dX5_newestTown_42 : decode cX5_newestTown 42 = .ok (.aaload, 1) := by decide +kernel
theorem dX5_newestTown_43 : decode cX5_newestTown 43 = .ok (.areturn, 1) := by decide +kernel
theorem dX5_forgetTowns_0 : decode cX5_forgetTowns 0 = .ok (.aload_n 0, 1) := by decide +kernel
theorem dX5_forgetTowns_1 : decode cX5_forgetTowns 1 = .ok (.getfield 39, 3) := by decide +kernel
theorem dX5_forgetTowns_4 : decode cX5_forgetTowns 4 = .ok (.invokevirtual 256, 3) := by decide +kernel
theorem dX5_forgetTowns_7 : decode cX5_forgetTowns 7 = .ok (.aload_n 0, 1) := by decide +kernel
theorem dX5_forgetTowns_8 : decode cX5_forgetTowns 8 = .ok (.getfield 46, 3) := by decide +kernel
theorem dX5_forgetTowns_11 : decode cX5_forgetTowns 11 = .ok (.invokevirtual 256, 3) := by decide +kernel
theorem dX5_forgetTowns_14 : decode cX5_forgetTowns 14 = .ok (.return_, 1) := by decide +kernel
theorem dX5_searchNow_0 : decode cX5_searchNow 0 = .ok (.aload_n 0, 1) := by decide +kernel
theorem dX5_searchNow_1 : decode cX5_searchNow 1 = .ok (.getfield 39, 3) := by decide +kernel
theorem dX5_searchNow_4 : decode cX5_searchNow 4 = .ok (.aload_n 0, 1) := by decide +kernel
theorem dX5_searchNow_5 : decode cX5_searchNow 5 = .ok (.invokevirtual 76, 3) := by decide +kernel
theorem dX5_searchNow_8 : decode cX5_searchNow 8 = .ok (.invokevirtual 123, 3) := by decide +kernel
theorem dX5_searchNow_11 : decode cX5_searchNow 11 = .ok (.aload_n 0, 1) := by decide +kernel
theorem dX5_searchNow_12 : decode cX5_searchNow 12 = .ok (.getfield 39, 3) := by decide +kernel
theorem dX5_searchNow_15 : decode cX5_searchNow 15 = .ok (.invokevirtual 259, 3) := by decide +kernel
theorem dX5_searchNow_18 : decode cX5_searchNow 18 = .ok (.return_, 1) := by decide +kernel
theorem dX5_searchThen_0 : decode cX5_searchThen 0 = .ok (.aload_n 0, 1) := by decide +kernel
theorem dX5_searchThen_1 : decode cX5_searchThen 1 = .ok (.getfield 46, 3) := by decide +kernel
theorem dX5_searchThen_4 : decode cX5_searchThen 4 = .ok (.invokevirtual 93, 3) := by decide +kernel
theorem dX5_searchThen_7 : decode cX5_searchThen 7 = .ok (.aload_n 0, 1) := by decide +kernel
theorem dX5_searchThen_8 : decode cX5_searchThen 8 = .ok (.getfield 46, 3) := by decide +kernel
theorem dX5_searchThen_11 : decode cX5_searchThen 11 = .ok (.aload_n 0, 1) := by decide +kernel
theorem dX5_searchThen_12 : decode cX5_searchThen 12 = .ok (.invokevirtual 76, 3) := by decide +kernel
theorem dX5_searchThen_15 : decode cX5_searchThen 15 = .ok (.invokevirtual 123, 3) := by decide +kernel
theorem dX5_searchThen_18 : decode cX5_searchThen 18 = .ok (.aload_n 0, 1) := by decide +kernel
theorem dX5_searchThen_19 : decode cX5_searchThen 19 = .ok (.getfield 46, 3) := by decide +kernel
theorem dX5_searchThen_22 : decode cX5_searchThen 22 = .ok (.invokevirtual 259, 3) := by decide +kernel
theorem dX5_searchThen_25 : decode cX5_searchThen 25 = .ok (.return_, 1) := by decide +kernel
theorem dX5_placeOnPath_0 : decode cX5_placeOnPath 0 = .ok (.iconst 0, 1) := by decide +kernel
theorem dX5_placeOnPath_1 : decode cX5_placeOnPath 1 = .ok (.istore_n 3, 1) := by decide +kernel
theorem dX5_placeOnPath_2 : decode cX5_placeOnPath 2 = .ok (.iload_n 3, 1) := by decide +kernel
theorem dX5_placeOnPath_3 : decode cX5_placeOnPath 3 = .ok (.iload_n 2, 1) := by decide +kernel
theorem dX5_placeOnPath_4 : decode cX5_placeOnPath 4 = .ok (.if_icmp .ge 30, 3) := by decide +kernel
theorem dX5_placeOnPath_7 : decode cX5_placeOnPath 7 = .ok (.iload_n 3, 1) := by decide +kernel
theorem dX5_placeOnPath_8 : decode cX5_placeOnPath 8 = .ok (.aload_n 0, 1) := by decide +kernel
theorem dX5_placeOnPath_9 : decode cX5_placeOnPath 9 = .ok (.getfield 49, 3) := by decide +kernel
theorem dX5_placeOnPath_12 : decode cX5_placeOnPath 12 = .ok (.arraylength, 1) := by decide +kernel
theorem dX5_placeOnPath_13 : decode cX5_placeOnPath 13 = .ok (.if_icmp .ge 21, 3) := by decide +kernel
theorem dX5_placeOnPath_16 : decode cX5_placeOnPath 16 = .ok (.aload_n 0, 1) := by decide +kernel
theorem dX5_placeOnPath_17 : decode cX5_placeOnPath 17 = .ok (.getfield 49, 3) := by decide +kernel
theorem dX5_placeOnPath_20 : decode cX5_placeOnPath 20 = .ok (.iload_n 3, 1) := by decide +kernel
theorem dX5_placeOnPath_21 : decode cX5_placeOnPath 21 = .ok (.iaload, 1) := by decide +kernel
theorem dX5_placeOnPath_22 : decode cX5_placeOnPath 22 = .ok (.iload_n 1, 1) := by decide +kernel
theorem dX5_placeOnPath_23 : decode cX5_placeOnPath 23 = .ok (.if_icmp .ne 5, 3) := by decide +kernel
theorem dX5_placeOnPath_26 : decode cX5_placeOnPath 26 = .ok (.iload_n 3, 1) := by decide +kernel
theorem dX5_placeOnPath_27 : decode cX5_placeOnPath 27 = .ok (.ireturn, 1) := by decide +kernel
theorem dX5_placeOnPath_28 : decode cX5_placeOnPath 28 = .ok (.iinc 3 1, 3) := by decide +kernel
theorem dX5_placeOnPath_31 : decode cX5_placeOnPath 31 = .ok (.goto (-29), 3) := by decide +kernel
theorem dX5_placeOnPath_34 : decode cX5_placeOnPath 34 = .ok (.bipush (-5), 2) := by decide +kernel
theorem dX5_placeOnPath_36 : decode cX5_placeOnPath 36 = .ok (.ireturn, 1) := by decide +kernel
theorem dX5_tellThen_0 : decode cX5_tellThen 0 = .ok (.aload_n 0, 1) := by decide +kernel
theorem dX5_tellThen_1 : decode cX5_tellThen 1 = .ok (.getfield 46, 3) := by decide +kernel
theorem dX5_tellThen_4 : decode cX5_tellThen 4 = .ok (.getfield 187, 3) := by decide +kernel
theorem dX5_tellThen_7 : decode cX5_tellThen 7 = .ok (.aload_n 0, 1) := by decide +kernel
theorem dX5_tellThen_8 : decode cX5_tellThen 8 = .ok (.getfield 12, 3) := by decide +kernel
theorem dX5_tellThen_11 : decode cX5_tellThen 11 = .ok (.getfield 32, 3) := by decide +kernel
theorem dX5_tellThen_14 : decode cX5_tellThen 14 = .ok (.invokevirtual 188, 3) := by decide +kernel
theorem dX5_tellThen_17 : decode cX5_tellThen 17 = .ok (.iconst 0, 1) := by decide +kernel
theorem dX5_tellThen_18 : decode cX5_tellThen 18 = .ok (.istore_n 2, 1) := by decide +kernel
theorem dX5_tellThen_19 : decode cX5_tellThen 19 = .ok (.iload_n 2, 1) := by decide +kernel
theorem dX5_tellThen_20 : decode cX5_tellThen 20 = .ok (.aload_n 0, 1) := by decide +kernel
theorem dX5_tellThen_21 : decode cX5_tellThen 21 = .ok (.getfield 12, 3) := by decide +kernel
theorem dX5_tellThen_24 : decode cX5_tellThen 24 = .ok (.getfield 32, 3) := by decide +kernel
theorem dX5_tellThen_27 : decode cX5_tellThen 27 = .ok (.getfield 205, 3) := by decide +kernel
theorem dX5_tellThen_30 : decode cX5_tellThen 30 = .ok (.if_icmp .ge 55, 3) := by decide +kernel
theorem dX5_tellThen_33 : decode cX5_tellThen 33 = .ok (.iload_n 1, 1) := by decide +kernel
theorem dX5_tellThen_34 : decode cX5_tellThen 34 = .ok (.iload_n 2, 1) := by decide +kernel
theorem dX5_tellThen_35 : decode cX5_tellThen 35 = .ok (.invokestatic 137, 3) := by decide +kernel
theorem dX5_tellThen_38 : decode cX5_tellThen 38 = .ok (.iconst 1, 1) := by decide +kernel
theorem dX5_tellThen_39 : decode cX5_tellThen 39 = .ok (.if_icmp .ne 40, 3) := by decide +kernel
theorem dX5_tellThen_42 : decode cX5_tellThen 42 = .ok (.aload_n 0, 1) := by decide +kernel
theorem dX5_tellThen_43 : decode cX5_tellThen 43 = .ok (.getfield 46, 3) := by decide +kernel
theorem dX5_tellThen_46 : decode cX5_tellThen 46 = .ok (.getfield 187, 3) := by decide +kernel
theorem dX5_tellThen_49 : decode cX5_tellThen 49 = .ok (.getfield 100, 3) := by decide +kernel
theorem dX5_tellThen_52 : decode cX5_tellThen 52 = .ok (.iload_n 2, 1) := by decide +kernel
theorem dX5_tellThen_53 : decode cX5_tellThen 53 = .ok (.bipush 6, 2) := by decide +kernel
theorem dX5_tellThen_55 : decode cX5_tellThen 55 = .ok (.iastore, 1) := by decide +kernel
theorem dX5_tellThen_56 : decode cX5_tellThen 56 = .ok (.aload_n 0, 1) := by decide +kernel
theorem dX5_tellThen_57 : decode cX5_tellThen 57 = .ok (.getfield 46, 3) := by decide +kernel
theorem dX5_tellThen_60 : decode cX5_tellThen 60 = .ok (.getfield 187, 3) := by decide +kernel
theorem dX5_tellThen_63 : decode cX5_tellThen 63 = .ok (.getfield 106, 3) := by decide +kernel
theorem dX5_tellThen_66 : decode cX5_tellThen 66 = .ok (.iload_n 2, 1) := by decide +kernel
theorem dX5_tellThen_67 : decode cX5_tellThen 67 = .ok (.iload_n 2, 1) := by decide +kernel
theorem dX5_tellThen_68 : decode cX5_tellThen 68 = .ok (.aload_n 0, 1) := by decide +kernel
theorem dX5_tellThen_69 : decode cX5_tellThen 69 = .ok (.getfield 39, 3) := by decide +kernel
theorem dX5_tellThen_72 : decode cX5_tellThen 72 = .ok (.getfield 164, 3) := by decide +kernel
theorem dX5_tellThen_75 : decode cX5_tellThen 75 = .ok (.invokestatic 217, 3) := by decide +kernel
theorem dX5_tellThen_78 : decode cX5_tellThen 78 = .ok (.iastore, 1) := by decide +kernel
theorem dX5_tellThen_79 : decode cX5_tellThen 79 = .ok (.iinc 2 1, 3) := by decide +kernel
theorem dX5_tellThen_82 : decode cX5_tellThen 82 = .ok (.goto (-63), 3) := by decide +kernel
theorem dX5_tellThen_85 : decode cX5_tellThen 85 = .ok (.return_, 1) := by decide +kernel
theorem dX5_wouldRather_0 : decode cX5_wouldRather 0 = .ok (.aload_n 0, 1) := by decide +kernel
theorem dX5_wouldRather_1 : decode cX5_wouldRather 1 = .ok (.getfield 46, 3) := by decide +kernel
theorem dX5_wouldRather_4 : decode cX5_wouldRather 4 = .ok (.getfield 155, 3) := by decide +kernel
theorem dX5_wouldRather_7 : decode cX5_wouldRather 7 = .ok (.ifCond .ne 5, 3) := by decide +kernel
theorem dX5_wouldRather_10 : decode cX5_wouldRather 10 = .ok (.iconst 0, 1) := by decide +kernel
theorem dX5_wouldRather_11 : decode cX5_wouldRather 11 = .ok (.ireturn, 1) := by decide +kernel
theorem dX5_wouldRather_12 : decode cX5_wouldRather 12 = .ok (.aload_n 0, 1) := by decide +kernel
theorem dX5_wouldRather_13 : decode cX5_wouldRather 13 = .ok (.getfield 39, 3) := by decide +kernel
theorem dX5_wouldRather_16 : decode cX5_wouldRather 16 = .ok (.getfield 155, 3) := by decide +kernel
theorem dX5_wouldRather_19 : decode cX5_wouldRather 19 = .ok (.ifCond .eq 19, 3) := by decide +kernel
theorem dX5_wouldRather_22 : decode cX5_wouldRather 22 = .ok (.aload_n 0, 1) := by decide +kernel
theorem dX5_wouldRather_23 : decode cX5_wouldRather 23 = .ok (.iload_n 1, 1) := by decide +kernel
theorem dX5_wouldRather_24 : decode cX5_wouldRather 24 = .ok (.invokevirtual 262, 3) := by decide +kernel
theorem dX5_wouldRather_27 : decode cX5_wouldRather 27 = .ok (.ifCond .eq 15, 3) := by decide +kernel
theorem dX5_wouldRather_30 : decode cX5_wouldRather 30 = .ok (.aload_n 0, 1) := by decide +kernel
theorem dX5_wouldRather_31 : decode cX5_wouldRather 31 = .ok (.iload_n 2, 1) := by decide +kernel
theorem dX5_wouldRather_32 : decode cX5_wouldRather 32 = .ok (.invokevirtual 262, 3) := by decide +kernel
theorem dX5_wouldRather_35 : decode cX5_wouldRather 35 = .ok (.ifCond .eq 7, 3) := by decide +kernel
theorem dX5_wouldRather_38 : decode cX5_wouldRather 38 = .ok (.iconst 1, 1) := by decide +kernel
theorem dX5_wouldRather_39 : decode cX5_wouldRather 39 = .ok (.goto 4, 3) := by decide +kernel
theorem dX5_wouldRather_42 : decode cX5_wouldRather 42 = .ok (.iconst 0, 1) := by decide +kernel
theorem dX5_wouldRather_43 : decode cX5_wouldRather 43 = .ok (.ireturn, 1) := by decide +kernel
theorem dX5_isBetterThen_0 : decode cX5_isBetterThen 0 = .ok (.aload_n 0, 1) := by decide +kernel
theorem dX5_isBetterThen_1 : decode cX5_isBetterThen 1 = .ok (.getfield 46, 3) := by decide +kernel
theorem dX5_isBetterThen_4 : decode cX5_isBetterThen 4 = .ok (.iload_n 1, 1) := by decide +kernel
theorem dX5_isBetterThen_5 : decode cX5_isBetterThen 5 = .ok (.aload_n 0, 1) := by decide +kernel
theorem dX5_isBetterThen_6 : decode cX5_isBetterThen 6 = .ok (.getfield 46, 3) := by decide +kernel
theorem dX5_isBetterThen_9 : decode cX5_isBetterThen 9 = .ok (.iload_n 1, 1) := by decide +kernel
theorem dX5_isBetterThen_10 : decode cX5_isBetterThen 10 = .ok (.aload_n 0, 1) := by decide +kernel
theorem dX5_isBetterThen_11 : decode cX5_isBetterThen 11 = .ok (.getfield 46, 3) := by decide +kernel
theorem dX5_isBetterThen_14 : decode cX5_isBetterThen 14 = .ok (.getfield 164, 3) := by decide +kernel
theorem dX5_isBetterThen_17 : decode cX5_isBetterThen 17 = .ok (.invokevirtual 127, 3) := by decide +kernel
theorem dX5_isBetterThen_20 : decode cX5_isBetterThen 20 = .ok (.invokevirtual 140, 3) := by decide +kernel
theorem dX5_isBetterThen_23 : decode cX5_isBetterThen 23 = .ok (.istore_n 2, 1) := by decide +kernel
theorem dX5_isBetterThen_24 : decode cX5_isBetterThen 24 = .ok (.iload_n 2, 1) := by decide +kernel
theorem dX5_isBetterThen_25 : decode cX5_isBetterThen 25 = .ok (.aload_n 0, 1) := by decide +kernel
theorem dX5_isBetterThen_26 : decode cX5_isBetterThen 26 = .ok (.getfield 39, 3) := by decide +kernel
theorem dX5_isBetterThen_29 : decode cX5_isBetterThen 29 = .ok (.iload_n 1, 1) := by decide +kernel
theorem dX5_isBetterThen_30 : decode cX5_isBetterThen 30 = .ok (.aload_n 0, 1) := by decide +kernel
theorem dX5_isBetterThen_31 : decode cX5_isBetterThen 31 = .ok (.getfield 39, 3) := by decide +kernel
theorem dX5_isBetterThen_34 : decode cX5_isBetterThen 34 = .ok (.iload_n 1, 1) := by decide +kernel
theorem dX5_isBetterThen_35 : decode cX5_isBetterThen 35 = .ok (.aload_n 0, 1) := by decide +kernel
theorem dX5_isBetterThen_36 : decode cX5_isBetterThen 36 = .ok (.getfield 39, 3) := by decide +kernel
theorem dX5_isBetterThen_39 : decode cX5_isBetterThen 39 = .ok (.getfield 164, 3) := by decide +kernel
theorem dX5_isBetterThen_42 : decode cX5_isBetterThen 42 = .ok (.invokevirtual 127, 3) := by decide +kernel
theorem dX5_isBetterThen_45 : decode cX5_isBetterThen 45 = .ok (.invokevirtual 140, 3) := by decide +kernel
theorem dX5_isBetterThen_48 : decode cX5_isBetterThen 48 = .ok (.if_icmp .le 7, 3) := by decide +kernel
theorem dX5_isBetterThen_51 : decode cX5_isBetterThen 51 = .ok (.iconst 1, 1) := by decide +kernel
theorem dX5_isBetterThen_52 : decode cX5_isBetterThen 52 = .ok (.goto 4, 3) := by decide +kernel
theorem dX5_isBetterThen_55 : decode cX5_isBetterThen 55 = .ok (.iconst 0, 1) := by decide +kernel
theorem dX5_isBetterThen_56 : decode cX5_isBetterThen 56 = .ok (.ireturn, 1) := by decide +kernel
end CDC
end
section
section CDC
theorem dX6_init_0 : decode cX6_init 0 = .ok (.aload_n 0, 1) := by decide +kernel
theorem dX6_init_1 : decode cX6_init 1 = .ok (.invokespecial 1, 3) := by decide +kernel
theorem dX6_init_4 : decode cX6_init 4 = .ok (.aload_n 0, 1) := by decide +kernel
theorem dX6_init_5 : decode cX6_init 5 = .ok (.sipush 846, 3) := by decide +kernel
theorem dX6_init_8 : decode cX6_init 8 = .ok (.newarray .int, 2) := by decide +kernel
theorem dX6_init_10 : decode cX6_init 10 = .ok (.putfield 7, 3) := by decide +kernel
theorem dX6_init_13 : decode cX6_init 13 = .ok (.aload_n 0, 1) := by decide +kernel
theorem dX6_init_14 : decode cX6_init 14 = .ok (.sipush 846, 3) := by decide +kernel
theorem dX6_init_17 : decode cX6_init 17 = .ok (.newarray .int, 2) := by decide +kernel
theorem dX6_init_19 : decode cX6_init 19 = .ok (.putfield 13, 3) := by decide +kernel
theorem dX6_init_22 : decode cX6_init 22 = .ok (.aload_n 0, 1) := by decide +kernel
theorem dX6_init_23 : decode cX6_init 23 = .ok (.bipush 6, 2) := by decide +kernel
theorem dX6_init_25 : decode cX6_init 25 = .ok (.newarray .int, 2) := by decide +kernel
theorem dX6_init_27 : decode cX6_init 27 = .ok (.putfield 16, 3) := by decide +kernel
theorem dX6_init_30 : decode cX6_init 30 = .ok (.aload_n 0, 1) := by decide +kernel
theorem dX6_init_31 : decode cX6_init 31 = .ok (.bipush 64, 2) := by decide +kernel
theorem dX6_init_33 : decode cX6_init 33 = .ok (.newarray .boolean, 2) := by decide +kernel
theorem dX6_init_35 : decode cX6_init 35 = .ok (.putfield 19, 3) := by decide +kernel
theorem dX6_init_38 : decode cX6_init 38 = .ok (.aload_n 0, 1) := by decide +kernel
theorem dX6_init_39 : decode cX6_init 39 = .ok (.sipush 384, 3) := by decide +kernel
theorem dX6_init_42 : decode cX6_init 42 = .ok (.newarray .int, 2) := by decide +kernel
theorem dX6_init_44 : decode cX6_init 44 = .ok (.putfield 23, 3) := by decide +kernel
theorem dX6_init_47 : decode cX6_init 47 = .ok (.aload_n 0, 1) := by decide +kernel
theorem dX6_init_48 : decode cX6_init 48 = .ok (.sipush 16384, 3) := by decide +kernel
theorem dX6_init_51 : decode cX6_init 51 = .ok (.newarray .int, 2) := by decide +kernel
theorem dX6_init_53 : decode cX6_init 53 = .ok (.putfield 26, 3) := by decide +kernel
theorem dX6_init_56 : decode cX6_init 56 = .ok (.aload_n 0, 1) := by decide +kernel
theorem dX6_init_57 : decode cX6_init 57 = .ok (.sipush 201, 3) := by decide +kernel
theorem dX6_init_60 : decode cX6_init 60 = .ok (.newarray .int, 2) := by decide +kernel
theorem dX6_init_62 : decode cX6_init 62 = .ok (.putfield 29, 3) := by decide +kernel
theorem dX6_init_65 : decode cX6_init 65 = .ok (.aload_n 0, 1) := by decide +kernel
theorem dX6_init_66 : decode cX6_init 66 = .ok (.iconst 4, 1) := by decide +kernel
theorem dX6_init_67 : decode cX6_init 67 = .ok (.newarray .int, 2) := by decide +kernel
theorem dX6_init_69 : decode cX6_init 69 = .ok (.putfield 32, 3) := by decide +kernel
theorem dX6_init_72 : decode cX6_init 72 = .ok (.aload_n 0, 1) := by decide +kernel
theorem dX6_init_73 : decode cX6_init 73 = .ok (.bipush 12, 2) := by decide +kernel
theorem dX6_init_75 : decode cX6_init 75 = .ok (.newarray .int, 2) := by decide +kernel
theorem dX6_init_77 : decode cX6_init 77 = .ok (.putfield 35, 3) := by decide +kernel
theorem dX6_init_80 : decode cX6_init 80 = .ok (.aload_n 0, 1) := by decide +kernel
theorem dX6_init_81 : decode cX6_init 81 = .ok (.bipush 20, 2) := by decide +kernel
theorem dX6_init_83 : decode cX6_init 83 = .ok (.newarray .int, 2) := by decide +kernel
theorem dX6_init_85 : decode cX6_init 85 = .ok (.putfield 38, 3) := by decide +kernel
theorem dX6_init_88 : decode cX6_init 88 = .ok (.aload_n 0, 1) := by decide +kernel
theorem dX6_init_89 : decode cX6_init 89 = .ok (.getfield 7, 3) := by decide +kernel
theorem dX6_init_92 : decode cX6_init 92 = .ok (.iconst 4, 1) := by decide +kernel
theorem dX6_init_93 : decode cX6_init 93 = .ok (.iconst (-1), 1) := by decide +kernel
theorem dX6_init_94 : decode cX6_init 94 = .ok (.iastore, 1) := by decide +kernel
theorem dX6_init_95 : decode cX6_init 95 = .ok (.return_, 1) := by decide +kernel
theorem dX6_in_0 : decode cX6_in 0 = .ok (.iload_n 0, 1) := by decide +kernel
theorem dX6_in_1 : decode cX6_in 1 = .ok (.iload_n 1, 1) := by decide +kernel
theorem dX6_in_2 : decode cX6_in 2 = .ok (.if_icmp .lt 12, 3) := by decide +kernel
theorem dX6_in_5 : decode cX6_in 5 = .ok (.iload_n 0, 1) := by decide +kernel
theorem dX6_in_6 : decode cX6_in 6 = .ok (.iload_n 2, 1) := by decide +kernel
theorem dX6_in_7 : decode cX6_in 7 = .ok (.if_icmp .gt 7, 3) := by decide +kernel
theorem dX6_in_10 : decode cX6_in 10 = .ok (.iconst 1, 1) := by decide +kernel
theorem dX6_in_11 : decode cX6_in 11 = .ok (.goto 4, 3) := by decide +kernel
theorem dX6_in_14 : decode cX6_in 14 = .ok (.iconst 0, 1) := by decide +kernel
theorem dX6_in_15 : decode cX6_in 15 = .ok (.ireturn, 1) := by decide +kernel
theorem dX6_isPerson_0 : decode cX6_isPerson 0 = .ok (.iload_n 1, 1) := by decide +kernel
theorem dX6_isPerson_1 : decode cX6_isPerson 1 = .ok (.iconst 0, 1) := by decide +kernel
theorem dX6_isPerson_2 : decode cX6_isPerson 2 = .ok (.aload_n 0, 1) := by decide +kernel
theorem dX6_isPerson_3 : decode cX6_isPerson 3 = .ok (.getfield 7, 3) := by decide +kernel
theorem dX6_isPerson_6 : decode cX6_isPerson 6 = .ok (.iconst 0, 1) := by decide +kernel
theorem dX6_isPerson_7 : decode cX6_isPerson 7 = .ok (.iaload, 1) := by decide +kernel
theorem dX6_isPerson_8 : decode cX6_isPerson 8 = .ok (.iconst 1, 1) := by decide +kernel
theorem dX6_isPerson_9 : decode cX6_isPerson 9 = .ok (.isub, 1) := by decide +kernel
theorem dX6_isPerson_10 : decode cX6_isPerson 10 = .ok (.invokestatic 45, 3) := by decide +kernel
theorem dX6_isPerson_13 : decode cX6_isPerson 13 = .ok (.ireturn, 1) := by decide +kernel
theorem dX6_isHour_0 : decode cX6_isHour 0 = .ok (.iload_n 0, 1) := by decide +kernel
theorem dX6_isHour_1 : decode cX6_isHour 1 = .ok (.iconst 0, 1) := by decide +kernel
theorem dX6_isHour_2 : decode cX6_isHour 2 = .ok (.iconst 2, 1) := by decide +kernel
theorem dX6_isHour_3 : decode cX6_isHour 3 = .ok (.invokestatic 45, 3) := by decide +kernel
theorem dX6_isHour_6 : decode cX6_isHour 6 = .ok (.ireturn, 1) := by decide +kernel
theorem dX6_days_0 : decode cX6_days 0 = .ok (.iconst 1, 1) := by decide +kernel
theorem dX6_days_1 : decode cX6_days 1 = .ok (.iconst 3, 1) := by decide +kernel
theorem dX6_days_2 : decode cX6_days 2 = .ok (.aload_n 0, 1) := by decide +kernel
theorem dX6_days_3 : decode cX6_days 3 = .ok (.getfield 7, 3) := by decide +kernel
theorem dX6_days_6 : decode cX6_days 6 = .ok (.iconst 0, 1) := by decide +kernel
theorem dX6_days_7 : decode cX6_days 7 = .ok (.iaload, 1) := by decide +kernel
theorem dX6_days_8 : decode cX6_days 8 = .ok (.imul, 1) := by decide +kernel
theorem dX6_days_9 : decode cX6_days 9 = .ok (.ishl, 1) := by decide +kernel
theorem dX6_days_10 : decode cX6_days 10 = .ok (.ireturn, 1) := by decide +kernel
theorem dX6_isDay_0 : decode cX6_isDay 0 = .ok (.iload_n 1, 1) := by decide +kernel
theorem dX6_isDay_1 : decode cX6_isDay 1 = .ok (.iconst 0, 1) := by decide +kernel
theorem dX6_isDay_2 : decode cX6_isDay 2 = .ok (.aload_n 0, 1) := by decide +kernel
theorem dX6_isDay_3 : decode cX6_isDay 3 = .ok (.invokevirtual 49, 3) := by decide +kernel
theorem dX6_isDay_6 : decode cX6_isDay 6 = .ok (.iconst 1, 1) := by decide +kernel
theorem dX6_isDay_7 : decode cX6_isDay 7 = .ok (.isub, 1) := by decide +kernel
theorem dX6_isDay_8 : decode cX6_isDay 8 = .ok (.invokestatic 45, 3) := by decide +kernel
theorem dX6_isDay_11 : decode cX6_isDay 11 = .ok (.ireturn, 1) := by decide +kernel
theorem dX6_does_0 : decode cX6_does 0 = .ok (.iload_n 0, 1) := by decide +kernel
theorem dX6_does_1 : decode cX6_does 1 = .ok (.iconst 3, 1) := by decide +kernel
theorem dX6_does_2 : decode cX6_does 2 = .ok (.iload_n 1, 1) := by decide +kernel
theorem dX6_does_3 : decode cX6_does 3 = .ok (.imul, 1) := by decide +kernel
theorem dX6_does_4 : decode cX6_does 4 = .ok (.iload_n 2, 1) := by decide +kernel
theorem dX6_does_5 : decode cX6_does 5 = .ok (.iadd, 1) := by decide +kernel
theorem dX6_does_6 : decode cX6_does 6 = .ok (.ishr, 1) := by decide +kernel
theorem dX6_does_7 : decode cX6_does 7 = .ok (.iconst 1, 1) := by decide +kernel
theorem dX6_does_8 : decode cX6_does 8 = .ok (.iand, 1) := by decide +kernel
theorem dX6_does_9 : decode cX6_does 9 = .ok (.iconst 1, 1) := by decide +kernel
theorem dX6_does_10 : decode cX6_does 10 = .ok (.if_icmp .ne 7, 3) := by decide +kernel
theorem dX6_does_13 : decode cX6_does 13 = .ok (.iconst 1, 1) := by decide +kernel
theorem dX6_does_14 : decode cX6_does 14 = .ok (.goto 4, 3) := by decide +kernel
theorem dX6_does_17 : decode cX6_does 17 = .ok (.iconst 0, 1) := by decide +kernel
theorem dX6_does_18 : decode cX6_does 18 = .ok (.ireturn, 1) := by decide +kernel
theorem dX6_feed_0 : decode cX6_feed 0 = .ok (.iload_n 1, 1) := by decide +kernel
theorem dX6_feed_1 : decode cX6_feed 1 = .ok (.iconst 0, 1) := by decide +kernel
theorem dX6_feed_2 : decode cX6_feed 2 = .ok (.bipush 127, 2) := by decide +kernel
theorem dX6_feed_4 : decode cX6_feed 4 = .ok (.invokestatic 45, 3) := by decide +kernel
theorem dX6_feed_7 : decode cX6_feed 7 = .ok (.ifCond .ne 6, 3) := by decide +kernel
theorem dX6_feed_10 : decode cX6_feed 10 = .ok (.bipush (-2), 2) := by decide +kernel
theorem dX6_feed_12 : decode cX6_feed 12 = .ok (.ireturn, 1) := by decide +kernel
theorem dX6_feed_13 : decode cX6_feed 13 = .ok (.aload_n 0, 1) := by decide +kernel
theorem dX6_feed_14 : decode cX6_feed 14 = .ok (.getfield 7, 3) := by decide +kernel
theorem dX6_feed_17 : decode cX6_feed 17 = .ok (.iconst 3, 1) := by decide +kernel
theorem dX6_feed_18 : decode cX6_feed 18 = .ok (.iaload, 1) := by decide +kernel
theorem dX6_feed_19 : decode cX6_feed 19 = .ok (.bipush 100, 2) := by decide +kernel
theorem dX6_feed_21 : decode cX6_feed 21 = .ok (.if_icmp .ne 6, 3) := by decide +kernel
theorem dX6_feed_24 : decode cX6_feed 24 = .ok (.bipush (-4), 2) := by decide +kernel
theorem dX6_feed_26 : decode cX6_feed 26 = .ok (.ireturn, 1) := by decide +kernel
theorem dX6_feed_27 : decode cX6_feed 27 = .ok (.aload_n 0, 1) := by decide +kernel
theorem dX6_feed_28 : decode cX6_feed 28 = .ok (.getfield 7, 3) := by decide +kernel
theorem dX6_feed_31 : decode cX6_feed 31 = .ok (.bipush 10, 2) := by decide +kernel
theorem dX6_feed_33 : decode cX6_feed 33 = .ok (.aload_n 0, 1) := by decide +kernel
theorem dX6_feed_34 : decode cX6_feed 34 = .ok (.getfield 7, 3) := by decide +kernel
theorem dX6_feed_37 : decode cX6_feed 37 = .ok (.iconst 3, 1) := by decide +kernel
theorem dX6_feed_38 : decode cX6_feed 38 = .ok (.iaload, 1) := by decide +kernel
theorem dX6_feed_39 : decode cX6_feed 39 = .ok (.iadd, 1) := by decide +kernel
theorem dX6_feed_40 : decode cX6_feed 40 = .ok (.iload_n 1, 1) := by decide +kernel
theorem dX6_feed_41 : decode cX6_feed 41 = .ok (.iastore, 1) := by decide +kernel
theorem dX6_feed_42 : decode cX6_feed 42 = .ok (.aload_n 0, 1) := by decide +kernel
theorem dX6_feed_43 : decode cX6_feed 43 = .ok (.getfield 7, 3) := by decide +kernel
theorem dX6_feed_46 : decode cX6_feed 46 = .ok (.iconst 3, 1) := by decide +kernel
theorem dX6_feed_47 : decode cX6_feed 47 = .ok (.dup2, 1) := by decide +kernel
theorem dX6_feed_48 : decode cX6_feed 48 = .ok (.iaload, 1) := by decide +kernel
theorem dX6_feed_49 : decode cX6_feed 49 = .ok (.iconst 1, 1) := by decide +kernel
theorem dX6_feed_50 : decode cX6_feed 50 = .ok (.iadd, 1) := by decide +kernel
theorem dX6_feed_51 : decode cX6_feed 51 = .ok (.iastore, 1) := by decide +kernel
theorem dX6_feed_52 : decode cX6_feed 52 = .ok (.aload_n 0, 1) := by decide +kernel
theorem dX6_feed_53 : decode cX6_feed 53 = .ok (.getfield 7, 3) := by decide +kernel
theorem dX6_feed_56 : decode cX6_feed 56 = .ok (.iconst 3, 1) := by decide +kernel
theorem dX6_feed_57 : decode cX6_feed 57 = .ok (.iaload, 1) := by decide +kernel
theorem dX6_feed_58 : decode cX6_feed 58 = .ok (.ireturn, 1) := by decide +kernel
theorem dX6_here_0 : decode cX6_here 0 = .ok (.aload_n 0, 1) := by decide +kernel
theorem dX6_here_1 : decode cX6_here 1 = .ok (.getfield 53, 3) := by decide +kernel
theorem dX6_here_4 : decode cX6_here 4 = .ok (.aload_n 0, 1) := by decide +kernel
theorem dX6_here_5 : decode cX6_here 5 = .ok (.getfield 56, 3) := by decide +kernel
theorem dX6_here_8 : decode cX6_here 8 = .ok (.if_icmp .ge 18, 3) := by decide +kernel
theorem dX6_here_11 : decode cX6_here 11 = .ok (.aload_n 0, 1) := by decide +kernel
theorem dX6_here_12 : decode cX6_here 12 = .ok (.getfield 7, 3) := by decide +kernel
theorem dX6_here_15 : decode cX6_here 15 = .ok (.bipush 10, 2) := by decide +kernel
theorem dX6_here_17 : decode cX6_here 17 = .ok (.aload_n 0, 1) := by decide +kernel
theorem dX6_here_18 : decode cX6_here 18 = .ok (.getfield 53, 3) := by decide +kernel
theorem dX6_here_21 : decode cX6_here 21 = .ok (.iadd, 1) := by decide +kernel
theorem dX6_here_22 : decode cX6_here 22 = .ok (.iaload, 1) := by decide +kernel
theorem dX6_here_23 : decode cX6_here 23 = .ok (.goto 4, 3) := by decide +kernel
theorem dX6_here_26 : decode cX6_here 26 = .ok (.iconst (-1), 1) := by decide +kernel
theorem dX6_here_27 : decode cX6_here 27 = .ok (.ireturn, 1) := by decide +kernel
theorem dX6_must_0 : decode cX6_must 0 = .ok (.aload_n 0, 1) := by decide +kernel
theorem dX6_must_1 : decode cX6_must 1 = .ok (.aload_n 0, 1) := by decide +kernel
theorem dX6_must_2 : decode cX6_must 2 = .ok (.getfield 59, 3) := by decide +kernel
theorem dX6_must_5 : decode cX6_must 5 = .ok (.ifCond .ne 11, 3) := by decide +kernel
theorem dX6_must_8 : decode cX6_must 8 = .ok (.aload_n 0, 1) := by decide +kernel
theorem dX6_must_9 : decode cX6_must 9 = .ok (.invokevirtual 63, 3) := by decide +kernel
theorem dX6_must_12 : decode cX6_must 12 = .ok (.iload_n 1, 1) := by decide +kernel
theorem dX6_must_13 : decode cX6_must 13 = .ok (.if_icmp .eq 7, 3) := by decide +kernel
theorem dX6_must_16 : decode cX6_must 16 = .ok (.iconst 1, 1) := by decide +kernel
theorem dX6_must_17 : decode cX6_must 17 = .ok (.goto 4, 3) := by decide +kernel
theorem dX6_must_20 : decode cX6_must 20 = .ok (.iconst 0, 1) := by decide +kernel
theorem dX6_must_21 : decode cX6_must 21 = .ok (.putfield 59, 3) := by decide +kernel
theorem dX6_must_24 : decode cX6_must 24 = .ok (.aload_n 0, 1) := by decide +kernel
theorem dX6_must_25 : decode cX6_must 25 = .ok (.dup, 1) := by decide +kernel
theorem dX6_must_26 : decode cX6_must 26 = .ok (.getfield 53, 3) := by decide +kernel
theorem dX6_must_29 : decode cX6_must 29 = .ok (.aload_n 0, 1) := by decide +kernel
theorem dX6_must_30 : decode cX6_must 30 = .ok (.getfield 59, 3) := by decide +kernel
theorem dX6_must_33 : decode cX6_must 33 = .ok (.ifCond .eq 7, 3) := by decide +kernel
theorem dX6_must_36 : decode cX6_must 36 = .ok (.iconst 0, 1) := by decide +kernel
theorem dX6_must_37 : decode cX6_must 37 = .ok (.goto 4, 3) := by decide +kernel
theorem dX6_must_40 : decode cX6_must 40 = .ok (.iconst 1, 1) := by decide +kernel
theorem dX6_must_41 : decode cX6_must 41 = .ok (.iadd, 1) := by decide +kernel
theorem dX6_must_42 : decode cX6_must 42 = .ok (.putfield 53, 3) := by decide +kernel
theorem dX6_must_45 : decode cX6_must 45 = .ok (.return_, 1) := by decide +kernel
theorem dX6_spells_0 : decode cX6_spells 0 = .ok (.iconst 0, 1) := by decide +kernel
theorem dX6_spells_1 : decode cX6_spells 1 = .ok (.istore_n 2, 1) := by decide +kernel
theorem dX6_spells_2 : decode cX6_spells 2 = .ok (.iload_n 2, 1) := by decide +kernel
theorem dX6_spells_3 : decode cX6_spells 3 = .ok (.aload_n 1, 1) := by decide +kernel
theorem dX6_spells_4 : decode cX6_spells 4 = .ok (.invokevirtual 66, 3) := by decide +kernel
theorem dX6_spells_7 : decode cX6_spells 7 = .ok (.if_icmp .ge 18, 3) := by decide +kernel
theorem dX6_spells_10 : decode cX6_spells 10 = .ok (.aload_n 0, 1) := by decide +kernel
theorem dX6_spells_11 : decode cX6_spells 11 = .ok (.aload_n 1, 1) := by decide +kernel
theorem dX6_spells_12 : decode cX6_spells 12 = .ok (.iload_n 2, 1) := by decide +kernel
theorem dX6_spells_13 : decode cX6_spells 13 = .ok (.invokevirtual 71, 3) := by decide +kernel
theorem dX6_spells_16 : decode cX6_spells 16 = .ok (.invokevirtual 75, 3) := by decide +kernel
theorem dX6_spells_19 : decode cX6_spells 19 = .ok (.iinc 2 1, 3) := by decide +kernel
theorem dX6_spells_22 : decode cX6_spells 22 = .ok (.goto (-20), 3) := by decide +kernel
theorem dX6_spells_25 : decode cX6_spells 25 = .ok (.return_, 1) := by decide +kernel
theorem dX6_figures_0 : decode cX6_figures 0 = .ok (.aload_n 0, 1) := by decide +kernel
theorem dX6_figures_1 : decode cX6_figures 1 = .ok (.aload_n 0, 1) := by decide +kernel
theorem dX6_figures_2 : decode cX6_figures 2 = .ok (.getfield 59, 3) := by decide +kernel
theorem dX6_figures_5 : decode cX6_figures 5 = .ok (.ifCond .ne 17, 3) := by decide +kernel
theorem dX6_figures_8 : decode cX6_figures 8 = .ok (.aload_n 0, 1) := by decide +kernel
theorem dX6_figures_9 : decode cX6_figures 9 = .ok (.invokevirtual 63, 3) := by decide +kernel
theorem dX6_figures_12 : decode cX6_figures 12 = .ok (.bipush 48, 2) := by decide +kernel
theorem dX6_figures_14 : decode cX6_figures 14 = .ok (.bipush 57, 2) := by decide +kernel
theorem dX6_figures_16 : decode cX6_figures 16 = .ok (.invokestatic 45, 3) := by decide +kernel
theorem dX6_figures_19 : decode cX6_figures 19 = .ok (.ifCond .ne 7, 3) := by decide +kernel
theorem dX6_figures_22 : decode cX6_figures 22 = .ok (.iconst 1, 1) := by decide +kernel
theorem dX6_figures_23 : decode cX6_figures 23 = .ok (.goto 4, 3) := by decide +kernel
theorem dX6_figures_26 : decode cX6_figures 26 = .ok (.iconst 0, 1) := by decide +kernel
theorem dX6_figures_27 : decode cX6_figures 27 = .ok (.putfield 59, 3) := by decide +kernel
theorem dX6_figures_30 : decode cX6_figures 30 = .ok (.iconst 0, 1) := by decide +kernel
theorem dX6_figures_31 : decode cX6_figures 31 = .ok (.istore_n 1, 1) := by decide +kernel
theorem dX6_figures_32 : decode cX6_figures 32 = .ok (.iconst 0, 1) := by decide +kernel
theorem dX6_figures_33 : decode cX6_figures 33 = .ok (.istore_n 2, 1) := by decide +kernel
theorem dX6_figures_34 : decode cX6_figures 34 = .ok (.iload_n 2, 1) := by decide +kernel
theorem dX6_figures_35 : decode cX6_figures 35 = .ok (.iconst 2, 1) := by decide +kernel
theorem dX6_figures_36 : decode cX6_figures 36 = .ok (.if_icmp .ge 61, 3) := by decide +kernel
theorem dX6_figures_39 : decode cX6_figures 39 = .ok (.aload_n 0, 1) := by decide +kernel
theorem dX6_figures_40 : decode cX6_figures 40 = .ok (.getfield 59, 3) := by decide +kernel
theorem dX6_figures_43 : decode cX6_figures 43 = .ok (.ifCond .ne 54, 3) := by decide +kernel
theorem dX6_figures_46 : decode cX6_figures 46 = .ok (.aload_n 0, 1) := by decide +kernel
theorem dX6_figures_47 : decode cX6_figures 47 = .ok (.invokevirtual 63, 3) := by decide +kernel
theorem dX6_figures_50 : decode cX6_figures 50 = .ok (.bipush 48, 2) := by decide +kernel
theorem dX6_figures_52 : decode cX6_figures 52 = .ok (.bipush 57, 2) := by decide +kernel
theorem dX6_figures_54 : decode cX6_figures 54 = .ok (.invokestatic 45, 3) := by decide +kernel
theorem dX6_figures_57 : decode cX6_figures 57 = .ok (.ifCond .eq 40, 3) := by decide +kernel
theorem dX6_figures_60 : decode cX6_figures 60 = .ok (.iload_n 2, 1) := by decide +kernel
theorem dX6_figures_61 : decode cX6_figures 61 = .ok (.ifCond .eq 7, 3) := by decide +kernel
theorem dX6_figures_64 : decode cX6_figures 64 = .ok (.iload_n 1, 1) := by decide +kernel
theorem dX6_figures_65 : decode cX6_figures 65 = .ok (.ifCond .le 32, 3) := by decide +kernel
theorem dX6_figures_68 : decode cX6_figures 68 = .ok (.bipush 10, 2) := by decide +kernel
theorem dX6_figures_70 : decode cX6_figures 70 = .ok (.iload_n 1, 1) := by decide +kernel
theorem dX6_figures_71 : decode cX6_figures 71 = .ok (.imul, 1) := by decide +kernel
theorem dX6_figures_72 : decode cX6_figures 72 = .ok (.aload_n 0, 1) := by decide +kernel
theorem dX6_figures_73 : decode cX6_figures 73 = .ok (.invokevirtual 63, 3) := by decide +kernel
theorem dX6_figures_76 : decode cX6_figures 76 = .ok (.iadd, 1) := by decide +kernel
theorem dX6_figures_77 : decode cX6_figures 77 = .ok (.bipush 48, 2) := by decide +kernel
theorem dX6_figures_79 : decode cX6_figures 79 = .ok (.isub, 1) := by decide +kernel
theorem dX6_figures_80 : decode cX6_figures 80 = .ok (.istore_n 1, 1) := by decide +kernel
theorem dX6_figures_81 : decode cX6_figures 81 = .ok (.aload_n 0, 1) := by decide +kernel
theorem dX6_figures_82 : decode cX6_figures 82 = .ok (.dup, 1) := by decide +kernel
theorem dX6_figures_83 : decode cX6_figures 83 = .ok (.getfield 53, 3) := by decide +kernel
theorem dX6_figures_86 : decode cX6_figures 86 = .ok (.iconst 1, 1) := by decide +kernel
theorem dX6_figures_87 : decode cX6_figures 87 = .ok (.iadd, 1) := by decide +kernel
theorem dX6_figures_88 : decode cX6_figures 88 = .ok (.putfield 53, 3) := by decide +kernel
theorem dX6_figures_91 : decode cX6_figures 91 = .ok (.iinc 2 1, 3) := by decide +kernel
theorem dX6_figures_94 : decode cX6_figures 94 = .ok (.goto (-60), 3) := by decide +kernel
theorem dX6_figures_97 : decode cX6_figures 97 = .ok (.iload_n 1, 1) := by decide +kernel
theorem dX6_figures_98 : decode cX6_figures 98 = .ok (.ireturn, 1) := by decide +kernel
theorem dX6_among_0 : decode cX6_among 0 = .ok (.iconst 0, 1) := by decide +kernel
theorem dX6_among_1 : decode cX6_among 1 = .ok (.istore_n 2, 1) := by decide +kernel
theorem dX6_among_2 : decode cX6_among 2 = .ok (.iload_n 2, 1) := by decide +kernel
theorem dX6_among_3 : decode cX6_among 3 = .ok (.aload_n 1, 1) := by decide +kernel
theorem dX6_among_4 : decode cX6_among 4 = .ok (.invokevirtual 66, 3) := by decide +kernel
theorem dX6_among_7 : decode cX6_among 7 = .ok (.if_icmp .ge 33, 3) := by decide +kernel
theorem dX6_among_10 : decode cX6_among 10 = .ok (.aload_n 0, 1) := by decide +kernel
theorem dX6_among_11 : decode cX6_among 11 = .ok (.invokevirtual 63, 3) := by decide +kernel
theorem dX6_among_14 : decode cX6_among 14 = .ok (.aload_n 1, 1) := by decide +kernel
theorem dX6_among_15 : decode cX6_among 15 = .ok (.iload_n 2, 1) := by decide +kernel
theorem dX6_among_16 : decode cX6_among 16 = .ok (.invokevirtual 71, 3) := by decide +kernel
theorem dX6_among_19 : decode cX6_among 19 = .ok (.if_icmp .ne 15, 3) := by decide +kernel
theorem dX6_among_22 : decode cX6_among 22 = .ok (.aload_n 0, 1) := by decide +kernel
theorem dX6_among_23 : decode cX6_among 23 = .ok (.dup, 1) := by decide +kernel
theorem dX6_among_24 : decode cX6_among 24 = .ok (.getfield 53, 3) := by decide +kernel
theorem dX6_among_27 : decode cX6_among 27 = .ok (.iconst 1, 1) := by decide +kernel
theorem dX6_among_28 : decode cX6_among 28 = .ok (.iadd, 1) := by decide +kernel
theorem dX6_among_29 : decode cX6_among 29 = .ok (.putfield 53, 3) := by decide +kernel
theorem dX6_among_32 : decode cX6_among 32 = .ok (.iload_n 2, 1) := by decide +kernel
theorem dX6_among_33 : decode cX6_among 33 = .ok (.ireturn, 1) := by decide +kernel
theorem dX6_among_34 : decode cX6_among 34 = .ok (.iinc 2 1, 3) := by decide +kernel
theorem dX6_among_37 : decode cX6_among 37 = .ok (.goto (-35), 3) := by decide +kernel
theorem dX6_among_40 : decode cX6_among 40 = .ok (.iconst (-1), 1) := by decide +kernel
theorem dX6_among_41 : decode cX6_among 41 = .ok (.ireturn, 1) := by decide +kernel
theorem dX6_emits_0 : decode cX6_emits 0 = .ok (.aload_n 0, 1) := by decide +kernel
theorem dX6_emits_1 : decode cX6_emits 1 = .ok (.getfield 59, 3) := by decide +kernel
theorem dX6_emits_4 : decode cX6_emits 4 = .ok (.ifCond .ne 52, 3) := by decide +kernel
theorem dX6_emits_7 : decode cX6_emits 7 = .ok (.aload_n 0, 1) := by decide +kernel
theorem dX6_emits_8 : decode cX6_emits 8 = .ok (.getfield 7, 3) := by decide +kernel
theorem dX6_emits_11 : decode cX6_emits 11 = .ok (.sipush 146, 3) := by decide +kernel
theorem dX6_emits_14 : decode cX6_emits 14 = .ok (.sipush 140, 3) := by decide +kernel
theorem dX6_emits_17 : decode cX6_emits 17 = .ok (.aload_n 0, 1) := by decide +kernel
theorem dX6_emits_18 : decode cX6_emits 18 = .ok (.getfield 79, 3) := by decide +kernel
theorem dX6_emits_21 : decode cX6_emits 21 = .ok (.imul, 1) := by decide +kernel
theorem dX6_emits_22 : decode cX6_emits 22 = .ok (.iadd, 1) := by decide +kernel
theorem dX6_emits_23 : decode cX6_emits 23 = .ok (.aload_n 0, 1) := by decide +kernel
theorem dX6_emits_24 : decode cX6_emits 24 = .ok (.getfield 7, 3) := by decide +kernel
theorem dX6_emits_27 : decode cX6_emits 27 = .ok (.sipush 141, 3) := by decide +kernel
theorem dX6_emits_30 : decode cX6_emits 30 = .ok (.aload_n 0, 1) := by decide +kernel
theorem dX6_emits_31 : decode cX6_emits 31 = .ok (.getfield 79, 3) := by decide +kernel
theorem dX6_emits_34 : decode cX6_emits 34 = .ok (.iadd, 1) := by decide +kernel
theorem dX6_emits_35 : decode cX6_emits 35 = .ok (.iaload, 1) := by decide +kernel
theorem dX6_emits_36 : decode cX6_emits 36 = .ok (.iadd, 1) := by decide +kernel
theorem dX6_emits_37 : decode cX6_emits 37 = .ok (.iload_n 1, 1) := by decide +kernel
theorem dX6_emits_38 : decode cX6_emits 38 = .ok (.iastore, 1) := by decide +kernel
theorem dX6_emits_39 : decode cX6_emits 39 = .ok (.aload_n 0, 1) := by decide +kernel
theorem dX6_emits_40 : decode cX6_emits 40 = .ok (.getfield 7, 3) := by decide +kernel
theorem dX6_emits_43 : decode cX6_emits 43 = .ok (.sipush 141, 3) := by decide +kernel
theorem dX6_emits_46 : decode cX6_emits 46 = .ok (.aload_n 0, 1) := by decide +kernel
theorem dX6_emits_47 : decode cX6_emits 47 = .ok (.getfield 79, 3) := by decide +kernel
theorem dX6_emits_50 : decode cX6_emits 50 = .ok (.iadd, 1) := by decide +kernel
theorem dX6_emits_51 : decode cX6_emits 51 = .ok (.dup2, 1) := by decide +kernel
theorem dX6_emits_52 : decode cX6_emits 52 = .ok (.iaload, 1) := by decide +kernel
theorem dX6_emits_53 : decode cX6_emits 53 = .ok (.iconst 1, 1) := by decide +kernel
theorem dX6_emits_54 : decode cX6_emits 54 = .ok (.iadd, 1) := by decide +kernel
theorem dX6_emits_55 : decode cX6_emits 55 = .ok (.iastore, 1) := by decide +kernel
theorem dX6_emits_56 : decode cX6_emits 56 = .ok (.return_, 1) := by decide +kernel
theorem dX6_factor_0 : decode cX6_factor 0 = .ok (.aload_n 0, 1) := by decide +kernel
theorem dX6_factor_1 : decode cX6_factor 1 = .ok (.getfield 59, 3) := by decide +kernel
theorem dX6_factor_4 : decode cX6_factor 4 = .ok (.ifCond .eq 4, 3) := by decide +kernel
theorem dX6_factor_7 : decode cX6_factor 7 = .ok (.return_, 1) := by decide +kernel
theorem dX6_factor_8 : decode cX6_factor 8 = .ok (.aload_n 0, 1) := by decide +kernel
theorem dX6_factor_9 : decode cX6_factor 9 = .ok (.invokevirtual 63, 3) := by decide +kernel
theorem dX6_factor_12 : decode cX6_factor 12 = .ok (.istore_n 1, 1) := by decide +kernel
theorem dX6_factor_13 : decode cX6_factor 13 = .ok (.iload_n 1, 1) := by decide +kernel
theorem dX6_factor_14 : decode cX6_factor 14 = .ok (.bipush 33, 2) := by decide +kernel
theorem dX6_factor_16 : decode cX6_factor 16 = .ok (.if_icmp .eq 9, 3) := by decide +kernel
theorem dX6_factor_19 : decode cX6_factor 19 = .ok (.iload_n 1, 1) := by decide +kernel
theorem dX6_factor_20 : decode cX6_factor 20 = .ok (.bipush 40, 2) := by decide +kernel
theorem dX6_factor_22 : decode cX6_factor 22 = .ok (.if_icmp .ne 90, 3) := by decide +kernel
theorem dX6_factor_25 : decode cX6_factor 25 = .ok (.aload_n 0, 1) := by decide +kernel
theorem dX6_factor_26 : decode cX6_factor 26 = .ok (.aload_n 0, 1) := by decide +kernel
theorem dX6_factor_27 : decode cX6_factor 27 = .ok (.getfield 82, 3) := by decide +kernel
theorem dX6_factor_30 : decode cX6_factor 30 = .ok (.iconst 5, 1) := by decide +kernel
theorem dX6_factor_31 : decode cX6_factor 31 = .ok (.if_icmp .ne 7, 3) := by decide +kernel
theorem dX6_factor_34 : decode cX6_factor 34 = .ok (.iconst 1, 1) := by decide +kernel
theorem dX6_factor_35 : decode cX6_factor 35 = .ok (.goto 4, 3) := by decide +kernel
theorem dX6_factor_38 : decode cX6_factor 38 = .ok (.iconst 0, 1) := by decide +kernel
theorem dX6_factor_39 : decode cX6_factor 39 = .ok (.putfield 59, 3) := by decide +kernel
theorem dX6_factor_42 : decode cX6_factor 42 = .ok (.aload_n 0, 1) := by decide +kernel
theorem dX6_factor_43 : decode cX6_factor 43 = .ok (.dup, 1) := by decide +kernel
theorem dX6_factor_44 : decode cX6_factor 44 = .ok (.getfield 82, 3) := by decide +kernel
theorem dX6_factor_47 : decode cX6_factor 47 = .ok (.iconst 1, 1) := by decide +kernel
theorem dX6_factor_48 : decode cX6_factor 48 = .ok (.iadd, 1) := by decide +kernel
theorem dX6_factor_49 : decode cX6_factor 49 = .ok (.putfield 82, 3) := by decide +kernel
theorem dX6_factor_52 : decode cX6_factor 52 = .ok (.aload_n 0, 1) := by decide +kernel
theorem dX6_factor_53 : decode cX6_factor 53 = .ok (.dup, 1) := by decide +kernel
theorem dX6_factor_54 : decode cX6_factor 54 = .ok (.getfield 53, 3) := by decide +kernel
theorem dX6_factor_57 : decode cX6_factor 57 = .ok (.aload_n 0, 1) := by decide +kernel
theorem dX6_factor_58 : decode cX6_factor 58 = .ok (.getfield 59, 3) := by decide +kernel
theorem dX6_factor_61 : decode cX6_factor 61 = .ok (.ifCond .eq 7, 3) := by decide +kernel
theorem dX6_factor_64 : decode cX6_factor 64 = .ok (.iconst 0, 1) := by decide +kernel
theorem dX6_factor_65 : decode cX6_factor 65 = .ok (.goto 4, 3) := by decide +kernel
theorem dX6_factor_68 : decode cX6_factor 68 = .ok (.iconst 1, 1) := by decide +kernel
theorem dX6_factor_69 : decode cX6_factor 69 = .ok (.iadd, 1) := by decide +kernel
theorem dX6_factor_70 : decode cX6_factor 70 = .ok (.putfield 53, 3) := by decide +kernel
theorem dX6_factor_73 : decode cX6_factor 73 = .ok (.iload_n 1, 1) := by decide +kernel
theorem dX6_factor_74 : decode cX6_factor 74 = .ok (.bipush 33, 2) := by decide +kernel
theorem dX6_factor_76 : decode cX6_factor 76 = .ok (.if_icmp .ne 15, 3) := by decide +kernel
theorem dX6_factor_79 : decode cX6_factor 79 = .ok (.aload_n 0, 1) := by decide +kernel
theorem dX6_factor_80 : decode cX6_factor 80 = .ok (.invokevirtual 85, 3) := by decide +kernel
theorem dX6_factor_83 : decode cX6_factor 83 = .ok (.aload_n 0, 1) := by decide +kernel
theorem dX6_factor_84 : decode cX6_factor 84 = .ok (.iconst (-1), 1) := by decide +kernel
theorem dX6_factor_85 : decode cX6_factor 85 = .ok (.invokevirtual 88, 3) := by decide +kernel
theorem dX6_factor_88 : decode cX6_factor 88 = .ok (.goto 13, 3) := by decide +kernel
theorem dX6_factor_91 : decode cX6_factor 91 = .ok (.aload_n 0, 1) := by decide +kernel
theorem dX6_factor_92 : decode cX6_factor 92 = .ok (.invokevirtual 91, 3) := by decide +kernel
theorem dX6_factor_95 : decode cX6_factor 95 = .ok (.aload_n 0, 1) := by decide +kernel
theorem dX6_factor_96 : decode cX6_factor 96 = .ok (.bipush 41, 2) := by decide +kernel
theorem dX6_factor_98 : decode cX6_factor 98 = .ok (.invokevirtual 75, 3) := by decide +kernel
theorem dX6_factor_101 : decode cX6_factor 101 = .ok (.aload_n 0, 1) := by decide +kernel
theorem dX6_factor_102 : decode cX6_factor 102 = .ok (.dup, 1) := by decide +kernel
theorem dX6_factor_103 : decode cX6_factor 103 = .ok (.getfield 82, 3) := by decide +kernel
theorem dX6_factor_106 : decode cX6_factor 106 = .ok (.iconst 1, 1) := by decide +kernel
theorem dX6_factor_107 : decode cX6_factor 107 = .ok (.isub, 1) := by decide +kernel
theorem dX6_factor_108 : decode cX6_factor 108 = .ok (.putfield 82, 3) := by decide +kernel
theorem dX6_factor_111 : decode cX6_factor 111 = .ok (.return_, 1) := by decide +kernel
theorem dX6_factor_112 : decode cX6_factor 112 = .ok (.aload_n 0, 1) := by decide +kernel
theorem dX6_factor_113 : decode cX6_factor 113 = .ok (.ldc 94, 2) := by decide +kernel
theorem dX6_factor_115 : decode cX6_factor 115 = .ok (.invokevirtual 96, 3) := by decide +kernel
theorem dX6_factor_118 : decode cX6_factor 118 = .ok (.istore_n 2, 1) := by decide +kernel
theorem dX6_factor_119 : decode cX6_factor 119 = .ok (.aload_n 0, 1) := by decide +kernel
theorem dX6_factor_120 : decode cX6_factor 120 = .ok (.iload_n 2, 1) := by decide +kernel
theorem dX6_factor_121 : decode cX6_factor 121 = .ok (.iconst (-1), 1) := by decide +kernel
theorem dX6_factor_122 : decode cX6_factor 122 = .ok (.if_icmp .ne 7, 3) := by decide +kernel
theorem dX6_factor_125 : decode cX6_factor 125 = .ok (.iconst 1, 1) := by decide +kernel
theorem dX6_factor_126 : decode cX6_factor 126 = .ok (.goto 4, 3) := by decide +kernel
theorem dX6_factor_129 : decode cX6_factor 129 = .ok (.iconst 0, 1) := by decide +kernel
theorem dX6_factor_130 : decode cX6_factor 130 = .ok (.putfield 59, 3) := by decide +kernel
theorem dX6_factor_133 : decode cX6_factor 133 = .ok (.aload_n 0, 1) := by decide +kernel
theorem dX6_factor_134 : decode cX6_factor 134 = .ok (.getfield 59, 3) := by decide +kernel
theorem dX6_factor_137 : decode cX6_factor 137 = .ok (.ifCond .eq 7, 3) := by decide +kernel
theorem dX6_factor_140 : decode cX6_factor 140 = .ok (.iconst 0, 1) := by decide +kernel
theorem dX6_factor_141 : decode cX6_factor 141 = .ok (.goto 9, 3) := by decide +kernel
theorem dX6_factor_144 : decode cX6_factor 144 = .ok (.aload_n 0, 1) := by decide +kernel
theorem dX6_factor_145 : decode cX6_factor 145 = .ok (.ldc 100, 2) := by decide +kernel
theorem dX6_factor_147 : decode cX6_factor 147 = .ok (.invokevirtual 96, 3) := by decide +kernel
theorem dX6_factor_150 : decode cX6_factor 150 = .ok (.istore_n 3, 1) := by decide +kernel
theorem dX6_factor_151 : decode cX6_factor 151 = .ok (.aload_n 0, 1) := by decide +kernel
theorem dX6_factor_152 : decode cX6_factor 152 = .ok (.aload_n 0, 1) := by decide +kernel
theorem dX6_factor_153 : decode cX6_factor 153 = .ok (.getfield 59, 3) := by decide +kernel
theorem dX6_factor_156 : decode cX6_factor 156 = .ok (.ifCond .ne 8, 3) := by decide +kernel
theorem dX6_factor_159 : decode cX6_factor 159 = .ok (.iload_n 3, 1) := by decide +kernel
theorem dX6_factor_160 : decode cX6_factor 160 = .ok (.iconst (-1), 1) := by decide +kernel
theorem dX6_factor_161 : decode cX6_factor 161 = .ok (.if_icmp .ne 7, 3) := by decide +kernel
theorem dX6_factor_164 : decode cX6_factor 164 = .ok (.iconst 1, 1) := by decide +kernel
theorem dX6_factor_165 : decode cX6_factor 165 = .ok (.goto 4, 3) := by decide +kernel
theorem dX6_factor_168 : decode cX6_factor 168 = .ok (.iconst 0, 1) := by decide +kernel
theorem dX6_factor_169 : decode cX6_factor 169 = .ok (.putfield 59, 3) := by decide +kernel
theorem dX6_factor_172 : decode cX6_factor 172 = .ok (.aload_n 0, 1) := by decide +kernel
theorem dX6_factor_173 : decode cX6_factor 173 = .ok (.invokevirtual 102, 3) := by decide +kernel
theorem dX6_factor_176 : decode cX6_factor 176 = .ok (.istore 4, 2) := by decide +kernel
theorem dX6_factor_178 : decode cX6_factor 178 = .ok (.aload_n 0, 1) := by decide +kernel
theorem dX6_factor_179 : decode cX6_factor 179 = .ok (.iload_n 2, 1) := by decide +kernel
theorem dX6_factor_180 : decode cX6_factor 180 = .ok (.bipush 8, 2) := by decide +kernel
theorem dX6_factor_182 : decode cX6_factor 182 = .ok (.iload_n 3, 1) := by decide +kernel
theorem dX6_factor_183 : decode cX6_factor 183 = .ok (.imul, 1) := by decide +kernel
theorem dX6_factor_184 : decode cX6_factor 184 = .ok (.iadd, 1) := by decide +kernel
theorem dX6_factor_185 : decode cX6_factor 185 = .ok (.bipush 32, 2) := by decide +kernel
theorem dX6_factor_187 : decode cX6_factor 187 = .ok (.iload 4, 2) := by decide +kernel
theorem dX6_factor_189 : decode cX6_factor 189 = .ok (.imul, 1) := by decide +kernel
theorem dX6_factor_190 : decode cX6_factor 190 = .ok (.iadd, 1) := by decide +kernel
theorem dX6_factor_191 : decode cX6_factor 191 = .ok (.invokevirtual 88, 3) := by decide +kernel
theorem dX6_factor_194 : decode cX6_factor 194 = .ok (.return_, 1) := by decide +kernel
theorem dX6_every_0 : decode cX6_every 0 = .ok (.aload_n 0, 1) := by decide +kernel
theorem dX6_every_1 : decode cX6_every 1 = .ok (.invokevirtual 85, 3) := by decide +kernel
theorem dX6_every_4 : decode cX6_every 4 = .ok (.aload_n 0, 1) := by decide +kernel
theorem dX6_every_5 : decode cX6_every 5 = .ok (.getfield 59, 3) := by decide +kernel
theorem dX6_every_8 : decode cX6_every 8 = .ok (.ifCond .ne 35, 3) := by decide +kernel
theorem dX6_every_11 : decode cX6_every 11 = .ok (.aload_n 0, 1) := by decide +kernel
theorem dX6_every_12 : decode cX6_every 12 = .ok (.invokevirtual 63, 3) := by decide +kernel
theorem dX6_every_15 : decode cX6_every 15 = .ok (.bipush 38, 2) := by decide +kernel
theorem dX6_every_17 : decode cX6_every 17 = .ok (.if_icmp .ne 26, 3) := by decide +kernel
theorem dX6_every_20 : decode cX6_every 20 = .ok (.aload_n 0, 1) := by decide +kernel
theorem dX6_every_21 : decode cX6_every 21 = .ok (.dup, 1) := by decide +kernel
theorem dX6_every_22 : decode cX6_every 22 = .ok (.getfield 53, 3) := by decide +kernel
theorem dX6_every_25 : decode cX6_every 25 = .ok (.iconst 1, 1) := by decide +kernel
theorem dX6_every_26 : decode cX6_every 26 = .ok (.iadd, 1) := by decide +kernel
theorem dX6_every_27 : decode cX6_every 27 = .ok (.putfield 53, 3) := by decide +kernel
theorem dX6_every_30 : decode cX6_every 30 = .ok (.aload_n 0, 1) := by decide +kernel
theorem dX6_every_31 : decode cX6_every 31 = .ok (.invokevirtual 85, 3) := by decide +kernel
theorem dX6_every_34 : decode cX6_every 34 = .ok (.aload_n 0, 1) := by decide +kernel
theorem dX6_every_35 : decode cX6_every 35 = .ok (.bipush (-2), 2) := by decide +kernel
theorem dX6_every_37 : decode cX6_every 37 = .ok (.invokevirtual 88, 3) := by decide +kernel
theorem dX6_every_40 : decode cX6_every 40 = .ok (.goto (-36), 3) := by decide +kernel
theorem dX6_every_43 : decode cX6_every 43 = .ok (.return_, 1) := by decide +kernel
theorem dX6_some_0 : decode cX6_some 0 = .ok (.aload_n 0, 1) := by decide +kernel
theorem dX6_some_1 : decode cX6_some 1 = .ok (.invokevirtual 105, 3) := by decide +kernel
theorem dX6_some_4 : decode cX6_some 4 = .ok (.aload_n 0, 1) := by decide +kernel
theorem dX6_some_5 : decode cX6_some 5 = .ok (.getfield 59, 3) := by decide +kernel
theorem dX6_some_8 : decode cX6_some 8 = .ok (.ifCond .ne 35, 3) := by decide +kernel
theorem dX6_some_11 : decode cX6_some 11 = .ok (.aload_n 0, 1) := by decide +kernel
theorem dX6_some_12 : decode cX6_some 12 = .ok (.invokevirtual 63, 3) := by decide +kernel
theorem dX6_some_15 : decode cX6_some 15 = .ok (.bipush 124, 2) := by decide +kernel
theorem dX6_some_17 : decode cX6_some 17 = .ok (.if_icmp .ne 26, 3) := by decide +kernel
theorem dX6_some_20 : decode cX6_some 20 = .ok (.aload_n 0, 1) := by decide +kernel
theorem dX6_some_21 : decode cX6_some 21 = .ok (.dup, 1) := by decide +kernel
theorem dX6_some_22 : decode cX6_some 22 = .ok (.getfield 53, 3) := by decide +kernel
theorem dX6_some_25 : decode cX6_some 25 = .ok (.iconst 1, 1) := by decide +kernel
theorem dX6_some_26 : decode cX6_some 26 = .ok (.iadd, 1) := by decide +kernel
theorem dX6_some_27 : decode cX6_some 27 = .ok (.putfield 53, 3) := by decide +kernel
theorem dX6_some_30 : decode cX6_some 30 = .ok (.aload_n 0, 1) := by decide +kernel
theorem dX6_some_31 : decode cX6_some 31 = .ok (.invokevirtual 105, 3) := by decide +kernel
theorem dX6_some_34 : decode cX6_some 34 = .ok (.aload_n 0, 1) := by decide +kernel
theorem dX6_some_35 : decode cX6_some 35 = .ok (.bipush (-3), 2) := by decide +kernel
theorem dX6_some_37 : decode cX6_some 37 = .ok (.invokevirtual 88, 3) := by decide +kernel
theorem dX6_some_40 : decode cX6_some 40 = .ok (.goto (-36), 3) := by decide +kernel
theorem dX6_some_43 : decode cX6_some 43 = .ok (.return_, 1) := by decide +kernel
theorem dX6_much_0 : decode cX6_much 0 = .ok (.aload_n 0, 1) := by decide +kernel
theorem dX6_much_1 : decode cX6_much 1 = .ok (.aload_n 2, 1) := by decide +kernel
theorem dX6_much_2 : decode cX6_much 2 = .ok (.invokevirtual 108, 3) := by decide +kernel
theorem dX6_much_5 : decode cX6_much 5 = .ok (.aload_n 0, 1) := by decide +kernel
theorem dX6_much_6 : decode cX6_much 6 = .ok (.invokevirtual 102, 3) := by decide +kernel
theorem dX6_much_9 : decode cX6_much 9 = .ok (.istore_n 3, 1) := by decide +kernel
theorem dX6_much_10 : decode cX6_much 10 = .ok (.aload_n 0, 1) := by decide +kernel
theorem dX6_much_11 : decode cX6_much 11 = .ok (.bipush 32, 2) := by decide +kernel
theorem dX6_much_13 : decode cX6_much 13 = .ok (.invokevirtual 75, 3) := by decide +kernel
theorem dX6_much_16 : decode cX6_much 16 = .ok (.aload_n 0, 1) := by decide +kernel
theorem dX6_much_17 : decode cX6_much 17 = .ok (.invokevirtual 91, 3) := by decide +kernel
theorem dX6_much_20 : decode cX6_much 20 = .ok (.aload_n 0, 1) := by decide +kernel
theorem dX6_much_21 : decode cX6_much 21 = .ok (.iload_n 1, 1) := by decide +kernel
theorem dX6_much_22 : decode cX6_much 22 = .ok (.iload_n 3, 1) := by decide +kernel
theorem dX6_much_23 : decode cX6_much 23 = .ok (.isub, 1) := by decide +kernel
theorem dX6_much_24 : decode cX6_much 24 = .ok (.invokevirtual 88, 3) := by decide +kernel
theorem dX6_much_27 : decode cX6_much 27 = .ok (.return_, 1) := by decide +kernel
theorem dX6_clauseHere_0 : decode cX6_clauseHere 0 = .ok (.aload_n 0, 1) := by decide +kernel
theorem dX6_clauseHere_1 : decode cX6_clauseHere 1 = .ok (.invokevirtual 63, 3) := by decide +kernel
theorem dX6_clauseHere_4 : decode cX6_clauseHere 4 = .ok (.lookupswitch 94 #[(103, 36), (104, 47), (110, 59)], 36) := by decide +kernel
theorem dX6_clauseHere_40 : decode cX6_clauseHere 40 = .ok (.aload_n 0, 1) := by decide +kernel
theorem dX6_clauseHere_41 : decode cX6_clauseHere 41 = .ok (.bipush (-10), 2) := by decide +kernel
theorem dX6_clauseHere_43 : decode cX6_clauseHere 43 = .ok (.ldc 112, 2) := by decide +kernel
theorem dX6_clauseHere_45 : decode cX6_clauseHere 45 = .ok (.invokevirtual 114, 3) := by decide +kernel
theorem dX6_clauseHere_48 : decode cX6_clauseHere 48 = .ok (.goto 55, 3) := by decide +kernel
theorem dX6_clauseHere_51 : decode cX6_clauseHere 51 = .ok (.aload_n 0, 1) := by decide +kernel
theorem dX6_clauseHere_52 : decode cX6_clauseHere 52 = .ok (.sipush (-200), 3) := by decide +kernel
theorem dX6_clauseHere_55 : decode cX6_clauseHere 55 = .ok (.ldc 118, 2) := by decide +kernel
theorem dX6_clauseHere_57 : decode cX6_clauseHere 57 = .ok (.invokevirtual 114, 3) := by decide +kernel
theorem dX6_clauseHere_60 : decode cX6_clauseHere 60 = .ok (.goto 43, 3) := by decide +kernel
theorem dX6_clauseHere_63 : decode cX6_clauseHere 63 = .ok (.aload_n 0, 1) := by decide +kernel
theorem dX6_clauseHere_64 : decode cX6_clauseHere 64 = .ok (.ldc 120, 2) := by decide +kernel
theorem dX6_clauseHere_66 : decode cX6_clauseHere 66 = .ok (.invokevirtual 108, 3) := by decide +kernel
theorem dX6_clauseHere_69 : decode cX6_clauseHere 69 = .ok (.aload_n 0, 1) := by decide +kernel
theorem dX6_clauseHere_70 : decode cX6_clauseHere 70 = .ok (.invokevirtual 102, 3) := by decide +kernel
theorem dX6_clauseHere_73 : decode cX6_clauseHere 73 = .ok (.istore_n 1, 1) := by decide +kernel
theorem dX6_clauseHere_74 : decode cX6_clauseHere 74 = .ok (.aload_n 0, 1) := by decide +kernel
theorem dX6_clauseHere_75 : decode cX6_clauseHere 75 = .ok (.getfield 59, 3) := by decide +kernel
theorem dX6_clauseHere_78 : decode cX6_clauseHere 78 = .ok (.ifCond .ne 25, 3) := by decide +kernel
theorem dX6_clauseHere_81 : decode cX6_clauseHere 81 = .ok (.aload_n 0, 1) := by decide +kernel
theorem dX6_clauseHere_82 : decode cX6_clauseHere 82 = .ok (.getfield 7, 3) := by decide +kernel
theorem dX6_clauseHere_85 : decode cX6_clauseHere 85 = .ok (.sipush 136, 3) := by decide +kernel
theorem dX6_clauseHere_88 : decode cX6_clauseHere 88 = .ok (.aload_n 0, 1) := by decide +kernel
theorem dX6_clauseHere_89 : decode cX6_clauseHere 89 = .ok (.getfield 79, 3) := by decide +kernel
theorem dX6_clauseHere_92 : decode cX6_clauseHere 92 = .ok (.iadd, 1) := by decide +kernel
theorem dX6_clauseHere_93 : decode cX6_clauseHere 93 = .ok (.iload_n 1, 1) := by decide +kernel
theorem dX6_clauseHere_94 : decode cX6_clauseHere 94 = .ok (.iastore, 1) := by decide +kernel
theorem dX6_clauseHere_95 : decode cX6_clauseHere 95 = .ok (.goto 8, 3) := by decide +kernel
theorem dX6_clauseHere_98 : decode cX6_clauseHere 98 = .ok (.aload_n 0, 1) := by decide +kernel
theorem dX6_clauseHere_99 : decode cX6_clauseHere 99 = .ok (.iconst 1, 1) := by decide +kernel
theorem dX6_clauseHere_100 : decode cX6_clauseHere 100 = .ok (.putfield 59, 3) := by decide +kernel
theorem dX6_clauseHere_103 : decode cX6_clauseHere 103 = .ok (.return_, 1) := by decide +kernel
theorem dX6_town_0 : decode cX6_town 0 = .ok (.aload_n 0, 1) := by decide +kernel
theorem dX6_town_1 : decode cX6_town 1 = .ok (.getfield 7, 3) := by decide +kernel
theorem dX6_town_4 : decode cX6_town 4 = .ok (.iconst 1, 1) := by decide +kernel
theorem dX6_town_5 : decode cX6_town 5 = .ok (.iaload, 1) := by decide +kernel
theorem dX6_town_6 : decode cX6_town 6 = .ok (.iconst 5, 1) := by decide +kernel
theorem dX6_town_7 : decode cX6_town 7 = .ok (.if_icmp .ne 6, 3) := by decide +kernel
theorem dX6_town_10 : decode cX6_town 10 = .ok (.bipush (-4), 2) := by decide +kernel
theorem dX6_town_12 : decode cX6_town 12 = .ok (.ireturn, 1) := by decide +kernel
theorem dX6_town_13 : decode cX6_town 13 = .ok (.aload_n 0, 1) := by decide +kernel
theorem dX6_town_14 : decode cX6_town 14 = .ok (.aload_n 0, 1) := by decide +kernel
theorem dX6_town_15 : decode cX6_town 15 = .ok (.getfield 7, 3) := by decide +kernel
theorem dX6_town_18 : decode cX6_town 18 = .ok (.iconst 1, 1) := by decide +kernel
theorem dX6_town_19 : decode cX6_town 19 = .ok (.iaload, 1) := by decide +kernel
theorem dX6_town_20 : decode cX6_town 20 = .ok (.putfield 79, 3) := by decide +kernel
theorem dX6_town_23 : decode cX6_town 23 = .ok (.aload_n 0, 1) := by decide +kernel
theorem dX6_town_24 : decode cX6_town 24 = .ok (.aload_n 0, 1) := by decide +kernel
theorem dX6_town_25 : decode cX6_town 25 = .ok (.getfield 7, 3) := by decide +kernel
theorem dX6_town_28 : decode cX6_town 28 = .ok (.iconst 3, 1) := by decide +kernel
theorem dX6_town_29 : decode cX6_town 29 = .ok (.iaload, 1) := by decide +kernel
theorem dX6_town_30 : decode cX6_town 30 = .ok (.putfield 56, 3) := by decide +kernel
theorem dX6_town_33 : decode cX6_town 33 = .ok (.aload_n 0, 1) := by decide +kernel
theorem dX6_town_34 : decode cX6_town 34 = .ok (.getfield 7, 3) := by decide +kernel
theorem dX6_town_37 : decode cX6_town 37 = .ok (.iconst 3, 1) := by decide +kernel
theorem dX6_town_38 : decode cX6_town 38 = .ok (.iconst 0, 1) := by decide +kernel
theorem dX6_town_39 : decode cX6_town 39 = .ok (.iastore, 1) := by decide +kernel
theorem dX6_town_40 : decode cX6_town 40 = .ok (.aload_n 0, 1) := by decide +kernel
theorem dX6_town_41 : decode cX6_town 41 = .ok (.getfield 7, 3) := by decide +kernel
theorem dX6_town_44 : decode cX6_town 44 = .ok (.sipush 136, 3) := by decide +kernel
theorem dX6_town_47 : decode cX6_town 47 = .ok (.aload_n 0, 1) := by decide +kernel
theorem dX6_town_48 : decode cX6_town 48 = .ok (.getfield 79, 3) := by decide +kernel
theorem dX6_town_51 : decode cX6_town 51 = .ok (.iadd, 1) := by decide +kernel
theorem dX6_town_52 : decode cX6_town 52 = .ok (.iconst 0, 1) := by decide +kernel
theorem dX6_town_53 : decode cX6_town 53 = .ok (.iastore, 1) := by decide +kernel
theorem dX6_town_54 : decode cX6_town 54 = .ok (.aload_n 0, 1) := by decide +kernel
theorem dX6_town_55 : decode cX6_town 55 = .ok (.getfield 7, 3) := by decide +kernel
theorem dX6_town_58 : decode cX6_town 58 = .ok (.sipush 141, 3) := by decide +kernel
theorem dX6_town_61 : decode cX6_town 61 = .ok (.aload_n 0, 1) := by decide +kernel
theorem dX6_town_62 : decode cX6_town 62 = .ok (.getfield 79, 3) := by decide +kernel
theorem dX6_town_65 : decode cX6_town 65 = .ok (.iadd, 1) := by decide +kernel
theorem dX6_town_66 : decode cX6_town 66 = .ok (.iconst 0, 1) := by decide +kernel
theorem dX6_town_67 : decode cX6_town 67 = .ok (.iastore, 1) := by decide +kernel
theorem dX6_town_68 : decode cX6_town 68 = .ok (.aload_n 0, 1) := by decide +kernel
theorem dX6_town_69 : decode cX6_town 69 = .ok (.iconst 0, 1) := by decide +kernel
theorem dX6_town_70 : decode cX6_town 70 = .ok (.putfield 53, 3) := by decide +kernel
theorem dX6_town_73 : decode cX6_town 73 = .ok (.aload_n 0, 1) := by decide +kernel
theorem dX6_town_74 : decode cX6_town 74 = .ok (.iconst 0, 1) := by decide +kernel
theorem dX6_town_75 : decode cX6_town 75 = .ok (.putfield 59, 3) := by decide +kernel
theorem dX6_town_78 : decode cX6_town 78 = .ok (.aload_n 0, 1) := by decide +kernel
theorem dX6_town_79 : decode cX6_town 79 = .ok (.iconst 0, 1) := by decide +kernel
theorem dX6_town_80 : decode cX6_town 80 = .ok (.putfield 82, 3) := by decide +kernel
theorem dX6_town_83 : decode cX6_town 83 = .ok (.iconst 1, 1) := by decide +kernel
theorem dX6_town_84 : decode cX6_town 84 = .ok (.istore_n 1, 1) := by decide +kernel
theorem dX6_town_85 : decode cX6_town 85 = .ok (.aload_n 0, 1) := by decide +kernel
theorem dX6_town_86 : decode cX6_town 86 = .ok (.invokevirtual 122, 3) := by decide +kernel
theorem dX6_town_89 : decode cX6_town 89 = .ok (.aload_n 0, 1) := by decide +kernel
theorem dX6_town_90 : decode cX6_town 90 = .ok (.getfield 59, 3) := by decide +kernel
theorem dX6_town_93 : decode cX6_town 93 = .ok (.ifCond .ne 38, 3) := by decide +kernel
theorem dX6_town_96 : decode cX6_town 96 = .ok (.iload_n 1, 1) := by decide +kernel
theorem dX6_town_97 : decode cX6_town 97 = .ok (.bipush 8, 2) := by decide +kernel
theorem dX6_town_99 : decode cX6_town 99 = .ok (.if_icmp .ge 32, 3) := by decide +kernel
theorem dX6_town_102 : decode cX6_town 102 = .ok (.aload_n 0, 1) := by decide +kernel
theorem dX6_town_103 : decode cX6_town 103 = .ok (.invokevirtual 63, 3) := by decide +kernel
theorem dX6_town_106 : decode cX6_town 106 = .ok (.bipush 59, 2) := by decide +kernel
theorem dX6_town_108 : decode cX6_town 108 = .ok (.if_icmp .ne 23, 3) := by decide +kernel
theorem dX6_town_111 : decode cX6_town 111 = .ok (.aload_n 0, 1) := by decide +kernel
theorem dX6_town_112 : decode cX6_town 112 = .ok (.dup, 1) := by decide +kernel
theorem dX6_town_113 : decode cX6_town 113 = .ok (.getfield 53, 3) := by decide +kernel
theorem dX6_town_116 : decode cX6_town 116 = .ok (.iconst 1, 1) := by decide +kernel
theorem dX6_town_117 : decode cX6_town 117 = .ok (.iadd, 1) := by decide +kernel
theorem dX6_town_118 : decode cX6_town 118 = .ok (.putfield 53, 3) := by decide +kernel
theorem dX6_town_121 : decode cX6_town 121 = .ok (.aload_n 0, 1) := by decide +kernel
theorem dX6_town_122 : decode cX6_town 122 = .ok (.invokevirtual 122, 3) := by decide +kernel
theorem dX6_town_125 : decode cX6_town 125 = .ok (.iinc 1 1, 3) := by decide +kernel
theorem dX6_town_128 : decode cX6_town 128 = .ok (.goto (-39), 3) := by decide +kernel
theorem dX6_town_131 : decode cX6_town 131 = .ok (.aload_n 0, 1) := by decide +kernel
theorem dX6_town_132 : decode cX6_town 132 = .ok (.getfield 59, 3) := by decide +kernel
theorem dX6_town_135 : decode cX6_town 135 = .ok (.ifCond .ne 14, 3) := by decide +kernel
theorem dX6_town_138 : decode cX6_town 138 = .ok (.aload_n 0, 1) := by decide +kernel
theorem dX6_town_139 : decode cX6_town 139 = .ok (.getfield 53, 3) := by decide +kernel
theorem dX6_town_142 : decode cX6_town 142 = .ok (.aload_n 0, 1) := by decide +kernel
theorem dX6_town_143 : decode cX6_town 143 = .ok (.getfield 56, 3) := by decide +kernel
theorem dX6_town_146 : decode cX6_town 146 = .ok (.if_icmp .eq 11, 3) := by decide +kernel
theorem dX6_town_149 : decode cX6_town 149 = .ok (.bipush (-10), 2) := by decide +kernel
theorem dX6_town_151 : decode cX6_town 151 = .ok (.aload_n 0, 1) := by decide +kernel
theorem dX6_town_152 : decode cX6_town 152 = .ok (.getfield 53, 3) := by decide +kernel
theorem dX6_town_155 : decode cX6_town 155 = .ok (.isub, 1) := by decide +kernel
theorem dX6_town_156 : decode cX6_town 156 = .ok (.ireturn, 1) := by decide +kernel
theorem dX6_town_157 : decode cX6_town 157 = .ok (.aload_n 0, 1) := by decide +kernel
theorem dX6_town_158 : decode cX6_town 158 = .ok (.getfield 7, 3) := by decide +kernel
theorem dX6_town_161 : decode cX6_town 161 = .ok (.iconst 1, 1) := by decide +kernel
theorem dX6_town_162 : decode cX6_town 162 = .ok (.dup2, 1) := by decide +kernel
theorem dX6_town_163 : decode cX6_town 163 = .ok (.iaload, 1) := by decide +kernel
theorem dX6_town_164 : decode cX6_town 164 = .ok (.iconst 1, 1) := by decide +kernel
theorem dX6_town_165 : decode cX6_town 165 = .ok (.iadd, 1) := by decide +kernel
theorem dX6_town_166 : decode cX6_town 166 = .ok (.iastore, 1) := by decide +kernel
theorem dX6_town_167 : decode cX6_town 167 = .ok (.aload_n 0, 1) := by decide +kernel
theorem dX6_town_168 : decode cX6_town 168 = .ok (.getfield 7, 3) := by decide +kernel
theorem dX6_town_171 : decode cX6_town 171 = .ok (.iconst 4, 1) := by decide +kernel
theorem dX6_town_172 : decode cX6_town 172 = .ok (.aload_n 0, 1) := by decide +kernel
theorem dX6_town_173 : decode cX6_town 173 = .ok (.getfield 79, 3) := by decide +kernel
theorem dX6_town_176 : decode cX6_town 176 = .ok (.iastore, 1) := by decide +kernel
theorem dX6_town_177 : decode cX6_town 177 = .ok (.aload_n 0, 1) := by decide +kernel
theorem dX6_town_178 : decode cX6_town 178 = .ok (.getfield 79, 3) := by decide +kernel
theorem dX6_town_181 : decode cX6_town 181 = .ok (.ireturn, 1) := by decide +kernel
theorem dX6_tellsOf_0 : decode cX6_tellsOf 0 = .ok (.aload_n 0, 1) := by decide +kernel
theorem dX6_tellsOf_1 : decode cX6_tellsOf 1 = .ok (.getfield 7, 3) := by decide +kernel
theorem dX6_tellsOf_4 : decode cX6_tellsOf 4 = .ok (.iconst 4, 1) := by decide +kernel
theorem dX6_tellsOf_5 : decode cX6_tellsOf 5 = .ok (.iaload, 1) := by decide +kernel
theorem dX6_tellsOf_6 : decode cX6_tellsOf 6 = .ok (.iconst (-1), 1) := by decide +kernel
theorem dX6_tellsOf_7 : decode cX6_tellsOf 7 = .ok (.if_icmp .ne 7, 3) := by decide +kernel
theorem dX6_tellsOf_10 : decode cX6_tellsOf 10 = .ok (.iconst 0, 1) := by decide +kernel
theorem dX6_tellsOf_11 : decode cX6_tellsOf 11 = .ok (.goto 16, 3) := by decide +kernel
theorem dX6_tellsOf_14 : decode cX6_tellsOf 14 = .ok (.aload_n 0, 1) := by decide +kernel
theorem dX6_tellsOf_15 : decode cX6_tellsOf 15 = .ok (.getfield 7, 3) := by decide +kernel
theorem dX6_tellsOf_18 : decode cX6_tellsOf 18 = .ok (.iload_n 1, 1) := by decide +kernel
theorem dX6_tellsOf_19 : decode cX6_tellsOf 19 = .ok (.aload_n 0, 1) := by decide +kernel
theorem dX6_tellsOf_20 : decode cX6_tellsOf 20 = .ok (.getfield 7, 3) := by decide +kernel
theorem dX6_tellsOf_23 : decode cX6_tellsOf 23 = .ok (.iconst 4, 1) := by decide +kernel
theorem dX6_tellsOf_24 : decode cX6_tellsOf 24 = .ok (.iaload, 1) := by decide +kernel
theorem dX6_tellsOf_25 : decode cX6_tellsOf 25 = .ok (.iadd, 1) := by decide +kernel
theorem dX6_tellsOf_26 : decode cX6_tellsOf 26 = .ok (.iaload, 1) := by decide +kernel
theorem dX6_tellsOf_27 : decode cX6_tellsOf 27 = .ok (.ireturn, 1) := by decide +kernel
theorem dX6_worthBy_0 : decode cX6_worthBy 0 = .ok (.iconst 0, 1) := by decide +kernel
theorem dX6_worthBy_1 : decode cX6_worthBy 1 = .ok (.istore_n 1, 1) := by decide +kernel
theorem dX6_worthBy_2 : decode cX6_worthBy 2 = .ok (.aload_n 0, 1) := by decide +kernel
theorem dX6_worthBy_3 : decode cX6_worthBy 3 = .ok (.sipush 141, 3) := by decide +kernel
theorem dX6_worthBy_6 : decode cX6_worthBy 6 = .ok (.invokevirtual 125, 3) := by decide +kernel
theorem dX6_worthBy_9 : decode cX6_worthBy 9 = .ok (.istore_n 2, 1) := by decide +kernel
theorem dX6_worthBy_10 : decode cX6_worthBy 10 = .ok (.sipush 146, 3) := by decide +kernel
theorem dX6_worthBy_13 : decode cX6_worthBy 13 = .ok (.sipush 140, 3) := by decide +kernel
theorem dX6_worthBy_16 : decode cX6_worthBy 16 = .ok (.aload_n 0, 1) := by decide +kernel
theorem dX6_worthBy_17 : decode cX6_worthBy 17 = .ok (.getfield 7, 3) := by decide +kernel
theorem dX6_worthBy_20 : decode cX6_worthBy 20 = .ok (.iconst 4, 1) := by decide +kernel
theorem dX6_worthBy_21 : decode cX6_worthBy 21 = .ok (.iaload, 1) := by decide +kernel
theorem dX6_worthBy_22 : decode cX6_worthBy 22 = .ok (.imul, 1) := by decide +kernel
theorem dX6_worthBy_23 : decode cX6_worthBy 23 = .ok (.iadd, 1) := by decide +kernel
theorem dX6_worthBy_24 : decode cX6_worthBy 24 = .ok (.istore_n 3, 1) := by decide +kernel
theorem dX6_worthBy_25 : decode cX6_worthBy 25 = .ok (.iconst 0, 1) := by decide +kernel
theorem dX6_worthBy_26 : decode cX6_worthBy 26 = .ok (.istore 4, 2) := by decide +kernel
theorem dX6_worthBy_28 : decode cX6_worthBy 28 = .ok (.iload_n 3, 1) := by decide +kernel
theorem dX6_worthBy_29 : decode cX6_worthBy 29 = .ok (.istore 5, 2) := by decide +kernel
theorem dX6_worthBy_31 : decode cX6_worthBy 31 = .ok (.iload 5, 2) := by decide +kernel
theorem dX6_worthBy_33 : decode cX6_worthBy 33 = .ok (.iload_n 3, 1) := by decide +kernel
theorem dX6_worthBy_34 : decode cX6_worthBy 34 = .ok (.iload_n 2, 1) := by decide +kernel
theorem dX6_worthBy_35 : decode cX6_worthBy 35 = .ok (.iadd, 1) := by decide +kernel
theorem dX6_worthBy_36 : decode cX6_worthBy 36 = .ok (.if_icmp .ge 279, 3) := by decide +kernel
theorem dX6_worthBy_39 : decode cX6_worthBy 39 = .ok (.aload_n 0, 1) := by decide +kernel
theorem dX6_worthBy_40 : decode cX6_worthBy 40 = .ok (.getfield 7, 3) := by decide +kernel
theorem dX6_worthBy_43 : decode cX6_worthBy 43 = .ok (.iload 5, 2) := by decide +kernel
theorem dX6_worthBy_45 : decode cX6_worthBy 45 = .ok (.iaload, 1) := by decide +kernel
theorem dX6_worthBy_46 : decode cX6_worthBy 46 = .ok (.istore 6, 2) := by decide +kernel
theorem dX6_worthBy_48 : decode cX6_worthBy 48 = .ok (.iload 6, 2) := by decide +kernel
theorem dX6_worthBy_50 : decode cX6_worthBy 50 = .ok (.ifCond .lt 97, 3) := by decide +kernel
theorem dX6_worthBy_53 : decode cX6_worthBy 53 = .ok (.aload_n 0, 1) := by decide +kernel
theorem dX6_worthBy_54 : decode cX6_worthBy 54 = .ok (.getfield 16, 3) := by decide +kernel
theorem dX6_worthBy_57 : decode cX6_worthBy 57 = .ok (.iload 6, 2) := by decide +kernel
theorem dX6_worthBy_59 : decode cX6_worthBy 59 = .ok (.bipush 8, 2) := by decide +kernel
theorem dX6_worthBy_61 : decode cX6_worthBy 61 = .ok (.irem, 1) := by decide +kernel
theorem dX6_worthBy_62 : decode cX6_worthBy 62 = .ok (.iaload, 1) := by decide +kernel
theorem dX6_worthBy_63 : decode cX6_worthBy 63 = .ok (.istore 7, 2) := by decide +kernel
theorem dX6_worthBy_65 : decode cX6_worthBy 65 = .ok (.iload 6, 2) := by decide +kernel
theorem dX6_worthBy_67 : decode cX6_worthBy 67 = .ok (.bipush 8, 2) := by decide +kernel
theorem dX6_worthBy_69 : decode cX6_worthBy 69 = .ok (.idiv, 1) := by decide +kernel
theorem dX6_worthBy_70 : decode cX6_worthBy 70 = .ok (.iconst 4, 1) := by decide +kernel
theorem dX6_worthBy_71 : decode cX6_worthBy 71 = .ok (.irem, 1) := by decide +kernel
theorem dX6_worthBy_72 : decode cX6_worthBy 72 = .ok (.istore 8, 2) := by decide +kernel
theorem dX6_worthBy_74 : decode cX6_worthBy 74 = .ok (.iload 6, 2) := by decide +kernel
theorem dX6_worthBy_76 : decode cX6_worthBy 76 = .ok (.bipush 32, 2) := by decide +kernel
theorem dX6_worthBy_78 : decode cX6_worthBy 78 = .ok (.idiv, 1) := by decide +kernel
theorem dX6_worthBy_79 : decode cX6_worthBy 79 = .ok (.istore 9, 2) := by decide +kernel
theorem dX6_worthBy_81 : decode cX6_worthBy 81 = .ok (.aload_n 0, 1) := by decide +kernel
theorem dX6_worthBy_82 : decode cX6_worthBy 82 = .ok (.getfield 19, 3) := by decide +kernel
theorem dX6_worthBy_85 : decode cX6_worthBy 85 = .ok (.iload 4, 2) := by decide +kernel
theorem dX6_worthBy_87 : decode cX6_worthBy 87 = .ok (.iload 8, 2) := by decide +kernel
theorem dX6_worthBy_89 : decode cX6_worthBy 89 = .ok (.ifCond .ne 18, 3) := by decide +kernel
theorem dX6_worthBy_92 : decode cX6_worthBy 92 = .ok (.iload 7, 2) := by decide +kernel
theorem dX6_worthBy_94 : decode cX6_worthBy 94 = .ok (.iload 9, 2) := by decide +kernel
theorem dX6_worthBy_96 : decode cX6_worthBy 96 = .ok (.if_icmp .ge 7, 3) := by decide +kernel
theorem dX6_worthBy_99 : decode cX6_worthBy 99 = .ok (.iconst 1, 1) := by decide +kernel
theorem dX6_worthBy_100 : decode cX6_worthBy 100 = .ok (.goto 40, 3) := by decide +kernel
theorem dX6_worthBy_103 : decode cX6_worthBy 103 = .ok (.iconst 0, 1) := by decide +kernel
theorem dX6_worthBy_104 : decode cX6_worthBy 104 = .ok (.goto 36, 3) := by decide +kernel
theorem dX6_worthBy_107 : decode cX6_worthBy 107 = .ok (.iload 8, 2) := by decide +kernel
theorem dX6_worthBy_109 : decode cX6_worthBy 109 = .ok (.iconst 1, 1) := by decide +kernel
theorem dX6_worthBy_110 : decode cX6_worthBy 110 = .ok (.if_icmp .ne 18, 3) := by decide +kernel
theorem dX6_worthBy_113 : decode cX6_worthBy 113 = .ok (.iload 7, 2) := by decide +kernel
theorem dX6_worthBy_115 : decode cX6_worthBy 115 = .ok (.iload 9, 2) := by decide +kernel
theorem dX6_worthBy_117 : decode cX6_worthBy 117 = .ok (.if_icmp .ne 7, 3) := by decide +kernel
theorem dX6_worthBy_120 : decode cX6_worthBy 120 = .ok (.iconst 1, 1) := by decide +kernel
theorem dX6_worthBy_121 : decode cX6_worthBy 121 = .ok (.goto 19, 3) := by decide +kernel
theorem dX6_worthBy_124 : decode cX6_worthBy 124 = .ok (.iconst 0, 1) := by decide +kernel
theorem dX6_worthBy_125 : decode cX6_worthBy 125 = .ok (.goto 15, 3) := by decide +kernel
theorem dX6_worthBy_128 : decode cX6_worthBy 128 = .ok (.iload 7, 2) := by decide +kernel
theorem dX6_worthBy_130 : decode cX6_worthBy 130 = .ok (.iload 9, 2) := by decide +kernel
theorem dX6_worthBy_132 : decode cX6_worthBy 132 = .ok (.if_icmp .le 7, 3) := by decide +kernel
theorem dX6_worthBy_135 : decode cX6_worthBy 135 = .ok (.iconst 1, 1) := by decide +kernel
theorem dX6_worthBy_136 : decode cX6_worthBy 136 = .ok (.goto 4, 3) := by decide +kernel
theorem dX6_worthBy_139 : decode cX6_worthBy 139 = .ok (.iconst 0, 1) := by decide +kernel
theorem dX6_worthBy_140 : decode cX6_worthBy 140 = .ok (.bastore, 1) := by decide +kernel
theorem dX6_worthBy_141 : decode cX6_worthBy 141 = .ok (.iinc 4 1, 3) := by decide +kernel
theorem dX6_worthBy_144 : decode cX6_worthBy 144 = .ok (.goto 165, 3) := by decide +kernel
theorem dX6_worthBy_147 : decode cX6_worthBy 147 = .ok (.iload 6, 2) := by decide +kernel
theorem dX6_worthBy_149 : decode cX6_worthBy 149 = .ok (.iconst (-1), 1) := by decide +kernel
theorem dX6_worthBy_150 : decode cX6_worthBy 150 = .ok (.if_icmp .ne 32, 3) := by decide +kernel
theorem dX6_worthBy_153 : decode cX6_worthBy 153 = .ok (.aload_n 0, 1) := by decide +kernel
theorem dX6_worthBy_154 : decode cX6_worthBy 154 = .ok (.getfield 19, 3) := by decide +kernel
theorem dX6_worthBy_157 : decode cX6_worthBy 157 = .ok (.iload 4, 2) := by decide +kernel
theorem dX6_worthBy_159 : decode cX6_worthBy 159 = .ok (.iconst 1, 1) := by decide +kernel
theorem dX6_worthBy_160 : decode cX6_worthBy 160 = .ok (.isub, 1) := by decide +kernel
theorem dX6_worthBy_161 : decode cX6_worthBy 161 = .ok (.aload_n 0, 1) := by decide +kernel
theorem dX6_worthBy_162 : decode cX6_worthBy 162 = .ok (.getfield 19, 3) := by decide +kernel
theorem dX6_worthBy_165 : decode cX6_worthBy 165 = .ok (.iload 4, 2) := by decide +kernel
theorem dX6_worthBy_167 : decode cX6_worthBy 167 = .ok (.iconst 1, 1) := by decide +kernel
theorem dX6_worthBy_168 : decode cX6_worthBy 168 = .ok (.isub, 1) := by decide +kernel
theorem dX6_worthBy_169 : decode cX6_worthBy 169 = .ok (.baload, 1) := by decide +kernel
theorem dX6_worthBy_170 : decode cX6_worthBy 170 = .ok (.ifCond .ne 7, 3) := by decide +kernel
theorem dX6_worthBy_173 : decode cX6_worthBy 173 = .ok (.iconst 1, 1) := by decide +kernel
theorem dX6_worthBy_174 : decode cX6_worthBy 174 = .ok (.goto 4, 3) := by decide +kernel
theorem dX6_worthBy_177 : decode cX6_worthBy 177 = .ok (.iconst 0, 1) := by decide +kernel
theorem dX6_worthBy_178 : decode cX6_worthBy 178 = .ok (.bastore, 1) := by decide +kernel
theorem dX6_worthBy_179 : decode cX6_worthBy 179 = .ok (.goto 130, 3) := by decide +kernel
theorem dX6_worthBy_182 : decode cX6_worthBy 182 = .ok (.iload 6, 2) := by decide +kernel
theorem dX6_worthBy_184 : decode cX6_worthBy 184 = .ok (.bipush (-10), 2) := by decide +kernel
theorem dX6_worthBy_186 : decode cX6_worthBy 186 = .ok (.if_icmp .le 82, 3) := by decide +kernel
theorem dX6_worthBy_189 : decode cX6_worthBy 189 = .ok (.iinc 4 (-1), 3) := by decide +kernel
theorem dX6_worthBy_192 : decode cX6_worthBy 192 = .ok (.aload_n 0, 1) := by decide +kernel
theorem dX6_worthBy_193 : decode cX6_worthBy 193 = .ok (.getfield 19, 3) := by decide +kernel
theorem dX6_worthBy_196 : decode cX6_worthBy 196 = .ok (.iload 4, 2) := by decide +kernel
theorem dX6_worthBy_198 : decode cX6_worthBy 198 = .ok (.iconst 1, 1) := by decide +kernel
theorem dX6_worthBy_199 : decode cX6_worthBy 199 = .ok (.isub, 1) := by decide +kernel
theorem dX6_worthBy_200 : decode cX6_worthBy 200 = .ok (.iload 6, 2) := by decide +kernel
theorem dX6_worthBy_202 : decode cX6_worthBy 202 = .ok (.bipush (-2), 2) := by decide +kernel
theorem dX6_worthBy_204 : decode cX6_worthBy 204 = .ok (.if_icmp .ne 33, 3) := by decide +kernel
theorem dX6_worthBy_207 : decode cX6_worthBy 207 = .ok (.aload_n 0, 1) := by decide +kernel
theorem dX6_worthBy_208 : decode cX6_worthBy 208 = .ok (.getfield 19, 3) := by decide +kernel
theorem dX6_worthBy_211 : decode cX6_worthBy 211 = .ok (.iload 4, 2) := by decide +kernel
theorem dX6_worthBy_213 : decode cX6_worthBy 213 = .ok (.iconst 1, 1) := by decide +kernel
theorem dX6_worthBy_214 : decode cX6_worthBy 214 = .ok (.isub, 1) := by decide +kernel
theorem dX6_worthBy_215 : decode cX6_worthBy 215 = .ok (.baload, 1) := by decide +kernel
theorem dX6_worthBy_216 : decode cX6_worthBy 216 = .ok (.ifCond .eq 17, 3) := by decide +kernel
theorem dX6_worthBy_219 : decode cX6_worthBy 219 = .ok (.aload_n 0, 1) := by decide +kernel
theorem dX6_worthBy_220 : decode cX6_worthBy 220 = .ok (.getfield 19, 3) := by decide +kernel
theorem dX6_worthBy_223 : decode cX6_worthBy 223 = .ok (.iload 4, 2) := by decide +kernel
theorem dX6_worthBy_225 : decode cX6_worthBy 225 = .ok (.baload, 1) := by decide +kernel
theorem dX6_worthBy_226 : decode cX6_worthBy 226 = .ok (.ifCond .eq 7, 3) := by decide +kernel
theorem dX6_worthBy_229 : decode cX6_worthBy 229 = .ok (.iconst 1, 1) := by decide +kernel
theorem dX6_worthBy_230 : decode cX6_worthBy 230 = .ok (.goto 34, 3) := by decide +kernel
theorem dX6_worthBy_233 : decode cX6_worthBy 233 = .ok (.iconst 0, 1) := by decide +kernel
theorem dX6_worthBy_234 : decode cX6_worthBy 234 = .ok (.goto 30, 3) := by decide +kernel
theorem dX6_worthBy_237 : decode cX6_worthBy 237 = .ok (.aload_n 0, 1) := by decide +kernel
theorem dX6_worthBy_238 : decode cX6_worthBy 238 = .ok (.getfield 19, 3) := by decide +kernel
theorem dX6_worthBy_241 : decode cX6_worthBy 241 = .ok (.iload 4, 2) := by decide +kernel
theorem dX6_worthBy_243 : decode cX6_worthBy 243 = .ok (.iconst 1, 1) := by decide +kernel
theorem dX6_worthBy_244 : decode cX6_worthBy 244 = .ok (.isub, 1) := by decide +kernel
theorem dX6_worthBy_245 : decode cX6_worthBy 245 = .ok (.baload, 1) := by decide +kernel
theorem dX6_worthBy_246 : decode cX6_worthBy 246 = .ok (.ifCond .ne 13, 3) := by decide +kernel
theorem dX6_worthBy_249 : decode cX6_worthBy 249 = .ok (.aload_n 0, 1) := by decide +kernel
theorem dX6_worthBy_250 : decode cX6_worthBy 250 = .ok (.getfield 19, 3) := by decide +kernel
theorem dX6_worthBy_253 : decode cX6_worthBy 253 = .ok (.iload 4, 2) := by decide +kernel
theorem dX6_worthBy_255 : decode cX6_worthBy 255 = .ok (.baload, 1) := by decide +kernel
theorem dX6_worthBy_256 : decode cX6_worthBy 256 = .ok (.ifCond .eq 7, 3) := by decide +kernel
theorem dX6_worthBy_259 : decode cX6_worthBy 259 = .ok (.iconst 1, 1) := by decide +kernel
theorem dX6_worthBy_260 : decode cX6_worthBy 260 = .ok (.goto 4, 3) := by decide +kernel
theorem dX6_worthBy_263 : decode cX6_worthBy 263 = .ok (.iconst 0, 1) := by decide +kernel
theorem dX6_worthBy_264 : decode cX6_worthBy 264 = .ok (.bastore, 1) := by decide +kernel
theorem dX6_worthBy_265 : decode cX6_worthBy 265 = .ok (.goto 44, 3) := by decide +kernel
theorem dX6_worthBy_268 : decode cX6_worthBy 268 = .ok (.iconst 0, 1) := by decide +kernel
theorem dX6_worthBy_269 : decode cX6_worthBy 269 = .ok (.istore 4, 2) := by decide +kernel
theorem dX6_worthBy_271 : decode cX6_worthBy 271 = .ok (.iload_n 1, 1) := by decide +kernel
theorem dX6_worthBy_272 : decode cX6_worthBy 272 = .ok (.aload_n 0, 1) := by decide +kernel
theorem dX6_worthBy_273 : decode cX6_worthBy 273 = .ok (.getfield 19, 3) := by decide +kernel
theorem dX6_worthBy_276 : decode cX6_worthBy 276 = .ok (.iconst 0, 1) := by decide +kernel
theorem dX6_worthBy_277 : decode cX6_worthBy 277 = .ok (.baload, 1) := by decide +kernel
theorem dX6_worthBy_278 : decode cX6_worthBy 278 = .ok (.ifCond .ne 7, 3) := by decide +kernel
theorem dX6_worthBy_281 : decode cX6_worthBy 281 = .ok (.iconst 0, 1) := by decide +kernel
theorem dX6_worthBy_282 : decode cX6_worthBy 282 = .ok (.goto 25, 3) := by decide +kernel
theorem dX6_worthBy_285 : decode cX6_worthBy 285 = .ok (.iload 6, 2) := by decide +kernel
theorem dX6_worthBy_287 : decode cX6_worthBy 287 = .ok (.sipush (-200), 3) := by decide +kernel
theorem dX6_worthBy_290 : decode cX6_worthBy 290 = .ok (.if_icmp .le 11, 3) := by decide +kernel
theorem dX6_worthBy_293 : decode cX6_worthBy 293 = .ok (.bipush (-10), 2) := by decide +kernel
theorem dX6_worthBy_295 : decode cX6_worthBy 295 = .ok (.iload 6, 2) := by decide +kernel
theorem dX6_worthBy_297 : decode cX6_worthBy 297 = .ok (.isub, 1) := by decide +kernel
theorem dX6_worthBy_298 : decode cX6_worthBy 298 = .ok (.goto 9, 3) := by decide +kernel
theorem dX6_worthBy_301 : decode cX6_worthBy 301 = .ok (.iload 6, 2) := by decide +kernel
theorem dX6_worthBy_303 : decode cX6_worthBy 303 = .ok (.sipush (-200), 3) := by decide +kernel
theorem dX6_worthBy_306 : decode cX6_worthBy 306 = .ok (.isub, 1) := by decide +kernel
theorem dX6_worthBy_307 : decode cX6_worthBy 307 = .ok (.iadd, 1) := by decide +kernel
theorem dX6_worthBy_308 : decode cX6_worthBy 308 = .ok (.istore_n 1, 1) := by decide +kernel
theorem dX6_worthBy_309 : decode cX6_worthBy 309 = .ok (.iinc 5 1, 3) := by decide +kernel
theorem dX6_worthBy_312 : decode cX6_worthBy 312 = .ok (.goto (-281), 3) := by decide +kernel
theorem dX6_worthBy_315 : decode cX6_worthBy 315 = .ok (.iload_n 1, 1) := by decide +kernel
theorem dX6_worthBy_316 : decode cX6_worthBy 316 = .ok (.ireturn, 1) := by decide +kernel
theorem dX6_looksAt_0 : decode cX6_looksAt 0 = .ok (.aload_n 0, 1) := by decide +kernel
theorem dX6_looksAt_1 : decode cX6_looksAt 1 = .ok (.getfield 16, 3) := by decide +kernel
theorem dX6_looksAt_4 : decode cX6_looksAt 4 = .ok (.iconst 1, 1) := by decide +kernel
theorem dX6_looksAt_5 : decode cX6_looksAt 5 = .ok (.iload_n 1, 1) := by decide +kernel
theorem dX6_looksAt_6 : decode cX6_looksAt 6 = .ok (.iastore, 1) := by decide +kernel
theorem dX6_looksAt_7 : decode cX6_looksAt 7 = .ok (.aload_n 0, 1) := by decide +kernel
theorem dX6_looksAt_8 : decode cX6_looksAt 8 = .ok (.getfield 16, 3) := by decide +kernel
theorem dX6_looksAt_11 : decode cX6_looksAt 11 = .ok (.iconst 5, 1) := by decide +kernel
theorem dX6_looksAt_12 : decode cX6_looksAt 12 = .ok (.aload_n 0, 1) := by decide +kernel
theorem dX6_looksAt_13 : decode cX6_looksAt 13 = .ok (.getfield 7, 3) := by decide +kernel
theorem dX6_looksAt_16 : decode cX6_looksAt 16 = .ok (.bipush 110, 2) := by decide +kernel
theorem dX6_looksAt_18 : decode cX6_looksAt 18 = .ok (.iload_n 1, 1) := by decide +kernel
theorem dX6_looksAt_19 : decode cX6_looksAt 19 = .ok (.iadd, 1) := by decide +kernel
theorem dX6_looksAt_20 : decode cX6_looksAt 20 = .ok (.iaload, 1) := by decide +kernel
theorem dX6_looksAt_21 : decode cX6_looksAt 21 = .ok (.iastore, 1) := by decide +kernel
theorem dX6_looksAt_22 : decode cX6_looksAt 22 = .ok (.iconst 0, 1) := by decide +kernel
theorem dX6_looksAt_23 : decode cX6_looksAt 23 = .ok (.istore_n 2, 1) := by decide +kernel
theorem dX6_looksAt_24 : decode cX6_looksAt 24 = .ok (.iload_n 2, 1) := by decide +kernel
theorem dX6_looksAt_25 : decode cX6_looksAt 25 = .ok (.bipush 96, 2) := by decide +kernel
theorem dX6_looksAt_27 : decode cX6_looksAt 27 = .ok (.if_icmp .ge 66, 3) := by decide +kernel
theorem dX6_looksAt_30 : decode cX6_looksAt 30 = .ok (.aload_n 0, 1) := by decide +kernel
theorem dX6_looksAt_31 : decode cX6_looksAt 31 = .ok (.getfield 16, 3) := by decide +kernel
theorem dX6_looksAt_34 : decode cX6_looksAt 34 = .ok (.iconst 0, 1) := by decide +kernel
theorem dX6_looksAt_35 : decode cX6_looksAt 35 = .ok (.iload_n 2, 1) := by decide +kernel
theorem dX6_looksAt_36 : decode cX6_looksAt 36 = .ok (.bipush 32, 2) := by decide +kernel
theorem dX6_looksAt_38 : decode cX6_looksAt 38 = .ok (.idiv, 1) := by decide +kernel
theorem dX6_looksAt_39 : decode cX6_looksAt 39 = .ok (.iastore, 1) := by decide +kernel
theorem dX6_looksAt_40 : decode cX6_looksAt 40 = .ok (.aload_n 0, 1) := by decide +kernel
theorem dX6_looksAt_41 : decode cX6_looksAt 41 = .ok (.getfield 16, 3) := by decide +kernel
theorem dX6_looksAt_44 : decode cX6_looksAt 44 = .ok (.iconst 2, 1) := by decide +kernel
theorem dX6_looksAt_45 : decode cX6_looksAt 45 = .ok (.iload_n 2, 1) := by decide +kernel
theorem dX6_looksAt_46 : decode cX6_looksAt 46 = .ok (.bipush 8, 2) := by decide +kernel
theorem dX6_looksAt_48 : decode cX6_looksAt 48 = .ok (.idiv, 1) := by decide +kernel
theorem dX6_looksAt_49 : decode cX6_looksAt 49 = .ok (.iconst 4, 1) := by decide +kernel
theorem dX6_looksAt_50 : decode cX6_looksAt 50 = .ok (.irem, 1) := by decide +kernel
theorem dX6_looksAt_51 : decode cX6_looksAt 51 = .ok (.iastore, 1) := by decide +kernel
theorem dX6_looksAt_52 : decode cX6_looksAt 52 = .ok (.aload_n 0, 1) := by decide +kernel
theorem dX6_looksAt_53 : decode cX6_looksAt 53 = .ok (.getfield 16, 3) := by decide +kernel
theorem dX6_looksAt_56 : decode cX6_looksAt 56 = .ok (.iconst 3, 1) := by decide +kernel
theorem dX6_looksAt_57 : decode cX6_looksAt 57 = .ok (.iload_n 2, 1) := by decide +kernel
theorem dX6_looksAt_58 : decode cX6_looksAt 58 = .ok (.iconst 2, 1) := by decide +kernel
theorem dX6_looksAt_59 : decode cX6_looksAt 59 = .ok (.idiv, 1) := by decide +kernel
theorem dX6_looksAt_60 : decode cX6_looksAt 60 = .ok (.iconst 4, 1) := by decide +kernel
theorem dX6_looksAt_61 : decode cX6_looksAt 61 = .ok (.irem, 1) := by decide +kernel
theorem dX6_looksAt_62 : decode cX6_looksAt 62 = .ok (.iastore, 1) := by decide +kernel
theorem dX6_looksAt_63 : decode cX6_looksAt 63 = .ok (.aload_n 0, 1) := by decide +kernel
theorem dX6_looksAt_64 : decode cX6_looksAt 64 = .ok (.getfield 16, 3) := by decide +kernel
theorem dX6_looksAt_67 : decode cX6_looksAt 67 = .ok (.iconst 4, 1) := by decide +kernel
theorem dX6_looksAt_68 : decode cX6_looksAt 68 = .ok (.iload_n 2, 1) := by decide +kernel
theorem dX6_looksAt_69 : decode cX6_looksAt 69 = .ok (.iconst 2, 1) := by decide +kernel
theorem dX6_looksAt_70 : decode cX6_looksAt 70 = .ok (.irem, 1) := by decide +kernel
theorem dX6_looksAt_71 : decode cX6_looksAt 71 = .ok (.iastore, 1) := by decide +kernel
theorem dX6_looksAt_72 : decode cX6_looksAt 72 = .ok (.aload_n 0, 1) := by decide +kernel
theorem dX6_looksAt_73 : decode cX6_looksAt 73 = .ok (.getfield 23, 3) := by decide +kernel
theorem dX6_looksAt_76 : decode cX6_looksAt 76 = .ok (.bipush 96, 2) := by decide +kernel
theorem dX6_looksAt_78 : decode cX6_looksAt 78 = .ok (.iload_n 1, 1) := by decide +kernel
theorem dX6_looksAt_79 : decode cX6_looksAt 79 = .ok (.imul, 1) := by decide +kernel
theorem dX6_looksAt_80 : decode cX6_looksAt 80 = .ok (.iload_n 2, 1) := by decide +kernel
theorem dX6_looksAt_81 : decode cX6_looksAt 81 = .ok (.iadd, 1) := by decide +kernel
theorem dX6_looksAt_82 : decode cX6_looksAt 82 = .ok (.aload_n 0, 1) := by decide +kernel
theorem dX6_looksAt_83 : decode cX6_looksAt 83 = .ok (.invokevirtual 129, 3) := by decide +kernel
theorem dX6_looksAt_86 : decode cX6_looksAt 86 = .ok (.iastore, 1) := by decide +kernel
theorem dX6_looksAt_87 : decode cX6_looksAt 87 = .ok (.iinc 2 1, 3) := by decide +kernel
theorem dX6_looksAt_90 : decode cX6_looksAt 90 = .ok (.goto (-66), 3) := by decide +kernel
theorem dX6_looksAt_93 : decode cX6_looksAt 93 = .ok (.return_, 1) := by decide +kernel
theorem dX6_looks_0 : decode cX6_looks 0 = .ok (.aload_n 0, 1) := by decide +kernel
theorem dX6_looks_1 : decode cX6_looks 1 = .ok (.dup, 1) := by decide +kernel
theorem dX6_looks_2 : decode cX6_looks 2 = .ok (.getfield 132, 3) := by decide +kernel
theorem dX6_looks_5 : decode cX6_looks 5 = .ok (.iconst 1, 1) := by decide +kernel
theorem dX6_looks_6 : decode cX6_looks 6 = .ok (.iadd, 1) := by decide +kernel
theorem dX6_looks_7 : decode cX6_looks 7 = .ok (.putfield 132, 3) := by decide +kernel
theorem dX6_looks_10 : decode cX6_looks 10 = .ok (.iconst 0, 1) := by decide +kernel
theorem dX6_looks_11 : decode cX6_looks 11 = .ok (.istore_n 1, 1) := by decide +kernel
theorem dX6_looks_12 : decode cX6_looks 12 = .ok (.iload_n 1, 1) := by decide +kernel
theorem dX6_looks_13 : decode cX6_looks 13 = .ok (.aload_n 0, 1) := by decide +kernel
theorem dX6_looks_14 : decode cX6_looks 14 = .ok (.getfield 7, 3) := by decide +kernel
theorem dX6_looks_17 : decode cX6_looks 17 = .ok (.iconst 0, 1) := by decide +kernel
theorem dX6_looks_18 : decode cX6_looks 18 = .ok (.iaload, 1) := by decide +kernel
theorem dX6_looks_19 : decode cX6_looks 19 = .ok (.if_icmp .ge 14, 3) := by decide +kernel
theorem dX6_looks_22 : decode cX6_looks 22 = .ok (.aload_n 0, 1) := by decide +kernel
theorem dX6_looks_23 : decode cX6_looks 23 = .ok (.iload_n 1, 1) := by decide +kernel
theorem dX6_looks_24 : decode cX6_looks 24 = .ok (.invokevirtual 135, 3) := by decide +kernel
theorem dX6_looks_27 : decode cX6_looks 27 = .ok (.iinc 1 1, 3) := by decide +kernel
theorem dX6_looks_30 : decode cX6_looks 30 = .ok (.goto (-18), 3) := by decide +kernel
theorem dX6_looks_33 : decode cX6_looks 33 = .ok (.return_, 1) := by decide +kernel
theorem dX6_others_0 : decode cX6_others 0 = .ok (.iconst 0, 1) := by decide +kernel
theorem dX6_others_1 : decode cX6_others 1 = .ok (.istore 4, 2) := by decide +kernel
theorem dX6_others_3 : decode cX6_others 3 = .ok (.iconst 0, 1) := by decide +kernel
theorem dX6_others_4 : decode cX6_others 4 = .ok (.istore 5, 2) := by decide +kernel
theorem dX6_others_6 : decode cX6_others 6 = .ok (.iload 5, 2) := by decide +kernel
theorem dX6_others_8 : decode cX6_others 8 = .ok (.aload_n 0, 1) := by decide +kernel
theorem dX6_others_9 : decode cX6_others 9 = .ok (.getfield 7, 3) := by decide +kernel
theorem dX6_others_12 : decode cX6_others 12 = .ok (.iconst 0, 1) := by decide +kernel
theorem dX6_others_13 : decode cX6_others 13 = .ok (.iaload, 1) := by decide +kernel
theorem dX6_others_14 : decode cX6_others 14 = .ok (.if_icmp .ge 35, 3) := by decide +kernel
theorem dX6_others_17 : decode cX6_others 17 = .ok (.iload 4, 2) := by decide +kernel
theorem dX6_others_19 : decode cX6_others 19 = .ok (.iload 5, 2) := by decide +kernel
theorem dX6_others_21 : decode cX6_others 21 = .ok (.iload_n 2, 1) := by decide +kernel
theorem dX6_others_22 : decode cX6_others 22 = .ok (.if_icmp .eq 17, 3) := by decide +kernel
theorem dX6_others_25 : decode cX6_others 25 = .ok (.iload_n 1, 1) := by decide +kernel
theorem dX6_others_26 : decode cX6_others 26 = .ok (.iload 5, 2) := by decide +kernel
theorem dX6_others_28 : decode cX6_others 28 = .ok (.iload_n 3, 1) := by decide +kernel
theorem dX6_others_29 : decode cX6_others 29 = .ok (.invokestatic 138, 3) := by decide +kernel
theorem dX6_others_32 : decode cX6_others 32 = .ok (.ifCond .eq 7, 3) := by decide +kernel
theorem dX6_others_35 : decode cX6_others 35 = .ok (.iconst 1, 1) := by decide +kernel
theorem dX6_others_36 : decode cX6_others 36 = .ok (.goto 4, 3) := by decide +kernel
theorem dX6_others_39 : decode cX6_others 39 = .ok (.iconst 0, 1) := by decide +kernel
theorem dX6_others_40 : decode cX6_others 40 = .ok (.iadd, 1) := by decide +kernel
theorem dX6_others_41 : decode cX6_others 41 = .ok (.istore 4, 2) := by decide +kernel
theorem dX6_others_43 : decode cX6_others 43 = .ok (.iinc 5 1, 3) := by decide +kernel
theorem dX6_others_46 : decode cX6_others 46 = .ok (.goto (-40), 3) := by decide +kernel
theorem dX6_others_49 : decode cX6_others 49 = .ok (.iload 4, 2) := by decide +kernel
theorem dX6_others_51 : decode cX6_others 51 = .ok (.ireturn, 1) := by decide +kernel
theorem dX6_worthOf_0 : decode cX6_worthOf 0 = .ok (.iload_n 3, 1) := by decide +kernel
theorem dX6_worthOf_1 : decode cX6_worthOf 1 = .ok (.ifCond .ne 7, 3) := by decide +kernel
theorem dX6_worthOf_4 : decode cX6_worthOf 4 = .ok (.iconst 0, 1) := by decide +kernel
theorem dX6_worthOf_5 : decode cX6_worthOf 5 = .ok (.goto 12, 3) := by decide +kernel
theorem dX6_worthOf_8 : decode cX6_worthOf 8 = .ok (.aload_n 0, 1) := by decide +kernel
theorem dX6_worthOf_9 : decode cX6_worthOf 9 = .ok (.iload_n 1, 1) := by decide +kernel
theorem dX6_worthOf_10 : decode cX6_worthOf 10 = .ok (.iload_n 2, 1) := by decide +kernel
theorem dX6_worthOf_11 : decode cX6_worthOf 11 = .ok (.iload_n 3, 1) := by decide +kernel
theorem dX6_worthOf_12 : decode cX6_worthOf 12 = .ok (.iconst 1, 1) := by decide +kernel
theorem dX6_worthOf_13 : decode cX6_worthOf 13 = .ok (.isub, 1) := by decide +kernel
theorem dX6_worthOf_14 : decode cX6_worthOf 14 = .ok (.invokevirtual 141, 3) := by decide +kernel
theorem dX6_worthOf_17 : decode cX6_worthOf 17 = .ok (.istore 4, 2) := by decide +kernel
theorem dX6_worthOf_19 : decode cX6_worthOf 19 = .ok (.iload_n 3, 1) := by decide +kernel
theorem dX6_worthOf_20 : decode cX6_worthOf 20 = .ok (.ifCond .ne 15, 3) := by decide +kernel
theorem dX6_worthOf_23 : decode cX6_worthOf 23 = .ok (.aload_n 0, 1) := by decide +kernel
theorem dX6_worthOf_24 : decode cX6_worthOf 24 = .ok (.getfield 7, 3) := by decide +kernel
theorem dX6_worthOf_27 : decode cX6_worthOf 27 = .ok (.bipush 122, 2) := by decide +kernel
theorem dX6_worthOf_29 : decode cX6_worthOf 29 = .ok (.iload_n 2, 1) := by decide +kernel
theorem dX6_worthOf_30 : decode cX6_worthOf 30 = .ok (.iadd, 1) := by decide +kernel
theorem dX6_worthOf_31 : decode cX6_worthOf 31 = .ok (.iaload, 1) := by decide +kernel
theorem dX6_worthOf_32 : decode cX6_worthOf 32 = .ok (.goto 19, 3) := by decide +kernel
theorem dX6_worthOf_35 : decode cX6_worthOf 35 = .ok (.iload_n 1, 1) := by decide +kernel
theorem dX6_worthOf_36 : decode cX6_worthOf 36 = .ok (.iload_n 2, 1) := by decide +kernel
theorem dX6_worthOf_37 : decode cX6_worthOf 37 = .ok (.iload_n 3, 1) := by decide +kernel
theorem dX6_worthOf_38 : decode cX6_worthOf 38 = .ok (.iconst 1, 1) := by decide +kernel
theorem dX6_worthOf_39 : decode cX6_worthOf 39 = .ok (.isub, 1) := by decide +kernel
theorem dX6_worthOf_40 : decode cX6_worthOf 40 = .ok (.invokestatic 138, 3) := by decide +kernel
theorem dX6_worthOf_43 : decode cX6_worthOf 43 = .ok (.ifCond .eq 7, 3) := by decide +kernel
theorem dX6_worthOf_46 : decode cX6_worthOf 46 = .ok (.iconst 1, 1) := by decide +kernel
theorem dX6_worthOf_47 : decode cX6_worthOf 47 = .ok (.goto 4, 3) := by decide +kernel
theorem dX6_worthOf_50 : decode cX6_worthOf 50 = .ok (.iconst 0, 1) := by decide +kernel
theorem dX6_worthOf_51 : decode cX6_worthOf 51 = .ok (.istore 5, 2) := by decide +kernel
theorem dX6_worthOf_53 : decode cX6_worthOf 53 = .ok (.aload_n 0, 1) := by decide +kernel
theorem dX6_worthOf_54 : decode cX6_worthOf 54 = .ok (.getfield 23, 3) := by decide +kernel
theorem dX6_worthOf_57 : decode cX6_worthOf 57 = .ok (.bipush 96, 2) := by decide +kernel
theorem dX6_worthOf_59 : decode cX6_worthOf 59 = .ok (.iload_n 2, 1) := by decide +kernel
theorem dX6_worthOf_60 : decode cX6_worthOf 60 = .ok (.imul, 1) := by decide +kernel
theorem dX6_worthOf_61 : decode cX6_worthOf 61 = .ok (.bipush 32, 2) := by decide +kernel
theorem dX6_worthOf_63 : decode cX6_worthOf 63 = .ok (.iload_n 3, 1) := by decide +kernel
theorem dX6_worthOf_64 : decode cX6_worthOf 64 = .ok (.imul, 1) := by decide +kernel
theorem dX6_worthOf_65 : decode cX6_worthOf 65 = .ok (.iadd, 1) := by decide +kernel
theorem dX6_worthOf_66 : decode cX6_worthOf 66 = .ok (.bipush 8, 2) := by decide +kernel
theorem dX6_worthOf_68 : decode cX6_worthOf 68 = .ok (.iload 4, 2) := by decide +kernel
theorem dX6_worthOf_70 : decode cX6_worthOf 70 = .ok (.imul, 1) := by decide +kernel
theorem dX6_worthOf_71 : decode cX6_worthOf 71 = .ok (.iadd, 1) := by decide +kernel
theorem dX6_worthOf_72 : decode cX6_worthOf 72 = .ok (.iconst 2, 1) := by decide +kernel
theorem dX6_worthOf_73 : decode cX6_worthOf 73 = .ok (.aload_n 0, 1) := by decide +kernel
theorem dX6_worthOf_74 : decode cX6_worthOf 74 = .ok (.iload_n 1, 1) := by decide +kernel
theorem dX6_worthOf_75 : decode cX6_worthOf 75 = .ok (.iload_n 2, 1) := by decide +kernel
theorem dX6_worthOf_76 : decode cX6_worthOf 76 = .ok (.iload_n 3, 1) := by decide +kernel
theorem dX6_worthOf_77 : decode cX6_worthOf 77 = .ok (.invokevirtual 141, 3) := by decide +kernel
theorem dX6_worthOf_80 : decode cX6_worthOf 80 = .ok (.imul, 1) := by decide +kernel
theorem dX6_worthOf_81 : decode cX6_worthOf 81 = .ok (.iadd, 1) := by decide +kernel
theorem dX6_worthOf_82 : decode cX6_worthOf 82 = .ok (.iload 5, 2) := by decide +kernel
theorem dX6_worthOf_84 : decode cX6_worthOf 84 = .ok (.iadd, 1) := by decide +kernel
theorem dX6_worthOf_85 : decode cX6_worthOf 85 = .ok (.iaload, 1) := by decide +kernel
theorem dX6_worthOf_86 : decode cX6_worthOf 86 = .ok (.ireturn, 1) := by decide +kernel
theorem dX6_gainOf_0 : decode cX6_gainOf 0 = .ok (.iconst 0, 1) := by decide +kernel
theorem dX6_gainOf_1 : decode cX6_gainOf 1 = .ok (.istore_n 3, 1) := by decide +kernel
theorem dX6_gainOf_2 : decode cX6_gainOf 2 = .ok (.iconst 0, 1) := by decide +kernel
theorem dX6_gainOf_3 : decode cX6_gainOf 3 = .ok (.istore 4, 2) := by decide +kernel
theorem dX6_gainOf_5 : decode cX6_gainOf 5 = .ok (.iload 4, 2) := by decide +kernel
theorem dX6_gainOf_7 : decode cX6_gainOf 7 = .ok (.iconst 3, 1) := by decide +kernel
theorem dX6_gainOf_8 : decode cX6_gainOf 8 = .ok (.if_icmp .ge 34, 3) := by decide +kernel
theorem dX6_gainOf_11 : decode cX6_gainOf 11 = .ok (.iload_n 3, 1) := by decide +kernel
theorem dX6_gainOf_12 : decode cX6_gainOf 12 = .ok (.iload_n 1, 1) := by decide +kernel
theorem dX6_gainOf_13 : decode cX6_gainOf 13 = .ok (.iload_n 2, 1) := by decide +kernel
theorem dX6_gainOf_14 : decode cX6_gainOf 14 = .ok (.iload 4, 2) := by decide +kernel
theorem dX6_gainOf_16 : decode cX6_gainOf 16 = .ok (.invokestatic 138, 3) := by decide +kernel
theorem dX6_gainOf_19 : decode cX6_gainOf 19 = .ok (.ifCond .eq 14, 3) := by decide +kernel
theorem dX6_gainOf_22 : decode cX6_gainOf 22 = .ok (.aload_n 0, 1) := by decide +kernel
theorem dX6_gainOf_23 : decode cX6_gainOf 23 = .ok (.iload_n 1, 1) := by decide +kernel
theorem dX6_gainOf_24 : decode cX6_gainOf 24 = .ok (.iload_n 2, 1) := by decide +kernel
theorem dX6_gainOf_25 : decode cX6_gainOf 25 = .ok (.iload 4, 2) := by decide +kernel
theorem dX6_gainOf_27 : decode cX6_gainOf 27 = .ok (.invokevirtual 145, 3) := by decide +kernel
theorem dX6_gainOf_30 : decode cX6_gainOf 30 = .ok (.goto 4, 3) := by decide +kernel
theorem dX6_gainOf_33 : decode cX6_gainOf 33 = .ok (.iconst 0, 1) := by decide +kernel
theorem dX6_gainOf_34 : decode cX6_gainOf 34 = .ok (.iadd, 1) := by decide +kernel
theorem dX6_gainOf_35 : decode cX6_gainOf 35 = .ok (.istore_n 3, 1) := by decide +kernel
theorem dX6_gainOf_36 : decode cX6_gainOf 36 = .ok (.iinc 4 1, 3) := by decide +kernel
theorem dX6_gainOf_39 : decode cX6_gainOf 39 = .ok (.goto (-34), 3) := by decide +kernel
theorem dX6_gainOf_42 : decode cX6_gainOf 42 = .ok (.iload_n 3, 1) := by decide +kernel
theorem dX6_gainOf_43 : decode cX6_gainOf 43 = .ok (.ireturn, 1) := by decide +kernel
theorem dX6_gainOfAll_0 : decode cX6_gainOfAll 0 = .ok (.iconst 0, 1) := by decide +kernel
theorem dX6_gainOfAll_1 : decode cX6_gainOfAll 1 = .ok (.istore_n 2, 1) := by decide +kernel
theorem dX6_gainOfAll_2 : decode cX6_gainOfAll 2 = .ok (.iconst 0, 1) := by decide +kernel
theorem dX6_gainOfAll_3 : decode cX6_gainOfAll 3 = .ok (.istore_n 3, 1) := by decide +kernel
theorem dX6_gainOfAll_4 : decode cX6_gainOfAll 4 = .ok (.iload_n 3, 1) := by decide +kernel
theorem dX6_gainOfAll_5 : decode cX6_gainOfAll 5 = .ok (.aload_n 0, 1) := by decide +kernel
theorem dX6_gainOfAll_6 : decode cX6_gainOfAll 6 = .ok (.getfield 7, 3) := by decide +kernel
theorem dX6_gainOfAll_9 : decode cX6_gainOfAll 9 = .ok (.iconst 0, 1) := by decide +kernel
theorem dX6_gainOfAll_10 : decode cX6_gainOfAll 10 = .ok (.iaload, 1) := by decide +kernel
theorem dX6_gainOfAll_11 : decode cX6_gainOfAll 11 = .ok (.if_icmp .ge 18, 3) := by decide +kernel
theorem dX6_gainOfAll_14 : decode cX6_gainOfAll 14 = .ok (.iload_n 2, 1) := by decide +kernel
theorem dX6_gainOfAll_15 : decode cX6_gainOfAll 15 = .ok (.aload_n 0, 1) := by decide +kernel
theorem dX6_gainOfAll_16 : decode cX6_gainOfAll 16 = .ok (.iload_n 1, 1) := by decide +kernel
theorem dX6_gainOfAll_17 : decode cX6_gainOfAll 17 = .ok (.iload_n 3, 1) := by decide +kernel
theorem dX6_gainOfAll_18 : decode cX6_gainOfAll 18 = .ok (.invokevirtual 148, 3) := by decide +kernel
theorem dX6_gainOfAll_21 : decode cX6_gainOfAll 21 = .ok (.iadd, 1) := by decide +kernel
theorem dX6_gainOfAll_22 : decode cX6_gainOfAll 22 = .ok (.istore_n 2, 1) := by decide +kernel
theorem dX6_gainOfAll_23 : decode cX6_gainOfAll 23 = .ok (.iinc 3 1, 3) := by decide +kernel
theorem dX6_gainOfAll_26 : decode cX6_gainOfAll 26 = .ok (.goto (-22), 3) := by decide +kernel
theorem dX6_gainOfAll_29 : decode cX6_gainOfAll 29 = .ok (.iload_n 2, 1) := by decide +kernel
theorem dX6_gainOfAll_30 : decode cX6_gainOfAll 30 = .ok (.ireturn, 1) := by decide +kernel
theorem dX6_told_0 : decode cX6_told 0 = .ok (.iload_n 1, 1) := by decide +kernel
theorem dX6_told_1 : decode cX6_told 1 = .ok (.tableswitch 78 0 2 #[27, 35, 42], 27) := by decide +kernel
theorem dX6_told_28 : decode cX6_told 28 = .ok (.aload_n 0, 1) := by decide +kernel
theorem dX6_told_29 : decode cX6_told 29 = .ok (.sipush 136, 3) := by decide +kernel
theorem dX6_told_32 : decode cX6_told 32 = .ok (.invokevirtual 125, 3) := by decide +kernel
theorem dX6_told_35 : decode cX6_told 35 = .ok (.ireturn, 1) := by decide +kernel
theorem dX6_told_36 : decode cX6_told 36 = .ok (.aload_n 0, 1) := by decide +kernel
theorem dX6_told_37 : decode cX6_told 37 = .ok (.getfield 7, 3) := by decide +kernel
theorem dX6_told_40 : decode cX6_told 40 = .ok (.iconst 5, 1) := by decide +kernel
theorem dX6_told_41 : decode cX6_told 41 = .ok (.iaload, 1) := by decide +kernel
theorem dX6_told_42 : decode cX6_told 42 = .ok (.ireturn, 1) := by decide +kernel
theorem dX6_told_43 : decode cX6_told 43 = .ok (.iconst 0, 1) := by decide +kernel
theorem dX6_told_44 : decode cX6_told 44 = .ok (.istore_n 2, 1) := by decide +kernel
theorem dX6_told_45 : decode cX6_told 45 = .ok (.iconst 0, 1) := by decide +kernel
theorem dX6_told_46 : decode cX6_told 46 = .ok (.istore_n 3, 1) := by decide +kernel
theorem dX6_told_47 : decode cX6_told 47 = .ok (.iload_n 3, 1) := by decide +kernel
theorem dX6_told_48 : decode cX6_told 48 = .ok (.aload_n 0, 1) := by decide +kernel
theorem dX6_told_49 : decode cX6_told 49 = .ok (.getfield 7, 3) := by decide +kernel
theorem dX6_told_52 : decode cX6_told 52 = .ok (.iconst 0, 1) := by decide +kernel
theorem dX6_told_53 : decode cX6_told 53 = .ok (.iaload, 1) := by decide +kernel
theorem dX6_told_54 : decode cX6_told 54 = .ok (.if_icmp .ge 23, 3) := by decide +kernel
theorem dX6_told_57 : decode cX6_told 57 = .ok (.iload_n 2, 1) := by decide +kernel
theorem dX6_told_58 : decode cX6_told 58 = .ok (.aload_n 0, 1) := by decide +kernel
theorem dX6_told_59 : decode cX6_told 59 = .ok (.getfield 7, 3) := by decide +kernel
theorem dX6_told_62 : decode cX6_told 62 = .ok (.bipush 122, 2) := by decide +kernel
theorem dX6_told_64 : decode cX6_told 64 = .ok (.iload_n 3, 1) := by decide +kernel
theorem dX6_told_65 : decode cX6_told 65 = .ok (.iadd, 1) := by decide +kernel
theorem dX6_told_66 : decode cX6_told 66 = .ok (.iaload, 1) := by decide +kernel
theorem dX6_told_67 : decode cX6_told 67 = .ok (.iload_n 3, 1) := by decide +kernel
theorem dX6_told_68 : decode cX6_told 68 = .ok (.ishl, 1) := by decide +kernel
theorem dX6_told_69 : decode cX6_told 69 = .ok (.ior, 1) := by decide +kernel
theorem dX6_told_70 : decode cX6_told 70 = .ok (.istore_n 2, 1) := by decide +kernel
theorem dX6_told_71 : decode cX6_told 71 = .ok (.iinc 3 1, 3) := by decide +kernel
theorem dX6_told_74 : decode cX6_told 74 = .ok (.goto (-27), 3) := by decide +kernel
theorem dX6_told_77 : decode cX6_told 77 = .ok (.iload_n 2, 1) := by decide +kernel
theorem dX6_told_78 : decode cX6_told 78 = .ok (.ireturn, 1) := by decide +kernel
theorem dX6_told_79 : decode cX6_told 79 = .ok (.iconst (-1), 1) := by decide +kernel
theorem dX6_told_80 : decode cX6_told 80 = .ok (.ireturn, 1) := by decide +kernel
theorem dX6_person_0 : decode cX6_person 0 = .ok (.iload_n 1, 1) := by decide +kernel
theorem dX6_person_1 : decode cX6_person 1 = .ok (.iconst 0, 1) := by decide +kernel
theorem dX6_person_2 : decode cX6_person 2 = .ok (.bipush 6, 2) := by decide +kernel
theorem dX6_person_4 : decode cX6_person 4 = .ok (.invokestatic 45, 3) := by decide +kernel
theorem dX6_person_7 : decode cX6_person 7 = .ok (.ifCond .ne 5, 3) := by decide +kernel
theorem dX6_person_10 : decode cX6_person 10 = .ok (.iconst (-1), 1) := by decide +kernel
theorem dX6_person_11 : decode cX6_person 11 = .ok (.ireturn, 1) := by decide +kernel
theorem dX6_person_12 : decode cX6_person 12 = .ok (.iload_n 2, 1) := by decide +kernel
theorem dX6_person_13 : decode cX6_person 13 = .ok (.iconst 0, 1) := by decide +kernel
theorem dX6_person_14 : decode cX6_person 14 = .ok (.bipush 9, 2) := by decide +kernel
theorem dX6_person_16 : decode cX6_person 16 = .ok (.invokestatic 45, 3) := by decide +kernel
theorem dX6_person_19 : decode cX6_person 19 = .ok (.ifCond .ne 6, 3) := by decide +kernel
theorem dX6_person_22 : decode cX6_person 22 = .ok (.bipush (-2), 2) := by decide +kernel
theorem dX6_person_24 : decode cX6_person 24 = .ok (.ireturn, 1) := by decide +kernel
theorem dX6_person_25 : decode cX6_person 25 = .ok (.aload_n 0, 1) := by decide +kernel
theorem dX6_person_26 : decode cX6_person 26 = .ok (.getfield 7, 3) := by decide +kernel
theorem dX6_person_29 : decode cX6_person 29 = .ok (.iconst 0, 1) := by decide +kernel
theorem dX6_person_30 : decode cX6_person 30 = .ok (.iaload, 1) := by decide +kernel
theorem dX6_person_31 : decode cX6_person 31 = .ok (.iconst 4, 1) := by decide +kernel
theorem dX6_person_32 : decode cX6_person 32 = .ok (.if_icmp .ne 6, 3) := by decide +kernel
theorem dX6_person_35 : decode cX6_person 35 = .ok (.bipush (-4), 2) := by decide +kernel
theorem dX6_person_37 : decode cX6_person 37 = .ok (.ireturn, 1) := by decide +kernel
theorem dX6_person_38 : decode cX6_person 38 = .ok (.aload_n 0, 1) := by decide +kernel
theorem dX6_person_39 : decode cX6_person 39 = .ok (.getfield 7, 3) := by decide +kernel
theorem dX6_person_42 : decode cX6_person 42 = .ok (.iconst 0, 1) := by decide +kernel
theorem dX6_person_43 : decode cX6_person 43 = .ok (.iaload, 1) := by decide +kernel
theorem dX6_person_44 : decode cX6_person 44 = .ok (.istore_n 3, 1) := by decide +kernel
theorem dX6_person_45 : decode cX6_person 45 = .ok (.aload_n 0, 1) := by decide +kernel
theorem dX6_person_46 : decode cX6_person 46 = .ok (.getfield 7, 3) := by decide +kernel
theorem dX6_person_49 : decode cX6_person 49 = .ok (.bipush 110, 2) := by decide +kernel
theorem dX6_person_51 : decode cX6_person 51 = .ok (.iload_n 3, 1) := by decide +kernel
theorem dX6_person_52 : decode cX6_person 52 = .ok (.iadd, 1) := by decide +kernel
theorem dX6_person_53 : decode cX6_person 53 = .ok (.iload_n 1, 1) := by decide +kernel
theorem dX6_person_54 : decode cX6_person 54 = .ok (.iastore, 1) := by decide +kernel
theorem dX6_person_55 : decode cX6_person 55 = .ok (.aload_n 0, 1) := by decide +kernel
theorem dX6_person_56 : decode cX6_person 56 = .ok (.getfield 7, 3) := by decide +kernel
theorem dX6_person_59 : decode cX6_person 59 = .ok (.bipush 114, 2) := by decide +kernel
theorem dX6_person_61 : decode cX6_person 61 = .ok (.iload_n 3, 1) := by decide +kernel
theorem dX6_person_62 : decode cX6_person 62 = .ok (.iadd, 1) := by decide +kernel
theorem dX6_person_63 : decode cX6_person 63 = .ok (.iload_n 2, 1) := by decide +kernel
theorem dX6_person_64 : decode cX6_person 64 = .ok (.iastore, 1) := by decide +kernel
theorem dX6_person_65 : decode cX6_person 65 = .ok (.aload_n 0, 1) := by decide +kernel
theorem dX6_person_66 : decode cX6_person 66 = .ok (.getfield 7, 3) := by decide +kernel
theorem dX6_person_69 : decode cX6_person 69 = .ok (.bipush 118, 2) := by decide +kernel
theorem dX6_person_71 : decode cX6_person 71 = .ok (.iload_n 3, 1) := by decide +kernel
theorem dX6_person_72 : decode cX6_person 72 = .ok (.iadd, 1) := by decide +kernel
theorem dX6_person_73 : decode cX6_person 73 = .ok (.iconst 0, 1) := by decide +kernel
theorem dX6_person_74 : decode cX6_person 74 = .ok (.iastore, 1) := by decide +kernel
theorem dX6_person_75 : decode cX6_person 75 = .ok (.aload_n 0, 1) := by decide +kernel
theorem dX6_person_76 : decode cX6_person 76 = .ok (.getfield 7, 3) := by decide +kernel
theorem dX6_person_79 : decode cX6_person 79 = .ok (.bipush 122, 2) := by decide +kernel
theorem dX6_person_81 : decode cX6_person 81 = .ok (.iload_n 3, 1) := by decide +kernel
theorem dX6_person_82 : decode cX6_person 82 = .ok (.iadd, 1) := by decide +kernel
theorem dX6_person_83 : decode cX6_person 83 = .ok (.iconst 0, 1) := by decide +kernel
theorem dX6_person_84 : decode cX6_person 84 = .ok (.iastore, 1) := by decide +kernel
theorem dX6_person_85 : decode cX6_person 85 = .ok (.aload_n 0, 1) := by decide +kernel
theorem dX6_person_86 : decode cX6_person 86 = .ok (.getfield 7, 3) := by decide +kernel
theorem dX6_person_89 : decode cX6_person 89 = .ok (.iconst 0, 1) := by decide +kernel
theorem dX6_person_90 : decode cX6_person 90 = .ok (.dup2, 1) := by decide +kernel
theorem dX6_person_91 : decode cX6_person 91 = .ok (.iaload, 1) := by decide +kernel
theorem dX6_person_92 : decode cX6_person 92 = .ok (.iconst 1, 1) := by decide +kernel
theorem dX6_person_93 : decode cX6_person 93 = .ok (.iadd, 1) := by decide +kernel
theorem dX6_person_94 : decode cX6_person 94 = .ok (.iastore, 1) := by decide +kernel
theorem dX6_person_95 : decode cX6_person 95 = .ok (.iload_n 3, 1) := by decide +kernel
theorem dX6_person_96 : decode cX6_person 96 = .ok (.ireturn, 1) := by decide +kernel
theorem dX6_of_0 : decode cX6_of 0 = .ok (.aload_n 0, 1) := by decide +kernel
theorem dX6_of_1 : decode cX6_of 1 = .ok (.iload_n 1, 1) := by decide +kernel
theorem dX6_of_2 : decode cX6_of 2 = .ok (.invokevirtual 152, 3) := by decide +kernel
theorem dX6_of_5 : decode cX6_of 5 = .ok (.ifCond .ne 5, 3) := by decide +kernel
theorem dX6_of_8 : decode cX6_of 8 = .ok (.iconst (-1), 1) := by decide +kernel
theorem dX6_of_9 : decode cX6_of 9 = .ok (.ireturn, 1) := by decide +kernel
theorem dX6_of_10 : decode cX6_of 10 = .ok (.iload_n 2, 1) := by decide +kernel
theorem dX6_of_11 : decode cX6_of 11 = .ok (.tableswitch 88 0 3 #[29, 39, 49, 78], 29) := by decide +kernel
theorem dX6_of_40 : decode cX6_of 40 = .ok (.aload_n 0, 1) := by decide +kernel
theorem dX6_of_41 : decode cX6_of 41 = .ok (.getfield 7, 3) := by decide +kernel
theorem dX6_of_44 : decode cX6_of 44 = .ok (.bipush 110, 2) := by decide +kernel
theorem dX6_of_46 : decode cX6_of 46 = .ok (.iload_n 1, 1) := by decide +kernel
theorem dX6_of_47 : decode cX6_of 47 = .ok (.iadd, 1) := by decide +kernel
theorem dX6_of_48 : decode cX6_of 48 = .ok (.iaload, 1) := by decide +kernel
theorem dX6_of_49 : decode cX6_of 49 = .ok (.ireturn, 1) := by decide +kernel
theorem dX6_of_50 : decode cX6_of 50 = .ok (.aload_n 0, 1) := by decide +kernel
theorem dX6_of_51 : decode cX6_of 51 = .ok (.getfield 7, 3) := by decide +kernel
theorem dX6_of_54 : decode cX6_of 54 = .ok (.bipush 114, 2) := by decide +kernel
theorem dX6_of_56 : decode cX6_of 56 = .ok (.iload_n 1, 1) := by decide +kernel
theorem dX6_of_57 : decode cX6_of 57 = .ok (.iadd, 1) := by decide +kernel
theorem dX6_of_58 : decode cX6_of 58 = .ok (.iaload, 1) := by decide +kernel
theorem dX6_of_59 : decode cX6_of 59 = .ok (.ireturn, 1) := by decide +kernel
theorem dX6_of_60 : decode cX6_of 60 = .ok (.aload_n 0, 1) := by decide +kernel
theorem dX6_of_61 : decode cX6_of 61 = .ok (.getfield 7, 3) := by decide +kernel
theorem dX6_of_64 : decode cX6_of 64 = .ok (.bipush 110, 2) := by decide +kernel
theorem dX6_of_66 : decode cX6_of 66 = .ok (.iload_n 1, 1) := by decide +kernel
theorem dX6_of_67 : decode cX6_of 67 = .ok (.iadd, 1) := by decide +kernel
theorem dX6_of_68 : decode cX6_of 68 = .ok (.iaload, 1) := by decide +kernel
theorem dX6_of_69 : decode cX6_of 69 = .ok (.bipush 6, 2) := by decide +kernel
theorem dX6_of_71 : decode cX6_of 71 = .ok (.if_icmp .ne 15, 3) := by decide +kernel
theorem dX6_of_74 : decode cX6_of 74 = .ok (.aload_n 0, 1) := by decide +kernel
theorem dX6_of_75 : decode cX6_of 75 = .ok (.getfield 7, 3) := by decide +kernel
theorem dX6_of_78 : decode cX6_of 78 = .ok (.bipush 118, 2) := by decide +kernel
theorem dX6_of_80 : decode cX6_of 80 = .ok (.iload_n 1, 1) := by decide +kernel
theorem dX6_of_81 : decode cX6_of 81 = .ok (.iadd, 1) := by decide +kernel
theorem dX6_of_82 : decode cX6_of 82 = .ok (.iaload, 1) := by decide +kernel
theorem dX6_of_83 : decode cX6_of 83 = .ok (.goto 5, 3) := by decide +kernel
theorem dX6_of_86 : decode cX6_of 86 = .ok (.bipush (-5), 2) := by decide +kernel
theorem dX6_of_88 : decode cX6_of 88 = .ok (.ireturn, 1) := by decide +kernel
theorem dX6_of_89 : decode cX6_of 89 = .ok (.aload_n 0, 1) := by decide +kernel
theorem dX6_of_90 : decode cX6_of 90 = .ok (.getfield 7, 3) := by decide +kernel
theorem dX6_of_93 : decode cX6_of 93 = .ok (.bipush 122, 2) := by decide +kernel
theorem dX6_of_95 : decode cX6_of 95 = .ok (.iload_n 1, 1) := by decide +kernel
theorem dX6_of_96 : decode cX6_of 96 = .ok (.iadd, 1) := by decide +kernel
theorem dX6_of_97 : decode cX6_of 97 = .ok (.iaload, 1) := by decide +kernel
theorem dX6_of_98 : decode cX6_of 98 = .ok (.ireturn, 1) := by decide +kernel
theorem dX6_of_99 : decode cX6_of 99 = .ok (.iconst (-1), 1) := by decide +kernel
theorem dX6_of_100 : decode cX6_of 100 = .ok (.ireturn, 1) := by decide +kernel
theorem dX6_row_0 : decode cX6_row 0 = .ok (.aload_n 0, 1) := by decide +kernel
theorem dX6_row_1 : decode cX6_row 1 = .ok (.iload_n 1, 1) := by decide +kernel
theorem dX6_row_2 : decode cX6_row 2 = .ok (.invokevirtual 152, 3) := by decide +kernel
theorem dX6_row_5 : decode cX6_row 5 = .ok (.ifCond .ne 5, 3) := by decide +kernel
theorem dX6_row_8 : decode cX6_row 8 = .ok (.iconst (-1), 1) := by decide +kernel
theorem dX6_row_9 : decode cX6_row 9 = .ok (.ireturn, 1) := by decide +kernel
theorem dX6_row_10 : decode cX6_row 10 = .ok (.iload_n 2, 1) := by decide +kernel
theorem dX6_row_11 : decode cX6_row 11 = .ok (.iconst 0, 1) := by decide +kernel
theorem dX6_row_12 : decode cX6_row 12 = .ok (.bipush 7, 2) := by decide +kernel
theorem dX6_row_14 : decode cX6_row 14 = .ok (.invokestatic 45, 3) := by decide +kernel
theorem dX6_row_17 : decode cX6_row 17 = .ok (.ifCond .ne 6, 3) := by decide +kernel
theorem dX6_row_20 : decode cX6_row 20 = .ok (.bipush (-2), 2) := by decide +kernel
theorem dX6_row_22 : decode cX6_row 22 = .ok (.ireturn, 1) := by decide +kernel
theorem dX6_row_23 : decode cX6_row 23 = .ok (.aload_n 0, 1) := by decide +kernel
theorem dX6_row_24 : decode cX6_row 24 = .ok (.getfield 7, 3) := by decide +kernel
theorem dX6_row_27 : decode cX6_row 27 = .ok (.bipush 110, 2) := by decide +kernel
theorem dX6_row_29 : decode cX6_row 29 = .ok (.iload_n 1, 1) := by decide +kernel
theorem dX6_row_30 : decode cX6_row 30 = .ok (.iadd, 1) := by decide +kernel
theorem dX6_row_31 : decode cX6_row 31 = .ok (.iaload, 1) := by decide +kernel
theorem dX6_row_32 : decode cX6_row 32 = .ok (.bipush 6, 2) := by decide +kernel
theorem dX6_row_34 : decode cX6_row 34 = .ok (.if_icmp .eq 6, 3) := by decide +kernel
theorem dX6_row_37 : decode cX6_row 37 = .ok (.bipush (-3), 2) := by decide +kernel
theorem dX6_row_39 : decode cX6_row 39 = .ok (.ireturn, 1) := by decide +kernel
theorem dX6_row_40 : decode cX6_row 40 = .ok (.aload_n 0, 1) := by decide +kernel
theorem dX6_row_41 : decode cX6_row 41 = .ok (.getfield 7, 3) := by decide +kernel
theorem dX6_row_44 : decode cX6_row 44 = .ok (.bipush 118, 2) := by decide +kernel
theorem dX6_row_46 : decode cX6_row 46 = .ok (.iload_n 1, 1) := by decide +kernel
theorem dX6_row_47 : decode cX6_row 47 = .ok (.iadd, 1) := by decide +kernel
theorem dX6_row_48 : decode cX6_row 48 = .ok (.iaload, 1) := by decide +kernel
theorem dX6_row_49 : decode cX6_row 49 = .ok (.istore_n 3, 1) := by decide +kernel
theorem dX6_row_50 : decode cX6_row 50 = .ok (.aload_n 0, 1) := by decide +kernel
theorem dX6_row_51 : decode cX6_row 51 = .ok (.getfield 7, 3) := by decide +kernel
theorem dX6_row_54 : decode cX6_row 54 = .ok (.bipush 118, 2) := by decide +kernel
theorem dX6_row_56 : decode cX6_row 56 = .ok (.iload_n 1, 1) := by decide +kernel
theorem dX6_row_57 : decode cX6_row 57 = .ok (.iadd, 1) := by decide +kernel
theorem dX6_row_58 : decode cX6_row 58 = .ok (.iload_n 2, 1) := by decide +kernel
theorem dX6_row_59 : decode cX6_row 59 = .ok (.iastore, 1) := by decide +kernel
theorem dX6_row_60 : decode cX6_row 60 = .ok (.iload_n 3, 1) := by decide +kernel
theorem dX6_row_61 : decode cX6_row 61 = .ok (.ireturn, 1) := by decide +kernel
theorem dX6_note_0 : decode cX6_note 0 = .ok (.aload_n 0, 1) := by decide +kernel
theorem dX6_note_1 : decode cX6_note 1 = .ok (.iload_n 1, 1) := by decide +kernel
theorem dX6_note_2 : decode cX6_note 2 = .ok (.invokevirtual 152, 3) := by decide +kernel
theorem dX6_note_5 : decode cX6_note 5 = .ok (.ifCond .ne 5, 3) := by decide +kernel
theorem dX6_note_8 : decode cX6_note 8 = .ok (.iconst (-1), 1) := by decide +kernel
theorem dX6_note_9 : decode cX6_note 9 = .ok (.ireturn, 1) := by decide +kernel
theorem dX6_note_10 : decode cX6_note 10 = .ok (.aload_n 0, 1) := by decide +kernel
theorem dX6_note_11 : decode cX6_note 11 = .ok (.getfield 7, 3) := by decide +kernel
theorem dX6_note_14 : decode cX6_note 14 = .ok (.bipush 122, 2) := by decide +kernel
theorem dX6_note_16 : decode cX6_note 16 = .ok (.iload_n 1, 1) := by decide +kernel
theorem dX6_note_17 : decode cX6_note 17 = .ok (.iadd, 1) := by decide +kernel
theorem dX6_note_18 : decode cX6_note 18 = .ok (.iaload, 1) := by decide +kernel
theorem dX6_note_19 : decode cX6_note 19 = .ok (.istore_n 3, 1) := by decide +kernel
theorem dX6_note_20 : decode cX6_note 20 = .ok (.aload_n 0, 1) := by decide +kernel
theorem dX6_note_21 : decode cX6_note 21 = .ok (.getfield 7, 3) := by decide +kernel
theorem dX6_note_24 : decode cX6_note 24 = .ok (.bipush 122, 2) := by decide +kernel
theorem dX6_note_26 : decode cX6_note 26 = .ok (.iload_n 1, 1) := by decide +kernel
theorem dX6_note_27 : decode cX6_note 27 = .ok (.iadd, 1) := by decide +kernel
theorem dX6_note_28 : decode cX6_note 28 = .ok (.iload_n 2, 1) := by decide +kernel
theorem dX6_note_29 : decode cX6_note 29 = .ok (.ifCond .eq 7, 3) := by decide +kernel
theorem dX6_note_32 : decode cX6_note 32 = .ok (.iconst 1, 1) := by decide +kernel
theorem dX6_note_33 : decode cX6_note 33 = .ok (.goto 4, 3) := by decide +kernel
theorem dX6_note_36 : decode cX6_note 36 = .ok (.iconst 0, 1) := by decide +kernel
theorem dX6_note_37 : decode cX6_note 37 = .ok (.iastore, 1) := by decide +kernel
theorem dX6_note_38 : decode cX6_note 38 = .ok (.iload_n 3, 1) := by decide +kernel
theorem dX6_note_39 : decode cX6_note 39 = .ok (.ireturn, 1) := by decide +kernel
theorem dX6_yesterday_0 : decode cX6_yesterday 0 = .ok (.aload_n 0, 1) := by decide +kernel
theorem dX6_yesterday_1 : decode cX6_yesterday 1 = .ok (.iload_n 1, 1) := by decide +kernel
theorem dX6_yesterday_2 : decode cX6_yesterday 2 = .ok (.invokevirtual 156, 3) := by decide +kernel
theorem dX6_yesterday_5 : decode cX6_yesterday 5 = .ok (.ifCond .ne 6, 3) := by decide +kernel
theorem dX6_yesterday_8 : decode cX6_yesterday 8 = .ok (.bipush (-2), 2) := by decide +kernel
theorem dX6_yesterday_10 : decode cX6_yesterday 10 = .ok (.ireturn, 1) := by decide +kernel
theorem dX6_yesterday_11 : decode cX6_yesterday 11 = .ok (.aload_n 0, 1) := by decide +kernel
theorem dX6_yesterday_12 : decode cX6_yesterday 12 = .ok (.getfield 7, 3) := by decide +kernel
theorem dX6_yesterday_15 : decode cX6_yesterday 15 = .ok (.iconst 5, 1) := by decide +kernel
theorem dX6_yesterday_16 : decode cX6_yesterday 16 = .ok (.iaload, 1) := by decide +kernel
theorem dX6_yesterday_17 : decode cX6_yesterday 17 = .ok (.istore_n 2, 1) := by decide +kernel
theorem dX6_yesterday_18 : decode cX6_yesterday 18 = .ok (.aload_n 0, 1) := by decide +kernel
theorem dX6_yesterday_19 : decode cX6_yesterday 19 = .ok (.getfield 7, 3) := by decide +kernel
theorem dX6_yesterday_22 : decode cX6_yesterday 22 = .ok (.iconst 5, 1) := by decide +kernel
theorem dX6_yesterday_23 : decode cX6_yesterday 23 = .ok (.iload_n 1, 1) := by decide +kernel
theorem dX6_yesterday_24 : decode cX6_yesterday 24 = .ok (.iastore, 1) := by decide +kernel
theorem dX6_yesterday_25 : decode cX6_yesterday 25 = .ok (.iload_n 2, 1) := by decide +kernel
theorem dX6_yesterday_26 : decode cX6_yesterday 26 = .ok (.ireturn, 1) := by decide +kernel
theorem dX6_withOwn_0 : decode cX6_withOwn 0 = .ok (.iload_n 0, 1) := by decide +kernel
theorem dX6_withOwn_1 : decode cX6_withOwn 1 = .ok (.bipush 7, 2) := by decide +kernel
theorem dX6_withOwn_3 : decode cX6_withOwn 3 = .ok (.iconst 3, 1) := by decide +kernel
theorem dX6_withOwn_4 : decode cX6_withOwn 4 = .ok (.iload_n 1, 1) := by decide +kernel
theorem dX6_withOwn_5 : decode cX6_withOwn 5 = .ok (.imul, 1) := by decide +kernel
theorem dX6_withOwn_6 : decode cX6_withOwn 6 = .ok (.ishl, 1) := by decide +kernel
theorem dX6_withOwn_7 : decode cX6_withOwn 7 = .ok (.iconst (-1), 1) := by decide +kernel
theorem dX6_withOwn_8 : decode cX6_withOwn 8 = .ok (.ixor, 1) := by decide +kernel
theorem dX6_withOwn_9 : decode cX6_withOwn 9 = .ok (.iand, 1) := by decide +kernel
theorem dX6_withOwn_10 : decode cX6_withOwn 10 = .ok (.iload_n 2, 1) := by decide +kernel
theorem dX6_withOwn_11 : decode cX6_withOwn 11 = .ok (.iconst 3, 1) := by decide +kernel
theorem dX6_withOwn_12 : decode cX6_withOwn 12 = .ok (.iload_n 1, 1) := by decide +kernel
theorem dX6_withOwn_13 : decode cX6_withOwn 13 = .ok (.imul, 1) := by decide +kernel
theorem dX6_withOwn_14 : decode cX6_withOwn 14 = .ok (.ishl, 1) := by decide +kernel
theorem dX6_withOwn_15 : decode cX6_withOwn 15 = .ok (.ior, 1) := by decide +kernel
theorem dX6_withOwn_16 : decode cX6_withOwn 16 = .ok (.ireturn, 1) := by decide +kernel
theorem dX6_bestOwn_0 : decode cX6_bestOwn 0 = .ok (.sipush 4096, 3) := by decide +kernel
theorem dX6_bestOwn_3 : decode cX6_bestOwn 3 = .ok (.iload_n 2, 1) := by decide +kernel
theorem dX6_bestOwn_4 : decode cX6_bestOwn 4 = .ok (.imul, 1) := by decide +kernel
theorem dX6_bestOwn_5 : decode cX6_bestOwn 5 = .ok (.iload_n 1, 1) := by decide +kernel
theorem dX6_bestOwn_6 : decode cX6_bestOwn 6 = .ok (.iload_n 2, 1) := by decide +kernel
theorem dX6_bestOwn_7 : decode cX6_bestOwn 7 = .ok (.iconst 0, 1) := by decide +kernel
theorem dX6_bestOwn_8 : decode cX6_bestOwn 8 = .ok (.invokestatic 159, 3) := by decide +kernel
theorem dX6_bestOwn_11 : decode cX6_bestOwn 11 = .ok (.iadd, 1) := by decide +kernel
theorem dX6_bestOwn_12 : decode cX6_bestOwn 12 = .ok (.istore_n 3, 1) := by decide +kernel
theorem dX6_bestOwn_13 : decode cX6_bestOwn 13 = .ok (.aload_n 0, 1) := by decide +kernel
theorem dX6_bestOwn_14 : decode cX6_bestOwn 14 = .ok (.getfield 26, 3) := by decide +kernel
theorem dX6_bestOwn_17 : decode cX6_bestOwn 17 = .ok (.iload_n 3, 1) := by decide +kernel
theorem dX6_bestOwn_18 : decode cX6_bestOwn 18 = .ok (.iaload, 1) := by decide +kernel
theorem dX6_bestOwn_19 : decode cX6_bestOwn 19 = .ok (.bipush 8, 2) := by decide +kernel
theorem dX6_bestOwn_21 : decode cX6_bestOwn 21 = .ok (.idiv, 1) := by decide +kernel
theorem dX6_bestOwn_22 : decode cX6_bestOwn 22 = .ok (.aload_n 0, 1) := by decide +kernel
theorem dX6_bestOwn_23 : decode cX6_bestOwn 23 = .ok (.getfield 132, 3) := by decide +kernel
theorem dX6_bestOwn_26 : decode cX6_bestOwn 26 = .ok (.if_icmp .ne 13, 3) := by decide +kernel
theorem dX6_bestOwn_29 : decode cX6_bestOwn 29 = .ok (.aload_n 0, 1) := by decide +kernel
theorem dX6_bestOwn_30 : decode cX6_bestOwn 30 = .ok (.getfield 26, 3) := by decide +kernel
theorem dX6_bestOwn_33 : decode cX6_bestOwn 33 = .ok (.iload_n 3, 1) := by decide +kernel
theorem dX6_bestOwn_34 : decode cX6_bestOwn 34 = .ok (.iaload, 1) := by decide +kernel
theorem dX6_bestOwn_35 : decode cX6_bestOwn 35 = .ok (.bipush 8, 2) := by decide +kernel
theorem dX6_bestOwn_37 : decode cX6_bestOwn 37 = .ok (.irem, 1) := by decide +kernel
theorem dX6_bestOwn_38 : decode cX6_bestOwn 38 = .ok (.ireturn, 1) := by decide +kernel
theorem dX6_bestOwn_39 : decode cX6_bestOwn 39 = .ok (.iconst 0, 1) := by decide +kernel
theorem dX6_bestOwn_40 : decode cX6_bestOwn 40 = .ok (.istore 4, 2) := by decide +kernel
theorem dX6_bestOwn_42 : decode cX6_bestOwn 42 = .ok (.iconst 0, 1) := by decide +kernel
theorem dX6_bestOwn_43 : decode cX6_bestOwn 43 = .ok (.istore 5, 2) := by decide +kernel
theorem dX6_bestOwn_45 : decode cX6_bestOwn 45 = .ok (.iconst 0, 1) := by decide +kernel
theorem dX6_bestOwn_46 : decode cX6_bestOwn 46 = .ok (.istore 6, 2) := by decide +kernel
theorem dX6_bestOwn_48 : decode cX6_bestOwn 48 = .ok (.iload 6, 2) := by decide +kernel
theorem dX6_bestOwn_50 : decode cX6_bestOwn 50 = .ok (.bipush 8, 2) := by decide +kernel
theorem dX6_bestOwn_52 : decode cX6_bestOwn 52 = .ok (.if_icmp .ge 65, 3) := by decide +kernel
theorem dX6_bestOwn_55 : decode cX6_bestOwn 55 = .ok (.aload_n 0, 1) := by decide +kernel
theorem dX6_bestOwn_56 : decode cX6_bestOwn 56 = .ok (.iload_n 1, 1) := by decide +kernel
theorem dX6_bestOwn_57 : decode cX6_bestOwn 57 = .ok (.iload_n 2, 1) := by decide +kernel
theorem dX6_bestOwn_58 : decode cX6_bestOwn 58 = .ok (.iload 6, 2) := by decide +kernel
theorem dX6_bestOwn_60 : decode cX6_bestOwn 60 = .ok (.invokestatic 159, 3) := by decide +kernel
theorem dX6_bestOwn_63 : decode cX6_bestOwn 63 = .ok (.iload_n 2, 1) := by decide +kernel
theorem dX6_bestOwn_64 : decode cX6_bestOwn 64 = .ok (.invokevirtual 148, 3) := by decide +kernel
theorem dX6_bestOwn_67 : decode cX6_bestOwn 67 = .ok (.istore 7, 2) := by decide +kernel
theorem dX6_bestOwn_69 : decode cX6_bestOwn 69 = .ok (.iload 6, 2) := by decide +kernel
theorem dX6_bestOwn_71 : decode cX6_bestOwn 71 = .ok (.ifCond .eq 10, 3) := by decide +kernel
theorem dX6_bestOwn_74 : decode cX6_bestOwn 74 = .ok (.iload 7, 2) := by decide +kernel
theorem dX6_bestOwn_76 : decode cX6_bestOwn 76 = .ok (.iload 5, 2) := by decide +kernel
theorem dX6_bestOwn_78 : decode cX6_bestOwn 78 = .ok (.if_icmp .le 8, 3) := by decide +kernel
theorem dX6_bestOwn_81 : decode cX6_bestOwn 81 = .ok (.iload 6, 2) := by decide +kernel
theorem dX6_bestOwn_83 : decode cX6_bestOwn 83 = .ok (.goto 5, 3) := by decide +kernel
theorem dX6_bestOwn_86 : decode cX6_bestOwn 86 = .ok (.iload 4, 2) := by decide +kernel
theorem dX6_bestOwn_88 : decode cX6_bestOwn 88 = .ok (.istore 4, 2) := by decide +kernel
theorem dX6_bestOwn_90 : decode cX6_bestOwn 90 = .ok (.iload 6, 2) := by decide +kernel
theorem dX6_bestOwn_92 : decode cX6_bestOwn 92 = .ok (.ifCond .eq 10, 3) := by decide +kernel
theorem dX6_bestOwn_95 : decode cX6_bestOwn 95 = .ok (.iload 7, 2) := by decide +kernel
theorem dX6_bestOwn_97 : decode cX6_bestOwn 97 = .ok (.iload 5, 2) := by decide +kernel
theorem dX6_bestOwn_99 : decode cX6_bestOwn 99 = .ok (.if_icmp .le 8, 3) := by decide +kernel
theorem dX6_bestOwn_102 : decode cX6_bestOwn 102 = .ok (.iload 7, 2) := by decide +kernel
theorem dX6_bestOwn_104 : decode cX6_bestOwn 104 = .ok (.goto 5, 3) := by decide +kernel
theorem dX6_bestOwn_107 : decode cX6_bestOwn 107 = .ok (.iload 5, 2) := by decide +kernel
theorem dX6_bestOwn_109 : decode cX6_bestOwn 109 = .ok (.istore 5, 2) := by decide +kernel
theorem dX6_bestOwn_111 : decode cX6_bestOwn 111 = .ok (.iinc 6 1, 3) := by decide +kernel
theorem dX6_bestOwn_114 : decode cX6_bestOwn 114 = .ok (.goto (-66), 3) := by decide +kernel
theorem dX6_bestOwn_117 : decode cX6_bestOwn 117 = .ok (.aload_n 0, 1) := by decide +kernel
theorem dX6_bestOwn_118 : decode cX6_bestOwn 118 = .ok (.getfield 26, 3) := by decide +kernel
theorem dX6_bestOwn_121 : decode cX6_bestOwn 121 = .ok (.iload_n 3, 1) := by decide +kernel
theorem dX6_bestOwn_122 : decode cX6_bestOwn 122 = .ok (.bipush 8, 2) := by decide +kernel
theorem dX6_bestOwn_124 : decode cX6_bestOwn 124 = .ok (.aload_n 0, 1) := by decide +kernel
theorem dX6_bestOwn_125 : decode cX6_bestOwn 125 = .ok (.getfield 132, 3) := by decide +kernel
theorem dX6_bestOwn_128 : decode cX6_bestOwn 128 = .ok (.imul, 1) := by decide +kernel
theorem dX6_bestOwn_129 : decode cX6_bestOwn 129 = .ok (.iload 4, 2) := by decide +kernel
theorem dX6_bestOwn_131 : decode cX6_bestOwn 131 = .ok (.iadd, 1) := by decide +kernel
theorem dX6_bestOwn_132 : decode cX6_bestOwn 132 = .ok (.iastore, 1) := by decide +kernel
theorem dX6_bestOwn_133 : decode cX6_bestOwn 133 = .ok (.iload 4, 2) := by decide +kernel
theorem dX6_bestOwn_135 : decode cX6_bestOwn 135 = .ok (.ireturn, 1) := by decide +kernel
theorem dX6_isStrange_0 : decode cX6_isStrange 0 = .ok (.aload_n 0, 1) := by decide +kernel
theorem dX6_isStrange_1 : decode cX6_isStrange 1 = .ok (.aload_n 0, 1) := by decide +kernel
theorem dX6_isStrange_2 : decode cX6_isStrange 2 = .ok (.getfield 7, 3) := by decide +kernel
theorem dX6_isStrange_5 : decode cX6_isStrange 5 = .ok (.iconst 5, 1) := by decide +kernel
theorem dX6_isStrange_6 : decode cX6_isStrange 6 = .ok (.iaload, 1) := by decide +kernel
theorem dX6_isStrange_7 : decode cX6_isStrange 7 = .ok (.iload_n 1, 1) := by decide +kernel
theorem dX6_isStrange_8 : decode cX6_isStrange 8 = .ok (.iload_n 2, 1) := by decide +kernel
theorem dX6_isStrange_9 : decode cX6_isStrange 9 = .ok (.invokevirtual 145, 3) := by decide +kernel
theorem dX6_isStrange_12 : decode cX6_isStrange 12 = .ok (.ifCond .le 7, 3) := by decide +kernel
theorem dX6_isStrange_15 : decode cX6_isStrange 15 = .ok (.iconst 1, 1) := by decide +kernel
theorem dX6_isStrange_16 : decode cX6_isStrange 16 = .ok (.goto 4, 3) := by decide +kernel
theorem dX6_isStrange_19 : decode cX6_isStrange 19 = .ok (.iconst 0, 1) := by decide +kernel
theorem dX6_isStrange_20 : decode cX6_isStrange 20 = .ok (.ireturn, 1) := by decide +kernel
theorem dX6_wouldPlainly_0 : decode cX6_wouldPlainly 0 = .ok (.iload_n 1, 1) := by decide +kernel
theorem dX6_wouldPlainly_1 : decode cX6_wouldPlainly 1 = .ok (.iload_n 2, 1) := by decide +kernel
theorem dX6_wouldPlainly_2 : decode cX6_wouldPlainly 2 = .ok (.iload_n 3, 1) := by decide +kernel
theorem dX6_wouldPlainly_3 : decode cX6_wouldPlainly 3 = .ok (.invokestatic 138, 3) := by decide +kernel
theorem dX6_wouldPlainly_6 : decode cX6_wouldPlainly 6 = .ok (.ifCond .eq 27, 3) := by decide +kernel
theorem dX6_wouldPlainly_9 : decode cX6_wouldPlainly 9 = .ok (.aload_n 0, 1) := by decide +kernel
theorem dX6_wouldPlainly_10 : decode cX6_wouldPlainly 10 = .ok (.iload_n 1, 1) := by decide +kernel
theorem dX6_wouldPlainly_11 : decode cX6_wouldPlainly 11 = .ok (.iload_n 2, 1) := by decide +kernel
theorem dX6_wouldPlainly_12 : decode cX6_wouldPlainly 12 = .ok (.iload_n 3, 1) := by decide +kernel
theorem dX6_wouldPlainly_13 : decode cX6_wouldPlainly 13 = .ok (.invokevirtual 145, 3) := by decide +kernel
theorem dX6_wouldPlainly_16 : decode cX6_wouldPlainly 16 = .ok (.aload_n 0, 1) := by decide +kernel
theorem dX6_wouldPlainly_17 : decode cX6_wouldPlainly 17 = .ok (.getfield 7, 3) := by decide +kernel
theorem dX6_wouldPlainly_20 : decode cX6_wouldPlainly 20 = .ok (.bipush 114, 2) := by decide +kernel
theorem dX6_wouldPlainly_22 : decode cX6_wouldPlainly 22 = .ok (.iload_n 2, 1) := by decide +kernel
theorem dX6_wouldPlainly_23 : decode cX6_wouldPlainly 23 = .ok (.iadd, 1) := by decide +kernel
theorem dX6_wouldPlainly_24 : decode cX6_wouldPlainly 24 = .ok (.iaload, 1) := by decide +kernel
theorem dX6_wouldPlainly_25 : decode cX6_wouldPlainly 25 = .ok (.ineg, 1) := by decide +kernel
theorem dX6_wouldPlainly_26 : decode cX6_wouldPlainly 26 = .ok (.if_icmp .lt 7, 3) := by decide +kernel
theorem dX6_wouldPlainly_29 : decode cX6_wouldPlainly 29 = .ok (.iconst 1, 1) := by decide +kernel
theorem dX6_wouldPlainly_30 : decode cX6_wouldPlainly 30 = .ok (.goto 4, 3) := by decide +kernel
theorem dX6_wouldPlainly_33 : decode cX6_wouldPlainly 33 = .ok (.iconst 0, 1) := by decide +kernel
theorem dX6_wouldPlainly_34 : decode cX6_wouldPlainly 34 = .ok (.ireturn, 1) := by decide +kernel
theorem dX6_would_0 : decode cX6_would 0 = .ok (.aload_n 0, 1) := by decide +kernel
theorem dX6_would_1 : decode cX6_would 1 = .ok (.getfield 7, 3) := by decide +kernel
theorem dX6_would_4 : decode cX6_would 4 = .ok (.bipush 110, 2) := by decide +kernel
theorem dX6_would_6 : decode cX6_would 6 = .ok (.iload_n 2, 1) := by decide +kernel
theorem dX6_would_7 : decode cX6_would 7 = .ok (.iadd, 1) := by decide +kernel
theorem dX6_would_8 : decode cX6_would 8 = .ok (.iaload, 1) := by decide +kernel
theorem dX6_would_9 : decode cX6_would 9 = .ok (.tableswitch 171 1 6 #[39, 59, 67, 74, 109, 148], 39) := by decide +kernel
theorem dX6_would_48 : decode cX6_would 48 = .ok (.aload_n 0, 1) := by decide +kernel
theorem dX6_would_49 : decode cX6_would 49 = .ok (.iload_n 1, 1) := by decide +kernel
theorem dX6_would_50 : decode cX6_would 50 = .ok (.iload_n 2, 1) := by decide +kernel
theorem dX6_would_51 : decode cX6_would 51 = .ok (.invokevirtual 162, 3) := by decide +kernel
theorem dX6_would_54 : decode cX6_would 54 = .ok (.iload_n 3, 1) := by decide +kernel
theorem dX6_would_55 : decode cX6_would 55 = .ok (.ishr, 1) := by decide +kernel
theorem dX6_would_56 : decode cX6_would 56 = .ok (.iconst 1, 1) := by decide +kernel
theorem dX6_would_57 : decode cX6_would 57 = .ok (.iand, 1) := by decide +kernel
theorem dX6_would_58 : decode cX6_would 58 = .ok (.iconst 1, 1) := by decide +kernel
theorem dX6_would_59 : decode cX6_would 59 = .ok (.if_icmp .ne 7, 3) := by decide +kernel
theorem dX6_would_62 : decode cX6_would 62 = .ok (.iconst 1, 1) := by decide +kernel
theorem dX6_would_63 : decode cX6_would 63 = .ok (.goto 4, 3) := by decide +kernel
theorem dX6_would_66 : decode cX6_would 66 = .ok (.iconst 0, 1) := by decide +kernel
theorem dX6_would_67 : decode cX6_would 67 = .ok (.ireturn, 1) := by decide +kernel
theorem dX6_would_68 : decode cX6_would 68 = .ok (.aload_n 0, 1) := by decide +kernel
theorem dX6_would_69 : decode cX6_would 69 = .ok (.iload_n 1, 1) := by decide +kernel
theorem dX6_would_70 : decode cX6_would 70 = .ok (.iload_n 2, 1) := by decide +kernel
theorem dX6_would_71 : decode cX6_would 71 = .ok (.iload_n 3, 1) := by decide +kernel
theorem dX6_would_72 : decode cX6_would 72 = .ok (.invokevirtual 165, 3) := by decide +kernel
theorem dX6_would_75 : decode cX6_would 75 = .ok (.ireturn, 1) := by decide +kernel
theorem dX6_would_76 : decode cX6_would 76 = .ok (.aload_n 0, 1) := by decide +kernel
theorem dX6_would_77 : decode cX6_would 77 = .ok (.iload_n 2, 1) := by decide +kernel
theorem dX6_would_78 : decode cX6_would 78 = .ok (.iload_n 3, 1) := by decide +kernel
theorem dX6_would_79 : decode cX6_would 79 = .ok (.invokevirtual 168, 3) := by decide +kernel
theorem dX6_would_82 : decode cX6_would 82 = .ok (.ireturn, 1) := by decide +kernel
theorem dX6_would_83 : decode cX6_would 83 = .ok (.aload_n 0, 1) := by decide +kernel
theorem dX6_would_84 : decode cX6_would 84 = .ok (.iload_n 1, 1) := by decide +kernel
theorem dX6_would_85 : decode cX6_would 85 = .ok (.iload_n 2, 1) := by decide +kernel
theorem dX6_would_86 : decode cX6_would 86 = .ok (.iload_n 3, 1) := by decide +kernel
theorem dX6_would_87 : decode cX6_would 87 = .ok (.invokevirtual 141, 3) := by decide +kernel
theorem dX6_would_90 : decode cX6_would 90 = .ok (.aload_n 0, 1) := by decide +kernel
theorem dX6_would_91 : decode cX6_would 91 = .ok (.getfield 7, 3) := by decide +kernel
theorem dX6_would_94 : decode cX6_would 94 = .ok (.bipush 114, 2) := by decide +kernel
theorem dX6_would_96 : decode cX6_would 96 = .ok (.iload_n 2, 1) := by decide +kernel
theorem dX6_would_97 : decode cX6_would 97 = .ok (.iadd, 1) := by decide +kernel
theorem dX6_would_98 : decode cX6_would 98 = .ok (.iaload, 1) := by decide +kernel
theorem dX6_would_99 : decode cX6_would 99 = .ok (.if_icmp .ge 13, 3) := by decide +kernel
theorem dX6_would_102 : decode cX6_would 102 = .ok (.aload_n 0, 1) := by decide +kernel
theorem dX6_would_103 : decode cX6_would 103 = .ok (.iload_n 1, 1) := by decide +kernel
theorem dX6_would_104 : decode cX6_would 104 = .ok (.iload_n 2, 1) := by decide +kernel
theorem dX6_would_105 : decode cX6_would 105 = .ok (.iload_n 3, 1) := by decide +kernel
theorem dX6_would_106 : decode cX6_would 106 = .ok (.invokevirtual 165, 3) := by decide +kernel
theorem dX6_would_109 : decode cX6_would 109 = .ok (.ifCond .eq 7, 3) := by decide +kernel
theorem dX6_would_112 : decode cX6_would 112 = .ok (.iconst 1, 1) := by decide +kernel
theorem dX6_would_113 : decode cX6_would 113 = .ok (.goto 4, 3) := by decide +kernel
theorem dX6_would_116 : decode cX6_would 116 = .ok (.iconst 0, 1) := by decide +kernel
theorem dX6_would_117 : decode cX6_would 117 = .ok (.ireturn, 1) := by decide +kernel
theorem dX6_would_118 : decode cX6_would 118 = .ok (.iload_n 3, 1) := by decide +kernel
theorem dX6_would_119 : decode cX6_would 119 = .ok (.aload_n 0, 1) := by decide +kernel
theorem dX6_would_120 : decode cX6_would 120 = .ok (.getfield 7, 3) := by decide +kernel
theorem dX6_would_123 : decode cX6_would 123 = .ok (.bipush 114, 2) := by decide +kernel
theorem dX6_would_125 : decode cX6_would 125 = .ok (.iload_n 2, 1) := by decide +kernel
theorem dX6_would_126 : decode cX6_would 126 = .ok (.iadd, 1) := by decide +kernel
theorem dX6_would_127 : decode cX6_would 127 = .ok (.iaload, 1) := by decide +kernel
theorem dX6_would_128 : decode cX6_would 128 = .ok (.iconst 3, 1) := by decide +kernel
theorem dX6_would_129 : decode cX6_would 129 = .ok (.irem, 1) := by decide +kernel
theorem dX6_would_130 : decode cX6_would 130 = .ok (.if_icmp .ne 20, 3) := by decide +kernel
theorem dX6_would_133 : decode cX6_would 133 = .ok (.iload_n 1, 1) := by decide +kernel
theorem dX6_would_134 : decode cX6_would 134 = .ok (.iload_n 2, 1) := by decide +kernel
theorem dX6_would_135 : decode cX6_would 135 = .ok (.iload_n 3, 1) := by decide +kernel
theorem dX6_would_136 : decode cX6_would 136 = .ok (.invokestatic 138, 3) := by decide +kernel
theorem dX6_would_139 : decode cX6_would 139 = .ok (.ifCond .ne 7, 3) := by decide +kernel
theorem dX6_would_142 : decode cX6_would 142 = .ok (.iconst 1, 1) := by decide +kernel
theorem dX6_would_143 : decode cX6_would 143 = .ok (.goto 13, 3) := by decide +kernel
theorem dX6_would_146 : decode cX6_would 146 = .ok (.iconst 0, 1) := by decide +kernel
theorem dX6_would_147 : decode cX6_would 147 = .ok (.goto 9, 3) := by decide +kernel
theorem dX6_would_150 : decode cX6_would 150 = .ok (.aload_n 0, 1) := by decide +kernel
theorem dX6_would_151 : decode cX6_would 151 = .ok (.iload_n 2, 1) := by decide +kernel
theorem dX6_would_152 : decode cX6_would 152 = .ok (.iload_n 3, 1) := by decide +kernel
theorem dX6_would_153 : decode cX6_would 153 = .ok (.invokevirtual 168, 3) := by decide +kernel
theorem dX6_would_156 : decode cX6_would 156 = .ok (.ireturn, 1) := by decide +kernel
theorem dX6_would_157 : decode cX6_would 157 = .ok (.aload_n 0, 1) := by decide +kernel
theorem dX6_would_158 : decode cX6_would 158 = .ok (.getfield 7, 3) := by decide +kernel
theorem dX6_would_161 : decode cX6_would 161 = .ok (.bipush 118, 2) := by decide +kernel
theorem dX6_would_163 : decode cX6_would 163 = .ok (.iload_n 2, 1) := by decide +kernel
theorem dX6_would_164 : decode cX6_would 164 = .ok (.iadd, 1) := by decide +kernel
theorem dX6_would_165 : decode cX6_would 165 = .ok (.iaload, 1) := by decide +kernel
theorem dX6_would_166 : decode cX6_would 166 = .ok (.iload_n 3, 1) := by decide +kernel
theorem dX6_would_167 : decode cX6_would 167 = .ok (.ishr, 1) := by decide +kernel
theorem dX6_would_168 : decode cX6_would 168 = .ok (.iconst 1, 1) := by decide +kernel
theorem dX6_would_169 : decode cX6_would 169 = .ok (.iand, 1) := by decide +kernel
theorem dX6_would_170 : decode cX6_would 170 = .ok (.iconst 1, 1) := by decide +kernel
theorem dX6_would_171 : decode cX6_would 171 = .ok (.if_icmp .ne 7, 3) := by decide +kernel
theorem dX6_would_174 : decode cX6_would 174 = .ok (.iconst 1, 1) := by decide +kernel
theorem dX6_would_175 : decode cX6_would 175 = .ok (.goto 4, 3) := by decide +kernel
theorem dX6_would_178 : decode cX6_would 178 = .ok (.iconst 0, 1) := by decide +kernel
theorem dX6_would_179 : decode cX6_would 179 = .ok (.ireturn, 1) := by decide +kernel
theorem dX6_would_180 : decode cX6_would 180 = .ok (.aload_n 0, 1) := by decide +kernel
theorem dX6_would_181 : decode cX6_would 181 = .ok (.iload_n 1, 1) := by decide +kernel
theorem dX6_would_182 : decode cX6_would 182 = .ok (.iload_n 2, 1) := by decide +kernel
theorem dX6_would_183 : decode cX6_would 183 = .ok (.iload_n 3, 1) := by decide +kernel
theorem dX6_would_184 : decode cX6_would 184 = .ok (.invokevirtual 145, 3) := by decide +kernel
theorem dX6_would_187 : decode cX6_would 187 = .ok (.ifCond .le 7, 3) := by decide +kernel
theorem dX6_would_190 : decode cX6_would 190 = .ok (.iconst 1, 1) := by decide +kernel
theorem dX6_would_191 : decode cX6_would 191 = .ok (.goto 4, 3) := by decide +kernel
theorem dX6_would_194 : decode cX6_would 194 = .ok (.iconst 0, 1) := by decide +kernel
theorem dX6_would_195 : decode cX6_would 195 = .ok (.ireturn, 1) := by decide +kernel
theorem dX6_answerTo_0 : decode cX6_answerTo 0 = .ok (.iconst 0, 1) := by decide +kernel
theorem dX6_answerTo_1 : decode cX6_answerTo 1 = .ok (.istore_n 2, 1) := by decide +kernel
theorem dX6_answerTo_2 : decode cX6_answerTo 2 = .ok (.iconst 0, 1) := by decide +kernel
theorem dX6_answerTo_3 : decode cX6_answerTo 3 = .ok (.istore_n 3, 1) := by decide +kernel
theorem dX6_answerTo_4 : decode cX6_answerTo 4 = .ok (.iload_n 3, 1) := by decide +kernel
theorem dX6_answerTo_5 : decode cX6_answerTo 5 = .ok (.aload_n 0, 1) := by decide +kernel
theorem dX6_answerTo_6 : decode cX6_answerTo 6 = .ok (.getfield 7, 3) := by decide +kernel
theorem dX6_answerTo_9 : decode cX6_answerTo 9 = .ok (.iconst 0, 1) := by decide +kernel
theorem dX6_answerTo_10 : decode cX6_answerTo 10 = .ok (.iaload, 1) := by decide +kernel
theorem dX6_answerTo_11 : decode cX6_answerTo 11 = .ok (.if_icmp .ge 50, 3) := by decide +kernel
theorem dX6_answerTo_14 : decode cX6_answerTo 14 = .ok (.iconst 0, 1) := by decide +kernel
theorem dX6_answerTo_15 : decode cX6_answerTo 15 = .ok (.istore 4, 2) := by decide +kernel
theorem dX6_answerTo_17 : decode cX6_answerTo 17 = .ok (.iload 4, 2) := by decide +kernel
theorem dX6_answerTo_19 : decode cX6_answerTo 19 = .ok (.iconst 3, 1) := by decide +kernel
theorem dX6_answerTo_20 : decode cX6_answerTo 20 = .ok (.if_icmp .ge 35, 3) := by decide +kernel
theorem dX6_answerTo_23 : decode cX6_answerTo 23 = .ok (.iload_n 2, 1) := by decide +kernel
theorem dX6_answerTo_24 : decode cX6_answerTo 24 = .ok (.aload_n 0, 1) := by decide +kernel
theorem dX6_answerTo_25 : decode cX6_answerTo 25 = .ok (.iload_n 1, 1) := by decide +kernel
theorem dX6_answerTo_26 : decode cX6_answerTo 26 = .ok (.iload_n 3, 1) := by decide +kernel
theorem dX6_answerTo_27 : decode cX6_answerTo 27 = .ok (.iload 4, 2) := by decide +kernel
theorem dX6_answerTo_29 : decode cX6_answerTo 29 = .ok (.invokevirtual 172, 3) := by decide +kernel
theorem dX6_answerTo_32 : decode cX6_answerTo 32 = .ok (.ifCond .eq 14, 3) := by decide +kernel
theorem dX6_answerTo_35 : decode cX6_answerTo 35 = .ok (.iconst 1, 1) := by decide +kernel
theorem dX6_answerTo_36 : decode cX6_answerTo 36 = .ok (.iconst 3, 1) := by decide +kernel
theorem dX6_answerTo_37 : decode cX6_answerTo 37 = .ok (.iload_n 3, 1) := by decide +kernel
theorem dX6_answerTo_38 : decode cX6_answerTo 38 = .ok (.imul, 1) := by decide +kernel
theorem dX6_answerTo_39 : decode cX6_answerTo 39 = .ok (.iload 4, 2) := by decide +kernel
theorem dX6_answerTo_41 : decode cX6_answerTo 41 = .ok (.iadd, 1) := by decide +kernel
theorem dX6_answerTo_42 : decode cX6_answerTo 42 = .ok (.ishl, 1) := by decide +kernel
theorem dX6_answerTo_43 : decode cX6_answerTo 43 = .ok (.goto 4, 3) := by decide +kernel
theorem dX6_answerTo_46 : decode cX6_answerTo 46 = .ok (.iconst 0, 1) := by decide +kernel
theorem dX6_answerTo_47 : decode cX6_answerTo 47 = .ok (.ior, 1) := by decide +kernel
theorem dX6_answerTo_48 : decode cX6_answerTo 48 = .ok (.istore_n 2, 1) := by decide +kernel
theorem dX6_answerTo_49 : decode cX6_answerTo 49 = .ok (.iinc 4 1, 3) := by decide +kernel
theorem dX6_answerTo_52 : decode cX6_answerTo 52 = .ok (.goto (-35), 3) := by decide +kernel
theorem dX6_answerTo_55 : decode cX6_answerTo 55 = .ok (.iinc 3 1, 3) := by decide +kernel
theorem dX6_answerTo_58 : decode cX6_answerTo 58 = .ok (.goto (-54), 3) := by decide +kernel
theorem dX6_answerTo_61 : decode cX6_answerTo 61 = .ok (.iload_n 2, 1) := by decide +kernel
theorem dX6_answerTo_62 : decode cX6_answerTo 62 = .ok (.ireturn, 1) := by decide +kernel
theorem dX6_firstOtherwise_0 : decode cX6_firstOtherwise 0 = .ok (.iconst 0, 1) := by decide +kernel
theorem dX6_firstOtherwise_1 : decode cX6_firstOtherwise 1 = .ok (.istore_n 2, 1) := by decide +kernel
theorem dX6_firstOtherwise_2 : decode cX6_firstOtherwise 2 = .ok (.iload_n 2, 1) := by decide +kernel
theorem dX6_firstOtherwise_3 : decode cX6_firstOtherwise 3 = .ok (.aload_n 0, 1) := by decide +kernel
theorem dX6_firstOtherwise_4 : decode cX6_firstOtherwise 4 = .ok (.getfield 7, 3) := by decide +kernel
theorem dX6_firstOtherwise_7 : decode cX6_firstOtherwise 7 = .ok (.iconst 0, 1) := by decide +kernel
theorem dX6_firstOtherwise_8 : decode cX6_firstOtherwise 8 = .ok (.iaload, 1) := by decide +kernel
theorem dX6_firstOtherwise_9 : decode cX6_firstOtherwise 9 = .ok (.if_icmp .ge 45, 3) := by decide +kernel
theorem dX6_firstOtherwise_12 : decode cX6_firstOtherwise 12 = .ok (.iconst 0, 1) := by decide +kernel
theorem dX6_firstOtherwise_13 : decode cX6_firstOtherwise 13 = .ok (.istore_n 3, 1) := by decide +kernel
theorem dX6_firstOtherwise_14 : decode cX6_firstOtherwise 14 = .ok (.iload_n 3, 1) := by decide +kernel
theorem dX6_firstOtherwise_15 : decode cX6_firstOtherwise 15 = .ok (.iconst 3, 1) := by decide +kernel
theorem dX6_firstOtherwise_16 : decode cX6_firstOtherwise 16 = .ok (.if_icmp .ge 32, 3) := by decide +kernel
theorem dX6_firstOtherwise_19 : decode cX6_firstOtherwise 19 = .ok (.aload_n 0, 1) := by decide +kernel
theorem dX6_firstOtherwise_20 : decode cX6_firstOtherwise 20 = .ok (.iload_n 1, 1) := by decide +kernel
theorem dX6_firstOtherwise_21 : decode cX6_firstOtherwise 21 = .ok (.iload_n 2, 1) := by decide +kernel
theorem dX6_firstOtherwise_22 : decode cX6_firstOtherwise 22 = .ok (.iload_n 3, 1) := by decide +kernel
theorem dX6_firstOtherwise_23 : decode cX6_firstOtherwise 23 = .ok (.invokevirtual 172, 3) := by decide +kernel
theorem dX6_firstOtherwise_26 : decode cX6_firstOtherwise 26 = .ok (.iload_n 1, 1) := by decide +kernel
theorem dX6_firstOtherwise_27 : decode cX6_firstOtherwise 27 = .ok (.iload_n 2, 1) := by decide +kernel
theorem dX6_firstOtherwise_28 : decode cX6_firstOtherwise 28 = .ok (.iload_n 3, 1) := by decide +kernel
theorem dX6_firstOtherwise_29 : decode cX6_firstOtherwise 29 = .ok (.invokestatic 138, 3) := by decide +kernel
theorem dX6_firstOtherwise_32 : decode cX6_firstOtherwise 32 = .ok (.if_icmp .eq 10, 3) := by decide +kernel
theorem dX6_firstOtherwise_35 : decode cX6_firstOtherwise 35 = .ok (.bipush 10, 2) := by decide +kernel
theorem dX6_firstOtherwise_37 : decode cX6_firstOtherwise 37 = .ok (.iload_n 2, 1) := by decide +kernel
theorem dX6_firstOtherwise_38 : decode cX6_firstOtherwise 38 = .ok (.imul, 1) := by decide +kernel
theorem dX6_firstOtherwise_39 : decode cX6_firstOtherwise 39 = .ok (.iload_n 3, 1) := by decide +kernel
theorem dX6_firstOtherwise_40 : decode cX6_firstOtherwise 40 = .ok (.iadd, 1) := by decide +kernel
theorem dX6_firstOtherwise_41 : decode cX6_firstOtherwise 41 = .ok (.ireturn, 1) := by decide +kernel
theorem dX6_firstOtherwise_42 : decode cX6_firstOtherwise 42 = .ok (.iinc 3 1, 3) := by decide +kernel
theorem dX6_firstOtherwise_45 : decode cX6_firstOtherwise 45 = .ok (.goto (-31), 3) := by decide +kernel
theorem dX6_firstOtherwise_48 : decode cX6_firstOtherwise 48 = .ok (.iinc 2 1, 3) := by decide +kernel
theorem dX6_firstOtherwise_51 : decode cX6_firstOtherwise 51 = .ok (.goto (-49), 3) := by decide +kernel
theorem dX6_firstOtherwise_54 : decode cX6_firstOtherwise 54 = .ok (.bipush (-5), 2) := by decide +kernel
theorem dX6_firstOtherwise_56 : decode cX6_firstOtherwise 56 = .ok (.ireturn, 1) := by decide +kernel
theorem dX6_stands_0 : decode cX6_stands 0 = .ok (.aload_n 0, 1) := by decide +kernel
theorem dX6_stands_1 : decode cX6_stands 1 = .ok (.iload_n 1, 1) := by decide +kernel
theorem dX6_stands_2 : decode cX6_stands 2 = .ok (.invokevirtual 175, 3) := by decide +kernel
theorem dX6_stands_5 : decode cX6_stands 5 = .ok (.bipush (-5), 2) := by decide +kernel
theorem dX6_stands_7 : decode cX6_stands 7 = .ok (.if_icmp .ne 7, 3) := by decide +kernel
theorem dX6_stands_10 : decode cX6_stands 10 = .ok (.iconst 1, 1) := by decide +kernel
theorem dX6_stands_11 : decode cX6_stands 11 = .ok (.goto 4, 3) := by decide +kernel
theorem dX6_stands_14 : decode cX6_stands 14 = .ok (.iconst 0, 1) := by decide +kernel
theorem dX6_stands_15 : decode cX6_stands 15 = .ok (.ireturn, 1) := by decide +kernel
theorem dX6_by_0 : decode cX6_by 0 = .ok (.aload_n 0, 1) := by decide +kernel
theorem dX6_by_1 : decode cX6_by 1 = .ok (.iload_n 2, 1) := by decide +kernel
theorem dX6_by_2 : decode cX6_by 2 = .ok (.invokevirtual 152, 3) := by decide +kernel
theorem dX6_by_5 : decode cX6_by 5 = .ok (.ifCond .eq 20, 3) := by decide +kernel
theorem dX6_by_8 : decode cX6_by 8 = .ok (.iload_n 3, 1) := by decide +kernel
theorem dX6_by_9 : decode cX6_by 9 = .ok (.invokestatic 178, 3) := by decide +kernel
theorem dX6_by_12 : decode cX6_by 12 = .ok (.ifCond .eq 13, 3) := by decide +kernel
theorem dX6_by_15 : decode cX6_by 15 = .ok (.iload 4, 2) := by decide +kernel
theorem dX6_by_17 : decode cX6_by 17 = .ok (.iconst 0, 1) := by decide +kernel
theorem dX6_by_18 : decode cX6_by 18 = .ok (.iconst 2, 1) := by decide +kernel
theorem dX6_by_19 : decode cX6_by 19 = .ok (.invokestatic 45, 3) := by decide +kernel
theorem dX6_by_22 : decode cX6_by 22 = .ok (.ifCond .ne 7, 3) := by decide +kernel
theorem dX6_by_25 : decode cX6_by 25 = .ok (.sipush (-10001), 3) := by decide +kernel
theorem dX6_by_28 : decode cX6_by 28 = .ok (.ireturn, 1) := by decide +kernel
theorem dX6_by_29 : decode cX6_by 29 = .ok (.aload_n 0, 1) := by decide +kernel
theorem dX6_by_30 : decode cX6_by 30 = .ok (.iload_n 1, 1) := by decide +kernel
theorem dX6_by_31 : decode cX6_by 31 = .ok (.invokevirtual 156, 3) := by decide +kernel
theorem dX6_by_34 : decode cX6_by 34 = .ok (.ifCond .ne 7, 3) := by decide +kernel
theorem dX6_by_37 : decode cX6_by 37 = .ok (.sipush (-10002), 3) := by decide +kernel
theorem dX6_by_40 : decode cX6_by 40 = .ok (.ireturn, 1) := by decide +kernel
theorem dX6_by_41 : decode cX6_by 41 = .ok (.aload_n 0, 1) := by decide +kernel
theorem dX6_by_42 : decode cX6_by 42 = .ok (.invokevirtual 181, 3) := by decide +kernel
theorem dX6_by_45 : decode cX6_by 45 = .ok (.iload 4, 2) := by decide +kernel
theorem dX6_by_47 : decode cX6_by 47 = .ok (.ifCond .ne 13, 3) := by decide +kernel
theorem dX6_by_50 : decode cX6_by 50 = .ok (.aload_n 0, 1) := by decide +kernel
theorem dX6_by_51 : decode cX6_by 51 = .ok (.iload_n 1, 1) := by decide +kernel
theorem dX6_by_52 : decode cX6_by 52 = .ok (.iload_n 2, 1) := by decide +kernel
theorem dX6_by_53 : decode cX6_by 53 = .ok (.iload_n 3, 1) := by decide +kernel
theorem dX6_by_54 : decode cX6_by 54 = .ok (.invokevirtual 145, 3) := by decide +kernel
theorem dX6_by_57 : decode cX6_by 57 = .ok (.goto 33, 3) := by decide +kernel
theorem dX6_by_60 : decode cX6_by 60 = .ok (.iload 4, 2) := by decide +kernel
theorem dX6_by_62 : decode cX6_by 62 = .ok (.iconst 1, 1) := by decide +kernel
theorem dX6_by_63 : decode cX6_by 63 = .ok (.if_icmp .ne 21, 3) := by decide +kernel
theorem dX6_by_66 : decode cX6_by 66 = .ok (.aload_n 0, 1) := by decide +kernel
theorem dX6_by_67 : decode cX6_by 67 = .ok (.iload_n 1, 1) := by decide +kernel
theorem dX6_by_68 : decode cX6_by 68 = .ok (.iload_n 2, 1) := by decide +kernel
theorem dX6_by_69 : decode cX6_by 69 = .ok (.iload_n 3, 1) := by decide +kernel
theorem dX6_by_70 : decode cX6_by 70 = .ok (.invokevirtual 172, 3) := by decide +kernel
theorem dX6_by_73 : decode cX6_by 73 = .ok (.ifCond .eq 7, 3) := by decide +kernel
theorem dX6_by_76 : decode cX6_by 76 = .ok (.iconst 1, 1) := by decide +kernel
theorem dX6_by_77 : decode cX6_by 77 = .ok (.goto 13, 3) := by decide +kernel
theorem dX6_by_80 : decode cX6_by 80 = .ok (.iconst 0, 1) := by decide +kernel
theorem dX6_by_81 : decode cX6_by 81 = .ok (.goto 9, 3) := by decide +kernel
theorem dX6_by_84 : decode cX6_by 84 = .ok (.aload_n 0, 1) := by decide +kernel
theorem dX6_by_85 : decode cX6_by 85 = .ok (.iload_n 1, 1) := by decide +kernel
theorem dX6_by_86 : decode cX6_by 86 = .ok (.iload_n 2, 1) := by decide +kernel
theorem dX6_by_87 : decode cX6_by 87 = .ok (.invokevirtual 148, 3) := by decide +kernel
theorem dX6_by_90 : decode cX6_by 90 = .ok (.ireturn, 1) := by decide +kernel
theorem dX6_day_0 : decode cX6_day 0 = .ok (.iload_n 2, 1) := by decide +kernel
theorem dX6_day_1 : decode cX6_day 1 = .ok (.iconst 0, 1) := by decide +kernel
theorem dX6_day_2 : decode cX6_day 2 = .ok (.iconst 2, 1) := by decide +kernel
theorem dX6_day_3 : decode cX6_day 3 = .ok (.invokestatic 45, 3) := by decide +kernel
theorem dX6_day_6 : decode cX6_day 6 = .ok (.ifCond .ne 7, 3) := by decide +kernel
theorem dX6_day_9 : decode cX6_day 9 = .ok (.sipush (-10001), 3) := by decide +kernel
theorem dX6_day_12 : decode cX6_day 12 = .ok (.ireturn, 1) := by decide +kernel
theorem dX6_day_13 : decode cX6_day 13 = .ok (.aload_n 0, 1) := by decide +kernel
theorem dX6_day_14 : decode cX6_day 14 = .ok (.iload_n 1, 1) := by decide +kernel
theorem dX6_day_15 : decode cX6_day 15 = .ok (.invokevirtual 156, 3) := by decide +kernel
theorem dX6_day_18 : decode cX6_day 18 = .ok (.ifCond .ne 7, 3) := by decide +kernel
theorem dX6_day_21 : decode cX6_day 21 = .ok (.sipush (-10002), 3) := by decide +kernel
theorem dX6_day_24 : decode cX6_day 24 = .ok (.ireturn, 1) := by decide +kernel
theorem dX6_day_25 : decode cX6_day 25 = .ok (.aload_n 0, 1) := by decide +kernel
theorem dX6_day_26 : decode cX6_day 26 = .ok (.invokevirtual 181, 3) := by decide +kernel
theorem dX6_day_29 : decode cX6_day 29 = .ok (.iload_n 2, 1) := by decide +kernel
theorem dX6_day_30 : decode cX6_day 30 = .ok (.ifCond .ne 11, 3) := by decide +kernel
theorem dX6_day_33 : decode cX6_day 33 = .ok (.aload_n 0, 1) := by decide +kernel
theorem dX6_day_34 : decode cX6_day 34 = .ok (.iload_n 1, 1) := by decide +kernel
theorem dX6_day_35 : decode cX6_day 35 = .ok (.invokevirtual 175, 3) := by decide +kernel
theorem dX6_day_38 : decode cX6_day 38 = .ok (.goto 21, 3) := by decide +kernel
theorem dX6_day_41 : decode cX6_day 41 = .ok (.iload_n 2, 1) := by decide +kernel
theorem dX6_day_42 : decode cX6_day 42 = .ok (.iconst 1, 1) := by decide +kernel
theorem dX6_day_43 : decode cX6_day 43 = .ok (.if_icmp .ne 11, 3) := by decide +kernel
theorem dX6_day_46 : decode cX6_day 46 = .ok (.aload_n 0, 1) := by decide +kernel
theorem dX6_day_47 : decode cX6_day 47 = .ok (.iload_n 1, 1) := by decide +kernel
theorem dX6_day_48 : decode cX6_day 48 = .ok (.invokevirtual 184, 3) := by decide +kernel
theorem dX6_day_51 : decode cX6_day 51 = .ok (.goto 8, 3) := by decide +kernel
theorem dX6_day_54 : decode cX6_day 54 = .ok (.aload_n 0, 1) := by decide +kernel
theorem dX6_day_55 : decode cX6_day 55 = .ok (.iload_n 1, 1) := by decide +kernel
theorem dX6_day_56 : decode cX6_day 56 = .ok (.invokevirtual 187, 3) := by decide +kernel
theorem dX6_day_59 : decode cX6_day 59 = .ok (.ireturn, 1) := by decide +kernel
theorem dX6_looksThrough_0 : decode cX6_looksThrough 0 = .ok (.aload_n 0, 1) := by decide +kernel
theorem dX6_looksThrough_1 : decode cX6_looksThrough 1 = .ok (.invokevirtual 181, 3) := by decide +kernel
theorem dX6_looksThrough_4 : decode cX6_looksThrough 4 = .ok (.aload_n 0, 1) := by decide +kernel
theorem dX6_looksThrough_5 : decode cX6_looksThrough 5 = .ok (.iconst 0, 1) := by decide +kernel
theorem dX6_looksThrough_6 : decode cX6_looksThrough 6 = .ok (.putfield 190, 3) := by decide +kernel
theorem dX6_looksThrough_9 : decode cX6_looksThrough 9 = .ok (.aload_n 0, 1) := by decide +kernel
theorem dX6_looksThrough_10 : decode cX6_looksThrough 10 = .ok (.bipush (-5), 2) := by decide +kernel
theorem dX6_looksThrough_12 : decode cX6_looksThrough 12 = .ok (.putfield 193, 3) := by decide +kernel
theorem dX6_looksThrough_15 : decode cX6_looksThrough 15 = .ok (.aload_n 0, 1) := by decide +kernel
theorem dX6_looksThrough_16 : decode cX6_looksThrough 16 = .ok (.bipush (-5), 2) := by decide +kernel
theorem dX6_looksThrough_18 : decode cX6_looksThrough 18 = .ok (.putfield 196, 3) := by decide +kernel
theorem dX6_looksThrough_21 : decode cX6_looksThrough 21 = .ok (.aload_n 0, 1) := by decide +kernel
theorem dX6_looksThrough_22 : decode cX6_looksThrough 22 = .ok (.bipush (-5), 2) := by decide +kernel
theorem dX6_looksThrough_24 : decode cX6_looksThrough 24 = .ok (.putfield 199, 3) := by decide +kernel
theorem dX6_looksThrough_27 : decode cX6_looksThrough 27 = .ok (.aload_n 0, 1) := by decide +kernel
theorem dX6_looksThrough_28 : decode cX6_looksThrough 28 = .ok (.iconst 0, 1) := by decide +kernel
theorem dX6_looksThrough_29 : decode cX6_looksThrough 29 = .ok (.putfield 202, 3) := by decide +kernel
theorem dX6_looksThrough_32 : decode cX6_looksThrough 32 = .ok (.iconst 0, 1) := by decide +kernel
theorem dX6_looksThrough_33 : decode cX6_looksThrough 33 = .ok (.istore_n 1, 1) := by decide +kernel
theorem dX6_looksThrough_34 : decode cX6_looksThrough 34 = .ok (.iload_n 1, 1) := by decide +kernel
theorem dX6_looksThrough_35 : decode cX6_looksThrough 35 = .ok (.aload_n 0, 1) := by decide +kernel
theorem dX6_looksThrough_36 : decode cX6_looksThrough 36 = .ok (.invokevirtual 49, 3) := by decide +kernel
theorem dX6_looksThrough_39 : decode cX6_looksThrough 39 = .ok (.if_icmp .ge 112, 3) := by decide +kernel
theorem dX6_looksThrough_42 : decode cX6_looksThrough 42 = .ok (.aload_n 0, 1) := by decide +kernel
theorem dX6_looksThrough_43 : decode cX6_looksThrough 43 = .ok (.iload_n 1, 1) := by decide +kernel
theorem dX6_looksThrough_44 : decode cX6_looksThrough 44 = .ok (.invokevirtual 205, 3) := by decide +kernel
theorem dX6_looksThrough_47 : decode cX6_looksThrough 47 = .ok (.ifCond .eq 98, 3) := by decide +kernel
theorem dX6_looksThrough_50 : decode cX6_looksThrough 50 = .ok (.aload_n 0, 1) := by decide +kernel
theorem dX6_looksThrough_51 : decode cX6_looksThrough 51 = .ok (.iload_n 1, 1) := by decide +kernel
theorem dX6_looksThrough_52 : decode cX6_looksThrough 52 = .ok (.invokevirtual 187, 3) := by decide +kernel
theorem dX6_looksThrough_55 : decode cX6_looksThrough 55 = .ok (.istore_n 2, 1) := by decide +kernel
theorem dX6_looksThrough_56 : decode cX6_looksThrough 56 = .ok (.aload_n 0, 1) := by decide +kernel
theorem dX6_looksThrough_57 : decode cX6_looksThrough 57 = .ok (.getfield 199, 3) := by decide +kernel
theorem dX6_looksThrough_60 : decode cX6_looksThrough 60 = .ok (.bipush (-5), 2) := by decide +kernel
theorem dX6_looksThrough_62 : decode cX6_looksThrough 62 = .ok (.if_icmp .eq 11, 3) := by decide +kernel
theorem dX6_looksThrough_65 : decode cX6_looksThrough 65 = .ok (.iload_n 2, 1) := by decide +kernel
theorem dX6_looksThrough_66 : decode cX6_looksThrough 66 = .ok (.aload_n 0, 1) := by decide +kernel
theorem dX6_looksThrough_67 : decode cX6_looksThrough 67 = .ok (.getfield 202, 3) := by decide +kernel
theorem dX6_looksThrough_70 : decode cX6_looksThrough 70 = .ok (.if_icmp .le 7, 3) := by decide +kernel
theorem dX6_looksThrough_73 : decode cX6_looksThrough 73 = .ok (.iconst 1, 1) := by decide +kernel
theorem dX6_looksThrough_74 : decode cX6_looksThrough 74 = .ok (.goto 4, 3) := by decide +kernel
theorem dX6_looksThrough_77 : decode cX6_looksThrough 77 = .ok (.iconst 0, 1) := by decide +kernel
theorem dX6_looksThrough_78 : decode cX6_looksThrough 78 = .ok (.istore_n 3, 1) := by decide +kernel
theorem dX6_looksThrough_79 : decode cX6_looksThrough 79 = .ok (.aload_n 0, 1) := by decide +kernel
theorem dX6_looksThrough_80 : decode cX6_looksThrough 80 = .ok (.iload_n 3, 1) := by decide +kernel
theorem dX6_looksThrough_81 : decode cX6_looksThrough 81 = .ok (.ifCond .eq 7, 3) := by decide +kernel
theorem dX6_looksThrough_84 : decode cX6_looksThrough 84 = .ok (.iload_n 1, 1) := by decide +kernel
theorem dX6_looksThrough_85 : decode cX6_looksThrough 85 = .ok (.goto 7, 3) := by decide +kernel
theorem dX6_looksThrough_88 : decode cX6_looksThrough 88 = .ok (.aload_n 0, 1) := by decide +kernel
theorem dX6_looksThrough_89 : decode cX6_looksThrough 89 = .ok (.getfield 199, 3) := by decide +kernel
theorem dX6_looksThrough_92 : decode cX6_looksThrough 92 = .ok (.putfield 199, 3) := by decide +kernel
theorem dX6_looksThrough_95 : decode cX6_looksThrough 95 = .ok (.aload_n 0, 1) := by decide +kernel
theorem dX6_looksThrough_96 : decode cX6_looksThrough 96 = .ok (.iload_n 3, 1) := by decide +kernel
theorem dX6_looksThrough_97 : decode cX6_looksThrough 97 = .ok (.ifCond .eq 7, 3) := by decide +kernel
theorem dX6_looksThrough_100 : decode cX6_looksThrough 100 = .ok (.iload_n 2, 1) := by decide +kernel
theorem dX6_looksThrough_101 : decode cX6_looksThrough 101 = .ok (.goto 7, 3) := by decide +kernel
theorem dX6_looksThrough_104 : decode cX6_looksThrough 104 = .ok (.aload_n 0, 1) := by decide +kernel
theorem dX6_looksThrough_105 : decode cX6_looksThrough 105 = .ok (.getfield 202, 3) := by decide +kernel
theorem dX6_looksThrough_108 : decode cX6_looksThrough 108 = .ok (.putfield 202, 3) := by decide +kernel
theorem dX6_looksThrough_111 : decode cX6_looksThrough 111 = .ok (.aload_n 0, 1) := by decide +kernel
theorem dX6_looksThrough_112 : decode cX6_looksThrough 112 = .ok (.aload_n 0, 1) := by decide +kernel
theorem dX6_looksThrough_113 : decode cX6_looksThrough 113 = .ok (.getfield 190, 3) := by decide +kernel
theorem dX6_looksThrough_116 : decode cX6_looksThrough 116 = .ok (.ifCond .ne 7, 3) := by decide +kernel
theorem dX6_looksThrough_119 : decode cX6_looksThrough 119 = .ok (.iload_n 1, 1) := by decide +kernel
theorem dX6_looksThrough_120 : decode cX6_looksThrough 120 = .ok (.goto 7, 3) := by decide +kernel
theorem dX6_looksThrough_123 : decode cX6_looksThrough 123 = .ok (.aload_n 0, 1) := by decide +kernel
theorem dX6_looksThrough_124 : decode cX6_looksThrough 124 = .ok (.getfield 193, 3) := by decide +kernel
theorem dX6_looksThrough_127 : decode cX6_looksThrough 127 = .ok (.putfield 193, 3) := by decide +kernel
theorem dX6_looksThrough_130 : decode cX6_looksThrough 130 = .ok (.aload_n 0, 1) := by decide +kernel
theorem dX6_looksThrough_131 : decode cX6_looksThrough 131 = .ok (.iload_n 1, 1) := by decide +kernel
theorem dX6_looksThrough_132 : decode cX6_looksThrough 132 = .ok (.putfield 196, 3) := by decide +kernel
theorem dX6_looksThrough_135 : decode cX6_looksThrough 135 = .ok (.aload_n 0, 1) := by decide +kernel
theorem dX6_looksThrough_136 : decode cX6_looksThrough 136 = .ok (.dup, 1) := by decide +kernel
theorem dX6_looksThrough_137 : decode cX6_looksThrough 137 = .ok (.getfield 190, 3) := by decide +kernel
theorem dX6_looksThrough_140 : decode cX6_looksThrough 140 = .ok (.iconst 1, 1) := by decide +kernel
theorem dX6_looksThrough_141 : decode cX6_looksThrough 141 = .ok (.iadd, 1) := by decide +kernel
theorem dX6_looksThrough_142 : decode cX6_looksThrough 142 = .ok (.putfield 190, 3) := by decide +kernel
theorem dX6_looksThrough_145 : decode cX6_looksThrough 145 = .ok (.iinc 1 1, 3) := by decide +kernel
theorem dX6_looksThrough_148 : decode cX6_looksThrough 148 = .ok (.goto (-114), 3) := by decide +kernel
theorem dX6_looksThrough_151 : decode cX6_looksThrough 151 = .ok (.return_, 1) := by decide +kernel
theorem dX6_all_0 : decode cX6_all 0 = .ok (.iload_n 1, 1) := by decide +kernel
theorem dX6_all_1 : decode cX6_all 1 = .ok (.iconst 0, 1) := by decide +kernel
theorem dX6_all_2 : decode cX6_all 2 = .ok (.iconst 4, 1) := by decide +kernel
theorem dX6_all_3 : decode cX6_all 3 = .ok (.invokestatic 45, 3) := by decide +kernel
theorem dX6_all_6 : decode cX6_all 6 = .ok (.ifCond .ne 7, 3) := by decide +kernel
theorem dX6_all_9 : decode cX6_all 9 = .ok (.sipush (-10001), 3) := by decide +kernel
theorem dX6_all_12 : decode cX6_all 12 = .ok (.ireturn, 1) := by decide +kernel
theorem dX6_all_13 : decode cX6_all 13 = .ok (.aload_n 0, 1) := by decide +kernel
theorem dX6_all_14 : decode cX6_all 14 = .ok (.invokevirtual 208, 3) := by decide +kernel
theorem dX6_all_17 : decode cX6_all 17 = .ok (.iload_n 1, 1) := by decide +kernel
theorem dX6_all_18 : decode cX6_all 18 = .ok (.tableswitch 50 0 3 #[30, 35, 40, 45], 30) := by decide +kernel
theorem dX6_all_48 : decode cX6_all 48 = .ok (.aload_n 0, 1) := by decide +kernel
theorem dX6_all_49 : decode cX6_all 49 = .ok (.getfield 190, 3) := by decide +kernel
theorem dX6_all_52 : decode cX6_all 52 = .ok (.ireturn, 1) := by decide +kernel
theorem dX6_all_53 : decode cX6_all 53 = .ok (.aload_n 0, 1) := by decide +kernel
theorem dX6_all_54 : decode cX6_all 54 = .ok (.getfield 193, 3) := by decide +kernel
theorem dX6_all_57 : decode cX6_all 57 = .ok (.ireturn, 1) := by decide +kernel
theorem dX6_all_58 : decode cX6_all 58 = .ok (.aload_n 0, 1) := by decide +kernel
theorem dX6_all_59 : decode cX6_all 59 = .ok (.getfield 196, 3) := by decide +kernel
theorem dX6_all_62 : decode cX6_all 62 = .ok (.ireturn, 1) := by decide +kernel
theorem dX6_all_63 : decode cX6_all 63 = .ok (.aload_n 0, 1) := by decide +kernel
theorem dX6_all_64 : decode cX6_all 64 = .ok (.getfield 199, 3) := by decide +kernel
theorem dX6_all_67 : decode cX6_all 67 = .ok (.ireturn, 1) := by decide +kernel
theorem dX6_all_68 : decode cX6_all 68 = .ok (.aload_n 0, 1) := by decide +kernel
theorem dX6_all_69 : decode cX6_all 69 = .ok (.getfield 190, 3) := by decide +kernel
theorem dX6_all_72 : decode cX6_all 72 = .ok (.ifCond .ne 8, 3) := by decide +kernel
theorem dX6_all_75 : decode cX6_all 75 = .ok (.bipush (-5), 2) := by decide +kernel
theorem dX6_all_77 : decode cX6_all 77 = .ok (.goto 7, 3) := by decide +kernel
theorem dX6_all_80 : decode cX6_all 80 = .ok (.aload_n 0, 1) := by decide +kernel
theorem dX6_all_81 : decode cX6_all 81 = .ok (.getfield 202, 3) := by decide +kernel
theorem dX6_all_84 : decode cX6_all 84 = .ok (.ireturn, 1) := by decide +kernel
theorem dX6_once_0 : decode cX6_once 0 = .ok (.aload_n 0, 1) := by decide +kernel
theorem dX6_once_1 : decode cX6_once 1 = .ok (.iload_n 2, 1) := by decide +kernel
theorem dX6_once_2 : decode cX6_once 2 = .ok (.invokevirtual 152, 3) := by decide +kernel
theorem dX6_once_5 : decode cX6_once 5 = .ok (.ifCond .eq 20, 3) := by decide +kernel
theorem dX6_once_8 : decode cX6_once 8 = .ok (.iload_n 3, 1) := by decide +kernel
theorem dX6_once_9 : decode cX6_once 9 = .ok (.invokestatic 178, 3) := by decide +kernel
theorem dX6_once_12 : decode cX6_once 12 = .ok (.ifCond .eq 13, 3) := by decide +kernel
theorem dX6_once_15 : decode cX6_once 15 = .ok (.iload 4, 2) := by decide +kernel
theorem dX6_once_17 : decode cX6_once 17 = .ok (.iconst 0, 1) := by decide +kernel
theorem dX6_once_18 : decode cX6_once 18 = .ok (.iconst 1, 1) := by decide +kernel
theorem dX6_once_19 : decode cX6_once 19 = .ok (.invokestatic 45, 3) := by decide +kernel
theorem dX6_once_22 : decode cX6_once 22 = .ok (.ifCond .ne 5, 3) := by decide +kernel
theorem dX6_once_25 : decode cX6_once 25 = .ok (.iconst (-1), 1) := by decide +kernel
theorem dX6_once_26 : decode cX6_once 26 = .ok (.ireturn, 1) := by decide +kernel
theorem dX6_once_27 : decode cX6_once 27 = .ok (.aload_n 0, 1) := by decide +kernel
theorem dX6_once_28 : decode cX6_once 28 = .ok (.iload_n 1, 1) := by decide +kernel
theorem dX6_once_29 : decode cX6_once 29 = .ok (.invokevirtual 156, 3) := by decide +kernel
theorem dX6_once_32 : decode cX6_once 32 = .ok (.ifCond .ne 6, 3) := by decide +kernel
theorem dX6_once_35 : decode cX6_once 35 = .ok (.bipush (-2), 2) := by decide +kernel
theorem dX6_once_37 : decode cX6_once 37 = .ok (.ireturn, 1) := by decide +kernel
theorem dX6_once_38 : decode cX6_once 38 = .ok (.aload_n 0, 1) := by decide +kernel
theorem dX6_once_39 : decode cX6_once 39 = .ok (.invokevirtual 181, 3) := by decide +kernel
theorem dX6_once_42 : decode cX6_once 42 = .ok (.iload_n 1, 1) := by decide +kernel
theorem dX6_once_43 : decode cX6_once 43 = .ok (.iconst 1, 1) := by decide +kernel
theorem dX6_once_44 : decode cX6_once 44 = .ok (.iconst 3, 1) := by decide +kernel
theorem dX6_once_45 : decode cX6_once 45 = .ok (.iload_n 2, 1) := by decide +kernel
theorem dX6_once_46 : decode cX6_once 46 = .ok (.imul, 1) := by decide +kernel
theorem dX6_once_47 : decode cX6_once 47 = .ok (.iload_n 3, 1) := by decide +kernel
theorem dX6_once_48 : decode cX6_once 48 = .ok (.iadd, 1) := by decide +kernel
theorem dX6_once_49 : decode cX6_once 49 = .ok (.ishl, 1) := by decide +kernel
theorem dX6_once_50 : decode cX6_once 50 = .ok (.ixor, 1) := by decide +kernel
theorem dX6_once_51 : decode cX6_once 51 = .ok (.istore 5, 2) := by decide +kernel
theorem dX6_once_53 : decode cX6_once 53 = .ok (.iconst 0, 1) := by decide +kernel
theorem dX6_once_54 : decode cX6_once 54 = .ok (.istore 6, 2) := by decide +kernel
theorem dX6_once_56 : decode cX6_once 56 = .ok (.iload 6, 2) := by decide +kernel
theorem dX6_once_58 : decode cX6_once 58 = .ok (.bipush 60, 2) := by decide +kernel
theorem dX6_once_60 : decode cX6_once 60 = .ok (.if_icmp .gt 41, 3) := by decide +kernel
theorem dX6_once_63 : decode cX6_once 63 = .ok (.aload_n 0, 1) := by decide +kernel
theorem dX6_once_64 : decode cX6_once 64 = .ok (.iload 5, 2) := by decide +kernel
theorem dX6_once_66 : decode cX6_once 66 = .ok (.invokevirtual 184, 3) := by decide +kernel
theorem dX6_once_69 : decode cX6_once 69 = .ok (.istore 7, 2) := by decide +kernel
theorem dX6_once_71 : decode cX6_once 71 = .ok (.iload 7, 2) := by decide +kernel
theorem dX6_once_73 : decode cX6_once 73 = .ok (.iload 5, 2) := by decide +kernel
theorem dX6_once_75 : decode cX6_once 75 = .ok (.if_icmp .ne 16, 3) := by decide +kernel
theorem dX6_once_78 : decode cX6_once 78 = .ok (.iload 4, 2) := by decide +kernel
theorem dX6_once_80 : decode cX6_once 80 = .ok (.ifCond .ne 8, 3) := by decide +kernel
theorem dX6_once_83 : decode cX6_once 83 = .ok (.iload 6, 2) := by decide +kernel
theorem dX6_once_85 : decode cX6_once 85 = .ok (.goto 5, 3) := by decide +kernel
theorem dX6_once_88 : decode cX6_once 88 = .ok (.iload 5, 2) := by decide +kernel
theorem dX6_once_90 : decode cX6_once 90 = .ok (.ireturn, 1) := by decide +kernel
theorem dX6_once_91 : decode cX6_once 91 = .ok (.iload 7, 2) := by decide +kernel
theorem dX6_once_93 : decode cX6_once 93 = .ok (.istore 5, 2) := by decide +kernel
theorem dX6_once_95 : decode cX6_once 95 = .ok (.iinc 6 1, 3) := by decide +kernel
theorem dX6_once_98 : decode cX6_once 98 = .ok (.goto (-42), 3) := by decide +kernel
theorem dX6_once_101 : decode cX6_once 101 = .ok (.bipush (-5), 2) := by decide +kernel
theorem dX6_once_103 : decode cX6_once 103 = .ok (.ireturn, 1) := by decide +kernel
theorem dX6_again_0 : decode cX6_again 0 = .ok (.iload_n 2, 1) := by decide +kernel
theorem dX6_again_1 : decode cX6_again 1 = .ok (.iconst 0, 1) := by decide +kernel
theorem dX6_again_2 : decode cX6_again 2 = .ok (.iconst 1, 1) := by decide +kernel
theorem dX6_again_3 : decode cX6_again 3 = .ok (.invokestatic 45, 3) := by decide +kernel
theorem dX6_again_6 : decode cX6_again 6 = .ok (.ifCond .ne 5, 3) := by decide +kernel
theorem dX6_again_9 : decode cX6_again 9 = .ok (.iconst (-1), 1) := by decide +kernel
theorem dX6_again_10 : decode cX6_again 10 = .ok (.ireturn, 1) := by decide +kernel
theorem dX6_again_11 : decode cX6_again 11 = .ok (.aload_n 0, 1) := by decide +kernel
theorem dX6_again_12 : decode cX6_again 12 = .ok (.iload_n 1, 1) := by decide +kernel
theorem dX6_again_13 : decode cX6_again 13 = .ok (.invokevirtual 156, 3) := by decide +kernel
theorem dX6_again_16 : decode cX6_again 16 = .ok (.ifCond .ne 6, 3) := by decide +kernel
theorem dX6_again_19 : decode cX6_again 19 = .ok (.bipush (-2), 2) := by decide +kernel
theorem dX6_again_21 : decode cX6_again 21 = .ok (.ireturn, 1) := by decide +kernel
theorem dX6_again_22 : decode cX6_again 22 = .ok (.aload_n 0, 1) := by decide +kernel
theorem dX6_again_23 : decode cX6_again 23 = .ok (.invokevirtual 181, 3) := by decide +kernel
theorem dX6_again_26 : decode cX6_again 26 = .ok (.aload_n 0, 1) := by decide +kernel
theorem dX6_again_27 : decode cX6_again 27 = .ok (.getfield 29, 3) := by decide +kernel
theorem dX6_again_30 : decode cX6_again 30 = .ok (.iconst 0, 1) := by decide +kernel
theorem dX6_again_31 : decode cX6_again 31 = .ok (.iload_n 1, 1) := by decide +kernel
theorem dX6_again_32 : decode cX6_again 32 = .ok (.iastore, 1) := by decide +kernel
theorem dX6_again_33 : decode cX6_again 33 = .ok (.iconst 1, 1) := by decide +kernel
theorem dX6_again_34 : decode cX6_again 34 = .ok (.istore_n 3, 1) := by decide +kernel
theorem dX6_again_35 : decode cX6_again 35 = .ok (.iload_n 3, 1) := by decide +kernel
theorem dX6_again_36 : decode cX6_again 36 = .ok (.sipush 200, 3) := by decide +kernel
theorem dX6_again_39 : decode cX6_again 39 = .ok (.if_icmp .gt 71, 3) := by decide +kernel
theorem dX6_again_42 : decode cX6_again 42 = .ok (.aload_n 0, 1) := by decide +kernel
theorem dX6_again_43 : decode cX6_again 43 = .ok (.getfield 29, 3) := by decide +kernel
theorem dX6_again_46 : decode cX6_again 46 = .ok (.iload_n 3, 1) := by decide +kernel
theorem dX6_again_47 : decode cX6_again 47 = .ok (.aload_n 0, 1) := by decide +kernel
theorem dX6_again_48 : decode cX6_again 48 = .ok (.aload_n 0, 1) := by decide +kernel
theorem dX6_again_49 : decode cX6_again 49 = .ok (.getfield 29, 3) := by decide +kernel
theorem dX6_again_52 : decode cX6_again 52 = .ok (.iload_n 3, 1) := by decide +kernel
theorem dX6_again_53 : decode cX6_again 53 = .ok (.iconst 1, 1) := by decide +kernel
theorem dX6_again_54 : decode cX6_again 54 = .ok (.isub, 1) := by decide +kernel
theorem dX6_again_55 : decode cX6_again 55 = .ok (.iaload, 1) := by decide +kernel
theorem dX6_again_56 : decode cX6_again 56 = .ok (.invokevirtual 184, 3) := by decide +kernel
theorem dX6_again_59 : decode cX6_again 59 = .ok (.iastore, 1) := by decide +kernel
theorem dX6_again_60 : decode cX6_again 60 = .ok (.iconst 0, 1) := by decide +kernel
theorem dX6_again_61 : decode cX6_again 61 = .ok (.istore 4, 2) := by decide +kernel
theorem dX6_again_63 : decode cX6_again 63 = .ok (.iload 4, 2) := by decide +kernel
theorem dX6_again_65 : decode cX6_again 65 = .ok (.iload_n 3, 1) := by decide +kernel
theorem dX6_again_66 : decode cX6_again 66 = .ok (.if_icmp .ge 38, 3) := by decide +kernel
theorem dX6_again_69 : decode cX6_again 69 = .ok (.aload_n 0, 1) := by decide +kernel
theorem dX6_again_70 : decode cX6_again 70 = .ok (.getfield 29, 3) := by decide +kernel
theorem dX6_again_73 : decode cX6_again 73 = .ok (.iload 4, 2) := by decide +kernel
theorem dX6_again_75 : decode cX6_again 75 = .ok (.iaload, 1) := by decide +kernel
theorem dX6_again_76 : decode cX6_again 76 = .ok (.aload_n 0, 1) := by decide +kernel
theorem dX6_again_77 : decode cX6_again 77 = .ok (.getfield 29, 3) := by decide +kernel
theorem dX6_again_80 : decode cX6_again 80 = .ok (.iload_n 3, 1) := by decide +kernel
theorem dX6_again_81 : decode cX6_again 81 = .ok (.iaload, 1) := by decide +kernel
theorem dX6_again_82 : decode cX6_again 82 = .ok (.if_icmp .ne 16, 3) := by decide +kernel
theorem dX6_again_85 : decode cX6_again 85 = .ok (.iload_n 2, 1) := by decide +kernel
theorem dX6_again_86 : decode cX6_again 86 = .ok (.ifCond .ne 7, 3) := by decide +kernel
theorem dX6_again_89 : decode cX6_again 89 = .ok (.iload_n 3, 1) := by decide +kernel
theorem dX6_again_90 : decode cX6_again 90 = .ok (.goto 7, 3) := by decide +kernel
theorem dX6_again_93 : decode cX6_again 93 = .ok (.iload_n 3, 1) := by decide +kernel
theorem dX6_again_94 : decode cX6_again 94 = .ok (.iload 4, 2) := by decide +kernel
theorem dX6_again_96 : decode cX6_again 96 = .ok (.isub, 1) := by decide +kernel
theorem dX6_again_97 : decode cX6_again 97 = .ok (.ireturn, 1) := by decide +kernel
theorem dX6_again_98 : decode cX6_again 98 = .ok (.iinc 4 1, 3) := by decide +kernel
theorem dX6_again_101 : decode cX6_again 101 = .ok (.goto (-38), 3) := by decide +kernel
theorem dX6_again_104 : decode cX6_again 104 = .ok (.iinc 3 1, 3) := by decide +kernel
theorem dX6_again_107 : decode cX6_again 107 = .ok (.goto (-72), 3) := by decide +kernel
theorem dX6_again_110 : decode cX6_again 110 = .ok (.bipush (-5), 2) := by decide +kernel
theorem dX6_again_112 : decode cX6_again 112 = .ok (.ireturn, 1) := by decide +kernel
theorem dX6_morningComes_0 : decode cX6_morningComes 0 = .ok (.aload_n 0, 1) := by decide +kernel
theorem dX6_morningComes_1 : decode cX6_morningComes 1 = .ok (.invokevirtual 208, 3) := by decide +kernel
theorem dX6_morningComes_4 : decode cX6_morningComes 4 = .ok (.aload_n 0, 1) := by decide +kernel
theorem dX6_morningComes_5 : decode cX6_morningComes 5 = .ok (.getfield 190, 3) := by decide +kernel
theorem dX6_morningComes_8 : decode cX6_morningComes 8 = .ok (.ifCond .le 10, 3) := by decide +kernel
theorem dX6_morningComes_11 : decode cX6_morningComes 11 = .ok (.aload_n 0, 1) := by decide +kernel
theorem dX6_morningComes_12 : decode cX6_morningComes 12 = .ok (.getfield 199, 3) := by decide +kernel
theorem dX6_morningComes_15 : decode cX6_morningComes 15 = .ok (.goto 13, 3) := by decide +kernel
theorem dX6_morningComes_18 : decode cX6_morningComes 18 = .ok (.aload_n 0, 1) := by decide +kernel
theorem dX6_morningComes_19 : decode cX6_morningComes 19 = .ok (.aload_n 0, 1) := by decide +kernel
theorem dX6_morningComes_20 : decode cX6_morningComes 20 = .ok (.getfield 7, 3) := by decide +kernel
theorem dX6_morningComes_23 : decode cX6_morningComes 23 = .ok (.iconst 5, 1) := by decide +kernel
theorem dX6_morningComes_24 : decode cX6_morningComes 24 = .ok (.iaload, 1) := by decide +kernel
theorem dX6_morningComes_25 : decode cX6_morningComes 25 = .ok (.invokevirtual 184, 3) := by decide +kernel
theorem dX6_morningComes_28 : decode cX6_morningComes 28 = .ok (.istore_n 1, 1) := by decide +kernel
theorem dX6_morningComes_29 : decode cX6_morningComes 29 = .ok (.aload_n 0, 1) := by decide +kernel
theorem dX6_morningComes_30 : decode cX6_morningComes 30 = .ok (.aload_n 0, 1) := by decide +kernel
theorem dX6_morningComes_31 : decode cX6_morningComes 31 = .ok (.iload_n 1, 1) := by decide +kernel
theorem dX6_morningComes_32 : decode cX6_morningComes 32 = .ok (.invokevirtual 187, 3) := by decide +kernel
theorem dX6_morningComes_35 : decode cX6_morningComes 35 = .ok (.putfield 211, 3) := by decide +kernel
theorem dX6_morningComes_38 : decode cX6_morningComes 38 = .ok (.aload_n 0, 1) := by decide +kernel
theorem dX6_morningComes_39 : decode cX6_morningComes 39 = .ok (.getfield 7, 3) := by decide +kernel
theorem dX6_morningComes_42 : decode cX6_morningComes 42 = .ok (.iconst 5, 1) := by decide +kernel
theorem dX6_morningComes_43 : decode cX6_morningComes 43 = .ok (.iload_n 1, 1) := by decide +kernel
theorem dX6_morningComes_44 : decode cX6_morningComes 44 = .ok (.iastore, 1) := by decide +kernel
theorem dX6_morningComes_45 : decode cX6_morningComes 45 = .ok (.iconst 0, 1) := by decide +kernel
theorem dX6_morningComes_46 : decode cX6_morningComes 46 = .ok (.istore_n 2, 1) := by decide +kernel
theorem dX6_morningComes_47 : decode cX6_morningComes 47 = .ok (.iload_n 2, 1) := by decide +kernel
theorem dX6_morningComes_48 : decode cX6_morningComes 48 = .ok (.aload_n 0, 1) := by decide +kernel
theorem dX6_morningComes_49 : decode cX6_morningComes 49 = .ok (.getfield 7, 3) := by decide +kernel
theorem dX6_morningComes_52 : decode cX6_morningComes 52 = .ok (.iconst 0, 1) := by decide +kernel
theorem dX6_morningComes_53 : decode cX6_morningComes 53 = .ok (.iaload, 1) := by decide +kernel
theorem dX6_morningComes_54 : decode cX6_morningComes 54 = .ok (.if_icmp .ge 69, 3) := by decide +kernel
theorem dX6_morningComes_57 : decode cX6_morningComes 57 = .ok (.iconst 0, 1) := by decide +kernel
theorem dX6_morningComes_58 : decode cX6_morningComes 58 = .ok (.istore_n 3, 1) := by decide +kernel
theorem dX6_morningComes_59 : decode cX6_morningComes 59 = .ok (.iconst 0, 1) := by decide +kernel
theorem dX6_morningComes_60 : decode cX6_morningComes 60 = .ok (.istore 4, 2) := by decide +kernel
theorem dX6_morningComes_62 : decode cX6_morningComes 62 = .ok (.iload 4, 2) := by decide +kernel
theorem dX6_morningComes_64 : decode cX6_morningComes 64 = .ok (.iconst 3, 1) := by decide +kernel
theorem dX6_morningComes_65 : decode cX6_morningComes 65 = .ok (.if_icmp .ge 27, 3) := by decide +kernel
theorem dX6_morningComes_68 : decode cX6_morningComes 68 = .ok (.iload_n 3, 1) := by decide +kernel
theorem dX6_morningComes_69 : decode cX6_morningComes 69 = .ok (.iload_n 1, 1) := by decide +kernel
theorem dX6_morningComes_70 : decode cX6_morningComes 70 = .ok (.iload_n 2, 1) := by decide +kernel
theorem dX6_morningComes_71 : decode cX6_morningComes 71 = .ok (.iload 4, 2) := by decide +kernel
theorem dX6_morningComes_73 : decode cX6_morningComes 73 = .ok (.invokestatic 138, 3) := by decide +kernel
theorem dX6_morningComes_76 : decode cX6_morningComes 76 = .ok (.ifCond .eq 7, 3) := by decide +kernel
theorem dX6_morningComes_79 : decode cX6_morningComes 79 = .ok (.iconst 1, 1) := by decide +kernel
theorem dX6_morningComes_80 : decode cX6_morningComes 80 = .ok (.goto 4, 3) := by decide +kernel
theorem dX6_morningComes_83 : decode cX6_morningComes 83 = .ok (.iconst 0, 1) := by decide +kernel
theorem dX6_morningComes_84 : decode cX6_morningComes 84 = .ok (.iadd, 1) := by decide +kernel
theorem dX6_morningComes_85 : decode cX6_morningComes 85 = .ok (.istore_n 3, 1) := by decide +kernel
theorem dX6_morningComes_86 : decode cX6_morningComes 86 = .ok (.iinc 4 1, 3) := by decide +kernel
theorem dX6_morningComes_89 : decode cX6_morningComes 89 = .ok (.goto (-27), 3) := by decide +kernel
theorem dX6_morningComes_92 : decode cX6_morningComes 92 = .ok (.aload_n 0, 1) := by decide +kernel
theorem dX6_morningComes_93 : decode cX6_morningComes 93 = .ok (.getfield 7, 3) := by decide +kernel
theorem dX6_morningComes_96 : decode cX6_morningComes 96 = .ok (.bipush 122, 2) := by decide +kernel
theorem dX6_morningComes_98 : decode cX6_morningComes 98 = .ok (.iload_n 2, 1) := by decide +kernel
theorem dX6_morningComes_99 : decode cX6_morningComes 99 = .ok (.iadd, 1) := by decide +kernel
theorem dX6_morningComes_100 : decode cX6_morningComes 100 = .ok (.iload_n 3, 1) := by decide +kernel
theorem dX6_morningComes_101 : decode cX6_morningComes 101 = .ok (.aload_n 0, 1) := by decide +kernel
theorem dX6_morningComes_102 : decode cX6_morningComes 102 = .ok (.sipush 136, 3) := by decide +kernel
theorem dX6_morningComes_105 : decode cX6_morningComes 105 = .ok (.invokevirtual 125, 3) := by decide +kernel
theorem dX6_morningComes_108 : decode cX6_morningComes 108 = .ok (.if_icmp .lt 7, 3) := by decide +kernel
theorem dX6_morningComes_111 : decode cX6_morningComes 111 = .ok (.iconst 1, 1) := by decide +kernel
theorem dX6_morningComes_112 : decode cX6_morningComes 112 = .ok (.goto 4, 3) := by decide +kernel
theorem dX6_morningComes_115 : decode cX6_morningComes 115 = .ok (.iconst 0, 1) := by decide +kernel
theorem dX6_morningComes_116 : decode cX6_morningComes 116 = .ok (.iastore, 1) := by decide +kernel
theorem dX6_morningComes_117 : decode cX6_morningComes 117 = .ok (.iinc 2 1, 3) := by decide +kernel
theorem dX6_morningComes_120 : decode cX6_morningComes 120 = .ok (.goto (-73), 3) := by decide +kernel
theorem dX6_morningComes_123 : decode cX6_morningComes 123 = .ok (.iload_n 1, 1) := by decide +kernel
theorem dX6_morningComes_124 : decode cX6_morningComes 124 = .ok (.ireturn, 1) := by decide +kernel
theorem dX6_morning_0 : decode cX6_morning 0 = .ok (.aload_n 0, 1) := by decide +kernel
theorem dX6_morning_1 : decode cX6_morning 1 = .ok (.invokevirtual 214, 3) := by decide +kernel
theorem dX6_morning_4 : decode cX6_morning 4 = .ok (.ireturn, 1) := by decide +kernel
theorem dX6_year_0 : decode cX6_year 0 = .ok (.iload_n 2, 1) := by decide +kernel
theorem dX6_year_1 : decode cX6_year 1 = .ok (.iconst 0, 1) := by decide +kernel
theorem dX6_year_2 : decode cX6_year 2 = .ok (.iconst 1, 1) := by decide +kernel
theorem dX6_year_3 : decode cX6_year 3 = .ok (.invokestatic 45, 3) := by decide +kernel
theorem dX6_year_6 : decode cX6_year 6 = .ok (.ifCond .ne 7, 3) := by decide +kernel
theorem dX6_year_9 : decode cX6_year 9 = .ok (.sipush (-10001), 3) := by decide +kernel
theorem dX6_year_12 : decode cX6_year 12 = .ok (.ireturn, 1) := by decide +kernel
theorem dX6_year_13 : decode cX6_year 13 = .ok (.iload_n 1, 1) := by decide +kernel
theorem dX6_year_14 : decode cX6_year 14 = .ok (.iconst 1, 1) := by decide +kernel
theorem dX6_year_15 : decode cX6_year 15 = .ok (.bipush 30, 2) := by decide +kernel
theorem dX6_year_17 : decode cX6_year 17 = .ok (.invokestatic 45, 3) := by decide +kernel
theorem dX6_year_20 : decode cX6_year 20 = .ok (.ifCond .ne 7, 3) := by decide +kernel
theorem dX6_year_23 : decode cX6_year 23 = .ok (.sipush (-10002), 3) := by decide +kernel
theorem dX6_year_26 : decode cX6_year 26 = .ok (.ireturn, 1) := by decide +kernel
theorem dX6_year_27 : decode cX6_year 27 = .ok (.aload_n 0, 1) := by decide +kernel
theorem dX6_year_28 : decode cX6_year 28 = .ok (.getfield 7, 3) := by decide +kernel
theorem dX6_year_31 : decode cX6_year 31 = .ok (.iconst 5, 1) := by decide +kernel
theorem dX6_year_32 : decode cX6_year 32 = .ok (.iaload, 1) := by decide +kernel
theorem dX6_year_33 : decode cX6_year 33 = .ok (.istore_n 3, 1) := by decide +kernel
theorem dX6_year_34 : decode cX6_year 34 = .ok (.iconst 0, 1) := by decide +kernel
theorem dX6_year_35 : decode cX6_year 35 = .ok (.istore 4, 2) := by decide +kernel
theorem dX6_year_37 : decode cX6_year 37 = .ok (.iload 4, 2) := by decide +kernel
theorem dX6_year_39 : decode cX6_year 39 = .ok (.iconst 4, 1) := by decide +kernel
theorem dX6_year_40 : decode cX6_year 40 = .ok (.if_icmp .ge 26, 3) := by decide +kernel
theorem dX6_year_43 : decode cX6_year 43 = .ok (.aload_n 0, 1) := by decide +kernel
theorem dX6_year_44 : decode cX6_year 44 = .ok (.getfield 32, 3) := by decide +kernel
theorem dX6_year_47 : decode cX6_year 47 = .ok (.iload 4, 2) := by decide +kernel
theorem dX6_year_49 : decode cX6_year 49 = .ok (.aload_n 0, 1) := by decide +kernel
theorem dX6_year_50 : decode cX6_year 50 = .ok (.getfield 7, 3) := by decide +kernel
theorem dX6_year_53 : decode cX6_year 53 = .ok (.bipush 122, 2) := by decide +kernel
theorem dX6_year_55 : decode cX6_year 55 = .ok (.iload 4, 2) := by decide +kernel
theorem dX6_year_57 : decode cX6_year 57 = .ok (.iadd, 1) := by decide +kernel
theorem dX6_year_58 : decode cX6_year 58 = .ok (.iaload, 1) := by decide +kernel
theorem dX6_year_59 : decode cX6_year 59 = .ok (.iastore, 1) := by decide +kernel
theorem dX6_year_60 : decode cX6_year 60 = .ok (.iinc 4 1, 3) := by decide +kernel
theorem dX6_year_63 : decode cX6_year 63 = .ok (.goto (-26), 3) := by decide +kernel
theorem dX6_year_66 : decode cX6_year 66 = .ok (.iconst 0, 1) := by decide +kernel
theorem dX6_year_67 : decode cX6_year 67 = .ok (.istore 4, 2) := by decide +kernel
theorem dX6_year_69 : decode cX6_year 69 = .ok (.iconst 0, 1) := by decide +kernel
theorem dX6_year_70 : decode cX6_year 70 = .ok (.istore 5, 2) := by decide +kernel
theorem dX6_year_72 : decode cX6_year 72 = .ok (.iconst 0, 1) := by decide +kernel
theorem dX6_year_73 : decode cX6_year 73 = .ok (.istore 6, 2) := by decide +kernel
theorem dX6_year_75 : decode cX6_year 75 = .ok (.iload 6, 2) := by decide +kernel
theorem dX6_year_77 : decode cX6_year 77 = .ok (.iload_n 1, 1) := by decide +kernel
theorem dX6_year_78 : decode cX6_year 78 = .ok (.if_icmp .ge 41, 3) := by decide +kernel
theorem dX6_year_81 : decode cX6_year 81 = .ok (.aload_n 0, 1) := by decide +kernel
theorem dX6_year_82 : decode cX6_year 82 = .ok (.invokevirtual 214, 3) := by decide +kernel
theorem dX6_year_85 : decode cX6_year 85 = .ok (.istore 7, 2) := by decide +kernel
theorem dX6_year_87 : decode cX6_year 87 = .ok (.iload 4, 2) := by decide +kernel
theorem dX6_year_89 : decode cX6_year 89 = .ok (.aload_n 0, 1) := by decide +kernel
theorem dX6_year_90 : decode cX6_year 90 = .ok (.getfield 211, 3) := by decide +kernel
theorem dX6_year_93 : decode cX6_year 93 = .ok (.iadd, 1) := by decide +kernel
theorem dX6_year_94 : decode cX6_year 94 = .ok (.istore 4, 2) := by decide +kernel
theorem dX6_year_96 : decode cX6_year 96 = .ok (.iload 5, 2) := by decide +kernel
theorem dX6_year_98 : decode cX6_year 98 = .ok (.aload_n 0, 1) := by decide +kernel
theorem dX6_year_99 : decode cX6_year 99 = .ok (.getfield 190, 3) := by decide +kernel
theorem dX6_year_102 : decode cX6_year 102 = .ok (.ifCond .ne 7, 3) := by decide +kernel
theorem dX6_year_105 : decode cX6_year 105 = .ok (.iconst 1, 1) := by decide +kernel
theorem dX6_year_106 : decode cX6_year 106 = .ok (.goto 4, 3) := by decide +kernel
theorem dX6_year_109 : decode cX6_year 109 = .ok (.iconst 0, 1) := by decide +kernel
theorem dX6_year_110 : decode cX6_year 110 = .ok (.iadd, 1) := by decide +kernel
theorem dX6_year_111 : decode cX6_year 111 = .ok (.istore 5, 2) := by decide +kernel
theorem dX6_year_113 : decode cX6_year 113 = .ok (.iinc 6 1, 3) := by decide +kernel
theorem dX6_year_116 : decode cX6_year 116 = .ok (.goto (-41), 3) := by decide +kernel
theorem dX6_year_119 : decode cX6_year 119 = .ok (.aload_n 0, 1) := by decide +kernel
theorem dX6_year_120 : decode cX6_year 120 = .ok (.getfield 7, 3) := by decide +kernel
theorem dX6_year_123 : decode cX6_year 123 = .ok (.iconst 5, 1) := by decide +kernel
theorem dX6_year_124 : decode cX6_year 124 = .ok (.iload_n 3, 1) := by decide +kernel
theorem dX6_year_125 : decode cX6_year 125 = .ok (.iastore, 1) := by decide +kernel
theorem dX6_year_126 : decode cX6_year 126 = .ok (.iconst 0, 1) := by decide +kernel
theorem dX6_year_127 : decode cX6_year 127 = .ok (.istore 6, 2) := by decide +kernel
theorem dX6_year_129 : decode cX6_year 129 = .ok (.iload 6, 2) := by decide +kernel
theorem dX6_year_131 : decode cX6_year 131 = .ok (.iconst 4, 1) := by decide +kernel
theorem dX6_year_132 : decode cX6_year 132 = .ok (.if_icmp .ge 26, 3) := by decide +kernel
theorem dX6_year_135 : decode cX6_year 135 = .ok (.aload_n 0, 1) := by decide +kernel
theorem dX6_year_136 : decode cX6_year 136 = .ok (.getfield 7, 3) := by decide +kernel
theorem dX6_year_139 : decode cX6_year 139 = .ok (.bipush 122, 2) := by decide +kernel
theorem dX6_year_141 : decode cX6_year 141 = .ok (.iload 6, 2) := by decide +kernel
theorem dX6_year_143 : decode cX6_year 143 = .ok (.iadd, 1) := by decide +kernel
theorem dX6_year_144 : decode cX6_year 144 = .ok (.aload_n 0, 1) := by decide +kernel
theorem dX6_year_145 : decode cX6_year 145 = .ok (.getfield 32, 3) := by decide +kernel
theorem dX6_year_148 : decode cX6_year 148 = .ok (.iload 6, 2) := by decide +kernel
theorem dX6_year_150 : decode cX6_year 150 = .ok (.iaload, 1) := by decide +kernel
theorem dX6_year_151 : decode cX6_year 151 = .ok (.iastore, 1) := by decide +kernel
theorem dX6_year_152 : decode cX6_year 152 = .ok (.iinc 6 1, 3) := by decide +kernel
theorem dX6_year_155 : decode cX6_year 155 = .ok (.goto (-26), 3) := by decide +kernel
theorem dX6_year_158 : decode cX6_year 158 = .ok (.iload_n 2, 1) := by decide +kernel
theorem dX6_year_159 : decode cX6_year 159 = .ok (.ifCond .ne 8, 3) := by decide +kernel
theorem dX6_year_162 : decode cX6_year 162 = .ok (.iload 4, 2) := by decide +kernel
theorem dX6_year_164 : decode cX6_year 164 = .ok (.goto 5, 3) := by decide +kernel
theorem dX6_year_167 : decode cX6_year 167 = .ok (.iload 5, 2) := by decide +kernel
theorem dX6_year_169 : decode cX6_year 169 = .ok (.ireturn, 1) := by decide +kernel
theorem dX6_divisor_0 : decode cX6_divisor 0 = .ok (.iload_n 0, 1) := by decide +kernel
theorem dX6_divisor_1 : decode cX6_divisor 1 = .ok (.istore_n 2, 1) := by decide +kernel
theorem dX6_divisor_2 : decode cX6_divisor 2 = .ok (.iload_n 1, 1) := by decide +kernel
theorem dX6_divisor_3 : decode cX6_divisor 3 = .ok (.istore_n 3, 1) := by decide +kernel
theorem dX6_divisor_4 : decode cX6_divisor 4 = .ok (.iload_n 3, 1) := by decide +kernel
theorem dX6_divisor_5 : decode cX6_divisor 5 = .ok (.ifCond .eq 16, 3) := by decide +kernel
theorem dX6_divisor_8 : decode cX6_divisor 8 = .ok (.iload_n 2, 1) := by decide +kernel
theorem dX6_divisor_9 : decode cX6_divisor 9 = .ok (.iload_n 3, 1) := by decide +kernel
theorem dX6_divisor_10 : decode cX6_divisor 10 = .ok (.irem, 1) := by decide +kernel
theorem dX6_divisor_11 : decode cX6_divisor 11 = .ok (.istore 4, 2) := by decide +kernel
theorem dX6_divisor_13 : decode cX6_divisor 13 = .ok (.iload_n 3, 1) := by decide +kernel
theorem dX6_divisor_14 : decode cX6_divisor 14 = .ok (.istore_n 2, 1) := by decide +kernel
theorem dX6_divisor_15 : decode cX6_divisor 15 = .ok (.iload 4, 2) := by decide +kernel
theorem dX6_divisor_17 : decode cX6_divisor 17 = .ok (.istore_n 3, 1) := by decide +kernel
theorem dX6_divisor_18 : decode cX6_divisor 18 = .ok (.goto (-14), 3) := by decide +kernel
theorem dX6_divisor_21 : decode cX6_divisor 21 = .ok (.iload_n 2, 1) := by decide +kernel
theorem dX6_divisor_22 : decode cX6_divisor 22 = .ok (.ireturn, 1) := by decide +kernel
theorem dX6_bet_0 : decode cX6_bet 0 = .ok (.aload_n 0, 1) := by decide +kernel
theorem dX6_bet_1 : decode cX6_bet 1 = .ok (.iload_n 1, 1) := by decide +kernel
theorem dX6_bet_2 : decode cX6_bet 2 = .ok (.invokevirtual 152, 3) := by decide +kernel
theorem dX6_bet_5 : decode cX6_bet 5 = .ok (.ifCond .eq 19, 3) := by decide +kernel
theorem dX6_bet_8 : decode cX6_bet 8 = .ok (.iload_n 2, 1) := by decide +kernel
theorem dX6_bet_9 : decode cX6_bet 9 = .ok (.invokestatic 178, 3) := by decide +kernel
theorem dX6_bet_12 : decode cX6_bet 12 = .ok (.ifCond .eq 12, 3) := by decide +kernel
theorem dX6_bet_15 : decode cX6_bet 15 = .ok (.iload_n 3, 1) := by decide +kernel
theorem dX6_bet_16 : decode cX6_bet 16 = .ok (.iconst 0, 1) := by decide +kernel
theorem dX6_bet_17 : decode cX6_bet 17 = .ok (.iconst 1, 1) := by decide +kernel
theorem dX6_bet_18 : decode cX6_bet 18 = .ok (.invokestatic 45, 3) := by decide +kernel
theorem dX6_bet_21 : decode cX6_bet 21 = .ok (.ifCond .ne 5, 3) := by decide +kernel
theorem dX6_bet_24 : decode cX6_bet 24 = .ok (.iconst (-1), 1) := by decide +kernel
theorem dX6_bet_25 : decode cX6_bet 25 = .ok (.ireturn, 1) := by decide +kernel
theorem dX6_bet_26 : decode cX6_bet 26 = .ok (.aload_n 0, 1) := by decide +kernel
theorem dX6_bet_27 : decode cX6_bet 27 = .ok (.invokevirtual 181, 3) := by decide +kernel
theorem dX6_bet_30 : decode cX6_bet 30 = .ok (.iconst 0, 1) := by decide +kernel
theorem dX6_bet_31 : decode cX6_bet 31 = .ok (.istore 4, 2) := by decide +kernel
theorem dX6_bet_33 : decode cX6_bet 33 = .ok (.iconst 0, 1) := by decide +kernel
theorem dX6_bet_34 : decode cX6_bet 34 = .ok (.istore 5, 2) := by decide +kernel
theorem dX6_bet_36 : decode cX6_bet 36 = .ok (.iconst 0, 1) := by decide +kernel
theorem dX6_bet_37 : decode cX6_bet 37 = .ok (.istore 6, 2) := by decide +kernel
theorem dX6_bet_39 : decode cX6_bet 39 = .ok (.iload 6, 2) := by decide +kernel
theorem dX6_bet_41 : decode cX6_bet 41 = .ok (.aload_n 0, 1) := by decide +kernel
theorem dX6_bet_42 : decode cX6_bet 42 = .ok (.invokevirtual 49, 3) := by decide +kernel
theorem dX6_bet_45 : decode cX6_bet 45 = .ok (.if_icmp .ge 57, 3) := by decide +kernel
theorem dX6_bet_48 : decode cX6_bet 48 = .ok (.aload_n 0, 1) := by decide +kernel
theorem dX6_bet_49 : decode cX6_bet 49 = .ok (.iload 6, 2) := by decide +kernel
theorem dX6_bet_51 : decode cX6_bet 51 = .ok (.invokevirtual 205, 3) := by decide +kernel
theorem dX6_bet_54 : decode cX6_bet 54 = .ok (.istore 7, 2) := by decide +kernel
theorem dX6_bet_56 : decode cX6_bet 56 = .ok (.iload 5, 2) := by decide +kernel
theorem dX6_bet_58 : decode cX6_bet 58 = .ok (.iload 7, 2) := by decide +kernel
theorem dX6_bet_60 : decode cX6_bet 60 = .ok (.ifCond .eq 7, 3) := by decide +kernel
theorem dX6_bet_63 : decode cX6_bet 63 = .ok (.iconst 1, 1) := by decide +kernel
theorem dX6_bet_64 : decode cX6_bet 64 = .ok (.goto 4, 3) := by decide +kernel
theorem dX6_bet_67 : decode cX6_bet 67 = .ok (.iconst 0, 1) := by decide +kernel
theorem dX6_bet_68 : decode cX6_bet 68 = .ok (.iadd, 1) := by decide +kernel
theorem dX6_bet_69 : decode cX6_bet 69 = .ok (.istore 5, 2) := by decide +kernel
theorem dX6_bet_71 : decode cX6_bet 71 = .ok (.iload 4, 2) := by decide +kernel
theorem dX6_bet_73 : decode cX6_bet 73 = .ok (.iload 7, 2) := by decide +kernel
theorem dX6_bet_75 : decode cX6_bet 75 = .ok (.ifCond .eq 17, 3) := by decide +kernel
theorem dX6_bet_78 : decode cX6_bet 78 = .ok (.iload 6, 2) := by decide +kernel
theorem dX6_bet_80 : decode cX6_bet 80 = .ok (.iload_n 1, 1) := by decide +kernel
theorem dX6_bet_81 : decode cX6_bet 81 = .ok (.iload_n 2, 1) := by decide +kernel
theorem dX6_bet_82 : decode cX6_bet 82 = .ok (.invokestatic 138, 3) := by decide +kernel
theorem dX6_bet_85 : decode cX6_bet 85 = .ok (.ifCond .eq 7, 3) := by decide +kernel
theorem dX6_bet_88 : decode cX6_bet 88 = .ok (.iconst 1, 1) := by decide +kernel
theorem dX6_bet_89 : decode cX6_bet 89 = .ok (.goto 4, 3) := by decide +kernel
theorem dX6_bet_92 : decode cX6_bet 92 = .ok (.iconst 0, 1) := by decide +kernel
theorem dX6_bet_93 : decode cX6_bet 93 = .ok (.iadd, 1) := by decide +kernel
theorem dX6_bet_94 : decode cX6_bet 94 = .ok (.istore 4, 2) := by decide +kernel
theorem dX6_bet_96 : decode cX6_bet 96 = .ok (.iinc 6 1, 3) := by decide +kernel
theorem dX6_bet_99 : decode cX6_bet 99 = .ok (.goto (-60), 3) := by decide +kernel
theorem dX6_bet_102 : decode cX6_bet 102 = .ok (.iload 4, 2) := by decide +kernel
theorem dX6_bet_104 : decode cX6_bet 104 = .ok (.ifCond .ne 5, 3) := by decide +kernel
theorem dX6_bet_107 : decode cX6_bet 107 = .ok (.iload_n 3, 1) := by decide +kernel
theorem dX6_bet_108 : decode cX6_bet 108 = .ok (.ireturn, 1) := by decide +kernel
theorem dX6_bet_109 : decode cX6_bet 109 = .ok (.iload_n 3, 1) := by decide +kernel
theorem dX6_bet_110 : decode cX6_bet 110 = .ok (.ifCond .ne 8, 3) := by decide +kernel
theorem dX6_bet_113 : decode cX6_bet 113 = .ok (.iload 4, 2) := by decide +kernel
theorem dX6_bet_115 : decode cX6_bet 115 = .ok (.goto 5, 3) := by decide +kernel
theorem dX6_bet_118 : decode cX6_bet 118 = .ok (.iload 5, 2) := by decide +kernel
theorem dX6_bet_120 : decode cX6_bet 120 = .ok (.iload 4, 2) := by decide +kernel
theorem dX6_bet_122 : decode cX6_bet 122 = .ok (.iload 5, 2) := by decide +kernel
theorem dX6_bet_124 : decode cX6_bet 124 = .ok (.invokestatic 217, 3) := by decide +kernel
theorem dX6_bet_127 : decode cX6_bet 127 = .ok (.idiv, 1) := by decide +kernel
theorem dX6_bet_128 : decode cX6_bet 128 = .ok (.ireturn, 1) := by decide +kernel
theorem dX6_keeps_0 : decode cX6_keeps 0 = .ok (.iconst 0, 1) := by decide +kernel
theorem dX6_keeps_1 : decode cX6_keeps 1 = .ok (.istore_n 1, 1) := by decide +kernel
theorem dX6_keeps_2 : decode cX6_keeps 2 = .ok (.iload_n 1, 1) := by decide +kernel
theorem dX6_keeps_3 : decode cX6_keeps 3 = .ok (.iconst 4, 1) := by decide +kernel
theorem dX6_keeps_4 : decode cX6_keeps 4 = .ok (.if_icmp .ge 59, 3) := by decide +kernel
theorem dX6_keeps_7 : decode cX6_keeps 7 = .ok (.aload_n 0, 1) := by decide +kernel
theorem dX6_keeps_8 : decode cX6_keeps 8 = .ok (.getfield 35, 3) := by decide +kernel
theorem dX6_keeps_11 : decode cX6_keeps 11 = .ok (.iload_n 1, 1) := by decide +kernel
theorem dX6_keeps_12 : decode cX6_keeps 12 = .ok (.aload_n 0, 1) := by decide +kernel
theorem dX6_keeps_13 : decode cX6_keeps 13 = .ok (.getfield 7, 3) := by decide +kernel
theorem dX6_keeps_16 : decode cX6_keeps 16 = .ok (.bipush 110, 2) := by decide +kernel
theorem dX6_keeps_18 : decode cX6_keeps 18 = .ok (.iload_n 1, 1) := by decide +kernel
theorem dX6_keeps_19 : decode cX6_keeps 19 = .ok (.iadd, 1) := by decide +kernel
theorem dX6_keeps_20 : decode cX6_keeps 20 = .ok (.iaload, 1) := by decide +kernel
theorem dX6_keeps_21 : decode cX6_keeps 21 = .ok (.iastore, 1) := by decide +kernel
theorem dX6_keeps_22 : decode cX6_keeps 22 = .ok (.aload_n 0, 1) := by decide +kernel
theorem dX6_keeps_23 : decode cX6_keeps 23 = .ok (.getfield 35, 3) := by decide +kernel
theorem dX6_keeps_26 : decode cX6_keeps 26 = .ok (.iconst 4, 1) := by decide +kernel
theorem dX6_keeps_27 : decode cX6_keeps 27 = .ok (.iload_n 1, 1) := by decide +kernel
theorem dX6_keeps_28 : decode cX6_keeps 28 = .ok (.iadd, 1) := by decide +kernel
theorem dX6_keeps_29 : decode cX6_keeps 29 = .ok (.aload_n 0, 1) := by decide +kernel
theorem dX6_keeps_30 : decode cX6_keeps 30 = .ok (.getfield 7, 3) := by decide +kernel
theorem dX6_keeps_33 : decode cX6_keeps 33 = .ok (.bipush 114, 2) := by decide +kernel
theorem dX6_keeps_35 : decode cX6_keeps 35 = .ok (.iload_n 1, 1) := by decide +kernel
theorem dX6_keeps_36 : decode cX6_keeps 36 = .ok (.iadd, 1) := by decide +kernel
theorem dX6_keeps_37 : decode cX6_keeps 37 = .ok (.iaload, 1) := by decide +kernel
theorem dX6_keeps_38 : decode cX6_keeps 38 = .ok (.iastore, 1) := by decide +kernel
theorem dX6_keeps_39 : decode cX6_keeps 39 = .ok (.aload_n 0, 1) := by decide +kernel
theorem dX6_keeps_40 : decode cX6_keeps 40 = .ok (.getfield 35, 3) := by decide +kernel
theorem dX6_keeps_43 : decode cX6_keeps 43 = .ok (.bipush 8, 2) := by decide +kernel
theorem dX6_keeps_45 : decode cX6_keeps 45 = .ok (.iload_n 1, 1) := by decide +kernel
theorem dX6_keeps_46 : decode cX6_keeps 46 = .ok (.iadd, 1) := by decide +kernel
theorem dX6_keeps_47 : decode cX6_keeps 47 = .ok (.aload_n 0, 1) := by decide +kernel
theorem dX6_keeps_48 : decode cX6_keeps 48 = .ok (.getfield 7, 3) := by decide +kernel
theorem dX6_keeps_51 : decode cX6_keeps 51 = .ok (.bipush 118, 2) := by decide +kernel
theorem dX6_keeps_53 : decode cX6_keeps 53 = .ok (.iload_n 1, 1) := by decide +kernel
theorem dX6_keeps_54 : decode cX6_keeps 54 = .ok (.iadd, 1) := by decide +kernel
theorem dX6_keeps_55 : decode cX6_keeps 55 = .ok (.iaload, 1) := by decide +kernel
theorem dX6_keeps_56 : decode cX6_keeps 56 = .ok (.iastore, 1) := by decide +kernel
theorem dX6_keeps_57 : decode cX6_keeps 57 = .ok (.iinc 1 1, 3) := by decide +kernel
theorem dX6_keeps_60 : decode cX6_keeps 60 = .ok (.goto (-58), 3) := by decide +kernel
theorem dX6_keeps_63 : decode cX6_keeps 63 = .ok (.return_, 1) := by decide +kernel
theorem dX6_goesBack_0 : decode cX6_goesBack 0 = .ok (.iconst 0, 1) := by decide +kernel
theorem dX6_goesBack_1 : decode cX6_goesBack 1 = .ok (.istore_n 1, 1) := by decide +kernel
theorem dX6_goesBack_2 : decode cX6_goesBack 2 = .ok (.iload_n 1, 1) := by decide +kernel
theorem dX6_goesBack_3 : decode cX6_goesBack 3 = .ok (.iconst 4, 1) := by decide +kernel
theorem dX6_goesBack_4 : decode cX6_goesBack 4 = .ok (.if_icmp .ge 59, 3) := by decide +kernel
theorem dX6_goesBack_7 : decode cX6_goesBack 7 = .ok (.aload_n 0, 1) := by decide +kernel
theorem dX6_goesBack_8 : decode cX6_goesBack 8 = .ok (.getfield 7, 3) := by decide +kernel
theorem dX6_goesBack_11 : decode cX6_goesBack 11 = .ok (.bipush 110, 2) := by decide +kernel
theorem dX6_goesBack_13 : decode cX6_goesBack 13 = .ok (.iload_n 1, 1) := by decide +kernel
theorem dX6_goesBack_14 : decode cX6_goesBack 14 = .ok (.iadd, 1) := by decide +kernel
theorem dX6_goesBack_15 : decode cX6_goesBack 15 = .ok (.aload_n 0, 1) := by decide +kernel
theorem dX6_goesBack_16 : decode cX6_goesBack 16 = .ok (.getfield 35, 3) := by decide +kernel
theorem dX6_goesBack_19 : decode cX6_goesBack 19 = .ok (.iload_n 1, 1) := by decide +kernel
theorem dX6_goesBack_20 : decode cX6_goesBack 20 = .ok (.iaload, 1) := by decide +kernel
theorem dX6_goesBack_21 : decode cX6_goesBack 21 = .ok (.iastore, 1) := by decide +kernel
theorem dX6_goesBack_22 : decode cX6_goesBack 22 = .ok (.aload_n 0, 1) := by decide +kernel
theorem dX6_goesBack_23 : decode cX6_goesBack 23 = .ok (.getfield 7, 3) := by decide +kernel
theorem dX6_goesBack_26 : decode cX6_goesBack 26 = .ok (.bipush 114, 2) := by decide +kernel
theorem dX6_goesBack_28 : decode cX6_goesBack 28 = .ok (.iload_n 1, 1) := by decide +kernel
theorem dX6_goesBack_29 : decode cX6_goesBack 29 = .ok (.iadd, 1) := by decide +kernel
theorem dX6_goesBack_30 : decode cX6_goesBack 30 = .ok (.aload_n 0, 1) := by decide +kernel
theorem dX6_goesBack_31 : decode cX6_goesBack 31 = .ok (.getfield 35, 3) := by decide +kernel
theorem dX6_goesBack_34 : decode cX6_goesBack 34 = .ok (.iconst 4, 1) := by decide +kernel
theorem dX6_goesBack_35 : decode cX6_goesBack 35 = .ok (.iload_n 1, 1) := by decide +kernel
theorem dX6_goesBack_36 : decode cX6_goesBack 36 = .ok (.iadd, 1) := by decide +kernel
theorem dX6_goesBack_37 : decode cX6_goesBack 37 = .ok (.iaload, 1) := by decide +kernel
theorem dX6_goesBack_38 : decode cX6_goesBack 38 = .ok (.iastore, 1) := by decide +kernel
theorem dX6_goesBack_39 : decode cX6_goesBack 39 = .ok (.aload_n 0, 1) := by decide +kernel
theorem dX6_goesBack_40 : decode cX6_goesBack 40 = .ok (.getfield 7, 3) := by decide +kernel
theorem dX6_goesBack_43 : decode cX6_goesBack 43 = .ok (.bipush 118, 2) := by decide +kernel
theorem dX6_goesBack_45 : decode cX6_goesBack 45 = .ok (.iload_n 1, 1) := by decide +kernel
theorem dX6_goesBack_46 : decode cX6_goesBack 46 = .ok (.iadd, 1) := by decide +kernel
theorem dX6_goesBack_47 : decode cX6_goesBack 47 = .ok (.aload_n 0, 1) := by decide +kernel
theorem dX6_goesBack_48 : decode cX6_goesBack 48 = .ok (.getfield 35, 3) := by decide +kernel
theorem dX6_goesBack_51 : decode cX6_goesBack 51 = .ok (.bipush 8, 2) := by decide +kernel
theorem dX6_goesBack_53 : decode cX6_goesBack 53 = .ok (.iload_n 1, 1) := by decide +kernel
theorem dX6_goesBack_54 : decode cX6_goesBack 54 = .ok (.iadd, 1) := by decide +kernel
theorem dX6_goesBack_55 : decode cX6_goesBack 55 = .ok (.iaload, 1) := by decide +kernel
theorem dX6_goesBack_56 : decode cX6_goesBack 56 = .ok (.iastore, 1) := by decide +kernel
theorem dX6_goesBack_57 : decode cX6_goesBack 57 = .ok (.iinc 1 1, 3) := by decide +kernel
theorem dX6_goesBack_60 : decode cX6_goesBack 60 = .ok (.goto (-58), 3) := by decide +kernel
theorem dX6_goesBack_63 : decode cX6_goesBack 63 = .ok (.return_, 1) := by decide +kernel
theorem dX6_count1_0 : decode cX6_count1 0 = .ok (.iconst 0, 1) := by decide +kernel
theorem dX6_count1_1 : decode cX6_count1 1 = .ok (.istore_n 1, 1) := by decide +kernel
theorem dX6_count1_2 : decode cX6_count1 2 = .ok (.iconst 0, 1) := by decide +kernel
theorem dX6_count1_3 : decode cX6_count1 3 = .ok (.istore_n 2, 1) := by decide +kernel
theorem dX6_count1_4 : decode cX6_count1 4 = .ok (.iload_n 2, 1) := by decide +kernel
theorem dX6_count1_5 : decode cX6_count1 5 = .ok (.iconst 4, 1) := by decide +kernel
theorem dX6_count1_6 : decode cX6_count1 6 = .ok (.if_icmp .ge 17, 3) := by decide +kernel
theorem dX6_count1_9 : decode cX6_count1 9 = .ok (.iload_n 1, 1) := by decide +kernel
theorem dX6_count1_10 : decode cX6_count1 10 = .ok (.iload_n 0, 1) := by decide +kernel
theorem dX6_count1_11 : decode cX6_count1 11 = .ok (.iload_n 2, 1) := by decide +kernel
theorem dX6_count1_12 : decode cX6_count1 12 = .ok (.ishr, 1) := by decide +kernel
theorem dX6_count1_13 : decode cX6_count1 13 = .ok (.iconst 1, 1) := by decide +kernel
theorem dX6_count1_14 : decode cX6_count1 14 = .ok (.iand, 1) := by decide +kernel
theorem dX6_count1_15 : decode cX6_count1 15 = .ok (.iadd, 1) := by decide +kernel
theorem dX6_count1_16 : decode cX6_count1 16 = .ok (.istore_n 1, 1) := by decide +kernel
theorem dX6_count1_17 : decode cX6_count1 17 = .ok (.iinc 2 1, 3) := by decide +kernel
theorem dX6_count1_20 : decode cX6_count1 20 = .ok (.goto (-16), 3) := by decide +kernel
theorem dX6_count1_23 : decode cX6_count1 23 = .ok (.iload_n 1, 1) := by decide +kernel
theorem dX6_count1_24 : decode cX6_count1 24 = .ok (.ireturn, 1) := by decide +kernel
theorem dX6_sure_0 : decode cX6_sure 0 = .ok (.aload_n 0, 1) := by decide +kernel
theorem dX6_sure_1 : decode cX6_sure 1 = .ok (.invokevirtual 208, 3) := by decide +kernel
theorem dX6_sure_4 : decode cX6_sure 4 = .ok (.aload_n 0, 1) := by decide +kernel
theorem dX6_sure_5 : decode cX6_sure 5 = .ok (.getfield 190, 3) := by decide +kernel
theorem dX6_sure_8 : decode cX6_sure 8 = .ok (.ifCond .ne 6, 3) := by decide +kernel
theorem dX6_sure_11 : decode cX6_sure 11 = .ok (.bipush (-5), 2) := by decide +kernel
theorem dX6_sure_13 : decode cX6_sure 13 = .ok (.ireturn, 1) := by decide +kernel
theorem dX6_sure_14 : decode cX6_sure 14 = .ok (.aload_n 0, 1) := by decide +kernel
theorem dX6_sure_15 : decode cX6_sure 15 = .ok (.getfield 199, 3) := by decide +kernel
theorem dX6_sure_18 : decode cX6_sure 18 = .ok (.istore_n 1, 1) := by decide +kernel
theorem dX6_sure_19 : decode cX6_sure 19 = .ok (.bipush (-5), 2) := by decide +kernel
theorem dX6_sure_21 : decode cX6_sure 21 = .ok (.istore_n 2, 1) := by decide +kernel
theorem dX6_sure_22 : decode cX6_sure 22 = .ok (.aload_n 0, 1) := by decide +kernel
theorem dX6_sure_23 : decode cX6_sure 23 = .ok (.invokevirtual 220, 3) := by decide +kernel
theorem dX6_sure_26 : decode cX6_sure 26 = .ok (.iconst 0, 1) := by decide +kernel
theorem dX6_sure_27 : decode cX6_sure 27 = .ok (.istore_n 3, 1) := by decide +kernel
theorem dX6_sure_28 : decode cX6_sure 28 = .ok (.iload_n 3, 1) := by decide +kernel
theorem dX6_sure_29 : decode cX6_sure 29 = .ok (.iconst 1, 1) := by decide +kernel
theorem dX6_sure_30 : decode cX6_sure 30 = .ok (.aload_n 0, 1) := by decide +kernel
theorem dX6_sure_31 : decode cX6_sure 31 = .ok (.getfield 7, 3) := by decide +kernel
theorem dX6_sure_34 : decode cX6_sure 34 = .ok (.iconst 0, 1) := by decide +kernel
theorem dX6_sure_35 : decode cX6_sure 35 = .ok (.iaload, 1) := by decide +kernel
theorem dX6_sure_36 : decode cX6_sure 36 = .ok (.ishl, 1) := by decide +kernel
theorem dX6_sure_37 : decode cX6_sure 37 = .ok (.if_icmp .ge 145, 3) := by decide +kernel
theorem dX6_sure_40 : decode cX6_sure 40 = .ok (.iload_n 2, 1) := by decide +kernel
theorem dX6_sure_41 : decode cX6_sure 41 = .ok (.bipush (-5), 2) := by decide +kernel
theorem dX6_sure_43 : decode cX6_sure 43 = .ok (.if_icmp .eq 14, 3) := by decide +kernel
theorem dX6_sure_46 : decode cX6_sure 46 = .ok (.iload_n 3, 1) := by decide +kernel
theorem dX6_sure_47 : decode cX6_sure 47 = .ok (.invokestatic 223, 3) := by decide +kernel
theorem dX6_sure_50 : decode cX6_sure 50 = .ok (.iload_n 2, 1) := by decide +kernel
theorem dX6_sure_51 : decode cX6_sure 51 = .ok (.invokestatic 223, 3) := by decide +kernel
theorem dX6_sure_54 : decode cX6_sure 54 = .ok (.if_icmp .ge 122, 3) := by decide +kernel
theorem dX6_sure_57 : decode cX6_sure 57 = .ok (.iconst 0, 1) := by decide +kernel
theorem dX6_sure_58 : decode cX6_sure 58 = .ok (.istore 4, 2) := by decide +kernel
theorem dX6_sure_60 : decode cX6_sure 60 = .ok (.iload 4, 2) := by decide +kernel
theorem dX6_sure_62 : decode cX6_sure 62 = .ok (.aload_n 0, 1) := by decide +kernel
theorem dX6_sure_63 : decode cX6_sure 63 = .ok (.getfield 7, 3) := by decide +kernel
theorem dX6_sure_66 : decode cX6_sure 66 = .ok (.iconst 0, 1) := by decide +kernel
theorem dX6_sure_67 : decode cX6_sure 67 = .ok (.iaload, 1) := by decide +kernel
theorem dX6_sure_68 : decode cX6_sure 68 = .ok (.if_icmp .ge 90, 3) := by decide +kernel
theorem dX6_sure_71 : decode cX6_sure 71 = .ok (.iload_n 3, 1) := by decide +kernel
theorem dX6_sure_72 : decode cX6_sure 72 = .ok (.iload 4, 2) := by decide +kernel
theorem dX6_sure_74 : decode cX6_sure 74 = .ok (.ishr, 1) := by decide +kernel
theorem dX6_sure_75 : decode cX6_sure 75 = .ok (.iconst 1, 1) := by decide +kernel
theorem dX6_sure_76 : decode cX6_sure 76 = .ok (.iand, 1) := by decide +kernel
theorem dX6_sure_77 : decode cX6_sure 77 = .ok (.iconst 1, 1) := by decide +kernel
theorem dX6_sure_78 : decode cX6_sure 78 = .ok (.if_icmp .ne 7, 3) := by decide +kernel
theorem dX6_sure_81 : decode cX6_sure 81 = .ok (.iconst 1, 1) := by decide +kernel
theorem dX6_sure_82 : decode cX6_sure 82 = .ok (.goto 4, 3) := by decide +kernel
theorem dX6_sure_85 : decode cX6_sure 85 = .ok (.iconst 0, 1) := by decide +kernel
theorem dX6_sure_86 : decode cX6_sure 86 = .ok (.istore 5, 2) := by decide +kernel
theorem dX6_sure_88 : decode cX6_sure 88 = .ok (.aload_n 0, 1) := by decide +kernel
theorem dX6_sure_89 : decode cX6_sure 89 = .ok (.getfield 7, 3) := by decide +kernel
theorem dX6_sure_92 : decode cX6_sure 92 = .ok (.bipush 110, 2) := by decide +kernel
theorem dX6_sure_94 : decode cX6_sure 94 = .ok (.iload 4, 2) := by decide +kernel
theorem dX6_sure_96 : decode cX6_sure 96 = .ok (.iadd, 1) := by decide +kernel
theorem dX6_sure_97 : decode cX6_sure 97 = .ok (.iload 5, 2) := by decide +kernel
theorem dX6_sure_99 : decode cX6_sure 99 = .ok (.ifCond .eq 8, 3) := by decide +kernel
theorem dX6_sure_102 : decode cX6_sure 102 = .ok (.bipush 6, 2) := by decide +kernel
theorem dX6_sure_104 : decode cX6_sure 104 = .ok (.goto 10, 3) := by decide +kernel
theorem dX6_sure_107 : decode cX6_sure 107 = .ok (.aload_n 0, 1) := by decide +kernel
theorem dX6_sure_108 : decode cX6_sure 108 = .ok (.getfield 35, 3) := by decide +kernel
theorem dX6_sure_111 : decode cX6_sure 111 = .ok (.iload 4, 2) := by decide +kernel
theorem dX6_sure_113 : decode cX6_sure 113 = .ok (.iaload, 1) := by decide +kernel
theorem dX6_sure_114 : decode cX6_sure 114 = .ok (.iastore, 1) := by decide +kernel
theorem dX6_sure_115 : decode cX6_sure 115 = .ok (.aload_n 0, 1) := by decide +kernel
theorem dX6_sure_116 : decode cX6_sure 116 = .ok (.getfield 7, 3) := by decide +kernel
theorem dX6_sure_119 : decode cX6_sure 119 = .ok (.bipush 118, 2) := by decide +kernel
theorem dX6_sure_121 : decode cX6_sure 121 = .ok (.iload 4, 2) := by decide +kernel
theorem dX6_sure_123 : decode cX6_sure 123 = .ok (.iadd, 1) := by decide +kernel
theorem dX6_sure_124 : decode cX6_sure 124 = .ok (.iload 5, 2) := by decide +kernel
theorem dX6_sure_126 : decode cX6_sure 126 = .ok (.ifCond .eq 15, 3) := by decide +kernel
theorem dX6_sure_129 : decode cX6_sure 129 = .ok (.iload_n 1, 1) := by decide +kernel
theorem dX6_sure_130 : decode cX6_sure 130 = .ok (.iconst 3, 1) := by decide +kernel
theorem dX6_sure_131 : decode cX6_sure 131 = .ok (.iload 4, 2) := by decide +kernel
theorem dX6_sure_133 : decode cX6_sure 133 = .ok (.imul, 1) := by decide +kernel
theorem dX6_sure_134 : decode cX6_sure 134 = .ok (.ishr, 1) := by decide +kernel
theorem dX6_sure_135 : decode cX6_sure 135 = .ok (.bipush 7, 2) := by decide +kernel
theorem dX6_sure_137 : decode cX6_sure 137 = .ok (.iand, 1) := by decide +kernel
theorem dX6_sure_138 : decode cX6_sure 138 = .ok (.goto 13, 3) := by decide +kernel
theorem dX6_sure_141 : decode cX6_sure 141 = .ok (.aload_n 0, 1) := by decide +kernel
theorem dX6_sure_142 : decode cX6_sure 142 = .ok (.getfield 35, 3) := by decide +kernel
theorem dX6_sure_145 : decode cX6_sure 145 = .ok (.bipush 8, 2) := by decide +kernel
theorem dX6_sure_147 : decode cX6_sure 147 = .ok (.iload 4, 2) := by decide +kernel
theorem dX6_sure_149 : decode cX6_sure 149 = .ok (.iadd, 1) := by decide +kernel
theorem dX6_sure_150 : decode cX6_sure 150 = .ok (.iaload, 1) := by decide +kernel
theorem dX6_sure_151 : decode cX6_sure 151 = .ok (.iastore, 1) := by decide +kernel
theorem dX6_sure_152 : decode cX6_sure 152 = .ok (.iinc 4 1, 3) := by decide +kernel
theorem dX6_sure_155 : decode cX6_sure 155 = .ok (.goto (-95), 3) := by decide +kernel
theorem dX6_sure_158 : decode cX6_sure 158 = .ok (.aload_n 0, 1) := by decide +kernel
theorem dX6_sure_159 : decode cX6_sure 159 = .ok (.invokevirtual 208, 3) := by decide +kernel
theorem dX6_sure_162 : decode cX6_sure 162 = .ok (.aload_n 0, 1) := by decide +kernel
theorem dX6_sure_163 : decode cX6_sure 163 = .ok (.getfield 190, 3) := by decide +kernel
theorem dX6_sure_166 : decode cX6_sure 166 = .ok (.iconst 1, 1) := by decide +kernel
theorem dX6_sure_167 : decode cX6_sure 167 = .ok (.if_icmp .ne 7, 3) := by decide +kernel
theorem dX6_sure_170 : decode cX6_sure 170 = .ok (.iload_n 3, 1) := by decide +kernel
theorem dX6_sure_171 : decode cX6_sure 171 = .ok (.goto 4, 3) := by decide +kernel
theorem dX6_sure_174 : decode cX6_sure 174 = .ok (.iload_n 2, 1) := by decide +kernel
theorem dX6_sure_175 : decode cX6_sure 175 = .ok (.istore_n 2, 1) := by decide +kernel
theorem dX6_sure_176 : decode cX6_sure 176 = .ok (.iinc 3 1, 3) := by decide +kernel
theorem dX6_sure_179 : decode cX6_sure 179 = .ok (.goto (-151), 3) := by decide +kernel
theorem dX6_sure_182 : decode cX6_sure 182 = .ok (.aload_n 0, 1) := by decide +kernel
theorem dX6_sure_183 : decode cX6_sure 183 = .ok (.invokevirtual 226, 3) := by decide +kernel
theorem dX6_sure_186 : decode cX6_sure 186 = .ok (.iload_n 2, 1) := by decide +kernel
theorem dX6_sure_187 : decode cX6_sure 187 = .ok (.ireturn, 1) := by decide +kernel
theorem dX6_secret_0 : decode cX6_secret 0 = .ok (.aload_n 0, 1) := by decide +kernel
theorem dX6_secret_1 : decode cX6_secret 1 = .ok (.iload_n 1, 1) := by decide +kernel
theorem dX6_secret_2 : decode cX6_secret 2 = .ok (.invokevirtual 152, 3) := by decide +kernel
theorem dX6_secret_5 : decode cX6_secret 5 = .ok (.ifCond .eq 12, 3) := by decide +kernel
theorem dX6_secret_8 : decode cX6_secret 8 = .ok (.iload_n 2, 1) := by decide +kernel
theorem dX6_secret_9 : decode cX6_secret 9 = .ok (.iconst 0, 1) := by decide +kernel
theorem dX6_secret_10 : decode cX6_secret 10 = .ok (.iconst 1, 1) := by decide +kernel
theorem dX6_secret_11 : decode cX6_secret 11 = .ok (.invokestatic 45, 3) := by decide +kernel
theorem dX6_secret_14 : decode cX6_secret 14 = .ok (.ifCond .ne 5, 3) := by decide +kernel
theorem dX6_secret_17 : decode cX6_secret 17 = .ok (.iconst (-1), 1) := by decide +kernel
theorem dX6_secret_18 : decode cX6_secret 18 = .ok (.ireturn, 1) := by decide +kernel
theorem dX6_secret_19 : decode cX6_secret 19 = .ok (.aload_n 0, 1) := by decide +kernel
theorem dX6_secret_20 : decode cX6_secret 20 = .ok (.invokevirtual 208, 3) := by decide +kernel
theorem dX6_secret_23 : decode cX6_secret 23 = .ok (.aload_n 0, 1) := by decide +kernel
theorem dX6_secret_24 : decode cX6_secret 24 = .ok (.getfield 199, 3) := by decide +kernel
theorem dX6_secret_27 : decode cX6_secret 27 = .ok (.istore_n 3, 1) := by decide +kernel
theorem dX6_secret_28 : decode cX6_secret 28 = .ok (.aload_n 0, 1) := by decide +kernel
theorem dX6_secret_29 : decode cX6_secret 29 = .ok (.invokevirtual 220, 3) := by decide +kernel
theorem dX6_secret_32 : decode cX6_secret 32 = .ok (.aload_n 0, 1) := by decide +kernel
theorem dX6_secret_33 : decode cX6_secret 33 = .ok (.getfield 7, 3) := by decide +kernel
theorem dX6_secret_36 : decode cX6_secret 36 = .ok (.bipush 110, 2) := by decide +kernel
theorem dX6_secret_38 : decode cX6_secret 38 = .ok (.iload_n 1, 1) := by decide +kernel
theorem dX6_secret_39 : decode cX6_secret 39 = .ok (.iadd, 1) := by decide +kernel
theorem dX6_secret_40 : decode cX6_secret 40 = .ok (.iconst 3, 1) := by decide +kernel
theorem dX6_secret_41 : decode cX6_secret 41 = .ok (.iastore, 1) := by decide +kernel
theorem dX6_secret_42 : decode cX6_secret 42 = .ok (.aload_n 0, 1) := by decide +kernel
theorem dX6_secret_43 : decode cX6_secret 43 = .ok (.invokevirtual 208, 3) := by decide +kernel
theorem dX6_secret_46 : decode cX6_secret 46 = .ok (.aload_n 0, 1) := by decide +kernel
theorem dX6_secret_47 : decode cX6_secret 47 = .ok (.invokevirtual 226, 3) := by decide +kernel
theorem dX6_secret_50 : decode cX6_secret 50 = .ok (.iload_n 2, 1) := by decide +kernel
theorem dX6_secret_51 : decode cX6_secret 51 = .ok (.ifCond .eq 18, 3) := by decide +kernel
theorem dX6_secret_54 : decode cX6_secret 54 = .ok (.iload_n 3, 1) := by decide +kernel
theorem dX6_secret_55 : decode cX6_secret 55 = .ok (.bipush (-5), 2) := by decide +kernel
theorem dX6_secret_57 : decode cX6_secret 57 = .ok (.if_icmp .eq 12, 3) := by decide +kernel
theorem dX6_secret_60 : decode cX6_secret 60 = .ok (.aload_n 0, 1) := by decide +kernel
theorem dX6_secret_61 : decode cX6_secret 61 = .ok (.getfield 199, 3) := by decide +kernel
theorem dX6_secret_64 : decode cX6_secret 64 = .ok (.bipush (-5), 2) := by decide +kernel
theorem dX6_secret_66 : decode cX6_secret 66 = .ok (.if_icmp .ne 17, 3) := by decide +kernel
theorem dX6_secret_69 : decode cX6_secret 69 = .ok (.iload_n 2, 1) := by decide +kernel
theorem dX6_secret_70 : decode cX6_secret 70 = .ok (.ifCond .ne 10, 3) := by decide +kernel
theorem dX6_secret_73 : decode cX6_secret 73 = .ok (.aload_n 0, 1) := by decide +kernel
theorem dX6_secret_74 : decode cX6_secret 74 = .ok (.getfield 199, 3) := by decide +kernel
theorem dX6_secret_77 : decode cX6_secret 77 = .ok (.goto 5, 3) := by decide +kernel
theorem dX6_secret_80 : decode cX6_secret 80 = .ok (.bipush (-5), 2) := by decide +kernel
theorem dX6_secret_82 : decode cX6_secret 82 = .ok (.ireturn, 1) := by decide +kernel
theorem dX6_secret_83 : decode cX6_secret 83 = .ok (.iconst 0, 1) := by decide +kernel
theorem dX6_secret_84 : decode cX6_secret 84 = .ok (.istore 4, 2) := by decide +kernel
theorem dX6_secret_86 : decode cX6_secret 86 = .ok (.iconst 0, 1) := by decide +kernel
theorem dX6_secret_87 : decode cX6_secret 87 = .ok (.istore 5, 2) := by decide +kernel
theorem dX6_secret_89 : decode cX6_secret 89 = .ok (.iload 5, 2) := by decide +kernel
theorem dX6_secret_91 : decode cX6_secret 91 = .ok (.iconst 3, 1) := by decide +kernel
theorem dX6_secret_92 : decode cX6_secret 92 = .ok (.if_icmp .ge 39, 3) := by decide +kernel
theorem dX6_secret_95 : decode cX6_secret 95 = .ok (.iload 4, 2) := by decide +kernel
theorem dX6_secret_97 : decode cX6_secret 97 = .ok (.iload_n 3, 1) := by decide +kernel
theorem dX6_secret_98 : decode cX6_secret 98 = .ok (.iload_n 1, 1) := by decide +kernel
theorem dX6_secret_99 : decode cX6_secret 99 = .ok (.iload 5, 2) := by decide +kernel
theorem dX6_secret_101 : decode cX6_secret 101 = .ok (.invokestatic 138, 3) := by decide +kernel
theorem dX6_secret_104 : decode cX6_secret 104 = .ok (.aload_n 0, 1) := by decide +kernel
theorem dX6_secret_105 : decode cX6_secret 105 = .ok (.getfield 199, 3) := by decide +kernel
theorem dX6_secret_108 : decode cX6_secret 108 = .ok (.iload_n 1, 1) := by decide +kernel
theorem dX6_secret_109 : decode cX6_secret 109 = .ok (.iload 5, 2) := by decide +kernel
theorem dX6_secret_111 : decode cX6_secret 111 = .ok (.invokestatic 138, 3) := by decide +kernel
theorem dX6_secret_114 : decode cX6_secret 114 = .ok (.if_icmp .ne 7, 3) := by decide +kernel
theorem dX6_secret_117 : decode cX6_secret 117 = .ok (.iconst 0, 1) := by decide +kernel
theorem dX6_secret_118 : decode cX6_secret 118 = .ok (.goto 4, 3) := by decide +kernel
theorem dX6_secret_121 : decode cX6_secret 121 = .ok (.iconst 1, 1) := by decide +kernel
theorem dX6_secret_122 : decode cX6_secret 122 = .ok (.iadd, 1) := by decide +kernel
theorem dX6_secret_123 : decode cX6_secret 123 = .ok (.istore 4, 2) := by decide +kernel
theorem dX6_secret_125 : decode cX6_secret 125 = .ok (.iinc 5 1, 3) := by decide +kernel
theorem dX6_secret_128 : decode cX6_secret 128 = .ok (.goto (-39), 3) := by decide +kernel
theorem dX6_secret_131 : decode cX6_secret 131 = .ok (.iload 4, 2) := by decide +kernel
theorem dX6_secret_133 : decode cX6_secret 133 = .ok (.ireturn, 1) := by decide +kernel
theorem dX6_isGood_0 : decode cX6_isGood 0 = .ok (.aload_n 0, 1) := by decide +kernel
theorem dX6_isGood_1 : decode cX6_isGood 1 = .ok (.invokevirtual 181, 3) := by decide +kernel
theorem dX6_isGood_4 : decode cX6_isGood 4 = .ok (.aload_n 0, 1) := by decide +kernel
theorem dX6_isGood_5 : decode cX6_isGood 5 = .ok (.iload_n 3, 1) := by decide +kernel
theorem dX6_isGood_6 : decode cX6_isGood 6 = .ok (.iload_n 1, 1) := by decide +kernel
theorem dX6_isGood_7 : decode cX6_isGood 7 = .ok (.invokevirtual 148, 3) := by decide +kernel
theorem dX6_isGood_10 : decode cX6_isGood 10 = .ok (.istore 4, 2) := by decide +kernel
theorem dX6_isGood_12 : decode cX6_isGood 12 = .ok (.aload_n 0, 1) := by decide +kernel
theorem dX6_isGood_13 : decode cX6_isGood 13 = .ok (.iload_n 3, 1) := by decide +kernel
theorem dX6_isGood_14 : decode cX6_isGood 14 = .ok (.iload_n 2, 1) := by decide +kernel
theorem dX6_isGood_15 : decode cX6_isGood 15 = .ok (.invokevirtual 148, 3) := by decide +kernel
theorem dX6_isGood_18 : decode cX6_isGood 18 = .ok (.istore 5, 2) := by decide +kernel
theorem dX6_isGood_20 : decode cX6_isGood 20 = .ok (.aload_n 0, 1) := by decide +kernel
theorem dX6_isGood_21 : decode cX6_isGood 21 = .ok (.invokevirtual 220, 3) := by decide +kernel
theorem dX6_isGood_24 : decode cX6_isGood 24 = .ok (.aload_n 0, 1) := by decide +kernel
theorem dX6_isGood_25 : decode cX6_isGood 25 = .ok (.getfield 7, 3) := by decide +kernel
theorem dX6_isGood_28 : decode cX6_isGood 28 = .ok (.bipush 110, 2) := by decide +kernel
theorem dX6_isGood_30 : decode cX6_isGood 30 = .ok (.iload_n 1, 1) := by decide +kernel
theorem dX6_isGood_31 : decode cX6_isGood 31 = .ok (.iadd, 1) := by decide +kernel
theorem dX6_isGood_32 : decode cX6_isGood 32 = .ok (.aload_n 0, 1) := by decide +kernel
theorem dX6_isGood_33 : decode cX6_isGood 33 = .ok (.getfield 35, 3) := by decide +kernel
theorem dX6_isGood_36 : decode cX6_isGood 36 = .ok (.iload_n 2, 1) := by decide +kernel
theorem dX6_isGood_37 : decode cX6_isGood 37 = .ok (.iaload, 1) := by decide +kernel
theorem dX6_isGood_38 : decode cX6_isGood 38 = .ok (.iastore, 1) := by decide +kernel
theorem dX6_isGood_39 : decode cX6_isGood 39 = .ok (.aload_n 0, 1) := by decide +kernel
theorem dX6_isGood_40 : decode cX6_isGood 40 = .ok (.getfield 7, 3) := by decide +kernel
theorem dX6_isGood_43 : decode cX6_isGood 43 = .ok (.bipush 114, 2) := by decide +kernel
theorem dX6_isGood_45 : decode cX6_isGood 45 = .ok (.iload_n 1, 1) := by decide +kernel
theorem dX6_isGood_46 : decode cX6_isGood 46 = .ok (.iadd, 1) := by decide +kernel
theorem dX6_isGood_47 : decode cX6_isGood 47 = .ok (.aload_n 0, 1) := by decide +kernel
theorem dX6_isGood_48 : decode cX6_isGood 48 = .ok (.getfield 35, 3) := by decide +kernel
theorem dX6_isGood_51 : decode cX6_isGood 51 = .ok (.iconst 4, 1) := by decide +kernel
theorem dX6_isGood_52 : decode cX6_isGood 52 = .ok (.iload_n 2, 1) := by decide +kernel
theorem dX6_isGood_53 : decode cX6_isGood 53 = .ok (.iadd, 1) := by decide +kernel
theorem dX6_isGood_54 : decode cX6_isGood 54 = .ok (.iaload, 1) := by decide +kernel
theorem dX6_isGood_55 : decode cX6_isGood 55 = .ok (.iastore, 1) := by decide +kernel
theorem dX6_isGood_56 : decode cX6_isGood 56 = .ok (.aload_n 0, 1) := by decide +kernel
theorem dX6_isGood_57 : decode cX6_isGood 57 = .ok (.getfield 7, 3) := by decide +kernel
theorem dX6_isGood_60 : decode cX6_isGood 60 = .ok (.bipush 118, 2) := by decide +kernel
theorem dX6_isGood_62 : decode cX6_isGood 62 = .ok (.iload_n 1, 1) := by decide +kernel
theorem dX6_isGood_63 : decode cX6_isGood 63 = .ok (.iadd, 1) := by decide +kernel
theorem dX6_isGood_64 : decode cX6_isGood 64 = .ok (.aload_n 0, 1) := by decide +kernel
theorem dX6_isGood_65 : decode cX6_isGood 65 = .ok (.getfield 35, 3) := by decide +kernel
theorem dX6_isGood_68 : decode cX6_isGood 68 = .ok (.iload_n 1, 1) := by decide +kernel
theorem dX6_isGood_69 : decode cX6_isGood 69 = .ok (.iaload, 1) := by decide +kernel
theorem dX6_isGood_70 : decode cX6_isGood 70 = .ok (.bipush 6, 2) := by decide +kernel
theorem dX6_isGood_72 : decode cX6_isGood 72 = .ok (.if_icmp .ne 15, 3) := by decide +kernel
theorem dX6_isGood_75 : decode cX6_isGood 75 = .ok (.aload_n 0, 1) := by decide +kernel
theorem dX6_isGood_76 : decode cX6_isGood 76 = .ok (.getfield 35, 3) := by decide +kernel
theorem dX6_isGood_79 : decode cX6_isGood 79 = .ok (.bipush 8, 2) := by decide +kernel
theorem dX6_isGood_81 : decode cX6_isGood 81 = .ok (.iload_n 1, 1) := by decide +kernel
theorem dX6_isGood_82 : decode cX6_isGood 82 = .ok (.iadd, 1) := by decide +kernel
theorem dX6_isGood_83 : decode cX6_isGood 83 = .ok (.iaload, 1) := by decide +kernel
theorem dX6_isGood_84 : decode cX6_isGood 84 = .ok (.goto 4, 3) := by decide +kernel
theorem dX6_isGood_87 : decode cX6_isGood 87 = .ok (.iconst 0, 1) := by decide +kernel
theorem dX6_isGood_88 : decode cX6_isGood 88 = .ok (.iastore, 1) := by decide +kernel
theorem dX6_isGood_89 : decode cX6_isGood 89 = .ok (.aload_n 0, 1) := by decide +kernel
theorem dX6_isGood_90 : decode cX6_isGood 90 = .ok (.getfield 7, 3) := by decide +kernel
theorem dX6_isGood_93 : decode cX6_isGood 93 = .ok (.bipush 110, 2) := by decide +kernel
theorem dX6_isGood_95 : decode cX6_isGood 95 = .ok (.iload_n 2, 1) := by decide +kernel
theorem dX6_isGood_96 : decode cX6_isGood 96 = .ok (.iadd, 1) := by decide +kernel
theorem dX6_isGood_97 : decode cX6_isGood 97 = .ok (.aload_n 0, 1) := by decide +kernel
theorem dX6_isGood_98 : decode cX6_isGood 98 = .ok (.getfield 35, 3) := by decide +kernel
theorem dX6_isGood_101 : decode cX6_isGood 101 = .ok (.iload_n 1, 1) := by decide +kernel
theorem dX6_isGood_102 : decode cX6_isGood 102 = .ok (.iaload, 1) := by decide +kernel
theorem dX6_isGood_103 : decode cX6_isGood 103 = .ok (.iastore, 1) := by decide +kernel
theorem dX6_isGood_104 : decode cX6_isGood 104 = .ok (.aload_n 0, 1) := by decide +kernel
theorem dX6_isGood_105 : decode cX6_isGood 105 = .ok (.getfield 7, 3) := by decide +kernel
theorem dX6_isGood_108 : decode cX6_isGood 108 = .ok (.bipush 114, 2) := by decide +kernel
theorem dX6_isGood_110 : decode cX6_isGood 110 = .ok (.iload_n 2, 1) := by decide +kernel
theorem dX6_isGood_111 : decode cX6_isGood 111 = .ok (.iadd, 1) := by decide +kernel
theorem dX6_isGood_112 : decode cX6_isGood 112 = .ok (.aload_n 0, 1) := by decide +kernel
theorem dX6_isGood_113 : decode cX6_isGood 113 = .ok (.getfield 35, 3) := by decide +kernel
theorem dX6_isGood_116 : decode cX6_isGood 116 = .ok (.iconst 4, 1) := by decide +kernel
theorem dX6_isGood_117 : decode cX6_isGood 117 = .ok (.iload_n 1, 1) := by decide +kernel
theorem dX6_isGood_118 : decode cX6_isGood 118 = .ok (.iadd, 1) := by decide +kernel
theorem dX6_isGood_119 : decode cX6_isGood 119 = .ok (.iaload, 1) := by decide +kernel
theorem dX6_isGood_120 : decode cX6_isGood 120 = .ok (.iastore, 1) := by decide +kernel
theorem dX6_isGood_121 : decode cX6_isGood 121 = .ok (.aload_n 0, 1) := by decide +kernel
theorem dX6_isGood_122 : decode cX6_isGood 122 = .ok (.getfield 7, 3) := by decide +kernel
theorem dX6_isGood_125 : decode cX6_isGood 125 = .ok (.bipush 118, 2) := by decide +kernel
theorem dX6_isGood_127 : decode cX6_isGood 127 = .ok (.iload_n 2, 1) := by decide +kernel
theorem dX6_isGood_128 : decode cX6_isGood 128 = .ok (.iadd, 1) := by decide +kernel
theorem dX6_isGood_129 : decode cX6_isGood 129 = .ok (.aload_n 0, 1) := by decide +kernel
theorem dX6_isGood_130 : decode cX6_isGood 130 = .ok (.getfield 35, 3) := by decide +kernel
theorem dX6_isGood_133 : decode cX6_isGood 133 = .ok (.iload_n 2, 1) := by decide +kernel
theorem dX6_isGood_134 : decode cX6_isGood 134 = .ok (.iaload, 1) := by decide +kernel
theorem dX6_isGood_135 : decode cX6_isGood 135 = .ok (.bipush 6, 2) := by decide +kernel
theorem dX6_isGood_137 : decode cX6_isGood 137 = .ok (.if_icmp .ne 15, 3) := by decide +kernel
theorem dX6_isGood_140 : decode cX6_isGood 140 = .ok (.aload_n 0, 1) := by decide +kernel
theorem dX6_isGood_141 : decode cX6_isGood 141 = .ok (.getfield 35, 3) := by decide +kernel
theorem dX6_isGood_144 : decode cX6_isGood 144 = .ok (.bipush 8, 2) := by decide +kernel
theorem dX6_isGood_146 : decode cX6_isGood 146 = .ok (.iload_n 2, 1) := by decide +kernel
theorem dX6_isGood_147 : decode cX6_isGood 147 = .ok (.iadd, 1) := by decide +kernel
theorem dX6_isGood_148 : decode cX6_isGood 148 = .ok (.iaload, 1) := by decide +kernel
theorem dX6_isGood_149 : decode cX6_isGood 149 = .ok (.goto 4, 3) := by decide +kernel
theorem dX6_isGood_152 : decode cX6_isGood 152 = .ok (.iconst 0, 1) := by decide +kernel
theorem dX6_isGood_153 : decode cX6_isGood 153 = .ok (.iastore, 1) := by decide +kernel
theorem dX6_isGood_154 : decode cX6_isGood 154 = .ok (.aload_n 0, 1) := by decide +kernel
theorem dX6_isGood_155 : decode cX6_isGood 155 = .ok (.invokevirtual 208, 3) := by decide +kernel
theorem dX6_isGood_158 : decode cX6_isGood 158 = .ok (.aload_n 0, 1) := by decide +kernel
theorem dX6_isGood_159 : decode cX6_isGood 159 = .ok (.getfield 190, 3) := by decide +kernel
theorem dX6_isGood_162 : decode cX6_isGood 162 = .ok (.ifCond .le 35, 3) := by decide +kernel
theorem dX6_isGood_165 : decode cX6_isGood 165 = .ok (.aload_n 0, 1) := by decide +kernel
theorem dX6_isGood_166 : decode cX6_isGood 166 = .ok (.aload_n 0, 1) := by decide +kernel
theorem dX6_isGood_167 : decode cX6_isGood 167 = .ok (.getfield 199, 3) := by decide +kernel
theorem dX6_isGood_170 : decode cX6_isGood 170 = .ok (.iload_n 1, 1) := by decide +kernel
theorem dX6_isGood_171 : decode cX6_isGood 171 = .ok (.invokevirtual 148, 3) := by decide +kernel
theorem dX6_isGood_174 : decode cX6_isGood 174 = .ok (.iload 4, 2) := by decide +kernel
theorem dX6_isGood_176 : decode cX6_isGood 176 = .ok (.if_icmp .le 21, 3) := by decide +kernel
theorem dX6_isGood_179 : decode cX6_isGood 179 = .ok (.aload_n 0, 1) := by decide +kernel
theorem dX6_isGood_180 : decode cX6_isGood 180 = .ok (.aload_n 0, 1) := by decide +kernel
theorem dX6_isGood_181 : decode cX6_isGood 181 = .ok (.getfield 199, 3) := by decide +kernel
theorem dX6_isGood_184 : decode cX6_isGood 184 = .ok (.iload_n 2, 1) := by decide +kernel
theorem dX6_isGood_185 : decode cX6_isGood 185 = .ok (.invokevirtual 148, 3) := by decide +kernel
theorem dX6_isGood_188 : decode cX6_isGood 188 = .ok (.iload 5, 2) := by decide +kernel
theorem dX6_isGood_190 : decode cX6_isGood 190 = .ok (.if_icmp .le 7, 3) := by decide +kernel
theorem dX6_isGood_193 : decode cX6_isGood 193 = .ok (.iconst 1, 1) := by decide +kernel
theorem dX6_isGood_194 : decode cX6_isGood 194 = .ok (.goto 4, 3) := by decide +kernel
theorem dX6_isGood_197 : decode cX6_isGood 197 = .ok (.iconst 0, 1) := by decide +kernel
theorem dX6_isGood_198 : decode cX6_isGood 198 = .ok (.istore 6, 2) := by decide +kernel
theorem dX6_isGood_200 : decode cX6_isGood 200 = .ok (.aload_n 0, 1) := by decide +kernel
theorem dX6_isGood_201 : decode cX6_isGood 201 = .ok (.invokevirtual 226, 3) := by decide +kernel
theorem dX6_isGood_204 : decode cX6_isGood 204 = .ok (.iload 6, 2) := by decide +kernel
theorem dX6_isGood_206 : decode cX6_isGood 206 = .ok (.ireturn, 1) := by decide +kernel
theorem dX6_swap_0 : decode cX6_swap 0 = .ok (.iload_n 1, 1) := by decide +kernel
theorem dX6_swap_1 : decode cX6_swap 1 = .ok (.iconst 0, 1) := by decide +kernel
theorem dX6_swap_2 : decode cX6_swap 2 = .ok (.iconst 1, 1) := by decide +kernel
theorem dX6_swap_3 : decode cX6_swap 3 = .ok (.invokestatic 45, 3) := by decide +kernel
theorem dX6_swap_6 : decode cX6_swap 6 = .ok (.ifCond .ne 5, 3) := by decide +kernel
theorem dX6_swap_9 : decode cX6_swap 9 = .ok (.iconst (-1), 1) := by decide +kernel
theorem dX6_swap_10 : decode cX6_swap 10 = .ok (.ireturn, 1) := by decide +kernel
theorem dX6_swap_11 : decode cX6_swap 11 = .ok (.aload_n 0, 1) := by decide +kernel
theorem dX6_swap_12 : decode cX6_swap 12 = .ok (.invokevirtual 208, 3) := by decide +kernel
theorem dX6_swap_15 : decode cX6_swap 15 = .ok (.aload_n 0, 1) := by decide +kernel
theorem dX6_swap_16 : decode cX6_swap 16 = .ok (.getfield 199, 3) := by decide +kernel
theorem dX6_swap_19 : decode cX6_swap 19 = .ok (.istore_n 2, 1) := by decide +kernel
theorem dX6_swap_20 : decode cX6_swap 20 = .ok (.iconst 0, 1) := by decide +kernel
theorem dX6_swap_21 : decode cX6_swap 21 = .ok (.istore_n 3, 1) := by decide +kernel
theorem dX6_swap_22 : decode cX6_swap 22 = .ok (.bipush (-5), 2) := by decide +kernel
theorem dX6_swap_24 : decode cX6_swap 24 = .ok (.istore 4, 2) := by decide +kernel
theorem dX6_swap_26 : decode cX6_swap 26 = .ok (.iconst 0, 1) := by decide +kernel
theorem dX6_swap_27 : decode cX6_swap 27 = .ok (.istore 5, 2) := by decide +kernel
theorem dX6_swap_29 : decode cX6_swap 29 = .ok (.iload 5, 2) := by decide +kernel
theorem dX6_swap_31 : decode cX6_swap 31 = .ok (.aload_n 0, 1) := by decide +kernel
theorem dX6_swap_32 : decode cX6_swap 32 = .ok (.getfield 7, 3) := by decide +kernel
theorem dX6_swap_35 : decode cX6_swap 35 = .ok (.iconst 0, 1) := by decide +kernel
theorem dX6_swap_36 : decode cX6_swap 36 = .ok (.iaload, 1) := by decide +kernel
theorem dX6_swap_37 : decode cX6_swap 37 = .ok (.if_icmp .ge 89, 3) := by decide +kernel
theorem dX6_swap_40 : decode cX6_swap 40 = .ok (.iload_n 2, 1) := by decide +kernel
theorem dX6_swap_41 : decode cX6_swap 41 = .ok (.bipush (-5), 2) := by decide +kernel
theorem dX6_swap_43 : decode cX6_swap 43 = .ok (.if_icmp .eq 83, 3) := by decide +kernel
theorem dX6_swap_46 : decode cX6_swap 46 = .ok (.iload 5, 2) := by decide +kernel
theorem dX6_swap_48 : decode cX6_swap 48 = .ok (.iconst 1, 1) := by decide +kernel
theorem dX6_swap_49 : decode cX6_swap 49 = .ok (.iadd, 1) := by decide +kernel
theorem dX6_swap_50 : decode cX6_swap 50 = .ok (.istore 6, 2) := by decide +kernel
theorem dX6_swap_52 : decode cX6_swap 52 = .ok (.iload 6, 2) := by decide +kernel
theorem dX6_swap_54 : decode cX6_swap 54 = .ok (.aload_n 0, 1) := by decide +kernel
theorem dX6_swap_55 : decode cX6_swap 55 = .ok (.getfield 7, 3) := by decide +kernel
theorem dX6_swap_58 : decode cX6_swap 58 = .ok (.iconst 0, 1) := by decide +kernel
theorem dX6_swap_59 : decode cX6_swap 59 = .ok (.iaload, 1) := by decide +kernel
theorem dX6_swap_60 : decode cX6_swap 60 = .ok (.if_icmp .ge 60, 3) := by decide +kernel
theorem dX6_swap_63 : decode cX6_swap 63 = .ok (.aload_n 0, 1) := by decide +kernel
theorem dX6_swap_64 : decode cX6_swap 64 = .ok (.iload 5, 2) := by decide +kernel
theorem dX6_swap_66 : decode cX6_swap 66 = .ok (.iload 6, 2) := by decide +kernel
theorem dX6_swap_68 : decode cX6_swap 68 = .ok (.iload_n 2, 1) := by decide +kernel
theorem dX6_swap_69 : decode cX6_swap 69 = .ok (.invokevirtual 229, 3) := by decide +kernel
theorem dX6_swap_72 : decode cX6_swap 72 = .ok (.istore 7, 2) := by decide +kernel
theorem dX6_swap_74 : decode cX6_swap 74 = .ok (.iload_n 3, 1) := by decide +kernel
theorem dX6_swap_75 : decode cX6_swap 75 = .ok (.iload 7, 2) := by decide +kernel
theorem dX6_swap_77 : decode cX6_swap 77 = .ok (.ifCond .eq 7, 3) := by decide +kernel
theorem dX6_swap_80 : decode cX6_swap 80 = .ok (.iconst 1, 1) := by decide +kernel
theorem dX6_swap_81 : decode cX6_swap 81 = .ok (.goto 4, 3) := by decide +kernel
theorem dX6_swap_84 : decode cX6_swap 84 = .ok (.iconst 0, 1) := by decide +kernel
theorem dX6_swap_85 : decode cX6_swap 85 = .ok (.iadd, 1) := by decide +kernel
theorem dX6_swap_86 : decode cX6_swap 86 = .ok (.istore_n 3, 1) := by decide +kernel
theorem dX6_swap_87 : decode cX6_swap 87 = .ok (.iload 7, 2) := by decide +kernel
theorem dX6_swap_89 : decode cX6_swap 89 = .ok (.ifCond .eq 21, 3) := by decide +kernel
theorem dX6_swap_92 : decode cX6_swap 92 = .ok (.iload 4, 2) := by decide +kernel
theorem dX6_swap_94 : decode cX6_swap 94 = .ok (.bipush (-5), 2) := by decide +kernel
theorem dX6_swap_96 : decode cX6_swap 96 = .ok (.if_icmp .ne 14, 3) := by decide +kernel
theorem dX6_swap_99 : decode cX6_swap 99 = .ok (.bipush 10, 2) := by decide +kernel
theorem dX6_swap_101 : decode cX6_swap 101 = .ok (.iload 5, 2) := by decide +kernel
theorem dX6_swap_103 : decode cX6_swap 103 = .ok (.imul, 1) := by decide +kernel
theorem dX6_swap_104 : decode cX6_swap 104 = .ok (.iload 6, 2) := by decide +kernel
theorem dX6_swap_106 : decode cX6_swap 106 = .ok (.iadd, 1) := by decide +kernel
theorem dX6_swap_107 : decode cX6_swap 107 = .ok (.goto 5, 3) := by decide +kernel
theorem dX6_swap_110 : decode cX6_swap 110 = .ok (.iload 4, 2) := by decide +kernel
theorem dX6_swap_112 : decode cX6_swap 112 = .ok (.istore 4, 2) := by decide +kernel
theorem dX6_swap_114 : decode cX6_swap 114 = .ok (.iinc 6 1, 3) := by decide +kernel
theorem dX6_swap_117 : decode cX6_swap 117 = .ok (.goto (-65), 3) := by decide +kernel
theorem dX6_swap_120 : decode cX6_swap 120 = .ok (.iinc 5 1, 3) := by decide +kernel
theorem dX6_swap_123 : decode cX6_swap 123 = .ok (.goto (-94), 3) := by decide +kernel
theorem dX6_swap_126 : decode cX6_swap 126 = .ok (.iload_n 1, 1) := by decide +kernel
theorem dX6_swap_127 : decode cX6_swap 127 = .ok (.ifCond .ne 7, 3) := by decide +kernel
theorem dX6_swap_130 : decode cX6_swap 130 = .ok (.iload_n 3, 1) := by decide +kernel
theorem dX6_swap_131 : decode cX6_swap 131 = .ok (.goto 5, 3) := by decide +kernel
theorem dX6_swap_134 : decode cX6_swap 134 = .ok (.iload 4, 2) := by decide +kernel
theorem dX6_swap_136 : decode cX6_swap 136 = .ok (.ireturn, 1) := by decide +kernel
theorem dX6_book_0 : decode cX6_book 0 = .ok (.iload_n 1, 1) := by decide +kernel
theorem dX6_book_1 : decode cX6_book 1 = .ok (.iconst (-1), 1) := by decide +kernel
theorem dX6_book_2 : decode cX6_book 2 = .ok (.if_icmp .ne 12, 3) := by decide +kernel
theorem dX6_book_5 : decode cX6_book 5 = .ok (.aload_n 0, 1) := by decide +kernel
theorem dX6_book_6 : decode cX6_book 6 = .ok (.getfield 7, 3) := by decide +kernel
theorem dX6_book_9 : decode cX6_book 9 = .ok (.iconst 2, 1) := by decide +kernel
theorem dX6_book_10 : decode cX6_book 10 = .ok (.iconst 0, 1) := by decide +kernel
theorem dX6_book_11 : decode cX6_book 11 = .ok (.iastore, 1) := by decide +kernel
theorem dX6_book_12 : decode cX6_book 12 = .ok (.iconst 0, 1) := by decide +kernel
theorem dX6_book_13 : decode cX6_book 13 = .ok (.ireturn, 1) := by decide +kernel
theorem dX6_book_14 : decode cX6_book 14 = .ok (.aload_n 0, 1) := by decide +kernel
theorem dX6_book_15 : decode cX6_book 15 = .ok (.iload_n 1, 1) := by decide +kernel
theorem dX6_book_16 : decode cX6_book 16 = .ok (.invokevirtual 156, 3) := by decide +kernel
theorem dX6_book_19 : decode cX6_book 19 = .ok (.ifCond .ne 6, 3) := by decide +kernel
theorem dX6_book_22 : decode cX6_book 22 = .ok (.bipush (-2), 2) := by decide +kernel
theorem dX6_book_24 : decode cX6_book 24 = .ok (.ireturn, 1) := by decide +kernel
theorem dX6_book_25 : decode cX6_book 25 = .ok (.aload_n 0, 1) := by decide +kernel
theorem dX6_book_26 : decode cX6_book 26 = .ok (.getfield 7, 3) := by decide +kernel
theorem dX6_book_29 : decode cX6_book 29 = .ok (.iconst 2, 1) := by decide +kernel
theorem dX6_book_30 : decode cX6_book 30 = .ok (.iaload, 1) := by decide +kernel
theorem dX6_book_31 : decode cX6_book 31 = .ok (.bipush 10, 2) := by decide +kernel
theorem dX6_book_33 : decode cX6_book 33 = .ok (.if_icmp .ne 6, 3) := by decide +kernel
theorem dX6_book_36 : decode cX6_book 36 = .ok (.bipush (-4), 2) := by decide +kernel
theorem dX6_book_38 : decode cX6_book 38 = .ok (.ireturn, 1) := by decide +kernel
theorem dX6_book_39 : decode cX6_book 39 = .ok (.aload_n 0, 1) := by decide +kernel
theorem dX6_book_40 : decode cX6_book 40 = .ok (.getfield 7, 3) := by decide +kernel
theorem dX6_book_43 : decode cX6_book 43 = .ok (.bipush 126, 2) := by decide +kernel
theorem dX6_book_45 : decode cX6_book 45 = .ok (.aload_n 0, 1) := by decide +kernel
theorem dX6_book_46 : decode cX6_book 46 = .ok (.getfield 7, 3) := by decide +kernel
theorem dX6_book_49 : decode cX6_book 49 = .ok (.iconst 2, 1) := by decide +kernel
theorem dX6_book_50 : decode cX6_book 50 = .ok (.iaload, 1) := by decide +kernel
theorem dX6_book_51 : decode cX6_book 51 = .ok (.iadd, 1) := by decide +kernel
theorem dX6_book_52 : decode cX6_book 52 = .ok (.iload_n 1, 1) := by decide +kernel
theorem dX6_book_53 : decode cX6_book 53 = .ok (.iastore, 1) := by decide +kernel
theorem dX6_book_54 : decode cX6_book 54 = .ok (.aload_n 0, 1) := by decide +kernel
theorem dX6_book_55 : decode cX6_book 55 = .ok (.getfield 7, 3) := by decide +kernel
theorem dX6_book_58 : decode cX6_book 58 = .ok (.iconst 2, 1) := by decide +kernel
theorem dX6_book_59 : decode cX6_book 59 = .ok (.dup2, 1) := by decide +kernel
theorem dX6_book_60 : decode cX6_book 60 = .ok (.iaload, 1) := by decide +kernel
theorem dX6_book_61 : decode cX6_book 61 = .ok (.iconst 1, 1) := by decide +kernel
theorem dX6_book_62 : decode cX6_book 62 = .ok (.iadd, 1) := by decide +kernel
theorem dX6_book_63 : decode cX6_book 63 = .ok (.iastore, 1) := by decide +kernel
theorem dX6_book_64 : decode cX6_book 64 = .ok (.aload_n 0, 1) := by decide +kernel
theorem dX6_book_65 : decode cX6_book 65 = .ok (.getfield 7, 3) := by decide +kernel
theorem dX6_book_68 : decode cX6_book 68 = .ok (.iconst 2, 1) := by decide +kernel
theorem dX6_book_69 : decode cX6_book 69 = .ok (.iaload, 1) := by decide +kernel
theorem dX6_book_70 : decode cX6_book 70 = .ok (.ireturn, 1) := by decide +kernel
theorem dX6_looked_0 : decode cX6_looked 0 = .ok (.iload_n 1, 1) := by decide +kernel
theorem dX6_looked_1 : decode cX6_looked 1 = .ok (.iconst 0, 1) := by decide +kernel
theorem dX6_looked_2 : decode cX6_looked 2 = .ok (.iconst 1, 1) := by decide +kernel
theorem dX6_looked_3 : decode cX6_looked 3 = .ok (.invokestatic 45, 3) := by decide +kernel
theorem dX6_looked_6 : decode cX6_looked 6 = .ok (.ifCond .ne 5, 3) := by decide +kernel
theorem dX6_looked_9 : decode cX6_looked 9 = .ok (.iconst (-1), 1) := by decide +kernel
theorem dX6_looked_10 : decode cX6_looked 10 = .ok (.ireturn, 1) := by decide +kernel
theorem dX6_looked_11 : decode cX6_looked 11 = .ok (.aload_n 0, 1) := by decide +kernel
theorem dX6_looked_12 : decode cX6_looked 12 = .ok (.invokevirtual 181, 3) := by decide +kernel
theorem dX6_looked_15 : decode cX6_looked 15 = .ok (.iconst 0, 1) := by decide +kernel
theorem dX6_looked_16 : decode cX6_looked 16 = .ok (.istore_n 2, 1) := by decide +kernel
theorem dX6_looked_17 : decode cX6_looked 17 = .ok (.bipush (-5), 2) := by decide +kernel
theorem dX6_looked_19 : decode cX6_looked 19 = .ok (.istore_n 3, 1) := by decide +kernel
theorem dX6_looked_20 : decode cX6_looked 20 = .ok (.iconst 0, 1) := by decide +kernel
theorem dX6_looked_21 : decode cX6_looked 21 = .ok (.istore 4, 2) := by decide +kernel
theorem dX6_looked_23 : decode cX6_looked 23 = .ok (.iload 4, 2) := by decide +kernel
theorem dX6_looked_25 : decode cX6_looked 25 = .ok (.aload_n 0, 1) := by decide +kernel
theorem dX6_looked_26 : decode cX6_looked 26 = .ok (.getfield 7, 3) := by decide +kernel
theorem dX6_looked_29 : decode cX6_looked 29 = .ok (.iconst 2, 1) := by decide +kernel
theorem dX6_looked_30 : decode cX6_looked 30 = .ok (.iaload, 1) := by decide +kernel
theorem dX6_looked_31 : decode cX6_looked 31 = .ok (.if_icmp .ge 56, 3) := by decide +kernel
theorem dX6_looked_34 : decode cX6_looked 34 = .ok (.aload_n 0, 1) := by decide +kernel
theorem dX6_looked_35 : decode cX6_looked 35 = .ok (.aload_n 0, 1) := by decide +kernel
theorem dX6_looked_36 : decode cX6_looked 36 = .ok (.getfield 7, 3) := by decide +kernel
theorem dX6_looked_39 : decode cX6_looked 39 = .ok (.bipush 126, 2) := by decide +kernel
theorem dX6_looked_41 : decode cX6_looked 41 = .ok (.iload 4, 2) := by decide +kernel
theorem dX6_looked_43 : decode cX6_looked 43 = .ok (.iadd, 1) := by decide +kernel
theorem dX6_looked_44 : decode cX6_looked 44 = .ok (.iaload, 1) := by decide +kernel
theorem dX6_looked_45 : decode cX6_looked 45 = .ok (.invokevirtual 205, 3) := by decide +kernel
theorem dX6_looked_48 : decode cX6_looked 48 = .ok (.istore 5, 2) := by decide +kernel
theorem dX6_looked_50 : decode cX6_looked 50 = .ok (.iload_n 2, 1) := by decide +kernel
theorem dX6_looked_51 : decode cX6_looked 51 = .ok (.iload 5, 2) := by decide +kernel
theorem dX6_looked_53 : decode cX6_looked 53 = .ok (.ifCond .eq 7, 3) := by decide +kernel
theorem dX6_looked_56 : decode cX6_looked 56 = .ok (.iconst 1, 1) := by decide +kernel
theorem dX6_looked_57 : decode cX6_looked 57 = .ok (.goto 4, 3) := by decide +kernel
theorem dX6_looked_60 : decode cX6_looked 60 = .ok (.iconst 0, 1) := by decide +kernel
theorem dX6_looked_61 : decode cX6_looked 61 = .ok (.iadd, 1) := by decide +kernel
theorem dX6_looked_62 : decode cX6_looked 62 = .ok (.istore_n 2, 1) := by decide +kernel
theorem dX6_looked_63 : decode cX6_looked 63 = .ok (.iload 5, 2) := by decide +kernel
theorem dX6_looked_65 : decode cX6_looked 65 = .ok (.ifCond .ne 14, 3) := by decide +kernel
theorem dX6_looked_68 : decode cX6_looked 68 = .ok (.iload_n 3, 1) := by decide +kernel
theorem dX6_looked_69 : decode cX6_looked 69 = .ok (.bipush (-5), 2) := by decide +kernel
theorem dX6_looked_71 : decode cX6_looked 71 = .ok (.if_icmp .ne 8, 3) := by decide +kernel
theorem dX6_looked_74 : decode cX6_looked 74 = .ok (.iload 4, 2) := by decide +kernel
theorem dX6_looked_76 : decode cX6_looked 76 = .ok (.goto 4, 3) := by decide +kernel
theorem dX6_looked_79 : decode cX6_looked 79 = .ok (.iload_n 3, 1) := by decide +kernel
theorem dX6_looked_80 : decode cX6_looked 80 = .ok (.istore_n 3, 1) := by decide +kernel
theorem dX6_looked_81 : decode cX6_looked 81 = .ok (.iinc 4 1, 3) := by decide +kernel
theorem dX6_looked_84 : decode cX6_looked 84 = .ok (.goto (-61), 3) := by decide +kernel
theorem dX6_looked_87 : decode cX6_looked 87 = .ok (.iload_n 1, 1) := by decide +kernel
theorem dX6_looked_88 : decode cX6_looked 88 = .ok (.ifCond .ne 7, 3) := by decide +kernel
theorem dX6_looked_91 : decode cX6_looked 91 = .ok (.iload_n 2, 1) := by decide +kernel
theorem dX6_looked_92 : decode cX6_looked 92 = .ok (.goto 4, 3) := by decide +kernel
theorem dX6_looked_95 : decode cX6_looked 95 = .ok (.iload_n 3, 1) := by decide +kernel
theorem dX6_looked_96 : decode cX6_looked 96 = .ok (.ireturn, 1) := by decide +kernel
theorem dX6_runs_0 : decode cX6_runs 0 = .ok (.aload_n 0, 1) := by decide +kernel
theorem dX6_runs_1 : decode cX6_runs 1 = .ok (.getfield 232, 3) := by decide +kernel
theorem dX6_runs_4 : decode cX6_runs 4 = .ok (.bipush 20, 2) := by decide +kernel
theorem dX6_runs_6 : decode cX6_runs 6 = .ok (.if_icmp .ge 13, 3) := by decide +kernel
theorem dX6_runs_9 : decode cX6_runs 9 = .ok (.aload_n 0, 1) := by decide +kernel
theorem dX6_runs_10 : decode cX6_runs 10 = .ok (.getfield 38, 3) := by decide +kernel
theorem dX6_runs_13 : decode cX6_runs 13 = .ok (.aload_n 0, 1) := by decide +kernel
theorem dX6_runs_14 : decode cX6_runs 14 = .ok (.getfield 232, 3) := by decide +kernel
theorem dX6_runs_17 : decode cX6_runs 17 = .ok (.iload_n 1, 1) := by decide +kernel
theorem dX6_runs_18 : decode cX6_runs 18 = .ok (.iastore, 1) := by decide +kernel
theorem dX6_runs_19 : decode cX6_runs 19 = .ok (.aload_n 0, 1) := by decide +kernel
theorem dX6_runs_20 : decode cX6_runs 20 = .ok (.dup, 1) := by decide +kernel
theorem dX6_runs_21 : decode cX6_runs 21 = .ok (.getfield 232, 3) := by decide +kernel
theorem dX6_runs_24 : decode cX6_runs 24 = .ok (.iconst 1, 1) := by decide +kernel
theorem dX6_runs_25 : decode cX6_runs 25 = .ok (.iadd, 1) := by decide +kernel
theorem dX6_runs_26 : decode cX6_runs 26 = .ok (.putfield 232, 3) := by decide +kernel
theorem dX6_runs_29 : decode cX6_runs 29 = .ok (.return_, 1) := by decide +kernel
theorem dX6_isUnder_0 : decode cX6_isUnder 0 = .ok (.iload_n 1, 1) := by decide +kernel
theorem dX6_isUnder_1 : decode cX6_isUnder 1 = .ok (.ifCond .eq 28, 3) := by decide +kernel
theorem dX6_isUnder_4 : decode cX6_isUnder 4 = .ok (.iload_n 1, 1) := by decide +kernel
theorem dX6_isUnder_5 : decode cX6_isUnder 5 = .ok (.iload_n 0, 1) := by decide +kernel
theorem dX6_isUnder_6 : decode cX6_isUnder 6 = .ok (.if_icmp .eq 23, 3) := by decide +kernel
theorem dX6_isUnder_9 : decode cX6_isUnder 9 = .ok (.iload_n 1, 1) := by decide +kernel
theorem dX6_isUnder_10 : decode cX6_isUnder 10 = .ok (.iconst 2, 1) := by decide +kernel
theorem dX6_isUnder_11 : decode cX6_isUnder 11 = .ok (.if_icmp .ne 8, 3) := by decide +kernel
theorem dX6_isUnder_14 : decode cX6_isUnder 14 = .ok (.iload_n 0, 1) := by decide +kernel
theorem dX6_isUnder_15 : decode cX6_isUnder 15 = .ok (.iconst 4, 1) := by decide +kernel
theorem dX6_isUnder_16 : decode cX6_isUnder 16 = .ok (.if_icmp .eq 13, 3) := by decide +kernel
theorem dX6_isUnder_19 : decode cX6_isUnder 19 = .ok (.iload_n 1, 1) := by decide +kernel
theorem dX6_isUnder_20 : decode cX6_isUnder 20 = .ok (.iconst 3, 1) := by decide +kernel
theorem dX6_isUnder_21 : decode cX6_isUnder 21 = .ok (.if_icmp .ne 12, 3) := by decide +kernel
theorem dX6_isUnder_24 : decode cX6_isUnder 24 = .ok (.iload_n 0, 1) := by decide +kernel
theorem dX6_isUnder_25 : decode cX6_isUnder 25 = .ok (.iconst 4, 1) := by decide +kernel
theorem dX6_isUnder_26 : decode cX6_isUnder 26 = .ok (.if_icmp .le 7, 3) := by decide +kernel
theorem dX6_isUnder_29 : decode cX6_isUnder 29 = .ok (.iconst 1, 1) := by decide +kernel
theorem dX6_isUnder_30 : decode cX6_isUnder 30 = .ok (.goto 4, 3) := by decide +kernel
theorem dX6_isUnder_33 : decode cX6_isUnder 33 = .ok (.iconst 0, 1) := by decide +kernel
theorem dX6_isUnder_34 : decode cX6_isUnder 34 = .ok (.ireturn, 1) := by decide +kernel
theorem dX6_plainKnows_0 : decode cX6_plainKnows 0 = .ok (.aload_n 0, 1) := by decide +kernel
theorem dX6_plainKnows_1 : decode cX6_plainKnows 1 = .ok (.iconst 1, 1) := by decide +kernel
theorem dX6_plainKnows_2 : decode cX6_plainKnows 2 = .ok (.invokevirtual 235, 3) := by decide +kernel
theorem dX6_plainKnows_5 : decode cX6_plainKnows 5 = .ok (.iload_n 1, 1) := by decide +kernel
theorem dX6_plainKnows_6 : decode cX6_plainKnows 6 = .ok (.aload_n 0, 1) := by decide +kernel
theorem dX6_plainKnows_7 : decode cX6_plainKnows 7 = .ok (.getfield 238, 3) := by decide +kernel
theorem dX6_plainKnows_10 : decode cX6_plainKnows 10 = .ok (.iadd, 1) := by decide +kernel
theorem dX6_plainKnows_11 : decode cX6_plainKnows 11 = .ok (.ireturn, 1) := by decide +kernel
theorem dX6_knowsActs_0 : decode cX6_knowsActs 0 = .ok (.aload_n 0, 1) := by decide +kernel
theorem dX6_knowsActs_1 : decode cX6_knowsActs 1 = .ok (.getfield 241, 3) := by decide +kernel
theorem dX6_knowsActs_4 : decode cX6_knowsActs 4 = .ok (.iconst 1, 1) := by decide +kernel
theorem dX6_knowsActs_5 : decode cX6_knowsActs 5 = .ok (.if_icmp .ne 17, 3) := by decide +kernel
theorem dX6_knowsActs_8 : decode cX6_knowsActs 8 = .ok (.aload_n 0, 1) := by decide +kernel
theorem dX6_knowsActs_9 : decode cX6_knowsActs 9 = .ok (.bipush 11, 2) := by decide +kernel
theorem dX6_knowsActs_11 : decode cX6_knowsActs 11 = .ok (.invokevirtual 235, 3) := by decide +kernel
theorem dX6_knowsActs_14 : decode cX6_knowsActs 14 = .ok (.aload_n 0, 1) := by decide +kernel
theorem dX6_knowsActs_15 : decode cX6_knowsActs 15 = .ok (.iload_n 1, 1) := by decide +kernel
theorem dX6_knowsActs_16 : decode cX6_knowsActs 16 = .ok (.iconst 3, 1) := by decide +kernel
theorem dX6_knowsActs_17 : decode cX6_knowsActs 17 = .ok (.imul, 1) := by decide +kernel
theorem dX6_knowsActs_18 : decode cX6_knowsActs 18 = .ok (.invokevirtual 244, 3) := by decide +kernel
theorem dX6_knowsActs_21 : decode cX6_knowsActs 21 = .ok (.ireturn, 1) := by decide +kernel
theorem dX6_knowsActs_22 : decode cX6_knowsActs 22 = .ok (.aload_n 0, 1) := by decide +kernel
theorem dX6_knowsActs_23 : decode cX6_knowsActs 23 = .ok (.getfield 241, 3) := by decide +kernel
theorem dX6_knowsActs_26 : decode cX6_knowsActs 26 = .ok (.iconst 5, 1) := by decide +kernel
theorem dX6_knowsActs_27 : decode cX6_knowsActs 27 = .ok (.if_icmp .ne 20, 3) := by decide +kernel
theorem dX6_knowsActs_30 : decode cX6_knowsActs 30 = .ok (.aload_n 0, 1) := by decide +kernel
theorem dX6_knowsActs_31 : decode cX6_knowsActs 31 = .ok (.bipush 51, 2) := by decide +kernel
theorem dX6_knowsActs_33 : decode cX6_knowsActs 33 = .ok (.invokevirtual 235, 3) := by decide +kernel
theorem dX6_knowsActs_36 : decode cX6_knowsActs 36 = .ok (.aload_n 0, 1) := by decide +kernel
theorem dX6_knowsActs_37 : decode cX6_knowsActs 37 = .ok (.iload_n 1, 1) := by decide +kernel
theorem dX6_knowsActs_38 : decode cX6_knowsActs 38 = .ok (.invokevirtual 244, 3) := by decide +kernel
theorem dX6_knowsActs_41 : decode cX6_knowsActs 41 = .ok (.aload_n 0, 1) := by decide +kernel
theorem dX6_knowsActs_42 : decode cX6_knowsActs 42 = .ok (.getfield 238, 3) := by decide +kernel
theorem dX6_knowsActs_45 : decode cX6_knowsActs 45 = .ok (.ixor, 1) := by decide +kernel
theorem dX6_knowsActs_46 : decode cX6_knowsActs 46 = .ok (.ireturn, 1) := by decide +kernel
theorem dX6_knowsActs_47 : decode cX6_knowsActs 47 = .ok (.aload_n 0, 1) := by decide +kernel
theorem dX6_knowsActs_48 : decode cX6_knowsActs 48 = .ok (.iload_n 1, 1) := by decide +kernel
theorem dX6_knowsActs_49 : decode cX6_knowsActs 49 = .ok (.invokevirtual 244, 3) := by decide +kernel
theorem dX6_knowsActs_52 : decode cX6_knowsActs 52 = .ok (.ireturn, 1) := by decide +kernel
theorem dX6_plainDoes_0 : decode cX6_plainDoes 0 = .ok (.aload_n 0, 1) := by decide +kernel
theorem dX6_plainDoes_1 : decode cX6_plainDoes 1 = .ok (.iconst 2, 1) := by decide +kernel
theorem dX6_plainDoes_2 : decode cX6_plainDoes 2 = .ok (.invokevirtual 235, 3) := by decide +kernel
theorem dX6_plainDoes_5 : decode cX6_plainDoes 5 = .ok (.aload_n 0, 1) := by decide +kernel
theorem dX6_plainDoes_6 : decode cX6_plainDoes 6 = .ok (.iload_n 1, 1) := by decide +kernel
theorem dX6_plainDoes_7 : decode cX6_plainDoes 7 = .ok (.invokevirtual 247, 3) := by decide +kernel
theorem dX6_plainDoes_10 : decode cX6_plainDoes 10 = .ok (.aload_n 0, 1) := by decide +kernel
theorem dX6_plainDoes_11 : decode cX6_plainDoes 11 = .ok (.getfield 250, 3) := by decide +kernel
theorem dX6_plainDoes_14 : decode cX6_plainDoes 14 = .ok (.isub, 1) := by decide +kernel
theorem dX6_plainDoes_15 : decode cX6_plainDoes 15 = .ok (.ireturn, 1) := by decide +kernel
theorem dX6_doesActs_0 : decode cX6_doesActs 0 = .ok (.aload_n 0, 1) := by decide +kernel
theorem dX6_doesActs_1 : decode cX6_doesActs 1 = .ok (.getfield 241, 3) := by decide +kernel
theorem dX6_doesActs_4 : decode cX6_doesActs 4 = .ok (.iconst 2, 1) := by decide +kernel
theorem dX6_doesActs_5 : decode cX6_doesActs 5 = .ok (.invokestatic 253, 3) := by decide +kernel
theorem dX6_doesActs_8 : decode cX6_doesActs 8 = .ok (.ifCond .eq 16, 3) := by decide +kernel
theorem dX6_doesActs_11 : decode cX6_doesActs 11 = .ok (.aload_n 0, 1) := by decide +kernel
theorem dX6_doesActs_12 : decode cX6_doesActs 12 = .ok (.bipush 21, 2) := by decide +kernel
theorem dX6_doesActs_14 : decode cX6_doesActs 14 = .ok (.invokevirtual 235, 3) := by decide +kernel
theorem dX6_doesActs_17 : decode cX6_doesActs 17 = .ok (.aload_n 0, 1) := by decide +kernel
theorem dX6_doesActs_18 : decode cX6_doesActs 18 = .ok (.iload_n 1, 1) := by decide +kernel
theorem dX6_doesActs_19 : decode cX6_doesActs 19 = .ok (.invokevirtual 256, 3) := by decide +kernel
theorem dX6_doesActs_22 : decode cX6_doesActs 22 = .ok (.ineg, 1) := by decide +kernel
theorem dX6_doesActs_23 : decode cX6_doesActs 23 = .ok (.ireturn, 1) := by decide +kernel
theorem dX6_doesActs_24 : decode cX6_doesActs 24 = .ok (.aload_n 0, 1) := by decide +kernel
theorem dX6_doesActs_25 : decode cX6_doesActs 25 = .ok (.getfield 241, 3) := by decide +kernel
theorem dX6_doesActs_28 : decode cX6_doesActs 28 = .ok (.bipush 6, 2) := by decide +kernel
theorem dX6_doesActs_30 : decode cX6_doesActs 30 = .ok (.if_icmp .ne 20, 3) := by decide +kernel
theorem dX6_doesActs_33 : decode cX6_doesActs 33 = .ok (.aload_n 0, 1) := by decide +kernel
theorem dX6_doesActs_34 : decode cX6_doesActs 34 = .ok (.bipush 61, 2) := by decide +kernel
theorem dX6_doesActs_36 : decode cX6_doesActs 36 = .ok (.invokevirtual 235, 3) := by decide +kernel
theorem dX6_doesActs_39 : decode cX6_doesActs 39 = .ok (.aload_n 0, 1) := by decide +kernel
theorem dX6_doesActs_40 : decode cX6_doesActs 40 = .ok (.iload_n 1, 1) := by decide +kernel
theorem dX6_doesActs_41 : decode cX6_doesActs 41 = .ok (.invokevirtual 256, 3) := by decide +kernel
theorem dX6_doesActs_44 : decode cX6_doesActs 44 = .ok (.aload_n 0, 1) := by decide +kernel
theorem dX6_doesActs_45 : decode cX6_doesActs 45 = .ok (.getfield 250, 3) := by decide +kernel
theorem dX6_doesActs_48 : decode cX6_doesActs 48 = .ok (.iadd, 1) := by decide +kernel
theorem dX6_doesActs_49 : decode cX6_doesActs 49 = .ok (.ireturn, 1) := by decide +kernel
theorem dX6_doesActs_50 : decode cX6_doesActs 50 = .ok (.aload_n 0, 1) := by decide +kernel
theorem dX6_doesActs_51 : decode cX6_doesActs 51 = .ok (.iload_n 1, 1) := by decide +kernel
theorem dX6_doesActs_52 : decode cX6_doesActs 52 = .ok (.invokevirtual 256, 3) := by decide +kernel
theorem dX6_doesActs_55 : decode cX6_doesActs 55 = .ok (.ireturn, 1) := by decide +kernel
theorem dX6_plainTells_0 : decode cX6_plainTells 0 = .ok (.aload_n 0, 1) := by decide +kernel
theorem dX6_plainTells_1 : decode cX6_plainTells 1 = .ok (.iconst 3, 1) := by decide +kernel
theorem dX6_plainTells_2 : decode cX6_plainTells 2 = .ok (.invokevirtual 235, 3) := by decide +kernel
theorem dX6_plainTells_5 : decode cX6_plainTells 5 = .ok (.aload_n 0, 1) := by decide +kernel
theorem dX6_plainTells_6 : decode cX6_plainTells 6 = .ok (.iload_n 1, 1) := by decide +kernel
theorem dX6_plainTells_7 : decode cX6_plainTells 7 = .ok (.invokevirtual 259, 3) := by decide +kernel
theorem dX6_plainTells_10 : decode cX6_plainTells 10 = .ok (.iconst 2, 1) := by decide +kernel
theorem dX6_plainTells_11 : decode cX6_plainTells 11 = .ok (.imul, 1) := by decide +kernel
theorem dX6_plainTells_12 : decode cX6_plainTells 12 = .ok (.ireturn, 1) := by decide +kernel
theorem dX6_tellsActs_0 : decode cX6_tellsActs 0 = .ok (.aload_n 0, 1) := by decide +kernel
theorem dX6_tellsActs_1 : decode cX6_tellsActs 1 = .ok (.getfield 241, 3) := by decide +kernel
theorem dX6_tellsActs_4 : decode cX6_tellsActs 4 = .ok (.iconst 3, 1) := by decide +kernel
theorem dX6_tellsActs_5 : decode cX6_tellsActs 5 = .ok (.invokestatic 253, 3) := by decide +kernel
theorem dX6_tellsActs_8 : decode cX6_tellsActs 8 = .ok (.ifCond .eq 18, 3) := by decide +kernel
theorem dX6_tellsActs_11 : decode cX6_tellsActs 11 = .ok (.aload_n 0, 1) := by decide +kernel
theorem dX6_tellsActs_12 : decode cX6_tellsActs 12 = .ok (.bipush 31, 2) := by decide +kernel
theorem dX6_tellsActs_14 : decode cX6_tellsActs 14 = .ok (.invokevirtual 235, 3) := by decide +kernel
theorem dX6_tellsActs_17 : decode cX6_tellsActs 17 = .ok (.aload_n 0, 1) := by decide +kernel
theorem dX6_tellsActs_18 : decode cX6_tellsActs 18 = .ok (.iload_n 1, 1) := by decide +kernel
theorem dX6_tellsActs_19 : decode cX6_tellsActs 19 = .ok (.invokevirtual 262, 3) := by decide +kernel
theorem dX6_tellsActs_22 : decode cX6_tellsActs 22 = .ok (.bipush 7, 2) := by decide +kernel
theorem dX6_tellsActs_24 : decode cX6_tellsActs 24 = .ok (.ixor, 1) := by decide +kernel
theorem dX6_tellsActs_25 : decode cX6_tellsActs 25 = .ok (.ireturn, 1) := by decide +kernel
theorem dX6_tellsActs_26 : decode cX6_tellsActs 26 = .ok (.aload_n 0, 1) := by decide +kernel
theorem dX6_tellsActs_27 : decode cX6_tellsActs 27 = .ok (.getfield 241, 3) := by decide +kernel
theorem dX6_tellsActs_30 : decode cX6_tellsActs 30 = .ok (.iconst 4, 1) := by decide +kernel
theorem dX6_tellsActs_31 : decode cX6_tellsActs 31 = .ok (.if_icmp .ne 25, 3) := by decide +kernel
theorem dX6_tellsActs_34 : decode cX6_tellsActs 34 = .ok (.aload_n 0, 1) := by decide +kernel
theorem dX6_tellsActs_35 : decode cX6_tellsActs 35 = .ok (.bipush 41, 2) := by decide +kernel
theorem dX6_tellsActs_37 : decode cX6_tellsActs 37 = .ok (.invokevirtual 235, 3) := by decide +kernel
theorem dX6_tellsActs_40 : decode cX6_tellsActs 40 = .ok (.aload_n 0, 1) := by decide +kernel
theorem dX6_tellsActs_41 : decode cX6_tellsActs 41 = .ok (.iload_n 1, 1) := by decide +kernel
theorem dX6_tellsActs_42 : decode cX6_tellsActs 42 = .ok (.iconst 1, 1) := by decide +kernel
theorem dX6_tellsActs_43 : decode cX6_tellsActs 43 = .ok (.isub, 1) := by decide +kernel
theorem dX6_tellsActs_44 : decode cX6_tellsActs 44 = .ok (.invokevirtual 262, 3) := by decide +kernel
theorem dX6_tellsActs_47 : decode cX6_tellsActs 47 = .ok (.istore_n 2, 1) := by decide +kernel
theorem dX6_tellsActs_48 : decode cX6_tellsActs 48 = .ok (.iload_n 2, 1) := by decide +kernel
theorem dX6_tellsActs_49 : decode cX6_tellsActs 49 = .ok (.aload_n 0, 1) := by decide +kernel
theorem dX6_tellsActs_50 : decode cX6_tellsActs 50 = .ok (.iconst 2, 1) := by decide +kernel
theorem dX6_tellsActs_51 : decode cX6_tellsActs 51 = .ok (.invokevirtual 247, 3) := by decide +kernel
theorem dX6_tellsActs_54 : decode cX6_tellsActs 54 = .ok (.iadd, 1) := by decide +kernel
theorem dX6_tellsActs_55 : decode cX6_tellsActs 55 = .ok (.ireturn, 1) := by decide +kernel
theorem dX6_tellsActs_56 : decode cX6_tellsActs 56 = .ok (.aload_n 0, 1) := by decide +kernel
theorem dX6_tellsActs_57 : decode cX6_tellsActs 57 = .ok (.iload_n 1, 1) := by decide +kernel
theorem dX6_tellsActs_58 : decode cX6_tellsActs 58 = .ok (.invokevirtual 262, 3) := by decide +kernel
theorem dX6_tellsActs_61 : decode cX6_tellsActs 61 = .ok (.ireturn, 1) := by decide +kernel
theorem dX6_act_0 : decode cX6_act 0 = .ok (.aload_n 0, 1) := by decide +kernel
theorem dX6_act_1 : decode cX6_act 1 = .ok (.iconst 0, 1) := by decide +kernel
theorem dX6_act_2 : decode cX6_act 2 = .ok (.putfield 232, 3) := by decide +kernel
theorem dX6_act_5 : decode cX6_act 5 = .ok (.aload_n 0, 1) := by decide +kernel
theorem dX6_act_6 : decode cX6_act 6 = .ok (.iload_n 1, 1) := by decide +kernel
theorem dX6_act_7 : decode cX6_act 7 = .ok (.invokevirtual 152, 3) := by decide +kernel
theorem dX6_act_10 : decode cX6_act 10 = .ok (.ifCond .eq 12, 3) := by decide +kernel
theorem dX6_act_13 : decode cX6_act 13 = .ok (.iload_n 2, 1) := by decide +kernel
theorem dX6_act_14 : decode cX6_act 14 = .ok (.iconst 0, 1) := by decide +kernel
theorem dX6_act_15 : decode cX6_act 15 = .ok (.iconst 2, 1) := by decide +kernel
theorem dX6_act_16 : decode cX6_act 16 = .ok (.invokestatic 45, 3) := by decide +kernel
theorem dX6_act_19 : decode cX6_act 19 = .ok (.ifCond .ne 5, 3) := by decide +kernel
theorem dX6_act_22 : decode cX6_act 22 = .ok (.iconst 0, 1) := by decide +kernel
theorem dX6_act_23 : decode cX6_act 23 = .ok (.ireturn, 1) := by decide +kernel
theorem dX6_act_24 : decode cX6_act 24 = .ok (.aload_n 0, 1) := by decide +kernel
theorem dX6_act_25 : decode cX6_act 25 = .ok (.aload_n 0, 1) := by decide +kernel
theorem dX6_act_26 : decode cX6_act 26 = .ok (.getfield 7, 3) := by decide +kernel
theorem dX6_act_29 : decode cX6_act 29 = .ok (.bipush 110, 2) := by decide +kernel
theorem dX6_act_31 : decode cX6_act 31 = .ok (.iload_n 1, 1) := by decide +kernel
theorem dX6_act_32 : decode cX6_act 32 = .ok (.iadd, 1) := by decide +kernel
theorem dX6_act_33 : decode cX6_act 33 = .ok (.iaload, 1) := by decide +kernel
theorem dX6_act_34 : decode cX6_act 34 = .ok (.putfield 241, 3) := by decide +kernel
theorem dX6_act_37 : decode cX6_act 37 = .ok (.aload_n 0, 1) := by decide +kernel
theorem dX6_act_38 : decode cX6_act 38 = .ok (.iload_n 1, 1) := by decide +kernel
theorem dX6_act_39 : decode cX6_act 39 = .ok (.putfield 238, 3) := by decide +kernel
theorem dX6_act_42 : decode cX6_act 42 = .ok (.aload_n 0, 1) := by decide +kernel
theorem dX6_act_43 : decode cX6_act 43 = .ok (.aload_n 0, 1) := by decide +kernel
theorem dX6_act_44 : decode cX6_act 44 = .ok (.getfield 7, 3) := by decide +kernel
theorem dX6_act_47 : decode cX6_act 47 = .ok (.bipush 114, 2) := by decide +kernel
theorem dX6_act_49 : decode cX6_act 49 = .ok (.iload_n 1, 1) := by decide +kernel
theorem dX6_act_50 : decode cX6_act 50 = .ok (.iadd, 1) := by decide +kernel
theorem dX6_act_51 : decode cX6_act 51 = .ok (.iaload, 1) := by decide +kernel
theorem dX6_act_52 : decode cX6_act 52 = .ok (.putfield 250, 3) := by decide +kernel
theorem dX6_act_55 : decode cX6_act 55 = .ok (.iload_n 2, 1) := by decide +kernel
theorem dX6_act_56 : decode cX6_act 56 = .ok (.ifCond .ne 11, 3) := by decide +kernel
theorem dX6_act_59 : decode cX6_act 59 = .ok (.aload_n 0, 1) := by decide +kernel
theorem dX6_act_60 : decode cX6_act 60 = .ok (.iload_n 3, 1) := by decide +kernel
theorem dX6_act_61 : decode cX6_act 61 = .ok (.invokevirtual 247, 3) := by decide +kernel
theorem dX6_act_64 : decode cX6_act 64 = .ok (.goto 21, 3) := by decide +kernel
theorem dX6_act_67 : decode cX6_act 67 = .ok (.iload_n 2, 1) := by decide +kernel
theorem dX6_act_68 : decode cX6_act 68 = .ok (.iconst 1, 1) := by decide +kernel
theorem dX6_act_69 : decode cX6_act 69 = .ok (.if_icmp .ne 11, 3) := by decide +kernel
theorem dX6_act_72 : decode cX6_act 72 = .ok (.aload_n 0, 1) := by decide +kernel
theorem dX6_act_73 : decode cX6_act 73 = .ok (.iload_n 3, 1) := by decide +kernel
theorem dX6_act_74 : decode cX6_act 74 = .ok (.invokevirtual 259, 3) := by decide +kernel
theorem dX6_act_77 : decode cX6_act 77 = .ok (.goto 8, 3) := by decide +kernel
theorem dX6_act_80 : decode cX6_act 80 = .ok (.aload_n 0, 1) := by decide +kernel
theorem dX6_act_81 : decode cX6_act 81 = .ok (.iload_n 3, 1) := by decide +kernel
theorem dX6_act_82 : decode cX6_act 82 = .ok (.invokevirtual 265, 3) := by decide +kernel
theorem dX6_act_85 : decode cX6_act 85 = .ok (.ireturn, 1) := by decide +kernel
theorem dX6_trace_0 : decode cX6_trace 0 = .ok (.iload_n 1, 1) := by decide +kernel
theorem dX6_trace_1 : decode cX6_trace 1 = .ok (.iconst 0, 1) := by decide +kernel
theorem dX6_trace_2 : decode cX6_trace 2 = .ok (.aload_n 0, 1) := by decide +kernel
theorem dX6_trace_3 : decode cX6_trace 3 = .ok (.getfield 232, 3) := by decide +kernel
theorem dX6_trace_6 : decode cX6_trace 6 = .ok (.bipush 20, 2) := by decide +kernel
theorem dX6_trace_8 : decode cX6_trace 8 = .ok (.if_icmp .ge 10, 3) := by decide +kernel
theorem dX6_trace_11 : decode cX6_trace 11 = .ok (.aload_n 0, 1) := by decide +kernel
theorem dX6_trace_12 : decode cX6_trace 12 = .ok (.getfield 232, 3) := by decide +kernel
theorem dX6_trace_15 : decode cX6_trace 15 = .ok (.goto 5, 3) := by decide +kernel
theorem dX6_trace_18 : decode cX6_trace 18 = .ok (.bipush 20, 2) := by decide +kernel
theorem dX6_trace_20 : decode cX6_trace 20 = .ok (.iconst 1, 1) := by decide +kernel
theorem dX6_trace_21 : decode cX6_trace 21 = .ok (.isub, 1) := by decide +kernel
theorem dX6_trace_22 : decode cX6_trace 22 = .ok (.invokestatic 45, 3) := by decide +kernel
theorem dX6_trace_25 : decode cX6_trace 25 = .ok (.ifCond .eq 12, 3) := by decide +kernel
theorem dX6_trace_28 : decode cX6_trace 28 = .ok (.aload_n 0, 1) := by decide +kernel
theorem dX6_trace_29 : decode cX6_trace 29 = .ok (.getfield 38, 3) := by decide +kernel
theorem dX6_trace_32 : decode cX6_trace 32 = .ok (.iload_n 1, 1) := by decide +kernel
theorem dX6_trace_33 : decode cX6_trace 33 = .ok (.iaload, 1) := by decide +kernel
theorem dX6_trace_34 : decode cX6_trace 34 = .ok (.goto 4, 3) := by decide +kernel
theorem dX6_trace_37 : decode cX6_trace 37 = .ok (.iconst (-1), 1) := by decide +kernel
theorem dX6_trace_38 : decode cX6_trace 38 = .ok (.ireturn, 1) := by decide +kernel
theorem dX6_as_0 : decode cX6_as 0 = .ok (.aload_n 0, 1) := by decide +kernel
theorem dX6_as_1 : decode cX6_as 1 = .ok (.iload_n 1, 1) := by decide +kernel
theorem dX6_as_2 : decode cX6_as 2 = .ok (.invokevirtual 152, 3) := by decide +kernel
theorem dX6_as_5 : decode cX6_as 5 = .ok (.ifCond .eq 13, 3) := by decide +kernel
theorem dX6_as_8 : decode cX6_as 8 = .ok (.iload_n 2, 1) := by decide +kernel
theorem dX6_as_9 : decode cX6_as 9 = .ok (.iconst 0, 1) := by decide +kernel
theorem dX6_as_10 : decode cX6_as 10 = .ok (.bipush 6, 2) := by decide +kernel
theorem dX6_as_12 : decode cX6_as 12 = .ok (.invokestatic 45, 3) := by decide +kernel
theorem dX6_as_15 : decode cX6_as 15 = .ok (.ifCond .ne 5, 3) := by decide +kernel
theorem dX6_as_18 : decode cX6_as 18 = .ok (.iconst (-1), 1) := by decide +kernel
theorem dX6_as_19 : decode cX6_as 19 = .ok (.ireturn, 1) := by decide +kernel
theorem dX6_as_20 : decode cX6_as 20 = .ok (.aload_n 0, 1) := by decide +kernel
theorem dX6_as_21 : decode cX6_as 21 = .ok (.getfield 7, 3) := by decide +kernel
theorem dX6_as_24 : decode cX6_as 24 = .ok (.bipush 110, 2) := by decide +kernel
theorem dX6_as_26 : decode cX6_as 26 = .ok (.iload_n 1, 1) := by decide +kernel
theorem dX6_as_27 : decode cX6_as 27 = .ok (.iadd, 1) := by decide +kernel
theorem dX6_as_28 : decode cX6_as 28 = .ok (.iaload, 1) := by decide +kernel
theorem dX6_as_29 : decode cX6_as 29 = .ok (.iload_n 2, 1) := by decide +kernel
theorem dX6_as_30 : decode cX6_as 30 = .ok (.invokestatic 253, 3) := by decide +kernel
theorem dX6_as_33 : decode cX6_as 33 = .ok (.ifCond .eq 15, 3) := by decide +kernel
theorem dX6_as_36 : decode cX6_as 36 = .ok (.aload_n 0, 1) := by decide +kernel
theorem dX6_as_37 : decode cX6_as 37 = .ok (.getfield 7, 3) := by decide +kernel
theorem dX6_as_40 : decode cX6_as 40 = .ok (.bipush 114, 2) := by decide +kernel
theorem dX6_as_42 : decode cX6_as 42 = .ok (.iload_n 1, 1) := by decide +kernel
theorem dX6_as_43 : decode cX6_as 43 = .ok (.iadd, 1) := by decide +kernel
theorem dX6_as_44 : decode cX6_as 44 = .ok (.iaload, 1) := by decide +kernel
theorem dX6_as_45 : decode cX6_as 45 = .ok (.goto 5, 3) := by decide +kernel
theorem dX6_as_48 : decode cX6_as 48 = .ok (.bipush (-6), 2) := by decide +kernel
theorem dX6_as_50 : decode cX6_as 50 = .ok (.ireturn, 1) := by decide +kernel
theorem dX6_image_0 : decode cX6_image 0 = .ok (.iconst 0, 1) := by decide +kernel
theorem dX6_image_1 : decode cX6_image 1 = .ok (.istore_n 1, 1) := by decide +kernel
theorem dX6_image_2 : decode cX6_image 2 = .ok (.iload_n 1, 1) := by decide +kernel
theorem dX6_image_3 : decode cX6_image 3 = .ok (.sipush 846, 3) := by decide +kernel
theorem dX6_image_6 : decode cX6_image 6 = .ok (.if_icmp .ge 21, 3) := by decide +kernel
theorem dX6_image_9 : decode cX6_image 9 = .ok (.aload_n 0, 1) := by decide +kernel
theorem dX6_image_10 : decode cX6_image 10 = .ok (.getfield 13, 3) := by decide +kernel
theorem dX6_image_13 : decode cX6_image 13 = .ok (.iload_n 1, 1) := by decide +kernel
theorem dX6_image_14 : decode cX6_image 14 = .ok (.aload_n 0, 1) := by decide +kernel
theorem dX6_image_15 : decode cX6_image 15 = .ok (.getfield 7, 3) := by decide +kernel
theorem dX6_image_18 : decode cX6_image 18 = .ok (.iload_n 1, 1) := by decide +kernel
theorem dX6_image_19 : decode cX6_image 19 = .ok (.iaload, 1) := by decide +kernel
theorem dX6_image_20 : decode cX6_image 20 = .ok (.iastore, 1) := by decide +kernel
theorem dX6_image_21 : decode cX6_image 21 = .ok (.iinc 1 1, 3) := by decide +kernel
theorem dX6_image_24 : decode cX6_image 24 = .ok (.goto (-22), 3) := by decide +kernel
theorem dX6_image_27 : decode cX6_image 27 = .ok (.aload_n 0, 1) := by decide +kernel
theorem dX6_image_28 : decode cX6_image 28 = .ok (.iconst 1, 1) := by decide +kernel
theorem dX6_image_29 : decode cX6_image 29 = .ok (.putfield 268, 3) := by decide +kernel
theorem dX6_image_32 : decode cX6_image 32 = .ok (.aload_n 0, 1) := by decide +kernel
theorem dX6_image_33 : decode cX6_image 33 = .ok (.getfield 7, 3) := by decide +kernel
theorem dX6_image_36 : decode cX6_image 36 = .ok (.iconst 0, 1) := by decide +kernel
theorem dX6_image_37 : decode cX6_image 37 = .ok (.iaload, 1) := by decide +kernel
theorem dX6_image_38 : decode cX6_image 38 = .ok (.ireturn, 1) := by decide +kernel
theorem dX6_undo_0 : decode cX6_undo 0 = .ok (.aload_n 0, 1) := by decide +kernel
theorem dX6_undo_1 : decode cX6_undo 1 = .ok (.getfield 268, 3) := by decide +kernel
theorem dX6_undo_4 : decode cX6_undo 4 = .ok (.ifCond .ne 6, 3) := by decide +kernel
theorem dX6_undo_7 : decode cX6_undo 7 = .ok (.bipush (-3), 2) := by decide +kernel
theorem dX6_undo_9 : decode cX6_undo 9 = .ok (.ireturn, 1) := by decide +kernel
theorem dX6_undo_10 : decode cX6_undo 10 = .ok (.iconst 0, 1) := by decide +kernel
theorem dX6_undo_11 : decode cX6_undo 11 = .ok (.istore_n 1, 1) := by decide +kernel
theorem dX6_undo_12 : decode cX6_undo 12 = .ok (.iload_n 1, 1) := by decide +kernel
theorem dX6_undo_13 : decode cX6_undo 13 = .ok (.sipush 846, 3) := by decide +kernel
theorem dX6_undo_16 : decode cX6_undo 16 = .ok (.if_icmp .ge 21, 3) := by decide +kernel
theorem dX6_undo_19 : decode cX6_undo 19 = .ok (.aload_n 0, 1) := by decide +kernel
theorem dX6_undo_20 : decode cX6_undo 20 = .ok (.getfield 7, 3) := by decide +kernel
theorem dX6_undo_23 : decode cX6_undo 23 = .ok (.iload_n 1, 1) := by decide +kernel
theorem dX6_undo_24 : decode cX6_undo 24 = .ok (.aload_n 0, 1) := by decide +kernel
theorem dX6_undo_25 : decode cX6_undo 25 = .ok (.getfield 13, 3) := by decide +kernel
theorem dX6_undo_28 : decode cX6_undo 28 = .ok (.iload_n 1, 1) := by decide +kernel
theorem dX6_undo_29 : decode cX6_undo 29 = .ok (.iaload, 1) := by decide +kernel
theorem dX6_undo_30 : decode cX6_undo 30 = .ok (.iastore, 1) := by decide +kernel
theorem dX6_undo_31 : decode cX6_undo 31 = .ok (.iinc 1 1, 3) := by decide +kernel
theorem dX6_undo_34 : decode cX6_undo 34 = .ok (.goto (-22), 3) := by decide +kernel
theorem dX6_undo_37 : decode cX6_undo 37 = .ok (.aload_n 0, 1) := by decide +kernel
theorem dX6_undo_38 : decode cX6_undo 38 = .ok (.getfield 7, 3) := by decide +kernel
theorem dX6_undo_41 : decode cX6_undo 41 = .ok (.iconst 0, 1) := by decide +kernel
theorem dX6_undo_42 : decode cX6_undo 42 = .ok (.iaload, 1) := by decide +kernel
theorem dX6_undo_43 : decode cX6_undo 43 = .ok (.ireturn, 1) := by decide +kernel
theorem dX6_count_0 : decode cX6_count 0 = .ok (.iload_n 1, 1) := by decide +kernel
theorem dX6_count_1 : decode cX6_count 1 = .ok (.tableswitch 68 0 4 #[35, 42, 49, 56, 63], 35) := by decide +kernel
theorem dX6_count_36 : decode cX6_count 36 = .ok (.aload_n 0, 1) := by decide +kernel
theorem dX6_count_37 : decode cX6_count 37 = .ok (.getfield 7, 3) := by decide +kernel
theorem dX6_count_40 : decode cX6_count 40 = .ok (.iconst 0, 1) := by decide +kernel
theorem dX6_count_41 : decode cX6_count 41 = .ok (.iaload, 1) := by decide +kernel
theorem dX6_count_42 : decode cX6_count 42 = .ok (.ireturn, 1) := by decide +kernel
theorem dX6_count_43 : decode cX6_count 43 = .ok (.aload_n 0, 1) := by decide +kernel
theorem dX6_count_44 : decode cX6_count 44 = .ok (.getfield 7, 3) := by decide +kernel
theorem dX6_count_47 : decode cX6_count 47 = .ok (.iconst 1, 1) := by decide +kernel
theorem dX6_count_48 : decode cX6_count 48 = .ok (.iaload, 1) := by decide +kernel
theorem dX6_count_49 : decode cX6_count 49 = .ok (.ireturn, 1) := by decide +kernel
theorem dX6_count_50 : decode cX6_count 50 = .ok (.aload_n 0, 1) := by decide +kernel
theorem dX6_count_51 : decode cX6_count 51 = .ok (.getfield 7, 3) := by decide +kernel
theorem dX6_count_54 : decode cX6_count 54 = .ok (.iconst 2, 1) := by decide +kernel
theorem dX6_count_55 : decode cX6_count 55 = .ok (.iaload, 1) := by decide +kernel
theorem dX6_count_56 : decode cX6_count 56 = .ok (.ireturn, 1) := by decide +kernel
theorem dX6_count_57 : decode cX6_count 57 = .ok (.aload_n 0, 1) := by decide +kernel
theorem dX6_count_58 : decode cX6_count 58 = .ok (.getfield 7, 3) := by decide +kernel
theorem dX6_count_61 : decode cX6_count 61 = .ok (.iconst 3, 1) := by decide +kernel
theorem dX6_count_62 : decode cX6_count 62 = .ok (.iaload, 1) := by decide +kernel
theorem dX6_count_63 : decode cX6_count 63 = .ok (.ireturn, 1) := by decide +kernel
theorem dX6_count_64 : decode cX6_count 64 = .ok (.aload_n 0, 1) := by decide +kernel
theorem dX6_count_65 : decode cX6_count 65 = .ok (.getfield 232, 3) := by decide +kernel
theorem dX6_count_68 : decode cX6_count 68 = .ok (.ireturn, 1) := by decide +kernel
theorem dX6_count_69 : decode cX6_count 69 = .ok (.iconst (-1), 1) := by decide +kernel
theorem dX6_count_70 : decode cX6_count 70 = .ok (.ireturn, 1) := by decide +kernel
end CDC
end
section
section CDC
theorem dJ6_bitCount_0f7a4_0 : decode cJ6_bitCount_0f7a4 0 = .ok (.iload_n 0, 1) := by decide +kernel
theorem dJ6_bitCount_0f7a4_1 : decode cJ6_bitCount_0f7a4 1 = .ok (.iload_n 0, 1) := by decide +kernel
theorem dJ6_bitCount_0f7a4_2 : decode cJ6_bitCount_0f7a4 2 = .ok (.iconst 1, 1) := by decide +kernel
theorem dJ6_bitCount_0f7a4_3 : decode cJ6_bitCount_0f7a4 3 = .ok (.iushr, 1) := by decide +kernel
theorem dJ6_bitCount_0f7a4_4 : decode cJ6_bitCount_0f7a4 4 = .ok (.ldc_w 265, 3) := by decide +kernel
theorem dJ6_bitCount_0f7a4_7 : decode cJ6_bitCount_0f7a4 7 = .ok (.iand, 1) := by decide +kernel
theorem dJ6_bitCount_0f7a4_8 : decode cJ6_bitCount_0f7a4 8 = .ok (.isub, 1) := by decide +kernel
theorem dJ6_bitCount_0f7a4_9 : decode cJ6_bitCount_0f7a4 9 = .ok (.istore_n 0, 1) := by decide +kernel
theorem dJ6_bitCount_0f7a4_10 : decode cJ6_bitCount_0f7a4 10 = .ok (.iload_n 0, 1) := by decide +kernel
theorem dJ6_bitCount_0f7a4_11 : decode cJ6_bitCount_0f7a4 11 = .ok (.ldc_w 266, 3) := by decide +kernel
theorem dJ6_bitCount_0f7a4_14 : decode cJ6_bitCount_0f7a4 14 = .ok (.iand, 1) := by decide +kernel
theorem dJ6_bitCount_0f7a4_15 : decode cJ6_bitCount_0f7a4 15 = .ok (.iload_n 0, 1) := by decide +kernel
theorem dJ6_bitCount_0f7a4_16 : decode cJ6_bitCount_0f7a4 16 = .ok (.iconst 2, 1) := by decide +kernel
theorem dJ6_bitCount_0f7a4_17 : decode cJ6_bitCount_0f7a4 17 = .ok (.iushr, 1) := by decide +kernel
theorem dJ6_bitCount_0f7a4_18 : decode cJ6_bitCount_0f7a4 18 = .ok (.ldc_w 266, 3) := by decide +kernel
theorem dJ6_bitCount_0f7a4_21 : decode cJ6_bitCount_0f7a4 21 = .ok (.iand, 1) := by decide +kernel
theorem dJ6_bitCount_0f7a4_22 : decode cJ6_bitCount_0f7a4 22 = .ok (.iadd, 1) := by decide +kernel
theorem dJ6_bitCount_0f7a4_23 : decode cJ6_bitCount_0f7a4 23 = .ok (.istore_n 0, 1) := by decide +kernel
theorem dJ6_bitCount_0f7a4_24 : decode cJ6_bitCount_0f7a4 24 = .ok (.iload_n 0, 1) := by decide +kernel
theorem dJ6_bitCount_0f7a4_25 : decode cJ6_bitCount_0f7a4 25 = .ok (.iload_n 0, 1) := by decide +kernel
theorem dJ6_bitCount_0f7a4_26 : decode cJ6_bitCount_0f7a4 26 = .ok (.iconst 4, 1) := by decide +kernel
theorem dJ6_bitCount_0f7a4_27 : decode cJ6_bitCount_0f7a4 27 = .ok (.iushr, 1) := by decide +kernel
theorem dJ6_bitCount_0f7a4_28 : decode cJ6_bitCount_0f7a4 28 = .ok (.iadd, 1) := by decide +kernel
theorem dJ6_bitCount_0f7a4_29 : decode cJ6_bitCount_0f7a4 29 = .ok (.ldc_w 267, 3) := by decide +kernel
theorem dJ6_bitCount_0f7a4_32 : decode cJ6_bitCount_0f7a4 32 = .ok (.iand, 1) := by decide +kernel
theorem dJ6_bitCount_0f7a4_33 : decode cJ6_bitCount_0f7a4 33 = .ok (.istore_n 0, 1) := by decide +kernel
theorem dJ6_bitCount_0f7a4_34 : decode cJ6_bitCount_0f7a4 34 = .ok (.iload_n 0, 1) := by decide +kernel
theorem dJ6_bitCount_0f7a4_35 : decode cJ6_bitCount_0f7a4 35 = .ok (.iload_n 0, 1) := by decide +kernel
theorem dJ6_bitCount_0f7a4_36 : decode cJ6_bitCount_0f7a4 36 = .ok (.bipush 8, 2) := by decide +kernel
theorem dJ6_bitCount_0f7a4_38 : decode cJ6_bitCount_0f7a4 38 = .ok (.iushr, 1) := by decide +kernel
theorem dJ6_bitCount_0f7a4_39 : decode cJ6_bitCount_0f7a4 39 = .ok (.iadd, 1) := by decide +kernel
theorem dJ6_bitCount_0f7a4_40 : decode cJ6_bitCount_0f7a4 40 = .ok (.istore_n 0, 1) := by decide +kernel
theorem dJ6_bitCount_0f7a4_41 : decode cJ6_bitCount_0f7a4 41 = .ok (.iload_n 0, 1) := by decide +kernel
theorem dJ6_bitCount_0f7a4_42 : decode cJ6_bitCount_0f7a4 42 = .ok (.iload_n 0, 1) := by decide +kernel
theorem dJ6_bitCount_0f7a4_43 : decode cJ6_bitCount_0f7a4 43 = .ok (.bipush 16, 2) := by decide +kernel
theorem dJ6_bitCount_0f7a4_45 : decode cJ6_bitCount_0f7a4 45 = .ok (.iushr, 1) := by decide +kernel
theorem dJ6_bitCount_0f7a4_46 : decode cJ6_bitCount_0f7a4 46 = .ok (.iadd, 1) := by decide +kernel
theorem dJ6_bitCount_0f7a4_47 : decode cJ6_bitCount_0f7a4 47 = .ok (.istore_n 0, 1) := by decide +kernel
theorem dJ6_bitCount_0f7a4_48 : decode cJ6_bitCount_0f7a4 48 = .ok (.iload_n 0, 1) := by decide +kernel
theorem dJ6_bitCount_0f7a4_49 : decode cJ6_bitCount_0f7a4 49 = .ok (.bipush 63, 2) := by decide +kernel
theorem dJ6_bitCount_0f7a4_51 : decode cJ6_bitCount_0f7a4 51 = .ok (.iand, 1) := by decide +kernel
theorem dJ6_bitCount_0f7a4_52 : decode cJ6_bitCount_0f7a4 52 = .ok (.ireturn, 1) := by decide +kernel
theorem dJ9_max_7cf53_0 : decode cJ9_max_7cf53 0 = .ok (.iload_n 0, 1) := by decide +kernel
theorem dJ9_max_7cf53_1 : decode cJ9_max_7cf53 1 = .ok (.iload_n 1, 1) := by decide +kernel
theorem dJ9_max_7cf53_2 : decode cJ9_max_7cf53 2 = .ok (.if_icmp .lt 7, 3) := by decide +kernel
theorem dJ9_max_7cf53_5 : decode cJ9_max_7cf53 5 = .ok (.iload_n 0, 1) := by decide +kernel
theorem dJ9_max_7cf53_6 : decode cJ9_max_7cf53 6 = .ok (.goto 4, 3) := by decide +kernel
theorem dJ9_max_7cf53_9 : decode cJ9_max_7cf53 9 = .ok (.iload_n 1, 1) := by decide +kernel
theorem dJ9_max_7cf53_10 : decode cJ9_max_7cf53 10 = .ok (.ireturn, 1) := by decide +kernel
theorem dJ9_min_7cf53_0 : decode cJ9_min_7cf53 0 = .ok (.iload_n 0, 1) := by decide +kernel
theorem dJ9_min_7cf53_1 : decode cJ9_min_7cf53 1 = .ok (.iload_n 1, 1) := by decide +kernel
theorem dJ9_min_7cf53_2 : decode cJ9_min_7cf53 2 = .ok (.if_icmp .gt 7, 3) := by decide +kernel
theorem dJ9_min_7cf53_5 : decode cJ9_min_7cf53 5 = .ok (.iload_n 0, 1) := by decide +kernel
theorem dJ9_min_7cf53_6 : decode cJ9_min_7cf53 6 = .ok (.goto 4, 3) := by decide +kernel
theorem dJ9_min_7cf53_9 : decode cJ9_min_7cf53 9 = .ok (.iload_n 1, 1) := by decide +kernel
theorem dJ9_min_7cf53_10 : decode cJ9_min_7cf53 10 = .ok (.ireturn, 1) := by decide +kernel
theorem dJ0_length_8abf5_0 : decode cJ0_length_8abf5 0 = .ok (.aload_n 0, 1) := by decide +kernel
theorem dJ0_length_8abf5_1 : decode cJ0_length_8abf5 1 = .ok (.getfield 9, 3) := by decide +kernel
theorem dJ0_length_8abf5_4 : decode cJ0_length_8abf5 4 = .ok (.arraylength, 1) := by decide +kernel
theorem dJ0_length_8abf5_5 : decode cJ0_length_8abf5 5 = .ok (.aload_n 0, 1) := by decide +kernel
theorem dJ0_length_8abf5_6 : decode cJ0_length_8abf5 6 = .ok (.invokevirtual 335, 3) := by decide +kernel
theorem dJ0_length_8abf5_9 : decode cJ0_length_8abf5 9 = .ok (.ishr, 1) := by decide +kernel
theorem dJ0_length_8abf5_10 : decode cJ0_length_8abf5 10 = .ok (.ireturn, 1) := by decide +kernel
theorem dJ0_charAt_5068e_0 : decode cJ0_charAt_5068e 0 = .ok (.aload_n 0, 1) := by decide +kernel
theorem dJ0_charAt_5068e_1 : decode cJ0_charAt_5068e 1 = .ok (.invokevirtual 492, 3) := by decide +kernel
theorem dJ0_charAt_5068e_4 : decode cJ0_charAt_5068e 4 = .ok (.ifCond .eq 12, 3) := by decide +kernel
theorem dJ0_charAt_5068e_7 : decode cJ0_charAt_5068e 7 = .ok (.aload_n 0, 1) := by decide +kernel
theorem dJ0_charAt_5068e_8 : decode cJ0_charAt_5068e 8 = .ok (.getfield 9, 3) := by decide +kernel
theorem dJ0_charAt_5068e_11 : decode cJ0_charAt_5068e 11 = .ok (.iload_n 1, 1) := by decide +kernel
theorem dJ0_charAt_5068e_12 : decode cJ0_charAt_5068e 12 = .ok (.invokestatic 495, 3) := by decide +kernel
theorem dJ0_charAt_5068e_15 : decode cJ0_charAt_5068e 15 = .ok (.ireturn, 1) := by decide +kernel
theorem dJ0_charAt_5068e_16 : decode cJ0_charAt_5068e 16 = .ok (.aload_n 0, 1) := by decide +kernel
theorem dJ0_charAt_5068e_17 : decode cJ0_charAt_5068e 17 = .ok (.getfield 9, 3) := by decide +kernel
theorem dJ0_charAt_5068e_20 : decode cJ0_charAt_5068e 20 = .ok (.iload_n 1, 1) := by decide +kernel
theorem dJ0_charAt_5068e_21 : decode cJ0_charAt_5068e 21 = .ok (.invokestatic 498, 3) := by decide +kernel
theorem dJ0_charAt_5068e_24 : decode cJ0_charAt_5068e 24 = .ok (.ireturn, 1) := by decide +kernel
theorem dJ0_coder_7d493_0 : decode cJ0_coder_7d493 0 = .ok (.getstatic 38, 3) := by decide +kernel
theorem dJ0_coder_7d493_3 : decode cJ0_coder_7d493 3 = .ok (.ifCond .eq 10, 3) := by decide +kernel
theorem dJ0_coder_7d493_6 : decode cJ0_coder_7d493 6 = .ok (.aload_n 0, 1) := by decide +kernel
theorem dJ0_coder_7d493_7 : decode cJ0_coder_7d493 7 = .ok (.getfield 15, 3) := by decide +kernel
theorem dJ0_coder_7d493_10 : decode cJ0_coder_7d493 10 = .ok (.goto 4, 3) := by decide +kernel
theorem dJ0_coder_7d493_13 : decode cJ0_coder_7d493 13 = .ok (.iconst 1, 1) := by decide +kernel
theorem dJ0_coder_7d493_14 : decode cJ0_coder_7d493 14 = .ok (.ireturn, 1) := by decide +kernel
theorem dJ0_isLatin1_aae02_0 : decode cJ0_isLatin1_aae02 0 = .ok (.getstatic 38, 3) := by decide +kernel
theorem dJ0_isLatin1_aae02_3 : decode cJ0_isLatin1_aae02 3 = .ok (.ifCond .eq 14, 3) := by decide +kernel
theorem dJ0_isLatin1_aae02_6 : decode cJ0_isLatin1_aae02 6 = .ok (.aload_n 0, 1) := by decide +kernel
theorem dJ0_isLatin1_aae02_7 : decode cJ0_isLatin1_aae02 7 = .ok (.getfield 15, 3) := by decide +kernel
theorem dJ0_isLatin1_aae02_10 : decode cJ0_isLatin1_aae02 10 = .ok (.ifCond .ne 7, 3) := by decide +kernel
theorem dJ0_isLatin1_aae02_13 : decode cJ0_isLatin1_aae02 13 = .ok (.iconst 1, 1) := by decide +kernel
theorem dJ0_isLatin1_aae02_14 : decode cJ0_isLatin1_aae02 14 = .ok (.goto 4, 3) := by decide +kernel
theorem dJ0_isLatin1_aae02_17 : decode cJ0_isLatin1_aae02 17 = .ok (.iconst 0, 1) := by decide +kernel
theorem dJ0_isLatin1_aae02_18 : decode cJ0_isLatin1_aae02 18 = .ok (.ireturn, 1) := by decide +kernel
theorem dJ0_checkIndex_df160_0 : decode cJ0_checkIndex_df160 0 = .ok (.iload_n 0, 1) := by decide +kernel
theorem dJ0_checkIndex_df160_1 : decode cJ0_checkIndex_df160 1 = .ok (.iload_n 1, 1) := by decide +kernel
theorem dJ0_checkIndex_df160_2 : decode cJ0_checkIndex_df160 2 = .ok (.getstatic 1053, 3) := by decide +kernel
theorem dJ0_checkIndex_df160_5 : decode cJ0_checkIndex_df160 5 = .ok (.invokestatic 1059, 3) := by decide +kernel
theorem dJ0_checkIndex_df160_8 : decode cJ0_checkIndex_df160 8 = .ok (.pop, 1) := by decide +kernel
theorem dJ0_checkIndex_df160_9 : decode cJ0_checkIndex_df160 9 = .ok (.return_, 1) := by decide +kernel
theorem dJ1_charAt_3b067_0 : decode cJ1_charAt_3b067 0 = .ok (.iload_n 1, 1) := by decide +kernel
theorem dJ1_charAt_3b067_1 : decode cJ1_charAt_3b067 1 = .ok (.aload_n 0, 1) := by decide +kernel
theorem dJ1_charAt_3b067_2 : decode cJ1_charAt_3b067 2 = .ok (.arraylength, 1) := by decide +kernel
theorem dJ1_charAt_3b067_3 : decode cJ1_charAt_3b067 3 = .ok (.invokestatic 9, 3) := by decide +kernel
theorem dJ1_charAt_3b067_6 : decode cJ1_charAt_3b067 6 = .ok (.aload_n 0, 1) := by decide +kernel
theorem dJ1_charAt_3b067_7 : decode cJ1_charAt_3b067 7 = .ok (.iload_n 1, 1) := by decide +kernel
theorem dJ1_charAt_3b067_8 : decode cJ1_charAt_3b067 8 = .ok (.baload, 1) := by decide +kernel
theorem dJ1_charAt_3b067_9 : decode cJ1_charAt_3b067 9 = .ok (.sipush 255, 3) := by decide +kernel
theorem dJ1_charAt_3b067_12 : decode cJ1_charAt_3b067 12 = .ok (.iand, 1) := by decide +kernel
theorem dJ1_charAt_3b067_13 : decode cJ1_charAt_3b067 13 = .ok (.i2c, 1) := by decide +kernel
theorem dJ1_charAt_3b067_14 : decode cJ1_charAt_3b067 14 = .ok (.ireturn, 1) := by decide +kernel
theorem dJ3_checkIndex_8e157_0 : decode cJ3_checkIndex_8e157 0 = .ok (.iload_n 0, 1) := by decide +kernel
theorem dJ3_checkIndex_8e157_1 : decode cJ3_checkIndex_8e157 1 = .ok (.ifCond .lt 8, 3) := by decide +kernel
theorem dJ3_checkIndex_8e157_4 : decode cJ3_checkIndex_8e157 4 = .ok (.iload_n 0, 1) := by decide +kernel
theorem dJ3_checkIndex_8e157_5 : decode cJ3_checkIndex_8e157 5 = .ok (.iload_n 1, 1) := by decide +kernel
theorem dJ3_checkIndex_8e157_6 : decode cJ3_checkIndex_8e157 6 = .ok (.if_icmp .lt 10, 3) := by decide +kernel
theorem dJ3_checkIndex_8e157_9 : decode cJ3_checkIndex_8e157 9 = .ok (.aload_n 2, 1) := by decide +kernel
theorem dJ3_checkIndex_8e157_10 : decode cJ3_checkIndex_8e157 10 = .ok (.iload_n 0, 1) := by decide +kernel
theorem dJ3_checkIndex_8e157_11 : decode cJ3_checkIndex_8e157 11 = .ok (.iload_n 1, 1) := by decide +kernel
theorem dJ3_checkIndex_8e157_12 : decode cJ3_checkIndex_8e157 12 = .ok (.invokestatic 95, 3) := by decide +kernel
theorem dJ3_checkIndex_8e157_15 : decode cJ3_checkIndex_8e157 15 = .ok (.athrow, 1) := by decide +kernel
theorem dJ3_checkIndex_8e157_16 : decode cJ3_checkIndex_8e157 16 = .ok (.iload_n 0, 1) := by decide +kernel
theorem dJ3_checkIndex_8e157_17 : decode cJ3_checkIndex_8e157 17 = .ok (.ireturn, 1) := by decide +kernel
theorem dL_law_0 : decode cL_law 0 = .ok (.new 7, 3) := by decide +kernel
theorem dL_law_3 : decode cL_law 3 = .ok (.dup, 1) := by decide +kernel
theorem dL_law_4 : decode cL_law 4 = .ok (.invokespecial 9, 3) := by decide +kernel
theorem dL_law_7 : decode cL_law 7 = .ok (.astore_n 1, 1) := by decide +kernel
theorem dL_law_8 : decode cL_law 8 = .ok (.new 10, 3) := by decide +kernel
theorem dL_law_11 : decode cL_law 11 = .ok (.dup, 1) := by decide +kernel
theorem dL_law_12 : decode cL_law 12 = .ok (.invokespecial 12, 3) := by decide +kernel
theorem dL_law_15 : decode cL_law 15 = .ok (.astore_n 2, 1) := by decide +kernel
theorem dL_law_16 : decode cL_law 16 = .ok (.iconst 0, 1) := by decide +kernel
theorem dL_law_17 : decode cL_law 17 = .ok (.istore_n 3, 1) := by decide +kernel
theorem dL_law_18 : decode cL_law 18 = .ok (.iload_n 3, 1) := by decide +kernel
theorem dL_law_19 : decode cL_law 19 = .ok (.aload_n 0, 1) := by decide +kernel
theorem dL_law_20 : decode cL_law 20 = .ok (.arraylength, 1) := by decide +kernel
theorem dL_law_21 : decode cL_law 21 = .ok (.iconst 5, 1) := by decide +kernel
theorem dL_law_22 : decode cL_law 22 = .ok (.isub, 1) := by decide +kernel
theorem dL_law_23 : decode cL_law 23 = .ok (.if_icmp .gt 916, 3) := by decide +kernel
theorem dL_law_26 : decode cL_law 26 = .ok (.aload_n 0, 1) := by decide +kernel
theorem dL_law_27 : decode cL_law 27 = .ok (.iload_n 3, 1) := by decide +kernel
theorem dL_law_28 : decode cL_law 28 = .ok (.iaload, 1) := by decide +kernel
theorem dL_law_29 : decode cL_law 29 = .ok (.bipush 31, 2) := by decide +kernel
theorem dL_law_31 : decode cL_law 31 = .ok (.iand, 1) := by decide +kernel
theorem dL_law_32 : decode cL_law 32 = .ok (.tableswitch 901 0 26 #[124, 147, 160, 183, 216, 249, 282, 331, 354, 407, 440, 463, 516, 549, 562, 595, 638, 651, 684, 707, 730, 753, 796, 819, 852, 865, 878], 124) := by decide +kernel
theorem dL_law_156 : decode cL_law 156 = .ok (.aload_n 1, 1) := by decide +kernel
theorem dL_law_157 : decode cL_law 157 = .ok (.aload_n 0, 1) := by decide +kernel
theorem dL_law_158 : decode cL_law 158 = .ok (.iload_n 3, 1) := by decide +kernel
theorem dL_law_159 : decode cL_law 159 = .ok (.iconst 1, 1) := by decide +kernel
theorem dL_law_160 : decode cL_law 160 = .ok (.iadd, 1) := by decide +kernel
theorem dL_law_161 : decode cL_law 161 = .ok (.iaload, 1) := by decide +kernel
theorem dL_law_162 : decode cL_law 162 = .ok (.invokevirtual 13, 3) := by decide +kernel
theorem dL_law_165 : decode cL_law 165 = .ok (.aload_n 2, 1) := by decide +kernel
theorem dL_law_166 : decode cL_law 166 = .ok (.aload_n 0, 1) := by decide +kernel
theorem dL_law_167 : decode cL_law 167 = .ok (.iload_n 3, 1) := by decide +kernel
theorem dL_law_168 : decode cL_law 168 = .ok (.iconst 1, 1) := by decide +kernel
theorem dL_law_169 : decode cL_law 169 = .ok (.iadd, 1) := by decide +kernel
theorem dL_law_170 : decode cL_law 170 = .ok (.iaload, 1) := by decide +kernel
theorem dL_law_171 : decode cL_law 171 = .ok (.invokevirtual 17, 3) := by decide +kernel
theorem dL_law_174 : decode cL_law 174 = .ok (.if_icmp .eq 759, 3) := by decide +kernel
theorem dL_law_177 : decode cL_law 177 = .ok (.iconst 0, 1) := by decide +kernel
theorem dL_law_178 : decode cL_law 178 = .ok (.ireturn, 1) := by decide +kernel
theorem dL_law_179 : decode cL_law 179 = .ok (.aload_n 1, 1) := by decide +kernel
theorem dL_law_180 : decode cL_law 180 = .ok (.invokevirtual 18, 3) := by decide +kernel
theorem dL_law_183 : decode cL_law 183 = .ok (.aload_n 2, 1) := by decide +kernel
theorem dL_law_184 : decode cL_law 184 = .ok (.invokevirtual 22, 3) := by decide +kernel
theorem dL_law_187 : decode cL_law 187 = .ok (.if_icmp .eq 746, 3) := by decide +kernel
theorem dL_law_190 : decode cL_law 190 = .ok (.iconst 0, 1) := by decide +kernel
theorem dL_law_191 : decode cL_law 191 = .ok (.ireturn, 1) := by decide +kernel
theorem dL_law_192 : decode cL_law 192 = .ok (.aload_n 1, 1) := by decide +kernel
theorem dL_law_193 : decode cL_law 193 = .ok (.aload_n 0, 1) := by decide +kernel
theorem dL_law_194 : decode cL_law 194 = .ok (.iload_n 3, 1) := by decide +kernel
theorem dL_law_195 : decode cL_law 195 = .ok (.iconst 1, 1) := by decide +kernel
theorem dL_law_196 : decode cL_law 196 = .ok (.iadd, 1) := by decide +kernel
theorem dL_law_197 : decode cL_law 197 = .ok (.iaload, 1) := by decide +kernel
theorem dL_law_198 : decode cL_law 198 = .ok (.invokevirtual 23, 3) := by decide +kernel
theorem dL_law_201 : decode cL_law 201 = .ok (.aload_n 2, 1) := by decide +kernel
theorem dL_law_202 : decode cL_law 202 = .ok (.aload_n 0, 1) := by decide +kernel
theorem dL_law_203 : decode cL_law 203 = .ok (.iload_n 3, 1) := by decide +kernel
theorem dL_law_204 : decode cL_law 204 = .ok (.iconst 1, 1) := by decide +kernel
theorem dL_law_205 : decode cL_law 205 = .ok (.iadd, 1) := by decide +kernel
theorem dL_law_206 : decode cL_law 206 = .ok (.iaload, 1) := by decide +kernel
theorem dL_law_207 : decode cL_law 207 = .ok (.invokevirtual 26, 3) := by decide +kernel
theorem dL_law_210 : decode cL_law 210 = .ok (.if_icmp .eq 723, 3) := by decide +kernel
theorem dL_law_213 : decode cL_law 213 = .ok (.iconst 0, 1) := by decide +kernel
theorem dL_law_214 : decode cL_law 214 = .ok (.ireturn, 1) := by decide +kernel
theorem dL_law_215 : decode cL_law 215 = .ok (.aload_n 1, 1) := by decide +kernel
theorem dL_law_216 : decode cL_law 216 = .ok (.aload_n 0, 1) := by decide +kernel
theorem dL_law_217 : decode cL_law 217 = .ok (.iload_n 3, 1) := by decide +kernel
theorem dL_law_218 : decode cL_law 218 = .ok (.iconst 1, 1) := by decide +kernel
theorem dL_law_219 : decode cL_law 219 = .ok (.iadd, 1) := by decide +kernel
theorem dL_law_220 : decode cL_law 220 = .ok (.iaload, 1) := by decide +kernel
theorem dL_law_221 : decode cL_law 221 = .ok (.aload_n 0, 1) := by decide +kernel
theorem dL_law_222 : decode cL_law 222 = .ok (.iload_n 3, 1) := by decide +kernel
theorem dL_law_223 : decode cL_law 223 = .ok (.iconst 2, 1) := by decide +kernel
theorem dL_law_224 : decode cL_law 224 = .ok (.iadd, 1) := by decide +kernel
theorem dL_law_225 : decode cL_law 225 = .ok (.iaload, 1) := by decide +kernel
theorem dL_law_226 : decode cL_law 226 = .ok (.invokevirtual 27, 3) := by decide +kernel
theorem dL_law_229 : decode cL_law 229 = .ok (.aload_n 2, 1) := by decide +kernel
theorem dL_law_230 : decode cL_law 230 = .ok (.aload_n 0, 1) := by decide +kernel
theorem dL_law_231 : decode cL_law 231 = .ok (.iload_n 3, 1) := by decide +kernel
theorem dL_law_232 : decode cL_law 232 = .ok (.iconst 1, 1) := by decide +kernel
theorem dL_law_233 : decode cL_law 233 = .ok (.iadd, 1) := by decide +kernel
theorem dL_law_234 : decode cL_law 234 = .ok (.iaload, 1) := by decide +kernel
theorem dL_law_235 : decode cL_law 235 = .ok (.aload_n 0, 1) := by decide +kernel
theorem dL_law_236 : decode cL_law 236 = .ok (.iload_n 3, 1) := by decide +kernel
theorem dL_law_237 : decode cL_law 237 = .ok (.iconst 2, 1) := by decide +kernel
theorem dL_law_238 : decode cL_law 238 = .ok (.iadd, 1) := by decide +kernel
theorem dL_law_239 : decode cL_law 239 = .ok (.iaload, 1) := by decide +kernel
theorem dL_law_240 : decode cL_law 240 = .ok (.invokevirtual 31, 3) := by decide +kernel
theorem dL_law_243 : decode cL_law 243 = .ok (.if_icmp .eq 690, 3) := by decide +kernel
theorem dL_law_246 : decode cL_law 246 = .ok (.iconst 0, 1) := by decide +kernel
theorem dL_law_247 : decode cL_law 247 = .ok (.ireturn, 1) := by decide +kernel
theorem dL_law_248 : decode cL_law 248 = .ok (.aload_n 1, 1) := by decide +kernel
theorem dL_law_249 : decode cL_law 249 = .ok (.aload_n 0, 1) := by decide +kernel
theorem dL_law_250 : decode cL_law 250 = .ok (.iload_n 3, 1) := by decide +kernel
theorem dL_law_251 : decode cL_law 251 = .ok (.iconst 1, 1) := by decide +kernel
theorem dL_law_252 : decode cL_law 252 = .ok (.iadd, 1) := by decide +kernel
theorem dL_law_253 : decode cL_law 253 = .ok (.iaload, 1) := by decide +kernel
theorem dL_law_254 : decode cL_law 254 = .ok (.aload_n 0, 1) := by decide +kernel
theorem dL_law_255 : decode cL_law 255 = .ok (.iload_n 3, 1) := by decide +kernel
theorem dL_law_256 : decode cL_law 256 = .ok (.iconst 2, 1) := by decide +kernel
theorem dL_law_257 : decode cL_law 257 = .ok (.iadd, 1) := by decide +kernel
theorem dL_law_258 : decode cL_law 258 = .ok (.iaload, 1) := by decide +kernel
theorem dL_law_259 : decode cL_law 259 = .ok (.invokevirtual 32, 3) := by decide +kernel
theorem dL_law_262 : decode cL_law 262 = .ok (.aload_n 2, 1) := by decide +kernel
theorem dL_law_263 : decode cL_law 263 = .ok (.aload_n 0, 1) := by decide +kernel
theorem dL_law_264 : decode cL_law 264 = .ok (.iload_n 3, 1) := by decide +kernel
theorem dL_law_265 : decode cL_law 265 = .ok (.iconst 1, 1) := by decide +kernel
theorem dL_law_266 : decode cL_law 266 = .ok (.iadd, 1) := by decide +kernel
theorem dL_law_267 : decode cL_law 267 = .ok (.iaload, 1) := by decide +kernel
theorem dL_law_268 : decode cL_law 268 = .ok (.aload_n 0, 1) := by decide +kernel
theorem dL_law_269 : decode cL_law 269 = .ok (.iload_n 3, 1) := by decide +kernel
theorem dL_law_270 : decode cL_law 270 = .ok (.iconst 2, 1) := by decide +kernel
theorem dL_law_271 : decode cL_law 271 = .ok (.iadd, 1) := by decide +kernel
theorem dL_law_272 : decode cL_law 272 = .ok (.iaload, 1) := by decide +kernel
theorem dL_law_273 : decode cL_law 273 = .ok (.invokevirtual 35, 3) := by decide +kernel
theorem dL_law_276 : decode cL_law 276 = .ok (.if_icmp .eq 657, 3) := by decide +kernel
theorem dL_law_279 : decode cL_law 279 = .ok (.iconst 0, 1) := by decide +kernel
theorem dL_law_280 : decode cL_law 280 = .ok (.ireturn, 1) := by decide +kernel
theorem dL_law_281 : decode cL_law 281 = .ok (.aload_n 1, 1) := by decide +kernel
theorem dL_law_282 : decode cL_law 282 = .ok (.aload_n 0, 1) := by decide +kernel
theorem dL_law_283 : decode cL_law 283 = .ok (.iload_n 3, 1) := by decide +kernel
theorem dL_law_284 : decode cL_law 284 = .ok (.iconst 1, 1) := by decide +kernel
theorem dL_law_285 : decode cL_law 285 = .ok (.iadd, 1) := by decide +kernel
theorem dL_law_286 : decode cL_law 286 = .ok (.iaload, 1) := by decide +kernel
theorem dL_law_287 : decode cL_law 287 = .ok (.aload_n 0, 1) := by decide +kernel
theorem dL_law_288 : decode cL_law 288 = .ok (.iload_n 3, 1) := by decide +kernel
theorem dL_law_289 : decode cL_law 289 = .ok (.iconst 2, 1) := by decide +kernel
theorem dL_law_290 : decode cL_law 290 = .ok (.iadd, 1) := by decide +kernel
theorem dL_law_291 : decode cL_law 291 = .ok (.iaload, 1) := by decide +kernel
theorem dL_law_292 : decode cL_law 292 = .ok (.invokevirtual 36, 3) := by decide +kernel
theorem dL_law_295 : decode cL_law 295 = .ok (.aload_n 2, 1) := by decide +kernel
theorem dL_law_296 : decode cL_law 296 = .ok (.aload_n 0, 1) := by decide +kernel
theorem dL_law_297 : decode cL_law 297 = .ok (.iload_n 3, 1) := by decide +kernel
theorem dL_law_298 : decode cL_law 298 = .ok (.iconst 1, 1) := by decide +kernel
theorem dL_law_299 : decode cL_law 299 = .ok (.iadd, 1) := by decide +kernel
theorem dL_law_300 : decode cL_law 300 = .ok (.iaload, 1) := by decide +kernel
theorem dL_law_301 : decode cL_law 301 = .ok (.aload_n 0, 1) := by decide +kernel
theorem dL_law_302 : decode cL_law 302 = .ok (.iload_n 3, 1) := by decide +kernel
theorem dL_law_303 : decode cL_law 303 = .ok (.iconst 2, 1) := by decide +kernel
theorem dL_law_304 : decode cL_law 304 = .ok (.iadd, 1) := by decide +kernel
theorem dL_law_305 : decode cL_law 305 = .ok (.iaload, 1) := by decide +kernel
theorem dL_law_306 : decode cL_law 306 = .ok (.invokevirtual 39, 3) := by decide +kernel
theorem dL_law_309 : decode cL_law 309 = .ok (.if_icmp .eq 624, 3) := by decide +kernel
theorem dL_law_312 : decode cL_law 312 = .ok (.iconst 0, 1) := by decide +kernel
theorem dL_law_313 : decode cL_law 313 = .ok (.ireturn, 1) := by decide +kernel
theorem dL_law_314 : decode cL_law 314 = .ok (.aload_n 1, 1) := by decide +kernel
theorem dL_law_315 : decode cL_law 315 = .ok (.aload_n 0, 1) := by decide +kernel
theorem dL_law_316 : decode cL_law 316 = .ok (.iload_n 3, 1) := by decide +kernel
theorem dL_law_317 : decode cL_law 317 = .ok (.iconst 1, 1) := by decide +kernel
theorem dL_law_318 : decode cL_law 318 = .ok (.iadd, 1) := by decide +kernel
theorem dL_law_319 : decode cL_law 319 = .ok (.iaload, 1) := by decide +kernel
theorem dL_law_320 : decode cL_law 320 = .ok (.aload_n 0, 1) := by decide +kernel
theorem dL_law_321 : decode cL_law 321 = .ok (.iload_n 3, 1) := by decide +kernel
theorem dL_law_322 : decode cL_law 322 = .ok (.iconst 2, 1) := by decide +kernel
theorem dL_law_323 : decode cL_law 323 = .ok (.iadd, 1) := by decide +kernel
theorem dL_law_324 : decode cL_law 324 = .ok (.iaload, 1) := by decide +kernel
theorem dL_law_325 : decode cL_law 325 = .ok (.ifCond .eq 7, 3) := by decide +kernel
theorem dL_law_328 : decode cL_law 328 = .ok (.iconst 1, 1) := by decide +kernel
theorem dL_law_329 : decode cL_law 329 = .ok (.goto 4, 3) := by decide +kernel
theorem dL_law_332 : decode cL_law 332 = .ok (.iconst 0, 1) := by decide +kernel
theorem dL_law_333 : decode cL_law 333 = .ok (.invokevirtual 40, 3) := by decide +kernel
theorem dL_law_336 : decode cL_law 336 = .ok (.aload_n 2, 1) := by decide +kernel
theorem dL_law_337 : decode cL_law 337 = .ok (.aload_n 0, 1) := by decide +kernel
theorem dL_law_338 : decode cL_law 338 = .ok (.iload_n 3, 1) := by decide +kernel
theorem dL_law_339 : decode cL_law 339 = .ok (.iconst 1, 1) := by decide +kernel
theorem dL_law_340 : decode cL_law 340 = .ok (.iadd, 1) := by decide +kernel
theorem dL_law_341 : decode cL_law 341 = .ok (.iaload, 1) := by decide +kernel
theorem dL_law_342 : decode cL_law 342 = .ok (.aload_n 0, 1) := by decide +kernel
theorem dL_law_343 : decode cL_law 343 = .ok (.iload_n 3, 1) := by decide +kernel
theorem dL_law_344 : decode cL_law 344 = .ok (.iconst 2, 1) := by decide +kernel
theorem dL_law_345 : decode cL_law 345 = .ok (.iadd, 1) := by decide +kernel
theorem dL_law_346 : decode cL_law 346 = .ok (.iaload, 1) := by decide +kernel
theorem dL_law_347 : decode cL_law 347 = .ok (.ifCond .eq 7, 3) := by decide +kernel
theorem dL_law_350 : decode cL_law 350 = .ok (.iconst 1, 1) := by decide +kernel
theorem dL_law_351 : decode cL_law 351 = .ok (.goto 4, 3) := by decide +kernel
theorem dL_law_354 : decode cL_law 354 = .ok (.iconst 0, 1) := by decide +kernel
theorem dL_law_355 : decode cL_law 355 = .ok (.invokevirtual 44, 3) := by decide +kernel
theorem dL_law_358 : decode cL_law 358 = .ok (.if_icmp .eq 575, 3) := by decide +kernel
theorem dL_law_361 : decode cL_law 361 = .ok (.iconst 0, 1) := by decide +kernel
theorem dL_law_362 : decode cL_law 362 = .ok (.ireturn, 1) := by decide +kernel
theorem dL_law_363 : decode cL_law 363 = .ok (.aload_n 1, 1) := by decide +kernel
theorem dL_law_364 : decode cL_law 364 = .ok (.aload_n 0, 1) := by decide +kernel
theorem dL_law_365 : decode cL_law 365 = .ok (.iload_n 3, 1) := by decide +kernel
theorem dL_law_366 : decode cL_law 366 = .ok (.iconst 1, 1) := by decide +kernel
theorem dL_law_367 : decode cL_law 367 = .ok (.iadd, 1) := by decide +kernel
theorem dL_law_368 : decode cL_law 368 = .ok (.iaload, 1) := by decide +kernel
theorem dL_law_369 : decode cL_law 369 = .ok (.invokevirtual 45, 3) := by decide +kernel
theorem dL_law_372 : decode cL_law 372 = .ok (.aload_n 2, 1) := by decide +kernel
theorem dL_law_373 : decode cL_law 373 = .ok (.aload_n 0, 1) := by decide +kernel
theorem dL_law_374 : decode cL_law 374 = .ok (.iload_n 3, 1) := by decide +kernel
theorem dL_law_375 : decode cL_law 375 = .ok (.iconst 1, 1) := by decide +kernel
theorem dL_law_376 : decode cL_law 376 = .ok (.iadd, 1) := by decide +kernel
theorem dL_law_377 : decode cL_law 377 = .ok (.iaload, 1) := by decide +kernel
theorem dL_law_378 : decode cL_law 378 = .ok (.invokevirtual 48, 3) := by decide +kernel
theorem dL_law_381 : decode cL_law 381 = .ok (.if_icmp .eq 552, 3) := by decide +kernel
theorem dL_law_384 : decode cL_law 384 = .ok (.iconst 0, 1) := by decide +kernel
theorem dL_law_385 : decode cL_law 385 = .ok (.ireturn, 1) := by decide +kernel
theorem dL_law_386 : decode cL_law 386 = .ok (.aload_n 1, 1) := by decide +kernel
theorem dL_law_387 : decode cL_law 387 = .ok (.aload_n 0, 1) := by decide +kernel
theorem dL_law_388 : decode cL_law 388 = .ok (.iload_n 3, 1) := by decide +kernel
theorem dL_law_389 : decode cL_law 389 = .ok (.iconst 1, 1) := by decide +kernel
theorem dL_law_390 : decode cL_law 390 = .ok (.iadd, 1) := by decide +kernel
theorem dL_law_391 : decode cL_law 391 = .ok (.iaload, 1) := by decide +kernel
theorem dL_law_392 : decode cL_law 392 = .ok (.aload_n 0, 1) := by decide +kernel
theorem dL_law_393 : decode cL_law 393 = .ok (.iload_n 3, 1) := by decide +kernel
theorem dL_law_394 : decode cL_law 394 = .ok (.iconst 2, 1) := by decide +kernel
theorem dL_law_395 : decode cL_law 395 = .ok (.iadd, 1) := by decide +kernel
theorem dL_law_396 : decode cL_law 396 = .ok (.iaload, 1) := by decide +kernel
theorem dL_law_397 : decode cL_law 397 = .ok (.aload_n 0, 1) := by decide +kernel
theorem dL_law_398 : decode cL_law 398 = .ok (.iload_n 3, 1) := by decide +kernel
theorem dL_law_399 : decode cL_law 399 = .ok (.iconst 3, 1) := by decide +kernel
theorem dL_law_400 : decode cL_law 400 = .ok (.iadd, 1) := by decide +kernel
theorem dL_law_401 : decode cL_law 401 = .ok (.iaload, 1) := by decide +kernel
theorem dL_law_402 : decode cL_law 402 = .ok (.aload_n 0, 1) := by decide +kernel
theorem dL_law_403 : decode cL_law 403 = .ok (.iload_n 3, 1) := by decide +kernel
theorem dL_law_404 : decode cL_law 404 = .ok (.iconst 4, 1) := by decide +kernel
theorem dL_law_405 : decode cL_law 405 = .ok (.iadd, 1) := by decide +kernel
theorem dL_law_406 : decode cL_law 406 = .ok (.iaload, 1) := by decide +kernel
theorem dL_law_407 : decode cL_law 407 = .ok (.invokevirtual 49, 3) := by decide +kernel
theorem dL_law_410 : decode cL_law 410 = .ok (.aload_n 2, 1) := by decide +kernel
theorem dL_law_411 : decode cL_law 411 = .ok (.aload_n 0, 1) := by decide +kernel
theorem dL_law_412 : decode cL_law 412 = .ok (.iload_n 3, 1) := by decide +kernel
theorem dL_law_413 : decode cL_law 413 = .ok (.iconst 1, 1) := by decide +kernel
theorem dL_law_414 : decode cL_law 414 = .ok (.iadd, 1) := by decide +kernel
theorem dL_law_415 : decode cL_law 415 = .ok (.iaload, 1) := by decide +kernel
theorem dL_law_416 : decode cL_law 416 = .ok (.aload_n 0, 1) := by decide +kernel
theorem dL_law_417 : decode cL_law 417 = .ok (.iload_n 3, 1) := by decide +kernel
theorem dL_law_418 : decode cL_law 418 = .ok (.iconst 2, 1) := by decide +kernel
theorem dL_law_419 : decode cL_law 419 = .ok (.iadd, 1) := by decide +kernel
theorem dL_law_420 : decode cL_law 420 = .ok (.iaload, 1) := by decide +kernel
theorem dL_law_421 : decode cL_law 421 = .ok (.aload_n 0, 1) := by decide +kernel
theorem dL_law_422 : decode cL_law 422 = .ok (.iload_n 3, 1) := by decide +kernel
theorem dL_law_423 : decode cL_law 423 = .ok (.iconst 3, 1) := by decide +kernel
theorem dL_law_424 : decode cL_law 424 = .ok (.iadd, 1) := by decide +kernel
theorem dL_law_425 : decode cL_law 425 = .ok (.iaload, 1) := by decide +kernel
theorem dL_law_426 : decode cL_law 426 = .ok (.aload_n 0, 1) := by decide +kernel
theorem dL_law_427 : decode cL_law 427 = .ok (.iload_n 3, 1) := by decide +kernel
theorem dL_law_428 : decode cL_law 428 = .ok (.iconst 4, 1) := by decide +kernel
theorem dL_law_429 : decode cL_law 429 = .ok (.iadd, 1) := by decide +kernel
theorem dL_law_430 : decode cL_law 430 = .ok (.iaload, 1) := by decide +kernel
theorem dL_law_431 : decode cL_law 431 = .ok (.invokevirtual 53, 3) := by decide +kernel
theorem dL_law_434 : decode cL_law 434 = .ok (.if_icmp .eq 499, 3) := by decide +kernel
theorem dL_law_437 : decode cL_law 437 = .ok (.iconst 0, 1) := by decide +kernel
theorem dL_law_438 : decode cL_law 438 = .ok (.ireturn, 1) := by decide +kernel
theorem dL_law_439 : decode cL_law 439 = .ok (.aload_n 1, 1) := by decide +kernel
theorem dL_law_440 : decode cL_law 440 = .ok (.aload_n 0, 1) := by decide +kernel
theorem dL_law_441 : decode cL_law 441 = .ok (.iload_n 3, 1) := by decide +kernel
theorem dL_law_442 : decode cL_law 442 = .ok (.iconst 1, 1) := by decide +kernel
theorem dL_law_443 : decode cL_law 443 = .ok (.iadd, 1) := by decide +kernel
theorem dL_law_444 : decode cL_law 444 = .ok (.iaload, 1) := by decide +kernel
theorem dL_law_445 : decode cL_law 445 = .ok (.aload_n 0, 1) := by decide +kernel
theorem dL_law_446 : decode cL_law 446 = .ok (.iload_n 3, 1) := by decide +kernel
theorem dL_law_447 : decode cL_law 447 = .ok (.iconst 2, 1) := by decide +kernel
theorem dL_law_448 : decode cL_law 448 = .ok (.iadd, 1) := by decide +kernel
theorem dL_law_449 : decode cL_law 449 = .ok (.iaload, 1) := by decide +kernel
theorem dL_law_450 : decode cL_law 450 = .ok (.invokevirtual 54, 3) := by decide +kernel
theorem dL_law_453 : decode cL_law 453 = .ok (.aload_n 2, 1) := by decide +kernel
theorem dL_law_454 : decode cL_law 454 = .ok (.aload_n 0, 1) := by decide +kernel
theorem dL_law_455 : decode cL_law 455 = .ok (.iload_n 3, 1) := by decide +kernel
theorem dL_law_456 : decode cL_law 456 = .ok (.iconst 1, 1) := by decide +kernel
theorem dL_law_457 : decode cL_law 457 = .ok (.iadd, 1) := by decide +kernel
theorem dL_law_458 : decode cL_law 458 = .ok (.iaload, 1) := by decide +kernel
theorem dL_law_459 : decode cL_law 459 = .ok (.aload_n 0, 1) := by decide +kernel
theorem dL_law_460 : decode cL_law 460 = .ok (.iload_n 3, 1) := by decide +kernel
theorem dL_law_461 : decode cL_law 461 = .ok (.iconst 2, 1) := by decide +kernel
theorem dL_law_462 : decode cL_law 462 = .ok (.iadd, 1) := by decide +kernel
theorem dL_law_463 : decode cL_law 463 = .ok (.iaload, 1) := by decide +kernel
theorem dL_law_464 : decode cL_law 464 = .ok (.invokevirtual 57, 3) := by decide +kernel
theorem dL_law_467 : decode cL_law 467 = .ok (.if_icmp .eq 466, 3) := by decide +kernel
theorem dL_law_470 : decode cL_law 470 = .ok (.iconst 0, 1) := by decide +kernel
theorem dL_law_471 : decode cL_law 471 = .ok (.ireturn, 1) := by decide +kernel
theorem dL_law_472 : decode cL_law 472 = .ok (.aload_n 1, 1) := by decide +kernel
theorem dL_law_473 : decode cL_law 473 = .ok (.aload_n 0, 1) := by decide +kernel
theorem dL_law_474 : decode cL_law 474 = .ok (.iload_n 3, 1) := by decide +kernel
theorem dL_law_475 : decode cL_law 475 = .ok (.iconst 1, 1) := by decide +kernel
theorem dL_law_476 : decode cL_law 476 = .ok (.iadd, 1) := by decide +kernel
theorem dL_law_477 : decode cL_law 477 = .ok (.iaload, 1) := by decide +kernel
theorem dL_law_478 : decode cL_law 478 = .ok (.invokevirtual 58, 3) := by decide +kernel
theorem dL_law_481 : decode cL_law 481 = .ok (.aload_n 2, 1) := by decide +kernel
theorem dL_law_482 : decode cL_law 482 = .ok (.aload_n 0, 1) := by decide +kernel
theorem dL_law_483 : decode cL_law 483 = .ok (.iload_n 3, 1) := by decide +kernel
theorem dL_law_484 : decode cL_law 484 = .ok (.iconst 1, 1) := by decide +kernel
theorem dL_law_485 : decode cL_law 485 = .ok (.iadd, 1) := by decide +kernel
theorem dL_law_486 : decode cL_law 486 = .ok (.iaload, 1) := by decide +kernel
theorem dL_law_487 : decode cL_law 487 = .ok (.invokevirtual 61, 3) := by decide +kernel
theorem dL_law_490 : decode cL_law 490 = .ok (.if_icmp .eq 443, 3) := by decide +kernel
theorem dL_law_493 : decode cL_law 493 = .ok (.iconst 0, 1) := by decide +kernel
theorem dL_law_494 : decode cL_law 494 = .ok (.ireturn, 1) := by decide +kernel
theorem dL_law_495 : decode cL_law 495 = .ok (.aload_n 1, 1) := by decide +kernel
theorem dL_law_496 : decode cL_law 496 = .ok (.aload_n 0, 1) := by decide +kernel
theorem dL_law_497 : decode cL_law 497 = .ok (.iload_n 3, 1) := by decide +kernel
theorem dL_law_498 : decode cL_law 498 = .ok (.iconst 1, 1) := by decide +kernel
theorem dL_law_499 : decode cL_law 499 = .ok (.iadd, 1) := by decide +kernel
theorem dL_law_500 : decode cL_law 500 = .ok (.iaload, 1) := by decide +kernel
theorem dL_law_501 : decode cL_law 501 = .ok (.aload_n 0, 1) := by decide +kernel
theorem dL_law_502 : decode cL_law 502 = .ok (.iload_n 3, 1) := by decide +kernel
theorem dL_law_503 : decode cL_law 503 = .ok (.iconst 2, 1) := by decide +kernel
theorem dL_law_504 : decode cL_law 504 = .ok (.iadd, 1) := by decide +kernel
theorem dL_law_505 : decode cL_law 505 = .ok (.iaload, 1) := by decide +kernel
theorem dL_law_506 : decode cL_law 506 = .ok (.aload_n 0, 1) := by decide +kernel
theorem dL_law_507 : decode cL_law 507 = .ok (.iload_n 3, 1) := by decide +kernel
theorem dL_law_508 : decode cL_law 508 = .ok (.iconst 3, 1) := by decide +kernel
theorem dL_law_509 : decode cL_law 509 = .ok (.iadd, 1) := by decide +kernel
theorem dL_law_510 : decode cL_law 510 = .ok (.iaload, 1) := by decide +kernel
theorem dL_law_511 : decode cL_law 511 = .ok (.aload_n 0, 1) := by decide +kernel
theorem dL_law_512 : decode cL_law 512 = .ok (.iload_n 3, 1) := by decide +kernel
theorem dL_law_513 : decode cL_law 513 = .ok (.iconst 4, 1) := by decide +kernel
theorem dL_law_514 : decode cL_law 514 = .ok (.iadd, 1) := by decide +kernel
theorem dL_law_515 : decode cL_law 515 = .ok (.iaload, 1) := by decide +kernel
theorem dL_law_516 : decode cL_law 516 = .ok (.invokevirtual 62, 3) := by decide +kernel
theorem dL_law_519 : decode cL_law 519 = .ok (.aload_n 2, 1) := by decide +kernel
theorem dL_law_520 : decode cL_law 520 = .ok (.aload_n 0, 1) := by decide +kernel
theorem dL_law_521 : decode cL_law 521 = .ok (.iload_n 3, 1) := by decide +kernel
theorem dL_law_522 : decode cL_law 522 = .ok (.iconst 1, 1) := by decide +kernel
theorem dL_law_523 : decode cL_law 523 = .ok (.iadd, 1) := by decide +kernel
theorem dL_law_524 : decode cL_law 524 = .ok (.iaload, 1) := by decide +kernel
theorem dL_law_525 : decode cL_law 525 = .ok (.aload_n 0, 1) := by decide +kernel
theorem dL_law_526 : decode cL_law 526 = .ok (.iload_n 3, 1) := by decide +kernel
theorem dL_law_527 : decode cL_law 527 = .ok (.iconst 2, 1) := by decide +kernel
theorem dL_law_528 : decode cL_law 528 = .ok (.iadd, 1) := by decide +kernel
theorem dL_law_529 : decode cL_law 529 = .ok (.iaload, 1) := by decide +kernel
theorem dL_law_530 : decode cL_law 530 = .ok (.aload_n 0, 1) := by decide +kernel
theorem dL_law_531 : decode cL_law 531 = .ok (.iload_n 3, 1) := by decide +kernel
theorem dL_law_532 : decode cL_law 532 = .ok (.iconst 3, 1) := by decide +kernel
theorem dL_law_533 : decode cL_law 533 = .ok (.iadd, 1) := by decide +kernel
theorem dL_law_534 : decode cL_law 534 = .ok (.iaload, 1) := by decide +kernel
theorem dL_law_535 : decode cL_law 535 = .ok (.aload_n 0, 1) := by decide +kernel
theorem dL_law_536 : decode cL_law 536 = .ok (.iload_n 3, 1) := by decide +kernel
theorem dL_law_537 : decode cL_law 537 = .ok (.iconst 4, 1) := by decide +kernel
theorem dL_law_538 : decode cL_law 538 = .ok (.iadd, 1) := by decide +kernel
theorem dL_law_539 : decode cL_law 539 = .ok (.iaload, 1) := by decide +kernel
theorem dL_law_540 : decode cL_law 540 = .ok (.invokevirtual 65, 3) := by decide +kernel
theorem dL_law_543 : decode cL_law 543 = .ok (.if_icmp .eq 390, 3) := by decide +kernel
theorem dL_law_546 : decode cL_law 546 = .ok (.iconst 0, 1) := by decide +kernel
theorem dL_law_547 : decode cL_law 547 = .ok (.ireturn, 1) := by decide +kernel
theorem dL_law_548 : decode cL_law 548 = .ok (.aload_n 1, 1) := by decide +kernel
theorem dL_law_549 : decode cL_law 549 = .ok (.aload_n 0, 1) := by decide +kernel
theorem dL_law_550 : decode cL_law 550 = .ok (.iload_n 3, 1) := by decide +kernel
theorem dL_law_551 : decode cL_law 551 = .ok (.iconst 1, 1) := by decide +kernel
theorem dL_law_552 : decode cL_law 552 = .ok (.iadd, 1) := by decide +kernel
theorem dL_law_553 : decode cL_law 553 = .ok (.iaload, 1) := by decide +kernel
theorem dL_law_554 : decode cL_law 554 = .ok (.aload_n 0, 1) := by decide +kernel
theorem dL_law_555 : decode cL_law 555 = .ok (.iload_n 3, 1) := by decide +kernel
theorem dL_law_556 : decode cL_law 556 = .ok (.iconst 2, 1) := by decide +kernel
theorem dL_law_557 : decode cL_law 557 = .ok (.iadd, 1) := by decide +kernel
theorem dL_law_558 : decode cL_law 558 = .ok (.iaload, 1) := by decide +kernel
theorem dL_law_559 : decode cL_law 559 = .ok (.invokevirtual 66, 3) := by decide +kernel
theorem dL_law_562 : decode cL_law 562 = .ok (.aload_n 2, 1) := by decide +kernel
theorem dL_law_563 : decode cL_law 563 = .ok (.aload_n 0, 1) := by decide +kernel
theorem dL_law_564 : decode cL_law 564 = .ok (.iload_n 3, 1) := by decide +kernel
theorem dL_law_565 : decode cL_law 565 = .ok (.iconst 1, 1) := by decide +kernel
theorem dL_law_566 : decode cL_law 566 = .ok (.iadd, 1) := by decide +kernel
theorem dL_law_567 : decode cL_law 567 = .ok (.iaload, 1) := by decide +kernel
theorem dL_law_568 : decode cL_law 568 = .ok (.aload_n 0, 1) := by decide +kernel
theorem dL_law_569 : decode cL_law 569 = .ok (.iload_n 3, 1) := by decide +kernel
theorem dL_law_570 : decode cL_law 570 = .ok (.iconst 2, 1) := by decide +kernel
theorem dL_law_571 : decode cL_law 571 = .ok (.iadd, 1) := by decide +kernel
theorem dL_law_572 : decode cL_law 572 = .ok (.iaload, 1) := by decide +kernel
theorem dL_law_573 : decode cL_law 573 = .ok (.invokevirtual 69, 3) := by decide +kernel
theorem dL_law_576 : decode cL_law 576 = .ok (.if_icmp .eq 357, 3) := by decide +kernel
theorem dL_law_579 : decode cL_law 579 = .ok (.iconst 0, 1) := by decide +kernel
theorem dL_law_580 : decode cL_law 580 = .ok (.ireturn, 1) := by decide +kernel
theorem dL_law_581 : decode cL_law 581 = .ok (.aload_n 1, 1) := by decide +kernel
theorem dL_law_582 : decode cL_law 582 = .ok (.invokevirtual 70, 3) := by decide +kernel
theorem dL_law_585 : decode cL_law 585 = .ok (.aload_n 2, 1) := by decide +kernel
theorem dL_law_586 : decode cL_law 586 = .ok (.invokevirtual 73, 3) := by decide +kernel
theorem dL_law_589 : decode cL_law 589 = .ok (.if_icmp .eq 344, 3) := by decide +kernel
theorem dL_law_592 : decode cL_law 592 = .ok (.iconst 0, 1) := by decide +kernel
theorem dL_law_593 : decode cL_law 593 = .ok (.ireturn, 1) := by decide +kernel
theorem dL_law_594 : decode cL_law 594 = .ok (.aload_n 1, 1) := by decide +kernel
theorem dL_law_595 : decode cL_law 595 = .ok (.aload_n 0, 1) := by decide +kernel
theorem dL_law_596 : decode cL_law 596 = .ok (.iload_n 3, 1) := by decide +kernel
theorem dL_law_597 : decode cL_law 597 = .ok (.iconst 1, 1) := by decide +kernel
theorem dL_law_598 : decode cL_law 598 = .ok (.iadd, 1) := by decide +kernel
theorem dL_law_599 : decode cL_law 599 = .ok (.iaload, 1) := by decide +kernel
theorem dL_law_600 : decode cL_law 600 = .ok (.aload_n 0, 1) := by decide +kernel
theorem dL_law_601 : decode cL_law 601 = .ok (.iload_n 3, 1) := by decide +kernel
theorem dL_law_602 : decode cL_law 602 = .ok (.iconst 2, 1) := by decide +kernel
theorem dL_law_603 : decode cL_law 603 = .ok (.iadd, 1) := by decide +kernel
theorem dL_law_604 : decode cL_law 604 = .ok (.iaload, 1) := by decide +kernel
theorem dL_law_605 : decode cL_law 605 = .ok (.invokevirtual 74, 3) := by decide +kernel
theorem dL_law_608 : decode cL_law 608 = .ok (.aload_n 2, 1) := by decide +kernel
theorem dL_law_609 : decode cL_law 609 = .ok (.aload_n 0, 1) := by decide +kernel
theorem dL_law_610 : decode cL_law 610 = .ok (.iload_n 3, 1) := by decide +kernel
theorem dL_law_611 : decode cL_law 611 = .ok (.iconst 1, 1) := by decide +kernel
theorem dL_law_612 : decode cL_law 612 = .ok (.iadd, 1) := by decide +kernel
theorem dL_law_613 : decode cL_law 613 = .ok (.iaload, 1) := by decide +kernel
theorem dL_law_614 : decode cL_law 614 = .ok (.aload_n 0, 1) := by decide +kernel
theorem dL_law_615 : decode cL_law 615 = .ok (.iload_n 3, 1) := by decide +kernel
theorem dL_law_616 : decode cL_law 616 = .ok (.iconst 2, 1) := by decide +kernel
theorem dL_law_617 : decode cL_law 617 = .ok (.iadd, 1) := by decide +kernel
theorem dL_law_618 : decode cL_law 618 = .ok (.iaload, 1) := by decide +kernel
theorem dL_law_619 : decode cL_law 619 = .ok (.invokevirtual 77, 3) := by decide +kernel
theorem dL_law_622 : decode cL_law 622 = .ok (.if_icmp .eq 311, 3) := by decide +kernel
theorem dL_law_625 : decode cL_law 625 = .ok (.iconst 0, 1) := by decide +kernel
theorem dL_law_626 : decode cL_law 626 = .ok (.ireturn, 1) := by decide +kernel
theorem dL_law_627 : decode cL_law 627 = .ok (.aload_n 1, 1) := by decide +kernel
theorem dL_law_628 : decode cL_law 628 = .ok (.aload_n 0, 1) := by decide +kernel
theorem dL_law_629 : decode cL_law 629 = .ok (.iload_n 3, 1) := by decide +kernel
theorem dL_law_630 : decode cL_law 630 = .ok (.iconst 1, 1) := by decide +kernel
theorem dL_law_631 : decode cL_law 631 = .ok (.iadd, 1) := by decide +kernel
theorem dL_law_632 : decode cL_law 632 = .ok (.iaload, 1) := by decide +kernel
theorem dL_law_633 : decode cL_law 633 = .ok (.aload_n 0, 1) := by decide +kernel
theorem dL_law_634 : decode cL_law 634 = .ok (.iload_n 3, 1) := by decide +kernel
theorem dL_law_635 : decode cL_law 635 = .ok (.iconst 2, 1) := by decide +kernel
theorem dL_law_636 : decode cL_law 636 = .ok (.iadd, 1) := by decide +kernel
theorem dL_law_637 : decode cL_law 637 = .ok (.iaload, 1) := by decide +kernel
theorem dL_law_638 : decode cL_law 638 = .ok (.aload_n 0, 1) := by decide +kernel
theorem dL_law_639 : decode cL_law 639 = .ok (.iload_n 3, 1) := by decide +kernel
theorem dL_law_640 : decode cL_law 640 = .ok (.iconst 3, 1) := by decide +kernel
theorem dL_law_641 : decode cL_law 641 = .ok (.iadd, 1) := by decide +kernel
theorem dL_law_642 : decode cL_law 642 = .ok (.iaload, 1) := by decide +kernel
theorem dL_law_643 : decode cL_law 643 = .ok (.invokevirtual 78, 3) := by decide +kernel
theorem dL_law_646 : decode cL_law 646 = .ok (.aload_n 2, 1) := by decide +kernel
theorem dL_law_647 : decode cL_law 647 = .ok (.aload_n 0, 1) := by decide +kernel
theorem dL_law_648 : decode cL_law 648 = .ok (.iload_n 3, 1) := by decide +kernel
theorem dL_law_649 : decode cL_law 649 = .ok (.iconst 1, 1) := by decide +kernel
theorem dL_law_650 : decode cL_law 650 = .ok (.iadd, 1) := by decide +kernel
theorem dL_law_651 : decode cL_law 651 = .ok (.iaload, 1) := by decide +kernel
theorem dL_law_652 : decode cL_law 652 = .ok (.aload_n 0, 1) := by decide +kernel
theorem dL_law_653 : decode cL_law 653 = .ok (.iload_n 3, 1) := by decide +kernel
theorem dL_law_654 : decode cL_law 654 = .ok (.iconst 2, 1) := by decide +kernel
theorem dL_law_655 : decode cL_law 655 = .ok (.iadd, 1) := by decide +kernel
theorem dL_law_656 : decode cL_law 656 = .ok (.iaload, 1) := by decide +kernel
theorem dL_law_657 : decode cL_law 657 = .ok (.aload_n 0, 1) := by decide +kernel
theorem dL_law_658 : decode cL_law 658 = .ok (.iload_n 3, 1) := by decide +kernel
theorem dL_law_659 : decode cL_law 659 = .ok (.iconst 3, 1) := by decide +kernel
theorem dL_law_660 : decode cL_law 660 = .ok (.iadd, 1) := by decide +kernel
theorem dL_law_661 : decode cL_law 661 = .ok (.iaload, 1) := by decide +kernel
theorem dL_law_662 : decode cL_law 662 = .ok (.invokevirtual 82, 3) := by decide +kernel
theorem dL_law_665 : decode cL_law 665 = .ok (.if_icmp .eq 268, 3) := by decide +kernel
theorem dL_law_668 : decode cL_law 668 = .ok (.iconst 0, 1) := by decide +kernel
theorem dL_law_669 : decode cL_law 669 = .ok (.ireturn, 1) := by decide +kernel
theorem dL_law_670 : decode cL_law 670 = .ok (.aload_n 1, 1) := by decide +kernel
theorem dL_law_671 : decode cL_law 671 = .ok (.invokevirtual 83, 3) := by decide +kernel
theorem dL_law_674 : decode cL_law 674 = .ok (.aload_n 2, 1) := by decide +kernel
theorem dL_law_675 : decode cL_law 675 = .ok (.invokevirtual 86, 3) := by decide +kernel
theorem dL_law_678 : decode cL_law 678 = .ok (.if_icmp .eq 255, 3) := by decide +kernel
theorem dL_law_681 : decode cL_law 681 = .ok (.iconst 0, 1) := by decide +kernel
theorem dL_law_682 : decode cL_law 682 = .ok (.ireturn, 1) := by decide +kernel
theorem dL_law_683 : decode cL_law 683 = .ok (.aload_n 1, 1) := by decide +kernel
theorem dL_law_684 : decode cL_law 684 = .ok (.aload_n 0, 1) := by decide +kernel
theorem dL_law_685 : decode cL_law 685 = .ok (.iload_n 3, 1) := by decide +kernel
theorem dL_law_686 : decode cL_law 686 = .ok (.iconst 1, 1) := by decide +kernel
theorem dL_law_687 : decode cL_law 687 = .ok (.iadd, 1) := by decide +kernel
theorem dL_law_688 : decode cL_law 688 = .ok (.iaload, 1) := by decide +kernel
theorem dL_law_689 : decode cL_law 689 = .ok (.aload_n 0, 1) := by decide +kernel
theorem dL_law_690 : decode cL_law 690 = .ok (.iload_n 3, 1) := by decide +kernel
theorem dL_law_691 : decode cL_law 691 = .ok (.iconst 2, 1) := by decide +kernel
theorem dL_law_692 : decode cL_law 692 = .ok (.iadd, 1) := by decide +kernel
theorem dL_law_693 : decode cL_law 693 = .ok (.iaload, 1) := by decide +kernel
theorem dL_law_694 : decode cL_law 694 = .ok (.invokevirtual 87, 3) := by decide +kernel
theorem dL_law_697 : decode cL_law 697 = .ok (.aload_n 2, 1) := by decide +kernel
theorem dL_law_698 : decode cL_law 698 = .ok (.aload_n 0, 1) := by decide +kernel
theorem dL_law_699 : decode cL_law 699 = .ok (.iload_n 3, 1) := by decide +kernel
theorem dL_law_700 : decode cL_law 700 = .ok (.iconst 1, 1) := by decide +kernel
theorem dL_law_701 : decode cL_law 701 = .ok (.iadd, 1) := by decide +kernel
theorem dL_law_702 : decode cL_law 702 = .ok (.iaload, 1) := by decide +kernel
theorem dL_law_703 : decode cL_law 703 = .ok (.aload_n 0, 1) := by decide +kernel
theorem dL_law_704 : decode cL_law 704 = .ok (.iload_n 3, 1) := by decide +kernel
theorem dL_law_705 : decode cL_law 705 = .ok (.iconst 2, 1) := by decide +kernel
theorem dL_law_706 : decode cL_law 706 = .ok (.iadd, 1) := by decide +kernel
theorem dL_law_707 : decode cL_law 707 = .ok (.iaload, 1) := by decide +kernel
theorem dL_law_708 : decode cL_law 708 = .ok (.invokevirtual 90, 3) := by decide +kernel
theorem dL_law_711 : decode cL_law 711 = .ok (.if_icmp .eq 222, 3) := by decide +kernel
theorem dL_law_714 : decode cL_law 714 = .ok (.iconst 0, 1) := by decide +kernel
theorem dL_law_715 : decode cL_law 715 = .ok (.ireturn, 1) := by decide +kernel
theorem dL_law_716 : decode cL_law 716 = .ok (.aload_n 1, 1) := by decide +kernel
theorem dL_law_717 : decode cL_law 717 = .ok (.aload_n 0, 1) := by decide +kernel
theorem dL_law_718 : decode cL_law 718 = .ok (.iload_n 3, 1) := by decide +kernel
theorem dL_law_719 : decode cL_law 719 = .ok (.iconst 1, 1) := by decide +kernel
theorem dL_law_720 : decode cL_law 720 = .ok (.iadd, 1) := by decide +kernel
theorem dL_law_721 : decode cL_law 721 = .ok (.iaload, 1) := by decide +kernel
theorem dL_law_722 : decode cL_law 722 = .ok (.invokevirtual 91, 3) := by decide +kernel
theorem dL_law_725 : decode cL_law 725 = .ok (.aload_n 2, 1) := by decide +kernel
theorem dL_law_726 : decode cL_law 726 = .ok (.aload_n 0, 1) := by decide +kernel
theorem dL_law_727 : decode cL_law 727 = .ok (.iload_n 3, 1) := by decide +kernel
theorem dL_law_728 : decode cL_law 728 = .ok (.iconst 1, 1) := by decide +kernel
theorem dL_law_729 : decode cL_law 729 = .ok (.iadd, 1) := by decide +kernel
theorem dL_law_730 : decode cL_law 730 = .ok (.iaload, 1) := by decide +kernel
theorem dL_law_731 : decode cL_law 731 = .ok (.invokevirtual 94, 3) := by decide +kernel
theorem dL_law_734 : decode cL_law 734 = .ok (.if_icmp .eq 199, 3) := by decide +kernel
theorem dL_law_737 : decode cL_law 737 = .ok (.iconst 0, 1) := by decide +kernel
theorem dL_law_738 : decode cL_law 738 = .ok (.ireturn, 1) := by decide +kernel
theorem dL_law_739 : decode cL_law 739 = .ok (.aload_n 1, 1) := by decide +kernel
theorem dL_law_740 : decode cL_law 740 = .ok (.aload_n 0, 1) := by decide +kernel
theorem dL_law_741 : decode cL_law 741 = .ok (.iload_n 3, 1) := by decide +kernel
theorem dL_law_742 : decode cL_law 742 = .ok (.iconst 1, 1) := by decide +kernel
theorem dL_law_743 : decode cL_law 743 = .ok (.iadd, 1) := by decide +kernel
theorem dL_law_744 : decode cL_law 744 = .ok (.iaload, 1) := by decide +kernel
theorem dL_law_745 : decode cL_law 745 = .ok (.invokevirtual 95, 3) := by decide +kernel
theorem dL_law_748 : decode cL_law 748 = .ok (.aload_n 2, 1) := by decide +kernel
theorem dL_law_749 : decode cL_law 749 = .ok (.aload_n 0, 1) := by decide +kernel
theorem dL_law_750 : decode cL_law 750 = .ok (.iload_n 3, 1) := by decide +kernel
theorem dL_law_751 : decode cL_law 751 = .ok (.iconst 1, 1) := by decide +kernel
theorem dL_law_752 : decode cL_law 752 = .ok (.iadd, 1) := by decide +kernel
theorem dL_law_753 : decode cL_law 753 = .ok (.iaload, 1) := by decide +kernel
theorem dL_law_754 : decode cL_law 754 = .ok (.invokevirtual 98, 3) := by decide +kernel
theorem dL_law_757 : decode cL_law 757 = .ok (.if_icmp .eq 176, 3) := by decide +kernel
theorem dL_law_760 : decode cL_law 760 = .ok (.iconst 0, 1) := by decide +kernel
theorem dL_law_761 : decode cL_law 761 = .ok (.ireturn, 1) := by decide +kernel
theorem dL_law_762 : decode cL_law 762 = .ok (.aload_n 1, 1) := by decide +kernel
theorem dL_law_763 : decode cL_law 763 = .ok (.aload_n 0, 1) := by decide +kernel
theorem dL_law_764 : decode cL_law 764 = .ok (.iload_n 3, 1) := by decide +kernel
theorem dL_law_765 : decode cL_law 765 = .ok (.iconst 1, 1) := by decide +kernel
theorem dL_law_766 : decode cL_law 766 = .ok (.iadd, 1) := by decide +kernel
theorem dL_law_767 : decode cL_law 767 = .ok (.iaload, 1) := by decide +kernel
theorem dL_law_768 : decode cL_law 768 = .ok (.invokevirtual 99, 3) := by decide +kernel
theorem dL_law_771 : decode cL_law 771 = .ok (.aload_n 2, 1) := by decide +kernel
theorem dL_law_772 : decode cL_law 772 = .ok (.aload_n 0, 1) := by decide +kernel
theorem dL_law_773 : decode cL_law 773 = .ok (.iload_n 3, 1) := by decide +kernel
theorem dL_law_774 : decode cL_law 774 = .ok (.iconst 1, 1) := by decide +kernel
theorem dL_law_775 : decode cL_law 775 = .ok (.iadd, 1) := by decide +kernel
theorem dL_law_776 : decode cL_law 776 = .ok (.iaload, 1) := by decide +kernel
theorem dL_law_777 : decode cL_law 777 = .ok (.invokevirtual 102, 3) := by decide +kernel
theorem dL_law_780 : decode cL_law 780 = .ok (.if_icmp .eq 153, 3) := by decide +kernel
theorem dL_law_783 : decode cL_law 783 = .ok (.iconst 0, 1) := by decide +kernel
theorem dL_law_784 : decode cL_law 784 = .ok (.ireturn, 1) := by decide +kernel
theorem dL_law_785 : decode cL_law 785 = .ok (.aload_n 1, 1) := by decide +kernel
theorem dL_law_786 : decode cL_law 786 = .ok (.aload_n 0, 1) := by decide +kernel
theorem dL_law_787 : decode cL_law 787 = .ok (.iload_n 3, 1) := by decide +kernel
theorem dL_law_788 : decode cL_law 788 = .ok (.iconst 1, 1) := by decide +kernel
theorem dL_law_789 : decode cL_law 789 = .ok (.iadd, 1) := by decide +kernel
theorem dL_law_790 : decode cL_law 790 = .ok (.iaload, 1) := by decide +kernel
theorem dL_law_791 : decode cL_law 791 = .ok (.aload_n 0, 1) := by decide +kernel
theorem dL_law_792 : decode cL_law 792 = .ok (.iload_n 3, 1) := by decide +kernel
theorem dL_law_793 : decode cL_law 793 = .ok (.iconst 2, 1) := by decide +kernel
theorem dL_law_794 : decode cL_law 794 = .ok (.iadd, 1) := by decide +kernel
theorem dL_law_795 : decode cL_law 795 = .ok (.iaload, 1) := by decide +kernel
theorem dL_law_796 : decode cL_law 796 = .ok (.aload_n 0, 1) := by decide +kernel
theorem dL_law_797 : decode cL_law 797 = .ok (.iload_n 3, 1) := by decide +kernel
theorem dL_law_798 : decode cL_law 798 = .ok (.iconst 3, 1) := by decide +kernel
theorem dL_law_799 : decode cL_law 799 = .ok (.iadd, 1) := by decide +kernel
theorem dL_law_800 : decode cL_law 800 = .ok (.iaload, 1) := by decide +kernel
theorem dL_law_801 : decode cL_law 801 = .ok (.invokevirtual 103, 3) := by decide +kernel
theorem dL_law_804 : decode cL_law 804 = .ok (.aload_n 2, 1) := by decide +kernel
theorem dL_law_805 : decode cL_law 805 = .ok (.aload_n 0, 1) := by decide +kernel
theorem dL_law_806 : decode cL_law 806 = .ok (.iload_n 3, 1) := by decide +kernel
theorem dL_law_807 : decode cL_law 807 = .ok (.iconst 1, 1) := by decide +kernel
theorem dL_law_808 : decode cL_law 808 = .ok (.iadd, 1) := by decide +kernel
theorem dL_law_809 : decode cL_law 809 = .ok (.iaload, 1) := by decide +kernel
theorem dL_law_810 : decode cL_law 810 = .ok (.aload_n 0, 1) := by decide +kernel
theorem dL_law_811 : decode cL_law 811 = .ok (.iload_n 3, 1) := by decide +kernel
theorem dL_law_812 : decode cL_law 812 = .ok (.iconst 2, 1) := by decide +kernel
theorem dL_law_813 : decode cL_law 813 = .ok (.iadd, 1) := by decide +kernel
theorem dL_law_814 : decode cL_law 814 = .ok (.iaload, 1) := by decide +kernel
theorem dL_law_815 : decode cL_law 815 = .ok (.aload_n 0, 1) := by decide +kernel
theorem dL_law_816 : decode cL_law 816 = .ok (.iload_n 3, 1) := by decide +kernel
theorem dL_law_817 : decode cL_law 817 = .ok (.iconst 3, 1) := by decide +kernel
theorem dL_law_818 : decode cL_law 818 = .ok (.iadd, 1) := by decide +kernel
theorem dL_law_819 : decode cL_law 819 = .ok (.iaload, 1) := by decide +kernel
theorem dL_law_820 : decode cL_law 820 = .ok (.invokevirtual 106, 3) := by decide +kernel
theorem dL_law_823 : decode cL_law 823 = .ok (.if_icmp .eq 110, 3) := by decide +kernel
theorem dL_law_826 : decode cL_law 826 = .ok (.iconst 0, 1) := by decide +kernel
theorem dL_law_827 : decode cL_law 827 = .ok (.ireturn, 1) := by decide +kernel
theorem dL_law_828 : decode cL_law 828 = .ok (.aload_n 1, 1) := by decide +kernel
theorem dL_law_829 : decode cL_law 829 = .ok (.aload_n 0, 1) := by decide +kernel
theorem dL_law_830 : decode cL_law 830 = .ok (.iload_n 3, 1) := by decide +kernel
theorem dL_law_831 : decode cL_law 831 = .ok (.iconst 1, 1) := by decide +kernel
theorem dL_law_832 : decode cL_law 832 = .ok (.iadd, 1) := by decide +kernel
theorem dL_law_833 : decode cL_law 833 = .ok (.iaload, 1) := by decide +kernel
theorem dL_law_834 : decode cL_law 834 = .ok (.invokevirtual 107, 3) := by decide +kernel
theorem dL_law_837 : decode cL_law 837 = .ok (.aload_n 2, 1) := by decide +kernel
theorem dL_law_838 : decode cL_law 838 = .ok (.aload_n 0, 1) := by decide +kernel
theorem dL_law_839 : decode cL_law 839 = .ok (.iload_n 3, 1) := by decide +kernel
theorem dL_law_840 : decode cL_law 840 = .ok (.iconst 1, 1) := by decide +kernel
theorem dL_law_841 : decode cL_law 841 = .ok (.iadd, 1) := by decide +kernel
theorem dL_law_842 : decode cL_law 842 = .ok (.iaload, 1) := by decide +kernel
theorem dL_law_843 : decode cL_law 843 = .ok (.invokevirtual 110, 3) := by decide +kernel
theorem dL_law_846 : decode cL_law 846 = .ok (.if_icmp .eq 87, 3) := by decide +kernel
theorem dL_law_849 : decode cL_law 849 = .ok (.iconst 0, 1) := by decide +kernel
theorem dL_law_850 : decode cL_law 850 = .ok (.ireturn, 1) := by decide +kernel
theorem dL_law_851 : decode cL_law 851 = .ok (.aload_n 1, 1) := by decide +kernel
theorem dL_law_852 : decode cL_law 852 = .ok (.aload_n 0, 1) := by decide +kernel
theorem dL_law_853 : decode cL_law 853 = .ok (.iload_n 3, 1) := by decide +kernel
theorem dL_law_854 : decode cL_law 854 = .ok (.iconst 1, 1) := by decide +kernel
theorem dL_law_855 : decode cL_law 855 = .ok (.iadd, 1) := by decide +kernel
theorem dL_law_856 : decode cL_law 856 = .ok (.iaload, 1) := by decide +kernel
theorem dL_law_857 : decode cL_law 857 = .ok (.aload_n 0, 1) := by decide +kernel
theorem dL_law_858 : decode cL_law 858 = .ok (.iload_n 3, 1) := by decide +kernel
theorem dL_law_859 : decode cL_law 859 = .ok (.iconst 2, 1) := by decide +kernel
theorem dL_law_860 : decode cL_law 860 = .ok (.iadd, 1) := by decide +kernel
theorem dL_law_861 : decode cL_law 861 = .ok (.iaload, 1) := by decide +kernel
theorem dL_law_862 : decode cL_law 862 = .ok (.invokevirtual 111, 3) := by decide +kernel
theorem dL_law_865 : decode cL_law 865 = .ok (.aload_n 2, 1) := by decide +kernel
theorem dL_law_866 : decode cL_law 866 = .ok (.aload_n 0, 1) := by decide +kernel
theorem dL_law_867 : decode cL_law 867 = .ok (.iload_n 3, 1) := by decide +kernel
theorem dL_law_868 : decode cL_law 868 = .ok (.iconst 1, 1) := by decide +kernel
theorem dL_law_869 : decode cL_law 869 = .ok (.iadd, 1) := by decide +kernel
theorem dL_law_870 : decode cL_law 870 = .ok (.iaload, 1) := by decide +kernel
theorem dL_law_871 : decode cL_law 871 = .ok (.aload_n 0, 1) := by decide +kernel
theorem dL_law_872 : decode cL_law 872 = .ok (.iload_n 3, 1) := by decide +kernel
theorem dL_law_873 : decode cL_law 873 = .ok (.iconst 2, 1) := by decide +kernel
theorem dL_law_874 : decode cL_law 874 = .ok (.iadd, 1) := by decide +kernel
theorem dL_law_875 : decode cL_law 875 = .ok (.iaload, 1) := by decide +kernel
theorem dL_law_876 : decode cL_law 876 = .ok (.invokevirtual 114, 3) := by decide +kernel
theorem dL_law_879 : decode cL_law 879 = .ok (.if_icmp .eq 54, 3) := by decide +kernel
theorem dL_law_882 : decode cL_law 882 = .ok (.iconst 0, 1) := by decide +kernel
theorem dL_law_883 : decode cL_law 883 = .ok (.ireturn, 1) := by decide +kernel
theorem dL_law_884 : decode cL_law 884 = .ok (.aload_n 1, 1) := by decide +kernel
theorem dL_law_885 : decode cL_law 885 = .ok (.invokevirtual 115, 3) := by decide +kernel
theorem dL_law_888 : decode cL_law 888 = .ok (.aload_n 2, 1) := by decide +kernel
theorem dL_law_889 : decode cL_law 889 = .ok (.invokevirtual 118, 3) := by decide +kernel
theorem dL_law_892 : decode cL_law 892 = .ok (.if_icmp .eq 41, 3) := by decide +kernel
theorem dL_law_895 : decode cL_law 895 = .ok (.iconst 0, 1) := by decide +kernel
theorem dL_law_896 : decode cL_law 896 = .ok (.ireturn, 1) := by decide +kernel
theorem dL_law_897 : decode cL_law 897 = .ok (.aload_n 1, 1) := by decide +kernel
theorem dL_law_898 : decode cL_law 898 = .ok (.invokevirtual 119, 3) := by decide +kernel
theorem dL_law_901 : decode cL_law 901 = .ok (.aload_n 2, 1) := by decide +kernel
theorem dL_law_902 : decode cL_law 902 = .ok (.invokevirtual 122, 3) := by decide +kernel
theorem dL_law_905 : decode cL_law 905 = .ok (.if_icmp .eq 28, 3) := by decide +kernel
theorem dL_law_908 : decode cL_law 908 = .ok (.iconst 0, 1) := by decide +kernel
theorem dL_law_909 : decode cL_law 909 = .ok (.ireturn, 1) := by decide +kernel
theorem dL_law_910 : decode cL_law 910 = .ok (.aload_n 1, 1) := by decide +kernel
theorem dL_law_911 : decode cL_law 911 = .ok (.aload_n 0, 1) := by decide +kernel
theorem dL_law_912 : decode cL_law 912 = .ok (.iload_n 3, 1) := by decide +kernel
theorem dL_law_913 : decode cL_law 913 = .ok (.iconst 1, 1) := by decide +kernel
theorem dL_law_914 : decode cL_law 914 = .ok (.iadd, 1) := by decide +kernel
theorem dL_law_915 : decode cL_law 915 = .ok (.iaload, 1) := by decide +kernel
theorem dL_law_916 : decode cL_law 916 = .ok (.invokevirtual 123, 3) := by decide +kernel
theorem dL_law_919 : decode cL_law 919 = .ok (.aload_n 2, 1) := by decide +kernel
theorem dL_law_920 : decode cL_law 920 = .ok (.aload_n 0, 1) := by decide +kernel
theorem dL_law_921 : decode cL_law 921 = .ok (.iload_n 3, 1) := by decide +kernel
theorem dL_law_922 : decode cL_law 922 = .ok (.iconst 1, 1) := by decide +kernel
theorem dL_law_923 : decode cL_law 923 = .ok (.iadd, 1) := by decide +kernel
theorem dL_law_924 : decode cL_law 924 = .ok (.iaload, 1) := by decide +kernel
theorem dL_law_925 : decode cL_law 925 = .ok (.invokevirtual 126, 3) := by decide +kernel
theorem dL_law_928 : decode cL_law 928 = .ok (.if_icmp .eq 5, 3) := by decide +kernel
theorem dL_law_931 : decode cL_law 931 = .ok (.iconst 0, 1) := by decide +kernel
theorem dL_law_932 : decode cL_law 932 = .ok (.ireturn, 1) := by decide +kernel
theorem dL_law_933 : decode cL_law 933 = .ok (.iinc 3 5, 3) := by decide +kernel
theorem dL_law_936 : decode cL_law 936 = .ok (.goto (-918), 3) := by decide +kernel
theorem dL_law_939 : decode cL_law 939 = .ok (.iconst 1, 1) := by decide +kernel
theorem dL_law_940 : decode cL_law 940 = .ok (.ireturn, 1) := by decide +kernel
end CDC
end
section
section CM
theorem vin (i : Int32) (n : Nat) (h : decide (¬ (i < 0 ∨ n ≤ i.toNatClampNeg)) = true) : vp_in i n := by
  unfold vp_in
  exact of_decide_eq_true h
theorem ne_toInt {x z : Int32} {k : Int} (h : ¬ x = z) (hk : z.toInt = k) : x.toInt ≠ k := fun e => h (Int32.toInt_inj.mp (e.trans hk.symm))
abbrev TYS (cI cZ cQ cT : ClassId) : List (ClassId × FieldType) := [(cI, .int), (cZ, .boolean), (cQ, .array .int), (cT, .object "DayKnown$Town")]
variable {p : Program} {l : Launch} {e : Env} {R : Room} {s : State} {m : MethodId} {args : Array Value} {below : List Frame} {meth : Method} {c : Code} {H : Heap} {locs : List Loc} {cells slots : Nat} {Q : State → Prop}
variable {y : MethodName} {cc : ByteArray} {n : Nat} {rt : Option FieldType} {D : va_G} {ty : List (ClassId × FieldType)} {A : Nat → Prop} {pc : Nat} {ls : Array Slot} {rest st0 : List Value} {ws wc wr : va_W}
/-- a new int[N][K] whose rows nobody looks at again: the old cells stand -/
theorem newQ (C0 : Ctx p s m args meth c y cc n rt D ty A) {index : Nat} (hw : Cond.classLink y.cls index "[[I" ∈ WALL) (ha : Cond.arrayClass .int ∈ WALL) {cI cQ : ClassId} (t0 t2 : Nat) (ht : ty[t0]? = some (cI, .int)) (ht2 : ty[t2]? = some (cQ, .array .int)) (hP : va_P D CL ws H) (hD : va_D A ws) (hS : va_S A s.heap H locs) {i j : Int32} {N K : Nat} (hn : ¬ i < 0) (hk : ¬ j < 0) (hN : i.toNatClampNeg = N) (hK : j.toNatClampNeg = K) (hb1 : N * 4 ≤ 536870912) (hb2 : K * 4 ≤ 536870912) (hb3 : K ≤ 536870912) (kc ks : Nat) (hkc : cells + (1 + N) ≤ kc) (hks : slots + (N + N * K) ≤ ks) (hcR : kc ≤ R.cells) (hsR : ks ≤ R.slots) (hdg : decode cc pc = .ok (.multianewarray index 2, 4))
    (kk : ∀ (q : Nat) (H1 : Heap), va_P D CL ws H1 → va_D A ws → va_S A s.heap H1 locs → W p l e R s m args below meth c H1 locs kc ks Q (F0 m (pc + 4) ls (.ref q :: rest))) : W p l e R s m args below meth c H locs cells slots Q (F0 m pc ls (.int j :: .int i :: rest)) := by
  obtain ⟨hx, hb, hrr, hml, hown, hlocks, hname, hT, hNW, hKK, hA⟩ := C0
  subst hN
  subst hK
  intro T hTT Xs
  obtain ⟨vm₁, cA, comp, -, fA, fC, hO, -, X', step⟩ := Jvm.Stand.multianewarray2F Xs hx (index := index) (ty := .int) hown (hT _ hw) (va_AOA.use hNW.2.2) (hT _ ha) (g := F0 m pc ls (.int j :: .int i :: rest)) rfl (by rw [hb]; exact hdg) rfl hn hk hb1 hb2 hb3 rfl rfl (Nat.le_trans hkc hcR) (Nat.le_trans hks hsR)
  generalize hF : Jvm.Free.Multi.fill (T.setVm vm₁) cA comp i.toNatClampNeg j.toNatClampNeg (defaultValue .int) i.toNatClampNeg = F at X' step
  have hTh : (T.setVm vm₁).heap = H := hTT
  obtain ⟨f1, -, -, -⟩ := Jvm.Free.Multi.fill_facts (T.setVm vm₁) cA comp i.toNatClampNeg j.toNatClampNeg (defaultValue .int) i.toNatClampNeg
  rw [hF, hTh] at f1
  have hold : ∀ x : Nat, x < H.size → F.heap[x]? = H[x]? := fun x hx => by
    have := Jvm.Free.Multi.fill_old (T.setVm vm₁) cA comp i.toNatClampNeg j.toNatClampNeg (defaultValue .int) (a := x) (by rw [hTh]; exact hx) i.toNatClampNeg
    rw [hF, hTh] at this
    exact this
  obtain ⟨t, a1, b1⟩ := kk H.size F.heap (hP.kept (fun k9 x hx => hold x.1 ((hP k9 x hx).lt))) hD ⟨by rw [f1]; have := hS.1; omega, fun x h1 h2 => (hold x (Nat.lt_of_lt_of_le h1 hS.1)).trans (hS.2.1 x h1 h2), hS.2.2⟩ F rfl (stand_widen X' (by omega) (by omega))
  refine ⟨t, step t ?_, b1⟩
  have e : T.heap.size = H.size := by rw [hTT]
  rw [e]
  exact a1
theorem le_i {a b : Int32} : a ≤ b ↔ a.toInt ≤ b.toInt := Int32.le_iff_toInt_le
theorem lt_i {a b : Int32} : a < b ↔ a.toInt < b.toInt := Int32.lt_iff_toInt_lt
theorem eq_i {a b : Int32} : a = b ↔ a.toInt = b.toInt := Int32.toInt_inj.symm
theorem li_n (k : Nat) (h : k < 2147483648) : (OfNat.ofNat k : Int32).toInt = (k : Int) := by
  rw [← show (nI k) = (OfNat.ofNat k : Int32) from rfl]
  exact nI_toInt h
end CM
end
