section CW
set_option maxRecDepth 100000 in
theorem we_X4_read : Cond.selects RX4 yX4_read yX4_read ∈ WALL := wall 0 (by decide +kernel) rfl
set_option maxRecDepth 100000 in
theorem we_X4_readClause : Cond.selects RX4 yX4_readClause yX4_readClause ∈ WALL := wall 1 (by decide +kernel) rfl
set_option maxRecDepth 100000 in
theorem we_X4_sign : Cond.selects RX4 yX4_sign yX4_sign ∈ WALL := wall 2 (by decide +kernel) rfl
set_option maxRecDepth 100000 in
theorem we_X4_takeWord : Cond.selects RX4 yX4_takeWord yX4_takeWord ∈ WALL := wall 3 (by decide +kernel) rfl
set_option maxRecDepth 100000 in
theorem we_X4_take : Cond.selects RX4 yX4_take yX4_take ∈ WALL := wall 4 (by decide +kernel) rfl
set_option maxRecDepth 100000 in
theorem we_X4_readNumber : Cond.selects RX4 yX4_readNumber yX4_readNumber ∈ WALL := wall 5 (by decide +kernel) rfl
set_option maxRecDepth 100000 in
theorem we_X4_takeOneOf : Cond.selects RX4 yX4_takeOneOf yX4_takeOneOf ∈ WALL := wall 6 (by decide +kernel) rfl
set_option maxRecDepth 100000 in
theorem we_X4_readAny : Cond.selects RX4 yX4_readAny yX4_readAny ∈ WALL := wall 7 (by decide +kernel) rfl
set_option maxRecDepth 100000 in
theorem we_X4_readBoth : Cond.selects RX4 yX4_readBoth yX4_readBoth ∈ WALL := wall 8 (by decide +kernel) rfl
set_option maxRecDepth 100000 in
theorem we_X4_readFactor : Cond.selects RX4 yX4_readFactor yX4_readFactor ∈ WALL := wall 9 (by decide +kernel) rfl
set_option maxRecDepth 100000 in
theorem we_X4_readTest : Cond.selects RX4 yX4_readTest yX4_readTest ∈ WALL := wall 10 (by decide +kernel) rfl
set_option maxRecDepth 100000 in
theorem we_X4_keepCode : Cond.selects RX4 yX4_keepCode yX4_keepCode ∈ WALL := wall 11 (by decide +kernel) rfl
set_option maxRecDepth 100000 in
theorem we_X4_keepClause : Cond.selects RX4 yX4_keepClause yX4_keepClause ∈ WALL := wall 12 (by decide +kernel) rfl
set_option maxRecDepth 100000 in
theorem we_X5_forgetTowns : Cond.selects RX5 yX5_forgetTowns yX5_forgetTowns ∈ WALL := wall 13 (by decide +kernel) rfl
set_option maxRecDepth 100000 in
theorem we_X1_forgetTown : Cond.selects RX1 yX1_forgetTown yX1_forgetTown ∈ WALL := wall 14 (by decide +kernel) rfl
set_option maxRecDepth 100000 in
theorem we_X1_forget : Cond.selects RX1 yX1_forget yX1_forget ∈ WALL := wall 15 (by decide +kernel) rfl
set_option maxRecDepth 100000 in
theorem we_X5_newestTown : Cond.selects RX5 yX5_newestTown yX5_newestTown ∈ WALL := wall 16 (by decide +kernel) rfl
set_option maxRecDepth 100000 in
theorem we_X2_join : Cond.selects RX2 yX2_join yX2_join ∈ WALL := wall 17 (by decide +kernel) rfl
set_option maxRecDepth 100000 in
theorem we_X2_putNote : Cond.selects RX2 yX2_putNote yX2_putNote ∈ WALL := wall 18 (by decide +kernel) rfl
set_option maxRecDepth 100000 in
theorem we_X2_has : Cond.selects RX2 yX2_has yX2_has ∈ WALL := wall 19 (by decide +kernel) rfl
set_option maxRecDepth 100000 in
theorem we_X2_noteOf : Cond.selects RX2 yX2_noteOf yX2_noteOf ∈ WALL := wall 20 (by decide +kernel) rfl
set_option maxRecDepth 100000 in
theorem we_X2_isDay : Cond.selects RX2 yX2_isDay yX2_isDay ∈ WALL := wall 21 (by decide +kernel) rfl
set_option maxRecDepth 100000 in
theorem we_X2_allDays : Cond.selects RX2 yX2_allDays yX2_allDays ∈ WALL := wall 22 (by decide +kernel) rfl
set_option maxRecDepth 100000 in
theorem we_X1_prepare : Cond.selects RX1 yX1_prepare yX1_prepare ∈ WALL := wall 23 (by decide +kernel) rfl
set_option maxRecDepth 100000 in
theorem we_X1_fillWorths : Cond.selects RX1 yX1_fillWorths yX1_fillWorths ∈ WALL := wall 24 (by decide +kernel) rfl
set_option maxRecDepth 100000 in
theorem we_X4_worth : Cond.selects RX4 yX4_worth yX4_worth ∈ WALL := wall 25 (by decide +kernel) rfl
set_option maxRecDepth 100000 in
theorem we_X4_holds : Cond.selects RX4 yX4_holds yX4_holds ∈ WALL := wall 26 (by decide +kernel) rfl
set_option maxRecDepth 100000 in
theorem we_X1_sightOf : Cond.selects RX1 yX1_sightOf yX1_sightOf ∈ WALL := wall 27 (by decide +kernel) rfl
set_option maxRecDepth 100000 in
theorem we_X1_rowAt : Cond.selects RX1 yX1_rowAt yX1_rowAt ∈ WALL := wall 28 (by decide +kernel) rfl
set_option maxRecDepth 100000 in
theorem we_X1_bestRow : Cond.selects RX1 yX1_bestRow yX1_bestRow ∈ WALL := wall 29 (by decide +kernel) rfl
set_option maxRecDepth 100000 in
theorem we_X1_gain : Cond.selects RX1 yX1_gain yX1_gain ∈ WALL := wall 30 (by decide +kernel) rfl
set_option maxRecDepth 100000 in
theorem we_X1_worth : Cond.selects RX1 yX1_worth yX1_worth ∈ WALL := wall 31 (by decide +kernel) rfl
set_option maxRecDepth 100000 in
theorem we_X1_would : Cond.selects RX1 yX1_would yX1_would ∈ WALL := wall 32 (by decide +kernel) rfl
set_option maxRecDepth 100000 in
theorem we_X1_answerOf : Cond.selects RX1 yX1_answerOf yX1_answerOf ∈ WALL := wall 33 (by decide +kernel) rfl
set_option maxRecDepth 100000 in
theorem we_X1_firstOtherwise : Cond.selects RX1 yX1_firstOtherwise yX1_firstOtherwise ∈ WALL := wall 34 (by decide +kernel) rfl
set_option maxRecDepth 100000 in
theorem we_X1_answer : Cond.selects RX1 yX1_answer yX1_answer ∈ WALL := wall 35 (by decide +kernel) rfl
set_option maxRecDepth 100000 in
theorem we_X1_gainOfAll : Cond.selects RX1 yX1_gainOfAll yX1_gainOfAll ∈ WALL := wall 36 (by decide +kernel) rfl
set_option maxRecDepth 100000 in
theorem we_X5_searchNow : Cond.selects RX5 yX5_searchNow yX5_searchNow ∈ WALL := wall 37 (by decide +kernel) rfl
set_option maxRecDepth 100000 in
theorem we_X1_search : Cond.selects RX1 yX1_search yX1_search ∈ WALL := wall 38 (by decide +kernel) rfl
set_option maxRecDepth 100000 in
theorem we_X1_stands : Cond.selects RX1 yX1_stands yX1_stands ∈ WALL := wall 39 (by decide +kernel) rfl
set_option maxRecDepth 100000 in
theorem we_X1_addStanding : Cond.selects RX1 yX1_addStanding yX1_addStanding ∈ WALL := wall 40 (by decide +kernel) rfl
set_option maxRecDepth 100000 in
theorem we_X5_placeOnPath : Cond.selects RX5 yX5_placeOnPath yX5_placeOnPath ∈ WALL := wall 41 (by decide +kernel) rfl
set_option maxRecDepth 100000 in
theorem we_X1_comingDay : Cond.selects RX1 yX1_comingDay yX1_comingDay ∈ WALL := wall 42 (by decide +kernel) rfl
set_option maxRecDepth 100000 in
theorem we_X2_endMorning : Cond.selects RX2 yX2_endMorning yX2_endMorning ∈ WALL := wall 43 (by decide +kernel) rfl
set_option maxRecDepth 100000 in
theorem we_X2_become : Cond.selects RX2 yX2_become yX2_become ∈ WALL := wall 44 (by decide +kernel) rfl
set_option maxRecDepth 100000 in
theorem we_X5_searchThen : Cond.selects RX5 yX5_searchThen yX5_searchThen ∈ WALL := wall 45 (by decide +kernel) rfl
set_option maxRecDepth 100000 in
theorem we_X1_stoodWith : Cond.selects RX1 yX1_stoodWith yX1_stoodWith ∈ WALL := wall 46 (by decide +kernel) rfl
set_option maxRecDepth 100000 in
theorem we_X5_tellThen : Cond.selects RX5 yX5_tellThen yX5_tellThen ∈ WALL := wall 47 (by decide +kernel) rfl
set_option maxRecDepth 100000 in
theorem we_X2_exchange : Cond.selects RX2 yX2_exchange yX2_exchange ∈ WALL := wall 48 (by decide +kernel) rfl
set_option maxRecDepth 100000 in
theorem we_X5_wouldRather : Cond.selects RX5 yX5_wouldRather yX5_wouldRather ∈ WALL := wall 49 (by decide +kernel) rfl
set_option maxRecDepth 100000 in
theorem we_X5_isBetterThen : Cond.selects RX5 yX5_isBetterThen yX5_isBetterThen ∈ WALL := wall 50 (by decide +kernel) rfl
set_option maxRecDepth 100000 in
theorem we_X0_clear : Cond.selects RX0 yX0_clear yX0_clear ∈ WALL := wall 51 (by decide +kernel) rfl
set_option maxRecDepth 100000 in
theorem we_X0_start : Cond.selects RX0 yX0_start yX0_start ∈ WALL := wall 52 (by decide +kernel) rfl
set_option maxRecDepth 100000 in
theorem we_X0_ask : Cond.selects RX0 yX0_ask yX0_ask ∈ WALL := wall 53 (by decide +kernel) rfl
set_option maxRecDepth 100000 in
theorem we_X0_begin : Cond.selects RX0 yX0_begin yX0_begin ∈ WALL := wall 54 (by decide +kernel) rfl
set_option maxRecDepth 100000 in
theorem we_X3_become : Cond.selects RX3 yX3_become yX3_become ∈ WALL := wall 55 (by decide +kernel) rfl
set_option maxRecDepth 100000 in
theorem we_X6_clauseHere : Cond.selects RX6 yX6_clauseHere yX6_clauseHere ∈ WALL := wall 56 (by decide +kernel) rfl
set_option maxRecDepth 100000 in
theorem we_X6_here : Cond.selects RX6 yX6_here yX6_here ∈ WALL := wall 57 (by decide +kernel) rfl
set_option maxRecDepth 100000 in
theorem we_X6_much : Cond.selects RX6 yX6_much yX6_much ∈ WALL := wall 58 (by decide +kernel) rfl
set_option maxRecDepth 100000 in
theorem we_X6_spells : Cond.selects RX6 yX6_spells yX6_spells ∈ WALL := wall 59 (by decide +kernel) rfl
set_option maxRecDepth 100000 in
theorem we_X6_must : Cond.selects RX6 yX6_must yX6_must ∈ WALL := wall 60 (by decide +kernel) rfl
set_option maxRecDepth 100000 in
theorem we_X6_figures : Cond.selects RX6 yX6_figures yX6_figures ∈ WALL := wall 61 (by decide +kernel) rfl
set_option maxRecDepth 100000 in
theorem we_X6_some : Cond.selects RX6 yX6_some yX6_some ∈ WALL := wall 62 (by decide +kernel) rfl
set_option maxRecDepth 100000 in
theorem we_X6_every : Cond.selects RX6 yX6_every yX6_every ∈ WALL := wall 63 (by decide +kernel) rfl
set_option maxRecDepth 100000 in
theorem we_X6_factor : Cond.selects RX6 yX6_factor yX6_factor ∈ WALL := wall 64 (by decide +kernel) rfl
set_option maxRecDepth 100000 in
theorem we_X6_emits : Cond.selects RX6 yX6_emits yX6_emits ∈ WALL := wall 65 (by decide +kernel) rfl
set_option maxRecDepth 100000 in
theorem we_X6_among : Cond.selects RX6 yX6_among yX6_among ∈ WALL := wall 66 (by decide +kernel) rfl
set_option maxRecDepth 100000 in
theorem we_X6_tellsOf : Cond.selects RX6 yX6_tellsOf yX6_tellsOf ∈ WALL := wall 67 (by decide +kernel) rfl
set_option maxRecDepth 100000 in
theorem we_X6_isPerson : Cond.selects RX6 yX6_isPerson yX6_isPerson ∈ WALL := wall 68 (by decide +kernel) rfl
set_option maxRecDepth 100000 in
theorem we_X6_isDay : Cond.selects RX6 yX6_isDay yX6_isDay ∈ WALL := wall 69 (by decide +kernel) rfl
set_option maxRecDepth 100000 in
theorem we_X6_days : Cond.selects RX6 yX6_days yX6_days ∈ WALL := wall 70 (by decide +kernel) rfl
set_option maxRecDepth 100000 in
theorem we_X6_looks : Cond.selects RX6 yX6_looks yX6_looks ∈ WALL := wall 71 (by decide +kernel) rfl
set_option maxRecDepth 100000 in
theorem we_X6_looksAt : Cond.selects RX6 yX6_looksAt yX6_looksAt ∈ WALL := wall 72 (by decide +kernel) rfl
set_option maxRecDepth 100000 in
theorem we_X6_worthBy : Cond.selects RX6 yX6_worthBy yX6_worthBy ∈ WALL := wall 73 (by decide +kernel) rfl
set_option maxRecDepth 100000 in
theorem we_X6_worthOf : Cond.selects RX6 yX6_worthOf yX6_worthOf ∈ WALL := wall 74 (by decide +kernel) rfl
set_option maxRecDepth 100000 in
theorem we_X6_others : Cond.selects RX6 yX6_others yX6_others ∈ WALL := wall 75 (by decide +kernel) rfl
set_option maxRecDepth 100000 in
theorem we_X6_would : Cond.selects RX6 yX6_would yX6_would ∈ WALL := wall 76 (by decide +kernel) rfl
set_option maxRecDepth 100000 in
theorem we_X6_bestOwn : Cond.selects RX6 yX6_bestOwn yX6_bestOwn ∈ WALL := wall 77 (by decide +kernel) rfl
set_option maxRecDepth 100000 in
theorem we_X6_gainOf : Cond.selects RX6 yX6_gainOf yX6_gainOf ∈ WALL := wall 78 (by decide +kernel) rfl
set_option maxRecDepth 100000 in
theorem we_X6_wouldPlainly : Cond.selects RX6 yX6_wouldPlainly yX6_wouldPlainly ∈ WALL := wall 79 (by decide +kernel) rfl
set_option maxRecDepth 100000 in
theorem we_X6_isStrange : Cond.selects RX6 yX6_isStrange yX6_isStrange ∈ WALL := wall 80 (by decide +kernel) rfl
set_option maxRecDepth 100000 in
theorem we_X6_firstOtherwise : Cond.selects RX6 yX6_firstOtherwise yX6_firstOtherwise ∈ WALL := wall 81 (by decide +kernel) rfl
set_option maxRecDepth 100000 in
theorem we_X6_answerTo : Cond.selects RX6 yX6_answerTo yX6_answerTo ∈ WALL := wall 82 (by decide +kernel) rfl
set_option maxRecDepth 100000 in
theorem we_X6_gainOfAll : Cond.selects RX6 yX6_gainOfAll yX6_gainOfAll ∈ WALL := wall 83 (by decide +kernel) rfl
set_option maxRecDepth 100000 in
theorem we_X6_looksThrough : Cond.selects RX6 yX6_looksThrough yX6_looksThrough ∈ WALL := wall 84 (by decide +kernel) rfl
set_option maxRecDepth 100000 in
theorem we_X6_stands : Cond.selects RX6 yX6_stands yX6_stands ∈ WALL := wall 85 (by decide +kernel) rfl
set_option maxRecDepth 100000 in
theorem we_X6_morningComes : Cond.selects RX6 yX6_morningComes yX6_morningComes ∈ WALL := wall 86 (by decide +kernel) rfl
set_option maxRecDepth 100000 in
theorem we_X6_keeps : Cond.selects RX6 yX6_keeps yX6_keeps ∈ WALL := wall 87 (by decide +kernel) rfl
set_option maxRecDepth 100000 in
theorem we_X6_goesBack : Cond.selects RX6 yX6_goesBack yX6_goesBack ∈ WALL := wall 88 (by decide +kernel) rfl
set_option maxRecDepth 100000 in
theorem we_X6_isGood : Cond.selects RX6 yX6_isGood yX6_isGood ∈ WALL := wall 89 (by decide +kernel) rfl
set_option maxRecDepth 100000 in
theorem we_X6_knowsActs : Cond.selects RX6 yX6_knowsActs yX6_knowsActs ∈ WALL := wall 90 (by decide +kernel) rfl
set_option maxRecDepth 100000 in
theorem we_X6_runs : Cond.selects RX6 yX6_runs yX6_runs ∈ WALL := wall 91 (by decide +kernel) rfl
set_option maxRecDepth 100000 in
theorem we_X6_plainKnows : Cond.selects RX6 yX6_plainKnows yX6_plainKnows ∈ WALL := wall 92 (by decide +kernel) rfl
set_option maxRecDepth 100000 in
theorem we_X6_doesActs : Cond.selects RX6 yX6_doesActs yX6_doesActs ∈ WALL := wall 93 (by decide +kernel) rfl
set_option maxRecDepth 100000 in
theorem we_X6_plainDoes : Cond.selects RX6 yX6_plainDoes yX6_plainDoes ∈ WALL := wall 94 (by decide +kernel) rfl
set_option maxRecDepth 100000 in
theorem we_X6_tellsActs : Cond.selects RX6 yX6_tellsActs yX6_tellsActs ∈ WALL := wall 95 (by decide +kernel) rfl
set_option maxRecDepth 100000 in
theorem we_X6_plainTells : Cond.selects RX6 yX6_plainTells yX6_plainTells ∈ WALL := wall 96 (by decide +kernel) rfl
set_option maxRecDepth 100000 in
theorem wz_L : Cond.initialized RL ∈ WALL := wall 97 (by decide +kernel) rfl
set_option maxRecDepth 100000 in
theorem wz_X5 : Cond.initialized RX5 ∈ WALL := wall 98 (by decide +kernel) rfl
set_option maxRecDepth 100000 in
theorem wz_X3 : Cond.initialized RX3 ∈ WALL := wall 99 (by decide +kernel) rfl
set_option maxRecDepth 100000 in
theorem wz_X2 : Cond.initialized RX2 ∈ WALL := wall 100 (by decide +kernel) rfl
set_option maxRecDepth 100000 in
theorem wz_X4 : Cond.initialized RX4 ∈ WALL := wall 101 (by decide +kernel) rfl
set_option maxRecDepth 100000 in
theorem wz_X1 : Cond.initialized RX1 ∈ WALL := wall 102 (by decide +kernel) rfl
set_option maxRecDepth 100000 in
theorem wz_X0 : Cond.initialized RX0 ∈ WALL := wall 103 (by decide +kernel) rfl
set_option maxRecDepth 100000 in
theorem wz_X6 : Cond.initialized RX6 ∈ WALL := wall 104 (by decide +kernel) rfl
set_option maxRecDepth 100000 in
theorem wz_J9 : Cond.initialized RJ9 ∈ WALL := wall 105 (by decide +kernel) rfl
set_option maxRecDepth 100000 in
theorem wz_J10 : Cond.initialized RJ10 ∈ WALL := wall 106 (by decide +kernel) rfl
set_option maxRecDepth 100000 in
theorem wz_J0 : Cond.initialized RJ0 ∈ WALL := wall 107 (by decide +kernel) rfl
set_option maxRecDepth 100000 in
theorem wz_J1 : Cond.initialized RJ1 ∈ WALL := wall 108 (by decide +kernel) rfl
set_option maxRecDepth 100000 in
theorem wz_J3 : Cond.initialized RJ3 ∈ WALL := wall 109 (by decide +kernel) rfl
set_option maxRecDepth 100000 in
theorem wz_J2 : Cond.initialized RJ2 ∈ WALL := wall 110 (by decide +kernel) rfl
set_option maxRecDepth 100000 in
theorem wz_J6 : Cond.initialized RJ6 ∈ WALL := wall 111 (by decide +kernel) rfl
set_option maxRecDepth 100000 in
theorem wcl_L_7 : Cond.classLink RL 7 "DayKnown" ∈ WALL := wall 112 (by decide +kernel) rfl
set_option maxRecDepth 100000 in
theorem wn_X5 : Cond.instantiable RX5 9 ∈ WALL := wall 113 (by decide +kernel) rfl
set_option maxRecDepth 100000 in
theorem wl_L_9 : Cond.methodLink RL 9 yX5_init ∈ WALL := wall 114 (by decide +kernel) rfl
set_option maxRecDepth 100000 in
theorem wi_X5_init : Cond.instanceMethod yX5_init ∈ WALL := wall 115 (by decide +kernel) rfl
set_option maxRecDepth 100000 in
theorem wl_X5_3 : Cond.methodLink RX5 3 Lib.objectInit ∈ WALL := wall 117 (by decide +kernel) rfl
set_option maxRecDepth 100000 in
theorem wi_objectInit : Cond.instanceMethod Lib.objectInit ∈ WALL := wall 118 (by decide +kernel) rfl
set_option maxRecDepth 100000 in
theorem wcl_X5_9 : Cond.classLink RX5 9 "DayKnown$Held" ∈ WALL := wall 120 (by decide +kernel) rfl
set_option maxRecDepth 100000 in
theorem wn_X3 : Cond.instantiable RX3 6 ∈ WALL := wall 121 (by decide +kernel) rfl
set_option maxRecDepth 100000 in
theorem wi_X3_init : Cond.instanceMethod yX3_init ∈ WALL := wall 123 (by decide +kernel) rfl
set_option maxRecDepth 100000 in
theorem wl_X3_3 : Cond.methodLink RX3 3 Lib.objectInit ∈ WALL := wall 125 (by decide +kernel) rfl
set_option maxRecDepth 100000 in
theorem wcl_X3_9 : Cond.classLink RX3 9 "DayKnown$Folk" ∈ WALL := wall 126 (by decide +kernel) rfl
set_option maxRecDepth 100000 in
theorem wn_X2 : Cond.instantiable RX2 6 ∈ WALL := wall 127 (by decide +kernel) rfl
set_option maxRecDepth 100000 in
theorem wi_X2_init : Cond.instanceMethod yX2_init ∈ WALL := wall 129 (by decide +kernel) rfl
set_option maxRecDepth 100000 in
theorem wl_X2_3 : Cond.methodLink RX2 3 Lib.objectInit ∈ WALL := wall 131 (by decide +kernel) rfl
set_option maxRecDepth 100000 in
theorem wf_X2_9 : Cond.fieldLink RX2 9 "DayKnown$Folk" "kind" "[I" ∈ WALL := wall 132 (by decide +kernel) rfl
set_option maxRecDepth 100000 in
theorem wf_X2_15 : Cond.fieldLink RX2 15 "DayKnown$Folk" "v" "[I" ∈ WALL := wall 136 (by decide +kernel) rfl
set_option maxRecDepth 100000 in
theorem wf_X2_18 : Cond.fieldLink RX2 18 "DayKnown$Folk" "row" "[I" ∈ WALL := wall 140 (by decide +kernel) rfl
set_option maxRecDepth 100000 in
theorem wf_X2_21 : Cond.fieldLink RX2 21 "DayKnown$Folk" "people" "I" ∈ WALL := wall 143 (by decide +kernel) rfl
set_option maxRecDepth 100000 in
theorem wf_X2_33 : Cond.fieldLink RX2 33 "DayKnown$Folk" "notes" "I" ∈ WALL := wall 147 (by decide +kernel) rfl
set_option maxRecDepth 100000 in
theorem wf_X2_40 : Cond.fieldLink RX2 40 "DayKnown$Folk" "yesterday" "I" ∈ WALL := wall 151 (by decide +kernel) rfl
set_option maxRecDepth 100000 in
theorem wa_int : Cond.arrayClass .int ∈ WALL := wall 165 (by decide +kernel) rfl
set_option maxRecDepth 100000 in
theorem wf_X3_12 : Cond.fieldLink RX3 12 "DayKnown$Held" "folk" "LDayKnown$Folk;" ∈ WALL := wall 166 (by decide +kernel) rfl
set_option maxRecDepth 100000 in
theorem wf_X3_18 : Cond.fieldLink RX3 18 "DayKnown$Held" "tape" "[I" ∈ WALL := wall 168 (by decide +kernel) rfl
set_option maxRecDepth 100000 in
theorem wf_X3_22 : Cond.fieldLink RX3 22 "DayKnown$Held" "book" "[I" ∈ WALL := wall 170 (by decide +kernel) rfl
set_option maxRecDepth 100000 in
theorem wf_X3_35 : Cond.fieldLink RX3 35 "DayKnown$Held" "signs" "I" ∈ WALL := wall 173 (by decide +kernel) rfl
set_option maxRecDepth 100000 in
theorem wf_X3_39 : Cond.fieldLink RX3 39 "DayKnown$Held" "booked" "I" ∈ WALL := wall 174 (by decide +kernel) rfl
set_option maxRecDepth 100000 in
theorem wf_X3_42 : Cond.fieldLink RX3 42 "DayKnown$Held" "towns" "I" ∈ WALL := wall 176 (by decide +kernel) rfl
set_option maxRecDepth 100000 in
theorem wcl_X5_19 : Cond.classLink RX5 19 "DayKnown$Town" ∈ WALL := wall 191 (by decide +kernel) rfl
set_option maxRecDepth 100000 in
theorem wn_X4 : Cond.instantiable RX4 9 ∈ WALL := wall 192 (by decide +kernel) rfl
set_option maxRecDepth 100000 in
theorem wi_X4_init : Cond.instanceMethod yX4_init ∈ WALL := wall 194 (by decide +kernel) rfl
set_option maxRecDepth 100000 in
theorem wl_X4_3 : Cond.methodLink RX4 3 Lib.objectInit ∈ WALL := wall 196 (by decide +kernel) rfl
set_option maxRecDepth 100000 in
theorem wf_X4_9 : Cond.fieldLink RX4 9 "DayKnown$Town" "text" "[I" ∈ WALL := wall 197 (by decide +kernel) rfl
set_option maxRecDepth 100000 in
theorem wf_X4_33 : Cond.fieldLink RX4 33 "DayKnown$Town" "size" "I" ∈ WALL := wall 198 (by decide +kernel) rfl
set_option maxRecDepth 100000 in
theorem wf_X4_43 : Cond.fieldLink RX4 43 "DayKnown$Town" "at" "I" ∈ WALL := wall 199 (by decide +kernel) rfl
set_option maxRecDepth 100000 in
theorem wf_X4_15 : Cond.fieldLink RX4 15 "DayKnown$Town" "code" "[I" ∈ WALL := wall 200 (by decide +kernel) rfl
set_option maxRecDepth 100000 in
theorem wf_X4_46 : Cond.fieldLink RX4 46 "DayKnown$Town" "codes" "I" ∈ WALL := wall 201 (by decide +kernel) rfl
set_option maxRecDepth 100000 in
theorem wf_X4_18 : Cond.fieldLink RX4 18 "DayKnown$Town" "amount" "[I" ∈ WALL := wall 202 (by decide +kernel) rfl
set_option maxRecDepth 100000 in
theorem wf_X4_21 : Cond.fieldLink RX4 21 "DayKnown$Town" "codeEnd" "[I" ∈ WALL := wall 203 (by decide +kernel) rfl
set_option maxRecDepth 100000 in
theorem wf_X4_49 : Cond.fieldLink RX4 49 "DayKnown$Town" "clauses" "I" ∈ WALL := wall 204 (by decide +kernel) rfl
set_option maxRecDepth 100000 in
theorem wf_X4_52 : Cond.fieldLink RX4 52 "DayKnown$Town" "noteHours" "I" ∈ WALL := wall 205 (by decide +kernel) rfl
set_option maxRecDepth 100000 in
theorem wcl_X5_30 : Cond.classLink RX5 30 "DayKnown$Days" ∈ WALL := wall 227 (by decide +kernel) rfl
set_option maxRecDepth 100000 in
theorem wn_X1 : Cond.instantiable RX1 12 ∈ WALL := wall 228 (by decide +kernel) rfl
set_option maxRecDepth 100000 in
theorem wi_X1_init : Cond.instanceMethod yX1_init ∈ WALL := wall 230 (by decide +kernel) rfl
set_option maxRecDepth 100000 in
theorem wl_X1_5 : Cond.methodLink RX1 5 Lib.objectInit ∈ WALL := wall 232 (by decide +kernel) rfl
set_option maxRecDepth 100000 in
theorem wcl_X1_11 : Cond.classLink RX1 11 "[[I" ∈ WALL := wall 233 (by decide +kernel) rfl
set_option maxRecDepth 100000 in
theorem wf_X1_26 : Cond.fieldLink RX1 26 "DayKnown$Days" "folk" "LDayKnown$Folk;" ∈ WALL := wall 235 (by decide +kernel) rfl
set_option maxRecDepth 100000 in
theorem wf_X1_13 : Cond.fieldLink RX1 13 "DayKnown$Days" "worths" "[[I" ∈ WALL := wall 237 (by decide +kernel) rfl
set_option maxRecDepth 100000 in
theorem wf_X1_16 : Cond.fieldLink RX1 16 "DayKnown$Days" "worthsKind" "[I" ∈ WALL := wall 238 (by decide +kernel) rfl
set_option maxRecDepth 100000 in
theorem wf_X1_20 : Cond.fieldLink RX1 20 "DayKnown$Days" "facts" "[I" ∈ WALL := wall 239 (by decide +kernel) rfl
set_option maxRecDepth 100000 in
theorem wf_X1_23 : Cond.fieldLink RX1 23 "DayKnown$Days" "replies" "[[I" ∈ WALL := wall 240 (by decide +kernel) rfl
set_option maxRecDepth 100000 in
theorem wf_X1_30 : Cond.fieldLink RX1 30 "DayKnown$Days" "isPrepared" "Z" ∈ WALL := wall 241 (by decide +kernel) rfl
set_option maxRecDepth 100000 in
theorem wf_X1_34 : Cond.fieldLink RX1 34 "DayKnown$Days" "isSearched" "Z" ∈ WALL := wall 242 (by decide +kernel) rfl
set_option maxRecDepth 100000 in
theorem wf_X1_113 : Cond.fieldLink RX1 113 "DayKnown$Days" "stood" "I" ∈ WALL := wall 244 (by decide +kernel) rfl
set_option maxRecDepth 100000 in
theorem wf_X1_116 : Cond.fieldLink RX1 116 "DayKnown$Days" "least" "I" ∈ WALL := wall 246 (by decide +kernel) rfl
set_option maxRecDepth 100000 in
theorem wf_X1_119 : Cond.fieldLink RX1 119 "DayKnown$Days" "greatest" "I" ∈ WALL := wall 248 (by decide +kernel) rfl
set_option maxRecDepth 100000 in
theorem wf_X1_122 : Cond.fieldLink RX1 122 "DayKnown$Days" "chosen" "I" ∈ WALL := wall 250 (by decide +kernel) rfl
set_option maxRecDepth 100000 in
theorem wf_X1_139 : Cond.fieldLink RX1 139 "DayKnown$Days" "chosenGain" "I" ∈ WALL := wall 252 (by decide +kernel) rfl
set_option maxRecDepth 100000 in
theorem wcl_X5_43 : Cond.classLink RX5 43 "DayKnown$Folk" ∈ WALL := wall 278 (by decide +kernel) rfl
set_option maxRecDepth 100000 in
theorem wcl_X5_53 : Cond.classLink RX5 53 "DayKnown$Acts" ∈ WALL := wall 280 (by decide +kernel) rfl
set_option maxRecDepth 100000 in
theorem wn_X0 : Cond.instantiable RX0 5 ∈ WALL := wall 281 (by decide +kernel) rfl
set_option maxRecDepth 100000 in
theorem wi_X0_init : Cond.instanceMethod yX0_init ∈ WALL := wall 283 (by decide +kernel) rfl
set_option maxRecDepth 100000 in
theorem wl_X0_3 : Cond.methodLink RX0 3 Lib.objectInit ∈ WALL := wall 285 (by decide +kernel) rfl
set_option maxRecDepth 100000 in
theorem wf_X0_11 : Cond.fieldLink RX0 11 "DayKnown$Acts" "bodies" "[I" ∈ WALL := wall 286 (by decide +kernel) rfl
set_option maxRecDepth 100000 in
theorem wf_X0_15 : Cond.fieldLink RX0 15 "DayKnown$Acts" "ran" "I" ∈ WALL := wall 288 (by decide +kernel) rfl
set_option maxRecDepth 100000 in
theorem wf_X0_25 : Cond.fieldLink RX0 25 "DayKnown$Acts" "self" "I" ∈ WALL := wall 290 (by decide +kernel) rfl
set_option maxRecDepth 100000 in
theorem wf_X0_31 : Cond.fieldLink RX0 31 "DayKnown$Acts" "kind" "I" ∈ WALL := wall 291 (by decide +kernel) rfl
set_option maxRecDepth 100000 in
theorem wf_X0_36 : Cond.fieldLink RX0 36 "DayKnown$Acts" "v" "I" ∈ WALL := wall 292 (by decide +kernel) rfl
set_option maxRecDepth 100000 in
theorem wf_X5_12 : Cond.fieldLink RX5 12 "DayKnown" "held" "LDayKnown$Held;" ∈ WALL := wall 304 (by decide +kernel) rfl
set_option maxRecDepth 100000 in
theorem wf_X5_16 : Cond.fieldLink RX5 16 "DayKnown" "saved" "LDayKnown$Held;" ∈ WALL := wall 305 (by decide +kernel) rfl
set_option maxRecDepth 100000 in
theorem wf_X5_252 : Cond.fieldLink RX5 252 "DayKnown" "isSaved" "Z" ∈ WALL := wall 306 (by decide +kernel) rfl
set_option maxRecDepth 100000 in
theorem wf_X5_22 : Cond.fieldLink RX5 22 "DayKnown" "noTown" "LDayKnown$Town;" ∈ WALL := wall 307 (by decide +kernel) rfl
set_option maxRecDepth 100000 in
theorem wf_X5_26 : Cond.fieldLink RX5 26 "DayKnown" "towns" "[LDayKnown$Town;" ∈ WALL := wall 308 (by decide +kernel) rfl
set_option maxRecDepth 100000 in
theorem wf_X5_39 : Cond.fieldLink RX5 39 "DayKnown" "now" "LDayKnown$Days;" ∈ WALL := wall 309 (by decide +kernel) rfl
set_option maxRecDepth 100000 in
theorem wf_X5_46 : Cond.fieldLink RX5 46 "DayKnown" "then" "LDayKnown$Days;" ∈ WALL := wall 310 (by decide +kernel) rfl
set_option maxRecDepth 100000 in
theorem wf_X5_49 : Cond.fieldLink RX5 49 "DayKnown" "path" "[I" ∈ WALL := wall 311 (by decide +kernel) rfl
set_option maxRecDepth 100000 in
theorem wf_X5_56 : Cond.fieldLink RX5 56 "DayKnown" "acts" "LDayKnown$Acts;" ∈ WALL := wall 312 (by decide +kernel) rfl
set_option maxRecDepth 100000 in
theorem wl_L_13 : Cond.methodLink RL 13 yX5_feed ∈ WALL := wall 332 (by decide +kernel) rfl
set_option maxRecDepth 100000 in
theorem wi_X5_feed : Cond.instanceMethod yX5_feed ∈ WALL := wall 333 (by decide +kernel) rfl
set_option maxRecDepth 100000 in
theorem we_X5_feed : Cond.selects RX5 yX5_feed yX5_feed ∈ WALL := wall 334 (by decide +kernel) rfl
set_option maxRecDepth 100000 in
theorem wl_L_18 : Cond.methodLink RL 18 yX5_town ∈ WALL := wall 336 (by decide +kernel) rfl
set_option maxRecDepth 100000 in
theorem wi_X5_town : Cond.instanceMethod yX5_town ∈ WALL := wall 337 (by decide +kernel) rfl
set_option maxRecDepth 100000 in
theorem we_X5_town : Cond.selects RX5 yX5_town yX5_town ∈ WALL := wall 338 (by decide +kernel) rfl
set_option maxRecDepth 100000 in
theorem wi_X4_read : Cond.instanceMethod yX4_read ∈ WALL := wall 342 (by decide +kernel) rfl
set_option maxRecDepth 100000 in
theorem wl_X4_24 : Cond.methodLink RX4 24 yJ9_min_7cf53 ∈ WALL := wall 344 (by decide +kernel) rfl
set_option maxRecDepth 100000 in
theorem wt_J9_min_7cf53 : Cond.static yJ9_min_7cf53 ∈ WALL := wall 345 (by decide +kernel) rfl
set_option maxRecDepth 100000 in
theorem wl_X4_30 : Cond.methodLink RX4 30 yJ9_max_7cf53 ∈ WALL := wall 347 (by decide +kernel) rfl
set_option maxRecDepth 100000 in
theorem wt_J9_max_7cf53 : Cond.static yJ9_max_7cf53 ∈ WALL := wall 348 (by decide +kernel) rfl
set_option maxRecDepth 100000 in
theorem wl_X4_37 : Cond.methodLink RX4 37 arraycopyName ∈ WALL := wall 350 (by decide +kernel) rfl
set_option maxRecDepth 100000 in
theorem wt_arraycopy : Cond.static arraycopyName ∈ WALL := wall 351 (by decide +kernel) rfl
set_option maxRecDepth 100000 in
theorem wnat_arraycopy : Cond.native arraycopyName ∈ WALL := wall 352 (by decide +kernel) rfl
set_option maxRecDepth 100000 in
theorem wl_X4_55 : Cond.methodLink RX4 55 yX4_readClause ∈ WALL := wall 353 (by decide +kernel) rfl
set_option maxRecDepth 100000 in
theorem wi_X4_readClause : Cond.instanceMethod yX4_readClause ∈ WALL := wall 355 (by decide +kernel) rfl
set_option maxRecDepth 100000 in
theorem wl_X4_63 : Cond.methodLink RX4 63 yX4_sign ∈ WALL := wall 357 (by decide +kernel) rfl
set_option maxRecDepth 100000 in
theorem wi_X4_sign : Cond.instanceMethod yX4_sign ∈ WALL := wall 359 (by decide +kernel) rfl
set_option maxRecDepth 100000 in
theorem wl_X4_82 : Cond.methodLink RX4 82 yX4_takeWord ∈ WALL := wall 364 (by decide +kernel) rfl
set_option maxRecDepth 100000 in
theorem wi_X4_takeWord : Cond.instanceMethod yX4_takeWord ∈ WALL := wall 366 (by decide +kernel) rfl
set_option maxRecDepth 100000 in
theorem wl_X4_67 : Cond.methodLink RX4 67 yJ0_length_8abf5 ∈ WALL := wall 368 (by decide +kernel) rfl
set_option maxRecDepth 100000 in
theorem wi_J0_length_8abf5 : Cond.instanceMethod yJ0_length_8abf5 ∈ WALL := wall 369 (by decide +kernel) rfl
set_option maxRecDepth 100000 in
theorem we_J0_length_8abf5 : Cond.selects RJ0 yJ0_length_8abf5 yJ0_length_8abf5 ∈ WALL := wall 370 (by decide +kernel) rfl
set_option maxRecDepth 100000 in
theorem wl_J0_335 : Cond.methodLink RJ0 335 yJ0_coder_7d493 ∈ WALL := wall 372 (by decide +kernel) rfl
set_option maxRecDepth 100000 in
theorem wi_J0_coder_7d493 : Cond.instanceMethod yJ0_coder_7d493 ∈ WALL := wall 373 (by decide +kernel) rfl
set_option maxRecDepth 100000 in
theorem we_J0_coder_7d493 : Cond.selects RJ0 yJ0_coder_7d493 yJ0_coder_7d493 ∈ WALL := wall 374 (by decide +kernel) rfl
set_option maxRecDepth 100000 in
theorem wf_J0_38 : Cond.fieldLink RJ0 38 "java/lang/String" "COMPACT_STRINGS" "Z" ∈ WALL := wall 376 (by decide +kernel) rfl
set_option maxRecDepth 100000 in
theorem wl_X4_72 : Cond.methodLink RX4 72 yJ0_charAt_5068e ∈ WALL := wall 378 (by decide +kernel) rfl
set_option maxRecDepth 100000 in
theorem wi_J0_charAt_5068e : Cond.instanceMethod yJ0_charAt_5068e ∈ WALL := wall 379 (by decide +kernel) rfl
set_option maxRecDepth 100000 in
theorem we_J0_charAt_5068e : Cond.selects RJ0 yJ0_charAt_5068e yJ0_charAt_5068e ∈ WALL := wall 380 (by decide +kernel) rfl
set_option maxRecDepth 100000 in
theorem wl_J0_492 : Cond.methodLink RJ0 492 yJ0_isLatin1_aae02 ∈ WALL := wall 382 (by decide +kernel) rfl
set_option maxRecDepth 100000 in
theorem wi_J0_isLatin1_aae02 : Cond.instanceMethod yJ0_isLatin1_aae02 ∈ WALL := wall 383 (by decide +kernel) rfl
set_option maxRecDepth 100000 in
theorem we_J0_isLatin1_aae02 : Cond.selects RJ0 yJ0_isLatin1_aae02 yJ0_isLatin1_aae02 ∈ WALL := wall 384 (by decide +kernel) rfl
set_option maxRecDepth 100000 in
theorem wl_J0_495 : Cond.methodLink RJ0 495 yJ1_charAt_3b067 ∈ WALL := wall 386 (by decide +kernel) rfl
set_option maxRecDepth 100000 in
theorem wt_J1_charAt_3b067 : Cond.static yJ1_charAt_3b067 ∈ WALL := wall 387 (by decide +kernel) rfl
set_option maxRecDepth 100000 in
theorem wl_J1_9 : Cond.methodLink RJ1 9 yJ0_checkIndex_df160 ∈ WALL := wall 389 (by decide +kernel) rfl
set_option maxRecDepth 100000 in
theorem wt_J0_checkIndex_df160 : Cond.static yJ0_checkIndex_df160 ∈ WALL := wall 390 (by decide +kernel) rfl
set_option maxRecDepth 100000 in
theorem wf_J0_1053 : Cond.fieldLink RJ0 1053 "jdk/internal/util/Preconditions" "SIOOBE_FORMATTER" "Ljava/util/function/BiFunction;" ∈ WALL := wall 392 (by decide +kernel) rfl
set_option maxRecDepth 100000 in
theorem wl_J0_1059 : Cond.methodLink RJ0 1059 yJ3_checkIndex_8e157 ∈ WALL := wall 394 (by decide +kernel) rfl
set_option maxRecDepth 100000 in
theorem wt_J3_checkIndex_8e157 : Cond.static yJ3_checkIndex_8e157 ∈ WALL := wall 395 (by decide +kernel) rfl
set_option maxRecDepth 100000 in
theorem wl_J0_498 : Cond.methodLink RJ0 498 yJ2_charAt_3b067 ∈ WALL := wall 397 (by decide +kernel) rfl
set_option maxRecDepth 100000 in
theorem wt_J2_charAt_3b067 : Cond.static yJ2_charAt_3b067 ∈ WALL := wall 398 (by decide +kernel) rfl
set_option maxRecDepth 100000 in
theorem wl_J2_67 : Cond.methodLink RJ2 67 yJ2_checkIndex_2214a ∈ WALL := wall 400 (by decide +kernel) rfl
set_option maxRecDepth 100000 in
theorem wt_J2_checkIndex_2214a : Cond.static yJ2_checkIndex_2214a ∈ WALL := wall 401 (by decide +kernel) rfl
set_option maxRecDepth 100000 in
theorem wl_J2_48 : Cond.methodLink RJ2 48 yJ2_length_9d52b ∈ WALL := wall 403 (by decide +kernel) rfl
set_option maxRecDepth 100000 in
theorem wt_J2_length_9d52b : Cond.static yJ2_length_9d52b ∈ WALL := wall 404 (by decide +kernel) rfl
set_option maxRecDepth 100000 in
theorem wl_J2_414 : Cond.methodLink RJ2 414 yJ0_checkIndex_df160 ∈ WALL := wall 406 (by decide +kernel) rfl
set_option maxRecDepth 100000 in
theorem wl_J2_71 : Cond.methodLink RJ2 71 yJ2_getChar_3b067 ∈ WALL := wall 407 (by decide +kernel) rfl
set_option maxRecDepth 100000 in
theorem wt_J2_getChar_3b067 : Cond.static yJ2_getChar_3b067 ∈ WALL := wall 408 (by decide +kernel) rfl
set_option maxRecDepth 100000 in
theorem wf_J2_44 : Cond.fieldLink RJ2 44 "java/lang/StringUTF16" "$assertionsDisabled" "Z" ∈ WALL := wall 410 (by decide +kernel) rfl
set_option maxRecDepth 100000 in
theorem wf_J2_59 : Cond.fieldLink RJ2 59 "java/lang/StringUTF16" "HI_BYTE_SHIFT" "I" ∈ WALL := wall 412 (by decide +kernel) rfl
set_option maxRecDepth 100000 in
theorem wf_J2_63 : Cond.fieldLink RJ2 63 "java/lang/StringUTF16" "LO_BYTE_SHIFT" "I" ∈ WALL := wall 414 (by decide +kernel) rfl
set_option maxRecDepth 100000 in
theorem wl_X4_59 : Cond.methodLink RX4 59 yX4_take ∈ WALL := wall 416 (by decide +kernel) rfl
set_option maxRecDepth 100000 in
theorem wi_X4_take : Cond.instanceMethod yX4_take ∈ WALL := wall 418 (by decide +kernel) rfl
set_option maxRecDepth 100000 in
theorem wl_X4_86 : Cond.methodLink RX4 86 yX4_readNumber ∈ WALL := wall 420 (by decide +kernel) rfl
set_option maxRecDepth 100000 in
theorem wi_X4_readNumber : Cond.instanceMethod yX4_readNumber ∈ WALL := wall 422 (by decide +kernel) rfl
set_option maxRecDepth 100000 in
theorem wl_X4_98 : Cond.methodLink RX4 98 yX4_takeOneOf ∈ WALL := wall 425 (by decide +kernel) rfl
set_option maxRecDepth 100000 in
theorem wi_X4_takeOneOf : Cond.instanceMethod yX4_takeOneOf ∈ WALL := wall 427 (by decide +kernel) rfl
set_option maxRecDepth 100000 in
theorem wl_X4_89 : Cond.methodLink RX4 89 yX4_readAny ∈ WALL := wall 429 (by decide +kernel) rfl
set_option maxRecDepth 100000 in
theorem wi_X4_readAny : Cond.instanceMethod yX4_readAny ∈ WALL := wall 431 (by decide +kernel) rfl
set_option maxRecDepth 100000 in
theorem wl_X4_102 : Cond.methodLink RX4 102 yX4_readBoth ∈ WALL := wall 433 (by decide +kernel) rfl
set_option maxRecDepth 100000 in
theorem wi_X4_readBoth : Cond.instanceMethod yX4_readBoth ∈ WALL := wall 435 (by decide +kernel) rfl
set_option maxRecDepth 100000 in
theorem wl_X4_108 : Cond.methodLink RX4 108 yX4_readFactor ∈ WALL := wall 437 (by decide +kernel) rfl
set_option maxRecDepth 100000 in
theorem wi_X4_readFactor : Cond.instanceMethod yX4_readFactor ∈ WALL := wall 439 (by decide +kernel) rfl
set_option maxRecDepth 100000 in
theorem wl_X4_111 : Cond.methodLink RX4 111 yX4_readTest ∈ WALL := wall 441 (by decide +kernel) rfl
set_option maxRecDepth 100000 in
theorem wi_X4_readTest : Cond.instanceMethod yX4_readTest ∈ WALL := wall 443 (by decide +kernel) rfl
set_option maxRecDepth 100000 in
theorem wl_X4_105 : Cond.methodLink RX4 105 yX4_keepCode ∈ WALL := wall 447 (by decide +kernel) rfl
set_option maxRecDepth 100000 in
theorem wi_X4_keepCode : Cond.instanceMethod yX4_keepCode ∈ WALL := wall 449 (by decide +kernel) rfl
set_option maxRecDepth 100000 in
theorem wl_X4_92 : Cond.methodLink RX4 92 yX4_keepClause ∈ WALL := wall 451 (by decide +kernel) rfl
set_option maxRecDepth 100000 in
theorem wi_X4_keepClause : Cond.instanceMethod yX4_keepClause ∈ WALL := wall 453 (by decide +kernel) rfl
set_option maxRecDepth 100000 in
theorem wl_X5_73 : Cond.methodLink RX5 73 yX5_forgetTowns ∈ WALL := wall 455 (by decide +kernel) rfl
set_option maxRecDepth 100000 in
theorem wi_X5_forgetTowns : Cond.instanceMethod yX5_forgetTowns ∈ WALL := wall 457 (by decide +kernel) rfl
set_option maxRecDepth 100000 in
theorem wi_X1_forgetTown : Cond.instanceMethod yX1_forgetTown ∈ WALL := wall 461 (by decide +kernel) rfl
set_option maxRecDepth 100000 in
theorem wl_X1_37 : Cond.methodLink RX1 37 yX1_forget ∈ WALL := wall 463 (by decide +kernel) rfl
set_option maxRecDepth 100000 in
theorem wi_X1_forget : Cond.instanceMethod yX1_forget ∈ WALL := wall 465 (by decide +kernel) rfl
set_option maxRecDepth 100000 in
theorem wa_byte : Cond.arrayClass .byte ∈ WALL := wall 467 (by decide +kernel) rfl
set_option maxRecDepth 100000 in
theorem wl_L_23 : Cond.methodLink RL 23 yX5_told ∈ WALL := wall 468 (by decide +kernel) rfl
set_option maxRecDepth 100000 in
theorem wi_X5_told : Cond.instanceMethod yX5_told ∈ WALL := wall 469 (by decide +kernel) rfl
set_option maxRecDepth 100000 in
theorem we_X5_told : Cond.selects RX5 yX5_told yX5_told ∈ WALL := wall 470 (by decide +kernel) rfl
set_option maxRecDepth 100000 in
theorem wl_X5_76 : Cond.methodLink RX5 76 yX5_newestTown ∈ WALL := wall 472 (by decide +kernel) rfl
set_option maxRecDepth 100000 in
theorem wi_X5_newestTown : Cond.instanceMethod yX5_newestTown ∈ WALL := wall 474 (by decide +kernel) rfl
set_option maxRecDepth 100000 in
theorem wl_L_27 : Cond.methodLink RL 27 yX5_person ∈ WALL := wall 476 (by decide +kernel) rfl
set_option maxRecDepth 100000 in
theorem wi_X5_person : Cond.instanceMethod yX5_person ∈ WALL := wall 477 (by decide +kernel) rfl
set_option maxRecDepth 100000 in
theorem we_X5_person : Cond.selects RX5 yX5_person yX5_person ∈ WALL := wall 478 (by decide +kernel) rfl
set_option maxRecDepth 100000 in
theorem wi_X2_join : Cond.instanceMethod yX2_join ∈ WALL := wall 482 (by decide +kernel) rfl
set_option maxRecDepth 100000 in
theorem wl_X2_29 : Cond.methodLink RX2 29 yX2_putNote ∈ WALL := wall 484 (by decide +kernel) rfl
set_option maxRecDepth 100000 in
theorem wi_X2_putNote : Cond.instanceMethod yX2_putNote ∈ WALL := wall 486 (by decide +kernel) rfl
set_option maxRecDepth 100000 in
theorem wl_L_32 : Cond.methodLink RL 32 yX5_of ∈ WALL := wall 489 (by decide +kernel) rfl
set_option maxRecDepth 100000 in
theorem wi_X5_of : Cond.instanceMethod yX5_of ∈ WALL := wall 490 (by decide +kernel) rfl
set_option maxRecDepth 100000 in
theorem we_X5_of : Cond.selects RX5 yX5_of yX5_of ∈ WALL := wall 491 (by decide +kernel) rfl
set_option maxRecDepth 100000 in
theorem wi_X2_has : Cond.instanceMethod yX2_has ∈ WALL := wall 495 (by decide +kernel) rfl
set_option maxRecDepth 100000 in
theorem wi_X2_noteOf : Cond.instanceMethod yX2_noteOf ∈ WALL := wall 499 (by decide +kernel) rfl
set_option maxRecDepth 100000 in
theorem wl_L_36 : Cond.methodLink RL 36 yX5_row ∈ WALL := wall 501 (by decide +kernel) rfl
set_option maxRecDepth 100000 in
theorem wi_X5_row : Cond.instanceMethod yX5_row ∈ WALL := wall 502 (by decide +kernel) rfl
set_option maxRecDepth 100000 in
theorem we_X5_row : Cond.selects RX5 yX5_row yX5_row ∈ WALL := wall 503 (by decide +kernel) rfl
set_option maxRecDepth 100000 in
theorem wl_L_40 : Cond.methodLink RL 40 yX5_note ∈ WALL := wall 505 (by decide +kernel) rfl
set_option maxRecDepth 100000 in
theorem wi_X5_note : Cond.instanceMethod yX5_note ∈ WALL := wall 506 (by decide +kernel) rfl
set_option maxRecDepth 100000 in
theorem we_X5_note : Cond.selects RX5 yX5_note yX5_note ∈ WALL := wall 507 (by decide +kernel) rfl
set_option maxRecDepth 100000 in
theorem wl_L_45 : Cond.methodLink RL 45 yX5_yesterday ∈ WALL := wall 510 (by decide +kernel) rfl
set_option maxRecDepth 100000 in
theorem wi_X5_yesterday : Cond.instanceMethod yX5_yesterday ∈ WALL := wall 511 (by decide +kernel) rfl
set_option maxRecDepth 100000 in
theorem we_X5_yesterday : Cond.selects RX5 yX5_yesterday yX5_yesterday ∈ WALL := wall 512 (by decide +kernel) rfl
set_option maxRecDepth 100000 in
theorem wi_X2_isDay : Cond.instanceMethod yX2_isDay ∈ WALL := wall 516 (by decide +kernel) rfl
set_option maxRecDepth 100000 in
theorem wl_X2_25 : Cond.methodLink RX2 25 yX2_allDays ∈ WALL := wall 518 (by decide +kernel) rfl
set_option maxRecDepth 100000 in
theorem wi_X2_allDays : Cond.instanceMethod yX2_allDays ∈ WALL := wall 520 (by decide +kernel) rfl
set_option maxRecDepth 100000 in
theorem wl_L_49 : Cond.methodLink RL 49 yX5_by ∈ WALL := wall 522 (by decide +kernel) rfl
set_option maxRecDepth 100000 in
theorem wi_X5_by : Cond.instanceMethod yX5_by ∈ WALL := wall 523 (by decide +kernel) rfl
set_option maxRecDepth 100000 in
theorem we_X5_by : Cond.selects RX5 yX5_by yX5_by ∈ WALL := wall 524 (by decide +kernel) rfl
set_option maxRecDepth 100000 in
theorem wl_X5_120 : Cond.methodLink RX5 120 yX5_isHour ∈ WALL := wall 526 (by decide +kernel) rfl
set_option maxRecDepth 100000 in
theorem wt_X5_isHour : Cond.static yX5_isHour ∈ WALL := wall 527 (by decide +kernel) rfl
set_option maxRecDepth 100000 in
theorem wi_X1_prepare : Cond.instanceMethod yX1_prepare ∈ WALL := wall 531 (by decide +kernel) rfl
set_option maxRecDepth 100000 in
theorem wl_X1_46 : Cond.methodLink RX1 46 yX1_fillWorths ∈ WALL := wall 533 (by decide +kernel) rfl
set_option maxRecDepth 100000 in
theorem wi_X1_fillWorths : Cond.instanceMethod yX1_fillWorths ∈ WALL := wall 535 (by decide +kernel) rfl
set_option maxRecDepth 100000 in
theorem wi_X4_worth : Cond.instanceMethod yX4_worth ∈ WALL := wall 539 (by decide +kernel) rfl
set_option maxRecDepth 100000 in
theorem wl_X4_118 : Cond.methodLink RX4 118 yX4_holds ∈ WALL := wall 541 (by decide +kernel) rfl
set_option maxRecDepth 100000 in
theorem wi_X4_holds : Cond.instanceMethod yX4_holds ∈ WALL := wall 543 (by decide +kernel) rfl
set_option maxRecDepth 100000 in
theorem wl_X4_122 : Cond.methodLink RX4 122 yX4_passes ∈ WALL := wall 545 (by decide +kernel) rfl
set_option maxRecDepth 100000 in
theorem wt_X4_passes : Cond.static yX4_passes ∈ WALL := wall 546 (by decide +kernel) rfl
set_option maxRecDepth 100000 in
theorem wl_X1_53 : Cond.methodLink RX1 53 yX1_sightOf ∈ WALL := wall 548 (by decide +kernel) rfl
set_option maxRecDepth 100000 in
theorem wi_X1_sightOf : Cond.instanceMethod yX1_sightOf ∈ WALL := wall 550 (by decide +kernel) rfl
set_option maxRecDepth 100000 in
theorem wt_X5_ownRow : Cond.static yX5_ownRow ∈ WALL := wall 553 (by decide +kernel) rfl
set_option maxRecDepth 100000 in
theorem wl_X1_73 : Cond.methodLink RX1 73 yJ6_bitCount_0f7a4 ∈ WALL := wall 555 (by decide +kernel) rfl
set_option maxRecDepth 100000 in
theorem wt_J6_bitCount_0f7a4 : Cond.static yJ6_bitCount_0f7a4 ∈ WALL := wall 556 (by decide +kernel) rfl
set_option maxRecDepth 100000 in
theorem wk_J6_265 : Cond.constant RJ6 265 (1431655765 : Int32) ∈ WALL := wall 558 (by decide +kernel) rfl
set_option maxRecDepth 100000 in
theorem wk_J6_266 : Cond.constant RJ6 266 (858993459 : Int32) ∈ WALL := wall 559 (by decide +kernel) rfl
set_option maxRecDepth 100000 in
theorem wk_J6_267 : Cond.constant RJ6 267 (252645135 : Int32) ∈ WALL := wall 560 (by decide +kernel) rfl
set_option maxRecDepth 100000 in
theorem wl_X1_60 : Cond.methodLink RX1 60 yX1_rowAt ∈ WALL := wall 561 (by decide +kernel) rfl
set_option maxRecDepth 100000 in
theorem wi_X1_rowAt : Cond.instanceMethod yX1_rowAt ∈ WALL := wall 563 (by decide +kernel) rfl
set_option maxRecDepth 100000 in
theorem wl_X1_90 : Cond.methodLink RX1 90 yX1_bestRow ∈ WALL := wall 565 (by decide +kernel) rfl
set_option maxRecDepth 100000 in
theorem wi_X1_bestRow : Cond.instanceMethod yX1_bestRow ∈ WALL := wall 567 (by decide +kernel) rfl
set_option maxRecDepth 100000 in
theorem wl_X1_97 : Cond.methodLink RX1 97 yX1_gain ∈ WALL := wall 569 (by decide +kernel) rfl
set_option maxRecDepth 100000 in
theorem wi_X1_gain : Cond.instanceMethod yX1_gain ∈ WALL := wall 571 (by decide +kernel) rfl
set_option maxRecDepth 100000 in
theorem wt_X5_bit : Cond.static yX5_bit ∈ WALL := wall 574 (by decide +kernel) rfl
set_option maxRecDepth 100000 in
theorem wl_X1_85 : Cond.methodLink RX1 85 yX1_worth ∈ WALL := wall 576 (by decide +kernel) rfl
set_option maxRecDepth 100000 in
theorem wi_X1_worth : Cond.instanceMethod yX1_worth ∈ WALL := wall 578 (by decide +kernel) rfl
set_option maxRecDepth 100000 in
theorem wl_X1_93 : Cond.methodLink RX1 93 yX1_would ∈ WALL := wall 580 (by decide +kernel) rfl
set_option maxRecDepth 100000 in
theorem wi_X1_would : Cond.instanceMethod yX1_would ∈ WALL := wall 582 (by decide +kernel) rfl
set_option maxRecDepth 100000 in
theorem wi_X1_answerOf : Cond.instanceMethod yX1_answerOf ∈ WALL := wall 588 (by decide +kernel) rfl
set_option maxRecDepth 100000 in
theorem wl_X5_137 : Cond.methodLink RX5 137 yX5_bit ∈ WALL := wall 591 (by decide +kernel) rfl
set_option maxRecDepth 100000 in
theorem wl_L_54 : Cond.methodLink RL 54 yX5_day ∈ WALL := wall 593 (by decide +kernel) rfl
set_option maxRecDepth 100000 in
theorem wi_X5_day : Cond.instanceMethod yX5_day ∈ WALL := wall 594 (by decide +kernel) rfl
set_option maxRecDepth 100000 in
theorem we_X5_day : Cond.selects RX5 yX5_day yX5_day ∈ WALL := wall 595 (by decide +kernel) rfl
set_option maxRecDepth 100000 in
theorem wi_X1_firstOtherwise : Cond.instanceMethod yX1_firstOtherwise ∈ WALL := wall 599 (by decide +kernel) rfl
set_option maxRecDepth 100000 in
theorem wl_X1_107 : Cond.methodLink RX1 107 yX1_answerOf ∈ WALL := wall 601 (by decide +kernel) rfl
set_option maxRecDepth 100000 in
theorem wi_X1_answer : Cond.instanceMethod yX1_answer ∈ WALL := wall 604 (by decide +kernel) rfl
set_option maxRecDepth 100000 in
theorem wi_X1_gainOfAll : Cond.instanceMethod yX1_gainOfAll ∈ WALL := wall 608 (by decide +kernel) rfl
set_option maxRecDepth 100000 in
theorem wl_L_58 : Cond.methodLink RL 58 yX5_all ∈ WALL := wall 610 (by decide +kernel) rfl
set_option maxRecDepth 100000 in
theorem wi_X5_all : Cond.instanceMethod yX5_all ∈ WALL := wall 611 (by decide +kernel) rfl
set_option maxRecDepth 100000 in
theorem we_X5_all : Cond.selects RX5 yX5_all yX5_all ∈ WALL := wall 612 (by decide +kernel) rfl
set_option maxRecDepth 100000 in
theorem wl_X5_152 : Cond.methodLink RX5 152 yX5_searchNow ∈ WALL := wall 614 (by decide +kernel) rfl
set_option maxRecDepth 100000 in
theorem wi_X5_searchNow : Cond.instanceMethod yX5_searchNow ∈ WALL := wall 616 (by decide +kernel) rfl
set_option maxRecDepth 100000 in
theorem wi_X1_search : Cond.instanceMethod yX1_search ∈ WALL := wall 620 (by decide +kernel) rfl
set_option maxRecDepth 100000 in
theorem wl_X1_129 : Cond.methodLink RX1 129 yX1_stands ∈ WALL := wall 623 (by decide +kernel) rfl
set_option maxRecDepth 100000 in
theorem wi_X1_stands : Cond.instanceMethod yX1_stands ∈ WALL := wall 625 (by decide +kernel) rfl
set_option maxRecDepth 100000 in
theorem wl_X1_110 : Cond.methodLink RX1 110 yX1_firstOtherwise ∈ WALL := wall 627 (by decide +kernel) rfl
set_option maxRecDepth 100000 in
theorem wl_X1_132 : Cond.methodLink RX1 132 yX1_addStanding ∈ WALL := wall 628 (by decide +kernel) rfl
set_option maxRecDepth 100000 in
theorem wi_X1_addStanding : Cond.instanceMethod yX1_addStanding ∈ WALL := wall 630 (by decide +kernel) rfl
set_option maxRecDepth 100000 in
theorem wl_X1_136 : Cond.methodLink RX1 136 yX1_gainOfAll ∈ WALL := wall 632 (by decide +kernel) rfl
set_option maxRecDepth 100000 in
theorem wl_L_62 : Cond.methodLink RL 62 yX5_once ∈ WALL := wall 633 (by decide +kernel) rfl
set_option maxRecDepth 100000 in
theorem wi_X5_once : Cond.instanceMethod yX5_once ∈ WALL := wall 634 (by decide +kernel) rfl
set_option maxRecDepth 100000 in
theorem we_X5_once : Cond.selects RX5 yX5_once yX5_once ∈ WALL := wall 635 (by decide +kernel) rfl
set_option maxRecDepth 100000 in
theorem wl_X5_170 : Cond.methodLink RX5 170 yX5_isPart ∈ WALL := wall 637 (by decide +kernel) rfl
set_option maxRecDepth 100000 in
theorem wt_X5_isPart : Cond.static yX5_isPart ∈ WALL := wall 638 (by decide +kernel) rfl
set_option maxRecDepth 100000 in
theorem wl_L_66 : Cond.methodLink RL 66 yX5_again ∈ WALL := wall 641 (by decide +kernel) rfl
set_option maxRecDepth 100000 in
theorem wi_X5_again : Cond.instanceMethod yX5_again ∈ WALL := wall 642 (by decide +kernel) rfl
set_option maxRecDepth 100000 in
theorem we_X5_again : Cond.selects RX5 yX5_again yX5_again ∈ WALL := wall 643 (by decide +kernel) rfl
set_option maxRecDepth 100000 in
theorem wl_X5_176 : Cond.methodLink RX5 176 yX5_placeOnPath ∈ WALL := wall 645 (by decide +kernel) rfl
set_option maxRecDepth 100000 in
theorem wi_X5_placeOnPath : Cond.instanceMethod yX5_placeOnPath ∈ WALL := wall 647 (by decide +kernel) rfl
set_option maxRecDepth 100000 in
theorem wl_L_70 : Cond.methodLink RL 70 yX5_morning ∈ WALL := wall 649 (by decide +kernel) rfl
set_option maxRecDepth 100000 in
theorem wi_X5_morning : Cond.instanceMethod yX5_morning ∈ WALL := wall 650 (by decide +kernel) rfl
set_option maxRecDepth 100000 in
theorem we_X5_morning : Cond.selects RX5 yX5_morning yX5_morning ∈ WALL := wall 651 (by decide +kernel) rfl
set_option maxRecDepth 100000 in
theorem wi_X1_comingDay : Cond.instanceMethod yX1_comingDay ∈ WALL := wall 655 (by decide +kernel) rfl
set_option maxRecDepth 100000 in
theorem wl_X1_142 : Cond.methodLink RX1 142 yX1_answer ∈ WALL := wall 657 (by decide +kernel) rfl
set_option maxRecDepth 100000 in
theorem wi_X2_endMorning : Cond.instanceMethod yX2_endMorning ∈ WALL := wall 660 (by decide +kernel) rfl
set_option maxRecDepth 100000 in
theorem wl_X2_47 : Cond.methodLink RX2 47 yJ6_bitCount_0f7a4 ∈ WALL := wall 663 (by decide +kernel) rfl
set_option maxRecDepth 100000 in
theorem wl_L_74 : Cond.methodLink RL 74 yX5_year ∈ WALL := wall 664 (by decide +kernel) rfl
set_option maxRecDepth 100000 in
theorem wi_X5_year : Cond.instanceMethod yX5_year ∈ WALL := wall 665 (by decide +kernel) rfl
set_option maxRecDepth 100000 in
theorem we_X5_year : Cond.selects RX5 yX5_year yX5_year ∈ WALL := wall 666 (by decide +kernel) rfl
set_option maxRecDepth 100000 in
theorem wi_X2_become : Cond.instanceMethod yX2_become ∈ WALL := wall 670 (by decide +kernel) rfl
set_option maxRecDepth 100000 in
theorem wl_X2_53 : Cond.methodLink RX2 53 arraycopyName ∈ WALL := wall 672 (by decide +kernel) rfl
set_option maxRecDepth 100000 in
theorem wl_X5_191 : Cond.methodLink RX5 191 yX5_searchThen ∈ WALL := wall 673 (by decide +kernel) rfl
set_option maxRecDepth 100000 in
theorem wi_X5_searchThen : Cond.instanceMethod yX5_searchThen ∈ WALL := wall 675 (by decide +kernel) rfl
set_option maxRecDepth 100000 in
theorem wl_L_78 : Cond.methodLink RL 78 yX5_bet ∈ WALL := wall 677 (by decide +kernel) rfl
set_option maxRecDepth 100000 in
theorem wi_X5_bet : Cond.instanceMethod yX5_bet ∈ WALL := wall 678 (by decide +kernel) rfl
set_option maxRecDepth 100000 in
theorem we_X5_bet : Cond.selects RX5 yX5_bet yX5_bet ∈ WALL := wall 679 (by decide +kernel) rfl
set_option maxRecDepth 100000 in
theorem wi_X1_stoodWith : Cond.instanceMethod yX1_stoodWith ∈ WALL := wall 683 (by decide +kernel) rfl
set_option maxRecDepth 100000 in
theorem wl_X5_197 : Cond.methodLink RX5 197 yX5_commonDivisor ∈ WALL := wall 685 (by decide +kernel) rfl
set_option maxRecDepth 100000 in
theorem wt_X5_commonDivisor : Cond.static yX5_commonDivisor ∈ WALL := wall 686 (by decide +kernel) rfl
set_option maxRecDepth 100000 in
theorem wl_X5_200 : Cond.methodLink RX5 200 yJ9_max_7cf53 ∈ WALL := wall 688 (by decide +kernel) rfl
set_option maxRecDepth 100000 in
theorem wl_L_83 : Cond.methodLink RL 83 yX5_sure ∈ WALL := wall 689 (by decide +kernel) rfl
set_option maxRecDepth 100000 in
theorem wi_X5_sure : Cond.instanceMethod yX5_sure ∈ WALL := wall 690 (by decide +kernel) rfl
set_option maxRecDepth 100000 in
theorem we_X5_sure : Cond.selects RX5 yX5_sure yX5_sure ∈ WALL := wall 691 (by decide +kernel) rfl
set_option maxRecDepth 100000 in
theorem wl_X5_208 : Cond.methodLink RX5 208 yJ6_bitCount_0f7a4 ∈ WALL := wall 693 (by decide +kernel) rfl
set_option maxRecDepth 100000 in
theorem wl_X5_213 : Cond.methodLink RX5 213 yX5_tellThen ∈ WALL := wall 694 (by decide +kernel) rfl
set_option maxRecDepth 100000 in
theorem wi_X5_tellThen : Cond.instanceMethod yX5_tellThen ∈ WALL := wall 696 (by decide +kernel) rfl
set_option maxRecDepth 100000 in
theorem wl_X5_217 : Cond.methodLink RX5 217 yX5_ownRow ∈ WALL := wall 698 (by decide +kernel) rfl
set_option maxRecDepth 100000 in
theorem wl_L_87 : Cond.methodLink RL 87 yX5_secret ∈ WALL := wall 699 (by decide +kernel) rfl
set_option maxRecDepth 100000 in
theorem wi_X5_secret : Cond.instanceMethod yX5_secret ∈ WALL := wall 700 (by decide +kernel) rfl
set_option maxRecDepth 100000 in
theorem we_X5_secret : Cond.selects RX5 yX5_secret yX5_secret ∈ WALL := wall 701 (by decide +kernel) rfl
set_option maxRecDepth 100000 in
theorem wl_L_91 : Cond.methodLink RL 91 yX5_swap ∈ WALL := wall 703 (by decide +kernel) rfl
set_option maxRecDepth 100000 in
theorem wi_X5_swap : Cond.instanceMethod yX5_swap ∈ WALL := wall 704 (by decide +kernel) rfl
set_option maxRecDepth 100000 in
theorem we_X5_swap : Cond.selects RX5 yX5_swap yX5_swap ∈ WALL := wall 705 (by decide +kernel) rfl
set_option maxRecDepth 100000 in
theorem wi_X2_exchange : Cond.instanceMethod yX2_exchange ∈ WALL := wall 709 (by decide +kernel) rfl
set_option maxRecDepth 100000 in
theorem wl_X2_36 : Cond.methodLink RX2 36 yX2_has ∈ WALL := wall 711 (by decide +kernel) rfl
set_option maxRecDepth 100000 in
theorem wl_X5_223 : Cond.methodLink RX5 223 yX5_wouldRather ∈ WALL := wall 712 (by decide +kernel) rfl
set_option maxRecDepth 100000 in
theorem wi_X5_wouldRather : Cond.instanceMethod yX5_wouldRather ∈ WALL := wall 714 (by decide +kernel) rfl
set_option maxRecDepth 100000 in
theorem wl_X5_262 : Cond.methodLink RX5 262 yX5_isBetterThen ∈ WALL := wall 716 (by decide +kernel) rfl
set_option maxRecDepth 100000 in
theorem wi_X5_isBetterThen : Cond.instanceMethod yX5_isBetterThen ∈ WALL := wall 718 (by decide +kernel) rfl
set_option maxRecDepth 100000 in
theorem wl_L_95 : Cond.methodLink RL 95 yX5_book ∈ WALL := wall 720 (by decide +kernel) rfl
set_option maxRecDepth 100000 in
theorem wi_X5_book : Cond.instanceMethod yX5_book ∈ WALL := wall 721 (by decide +kernel) rfl
set_option maxRecDepth 100000 in
theorem we_X5_book : Cond.selects RX5 yX5_book yX5_book ∈ WALL := wall 722 (by decide +kernel) rfl
set_option maxRecDepth 100000 in
theorem wl_L_99 : Cond.methodLink RL 99 yX5_looked ∈ WALL := wall 724 (by decide +kernel) rfl
set_option maxRecDepth 100000 in
theorem wi_X5_looked : Cond.instanceMethod yX5_looked ∈ WALL := wall 725 (by decide +kernel) rfl
set_option maxRecDepth 100000 in
theorem we_X5_looked : Cond.selects RX5 yX5_looked yX5_looked ∈ WALL := wall 726 (by decide +kernel) rfl
set_option maxRecDepth 100000 in
theorem wl_L_103 : Cond.methodLink RL 103 yX5_act ∈ WALL := wall 728 (by decide +kernel) rfl
set_option maxRecDepth 100000 in
theorem wi_X5_act : Cond.instanceMethod yX5_act ∈ WALL := wall 729 (by decide +kernel) rfl
set_option maxRecDepth 100000 in
theorem we_X5_act : Cond.selects RX5 yX5_act yX5_act ∈ WALL := wall 730 (by decide +kernel) rfl
set_option maxRecDepth 100000 in
theorem wi_X0_clear : Cond.instanceMethod yX0_clear ∈ WALL := wall 734 (by decide +kernel) rfl
set_option maxRecDepth 100000 in
theorem wi_X0_start : Cond.instanceMethod yX0_start ∈ WALL := wall 738 (by decide +kernel) rfl
set_option maxRecDepth 100000 in
theorem wl_X0_38 : Cond.methodLink RX0 38 yX0_ask ∈ WALL := wall 741 (by decide +kernel) rfl
set_option maxRecDepth 100000 in
theorem wi_X0_ask : Cond.instanceMethod yX0_ask ∈ WALL := wall 743 (by decide +kernel) rfl
set_option maxRecDepth 100000 in
theorem wl_X0_48 : Cond.methodLink RX0 48 yX0_bodyOf ∈ WALL := wall 745 (by decide +kernel) rfl
set_option maxRecDepth 100000 in
theorem wt_X0_bodyOf : Cond.static yX0_bodyOf ∈ WALL := wall 746 (by decide +kernel) rfl
set_option maxRecDepth 100000 in
theorem wf_X0_42 : Cond.fieldLink RX0 42 "DayKnown$Acts" "BODY" "[I" ∈ WALL := wall 748 (by decide +kernel) rfl
set_option maxRecDepth 100000 in
theorem wl_X0_52 : Cond.methodLink RX0 52 yX0_begin ∈ WALL := wall 752 (by decide +kernel) rfl
set_option maxRecDepth 100000 in
theorem wi_X0_begin : Cond.instanceMethod yX0_begin ∈ WALL := wall 754 (by decide +kernel) rfl
set_option maxRecDepth 100000 in
theorem wl_L_107 : Cond.methodLink RL 107 yX5_trace ∈ WALL := wall 756 (by decide +kernel) rfl
set_option maxRecDepth 100000 in
theorem wi_X5_trace : Cond.instanceMethod yX5_trace ∈ WALL := wall 757 (by decide +kernel) rfl
set_option maxRecDepth 100000 in
theorem we_X5_trace : Cond.selects RX5 yX5_trace yX5_trace ∈ WALL := wall 758 (by decide +kernel) rfl
set_option maxRecDepth 100000 in
theorem wl_L_111 : Cond.methodLink RL 111 yX5_as ∈ WALL := wall 760 (by decide +kernel) rfl
set_option maxRecDepth 100000 in
theorem wi_X5_as : Cond.instanceMethod yX5_as ∈ WALL := wall 761 (by decide +kernel) rfl
set_option maxRecDepth 100000 in
theorem we_X5_as : Cond.selects RX5 yX5_as yX5_as ∈ WALL := wall 762 (by decide +kernel) rfl
set_option maxRecDepth 100000 in
theorem wf_X5_246 : Cond.fieldLink RX5 246 "DayKnown" "KIND_ABOVE" "[I" ∈ WALL := wall 764 (by decide +kernel) rfl
set_option maxRecDepth 100000 in
theorem wl_L_115 : Cond.methodLink RL 115 yX5_image ∈ WALL := wall 765 (by decide +kernel) rfl
set_option maxRecDepth 100000 in
theorem wi_X5_image : Cond.instanceMethod yX5_image ∈ WALL := wall 766 (by decide +kernel) rfl
set_option maxRecDepth 100000 in
theorem we_X5_image : Cond.selects RX5 yX5_image yX5_image ∈ WALL := wall 767 (by decide +kernel) rfl
set_option maxRecDepth 100000 in
theorem wi_X3_become : Cond.instanceMethod yX3_become ∈ WALL := wall 771 (by decide +kernel) rfl
set_option maxRecDepth 100000 in
theorem wl_X3_29 : Cond.methodLink RX3 29 arraycopyName ∈ WALL := wall 774 (by decide +kernel) rfl
set_option maxRecDepth 100000 in
theorem wl_L_119 : Cond.methodLink RL 119 yX5_undo ∈ WALL := wall 775 (by decide +kernel) rfl
set_option maxRecDepth 100000 in
theorem wi_X5_undo : Cond.instanceMethod yX5_undo ∈ WALL := wall 776 (by decide +kernel) rfl
set_option maxRecDepth 100000 in
theorem we_X5_undo : Cond.selects RX5 yX5_undo yX5_undo ∈ WALL := wall 777 (by decide +kernel) rfl
set_option maxRecDepth 100000 in
theorem wl_L_123 : Cond.methodLink RL 123 yX5_count ∈ WALL := wall 779 (by decide +kernel) rfl
set_option maxRecDepth 100000 in
theorem wi_X5_count : Cond.instanceMethod yX5_count ∈ WALL := wall 780 (by decide +kernel) rfl
set_option maxRecDepth 100000 in
theorem we_X5_count : Cond.selects RX5 yX5_count yX5_count ∈ WALL := wall 781 (by decide +kernel) rfl
set_option maxRecDepth 100000 in
theorem wcl_L_10 : Cond.classLink RL 10 "DayKnownModel" ∈ WALL := wall 783 (by decide +kernel) rfl
set_option maxRecDepth 100000 in
theorem wn_X6 : Cond.instantiable RX6 28 ∈ WALL := wall 784 (by decide +kernel) rfl
set_option maxRecDepth 100000 in
theorem wl_L_12 : Cond.methodLink RL 12 yX6_init ∈ WALL := wall 785 (by decide +kernel) rfl
set_option maxRecDepth 100000 in
theorem wi_X6_init : Cond.instanceMethod yX6_init ∈ WALL := wall 786 (by decide +kernel) rfl
set_option maxRecDepth 100000 in
theorem wl_X6_1 : Cond.methodLink RX6 1 Lib.objectInit ∈ WALL := wall 788 (by decide +kernel) rfl
set_option maxRecDepth 100000 in
theorem wf_X6_7 : Cond.fieldLink RX6 7 "DayKnownModel" "s" "[I" ∈ WALL := wall 789 (by decide +kernel) rfl
set_option maxRecDepth 100000 in
theorem wf_X6_13 : Cond.fieldLink RX6 13 "DayKnownModel" "image" "[I" ∈ WALL := wall 790 (by decide +kernel) rfl
set_option maxRecDepth 100000 in
theorem wf_X6_268 : Cond.fieldLink RX6 268 "DayKnownModel" "hasImage" "Z" ∈ WALL := wall 791 (by decide +kernel) rfl
set_option maxRecDepth 100000 in
theorem wf_X6_79 : Cond.fieldLink RX6 79 "DayKnownModel" "act" "I" ∈ WALL := wall 792 (by decide +kernel) rfl
set_option maxRecDepth 100000 in
theorem wf_X6_53 : Cond.fieldLink RX6 53 "DayKnownModel" "spot" "I" ∈ WALL := wall 793 (by decide +kernel) rfl
set_option maxRecDepth 100000 in
theorem wf_X6_56 : Cond.fieldLink RX6 56 "DayKnownModel" "end" "I" ∈ WALL := wall 794 (by decide +kernel) rfl
set_option maxRecDepth 100000 in
theorem wf_X6_59 : Cond.fieldLink RX6 59 "DayKnownModel" "isWrong" "Z" ∈ WALL := wall 795 (by decide +kernel) rfl
set_option maxRecDepth 100000 in
theorem wf_X6_82 : Cond.fieldLink RX6 82 "DayKnownModel" "open" "I" ∈ WALL := wall 796 (by decide +kernel) rfl
set_option maxRecDepth 100000 in
theorem wf_X6_16 : Cond.fieldLink RX6 16 "DayKnownModel" "by" "[I" ∈ WALL := wall 797 (by decide +kernel) rfl
set_option maxRecDepth 100000 in
theorem wf_X6_19 : Cond.fieldLink RX6 19 "DayKnownModel" "truths" "[Z" ∈ WALL := wall 798 (by decide +kernel) rfl
set_option maxRecDepth 100000 in
theorem wf_X6_23 : Cond.fieldLink RX6 23 "DayKnownModel" "table" "[I" ∈ WALL := wall 799 (by decide +kernel) rfl
set_option maxRecDepth 100000 in
theorem wf_X6_26 : Cond.fieldLink RX6 26 "DayKnownModel" "bests" "[I" ∈ WALL := wall 800 (by decide +kernel) rfl
set_option maxRecDepth 100000 in
theorem wf_X6_132 : Cond.fieldLink RX6 132 "DayKnownModel" "times" "I" ∈ WALL := wall 801 (by decide +kernel) rfl
set_option maxRecDepth 100000 in
theorem wf_X6_190 : Cond.fieldLink RX6 190 "DayKnownModel" "standing" "I" ∈ WALL := wall 802 (by decide +kernel) rfl
set_option maxRecDepth 100000 in
theorem wf_X6_193 : Cond.fieldLink RX6 193 "DayKnownModel" "leastDay" "I" ∈ WALL := wall 803 (by decide +kernel) rfl
set_option maxRecDepth 100000 in
theorem wf_X6_196 : Cond.fieldLink RX6 196 "DayKnownModel" "greatestDay" "I" ∈ WALL := wall 804 (by decide +kernel) rfl
set_option maxRecDepth 100000 in
theorem wf_X6_199 : Cond.fieldLink RX6 199 "DayKnownModel" "chosen" "I" ∈ WALL := wall 805 (by decide +kernel) rfl
set_option maxRecDepth 100000 in
theorem wf_X6_202 : Cond.fieldLink RX6 202 "DayKnownModel" "chosenGain" "I" ∈ WALL := wall 806 (by decide +kernel) rfl
set_option maxRecDepth 100000 in
theorem wf_X6_29 : Cond.fieldLink RX6 29 "DayKnownModel" "came" "[I" ∈ WALL := wall 807 (by decide +kernel) rfl
set_option maxRecDepth 100000 in
theorem wf_X6_211 : Cond.fieldLink RX6 211 "DayKnownModel" "dayGain" "I" ∈ WALL := wall 808 (by decide +kernel) rfl
set_option maxRecDepth 100000 in
theorem wf_X6_32 : Cond.fieldLink RX6 32 "DayKnownModel" "noteKept" "[I" ∈ WALL := wall 809 (by decide +kernel) rfl
set_option maxRecDepth 100000 in
theorem wf_X6_35 : Cond.fieldLink RX6 35 "DayKnownModel" "kept" "[I" ∈ WALL := wall 810 (by decide +kernel) rfl
set_option maxRecDepth 100000 in
theorem wf_X6_38 : Cond.fieldLink RX6 38 "DayKnownModel" "bodies" "[I" ∈ WALL := wall 811 (by decide +kernel) rfl
set_option maxRecDepth 100000 in
theorem wf_X6_232 : Cond.fieldLink RX6 232 "DayKnownModel" "ran" "I" ∈ WALL := wall 812 (by decide +kernel) rfl
set_option maxRecDepth 100000 in
theorem wf_X6_241 : Cond.fieldLink RX6 241 "DayKnownModel" "kind" "I" ∈ WALL := wall 813 (by decide +kernel) rfl
set_option maxRecDepth 100000 in
theorem wf_X6_238 : Cond.fieldLink RX6 238 "DayKnownModel" "number" "I" ∈ WALL := wall 814 (by decide +kernel) rfl
set_option maxRecDepth 100000 in
theorem wf_X6_250 : Cond.fieldLink RX6 250 "DayKnownModel" "tellsV" "I" ∈ WALL := wall 815 (by decide +kernel) rfl
set_option maxRecDepth 100000 in
theorem wa_boolean : Cond.arrayClass .boolean ∈ WALL := wall 873 (by decide +kernel) rfl
set_option maxRecDepth 100000 in
theorem wl_L_17 : Cond.methodLink RL 17 yX6_feed ∈ WALL := wall 874 (by decide +kernel) rfl
set_option maxRecDepth 100000 in
theorem wi_X6_feed : Cond.instanceMethod yX6_feed ∈ WALL := wall 875 (by decide +kernel) rfl
set_option maxRecDepth 100000 in
theorem we_X6_feed : Cond.selects RX6 yX6_feed yX6_feed ∈ WALL := wall 876 (by decide +kernel) rfl
set_option maxRecDepth 100000 in
theorem wl_X6_45 : Cond.methodLink RX6 45 yX6_in ∈ WALL := wall 878 (by decide +kernel) rfl
set_option maxRecDepth 100000 in
theorem wt_X6_in : Cond.static yX6_in ∈ WALL := wall 879 (by decide +kernel) rfl
set_option maxRecDepth 100000 in
theorem wl_L_22 : Cond.methodLink RL 22 yX6_town ∈ WALL := wall 881 (by decide +kernel) rfl
set_option maxRecDepth 100000 in
theorem wi_X6_town : Cond.instanceMethod yX6_town ∈ WALL := wall 882 (by decide +kernel) rfl
set_option maxRecDepth 100000 in
theorem we_X6_town : Cond.selects RX6 yX6_town yX6_town ∈ WALL := wall 883 (by decide +kernel) rfl
set_option maxRecDepth 100000 in
theorem wl_X6_122 : Cond.methodLink RX6 122 yX6_clauseHere ∈ WALL := wall 885 (by decide +kernel) rfl
set_option maxRecDepth 100000 in
theorem wi_X6_clauseHere : Cond.instanceMethod yX6_clauseHere ∈ WALL := wall 887 (by decide +kernel) rfl
set_option maxRecDepth 100000 in
theorem wl_X6_63 : Cond.methodLink RX6 63 yX6_here ∈ WALL := wall 889 (by decide +kernel) rfl
set_option maxRecDepth 100000 in
theorem wi_X6_here : Cond.instanceMethod yX6_here ∈ WALL := wall 891 (by decide +kernel) rfl
set_option maxRecDepth 100000 in
theorem wl_X6_114 : Cond.methodLink RX6 114 yX6_much ∈ WALL := wall 894 (by decide +kernel) rfl
set_option maxRecDepth 100000 in
theorem wi_X6_much : Cond.instanceMethod yX6_much ∈ WALL := wall 896 (by decide +kernel) rfl
set_option maxRecDepth 100000 in
theorem wl_X6_108 : Cond.methodLink RX6 108 yX6_spells ∈ WALL := wall 898 (by decide +kernel) rfl
set_option maxRecDepth 100000 in
theorem wi_X6_spells : Cond.instanceMethod yX6_spells ∈ WALL := wall 900 (by decide +kernel) rfl
set_option maxRecDepth 100000 in
theorem wl_X6_66 : Cond.methodLink RX6 66 yJ0_length_8abf5 ∈ WALL := wall 902 (by decide +kernel) rfl
set_option maxRecDepth 100000 in
theorem wl_X6_71 : Cond.methodLink RX6 71 yJ0_charAt_5068e ∈ WALL := wall 903 (by decide +kernel) rfl
set_option maxRecDepth 100000 in
theorem wl_X6_75 : Cond.methodLink RX6 75 yX6_must ∈ WALL := wall 904 (by decide +kernel) rfl
set_option maxRecDepth 100000 in
theorem wi_X6_must : Cond.instanceMethod yX6_must ∈ WALL := wall 906 (by decide +kernel) rfl
set_option maxRecDepth 100000 in
theorem wl_X6_102 : Cond.methodLink RX6 102 yX6_figures ∈ WALL := wall 908 (by decide +kernel) rfl
set_option maxRecDepth 100000 in
theorem wi_X6_figures : Cond.instanceMethod yX6_figures ∈ WALL := wall 910 (by decide +kernel) rfl
set_option maxRecDepth 100000 in
theorem wl_X6_91 : Cond.methodLink RX6 91 yX6_some ∈ WALL := wall 912 (by decide +kernel) rfl
set_option maxRecDepth 100000 in
theorem wi_X6_some : Cond.instanceMethod yX6_some ∈ WALL := wall 914 (by decide +kernel) rfl
set_option maxRecDepth 100000 in
theorem wl_X6_105 : Cond.methodLink RX6 105 yX6_every ∈ WALL := wall 916 (by decide +kernel) rfl
set_option maxRecDepth 100000 in
theorem wi_X6_every : Cond.instanceMethod yX6_every ∈ WALL := wall 918 (by decide +kernel) rfl
set_option maxRecDepth 100000 in
theorem wl_X6_85 : Cond.methodLink RX6 85 yX6_factor ∈ WALL := wall 920 (by decide +kernel) rfl
set_option maxRecDepth 100000 in
theorem wi_X6_factor : Cond.instanceMethod yX6_factor ∈ WALL := wall 922 (by decide +kernel) rfl
set_option maxRecDepth 100000 in
theorem wl_X6_88 : Cond.methodLink RX6 88 yX6_emits ∈ WALL := wall 924 (by decide +kernel) rfl
set_option maxRecDepth 100000 in
theorem wi_X6_emits : Cond.instanceMethod yX6_emits ∈ WALL := wall 926 (by decide +kernel) rfl
set_option maxRecDepth 100000 in
theorem wl_X6_96 : Cond.methodLink RX6 96 yX6_among ∈ WALL := wall 929 (by decide +kernel) rfl
set_option maxRecDepth 100000 in
theorem wi_X6_among : Cond.instanceMethod yX6_among ∈ WALL := wall 931 (by decide +kernel) rfl
set_option maxRecDepth 100000 in
theorem wl_L_26 : Cond.methodLink RL 26 yX6_told ∈ WALL := wall 936 (by decide +kernel) rfl
set_option maxRecDepth 100000 in
theorem wi_X6_told : Cond.instanceMethod yX6_told ∈ WALL := wall 937 (by decide +kernel) rfl
set_option maxRecDepth 100000 in
theorem we_X6_told : Cond.selects RX6 yX6_told yX6_told ∈ WALL := wall 938 (by decide +kernel) rfl
set_option maxRecDepth 100000 in
theorem wl_X6_125 : Cond.methodLink RX6 125 yX6_tellsOf ∈ WALL := wall 940 (by decide +kernel) rfl
set_option maxRecDepth 100000 in
theorem wi_X6_tellsOf : Cond.instanceMethod yX6_tellsOf ∈ WALL := wall 942 (by decide +kernel) rfl
set_option maxRecDepth 100000 in
theorem wl_L_31 : Cond.methodLink RL 31 yX6_person ∈ WALL := wall 944 (by decide +kernel) rfl
set_option maxRecDepth 100000 in
theorem wi_X6_person : Cond.instanceMethod yX6_person ∈ WALL := wall 945 (by decide +kernel) rfl
set_option maxRecDepth 100000 in
theorem we_X6_person : Cond.selects RX6 yX6_person yX6_person ∈ WALL := wall 946 (by decide +kernel) rfl
set_option maxRecDepth 100000 in
theorem wl_L_35 : Cond.methodLink RL 35 yX6_of ∈ WALL := wall 948 (by decide +kernel) rfl
set_option maxRecDepth 100000 in
theorem wi_X6_of : Cond.instanceMethod yX6_of ∈ WALL := wall 949 (by decide +kernel) rfl
set_option maxRecDepth 100000 in
theorem we_X6_of : Cond.selects RX6 yX6_of yX6_of ∈ WALL := wall 950 (by decide +kernel) rfl
set_option maxRecDepth 100000 in
theorem wl_X6_152 : Cond.methodLink RX6 152 yX6_isPerson ∈ WALL := wall 952 (by decide +kernel) rfl
set_option maxRecDepth 100000 in
theorem wi_X6_isPerson : Cond.instanceMethod yX6_isPerson ∈ WALL := wall 954 (by decide +kernel) rfl
set_option maxRecDepth 100000 in
theorem wl_L_39 : Cond.methodLink RL 39 yX6_row ∈ WALL := wall 956 (by decide +kernel) rfl
set_option maxRecDepth 100000 in
theorem wi_X6_row : Cond.instanceMethod yX6_row ∈ WALL := wall 957 (by decide +kernel) rfl
set_option maxRecDepth 100000 in
theorem we_X6_row : Cond.selects RX6 yX6_row yX6_row ∈ WALL := wall 958 (by decide +kernel) rfl
set_option maxRecDepth 100000 in
theorem wl_L_44 : Cond.methodLink RL 44 yX6_note ∈ WALL := wall 960 (by decide +kernel) rfl
set_option maxRecDepth 100000 in
theorem wi_X6_note : Cond.instanceMethod yX6_note ∈ WALL := wall 961 (by decide +kernel) rfl
set_option maxRecDepth 100000 in
theorem we_X6_note : Cond.selects RX6 yX6_note yX6_note ∈ WALL := wall 962 (by decide +kernel) rfl
set_option maxRecDepth 100000 in
theorem wl_L_48 : Cond.methodLink RL 48 yX6_yesterday ∈ WALL := wall 964 (by decide +kernel) rfl
set_option maxRecDepth 100000 in
theorem wi_X6_yesterday : Cond.instanceMethod yX6_yesterday ∈ WALL := wall 965 (by decide +kernel) rfl
set_option maxRecDepth 100000 in
theorem we_X6_yesterday : Cond.selects RX6 yX6_yesterday yX6_yesterday ∈ WALL := wall 966 (by decide +kernel) rfl
set_option maxRecDepth 100000 in
theorem wl_X6_156 : Cond.methodLink RX6 156 yX6_isDay ∈ WALL := wall 968 (by decide +kernel) rfl
set_option maxRecDepth 100000 in
theorem wi_X6_isDay : Cond.instanceMethod yX6_isDay ∈ WALL := wall 970 (by decide +kernel) rfl
set_option maxRecDepth 100000 in
theorem wl_X6_49 : Cond.methodLink RX6 49 yX6_days ∈ WALL := wall 972 (by decide +kernel) rfl
set_option maxRecDepth 100000 in
theorem wi_X6_days : Cond.instanceMethod yX6_days ∈ WALL := wall 974 (by decide +kernel) rfl
set_option maxRecDepth 100000 in
theorem wl_L_53 : Cond.methodLink RL 53 yX6_by ∈ WALL := wall 976 (by decide +kernel) rfl
set_option maxRecDepth 100000 in
theorem wi_X6_by : Cond.instanceMethod yX6_by ∈ WALL := wall 977 (by decide +kernel) rfl
set_option maxRecDepth 100000 in
theorem we_X6_by : Cond.selects RX6 yX6_by yX6_by ∈ WALL := wall 978 (by decide +kernel) rfl
set_option maxRecDepth 100000 in
theorem wl_X6_178 : Cond.methodLink RX6 178 yX6_isHour ∈ WALL := wall 980 (by decide +kernel) rfl
set_option maxRecDepth 100000 in
theorem wt_X6_isHour : Cond.static yX6_isHour ∈ WALL := wall 981 (by decide +kernel) rfl
set_option maxRecDepth 100000 in
theorem wl_X6_181 : Cond.methodLink RX6 181 yX6_looks ∈ WALL := wall 983 (by decide +kernel) rfl
set_option maxRecDepth 100000 in
theorem wi_X6_looks : Cond.instanceMethod yX6_looks ∈ WALL := wall 985 (by decide +kernel) rfl
set_option maxRecDepth 100000 in
theorem wl_X6_135 : Cond.methodLink RX6 135 yX6_looksAt ∈ WALL := wall 987 (by decide +kernel) rfl
set_option maxRecDepth 100000 in
theorem wi_X6_looksAt : Cond.instanceMethod yX6_looksAt ∈ WALL := wall 989 (by decide +kernel) rfl
set_option maxRecDepth 100000 in
theorem wl_X6_129 : Cond.methodLink RX6 129 yX6_worthBy ∈ WALL := wall 991 (by decide +kernel) rfl
set_option maxRecDepth 100000 in
theorem wi_X6_worthBy : Cond.instanceMethod yX6_worthBy ∈ WALL := wall 993 (by decide +kernel) rfl
set_option maxRecDepth 100000 in
theorem wl_X6_145 : Cond.methodLink RX6 145 yX6_worthOf ∈ WALL := wall 995 (by decide +kernel) rfl
set_option maxRecDepth 100000 in
theorem wi_X6_worthOf : Cond.instanceMethod yX6_worthOf ∈ WALL := wall 997 (by decide +kernel) rfl
set_option maxRecDepth 100000 in
theorem wl_X6_141 : Cond.methodLink RX6 141 yX6_others ∈ WALL := wall 999 (by decide +kernel) rfl
set_option maxRecDepth 100000 in
theorem wi_X6_others : Cond.instanceMethod yX6_others ∈ WALL := wall 1001 (by decide +kernel) rfl
set_option maxRecDepth 100000 in
theorem wl_X6_138 : Cond.methodLink RX6 138 yX6_does ∈ WALL := wall 1003 (by decide +kernel) rfl
set_option maxRecDepth 100000 in
theorem wt_X6_does : Cond.static yX6_does ∈ WALL := wall 1004 (by decide +kernel) rfl
set_option maxRecDepth 100000 in
theorem wl_X6_172 : Cond.methodLink RX6 172 yX6_would ∈ WALL := wall 1006 (by decide +kernel) rfl
set_option maxRecDepth 100000 in
theorem wi_X6_would : Cond.instanceMethod yX6_would ∈ WALL := wall 1008 (by decide +kernel) rfl
set_option maxRecDepth 100000 in
theorem wl_X6_162 : Cond.methodLink RX6 162 yX6_bestOwn ∈ WALL := wall 1010 (by decide +kernel) rfl
set_option maxRecDepth 100000 in
theorem wi_X6_bestOwn : Cond.instanceMethod yX6_bestOwn ∈ WALL := wall 1012 (by decide +kernel) rfl
set_option maxRecDepth 100000 in
theorem wl_X6_159 : Cond.methodLink RX6 159 yX6_withOwn ∈ WALL := wall 1014 (by decide +kernel) rfl
set_option maxRecDepth 100000 in
theorem wt_X6_withOwn : Cond.static yX6_withOwn ∈ WALL := wall 1015 (by decide +kernel) rfl
set_option maxRecDepth 100000 in
theorem wl_X6_148 : Cond.methodLink RX6 148 yX6_gainOf ∈ WALL := wall 1017 (by decide +kernel) rfl
set_option maxRecDepth 100000 in
theorem wi_X6_gainOf : Cond.instanceMethod yX6_gainOf ∈ WALL := wall 1019 (by decide +kernel) rfl
set_option maxRecDepth 100000 in
theorem wl_X6_165 : Cond.methodLink RX6 165 yX6_wouldPlainly ∈ WALL := wall 1021 (by decide +kernel) rfl
set_option maxRecDepth 100000 in
theorem wi_X6_wouldPlainly : Cond.instanceMethod yX6_wouldPlainly ∈ WALL := wall 1023 (by decide +kernel) rfl
set_option maxRecDepth 100000 in
theorem wl_X6_168 : Cond.methodLink RX6 168 yX6_isStrange ∈ WALL := wall 1025 (by decide +kernel) rfl
set_option maxRecDepth 100000 in
theorem wi_X6_isStrange : Cond.instanceMethod yX6_isStrange ∈ WALL := wall 1027 (by decide +kernel) rfl
set_option maxRecDepth 100000 in
theorem wl_L_57 : Cond.methodLink RL 57 yX6_day ∈ WALL := wall 1029 (by decide +kernel) rfl
set_option maxRecDepth 100000 in
theorem wi_X6_day : Cond.instanceMethod yX6_day ∈ WALL := wall 1030 (by decide +kernel) rfl
set_option maxRecDepth 100000 in
theorem we_X6_day : Cond.selects RX6 yX6_day yX6_day ∈ WALL := wall 1031 (by decide +kernel) rfl
set_option maxRecDepth 100000 in
theorem wl_X6_175 : Cond.methodLink RX6 175 yX6_firstOtherwise ∈ WALL := wall 1033 (by decide +kernel) rfl
set_option maxRecDepth 100000 in
theorem wi_X6_firstOtherwise : Cond.instanceMethod yX6_firstOtherwise ∈ WALL := wall 1035 (by decide +kernel) rfl
set_option maxRecDepth 100000 in
theorem wl_X6_184 : Cond.methodLink RX6 184 yX6_answerTo ∈ WALL := wall 1037 (by decide +kernel) rfl
set_option maxRecDepth 100000 in
theorem wi_X6_answerTo : Cond.instanceMethod yX6_answerTo ∈ WALL := wall 1039 (by decide +kernel) rfl
set_option maxRecDepth 100000 in
theorem wl_X6_187 : Cond.methodLink RX6 187 yX6_gainOfAll ∈ WALL := wall 1041 (by decide +kernel) rfl
set_option maxRecDepth 100000 in
theorem wi_X6_gainOfAll : Cond.instanceMethod yX6_gainOfAll ∈ WALL := wall 1043 (by decide +kernel) rfl
set_option maxRecDepth 100000 in
theorem wl_L_61 : Cond.methodLink RL 61 yX6_all ∈ WALL := wall 1045 (by decide +kernel) rfl
set_option maxRecDepth 100000 in
theorem wi_X6_all : Cond.instanceMethod yX6_all ∈ WALL := wall 1046 (by decide +kernel) rfl
set_option maxRecDepth 100000 in
theorem we_X6_all : Cond.selects RX6 yX6_all yX6_all ∈ WALL := wall 1047 (by decide +kernel) rfl
set_option maxRecDepth 100000 in
theorem wl_X6_208 : Cond.methodLink RX6 208 yX6_looksThrough ∈ WALL := wall 1049 (by decide +kernel) rfl
set_option maxRecDepth 100000 in
theorem wi_X6_looksThrough : Cond.instanceMethod yX6_looksThrough ∈ WALL := wall 1051 (by decide +kernel) rfl
set_option maxRecDepth 100000 in
theorem wl_X6_205 : Cond.methodLink RX6 205 yX6_stands ∈ WALL := wall 1053 (by decide +kernel) rfl
set_option maxRecDepth 100000 in
theorem wi_X6_stands : Cond.instanceMethod yX6_stands ∈ WALL := wall 1055 (by decide +kernel) rfl
set_option maxRecDepth 100000 in
theorem wl_L_65 : Cond.methodLink RL 65 yX6_once ∈ WALL := wall 1057 (by decide +kernel) rfl
set_option maxRecDepth 100000 in
theorem wi_X6_once : Cond.instanceMethod yX6_once ∈ WALL := wall 1058 (by decide +kernel) rfl
set_option maxRecDepth 100000 in
theorem we_X6_once : Cond.selects RX6 yX6_once yX6_once ∈ WALL := wall 1059 (by decide +kernel) rfl
set_option maxRecDepth 100000 in
theorem wl_L_69 : Cond.methodLink RL 69 yX6_again ∈ WALL := wall 1061 (by decide +kernel) rfl
set_option maxRecDepth 100000 in
theorem wi_X6_again : Cond.instanceMethod yX6_again ∈ WALL := wall 1062 (by decide +kernel) rfl
set_option maxRecDepth 100000 in
theorem we_X6_again : Cond.selects RX6 yX6_again yX6_again ∈ WALL := wall 1063 (by decide +kernel) rfl
set_option maxRecDepth 100000 in
theorem wl_L_73 : Cond.methodLink RL 73 yX6_morning ∈ WALL := wall 1065 (by decide +kernel) rfl
set_option maxRecDepth 100000 in
theorem wi_X6_morning : Cond.instanceMethod yX6_morning ∈ WALL := wall 1066 (by decide +kernel) rfl
set_option maxRecDepth 100000 in
theorem we_X6_morning : Cond.selects RX6 yX6_morning yX6_morning ∈ WALL := wall 1067 (by decide +kernel) rfl
set_option maxRecDepth 100000 in
theorem wl_X6_214 : Cond.methodLink RX6 214 yX6_morningComes ∈ WALL := wall 1069 (by decide +kernel) rfl
set_option maxRecDepth 100000 in
theorem wi_X6_morningComes : Cond.instanceMethod yX6_morningComes ∈ WALL := wall 1071 (by decide +kernel) rfl
set_option maxRecDepth 100000 in
theorem wl_L_77 : Cond.methodLink RL 77 yX6_year ∈ WALL := wall 1073 (by decide +kernel) rfl
set_option maxRecDepth 100000 in
theorem wi_X6_year : Cond.instanceMethod yX6_year ∈ WALL := wall 1074 (by decide +kernel) rfl
set_option maxRecDepth 100000 in
theorem we_X6_year : Cond.selects RX6 yX6_year yX6_year ∈ WALL := wall 1075 (by decide +kernel) rfl
set_option maxRecDepth 100000 in
theorem wl_L_82 : Cond.methodLink RL 82 yX6_bet ∈ WALL := wall 1077 (by decide +kernel) rfl
set_option maxRecDepth 100000 in
theorem wi_X6_bet : Cond.instanceMethod yX6_bet ∈ WALL := wall 1078 (by decide +kernel) rfl
set_option maxRecDepth 100000 in
theorem we_X6_bet : Cond.selects RX6 yX6_bet yX6_bet ∈ WALL := wall 1079 (by decide +kernel) rfl
set_option maxRecDepth 100000 in
theorem wl_X6_217 : Cond.methodLink RX6 217 yX6_divisor ∈ WALL := wall 1081 (by decide +kernel) rfl
set_option maxRecDepth 100000 in
theorem wt_X6_divisor : Cond.static yX6_divisor ∈ WALL := wall 1082 (by decide +kernel) rfl
set_option maxRecDepth 100000 in
theorem wl_L_86 : Cond.methodLink RL 86 yX6_sure ∈ WALL := wall 1084 (by decide +kernel) rfl
set_option maxRecDepth 100000 in
theorem wi_X6_sure : Cond.instanceMethod yX6_sure ∈ WALL := wall 1085 (by decide +kernel) rfl
set_option maxRecDepth 100000 in
theorem we_X6_sure : Cond.selects RX6 yX6_sure yX6_sure ∈ WALL := wall 1086 (by decide +kernel) rfl
set_option maxRecDepth 100000 in
theorem wl_X6_220 : Cond.methodLink RX6 220 yX6_keeps ∈ WALL := wall 1088 (by decide +kernel) rfl
set_option maxRecDepth 100000 in
theorem wi_X6_keeps : Cond.instanceMethod yX6_keeps ∈ WALL := wall 1090 (by decide +kernel) rfl
set_option maxRecDepth 100000 in
theorem wl_X6_223 : Cond.methodLink RX6 223 yX6_count1 ∈ WALL := wall 1092 (by decide +kernel) rfl
set_option maxRecDepth 100000 in
theorem wt_X6_count1 : Cond.static yX6_count1 ∈ WALL := wall 1093 (by decide +kernel) rfl
set_option maxRecDepth 100000 in
theorem wl_X6_226 : Cond.methodLink RX6 226 yX6_goesBack ∈ WALL := wall 1095 (by decide +kernel) rfl
set_option maxRecDepth 100000 in
theorem wi_X6_goesBack : Cond.instanceMethod yX6_goesBack ∈ WALL := wall 1097 (by decide +kernel) rfl
set_option maxRecDepth 100000 in
theorem wl_L_90 : Cond.methodLink RL 90 yX6_secret ∈ WALL := wall 1099 (by decide +kernel) rfl
set_option maxRecDepth 100000 in
theorem wi_X6_secret : Cond.instanceMethod yX6_secret ∈ WALL := wall 1100 (by decide +kernel) rfl
set_option maxRecDepth 100000 in
theorem we_X6_secret : Cond.selects RX6 yX6_secret yX6_secret ∈ WALL := wall 1101 (by decide +kernel) rfl
set_option maxRecDepth 100000 in
theorem wl_L_94 : Cond.methodLink RL 94 yX6_swap ∈ WALL := wall 1103 (by decide +kernel) rfl
set_option maxRecDepth 100000 in
theorem wi_X6_swap : Cond.instanceMethod yX6_swap ∈ WALL := wall 1104 (by decide +kernel) rfl
set_option maxRecDepth 100000 in
theorem we_X6_swap : Cond.selects RX6 yX6_swap yX6_swap ∈ WALL := wall 1105 (by decide +kernel) rfl
set_option maxRecDepth 100000 in
theorem wl_X6_229 : Cond.methodLink RX6 229 yX6_isGood ∈ WALL := wall 1107 (by decide +kernel) rfl
set_option maxRecDepth 100000 in
theorem wi_X6_isGood : Cond.instanceMethod yX6_isGood ∈ WALL := wall 1109 (by decide +kernel) rfl
set_option maxRecDepth 100000 in
theorem wl_L_98 : Cond.methodLink RL 98 yX6_book ∈ WALL := wall 1111 (by decide +kernel) rfl
set_option maxRecDepth 100000 in
theorem wi_X6_book : Cond.instanceMethod yX6_book ∈ WALL := wall 1112 (by decide +kernel) rfl
set_option maxRecDepth 100000 in
theorem we_X6_book : Cond.selects RX6 yX6_book yX6_book ∈ WALL := wall 1113 (by decide +kernel) rfl
set_option maxRecDepth 100000 in
theorem wl_L_102 : Cond.methodLink RL 102 yX6_looked ∈ WALL := wall 1115 (by decide +kernel) rfl
set_option maxRecDepth 100000 in
theorem wi_X6_looked : Cond.instanceMethod yX6_looked ∈ WALL := wall 1116 (by decide +kernel) rfl
set_option maxRecDepth 100000 in
theorem we_X6_looked : Cond.selects RX6 yX6_looked yX6_looked ∈ WALL := wall 1117 (by decide +kernel) rfl
set_option maxRecDepth 100000 in
theorem wl_L_106 : Cond.methodLink RL 106 yX6_act ∈ WALL := wall 1119 (by decide +kernel) rfl
set_option maxRecDepth 100000 in
theorem wi_X6_act : Cond.instanceMethod yX6_act ∈ WALL := wall 1120 (by decide +kernel) rfl
set_option maxRecDepth 100000 in
theorem we_X6_act : Cond.selects RX6 yX6_act yX6_act ∈ WALL := wall 1121 (by decide +kernel) rfl
set_option maxRecDepth 100000 in
theorem wl_X6_247 : Cond.methodLink RX6 247 yX6_knowsActs ∈ WALL := wall 1123 (by decide +kernel) rfl
set_option maxRecDepth 100000 in
theorem wi_X6_knowsActs : Cond.instanceMethod yX6_knowsActs ∈ WALL := wall 1125 (by decide +kernel) rfl
set_option maxRecDepth 100000 in
theorem wl_X6_235 : Cond.methodLink RX6 235 yX6_runs ∈ WALL := wall 1127 (by decide +kernel) rfl
set_option maxRecDepth 100000 in
theorem wi_X6_runs : Cond.instanceMethod yX6_runs ∈ WALL := wall 1129 (by decide +kernel) rfl
set_option maxRecDepth 100000 in
theorem wl_X6_244 : Cond.methodLink RX6 244 yX6_plainKnows ∈ WALL := wall 1131 (by decide +kernel) rfl
set_option maxRecDepth 100000 in
theorem wi_X6_plainKnows : Cond.instanceMethod yX6_plainKnows ∈ WALL := wall 1133 (by decide +kernel) rfl
set_option maxRecDepth 100000 in
theorem wl_X6_259 : Cond.methodLink RX6 259 yX6_doesActs ∈ WALL := wall 1135 (by decide +kernel) rfl
set_option maxRecDepth 100000 in
theorem wi_X6_doesActs : Cond.instanceMethod yX6_doesActs ∈ WALL := wall 1137 (by decide +kernel) rfl
set_option maxRecDepth 100000 in
theorem wl_X6_253 : Cond.methodLink RX6 253 yX6_isUnder ∈ WALL := wall 1139 (by decide +kernel) rfl
set_option maxRecDepth 100000 in
theorem wt_X6_isUnder : Cond.static yX6_isUnder ∈ WALL := wall 1140 (by decide +kernel) rfl
set_option maxRecDepth 100000 in
theorem wl_X6_256 : Cond.methodLink RX6 256 yX6_plainDoes ∈ WALL := wall 1142 (by decide +kernel) rfl
set_option maxRecDepth 100000 in
theorem wi_X6_plainDoes : Cond.instanceMethod yX6_plainDoes ∈ WALL := wall 1144 (by decide +kernel) rfl
set_option maxRecDepth 100000 in
theorem wl_X6_265 : Cond.methodLink RX6 265 yX6_tellsActs ∈ WALL := wall 1146 (by decide +kernel) rfl
set_option maxRecDepth 100000 in
theorem wi_X6_tellsActs : Cond.instanceMethod yX6_tellsActs ∈ WALL := wall 1148 (by decide +kernel) rfl
set_option maxRecDepth 100000 in
theorem wl_X6_262 : Cond.methodLink RX6 262 yX6_plainTells ∈ WALL := wall 1150 (by decide +kernel) rfl
set_option maxRecDepth 100000 in
theorem wi_X6_plainTells : Cond.instanceMethod yX6_plainTells ∈ WALL := wall 1152 (by decide +kernel) rfl
set_option maxRecDepth 100000 in
theorem wl_L_110 : Cond.methodLink RL 110 yX6_trace ∈ WALL := wall 1154 (by decide +kernel) rfl
set_option maxRecDepth 100000 in
theorem wi_X6_trace : Cond.instanceMethod yX6_trace ∈ WALL := wall 1155 (by decide +kernel) rfl
set_option maxRecDepth 100000 in
theorem we_X6_trace : Cond.selects RX6 yX6_trace yX6_trace ∈ WALL := wall 1156 (by decide +kernel) rfl
set_option maxRecDepth 100000 in
theorem wl_L_114 : Cond.methodLink RL 114 yX6_as ∈ WALL := wall 1158 (by decide +kernel) rfl
set_option maxRecDepth 100000 in
theorem wi_X6_as : Cond.instanceMethod yX6_as ∈ WALL := wall 1159 (by decide +kernel) rfl
set_option maxRecDepth 100000 in
theorem we_X6_as : Cond.selects RX6 yX6_as yX6_as ∈ WALL := wall 1160 (by decide +kernel) rfl
set_option maxRecDepth 100000 in
theorem wl_L_118 : Cond.methodLink RL 118 yX6_image ∈ WALL := wall 1162 (by decide +kernel) rfl
set_option maxRecDepth 100000 in
theorem wi_X6_image : Cond.instanceMethod yX6_image ∈ WALL := wall 1163 (by decide +kernel) rfl
set_option maxRecDepth 100000 in
theorem we_X6_image : Cond.selects RX6 yX6_image yX6_image ∈ WALL := wall 1164 (by decide +kernel) rfl
set_option maxRecDepth 100000 in
theorem wl_L_122 : Cond.methodLink RL 122 yX6_undo ∈ WALL := wall 1166 (by decide +kernel) rfl
set_option maxRecDepth 100000 in
theorem wi_X6_undo : Cond.instanceMethod yX6_undo ∈ WALL := wall 1167 (by decide +kernel) rfl
set_option maxRecDepth 100000 in
theorem we_X6_undo : Cond.selects RX6 yX6_undo yX6_undo ∈ WALL := wall 1168 (by decide +kernel) rfl
set_option maxRecDepth 100000 in
theorem wl_L_126 : Cond.methodLink RL 126 yX6_count ∈ WALL := wall 1170 (by decide +kernel) rfl
set_option maxRecDepth 100000 in
theorem wi_X6_count : Cond.instanceMethod yX6_count ∈ WALL := wall 1171 (by decide +kernel) rfl
set_option maxRecDepth 100000 in
theorem we_X6_count : Cond.selects RX6 yX6_count yX6_count ∈ WALL := wall 1172 (by decide +kernel) rfl
set_option maxRecDepth 100000 in
theorem wf_J0_9 : Cond.fieldLink RJ0 9 "java/lang/String" "value" "[B" ∈ WALL := wall 1174 (by decide +kernel) rfl
set_option maxRecDepth 100000 in
theorem wf_J0_15 : Cond.fieldLink RJ0 15 "java/lang/String" "coder" "B" ∈ WALL := wall 1175 (by decide +kernel) rfl
end CW
