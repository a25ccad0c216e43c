section CW
set_option maxRecDepth 100000 in
theorem sk16 {a0 a1 a2 a3 a4 a5 a6 a7 a8 a9 a10 a11 a12 a13 a14 a15 w : Cond} {l : List Cond} (h : List.Mem w l) : List.Mem w (a0 :: a1 :: a2 :: a3 :: a4 :: a5 :: a6 :: a7 :: a8 :: a9 :: a10 :: a11 :: a12 :: a13 :: a14 :: a15 :: l) := List.Mem.tail _ (List.Mem.tail _ (List.Mem.tail _ (List.Mem.tail _ (List.Mem.tail _ (List.Mem.tail _ (List.Mem.tail _ (List.Mem.tail _ (List.Mem.tail _ (List.Mem.tail _ (List.Mem.tail _ (List.Mem.tail _ (List.Mem.tail _ (List.Mem.tail _ (List.Mem.tail _ (List.Mem.tail _ h)))))))))))))))
set_option maxRecDepth 100000 in
theorem wt1 {w : Cond} (h : List.Mem w tables_1_1) (hg : goodWord w = true) : w ∈ WALL :=
  have h1 : w ∈ tables_1 := List.mem_append_left _ h
  List.mem_filter.mpr ⟨List.mem_append_right _ h1, hg⟩
set_option maxRecDepth 100000 in
theorem wt2 {w : Cond} (h : List.Mem w tables_1_2) (hg : goodWord w = true) : w ∈ WALL :=
  have h1 : w ∈ tables_1 := List.mem_append_right _ (List.mem_append_left _ h)
  List.mem_filter.mpr ⟨List.mem_append_right _ h1, hg⟩
set_option maxRecDepth 100000 in
theorem wt3 {w : Cond} (h : List.Mem w tables_1_3) (hg : goodWord w = true) : w ∈ WALL :=
  have h1 : w ∈ tables_1 := List.mem_append_right _ (List.mem_append_right _ (List.mem_append_left _ h))
  List.mem_filter.mpr ⟨List.mem_append_right _ h1, hg⟩
set_option maxRecDepth 100000 in
theorem wt4 {w : Cond} (h : List.Mem w tables_1_4) (hg : goodWord w = true) : w ∈ WALL :=
  have h1 : w ∈ tables_1 := List.mem_append_right _ (List.mem_append_right _ (List.mem_append_right _ (List.mem_append_left _ h)))
  List.mem_filter.mpr ⟨List.mem_append_right _ h1, hg⟩
set_option maxRecDepth 100000 in
theorem wt5 {w : Cond} (h : List.Mem w tables_1_5) (hg : goodWord w = true) : w ∈ WALL :=
  have h1 : w ∈ tables_1 := List.mem_append_right _ (List.mem_append_right _ (List.mem_append_right _ (List.mem_append_right _ (h))))
  List.mem_filter.mpr ⟨List.mem_append_right _ h1, hg⟩
set_option maxRecDepth 100000 in
theorem we_X4_read : Cond.selects RX4 yX4_read yX4_read ∈ WALL := wall 0 (by decide +kernel) rfl
set_option maxRecDepth 100000 in
theorem we_X4_readClause : Cond.selects RX4 yX4_readClause yX4_readClause ∈ WALL := wall 1 (by decide +kernel) rfl
set_option maxRecDepth 100000 in
theorem we_X4_sign : Cond.selects RX4 yX4_sign yX4_sign ∈ WALL := wall 2 (by decide +kernel) rfl
set_option maxRecDepth 100000 in
theorem we_X4_takeWord : Cond.selects RX4 yX4_takeWord yX4_takeWord ∈ WALL := wall 3 (by decide +kernel) rfl
set_option maxRecDepth 100000 in
theorem we_X4_take : Cond.selects RX4 yX4_take yX4_take ∈ WALL := wall 4 (by decide +kernel) rfl
set_option maxRecDepth 100000 in
theorem we_X4_readNumber : Cond.selects RX4 yX4_readNumber yX4_readNumber ∈ WALL := wall 5 (by decide +kernel) rfl
set_option maxRecDepth 100000 in
theorem we_X4_takeOneOf : Cond.selects RX4 yX4_takeOneOf yX4_takeOneOf ∈ WALL := wall 6 (by decide +kernel) rfl
set_option maxRecDepth 100000 in
theorem we_X4_readAny : Cond.selects RX4 yX4_readAny yX4_readAny ∈ WALL := wall 7 (by decide +kernel) rfl
set_option maxRecDepth 100000 in
theorem we_X4_readBoth : Cond.selects RX4 yX4_readBoth yX4_readBoth ∈ WALL := wall 8 (by decide +kernel) rfl
set_option maxRecDepth 100000 in
theorem we_X4_readFactor : Cond.selects RX4 yX4_readFactor yX4_readFactor ∈ WALL := wall 9 (by decide +kernel) rfl
set_option maxRecDepth 100000 in
theorem we_X4_readTest : Cond.selects RX4 yX4_readTest yX4_readTest ∈ WALL := wall 10 (by decide +kernel) rfl
set_option maxRecDepth 100000 in
theorem we_X4_keepCode : Cond.selects RX4 yX4_keepCode yX4_keepCode ∈ WALL := wall 11 (by decide +kernel) rfl
set_option maxRecDepth 100000 in
theorem we_X4_keepClause : Cond.selects RX4 yX4_keepClause yX4_keepClause ∈ WALL := wall 12 (by decide +kernel) rfl
set_option maxRecDepth 100000 in
theorem we_X5_forgetTowns : Cond.selects RX5 yX5_forgetTowns yX5_forgetTowns ∈ WALL := wall 13 (by decide +kernel) rfl
set_option maxRecDepth 100000 in
theorem we_X1_forgetTown : Cond.selects RX1 yX1_forgetTown yX1_forgetTown ∈ WALL := wall 14 (by decide +kernel) rfl
set_option maxRecDepth 100000 in
theorem we_X1_forget : Cond.selects RX1 yX1_forget yX1_forget ∈ WALL := wall 15 (by decide +kernel) rfl
set_option maxRecDepth 100000 in
theorem we_X5_newestTown : Cond.selects RX5 yX5_newestTown yX5_newestTown ∈ WALL := wall 16 (by decide +kernel) rfl
set_option maxRecDepth 100000 in
theorem we_X2_join : Cond.selects RX2 yX2_join yX2_join ∈ WALL := wall 17 (by decide +kernel) rfl
set_option maxRecDepth 100000 in
theorem we_X2_putNote : Cond.selects RX2 yX2_putNote yX2_putNote ∈ WALL := wall 18 (by decide +kernel) rfl
set_option maxRecDepth 100000 in
theorem we_X2_has : Cond.selects RX2 yX2_has yX2_has ∈ WALL := wall 19 (by decide +kernel) rfl
set_option maxRecDepth 100000 in
theorem we_X2_noteOf : Cond.selects RX2 yX2_noteOf yX2_noteOf ∈ WALL := wall 20 (by decide +kernel) rfl
set_option maxRecDepth 100000 in
theorem we_X2_isDay : Cond.selects RX2 yX2_isDay yX2_isDay ∈ WALL := wall 21 (by decide +kernel) rfl
set_option maxRecDepth 100000 in
theorem we_X2_allDays : Cond.selects RX2 yX2_allDays yX2_allDays ∈ WALL := wall 22 (by decide +kernel) rfl
set_option maxRecDepth 100000 in
theorem we_X1_prepare : Cond.selects RX1 yX1_prepare yX1_prepare ∈ WALL := wall 23 (by decide +kernel) rfl
set_option maxRecDepth 100000 in
theorem we_X1_fillWorths : Cond.selects RX1 yX1_fillWorths yX1_fillWorths ∈ WALL := wall 24 (by decide +kernel) rfl
set_option maxRecDepth 100000 in
theorem we_X4_worth : Cond.selects RX4 yX4_worth yX4_worth ∈ WALL := wall 25 (by decide +kernel) rfl
set_option maxRecDepth 100000 in
theorem we_X4_holds : Cond.selects RX4 yX4_holds yX4_holds ∈ WALL := wall 26 (by decide +kernel) rfl
set_option maxRecDepth 100000 in
theorem we_X1_sightOf : Cond.selects RX1 yX1_sightOf yX1_sightOf ∈ WALL := wall 27 (by decide +kernel) rfl
set_option maxRecDepth 100000 in
theorem we_X1_rowAt : Cond.selects RX1 yX1_rowAt yX1_rowAt ∈ WALL := wall 28 (by decide +kernel) rfl
set_option maxRecDepth 100000 in
theorem we_X1_bestRow : Cond.selects RX1 yX1_bestRow yX1_bestRow ∈ WALL := wall 29 (by decide +kernel) rfl
set_option maxRecDepth 100000 in
theorem we_X1_gain : Cond.selects RX1 yX1_gain yX1_gain ∈ WALL := wall 30 (by decide +kernel) rfl
set_option maxRecDepth 100000 in
theorem we_X1_worth : Cond.selects RX1 yX1_worth yX1_worth ∈ WALL := wall 31 (by decide +kernel) rfl
set_option maxRecDepth 100000 in
theorem we_X1_would : Cond.selects RX1 yX1_would yX1_would ∈ WALL := wall 32 (by decide +kernel) rfl
set_option maxRecDepth 100000 in
theorem we_X1_answerOf : Cond.selects RX1 yX1_answerOf yX1_answerOf ∈ WALL := wall 33 (by decide +kernel) rfl
set_option maxRecDepth 100000 in
theorem we_X1_firstOtherwise : Cond.selects RX1 yX1_firstOtherwise yX1_firstOtherwise ∈ WALL := wall 34 (by decide +kernel) rfl
set_option maxRecDepth 100000 in
theorem we_X1_answer : Cond.selects RX1 yX1_answer yX1_answer ∈ WALL := wall 35 (by decide +kernel) rfl
set_option maxRecDepth 100000 in
theorem we_X1_gainOfAll : Cond.selects RX1 yX1_gainOfAll yX1_gainOfAll ∈ WALL := wall 36 (by decide +kernel) rfl
set_option maxRecDepth 100000 in
theorem we_X5_searchNow : Cond.selects RX5 yX5_searchNow yX5_searchNow ∈ WALL := wall 37 (by decide +kernel) rfl
set_option maxRecDepth 100000 in
theorem we_X1_search : Cond.selects RX1 yX1_search yX1_search ∈ WALL := wall 38 (by decide +kernel) rfl
set_option maxRecDepth 100000 in
theorem we_X1_stands : Cond.selects RX1 yX1_stands yX1_stands ∈ WALL := wall 39 (by decide +kernel) rfl
set_option maxRecDepth 100000 in
theorem we_X1_addStanding : Cond.selects RX1 yX1_addStanding yX1_addStanding ∈ WALL := wall 40 (by decide +kernel) rfl
set_option maxRecDepth 100000 in
theorem we_X5_placeOnPath : Cond.selects RX5 yX5_placeOnPath yX5_placeOnPath ∈ WALL := wall 41 (by decide +kernel) rfl
set_option maxRecDepth 100000 in
theorem we_X1_comingDay : Cond.selects RX1 yX1_comingDay yX1_comingDay ∈ WALL := wall 42 (by decide +kernel) rfl
set_option maxRecDepth 100000 in
theorem we_X2_endMorning : Cond.selects RX2 yX2_endMorning yX2_endMorning ∈ WALL := wall 43 (by decide +kernel) rfl
set_option maxRecDepth 100000 in
theorem we_X2_become : Cond.selects RX2 yX2_become yX2_become ∈ WALL := wall 44 (by decide +kernel) rfl
set_option maxRecDepth 100000 in
theorem we_X5_searchThen : Cond.selects RX5 yX5_searchThen yX5_searchThen ∈ WALL := wall 45 (by decide +kernel) rfl
set_option maxRecDepth 100000 in
theorem we_X1_stoodWith : Cond.selects RX1 yX1_stoodWith yX1_stoodWith ∈ WALL := wall 46 (by decide +kernel) rfl
set_option maxRecDepth 100000 in
theorem we_X5_tellThen : Cond.selects RX5 yX5_tellThen yX5_tellThen ∈ WALL := wall 47 (by decide +kernel) rfl
set_option maxRecDepth 100000 in
theorem we_X2_exchange : Cond.selects RX2 yX2_exchange yX2_exchange ∈ WALL := wall 48 (by decide +kernel) rfl
set_option maxRecDepth 100000 in
theorem we_X5_wouldRather : Cond.selects RX5 yX5_wouldRather yX5_wouldRather ∈ WALL := wall 49 (by decide +kernel) rfl
set_option maxRecDepth 100000 in
theorem we_X5_isBetterThen : Cond.selects RX5 yX5_isBetterThen yX5_isBetterThen ∈ WALL := wall 50 (by decide +kernel) rfl
set_option maxRecDepth 100000 in
theorem we_X0_clear : Cond.selects RX0 yX0_clear yX0_clear ∈ WALL := wall 51 (by decide +kernel) rfl
set_option maxRecDepth 100000 in
theorem we_X0_start : Cond.selects RX0 yX0_start yX0_start ∈ WALL := wall 52 (by decide +kernel) rfl
set_option maxRecDepth 100000 in
theorem we_X0_ask : Cond.selects RX0 yX0_ask yX0_ask ∈ WALL := wall 53 (by decide +kernel) rfl
set_option maxRecDepth 100000 in
theorem we_X0_begin : Cond.selects RX0 yX0_begin yX0_begin ∈ WALL := wall 54 (by decide +kernel) rfl
set_option maxRecDepth 100000 in
theorem we_X3_become : Cond.selects RX3 yX3_become yX3_become ∈ WALL := wall 55 (by decide +kernel) rfl
set_option maxRecDepth 100000 in
theorem we_X6_clauseHere : Cond.selects RX6 yX6_clauseHere yX6_clauseHere ∈ WALL := wall 56 (by decide +kernel) rfl
set_option maxRecDepth 100000 in
theorem we_X6_here : Cond.selects RX6 yX6_here yX6_here ∈ WALL := wall 57 (by decide +kernel) rfl
set_option maxRecDepth 100000 in
theorem we_X6_much : Cond.selects RX6 yX6_much yX6_much ∈ WALL := wall 58 (by decide +kernel) rfl
set_option maxRecDepth 100000 in
theorem we_X6_spells : Cond.selects RX6 yX6_spells yX6_spells ∈ WALL := wall 59 (by decide +kernel) rfl
set_option maxRecDepth 100000 in
theorem we_X6_must : Cond.selects RX6 yX6_must yX6_must ∈ WALL := wall 60 (by decide +kernel) rfl
set_option maxRecDepth 100000 in
theorem we_X6_figures : Cond.selects RX6 yX6_figures yX6_figures ∈ WALL := wall 61 (by decide +kernel) rfl
set_option maxRecDepth 100000 in
theorem we_X6_some : Cond.selects RX6 yX6_some yX6_some ∈ WALL := wall 62 (by decide +kernel) rfl
set_option maxRecDepth 100000 in
theorem we_X6_every : Cond.selects RX6 yX6_every yX6_every ∈ WALL := wall 63 (by decide +kernel) rfl
set_option maxRecDepth 100000 in
theorem we_X6_factor : Cond.selects RX6 yX6_factor yX6_factor ∈ WALL := wall 64 (by decide +kernel) rfl
set_option maxRecDepth 100000 in
theorem we_X6_emits : Cond.selects RX6 yX6_emits yX6_emits ∈ WALL := wall 65 (by decide +kernel) rfl
set_option maxRecDepth 100000 in
theorem we_X6_among : Cond.selects RX6 yX6_among yX6_among ∈ WALL := wall 66 (by decide +kernel) rfl
set_option maxRecDepth 100000 in
theorem we_X6_tellsOf : Cond.selects RX6 yX6_tellsOf yX6_tellsOf ∈ WALL := wall 67 (by decide +kernel) rfl
set_option maxRecDepth 100000 in
theorem we_X6_isPerson : Cond.selects RX6 yX6_isPerson yX6_isPerson ∈ WALL := wall 68 (by decide +kernel) rfl
set_option maxRecDepth 100000 in
theorem we_X6_isDay : Cond.selects RX6 yX6_isDay yX6_isDay ∈ WALL := wall 69 (by decide +kernel) rfl
set_option maxRecDepth 100000 in
theorem we_X6_days : Cond.selects RX6 yX6_days yX6_days ∈ WALL := wall 70 (by decide +kernel) rfl
set_option maxRecDepth 100000 in
theorem we_X6_looks : Cond.selects RX6 yX6_looks yX6_looks ∈ WALL := wall 71 (by decide +kernel) rfl
set_option maxRecDepth 100000 in
theorem we_X6_looksAt : Cond.selects RX6 yX6_looksAt yX6_looksAt ∈ WALL := wall 72 (by decide +kernel) rfl
set_option maxRecDepth 100000 in
theorem we_X6_worthBy : Cond.selects RX6 yX6_worthBy yX6_worthBy ∈ WALL := wall 73 (by decide +kernel) rfl
set_option maxRecDepth 100000 in
theorem we_X6_worthOf : Cond.selects RX6 yX6_worthOf yX6_worthOf ∈ WALL := wall 74 (by decide +kernel) rfl
set_option maxRecDepth 100000 in
theorem we_X6_others : Cond.selects RX6 yX6_others yX6_others ∈ WALL := wall 75 (by decide +kernel) rfl
set_option maxRecDepth 100000 in
theorem we_X6_would : Cond.selects RX6 yX6_would yX6_would ∈ WALL := wall 76 (by decide +kernel) rfl
set_option maxRecDepth 100000 in
theorem we_X6_bestOwn : Cond.selects RX6 yX6_bestOwn yX6_bestOwn ∈ WALL := wall 77 (by decide +kernel) rfl
set_option maxRecDepth 100000 in
theorem we_X6_gainOf : Cond.selects RX6 yX6_gainOf yX6_gainOf ∈ WALL := wall 78 (by decide +kernel) rfl
set_option maxRecDepth 100000 in
theorem we_X6_wouldPlainly : Cond.selects RX6 yX6_wouldPlainly yX6_wouldPlainly ∈ WALL := wall 79 (by decide +kernel) rfl
set_option maxRecDepth 100000 in
theorem we_X6_isStrange : Cond.selects RX6 yX6_isStrange yX6_isStrange ∈ WALL := wall 80 (by decide +kernel) rfl
set_option maxRecDepth 100000 in
theorem we_X6_firstOtherwise : Cond.selects RX6 yX6_firstOtherwise yX6_firstOtherwise ∈ WALL := wall 81 (by decide +kernel) rfl
set_option maxRecDepth 100000 in
theorem we_X6_answerTo : Cond.selects RX6 yX6_answerTo yX6_answerTo ∈ WALL := wall 82 (by decide +kernel) rfl
set_option maxRecDepth 100000 in
theorem we_X6_gainOfAll : Cond.selects RX6 yX6_gainOfAll yX6_gainOfAll ∈ WALL := wall 83 (by decide +kernel) rfl
set_option maxRecDepth 100000 in
theorem we_X6_looksThrough : Cond.selects RX6 yX6_looksThrough yX6_looksThrough ∈ WALL := wall 84 (by decide +kernel) rfl
set_option maxRecDepth 100000 in
theorem we_X6_stands : Cond.selects RX6 yX6_stands yX6_stands ∈ WALL := wall 85 (by decide +kernel) rfl
set_option maxRecDepth 100000 in
theorem we_X6_morningComes : Cond.selects RX6 yX6_morningComes yX6_morningComes ∈ WALL := wall 86 (by decide +kernel) rfl
set_option maxRecDepth 100000 in
theorem we_X6_keeps : Cond.selects RX6 yX6_keeps yX6_keeps ∈ WALL := wall 87 (by decide +kernel) rfl
set_option maxRecDepth 100000 in
theorem we_X6_goesBack : Cond.selects RX6 yX6_goesBack yX6_goesBack ∈ WALL := wall 88 (by decide +kernel) rfl
set_option maxRecDepth 100000 in
theorem we_X6_isGood : Cond.selects RX6 yX6_isGood yX6_isGood ∈ WALL := wall 89 (by decide +kernel) rfl
set_option maxRecDepth 100000 in
theorem we_X6_knowsActs : Cond.selects RX6 yX6_knowsActs yX6_knowsActs ∈ WALL := wall 90 (by decide +kernel) rfl
set_option maxRecDepth 100000 in
theorem we_X6_runs : Cond.selects RX6 yX6_runs yX6_runs ∈ WALL := wall 91 (by decide +kernel) rfl
set_option maxRecDepth 100000 in
theorem we_X6_plainKnows : Cond.selects RX6 yX6_plainKnows yX6_plainKnows ∈ WALL := wall 92 (by decide +kernel) rfl
set_option maxRecDepth 100000 in
theorem we_X6_doesActs : Cond.selects RX6 yX6_doesActs yX6_doesActs ∈ WALL := wall 93 (by decide +kernel) rfl
set_option maxRecDepth 100000 in
theorem we_X6_plainDoes : Cond.selects RX6 yX6_plainDoes yX6_plainDoes ∈ WALL := wall 94 (by decide +kernel) rfl
set_option maxRecDepth 100000 in
theorem we_X6_tellsActs : Cond.selects RX6 yX6_tellsActs yX6_tellsActs ∈ WALL := wall 95 (by decide +kernel) rfl
set_option maxRecDepth 100000 in
theorem we_X6_plainTells : Cond.selects RX6 yX6_plainTells yX6_plainTells ∈ WALL := wall 96 (by decide +kernel) rfl
set_option maxRecDepth 100000 in
theorem wz_L : Cond.initialized RL ∈ WALL := by
  first
  | exact wt1 (List.Mem.head _) rfl
  | exact wall 97 (by decide +kernel) rfl
set_option maxRecDepth 100000 in
theorem wz_X5 : Cond.initialized RX5 ∈ WALL := by
  first
  | exact wt1 (List.Mem.tail _ (List.Mem.head _)) rfl
  | exact wall 98 (by decide +kernel) rfl
set_option maxRecDepth 100000 in
theorem wz_X3 : Cond.initialized RX3 ∈ WALL := by
  first
  | exact wt1 (List.Mem.tail _ (List.Mem.tail _ (List.Mem.head _))) rfl
  | exact wall 99 (by decide +kernel) rfl
set_option maxRecDepth 100000 in
theorem wz_X2 : Cond.initialized RX2 ∈ WALL := by
  first
  | exact wt1 (List.Mem.tail _ (List.Mem.tail _ (List.Mem.tail _ (List.Mem.head _)))) rfl
  | exact wall 100 (by decide +kernel) rfl
set_option maxRecDepth 100000 in
theorem wz_X4 : Cond.initialized RX4 ∈ WALL := by
  first
  | exact wt1 (List.Mem.tail _ (List.Mem.tail _ (List.Mem.tail _ (List.Mem.tail _ (List.Mem.head _))))) rfl
  | exact wall 101 (by decide +kernel) rfl
set_option maxRecDepth 100000 in
theorem wz_X1 : Cond.initialized RX1 ∈ WALL := by
  first
  | exact wt1 (List.Mem.tail _ (List.Mem.tail _ (List.Mem.tail _ (List.Mem.tail _ (List.Mem.tail _ (List.Mem.head _)))))) rfl
  | exact wall 102 (by decide +kernel) rfl
set_option maxRecDepth 100000 in
theorem wz_X0 : Cond.initialized RX0 ∈ WALL := by
  first
  | exact wt1 (List.Mem.tail _ (List.Mem.tail _ (List.Mem.tail _ (List.Mem.tail _ (List.Mem.tail _ (List.Mem.tail _ (List.Mem.head _))))))) rfl
  | exact wall 103 (by decide +kernel) rfl
set_option maxRecDepth 100000 in
theorem wz_X6 : Cond.initialized RX6 ∈ WALL := by
  first
  | exact wt1 (List.Mem.tail _ (List.Mem.tail _ (List.Mem.tail _ (List.Mem.tail _ (List.Mem.tail _ (List.Mem.tail _ (List.Mem.tail _ (List.Mem.head _)))))))) rfl
  | exact wall 104 (by decide +kernel) rfl
set_option maxRecDepth 100000 in
theorem wz_J9 : Cond.initialized RJ9 ∈ WALL := by
  first
  | exact wt1 (List.Mem.tail _ (List.Mem.tail _ (List.Mem.tail _ (List.Mem.tail _ (List.Mem.tail _ (List.Mem.tail _ (List.Mem.tail _ (List.Mem.tail _ (List.Mem.head _))))))))) rfl
  | exact wall 105 (by decide +kernel) rfl
set_option maxRecDepth 100000 in
theorem wz_J10 : Cond.initialized RJ10 ∈ WALL := by
  first
  | exact wt1 (List.Mem.tail _ (List.Mem.tail _ (List.Mem.tail _ (List.Mem.tail _ (List.Mem.tail _ (List.Mem.tail _ (List.Mem.tail _ (List.Mem.tail _ (List.Mem.tail _ (List.Mem.head _)))))))))) rfl
  | exact wall 106 (by decide +kernel) rfl
set_option maxRecDepth 100000 in
theorem wz_J0 : Cond.initialized RJ0 ∈ WALL := by
  first
  | exact wt1 (List.Mem.tail _ (List.Mem.tail _ (List.Mem.tail _ (List.Mem.tail _ (List.Mem.tail _ (List.Mem.tail _ (List.Mem.tail _ (List.Mem.tail _ (List.Mem.tail _ (List.Mem.tail _ (List.Mem.head _))))))))))) rfl
  | exact wall 107 (by decide +kernel) rfl
set_option maxRecDepth 100000 in
theorem wz_J1 : Cond.initialized RJ1 ∈ WALL := by
  first
  | exact wt1 (List.Mem.tail _ (List.Mem.tail _ (List.Mem.tail _ (List.Mem.tail _ (List.Mem.tail _ (List.Mem.tail _ (List.Mem.tail _ (List.Mem.tail _ (List.Mem.tail _ (List.Mem.tail _ (List.Mem.tail _ (List.Mem.head _)))))))))))) rfl
  | exact wall 108 (by decide +kernel) rfl
set_option maxRecDepth 100000 in
theorem wz_J3 : Cond.initialized RJ3 ∈ WALL := by
  first
  | exact wt1 (List.Mem.tail _ (List.Mem.tail _ (List.Mem.tail _ (List.Mem.tail _ (List.Mem.tail _ (List.Mem.tail _ (List.Mem.tail _ (List.Mem.tail _ (List.Mem.tail _ (List.Mem.tail _ (List.Mem.tail _ (List.Mem.tail _ (List.Mem.head _))))))))))))) rfl
  | exact wall 109 (by decide +kernel) rfl
set_option maxRecDepth 100000 in
theorem wz_J2 : Cond.initialized RJ2 ∈ WALL := by
  first
  | exact wt1 (List.Mem.tail _ (List.Mem.tail _ (List.Mem.tail _ (List.Mem.tail _ (List.Mem.tail _ (List.Mem.tail _ (List.Mem.tail _ (List.Mem.tail _ (List.Mem.tail _ (List.Mem.tail _ (List.Mem.tail _ (List.Mem.tail _ (List.Mem.tail _ (List.Mem.head _)))))))))))))) rfl
  | exact wall 110 (by decide +kernel) rfl
set_option maxRecDepth 100000 in
theorem wz_J6 : Cond.initialized RJ6 ∈ WALL := by
  first
  | exact wt1 (List.Mem.tail _ (List.Mem.tail _ (List.Mem.tail _ (List.Mem.tail _ (List.Mem.tail _ (List.Mem.tail _ (List.Mem.tail _ (List.Mem.tail _ (List.Mem.tail _ (List.Mem.tail _ (List.Mem.tail _ (List.Mem.tail _ (List.Mem.tail _ (List.Mem.tail _ (List.Mem.head _))))))))))))))) rfl
  | exact wall 111 (by decide +kernel) rfl
set_option maxRecDepth 100000 in
theorem wcl_L_7 : Cond.classLink RL 7 "DayKnown" ∈ WALL := by
  first
  | exact wt1 (List.Mem.tail _ (List.Mem.tail _ (List.Mem.tail _ (List.Mem.tail _ (List.Mem.tail _ (List.Mem.tail _ (List.Mem.tail _ (List.Mem.tail _ (List.Mem.tail _ (List.Mem.tail _ (List.Mem.tail _ (List.Mem.tail _ (List.Mem.tail _ (List.Mem.tail _ (List.Mem.tail _ (List.Mem.head _)))))))))))))))) rfl
  | exact wall 112 (by decide +kernel) rfl
set_option maxRecDepth 100000 in
theorem wn_X5 : Cond.instantiable RX5 9 ∈ WALL := by
  first
  | exact wt1 (sk16 (List.Mem.head _)) rfl
  | exact wall 113 (by decide +kernel) rfl
set_option maxRecDepth 100000 in
theorem wl_L_9 : Cond.methodLink RL 9 yX5_init ∈ WALL := by
  first
  | exact wt1 (sk16 (List.Mem.tail _ (List.Mem.head _))) rfl
  | exact wall 114 (by decide +kernel) rfl
set_option maxRecDepth 100000 in
theorem wi_X5_init : Cond.instanceMethod yX5_init ∈ WALL := by
  first
  | exact wt1 (sk16 (List.Mem.tail _ (List.Mem.tail _ (List.Mem.head _)))) rfl
  | exact wall 115 (by decide +kernel) rfl
set_option maxRecDepth 100000 in
theorem wl_X5_3 : Cond.methodLink RX5 3 Lib.objectInit ∈ WALL := by
  first
  | exact wt1 (sk16 (List.Mem.tail _ (List.Mem.tail _ (List.Mem.tail _ (List.Mem.tail _ (List.Mem.head _)))))) rfl
  | exact wall 117 (by decide +kernel) rfl
set_option maxRecDepth 100000 in
theorem wi_objectInit : Cond.instanceMethod Lib.objectInit ∈ WALL := by
  first
  | exact wt1 (sk16 (List.Mem.tail _ (List.Mem.tail _ (List.Mem.tail _ (List.Mem.tail _ (List.Mem.tail _ (List.Mem.head _))))))) rfl
  | exact wall 118 (by decide +kernel) rfl
set_option maxRecDepth 100000 in
theorem wcl_X5_9 : Cond.classLink RX5 9 "DayKnown$Held" ∈ WALL := by
  first
  | exact wt1 (sk16 (List.Mem.tail _ (List.Mem.tail _ (List.Mem.tail _ (List.Mem.tail _ (List.Mem.tail _ (List.Mem.tail _ (List.Mem.tail _ (List.Mem.head _))))))))) rfl
  | exact wall 120 (by decide +kernel) rfl
set_option maxRecDepth 100000 in
theorem wn_X3 : Cond.instantiable RX3 6 ∈ WALL := by
  first
  | exact wt1 (sk16 (List.Mem.tail _ (List.Mem.tail _ (List.Mem.tail _ (List.Mem.tail _ (List.Mem.tail _ (List.Mem.tail _ (List.Mem.tail _ (List.Mem.tail _ (List.Mem.head _)))))))))) rfl
  | exact wall 121 (by decide +kernel) rfl
set_option maxRecDepth 100000 in
theorem wi_X3_init : Cond.instanceMethod yX3_init ∈ WALL := by
  first
  | exact wt1 (sk16 (List.Mem.tail _ (List.Mem.tail _ (List.Mem.tail _ (List.Mem.tail _ (List.Mem.tail _ (List.Mem.tail _ (List.Mem.tail _ (List.Mem.tail _ (List.Mem.tail _ (List.Mem.tail _ (List.Mem.head _)))))))))))) rfl
  | exact wall 123 (by decide +kernel) rfl
set_option maxRecDepth 100000 in
theorem wl_X3_3 : Cond.methodLink RX3 3 Lib.objectInit ∈ WALL := by
  first
  | exact wt1 (sk16 (List.Mem.tail _ (List.Mem.tail _ (List.Mem.tail _ (List.Mem.tail _ (List.Mem.tail _ (List.Mem.tail _ (List.Mem.tail _ (List.Mem.tail _ (List.Mem.tail _ (List.Mem.tail _ (List.Mem.tail _ (List.Mem.tail _ (List.Mem.head _)))))))))))))) rfl
  | exact wall 125 (by decide +kernel) rfl
set_option maxRecDepth 100000 in
theorem wcl_X3_9 : Cond.classLink RX3 9 "DayKnown$Folk" ∈ WALL := by
  first
  | exact wt1 (sk16 (List.Mem.tail _ (List.Mem.tail _ (List.Mem.tail _ (List.Mem.tail _ (List.Mem.tail _ (List.Mem.tail _ (List.Mem.tail _ (List.Mem.tail _ (List.Mem.tail _ (List.Mem.tail _ (List.Mem.tail _ (List.Mem.tail _ (List.Mem.tail _ (List.Mem.head _))))))))))))))) rfl
  | exact wall 126 (by decide +kernel) rfl
set_option maxRecDepth 100000 in
theorem wn_X2 : Cond.instantiable RX2 6 ∈ WALL := by
  first
  | exact wt1 (sk16 (List.Mem.tail _ (List.Mem.tail _ (List.Mem.tail _ (List.Mem.tail _ (List.Mem.tail _ (List.Mem.tail _ (List.Mem.tail _ (List.Mem.tail _ (List.Mem.tail _ (List.Mem.tail _ (List.Mem.tail _ (List.Mem.tail _ (List.Mem.tail _ (List.Mem.tail _ (List.Mem.head _)))))))))))))))) rfl
  | exact wall 127 (by decide +kernel) rfl
set_option maxRecDepth 100000 in
theorem wi_X2_init : Cond.instanceMethod yX2_init ∈ WALL := by
  first
  | exact wt1 (sk16 (sk16 (List.Mem.head _))) rfl
  | exact wall 129 (by decide +kernel) rfl
set_option maxRecDepth 100000 in
theorem wl_X2_3 : Cond.methodLink RX2 3 Lib.objectInit ∈ WALL := by
  first
  | exact wt1 (sk16 (sk16 (List.Mem.tail _ (List.Mem.tail _ (List.Mem.head _))))) rfl
  | exact wall 131 (by decide +kernel) rfl
set_option maxRecDepth 100000 in
theorem wf_X2_9 : Cond.fieldLink RX2 9 "DayKnown$Folk" "kind" "[I" ∈ WALL := by
  first
  | exact wt1 (sk16 (sk16 (List.Mem.tail _ (List.Mem.tail _ (List.Mem.tail _ (List.Mem.head _)))))) rfl
  | exact wall 132 (by decide +kernel) rfl
set_option maxRecDepth 100000 in
theorem wf_X2_15 : Cond.fieldLink RX2 15 "DayKnown$Folk" "v" "[I" ∈ WALL := by
  first
  | exact wt1 (sk16 (sk16 (List.Mem.tail _ (List.Mem.tail _ (List.Mem.tail _ (List.Mem.tail _ (List.Mem.tail _ (List.Mem.tail _ (List.Mem.tail _ (List.Mem.head _)))))))))) rfl
  | exact wall 136 (by decide +kernel) rfl
set_option maxRecDepth 100000 in
theorem wf_X2_18 : Cond.fieldLink RX2 18 "DayKnown$Folk" "row" "[I" ∈ WALL := by
  first
  | exact wt1 (sk16 (sk16 (List.Mem.tail _ (List.Mem.tail _ (List.Mem.tail _ (List.Mem.tail _ (List.Mem.tail _ (List.Mem.tail _ (List.Mem.tail _ (List.Mem.tail _ (List.Mem.tail _ (List.Mem.tail _ (List.Mem.tail _ (List.Mem.head _)))))))))))))) rfl
  | exact wall 140 (by decide +kernel) rfl
set_option maxRecDepth 100000 in
theorem wf_X2_21 : Cond.fieldLink RX2 21 "DayKnown$Folk" "people" "I" ∈ WALL := by
  first
  | exact wt1 (sk16 (sk16 (List.Mem.tail _ (List.Mem.tail _ (List.Mem.tail _ (List.Mem.tail _ (List.Mem.tail _ (List.Mem.tail _ (List.Mem.tail _ (List.Mem.tail _ (List.Mem.tail _ (List.Mem.tail _ (List.Mem.tail _ (List.Mem.tail _ (List.Mem.tail _ (List.Mem.tail _ (List.Mem.head _))))))))))))))))) rfl
  | exact wall 143 (by decide +kernel) rfl
set_option maxRecDepth 100000 in
theorem wf_X2_33 : Cond.fieldLink RX2 33 "DayKnown$Folk" "notes" "I" ∈ WALL := by
  first
  | exact wt1 (sk16 (sk16 (sk16 (List.Mem.tail _ (List.Mem.tail _ (List.Mem.head _)))))) rfl
  | exact wall 147 (by decide +kernel) rfl
set_option maxRecDepth 100000 in
theorem wf_X2_40 : Cond.fieldLink RX2 40 "DayKnown$Folk" "yesterday" "I" ∈ WALL := by
  first
  | exact wt1 (sk16 (sk16 (sk16 (List.Mem.tail _ (List.Mem.tail _ (List.Mem.tail _ (List.Mem.tail _ (List.Mem.tail _ (List.Mem.tail _ (List.Mem.head _)))))))))) rfl
  | exact wall 151 (by decide +kernel) rfl
set_option maxRecDepth 100000 in
theorem wa_int : Cond.arrayClass .int ∈ WALL := by
  first
  | exact wt1 (sk16 (sk16 (sk16 (sk16 (List.Mem.tail _ (List.Mem.tail _ (List.Mem.tail _ (List.Mem.tail _ (List.Mem.head _))))))))) rfl
  | exact wall 165 (by decide +kernel) rfl
set_option maxRecDepth 100000 in
theorem wf_X3_12 : Cond.fieldLink RX3 12 "DayKnown$Held" "folk" "LDayKnown$Folk;" ∈ WALL := by
  first
  | exact wt1 (sk16 (sk16 (sk16 (sk16 (List.Mem.tail _ (List.Mem.tail _ (List.Mem.tail _ (List.Mem.tail _ (List.Mem.tail _ (List.Mem.head _)))))))))) rfl
  | exact wall 166 (by decide +kernel) rfl
set_option maxRecDepth 100000 in
theorem wf_X3_18 : Cond.fieldLink RX3 18 "DayKnown$Held" "tape" "[I" ∈ WALL := by
  first
  | exact wt1 (sk16 (sk16 (sk16 (sk16 (List.Mem.tail _ (List.Mem.tail _ (List.Mem.tail _ (List.Mem.tail _ (List.Mem.tail _ (List.Mem.tail _ (List.Mem.tail _ (List.Mem.head _)))))))))))) rfl
  | exact wall 168 (by decide +kernel) rfl
set_option maxRecDepth 100000 in
theorem wf_X3_22 : Cond.fieldLink RX3 22 "DayKnown$Held" "book" "[I" ∈ WALL := by
  first
  | exact wt1 (sk16 (sk16 (sk16 (sk16 (List.Mem.tail _ (List.Mem.tail _ (List.Mem.tail _ (List.Mem.tail _ (List.Mem.tail _ (List.Mem.tail _ (List.Mem.tail _ (List.Mem.tail _ (List.Mem.tail _ (List.Mem.head _)))))))))))))) rfl
  | exact wall 170 (by decide +kernel) rfl
set_option maxRecDepth 100000 in
theorem wf_X3_35 : Cond.fieldLink RX3 35 "DayKnown$Held" "signs" "I" ∈ WALL := by
  first
  | exact wt1 (sk16 (sk16 (sk16 (sk16 (List.Mem.tail _ (List.Mem.tail _ (List.Mem.tail _ (List.Mem.tail _ (List.Mem.tail _ (List.Mem.tail _ (List.Mem.tail _ (List.Mem.tail _ (List.Mem.tail _ (List.Mem.tail _ (List.Mem.tail _ (List.Mem.tail _ (List.Mem.head _))))))))))))))))) rfl
  | exact wall 173 (by decide +kernel) rfl
set_option maxRecDepth 100000 in
theorem wf_X3_39 : Cond.fieldLink RX3 39 "DayKnown$Held" "booked" "I" ∈ WALL := by
  first
  | exact wt1 (sk16 (sk16 (sk16 (sk16 (List.Mem.tail _ (List.Mem.tail _ (List.Mem.tail _ (List.Mem.tail _ (List.Mem.tail _ (List.Mem.tail _ (List.Mem.tail _ (List.Mem.tail _ (List.Mem.tail _ (List.Mem.tail _ (List.Mem.tail _ (List.Mem.tail _ (List.Mem.tail _ (List.Mem.head _)))))))))))))))))) rfl
  | exact wall 174 (by decide +kernel) rfl
set_option maxRecDepth 100000 in
theorem wf_X3_42 : Cond.fieldLink RX3 42 "DayKnown$Held" "towns" "I" ∈ WALL := by
  first
  | exact wt1 (sk16 (sk16 (sk16 (sk16 (List.Mem.tail _ (List.Mem.tail _ (List.Mem.tail _ (List.Mem.tail _ (List.Mem.tail _ (List.Mem.tail _ (List.Mem.tail _ (List.Mem.tail _ (List.Mem.tail _ (List.Mem.tail _ (List.Mem.tail _ (List.Mem.tail _ (List.Mem.tail _ (List.Mem.tail _ (List.Mem.tail _ (List.Mem.head _)))))))))))))))))))) rfl
  | exact wall 176 (by decide +kernel) rfl
set_option maxRecDepth 100000 in
theorem wcl_X5_19 : Cond.classLink RX5 19 "DayKnown$Town" ∈ WALL := by
  first
  | exact wt1 (sk16 (sk16 (sk16 (sk16 (sk16 (List.Mem.tail _ (List.Mem.tail _ (List.Mem.tail _ (List.Mem.tail _ (List.Mem.tail _ (List.Mem.tail _ (List.Mem.tail _ (List.Mem.tail _ (List.Mem.tail _ (List.Mem.tail _ (List.Mem.tail _ (List.Mem.tail _ (List.Mem.tail _ (List.Mem.tail _ (List.Mem.head _)))))))))))))))))))) rfl
  | exact wall 191 (by decide +kernel) rfl
set_option maxRecDepth 100000 in
theorem wn_X4 : Cond.instantiable RX4 9 ∈ WALL := by
  first
  | exact wt1 (sk16 (sk16 (sk16 (sk16 (sk16 (List.Mem.tail _ (List.Mem.tail _ (List.Mem.tail _ (List.Mem.tail _ (List.Mem.tail _ (List.Mem.tail _ (List.Mem.tail _ (List.Mem.tail _ (List.Mem.tail _ (List.Mem.tail _ (List.Mem.tail _ (List.Mem.tail _ (List.Mem.tail _ (List.Mem.tail _ (List.Mem.tail _ (List.Mem.head _))))))))))))))))))))) rfl
  | exact wall 192 (by decide +kernel) rfl
set_option maxRecDepth 100000 in
theorem wi_X4_init : Cond.instanceMethod yX4_init ∈ WALL := by
  first
  | exact wt1 (sk16 (sk16 (sk16 (sk16 (sk16 (sk16 (List.Mem.tail _ (List.Mem.head _)))))))) rfl
  | exact wall 194 (by decide +kernel) rfl
set_option maxRecDepth 100000 in
theorem wl_X4_3 : Cond.methodLink RX4 3 Lib.objectInit ∈ WALL := by
  first
  | exact wt1 (sk16 (sk16 (sk16 (sk16 (sk16 (sk16 (List.Mem.tail _ (List.Mem.tail _ (List.Mem.tail _ (List.Mem.head _)))))))))) rfl
  | exact wall 196 (by decide +kernel) rfl
set_option maxRecDepth 100000 in
theorem wf_X4_9 : Cond.fieldLink RX4 9 "DayKnown$Town" "text" "[I" ∈ WALL := by
  first
  | exact wt1 (sk16 (sk16 (sk16 (sk16 (sk16 (sk16 (List.Mem.tail _ (List.Mem.tail _ (List.Mem.tail _ (List.Mem.tail _ (List.Mem.head _))))))))))) rfl
  | exact wall 197 (by decide +kernel) rfl
set_option maxRecDepth 100000 in
theorem wf_X4_33 : Cond.fieldLink RX4 33 "DayKnown$Town" "size" "I" ∈ WALL := by
  first
  | exact wt1 (sk16 (sk16 (sk16 (sk16 (sk16 (sk16 (List.Mem.tail _ (List.Mem.tail _ (List.Mem.tail _ (List.Mem.tail _ (List.Mem.tail _ (List.Mem.head _)))))))))))) rfl
  | exact wall 198 (by decide +kernel) rfl
set_option maxRecDepth 100000 in
theorem wf_X4_43 : Cond.fieldLink RX4 43 "DayKnown$Town" "at" "I" ∈ WALL := by
  first
  | exact wt1 (sk16 (sk16 (sk16 (sk16 (sk16 (sk16 (List.Mem.tail _ (List.Mem.tail _ (List.Mem.tail _ (List.Mem.tail _ (List.Mem.tail _ (List.Mem.tail _ (List.Mem.head _))))))))))))) rfl
  | exact wall 199 (by decide +kernel) rfl
set_option maxRecDepth 100000 in
theorem wf_X4_15 : Cond.fieldLink RX4 15 "DayKnown$Town" "code" "[I" ∈ WALL := by
  first
  | exact wt1 (sk16 (sk16 (sk16 (sk16 (sk16 (sk16 (List.Mem.tail _ (List.Mem.tail _ (List.Mem.tail _ (List.Mem.tail _ (List.Mem.tail _ (List.Mem.tail _ (List.Mem.tail _ (List.Mem.head _)))))))))))))) rfl
  | exact wall 200 (by decide +kernel) rfl
set_option maxRecDepth 100000 in
theorem wf_X4_46 : Cond.fieldLink RX4 46 "DayKnown$Town" "codes" "I" ∈ WALL := by
  first
  | exact wt1 (sk16 (sk16 (sk16 (sk16 (sk16 (sk16 (List.Mem.tail _ (List.Mem.tail _ (List.Mem.tail _ (List.Mem.tail _ (List.Mem.tail _ (List.Mem.tail _ (List.Mem.tail _ (List.Mem.tail _ (List.Mem.head _))))))))))))))) rfl
  | exact wall 201 (by decide +kernel) rfl
set_option maxRecDepth 100000 in
theorem wf_X4_18 : Cond.fieldLink RX4 18 "DayKnown$Town" "amount" "[I" ∈ WALL := by
  first
  | exact wt1 (sk16 (sk16 (sk16 (sk16 (sk16 (sk16 (List.Mem.tail _ (List.Mem.tail _ (List.Mem.tail _ (List.Mem.tail _ (List.Mem.tail _ (List.Mem.tail _ (List.Mem.tail _ (List.Mem.tail _ (List.Mem.tail _ (List.Mem.head _)))))))))))))))) rfl
  | exact wall 202 (by decide +kernel) rfl
set_option maxRecDepth 100000 in
theorem wf_X4_21 : Cond.fieldLink RX4 21 "DayKnown$Town" "codeEnd" "[I" ∈ WALL := by
  first
  | exact wt1 (sk16 (sk16 (sk16 (sk16 (sk16 (sk16 (List.Mem.tail _ (List.Mem.tail _ (List.Mem.tail _ (List.Mem.tail _ (List.Mem.tail _ (List.Mem.tail _ (List.Mem.tail _ (List.Mem.tail _ (List.Mem.tail _ (List.Mem.tail _ (List.Mem.head _))))))))))))))))) rfl
  | exact wall 203 (by decide +kernel) rfl
set_option maxRecDepth 100000 in
theorem wf_X4_49 : Cond.fieldLink RX4 49 "DayKnown$Town" "clauses" "I" ∈ WALL := by
  first
  | exact wt1 (sk16 (sk16 (sk16 (sk16 (sk16 (sk16 (List.Mem.tail _ (List.Mem.tail _ (List.Mem.tail _ (List.Mem.tail _ (List.Mem.tail _ (List.Mem.tail _ (List.Mem.tail _ (List.Mem.tail _ (List.Mem.tail _ (List.Mem.tail _ (List.Mem.tail _ (List.Mem.head _)))))))))))))))))) rfl
  | exact wall 204 (by decide +kernel) rfl
set_option maxRecDepth 100000 in
theorem wf_X4_52 : Cond.fieldLink RX4 52 "DayKnown$Town" "noteHours" "I" ∈ WALL := by
  first
  | exact wt1 (sk16 (sk16 (sk16 (sk16 (sk16 (sk16 (List.Mem.tail _ (List.Mem.tail _ (List.Mem.tail _ (List.Mem.tail _ (List.Mem.tail _ (List.Mem.tail _ (List.Mem.tail _ (List.Mem.tail _ (List.Mem.tail _ (List.Mem.tail _ (List.Mem.tail _ (List.Mem.tail _ (List.Mem.head _))))))))))))))))))) rfl
  | exact wall 205 (by decide +kernel) rfl
set_option maxRecDepth 100000 in
theorem wcl_X5_30 : Cond.classLink RX5 30 "DayKnown$Days" ∈ WALL := by
  first
  | exact wt1 (sk16 (sk16 (sk16 (sk16 (sk16 (sk16 (sk16 (sk16 (List.Mem.tail _ (List.Mem.tail _ (List.Mem.head _))))))))))) rfl
  | exact wall 227 (by decide +kernel) rfl
set_option maxRecDepth 100000 in
theorem wn_X1 : Cond.instantiable RX1 12 ∈ WALL := by
  first
  | exact wt1 (sk16 (sk16 (sk16 (sk16 (sk16 (sk16 (sk16 (sk16 (List.Mem.tail _ (List.Mem.tail _ (List.Mem.tail _ (List.Mem.head _)))))))))))) rfl
  | exact wall 228 (by decide +kernel) rfl
set_option maxRecDepth 100000 in
theorem wi_X1_init : Cond.instanceMethod yX1_init ∈ WALL := by
  first
  | exact wt1 (sk16 (sk16 (sk16 (sk16 (sk16 (sk16 (sk16 (sk16 (List.Mem.tail _ (List.Mem.tail _ (List.Mem.tail _ (List.Mem.tail _ (List.Mem.tail _ (List.Mem.head _)))))))))))))) rfl
  | exact wall 230 (by decide +kernel) rfl
set_option maxRecDepth 100000 in
theorem wl_X1_5 : Cond.methodLink RX1 5 Lib.objectInit ∈ WALL := by
  first
  | exact wt1 (sk16 (sk16 (sk16 (sk16 (sk16 (sk16 (sk16 (sk16 (List.Mem.tail _ (List.Mem.tail _ (List.Mem.tail _ (List.Mem.tail _ (List.Mem.tail _ (List.Mem.tail _ (List.Mem.tail _ (List.Mem.head _)))))))))))))))) rfl
  | exact wall 232 (by decide +kernel) rfl
set_option maxRecDepth 100000 in
theorem wcl_X1_11 : Cond.classLink RX1 11 "[[I" ∈ WALL := by
  first
  | exact wt1 (sk16 (sk16 (sk16 (sk16 (sk16 (sk16 (sk16 (sk16 (List.Mem.tail _ (List.Mem.tail _ (List.Mem.tail _ (List.Mem.tail _ (List.Mem.tail _ (List.Mem.tail _ (List.Mem.tail _ (List.Mem.tail _ (List.Mem.head _))))))))))))))))) rfl
  | exact wall 233 (by decide +kernel) rfl
set_option maxRecDepth 100000 in
theorem wf_X1_26 : Cond.fieldLink RX1 26 "DayKnown$Days" "folk" "LDayKnown$Folk;" ∈ WALL := by
  first
  | exact wt1 (sk16 (sk16 (sk16 (sk16 (sk16 (sk16 (sk16 (sk16 (List.Mem.tail _ (List.Mem.tail _ (List.Mem.tail _ (List.Mem.tail _ (List.Mem.tail _ (List.Mem.tail _ (List.Mem.tail _ (List.Mem.tail _ (List.Mem.tail _ (List.Mem.tail _ (List.Mem.head _))))))))))))))))))) rfl
  | exact wall 235 (by decide +kernel) rfl
set_option maxRecDepth 100000 in
theorem wf_X1_13 : Cond.fieldLink RX1 13 "DayKnown$Days" "worths" "[[I" ∈ WALL := by
  first
  | exact wt1 (sk16 (sk16 (sk16 (sk16 (sk16 (sk16 (sk16 (sk16 (List.Mem.tail _ (List.Mem.tail _ (List.Mem.tail _ (List.Mem.tail _ (List.Mem.tail _ (List.Mem.tail _ (List.Mem.tail _ (List.Mem.tail _ (List.Mem.tail _ (List.Mem.tail _ (List.Mem.tail _ (List.Mem.tail _ (List.Mem.head _))))))))))))))))))))) rfl
  | exact wall 237 (by decide +kernel) rfl
set_option maxRecDepth 100000 in
theorem wf_X1_16 : Cond.fieldLink RX1 16 "DayKnown$Days" "worthsKind" "[I" ∈ WALL := by
  first
  | exact wt1 (sk16 (sk16 (sk16 (sk16 (sk16 (sk16 (sk16 (sk16 (List.Mem.tail _ (List.Mem.tail _ (List.Mem.tail _ (List.Mem.tail _ (List.Mem.tail _ (List.Mem.tail _ (List.Mem.tail _ (List.Mem.tail _ (List.Mem.tail _ (List.Mem.tail _ (List.Mem.tail _ (List.Mem.tail _ (List.Mem.tail _ (List.Mem.head _)))))))))))))))))))))) rfl
  | exact wall 238 (by decide +kernel) rfl
set_option maxRecDepth 100000 in
theorem wf_X1_20 : Cond.fieldLink RX1 20 "DayKnown$Days" "facts" "[I" ∈ WALL := by
  first
  | exact wt1 (sk16 (sk16 (sk16 (sk16 (sk16 (sk16 (sk16 (sk16 (List.Mem.tail _ (List.Mem.tail _ (List.Mem.tail _ (List.Mem.tail _ (List.Mem.tail _ (List.Mem.tail _ (List.Mem.tail _ (List.Mem.tail _ (List.Mem.tail _ (List.Mem.tail _ (List.Mem.tail _ (List.Mem.tail _ (List.Mem.tail _ (List.Mem.tail _ (List.Mem.head _))))))))))))))))))))))) rfl
  | exact wall 239 (by decide +kernel) rfl
set_option maxRecDepth 100000 in
theorem wf_X1_23 : Cond.fieldLink RX1 23 "DayKnown$Days" "replies" "[[I" ∈ WALL := by
  first
  | exact wt1 (sk16 (sk16 (sk16 (sk16 (sk16 (sk16 (sk16 (sk16 (List.Mem.tail _ (List.Mem.tail _ (List.Mem.tail _ (List.Mem.tail _ (List.Mem.tail _ (List.Mem.tail _ (List.Mem.tail _ (List.Mem.tail _ (List.Mem.tail _ (List.Mem.tail _ (List.Mem.tail _ (List.Mem.tail _ (List.Mem.tail _ (List.Mem.tail _ (List.Mem.tail _ (List.Mem.head _)))))))))))))))))))))))) rfl
  | exact wall 240 (by decide +kernel) rfl
set_option maxRecDepth 100000 in
theorem wf_X1_30 : Cond.fieldLink RX1 30 "DayKnown$Days" "isPrepared" "Z" ∈ WALL := by
  first
  | exact wt1 (sk16 (sk16 (sk16 (sk16 (sk16 (sk16 (sk16 (sk16 (sk16 (List.Mem.head _)))))))))) rfl
  | exact wall 241 (by decide +kernel) rfl
set_option maxRecDepth 100000 in
theorem wf_X1_34 : Cond.fieldLink RX1 34 "DayKnown$Days" "isSearched" "Z" ∈ WALL := by
  first
  | exact wt1 (sk16 (sk16 (sk16 (sk16 (sk16 (sk16 (sk16 (sk16 (sk16 (List.Mem.tail _ (List.Mem.head _))))))))))) rfl
  | exact wall 242 (by decide +kernel) rfl
set_option maxRecDepth 100000 in
theorem wf_X1_113 : Cond.fieldLink RX1 113 "DayKnown$Days" "stood" "I" ∈ WALL := by
  first
  | exact wt1 (sk16 (sk16 (sk16 (sk16 (sk16 (sk16 (sk16 (sk16 (sk16 (List.Mem.tail _ (List.Mem.tail _ (List.Mem.tail _ (List.Mem.head _))))))))))))) rfl
  | exact wall 244 (by decide +kernel) rfl
set_option maxRecDepth 100000 in
theorem wf_X1_116 : Cond.fieldLink RX1 116 "DayKnown$Days" "least" "I" ∈ WALL := by
  first
  | exact wt1 (sk16 (sk16 (sk16 (sk16 (sk16 (sk16 (sk16 (sk16 (sk16 (List.Mem.tail _ (List.Mem.tail _ (List.Mem.tail _ (List.Mem.tail _ (List.Mem.tail _ (List.Mem.head _))))))))))))))) rfl
  | exact wall 246 (by decide +kernel) rfl
set_option maxRecDepth 100000 in
theorem wf_X1_119 : Cond.fieldLink RX1 119 "DayKnown$Days" "greatest" "I" ∈ WALL := by
  first
  | exact wt1 (sk16 (sk16 (sk16 (sk16 (sk16 (sk16 (sk16 (sk16 (sk16 (List.Mem.tail _ (List.Mem.tail _ (List.Mem.tail _ (List.Mem.tail _ (List.Mem.tail _ (List.Mem.tail _ (List.Mem.tail _ (List.Mem.head _))))))))))))))))) rfl
  | exact wall 248 (by decide +kernel) rfl
set_option maxRecDepth 100000 in
theorem wf_X1_122 : Cond.fieldLink RX1 122 "DayKnown$Days" "chosen" "I" ∈ WALL := by
  first
  | exact wt1 (sk16 (sk16 (sk16 (sk16 (sk16 (sk16 (sk16 (sk16 (sk16 (List.Mem.tail _ (List.Mem.tail _ (List.Mem.tail _ (List.Mem.tail _ (List.Mem.tail _ (List.Mem.tail _ (List.Mem.tail _ (List.Mem.tail _ (List.Mem.tail _ (List.Mem.head _))))))))))))))))))) rfl
  | exact wall 250 (by decide +kernel) rfl
set_option maxRecDepth 100000 in
theorem wf_X1_139 : Cond.fieldLink RX1 139 "DayKnown$Days" "chosenGain" "I" ∈ WALL := by
  first
  | exact wt1 (sk16 (sk16 (sk16 (sk16 (sk16 (sk16 (sk16 (sk16 (sk16 (List.Mem.tail _ (List.Mem.tail _ (List.Mem.tail _ (List.Mem.tail _ (List.Mem.tail _ (List.Mem.tail _ (List.Mem.tail _ (List.Mem.tail _ (List.Mem.tail _ (List.Mem.tail _ (List.Mem.tail _ (List.Mem.head _))))))))))))))))))))) rfl
  | exact wall 252 (by decide +kernel) rfl
set_option maxRecDepth 100000 in
theorem wcl_X5_43 : Cond.classLink RX5 43 "DayKnown$Folk" ∈ WALL := by
  first
  | exact wt1 (sk16 (sk16 (sk16 (sk16 (sk16 (sk16 (sk16 (sk16 (sk16 (sk16 (sk16 (List.Mem.tail _ (List.Mem.tail _ (List.Mem.tail _ (List.Mem.tail _ (List.Mem.tail _ (List.Mem.head _))))))))))))))))) rfl
  | exact wall 278 (by decide +kernel) rfl
set_option maxRecDepth 100000 in
theorem wcl_X5_53 : Cond.classLink RX5 53 "DayKnown$Acts" ∈ WALL := by
  first
  | exact wt1 (sk16 (sk16 (sk16 (sk16 (sk16 (sk16 (sk16 (sk16 (sk16 (sk16 (sk16 (List.Mem.tail _ (List.Mem.tail _ (List.Mem.tail _ (List.Mem.tail _ (List.Mem.tail _ (List.Mem.tail _ (List.Mem.tail _ (List.Mem.head _))))))))))))))))))) rfl
  | exact wall 280 (by decide +kernel) rfl
set_option maxRecDepth 100000 in
theorem wn_X0 : Cond.instantiable RX0 5 ∈ WALL := by
  first
  | exact wt1 (sk16 (sk16 (sk16 (sk16 (sk16 (sk16 (sk16 (sk16 (sk16 (sk16 (sk16 (List.Mem.tail _ (List.Mem.tail _ (List.Mem.tail _ (List.Mem.tail _ (List.Mem.tail _ (List.Mem.tail _ (List.Mem.tail _ (List.Mem.tail _ (List.Mem.head _)))))))))))))))))))) rfl
  | exact wall 281 (by decide +kernel) rfl
set_option maxRecDepth 100000 in
theorem wi_X0_init : Cond.instanceMethod yX0_init ∈ WALL := by
  first
  | exact wt1 (sk16 (sk16 (sk16 (sk16 (sk16 (sk16 (sk16 (sk16 (sk16 (sk16 (sk16 (List.Mem.tail _ (List.Mem.tail _ (List.Mem.tail _ (List.Mem.tail _ (List.Mem.tail _ (List.Mem.tail _ (List.Mem.tail _ (List.Mem.tail _ (List.Mem.tail _ (List.Mem.tail _ (List.Mem.head _)))))))))))))))))))))) rfl
  | exact wall 283 (by decide +kernel) rfl
set_option maxRecDepth 100000 in
theorem wl_X0_3 : Cond.methodLink RX0 3 Lib.objectInit ∈ WALL := by
  first
  | exact wt1 (sk16 (sk16 (sk16 (sk16 (sk16 (sk16 (sk16 (sk16 (sk16 (sk16 (sk16 (List.Mem.tail _ (List.Mem.tail _ (List.Mem.tail _ (List.Mem.tail _ (List.Mem.tail _ (List.Mem.tail _ (List.Mem.tail _ (List.Mem.tail _ (List.Mem.tail _ (List.Mem.tail _ (List.Mem.tail _ (List.Mem.tail _ (List.Mem.head _)))))))))))))))))))))))) rfl
  | exact wall 285 (by decide +kernel) rfl
set_option maxRecDepth 100000 in
theorem wf_X0_11 : Cond.fieldLink RX0 11 "DayKnown$Acts" "bodies" "[I" ∈ WALL := by
  first
  | exact wt1 (sk16 (sk16 (sk16 (sk16 (sk16 (sk16 (sk16 (sk16 (sk16 (sk16 (sk16 (List.Mem.tail _ (List.Mem.tail _ (List.Mem.tail _ (List.Mem.tail _ (List.Mem.tail _ (List.Mem.tail _ (List.Mem.tail _ (List.Mem.tail _ (List.Mem.tail _ (List.Mem.tail _ (List.Mem.tail _ (List.Mem.tail _ (List.Mem.tail _ (List.Mem.head _))))))))))))))))))))))))) rfl
  | exact wall 286 (by decide +kernel) rfl
set_option maxRecDepth 100000 in
theorem wf_X0_15 : Cond.fieldLink RX0 15 "DayKnown$Acts" "ran" "I" ∈ WALL := by
  first
  | exact wt1 (sk16 (sk16 (sk16 (sk16 (sk16 (sk16 (sk16 (sk16 (sk16 (sk16 (sk16 (List.Mem.tail _ (List.Mem.tail _ (List.Mem.tail _ (List.Mem.tail _ (List.Mem.tail _ (List.Mem.tail _ (List.Mem.tail _ (List.Mem.tail _ (List.Mem.tail _ (List.Mem.tail _ (List.Mem.tail _ (List.Mem.tail _ (List.Mem.tail _ (List.Mem.tail _ (List.Mem.tail _ (List.Mem.head _))))))))))))))))))))))))))) rfl
  | exact wall 288 (by decide +kernel) rfl
set_option maxRecDepth 100000 in
theorem wf_X0_25 : Cond.fieldLink RX0 25 "DayKnown$Acts" "self" "I" ∈ WALL := by
  first
  | exact wt1 (sk16 (sk16 (sk16 (sk16 (sk16 (sk16 (sk16 (sk16 (sk16 (sk16 (sk16 (sk16 (List.Mem.tail _ (List.Mem.head _)))))))))))))) rfl
  | exact wall 290 (by decide +kernel) rfl
set_option maxRecDepth 100000 in
theorem wf_X0_31 : Cond.fieldLink RX0 31 "DayKnown$Acts" "kind" "I" ∈ WALL := by
  first
  | exact wt1 (sk16 (sk16 (sk16 (sk16 (sk16 (sk16 (sk16 (sk16 (sk16 (sk16 (sk16 (sk16 (List.Mem.tail _ (List.Mem.tail _ (List.Mem.head _))))))))))))))) rfl
  | exact wall 291 (by decide +kernel) rfl
set_option maxRecDepth 100000 in
theorem wf_X0_36 : Cond.fieldLink RX0 36 "DayKnown$Acts" "v" "I" ∈ WALL := by
  first
  | exact wt1 (sk16 (sk16 (sk16 (sk16 (sk16 (sk16 (sk16 (sk16 (sk16 (sk16 (sk16 (sk16 (List.Mem.tail _ (List.Mem.tail _ (List.Mem.tail _ (List.Mem.head _)))))))))))))))) rfl
  | exact wall 292 (by decide +kernel) rfl
set_option maxRecDepth 100000 in
theorem wf_X5_12 : Cond.fieldLink RX5 12 "DayKnown" "held" "LDayKnown$Held;" ∈ WALL := by
  first
  | exact wt1 (sk16 (sk16 (sk16 (sk16 (sk16 (sk16 (sk16 (sk16 (sk16 (sk16 (sk16 (sk16 (List.Mem.tail _ (List.Mem.tail _ (List.Mem.tail _ (List.Mem.tail _ (List.Mem.tail _ (List.Mem.tail _ (List.Mem.tail _ (List.Mem.tail _ (List.Mem.tail _ (List.Mem.tail _ (List.Mem.tail _ (List.Mem.tail _ (List.Mem.tail _ (List.Mem.tail _ (List.Mem.tail _ (List.Mem.head _)))))))))))))))))))))))))))) rfl
  | exact wall 304 (by decide +kernel) rfl
set_option maxRecDepth 100000 in
theorem wf_X5_16 : Cond.fieldLink RX5 16 "DayKnown" "saved" "LDayKnown$Held;" ∈ WALL := by
  first
  | exact wt1 (sk16 (sk16 (sk16 (sk16 (sk16 (sk16 (sk16 (sk16 (sk16 (sk16 (sk16 (sk16 (sk16 (List.Mem.head _)))))))))))))) rfl
  | exact wall 305 (by decide +kernel) rfl
set_option maxRecDepth 100000 in
theorem wf_X5_252 : Cond.fieldLink RX5 252 "DayKnown" "isSaved" "Z" ∈ WALL := by
  first
  | exact wt1 (sk16 (sk16 (sk16 (sk16 (sk16 (sk16 (sk16 (sk16 (sk16 (sk16 (sk16 (sk16 (sk16 (List.Mem.tail _ (List.Mem.head _))))))))))))))) rfl
  | exact wall 306 (by decide +kernel) rfl
set_option maxRecDepth 100000 in
theorem wf_X5_22 : Cond.fieldLink RX5 22 "DayKnown" "noTown" "LDayKnown$Town;" ∈ WALL := by
  first
  | exact wt1 (sk16 (sk16 (sk16 (sk16 (sk16 (sk16 (sk16 (sk16 (sk16 (sk16 (sk16 (sk16 (sk16 (List.Mem.tail _ (List.Mem.tail _ (List.Mem.head _)))))))))))))))) rfl
  | exact wall 307 (by decide +kernel) rfl
set_option maxRecDepth 100000 in
theorem wf_X5_26 : Cond.fieldLink RX5 26 "DayKnown" "towns" "[LDayKnown$Town;" ∈ WALL := by
  first
  | exact wt1 (sk16 (sk16 (sk16 (sk16 (sk16 (sk16 (sk16 (sk16 (sk16 (sk16 (sk16 (sk16 (sk16 (List.Mem.tail _ (List.Mem.tail _ (List.Mem.tail _ (List.Mem.head _))))))))))))))))) rfl
  | exact wall 308 (by decide +kernel) rfl
set_option maxRecDepth 100000 in
theorem wf_X5_39 : Cond.fieldLink RX5 39 "DayKnown" "now" "LDayKnown$Days;" ∈ WALL := by
  first
  | exact wt1 (sk16 (sk16 (sk16 (sk16 (sk16 (sk16 (sk16 (sk16 (sk16 (sk16 (sk16 (sk16 (sk16 (List.Mem.tail _ (List.Mem.tail _ (List.Mem.tail _ (List.Mem.tail _ (List.Mem.head _)))))))))))))))))) rfl
  | exact wall 309 (by decide +kernel) rfl
set_option maxRecDepth 100000 in
theorem wf_X5_46 : Cond.fieldLink RX5 46 "DayKnown" "then" "LDayKnown$Days;" ∈ WALL := by
  first
  | exact wt1 (sk16 (sk16 (sk16 (sk16 (sk16 (sk16 (sk16 (sk16 (sk16 (sk16 (sk16 (sk16 (sk16 (List.Mem.tail _ (List.Mem.tail _ (List.Mem.tail _ (List.Mem.tail _ (List.Mem.tail _ (List.Mem.head _))))))))))))))))))) rfl
  | exact wall 310 (by decide +kernel) rfl
set_option maxRecDepth 100000 in
theorem wf_X5_49 : Cond.fieldLink RX5 49 "DayKnown" "path" "[I" ∈ WALL := by
  first
  | exact wt1 (sk16 (sk16 (sk16 (sk16 (sk16 (sk16 (sk16 (sk16 (sk16 (sk16 (sk16 (sk16 (sk16 (List.Mem.tail _ (List.Mem.tail _ (List.Mem.tail _ (List.Mem.tail _ (List.Mem.tail _ (List.Mem.tail _ (List.Mem.head _)))))))))))))))))))) rfl
  | exact wall 311 (by decide +kernel) rfl
set_option maxRecDepth 100000 in
theorem wf_X5_56 : Cond.fieldLink RX5 56 "DayKnown" "acts" "LDayKnown$Acts;" ∈ WALL := by
  first
  | exact wt1 (sk16 (sk16 (sk16 (sk16 (sk16 (sk16 (sk16 (sk16 (sk16 (sk16 (sk16 (sk16 (sk16 (List.Mem.tail _ (List.Mem.tail _ (List.Mem.tail _ (List.Mem.tail _ (List.Mem.tail _ (List.Mem.tail _ (List.Mem.tail _ (List.Mem.head _))))))))))))))))))))) rfl
  | exact wall 312 (by decide +kernel) rfl
set_option maxRecDepth 100000 in
theorem wl_L_13 : Cond.methodLink RL 13 yX5_feed ∈ WALL := by
  first
  | exact wt1 (sk16 (sk16 (sk16 (sk16 (sk16 (sk16 (sk16 (sk16 (sk16 (sk16 (sk16 (sk16 (sk16 (sk16 (List.Mem.tail _ (List.Mem.tail _ (List.Mem.tail _ (List.Mem.tail _ (List.Mem.tail _ (List.Mem.tail _ (List.Mem.tail _ (List.Mem.tail _ (List.Mem.tail _ (List.Mem.tail _ (List.Mem.tail _ (List.Mem.head _)))))))))))))))))))))))))) rfl
  | exact wall 332 (by decide +kernel) rfl
set_option maxRecDepth 100000 in
theorem wi_X5_feed : Cond.instanceMethod yX5_feed ∈ WALL := by
  first
  | exact wt1 (sk16 (sk16 (sk16 (sk16 (sk16 (sk16 (sk16 (sk16 (sk16 (sk16 (sk16 (sk16 (sk16 (sk16 (List.Mem.tail _ (List.Mem.tail _ (List.Mem.tail _ (List.Mem.tail _ (List.Mem.tail _ (List.Mem.tail _ (List.Mem.tail _ (List.Mem.tail _ (List.Mem.tail _ (List.Mem.tail _ (List.Mem.tail _ (List.Mem.tail _ (List.Mem.head _))))))))))))))))))))))))))) rfl
  | exact wall 333 (by decide +kernel) rfl
set_option maxRecDepth 100000 in
theorem we_X5_feed : Cond.selects RX5 yX5_feed yX5_feed ∈ WALL := by
  first
  | exact wt1 (sk16 (sk16 (sk16 (sk16 (sk16 (sk16 (sk16 (sk16 (sk16 (sk16 (sk16 (sk16 (sk16 (sk16 (List.Mem.tail _ (List.Mem.tail _ (List.Mem.tail _ (List.Mem.tail _ (List.Mem.tail _ (List.Mem.tail _ (List.Mem.tail _ (List.Mem.tail _ (List.Mem.tail _ (List.Mem.tail _ (List.Mem.tail _ (List.Mem.tail _ (List.Mem.tail _ (List.Mem.head _)))))))))))))))))))))))))))) rfl
  | exact wall 334 (by decide +kernel) rfl
set_option maxRecDepth 100000 in
theorem wl_L_18 : Cond.methodLink RL 18 yX5_town ∈ WALL := by
  first
  | exact wt1 (sk16 (sk16 (sk16 (sk16 (sk16 (sk16 (sk16 (sk16 (sk16 (sk16 (sk16 (sk16 (sk16 (sk16 (List.Mem.tail _ (List.Mem.tail _ (List.Mem.tail _ (List.Mem.tail _ (List.Mem.tail _ (List.Mem.tail _ (List.Mem.tail _ (List.Mem.tail _ (List.Mem.tail _ (List.Mem.tail _ (List.Mem.tail _ (List.Mem.tail _ (List.Mem.tail _ (List.Mem.tail _ (List.Mem.tail _ (List.Mem.head _)))))))))))))))))))))))))))))) rfl
  | exact wall 336 (by decide +kernel) rfl
set_option maxRecDepth 100000 in
theorem wi_X5_town : Cond.instanceMethod yX5_town ∈ WALL := by
  first
  | exact wt2 (List.Mem.head _) rfl
  | exact wall 337 (by decide +kernel) rfl
set_option maxRecDepth 100000 in
theorem we_X5_town : Cond.selects RX5 yX5_town yX5_town ∈ WALL := by
  first
  | exact wt2 (List.Mem.tail _ (List.Mem.head _)) rfl
  | exact wall 338 (by decide +kernel) rfl
set_option maxRecDepth 100000 in
theorem wi_X4_read : Cond.instanceMethod yX4_read ∈ WALL := by
  first
  | exact wt2 (List.Mem.tail _ (List.Mem.tail _ (List.Mem.tail _ (List.Mem.tail _ (List.Mem.tail _ (List.Mem.head _)))))) rfl
  | exact wall 342 (by decide +kernel) rfl
set_option maxRecDepth 100000 in
theorem wl_X4_24 : Cond.methodLink RX4 24 yJ9_min_7cf53 ∈ WALL := by
  first
  | exact wt2 (List.Mem.tail _ (List.Mem.tail _ (List.Mem.tail _ (List.Mem.tail _ (List.Mem.tail _ (List.Mem.tail _ (List.Mem.tail _ (List.Mem.head _)))))))) rfl
  | exact wall 344 (by decide +kernel) rfl
set_option maxRecDepth 100000 in
theorem wt_J9_min_7cf53 : Cond.static yJ9_min_7cf53 ∈ WALL := by
  first
  | exact wt2 (List.Mem.tail _ (List.Mem.tail _ (List.Mem.tail _ (List.Mem.tail _ (List.Mem.tail _ (List.Mem.tail _ (List.Mem.tail _ (List.Mem.tail _ (List.Mem.head _))))))))) rfl
  | exact wall 345 (by decide +kernel) rfl
set_option maxRecDepth 100000 in
theorem wl_X4_30 : Cond.methodLink RX4 30 yJ9_max_7cf53 ∈ WALL := by
  first
  | exact wt2 (List.Mem.tail _ (List.Mem.tail _ (List.Mem.tail _ (List.Mem.tail _ (List.Mem.tail _ (List.Mem.tail _ (List.Mem.tail _ (List.Mem.tail _ (List.Mem.tail _ (List.Mem.tail _ (List.Mem.head _))))))))))) rfl
  | exact wall 347 (by decide +kernel) rfl
set_option maxRecDepth 100000 in
theorem wt_J9_max_7cf53 : Cond.static yJ9_max_7cf53 ∈ WALL := by
  first
  | exact wt2 (List.Mem.tail _ (List.Mem.tail _ (List.Mem.tail _ (List.Mem.tail _ (List.Mem.tail _ (List.Mem.tail _ (List.Mem.tail _ (List.Mem.tail _ (List.Mem.tail _ (List.Mem.tail _ (List.Mem.tail _ (List.Mem.head _)))))))))))) rfl
  | exact wall 348 (by decide +kernel) rfl
set_option maxRecDepth 100000 in
theorem wl_X4_37 : Cond.methodLink RX4 37 arraycopyName ∈ WALL := by
  first
  | exact wt2 (List.Mem.tail _ (List.Mem.tail _ (List.Mem.tail _ (List.Mem.tail _ (List.Mem.tail _ (List.Mem.tail _ (List.Mem.tail _ (List.Mem.tail _ (List.Mem.tail _ (List.Mem.tail _ (List.Mem.tail _ (List.Mem.tail _ (List.Mem.tail _ (List.Mem.head _)))))))))))))) rfl
  | exact wall 350 (by decide +kernel) rfl
set_option maxRecDepth 100000 in
theorem wt_arraycopy : Cond.static arraycopyName ∈ WALL := by
  first
  | exact wt2 (List.Mem.tail _ (List.Mem.tail _ (List.Mem.tail _ (List.Mem.tail _ (List.Mem.tail _ (List.Mem.tail _ (List.Mem.tail _ (List.Mem.tail _ (List.Mem.tail _ (List.Mem.tail _ (List.Mem.tail _ (List.Mem.tail _ (List.Mem.tail _ (List.Mem.tail _ (List.Mem.head _))))))))))))))) rfl
  | exact wall 351 (by decide +kernel) rfl
set_option maxRecDepth 100000 in
theorem wnat_arraycopy : Cond.native arraycopyName ∈ WALL := by
  first
  | exact wt2 (List.Mem.tail _ (List.Mem.tail _ (List.Mem.tail _ (List.Mem.tail _ (List.Mem.tail _ (List.Mem.tail _ (List.Mem.tail _ (List.Mem.tail _ (List.Mem.tail _ (List.Mem.tail _ (List.Mem.tail _ (List.Mem.tail _ (List.Mem.tail _ (List.Mem.tail _ (List.Mem.tail _ (List.Mem.head _)))))))))))))))) rfl
  | exact wall 352 (by decide +kernel) rfl
set_option maxRecDepth 100000 in
theorem wl_X4_55 : Cond.methodLink RX4 55 yX4_readClause ∈ WALL := by
  first
  | exact wt2 (sk16 (List.Mem.head _)) rfl
  | exact wall 353 (by decide +kernel) rfl
set_option maxRecDepth 100000 in
theorem wi_X4_readClause : Cond.instanceMethod yX4_readClause ∈ WALL := by
  first
  | exact wt2 (sk16 (List.Mem.tail _ (List.Mem.tail _ (List.Mem.head _)))) rfl
  | exact wall 355 (by decide +kernel) rfl
set_option maxRecDepth 100000 in
theorem wl_X4_63 : Cond.methodLink RX4 63 yX4_sign ∈ WALL := by
  first
  | exact wt2 (sk16 (List.Mem.tail _ (List.Mem.tail _ (List.Mem.tail _ (List.Mem.tail _ (List.Mem.head _)))))) rfl
  | exact wall 357 (by decide +kernel) rfl
set_option maxRecDepth 100000 in
theorem wi_X4_sign : Cond.instanceMethod yX4_sign ∈ WALL := by
  first
  | exact wt2 (sk16 (List.Mem.tail _ (List.Mem.tail _ (List.Mem.tail _ (List.Mem.tail _ (List.Mem.tail _ (List.Mem.tail _ (List.Mem.head _)))))))) rfl
  | exact wall 359 (by decide +kernel) rfl
set_option maxRecDepth 100000 in
theorem wl_X4_82 : Cond.methodLink RX4 82 yX4_takeWord ∈ WALL := by
  first
  | exact wt2 (sk16 (List.Mem.tail _ (List.Mem.tail _ (List.Mem.tail _ (List.Mem.tail _ (List.Mem.tail _ (List.Mem.tail _ (List.Mem.tail _ (List.Mem.tail _ (List.Mem.tail _ (List.Mem.tail _ (List.Mem.tail _ (List.Mem.head _))))))))))))) rfl
  | exact wall 364 (by decide +kernel) rfl
set_option maxRecDepth 100000 in
theorem wi_X4_takeWord : Cond.instanceMethod yX4_takeWord ∈ WALL := by
  first
  | exact wt2 (sk16 (List.Mem.tail _ (List.Mem.tail _ (List.Mem.tail _ (List.Mem.tail _ (List.Mem.tail _ (List.Mem.tail _ (List.Mem.tail _ (List.Mem.tail _ (List.Mem.tail _ (List.Mem.tail _ (List.Mem.tail _ (List.Mem.tail _ (List.Mem.tail _ (List.Mem.head _))))))))))))))) rfl
  | exact wall 366 (by decide +kernel) rfl
set_option maxRecDepth 100000 in
theorem wl_X4_67 : Cond.methodLink RX4 67 yJ0_length_8abf5 ∈ WALL := by
  first
  | exact wt2 (sk16 (List.Mem.tail _ (List.Mem.tail _ (List.Mem.tail _ (List.Mem.tail _ (List.Mem.tail _ (List.Mem.tail _ (List.Mem.tail _ (List.Mem.tail _ (List.Mem.tail _ (List.Mem.tail _ (List.Mem.tail _ (List.Mem.tail _ (List.Mem.tail _ (List.Mem.tail _ (List.Mem.tail _ (List.Mem.head _))))))))))))))))) rfl
  | exact wall 368 (by decide +kernel) rfl
set_option maxRecDepth 100000 in
theorem wi_J0_length_8abf5 : Cond.instanceMethod yJ0_length_8abf5 ∈ WALL := by
  first
  | exact wt2 (sk16 (sk16 (List.Mem.head _))) rfl
  | exact wall 369 (by decide +kernel) rfl
set_option maxRecDepth 100000 in
theorem we_J0_length_8abf5 : Cond.selects RJ0 yJ0_length_8abf5 yJ0_length_8abf5 ∈ WALL := by
  first
  | exact wt2 (sk16 (sk16 (List.Mem.tail _ (List.Mem.head _)))) rfl
  | exact wall 370 (by decide +kernel) rfl
set_option maxRecDepth 100000 in
theorem wl_J0_335 : Cond.methodLink RJ0 335 yJ0_coder_7d493 ∈ WALL := by
  first
  | exact wt2 (sk16 (sk16 (List.Mem.tail _ (List.Mem.tail _ (List.Mem.tail _ (List.Mem.head _)))))) rfl
  | exact wall 372 (by decide +kernel) rfl
set_option maxRecDepth 100000 in
theorem wi_J0_coder_7d493 : Cond.instanceMethod yJ0_coder_7d493 ∈ WALL := by
  first
  | exact wt2 (sk16 (sk16 (List.Mem.tail _ (List.Mem.tail _ (List.Mem.tail _ (List.Mem.tail _ (List.Mem.head _))))))) rfl
  | exact wall 373 (by decide +kernel) rfl
set_option maxRecDepth 100000 in
theorem we_J0_coder_7d493 : Cond.selects RJ0 yJ0_coder_7d493 yJ0_coder_7d493 ∈ WALL := by
  first
  | exact wt2 (sk16 (sk16 (List.Mem.tail _ (List.Mem.tail _ (List.Mem.tail _ (List.Mem.tail _ (List.Mem.tail _ (List.Mem.head _)))))))) rfl
  | exact wall 374 (by decide +kernel) rfl
set_option maxRecDepth 100000 in
theorem wf_J0_38 : Cond.fieldLink RJ0 38 "java/lang/String" "COMPACT_STRINGS" "Z" ∈ WALL := by
  first
  | exact wt2 (sk16 (sk16 (List.Mem.tail _ (List.Mem.tail _ (List.Mem.tail _ (List.Mem.tail _ (List.Mem.tail _ (List.Mem.tail _ (List.Mem.tail _ (List.Mem.head _)))))))))) rfl
  | exact wall 376 (by decide +kernel) rfl
set_option maxRecDepth 100000 in
theorem wl_X4_72 : Cond.methodLink RX4 72 yJ0_charAt_5068e ∈ WALL := by
  first
  | exact wt2 (sk16 (sk16 (List.Mem.tail _ (List.Mem.tail _ (List.Mem.tail _ (List.Mem.tail _ (List.Mem.tail _ (List.Mem.tail _ (List.Mem.tail _ (List.Mem.tail _ (List.Mem.tail _ (List.Mem.head _)))))))))))) rfl
  | exact wall 378 (by decide +kernel) rfl
set_option maxRecDepth 100000 in
theorem wi_J0_charAt_5068e : Cond.instanceMethod yJ0_charAt_5068e ∈ WALL := by
  first
  | exact wt2 (sk16 (sk16 (List.Mem.tail _ (List.Mem.tail _ (List.Mem.tail _ (List.Mem.tail _ (List.Mem.tail _ (List.Mem.tail _ (List.Mem.tail _ (List.Mem.tail _ (List.Mem.tail _ (List.Mem.tail _ (List.Mem.head _))))))))))))) rfl
  | exact wall 379 (by decide +kernel) rfl
set_option maxRecDepth 100000 in
theorem we_J0_charAt_5068e : Cond.selects RJ0 yJ0_charAt_5068e yJ0_charAt_5068e ∈ WALL := by
  first
  | exact wt2 (sk16 (sk16 (List.Mem.tail _ (List.Mem.tail _ (List.Mem.tail _ (List.Mem.tail _ (List.Mem.tail _ (List.Mem.tail _ (List.Mem.tail _ (List.Mem.tail _ (List.Mem.tail _ (List.Mem.tail _ (List.Mem.tail _ (List.Mem.head _)))))))))))))) rfl
  | exact wall 380 (by decide +kernel) rfl
set_option maxRecDepth 100000 in
theorem wl_J0_492 : Cond.methodLink RJ0 492 yJ0_isLatin1_aae02 ∈ WALL := by
  first
  | exact wt2 (sk16 (sk16 (List.Mem.tail _ (List.Mem.tail _ (List.Mem.tail _ (List.Mem.tail _ (List.Mem.tail _ (List.Mem.tail _ (List.Mem.tail _ (List.Mem.tail _ (List.Mem.tail _ (List.Mem.tail _ (List.Mem.tail _ (List.Mem.tail _ (List.Mem.tail _ (List.Mem.head _)))))))))))))))) rfl
  | exact wall 382 (by decide +kernel) rfl
set_option maxRecDepth 100000 in
theorem wi_J0_isLatin1_aae02 : Cond.instanceMethod yJ0_isLatin1_aae02 ∈ WALL := by
  first
  | exact wt2 (sk16 (sk16 (List.Mem.tail _ (List.Mem.tail _ (List.Mem.tail _ (List.Mem.tail _ (List.Mem.tail _ (List.Mem.tail _ (List.Mem.tail _ (List.Mem.tail _ (List.Mem.tail _ (List.Mem.tail _ (List.Mem.tail _ (List.Mem.tail _ (List.Mem.tail _ (List.Mem.tail _ (List.Mem.head _))))))))))))))))) rfl
  | exact wall 383 (by decide +kernel) rfl
set_option maxRecDepth 100000 in
theorem we_J0_isLatin1_aae02 : Cond.selects RJ0 yJ0_isLatin1_aae02 yJ0_isLatin1_aae02 ∈ WALL := by
  first
  | exact wt2 (sk16 (sk16 (List.Mem.tail _ (List.Mem.tail _ (List.Mem.tail _ (List.Mem.tail _ (List.Mem.tail _ (List.Mem.tail _ (List.Mem.tail _ (List.Mem.tail _ (List.Mem.tail _ (List.Mem.tail _ (List.Mem.tail _ (List.Mem.tail _ (List.Mem.tail _ (List.Mem.tail _ (List.Mem.tail _ (List.Mem.head _)))))))))))))))))) rfl
  | exact wall 384 (by decide +kernel) rfl
set_option maxRecDepth 100000 in
theorem wl_J0_495 : Cond.methodLink RJ0 495 yJ1_charAt_3b067 ∈ WALL := by
  first
  | exact wt2 (sk16 (sk16 (sk16 (List.Mem.tail _ (List.Mem.head _))))) rfl
  | exact wall 386 (by decide +kernel) rfl
set_option maxRecDepth 100000 in
theorem wt_J1_charAt_3b067 : Cond.static yJ1_charAt_3b067 ∈ WALL := by
  first
  | exact wt2 (sk16 (sk16 (sk16 (List.Mem.tail _ (List.Mem.tail _ (List.Mem.head _)))))) rfl
  | exact wall 387 (by decide +kernel) rfl
set_option maxRecDepth 100000 in
theorem wl_J1_9 : Cond.methodLink RJ1 9 yJ0_checkIndex_df160 ∈ WALL := by
  first
  | exact wt2 (sk16 (sk16 (sk16 (List.Mem.tail _ (List.Mem.tail _ (List.Mem.tail _ (List.Mem.tail _ (List.Mem.head _)))))))) rfl
  | exact wall 389 (by decide +kernel) rfl
set_option maxRecDepth 100000 in
theorem wt_J0_checkIndex_df160 : Cond.static yJ0_checkIndex_df160 ∈ WALL := by
  first
  | exact wt2 (sk16 (sk16 (sk16 (List.Mem.tail _ (List.Mem.tail _ (List.Mem.tail _ (List.Mem.tail _ (List.Mem.tail _ (List.Mem.head _))))))))) rfl
  | exact wall 390 (by decide +kernel) rfl
set_option maxRecDepth 100000 in
theorem wf_J0_1053 : Cond.fieldLink RJ0 1053 "jdk/internal/util/Preconditions" "SIOOBE_FORMATTER" "Ljava/util/function/BiFunction;" ∈ WALL := by
  first
  | exact wt2 (sk16 (sk16 (sk16 (List.Mem.tail _ (List.Mem.tail _ (List.Mem.tail _ (List.Mem.tail _ (List.Mem.tail _ (List.Mem.tail _ (List.Mem.tail _ (List.Mem.head _))))))))))) rfl
  | exact wall 392 (by decide +kernel) rfl
set_option maxRecDepth 100000 in
theorem wl_J0_1059 : Cond.methodLink RJ0 1059 yJ3_checkIndex_8e157 ∈ WALL := by
  first
  | exact wt2 (sk16 (sk16 (sk16 (List.Mem.tail _ (List.Mem.tail _ (List.Mem.tail _ (List.Mem.tail _ (List.Mem.tail _ (List.Mem.tail _ (List.Mem.tail _ (List.Mem.tail _ (List.Mem.tail _ (List.Mem.head _))))))))))))) rfl
  | exact wall 394 (by decide +kernel) rfl
set_option maxRecDepth 100000 in
theorem wt_J3_checkIndex_8e157 : Cond.static yJ3_checkIndex_8e157 ∈ WALL := by
  first
  | exact wt2 (sk16 (sk16 (sk16 (List.Mem.tail _ (List.Mem.tail _ (List.Mem.tail _ (List.Mem.tail _ (List.Mem.tail _ (List.Mem.tail _ (List.Mem.tail _ (List.Mem.tail _ (List.Mem.tail _ (List.Mem.tail _ (List.Mem.head _)))))))))))))) rfl
  | exact wall 395 (by decide +kernel) rfl
set_option maxRecDepth 100000 in
theorem wl_J0_498 : Cond.methodLink RJ0 498 yJ2_charAt_3b067 ∈ WALL := by
  first
  | exact wt2 (sk16 (sk16 (sk16 (List.Mem.tail _ (List.Mem.tail _ (List.Mem.tail _ (List.Mem.tail _ (List.Mem.tail _ (List.Mem.tail _ (List.Mem.tail _ (List.Mem.tail _ (List.Mem.tail _ (List.Mem.tail _ (List.Mem.tail _ (List.Mem.tail _ (List.Mem.head _)))))))))))))))) rfl
  | exact wall 397 (by decide +kernel) rfl
set_option maxRecDepth 100000 in
theorem wt_J2_charAt_3b067 : Cond.static yJ2_charAt_3b067 ∈ WALL := by
  first
  | exact wt2 (sk16 (sk16 (sk16 (List.Mem.tail _ (List.Mem.tail _ (List.Mem.tail _ (List.Mem.tail _ (List.Mem.tail _ (List.Mem.tail _ (List.Mem.tail _ (List.Mem.tail _ (List.Mem.tail _ (List.Mem.tail _ (List.Mem.tail _ (List.Mem.tail _ (List.Mem.tail _ (List.Mem.head _))))))))))))))))) rfl
  | exact wall 398 (by decide +kernel) rfl
set_option maxRecDepth 100000 in
theorem wl_J2_67 : Cond.methodLink RJ2 67 yJ2_checkIndex_2214a ∈ WALL := by
  first
  | exact wt2 (sk16 (sk16 (sk16 (List.Mem.tail _ (List.Mem.tail _ (List.Mem.tail _ (List.Mem.tail _ (List.Mem.tail _ (List.Mem.tail _ (List.Mem.tail _ (List.Mem.tail _ (List.Mem.tail _ (List.Mem.tail _ (List.Mem.tail _ (List.Mem.tail _ (List.Mem.tail _ (List.Mem.tail _ (List.Mem.tail _ (List.Mem.head _))))))))))))))))))) rfl
  | exact wall 400 (by decide +kernel) rfl
set_option maxRecDepth 100000 in
theorem wt_J2_checkIndex_2214a : Cond.static yJ2_checkIndex_2214a ∈ WALL := by
  first
  | exact wt2 (sk16 (sk16 (sk16 (sk16 (List.Mem.head _))))) rfl
  | exact wall 401 (by decide +kernel) rfl
set_option maxRecDepth 100000 in
theorem wl_J2_48 : Cond.methodLink RJ2 48 yJ2_length_9d52b ∈ WALL := by
  first
  | exact wt2 (sk16 (sk16 (sk16 (sk16 (List.Mem.tail _ (List.Mem.tail _ (List.Mem.head _))))))) rfl
  | exact wall 403 (by decide +kernel) rfl
set_option maxRecDepth 100000 in
theorem wt_J2_length_9d52b : Cond.static yJ2_length_9d52b ∈ WALL := by
  first
  | exact wt2 (sk16 (sk16 (sk16 (sk16 (List.Mem.tail _ (List.Mem.tail _ (List.Mem.tail _ (List.Mem.head _)))))))) rfl
  | exact wall 404 (by decide +kernel) rfl
set_option maxRecDepth 100000 in
theorem wl_J2_414 : Cond.methodLink RJ2 414 yJ0_checkIndex_df160 ∈ WALL := by
  first
  | exact wt2 (sk16 (sk16 (sk16 (sk16 (List.Mem.tail _ (List.Mem.tail _ (List.Mem.tail _ (List.Mem.tail _ (List.Mem.tail _ (List.Mem.head _)))))))))) rfl
  | exact wall 406 (by decide +kernel) rfl
set_option maxRecDepth 100000 in
theorem wl_J2_71 : Cond.methodLink RJ2 71 yJ2_getChar_3b067 ∈ WALL := by
  first
  | exact wt2 (sk16 (sk16 (sk16 (sk16 (List.Mem.tail _ (List.Mem.tail _ (List.Mem.tail _ (List.Mem.tail _ (List.Mem.tail _ (List.Mem.tail _ (List.Mem.head _))))))))))) rfl
  | exact wall 407 (by decide +kernel) rfl
set_option maxRecDepth 100000 in
theorem wt_J2_getChar_3b067 : Cond.static yJ2_getChar_3b067 ∈ WALL := by
  first
  | exact wt2 (sk16 (sk16 (sk16 (sk16 (List.Mem.tail _ (List.Mem.tail _ (List.Mem.tail _ (List.Mem.tail _ (List.Mem.tail _ (List.Mem.tail _ (List.Mem.tail _ (List.Mem.head _)))))))))))) rfl
  | exact wall 408 (by decide +kernel) rfl
set_option maxRecDepth 100000 in
theorem wf_J2_44 : Cond.fieldLink RJ2 44 "java/lang/StringUTF16" "$assertionsDisabled" "Z" ∈ WALL := by
  first
  | exact wt2 (sk16 (sk16 (sk16 (sk16 (List.Mem.tail _ (List.Mem.tail _ (List.Mem.tail _ (List.Mem.tail _ (List.Mem.tail _ (List.Mem.tail _ (List.Mem.tail _ (List.Mem.tail _ (List.Mem.tail _ (List.Mem.head _)))))))))))))) rfl
  | exact wall 410 (by decide +kernel) rfl
set_option maxRecDepth 100000 in
theorem wf_J2_59 : Cond.fieldLink RJ2 59 "java/lang/StringUTF16" "HI_BYTE_SHIFT" "I" ∈ WALL := by
  first
  | exact wt2 (sk16 (sk16 (sk16 (sk16 (List.Mem.tail _ (List.Mem.tail _ (List.Mem.tail _ (List.Mem.tail _ (List.Mem.tail _ (List.Mem.tail _ (List.Mem.tail _ (List.Mem.tail _ (List.Mem.tail _ (List.Mem.tail _ (List.Mem.tail _ (List.Mem.head _)))))))))))))))) rfl
  | exact wall 412 (by decide +kernel) rfl
set_option maxRecDepth 100000 in
theorem wf_J2_63 : Cond.fieldLink RJ2 63 "java/lang/StringUTF16" "LO_BYTE_SHIFT" "I" ∈ WALL := by
  first
  | exact wt2 (sk16 (sk16 (sk16 (sk16 (List.Mem.tail _ (List.Mem.tail _ (List.Mem.tail _ (List.Mem.tail _ (List.Mem.tail _ (List.Mem.tail _ (List.Mem.tail _ (List.Mem.tail _ (List.Mem.tail _ (List.Mem.tail _ (List.Mem.tail _ (List.Mem.tail _ (List.Mem.tail _ (List.Mem.head _)))))))))))))))))) rfl
  | exact wall 414 (by decide +kernel) rfl
set_option maxRecDepth 100000 in
theorem wl_X4_59 : Cond.methodLink RX4 59 yX4_take ∈ WALL := by
  first
  | exact wt2 (sk16 (sk16 (sk16 (sk16 (List.Mem.tail _ (List.Mem.tail _ (List.Mem.tail _ (List.Mem.tail _ (List.Mem.tail _ (List.Mem.tail _ (List.Mem.tail _ (List.Mem.tail _ (List.Mem.tail _ (List.Mem.tail _ (List.Mem.tail _ (List.Mem.tail _ (List.Mem.tail _ (List.Mem.tail _ (List.Mem.tail _ (List.Mem.head _)))))))))))))))))))) rfl
  | exact wall 416 (by decide +kernel) rfl
set_option maxRecDepth 100000 in
theorem wi_X4_take : Cond.instanceMethod yX4_take ∈ WALL := by
  first
  | exact wt2 (sk16 (sk16 (sk16 (sk16 (sk16 (List.Mem.tail _ (List.Mem.head _))))))) rfl
  | exact wall 418 (by decide +kernel) rfl
set_option maxRecDepth 100000 in
theorem wl_X4_86 : Cond.methodLink RX4 86 yX4_readNumber ∈ WALL := by
  first
  | exact wt2 (sk16 (sk16 (sk16 (sk16 (sk16 (List.Mem.tail _ (List.Mem.tail _ (List.Mem.tail _ (List.Mem.head _))))))))) rfl
  | exact wall 420 (by decide +kernel) rfl
set_option maxRecDepth 100000 in
theorem wi_X4_readNumber : Cond.instanceMethod yX4_readNumber ∈ WALL := by
  first
  | exact wt2 (sk16 (sk16 (sk16 (sk16 (sk16 (List.Mem.tail _ (List.Mem.tail _ (List.Mem.tail _ (List.Mem.tail _ (List.Mem.tail _ (List.Mem.head _))))))))))) rfl
  | exact wall 422 (by decide +kernel) rfl
set_option maxRecDepth 100000 in
theorem wl_X4_98 : Cond.methodLink RX4 98 yX4_takeOneOf ∈ WALL := by
  first
  | exact wt2 (sk16 (sk16 (sk16 (sk16 (sk16 (List.Mem.tail _ (List.Mem.tail _ (List.Mem.tail _ (List.Mem.tail _ (List.Mem.tail _ (List.Mem.tail _ (List.Mem.tail _ (List.Mem.tail _ (List.Mem.head _)))))))))))))) rfl
  | exact wall 425 (by decide +kernel) rfl
set_option maxRecDepth 100000 in
theorem wi_X4_takeOneOf : Cond.instanceMethod yX4_takeOneOf ∈ WALL := by
  first
  | exact wt2 (sk16 (sk16 (sk16 (sk16 (sk16 (List.Mem.tail _ (List.Mem.tail _ (List.Mem.tail _ (List.Mem.tail _ (List.Mem.tail _ (List.Mem.tail _ (List.Mem.tail _ (List.Mem.tail _ (List.Mem.tail _ (List.Mem.tail _ (List.Mem.head _)))))))))))))))) rfl
  | exact wall 427 (by decide +kernel) rfl
set_option maxRecDepth 100000 in
theorem wl_X4_89 : Cond.methodLink RX4 89 yX4_readAny ∈ WALL := by
  first
  | exact wt2 (sk16 (sk16 (sk16 (sk16 (sk16 (List.Mem.tail _ (List.Mem.tail _ (List.Mem.tail _ (List.Mem.tail _ (List.Mem.tail _ (List.Mem.tail _ (List.Mem.tail _ (List.Mem.tail _ (List.Mem.tail _ (List.Mem.tail _ (List.Mem.tail _ (List.Mem.tail _ (List.Mem.head _)))))))))))))))))) rfl
  | exact wall 429 (by decide +kernel) rfl
set_option maxRecDepth 100000 in
theorem wi_X4_readAny : Cond.instanceMethod yX4_readAny ∈ WALL := by
  first
  | exact wt2 (sk16 (sk16 (sk16 (sk16 (sk16 (List.Mem.tail _ (List.Mem.tail _ (List.Mem.tail _ (List.Mem.tail _ (List.Mem.tail _ (List.Mem.tail _ (List.Mem.tail _ (List.Mem.tail _ (List.Mem.tail _ (List.Mem.tail _ (List.Mem.tail _ (List.Mem.tail _ (List.Mem.tail _ (List.Mem.tail _ (List.Mem.head _)))))))))))))))))))) rfl
  | exact wall 431 (by decide +kernel) rfl
set_option maxRecDepth 100000 in
theorem wl_X4_102 : Cond.methodLink RX4 102 yX4_readBoth ∈ WALL := by
  first
  | exact wt2 (sk16 (sk16 (sk16 (sk16 (sk16 (sk16 (List.Mem.head _))))))) rfl
  | exact wall 433 (by decide +kernel) rfl
set_option maxRecDepth 100000 in
theorem wi_X4_readBoth : Cond.instanceMethod yX4_readBoth ∈ WALL := by
  first
  | exact wt2 (sk16 (sk16 (sk16 (sk16 (sk16 (sk16 (List.Mem.tail _ (List.Mem.tail _ (List.Mem.head _))))))))) rfl
  | exact wall 435 (by decide +kernel) rfl
set_option maxRecDepth 100000 in
theorem wl_X4_108 : Cond.methodLink RX4 108 yX4_readFactor ∈ WALL := by
  first
  | exact wt2 (sk16 (sk16 (sk16 (sk16 (sk16 (sk16 (List.Mem.tail _ (List.Mem.tail _ (List.Mem.tail _ (List.Mem.tail _ (List.Mem.head _))))))))))) rfl
  | exact wall 437 (by decide +kernel) rfl
set_option maxRecDepth 100000 in
theorem wi_X4_readFactor : Cond.instanceMethod yX4_readFactor ∈ WALL := by
  first
  | exact wt2 (sk16 (sk16 (sk16 (sk16 (sk16 (sk16 (List.Mem.tail _ (List.Mem.tail _ (List.Mem.tail _ (List.Mem.tail _ (List.Mem.tail _ (List.Mem.tail _ (List.Mem.head _))))))))))))) rfl
  | exact wall 439 (by decide +kernel) rfl
set_option maxRecDepth 100000 in
theorem wl_X4_111 : Cond.methodLink RX4 111 yX4_readTest ∈ WALL := by
  first
  | exact wt2 (sk16 (sk16 (sk16 (sk16 (sk16 (sk16 (List.Mem.tail _ (List.Mem.tail _ (List.Mem.tail _ (List.Mem.tail _ (List.Mem.tail _ (List.Mem.tail _ (List.Mem.tail _ (List.Mem.tail _ (List.Mem.head _))))))))))))))) rfl
  | exact wall 441 (by decide +kernel) rfl
set_option maxRecDepth 100000 in
theorem wi_X4_readTest : Cond.instanceMethod yX4_readTest ∈ WALL := by
  first
  | exact wt2 (sk16 (sk16 (sk16 (sk16 (sk16 (sk16 (List.Mem.tail _ (List.Mem.tail _ (List.Mem.tail _ (List.Mem.tail _ (List.Mem.tail _ (List.Mem.tail _ (List.Mem.tail _ (List.Mem.tail _ (List.Mem.tail _ (List.Mem.tail _ (List.Mem.head _))))))))))))))))) rfl
  | exact wall 443 (by decide +kernel) rfl
set_option maxRecDepth 100000 in
theorem wl_X4_105 : Cond.methodLink RX4 105 yX4_keepCode ∈ WALL := by
  first
  | exact wt2 (sk16 (sk16 (sk16 (sk16 (sk16 (sk16 (List.Mem.tail _ (List.Mem.tail _ (List.Mem.tail _ (List.Mem.tail _ (List.Mem.tail _ (List.Mem.tail _ (List.Mem.tail _ (List.Mem.tail _ (List.Mem.tail _ (List.Mem.tail _ (List.Mem.tail _ (List.Mem.tail _ (List.Mem.tail _ (List.Mem.tail _ (List.Mem.head _))))))))))))))))))))) rfl
  | exact wall 447 (by decide +kernel) rfl
set_option maxRecDepth 100000 in
theorem wi_X4_keepCode : Cond.instanceMethod yX4_keepCode ∈ WALL := by
  first
  | exact wt2 (sk16 (sk16 (sk16 (sk16 (sk16 (sk16 (sk16 (List.Mem.head _)))))))) rfl
  | exact wall 449 (by decide +kernel) rfl
set_option maxRecDepth 100000 in
theorem wl_X4_92 : Cond.methodLink RX4 92 yX4_keepClause ∈ WALL := by
  first
  | exact wt2 (sk16 (sk16 (sk16 (sk16 (sk16 (sk16 (sk16 (List.Mem.tail _ (List.Mem.tail _ (List.Mem.head _)))))))))) rfl
  | exact wall 451 (by decide +kernel) rfl
set_option maxRecDepth 100000 in
theorem wi_X4_keepClause : Cond.instanceMethod yX4_keepClause ∈ WALL := by
  first
  | exact wt2 (sk16 (sk16 (sk16 (sk16 (sk16 (sk16 (sk16 (List.Mem.tail _ (List.Mem.tail _ (List.Mem.tail _ (List.Mem.tail _ (List.Mem.head _)))))))))))) rfl
  | exact wall 453 (by decide +kernel) rfl
set_option maxRecDepth 100000 in
theorem wl_X5_73 : Cond.methodLink RX5 73 yX5_forgetTowns ∈ WALL := by
  first
  | exact wt2 (sk16 (sk16 (sk16 (sk16 (sk16 (sk16 (sk16 (List.Mem.tail _ (List.Mem.tail _ (List.Mem.tail _ (List.Mem.tail _ (List.Mem.tail _ (List.Mem.tail _ (List.Mem.head _)))))))))))))) rfl
  | exact wall 455 (by decide +kernel) rfl
set_option maxRecDepth 100000 in
theorem wi_X5_forgetTowns : Cond.instanceMethod yX5_forgetTowns ∈ WALL := by
  first
  | exact wt2 (sk16 (sk16 (sk16 (sk16 (sk16 (sk16 (sk16 (List.Mem.tail _ (List.Mem.tail _ (List.Mem.tail _ (List.Mem.tail _ (List.Mem.tail _ (List.Mem.tail _ (List.Mem.tail _ (List.Mem.tail _ (List.Mem.head _)))))))))))))))) rfl
  | exact wall 457 (by decide +kernel) rfl
set_option maxRecDepth 100000 in
theorem wi_X1_forgetTown : Cond.instanceMethod yX1_forgetTown ∈ WALL := by
  first
  | exact wt2 (sk16 (sk16 (sk16 (sk16 (sk16 (sk16 (sk16 (List.Mem.tail _ (List.Mem.tail _ (List.Mem.tail _ (List.Mem.tail _ (List.Mem.tail _ (List.Mem.tail _ (List.Mem.tail _ (List.Mem.tail _ (List.Mem.tail _ (List.Mem.tail _ (List.Mem.tail _ (List.Mem.tail _ (List.Mem.head _)))))))))))))))))))) rfl
  | exact wall 461 (by decide +kernel) rfl
set_option maxRecDepth 100000 in
theorem wl_X1_37 : Cond.methodLink RX1 37 yX1_forget ∈ WALL := by
  first
  | exact wt2 (sk16 (sk16 (sk16 (sk16 (sk16 (sk16 (sk16 (List.Mem.tail _ (List.Mem.tail _ (List.Mem.tail _ (List.Mem.tail _ (List.Mem.tail _ (List.Mem.tail _ (List.Mem.tail _ (List.Mem.tail _ (List.Mem.tail _ (List.Mem.tail _ (List.Mem.tail _ (List.Mem.tail _ (List.Mem.tail _ (List.Mem.tail _ (List.Mem.head _)))))))))))))))))))))) rfl
  | exact wall 463 (by decide +kernel) rfl
set_option maxRecDepth 100000 in
theorem wi_X1_forget : Cond.instanceMethod yX1_forget ∈ WALL := by
  first
  | exact wt2 (sk16 (sk16 (sk16 (sk16 (sk16 (sk16 (sk16 (sk16 (List.Mem.head _))))))))) rfl
  | exact wall 465 (by decide +kernel) rfl
set_option maxRecDepth 100000 in
theorem wa_byte : Cond.arrayClass .byte ∈ WALL := by
  first
  | exact wt2 (sk16 (sk16 (sk16 (sk16 (sk16 (sk16 (sk16 (sk16 (List.Mem.tail _ (List.Mem.tail _ (List.Mem.head _))))))))))) rfl
  | exact wall 467 (by decide +kernel) rfl
set_option maxRecDepth 100000 in
theorem wl_L_23 : Cond.methodLink RL 23 yX5_told ∈ WALL := by
  first
  | exact wt2 (sk16 (sk16 (sk16 (sk16 (sk16 (sk16 (sk16 (sk16 (List.Mem.tail _ (List.Mem.tail _ (List.Mem.tail _ (List.Mem.head _)))))))))))) rfl
  | exact wall 468 (by decide +kernel) rfl
set_option maxRecDepth 100000 in
theorem wi_X5_told : Cond.instanceMethod yX5_told ∈ WALL := by
  first
  | exact wt2 (sk16 (sk16 (sk16 (sk16 (sk16 (sk16 (sk16 (sk16 (List.Mem.tail _ (List.Mem.tail _ (List.Mem.tail _ (List.Mem.tail _ (List.Mem.head _))))))))))))) rfl
  | exact wall 469 (by decide +kernel) rfl
set_option maxRecDepth 100000 in
theorem we_X5_told : Cond.selects RX5 yX5_told yX5_told ∈ WALL := by
  first
  | exact wt2 (sk16 (sk16 (sk16 (sk16 (sk16 (sk16 (sk16 (sk16 (List.Mem.tail _ (List.Mem.tail _ (List.Mem.tail _ (List.Mem.tail _ (List.Mem.tail _ (List.Mem.head _)))))))))))))) rfl
  | exact wall 470 (by decide +kernel) rfl
set_option maxRecDepth 100000 in
theorem wl_X5_76 : Cond.methodLink RX5 76 yX5_newestTown ∈ WALL := by
  first
  | exact wt2 (sk16 (sk16 (sk16 (sk16 (sk16 (sk16 (sk16 (sk16 (List.Mem.tail _ (List.Mem.tail _ (List.Mem.tail _ (List.Mem.tail _ (List.Mem.tail _ (List.Mem.tail _ (List.Mem.tail _ (List.Mem.head _)))))))))))))))) rfl
  | exact wall 472 (by decide +kernel) rfl
set_option maxRecDepth 100000 in
theorem wi_X5_newestTown : Cond.instanceMethod yX5_newestTown ∈ WALL := by
  first
  | exact wt2 (sk16 (sk16 (sk16 (sk16 (sk16 (sk16 (sk16 (sk16 (List.Mem.tail _ (List.Mem.tail _ (List.Mem.tail _ (List.Mem.tail _ (List.Mem.tail _ (List.Mem.tail _ (List.Mem.tail _ (List.Mem.tail _ (List.Mem.tail _ (List.Mem.head _)))))))))))))))))) rfl
  | exact wall 474 (by decide +kernel) rfl
set_option maxRecDepth 100000 in
theorem wl_L_27 : Cond.methodLink RL 27 yX5_person ∈ WALL := by
  first
  | exact wt2 (sk16 (sk16 (sk16 (sk16 (sk16 (sk16 (sk16 (sk16 (List.Mem.tail _ (List.Mem.tail _ (List.Mem.tail _ (List.Mem.tail _ (List.Mem.tail _ (List.Mem.tail _ (List.Mem.tail _ (List.Mem.tail _ (List.Mem.tail _ (List.Mem.tail _ (List.Mem.tail _ (List.Mem.head _)))))))))))))))))))) rfl
  | exact wall 476 (by decide +kernel) rfl
set_option maxRecDepth 100000 in
theorem wi_X5_person : Cond.instanceMethod yX5_person ∈ WALL := by
  first
  | exact wt2 (sk16 (sk16 (sk16 (sk16 (sk16 (sk16 (sk16 (sk16 (List.Mem.tail _ (List.Mem.tail _ (List.Mem.tail _ (List.Mem.tail _ (List.Mem.tail _ (List.Mem.tail _ (List.Mem.tail _ (List.Mem.tail _ (List.Mem.tail _ (List.Mem.tail _ (List.Mem.tail _ (List.Mem.tail _ (List.Mem.head _))))))))))))))))))))) rfl
  | exact wall 477 (by decide +kernel) rfl
set_option maxRecDepth 100000 in
theorem we_X5_person : Cond.selects RX5 yX5_person yX5_person ∈ WALL := by
  first
  | exact wt2 (sk16 (sk16 (sk16 (sk16 (sk16 (sk16 (sk16 (sk16 (List.Mem.tail _ (List.Mem.tail _ (List.Mem.tail _ (List.Mem.tail _ (List.Mem.tail _ (List.Mem.tail _ (List.Mem.tail _ (List.Mem.tail _ (List.Mem.tail _ (List.Mem.tail _ (List.Mem.tail _ (List.Mem.tail _ (List.Mem.tail _ (List.Mem.head _)))))))))))))))))))))) rfl
  | exact wall 478 (by decide +kernel) rfl
set_option maxRecDepth 100000 in
theorem wi_X2_join : Cond.instanceMethod yX2_join ∈ WALL := by
  first
  | exact wt2 (sk16 (sk16 (sk16 (sk16 (sk16 (sk16 (sk16 (sk16 (sk16 (List.Mem.tail _ (List.Mem.head _))))))))))) rfl
  | exact wall 482 (by decide +kernel) rfl
set_option maxRecDepth 100000 in
theorem wl_X2_29 : Cond.methodLink RX2 29 yX2_putNote ∈ WALL := by
  first
  | exact wt2 (sk16 (sk16 (sk16 (sk16 (sk16 (sk16 (sk16 (sk16 (sk16 (List.Mem.tail _ (List.Mem.tail _ (List.Mem.tail _ (List.Mem.head _))))))))))))) rfl
  | exact wall 484 (by decide +kernel) rfl
set_option maxRecDepth 100000 in
theorem wi_X2_putNote : Cond.instanceMethod yX2_putNote ∈ WALL := by
  first
  | exact wt2 (sk16 (sk16 (sk16 (sk16 (sk16 (sk16 (sk16 (sk16 (sk16 (List.Mem.tail _ (List.Mem.tail _ (List.Mem.tail _ (List.Mem.tail _ (List.Mem.tail _ (List.Mem.head _))))))))))))))) rfl
  | exact wall 486 (by decide +kernel) rfl
set_option maxRecDepth 100000 in
theorem wl_L_32 : Cond.methodLink RL 32 yX5_of ∈ WALL := by
  first
  | exact wt2 (sk16 (sk16 (sk16 (sk16 (sk16 (sk16 (sk16 (sk16 (sk16 (List.Mem.tail _ (List.Mem.tail _ (List.Mem.tail _ (List.Mem.tail _ (List.Mem.tail _ (List.Mem.tail _ (List.Mem.tail _ (List.Mem.tail _ (List.Mem.head _)))))))))))))))))) rfl
  | exact wall 489 (by decide +kernel) rfl
set_option maxRecDepth 100000 in
theorem wi_X5_of : Cond.instanceMethod yX5_of ∈ WALL := by
  first
  | exact wt2 (sk16 (sk16 (sk16 (sk16 (sk16 (sk16 (sk16 (sk16 (sk16 (List.Mem.tail _ (List.Mem.tail _ (List.Mem.tail _ (List.Mem.tail _ (List.Mem.tail _ (List.Mem.tail _ (List.Mem.tail _ (List.Mem.tail _ (List.Mem.tail _ (List.Mem.head _))))))))))))))))))) rfl
  | exact wall 490 (by decide +kernel) rfl
set_option maxRecDepth 100000 in
theorem we_X5_of : Cond.selects RX5 yX5_of yX5_of ∈ WALL := by
  first
  | exact wt2 (sk16 (sk16 (sk16 (sk16 (sk16 (sk16 (sk16 (sk16 (sk16 (List.Mem.tail _ (List.Mem.tail _ (List.Mem.tail _ (List.Mem.tail _ (List.Mem.tail _ (List.Mem.tail _ (List.Mem.tail _ (List.Mem.tail _ (List.Mem.tail _ (List.Mem.tail _ (List.Mem.head _)))))))))))))))))))) rfl
  | exact wall 491 (by decide +kernel) rfl
set_option maxRecDepth 100000 in
theorem wi_X2_has : Cond.instanceMethod yX2_has ∈ WALL := by
  first
  | exact wt2 (sk16 (sk16 (sk16 (sk16 (sk16 (sk16 (sk16 (sk16 (sk16 (List.Mem.tail _ (List.Mem.tail _ (List.Mem.tail _ (List.Mem.tail _ (List.Mem.tail _ (List.Mem.tail _ (List.Mem.tail _ (List.Mem.tail _ (List.Mem.tail _ (List.Mem.tail _ (List.Mem.tail _ (List.Mem.tail _ (List.Mem.tail _ (List.Mem.tail _ (List.Mem.head _)))))))))))))))))))))))) rfl
  | exact wall 495 (by decide +kernel) rfl
set_option maxRecDepth 100000 in
theorem wi_X2_noteOf : Cond.instanceMethod yX2_noteOf ∈ WALL := by
  first
  | exact wt2 (sk16 (sk16 (sk16 (sk16 (sk16 (sk16 (sk16 (sk16 (sk16 (sk16 (List.Mem.tail _ (List.Mem.tail _ (List.Mem.head _))))))))))))) rfl
  | exact wall 499 (by decide +kernel) rfl
set_option maxRecDepth 100000 in
theorem wl_L_36 : Cond.methodLink RL 36 yX5_row ∈ WALL := by
  first
  | exact wt2 (sk16 (sk16 (sk16 (sk16 (sk16 (sk16 (sk16 (sk16 (sk16 (sk16 (List.Mem.tail _ (List.Mem.tail _ (List.Mem.tail _ (List.Mem.tail _ (List.Mem.head _))))))))))))))) rfl
  | exact wall 501 (by decide +kernel) rfl
set_option maxRecDepth 100000 in
theorem wi_X5_row : Cond.instanceMethod yX5_row ∈ WALL := by
  first
  | exact wt2 (sk16 (sk16 (sk16 (sk16 (sk16 (sk16 (sk16 (sk16 (sk16 (sk16 (List.Mem.tail _ (List.Mem.tail _ (List.Mem.tail _ (List.Mem.tail _ (List.Mem.tail _ (List.Mem.head _)))))))))))))))) rfl
  | exact wall 502 (by decide +kernel) rfl
set_option maxRecDepth 100000 in
theorem we_X5_row : Cond.selects RX5 yX5_row yX5_row ∈ WALL := by
  first
  | exact wt2 (sk16 (sk16 (sk16 (sk16 (sk16 (sk16 (sk16 (sk16 (sk16 (sk16 (List.Mem.tail _ (List.Mem.tail _ (List.Mem.tail _ (List.Mem.tail _ (List.Mem.tail _ (List.Mem.tail _ (List.Mem.head _))))))))))))))))) rfl
  | exact wall 503 (by decide +kernel) rfl
set_option maxRecDepth 100000 in
theorem wl_L_40 : Cond.methodLink RL 40 yX5_note ∈ WALL := by
  first
  | exact wt2 (sk16 (sk16 (sk16 (sk16 (sk16 (sk16 (sk16 (sk16 (sk16 (sk16 (List.Mem.tail _ (List.Mem.tail _ (List.Mem.tail _ (List.Mem.tail _ (List.Mem.tail _ (List.Mem.tail _ (List.Mem.tail _ (List.Mem.tail _ (List.Mem.head _))))))))))))))))))) rfl
  | exact wall 505 (by decide +kernel) rfl
set_option maxRecDepth 100000 in
theorem wi_X5_note : Cond.instanceMethod yX5_note ∈ WALL := by
  first
  | exact wt2 (sk16 (sk16 (sk16 (sk16 (sk16 (sk16 (sk16 (sk16 (sk16 (sk16 (List.Mem.tail _ (List.Mem.tail _ (List.Mem.tail _ (List.Mem.tail _ (List.Mem.tail _ (List.Mem.tail _ (List.Mem.tail _ (List.Mem.tail _ (List.Mem.tail _ (List.Mem.head _)))))))))))))))))))) rfl
  | exact wall 506 (by decide +kernel) rfl
set_option maxRecDepth 100000 in
theorem we_X5_note : Cond.selects RX5 yX5_note yX5_note ∈ WALL := by
  first
  | exact wt2 (sk16 (sk16 (sk16 (sk16 (sk16 (sk16 (sk16 (sk16 (sk16 (sk16 (List.Mem.tail _ (List.Mem.tail _ (List.Mem.tail _ (List.Mem.tail _ (List.Mem.tail _ (List.Mem.tail _ (List.Mem.tail _ (List.Mem.tail _ (List.Mem.tail _ (List.Mem.tail _ (List.Mem.head _))))))))))))))))))))) rfl
  | exact wall 507 (by decide +kernel) rfl
set_option maxRecDepth 100000 in
theorem wl_L_45 : Cond.methodLink RL 45 yX5_yesterday ∈ WALL := by
  first
  | exact wt2 (sk16 (sk16 (sk16 (sk16 (sk16 (sk16 (sk16 (sk16 (sk16 (sk16 (List.Mem.tail _ (List.Mem.tail _ (List.Mem.tail _ (List.Mem.tail _ (List.Mem.tail _ (List.Mem.tail _ (List.Mem.tail _ (List.Mem.tail _ (List.Mem.tail _ (List.Mem.tail _ (List.Mem.tail _ (List.Mem.tail _ (List.Mem.tail _ (List.Mem.head _)))))))))))))))))))))))) rfl
  | exact wall 510 (by decide +kernel) rfl
set_option maxRecDepth 100000 in
theorem wi_X5_yesterday : Cond.instanceMethod yX5_yesterday ∈ WALL := by
  first
  | exact wt2 (sk16 (sk16 (sk16 (sk16 (sk16 (sk16 (sk16 (sk16 (sk16 (sk16 (List.Mem.tail _ (List.Mem.tail _ (List.Mem.tail _ (List.Mem.tail _ (List.Mem.tail _ (List.Mem.tail _ (List.Mem.tail _ (List.Mem.tail _ (List.Mem.tail _ (List.Mem.tail _ (List.Mem.tail _ (List.Mem.tail _ (List.Mem.tail _ (List.Mem.tail _ (List.Mem.head _))))))))))))))))))))))))) rfl
  | exact wall 511 (by decide +kernel) rfl
set_option maxRecDepth 100000 in
theorem we_X5_yesterday : Cond.selects RX5 yX5_yesterday yX5_yesterday ∈ WALL := by
  first
  | exact wt2 (sk16 (sk16 (sk16 (sk16 (sk16 (sk16 (sk16 (sk16 (sk16 (sk16 (List.Mem.tail _ (List.Mem.tail _ (List.Mem.tail _ (List.Mem.tail _ (List.Mem.tail _ (List.Mem.tail _ (List.Mem.tail _ (List.Mem.tail _ (List.Mem.tail _ (List.Mem.tail _ (List.Mem.tail _ (List.Mem.tail _ (List.Mem.tail _ (List.Mem.tail _ (List.Mem.tail _ (List.Mem.head _)))))))))))))))))))))))))) rfl
  | exact wall 512 (by decide +kernel) rfl
set_option maxRecDepth 100000 in
theorem wi_X2_isDay : Cond.instanceMethod yX2_isDay ∈ WALL := by
  first
  | exact wt2 (sk16 (sk16 (sk16 (sk16 (sk16 (sk16 (sk16 (sk16 (sk16 (sk16 (sk16 (List.Mem.tail _ (List.Mem.tail _ (List.Mem.tail _ (List.Mem.head _))))))))))))))) rfl
  | exact wall 516 (by decide +kernel) rfl
set_option maxRecDepth 100000 in
theorem wl_X2_25 : Cond.methodLink RX2 25 yX2_allDays ∈ WALL := by
  first
  | exact wt2 (sk16 (sk16 (sk16 (sk16 (sk16 (sk16 (sk16 (sk16 (sk16 (sk16 (sk16 (List.Mem.tail _ (List.Mem.tail _ (List.Mem.tail _ (List.Mem.tail _ (List.Mem.tail _ (List.Mem.head _))))))))))))))))) rfl
  | exact wall 518 (by decide +kernel) rfl
set_option maxRecDepth 100000 in
theorem wi_X2_allDays : Cond.instanceMethod yX2_allDays ∈ WALL := by
  first
  | exact wt2 (sk16 (sk16 (sk16 (sk16 (sk16 (sk16 (sk16 (sk16 (sk16 (sk16 (sk16 (List.Mem.tail _ (List.Mem.tail _ (List.Mem.tail _ (List.Mem.tail _ (List.Mem.tail _ (List.Mem.tail _ (List.Mem.tail _ (List.Mem.head _))))))))))))))))))) rfl
  | exact wall 520 (by decide +kernel) rfl
set_option maxRecDepth 100000 in
theorem wl_L_49 : Cond.methodLink RL 49 yX5_by ∈ WALL := by
  first
  | exact wt2 (sk16 (sk16 (sk16 (sk16 (sk16 (sk16 (sk16 (sk16 (sk16 (sk16 (sk16 (List.Mem.tail _ (List.Mem.tail _ (List.Mem.tail _ (List.Mem.tail _ (List.Mem.tail _ (List.Mem.tail _ (List.Mem.tail _ (List.Mem.tail _ (List.Mem.tail _ (List.Mem.head _))))))))))))))))))))) rfl
  | exact wall 522 (by decide +kernel) rfl
set_option maxRecDepth 100000 in
theorem wi_X5_by : Cond.instanceMethod yX5_by ∈ WALL := by
  first
  | exact wt2 (sk16 (sk16 (sk16 (sk16 (sk16 (sk16 (sk16 (sk16 (sk16 (sk16 (sk16 (List.Mem.tail _ (List.Mem.tail _ (List.Mem.tail _ (List.Mem.tail _ (List.Mem.tail _ (List.Mem.tail _ (List.Mem.tail _ (List.Mem.tail _ (List.Mem.tail _ (List.Mem.tail _ (List.Mem.head _)))))))))))))))))))))) rfl
  | exact wall 523 (by decide +kernel) rfl
set_option maxRecDepth 100000 in
theorem we_X5_by : Cond.selects RX5 yX5_by yX5_by ∈ WALL := by
  first
  | exact wt2 (sk16 (sk16 (sk16 (sk16 (sk16 (sk16 (sk16 (sk16 (sk16 (sk16 (sk16 (List.Mem.tail _ (List.Mem.tail _ (List.Mem.tail _ (List.Mem.tail _ (List.Mem.tail _ (List.Mem.tail _ (List.Mem.tail _ (List.Mem.tail _ (List.Mem.tail _ (List.Mem.tail _ (List.Mem.tail _ (List.Mem.head _))))))))))))))))))))))) rfl
  | exact wall 524 (by decide +kernel) rfl
set_option maxRecDepth 100000 in
theorem wl_X5_120 : Cond.methodLink RX5 120 yX5_isHour ∈ WALL := by
  first
  | exact wt2 (sk16 (sk16 (sk16 (sk16 (sk16 (sk16 (sk16 (sk16 (sk16 (sk16 (sk16 (List.Mem.tail _ (List.Mem.tail _ (List.Mem.tail _ (List.Mem.tail _ (List.Mem.tail _ (List.Mem.tail _ (List.Mem.tail _ (List.Mem.tail _ (List.Mem.tail _ (List.Mem.tail _ (List.Mem.tail _ (List.Mem.tail _ (List.Mem.tail _ (List.Mem.head _))))))))))))))))))))))))) rfl
  | exact wall 526 (by decide +kernel) rfl
set_option maxRecDepth 100000 in
theorem wt_X5_isHour : Cond.static yX5_isHour ∈ WALL := by
  first
  | exact wt2 (sk16 (sk16 (sk16 (sk16 (sk16 (sk16 (sk16 (sk16 (sk16 (sk16 (sk16 (List.Mem.tail _ (List.Mem.tail _ (List.Mem.tail _ (List.Mem.tail _ (List.Mem.tail _ (List.Mem.tail _ (List.Mem.tail _ (List.Mem.tail _ (List.Mem.tail _ (List.Mem.tail _ (List.Mem.tail _ (List.Mem.tail _ (List.Mem.tail _ (List.Mem.tail _ (List.Mem.head _)))))))))))))))))))))))))) rfl
  | exact wall 527 (by decide +kernel) rfl
set_option maxRecDepth 100000 in
theorem wi_X1_prepare : Cond.instanceMethod yX1_prepare ∈ WALL := by
  first
  | exact wt2 (sk16 (sk16 (sk16 (sk16 (sk16 (sk16 (sk16 (sk16 (sk16 (sk16 (sk16 (sk16 (List.Mem.tail _ (List.Mem.tail _ (List.Mem.head _))))))))))))))) rfl
  | exact wall 531 (by decide +kernel) rfl
set_option maxRecDepth 100000 in
theorem wl_X1_46 : Cond.methodLink RX1 46 yX1_fillWorths ∈ WALL := by
  first
  | exact wt2 (sk16 (sk16 (sk16 (sk16 (sk16 (sk16 (sk16 (sk16 (sk16 (sk16 (sk16 (sk16 (List.Mem.tail _ (List.Mem.tail _ (List.Mem.tail _ (List.Mem.tail _ (List.Mem.head _))))))))))))))))) rfl
  | exact wall 533 (by decide +kernel) rfl
set_option maxRecDepth 100000 in
theorem wi_X1_fillWorths : Cond.instanceMethod yX1_fillWorths ∈ WALL := by
  first
  | exact wt2 (sk16 (sk16 (sk16 (sk16 (sk16 (sk16 (sk16 (sk16 (sk16 (sk16 (sk16 (sk16 (List.Mem.tail _ (List.Mem.tail _ (List.Mem.tail _ (List.Mem.tail _ (List.Mem.tail _ (List.Mem.tail _ (List.Mem.head _))))))))))))))))))) rfl
  | exact wall 535 (by decide +kernel) rfl
set_option maxRecDepth 100000 in
theorem wi_X4_worth : Cond.instanceMethod yX4_worth ∈ WALL := by
  first
  | exact wt2 (sk16 (sk16 (sk16 (sk16 (sk16 (sk16 (sk16 (sk16 (sk16 (sk16 (sk16 (sk16 (List.Mem.tail _ (List.Mem.tail _ (List.Mem.tail _ (List.Mem.tail _ (List.Mem.tail _ (List.Mem.tail _ (List.Mem.tail _ (List.Mem.tail _ (List.Mem.tail _ (List.Mem.tail _ (List.Mem.head _))))))))))))))))))))))) rfl
  | exact wall 539 (by decide +kernel) rfl
set_option maxRecDepth 100000 in
theorem wl_X4_118 : Cond.methodLink RX4 118 yX4_holds ∈ WALL := by
  first
  | exact wt2 (sk16 (sk16 (sk16 (sk16 (sk16 (sk16 (sk16 (sk16 (sk16 (sk16 (sk16 (sk16 (List.Mem.tail _ (List.Mem.tail _ (List.Mem.tail _ (List.Mem.tail _ (List.Mem.tail _ (List.Mem.tail _ (List.Mem.tail _ (List.Mem.tail _ (List.Mem.tail _ (List.Mem.tail _ (List.Mem.tail _ (List.Mem.tail _ (List.Mem.head _))))))))))))))))))))))))) rfl
  | exact wall 541 (by decide +kernel) rfl
set_option maxRecDepth 100000 in
theorem wi_X4_holds : Cond.instanceMethod yX4_holds ∈ WALL := by
  first
  | exact wt2 (sk16 (sk16 (sk16 (sk16 (sk16 (sk16 (sk16 (sk16 (sk16 (sk16 (sk16 (sk16 (List.Mem.tail _ (List.Mem.tail _ (List.Mem.tail _ (List.Mem.tail _ (List.Mem.tail _ (List.Mem.tail _ (List.Mem.tail _ (List.Mem.tail _ (List.Mem.tail _ (List.Mem.tail _ (List.Mem.tail _ (List.Mem.tail _ (List.Mem.tail _ (List.Mem.tail _ (List.Mem.head _))))))))))))))))))))))))))) rfl
  | exact wall 543 (by decide +kernel) rfl
set_option maxRecDepth 100000 in
theorem wl_X4_122 : Cond.methodLink RX4 122 yX4_passes ∈ WALL := by
  first
  | exact wt2 (sk16 (sk16 (sk16 (sk16 (sk16 (sk16 (sk16 (sk16 (sk16 (sk16 (sk16 (sk16 (sk16 (List.Mem.head _)))))))))))))) rfl
  | exact wall 545 (by decide +kernel) rfl
set_option maxRecDepth 100000 in
theorem wt_X4_passes : Cond.static yX4_passes ∈ WALL := by
  first
  | exact wt2 (sk16 (sk16 (sk16 (sk16 (sk16 (sk16 (sk16 (sk16 (sk16 (sk16 (sk16 (sk16 (sk16 (List.Mem.tail _ (List.Mem.head _))))))))))))))) rfl
  | exact wall 546 (by decide +kernel) rfl
set_option maxRecDepth 100000 in
theorem wl_X1_53 : Cond.methodLink RX1 53 yX1_sightOf ∈ WALL := by
  first
  | exact wt2 (sk16 (sk16 (sk16 (sk16 (sk16 (sk16 (sk16 (sk16 (sk16 (sk16 (sk16 (sk16 (sk16 (List.Mem.tail _ (List.Mem.tail _ (List.Mem.tail _ (List.Mem.head _))))))))))))))))) rfl
  | exact wall 548 (by decide +kernel) rfl
set_option maxRecDepth 100000 in
theorem wi_X1_sightOf : Cond.instanceMethod yX1_sightOf ∈ WALL := by
  first
  | exact wt2 (sk16 (sk16 (sk16 (sk16 (sk16 (sk16 (sk16 (sk16 (sk16 (sk16 (sk16 (sk16 (sk16 (List.Mem.tail _ (List.Mem.tail _ (List.Mem.tail _ (List.Mem.tail _ (List.Mem.tail _ (List.Mem.head _))))))))))))))))))) rfl
  | exact wall 550 (by decide +kernel) rfl
set_option maxRecDepth 100000 in
theorem wt_X5_ownRow : Cond.static yX5_ownRow ∈ WALL := by
  first
  | exact wt2 (sk16 (sk16 (sk16 (sk16 (sk16 (sk16 (sk16 (sk16 (sk16 (sk16 (sk16 (sk16 (sk16 (List.Mem.tail _ (List.Mem.tail _ (List.Mem.tail _ (List.Mem.tail _ (List.Mem.tail _ (List.Mem.tail _ (List.Mem.tail _ (List.Mem.tail _ (List.Mem.head _)))))))))))))))))))))) rfl
  | exact wall 553 (by decide +kernel) rfl
set_option maxRecDepth 100000 in
theorem wl_X1_73 : Cond.methodLink RX1 73 yJ6_bitCount_0f7a4 ∈ WALL := by
  first
  | exact wt2 (sk16 (sk16 (sk16 (sk16 (sk16 (sk16 (sk16 (sk16 (sk16 (sk16 (sk16 (sk16 (sk16 (List.Mem.tail _ (List.Mem.tail _ (List.Mem.tail _ (List.Mem.tail _ (List.Mem.tail _ (List.Mem.tail _ (List.Mem.tail _ (List.Mem.tail _ (List.Mem.tail _ (List.Mem.tail _ (List.Mem.head _)))))))))))))))))))))))) rfl
  | exact wall 555 (by decide +kernel) rfl
set_option maxRecDepth 100000 in
theorem wt_J6_bitCount_0f7a4 : Cond.static yJ6_bitCount_0f7a4 ∈ WALL := by
  first
  | exact wt2 (sk16 (sk16 (sk16 (sk16 (sk16 (sk16 (sk16 (sk16 (sk16 (sk16 (sk16 (sk16 (sk16 (List.Mem.tail _ (List.Mem.tail _ (List.Mem.tail _ (List.Mem.tail _ (List.Mem.tail _ (List.Mem.tail _ (List.Mem.tail _ (List.Mem.tail _ (List.Mem.tail _ (List.Mem.tail _ (List.Mem.tail _ (List.Mem.head _))))))))))))))))))))))))) rfl
  | exact wall 556 (by decide +kernel) rfl
set_option maxRecDepth 100000 in
theorem wk_J6_265 : Cond.constant RJ6 265 (1431655765 : Int32) ∈ WALL := by
  first
  | exact wt2 (sk16 (sk16 (sk16 (sk16 (sk16 (sk16 (sk16 (sk16 (sk16 (sk16 (sk16 (sk16 (sk16 (List.Mem.tail _ (List.Mem.tail _ (List.Mem.tail _ (List.Mem.tail _ (List.Mem.tail _ (List.Mem.tail _ (List.Mem.tail _ (List.Mem.tail _ (List.Mem.tail _ (List.Mem.tail _ (List.Mem.tail _ (List.Mem.tail _ (List.Mem.tail _ (List.Mem.head _))))))))))))))))))))))))))) rfl
  | exact wall 558 (by decide +kernel) rfl
set_option maxRecDepth 100000 in
theorem wk_J6_266 : Cond.constant RJ6 266 (858993459 : Int32) ∈ WALL := by
  first
  | exact wt2 (sk16 (sk16 (sk16 (sk16 (sk16 (sk16 (sk16 (sk16 (sk16 (sk16 (sk16 (sk16 (sk16 (List.Mem.tail _ (List.Mem.tail _ (List.Mem.tail _ (List.Mem.tail _ (List.Mem.tail _ (List.Mem.tail _ (List.Mem.tail _ (List.Mem.tail _ (List.Mem.tail _ (List.Mem.tail _ (List.Mem.tail _ (List.Mem.tail _ (List.Mem.tail _ (List.Mem.tail _ (List.Mem.head _)))))))))))))))))))))))))))) rfl
  | exact wall 559 (by decide +kernel) rfl
set_option maxRecDepth 100000 in
theorem wk_J6_267 : Cond.constant RJ6 267 (252645135 : Int32) ∈ WALL := by
  first
  | exact wt2 (sk16 (sk16 (sk16 (sk16 (sk16 (sk16 (sk16 (sk16 (sk16 (sk16 (sk16 (sk16 (sk16 (List.Mem.tail _ (List.Mem.tail _ (List.Mem.tail _ (List.Mem.tail _ (List.Mem.tail _ (List.Mem.tail _ (List.Mem.tail _ (List.Mem.tail _ (List.Mem.tail _ (List.Mem.tail _ (List.Mem.tail _ (List.Mem.tail _ (List.Mem.tail _ (List.Mem.tail _ (List.Mem.tail _ (List.Mem.head _))))))))))))))))))))))))))))) rfl
  | exact wall 560 (by decide +kernel) rfl
set_option maxRecDepth 100000 in
theorem wl_X1_60 : Cond.methodLink RX1 60 yX1_rowAt ∈ WALL := by
  first
  | exact wt2 (sk16 (sk16 (sk16 (sk16 (sk16 (sk16 (sk16 (sk16 (sk16 (sk16 (sk16 (sk16 (sk16 (sk16 (List.Mem.head _))))))))))))))) rfl
  | exact wall 561 (by decide +kernel) rfl
set_option maxRecDepth 100000 in
theorem wi_X1_rowAt : Cond.instanceMethod yX1_rowAt ∈ WALL := by
  first
  | exact wt2 (sk16 (sk16 (sk16 (sk16 (sk16 (sk16 (sk16 (sk16 (sk16 (sk16 (sk16 (sk16 (sk16 (sk16 (List.Mem.tail _ (List.Mem.tail _ (List.Mem.head _))))))))))))))))) rfl
  | exact wall 563 (by decide +kernel) rfl
set_option maxRecDepth 100000 in
theorem wl_X1_90 : Cond.methodLink RX1 90 yX1_bestRow ∈ WALL := by
  first
  | exact wt2 (sk16 (sk16 (sk16 (sk16 (sk16 (sk16 (sk16 (sk16 (sk16 (sk16 (sk16 (sk16 (sk16 (sk16 (List.Mem.tail _ (List.Mem.tail _ (List.Mem.tail _ (List.Mem.tail _ (List.Mem.head _))))))))))))))))))) rfl
  | exact wall 565 (by decide +kernel) rfl
set_option maxRecDepth 100000 in
theorem wi_X1_bestRow : Cond.instanceMethod yX1_bestRow ∈ WALL := by
  first
  | exact wt2 (sk16 (sk16 (sk16 (sk16 (sk16 (sk16 (sk16 (sk16 (sk16 (sk16 (sk16 (sk16 (sk16 (sk16 (List.Mem.tail _ (List.Mem.tail _ (List.Mem.tail _ (List.Mem.tail _ (List.Mem.tail _ (List.Mem.tail _ (List.Mem.head _))))))))))))))))))))) rfl
  | exact wall 567 (by decide +kernel) rfl
set_option maxRecDepth 100000 in
theorem wl_X1_97 : Cond.methodLink RX1 97 yX1_gain ∈ WALL := by
  first
  | exact wt2 (sk16 (sk16 (sk16 (sk16 (sk16 (sk16 (sk16 (sk16 (sk16 (sk16 (sk16 (sk16 (sk16 (sk16 (List.Mem.tail _ (List.Mem.tail _ (List.Mem.tail _ (List.Mem.tail _ (List.Mem.tail _ (List.Mem.tail _ (List.Mem.tail _ (List.Mem.tail _ (List.Mem.head _))))))))))))))))))))))) rfl
  | exact wall 569 (by decide +kernel) rfl
set_option maxRecDepth 100000 in
theorem wi_X1_gain : Cond.instanceMethod yX1_gain ∈ WALL := by
  first
  | exact wt2 (sk16 (sk16 (sk16 (sk16 (sk16 (sk16 (sk16 (sk16 (sk16 (sk16 (sk16 (sk16 (sk16 (sk16 (List.Mem.tail _ (List.Mem.tail _ (List.Mem.tail _ (List.Mem.tail _ (List.Mem.tail _ (List.Mem.tail _ (List.Mem.tail _ (List.Mem.tail _ (List.Mem.tail _ (List.Mem.tail _ (List.Mem.head _))))))))))))))))))))))))) rfl
  | exact wall 571 (by decide +kernel) rfl
set_option maxRecDepth 100000 in
theorem wt_X5_bit : Cond.static yX5_bit ∈ WALL := by
  first
  | exact wt2 (sk16 (sk16 (sk16 (sk16 (sk16 (sk16 (sk16 (sk16 (sk16 (sk16 (sk16 (sk16 (sk16 (sk16 (List.Mem.tail _ (List.Mem.tail _ (List.Mem.tail _ (List.Mem.tail _ (List.Mem.tail _ (List.Mem.tail _ (List.Mem.tail _ (List.Mem.tail _ (List.Mem.tail _ (List.Mem.tail _ (List.Mem.tail _ (List.Mem.tail _ (List.Mem.tail _ (List.Mem.head _)))))))))))))))))))))))))))) rfl
  | exact wall 574 (by decide +kernel) rfl
set_option maxRecDepth 100000 in
theorem wl_X1_85 : Cond.methodLink RX1 85 yX1_worth ∈ WALL := by
  first
  | exact wt2 (sk16 (sk16 (sk16 (sk16 (sk16 (sk16 (sk16 (sk16 (sk16 (sk16 (sk16 (sk16 (sk16 (sk16 (List.Mem.tail _ (List.Mem.tail _ (List.Mem.tail _ (List.Mem.tail _ (List.Mem.tail _ (List.Mem.tail _ (List.Mem.tail _ (List.Mem.tail _ (List.Mem.tail _ (List.Mem.tail _ (List.Mem.tail _ (List.Mem.tail _ (List.Mem.tail _ (List.Mem.tail _ (List.Mem.tail _ (List.Mem.head _)))))))))))))))))))))))))))))) rfl
  | exact wall 576 (by decide +kernel) rfl
set_option maxRecDepth 100000 in
theorem wi_X1_worth : Cond.instanceMethod yX1_worth ∈ WALL := by
  first
  | exact wt3 (List.Mem.tail _ (List.Mem.head _)) rfl
  | exact wall 578 (by decide +kernel) rfl
set_option maxRecDepth 100000 in
theorem wl_X1_93 : Cond.methodLink RX1 93 yX1_would ∈ WALL := by
  first
  | exact wt3 (List.Mem.tail _ (List.Mem.tail _ (List.Mem.tail _ (List.Mem.head _)))) rfl
  | exact wall 580 (by decide +kernel) rfl
set_option maxRecDepth 100000 in
theorem wi_X1_would : Cond.instanceMethod yX1_would ∈ WALL := by
  first
  | exact wt3 (List.Mem.tail _ (List.Mem.tail _ (List.Mem.tail _ (List.Mem.tail _ (List.Mem.tail _ (List.Mem.head _)))))) rfl
  | exact wall 582 (by decide +kernel) rfl
set_option maxRecDepth 100000 in
theorem wi_X1_answerOf : Cond.instanceMethod yX1_answerOf ∈ WALL := by
  first
  | exact wt3 (List.Mem.tail _ (List.Mem.tail _ (List.Mem.tail _ (List.Mem.tail _ (List.Mem.tail _ (List.Mem.tail _ (List.Mem.tail _ (List.Mem.tail _ (List.Mem.tail _ (List.Mem.tail _ (List.Mem.tail _ (List.Mem.head _)))))))))))) rfl
  | exact wall 588 (by decide +kernel) rfl
set_option maxRecDepth 100000 in
theorem wl_X5_137 : Cond.methodLink RX5 137 yX5_bit ∈ WALL := by
  first
  | exact wt3 (List.Mem.tail _ (List.Mem.tail _ (List.Mem.tail _ (List.Mem.tail _ (List.Mem.tail _ (List.Mem.tail _ (List.Mem.tail _ (List.Mem.tail _ (List.Mem.tail _ (List.Mem.tail _ (List.Mem.tail _ (List.Mem.tail _ (List.Mem.tail _ (List.Mem.tail _ (List.Mem.head _))))))))))))))) rfl
  | exact wall 591 (by decide +kernel) rfl
set_option maxRecDepth 100000 in
theorem wl_L_54 : Cond.methodLink RL 54 yX5_day ∈ WALL := by
  first
  | exact wt3 (sk16 (List.Mem.head _)) rfl
  | exact wall 593 (by decide +kernel) rfl
set_option maxRecDepth 100000 in
theorem wi_X5_day : Cond.instanceMethod yX5_day ∈ WALL := by
  first
  | exact wt3 (sk16 (List.Mem.tail _ (List.Mem.head _))) rfl
  | exact wall 594 (by decide +kernel) rfl
set_option maxRecDepth 100000 in
theorem we_X5_day : Cond.selects RX5 yX5_day yX5_day ∈ WALL := by
  first
  | exact wt3 (sk16 (List.Mem.tail _ (List.Mem.tail _ (List.Mem.head _)))) rfl
  | exact wall 595 (by decide +kernel) rfl
set_option maxRecDepth 100000 in
theorem wi_X1_firstOtherwise : Cond.instanceMethod yX1_firstOtherwise ∈ WALL := by
  first
  | exact wt3 (sk16 (List.Mem.tail _ (List.Mem.tail _ (List.Mem.tail _ (List.Mem.tail _ (List.Mem.tail _ (List.Mem.tail _ (List.Mem.head _)))))))) rfl
  | exact wall 599 (by decide +kernel) rfl
set_option maxRecDepth 100000 in
theorem wl_X1_107 : Cond.methodLink RX1 107 yX1_answerOf ∈ WALL := by
  first
  | exact wt3 (sk16 (List.Mem.tail _ (List.Mem.tail _ (List.Mem.tail _ (List.Mem.tail _ (List.Mem.tail _ (List.Mem.tail _ (List.Mem.tail _ (List.Mem.tail _ (List.Mem.head _)))))))))) rfl
  | exact wall 601 (by decide +kernel) rfl
set_option maxRecDepth 100000 in
theorem wi_X1_answer : Cond.instanceMethod yX1_answer ∈ WALL := by
  first
  | exact wt3 (sk16 (List.Mem.tail _ (List.Mem.tail _ (List.Mem.tail _ (List.Mem.tail _ (List.Mem.tail _ (List.Mem.tail _ (List.Mem.tail _ (List.Mem.tail _ (List.Mem.tail _ (List.Mem.tail _ (List.Mem.tail _ (List.Mem.head _))))))))))))) rfl
  | exact wall 604 (by decide +kernel) rfl
set_option maxRecDepth 100000 in
theorem wi_X1_gainOfAll : Cond.instanceMethod yX1_gainOfAll ∈ WALL := by
  first
  | exact wt3 (sk16 (List.Mem.tail _ (List.Mem.tail _ (List.Mem.tail _ (List.Mem.tail _ (List.Mem.tail _ (List.Mem.tail _ (List.Mem.tail _ (List.Mem.tail _ (List.Mem.tail _ (List.Mem.tail _ (List.Mem.tail _ (List.Mem.tail _ (List.Mem.tail _ (List.Mem.tail _ (List.Mem.tail _ (List.Mem.head _))))))))))))))))) rfl
  | exact wall 608 (by decide +kernel) rfl
set_option maxRecDepth 100000 in
theorem wl_L_58 : Cond.methodLink RL 58 yX5_all ∈ WALL := by
  first
  | exact wt3 (sk16 (sk16 (List.Mem.tail _ (List.Mem.head _)))) rfl
  | exact wall 610 (by decide +kernel) rfl
set_option maxRecDepth 100000 in
theorem wi_X5_all : Cond.instanceMethod yX5_all ∈ WALL := by
  first
  | exact wt3 (sk16 (sk16 (List.Mem.tail _ (List.Mem.tail _ (List.Mem.head _))))) rfl
  | exact wall 611 (by decide +kernel) rfl
set_option maxRecDepth 100000 in
theorem we_X5_all : Cond.selects RX5 yX5_all yX5_all ∈ WALL := by
  first
  | exact wt3 (sk16 (sk16 (List.Mem.tail _ (List.Mem.tail _ (List.Mem.tail _ (List.Mem.head _)))))) rfl
  | exact wall 612 (by decide +kernel) rfl
set_option maxRecDepth 100000 in
theorem wl_X5_152 : Cond.methodLink RX5 152 yX5_searchNow ∈ WALL := by
  first
  | exact wt3 (sk16 (sk16 (List.Mem.tail _ (List.Mem.tail _ (List.Mem.tail _ (List.Mem.tail _ (List.Mem.tail _ (List.Mem.head _)))))))) rfl
  | exact wall 614 (by decide +kernel) rfl
set_option maxRecDepth 100000 in
theorem wi_X5_searchNow : Cond.instanceMethod yX5_searchNow ∈ WALL := by
  first
  | exact wt3 (sk16 (sk16 (List.Mem.tail _ (List.Mem.tail _ (List.Mem.tail _ (List.Mem.tail _ (List.Mem.tail _ (List.Mem.tail _ (List.Mem.tail _ (List.Mem.head _)))))))))) rfl
  | exact wall 616 (by decide +kernel) rfl
set_option maxRecDepth 100000 in
theorem wi_X1_search : Cond.instanceMethod yX1_search ∈ WALL := by
  first
  | exact wt3 (sk16 (sk16 (List.Mem.tail _ (List.Mem.tail _ (List.Mem.tail _ (List.Mem.tail _ (List.Mem.tail _ (List.Mem.tail _ (List.Mem.tail _ (List.Mem.tail _ (List.Mem.tail _ (List.Mem.tail _ (List.Mem.tail _ (List.Mem.head _)))))))))))))) rfl
  | exact wall 620 (by decide +kernel) rfl
set_option maxRecDepth 100000 in
theorem wl_X1_129 : Cond.methodLink RX1 129 yX1_stands ∈ WALL := by
  first
  | exact wt3 (sk16 (sk16 (List.Mem.tail _ (List.Mem.tail _ (List.Mem.tail _ (List.Mem.tail _ (List.Mem.tail _ (List.Mem.tail _ (List.Mem.tail _ (List.Mem.tail _ (List.Mem.tail _ (List.Mem.tail _ (List.Mem.tail _ (List.Mem.tail _ (List.Mem.tail _ (List.Mem.tail _ (List.Mem.head _))))))))))))))))) rfl
  | exact wall 623 (by decide +kernel) rfl
set_option maxRecDepth 100000 in
theorem wi_X1_stands : Cond.instanceMethod yX1_stands ∈ WALL := by
  first
  | exact wt3 (sk16 (sk16 (sk16 (List.Mem.head _)))) rfl
  | exact wall 625 (by decide +kernel) rfl
set_option maxRecDepth 100000 in
theorem wl_X1_110 : Cond.methodLink RX1 110 yX1_firstOtherwise ∈ WALL := by
  first
  | exact wt3 (sk16 (sk16 (sk16 (List.Mem.tail _ (List.Mem.tail _ (List.Mem.head _)))))) rfl
  | exact wall 627 (by decide +kernel) rfl
set_option maxRecDepth 100000 in
theorem wl_X1_132 : Cond.methodLink RX1 132 yX1_addStanding ∈ WALL := by
  first
  | exact wt3 (sk16 (sk16 (sk16 (List.Mem.tail _ (List.Mem.tail _ (List.Mem.tail _ (List.Mem.head _))))))) rfl
  | exact wall 628 (by decide +kernel) rfl
set_option maxRecDepth 100000 in
theorem wi_X1_addStanding : Cond.instanceMethod yX1_addStanding ∈ WALL := by
  first
  | exact wt3 (sk16 (sk16 (sk16 (List.Mem.tail _ (List.Mem.tail _ (List.Mem.tail _ (List.Mem.tail _ (List.Mem.tail _ (List.Mem.head _))))))))) rfl
  | exact wall 630 (by decide +kernel) rfl
set_option maxRecDepth 100000 in
theorem wl_X1_136 : Cond.methodLink RX1 136 yX1_gainOfAll ∈ WALL := by
  first
  | exact wt3 (sk16 (sk16 (sk16 (List.Mem.tail _ (List.Mem.tail _ (List.Mem.tail _ (List.Mem.tail _ (List.Mem.tail _ (List.Mem.tail _ (List.Mem.tail _ (List.Mem.head _))))))))))) rfl
  | exact wall 632 (by decide +kernel) rfl
set_option maxRecDepth 100000 in
theorem wl_L_62 : Cond.methodLink RL 62 yX5_once ∈ WALL := by
  first
  | exact wt3 (sk16 (sk16 (sk16 (List.Mem.tail _ (List.Mem.tail _ (List.Mem.tail _ (List.Mem.tail _ (List.Mem.tail _ (List.Mem.tail _ (List.Mem.tail _ (List.Mem.tail _ (List.Mem.head _)))))))))))) rfl
  | exact wall 633 (by decide +kernel) rfl
set_option maxRecDepth 100000 in
theorem wi_X5_once : Cond.instanceMethod yX5_once ∈ WALL := by
  first
  | exact wt3 (sk16 (sk16 (sk16 (List.Mem.tail _ (List.Mem.tail _ (List.Mem.tail _ (List.Mem.tail _ (List.Mem.tail _ (List.Mem.tail _ (List.Mem.tail _ (List.Mem.tail _ (List.Mem.tail _ (List.Mem.head _))))))))))))) rfl
  | exact wall 634 (by decide +kernel) rfl
set_option maxRecDepth 100000 in
theorem we_X5_once : Cond.selects RX5 yX5_once yX5_once ∈ WALL := by
  first
  | exact wt3 (sk16 (sk16 (sk16 (List.Mem.tail _ (List.Mem.tail _ (List.Mem.tail _ (List.Mem.tail _ (List.Mem.tail _ (List.Mem.tail _ (List.Mem.tail _ (List.Mem.tail _ (List.Mem.tail _ (List.Mem.tail _ (List.Mem.head _)))))))))))))) rfl
  | exact wall 635 (by decide +kernel) rfl
set_option maxRecDepth 100000 in
theorem wl_X5_170 : Cond.methodLink RX5 170 yX5_isPart ∈ WALL := by
  first
  | exact wt3 (sk16 (sk16 (sk16 (List.Mem.tail _ (List.Mem.tail _ (List.Mem.tail _ (List.Mem.tail _ (List.Mem.tail _ (List.Mem.tail _ (List.Mem.tail _ (List.Mem.tail _ (List.Mem.tail _ (List.Mem.tail _ (List.Mem.tail _ (List.Mem.tail _ (List.Mem.head _)))))))))))))))) rfl
  | exact wall 637 (by decide +kernel) rfl
set_option maxRecDepth 100000 in
theorem wt_X5_isPart : Cond.static yX5_isPart ∈ WALL := by
  first
  | exact wt3 (sk16 (sk16 (sk16 (List.Mem.tail _ (List.Mem.tail _ (List.Mem.tail _ (List.Mem.tail _ (List.Mem.tail _ (List.Mem.tail _ (List.Mem.tail _ (List.Mem.tail _ (List.Mem.tail _ (List.Mem.tail _ (List.Mem.tail _ (List.Mem.tail _ (List.Mem.tail _ (List.Mem.head _))))))))))))))))) rfl
  | exact wall 638 (by decide +kernel) rfl
set_option maxRecDepth 100000 in
theorem wl_L_66 : Cond.methodLink RL 66 yX5_again ∈ WALL := by
  first
  | exact wt3 (sk16 (sk16 (sk16 (sk16 (List.Mem.head _))))) rfl
  | exact wall 641 (by decide +kernel) rfl
set_option maxRecDepth 100000 in
theorem wi_X5_again : Cond.instanceMethod yX5_again ∈ WALL := by
  first
  | exact wt3 (sk16 (sk16 (sk16 (sk16 (List.Mem.tail _ (List.Mem.head _)))))) rfl
  | exact wall 642 (by decide +kernel) rfl
set_option maxRecDepth 100000 in
theorem we_X5_again : Cond.selects RX5 yX5_again yX5_again ∈ WALL := by
  first
  | exact wt3 (sk16 (sk16 (sk16 (sk16 (List.Mem.tail _ (List.Mem.tail _ (List.Mem.head _))))))) rfl
  | exact wall 643 (by decide +kernel) rfl
set_option maxRecDepth 100000 in
theorem wl_X5_176 : Cond.methodLink RX5 176 yX5_placeOnPath ∈ WALL := by
  first
  | exact wt3 (sk16 (sk16 (sk16 (sk16 (List.Mem.tail _ (List.Mem.tail _ (List.Mem.tail _ (List.Mem.tail _ (List.Mem.head _))))))))) rfl
  | exact wall 645 (by decide +kernel) rfl
set_option maxRecDepth 100000 in
theorem wi_X5_placeOnPath : Cond.instanceMethod yX5_placeOnPath ∈ WALL := by
  first
  | exact wt3 (sk16 (sk16 (sk16 (sk16 (List.Mem.tail _ (List.Mem.tail _ (List.Mem.tail _ (List.Mem.tail _ (List.Mem.tail _ (List.Mem.tail _ (List.Mem.head _))))))))))) rfl
  | exact wall 647 (by decide +kernel) rfl
set_option maxRecDepth 100000 in
theorem wl_L_70 : Cond.methodLink RL 70 yX5_morning ∈ WALL := by
  first
  | exact wt3 (sk16 (sk16 (sk16 (sk16 (List.Mem.tail _ (List.Mem.tail _ (List.Mem.tail _ (List.Mem.tail _ (List.Mem.tail _ (List.Mem.tail _ (List.Mem.tail _ (List.Mem.tail _ (List.Mem.head _))))))))))))) rfl
  | exact wall 649 (by decide +kernel) rfl
set_option maxRecDepth 100000 in
theorem wi_X5_morning : Cond.instanceMethod yX5_morning ∈ WALL := by
  first
  | exact wt3 (sk16 (sk16 (sk16 (sk16 (List.Mem.tail _ (List.Mem.tail _ (List.Mem.tail _ (List.Mem.tail _ (List.Mem.tail _ (List.Mem.tail _ (List.Mem.tail _ (List.Mem.tail _ (List.Mem.tail _ (List.Mem.head _)))))))))))))) rfl
  | exact wall 650 (by decide +kernel) rfl
set_option maxRecDepth 100000 in
theorem we_X5_morning : Cond.selects RX5 yX5_morning yX5_morning ∈ WALL := by
  first
  | exact wt3 (sk16 (sk16 (sk16 (sk16 (List.Mem.tail _ (List.Mem.tail _ (List.Mem.tail _ (List.Mem.tail _ (List.Mem.tail _ (List.Mem.tail _ (List.Mem.tail _ (List.Mem.tail _ (List.Mem.tail _ (List.Mem.tail _ (List.Mem.head _))))))))))))))) rfl
  | exact wall 651 (by decide +kernel) rfl
set_option maxRecDepth 100000 in
theorem wi_X1_comingDay : Cond.instanceMethod yX1_comingDay ∈ WALL := by
  first
  | exact wt3 (sk16 (sk16 (sk16 (sk16 (List.Mem.tail _ (List.Mem.tail _ (List.Mem.tail _ (List.Mem.tail _ (List.Mem.tail _ (List.Mem.tail _ (List.Mem.tail _ (List.Mem.tail _ (List.Mem.tail _ (List.Mem.tail _ (List.Mem.tail _ (List.Mem.tail _ (List.Mem.tail _ (List.Mem.tail _ (List.Mem.head _))))))))))))))))))) rfl
  | exact wall 655 (by decide +kernel) rfl
set_option maxRecDepth 100000 in
theorem wl_X1_142 : Cond.methodLink RX1 142 yX1_answer ∈ WALL := by
  first
  | exact wt3 (sk16 (sk16 (sk16 (sk16 (sk16 (List.Mem.head _)))))) rfl
  | exact wall 657 (by decide +kernel) rfl
set_option maxRecDepth 100000 in
theorem wi_X2_endMorning : Cond.instanceMethod yX2_endMorning ∈ WALL := by
  first
  | exact wt3 (sk16 (sk16 (sk16 (sk16 (sk16 (List.Mem.tail _ (List.Mem.tail _ (List.Mem.tail _ (List.Mem.head _))))))))) rfl
  | exact wall 660 (by decide +kernel) rfl
set_option maxRecDepth 100000 in
theorem wl_X2_47 : Cond.methodLink RX2 47 yJ6_bitCount_0f7a4 ∈ WALL := by
  first
  | exact wt3 (sk16 (sk16 (sk16 (sk16 (sk16 (List.Mem.tail _ (List.Mem.tail _ (List.Mem.tail _ (List.Mem.tail _ (List.Mem.tail _ (List.Mem.tail _ (List.Mem.head _)))))))))))) rfl
  | exact wall 663 (by decide +kernel) rfl
set_option maxRecDepth 100000 in
theorem wl_L_74 : Cond.methodLink RL 74 yX5_year ∈ WALL := by
  first
  | exact wt3 (sk16 (sk16 (sk16 (sk16 (sk16 (List.Mem.tail _ (List.Mem.tail _ (List.Mem.tail _ (List.Mem.tail _ (List.Mem.tail _ (List.Mem.tail _ (List.Mem.tail _ (List.Mem.head _))))))))))))) rfl
  | exact wall 664 (by decide +kernel) rfl
set_option maxRecDepth 100000 in
theorem wi_X5_year : Cond.instanceMethod yX5_year ∈ WALL := by
  first
  | exact wt3 (sk16 (sk16 (sk16 (sk16 (sk16 (List.Mem.tail _ (List.Mem.tail _ (List.Mem.tail _ (List.Mem.tail _ (List.Mem.tail _ (List.Mem.tail _ (List.Mem.tail _ (List.Mem.tail _ (List.Mem.head _)))))))))))))) rfl
  | exact wall 665 (by decide +kernel) rfl
set_option maxRecDepth 100000 in
theorem we_X5_year : Cond.selects RX5 yX5_year yX5_year ∈ WALL := by
  first
  | exact wt3 (sk16 (sk16 (sk16 (sk16 (sk16 (List.Mem.tail _ (List.Mem.tail _ (List.Mem.tail _ (List.Mem.tail _ (List.Mem.tail _ (List.Mem.tail _ (List.Mem.tail _ (List.Mem.tail _ (List.Mem.tail _ (List.Mem.head _))))))))))))))) rfl
  | exact wall 666 (by decide +kernel) rfl
set_option maxRecDepth 100000 in
theorem wi_X2_become : Cond.instanceMethod yX2_become ∈ WALL := by
  first
  | exact wt3 (sk16 (sk16 (sk16 (sk16 (sk16 (List.Mem.tail _ (List.Mem.tail _ (List.Mem.tail _ (List.Mem.tail _ (List.Mem.tail _ (List.Mem.tail _ (List.Mem.tail _ (List.Mem.tail _ (List.Mem.tail _ (List.Mem.tail _ (List.Mem.tail _ (List.Mem.tail _ (List.Mem.tail _ (List.Mem.head _))))))))))))))))))) rfl
  | exact wall 670 (by decide +kernel) rfl
set_option maxRecDepth 100000 in
theorem wl_X2_53 : Cond.methodLink RX2 53 arraycopyName ∈ WALL := by
  first
  | exact wt3 (sk16 (sk16 (sk16 (sk16 (sk16 (List.Mem.tail _ (List.Mem.tail _ (List.Mem.tail _ (List.Mem.tail _ (List.Mem.tail _ (List.Mem.tail _ (List.Mem.tail _ (List.Mem.tail _ (List.Mem.tail _ (List.Mem.tail _ (List.Mem.tail _ (List.Mem.tail _ (List.Mem.tail _ (List.Mem.tail _ (List.Mem.tail _ (List.Mem.head _))))))))))))))))))))) rfl
  | exact wall 672 (by decide +kernel) rfl
set_option maxRecDepth 100000 in
theorem wl_X5_191 : Cond.methodLink RX5 191 yX5_searchThen ∈ WALL := by
  first
  | exact wt3 (sk16 (sk16 (sk16 (sk16 (sk16 (sk16 (List.Mem.head _))))))) rfl
  | exact wall 673 (by decide +kernel) rfl
set_option maxRecDepth 100000 in
theorem wi_X5_searchThen : Cond.instanceMethod yX5_searchThen ∈ WALL := by
  first
  | exact wt3 (sk16 (sk16 (sk16 (sk16 (sk16 (sk16 (List.Mem.tail _ (List.Mem.tail _ (List.Mem.head _))))))))) rfl
  | exact wall 675 (by decide +kernel) rfl
set_option maxRecDepth 100000 in
theorem wl_L_78 : Cond.methodLink RL 78 yX5_bet ∈ WALL := by
  first
  | exact wt3 (sk16 (sk16 (sk16 (sk16 (sk16 (sk16 (List.Mem.tail _ (List.Mem.tail _ (List.Mem.tail _ (List.Mem.tail _ (List.Mem.head _))))))))))) rfl
  | exact wall 677 (by decide +kernel) rfl
set_option maxRecDepth 100000 in
theorem wi_X5_bet : Cond.instanceMethod yX5_bet ∈ WALL := by
  first
  | exact wt3 (sk16 (sk16 (sk16 (sk16 (sk16 (sk16 (List.Mem.tail _ (List.Mem.tail _ (List.Mem.tail _ (List.Mem.tail _ (List.Mem.tail _ (List.Mem.head _)))))))))))) rfl
  | exact wall 678 (by decide +kernel) rfl
set_option maxRecDepth 100000 in
theorem we_X5_bet : Cond.selects RX5 yX5_bet yX5_bet ∈ WALL := by
  first
  | exact wt3 (sk16 (sk16 (sk16 (sk16 (sk16 (sk16 (List.Mem.tail _ (List.Mem.tail _ (List.Mem.tail _ (List.Mem.tail _ (List.Mem.tail _ (List.Mem.tail _ (List.Mem.head _))))))))))))) rfl
  | exact wall 679 (by decide +kernel) rfl
set_option maxRecDepth 100000 in
theorem wi_X1_stoodWith : Cond.instanceMethod yX1_stoodWith ∈ WALL := by
  first
  | exact wt3 (sk16 (sk16 (sk16 (sk16 (sk16 (sk16 (List.Mem.tail _ (List.Mem.tail _ (List.Mem.tail _ (List.Mem.tail _ (List.Mem.tail _ (List.Mem.tail _ (List.Mem.tail _ (List.Mem.tail _ (List.Mem.tail _ (List.Mem.tail _ (List.Mem.head _))))))))))))))))) rfl
  | exact wall 683 (by decide +kernel) rfl
set_option maxRecDepth 100000 in
theorem wl_X5_197 : Cond.methodLink RX5 197 yX5_commonDivisor ∈ WALL := by
  first
  | exact wt3 (sk16 (sk16 (sk16 (sk16 (sk16 (sk16 (List.Mem.tail _ (List.Mem.tail _ (List.Mem.tail _ (List.Mem.tail _ (List.Mem.tail _ (List.Mem.tail _ (List.Mem.tail _ (List.Mem.tail _ (List.Mem.tail _ (List.Mem.tail _ (List.Mem.tail _ (List.Mem.tail _ (List.Mem.head _))))))))))))))))))) rfl
  | exact wall 685 (by decide +kernel) rfl
set_option maxRecDepth 100000 in
theorem wt_X5_commonDivisor : Cond.static yX5_commonDivisor ∈ WALL := by
  first
  | exact wt3 (sk16 (sk16 (sk16 (sk16 (sk16 (sk16 (List.Mem.tail _ (List.Mem.tail _ (List.Mem.tail _ (List.Mem.tail _ (List.Mem.tail _ (List.Mem.tail _ (List.Mem.tail _ (List.Mem.tail _ (List.Mem.tail _ (List.Mem.tail _ (List.Mem.tail _ (List.Mem.tail _ (List.Mem.tail _ (List.Mem.head _)))))))))))))))))))) rfl
  | exact wall 686 (by decide +kernel) rfl
set_option maxRecDepth 100000 in
theorem wl_X5_200 : Cond.methodLink RX5 200 yJ9_max_7cf53 ∈ WALL := by
  first
  | exact wt3 (sk16 (sk16 (sk16 (sk16 (sk16 (sk16 (List.Mem.tail _ (List.Mem.tail _ (List.Mem.tail _ (List.Mem.tail _ (List.Mem.tail _ (List.Mem.tail _ (List.Mem.tail _ (List.Mem.tail _ (List.Mem.tail _ (List.Mem.tail _ (List.Mem.tail _ (List.Mem.tail _ (List.Mem.tail _ (List.Mem.tail _ (List.Mem.tail _ (List.Mem.head _)))))))))))))))))))))) rfl
  | exact wall 688 (by decide +kernel) rfl
set_option maxRecDepth 100000 in
theorem wl_L_83 : Cond.methodLink RL 83 yX5_sure ∈ WALL := by
  first
  | exact wt3 (sk16 (sk16 (sk16 (sk16 (sk16 (sk16 (sk16 (List.Mem.head _)))))))) rfl
  | exact wall 689 (by decide +kernel) rfl
set_option maxRecDepth 100000 in
theorem wi_X5_sure : Cond.instanceMethod yX5_sure ∈ WALL := by
  first
  | exact wt3 (sk16 (sk16 (sk16 (sk16 (sk16 (sk16 (sk16 (List.Mem.tail _ (List.Mem.head _))))))))) rfl
  | exact wall 690 (by decide +kernel) rfl
set_option maxRecDepth 100000 in
theorem we_X5_sure : Cond.selects RX5 yX5_sure yX5_sure ∈ WALL := by
  first
  | exact wt3 (sk16 (sk16 (sk16 (sk16 (sk16 (sk16 (sk16 (List.Mem.tail _ (List.Mem.tail _ (List.Mem.head _)))))))))) rfl
  | exact wall 691 (by decide +kernel) rfl
set_option maxRecDepth 100000 in
theorem wl_X5_208 : Cond.methodLink RX5 208 yJ6_bitCount_0f7a4 ∈ WALL := by
  first
  | exact wt3 (sk16 (sk16 (sk16 (sk16 (sk16 (sk16 (sk16 (List.Mem.tail _ (List.Mem.tail _ (List.Mem.tail _ (List.Mem.tail _ (List.Mem.head _)))))))))))) rfl
  | exact wall 693 (by decide +kernel) rfl
set_option maxRecDepth 100000 in
theorem wl_X5_213 : Cond.methodLink RX5 213 yX5_tellThen ∈ WALL := by
  first
  | exact wt3 (sk16 (sk16 (sk16 (sk16 (sk16 (sk16 (sk16 (List.Mem.tail _ (List.Mem.tail _ (List.Mem.tail _ (List.Mem.tail _ (List.Mem.tail _ (List.Mem.head _))))))))))))) rfl
  | exact wall 694 (by decide +kernel) rfl
set_option maxRecDepth 100000 in
theorem wi_X5_tellThen : Cond.instanceMethod yX5_tellThen ∈ WALL := by
  first
  | exact wt3 (sk16 (sk16 (sk16 (sk16 (sk16 (sk16 (sk16 (List.Mem.tail _ (List.Mem.tail _ (List.Mem.tail _ (List.Mem.tail _ (List.Mem.tail _ (List.Mem.tail _ (List.Mem.tail _ (List.Mem.head _))))))))))))))) rfl
  | exact wall 696 (by decide +kernel) rfl
set_option maxRecDepth 100000 in
theorem wl_X5_217 : Cond.methodLink RX5 217 yX5_ownRow ∈ WALL := by
  first
  | exact wt3 (sk16 (sk16 (sk16 (sk16 (sk16 (sk16 (sk16 (List.Mem.tail _ (List.Mem.tail _ (List.Mem.tail _ (List.Mem.tail _ (List.Mem.tail _ (List.Mem.tail _ (List.Mem.tail _ (List.Mem.tail _ (List.Mem.tail _ (List.Mem.head _))))))))))))))))) rfl
  | exact wall 698 (by decide +kernel) rfl
set_option maxRecDepth 100000 in
theorem wl_L_87 : Cond.methodLink RL 87 yX5_secret ∈ WALL := by
  first
  | exact wt3 (sk16 (sk16 (sk16 (sk16 (sk16 (sk16 (sk16 (List.Mem.tail _ (List.Mem.tail _ (List.Mem.tail _ (List.Mem.tail _ (List.Mem.tail _ (List.Mem.tail _ (List.Mem.tail _ (List.Mem.tail _ (List.Mem.tail _ (List.Mem.tail _ (List.Mem.head _)))))))))))))))))) rfl
  | exact wall 699 (by decide +kernel) rfl
set_option maxRecDepth 100000 in
theorem wi_X5_secret : Cond.instanceMethod yX5_secret ∈ WALL := by
  first
  | exact wt3 (sk16 (sk16 (sk16 (sk16 (sk16 (sk16 (sk16 (List.Mem.tail _ (List.Mem.tail _ (List.Mem.tail _ (List.Mem.tail _ (List.Mem.tail _ (List.Mem.tail _ (List.Mem.tail _ (List.Mem.tail _ (List.Mem.tail _ (List.Mem.tail _ (List.Mem.tail _ (List.Mem.head _))))))))))))))))))) rfl
  | exact wall 700 (by decide +kernel) rfl
set_option maxRecDepth 100000 in
theorem we_X5_secret : Cond.selects RX5 yX5_secret yX5_secret ∈ WALL := by
  first
  | exact wt3 (sk16 (sk16 (sk16 (sk16 (sk16 (sk16 (sk16 (List.Mem.tail _ (List.Mem.tail _ (List.Mem.tail _ (List.Mem.tail _ (List.Mem.tail _ (List.Mem.tail _ (List.Mem.tail _ (List.Mem.tail _ (List.Mem.tail _ (List.Mem.tail _ (List.Mem.tail _ (List.Mem.tail _ (List.Mem.head _)))))))))))))))))))) rfl
  | exact wall 701 (by decide +kernel) rfl
set_option maxRecDepth 100000 in
theorem wl_L_91 : Cond.methodLink RL 91 yX5_swap ∈ WALL := by
  first
  | exact wt3 (sk16 (sk16 (sk16 (sk16 (sk16 (sk16 (sk16 (List.Mem.tail _ (List.Mem.tail _ (List.Mem.tail _ (List.Mem.tail _ (List.Mem.tail _ (List.Mem.tail _ (List.Mem.tail _ (List.Mem.tail _ (List.Mem.tail _ (List.Mem.tail _ (List.Mem.tail _ (List.Mem.tail _ (List.Mem.tail _ (List.Mem.tail _ (List.Mem.head _)))))))))))))))))))))) rfl
  | exact wall 703 (by decide +kernel) rfl
set_option maxRecDepth 100000 in
theorem wi_X5_swap : Cond.instanceMethod yX5_swap ∈ WALL := by
  first
  | exact wt3 (sk16 (sk16 (sk16 (sk16 (sk16 (sk16 (sk16 (List.Mem.tail _ (List.Mem.tail _ (List.Mem.tail _ (List.Mem.tail _ (List.Mem.tail _ (List.Mem.tail _ (List.Mem.tail _ (List.Mem.tail _ (List.Mem.tail _ (List.Mem.tail _ (List.Mem.tail _ (List.Mem.tail _ (List.Mem.tail _ (List.Mem.tail _ (List.Mem.tail _ (List.Mem.head _))))))))))))))))))))))) rfl
  | exact wall 704 (by decide +kernel) rfl
set_option maxRecDepth 100000 in
theorem we_X5_swap : Cond.selects RX5 yX5_swap yX5_swap ∈ WALL := by
  first
  | exact wt3 (sk16 (sk16 (sk16 (sk16 (sk16 (sk16 (sk16 (sk16 (List.Mem.head _))))))))) rfl
  | exact wall 705 (by decide +kernel) rfl
set_option maxRecDepth 100000 in
theorem wi_X2_exchange : Cond.instanceMethod yX2_exchange ∈ WALL := by
  first
  | exact wt3 (sk16 (sk16 (sk16 (sk16 (sk16 (sk16 (sk16 (sk16 (List.Mem.tail _ (List.Mem.tail _ (List.Mem.tail _ (List.Mem.tail _ (List.Mem.head _))))))))))))) rfl
  | exact wall 709 (by decide +kernel) rfl
set_option maxRecDepth 100000 in
theorem wl_X2_36 : Cond.methodLink RX2 36 yX2_has ∈ WALL := by
  first
  | exact wt3 (sk16 (sk16 (sk16 (sk16 (sk16 (sk16 (sk16 (sk16 (List.Mem.tail _ (List.Mem.tail _ (List.Mem.tail _ (List.Mem.tail _ (List.Mem.tail _ (List.Mem.tail _ (List.Mem.head _))))))))))))))) rfl
  | exact wall 711 (by decide +kernel) rfl
set_option maxRecDepth 100000 in
theorem wl_X5_223 : Cond.methodLink RX5 223 yX5_wouldRather ∈ WALL := by
  first
  | exact wt3 (sk16 (sk16 (sk16 (sk16 (sk16 (sk16 (sk16 (sk16 (List.Mem.tail _ (List.Mem.tail _ (List.Mem.tail _ (List.Mem.tail _ (List.Mem.tail _ (List.Mem.tail _ (List.Mem.tail _ (List.Mem.head _)))))))))))))))) rfl
  | exact wall 712 (by decide +kernel) rfl
set_option maxRecDepth 100000 in
theorem wi_X5_wouldRather : Cond.instanceMethod yX5_wouldRather ∈ WALL := by
  first
  | exact wt3 (sk16 (sk16 (sk16 (sk16 (sk16 (sk16 (sk16 (sk16 (List.Mem.tail _ (List.Mem.tail _ (List.Mem.tail _ (List.Mem.tail _ (List.Mem.tail _ (List.Mem.tail _ (List.Mem.tail _ (List.Mem.tail _ (List.Mem.tail _ (List.Mem.head _)))))))))))))))))) rfl
  | exact wall 714 (by decide +kernel) rfl
set_option maxRecDepth 100000 in
theorem wl_X5_262 : Cond.methodLink RX5 262 yX5_isBetterThen ∈ WALL := by
  first
  | exact wt3 (sk16 (sk16 (sk16 (sk16 (sk16 (sk16 (sk16 (sk16 (List.Mem.tail _ (List.Mem.tail _ (List.Mem.tail _ (List.Mem.tail _ (List.Mem.tail _ (List.Mem.tail _ (List.Mem.tail _ (List.Mem.tail _ (List.Mem.tail _ (List.Mem.tail _ (List.Mem.tail _ (List.Mem.head _)))))))))))))))))))) rfl
  | exact wall 716 (by decide +kernel) rfl
set_option maxRecDepth 100000 in
theorem wi_X5_isBetterThen : Cond.instanceMethod yX5_isBetterThen ∈ WALL := by
  first
  | exact wt3 (sk16 (sk16 (sk16 (sk16 (sk16 (sk16 (sk16 (sk16 (List.Mem.tail _ (List.Mem.tail _ (List.Mem.tail _ (List.Mem.tail _ (List.Mem.tail _ (List.Mem.tail _ (List.Mem.tail _ (List.Mem.tail _ (List.Mem.tail _ (List.Mem.tail _ (List.Mem.tail _ (List.Mem.tail _ (List.Mem.tail _ (List.Mem.head _)))))))))))))))))))))) rfl
  | exact wall 718 (by decide +kernel) rfl
set_option maxRecDepth 100000 in
theorem wl_L_95 : Cond.methodLink RL 95 yX5_book ∈ WALL := by
  first
  | exact wt3 (sk16 (sk16 (sk16 (sk16 (sk16 (sk16 (sk16 (sk16 (List.Mem.tail _ (List.Mem.tail _ (List.Mem.tail _ (List.Mem.tail _ (List.Mem.tail _ (List.Mem.tail _ (List.Mem.tail _ (List.Mem.tail _ (List.Mem.tail _ (List.Mem.tail _ (List.Mem.tail _ (List.Mem.tail _ (List.Mem.tail _ (List.Mem.tail _ (List.Mem.tail _ (List.Mem.head _)))))))))))))))))))))))) rfl
  | exact wall 720 (by decide +kernel) rfl
set_option maxRecDepth 100000 in
theorem wi_X5_book : Cond.instanceMethod yX5_book ∈ WALL := by
  first
  | exact wt3 (sk16 (sk16 (sk16 (sk16 (sk16 (sk16 (sk16 (sk16 (sk16 (List.Mem.head _)))))))))) rfl
  | exact wall 721 (by decide +kernel) rfl
set_option maxRecDepth 100000 in
theorem we_X5_book : Cond.selects RX5 yX5_book yX5_book ∈ WALL := by
  first
  | exact wt3 (sk16 (sk16 (sk16 (sk16 (sk16 (sk16 (sk16 (sk16 (sk16 (List.Mem.tail _ (List.Mem.head _))))))))))) rfl
  | exact wall 722 (by decide +kernel) rfl
set_option maxRecDepth 100000 in
theorem wl_L_99 : Cond.methodLink RL 99 yX5_looked ∈ WALL := by
  first
  | exact wt3 (sk16 (sk16 (sk16 (sk16 (sk16 (sk16 (sk16 (sk16 (sk16 (List.Mem.tail _ (List.Mem.tail _ (List.Mem.tail _ (List.Mem.head _))))))))))))) rfl
  | exact wall 724 (by decide +kernel) rfl
set_option maxRecDepth 100000 in
theorem wi_X5_looked : Cond.instanceMethod yX5_looked ∈ WALL := by
  first
  | exact wt3 (sk16 (sk16 (sk16 (sk16 (sk16 (sk16 (sk16 (sk16 (sk16 (List.Mem.tail _ (List.Mem.tail _ (List.Mem.tail _ (List.Mem.tail _ (List.Mem.head _)))))))))))))) rfl
  | exact wall 725 (by decide +kernel) rfl
set_option maxRecDepth 100000 in
theorem we_X5_looked : Cond.selects RX5 yX5_looked yX5_looked ∈ WALL := by
  first
  | exact wt3 (sk16 (sk16 (sk16 (sk16 (sk16 (sk16 (sk16 (sk16 (sk16 (List.Mem.tail _ (List.Mem.tail _ (List.Mem.tail _ (List.Mem.tail _ (List.Mem.tail _ (List.Mem.head _))))))))))))))) rfl
  | exact wall 726 (by decide +kernel) rfl
set_option maxRecDepth 100000 in
theorem wl_L_103 : Cond.methodLink RL 103 yX5_act ∈ WALL := by
  first
  | exact wt3 (sk16 (sk16 (sk16 (sk16 (sk16 (sk16 (sk16 (sk16 (sk16 (List.Mem.tail _ (List.Mem.tail _ (List.Mem.tail _ (List.Mem.tail _ (List.Mem.tail _ (List.Mem.tail _ (List.Mem.tail _ (List.Mem.head _))))))))))))))))) rfl
  | exact wall 728 (by decide +kernel) rfl
set_option maxRecDepth 100000 in
theorem wi_X5_act : Cond.instanceMethod yX5_act ∈ WALL := by
  first
  | exact wt3 (sk16 (sk16 (sk16 (sk16 (sk16 (sk16 (sk16 (sk16 (sk16 (List.Mem.tail _ (List.Mem.tail _ (List.Mem.tail _ (List.Mem.tail _ (List.Mem.tail _ (List.Mem.tail _ (List.Mem.tail _ (List.Mem.tail _ (List.Mem.head _)))))))))))))))))) rfl
  | exact wall 729 (by decide +kernel) rfl
set_option maxRecDepth 100000 in
theorem we_X5_act : Cond.selects RX5 yX5_act yX5_act ∈ WALL := by
  first
  | exact wt3 (sk16 (sk16 (sk16 (sk16 (sk16 (sk16 (sk16 (sk16 (sk16 (List.Mem.tail _ (List.Mem.tail _ (List.Mem.tail _ (List.Mem.tail _ (List.Mem.tail _ (List.Mem.tail _ (List.Mem.tail _ (List.Mem.tail _ (List.Mem.tail _ (List.Mem.head _))))))))))))))))))) rfl
  | exact wall 730 (by decide +kernel) rfl
set_option maxRecDepth 100000 in
theorem wi_X0_clear : Cond.instanceMethod yX0_clear ∈ WALL := by
  first
  | exact wt3 (sk16 (sk16 (sk16 (sk16 (sk16 (sk16 (sk16 (sk16 (sk16 (List.Mem.tail _ (List.Mem.tail _ (List.Mem.tail _ (List.Mem.tail _ (List.Mem.tail _ (List.Mem.tail _ (List.Mem.tail _ (List.Mem.tail _ (List.Mem.tail _ (List.Mem.tail _ (List.Mem.tail _ (List.Mem.tail _ (List.Mem.tail _ (List.Mem.head _))))))))))))))))))))))) rfl
  | exact wall 734 (by decide +kernel) rfl
set_option maxRecDepth 100000 in
theorem wi_X0_start : Cond.instanceMethod yX0_start ∈ WALL := by
  first
  | exact wt3 (sk16 (sk16 (sk16 (sk16 (sk16 (sk16 (sk16 (sk16 (sk16 (sk16 (List.Mem.tail _ (List.Mem.head _)))))))))))) rfl
  | exact wall 738 (by decide +kernel) rfl
set_option maxRecDepth 100000 in
theorem wl_X0_38 : Cond.methodLink RX0 38 yX0_ask ∈ WALL := by
  first
  | exact wt3 (sk16 (sk16 (sk16 (sk16 (sk16 (sk16 (sk16 (sk16 (sk16 (sk16 (List.Mem.tail _ (List.Mem.tail _ (List.Mem.tail _ (List.Mem.tail _ (List.Mem.head _))))))))))))))) rfl
  | exact wall 741 (by decide +kernel) rfl
set_option maxRecDepth 100000 in
theorem wi_X0_ask : Cond.instanceMethod yX0_ask ∈ WALL := by
  first
  | exact wt3 (sk16 (sk16 (sk16 (sk16 (sk16 (sk16 (sk16 (sk16 (sk16 (sk16 (List.Mem.tail _ (List.Mem.tail _ (List.Mem.tail _ (List.Mem.tail _ (List.Mem.tail _ (List.Mem.tail _ (List.Mem.head _))))))))))))))))) rfl
  | exact wall 743 (by decide +kernel) rfl
set_option maxRecDepth 100000 in
theorem wl_X0_48 : Cond.methodLink RX0 48 yX0_bodyOf ∈ WALL := by
  first
  | exact wt3 (sk16 (sk16 (sk16 (sk16 (sk16 (sk16 (sk16 (sk16 (sk16 (sk16 (List.Mem.tail _ (List.Mem.tail _ (List.Mem.tail _ (List.Mem.tail _ (List.Mem.tail _ (List.Mem.tail _ (List.Mem.tail _ (List.Mem.tail _ (List.Mem.head _))))))))))))))))))) rfl
  | exact wall 745 (by decide +kernel) rfl
set_option maxRecDepth 100000 in
theorem wt_X0_bodyOf : Cond.static yX0_bodyOf ∈ WALL := by
  first
  | exact wt3 (sk16 (sk16 (sk16 (sk16 (sk16 (sk16 (sk16 (sk16 (sk16 (sk16 (List.Mem.tail _ (List.Mem.tail _ (List.Mem.tail _ (List.Mem.tail _ (List.Mem.tail _ (List.Mem.tail _ (List.Mem.tail _ (List.Mem.tail _ (List.Mem.tail _ (List.Mem.head _)))))))))))))))))))) rfl
  | exact wall 746 (by decide +kernel) rfl
set_option maxRecDepth 100000 in
theorem wf_X0_42 : Cond.fieldLink RX0 42 "DayKnown$Acts" "BODY" "[I" ∈ WALL := by
  first
  | exact wt3 (sk16 (sk16 (sk16 (sk16 (sk16 (sk16 (sk16 (sk16 (sk16 (sk16 (List.Mem.tail _ (List.Mem.tail _ (List.Mem.tail _ (List.Mem.tail _ (List.Mem.tail _ (List.Mem.tail _ (List.Mem.tail _ (List.Mem.tail _ (List.Mem.tail _ (List.Mem.tail _ (List.Mem.tail _ (List.Mem.head _)))))))))))))))))))))) rfl
  | exact wall 748 (by decide +kernel) rfl
set_option maxRecDepth 100000 in
theorem wl_X0_52 : Cond.methodLink RX0 52 yX0_begin ∈ WALL := by
  first
  | exact wt3 (sk16 (sk16 (sk16 (sk16 (sk16 (sk16 (sk16 (sk16 (sk16 (sk16 (List.Mem.tail _ (List.Mem.tail _ (List.Mem.tail _ (List.Mem.tail _ (List.Mem.tail _ (List.Mem.tail _ (List.Mem.tail _ (List.Mem.tail _ (List.Mem.tail _ (List.Mem.tail _ (List.Mem.tail _ (List.Mem.tail _ (List.Mem.tail _ (List.Mem.tail _ (List.Mem.tail _ (List.Mem.head _)))))))))))))))))))))))))) rfl
  | exact wall 752 (by decide +kernel) rfl
set_option maxRecDepth 100000 in
theorem wi_X0_begin : Cond.instanceMethod yX0_begin ∈ WALL := by
  first
  | exact wt3 (sk16 (sk16 (sk16 (sk16 (sk16 (sk16 (sk16 (sk16 (sk16 (sk16 (sk16 (List.Mem.tail _ (List.Mem.head _))))))))))))) rfl
  | exact wall 754 (by decide +kernel) rfl
set_option maxRecDepth 100000 in
theorem wl_L_107 : Cond.methodLink RL 107 yX5_trace ∈ WALL := by
  first
  | exact wt3 (sk16 (sk16 (sk16 (sk16 (sk16 (sk16 (sk16 (sk16 (sk16 (sk16 (sk16 (List.Mem.tail _ (List.Mem.tail _ (List.Mem.tail _ (List.Mem.head _))))))))))))))) rfl
  | exact wall 756 (by decide +kernel) rfl
set_option maxRecDepth 100000 in
theorem wi_X5_trace : Cond.instanceMethod yX5_trace ∈ WALL := by
  first
  | exact wt3 (sk16 (sk16 (sk16 (sk16 (sk16 (sk16 (sk16 (sk16 (sk16 (sk16 (sk16 (List.Mem.tail _ (List.Mem.tail _ (List.Mem.tail _ (List.Mem.tail _ (List.Mem.head _)))))))))))))))) rfl
  | exact wall 757 (by decide +kernel) rfl
set_option maxRecDepth 100000 in
theorem we_X5_trace : Cond.selects RX5 yX5_trace yX5_trace ∈ WALL := by
  first
  | exact wt3 (sk16 (sk16 (sk16 (sk16 (sk16 (sk16 (sk16 (sk16 (sk16 (sk16 (sk16 (List.Mem.tail _ (List.Mem.tail _ (List.Mem.tail _ (List.Mem.tail _ (List.Mem.tail _ (List.Mem.head _))))))))))))))))) rfl
  | exact wall 758 (by decide +kernel) rfl
set_option maxRecDepth 100000 in
theorem wl_L_111 : Cond.methodLink RL 111 yX5_as ∈ WALL := by
  first
  | exact wt3 (sk16 (sk16 (sk16 (sk16 (sk16 (sk16 (sk16 (sk16 (sk16 (sk16 (sk16 (List.Mem.tail _ (List.Mem.tail _ (List.Mem.tail _ (List.Mem.tail _ (List.Mem.tail _ (List.Mem.tail _ (List.Mem.tail _ (List.Mem.head _))))))))))))))))))) rfl
  | exact wall 760 (by decide +kernel) rfl
set_option maxRecDepth 100000 in
theorem wi_X5_as : Cond.instanceMethod yX5_as ∈ WALL := by
  first
  | exact wt3 (sk16 (sk16 (sk16 (sk16 (sk16 (sk16 (sk16 (sk16 (sk16 (sk16 (sk16 (List.Mem.tail _ (List.Mem.tail _ (List.Mem.tail _ (List.Mem.tail _ (List.Mem.tail _ (List.Mem.tail _ (List.Mem.tail _ (List.Mem.tail _ (List.Mem.head _)))))))))))))))))))) rfl
  | exact wall 761 (by decide +kernel) rfl
set_option maxRecDepth 100000 in
theorem we_X5_as : Cond.selects RX5 yX5_as yX5_as ∈ WALL := by
  first
  | exact wt3 (sk16 (sk16 (sk16 (sk16 (sk16 (sk16 (sk16 (sk16 (sk16 (sk16 (sk16 (List.Mem.tail _ (List.Mem.tail _ (List.Mem.tail _ (List.Mem.tail _ (List.Mem.tail _ (List.Mem.tail _ (List.Mem.tail _ (List.Mem.tail _ (List.Mem.tail _ (List.Mem.head _))))))))))))))))))))) rfl
  | exact wall 762 (by decide +kernel) rfl
set_option maxRecDepth 100000 in
theorem wf_X5_246 : Cond.fieldLink RX5 246 "DayKnown" "KIND_ABOVE" "[I" ∈ WALL := by
  first
  | exact wt3 (sk16 (sk16 (sk16 (sk16 (sk16 (sk16 (sk16 (sk16 (sk16 (sk16 (sk16 (List.Mem.tail _ (List.Mem.tail _ (List.Mem.tail _ (List.Mem.tail _ (List.Mem.tail _ (List.Mem.tail _ (List.Mem.tail _ (List.Mem.tail _ (List.Mem.tail _ (List.Mem.tail _ (List.Mem.tail _ (List.Mem.head _))))))))))))))))))))))) rfl
  | exact wall 764 (by decide +kernel) rfl
set_option maxRecDepth 100000 in
theorem wl_L_115 : Cond.methodLink RL 115 yX5_image ∈ WALL := by
  first
  | exact wt3 (sk16 (sk16 (sk16 (sk16 (sk16 (sk16 (sk16 (sk16 (sk16 (sk16 (sk16 (List.Mem.tail _ (List.Mem.tail _ (List.Mem.tail _ (List.Mem.tail _ (List.Mem.tail _ (List.Mem.tail _ (List.Mem.tail _ (List.Mem.tail _ (List.Mem.tail _ (List.Mem.tail _ (List.Mem.tail _ (List.Mem.tail _ (List.Mem.head _)))))))))))))))))))))))) rfl
  | exact wall 765 (by decide +kernel) rfl
set_option maxRecDepth 100000 in
theorem wi_X5_image : Cond.instanceMethod yX5_image ∈ WALL := by
  first
  | exact wt3 (sk16 (sk16 (sk16 (sk16 (sk16 (sk16 (sk16 (sk16 (sk16 (sk16 (sk16 (List.Mem.tail _ (List.Mem.tail _ (List.Mem.tail _ (List.Mem.tail _ (List.Mem.tail _ (List.Mem.tail _ (List.Mem.tail _ (List.Mem.tail _ (List.Mem.tail _ (List.Mem.tail _ (List.Mem.tail _ (List.Mem.tail _ (List.Mem.tail _ (List.Mem.head _))))))))))))))))))))))))) rfl
  | exact wall 766 (by decide +kernel) rfl
set_option maxRecDepth 100000 in
theorem we_X5_image : Cond.selects RX5 yX5_image yX5_image ∈ WALL := by
  first
  | exact wt3 (sk16 (sk16 (sk16 (sk16 (sk16 (sk16 (sk16 (sk16 (sk16 (sk16 (sk16 (List.Mem.tail _ (List.Mem.tail _ (List.Mem.tail _ (List.Mem.tail _ (List.Mem.tail _ (List.Mem.tail _ (List.Mem.tail _ (List.Mem.tail _ (List.Mem.tail _ (List.Mem.tail _ (List.Mem.tail _ (List.Mem.tail _ (List.Mem.tail _ (List.Mem.tail _ (List.Mem.head _)))))))))))))))))))))))))) rfl
  | exact wall 767 (by decide +kernel) rfl
set_option maxRecDepth 100000 in
theorem wi_X3_become : Cond.instanceMethod yX3_become ∈ WALL := by
  first
  | exact wt3 (sk16 (sk16 (sk16 (sk16 (sk16 (sk16 (sk16 (sk16 (sk16 (sk16 (sk16 (sk16 (List.Mem.tail _ (List.Mem.tail _ (List.Mem.head _))))))))))))))) rfl
  | exact wall 771 (by decide +kernel) rfl
set_option maxRecDepth 100000 in
theorem wl_X3_29 : Cond.methodLink RX3 29 arraycopyName ∈ WALL := by
  first
  | exact wt3 (sk16 (sk16 (sk16 (sk16 (sk16 (sk16 (sk16 (sk16 (sk16 (sk16 (sk16 (sk16 (List.Mem.tail _ (List.Mem.tail _ (List.Mem.tail _ (List.Mem.tail _ (List.Mem.tail _ (List.Mem.head _)))))))))))))))))) rfl
  | exact wall 774 (by decide +kernel) rfl
set_option maxRecDepth 100000 in
theorem wl_L_119 : Cond.methodLink RL 119 yX5_undo ∈ WALL := by
  first
  | exact wt3 (sk16 (sk16 (sk16 (sk16 (sk16 (sk16 (sk16 (sk16 (sk16 (sk16 (sk16 (sk16 (List.Mem.tail _ (List.Mem.tail _ (List.Mem.tail _ (List.Mem.tail _ (List.Mem.tail _ (List.Mem.tail _ (List.Mem.head _))))))))))))))))))) rfl
  | exact wall 775 (by decide +kernel) rfl
set_option maxRecDepth 100000 in
theorem wi_X5_undo : Cond.instanceMethod yX5_undo ∈ WALL := by
  first
  | exact wt3 (sk16 (sk16 (sk16 (sk16 (sk16 (sk16 (sk16 (sk16 (sk16 (sk16 (sk16 (sk16 (List.Mem.tail _ (List.Mem.tail _ (List.Mem.tail _ (List.Mem.tail _ (List.Mem.tail _ (List.Mem.tail _ (List.Mem.tail _ (List.Mem.head _)))))))))))))))))))) rfl
  | exact wall 776 (by decide +kernel) rfl
set_option maxRecDepth 100000 in
theorem we_X5_undo : Cond.selects RX5 yX5_undo yX5_undo ∈ WALL := by
  first
  | exact wt3 (sk16 (sk16 (sk16 (sk16 (sk16 (sk16 (sk16 (sk16 (sk16 (sk16 (sk16 (sk16 (List.Mem.tail _ (List.Mem.tail _ (List.Mem.tail _ (List.Mem.tail _ (List.Mem.tail _ (List.Mem.tail _ (List.Mem.tail _ (List.Mem.tail _ (List.Mem.head _))))))))))))))))))))) rfl
  | exact wall 777 (by decide +kernel) rfl
set_option maxRecDepth 100000 in
theorem wl_L_123 : Cond.methodLink RL 123 yX5_count ∈ WALL := by
  first
  | exact wt3 (sk16 (sk16 (sk16 (sk16 (sk16 (sk16 (sk16 (sk16 (sk16 (sk16 (sk16 (sk16 (List.Mem.tail _ (List.Mem.tail _ (List.Mem.tail _ (List.Mem.tail _ (List.Mem.tail _ (List.Mem.tail _ (List.Mem.tail _ (List.Mem.tail _ (List.Mem.tail _ (List.Mem.tail _ (List.Mem.head _))))))))))))))))))))))) rfl
  | exact wall 779 (by decide +kernel) rfl
set_option maxRecDepth 100000 in
theorem wi_X5_count : Cond.instanceMethod yX5_count ∈ WALL := by
  first
  | exact wt3 (sk16 (sk16 (sk16 (sk16 (sk16 (sk16 (sk16 (sk16 (sk16 (sk16 (sk16 (sk16 (List.Mem.tail _ (List.Mem.tail _ (List.Mem.tail _ (List.Mem.tail _ (List.Mem.tail _ (List.Mem.tail _ (List.Mem.tail _ (List.Mem.tail _ (List.Mem.tail _ (List.Mem.tail _ (List.Mem.tail _ (List.Mem.head _)))))))))))))))))))))))) rfl
  | exact wall 780 (by decide +kernel) rfl
set_option maxRecDepth 100000 in
theorem we_X5_count : Cond.selects RX5 yX5_count yX5_count ∈ WALL := by
  first
  | exact wt3 (sk16 (sk16 (sk16 (sk16 (sk16 (sk16 (sk16 (sk16 (sk16 (sk16 (sk16 (sk16 (List.Mem.tail _ (List.Mem.tail _ (List.Mem.tail _ (List.Mem.tail _ (List.Mem.tail _ (List.Mem.tail _ (List.Mem.tail _ (List.Mem.tail _ (List.Mem.tail _ (List.Mem.tail _ (List.Mem.tail _ (List.Mem.tail _ (List.Mem.head _))))))))))))))))))))))))) rfl
  | exact wall 781 (by decide +kernel) rfl
set_option maxRecDepth 100000 in
theorem wcl_L_10 : Cond.classLink RL 10 "DayKnownModel" ∈ WALL := by
  first
  | exact wt3 (sk16 (sk16 (sk16 (sk16 (sk16 (sk16 (sk16 (sk16 (sk16 (sk16 (sk16 (sk16 (List.Mem.tail _ (List.Mem.tail _ (List.Mem.tail _ (List.Mem.tail _ (List.Mem.tail _ (List.Mem.tail _ (List.Mem.tail _ (List.Mem.tail _ (List.Mem.tail _ (List.Mem.tail _ (List.Mem.tail _ (List.Mem.tail _ (List.Mem.tail _ (List.Mem.tail _ (List.Mem.head _))))))))))))))))))))))))))) rfl
  | exact wall 783 (by decide +kernel) rfl
set_option maxRecDepth 100000 in
theorem wn_X6 : Cond.instantiable RX6 28 ∈ WALL := by
  first
  | exact wt3 (sk16 (sk16 (sk16 (sk16 (sk16 (sk16 (sk16 (sk16 (sk16 (sk16 (sk16 (sk16 (List.Mem.tail _ (List.Mem.tail _ (List.Mem.tail _ (List.Mem.tail _ (List.Mem.tail _ (List.Mem.tail _ (List.Mem.tail _ (List.Mem.tail _ (List.Mem.tail _ (List.Mem.tail _ (List.Mem.tail _ (List.Mem.tail _ (List.Mem.tail _ (List.Mem.tail _ (List.Mem.tail _ (List.Mem.head _)))))))))))))))))))))))))))) rfl
  | exact wall 784 (by decide +kernel) rfl
set_option maxRecDepth 100000 in
theorem wl_L_12 : Cond.methodLink RL 12 yX6_init ∈ WALL := by
  first
  | exact wt3 (sk16 (sk16 (sk16 (sk16 (sk16 (sk16 (sk16 (sk16 (sk16 (sk16 (sk16 (sk16 (sk16 (List.Mem.head _)))))))))))))) rfl
  | exact wall 785 (by decide +kernel) rfl
set_option maxRecDepth 100000 in
theorem wi_X6_init : Cond.instanceMethod yX6_init ∈ WALL := by
  first
  | exact wt3 (sk16 (sk16 (sk16 (sk16 (sk16 (sk16 (sk16 (sk16 (sk16 (sk16 (sk16 (sk16 (sk16 (List.Mem.tail _ (List.Mem.head _))))))))))))))) rfl
  | exact wall 786 (by decide +kernel) rfl
set_option maxRecDepth 100000 in
theorem wl_X6_1 : Cond.methodLink RX6 1 Lib.objectInit ∈ WALL := by
  first
  | exact wt3 (sk16 (sk16 (sk16 (sk16 (sk16 (sk16 (sk16 (sk16 (sk16 (sk16 (sk16 (sk16 (sk16 (List.Mem.tail _ (List.Mem.tail _ (List.Mem.tail _ (List.Mem.head _))))))))))))))))) rfl
  | exact wall 788 (by decide +kernel) rfl
set_option maxRecDepth 100000 in
theorem wf_X6_7 : Cond.fieldLink RX6 7 "DayKnownModel" "s" "[I" ∈ WALL := by
  first
  | exact wt3 (sk16 (sk16 (sk16 (sk16 (sk16 (sk16 (sk16 (sk16 (sk16 (sk16 (sk16 (sk16 (sk16 (List.Mem.tail _ (List.Mem.tail _ (List.Mem.tail _ (List.Mem.tail _ (List.Mem.head _)))))))))))))))))) rfl
  | exact wall 789 (by decide +kernel) rfl
set_option maxRecDepth 100000 in
theorem wf_X6_13 : Cond.fieldLink RX6 13 "DayKnownModel" "image" "[I" ∈ WALL := by
  first
  | exact wt3 (sk16 (sk16 (sk16 (sk16 (sk16 (sk16 (sk16 (sk16 (sk16 (sk16 (sk16 (sk16 (sk16 (List.Mem.tail _ (List.Mem.tail _ (List.Mem.tail _ (List.Mem.tail _ (List.Mem.tail _ (List.Mem.head _))))))))))))))))))) rfl
  | exact wall 790 (by decide +kernel) rfl
set_option maxRecDepth 100000 in
theorem wf_X6_268 : Cond.fieldLink RX6 268 "DayKnownModel" "hasImage" "Z" ∈ WALL := by
  first
  | exact wt3 (sk16 (sk16 (sk16 (sk16 (sk16 (sk16 (sk16 (sk16 (sk16 (sk16 (sk16 (sk16 (sk16 (List.Mem.tail _ (List.Mem.tail _ (List.Mem.tail _ (List.Mem.tail _ (List.Mem.tail _ (List.Mem.tail _ (List.Mem.head _)))))))))))))))))))) rfl
  | exact wall 791 (by decide +kernel) rfl
set_option maxRecDepth 100000 in
theorem wf_X6_79 : Cond.fieldLink RX6 79 "DayKnownModel" "act" "I" ∈ WALL := by
  first
  | exact wt3 (sk16 (sk16 (sk16 (sk16 (sk16 (sk16 (sk16 (sk16 (sk16 (sk16 (sk16 (sk16 (sk16 (List.Mem.tail _ (List.Mem.tail _ (List.Mem.tail _ (List.Mem.tail _ (List.Mem.tail _ (List.Mem.tail _ (List.Mem.tail _ (List.Mem.head _))))))))))))))))))))) rfl
  | exact wall 792 (by decide +kernel) rfl
set_option maxRecDepth 100000 in
theorem wf_X6_53 : Cond.fieldLink RX6 53 "DayKnownModel" "spot" "I" ∈ WALL := by
  first
  | exact wt3 (sk16 (sk16 (sk16 (sk16 (sk16 (sk16 (sk16 (sk16 (sk16 (sk16 (sk16 (sk16 (sk16 (List.Mem.tail _ (List.Mem.tail _ (List.Mem.tail _ (List.Mem.tail _ (List.Mem.tail _ (List.Mem.tail _ (List.Mem.tail _ (List.Mem.tail _ (List.Mem.head _)))))))))))))))))))))) rfl
  | exact wall 793 (by decide +kernel) rfl
set_option maxRecDepth 100000 in
theorem wf_X6_56 : Cond.fieldLink RX6 56 "DayKnownModel" "end" "I" ∈ WALL := by
  first
  | exact wt3 (sk16 (sk16 (sk16 (sk16 (sk16 (sk16 (sk16 (sk16 (sk16 (sk16 (sk16 (sk16 (sk16 (List.Mem.tail _ (List.Mem.tail _ (List.Mem.tail _ (List.Mem.tail _ (List.Mem.tail _ (List.Mem.tail _ (List.Mem.tail _ (List.Mem.tail _ (List.Mem.tail _ (List.Mem.head _))))))))))))))))))))))) rfl
  | exact wall 794 (by decide +kernel) rfl
set_option maxRecDepth 100000 in
theorem wf_X6_59 : Cond.fieldLink RX6 59 "DayKnownModel" "isWrong" "Z" ∈ WALL := by
  first
  | exact wt3 (sk16 (sk16 (sk16 (sk16 (sk16 (sk16 (sk16 (sk16 (sk16 (sk16 (sk16 (sk16 (sk16 (List.Mem.tail _ (List.Mem.tail _ (List.Mem.tail _ (List.Mem.tail _ (List.Mem.tail _ (List.Mem.tail _ (List.Mem.tail _ (List.Mem.tail _ (List.Mem.tail _ (List.Mem.tail _ (List.Mem.head _)))))))))))))))))))))))) rfl
  | exact wall 795 (by decide +kernel) rfl
set_option maxRecDepth 100000 in
theorem wf_X6_82 : Cond.fieldLink RX6 82 "DayKnownModel" "open" "I" ∈ WALL := by
  first
  | exact wt3 (sk16 (sk16 (sk16 (sk16 (sk16 (sk16 (sk16 (sk16 (sk16 (sk16 (sk16 (sk16 (sk16 (List.Mem.tail _ (List.Mem.tail _ (List.Mem.tail _ (List.Mem.tail _ (List.Mem.tail _ (List.Mem.tail _ (List.Mem.tail _ (List.Mem.tail _ (List.Mem.tail _ (List.Mem.tail _ (List.Mem.tail _ (List.Mem.head _))))))))))))))))))))))))) rfl
  | exact wall 796 (by decide +kernel) rfl
set_option maxRecDepth 100000 in
theorem wf_X6_16 : Cond.fieldLink RX6 16 "DayKnownModel" "by" "[I" ∈ WALL := by
  first
  | exact wt3 (sk16 (sk16 (sk16 (sk16 (sk16 (sk16 (sk16 (sk16 (sk16 (sk16 (sk16 (sk16 (sk16 (List.Mem.tail _ (List.Mem.tail _ (List.Mem.tail _ (List.Mem.tail _ (List.Mem.tail _ (List.Mem.tail _ (List.Mem.tail _ (List.Mem.tail _ (List.Mem.tail _ (List.Mem.tail _ (List.Mem.tail _ (List.Mem.tail _ (List.Mem.head _)))))))))))))))))))))))))) rfl
  | exact wall 797 (by decide +kernel) rfl
set_option maxRecDepth 100000 in
theorem wf_X6_19 : Cond.fieldLink RX6 19 "DayKnownModel" "truths" "[Z" ∈ WALL := by
  first
  | exact wt3 (sk16 (sk16 (sk16 (sk16 (sk16 (sk16 (sk16 (sk16 (sk16 (sk16 (sk16 (sk16 (sk16 (List.Mem.tail _ (List.Mem.tail _ (List.Mem.tail _ (List.Mem.tail _ (List.Mem.tail _ (List.Mem.tail _ (List.Mem.tail _ (List.Mem.tail _ (List.Mem.tail _ (List.Mem.tail _ (List.Mem.tail _ (List.Mem.tail _ (List.Mem.tail _ (List.Mem.head _))))))))))))))))))))))))))) rfl
  | exact wall 798 (by decide +kernel) rfl
set_option maxRecDepth 100000 in
theorem wf_X6_23 : Cond.fieldLink RX6 23 "DayKnownModel" "table" "[I" ∈ WALL := by
  first
  | exact wt3 (sk16 (sk16 (sk16 (sk16 (sk16 (sk16 (sk16 (sk16 (sk16 (sk16 (sk16 (sk16 (sk16 (List.Mem.tail _ (List.Mem.tail _ (List.Mem.tail _ (List.Mem.tail _ (List.Mem.tail _ (List.Mem.tail _ (List.Mem.tail _ (List.Mem.tail _ (List.Mem.tail _ (List.Mem.tail _ (List.Mem.tail _ (List.Mem.tail _ (List.Mem.tail _ (List.Mem.tail _ (List.Mem.head _)))))))))))))))))))))))))))) rfl
  | exact wall 799 (by decide +kernel) rfl
set_option maxRecDepth 100000 in
theorem wf_X6_26 : Cond.fieldLink RX6 26 "DayKnownModel" "bests" "[I" ∈ WALL := by
  first
  | exact wt3 (sk16 (sk16 (sk16 (sk16 (sk16 (sk16 (sk16 (sk16 (sk16 (sk16 (sk16 (sk16 (sk16 (List.Mem.tail _ (List.Mem.tail _ (List.Mem.tail _ (List.Mem.tail _ (List.Mem.tail _ (List.Mem.tail _ (List.Mem.tail _ (List.Mem.tail _ (List.Mem.tail _ (List.Mem.tail _ (List.Mem.tail _ (List.Mem.tail _ (List.Mem.tail _ (List.Mem.tail _ (List.Mem.tail _ (List.Mem.head _))))))))))))))))))))))))))))) rfl
  | exact wall 800 (by decide +kernel) rfl
set_option maxRecDepth 100000 in
theorem wf_X6_132 : Cond.fieldLink RX6 132 "DayKnownModel" "times" "I" ∈ WALL := by
  first
  | exact wt3 (sk16 (sk16 (sk16 (sk16 (sk16 (sk16 (sk16 (sk16 (sk16 (sk16 (sk16 (sk16 (sk16 (sk16 (List.Mem.head _))))))))))))))) rfl
  | exact wall 801 (by decide +kernel) rfl
set_option maxRecDepth 100000 in
theorem wf_X6_190 : Cond.fieldLink RX6 190 "DayKnownModel" "standing" "I" ∈ WALL := by
  first
  | exact wt3 (sk16 (sk16 (sk16 (sk16 (sk16 (sk16 (sk16 (sk16 (sk16 (sk16 (sk16 (sk16 (sk16 (sk16 (List.Mem.tail _ (List.Mem.head _)))))))))))))))) rfl
  | exact wall 802 (by decide +kernel) rfl
set_option maxRecDepth 100000 in
theorem wf_X6_193 : Cond.fieldLink RX6 193 "DayKnownModel" "leastDay" "I" ∈ WALL := by
  first
  | exact wt3 (sk16 (sk16 (sk16 (sk16 (sk16 (sk16 (sk16 (sk16 (sk16 (sk16 (sk16 (sk16 (sk16 (sk16 (List.Mem.tail _ (List.Mem.tail _ (List.Mem.head _))))))))))))))))) rfl
  | exact wall 803 (by decide +kernel) rfl
set_option maxRecDepth 100000 in
theorem wf_X6_196 : Cond.fieldLink RX6 196 "DayKnownModel" "greatestDay" "I" ∈ WALL := by
  first
  | exact wt3 (sk16 (sk16 (sk16 (sk16 (sk16 (sk16 (sk16 (sk16 (sk16 (sk16 (sk16 (sk16 (sk16 (sk16 (List.Mem.tail _ (List.Mem.tail _ (List.Mem.tail _ (List.Mem.head _)))))))))))))))))) rfl
  | exact wall 804 (by decide +kernel) rfl
set_option maxRecDepth 100000 in
theorem wf_X6_199 : Cond.fieldLink RX6 199 "DayKnownModel" "chosen" "I" ∈ WALL := by
  first
  | exact wt3 (sk16 (sk16 (sk16 (sk16 (sk16 (sk16 (sk16 (sk16 (sk16 (sk16 (sk16 (sk16 (sk16 (sk16 (List.Mem.tail _ (List.Mem.tail _ (List.Mem.tail _ (List.Mem.tail _ (List.Mem.head _))))))))))))))))))) rfl
  | exact wall 805 (by decide +kernel) rfl
set_option maxRecDepth 100000 in
theorem wf_X6_202 : Cond.fieldLink RX6 202 "DayKnownModel" "chosenGain" "I" ∈ WALL := by
  first
  | exact wt3 (sk16 (sk16 (sk16 (sk16 (sk16 (sk16 (sk16 (sk16 (sk16 (sk16 (sk16 (sk16 (sk16 (sk16 (List.Mem.tail _ (List.Mem.tail _ (List.Mem.tail _ (List.Mem.tail _ (List.Mem.tail _ (List.Mem.head _)))))))))))))))))))) rfl
  | exact wall 806 (by decide +kernel) rfl
set_option maxRecDepth 100000 in
theorem wf_X6_29 : Cond.fieldLink RX6 29 "DayKnownModel" "came" "[I" ∈ WALL := by
  first
  | exact wt3 (sk16 (sk16 (sk16 (sk16 (sk16 (sk16 (sk16 (sk16 (sk16 (sk16 (sk16 (sk16 (sk16 (sk16 (List.Mem.tail _ (List.Mem.tail _ (List.Mem.tail _ (List.Mem.tail _ (List.Mem.tail _ (List.Mem.tail _ (List.Mem.head _))))))))))))))))))))) rfl
  | exact wall 807 (by decide +kernel) rfl
set_option maxRecDepth 100000 in
theorem wf_X6_211 : Cond.fieldLink RX6 211 "DayKnownModel" "dayGain" "I" ∈ WALL := by
  first
  | exact wt3 (sk16 (sk16 (sk16 (sk16 (sk16 (sk16 (sk16 (sk16 (sk16 (sk16 (sk16 (sk16 (sk16 (sk16 (List.Mem.tail _ (List.Mem.tail _ (List.Mem.tail _ (List.Mem.tail _ (List.Mem.tail _ (List.Mem.tail _ (List.Mem.tail _ (List.Mem.head _)))))))))))))))))))))) rfl
  | exact wall 808 (by decide +kernel) rfl
set_option maxRecDepth 100000 in
theorem wf_X6_32 : Cond.fieldLink RX6 32 "DayKnownModel" "noteKept" "[I" ∈ WALL := by
  first
  | exact wt3 (sk16 (sk16 (sk16 (sk16 (sk16 (sk16 (sk16 (sk16 (sk16 (sk16 (sk16 (sk16 (sk16 (sk16 (List.Mem.tail _ (List.Mem.tail _ (List.Mem.tail _ (List.Mem.tail _ (List.Mem.tail _ (List.Mem.tail _ (List.Mem.tail _ (List.Mem.tail _ (List.Mem.head _))))))))))))))))))))))) rfl
  | exact wall 809 (by decide +kernel) rfl
set_option maxRecDepth 100000 in
theorem wf_X6_35 : Cond.fieldLink RX6 35 "DayKnownModel" "kept" "[I" ∈ WALL := by
  first
  | exact wt3 (sk16 (sk16 (sk16 (sk16 (sk16 (sk16 (sk16 (sk16 (sk16 (sk16 (sk16 (sk16 (sk16 (sk16 (List.Mem.tail _ (List.Mem.tail _ (List.Mem.tail _ (List.Mem.tail _ (List.Mem.tail _ (List.Mem.tail _ (List.Mem.tail _ (List.Mem.tail _ (List.Mem.tail _ (List.Mem.head _)))))))))))))))))))))))) rfl
  | exact wall 810 (by decide +kernel) rfl
set_option maxRecDepth 100000 in
theorem wf_X6_38 : Cond.fieldLink RX6 38 "DayKnownModel" "bodies" "[I" ∈ WALL := by
  first
  | exact wt3 (sk16 (sk16 (sk16 (sk16 (sk16 (sk16 (sk16 (sk16 (sk16 (sk16 (sk16 (sk16 (sk16 (sk16 (List.Mem.tail _ (List.Mem.tail _ (List.Mem.tail _ (List.Mem.tail _ (List.Mem.tail _ (List.Mem.tail _ (List.Mem.tail _ (List.Mem.tail _ (List.Mem.tail _ (List.Mem.tail _ (List.Mem.head _))))))))))))))))))))))))) rfl
  | exact wall 811 (by decide +kernel) rfl
set_option maxRecDepth 100000 in
theorem wf_X6_232 : Cond.fieldLink RX6 232 "DayKnownModel" "ran" "I" ∈ WALL := by
  first
  | exact wt3 (sk16 (sk16 (sk16 (sk16 (sk16 (sk16 (sk16 (sk16 (sk16 (sk16 (sk16 (sk16 (sk16 (sk16 (List.Mem.tail _ (List.Mem.tail _ (List.Mem.tail _ (List.Mem.tail _ (List.Mem.tail _ (List.Mem.tail _ (List.Mem.tail _ (List.Mem.tail _ (List.Mem.tail _ (List.Mem.tail _ (List.Mem.tail _ (List.Mem.head _)))))))))))))))))))))))))) rfl
  | exact wall 812 (by decide +kernel) rfl
set_option maxRecDepth 100000 in
theorem wf_X6_241 : Cond.fieldLink RX6 241 "DayKnownModel" "kind" "I" ∈ WALL := by
  first
  | exact wt3 (sk16 (sk16 (sk16 (sk16 (sk16 (sk16 (sk16 (sk16 (sk16 (sk16 (sk16 (sk16 (sk16 (sk16 (List.Mem.tail _ (List.Mem.tail _ (List.Mem.tail _ (List.Mem.tail _ (List.Mem.tail _ (List.Mem.tail _ (List.Mem.tail _ (List.Mem.tail _ (List.Mem.tail _ (List.Mem.tail _ (List.Mem.tail _ (List.Mem.tail _ (List.Mem.head _))))))))))))))))))))))))))) rfl
  | exact wall 813 (by decide +kernel) rfl
set_option maxRecDepth 100000 in
theorem wf_X6_238 : Cond.fieldLink RX6 238 "DayKnownModel" "number" "I" ∈ WALL := by
  first
  | exact wt3 (sk16 (sk16 (sk16 (sk16 (sk16 (sk16 (sk16 (sk16 (sk16 (sk16 (sk16 (sk16 (sk16 (sk16 (List.Mem.tail _ (List.Mem.tail _ (List.Mem.tail _ (List.Mem.tail _ (List.Mem.tail _ (List.Mem.tail _ (List.Mem.tail _ (List.Mem.tail _ (List.Mem.tail _ (List.Mem.tail _ (List.Mem.tail _ (List.Mem.tail _ (List.Mem.tail _ (List.Mem.head _)))))))))))))))))))))))))))) rfl
  | exact wall 814 (by decide +kernel) rfl
set_option maxRecDepth 100000 in
theorem wf_X6_250 : Cond.fieldLink RX6 250 "DayKnownModel" "tellsV" "I" ∈ WALL := by
  first
  | exact wt3 (sk16 (sk16 (sk16 (sk16 (sk16 (sk16 (sk16 (sk16 (sk16 (sk16 (sk16 (sk16 (sk16 (sk16 (List.Mem.tail _ (List.Mem.tail _ (List.Mem.tail _ (List.Mem.tail _ (List.Mem.tail _ (List.Mem.tail _ (List.Mem.tail _ (List.Mem.tail _ (List.Mem.tail _ (List.Mem.tail _ (List.Mem.tail _ (List.Mem.tail _ (List.Mem.tail _ (List.Mem.tail _ (List.Mem.head _))))))))))))))))))))))))))))) rfl
  | exact wall 815 (by decide +kernel) rfl
set_option maxRecDepth 100000 in
theorem wa_boolean : Cond.arrayClass .boolean ∈ WALL := by
  first
  | exact wt4 (sk16 (sk16 (sk16 (List.Mem.tail _ (List.Mem.tail _ (List.Mem.tail _ (List.Mem.tail _ (List.Mem.tail _ (List.Mem.tail _ (List.Mem.tail _ (List.Mem.tail _ (List.Mem.head _)))))))))))) rfl
  | exact wall 873 (by decide +kernel) rfl
set_option maxRecDepth 100000 in
theorem wl_L_17 : Cond.methodLink RL 17 yX6_feed ∈ WALL := by
  first
  | exact wt4 (sk16 (sk16 (sk16 (List.Mem.tail _ (List.Mem.tail _ (List.Mem.tail _ (List.Mem.tail _ (List.Mem.tail _ (List.Mem.tail _ (List.Mem.tail _ (List.Mem.tail _ (List.Mem.tail _ (List.Mem.head _))))))))))))) rfl
  | exact wall 874 (by decide +kernel) rfl
set_option maxRecDepth 100000 in
theorem wi_X6_feed : Cond.instanceMethod yX6_feed ∈ WALL := by
  first
  | exact wt4 (sk16 (sk16 (sk16 (List.Mem.tail _ (List.Mem.tail _ (List.Mem.tail _ (List.Mem.tail _ (List.Mem.tail _ (List.Mem.tail _ (List.Mem.tail _ (List.Mem.tail _ (List.Mem.tail _ (List.Mem.tail _ (List.Mem.head _)))))))))))))) rfl
  | exact wall 875 (by decide +kernel) rfl
set_option maxRecDepth 100000 in
theorem we_X6_feed : Cond.selects RX6 yX6_feed yX6_feed ∈ WALL := by
  first
  | exact wt4 (sk16 (sk16 (sk16 (List.Mem.tail _ (List.Mem.tail _ (List.Mem.tail _ (List.Mem.tail _ (List.Mem.tail _ (List.Mem.tail _ (List.Mem.tail _ (List.Mem.tail _ (List.Mem.tail _ (List.Mem.tail _ (List.Mem.tail _ (List.Mem.head _))))))))))))))) rfl
  | exact wall 876 (by decide +kernel) rfl
set_option maxRecDepth 100000 in
theorem wl_X6_45 : Cond.methodLink RX6 45 yX6_in ∈ WALL := by
  first
  | exact wt4 (sk16 (sk16 (sk16 (List.Mem.tail _ (List.Mem.tail _ (List.Mem.tail _ (List.Mem.tail _ (List.Mem.tail _ (List.Mem.tail _ (List.Mem.tail _ (List.Mem.tail _ (List.Mem.tail _ (List.Mem.tail _ (List.Mem.tail _ (List.Mem.tail _ (List.Mem.tail _ (List.Mem.head _))))))))))))))))) rfl
  | exact wall 878 (by decide +kernel) rfl
set_option maxRecDepth 100000 in
theorem wt_X6_in : Cond.static yX6_in ∈ WALL := by
  first
  | exact wt4 (sk16 (sk16 (sk16 (List.Mem.tail _ (List.Mem.tail _ (List.Mem.tail _ (List.Mem.tail _ (List.Mem.tail _ (List.Mem.tail _ (List.Mem.tail _ (List.Mem.tail _ (List.Mem.tail _ (List.Mem.tail _ (List.Mem.tail _ (List.Mem.tail _ (List.Mem.tail _ (List.Mem.tail _ (List.Mem.head _)))))))))))))))))) rfl
  | exact wall 879 (by decide +kernel) rfl
set_option maxRecDepth 100000 in
theorem wl_L_22 : Cond.methodLink RL 22 yX6_town ∈ WALL := by
  first
  | exact wt4 (sk16 (sk16 (sk16 (sk16 (List.Mem.head _))))) rfl
  | exact wall 881 (by decide +kernel) rfl
set_option maxRecDepth 100000 in
theorem wi_X6_town : Cond.instanceMethod yX6_town ∈ WALL := by
  first
  | exact wt4 (sk16 (sk16 (sk16 (sk16 (List.Mem.tail _ (List.Mem.head _)))))) rfl
  | exact wall 882 (by decide +kernel) rfl
set_option maxRecDepth 100000 in
theorem we_X6_town : Cond.selects RX6 yX6_town yX6_town ∈ WALL := by
  first
  | exact wt4 (sk16 (sk16 (sk16 (sk16 (List.Mem.tail _ (List.Mem.tail _ (List.Mem.head _))))))) rfl
  | exact wall 883 (by decide +kernel) rfl
set_option maxRecDepth 100000 in
theorem wl_X6_122 : Cond.methodLink RX6 122 yX6_clauseHere ∈ WALL := by
  first
  | exact wt4 (sk16 (sk16 (sk16 (sk16 (List.Mem.tail _ (List.Mem.tail _ (List.Mem.tail _ (List.Mem.tail _ (List.Mem.head _))))))))) rfl
  | exact wall 885 (by decide +kernel) rfl
set_option maxRecDepth 100000 in
theorem wi_X6_clauseHere : Cond.instanceMethod yX6_clauseHere ∈ WALL := by
  first
  | exact wt4 (sk16 (sk16 (sk16 (sk16 (List.Mem.tail _ (List.Mem.tail _ (List.Mem.tail _ (List.Mem.tail _ (List.Mem.tail _ (List.Mem.tail _ (List.Mem.head _))))))))))) rfl
  | exact wall 887 (by decide +kernel) rfl
set_option maxRecDepth 100000 in
theorem wl_X6_63 : Cond.methodLink RX6 63 yX6_here ∈ WALL := by
  first
  | exact wt4 (sk16 (sk16 (sk16 (sk16 (List.Mem.tail _ (List.Mem.tail _ (List.Mem.tail _ (List.Mem.tail _ (List.Mem.tail _ (List.Mem.tail _ (List.Mem.tail _ (List.Mem.tail _ (List.Mem.head _))))))))))))) rfl
  | exact wall 889 (by decide +kernel) rfl
set_option maxRecDepth 100000 in
theorem wi_X6_here : Cond.instanceMethod yX6_here ∈ WALL := by
  first
  | exact wt4 (sk16 (sk16 (sk16 (sk16 (List.Mem.tail _ (List.Mem.tail _ (List.Mem.tail _ (List.Mem.tail _ (List.Mem.tail _ (List.Mem.tail _ (List.Mem.tail _ (List.Mem.tail _ (List.Mem.tail _ (List.Mem.tail _ (List.Mem.head _))))))))))))))) rfl
  | exact wall 891 (by decide +kernel) rfl
set_option maxRecDepth 100000 in
theorem wl_X6_114 : Cond.methodLink RX6 114 yX6_much ∈ WALL := by
  first
  | exact wt4 (sk16 (sk16 (sk16 (sk16 (List.Mem.tail _ (List.Mem.tail _ (List.Mem.tail _ (List.Mem.tail _ (List.Mem.tail _ (List.Mem.tail _ (List.Mem.tail _ (List.Mem.tail _ (List.Mem.tail _ (List.Mem.tail _ (List.Mem.tail _ (List.Mem.tail _ (List.Mem.tail _ (List.Mem.head _)))))))))))))))))) rfl
  | exact wall 894 (by decide +kernel) rfl
set_option maxRecDepth 100000 in
theorem wi_X6_much : Cond.instanceMethod yX6_much ∈ WALL := by
  first
  | exact wt4 (sk16 (sk16 (sk16 (sk16 (List.Mem.tail _ (List.Mem.tail _ (List.Mem.tail _ (List.Mem.tail _ (List.Mem.tail _ (List.Mem.tail _ (List.Mem.tail _ (List.Mem.tail _ (List.Mem.tail _ (List.Mem.tail _ (List.Mem.tail _ (List.Mem.tail _ (List.Mem.tail _ (List.Mem.tail _ (List.Mem.tail _ (List.Mem.head _)))))))))))))))))))) rfl
  | exact wall 896 (by decide +kernel) rfl
set_option maxRecDepth 100000 in
theorem wl_X6_108 : Cond.methodLink RX6 108 yX6_spells ∈ WALL := by
  first
  | exact wt4 (sk16 (sk16 (sk16 (sk16 (sk16 (List.Mem.tail _ (List.Mem.head _))))))) rfl
  | exact wall 898 (by decide +kernel) rfl
set_option maxRecDepth 100000 in
theorem wi_X6_spells : Cond.instanceMethod yX6_spells ∈ WALL := by
  first
  | exact wt4 (sk16 (sk16 (sk16 (sk16 (sk16 (List.Mem.tail _ (List.Mem.tail _ (List.Mem.tail _ (List.Mem.head _))))))))) rfl
  | exact wall 900 (by decide +kernel) rfl
set_option maxRecDepth 100000 in
theorem wl_X6_66 : Cond.methodLink RX6 66 yJ0_length_8abf5 ∈ WALL := by
  first
  | exact wt4 (sk16 (sk16 (sk16 (sk16 (sk16 (List.Mem.tail _ (List.Mem.tail _ (List.Mem.tail _ (List.Mem.tail _ (List.Mem.tail _ (List.Mem.head _))))))))))) rfl
  | exact wall 902 (by decide +kernel) rfl
set_option maxRecDepth 100000 in
theorem wl_X6_71 : Cond.methodLink RX6 71 yJ0_charAt_5068e ∈ WALL := by
  first
  | exact wt4 (sk16 (sk16 (sk16 (sk16 (sk16 (List.Mem.tail _ (List.Mem.tail _ (List.Mem.tail _ (List.Mem.tail _ (List.Mem.tail _ (List.Mem.tail _ (List.Mem.head _)))))))))))) rfl
  | exact wall 903 (by decide +kernel) rfl
set_option maxRecDepth 100000 in
theorem wl_X6_75 : Cond.methodLink RX6 75 yX6_must ∈ WALL := by
  first
  | exact wt4 (sk16 (sk16 (sk16 (sk16 (sk16 (List.Mem.tail _ (List.Mem.tail _ (List.Mem.tail _ (List.Mem.tail _ (List.Mem.tail _ (List.Mem.tail _ (List.Mem.tail _ (List.Mem.head _))))))))))))) rfl
  | exact wall 904 (by decide +kernel) rfl
set_option maxRecDepth 100000 in
theorem wi_X6_must : Cond.instanceMethod yX6_must ∈ WALL := by
  first
  | exact wt4 (sk16 (sk16 (sk16 (sk16 (sk16 (List.Mem.tail _ (List.Mem.tail _ (List.Mem.tail _ (List.Mem.tail _ (List.Mem.tail _ (List.Mem.tail _ (List.Mem.tail _ (List.Mem.tail _ (List.Mem.tail _ (List.Mem.head _))))))))))))))) rfl
  | exact wall 906 (by decide +kernel) rfl
set_option maxRecDepth 100000 in
theorem wl_X6_102 : Cond.methodLink RX6 102 yX6_figures ∈ WALL := by
  first
  | exact wt4 (sk16 (sk16 (sk16 (sk16 (sk16 (List.Mem.tail _ (List.Mem.tail _ (List.Mem.tail _ (List.Mem.tail _ (List.Mem.tail _ (List.Mem.tail _ (List.Mem.tail _ (List.Mem.tail _ (List.Mem.tail _ (List.Mem.tail _ (List.Mem.tail _ (List.Mem.head _))))))))))))))))) rfl
  | exact wall 908 (by decide +kernel) rfl
set_option maxRecDepth 100000 in
theorem wi_X6_figures : Cond.instanceMethod yX6_figures ∈ WALL := by
  first
  | exact wt4 (sk16 (sk16 (sk16 (sk16 (sk16 (List.Mem.tail _ (List.Mem.tail _ (List.Mem.tail _ (List.Mem.tail _ (List.Mem.tail _ (List.Mem.tail _ (List.Mem.tail _ (List.Mem.tail _ (List.Mem.tail _ (List.Mem.tail _ (List.Mem.tail _ (List.Mem.tail _ (List.Mem.tail _ (List.Mem.head _))))))))))))))))))) rfl
  | exact wall 910 (by decide +kernel) rfl
set_option maxRecDepth 100000 in
theorem wl_X6_91 : Cond.methodLink RX6 91 yX6_some ∈ WALL := by
  first
  | exact wt4 (sk16 (sk16 (sk16 (sk16 (sk16 (List.Mem.tail _ (List.Mem.tail _ (List.Mem.tail _ (List.Mem.tail _ (List.Mem.tail _ (List.Mem.tail _ (List.Mem.tail _ (List.Mem.tail _ (List.Mem.tail _ (List.Mem.tail _ (List.Mem.tail _ (List.Mem.tail _ (List.Mem.tail _ (List.Mem.tail _ (List.Mem.tail _ (List.Mem.head _))))))))))))))))))))) rfl
  | exact wall 912 (by decide +kernel) rfl
set_option maxRecDepth 100000 in
theorem wi_X6_some : Cond.instanceMethod yX6_some ∈ WALL := by
  first
  | exact wt4 (sk16 (sk16 (sk16 (sk16 (sk16 (sk16 (List.Mem.tail _ (List.Mem.head _)))))))) rfl
  | exact wall 914 (by decide +kernel) rfl
set_option maxRecDepth 100000 in
theorem wl_X6_105 : Cond.methodLink RX6 105 yX6_every ∈ WALL := by
  first
  | exact wt4 (sk16 (sk16 (sk16 (sk16 (sk16 (sk16 (List.Mem.tail _ (List.Mem.tail _ (List.Mem.tail _ (List.Mem.head _)))))))))) rfl
  | exact wall 916 (by decide +kernel) rfl
set_option maxRecDepth 100000 in
theorem wi_X6_every : Cond.instanceMethod yX6_every ∈ WALL := by
  first
  | exact wt4 (sk16 (sk16 (sk16 (sk16 (sk16 (sk16 (List.Mem.tail _ (List.Mem.tail _ (List.Mem.tail _ (List.Mem.tail _ (List.Mem.tail _ (List.Mem.head _)))))))))))) rfl
  | exact wall 918 (by decide +kernel) rfl
set_option maxRecDepth 100000 in
theorem wl_X6_85 : Cond.methodLink RX6 85 yX6_factor ∈ WALL := by
  first
  | exact wt4 (sk16 (sk16 (sk16 (sk16 (sk16 (sk16 (List.Mem.tail _ (List.Mem.tail _ (List.Mem.tail _ (List.Mem.tail _ (List.Mem.tail _ (List.Mem.tail _ (List.Mem.tail _ (List.Mem.head _)))))))))))))) rfl
  | exact wall 920 (by decide +kernel) rfl
set_option maxRecDepth 100000 in
theorem wi_X6_factor : Cond.instanceMethod yX6_factor ∈ WALL := by
  first
  | exact wt4 (sk16 (sk16 (sk16 (sk16 (sk16 (sk16 (List.Mem.tail _ (List.Mem.tail _ (List.Mem.tail _ (List.Mem.tail _ (List.Mem.tail _ (List.Mem.tail _ (List.Mem.tail _ (List.Mem.tail _ (List.Mem.tail _ (List.Mem.head _)))))))))))))))) rfl
  | exact wall 922 (by decide +kernel) rfl
set_option maxRecDepth 100000 in
theorem wl_X6_88 : Cond.methodLink RX6 88 yX6_emits ∈ WALL := by
  first
  | exact wt4 (sk16 (sk16 (sk16 (sk16 (sk16 (sk16 (List.Mem.tail _ (List.Mem.tail _ (List.Mem.tail _ (List.Mem.tail _ (List.Mem.tail _ (List.Mem.tail _ (List.Mem.tail _ (List.Mem.tail _ (List.Mem.tail _ (List.Mem.tail _ (List.Mem.tail _ (List.Mem.head _)))))))))))))))))) rfl
  | exact wall 924 (by decide +kernel) rfl
set_option maxRecDepth 100000 in
theorem wi_X6_emits : Cond.instanceMethod yX6_emits ∈ WALL := by
  first
  | exact wt4 (sk16 (sk16 (sk16 (sk16 (sk16 (sk16 (List.Mem.tail _ (List.Mem.tail _ (List.Mem.tail _ (List.Mem.tail _ (List.Mem.tail _ (List.Mem.tail _ (List.Mem.tail _ (List.Mem.tail _ (List.Mem.tail _ (List.Mem.tail _ (List.Mem.tail _ (List.Mem.tail _ (List.Mem.tail _ (List.Mem.head _)))))))))))))))))))) rfl
  | exact wall 926 (by decide +kernel) rfl
set_option maxRecDepth 100000 in
theorem wl_X6_96 : Cond.methodLink RX6 96 yX6_among ∈ WALL := by
  first
  | exact wt4 (sk16 (sk16 (sk16 (sk16 (sk16 (sk16 (sk16 (List.Mem.head _)))))))) rfl
  | exact wall 929 (by decide +kernel) rfl
set_option maxRecDepth 100000 in
theorem wi_X6_among : Cond.instanceMethod yX6_among ∈ WALL := by
  first
  | exact wt4 (sk16 (sk16 (sk16 (sk16 (sk16 (sk16 (sk16 (List.Mem.tail _ (List.Mem.tail _ (List.Mem.head _)))))))))) rfl
  | exact wall 931 (by decide +kernel) rfl
set_option maxRecDepth 100000 in
theorem wl_L_26 : Cond.methodLink RL 26 yX6_told ∈ WALL := by
  first
  | exact wt4 (sk16 (sk16 (sk16 (sk16 (sk16 (sk16 (sk16 (List.Mem.tail _ (List.Mem.tail _ (List.Mem.tail _ (List.Mem.tail _ (List.Mem.tail _ (List.Mem.tail _ (List.Mem.tail _ (List.Mem.head _))))))))))))))) rfl
  | exact wall 936 (by decide +kernel) rfl
set_option maxRecDepth 100000 in
theorem wi_X6_told : Cond.instanceMethod yX6_told ∈ WALL := by
  first
  | exact wt4 (sk16 (sk16 (sk16 (sk16 (sk16 (sk16 (sk16 (List.Mem.tail _ (List.Mem.tail _ (List.Mem.tail _ (List.Mem.tail _ (List.Mem.tail _ (List.Mem.tail _ (List.Mem.tail _ (List.Mem.tail _ (List.Mem.head _)))))))))))))))) rfl
  | exact wall 937 (by decide +kernel) rfl
set_option maxRecDepth 100000 in
theorem we_X6_told : Cond.selects RX6 yX6_told yX6_told ∈ WALL := by
  first
  | exact wt4 (sk16 (sk16 (sk16 (sk16 (sk16 (sk16 (sk16 (List.Mem.tail _ (List.Mem.tail _ (List.Mem.tail _ (List.Mem.tail _ (List.Mem.tail _ (List.Mem.tail _ (List.Mem.tail _ (List.Mem.tail _ (List.Mem.tail _ (List.Mem.head _))))))))))))))))) rfl
  | exact wall 938 (by decide +kernel) rfl
set_option maxRecDepth 100000 in
theorem wl_X6_125 : Cond.methodLink RX6 125 yX6_tellsOf ∈ WALL := by
  first
  | exact wt4 (sk16 (sk16 (sk16 (sk16 (sk16 (sk16 (sk16 (List.Mem.tail _ (List.Mem.tail _ (List.Mem.tail _ (List.Mem.tail _ (List.Mem.tail _ (List.Mem.tail _ (List.Mem.tail _ (List.Mem.tail _ (List.Mem.tail _ (List.Mem.tail _ (List.Mem.tail _ (List.Mem.head _))))))))))))))))))) rfl
  | exact wall 940 (by decide +kernel) rfl
set_option maxRecDepth 100000 in
theorem wi_X6_tellsOf : Cond.instanceMethod yX6_tellsOf ∈ WALL := by
  first
  | exact wt4 (sk16 (sk16 (sk16 (sk16 (sk16 (sk16 (sk16 (List.Mem.tail _ (List.Mem.tail _ (List.Mem.tail _ (List.Mem.tail _ (List.Mem.tail _ (List.Mem.tail _ (List.Mem.tail _ (List.Mem.tail _ (List.Mem.tail _ (List.Mem.tail _ (List.Mem.tail _ (List.Mem.tail _ (List.Mem.tail _ (List.Mem.head _))))))))))))))))))))) rfl
  | exact wall 942 (by decide +kernel) rfl
set_option maxRecDepth 100000 in
theorem wl_L_31 : Cond.methodLink RL 31 yX6_person ∈ WALL := by
  first
  | exact wt4 (sk16 (sk16 (sk16 (sk16 (sk16 (sk16 (sk16 (List.Mem.tail _ (List.Mem.tail _ (List.Mem.tail _ (List.Mem.tail _ (List.Mem.tail _ (List.Mem.tail _ (List.Mem.tail _ (List.Mem.tail _ (List.Mem.tail _ (List.Mem.tail _ (List.Mem.tail _ (List.Mem.tail _ (List.Mem.tail _ (List.Mem.tail _ (List.Mem.tail _ (List.Mem.head _))))))))))))))))))))))) rfl
  | exact wall 944 (by decide +kernel) rfl
set_option maxRecDepth 100000 in
theorem wi_X6_person : Cond.instanceMethod yX6_person ∈ WALL := by
  first
  | exact wt4 (sk16 (sk16 (sk16 (sk16 (sk16 (sk16 (sk16 (sk16 (List.Mem.head _))))))))) rfl
  | exact wall 945 (by decide +kernel) rfl
set_option maxRecDepth 100000 in
theorem we_X6_person : Cond.selects RX6 yX6_person yX6_person ∈ WALL := by
  first
  | exact wt4 (sk16 (sk16 (sk16 (sk16 (sk16 (sk16 (sk16 (sk16 (List.Mem.tail _ (List.Mem.head _)))))))))) rfl
  | exact wall 946 (by decide +kernel) rfl
set_option maxRecDepth 100000 in
theorem wl_L_35 : Cond.methodLink RL 35 yX6_of ∈ WALL := by
  first
  | exact wt4 (sk16 (sk16 (sk16 (sk16 (sk16 (sk16 (sk16 (sk16 (List.Mem.tail _ (List.Mem.tail _ (List.Mem.tail _ (List.Mem.head _)))))))))))) rfl
  | exact wall 948 (by decide +kernel) rfl
set_option maxRecDepth 100000 in
theorem wi_X6_of : Cond.instanceMethod yX6_of ∈ WALL := by
  first
  | exact wt4 (sk16 (sk16 (sk16 (sk16 (sk16 (sk16 (sk16 (sk16 (List.Mem.tail _ (List.Mem.tail _ (List.Mem.tail _ (List.Mem.tail _ (List.Mem.head _))))))))))))) rfl
  | exact wall 949 (by decide +kernel) rfl
set_option maxRecDepth 100000 in
theorem we_X6_of : Cond.selects RX6 yX6_of yX6_of ∈ WALL := by
  first
  | exact wt4 (sk16 (sk16 (sk16 (sk16 (sk16 (sk16 (sk16 (sk16 (List.Mem.tail _ (List.Mem.tail _ (List.Mem.tail _ (List.Mem.tail _ (List.Mem.tail _ (List.Mem.head _)))))))))))))) rfl
  | exact wall 950 (by decide +kernel) rfl
set_option maxRecDepth 100000 in
theorem wl_X6_152 : Cond.methodLink RX6 152 yX6_isPerson ∈ WALL := by
  first
  | exact wt4 (sk16 (sk16 (sk16 (sk16 (sk16 (sk16 (sk16 (sk16 (List.Mem.tail _ (List.Mem.tail _ (List.Mem.tail _ (List.Mem.tail _ (List.Mem.tail _ (List.Mem.tail _ (List.Mem.tail _ (List.Mem.head _)))))))))))))))) rfl
  | exact wall 952 (by decide +kernel) rfl
set_option maxRecDepth 100000 in
theorem wi_X6_isPerson : Cond.instanceMethod yX6_isPerson ∈ WALL := by
  first
  | exact wt4 (sk16 (sk16 (sk16 (sk16 (sk16 (sk16 (sk16 (sk16 (List.Mem.tail _ (List.Mem.tail _ (List.Mem.tail _ (List.Mem.tail _ (List.Mem.tail _ (List.Mem.tail _ (List.Mem.tail _ (List.Mem.tail _ (List.Mem.tail _ (List.Mem.head _)))))))))))))))))) rfl
  | exact wall 954 (by decide +kernel) rfl
set_option maxRecDepth 100000 in
theorem wl_L_39 : Cond.methodLink RL 39 yX6_row ∈ WALL := by
  first
  | exact wt4 (sk16 (sk16 (sk16 (sk16 (sk16 (sk16 (sk16 (sk16 (List.Mem.tail _ (List.Mem.tail _ (List.Mem.tail _ (List.Mem.tail _ (List.Mem.tail _ (List.Mem.tail _ (List.Mem.tail _ (List.Mem.tail _ (List.Mem.tail _ (List.Mem.tail _ (List.Mem.tail _ (List.Mem.head _)))))))))))))))))))) rfl
  | exact wall 956 (by decide +kernel) rfl
set_option maxRecDepth 100000 in
theorem wi_X6_row : Cond.instanceMethod yX6_row ∈ WALL := by
  first
  | exact wt4 (sk16 (sk16 (sk16 (sk16 (sk16 (sk16 (sk16 (sk16 (List.Mem.tail _ (List.Mem.tail _ (List.Mem.tail _ (List.Mem.tail _ (List.Mem.tail _ (List.Mem.tail _ (List.Mem.tail _ (List.Mem.tail _ (List.Mem.tail _ (List.Mem.tail _ (List.Mem.tail _ (List.Mem.tail _ (List.Mem.head _))))))))))))))))))))) rfl
  | exact wall 957 (by decide +kernel) rfl
set_option maxRecDepth 100000 in
theorem we_X6_row : Cond.selects RX6 yX6_row yX6_row ∈ WALL := by
  first
  | exact wt4 (sk16 (sk16 (sk16 (sk16 (sk16 (sk16 (sk16 (sk16 (List.Mem.tail _ (List.Mem.tail _ (List.Mem.tail _ (List.Mem.tail _ (List.Mem.tail _ (List.Mem.tail _ (List.Mem.tail _ (List.Mem.tail _ (List.Mem.tail _ (List.Mem.tail _ (List.Mem.tail _ (List.Mem.tail _ (List.Mem.tail _ (List.Mem.head _)))))))))))))))))))))) rfl
  | exact wall 958 (by decide +kernel) rfl
set_option maxRecDepth 100000 in
theorem wl_L_44 : Cond.methodLink RL 44 yX6_note ∈ WALL := by
  first
  | exact wt4 (sk16 (sk16 (sk16 (sk16 (sk16 (sk16 (sk16 (sk16 (List.Mem.tail _ (List.Mem.tail _ (List.Mem.tail _ (List.Mem.tail _ (List.Mem.tail _ (List.Mem.tail _ (List.Mem.tail _ (List.Mem.tail _ (List.Mem.tail _ (List.Mem.tail _ (List.Mem.tail _ (List.Mem.tail _ (List.Mem.tail _ (List.Mem.tail _ (List.Mem.tail _ (List.Mem.head _)))))))))))))))))))))))) rfl
  | exact wall 960 (by decide +kernel) rfl
set_option maxRecDepth 100000 in
theorem wi_X6_note : Cond.instanceMethod yX6_note ∈ WALL := by
  first
  | exact wt4 (sk16 (sk16 (sk16 (sk16 (sk16 (sk16 (sk16 (sk16 (sk16 (List.Mem.head _)))))))))) rfl
  | exact wall 961 (by decide +kernel) rfl
set_option maxRecDepth 100000 in
theorem we_X6_note : Cond.selects RX6 yX6_note yX6_note ∈ WALL := by
  first
  | exact wt4 (sk16 (sk16 (sk16 (sk16 (sk16 (sk16 (sk16 (sk16 (sk16 (List.Mem.tail _ (List.Mem.head _))))))))))) rfl
  | exact wall 962 (by decide +kernel) rfl
set_option maxRecDepth 100000 in
theorem wl_L_48 : Cond.methodLink RL 48 yX6_yesterday ∈ WALL := by
  first
  | exact wt4 (sk16 (sk16 (sk16 (sk16 (sk16 (sk16 (sk16 (sk16 (sk16 (List.Mem.tail _ (List.Mem.tail _ (List.Mem.tail _ (List.Mem.head _))))))))))))) rfl
  | exact wall 964 (by decide +kernel) rfl
set_option maxRecDepth 100000 in
theorem wi_X6_yesterday : Cond.instanceMethod yX6_yesterday ∈ WALL := by
  first
  | exact wt4 (sk16 (sk16 (sk16 (sk16 (sk16 (sk16 (sk16 (sk16 (sk16 (List.Mem.tail _ (List.Mem.tail _ (List.Mem.tail _ (List.Mem.tail _ (List.Mem.head _)))))))))))))) rfl
  | exact wall 965 (by decide +kernel) rfl
set_option maxRecDepth 100000 in
theorem we_X6_yesterday : Cond.selects RX6 yX6_yesterday yX6_yesterday ∈ WALL := by
  first
  | exact wt4 (sk16 (sk16 (sk16 (sk16 (sk16 (sk16 (sk16 (sk16 (sk16 (List.Mem.tail _ (List.Mem.tail _ (List.Mem.tail _ (List.Mem.tail _ (List.Mem.tail _ (List.Mem.head _))))))))))))))) rfl
  | exact wall 966 (by decide +kernel) rfl
set_option maxRecDepth 100000 in
theorem wl_X6_156 : Cond.methodLink RX6 156 yX6_isDay ∈ WALL := by
  first
  | exact wt4 (sk16 (sk16 (sk16 (sk16 (sk16 (sk16 (sk16 (sk16 (sk16 (List.Mem.tail _ (List.Mem.tail _ (List.Mem.tail _ (List.Mem.tail _ (List.Mem.tail _ (List.Mem.tail _ (List.Mem.tail _ (List.Mem.head _))))))))))))))))) rfl
  | exact wall 968 (by decide +kernel) rfl
set_option maxRecDepth 100000 in
theorem wi_X6_isDay : Cond.instanceMethod yX6_isDay ∈ WALL := by
  first
  | exact wt4 (sk16 (sk16 (sk16 (sk16 (sk16 (sk16 (sk16 (sk16 (sk16 (List.Mem.tail _ (List.Mem.tail _ (List.Mem.tail _ (List.Mem.tail _ (List.Mem.tail _ (List.Mem.tail _ (List.Mem.tail _ (List.Mem.tail _ (List.Mem.tail _ (List.Mem.head _))))))))))))))))))) rfl
  | exact wall 970 (by decide +kernel) rfl
set_option maxRecDepth 100000 in
theorem wl_X6_49 : Cond.methodLink RX6 49 yX6_days ∈ WALL := by
  first
  | exact wt4 (sk16 (sk16 (sk16 (sk16 (sk16 (sk16 (sk16 (sk16 (sk16 (List.Mem.tail _ (List.Mem.tail _ (List.Mem.tail _ (List.Mem.tail _ (List.Mem.tail _ (List.Mem.tail _ (List.Mem.tail _ (List.Mem.tail _ (List.Mem.tail _ (List.Mem.tail _ (List.Mem.tail _ (List.Mem.head _))))))))))))))))))))) rfl
  | exact wall 972 (by decide +kernel) rfl
set_option maxRecDepth 100000 in
theorem wi_X6_days : Cond.instanceMethod yX6_days ∈ WALL := by
  first
  | exact wt4 (sk16 (sk16 (sk16 (sk16 (sk16 (sk16 (sk16 (sk16 (sk16 (List.Mem.tail _ (List.Mem.tail _ (List.Mem.tail _ (List.Mem.tail _ (List.Mem.tail _ (List.Mem.tail _ (List.Mem.tail _ (List.Mem.tail _ (List.Mem.tail _ (List.Mem.tail _ (List.Mem.tail _ (List.Mem.tail _ (List.Mem.tail _ (List.Mem.head _))))))))))))))))))))))) rfl
  | exact wall 974 (by decide +kernel) rfl
set_option maxRecDepth 100000 in
theorem wl_L_53 : Cond.methodLink RL 53 yX6_by ∈ WALL := by
  first
  | exact wt4 (sk16 (sk16 (sk16 (sk16 (sk16 (sk16 (sk16 (sk16 (sk16 (List.Mem.tail _ (List.Mem.tail _ (List.Mem.tail _ (List.Mem.tail _ (List.Mem.tail _ (List.Mem.tail _ (List.Mem.tail _ (List.Mem.tail _ (List.Mem.tail _ (List.Mem.tail _ (List.Mem.tail _ (List.Mem.tail _ (List.Mem.tail _ (List.Mem.tail _ (List.Mem.tail _ (List.Mem.head _))))))))))))))))))))))))) rfl
  | exact wall 976 (by decide +kernel) rfl
set_option maxRecDepth 100000 in
theorem wi_X6_by : Cond.instanceMethod yX6_by ∈ WALL := by
  first
  | exact wt4 (sk16 (sk16 (sk16 (sk16 (sk16 (sk16 (sk16 (sk16 (sk16 (sk16 (List.Mem.head _))))))))))) rfl
  | exact wall 977 (by decide +kernel) rfl
set_option maxRecDepth 100000 in
theorem we_X6_by : Cond.selects RX6 yX6_by yX6_by ∈ WALL := by
  first
  | exact wt4 (sk16 (sk16 (sk16 (sk16 (sk16 (sk16 (sk16 (sk16 (sk16 (sk16 (List.Mem.tail _ (List.Mem.head _)))))))))))) rfl
  | exact wall 978 (by decide +kernel) rfl
set_option maxRecDepth 100000 in
theorem wl_X6_178 : Cond.methodLink RX6 178 yX6_isHour ∈ WALL := by
  first
  | exact wt4 (sk16 (sk16 (sk16 (sk16 (sk16 (sk16 (sk16 (sk16 (sk16 (sk16 (List.Mem.tail _ (List.Mem.tail _ (List.Mem.tail _ (List.Mem.head _)))))))))))))) rfl
  | exact wall 980 (by decide +kernel) rfl
set_option maxRecDepth 100000 in
theorem wt_X6_isHour : Cond.static yX6_isHour ∈ WALL := by
  first
  | exact wt4 (sk16 (sk16 (sk16 (sk16 (sk16 (sk16 (sk16 (sk16 (sk16 (sk16 (List.Mem.tail _ (List.Mem.tail _ (List.Mem.tail _ (List.Mem.tail _ (List.Mem.head _))))))))))))))) rfl
  | exact wall 981 (by decide +kernel) rfl
set_option maxRecDepth 100000 in
theorem wl_X6_181 : Cond.methodLink RX6 181 yX6_looks ∈ WALL := by
  first
  | exact wt4 (sk16 (sk16 (sk16 (sk16 (sk16 (sk16 (sk16 (sk16 (sk16 (sk16 (List.Mem.tail _ (List.Mem.tail _ (List.Mem.tail _ (List.Mem.tail _ (List.Mem.tail _ (List.Mem.tail _ (List.Mem.head _))))))))))))))))) rfl
  | exact wall 983 (by decide +kernel) rfl
set_option maxRecDepth 100000 in
theorem wi_X6_looks : Cond.instanceMethod yX6_looks ∈ WALL := by
  first
  | exact wt4 (sk16 (sk16 (sk16 (sk16 (sk16 (sk16 (sk16 (sk16 (sk16 (sk16 (List.Mem.tail _ (List.Mem.tail _ (List.Mem.tail _ (List.Mem.tail _ (List.Mem.tail _ (List.Mem.tail _ (List.Mem.tail _ (List.Mem.tail _ (List.Mem.head _))))))))))))))))))) rfl
  | exact wall 985 (by decide +kernel) rfl
set_option maxRecDepth 100000 in
theorem wl_X6_135 : Cond.methodLink RX6 135 yX6_looksAt ∈ WALL := by
  first
  | exact wt4 (sk16 (sk16 (sk16 (sk16 (sk16 (sk16 (sk16 (sk16 (sk16 (sk16 (List.Mem.tail _ (List.Mem.tail _ (List.Mem.tail _ (List.Mem.tail _ (List.Mem.tail _ (List.Mem.tail _ (List.Mem.tail _ (List.Mem.tail _ (List.Mem.tail _ (List.Mem.tail _ (List.Mem.head _))))))))))))))))))))) rfl
  | exact wall 987 (by decide +kernel) rfl
set_option maxRecDepth 100000 in
theorem wi_X6_looksAt : Cond.instanceMethod yX6_looksAt ∈ WALL := by
  first
  | exact wt4 (sk16 (sk16 (sk16 (sk16 (sk16 (sk16 (sk16 (sk16 (sk16 (sk16 (List.Mem.tail _ (List.Mem.tail _ (List.Mem.tail _ (List.Mem.tail _ (List.Mem.tail _ (List.Mem.tail _ (List.Mem.tail _ (List.Mem.tail _ (List.Mem.tail _ (List.Mem.tail _ (List.Mem.tail _ (List.Mem.tail _ (List.Mem.head _))))))))))))))))))))))) rfl
  | exact wall 989 (by decide +kernel) rfl
set_option maxRecDepth 100000 in
theorem wl_X6_129 : Cond.methodLink RX6 129 yX6_worthBy ∈ WALL := by
  first
  | exact wt4 (sk16 (sk16 (sk16 (sk16 (sk16 (sk16 (sk16 (sk16 (sk16 (sk16 (List.Mem.tail _ (List.Mem.tail _ (List.Mem.tail _ (List.Mem.tail _ (List.Mem.tail _ (List.Mem.tail _ (List.Mem.tail _ (List.Mem.tail _ (List.Mem.tail _ (List.Mem.tail _ (List.Mem.tail _ (List.Mem.tail _ (List.Mem.tail _ (List.Mem.tail _ (List.Mem.head _))))))))))))))))))))))))) rfl
  | exact wall 991 (by decide +kernel) rfl
set_option maxRecDepth 100000 in
theorem wi_X6_worthBy : Cond.instanceMethod yX6_worthBy ∈ WALL := by
  first
  | exact wt4 (sk16 (sk16 (sk16 (sk16 (sk16 (sk16 (sk16 (sk16 (sk16 (sk16 (sk16 (List.Mem.head _)))))))))))) rfl
  | exact wall 993 (by decide +kernel) rfl
set_option maxRecDepth 100000 in
theorem wl_X6_145 : Cond.methodLink RX6 145 yX6_worthOf ∈ WALL := by
  first
  | exact wt4 (sk16 (sk16 (sk16 (sk16 (sk16 (sk16 (sk16 (sk16 (sk16 (sk16 (sk16 (List.Mem.tail _ (List.Mem.tail _ (List.Mem.head _)))))))))))))) rfl
  | exact wall 995 (by decide +kernel) rfl
set_option maxRecDepth 100000 in
theorem wi_X6_worthOf : Cond.instanceMethod yX6_worthOf ∈ WALL := by
  first
  | exact wt4 (sk16 (sk16 (sk16 (sk16 (sk16 (sk16 (sk16 (sk16 (sk16 (sk16 (sk16 (List.Mem.tail _ (List.Mem.tail _ (List.Mem.tail _ (List.Mem.tail _ (List.Mem.head _)))))))))))))))) rfl
  | exact wall 997 (by decide +kernel) rfl
set_option maxRecDepth 100000 in
theorem wl_X6_141 : Cond.methodLink RX6 141 yX6_others ∈ WALL := by
  first
  | exact wt4 (sk16 (sk16 (sk16 (sk16 (sk16 (sk16 (sk16 (sk16 (sk16 (sk16 (sk16 (List.Mem.tail _ (List.Mem.tail _ (List.Mem.tail _ (List.Mem.tail _ (List.Mem.tail _ (List.Mem.tail _ (List.Mem.head _)))))))))))))))))) rfl
  | exact wall 999 (by decide +kernel) rfl
set_option maxRecDepth 100000 in
theorem wi_X6_others : Cond.instanceMethod yX6_others ∈ WALL := by
  first
  | exact wt4 (sk16 (sk16 (sk16 (sk16 (sk16 (sk16 (sk16 (sk16 (sk16 (sk16 (sk16 (List.Mem.tail _ (List.Mem.tail _ (List.Mem.tail _ (List.Mem.tail _ (List.Mem.tail _ (List.Mem.tail _ (List.Mem.tail _ (List.Mem.tail _ (List.Mem.head _)))))))))))))))))))) rfl
  | exact wall 1001 (by decide +kernel) rfl
set_option maxRecDepth 100000 in
theorem wl_X6_138 : Cond.methodLink RX6 138 yX6_does ∈ WALL := by
  first
  | exact wt4 (sk16 (sk16 (sk16 (sk16 (sk16 (sk16 (sk16 (sk16 (sk16 (sk16 (sk16 (List.Mem.tail _ (List.Mem.tail _ (List.Mem.tail _ (List.Mem.tail _ (List.Mem.tail _ (List.Mem.tail _ (List.Mem.tail _ (List.Mem.tail _ (List.Mem.tail _ (List.Mem.tail _ (List.Mem.head _)))))))))))))))))))))) rfl
  | exact wall 1003 (by decide +kernel) rfl
set_option maxRecDepth 100000 in
theorem wt_X6_does : Cond.static yX6_does ∈ WALL := by
  first
  | exact wt4 (sk16 (sk16 (sk16 (sk16 (sk16 (sk16 (sk16 (sk16 (sk16 (sk16 (sk16 (List.Mem.tail _ (List.Mem.tail _ (List.Mem.tail _ (List.Mem.tail _ (List.Mem.tail _ (List.Mem.tail _ (List.Mem.tail _ (List.Mem.tail _ (List.Mem.tail _ (List.Mem.tail _ (List.Mem.tail _ (List.Mem.head _))))))))))))))))))))))) rfl
  | exact wall 1004 (by decide +kernel) rfl
set_option maxRecDepth 100000 in
theorem wl_X6_172 : Cond.methodLink RX6 172 yX6_would ∈ WALL := by
  first
  | exact wt4 (sk16 (sk16 (sk16 (sk16 (sk16 (sk16 (sk16 (sk16 (sk16 (sk16 (sk16 (List.Mem.tail _ (List.Mem.tail _ (List.Mem.tail _ (List.Mem.tail _ (List.Mem.tail _ (List.Mem.tail _ (List.Mem.tail _ (List.Mem.tail _ (List.Mem.tail _ (List.Mem.tail _ (List.Mem.tail _ (List.Mem.tail _ (List.Mem.tail _ (List.Mem.head _))))))))))))))))))))))))) rfl
  | exact wall 1006 (by decide +kernel) rfl
set_option maxRecDepth 100000 in
theorem wi_X6_would : Cond.instanceMethod yX6_would ∈ WALL := by
  first
  | exact wt4 (sk16 (sk16 (sk16 (sk16 (sk16 (sk16 (sk16 (sk16 (sk16 (sk16 (sk16 (List.Mem.tail _ (List.Mem.tail _ (List.Mem.tail _ (List.Mem.tail _ (List.Mem.tail _ (List.Mem.tail _ (List.Mem.tail _ (List.Mem.tail _ (List.Mem.tail _ (List.Mem.tail _ (List.Mem.tail _ (List.Mem.tail _ (List.Mem.tail _ (List.Mem.tail _ (List.Mem.tail _ (List.Mem.head _))))))))))))))))))))))))))) rfl
  | exact wall 1008 (by decide +kernel) rfl
set_option maxRecDepth 100000 in
theorem wl_X6_162 : Cond.methodLink RX6 162 yX6_bestOwn ∈ WALL := by
  first
  | exact wt4 (sk16 (sk16 (sk16 (sk16 (sk16 (sk16 (sk16 (sk16 (sk16 (sk16 (sk16 (sk16 (List.Mem.tail _ (List.Mem.head _)))))))))))))) rfl
  | exact wall 1010 (by decide +kernel) rfl
set_option maxRecDepth 100000 in
theorem wi_X6_bestOwn : Cond.instanceMethod yX6_bestOwn ∈ WALL := by
  first
  | exact wt4 (sk16 (sk16 (sk16 (sk16 (sk16 (sk16 (sk16 (sk16 (sk16 (sk16 (sk16 (sk16 (List.Mem.tail _ (List.Mem.tail _ (List.Mem.tail _ (List.Mem.head _)))))))))))))))) rfl
  | exact wall 1012 (by decide +kernel) rfl
set_option maxRecDepth 100000 in
theorem wl_X6_159 : Cond.methodLink RX6 159 yX6_withOwn ∈ WALL := by
  first
  | exact wt4 (sk16 (sk16 (sk16 (sk16 (sk16 (sk16 (sk16 (sk16 (sk16 (sk16 (sk16 (sk16 (List.Mem.tail _ (List.Mem.tail _ (List.Mem.tail _ (List.Mem.tail _ (List.Mem.tail _ (List.Mem.head _)))))))))))))))))) rfl
  | exact wall 1014 (by decide +kernel) rfl
set_option maxRecDepth 100000 in
theorem wt_X6_withOwn : Cond.static yX6_withOwn ∈ WALL := by
  first
  | exact wt4 (sk16 (sk16 (sk16 (sk16 (sk16 (sk16 (sk16 (sk16 (sk16 (sk16 (sk16 (sk16 (List.Mem.tail _ (List.Mem.tail _ (List.Mem.tail _ (List.Mem.tail _ (List.Mem.tail _ (List.Mem.tail _ (List.Mem.head _))))))))))))))))))) rfl
  | exact wall 1015 (by decide +kernel) rfl
set_option maxRecDepth 100000 in
theorem wl_X6_148 : Cond.methodLink RX6 148 yX6_gainOf ∈ WALL := by
  first
  | exact wt4 (sk16 (sk16 (sk16 (sk16 (sk16 (sk16 (sk16 (sk16 (sk16 (sk16 (sk16 (sk16 (List.Mem.tail _ (List.Mem.tail _ (List.Mem.tail _ (List.Mem.tail _ (List.Mem.tail _ (List.Mem.tail _ (List.Mem.tail _ (List.Mem.tail _ (List.Mem.head _))))))))))))))))))))) rfl
  | exact wall 1017 (by decide +kernel) rfl
set_option maxRecDepth 100000 in
theorem wi_X6_gainOf : Cond.instanceMethod yX6_gainOf ∈ WALL := by
  first
  | exact wt4 (sk16 (sk16 (sk16 (sk16 (sk16 (sk16 (sk16 (sk16 (sk16 (sk16 (sk16 (sk16 (List.Mem.tail _ (List.Mem.tail _ (List.Mem.tail _ (List.Mem.tail _ (List.Mem.tail _ (List.Mem.tail _ (List.Mem.tail _ (List.Mem.tail _ (List.Mem.tail _ (List.Mem.tail _ (List.Mem.head _))))))))))))))))))))))) rfl
  | exact wall 1019 (by decide +kernel) rfl
set_option maxRecDepth 100000 in
theorem wl_X6_165 : Cond.methodLink RX6 165 yX6_wouldPlainly ∈ WALL := by
  first
  | exact wt4 (sk16 (sk16 (sk16 (sk16 (sk16 (sk16 (sk16 (sk16 (sk16 (sk16 (sk16 (sk16 (List.Mem.tail _ (List.Mem.tail _ (List.Mem.tail _ (List.Mem.tail _ (List.Mem.tail _ (List.Mem.tail _ (List.Mem.tail _ (List.Mem.tail _ (List.Mem.tail _ (List.Mem.tail _ (List.Mem.tail _ (List.Mem.tail _ (List.Mem.head _))))))))))))))))))))))))) rfl
  | exact wall 1021 (by decide +kernel) rfl
set_option maxRecDepth 100000 in
theorem wi_X6_wouldPlainly : Cond.instanceMethod yX6_wouldPlainly ∈ WALL := by
  first
  | exact wt4 (sk16 (sk16 (sk16 (sk16 (sk16 (sk16 (sk16 (sk16 (sk16 (sk16 (sk16 (sk16 (List.Mem.tail _ (List.Mem.tail _ (List.Mem.tail _ (List.Mem.tail _ (List.Mem.tail _ (List.Mem.tail _ (List.Mem.tail _ (List.Mem.tail _ (List.Mem.tail _ (List.Mem.tail _ (List.Mem.tail _ (List.Mem.tail _ (List.Mem.tail _ (List.Mem.tail _ (List.Mem.head _))))))))))))))))))))))))))) rfl
  | exact wall 1023 (by decide +kernel) rfl
set_option maxRecDepth 100000 in
theorem wl_X6_168 : Cond.methodLink RX6 168 yX6_isStrange ∈ WALL := by
  first
  | exact wt4 (sk16 (sk16 (sk16 (sk16 (sk16 (sk16 (sk16 (sk16 (sk16 (sk16 (sk16 (sk16 (sk16 (List.Mem.head _)))))))))))))) rfl
  | exact wall 1025 (by decide +kernel) rfl
set_option maxRecDepth 100000 in
theorem wi_X6_isStrange : Cond.instanceMethod yX6_isStrange ∈ WALL := by
  first
  | exact wt4 (sk16 (sk16 (sk16 (sk16 (sk16 (sk16 (sk16 (sk16 (sk16 (sk16 (sk16 (sk16 (sk16 (List.Mem.tail _ (List.Mem.tail _ (List.Mem.head _)))))))))))))))) rfl
  | exact wall 1027 (by decide +kernel) rfl
set_option maxRecDepth 100000 in
theorem wl_L_57 : Cond.methodLink RL 57 yX6_day ∈ WALL := by
  first
  | exact wt4 (sk16 (sk16 (sk16 (sk16 (sk16 (sk16 (sk16 (sk16 (sk16 (sk16 (sk16 (sk16 (sk16 (List.Mem.tail _ (List.Mem.tail _ (List.Mem.tail _ (List.Mem.tail _ (List.Mem.head _)))))))))))))))))) rfl
  | exact wall 1029 (by decide +kernel) rfl
set_option maxRecDepth 100000 in
theorem wi_X6_day : Cond.instanceMethod yX6_day ∈ WALL := by
  first
  | exact wt4 (sk16 (sk16 (sk16 (sk16 (sk16 (sk16 (sk16 (sk16 (sk16 (sk16 (sk16 (sk16 (sk16 (List.Mem.tail _ (List.Mem.tail _ (List.Mem.tail _ (List.Mem.tail _ (List.Mem.tail _ (List.Mem.head _))))))))))))))))))) rfl
  | exact wall 1030 (by decide +kernel) rfl
set_option maxRecDepth 100000 in
theorem we_X6_day : Cond.selects RX6 yX6_day yX6_day ∈ WALL := by
  first
  | exact wt4 (sk16 (sk16 (sk16 (sk16 (sk16 (sk16 (sk16 (sk16 (sk16 (sk16 (sk16 (sk16 (sk16 (List.Mem.tail _ (List.Mem.tail _ (List.Mem.tail _ (List.Mem.tail _ (List.Mem.tail _ (List.Mem.tail _ (List.Mem.head _)))))))))))))))))))) rfl
  | exact wall 1031 (by decide +kernel) rfl
set_option maxRecDepth 100000 in
theorem wl_X6_175 : Cond.methodLink RX6 175 yX6_firstOtherwise ∈ WALL := by
  first
  | exact wt4 (sk16 (sk16 (sk16 (sk16 (sk16 (sk16 (sk16 (sk16 (sk16 (sk16 (sk16 (sk16 (sk16 (List.Mem.tail _ (List.Mem.tail _ (List.Mem.tail _ (List.Mem.tail _ (List.Mem.tail _ (List.Mem.tail _ (List.Mem.tail _ (List.Mem.tail _ (List.Mem.head _)))))))))))))))))))))) rfl
  | exact wall 1033 (by decide +kernel) rfl
set_option maxRecDepth 100000 in
theorem wi_X6_firstOtherwise : Cond.instanceMethod yX6_firstOtherwise ∈ WALL := by
  first
  | exact wt4 (sk16 (sk16 (sk16 (sk16 (sk16 (sk16 (sk16 (sk16 (sk16 (sk16 (sk16 (sk16 (sk16 (List.Mem.tail _ (List.Mem.tail _ (List.Mem.tail _ (List.Mem.tail _ (List.Mem.tail _ (List.Mem.tail _ (List.Mem.tail _ (List.Mem.tail _ (List.Mem.tail _ (List.Mem.tail _ (List.Mem.head _)))))))))))))))))))))))) rfl
  | exact wall 1035 (by decide +kernel) rfl
set_option maxRecDepth 100000 in
theorem wl_X6_184 : Cond.methodLink RX6 184 yX6_answerTo ∈ WALL := by
  first
  | exact wt4 (sk16 (sk16 (sk16 (sk16 (sk16 (sk16 (sk16 (sk16 (sk16 (sk16 (sk16 (sk16 (sk16 (List.Mem.tail _ (List.Mem.tail _ (List.Mem.tail _ (List.Mem.tail _ (List.Mem.tail _ (List.Mem.tail _ (List.Mem.tail _ (List.Mem.tail _ (List.Mem.tail _ (List.Mem.tail _ (List.Mem.tail _ (List.Mem.tail _ (List.Mem.head _)))))))))))))))))))))))))) rfl
  | exact wall 1037 (by decide +kernel) rfl
set_option maxRecDepth 100000 in
theorem wi_X6_answerTo : Cond.instanceMethod yX6_answerTo ∈ WALL := by
  first
  | exact wt4 (sk16 (sk16 (sk16 (sk16 (sk16 (sk16 (sk16 (sk16 (sk16 (sk16 (sk16 (sk16 (sk16 (List.Mem.tail _ (List.Mem.tail _ (List.Mem.tail _ (List.Mem.tail _ (List.Mem.tail _ (List.Mem.tail _ (List.Mem.tail _ (List.Mem.tail _ (List.Mem.tail _ (List.Mem.tail _ (List.Mem.tail _ (List.Mem.tail _ (List.Mem.tail _ (List.Mem.tail _ (List.Mem.head _)))))))))))))))))))))))))))) rfl
  | exact wall 1039 (by decide +kernel) rfl
set_option maxRecDepth 100000 in
theorem wl_X6_187 : Cond.methodLink RX6 187 yX6_gainOfAll ∈ WALL := by
  first
  | exact wt4 (sk16 (sk16 (sk16 (sk16 (sk16 (sk16 (sk16 (sk16 (sk16 (sk16 (sk16 (sk16 (sk16 (sk16 (List.Mem.head _))))))))))))))) rfl
  | exact wall 1041 (by decide +kernel) rfl
set_option maxRecDepth 100000 in
theorem wi_X6_gainOfAll : Cond.instanceMethod yX6_gainOfAll ∈ WALL := by
  first
  | exact wt4 (sk16 (sk16 (sk16 (sk16 (sk16 (sk16 (sk16 (sk16 (sk16 (sk16 (sk16 (sk16 (sk16 (sk16 (List.Mem.tail _ (List.Mem.tail _ (List.Mem.head _))))))))))))))))) rfl
  | exact wall 1043 (by decide +kernel) rfl
set_option maxRecDepth 100000 in
theorem wl_L_61 : Cond.methodLink RL 61 yX6_all ∈ WALL := by
  first
  | exact wt4 (sk16 (sk16 (sk16 (sk16 (sk16 (sk16 (sk16 (sk16 (sk16 (sk16 (sk16 (sk16 (sk16 (sk16 (List.Mem.tail _ (List.Mem.tail _ (List.Mem.tail _ (List.Mem.tail _ (List.Mem.head _))))))))))))))))))) rfl
  | exact wall 1045 (by decide +kernel) rfl
set_option maxRecDepth 100000 in
theorem wi_X6_all : Cond.instanceMethod yX6_all ∈ WALL := by
  first
  | exact wt4 (sk16 (sk16 (sk16 (sk16 (sk16 (sk16 (sk16 (sk16 (sk16 (sk16 (sk16 (sk16 (sk16 (sk16 (List.Mem.tail _ (List.Mem.tail _ (List.Mem.tail _ (List.Mem.tail _ (List.Mem.tail _ (List.Mem.head _)))))))))))))))))))) rfl
  | exact wall 1046 (by decide +kernel) rfl
set_option maxRecDepth 100000 in
theorem we_X6_all : Cond.selects RX6 yX6_all yX6_all ∈ WALL := by
  first
  | exact wt4 (sk16 (sk16 (sk16 (sk16 (sk16 (sk16 (sk16 (sk16 (sk16 (sk16 (sk16 (sk16 (sk16 (sk16 (List.Mem.tail _ (List.Mem.tail _ (List.Mem.tail _ (List.Mem.tail _ (List.Mem.tail _ (List.Mem.tail _ (List.Mem.head _))))))))))))))))))))) rfl
  | exact wall 1047 (by decide +kernel) rfl
set_option maxRecDepth 100000 in
theorem wl_X6_208 : Cond.methodLink RX6 208 yX6_looksThrough ∈ WALL := by
  first
  | exact wt4 (sk16 (sk16 (sk16 (sk16 (sk16 (sk16 (sk16 (sk16 (sk16 (sk16 (sk16 (sk16 (sk16 (sk16 (List.Mem.tail _ (List.Mem.tail _ (List.Mem.tail _ (List.Mem.tail _ (List.Mem.tail _ (List.Mem.tail _ (List.Mem.tail _ (List.Mem.tail _ (List.Mem.head _))))))))))))))))))))))) rfl
  | exact wall 1049 (by decide +kernel) rfl
set_option maxRecDepth 100000 in
theorem wi_X6_looksThrough : Cond.instanceMethod yX6_looksThrough ∈ WALL := by
  first
  | exact wt4 (sk16 (sk16 (sk16 (sk16 (sk16 (sk16 (sk16 (sk16 (sk16 (sk16 (sk16 (sk16 (sk16 (sk16 (List.Mem.tail _ (List.Mem.tail _ (List.Mem.tail _ (List.Mem.tail _ (List.Mem.tail _ (List.Mem.tail _ (List.Mem.tail _ (List.Mem.tail _ (List.Mem.tail _ (List.Mem.tail _ (List.Mem.head _))))))))))))))))))))))))) rfl
  | exact wall 1051 (by decide +kernel) rfl
set_option maxRecDepth 100000 in
theorem wl_X6_205 : Cond.methodLink RX6 205 yX6_stands ∈ WALL := by
  first
  | exact wt4 (sk16 (sk16 (sk16 (sk16 (sk16 (sk16 (sk16 (sk16 (sk16 (sk16 (sk16 (sk16 (sk16 (sk16 (List.Mem.tail _ (List.Mem.tail _ (List.Mem.tail _ (List.Mem.tail _ (List.Mem.tail _ (List.Mem.tail _ (List.Mem.tail _ (List.Mem.tail _ (List.Mem.tail _ (List.Mem.tail _ (List.Mem.tail _ (List.Mem.tail _ (List.Mem.head _))))))))))))))))))))))))))) rfl
  | exact wall 1053 (by decide +kernel) rfl
set_option maxRecDepth 100000 in
theorem wi_X6_stands : Cond.instanceMethod yX6_stands ∈ WALL := by
  first
  | exact wt4 (sk16 (sk16 (sk16 (sk16 (sk16 (sk16 (sk16 (sk16 (sk16 (sk16 (sk16 (sk16 (sk16 (sk16 (List.Mem.tail _ (List.Mem.tail _ (List.Mem.tail _ (List.Mem.tail _ (List.Mem.tail _ (List.Mem.tail _ (List.Mem.tail _ (List.Mem.tail _ (List.Mem.tail _ (List.Mem.tail _ (List.Mem.tail _ (List.Mem.tail _ (List.Mem.tail _ (List.Mem.tail _ (List.Mem.head _))))))))))))))))))))))))))))) rfl
  | exact wall 1055 (by decide +kernel) rfl
set_option maxRecDepth 100000 in
theorem wl_L_65 : Cond.methodLink RL 65 yX6_once ∈ WALL := by
  first
  | exact wt5 (List.Mem.head _) rfl
  | exact wall 1057 (by decide +kernel) rfl
set_option maxRecDepth 100000 in
theorem wi_X6_once : Cond.instanceMethod yX6_once ∈ WALL := by
  first
  | exact wt5 (List.Mem.tail _ (List.Mem.head _)) rfl
  | exact wall 1058 (by decide +kernel) rfl
set_option maxRecDepth 100000 in
theorem we_X6_once : Cond.selects RX6 yX6_once yX6_once ∈ WALL := by
  first
  | exact wt5 (List.Mem.tail _ (List.Mem.tail _ (List.Mem.head _))) rfl
  | exact wall 1059 (by decide +kernel) rfl
set_option maxRecDepth 100000 in
theorem wl_L_69 : Cond.methodLink RL 69 yX6_again ∈ WALL := by
  first
  | exact wt5 (List.Mem.tail _ (List.Mem.tail _ (List.Mem.tail _ (List.Mem.tail _ (List.Mem.head _))))) rfl
  | exact wall 1061 (by decide +kernel) rfl
set_option maxRecDepth 100000 in
theorem wi_X6_again : Cond.instanceMethod yX6_again ∈ WALL := by
  first
  | exact wt5 (List.Mem.tail _ (List.Mem.tail _ (List.Mem.tail _ (List.Mem.tail _ (List.Mem.tail _ (List.Mem.head _)))))) rfl
  | exact wall 1062 (by decide +kernel) rfl
set_option maxRecDepth 100000 in
theorem we_X6_again : Cond.selects RX6 yX6_again yX6_again ∈ WALL := by
  first
  | exact wt5 (List.Mem.tail _ (List.Mem.tail _ (List.Mem.tail _ (List.Mem.tail _ (List.Mem.tail _ (List.Mem.tail _ (List.Mem.head _))))))) rfl
  | exact wall 1063 (by decide +kernel) rfl
set_option maxRecDepth 100000 in
theorem wl_L_73 : Cond.methodLink RL 73 yX6_morning ∈ WALL := by
  first
  | exact wt5 (List.Mem.tail _ (List.Mem.tail _ (List.Mem.tail _ (List.Mem.tail _ (List.Mem.tail _ (List.Mem.tail _ (List.Mem.tail _ (List.Mem.tail _ (List.Mem.head _))))))))) rfl
  | exact wall 1065 (by decide +kernel) rfl
set_option maxRecDepth 100000 in
theorem wi_X6_morning : Cond.instanceMethod yX6_morning ∈ WALL := by
  first
  | exact wt5 (List.Mem.tail _ (List.Mem.tail _ (List.Mem.tail _ (List.Mem.tail _ (List.Mem.tail _ (List.Mem.tail _ (List.Mem.tail _ (List.Mem.tail _ (List.Mem.tail _ (List.Mem.head _)))))))))) rfl
  | exact wall 1066 (by decide +kernel) rfl
set_option maxRecDepth 100000 in
theorem we_X6_morning : Cond.selects RX6 yX6_morning yX6_morning ∈ WALL := by
  first
  | exact wt5 (List.Mem.tail _ (List.Mem.tail _ (List.Mem.tail _ (List.Mem.tail _ (List.Mem.tail _ (List.Mem.tail _ (List.Mem.tail _ (List.Mem.tail _ (List.Mem.tail _ (List.Mem.tail _ (List.Mem.head _))))))))))) rfl
  | exact wall 1067 (by decide +kernel) rfl
set_option maxRecDepth 100000 in
theorem wl_X6_214 : Cond.methodLink RX6 214 yX6_morningComes ∈ WALL := by
  first
  | exact wt5 (List.Mem.tail _ (List.Mem.tail _ (List.Mem.tail _ (List.Mem.tail _ (List.Mem.tail _ (List.Mem.tail _ (List.Mem.tail _ (List.Mem.tail _ (List.Mem.tail _ (List.Mem.tail _ (List.Mem.tail _ (List.Mem.tail _ (List.Mem.head _))))))))))))) rfl
  | exact wall 1069 (by decide +kernel) rfl
set_option maxRecDepth 100000 in
theorem wi_X6_morningComes : Cond.instanceMethod yX6_morningComes ∈ WALL := by
  first
  | exact wt5 (List.Mem.tail _ (List.Mem.tail _ (List.Mem.tail _ (List.Mem.tail _ (List.Mem.tail _ (List.Mem.tail _ (List.Mem.tail _ (List.Mem.tail _ (List.Mem.tail _ (List.Mem.tail _ (List.Mem.tail _ (List.Mem.tail _ (List.Mem.tail _ (List.Mem.tail _ (List.Mem.head _))))))))))))))) rfl
  | exact wall 1071 (by decide +kernel) rfl
set_option maxRecDepth 100000 in
theorem wl_L_77 : Cond.methodLink RL 77 yX6_year ∈ WALL := by
  first
  | exact wt5 (sk16 (List.Mem.head _)) rfl
  | exact wall 1073 (by decide +kernel) rfl
set_option maxRecDepth 100000 in
theorem wi_X6_year : Cond.instanceMethod yX6_year ∈ WALL := by
  first
  | exact wt5 (sk16 (List.Mem.tail _ (List.Mem.head _))) rfl
  | exact wall 1074 (by decide +kernel) rfl
set_option maxRecDepth 100000 in
theorem we_X6_year : Cond.selects RX6 yX6_year yX6_year ∈ WALL := by
  first
  | exact wt5 (sk16 (List.Mem.tail _ (List.Mem.tail _ (List.Mem.head _)))) rfl
  | exact wall 1075 (by decide +kernel) rfl
set_option maxRecDepth 100000 in
theorem wl_L_82 : Cond.methodLink RL 82 yX6_bet ∈ WALL := by
  first
  | exact wt5 (sk16 (List.Mem.tail _ (List.Mem.tail _ (List.Mem.tail _ (List.Mem.tail _ (List.Mem.head _)))))) rfl
  | exact wall 1077 (by decide +kernel) rfl
set_option maxRecDepth 100000 in
theorem wi_X6_bet : Cond.instanceMethod yX6_bet ∈ WALL := by
  first
  | exact wt5 (sk16 (List.Mem.tail _ (List.Mem.tail _ (List.Mem.tail _ (List.Mem.tail _ (List.Mem.tail _ (List.Mem.head _))))))) rfl
  | exact wall 1078 (by decide +kernel) rfl
set_option maxRecDepth 100000 in
theorem we_X6_bet : Cond.selects RX6 yX6_bet yX6_bet ∈ WALL := by
  first
  | exact wt5 (sk16 (List.Mem.tail _ (List.Mem.tail _ (List.Mem.tail _ (List.Mem.tail _ (List.Mem.tail _ (List.Mem.tail _ (List.Mem.head _)))))))) rfl
  | exact wall 1079 (by decide +kernel) rfl
set_option maxRecDepth 100000 in
theorem wl_X6_217 : Cond.methodLink RX6 217 yX6_divisor ∈ WALL := by
  first
  | exact wt5 (sk16 (List.Mem.tail _ (List.Mem.tail _ (List.Mem.tail _ (List.Mem.tail _ (List.Mem.tail _ (List.Mem.tail _ (List.Mem.tail _ (List.Mem.tail _ (List.Mem.head _)))))))))) rfl
  | exact wall 1081 (by decide +kernel) rfl
set_option maxRecDepth 100000 in
theorem wt_X6_divisor : Cond.static yX6_divisor ∈ WALL := by
  first
  | exact wt5 (sk16 (List.Mem.tail _ (List.Mem.tail _ (List.Mem.tail _ (List.Mem.tail _ (List.Mem.tail _ (List.Mem.tail _ (List.Mem.tail _ (List.Mem.tail _ (List.Mem.tail _ (List.Mem.head _))))))))))) rfl
  | exact wall 1082 (by decide +kernel) rfl
set_option maxRecDepth 100000 in
theorem wl_L_86 : Cond.methodLink RL 86 yX6_sure ∈ WALL := by
  first
  | exact wt5 (sk16 (List.Mem.tail _ (List.Mem.tail _ (List.Mem.tail _ (List.Mem.tail _ (List.Mem.tail _ (List.Mem.tail _ (List.Mem.tail _ (List.Mem.tail _ (List.Mem.tail _ (List.Mem.tail _ (List.Mem.tail _ (List.Mem.head _))))))))))))) rfl
  | exact wall 1084 (by decide +kernel) rfl
set_option maxRecDepth 100000 in
theorem wi_X6_sure : Cond.instanceMethod yX6_sure ∈ WALL := by
  first
  | exact wt5 (sk16 (List.Mem.tail _ (List.Mem.tail _ (List.Mem.tail _ (List.Mem.tail _ (List.Mem.tail _ (List.Mem.tail _ (List.Mem.tail _ (List.Mem.tail _ (List.Mem.tail _ (List.Mem.tail _ (List.Mem.tail _ (List.Mem.tail _ (List.Mem.head _)))))))))))))) rfl
  | exact wall 1085 (by decide +kernel) rfl
set_option maxRecDepth 100000 in
theorem we_X6_sure : Cond.selects RX6 yX6_sure yX6_sure ∈ WALL := by
  first
  | exact wt5 (sk16 (List.Mem.tail _ (List.Mem.tail _ (List.Mem.tail _ (List.Mem.tail _ (List.Mem.tail _ (List.Mem.tail _ (List.Mem.tail _ (List.Mem.tail _ (List.Mem.tail _ (List.Mem.tail _ (List.Mem.tail _ (List.Mem.tail _ (List.Mem.tail _ (List.Mem.head _))))))))))))))) rfl
  | exact wall 1086 (by decide +kernel) rfl
set_option maxRecDepth 100000 in
theorem wl_X6_220 : Cond.methodLink RX6 220 yX6_keeps ∈ WALL := by
  first
  | exact wt5 (sk16 (List.Mem.tail _ (List.Mem.tail _ (List.Mem.tail _ (List.Mem.tail _ (List.Mem.tail _ (List.Mem.tail _ (List.Mem.tail _ (List.Mem.tail _ (List.Mem.tail _ (List.Mem.tail _ (List.Mem.tail _ (List.Mem.tail _ (List.Mem.tail _ (List.Mem.tail _ (List.Mem.tail _ (List.Mem.head _))))))))))))))))) rfl
  | exact wall 1088 (by decide +kernel) rfl
set_option maxRecDepth 100000 in
theorem wi_X6_keeps : Cond.instanceMethod yX6_keeps ∈ WALL := by
  first
  | exact wt5 (sk16 (sk16 (List.Mem.tail _ (List.Mem.head _)))) rfl
  | exact wall 1090 (by decide +kernel) rfl
set_option maxRecDepth 100000 in
theorem wl_X6_223 : Cond.methodLink RX6 223 yX6_count1 ∈ WALL := by
  first
  | exact wt5 (sk16 (sk16 (List.Mem.tail _ (List.Mem.tail _ (List.Mem.tail _ (List.Mem.head _)))))) rfl
  | exact wall 1092 (by decide +kernel) rfl
set_option maxRecDepth 100000 in
theorem wt_X6_count1 : Cond.static yX6_count1 ∈ WALL := by
  first
  | exact wt5 (sk16 (sk16 (List.Mem.tail _ (List.Mem.tail _ (List.Mem.tail _ (List.Mem.tail _ (List.Mem.head _))))))) rfl
  | exact wall 1093 (by decide +kernel) rfl
set_option maxRecDepth 100000 in
theorem wl_X6_226 : Cond.methodLink RX6 226 yX6_goesBack ∈ WALL := by
  first
  | exact wt5 (sk16 (sk16 (List.Mem.tail _ (List.Mem.tail _ (List.Mem.tail _ (List.Mem.tail _ (List.Mem.tail _ (List.Mem.tail _ (List.Mem.head _))))))))) rfl
  | exact wall 1095 (by decide +kernel) rfl
set_option maxRecDepth 100000 in
theorem wi_X6_goesBack : Cond.instanceMethod yX6_goesBack ∈ WALL := by
  first
  | exact wt5 (sk16 (sk16 (List.Mem.tail _ (List.Mem.tail _ (List.Mem.tail _ (List.Mem.tail _ (List.Mem.tail _ (List.Mem.tail _ (List.Mem.tail _ (List.Mem.tail _ (List.Mem.head _))))))))))) rfl
  | exact wall 1097 (by decide +kernel) rfl
set_option maxRecDepth 100000 in
theorem wl_L_90 : Cond.methodLink RL 90 yX6_secret ∈ WALL := by
  first
  | exact wt5 (sk16 (sk16 (List.Mem.tail _ (List.Mem.tail _ (List.Mem.tail _ (List.Mem.tail _ (List.Mem.tail _ (List.Mem.tail _ (List.Mem.tail _ (List.Mem.tail _ (List.Mem.tail _ (List.Mem.tail _ (List.Mem.head _))))))))))))) rfl
  | exact wall 1099 (by decide +kernel) rfl
set_option maxRecDepth 100000 in
theorem wi_X6_secret : Cond.instanceMethod yX6_secret ∈ WALL := by
  first
  | exact wt5 (sk16 (sk16 (List.Mem.tail _ (List.Mem.tail _ (List.Mem.tail _ (List.Mem.tail _ (List.Mem.tail _ (List.Mem.tail _ (List.Mem.tail _ (List.Mem.tail _ (List.Mem.tail _ (List.Mem.tail _ (List.Mem.tail _ (List.Mem.head _)))))))))))))) rfl
  | exact wall 1100 (by decide +kernel) rfl
set_option maxRecDepth 100000 in
theorem we_X6_secret : Cond.selects RX6 yX6_secret yX6_secret ∈ WALL := by
  first
  | exact wt5 (sk16 (sk16 (List.Mem.tail _ (List.Mem.tail _ (List.Mem.tail _ (List.Mem.tail _ (List.Mem.tail _ (List.Mem.tail _ (List.Mem.tail _ (List.Mem.tail _ (List.Mem.tail _ (List.Mem.tail _ (List.Mem.tail _ (List.Mem.tail _ (List.Mem.head _))))))))))))))) rfl
  | exact wall 1101 (by decide +kernel) rfl
set_option maxRecDepth 100000 in
theorem wl_L_94 : Cond.methodLink RL 94 yX6_swap ∈ WALL := by
  first
  | exact wt5 (sk16 (sk16 (List.Mem.tail _ (List.Mem.tail _ (List.Mem.tail _ (List.Mem.tail _ (List.Mem.tail _ (List.Mem.tail _ (List.Mem.tail _ (List.Mem.tail _ (List.Mem.tail _ (List.Mem.tail _ (List.Mem.tail _ (List.Mem.tail _ (List.Mem.tail _ (List.Mem.tail _ (List.Mem.head _))))))))))))))))) rfl
  | exact wall 1103 (by decide +kernel) rfl
set_option maxRecDepth 100000 in
theorem wi_X6_swap : Cond.instanceMethod yX6_swap ∈ WALL := by
  first
  | exact wt5 (sk16 (sk16 (List.Mem.tail _ (List.Mem.tail _ (List.Mem.tail _ (List.Mem.tail _ (List.Mem.tail _ (List.Mem.tail _ (List.Mem.tail _ (List.Mem.tail _ (List.Mem.tail _ (List.Mem.tail _ (List.Mem.tail _ (List.Mem.tail _ (List.Mem.tail _ (List.Mem.tail _ (List.Mem.tail _ (List.Mem.head _)))))))))))))))))) rfl
  | exact wall 1104 (by decide +kernel) rfl
set_option maxRecDepth 100000 in
theorem we_X6_swap : Cond.selects RX6 yX6_swap yX6_swap ∈ WALL := by
  first
  | exact wt5 (sk16 (sk16 (sk16 (List.Mem.head _)))) rfl
  | exact wall 1105 (by decide +kernel) rfl
set_option maxRecDepth 100000 in
theorem wl_X6_229 : Cond.methodLink RX6 229 yX6_isGood ∈ WALL := by
  first
  | exact wt5 (sk16 (sk16 (sk16 (List.Mem.tail _ (List.Mem.tail _ (List.Mem.head _)))))) rfl
  | exact wall 1107 (by decide +kernel) rfl
set_option maxRecDepth 100000 in
theorem wi_X6_isGood : Cond.instanceMethod yX6_isGood ∈ WALL := by
  first
  | exact wt5 (sk16 (sk16 (sk16 (List.Mem.tail _ (List.Mem.tail _ (List.Mem.tail _ (List.Mem.tail _ (List.Mem.head _)))))))) rfl
  | exact wall 1109 (by decide +kernel) rfl
set_option maxRecDepth 100000 in
theorem wl_L_98 : Cond.methodLink RL 98 yX6_book ∈ WALL := by
  first
  | exact wt5 (sk16 (sk16 (sk16 (List.Mem.tail _ (List.Mem.tail _ (List.Mem.tail _ (List.Mem.tail _ (List.Mem.tail _ (List.Mem.tail _ (List.Mem.head _)))))))))) rfl
  | exact wall 1111 (by decide +kernel) rfl
set_option maxRecDepth 100000 in
theorem wi_X6_book : Cond.instanceMethod yX6_book ∈ WALL := by
  first
  | exact wt5 (sk16 (sk16 (sk16 (List.Mem.tail _ (List.Mem.tail _ (List.Mem.tail _ (List.Mem.tail _ (List.Mem.tail _ (List.Mem.tail _ (List.Mem.tail _ (List.Mem.head _))))))))))) rfl
  | exact wall 1112 (by decide +kernel) rfl
set_option maxRecDepth 100000 in
theorem we_X6_book : Cond.selects RX6 yX6_book yX6_book ∈ WALL := by
  first
  | exact wt5 (sk16 (sk16 (sk16 (List.Mem.tail _ (List.Mem.tail _ (List.Mem.tail _ (List.Mem.tail _ (List.Mem.tail _ (List.Mem.tail _ (List.Mem.tail _ (List.Mem.tail _ (List.Mem.head _)))))))))))) rfl
  | exact wall 1113 (by decide +kernel) rfl
set_option maxRecDepth 100000 in
theorem wl_L_102 : Cond.methodLink RL 102 yX6_looked ∈ WALL := by
  first
  | exact wt5 (sk16 (sk16 (sk16 (List.Mem.tail _ (List.Mem.tail _ (List.Mem.tail _ (List.Mem.tail _ (List.Mem.tail _ (List.Mem.tail _ (List.Mem.tail _ (List.Mem.tail _ (List.Mem.tail _ (List.Mem.tail _ (List.Mem.head _)))))))))))))) rfl
  | exact wall 1115 (by decide +kernel) rfl
set_option maxRecDepth 100000 in
theorem wi_X6_looked : Cond.instanceMethod yX6_looked ∈ WALL := by
  first
  | exact wt5 (sk16 (sk16 (sk16 (List.Mem.tail _ (List.Mem.tail _ (List.Mem.tail _ (List.Mem.tail _ (List.Mem.tail _ (List.Mem.tail _ (List.Mem.tail _ (List.Mem.tail _ (List.Mem.tail _ (List.Mem.tail _ (List.Mem.tail _ (List.Mem.head _))))))))))))))) rfl
  | exact wall 1116 (by decide +kernel) rfl
set_option maxRecDepth 100000 in
theorem we_X6_looked : Cond.selects RX6 yX6_looked yX6_looked ∈ WALL := by
  first
  | exact wt5 (sk16 (sk16 (sk16 (List.Mem.tail _ (List.Mem.tail _ (List.Mem.tail _ (List.Mem.tail _ (List.Mem.tail _ (List.Mem.tail _ (List.Mem.tail _ (List.Mem.tail _ (List.Mem.tail _ (List.Mem.tail _ (List.Mem.tail _ (List.Mem.tail _ (List.Mem.head _)))))))))))))))) rfl
  | exact wall 1117 (by decide +kernel) rfl
set_option maxRecDepth 100000 in
theorem wl_L_106 : Cond.methodLink RL 106 yX6_act ∈ WALL := by
  first
  | exact wt5 (sk16 (sk16 (sk16 (List.Mem.tail _ (List.Mem.tail _ (List.Mem.tail _ (List.Mem.tail _ (List.Mem.tail _ (List.Mem.tail _ (List.Mem.tail _ (List.Mem.tail _ (List.Mem.tail _ (List.Mem.tail _ (List.Mem.tail _ (List.Mem.tail _ (List.Mem.tail _ (List.Mem.tail _ (List.Mem.head _)))))))))))))))))) rfl
  | exact wall 1119 (by decide +kernel) rfl
set_option maxRecDepth 100000 in
theorem wi_X6_act : Cond.instanceMethod yX6_act ∈ WALL := by
  first
  | exact wt5 (sk16 (sk16 (sk16 (List.Mem.tail _ (List.Mem.tail _ (List.Mem.tail _ (List.Mem.tail _ (List.Mem.tail _ (List.Mem.tail _ (List.Mem.tail _ (List.Mem.tail _ (List.Mem.tail _ (List.Mem.tail _ (List.Mem.tail _ (List.Mem.tail _ (List.Mem.tail _ (List.Mem.tail _ (List.Mem.tail _ (List.Mem.head _))))))))))))))))))) rfl
  | exact wall 1120 (by decide +kernel) rfl
set_option maxRecDepth 100000 in
theorem we_X6_act : Cond.selects RX6 yX6_act yX6_act ∈ WALL := by
  first
  | exact wt5 (sk16 (sk16 (sk16 (sk16 (List.Mem.head _))))) rfl
  | exact wall 1121 (by decide +kernel) rfl
set_option maxRecDepth 100000 in
theorem wl_X6_247 : Cond.methodLink RX6 247 yX6_knowsActs ∈ WALL := by
  first
  | exact wt5 (sk16 (sk16 (sk16 (sk16 (List.Mem.tail _ (List.Mem.tail _ (List.Mem.head _))))))) rfl
  | exact wall 1123 (by decide +kernel) rfl
set_option maxRecDepth 100000 in
theorem wi_X6_knowsActs : Cond.instanceMethod yX6_knowsActs ∈ WALL := by
  first
  | exact wt5 (sk16 (sk16 (sk16 (sk16 (List.Mem.tail _ (List.Mem.tail _ (List.Mem.tail _ (List.Mem.tail _ (List.Mem.head _))))))))) rfl
  | exact wall 1125 (by decide +kernel) rfl
set_option maxRecDepth 100000 in
theorem wl_X6_235 : Cond.methodLink RX6 235 yX6_runs ∈ WALL := by
  first
  | exact wt5 (sk16 (sk16 (sk16 (sk16 (List.Mem.tail _ (List.Mem.tail _ (List.Mem.tail _ (List.Mem.tail _ (List.Mem.tail _ (List.Mem.tail _ (List.Mem.head _))))))))))) rfl
  | exact wall 1127 (by decide +kernel) rfl
set_option maxRecDepth 100000 in
theorem wi_X6_runs : Cond.instanceMethod yX6_runs ∈ WALL := by
  first
  | exact wt5 (sk16 (sk16 (sk16 (sk16 (List.Mem.tail _ (List.Mem.tail _ (List.Mem.tail _ (List.Mem.tail _ (List.Mem.tail _ (List.Mem.tail _ (List.Mem.tail _ (List.Mem.tail _ (List.Mem.head _))))))))))))) rfl
  | exact wall 1129 (by decide +kernel) rfl
set_option maxRecDepth 100000 in
theorem wl_X6_244 : Cond.methodLink RX6 244 yX6_plainKnows ∈ WALL := by
  first
  | exact wt5 (sk16 (sk16 (sk16 (sk16 (List.Mem.tail _ (List.Mem.tail _ (List.Mem.tail _ (List.Mem.tail _ (List.Mem.tail _ (List.Mem.tail _ (List.Mem.tail _ (List.Mem.tail _ (List.Mem.tail _ (List.Mem.tail _ (List.Mem.head _))))))))))))))) rfl
  | exact wall 1131 (by decide +kernel) rfl
set_option maxRecDepth 100000 in
theorem wi_X6_plainKnows : Cond.instanceMethod yX6_plainKnows ∈ WALL := by
  first
  | exact wt5 (sk16 (sk16 (sk16 (sk16 (List.Mem.tail _ (List.Mem.tail _ (List.Mem.tail _ (List.Mem.tail _ (List.Mem.tail _ (List.Mem.tail _ (List.Mem.tail _ (List.Mem.tail _ (List.Mem.tail _ (List.Mem.tail _ (List.Mem.tail _ (List.Mem.tail _ (List.Mem.head _))))))))))))))))) rfl
  | exact wall 1133 (by decide +kernel) rfl
set_option maxRecDepth 100000 in
theorem wl_X6_259 : Cond.methodLink RX6 259 yX6_doesActs ∈ WALL := by
  first
  | exact wt5 (sk16 (sk16 (sk16 (sk16 (List.Mem.tail _ (List.Mem.tail _ (List.Mem.tail _ (List.Mem.tail _ (List.Mem.tail _ (List.Mem.tail _ (List.Mem.tail _ (List.Mem.tail _ (List.Mem.tail _ (List.Mem.tail _ (List.Mem.tail _ (List.Mem.tail _ (List.Mem.tail _ (List.Mem.tail _ (List.Mem.head _))))))))))))))))))) rfl
  | exact wall 1135 (by decide +kernel) rfl
set_option maxRecDepth 100000 in
theorem wi_X6_doesActs : Cond.instanceMethod yX6_doesActs ∈ WALL := by
  first
  | exact wt5 (sk16 (sk16 (sk16 (sk16 (sk16 (List.Mem.head _)))))) rfl
  | exact wall 1137 (by decide +kernel) rfl
set_option maxRecDepth 100000 in
theorem wl_X6_253 : Cond.methodLink RX6 253 yX6_isUnder ∈ WALL := by
  first
  | exact wt5 (sk16 (sk16 (sk16 (sk16 (sk16 (List.Mem.tail _ (List.Mem.tail _ (List.Mem.head _)))))))) rfl
  | exact wall 1139 (by decide +kernel) rfl
set_option maxRecDepth 100000 in
theorem wt_X6_isUnder : Cond.static yX6_isUnder ∈ WALL := by
  first
  | exact wt5 (sk16 (sk16 (sk16 (sk16 (sk16 (List.Mem.tail _ (List.Mem.tail _ (List.Mem.tail _ (List.Mem.head _))))))))) rfl
  | exact wall 1140 (by decide +kernel) rfl
set_option maxRecDepth 100000 in
theorem wl_X6_256 : Cond.methodLink RX6 256 yX6_plainDoes ∈ WALL := by
  first
  | exact wt5 (sk16 (sk16 (sk16 (sk16 (sk16 (List.Mem.tail _ (List.Mem.tail _ (List.Mem.tail _ (List.Mem.tail _ (List.Mem.tail _ (List.Mem.head _))))))))))) rfl
  | exact wall 1142 (by decide +kernel) rfl
set_option maxRecDepth 100000 in
theorem wi_X6_plainDoes : Cond.instanceMethod yX6_plainDoes ∈ WALL := by
  first
  | exact wt5 (sk16 (sk16 (sk16 (sk16 (sk16 (List.Mem.tail _ (List.Mem.tail _ (List.Mem.tail _ (List.Mem.tail _ (List.Mem.tail _ (List.Mem.tail _ (List.Mem.tail _ (List.Mem.head _))))))))))))) rfl
  | exact wall 1144 (by decide +kernel) rfl
set_option maxRecDepth 100000 in
theorem wl_X6_265 : Cond.methodLink RX6 265 yX6_tellsActs ∈ WALL := by
  first
  | exact wt5 (sk16 (sk16 (sk16 (sk16 (sk16 (List.Mem.tail _ (List.Mem.tail _ (List.Mem.tail _ (List.Mem.tail _ (List.Mem.tail _ (List.Mem.tail _ (List.Mem.tail _ (List.Mem.tail _ (List.Mem.tail _ (List.Mem.head _))))))))))))))) rfl
  | exact wall 1146 (by decide +kernel) rfl
set_option maxRecDepth 100000 in
theorem wi_X6_tellsActs : Cond.instanceMethod yX6_tellsActs ∈ WALL := by
  first
  | exact wt5 (sk16 (sk16 (sk16 (sk16 (sk16 (List.Mem.tail _ (List.Mem.tail _ (List.Mem.tail _ (List.Mem.tail _ (List.Mem.tail _ (List.Mem.tail _ (List.Mem.tail _ (List.Mem.tail _ (List.Mem.tail _ (List.Mem.tail _ (List.Mem.tail _ (List.Mem.head _))))))))))))))))) rfl
  | exact wall 1148 (by decide +kernel) rfl
set_option maxRecDepth 100000 in
theorem wl_X6_262 : Cond.methodLink RX6 262 yX6_plainTells ∈ WALL := by
  first
  | exact wt5 (sk16 (sk16 (sk16 (sk16 (sk16 (List.Mem.tail _ (List.Mem.tail _ (List.Mem.tail _ (List.Mem.tail _ (List.Mem.tail _ (List.Mem.tail _ (List.Mem.tail _ (List.Mem.tail _ (List.Mem.tail _ (List.Mem.tail _ (List.Mem.tail _ (List.Mem.tail _ (List.Mem.tail _ (List.Mem.head _))))))))))))))))))) rfl
  | exact wall 1150 (by decide +kernel) rfl
set_option maxRecDepth 100000 in
theorem wi_X6_plainTells : Cond.instanceMethod yX6_plainTells ∈ WALL := by
  first
  | exact wt5 (sk16 (sk16 (sk16 (sk16 (sk16 (List.Mem.tail _ (List.Mem.tail _ (List.Mem.tail _ (List.Mem.tail _ (List.Mem.tail _ (List.Mem.tail _ (List.Mem.tail _ (List.Mem.tail _ (List.Mem.tail _ (List.Mem.tail _ (List.Mem.tail _ (List.Mem.tail _ (List.Mem.tail _ (List.Mem.tail _ (List.Mem.tail _ (List.Mem.head _))))))))))))))))))))) rfl
  | exact wall 1152 (by decide +kernel) rfl
set_option maxRecDepth 100000 in
theorem wl_L_110 : Cond.methodLink RL 110 yX6_trace ∈ WALL := by
  first
  | exact wt5 (sk16 (sk16 (sk16 (sk16 (sk16 (sk16 (List.Mem.tail _ (List.Mem.head _)))))))) rfl
  | exact wall 1154 (by decide +kernel) rfl
set_option maxRecDepth 100000 in
theorem wi_X6_trace : Cond.instanceMethod yX6_trace ∈ WALL := by
  first
  | exact wt5 (sk16 (sk16 (sk16 (sk16 (sk16 (sk16 (List.Mem.tail _ (List.Mem.tail _ (List.Mem.head _))))))))) rfl
  | exact wall 1155 (by decide +kernel) rfl
set_option maxRecDepth 100000 in
theorem we_X6_trace : Cond.selects RX6 yX6_trace yX6_trace ∈ WALL := by
  first
  | exact wt5 (sk16 (sk16 (sk16 (sk16 (sk16 (sk16 (List.Mem.tail _ (List.Mem.tail _ (List.Mem.tail _ (List.Mem.head _)))))))))) rfl
  | exact wall 1156 (by decide +kernel) rfl
set_option maxRecDepth 100000 in
theorem wl_L_114 : Cond.methodLink RL 114 yX6_as ∈ WALL := by
  first
  | exact wt5 (sk16 (sk16 (sk16 (sk16 (sk16 (sk16 (List.Mem.tail _ (List.Mem.tail _ (List.Mem.tail _ (List.Mem.tail _ (List.Mem.tail _ (List.Mem.head _)))))))))))) rfl
  | exact wall 1158 (by decide +kernel) rfl
set_option maxRecDepth 100000 in
theorem wi_X6_as : Cond.instanceMethod yX6_as ∈ WALL := by
  first
  | exact wt5 (sk16 (sk16 (sk16 (sk16 (sk16 (sk16 (List.Mem.tail _ (List.Mem.tail _ (List.Mem.tail _ (List.Mem.tail _ (List.Mem.tail _ (List.Mem.tail _ (List.Mem.head _))))))))))))) rfl
  | exact wall 1159 (by decide +kernel) rfl
set_option maxRecDepth 100000 in
theorem we_X6_as : Cond.selects RX6 yX6_as yX6_as ∈ WALL := by
  first
  | exact wt5 (sk16 (sk16 (sk16 (sk16 (sk16 (sk16 (List.Mem.tail _ (List.Mem.tail _ (List.Mem.tail _ (List.Mem.tail _ (List.Mem.tail _ (List.Mem.tail _ (List.Mem.tail _ (List.Mem.head _)))))))))))))) rfl
  | exact wall 1160 (by decide +kernel) rfl
set_option maxRecDepth 100000 in
theorem wl_L_118 : Cond.methodLink RL 118 yX6_image ∈ WALL := by
  first
  | exact wt5 (sk16 (sk16 (sk16 (sk16 (sk16 (sk16 (List.Mem.tail _ (List.Mem.tail _ (List.Mem.tail _ (List.Mem.tail _ (List.Mem.tail _ (List.Mem.tail _ (List.Mem.tail _ (List.Mem.tail _ (List.Mem.tail _ (List.Mem.head _)))))))))))))))) rfl
  | exact wall 1162 (by decide +kernel) rfl
set_option maxRecDepth 100000 in
theorem wi_X6_image : Cond.instanceMethod yX6_image ∈ WALL := by
  first
  | exact wt5 (sk16 (sk16 (sk16 (sk16 (sk16 (sk16 (List.Mem.tail _ (List.Mem.tail _ (List.Mem.tail _ (List.Mem.tail _ (List.Mem.tail _ (List.Mem.tail _ (List.Mem.tail _ (List.Mem.tail _ (List.Mem.tail _ (List.Mem.tail _ (List.Mem.head _))))))))))))))))) rfl
  | exact wall 1163 (by decide +kernel) rfl
set_option maxRecDepth 100000 in
theorem we_X6_image : Cond.selects RX6 yX6_image yX6_image ∈ WALL := by
  first
  | exact wt5 (sk16 (sk16 (sk16 (sk16 (sk16 (sk16 (List.Mem.tail _ (List.Mem.tail _ (List.Mem.tail _ (List.Mem.tail _ (List.Mem.tail _ (List.Mem.tail _ (List.Mem.tail _ (List.Mem.tail _ (List.Mem.tail _ (List.Mem.tail _ (List.Mem.tail _ (List.Mem.head _)))))))))))))))))) rfl
  | exact wall 1164 (by decide +kernel) rfl
set_option maxRecDepth 100000 in
theorem wl_L_122 : Cond.methodLink RL 122 yX6_undo ∈ WALL := by
  first
  | exact wt5 (sk16 (sk16 (sk16 (sk16 (sk16 (sk16 (List.Mem.tail _ (List.Mem.tail _ (List.Mem.tail _ (List.Mem.tail _ (List.Mem.tail _ (List.Mem.tail _ (List.Mem.tail _ (List.Mem.tail _ (List.Mem.tail _ (List.Mem.tail _ (List.Mem.tail _ (List.Mem.tail _ (List.Mem.tail _ (List.Mem.head _)))))))))))))))))))) rfl
  | exact wall 1166 (by decide +kernel) rfl
set_option maxRecDepth 100000 in
theorem wi_X6_undo : Cond.instanceMethod yX6_undo ∈ WALL := by
  first
  | exact wt5 (sk16 (sk16 (sk16 (sk16 (sk16 (sk16 (List.Mem.tail _ (List.Mem.tail _ (List.Mem.tail _ (List.Mem.tail _ (List.Mem.tail _ (List.Mem.tail _ (List.Mem.tail _ (List.Mem.tail _ (List.Mem.tail _ (List.Mem.tail _ (List.Mem.tail _ (List.Mem.tail _ (List.Mem.tail _ (List.Mem.tail _ (List.Mem.head _))))))))))))))))))))) rfl
  | exact wall 1167 (by decide +kernel) rfl
set_option maxRecDepth 100000 in
theorem we_X6_undo : Cond.selects RX6 yX6_undo yX6_undo ∈ WALL := by
  first
  | exact wt5 (sk16 (sk16 (sk16 (sk16 (sk16 (sk16 (List.Mem.tail _ (List.Mem.tail _ (List.Mem.tail _ (List.Mem.tail _ (List.Mem.tail _ (List.Mem.tail _ (List.Mem.tail _ (List.Mem.tail _ (List.Mem.tail _ (List.Mem.tail _ (List.Mem.tail _ (List.Mem.tail _ (List.Mem.tail _ (List.Mem.tail _ (List.Mem.tail _ (List.Mem.head _)))))))))))))))))))))) rfl
  | exact wall 1168 (by decide +kernel) rfl
set_option maxRecDepth 100000 in
theorem wl_L_126 : Cond.methodLink RL 126 yX6_count ∈ WALL := by
  first
  | exact wt5 (sk16 (sk16 (sk16 (sk16 (sk16 (sk16 (sk16 (List.Mem.tail _ (List.Mem.head _))))))))) rfl
  | exact wall 1170 (by decide +kernel) rfl
set_option maxRecDepth 100000 in
theorem wi_X6_count : Cond.instanceMethod yX6_count ∈ WALL := by
  first
  | exact wt5 (sk16 (sk16 (sk16 (sk16 (sk16 (sk16 (sk16 (List.Mem.tail _ (List.Mem.tail _ (List.Mem.head _)))))))))) rfl
  | exact wall 1171 (by decide +kernel) rfl
set_option maxRecDepth 100000 in
theorem we_X6_count : Cond.selects RX6 yX6_count yX6_count ∈ WALL := by
  first
  | exact wt5 (sk16 (sk16 (sk16 (sk16 (sk16 (sk16 (sk16 (List.Mem.tail _ (List.Mem.tail _ (List.Mem.tail _ (List.Mem.head _))))))))))) rfl
  | exact wall 1172 (by decide +kernel) rfl
set_option maxRecDepth 100000 in
theorem wf_J0_9 : Cond.fieldLink RJ0 9 "java/lang/String" "value" "[B" ∈ WALL := by
  first
  | exact wt5 (sk16 (sk16 (sk16 (sk16 (sk16 (sk16 (sk16 (List.Mem.tail _ (List.Mem.tail _ (List.Mem.tail _ (List.Mem.tail _ (List.Mem.tail _ (List.Mem.head _))))))))))))) rfl
  | exact wall 1174 (by decide +kernel) rfl
set_option maxRecDepth 100000 in
theorem wf_J0_15 : Cond.fieldLink RJ0 15 "java/lang/String" "coder" "B" ∈ WALL := by
  first
  | exact wt5 (sk16 (sk16 (sk16 (sk16 (sk16 (sk16 (sk16 (List.Mem.tail _ (List.Mem.tail _ (List.Mem.tail _ (List.Mem.tail _ (List.Mem.tail _ (List.Mem.tail _ (List.Mem.head _)))))))))))))) rfl
  | exact wall 1175 (by decide +kernel) rfl
end CW
section CW
set_option maxRecDepth 100000 in
theorem kl_X5_11 : lw_tbl[122]? = some (Cond.methodLinkNest RX5 11 yX3_init "DayKnown") := by decide +kernel
set_option maxRecDepth 100000 in
theorem kl_X3_11 : lw_tbl[128]? = some (Cond.methodLinkNest RX3 11 yX2_init "DayKnown") := by decide +kernel
set_option maxRecDepth 100000 in
theorem kf_X0_28 : lw_tbl[133]? = some (Cond.fieldLinkNest RX0 28 "DayKnown$Folk" "kind" "[I" "DayKnown") := by decide +kernel
set_option maxRecDepth 100000 in
theorem kf_X1_57 : lw_tbl[134]? = some (Cond.fieldLinkNest RX1 57 "DayKnown$Folk" "kind" "[I" "DayKnown") := by decide +kernel
set_option maxRecDepth 100000 in
theorem kf_X5_100 : lw_tbl[135]? = some (Cond.fieldLinkNest RX5 100 "DayKnown$Folk" "kind" "[I" "DayKnown") := by decide +kernel
set_option maxRecDepth 100000 in
theorem kf_X0_33 : lw_tbl[137]? = some (Cond.fieldLinkNest RX0 33 "DayKnown$Folk" "v" "[I" "DayKnown") := by decide +kernel
set_option maxRecDepth 100000 in
theorem kf_X5_103 : lw_tbl[138]? = some (Cond.fieldLinkNest RX5 103 "DayKnown$Folk" "v" "[I" "DayKnown") := by decide +kernel
set_option maxRecDepth 100000 in
theorem kf_X1_100 : lw_tbl[139]? = some (Cond.fieldLinkNest RX1 100 "DayKnown$Folk" "v" "[I" "DayKnown") := by decide +kernel
set_option maxRecDepth 100000 in
theorem kf_X5_106 : lw_tbl[141]? = some (Cond.fieldLinkNest RX5 106 "DayKnown$Folk" "row" "[I" "DayKnown") := by decide +kernel
set_option maxRecDepth 100000 in
theorem kf_X1_87 : lw_tbl[142]? = some (Cond.fieldLinkNest RX1 87 "DayKnown$Folk" "row" "[I" "DayKnown") := by decide +kernel
set_option maxRecDepth 100000 in
theorem kf_X1_40 : lw_tbl[144]? = some (Cond.fieldLinkNest RX1 40 "DayKnown$Folk" "people" "I" "DayKnown") := by decide +kernel
set_option maxRecDepth 100000 in
theorem kf_X5_205 : lw_tbl[145]? = some (Cond.fieldLinkNest RX5 205 "DayKnown$Folk" "people" "I" "DayKnown") := by decide +kernel
set_option maxRecDepth 100000 in
theorem kf_X5_86 : lw_tbl[146]? = some (Cond.fieldLinkNest RX5 86 "DayKnown$Folk" "notes" "I" "DayKnown") := by decide +kernel
set_option maxRecDepth 100000 in
theorem kf_X1_79 : lw_tbl[148]? = some (Cond.fieldLinkNest RX1 79 "DayKnown$Folk" "notes" "I" "DayKnown") := by decide +kernel
set_option maxRecDepth 100000 in
theorem kf_X1_50 : lw_tbl[149]? = some (Cond.fieldLinkNest RX1 50 "DayKnown$Folk" "yesterday" "I" "DayKnown") := by decide +kernel
set_option maxRecDepth 100000 in
theorem kf_X5_83 : lw_tbl[150]? = some (Cond.fieldLinkNest RX5 83 "DayKnown$Folk" "yesterday" "I" "DayKnown") := by decide +kernel
set_option maxRecDepth 100000 in
theorem kf_X5_32 : lw_tbl[167]? = some (Cond.fieldLinkNest RX5 32 "DayKnown$Held" "folk" "LDayKnown$Folk;" "DayKnown") := by decide +kernel
set_option maxRecDepth 100000 in
theorem kf_X5_64 : lw_tbl[169]? = some (Cond.fieldLinkNest RX5 64 "DayKnown$Held" "tape" "[I" "DayKnown") := by decide +kernel
set_option maxRecDepth 100000 in
theorem kf_X5_230 : lw_tbl[171]? = some (Cond.fieldLinkNest RX5 230 "DayKnown$Held" "book" "[I" "DayKnown") := by decide +kernel
set_option maxRecDepth 100000 in
theorem kf_X5_60 : lw_tbl[172]? = some (Cond.fieldLinkNest RX5 60 "DayKnown$Held" "signs" "I" "DayKnown") := by decide +kernel
set_option maxRecDepth 100000 in
theorem kf_X5_227 : lw_tbl[175]? = some (Cond.fieldLinkNest RX5 227 "DayKnown$Held" "booked" "I" "DayKnown") := by decide +kernel
set_option maxRecDepth 100000 in
theorem kf_X5_67 : lw_tbl[177]? = some (Cond.fieldLinkNest RX5 67 "DayKnown$Held" "towns" "I" "DayKnown") := by decide +kernel
set_option maxRecDepth 100000 in
theorem kl_X5_21 : lw_tbl[193]? = some (Cond.methodLinkNest RX5 21 yX4_init "DayKnown") := by decide +kernel
set_option maxRecDepth 100000 in
theorem kf_X5_80 : lw_tbl[206]? = some (Cond.fieldLinkNest RX5 80 "DayKnown$Town" "noteHours" "I" "DayKnown") := by decide +kernel
set_option maxRecDepth 100000 in
theorem kl_X5_36 : lw_tbl[229]? = some (Cond.methodLinkNest RX5 36 yX1_init "DayKnown") := by decide +kernel
set_option maxRecDepth 100000 in
theorem kf_X5_187 : lw_tbl[236]? = some (Cond.fieldLinkNest RX5 187 "DayKnown$Days" "folk" "LDayKnown$Folk;" "DayKnown") := by decide +kernel
set_option maxRecDepth 100000 in
theorem kf_X5_155 : lw_tbl[243]? = some (Cond.fieldLinkNest RX5 155 "DayKnown$Days" "stood" "I" "DayKnown") := by decide +kernel
set_option maxRecDepth 100000 in
theorem kf_X5_158 : lw_tbl[245]? = some (Cond.fieldLinkNest RX5 158 "DayKnown$Days" "least" "I" "DayKnown") := by decide +kernel
set_option maxRecDepth 100000 in
theorem kf_X5_161 : lw_tbl[247]? = some (Cond.fieldLinkNest RX5 161 "DayKnown$Days" "greatest" "I" "DayKnown") := by decide +kernel
set_option maxRecDepth 100000 in
theorem kf_X5_164 : lw_tbl[249]? = some (Cond.fieldLinkNest RX5 164 "DayKnown$Days" "chosen" "I" "DayKnown") := by decide +kernel
set_option maxRecDepth 100000 in
theorem kf_X5_167 : lw_tbl[251]? = some (Cond.fieldLinkNest RX5 167 "DayKnown$Days" "chosenGain" "I" "DayKnown") := by decide +kernel
set_option maxRecDepth 100000 in
theorem kl_X5_45 : lw_tbl[279]? = some (Cond.methodLinkNest RX5 45 yX2_init "DayKnown") := by decide +kernel
set_option maxRecDepth 100000 in
theorem kl_X5_55 : lw_tbl[282]? = some (Cond.methodLinkNest RX5 55 yX0_init "DayKnown") := by decide +kernel
set_option maxRecDepth 100000 in
theorem kf_X5_243 : lw_tbl[287]? = some (Cond.fieldLinkNest RX5 243 "DayKnown$Acts" "bodies" "[I" "DayKnown") := by decide +kernel
set_option maxRecDepth 100000 in
theorem kf_X5_240 : lw_tbl[289]? = some (Cond.fieldLinkNest RX5 240 "DayKnown$Acts" "ran" "I" "DayKnown") := by decide +kernel
set_option maxRecDepth 100000 in
theorem kl_X5_69 : lw_tbl[340]? = some (Cond.methodLinkNest RX5 69 yX4_read "DayKnown") := by decide +kernel
set_option maxRecDepth 100000 in
theorem kl_X5_256 : lw_tbl[459]? = some (Cond.methodLinkNest RX5 256 yX1_forgetTown "DayKnown") := by decide +kernel
set_option maxRecDepth 100000 in
theorem kl_X5_89 : lw_tbl[480]? = some (Cond.methodLinkNest RX5 89 yX2_join "DayKnown") := by decide +kernel
set_option maxRecDepth 100000 in
theorem kl_X5_93 : lw_tbl[488]? = some (Cond.methodLinkNest RX5 93 yX1_forget "DayKnown") := by decide +kernel
set_option maxRecDepth 100000 in
theorem kl_X5_96 : lw_tbl[493]? = some (Cond.methodLinkNest RX5 96 yX2_has "DayKnown") := by decide +kernel
set_option maxRecDepth 100000 in
theorem kl_X5_109 : lw_tbl[497]? = some (Cond.methodLinkNest RX5 109 yX2_noteOf "DayKnown") := by decide +kernel
set_option maxRecDepth 100000 in
theorem kl_X5_113 : lw_tbl[509]? = some (Cond.methodLinkNest RX5 113 yX2_putNote "DayKnown") := by decide +kernel
set_option maxRecDepth 100000 in
theorem kl_X5_117 : lw_tbl[514]? = some (Cond.methodLinkNest RX5 117 yX2_isDay "DayKnown") := by decide +kernel
set_option maxRecDepth 100000 in
theorem kl_X5_123 : lw_tbl[529]? = some (Cond.methodLinkNest RX5 123 yX1_prepare "DayKnown") := by decide +kernel
set_option maxRecDepth 100000 in
theorem kl_X1_64 : lw_tbl[537]? = some (Cond.methodLinkNest RX1 64 yX4_worth "DayKnown") := by decide +kernel
set_option maxRecDepth 100000 in
theorem kl_X1_70 : lw_tbl[552]? = some (Cond.methodLinkNest RX1 70 yX5_ownRow "DayKnown") := by decide +kernel
set_option maxRecDepth 100000 in
theorem kl_X1_82 : lw_tbl[573]? = some (Cond.methodLinkNest RX1 82 yX5_bit "DayKnown") := by decide +kernel
set_option maxRecDepth 100000 in
theorem kl_X5_127 : lw_tbl[584]? = some (Cond.methodLinkNest RX5 127 yX1_sightOf "DayKnown") := by decide +kernel
set_option maxRecDepth 100000 in
theorem kl_X5_130 : lw_tbl[585]? = some (Cond.methodLinkNest RX5 130 yX1_worth "DayKnown") := by decide +kernel
set_option maxRecDepth 100000 in
theorem kl_X5_134 : lw_tbl[586]? = some (Cond.methodLinkNest RX5 134 yX1_answerOf "DayKnown") := by decide +kernel
set_option maxRecDepth 100000 in
theorem kl_X1_103 : lw_tbl[590]? = some (Cond.methodLinkNest RX1 103 yX2_has "DayKnown") := by decide +kernel
set_option maxRecDepth 100000 in
theorem kl_X5_140 : lw_tbl[592]? = some (Cond.methodLinkNest RX5 140 yX1_gain "DayKnown") := by decide +kernel
set_option maxRecDepth 100000 in
theorem kl_X5_143 : lw_tbl[597]? = some (Cond.methodLinkNest RX5 143 yX1_firstOtherwise "DayKnown") := by decide +kernel
set_option maxRecDepth 100000 in
theorem kl_X5_146 : lw_tbl[602]? = some (Cond.methodLinkNest RX5 146 yX1_answer "DayKnown") := by decide +kernel
set_option maxRecDepth 100000 in
theorem kl_X5_149 : lw_tbl[606]? = some (Cond.methodLinkNest RX5 149 yX1_gainOfAll "DayKnown") := by decide +kernel
set_option maxRecDepth 100000 in
theorem kl_X5_259 : lw_tbl[618]? = some (Cond.methodLinkNest RX5 259 yX1_search "DayKnown") := by decide +kernel
set_option maxRecDepth 100000 in
theorem kl_X1_125 : lw_tbl[622]? = some (Cond.methodLinkNest RX1 125 yX2_allDays "DayKnown") := by decide +kernel
set_option maxRecDepth 100000 in
theorem kl_X5_173 : lw_tbl[640]? = some (Cond.methodLinkNest RX5 173 yX1_stands "DayKnown") := by decide +kernel
set_option maxRecDepth 100000 in
theorem kl_X5_179 : lw_tbl[653]? = some (Cond.methodLinkNest RX5 179 yX1_comingDay "DayKnown") := by decide +kernel
set_option maxRecDepth 100000 in
theorem kl_X5_183 : lw_tbl[658]? = some (Cond.methodLinkNest RX5 183 yX2_endMorning "DayKnown") := by decide +kernel
set_option maxRecDepth 100000 in
theorem kl_X2_43 : lw_tbl[662]? = some (Cond.methodLinkNest RX2 43 yX5_ownRow "DayKnown") := by decide +kernel
set_option maxRecDepth 100000 in
theorem kl_X5_188 : lw_tbl[668]? = some (Cond.methodLinkNest RX5 188 yX2_become "DayKnown") := by decide +kernel
set_option maxRecDepth 100000 in
theorem kl_X5_194 : lw_tbl[681]? = some (Cond.methodLinkNest RX5 194 yX1_stoodWith "DayKnown") := by decide +kernel
set_option maxRecDepth 100000 in
theorem kl_X5_220 : lw_tbl[707]? = some (Cond.methodLinkNest RX5 220 yX2_exchange "DayKnown") := by decide +kernel
set_option maxRecDepth 100000 in
theorem kl_X5_233 : lw_tbl[732]? = some (Cond.methodLinkNest RX5 233 yX0_clear "DayKnown") := by decide +kernel
set_option maxRecDepth 100000 in
theorem kl_X5_236 : lw_tbl[736]? = some (Cond.methodLinkNest RX5 236 yX0_start "DayKnown") := by decide +kernel
set_option maxRecDepth 100000 in
theorem kl_X0_19 : lw_tbl[740]? = some (Cond.methodLinkNest RX0 19 yX2_has "DayKnown") := by decide +kernel
set_option maxRecDepth 100000 in
theorem kf_X0_45 : lw_tbl[750]? = some (Cond.fieldLinkNest RX0 45 "DayKnown" "KIND_ABOVE" "[I" "DayKnown") := by decide +kernel
set_option maxRecDepth 100000 in
theorem kl_X5_249 : lw_tbl[769]? = some (Cond.methodLinkNest RX5 249 yX3_become "DayKnown") := by decide +kernel
set_option maxRecDepth 100000 in
theorem kl_X3_25 : lw_tbl[773]? = some (Cond.methodLinkNest RX3 25 yX2_become "DayKnown") := by decide +kernel
end CW
section CW
set_option maxRecDepth 100000 in
theorem wc_X5_init : Cond.code yX5_init cX5_init 2 none ∈ WALL := by
  first
  | exact wt1 (sk16 (List.Mem.tail _ (List.Mem.tail _ (List.Mem.tail _ (List.Mem.head _))))) rfl
  | exact wall 116 (by decide +kernel) rfl
set_option maxRecDepth 100000 in
theorem wc_objectInit : Cond.code Lib.objectInit ⟨#[0xb1]⟩ 1 none ∈ WALL := wall 119 (by decide +kernel) rfl
set_option maxRecDepth 100000 in
theorem wc_X3_init : Cond.code yX3_init cX3_init 1 none ∈ WALL := by
  first
  | exact wt1 (sk16 (List.Mem.tail _ (List.Mem.tail _ (List.Mem.tail _ (List.Mem.tail _ (List.Mem.tail _ (List.Mem.tail _ (List.Mem.tail _ (List.Mem.tail _ (List.Mem.tail _ (List.Mem.tail _ (List.Mem.tail _ (List.Mem.head _))))))))))))) rfl
  | exact wall 124 (by decide +kernel) rfl
set_option maxRecDepth 100000 in
theorem wc_X2_init : Cond.code yX2_init cX2_init 1 none ∈ WALL := by
  first
  | exact wt1 (sk16 (sk16 (List.Mem.tail _ (List.Mem.head _)))) rfl
  | exact wall 130 (by decide +kernel) rfl
set_option maxRecDepth 100000 in
theorem wc_X4_init : Cond.code yX4_init cX4_init 1 none ∈ WALL := by
  first
  | exact wt1 (sk16 (sk16 (sk16 (sk16 (sk16 (sk16 (List.Mem.tail _ (List.Mem.tail _ (List.Mem.head _))))))))) rfl
  | exact wall 195 (by decide +kernel) rfl
set_option maxRecDepth 100000 in
theorem wc_X1_init : Cond.code yX1_init cX1_init 3 none ∈ WALL := by
  first
  | exact wt1 (sk16 (sk16 (sk16 (sk16 (sk16 (sk16 (sk16 (sk16 (List.Mem.tail _ (List.Mem.tail _ (List.Mem.tail _ (List.Mem.tail _ (List.Mem.tail _ (List.Mem.tail _ (List.Mem.head _))))))))))))))) rfl
  | exact wall 231 (by decide +kernel) rfl
set_option maxRecDepth 100000 in
theorem wc_X0_init : Cond.code yX0_init cX0_init 1 none ∈ WALL := by
  first
  | exact wt1 (sk16 (sk16 (sk16 (sk16 (sk16 (sk16 (sk16 (sk16 (sk16 (sk16 (sk16 (List.Mem.tail _ (List.Mem.tail _ (List.Mem.tail _ (List.Mem.tail _ (List.Mem.tail _ (List.Mem.tail _ (List.Mem.tail _ (List.Mem.tail _ (List.Mem.tail _ (List.Mem.tail _ (List.Mem.tail _ (List.Mem.head _))))))))))))))))))))))) rfl
  | exact wall 284 (by decide +kernel) rfl
set_option maxRecDepth 100000 in
theorem wc_X5_feed : Cond.code yX5_feed cX5_feed 2 (some .int) ∈ WALL := by
  first
  | exact wt1 (sk16 (sk16 (sk16 (sk16 (sk16 (sk16 (sk16 (sk16 (sk16 (sk16 (sk16 (sk16 (sk16 (sk16 (List.Mem.tail _ (List.Mem.tail _ (List.Mem.tail _ (List.Mem.tail _ (List.Mem.tail _ (List.Mem.tail _ (List.Mem.tail _ (List.Mem.tail _ (List.Mem.tail _ (List.Mem.tail _ (List.Mem.tail _ (List.Mem.tail _ (List.Mem.tail _ (List.Mem.tail _ (List.Mem.head _))))))))))))))))))))))))))))) rfl
  | exact wall 335 (by decide +kernel) rfl
set_option maxRecDepth 100000 in
theorem wc_X5_town : Cond.code yX5_town cX5_town 3 (some .int) ∈ WALL := by
  first
  | exact wt2 (List.Mem.tail _ (List.Mem.tail _ (List.Mem.head _))) rfl
  | exact wall 339 (by decide +kernel) rfl
set_option maxRecDepth 100000 in
theorem wc_X4_read : Cond.code yX4_read cX4_read 4 (some .int) ∈ WALL := by
  first
  | exact wt2 (List.Mem.tail _ (List.Mem.tail _ (List.Mem.tail _ (List.Mem.tail _ (List.Mem.tail _ (List.Mem.tail _ (List.Mem.head _))))))) rfl
  | exact wall 343 (by decide +kernel) rfl
set_option maxRecDepth 100000 in
theorem wc_J9_min_7cf53 : Cond.code yJ9_min_7cf53 cJ9_min_7cf53 2 (some .int) ∈ WALL := by
  first
  | exact wt2 (List.Mem.tail _ (List.Mem.tail _ (List.Mem.tail _ (List.Mem.tail _ (List.Mem.tail _ (List.Mem.tail _ (List.Mem.tail _ (List.Mem.tail _ (List.Mem.tail _ (List.Mem.head _)))))))))) rfl
  | exact wall 346 (by decide +kernel) rfl
set_option maxRecDepth 100000 in
theorem wc_J9_max_7cf53 : Cond.code yJ9_max_7cf53 cJ9_max_7cf53 2 (some .int) ∈ WALL := by
  first
  | exact wt2 (List.Mem.tail _ (List.Mem.tail _ (List.Mem.tail _ (List.Mem.tail _ (List.Mem.tail _ (List.Mem.tail _ (List.Mem.tail _ (List.Mem.tail _ (List.Mem.tail _ (List.Mem.tail _ (List.Mem.tail _ (List.Mem.tail _ (List.Mem.head _))))))))))))) rfl
  | exact wall 349 (by decide +kernel) rfl
set_option maxRecDepth 100000 in
theorem wc_X4_readClause : Cond.code yX4_readClause cX4_readClause 4 (some .boolean) ∈ WALL := by
  first
  | exact wt2 (sk16 (List.Mem.tail _ (List.Mem.tail _ (List.Mem.tail _ (List.Mem.head _))))) rfl
  | exact wall 356 (by decide +kernel) rfl
set_option maxRecDepth 100000 in
theorem wc_X4_sign : Cond.code yX4_sign cX4_sign 1 (some .int) ∈ WALL := by
  first
  | exact wt2 (sk16 (List.Mem.tail _ (List.Mem.tail _ (List.Mem.tail _ (List.Mem.tail _ (List.Mem.tail _ (List.Mem.tail _ (List.Mem.tail _ (List.Mem.head _))))))))) rfl
  | exact wall 360 (by decide +kernel) rfl
set_option maxRecDepth 100000 in
theorem wc_X4_takeWord : Cond.code yX4_takeWord cX4_takeWord 3 (some .boolean) ∈ WALL := by
  first
  | exact wt2 (sk16 (List.Mem.tail _ (List.Mem.tail _ (List.Mem.tail _ (List.Mem.tail _ (List.Mem.tail _ (List.Mem.tail _ (List.Mem.tail _ (List.Mem.tail _ (List.Mem.tail _ (List.Mem.tail _ (List.Mem.tail _ (List.Mem.tail _ (List.Mem.tail _ (List.Mem.tail _ (List.Mem.head _)))))))))))))))) rfl
  | exact wall 367 (by decide +kernel) rfl
set_option maxRecDepth 100000 in
theorem wc_J0_length_8abf5 : Cond.code yJ0_length_8abf5 cJ0_length_8abf5 1 (some .int) ∈ WALL := by
  first
  | exact wt2 (sk16 (sk16 (List.Mem.tail _ (List.Mem.tail _ (List.Mem.head _))))) rfl
  | exact wall 371 (by decide +kernel) rfl
set_option maxRecDepth 100000 in
theorem wc_J0_coder_7d493 : Cond.code yJ0_coder_7d493 cJ0_coder_7d493 1 (some .byte) ∈ WALL := by
  first
  | exact wt2 (sk16 (sk16 (List.Mem.tail _ (List.Mem.tail _ (List.Mem.tail _ (List.Mem.tail _ (List.Mem.tail _ (List.Mem.tail _ (List.Mem.head _))))))))) rfl
  | exact wall 375 (by decide +kernel) rfl
set_option maxRecDepth 100000 in
theorem wc_J0_charAt_5068e : Cond.code yJ0_charAt_5068e cJ0_charAt_5068e 2 (some .char) ∈ WALL := by
  first
  | exact wt2 (sk16 (sk16 (List.Mem.tail _ (List.Mem.tail _ (List.Mem.tail _ (List.Mem.tail _ (List.Mem.tail _ (List.Mem.tail _ (List.Mem.tail _ (List.Mem.tail _ (List.Mem.tail _ (List.Mem.tail _ (List.Mem.tail _ (List.Mem.tail _ (List.Mem.head _))))))))))))))) rfl
  | exact wall 381 (by decide +kernel) rfl
set_option maxRecDepth 100000 in
theorem wc_J0_isLatin1_aae02 : Cond.code yJ0_isLatin1_aae02 cJ0_isLatin1_aae02 1 (some .boolean) ∈ WALL := by
  first
  | exact wt2 (sk16 (sk16 (sk16 (List.Mem.head _)))) rfl
  | exact wall 385 (by decide +kernel) rfl
set_option maxRecDepth 100000 in
theorem wc_J1_charAt_3b067 : Cond.code yJ1_charAt_3b067 cJ1_charAt_3b067 2 (some .char) ∈ WALL := by
  first
  | exact wt2 (sk16 (sk16 (sk16 (List.Mem.tail _ (List.Mem.tail _ (List.Mem.tail _ (List.Mem.head _))))))) rfl
  | exact wall 388 (by decide +kernel) rfl
set_option maxRecDepth 100000 in
theorem wc_J0_checkIndex_df160 : Cond.code yJ0_checkIndex_df160 cJ0_checkIndex_df160 2 none ∈ WALL := by
  first
  | exact wt2 (sk16 (sk16 (sk16 (List.Mem.tail _ (List.Mem.tail _ (List.Mem.tail _ (List.Mem.tail _ (List.Mem.tail _ (List.Mem.tail _ (List.Mem.head _)))))))))) rfl
  | exact wall 391 (by decide +kernel) rfl
set_option maxRecDepth 100000 in
theorem wc_J3_checkIndex_8e157 : Cond.code yJ3_checkIndex_8e157 cJ3_checkIndex_8e157 3 (some .int) ∈ WALL := by
  first
  | exact wt2 (sk16 (sk16 (sk16 (List.Mem.tail _ (List.Mem.tail _ (List.Mem.tail _ (List.Mem.tail _ (List.Mem.tail _ (List.Mem.tail _ (List.Mem.tail _ (List.Mem.tail _ (List.Mem.tail _ (List.Mem.tail _ (List.Mem.tail _ (List.Mem.head _))))))))))))))) rfl
  | exact wall 396 (by decide +kernel) rfl
set_option maxRecDepth 100000 in
theorem wc_J2_charAt_3b067 : Cond.code yJ2_charAt_3b067 cJ2_charAt_3b067 2 (some .char) ∈ WALL := by
  first
  | exact wt2 (sk16 (sk16 (sk16 (List.Mem.tail _ (List.Mem.tail _ (List.Mem.tail _ (List.Mem.tail _ (List.Mem.tail _ (List.Mem.tail _ (List.Mem.tail _ (List.Mem.tail _ (List.Mem.tail _ (List.Mem.tail _ (List.Mem.tail _ (List.Mem.tail _ (List.Mem.tail _ (List.Mem.tail _ (List.Mem.head _)))))))))))))))))) rfl
  | exact wall 399 (by decide +kernel) rfl
set_option maxRecDepth 100000 in
theorem wc_J2_checkIndex_2214a : Cond.code yJ2_checkIndex_2214a cJ2_checkIndex_2214a 2 none ∈ WALL := by
  first
  | exact wt2 (sk16 (sk16 (sk16 (sk16 (List.Mem.tail _ (List.Mem.head _)))))) rfl
  | exact wall 402 (by decide +kernel) rfl
set_option maxRecDepth 100000 in
theorem wc_J2_length_9d52b : Cond.code yJ2_length_9d52b cJ2_length_9d52b 1 (some .int) ∈ WALL := by
  first
  | exact wt2 (sk16 (sk16 (sk16 (sk16 (List.Mem.tail _ (List.Mem.tail _ (List.Mem.tail _ (List.Mem.tail _ (List.Mem.head _))))))))) rfl
  | exact wall 405 (by decide +kernel) rfl
set_option maxRecDepth 100000 in
theorem wc_J2_getChar_3b067 : Cond.code yJ2_getChar_3b067 cJ2_getChar_3b067 2 (some .char) ∈ WALL := by
  first
  | exact wt2 (sk16 (sk16 (sk16 (sk16 (List.Mem.tail _ (List.Mem.tail _ (List.Mem.tail _ (List.Mem.tail _ (List.Mem.tail _ (List.Mem.tail _ (List.Mem.tail _ (List.Mem.tail _ (List.Mem.head _))))))))))))) rfl
  | exact wall 409 (by decide +kernel) rfl
set_option maxRecDepth 100000 in
theorem wc_X4_take : Cond.code yX4_take cX4_take 2 (some .boolean) ∈ WALL := by
  first
  | exact wt2 (sk16 (sk16 (sk16 (sk16 (sk16 (List.Mem.tail _ (List.Mem.tail _ (List.Mem.head _)))))))) rfl
  | exact wall 419 (by decide +kernel) rfl
set_option maxRecDepth 100000 in
theorem wc_X4_readNumber : Cond.code yX4_readNumber cX4_readNumber 3 (some .int) ∈ WALL := by
  first
  | exact wt2 (sk16 (sk16 (sk16 (sk16 (sk16 (List.Mem.tail _ (List.Mem.tail _ (List.Mem.tail _ (List.Mem.tail _ (List.Mem.tail _ (List.Mem.tail _ (List.Mem.head _)))))))))))) rfl
  | exact wall 423 (by decide +kernel) rfl
set_option maxRecDepth 100000 in
theorem wc_X4_takeOneOf : Cond.code yX4_takeOneOf cX4_takeOneOf 4 (some .int) ∈ WALL := by
  first
  | exact wt2 (sk16 (sk16 (sk16 (sk16 (sk16 (List.Mem.tail _ (List.Mem.tail _ (List.Mem.tail _ (List.Mem.tail _ (List.Mem.tail _ (List.Mem.tail _ (List.Mem.tail _ (List.Mem.tail _ (List.Mem.tail _ (List.Mem.tail _ (List.Mem.tail _ (List.Mem.head _))))))))))))))))) rfl
  | exact wall 428 (by decide +kernel) rfl
set_option maxRecDepth 100000 in
theorem wc_X4_readAny : Cond.code yX4_readAny cX4_readAny 3 (some .boolean) ∈ WALL := by
  first
  | exact wt2 (sk16 (sk16 (sk16 (sk16 (sk16 (List.Mem.tail _ (List.Mem.tail _ (List.Mem.tail _ (List.Mem.tail _ (List.Mem.tail _ (List.Mem.tail _ (List.Mem.tail _ (List.Mem.tail _ (List.Mem.tail _ (List.Mem.tail _ (List.Mem.tail _ (List.Mem.tail _ (List.Mem.tail _ (List.Mem.tail _ (List.Mem.tail _ (List.Mem.head _))))))))))))))))))))) rfl
  | exact wall 432 (by decide +kernel) rfl
set_option maxRecDepth 100000 in
theorem wc_X4_readBoth : Cond.code yX4_readBoth cX4_readBoth 3 (some .boolean) ∈ WALL := by
  first
  | exact wt2 (sk16 (sk16 (sk16 (sk16 (sk16 (sk16 (List.Mem.tail _ (List.Mem.tail _ (List.Mem.tail _ (List.Mem.head _)))))))))) rfl
  | exact wall 436 (by decide +kernel) rfl
set_option maxRecDepth 100000 in
theorem wc_X4_readFactor : Cond.code yX4_readFactor cX4_readFactor 2 (some .boolean) ∈ WALL := by
  first
  | exact wt2 (sk16 (sk16 (sk16 (sk16 (sk16 (sk16 (List.Mem.tail _ (List.Mem.tail _ (List.Mem.tail _ (List.Mem.tail _ (List.Mem.tail _ (List.Mem.tail _ (List.Mem.tail _ (List.Mem.head _)))))))))))))) rfl
  | exact wall 440 (by decide +kernel) rfl
set_option maxRecDepth 100000 in
theorem wc_X4_readTest : Cond.code yX4_readTest cX4_readTest 4 (some .boolean) ∈ WALL := by
  first
  | exact wt2 (sk16 (sk16 (sk16 (sk16 (sk16 (sk16 (List.Mem.tail _ (List.Mem.tail _ (List.Mem.tail _ (List.Mem.tail _ (List.Mem.tail _ (List.Mem.tail _ (List.Mem.tail _ (List.Mem.tail _ (List.Mem.tail _ (List.Mem.tail _ (List.Mem.tail _ (List.Mem.head _)))))))))))))))))) rfl
  | exact wall 444 (by decide +kernel) rfl
set_option maxRecDepth 100000 in
theorem wc_X4_keepCode : Cond.code yX4_keepCode cX4_keepCode 2 none ∈ WALL := by
  first
  | exact wt2 (sk16 (sk16 (sk16 (sk16 (sk16 (sk16 (sk16 (List.Mem.tail _ (List.Mem.head _))))))))) rfl
  | exact wall 450 (by decide +kernel) rfl
set_option maxRecDepth 100000 in
theorem wc_X4_keepClause : Cond.code yX4_keepClause cX4_keepClause 2 none ∈ WALL := by
  first
  | exact wt2 (sk16 (sk16 (sk16 (sk16 (sk16 (sk16 (sk16 (List.Mem.tail _ (List.Mem.tail _ (List.Mem.tail _ (List.Mem.tail _ (List.Mem.tail _ (List.Mem.head _))))))))))))) rfl
  | exact wall 454 (by decide +kernel) rfl
set_option maxRecDepth 100000 in
theorem wc_X5_forgetTowns : Cond.code yX5_forgetTowns cX5_forgetTowns 1 none ∈ WALL := by
  first
  | exact wt2 (sk16 (sk16 (sk16 (sk16 (sk16 (sk16 (sk16 (List.Mem.tail _ (List.Mem.tail _ (List.Mem.tail _ (List.Mem.tail _ (List.Mem.tail _ (List.Mem.tail _ (List.Mem.tail _ (List.Mem.tail _ (List.Mem.tail _ (List.Mem.head _))))))))))))))))) rfl
  | exact wall 458 (by decide +kernel) rfl
set_option maxRecDepth 100000 in
theorem wc_X1_forgetTown : Cond.code yX1_forgetTown cX1_forgetTown 2 none ∈ WALL := by
  first
  | exact wt2 (sk16 (sk16 (sk16 (sk16 (sk16 (sk16 (sk16 (List.Mem.tail _ (List.Mem.tail _ (List.Mem.tail _ (List.Mem.tail _ (List.Mem.tail _ (List.Mem.tail _ (List.Mem.tail _ (List.Mem.tail _ (List.Mem.tail _ (List.Mem.tail _ (List.Mem.tail _ (List.Mem.tail _ (List.Mem.tail _ (List.Mem.head _))))))))))))))))))))) rfl
  | exact wall 462 (by decide +kernel) rfl
set_option maxRecDepth 100000 in
theorem wc_X1_forget : Cond.code yX1_forget cX1_forget 1 none ∈ WALL := by
  first
  | exact wt2 (sk16 (sk16 (sk16 (sk16 (sk16 (sk16 (sk16 (sk16 (List.Mem.tail _ (List.Mem.head _)))))))))) rfl
  | exact wall 466 (by decide +kernel) rfl
set_option maxRecDepth 100000 in
theorem wc_X5_told : Cond.code yX5_told cX5_told 2 (some .int) ∈ WALL := by
  first
  | exact wt2 (sk16 (sk16 (sk16 (sk16 (sk16 (sk16 (sk16 (sk16 (List.Mem.tail _ (List.Mem.tail _ (List.Mem.tail _ (List.Mem.tail _ (List.Mem.tail _ (List.Mem.tail _ (List.Mem.head _))))))))))))))) rfl
  | exact wall 471 (by decide +kernel) rfl
set_option maxRecDepth 100000 in
theorem wc_X5_newestTown : Cond.code yX5_newestTown cX5_newestTown 2 (some (.object "DayKnown$Town")) ∈ WALL := by
  first
  | exact wt2 (sk16 (sk16 (sk16 (sk16 (sk16 (sk16 (sk16 (sk16 (List.Mem.tail _ (List.Mem.tail _ (List.Mem.tail _ (List.Mem.tail _ (List.Mem.tail _ (List.Mem.tail _ (List.Mem.tail _ (List.Mem.tail _ (List.Mem.tail _ (List.Mem.tail _ (List.Mem.head _))))))))))))))))))) rfl
  | exact wall 475 (by decide +kernel) rfl
set_option maxRecDepth 100000 in
theorem wc_X5_person : Cond.code yX5_person cX5_person 4 (some .int) ∈ WALL := by
  first
  | exact wt2 (sk16 (sk16 (sk16 (sk16 (sk16 (sk16 (sk16 (sk16 (List.Mem.tail _ (List.Mem.tail _ (List.Mem.tail _ (List.Mem.tail _ (List.Mem.tail _ (List.Mem.tail _ (List.Mem.tail _ (List.Mem.tail _ (List.Mem.tail _ (List.Mem.tail _ (List.Mem.tail _ (List.Mem.tail _ (List.Mem.tail _ (List.Mem.tail _ (List.Mem.head _))))))))))))))))))))))) rfl
  | exact wall 479 (by decide +kernel) rfl
set_option maxRecDepth 100000 in
theorem wc_X2_join : Cond.code yX2_join cX2_join 3 (some .int) ∈ WALL := by
  first
  | exact wt2 (sk16 (sk16 (sk16 (sk16 (sk16 (sk16 (sk16 (sk16 (sk16 (List.Mem.tail _ (List.Mem.tail _ (List.Mem.head _)))))))))))) rfl
  | exact wall 483 (by decide +kernel) rfl
set_option maxRecDepth 100000 in
theorem wc_X2_putNote : Cond.code yX2_putNote cX2_putNote 3 none ∈ WALL := by
  first
  | exact wt2 (sk16 (sk16 (sk16 (sk16 (sk16 (sk16 (sk16 (sk16 (sk16 (List.Mem.tail _ (List.Mem.tail _ (List.Mem.tail _ (List.Mem.tail _ (List.Mem.tail _ (List.Mem.tail _ (List.Mem.head _)))))))))))))))) rfl
  | exact wall 487 (by decide +kernel) rfl
set_option maxRecDepth 100000 in
theorem wc_X5_of : Cond.code yX5_of cX5_of 4 (some .int) ∈ WALL := by
  first
  | exact wt2 (sk16 (sk16 (sk16 (sk16 (sk16 (sk16 (sk16 (sk16 (sk16 (List.Mem.tail _ (List.Mem.tail _ (List.Mem.tail _ (List.Mem.tail _ (List.Mem.tail _ (List.Mem.tail _ (List.Mem.tail _ (List.Mem.tail _ (List.Mem.tail _ (List.Mem.tail _ (List.Mem.tail _ (List.Mem.head _))))))))))))))))))))) rfl
  | exact wall 492 (by decide +kernel) rfl
set_option maxRecDepth 100000 in
theorem wc_X2_has : Cond.code yX2_has cX2_has 2 (some .boolean) ∈ WALL := by
  first
  | exact wt2 (sk16 (sk16 (sk16 (sk16 (sk16 (sk16 (sk16 (sk16 (sk16 (List.Mem.tail _ (List.Mem.tail _ (List.Mem.tail _ (List.Mem.tail _ (List.Mem.tail _ (List.Mem.tail _ (List.Mem.tail _ (List.Mem.tail _ (List.Mem.tail _ (List.Mem.tail _ (List.Mem.tail _ (List.Mem.tail _ (List.Mem.tail _ (List.Mem.tail _ (List.Mem.tail _ (List.Mem.head _))))))))))))))))))))))))) rfl
  | exact wall 496 (by decide +kernel) rfl
set_option maxRecDepth 100000 in
theorem wc_X2_noteOf : Cond.code yX2_noteOf cX2_noteOf 2 (some .int) ∈ WALL := by
  first
  | exact wt2 (sk16 (sk16 (sk16 (sk16 (sk16 (sk16 (sk16 (sk16 (sk16 (sk16 (List.Mem.tail _ (List.Mem.tail _ (List.Mem.tail _ (List.Mem.head _)))))))))))))) rfl
  | exact wall 500 (by decide +kernel) rfl
set_option maxRecDepth 100000 in
theorem wc_X5_row : Cond.code yX5_row cX5_row 5 (some .int) ∈ WALL := by
  first
  | exact wt2 (sk16 (sk16 (sk16 (sk16 (sk16 (sk16 (sk16 (sk16 (sk16 (sk16 (List.Mem.tail _ (List.Mem.tail _ (List.Mem.tail _ (List.Mem.tail _ (List.Mem.tail _ (List.Mem.tail _ (List.Mem.tail _ (List.Mem.head _)))))))))))))))))) rfl
  | exact wall 504 (by decide +kernel) rfl
set_option maxRecDepth 100000 in
theorem wc_X5_note : Cond.code yX5_note cX5_note 5 (some .int) ∈ WALL := by
  first
  | exact wt2 (sk16 (sk16 (sk16 (sk16 (sk16 (sk16 (sk16 (sk16 (sk16 (sk16 (List.Mem.tail _ (List.Mem.tail _ (List.Mem.tail _ (List.Mem.tail _ (List.Mem.tail _ (List.Mem.tail _ (List.Mem.tail _ (List.Mem.tail _ (List.Mem.tail _ (List.Mem.tail _ (List.Mem.tail _ (List.Mem.head _)))))))))))))))))))))) rfl
  | exact wall 508 (by decide +kernel) rfl
set_option maxRecDepth 100000 in
theorem wc_X5_yesterday : Cond.code yX5_yesterday cX5_yesterday 3 (some .int) ∈ WALL := by
  first
  | exact wt2 (sk16 (sk16 (sk16 (sk16 (sk16 (sk16 (sk16 (sk16 (sk16 (sk16 (sk16 (List.Mem.head _)))))))))))) rfl
  | exact wall 513 (by decide +kernel) rfl
set_option maxRecDepth 100000 in
theorem wc_X2_isDay : Cond.code yX2_isDay cX2_isDay 2 (some .boolean) ∈ WALL := by
  first
  | exact wt2 (sk16 (sk16 (sk16 (sk16 (sk16 (sk16 (sk16 (sk16 (sk16 (sk16 (sk16 (List.Mem.tail _ (List.Mem.tail _ (List.Mem.tail _ (List.Mem.tail _ (List.Mem.head _)))))))))))))))) rfl
  | exact wall 517 (by decide +kernel) rfl
set_option maxRecDepth 100000 in
theorem wc_X2_allDays : Cond.code yX2_allDays cX2_allDays 1 (some .int) ∈ WALL := by
  first
  | exact wt2 (sk16 (sk16 (sk16 (sk16 (sk16 (sk16 (sk16 (sk16 (sk16 (sk16 (sk16 (List.Mem.tail _ (List.Mem.tail _ (List.Mem.tail _ (List.Mem.tail _ (List.Mem.tail _ (List.Mem.tail _ (List.Mem.tail _ (List.Mem.tail _ (List.Mem.head _)))))))))))))))))))) rfl
  | exact wall 521 (by decide +kernel) rfl
set_option maxRecDepth 100000 in
theorem wc_X5_by : Cond.code yX5_by cX5_by 6 (some .int) ∈ WALL := by
  first
  | exact wt2 (sk16 (sk16 (sk16 (sk16 (sk16 (sk16 (sk16 (sk16 (sk16 (sk16 (sk16 (List.Mem.tail _ (List.Mem.tail _ (List.Mem.tail _ (List.Mem.tail _ (List.Mem.tail _ (List.Mem.tail _ (List.Mem.tail _ (List.Mem.tail _ (List.Mem.tail _ (List.Mem.tail _ (List.Mem.tail _ (List.Mem.tail _ (List.Mem.head _)))))))))))))))))))))))) rfl
  | exact wall 525 (by decide +kernel) rfl
set_option maxRecDepth 100000 in
theorem wc_X5_isHour : Cond.code yX5_isHour cX5_isHour 1 (some .boolean) ∈ WALL := by
  first
  | exact wt2 (sk16 (sk16 (sk16 (sk16 (sk16 (sk16 (sk16 (sk16 (sk16 (sk16 (sk16 (List.Mem.tail _ (List.Mem.tail _ (List.Mem.tail _ (List.Mem.tail _ (List.Mem.tail _ (List.Mem.tail _ (List.Mem.tail _ (List.Mem.tail _ (List.Mem.tail _ (List.Mem.tail _ (List.Mem.tail _ (List.Mem.tail _ (List.Mem.tail _ (List.Mem.tail _ (List.Mem.tail _ (List.Mem.head _))))))))))))))))))))))))))) rfl
  | exact wall 528 (by decide +kernel) rfl
set_option maxRecDepth 100000 in
theorem wc_X1_prepare : Cond.code yX1_prepare cX1_prepare 8 none ∈ WALL := by
  first
  | exact wt2 (sk16 (sk16 (sk16 (sk16 (sk16 (sk16 (sk16 (sk16 (sk16 (sk16 (sk16 (sk16 (List.Mem.tail _ (List.Mem.tail _ (List.Mem.tail _ (List.Mem.head _)))))))))))))))) rfl
  | exact wall 532 (by decide +kernel) rfl
set_option maxRecDepth 100000 in
theorem wc_X1_fillWorths : Cond.code yX1_fillWorths cX1_fillWorths 4 none ∈ WALL := by
  first
  | exact wt2 (sk16 (sk16 (sk16 (sk16 (sk16 (sk16 (sk16 (sk16 (sk16 (sk16 (sk16 (sk16 (List.Mem.tail _ (List.Mem.tail _ (List.Mem.tail _ (List.Mem.tail _ (List.Mem.tail _ (List.Mem.tail _ (List.Mem.tail _ (List.Mem.head _)))))))))))))))))))) rfl
  | exact wall 536 (by decide +kernel) rfl
set_option maxRecDepth 100000 in
theorem wc_X4_worth : Cond.code yX4_worth cX4_worth 5 (some .int) ∈ WALL := by
  first
  | exact wt2 (sk16 (sk16 (sk16 (sk16 (sk16 (sk16 (sk16 (sk16 (sk16 (sk16 (sk16 (sk16 (List.Mem.tail _ (List.Mem.tail _ (List.Mem.tail _ (List.Mem.tail _ (List.Mem.tail _ (List.Mem.tail _ (List.Mem.tail _ (List.Mem.tail _ (List.Mem.tail _ (List.Mem.tail _ (List.Mem.tail _ (List.Mem.head _)))))))))))))))))))))))) rfl
  | exact wall 540 (by decide +kernel) rfl
set_option maxRecDepth 100000 in
theorem wc_X4_holds : Cond.code yX4_holds cX4_holds 6 (some .boolean) ∈ WALL := by
  first
  | exact wt2 (sk16 (sk16 (sk16 (sk16 (sk16 (sk16 (sk16 (sk16 (sk16 (sk16 (sk16 (sk16 (List.Mem.tail _ (List.Mem.tail _ (List.Mem.tail _ (List.Mem.tail _ (List.Mem.tail _ (List.Mem.tail _ (List.Mem.tail _ (List.Mem.tail _ (List.Mem.tail _ (List.Mem.tail _ (List.Mem.tail _ (List.Mem.tail _ (List.Mem.tail _ (List.Mem.tail _ (List.Mem.tail _ (List.Mem.head _)))))))))))))))))))))))))))) rfl
  | exact wall 544 (by decide +kernel) rfl
set_option maxRecDepth 100000 in
theorem wc_X4_passes : Cond.code yX4_passes cX4_passes 4 (some .boolean) ∈ WALL := by
  first
  | exact wt2 (sk16 (sk16 (sk16 (sk16 (sk16 (sk16 (sk16 (sk16 (sk16 (sk16 (sk16 (sk16 (sk16 (List.Mem.tail _ (List.Mem.tail _ (List.Mem.head _)))))))))))))))) rfl
  | exact wall 547 (by decide +kernel) rfl
set_option maxRecDepth 100000 in
theorem wc_X1_sightOf : Cond.code yX1_sightOf cX1_sightOf 6 (some .int) ∈ WALL := by
  first
  | exact wt2 (sk16 (sk16 (sk16 (sk16 (sk16 (sk16 (sk16 (sk16 (sk16 (sk16 (sk16 (sk16 (sk16 (List.Mem.tail _ (List.Mem.tail _ (List.Mem.tail _ (List.Mem.tail _ (List.Mem.tail _ (List.Mem.tail _ (List.Mem.head _)))))))))))))))))))) rfl
  | exact wall 551 (by decide +kernel) rfl
set_option maxRecDepth 100000 in
theorem wc_X5_ownRow : Cond.code yX5_ownRow cX5_ownRow 2 (some .int) ∈ WALL := by
  first
  | exact wt2 (sk16 (sk16 (sk16 (sk16 (sk16 (sk16 (sk16 (sk16 (sk16 (sk16 (sk16 (sk16 (sk16 (List.Mem.tail _ (List.Mem.tail _ (List.Mem.tail _ (List.Mem.tail _ (List.Mem.tail _ (List.Mem.tail _ (List.Mem.tail _ (List.Mem.tail _ (List.Mem.tail _ (List.Mem.head _))))))))))))))))))))))) rfl
  | exact wall 554 (by decide +kernel) rfl
set_option maxRecDepth 100000 in
theorem wc_J6_bitCount_0f7a4 : Cond.code yJ6_bitCount_0f7a4 cJ6_bitCount_0f7a4 1 (some .int) ∈ WALL := by
  first
  | exact wt2 (sk16 (sk16 (sk16 (sk16 (sk16 (sk16 (sk16 (sk16 (sk16 (sk16 (sk16 (sk16 (sk16 (List.Mem.tail _ (List.Mem.tail _ (List.Mem.tail _ (List.Mem.tail _ (List.Mem.tail _ (List.Mem.tail _ (List.Mem.tail _ (List.Mem.tail _ (List.Mem.tail _ (List.Mem.tail _ (List.Mem.tail _ (List.Mem.tail _ (List.Mem.head _)))))))))))))))))))))))))) rfl
  | exact wall 557 (by decide +kernel) rfl
set_option maxRecDepth 100000 in
theorem wc_X1_rowAt : Cond.code yX1_rowAt cX1_rowAt 7 (some .int) ∈ WALL := by
  first
  | exact wt2 (sk16 (sk16 (sk16 (sk16 (sk16 (sk16 (sk16 (sk16 (sk16 (sk16 (sk16 (sk16 (sk16 (sk16 (List.Mem.tail _ (List.Mem.tail _ (List.Mem.tail _ (List.Mem.head _)))))))))))))))))) rfl
  | exact wall 564 (by decide +kernel) rfl
set_option maxRecDepth 100000 in
theorem wc_X1_bestRow : Cond.code yX1_bestRow cX1_bestRow 8 (some .int) ∈ WALL := by
  first
  | exact wt2 (sk16 (sk16 (sk16 (sk16 (sk16 (sk16 (sk16 (sk16 (sk16 (sk16 (sk16 (sk16 (sk16 (sk16 (List.Mem.tail _ (List.Mem.tail _ (List.Mem.tail _ (List.Mem.tail _ (List.Mem.tail _ (List.Mem.tail _ (List.Mem.tail _ (List.Mem.head _)))))))))))))))))))))) rfl
  | exact wall 568 (by decide +kernel) rfl
set_option maxRecDepth 100000 in
theorem wc_X1_gain : Cond.code yX1_gain cX1_gain 5 (some .int) ∈ WALL := by
  first
  | exact wt2 (sk16 (sk16 (sk16 (sk16 (sk16 (sk16 (sk16 (sk16 (sk16 (sk16 (sk16 (sk16 (sk16 (sk16 (List.Mem.tail _ (List.Mem.tail _ (List.Mem.tail _ (List.Mem.tail _ (List.Mem.tail _ (List.Mem.tail _ (List.Mem.tail _ (List.Mem.tail _ (List.Mem.tail _ (List.Mem.tail _ (List.Mem.tail _ (List.Mem.head _)))))))))))))))))))))))))) rfl
  | exact wall 572 (by decide +kernel) rfl
set_option maxRecDepth 100000 in
theorem wc_X5_bit : Cond.code yX5_bit cX5_bit 2 (some .int) ∈ WALL := by
  first
  | exact wt2 (sk16 (sk16 (sk16 (sk16 (sk16 (sk16 (sk16 (sk16 (sk16 (sk16 (sk16 (sk16 (sk16 (sk16 (List.Mem.tail _ (List.Mem.tail _ (List.Mem.tail _ (List.Mem.tail _ (List.Mem.tail _ (List.Mem.tail _ (List.Mem.tail _ (List.Mem.tail _ (List.Mem.tail _ (List.Mem.tail _ (List.Mem.tail _ (List.Mem.tail _ (List.Mem.tail _ (List.Mem.tail _ (List.Mem.head _))))))))))))))))))))))))))))) rfl
  | exact wall 575 (by decide +kernel) rfl
set_option maxRecDepth 100000 in
theorem wc_X1_worth : Cond.code yX1_worth cX1_worth 7 (some .int) ∈ WALL := by
  first
  | exact wt3 (List.Mem.tail _ (List.Mem.tail _ (List.Mem.head _))) rfl
  | exact wall 579 (by decide +kernel) rfl
set_option maxRecDepth 100000 in
theorem wc_X1_would : Cond.code yX1_would cX1_would 7 (some .boolean) ∈ WALL := by
  first
  | exact wt3 (List.Mem.tail _ (List.Mem.tail _ (List.Mem.tail _ (List.Mem.tail _ (List.Mem.tail _ (List.Mem.tail _ (List.Mem.head _))))))) rfl
  | exact wall 583 (by decide +kernel) rfl
set_option maxRecDepth 100000 in
theorem wc_X1_answerOf : Cond.code yX1_answerOf cX1_answerOf 4 (some .int) ∈ WALL := by
  first
  | exact wt3 (List.Mem.tail _ (List.Mem.tail _ (List.Mem.tail _ (List.Mem.tail _ (List.Mem.tail _ (List.Mem.tail _ (List.Mem.tail _ (List.Mem.tail _ (List.Mem.tail _ (List.Mem.tail _ (List.Mem.tail _ (List.Mem.tail _ (List.Mem.head _))))))))))))) rfl
  | exact wall 589 (by decide +kernel) rfl
set_option maxRecDepth 100000 in
theorem wc_X5_day : Cond.code yX5_day cX5_day 3 (some .int) ∈ WALL := by
  first
  | exact wt3 (sk16 (List.Mem.tail _ (List.Mem.tail _ (List.Mem.tail _ (List.Mem.head _))))) rfl
  | exact wall 596 (by decide +kernel) rfl
set_option maxRecDepth 100000 in
theorem wc_X1_firstOtherwise : Cond.code yX1_firstOtherwise cX1_firstOtherwise 5 (some .int) ∈ WALL := by
  first
  | exact wt3 (sk16 (List.Mem.tail _ (List.Mem.tail _ (List.Mem.tail _ (List.Mem.tail _ (List.Mem.tail _ (List.Mem.tail _ (List.Mem.tail _ (List.Mem.head _))))))))) rfl
  | exact wall 600 (by decide +kernel) rfl
set_option maxRecDepth 100000 in
theorem wc_X1_answer : Cond.code yX1_answer cX1_answer 4 (some .int) ∈ WALL := by
  first
  | exact wt3 (sk16 (List.Mem.tail _ (List.Mem.tail _ (List.Mem.tail _ (List.Mem.tail _ (List.Mem.tail _ (List.Mem.tail _ (List.Mem.tail _ (List.Mem.tail _ (List.Mem.tail _ (List.Mem.tail _ (List.Mem.tail _ (List.Mem.tail _ (List.Mem.head _)))))))))))))) rfl
  | exact wall 605 (by decide +kernel) rfl
set_option maxRecDepth 100000 in
theorem wc_X1_gainOfAll : Cond.code yX1_gainOfAll cX1_gainOfAll 4 (some .int) ∈ WALL := by
  first
  | exact wt3 (sk16 (sk16 (List.Mem.head _))) rfl
  | exact wall 609 (by decide +kernel) rfl
set_option maxRecDepth 100000 in
theorem wc_X5_all : Cond.code yX5_all cX5_all 2 (some .int) ∈ WALL := by
  first
  | exact wt3 (sk16 (sk16 (List.Mem.tail _ (List.Mem.tail _ (List.Mem.tail _ (List.Mem.tail _ (List.Mem.head _))))))) rfl
  | exact wall 613 (by decide +kernel) rfl
set_option maxRecDepth 100000 in
theorem wc_X5_searchNow : Cond.code yX5_searchNow cX5_searchNow 1 none ∈ WALL := by
  first
  | exact wt3 (sk16 (sk16 (List.Mem.tail _ (List.Mem.tail _ (List.Mem.tail _ (List.Mem.tail _ (List.Mem.tail _ (List.Mem.tail _ (List.Mem.tail _ (List.Mem.tail _ (List.Mem.head _))))))))))) rfl
  | exact wall 617 (by decide +kernel) rfl
set_option maxRecDepth 100000 in
theorem wc_X1_search : Cond.code yX1_search cX1_search 3 none ∈ WALL := by
  first
  | exact wt3 (sk16 (sk16 (List.Mem.tail _ (List.Mem.tail _ (List.Mem.tail _ (List.Mem.tail _ (List.Mem.tail _ (List.Mem.tail _ (List.Mem.tail _ (List.Mem.tail _ (List.Mem.tail _ (List.Mem.tail _ (List.Mem.tail _ (List.Mem.tail _ (List.Mem.head _))))))))))))))) rfl
  | exact wall 621 (by decide +kernel) rfl
set_option maxRecDepth 100000 in
theorem wc_X1_stands : Cond.code yX1_stands cX1_stands 2 (some .boolean) ∈ WALL := by
  first
  | exact wt3 (sk16 (sk16 (sk16 (List.Mem.tail _ (List.Mem.head _))))) rfl
  | exact wall 626 (by decide +kernel) rfl
set_option maxRecDepth 100000 in
theorem wc_X1_addStanding : Cond.code yX1_addStanding cX1_addStanding 3 none ∈ WALL := by
  first
  | exact wt3 (sk16 (sk16 (sk16 (List.Mem.tail _ (List.Mem.tail _ (List.Mem.tail _ (List.Mem.tail _ (List.Mem.tail _ (List.Mem.tail _ (List.Mem.head _)))))))))) rfl
  | exact wall 631 (by decide +kernel) rfl
set_option maxRecDepth 100000 in
theorem wc_X5_once : Cond.code yX5_once cX5_once 7 (some .int) ∈ WALL := by
  first
  | exact wt3 (sk16 (sk16 (sk16 (List.Mem.tail _ (List.Mem.tail _ (List.Mem.tail _ (List.Mem.tail _ (List.Mem.tail _ (List.Mem.tail _ (List.Mem.tail _ (List.Mem.tail _ (List.Mem.tail _ (List.Mem.tail _ (List.Mem.tail _ (List.Mem.head _))))))))))))))) rfl
  | exact wall 636 (by decide +kernel) rfl
set_option maxRecDepth 100000 in
theorem wc_X5_isPart : Cond.code yX5_isPart cX5_isPart 1 (some .boolean) ∈ WALL := by
  first
  | exact wt3 (sk16 (sk16 (sk16 (List.Mem.tail _ (List.Mem.tail _ (List.Mem.tail _ (List.Mem.tail _ (List.Mem.tail _ (List.Mem.tail _ (List.Mem.tail _ (List.Mem.tail _ (List.Mem.tail _ (List.Mem.tail _ (List.Mem.tail _ (List.Mem.tail _ (List.Mem.tail _ (List.Mem.tail _ (List.Mem.head _)))))))))))))))))) rfl
  | exact wall 639 (by decide +kernel) rfl
set_option maxRecDepth 100000 in
theorem wc_X5_again : Cond.code yX5_again cX5_again 5 (some .int) ∈ WALL := by
  first
  | exact wt3 (sk16 (sk16 (sk16 (sk16 (List.Mem.tail _ (List.Mem.tail _ (List.Mem.tail _ (List.Mem.head _)))))))) rfl
  | exact wall 644 (by decide +kernel) rfl
set_option maxRecDepth 100000 in
theorem wc_X5_placeOnPath : Cond.code yX5_placeOnPath cX5_placeOnPath 4 (some .int) ∈ WALL := by
  first
  | exact wt3 (sk16 (sk16 (sk16 (sk16 (List.Mem.tail _ (List.Mem.tail _ (List.Mem.tail _ (List.Mem.tail _ (List.Mem.tail _ (List.Mem.tail _ (List.Mem.tail _ (List.Mem.head _)))))))))))) rfl
  | exact wall 648 (by decide +kernel) rfl
set_option maxRecDepth 100000 in
theorem wc_X5_morning : Cond.code yX5_morning cX5_morning 2 (some .int) ∈ WALL := by
  first
  | exact wt3 (sk16 (sk16 (sk16 (sk16 (List.Mem.tail _ (List.Mem.tail _ (List.Mem.tail _ (List.Mem.tail _ (List.Mem.tail _ (List.Mem.tail _ (List.Mem.tail _ (List.Mem.tail _ (List.Mem.tail _ (List.Mem.tail _ (List.Mem.tail _ (List.Mem.head _)))))))))))))))) rfl
  | exact wall 652 (by decide +kernel) rfl
set_option maxRecDepth 100000 in
theorem wc_X1_comingDay : Cond.code yX1_comingDay cX1_comingDay 1 (some .int) ∈ WALL := by
  first
  | exact wt3 (sk16 (sk16 (sk16 (sk16 (List.Mem.tail _ (List.Mem.tail _ (List.Mem.tail _ (List.Mem.tail _ (List.Mem.tail _ (List.Mem.tail _ (List.Mem.tail _ (List.Mem.tail _ (List.Mem.tail _ (List.Mem.tail _ (List.Mem.tail _ (List.Mem.tail _ (List.Mem.tail _ (List.Mem.tail _ (List.Mem.tail _ (List.Mem.head _)))))))))))))))))))) rfl
  | exact wall 656 (by decide +kernel) rfl
set_option maxRecDepth 100000 in
theorem wc_X2_endMorning : Cond.code yX2_endMorning cX2_endMorning 4 none ∈ WALL := by
  first
  | exact wt3 (sk16 (sk16 (sk16 (sk16 (sk16 (List.Mem.tail _ (List.Mem.tail _ (List.Mem.tail _ (List.Mem.tail _ (List.Mem.head _)))))))))) rfl
  | exact wall 661 (by decide +kernel) rfl
set_option maxRecDepth 100000 in
theorem wc_X5_year : Cond.code yX5_year cX5_year 7 (some .int) ∈ WALL := by
  first
  | exact wt3 (sk16 (sk16 (sk16 (sk16 (sk16 (List.Mem.tail _ (List.Mem.tail _ (List.Mem.tail _ (List.Mem.tail _ (List.Mem.tail _ (List.Mem.tail _ (List.Mem.tail _ (List.Mem.tail _ (List.Mem.tail _ (List.Mem.tail _ (List.Mem.head _)))))))))))))))) rfl
  | exact wall 667 (by decide +kernel) rfl
set_option maxRecDepth 100000 in
theorem wc_X2_become : Cond.code yX2_become cX2_become 2 none ∈ WALL := by
  first
  | exact wt3 (sk16 (sk16 (sk16 (sk16 (sk16 (List.Mem.tail _ (List.Mem.tail _ (List.Mem.tail _ (List.Mem.tail _ (List.Mem.tail _ (List.Mem.tail _ (List.Mem.tail _ (List.Mem.tail _ (List.Mem.tail _ (List.Mem.tail _ (List.Mem.tail _ (List.Mem.tail _ (List.Mem.tail _ (List.Mem.tail _ (List.Mem.head _)))))))))))))))))))) rfl
  | exact wall 671 (by decide +kernel) rfl
set_option maxRecDepth 100000 in
theorem wc_X5_searchThen : Cond.code yX5_searchThen cX5_searchThen 1 none ∈ WALL := by
  first
  | exact wt3 (sk16 (sk16 (sk16 (sk16 (sk16 (sk16 (List.Mem.tail _ (List.Mem.tail _ (List.Mem.tail _ (List.Mem.head _)))))))))) rfl
  | exact wall 676 (by decide +kernel) rfl
set_option maxRecDepth 100000 in
theorem wc_X5_bet : Cond.code yX5_bet cX5_bet 6 (some .int) ∈ WALL := by
  first
  | exact wt3 (sk16 (sk16 (sk16 (sk16 (sk16 (sk16 (List.Mem.tail _ (List.Mem.tail _ (List.Mem.tail _ (List.Mem.tail _ (List.Mem.tail _ (List.Mem.tail _ (List.Mem.tail _ (List.Mem.head _)))))))))))))) rfl
  | exact wall 680 (by decide +kernel) rfl
set_option maxRecDepth 100000 in
theorem wc_X1_stoodWith : Cond.code yX1_stoodWith cX1_stoodWith 5 (some .int) ∈ WALL := by
  first
  | exact wt3 (sk16 (sk16 (sk16 (sk16 (sk16 (sk16 (List.Mem.tail _ (List.Mem.tail _ (List.Mem.tail _ (List.Mem.tail _ (List.Mem.tail _ (List.Mem.tail _ (List.Mem.tail _ (List.Mem.tail _ (List.Mem.tail _ (List.Mem.tail _ (List.Mem.tail _ (List.Mem.head _)))))))))))))))))) rfl
  | exact wall 684 (by decide +kernel) rfl
set_option maxRecDepth 100000 in
theorem wc_X5_commonDivisor : Cond.code yX5_commonDivisor cX5_commonDivisor 4 (some .int) ∈ WALL := by
  first
  | exact wt3 (sk16 (sk16 (sk16 (sk16 (sk16 (sk16 (List.Mem.tail _ (List.Mem.tail _ (List.Mem.tail _ (List.Mem.tail _ (List.Mem.tail _ (List.Mem.tail _ (List.Mem.tail _ (List.Mem.tail _ (List.Mem.tail _ (List.Mem.tail _ (List.Mem.tail _ (List.Mem.tail _ (List.Mem.tail _ (List.Mem.tail _ (List.Mem.head _))))))))))))))))))))) rfl
  | exact wall 687 (by decide +kernel) rfl
set_option maxRecDepth 100000 in
theorem wc_X5_sure : Cond.code yX5_sure cX5_sure 5 (some .int) ∈ WALL := by
  first
  | exact wt3 (sk16 (sk16 (sk16 (sk16 (sk16 (sk16 (sk16 (List.Mem.tail _ (List.Mem.tail _ (List.Mem.tail _ (List.Mem.head _))))))))))) rfl
  | exact wall 692 (by decide +kernel) rfl
set_option maxRecDepth 100000 in
theorem wc_X5_tellThen : Cond.code yX5_tellThen cX5_tellThen 3 none ∈ WALL := by
  first
  | exact wt3 (sk16 (sk16 (sk16 (sk16 (sk16 (sk16 (sk16 (List.Mem.tail _ (List.Mem.tail _ (List.Mem.tail _ (List.Mem.tail _ (List.Mem.tail _ (List.Mem.tail _ (List.Mem.tail _ (List.Mem.tail _ (List.Mem.head _)))))))))))))))) rfl
  | exact wall 697 (by decide +kernel) rfl
set_option maxRecDepth 100000 in
theorem wc_X5_secret : Cond.code yX5_secret cX5_secret 3 (some .int) ∈ WALL := by
  first
  | exact wt3 (sk16 (sk16 (sk16 (sk16 (sk16 (sk16 (sk16 (List.Mem.tail _ (List.Mem.tail _ (List.Mem.tail _ (List.Mem.tail _ (List.Mem.tail _ (List.Mem.tail _ (List.Mem.tail _ (List.Mem.tail _ (List.Mem.tail _ (List.Mem.tail _ (List.Mem.tail _ (List.Mem.tail _ (List.Mem.tail _ (List.Mem.head _))))))))))))))))))))) rfl
  | exact wall 702 (by decide +kernel) rfl
set_option maxRecDepth 100000 in
theorem wc_X5_swap : Cond.code yX5_swap cX5_swap 6 (some .int) ∈ WALL := by
  first
  | exact wt3 (sk16 (sk16 (sk16 (sk16 (sk16 (sk16 (sk16 (sk16 (List.Mem.tail _ (List.Mem.head _)))))))))) rfl
  | exact wall 706 (by decide +kernel) rfl
set_option maxRecDepth 100000 in
theorem wc_X2_exchange : Cond.code yX2_exchange cX2_exchange 5 none ∈ WALL := by
  first
  | exact wt3 (sk16 (sk16 (sk16 (sk16 (sk16 (sk16 (sk16 (sk16 (List.Mem.tail _ (List.Mem.tail _ (List.Mem.tail _ (List.Mem.tail _ (List.Mem.tail _ (List.Mem.head _)))))))))))))) rfl
  | exact wall 710 (by decide +kernel) rfl
set_option maxRecDepth 100000 in
theorem wc_X5_wouldRather : Cond.code yX5_wouldRather cX5_wouldRather 3 (some .boolean) ∈ WALL := by
  first
  | exact wt3 (sk16 (sk16 (sk16 (sk16 (sk16 (sk16 (sk16 (sk16 (List.Mem.tail _ (List.Mem.tail _ (List.Mem.tail _ (List.Mem.tail _ (List.Mem.tail _ (List.Mem.tail _ (List.Mem.tail _ (List.Mem.tail _ (List.Mem.tail _ (List.Mem.tail _ (List.Mem.head _))))))))))))))))))) rfl
  | exact wall 715 (by decide +kernel) rfl
set_option maxRecDepth 100000 in
theorem wc_X5_isBetterThen : Cond.code yX5_isBetterThen cX5_isBetterThen 3 (some .boolean) ∈ WALL := by
  first
  | exact wt3 (sk16 (sk16 (sk16 (sk16 (sk16 (sk16 (sk16 (sk16 (List.Mem.tail _ (List.Mem.tail _ (List.Mem.tail _ (List.Mem.tail _ (List.Mem.tail _ (List.Mem.tail _ (List.Mem.tail _ (List.Mem.tail _ (List.Mem.tail _ (List.Mem.tail _ (List.Mem.tail _ (List.Mem.tail _ (List.Mem.tail _ (List.Mem.tail _ (List.Mem.head _))))))))))))))))))))))) rfl
  | exact wall 719 (by decide +kernel) rfl
set_option maxRecDepth 100000 in
theorem wc_X5_book : Cond.code yX5_book cX5_book 2 (some .int) ∈ WALL := by
  first
  | exact wt3 (sk16 (sk16 (sk16 (sk16 (sk16 (sk16 (sk16 (sk16 (sk16 (List.Mem.tail _ (List.Mem.tail _ (List.Mem.head _)))))))))))) rfl
  | exact wall 723 (by decide +kernel) rfl
set_option maxRecDepth 100000 in
theorem wc_X5_looked : Cond.code yX5_looked cX5_looked 5 (some .int) ∈ WALL := by
  first
  | exact wt3 (sk16 (sk16 (sk16 (sk16 (sk16 (sk16 (sk16 (sk16 (sk16 (List.Mem.tail _ (List.Mem.tail _ (List.Mem.tail _ (List.Mem.tail _ (List.Mem.tail _ (List.Mem.tail _ (List.Mem.head _)))))))))))))))) rfl
  | exact wall 727 (by decide +kernel) rfl
set_option maxRecDepth 100000 in
theorem wc_X5_act : Cond.code yX5_act cX5_act 4 (some .int) ∈ WALL := by
  first
  | exact wt3 (sk16 (sk16 (sk16 (sk16 (sk16 (sk16 (sk16 (sk16 (sk16 (List.Mem.tail _ (List.Mem.tail _ (List.Mem.tail _ (List.Mem.tail _ (List.Mem.tail _ (List.Mem.tail _ (List.Mem.tail _ (List.Mem.tail _ (List.Mem.tail _ (List.Mem.tail _ (List.Mem.head _)))))))))))))))))))) rfl
  | exact wall 731 (by decide +kernel) rfl
set_option maxRecDepth 100000 in
theorem wc_X0_clear : Cond.code yX0_clear cX0_clear 1 none ∈ WALL := by
  first
  | exact wt3 (sk16 (sk16 (sk16 (sk16 (sk16 (sk16 (sk16 (sk16 (sk16 (List.Mem.tail _ (List.Mem.tail _ (List.Mem.tail _ (List.Mem.tail _ (List.Mem.tail _ (List.Mem.tail _ (List.Mem.tail _ (List.Mem.tail _ (List.Mem.tail _ (List.Mem.tail _ (List.Mem.tail _ (List.Mem.tail _ (List.Mem.tail _ (List.Mem.tail _ (List.Mem.head _)))))))))))))))))))))))) rfl
  | exact wall 735 (by decide +kernel) rfl
set_option maxRecDepth 100000 in
theorem wc_X0_start : Cond.code yX0_start cX0_start 5 (some .int) ∈ WALL := by
  first
  | exact wt3 (sk16 (sk16 (sk16 (sk16 (sk16 (sk16 (sk16 (sk16 (sk16 (sk16 (List.Mem.tail _ (List.Mem.tail _ (List.Mem.head _))))))))))))) rfl
  | exact wall 739 (by decide +kernel) rfl
set_option maxRecDepth 100000 in
theorem wc_X0_ask : Cond.code yX0_ask cX0_ask 7 (some .int) ∈ WALL := by
  first
  | exact wt3 (sk16 (sk16 (sk16 (sk16 (sk16 (sk16 (sk16 (sk16 (sk16 (sk16 (List.Mem.tail _ (List.Mem.tail _ (List.Mem.tail _ (List.Mem.tail _ (List.Mem.tail _ (List.Mem.tail _ (List.Mem.tail _ (List.Mem.head _)))))))))))))))))) rfl
  | exact wall 744 (by decide +kernel) rfl
set_option maxRecDepth 100000 in
theorem wc_X0_bodyOf : Cond.code yX0_bodyOf cX0_bodyOf 5 (some .int) ∈ WALL := by
  first
  | exact wt3 (sk16 (sk16 (sk16 (sk16 (sk16 (sk16 (sk16 (sk16 (sk16 (sk16 (List.Mem.tail _ (List.Mem.tail _ (List.Mem.tail _ (List.Mem.tail _ (List.Mem.tail _ (List.Mem.tail _ (List.Mem.tail _ (List.Mem.tail _ (List.Mem.tail _ (List.Mem.tail _ (List.Mem.head _))))))))))))))))))))) rfl
  | exact wall 747 (by decide +kernel) rfl
set_option maxRecDepth 100000 in
theorem wc_X0_begin : Cond.code yX0_begin cX0_begin 2 none ∈ WALL := by
  first
  | exact wt3 (sk16 (sk16 (sk16 (sk16 (sk16 (sk16 (sk16 (sk16 (sk16 (sk16 (sk16 (List.Mem.tail _ (List.Mem.tail _ (List.Mem.head _)))))))))))))) rfl
  | exact wall 755 (by decide +kernel) rfl
set_option maxRecDepth 100000 in
theorem wc_X5_trace : Cond.code yX5_trace cX5_trace 2 (some .int) ∈ WALL := by
  first
  | exact wt3 (sk16 (sk16 (sk16 (sk16 (sk16 (sk16 (sk16 (sk16 (sk16 (sk16 (sk16 (List.Mem.tail _ (List.Mem.tail _ (List.Mem.tail _ (List.Mem.tail _ (List.Mem.tail _ (List.Mem.tail _ (List.Mem.head _)))))))))))))))))) rfl
  | exact wall 759 (by decide +kernel) rfl
set_option maxRecDepth 100000 in
theorem wc_X5_as : Cond.code yX5_as cX5_as 5 (some .int) ∈ WALL := by
  first
  | exact wt3 (sk16 (sk16 (sk16 (sk16 (sk16 (sk16 (sk16 (sk16 (sk16 (sk16 (sk16 (List.Mem.tail _ (List.Mem.tail _ (List.Mem.tail _ (List.Mem.tail _ (List.Mem.tail _ (List.Mem.tail _ (List.Mem.tail _ (List.Mem.tail _ (List.Mem.tail _ (List.Mem.tail _ (List.Mem.head _)))))))))))))))))))))) rfl
  | exact wall 763 (by decide +kernel) rfl
set_option maxRecDepth 100000 in
theorem wc_X5_image : Cond.code yX5_image cX5_image 1 (some .int) ∈ WALL := by
  first
  | exact wt3 (sk16 (sk16 (sk16 (sk16 (sk16 (sk16 (sk16 (sk16 (sk16 (sk16 (sk16 (List.Mem.tail _ (List.Mem.tail _ (List.Mem.tail _ (List.Mem.tail _ (List.Mem.tail _ (List.Mem.tail _ (List.Mem.tail _ (List.Mem.tail _ (List.Mem.tail _ (List.Mem.tail _ (List.Mem.tail _ (List.Mem.tail _ (List.Mem.tail _ (List.Mem.tail _ (List.Mem.tail _ (List.Mem.head _))))))))))))))))))))))))))) rfl
  | exact wall 768 (by decide +kernel) rfl
set_option maxRecDepth 100000 in
theorem wc_X3_become : Cond.code yX3_become cX3_become 2 none ∈ WALL := by
  first
  | exact wt3 (sk16 (sk16 (sk16 (sk16 (sk16 (sk16 (sk16 (sk16 (sk16 (sk16 (sk16 (sk16 (List.Mem.tail _ (List.Mem.tail _ (List.Mem.tail _ (List.Mem.head _)))))))))))))))) rfl
  | exact wall 772 (by decide +kernel) rfl
set_option maxRecDepth 100000 in
theorem wc_X5_undo : Cond.code yX5_undo cX5_undo 1 (some .int) ∈ WALL := by
  first
  | exact wt3 (sk16 (sk16 (sk16 (sk16 (sk16 (sk16 (sk16 (sk16 (sk16 (sk16 (sk16 (sk16 (List.Mem.tail _ (List.Mem.tail _ (List.Mem.tail _ (List.Mem.tail _ (List.Mem.tail _ (List.Mem.tail _ (List.Mem.tail _ (List.Mem.tail _ (List.Mem.tail _ (List.Mem.head _)))))))))))))))))))))) rfl
  | exact wall 778 (by decide +kernel) rfl
set_option maxRecDepth 100000 in
theorem wc_X5_count : Cond.code yX5_count cX5_count 2 (some .int) ∈ WALL := by
  first
  | exact wt3 (sk16 (sk16 (sk16 (sk16 (sk16 (sk16 (sk16 (sk16 (sk16 (sk16 (sk16 (sk16 (List.Mem.tail _ (List.Mem.tail _ (List.Mem.tail _ (List.Mem.tail _ (List.Mem.tail _ (List.Mem.tail _ (List.Mem.tail _ (List.Mem.tail _ (List.Mem.tail _ (List.Mem.tail _ (List.Mem.tail _ (List.Mem.tail _ (List.Mem.tail _ (List.Mem.head _)))))))))))))))))))))))))) rfl
  | exact wall 782 (by decide +kernel) rfl
set_option maxRecDepth 100000 in
theorem wc_X6_init : Cond.code yX6_init cX6_init 1 none ∈ WALL := by
  first
  | exact wt3 (sk16 (sk16 (sk16 (sk16 (sk16 (sk16 (sk16 (sk16 (sk16 (sk16 (sk16 (sk16 (sk16 (List.Mem.tail _ (List.Mem.tail _ (List.Mem.head _)))))))))))))))) rfl
  | exact wall 787 (by decide +kernel) rfl
set_option maxRecDepth 100000 in
theorem wc_X6_feed : Cond.code yX6_feed cX6_feed 2 (some .int) ∈ WALL := by
  first
  | exact wt4 (sk16 (sk16 (sk16 (List.Mem.tail _ (List.Mem.tail _ (List.Mem.tail _ (List.Mem.tail _ (List.Mem.tail _ (List.Mem.tail _ (List.Mem.tail _ (List.Mem.tail _ (List.Mem.tail _ (List.Mem.tail _ (List.Mem.tail _ (List.Mem.tail _ (List.Mem.head _)))))))))))))))) rfl
  | exact wall 877 (by decide +kernel) rfl
set_option maxRecDepth 100000 in
theorem wc_X6_in : Cond.code yX6_in cX6_in 3 (some .boolean) ∈ WALL := by
  first
  | exact wt4 (sk16 (sk16 (sk16 (List.Mem.tail _ (List.Mem.tail _ (List.Mem.tail _ (List.Mem.tail _ (List.Mem.tail _ (List.Mem.tail _ (List.Mem.tail _ (List.Mem.tail _ (List.Mem.tail _ (List.Mem.tail _ (List.Mem.tail _ (List.Mem.tail _ (List.Mem.tail _ (List.Mem.tail _ (List.Mem.tail _ (List.Mem.head _))))))))))))))))))) rfl
  | exact wall 880 (by decide +kernel) rfl
set_option maxRecDepth 100000 in
theorem wc_X6_town : Cond.code yX6_town cX6_town 2 (some .int) ∈ WALL := by
  first
  | exact wt4 (sk16 (sk16 (sk16 (sk16 (List.Mem.tail _ (List.Mem.tail _ (List.Mem.tail _ (List.Mem.head _)))))))) rfl
  | exact wall 884 (by decide +kernel) rfl
set_option maxRecDepth 100000 in
theorem wc_X6_clauseHere : Cond.code yX6_clauseHere cX6_clauseHere 2 none ∈ WALL := by
  first
  | exact wt4 (sk16 (sk16 (sk16 (sk16 (List.Mem.tail _ (List.Mem.tail _ (List.Mem.tail _ (List.Mem.tail _ (List.Mem.tail _ (List.Mem.tail _ (List.Mem.tail _ (List.Mem.head _)))))))))))) rfl
  | exact wall 888 (by decide +kernel) rfl
set_option maxRecDepth 100000 in
theorem wc_X6_here : Cond.code yX6_here cX6_here 1 (some .int) ∈ WALL := by
  first
  | exact wt4 (sk16 (sk16 (sk16 (sk16 (List.Mem.tail _ (List.Mem.tail _ (List.Mem.tail _ (List.Mem.tail _ (List.Mem.tail _ (List.Mem.tail _ (List.Mem.tail _ (List.Mem.tail _ (List.Mem.tail _ (List.Mem.tail _ (List.Mem.tail _ (List.Mem.head _)))))))))))))))) rfl
  | exact wall 892 (by decide +kernel) rfl
set_option maxRecDepth 100000 in
theorem wc_X6_much : Cond.code yX6_much cX6_much 4 none ∈ WALL := by
  first
  | exact wt4 (sk16 (sk16 (sk16 (sk16 (sk16 (List.Mem.head _)))))) rfl
  | exact wall 897 (by decide +kernel) rfl
set_option maxRecDepth 100000 in
theorem wc_X6_spells : Cond.code yX6_spells cX6_spells 3 none ∈ WALL := by
  first
  | exact wt4 (sk16 (sk16 (sk16 (sk16 (sk16 (List.Mem.tail _ (List.Mem.tail _ (List.Mem.tail _ (List.Mem.tail _ (List.Mem.head _)))))))))) rfl
  | exact wall 901 (by decide +kernel) rfl
set_option maxRecDepth 100000 in
theorem wc_X6_must : Cond.code yX6_must cX6_must 2 none ∈ WALL := by
  first
  | exact wt4 (sk16 (sk16 (sk16 (sk16 (sk16 (List.Mem.tail _ (List.Mem.tail _ (List.Mem.tail _ (List.Mem.tail _ (List.Mem.tail _ (List.Mem.tail _ (List.Mem.tail _ (List.Mem.tail _ (List.Mem.tail _ (List.Mem.tail _ (List.Mem.head _)))))))))))))))) rfl
  | exact wall 907 (by decide +kernel) rfl
set_option maxRecDepth 100000 in
theorem wc_X6_figures : Cond.code yX6_figures cX6_figures 3 (some .int) ∈ WALL := by
  first
  | exact wt4 (sk16 (sk16 (sk16 (sk16 (sk16 (List.Mem.tail _ (List.Mem.tail _ (List.Mem.tail _ (List.Mem.tail _ (List.Mem.tail _ (List.Mem.tail _ (List.Mem.tail _ (List.Mem.tail _ (List.Mem.tail _ (List.Mem.tail _ (List.Mem.tail _ (List.Mem.tail _ (List.Mem.tail _ (List.Mem.tail _ (List.Mem.head _)))))))))))))))))))) rfl
  | exact wall 911 (by decide +kernel) rfl
set_option maxRecDepth 100000 in
theorem wc_X6_some : Cond.code yX6_some cX6_some 1 none ∈ WALL := by
  first
  | exact wt4 (sk16 (sk16 (sk16 (sk16 (sk16 (sk16 (List.Mem.tail _ (List.Mem.tail _ (List.Mem.head _))))))))) rfl
  | exact wall 915 (by decide +kernel) rfl
set_option maxRecDepth 100000 in
theorem wc_X6_every : Cond.code yX6_every cX6_every 1 none ∈ WALL := by
  first
  | exact wt4 (sk16 (sk16 (sk16 (sk16 (sk16 (sk16 (List.Mem.tail _ (List.Mem.tail _ (List.Mem.tail _ (List.Mem.tail _ (List.Mem.tail _ (List.Mem.tail _ (List.Mem.head _))))))))))))) rfl
  | exact wall 919 (by decide +kernel) rfl
set_option maxRecDepth 100000 in
theorem wc_X6_factor : Cond.code yX6_factor cX6_factor 5 none ∈ WALL := by
  first
  | exact wt4 (sk16 (sk16 (sk16 (sk16 (sk16 (sk16 (List.Mem.tail _ (List.Mem.tail _ (List.Mem.tail _ (List.Mem.tail _ (List.Mem.tail _ (List.Mem.tail _ (List.Mem.tail _ (List.Mem.tail _ (List.Mem.tail _ (List.Mem.tail _ (List.Mem.head _))))))))))))))))) rfl
  | exact wall 923 (by decide +kernel) rfl
set_option maxRecDepth 100000 in
theorem wc_X6_emits : Cond.code yX6_emits cX6_emits 2 none ∈ WALL := by
  first
  | exact wt4 (sk16 (sk16 (sk16 (sk16 (sk16 (sk16 (List.Mem.tail _ (List.Mem.tail _ (List.Mem.tail _ (List.Mem.tail _ (List.Mem.tail _ (List.Mem.tail _ (List.Mem.tail _ (List.Mem.tail _ (List.Mem.tail _ (List.Mem.tail _ (List.Mem.tail _ (List.Mem.tail _ (List.Mem.tail _ (List.Mem.tail _ (List.Mem.head _))))))))))))))))))))) rfl
  | exact wall 927 (by decide +kernel) rfl
set_option maxRecDepth 100000 in
theorem wc_X6_among : Cond.code yX6_among cX6_among 3 (some .int) ∈ WALL := by
  first
  | exact wt4 (sk16 (sk16 (sk16 (sk16 (sk16 (sk16 (sk16 (List.Mem.tail _ (List.Mem.tail _ (List.Mem.tail _ (List.Mem.head _))))))))))) rfl
  | exact wall 932 (by decide +kernel) rfl
set_option maxRecDepth 100000 in
theorem wc_X6_told : Cond.code yX6_told cX6_told 4 (some .int) ∈ WALL := by
  first
  | exact wt4 (sk16 (sk16 (sk16 (sk16 (sk16 (sk16 (sk16 (List.Mem.tail _ (List.Mem.tail _ (List.Mem.tail _ (List.Mem.tail _ (List.Mem.tail _ (List.Mem.tail _ (List.Mem.tail _ (List.Mem.tail _ (List.Mem.tail _ (List.Mem.tail _ (List.Mem.head _)))))))))))))))))) rfl
  | exact wall 939 (by decide +kernel) rfl
set_option maxRecDepth 100000 in
theorem wc_X6_tellsOf : Cond.code yX6_tellsOf cX6_tellsOf 2 (some .int) ∈ WALL := by
  first
  | exact wt4 (sk16 (sk16 (sk16 (sk16 (sk16 (sk16 (sk16 (List.Mem.tail _ (List.Mem.tail _ (List.Mem.tail _ (List.Mem.tail _ (List.Mem.tail _ (List.Mem.tail _ (List.Mem.tail _ (List.Mem.tail _ (List.Mem.tail _ (List.Mem.tail _ (List.Mem.tail _ (List.Mem.tail _ (List.Mem.tail _ (List.Mem.tail _ (List.Mem.head _)))))))))))))))))))))) rfl
  | exact wall 943 (by decide +kernel) rfl
set_option maxRecDepth 100000 in
theorem wc_X6_person : Cond.code yX6_person cX6_person 4 (some .int) ∈ WALL := by
  first
  | exact wt4 (sk16 (sk16 (sk16 (sk16 (sk16 (sk16 (sk16 (sk16 (List.Mem.tail _ (List.Mem.tail _ (List.Mem.head _))))))))))) rfl
  | exact wall 947 (by decide +kernel) rfl
set_option maxRecDepth 100000 in
theorem wc_X6_of : Cond.code yX6_of cX6_of 3 (some .int) ∈ WALL := by
  first
  | exact wt4 (sk16 (sk16 (sk16 (sk16 (sk16 (sk16 (sk16 (sk16 (List.Mem.tail _ (List.Mem.tail _ (List.Mem.tail _ (List.Mem.tail _ (List.Mem.tail _ (List.Mem.tail _ (List.Mem.head _))))))))))))))) rfl
  | exact wall 951 (by decide +kernel) rfl
set_option maxRecDepth 100000 in
theorem wc_X6_isPerson : Cond.code yX6_isPerson cX6_isPerson 2 (some .boolean) ∈ WALL := by
  first
  | exact wt4 (sk16 (sk16 (sk16 (sk16 (sk16 (sk16 (sk16 (sk16 (List.Mem.tail _ (List.Mem.tail _ (List.Mem.tail _ (List.Mem.tail _ (List.Mem.tail _ (List.Mem.tail _ (List.Mem.tail _ (List.Mem.tail _ (List.Mem.tail _ (List.Mem.tail _ (List.Mem.head _))))))))))))))))))) rfl
  | exact wall 955 (by decide +kernel) rfl
set_option maxRecDepth 100000 in
theorem wc_X6_row : Cond.code yX6_row cX6_row 4 (some .int) ∈ WALL := by
  first
  | exact wt4 (sk16 (sk16 (sk16 (sk16 (sk16 (sk16 (sk16 (sk16 (List.Mem.tail _ (List.Mem.tail _ (List.Mem.tail _ (List.Mem.tail _ (List.Mem.tail _ (List.Mem.tail _ (List.Mem.tail _ (List.Mem.tail _ (List.Mem.tail _ (List.Mem.tail _ (List.Mem.tail _ (List.Mem.tail _ (List.Mem.tail _ (List.Mem.tail _ (List.Mem.head _))))))))))))))))))))))) rfl
  | exact wall 959 (by decide +kernel) rfl
set_option maxRecDepth 100000 in
theorem wc_X6_note : Cond.code yX6_note cX6_note 4 (some .int) ∈ WALL := by
  first
  | exact wt4 (sk16 (sk16 (sk16 (sk16 (sk16 (sk16 (sk16 (sk16 (sk16 (List.Mem.tail _ (List.Mem.tail _ (List.Mem.head _)))))))))))) rfl
  | exact wall 963 (by decide +kernel) rfl
set_option maxRecDepth 100000 in
theorem wc_X6_yesterday : Cond.code yX6_yesterday cX6_yesterday 3 (some .int) ∈ WALL := by
  first
  | exact wt4 (sk16 (sk16 (sk16 (sk16 (sk16 (sk16 (sk16 (sk16 (sk16 (List.Mem.tail _ (List.Mem.tail _ (List.Mem.tail _ (List.Mem.tail _ (List.Mem.tail _ (List.Mem.tail _ (List.Mem.head _)))))))))))))))) rfl
  | exact wall 967 (by decide +kernel) rfl
set_option maxRecDepth 100000 in
theorem wc_X6_isDay : Cond.code yX6_isDay cX6_isDay 2 (some .boolean) ∈ WALL := by
  first
  | exact wt4 (sk16 (sk16 (sk16 (sk16 (sk16 (sk16 (sk16 (sk16 (sk16 (List.Mem.tail _ (List.Mem.tail _ (List.Mem.tail _ (List.Mem.tail _ (List.Mem.tail _ (List.Mem.tail _ (List.Mem.tail _ (List.Mem.tail _ (List.Mem.tail _ (List.Mem.tail _ (List.Mem.head _)))))))))))))))))))) rfl
  | exact wall 971 (by decide +kernel) rfl
set_option maxRecDepth 100000 in
theorem wc_X6_days : Cond.code yX6_days cX6_days 1 (some .int) ∈ WALL := by
  first
  | exact wt4 (sk16 (sk16 (sk16 (sk16 (sk16 (sk16 (sk16 (sk16 (sk16 (List.Mem.tail _ (List.Mem.tail _ (List.Mem.tail _ (List.Mem.tail _ (List.Mem.tail _ (List.Mem.tail _ (List.Mem.tail _ (List.Mem.tail _ (List.Mem.tail _ (List.Mem.tail _ (List.Mem.tail _ (List.Mem.tail _ (List.Mem.tail _ (List.Mem.tail _ (List.Mem.head _)))))))))))))))))))))))) rfl
  | exact wall 975 (by decide +kernel) rfl
set_option maxRecDepth 100000 in
theorem wc_X6_by : Cond.code yX6_by cX6_by 5 (some .int) ∈ WALL := by
  first
  | exact wt4 (sk16 (sk16 (sk16 (sk16 (sk16 (sk16 (sk16 (sk16 (sk16 (sk16 (List.Mem.tail _ (List.Mem.tail _ (List.Mem.head _))))))))))))) rfl
  | exact wall 979 (by decide +kernel) rfl
set_option maxRecDepth 100000 in
theorem wc_X6_isHour : Cond.code yX6_isHour cX6_isHour 1 (some .boolean) ∈ WALL := by
  first
  | exact wt4 (sk16 (sk16 (sk16 (sk16 (sk16 (sk16 (sk16 (sk16 (sk16 (sk16 (List.Mem.tail _ (List.Mem.tail _ (List.Mem.tail _ (List.Mem.tail _ (List.Mem.tail _ (List.Mem.head _)))))))))))))))) rfl
  | exact wall 982 (by decide +kernel) rfl
set_option maxRecDepth 100000 in
theorem wc_X6_looks : Cond.code yX6_looks cX6_looks 2 none ∈ WALL := by
  first
  | exact wt4 (sk16 (sk16 (sk16 (sk16 (sk16 (sk16 (sk16 (sk16 (sk16 (sk16 (List.Mem.tail _ (List.Mem.tail _ (List.Mem.tail _ (List.Mem.tail _ (List.Mem.tail _ (List.Mem.tail _ (List.Mem.tail _ (List.Mem.tail _ (List.Mem.tail _ (List.Mem.head _)))))))))))))))))))) rfl
  | exact wall 986 (by decide +kernel) rfl
set_option maxRecDepth 100000 in
theorem wc_X6_looksAt : Cond.code yX6_looksAt cX6_looksAt 3 none ∈ WALL := by
  first
  | exact wt4 (sk16 (sk16 (sk16 (sk16 (sk16 (sk16 (sk16 (sk16 (sk16 (sk16 (List.Mem.tail _ (List.Mem.tail _ (List.Mem.tail _ (List.Mem.tail _ (List.Mem.tail _ (List.Mem.tail _ (List.Mem.tail _ (List.Mem.tail _ (List.Mem.tail _ (List.Mem.tail _ (List.Mem.tail _ (List.Mem.tail _ (List.Mem.tail _ (List.Mem.head _)))))))))))))))))))))))) rfl
  | exact wall 990 (by decide +kernel) rfl
set_option maxRecDepth 100000 in
theorem wc_X6_worthBy : Cond.code yX6_worthBy cX6_worthBy 10 (some .int) ∈ WALL := by
  first
  | exact wt4 (sk16 (sk16 (sk16 (sk16 (sk16 (sk16 (sk16 (sk16 (sk16 (sk16 (sk16 (List.Mem.tail _ (List.Mem.head _))))))))))))) rfl
  | exact wall 994 (by decide +kernel) rfl
set_option maxRecDepth 100000 in
theorem wc_X6_worthOf : Cond.code yX6_worthOf cX6_worthOf 6 (some .int) ∈ WALL := by
  first
  | exact wt4 (sk16 (sk16 (sk16 (sk16 (sk16 (sk16 (sk16 (sk16 (sk16 (sk16 (sk16 (List.Mem.tail _ (List.Mem.tail _ (List.Mem.tail _ (List.Mem.tail _ (List.Mem.tail _ (List.Mem.head _))))))))))))))))) rfl
  | exact wall 998 (by decide +kernel) rfl
set_option maxRecDepth 100000 in
theorem wc_X6_others : Cond.code yX6_others cX6_others 6 (some .int) ∈ WALL := by
  first
  | exact wt4 (sk16 (sk16 (sk16 (sk16 (sk16 (sk16 (sk16 (sk16 (sk16 (sk16 (sk16 (List.Mem.tail _ (List.Mem.tail _ (List.Mem.tail _ (List.Mem.tail _ (List.Mem.tail _ (List.Mem.tail _ (List.Mem.tail _ (List.Mem.tail _ (List.Mem.tail _ (List.Mem.head _))))))))))))))))))))) rfl
  | exact wall 1002 (by decide +kernel) rfl
set_option maxRecDepth 100000 in
theorem wc_X6_does : Cond.code yX6_does cX6_does 3 (some .boolean) ∈ WALL := by
  first
  | exact wt4 (sk16 (sk16 (sk16 (sk16 (sk16 (sk16 (sk16 (sk16 (sk16 (sk16 (sk16 (List.Mem.tail _ (List.Mem.tail _ (List.Mem.tail _ (List.Mem.tail _ (List.Mem.tail _ (List.Mem.tail _ (List.Mem.tail _ (List.Mem.tail _ (List.Mem.tail _ (List.Mem.tail _ (List.Mem.tail _ (List.Mem.tail _ (List.Mem.head _)))))))))))))))))))))))) rfl
  | exact wall 1005 (by decide +kernel) rfl
set_option maxRecDepth 100000 in
theorem wc_X6_would : Cond.code yX6_would cX6_would 4 (some .boolean) ∈ WALL := by
  first
  | exact wt4 (sk16 (sk16 (sk16 (sk16 (sk16 (sk16 (sk16 (sk16 (sk16 (sk16 (sk16 (sk16 (List.Mem.head _))))))))))))) rfl
  | exact wall 1009 (by decide +kernel) rfl
set_option maxRecDepth 100000 in
theorem wc_X6_bestOwn : Cond.code yX6_bestOwn cX6_bestOwn 8 (some .int) ∈ WALL := by
  first
  | exact wt4 (sk16 (sk16 (sk16 (sk16 (sk16 (sk16 (sk16 (sk16 (sk16 (sk16 (sk16 (sk16 (List.Mem.tail _ (List.Mem.tail _ (List.Mem.tail _ (List.Mem.tail _ (List.Mem.head _))))))))))))))))) rfl
  | exact wall 1013 (by decide +kernel) rfl
set_option maxRecDepth 100000 in
theorem wc_X6_withOwn : Cond.code yX6_withOwn cX6_withOwn 3 (some .int) ∈ WALL := by
  first
  | exact wt4 (sk16 (sk16 (sk16 (sk16 (sk16 (sk16 (sk16 (sk16 (sk16 (sk16 (sk16 (sk16 (List.Mem.tail _ (List.Mem.tail _ (List.Mem.tail _ (List.Mem.tail _ (List.Mem.tail _ (List.Mem.tail _ (List.Mem.tail _ (List.Mem.head _)))))))))))))))))))) rfl
  | exact wall 1016 (by decide +kernel) rfl
set_option maxRecDepth 100000 in
theorem wc_X6_gainOf : Cond.code yX6_gainOf cX6_gainOf 5 (some .int) ∈ WALL := by
  first
  | exact wt4 (sk16 (sk16 (sk16 (sk16 (sk16 (sk16 (sk16 (sk16 (sk16 (sk16 (sk16 (sk16 (List.Mem.tail _ (List.Mem.tail _ (List.Mem.tail _ (List.Mem.tail _ (List.Mem.tail _ (List.Mem.tail _ (List.Mem.tail _ (List.Mem.tail _ (List.Mem.tail _ (List.Mem.tail _ (List.Mem.tail _ (List.Mem.head _)))))))))))))))))))))))) rfl
  | exact wall 1020 (by decide +kernel) rfl
set_option maxRecDepth 100000 in
theorem wc_X6_wouldPlainly : Cond.code yX6_wouldPlainly cX6_wouldPlainly 4 (some .boolean) ∈ WALL := by
  first
  | exact wt4 (sk16 (sk16 (sk16 (sk16 (sk16 (sk16 (sk16 (sk16 (sk16 (sk16 (sk16 (sk16 (List.Mem.tail _ (List.Mem.tail _ (List.Mem.tail _ (List.Mem.tail _ (List.Mem.tail _ (List.Mem.tail _ (List.Mem.tail _ (List.Mem.tail _ (List.Mem.tail _ (List.Mem.tail _ (List.Mem.tail _ (List.Mem.tail _ (List.Mem.tail _ (List.Mem.tail _ (List.Mem.tail _ (List.Mem.head _)))))))))))))))))))))))))))) rfl
  | exact wall 1024 (by decide +kernel) rfl
set_option maxRecDepth 100000 in
theorem wc_X6_isStrange : Cond.code yX6_isStrange cX6_isStrange 3 (some .boolean) ∈ WALL := by
  first
  | exact wt4 (sk16 (sk16 (sk16 (sk16 (sk16 (sk16 (sk16 (sk16 (sk16 (sk16 (sk16 (sk16 (sk16 (List.Mem.tail _ (List.Mem.tail _ (List.Mem.tail _ (List.Mem.head _))))))))))))))))) rfl
  | exact wall 1028 (by decide +kernel) rfl
set_option maxRecDepth 100000 in
theorem wc_X6_day : Cond.code yX6_day cX6_day 3 (some .int) ∈ WALL := by
  first
  | exact wt4 (sk16 (sk16 (sk16 (sk16 (sk16 (sk16 (sk16 (sk16 (sk16 (sk16 (sk16 (sk16 (sk16 (List.Mem.tail _ (List.Mem.tail _ (List.Mem.tail _ (List.Mem.tail _ (List.Mem.tail _ (List.Mem.tail _ (List.Mem.tail _ (List.Mem.head _))))))))))))))))))))) rfl
  | exact wall 1032 (by decide +kernel) rfl
set_option maxRecDepth 100000 in
theorem wc_X6_firstOtherwise : Cond.code yX6_firstOtherwise cX6_firstOtherwise 4 (some .int) ∈ WALL := by
  first
  | exact wt4 (sk16 (sk16 (sk16 (sk16 (sk16 (sk16 (sk16 (sk16 (sk16 (sk16 (sk16 (sk16 (sk16 (List.Mem.tail _ (List.Mem.tail _ (List.Mem.tail _ (List.Mem.tail _ (List.Mem.tail _ (List.Mem.tail _ (List.Mem.tail _ (List.Mem.tail _ (List.Mem.tail _ (List.Mem.tail _ (List.Mem.tail _ (List.Mem.head _))))))))))))))))))))))))) rfl
  | exact wall 1036 (by decide +kernel) rfl
set_option maxRecDepth 100000 in
theorem wc_X6_answerTo : Cond.code yX6_answerTo cX6_answerTo 5 (some .int) ∈ WALL := by
  first
  | exact wt4 (sk16 (sk16 (sk16 (sk16 (sk16 (sk16 (sk16 (sk16 (sk16 (sk16 (sk16 (sk16 (sk16 (List.Mem.tail _ (List.Mem.tail _ (List.Mem.tail _ (List.Mem.tail _ (List.Mem.tail _ (List.Mem.tail _ (List.Mem.tail _ (List.Mem.tail _ (List.Mem.tail _ (List.Mem.tail _ (List.Mem.tail _ (List.Mem.tail _ (List.Mem.tail _ (List.Mem.tail _ (List.Mem.tail _ (List.Mem.head _))))))))))))))))))))))))))))) rfl
  | exact wall 1040 (by decide +kernel) rfl
set_option maxRecDepth 100000 in
theorem wc_X6_gainOfAll : Cond.code yX6_gainOfAll cX6_gainOfAll 4 (some .int) ∈ WALL := by
  first
  | exact wt4 (sk16 (sk16 (sk16 (sk16 (sk16 (sk16 (sk16 (sk16 (sk16 (sk16 (sk16 (sk16 (sk16 (sk16 (List.Mem.tail _ (List.Mem.tail _ (List.Mem.tail _ (List.Mem.head _)))))))))))))))))) rfl
  | exact wall 1044 (by decide +kernel) rfl
set_option maxRecDepth 100000 in
theorem wc_X6_all : Cond.code yX6_all cX6_all 2 (some .int) ∈ WALL := by
  first
  | exact wt4 (sk16 (sk16 (sk16 (sk16 (sk16 (sk16 (sk16 (sk16 (sk16 (sk16 (sk16 (sk16 (sk16 (sk16 (List.Mem.tail _ (List.Mem.tail _ (List.Mem.tail _ (List.Mem.tail _ (List.Mem.tail _ (List.Mem.tail _ (List.Mem.tail _ (List.Mem.head _)))))))))))))))))))))) rfl
  | exact wall 1048 (by decide +kernel) rfl
set_option maxRecDepth 100000 in
theorem wc_X6_looksThrough : Cond.code yX6_looksThrough cX6_looksThrough 4 none ∈ WALL := by
  first
  | exact wt4 (sk16 (sk16 (sk16 (sk16 (sk16 (sk16 (sk16 (sk16 (sk16 (sk16 (sk16 (sk16 (sk16 (sk16 (List.Mem.tail _ (List.Mem.tail _ (List.Mem.tail _ (List.Mem.tail _ (List.Mem.tail _ (List.Mem.tail _ (List.Mem.tail _ (List.Mem.tail _ (List.Mem.tail _ (List.Mem.tail _ (List.Mem.tail _ (List.Mem.head _)))))))))))))))))))))))))) rfl
  | exact wall 1052 (by decide +kernel) rfl
set_option maxRecDepth 100000 in
theorem wc_X6_stands : Cond.code yX6_stands cX6_stands 2 (some .boolean) ∈ WALL := by
  first
  | exact wt4 (sk16 (sk16 (sk16 (sk16 (sk16 (sk16 (sk16 (sk16 (sk16 (sk16 (sk16 (sk16 (sk16 (sk16 (List.Mem.tail _ (List.Mem.tail _ (List.Mem.tail _ (List.Mem.tail _ (List.Mem.tail _ (List.Mem.tail _ (List.Mem.tail _ (List.Mem.tail _ (List.Mem.tail _ (List.Mem.tail _ (List.Mem.tail _ (List.Mem.tail _ (List.Mem.tail _ (List.Mem.tail _ (List.Mem.tail _ (List.Mem.head _)))))))))))))))))))))))))))))) rfl
  | exact wall 1056 (by decide +kernel) rfl
set_option maxRecDepth 100000 in
theorem wc_X6_once : Cond.code yX6_once cX6_once 8 (some .int) ∈ WALL := by
  first
  | exact wt5 (List.Mem.tail _ (List.Mem.tail _ (List.Mem.tail _ (List.Mem.head _)))) rfl
  | exact wall 1060 (by decide +kernel) rfl
set_option maxRecDepth 100000 in
theorem wc_X6_again : Cond.code yX6_again cX6_again 5 (some .int) ∈ WALL := by
  first
  | exact wt5 (List.Mem.tail _ (List.Mem.tail _ (List.Mem.tail _ (List.Mem.tail _ (List.Mem.tail _ (List.Mem.tail _ (List.Mem.tail _ (List.Mem.head _)))))))) rfl
  | exact wall 1064 (by decide +kernel) rfl
set_option maxRecDepth 100000 in
theorem wc_X6_morning : Cond.code yX6_morning cX6_morning 1 (some .int) ∈ WALL := by
  first
  | exact wt5 (List.Mem.tail _ (List.Mem.tail _ (List.Mem.tail _ (List.Mem.tail _ (List.Mem.tail _ (List.Mem.tail _ (List.Mem.tail _ (List.Mem.tail _ (List.Mem.tail _ (List.Mem.tail _ (List.Mem.tail _ (List.Mem.head _)))))))))))) rfl
  | exact wall 1068 (by decide +kernel) rfl
set_option maxRecDepth 100000 in
theorem wc_X6_morningComes : Cond.code yX6_morningComes cX6_morningComes 5 (some .int) ∈ WALL := by
  first
  | exact wt5 (List.Mem.tail _ (List.Mem.tail _ (List.Mem.tail _ (List.Mem.tail _ (List.Mem.tail _ (List.Mem.tail _ (List.Mem.tail _ (List.Mem.tail _ (List.Mem.tail _ (List.Mem.tail _ (List.Mem.tail _ (List.Mem.tail _ (List.Mem.tail _ (List.Mem.tail _ (List.Mem.tail _ (List.Mem.head _)))))))))))))))) rfl
  | exact wall 1072 (by decide +kernel) rfl
set_option maxRecDepth 100000 in
theorem wc_X6_year : Cond.code yX6_year cX6_year 8 (some .int) ∈ WALL := by
  first
  | exact wt5 (sk16 (List.Mem.tail _ (List.Mem.tail _ (List.Mem.tail _ (List.Mem.head _))))) rfl
  | exact wall 1076 (by decide +kernel) rfl
set_option maxRecDepth 100000 in
theorem wc_X6_bet : Cond.code yX6_bet cX6_bet 8 (some .int) ∈ WALL := by
  first
  | exact wt5 (sk16 (List.Mem.tail _ (List.Mem.tail _ (List.Mem.tail _ (List.Mem.tail _ (List.Mem.tail _ (List.Mem.tail _ (List.Mem.tail _ (List.Mem.head _))))))))) rfl
  | exact wall 1080 (by decide +kernel) rfl
set_option maxRecDepth 100000 in
theorem wc_X6_divisor : Cond.code yX6_divisor cX6_divisor 5 (some .int) ∈ WALL := by
  first
  | exact wt5 (sk16 (List.Mem.tail _ (List.Mem.tail _ (List.Mem.tail _ (List.Mem.tail _ (List.Mem.tail _ (List.Mem.tail _ (List.Mem.tail _ (List.Mem.tail _ (List.Mem.tail _ (List.Mem.tail _ (List.Mem.head _)))))))))))) rfl
  | exact wall 1083 (by decide +kernel) rfl
set_option maxRecDepth 100000 in
theorem wc_X6_sure : Cond.code yX6_sure cX6_sure 6 (some .int) ∈ WALL := by
  first
  | exact wt5 (sk16 (List.Mem.tail _ (List.Mem.tail _ (List.Mem.tail _ (List.Mem.tail _ (List.Mem.tail _ (List.Mem.tail _ (List.Mem.tail _ (List.Mem.tail _ (List.Mem.tail _ (List.Mem.tail _ (List.Mem.tail _ (List.Mem.tail _ (List.Mem.tail _ (List.Mem.tail _ (List.Mem.head _)))))))))))))))) rfl
  | exact wall 1087 (by decide +kernel) rfl
set_option maxRecDepth 100000 in
theorem wc_X6_keeps : Cond.code yX6_keeps cX6_keeps 2 none ∈ WALL := by
  first
  | exact wt5 (sk16 (sk16 (List.Mem.tail _ (List.Mem.tail _ (List.Mem.head _))))) rfl
  | exact wall 1091 (by decide +kernel) rfl
set_option maxRecDepth 100000 in
theorem wc_X6_count1 : Cond.code yX6_count1 cX6_count1 3 (some .int) ∈ WALL := by
  first
  | exact wt5 (sk16 (sk16 (List.Mem.tail _ (List.Mem.tail _ (List.Mem.tail _ (List.Mem.tail _ (List.Mem.tail _ (List.Mem.head _)))))))) rfl
  | exact wall 1094 (by decide +kernel) rfl
set_option maxRecDepth 100000 in
theorem wc_X6_goesBack : Cond.code yX6_goesBack cX6_goesBack 2 none ∈ WALL := by
  first
  | exact wt5 (sk16 (sk16 (List.Mem.tail _ (List.Mem.tail _ (List.Mem.tail _ (List.Mem.tail _ (List.Mem.tail _ (List.Mem.tail _ (List.Mem.tail _ (List.Mem.tail _ (List.Mem.tail _ (List.Mem.head _)))))))))))) rfl
  | exact wall 1098 (by decide +kernel) rfl
set_option maxRecDepth 100000 in
theorem wc_X6_secret : Cond.code yX6_secret cX6_secret 6 (some .int) ∈ WALL := by
  first
  | exact wt5 (sk16 (sk16 (List.Mem.tail _ (List.Mem.tail _ (List.Mem.tail _ (List.Mem.tail _ (List.Mem.tail _ (List.Mem.tail _ (List.Mem.tail _ (List.Mem.tail _ (List.Mem.tail _ (List.Mem.tail _ (List.Mem.tail _ (List.Mem.tail _ (List.Mem.tail _ (List.Mem.head _)))))))))))))))) rfl
  | exact wall 1102 (by decide +kernel) rfl
set_option maxRecDepth 100000 in
theorem wc_X6_swap : Cond.code yX6_swap cX6_swap 8 (some .int) ∈ WALL := by
  first
  | exact wt5 (sk16 (sk16 (sk16 (List.Mem.tail _ (List.Mem.head _))))) rfl
  | exact wall 1106 (by decide +kernel) rfl
set_option maxRecDepth 100000 in
theorem wc_X6_isGood : Cond.code yX6_isGood cX6_isGood 7 (some .boolean) ∈ WALL := by
  first
  | exact wt5 (sk16 (sk16 (sk16 (List.Mem.tail _ (List.Mem.tail _ (List.Mem.tail _ (List.Mem.tail _ (List.Mem.tail _ (List.Mem.head _))))))))) rfl
  | exact wall 1110 (by decide +kernel) rfl
set_option maxRecDepth 100000 in
theorem wc_X6_book : Cond.code yX6_book cX6_book 2 (some .int) ∈ WALL := by
  first
  | exact wt5 (sk16 (sk16 (sk16 (List.Mem.tail _ (List.Mem.tail _ (List.Mem.tail _ (List.Mem.tail _ (List.Mem.tail _ (List.Mem.tail _ (List.Mem.tail _ (List.Mem.tail _ (List.Mem.tail _ (List.Mem.head _))))))))))))) rfl
  | exact wall 1114 (by decide +kernel) rfl
set_option maxRecDepth 100000 in
theorem wc_X6_looked : Cond.code yX6_looked cX6_looked 6 (some .int) ∈ WALL := by
  first
  | exact wt5 (sk16 (sk16 (sk16 (List.Mem.tail _ (List.Mem.tail _ (List.Mem.tail _ (List.Mem.tail _ (List.Mem.tail _ (List.Mem.tail _ (List.Mem.tail _ (List.Mem.tail _ (List.Mem.tail _ (List.Mem.tail _ (List.Mem.tail _ (List.Mem.tail _ (List.Mem.tail _ (List.Mem.head _))))))))))))))))) rfl
  | exact wall 1118 (by decide +kernel) rfl
set_option maxRecDepth 100000 in
theorem wc_X6_act : Cond.code yX6_act cX6_act 4 (some .int) ∈ WALL := by
  first
  | exact wt5 (sk16 (sk16 (sk16 (sk16 (List.Mem.tail _ (List.Mem.head _)))))) rfl
  | exact wall 1122 (by decide +kernel) rfl
set_option maxRecDepth 100000 in
theorem wc_X6_knowsActs : Cond.code yX6_knowsActs cX6_knowsActs 2 (some .int) ∈ WALL := by
  first
  | exact wt5 (sk16 (sk16 (sk16 (sk16 (List.Mem.tail _ (List.Mem.tail _ (List.Mem.tail _ (List.Mem.tail _ (List.Mem.tail _ (List.Mem.head _)))))))))) rfl
  | exact wall 1126 (by decide +kernel) rfl
set_option maxRecDepth 100000 in
theorem wc_X6_runs : Cond.code yX6_runs cX6_runs 2 none ∈ WALL := by
  first
  | exact wt5 (sk16 (sk16 (sk16 (sk16 (List.Mem.tail _ (List.Mem.tail _ (List.Mem.tail _ (List.Mem.tail _ (List.Mem.tail _ (List.Mem.tail _ (List.Mem.tail _ (List.Mem.tail _ (List.Mem.tail _ (List.Mem.head _)))))))))))))) rfl
  | exact wall 1130 (by decide +kernel) rfl
set_option maxRecDepth 100000 in
theorem wc_X6_plainKnows : Cond.code yX6_plainKnows cX6_plainKnows 2 (some .int) ∈ WALL := by
  first
  | exact wt5 (sk16 (sk16 (sk16 (sk16 (List.Mem.tail _ (List.Mem.tail _ (List.Mem.tail _ (List.Mem.tail _ (List.Mem.tail _ (List.Mem.tail _ (List.Mem.tail _ (List.Mem.tail _ (List.Mem.tail _ (List.Mem.tail _ (List.Mem.tail _ (List.Mem.tail _ (List.Mem.tail _ (List.Mem.head _)))))))))))))))))) rfl
  | exact wall 1134 (by decide +kernel) rfl
set_option maxRecDepth 100000 in
theorem wc_X6_doesActs : Cond.code yX6_doesActs cX6_doesActs 2 (some .int) ∈ WALL := by
  first
  | exact wt5 (sk16 (sk16 (sk16 (sk16 (sk16 (List.Mem.tail _ (List.Mem.head _))))))) rfl
  | exact wall 1138 (by decide +kernel) rfl
set_option maxRecDepth 100000 in
theorem wc_X6_isUnder : Cond.code yX6_isUnder cX6_isUnder 2 (some .boolean) ∈ WALL := by
  first
  | exact wt5 (sk16 (sk16 (sk16 (sk16 (sk16 (List.Mem.tail _ (List.Mem.tail _ (List.Mem.tail _ (List.Mem.tail _ (List.Mem.head _)))))))))) rfl
  | exact wall 1141 (by decide +kernel) rfl
set_option maxRecDepth 100000 in
theorem wc_X6_plainDoes : Cond.code yX6_plainDoes cX6_plainDoes 2 (some .int) ∈ WALL := by
  first
  | exact wt5 (sk16 (sk16 (sk16 (sk16 (sk16 (List.Mem.tail _ (List.Mem.tail _ (List.Mem.tail _ (List.Mem.tail _ (List.Mem.tail _ (List.Mem.tail _ (List.Mem.tail _ (List.Mem.tail _ (List.Mem.head _)))))))))))))) rfl
  | exact wall 1145 (by decide +kernel) rfl
set_option maxRecDepth 100000 in
theorem wc_X6_tellsActs : Cond.code yX6_tellsActs cX6_tellsActs 3 (some .int) ∈ WALL := by
  first
  | exact wt5 (sk16 (sk16 (sk16 (sk16 (sk16 (List.Mem.tail _ (List.Mem.tail _ (List.Mem.tail _ (List.Mem.tail _ (List.Mem.tail _ (List.Mem.tail _ (List.Mem.tail _ (List.Mem.tail _ (List.Mem.tail _ (List.Mem.tail _ (List.Mem.tail _ (List.Mem.tail _ (List.Mem.head _)))))))))))))))))) rfl
  | exact wall 1149 (by decide +kernel) rfl
set_option maxRecDepth 100000 in
theorem wc_X6_plainTells : Cond.code yX6_plainTells cX6_plainTells 2 (some .int) ∈ WALL := by
  first
  | exact wt5 (sk16 (sk16 (sk16 (sk16 (sk16 (sk16 (List.Mem.head _))))))) rfl
  | exact wall 1153 (by decide +kernel) rfl
set_option maxRecDepth 100000 in
theorem wc_X6_trace : Cond.code yX6_trace cX6_trace 2 (some .int) ∈ WALL := by
  first
  | exact wt5 (sk16 (sk16 (sk16 (sk16 (sk16 (sk16 (List.Mem.tail _ (List.Mem.tail _ (List.Mem.tail _ (List.Mem.tail _ (List.Mem.head _))))))))))) rfl
  | exact wall 1157 (by decide +kernel) rfl
set_option maxRecDepth 100000 in
theorem wc_X6_as : Cond.code yX6_as cX6_as 3 (some .int) ∈ WALL := by
  first
  | exact wt5 (sk16 (sk16 (sk16 (sk16 (sk16 (sk16 (List.Mem.tail _ (List.Mem.tail _ (List.Mem.tail _ (List.Mem.tail _ (List.Mem.tail _ (List.Mem.tail _ (List.Mem.tail _ (List.Mem.tail _ (List.Mem.head _))))))))))))))) rfl
  | exact wall 1161 (by decide +kernel) rfl
set_option maxRecDepth 100000 in
theorem wc_X6_image : Cond.code yX6_image cX6_image 2 (some .int) ∈ WALL := by
  first
  | exact wt5 (sk16 (sk16 (sk16 (sk16 (sk16 (sk16 (List.Mem.tail _ (List.Mem.tail _ (List.Mem.tail _ (List.Mem.tail _ (List.Mem.tail _ (List.Mem.tail _ (List.Mem.tail _ (List.Mem.tail _ (List.Mem.tail _ (List.Mem.tail _ (List.Mem.tail _ (List.Mem.tail _ (List.Mem.head _))))))))))))))))))) rfl
  | exact wall 1165 (by decide +kernel) rfl
set_option maxRecDepth 100000 in
theorem wc_X6_undo : Cond.code yX6_undo cX6_undo 2 (some .int) ∈ WALL := by
  first
  | exact wt5 (sk16 (sk16 (sk16 (sk16 (sk16 (sk16 (sk16 (List.Mem.head _)))))))) rfl
  | exact wall 1169 (by decide +kernel) rfl
set_option maxRecDepth 100000 in
theorem wc_X6_count : Cond.code yX6_count cX6_count 2 (some .int) ∈ WALL := by
  first
  | exact wt5 (sk16 (sk16 (sk16 (sk16 (sk16 (sk16 (sk16 (List.Mem.tail _ (List.Mem.tail _ (List.Mem.tail _ (List.Mem.tail _ (List.Mem.head _)))))))))))) rfl
  | exact wall 1173 (by decide +kernel) rfl
end CW
section CW
set_option maxRecDepth 100000 in
theorem wu_X0 : ∀ w ∈ u_ws RX0 TX0 5, w ∈ WALL := fun w h => List.mem_filter.mpr ⟨(by decide +kernel : ∀ w ∈ u_ws RX0 TX0 5, w ∈ lw_tbl) w h, (by decide +kernel : ∀ w ∈ u_ws RX0 TX0 5, goodWord w = true) w h⟩
set_option maxRecDepth 100000 in
theorem wu_X1 : ∀ w ∈ u_ws RX1 TX1 12, w ∈ WALL := fun w h => List.mem_filter.mpr ⟨(by decide +kernel : ∀ w ∈ u_ws RX1 TX1 12, w ∈ lw_tbl) w h, (by decide +kernel : ∀ w ∈ u_ws RX1 TX1 12, goodWord w = true) w h⟩
set_option maxRecDepth 100000 in
theorem wu_X2 : ∀ w ∈ u_ws RX2 TX2 6, w ∈ WALL := fun w h => List.mem_filter.mpr ⟨(by decide +kernel : ∀ w ∈ u_ws RX2 TX2 6, w ∈ lw_tbl) w h, (by decide +kernel : ∀ w ∈ u_ws RX2 TX2 6, goodWord w = true) w h⟩
set_option maxRecDepth 100000 in
theorem wu_X3 : ∀ w ∈ u_ws RX3 TX3 6, w ∈ WALL := fun w h => List.mem_filter.mpr ⟨(by decide +kernel : ∀ w ∈ u_ws RX3 TX3 6, w ∈ lw_tbl) w h, (by decide +kernel : ∀ w ∈ u_ws RX3 TX3 6, goodWord w = true) w h⟩
set_option maxRecDepth 100000 in
theorem wu_X4 : ∀ w ∈ u_ws RX4 TX4 9, w ∈ WALL := fun w h => List.mem_filter.mpr ⟨(by decide +kernel : ∀ w ∈ u_ws RX4 TX4 9, w ∈ lw_tbl) w h, (by decide +kernel : ∀ w ∈ u_ws RX4 TX4 9, goodWord w = true) w h⟩
set_option maxRecDepth 100000 in
theorem wu_X5 : ∀ w ∈ u_ws RX5 TX5 9, w ∈ WALL := fun w h => List.mem_filter.mpr ⟨(by decide +kernel : ∀ w ∈ u_ws RX5 TX5 9, w ∈ lw_tbl) w h, (by decide +kernel : ∀ w ∈ u_ws RX5 TX5 9, goodWord w = true) w h⟩
set_option maxRecDepth 100000 in
theorem wu_X6 : ∀ w ∈ u_ws RX6 TX6 28, w ∈ WALL := fun w h => List.mem_filter.mpr ⟨(by decide +kernel : ∀ w ∈ u_ws RX6 TX6 28, w ∈ lw_tbl) w h, (by decide +kernel : ∀ w ∈ u_ws RX6 TX6 28, goodWord w = true) w h⟩
end CW
