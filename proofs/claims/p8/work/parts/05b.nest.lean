section CW
set_option maxRecDepth 100000 in
theorem kl_X5_11 : lw_tbl[122]? = some (Cond.methodLinkNest RX5 11 yX3_init "DayKnown") := by decide +kernel
set_option maxRecDepth 100000 in
theorem kl_X3_11 : lw_tbl[128]? = some (Cond.methodLinkNest RX3 11 yX2_init "DayKnown") := by decide +kernel
set_option maxRecDepth 100000 in
theorem kf_X0_28 : lw_tbl[133]? = some (Cond.fieldLinkNest RX0 28 "DayKnown$Folk" "kind" "[I" "DayKnown") := by decide +kernel
set_option maxRecDepth 100000 in
theorem kf_X1_57 : lw_tbl[134]? = some (Cond.fieldLinkNest RX1 57 "DayKnown$Folk" "kind" "[I" "DayKnown") := by decide +kernel
set_option maxRecDepth 100000 in
theorem kf_X5_100 : lw_tbl[135]? = some (Cond.fieldLinkNest RX5 100 "DayKnown$Folk" "kind" "[I" "DayKnown") := by decide +kernel
set_option maxRecDepth 100000 in
theorem kf_X0_33 : lw_tbl[137]? = some (Cond.fieldLinkNest RX0 33 "DayKnown$Folk" "v" "[I" "DayKnown") := by decide +kernel
set_option maxRecDepth 100000 in
theorem kf_X5_103 : lw_tbl[138]? = some (Cond.fieldLinkNest RX5 103 "DayKnown$Folk" "v" "[I" "DayKnown") := by decide +kernel
set_option maxRecDepth 100000 in
theorem kf_X1_100 : lw_tbl[139]? = some (Cond.fieldLinkNest RX1 100 "DayKnown$Folk" "v" "[I" "DayKnown") := by decide +kernel
set_option maxRecDepth 100000 in
theorem kf_X5_106 : lw_tbl[141]? = some (Cond.fieldLinkNest RX5 106 "DayKnown$Folk" "row" "[I" "DayKnown") := by decide +kernel
set_option maxRecDepth 100000 in
theorem kf_X1_87 : lw_tbl[142]? = some (Cond.fieldLinkNest RX1 87 "DayKnown$Folk" "row" "[I" "DayKnown") := by decide +kernel
set_option maxRecDepth 100000 in
theorem kf_X1_40 : lw_tbl[144]? = some (Cond.fieldLinkNest RX1 40 "DayKnown$Folk" "people" "I" "DayKnown") := by decide +kernel
set_option maxRecDepth 100000 in
theorem kf_X5_205 : lw_tbl[145]? = some (Cond.fieldLinkNest RX5 205 "DayKnown$Folk" "people" "I" "DayKnown") := by decide +kernel
set_option maxRecDepth 100000 in
theorem kf_X5_86 : lw_tbl[146]? = some (Cond.fieldLinkNest RX5 86 "DayKnown$Folk" "notes" "I" "DayKnown") := by decide +kernel
set_option maxRecDepth 100000 in
theorem kf_X1_79 : lw_tbl[148]? = some (Cond.fieldLinkNest RX1 79 "DayKnown$Folk" "notes" "I" "DayKnown") := by decide +kernel
set_option maxRecDepth 100000 in
theorem kf_X1_50 : lw_tbl[149]? = some (Cond.fieldLinkNest RX1 50 "DayKnown$Folk" "yesterday" "I" "DayKnown") := by decide +kernel
set_option maxRecDepth 100000 in
theorem kf_X5_83 : lw_tbl[150]? = some (Cond.fieldLinkNest RX5 83 "DayKnown$Folk" "yesterday" "I" "DayKnown") := by decide +kernel
set_option maxRecDepth 100000 in
theorem kf_X5_32 : lw_tbl[167]? = some (Cond.fieldLinkNest RX5 32 "DayKnown$Held" "folk" "LDayKnown$Folk;" "DayKnown") := by decide +kernel
set_option maxRecDepth 100000 in
theorem kf_X5_64 : lw_tbl[169]? = some (Cond.fieldLinkNest RX5 64 "DayKnown$Held" "tape" "[I" "DayKnown") := by decide +kernel
set_option maxRecDepth 100000 in
theorem kf_X5_230 : lw_tbl[171]? = some (Cond.fieldLinkNest RX5 230 "DayKnown$Held" "book" "[I" "DayKnown") := by decide +kernel
set_option maxRecDepth 100000 in
theorem kf_X5_60 : lw_tbl[172]? = some (Cond.fieldLinkNest RX5 60 "DayKnown$Held" "signs" "I" "DayKnown") := by decide +kernel
set_option maxRecDepth 100000 in
theorem kf_X5_227 : lw_tbl[175]? = some (Cond.fieldLinkNest RX5 227 "DayKnown$Held" "booked" "I" "DayKnown") := by decide +kernel
set_option maxRecDepth 100000 in
theorem kf_X5_67 : lw_tbl[177]? = some (Cond.fieldLinkNest RX5 67 "DayKnown$Held" "towns" "I" "DayKnown") := by decide +kernel
set_option maxRecDepth 100000 in
theorem kl_X5_21 : lw_tbl[193]? = some (Cond.methodLinkNest RX5 21 yX4_init "DayKnown") := by decide +kernel
set_option maxRecDepth 100000 in
theorem kf_X5_80 : lw_tbl[206]? = some (Cond.fieldLinkNest RX5 80 "DayKnown$Town" "noteHours" "I" "DayKnown") := by decide +kernel
set_option maxRecDepth 100000 in
theorem kl_X5_36 : lw_tbl[229]? = some (Cond.methodLinkNest RX5 36 yX1_init "DayKnown") := by decide +kernel
set_option maxRecDepth 100000 in
theorem kf_X5_187 : lw_tbl[236]? = some (Cond.fieldLinkNest RX5 187 "DayKnown$Days" "folk" "LDayKnown$Folk;" "DayKnown") := by decide +kernel
set_option maxRecDepth 100000 in
theorem kf_X5_155 : lw_tbl[243]? = some (Cond.fieldLinkNest RX5 155 "DayKnown$Days" "stood" "I" "DayKnown") := by decide +kernel
set_option maxRecDepth 100000 in
theorem kf_X5_158 : lw_tbl[245]? = some (Cond.fieldLinkNest RX5 158 "DayKnown$Days" "least" "I" "DayKnown") := by decide +kernel
set_option maxRecDepth 100000 in
theorem kf_X5_161 : lw_tbl[247]? = some (Cond.fieldLinkNest RX5 161 "DayKnown$Days" "greatest" "I" "DayKnown") := by decide +kernel
set_option maxRecDepth 100000 in
theorem kf_X5_164 : lw_tbl[249]? = some (Cond.fieldLinkNest RX5 164 "DayKnown$Days" "chosen" "I" "DayKnown") := by decide +kernel
set_option maxRecDepth 100000 in
theorem kf_X5_167 : lw_tbl[251]? = some (Cond.fieldLinkNest RX5 167 "DayKnown$Days" "chosenGain" "I" "DayKnown") := by decide +kernel
set_option maxRecDepth 100000 in
theorem kl_X5_45 : lw_tbl[279]? = some (Cond.methodLinkNest RX5 45 yX2_init "DayKnown") := by decide +kernel
set_option maxRecDepth 100000 in
theorem kl_X5_55 : lw_tbl[282]? = some (Cond.methodLinkNest RX5 55 yX0_init "DayKnown") := by decide +kernel
set_option maxRecDepth 100000 in
theorem kf_X5_243 : lw_tbl[287]? = some (Cond.fieldLinkNest RX5 243 "DayKnown$Acts" "bodies" "[I" "DayKnown") := by decide +kernel
set_option maxRecDepth 100000 in
theorem kf_X5_240 : lw_tbl[289]? = some (Cond.fieldLinkNest RX5 240 "DayKnown$Acts" "ran" "I" "DayKnown") := by decide +kernel
set_option maxRecDepth 100000 in
theorem kl_X5_69 : lw_tbl[340]? = some (Cond.methodLinkNest RX5 69 yX4_read "DayKnown") := by decide +kernel
set_option maxRecDepth 100000 in
theorem kl_X5_256 : lw_tbl[459]? = some (Cond.methodLinkNest RX5 256 yX1_forgetTown "DayKnown") := by decide +kernel
set_option maxRecDepth 100000 in
theorem kl_X5_89 : lw_tbl[480]? = some (Cond.methodLinkNest RX5 89 yX2_join "DayKnown") := by decide +kernel
set_option maxRecDepth 100000 in
theorem kl_X5_93 : lw_tbl[488]? = some (Cond.methodLinkNest RX5 93 yX1_forget "DayKnown") := by decide +kernel
set_option maxRecDepth 100000 in
theorem kl_X5_96 : lw_tbl[493]? = some (Cond.methodLinkNest RX5 96 yX2_has "DayKnown") := by decide +kernel
set_option maxRecDepth 100000 in
theorem kl_X5_109 : lw_tbl[497]? = some (Cond.methodLinkNest RX5 109 yX2_noteOf "DayKnown") := by decide +kernel
set_option maxRecDepth 100000 in
theorem kl_X5_113 : lw_tbl[509]? = some (Cond.methodLinkNest RX5 113 yX2_putNote "DayKnown") := by decide +kernel
set_option maxRecDepth 100000 in
theorem kl_X5_117 : lw_tbl[514]? = some (Cond.methodLinkNest RX5 117 yX2_isDay "DayKnown") := by decide +kernel
set_option maxRecDepth 100000 in
theorem kl_X5_123 : lw_tbl[529]? = some (Cond.methodLinkNest RX5 123 yX1_prepare "DayKnown") := by decide +kernel
set_option maxRecDepth 100000 in
theorem kl_X1_64 : lw_tbl[537]? = some (Cond.methodLinkNest RX1 64 yX4_worth "DayKnown") := by decide +kernel
set_option maxRecDepth 100000 in
theorem kl_X1_70 : lw_tbl[552]? = some (Cond.methodLinkNest RX1 70 yX5_ownRow "DayKnown") := by decide +kernel
set_option maxRecDepth 100000 in
theorem kl_X1_82 : lw_tbl[573]? = some (Cond.methodLinkNest RX1 82 yX5_bit "DayKnown") := by decide +kernel
set_option maxRecDepth 100000 in
theorem kl_X5_127 : lw_tbl[584]? = some (Cond.methodLinkNest RX5 127 yX1_sightOf "DayKnown") := by decide +kernel
set_option maxRecDepth 100000 in
theorem kl_X5_130 : lw_tbl[585]? = some (Cond.methodLinkNest RX5 130 yX1_worth "DayKnown") := by decide +kernel
set_option maxRecDepth 100000 in
theorem kl_X5_134 : lw_tbl[586]? = some (Cond.methodLinkNest RX5 134 yX1_answerOf "DayKnown") := by decide +kernel
set_option maxRecDepth 100000 in
theorem kl_X1_103 : lw_tbl[590]? = some (Cond.methodLinkNest RX1 103 yX2_has "DayKnown") := by decide +kernel
set_option maxRecDepth 100000 in
theorem kl_X5_140 : lw_tbl[592]? = some (Cond.methodLinkNest RX5 140 yX1_gain "DayKnown") := by decide +kernel
set_option maxRecDepth 100000 in
theorem kl_X5_143 : lw_tbl[597]? = some (Cond.methodLinkNest RX5 143 yX1_firstOtherwise "DayKnown") := by decide +kernel
set_option maxRecDepth 100000 in
theorem kl_X5_146 : lw_tbl[602]? = some (Cond.methodLinkNest RX5 146 yX1_answer "DayKnown") := by decide +kernel
set_option maxRecDepth 100000 in
theorem kl_X5_149 : lw_tbl[606]? = some (Cond.methodLinkNest RX5 149 yX1_gainOfAll "DayKnown") := by decide +kernel
set_option maxRecDepth 100000 in
theorem kl_X5_259 : lw_tbl[618]? = some (Cond.methodLinkNest RX5 259 yX1_search "DayKnown") := by decide +kernel
set_option maxRecDepth 100000 in
theorem kl_X1_125 : lw_tbl[622]? = some (Cond.methodLinkNest RX1 125 yX2_allDays "DayKnown") := by decide +kernel
set_option maxRecDepth 100000 in
theorem kl_X5_173 : lw_tbl[640]? = some (Cond.methodLinkNest RX5 173 yX1_stands "DayKnown") := by decide +kernel
set_option maxRecDepth 100000 in
theorem kl_X5_179 : lw_tbl[653]? = some (Cond.methodLinkNest RX5 179 yX1_comingDay "DayKnown") := by decide +kernel
set_option maxRecDepth 100000 in
theorem kl_X5_183 : lw_tbl[658]? = some (Cond.methodLinkNest RX5 183 yX2_endMorning "DayKnown") := by decide +kernel
set_option maxRecDepth 100000 in
theorem kl_X2_43 : lw_tbl[662]? = some (Cond.methodLinkNest RX2 43 yX5_ownRow "DayKnown") := by decide +kernel
set_option maxRecDepth 100000 in
theorem kl_X5_188 : lw_tbl[668]? = some (Cond.methodLinkNest RX5 188 yX2_become "DayKnown") := by decide +kernel
set_option maxRecDepth 100000 in
theorem kl_X5_194 : lw_tbl[681]? = some (Cond.methodLinkNest RX5 194 yX1_stoodWith "DayKnown") := by decide +kernel
set_option maxRecDepth 100000 in
theorem kl_X5_220 : lw_tbl[707]? = some (Cond.methodLinkNest RX5 220 yX2_exchange "DayKnown") := by decide +kernel
set_option maxRecDepth 100000 in
theorem kl_X5_233 : lw_tbl[732]? = some (Cond.methodLinkNest RX5 233 yX0_clear "DayKnown") := by decide +kernel
set_option maxRecDepth 100000 in
theorem kl_X5_236 : lw_tbl[736]? = some (Cond.methodLinkNest RX5 236 yX0_start "DayKnown") := by decide +kernel
set_option maxRecDepth 100000 in
theorem kl_X0_19 : lw_tbl[740]? = some (Cond.methodLinkNest RX0 19 yX2_has "DayKnown") := by decide +kernel
set_option maxRecDepth 100000 in
theorem kf_X0_45 : lw_tbl[750]? = some (Cond.fieldLinkNest RX0 45 "DayKnown" "KIND_ABOVE" "[I" "DayKnown") := by decide +kernel
set_option maxRecDepth 100000 in
theorem kl_X5_249 : lw_tbl[769]? = some (Cond.methodLinkNest RX5 249 yX3_become "DayKnown") := by decide +kernel
set_option maxRecDepth 100000 in
theorem kl_X3_25 : lw_tbl[773]? = some (Cond.methodLinkNest RX3 25 yX2_become "DayKnown") := by decide +kernel
end CW
