section CW
set_option maxRecDepth 100000 in
theorem wc_X5_init : Cond.code yX5_init cX5_init 2 none ∈ WALL := by
  first
  | exact wt1 (sk16 (List.Mem.tail _ (List.Mem.tail _ (List.Mem.tail _ (List.Mem.head _))))) rfl
  | exact wall 116 (by decide +kernel) rfl
set_option maxRecDepth 100000 in
theorem wc_objectInit : Cond.code Lib.objectInit ⟨#[0xb1]⟩ 1 none ∈ WALL := wall 119 (by decide +kernel) rfl
set_option maxRecDepth 100000 in
theorem wc_X3_init : Cond.code yX3_init cX3_init 1 none ∈ WALL := by
  first
  | exact wt1 (sk16 (List.Mem.tail _ (List.Mem.tail _ (List.Mem.tail _ (List.Mem.tail _ (List.Mem.tail _ (List.Mem.tail _ (List.Mem.tail _ (List.Mem.tail _ (List.Mem.tail _ (List.Mem.tail _ (List.Mem.tail _ (List.Mem.head _))))))))))))) rfl
  | exact wall 124 (by decide +kernel) rfl
set_option maxRecDepth 100000 in
theorem wc_X2_init : Cond.code yX2_init cX2_init 1 none ∈ WALL := by
  first
  | exact wt1 (sk16 (sk16 (List.Mem.tail _ (List.Mem.head _)))) rfl
  | exact wall 130 (by decide +kernel) rfl
set_option maxRecDepth 100000 in
theorem wc_X4_init : Cond.code yX4_init cX4_init 1 none ∈ WALL := by
  first
  | exact wt1 (sk16 (sk16 (sk16 (sk16 (sk16 (sk16 (List.Mem.tail _ (List.Mem.tail _ (List.Mem.head _))))))))) rfl
  | exact wall 195 (by decide +kernel) rfl
set_option maxRecDepth 100000 in
theorem wc_X1_init : Cond.code yX1_init cX1_init 3 none ∈ WALL := by
  first
  | exact wt1 (sk16 (sk16 (sk16 (sk16 (sk16 (sk16 (sk16 (sk16 (List.Mem.tail _ (List.Mem.tail _ (List.Mem.tail _ (List.Mem.tail _ (List.Mem.tail _ (List.Mem.tail _ (List.Mem.head _))))))))))))))) rfl
  | exact wall 231 (by decide +kernel) rfl
set_option maxRecDepth 100000 in
theorem wc_X0_init : Cond.code yX0_init cX0_init 1 none ∈ WALL := by
  first
  | exact wt1 (sk16 (sk16 (sk16 (sk16 (sk16 (sk16 (sk16 (sk16 (sk16 (sk16 (sk16 (List.Mem.tail _ (List.Mem.tail _ (List.Mem.tail _ (List.Mem.tail _ (List.Mem.tail _ (List.Mem.tail _ (List.Mem.tail _ (List.Mem.tail _ (List.Mem.tail _ (List.Mem.tail _ (List.Mem.tail _ (List.Mem.head _))))))))))))))))))))))) rfl
  | exact wall 284 (by decide +kernel) rfl
set_option maxRecDepth 100000 in
theorem wc_X5_feed : Cond.code yX5_feed cX5_feed 2 (some .int) ∈ WALL := by
  first
  | exact wt1 (sk16 (sk16 (sk16 (sk16 (sk16 (sk16 (sk16 (sk16 (sk16 (sk16 (sk16 (sk16 (sk16 (sk16 (List.Mem.tail _ (List.Mem.tail _ (List.Mem.tail _ (List.Mem.tail _ (List.Mem.tail _ (List.Mem.tail _ (List.Mem.tail _ (List.Mem.tail _ (List.Mem.tail _ (List.Mem.tail _ (List.Mem.tail _ (List.Mem.tail _ (List.Mem.tail _ (List.Mem.tail _ (List.Mem.head _))))))))))))))))))))))))))))) rfl
  | exact wall 335 (by decide +kernel) rfl
set_option maxRecDepth 100000 in
theorem wc_X5_town : Cond.code yX5_town cX5_town 3 (some .int) ∈ WALL := by
  first
  | exact wt2 (List.Mem.tail _ (List.Mem.tail _ (List.Mem.head _))) rfl
  | exact wall 339 (by decide +kernel) rfl
set_option maxRecDepth 100000 in
theorem wc_X4_read : Cond.code yX4_read cX4_read 4 (some .int) ∈ WALL := by
  first
  | exact wt2 (List.Mem.tail _ (List.Mem.tail _ (List.Mem.tail _ (List.Mem.tail _ (List.Mem.tail _ (List.Mem.tail _ (List.Mem.head _))))))) rfl
  | exact wall 343 (by decide +kernel) rfl
set_option maxRecDepth 100000 in
theorem wc_J9_min_7cf53 : Cond.code yJ9_min_7cf53 cJ9_min_7cf53 2 (some .int) ∈ WALL := by
  first
  | exact wt2 (List.Mem.tail _ (List.Mem.tail _ (List.Mem.tail _ (List.Mem.tail _ (List.Mem.tail _ (List.Mem.tail _ (List.Mem.tail _ (List.Mem.tail _ (List.Mem.tail _ (List.Mem.head _)))))))))) rfl
  | exact wall 346 (by decide +kernel) rfl
set_option maxRecDepth 100000 in
theorem wc_J9_max_7cf53 : Cond.code yJ9_max_7cf53 cJ9_max_7cf53 2 (some .int) ∈ WALL := by
  first
  | exact wt2 (List.Mem.tail _ (List.Mem.tail _ (List.Mem.tail _ (List.Mem.tail _ (List.Mem.tail _ (List.Mem.tail _ (List.Mem.tail _ (List.Mem.tail _ (List.Mem.tail _ (List.Mem.tail _ (List.Mem.tail _ (List.Mem.tail _ (List.Mem.head _))))))))))))) rfl
  | exact wall 349 (by decide +kernel) rfl
set_option maxRecDepth 100000 in
theorem wc_X4_readClause : Cond.code yX4_readClause cX4_readClause 4 (some .boolean) ∈ WALL := by
  first
  | exact wt2 (sk16 (List.Mem.tail _ (List.Mem.tail _ (List.Mem.tail _ (List.Mem.head _))))) rfl
  | exact wall 356 (by decide +kernel) rfl
set_option maxRecDepth 100000 in
theorem wc_X4_sign : Cond.code yX4_sign cX4_sign 1 (some .int) ∈ WALL := by
  first
  | exact wt2 (sk16 (List.Mem.tail _ (List.Mem.tail _ (List.Mem.tail _ (List.Mem.tail _ (List.Mem.tail _ (List.Mem.tail _ (List.Mem.tail _ (List.Mem.head _))))))))) rfl
  | exact wall 360 (by decide +kernel) rfl
set_option maxRecDepth 100000 in
theorem wc_X4_takeWord : Cond.code yX4_takeWord cX4_takeWord 3 (some .boolean) ∈ WALL := by
  first
  | exact wt2 (sk16 (List.Mem.tail _ (List.Mem.tail _ (List.Mem.tail _ (List.Mem.tail _ (List.Mem.tail _ (List.Mem.tail _ (List.Mem.tail _ (List.Mem.tail _ (List.Mem.tail _ (List.Mem.tail _ (List.Mem.tail _ (List.Mem.tail _ (List.Mem.tail _ (List.Mem.tail _ (List.Mem.head _)))))))))))))))) rfl
  | exact wall 367 (by decide +kernel) rfl
set_option maxRecDepth 100000 in
theorem wc_J0_length_8abf5 : Cond.code yJ0_length_8abf5 cJ0_length_8abf5 1 (some .int) ∈ WALL := by
  first
  | exact wt2 (sk16 (sk16 (List.Mem.tail _ (List.Mem.tail _ (List.Mem.head _))))) rfl
  | exact wall 371 (by decide +kernel) rfl
set_option maxRecDepth 100000 in
theorem wc_J0_coder_7d493 : Cond.code yJ0_coder_7d493 cJ0_coder_7d493 1 (some .byte) ∈ WALL := by
  first
  | exact wt2 (sk16 (sk16 (List.Mem.tail _ (List.Mem.tail _ (List.Mem.tail _ (List.Mem.tail _ (List.Mem.tail _ (List.Mem.tail _ (List.Mem.head _))))))))) rfl
  | exact wall 375 (by decide +kernel) rfl
set_option maxRecDepth 100000 in
theorem wc_J0_charAt_5068e : Cond.code yJ0_charAt_5068e cJ0_charAt_5068e 2 (some .char) ∈ WALL := by
  first
  | exact wt2 (sk16 (sk16 (List.Mem.tail _ (List.Mem.tail _ (List.Mem.tail _ (List.Mem.tail _ (List.Mem.tail _ (List.Mem.tail _ (List.Mem.tail _ (List.Mem.tail _ (List.Mem.tail _ (List.Mem.tail _ (List.Mem.tail _ (List.Mem.tail _ (List.Mem.head _))))))))))))))) rfl
  | exact wall 381 (by decide +kernel) rfl
set_option maxRecDepth 100000 in
theorem wc_J0_isLatin1_aae02 : Cond.code yJ0_isLatin1_aae02 cJ0_isLatin1_aae02 1 (some .boolean) ∈ WALL := by
  first
  | exact wt2 (sk16 (sk16 (sk16 (List.Mem.head _)))) rfl
  | exact wall 385 (by decide +kernel) rfl
set_option maxRecDepth 100000 in
theorem wc_J1_charAt_3b067 : Cond.code yJ1_charAt_3b067 cJ1_charAt_3b067 2 (some .char) ∈ WALL := by
  first
  | exact wt2 (sk16 (sk16 (sk16 (List.Mem.tail _ (List.Mem.tail _ (List.Mem.tail _ (List.Mem.head _))))))) rfl
  | exact wall 388 (by decide +kernel) rfl
set_option maxRecDepth 100000 in
theorem wc_J0_checkIndex_df160 : Cond.code yJ0_checkIndex_df160 cJ0_checkIndex_df160 2 none ∈ WALL := by
  first
  | exact wt2 (sk16 (sk16 (sk16 (List.Mem.tail _ (List.Mem.tail _ (List.Mem.tail _ (List.Mem.tail _ (List.Mem.tail _ (List.Mem.tail _ (List.Mem.head _)))))))))) rfl
  | exact wall 391 (by decide +kernel) rfl
set_option maxRecDepth 100000 in
theorem wc_J3_checkIndex_8e157 : Cond.code yJ3_checkIndex_8e157 cJ3_checkIndex_8e157 3 (some .int) ∈ WALL := by
  first
  | exact wt2 (sk16 (sk16 (sk16 (List.Mem.tail _ (List.Mem.tail _ (List.Mem.tail _ (List.Mem.tail _ (List.Mem.tail _ (List.Mem.tail _ (List.Mem.tail _ (List.Mem.tail _ (List.Mem.tail _ (List.Mem.tail _ (List.Mem.tail _ (List.Mem.head _))))))))))))))) rfl
  | exact wall 396 (by decide +kernel) rfl
set_option maxRecDepth 100000 in
theorem wc_J2_charAt_3b067 : Cond.code yJ2_charAt_3b067 cJ2_charAt_3b067 2 (some .char) ∈ WALL := by
  first
  | exact wt2 (sk16 (sk16 (sk16 (List.Mem.tail _ (List.Mem.tail _ (List.Mem.tail _ (List.Mem.tail _ (List.Mem.tail _ (List.Mem.tail _ (List.Mem.tail _ (List.Mem.tail _ (List.Mem.tail _ (List.Mem.tail _ (List.Mem.tail _ (List.Mem.tail _ (List.Mem.tail _ (List.Mem.tail _ (List.Mem.head _)))))))))))))))))) rfl
  | exact wall 399 (by decide +kernel) rfl
set_option maxRecDepth 100000 in
theorem wc_J2_checkIndex_2214a : Cond.code yJ2_checkIndex_2214a cJ2_checkIndex_2214a 2 none ∈ WALL := by
  first
  | exact wt2 (sk16 (sk16 (sk16 (sk16 (List.Mem.tail _ (List.Mem.head _)))))) rfl
  | exact wall 402 (by decide +kernel) rfl
set_option maxRecDepth 100000 in
theorem wc_J2_length_9d52b : Cond.code yJ2_length_9d52b cJ2_length_9d52b 1 (some .int) ∈ WALL := by
  first
  | exact wt2 (sk16 (sk16 (sk16 (sk16 (List.Mem.tail _ (List.Mem.tail _ (List.Mem.tail _ (List.Mem.tail _ (List.Mem.head _))))))))) rfl
  | exact wall 405 (by decide +kernel) rfl
set_option maxRecDepth 100000 in
theorem wc_J2_getChar_3b067 : Cond.code yJ2_getChar_3b067 cJ2_getChar_3b067 2 (some .char) ∈ WALL := by
  first
  | exact wt2 (sk16 (sk16 (sk16 (sk16 (List.Mem.tail _ (List.Mem.tail _ (List.Mem.tail _ (List.Mem.tail _ (List.Mem.tail _ (List.Mem.tail _ (List.Mem.tail _ (List.Mem.tail _ (List.Mem.head _))))))))))))) rfl
  | exact wall 409 (by decide +kernel) rfl
set_option maxRecDepth 100000 in
theorem wc_X4_take : Cond.code yX4_take cX4_take 2 (some .boolean) ∈ WALL := by
  first
  | exact wt2 (sk16 (sk16 (sk16 (sk16 (sk16 (List.Mem.tail _ (List.Mem.tail _ (List.Mem.head _)))))))) rfl
  | exact wall 419 (by decide +kernel) rfl
set_option maxRecDepth 100000 in
theorem wc_X4_readNumber : Cond.code yX4_readNumber cX4_readNumber 3 (some .int) ∈ WALL := by
  first
  | exact wt2 (sk16 (sk16 (sk16 (sk16 (sk16 (List.Mem.tail _ (List.Mem.tail _ (List.Mem.tail _ (List.Mem.tail _ (List.Mem.tail _ (List.Mem.tail _ (List.Mem.head _)))))))))))) rfl
  | exact wall 423 (by decide +kernel) rfl
set_option maxRecDepth 100000 in
theorem wc_X4_takeOneOf : Cond.code yX4_takeOneOf cX4_takeOneOf 4 (some .int) ∈ WALL := by
  first
  | exact wt2 (sk16 (sk16 (sk16 (sk16 (sk16 (List.Mem.tail _ (List.Mem.tail _ (List.Mem.tail _ (List.Mem.tail _ (List.Mem.tail _ (List.Mem.tail _ (List.Mem.tail _ (List.Mem.tail _ (List.Mem.tail _ (List.Mem.tail _ (List.Mem.tail _ (List.Mem.head _))))))))))))))))) rfl
  | exact wall 428 (by decide +kernel) rfl
set_option maxRecDepth 100000 in
theorem wc_X4_readAny : Cond.code yX4_readAny cX4_readAny 3 (some .boolean) ∈ WALL := by
  first
  | exact wt2 (sk16 (sk16 (sk16 (sk16 (sk16 (List.Mem.tail _ (List.Mem.tail _ (List.Mem.tail _ (List.Mem.tail _ (List.Mem.tail _ (List.Mem.tail _ (List.Mem.tail _ (List.Mem.tail _ (List.Mem.tail _ (List.Mem.tail _ (List.Mem.tail _ (List.Mem.tail _ (List.Mem.tail _ (List.Mem.tail _ (List.Mem.tail _ (List.Mem.head _))))))))))))))))))))) rfl
  | exact wall 432 (by decide +kernel) rfl
set_option maxRecDepth 100000 in
theorem wc_X4_readBoth : Cond.code yX4_readBoth cX4_readBoth 3 (some .boolean) ∈ WALL := by
  first
  | exact wt2 (sk16 (sk16 (sk16 (sk16 (sk16 (sk16 (List.Mem.tail _ (List.Mem.tail _ (List.Mem.tail _ (List.Mem.head _)))))))))) rfl
  | exact wall 436 (by decide +kernel) rfl
set_option maxRecDepth 100000 in
theorem wc_X4_readFactor : Cond.code yX4_readFactor cX4_readFactor 2 (some .boolean) ∈ WALL := by
  first
  | exact wt2 (sk16 (sk16 (sk16 (sk16 (sk16 (sk16 (List.Mem.tail _ (List.Mem.tail _ (List.Mem.tail _ (List.Mem.tail _ (List.Mem.tail _ (List.Mem.tail _ (List.Mem.tail _ (List.Mem.head _)))))))))))))) rfl
  | exact wall 440 (by decide +kernel) rfl
set_option maxRecDepth 100000 in
theorem wc_X4_readTest : Cond.code yX4_readTest cX4_readTest 4 (some .boolean) ∈ WALL := by
  first
  | exact wt2 (sk16 (sk16 (sk16 (sk16 (sk16 (sk16 (List.Mem.tail _ (List.Mem.tail _ (List.Mem.tail _ (List.Mem.tail _ (List.Mem.tail _ (List.Mem.tail _ (List.Mem.tail _ (List.Mem.tail _ (List.Mem.tail _ (List.Mem.tail _ (List.Mem.tail _ (List.Mem.head _)))))))))))))))))) rfl
  | exact wall 444 (by decide +kernel) rfl
set_option maxRecDepth 100000 in
theorem wc_X4_keepCode : Cond.code yX4_keepCode cX4_keepCode 2 none ∈ WALL := by
  first
  | exact wt2 (sk16 (sk16 (sk16 (sk16 (sk16 (sk16 (sk16 (List.Mem.tail _ (List.Mem.head _))))))))) rfl
  | exact wall 450 (by decide +kernel) rfl
set_option maxRecDepth 100000 in
theorem wc_X4_keepClause : Cond.code yX4_keepClause cX4_keepClause 2 none ∈ WALL := by
  first
  | exact wt2 (sk16 (sk16 (sk16 (sk16 (sk16 (sk16 (sk16 (List.Mem.tail _ (List.Mem.tail _ (List.Mem.tail _ (List.Mem.tail _ (List.Mem.tail _ (List.Mem.head _))))))))))))) rfl
  | exact wall 454 (by decide +kernel) rfl
set_option maxRecDepth 100000 in
theorem wc_X5_forgetTowns : Cond.code yX5_forgetTowns cX5_forgetTowns 1 none ∈ WALL := by
  first
  | exact wt2 (sk16 (sk16 (sk16 (sk16 (sk16 (sk16 (sk16 (List.Mem.tail _ (List.Mem.tail _ (List.Mem.tail _ (List.Mem.tail _ (List.Mem.tail _ (List.Mem.tail _ (List.Mem.tail _ (List.Mem.tail _ (List.Mem.tail _ (List.Mem.head _))))))))))))))))) rfl
  | exact wall 458 (by decide +kernel) rfl
set_option maxRecDepth 100000 in
theorem wc_X1_forgetTown : Cond.code yX1_forgetTown cX1_forgetTown 2 none ∈ WALL := by
  first
  | exact wt2 (sk16 (sk16 (sk16 (sk16 (sk16 (sk16 (sk16 (List.Mem.tail _ (List.Mem.tail _ (List.Mem.tail _ (List.Mem.tail _ (List.Mem.tail _ (List.Mem.tail _ (List.Mem.tail _ (List.Mem.tail _ (List.Mem.tail _ (List.Mem.tail _ (List.Mem.tail _ (List.Mem.tail _ (List.Mem.tail _ (List.Mem.head _))))))))))))))))))))) rfl
  | exact wall 462 (by decide +kernel) rfl
set_option maxRecDepth 100000 in
theorem wc_X1_forget : Cond.code yX1_forget cX1_forget 1 none ∈ WALL := by
  first
  | exact wt2 (sk16 (sk16 (sk16 (sk16 (sk16 (sk16 (sk16 (sk16 (List.Mem.tail _ (List.Mem.head _)))))))))) rfl
  | exact wall 466 (by decide +kernel) rfl
set_option maxRecDepth 100000 in
theorem wc_X5_told : Cond.code yX5_told cX5_told 2 (some .int) ∈ WALL := by
  first
  | exact wt2 (sk16 (sk16 (sk16 (sk16 (sk16 (sk16 (sk16 (sk16 (List.Mem.tail _ (List.Mem.tail _ (List.Mem.tail _ (List.Mem.tail _ (List.Mem.tail _ (List.Mem.tail _ (List.Mem.head _))))))))))))))) rfl
  | exact wall 471 (by decide +kernel) rfl
set_option maxRecDepth 100000 in
theorem wc_X5_newestTown : Cond.code yX5_newestTown cX5_newestTown 2 (some (.object "DayKnown$Town")) ∈ WALL := by
  first
  | exact wt2 (sk16 (sk16 (sk16 (sk16 (sk16 (sk16 (sk16 (sk16 (List.Mem.tail _ (List.Mem.tail _ (List.Mem.tail _ (List.Mem.tail _ (List.Mem.tail _ (List.Mem.tail _ (List.Mem.tail _ (List.Mem.tail _ (List.Mem.tail _ (List.Mem.tail _ (List.Mem.head _))))))))))))))))))) rfl
  | exact wall 475 (by decide +kernel) rfl
set_option maxRecDepth 100000 in
theorem wc_X5_person : Cond.code yX5_person cX5_person 4 (some .int) ∈ WALL := by
  first
  | exact wt2 (sk16 (sk16 (sk16 (sk16 (sk16 (sk16 (sk16 (sk16 (List.Mem.tail _ (List.Mem.tail _ (List.Mem.tail _ (List.Mem.tail _ (List.Mem.tail _ (List.Mem.tail _ (List.Mem.tail _ (List.Mem.tail _ (List.Mem.tail _ (List.Mem.tail _ (List.Mem.tail _ (List.Mem.tail _ (List.Mem.tail _ (List.Mem.tail _ (List.Mem.head _))))))))))))))))))))))) rfl
  | exact wall 479 (by decide +kernel) rfl
set_option maxRecDepth 100000 in
theorem wc_X2_join : Cond.code yX2_join cX2_join 3 (some .int) ∈ WALL := by
  first
  | exact wt2 (sk16 (sk16 (sk16 (sk16 (sk16 (sk16 (sk16 (sk16 (sk16 (List.Mem.tail _ (List.Mem.tail _ (List.Mem.head _)))))))))))) rfl
  | exact wall 483 (by decide +kernel) rfl
set_option maxRecDepth 100000 in
theorem wc_X2_putNote : Cond.code yX2_putNote cX2_putNote 3 none ∈ WALL := by
  first
  | exact wt2 (sk16 (sk16 (sk16 (sk16 (sk16 (sk16 (sk16 (sk16 (sk16 (List.Mem.tail _ (List.Mem.tail _ (List.Mem.tail _ (List.Mem.tail _ (List.Mem.tail _ (List.Mem.tail _ (List.Mem.head _)))))))))))))))) rfl
  | exact wall 487 (by decide +kernel) rfl
set_option maxRecDepth 100000 in
theorem wc_X5_of : Cond.code yX5_of cX5_of 4 (some .int) ∈ WALL := by
  first
  | exact wt2 (sk16 (sk16 (sk16 (sk16 (sk16 (sk16 (sk16 (sk16 (sk16 (List.Mem.tail _ (List.Mem.tail _ (List.Mem.tail _ (List.Mem.tail _ (List.Mem.tail _ (List.Mem.tail _ (List.Mem.tail _ (List.Mem.tail _ (List.Mem.tail _ (List.Mem.tail _ (List.Mem.tail _ (List.Mem.head _))))))))))))))))))))) rfl
  | exact wall 492 (by decide +kernel) rfl
set_option maxRecDepth 100000 in
theorem wc_X2_has : Cond.code yX2_has cX2_has 2 (some .boolean) ∈ WALL := by
  first
  | exact wt2 (sk16 (sk16 (sk16 (sk16 (sk16 (sk16 (sk16 (sk16 (sk16 (List.Mem.tail _ (List.Mem.tail _ (List.Mem.tail _ (List.Mem.tail _ (List.Mem.tail _ (List.Mem.tail _ (List.Mem.tail _ (List.Mem.tail _ (List.Mem.tail _ (List.Mem.tail _ (List.Mem.tail _ (List.Mem.tail _ (List.Mem.tail _ (List.Mem.tail _ (List.Mem.tail _ (List.Mem.head _))))))))))))))))))))))))) rfl
  | exact wall 496 (by decide +kernel) rfl
set_option maxRecDepth 100000 in
theorem wc_X2_noteOf : Cond.code yX2_noteOf cX2_noteOf 2 (some .int) ∈ WALL := by
  first
  | exact wt2 (sk16 (sk16 (sk16 (sk16 (sk16 (sk16 (sk16 (sk16 (sk16 (sk16 (List.Mem.tail _ (List.Mem.tail _ (List.Mem.tail _ (List.Mem.head _)))))))))))))) rfl
  | exact wall 500 (by decide +kernel) rfl
set_option maxRecDepth 100000 in
theorem wc_X5_row : Cond.code yX5_row cX5_row 5 (some .int) ∈ WALL := by
  first
  | exact wt2 (sk16 (sk16 (sk16 (sk16 (sk16 (sk16 (sk16 (sk16 (sk16 (sk16 (List.Mem.tail _ (List.Mem.tail _ (List.Mem.tail _ (List.Mem.tail _ (List.Mem.tail _ (List.Mem.tail _ (List.Mem.tail _ (List.Mem.head _)))))))))))))))))) rfl
  | exact wall 504 (by decide +kernel) rfl
set_option maxRecDepth 100000 in
theorem wc_X5_note : Cond.code yX5_note cX5_note 5 (some .int) ∈ WALL := by
  first
  | exact wt2 (sk16 (sk16 (sk16 (sk16 (sk16 (sk16 (sk16 (sk16 (sk16 (sk16 (List.Mem.tail _ (List.Mem.tail _ (List.Mem.tail _ (List.Mem.tail _ (List.Mem.tail _ (List.Mem.tail _ (List.Mem.tail _ (List.Mem.tail _ (List.Mem.tail _ (List.Mem.tail _ (List.Mem.tail _ (List.Mem.head _)))))))))))))))))))))) rfl
  | exact wall 508 (by decide +kernel) rfl
set_option maxRecDepth 100000 in
theorem wc_X5_yesterday : Cond.code yX5_yesterday cX5_yesterday 3 (some .int) ∈ WALL := by
  first
  | exact wt2 (sk16 (sk16 (sk16 (sk16 (sk16 (sk16 (sk16 (sk16 (sk16 (sk16 (sk16 (List.Mem.head _)))))))))))) rfl
  | exact wall 513 (by decide +kernel) rfl
set_option maxRecDepth 100000 in
theorem wc_X2_isDay : Cond.code yX2_isDay cX2_isDay 2 (some .boolean) ∈ WALL := by
  first
  | exact wt2 (sk16 (sk16 (sk16 (sk16 (sk16 (sk16 (sk16 (sk16 (sk16 (sk16 (sk16 (List.Mem.tail _ (List.Mem.tail _ (List.Mem.tail _ (List.Mem.tail _ (List.Mem.head _)))))))))))))))) rfl
  | exact wall 517 (by decide +kernel) rfl
set_option maxRecDepth 100000 in
theorem wc_X2_allDays : Cond.code yX2_allDays cX2_allDays 1 (some .int) ∈ WALL := by
  first
  | exact wt2 (sk16 (sk16 (sk16 (sk16 (sk16 (sk16 (sk16 (sk16 (sk16 (sk16 (sk16 (List.Mem.tail _ (List.Mem.tail _ (List.Mem.tail _ (List.Mem.tail _ (List.Mem.tail _ (List.Mem.tail _ (List.Mem.tail _ (List.Mem.tail _ (List.Mem.head _)))))))))))))))))))) rfl
  | exact wall 521 (by decide +kernel) rfl
set_option maxRecDepth 100000 in
theorem wc_X5_by : Cond.code yX5_by cX5_by 6 (some .int) ∈ WALL := by
  first
  | exact wt2 (sk16 (sk16 (sk16 (sk16 (sk16 (sk16 (sk16 (sk16 (sk16 (sk16 (sk16 (List.Mem.tail _ (List.Mem.tail _ (List.Mem.tail _ (List.Mem.tail _ (List.Mem.tail _ (List.Mem.tail _ (List.Mem.tail _ (List.Mem.tail _ (List.Mem.tail _ (List.Mem.tail _ (List.Mem.tail _ (List.Mem.tail _ (List.Mem.head _)))))))))))))))))))))))) rfl
  | exact wall 525 (by decide +kernel) rfl
set_option maxRecDepth 100000 in
theorem wc_X5_isHour : Cond.code yX5_isHour cX5_isHour 1 (some .boolean) ∈ WALL := by
  first
  | exact wt2 (sk16 (sk16 (sk16 (sk16 (sk16 (sk16 (sk16 (sk16 (sk16 (sk16 (sk16 (List.Mem.tail _ (List.Mem.tail _ (List.Mem.tail _ (List.Mem.tail _ (List.Mem.tail _ (List.Mem.tail _ (List.Mem.tail _ (List.Mem.tail _ (List.Mem.tail _ (List.Mem.tail _ (List.Mem.tail _ (List.Mem.tail _ (List.Mem.tail _ (List.Mem.tail _ (List.Mem.tail _ (List.Mem.head _))))))))))))))))))))))))))) rfl
  | exact wall 528 (by decide +kernel) rfl
set_option maxRecDepth 100000 in
theorem wc_X1_prepare : Cond.code yX1_prepare cX1_prepare 8 none ∈ WALL := by
  first
  | exact wt2 (sk16 (sk16 (sk16 (sk16 (sk16 (sk16 (sk16 (sk16 (sk16 (sk16 (sk16 (sk16 (List.Mem.tail _ (List.Mem.tail _ (List.Mem.tail _ (List.Mem.head _)))))))))))))))) rfl
  | exact wall 532 (by decide +kernel) rfl
set_option maxRecDepth 100000 in
theorem wc_X1_fillWorths : Cond.code yX1_fillWorths cX1_fillWorths 4 none ∈ WALL := by
  first
  | exact wt2 (sk16 (sk16 (sk16 (sk16 (sk16 (sk16 (sk16 (sk16 (sk16 (sk16 (sk16 (sk16 (List.Mem.tail _ (List.Mem.tail _ (List.Mem.tail _ (List.Mem.tail _ (List.Mem.tail _ (List.Mem.tail _ (List.Mem.tail _ (List.Mem.head _)))))))))))))))))))) rfl
  | exact wall 536 (by decide +kernel) rfl
set_option maxRecDepth 100000 in
theorem wc_X4_worth : Cond.code yX4_worth cX4_worth 5 (some .int) ∈ WALL := by
  first
  | exact wt2 (sk16 (sk16 (sk16 (sk16 (sk16 (sk16 (sk16 (sk16 (sk16 (sk16 (sk16 (sk16 (List.Mem.tail _ (List.Mem.tail _ (List.Mem.tail _ (List.Mem.tail _ (List.Mem.tail _ (List.Mem.tail _ (List.Mem.tail _ (List.Mem.tail _ (List.Mem.tail _ (List.Mem.tail _ (List.Mem.tail _ (List.Mem.head _)))))))))))))))))))))))) rfl
  | exact wall 540 (by decide +kernel) rfl
set_option maxRecDepth 100000 in
theorem wc_X4_holds : Cond.code yX4_holds cX4_holds 6 (some .boolean) ∈ WALL := by
  first
  | exact wt2 (sk16 (sk16 (sk16 (sk16 (sk16 (sk16 (sk16 (sk16 (sk16 (sk16 (sk16 (sk16 (List.Mem.tail _ (List.Mem.tail _ (List.Mem.tail _ (List.Mem.tail _ (List.Mem.tail _ (List.Mem.tail _ (List.Mem.tail _ (List.Mem.tail _ (List.Mem.tail _ (List.Mem.tail _ (List.Mem.tail _ (List.Mem.tail _ (List.Mem.tail _ (List.Mem.tail _ (List.Mem.tail _ (List.Mem.head _)))))))))))))))))))))))))))) rfl
  | exact wall 544 (by decide +kernel) rfl
set_option maxRecDepth 100000 in
theorem wc_X4_passes : Cond.code yX4_passes cX4_passes 4 (some .boolean) ∈ WALL := by
  first
  | exact wt2 (sk16 (sk16 (sk16 (sk16 (sk16 (sk16 (sk16 (sk16 (sk16 (sk16 (sk16 (sk16 (sk16 (List.Mem.tail _ (List.Mem.tail _ (List.Mem.head _)))))))))))))))) rfl
  | exact wall 547 (by decide +kernel) rfl
set_option maxRecDepth 100000 in
theorem wc_X1_sightOf : Cond.code yX1_sightOf cX1_sightOf 6 (some .int) ∈ WALL := by
  first
  | exact wt2 (sk16 (sk16 (sk16 (sk16 (sk16 (sk16 (sk16 (sk16 (sk16 (sk16 (sk16 (sk16 (sk16 (List.Mem.tail _ (List.Mem.tail _ (List.Mem.tail _ (List.Mem.tail _ (List.Mem.tail _ (List.Mem.tail _ (List.Mem.head _)))))))))))))))))))) rfl
  | exact wall 551 (by decide +kernel) rfl
set_option maxRecDepth 100000 in
theorem wc_X5_ownRow : Cond.code yX5_ownRow cX5_ownRow 2 (some .int) ∈ WALL := by
  first
  | exact wt2 (sk16 (sk16 (sk16 (sk16 (sk16 (sk16 (sk16 (sk16 (sk16 (sk16 (sk16 (sk16 (sk16 (List.Mem.tail _ (List.Mem.tail _ (List.Mem.tail _ (List.Mem.tail _ (List.Mem.tail _ (List.Mem.tail _ (List.Mem.tail _ (List.Mem.tail _ (List.Mem.tail _ (List.Mem.head _))))))))))))))))))))))) rfl
  | exact wall 554 (by decide +kernel) rfl
set_option maxRecDepth 100000 in
theorem wc_J6_bitCount_0f7a4 : Cond.code yJ6_bitCount_0f7a4 cJ6_bitCount_0f7a4 1 (some .int) ∈ WALL := by
  first
  | exact wt2 (sk16 (sk16 (sk16 (sk16 (sk16 (sk16 (sk16 (sk16 (sk16 (sk16 (sk16 (sk16 (sk16 (List.Mem.tail _ (List.Mem.tail _ (List.Mem.tail _ (List.Mem.tail _ (List.Mem.tail _ (List.Mem.tail _ (List.Mem.tail _ (List.Mem.tail _ (List.Mem.tail _ (List.Mem.tail _ (List.Mem.tail _ (List.Mem.tail _ (List.Mem.head _)))))))))))))))))))))))))) rfl
  | exact wall 557 (by decide +kernel) rfl
set_option maxRecDepth 100000 in
theorem wc_X1_rowAt : Cond.code yX1_rowAt cX1_rowAt 7 (some .int) ∈ WALL := by
  first
  | exact wt2 (sk16 (sk16 (sk16 (sk16 (sk16 (sk16 (sk16 (sk16 (sk16 (sk16 (sk16 (sk16 (sk16 (sk16 (List.Mem.tail _ (List.Mem.tail _ (List.Mem.tail _ (List.Mem.head _)))))))))))))))))) rfl
  | exact wall 564 (by decide +kernel) rfl
set_option maxRecDepth 100000 in
theorem wc_X1_bestRow : Cond.code yX1_bestRow cX1_bestRow 8 (some .int) ∈ WALL := by
  first
  | exact wt2 (sk16 (sk16 (sk16 (sk16 (sk16 (sk16 (sk16 (sk16 (sk16 (sk16 (sk16 (sk16 (sk16 (sk16 (List.Mem.tail _ (List.Mem.tail _ (List.Mem.tail _ (List.Mem.tail _ (List.Mem.tail _ (List.Mem.tail _ (List.Mem.tail _ (List.Mem.head _)))))))))))))))))))))) rfl
  | exact wall 568 (by decide +kernel) rfl
set_option maxRecDepth 100000 in
theorem wc_X1_gain : Cond.code yX1_gain cX1_gain 5 (some .int) ∈ WALL := by
  first
  | exact wt2 (sk16 (sk16 (sk16 (sk16 (sk16 (sk16 (sk16 (sk16 (sk16 (sk16 (sk16 (sk16 (sk16 (sk16 (List.Mem.tail _ (List.Mem.tail _ (List.Mem.tail _ (List.Mem.tail _ (List.Mem.tail _ (List.Mem.tail _ (List.Mem.tail _ (List.Mem.tail _ (List.Mem.tail _ (List.Mem.tail _ (List.Mem.tail _ (List.Mem.head _)))))))))))))))))))))))))) rfl
  | exact wall 572 (by decide +kernel) rfl
set_option maxRecDepth 100000 in
theorem wc_X5_bit : Cond.code yX5_bit cX5_bit 2 (some .int) ∈ WALL := by
  first
  | exact wt2 (sk16 (sk16 (sk16 (sk16 (sk16 (sk16 (sk16 (sk16 (sk16 (sk16 (sk16 (sk16 (sk16 (sk16 (List.Mem.tail _ (List.Mem.tail _ (List.Mem.tail _ (List.Mem.tail _ (List.Mem.tail _ (List.Mem.tail _ (List.Mem.tail _ (List.Mem.tail _ (List.Mem.tail _ (List.Mem.tail _ (List.Mem.tail _ (List.Mem.tail _ (List.Mem.tail _ (List.Mem.tail _ (List.Mem.head _))))))))))))))))))))))))))))) rfl
  | exact wall 575 (by decide +kernel) rfl
set_option maxRecDepth 100000 in
theorem wc_X1_worth : Cond.code yX1_worth cX1_worth 7 (some .int) ∈ WALL := by
  first
  | exact wt3 (List.Mem.tail _ (List.Mem.tail _ (List.Mem.head _))) rfl
  | exact wall 579 (by decide +kernel) rfl
set_option maxRecDepth 100000 in
theorem wc_X1_would : Cond.code yX1_would cX1_would 7 (some .boolean) ∈ WALL := by
  first
  | exact wt3 (List.Mem.tail _ (List.Mem.tail _ (List.Mem.tail _ (List.Mem.tail _ (List.Mem.tail _ (List.Mem.tail _ (List.Mem.head _))))))) rfl
  | exact wall 583 (by decide +kernel) rfl
set_option maxRecDepth 100000 in
theorem wc_X1_answerOf : Cond.code yX1_answerOf cX1_answerOf 4 (some .int) ∈ WALL := by
  first
  | exact wt3 (List.Mem.tail _ (List.Mem.tail _ (List.Mem.tail _ (List.Mem.tail _ (List.Mem.tail _ (List.Mem.tail _ (List.Mem.tail _ (List.Mem.tail _ (List.Mem.tail _ (List.Mem.tail _ (List.Mem.tail _ (List.Mem.tail _ (List.Mem.head _))))))))))))) rfl
  | exact wall 589 (by decide +kernel) rfl
set_option maxRecDepth 100000 in
theorem wc_X5_day : Cond.code yX5_day cX5_day 3 (some .int) ∈ WALL := by
  first
  | exact wt3 (sk16 (List.Mem.tail _ (List.Mem.tail _ (List.Mem.tail _ (List.Mem.head _))))) rfl
  | exact wall 596 (by decide +kernel) rfl
set_option maxRecDepth 100000 in
theorem wc_X1_firstOtherwise : Cond.code yX1_firstOtherwise cX1_firstOtherwise 5 (some .int) ∈ WALL := by
  first
  | exact wt3 (sk16 (List.Mem.tail _ (List.Mem.tail _ (List.Mem.tail _ (List.Mem.tail _ (List.Mem.tail _ (List.Mem.tail _ (List.Mem.tail _ (List.Mem.head _))))))))) rfl
  | exact wall 600 (by decide +kernel) rfl
set_option maxRecDepth 100000 in
theorem wc_X1_answer : Cond.code yX1_answer cX1_answer 4 (some .int) ∈ WALL := by
  first
  | exact wt3 (sk16 (List.Mem.tail _ (List.Mem.tail _ (List.Mem.tail _ (List.Mem.tail _ (List.Mem.tail _ (List.Mem.tail _ (List.Mem.tail _ (List.Mem.tail _ (List.Mem.tail _ (List.Mem.tail _ (List.Mem.tail _ (List.Mem.tail _ (List.Mem.head _)))))))))))))) rfl
  | exact wall 605 (by decide +kernel) rfl
set_option maxRecDepth 100000 in
theorem wc_X1_gainOfAll : Cond.code yX1_gainOfAll cX1_gainOfAll 4 (some .int) ∈ WALL := by
  first
  | exact wt3 (sk16 (sk16 (List.Mem.head _))) rfl
  | exact wall 609 (by decide +kernel) rfl
set_option maxRecDepth 100000 in
theorem wc_X5_all : Cond.code yX5_all cX5_all 2 (some .int) ∈ WALL := by
  first
  | exact wt3 (sk16 (sk16 (List.Mem.tail _ (List.Mem.tail _ (List.Mem.tail _ (List.Mem.tail _ (List.Mem.head _))))))) rfl
  | exact wall 613 (by decide +kernel) rfl
set_option maxRecDepth 100000 in
theorem wc_X5_searchNow : Cond.code yX5_searchNow cX5_searchNow 1 none ∈ WALL := by
  first
  | exact wt3 (sk16 (sk16 (List.Mem.tail _ (List.Mem.tail _ (List.Mem.tail _ (List.Mem.tail _ (List.Mem.tail _ (List.Mem.tail _ (List.Mem.tail _ (List.Mem.tail _ (List.Mem.head _))))))))))) rfl
  | exact wall 617 (by decide +kernel) rfl
set_option maxRecDepth 100000 in
theorem wc_X1_search : Cond.code yX1_search cX1_search 3 none ∈ WALL := by
  first
  | exact wt3 (sk16 (sk16 (List.Mem.tail _ (List.Mem.tail _ (List.Mem.tail _ (List.Mem.tail _ (List.Mem.tail _ (List.Mem.tail _ (List.Mem.tail _ (List.Mem.tail _ (List.Mem.tail _ (List.Mem.tail _ (List.Mem.tail _ (List.Mem.tail _ (List.Mem.head _))))))))))))))) rfl
  | exact wall 621 (by decide +kernel) rfl
set_option maxRecDepth 100000 in
theorem wc_X1_stands : Cond.code yX1_stands cX1_stands 2 (some .boolean) ∈ WALL := by
  first
  | exact wt3 (sk16 (sk16 (sk16 (List.Mem.tail _ (List.Mem.head _))))) rfl
  | exact wall 626 (by decide +kernel) rfl
set_option maxRecDepth 100000 in
theorem wc_X1_addStanding : Cond.code yX1_addStanding cX1_addStanding 3 none ∈ WALL := by
  first
  | exact wt3 (sk16 (sk16 (sk16 (List.Mem.tail _ (List.Mem.tail _ (List.Mem.tail _ (List.Mem.tail _ (List.Mem.tail _ (List.Mem.tail _ (List.Mem.head _)))))))))) rfl
  | exact wall 631 (by decide +kernel) rfl
set_option maxRecDepth 100000 in
theorem wc_X5_once : Cond.code yX5_once cX5_once 7 (some .int) ∈ WALL := by
  first
  | exact wt3 (sk16 (sk16 (sk16 (List.Mem.tail _ (List.Mem.tail _ (List.Mem.tail _ (List.Mem.tail _ (List.Mem.tail _ (List.Mem.tail _ (List.Mem.tail _ (List.Mem.tail _ (List.Mem.tail _ (List.Mem.tail _ (List.Mem.tail _ (List.Mem.head _))))))))))))))) rfl
  | exact wall 636 (by decide +kernel) rfl
set_option maxRecDepth 100000 in
theorem wc_X5_isPart : Cond.code yX5_isPart cX5_isPart 1 (some .boolean) ∈ WALL := by
  first
  | exact wt3 (sk16 (sk16 (sk16 (List.Mem.tail _ (List.Mem.tail _ (List.Mem.tail _ (List.Mem.tail _ (List.Mem.tail _ (List.Mem.tail _ (List.Mem.tail _ (List.Mem.tail _ (List.Mem.tail _ (List.Mem.tail _ (List.Mem.tail _ (List.Mem.tail _ (List.Mem.tail _ (List.Mem.tail _ (List.Mem.head _)))))))))))))))))) rfl
  | exact wall 639 (by decide +kernel) rfl
set_option maxRecDepth 100000 in
theorem wc_X5_again : Cond.code yX5_again cX5_again 5 (some .int) ∈ WALL := by
  first
  | exact wt3 (sk16 (sk16 (sk16 (sk16 (List.Mem.tail _ (List.Mem.tail _ (List.Mem.tail _ (List.Mem.head _)))))))) rfl
  | exact wall 644 (by decide +kernel) rfl
set_option maxRecDepth 100000 in
theorem wc_X5_placeOnPath : Cond.code yX5_placeOnPath cX5_placeOnPath 4 (some .int) ∈ WALL := by
  first
  | exact wt3 (sk16 (sk16 (sk16 (sk16 (List.Mem.tail _ (List.Mem.tail _ (List.Mem.tail _ (List.Mem.tail _ (List.Mem.tail _ (List.Mem.tail _ (List.Mem.tail _ (List.Mem.head _)))))))))))) rfl
  | exact wall 648 (by decide +kernel) rfl
set_option maxRecDepth 100000 in
theorem wc_X5_morning : Cond.code yX5_morning cX5_morning 2 (some .int) ∈ WALL := by
  first
  | exact wt3 (sk16 (sk16 (sk16 (sk16 (List.Mem.tail _ (List.Mem.tail _ (List.Mem.tail _ (List.Mem.tail _ (List.Mem.tail _ (List.Mem.tail _ (List.Mem.tail _ (List.Mem.tail _ (List.Mem.tail _ (List.Mem.tail _ (List.Mem.tail _ (List.Mem.head _)))))))))))))))) rfl
  | exact wall 652 (by decide +kernel) rfl
set_option maxRecDepth 100000 in
theorem wc_X1_comingDay : Cond.code yX1_comingDay cX1_comingDay 1 (some .int) ∈ WALL := by
  first
  | exact wt3 (sk16 (sk16 (sk16 (sk16 (List.Mem.tail _ (List.Mem.tail _ (List.Mem.tail _ (List.Mem.tail _ (List.Mem.tail _ (List.Mem.tail _ (List.Mem.tail _ (List.Mem.tail _ (List.Mem.tail _ (List.Mem.tail _ (List.Mem.tail _ (List.Mem.tail _ (List.Mem.tail _ (List.Mem.tail _ (List.Mem.tail _ (List.Mem.head _)))))))))))))))))))) rfl
  | exact wall 656 (by decide +kernel) rfl
set_option maxRecDepth 100000 in
theorem wc_X2_endMorning : Cond.code yX2_endMorning cX2_endMorning 4 none ∈ WALL := by
  first
  | exact wt3 (sk16 (sk16 (sk16 (sk16 (sk16 (List.Mem.tail _ (List.Mem.tail _ (List.Mem.tail _ (List.Mem.tail _ (List.Mem.head _)))))))))) rfl
  | exact wall 661 (by decide +kernel) rfl
set_option maxRecDepth 100000 in
theorem wc_X5_year : Cond.code yX5_year cX5_year 7 (some .int) ∈ WALL := by
  first
  | exact wt3 (sk16 (sk16 (sk16 (sk16 (sk16 (List.Mem.tail _ (List.Mem.tail _ (List.Mem.tail _ (List.Mem.tail _ (List.Mem.tail _ (List.Mem.tail _ (List.Mem.tail _ (List.Mem.tail _ (List.Mem.tail _ (List.Mem.tail _ (List.Mem.head _)))))))))))))))) rfl
  | exact wall 667 (by decide +kernel) rfl
set_option maxRecDepth 100000 in
theorem wc_X2_become : Cond.code yX2_become cX2_become 2 none ∈ WALL := by
  first
  | exact wt3 (sk16 (sk16 (sk16 (sk16 (sk16 (List.Mem.tail _ (List.Mem.tail _ (List.Mem.tail _ (List.Mem.tail _ (List.Mem.tail _ (List.Mem.tail _ (List.Mem.tail _ (List.Mem.tail _ (List.Mem.tail _ (List.Mem.tail _ (List.Mem.tail _ (List.Mem.tail _ (List.Mem.tail _ (List.Mem.tail _ (List.Mem.head _)))))))))))))))))))) rfl
  | exact wall 671 (by decide +kernel) rfl
set_option maxRecDepth 100000 in
theorem wc_X5_searchThen : Cond.code yX5_searchThen cX5_searchThen 1 none ∈ WALL := by
  first
  | exact wt3 (sk16 (sk16 (sk16 (sk16 (sk16 (sk16 (List.Mem.tail _ (List.Mem.tail _ (List.Mem.tail _ (List.Mem.head _)))))))))) rfl
  | exact wall 676 (by decide +kernel) rfl
set_option maxRecDepth 100000 in
theorem wc_X5_bet : Cond.code yX5_bet cX5_bet 6 (some .int) ∈ WALL := by
  first
  | exact wt3 (sk16 (sk16 (sk16 (sk16 (sk16 (sk16 (List.Mem.tail _ (List.Mem.tail _ (List.Mem.tail _ (List.Mem.tail _ (List.Mem.tail _ (List.Mem.tail _ (List.Mem.tail _ (List.Mem.head _)))))))))))))) rfl
  | exact wall 680 (by decide +kernel) rfl
set_option maxRecDepth 100000 in
theorem wc_X1_stoodWith : Cond.code yX1_stoodWith cX1_stoodWith 5 (some .int) ∈ WALL := by
  first
  | exact wt3 (sk16 (sk16 (sk16 (sk16 (sk16 (sk16 (List.Mem.tail _ (List.Mem.tail _ (List.Mem.tail _ (List.Mem.tail _ (List.Mem.tail _ (List.Mem.tail _ (List.Mem.tail _ (List.Mem.tail _ (List.Mem.tail _ (List.Mem.tail _ (List.Mem.tail _ (List.Mem.head _)))))))))))))))))) rfl
  | exact wall 684 (by decide +kernel) rfl
set_option maxRecDepth 100000 in
theorem wc_X5_commonDivisor : Cond.code yX5_commonDivisor cX5_commonDivisor 4 (some .int) ∈ WALL := by
  first
  | exact wt3 (sk16 (sk16 (sk16 (sk16 (sk16 (sk16 (List.Mem.tail _ (List.Mem.tail _ (List.Mem.tail _ (List.Mem.tail _ (List.Mem.tail _ (List.Mem.tail _ (List.Mem.tail _ (List.Mem.tail _ (List.Mem.tail _ (List.Mem.tail _ (List.Mem.tail _ (List.Mem.tail _ (List.Mem.tail _ (List.Mem.tail _ (List.Mem.head _))))))))))))))))))))) rfl
  | exact wall 687 (by decide +kernel) rfl
set_option maxRecDepth 100000 in
theorem wc_X5_sure : Cond.code yX5_sure cX5_sure 5 (some .int) ∈ WALL := by
  first
  | exact wt3 (sk16 (sk16 (sk16 (sk16 (sk16 (sk16 (sk16 (List.Mem.tail _ (List.Mem.tail _ (List.Mem.tail _ (List.Mem.head _))))))))))) rfl
  | exact wall 692 (by decide +kernel) rfl
set_option maxRecDepth 100000 in
theorem wc_X5_tellThen : Cond.code yX5_tellThen cX5_tellThen 3 none ∈ WALL := by
  first
  | exact wt3 (sk16 (sk16 (sk16 (sk16 (sk16 (sk16 (sk16 (List.Mem.tail _ (List.Mem.tail _ (List.Mem.tail _ (List.Mem.tail _ (List.Mem.tail _ (List.Mem.tail _ (List.Mem.tail _ (List.Mem.tail _ (List.Mem.head _)))))))))))))))) rfl
  | exact wall 697 (by decide +kernel) rfl
set_option maxRecDepth 100000 in
theorem wc_X5_secret : Cond.code yX5_secret cX5_secret 3 (some .int) ∈ WALL := by
  first
  | exact wt3 (sk16 (sk16 (sk16 (sk16 (sk16 (sk16 (sk16 (List.Mem.tail _ (List.Mem.tail _ (List.Mem.tail _ (List.Mem.tail _ (List.Mem.tail _ (List.Mem.tail _ (List.Mem.tail _ (List.Mem.tail _ (List.Mem.tail _ (List.Mem.tail _ (List.Mem.tail _ (List.Mem.tail _ (List.Mem.tail _ (List.Mem.head _))))))))))))))))))))) rfl
  | exact wall 702 (by decide +kernel) rfl
set_option maxRecDepth 100000 in
theorem wc_X5_swap : Cond.code yX5_swap cX5_swap 6 (some .int) ∈ WALL := by
  first
  | exact wt3 (sk16 (sk16 (sk16 (sk16 (sk16 (sk16 (sk16 (sk16 (List.Mem.tail _ (List.Mem.head _)))))))))) rfl
  | exact wall 706 (by decide +kernel) rfl
set_option maxRecDepth 100000 in
theorem wc_X2_exchange : Cond.code yX2_exchange cX2_exchange 5 none ∈ WALL := by
  first
  | exact wt3 (sk16 (sk16 (sk16 (sk16 (sk16 (sk16 (sk16 (sk16 (List.Mem.tail _ (List.Mem.tail _ (List.Mem.tail _ (List.Mem.tail _ (List.Mem.tail _ (List.Mem.head _)))))))))))))) rfl
  | exact wall 710 (by decide +kernel) rfl
set_option maxRecDepth 100000 in
theorem wc_X5_wouldRather : Cond.code yX5_wouldRather cX5_wouldRather 3 (some .boolean) ∈ WALL := by
  first
  | exact wt3 (sk16 (sk16 (sk16 (sk16 (sk16 (sk16 (sk16 (sk16 (List.Mem.tail _ (List.Mem.tail _ (List.Mem.tail _ (List.Mem.tail _ (List.Mem.tail _ (List.Mem.tail _ (List.Mem.tail _ (List.Mem.tail _ (List.Mem.tail _ (List.Mem.tail _ (List.Mem.head _))))))))))))))))))) rfl
  | exact wall 715 (by decide +kernel) rfl
set_option maxRecDepth 100000 in
theorem wc_X5_isBetterThen : Cond.code yX5_isBetterThen cX5_isBetterThen 3 (some .boolean) ∈ WALL := by
  first
  | exact wt3 (sk16 (sk16 (sk16 (sk16 (sk16 (sk16 (sk16 (sk16 (List.Mem.tail _ (List.Mem.tail _ (List.Mem.tail _ (List.Mem.tail _ (List.Mem.tail _ (List.Mem.tail _ (List.Mem.tail _ (List.Mem.tail _ (List.Mem.tail _ (List.Mem.tail _ (List.Mem.tail _ (List.Mem.tail _ (List.Mem.tail _ (List.Mem.tail _ (List.Mem.head _))))))))))))))))))))))) rfl
  | exact wall 719 (by decide +kernel) rfl
set_option maxRecDepth 100000 in
theorem wc_X5_book : Cond.code yX5_book cX5_book 2 (some .int) ∈ WALL := by
  first
  | exact wt3 (sk16 (sk16 (sk16 (sk16 (sk16 (sk16 (sk16 (sk16 (sk16 (List.Mem.tail _ (List.Mem.tail _ (List.Mem.head _)))))))))))) rfl
  | exact wall 723 (by decide +kernel) rfl
set_option maxRecDepth 100000 in
theorem wc_X5_looked : Cond.code yX5_looked cX5_looked 5 (some .int) ∈ WALL := by
  first
  | exact wt3 (sk16 (sk16 (sk16 (sk16 (sk16 (sk16 (sk16 (sk16 (sk16 (List.Mem.tail _ (List.Mem.tail _ (List.Mem.tail _ (List.Mem.tail _ (List.Mem.tail _ (List.Mem.tail _ (List.Mem.head _)))))))))))))))) rfl
  | exact wall 727 (by decide +kernel) rfl
set_option maxRecDepth 100000 in
theorem wc_X5_act : Cond.code yX5_act cX5_act 4 (some .int) ∈ WALL := by
  first
  | exact wt3 (sk16 (sk16 (sk16 (sk16 (sk16 (sk16 (sk16 (sk16 (sk16 (List.Mem.tail _ (List.Mem.tail _ (List.Mem.tail _ (List.Mem.tail _ (List.Mem.tail _ (List.Mem.tail _ (List.Mem.tail _ (List.Mem.tail _ (List.Mem.tail _ (List.Mem.tail _ (List.Mem.head _)))))))))))))))))))) rfl
  | exact wall 731 (by decide +kernel) rfl
set_option maxRecDepth 100000 in
theorem wc_X0_clear : Cond.code yX0_clear cX0_clear 1 none ∈ WALL := by
  first
  | exact wt3 (sk16 (sk16 (sk16 (sk16 (sk16 (sk16 (sk16 (sk16 (sk16 (List.Mem.tail _ (List.Mem.tail _ (List.Mem.tail _ (List.Mem.tail _ (List.Mem.tail _ (List.Mem.tail _ (List.Mem.tail _ (List.Mem.tail _ (List.Mem.tail _ (List.Mem.tail _ (List.Mem.tail _ (List.Mem.tail _ (List.Mem.tail _ (List.Mem.tail _ (List.Mem.head _)))))))))))))))))))))))) rfl
  | exact wall 735 (by decide +kernel) rfl
set_option maxRecDepth 100000 in
theorem wc_X0_start : Cond.code yX0_start cX0_start 5 (some .int) ∈ WALL := by
  first
  | exact wt3 (sk16 (sk16 (sk16 (sk16 (sk16 (sk16 (sk16 (sk16 (sk16 (sk16 (List.Mem.tail _ (List.Mem.tail _ (List.Mem.head _))))))))))))) rfl
  | exact wall 739 (by decide +kernel) rfl
set_option maxRecDepth 100000 in
theorem wc_X0_ask : Cond.code yX0_ask cX0_ask 7 (some .int) ∈ WALL := by
  first
  | exact wt3 (sk16 (sk16 (sk16 (sk16 (sk16 (sk16 (sk16 (sk16 (sk16 (sk16 (List.Mem.tail _ (List.Mem.tail _ (List.Mem.tail _ (List.Mem.tail _ (List.Mem.tail _ (List.Mem.tail _ (List.Mem.tail _ (List.Mem.head _)))))))))))))))))) rfl
  | exact wall 744 (by decide +kernel) rfl
set_option maxRecDepth 100000 in
theorem wc_X0_bodyOf : Cond.code yX0_bodyOf cX0_bodyOf 5 (some .int) ∈ WALL := by
  first
  | exact wt3 (sk16 (sk16 (sk16 (sk16 (sk16 (sk16 (sk16 (sk16 (sk16 (sk16 (List.Mem.tail _ (List.Mem.tail _ (List.Mem.tail _ (List.Mem.tail _ (List.Mem.tail _ (List.Mem.tail _ (List.Mem.tail _ (List.Mem.tail _ (List.Mem.tail _ (List.Mem.tail _ (List.Mem.head _))))))))))))))))))))) rfl
  | exact wall 747 (by decide +kernel) rfl
set_option maxRecDepth 100000 in
theorem wc_X0_begin : Cond.code yX0_begin cX0_begin 2 none ∈ WALL := by
  first
  | exact wt3 (sk16 (sk16 (sk16 (sk16 (sk16 (sk16 (sk16 (sk16 (sk16 (sk16 (sk16 (List.Mem.tail _ (List.Mem.tail _ (List.Mem.head _)))))))))))))) rfl
  | exact wall 755 (by decide +kernel) rfl
set_option maxRecDepth 100000 in
theorem wc_X5_trace : Cond.code yX5_trace cX5_trace 2 (some .int) ∈ WALL := by
  first
  | exact wt3 (sk16 (sk16 (sk16 (sk16 (sk16 (sk16 (sk16 (sk16 (sk16 (sk16 (sk16 (List.Mem.tail _ (List.Mem.tail _ (List.Mem.tail _ (List.Mem.tail _ (List.Mem.tail _ (List.Mem.tail _ (List.Mem.head _)))))))))))))))))) rfl
  | exact wall 759 (by decide +kernel) rfl
set_option maxRecDepth 100000 in
theorem wc_X5_as : Cond.code yX5_as cX5_as 5 (some .int) ∈ WALL := by
  first
  | exact wt3 (sk16 (sk16 (sk16 (sk16 (sk16 (sk16 (sk16 (sk16 (sk16 (sk16 (sk16 (List.Mem.tail _ (List.Mem.tail _ (List.Mem.tail _ (List.Mem.tail _ (List.Mem.tail _ (List.Mem.tail _ (List.Mem.tail _ (List.Mem.tail _ (List.Mem.tail _ (List.Mem.tail _ (List.Mem.head _)))))))))))))))))))))) rfl
  | exact wall 763 (by decide +kernel) rfl
set_option maxRecDepth 100000 in
theorem wc_X5_image : Cond.code yX5_image cX5_image 1 (some .int) ∈ WALL := by
  first
  | exact wt3 (sk16 (sk16 (sk16 (sk16 (sk16 (sk16 (sk16 (sk16 (sk16 (sk16 (sk16 (List.Mem.tail _ (List.Mem.tail _ (List.Mem.tail _ (List.Mem.tail _ (List.Mem.tail _ (List.Mem.tail _ (List.Mem.tail _ (List.Mem.tail _ (List.Mem.tail _ (List.Mem.tail _ (List.Mem.tail _ (List.Mem.tail _ (List.Mem.tail _ (List.Mem.tail _ (List.Mem.tail _ (List.Mem.head _))))))))))))))))))))))))))) rfl
  | exact wall 768 (by decide +kernel) rfl
set_option maxRecDepth 100000 in
theorem wc_X3_become : Cond.code yX3_become cX3_become 2 none ∈ WALL := by
  first
  | exact wt3 (sk16 (sk16 (sk16 (sk16 (sk16 (sk16 (sk16 (sk16 (sk16 (sk16 (sk16 (sk16 (List.Mem.tail _ (List.Mem.tail _ (List.Mem.tail _ (List.Mem.head _)))))))))))))))) rfl
  | exact wall 772 (by decide +kernel) rfl
set_option maxRecDepth 100000 in
theorem wc_X5_undo : Cond.code yX5_undo cX5_undo 1 (some .int) ∈ WALL := by
  first
  | exact wt3 (sk16 (sk16 (sk16 (sk16 (sk16 (sk16 (sk16 (sk16 (sk16 (sk16 (sk16 (sk16 (List.Mem.tail _ (List.Mem.tail _ (List.Mem.tail _ (List.Mem.tail _ (List.Mem.tail _ (List.Mem.tail _ (List.Mem.tail _ (List.Mem.tail _ (List.Mem.tail _ (List.Mem.head _)))))))))))))))))))))) rfl
  | exact wall 778 (by decide +kernel) rfl
set_option maxRecDepth 100000 in
theorem wc_X5_count : Cond.code yX5_count cX5_count 2 (some .int) ∈ WALL := by
  first
  | exact wt3 (sk16 (sk16 (sk16 (sk16 (sk16 (sk16 (sk16 (sk16 (sk16 (sk16 (sk16 (sk16 (List.Mem.tail _ (List.Mem.tail _ (List.Mem.tail _ (List.Mem.tail _ (List.Mem.tail _ (List.Mem.tail _ (List.Mem.tail _ (List.Mem.tail _ (List.Mem.tail _ (List.Mem.tail _ (List.Mem.tail _ (List.Mem.tail _ (List.Mem.tail _ (List.Mem.head _)))))))))))))))))))))))))) rfl
  | exact wall 782 (by decide +kernel) rfl
set_option maxRecDepth 100000 in
theorem wc_X6_init : Cond.code yX6_init cX6_init 1 none ∈ WALL := by
  first
  | exact wt3 (sk16 (sk16 (sk16 (sk16 (sk16 (sk16 (sk16 (sk16 (sk16 (sk16 (sk16 (sk16 (sk16 (List.Mem.tail _ (List.Mem.tail _ (List.Mem.head _)))))))))))))))) rfl
  | exact wall 787 (by decide +kernel) rfl
set_option maxRecDepth 100000 in
theorem wc_X6_feed : Cond.code yX6_feed cX6_feed 2 (some .int) ∈ WALL := by
  first
  | exact wt4 (sk16 (sk16 (sk16 (List.Mem.tail _ (List.Mem.tail _ (List.Mem.tail _ (List.Mem.tail _ (List.Mem.tail _ (List.Mem.tail _ (List.Mem.tail _ (List.Mem.tail _ (List.Mem.tail _ (List.Mem.tail _ (List.Mem.tail _ (List.Mem.tail _ (List.Mem.head _)))))))))))))))) rfl
  | exact wall 877 (by decide +kernel) rfl
set_option maxRecDepth 100000 in
theorem wc_X6_in : Cond.code yX6_in cX6_in 3 (some .boolean) ∈ WALL := by
  first
  | exact wt4 (sk16 (sk16 (sk16 (List.Mem.tail _ (List.Mem.tail _ (List.Mem.tail _ (List.Mem.tail _ (List.Mem.tail _ (List.Mem.tail _ (List.Mem.tail _ (List.Mem.tail _ (List.Mem.tail _ (List.Mem.tail _ (List.Mem.tail _ (List.Mem.tail _ (List.Mem.tail _ (List.Mem.tail _ (List.Mem.tail _ (List.Mem.head _))))))))))))))))))) rfl
  | exact wall 880 (by decide +kernel) rfl
set_option maxRecDepth 100000 in
theorem wc_X6_town : Cond.code yX6_town cX6_town 2 (some .int) ∈ WALL := by
  first
  | exact wt4 (sk16 (sk16 (sk16 (sk16 (List.Mem.tail _ (List.Mem.tail _ (List.Mem.tail _ (List.Mem.head _)))))))) rfl
  | exact wall 884 (by decide +kernel) rfl
set_option maxRecDepth 100000 in
theorem wc_X6_clauseHere : Cond.code yX6_clauseHere cX6_clauseHere 2 none ∈ WALL := by
  first
  | exact wt4 (sk16 (sk16 (sk16 (sk16 (List.Mem.tail _ (List.Mem.tail _ (List.Mem.tail _ (List.Mem.tail _ (List.Mem.tail _ (List.Mem.tail _ (List.Mem.tail _ (List.Mem.head _)))))))))))) rfl
  | exact wall 888 (by decide +kernel) rfl
set_option maxRecDepth 100000 in
theorem wc_X6_here : Cond.code yX6_here cX6_here 1 (some .int) ∈ WALL := by
  first
  | exact wt4 (sk16 (sk16 (sk16 (sk16 (List.Mem.tail _ (List.Mem.tail _ (List.Mem.tail _ (List.Mem.tail _ (List.Mem.tail _ (List.Mem.tail _ (List.Mem.tail _ (List.Mem.tail _ (List.Mem.tail _ (List.Mem.tail _ (List.Mem.tail _ (List.Mem.head _)))))))))))))))) rfl
  | exact wall 892 (by decide +kernel) rfl
set_option maxRecDepth 100000 in
theorem wc_X6_much : Cond.code yX6_much cX6_much 4 none ∈ WALL := by
  first
  | exact wt4 (sk16 (sk16 (sk16 (sk16 (sk16 (List.Mem.head _)))))) rfl
  | exact wall 897 (by decide +kernel) rfl
set_option maxRecDepth 100000 in
theorem wc_X6_spells : Cond.code yX6_spells cX6_spells 3 none ∈ WALL := by
  first
  | exact wt4 (sk16 (sk16 (sk16 (sk16 (sk16 (List.Mem.tail _ (List.Mem.tail _ (List.Mem.tail _ (List.Mem.tail _ (List.Mem.head _)))))))))) rfl
  | exact wall 901 (by decide +kernel) rfl
set_option maxRecDepth 100000 in
theorem wc_X6_must : Cond.code yX6_must cX6_must 2 none ∈ WALL := by
  first
  | exact wt4 (sk16 (sk16 (sk16 (sk16 (sk16 (List.Mem.tail _ (List.Mem.tail _ (List.Mem.tail _ (List.Mem.tail _ (List.Mem.tail _ (List.Mem.tail _ (List.Mem.tail _ (List.Mem.tail _ (List.Mem.tail _ (List.Mem.tail _ (List.Mem.head _)))))))))))))))) rfl
  | exact wall 907 (by decide +kernel) rfl
set_option maxRecDepth 100000 in
theorem wc_X6_figures : Cond.code yX6_figures cX6_figures 3 (some .int) ∈ WALL := by
  first
  | exact wt4 (sk16 (sk16 (sk16 (sk16 (sk16 (List.Mem.tail _ (List.Mem.tail _ (List.Mem.tail _ (List.Mem.tail _ (List.Mem.tail _ (List.Mem.tail _ (List.Mem.tail _ (List.Mem.tail _ (List.Mem.tail _ (List.Mem.tail _ (List.Mem.tail _ (List.Mem.tail _ (List.Mem.tail _ (List.Mem.tail _ (List.Mem.head _)))))))))))))))))))) rfl
  | exact wall 911 (by decide +kernel) rfl
set_option maxRecDepth 100000 in
theorem wc_X6_some : Cond.code yX6_some cX6_some 1 none ∈ WALL := by
  first
  | exact wt4 (sk16 (sk16 (sk16 (sk16 (sk16 (sk16 (List.Mem.tail _ (List.Mem.tail _ (List.Mem.head _))))))))) rfl
  | exact wall 915 (by decide +kernel) rfl
set_option maxRecDepth 100000 in
theorem wc_X6_every : Cond.code yX6_every cX6_every 1 none ∈ WALL := by
  first
  | exact wt4 (sk16 (sk16 (sk16 (sk16 (sk16 (sk16 (List.Mem.tail _ (List.Mem.tail _ (List.Mem.tail _ (List.Mem.tail _ (List.Mem.tail _ (List.Mem.tail _ (List.Mem.head _))))))))))))) rfl
  | exact wall 919 (by decide +kernel) rfl
set_option maxRecDepth 100000 in
theorem wc_X6_factor : Cond.code yX6_factor cX6_factor 5 none ∈ WALL := by
  first
  | exact wt4 (sk16 (sk16 (sk16 (sk16 (sk16 (sk16 (List.Mem.tail _ (List.Mem.tail _ (List.Mem.tail _ (List.Mem.tail _ (List.Mem.tail _ (List.Mem.tail _ (List.Mem.tail _ (List.Mem.tail _ (List.Mem.tail _ (List.Mem.tail _ (List.Mem.head _))))))))))))))))) rfl
  | exact wall 923 (by decide +kernel) rfl
set_option maxRecDepth 100000 in
theorem wc_X6_emits : Cond.code yX6_emits cX6_emits 2 none ∈ WALL := by
  first
  | exact wt4 (sk16 (sk16 (sk16 (sk16 (sk16 (sk16 (List.Mem.tail _ (List.Mem.tail _ (List.Mem.tail _ (List.Mem.tail _ (List.Mem.tail _ (List.Mem.tail _ (List.Mem.tail _ (List.Mem.tail _ (List.Mem.tail _ (List.Mem.tail _ (List.Mem.tail _ (List.Mem.tail _ (List.Mem.tail _ (List.Mem.tail _ (List.Mem.head _))))))))))))))))))))) rfl
  | exact wall 927 (by decide +kernel) rfl
set_option maxRecDepth 100000 in
theorem wc_X6_among : Cond.code yX6_among cX6_among 3 (some .int) ∈ WALL := by
  first
  | exact wt4 (sk16 (sk16 (sk16 (sk16 (sk16 (sk16 (sk16 (List.Mem.tail _ (List.Mem.tail _ (List.Mem.tail _ (List.Mem.head _))))))))))) rfl
  | exact wall 932 (by decide +kernel) rfl
set_option maxRecDepth 100000 in
theorem wc_X6_told : Cond.code yX6_told cX6_told 4 (some .int) ∈ WALL := by
  first
  | exact wt4 (sk16 (sk16 (sk16 (sk16 (sk16 (sk16 (sk16 (List.Mem.tail _ (List.Mem.tail _ (List.Mem.tail _ (List.Mem.tail _ (List.Mem.tail _ (List.Mem.tail _ (List.Mem.tail _ (List.Mem.tail _ (List.Mem.tail _ (List.Mem.tail _ (List.Mem.head _)))))))))))))))))) rfl
  | exact wall 939 (by decide +kernel) rfl
set_option maxRecDepth 100000 in
theorem wc_X6_tellsOf : Cond.code yX6_tellsOf cX6_tellsOf 2 (some .int) ∈ WALL := by
  first
  | exact wt4 (sk16 (sk16 (sk16 (sk16 (sk16 (sk16 (sk16 (List.Mem.tail _ (List.Mem.tail _ (List.Mem.tail _ (List.Mem.tail _ (List.Mem.tail _ (List.Mem.tail _ (List.Mem.tail _ (List.Mem.tail _ (List.Mem.tail _ (List.Mem.tail _ (List.Mem.tail _ (List.Mem.tail _ (List.Mem.tail _ (List.Mem.tail _ (List.Mem.head _)))))))))))))))))))))) rfl
  | exact wall 943 (by decide +kernel) rfl
set_option maxRecDepth 100000 in
theorem wc_X6_person : Cond.code yX6_person cX6_person 4 (some .int) ∈ WALL := by
  first
  | exact wt4 (sk16 (sk16 (sk16 (sk16 (sk16 (sk16 (sk16 (sk16 (List.Mem.tail _ (List.Mem.tail _ (List.Mem.head _))))))))))) rfl
  | exact wall 947 (by decide +kernel) rfl
set_option maxRecDepth 100000 in
theorem wc_X6_of : Cond.code yX6_of cX6_of 3 (some .int) ∈ WALL := by
  first
  | exact wt4 (sk16 (sk16 (sk16 (sk16 (sk16 (sk16 (sk16 (sk16 (List.Mem.tail _ (List.Mem.tail _ (List.Mem.tail _ (List.Mem.tail _ (List.Mem.tail _ (List.Mem.tail _ (List.Mem.head _))))))))))))))) rfl
  | exact wall 951 (by decide +kernel) rfl
set_option maxRecDepth 100000 in
theorem wc_X6_isPerson : Cond.code yX6_isPerson cX6_isPerson 2 (some .boolean) ∈ WALL := by
  first
  | exact wt4 (sk16 (sk16 (sk16 (sk16 (sk16 (sk16 (sk16 (sk16 (List.Mem.tail _ (List.Mem.tail _ (List.Mem.tail _ (List.Mem.tail _ (List.Mem.tail _ (List.Mem.tail _ (List.Mem.tail _ (List.Mem.tail _ (List.Mem.tail _ (List.Mem.tail _ (List.Mem.head _))))))))))))))))))) rfl
  | exact wall 955 (by decide +kernel) rfl
set_option maxRecDepth 100000 in
theorem wc_X6_row : Cond.code yX6_row cX6_row 4 (some .int) ∈ WALL := by
  first
  | exact wt4 (sk16 (sk16 (sk16 (sk16 (sk16 (sk16 (sk16 (sk16 (List.Mem.tail _ (List.Mem.tail _ (List.Mem.tail _ (List.Mem.tail _ (List.Mem.tail _ (List.Mem.tail _ (List.Mem.tail _ (List.Mem.tail _ (List.Mem.tail _ (List.Mem.tail _ (List.Mem.tail _ (List.Mem.tail _ (List.Mem.tail _ (List.Mem.tail _ (List.Mem.head _))))))))))))))))))))))) rfl
  | exact wall 959 (by decide +kernel) rfl
set_option maxRecDepth 100000 in
theorem wc_X6_note : Cond.code yX6_note cX6_note 4 (some .int) ∈ WALL := by
  first
  | exact wt4 (sk16 (sk16 (sk16 (sk16 (sk16 (sk16 (sk16 (sk16 (sk16 (List.Mem.tail _ (List.Mem.tail _ (List.Mem.head _)))))))))))) rfl
  | exact wall 963 (by decide +kernel) rfl
set_option maxRecDepth 100000 in
theorem wc_X6_yesterday : Cond.code yX6_yesterday cX6_yesterday 3 (some .int) ∈ WALL := by
  first
  | exact wt4 (sk16 (sk16 (sk16 (sk16 (sk16 (sk16 (sk16 (sk16 (sk16 (List.Mem.tail _ (List.Mem.tail _ (List.Mem.tail _ (List.Mem.tail _ (List.Mem.tail _ (List.Mem.tail _ (List.Mem.head _)))))))))))))))) rfl
  | exact wall 967 (by decide +kernel) rfl
set_option maxRecDepth 100000 in
theorem wc_X6_isDay : Cond.code yX6_isDay cX6_isDay 2 (some .boolean) ∈ WALL := by
  first
  | exact wt4 (sk16 (sk16 (sk16 (sk16 (sk16 (sk16 (sk16 (sk16 (sk16 (List.Mem.tail _ (List.Mem.tail _ (List.Mem.tail _ (List.Mem.tail _ (List.Mem.tail _ (List.Mem.tail _ (List.Mem.tail _ (List.Mem.tail _ (List.Mem.tail _ (List.Mem.tail _ (List.Mem.head _)))))))))))))))))))) rfl
  | exact wall 971 (by decide +kernel) rfl
set_option maxRecDepth 100000 in
theorem wc_X6_days : Cond.code yX6_days cX6_days 1 (some .int) ∈ WALL := by
  first
  | exact wt4 (sk16 (sk16 (sk16 (sk16 (sk16 (sk16 (sk16 (sk16 (sk16 (List.Mem.tail _ (List.Mem.tail _ (List.Mem.tail _ (List.Mem.tail _ (List.Mem.tail _ (List.Mem.tail _ (List.Mem.tail _ (List.Mem.tail _ (List.Mem.tail _ (List.Mem.tail _ (List.Mem.tail _ (List.Mem.tail _ (List.Mem.tail _ (List.Mem.tail _ (List.Mem.head _)))))))))))))))))))))))) rfl
  | exact wall 975 (by decide +kernel) rfl
set_option maxRecDepth 100000 in
theorem wc_X6_by : Cond.code yX6_by cX6_by 5 (some .int) ∈ WALL := by
  first
  | exact wt4 (sk16 (sk16 (sk16 (sk16 (sk16 (sk16 (sk16 (sk16 (sk16 (sk16 (List.Mem.tail _ (List.Mem.tail _ (List.Mem.head _))))))))))))) rfl
  | exact wall 979 (by decide +kernel) rfl
set_option maxRecDepth 100000 in
theorem wc_X6_isHour : Cond.code yX6_isHour cX6_isHour 1 (some .boolean) ∈ WALL := by
  first
  | exact wt4 (sk16 (sk16 (sk16 (sk16 (sk16 (sk16 (sk16 (sk16 (sk16 (sk16 (List.Mem.tail _ (List.Mem.tail _ (List.Mem.tail _ (List.Mem.tail _ (List.Mem.tail _ (List.Mem.head _)))))))))))))))) rfl
  | exact wall 982 (by decide +kernel) rfl
set_option maxRecDepth 100000 in
theorem wc_X6_looks : Cond.code yX6_looks cX6_looks 2 none ∈ WALL := by
  first
  | exact wt4 (sk16 (sk16 (sk16 (sk16 (sk16 (sk16 (sk16 (sk16 (sk16 (sk16 (List.Mem.tail _ (List.Mem.tail _ (List.Mem.tail _ (List.Mem.tail _ (List.Mem.tail _ (List.Mem.tail _ (List.Mem.tail _ (List.Mem.tail _ (List.Mem.tail _ (List.Mem.head _)))))))))))))))))))) rfl
  | exact wall 986 (by decide +kernel) rfl
set_option maxRecDepth 100000 in
theorem wc_X6_looksAt : Cond.code yX6_looksAt cX6_looksAt 3 none ∈ WALL := by
  first
  | exact wt4 (sk16 (sk16 (sk16 (sk16 (sk16 (sk16 (sk16 (sk16 (sk16 (sk16 (List.Mem.tail _ (List.Mem.tail _ (List.Mem.tail _ (List.Mem.tail _ (List.Mem.tail _ (List.Mem.tail _ (List.Mem.tail _ (List.Mem.tail _ (List.Mem.tail _ (List.Mem.tail _ (List.Mem.tail _ (List.Mem.tail _ (List.Mem.tail _ (List.Mem.head _)))))))))))))))))))))))) rfl
  | exact wall 990 (by decide +kernel) rfl
set_option maxRecDepth 100000 in
theorem wc_X6_worthBy : Cond.code yX6_worthBy cX6_worthBy 10 (some .int) ∈ WALL := by
  first
  | exact wt4 (sk16 (sk16 (sk16 (sk16 (sk16 (sk16 (sk16 (sk16 (sk16 (sk16 (sk16 (List.Mem.tail _ (List.Mem.head _))))))))))))) rfl
  | exact wall 994 (by decide +kernel) rfl
set_option maxRecDepth 100000 in
theorem wc_X6_worthOf : Cond.code yX6_worthOf cX6_worthOf 6 (some .int) ∈ WALL := by
  first
  | exact wt4 (sk16 (sk16 (sk16 (sk16 (sk16 (sk16 (sk16 (sk16 (sk16 (sk16 (sk16 (List.Mem.tail _ (List.Mem.tail _ (List.Mem.tail _ (List.Mem.tail _ (List.Mem.tail _ (List.Mem.head _))))))))))))))))) rfl
  | exact wall 998 (by decide +kernel) rfl
set_option maxRecDepth 100000 in
theorem wc_X6_others : Cond.code yX6_others cX6_others 6 (some .int) ∈ WALL := by
  first
  | exact wt4 (sk16 (sk16 (sk16 (sk16 (sk16 (sk16 (sk16 (sk16 (sk16 (sk16 (sk16 (List.Mem.tail _ (List.Mem.tail _ (List.Mem.tail _ (List.Mem.tail _ (List.Mem.tail _ (List.Mem.tail _ (List.Mem.tail _ (List.Mem.tail _ (List.Mem.tail _ (List.Mem.head _))))))))))))))))))))) rfl
  | exact wall 1002 (by decide +kernel) rfl
set_option maxRecDepth 100000 in
theorem wc_X6_does : Cond.code yX6_does cX6_does 3 (some .boolean) ∈ WALL := by
  first
  | exact wt4 (sk16 (sk16 (sk16 (sk16 (sk16 (sk16 (sk16 (sk16 (sk16 (sk16 (sk16 (List.Mem.tail _ (List.Mem.tail _ (List.Mem.tail _ (List.Mem.tail _ (List.Mem.tail _ (List.Mem.tail _ (List.Mem.tail _ (List.Mem.tail _ (List.Mem.tail _ (List.Mem.tail _ (List.Mem.tail _ (List.Mem.tail _ (List.Mem.head _)))))))))))))))))))))))) rfl
  | exact wall 1005 (by decide +kernel) rfl
set_option maxRecDepth 100000 in
theorem wc_X6_would : Cond.code yX6_would cX6_would 4 (some .boolean) ∈ WALL := by
  first
  | exact wt4 (sk16 (sk16 (sk16 (sk16 (sk16 (sk16 (sk16 (sk16 (sk16 (sk16 (sk16 (sk16 (List.Mem.head _))))))))))))) rfl
  | exact wall 1009 (by decide +kernel) rfl
set_option maxRecDepth 100000 in
theorem wc_X6_bestOwn : Cond.code yX6_bestOwn cX6_bestOwn 8 (some .int) ∈ WALL := by
  first
  | exact wt4 (sk16 (sk16 (sk16 (sk16 (sk16 (sk16 (sk16 (sk16 (sk16 (sk16 (sk16 (sk16 (List.Mem.tail _ (List.Mem.tail _ (List.Mem.tail _ (List.Mem.tail _ (List.Mem.head _))))))))))))))))) rfl
  | exact wall 1013 (by decide +kernel) rfl
set_option maxRecDepth 100000 in
theorem wc_X6_withOwn : Cond.code yX6_withOwn cX6_withOwn 3 (some .int) ∈ WALL := by
  first
  | exact wt4 (sk16 (sk16 (sk16 (sk16 (sk16 (sk16 (sk16 (sk16 (sk16 (sk16 (sk16 (sk16 (List.Mem.tail _ (List.Mem.tail _ (List.Mem.tail _ (List.Mem.tail _ (List.Mem.tail _ (List.Mem.tail _ (List.Mem.tail _ (List.Mem.head _)))))))))))))))))))) rfl
  | exact wall 1016 (by decide +kernel) rfl
set_option maxRecDepth 100000 in
theorem wc_X6_gainOf : Cond.code yX6_gainOf cX6_gainOf 5 (some .int) ∈ WALL := by
  first
  | exact wt4 (sk16 (sk16 (sk16 (sk16 (sk16 (sk16 (sk16 (sk16 (sk16 (sk16 (sk16 (sk16 (List.Mem.tail _ (List.Mem.tail _ (List.Mem.tail _ (List.Mem.tail _ (List.Mem.tail _ (List.Mem.tail _ (List.Mem.tail _ (List.Mem.tail _ (List.Mem.tail _ (List.Mem.tail _ (List.Mem.tail _ (List.Mem.head _)))))))))))))))))))))))) rfl
  | exact wall 1020 (by decide +kernel) rfl
set_option maxRecDepth 100000 in
theorem wc_X6_wouldPlainly : Cond.code yX6_wouldPlainly cX6_wouldPlainly 4 (some .boolean) ∈ WALL := by
  first
  | exact wt4 (sk16 (sk16 (sk16 (sk16 (sk16 (sk16 (sk16 (sk16 (sk16 (sk16 (sk16 (sk16 (List.Mem.tail _ (List.Mem.tail _ (List.Mem.tail _ (List.Mem.tail _ (List.Mem.tail _ (List.Mem.tail _ (List.Mem.tail _ (List.Mem.tail _ (List.Mem.tail _ (List.Mem.tail _ (List.Mem.tail _ (List.Mem.tail _ (List.Mem.tail _ (List.Mem.tail _ (List.Mem.tail _ (List.Mem.head _)))))))))))))))))))))))))))) rfl
  | exact wall 1024 (by decide +kernel) rfl
set_option maxRecDepth 100000 in
theorem wc_X6_isStrange : Cond.code yX6_isStrange cX6_isStrange 3 (some .boolean) ∈ WALL := by
  first
  | exact wt4 (sk16 (sk16 (sk16 (sk16 (sk16 (sk16 (sk16 (sk16 (sk16 (sk16 (sk16 (sk16 (sk16 (List.Mem.tail _ (List.Mem.tail _ (List.Mem.tail _ (List.Mem.head _))))))))))))))))) rfl
  | exact wall 1028 (by decide +kernel) rfl
set_option maxRecDepth 100000 in
theorem wc_X6_day : Cond.code yX6_day cX6_day 3 (some .int) ∈ WALL := by
  first
  | exact wt4 (sk16 (sk16 (sk16 (sk16 (sk16 (sk16 (sk16 (sk16 (sk16 (sk16 (sk16 (sk16 (sk16 (List.Mem.tail _ (List.Mem.tail _ (List.Mem.tail _ (List.Mem.tail _ (List.Mem.tail _ (List.Mem.tail _ (List.Mem.tail _ (List.Mem.head _))))))))))))))))))))) rfl
  | exact wall 1032 (by decide +kernel) rfl
set_option maxRecDepth 100000 in
theorem wc_X6_firstOtherwise : Cond.code yX6_firstOtherwise cX6_firstOtherwise 4 (some .int) ∈ WALL := by
  first
  | exact wt4 (sk16 (sk16 (sk16 (sk16 (sk16 (sk16 (sk16 (sk16 (sk16 (sk16 (sk16 (sk16 (sk16 (List.Mem.tail _ (List.Mem.tail _ (List.Mem.tail _ (List.Mem.tail _ (List.Mem.tail _ (List.Mem.tail _ (List.Mem.tail _ (List.Mem.tail _ (List.Mem.tail _ (List.Mem.tail _ (List.Mem.tail _ (List.Mem.head _))))))))))))))))))))))))) rfl
  | exact wall 1036 (by decide +kernel) rfl
set_option maxRecDepth 100000 in
theorem wc_X6_answerTo : Cond.code yX6_answerTo cX6_answerTo 5 (some .int) ∈ WALL := by
  first
  | exact wt4 (sk16 (sk16 (sk16 (sk16 (sk16 (sk16 (sk16 (sk16 (sk16 (sk16 (sk16 (sk16 (sk16 (List.Mem.tail _ (List.Mem.tail _ (List.Mem.tail _ (List.Mem.tail _ (List.Mem.tail _ (List.Mem.tail _ (List.Mem.tail _ (List.Mem.tail _ (List.Mem.tail _ (List.Mem.tail _ (List.Mem.tail _ (List.Mem.tail _ (List.Mem.tail _ (List.Mem.tail _ (List.Mem.tail _ (List.Mem.head _))))))))))))))))))))))))))))) rfl
  | exact wall 1040 (by decide +kernel) rfl
set_option maxRecDepth 100000 in
theorem wc_X6_gainOfAll : Cond.code yX6_gainOfAll cX6_gainOfAll 4 (some .int) ∈ WALL := by
  first
  | exact wt4 (sk16 (sk16 (sk16 (sk16 (sk16 (sk16 (sk16 (sk16 (sk16 (sk16 (sk16 (sk16 (sk16 (sk16 (List.Mem.tail _ (List.Mem.tail _ (List.Mem.tail _ (List.Mem.head _)))))))))))))))))) rfl
  | exact wall 1044 (by decide +kernel) rfl
set_option maxRecDepth 100000 in
theorem wc_X6_all : Cond.code yX6_all cX6_all 2 (some .int) ∈ WALL := by
  first
  | exact wt4 (sk16 (sk16 (sk16 (sk16 (sk16 (sk16 (sk16 (sk16 (sk16 (sk16 (sk16 (sk16 (sk16 (sk16 (List.Mem.tail _ (List.Mem.tail _ (List.Mem.tail _ (List.Mem.tail _ (List.Mem.tail _ (List.Mem.tail _ (List.Mem.tail _ (List.Mem.head _)))))))))))))))))))))) rfl
  | exact wall 1048 (by decide +kernel) rfl
set_option maxRecDepth 100000 in
theorem wc_X6_looksThrough : Cond.code yX6_looksThrough cX6_looksThrough 4 none ∈ WALL := by
  first
  | exact wt4 (sk16 (sk16 (sk16 (sk16 (sk16 (sk16 (sk16 (sk16 (sk16 (sk16 (sk16 (sk16 (sk16 (sk16 (List.Mem.tail _ (List.Mem.tail _ (List.Mem.tail _ (List.Mem.tail _ (List.Mem.tail _ (List.Mem.tail _ (List.Mem.tail _ (List.Mem.tail _ (List.Mem.tail _ (List.Mem.tail _ (List.Mem.tail _ (List.Mem.head _)))))))))))))))))))))))))) rfl
  | exact wall 1052 (by decide +kernel) rfl
set_option maxRecDepth 100000 in
theorem wc_X6_stands : Cond.code yX6_stands cX6_stands 2 (some .boolean) ∈ WALL := by
  first
  | exact wt4 (sk16 (sk16 (sk16 (sk16 (sk16 (sk16 (sk16 (sk16 (sk16 (sk16 (sk16 (sk16 (sk16 (sk16 (List.Mem.tail _ (List.Mem.tail _ (List.Mem.tail _ (List.Mem.tail _ (List.Mem.tail _ (List.Mem.tail _ (List.Mem.tail _ (List.Mem.tail _ (List.Mem.tail _ (List.Mem.tail _ (List.Mem.tail _ (List.Mem.tail _ (List.Mem.tail _ (List.Mem.tail _ (List.Mem.tail _ (List.Mem.head _)))))))))))))))))))))))))))))) rfl
  | exact wall 1056 (by decide +kernel) rfl
set_option maxRecDepth 100000 in
theorem wc_X6_once : Cond.code yX6_once cX6_once 8 (some .int) ∈ WALL := by
  first
  | exact wt5 (List.Mem.tail _ (List.Mem.tail _ (List.Mem.tail _ (List.Mem.head _)))) rfl
  | exact wall 1060 (by decide +kernel) rfl
set_option maxRecDepth 100000 in
theorem wc_X6_again : Cond.code yX6_again cX6_again 5 (some .int) ∈ WALL := by
  first
  | exact wt5 (List.Mem.tail _ (List.Mem.tail _ (List.Mem.tail _ (List.Mem.tail _ (List.Mem.tail _ (List.Mem.tail _ (List.Mem.tail _ (List.Mem.head _)))))))) rfl
  | exact wall 1064 (by decide +kernel) rfl
set_option maxRecDepth 100000 in
theorem wc_X6_morning : Cond.code yX6_morning cX6_morning 1 (some .int) ∈ WALL := by
  first
  | exact wt5 (List.Mem.tail _ (List.Mem.tail _ (List.Mem.tail _ (List.Mem.tail _ (List.Mem.tail _ (List.Mem.tail _ (List.Mem.tail _ (List.Mem.tail _ (List.Mem.tail _ (List.Mem.tail _ (List.Mem.tail _ (List.Mem.head _)))))))))))) rfl
  | exact wall 1068 (by decide +kernel) rfl
set_option maxRecDepth 100000 in
theorem wc_X6_morningComes : Cond.code yX6_morningComes cX6_morningComes 5 (some .int) ∈ WALL := by
  first
  | exact wt5 (List.Mem.tail _ (List.Mem.tail _ (List.Mem.tail _ (List.Mem.tail _ (List.Mem.tail _ (List.Mem.tail _ (List.Mem.tail _ (List.Mem.tail _ (List.Mem.tail _ (List.Mem.tail _ (List.Mem.tail _ (List.Mem.tail _ (List.Mem.tail _ (List.Mem.tail _ (List.Mem.tail _ (List.Mem.head _)))))))))))))))) rfl
  | exact wall 1072 (by decide +kernel) rfl
set_option maxRecDepth 100000 in
theorem wc_X6_year : Cond.code yX6_year cX6_year 8 (some .int) ∈ WALL := by
  first
  | exact wt5 (sk16 (List.Mem.tail _ (List.Mem.tail _ (List.Mem.tail _ (List.Mem.head _))))) rfl
  | exact wall 1076 (by decide +kernel) rfl
set_option maxRecDepth 100000 in
theorem wc_X6_bet : Cond.code yX6_bet cX6_bet 8 (some .int) ∈ WALL := by
  first
  | exact wt5 (sk16 (List.Mem.tail _ (List.Mem.tail _ (List.Mem.tail _ (List.Mem.tail _ (List.Mem.tail _ (List.Mem.tail _ (List.Mem.tail _ (List.Mem.head _))))))))) rfl
  | exact wall 1080 (by decide +kernel) rfl
set_option maxRecDepth 100000 in
theorem wc_X6_divisor : Cond.code yX6_divisor cX6_divisor 5 (some .int) ∈ WALL := by
  first
  | exact wt5 (sk16 (List.Mem.tail _ (List.Mem.tail _ (List.Mem.tail _ (List.Mem.tail _ (List.Mem.tail _ (List.Mem.tail _ (List.Mem.tail _ (List.Mem.tail _ (List.Mem.tail _ (List.Mem.tail _ (List.Mem.head _)))))))))))) rfl
  | exact wall 1083 (by decide +kernel) rfl
set_option maxRecDepth 100000 in
theorem wc_X6_sure : Cond.code yX6_sure cX6_sure 6 (some .int) ∈ WALL := by
  first
  | exact wt5 (sk16 (List.Mem.tail _ (List.Mem.tail _ (List.Mem.tail _ (List.Mem.tail _ (List.Mem.tail _ (List.Mem.tail _ (List.Mem.tail _ (List.Mem.tail _ (List.Mem.tail _ (List.Mem.tail _ (List.Mem.tail _ (List.Mem.tail _ (List.Mem.tail _ (List.Mem.tail _ (List.Mem.head _)))))))))))))))) rfl
  | exact wall 1087 (by decide +kernel) rfl
set_option maxRecDepth 100000 in
theorem wc_X6_keeps : Cond.code yX6_keeps cX6_keeps 2 none ∈ WALL := by
  first
  | exact wt5 (sk16 (sk16 (List.Mem.tail _ (List.Mem.tail _ (List.Mem.head _))))) rfl
  | exact wall 1091 (by decide +kernel) rfl
set_option maxRecDepth 100000 in
theorem wc_X6_count1 : Cond.code yX6_count1 cX6_count1 3 (some .int) ∈ WALL := by
  first
  | exact wt5 (sk16 (sk16 (List.Mem.tail _ (List.Mem.tail _ (List.Mem.tail _ (List.Mem.tail _ (List.Mem.tail _ (List.Mem.head _)))))))) rfl
  | exact wall 1094 (by decide +kernel) rfl
set_option maxRecDepth 100000 in
theorem wc_X6_goesBack : Cond.code yX6_goesBack cX6_goesBack 2 none ∈ WALL := by
  first
  | exact wt5 (sk16 (sk16 (List.Mem.tail _ (List.Mem.tail _ (List.Mem.tail _ (List.Mem.tail _ (List.Mem.tail _ (List.Mem.tail _ (List.Mem.tail _ (List.Mem.tail _ (List.Mem.tail _ (List.Mem.head _)))))))))))) rfl
  | exact wall 1098 (by decide +kernel) rfl
set_option maxRecDepth 100000 in
theorem wc_X6_secret : Cond.code yX6_secret cX6_secret 6 (some .int) ∈ WALL := by
  first
  | exact wt5 (sk16 (sk16 (List.Mem.tail _ (List.Mem.tail _ (List.Mem.tail _ (List.Mem.tail _ (List.Mem.tail _ (List.Mem.tail _ (List.Mem.tail _ (List.Mem.tail _ (List.Mem.tail _ (List.Mem.tail _ (List.Mem.tail _ (List.Mem.tail _ (List.Mem.tail _ (List.Mem.head _)))))))))))))))) rfl
  | exact wall 1102 (by decide +kernel) rfl
set_option maxRecDepth 100000 in
theorem wc_X6_swap : Cond.code yX6_swap cX6_swap 8 (some .int) ∈ WALL := by
  first
  | exact wt5 (sk16 (sk16 (sk16 (List.Mem.tail _ (List.Mem.head _))))) rfl
  | exact wall 1106 (by decide +kernel) rfl
set_option maxRecDepth 100000 in
theorem wc_X6_isGood : Cond.code yX6_isGood cX6_isGood 7 (some .boolean) ∈ WALL := by
  first
  | exact wt5 (sk16 (sk16 (sk16 (List.Mem.tail _ (List.Mem.tail _ (List.Mem.tail _ (List.Mem.tail _ (List.Mem.tail _ (List.Mem.head _))))))))) rfl
  | exact wall 1110 (by decide +kernel) rfl
set_option maxRecDepth 100000 in
theorem wc_X6_book : Cond.code yX6_book cX6_book 2 (some .int) ∈ WALL := by
  first
  | exact wt5 (sk16 (sk16 (sk16 (List.Mem.tail _ (List.Mem.tail _ (List.Mem.tail _ (List.Mem.tail _ (List.Mem.tail _ (List.Mem.tail _ (List.Mem.tail _ (List.Mem.tail _ (List.Mem.tail _ (List.Mem.head _))))))))))))) rfl
  | exact wall 1114 (by decide +kernel) rfl
set_option maxRecDepth 100000 in
theorem wc_X6_looked : Cond.code yX6_looked cX6_looked 6 (some .int) ∈ WALL := by
  first
  | exact wt5 (sk16 (sk16 (sk16 (List.Mem.tail _ (List.Mem.tail _ (List.Mem.tail _ (List.Mem.tail _ (List.Mem.tail _ (List.Mem.tail _ (List.Mem.tail _ (List.Mem.tail _ (List.Mem.tail _ (List.Mem.tail _ (List.Mem.tail _ (List.Mem.tail _ (List.Mem.tail _ (List.Mem.head _))))))))))))))))) rfl
  | exact wall 1118 (by decide +kernel) rfl
set_option maxRecDepth 100000 in
theorem wc_X6_act : Cond.code yX6_act cX6_act 4 (some .int) ∈ WALL := by
  first
  | exact wt5 (sk16 (sk16 (sk16 (sk16 (List.Mem.tail _ (List.Mem.head _)))))) rfl
  | exact wall 1122 (by decide +kernel) rfl
set_option maxRecDepth 100000 in
theorem wc_X6_knowsActs : Cond.code yX6_knowsActs cX6_knowsActs 2 (some .int) ∈ WALL := by
  first
  | exact wt5 (sk16 (sk16 (sk16 (sk16 (List.Mem.tail _ (List.Mem.tail _ (List.Mem.tail _ (List.Mem.tail _ (List.Mem.tail _ (List.Mem.head _)))))))))) rfl
  | exact wall 1126 (by decide +kernel) rfl
set_option maxRecDepth 100000 in
theorem wc_X6_runs : Cond.code yX6_runs cX6_runs 2 none ∈ WALL := by
  first
  | exact wt5 (sk16 (sk16 (sk16 (sk16 (List.Mem.tail _ (List.Mem.tail _ (List.Mem.tail _ (List.Mem.tail _ (List.Mem.tail _ (List.Mem.tail _ (List.Mem.tail _ (List.Mem.tail _ (List.Mem.tail _ (List.Mem.head _)))))))))))))) rfl
  | exact wall 1130 (by decide +kernel) rfl
set_option maxRecDepth 100000 in
theorem wc_X6_plainKnows : Cond.code yX6_plainKnows cX6_plainKnows 2 (some .int) ∈ WALL := by
  first
  | exact wt5 (sk16 (sk16 (sk16 (sk16 (List.Mem.tail _ (List.Mem.tail _ (List.Mem.tail _ (List.Mem.tail _ (List.Mem.tail _ (List.Mem.tail _ (List.Mem.tail _ (List.Mem.tail _ (List.Mem.tail _ (List.Mem.tail _ (List.Mem.tail _ (List.Mem.tail _ (List.Mem.tail _ (List.Mem.head _)))))))))))))))))) rfl
  | exact wall 1134 (by decide +kernel) rfl
set_option maxRecDepth 100000 in
theorem wc_X6_doesActs : Cond.code yX6_doesActs cX6_doesActs 2 (some .int) ∈ WALL := by
  first
  | exact wt5 (sk16 (sk16 (sk16 (sk16 (sk16 (List.Mem.tail _ (List.Mem.head _))))))) rfl
  | exact wall 1138 (by decide +kernel) rfl
set_option maxRecDepth 100000 in
theorem wc_X6_isUnder : Cond.code yX6_isUnder cX6_isUnder 2 (some .boolean) ∈ WALL := by
  first
  | exact wt5 (sk16 (sk16 (sk16 (sk16 (sk16 (List.Mem.tail _ (List.Mem.tail _ (List.Mem.tail _ (List.Mem.tail _ (List.Mem.head _)))))))))) rfl
  | exact wall 1141 (by decide +kernel) rfl
set_option maxRecDepth 100000 in
theorem wc_X6_plainDoes : Cond.code yX6_plainDoes cX6_plainDoes 2 (some .int) ∈ WALL := by
  first
  | exact wt5 (sk16 (sk16 (sk16 (sk16 (sk16 (List.Mem.tail _ (List.Mem.tail _ (List.Mem.tail _ (List.Mem.tail _ (List.Mem.tail _ (List.Mem.tail _ (List.Mem.tail _ (List.Mem.tail _ (List.Mem.head _)))))))))))))) rfl
  | exact wall 1145 (by decide +kernel) rfl
set_option maxRecDepth 100000 in
theorem wc_X6_tellsActs : Cond.code yX6_tellsActs cX6_tellsActs 3 (some .int) ∈ WALL := by
  first
  | exact wt5 (sk16 (sk16 (sk16 (sk16 (sk16 (List.Mem.tail _ (List.Mem.tail _ (List.Mem.tail _ (List.Mem.tail _ (List.Mem.tail _ (List.Mem.tail _ (List.Mem.tail _ (List.Mem.tail _ (List.Mem.tail _ (List.Mem.tail _ (List.Mem.tail _ (List.Mem.tail _ (List.Mem.head _)))))))))))))))))) rfl
  | exact wall 1149 (by decide +kernel) rfl
set_option maxRecDepth 100000 in
theorem wc_X6_plainTells : Cond.code yX6_plainTells cX6_plainTells 2 (some .int) ∈ WALL := by
  first
  | exact wt5 (sk16 (sk16 (sk16 (sk16 (sk16 (sk16 (List.Mem.head _))))))) rfl
  | exact wall 1153 (by decide +kernel) rfl
set_option maxRecDepth 100000 in
theorem wc_X6_trace : Cond.code yX6_trace cX6_trace 2 (some .int) ∈ WALL := by
  first
  | exact wt5 (sk16 (sk16 (sk16 (sk16 (sk16 (sk16 (List.Mem.tail _ (List.Mem.tail _ (List.Mem.tail _ (List.Mem.tail _ (List.Mem.head _))))))))))) rfl
  | exact wall 1157 (by decide +kernel) rfl
set_option maxRecDepth 100000 in
theorem wc_X6_as : Cond.code yX6_as cX6_as 3 (some .int) ∈ WALL := by
  first
  | exact wt5 (sk16 (sk16 (sk16 (sk16 (sk16 (sk16 (List.Mem.tail _ (List.Mem.tail _ (List.Mem.tail _ (List.Mem.tail _ (List.Mem.tail _ (List.Mem.tail _ (List.Mem.tail _ (List.Mem.tail _ (List.Mem.head _))))))))))))))) rfl
  | exact wall 1161 (by decide +kernel) rfl
set_option maxRecDepth 100000 in
theorem wc_X6_image : Cond.code yX6_image cX6_image 2 (some .int) ∈ WALL := by
  first
  | exact wt5 (sk16 (sk16 (sk16 (sk16 (sk16 (sk16 (List.Mem.tail _ (List.Mem.tail _ (List.Mem.tail _ (List.Mem.tail _ (List.Mem.tail _ (List.Mem.tail _ (List.Mem.tail _ (List.Mem.tail _ (List.Mem.tail _ (List.Mem.tail _ (List.Mem.tail _ (List.Mem.tail _ (List.Mem.head _))))))))))))))))))) rfl
  | exact wall 1165 (by decide +kernel) rfl
set_option maxRecDepth 100000 in
theorem wc_X6_undo : Cond.code yX6_undo cX6_undo 2 (some .int) ∈ WALL := by
  first
  | exact wt5 (sk16 (sk16 (sk16 (sk16 (sk16 (sk16 (sk16 (List.Mem.head _)))))))) rfl
  | exact wall 1169 (by decide +kernel) rfl
set_option maxRecDepth 100000 in
theorem wc_X6_count : Cond.code yX6_count cX6_count 2 (some .int) ∈ WALL := by
  first
  | exact wt5 (sk16 (sk16 (sk16 (sk16 (sk16 (sk16 (sk16 (List.Mem.tail _ (List.Mem.tail _ (List.Mem.tail _ (List.Mem.tail _ (List.Mem.head _)))))))))))) rfl
  | exact wall 1173 (by decide +kernel) rfl
end CW
