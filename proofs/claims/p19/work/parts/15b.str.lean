section GM
set_option maxHeartbeats 4000000 in
set_option maxRecDepth 100000 in
theorem js_coder (l : Launch) (D : va_G) (cI cZ cQ cT : ClassId) (sz : Nat) (q : Nat) (t : Nat) (len : Nat) (f : Nat → Int32)  : MetI l yJ0_coder_7d493 cJ0_coder_7d493 1 .byte ({ frames := 0, cells := 0, slots := 0, locals := 0 } : Room) [.ref q] D (TYS cI cZ cQ cT) (andX CS (SO q t len f)) sz [] (S := Unit) (fun (r : Int32) (_ : Unit) => r = 0) (fun _ => []) := by
  refine MetI.mk (lv := [(0, .ref q)]) (by decide +kernel) (Nat.le_of_ble_eq_true rfl) rfl ?_
  intro p e s m below meth c A ls C0 hP hD hS hX hl
  have C1 := C0
  obtain ⟨hx, hb, hr, hml, hown, hlocks, hname, hT, hN, hK, hA⟩ := C1
  refine va_gets hx hb hX.1.1 hS hown (hT _ wf_J0_38) (fun _ h9 => h9) dJ0_coder_7d493_0 ?_
  refine lv_if_eq (tgt := 13) hx hb dJ0_coder_7d493_3 (by decide) (fun c_0 => absurd c_0 (by decide)) (fun _ => ?_)
  refine lv_aload_n hx hb dJ0_coder_7d493_6 rfl (lv_at hl 0 rfl) ?_
  refine vk_getf hx hb hX.2.2.1 hS hown (hT _ wf_J0_15) (fun _ h9 => h9) dJ0_coder_7d493_7 ?_
  refine lv_goto (tgt := 14) hx hb dJ0_coder_7d493_10 (by decide) ?_
  exact retI C0 rfl () rfl (hP.sub (ws' := []) [] rfl) (hD.sub (ws' := []) [] (by decide) rfl) hS (Nat.le_of_ble_eq_true rfl) (Nat.le_of_ble_eq_true rfl) dJ0_coder_7d493_14

set_option maxHeartbeats 4000000 in
set_option maxRecDepth 100000 in
theorem js_length (l : Launch) (D : va_G) (cI cZ cQ cT : ClassId) (sz : Nat) (q : Nat) (t : Nat) (len : Nat) (f : Nat → Int32)  : MetI l yJ0_length_8abf5 cJ0_length_8abf5 1 .int ({ frames := 1, cells := 0, slots := 0, locals := 20 } : Room) [.ref q] D (TYS cI cZ cQ cT) (andX CS (SO q t len f)) sz [] (S := Unit) (fun (r : Int32) (_ : Unit) => r = (nI len)) (fun _ => []) := by
  refine MetI.mk (lv := [(0, .ref q)]) (by decide +kernel) (Nat.le_of_ble_eq_true rfl) rfl ?_
  intro p e s m below meth c A ls C0 hP hD hS hX hl
  have C1 := C0
  obtain ⟨hx, hb, hr, hml, hown, hlocks, hname, hT, hN, hK, hA⟩ := C1
  refine lv_aload_n hx hb dJ0_length_8abf5_0 rfl (lv_at hl 0 rfl) ?_
  refine vk_getf hx hb hX.2.2.2.1 hS hown (hT _ wf_J0_9) (fun _ h9 => h9) dJ0_length_8abf5_1 ?_
  refine va_tlen hx hb (hX.2.2.2.2) hS (v := nI len) rfl dJ0_length_8abf5_4 ?_
  refine lv_aload_n hx hb dJ0_length_8abf5_5 rfl (lv_at hl 0 rfl) ?_
  refine contI (wc := []) (wr := []) C0 hP hD hS [] [] rfl rfl (by decide) (by decide) 0 0 (Nat.le_of_ble_eq_true rfl) (Nat.le_of_ble_eq_true rfl) (runVX (k := 0) (As := []) (rest := [.int (nI len)]) C0 (js_coder l D cI cZ cQ cT _ q t len f) wc_J0_coder_7d493 wl_J0_335 wi_J0_coder_7d493 we_J0_coder_7d493 wz_J0 ⟨by decide, by decide, by decide +kernel⟩ ⟨(Nat.le_of_ble_eq_true rfl), (Nat.le_of_ble_eq_true rfl)⟩ hP hD hS (andX.ok CS.ok SO.ok) hX [] rfl (by decide) (SO.recv hX.2 hS) rfl hl.1 rfl (Nat.le_of_ble_eq_true rfl) dJ0_length_8abf5_6 ⟨(Nat.le_of_ble_eq_true rfl), (Nat.le_of_ble_eq_true rfl)⟩) (fun r_3 u_1 H locs w_2 hP hD hS => ?_)
  have hP : va_P D CL [] H := hP
  have hD : va_D A [] := hD
  obtain rfl : r_3 = 0 := w_2
  refine lv_ishr hx hb dJ0_length_8abf5_9 ?_
  exact retI C0 rfl () (shr0 _) (hP.sub (ws' := []) [] rfl) (hD.sub (ws' := []) [] (by decide) rfl) hS (Nat.le_of_ble_eq_true rfl) (Nat.le_of_ble_eq_true rfl) dJ0_length_8abf5_10

set_option maxHeartbeats 4000000 in
set_option maxRecDepth 100000 in
theorem js_isLatin1 (l : Launch) (D : va_G) (cI cZ cQ cT : ClassId) (sz : Nat) (q : Nat) (t : Nat) (len : Nat) (f : Nat → Int32)  : MetI l yJ0_isLatin1_aae02 cJ0_isLatin1_aae02 1 .boolean ({ frames := 0, cells := 0, slots := 0, locals := 0 } : Room) [.ref q] D (TYS cI cZ cQ cT) (andX CS (SO q t len f)) sz [] (S := Unit) (fun (r : Int32) (_ : Unit) => r = 1) (fun _ => []) := by
  refine MetI.mk (lv := [(0, .ref q)]) (by decide +kernel) (Nat.le_of_ble_eq_true rfl) rfl ?_
  intro p e s m below meth c A ls C0 hP hD hS hX hl
  have C1 := C0
  obtain ⟨hx, hb, hr, hml, hown, hlocks, hname, hT, hN, hK, hA⟩ := C1
  refine va_gets hx hb hX.1.1 hS hown (hT _ wf_J0_38) (fun _ h9 => h9) dJ0_isLatin1_aae02_0 ?_
  refine lv_if_eq (tgt := 17) hx hb dJ0_isLatin1_aae02_3 (by decide) (fun c_0 => absurd c_0 (by decide)) (fun _ => ?_)
  refine lv_aload_n hx hb dJ0_isLatin1_aae02_6 rfl (lv_at hl 0 rfl) ?_
  refine vk_getf hx hb hX.2.2.1 hS hown (hT _ wf_J0_15) (fun _ h9 => h9) dJ0_isLatin1_aae02_7 ?_
  refine lv_if_ne (tgt := 17) hx hb dJ0_isLatin1_aae02_10 (by decide) (fun c_0 => absurd (by decide) c_0) (fun _ => ?_)
  refine lv_iconst (v := 1) hx hb dJ0_isLatin1_aae02_13 (by decide) ?_
  refine lv_goto (tgt := 18) hx hb dJ0_isLatin1_aae02_14 (by decide) ?_
  exact retI C0 rfl () rfl (hP.sub (ws' := []) [] rfl) (hD.sub (ws' := []) [] (by decide) rfl) hS (Nat.le_of_ble_eq_true rfl) (Nat.le_of_ble_eq_true rfl) dJ0_isLatin1_aae02_18

set_option maxHeartbeats 4000000 in
set_option maxRecDepth 100000 in
theorem jp_check0 (l : Launch) (D : va_G) (cI cZ cQ cT : ClassId) (sz : Nat) (i : Int32) (n : Nat) (hi : vp_in i n) (hn : n < 2 ^ 31) : MetI l yJ3_checkIndex_8e157 cJ3_checkIndex_8e157 3 .int ({ frames := 0, cells := 0, slots := 0, locals := 0 } : Room) [.int i, .int (nI n), .null] D (TYS cI cZ cQ cT) CS sz [] (S := Unit) (fun (r : Int32) (_ : Unit) => r = i) (fun _ => []) := by
  refine MetI.mk (lv := [(0, .int i), (1, .int (nI n)), (2, .null)]) (by decide +kernel) (Nat.le_of_ble_eq_true rfl) rfl ?_
  intro p e s m below meth c A ls C0 hP hD hS hX hl
  have C1 := C0
  obtain ⟨hx, hb, hr, hml, hown, hlocks, hname, hT, hN, hK, hA⟩ := C1
  refine lv_iload_n hx hb dJ3_checkIndex_8e157_0 rfl (lv_at hl 0 rfl) ?_
  refine lv_if_lt (tgt := 9) hx hb dJ3_checkIndex_8e157_1 (by decide) (fun c_0 => absurd c_0 (fun h => hi (Or.inl h))) (fun _ => ?_)
  refine lv_iload_n hx hb dJ3_checkIndex_8e157_4 rfl (lv_at hl 0 rfl) ?_
  refine lv_iload_n hx hb dJ3_checkIndex_8e157_5 rfl (lv_at hl 1 rfl) ?_
  refine lv_icmp_lt (tgt := 16) hx hb dJ3_checkIndex_8e157_6 (by decide) (fun _ => ?_) (fun c_0 => absurd (lt_of_in hi hn) c_0)
  refine lv_iload_n hx hb dJ3_checkIndex_8e157_16 rfl (lv_at hl 0 rfl) ?_
  exact retI C0 rfl () rfl (hP.sub (ws' := []) [] rfl) (hD.sub (ws' := []) [] (by decide) rfl) hS (Nat.le_of_ble_eq_true rfl) (Nat.le_of_ble_eq_true rfl) dJ3_checkIndex_8e157_17

set_option maxHeartbeats 4000000 in
set_option maxRecDepth 100000 in
theorem jp_check1 (l : Launch) (D : va_G) (cI cZ cQ cT : ClassId) (sz : Nat) (i : Int32) (fm : Nat) (n : Nat) (hi : vp_in i n) (hn : n < 2 ^ 31) : MetI l yJ3_checkIndex_8e157 cJ3_checkIndex_8e157 3 .int ({ frames := 0, cells := 0, slots := 0, locals := 0 } : Room) [.int i, .int (nI n), .ref fm] D (TYS cI cZ cQ cT) CS sz [] (S := Unit) (fun (r : Int32) (_ : Unit) => r = i) (fun _ => []) := by
  refine MetI.mk (lv := [(0, .int i), (1, .int (nI n)), (2, .ref fm)]) (by decide +kernel) (Nat.le_of_ble_eq_true rfl) rfl ?_
  intro p e s m below meth c A ls C0 hP hD hS hX hl
  have C1 := C0
  obtain ⟨hx, hb, hr, hml, hown, hlocks, hname, hT, hN, hK, hA⟩ := C1
  refine lv_iload_n hx hb dJ3_checkIndex_8e157_0 rfl (lv_at hl 0 rfl) ?_
  refine lv_if_lt (tgt := 9) hx hb dJ3_checkIndex_8e157_1 (by decide) (fun c_0 => absurd c_0 (fun h => hi (Or.inl h))) (fun _ => ?_)
  refine lv_iload_n hx hb dJ3_checkIndex_8e157_4 rfl (lv_at hl 0 rfl) ?_
  refine lv_iload_n hx hb dJ3_checkIndex_8e157_5 rfl (lv_at hl 1 rfl) ?_
  refine lv_icmp_lt (tgt := 16) hx hb dJ3_checkIndex_8e157_6 (by decide) (fun _ => ?_) (fun c_0 => absurd (lt_of_in hi hn) c_0)
  refine lv_iload_n hx hb dJ3_checkIndex_8e157_16 rfl (lv_at hl 0 rfl) ?_
  exact retI C0 rfl () rfl (hP.sub (ws' := []) [] rfl) (hD.sub (ws' := []) [] (by decide) rfl) hS (Nat.le_of_ble_eq_true rfl) (Nat.le_of_ble_eq_true rfl) dJ3_checkIndex_8e157_17

set_option maxHeartbeats 4000000 in
set_option maxRecDepth 100000 in
theorem js_checkIndex (l : Launch) (D : va_G) (cI cZ cQ cT : ClassId) (sz : Nat) (i : Int32) (n : Nat) (hi : vp_in i n) (hn : n < 2 ^ 31) : MetV l yJ0_checkIndex_df160 cJ0_checkIndex_df160 2 ({ frames := 1, cells := 0, slots := 0, locals := 22 } : Room) [.int i, .int (nI n)] D (TYS cI cZ cQ cT) CS sz [] (S := Unit) (fun (_ : Unit) => True) (fun _ => []) := by
  refine MetV.mk (lv := [(0, .int i), (1, .int (nI n))]) (by decide +kernel) (Nat.le_of_ble_eq_true rfl) rfl ?_
  intro p e s m below meth c A ls C0 hP hD hS hX hl
  have C1 := C0
  obtain ⟨hx, hb, hr, hml, hown, hlocks, hname, hT, hN, hK, hA⟩ := C1
  refine lv_iload_n hx hb dJ0_checkIndex_df160_0 rfl (lv_at hl 0 rfl) ?_
  refine lv_iload_n hx hb dJ0_checkIndex_df160_1 rfl (lv_at hl 1 rfl) ?_
  rcases hX.2 with z_1 | ⟨z_1t, z_1⟩
  · refine va_gets hx hb z_1 hS hown (hT _ wf_J0_1053) (fun _ h9 => h9) dJ0_checkIndex_df160_2 ?_
    refine contI (wc := []) (wr := []) C0 hP hD hS [] [] rfl rfl (by decide) (by decide) 0 0 (Nat.le_of_ble_eq_true rfl) (Nat.le_of_ble_eq_true rfl) (runS (k := 3) (As := [.int i, .int (nI n), .null]) (rest := []) C0 (jp_check0 l D cI cZ cQ cT _ i n hi hn) wc_J3_checkIndex_8e157 wl_J0_1059 wt_J3_checkIndex_8e157 wz_J3 ⟨by decide, by decide, by decide +kernel⟩ ⟨(Nat.le_of_ble_eq_true rfl), (Nat.le_of_ble_eq_true rfl)⟩ hP hD hS CS.ok hX [] rfl (by decide) rfl hl.1 rfl (Nat.le_of_ble_eq_true rfl) dJ0_checkIndex_df160_5 ⟨(Nat.le_of_ble_eq_true rfl), (Nat.le_of_ble_eq_true rfl)⟩) (fun r_4 u_2 H locs w_3 hP hD hS => ?_)
    have hP : va_P D CL [] H := hP
    have hD : va_D A [] := hD
    obtain rfl : r_4 = i := w_3
    refine lv_pop hx hb dJ0_checkIndex_df160_8 rfl ?_
    exact retV C0 () trivial (hP.sub (ws' := []) [] rfl) (hD.sub (ws' := []) [] (by decide) rfl) hS (Nat.le_of_ble_eq_true rfl) (Nat.le_of_ble_eq_true rfl) dJ0_checkIndex_df160_9
  · refine va_gets hx hb z_1 hS hown (hT _ wf_J0_1053) (fun _ h9 => h9) dJ0_checkIndex_df160_2 ?_
    refine contI (wc := []) (wr := []) C0 hP hD hS [] [] rfl rfl (by decide) (by decide) 0 0 (Nat.le_of_ble_eq_true rfl) (Nat.le_of_ble_eq_true rfl) (runS (k := 3) (As := [.int i, .int (nI n), .ref z_1t]) (rest := []) C0 (jp_check1 l D cI cZ cQ cT _ i z_1t n hi hn) wc_J3_checkIndex_8e157 wl_J0_1059 wt_J3_checkIndex_8e157 wz_J3 ⟨by decide, by decide, by decide +kernel⟩ ⟨(Nat.le_of_ble_eq_true rfl), (Nat.le_of_ble_eq_true rfl)⟩ hP hD hS CS.ok hX [] rfl (by decide) rfl hl.1 rfl (Nat.le_of_ble_eq_true rfl) dJ0_checkIndex_df160_5 ⟨(Nat.le_of_ble_eq_true rfl), (Nat.le_of_ble_eq_true rfl)⟩) (fun r_7 u_5 H locs w_6 hP hD hS => ?_)
    have hP : va_P D CL [] H := hP
    have hD : va_D A [] := hD
    obtain rfl : r_7 = i := w_6
    refine lv_pop hx hb dJ0_checkIndex_df160_8 rfl ?_
    exact retV C0 () trivial (hP.sub (ws' := []) [] rfl) (hD.sub (ws' := []) [] (by decide) rfl) hS (Nat.le_of_ble_eq_true rfl) (Nat.le_of_ble_eq_true rfl) dJ0_checkIndex_df160_9

set_option maxHeartbeats 4000000 in
set_option maxRecDepth 100000 in
theorem js_charAt1 (l : Launch) (D : va_G) (cI cZ cQ cT : ClassId) (sz : Nat) (t : Nat) (i : Int32) (q : Nat) (len : Nat) (f : Nat → Int32) (hi : vp_in i len) (hn : len < 2 ^ 31) : MetI l yJ1_charAt_3b067 cJ1_charAt_3b067 2 .char ({ frames := 2, cells := 0, slots := 0, locals := 43 } : Room) [.ref t, .int i] D (TYS cI cZ cQ cT) (andX CS (SO q t len f)) sz [] (S := Unit) (fun (r : Int32) (_ : Unit) => r = (f i.toNatClampNeg &&& 255)) (fun _ => []) := by
  refine MetI.mk (lv := [(0, .ref t), (1, .int i)]) (by decide +kernel) (Nat.le_of_ble_eq_true rfl) rfl ?_
  intro p e s m below meth c A ls C0 hP hD hS hX hl
  have C1 := C0
  obtain ⟨hx, hb, hr, hml, hown, hlocks, hname, hT, hN, hK, hA⟩ := C1
  refine lv_iload_n hx hb dJ1_charAt_3b067_0 rfl (lv_at hl 1 rfl) ?_
  refine lv_aload_n hx hb dJ1_charAt_3b067_1 rfl (lv_at hl 0 rfl) ?_
  refine va_tlen hx hb (hX.2.2.2.2) hS (v := nI len) rfl dJ1_charAt_3b067_2 ?_
  refine contV (wc := []) (wr := []) C0 hP hD hS [] [] rfl rfl (by decide) (by decide) 0 0 (Nat.le_of_ble_eq_true rfl) (Nat.le_of_ble_eq_true rfl) (runS (k := 2) (As := [.int i, .int (nI len)]) (rest := []) C0 (js_checkIndex l D cI cZ cQ cT _ i len hi hn) wc_J0_checkIndex_df160 wl_J1_9 wt_J0_checkIndex_df160 wz_J0 ⟨by decide, by decide, by decide +kernel⟩ ⟨(Nat.le_of_ble_eq_true rfl), (Nat.le_of_ble_eq_true rfl)⟩ hP hD hS CS.ok hX.1 [] rfl (by decide) rfl hl.1 rfl (Nat.le_of_ble_eq_true rfl) dJ1_charAt_3b067_3 ⟨(Nat.le_of_ble_eq_true rfl), (Nat.le_of_ble_eq_true rfl)⟩) (fun u_1 H locs w_2 hP hD hS => ?_)
  have hP : va_P D CL [] H := hP
  have hD : va_D A [] := hD
  refine lv_aload_n hx hb dJ1_charAt_3b067_6 rfl (lv_at hl 0 rfl) ?_
  refine lv_iload_n hx hb dJ1_charAt_3b067_7 rfl (lv_at hl 1 rfl) ?_
  refine va_tb hx hb (hX.2.2.2.2) hS hi rfl dJ1_charAt_3b067_8 ?_
  refine lv_sipush (v := 255) hx hb dJ1_charAt_3b067_9 (by decide) ?_
  refine lv_iand hx hb dJ1_charAt_3b067_12 ?_
  refine lv_i2c (v := ((((f (i).toNatClampNeg) &&& (255 : Int32))).toUInt32 % 65536).toInt32) hx hb dJ1_charAt_3b067_13 rfl ?_
  exact retI C0 (pk_nc _) () (sc_c2 _) (hP.sub (ws' := []) [] rfl) (hD.sub (ws' := []) [] (by decide) rfl) hS (Nat.le_of_ble_eq_true rfl) (Nat.le_of_ble_eq_true rfl) dJ1_charAt_3b067_14

set_option maxHeartbeats 4000000 in
set_option maxRecDepth 100000 in
theorem js_charAt (l : Launch) (D : va_G) (cI cZ cQ cT : ClassId) (sz : Nat) (q : Nat) (i : Int32) (t : Nat) (len : Nat) (f : Nat → Int32) (hi : vp_in i len) (hn : len < 2 ^ 31) : MetI l yJ0_charAt_5068e cJ0_charAt_5068e 2 .char ({ frames := 3, cells := 0, slots := 0, locals := 64 } : Room) [.ref q, .int i] D (TYS cI cZ cQ cT) (andX CS (SO q t len f)) sz [] (S := Unit) (fun (r : Int32) (_ : Unit) => r = (f i.toNatClampNeg &&& 255)) (fun _ => []) := by
  refine MetI.mk (lv := [(0, .ref q), (1, .int i)]) (by decide +kernel) (Nat.le_of_ble_eq_true rfl) rfl ?_
  intro p e s m below meth c A ls C0 hP hD hS hX hl
  have C1 := C0
  obtain ⟨hx, hb, hr, hml, hown, hlocks, hname, hT, hN, hK, hA⟩ := C1
  refine lv_aload_n hx hb dJ0_charAt_5068e_0 rfl (lv_at hl 0 rfl) ?_
  refine contI (wc := []) (wr := []) C0 hP hD hS [] [] rfl rfl (by decide) (by decide) 0 0 (Nat.le_of_ble_eq_true rfl) (Nat.le_of_ble_eq_true rfl) (runVX (k := 0) (As := []) (rest := []) C0 (js_isLatin1 l D cI cZ cQ cT _ q t len f) wc_J0_isLatin1_aae02 wl_J0_492 wi_J0_isLatin1_aae02 we_J0_isLatin1_aae02 wz_J0 ⟨by decide, by decide, by decide +kernel⟩ ⟨(Nat.le_of_ble_eq_true rfl), (Nat.le_of_ble_eq_true rfl)⟩ hP hD hS (andX.ok CS.ok SO.ok) hX [] rfl (by decide) (SO.recv hX.2 hS) rfl hl.1 rfl (Nat.le_of_ble_eq_true rfl) dJ0_charAt_5068e_1 ⟨(Nat.le_of_ble_eq_true rfl), (Nat.le_of_ble_eq_true rfl)⟩) (fun r_3 u_1 H locs w_2 hP hD hS => ?_)
  have hP : va_P D CL [] H := hP
  have hD : va_D A [] := hD
  obtain rfl : r_3 = 1 := w_2
  refine lv_if_eq (tgt := 16) hx hb dJ0_charAt_5068e_4 (by decide) (fun c_0 => absurd c_0 (by decide)) (fun _ => ?_)
  refine lv_aload_n hx hb dJ0_charAt_5068e_7 rfl (lv_at hl 0 rfl) ?_
  refine vk_getf hx hb hX.2.2.2.1 hS hown (hT _ wf_J0_9) (fun _ h9 => h9) dJ0_charAt_5068e_8 ?_
  refine lv_iload_n hx hb dJ0_charAt_5068e_11 rfl (lv_at hl 1 rfl) ?_
  refine contI (wc := []) (wr := []) C0 hP hD hS [] [] rfl rfl (by decide) (by decide) 0 0 (Nat.le_of_ble_eq_true rfl) (Nat.le_of_ble_eq_true rfl) (runS (k := 2) (As := [.ref t, .int i]) (rest := []) C0 (js_charAt1 l D cI cZ cQ cT _ t i q len f hi hn) wc_J1_charAt_3b067 wl_J0_495 wt_J1_charAt_3b067 wz_J1 ⟨by decide, by decide, by decide +kernel⟩ ⟨(Nat.le_of_ble_eq_true rfl), (Nat.le_of_ble_eq_true rfl)⟩ hP hD hS (andX.ok CS.ok SO.ok) hX [] rfl (by decide) rfl hl.1 rfl (Nat.le_of_ble_eq_true rfl) dJ0_charAt_5068e_12 ⟨(Nat.le_of_ble_eq_true rfl), (Nat.le_of_ble_eq_true rfl)⟩) (fun r_6 u_4 H locs w_5 hP hD hS => ?_)
  have hP : va_P D CL [] H := hP
  have hD : va_D A [] := hD
  obtain rfl : r_6 = (f i.toNatClampNeg &&& 255) := w_5
  exact retI C0 (sc_nar _) () rfl (hP.sub (ws' := []) [] rfl) (hD.sub (ws' := []) [] (by decide) rfl) hS (Nat.le_of_ble_eq_true rfl) (Nat.le_of_ble_eq_true rfl) dJ0_charAt_5068e_15
end GM
section CXL
theorem vin_of2 {i k : Int32} {n : Nat} (hk : k.toInt = n) (h0 : (0 : Int32) ≤ i) (h1 : i < k) : vp_in i n := by
  have z : (0 : Int32).toInt = 0 := by decide
  have a := le_i.mp h0
  have b := lt_i.mp h1
  obtain ⟨j, hj, rfl⟩ := nI_of (x := i) (fun q => by have := lt_i.mp q; omega)
  rw [nI_toInt hj] at b
  have hk2 := Int32.toInt_lt k
  exact vp_in_nI (n := j) (by omega) (by omega)
theorem max1_ne (x : Int32) : (if x < (1 : Int32) then (1 : Int32) else x) ≠ 0 := by
  split
  · decide
  · rename_i h
    intro e
    rw [e] at h
    exact h (by decide)
theorem per_n4 {P : Nat} {x : Int32} (hP4 : P ≤ 4) (c : ¬ nI P ≤ x) : ¬ (4 : Int32) ≤ x := by
  have z : (4 : Int32).toInt = 4 := by decide
  have hp : (nI P).toInt = P := nI_toInt (by omega)
  intro h
  have a := le_i.mp h
  exact c (le_i.mpr (by omega))
theorem has_t {x y : Int32} (c0 : ¬ x < 0) (c1 : ¬ y ≤ x) : 0 ≤ x ∧ x < y := ⟨Int32.not_lt.mp c0, Int32.not_le.mp c1⟩
theorem has_f1 {x y : Int32} (c : x < 0) : ¬ (0 ≤ x ∧ x < y) := fun h => Int32.not_le.mpr c h.1
theorem has_f2 {x y : Int32} (c : y ≤ x) : ¬ (0 ≤ x ∧ x < y) := fun h => Int32.not_lt.mpr c h.2
theorem max0_nat (x : Int32) : ∃ n : Nat, n < 2147483648 ∧ (if x < (0 : Int32) then (0 : Int32) else x) = nI n := by
  split
  · exact ⟨0, by decide, rfl⟩
  · rename_i h
    obtain ⟨j, hj, e⟩ := nI_of (x := x) h
    exact ⟨j, hj, e⟩
theorem cpy0 {f g : Nat → Int32} {i : Nat} (h : i < 4) : va_cpy f g ((0 : Int32)).toNatClampNeg ((0 : Int32)).toNatClampNeg ((4 : Int32)).toNatClampNeg i = f i := by
  show (if _ then _ else _) = _
  rw [if_pos ⟨Nat.zero_le _, (by exact h)⟩]
  simp
def rf5 (t1 t2 t3 t4 t5 : Nat) : Nat → Option Nat := va_up (va_up (va_up (va_up (va_up (fun _ => none) ((0 : Int32)).toNatClampNeg (some t1)) ((1 : Int32)).toNatClampNeg (some t2)) ((2 : Int32)).toNatClampNeg (some t3)) ((3 : Int32)).toNatClampNeg (some t4)) ((4 : Int32)).toNatClampNeg (some t5)
/-- the town that holds -/
def nwT (tw : Int32) (an t1 t2 t3 t4 t5 : Nat) : Nat := if tw - 1 = 0 then t1 else if tw - 1 = 1 then t2 else if tw - 1 = 2 then t3 else if tw - 1 = 3 then t4 else if tw - 1 = 4 then t5 else an
theorem nwT_or (tw : Int32) (an t1 t2 t3 t4 t5 : Nat) : an = nwT tw an t1 t2 t3 t4 t5 ∨ t1 = nwT tw an t1 t2 t3 t4 t5 ∨ t2 = nwT tw an t1 t2 t3 t4 t5 ∨ t3 = nwT tw an t1 t2 t3 t4 t5 ∨ t4 = nwT tw an t1 t2 t3 t4 t5 ∨ t5 = nwT tw an t1 t2 t3 t4 t5 := by
  unfold nwT
  split
  · exact Or.inr (Or.inl rfl)
  split
  · exact Or.inr (Or.inr (Or.inl rfl))
  split
  · exact Or.inr (Or.inr (Or.inr (Or.inl rfl)))
  split
  · exact Or.inr (Or.inr (Or.inr (Or.inr (Or.inl rfl))))
  split
  · exact Or.inr (Or.inr (Or.inr (Or.inr (Or.inr rfl))))
  · exact Or.inl rfl
theorem nwT_0 {tw : Int32} {an t1 t2 t3 t4 t5 : Nat} (e : tw - 1 = 0) : nwT tw an t1 t2 t3 t4 t5 = t1 := if_pos e
theorem nwT_1 {tw : Int32} {an t1 t2 t3 t4 t5 : Nat} (e : tw - 1 = 1) : nwT tw an t1 t2 t3 t4 t5 = t2 := by unfold nwT; rw [if_neg (by rw [e]; decide), if_pos e]
theorem nwT_2 {tw : Int32} {an t1 t2 t3 t4 t5 : Nat} (e : tw - 1 = 2) : nwT tw an t1 t2 t3 t4 t5 = t3 := by unfold nwT; rw [if_neg (by rw [e]; decide), if_neg (by rw [e]; decide), if_pos e]
theorem nwT_3 {tw : Int32} {an t1 t2 t3 t4 t5 : Nat} (e : tw - 1 = 3) : nwT tw an t1 t2 t3 t4 t5 = t4 := by unfold nwT; rw [if_neg (by rw [e]; decide), if_neg (by rw [e]; decide), if_neg (by rw [e]; decide), if_pos e]
theorem nwT_4 {tw : Int32} {an t1 t2 t3 t4 t5 : Nat} (e : tw - 1 = 4) : nwT tw an t1 t2 t3 t4 t5 = t5 := by unfold nwT; rw [if_neg (by rw [e]; decide), if_neg (by rw [e]; decide), if_neg (by rw [e]; decide), if_neg (by rw [e]; decide), if_pos e]
theorem nwT_lo {tw : Int32} {an t1 t2 t3 t4 t5 : Nat} (h : tw - 1 < 0) : nwT tw an t1 t2 t3 t4 t5 = an := by
  have q : ∀ k : Int32, 0 ≤ k → ¬ tw - 1 = k := fun k hk e => Int32.not_le.mpr (e ▸ h) hk
  unfold nwT
  rw [if_neg (q 0 (by decide)), if_neg (q 1 (by decide)), if_neg (q 2 (by decide)), if_neg (q 3 (by decide)), if_neg (q 4 (by decide))]
theorem nwT_hi {tw : Int32} {an t1 t2 t3 t4 t5 : Nat} (h : (5 : Int32) ≤ tw - 1) : nwT tw an t1 t2 t3 t4 t5 = an := by
  have q : ∀ k : Int32, k < 5 → ¬ tw - 1 = k := fun k hk e => Int32.not_lt.mpr (e ▸ h) hk
  unfold nwT
  rw [if_neg (q 0 (by decide)), if_neg (q 1 (by decide)), if_neg (q 2 (by decide)), if_neg (q 3 (by decide)), if_neg (q 4 (by decide))]
end CXL
section CXM
theorem cpy10 {f g : Nat → Int32} {i : Nat} (h : i < 10) : va_cpy f g ((0 : Int32)).toNatClampNeg ((0 : Int32)).toNatClampNeg ((10 : Int32)).toNatClampNeg i = f i := by
  show (if _ then _ else _) = _
  rw [if_pos ⟨Nat.zero_le _, (by exact h)⟩]
  simp
theorem cpy100 {f g : Nat → Int32} {i : Nat} (h : i < 100) : va_cpy f g ((0 : Int32)).toNatClampNeg ((0 : Int32)).toNatClampNeg ((100 : Int32)).toNatClampNeg i = f i := by
  show (if _ then _ else _) = _
  rw [if_pos ⟨Nat.zero_le _, (by exact h)⟩]
  simp
theorem AF.init {f : Nat → Int32} (h : ∀ i, i ≠ 4 → f i = 0) : AF f F0k := ⟨fun j hj => h _ (by omega), fun j hj => h _ (by omega), fun j hj => h _ (by omega)⟩
theorem CF.zero : CF (fun _ => 0) (fun _ => 0) (fun _ => 0) F0k := ⟨fun _ _ => rfl, fun _ _ => rfl, fun _ _ => rfl⟩
end CXM
/-! the class's days: what its methods need -/
section CL2
theorem msk_o : ∀ p : Nat, p < 4 → (585 : Int32) &&& (((1 : Int32) <<< ((nI (3 * p)) &&& 31)) ^^^ (-1)) = nI (mskO p) := by decide +kernel
theorem nge4 {p : Nat} (h : p < 4) : ¬ (4 : Int32) ≤ nI p := fun q => by
  have := (nI_leI (a := 4) (b := p) (by decide) (by omega)).mp q
  omega
theorem nlt3 {h : Nat} (hh : h < 3) : nI h < (3 : Int32) := (nI_ltI (a := h) (b := 3) (by omega) (by decide)).mpr hh
theorem nge_n {a n : Nat} (hn : n < 2 ^ 31) (h : a < n) : ¬ nI n ≤ nI a := fun q => by
  have := (nI_leI (a := n) (b := a) hn (by omega)).mp q
  omega
theorem nlt_n {a n : Nat} (hn : n < 2 ^ 31) (h : a < n) : nI a < nI n := (nI_ltI (a := a) (b := n) (by omega) hn).mpr h
theorem nge_c {a n : Nat} {z : Int32} (e : nI n = z) (hn : n < 2 ^ 31) (h : a < n) : ¬ z ≤ nI a := by
  rw [← e]; exact nge_n hn h
theorem nlt_c {a n : Nat} {z : Int32} (e : nI n = z) (hn : n < 2 ^ 31) (h : a < n) : nI a < z := by
  rw [← e]; exact nlt_n hn h
section
variable {a b c d f : Nat → Int32} {E : Ev} {p k s h i : Nat} {O : Nat → Nat}
theorem WR.a0 (W : WR (s4 a b c d p) E p k) (h : p = 0) : WR a E p k := by
  have e : s4 a b c d p = a := by rw [h]; rfl
  rw [e] at W; exact W
theorem WR.a1 (W : WR (s4 a b c d p) E p k) (h : p = 1) : WR b E p k := by
  have e : s4 a b c d p = b := by rw [h]; rfl
  rw [e] at W; exact W
theorem WR.a2 (W : WR (s4 a b c d p) E p k) (h : p = 2) : WR c E p k := by
  have e : s4 a b c d p = c := by rw [h]; rfl
  rw [e] at W; exact W
theorem WR.a3 (W : WR (s4 a b c d p) E p k) (h : p = 3) : WR d E p k := by
  have e : s4 a b c d p = d := by rw [h]; rfl
  rw [e] at W; exact W
theorem wc_z (W : WR f E p k) (hO : O p < 2) (hh : h = 0) (hi : i = 8 * (s / 8 % 4) + O p) : f i = wS E k O p s h := by
  rw [hh]; exact wc_0 W hO hi
theorem wc_s (W : WR f E p k) (hh : ¬ h = 0) (h3 : h < 3) (hi : i = 2 * (16 * h + s / 2 ^ (3 + 2 * (h - 1)) % 16) + s / 2 ^ (h - 1) % 2) : f i = wS E k O p s h := by
  rcases (show h = 1 ∨ h = 2 by omega) with rfl | rfl
  · have e1 : (2 : Nat) ^ (3 + 2 * (1 - 1)) = 8 := rfl
    have e2 : (2 : Nat) ^ (1 - 1) = 1 := rfl
    rw [e1, e2] at hi
    exact wc_1 W (by omega)
  · have e1 : (2 : Nat) ^ (3 + 2 * (2 - 1)) = 32 := rfl
    have e2 : (2 : Nat) ^ (2 - 1) = 2 := rfl
    rw [e1, e2] at hi
    exact wc_2 W (by omega)
end
theorem pr_or {F : Fk} {O : Nat → Nat} {E : Ev} {p s ps h : Nat} (e : ¬ wd F O E p s ps h = 0) : prN F O E p s ps h ||| 2 ^ h = prN F O E p s ps (h + 1) := by
  have l := prN_lt (F := F) (O := O) (E := E) (p := p) (s := s) (ps := ps) h
  have hw := wd_lt (F := F) (O := O) (E := E) (p := p) (s := s) (ps := ps) (h := h)
  have := Nat.two_pow_add_eq_or_of_lt l 1
  rw [Nat.mul_one] at this
  rw [Nat.or_comm, ← this]
  show _ = prN F O E p s ps h + wd F O E p s ps h * 2 ^ h
  rw [show wd F O E p s ps h = 1 by omega, Nat.one_mul, Nat.add_comm]
theorem pr_0 {F : Fk} {O : Nat → Nat} {E : Ev} {p s ps h : Nat} (e : wd F O E p s ps h = 0) : prN F O E p s ps h = prN F O E p s ps (h + 1) := by
  show _ = prN F O E p s ps h + wd F O E p s ps h * 2 ^ h
  rw [e, Nat.zero_mul]; rfl
theorem pr_lt8 {F : Fk} {O : Nat → Nat} {E : Ev} {p s ps h : Nat} (hh : h ≤ 3) : prN F O E p s ps h < 8 := Nat.lt_of_lt_of_le (prN_lt h) (Nat.pow_le_pow_right (n := 2) (i := h) (j := 3) (by decide) hh)
theorem bN_is0 {b : Bool} (h : bN b = 0) : ¬ b = true := fun e => by
  rw [e] at h; exact absurd h (by decide)
theorem bN_not0 {b : Bool} (h : ¬ bN b = 0) : b = true := by
  cases b with
  | true => rfl
  | false => exact absurd rfl h
theorem no_2p : ∀ p : Nat, p < 4 → nI (2 ^ p) ^^^ (-1) = nI (4294967295 - 2 ^ p) := by decide +kernel
section
variable {r o h : Nat}
theorem xo_8 : ∀ r o : Fin 8, r.val ^^^ o.val < 8 := by decide +kernel
theorem x_lt (hr : r < 8) (ho : o < 8) : r ^^^ o < 8 := xo_8 ⟨r, hr⟩ ⟨o, ho⟩
theorem p2_0 (x : Nat) : x / 2 ^ 0 % 2 = x % 2 := by rw [Nat.pow_zero, Nat.div_one]
theorem fo_zero (hr : r < 8) (ho : o < 8) (e : r ^^^ o = 0) : hD r o = 3 := (fo_xx hr ho rfl).2.1 e
theorem fo_hit (hr : r < 8) (ho : o < 8) (hh : h < 3) (inv : ∀ i, i < h → ¬ (r ^^^ o) / 2 ^ i % 2 = 1) (b : (r ^^^ o) / 2 ^ h % 2 = 1) : hD r o = h := by
  obtain ⟨-, -, a0, a1, a2, -⟩ := fo_xx hr ho (x := r ^^^ o) rfl
  rcases (show h = 0 ∨ h = 1 ∨ h = 2 by omega) with rfl | rfl | rfl
  · rw [p2_0] at b; exact a0 b
  · have i0 := inv 0 (by omega); rw [p2_0] at i0
    exact a1 i0 b
  · have i0 := inv 0 (by omega); rw [p2_0] at i0
    exact a2 i0 (inv 1 (by omega)) b
theorem fo_miss (hr : r < 8) (ho : o < 8) (inv : ∀ i, i < 3 → ¬ (r ^^^ o) / 2 ^ i % 2 = 1) : hD r o = 3 := by
  obtain ⟨-, -, -, -, -, a3⟩ := fo_xx hr ho (x := r ^^^ o) rfl
  have i0 := inv 0 (by omega); rw [p2_0] at i0
  exact a3 i0 (inv 1 (by omega)) (inv 2 (by omega))
end
/-- what was found, but for how many -/
def SEq (i8 i9 i10 i11 : Int32) (s : SR) : Prop := i8 = s.2.1 ∧ i9 = s.2.2.1 ∧ i10 = s.2.2.2.1 ∧ (0 < s.1 → i11 = s.2.2.2.2)
section
variable {P : Nat} {F : Fk} {O : Nat → Nat} {Y : Nat} {E : Ev} {d st : Nat} {i5 i6 i7 i8 i9 i10 i11 : Int32} {wk a b c e ya yb yc yd : Nat → Int32}
theorem SEq.start : SEq (-5) (-5) (-5) i11 (seN P F O Y E 0) := ⟨rfl, rfl, rfl, fun h => absurd h (Nat.not_lt_zero 0)⟩
theorem SEq.skip (h : ¬ foD P F O Y E d = -5) (q : SEq i8 i9 i10 i11 (seN P F O Y E d)) : SEq i8 i9 i10 i11 (seN P F O Y E (d + 1)) := by
  rw [seN_0 h]; exact q
theorem SEq.add0 (h : foD P F O Y E d = -5) (z : (seN P F O Y E d).1 = 0) : SEq (nI d) (nI d) (nI d) (gaN P F O E d P) (seN P F O Y E (d + 1)) := by
  rw [seN_1 h z]; exact ⟨rfl, rfl, rfl, fun _ => rfl⟩
theorem SEq.add1 (q : SEq i8 i9 i10 i11 (seN P F O Y E d)) (h : foD P F O Y E d = -5) (z : ¬ (seN P F O Y E d).1 = 0) (g : i11 < gaN P F O E d P) : SEq i8 (nI d) (nI d) (gaN P F O E d P) (seN P F O Y E (d + 1)) := by
  have g2 := q.2.2.2 (Nat.pos_of_ne_zero z)
  rw [seN_2 h z (by rw [← g2]; exact g)]; exact ⟨q.1, rfl, rfl, fun _ => rfl⟩
theorem SEq.add2 (q : SEq i8 i9 i10 i11 (seN P F O Y E d)) (h : foD P F O Y E d = -5) (z : ¬ (seN P F O Y E d).1 = 0) (g : ¬ i11 < gaN P F O E d P) : SEq i8 (nI d) i10 i11 (seN P F O Y E (d + 1)) := by
  have g2 := q.2.2.2 (Nat.pos_of_ne_zero z)
  rw [seN_3 h z (by rw [← g2]; exact g)]; exact ⟨q.1, rfl, q.2.2.1, fun _ => g2⟩
theorem se_up (h : foD P F O Y E d = -5) (s : st = (seN P F O Y E d).1) : st + 1 = (seN P F O Y E (d + 1)).1 := by rw [seN_s1 h, s]
theorem se_st (h : ¬ foD P F O Y E d = -5) (s : st = (seN P F O Y E d).1) : st = (seN P F O Y E (d + 1)).1 := by rw [seN_0 h, s]
theorem DST.k (h : DST i5 i6 i7 i8 i9 i10 i11 wk a b c e ya yb yc yd P F O Y E) : WKr wk a b c e E := h.1
theorem one_ne0 : ¬ (1 : Int32) = 0 := by decide
theorem DST.kk (h : DST 1 i6 i7 i8 i9 i10 i11 wk a b c e ya yb yc yd P F O Y E) : ∀ p, p < P → wk p = nI (F.1 p) := by
  rcases h.2.1 with q | q
  · exact absurd q one_ne0
  · exact q.2.1
theorem DST.r (h : DST 1 i6 i7 i8 i9 i10 i11 wk a b c e ya yb yc yd P F O Y E) : RPs ya yb yc yd P F O Y E P := by
  rcases h.2.1 with q | q
  · exact absurd q one_ne0
  · exact q.2.2
theorem DST.w (h : DST 1 i6 i7 i8 i9 i10 i11 wk a b c e ya yb yc yd P F O Y E) (B : FB F) (h4 : P ≤ 4) : WRs a b c e P F E := h.1.s B h4 h.kk
theorem DST.s (h : DST 1 1 i7 i8 i9 i10 i11 wk a b c e ya yb yc yd P F O Y E) : SEr i7 i8 i9 i10 i11 (seD P F O Y E) := by
  rcases h.2.2 with q | q
  · exact absurd q one_ne0
  · exact q.2.2
theorem DST.ready (K : WKr wk a b c e E) (k : ∀ p, p < P → wk p = nI (F.1 p)) (R : RPs ya yb yc yd P F O Y E P) (h6 : i6 = 0 ∨ (i6 = 1 ∧ SEr i7 i8 i9 i10 i11 (seD P F O Y E))) : DST 1 i6 i7 i8 i9 i10 i11 wk a b c e ya yb yc yd P F O Y E :=
  ⟨K, Or.inr ⟨rfl, k, R⟩, h6.elim Or.inl (fun q => Or.inr ⟨q.1, rfl, q.2⟩)⟩
theorem DST.found (h : DST 1 i6 i7 i8 i9 i10 i11 wk a b c e ya yb yc yd P F O Y E) {j7 j8 j9 j10 j11 : Int32} (s : SEr j7 j8 j9 j10 j11 (seD P F O Y E)) : DST 1 1 j7 j8 j9 j10 j11 wk a b c e ya yb yc yd P F O Y E :=
  ⟨h.1, Or.inr ⟨rfl, h.kk, h.r⟩, Or.inr ⟨rfl, rfl, s⟩⟩
theorem SEr.mk (h : st = (seD P F O Y E).1) (q : SEq i8 i9 i10 i11 (seD P F O Y E)) : SEr (nI st) i8 i9 i10 i11 (seD P F O Y E) := ⟨congrArg nI h, q.1, q.2.1, q.2.2.1, q.2.2.2⟩
theorem SEr.q (h : SEr i7 i8 i9 i10 i11 (seD P F O Y E)) : SEq i8 i9 i10 i11 (seD P F O Y E) := h.2
theorem sq_done (q : SEq i8 i9 i10 i11 (seN P F O Y E d)) (e : d = d8 P) : SEq i8 i9 i10 i11 (seD P F O Y E) := by
  subst e; exact q
theorem st_done (q : st = (seN P F O Y E d).1) (e : d = d8 P) : st = (seD P F O Y E).1 := by
  subst e; exact q
end
/-- the six towns' codes: none yet, and those there are -/
def hoT (T : Nat) (tf : Nat → TWN) : TWN := if T = 0 then (0, []) else tf (T - 1)
theorem hoT_0 {T : Nat} {tf : Nat → TWN} (h : T = 0) : hoT T tf = (0, []) := if_pos h
theorem hoT_s {T n : Nat} {tf : Nat → TWN} (h : T = n + 1) : hoT T tf = tf n := by
  subst h
  exact if_neg (Nat.succ_ne_zero n)
def TQ6 (T : Nat) (tf : Nat → TWN) (Q0 Q1 Q2 Q3 Q4 Q5 : TWN → Prop) : Prop := Q0 (0, []) ∧ (0 < T → Q1 (tf 0)) ∧ (1 < T → Q2 (tf 1)) ∧ (2 < T → Q3 (tf 2)) ∧ (3 < T → Q4 (tf 3)) ∧ (4 < T → Q5 (tf 4))
section
variable {T an t1 t2 t3 t4 t5 : Nat} {tf : Nat → TWN} {Q0 Q1 Q2 Q3 Q4 Q5 : TWN → Prop}
theorem TQ6.now (h : TQ6 T tf Q0 Q1 Q2 Q3 Q4 Q5) (hT : T ≤ 5) : (nwT (nI T) an t1 t2 t3 t4 t5 = an ∧ Q0 (hoT T tf)) ∨ (nwT (nI T) an t1 t2 t3 t4 t5 = t1 ∧ Q1 (hoT T tf)) ∨ (nwT (nI T) an t1 t2 t3 t4 t5 = t2 ∧ Q2 (hoT T tf)) ∨ (nwT (nI T) an t1 t2 t3 t4 t5 = t3 ∧ Q3 (hoT T tf)) ∨ (nwT (nI T) an t1 t2 t3 t4 t5 = t4 ∧ Q4 (hoT T tf)) ∨ (nwT (nI T) an t1 t2 t3 t4 t5 = t5 ∧ Q5 (hoT T tf)) := by
  obtain ⟨h0, h1, h2, h3, h4, h5⟩ := h
  rcases (show T = 0 ∨ T = 1 ∨ T = 2 ∨ T = 3 ∨ T = 4 ∨ T = 5 by omega) with rfl | rfl | rfl | rfl | rfl | rfl
  · exact Or.inl ⟨nwT_lo (by decide +kernel), h0⟩
  · exact Or.inr (Or.inl ⟨nwT_0 (by decide +kernel), h1 (by decide)⟩)
  · exact Or.inr (Or.inr (Or.inl ⟨nwT_1 (by decide +kernel), h2 (by decide)⟩))
  · exact Or.inr (Or.inr (Or.inr (Or.inl ⟨nwT_2 (by decide +kernel), h3 (by decide)⟩)))
  · exact Or.inr (Or.inr (Or.inr (Or.inr (Or.inl ⟨nwT_3 (by decide +kernel), h4 (by decide)⟩))))
  · exact Or.inr (Or.inr (Or.inr (Or.inr (Or.inr ⟨nwT_4 (by decide +kernel), h5 (by decide)⟩))))
end
/-- the clauses read are in order -/
theorem tst1800 {w q v : Nat} (hw : w < 6) (hq : q < 3) (hv : v < 100) : (w * 3 + q) * 100 + v < 1800 := by omega
theorem ho_n {d p : Nat} : bcE (nI (d / 8 ^ p % 8)) = nI (hoN d p 3) := by
  have l : d / 8 ^ p % 8 < 8 := Nat.mod_lt _ (by decide)
  rw [bc_n (by omega), ho_bits]
theorem rw_sh {r j : Nat} (hr : r < 8) (hj : j < 4) : r * 2 ^ (3 * j) ≤ 3584 := by
  have : r * 2 ^ (3 * j) ≤ 7 * 2 ^ 9 := Nat.mul_le_mul (by omega) (Nat.pow_le_pow_right (by decide) (by omega))
  omega
theorem rw_sh8 {r j : Nat} (hr : r < 8) (hj : j < 8) : r * 2 ^ (3 * j) ≤ 14680064 := by
  have : r * 2 ^ (3 * j) ≤ 7 * 2 ^ 21 := Nat.mul_le_mul (by omega) (Nat.pow_le_pow_right (by decide) (by omega))
  omega
theorem si_sh {r h : Nat} (hr : r ≤ 3) (hh : h < 3) : r * 2 ^ (3 + 2 * h) ≤ 384 := by
  have : r * 2 ^ (3 + 2 * h) ≤ 3 * 2 ^ 7 := Nat.mul_le_mul hr (Nat.pow_le_pow_right (by decide) (by omega))
  omega
theorem pk_24 {g : Nat → Nat} (h : ∀ o, g o < 8) {n : Nat} (hn : n ≤ 8) : pkR g n ≤ 16777215 := by
  have a := pkR_lt h n
  have b : (8 : Nat) ^ n ≤ 8 ^ 8 := Nat.pow_le_pow_right (by decide) hn
  omega
end CL2
section CL3
theorem hoT_ok {T : Nat} {tf : Nat → TWN} (h : ∀ i, i < T → WFC (tf i).2 ∧ (tf i).1 < 100) : WFC (hoT T tf).2 ∧ (hoT T tf).1 < 100 := by
  rcases Nat.eq_zero_or_pos T with h0 | h0
  · rw [hoT_0 h0]
    exact ⟨fun c hc => absurd hc List.not_mem_nil, (by decide)⟩
  · obtain ⟨n, rfl⟩ : ∃ n, T = n + 1 := ⟨T - 1, by omega⟩
    rw [hoT_s rfl]
    exact h n (by omega)
section
variable {fk fv fr : Nat → Int32} {F : Fk} {c s q : Nat}
theorem tlF_up1 (e : s / 2 ^ q % 2 = 1) : (fS (tlF F c s q).1 q 6, F.2.1, fS (tlF F c s q).2.2 q (c / 8 ^ q % 8)) = tlF F c s (q + 1) := by
  unfold tlF
  have e1 : fS (fun p => if p < q ∧ s / 2 ^ p % 2 = 1 then 6 else F.1 p) q 6 = fun p => if p < q + 1 ∧ s / 2 ^ p % 2 = 1 then 6 else F.1 p := by
    funext p
    by_cases h : p = q
    · subst h; rw [fS_s]; exact (if_pos ⟨Nat.lt_succ_self p, e⟩).symm
    · rw [fS_n h]
      by_cases l : p < q ∧ s / 2 ^ p % 2 = 1
      · have l2 : p < q + 1 ∧ s / 2 ^ p % 2 = 1 := ⟨by omega, l.2⟩
        rw [if_pos l, if_pos l2]
      · have l2 : ¬ (p < q + 1 ∧ s / 2 ^ p % 2 = 1) := fun z => l ⟨by omega, z.2⟩
        rw [if_neg l, if_neg l2]
  have e2 : fS (fun p => if p < q ∧ s / 2 ^ p % 2 = 1 then c / 8 ^ p % 8 else F.2.2 p) q (c / 8 ^ q % 8) = fun p => if p < q + 1 ∧ s / 2 ^ p % 2 = 1 then c / 8 ^ p % 8 else F.2.2 p := by
    funext p
    by_cases h : p = q
    · subst h; rw [fS_s]; exact (if_pos ⟨Nat.lt_succ_self p, e⟩).symm
    · rw [fS_n h]
      by_cases l : p < q ∧ s / 2 ^ p % 2 = 1
      · have l2 : p < q + 1 ∧ s / 2 ^ p % 2 = 1 := ⟨by omega, l.2⟩
        rw [if_pos l, if_pos l2]
      · have l2 : ¬ (p < q + 1 ∧ s / 2 ^ p % 2 = 1) := fun z => l ⟨by omega, z.2⟩
        rw [if_neg l, if_neg l2]
  rw [e1, e2]
theorem tlF_up0 (e : ¬ s / 2 ^ q % 2 = 1) : tlF F c s q = tlF F c s (q + 1) := by
  unfold tlF
  have e1 : (fun p => if p < q ∧ s / 2 ^ p % 2 = 1 then 6 else F.1 p) = fun p => if p < q + 1 ∧ s / 2 ^ p % 2 = 1 then 6 else F.1 p := by
    funext p
    by_cases l : p < q ∧ s / 2 ^ p % 2 = 1
    · have l2 : p < q + 1 ∧ s / 2 ^ p % 2 = 1 := ⟨by omega, l.2⟩
      rw [if_pos l, if_pos l2]
    · have l2 : ¬ (p < q + 1 ∧ s / 2 ^ p % 2 = 1) := fun z => by
        by_cases h : p = q
        · subst h; exact e z.2
        · exact l ⟨by omega, z.2⟩
      rw [if_neg l, if_neg l2]
  have e2 : (fun p => if p < q ∧ s / 2 ^ p % 2 = 1 then c / 8 ^ p % 8 else F.2.2 p) = fun p => if p < q + 1 ∧ s / 2 ^ p % 2 = 1 then c / 8 ^ p % 8 else F.2.2 p := by
    funext p
    by_cases l : p < q ∧ s / 2 ^ p % 2 = 1
    · have l2 : p < q + 1 ∧ s / 2 ^ p % 2 = 1 := ⟨by omega, l.2⟩
      rw [if_pos l, if_pos l2]
    · have l2 : ¬ (p < q + 1 ∧ s / 2 ^ p % 2 = 1) := fun z => by
        by_cases h : p = q
        · subst h; exact e z.2
        · exact l ⟨by omega, z.2⟩
      rw [if_neg l, if_neg l2]
  rw [e1, e2]
theorem CF.tl1 (h : CF fk fv fr (tlF F c s q)) (e : s / 2 ^ q % 2 = 1) : CF (upd fk q (nI 6)) fv (upd fr q (nI (c / 8 ^ q % 8))) (tlF F c s (q + 1)) := by
  rw [← tlF_up1 e]
  exact ⟨h.1.put0, h.2.1, h.2.2.put0⟩
theorem CF.tl0 (h : CF fk fv fr (tlF F c s q)) (e : ¬ s / 2 ^ q % 2 = 1) : CF fk fv fr (tlF F c s (q + 1)) := by
  rw [← tlF_up0 e]; exact h
theorem CF.putK0 {p : Nat} (h : CF fk fv fr F) : CF (upd fk p (nI 3)) fv fr (scF F p) := ⟨h.1.put0, h.2.1, h.2.2⟩
theorem exF_B {a b : Nat} (B : FB F) (ha : a < 4) (hb : b < 4) : FB (fS (fS F.1 a (F.1 b)) b (F.1 a), fS (fS F.2.1 a (F.2.1 b)) b (F.2.1 a), F.2.2) := ⟨fS_lt (fS_lt B.1 (B.1 b hb)) (B.1 a ha), fS_lt (fS_lt B.2.1 (B.2.1 b hb)) (B.2.1 a ha), B.2.2⟩
end
/-- how few: what the class keeps beside the set -/
def SUr (u : Nat) (r w : Int32) : Prop := (u = 16 ∧ r = -5 ∧ w = 5) ∨ (u < 16 ∧ r = nI u ∧ w = nI (bN4 u))
theorem SUr.w {u : Nat} {r w : Int32} (h : SUr u r w) : ∃ k : Nat, k ≤ 5 ∧ w = nI k ∧ ∀ s, bN4 s < k ↔ (u = 16 ∨ bN4 s < bN4 u) := by
  rcases h with ⟨a, -, c⟩ | ⟨a, -, c⟩
  · refine ⟨5, Nat.le_refl 5, c, fun s => ?_⟩
    have := bN4_le s
    omega
  · refine ⟨bN4 u, by have := bN4_le u; omega, c, fun s => ?_⟩
    omega
theorem bc_s {s : Nat} (h : s < 16) : bcE (nI s) = nI (bN4 s) := bc_n h
/-- the place on the path -/
theorem xc_bits {a b p : Nat} : bcE (nI (b / 8 ^ p % 8 ^^^ a / 8 ^ p % 8)) = nI (dfN a b p 3) := by
  have h := df_bits (a := a) (b := b) (p := p)
  rw [Nat.xor_comm, bc_n (by omega), h.1]
theorem nh_le {n : Nat} (h : n < 100) : n < 2147483648 := by omega
end CL3
section CL4
def fT (tf : Nat → TWN) (T : Nat) (t : TWN) : Nat → TWN := fun i => if i = T then t else tf i
theorem fT_s {tf : Nat → TWN} {T k : Nat} {t : TWN} (h : T = k) : fT tf T t k = t := if_pos h.symm
theorem fT_n {tf : Nat → TWN} {T k : Nat} {t : TWN} (h : k ≠ T) : fT tf T t k = tf k := if_neg h
theorem TC.zero {fb fc fd : Nat → Int32} : TC 0 0 0 fb fc fd (0, []) := ⟨rfl, rfl, CT.zero, (by decide), (by decide)⟩
end CL4
theorem nle0 {p : Nat} (hp : p < 2 ^ 31) (h : 1 ≤ p) : ¬ nI p ≤ (0 : Int32) := fun q => by
  have := (nI_leI (a := p) (b := 0) hp (by decide)).mp q
  omega
/-! what the law keeps of both -/
section CLL
def RT (f : Nat → Int32) (T : Nat) (tf : Nat → TWN) : Prop := ∀ i, i < T → TP f i (tf i) ∧ (fl (tf i).2).length ≤ 100
section
variable {f g : Nat → Int32} {T U : Nat} {tf : Nat → TWN} {t : TWN}
theorem RT.zero : RT f 0 tf := fun i hi => absurd hi (Nat.not_lt_zero i)
theorem RT.le (h : RT f T tf) (hq : U ≤ T) : RT f U tf := fun i hi => h i (by omega)
theorem RT.cong (h : RT f T tf) (e : ∀ i, 136 ≤ i → g i = f i) : RT g T tf := fun i hi => ⟨(h i hi).1.cong (e _ (by omega)) (e _ (by omega)) (fun k _ => e _ (by omega)), (h i hi).2⟩
theorem RT.img (h : RT f T tf) (hT : T ≤ 5) (e : ∀ i, i < 846 → g i = f i) : RT g T tf := fun i hi => ⟨(h i hi).1.cong (e _ (by omega)) (e _ (by omega)) (fun k hk => e _ (by have := (h i hi).2; omega)), (h i hi).2⟩
theorem RT.grow (h : RT f U tf) (hU : U ≤ T) : RT f U (fT tf T t) := fun i hi => by
  rw [fT_n (show i ≠ T by omega)]; exact h i hi
theorem RT.add (h : RT f T tf) (hT : T < 5) (q : EqT g f T) (ht : TP g T t) (l : (fl t.2).length ≤ 100) : RT g (T + 1) (fT tf T t) := fun i hi => by
  by_cases e : i = T
  · subst e
    rw [fT_s rfl]; exact ⟨ht, l⟩
  · rw [fT_n e]
    have hh := h i (by omega)
    have hl := hh.2
    exact ⟨hh.1.cong (q _ (by omega) (by omega) (by omega) (by omega) (by omega) (by omega)) (q _ (by omega) (by omega) (by omega) (by omega) (by omega) (by omega)) (fun k hk => q _ (by omega) (by omega) (by omega) (by omega) (by omega) (by omega)), hl⟩
theorem WF.grow (h : ∀ i, i < T → WFC (tf i).2 ∧ (tf i).1 < 100) (a : WFC t.2) (b : t.1 < 100) : ∀ i, i < T + 1 → WFC (fT tf T t i).2 ∧ (fT tf T t i).1 < 100 := fun i hi => by
  by_cases e : i = T
  · rw [fT_s e.symm]; exact ⟨a, b⟩
  · rw [fT_n e]; exact h i (by omega)
theorem RT.cw (h : RT f T tf) (w : ∀ i, i < T → WFC (tf i).2 ∧ (tf i).1 < 100) : CW f T (hoT T tf).2 := by
  rcases Nat.eq_zero_or_pos T with h0 | h0
  · rw [hoT_0 h0]
    exact ⟨fun c hc => absurd hc List.not_mem_nil, Nat.zero_le _, Or.inl ⟨h0, rfl⟩⟩
  · obtain ⟨n, rfl⟩ : ∃ n, T = n + 1 := ⟨T - 1, by omega⟩
    rw [hoT_s rfl]
    exact ⟨(w n (by omega)).1, (h n (by omega)).2, Or.inr ⟨n, (tf n).1, rfl, (h n (by omega)).1⟩⟩
theorem RT.nh (h : RT f T tf) : (T = 0 → (hoT T tf).1 = 0) ∧ ∀ t, T = t + 1 → f (136 + t) = nI (hoT T tf).1 := by
  refine ⟨fun h0 => by rw [hoT_0 h0], fun n hn => ?_⟩
  subst hn
  rw [hoT_s rfl]
  exact (h n (by omega)).1.1
end
section
variable {T U : Nat} {tf : Nat → TWN} {Q0 Q1 Q2 Q3 Q4 Q5 : TWN → Prop}
theorem TQ6.le (h : TQ6 T tf Q0 Q1 Q2 Q3 Q4 Q5) (hq : U ≤ T) : TQ6 U tf Q0 Q1 Q2 Q3 Q4 Q5 := ⟨h.1, fun q => h.2.1 (by omega), fun q => h.2.2.1 (by omega), fun q => h.2.2.2.1 (by omega), fun q => h.2.2.2.2.1 (by omega), fun q => h.2.2.2.2.2 (by omega)⟩
theorem TQ6.zero (h : Q0 (0, [])) : TQ6 0 tf Q0 Q1 Q2 Q3 Q4 Q5 := ⟨h, fun q => absurd q (Nat.lt_irrefl 0), fun q => absurd q (by decide), fun q => absurd q (by decide), fun q => absurd q (by decide), fun q => absurd q (by decide)⟩
end
theorem hz_eq {ft sv : Nat → Int32} {S : Nat} (h : TPr ft sv S) : ∀ i, (if i < S then ft i else (-1 : Int32)) = hereF sv i S := fun i => by
  unfold hereF
  split
  · rename_i q; exact h i q
  · rfl
theorem pr3 {a a2 : Bool} {b b2 : Nat} {c c2 : TWN} (h : (a, b, c) = (a2, b2, c2)) : b = b2 ∧ c = c2 := by
  cases h; exact ⟨rfl, rfl⟩
theorem pr_ft {b b2 : Nat} {c c2 : TWN} (h : ((false, b, c) : Bool × Nat × TWN) = (true, b2, c2)) : False := by cases h
theorem pr_tf {b b2 : Nat} {c c2 : TWN} (h : ((true, b, c) : Bool × Nat × TWN) = (false, b2, c2)) : False := by cases h
theorem bk_days {fb sv : Nat → Int32} {P T B S Y : Nat} (h : BKr fb sv B) (m : MI sv P T B S Y) : ∀ j, j < B → ∃ d : Nat, d < d8 P ∧ fb j = nI d := fun j hj => by
  obtain ⟨d, h1, h2⟩ := m.book j hj
  exact ⟨d, h1, (h j hj).trans h2⟩
theorem BX.start : BX (fun _ => 0) 0 (fun _ => 0) := fun a _ => ⟨0, rfl, (by decide), fun _ => rfl⟩
theorem perO_n (O : Nat → Nat) : True := trivial
end CLL
section CNQ
variable {p : Program} {l : Launch} {e : Env} {R : Room} {s : State} {m : MethodId} {args : Array Value} {below : List Frame} {meth : Method} {c : Code} {H : Heap} {locs : List Loc} {cells slots : Nat} {Q : State → Prop}
variable {y : MethodName} {cc : ByteArray} {n : Nat} {rt : Option FieldType} {D : va_G} {ty : List (ClassId × FieldType)} {A : Nat → Prop} {pc : Nat} {ls : Array Slot} {rest st0 : List Value} {ws wc wr : va_W}
theorem outer4 (cA : ClassId) (h : Nat) : Jvm.Free.Multi.outerC cA 4 h 4 = vp_cell cA (4, .inr (.inr (.inr (.inr (rf4 (h + 1) (h + 2) (h + 3) (h + 4)))))) := by
  rw [vp_cell_q]
  rfl
theorem inner0 (cI : ClassId) (K : Nat) : Jvm.Free.Multi.innerC cI K (.int 0) = vp_cell cI (K, .inl (fun _ => 0)) := by
  show ({ cls := cI, slots := Array.replicate K (.int 0), vm := .none } : Cell) = arrV cI K (fun _ => .int 0)
  exact arrV_new cI K _
/-- a new int[4][K], its rows kept -/
theorem newQR (C0 : Ctx p s m args meth c y cc n rt D ty A) {index : Nat} (hw : Cond.classLink y.cls index "[[I" ∈ WALL) (ha : Cond.arrayClass .int ∈ WALL) {cI cQ : ClassId} (t0 t2 : Nat) (ht : ty[t0]? = some (cI, .int)) (ht2 : ty[t2]? = some (cQ, .array .int)) (hP : va_P D CL ws H) (hD : va_D A ws) (hS : va_S A s.heap H locs) {i j : Int32} {K : Nat} (hn : ¬ i < 0) (hk : ¬ j < 0) (hN : i.toNatClampNeg = 4) (hK : j.toNatClampNeg = K) (hb2 : K * 4 ≤ 536870912) (hb3 : K ≤ 536870912) (kc ks : Nat) (hkc : cells + (1 + 4) ≤ kc) (hks : slots + (4 + 4 * K) ≤ ks) (hcR : kc ≤ R.cells) (hsR : ks ≤ R.slots) (hdg : decode cc pc = .ok (.multianewarray index 2, 4))
    (kk : ∀ (q r0 r1 r2 r3 : Nat) (H1 : Heap), va_P D CL (ws ++ [(q, .inl (cQ, 4, .inr (.inr (.inr (.inr (rf4 r0 r1 r2 r3)))))), (r0, .inl (cI, K, .inl (fun _ => 0))), (r1, .inl (cI, K, .inl (fun _ => 0))), (r2, .inl (cI, K, .inl (fun _ => 0))), (r3, .inl (cI, K, .inl (fun _ => 0)))]) H1 → va_D A (ws ++ [(q, .inl (cQ, 4, .inr (.inr (.inr (.inr (rf4 r0 r1 r2 r3)))))), (r0, .inl (cI, K, .inl (fun _ => 0))), (r1, .inl (cI, K, .inl (fun _ => 0))), (r2, .inl (cI, K, .inl (fun _ => 0))), (r3, .inl (cI, K, .inl (fun _ => 0)))]) → va_S A s.heap H1 locs → W p l e R s m args below meth c H1 locs kc ks Q (F0 m (pc + 4) ls (.ref q :: rest))) : W p l e R s m args below meth c H locs cells slots Q (F0 m pc ls (.int j :: .int i :: rest)) := by
  obtain ⟨hx, hb, hrr, hml, hown, hlocks, hname, hT, hNW, hKK, hA⟩ := C0
  subst hK
  intro T hTT Xs
  have h4 : i.toNatClampNeg * 4 ≤ 536870912 := by rw [hN]; decide
  obtain ⟨vm₁, cA, comp, -, fA, fC, hO, -, X', step⟩ := Jvm.Stand.multianewarray2F Xs hx (index := index) (ty := .int) hown (hT _ hw) (va_AOA.use hNW.2.2) (hT _ ha) (g := F0 m pc ls (.int j :: .int i :: rest)) rfl (by rw [hb]; exact hdg) rfl hn hk h4 hb2 hb3 rfl rfl (by rw [hN]; exact Nat.le_trans hkc hcR) (by rw [hN]; exact Nat.le_trans hks hsR)
  rw [hN] at X' step
  generalize hF : Jvm.Free.Multi.fill (T.setVm vm₁) cA comp 4 j.toNatClampNeg (defaultValue .int) 4 = F at X' step
  have hTh : (T.setVm vm₁).heap = H := hTT
  obtain ⟨f1, f2, -, -⟩ := Jvm.Free.Multi.fill_facts (T.setVm vm₁) cA comp 4 j.toNatClampNeg (defaultValue .int) 4
  rw [hF, hTh] at f1 f2
  have hold : ∀ x : Nat, x < H.size → F.heap[x]? = H[x]? := fun x hx => by
    have := Jvm.Free.Multi.fill_old (T.setVm vm₁) cA comp 4 j.toNatClampNeg (defaultValue .int) (a := x) (by rw [hTh]; exact hx) 4
    rw [hF, hTh] at this
    exact this
  have hin : ∀ x : Nat, x < 4 → F.heap[H.size + 1 + x]? = some (Jvm.Free.Multi.innerC comp j.toNatClampNeg (.int 0)) := fun x hx => by
    have := Jvm.Free.Multi.fill_inner (T.setVm vm₁) cA comp 4 j.toNatClampNeg (defaultValue .int) 4 x hx
    rw [hF, hTh] at this
    exact this
  have eI : comp = cI := Option.some.inj (fC.symm.trans (hKK.2 t0 _ ht).2)
  have eQ : cA = cQ := Option.some.inj (fA.symm.trans (hKK.2 t2 _ ht2).2)
  subst eI
  subst eQ
  rw [outer4] at f2
  simp only [inner0] at hin
  have hP1 : va_P D CL ws F.heap := hP.kept (fun k9 x hx => hold x.1 ((hP k9 x hx).lt))
  have hP2 : va_P D CL [(H.size, .inl (cA, 4, .inr (.inr (.inr (.inr (rf4 (H.size + 1) (H.size + 2) (H.size + 3) (H.size + 4))))))), (H.size + 1, .inl (comp, j.toNatClampNeg, .inl (fun _ => 0))), (H.size + 2, .inl (comp, j.toNatClampNeg, .inl (fun _ => 0))), (H.size + 3, .inl (comp, j.toNatClampNeg, .inl (fun _ => 0))), (H.size + 4, .inl (comp, j.toNatClampNeg, .inl (fun _ => 0)))] F.heap := by
    intro k q hk
    match k, hk with
    | 0, hk => cases hk; exact f2
    | 1, hk => cases hk; exact hin 0 (by decide)
    | 2, hk => cases hk; exact hin 1 (by decide)
    | 3, hk => cases hk; exact hin 2 (by decide)
    | 4, hk => cases hk; exact hin 3 (by decide)
    | k + 5, hk => simp at hk
  have key : ∀ (k : Nat) (q : Nat × va_E), [((H.size, .inl (cA, 4, .inr (.inr (.inr (.inr (rf4 (H.size + 1) (H.size + 2) (H.size + 3) (H.size + 4))))))) : Nat × va_E), (H.size + 1, .inl (comp, j.toNatClampNeg, .inl (fun _ => 0))), (H.size + 2, .inl (comp, j.toNatClampNeg, .inl (fun _ => 0))), (H.size + 3, .inl (comp, j.toNatClampNeg, .inl (fun _ => 0))), (H.size + 4, .inl (comp, j.toNatClampNeg, .inl (fun _ => 0)))][k]? = some q → q.1 = H.size + k := by
    intro k q hk
    match k, hk with
    | 0, hk => cases hk; rfl
    | 1, hk => cases hk; rfl
    | 2, hk => cases hk; rfl
    | 3, hk => cases hk; rfl
    | 4, hk => cases hk; rfl
    | k + 5, hk => simp at hk
  have hD2 := va_D.app hD (w2 := [((H.size, .inl (cA, 4, .inr (.inr (.inr (.inr (rf4 (H.size + 1) (H.size + 2) (H.size + 3) (H.size + 4))))))) : Nat × va_E), (H.size + 1, .inl (comp, j.toNatClampNeg, .inl (fun _ => 0))), (H.size + 2, .inl (comp, j.toNatClampNeg, .inl (fun _ => 0))), (H.size + 3, .inl (comp, j.toNatClampNeg, .inl (fun _ => 0))), (H.size + 4, .inl (comp, j.toNatClampNeg, .inl (fun _ => 0)))])
    ⟨fun i j p q hp hq e => by have := key i p hp; have := key j q hq; omega, fun k q hk => hA _ (by have := key k q hk; have := hS.1; omega)⟩
    (fun i j p q hp hq e => by have h1 : p.1 < H.size := (hP i p hp).lt; have := key j q hq; omega)
  obtain ⟨t, a1, b1⟩ := kk H.size (H.size + 1) (H.size + 2) (H.size + 3) (H.size + 4) F.heap (hP1.app hP2) hD2 ⟨by rw [f1]; have := hS.1; omega, fun x h1 h2 => (hold x (Nat.lt_of_lt_of_le h1 hS.1)).trans (hS.2.1 x h1 h2), hS.2.2⟩ F rfl (stand_widen X' (by omega) (by omega))
  refine ⟨t, step t ?_, b1⟩
  have e : T.heap.size = H.size := by rw [hTT]
  rw [e]
  exact a1
theorem MI.init {f : Nat → Int32} (h4 : f 4 = -1) (h : ∀ i, i ≠ 4 → f i = 0) : MI f 0 0 0 0 0 :=
  ⟨⟨h 0 (by decide), by decide⟩, ⟨h 1 (by decide), by decide⟩, ⟨h 2 (by decide), by decide⟩, ⟨h 3 (by decide), by decide⟩, h4.trans (by decide), ⟨h 5 (by decide), by decide⟩, fun j hj => ⟨0, by decide, h _ (by omega)⟩, fun j hj => ⟨0, by decide, h _ (by omega)⟩, fun j hj => ⟨0, by decide, h _ (by omega)⟩, fun j hj => ⟨0, by decide, h _ (by omega)⟩, fun j hj => absurd hj (by omega), fun j hj => absurd hj (by omega)⟩
end CNQ
