section GM
set_option maxHeartbeats 4000000 in
set_option maxRecDepth 100000 in
theorem js_coder (l : Launch) (D : va_G) (cI cZ cQ cT : ClassId) (sz : Nat) (q : Nat) (t : Nat) (len : Nat) (f : Nat → Int32)  : MetI l yJ0_coder_7d493 cJ0_coder_7d493 1 .byte ({ frames := 0, cells := 0, slots := 0, locals := 0 } : Room) [.ref q] D (TYS cI cZ cQ cT) (andX CS (SO q t len f)) sz [] (S := Unit) (fun (r : Int32) (_ : Unit) => r = 0) (fun _ => []) := by
  refine MetI.mk (lv := [(0, .ref q)]) (by decide +kernel) (Nat.le_of_ble_eq_true rfl) rfl ?_
  intro p e s m below meth c A ls C0 hP hD hS hX hl
  have C1 := C0
  obtain ⟨hx, hb, hr, hml, hown, hlocks, hname, hT, hN, hK, hA⟩ := C1
  refine va_gets hx hb hX.1.1 hS hown (hT _ wf_J0_38) (fun _ h9 => h9) dJ0_coder_7d493_0 ?_
  refine lv_if_eq (tgt := 13) hx hb dJ0_coder_7d493_3 (by decide) (fun c_0 => absurd c_0 (by decide)) (fun _ => ?_)
  refine lv_aload_n hx hb dJ0_coder_7d493_6 rfl (lv_at hl 0 rfl) ?_
  refine vk_getf hx hb hX.2.2.1 hS hown (hT _ wf_J0_15) (fun _ h9 => h9) dJ0_coder_7d493_7 ?_
  refine lv_goto (tgt := 14) hx hb dJ0_coder_7d493_10 (by decide) ?_
  exact retI C0 rfl () rfl (hP.sub (ws' := []) [] rfl) (hD.sub (ws' := []) [] (by decide) rfl) hS (Nat.le_of_ble_eq_true rfl) (Nat.le_of_ble_eq_true rfl) dJ0_coder_7d493_14

set_option maxHeartbeats 4000000 in
set_option maxRecDepth 100000 in
theorem js_length (l : Launch) (D : va_G) (cI cZ cQ cT : ClassId) (sz : Nat) (q : Nat) (t : Nat) (len : Nat) (f : Nat → Int32)  : MetI l yJ0_length_8abf5 cJ0_length_8abf5 1 .int ({ frames := 1, cells := 0, slots := 0, locals := 20 } : Room) [.ref q] D (TYS cI cZ cQ cT) (andX CS (SO q t len f)) sz [] (S := Unit) (fun (r : Int32) (_ : Unit) => r = (nI len)) (fun _ => []) := by
  refine MetI.mk (lv := [(0, .ref q)]) (by decide +kernel) (Nat.le_of_ble_eq_true rfl) rfl ?_
  intro p e s m below meth c A ls C0 hP hD hS hX hl
  have C1 := C0
  obtain ⟨hx, hb, hr, hml, hown, hlocks, hname, hT, hN, hK, hA⟩ := C1
  refine lv_aload_n hx hb dJ0_length_8abf5_0 rfl (lv_at hl 0 rfl) ?_
  refine vk_getf hx hb hX.2.2.2.1 hS hown (hT _ wf_J0_9) (fun _ h9 => h9) dJ0_length_8abf5_1 ?_
  refine va_tlen hx hb (hX.2.2.2.2) hS (v := nI len) rfl dJ0_length_8abf5_4 ?_
  refine lv_aload_n hx hb dJ0_length_8abf5_5 rfl (lv_at hl 0 rfl) ?_
  refine contI (wc := []) (wr := []) C0 hP hD hS [] [] rfl rfl (by decide) (by decide) 0 0 (Nat.le_of_ble_eq_true rfl) (Nat.le_of_ble_eq_true rfl) (runVX (k := 0) (As := []) (rest := [.int (nI len)]) C0 (js_coder l D cI cZ cQ cT _ q t len f) wc_J0_coder_7d493 wl_J0_335 wi_J0_coder_7d493 we_J0_coder_7d493 wz_J0 ⟨by decide, by decide, by decide +kernel⟩ ⟨(Nat.le_of_ble_eq_true rfl), (Nat.le_of_ble_eq_true rfl)⟩ hP hD hS (andX.ok CS.ok SO.ok) hX [] rfl (by decide) (SO.recv hX.2 hS) rfl hl.1 rfl (Nat.le_of_ble_eq_true rfl) dJ0_length_8abf5_6 ⟨(Nat.le_of_ble_eq_true rfl), (Nat.le_of_ble_eq_true rfl)⟩) (fun r_3 u_1 H locs w_2 hP hD hS => ?_)
  have hP : va_P D CL [] H := hP
  have hD : va_D A [] := hD
  obtain rfl : r_3 = 0 := w_2
  refine lv_ishr hx hb dJ0_length_8abf5_9 ?_
  exact retI C0 rfl () (shr0 _) (hP.sub (ws' := []) [] rfl) (hD.sub (ws' := []) [] (by decide) rfl) hS (Nat.le_of_ble_eq_true rfl) (Nat.le_of_ble_eq_true rfl) dJ0_length_8abf5_10

set_option maxHeartbeats 4000000 in
set_option maxRecDepth 100000 in
theorem js_isLatin1 (l : Launch) (D : va_G) (cI cZ cQ cT : ClassId) (sz : Nat) (q : Nat) (t : Nat) (len : Nat) (f : Nat → Int32)  : MetI l yJ0_isLatin1_aae02 cJ0_isLatin1_aae02 1 .boolean ({ frames := 0, cells := 0, slots := 0, locals := 0 } : Room) [.ref q] D (TYS cI cZ cQ cT) (andX CS (SO q t len f)) sz [] (S := Unit) (fun (r : Int32) (_ : Unit) => r = 1) (fun _ => []) := by
  refine MetI.mk (lv := [(0, .ref q)]) (by decide +kernel) (Nat.le_of_ble_eq_true rfl) rfl ?_
  intro p e s m below meth c A ls C0 hP hD hS hX hl
  have C1 := C0
  obtain ⟨hx, hb, hr, hml, hown, hlocks, hname, hT, hN, hK, hA⟩ := C1
  refine va_gets hx hb hX.1.1 hS hown (hT _ wf_J0_38) (fun _ h9 => h9) dJ0_isLatin1_aae02_0 ?_
  refine lv_if_eq (tgt := 17) hx hb dJ0_isLatin1_aae02_3 (by decide) (fun c_0 => absurd c_0 (by decide)) (fun _ => ?_)
  refine lv_aload_n hx hb dJ0_isLatin1_aae02_6 rfl (lv_at hl 0 rfl) ?_
  refine vk_getf hx hb hX.2.2.1 hS hown (hT _ wf_J0_15) (fun _ h9 => h9) dJ0_isLatin1_aae02_7 ?_
  refine lv_if_ne (tgt := 17) hx hb dJ0_isLatin1_aae02_10 (by decide) (fun c_0 => absurd (by decide) c_0) (fun _ => ?_)
  refine lv_iconst (v := 1) hx hb dJ0_isLatin1_aae02_13 (by decide) ?_
  refine lv_goto (tgt := 18) hx hb dJ0_isLatin1_aae02_14 (by decide) ?_
  exact retI C0 rfl () rfl (hP.sub (ws' := []) [] rfl) (hD.sub (ws' := []) [] (by decide) rfl) hS (Nat.le_of_ble_eq_true rfl) (Nat.le_of_ble_eq_true rfl) dJ0_isLatin1_aae02_18

set_option maxHeartbeats 4000000 in
set_option maxRecDepth 100000 in
theorem jp_check0 (l : Launch) (D : va_G) (cI cZ cQ cT : ClassId) (sz : Nat) (i : Int32) (n : Nat) (hi : vp_in i n) (hn : n < 2 ^ 31) : MetI l yJ3_checkIndex_8e157 cJ3_checkIndex_8e157 3 .int ({ frames := 0, cells := 0, slots := 0, locals := 0 } : Room) [.int i, .int (nI n), .null] D (TYS cI cZ cQ cT) CS sz [] (S := Unit) (fun (r : Int32) (_ : Unit) => r = i) (fun _ => []) := by
  refine MetI.mk (lv := [(0, .int i), (1, .int (nI n)), (2, .null)]) (by decide +kernel) (Nat.le_of_ble_eq_true rfl) rfl ?_
  intro p e s m below meth c A ls C0 hP hD hS hX hl
  have C1 := C0
  obtain ⟨hx, hb, hr, hml, hown, hlocks, hname, hT, hN, hK, hA⟩ := C1
  refine lv_iload_n hx hb dJ3_checkIndex_8e157_0 rfl (lv_at hl 0 rfl) ?_
  refine lv_if_lt (tgt := 9) hx hb dJ3_checkIndex_8e157_1 (by decide) (fun c_0 => absurd c_0 (fun h => hi (Or.inl h))) (fun _ => ?_)
  refine lv_iload_n hx hb dJ3_checkIndex_8e157_4 rfl (lv_at hl 0 rfl) ?_
  refine lv_iload_n hx hb dJ3_checkIndex_8e157_5 rfl (lv_at hl 1 rfl) ?_
  refine lv_icmp_lt (tgt := 16) hx hb dJ3_checkIndex_8e157_6 (by decide) (fun _ => ?_) (fun c_0 => absurd (lt_of_in hi hn) c_0)
  refine lv_iload_n hx hb dJ3_checkIndex_8e157_16 rfl (lv_at hl 0 rfl) ?_
  exact retI C0 rfl () rfl (hP.sub (ws' := []) [] rfl) (hD.sub (ws' := []) [] (by decide) rfl) hS (Nat.le_of_ble_eq_true rfl) (Nat.le_of_ble_eq_true rfl) dJ3_checkIndex_8e157_17

set_option maxHeartbeats 4000000 in
set_option maxRecDepth 100000 in
theorem jp_check1 (l : Launch) (D : va_G) (cI cZ cQ cT : ClassId) (sz : Nat) (i : Int32) (fm : Nat) (n : Nat) (hi : vp_in i n) (hn : n < 2 ^ 31) : MetI l yJ3_checkIndex_8e157 cJ3_checkIndex_8e157 3 .int ({ frames := 0, cells := 0, slots := 0, locals := 0 } : Room) [.int i, .int (nI n), .ref fm] D (TYS cI cZ cQ cT) CS sz [] (S := Unit) (fun (r : Int32) (_ : Unit) => r = i) (fun _ => []) := by
  refine MetI.mk (lv := [(0, .int i), (1, .int (nI n)), (2, .ref fm)]) (by decide +kernel) (Nat.le_of_ble_eq_true rfl) rfl ?_
  intro p e s m below meth c A ls C0 hP hD hS hX hl
  have C1 := C0
  obtain ⟨hx, hb, hr, hml, hown, hlocks, hname, hT, hN, hK, hA⟩ := C1
  refine lv_iload_n hx hb dJ3_checkIndex_8e157_0 rfl (lv_at hl 0 rfl) ?_
  refine lv_if_lt (tgt := 9) hx hb dJ3_checkIndex_8e157_1 (by decide) (fun c_0 => absurd c_0 (fun h => hi (Or.inl h))) (fun _ => ?_)
  refine lv_iload_n hx hb dJ3_checkIndex_8e157_4 rfl (lv_at hl 0 rfl) ?_
  refine lv_iload_n hx hb dJ3_checkIndex_8e157_5 rfl (lv_at hl 1 rfl) ?_
  refine lv_icmp_lt (tgt := 16) hx hb dJ3_checkIndex_8e157_6 (by decide) (fun _ => ?_) (fun c_0 => absurd (lt_of_in hi hn) c_0)
  refine lv_iload_n hx hb dJ3_checkIndex_8e157_16 rfl (lv_at hl 0 rfl) ?_
  exact retI C0 rfl () rfl (hP.sub (ws' := []) [] rfl) (hD.sub (ws' := []) [] (by decide) rfl) hS (Nat.le_of_ble_eq_true rfl) (Nat.le_of_ble_eq_true rfl) dJ3_checkIndex_8e157_17

set_option maxHeartbeats 4000000 in
set_option maxRecDepth 100000 in
theorem js_checkIndex (l : Launch) (D : va_G) (cI cZ cQ cT : ClassId) (sz : Nat) (i : Int32) (n : Nat) (hi : vp_in i n) (hn : n < 2 ^ 31) : MetV l yJ0_checkIndex_df160 cJ0_checkIndex_df160 2 ({ frames := 1, cells := 0, slots := 0, locals := 22 } : Room) [.int i, .int (nI n)] D (TYS cI cZ cQ cT) CS sz [] (S := Unit) (fun (_ : Unit) => True) (fun _ => []) := by
  refine MetV.mk (lv := [(0, .int i), (1, .int (nI n))]) (by decide +kernel) (Nat.le_of_ble_eq_true rfl) rfl ?_
  intro p e s m below meth c A ls C0 hP hD hS hX hl
  have C1 := C0
  obtain ⟨hx, hb, hr, hml, hown, hlocks, hname, hT, hN, hK, hA⟩ := C1
  refine lv_iload_n hx hb dJ0_checkIndex_df160_0 rfl (lv_at hl 0 rfl) ?_
  refine lv_iload_n hx hb dJ0_checkIndex_df160_1 rfl (lv_at hl 1 rfl) ?_
  rcases hX.2 with z_1 | ⟨z_1t, z_1⟩
  · refine va_gets hx hb z_1 hS hown (hT _ wf_J0_1053) (fun _ h9 => h9) dJ0_checkIndex_df160_2 ?_
    refine contI (wc := []) (wr := []) C0 hP hD hS [] [] rfl rfl (by decide) (by decide) 0 0 (Nat.le_of_ble_eq_true rfl) (Nat.le_of_ble_eq_true rfl) (runS (k := 3) (As := [.int i, .int (nI n), .null]) (rest := []) C0 (jp_check0 l D cI cZ cQ cT _ i n hi hn) wc_J3_checkIndex_8e157 wl_J0_1059 wt_J3_checkIndex_8e157 wz_J3 ⟨by decide, by decide, by decide +kernel⟩ ⟨(Nat.le_of_ble_eq_true rfl), (Nat.le_of_ble_eq_true rfl)⟩ hP hD hS CS.ok hX [] rfl (by decide) rfl hl.1 rfl (Nat.le_of_ble_eq_true rfl) dJ0_checkIndex_df160_5 ⟨(Nat.le_of_ble_eq_true rfl), (Nat.le_of_ble_eq_true rfl)⟩) (fun r_4 u_2 H locs w_3 hP hD hS => ?_)
    have hP : va_P D CL [] H := hP
    have hD : va_D A [] := hD
    obtain rfl : r_4 = i := w_3
    refine lv_pop hx hb dJ0_checkIndex_df160_8 rfl ?_
    exact retV C0 () trivial (hP.sub (ws' := []) [] rfl) (hD.sub (ws' := []) [] (by decide) rfl) hS (Nat.le_of_ble_eq_true rfl) (Nat.le_of_ble_eq_true rfl) dJ0_checkIndex_df160_9
  · refine va_gets hx hb z_1 hS hown (hT _ wf_J0_1053) (fun _ h9 => h9) dJ0_checkIndex_df160_2 ?_
    refine contI (wc := []) (wr := []) C0 hP hD hS [] [] rfl rfl (by decide) (by decide) 0 0 (Nat.le_of_ble_eq_true rfl) (Nat.le_of_ble_eq_true rfl) (runS (k := 3) (As := [.int i, .int (nI n), .ref z_1t]) (rest := []) C0 (jp_check1 l D cI cZ cQ cT _ i z_1t n hi hn) wc_J3_checkIndex_8e157 wl_J0_1059 wt_J3_checkIndex_8e157 wz_J3 ⟨by decide, by decide, by decide +kernel⟩ ⟨(Nat.le_of_ble_eq_true rfl), (Nat.le_of_ble_eq_true rfl)⟩ hP hD hS CS.ok hX [] rfl (by decide) rfl hl.1 rfl (Nat.le_of_ble_eq_true rfl) dJ0_checkIndex_df160_5 ⟨(Nat.le_of_ble_eq_true rfl), (Nat.le_of_ble_eq_true rfl)⟩) (fun r_7 u_5 H locs w_6 hP hD hS => ?_)
    have hP : va_P D CL [] H := hP
    have hD : va_D A [] := hD
    obtain rfl : r_7 = i := w_6
    refine lv_pop hx hb dJ0_checkIndex_df160_8 rfl ?_
    exact retV C0 () trivial (hP.sub (ws' := []) [] rfl) (hD.sub (ws' := []) [] (by decide) rfl) hS (Nat.le_of_ble_eq_true rfl) (Nat.le_of_ble_eq_true rfl) dJ0_checkIndex_df160_9

set_option maxHeartbeats 4000000 in
set_option maxRecDepth 100000 in
theorem js_charAt1 (l : Launch) (D : va_G) (cI cZ cQ cT : ClassId) (sz : Nat) (t : Nat) (i : Int32) (q : Nat) (len : Nat) (f : Nat → Int32) (hi : vp_in i len) (hn : len < 2 ^ 31) : MetI l yJ1_charAt_3b067 cJ1_charAt_3b067 2 .char ({ frames := 2, cells := 0, slots := 0, locals := 43 } : Room) [.ref t, .int i] D (TYS cI cZ cQ cT) (andX CS (SO q t len f)) sz [] (S := Unit) (fun (r : Int32) (_ : Unit) => r = (f i.toNatClampNeg &&& 255)) (fun _ => []) := by
  refine MetI.mk (lv := [(0, .ref t), (1, .int i)]) (by decide +kernel) (Nat.le_of_ble_eq_true rfl) rfl ?_
  intro p e s m below meth c A ls C0 hP hD hS hX hl
  have C1 := C0
  obtain ⟨hx, hb, hr, hml, hown, hlocks, hname, hT, hN, hK, hA⟩ := C1
  refine lv_iload_n hx hb dJ1_charAt_3b067_0 rfl (lv_at hl 1 rfl) ?_
  refine lv_aload_n hx hb dJ1_charAt_3b067_1 rfl (lv_at hl 0 rfl) ?_
  refine va_tlen hx hb (hX.2.2.2.2) hS (v := nI len) rfl dJ1_charAt_3b067_2 ?_
  refine contV (wc := []) (wr := []) C0 hP hD hS [] [] rfl rfl (by decide) (by decide) 0 0 (Nat.le_of_ble_eq_true rfl) (Nat.le_of_ble_eq_true rfl) (runS (k := 2) (As := [.int i, .int (nI len)]) (rest := []) C0 (js_checkIndex l D cI cZ cQ cT _ i len hi hn) wc_J0_checkIndex_df160 wl_J1_9 wt_J0_checkIndex_df160 wz_J0 ⟨by decide, by decide, by decide +kernel⟩ ⟨(Nat.le_of_ble_eq_true rfl), (Nat.le_of_ble_eq_true rfl)⟩ hP hD hS CS.ok hX.1 [] rfl (by decide) rfl hl.1 rfl (Nat.le_of_ble_eq_true rfl) dJ1_charAt_3b067_3 ⟨(Nat.le_of_ble_eq_true rfl), (Nat.le_of_ble_eq_true rfl)⟩) (fun u_1 H locs w_2 hP hD hS => ?_)
  have hP : va_P D CL [] H := hP
  have hD : va_D A [] := hD
  refine lv_aload_n hx hb dJ1_charAt_3b067_6 rfl (lv_at hl 0 rfl) ?_
  refine lv_iload_n hx hb dJ1_charAt_3b067_7 rfl (lv_at hl 1 rfl) ?_
  refine va_tb hx hb (hX.2.2.2.2) hS hi rfl dJ1_charAt_3b067_8 ?_
  refine lv_sipush (v := 255) hx hb dJ1_charAt_3b067_9 (by decide) ?_
  refine lv_iand hx hb dJ1_charAt_3b067_12 ?_
  refine lv_i2c (v := ((((f (i).toNatClampNeg) &&& (255 : Int32))).toUInt32 % 65536).toInt32) hx hb dJ1_charAt_3b067_13 rfl ?_
  exact retI C0 (pk_nc _) () (sc_c2 _) (hP.sub (ws' := []) [] rfl) (hD.sub (ws' := []) [] (by decide) rfl) hS (Nat.le_of_ble_eq_true rfl) (Nat.le_of_ble_eq_true rfl) dJ1_charAt_3b067_14

set_option maxHeartbeats 4000000 in
set_option maxRecDepth 100000 in
theorem js_charAt (l : Launch) (D : va_G) (cI cZ cQ cT : ClassId) (sz : Nat) (q : Nat) (i : Int32) (t : Nat) (len : Nat) (f : Nat → Int32) (hi : vp_in i len) (hn : len < 2 ^ 31) : MetI l yJ0_charAt_5068e cJ0_charAt_5068e 2 .char ({ frames := 3, cells := 0, slots := 0, locals := 64 } : Room) [.ref q, .int i] D (TYS cI cZ cQ cT) (andX CS (SO q t len f)) sz [] (S := Unit) (fun (r : Int32) (_ : Unit) => r = (f i.toNatClampNeg &&& 255)) (fun _ => []) := by
  refine MetI.mk (lv := [(0, .ref q), (1, .int i)]) (by decide +kernel) (Nat.le_of_ble_eq_true rfl) rfl ?_
  intro p e s m below meth c A ls C0 hP hD hS hX hl
  have C1 := C0
  obtain ⟨hx, hb, hr, hml, hown, hlocks, hname, hT, hN, hK, hA⟩ := C1
  refine lv_aload_n hx hb dJ0_charAt_5068e_0 rfl (lv_at hl 0 rfl) ?_
  refine contI (wc := []) (wr := []) C0 hP hD hS [] [] rfl rfl (by decide) (by decide) 0 0 (Nat.le_of_ble_eq_true rfl) (Nat.le_of_ble_eq_true rfl) (runVX (k := 0) (As := []) (rest := []) C0 (js_isLatin1 l D cI cZ cQ cT _ q t len f) wc_J0_isLatin1_aae02 wl_J0_492 wi_J0_isLatin1_aae02 we_J0_isLatin1_aae02 wz_J0 ⟨by decide, by decide, by decide +kernel⟩ ⟨(Nat.le_of_ble_eq_true rfl), (Nat.le_of_ble_eq_true rfl)⟩ hP hD hS (andX.ok CS.ok SO.ok) hX [] rfl (by decide) (SO.recv hX.2 hS) rfl hl.1 rfl (Nat.le_of_ble_eq_true rfl) dJ0_charAt_5068e_1 ⟨(Nat.le_of_ble_eq_true rfl), (Nat.le_of_ble_eq_true rfl)⟩) (fun r_3 u_1 H locs w_2 hP hD hS => ?_)
  have hP : va_P D CL [] H := hP
  have hD : va_D A [] := hD
  obtain rfl : r_3 = 1 := w_2
  refine lv_if_eq (tgt := 16) hx hb dJ0_charAt_5068e_4 (by decide) (fun c_0 => absurd c_0 (by decide)) (fun _ => ?_)
  refine lv_aload_n hx hb dJ0_charAt_5068e_7 rfl (lv_at hl 0 rfl) ?_
  refine vk_getf hx hb hX.2.2.2.1 hS hown (hT _ wf_J0_9) (fun _ h9 => h9) dJ0_charAt_5068e_8 ?_
  refine lv_iload_n hx hb dJ0_charAt_5068e_11 rfl (lv_at hl 1 rfl) ?_
  refine contI (wc := []) (wr := []) C0 hP hD hS [] [] rfl rfl (by decide) (by decide) 0 0 (Nat.le_of_ble_eq_true rfl) (Nat.le_of_ble_eq_true rfl) (runS (k := 2) (As := [.ref t, .int i]) (rest := []) C0 (js_charAt1 l D cI cZ cQ cT _ t i q len f hi hn) wc_J1_charAt_3b067 wl_J0_495 wt_J1_charAt_3b067 wz_J1 ⟨by decide, by decide, by decide +kernel⟩ ⟨(Nat.le_of_ble_eq_true rfl), (Nat.le_of_ble_eq_true rfl)⟩ hP hD hS (andX.ok CS.ok SO.ok) hX [] rfl (by decide) rfl hl.1 rfl (Nat.le_of_ble_eq_true rfl) dJ0_charAt_5068e_12 ⟨(Nat.le_of_ble_eq_true rfl), (Nat.le_of_ble_eq_true rfl)⟩) (fun r_6 u_4 H locs w_5 hP hD hS => ?_)
  have hP : va_P D CL [] H := hP
  have hD : va_D A [] := hD
  obtain rfl : r_6 = (f i.toNatClampNeg &&& 255) := w_5
  exact retI C0 (sc_nar _) () rfl (hP.sub (ws' := []) [] rfl) (hD.sub (ws' := []) [] (by decide) rfl) hS (Nat.le_of_ble_eq_true rfl) (Nat.le_of_ble_eq_true rfl) dJ0_charAt_5068e_15
end GM
