section GX
set_option maxHeartbeats 4000000 in
set_option maxRecDepth 100000 in
theorem c_clear (l : Launch) (D : va_G) (cI cZ cQ cT : ClassId) (sz : Nat) (aa : Nat) (a1 : Nat) (rn : Int32) (sl : Int32) (kd : Int32) (vv : Int32)  : MetV l yX0_clear cX0_clear 1 ({ frames := 0, cells := 0, slots := 0, locals := 0 } : Room) [.ref aa] D (TYS cI cZ cQ cT) EF sz [(aa, .inr (0, [.ref a1, .int rn, .int sl, .int kd, .int vv]))] (S := Unit) (fun (_ : Unit) => True) (fun _ => [(aa, .inr (0, [.ref a1, .int 0, .int sl, .int kd, .int vv]))]) := by
  refine MetV.mk (lv := [(0, .ref aa)]) (by decide +kernel) (Nat.le_of_ble_eq_true rfl) rfl ?_
  intro p e s m below meth c A ls C0 hP hD hS hX hl
  have C1 := C0
  obtain ⟨hx, hb, hr, hml, hown, hlocks, hname, hT, hN, hK, hA⟩ := C1
  refine lv_aload_n hx hb dX0_clear_0 rfl (lv_at hl 0 rfl) ?_
  refine lv_iconst (v := 0) hx hb dX0_clear_1 (by decide) ?_
  refine va_put (ci := 0) (v := .int 0) (ty := .int) (C := RX0) (T := TX0) (N := 5) hx hb hT wu_X0 tyX0 tyX0_ok nmX0 hown hK hP hD hS 0 rfl rfl 1 (by decide) (hT _ wf_X0_15) (fun _ h9 => h9) rfl (by decide +kernel) rfl rfl (Nat.le_of_ble_eq_true rfl) dX0_clear_2 (fun H locs hP hD hS => ?_)
  have hP : va_P D CL [(aa, .inr (0, [.ref a1, .int 0, .int sl, .int kd, .int vv]))] H := hP
  have hD : va_D A [(aa, .inr (0, [.ref a1, .int 0, .int sl, .int kd, .int vv]))] := hD
  exact retV C0 () trivial (hP.sub (ws' := [(aa, .inr (0, [.ref a1, .int 0, .int sl, .int kd, .int vv]))]) [0] rfl) (hD.sub (ws' := [(aa, .inr (0, [.ref a1, .int 0, .int sl, .int kd, .int vv]))]) [0] (by decide) rfl) hS (Nat.le_of_ble_eq_true rfl) (Nat.le_of_ble_eq_true rfl) dX0_clear_5

set_option maxHeartbeats 4000000 in
set_option maxRecDepth 100000 in
theorem c_bodyOf_0_0 (l : Launch) (D : va_G) (cI cZ cQ cT : ClassId) (sz : Nat)   : MetI l yX0_bodyOf cX0_bodyOf 5 .int ({ frames := 0, cells := 0, slots := 0, locals := 0 } : Room) [.int 0, .int 0] D (TYS cI cZ cQ cT) EF sz [] (S := Unit) (fun (r : Int32) (_ : Unit) => r = 1) (fun _ => []) := by
  refine MetI.mk (lv := [(0, .int 0), (1, .int 0)]) (by decide +kernel) (Nat.le_of_ble_eq_true rfl) rfl ?_
  intro p e s m below meth c A ls C0 hP hD hS hX hl
  have C1 := C0
  obtain ⟨hx, hb, hr, hml, hown, hlocks, hname, hT, hN, hK, hA⟩ := C1
  obtain ⟨kab, hkz, hkT⟩ := hX.2.1
  obtain ⟨bdy, hbz, hbT⟩ := hX.2.2.1
  refine lv_iload_n hx hb dX0_bodyOf_0 rfl (lv_at hl 0 rfl) ?_
  refine lv_istore_n (lv' := [(2, .int 0), (0, .int 0), (1, .int 0)]) hx hb dX0_bodyOf_1 rfl hl (by decide) rfl (fun ls hl => ?_)
  refine lv_iconst (v := 0) hx hb dX0_bodyOf_2 (by decide) ?_
  refine lv_istore_n (lv' := [(3, .int 0), (2, .int 0), (0, .int 0), (1, .int 0)]) hx hb dX0_bodyOf_3 rfl hl (by decide) rfl (fun ls hl => ?_)
  refine lv_iload_n hx hb dX0_bodyOf_4 rfl (lv_at hl 0 rfl) ?_
  refine lv_bipush (v := 7) hx hb dX0_bodyOf_5 (by decide) ?_
  refine lv_icmp_ge (tgt := 69) hx hb dX0_bodyOf_7 (by decide) (fun c_0 => absurd c_0 (by decide)) (fun _ => ?_)
  refine lv_iload_n hx hb dX0_bodyOf_10 rfl (lv_at hl 1 rfl) ?_
  refine lv_if_lt (tgt := 69) hx hb dX0_bodyOf_11 (by decide) (fun c_0 => absurd c_0 (by decide)) (fun _ => ?_)
  refine lv_iload_n hx hb dX0_bodyOf_14 rfl (lv_at hl 1 rfl) ?_
  refine lv_bipush (v := 7) hx hb dX0_bodyOf_15 (by decide) ?_
  refine lv_icmp_ge (tgt := 69) hx hb dX0_bodyOf_17 (by decide) (fun c_0 => absurd c_0 (by decide)) (fun _ => ?_)
  refine lv_iload_n hx hb dX0_bodyOf_20 rfl (lv_at hl 1 rfl) ?_
  refine lv_iconst (v := 3) hx hb dX0_bodyOf_21 (by decide) ?_
  refine lv_imul hx hb dX0_bodyOf_22 ?_
  refine lv_ci 0 (by decide +kernel) ?_
  refine lv_iload_n hx hb dX0_bodyOf_23 rfl (lv_at hl 3 rfl) ?_
  refine lv_iadd hx hb dX0_bodyOf_24 ?_
  refine lv_ci 0 (by decide +kernel) ?_
  refine lv_istore (lv' := [(4, .int 0), (3, .int 0), (2, .int 0), (0, .int 0), (1, .int 0)]) hx hb dX0_bodyOf_25 hl (by decide) rfl (fun ls hl => ?_)
  refine lv_iload hx hb dX0_bodyOf_27 (lv_at hl 0 rfl) ?_
  refine lv_if_lt (tgt := 57) hx hb dX0_bodyOf_29 (by decide) (fun c_0 => absurd c_0 (by decide)) (fun _ => ?_)
  refine lv_iload hx hb dX0_bodyOf_32 (lv_at hl 0 rfl) ?_
  refine va_gets hx hb hbz hS hown (hT _ wf_X0_42) (fun _ h9 => h9) dX0_bodyOf_34 ?_
  refine va_tlen hx hb hbT hS (v := 21) rfl dX0_bodyOf_37 ?_
  refine lv_icmp_ge (tgt := 57) hx hb dX0_bodyOf_38 (by decide) (fun c_0 => absurd c_0 (by decide)) (fun _ => ?_)
  refine va_gets hx hb hbz hS hown (hT _ wf_X0_42) (fun _ h9 => h9) dX0_bodyOf_41 ?_
  refine lv_iload hx hb dX0_bodyOf_44 (lv_at hl 0 rfl) ?_
  refine va_ti hx hb hbT hS (vin _ _ (by decide +kernel)) (v := .int 1) rfl dX0_bodyOf_46 ?_
  refine lv_if_eq (tgt := 57) hx hb dX0_bodyOf_47 (by decide) (fun c_0 => absurd c_0 (by decide)) (fun _ => ?_)
  refine va_gets hx hb hbz hS hown (hT _ wf_X0_42) (fun _ h9 => h9) dX0_bodyOf_50 ?_
  refine lv_iload hx hb dX0_bodyOf_53 (lv_at hl 0 rfl) ?_
  refine va_ti hx hb hbT hS (vin _ _ (by decide +kernel)) (v := .int 1) rfl dX0_bodyOf_55 ?_
  exact retI C0 rfl () rfl (hP.sub (ws' := []) [] rfl) (hD.sub (ws' := []) [] (by decide) rfl) hS (Nat.le_of_ble_eq_true rfl) (Nat.le_of_ble_eq_true rfl) dX0_bodyOf_56

set_option maxHeartbeats 4000000 in
set_option maxRecDepth 100000 in
theorem c_begin_0 (l : Launch) (D : va_G) (cI cZ cQ cT : ClassId) (sz : Nat) (aa : Nat) (bd : Int32) (a1 : Nat) (sl : Int32) (kd : Int32) (vv : Int32) (fa : Nat → Int32)  : MetV l yX0_begin cX0_begin 2 ({ frames := 0, cells := 0, slots := 0, locals := 0 } : Room) [.ref aa, .int bd] D (TYS cI cZ cQ cT) EF sz [(aa, .inr (0, [.ref a1, .int 0, .int sl, .int kd, .int vv])), (a1, .inl (cI, 20, .inl fa))] (S := Unit) (fun (_ : Unit) => True) (fun _ => [(aa, .inr (0, [.ref a1, .int 1, .int sl, .int kd, .int vv])), (a1, .inl (cI, 20, .inl (upd fa 0 bd)))]) := by
  refine MetV.mk (lv := [(0, .ref aa), (1, .int bd)]) (by decide +kernel) (Nat.le_of_ble_eq_true rfl) rfl ?_
  intro p e s m below meth c A ls C0 hP hD hS hX hl
  have C1 := C0
  obtain ⟨hx, hb, hr, hml, hown, hlocks, hname, hT, hN, hK, hA⟩ := C1
  refine lv_aload_n hx hb dX0_begin_0 rfl (lv_at hl 0 rfl) ?_
  refine va_get (ci := 0) (v := .int 0) (C := RX0) (T := TX0) (N := 5) hx hb hT wu_X0 hown hK hP 0 rfl rfl 1 (by decide) (hT _ wf_X0_15) (fun _ h9 => h9) rfl dX0_begin_1 ?_
  refine lv_if_lt (tgt := 26) hx hb dX0_begin_4 (by decide) (fun c_0 => absurd c_0 (by decide)) (fun _ => ?_)
  refine lv_aload_n hx hb dX0_begin_7 rfl (lv_at hl 0 rfl) ?_
  refine va_get (ci := 0) (v := .int 0) (C := RX0) (T := TX0) (N := 5) hx hb hT wu_X0 hown hK hP 0 rfl rfl 1 (by decide) (hT _ wf_X0_15) (fun _ h9 => h9) rfl dX0_begin_8 ?_
  refine lv_bipush (v := 20) hx hb dX0_begin_11 (by decide) ?_
  refine lv_icmp_ge (tgt := 26) hx hb dX0_begin_13 (by decide) (fun c_0 => absurd c_0 (by decide)) (fun _ => ?_)
  refine lv_aload_n hx hb dX0_begin_16 rfl (lv_at hl 0 rfl) ?_
  refine va_get (ci := 0) (v := .ref a1) (C := RX0) (T := TX0) (N := 5) hx hb hT wu_X0 hown hK hP 0 rfl rfl 0 (by decide) (hT _ wf_X0_11) (fun _ h9 => h9) rfl dX0_begin_17 ?_
  refine lv_aload_n hx hb dX0_begin_20 rfl (lv_at hl 0 rfl) ?_
  refine va_get (ci := 0) (v := .int 0) (C := RX0) (T := TX0) (N := 5) hx hb hT wu_X0 hown hK hP 0 rfl rfl 1 (by decide) (hT _ wf_X0_15) (fun _ h9 => h9) rfl dX0_begin_21 ?_
  refine lv_iload_n hx hb dX0_begin_24 rfl (lv_at hl 1 rfl) ?_
  refine va_iast hx hb hK hP hD hS 1 0 rfl rfl (vin _ _ (by decide +kernel)) dX0_begin_25 (fun H locs hP hD hS => ?_)
  have hP : va_P D CL [(aa, .inr (0, [.ref a1, .int 0, .int sl, .int kd, .int vv])), (a1, .inl (cI, 20, .inl (upd fa ((0 : Int32)).toNatClampNeg bd)))] H := hP
  have hD : va_D A [(aa, .inr (0, [.ref a1, .int 0, .int sl, .int kd, .int vv])), (a1, .inl (cI, 20, .inl (upd fa ((0 : Int32)).toNatClampNeg bd)))] := hD
  rw [show ((0 : Int32)).toNatClampNeg = 0 from nI_clamp (n := 0) (by decide)] at hP hD
  have hP : va_P D CL [(aa, .inr (0, [.ref a1, .int 0, .int sl, .int kd, .int vv])), (a1, .inl (cI, 20, .inl (upd fa 0 bd)))] H := hP
  have hD : va_D A [(aa, .inr (0, [.ref a1, .int 0, .int sl, .int kd, .int vv])), (a1, .inl (cI, 20, .inl (upd fa 0 bd)))] := hD
  refine lv_aload_n hx hb dX0_begin_26 rfl (lv_at hl 0 rfl) ?_
  refine lv_dup hx hb dX0_begin_27 rfl ?_
  refine va_get (ci := 0) (v := .int 0) (C := RX0) (T := TX0) (N := 5) hx hb hT wu_X0 hown hK hP 0 rfl rfl 1 (by decide) (hT _ wf_X0_15) (fun _ h9 => h9) rfl dX0_begin_28 ?_
  refine lv_iconst (v := 1) hx hb dX0_begin_31 (by decide) ?_
  refine lv_iadd hx hb dX0_begin_32 ?_
  refine lv_ci 1 (by decide +kernel) ?_
  refine va_put (ci := 0) (v := .int 1) (ty := .int) (C := RX0) (T := TX0) (N := 5) hx hb hT wu_X0 tyX0 tyX0_ok nmX0 hown hK hP hD hS 0 rfl rfl 1 (by decide) (hT _ wf_X0_15) (fun _ h9 => h9) rfl (by decide +kernel) rfl rfl (Nat.le_of_ble_eq_true rfl) dX0_begin_33 (fun H locs hP hD hS => ?_)
  have hP : va_P D CL [(aa, .inr (0, [.ref a1, .int 1, .int sl, .int kd, .int vv])), (a1, .inl (cI, 20, .inl (upd fa 0 bd)))] H := hP
  have hD : va_D A [(aa, .inr (0, [.ref a1, .int 1, .int sl, .int kd, .int vv])), (a1, .inl (cI, 20, .inl (upd fa 0 bd)))] := hD
  exact retV C0 () trivial (hP.sub (ws' := [(aa, .inr (0, [.ref a1, .int 1, .int sl, .int kd, .int vv])), (a1, .inl (cI, 20, .inl (upd fa 0 bd)))]) [0, 1] rfl) (hD.sub (ws' := [(aa, .inr (0, [.ref a1, .int 1, .int sl, .int kd, .int vv])), (a1, .inl (cI, 20, .inl (upd fa 0 bd)))]) [0, 1] (by decide) rfl) hS (Nat.le_of_ble_eq_true rfl) (Nat.le_of_ble_eq_true rfl) dX0_begin_36

set_option maxHeartbeats 4000000 in
set_option maxRecDepth 100000 in
theorem c_ask_0_0_0_0_0 (l : Launch) (D : va_G) (cI cZ cQ cT : ClassId) (sz : Nat) (aa : Nat) (xx : Int32) (a1 : Nat) (sl : Int32) (vv : Int32) (fa : Nat → Int32)  : MetI l yX0_ask cX0_ask 7 .int ({ frames := 1, cells := 0, slots := 0, locals := 24 } : Room) [.ref aa, .int 0, .int 0, .int xx, .int 0] D (TYS cI cZ cQ cT) EF sz [(aa, .inr (0, [.ref a1, .int 0, .int sl, .int 0, .int vv])), (a1, .inl (cI, 20, .inl fa))] (S := Unit) (fun (r : Int32) (_ : Unit) => r = (xx + sl)) (fun _ => [(aa, .inr (0, [.ref a1, .int 1, .int sl, .int 0, .int vv])), (a1, .inl (cI, 20, .inl (upd fa 0 1)))]) := by
  refine MetI.mk (lv := [(0, .ref aa), (1, .int 0), (2, .int 0), (3, .int xx), (4, .int 0)]) (by decide +kernel) (Nat.le_of_ble_eq_true rfl) rfl ?_
  intro p e s m below meth c A ls C0 hP hD hS hX hl
  have C1 := C0
  obtain ⟨hx, hb, hr, hml, hown, hlocks, hname, hT, hN, hK, hA⟩ := C1
  refine lv_iload_n hx hb dX0_ask_0 rfl (lv_at hl 1 rfl) ?_
  refine lv_iload_n hx hb dX0_ask_1 rfl (lv_at hl 2 rfl) ?_
  refine contI (wc := []) (wr := [(aa, .inr (0, [.ref a1, .int 0, .int sl, .int 0, .int vv])), (a1, .inl (cI, 20, .inl fa))]) C0 hP hD hS [] [0, 1] rfl rfl (by decide) (by decide) 0 0 (Nat.le_of_ble_eq_true rfl) (Nat.le_of_ble_eq_true rfl) (runS (k := 2) (As := [.int 0, .int 0]) (rest := []) C0 (c_bodyOf_0_0 l D cI cZ cQ cT _ ) wc_X0_bodyOf wl_X0_48 wt_X0_bodyOf wz_X0 ⟨by decide, by decide, by decide +kernel⟩ ⟨(Nat.le_of_ble_eq_true rfl), (Nat.le_of_ble_eq_true rfl)⟩ hP hD hS EF.ok hX [] rfl (by decide) rfl hl.1 rfl (Nat.le_of_ble_eq_true rfl) dX0_ask_2 ⟨(Nat.le_of_ble_eq_true rfl), (Nat.le_of_ble_eq_true rfl)⟩) (fun r_3 u_1 H locs w_2 hP hD hS => ?_)
  have hP : va_P D CL [(aa, .inr (0, [.ref a1, .int 0, .int sl, .int 0, .int vv])), (a1, .inl (cI, 20, .inl fa))] H := hP
  have hD : va_D A [(aa, .inr (0, [.ref a1, .int 0, .int sl, .int 0, .int vv])), (a1, .inl (cI, 20, .inl fa))] := hD
  obtain rfl : r_3 = 1 := w_2
  refine lv_istore (lv' := [(5, .int 1), (0, .ref aa), (1, .int 0), (2, .int 0), (3, .int xx), (4, .int 0)]) hx hb dX0_ask_5 hl (by decide) rfl (fun ls hl => ?_)
  refine lv_iload hx hb dX0_ask_7 (lv_at hl 0 rfl) ?_
  refine lv_if_eq (tgt := 19) hx hb dX0_ask_9 (by decide) (fun c_0 => absurd c_0 (by decide)) (fun _ => ?_)
  refine lv_iload hx hb dX0_ask_12 (lv_at hl 5 rfl) ?_
  refine lv_bipush (v := 40) hx hb dX0_ask_14 (by decide) ?_
  refine lv_icmp_le (tgt := 21) hx hb dX0_ask_16 (by decide) (fun _ => ?_) (fun c_0 => absurd (by decide) c_0)
  refine lv_aload_n hx hb dX0_ask_21 rfl (lv_at hl 1 rfl) ?_
  refine lv_iload hx hb dX0_ask_22 (lv_at hl 0 rfl) ?_
  refine contV (wc := [(aa, .inr (0, [.ref a1, .int 0, .int sl, .int 0, .int vv])), (a1, .inl (cI, 20, .inl fa))]) (wr := []) C0 hP hD hS [0, 1] [] rfl rfl (by decide) (by decide) 0 0 (Nat.le_of_ble_eq_true rfl) (Nat.le_of_ble_eq_true rfl) (runV (k := 1) (As := [.int 1]) (rest := []) C0 (c_begin_0 l D cI cZ cQ cT _ aa 1 a1 sl 0 vv fa) wc_X0_begin wl_X0_52 wi_X0_begin we_X0_begin wz_X0 ⟨by decide, by decide, by decide +kernel⟩ ⟨(Nat.le_of_ble_eq_true rfl), (Nat.le_of_ble_eq_true rfl)⟩ hP hD hS EF.ok hX [0, 1] rfl (by decide) 0 rfl rfl rfl rfl hl.1 rfl (Nat.le_of_ble_eq_true rfl) dX0_ask_24 ⟨(Nat.le_of_ble_eq_true rfl), (Nat.le_of_ble_eq_true rfl)⟩) (fun u_4 H locs w_5 hP hD hS => ?_)
  have hP : va_P D CL [(aa, .inr (0, [.ref a1, .int 1, .int sl, .int 0, .int vv])), (a1, .inl (cI, 20, .inl (upd fa 0 (1 : Int32))))] H := hP
  have hD : va_D A [(aa, .inr (0, [.ref a1, .int 1, .int sl, .int 0, .int vv])), (a1, .inl (cI, 20, .inl (upd fa 0 (1 : Int32))))] := hD
  refine lv_iload hx hb dX0_ask_27 (lv_at hl 5 rfl) ?_
  refine lv_iconst (v := 1) hx hb dX0_ask_29 (by decide) ?_
  refine lv_iadd hx hb dX0_ask_30 ?_
  refine lv_ci 1 (by decide +kernel) ?_
  refine lv_istore (lv' := [(6, .int 1), (5, .int 1), (0, .ref aa), (1, .int 0), (2, .int 0), (3, .int xx), (4, .int 0)]) hx hb dX0_ask_31 hl (by decide) rfl (fun ls hl => ?_)
  refine lv_iload hx hb dX0_ask_33 (lv_at hl 1 rfl) ?_
  refine lv_lookup (off := 81) (tgt := 116) hx hb dX0_ask_35 (by decide) (by decide) (by decide) ?_
  refine lv_iload_n hx hb dX0_ask_116 rfl (lv_at hl 5 rfl) ?_
  refine lv_aload_n hx hb dX0_ask_117 rfl (lv_at hl 2 rfl) ?_
  refine va_get (ci := 0) (v := .int sl) (C := RX0) (T := TX0) (N := 5) hx hb hT wu_X0 hown hK hP 0 rfl rfl 2 (by decide) (hT _ wf_X0_25) (fun _ h9 => h9) rfl dX0_ask_118 ?_
  refine lv_iadd hx hb dX0_ask_121 ?_
  exact retI C0 rfl () rfl (hP.sub (ws' := [(aa, .inr (0, [.ref a1, .int 1, .int sl, .int 0, .int vv])), (a1, .inl (cI, 20, .inl (upd fa 0 1)))]) [0, 1] rfl) (hD.sub (ws' := [(aa, .inr (0, [.ref a1, .int 1, .int sl, .int 0, .int vv])), (a1, .inl (cI, 20, .inl (upd fa 0 1)))]) [0, 1] (by decide) rfl) hS (Nat.le_of_ble_eq_true rfl) (Nat.le_of_ble_eq_true rfl) dX0_ask_122

set_option maxHeartbeats 4000000 in
set_option maxRecDepth 100000 in
theorem c_bodyOf_1_0 (l : Launch) (D : va_G) (cI cZ cQ cT : ClassId) (sz : Nat)   : MetI l yX0_bodyOf cX0_bodyOf 5 .int ({ frames := 0, cells := 0, slots := 0, locals := 0 } : Room) [.int 1, .int 0] D (TYS cI cZ cQ cT) EF sz [] (S := Unit) (fun (r : Int32) (_ : Unit) => r = 11) (fun _ => []) := by
  refine MetI.mk (lv := [(0, .int 1), (1, .int 0)]) (by decide +kernel) (Nat.le_of_ble_eq_true rfl) rfl ?_
  intro p e s m below meth c A ls C0 hP hD hS hX hl
  have C1 := C0
  obtain ⟨hx, hb, hr, hml, hown, hlocks, hname, hT, hN, hK, hA⟩ := C1
  obtain ⟨kab, hkz, hkT⟩ := hX.2.1
  obtain ⟨bdy, hbz, hbT⟩ := hX.2.2.1
  refine lv_iload_n hx hb dX0_bodyOf_0 rfl (lv_at hl 0 rfl) ?_
  refine lv_istore_n (lv' := [(2, .int 1), (0, .int 1), (1, .int 0)]) hx hb dX0_bodyOf_1 rfl hl (by decide) rfl (fun ls hl => ?_)
  refine lv_iconst (v := 0) hx hb dX0_bodyOf_2 (by decide) ?_
  refine lv_istore_n (lv' := [(3, .int 0), (2, .int 1), (0, .int 1), (1, .int 0)]) hx hb dX0_bodyOf_3 rfl hl (by decide) rfl (fun ls hl => ?_)
  refine lv_iload_n hx hb dX0_bodyOf_4 rfl (lv_at hl 0 rfl) ?_
  refine lv_bipush (v := 7) hx hb dX0_bodyOf_5 (by decide) ?_
  refine lv_icmp_ge (tgt := 69) hx hb dX0_bodyOf_7 (by decide) (fun c_0 => absurd c_0 (by decide)) (fun _ => ?_)
  refine lv_iload_n hx hb dX0_bodyOf_10 rfl (lv_at hl 1 rfl) ?_
  refine lv_if_lt (tgt := 69) hx hb dX0_bodyOf_11 (by decide) (fun c_0 => absurd c_0 (by decide)) (fun _ => ?_)
  refine lv_iload_n hx hb dX0_bodyOf_14 rfl (lv_at hl 1 rfl) ?_
  refine lv_bipush (v := 7) hx hb dX0_bodyOf_15 (by decide) ?_
  refine lv_icmp_ge (tgt := 69) hx hb dX0_bodyOf_17 (by decide) (fun c_0 => absurd c_0 (by decide)) (fun _ => ?_)
  refine lv_iload_n hx hb dX0_bodyOf_20 rfl (lv_at hl 1 rfl) ?_
  refine lv_iconst (v := 3) hx hb dX0_bodyOf_21 (by decide) ?_
  refine lv_imul hx hb dX0_bodyOf_22 ?_
  refine lv_ci 3 (by decide +kernel) ?_
  refine lv_iload_n hx hb dX0_bodyOf_23 rfl (lv_at hl 3 rfl) ?_
  refine lv_iadd hx hb dX0_bodyOf_24 ?_
  refine lv_ci 3 (by decide +kernel) ?_
  refine lv_istore (lv' := [(4, .int 3), (3, .int 0), (2, .int 1), (0, .int 1), (1, .int 0)]) hx hb dX0_bodyOf_25 hl (by decide) rfl (fun ls hl => ?_)
  refine lv_iload hx hb dX0_bodyOf_27 (lv_at hl 0 rfl) ?_
  refine lv_if_lt (tgt := 57) hx hb dX0_bodyOf_29 (by decide) (fun c_0 => absurd c_0 (by decide)) (fun _ => ?_)
  refine lv_iload hx hb dX0_bodyOf_32 (lv_at hl 0 rfl) ?_
  refine va_gets hx hb hbz hS hown (hT _ wf_X0_42) (fun _ h9 => h9) dX0_bodyOf_34 ?_
  refine va_tlen hx hb hbT hS (v := 21) rfl dX0_bodyOf_37 ?_
  refine lv_icmp_ge (tgt := 57) hx hb dX0_bodyOf_38 (by decide) (fun c_0 => absurd c_0 (by decide)) (fun _ => ?_)
  refine va_gets hx hb hbz hS hown (hT _ wf_X0_42) (fun _ h9 => h9) dX0_bodyOf_41 ?_
  refine lv_iload hx hb dX0_bodyOf_44 (lv_at hl 0 rfl) ?_
  refine va_ti hx hb hbT hS (vin _ _ (by decide +kernel)) (v := .int 11) rfl dX0_bodyOf_46 ?_
  refine lv_if_eq (tgt := 57) hx hb dX0_bodyOf_47 (by decide) (fun c_0 => absurd c_0 (by decide)) (fun _ => ?_)
  refine va_gets hx hb hbz hS hown (hT _ wf_X0_42) (fun _ h9 => h9) dX0_bodyOf_50 ?_
  refine lv_iload hx hb dX0_bodyOf_53 (lv_at hl 0 rfl) ?_
  refine va_ti hx hb hbT hS (vin _ _ (by decide +kernel)) (v := .int 11) rfl dX0_bodyOf_55 ?_
  exact retI C0 rfl () rfl (hP.sub (ws' := []) [] rfl) (hD.sub (ws' := []) [] (by decide) rfl) hS (Nat.le_of_ble_eq_true rfl) (Nat.le_of_ble_eq_true rfl) dX0_bodyOf_56

set_option maxHeartbeats 4000000 in
set_option maxRecDepth 100000 in
theorem c_begin_1 (l : Launch) (D : va_G) (cI cZ cQ cT : ClassId) (sz : Nat) (aa : Nat) (bd : Int32) (a1 : Nat) (sl : Int32) (kd : Int32) (vv : Int32) (fa : Nat → Int32)  : MetV l yX0_begin cX0_begin 2 ({ frames := 0, cells := 0, slots := 0, locals := 0 } : Room) [.ref aa, .int bd] D (TYS cI cZ cQ cT) EF sz [(aa, .inr (0, [.ref a1, .int 1, .int sl, .int kd, .int vv])), (a1, .inl (cI, 20, .inl fa))] (S := Unit) (fun (_ : Unit) => True) (fun _ => [(aa, .inr (0, [.ref a1, .int 2, .int sl, .int kd, .int vv])), (a1, .inl (cI, 20, .inl (upd fa 1 bd)))]) := by
  refine MetV.mk (lv := [(0, .ref aa), (1, .int bd)]) (by decide +kernel) (Nat.le_of_ble_eq_true rfl) rfl ?_
  intro p e s m below meth c A ls C0 hP hD hS hX hl
  have C1 := C0
  obtain ⟨hx, hb, hr, hml, hown, hlocks, hname, hT, hN, hK, hA⟩ := C1
  refine lv_aload_n hx hb dX0_begin_0 rfl (lv_at hl 0 rfl) ?_
  refine va_get (ci := 0) (v := .int 1) (C := RX0) (T := TX0) (N := 5) hx hb hT wu_X0 hown hK hP 0 rfl rfl 1 (by decide) (hT _ wf_X0_15) (fun _ h9 => h9) rfl dX0_begin_1 ?_
  refine lv_if_lt (tgt := 26) hx hb dX0_begin_4 (by decide) (fun c_0 => absurd c_0 (by decide)) (fun _ => ?_)
  refine lv_aload_n hx hb dX0_begin_7 rfl (lv_at hl 0 rfl) ?_
  refine va_get (ci := 0) (v := .int 1) (C := RX0) (T := TX0) (N := 5) hx hb hT wu_X0 hown hK hP 0 rfl rfl 1 (by decide) (hT _ wf_X0_15) (fun _ h9 => h9) rfl dX0_begin_8 ?_
  refine lv_bipush (v := 20) hx hb dX0_begin_11 (by decide) ?_
  refine lv_icmp_ge (tgt := 26) hx hb dX0_begin_13 (by decide) (fun c_0 => absurd c_0 (by decide)) (fun _ => ?_)
  refine lv_aload_n hx hb dX0_begin_16 rfl (lv_at hl 0 rfl) ?_
  refine va_get (ci := 0) (v := .ref a1) (C := RX0) (T := TX0) (N := 5) hx hb hT wu_X0 hown hK hP 0 rfl rfl 0 (by decide) (hT _ wf_X0_11) (fun _ h9 => h9) rfl dX0_begin_17 ?_
  refine lv_aload_n hx hb dX0_begin_20 rfl (lv_at hl 0 rfl) ?_
  refine va_get (ci := 0) (v := .int 1) (C := RX0) (T := TX0) (N := 5) hx hb hT wu_X0 hown hK hP 0 rfl rfl 1 (by decide) (hT _ wf_X0_15) (fun _ h9 => h9) rfl dX0_begin_21 ?_
  refine lv_iload_n hx hb dX0_begin_24 rfl (lv_at hl 1 rfl) ?_
  refine va_iast hx hb hK hP hD hS 1 0 rfl rfl (vin _ _ (by decide +kernel)) dX0_begin_25 (fun H locs hP hD hS => ?_)
  have hP : va_P D CL [(aa, .inr (0, [.ref a1, .int 1, .int sl, .int kd, .int vv])), (a1, .inl (cI, 20, .inl (upd fa ((1 : Int32)).toNatClampNeg bd)))] H := hP
  have hD : va_D A [(aa, .inr (0, [.ref a1, .int 1, .int sl, .int kd, .int vv])), (a1, .inl (cI, 20, .inl (upd fa ((1 : Int32)).toNatClampNeg bd)))] := hD
  rw [show ((1 : Int32)).toNatClampNeg = 1 from nI_clamp (n := 1) (by decide)] at hP hD
  have hP : va_P D CL [(aa, .inr (0, [.ref a1, .int 1, .int sl, .int kd, .int vv])), (a1, .inl (cI, 20, .inl (upd fa 1 bd)))] H := hP
  have hD : va_D A [(aa, .inr (0, [.ref a1, .int 1, .int sl, .int kd, .int vv])), (a1, .inl (cI, 20, .inl (upd fa 1 bd)))] := hD
  refine lv_aload_n hx hb dX0_begin_26 rfl (lv_at hl 0 rfl) ?_
  refine lv_dup hx hb dX0_begin_27 rfl ?_
  refine va_get (ci := 0) (v := .int 1) (C := RX0) (T := TX0) (N := 5) hx hb hT wu_X0 hown hK hP 0 rfl rfl 1 (by decide) (hT _ wf_X0_15) (fun _ h9 => h9) rfl dX0_begin_28 ?_
  refine lv_iconst (v := 1) hx hb dX0_begin_31 (by decide) ?_
  refine lv_iadd hx hb dX0_begin_32 ?_
  refine lv_ci 2 (by decide +kernel) ?_
  refine va_put (ci := 0) (v := .int 2) (ty := .int) (C := RX0) (T := TX0) (N := 5) hx hb hT wu_X0 tyX0 tyX0_ok nmX0 hown hK hP hD hS 0 rfl rfl 1 (by decide) (hT _ wf_X0_15) (fun _ h9 => h9) rfl (by decide +kernel) rfl rfl (Nat.le_of_ble_eq_true rfl) dX0_begin_33 (fun H locs hP hD hS => ?_)
  have hP : va_P D CL [(aa, .inr (0, [.ref a1, .int 2, .int sl, .int kd, .int vv])), (a1, .inl (cI, 20, .inl (upd fa 1 bd)))] H := hP
  have hD : va_D A [(aa, .inr (0, [.ref a1, .int 2, .int sl, .int kd, .int vv])), (a1, .inl (cI, 20, .inl (upd fa 1 bd)))] := hD
  exact retV C0 () trivial (hP.sub (ws' := [(aa, .inr (0, [.ref a1, .int 2, .int sl, .int kd, .int vv])), (a1, .inl (cI, 20, .inl (upd fa 1 bd)))]) [0, 1] rfl) (hD.sub (ws' := [(aa, .inr (0, [.ref a1, .int 2, .int sl, .int kd, .int vv])), (a1, .inl (cI, 20, .inl (upd fa 1 bd)))]) [0, 1] (by decide) rfl) hS (Nat.le_of_ble_eq_true rfl) (Nat.le_of_ble_eq_true rfl) dX0_begin_36

set_option maxHeartbeats 4000000 in
set_option maxRecDepth 100000 in
theorem c_ask_1_0_0_1_1 (l : Launch) (D : va_G) (cI cZ cQ cT : ClassId) (sz : Nat) (aa : Nat) (xx : Int32) (a1 : Nat) (sl : Int32) (vv : Int32) (fa : Nat → Int32)  : MetI l yX0_ask cX0_ask 7 .int ({ frames := 1, cells := 0, slots := 0, locals := 24 } : Room) [.ref aa, .int 0, .int 0, .int xx, .int 1] D (TYS cI cZ cQ cT) EF sz [(aa, .inr (0, [.ref a1, .int 1, .int sl, .int 1, .int vv])), (a1, .inl (cI, 20, .inl fa))] (S := Unit) (fun (r : Int32) (_ : Unit) => r = (xx + sl)) (fun _ => [(aa, .inr (0, [.ref a1, .int 2, .int sl, .int 1, .int vv])), (a1, .inl (cI, 20, .inl (upd fa 1 1)))]) := by
  refine MetI.mk (lv := [(0, .ref aa), (1, .int 0), (2, .int 0), (3, .int xx), (4, .int 1)]) (by decide +kernel) (Nat.le_of_ble_eq_true rfl) rfl ?_
  intro p e s m below meth c A ls C0 hP hD hS hX hl
  have C1 := C0
  obtain ⟨hx, hb, hr, hml, hown, hlocks, hname, hT, hN, hK, hA⟩ := C1
  refine lv_iload_n hx hb dX0_ask_0 rfl (lv_at hl 1 rfl) ?_
  refine lv_iload_n hx hb dX0_ask_1 rfl (lv_at hl 2 rfl) ?_
  refine contI (wc := []) (wr := [(aa, .inr (0, [.ref a1, .int 1, .int sl, .int 1, .int vv])), (a1, .inl (cI, 20, .inl fa))]) C0 hP hD hS [] [0, 1] rfl rfl (by decide) (by decide) 0 0 (Nat.le_of_ble_eq_true rfl) (Nat.le_of_ble_eq_true rfl) (runS (k := 2) (As := [.int 0, .int 0]) (rest := []) C0 (c_bodyOf_0_0 l D cI cZ cQ cT _ ) wc_X0_bodyOf wl_X0_48 wt_X0_bodyOf wz_X0 ⟨by decide, by decide, by decide +kernel⟩ ⟨(Nat.le_of_ble_eq_true rfl), (Nat.le_of_ble_eq_true rfl)⟩ hP hD hS EF.ok hX [] rfl (by decide) rfl hl.1 rfl (Nat.le_of_ble_eq_true rfl) dX0_ask_2 ⟨(Nat.le_of_ble_eq_true rfl), (Nat.le_of_ble_eq_true rfl)⟩) (fun r_3 u_1 H locs w_2 hP hD hS => ?_)
  have hP : va_P D CL [(aa, .inr (0, [.ref a1, .int 1, .int sl, .int 1, .int vv])), (a1, .inl (cI, 20, .inl fa))] H := hP
  have hD : va_D A [(aa, .inr (0, [.ref a1, .int 1, .int sl, .int 1, .int vv])), (a1, .inl (cI, 20, .inl fa))] := hD
  obtain rfl : r_3 = 1 := w_2
  refine lv_istore (lv' := [(5, .int 1), (0, .ref aa), (1, .int 0), (2, .int 0), (3, .int xx), (4, .int 1)]) hx hb dX0_ask_5 hl (by decide) rfl (fun ls hl => ?_)
  refine lv_iload hx hb dX0_ask_7 (lv_at hl 0 rfl) ?_
  refine lv_if_eq (tgt := 19) hx hb dX0_ask_9 (by decide) (fun c_0 => absurd c_0 (by decide)) (fun _ => ?_)
  refine lv_iload hx hb dX0_ask_12 (lv_at hl 5 rfl) ?_
  refine lv_bipush (v := 40) hx hb dX0_ask_14 (by decide) ?_
  refine lv_icmp_le (tgt := 21) hx hb dX0_ask_16 (by decide) (fun _ => ?_) (fun c_0 => absurd (by decide) c_0)
  refine lv_aload_n hx hb dX0_ask_21 rfl (lv_at hl 1 rfl) ?_
  refine lv_iload hx hb dX0_ask_22 (lv_at hl 0 rfl) ?_
  refine contV (wc := [(aa, .inr (0, [.ref a1, .int 1, .int sl, .int 1, .int vv])), (a1, .inl (cI, 20, .inl fa))]) (wr := []) C0 hP hD hS [0, 1] [] rfl rfl (by decide) (by decide) 0 0 (Nat.le_of_ble_eq_true rfl) (Nat.le_of_ble_eq_true rfl) (runV (k := 1) (As := [.int 1]) (rest := []) C0 (c_begin_1 l D cI cZ cQ cT _ aa 1 a1 sl 1 vv fa) wc_X0_begin wl_X0_52 wi_X0_begin we_X0_begin wz_X0 ⟨by decide, by decide, by decide +kernel⟩ ⟨(Nat.le_of_ble_eq_true rfl), (Nat.le_of_ble_eq_true rfl)⟩ hP hD hS EF.ok hX [0, 1] rfl (by decide) 0 rfl rfl rfl rfl hl.1 rfl (Nat.le_of_ble_eq_true rfl) dX0_ask_24 ⟨(Nat.le_of_ble_eq_true rfl), (Nat.le_of_ble_eq_true rfl)⟩) (fun u_4 H locs w_5 hP hD hS => ?_)
  have hP : va_P D CL [(aa, .inr (0, [.ref a1, .int 2, .int sl, .int 1, .int vv])), (a1, .inl (cI, 20, .inl (upd fa 1 (1 : Int32))))] H := hP
  have hD : va_D A [(aa, .inr (0, [.ref a1, .int 2, .int sl, .int 1, .int vv])), (a1, .inl (cI, 20, .inl (upd fa 1 (1 : Int32))))] := hD
  refine lv_iload hx hb dX0_ask_27 (lv_at hl 5 rfl) ?_
  refine lv_iconst (v := 1) hx hb dX0_ask_29 (by decide) ?_
  refine lv_iadd hx hb dX0_ask_30 ?_
  refine lv_ci 2 (by decide +kernel) ?_
  refine lv_istore (lv' := [(6, .int 2), (5, .int 1), (0, .ref aa), (1, .int 0), (2, .int 0), (3, .int xx), (4, .int 1)]) hx hb dX0_ask_31 hl (by decide) rfl (fun ls hl => ?_)
  refine lv_iload hx hb dX0_ask_33 (lv_at hl 1 rfl) ?_
  refine lv_lookup (off := 81) (tgt := 116) hx hb dX0_ask_35 (by decide) (by decide) (by decide) ?_
  refine lv_iload_n hx hb dX0_ask_116 rfl (lv_at hl 5 rfl) ?_
  refine lv_aload_n hx hb dX0_ask_117 rfl (lv_at hl 2 rfl) ?_
  refine va_get (ci := 0) (v := .int sl) (C := RX0) (T := TX0) (N := 5) hx hb hT wu_X0 hown hK hP 0 rfl rfl 2 (by decide) (hT _ wf_X0_25) (fun _ h9 => h9) rfl dX0_ask_118 ?_
  refine lv_iadd hx hb dX0_ask_121 ?_
  exact retI C0 rfl () rfl (hP.sub (ws' := [(aa, .inr (0, [.ref a1, .int 2, .int sl, .int 1, .int vv])), (a1, .inl (cI, 20, .inl (upd fa 1 1)))]) [0, 1] rfl) (hD.sub (ws' := [(aa, .inr (0, [.ref a1, .int 2, .int sl, .int 1, .int vv])), (a1, .inl (cI, 20, .inl (upd fa 1 1)))]) [0, 1] (by decide) rfl) hS (Nat.le_of_ble_eq_true rfl) (Nat.le_of_ble_eq_true rfl) dX0_ask_122

set_option maxHeartbeats 4000000 in
set_option maxRecDepth 100000 in
theorem c_ask_1_1_0_0_0 (l : Launch) (D : va_G) (cI cZ cQ cT : ClassId) (sz : Nat) (aa : Nat) (xx : Int32) (a1 : Nat) (sl : Int32) (vv : Int32) (fa : Nat → Int32)  : MetI l yX0_ask cX0_ask 7 .int ({ frames := 2, cells := 0, slots := 0, locals := 50 } : Room) [.ref aa, .int 1, .int 0, .int xx, .int 0] D (TYS cI cZ cQ cT) EF sz [(aa, .inr (0, [.ref a1, .int 0, .int sl, .int 1, .int vv])), (a1, .inl (cI, 20, .inl fa))] (S := Unit) (fun (r : Int32) (_ : Unit) => r = ((xx * (3 : Int32)) + sl)) (fun _ => [(aa, .inr (0, [.ref a1, .int 2, .int sl, .int 1, .int vv])), (a1, .inl (cI, 20, .inl (upd (upd fa 0 11) 1 1)))]) := by
  refine MetI.mk (lv := [(0, .ref aa), (1, .int 1), (2, .int 0), (3, .int xx), (4, .int 0)]) (by decide +kernel) (Nat.le_of_ble_eq_true rfl) rfl ?_
  intro p e s m below meth c A ls C0 hP hD hS hX hl
  have C1 := C0
  obtain ⟨hx, hb, hr, hml, hown, hlocks, hname, hT, hN, hK, hA⟩ := C1
  refine lv_iload_n hx hb dX0_ask_0 rfl (lv_at hl 1 rfl) ?_
  refine lv_iload_n hx hb dX0_ask_1 rfl (lv_at hl 2 rfl) ?_
  refine contI (wc := []) (wr := [(aa, .inr (0, [.ref a1, .int 0, .int sl, .int 1, .int vv])), (a1, .inl (cI, 20, .inl fa))]) C0 hP hD hS [] [0, 1] rfl rfl (by decide) (by decide) 0 0 (Nat.le_of_ble_eq_true rfl) (Nat.le_of_ble_eq_true rfl) (runS (k := 2) (As := [.int 1, .int 0]) (rest := []) C0 (c_bodyOf_1_0 l D cI cZ cQ cT _ ) wc_X0_bodyOf wl_X0_48 wt_X0_bodyOf wz_X0 ⟨by decide, by decide, by decide +kernel⟩ ⟨(Nat.le_of_ble_eq_true rfl), (Nat.le_of_ble_eq_true rfl)⟩ hP hD hS EF.ok hX [] rfl (by decide) rfl hl.1 rfl (Nat.le_of_ble_eq_true rfl) dX0_ask_2 ⟨(Nat.le_of_ble_eq_true rfl), (Nat.le_of_ble_eq_true rfl)⟩) (fun r_3 u_1 H locs w_2 hP hD hS => ?_)
  have hP : va_P D CL [(aa, .inr (0, [.ref a1, .int 0, .int sl, .int 1, .int vv])), (a1, .inl (cI, 20, .inl fa))] H := hP
  have hD : va_D A [(aa, .inr (0, [.ref a1, .int 0, .int sl, .int 1, .int vv])), (a1, .inl (cI, 20, .inl fa))] := hD
  obtain rfl : r_3 = 11 := w_2
  refine lv_istore (lv' := [(5, .int 11), (0, .ref aa), (1, .int 1), (2, .int 0), (3, .int xx), (4, .int 0)]) hx hb dX0_ask_5 hl (by decide) rfl (fun ls hl => ?_)
  refine lv_iload hx hb dX0_ask_7 (lv_at hl 0 rfl) ?_
  refine lv_if_eq (tgt := 19) hx hb dX0_ask_9 (by decide) (fun c_0 => absurd c_0 (by decide)) (fun _ => ?_)
  refine lv_iload hx hb dX0_ask_12 (lv_at hl 5 rfl) ?_
  refine lv_bipush (v := 40) hx hb dX0_ask_14 (by decide) ?_
  refine lv_icmp_le (tgt := 21) hx hb dX0_ask_16 (by decide) (fun _ => ?_) (fun c_0 => absurd (by decide) c_0)
  refine lv_aload_n hx hb dX0_ask_21 rfl (lv_at hl 1 rfl) ?_
  refine lv_iload hx hb dX0_ask_22 (lv_at hl 0 rfl) ?_
  refine contV (wc := [(aa, .inr (0, [.ref a1, .int 0, .int sl, .int 1, .int vv])), (a1, .inl (cI, 20, .inl fa))]) (wr := []) C0 hP hD hS [0, 1] [] rfl rfl (by decide) (by decide) 0 0 (Nat.le_of_ble_eq_true rfl) (Nat.le_of_ble_eq_true rfl) (runV (k := 1) (As := [.int 11]) (rest := []) C0 (c_begin_0 l D cI cZ cQ cT _ aa 11 a1 sl 1 vv fa) wc_X0_begin wl_X0_52 wi_X0_begin we_X0_begin wz_X0 ⟨by decide, by decide, by decide +kernel⟩ ⟨(Nat.le_of_ble_eq_true rfl), (Nat.le_of_ble_eq_true rfl)⟩ hP hD hS EF.ok hX [0, 1] rfl (by decide) 0 rfl rfl rfl rfl hl.1 rfl (Nat.le_of_ble_eq_true rfl) dX0_ask_24 ⟨(Nat.le_of_ble_eq_true rfl), (Nat.le_of_ble_eq_true rfl)⟩) (fun u_4 H locs w_5 hP hD hS => ?_)
  have hP : va_P D CL [(aa, .inr (0, [.ref a1, .int 1, .int sl, .int 1, .int vv])), (a1, .inl (cI, 20, .inl (upd fa 0 (11 : Int32))))] H := hP
  have hD : va_D A [(aa, .inr (0, [.ref a1, .int 1, .int sl, .int 1, .int vv])), (a1, .inl (cI, 20, .inl (upd fa 0 (11 : Int32))))] := hD
  refine lv_iload hx hb dX0_ask_27 (lv_at hl 5 rfl) ?_
  refine lv_iconst (v := 1) hx hb dX0_ask_29 (by decide) ?_
  refine lv_iadd hx hb dX0_ask_30 ?_
  refine lv_ci 1 (by decide +kernel) ?_
  refine lv_istore (lv' := [(6, .int 1), (5, .int 11), (0, .ref aa), (1, .int 1), (2, .int 0), (3, .int xx), (4, .int 0)]) hx hb dX0_ask_31 hl (by decide) rfl (fun ls hl => ?_)
  refine lv_iload hx hb dX0_ask_33 (lv_at hl 1 rfl) ?_
  refine lv_lookup (off := 121) (tgt := 156) hx hb dX0_ask_35 (by decide) (by decide) (by decide) ?_
  refine lv_aload_n hx hb dX0_ask_156 rfl (lv_at hl 2 rfl) ?_
  refine lv_iconst (v := 0) hx hb dX0_ask_157 (by decide) ?_
  refine lv_iconst (v := 0) hx hb dX0_ask_158 (by decide) ?_
  refine lv_iload_n hx hb dX0_ask_159 rfl (lv_at hl 5 rfl) ?_
  refine lv_iconst (v := 3) hx hb dX0_ask_160 (by decide) ?_
  refine lv_imul hx hb dX0_ask_161 ?_
  refine lv_iload hx hb dX0_ask_162 (lv_at hl 0 rfl) ?_
  refine contI (wc := [(aa, .inr (0, [.ref a1, .int 1, .int sl, .int 1, .int vv])), (a1, .inl (cI, 20, .inl (upd fa 0 (11 : Int32))))]) (wr := []) C0 hP hD hS [0, 1] [] rfl rfl (by decide) (by decide) 0 0 (Nat.le_of_ble_eq_true rfl) (Nat.le_of_ble_eq_true rfl) (runV (k := 4) (As := [.int 0, .int 0, .int (xx * (3 : Int32)), .int 1]) (rest := []) C0 (c_ask_1_0_0_1_1 l D cI cZ cQ cT _ aa (xx * (3 : Int32)) a1 sl vv (upd fa 0 (11 : Int32))) wc_X0_ask wl_X0_38 wi_X0_ask we_X0_ask wz_X0 ⟨by decide, by decide, by decide +kernel⟩ ⟨(Nat.le_of_ble_eq_true rfl), (Nat.le_of_ble_eq_true rfl)⟩ hP hD hS EF.ok hX [0, 1] rfl (by decide) 0 rfl rfl rfl rfl hl.1 rfl (Nat.le_of_ble_eq_true rfl) dX0_ask_164 ⟨(Nat.le_of_ble_eq_true rfl), (Nat.le_of_ble_eq_true rfl)⟩) (fun r_9 u_7 H locs w_8 hP hD hS => ?_)
  have hP : va_P D CL [(aa, .inr (0, [.ref a1, .int 2, .int sl, .int 1, .int vv])), (a1, .inl (cI, 20, .inl (upd (upd fa 0 (11 : Int32)) 1 1)))] H := hP
  have hD : va_D A [(aa, .inr (0, [.ref a1, .int 2, .int sl, .int 1, .int vv])), (a1, .inl (cI, 20, .inl (upd (upd fa 0 (11 : Int32)) 1 1)))] := hD
  obtain rfl : r_9 = ((xx * (3 : Int32)) + sl) := w_8
  exact retI C0 rfl () rfl (hP.sub (ws' := [(aa, .inr (0, [.ref a1, .int 2, .int sl, .int 1, .int vv])), (a1, .inl (cI, 20, .inl (upd (upd fa 0 11) 1 1)))]) [0, 1] rfl) (hD.sub (ws' := [(aa, .inr (0, [.ref a1, .int 2, .int sl, .int 1, .int vv])), (a1, .inl (cI, 20, .inl (upd (upd fa 0 11) 1 1)))]) [0, 1] (by decide) rfl) hS (Nat.le_of_ble_eq_true rfl) (Nat.le_of_ble_eq_true rfl) dX0_ask_167

set_option maxHeartbeats 4000000 in
set_option maxRecDepth 100000 in
theorem c_bodyOf_2_0 (l : Launch) (D : va_G) (cI cZ cQ cT : ClassId) (sz : Nat)   : MetI l yX0_bodyOf cX0_bodyOf 5 .int ({ frames := 0, cells := 0, slots := 0, locals := 0 } : Room) [.int 2, .int 0] D (TYS cI cZ cQ cT) EF sz [] (S := Unit) (fun (r : Int32) (_ : Unit) => r = 1) (fun _ => []) := by
  refine MetI.mk (lv := [(0, .int 2), (1, .int 0)]) (by decide +kernel) (Nat.le_of_ble_eq_true rfl) rfl ?_
  intro p e s m below meth c A ls C0 hP hD hS hX hl
  have C1 := C0
  obtain ⟨hx, hb, hr, hml, hown, hlocks, hname, hT, hN, hK, hA⟩ := C1
  obtain ⟨kab, hkz, hkT⟩ := hX.2.1
  obtain ⟨bdy, hbz, hbT⟩ := hX.2.2.1
  refine lv_iload_n hx hb dX0_bodyOf_0 rfl (lv_at hl 0 rfl) ?_
  refine lv_istore_n (lv' := [(2, .int 2), (0, .int 2), (1, .int 0)]) hx hb dX0_bodyOf_1 rfl hl (by decide) rfl (fun ls hl => ?_)
  refine lv_iconst (v := 0) hx hb dX0_bodyOf_2 (by decide) ?_
  refine lv_istore_n (lv' := [(3, .int 0), (2, .int 2), (0, .int 2), (1, .int 0)]) hx hb dX0_bodyOf_3 rfl hl (by decide) rfl (fun ls hl => ?_)
  refine lv_iload_n hx hb dX0_bodyOf_4 rfl (lv_at hl 0 rfl) ?_
  refine lv_bipush (v := 7) hx hb dX0_bodyOf_5 (by decide) ?_
  refine lv_icmp_ge (tgt := 69) hx hb dX0_bodyOf_7 (by decide) (fun c_0 => absurd c_0 (by decide)) (fun _ => ?_)
  refine lv_iload_n hx hb dX0_bodyOf_10 rfl (lv_at hl 1 rfl) ?_
  refine lv_if_lt (tgt := 69) hx hb dX0_bodyOf_11 (by decide) (fun c_0 => absurd c_0 (by decide)) (fun _ => ?_)
  refine lv_iload_n hx hb dX0_bodyOf_14 rfl (lv_at hl 1 rfl) ?_
  refine lv_bipush (v := 7) hx hb dX0_bodyOf_15 (by decide) ?_
  refine lv_icmp_ge (tgt := 69) hx hb dX0_bodyOf_17 (by decide) (fun c_0 => absurd c_0 (by decide)) (fun _ => ?_)
  refine lv_iload_n hx hb dX0_bodyOf_20 rfl (lv_at hl 1 rfl) ?_
  refine lv_iconst (v := 3) hx hb dX0_bodyOf_21 (by decide) ?_
  refine lv_imul hx hb dX0_bodyOf_22 ?_
  refine lv_ci 6 (by decide +kernel) ?_
  refine lv_iload_n hx hb dX0_bodyOf_23 rfl (lv_at hl 3 rfl) ?_
  refine lv_iadd hx hb dX0_bodyOf_24 ?_
  refine lv_ci 6 (by decide +kernel) ?_
  refine lv_istore (lv' := [(4, .int 6), (3, .int 0), (2, .int 2), (0, .int 2), (1, .int 0)]) hx hb dX0_bodyOf_25 hl (by decide) rfl (fun ls hl => ?_)
  refine lv_iload hx hb dX0_bodyOf_27 (lv_at hl 0 rfl) ?_
  refine lv_if_lt (tgt := 57) hx hb dX0_bodyOf_29 (by decide) (fun c_0 => absurd c_0 (by decide)) (fun _ => ?_)
  refine lv_iload hx hb dX0_bodyOf_32 (lv_at hl 0 rfl) ?_
  refine va_gets hx hb hbz hS hown (hT _ wf_X0_42) (fun _ h9 => h9) dX0_bodyOf_34 ?_
  refine va_tlen hx hb hbT hS (v := 21) rfl dX0_bodyOf_37 ?_
  refine lv_icmp_ge (tgt := 57) hx hb dX0_bodyOf_38 (by decide) (fun c_0 => absurd c_0 (by decide)) (fun _ => ?_)
  refine va_gets hx hb hbz hS hown (hT _ wf_X0_42) (fun _ h9 => h9) dX0_bodyOf_41 ?_
  refine lv_iload hx hb dX0_bodyOf_44 (lv_at hl 0 rfl) ?_
  refine va_ti hx hb hbT hS (vin _ _ (by decide +kernel)) (v := .int 0) rfl dX0_bodyOf_46 ?_
  refine lv_if_eq (tgt := 57) hx hb dX0_bodyOf_47 (by decide) (fun _ => ?_) (fun c_0 => absurd (by decide) c_0)
  refine va_getsN hx hb hkz hS hown (va_Nw.use rfl (hN.get 750 kf_X0_45 rfl)) (fun _ h9 => h9) dX0_bodyOf_57 ?_
  refine lv_iload_n hx hb dX0_bodyOf_60 rfl (lv_at hl 2 rfl) ?_
  refine va_ti hx hb hkT hS (vin _ _ (by decide +kernel)) (v := .int 0) rfl dX0_bodyOf_61 ?_
  refine lv_istore_n (lv' := [(2, .int 0), (4, .int 6), (3, .int 0), (0, .int 2), (1, .int 0)]) hx hb dX0_bodyOf_62 rfl hl (by decide) rfl (fun ls hl => ?_)
  refine lv_iinc (v := 1) (lv' := [(3, .int 1), (2, .int 0), (4, .int 6), (0, .int 2), (1, .int 0)]) hx hb dX0_bodyOf_63 hl (k := 2) rfl (by decide) (by decide) rfl (fun ls hl => ?_)
  refine lv_goto (tgt := 4) hx hb dX0_bodyOf_66 (by decide) ?_
  refine lv_iload_n hx hb dX0_bodyOf_4 rfl (lv_at hl 0 rfl) ?_
  refine lv_bipush (v := 7) hx hb dX0_bodyOf_5 (by decide) ?_
  refine lv_icmp_ge (tgt := 69) hx hb dX0_bodyOf_7 (by decide) (fun c_0 => absurd c_0 (by decide)) (fun _ => ?_)
  refine lv_iload_n hx hb dX0_bodyOf_10 rfl (lv_at hl 1 rfl) ?_
  refine lv_if_lt (tgt := 69) hx hb dX0_bodyOf_11 (by decide) (fun c_0 => absurd c_0 (by decide)) (fun _ => ?_)
  refine lv_iload_n hx hb dX0_bodyOf_14 rfl (lv_at hl 1 rfl) ?_
  refine lv_bipush (v := 7) hx hb dX0_bodyOf_15 (by decide) ?_
  refine lv_icmp_ge (tgt := 69) hx hb dX0_bodyOf_17 (by decide) (fun c_0 => absurd c_0 (by decide)) (fun _ => ?_)
  refine lv_iload_n hx hb dX0_bodyOf_20 rfl (lv_at hl 1 rfl) ?_
  refine lv_iconst (v := 3) hx hb dX0_bodyOf_21 (by decide) ?_
  refine lv_imul hx hb dX0_bodyOf_22 ?_
  refine lv_ci 0 (by decide +kernel) ?_
  refine lv_iload_n hx hb dX0_bodyOf_23 rfl (lv_at hl 4 rfl) ?_
  refine lv_iadd hx hb dX0_bodyOf_24 ?_
  refine lv_ci 0 (by decide +kernel) ?_
  refine lv_istore (lv' := [(4, .int 0), (3, .int 1), (2, .int 0), (0, .int 2), (1, .int 0)]) hx hb dX0_bodyOf_25 hl (by decide) rfl (fun ls hl => ?_)
  refine lv_iload hx hb dX0_bodyOf_27 (lv_at hl 0 rfl) ?_
  refine lv_if_lt (tgt := 57) hx hb dX0_bodyOf_29 (by decide) (fun c_0 => absurd c_0 (by decide)) (fun _ => ?_)
  refine lv_iload hx hb dX0_bodyOf_32 (lv_at hl 0 rfl) ?_
  refine va_gets hx hb hbz hS hown (hT _ wf_X0_42) (fun _ h9 => h9) dX0_bodyOf_34 ?_
  refine va_tlen hx hb hbT hS (v := 21) rfl dX0_bodyOf_37 ?_
  refine lv_icmp_ge (tgt := 57) hx hb dX0_bodyOf_38 (by decide) (fun c_0 => absurd c_0 (by decide)) (fun _ => ?_)
  refine va_gets hx hb hbz hS hown (hT _ wf_X0_42) (fun _ h9 => h9) dX0_bodyOf_41 ?_
  refine lv_iload hx hb dX0_bodyOf_44 (lv_at hl 0 rfl) ?_
  refine va_ti hx hb hbT hS (vin _ _ (by decide +kernel)) (v := .int 1) rfl dX0_bodyOf_46 ?_
  refine lv_if_eq (tgt := 57) hx hb dX0_bodyOf_47 (by decide) (fun c_0 => absurd c_0 (by decide)) (fun _ => ?_)
  refine va_gets hx hb hbz hS hown (hT _ wf_X0_42) (fun _ h9 => h9) dX0_bodyOf_50 ?_
  refine lv_iload hx hb dX0_bodyOf_53 (lv_at hl 0 rfl) ?_
  refine va_ti hx hb hbT hS (vin _ _ (by decide +kernel)) (v := .int 1) rfl dX0_bodyOf_55 ?_
  exact retI C0 rfl () rfl (hP.sub (ws' := []) [] rfl) (hD.sub (ws' := []) [] (by decide) rfl) hS (Nat.le_of_ble_eq_true rfl) (Nat.le_of_ble_eq_true rfl) dX0_bodyOf_56

set_option maxHeartbeats 4000000 in
set_option maxRecDepth 100000 in
theorem c_ask_2_2_0_0_0 (l : Launch) (D : va_G) (cI cZ cQ cT : ClassId) (sz : Nat) (aa : Nat) (xx : Int32) (a1 : Nat) (sl : Int32) (vv : Int32) (fa : Nat → Int32)  : MetI l yX0_ask cX0_ask 7 .int ({ frames := 1, cells := 0, slots := 0, locals := 24 } : Room) [.ref aa, .int 2, .int 0, .int xx, .int 0] D (TYS cI cZ cQ cT) EF sz [(aa, .inr (0, [.ref a1, .int 0, .int sl, .int 2, .int vv])), (a1, .inl (cI, 20, .inl fa))] (S := Unit) (fun (r : Int32) (_ : Unit) => r = (xx + sl)) (fun _ => [(aa, .inr (0, [.ref a1, .int 1, .int sl, .int 2, .int vv])), (a1, .inl (cI, 20, .inl (upd fa 0 1)))]) := by
  refine MetI.mk (lv := [(0, .ref aa), (1, .int 2), (2, .int 0), (3, .int xx), (4, .int 0)]) (by decide +kernel) (Nat.le_of_ble_eq_true rfl) rfl ?_
  intro p e s m below meth c A ls C0 hP hD hS hX hl
  have C1 := C0
  obtain ⟨hx, hb, hr, hml, hown, hlocks, hname, hT, hN, hK, hA⟩ := C1
  refine lv_iload_n hx hb dX0_ask_0 rfl (lv_at hl 1 rfl) ?_
  refine lv_iload_n hx hb dX0_ask_1 rfl (lv_at hl 2 rfl) ?_
  refine contI (wc := []) (wr := [(aa, .inr (0, [.ref a1, .int 0, .int sl, .int 2, .int vv])), (a1, .inl (cI, 20, .inl fa))]) C0 hP hD hS [] [0, 1] rfl rfl (by decide) (by decide) 0 0 (Nat.le_of_ble_eq_true rfl) (Nat.le_of_ble_eq_true rfl) (runS (k := 2) (As := [.int 2, .int 0]) (rest := []) C0 (c_bodyOf_2_0 l D cI cZ cQ cT _ ) wc_X0_bodyOf wl_X0_48 wt_X0_bodyOf wz_X0 ⟨by decide, by decide, by decide +kernel⟩ ⟨(Nat.le_of_ble_eq_true rfl), (Nat.le_of_ble_eq_true rfl)⟩ hP hD hS EF.ok hX [] rfl (by decide) rfl hl.1 rfl (Nat.le_of_ble_eq_true rfl) dX0_ask_2 ⟨(Nat.le_of_ble_eq_true rfl), (Nat.le_of_ble_eq_true rfl)⟩) (fun r_3 u_1 H locs w_2 hP hD hS => ?_)
  have hP : va_P D CL [(aa, .inr (0, [.ref a1, .int 0, .int sl, .int 2, .int vv])), (a1, .inl (cI, 20, .inl fa))] H := hP
  have hD : va_D A [(aa, .inr (0, [.ref a1, .int 0, .int sl, .int 2, .int vv])), (a1, .inl (cI, 20, .inl fa))] := hD
  obtain rfl : r_3 = 1 := w_2
  refine lv_istore (lv' := [(5, .int 1), (0, .ref aa), (1, .int 2), (2, .int 0), (3, .int xx), (4, .int 0)]) hx hb dX0_ask_5 hl (by decide) rfl (fun ls hl => ?_)
  refine lv_iload hx hb dX0_ask_7 (lv_at hl 0 rfl) ?_
  refine lv_if_eq (tgt := 19) hx hb dX0_ask_9 (by decide) (fun c_0 => absurd c_0 (by decide)) (fun _ => ?_)
  refine lv_iload hx hb dX0_ask_12 (lv_at hl 5 rfl) ?_
  refine lv_bipush (v := 40) hx hb dX0_ask_14 (by decide) ?_
  refine lv_icmp_le (tgt := 21) hx hb dX0_ask_16 (by decide) (fun _ => ?_) (fun c_0 => absurd (by decide) c_0)
  refine lv_aload_n hx hb dX0_ask_21 rfl (lv_at hl 1 rfl) ?_
  refine lv_iload hx hb dX0_ask_22 (lv_at hl 0 rfl) ?_
  refine contV (wc := [(aa, .inr (0, [.ref a1, .int 0, .int sl, .int 2, .int vv])), (a1, .inl (cI, 20, .inl fa))]) (wr := []) C0 hP hD hS [0, 1] [] rfl rfl (by decide) (by decide) 0 0 (Nat.le_of_ble_eq_true rfl) (Nat.le_of_ble_eq_true rfl) (runV (k := 1) (As := [.int 1]) (rest := []) C0 (c_begin_0 l D cI cZ cQ cT _ aa 1 a1 sl 2 vv fa) wc_X0_begin wl_X0_52 wi_X0_begin we_X0_begin wz_X0 ⟨by decide, by decide, by decide +kernel⟩ ⟨(Nat.le_of_ble_eq_true rfl), (Nat.le_of_ble_eq_true rfl)⟩ hP hD hS EF.ok hX [0, 1] rfl (by decide) 0 rfl rfl rfl rfl hl.1 rfl (Nat.le_of_ble_eq_true rfl) dX0_ask_24 ⟨(Nat.le_of_ble_eq_true rfl), (Nat.le_of_ble_eq_true rfl)⟩) (fun u_4 H locs w_5 hP hD hS => ?_)
  have hP : va_P D CL [(aa, .inr (0, [.ref a1, .int 1, .int sl, .int 2, .int vv])), (a1, .inl (cI, 20, .inl (upd fa 0 (1 : Int32))))] H := hP
  have hD : va_D A [(aa, .inr (0, [.ref a1, .int 1, .int sl, .int 2, .int vv])), (a1, .inl (cI, 20, .inl (upd fa 0 (1 : Int32))))] := hD
  refine lv_iload hx hb dX0_ask_27 (lv_at hl 5 rfl) ?_
  refine lv_iconst (v := 1) hx hb dX0_ask_29 (by decide) ?_
  refine lv_iadd hx hb dX0_ask_30 ?_
  refine lv_ci 1 (by decide +kernel) ?_
  refine lv_istore (lv' := [(6, .int 1), (5, .int 1), (0, .ref aa), (1, .int 2), (2, .int 0), (3, .int xx), (4, .int 0)]) hx hb dX0_ask_31 hl (by decide) rfl (fun ls hl => ?_)
  refine lv_iload hx hb dX0_ask_33 (lv_at hl 1 rfl) ?_
  refine lv_lookup (off := 81) (tgt := 116) hx hb dX0_ask_35 (by decide) (by decide) (by decide) ?_
  refine lv_iload_n hx hb dX0_ask_116 rfl (lv_at hl 5 rfl) ?_
  refine lv_aload_n hx hb dX0_ask_117 rfl (lv_at hl 2 rfl) ?_
  refine va_get (ci := 0) (v := .int sl) (C := RX0) (T := TX0) (N := 5) hx hb hT wu_X0 hown hK hP 0 rfl rfl 2 (by decide) (hT _ wf_X0_25) (fun _ h9 => h9) rfl dX0_ask_118 ?_
  refine lv_iadd hx hb dX0_ask_121 ?_
  exact retI C0 rfl () rfl (hP.sub (ws' := [(aa, .inr (0, [.ref a1, .int 1, .int sl, .int 2, .int vv])), (a1, .inl (cI, 20, .inl (upd fa 0 1)))]) [0, 1] rfl) (hD.sub (ws' := [(aa, .inr (0, [.ref a1, .int 1, .int sl, .int 2, .int vv])), (a1, .inl (cI, 20, .inl (upd fa 0 1)))]) [0, 1] (by decide) rfl) hS (Nat.le_of_ble_eq_true rfl) (Nat.le_of_ble_eq_true rfl) dX0_ask_122

set_option maxHeartbeats 4000000 in
set_option maxRecDepth 100000 in
theorem c_bodyOf_3_0 (l : Launch) (D : va_G) (cI cZ cQ cT : ClassId) (sz : Nat)   : MetI l yX0_bodyOf cX0_bodyOf 5 .int ({ frames := 0, cells := 0, slots := 0, locals := 0 } : Room) [.int 3, .int 0] D (TYS cI cZ cQ cT) EF sz [] (S := Unit) (fun (r : Int32) (_ : Unit) => r = 1) (fun _ => []) := by
  refine MetI.mk (lv := [(0, .int 3), (1, .int 0)]) (by decide +kernel) (Nat.le_of_ble_eq_true rfl) rfl ?_
  intro p e s m below meth c A ls C0 hP hD hS hX hl
  have C1 := C0
  obtain ⟨hx, hb, hr, hml, hown, hlocks, hname, hT, hN, hK, hA⟩ := C1
  obtain ⟨kab, hkz, hkT⟩ := hX.2.1
  obtain ⟨bdy, hbz, hbT⟩ := hX.2.2.1
  refine lv_iload_n hx hb dX0_bodyOf_0 rfl (lv_at hl 0 rfl) ?_
  refine lv_istore_n (lv' := [(2, .int 3), (0, .int 3), (1, .int 0)]) hx hb dX0_bodyOf_1 rfl hl (by decide) rfl (fun ls hl => ?_)
  refine lv_iconst (v := 0) hx hb dX0_bodyOf_2 (by decide) ?_
  refine lv_istore_n (lv' := [(3, .int 0), (2, .int 3), (0, .int 3), (1, .int 0)]) hx hb dX0_bodyOf_3 rfl hl (by decide) rfl (fun ls hl => ?_)
  refine lv_iload_n hx hb dX0_bodyOf_4 rfl (lv_at hl 0 rfl) ?_
  refine lv_bipush (v := 7) hx hb dX0_bodyOf_5 (by decide) ?_
  refine lv_icmp_ge (tgt := 69) hx hb dX0_bodyOf_7 (by decide) (fun c_0 => absurd c_0 (by decide)) (fun _ => ?_)
  refine lv_iload_n hx hb dX0_bodyOf_10 rfl (lv_at hl 1 rfl) ?_
  refine lv_if_lt (tgt := 69) hx hb dX0_bodyOf_11 (by decide) (fun c_0 => absurd c_0 (by decide)) (fun _ => ?_)
  refine lv_iload_n hx hb dX0_bodyOf_14 rfl (lv_at hl 1 rfl) ?_
  refine lv_bipush (v := 7) hx hb dX0_bodyOf_15 (by decide) ?_
  refine lv_icmp_ge (tgt := 69) hx hb dX0_bodyOf_17 (by decide) (fun c_0 => absurd c_0 (by decide)) (fun _ => ?_)
  refine lv_iload_n hx hb dX0_bodyOf_20 rfl (lv_at hl 1 rfl) ?_
  refine lv_iconst (v := 3) hx hb dX0_bodyOf_21 (by decide) ?_
  refine lv_imul hx hb dX0_bodyOf_22 ?_
  refine lv_ci 9 (by decide +kernel) ?_
  refine lv_iload_n hx hb dX0_bodyOf_23 rfl (lv_at hl 3 rfl) ?_
  refine lv_iadd hx hb dX0_bodyOf_24 ?_
  refine lv_ci 9 (by decide +kernel) ?_
  refine lv_istore (lv' := [(4, .int 9), (3, .int 0), (2, .int 3), (0, .int 3), (1, .int 0)]) hx hb dX0_bodyOf_25 hl (by decide) rfl (fun ls hl => ?_)
  refine lv_iload hx hb dX0_bodyOf_27 (lv_at hl 0 rfl) ?_
  refine lv_if_lt (tgt := 57) hx hb dX0_bodyOf_29 (by decide) (fun c_0 => absurd c_0 (by decide)) (fun _ => ?_)
  refine lv_iload hx hb dX0_bodyOf_32 (lv_at hl 0 rfl) ?_
  refine va_gets hx hb hbz hS hown (hT _ wf_X0_42) (fun _ h9 => h9) dX0_bodyOf_34 ?_
  refine va_tlen hx hb hbT hS (v := 21) rfl dX0_bodyOf_37 ?_
  refine lv_icmp_ge (tgt := 57) hx hb dX0_bodyOf_38 (by decide) (fun c_0 => absurd c_0 (by decide)) (fun _ => ?_)
  refine va_gets hx hb hbz hS hown (hT _ wf_X0_42) (fun _ h9 => h9) dX0_bodyOf_41 ?_
  refine lv_iload hx hb dX0_bodyOf_44 (lv_at hl 0 rfl) ?_
  refine va_ti hx hb hbT hS (vin _ _ (by decide +kernel)) (v := .int 0) rfl dX0_bodyOf_46 ?_
  refine lv_if_eq (tgt := 57) hx hb dX0_bodyOf_47 (by decide) (fun _ => ?_) (fun c_0 => absurd (by decide) c_0)
  refine va_getsN hx hb hkz hS hown (va_Nw.use rfl (hN.get 750 kf_X0_45 rfl)) (fun _ h9 => h9) dX0_bodyOf_57 ?_
  refine lv_iload_n hx hb dX0_bodyOf_60 rfl (lv_at hl 2 rfl) ?_
  refine va_ti hx hb hkT hS (vin _ _ (by decide +kernel)) (v := .int 0) rfl dX0_bodyOf_61 ?_
  refine lv_istore_n (lv' := [(2, .int 0), (4, .int 9), (3, .int 0), (0, .int 3), (1, .int 0)]) hx hb dX0_bodyOf_62 rfl hl (by decide) rfl (fun ls hl => ?_)
  refine lv_iinc (v := 1) (lv' := [(3, .int 1), (2, .int 0), (4, .int 9), (0, .int 3), (1, .int 0)]) hx hb dX0_bodyOf_63 hl (k := 2) rfl (by decide) (by decide) rfl (fun ls hl => ?_)
  refine lv_goto (tgt := 4) hx hb dX0_bodyOf_66 (by decide) ?_
  refine lv_iload_n hx hb dX0_bodyOf_4 rfl (lv_at hl 0 rfl) ?_
  refine lv_bipush (v := 7) hx hb dX0_bodyOf_5 (by decide) ?_
  refine lv_icmp_ge (tgt := 69) hx hb dX0_bodyOf_7 (by decide) (fun c_0 => absurd c_0 (by decide)) (fun _ => ?_)
  refine lv_iload_n hx hb dX0_bodyOf_10 rfl (lv_at hl 1 rfl) ?_
  refine lv_if_lt (tgt := 69) hx hb dX0_bodyOf_11 (by decide) (fun c_0 => absurd c_0 (by decide)) (fun _ => ?_)
  refine lv_iload_n hx hb dX0_bodyOf_14 rfl (lv_at hl 1 rfl) ?_
  refine lv_bipush (v := 7) hx hb dX0_bodyOf_15 (by decide) ?_
  refine lv_icmp_ge (tgt := 69) hx hb dX0_bodyOf_17 (by decide) (fun c_0 => absurd c_0 (by decide)) (fun _ => ?_)
  refine lv_iload_n hx hb dX0_bodyOf_20 rfl (lv_at hl 1 rfl) ?_
  refine lv_iconst (v := 3) hx hb dX0_bodyOf_21 (by decide) ?_
  refine lv_imul hx hb dX0_bodyOf_22 ?_
  refine lv_ci 0 (by decide +kernel) ?_
  refine lv_iload_n hx hb dX0_bodyOf_23 rfl (lv_at hl 4 rfl) ?_
  refine lv_iadd hx hb dX0_bodyOf_24 ?_
  refine lv_ci 0 (by decide +kernel) ?_
  refine lv_istore (lv' := [(4, .int 0), (3, .int 1), (2, .int 0), (0, .int 3), (1, .int 0)]) hx hb dX0_bodyOf_25 hl (by decide) rfl (fun ls hl => ?_)
  refine lv_iload hx hb dX0_bodyOf_27 (lv_at hl 0 rfl) ?_
  refine lv_if_lt (tgt := 57) hx hb dX0_bodyOf_29 (by decide) (fun c_0 => absurd c_0 (by decide)) (fun _ => ?_)
  refine lv_iload hx hb dX0_bodyOf_32 (lv_at hl 0 rfl) ?_
  refine va_gets hx hb hbz hS hown (hT _ wf_X0_42) (fun _ h9 => h9) dX0_bodyOf_34 ?_
  refine va_tlen hx hb hbT hS (v := 21) rfl dX0_bodyOf_37 ?_
  refine lv_icmp_ge (tgt := 57) hx hb dX0_bodyOf_38 (by decide) (fun c_0 => absurd c_0 (by decide)) (fun _ => ?_)
  refine va_gets hx hb hbz hS hown (hT _ wf_X0_42) (fun _ h9 => h9) dX0_bodyOf_41 ?_
  refine lv_iload hx hb dX0_bodyOf_44 (lv_at hl 0 rfl) ?_
  refine va_ti hx hb hbT hS (vin _ _ (by decide +kernel)) (v := .int 1) rfl dX0_bodyOf_46 ?_
  refine lv_if_eq (tgt := 57) hx hb dX0_bodyOf_47 (by decide) (fun c_0 => absurd c_0 (by decide)) (fun _ => ?_)
  refine va_gets hx hb hbz hS hown (hT _ wf_X0_42) (fun _ h9 => h9) dX0_bodyOf_50 ?_
  refine lv_iload hx hb dX0_bodyOf_53 (lv_at hl 0 rfl) ?_
  refine va_ti hx hb hbT hS (vin _ _ (by decide +kernel)) (v := .int 1) rfl dX0_bodyOf_55 ?_
  exact retI C0 rfl () rfl (hP.sub (ws' := []) [] rfl) (hD.sub (ws' := []) [] (by decide) rfl) hS (Nat.le_of_ble_eq_true rfl) (Nat.le_of_ble_eq_true rfl) dX0_bodyOf_56

set_option maxHeartbeats 4000000 in
set_option maxRecDepth 100000 in
theorem c_ask_3_3_0_0_0 (l : Launch) (D : va_G) (cI cZ cQ cT : ClassId) (sz : Nat) (aa : Nat) (xx : Int32) (a1 : Nat) (sl : Int32) (vv : Int32) (fa : Nat → Int32)  : MetI l yX0_ask cX0_ask 7 .int ({ frames := 1, cells := 0, slots := 0, locals := 24 } : Room) [.ref aa, .int 3, .int 0, .int xx, .int 0] D (TYS cI cZ cQ cT) EF sz [(aa, .inr (0, [.ref a1, .int 0, .int sl, .int 3, .int vv])), (a1, .inl (cI, 20, .inl fa))] (S := Unit) (fun (r : Int32) (_ : Unit) => r = (xx + sl)) (fun _ => [(aa, .inr (0, [.ref a1, .int 1, .int sl, .int 3, .int vv])), (a1, .inl (cI, 20, .inl (upd fa 0 1)))]) := by
  refine MetI.mk (lv := [(0, .ref aa), (1, .int 3), (2, .int 0), (3, .int xx), (4, .int 0)]) (by decide +kernel) (Nat.le_of_ble_eq_true rfl) rfl ?_
  intro p e s m below meth c A ls C0 hP hD hS hX hl
  have C1 := C0
  obtain ⟨hx, hb, hr, hml, hown, hlocks, hname, hT, hN, hK, hA⟩ := C1
  refine lv_iload_n hx hb dX0_ask_0 rfl (lv_at hl 1 rfl) ?_
  refine lv_iload_n hx hb dX0_ask_1 rfl (lv_at hl 2 rfl) ?_
  refine contI (wc := []) (wr := [(aa, .inr (0, [.ref a1, .int 0, .int sl, .int 3, .int vv])), (a1, .inl (cI, 20, .inl fa))]) C0 hP hD hS [] [0, 1] rfl rfl (by decide) (by decide) 0 0 (Nat.le_of_ble_eq_true rfl) (Nat.le_of_ble_eq_true rfl) (runS (k := 2) (As := [.int 3, .int 0]) (rest := []) C0 (c_bodyOf_3_0 l D cI cZ cQ cT _ ) wc_X0_bodyOf wl_X0_48 wt_X0_bodyOf wz_X0 ⟨by decide, by decide, by decide +kernel⟩ ⟨(Nat.le_of_ble_eq_true rfl), (Nat.le_of_ble_eq_true rfl)⟩ hP hD hS EF.ok hX [] rfl (by decide) rfl hl.1 rfl (Nat.le_of_ble_eq_true rfl) dX0_ask_2 ⟨(Nat.le_of_ble_eq_true rfl), (Nat.le_of_ble_eq_true rfl)⟩) (fun r_3 u_1 H locs w_2 hP hD hS => ?_)
  have hP : va_P D CL [(aa, .inr (0, [.ref a1, .int 0, .int sl, .int 3, .int vv])), (a1, .inl (cI, 20, .inl fa))] H := hP
  have hD : va_D A [(aa, .inr (0, [.ref a1, .int 0, .int sl, .int 3, .int vv])), (a1, .inl (cI, 20, .inl fa))] := hD
  obtain rfl : r_3 = 1 := w_2
  refine lv_istore (lv' := [(5, .int 1), (0, .ref aa), (1, .int 3), (2, .int 0), (3, .int xx), (4, .int 0)]) hx hb dX0_ask_5 hl (by decide) rfl (fun ls hl => ?_)
  refine lv_iload hx hb dX0_ask_7 (lv_at hl 0 rfl) ?_
  refine lv_if_eq (tgt := 19) hx hb dX0_ask_9 (by decide) (fun c_0 => absurd c_0 (by decide)) (fun _ => ?_)
  refine lv_iload hx hb dX0_ask_12 (lv_at hl 5 rfl) ?_
  refine lv_bipush (v := 40) hx hb dX0_ask_14 (by decide) ?_
  refine lv_icmp_le (tgt := 21) hx hb dX0_ask_16 (by decide) (fun _ => ?_) (fun c_0 => absurd (by decide) c_0)
  refine lv_aload_n hx hb dX0_ask_21 rfl (lv_at hl 1 rfl) ?_
  refine lv_iload hx hb dX0_ask_22 (lv_at hl 0 rfl) ?_
  refine contV (wc := [(aa, .inr (0, [.ref a1, .int 0, .int sl, .int 3, .int vv])), (a1, .inl (cI, 20, .inl fa))]) (wr := []) C0 hP hD hS [0, 1] [] rfl rfl (by decide) (by decide) 0 0 (Nat.le_of_ble_eq_true rfl) (Nat.le_of_ble_eq_true rfl) (runV (k := 1) (As := [.int 1]) (rest := []) C0 (c_begin_0 l D cI cZ cQ cT _ aa 1 a1 sl 3 vv fa) wc_X0_begin wl_X0_52 wi_X0_begin we_X0_begin wz_X0 ⟨by decide, by decide, by decide +kernel⟩ ⟨(Nat.le_of_ble_eq_true rfl), (Nat.le_of_ble_eq_true rfl)⟩ hP hD hS EF.ok hX [0, 1] rfl (by decide) 0 rfl rfl rfl rfl hl.1 rfl (Nat.le_of_ble_eq_true rfl) dX0_ask_24 ⟨(Nat.le_of_ble_eq_true rfl), (Nat.le_of_ble_eq_true rfl)⟩) (fun u_4 H locs w_5 hP hD hS => ?_)
  have hP : va_P D CL [(aa, .inr (0, [.ref a1, .int 1, .int sl, .int 3, .int vv])), (a1, .inl (cI, 20, .inl (upd fa 0 (1 : Int32))))] H := hP
  have hD : va_D A [(aa, .inr (0, [.ref a1, .int 1, .int sl, .int 3, .int vv])), (a1, .inl (cI, 20, .inl (upd fa 0 (1 : Int32))))] := hD
  refine lv_iload hx hb dX0_ask_27 (lv_at hl 5 rfl) ?_
  refine lv_iconst (v := 1) hx hb dX0_ask_29 (by decide) ?_
  refine lv_iadd hx hb dX0_ask_30 ?_
  refine lv_ci 1 (by decide +kernel) ?_
  refine lv_istore (lv' := [(6, .int 1), (5, .int 1), (0, .ref aa), (1, .int 3), (2, .int 0), (3, .int xx), (4, .int 0)]) hx hb dX0_ask_31 hl (by decide) rfl (fun ls hl => ?_)
  refine lv_iload hx hb dX0_ask_33 (lv_at hl 1 rfl) ?_
  refine lv_lookup (off := 81) (tgt := 116) hx hb dX0_ask_35 (by decide) (by decide) (by decide) ?_
  refine lv_iload_n hx hb dX0_ask_116 rfl (lv_at hl 5 rfl) ?_
  refine lv_aload_n hx hb dX0_ask_117 rfl (lv_at hl 2 rfl) ?_
  refine va_get (ci := 0) (v := .int sl) (C := RX0) (T := TX0) (N := 5) hx hb hT wu_X0 hown hK hP 0 rfl rfl 2 (by decide) (hT _ wf_X0_25) (fun _ h9 => h9) rfl dX0_ask_118 ?_
  refine lv_iadd hx hb dX0_ask_121 ?_
  exact retI C0 rfl () rfl (hP.sub (ws' := [(aa, .inr (0, [.ref a1, .int 1, .int sl, .int 3, .int vv])), (a1, .inl (cI, 20, .inl (upd fa 0 1)))]) [0, 1] rfl) (hD.sub (ws' := [(aa, .inr (0, [.ref a1, .int 1, .int sl, .int 3, .int vv])), (a1, .inl (cI, 20, .inl (upd fa 0 1)))]) [0, 1] (by decide) rfl) hS (Nat.le_of_ble_eq_true rfl) (Nat.le_of_ble_eq_true rfl) dX0_ask_122

set_option maxHeartbeats 4000000 in
set_option maxRecDepth 100000 in
theorem c_bodyOf_4_0 (l : Launch) (D : va_G) (cI cZ cQ cT : ClassId) (sz : Nat)   : MetI l yX0_bodyOf cX0_bodyOf 5 .int ({ frames := 0, cells := 0, slots := 0, locals := 0 } : Room) [.int 4, .int 0] D (TYS cI cZ cQ cT) EF sz [] (S := Unit) (fun (r : Int32) (_ : Unit) => r = 1) (fun _ => []) := by
  refine MetI.mk (lv := [(0, .int 4), (1, .int 0)]) (by decide +kernel) (Nat.le_of_ble_eq_true rfl) rfl ?_
  intro p e s m below meth c A ls C0 hP hD hS hX hl
  have C1 := C0
  obtain ⟨hx, hb, hr, hml, hown, hlocks, hname, hT, hN, hK, hA⟩ := C1
  obtain ⟨kab, hkz, hkT⟩ := hX.2.1
  obtain ⟨bdy, hbz, hbT⟩ := hX.2.2.1
  refine lv_iload_n hx hb dX0_bodyOf_0 rfl (lv_at hl 0 rfl) ?_
  refine lv_istore_n (lv' := [(2, .int 4), (0, .int 4), (1, .int 0)]) hx hb dX0_bodyOf_1 rfl hl (by decide) rfl (fun ls hl => ?_)
  refine lv_iconst (v := 0) hx hb dX0_bodyOf_2 (by decide) ?_
  refine lv_istore_n (lv' := [(3, .int 0), (2, .int 4), (0, .int 4), (1, .int 0)]) hx hb dX0_bodyOf_3 rfl hl (by decide) rfl (fun ls hl => ?_)
  refine lv_iload_n hx hb dX0_bodyOf_4 rfl (lv_at hl 0 rfl) ?_
  refine lv_bipush (v := 7) hx hb dX0_bodyOf_5 (by decide) ?_
  refine lv_icmp_ge (tgt := 69) hx hb dX0_bodyOf_7 (by decide) (fun c_0 => absurd c_0 (by decide)) (fun _ => ?_)
  refine lv_iload_n hx hb dX0_bodyOf_10 rfl (lv_at hl 1 rfl) ?_
  refine lv_if_lt (tgt := 69) hx hb dX0_bodyOf_11 (by decide) (fun c_0 => absurd c_0 (by decide)) (fun _ => ?_)
  refine lv_iload_n hx hb dX0_bodyOf_14 rfl (lv_at hl 1 rfl) ?_
  refine lv_bipush (v := 7) hx hb dX0_bodyOf_15 (by decide) ?_
  refine lv_icmp_ge (tgt := 69) hx hb dX0_bodyOf_17 (by decide) (fun c_0 => absurd c_0 (by decide)) (fun _ => ?_)
  refine lv_iload_n hx hb dX0_bodyOf_20 rfl (lv_at hl 1 rfl) ?_
  refine lv_iconst (v := 3) hx hb dX0_bodyOf_21 (by decide) ?_
  refine lv_imul hx hb dX0_bodyOf_22 ?_
  refine lv_ci 12 (by decide +kernel) ?_
  refine lv_iload_n hx hb dX0_bodyOf_23 rfl (lv_at hl 3 rfl) ?_
  refine lv_iadd hx hb dX0_bodyOf_24 ?_
  refine lv_ci 12 (by decide +kernel) ?_
  refine lv_istore (lv' := [(4, .int 12), (3, .int 0), (2, .int 4), (0, .int 4), (1, .int 0)]) hx hb dX0_bodyOf_25 hl (by decide) rfl (fun ls hl => ?_)
  refine lv_iload hx hb dX0_bodyOf_27 (lv_at hl 0 rfl) ?_
  refine lv_if_lt (tgt := 57) hx hb dX0_bodyOf_29 (by decide) (fun c_0 => absurd c_0 (by decide)) (fun _ => ?_)
  refine lv_iload hx hb dX0_bodyOf_32 (lv_at hl 0 rfl) ?_
  refine va_gets hx hb hbz hS hown (hT _ wf_X0_42) (fun _ h9 => h9) dX0_bodyOf_34 ?_
  refine va_tlen hx hb hbT hS (v := 21) rfl dX0_bodyOf_37 ?_
  refine lv_icmp_ge (tgt := 57) hx hb dX0_bodyOf_38 (by decide) (fun c_0 => absurd c_0 (by decide)) (fun _ => ?_)
  refine va_gets hx hb hbz hS hown (hT _ wf_X0_42) (fun _ h9 => h9) dX0_bodyOf_41 ?_
  refine lv_iload hx hb dX0_bodyOf_44 (lv_at hl 0 rfl) ?_
  refine va_ti hx hb hbT hS (vin _ _ (by decide +kernel)) (v := .int 0) rfl dX0_bodyOf_46 ?_
  refine lv_if_eq (tgt := 57) hx hb dX0_bodyOf_47 (by decide) (fun _ => ?_) (fun c_0 => absurd (by decide) c_0)
  refine va_getsN hx hb hkz hS hown (va_Nw.use rfl (hN.get 750 kf_X0_45 rfl)) (fun _ h9 => h9) dX0_bodyOf_57 ?_
  refine lv_iload_n hx hb dX0_bodyOf_60 rfl (lv_at hl 2 rfl) ?_
  refine va_ti hx hb hkT hS (vin _ _ (by decide +kernel)) (v := .int 2) rfl dX0_bodyOf_61 ?_
  refine lv_istore_n (lv' := [(2, .int 2), (4, .int 12), (3, .int 0), (0, .int 4), (1, .int 0)]) hx hb dX0_bodyOf_62 rfl hl (by decide) rfl (fun ls hl => ?_)
  refine lv_iinc (v := 1) (lv' := [(3, .int 1), (2, .int 2), (4, .int 12), (0, .int 4), (1, .int 0)]) hx hb dX0_bodyOf_63 hl (k := 2) rfl (by decide) (by decide) rfl (fun ls hl => ?_)
  refine lv_goto (tgt := 4) hx hb dX0_bodyOf_66 (by decide) ?_
  refine lv_iload_n hx hb dX0_bodyOf_4 rfl (lv_at hl 0 rfl) ?_
  refine lv_bipush (v := 7) hx hb dX0_bodyOf_5 (by decide) ?_
  refine lv_icmp_ge (tgt := 69) hx hb dX0_bodyOf_7 (by decide) (fun c_0 => absurd c_0 (by decide)) (fun _ => ?_)
  refine lv_iload_n hx hb dX0_bodyOf_10 rfl (lv_at hl 1 rfl) ?_
  refine lv_if_lt (tgt := 69) hx hb dX0_bodyOf_11 (by decide) (fun c_0 => absurd c_0 (by decide)) (fun _ => ?_)
  refine lv_iload_n hx hb dX0_bodyOf_14 rfl (lv_at hl 1 rfl) ?_
  refine lv_bipush (v := 7) hx hb dX0_bodyOf_15 (by decide) ?_
  refine lv_icmp_ge (tgt := 69) hx hb dX0_bodyOf_17 (by decide) (fun c_0 => absurd c_0 (by decide)) (fun _ => ?_)
  refine lv_iload_n hx hb dX0_bodyOf_20 rfl (lv_at hl 1 rfl) ?_
  refine lv_iconst (v := 3) hx hb dX0_bodyOf_21 (by decide) ?_
  refine lv_imul hx hb dX0_bodyOf_22 ?_
  refine lv_ci 6 (by decide +kernel) ?_
  refine lv_iload_n hx hb dX0_bodyOf_23 rfl (lv_at hl 4 rfl) ?_
  refine lv_iadd hx hb dX0_bodyOf_24 ?_
  refine lv_ci 6 (by decide +kernel) ?_
  refine lv_istore (lv' := [(4, .int 6), (3, .int 1), (2, .int 2), (0, .int 4), (1, .int 0)]) hx hb dX0_bodyOf_25 hl (by decide) rfl (fun ls hl => ?_)
  refine lv_iload hx hb dX0_bodyOf_27 (lv_at hl 0 rfl) ?_
  refine lv_if_lt (tgt := 57) hx hb dX0_bodyOf_29 (by decide) (fun c_0 => absurd c_0 (by decide)) (fun _ => ?_)
  refine lv_iload hx hb dX0_bodyOf_32 (lv_at hl 0 rfl) ?_
  refine va_gets hx hb hbz hS hown (hT _ wf_X0_42) (fun _ h9 => h9) dX0_bodyOf_34 ?_
  refine va_tlen hx hb hbT hS (v := 21) rfl dX0_bodyOf_37 ?_
  refine lv_icmp_ge (tgt := 57) hx hb dX0_bodyOf_38 (by decide) (fun c_0 => absurd c_0 (by decide)) (fun _ => ?_)
  refine va_gets hx hb hbz hS hown (hT _ wf_X0_42) (fun _ h9 => h9) dX0_bodyOf_41 ?_
  refine lv_iload hx hb dX0_bodyOf_44 (lv_at hl 0 rfl) ?_
  refine va_ti hx hb hbT hS (vin _ _ (by decide +kernel)) (v := .int 0) rfl dX0_bodyOf_46 ?_
  refine lv_if_eq (tgt := 57) hx hb dX0_bodyOf_47 (by decide) (fun _ => ?_) (fun c_0 => absurd (by decide) c_0)
  refine va_getsN hx hb hkz hS hown (va_Nw.use rfl (hN.get 750 kf_X0_45 rfl)) (fun _ h9 => h9) dX0_bodyOf_57 ?_
  refine lv_iload_n hx hb dX0_bodyOf_60 rfl (lv_at hl 2 rfl) ?_
  refine va_ti hx hb hkT hS (vin _ _ (by decide +kernel)) (v := .int 0) rfl dX0_bodyOf_61 ?_
  refine lv_istore_n (lv' := [(2, .int 0), (4, .int 6), (3, .int 1), (0, .int 4), (1, .int 0)]) hx hb dX0_bodyOf_62 rfl hl (by decide) rfl (fun ls hl => ?_)
  refine lv_iinc (v := 2) (lv' := [(3, .int 2), (2, .int 0), (4, .int 6), (0, .int 4), (1, .int 0)]) hx hb dX0_bodyOf_63 hl (k := 2) rfl (by decide) (by decide) rfl (fun ls hl => ?_)
  refine lv_goto (tgt := 4) hx hb dX0_bodyOf_66 (by decide) ?_
  refine lv_iload_n hx hb dX0_bodyOf_4 rfl (lv_at hl 0 rfl) ?_
  refine lv_bipush (v := 7) hx hb dX0_bodyOf_5 (by decide) ?_
  refine lv_icmp_ge (tgt := 69) hx hb dX0_bodyOf_7 (by decide) (fun c_0 => absurd c_0 (by decide)) (fun _ => ?_)
  refine lv_iload_n hx hb dX0_bodyOf_10 rfl (lv_at hl 1 rfl) ?_
  refine lv_if_lt (tgt := 69) hx hb dX0_bodyOf_11 (by decide) (fun c_0 => absurd c_0 (by decide)) (fun _ => ?_)
  refine lv_iload_n hx hb dX0_bodyOf_14 rfl (lv_at hl 1 rfl) ?_
  refine lv_bipush (v := 7) hx hb dX0_bodyOf_15 (by decide) ?_
  refine lv_icmp_ge (tgt := 69) hx hb dX0_bodyOf_17 (by decide) (fun c_0 => absurd c_0 (by decide)) (fun _ => ?_)
  refine lv_iload_n hx hb dX0_bodyOf_20 rfl (lv_at hl 1 rfl) ?_
  refine lv_iconst (v := 3) hx hb dX0_bodyOf_21 (by decide) ?_
  refine lv_imul hx hb dX0_bodyOf_22 ?_
  refine lv_ci 0 (by decide +kernel) ?_
  refine lv_iload_n hx hb dX0_bodyOf_23 rfl (lv_at hl 4 rfl) ?_
  refine lv_iadd hx hb dX0_bodyOf_24 ?_
  refine lv_ci 0 (by decide +kernel) ?_
  refine lv_istore (lv' := [(4, .int 0), (3, .int 2), (2, .int 0), (0, .int 4), (1, .int 0)]) hx hb dX0_bodyOf_25 hl (by decide) rfl (fun ls hl => ?_)
  refine lv_iload hx hb dX0_bodyOf_27 (lv_at hl 0 rfl) ?_
  refine lv_if_lt (tgt := 57) hx hb dX0_bodyOf_29 (by decide) (fun c_0 => absurd c_0 (by decide)) (fun _ => ?_)
  refine lv_iload hx hb dX0_bodyOf_32 (lv_at hl 0 rfl) ?_
  refine va_gets hx hb hbz hS hown (hT _ wf_X0_42) (fun _ h9 => h9) dX0_bodyOf_34 ?_
  refine va_tlen hx hb hbT hS (v := 21) rfl dX0_bodyOf_37 ?_
  refine lv_icmp_ge (tgt := 57) hx hb dX0_bodyOf_38 (by decide) (fun c_0 => absurd c_0 (by decide)) (fun _ => ?_)
  refine va_gets hx hb hbz hS hown (hT _ wf_X0_42) (fun _ h9 => h9) dX0_bodyOf_41 ?_
  refine lv_iload hx hb dX0_bodyOf_44 (lv_at hl 0 rfl) ?_
  refine va_ti hx hb hbT hS (vin _ _ (by decide +kernel)) (v := .int 1) rfl dX0_bodyOf_46 ?_
  refine lv_if_eq (tgt := 57) hx hb dX0_bodyOf_47 (by decide) (fun c_0 => absurd c_0 (by decide)) (fun _ => ?_)
  refine va_gets hx hb hbz hS hown (hT _ wf_X0_42) (fun _ h9 => h9) dX0_bodyOf_50 ?_
  refine lv_iload hx hb dX0_bodyOf_53 (lv_at hl 0 rfl) ?_
  refine va_ti hx hb hbT hS (vin _ _ (by decide +kernel)) (v := .int 1) rfl dX0_bodyOf_55 ?_
  exact retI C0 rfl () rfl (hP.sub (ws' := []) [] rfl) (hD.sub (ws' := []) [] (by decide) rfl) hS (Nat.le_of_ble_eq_true rfl) (Nat.le_of_ble_eq_true rfl) dX0_bodyOf_56

set_option maxHeartbeats 4000000 in
set_option maxRecDepth 100000 in
theorem c_ask_4_4_0_0_0 (l : Launch) (D : va_G) (cI cZ cQ cT : ClassId) (sz : Nat) (aa : Nat) (xx : Int32) (a1 : Nat) (sl : Int32) (vv : Int32) (fa : Nat → Int32)  : MetI l yX0_ask cX0_ask 7 .int ({ frames := 1, cells := 0, slots := 0, locals := 24 } : Room) [.ref aa, .int 4, .int 0, .int xx, .int 0] D (TYS cI cZ cQ cT) EF sz [(aa, .inr (0, [.ref a1, .int 0, .int sl, .int 4, .int vv])), (a1, .inl (cI, 20, .inl fa))] (S := Unit) (fun (r : Int32) (_ : Unit) => r = (xx + sl)) (fun _ => [(aa, .inr (0, [.ref a1, .int 1, .int sl, .int 4, .int vv])), (a1, .inl (cI, 20, .inl (upd fa 0 1)))]) := by
  refine MetI.mk (lv := [(0, .ref aa), (1, .int 4), (2, .int 0), (3, .int xx), (4, .int 0)]) (by decide +kernel) (Nat.le_of_ble_eq_true rfl) rfl ?_
  intro p e s m below meth c A ls C0 hP hD hS hX hl
  have C1 := C0
  obtain ⟨hx, hb, hr, hml, hown, hlocks, hname, hT, hN, hK, hA⟩ := C1
  refine lv_iload_n hx hb dX0_ask_0 rfl (lv_at hl 1 rfl) ?_
  refine lv_iload_n hx hb dX0_ask_1 rfl (lv_at hl 2 rfl) ?_
  refine contI (wc := []) (wr := [(aa, .inr (0, [.ref a1, .int 0, .int sl, .int 4, .int vv])), (a1, .inl (cI, 20, .inl fa))]) C0 hP hD hS [] [0, 1] rfl rfl (by decide) (by decide) 0 0 (Nat.le_of_ble_eq_true rfl) (Nat.le_of_ble_eq_true rfl) (runS (k := 2) (As := [.int 4, .int 0]) (rest := []) C0 (c_bodyOf_4_0 l D cI cZ cQ cT _ ) wc_X0_bodyOf wl_X0_48 wt_X0_bodyOf wz_X0 ⟨by decide, by decide, by decide +kernel⟩ ⟨(Nat.le_of_ble_eq_true rfl), (Nat.le_of_ble_eq_true rfl)⟩ hP hD hS EF.ok hX [] rfl (by decide) rfl hl.1 rfl (Nat.le_of_ble_eq_true rfl) dX0_ask_2 ⟨(Nat.le_of_ble_eq_true rfl), (Nat.le_of_ble_eq_true rfl)⟩) (fun r_3 u_1 H locs w_2 hP hD hS => ?_)
  have hP : va_P D CL [(aa, .inr (0, [.ref a1, .int 0, .int sl, .int 4, .int vv])), (a1, .inl (cI, 20, .inl fa))] H := hP
  have hD : va_D A [(aa, .inr (0, [.ref a1, .int 0, .int sl, .int 4, .int vv])), (a1, .inl (cI, 20, .inl fa))] := hD
  obtain rfl : r_3 = 1 := w_2
  refine lv_istore (lv' := [(5, .int 1), (0, .ref aa), (1, .int 4), (2, .int 0), (3, .int xx), (4, .int 0)]) hx hb dX0_ask_5 hl (by decide) rfl (fun ls hl => ?_)
  refine lv_iload hx hb dX0_ask_7 (lv_at hl 0 rfl) ?_
  refine lv_if_eq (tgt := 19) hx hb dX0_ask_9 (by decide) (fun c_0 => absurd c_0 (by decide)) (fun _ => ?_)
  refine lv_iload hx hb dX0_ask_12 (lv_at hl 5 rfl) ?_
  refine lv_bipush (v := 40) hx hb dX0_ask_14 (by decide) ?_
  refine lv_icmp_le (tgt := 21) hx hb dX0_ask_16 (by decide) (fun _ => ?_) (fun c_0 => absurd (by decide) c_0)
  refine lv_aload_n hx hb dX0_ask_21 rfl (lv_at hl 1 rfl) ?_
  refine lv_iload hx hb dX0_ask_22 (lv_at hl 0 rfl) ?_
  refine contV (wc := [(aa, .inr (0, [.ref a1, .int 0, .int sl, .int 4, .int vv])), (a1, .inl (cI, 20, .inl fa))]) (wr := []) C0 hP hD hS [0, 1] [] rfl rfl (by decide) (by decide) 0 0 (Nat.le_of_ble_eq_true rfl) (Nat.le_of_ble_eq_true rfl) (runV (k := 1) (As := [.int 1]) (rest := []) C0 (c_begin_0 l D cI cZ cQ cT _ aa 1 a1 sl 4 vv fa) wc_X0_begin wl_X0_52 wi_X0_begin we_X0_begin wz_X0 ⟨by decide, by decide, by decide +kernel⟩ ⟨(Nat.le_of_ble_eq_true rfl), (Nat.le_of_ble_eq_true rfl)⟩ hP hD hS EF.ok hX [0, 1] rfl (by decide) 0 rfl rfl rfl rfl hl.1 rfl (Nat.le_of_ble_eq_true rfl) dX0_ask_24 ⟨(Nat.le_of_ble_eq_true rfl), (Nat.le_of_ble_eq_true rfl)⟩) (fun u_4 H locs w_5 hP hD hS => ?_)
  have hP : va_P D CL [(aa, .inr (0, [.ref a1, .int 1, .int sl, .int 4, .int vv])), (a1, .inl (cI, 20, .inl (upd fa 0 (1 : Int32))))] H := hP
  have hD : va_D A [(aa, .inr (0, [.ref a1, .int 1, .int sl, .int 4, .int vv])), (a1, .inl (cI, 20, .inl (upd fa 0 (1 : Int32))))] := hD
  refine lv_iload hx hb dX0_ask_27 (lv_at hl 5 rfl) ?_
  refine lv_iconst (v := 1) hx hb dX0_ask_29 (by decide) ?_
  refine lv_iadd hx hb dX0_ask_30 ?_
  refine lv_ci 1 (by decide +kernel) ?_
  refine lv_istore (lv' := [(6, .int 1), (5, .int 1), (0, .ref aa), (1, .int 4), (2, .int 0), (3, .int xx), (4, .int 0)]) hx hb dX0_ask_31 hl (by decide) rfl (fun ls hl => ?_)
  refine lv_iload hx hb dX0_ask_33 (lv_at hl 1 rfl) ?_
  refine lv_lookup (off := 81) (tgt := 116) hx hb dX0_ask_35 (by decide) (by decide) (by decide) ?_
  refine lv_iload_n hx hb dX0_ask_116 rfl (lv_at hl 5 rfl) ?_
  refine lv_aload_n hx hb dX0_ask_117 rfl (lv_at hl 2 rfl) ?_
  refine va_get (ci := 0) (v := .int sl) (C := RX0) (T := TX0) (N := 5) hx hb hT wu_X0 hown hK hP 0 rfl rfl 2 (by decide) (hT _ wf_X0_25) (fun _ h9 => h9) rfl dX0_ask_118 ?_
  refine lv_iadd hx hb dX0_ask_121 ?_
  exact retI C0 rfl () rfl (hP.sub (ws' := [(aa, .inr (0, [.ref a1, .int 1, .int sl, .int 4, .int vv])), (a1, .inl (cI, 20, .inl (upd fa 0 1)))]) [0, 1] rfl) (hD.sub (ws' := [(aa, .inr (0, [.ref a1, .int 1, .int sl, .int 4, .int vv])), (a1, .inl (cI, 20, .inl (upd fa 0 1)))]) [0, 1] (by decide) rfl) hS (Nat.le_of_ble_eq_true rfl) (Nat.le_of_ble_eq_true rfl) dX0_ask_122

set_option maxHeartbeats 4000000 in
set_option maxRecDepth 100000 in
theorem c_bodyOf_5_0 (l : Launch) (D : va_G) (cI cZ cQ cT : ClassId) (sz : Nat)   : MetI l yX0_bodyOf cX0_bodyOf 5 .int ({ frames := 0, cells := 0, slots := 0, locals := 0 } : Room) [.int 5, .int 0] D (TYS cI cZ cQ cT) EF sz [] (S := Unit) (fun (r : Int32) (_ : Unit) => r = 51) (fun _ => []) := by
  refine MetI.mk (lv := [(0, .int 5), (1, .int 0)]) (by decide +kernel) (Nat.le_of_ble_eq_true rfl) rfl ?_
  intro p e s m below meth c A ls C0 hP hD hS hX hl
  have C1 := C0
  obtain ⟨hx, hb, hr, hml, hown, hlocks, hname, hT, hN, hK, hA⟩ := C1
  obtain ⟨kab, hkz, hkT⟩ := hX.2.1
  obtain ⟨bdy, hbz, hbT⟩ := hX.2.2.1
  refine lv_iload_n hx hb dX0_bodyOf_0 rfl (lv_at hl 0 rfl) ?_
  refine lv_istore_n (lv' := [(2, .int 5), (0, .int 5), (1, .int 0)]) hx hb dX0_bodyOf_1 rfl hl (by decide) rfl (fun ls hl => ?_)
  refine lv_iconst (v := 0) hx hb dX0_bodyOf_2 (by decide) ?_
  refine lv_istore_n (lv' := [(3, .int 0), (2, .int 5), (0, .int 5), (1, .int 0)]) hx hb dX0_bodyOf_3 rfl hl (by decide) rfl (fun ls hl => ?_)
  refine lv_iload_n hx hb dX0_bodyOf_4 rfl (lv_at hl 0 rfl) ?_
  refine lv_bipush (v := 7) hx hb dX0_bodyOf_5 (by decide) ?_
  refine lv_icmp_ge (tgt := 69) hx hb dX0_bodyOf_7 (by decide) (fun c_0 => absurd c_0 (by decide)) (fun _ => ?_)
  refine lv_iload_n hx hb dX0_bodyOf_10 rfl (lv_at hl 1 rfl) ?_
  refine lv_if_lt (tgt := 69) hx hb dX0_bodyOf_11 (by decide) (fun c_0 => absurd c_0 (by decide)) (fun _ => ?_)
  refine lv_iload_n hx hb dX0_bodyOf_14 rfl (lv_at hl 1 rfl) ?_
  refine lv_bipush (v := 7) hx hb dX0_bodyOf_15 (by decide) ?_
  refine lv_icmp_ge (tgt := 69) hx hb dX0_bodyOf_17 (by decide) (fun c_0 => absurd c_0 (by decide)) (fun _ => ?_)
  refine lv_iload_n hx hb dX0_bodyOf_20 rfl (lv_at hl 1 rfl) ?_
  refine lv_iconst (v := 3) hx hb dX0_bodyOf_21 (by decide) ?_
  refine lv_imul hx hb dX0_bodyOf_22 ?_
  refine lv_ci 15 (by decide +kernel) ?_
  refine lv_iload_n hx hb dX0_bodyOf_23 rfl (lv_at hl 3 rfl) ?_
  refine lv_iadd hx hb dX0_bodyOf_24 ?_
  refine lv_ci 15 (by decide +kernel) ?_
  refine lv_istore (lv' := [(4, .int 15), (3, .int 0), (2, .int 5), (0, .int 5), (1, .int 0)]) hx hb dX0_bodyOf_25 hl (by decide) rfl (fun ls hl => ?_)
  refine lv_iload hx hb dX0_bodyOf_27 (lv_at hl 0 rfl) ?_
  refine lv_if_lt (tgt := 57) hx hb dX0_bodyOf_29 (by decide) (fun c_0 => absurd c_0 (by decide)) (fun _ => ?_)
  refine lv_iload hx hb dX0_bodyOf_32 (lv_at hl 0 rfl) ?_
  refine va_gets hx hb hbz hS hown (hT _ wf_X0_42) (fun _ h9 => h9) dX0_bodyOf_34 ?_
  refine va_tlen hx hb hbT hS (v := 21) rfl dX0_bodyOf_37 ?_
  refine lv_icmp_ge (tgt := 57) hx hb dX0_bodyOf_38 (by decide) (fun c_0 => absurd c_0 (by decide)) (fun _ => ?_)
  refine va_gets hx hb hbz hS hown (hT _ wf_X0_42) (fun _ h9 => h9) dX0_bodyOf_41 ?_
  refine lv_iload hx hb dX0_bodyOf_44 (lv_at hl 0 rfl) ?_
  refine va_ti hx hb hbT hS (vin _ _ (by decide +kernel)) (v := .int 51) rfl dX0_bodyOf_46 ?_
  refine lv_if_eq (tgt := 57) hx hb dX0_bodyOf_47 (by decide) (fun c_0 => absurd c_0 (by decide)) (fun _ => ?_)
  refine va_gets hx hb hbz hS hown (hT _ wf_X0_42) (fun _ h9 => h9) dX0_bodyOf_50 ?_
  refine lv_iload hx hb dX0_bodyOf_53 (lv_at hl 0 rfl) ?_
  refine va_ti hx hb hbT hS (vin _ _ (by decide +kernel)) (v := .int 51) rfl dX0_bodyOf_55 ?_
  exact retI C0 rfl () rfl (hP.sub (ws' := []) [] rfl) (hD.sub (ws' := []) [] (by decide) rfl) hS (Nat.le_of_ble_eq_true rfl) (Nat.le_of_ble_eq_true rfl) dX0_bodyOf_56

set_option maxHeartbeats 4000000 in
set_option maxRecDepth 100000 in
theorem c_ask_5_3_0_1_1 (l : Launch) (D : va_G) (cI cZ cQ cT : ClassId) (sz : Nat) (aa : Nat) (xx : Int32) (a1 : Nat) (sl : Int32) (vv : Int32) (fa : Nat → Int32)  : MetI l yX0_ask cX0_ask 7 .int ({ frames := 1, cells := 0, slots := 0, locals := 24 } : Room) [.ref aa, .int 3, .int 0, .int xx, .int 1] D (TYS cI cZ cQ cT) EF sz [(aa, .inr (0, [.ref a1, .int 1, .int sl, .int 5, .int vv])), (a1, .inl (cI, 20, .inl fa))] (S := Unit) (fun (r : Int32) (_ : Unit) => r = (xx + sl)) (fun _ => [(aa, .inr (0, [.ref a1, .int 2, .int sl, .int 5, .int vv])), (a1, .inl (cI, 20, .inl (upd fa 1 1)))]) := by
  refine MetI.mk (lv := [(0, .ref aa), (1, .int 3), (2, .int 0), (3, .int xx), (4, .int 1)]) (by decide +kernel) (Nat.le_of_ble_eq_true rfl) rfl ?_
  intro p e s m below meth c A ls C0 hP hD hS hX hl
  have C1 := C0
  obtain ⟨hx, hb, hr, hml, hown, hlocks, hname, hT, hN, hK, hA⟩ := C1
  refine lv_iload_n hx hb dX0_ask_0 rfl (lv_at hl 1 rfl) ?_
  refine lv_iload_n hx hb dX0_ask_1 rfl (lv_at hl 2 rfl) ?_
  refine contI (wc := []) (wr := [(aa, .inr (0, [.ref a1, .int 1, .int sl, .int 5, .int vv])), (a1, .inl (cI, 20, .inl fa))]) C0 hP hD hS [] [0, 1] rfl rfl (by decide) (by decide) 0 0 (Nat.le_of_ble_eq_true rfl) (Nat.le_of_ble_eq_true rfl) (runS (k := 2) (As := [.int 3, .int 0]) (rest := []) C0 (c_bodyOf_3_0 l D cI cZ cQ cT _ ) wc_X0_bodyOf wl_X0_48 wt_X0_bodyOf wz_X0 ⟨by decide, by decide, by decide +kernel⟩ ⟨(Nat.le_of_ble_eq_true rfl), (Nat.le_of_ble_eq_true rfl)⟩ hP hD hS EF.ok hX [] rfl (by decide) rfl hl.1 rfl (Nat.le_of_ble_eq_true rfl) dX0_ask_2 ⟨(Nat.le_of_ble_eq_true rfl), (Nat.le_of_ble_eq_true rfl)⟩) (fun r_3 u_1 H locs w_2 hP hD hS => ?_)
  have hP : va_P D CL [(aa, .inr (0, [.ref a1, .int 1, .int sl, .int 5, .int vv])), (a1, .inl (cI, 20, .inl fa))] H := hP
  have hD : va_D A [(aa, .inr (0, [.ref a1, .int 1, .int sl, .int 5, .int vv])), (a1, .inl (cI, 20, .inl fa))] := hD
  obtain rfl : r_3 = 1 := w_2
  refine lv_istore (lv' := [(5, .int 1), (0, .ref aa), (1, .int 3), (2, .int 0), (3, .int xx), (4, .int 1)]) hx hb dX0_ask_5 hl (by decide) rfl (fun ls hl => ?_)
  refine lv_iload hx hb dX0_ask_7 (lv_at hl 0 rfl) ?_
  refine lv_if_eq (tgt := 19) hx hb dX0_ask_9 (by decide) (fun c_0 => absurd c_0 (by decide)) (fun _ => ?_)
  refine lv_iload hx hb dX0_ask_12 (lv_at hl 5 rfl) ?_
  refine lv_bipush (v := 40) hx hb dX0_ask_14 (by decide) ?_
  refine lv_icmp_le (tgt := 21) hx hb dX0_ask_16 (by decide) (fun _ => ?_) (fun c_0 => absurd (by decide) c_0)
  refine lv_aload_n hx hb dX0_ask_21 rfl (lv_at hl 1 rfl) ?_
  refine lv_iload hx hb dX0_ask_22 (lv_at hl 0 rfl) ?_
  refine contV (wc := [(aa, .inr (0, [.ref a1, .int 1, .int sl, .int 5, .int vv])), (a1, .inl (cI, 20, .inl fa))]) (wr := []) C0 hP hD hS [0, 1] [] rfl rfl (by decide) (by decide) 0 0 (Nat.le_of_ble_eq_true rfl) (Nat.le_of_ble_eq_true rfl) (runV (k := 1) (As := [.int 1]) (rest := []) C0 (c_begin_1 l D cI cZ cQ cT _ aa 1 a1 sl 5 vv fa) wc_X0_begin wl_X0_52 wi_X0_begin we_X0_begin wz_X0 ⟨by decide, by decide, by decide +kernel⟩ ⟨(Nat.le_of_ble_eq_true rfl), (Nat.le_of_ble_eq_true rfl)⟩ hP hD hS EF.ok hX [0, 1] rfl (by decide) 0 rfl rfl rfl rfl hl.1 rfl (Nat.le_of_ble_eq_true rfl) dX0_ask_24 ⟨(Nat.le_of_ble_eq_true rfl), (Nat.le_of_ble_eq_true rfl)⟩) (fun u_4 H locs w_5 hP hD hS => ?_)
  have hP : va_P D CL [(aa, .inr (0, [.ref a1, .int 2, .int sl, .int 5, .int vv])), (a1, .inl (cI, 20, .inl (upd fa 1 (1 : Int32))))] H := hP
  have hD : va_D A [(aa, .inr (0, [.ref a1, .int 2, .int sl, .int 5, .int vv])), (a1, .inl (cI, 20, .inl (upd fa 1 (1 : Int32))))] := hD
  refine lv_iload hx hb dX0_ask_27 (lv_at hl 5 rfl) ?_
  refine lv_iconst (v := 1) hx hb dX0_ask_29 (by decide) ?_
  refine lv_iadd hx hb dX0_ask_30 ?_
  refine lv_ci 2 (by decide +kernel) ?_
  refine lv_istore (lv' := [(6, .int 2), (5, .int 1), (0, .ref aa), (1, .int 3), (2, .int 0), (3, .int xx), (4, .int 1)]) hx hb dX0_ask_31 hl (by decide) rfl (fun ls hl => ?_)
  refine lv_iload hx hb dX0_ask_33 (lv_at hl 1 rfl) ?_
  refine lv_lookup (off := 81) (tgt := 116) hx hb dX0_ask_35 (by decide) (by decide) (by decide) ?_
  refine lv_iload_n hx hb dX0_ask_116 rfl (lv_at hl 5 rfl) ?_
  refine lv_aload_n hx hb dX0_ask_117 rfl (lv_at hl 2 rfl) ?_
  refine va_get (ci := 0) (v := .int sl) (C := RX0) (T := TX0) (N := 5) hx hb hT wu_X0 hown hK hP 0 rfl rfl 2 (by decide) (hT _ wf_X0_25) (fun _ h9 => h9) rfl dX0_ask_118 ?_
  refine lv_iadd hx hb dX0_ask_121 ?_
  exact retI C0 rfl () rfl (hP.sub (ws' := [(aa, .inr (0, [.ref a1, .int 2, .int sl, .int 5, .int vv])), (a1, .inl (cI, 20, .inl (upd fa 1 1)))]) [0, 1] rfl) (hD.sub (ws' := [(aa, .inr (0, [.ref a1, .int 2, .int sl, .int 5, .int vv])), (a1, .inl (cI, 20, .inl (upd fa 1 1)))]) [0, 1] (by decide) rfl) hS (Nat.le_of_ble_eq_true rfl) (Nat.le_of_ble_eq_true rfl) dX0_ask_122

set_option maxHeartbeats 4000000 in
set_option maxRecDepth 100000 in
theorem c_ask_5_5_0_0_0 (l : Launch) (D : va_G) (cI cZ cQ cT : ClassId) (sz : Nat) (aa : Nat) (xx : Int32) (a1 : Nat) (sl : Int32) (vv : Int32) (fa : Nat → Int32)  : MetI l yX0_ask cX0_ask 7 .int ({ frames := 2, cells := 0, slots := 0, locals := 50 } : Room) [.ref aa, .int 5, .int 0, .int xx, .int 0] D (TYS cI cZ cQ cT) EF sz [(aa, .inr (0, [.ref a1, .int 0, .int sl, .int 5, .int vv])), (a1, .inl (cI, 20, .inl fa))] (S := Unit) (fun (r : Int32) (_ : Unit) => r = ((xx + sl) ^^^ sl)) (fun _ => [(aa, .inr (0, [.ref a1, .int 2, .int sl, .int 5, .int vv])), (a1, .inl (cI, 20, .inl (upd (upd fa 0 51) 1 1)))]) := by
  refine MetI.mk (lv := [(0, .ref aa), (1, .int 5), (2, .int 0), (3, .int xx), (4, .int 0)]) (by decide +kernel) (Nat.le_of_ble_eq_true rfl) rfl ?_
  intro p e s m below meth c A ls C0 hP hD hS hX hl
  have C1 := C0
  obtain ⟨hx, hb, hr, hml, hown, hlocks, hname, hT, hN, hK, hA⟩ := C1
  refine lv_iload_n hx hb dX0_ask_0 rfl (lv_at hl 1 rfl) ?_
  refine lv_iload_n hx hb dX0_ask_1 rfl (lv_at hl 2 rfl) ?_
  refine contI (wc := []) (wr := [(aa, .inr (0, [.ref a1, .int 0, .int sl, .int 5, .int vv])), (a1, .inl (cI, 20, .inl fa))]) C0 hP hD hS [] [0, 1] rfl rfl (by decide) (by decide) 0 0 (Nat.le_of_ble_eq_true rfl) (Nat.le_of_ble_eq_true rfl) (runS (k := 2) (As := [.int 5, .int 0]) (rest := []) C0 (c_bodyOf_5_0 l D cI cZ cQ cT _ ) wc_X0_bodyOf wl_X0_48 wt_X0_bodyOf wz_X0 ⟨by decide, by decide, by decide +kernel⟩ ⟨(Nat.le_of_ble_eq_true rfl), (Nat.le_of_ble_eq_true rfl)⟩ hP hD hS EF.ok hX [] rfl (by decide) rfl hl.1 rfl (Nat.le_of_ble_eq_true rfl) dX0_ask_2 ⟨(Nat.le_of_ble_eq_true rfl), (Nat.le_of_ble_eq_true rfl)⟩) (fun r_3 u_1 H locs w_2 hP hD hS => ?_)
  have hP : va_P D CL [(aa, .inr (0, [.ref a1, .int 0, .int sl, .int 5, .int vv])), (a1, .inl (cI, 20, .inl fa))] H := hP
  have hD : va_D A [(aa, .inr (0, [.ref a1, .int 0, .int sl, .int 5, .int vv])), (a1, .inl (cI, 20, .inl fa))] := hD
  obtain rfl : r_3 = 51 := w_2
  refine lv_istore (lv' := [(5, .int 51), (0, .ref aa), (1, .int 5), (2, .int 0), (3, .int xx), (4, .int 0)]) hx hb dX0_ask_5 hl (by decide) rfl (fun ls hl => ?_)
  refine lv_iload hx hb dX0_ask_7 (lv_at hl 0 rfl) ?_
  refine lv_if_eq (tgt := 19) hx hb dX0_ask_9 (by decide) (fun c_0 => absurd c_0 (by decide)) (fun _ => ?_)
  refine lv_iload hx hb dX0_ask_12 (lv_at hl 5 rfl) ?_
  refine lv_bipush (v := 40) hx hb dX0_ask_14 (by decide) ?_
  refine lv_icmp_le (tgt := 21) hx hb dX0_ask_16 (by decide) (fun _ => ?_) (fun c_0 => absurd (by decide) c_0)
  refine lv_aload_n hx hb dX0_ask_21 rfl (lv_at hl 1 rfl) ?_
  refine lv_iload hx hb dX0_ask_22 (lv_at hl 0 rfl) ?_
  refine contV (wc := [(aa, .inr (0, [.ref a1, .int 0, .int sl, .int 5, .int vv])), (a1, .inl (cI, 20, .inl fa))]) (wr := []) C0 hP hD hS [0, 1] [] rfl rfl (by decide) (by decide) 0 0 (Nat.le_of_ble_eq_true rfl) (Nat.le_of_ble_eq_true rfl) (runV (k := 1) (As := [.int 51]) (rest := []) C0 (c_begin_0 l D cI cZ cQ cT _ aa 51 a1 sl 5 vv fa) wc_X0_begin wl_X0_52 wi_X0_begin we_X0_begin wz_X0 ⟨by decide, by decide, by decide +kernel⟩ ⟨(Nat.le_of_ble_eq_true rfl), (Nat.le_of_ble_eq_true rfl)⟩ hP hD hS EF.ok hX [0, 1] rfl (by decide) 0 rfl rfl rfl rfl hl.1 rfl (Nat.le_of_ble_eq_true rfl) dX0_ask_24 ⟨(Nat.le_of_ble_eq_true rfl), (Nat.le_of_ble_eq_true rfl)⟩) (fun u_4 H locs w_5 hP hD hS => ?_)
  have hP : va_P D CL [(aa, .inr (0, [.ref a1, .int 1, .int sl, .int 5, .int vv])), (a1, .inl (cI, 20, .inl (upd fa 0 (51 : Int32))))] H := hP
  have hD : va_D A [(aa, .inr (0, [.ref a1, .int 1, .int sl, .int 5, .int vv])), (a1, .inl (cI, 20, .inl (upd fa 0 (51 : Int32))))] := hD
  refine lv_iload hx hb dX0_ask_27 (lv_at hl 5 rfl) ?_
  refine lv_iconst (v := 1) hx hb dX0_ask_29 (by decide) ?_
  refine lv_iadd hx hb dX0_ask_30 ?_
  refine lv_ci 1 (by decide +kernel) ?_
  refine lv_istore (lv' := [(6, .int 1), (5, .int 51), (0, .ref aa), (1, .int 5), (2, .int 0), (3, .int xx), (4, .int 0)]) hx hb dX0_ask_31 hl (by decide) rfl (fun ls hl => ?_)
  refine lv_iload hx hb dX0_ask_33 (lv_at hl 1 rfl) ?_
  refine lv_lookup (off := 182) (tgt := 217) hx hb dX0_ask_35 (by decide) (by decide) (by decide) ?_
  refine lv_aload_n hx hb dX0_ask_217 rfl (lv_at hl 2 rfl) ?_
  refine lv_iconst (v := 3) hx hb dX0_ask_218 (by decide) ?_
  refine lv_iconst (v := 0) hx hb dX0_ask_219 (by decide) ?_
  refine lv_iload_n hx hb dX0_ask_220 rfl (lv_at hl 5 rfl) ?_
  refine lv_iload hx hb dX0_ask_221 (lv_at hl 0 rfl) ?_
  refine contI (wc := [(aa, .inr (0, [.ref a1, .int 1, .int sl, .int 5, .int vv])), (a1, .inl (cI, 20, .inl (upd fa 0 (51 : Int32))))]) (wr := []) C0 hP hD hS [0, 1] [] rfl rfl (by decide) (by decide) 0 0 (Nat.le_of_ble_eq_true rfl) (Nat.le_of_ble_eq_true rfl) (runV (k := 4) (As := [.int 3, .int 0, .int xx, .int 1]) (rest := []) C0 (c_ask_5_3_0_1_1 l D cI cZ cQ cT _ aa xx a1 sl vv (upd fa 0 (51 : Int32))) wc_X0_ask wl_X0_38 wi_X0_ask we_X0_ask wz_X0 ⟨by decide, by decide, by decide +kernel⟩ ⟨(Nat.le_of_ble_eq_true rfl), (Nat.le_of_ble_eq_true rfl)⟩ hP hD hS EF.ok hX [0, 1] rfl (by decide) 0 rfl rfl rfl rfl hl.1 rfl (Nat.le_of_ble_eq_true rfl) dX0_ask_223 ⟨(Nat.le_of_ble_eq_true rfl), (Nat.le_of_ble_eq_true rfl)⟩) (fun r_9 u_7 H locs w_8 hP hD hS => ?_)
  have hP : va_P D CL [(aa, .inr (0, [.ref a1, .int 2, .int sl, .int 5, .int vv])), (a1, .inl (cI, 20, .inl (upd (upd fa 0 (51 : Int32)) 1 1)))] H := hP
  have hD : va_D A [(aa, .inr (0, [.ref a1, .int 2, .int sl, .int 5, .int vv])), (a1, .inl (cI, 20, .inl (upd (upd fa 0 (51 : Int32)) 1 1)))] := hD
  obtain rfl : r_9 = (xx + sl) := w_8
  refine lv_aload_n hx hb dX0_ask_226 rfl (lv_at hl 2 rfl) ?_
  refine va_get (ci := 0) (v := .int sl) (C := RX0) (T := TX0) (N := 5) hx hb hT wu_X0 hown hK hP 0 rfl rfl 2 (by decide) (hT _ wf_X0_25) (fun _ h9 => h9) rfl dX0_ask_227 ?_
  refine lv_ixor hx hb dX0_ask_230 ?_
  exact retI C0 rfl () rfl (hP.sub (ws' := [(aa, .inr (0, [.ref a1, .int 2, .int sl, .int 5, .int vv])), (a1, .inl (cI, 20, .inl (upd (upd fa 0 51) 1 1)))]) [0, 1] rfl) (hD.sub (ws' := [(aa, .inr (0, [.ref a1, .int 2, .int sl, .int 5, .int vv])), (a1, .inl (cI, 20, .inl (upd (upd fa 0 51) 1 1)))]) [0, 1] (by decide) rfl) hS (Nat.le_of_ble_eq_true rfl) (Nat.le_of_ble_eq_true rfl) dX0_ask_231

set_option maxHeartbeats 4000000 in
set_option maxRecDepth 100000 in
theorem c_bodyOf_6_0 (l : Launch) (D : va_G) (cI cZ cQ cT : ClassId) (sz : Nat)   : MetI l yX0_bodyOf cX0_bodyOf 5 .int ({ frames := 0, cells := 0, slots := 0, locals := 0 } : Room) [.int 6, .int 0] D (TYS cI cZ cQ cT) EF sz [] (S := Unit) (fun (r : Int32) (_ : Unit) => r = 1) (fun _ => []) := by
  refine MetI.mk (lv := [(0, .int 6), (1, .int 0)]) (by decide +kernel) (Nat.le_of_ble_eq_true rfl) rfl ?_
  intro p e s m below meth c A ls C0 hP hD hS hX hl
  have C1 := C0
  obtain ⟨hx, hb, hr, hml, hown, hlocks, hname, hT, hN, hK, hA⟩ := C1
  obtain ⟨kab, hkz, hkT⟩ := hX.2.1
  obtain ⟨bdy, hbz, hbT⟩ := hX.2.2.1
  refine lv_iload_n hx hb dX0_bodyOf_0 rfl (lv_at hl 0 rfl) ?_
  refine lv_istore_n (lv' := [(2, .int 6), (0, .int 6), (1, .int 0)]) hx hb dX0_bodyOf_1 rfl hl (by decide) rfl (fun ls hl => ?_)
  refine lv_iconst (v := 0) hx hb dX0_bodyOf_2 (by decide) ?_
  refine lv_istore_n (lv' := [(3, .int 0), (2, .int 6), (0, .int 6), (1, .int 0)]) hx hb dX0_bodyOf_3 rfl hl (by decide) rfl (fun ls hl => ?_)
  refine lv_iload_n hx hb dX0_bodyOf_4 rfl (lv_at hl 0 rfl) ?_
  refine lv_bipush (v := 7) hx hb dX0_bodyOf_5 (by decide) ?_
  refine lv_icmp_ge (tgt := 69) hx hb dX0_bodyOf_7 (by decide) (fun c_0 => absurd c_0 (by decide)) (fun _ => ?_)
  refine lv_iload_n hx hb dX0_bodyOf_10 rfl (lv_at hl 1 rfl) ?_
  refine lv_if_lt (tgt := 69) hx hb dX0_bodyOf_11 (by decide) (fun c_0 => absurd c_0 (by decide)) (fun _ => ?_)
  refine lv_iload_n hx hb dX0_bodyOf_14 rfl (lv_at hl 1 rfl) ?_
  refine lv_bipush (v := 7) hx hb dX0_bodyOf_15 (by decide) ?_
  refine lv_icmp_ge (tgt := 69) hx hb dX0_bodyOf_17 (by decide) (fun c_0 => absurd c_0 (by decide)) (fun _ => ?_)
  refine lv_iload_n hx hb dX0_bodyOf_20 rfl (lv_at hl 1 rfl) ?_
  refine lv_iconst (v := 3) hx hb dX0_bodyOf_21 (by decide) ?_
  refine lv_imul hx hb dX0_bodyOf_22 ?_
  refine lv_ci 18 (by decide +kernel) ?_
  refine lv_iload_n hx hb dX0_bodyOf_23 rfl (lv_at hl 3 rfl) ?_
  refine lv_iadd hx hb dX0_bodyOf_24 ?_
  refine lv_ci 18 (by decide +kernel) ?_
  refine lv_istore (lv' := [(4, .int 18), (3, .int 0), (2, .int 6), (0, .int 6), (1, .int 0)]) hx hb dX0_bodyOf_25 hl (by decide) rfl (fun ls hl => ?_)
  refine lv_iload hx hb dX0_bodyOf_27 (lv_at hl 0 rfl) ?_
  refine lv_if_lt (tgt := 57) hx hb dX0_bodyOf_29 (by decide) (fun c_0 => absurd c_0 (by decide)) (fun _ => ?_)
  refine lv_iload hx hb dX0_bodyOf_32 (lv_at hl 0 rfl) ?_
  refine va_gets hx hb hbz hS hown (hT _ wf_X0_42) (fun _ h9 => h9) dX0_bodyOf_34 ?_
  refine va_tlen hx hb hbT hS (v := 21) rfl dX0_bodyOf_37 ?_
  refine lv_icmp_ge (tgt := 57) hx hb dX0_bodyOf_38 (by decide) (fun c_0 => absurd c_0 (by decide)) (fun _ => ?_)
  refine va_gets hx hb hbz hS hown (hT _ wf_X0_42) (fun _ h9 => h9) dX0_bodyOf_41 ?_
  refine lv_iload hx hb dX0_bodyOf_44 (lv_at hl 0 rfl) ?_
  refine va_ti hx hb hbT hS (vin _ _ (by decide +kernel)) (v := .int 0) rfl dX0_bodyOf_46 ?_
  refine lv_if_eq (tgt := 57) hx hb dX0_bodyOf_47 (by decide) (fun _ => ?_) (fun c_0 => absurd (by decide) c_0)
  refine va_getsN hx hb hkz hS hown (va_Nw.use rfl (hN.get 750 kf_X0_45 rfl)) (fun _ h9 => h9) dX0_bodyOf_57 ?_
  refine lv_iload_n hx hb dX0_bodyOf_60 rfl (lv_at hl 2 rfl) ?_
  refine va_ti hx hb hkT hS (vin _ _ (by decide +kernel)) (v := .int 3) rfl dX0_bodyOf_61 ?_
  refine lv_istore_n (lv' := [(2, .int 3), (4, .int 18), (3, .int 0), (0, .int 6), (1, .int 0)]) hx hb dX0_bodyOf_62 rfl hl (by decide) rfl (fun ls hl => ?_)
  refine lv_iinc (v := 1) (lv' := [(3, .int 1), (2, .int 3), (4, .int 18), (0, .int 6), (1, .int 0)]) hx hb dX0_bodyOf_63 hl (k := 2) rfl (by decide) (by decide) rfl (fun ls hl => ?_)
  refine lv_goto (tgt := 4) hx hb dX0_bodyOf_66 (by decide) ?_
  refine lv_iload_n hx hb dX0_bodyOf_4 rfl (lv_at hl 0 rfl) ?_
  refine lv_bipush (v := 7) hx hb dX0_bodyOf_5 (by decide) ?_
  refine lv_icmp_ge (tgt := 69) hx hb dX0_bodyOf_7 (by decide) (fun c_0 => absurd c_0 (by decide)) (fun _ => ?_)
  refine lv_iload_n hx hb dX0_bodyOf_10 rfl (lv_at hl 1 rfl) ?_
  refine lv_if_lt (tgt := 69) hx hb dX0_bodyOf_11 (by decide) (fun c_0 => absurd c_0 (by decide)) (fun _ => ?_)
  refine lv_iload_n hx hb dX0_bodyOf_14 rfl (lv_at hl 1 rfl) ?_
  refine lv_bipush (v := 7) hx hb dX0_bodyOf_15 (by decide) ?_
  refine lv_icmp_ge (tgt := 69) hx hb dX0_bodyOf_17 (by decide) (fun c_0 => absurd c_0 (by decide)) (fun _ => ?_)
  refine lv_iload_n hx hb dX0_bodyOf_20 rfl (lv_at hl 1 rfl) ?_
  refine lv_iconst (v := 3) hx hb dX0_bodyOf_21 (by decide) ?_
  refine lv_imul hx hb dX0_bodyOf_22 ?_
  refine lv_ci 9 (by decide +kernel) ?_
  refine lv_iload_n hx hb dX0_bodyOf_23 rfl (lv_at hl 4 rfl) ?_
  refine lv_iadd hx hb dX0_bodyOf_24 ?_
  refine lv_ci 9 (by decide +kernel) ?_
  refine lv_istore (lv' := [(4, .int 9), (3, .int 1), (2, .int 3), (0, .int 6), (1, .int 0)]) hx hb dX0_bodyOf_25 hl (by decide) rfl (fun ls hl => ?_)
  refine lv_iload hx hb dX0_bodyOf_27 (lv_at hl 0 rfl) ?_
  refine lv_if_lt (tgt := 57) hx hb dX0_bodyOf_29 (by decide) (fun c_0 => absurd c_0 (by decide)) (fun _ => ?_)
  refine lv_iload hx hb dX0_bodyOf_32 (lv_at hl 0 rfl) ?_
  refine va_gets hx hb hbz hS hown (hT _ wf_X0_42) (fun _ h9 => h9) dX0_bodyOf_34 ?_
  refine va_tlen hx hb hbT hS (v := 21) rfl dX0_bodyOf_37 ?_
  refine lv_icmp_ge (tgt := 57) hx hb dX0_bodyOf_38 (by decide) (fun c_0 => absurd c_0 (by decide)) (fun _ => ?_)
  refine va_gets hx hb hbz hS hown (hT _ wf_X0_42) (fun _ h9 => h9) dX0_bodyOf_41 ?_
  refine lv_iload hx hb dX0_bodyOf_44 (lv_at hl 0 rfl) ?_
  refine va_ti hx hb hbT hS (vin _ _ (by decide +kernel)) (v := .int 0) rfl dX0_bodyOf_46 ?_
  refine lv_if_eq (tgt := 57) hx hb dX0_bodyOf_47 (by decide) (fun _ => ?_) (fun c_0 => absurd (by decide) c_0)
  refine va_getsN hx hb hkz hS hown (va_Nw.use rfl (hN.get 750 kf_X0_45 rfl)) (fun _ h9 => h9) dX0_bodyOf_57 ?_
  refine lv_iload_n hx hb dX0_bodyOf_60 rfl (lv_at hl 2 rfl) ?_
  refine va_ti hx hb hkT hS (vin _ _ (by decide +kernel)) (v := .int 0) rfl dX0_bodyOf_61 ?_
  refine lv_istore_n (lv' := [(2, .int 0), (4, .int 9), (3, .int 1), (0, .int 6), (1, .int 0)]) hx hb dX0_bodyOf_62 rfl hl (by decide) rfl (fun ls hl => ?_)
  refine lv_iinc (v := 2) (lv' := [(3, .int 2), (2, .int 0), (4, .int 9), (0, .int 6), (1, .int 0)]) hx hb dX0_bodyOf_63 hl (k := 2) rfl (by decide) (by decide) rfl (fun ls hl => ?_)
  refine lv_goto (tgt := 4) hx hb dX0_bodyOf_66 (by decide) ?_
  refine lv_iload_n hx hb dX0_bodyOf_4 rfl (lv_at hl 0 rfl) ?_
  refine lv_bipush (v := 7) hx hb dX0_bodyOf_5 (by decide) ?_
  refine lv_icmp_ge (tgt := 69) hx hb dX0_bodyOf_7 (by decide) (fun c_0 => absurd c_0 (by decide)) (fun _ => ?_)
  refine lv_iload_n hx hb dX0_bodyOf_10 rfl (lv_at hl 1 rfl) ?_
  refine lv_if_lt (tgt := 69) hx hb dX0_bodyOf_11 (by decide) (fun c_0 => absurd c_0 (by decide)) (fun _ => ?_)
  refine lv_iload_n hx hb dX0_bodyOf_14 rfl (lv_at hl 1 rfl) ?_
  refine lv_bipush (v := 7) hx hb dX0_bodyOf_15 (by decide) ?_
  refine lv_icmp_ge (tgt := 69) hx hb dX0_bodyOf_17 (by decide) (fun c_0 => absurd c_0 (by decide)) (fun _ => ?_)
  refine lv_iload_n hx hb dX0_bodyOf_20 rfl (lv_at hl 1 rfl) ?_
  refine lv_iconst (v := 3) hx hb dX0_bodyOf_21 (by decide) ?_
  refine lv_imul hx hb dX0_bodyOf_22 ?_
  refine lv_ci 0 (by decide +kernel) ?_
  refine lv_iload_n hx hb dX0_bodyOf_23 rfl (lv_at hl 4 rfl) ?_
  refine lv_iadd hx hb dX0_bodyOf_24 ?_
  refine lv_ci 0 (by decide +kernel) ?_
  refine lv_istore (lv' := [(4, .int 0), (3, .int 2), (2, .int 0), (0, .int 6), (1, .int 0)]) hx hb dX0_bodyOf_25 hl (by decide) rfl (fun ls hl => ?_)
  refine lv_iload hx hb dX0_bodyOf_27 (lv_at hl 0 rfl) ?_
  refine lv_if_lt (tgt := 57) hx hb dX0_bodyOf_29 (by decide) (fun c_0 => absurd c_0 (by decide)) (fun _ => ?_)
  refine lv_iload hx hb dX0_bodyOf_32 (lv_at hl 0 rfl) ?_
  refine va_gets hx hb hbz hS hown (hT _ wf_X0_42) (fun _ h9 => h9) dX0_bodyOf_34 ?_
  refine va_tlen hx hb hbT hS (v := 21) rfl dX0_bodyOf_37 ?_
  refine lv_icmp_ge (tgt := 57) hx hb dX0_bodyOf_38 (by decide) (fun c_0 => absurd c_0 (by decide)) (fun _ => ?_)
  refine va_gets hx hb hbz hS hown (hT _ wf_X0_42) (fun _ h9 => h9) dX0_bodyOf_41 ?_
  refine lv_iload hx hb dX0_bodyOf_44 (lv_at hl 0 rfl) ?_
  refine va_ti hx hb hbT hS (vin _ _ (by decide +kernel)) (v := .int 1) rfl dX0_bodyOf_46 ?_
  refine lv_if_eq (tgt := 57) hx hb dX0_bodyOf_47 (by decide) (fun c_0 => absurd c_0 (by decide)) (fun _ => ?_)
  refine va_gets hx hb hbz hS hown (hT _ wf_X0_42) (fun _ h9 => h9) dX0_bodyOf_50 ?_
  refine lv_iload hx hb dX0_bodyOf_53 (lv_at hl 0 rfl) ?_
  refine va_ti hx hb hbT hS (vin _ _ (by decide +kernel)) (v := .int 1) rfl dX0_bodyOf_55 ?_
  exact retI C0 rfl () rfl (hP.sub (ws' := []) [] rfl) (hD.sub (ws' := []) [] (by decide) rfl) hS (Nat.le_of_ble_eq_true rfl) (Nat.le_of_ble_eq_true rfl) dX0_bodyOf_56

set_option maxHeartbeats 4000000 in
set_option maxRecDepth 100000 in
theorem c_ask_6_6_0_0_0 (l : Launch) (D : va_G) (cI cZ cQ cT : ClassId) (sz : Nat) (aa : Nat) (xx : Int32) (a1 : Nat) (sl : Int32) (vv : Int32) (fa : Nat → Int32)  : MetI l yX0_ask cX0_ask 7 .int ({ frames := 1, cells := 0, slots := 0, locals := 24 } : Room) [.ref aa, .int 6, .int 0, .int xx, .int 0] D (TYS cI cZ cQ cT) EF sz [(aa, .inr (0, [.ref a1, .int 0, .int sl, .int 6, .int vv])), (a1, .inl (cI, 20, .inl fa))] (S := Unit) (fun (r : Int32) (_ : Unit) => r = (xx + sl)) (fun _ => [(aa, .inr (0, [.ref a1, .int 1, .int sl, .int 6, .int vv])), (a1, .inl (cI, 20, .inl (upd fa 0 1)))]) := by
  refine MetI.mk (lv := [(0, .ref aa), (1, .int 6), (2, .int 0), (3, .int xx), (4, .int 0)]) (by decide +kernel) (Nat.le_of_ble_eq_true rfl) rfl ?_
  intro p e s m below meth c A ls C0 hP hD hS hX hl
  have C1 := C0
  obtain ⟨hx, hb, hr, hml, hown, hlocks, hname, hT, hN, hK, hA⟩ := C1
  refine lv_iload_n hx hb dX0_ask_0 rfl (lv_at hl 1 rfl) ?_
  refine lv_iload_n hx hb dX0_ask_1 rfl (lv_at hl 2 rfl) ?_
  refine contI (wc := []) (wr := [(aa, .inr (0, [.ref a1, .int 0, .int sl, .int 6, .int vv])), (a1, .inl (cI, 20, .inl fa))]) C0 hP hD hS [] [0, 1] rfl rfl (by decide) (by decide) 0 0 (Nat.le_of_ble_eq_true rfl) (Nat.le_of_ble_eq_true rfl) (runS (k := 2) (As := [.int 6, .int 0]) (rest := []) C0 (c_bodyOf_6_0 l D cI cZ cQ cT _ ) wc_X0_bodyOf wl_X0_48 wt_X0_bodyOf wz_X0 ⟨by decide, by decide, by decide +kernel⟩ ⟨(Nat.le_of_ble_eq_true rfl), (Nat.le_of_ble_eq_true rfl)⟩ hP hD hS EF.ok hX [] rfl (by decide) rfl hl.1 rfl (Nat.le_of_ble_eq_true rfl) dX0_ask_2 ⟨(Nat.le_of_ble_eq_true rfl), (Nat.le_of_ble_eq_true rfl)⟩) (fun r_3 u_1 H locs w_2 hP hD hS => ?_)
  have hP : va_P D CL [(aa, .inr (0, [.ref a1, .int 0, .int sl, .int 6, .int vv])), (a1, .inl (cI, 20, .inl fa))] H := hP
  have hD : va_D A [(aa, .inr (0, [.ref a1, .int 0, .int sl, .int 6, .int vv])), (a1, .inl (cI, 20, .inl fa))] := hD
  obtain rfl : r_3 = 1 := w_2
  refine lv_istore (lv' := [(5, .int 1), (0, .ref aa), (1, .int 6), (2, .int 0), (3, .int xx), (4, .int 0)]) hx hb dX0_ask_5 hl (by decide) rfl (fun ls hl => ?_)
  refine lv_iload hx hb dX0_ask_7 (lv_at hl 0 rfl) ?_
  refine lv_if_eq (tgt := 19) hx hb dX0_ask_9 (by decide) (fun c_0 => absurd c_0 (by decide)) (fun _ => ?_)
  refine lv_iload hx hb dX0_ask_12 (lv_at hl 5 rfl) ?_
  refine lv_bipush (v := 40) hx hb dX0_ask_14 (by decide) ?_
  refine lv_icmp_le (tgt := 21) hx hb dX0_ask_16 (by decide) (fun _ => ?_) (fun c_0 => absurd (by decide) c_0)
  refine lv_aload_n hx hb dX0_ask_21 rfl (lv_at hl 1 rfl) ?_
  refine lv_iload hx hb dX0_ask_22 (lv_at hl 0 rfl) ?_
  refine contV (wc := [(aa, .inr (0, [.ref a1, .int 0, .int sl, .int 6, .int vv])), (a1, .inl (cI, 20, .inl fa))]) (wr := []) C0 hP hD hS [0, 1] [] rfl rfl (by decide) (by decide) 0 0 (Nat.le_of_ble_eq_true rfl) (Nat.le_of_ble_eq_true rfl) (runV (k := 1) (As := [.int 1]) (rest := []) C0 (c_begin_0 l D cI cZ cQ cT _ aa 1 a1 sl 6 vv fa) wc_X0_begin wl_X0_52 wi_X0_begin we_X0_begin wz_X0 ⟨by decide, by decide, by decide +kernel⟩ ⟨(Nat.le_of_ble_eq_true rfl), (Nat.le_of_ble_eq_true rfl)⟩ hP hD hS EF.ok hX [0, 1] rfl (by decide) 0 rfl rfl rfl rfl hl.1 rfl (Nat.le_of_ble_eq_true rfl) dX0_ask_24 ⟨(Nat.le_of_ble_eq_true rfl), (Nat.le_of_ble_eq_true rfl)⟩) (fun u_4 H locs w_5 hP hD hS => ?_)
  have hP : va_P D CL [(aa, .inr (0, [.ref a1, .int 1, .int sl, .int 6, .int vv])), (a1, .inl (cI, 20, .inl (upd fa 0 (1 : Int32))))] H := hP
  have hD : va_D A [(aa, .inr (0, [.ref a1, .int 1, .int sl, .int 6, .int vv])), (a1, .inl (cI, 20, .inl (upd fa 0 (1 : Int32))))] := hD
  refine lv_iload hx hb dX0_ask_27 (lv_at hl 5 rfl) ?_
  refine lv_iconst (v := 1) hx hb dX0_ask_29 (by decide) ?_
  refine lv_iadd hx hb dX0_ask_30 ?_
  refine lv_ci 1 (by decide +kernel) ?_
  refine lv_istore (lv' := [(6, .int 1), (5, .int 1), (0, .ref aa), (1, .int 6), (2, .int 0), (3, .int xx), (4, .int 0)]) hx hb dX0_ask_31 hl (by decide) rfl (fun ls hl => ?_)
  refine lv_iload hx hb dX0_ask_33 (lv_at hl 1 rfl) ?_
  refine lv_lookup (off := 81) (tgt := 116) hx hb dX0_ask_35 (by decide) (by decide) (by decide) ?_
  refine lv_iload_n hx hb dX0_ask_116 rfl (lv_at hl 5 rfl) ?_
  refine lv_aload_n hx hb dX0_ask_117 rfl (lv_at hl 2 rfl) ?_
  refine va_get (ci := 0) (v := .int sl) (C := RX0) (T := TX0) (N := 5) hx hb hT wu_X0 hown hK hP 0 rfl rfl 2 (by decide) (hT _ wf_X0_25) (fun _ h9 => h9) rfl dX0_ask_118 ?_
  refine lv_iadd hx hb dX0_ask_121 ?_
  exact retI C0 rfl () rfl (hP.sub (ws' := [(aa, .inr (0, [.ref a1, .int 1, .int sl, .int 6, .int vv])), (a1, .inl (cI, 20, .inl (upd fa 0 1)))]) [0, 1] rfl) (hD.sub (ws' := [(aa, .inr (0, [.ref a1, .int 1, .int sl, .int 6, .int vv])), (a1, .inl (cI, 20, .inl (upd fa 0 1)))]) [0, 1] (by decide) rfl) hS (Nat.le_of_ble_eq_true rfl) (Nat.le_of_ble_eq_true rfl) dX0_ask_122

set_option maxHeartbeats 4000000 in
set_option maxRecDepth 100000 in
theorem c_start_0 (l : Launch) (D : va_G) (cI cZ cQ cT : ClassId) (sz : Nat) (aa : Nat) (af : Nat) (xx : Int32) (a1 : Nat) (sl : Int32) (kd : Int32) (vv : Int32) (fa : Nat → Int32) (ak : Nat) (av : Nat) (ar : Nat) (nt : Int32) (yd : Int32) (fk : Nat → Int32) (fv : Nat → Int32) (fr : Nat → Int32) (P : Nat) (pn : Nat) (F : Fk) (hC : CF fk fv fr F) (hB : FB F) (hpP : pn < P) (hP4 : P ≤ 4) (hpn : pn < 4) : MetI l yX0_start cX0_start 5 .int ({ frames := 3, cells := 0, slots := 0, locals := 76 } : Room) [.ref aa, .ref af, .int (nI pn), .int 0, .int xx] D (TYS cI cZ cQ cT) EF sz [(aa, .inr (0, [.ref a1, .int 0, .int sl, .int kd, .int vv])), (a1, .inl (cI, 20, .inl fa)), (af, .inr (2, [.ref ak, .ref av, .ref ar, .int (nI P), .int nt, .int yd])), (ak, .inl (cI, 4, .inl fk)), (av, .inl (cI, 4, .inl fv)), (ar, .inl (cI, 4, .inl fr))] (S := Int32 × Int32 × Int32 × (Nat → Int32) × Nat) (fun (r : Int32) (u_ : Int32 × Int32 × Int32 × (Nat → Int32) × Nat) => (r = (actE (F.1 pn) 0 (nI pn) (nI (F.2.1 pn)) xx)) ∧ (u_.2.2.2.2 = (actB (F.1 pn) 0).length ∧ TL u_.2.2.2.1 (actB (F.1 pn) 0))) (fun u => [(aa, .inr (0, [.ref a1, .int (nI u.2.2.2.2), .int u.1, .int u.2.1, .int u.2.2.1])), (a1, .inl (cI, 20, .inl u.2.2.2.1)), (af, .inr (2, [.ref ak, .ref av, .ref ar, .int (nI P), .int nt, .int yd])), (ak, .inl (cI, 4, .inl fk)), (av, .inl (cI, 4, .inl fv)), (ar, .inl (cI, 4, .inl fr))]) := by
  refine MetI.mk (lv := [(0, .ref aa), (1, .ref af), (2, .int (nI pn)), (3, .int 0), (4, .int xx)]) (by decide +kernel) (Nat.le_of_ble_eq_true rfl) rfl ?_
  intro p e s m below meth c A ls C0 hP hD hS hX hl
  have C1 := C0
  obtain ⟨hx, hb, hr, hml, hown, hlocks, hname, hT, hN, hK, hA⟩ := C1
  have hd8 := d8_le hP4; have hd0 := d8_pos P
  refine lv_aload_n hx hb dX0_start_0 rfl (lv_at hl 1 rfl) ?_
  refine lv_iload_n hx hb dX0_start_1 rfl (lv_at hl 2 rfl) ?_
  refine contI (wc := [(af, .inr (2, [.ref ak, .ref av, .ref ar, .int (nI P), .int nt, .int yd]))]) (wr := [(aa, .inr (0, [.ref a1, .int 0, .int sl, .int kd, .int vv])), (a1, .inl (cI, 20, .inl fa)), (ak, .inl (cI, 4, .inl fk)), (av, .inl (cI, 4, .inl fv)), (ar, .inl (cI, 4, .inl fr))]) C0 hP hD hS [2] [0, 1, 3, 4, 5] rfl rfl (by decide) (by decide) 0 0 (Nat.le_of_ble_eq_true rfl) (Nat.le_of_ble_eq_true rfl) (runVN (k := 1) (As := [.int (nI pn)]) (rest := []) "DayKnown" 740 C0 (c_has l D cI cZ cQ cT _ af (nI pn) ak av ar nt yd P (by omega)) wc_X2_has kl_X0_19 wi_X2_has we_X2_has wz_X2 ⟨by decide, by decide, by decide +kernel⟩ ⟨(Nat.le_of_ble_eq_true rfl), (Nat.le_of_ble_eq_true rfl)⟩ hP hD hS EF.ok hX [2] rfl (by decide) 2 rfl rfl rfl rfl hl.1 rfl (Nat.le_of_ble_eq_true rfl) dX0_start_2 ⟨(Nat.le_of_ble_eq_true rfl), (Nat.le_of_ble_eq_true rfl)⟩) (fun r_3 u_1 H locs w_2 hP hD hS => ?_)
  have hP : va_P D CL [(aa, .inr (0, [.ref a1, .int 0, .int sl, .int kd, .int vv])), (a1, .inl (cI, 20, .inl fa)), (ak, .inl (cI, 4, .inl fk)), (av, .inl (cI, 4, .inl fv)), (ar, .inl (cI, 4, .inl fr)), (af, .inr (2, [.ref ak, .ref av, .ref ar, .int (nI P), .int nt, .int yd]))] H := hP
  have hD : va_D A [(aa, .inr (0, [.ref a1, .int 0, .int sl, .int kd, .int vv])), (a1, .inl (cI, 20, .inl fa)), (ak, .inl (cI, 4, .inl fk)), (av, .inl (cI, 4, .inl fv)), (ar, .inl (cI, 4, .inl fr)), (af, .inr (2, [.ref ak, .ref av, .ref ar, .int (nI P), .int nt, .int yd]))] := hD
  obtain rfl : r_3 = 1 := w_2.trans (if_pos (npe hpP hP4))
  refine lv_if_ne (tgt := 10) hx hb dX0_start_5 (by decide) (fun _ => ?_) (fun c_0 => absurd c_0 (by decide))
  refine lv_aload_n hx hb dX0_start_10 rfl (lv_at hl 0 rfl) ?_
  refine lv_iload_n hx hb dX0_start_11 rfl (lv_at hl 2 rfl) ?_
  refine va_put (ci := 0) (v := .int (nI pn)) (ty := .int) (C := RX0) (T := TX0) (N := 5) hx hb hT wu_X0 tyX0 tyX0_ok nmX0 hown hK hP hD hS 0 rfl rfl 2 (by decide) (hT _ wf_X0_25) (fun _ h9 => h9) rfl (by decide +kernel) rfl rfl (Nat.le_of_ble_eq_true rfl) dX0_start_12 (fun H locs hP hD hS => ?_)
  have hP : va_P D CL [(aa, .inr (0, [.ref a1, .int 0, .int (nI pn), .int kd, .int vv])), (a1, .inl (cI, 20, .inl fa)), (ak, .inl (cI, 4, .inl fk)), (av, .inl (cI, 4, .inl fv)), (ar, .inl (cI, 4, .inl fr)), (af, .inr (2, [.ref ak, .ref av, .ref ar, .int (nI P), .int nt, .int yd]))] H := hP
  have hD : va_D A [(aa, .inr (0, [.ref a1, .int 0, .int (nI pn), .int kd, .int vv])), (a1, .inl (cI, 20, .inl fa)), (ak, .inl (cI, 4, .inl fk)), (av, .inl (cI, 4, .inl fv)), (ar, .inl (cI, 4, .inl fr)), (af, .inr (2, [.ref ak, .ref av, .ref ar, .int (nI P), .int nt, .int yd]))] := hD
  refine lv_aload_n hx hb dX0_start_15 rfl (lv_at hl 0 rfl) ?_
  refine lv_aload_n hx hb dX0_start_16 rfl (lv_at hl 1 rfl) ?_
  refine va_getN (ci := 2) (v := .ref ak) (C := RX2) (T := TX2) (N := 6) hx hb hT wu_X2 hown hK hP 5 rfl rfl 0 (by decide) (va_Nw.use rfl (hN.get 133 kf_X0_28 rfl)) (fun _ h9 => h9) rfl dX0_start_17 ?_
  refine lv_iload_n hx hb dX0_start_20 rfl (lv_at hl 2 rfl) ?_
  refine va_iald hx hb hK hP 2 0 rfl rfl (vp_in_nI (n := pn) (by omega) (by decide)) dX0_start_21 ?_
  refine lv_ci (fk pn) (congrArg fk (nI_clamp (n := pn) (by omega))) ?_
  have hb_4 := hB.1 pn (by omega)
  refine lv_ci (nI (F.1 pn)) (hC.1.g0 (by omega)) ?_
  rcases (show (F.1 pn) = 0 ∨ (F.1 pn) = 1 ∨ (F.1 pn) = 2 ∨ (F.1 pn) = 3 ∨ (F.1 pn) = 4 ∨ (F.1 pn) = 5 ∨ (F.1 pn) = 6 by omega) with hk7_5 | hk7_5 | hk7_5 | hk7_5 | hk7_5 | hk7_5 | hk7_5
  · skip
    refine lv_ci 0 (by rw [hk7_5]; rfl) ?_
    refine va_put (ci := 0) (v := .int 0) (ty := .int) (C := RX0) (T := TX0) (N := 5) hx hb hT wu_X0 tyX0 tyX0_ok nmX0 hown hK hP hD hS 0 rfl rfl 3 (by decide) (hT _ wf_X0_31) (fun _ h9 => h9) rfl (by decide +kernel) rfl rfl (Nat.le_of_ble_eq_true rfl) dX0_start_22 (fun H locs hP hD hS => ?_)
    have hP : va_P D CL [(aa, .inr (0, [.ref a1, .int 0, .int (nI pn), .int 0, .int vv])), (a1, .inl (cI, 20, .inl fa)), (ak, .inl (cI, 4, .inl fk)), (av, .inl (cI, 4, .inl fv)), (ar, .inl (cI, 4, .inl fr)), (af, .inr (2, [.ref ak, .ref av, .ref ar, .int (nI P), .int nt, .int yd]))] H := hP
    have hD : va_D A [(aa, .inr (0, [.ref a1, .int 0, .int (nI pn), .int 0, .int vv])), (a1, .inl (cI, 20, .inl fa)), (ak, .inl (cI, 4, .inl fk)), (av, .inl (cI, 4, .inl fv)), (ar, .inl (cI, 4, .inl fr)), (af, .inr (2, [.ref ak, .ref av, .ref ar, .int (nI P), .int nt, .int yd]))] := hD
    refine lv_aload_n hx hb dX0_start_25 rfl (lv_at hl 0 rfl) ?_
    refine lv_aload_n hx hb dX0_start_26 rfl (lv_at hl 1 rfl) ?_
    refine va_getN (ci := 2) (v := .ref av) (C := RX2) (T := TX2) (N := 6) hx hb hT wu_X2 hown hK hP 5 rfl rfl 1 (by decide) (va_Nw.use rfl (hN.get 137 kf_X0_33 rfl)) (fun _ h9 => h9) rfl dX0_start_27 ?_
    refine lv_iload_n hx hb dX0_start_30 rfl (lv_at hl 2 rfl) ?_
    refine va_iald hx hb hK hP 3 0 rfl rfl (vp_in_nI (n := pn) (by omega) (by decide)) dX0_start_31 ?_
    refine lv_ci (fv pn) (congrArg fv (nI_clamp (n := pn) (by omega))) ?_
    have hb_6 := hB.2.1 pn (by omega)
    refine lv_ci (nI (F.2.1 pn)) (hC.2.1.g0 (by omega)) ?_
    refine va_put (ci := 0) (v := .int (nI (F.2.1 pn))) (ty := .int) (C := RX0) (T := TX0) (N := 5) hx hb hT wu_X0 tyX0 tyX0_ok nmX0 hown hK hP hD hS 0 rfl rfl 4 (by decide) (hT _ wf_X0_36) (fun _ h9 => h9) rfl (by decide +kernel) rfl rfl (Nat.le_of_ble_eq_true rfl) dX0_start_32 (fun H locs hP hD hS => ?_)
    have hP : va_P D CL [(aa, .inr (0, [.ref a1, .int 0, .int (nI pn), .int 0, .int (nI (F.2.1 pn))])), (a1, .inl (cI, 20, .inl fa)), (ak, .inl (cI, 4, .inl fk)), (av, .inl (cI, 4, .inl fv)), (ar, .inl (cI, 4, .inl fr)), (af, .inr (2, [.ref ak, .ref av, .ref ar, .int (nI P), .int nt, .int yd]))] H := hP
    have hD : va_D A [(aa, .inr (0, [.ref a1, .int 0, .int (nI pn), .int 0, .int (nI (F.2.1 pn))])), (a1, .inl (cI, 20, .inl fa)), (ak, .inl (cI, 4, .inl fk)), (av, .inl (cI, 4, .inl fv)), (ar, .inl (cI, 4, .inl fr)), (af, .inr (2, [.ref ak, .ref av, .ref ar, .int (nI P), .int nt, .int yd]))] := hD
    refine lv_aload_n hx hb dX0_start_35 rfl (lv_at hl 0 rfl) ?_
    refine lv_aload_n hx hb dX0_start_36 rfl (lv_at hl 0 rfl) ?_
    refine va_get (ci := 0) (v := .int 0) (C := RX0) (T := TX0) (N := 5) hx hb hT wu_X0 hown hK hP 0 rfl rfl 3 (by decide) (hT _ wf_X0_31) (fun _ h9 => h9) rfl dX0_start_37 ?_
    refine lv_iload_n hx hb dX0_start_40 rfl (lv_at hl 3 rfl) ?_
    refine lv_iload hx hb dX0_start_41 (lv_at hl 4 rfl) ?_
    refine lv_iconst (v := 0) hx hb dX0_start_43 (by decide) ?_
    refine contI (wc := [(aa, .inr (0, [.ref a1, .int 0, .int (nI pn), .int 0, .int (nI (F.2.1 pn))])), (a1, .inl (cI, 20, .inl fa))]) (wr := [(ak, .inl (cI, 4, .inl fk)), (av, .inl (cI, 4, .inl fv)), (ar, .inl (cI, 4, .inl fr)), (af, .inr (2, [.ref ak, .ref av, .ref ar, .int (nI P), .int nt, .int yd]))]) C0 hP hD hS [0, 1] [2, 3, 4, 5] rfl rfl (by decide) (by decide) 0 0 (Nat.le_of_ble_eq_true rfl) (Nat.le_of_ble_eq_true rfl) (runV (k := 4) (As := [.int 0, .int 0, .int xx, .int 0]) (rest := []) C0 (c_ask_0_0_0_0_0 l D cI cZ cQ cT _ aa xx a1 (nI pn) (nI (F.2.1 pn)) fa) wc_X0_ask wl_X0_38 wi_X0_ask we_X0_ask wz_X0 ⟨by decide, by decide, by decide +kernel⟩ ⟨(Nat.le_of_ble_eq_true rfl), (Nat.le_of_ble_eq_true rfl)⟩ hP hD hS EF.ok hX [0, 1] rfl (by decide) 0 rfl rfl rfl rfl hl.1 rfl (Nat.le_of_ble_eq_true rfl) dX0_start_44 ⟨(Nat.le_of_ble_eq_true rfl), (Nat.le_of_ble_eq_true rfl)⟩) (fun r_9 u_7 H locs w_8 hP hD hS => ?_)
    have hP : va_P D CL [(ak, .inl (cI, 4, .inl fk)), (av, .inl (cI, 4, .inl fv)), (ar, .inl (cI, 4, .inl fr)), (af, .inr (2, [.ref ak, .ref av, .ref ar, .int (nI P), .int nt, .int yd])), (aa, .inr (0, [.ref a1, .int 1, .int (nI pn), .int 0, .int (nI (F.2.1 pn))])), (a1, .inl (cI, 20, .inl (upd fa 0 1)))] H := hP
    have hD : va_D A [(ak, .inl (cI, 4, .inl fk)), (av, .inl (cI, 4, .inl fv)), (ar, .inl (cI, 4, .inl fr)), (af, .inr (2, [.ref ak, .ref av, .ref ar, .int (nI P), .int nt, .int yd])), (aa, .inr (0, [.ref a1, .int 1, .int (nI pn), .int 0, .int (nI (F.2.1 pn))])), (a1, .inl (cI, 20, .inl (upd fa 0 1)))] := hD
    obtain rfl : r_9 = (xx + (nI pn)) := w_8
    exact retI C0 rfl ((nI pn), 0, (nI (F.2.1 pn)), (upd fa 0 1), 1) (⟨(by rw [hk7_5]; rfl), (show 1 = (actB (F.1 pn) 0).length ∧ TL (upd fa 0 1) (actB (F.1 pn) 0) from ⟨(by rw [hk7_5]; rfl), (by rw [hk7_5]; exact tl_0_0 fa)⟩)⟩) (hP.sub (ws' := [(aa, .inr (0, [.ref a1, .int (nI 1), .int (nI pn), .int 0, .int (nI (F.2.1 pn))])), (a1, .inl (cI, 20, .inl (upd fa 0 1))), (af, .inr (2, [.ref ak, .ref av, .ref ar, .int (nI P), .int nt, .int yd])), (ak, .inl (cI, 4, .inl fk)), (av, .inl (cI, 4, .inl fv)), (ar, .inl (cI, 4, .inl fr))]) [4, 5, 3, 0, 1, 2] rfl) (hD.sub (ws' := [(aa, .inr (0, [.ref a1, .int (nI 1), .int (nI pn), .int 0, .int (nI (F.2.1 pn))])), (a1, .inl (cI, 20, .inl (upd fa 0 1))), (af, .inr (2, [.ref ak, .ref av, .ref ar, .int (nI P), .int nt, .int yd])), (ak, .inl (cI, 4, .inl fk)), (av, .inl (cI, 4, .inl fv)), (ar, .inl (cI, 4, .inl fr))]) [4, 5, 3, 0, 1, 2] (by decide) rfl) hS (Nat.le_of_ble_eq_true rfl) (Nat.le_of_ble_eq_true rfl) dX0_start_47
  · skip
    refine lv_ci 1 (by rw [hk7_5]; rfl) ?_
    refine va_put (ci := 0) (v := .int 1) (ty := .int) (C := RX0) (T := TX0) (N := 5) hx hb hT wu_X0 tyX0 tyX0_ok nmX0 hown hK hP hD hS 0 rfl rfl 3 (by decide) (hT _ wf_X0_31) (fun _ h9 => h9) rfl (by decide +kernel) rfl rfl (Nat.le_of_ble_eq_true rfl) dX0_start_22 (fun H locs hP hD hS => ?_)
    have hP : va_P D CL [(aa, .inr (0, [.ref a1, .int 0, .int (nI pn), .int 1, .int vv])), (a1, .inl (cI, 20, .inl fa)), (ak, .inl (cI, 4, .inl fk)), (av, .inl (cI, 4, .inl fv)), (ar, .inl (cI, 4, .inl fr)), (af, .inr (2, [.ref ak, .ref av, .ref ar, .int (nI P), .int nt, .int yd]))] H := hP
    have hD : va_D A [(aa, .inr (0, [.ref a1, .int 0, .int (nI pn), .int 1, .int vv])), (a1, .inl (cI, 20, .inl fa)), (ak, .inl (cI, 4, .inl fk)), (av, .inl (cI, 4, .inl fv)), (ar, .inl (cI, 4, .inl fr)), (af, .inr (2, [.ref ak, .ref av, .ref ar, .int (nI P), .int nt, .int yd]))] := hD
    refine lv_aload_n hx hb dX0_start_25 rfl (lv_at hl 0 rfl) ?_
    refine lv_aload_n hx hb dX0_start_26 rfl (lv_at hl 1 rfl) ?_
    refine va_getN (ci := 2) (v := .ref av) (C := RX2) (T := TX2) (N := 6) hx hb hT wu_X2 hown hK hP 5 rfl rfl 1 (by decide) (va_Nw.use rfl (hN.get 137 kf_X0_33 rfl)) (fun _ h9 => h9) rfl dX0_start_27 ?_
    refine lv_iload_n hx hb dX0_start_30 rfl (lv_at hl 2 rfl) ?_
    refine va_iald hx hb hK hP 3 0 rfl rfl (vp_in_nI (n := pn) (by omega) (by decide)) dX0_start_31 ?_
    refine lv_ci (fv pn) (congrArg fv (nI_clamp (n := pn) (by omega))) ?_
    have hb_10 := hB.2.1 pn (by omega)
    refine lv_ci (nI (F.2.1 pn)) (hC.2.1.g0 (by omega)) ?_
    refine va_put (ci := 0) (v := .int (nI (F.2.1 pn))) (ty := .int) (C := RX0) (T := TX0) (N := 5) hx hb hT wu_X0 tyX0 tyX0_ok nmX0 hown hK hP hD hS 0 rfl rfl 4 (by decide) (hT _ wf_X0_36) (fun _ h9 => h9) rfl (by decide +kernel) rfl rfl (Nat.le_of_ble_eq_true rfl) dX0_start_32 (fun H locs hP hD hS => ?_)
    have hP : va_P D CL [(aa, .inr (0, [.ref a1, .int 0, .int (nI pn), .int 1, .int (nI (F.2.1 pn))])), (a1, .inl (cI, 20, .inl fa)), (ak, .inl (cI, 4, .inl fk)), (av, .inl (cI, 4, .inl fv)), (ar, .inl (cI, 4, .inl fr)), (af, .inr (2, [.ref ak, .ref av, .ref ar, .int (nI P), .int nt, .int yd]))] H := hP
    have hD : va_D A [(aa, .inr (0, [.ref a1, .int 0, .int (nI pn), .int 1, .int (nI (F.2.1 pn))])), (a1, .inl (cI, 20, .inl fa)), (ak, .inl (cI, 4, .inl fk)), (av, .inl (cI, 4, .inl fv)), (ar, .inl (cI, 4, .inl fr)), (af, .inr (2, [.ref ak, .ref av, .ref ar, .int (nI P), .int nt, .int yd]))] := hD
    refine lv_aload_n hx hb dX0_start_35 rfl (lv_at hl 0 rfl) ?_
    refine lv_aload_n hx hb dX0_start_36 rfl (lv_at hl 0 rfl) ?_
    refine va_get (ci := 0) (v := .int 1) (C := RX0) (T := TX0) (N := 5) hx hb hT wu_X0 hown hK hP 0 rfl rfl 3 (by decide) (hT _ wf_X0_31) (fun _ h9 => h9) rfl dX0_start_37 ?_
    refine lv_iload_n hx hb dX0_start_40 rfl (lv_at hl 3 rfl) ?_
    refine lv_iload hx hb dX0_start_41 (lv_at hl 4 rfl) ?_
    refine lv_iconst (v := 0) hx hb dX0_start_43 (by decide) ?_
    refine contI (wc := [(aa, .inr (0, [.ref a1, .int 0, .int (nI pn), .int 1, .int (nI (F.2.1 pn))])), (a1, .inl (cI, 20, .inl fa))]) (wr := [(ak, .inl (cI, 4, .inl fk)), (av, .inl (cI, 4, .inl fv)), (ar, .inl (cI, 4, .inl fr)), (af, .inr (2, [.ref ak, .ref av, .ref ar, .int (nI P), .int nt, .int yd]))]) C0 hP hD hS [0, 1] [2, 3, 4, 5] rfl rfl (by decide) (by decide) 0 0 (Nat.le_of_ble_eq_true rfl) (Nat.le_of_ble_eq_true rfl) (runV (k := 4) (As := [.int 1, .int 0, .int xx, .int 0]) (rest := []) C0 (c_ask_1_1_0_0_0 l D cI cZ cQ cT _ aa xx a1 (nI pn) (nI (F.2.1 pn)) fa) wc_X0_ask wl_X0_38 wi_X0_ask we_X0_ask wz_X0 ⟨by decide, by decide, by decide +kernel⟩ ⟨(Nat.le_of_ble_eq_true rfl), (Nat.le_of_ble_eq_true rfl)⟩ hP hD hS EF.ok hX [0, 1] rfl (by decide) 0 rfl rfl rfl rfl hl.1 rfl (Nat.le_of_ble_eq_true rfl) dX0_start_44 ⟨(Nat.le_of_ble_eq_true rfl), (Nat.le_of_ble_eq_true rfl)⟩) (fun r_13 u_11 H locs w_12 hP hD hS => ?_)
    have hP : va_P D CL [(ak, .inl (cI, 4, .inl fk)), (av, .inl (cI, 4, .inl fv)), (ar, .inl (cI, 4, .inl fr)), (af, .inr (2, [.ref ak, .ref av, .ref ar, .int (nI P), .int nt, .int yd])), (aa, .inr (0, [.ref a1, .int 2, .int (nI pn), .int 1, .int (nI (F.2.1 pn))])), (a1, .inl (cI, 20, .inl (upd (upd fa 0 11) 1 1)))] H := hP
    have hD : va_D A [(ak, .inl (cI, 4, .inl fk)), (av, .inl (cI, 4, .inl fv)), (ar, .inl (cI, 4, .inl fr)), (af, .inr (2, [.ref ak, .ref av, .ref ar, .int (nI P), .int nt, .int yd])), (aa, .inr (0, [.ref a1, .int 2, .int (nI pn), .int 1, .int (nI (F.2.1 pn))])), (a1, .inl (cI, 20, .inl (upd (upd fa 0 11) 1 1)))] := hD
    obtain rfl : r_13 = ((xx * (3 : Int32)) + (nI pn)) := w_12
    exact retI C0 rfl ((nI pn), 1, (nI (F.2.1 pn)), (upd (upd fa 0 11) 1 1), 2) (⟨(by rw [hk7_5]; rfl), (show 2 = (actB (F.1 pn) 0).length ∧ TL (upd (upd fa 0 11) 1 1) (actB (F.1 pn) 0) from ⟨(by rw [hk7_5]; rfl), (by rw [hk7_5]; exact tl_1_0 fa)⟩)⟩) (hP.sub (ws' := [(aa, .inr (0, [.ref a1, .int (nI 2), .int (nI pn), .int 1, .int (nI (F.2.1 pn))])), (a1, .inl (cI, 20, .inl (upd (upd fa 0 11) 1 1))), (af, .inr (2, [.ref ak, .ref av, .ref ar, .int (nI P), .int nt, .int yd])), (ak, .inl (cI, 4, .inl fk)), (av, .inl (cI, 4, .inl fv)), (ar, .inl (cI, 4, .inl fr))]) [4, 5, 3, 0, 1, 2] rfl) (hD.sub (ws' := [(aa, .inr (0, [.ref a1, .int (nI 2), .int (nI pn), .int 1, .int (nI (F.2.1 pn))])), (a1, .inl (cI, 20, .inl (upd (upd fa 0 11) 1 1))), (af, .inr (2, [.ref ak, .ref av, .ref ar, .int (nI P), .int nt, .int yd])), (ak, .inl (cI, 4, .inl fk)), (av, .inl (cI, 4, .inl fv)), (ar, .inl (cI, 4, .inl fr))]) [4, 5, 3, 0, 1, 2] (by decide) rfl) hS (Nat.le_of_ble_eq_true rfl) (Nat.le_of_ble_eq_true rfl) dX0_start_47
  · skip
    refine lv_ci 2 (by rw [hk7_5]; rfl) ?_
    refine va_put (ci := 0) (v := .int 2) (ty := .int) (C := RX0) (T := TX0) (N := 5) hx hb hT wu_X0 tyX0 tyX0_ok nmX0 hown hK hP hD hS 0 rfl rfl 3 (by decide) (hT _ wf_X0_31) (fun _ h9 => h9) rfl (by decide +kernel) rfl rfl (Nat.le_of_ble_eq_true rfl) dX0_start_22 (fun H locs hP hD hS => ?_)
    have hP : va_P D CL [(aa, .inr (0, [.ref a1, .int 0, .int (nI pn), .int 2, .int vv])), (a1, .inl (cI, 20, .inl fa)), (ak, .inl (cI, 4, .inl fk)), (av, .inl (cI, 4, .inl fv)), (ar, .inl (cI, 4, .inl fr)), (af, .inr (2, [.ref ak, .ref av, .ref ar, .int (nI P), .int nt, .int yd]))] H := hP
    have hD : va_D A [(aa, .inr (0, [.ref a1, .int 0, .int (nI pn), .int 2, .int vv])), (a1, .inl (cI, 20, .inl fa)), (ak, .inl (cI, 4, .inl fk)), (av, .inl (cI, 4, .inl fv)), (ar, .inl (cI, 4, .inl fr)), (af, .inr (2, [.ref ak, .ref av, .ref ar, .int (nI P), .int nt, .int yd]))] := hD
    refine lv_aload_n hx hb dX0_start_25 rfl (lv_at hl 0 rfl) ?_
    refine lv_aload_n hx hb dX0_start_26 rfl (lv_at hl 1 rfl) ?_
    refine va_getN (ci := 2) (v := .ref av) (C := RX2) (T := TX2) (N := 6) hx hb hT wu_X2 hown hK hP 5 rfl rfl 1 (by decide) (va_Nw.use rfl (hN.get 137 kf_X0_33 rfl)) (fun _ h9 => h9) rfl dX0_start_27 ?_
    refine lv_iload_n hx hb dX0_start_30 rfl (lv_at hl 2 rfl) ?_
    refine va_iald hx hb hK hP 3 0 rfl rfl (vp_in_nI (n := pn) (by omega) (by decide)) dX0_start_31 ?_
    refine lv_ci (fv pn) (congrArg fv (nI_clamp (n := pn) (by omega))) ?_
    have hb_14 := hB.2.1 pn (by omega)
    refine lv_ci (nI (F.2.1 pn)) (hC.2.1.g0 (by omega)) ?_
    refine va_put (ci := 0) (v := .int (nI (F.2.1 pn))) (ty := .int) (C := RX0) (T := TX0) (N := 5) hx hb hT wu_X0 tyX0 tyX0_ok nmX0 hown hK hP hD hS 0 rfl rfl 4 (by decide) (hT _ wf_X0_36) (fun _ h9 => h9) rfl (by decide +kernel) rfl rfl (Nat.le_of_ble_eq_true rfl) dX0_start_32 (fun H locs hP hD hS => ?_)
    have hP : va_P D CL [(aa, .inr (0, [.ref a1, .int 0, .int (nI pn), .int 2, .int (nI (F.2.1 pn))])), (a1, .inl (cI, 20, .inl fa)), (ak, .inl (cI, 4, .inl fk)), (av, .inl (cI, 4, .inl fv)), (ar, .inl (cI, 4, .inl fr)), (af, .inr (2, [.ref ak, .ref av, .ref ar, .int (nI P), .int nt, .int yd]))] H := hP
    have hD : va_D A [(aa, .inr (0, [.ref a1, .int 0, .int (nI pn), .int 2, .int (nI (F.2.1 pn))])), (a1, .inl (cI, 20, .inl fa)), (ak, .inl (cI, 4, .inl fk)), (av, .inl (cI, 4, .inl fv)), (ar, .inl (cI, 4, .inl fr)), (af, .inr (2, [.ref ak, .ref av, .ref ar, .int (nI P), .int nt, .int yd]))] := hD
    refine lv_aload_n hx hb dX0_start_35 rfl (lv_at hl 0 rfl) ?_
    refine lv_aload_n hx hb dX0_start_36 rfl (lv_at hl 0 rfl) ?_
    refine va_get (ci := 0) (v := .int 2) (C := RX0) (T := TX0) (N := 5) hx hb hT wu_X0 hown hK hP 0 rfl rfl 3 (by decide) (hT _ wf_X0_31) (fun _ h9 => h9) rfl dX0_start_37 ?_
    refine lv_iload_n hx hb dX0_start_40 rfl (lv_at hl 3 rfl) ?_
    refine lv_iload hx hb dX0_start_41 (lv_at hl 4 rfl) ?_
    refine lv_iconst (v := 0) hx hb dX0_start_43 (by decide) ?_
    refine contI (wc := [(aa, .inr (0, [.ref a1, .int 0, .int (nI pn), .int 2, .int (nI (F.2.1 pn))])), (a1, .inl (cI, 20, .inl fa))]) (wr := [(ak, .inl (cI, 4, .inl fk)), (av, .inl (cI, 4, .inl fv)), (ar, .inl (cI, 4, .inl fr)), (af, .inr (2, [.ref ak, .ref av, .ref ar, .int (nI P), .int nt, .int yd]))]) C0 hP hD hS [0, 1] [2, 3, 4, 5] rfl rfl (by decide) (by decide) 0 0 (Nat.le_of_ble_eq_true rfl) (Nat.le_of_ble_eq_true rfl) (runV (k := 4) (As := [.int 2, .int 0, .int xx, .int 0]) (rest := []) C0 (c_ask_2_2_0_0_0 l D cI cZ cQ cT _ aa xx a1 (nI pn) (nI (F.2.1 pn)) fa) wc_X0_ask wl_X0_38 wi_X0_ask we_X0_ask wz_X0 ⟨by decide, by decide, by decide +kernel⟩ ⟨(Nat.le_of_ble_eq_true rfl), (Nat.le_of_ble_eq_true rfl)⟩ hP hD hS EF.ok hX [0, 1] rfl (by decide) 0 rfl rfl rfl rfl hl.1 rfl (Nat.le_of_ble_eq_true rfl) dX0_start_44 ⟨(Nat.le_of_ble_eq_true rfl), (Nat.le_of_ble_eq_true rfl)⟩) (fun r_17 u_15 H locs w_16 hP hD hS => ?_)
    have hP : va_P D CL [(ak, .inl (cI, 4, .inl fk)), (av, .inl (cI, 4, .inl fv)), (ar, .inl (cI, 4, .inl fr)), (af, .inr (2, [.ref ak, .ref av, .ref ar, .int (nI P), .int nt, .int yd])), (aa, .inr (0, [.ref a1, .int 1, .int (nI pn), .int 2, .int (nI (F.2.1 pn))])), (a1, .inl (cI, 20, .inl (upd fa 0 1)))] H := hP
    have hD : va_D A [(ak, .inl (cI, 4, .inl fk)), (av, .inl (cI, 4, .inl fv)), (ar, .inl (cI, 4, .inl fr)), (af, .inr (2, [.ref ak, .ref av, .ref ar, .int (nI P), .int nt, .int yd])), (aa, .inr (0, [.ref a1, .int 1, .int (nI pn), .int 2, .int (nI (F.2.1 pn))])), (a1, .inl (cI, 20, .inl (upd fa 0 1)))] := hD
    obtain rfl : r_17 = (xx + (nI pn)) := w_16
    exact retI C0 rfl ((nI pn), 2, (nI (F.2.1 pn)), (upd fa 0 1), 1) (⟨(by rw [hk7_5]; rfl), (show 1 = (actB (F.1 pn) 0).length ∧ TL (upd fa 0 1) (actB (F.1 pn) 0) from ⟨(by rw [hk7_5]; rfl), (by rw [hk7_5]; exact tl_2_0 fa)⟩)⟩) (hP.sub (ws' := [(aa, .inr (0, [.ref a1, .int (nI 1), .int (nI pn), .int 2, .int (nI (F.2.1 pn))])), (a1, .inl (cI, 20, .inl (upd fa 0 1))), (af, .inr (2, [.ref ak, .ref av, .ref ar, .int (nI P), .int nt, .int yd])), (ak, .inl (cI, 4, .inl fk)), (av, .inl (cI, 4, .inl fv)), (ar, .inl (cI, 4, .inl fr))]) [4, 5, 3, 0, 1, 2] rfl) (hD.sub (ws' := [(aa, .inr (0, [.ref a1, .int (nI 1), .int (nI pn), .int 2, .int (nI (F.2.1 pn))])), (a1, .inl (cI, 20, .inl (upd fa 0 1))), (af, .inr (2, [.ref ak, .ref av, .ref ar, .int (nI P), .int nt, .int yd])), (ak, .inl (cI, 4, .inl fk)), (av, .inl (cI, 4, .inl fv)), (ar, .inl (cI, 4, .inl fr))]) [4, 5, 3, 0, 1, 2] (by decide) rfl) hS (Nat.le_of_ble_eq_true rfl) (Nat.le_of_ble_eq_true rfl) dX0_start_47
  · skip
    refine lv_ci 3 (by rw [hk7_5]; rfl) ?_
    refine va_put (ci := 0) (v := .int 3) (ty := .int) (C := RX0) (T := TX0) (N := 5) hx hb hT wu_X0 tyX0 tyX0_ok nmX0 hown hK hP hD hS 0 rfl rfl 3 (by decide) (hT _ wf_X0_31) (fun _ h9 => h9) rfl (by decide +kernel) rfl rfl (Nat.le_of_ble_eq_true rfl) dX0_start_22 (fun H locs hP hD hS => ?_)
    have hP : va_P D CL [(aa, .inr (0, [.ref a1, .int 0, .int (nI pn), .int 3, .int vv])), (a1, .inl (cI, 20, .inl fa)), (ak, .inl (cI, 4, .inl fk)), (av, .inl (cI, 4, .inl fv)), (ar, .inl (cI, 4, .inl fr)), (af, .inr (2, [.ref ak, .ref av, .ref ar, .int (nI P), .int nt, .int yd]))] H := hP
    have hD : va_D A [(aa, .inr (0, [.ref a1, .int 0, .int (nI pn), .int 3, .int vv])), (a1, .inl (cI, 20, .inl fa)), (ak, .inl (cI, 4, .inl fk)), (av, .inl (cI, 4, .inl fv)), (ar, .inl (cI, 4, .inl fr)), (af, .inr (2, [.ref ak, .ref av, .ref ar, .int (nI P), .int nt, .int yd]))] := hD
    refine lv_aload_n hx hb dX0_start_25 rfl (lv_at hl 0 rfl) ?_
    refine lv_aload_n hx hb dX0_start_26 rfl (lv_at hl 1 rfl) ?_
    refine va_getN (ci := 2) (v := .ref av) (C := RX2) (T := TX2) (N := 6) hx hb hT wu_X2 hown hK hP 5 rfl rfl 1 (by decide) (va_Nw.use rfl (hN.get 137 kf_X0_33 rfl)) (fun _ h9 => h9) rfl dX0_start_27 ?_
    refine lv_iload_n hx hb dX0_start_30 rfl (lv_at hl 2 rfl) ?_
    refine va_iald hx hb hK hP 3 0 rfl rfl (vp_in_nI (n := pn) (by omega) (by decide)) dX0_start_31 ?_
    refine lv_ci (fv pn) (congrArg fv (nI_clamp (n := pn) (by omega))) ?_
    have hb_18 := hB.2.1 pn (by omega)
    refine lv_ci (nI (F.2.1 pn)) (hC.2.1.g0 (by omega)) ?_
    refine va_put (ci := 0) (v := .int (nI (F.2.1 pn))) (ty := .int) (C := RX0) (T := TX0) (N := 5) hx hb hT wu_X0 tyX0 tyX0_ok nmX0 hown hK hP hD hS 0 rfl rfl 4 (by decide) (hT _ wf_X0_36) (fun _ h9 => h9) rfl (by decide +kernel) rfl rfl (Nat.le_of_ble_eq_true rfl) dX0_start_32 (fun H locs hP hD hS => ?_)
    have hP : va_P D CL [(aa, .inr (0, [.ref a1, .int 0, .int (nI pn), .int 3, .int (nI (F.2.1 pn))])), (a1, .inl (cI, 20, .inl fa)), (ak, .inl (cI, 4, .inl fk)), (av, .inl (cI, 4, .inl fv)), (ar, .inl (cI, 4, .inl fr)), (af, .inr (2, [.ref ak, .ref av, .ref ar, .int (nI P), .int nt, .int yd]))] H := hP
    have hD : va_D A [(aa, .inr (0, [.ref a1, .int 0, .int (nI pn), .int 3, .int (nI (F.2.1 pn))])), (a1, .inl (cI, 20, .inl fa)), (ak, .inl (cI, 4, .inl fk)), (av, .inl (cI, 4, .inl fv)), (ar, .inl (cI, 4, .inl fr)), (af, .inr (2, [.ref ak, .ref av, .ref ar, .int (nI P), .int nt, .int yd]))] := hD
    refine lv_aload_n hx hb dX0_start_35 rfl (lv_at hl 0 rfl) ?_
    refine lv_aload_n hx hb dX0_start_36 rfl (lv_at hl 0 rfl) ?_
    refine va_get (ci := 0) (v := .int 3) (C := RX0) (T := TX0) (N := 5) hx hb hT wu_X0 hown hK hP 0 rfl rfl 3 (by decide) (hT _ wf_X0_31) (fun _ h9 => h9) rfl dX0_start_37 ?_
    refine lv_iload_n hx hb dX0_start_40 rfl (lv_at hl 3 rfl) ?_
    refine lv_iload hx hb dX0_start_41 (lv_at hl 4 rfl) ?_
    refine lv_iconst (v := 0) hx hb dX0_start_43 (by decide) ?_
    refine contI (wc := [(aa, .inr (0, [.ref a1, .int 0, .int (nI pn), .int 3, .int (nI (F.2.1 pn))])), (a1, .inl (cI, 20, .inl fa))]) (wr := [(ak, .inl (cI, 4, .inl fk)), (av, .inl (cI, 4, .inl fv)), (ar, .inl (cI, 4, .inl fr)), (af, .inr (2, [.ref ak, .ref av, .ref ar, .int (nI P), .int nt, .int yd]))]) C0 hP hD hS [0, 1] [2, 3, 4, 5] rfl rfl (by decide) (by decide) 0 0 (Nat.le_of_ble_eq_true rfl) (Nat.le_of_ble_eq_true rfl) (runV (k := 4) (As := [.int 3, .int 0, .int xx, .int 0]) (rest := []) C0 (c_ask_3_3_0_0_0 l D cI cZ cQ cT _ aa xx a1 (nI pn) (nI (F.2.1 pn)) fa) wc_X0_ask wl_X0_38 wi_X0_ask we_X0_ask wz_X0 ⟨by decide, by decide, by decide +kernel⟩ ⟨(Nat.le_of_ble_eq_true rfl), (Nat.le_of_ble_eq_true rfl)⟩ hP hD hS EF.ok hX [0, 1] rfl (by decide) 0 rfl rfl rfl rfl hl.1 rfl (Nat.le_of_ble_eq_true rfl) dX0_start_44 ⟨(Nat.le_of_ble_eq_true rfl), (Nat.le_of_ble_eq_true rfl)⟩) (fun r_21 u_19 H locs w_20 hP hD hS => ?_)
    have hP : va_P D CL [(ak, .inl (cI, 4, .inl fk)), (av, .inl (cI, 4, .inl fv)), (ar, .inl (cI, 4, .inl fr)), (af, .inr (2, [.ref ak, .ref av, .ref ar, .int (nI P), .int nt, .int yd])), (aa, .inr (0, [.ref a1, .int 1, .int (nI pn), .int 3, .int (nI (F.2.1 pn))])), (a1, .inl (cI, 20, .inl (upd fa 0 1)))] H := hP
    have hD : va_D A [(ak, .inl (cI, 4, .inl fk)), (av, .inl (cI, 4, .inl fv)), (ar, .inl (cI, 4, .inl fr)), (af, .inr (2, [.ref ak, .ref av, .ref ar, .int (nI P), .int nt, .int yd])), (aa, .inr (0, [.ref a1, .int 1, .int (nI pn), .int 3, .int (nI (F.2.1 pn))])), (a1, .inl (cI, 20, .inl (upd fa 0 1)))] := hD
    obtain rfl : r_21 = (xx + (nI pn)) := w_20
    exact retI C0 rfl ((nI pn), 3, (nI (F.2.1 pn)), (upd fa 0 1), 1) (⟨(by rw [hk7_5]; rfl), (show 1 = (actB (F.1 pn) 0).length ∧ TL (upd fa 0 1) (actB (F.1 pn) 0) from ⟨(by rw [hk7_5]; rfl), (by rw [hk7_5]; exact tl_3_0 fa)⟩)⟩) (hP.sub (ws' := [(aa, .inr (0, [.ref a1, .int (nI 1), .int (nI pn), .int 3, .int (nI (F.2.1 pn))])), (a1, .inl (cI, 20, .inl (upd fa 0 1))), (af, .inr (2, [.ref ak, .ref av, .ref ar, .int (nI P), .int nt, .int yd])), (ak, .inl (cI, 4, .inl fk)), (av, .inl (cI, 4, .inl fv)), (ar, .inl (cI, 4, .inl fr))]) [4, 5, 3, 0, 1, 2] rfl) (hD.sub (ws' := [(aa, .inr (0, [.ref a1, .int (nI 1), .int (nI pn), .int 3, .int (nI (F.2.1 pn))])), (a1, .inl (cI, 20, .inl (upd fa 0 1))), (af, .inr (2, [.ref ak, .ref av, .ref ar, .int (nI P), .int nt, .int yd])), (ak, .inl (cI, 4, .inl fk)), (av, .inl (cI, 4, .inl fv)), (ar, .inl (cI, 4, .inl fr))]) [4, 5, 3, 0, 1, 2] (by decide) rfl) hS (Nat.le_of_ble_eq_true rfl) (Nat.le_of_ble_eq_true rfl) dX0_start_47
  · skip
    refine lv_ci 4 (by rw [hk7_5]; rfl) ?_
    refine va_put (ci := 0) (v := .int 4) (ty := .int) (C := RX0) (T := TX0) (N := 5) hx hb hT wu_X0 tyX0 tyX0_ok nmX0 hown hK hP hD hS 0 rfl rfl 3 (by decide) (hT _ wf_X0_31) (fun _ h9 => h9) rfl (by decide +kernel) rfl rfl (Nat.le_of_ble_eq_true rfl) dX0_start_22 (fun H locs hP hD hS => ?_)
    have hP : va_P D CL [(aa, .inr (0, [.ref a1, .int 0, .int (nI pn), .int 4, .int vv])), (a1, .inl (cI, 20, .inl fa)), (ak, .inl (cI, 4, .inl fk)), (av, .inl (cI, 4, .inl fv)), (ar, .inl (cI, 4, .inl fr)), (af, .inr (2, [.ref ak, .ref av, .ref ar, .int (nI P), .int nt, .int yd]))] H := hP
    have hD : va_D A [(aa, .inr (0, [.ref a1, .int 0, .int (nI pn), .int 4, .int vv])), (a1, .inl (cI, 20, .inl fa)), (ak, .inl (cI, 4, .inl fk)), (av, .inl (cI, 4, .inl fv)), (ar, .inl (cI, 4, .inl fr)), (af, .inr (2, [.ref ak, .ref av, .ref ar, .int (nI P), .int nt, .int yd]))] := hD
    refine lv_aload_n hx hb dX0_start_25 rfl (lv_at hl 0 rfl) ?_
    refine lv_aload_n hx hb dX0_start_26 rfl (lv_at hl 1 rfl) ?_
    refine va_getN (ci := 2) (v := .ref av) (C := RX2) (T := TX2) (N := 6) hx hb hT wu_X2 hown hK hP 5 rfl rfl 1 (by decide) (va_Nw.use rfl (hN.get 137 kf_X0_33 rfl)) (fun _ h9 => h9) rfl dX0_start_27 ?_
    refine lv_iload_n hx hb dX0_start_30 rfl (lv_at hl 2 rfl) ?_
    refine va_iald hx hb hK hP 3 0 rfl rfl (vp_in_nI (n := pn) (by omega) (by decide)) dX0_start_31 ?_
    refine lv_ci (fv pn) (congrArg fv (nI_clamp (n := pn) (by omega))) ?_
    have hb_22 := hB.2.1 pn (by omega)
    refine lv_ci (nI (F.2.1 pn)) (hC.2.1.g0 (by omega)) ?_
    refine va_put (ci := 0) (v := .int (nI (F.2.1 pn))) (ty := .int) (C := RX0) (T := TX0) (N := 5) hx hb hT wu_X0 tyX0 tyX0_ok nmX0 hown hK hP hD hS 0 rfl rfl 4 (by decide) (hT _ wf_X0_36) (fun _ h9 => h9) rfl (by decide +kernel) rfl rfl (Nat.le_of_ble_eq_true rfl) dX0_start_32 (fun H locs hP hD hS => ?_)
    have hP : va_P D CL [(aa, .inr (0, [.ref a1, .int 0, .int (nI pn), .int 4, .int (nI (F.2.1 pn))])), (a1, .inl (cI, 20, .inl fa)), (ak, .inl (cI, 4, .inl fk)), (av, .inl (cI, 4, .inl fv)), (ar, .inl (cI, 4, .inl fr)), (af, .inr (2, [.ref ak, .ref av, .ref ar, .int (nI P), .int nt, .int yd]))] H := hP
    have hD : va_D A [(aa, .inr (0, [.ref a1, .int 0, .int (nI pn), .int 4, .int (nI (F.2.1 pn))])), (a1, .inl (cI, 20, .inl fa)), (ak, .inl (cI, 4, .inl fk)), (av, .inl (cI, 4, .inl fv)), (ar, .inl (cI, 4, .inl fr)), (af, .inr (2, [.ref ak, .ref av, .ref ar, .int (nI P), .int nt, .int yd]))] := hD
    refine lv_aload_n hx hb dX0_start_35 rfl (lv_at hl 0 rfl) ?_
    refine lv_aload_n hx hb dX0_start_36 rfl (lv_at hl 0 rfl) ?_
    refine va_get (ci := 0) (v := .int 4) (C := RX0) (T := TX0) (N := 5) hx hb hT wu_X0 hown hK hP 0 rfl rfl 3 (by decide) (hT _ wf_X0_31) (fun _ h9 => h9) rfl dX0_start_37 ?_
    refine lv_iload_n hx hb dX0_start_40 rfl (lv_at hl 3 rfl) ?_
    refine lv_iload hx hb dX0_start_41 (lv_at hl 4 rfl) ?_
    refine lv_iconst (v := 0) hx hb dX0_start_43 (by decide) ?_
    refine contI (wc := [(aa, .inr (0, [.ref a1, .int 0, .int (nI pn), .int 4, .int (nI (F.2.1 pn))])), (a1, .inl (cI, 20, .inl fa))]) (wr := [(ak, .inl (cI, 4, .inl fk)), (av, .inl (cI, 4, .inl fv)), (ar, .inl (cI, 4, .inl fr)), (af, .inr (2, [.ref ak, .ref av, .ref ar, .int (nI P), .int nt, .int yd]))]) C0 hP hD hS [0, 1] [2, 3, 4, 5] rfl rfl (by decide) (by decide) 0 0 (Nat.le_of_ble_eq_true rfl) (Nat.le_of_ble_eq_true rfl) (runV (k := 4) (As := [.int 4, .int 0, .int xx, .int 0]) (rest := []) C0 (c_ask_4_4_0_0_0 l D cI cZ cQ cT _ aa xx a1 (nI pn) (nI (F.2.1 pn)) fa) wc_X0_ask wl_X0_38 wi_X0_ask we_X0_ask wz_X0 ⟨by decide, by decide, by decide +kernel⟩ ⟨(Nat.le_of_ble_eq_true rfl), (Nat.le_of_ble_eq_true rfl)⟩ hP hD hS EF.ok hX [0, 1] rfl (by decide) 0 rfl rfl rfl rfl hl.1 rfl (Nat.le_of_ble_eq_true rfl) dX0_start_44 ⟨(Nat.le_of_ble_eq_true rfl), (Nat.le_of_ble_eq_true rfl)⟩) (fun r_25 u_23 H locs w_24 hP hD hS => ?_)
    have hP : va_P D CL [(ak, .inl (cI, 4, .inl fk)), (av, .inl (cI, 4, .inl fv)), (ar, .inl (cI, 4, .inl fr)), (af, .inr (2, [.ref ak, .ref av, .ref ar, .int (nI P), .int nt, .int yd])), (aa, .inr (0, [.ref a1, .int 1, .int (nI pn), .int 4, .int (nI (F.2.1 pn))])), (a1, .inl (cI, 20, .inl (upd fa 0 1)))] H := hP
    have hD : va_D A [(ak, .inl (cI, 4, .inl fk)), (av, .inl (cI, 4, .inl fv)), (ar, .inl (cI, 4, .inl fr)), (af, .inr (2, [.ref ak, .ref av, .ref ar, .int (nI P), .int nt, .int yd])), (aa, .inr (0, [.ref a1, .int 1, .int (nI pn), .int 4, .int (nI (F.2.1 pn))])), (a1, .inl (cI, 20, .inl (upd fa 0 1)))] := hD
    obtain rfl : r_25 = (xx + (nI pn)) := w_24
    exact retI C0 rfl ((nI pn), 4, (nI (F.2.1 pn)), (upd fa 0 1), 1) (⟨(by rw [hk7_5]; rfl), (show 1 = (actB (F.1 pn) 0).length ∧ TL (upd fa 0 1) (actB (F.1 pn) 0) from ⟨(by rw [hk7_5]; rfl), (by rw [hk7_5]; exact tl_4_0 fa)⟩)⟩) (hP.sub (ws' := [(aa, .inr (0, [.ref a1, .int (nI 1), .int (nI pn), .int 4, .int (nI (F.2.1 pn))])), (a1, .inl (cI, 20, .inl (upd fa 0 1))), (af, .inr (2, [.ref ak, .ref av, .ref ar, .int (nI P), .int nt, .int yd])), (ak, .inl (cI, 4, .inl fk)), (av, .inl (cI, 4, .inl fv)), (ar, .inl (cI, 4, .inl fr))]) [4, 5, 3, 0, 1, 2] rfl) (hD.sub (ws' := [(aa, .inr (0, [.ref a1, .int (nI 1), .int (nI pn), .int 4, .int (nI (F.2.1 pn))])), (a1, .inl (cI, 20, .inl (upd fa 0 1))), (af, .inr (2, [.ref ak, .ref av, .ref ar, .int (nI P), .int nt, .int yd])), (ak, .inl (cI, 4, .inl fk)), (av, .inl (cI, 4, .inl fv)), (ar, .inl (cI, 4, .inl fr))]) [4, 5, 3, 0, 1, 2] (by decide) rfl) hS (Nat.le_of_ble_eq_true rfl) (Nat.le_of_ble_eq_true rfl) dX0_start_47
  · skip
    refine lv_ci 5 (by rw [hk7_5]; rfl) ?_
    refine va_put (ci := 0) (v := .int 5) (ty := .int) (C := RX0) (T := TX0) (N := 5) hx hb hT wu_X0 tyX0 tyX0_ok nmX0 hown hK hP hD hS 0 rfl rfl 3 (by decide) (hT _ wf_X0_31) (fun _ h9 => h9) rfl (by decide +kernel) rfl rfl (Nat.le_of_ble_eq_true rfl) dX0_start_22 (fun H locs hP hD hS => ?_)
    have hP : va_P D CL [(aa, .inr (0, [.ref a1, .int 0, .int (nI pn), .int 5, .int vv])), (a1, .inl (cI, 20, .inl fa)), (ak, .inl (cI, 4, .inl fk)), (av, .inl (cI, 4, .inl fv)), (ar, .inl (cI, 4, .inl fr)), (af, .inr (2, [.ref ak, .ref av, .ref ar, .int (nI P), .int nt, .int yd]))] H := hP
    have hD : va_D A [(aa, .inr (0, [.ref a1, .int 0, .int (nI pn), .int 5, .int vv])), (a1, .inl (cI, 20, .inl fa)), (ak, .inl (cI, 4, .inl fk)), (av, .inl (cI, 4, .inl fv)), (ar, .inl (cI, 4, .inl fr)), (af, .inr (2, [.ref ak, .ref av, .ref ar, .int (nI P), .int nt, .int yd]))] := hD
    refine lv_aload_n hx hb dX0_start_25 rfl (lv_at hl 0 rfl) ?_
    refine lv_aload_n hx hb dX0_start_26 rfl (lv_at hl 1 rfl) ?_
    refine va_getN (ci := 2) (v := .ref av) (C := RX2) (T := TX2) (N := 6) hx hb hT wu_X2 hown hK hP 5 rfl rfl 1 (by decide) (va_Nw.use rfl (hN.get 137 kf_X0_33 rfl)) (fun _ h9 => h9) rfl dX0_start_27 ?_
    refine lv_iload_n hx hb dX0_start_30 rfl (lv_at hl 2 rfl) ?_
    refine va_iald hx hb hK hP 3 0 rfl rfl (vp_in_nI (n := pn) (by omega) (by decide)) dX0_start_31 ?_
    refine lv_ci (fv pn) (congrArg fv (nI_clamp (n := pn) (by omega))) ?_
    have hb_26 := hB.2.1 pn (by omega)
    refine lv_ci (nI (F.2.1 pn)) (hC.2.1.g0 (by omega)) ?_
    refine va_put (ci := 0) (v := .int (nI (F.2.1 pn))) (ty := .int) (C := RX0) (T := TX0) (N := 5) hx hb hT wu_X0 tyX0 tyX0_ok nmX0 hown hK hP hD hS 0 rfl rfl 4 (by decide) (hT _ wf_X0_36) (fun _ h9 => h9) rfl (by decide +kernel) rfl rfl (Nat.le_of_ble_eq_true rfl) dX0_start_32 (fun H locs hP hD hS => ?_)
    have hP : va_P D CL [(aa, .inr (0, [.ref a1, .int 0, .int (nI pn), .int 5, .int (nI (F.2.1 pn))])), (a1, .inl (cI, 20, .inl fa)), (ak, .inl (cI, 4, .inl fk)), (av, .inl (cI, 4, .inl fv)), (ar, .inl (cI, 4, .inl fr)), (af, .inr (2, [.ref ak, .ref av, .ref ar, .int (nI P), .int nt, .int yd]))] H := hP
    have hD : va_D A [(aa, .inr (0, [.ref a1, .int 0, .int (nI pn), .int 5, .int (nI (F.2.1 pn))])), (a1, .inl (cI, 20, .inl fa)), (ak, .inl (cI, 4, .inl fk)), (av, .inl (cI, 4, .inl fv)), (ar, .inl (cI, 4, .inl fr)), (af, .inr (2, [.ref ak, .ref av, .ref ar, .int (nI P), .int nt, .int yd]))] := hD
    refine lv_aload_n hx hb dX0_start_35 rfl (lv_at hl 0 rfl) ?_
    refine lv_aload_n hx hb dX0_start_36 rfl (lv_at hl 0 rfl) ?_
    refine va_get (ci := 0) (v := .int 5) (C := RX0) (T := TX0) (N := 5) hx hb hT wu_X0 hown hK hP 0 rfl rfl 3 (by decide) (hT _ wf_X0_31) (fun _ h9 => h9) rfl dX0_start_37 ?_
    refine lv_iload_n hx hb dX0_start_40 rfl (lv_at hl 3 rfl) ?_
    refine lv_iload hx hb dX0_start_41 (lv_at hl 4 rfl) ?_
    refine lv_iconst (v := 0) hx hb dX0_start_43 (by decide) ?_
    refine contI (wc := [(aa, .inr (0, [.ref a1, .int 0, .int (nI pn), .int 5, .int (nI (F.2.1 pn))])), (a1, .inl (cI, 20, .inl fa))]) (wr := [(ak, .inl (cI, 4, .inl fk)), (av, .inl (cI, 4, .inl fv)), (ar, .inl (cI, 4, .inl fr)), (af, .inr (2, [.ref ak, .ref av, .ref ar, .int (nI P), .int nt, .int yd]))]) C0 hP hD hS [0, 1] [2, 3, 4, 5] rfl rfl (by decide) (by decide) 0 0 (Nat.le_of_ble_eq_true rfl) (Nat.le_of_ble_eq_true rfl) (runV (k := 4) (As := [.int 5, .int 0, .int xx, .int 0]) (rest := []) C0 (c_ask_5_5_0_0_0 l D cI cZ cQ cT _ aa xx a1 (nI pn) (nI (F.2.1 pn)) fa) wc_X0_ask wl_X0_38 wi_X0_ask we_X0_ask wz_X0 ⟨by decide, by decide, by decide +kernel⟩ ⟨(Nat.le_of_ble_eq_true rfl), (Nat.le_of_ble_eq_true rfl)⟩ hP hD hS EF.ok hX [0, 1] rfl (by decide) 0 rfl rfl rfl rfl hl.1 rfl (Nat.le_of_ble_eq_true rfl) dX0_start_44 ⟨(Nat.le_of_ble_eq_true rfl), (Nat.le_of_ble_eq_true rfl)⟩) (fun r_29 u_27 H locs w_28 hP hD hS => ?_)
    have hP : va_P D CL [(ak, .inl (cI, 4, .inl fk)), (av, .inl (cI, 4, .inl fv)), (ar, .inl (cI, 4, .inl fr)), (af, .inr (2, [.ref ak, .ref av, .ref ar, .int (nI P), .int nt, .int yd])), (aa, .inr (0, [.ref a1, .int 2, .int (nI pn), .int 5, .int (nI (F.2.1 pn))])), (a1, .inl (cI, 20, .inl (upd (upd fa 0 51) 1 1)))] H := hP
    have hD : va_D A [(ak, .inl (cI, 4, .inl fk)), (av, .inl (cI, 4, .inl fv)), (ar, .inl (cI, 4, .inl fr)), (af, .inr (2, [.ref ak, .ref av, .ref ar, .int (nI P), .int nt, .int yd])), (aa, .inr (0, [.ref a1, .int 2, .int (nI pn), .int 5, .int (nI (F.2.1 pn))])), (a1, .inl (cI, 20, .inl (upd (upd fa 0 51) 1 1)))] := hD
    obtain rfl : r_29 = ((xx + (nI pn)) ^^^ (nI pn)) := w_28
    exact retI C0 rfl ((nI pn), 5, (nI (F.2.1 pn)), (upd (upd fa 0 51) 1 1), 2) (⟨(by rw [hk7_5]; rfl), (show 2 = (actB (F.1 pn) 0).length ∧ TL (upd (upd fa 0 51) 1 1) (actB (F.1 pn) 0) from ⟨(by rw [hk7_5]; rfl), (by rw [hk7_5]; exact tl_5_0 fa)⟩)⟩) (hP.sub (ws' := [(aa, .inr (0, [.ref a1, .int (nI 2), .int (nI pn), .int 5, .int (nI (F.2.1 pn))])), (a1, .inl (cI, 20, .inl (upd (upd fa 0 51) 1 1))), (af, .inr (2, [.ref ak, .ref av, .ref ar, .int (nI P), .int nt, .int yd])), (ak, .inl (cI, 4, .inl fk)), (av, .inl (cI, 4, .inl fv)), (ar, .inl (cI, 4, .inl fr))]) [4, 5, 3, 0, 1, 2] rfl) (hD.sub (ws' := [(aa, .inr (0, [.ref a1, .int (nI 2), .int (nI pn), .int 5, .int (nI (F.2.1 pn))])), (a1, .inl (cI, 20, .inl (upd (upd fa 0 51) 1 1))), (af, .inr (2, [.ref ak, .ref av, .ref ar, .int (nI P), .int nt, .int yd])), (ak, .inl (cI, 4, .inl fk)), (av, .inl (cI, 4, .inl fv)), (ar, .inl (cI, 4, .inl fr))]) [4, 5, 3, 0, 1, 2] (by decide) rfl) hS (Nat.le_of_ble_eq_true rfl) (Nat.le_of_ble_eq_true rfl) dX0_start_47
  · skip
    refine lv_ci 6 (by rw [hk7_5]; rfl) ?_
    refine va_put (ci := 0) (v := .int 6) (ty := .int) (C := RX0) (T := TX0) (N := 5) hx hb hT wu_X0 tyX0 tyX0_ok nmX0 hown hK hP hD hS 0 rfl rfl 3 (by decide) (hT _ wf_X0_31) (fun _ h9 => h9) rfl (by decide +kernel) rfl rfl (Nat.le_of_ble_eq_true rfl) dX0_start_22 (fun H locs hP hD hS => ?_)
    have hP : va_P D CL [(aa, .inr (0, [.ref a1, .int 0, .int (nI pn), .int 6, .int vv])), (a1, .inl (cI, 20, .inl fa)), (ak, .inl (cI, 4, .inl fk)), (av, .inl (cI, 4, .inl fv)), (ar, .inl (cI, 4, .inl fr)), (af, .inr (2, [.ref ak, .ref av, .ref ar, .int (nI P), .int nt, .int yd]))] H := hP
    have hD : va_D A [(aa, .inr (0, [.ref a1, .int 0, .int (nI pn), .int 6, .int vv])), (a1, .inl (cI, 20, .inl fa)), (ak, .inl (cI, 4, .inl fk)), (av, .inl (cI, 4, .inl fv)), (ar, .inl (cI, 4, .inl fr)), (af, .inr (2, [.ref ak, .ref av, .ref ar, .int (nI P), .int nt, .int yd]))] := hD
    refine lv_aload_n hx hb dX0_start_25 rfl (lv_at hl 0 rfl) ?_
    refine lv_aload_n hx hb dX0_start_26 rfl (lv_at hl 1 rfl) ?_
    refine va_getN (ci := 2) (v := .ref av) (C := RX2) (T := TX2) (N := 6) hx hb hT wu_X2 hown hK hP 5 rfl rfl 1 (by decide) (va_Nw.use rfl (hN.get 137 kf_X0_33 rfl)) (fun _ h9 => h9) rfl dX0_start_27 ?_
    refine lv_iload_n hx hb dX0_start_30 rfl (lv_at hl 2 rfl) ?_
    refine va_iald hx hb hK hP 3 0 rfl rfl (vp_in_nI (n := pn) (by omega) (by decide)) dX0_start_31 ?_
    refine lv_ci (fv pn) (congrArg fv (nI_clamp (n := pn) (by omega))) ?_
    have hb_30 := hB.2.1 pn (by omega)
    refine lv_ci (nI (F.2.1 pn)) (hC.2.1.g0 (by omega)) ?_
    refine va_put (ci := 0) (v := .int (nI (F.2.1 pn))) (ty := .int) (C := RX0) (T := TX0) (N := 5) hx hb hT wu_X0 tyX0 tyX0_ok nmX0 hown hK hP hD hS 0 rfl rfl 4 (by decide) (hT _ wf_X0_36) (fun _ h9 => h9) rfl (by decide +kernel) rfl rfl (Nat.le_of_ble_eq_true rfl) dX0_start_32 (fun H locs hP hD hS => ?_)
    have hP : va_P D CL [(aa, .inr (0, [.ref a1, .int 0, .int (nI pn), .int 6, .int (nI (F.2.1 pn))])), (a1, .inl (cI, 20, .inl fa)), (ak, .inl (cI, 4, .inl fk)), (av, .inl (cI, 4, .inl fv)), (ar, .inl (cI, 4, .inl fr)), (af, .inr (2, [.ref ak, .ref av, .ref ar, .int (nI P), .int nt, .int yd]))] H := hP
    have hD : va_D A [(aa, .inr (0, [.ref a1, .int 0, .int (nI pn), .int 6, .int (nI (F.2.1 pn))])), (a1, .inl (cI, 20, .inl fa)), (ak, .inl (cI, 4, .inl fk)), (av, .inl (cI, 4, .inl fv)), (ar, .inl (cI, 4, .inl fr)), (af, .inr (2, [.ref ak, .ref av, .ref ar, .int (nI P), .int nt, .int yd]))] := hD
    refine lv_aload_n hx hb dX0_start_35 rfl (lv_at hl 0 rfl) ?_
    refine lv_aload_n hx hb dX0_start_36 rfl (lv_at hl 0 rfl) ?_
    refine va_get (ci := 0) (v := .int 6) (C := RX0) (T := TX0) (N := 5) hx hb hT wu_X0 hown hK hP 0 rfl rfl 3 (by decide) (hT _ wf_X0_31) (fun _ h9 => h9) rfl dX0_start_37 ?_
    refine lv_iload_n hx hb dX0_start_40 rfl (lv_at hl 3 rfl) ?_
    refine lv_iload hx hb dX0_start_41 (lv_at hl 4 rfl) ?_
    refine lv_iconst (v := 0) hx hb dX0_start_43 (by decide) ?_
    refine contI (wc := [(aa, .inr (0, [.ref a1, .int 0, .int (nI pn), .int 6, .int (nI (F.2.1 pn))])), (a1, .inl (cI, 20, .inl fa))]) (wr := [(ak, .inl (cI, 4, .inl fk)), (av, .inl (cI, 4, .inl fv)), (ar, .inl (cI, 4, .inl fr)), (af, .inr (2, [.ref ak, .ref av, .ref ar, .int (nI P), .int nt, .int yd]))]) C0 hP hD hS [0, 1] [2, 3, 4, 5] rfl rfl (by decide) (by decide) 0 0 (Nat.le_of_ble_eq_true rfl) (Nat.le_of_ble_eq_true rfl) (runV (k := 4) (As := [.int 6, .int 0, .int xx, .int 0]) (rest := []) C0 (c_ask_6_6_0_0_0 l D cI cZ cQ cT _ aa xx a1 (nI pn) (nI (F.2.1 pn)) fa) wc_X0_ask wl_X0_38 wi_X0_ask we_X0_ask wz_X0 ⟨by decide, by decide, by decide +kernel⟩ ⟨(Nat.le_of_ble_eq_true rfl), (Nat.le_of_ble_eq_true rfl)⟩ hP hD hS EF.ok hX [0, 1] rfl (by decide) 0 rfl rfl rfl rfl hl.1 rfl (Nat.le_of_ble_eq_true rfl) dX0_start_44 ⟨(Nat.le_of_ble_eq_true rfl), (Nat.le_of_ble_eq_true rfl)⟩) (fun r_33 u_31 H locs w_32 hP hD hS => ?_)
    have hP : va_P D CL [(ak, .inl (cI, 4, .inl fk)), (av, .inl (cI, 4, .inl fv)), (ar, .inl (cI, 4, .inl fr)), (af, .inr (2, [.ref ak, .ref av, .ref ar, .int (nI P), .int nt, .int yd])), (aa, .inr (0, [.ref a1, .int 1, .int (nI pn), .int 6, .int (nI (F.2.1 pn))])), (a1, .inl (cI, 20, .inl (upd fa 0 1)))] H := hP
    have hD : va_D A [(ak, .inl (cI, 4, .inl fk)), (av, .inl (cI, 4, .inl fv)), (ar, .inl (cI, 4, .inl fr)), (af, .inr (2, [.ref ak, .ref av, .ref ar, .int (nI P), .int nt, .int yd])), (aa, .inr (0, [.ref a1, .int 1, .int (nI pn), .int 6, .int (nI (F.2.1 pn))])), (a1, .inl (cI, 20, .inl (upd fa 0 1)))] := hD
    obtain rfl : r_33 = (xx + (nI pn)) := w_32
    exact retI C0 rfl ((nI pn), 6, (nI (F.2.1 pn)), (upd fa 0 1), 1) (⟨(by rw [hk7_5]; rfl), (show 1 = (actB (F.1 pn) 0).length ∧ TL (upd fa 0 1) (actB (F.1 pn) 0) from ⟨(by rw [hk7_5]; rfl), (by rw [hk7_5]; exact tl_6_0 fa)⟩)⟩) (hP.sub (ws' := [(aa, .inr (0, [.ref a1, .int (nI 1), .int (nI pn), .int 6, .int (nI (F.2.1 pn))])), (a1, .inl (cI, 20, .inl (upd fa 0 1))), (af, .inr (2, [.ref ak, .ref av, .ref ar, .int (nI P), .int nt, .int yd])), (ak, .inl (cI, 4, .inl fk)), (av, .inl (cI, 4, .inl fv)), (ar, .inl (cI, 4, .inl fr))]) [4, 5, 3, 0, 1, 2] rfl) (hD.sub (ws' := [(aa, .inr (0, [.ref a1, .int (nI 1), .int (nI pn), .int 6, .int (nI (F.2.1 pn))])), (a1, .inl (cI, 20, .inl (upd fa 0 1))), (af, .inr (2, [.ref ak, .ref av, .ref ar, .int (nI P), .int nt, .int yd])), (ak, .inl (cI, 4, .inl fk)), (av, .inl (cI, 4, .inl fv)), (ar, .inl (cI, 4, .inl fr))]) [4, 5, 3, 0, 1, 2] (by decide) rfl) hS (Nat.le_of_ble_eq_true rfl) (Nat.le_of_ble_eq_true rfl) dX0_start_47

set_option maxHeartbeats 4000000 in
set_option maxRecDepth 100000 in
theorem c_bodyOf_0_1 (l : Launch) (D : va_G) (cI cZ cQ cT : ClassId) (sz : Nat)   : MetI l yX0_bodyOf cX0_bodyOf 5 .int ({ frames := 0, cells := 0, slots := 0, locals := 0 } : Room) [.int 0, .int 1] D (TYS cI cZ cQ cT) EF sz [] (S := Unit) (fun (r : Int32) (_ : Unit) => r = 2) (fun _ => []) := by
  refine MetI.mk (lv := [(0, .int 0), (1, .int 1)]) (by decide +kernel) (Nat.le_of_ble_eq_true rfl) rfl ?_
  intro p e s m below meth c A ls C0 hP hD hS hX hl
  have C1 := C0
  obtain ⟨hx, hb, hr, hml, hown, hlocks, hname, hT, hN, hK, hA⟩ := C1
  obtain ⟨kab, hkz, hkT⟩ := hX.2.1
  obtain ⟨bdy, hbz, hbT⟩ := hX.2.2.1
  refine lv_iload_n hx hb dX0_bodyOf_0 rfl (lv_at hl 0 rfl) ?_
  refine lv_istore_n (lv' := [(2, .int 0), (0, .int 0), (1, .int 1)]) hx hb dX0_bodyOf_1 rfl hl (by decide) rfl (fun ls hl => ?_)
  refine lv_iconst (v := 0) hx hb dX0_bodyOf_2 (by decide) ?_
  refine lv_istore_n (lv' := [(3, .int 0), (2, .int 0), (0, .int 0), (1, .int 1)]) hx hb dX0_bodyOf_3 rfl hl (by decide) rfl (fun ls hl => ?_)
  refine lv_iload_n hx hb dX0_bodyOf_4 rfl (lv_at hl 0 rfl) ?_
  refine lv_bipush (v := 7) hx hb dX0_bodyOf_5 (by decide) ?_
  refine lv_icmp_ge (tgt := 69) hx hb dX0_bodyOf_7 (by decide) (fun c_0 => absurd c_0 (by decide)) (fun _ => ?_)
  refine lv_iload_n hx hb dX0_bodyOf_10 rfl (lv_at hl 1 rfl) ?_
  refine lv_if_lt (tgt := 69) hx hb dX0_bodyOf_11 (by decide) (fun c_0 => absurd c_0 (by decide)) (fun _ => ?_)
  refine lv_iload_n hx hb dX0_bodyOf_14 rfl (lv_at hl 1 rfl) ?_
  refine lv_bipush (v := 7) hx hb dX0_bodyOf_15 (by decide) ?_
  refine lv_icmp_ge (tgt := 69) hx hb dX0_bodyOf_17 (by decide) (fun c_0 => absurd c_0 (by decide)) (fun _ => ?_)
  refine lv_iload_n hx hb dX0_bodyOf_20 rfl (lv_at hl 1 rfl) ?_
  refine lv_iconst (v := 3) hx hb dX0_bodyOf_21 (by decide) ?_
  refine lv_imul hx hb dX0_bodyOf_22 ?_
  refine lv_ci 0 (by decide +kernel) ?_
  refine lv_iload_n hx hb dX0_bodyOf_23 rfl (lv_at hl 3 rfl) ?_
  refine lv_iadd hx hb dX0_bodyOf_24 ?_
  refine lv_ci 1 (by decide +kernel) ?_
  refine lv_istore (lv' := [(4, .int 1), (3, .int 0), (2, .int 0), (0, .int 0), (1, .int 1)]) hx hb dX0_bodyOf_25 hl (by decide) rfl (fun ls hl => ?_)
  refine lv_iload hx hb dX0_bodyOf_27 (lv_at hl 0 rfl) ?_
  refine lv_if_lt (tgt := 57) hx hb dX0_bodyOf_29 (by decide) (fun c_0 => absurd c_0 (by decide)) (fun _ => ?_)
  refine lv_iload hx hb dX0_bodyOf_32 (lv_at hl 0 rfl) ?_
  refine va_gets hx hb hbz hS hown (hT _ wf_X0_42) (fun _ h9 => h9) dX0_bodyOf_34 ?_
  refine va_tlen hx hb hbT hS (v := 21) rfl dX0_bodyOf_37 ?_
  refine lv_icmp_ge (tgt := 57) hx hb dX0_bodyOf_38 (by decide) (fun c_0 => absurd c_0 (by decide)) (fun _ => ?_)
  refine va_gets hx hb hbz hS hown (hT _ wf_X0_42) (fun _ h9 => h9) dX0_bodyOf_41 ?_
  refine lv_iload hx hb dX0_bodyOf_44 (lv_at hl 0 rfl) ?_
  refine va_ti hx hb hbT hS (vin _ _ (by decide +kernel)) (v := .int 2) rfl dX0_bodyOf_46 ?_
  refine lv_if_eq (tgt := 57) hx hb dX0_bodyOf_47 (by decide) (fun c_0 => absurd c_0 (by decide)) (fun _ => ?_)
  refine va_gets hx hb hbz hS hown (hT _ wf_X0_42) (fun _ h9 => h9) dX0_bodyOf_50 ?_
  refine lv_iload hx hb dX0_bodyOf_53 (lv_at hl 0 rfl) ?_
  refine va_ti hx hb hbT hS (vin _ _ (by decide +kernel)) (v := .int 2) rfl dX0_bodyOf_55 ?_
  exact retI C0 rfl () rfl (hP.sub (ws' := []) [] rfl) (hD.sub (ws' := []) [] (by decide) rfl) hS (Nat.le_of_ble_eq_true rfl) (Nat.le_of_ble_eq_true rfl) dX0_bodyOf_56

set_option maxHeartbeats 4000000 in
set_option maxRecDepth 100000 in
theorem c_ask_0_0_0_1_1 (l : Launch) (D : va_G) (cI cZ cQ cT : ClassId) (sz : Nat) (aa : Nat) (xx : Int32) (a1 : Nat) (sl : Int32) (vv : Int32) (fa : Nat → Int32)  : MetI l yX0_ask cX0_ask 7 .int ({ frames := 1, cells := 0, slots := 0, locals := 24 } : Room) [.ref aa, .int 0, .int 0, .int xx, .int 1] D (TYS cI cZ cQ cT) EF sz [(aa, .inr (0, [.ref a1, .int 1, .int sl, .int 0, .int vv])), (a1, .inl (cI, 20, .inl fa))] (S := Unit) (fun (r : Int32) (_ : Unit) => r = (xx + sl)) (fun _ => [(aa, .inr (0, [.ref a1, .int 2, .int sl, .int 0, .int vv])), (a1, .inl (cI, 20, .inl (upd fa 1 1)))]) := by
  refine MetI.mk (lv := [(0, .ref aa), (1, .int 0), (2, .int 0), (3, .int xx), (4, .int 1)]) (by decide +kernel) (Nat.le_of_ble_eq_true rfl) rfl ?_
  intro p e s m below meth c A ls C0 hP hD hS hX hl
  have C1 := C0
  obtain ⟨hx, hb, hr, hml, hown, hlocks, hname, hT, hN, hK, hA⟩ := C1
  refine lv_iload_n hx hb dX0_ask_0 rfl (lv_at hl 1 rfl) ?_
  refine lv_iload_n hx hb dX0_ask_1 rfl (lv_at hl 2 rfl) ?_
  refine contI (wc := []) (wr := [(aa, .inr (0, [.ref a1, .int 1, .int sl, .int 0, .int vv])), (a1, .inl (cI, 20, .inl fa))]) C0 hP hD hS [] [0, 1] rfl rfl (by decide) (by decide) 0 0 (Nat.le_of_ble_eq_true rfl) (Nat.le_of_ble_eq_true rfl) (runS (k := 2) (As := [.int 0, .int 0]) (rest := []) C0 (c_bodyOf_0_0 l D cI cZ cQ cT _ ) wc_X0_bodyOf wl_X0_48 wt_X0_bodyOf wz_X0 ⟨by decide, by decide, by decide +kernel⟩ ⟨(Nat.le_of_ble_eq_true rfl), (Nat.le_of_ble_eq_true rfl)⟩ hP hD hS EF.ok hX [] rfl (by decide) rfl hl.1 rfl (Nat.le_of_ble_eq_true rfl) dX0_ask_2 ⟨(Nat.le_of_ble_eq_true rfl), (Nat.le_of_ble_eq_true rfl)⟩) (fun r_3 u_1 H locs w_2 hP hD hS => ?_)
  have hP : va_P D CL [(aa, .inr (0, [.ref a1, .int 1, .int sl, .int 0, .int vv])), (a1, .inl (cI, 20, .inl fa))] H := hP
  have hD : va_D A [(aa, .inr (0, [.ref a1, .int 1, .int sl, .int 0, .int vv])), (a1, .inl (cI, 20, .inl fa))] := hD
  obtain rfl : r_3 = 1 := w_2
  refine lv_istore (lv' := [(5, .int 1), (0, .ref aa), (1, .int 0), (2, .int 0), (3, .int xx), (4, .int 1)]) hx hb dX0_ask_5 hl (by decide) rfl (fun ls hl => ?_)
  refine lv_iload hx hb dX0_ask_7 (lv_at hl 0 rfl) ?_
  refine lv_if_eq (tgt := 19) hx hb dX0_ask_9 (by decide) (fun c_0 => absurd c_0 (by decide)) (fun _ => ?_)
  refine lv_iload hx hb dX0_ask_12 (lv_at hl 5 rfl) ?_
  refine lv_bipush (v := 40) hx hb dX0_ask_14 (by decide) ?_
  refine lv_icmp_le (tgt := 21) hx hb dX0_ask_16 (by decide) (fun _ => ?_) (fun c_0 => absurd (by decide) c_0)
  refine lv_aload_n hx hb dX0_ask_21 rfl (lv_at hl 1 rfl) ?_
  refine lv_iload hx hb dX0_ask_22 (lv_at hl 0 rfl) ?_
  refine contV (wc := [(aa, .inr (0, [.ref a1, .int 1, .int sl, .int 0, .int vv])), (a1, .inl (cI, 20, .inl fa))]) (wr := []) C0 hP hD hS [0, 1] [] rfl rfl (by decide) (by decide) 0 0 (Nat.le_of_ble_eq_true rfl) (Nat.le_of_ble_eq_true rfl) (runV (k := 1) (As := [.int 1]) (rest := []) C0 (c_begin_1 l D cI cZ cQ cT _ aa 1 a1 sl 0 vv fa) wc_X0_begin wl_X0_52 wi_X0_begin we_X0_begin wz_X0 ⟨by decide, by decide, by decide +kernel⟩ ⟨(Nat.le_of_ble_eq_true rfl), (Nat.le_of_ble_eq_true rfl)⟩ hP hD hS EF.ok hX [0, 1] rfl (by decide) 0 rfl rfl rfl rfl hl.1 rfl (Nat.le_of_ble_eq_true rfl) dX0_ask_24 ⟨(Nat.le_of_ble_eq_true rfl), (Nat.le_of_ble_eq_true rfl)⟩) (fun u_4 H locs w_5 hP hD hS => ?_)
  have hP : va_P D CL [(aa, .inr (0, [.ref a1, .int 2, .int sl, .int 0, .int vv])), (a1, .inl (cI, 20, .inl (upd fa 1 (1 : Int32))))] H := hP
  have hD : va_D A [(aa, .inr (0, [.ref a1, .int 2, .int sl, .int 0, .int vv])), (a1, .inl (cI, 20, .inl (upd fa 1 (1 : Int32))))] := hD
  refine lv_iload hx hb dX0_ask_27 (lv_at hl 5 rfl) ?_
  refine lv_iconst (v := 1) hx hb dX0_ask_29 (by decide) ?_
  refine lv_iadd hx hb dX0_ask_30 ?_
  refine lv_ci 2 (by decide +kernel) ?_
  refine lv_istore (lv' := [(6, .int 2), (5, .int 1), (0, .ref aa), (1, .int 0), (2, .int 0), (3, .int xx), (4, .int 1)]) hx hb dX0_ask_31 hl (by decide) rfl (fun ls hl => ?_)
  refine lv_iload hx hb dX0_ask_33 (lv_at hl 1 rfl) ?_
  refine lv_lookup (off := 81) (tgt := 116) hx hb dX0_ask_35 (by decide) (by decide) (by decide) ?_
  refine lv_iload_n hx hb dX0_ask_116 rfl (lv_at hl 5 rfl) ?_
  refine lv_aload_n hx hb dX0_ask_117 rfl (lv_at hl 2 rfl) ?_
  refine va_get (ci := 0) (v := .int sl) (C := RX0) (T := TX0) (N := 5) hx hb hT wu_X0 hown hK hP 0 rfl rfl 2 (by decide) (hT _ wf_X0_25) (fun _ h9 => h9) rfl dX0_ask_118 ?_
  refine lv_iadd hx hb dX0_ask_121 ?_
  exact retI C0 rfl () rfl (hP.sub (ws' := [(aa, .inr (0, [.ref a1, .int 2, .int sl, .int 0, .int vv])), (a1, .inl (cI, 20, .inl (upd fa 1 1)))]) [0, 1] rfl) (hD.sub (ws' := [(aa, .inr (0, [.ref a1, .int 2, .int sl, .int 0, .int vv])), (a1, .inl (cI, 20, .inl (upd fa 1 1)))]) [0, 1] (by decide) rfl) hS (Nat.le_of_ble_eq_true rfl) (Nat.le_of_ble_eq_true rfl) dX0_ask_122

set_option maxHeartbeats 4000000 in
set_option maxRecDepth 100000 in
theorem c_ask_0_0_1_0_0 (l : Launch) (D : va_G) (cI cZ cQ cT : ClassId) (sz : Nat) (aa : Nat) (xx : Int32) (a1 : Nat) (sl : Int32) (vv : Int32) (fa : Nat → Int32)  : MetI l yX0_ask cX0_ask 7 .int ({ frames := 2, cells := 0, slots := 0, locals := 50 } : Room) [.ref aa, .int 0, .int 1, .int xx, .int 0] D (TYS cI cZ cQ cT) EF sz [(aa, .inr (0, [.ref a1, .int 0, .int sl, .int 0, .int vv])), (a1, .inl (cI, 20, .inl fa))] (S := Unit) (fun (r : Int32) (_ : Unit) => r = ((xx + sl) - vv)) (fun _ => [(aa, .inr (0, [.ref a1, .int 2, .int sl, .int 0, .int vv])), (a1, .inl (cI, 20, .inl (upd (upd fa 0 2) 1 1)))]) := by
  refine MetI.mk (lv := [(0, .ref aa), (1, .int 0), (2, .int 1), (3, .int xx), (4, .int 0)]) (by decide +kernel) (Nat.le_of_ble_eq_true rfl) rfl ?_
  intro p e s m below meth c A ls C0 hP hD hS hX hl
  have C1 := C0
  obtain ⟨hx, hb, hr, hml, hown, hlocks, hname, hT, hN, hK, hA⟩ := C1
  refine lv_iload_n hx hb dX0_ask_0 rfl (lv_at hl 1 rfl) ?_
  refine lv_iload_n hx hb dX0_ask_1 rfl (lv_at hl 2 rfl) ?_
  refine contI (wc := []) (wr := [(aa, .inr (0, [.ref a1, .int 0, .int sl, .int 0, .int vv])), (a1, .inl (cI, 20, .inl fa))]) C0 hP hD hS [] [0, 1] rfl rfl (by decide) (by decide) 0 0 (Nat.le_of_ble_eq_true rfl) (Nat.le_of_ble_eq_true rfl) (runS (k := 2) (As := [.int 0, .int 1]) (rest := []) C0 (c_bodyOf_0_1 l D cI cZ cQ cT _ ) wc_X0_bodyOf wl_X0_48 wt_X0_bodyOf wz_X0 ⟨by decide, by decide, by decide +kernel⟩ ⟨(Nat.le_of_ble_eq_true rfl), (Nat.le_of_ble_eq_true rfl)⟩ hP hD hS EF.ok hX [] rfl (by decide) rfl hl.1 rfl (Nat.le_of_ble_eq_true rfl) dX0_ask_2 ⟨(Nat.le_of_ble_eq_true rfl), (Nat.le_of_ble_eq_true rfl)⟩) (fun r_3 u_1 H locs w_2 hP hD hS => ?_)
  have hP : va_P D CL [(aa, .inr (0, [.ref a1, .int 0, .int sl, .int 0, .int vv])), (a1, .inl (cI, 20, .inl fa))] H := hP
  have hD : va_D A [(aa, .inr (0, [.ref a1, .int 0, .int sl, .int 0, .int vv])), (a1, .inl (cI, 20, .inl fa))] := hD
  obtain rfl : r_3 = 2 := w_2
  refine lv_istore (lv' := [(5, .int 2), (0, .ref aa), (1, .int 0), (2, .int 1), (3, .int xx), (4, .int 0)]) hx hb dX0_ask_5 hl (by decide) rfl (fun ls hl => ?_)
  refine lv_iload hx hb dX0_ask_7 (lv_at hl 0 rfl) ?_
  refine lv_if_eq (tgt := 19) hx hb dX0_ask_9 (by decide) (fun c_0 => absurd c_0 (by decide)) (fun _ => ?_)
  refine lv_iload hx hb dX0_ask_12 (lv_at hl 5 rfl) ?_
  refine lv_bipush (v := 40) hx hb dX0_ask_14 (by decide) ?_
  refine lv_icmp_le (tgt := 21) hx hb dX0_ask_16 (by decide) (fun _ => ?_) (fun c_0 => absurd (by decide) c_0)
  refine lv_aload_n hx hb dX0_ask_21 rfl (lv_at hl 1 rfl) ?_
  refine lv_iload hx hb dX0_ask_22 (lv_at hl 0 rfl) ?_
  refine contV (wc := [(aa, .inr (0, [.ref a1, .int 0, .int sl, .int 0, .int vv])), (a1, .inl (cI, 20, .inl fa))]) (wr := []) C0 hP hD hS [0, 1] [] rfl rfl (by decide) (by decide) 0 0 (Nat.le_of_ble_eq_true rfl) (Nat.le_of_ble_eq_true rfl) (runV (k := 1) (As := [.int 2]) (rest := []) C0 (c_begin_0 l D cI cZ cQ cT _ aa 2 a1 sl 0 vv fa) wc_X0_begin wl_X0_52 wi_X0_begin we_X0_begin wz_X0 ⟨by decide, by decide, by decide +kernel⟩ ⟨(Nat.le_of_ble_eq_true rfl), (Nat.le_of_ble_eq_true rfl)⟩ hP hD hS EF.ok hX [0, 1] rfl (by decide) 0 rfl rfl rfl rfl hl.1 rfl (Nat.le_of_ble_eq_true rfl) dX0_ask_24 ⟨(Nat.le_of_ble_eq_true rfl), (Nat.le_of_ble_eq_true rfl)⟩) (fun u_4 H locs w_5 hP hD hS => ?_)
  have hP : va_P D CL [(aa, .inr (0, [.ref a1, .int 1, .int sl, .int 0, .int vv])), (a1, .inl (cI, 20, .inl (upd fa 0 (2 : Int32))))] H := hP
  have hD : va_D A [(aa, .inr (0, [.ref a1, .int 1, .int sl, .int 0, .int vv])), (a1, .inl (cI, 20, .inl (upd fa 0 (2 : Int32))))] := hD
  refine lv_iload hx hb dX0_ask_27 (lv_at hl 5 rfl) ?_
  refine lv_iconst (v := 1) hx hb dX0_ask_29 (by decide) ?_
  refine lv_iadd hx hb dX0_ask_30 ?_
  refine lv_ci 1 (by decide +kernel) ?_
  refine lv_istore (lv' := [(6, .int 1), (5, .int 2), (0, .ref aa), (1, .int 0), (2, .int 1), (3, .int xx), (4, .int 0)]) hx hb dX0_ask_31 hl (by decide) rfl (fun ls hl => ?_)
  refine lv_iload hx hb dX0_ask_33 (lv_at hl 1 rfl) ?_
  refine lv_lookup (off := 88) (tgt := 123) hx hb dX0_ask_35 (by decide) (by decide) (by decide) ?_
  refine lv_aload_n hx hb dX0_ask_123 rfl (lv_at hl 2 rfl) ?_
  refine lv_aload_n hx hb dX0_ask_124 rfl (lv_at hl 2 rfl) ?_
  refine va_get (ci := 0) (v := .int 0) (C := RX0) (T := TX0) (N := 5) hx hb hT wu_X0 hown hK hP 0 rfl rfl 3 (by decide) (hT _ wf_X0_31) (fun _ h9 => h9) rfl dX0_ask_125 ?_
  refine lv_iconst (v := 0) hx hb dX0_ask_128 (by decide) ?_
  refine lv_iload_n hx hb dX0_ask_129 rfl (lv_at hl 5 rfl) ?_
  refine lv_iload hx hb dX0_ask_130 (lv_at hl 0 rfl) ?_
  refine contI (wc := [(aa, .inr (0, [.ref a1, .int 1, .int sl, .int 0, .int vv])), (a1, .inl (cI, 20, .inl (upd fa 0 (2 : Int32))))]) (wr := []) C0 hP hD hS [0, 1] [] rfl rfl (by decide) (by decide) 0 0 (Nat.le_of_ble_eq_true rfl) (Nat.le_of_ble_eq_true rfl) (runV (k := 4) (As := [.int 0, .int 0, .int xx, .int 1]) (rest := []) C0 (c_ask_0_0_0_1_1 l D cI cZ cQ cT _ aa xx a1 sl vv (upd fa 0 (2 : Int32))) wc_X0_ask wl_X0_38 wi_X0_ask we_X0_ask wz_X0 ⟨by decide, by decide, by decide +kernel⟩ ⟨(Nat.le_of_ble_eq_true rfl), (Nat.le_of_ble_eq_true rfl)⟩ hP hD hS EF.ok hX [0, 1] rfl (by decide) 0 rfl rfl rfl rfl hl.1 rfl (Nat.le_of_ble_eq_true rfl) dX0_ask_132 ⟨(Nat.le_of_ble_eq_true rfl), (Nat.le_of_ble_eq_true rfl)⟩) (fun r_9 u_7 H locs w_8 hP hD hS => ?_)
  have hP : va_P D CL [(aa, .inr (0, [.ref a1, .int 2, .int sl, .int 0, .int vv])), (a1, .inl (cI, 20, .inl (upd (upd fa 0 (2 : Int32)) 1 1)))] H := hP
  have hD : va_D A [(aa, .inr (0, [.ref a1, .int 2, .int sl, .int 0, .int vv])), (a1, .inl (cI, 20, .inl (upd (upd fa 0 (2 : Int32)) 1 1)))] := hD
  obtain rfl : r_9 = (xx + sl) := w_8
  refine lv_aload_n hx hb dX0_ask_135 rfl (lv_at hl 2 rfl) ?_
  refine va_get (ci := 0) (v := .int vv) (C := RX0) (T := TX0) (N := 5) hx hb hT wu_X0 hown hK hP 0 rfl rfl 4 (by decide) (hT _ wf_X0_36) (fun _ h9 => h9) rfl dX0_ask_136 ?_
  refine lv_isub hx hb dX0_ask_139 ?_
  exact retI C0 rfl () rfl (hP.sub (ws' := [(aa, .inr (0, [.ref a1, .int 2, .int sl, .int 0, .int vv])), (a1, .inl (cI, 20, .inl (upd (upd fa 0 2) 1 1)))]) [0, 1] rfl) (hD.sub (ws' := [(aa, .inr (0, [.ref a1, .int 2, .int sl, .int 0, .int vv])), (a1, .inl (cI, 20, .inl (upd (upd fa 0 2) 1 1)))]) [0, 1] (by decide) rfl) hS (Nat.le_of_ble_eq_true rfl) (Nat.le_of_ble_eq_true rfl) dX0_ask_140

set_option maxHeartbeats 4000000 in
set_option maxRecDepth 100000 in
theorem c_bodyOf_1_1 (l : Launch) (D : va_G) (cI cZ cQ cT : ClassId) (sz : Nat)   : MetI l yX0_bodyOf cX0_bodyOf 5 .int ({ frames := 0, cells := 0, slots := 0, locals := 0 } : Room) [.int 1, .int 1] D (TYS cI cZ cQ cT) EF sz [] (S := Unit) (fun (r : Int32) (_ : Unit) => r = 2) (fun _ => []) := by
  refine MetI.mk (lv := [(0, .int 1), (1, .int 1)]) (by decide +kernel) (Nat.le_of_ble_eq_true rfl) rfl ?_
  intro p e s m below meth c A ls C0 hP hD hS hX hl
  have C1 := C0
  obtain ⟨hx, hb, hr, hml, hown, hlocks, hname, hT, hN, hK, hA⟩ := C1
  obtain ⟨kab, hkz, hkT⟩ := hX.2.1
  obtain ⟨bdy, hbz, hbT⟩ := hX.2.2.1
  refine lv_iload_n hx hb dX0_bodyOf_0 rfl (lv_at hl 0 rfl) ?_
  refine lv_istore_n (lv' := [(2, .int 1), (0, .int 1), (1, .int 1)]) hx hb dX0_bodyOf_1 rfl hl (by decide) rfl (fun ls hl => ?_)
  refine lv_iconst (v := 0) hx hb dX0_bodyOf_2 (by decide) ?_
  refine lv_istore_n (lv' := [(3, .int 0), (2, .int 1), (0, .int 1), (1, .int 1)]) hx hb dX0_bodyOf_3 rfl hl (by decide) rfl (fun ls hl => ?_)
  refine lv_iload_n hx hb dX0_bodyOf_4 rfl (lv_at hl 0 rfl) ?_
  refine lv_bipush (v := 7) hx hb dX0_bodyOf_5 (by decide) ?_
  refine lv_icmp_ge (tgt := 69) hx hb dX0_bodyOf_7 (by decide) (fun c_0 => absurd c_0 (by decide)) (fun _ => ?_)
  refine lv_iload_n hx hb dX0_bodyOf_10 rfl (lv_at hl 1 rfl) ?_
  refine lv_if_lt (tgt := 69) hx hb dX0_bodyOf_11 (by decide) (fun c_0 => absurd c_0 (by decide)) (fun _ => ?_)
  refine lv_iload_n hx hb dX0_bodyOf_14 rfl (lv_at hl 1 rfl) ?_
  refine lv_bipush (v := 7) hx hb dX0_bodyOf_15 (by decide) ?_
  refine lv_icmp_ge (tgt := 69) hx hb dX0_bodyOf_17 (by decide) (fun c_0 => absurd c_0 (by decide)) (fun _ => ?_)
  refine lv_iload_n hx hb dX0_bodyOf_20 rfl (lv_at hl 1 rfl) ?_
  refine lv_iconst (v := 3) hx hb dX0_bodyOf_21 (by decide) ?_
  refine lv_imul hx hb dX0_bodyOf_22 ?_
  refine lv_ci 3 (by decide +kernel) ?_
  refine lv_iload_n hx hb dX0_bodyOf_23 rfl (lv_at hl 3 rfl) ?_
  refine lv_iadd hx hb dX0_bodyOf_24 ?_
  refine lv_ci 4 (by decide +kernel) ?_
  refine lv_istore (lv' := [(4, .int 4), (3, .int 0), (2, .int 1), (0, .int 1), (1, .int 1)]) hx hb dX0_bodyOf_25 hl (by decide) rfl (fun ls hl => ?_)
  refine lv_iload hx hb dX0_bodyOf_27 (lv_at hl 0 rfl) ?_
  refine lv_if_lt (tgt := 57) hx hb dX0_bodyOf_29 (by decide) (fun c_0 => absurd c_0 (by decide)) (fun _ => ?_)
  refine lv_iload hx hb dX0_bodyOf_32 (lv_at hl 0 rfl) ?_
  refine va_gets hx hb hbz hS hown (hT _ wf_X0_42) (fun _ h9 => h9) dX0_bodyOf_34 ?_
  refine va_tlen hx hb hbT hS (v := 21) rfl dX0_bodyOf_37 ?_
  refine lv_icmp_ge (tgt := 57) hx hb dX0_bodyOf_38 (by decide) (fun c_0 => absurd c_0 (by decide)) (fun _ => ?_)
  refine va_gets hx hb hbz hS hown (hT _ wf_X0_42) (fun _ h9 => h9) dX0_bodyOf_41 ?_
  refine lv_iload hx hb dX0_bodyOf_44 (lv_at hl 0 rfl) ?_
  refine va_ti hx hb hbT hS (vin _ _ (by decide +kernel)) (v := .int 0) rfl dX0_bodyOf_46 ?_
  refine lv_if_eq (tgt := 57) hx hb dX0_bodyOf_47 (by decide) (fun _ => ?_) (fun c_0 => absurd (by decide) c_0)
  refine va_getsN hx hb hkz hS hown (va_Nw.use rfl (hN.get 750 kf_X0_45 rfl)) (fun _ h9 => h9) dX0_bodyOf_57 ?_
  refine lv_iload_n hx hb dX0_bodyOf_60 rfl (lv_at hl 2 rfl) ?_
  refine va_ti hx hb hkT hS (vin _ _ (by decide +kernel)) (v := .int 0) rfl dX0_bodyOf_61 ?_
  refine lv_istore_n (lv' := [(2, .int 0), (4, .int 4), (3, .int 0), (0, .int 1), (1, .int 1)]) hx hb dX0_bodyOf_62 rfl hl (by decide) rfl (fun ls hl => ?_)
  refine lv_iinc (v := 1) (lv' := [(3, .int 1), (2, .int 0), (4, .int 4), (0, .int 1), (1, .int 1)]) hx hb dX0_bodyOf_63 hl (k := 2) rfl (by decide) (by decide) rfl (fun ls hl => ?_)
  refine lv_goto (tgt := 4) hx hb dX0_bodyOf_66 (by decide) ?_
  refine lv_iload_n hx hb dX0_bodyOf_4 rfl (lv_at hl 0 rfl) ?_
  refine lv_bipush (v := 7) hx hb dX0_bodyOf_5 (by decide) ?_
  refine lv_icmp_ge (tgt := 69) hx hb dX0_bodyOf_7 (by decide) (fun c_0 => absurd c_0 (by decide)) (fun _ => ?_)
  refine lv_iload_n hx hb dX0_bodyOf_10 rfl (lv_at hl 1 rfl) ?_
  refine lv_if_lt (tgt := 69) hx hb dX0_bodyOf_11 (by decide) (fun c_0 => absurd c_0 (by decide)) (fun _ => ?_)
  refine lv_iload_n hx hb dX0_bodyOf_14 rfl (lv_at hl 1 rfl) ?_
  refine lv_bipush (v := 7) hx hb dX0_bodyOf_15 (by decide) ?_
  refine lv_icmp_ge (tgt := 69) hx hb dX0_bodyOf_17 (by decide) (fun c_0 => absurd c_0 (by decide)) (fun _ => ?_)
  refine lv_iload_n hx hb dX0_bodyOf_20 rfl (lv_at hl 1 rfl) ?_
  refine lv_iconst (v := 3) hx hb dX0_bodyOf_21 (by decide) ?_
  refine lv_imul hx hb dX0_bodyOf_22 ?_
  refine lv_ci 0 (by decide +kernel) ?_
  refine lv_iload_n hx hb dX0_bodyOf_23 rfl (lv_at hl 4 rfl) ?_
  refine lv_iadd hx hb dX0_bodyOf_24 ?_
  refine lv_ci 1 (by decide +kernel) ?_
  refine lv_istore (lv' := [(4, .int 1), (3, .int 1), (2, .int 0), (0, .int 1), (1, .int 1)]) hx hb dX0_bodyOf_25 hl (by decide) rfl (fun ls hl => ?_)
  refine lv_iload hx hb dX0_bodyOf_27 (lv_at hl 0 rfl) ?_
  refine lv_if_lt (tgt := 57) hx hb dX0_bodyOf_29 (by decide) (fun c_0 => absurd c_0 (by decide)) (fun _ => ?_)
  refine lv_iload hx hb dX0_bodyOf_32 (lv_at hl 0 rfl) ?_
  refine va_gets hx hb hbz hS hown (hT _ wf_X0_42) (fun _ h9 => h9) dX0_bodyOf_34 ?_
  refine va_tlen hx hb hbT hS (v := 21) rfl dX0_bodyOf_37 ?_
  refine lv_icmp_ge (tgt := 57) hx hb dX0_bodyOf_38 (by decide) (fun c_0 => absurd c_0 (by decide)) (fun _ => ?_)
  refine va_gets hx hb hbz hS hown (hT _ wf_X0_42) (fun _ h9 => h9) dX0_bodyOf_41 ?_
  refine lv_iload hx hb dX0_bodyOf_44 (lv_at hl 0 rfl) ?_
  refine va_ti hx hb hbT hS (vin _ _ (by decide +kernel)) (v := .int 2) rfl dX0_bodyOf_46 ?_
  refine lv_if_eq (tgt := 57) hx hb dX0_bodyOf_47 (by decide) (fun c_0 => absurd c_0 (by decide)) (fun _ => ?_)
  refine va_gets hx hb hbz hS hown (hT _ wf_X0_42) (fun _ h9 => h9) dX0_bodyOf_50 ?_
  refine lv_iload hx hb dX0_bodyOf_53 (lv_at hl 0 rfl) ?_
  refine va_ti hx hb hbT hS (vin _ _ (by decide +kernel)) (v := .int 2) rfl dX0_bodyOf_55 ?_
  exact retI C0 rfl () rfl (hP.sub (ws' := []) [] rfl) (hD.sub (ws' := []) [] (by decide) rfl) hS (Nat.le_of_ble_eq_true rfl) (Nat.le_of_ble_eq_true rfl) dX0_bodyOf_56

set_option maxHeartbeats 4000000 in
set_option maxRecDepth 100000 in
theorem c_begin_2 (l : Launch) (D : va_G) (cI cZ cQ cT : ClassId) (sz : Nat) (aa : Nat) (bd : Int32) (a1 : Nat) (sl : Int32) (kd : Int32) (vv : Int32) (fa : Nat → Int32)  : MetV l yX0_begin cX0_begin 2 ({ frames := 0, cells := 0, slots := 0, locals := 0 } : Room) [.ref aa, .int bd] D (TYS cI cZ cQ cT) EF sz [(aa, .inr (0, [.ref a1, .int 2, .int sl, .int kd, .int vv])), (a1, .inl (cI, 20, .inl fa))] (S := Unit) (fun (_ : Unit) => True) (fun _ => [(aa, .inr (0, [.ref a1, .int 3, .int sl, .int kd, .int vv])), (a1, .inl (cI, 20, .inl (upd fa 2 bd)))]) := by
  refine MetV.mk (lv := [(0, .ref aa), (1, .int bd)]) (by decide +kernel) (Nat.le_of_ble_eq_true rfl) rfl ?_
  intro p e s m below meth c A ls C0 hP hD hS hX hl
  have C1 := C0
  obtain ⟨hx, hb, hr, hml, hown, hlocks, hname, hT, hN, hK, hA⟩ := C1
  refine lv_aload_n hx hb dX0_begin_0 rfl (lv_at hl 0 rfl) ?_
  refine va_get (ci := 0) (v := .int 2) (C := RX0) (T := TX0) (N := 5) hx hb hT wu_X0 hown hK hP 0 rfl rfl 1 (by decide) (hT _ wf_X0_15) (fun _ h9 => h9) rfl dX0_begin_1 ?_
  refine lv_if_lt (tgt := 26) hx hb dX0_begin_4 (by decide) (fun c_0 => absurd c_0 (by decide)) (fun _ => ?_)
  refine lv_aload_n hx hb dX0_begin_7 rfl (lv_at hl 0 rfl) ?_
  refine va_get (ci := 0) (v := .int 2) (C := RX0) (T := TX0) (N := 5) hx hb hT wu_X0 hown hK hP 0 rfl rfl 1 (by decide) (hT _ wf_X0_15) (fun _ h9 => h9) rfl dX0_begin_8 ?_
  refine lv_bipush (v := 20) hx hb dX0_begin_11 (by decide) ?_
  refine lv_icmp_ge (tgt := 26) hx hb dX0_begin_13 (by decide) (fun c_0 => absurd c_0 (by decide)) (fun _ => ?_)
  refine lv_aload_n hx hb dX0_begin_16 rfl (lv_at hl 0 rfl) ?_
  refine va_get (ci := 0) (v := .ref a1) (C := RX0) (T := TX0) (N := 5) hx hb hT wu_X0 hown hK hP 0 rfl rfl 0 (by decide) (hT _ wf_X0_11) (fun _ h9 => h9) rfl dX0_begin_17 ?_
  refine lv_aload_n hx hb dX0_begin_20 rfl (lv_at hl 0 rfl) ?_
  refine va_get (ci := 0) (v := .int 2) (C := RX0) (T := TX0) (N := 5) hx hb hT wu_X0 hown hK hP 0 rfl rfl 1 (by decide) (hT _ wf_X0_15) (fun _ h9 => h9) rfl dX0_begin_21 ?_
  refine lv_iload_n hx hb dX0_begin_24 rfl (lv_at hl 1 rfl) ?_
  refine va_iast hx hb hK hP hD hS 1 0 rfl rfl (vin _ _ (by decide +kernel)) dX0_begin_25 (fun H locs hP hD hS => ?_)
  have hP : va_P D CL [(aa, .inr (0, [.ref a1, .int 2, .int sl, .int kd, .int vv])), (a1, .inl (cI, 20, .inl (upd fa ((2 : Int32)).toNatClampNeg bd)))] H := hP
  have hD : va_D A [(aa, .inr (0, [.ref a1, .int 2, .int sl, .int kd, .int vv])), (a1, .inl (cI, 20, .inl (upd fa ((2 : Int32)).toNatClampNeg bd)))] := hD
  rw [show ((2 : Int32)).toNatClampNeg = 2 from nI_clamp (n := 2) (by decide)] at hP hD
  have hP : va_P D CL [(aa, .inr (0, [.ref a1, .int 2, .int sl, .int kd, .int vv])), (a1, .inl (cI, 20, .inl (upd fa 2 bd)))] H := hP
  have hD : va_D A [(aa, .inr (0, [.ref a1, .int 2, .int sl, .int kd, .int vv])), (a1, .inl (cI, 20, .inl (upd fa 2 bd)))] := hD
  refine lv_aload_n hx hb dX0_begin_26 rfl (lv_at hl 0 rfl) ?_
  refine lv_dup hx hb dX0_begin_27 rfl ?_
  refine va_get (ci := 0) (v := .int 2) (C := RX0) (T := TX0) (N := 5) hx hb hT wu_X0 hown hK hP 0 rfl rfl 1 (by decide) (hT _ wf_X0_15) (fun _ h9 => h9) rfl dX0_begin_28 ?_
  refine lv_iconst (v := 1) hx hb dX0_begin_31 (by decide) ?_
  refine lv_iadd hx hb dX0_begin_32 ?_
  refine lv_ci 3 (by decide +kernel) ?_
  refine va_put (ci := 0) (v := .int 3) (ty := .int) (C := RX0) (T := TX0) (N := 5) hx hb hT wu_X0 tyX0 tyX0_ok nmX0 hown hK hP hD hS 0 rfl rfl 1 (by decide) (hT _ wf_X0_15) (fun _ h9 => h9) rfl (by decide +kernel) rfl rfl (Nat.le_of_ble_eq_true rfl) dX0_begin_33 (fun H locs hP hD hS => ?_)
  have hP : va_P D CL [(aa, .inr (0, [.ref a1, .int 3, .int sl, .int kd, .int vv])), (a1, .inl (cI, 20, .inl (upd fa 2 bd)))] H := hP
  have hD : va_D A [(aa, .inr (0, [.ref a1, .int 3, .int sl, .int kd, .int vv])), (a1, .inl (cI, 20, .inl (upd fa 2 bd)))] := hD
  exact retV C0 () trivial (hP.sub (ws' := [(aa, .inr (0, [.ref a1, .int 3, .int sl, .int kd, .int vv])), (a1, .inl (cI, 20, .inl (upd fa 2 bd)))]) [0, 1] rfl) (hD.sub (ws' := [(aa, .inr (0, [.ref a1, .int 3, .int sl, .int kd, .int vv])), (a1, .inl (cI, 20, .inl (upd fa 2 bd)))]) [0, 1] (by decide) rfl) hS (Nat.le_of_ble_eq_true rfl) (Nat.le_of_ble_eq_true rfl) dX0_begin_36

set_option maxHeartbeats 4000000 in
set_option maxRecDepth 100000 in
theorem c_ask_1_0_0_2_2 (l : Launch) (D : va_G) (cI cZ cQ cT : ClassId) (sz : Nat) (aa : Nat) (xx : Int32) (a1 : Nat) (sl : Int32) (vv : Int32) (fa : Nat → Int32)  : MetI l yX0_ask cX0_ask 7 .int ({ frames := 1, cells := 0, slots := 0, locals := 24 } : Room) [.ref aa, .int 0, .int 0, .int xx, .int 2] D (TYS cI cZ cQ cT) EF sz [(aa, .inr (0, [.ref a1, .int 2, .int sl, .int 1, .int vv])), (a1, .inl (cI, 20, .inl fa))] (S := Unit) (fun (r : Int32) (_ : Unit) => r = (xx + sl)) (fun _ => [(aa, .inr (0, [.ref a1, .int 3, .int sl, .int 1, .int vv])), (a1, .inl (cI, 20, .inl (upd fa 2 1)))]) := by
  refine MetI.mk (lv := [(0, .ref aa), (1, .int 0), (2, .int 0), (3, .int xx), (4, .int 2)]) (by decide +kernel) (Nat.le_of_ble_eq_true rfl) rfl ?_
  intro p e s m below meth c A ls C0 hP hD hS hX hl
  have C1 := C0
  obtain ⟨hx, hb, hr, hml, hown, hlocks, hname, hT, hN, hK, hA⟩ := C1
  refine lv_iload_n hx hb dX0_ask_0 rfl (lv_at hl 1 rfl) ?_
  refine lv_iload_n hx hb dX0_ask_1 rfl (lv_at hl 2 rfl) ?_
  refine contI (wc := []) (wr := [(aa, .inr (0, [.ref a1, .int 2, .int sl, .int 1, .int vv])), (a1, .inl (cI, 20, .inl fa))]) C0 hP hD hS [] [0, 1] rfl rfl (by decide) (by decide) 0 0 (Nat.le_of_ble_eq_true rfl) (Nat.le_of_ble_eq_true rfl) (runS (k := 2) (As := [.int 0, .int 0]) (rest := []) C0 (c_bodyOf_0_0 l D cI cZ cQ cT _ ) wc_X0_bodyOf wl_X0_48 wt_X0_bodyOf wz_X0 ⟨by decide, by decide, by decide +kernel⟩ ⟨(Nat.le_of_ble_eq_true rfl), (Nat.le_of_ble_eq_true rfl)⟩ hP hD hS EF.ok hX [] rfl (by decide) rfl hl.1 rfl (Nat.le_of_ble_eq_true rfl) dX0_ask_2 ⟨(Nat.le_of_ble_eq_true rfl), (Nat.le_of_ble_eq_true rfl)⟩) (fun r_3 u_1 H locs w_2 hP hD hS => ?_)
  have hP : va_P D CL [(aa, .inr (0, [.ref a1, .int 2, .int sl, .int 1, .int vv])), (a1, .inl (cI, 20, .inl fa))] H := hP
  have hD : va_D A [(aa, .inr (0, [.ref a1, .int 2, .int sl, .int 1, .int vv])), (a1, .inl (cI, 20, .inl fa))] := hD
  obtain rfl : r_3 = 1 := w_2
  refine lv_istore (lv' := [(5, .int 1), (0, .ref aa), (1, .int 0), (2, .int 0), (3, .int xx), (4, .int 2)]) hx hb dX0_ask_5 hl (by decide) rfl (fun ls hl => ?_)
  refine lv_iload hx hb dX0_ask_7 (lv_at hl 0 rfl) ?_
  refine lv_if_eq (tgt := 19) hx hb dX0_ask_9 (by decide) (fun c_0 => absurd c_0 (by decide)) (fun _ => ?_)
  refine lv_iload hx hb dX0_ask_12 (lv_at hl 5 rfl) ?_
  refine lv_bipush (v := 40) hx hb dX0_ask_14 (by decide) ?_
  refine lv_icmp_le (tgt := 21) hx hb dX0_ask_16 (by decide) (fun _ => ?_) (fun c_0 => absurd (by decide) c_0)
  refine lv_aload_n hx hb dX0_ask_21 rfl (lv_at hl 1 rfl) ?_
  refine lv_iload hx hb dX0_ask_22 (lv_at hl 0 rfl) ?_
  refine contV (wc := [(aa, .inr (0, [.ref a1, .int 2, .int sl, .int 1, .int vv])), (a1, .inl (cI, 20, .inl fa))]) (wr := []) C0 hP hD hS [0, 1] [] rfl rfl (by decide) (by decide) 0 0 (Nat.le_of_ble_eq_true rfl) (Nat.le_of_ble_eq_true rfl) (runV (k := 1) (As := [.int 1]) (rest := []) C0 (c_begin_2 l D cI cZ cQ cT _ aa 1 a1 sl 1 vv fa) wc_X0_begin wl_X0_52 wi_X0_begin we_X0_begin wz_X0 ⟨by decide, by decide, by decide +kernel⟩ ⟨(Nat.le_of_ble_eq_true rfl), (Nat.le_of_ble_eq_true rfl)⟩ hP hD hS EF.ok hX [0, 1] rfl (by decide) 0 rfl rfl rfl rfl hl.1 rfl (Nat.le_of_ble_eq_true rfl) dX0_ask_24 ⟨(Nat.le_of_ble_eq_true rfl), (Nat.le_of_ble_eq_true rfl)⟩) (fun u_4 H locs w_5 hP hD hS => ?_)
  have hP : va_P D CL [(aa, .inr (0, [.ref a1, .int 3, .int sl, .int 1, .int vv])), (a1, .inl (cI, 20, .inl (upd fa 2 (1 : Int32))))] H := hP
  have hD : va_D A [(aa, .inr (0, [.ref a1, .int 3, .int sl, .int 1, .int vv])), (a1, .inl (cI, 20, .inl (upd fa 2 (1 : Int32))))] := hD
  refine lv_iload hx hb dX0_ask_27 (lv_at hl 5 rfl) ?_
  refine lv_iconst (v := 1) hx hb dX0_ask_29 (by decide) ?_
  refine lv_iadd hx hb dX0_ask_30 ?_
  refine lv_ci 3 (by decide +kernel) ?_
  refine lv_istore (lv' := [(6, .int 3), (5, .int 1), (0, .ref aa), (1, .int 0), (2, .int 0), (3, .int xx), (4, .int 2)]) hx hb dX0_ask_31 hl (by decide) rfl (fun ls hl => ?_)
  refine lv_iload hx hb dX0_ask_33 (lv_at hl 1 rfl) ?_
  refine lv_lookup (off := 81) (tgt := 116) hx hb dX0_ask_35 (by decide) (by decide) (by decide) ?_
  refine lv_iload_n hx hb dX0_ask_116 rfl (lv_at hl 5 rfl) ?_
  refine lv_aload_n hx hb dX0_ask_117 rfl (lv_at hl 2 rfl) ?_
  refine va_get (ci := 0) (v := .int sl) (C := RX0) (T := TX0) (N := 5) hx hb hT wu_X0 hown hK hP 0 rfl rfl 2 (by decide) (hT _ wf_X0_25) (fun _ h9 => h9) rfl dX0_ask_118 ?_
  refine lv_iadd hx hb dX0_ask_121 ?_
  exact retI C0 rfl () rfl (hP.sub (ws' := [(aa, .inr (0, [.ref a1, .int 3, .int sl, .int 1, .int vv])), (a1, .inl (cI, 20, .inl (upd fa 2 1)))]) [0, 1] rfl) (hD.sub (ws' := [(aa, .inr (0, [.ref a1, .int 3, .int sl, .int 1, .int vv])), (a1, .inl (cI, 20, .inl (upd fa 2 1)))]) [0, 1] (by decide) rfl) hS (Nat.le_of_ble_eq_true rfl) (Nat.le_of_ble_eq_true rfl) dX0_ask_122

set_option maxHeartbeats 4000000 in
set_option maxRecDepth 100000 in
theorem c_ask_1_1_0_1_1 (l : Launch) (D : va_G) (cI cZ cQ cT : ClassId) (sz : Nat) (aa : Nat) (xx : Int32) (a1 : Nat) (sl : Int32) (vv : Int32) (fa : Nat → Int32)  : MetI l yX0_ask cX0_ask 7 .int ({ frames := 2, cells := 0, slots := 0, locals := 50 } : Room) [.ref aa, .int 1, .int 0, .int xx, .int 1] D (TYS cI cZ cQ cT) EF sz [(aa, .inr (0, [.ref a1, .int 1, .int sl, .int 1, .int vv])), (a1, .inl (cI, 20, .inl fa))] (S := Unit) (fun (r : Int32) (_ : Unit) => r = ((xx * (3 : Int32)) + sl)) (fun _ => [(aa, .inr (0, [.ref a1, .int 3, .int sl, .int 1, .int vv])), (a1, .inl (cI, 20, .inl (upd (upd fa 1 11) 2 1)))]) := by
  refine MetI.mk (lv := [(0, .ref aa), (1, .int 1), (2, .int 0), (3, .int xx), (4, .int 1)]) (by decide +kernel) (Nat.le_of_ble_eq_true rfl) rfl ?_
  intro p e s m below meth c A ls C0 hP hD hS hX hl
  have C1 := C0
  obtain ⟨hx, hb, hr, hml, hown, hlocks, hname, hT, hN, hK, hA⟩ := C1
  refine lv_iload_n hx hb dX0_ask_0 rfl (lv_at hl 1 rfl) ?_
  refine lv_iload_n hx hb dX0_ask_1 rfl (lv_at hl 2 rfl) ?_
  refine contI (wc := []) (wr := [(aa, .inr (0, [.ref a1, .int 1, .int sl, .int 1, .int vv])), (a1, .inl (cI, 20, .inl fa))]) C0 hP hD hS [] [0, 1] rfl rfl (by decide) (by decide) 0 0 (Nat.le_of_ble_eq_true rfl) (Nat.le_of_ble_eq_true rfl) (runS (k := 2) (As := [.int 1, .int 0]) (rest := []) C0 (c_bodyOf_1_0 l D cI cZ cQ cT _ ) wc_X0_bodyOf wl_X0_48 wt_X0_bodyOf wz_X0 ⟨by decide, by decide, by decide +kernel⟩ ⟨(Nat.le_of_ble_eq_true rfl), (Nat.le_of_ble_eq_true rfl)⟩ hP hD hS EF.ok hX [] rfl (by decide) rfl hl.1 rfl (Nat.le_of_ble_eq_true rfl) dX0_ask_2 ⟨(Nat.le_of_ble_eq_true rfl), (Nat.le_of_ble_eq_true rfl)⟩) (fun r_3 u_1 H locs w_2 hP hD hS => ?_)
  have hP : va_P D CL [(aa, .inr (0, [.ref a1, .int 1, .int sl, .int 1, .int vv])), (a1, .inl (cI, 20, .inl fa))] H := hP
  have hD : va_D A [(aa, .inr (0, [.ref a1, .int 1, .int sl, .int 1, .int vv])), (a1, .inl (cI, 20, .inl fa))] := hD
  obtain rfl : r_3 = 11 := w_2
  refine lv_istore (lv' := [(5, .int 11), (0, .ref aa), (1, .int 1), (2, .int 0), (3, .int xx), (4, .int 1)]) hx hb dX0_ask_5 hl (by decide) rfl (fun ls hl => ?_)
  refine lv_iload hx hb dX0_ask_7 (lv_at hl 0 rfl) ?_
  refine lv_if_eq (tgt := 19) hx hb dX0_ask_9 (by decide) (fun c_0 => absurd c_0 (by decide)) (fun _ => ?_)
  refine lv_iload hx hb dX0_ask_12 (lv_at hl 5 rfl) ?_
  refine lv_bipush (v := 40) hx hb dX0_ask_14 (by decide) ?_
  refine lv_icmp_le (tgt := 21) hx hb dX0_ask_16 (by decide) (fun _ => ?_) (fun c_0 => absurd (by decide) c_0)
  refine lv_aload_n hx hb dX0_ask_21 rfl (lv_at hl 1 rfl) ?_
  refine lv_iload hx hb dX0_ask_22 (lv_at hl 0 rfl) ?_
  refine contV (wc := [(aa, .inr (0, [.ref a1, .int 1, .int sl, .int 1, .int vv])), (a1, .inl (cI, 20, .inl fa))]) (wr := []) C0 hP hD hS [0, 1] [] rfl rfl (by decide) (by decide) 0 0 (Nat.le_of_ble_eq_true rfl) (Nat.le_of_ble_eq_true rfl) (runV (k := 1) (As := [.int 11]) (rest := []) C0 (c_begin_1 l D cI cZ cQ cT _ aa 11 a1 sl 1 vv fa) wc_X0_begin wl_X0_52 wi_X0_begin we_X0_begin wz_X0 ⟨by decide, by decide, by decide +kernel⟩ ⟨(Nat.le_of_ble_eq_true rfl), (Nat.le_of_ble_eq_true rfl)⟩ hP hD hS EF.ok hX [0, 1] rfl (by decide) 0 rfl rfl rfl rfl hl.1 rfl (Nat.le_of_ble_eq_true rfl) dX0_ask_24 ⟨(Nat.le_of_ble_eq_true rfl), (Nat.le_of_ble_eq_true rfl)⟩) (fun u_4 H locs w_5 hP hD hS => ?_)
  have hP : va_P D CL [(aa, .inr (0, [.ref a1, .int 2, .int sl, .int 1, .int vv])), (a1, .inl (cI, 20, .inl (upd fa 1 (11 : Int32))))] H := hP
  have hD : va_D A [(aa, .inr (0, [.ref a1, .int 2, .int sl, .int 1, .int vv])), (a1, .inl (cI, 20, .inl (upd fa 1 (11 : Int32))))] := hD
  refine lv_iload hx hb dX0_ask_27 (lv_at hl 5 rfl) ?_
  refine lv_iconst (v := 1) hx hb dX0_ask_29 (by decide) ?_
  refine lv_iadd hx hb dX0_ask_30 ?_
  refine lv_ci 2 (by decide +kernel) ?_
  refine lv_istore (lv' := [(6, .int 2), (5, .int 11), (0, .ref aa), (1, .int 1), (2, .int 0), (3, .int xx), (4, .int 1)]) hx hb dX0_ask_31 hl (by decide) rfl (fun ls hl => ?_)
  refine lv_iload hx hb dX0_ask_33 (lv_at hl 1 rfl) ?_
  refine lv_lookup (off := 121) (tgt := 156) hx hb dX0_ask_35 (by decide) (by decide) (by decide) ?_
  refine lv_aload_n hx hb dX0_ask_156 rfl (lv_at hl 2 rfl) ?_
  refine lv_iconst (v := 0) hx hb dX0_ask_157 (by decide) ?_
  refine lv_iconst (v := 0) hx hb dX0_ask_158 (by decide) ?_
  refine lv_iload_n hx hb dX0_ask_159 rfl (lv_at hl 5 rfl) ?_
  refine lv_iconst (v := 3) hx hb dX0_ask_160 (by decide) ?_
  refine lv_imul hx hb dX0_ask_161 ?_
  refine lv_iload hx hb dX0_ask_162 (lv_at hl 0 rfl) ?_
  refine contI (wc := [(aa, .inr (0, [.ref a1, .int 2, .int sl, .int 1, .int vv])), (a1, .inl (cI, 20, .inl (upd fa 1 (11 : Int32))))]) (wr := []) C0 hP hD hS [0, 1] [] rfl rfl (by decide) (by decide) 0 0 (Nat.le_of_ble_eq_true rfl) (Nat.le_of_ble_eq_true rfl) (runV (k := 4) (As := [.int 0, .int 0, .int (xx * (3 : Int32)), .int 2]) (rest := []) C0 (c_ask_1_0_0_2_2 l D cI cZ cQ cT _ aa (xx * (3 : Int32)) a1 sl vv (upd fa 1 (11 : Int32))) wc_X0_ask wl_X0_38 wi_X0_ask we_X0_ask wz_X0 ⟨by decide, by decide, by decide +kernel⟩ ⟨(Nat.le_of_ble_eq_true rfl), (Nat.le_of_ble_eq_true rfl)⟩ hP hD hS EF.ok hX [0, 1] rfl (by decide) 0 rfl rfl rfl rfl hl.1 rfl (Nat.le_of_ble_eq_true rfl) dX0_ask_164 ⟨(Nat.le_of_ble_eq_true rfl), (Nat.le_of_ble_eq_true rfl)⟩) (fun r_9 u_7 H locs w_8 hP hD hS => ?_)
  have hP : va_P D CL [(aa, .inr (0, [.ref a1, .int 3, .int sl, .int 1, .int vv])), (a1, .inl (cI, 20, .inl (upd (upd fa 1 (11 : Int32)) 2 1)))] H := hP
  have hD : va_D A [(aa, .inr (0, [.ref a1, .int 3, .int sl, .int 1, .int vv])), (a1, .inl (cI, 20, .inl (upd (upd fa 1 (11 : Int32)) 2 1)))] := hD
  obtain rfl : r_9 = ((xx * (3 : Int32)) + sl) := w_8
  exact retI C0 rfl () rfl (hP.sub (ws' := [(aa, .inr (0, [.ref a1, .int 3, .int sl, .int 1, .int vv])), (a1, .inl (cI, 20, .inl (upd (upd fa 1 11) 2 1)))]) [0, 1] rfl) (hD.sub (ws' := [(aa, .inr (0, [.ref a1, .int 3, .int sl, .int 1, .int vv])), (a1, .inl (cI, 20, .inl (upd (upd fa 1 11) 2 1)))]) [0, 1] (by decide) rfl) hS (Nat.le_of_ble_eq_true rfl) (Nat.le_of_ble_eq_true rfl) dX0_ask_167

set_option maxHeartbeats 4000000 in
set_option maxRecDepth 100000 in
theorem c_ask_1_1_1_0_0 (l : Launch) (D : va_G) (cI cZ cQ cT : ClassId) (sz : Nat) (aa : Nat) (xx : Int32) (a1 : Nat) (sl : Int32) (vv : Int32) (fa : Nat → Int32)  : MetI l yX0_ask cX0_ask 7 .int ({ frames := 3, cells := 0, slots := 0, locals := 76 } : Room) [.ref aa, .int 1, .int 1, .int xx, .int 0] D (TYS cI cZ cQ cT) EF sz [(aa, .inr (0, [.ref a1, .int 0, .int sl, .int 1, .int vv])), (a1, .inl (cI, 20, .inl fa))] (S := Unit) (fun (r : Int32) (_ : Unit) => r = (((xx * (3 : Int32)) + sl) - vv)) (fun _ => [(aa, .inr (0, [.ref a1, .int 3, .int sl, .int 1, .int vv])), (a1, .inl (cI, 20, .inl (upd (upd (upd fa 0 2) 1 11) 2 1)))]) := by
  refine MetI.mk (lv := [(0, .ref aa), (1, .int 1), (2, .int 1), (3, .int xx), (4, .int 0)]) (by decide +kernel) (Nat.le_of_ble_eq_true rfl) rfl ?_
  intro p e s m below meth c A ls C0 hP hD hS hX hl
  have C1 := C0
  obtain ⟨hx, hb, hr, hml, hown, hlocks, hname, hT, hN, hK, hA⟩ := C1
  refine lv_iload_n hx hb dX0_ask_0 rfl (lv_at hl 1 rfl) ?_
  refine lv_iload_n hx hb dX0_ask_1 rfl (lv_at hl 2 rfl) ?_
  refine contI (wc := []) (wr := [(aa, .inr (0, [.ref a1, .int 0, .int sl, .int 1, .int vv])), (a1, .inl (cI, 20, .inl fa))]) C0 hP hD hS [] [0, 1] rfl rfl (by decide) (by decide) 0 0 (Nat.le_of_ble_eq_true rfl) (Nat.le_of_ble_eq_true rfl) (runS (k := 2) (As := [.int 1, .int 1]) (rest := []) C0 (c_bodyOf_1_1 l D cI cZ cQ cT _ ) wc_X0_bodyOf wl_X0_48 wt_X0_bodyOf wz_X0 ⟨by decide, by decide, by decide +kernel⟩ ⟨(Nat.le_of_ble_eq_true rfl), (Nat.le_of_ble_eq_true rfl)⟩ hP hD hS EF.ok hX [] rfl (by decide) rfl hl.1 rfl (Nat.le_of_ble_eq_true rfl) dX0_ask_2 ⟨(Nat.le_of_ble_eq_true rfl), (Nat.le_of_ble_eq_true rfl)⟩) (fun r_3 u_1 H locs w_2 hP hD hS => ?_)
  have hP : va_P D CL [(aa, .inr (0, [.ref a1, .int 0, .int sl, .int 1, .int vv])), (a1, .inl (cI, 20, .inl fa))] H := hP
  have hD : va_D A [(aa, .inr (0, [.ref a1, .int 0, .int sl, .int 1, .int vv])), (a1, .inl (cI, 20, .inl fa))] := hD
  obtain rfl : r_3 = 2 := w_2
  refine lv_istore (lv' := [(5, .int 2), (0, .ref aa), (1, .int 1), (2, .int 1), (3, .int xx), (4, .int 0)]) hx hb dX0_ask_5 hl (by decide) rfl (fun ls hl => ?_)
  refine lv_iload hx hb dX0_ask_7 (lv_at hl 0 rfl) ?_
  refine lv_if_eq (tgt := 19) hx hb dX0_ask_9 (by decide) (fun c_0 => absurd c_0 (by decide)) (fun _ => ?_)
  refine lv_iload hx hb dX0_ask_12 (lv_at hl 5 rfl) ?_
  refine lv_bipush (v := 40) hx hb dX0_ask_14 (by decide) ?_
  refine lv_icmp_le (tgt := 21) hx hb dX0_ask_16 (by decide) (fun _ => ?_) (fun c_0 => absurd (by decide) c_0)
  refine lv_aload_n hx hb dX0_ask_21 rfl (lv_at hl 1 rfl) ?_
  refine lv_iload hx hb dX0_ask_22 (lv_at hl 0 rfl) ?_
  refine contV (wc := [(aa, .inr (0, [.ref a1, .int 0, .int sl, .int 1, .int vv])), (a1, .inl (cI, 20, .inl fa))]) (wr := []) C0 hP hD hS [0, 1] [] rfl rfl (by decide) (by decide) 0 0 (Nat.le_of_ble_eq_true rfl) (Nat.le_of_ble_eq_true rfl) (runV (k := 1) (As := [.int 2]) (rest := []) C0 (c_begin_0 l D cI cZ cQ cT _ aa 2 a1 sl 1 vv fa) wc_X0_begin wl_X0_52 wi_X0_begin we_X0_begin wz_X0 ⟨by decide, by decide, by decide +kernel⟩ ⟨(Nat.le_of_ble_eq_true rfl), (Nat.le_of_ble_eq_true rfl)⟩ hP hD hS EF.ok hX [0, 1] rfl (by decide) 0 rfl rfl rfl rfl hl.1 rfl (Nat.le_of_ble_eq_true rfl) dX0_ask_24 ⟨(Nat.le_of_ble_eq_true rfl), (Nat.le_of_ble_eq_true rfl)⟩) (fun u_4 H locs w_5 hP hD hS => ?_)
  have hP : va_P D CL [(aa, .inr (0, [.ref a1, .int 1, .int sl, .int 1, .int vv])), (a1, .inl (cI, 20, .inl (upd fa 0 (2 : Int32))))] H := hP
  have hD : va_D A [(aa, .inr (0, [.ref a1, .int 1, .int sl, .int 1, .int vv])), (a1, .inl (cI, 20, .inl (upd fa 0 (2 : Int32))))] := hD
  refine lv_iload hx hb dX0_ask_27 (lv_at hl 5 rfl) ?_
  refine lv_iconst (v := 1) hx hb dX0_ask_29 (by decide) ?_
  refine lv_iadd hx hb dX0_ask_30 ?_
  refine lv_ci 1 (by decide +kernel) ?_
  refine lv_istore (lv' := [(6, .int 1), (5, .int 2), (0, .ref aa), (1, .int 1), (2, .int 1), (3, .int xx), (4, .int 0)]) hx hb dX0_ask_31 hl (by decide) rfl (fun ls hl => ?_)
  refine lv_iload hx hb dX0_ask_33 (lv_at hl 1 rfl) ?_
  refine lv_lookup (off := 88) (tgt := 123) hx hb dX0_ask_35 (by decide) (by decide) (by decide) ?_
  refine lv_aload_n hx hb dX0_ask_123 rfl (lv_at hl 2 rfl) ?_
  refine lv_aload_n hx hb dX0_ask_124 rfl (lv_at hl 2 rfl) ?_
  refine va_get (ci := 0) (v := .int 1) (C := RX0) (T := TX0) (N := 5) hx hb hT wu_X0 hown hK hP 0 rfl rfl 3 (by decide) (hT _ wf_X0_31) (fun _ h9 => h9) rfl dX0_ask_125 ?_
  refine lv_iconst (v := 0) hx hb dX0_ask_128 (by decide) ?_
  refine lv_iload_n hx hb dX0_ask_129 rfl (lv_at hl 5 rfl) ?_
  refine lv_iload hx hb dX0_ask_130 (lv_at hl 0 rfl) ?_
  refine contI (wc := [(aa, .inr (0, [.ref a1, .int 1, .int sl, .int 1, .int vv])), (a1, .inl (cI, 20, .inl (upd fa 0 (2 : Int32))))]) (wr := []) C0 hP hD hS [0, 1] [] rfl rfl (by decide) (by decide) 0 0 (Nat.le_of_ble_eq_true rfl) (Nat.le_of_ble_eq_true rfl) (runV (k := 4) (As := [.int 1, .int 0, .int xx, .int 1]) (rest := []) C0 (c_ask_1_1_0_1_1 l D cI cZ cQ cT _ aa xx a1 sl vv (upd fa 0 (2 : Int32))) wc_X0_ask wl_X0_38 wi_X0_ask we_X0_ask wz_X0 ⟨by decide, by decide, by decide +kernel⟩ ⟨(Nat.le_of_ble_eq_true rfl), (Nat.le_of_ble_eq_true rfl)⟩ hP hD hS EF.ok hX [0, 1] rfl (by decide) 0 rfl rfl rfl rfl hl.1 rfl (Nat.le_of_ble_eq_true rfl) dX0_ask_132 ⟨(Nat.le_of_ble_eq_true rfl), (Nat.le_of_ble_eq_true rfl)⟩) (fun r_9 u_7 H locs w_8 hP hD hS => ?_)
  have hP : va_P D CL [(aa, .inr (0, [.ref a1, .int 3, .int sl, .int 1, .int vv])), (a1, .inl (cI, 20, .inl (upd (upd (upd fa 0 (2 : Int32)) 1 11) 2 1)))] H := hP
  have hD : va_D A [(aa, .inr (0, [.ref a1, .int 3, .int sl, .int 1, .int vv])), (a1, .inl (cI, 20, .inl (upd (upd (upd fa 0 (2 : Int32)) 1 11) 2 1)))] := hD
  obtain rfl : r_9 = ((xx * (3 : Int32)) + sl) := w_8
  refine lv_aload_n hx hb dX0_ask_135 rfl (lv_at hl 2 rfl) ?_
  refine va_get (ci := 0) (v := .int vv) (C := RX0) (T := TX0) (N := 5) hx hb hT wu_X0 hown hK hP 0 rfl rfl 4 (by decide) (hT _ wf_X0_36) (fun _ h9 => h9) rfl dX0_ask_136 ?_
  refine lv_isub hx hb dX0_ask_139 ?_
  exact retI C0 rfl () rfl (hP.sub (ws' := [(aa, .inr (0, [.ref a1, .int 3, .int sl, .int 1, .int vv])), (a1, .inl (cI, 20, .inl (upd (upd (upd fa 0 2) 1 11) 2 1)))]) [0, 1] rfl) (hD.sub (ws' := [(aa, .inr (0, [.ref a1, .int 3, .int sl, .int 1, .int vv])), (a1, .inl (cI, 20, .inl (upd (upd (upd fa 0 2) 1 11) 2 1)))]) [0, 1] (by decide) rfl) hS (Nat.le_of_ble_eq_true rfl) (Nat.le_of_ble_eq_true rfl) dX0_ask_140

set_option maxHeartbeats 4000000 in
set_option maxRecDepth 100000 in
theorem c_bodyOf_2_1 (l : Launch) (D : va_G) (cI cZ cQ cT : ClassId) (sz : Nat)   : MetI l yX0_bodyOf cX0_bodyOf 5 .int ({ frames := 0, cells := 0, slots := 0, locals := 0 } : Room) [.int 2, .int 1] D (TYS cI cZ cQ cT) EF sz [] (S := Unit) (fun (r : Int32) (_ : Unit) => r = 21) (fun _ => []) := by
  refine MetI.mk (lv := [(0, .int 2), (1, .int 1)]) (by decide +kernel) (Nat.le_of_ble_eq_true rfl) rfl ?_
  intro p e s m below meth c A ls C0 hP hD hS hX hl
  have C1 := C0
  obtain ⟨hx, hb, hr, hml, hown, hlocks, hname, hT, hN, hK, hA⟩ := C1
  obtain ⟨kab, hkz, hkT⟩ := hX.2.1
  obtain ⟨bdy, hbz, hbT⟩ := hX.2.2.1
  refine lv_iload_n hx hb dX0_bodyOf_0 rfl (lv_at hl 0 rfl) ?_
  refine lv_istore_n (lv' := [(2, .int 2), (0, .int 2), (1, .int 1)]) hx hb dX0_bodyOf_1 rfl hl (by decide) rfl (fun ls hl => ?_)
  refine lv_iconst (v := 0) hx hb dX0_bodyOf_2 (by decide) ?_
  refine lv_istore_n (lv' := [(3, .int 0), (2, .int 2), (0, .int 2), (1, .int 1)]) hx hb dX0_bodyOf_3 rfl hl (by decide) rfl (fun ls hl => ?_)
  refine lv_iload_n hx hb dX0_bodyOf_4 rfl (lv_at hl 0 rfl) ?_
  refine lv_bipush (v := 7) hx hb dX0_bodyOf_5 (by decide) ?_
  refine lv_icmp_ge (tgt := 69) hx hb dX0_bodyOf_7 (by decide) (fun c_0 => absurd c_0 (by decide)) (fun _ => ?_)
  refine lv_iload_n hx hb dX0_bodyOf_10 rfl (lv_at hl 1 rfl) ?_
  refine lv_if_lt (tgt := 69) hx hb dX0_bodyOf_11 (by decide) (fun c_0 => absurd c_0 (by decide)) (fun _ => ?_)
  refine lv_iload_n hx hb dX0_bodyOf_14 rfl (lv_at hl 1 rfl) ?_
  refine lv_bipush (v := 7) hx hb dX0_bodyOf_15 (by decide) ?_
  refine lv_icmp_ge (tgt := 69) hx hb dX0_bodyOf_17 (by decide) (fun c_0 => absurd c_0 (by decide)) (fun _ => ?_)
  refine lv_iload_n hx hb dX0_bodyOf_20 rfl (lv_at hl 1 rfl) ?_
  refine lv_iconst (v := 3) hx hb dX0_bodyOf_21 (by decide) ?_
  refine lv_imul hx hb dX0_bodyOf_22 ?_
  refine lv_ci 6 (by decide +kernel) ?_
  refine lv_iload_n hx hb dX0_bodyOf_23 rfl (lv_at hl 3 rfl) ?_
  refine lv_iadd hx hb dX0_bodyOf_24 ?_
  refine lv_ci 7 (by decide +kernel) ?_
  refine lv_istore (lv' := [(4, .int 7), (3, .int 0), (2, .int 2), (0, .int 2), (1, .int 1)]) hx hb dX0_bodyOf_25 hl (by decide) rfl (fun ls hl => ?_)
  refine lv_iload hx hb dX0_bodyOf_27 (lv_at hl 0 rfl) ?_
  refine lv_if_lt (tgt := 57) hx hb dX0_bodyOf_29 (by decide) (fun c_0 => absurd c_0 (by decide)) (fun _ => ?_)
  refine lv_iload hx hb dX0_bodyOf_32 (lv_at hl 0 rfl) ?_
  refine va_gets hx hb hbz hS hown (hT _ wf_X0_42) (fun _ h9 => h9) dX0_bodyOf_34 ?_
  refine va_tlen hx hb hbT hS (v := 21) rfl dX0_bodyOf_37 ?_
  refine lv_icmp_ge (tgt := 57) hx hb dX0_bodyOf_38 (by decide) (fun c_0 => absurd c_0 (by decide)) (fun _ => ?_)
  refine va_gets hx hb hbz hS hown (hT _ wf_X0_42) (fun _ h9 => h9) dX0_bodyOf_41 ?_
  refine lv_iload hx hb dX0_bodyOf_44 (lv_at hl 0 rfl) ?_
  refine va_ti hx hb hbT hS (vin _ _ (by decide +kernel)) (v := .int 21) rfl dX0_bodyOf_46 ?_
  refine lv_if_eq (tgt := 57) hx hb dX0_bodyOf_47 (by decide) (fun c_0 => absurd c_0 (by decide)) (fun _ => ?_)
  refine va_gets hx hb hbz hS hown (hT _ wf_X0_42) (fun _ h9 => h9) dX0_bodyOf_50 ?_
  refine lv_iload hx hb dX0_bodyOf_53 (lv_at hl 0 rfl) ?_
  refine va_ti hx hb hbT hS (vin _ _ (by decide +kernel)) (v := .int 21) rfl dX0_bodyOf_55 ?_
  exact retI C0 rfl () rfl (hP.sub (ws' := []) [] rfl) (hD.sub (ws' := []) [] (by decide) rfl) hS (Nat.le_of_ble_eq_true rfl) (Nat.le_of_ble_eq_true rfl) dX0_bodyOf_56

set_option maxHeartbeats 4000000 in
set_option maxRecDepth 100000 in
theorem c_ask_2_2_0_2_2 (l : Launch) (D : va_G) (cI cZ cQ cT : ClassId) (sz : Nat) (aa : Nat) (xx : Int32) (a1 : Nat) (sl : Int32) (vv : Int32) (fa : Nat → Int32)  : MetI l yX0_ask cX0_ask 7 .int ({ frames := 1, cells := 0, slots := 0, locals := 24 } : Room) [.ref aa, .int 2, .int 0, .int xx, .int 2] D (TYS cI cZ cQ cT) EF sz [(aa, .inr (0, [.ref a1, .int 2, .int sl, .int 2, .int vv])), (a1, .inl (cI, 20, .inl fa))] (S := Unit) (fun (r : Int32) (_ : Unit) => r = (xx + sl)) (fun _ => [(aa, .inr (0, [.ref a1, .int 3, .int sl, .int 2, .int vv])), (a1, .inl (cI, 20, .inl (upd fa 2 1)))]) := by
  refine MetI.mk (lv := [(0, .ref aa), (1, .int 2), (2, .int 0), (3, .int xx), (4, .int 2)]) (by decide +kernel) (Nat.le_of_ble_eq_true rfl) rfl ?_
  intro p e s m below meth c A ls C0 hP hD hS hX hl
  have C1 := C0
  obtain ⟨hx, hb, hr, hml, hown, hlocks, hname, hT, hN, hK, hA⟩ := C1
  refine lv_iload_n hx hb dX0_ask_0 rfl (lv_at hl 1 rfl) ?_
  refine lv_iload_n hx hb dX0_ask_1 rfl (lv_at hl 2 rfl) ?_
  refine contI (wc := []) (wr := [(aa, .inr (0, [.ref a1, .int 2, .int sl, .int 2, .int vv])), (a1, .inl (cI, 20, .inl fa))]) C0 hP hD hS [] [0, 1] rfl rfl (by decide) (by decide) 0 0 (Nat.le_of_ble_eq_true rfl) (Nat.le_of_ble_eq_true rfl) (runS (k := 2) (As := [.int 2, .int 0]) (rest := []) C0 (c_bodyOf_2_0 l D cI cZ cQ cT _ ) wc_X0_bodyOf wl_X0_48 wt_X0_bodyOf wz_X0 ⟨by decide, by decide, by decide +kernel⟩ ⟨(Nat.le_of_ble_eq_true rfl), (Nat.le_of_ble_eq_true rfl)⟩ hP hD hS EF.ok hX [] rfl (by decide) rfl hl.1 rfl (Nat.le_of_ble_eq_true rfl) dX0_ask_2 ⟨(Nat.le_of_ble_eq_true rfl), (Nat.le_of_ble_eq_true rfl)⟩) (fun r_3 u_1 H locs w_2 hP hD hS => ?_)
  have hP : va_P D CL [(aa, .inr (0, [.ref a1, .int 2, .int sl, .int 2, .int vv])), (a1, .inl (cI, 20, .inl fa))] H := hP
  have hD : va_D A [(aa, .inr (0, [.ref a1, .int 2, .int sl, .int 2, .int vv])), (a1, .inl (cI, 20, .inl fa))] := hD
  obtain rfl : r_3 = 1 := w_2
  refine lv_istore (lv' := [(5, .int 1), (0, .ref aa), (1, .int 2), (2, .int 0), (3, .int xx), (4, .int 2)]) hx hb dX0_ask_5 hl (by decide) rfl (fun ls hl => ?_)
  refine lv_iload hx hb dX0_ask_7 (lv_at hl 0 rfl) ?_
  refine lv_if_eq (tgt := 19) hx hb dX0_ask_9 (by decide) (fun c_0 => absurd c_0 (by decide)) (fun _ => ?_)
  refine lv_iload hx hb dX0_ask_12 (lv_at hl 5 rfl) ?_
  refine lv_bipush (v := 40) hx hb dX0_ask_14 (by decide) ?_
  refine lv_icmp_le (tgt := 21) hx hb dX0_ask_16 (by decide) (fun _ => ?_) (fun c_0 => absurd (by decide) c_0)
  refine lv_aload_n hx hb dX0_ask_21 rfl (lv_at hl 1 rfl) ?_
  refine lv_iload hx hb dX0_ask_22 (lv_at hl 0 rfl) ?_
  refine contV (wc := [(aa, .inr (0, [.ref a1, .int 2, .int sl, .int 2, .int vv])), (a1, .inl (cI, 20, .inl fa))]) (wr := []) C0 hP hD hS [0, 1] [] rfl rfl (by decide) (by decide) 0 0 (Nat.le_of_ble_eq_true rfl) (Nat.le_of_ble_eq_true rfl) (runV (k := 1) (As := [.int 1]) (rest := []) C0 (c_begin_2 l D cI cZ cQ cT _ aa 1 a1 sl 2 vv fa) wc_X0_begin wl_X0_52 wi_X0_begin we_X0_begin wz_X0 ⟨by decide, by decide, by decide +kernel⟩ ⟨(Nat.le_of_ble_eq_true rfl), (Nat.le_of_ble_eq_true rfl)⟩ hP hD hS EF.ok hX [0, 1] rfl (by decide) 0 rfl rfl rfl rfl hl.1 rfl (Nat.le_of_ble_eq_true rfl) dX0_ask_24 ⟨(Nat.le_of_ble_eq_true rfl), (Nat.le_of_ble_eq_true rfl)⟩) (fun u_4 H locs w_5 hP hD hS => ?_)
  have hP : va_P D CL [(aa, .inr (0, [.ref a1, .int 3, .int sl, .int 2, .int vv])), (a1, .inl (cI, 20, .inl (upd fa 2 (1 : Int32))))] H := hP
  have hD : va_D A [(aa, .inr (0, [.ref a1, .int 3, .int sl, .int 2, .int vv])), (a1, .inl (cI, 20, .inl (upd fa 2 (1 : Int32))))] := hD
  refine lv_iload hx hb dX0_ask_27 (lv_at hl 5 rfl) ?_
  refine lv_iconst (v := 1) hx hb dX0_ask_29 (by decide) ?_
  refine lv_iadd hx hb dX0_ask_30 ?_
  refine lv_ci 3 (by decide +kernel) ?_
  refine lv_istore (lv' := [(6, .int 3), (5, .int 1), (0, .ref aa), (1, .int 2), (2, .int 0), (3, .int xx), (4, .int 2)]) hx hb dX0_ask_31 hl (by decide) rfl (fun ls hl => ?_)
  refine lv_iload hx hb dX0_ask_33 (lv_at hl 1 rfl) ?_
  refine lv_lookup (off := 81) (tgt := 116) hx hb dX0_ask_35 (by decide) (by decide) (by decide) ?_
  refine lv_iload_n hx hb dX0_ask_116 rfl (lv_at hl 5 rfl) ?_
  refine lv_aload_n hx hb dX0_ask_117 rfl (lv_at hl 2 rfl) ?_
  refine va_get (ci := 0) (v := .int sl) (C := RX0) (T := TX0) (N := 5) hx hb hT wu_X0 hown hK hP 0 rfl rfl 2 (by decide) (hT _ wf_X0_25) (fun _ h9 => h9) rfl dX0_ask_118 ?_
  refine lv_iadd hx hb dX0_ask_121 ?_
  exact retI C0 rfl () rfl (hP.sub (ws' := [(aa, .inr (0, [.ref a1, .int 3, .int sl, .int 2, .int vv])), (a1, .inl (cI, 20, .inl (upd fa 2 1)))]) [0, 1] rfl) (hD.sub (ws' := [(aa, .inr (0, [.ref a1, .int 3, .int sl, .int 2, .int vv])), (a1, .inl (cI, 20, .inl (upd fa 2 1)))]) [0, 1] (by decide) rfl) hS (Nat.le_of_ble_eq_true rfl) (Nat.le_of_ble_eq_true rfl) dX0_ask_122

set_option maxHeartbeats 4000000 in
set_option maxRecDepth 100000 in
theorem c_ask_2_0_1_1_1 (l : Launch) (D : va_G) (cI cZ cQ cT : ClassId) (sz : Nat) (aa : Nat) (xx : Int32) (a1 : Nat) (sl : Int32) (vv : Int32) (fa : Nat → Int32)  : MetI l yX0_ask cX0_ask 7 .int ({ frames := 2, cells := 0, slots := 0, locals := 50 } : Room) [.ref aa, .int 0, .int 1, .int xx, .int 1] D (TYS cI cZ cQ cT) EF sz [(aa, .inr (0, [.ref a1, .int 1, .int sl, .int 2, .int vv])), (a1, .inl (cI, 20, .inl fa))] (S := Unit) (fun (r : Int32) (_ : Unit) => r = ((xx + sl) - vv)) (fun _ => [(aa, .inr (0, [.ref a1, .int 3, .int sl, .int 2, .int vv])), (a1, .inl (cI, 20, .inl (upd (upd fa 1 2) 2 1)))]) := by
  refine MetI.mk (lv := [(0, .ref aa), (1, .int 0), (2, .int 1), (3, .int xx), (4, .int 1)]) (by decide +kernel) (Nat.le_of_ble_eq_true rfl) rfl ?_
  intro p e s m below meth c A ls C0 hP hD hS hX hl
  have C1 := C0
  obtain ⟨hx, hb, hr, hml, hown, hlocks, hname, hT, hN, hK, hA⟩ := C1
  refine lv_iload_n hx hb dX0_ask_0 rfl (lv_at hl 1 rfl) ?_
  refine lv_iload_n hx hb dX0_ask_1 rfl (lv_at hl 2 rfl) ?_
  refine contI (wc := []) (wr := [(aa, .inr (0, [.ref a1, .int 1, .int sl, .int 2, .int vv])), (a1, .inl (cI, 20, .inl fa))]) C0 hP hD hS [] [0, 1] rfl rfl (by decide) (by decide) 0 0 (Nat.le_of_ble_eq_true rfl) (Nat.le_of_ble_eq_true rfl) (runS (k := 2) (As := [.int 0, .int 1]) (rest := []) C0 (c_bodyOf_0_1 l D cI cZ cQ cT _ ) wc_X0_bodyOf wl_X0_48 wt_X0_bodyOf wz_X0 ⟨by decide, by decide, by decide +kernel⟩ ⟨(Nat.le_of_ble_eq_true rfl), (Nat.le_of_ble_eq_true rfl)⟩ hP hD hS EF.ok hX [] rfl (by decide) rfl hl.1 rfl (Nat.le_of_ble_eq_true rfl) dX0_ask_2 ⟨(Nat.le_of_ble_eq_true rfl), (Nat.le_of_ble_eq_true rfl)⟩) (fun r_3 u_1 H locs w_2 hP hD hS => ?_)
  have hP : va_P D CL [(aa, .inr (0, [.ref a1, .int 1, .int sl, .int 2, .int vv])), (a1, .inl (cI, 20, .inl fa))] H := hP
  have hD : va_D A [(aa, .inr (0, [.ref a1, .int 1, .int sl, .int 2, .int vv])), (a1, .inl (cI, 20, .inl fa))] := hD
  obtain rfl : r_3 = 2 := w_2
  refine lv_istore (lv' := [(5, .int 2), (0, .ref aa), (1, .int 0), (2, .int 1), (3, .int xx), (4, .int 1)]) hx hb dX0_ask_5 hl (by decide) rfl (fun ls hl => ?_)
  refine lv_iload hx hb dX0_ask_7 (lv_at hl 0 rfl) ?_
  refine lv_if_eq (tgt := 19) hx hb dX0_ask_9 (by decide) (fun c_0 => absurd c_0 (by decide)) (fun _ => ?_)
  refine lv_iload hx hb dX0_ask_12 (lv_at hl 5 rfl) ?_
  refine lv_bipush (v := 40) hx hb dX0_ask_14 (by decide) ?_
  refine lv_icmp_le (tgt := 21) hx hb dX0_ask_16 (by decide) (fun _ => ?_) (fun c_0 => absurd (by decide) c_0)
  refine lv_aload_n hx hb dX0_ask_21 rfl (lv_at hl 1 rfl) ?_
  refine lv_iload hx hb dX0_ask_22 (lv_at hl 0 rfl) ?_
  refine contV (wc := [(aa, .inr (0, [.ref a1, .int 1, .int sl, .int 2, .int vv])), (a1, .inl (cI, 20, .inl fa))]) (wr := []) C0 hP hD hS [0, 1] [] rfl rfl (by decide) (by decide) 0 0 (Nat.le_of_ble_eq_true rfl) (Nat.le_of_ble_eq_true rfl) (runV (k := 1) (As := [.int 2]) (rest := []) C0 (c_begin_1 l D cI cZ cQ cT _ aa 2 a1 sl 2 vv fa) wc_X0_begin wl_X0_52 wi_X0_begin we_X0_begin wz_X0 ⟨by decide, by decide, by decide +kernel⟩ ⟨(Nat.le_of_ble_eq_true rfl), (Nat.le_of_ble_eq_true rfl)⟩ hP hD hS EF.ok hX [0, 1] rfl (by decide) 0 rfl rfl rfl rfl hl.1 rfl (Nat.le_of_ble_eq_true rfl) dX0_ask_24 ⟨(Nat.le_of_ble_eq_true rfl), (Nat.le_of_ble_eq_true rfl)⟩) (fun u_4 H locs w_5 hP hD hS => ?_)
  have hP : va_P D CL [(aa, .inr (0, [.ref a1, .int 2, .int sl, .int 2, .int vv])), (a1, .inl (cI, 20, .inl (upd fa 1 (2 : Int32))))] H := hP
  have hD : va_D A [(aa, .inr (0, [.ref a1, .int 2, .int sl, .int 2, .int vv])), (a1, .inl (cI, 20, .inl (upd fa 1 (2 : Int32))))] := hD
  refine lv_iload hx hb dX0_ask_27 (lv_at hl 5 rfl) ?_
  refine lv_iconst (v := 1) hx hb dX0_ask_29 (by decide) ?_
  refine lv_iadd hx hb dX0_ask_30 ?_
  refine lv_ci 2 (by decide +kernel) ?_
  refine lv_istore (lv' := [(6, .int 2), (5, .int 2), (0, .ref aa), (1, .int 0), (2, .int 1), (3, .int xx), (4, .int 1)]) hx hb dX0_ask_31 hl (by decide) rfl (fun ls hl => ?_)
  refine lv_iload hx hb dX0_ask_33 (lv_at hl 1 rfl) ?_
  refine lv_lookup (off := 88) (tgt := 123) hx hb dX0_ask_35 (by decide) (by decide) (by decide) ?_
  refine lv_aload_n hx hb dX0_ask_123 rfl (lv_at hl 2 rfl) ?_
  refine lv_aload_n hx hb dX0_ask_124 rfl (lv_at hl 2 rfl) ?_
  refine va_get (ci := 0) (v := .int 2) (C := RX0) (T := TX0) (N := 5) hx hb hT wu_X0 hown hK hP 0 rfl rfl 3 (by decide) (hT _ wf_X0_31) (fun _ h9 => h9) rfl dX0_ask_125 ?_
  refine lv_iconst (v := 0) hx hb dX0_ask_128 (by decide) ?_
  refine lv_iload_n hx hb dX0_ask_129 rfl (lv_at hl 5 rfl) ?_
  refine lv_iload hx hb dX0_ask_130 (lv_at hl 0 rfl) ?_
  refine contI (wc := [(aa, .inr (0, [.ref a1, .int 2, .int sl, .int 2, .int vv])), (a1, .inl (cI, 20, .inl (upd fa 1 (2 : Int32))))]) (wr := []) C0 hP hD hS [0, 1] [] rfl rfl (by decide) (by decide) 0 0 (Nat.le_of_ble_eq_true rfl) (Nat.le_of_ble_eq_true rfl) (runV (k := 4) (As := [.int 2, .int 0, .int xx, .int 2]) (rest := []) C0 (c_ask_2_2_0_2_2 l D cI cZ cQ cT _ aa xx a1 sl vv (upd fa 1 (2 : Int32))) wc_X0_ask wl_X0_38 wi_X0_ask we_X0_ask wz_X0 ⟨by decide, by decide, by decide +kernel⟩ ⟨(Nat.le_of_ble_eq_true rfl), (Nat.le_of_ble_eq_true rfl)⟩ hP hD hS EF.ok hX [0, 1] rfl (by decide) 0 rfl rfl rfl rfl hl.1 rfl (Nat.le_of_ble_eq_true rfl) dX0_ask_132 ⟨(Nat.le_of_ble_eq_true rfl), (Nat.le_of_ble_eq_true rfl)⟩) (fun r_9 u_7 H locs w_8 hP hD hS => ?_)
  have hP : va_P D CL [(aa, .inr (0, [.ref a1, .int 3, .int sl, .int 2, .int vv])), (a1, .inl (cI, 20, .inl (upd (upd fa 1 (2 : Int32)) 2 1)))] H := hP
  have hD : va_D A [(aa, .inr (0, [.ref a1, .int 3, .int sl, .int 2, .int vv])), (a1, .inl (cI, 20, .inl (upd (upd fa 1 (2 : Int32)) 2 1)))] := hD
  obtain rfl : r_9 = (xx + sl) := w_8
  refine lv_aload_n hx hb dX0_ask_135 rfl (lv_at hl 2 rfl) ?_
  refine va_get (ci := 0) (v := .int vv) (C := RX0) (T := TX0) (N := 5) hx hb hT wu_X0 hown hK hP 0 rfl rfl 4 (by decide) (hT _ wf_X0_36) (fun _ h9 => h9) rfl dX0_ask_136 ?_
  refine lv_isub hx hb dX0_ask_139 ?_
  exact retI C0 rfl () rfl (hP.sub (ws' := [(aa, .inr (0, [.ref a1, .int 3, .int sl, .int 2, .int vv])), (a1, .inl (cI, 20, .inl (upd (upd fa 1 2) 2 1)))]) [0, 1] rfl) (hD.sub (ws' := [(aa, .inr (0, [.ref a1, .int 3, .int sl, .int 2, .int vv])), (a1, .inl (cI, 20, .inl (upd (upd fa 1 2) 2 1)))]) [0, 1] (by decide) rfl) hS (Nat.le_of_ble_eq_true rfl) (Nat.le_of_ble_eq_true rfl) dX0_ask_140

set_option maxHeartbeats 4000000 in
set_option maxRecDepth 100000 in
theorem c_ask_2_2_1_0_0 (l : Launch) (D : va_G) (cI cZ cQ cT : ClassId) (sz : Nat) (aa : Nat) (xx : Int32) (a1 : Nat) (sl : Int32) (vv : Int32) (fa : Nat → Int32)  : MetI l yX0_ask cX0_ask 7 .int ({ frames := 3, cells := 0, slots := 0, locals := 76 } : Room) [.ref aa, .int 2, .int 1, .int xx, .int 0] D (TYS cI cZ cQ cT) EF sz [(aa, .inr (0, [.ref a1, .int 0, .int sl, .int 2, .int vv])), (a1, .inl (cI, 20, .inl fa))] (S := Unit) (fun (r : Int32) (_ : Unit) => r = (-((xx + sl) - vv))) (fun _ => [(aa, .inr (0, [.ref a1, .int 3, .int sl, .int 2, .int vv])), (a1, .inl (cI, 20, .inl (upd (upd (upd fa 0 21) 1 2) 2 1)))]) := by
  refine MetI.mk (lv := [(0, .ref aa), (1, .int 2), (2, .int 1), (3, .int xx), (4, .int 0)]) (by decide +kernel) (Nat.le_of_ble_eq_true rfl) rfl ?_
  intro p e s m below meth c A ls C0 hP hD hS hX hl
  have C1 := C0
  obtain ⟨hx, hb, hr, hml, hown, hlocks, hname, hT, hN, hK, hA⟩ := C1
  refine lv_iload_n hx hb dX0_ask_0 rfl (lv_at hl 1 rfl) ?_
  refine lv_iload_n hx hb dX0_ask_1 rfl (lv_at hl 2 rfl) ?_
  refine contI (wc := []) (wr := [(aa, .inr (0, [.ref a1, .int 0, .int sl, .int 2, .int vv])), (a1, .inl (cI, 20, .inl fa))]) C0 hP hD hS [] [0, 1] rfl rfl (by decide) (by decide) 0 0 (Nat.le_of_ble_eq_true rfl) (Nat.le_of_ble_eq_true rfl) (runS (k := 2) (As := [.int 2, .int 1]) (rest := []) C0 (c_bodyOf_2_1 l D cI cZ cQ cT _ ) wc_X0_bodyOf wl_X0_48 wt_X0_bodyOf wz_X0 ⟨by decide, by decide, by decide +kernel⟩ ⟨(Nat.le_of_ble_eq_true rfl), (Nat.le_of_ble_eq_true rfl)⟩ hP hD hS EF.ok hX [] rfl (by decide) rfl hl.1 rfl (Nat.le_of_ble_eq_true rfl) dX0_ask_2 ⟨(Nat.le_of_ble_eq_true rfl), (Nat.le_of_ble_eq_true rfl)⟩) (fun r_3 u_1 H locs w_2 hP hD hS => ?_)
  have hP : va_P D CL [(aa, .inr (0, [.ref a1, .int 0, .int sl, .int 2, .int vv])), (a1, .inl (cI, 20, .inl fa))] H := hP
  have hD : va_D A [(aa, .inr (0, [.ref a1, .int 0, .int sl, .int 2, .int vv])), (a1, .inl (cI, 20, .inl fa))] := hD
  obtain rfl : r_3 = 21 := w_2
  refine lv_istore (lv' := [(5, .int 21), (0, .ref aa), (1, .int 2), (2, .int 1), (3, .int xx), (4, .int 0)]) hx hb dX0_ask_5 hl (by decide) rfl (fun ls hl => ?_)
  refine lv_iload hx hb dX0_ask_7 (lv_at hl 0 rfl) ?_
  refine lv_if_eq (tgt := 19) hx hb dX0_ask_9 (by decide) (fun c_0 => absurd c_0 (by decide)) (fun _ => ?_)
  refine lv_iload hx hb dX0_ask_12 (lv_at hl 5 rfl) ?_
  refine lv_bipush (v := 40) hx hb dX0_ask_14 (by decide) ?_
  refine lv_icmp_le (tgt := 21) hx hb dX0_ask_16 (by decide) (fun _ => ?_) (fun c_0 => absurd (by decide) c_0)
  refine lv_aload_n hx hb dX0_ask_21 rfl (lv_at hl 1 rfl) ?_
  refine lv_iload hx hb dX0_ask_22 (lv_at hl 0 rfl) ?_
  refine contV (wc := [(aa, .inr (0, [.ref a1, .int 0, .int sl, .int 2, .int vv])), (a1, .inl (cI, 20, .inl fa))]) (wr := []) C0 hP hD hS [0, 1] [] rfl rfl (by decide) (by decide) 0 0 (Nat.le_of_ble_eq_true rfl) (Nat.le_of_ble_eq_true rfl) (runV (k := 1) (As := [.int 21]) (rest := []) C0 (c_begin_0 l D cI cZ cQ cT _ aa 21 a1 sl 2 vv fa) wc_X0_begin wl_X0_52 wi_X0_begin we_X0_begin wz_X0 ⟨by decide, by decide, by decide +kernel⟩ ⟨(Nat.le_of_ble_eq_true rfl), (Nat.le_of_ble_eq_true rfl)⟩ hP hD hS EF.ok hX [0, 1] rfl (by decide) 0 rfl rfl rfl rfl hl.1 rfl (Nat.le_of_ble_eq_true rfl) dX0_ask_24 ⟨(Nat.le_of_ble_eq_true rfl), (Nat.le_of_ble_eq_true rfl)⟩) (fun u_4 H locs w_5 hP hD hS => ?_)
  have hP : va_P D CL [(aa, .inr (0, [.ref a1, .int 1, .int sl, .int 2, .int vv])), (a1, .inl (cI, 20, .inl (upd fa 0 (21 : Int32))))] H := hP
  have hD : va_D A [(aa, .inr (0, [.ref a1, .int 1, .int sl, .int 2, .int vv])), (a1, .inl (cI, 20, .inl (upd fa 0 (21 : Int32))))] := hD
  refine lv_iload hx hb dX0_ask_27 (lv_at hl 5 rfl) ?_
  refine lv_iconst (v := 1) hx hb dX0_ask_29 (by decide) ?_
  refine lv_iadd hx hb dX0_ask_30 ?_
  refine lv_ci 1 (by decide +kernel) ?_
  refine lv_istore (lv' := [(6, .int 1), (5, .int 21), (0, .ref aa), (1, .int 2), (2, .int 1), (3, .int xx), (4, .int 0)]) hx hb dX0_ask_31 hl (by decide) rfl (fun ls hl => ?_)
  refine lv_iload hx hb dX0_ask_33 (lv_at hl 1 rfl) ?_
  refine lv_lookup (off := 133) (tgt := 168) hx hb dX0_ask_35 (by decide) (by decide) (by decide) ?_
  refine lv_aload_n hx hb dX0_ask_168 rfl (lv_at hl 2 rfl) ?_
  refine lv_iconst (v := 0) hx hb dX0_ask_169 (by decide) ?_
  refine lv_iconst (v := 1) hx hb dX0_ask_170 (by decide) ?_
  refine lv_iload_n hx hb dX0_ask_171 rfl (lv_at hl 5 rfl) ?_
  refine lv_iload hx hb dX0_ask_172 (lv_at hl 0 rfl) ?_
  refine contI (wc := [(aa, .inr (0, [.ref a1, .int 1, .int sl, .int 2, .int vv])), (a1, .inl (cI, 20, .inl (upd fa 0 (21 : Int32))))]) (wr := []) C0 hP hD hS [0, 1] [] rfl rfl (by decide) (by decide) 0 0 (Nat.le_of_ble_eq_true rfl) (Nat.le_of_ble_eq_true rfl) (runV (k := 4) (As := [.int 0, .int 1, .int xx, .int 1]) (rest := []) C0 (c_ask_2_0_1_1_1 l D cI cZ cQ cT _ aa xx a1 sl vv (upd fa 0 (21 : Int32))) wc_X0_ask wl_X0_38 wi_X0_ask we_X0_ask wz_X0 ⟨by decide, by decide, by decide +kernel⟩ ⟨(Nat.le_of_ble_eq_true rfl), (Nat.le_of_ble_eq_true rfl)⟩ hP hD hS EF.ok hX [0, 1] rfl (by decide) 0 rfl rfl rfl rfl hl.1 rfl (Nat.le_of_ble_eq_true rfl) dX0_ask_174 ⟨(Nat.le_of_ble_eq_true rfl), (Nat.le_of_ble_eq_true rfl)⟩) (fun r_9 u_7 H locs w_8 hP hD hS => ?_)
  have hP : va_P D CL [(aa, .inr (0, [.ref a1, .int 3, .int sl, .int 2, .int vv])), (a1, .inl (cI, 20, .inl (upd (upd (upd fa 0 (21 : Int32)) 1 2) 2 1)))] H := hP
  have hD : va_D A [(aa, .inr (0, [.ref a1, .int 3, .int sl, .int 2, .int vv])), (a1, .inl (cI, 20, .inl (upd (upd (upd fa 0 (21 : Int32)) 1 2) 2 1)))] := hD
  obtain rfl : r_9 = ((xx + sl) - vv) := w_8
  refine lv_ineg hx hb dX0_ask_177 ?_
  exact retI C0 rfl () rfl (hP.sub (ws' := [(aa, .inr (0, [.ref a1, .int 3, .int sl, .int 2, .int vv])), (a1, .inl (cI, 20, .inl (upd (upd (upd fa 0 21) 1 2) 2 1)))]) [0, 1] rfl) (hD.sub (ws' := [(aa, .inr (0, [.ref a1, .int 3, .int sl, .int 2, .int vv])), (a1, .inl (cI, 20, .inl (upd (upd (upd fa 0 21) 1 2) 2 1)))]) [0, 1] (by decide) rfl) hS (Nat.le_of_ble_eq_true rfl) (Nat.le_of_ble_eq_true rfl) dX0_ask_178

set_option maxHeartbeats 4000000 in
set_option maxRecDepth 100000 in
theorem c_bodyOf_3_1 (l : Launch) (D : va_G) (cI cZ cQ cT : ClassId) (sz : Nat)   : MetI l yX0_bodyOf cX0_bodyOf 5 .int ({ frames := 0, cells := 0, slots := 0, locals := 0 } : Room) [.int 3, .int 1] D (TYS cI cZ cQ cT) EF sz [] (S := Unit) (fun (r : Int32) (_ : Unit) => r = 2) (fun _ => []) := by
  refine MetI.mk (lv := [(0, .int 3), (1, .int 1)]) (by decide +kernel) (Nat.le_of_ble_eq_true rfl) rfl ?_
  intro p e s m below meth c A ls C0 hP hD hS hX hl
  have C1 := C0
  obtain ⟨hx, hb, hr, hml, hown, hlocks, hname, hT, hN, hK, hA⟩ := C1
  obtain ⟨kab, hkz, hkT⟩ := hX.2.1
  obtain ⟨bdy, hbz, hbT⟩ := hX.2.2.1
  refine lv_iload_n hx hb dX0_bodyOf_0 rfl (lv_at hl 0 rfl) ?_
  refine lv_istore_n (lv' := [(2, .int 3), (0, .int 3), (1, .int 1)]) hx hb dX0_bodyOf_1 rfl hl (by decide) rfl (fun ls hl => ?_)
  refine lv_iconst (v := 0) hx hb dX0_bodyOf_2 (by decide) ?_
  refine lv_istore_n (lv' := [(3, .int 0), (2, .int 3), (0, .int 3), (1, .int 1)]) hx hb dX0_bodyOf_3 rfl hl (by decide) rfl (fun ls hl => ?_)
  refine lv_iload_n hx hb dX0_bodyOf_4 rfl (lv_at hl 0 rfl) ?_
  refine lv_bipush (v := 7) hx hb dX0_bodyOf_5 (by decide) ?_
  refine lv_icmp_ge (tgt := 69) hx hb dX0_bodyOf_7 (by decide) (fun c_0 => absurd c_0 (by decide)) (fun _ => ?_)
  refine lv_iload_n hx hb dX0_bodyOf_10 rfl (lv_at hl 1 rfl) ?_
  refine lv_if_lt (tgt := 69) hx hb dX0_bodyOf_11 (by decide) (fun c_0 => absurd c_0 (by decide)) (fun _ => ?_)
  refine lv_iload_n hx hb dX0_bodyOf_14 rfl (lv_at hl 1 rfl) ?_
  refine lv_bipush (v := 7) hx hb dX0_bodyOf_15 (by decide) ?_
  refine lv_icmp_ge (tgt := 69) hx hb dX0_bodyOf_17 (by decide) (fun c_0 => absurd c_0 (by decide)) (fun _ => ?_)
  refine lv_iload_n hx hb dX0_bodyOf_20 rfl (lv_at hl 1 rfl) ?_
  refine lv_iconst (v := 3) hx hb dX0_bodyOf_21 (by decide) ?_
  refine lv_imul hx hb dX0_bodyOf_22 ?_
  refine lv_ci 9 (by decide +kernel) ?_
  refine lv_iload_n hx hb dX0_bodyOf_23 rfl (lv_at hl 3 rfl) ?_
  refine lv_iadd hx hb dX0_bodyOf_24 ?_
  refine lv_ci 10 (by decide +kernel) ?_
  refine lv_istore (lv' := [(4, .int 10), (3, .int 0), (2, .int 3), (0, .int 3), (1, .int 1)]) hx hb dX0_bodyOf_25 hl (by decide) rfl (fun ls hl => ?_)
  refine lv_iload hx hb dX0_bodyOf_27 (lv_at hl 0 rfl) ?_
  refine lv_if_lt (tgt := 57) hx hb dX0_bodyOf_29 (by decide) (fun c_0 => absurd c_0 (by decide)) (fun _ => ?_)
  refine lv_iload hx hb dX0_bodyOf_32 (lv_at hl 0 rfl) ?_
  refine va_gets hx hb hbz hS hown (hT _ wf_X0_42) (fun _ h9 => h9) dX0_bodyOf_34 ?_
  refine va_tlen hx hb hbT hS (v := 21) rfl dX0_bodyOf_37 ?_
  refine lv_icmp_ge (tgt := 57) hx hb dX0_bodyOf_38 (by decide) (fun c_0 => absurd c_0 (by decide)) (fun _ => ?_)
  refine va_gets hx hb hbz hS hown (hT _ wf_X0_42) (fun _ h9 => h9) dX0_bodyOf_41 ?_
  refine lv_iload hx hb dX0_bodyOf_44 (lv_at hl 0 rfl) ?_
  refine va_ti hx hb hbT hS (vin _ _ (by decide +kernel)) (v := .int 0) rfl dX0_bodyOf_46 ?_
  refine lv_if_eq (tgt := 57) hx hb dX0_bodyOf_47 (by decide) (fun _ => ?_) (fun c_0 => absurd (by decide) c_0)
  refine va_getsN hx hb hkz hS hown (va_Nw.use rfl (hN.get 750 kf_X0_45 rfl)) (fun _ h9 => h9) dX0_bodyOf_57 ?_
  refine lv_iload_n hx hb dX0_bodyOf_60 rfl (lv_at hl 2 rfl) ?_
  refine va_ti hx hb hkT hS (vin _ _ (by decide +kernel)) (v := .int 0) rfl dX0_bodyOf_61 ?_
  refine lv_istore_n (lv' := [(2, .int 0), (4, .int 10), (3, .int 0), (0, .int 3), (1, .int 1)]) hx hb dX0_bodyOf_62 rfl hl (by decide) rfl (fun ls hl => ?_)
  refine lv_iinc (v := 1) (lv' := [(3, .int 1), (2, .int 0), (4, .int 10), (0, .int 3), (1, .int 1)]) hx hb dX0_bodyOf_63 hl (k := 2) rfl (by decide) (by decide) rfl (fun ls hl => ?_)
  refine lv_goto (tgt := 4) hx hb dX0_bodyOf_66 (by decide) ?_
  refine lv_iload_n hx hb dX0_bodyOf_4 rfl (lv_at hl 0 rfl) ?_
  refine lv_bipush (v := 7) hx hb dX0_bodyOf_5 (by decide) ?_
  refine lv_icmp_ge (tgt := 69) hx hb dX0_bodyOf_7 (by decide) (fun c_0 => absurd c_0 (by decide)) (fun _ => ?_)
  refine lv_iload_n hx hb dX0_bodyOf_10 rfl (lv_at hl 1 rfl) ?_
  refine lv_if_lt (tgt := 69) hx hb dX0_bodyOf_11 (by decide) (fun c_0 => absurd c_0 (by decide)) (fun _ => ?_)
  refine lv_iload_n hx hb dX0_bodyOf_14 rfl (lv_at hl 1 rfl) ?_
  refine lv_bipush (v := 7) hx hb dX0_bodyOf_15 (by decide) ?_
  refine lv_icmp_ge (tgt := 69) hx hb dX0_bodyOf_17 (by decide) (fun c_0 => absurd c_0 (by decide)) (fun _ => ?_)
  refine lv_iload_n hx hb dX0_bodyOf_20 rfl (lv_at hl 1 rfl) ?_
  refine lv_iconst (v := 3) hx hb dX0_bodyOf_21 (by decide) ?_
  refine lv_imul hx hb dX0_bodyOf_22 ?_
  refine lv_ci 0 (by decide +kernel) ?_
  refine lv_iload_n hx hb dX0_bodyOf_23 rfl (lv_at hl 4 rfl) ?_
  refine lv_iadd hx hb dX0_bodyOf_24 ?_
  refine lv_ci 1 (by decide +kernel) ?_
  refine lv_istore (lv' := [(4, .int 1), (3, .int 1), (2, .int 0), (0, .int 3), (1, .int 1)]) hx hb dX0_bodyOf_25 hl (by decide) rfl (fun ls hl => ?_)
  refine lv_iload hx hb dX0_bodyOf_27 (lv_at hl 0 rfl) ?_
  refine lv_if_lt (tgt := 57) hx hb dX0_bodyOf_29 (by decide) (fun c_0 => absurd c_0 (by decide)) (fun _ => ?_)
  refine lv_iload hx hb dX0_bodyOf_32 (lv_at hl 0 rfl) ?_
  refine va_gets hx hb hbz hS hown (hT _ wf_X0_42) (fun _ h9 => h9) dX0_bodyOf_34 ?_
  refine va_tlen hx hb hbT hS (v := 21) rfl dX0_bodyOf_37 ?_
  refine lv_icmp_ge (tgt := 57) hx hb dX0_bodyOf_38 (by decide) (fun c_0 => absurd c_0 (by decide)) (fun _ => ?_)
  refine va_gets hx hb hbz hS hown (hT _ wf_X0_42) (fun _ h9 => h9) dX0_bodyOf_41 ?_
  refine lv_iload hx hb dX0_bodyOf_44 (lv_at hl 0 rfl) ?_
  refine va_ti hx hb hbT hS (vin _ _ (by decide +kernel)) (v := .int 2) rfl dX0_bodyOf_46 ?_
  refine lv_if_eq (tgt := 57) hx hb dX0_bodyOf_47 (by decide) (fun c_0 => absurd c_0 (by decide)) (fun _ => ?_)
  refine va_gets hx hb hbz hS hown (hT _ wf_X0_42) (fun _ h9 => h9) dX0_bodyOf_50 ?_
  refine lv_iload hx hb dX0_bodyOf_53 (lv_at hl 0 rfl) ?_
  refine va_ti hx hb hbT hS (vin _ _ (by decide +kernel)) (v := .int 2) rfl dX0_bodyOf_55 ?_
  exact retI C0 rfl () rfl (hP.sub (ws' := []) [] rfl) (hD.sub (ws' := []) [] (by decide) rfl) hS (Nat.le_of_ble_eq_true rfl) (Nat.le_of_ble_eq_true rfl) dX0_bodyOf_56

set_option maxHeartbeats 4000000 in
set_option maxRecDepth 100000 in
theorem c_ask_3_3_0_1_1 (l : Launch) (D : va_G) (cI cZ cQ cT : ClassId) (sz : Nat) (aa : Nat) (xx : Int32) (a1 : Nat) (sl : Int32) (vv : Int32) (fa : Nat → Int32)  : MetI l yX0_ask cX0_ask 7 .int ({ frames := 1, cells := 0, slots := 0, locals := 24 } : Room) [.ref aa, .int 3, .int 0, .int xx, .int 1] D (TYS cI cZ cQ cT) EF sz [(aa, .inr (0, [.ref a1, .int 1, .int sl, .int 3, .int vv])), (a1, .inl (cI, 20, .inl fa))] (S := Unit) (fun (r : Int32) (_ : Unit) => r = (xx + sl)) (fun _ => [(aa, .inr (0, [.ref a1, .int 2, .int sl, .int 3, .int vv])), (a1, .inl (cI, 20, .inl (upd fa 1 1)))]) := by
  refine MetI.mk (lv := [(0, .ref aa), (1, .int 3), (2, .int 0), (3, .int xx), (4, .int 1)]) (by decide +kernel) (Nat.le_of_ble_eq_true rfl) rfl ?_
  intro p e s m below meth c A ls C0 hP hD hS hX hl
  have C1 := C0
  obtain ⟨hx, hb, hr, hml, hown, hlocks, hname, hT, hN, hK, hA⟩ := C1
  refine lv_iload_n hx hb dX0_ask_0 rfl (lv_at hl 1 rfl) ?_
  refine lv_iload_n hx hb dX0_ask_1 rfl (lv_at hl 2 rfl) ?_
  refine contI (wc := []) (wr := [(aa, .inr (0, [.ref a1, .int 1, .int sl, .int 3, .int vv])), (a1, .inl (cI, 20, .inl fa))]) C0 hP hD hS [] [0, 1] rfl rfl (by decide) (by decide) 0 0 (Nat.le_of_ble_eq_true rfl) (Nat.le_of_ble_eq_true rfl) (runS (k := 2) (As := [.int 3, .int 0]) (rest := []) C0 (c_bodyOf_3_0 l D cI cZ cQ cT _ ) wc_X0_bodyOf wl_X0_48 wt_X0_bodyOf wz_X0 ⟨by decide, by decide, by decide +kernel⟩ ⟨(Nat.le_of_ble_eq_true rfl), (Nat.le_of_ble_eq_true rfl)⟩ hP hD hS EF.ok hX [] rfl (by decide) rfl hl.1 rfl (Nat.le_of_ble_eq_true rfl) dX0_ask_2 ⟨(Nat.le_of_ble_eq_true rfl), (Nat.le_of_ble_eq_true rfl)⟩) (fun r_3 u_1 H locs w_2 hP hD hS => ?_)
  have hP : va_P D CL [(aa, .inr (0, [.ref a1, .int 1, .int sl, .int 3, .int vv])), (a1, .inl (cI, 20, .inl fa))] H := hP
  have hD : va_D A [(aa, .inr (0, [.ref a1, .int 1, .int sl, .int 3, .int vv])), (a1, .inl (cI, 20, .inl fa))] := hD
  obtain rfl : r_3 = 1 := w_2
  refine lv_istore (lv' := [(5, .int 1), (0, .ref aa), (1, .int 3), (2, .int 0), (3, .int xx), (4, .int 1)]) hx hb dX0_ask_5 hl (by decide) rfl (fun ls hl => ?_)
  refine lv_iload hx hb dX0_ask_7 (lv_at hl 0 rfl) ?_
  refine lv_if_eq (tgt := 19) hx hb dX0_ask_9 (by decide) (fun c_0 => absurd c_0 (by decide)) (fun _ => ?_)
  refine lv_iload hx hb dX0_ask_12 (lv_at hl 5 rfl) ?_
  refine lv_bipush (v := 40) hx hb dX0_ask_14 (by decide) ?_
  refine lv_icmp_le (tgt := 21) hx hb dX0_ask_16 (by decide) (fun _ => ?_) (fun c_0 => absurd (by decide) c_0)
  refine lv_aload_n hx hb dX0_ask_21 rfl (lv_at hl 1 rfl) ?_
  refine lv_iload hx hb dX0_ask_22 (lv_at hl 0 rfl) ?_
  refine contV (wc := [(aa, .inr (0, [.ref a1, .int 1, .int sl, .int 3, .int vv])), (a1, .inl (cI, 20, .inl fa))]) (wr := []) C0 hP hD hS [0, 1] [] rfl rfl (by decide) (by decide) 0 0 (Nat.le_of_ble_eq_true rfl) (Nat.le_of_ble_eq_true rfl) (runV (k := 1) (As := [.int 1]) (rest := []) C0 (c_begin_1 l D cI cZ cQ cT _ aa 1 a1 sl 3 vv fa) wc_X0_begin wl_X0_52 wi_X0_begin we_X0_begin wz_X0 ⟨by decide, by decide, by decide +kernel⟩ ⟨(Nat.le_of_ble_eq_true rfl), (Nat.le_of_ble_eq_true rfl)⟩ hP hD hS EF.ok hX [0, 1] rfl (by decide) 0 rfl rfl rfl rfl hl.1 rfl (Nat.le_of_ble_eq_true rfl) dX0_ask_24 ⟨(Nat.le_of_ble_eq_true rfl), (Nat.le_of_ble_eq_true rfl)⟩) (fun u_4 H locs w_5 hP hD hS => ?_)
  have hP : va_P D CL [(aa, .inr (0, [.ref a1, .int 2, .int sl, .int 3, .int vv])), (a1, .inl (cI, 20, .inl (upd fa 1 (1 : Int32))))] H := hP
  have hD : va_D A [(aa, .inr (0, [.ref a1, .int 2, .int sl, .int 3, .int vv])), (a1, .inl (cI, 20, .inl (upd fa 1 (1 : Int32))))] := hD
  refine lv_iload hx hb dX0_ask_27 (lv_at hl 5 rfl) ?_
  refine lv_iconst (v := 1) hx hb dX0_ask_29 (by decide) ?_
  refine lv_iadd hx hb dX0_ask_30 ?_
  refine lv_ci 2 (by decide +kernel) ?_
  refine lv_istore (lv' := [(6, .int 2), (5, .int 1), (0, .ref aa), (1, .int 3), (2, .int 0), (3, .int xx), (4, .int 1)]) hx hb dX0_ask_31 hl (by decide) rfl (fun ls hl => ?_)
  refine lv_iload hx hb dX0_ask_33 (lv_at hl 1 rfl) ?_
  refine lv_lookup (off := 81) (tgt := 116) hx hb dX0_ask_35 (by decide) (by decide) (by decide) ?_
  refine lv_iload_n hx hb dX0_ask_116 rfl (lv_at hl 5 rfl) ?_
  refine lv_aload_n hx hb dX0_ask_117 rfl (lv_at hl 2 rfl) ?_
  refine va_get (ci := 0) (v := .int sl) (C := RX0) (T := TX0) (N := 5) hx hb hT wu_X0 hown hK hP 0 rfl rfl 2 (by decide) (hT _ wf_X0_25) (fun _ h9 => h9) rfl dX0_ask_118 ?_
  refine lv_iadd hx hb dX0_ask_121 ?_
  exact retI C0 rfl () rfl (hP.sub (ws' := [(aa, .inr (0, [.ref a1, .int 2, .int sl, .int 3, .int vv])), (a1, .inl (cI, 20, .inl (upd fa 1 1)))]) [0, 1] rfl) (hD.sub (ws' := [(aa, .inr (0, [.ref a1, .int 2, .int sl, .int 3, .int vv])), (a1, .inl (cI, 20, .inl (upd fa 1 1)))]) [0, 1] (by decide) rfl) hS (Nat.le_of_ble_eq_true rfl) (Nat.le_of_ble_eq_true rfl) dX0_ask_122

set_option maxHeartbeats 4000000 in
set_option maxRecDepth 100000 in
theorem c_ask_3_3_1_0_0 (l : Launch) (D : va_G) (cI cZ cQ cT : ClassId) (sz : Nat) (aa : Nat) (xx : Int32) (a1 : Nat) (sl : Int32) (vv : Int32) (fa : Nat → Int32)  : MetI l yX0_ask cX0_ask 7 .int ({ frames := 2, cells := 0, slots := 0, locals := 50 } : Room) [.ref aa, .int 3, .int 1, .int xx, .int 0] D (TYS cI cZ cQ cT) EF sz [(aa, .inr (0, [.ref a1, .int 0, .int sl, .int 3, .int vv])), (a1, .inl (cI, 20, .inl fa))] (S := Unit) (fun (r : Int32) (_ : Unit) => r = ((xx + sl) - vv)) (fun _ => [(aa, .inr (0, [.ref a1, .int 2, .int sl, .int 3, .int vv])), (a1, .inl (cI, 20, .inl (upd (upd fa 0 2) 1 1)))]) := by
  refine MetI.mk (lv := [(0, .ref aa), (1, .int 3), (2, .int 1), (3, .int xx), (4, .int 0)]) (by decide +kernel) (Nat.le_of_ble_eq_true rfl) rfl ?_
  intro p e s m below meth c A ls C0 hP hD hS hX hl
  have C1 := C0
  obtain ⟨hx, hb, hr, hml, hown, hlocks, hname, hT, hN, hK, hA⟩ := C1
  refine lv_iload_n hx hb dX0_ask_0 rfl (lv_at hl 1 rfl) ?_
  refine lv_iload_n hx hb dX0_ask_1 rfl (lv_at hl 2 rfl) ?_
  refine contI (wc := []) (wr := [(aa, .inr (0, [.ref a1, .int 0, .int sl, .int 3, .int vv])), (a1, .inl (cI, 20, .inl fa))]) C0 hP hD hS [] [0, 1] rfl rfl (by decide) (by decide) 0 0 (Nat.le_of_ble_eq_true rfl) (Nat.le_of_ble_eq_true rfl) (runS (k := 2) (As := [.int 3, .int 1]) (rest := []) C0 (c_bodyOf_3_1 l D cI cZ cQ cT _ ) wc_X0_bodyOf wl_X0_48 wt_X0_bodyOf wz_X0 ⟨by decide, by decide, by decide +kernel⟩ ⟨(Nat.le_of_ble_eq_true rfl), (Nat.le_of_ble_eq_true rfl)⟩ hP hD hS EF.ok hX [] rfl (by decide) rfl hl.1 rfl (Nat.le_of_ble_eq_true rfl) dX0_ask_2 ⟨(Nat.le_of_ble_eq_true rfl), (Nat.le_of_ble_eq_true rfl)⟩) (fun r_3 u_1 H locs w_2 hP hD hS => ?_)
  have hP : va_P D CL [(aa, .inr (0, [.ref a1, .int 0, .int sl, .int 3, .int vv])), (a1, .inl (cI, 20, .inl fa))] H := hP
  have hD : va_D A [(aa, .inr (0, [.ref a1, .int 0, .int sl, .int 3, .int vv])), (a1, .inl (cI, 20, .inl fa))] := hD
  obtain rfl : r_3 = 2 := w_2
  refine lv_istore (lv' := [(5, .int 2), (0, .ref aa), (1, .int 3), (2, .int 1), (3, .int xx), (4, .int 0)]) hx hb dX0_ask_5 hl (by decide) rfl (fun ls hl => ?_)
  refine lv_iload hx hb dX0_ask_7 (lv_at hl 0 rfl) ?_
  refine lv_if_eq (tgt := 19) hx hb dX0_ask_9 (by decide) (fun c_0 => absurd c_0 (by decide)) (fun _ => ?_)
  refine lv_iload hx hb dX0_ask_12 (lv_at hl 5 rfl) ?_
  refine lv_bipush (v := 40) hx hb dX0_ask_14 (by decide) ?_
  refine lv_icmp_le (tgt := 21) hx hb dX0_ask_16 (by decide) (fun _ => ?_) (fun c_0 => absurd (by decide) c_0)
  refine lv_aload_n hx hb dX0_ask_21 rfl (lv_at hl 1 rfl) ?_
  refine lv_iload hx hb dX0_ask_22 (lv_at hl 0 rfl) ?_
  refine contV (wc := [(aa, .inr (0, [.ref a1, .int 0, .int sl, .int 3, .int vv])), (a1, .inl (cI, 20, .inl fa))]) (wr := []) C0 hP hD hS [0, 1] [] rfl rfl (by decide) (by decide) 0 0 (Nat.le_of_ble_eq_true rfl) (Nat.le_of_ble_eq_true rfl) (runV (k := 1) (As := [.int 2]) (rest := []) C0 (c_begin_0 l D cI cZ cQ cT _ aa 2 a1 sl 3 vv fa) wc_X0_begin wl_X0_52 wi_X0_begin we_X0_begin wz_X0 ⟨by decide, by decide, by decide +kernel⟩ ⟨(Nat.le_of_ble_eq_true rfl), (Nat.le_of_ble_eq_true rfl)⟩ hP hD hS EF.ok hX [0, 1] rfl (by decide) 0 rfl rfl rfl rfl hl.1 rfl (Nat.le_of_ble_eq_true rfl) dX0_ask_24 ⟨(Nat.le_of_ble_eq_true rfl), (Nat.le_of_ble_eq_true rfl)⟩) (fun u_4 H locs w_5 hP hD hS => ?_)
  have hP : va_P D CL [(aa, .inr (0, [.ref a1, .int 1, .int sl, .int 3, .int vv])), (a1, .inl (cI, 20, .inl (upd fa 0 (2 : Int32))))] H := hP
  have hD : va_D A [(aa, .inr (0, [.ref a1, .int 1, .int sl, .int 3, .int vv])), (a1, .inl (cI, 20, .inl (upd fa 0 (2 : Int32))))] := hD
  refine lv_iload hx hb dX0_ask_27 (lv_at hl 5 rfl) ?_
  refine lv_iconst (v := 1) hx hb dX0_ask_29 (by decide) ?_
  refine lv_iadd hx hb dX0_ask_30 ?_
  refine lv_ci 1 (by decide +kernel) ?_
  refine lv_istore (lv' := [(6, .int 1), (5, .int 2), (0, .ref aa), (1, .int 3), (2, .int 1), (3, .int xx), (4, .int 0)]) hx hb dX0_ask_31 hl (by decide) rfl (fun ls hl => ?_)
  refine lv_iload hx hb dX0_ask_33 (lv_at hl 1 rfl) ?_
  refine lv_lookup (off := 88) (tgt := 123) hx hb dX0_ask_35 (by decide) (by decide) (by decide) ?_
  refine lv_aload_n hx hb dX0_ask_123 rfl (lv_at hl 2 rfl) ?_
  refine lv_aload_n hx hb dX0_ask_124 rfl (lv_at hl 2 rfl) ?_
  refine va_get (ci := 0) (v := .int 3) (C := RX0) (T := TX0) (N := 5) hx hb hT wu_X0 hown hK hP 0 rfl rfl 3 (by decide) (hT _ wf_X0_31) (fun _ h9 => h9) rfl dX0_ask_125 ?_
  refine lv_iconst (v := 0) hx hb dX0_ask_128 (by decide) ?_
  refine lv_iload_n hx hb dX0_ask_129 rfl (lv_at hl 5 rfl) ?_
  refine lv_iload hx hb dX0_ask_130 (lv_at hl 0 rfl) ?_
  refine contI (wc := [(aa, .inr (0, [.ref a1, .int 1, .int sl, .int 3, .int vv])), (a1, .inl (cI, 20, .inl (upd fa 0 (2 : Int32))))]) (wr := []) C0 hP hD hS [0, 1] [] rfl rfl (by decide) (by decide) 0 0 (Nat.le_of_ble_eq_true rfl) (Nat.le_of_ble_eq_true rfl) (runV (k := 4) (As := [.int 3, .int 0, .int xx, .int 1]) (rest := []) C0 (c_ask_3_3_0_1_1 l D cI cZ cQ cT _ aa xx a1 sl vv (upd fa 0 (2 : Int32))) wc_X0_ask wl_X0_38 wi_X0_ask we_X0_ask wz_X0 ⟨by decide, by decide, by decide +kernel⟩ ⟨(Nat.le_of_ble_eq_true rfl), (Nat.le_of_ble_eq_true rfl)⟩ hP hD hS EF.ok hX [0, 1] rfl (by decide) 0 rfl rfl rfl rfl hl.1 rfl (Nat.le_of_ble_eq_true rfl) dX0_ask_132 ⟨(Nat.le_of_ble_eq_true rfl), (Nat.le_of_ble_eq_true rfl)⟩) (fun r_9 u_7 H locs w_8 hP hD hS => ?_)
  have hP : va_P D CL [(aa, .inr (0, [.ref a1, .int 2, .int sl, .int 3, .int vv])), (a1, .inl (cI, 20, .inl (upd (upd fa 0 (2 : Int32)) 1 1)))] H := hP
  have hD : va_D A [(aa, .inr (0, [.ref a1, .int 2, .int sl, .int 3, .int vv])), (a1, .inl (cI, 20, .inl (upd (upd fa 0 (2 : Int32)) 1 1)))] := hD
  obtain rfl : r_9 = (xx + sl) := w_8
  refine lv_aload_n hx hb dX0_ask_135 rfl (lv_at hl 2 rfl) ?_
  refine va_get (ci := 0) (v := .int vv) (C := RX0) (T := TX0) (N := 5) hx hb hT wu_X0 hown hK hP 0 rfl rfl 4 (by decide) (hT _ wf_X0_36) (fun _ h9 => h9) rfl dX0_ask_136 ?_
  refine lv_isub hx hb dX0_ask_139 ?_
  exact retI C0 rfl () rfl (hP.sub (ws' := [(aa, .inr (0, [.ref a1, .int 2, .int sl, .int 3, .int vv])), (a1, .inl (cI, 20, .inl (upd (upd fa 0 2) 1 1)))]) [0, 1] rfl) (hD.sub (ws' := [(aa, .inr (0, [.ref a1, .int 2, .int sl, .int 3, .int vv])), (a1, .inl (cI, 20, .inl (upd (upd fa 0 2) 1 1)))]) [0, 1] (by decide) rfl) hS (Nat.le_of_ble_eq_true rfl) (Nat.le_of_ble_eq_true rfl) dX0_ask_140

set_option maxHeartbeats 4000000 in
set_option maxRecDepth 100000 in
theorem c_bodyOf_4_1 (l : Launch) (D : va_G) (cI cZ cQ cT : ClassId) (sz : Nat)   : MetI l yX0_bodyOf cX0_bodyOf 5 .int ({ frames := 0, cells := 0, slots := 0, locals := 0 } : Room) [.int 4, .int 1] D (TYS cI cZ cQ cT) EF sz [] (S := Unit) (fun (r : Int32) (_ : Unit) => r = 21) (fun _ => []) := by
  refine MetI.mk (lv := [(0, .int 4), (1, .int 1)]) (by decide +kernel) (Nat.le_of_ble_eq_true rfl) rfl ?_
  intro p e s m below meth c A ls C0 hP hD hS hX hl
  have C1 := C0
  obtain ⟨hx, hb, hr, hml, hown, hlocks, hname, hT, hN, hK, hA⟩ := C1
  obtain ⟨kab, hkz, hkT⟩ := hX.2.1
  obtain ⟨bdy, hbz, hbT⟩ := hX.2.2.1
  refine lv_iload_n hx hb dX0_bodyOf_0 rfl (lv_at hl 0 rfl) ?_
  refine lv_istore_n (lv' := [(2, .int 4), (0, .int 4), (1, .int 1)]) hx hb dX0_bodyOf_1 rfl hl (by decide) rfl (fun ls hl => ?_)
  refine lv_iconst (v := 0) hx hb dX0_bodyOf_2 (by decide) ?_
  refine lv_istore_n (lv' := [(3, .int 0), (2, .int 4), (0, .int 4), (1, .int 1)]) hx hb dX0_bodyOf_3 rfl hl (by decide) rfl (fun ls hl => ?_)
  refine lv_iload_n hx hb dX0_bodyOf_4 rfl (lv_at hl 0 rfl) ?_
  refine lv_bipush (v := 7) hx hb dX0_bodyOf_5 (by decide) ?_
  refine lv_icmp_ge (tgt := 69) hx hb dX0_bodyOf_7 (by decide) (fun c_0 => absurd c_0 (by decide)) (fun _ => ?_)
  refine lv_iload_n hx hb dX0_bodyOf_10 rfl (lv_at hl 1 rfl) ?_
  refine lv_if_lt (tgt := 69) hx hb dX0_bodyOf_11 (by decide) (fun c_0 => absurd c_0 (by decide)) (fun _ => ?_)
  refine lv_iload_n hx hb dX0_bodyOf_14 rfl (lv_at hl 1 rfl) ?_
  refine lv_bipush (v := 7) hx hb dX0_bodyOf_15 (by decide) ?_
  refine lv_icmp_ge (tgt := 69) hx hb dX0_bodyOf_17 (by decide) (fun c_0 => absurd c_0 (by decide)) (fun _ => ?_)
  refine lv_iload_n hx hb dX0_bodyOf_20 rfl (lv_at hl 1 rfl) ?_
  refine lv_iconst (v := 3) hx hb dX0_bodyOf_21 (by decide) ?_
  refine lv_imul hx hb dX0_bodyOf_22 ?_
  refine lv_ci 12 (by decide +kernel) ?_
  refine lv_iload_n hx hb dX0_bodyOf_23 rfl (lv_at hl 3 rfl) ?_
  refine lv_iadd hx hb dX0_bodyOf_24 ?_
  refine lv_ci 13 (by decide +kernel) ?_
  refine lv_istore (lv' := [(4, .int 13), (3, .int 0), (2, .int 4), (0, .int 4), (1, .int 1)]) hx hb dX0_bodyOf_25 hl (by decide) rfl (fun ls hl => ?_)
  refine lv_iload hx hb dX0_bodyOf_27 (lv_at hl 0 rfl) ?_
  refine lv_if_lt (tgt := 57) hx hb dX0_bodyOf_29 (by decide) (fun c_0 => absurd c_0 (by decide)) (fun _ => ?_)
  refine lv_iload hx hb dX0_bodyOf_32 (lv_at hl 0 rfl) ?_
  refine va_gets hx hb hbz hS hown (hT _ wf_X0_42) (fun _ h9 => h9) dX0_bodyOf_34 ?_
  refine va_tlen hx hb hbT hS (v := 21) rfl dX0_bodyOf_37 ?_
  refine lv_icmp_ge (tgt := 57) hx hb dX0_bodyOf_38 (by decide) (fun c_0 => absurd c_0 (by decide)) (fun _ => ?_)
  refine va_gets hx hb hbz hS hown (hT _ wf_X0_42) (fun _ h9 => h9) dX0_bodyOf_41 ?_
  refine lv_iload hx hb dX0_bodyOf_44 (lv_at hl 0 rfl) ?_
  refine va_ti hx hb hbT hS (vin _ _ (by decide +kernel)) (v := .int 0) rfl dX0_bodyOf_46 ?_
  refine lv_if_eq (tgt := 57) hx hb dX0_bodyOf_47 (by decide) (fun _ => ?_) (fun c_0 => absurd (by decide) c_0)
  refine va_getsN hx hb hkz hS hown (va_Nw.use rfl (hN.get 750 kf_X0_45 rfl)) (fun _ h9 => h9) dX0_bodyOf_57 ?_
  refine lv_iload_n hx hb dX0_bodyOf_60 rfl (lv_at hl 2 rfl) ?_
  refine va_ti hx hb hkT hS (vin _ _ (by decide +kernel)) (v := .int 2) rfl dX0_bodyOf_61 ?_
  refine lv_istore_n (lv' := [(2, .int 2), (4, .int 13), (3, .int 0), (0, .int 4), (1, .int 1)]) hx hb dX0_bodyOf_62 rfl hl (by decide) rfl (fun ls hl => ?_)
  refine lv_iinc (v := 1) (lv' := [(3, .int 1), (2, .int 2), (4, .int 13), (0, .int 4), (1, .int 1)]) hx hb dX0_bodyOf_63 hl (k := 2) rfl (by decide) (by decide) rfl (fun ls hl => ?_)
  refine lv_goto (tgt := 4) hx hb dX0_bodyOf_66 (by decide) ?_
  refine lv_iload_n hx hb dX0_bodyOf_4 rfl (lv_at hl 0 rfl) ?_
  refine lv_bipush (v := 7) hx hb dX0_bodyOf_5 (by decide) ?_
  refine lv_icmp_ge (tgt := 69) hx hb dX0_bodyOf_7 (by decide) (fun c_0 => absurd c_0 (by decide)) (fun _ => ?_)
  refine lv_iload_n hx hb dX0_bodyOf_10 rfl (lv_at hl 1 rfl) ?_
  refine lv_if_lt (tgt := 69) hx hb dX0_bodyOf_11 (by decide) (fun c_0 => absurd c_0 (by decide)) (fun _ => ?_)
  refine lv_iload_n hx hb dX0_bodyOf_14 rfl (lv_at hl 1 rfl) ?_
  refine lv_bipush (v := 7) hx hb dX0_bodyOf_15 (by decide) ?_
  refine lv_icmp_ge (tgt := 69) hx hb dX0_bodyOf_17 (by decide) (fun c_0 => absurd c_0 (by decide)) (fun _ => ?_)
  refine lv_iload_n hx hb dX0_bodyOf_20 rfl (lv_at hl 1 rfl) ?_
  refine lv_iconst (v := 3) hx hb dX0_bodyOf_21 (by decide) ?_
  refine lv_imul hx hb dX0_bodyOf_22 ?_
  refine lv_ci 6 (by decide +kernel) ?_
  refine lv_iload_n hx hb dX0_bodyOf_23 rfl (lv_at hl 4 rfl) ?_
  refine lv_iadd hx hb dX0_bodyOf_24 ?_
  refine lv_ci 7 (by decide +kernel) ?_
  refine lv_istore (lv' := [(4, .int 7), (3, .int 1), (2, .int 2), (0, .int 4), (1, .int 1)]) hx hb dX0_bodyOf_25 hl (by decide) rfl (fun ls hl => ?_)
  refine lv_iload hx hb dX0_bodyOf_27 (lv_at hl 0 rfl) ?_
  refine lv_if_lt (tgt := 57) hx hb dX0_bodyOf_29 (by decide) (fun c_0 => absurd c_0 (by decide)) (fun _ => ?_)
  refine lv_iload hx hb dX0_bodyOf_32 (lv_at hl 0 rfl) ?_
  refine va_gets hx hb hbz hS hown (hT _ wf_X0_42) (fun _ h9 => h9) dX0_bodyOf_34 ?_
  refine va_tlen hx hb hbT hS (v := 21) rfl dX0_bodyOf_37 ?_
  refine lv_icmp_ge (tgt := 57) hx hb dX0_bodyOf_38 (by decide) (fun c_0 => absurd c_0 (by decide)) (fun _ => ?_)
  refine va_gets hx hb hbz hS hown (hT _ wf_X0_42) (fun _ h9 => h9) dX0_bodyOf_41 ?_
  refine lv_iload hx hb dX0_bodyOf_44 (lv_at hl 0 rfl) ?_
  refine va_ti hx hb hbT hS (vin _ _ (by decide +kernel)) (v := .int 21) rfl dX0_bodyOf_46 ?_
  refine lv_if_eq (tgt := 57) hx hb dX0_bodyOf_47 (by decide) (fun c_0 => absurd c_0 (by decide)) (fun _ => ?_)
  refine va_gets hx hb hbz hS hown (hT _ wf_X0_42) (fun _ h9 => h9) dX0_bodyOf_50 ?_
  refine lv_iload hx hb dX0_bodyOf_53 (lv_at hl 0 rfl) ?_
  refine va_ti hx hb hbT hS (vin _ _ (by decide +kernel)) (v := .int 21) rfl dX0_bodyOf_55 ?_
  exact retI C0 rfl () rfl (hP.sub (ws' := []) [] rfl) (hD.sub (ws' := []) [] (by decide) rfl) hS (Nat.le_of_ble_eq_true rfl) (Nat.le_of_ble_eq_true rfl) dX0_bodyOf_56

set_option maxHeartbeats 4000000 in
set_option maxRecDepth 100000 in
theorem c_ask_4_4_0_2_2 (l : Launch) (D : va_G) (cI cZ cQ cT : ClassId) (sz : Nat) (aa : Nat) (xx : Int32) (a1 : Nat) (sl : Int32) (vv : Int32) (fa : Nat → Int32)  : MetI l yX0_ask cX0_ask 7 .int ({ frames := 1, cells := 0, slots := 0, locals := 24 } : Room) [.ref aa, .int 4, .int 0, .int xx, .int 2] D (TYS cI cZ cQ cT) EF sz [(aa, .inr (0, [.ref a1, .int 2, .int sl, .int 4, .int vv])), (a1, .inl (cI, 20, .inl fa))] (S := Unit) (fun (r : Int32) (_ : Unit) => r = (xx + sl)) (fun _ => [(aa, .inr (0, [.ref a1, .int 3, .int sl, .int 4, .int vv])), (a1, .inl (cI, 20, .inl (upd fa 2 1)))]) := by
  refine MetI.mk (lv := [(0, .ref aa), (1, .int 4), (2, .int 0), (3, .int xx), (4, .int 2)]) (by decide +kernel) (Nat.le_of_ble_eq_true rfl) rfl ?_
  intro p e s m below meth c A ls C0 hP hD hS hX hl
  have C1 := C0
  obtain ⟨hx, hb, hr, hml, hown, hlocks, hname, hT, hN, hK, hA⟩ := C1
  refine lv_iload_n hx hb dX0_ask_0 rfl (lv_at hl 1 rfl) ?_
  refine lv_iload_n hx hb dX0_ask_1 rfl (lv_at hl 2 rfl) ?_
  refine contI (wc := []) (wr := [(aa, .inr (0, [.ref a1, .int 2, .int sl, .int 4, .int vv])), (a1, .inl (cI, 20, .inl fa))]) C0 hP hD hS [] [0, 1] rfl rfl (by decide) (by decide) 0 0 (Nat.le_of_ble_eq_true rfl) (Nat.le_of_ble_eq_true rfl) (runS (k := 2) (As := [.int 4, .int 0]) (rest := []) C0 (c_bodyOf_4_0 l D cI cZ cQ cT _ ) wc_X0_bodyOf wl_X0_48 wt_X0_bodyOf wz_X0 ⟨by decide, by decide, by decide +kernel⟩ ⟨(Nat.le_of_ble_eq_true rfl), (Nat.le_of_ble_eq_true rfl)⟩ hP hD hS EF.ok hX [] rfl (by decide) rfl hl.1 rfl (Nat.le_of_ble_eq_true rfl) dX0_ask_2 ⟨(Nat.le_of_ble_eq_true rfl), (Nat.le_of_ble_eq_true rfl)⟩) (fun r_3 u_1 H locs w_2 hP hD hS => ?_)
  have hP : va_P D CL [(aa, .inr (0, [.ref a1, .int 2, .int sl, .int 4, .int vv])), (a1, .inl (cI, 20, .inl fa))] H := hP
  have hD : va_D A [(aa, .inr (0, [.ref a1, .int 2, .int sl, .int 4, .int vv])), (a1, .inl (cI, 20, .inl fa))] := hD
  obtain rfl : r_3 = 1 := w_2
  refine lv_istore (lv' := [(5, .int 1), (0, .ref aa), (1, .int 4), (2, .int 0), (3, .int xx), (4, .int 2)]) hx hb dX0_ask_5 hl (by decide) rfl (fun ls hl => ?_)
  refine lv_iload hx hb dX0_ask_7 (lv_at hl 0 rfl) ?_
  refine lv_if_eq (tgt := 19) hx hb dX0_ask_9 (by decide) (fun c_0 => absurd c_0 (by decide)) (fun _ => ?_)
  refine lv_iload hx hb dX0_ask_12 (lv_at hl 5 rfl) ?_
  refine lv_bipush (v := 40) hx hb dX0_ask_14 (by decide) ?_
  refine lv_icmp_le (tgt := 21) hx hb dX0_ask_16 (by decide) (fun _ => ?_) (fun c_0 => absurd (by decide) c_0)
  refine lv_aload_n hx hb dX0_ask_21 rfl (lv_at hl 1 rfl) ?_
  refine lv_iload hx hb dX0_ask_22 (lv_at hl 0 rfl) ?_
  refine contV (wc := [(aa, .inr (0, [.ref a1, .int 2, .int sl, .int 4, .int vv])), (a1, .inl (cI, 20, .inl fa))]) (wr := []) C0 hP hD hS [0, 1] [] rfl rfl (by decide) (by decide) 0 0 (Nat.le_of_ble_eq_true rfl) (Nat.le_of_ble_eq_true rfl) (runV (k := 1) (As := [.int 1]) (rest := []) C0 (c_begin_2 l D cI cZ cQ cT _ aa 1 a1 sl 4 vv fa) wc_X0_begin wl_X0_52 wi_X0_begin we_X0_begin wz_X0 ⟨by decide, by decide, by decide +kernel⟩ ⟨(Nat.le_of_ble_eq_true rfl), (Nat.le_of_ble_eq_true rfl)⟩ hP hD hS EF.ok hX [0, 1] rfl (by decide) 0 rfl rfl rfl rfl hl.1 rfl (Nat.le_of_ble_eq_true rfl) dX0_ask_24 ⟨(Nat.le_of_ble_eq_true rfl), (Nat.le_of_ble_eq_true rfl)⟩) (fun u_4 H locs w_5 hP hD hS => ?_)
  have hP : va_P D CL [(aa, .inr (0, [.ref a1, .int 3, .int sl, .int 4, .int vv])), (a1, .inl (cI, 20, .inl (upd fa 2 (1 : Int32))))] H := hP
  have hD : va_D A [(aa, .inr (0, [.ref a1, .int 3, .int sl, .int 4, .int vv])), (a1, .inl (cI, 20, .inl (upd fa 2 (1 : Int32))))] := hD
  refine lv_iload hx hb dX0_ask_27 (lv_at hl 5 rfl) ?_
  refine lv_iconst (v := 1) hx hb dX0_ask_29 (by decide) ?_
  refine lv_iadd hx hb dX0_ask_30 ?_
  refine lv_ci 3 (by decide +kernel) ?_
  refine lv_istore (lv' := [(6, .int 3), (5, .int 1), (0, .ref aa), (1, .int 4), (2, .int 0), (3, .int xx), (4, .int 2)]) hx hb dX0_ask_31 hl (by decide) rfl (fun ls hl => ?_)
  refine lv_iload hx hb dX0_ask_33 (lv_at hl 1 rfl) ?_
  refine lv_lookup (off := 81) (tgt := 116) hx hb dX0_ask_35 (by decide) (by decide) (by decide) ?_
  refine lv_iload_n hx hb dX0_ask_116 rfl (lv_at hl 5 rfl) ?_
  refine lv_aload_n hx hb dX0_ask_117 rfl (lv_at hl 2 rfl) ?_
  refine va_get (ci := 0) (v := .int sl) (C := RX0) (T := TX0) (N := 5) hx hb hT wu_X0 hown hK hP 0 rfl rfl 2 (by decide) (hT _ wf_X0_25) (fun _ h9 => h9) rfl dX0_ask_118 ?_
  refine lv_iadd hx hb dX0_ask_121 ?_
  exact retI C0 rfl () rfl (hP.sub (ws' := [(aa, .inr (0, [.ref a1, .int 3, .int sl, .int 4, .int vv])), (a1, .inl (cI, 20, .inl (upd fa 2 1)))]) [0, 1] rfl) (hD.sub (ws' := [(aa, .inr (0, [.ref a1, .int 3, .int sl, .int 4, .int vv])), (a1, .inl (cI, 20, .inl (upd fa 2 1)))]) [0, 1] (by decide) rfl) hS (Nat.le_of_ble_eq_true rfl) (Nat.le_of_ble_eq_true rfl) dX0_ask_122

set_option maxHeartbeats 4000000 in
set_option maxRecDepth 100000 in
theorem c_ask_4_0_1_1_1 (l : Launch) (D : va_G) (cI cZ cQ cT : ClassId) (sz : Nat) (aa : Nat) (xx : Int32) (a1 : Nat) (sl : Int32) (vv : Int32) (fa : Nat → Int32)  : MetI l yX0_ask cX0_ask 7 .int ({ frames := 2, cells := 0, slots := 0, locals := 50 } : Room) [.ref aa, .int 0, .int 1, .int xx, .int 1] D (TYS cI cZ cQ cT) EF sz [(aa, .inr (0, [.ref a1, .int 1, .int sl, .int 4, .int vv])), (a1, .inl (cI, 20, .inl fa))] (S := Unit) (fun (r : Int32) (_ : Unit) => r = ((xx + sl) - vv)) (fun _ => [(aa, .inr (0, [.ref a1, .int 3, .int sl, .int 4, .int vv])), (a1, .inl (cI, 20, .inl (upd (upd fa 1 2) 2 1)))]) := by
  refine MetI.mk (lv := [(0, .ref aa), (1, .int 0), (2, .int 1), (3, .int xx), (4, .int 1)]) (by decide +kernel) (Nat.le_of_ble_eq_true rfl) rfl ?_
  intro p e s m below meth c A ls C0 hP hD hS hX hl
  have C1 := C0
  obtain ⟨hx, hb, hr, hml, hown, hlocks, hname, hT, hN, hK, hA⟩ := C1
  refine lv_iload_n hx hb dX0_ask_0 rfl (lv_at hl 1 rfl) ?_
  refine lv_iload_n hx hb dX0_ask_1 rfl (lv_at hl 2 rfl) ?_
  refine contI (wc := []) (wr := [(aa, .inr (0, [.ref a1, .int 1, .int sl, .int 4, .int vv])), (a1, .inl (cI, 20, .inl fa))]) C0 hP hD hS [] [0, 1] rfl rfl (by decide) (by decide) 0 0 (Nat.le_of_ble_eq_true rfl) (Nat.le_of_ble_eq_true rfl) (runS (k := 2) (As := [.int 0, .int 1]) (rest := []) C0 (c_bodyOf_0_1 l D cI cZ cQ cT _ ) wc_X0_bodyOf wl_X0_48 wt_X0_bodyOf wz_X0 ⟨by decide, by decide, by decide +kernel⟩ ⟨(Nat.le_of_ble_eq_true rfl), (Nat.le_of_ble_eq_true rfl)⟩ hP hD hS EF.ok hX [] rfl (by decide) rfl hl.1 rfl (Nat.le_of_ble_eq_true rfl) dX0_ask_2 ⟨(Nat.le_of_ble_eq_true rfl), (Nat.le_of_ble_eq_true rfl)⟩) (fun r_3 u_1 H locs w_2 hP hD hS => ?_)
  have hP : va_P D CL [(aa, .inr (0, [.ref a1, .int 1, .int sl, .int 4, .int vv])), (a1, .inl (cI, 20, .inl fa))] H := hP
  have hD : va_D A [(aa, .inr (0, [.ref a1, .int 1, .int sl, .int 4, .int vv])), (a1, .inl (cI, 20, .inl fa))] := hD
  obtain rfl : r_3 = 2 := w_2
  refine lv_istore (lv' := [(5, .int 2), (0, .ref aa), (1, .int 0), (2, .int 1), (3, .int xx), (4, .int 1)]) hx hb dX0_ask_5 hl (by decide) rfl (fun ls hl => ?_)
  refine lv_iload hx hb dX0_ask_7 (lv_at hl 0 rfl) ?_
  refine lv_if_eq (tgt := 19) hx hb dX0_ask_9 (by decide) (fun c_0 => absurd c_0 (by decide)) (fun _ => ?_)
  refine lv_iload hx hb dX0_ask_12 (lv_at hl 5 rfl) ?_
  refine lv_bipush (v := 40) hx hb dX0_ask_14 (by decide) ?_
  refine lv_icmp_le (tgt := 21) hx hb dX0_ask_16 (by decide) (fun _ => ?_) (fun c_0 => absurd (by decide) c_0)
  refine lv_aload_n hx hb dX0_ask_21 rfl (lv_at hl 1 rfl) ?_
  refine lv_iload hx hb dX0_ask_22 (lv_at hl 0 rfl) ?_
  refine contV (wc := [(aa, .inr (0, [.ref a1, .int 1, .int sl, .int 4, .int vv])), (a1, .inl (cI, 20, .inl fa))]) (wr := []) C0 hP hD hS [0, 1] [] rfl rfl (by decide) (by decide) 0 0 (Nat.le_of_ble_eq_true rfl) (Nat.le_of_ble_eq_true rfl) (runV (k := 1) (As := [.int 2]) (rest := []) C0 (c_begin_1 l D cI cZ cQ cT _ aa 2 a1 sl 4 vv fa) wc_X0_begin wl_X0_52 wi_X0_begin we_X0_begin wz_X0 ⟨by decide, by decide, by decide +kernel⟩ ⟨(Nat.le_of_ble_eq_true rfl), (Nat.le_of_ble_eq_true rfl)⟩ hP hD hS EF.ok hX [0, 1] rfl (by decide) 0 rfl rfl rfl rfl hl.1 rfl (Nat.le_of_ble_eq_true rfl) dX0_ask_24 ⟨(Nat.le_of_ble_eq_true rfl), (Nat.le_of_ble_eq_true rfl)⟩) (fun u_4 H locs w_5 hP hD hS => ?_)
  have hP : va_P D CL [(aa, .inr (0, [.ref a1, .int 2, .int sl, .int 4, .int vv])), (a1, .inl (cI, 20, .inl (upd fa 1 (2 : Int32))))] H := hP
  have hD : va_D A [(aa, .inr (0, [.ref a1, .int 2, .int sl, .int 4, .int vv])), (a1, .inl (cI, 20, .inl (upd fa 1 (2 : Int32))))] := hD
  refine lv_iload hx hb dX0_ask_27 (lv_at hl 5 rfl) ?_
  refine lv_iconst (v := 1) hx hb dX0_ask_29 (by decide) ?_
  refine lv_iadd hx hb dX0_ask_30 ?_
  refine lv_ci 2 (by decide +kernel) ?_
  refine lv_istore (lv' := [(6, .int 2), (5, .int 2), (0, .ref aa), (1, .int 0), (2, .int 1), (3, .int xx), (4, .int 1)]) hx hb dX0_ask_31 hl (by decide) rfl (fun ls hl => ?_)
  refine lv_iload hx hb dX0_ask_33 (lv_at hl 1 rfl) ?_
  refine lv_lookup (off := 88) (tgt := 123) hx hb dX0_ask_35 (by decide) (by decide) (by decide) ?_
  refine lv_aload_n hx hb dX0_ask_123 rfl (lv_at hl 2 rfl) ?_
  refine lv_aload_n hx hb dX0_ask_124 rfl (lv_at hl 2 rfl) ?_
  refine va_get (ci := 0) (v := .int 4) (C := RX0) (T := TX0) (N := 5) hx hb hT wu_X0 hown hK hP 0 rfl rfl 3 (by decide) (hT _ wf_X0_31) (fun _ h9 => h9) rfl dX0_ask_125 ?_
  refine lv_iconst (v := 0) hx hb dX0_ask_128 (by decide) ?_
  refine lv_iload_n hx hb dX0_ask_129 rfl (lv_at hl 5 rfl) ?_
  refine lv_iload hx hb dX0_ask_130 (lv_at hl 0 rfl) ?_
  refine contI (wc := [(aa, .inr (0, [.ref a1, .int 2, .int sl, .int 4, .int vv])), (a1, .inl (cI, 20, .inl (upd fa 1 (2 : Int32))))]) (wr := []) C0 hP hD hS [0, 1] [] rfl rfl (by decide) (by decide) 0 0 (Nat.le_of_ble_eq_true rfl) (Nat.le_of_ble_eq_true rfl) (runV (k := 4) (As := [.int 4, .int 0, .int xx, .int 2]) (rest := []) C0 (c_ask_4_4_0_2_2 l D cI cZ cQ cT _ aa xx a1 sl vv (upd fa 1 (2 : Int32))) wc_X0_ask wl_X0_38 wi_X0_ask we_X0_ask wz_X0 ⟨by decide, by decide, by decide +kernel⟩ ⟨(Nat.le_of_ble_eq_true rfl), (Nat.le_of_ble_eq_true rfl)⟩ hP hD hS EF.ok hX [0, 1] rfl (by decide) 0 rfl rfl rfl rfl hl.1 rfl (Nat.le_of_ble_eq_true rfl) dX0_ask_132 ⟨(Nat.le_of_ble_eq_true rfl), (Nat.le_of_ble_eq_true rfl)⟩) (fun r_9 u_7 H locs w_8 hP hD hS => ?_)
  have hP : va_P D CL [(aa, .inr (0, [.ref a1, .int 3, .int sl, .int 4, .int vv])), (a1, .inl (cI, 20, .inl (upd (upd fa 1 (2 : Int32)) 2 1)))] H := hP
  have hD : va_D A [(aa, .inr (0, [.ref a1, .int 3, .int sl, .int 4, .int vv])), (a1, .inl (cI, 20, .inl (upd (upd fa 1 (2 : Int32)) 2 1)))] := hD
  obtain rfl : r_9 = (xx + sl) := w_8
  refine lv_aload_n hx hb dX0_ask_135 rfl (lv_at hl 2 rfl) ?_
  refine va_get (ci := 0) (v := .int vv) (C := RX0) (T := TX0) (N := 5) hx hb hT wu_X0 hown hK hP 0 rfl rfl 4 (by decide) (hT _ wf_X0_36) (fun _ h9 => h9) rfl dX0_ask_136 ?_
  refine lv_isub hx hb dX0_ask_139 ?_
  exact retI C0 rfl () rfl (hP.sub (ws' := [(aa, .inr (0, [.ref a1, .int 3, .int sl, .int 4, .int vv])), (a1, .inl (cI, 20, .inl (upd (upd fa 1 2) 2 1)))]) [0, 1] rfl) (hD.sub (ws' := [(aa, .inr (0, [.ref a1, .int 3, .int sl, .int 4, .int vv])), (a1, .inl (cI, 20, .inl (upd (upd fa 1 2) 2 1)))]) [0, 1] (by decide) rfl) hS (Nat.le_of_ble_eq_true rfl) (Nat.le_of_ble_eq_true rfl) dX0_ask_140

set_option maxHeartbeats 4000000 in
set_option maxRecDepth 100000 in
theorem c_ask_4_4_1_0_0 (l : Launch) (D : va_G) (cI cZ cQ cT : ClassId) (sz : Nat) (aa : Nat) (xx : Int32) (a1 : Nat) (sl : Int32) (vv : Int32) (fa : Nat → Int32)  : MetI l yX0_ask cX0_ask 7 .int ({ frames := 3, cells := 0, slots := 0, locals := 76 } : Room) [.ref aa, .int 4, .int 1, .int xx, .int 0] D (TYS cI cZ cQ cT) EF sz [(aa, .inr (0, [.ref a1, .int 0, .int sl, .int 4, .int vv])), (a1, .inl (cI, 20, .inl fa))] (S := Unit) (fun (r : Int32) (_ : Unit) => r = (-((xx + sl) - vv))) (fun _ => [(aa, .inr (0, [.ref a1, .int 3, .int sl, .int 4, .int vv])), (a1, .inl (cI, 20, .inl (upd (upd (upd fa 0 21) 1 2) 2 1)))]) := by
  refine MetI.mk (lv := [(0, .ref aa), (1, .int 4), (2, .int 1), (3, .int xx), (4, .int 0)]) (by decide +kernel) (Nat.le_of_ble_eq_true rfl) rfl ?_
  intro p e s m below meth c A ls C0 hP hD hS hX hl
  have C1 := C0
  obtain ⟨hx, hb, hr, hml, hown, hlocks, hname, hT, hN, hK, hA⟩ := C1
  refine lv_iload_n hx hb dX0_ask_0 rfl (lv_at hl 1 rfl) ?_
  refine lv_iload_n hx hb dX0_ask_1 rfl (lv_at hl 2 rfl) ?_
  refine contI (wc := []) (wr := [(aa, .inr (0, [.ref a1, .int 0, .int sl, .int 4, .int vv])), (a1, .inl (cI, 20, .inl fa))]) C0 hP hD hS [] [0, 1] rfl rfl (by decide) (by decide) 0 0 (Nat.le_of_ble_eq_true rfl) (Nat.le_of_ble_eq_true rfl) (runS (k := 2) (As := [.int 4, .int 1]) (rest := []) C0 (c_bodyOf_4_1 l D cI cZ cQ cT _ ) wc_X0_bodyOf wl_X0_48 wt_X0_bodyOf wz_X0 ⟨by decide, by decide, by decide +kernel⟩ ⟨(Nat.le_of_ble_eq_true rfl), (Nat.le_of_ble_eq_true rfl)⟩ hP hD hS EF.ok hX [] rfl (by decide) rfl hl.1 rfl (Nat.le_of_ble_eq_true rfl) dX0_ask_2 ⟨(Nat.le_of_ble_eq_true rfl), (Nat.le_of_ble_eq_true rfl)⟩) (fun r_3 u_1 H locs w_2 hP hD hS => ?_)
  have hP : va_P D CL [(aa, .inr (0, [.ref a1, .int 0, .int sl, .int 4, .int vv])), (a1, .inl (cI, 20, .inl fa))] H := hP
  have hD : va_D A [(aa, .inr (0, [.ref a1, .int 0, .int sl, .int 4, .int vv])), (a1, .inl (cI, 20, .inl fa))] := hD
  obtain rfl : r_3 = 21 := w_2
  refine lv_istore (lv' := [(5, .int 21), (0, .ref aa), (1, .int 4), (2, .int 1), (3, .int xx), (4, .int 0)]) hx hb dX0_ask_5 hl (by decide) rfl (fun ls hl => ?_)
  refine lv_iload hx hb dX0_ask_7 (lv_at hl 0 rfl) ?_
  refine lv_if_eq (tgt := 19) hx hb dX0_ask_9 (by decide) (fun c_0 => absurd c_0 (by decide)) (fun _ => ?_)
  refine lv_iload hx hb dX0_ask_12 (lv_at hl 5 rfl) ?_
  refine lv_bipush (v := 40) hx hb dX0_ask_14 (by decide) ?_
  refine lv_icmp_le (tgt := 21) hx hb dX0_ask_16 (by decide) (fun _ => ?_) (fun c_0 => absurd (by decide) c_0)
  refine lv_aload_n hx hb dX0_ask_21 rfl (lv_at hl 1 rfl) ?_
  refine lv_iload hx hb dX0_ask_22 (lv_at hl 0 rfl) ?_
  refine contV (wc := [(aa, .inr (0, [.ref a1, .int 0, .int sl, .int 4, .int vv])), (a1, .inl (cI, 20, .inl fa))]) (wr := []) C0 hP hD hS [0, 1] [] rfl rfl (by decide) (by decide) 0 0 (Nat.le_of_ble_eq_true rfl) (Nat.le_of_ble_eq_true rfl) (runV (k := 1) (As := [.int 21]) (rest := []) C0 (c_begin_0 l D cI cZ cQ cT _ aa 21 a1 sl 4 vv fa) wc_X0_begin wl_X0_52 wi_X0_begin we_X0_begin wz_X0 ⟨by decide, by decide, by decide +kernel⟩ ⟨(Nat.le_of_ble_eq_true rfl), (Nat.le_of_ble_eq_true rfl)⟩ hP hD hS EF.ok hX [0, 1] rfl (by decide) 0 rfl rfl rfl rfl hl.1 rfl (Nat.le_of_ble_eq_true rfl) dX0_ask_24 ⟨(Nat.le_of_ble_eq_true rfl), (Nat.le_of_ble_eq_true rfl)⟩) (fun u_4 H locs w_5 hP hD hS => ?_)
  have hP : va_P D CL [(aa, .inr (0, [.ref a1, .int 1, .int sl, .int 4, .int vv])), (a1, .inl (cI, 20, .inl (upd fa 0 (21 : Int32))))] H := hP
  have hD : va_D A [(aa, .inr (0, [.ref a1, .int 1, .int sl, .int 4, .int vv])), (a1, .inl (cI, 20, .inl (upd fa 0 (21 : Int32))))] := hD
  refine lv_iload hx hb dX0_ask_27 (lv_at hl 5 rfl) ?_
  refine lv_iconst (v := 1) hx hb dX0_ask_29 (by decide) ?_
  refine lv_iadd hx hb dX0_ask_30 ?_
  refine lv_ci 1 (by decide +kernel) ?_
  refine lv_istore (lv' := [(6, .int 1), (5, .int 21), (0, .ref aa), (1, .int 4), (2, .int 1), (3, .int xx), (4, .int 0)]) hx hb dX0_ask_31 hl (by decide) rfl (fun ls hl => ?_)
  refine lv_iload hx hb dX0_ask_33 (lv_at hl 1 rfl) ?_
  refine lv_lookup (off := 133) (tgt := 168) hx hb dX0_ask_35 (by decide) (by decide) (by decide) ?_
  refine lv_aload_n hx hb dX0_ask_168 rfl (lv_at hl 2 rfl) ?_
  refine lv_iconst (v := 0) hx hb dX0_ask_169 (by decide) ?_
  refine lv_iconst (v := 1) hx hb dX0_ask_170 (by decide) ?_
  refine lv_iload_n hx hb dX0_ask_171 rfl (lv_at hl 5 rfl) ?_
  refine lv_iload hx hb dX0_ask_172 (lv_at hl 0 rfl) ?_
  refine contI (wc := [(aa, .inr (0, [.ref a1, .int 1, .int sl, .int 4, .int vv])), (a1, .inl (cI, 20, .inl (upd fa 0 (21 : Int32))))]) (wr := []) C0 hP hD hS [0, 1] [] rfl rfl (by decide) (by decide) 0 0 (Nat.le_of_ble_eq_true rfl) (Nat.le_of_ble_eq_true rfl) (runV (k := 4) (As := [.int 0, .int 1, .int xx, .int 1]) (rest := []) C0 (c_ask_4_0_1_1_1 l D cI cZ cQ cT _ aa xx a1 sl vv (upd fa 0 (21 : Int32))) wc_X0_ask wl_X0_38 wi_X0_ask we_X0_ask wz_X0 ⟨by decide, by decide, by decide +kernel⟩ ⟨(Nat.le_of_ble_eq_true rfl), (Nat.le_of_ble_eq_true rfl)⟩ hP hD hS EF.ok hX [0, 1] rfl (by decide) 0 rfl rfl rfl rfl hl.1 rfl (Nat.le_of_ble_eq_true rfl) dX0_ask_174 ⟨(Nat.le_of_ble_eq_true rfl), (Nat.le_of_ble_eq_true rfl)⟩) (fun r_9 u_7 H locs w_8 hP hD hS => ?_)
  have hP : va_P D CL [(aa, .inr (0, [.ref a1, .int 3, .int sl, .int 4, .int vv])), (a1, .inl (cI, 20, .inl (upd (upd (upd fa 0 (21 : Int32)) 1 2) 2 1)))] H := hP
  have hD : va_D A [(aa, .inr (0, [.ref a1, .int 3, .int sl, .int 4, .int vv])), (a1, .inl (cI, 20, .inl (upd (upd (upd fa 0 (21 : Int32)) 1 2) 2 1)))] := hD
  obtain rfl : r_9 = ((xx + sl) - vv) := w_8
  refine lv_ineg hx hb dX0_ask_177 ?_
  exact retI C0 rfl () rfl (hP.sub (ws' := [(aa, .inr (0, [.ref a1, .int 3, .int sl, .int 4, .int vv])), (a1, .inl (cI, 20, .inl (upd (upd (upd fa 0 21) 1 2) 2 1)))]) [0, 1] rfl) (hD.sub (ws' := [(aa, .inr (0, [.ref a1, .int 3, .int sl, .int 4, .int vv])), (a1, .inl (cI, 20, .inl (upd (upd (upd fa 0 21) 1 2) 2 1)))]) [0, 1] (by decide) rfl) hS (Nat.le_of_ble_eq_true rfl) (Nat.le_of_ble_eq_true rfl) dX0_ask_178

set_option maxHeartbeats 4000000 in
set_option maxRecDepth 100000 in
theorem c_bodyOf_5_1 (l : Launch) (D : va_G) (cI cZ cQ cT : ClassId) (sz : Nat)   : MetI l yX0_bodyOf cX0_bodyOf 5 .int ({ frames := 0, cells := 0, slots := 0, locals := 0 } : Room) [.int 5, .int 1] D (TYS cI cZ cQ cT) EF sz [] (S := Unit) (fun (r : Int32) (_ : Unit) => r = 2) (fun _ => []) := by
  refine MetI.mk (lv := [(0, .int 5), (1, .int 1)]) (by decide +kernel) (Nat.le_of_ble_eq_true rfl) rfl ?_
  intro p e s m below meth c A ls C0 hP hD hS hX hl
  have C1 := C0
  obtain ⟨hx, hb, hr, hml, hown, hlocks, hname, hT, hN, hK, hA⟩ := C1
  obtain ⟨kab, hkz, hkT⟩ := hX.2.1
  obtain ⟨bdy, hbz, hbT⟩ := hX.2.2.1
  refine lv_iload_n hx hb dX0_bodyOf_0 rfl (lv_at hl 0 rfl) ?_
  refine lv_istore_n (lv' := [(2, .int 5), (0, .int 5), (1, .int 1)]) hx hb dX0_bodyOf_1 rfl hl (by decide) rfl (fun ls hl => ?_)
  refine lv_iconst (v := 0) hx hb dX0_bodyOf_2 (by decide) ?_
  refine lv_istore_n (lv' := [(3, .int 0), (2, .int 5), (0, .int 5), (1, .int 1)]) hx hb dX0_bodyOf_3 rfl hl (by decide) rfl (fun ls hl => ?_)
  refine lv_iload_n hx hb dX0_bodyOf_4 rfl (lv_at hl 0 rfl) ?_
  refine lv_bipush (v := 7) hx hb dX0_bodyOf_5 (by decide) ?_
  refine lv_icmp_ge (tgt := 69) hx hb dX0_bodyOf_7 (by decide) (fun c_0 => absurd c_0 (by decide)) (fun _ => ?_)
  refine lv_iload_n hx hb dX0_bodyOf_10 rfl (lv_at hl 1 rfl) ?_
  refine lv_if_lt (tgt := 69) hx hb dX0_bodyOf_11 (by decide) (fun c_0 => absurd c_0 (by decide)) (fun _ => ?_)
  refine lv_iload_n hx hb dX0_bodyOf_14 rfl (lv_at hl 1 rfl) ?_
  refine lv_bipush (v := 7) hx hb dX0_bodyOf_15 (by decide) ?_
  refine lv_icmp_ge (tgt := 69) hx hb dX0_bodyOf_17 (by decide) (fun c_0 => absurd c_0 (by decide)) (fun _ => ?_)
  refine lv_iload_n hx hb dX0_bodyOf_20 rfl (lv_at hl 1 rfl) ?_
  refine lv_iconst (v := 3) hx hb dX0_bodyOf_21 (by decide) ?_
  refine lv_imul hx hb dX0_bodyOf_22 ?_
  refine lv_ci 15 (by decide +kernel) ?_
  refine lv_iload_n hx hb dX0_bodyOf_23 rfl (lv_at hl 3 rfl) ?_
  refine lv_iadd hx hb dX0_bodyOf_24 ?_
  refine lv_ci 16 (by decide +kernel) ?_
  refine lv_istore (lv' := [(4, .int 16), (3, .int 0), (2, .int 5), (0, .int 5), (1, .int 1)]) hx hb dX0_bodyOf_25 hl (by decide) rfl (fun ls hl => ?_)
  refine lv_iload hx hb dX0_bodyOf_27 (lv_at hl 0 rfl) ?_
  refine lv_if_lt (tgt := 57) hx hb dX0_bodyOf_29 (by decide) (fun c_0 => absurd c_0 (by decide)) (fun _ => ?_)
  refine lv_iload hx hb dX0_bodyOf_32 (lv_at hl 0 rfl) ?_
  refine va_gets hx hb hbz hS hown (hT _ wf_X0_42) (fun _ h9 => h9) dX0_bodyOf_34 ?_
  refine va_tlen hx hb hbT hS (v := 21) rfl dX0_bodyOf_37 ?_
  refine lv_icmp_ge (tgt := 57) hx hb dX0_bodyOf_38 (by decide) (fun c_0 => absurd c_0 (by decide)) (fun _ => ?_)
  refine va_gets hx hb hbz hS hown (hT _ wf_X0_42) (fun _ h9 => h9) dX0_bodyOf_41 ?_
  refine lv_iload hx hb dX0_bodyOf_44 (lv_at hl 0 rfl) ?_
  refine va_ti hx hb hbT hS (vin _ _ (by decide +kernel)) (v := .int 0) rfl dX0_bodyOf_46 ?_
  refine lv_if_eq (tgt := 57) hx hb dX0_bodyOf_47 (by decide) (fun _ => ?_) (fun c_0 => absurd (by decide) c_0)
  refine va_getsN hx hb hkz hS hown (va_Nw.use rfl (hN.get 750 kf_X0_45 rfl)) (fun _ h9 => h9) dX0_bodyOf_57 ?_
  refine lv_iload_n hx hb dX0_bodyOf_60 rfl (lv_at hl 2 rfl) ?_
  refine va_ti hx hb hkT hS (vin _ _ (by decide +kernel)) (v := .int 3) rfl dX0_bodyOf_61 ?_
  refine lv_istore_n (lv' := [(2, .int 3), (4, .int 16), (3, .int 0), (0, .int 5), (1, .int 1)]) hx hb dX0_bodyOf_62 rfl hl (by decide) rfl (fun ls hl => ?_)
  refine lv_iinc (v := 1) (lv' := [(3, .int 1), (2, .int 3), (4, .int 16), (0, .int 5), (1, .int 1)]) hx hb dX0_bodyOf_63 hl (k := 2) rfl (by decide) (by decide) rfl (fun ls hl => ?_)
  refine lv_goto (tgt := 4) hx hb dX0_bodyOf_66 (by decide) ?_
  refine lv_iload_n hx hb dX0_bodyOf_4 rfl (lv_at hl 0 rfl) ?_
  refine lv_bipush (v := 7) hx hb dX0_bodyOf_5 (by decide) ?_
  refine lv_icmp_ge (tgt := 69) hx hb dX0_bodyOf_7 (by decide) (fun c_0 => absurd c_0 (by decide)) (fun _ => ?_)
  refine lv_iload_n hx hb dX0_bodyOf_10 rfl (lv_at hl 1 rfl) ?_
  refine lv_if_lt (tgt := 69) hx hb dX0_bodyOf_11 (by decide) (fun c_0 => absurd c_0 (by decide)) (fun _ => ?_)
  refine lv_iload_n hx hb dX0_bodyOf_14 rfl (lv_at hl 1 rfl) ?_
  refine lv_bipush (v := 7) hx hb dX0_bodyOf_15 (by decide) ?_
  refine lv_icmp_ge (tgt := 69) hx hb dX0_bodyOf_17 (by decide) (fun c_0 => absurd c_0 (by decide)) (fun _ => ?_)
  refine lv_iload_n hx hb dX0_bodyOf_20 rfl (lv_at hl 1 rfl) ?_
  refine lv_iconst (v := 3) hx hb dX0_bodyOf_21 (by decide) ?_
  refine lv_imul hx hb dX0_bodyOf_22 ?_
  refine lv_ci 9 (by decide +kernel) ?_
  refine lv_iload_n hx hb dX0_bodyOf_23 rfl (lv_at hl 4 rfl) ?_
  refine lv_iadd hx hb dX0_bodyOf_24 ?_
  refine lv_ci 10 (by decide +kernel) ?_
  refine lv_istore (lv' := [(4, .int 10), (3, .int 1), (2, .int 3), (0, .int 5), (1, .int 1)]) hx hb dX0_bodyOf_25 hl (by decide) rfl (fun ls hl => ?_)
  refine lv_iload hx hb dX0_bodyOf_27 (lv_at hl 0 rfl) ?_
  refine lv_if_lt (tgt := 57) hx hb dX0_bodyOf_29 (by decide) (fun c_0 => absurd c_0 (by decide)) (fun _ => ?_)
  refine lv_iload hx hb dX0_bodyOf_32 (lv_at hl 0 rfl) ?_
  refine va_gets hx hb hbz hS hown (hT _ wf_X0_42) (fun _ h9 => h9) dX0_bodyOf_34 ?_
  refine va_tlen hx hb hbT hS (v := 21) rfl dX0_bodyOf_37 ?_
  refine lv_icmp_ge (tgt := 57) hx hb dX0_bodyOf_38 (by decide) (fun c_0 => absurd c_0 (by decide)) (fun _ => ?_)
  refine va_gets hx hb hbz hS hown (hT _ wf_X0_42) (fun _ h9 => h9) dX0_bodyOf_41 ?_
  refine lv_iload hx hb dX0_bodyOf_44 (lv_at hl 0 rfl) ?_
  refine va_ti hx hb hbT hS (vin _ _ (by decide +kernel)) (v := .int 0) rfl dX0_bodyOf_46 ?_
  refine lv_if_eq (tgt := 57) hx hb dX0_bodyOf_47 (by decide) (fun _ => ?_) (fun c_0 => absurd (by decide) c_0)
  refine va_getsN hx hb hkz hS hown (va_Nw.use rfl (hN.get 750 kf_X0_45 rfl)) (fun _ h9 => h9) dX0_bodyOf_57 ?_
  refine lv_iload_n hx hb dX0_bodyOf_60 rfl (lv_at hl 2 rfl) ?_
  refine va_ti hx hb hkT hS (vin _ _ (by decide +kernel)) (v := .int 0) rfl dX0_bodyOf_61 ?_
  refine lv_istore_n (lv' := [(2, .int 0), (4, .int 10), (3, .int 1), (0, .int 5), (1, .int 1)]) hx hb dX0_bodyOf_62 rfl hl (by decide) rfl (fun ls hl => ?_)
  refine lv_iinc (v := 2) (lv' := [(3, .int 2), (2, .int 0), (4, .int 10), (0, .int 5), (1, .int 1)]) hx hb dX0_bodyOf_63 hl (k := 2) rfl (by decide) (by decide) rfl (fun ls hl => ?_)
  refine lv_goto (tgt := 4) hx hb dX0_bodyOf_66 (by decide) ?_
  refine lv_iload_n hx hb dX0_bodyOf_4 rfl (lv_at hl 0 rfl) ?_
  refine lv_bipush (v := 7) hx hb dX0_bodyOf_5 (by decide) ?_
  refine lv_icmp_ge (tgt := 69) hx hb dX0_bodyOf_7 (by decide) (fun c_0 => absurd c_0 (by decide)) (fun _ => ?_)
  refine lv_iload_n hx hb dX0_bodyOf_10 rfl (lv_at hl 1 rfl) ?_
  refine lv_if_lt (tgt := 69) hx hb dX0_bodyOf_11 (by decide) (fun c_0 => absurd c_0 (by decide)) (fun _ => ?_)
  refine lv_iload_n hx hb dX0_bodyOf_14 rfl (lv_at hl 1 rfl) ?_
  refine lv_bipush (v := 7) hx hb dX0_bodyOf_15 (by decide) ?_
  refine lv_icmp_ge (tgt := 69) hx hb dX0_bodyOf_17 (by decide) (fun c_0 => absurd c_0 (by decide)) (fun _ => ?_)
  refine lv_iload_n hx hb dX0_bodyOf_20 rfl (lv_at hl 1 rfl) ?_
  refine lv_iconst (v := 3) hx hb dX0_bodyOf_21 (by decide) ?_
  refine lv_imul hx hb dX0_bodyOf_22 ?_
  refine lv_ci 0 (by decide +kernel) ?_
  refine lv_iload_n hx hb dX0_bodyOf_23 rfl (lv_at hl 4 rfl) ?_
  refine lv_iadd hx hb dX0_bodyOf_24 ?_
  refine lv_ci 1 (by decide +kernel) ?_
  refine lv_istore (lv' := [(4, .int 1), (3, .int 2), (2, .int 0), (0, .int 5), (1, .int 1)]) hx hb dX0_bodyOf_25 hl (by decide) rfl (fun ls hl => ?_)
  refine lv_iload hx hb dX0_bodyOf_27 (lv_at hl 0 rfl) ?_
  refine lv_if_lt (tgt := 57) hx hb dX0_bodyOf_29 (by decide) (fun c_0 => absurd c_0 (by decide)) (fun _ => ?_)
  refine lv_iload hx hb dX0_bodyOf_32 (lv_at hl 0 rfl) ?_
  refine va_gets hx hb hbz hS hown (hT _ wf_X0_42) (fun _ h9 => h9) dX0_bodyOf_34 ?_
  refine va_tlen hx hb hbT hS (v := 21) rfl dX0_bodyOf_37 ?_
  refine lv_icmp_ge (tgt := 57) hx hb dX0_bodyOf_38 (by decide) (fun c_0 => absurd c_0 (by decide)) (fun _ => ?_)
  refine va_gets hx hb hbz hS hown (hT _ wf_X0_42) (fun _ h9 => h9) dX0_bodyOf_41 ?_
  refine lv_iload hx hb dX0_bodyOf_44 (lv_at hl 0 rfl) ?_
  refine va_ti hx hb hbT hS (vin _ _ (by decide +kernel)) (v := .int 2) rfl dX0_bodyOf_46 ?_
  refine lv_if_eq (tgt := 57) hx hb dX0_bodyOf_47 (by decide) (fun c_0 => absurd c_0 (by decide)) (fun _ => ?_)
  refine va_gets hx hb hbz hS hown (hT _ wf_X0_42) (fun _ h9 => h9) dX0_bodyOf_50 ?_
  refine lv_iload hx hb dX0_bodyOf_53 (lv_at hl 0 rfl) ?_
  refine va_ti hx hb hbT hS (vin _ _ (by decide +kernel)) (v := .int 2) rfl dX0_bodyOf_55 ?_
  exact retI C0 rfl () rfl (hP.sub (ws' := []) [] rfl) (hD.sub (ws' := []) [] (by decide) rfl) hS (Nat.le_of_ble_eq_true rfl) (Nat.le_of_ble_eq_true rfl) dX0_bodyOf_56

set_option maxHeartbeats 4000000 in
set_option maxRecDepth 100000 in
theorem c_ask_5_3_0_2_2 (l : Launch) (D : va_G) (cI cZ cQ cT : ClassId) (sz : Nat) (aa : Nat) (xx : Int32) (a1 : Nat) (sl : Int32) (vv : Int32) (fa : Nat → Int32)  : MetI l yX0_ask cX0_ask 7 .int ({ frames := 1, cells := 0, slots := 0, locals := 24 } : Room) [.ref aa, .int 3, .int 0, .int xx, .int 2] D (TYS cI cZ cQ cT) EF sz [(aa, .inr (0, [.ref a1, .int 2, .int sl, .int 5, .int vv])), (a1, .inl (cI, 20, .inl fa))] (S := Unit) (fun (r : Int32) (_ : Unit) => r = (xx + sl)) (fun _ => [(aa, .inr (0, [.ref a1, .int 3, .int sl, .int 5, .int vv])), (a1, .inl (cI, 20, .inl (upd fa 2 1)))]) := by
  refine MetI.mk (lv := [(0, .ref aa), (1, .int 3), (2, .int 0), (3, .int xx), (4, .int 2)]) (by decide +kernel) (Nat.le_of_ble_eq_true rfl) rfl ?_
  intro p e s m below meth c A ls C0 hP hD hS hX hl
  have C1 := C0
  obtain ⟨hx, hb, hr, hml, hown, hlocks, hname, hT, hN, hK, hA⟩ := C1
  refine lv_iload_n hx hb dX0_ask_0 rfl (lv_at hl 1 rfl) ?_
  refine lv_iload_n hx hb dX0_ask_1 rfl (lv_at hl 2 rfl) ?_
  refine contI (wc := []) (wr := [(aa, .inr (0, [.ref a1, .int 2, .int sl, .int 5, .int vv])), (a1, .inl (cI, 20, .inl fa))]) C0 hP hD hS [] [0, 1] rfl rfl (by decide) (by decide) 0 0 (Nat.le_of_ble_eq_true rfl) (Nat.le_of_ble_eq_true rfl) (runS (k := 2) (As := [.int 3, .int 0]) (rest := []) C0 (c_bodyOf_3_0 l D cI cZ cQ cT _ ) wc_X0_bodyOf wl_X0_48 wt_X0_bodyOf wz_X0 ⟨by decide, by decide, by decide +kernel⟩ ⟨(Nat.le_of_ble_eq_true rfl), (Nat.le_of_ble_eq_true rfl)⟩ hP hD hS EF.ok hX [] rfl (by decide) rfl hl.1 rfl (Nat.le_of_ble_eq_true rfl) dX0_ask_2 ⟨(Nat.le_of_ble_eq_true rfl), (Nat.le_of_ble_eq_true rfl)⟩) (fun r_3 u_1 H locs w_2 hP hD hS => ?_)
  have hP : va_P D CL [(aa, .inr (0, [.ref a1, .int 2, .int sl, .int 5, .int vv])), (a1, .inl (cI, 20, .inl fa))] H := hP
  have hD : va_D A [(aa, .inr (0, [.ref a1, .int 2, .int sl, .int 5, .int vv])), (a1, .inl (cI, 20, .inl fa))] := hD
  obtain rfl : r_3 = 1 := w_2
  refine lv_istore (lv' := [(5, .int 1), (0, .ref aa), (1, .int 3), (2, .int 0), (3, .int xx), (4, .int 2)]) hx hb dX0_ask_5 hl (by decide) rfl (fun ls hl => ?_)
  refine lv_iload hx hb dX0_ask_7 (lv_at hl 0 rfl) ?_
  refine lv_if_eq (tgt := 19) hx hb dX0_ask_9 (by decide) (fun c_0 => absurd c_0 (by decide)) (fun _ => ?_)
  refine lv_iload hx hb dX0_ask_12 (lv_at hl 5 rfl) ?_
  refine lv_bipush (v := 40) hx hb dX0_ask_14 (by decide) ?_
  refine lv_icmp_le (tgt := 21) hx hb dX0_ask_16 (by decide) (fun _ => ?_) (fun c_0 => absurd (by decide) c_0)
  refine lv_aload_n hx hb dX0_ask_21 rfl (lv_at hl 1 rfl) ?_
  refine lv_iload hx hb dX0_ask_22 (lv_at hl 0 rfl) ?_
  refine contV (wc := [(aa, .inr (0, [.ref a1, .int 2, .int sl, .int 5, .int vv])), (a1, .inl (cI, 20, .inl fa))]) (wr := []) C0 hP hD hS [0, 1] [] rfl rfl (by decide) (by decide) 0 0 (Nat.le_of_ble_eq_true rfl) (Nat.le_of_ble_eq_true rfl) (runV (k := 1) (As := [.int 1]) (rest := []) C0 (c_begin_2 l D cI cZ cQ cT _ aa 1 a1 sl 5 vv fa) wc_X0_begin wl_X0_52 wi_X0_begin we_X0_begin wz_X0 ⟨by decide, by decide, by decide +kernel⟩ ⟨(Nat.le_of_ble_eq_true rfl), (Nat.le_of_ble_eq_true rfl)⟩ hP hD hS EF.ok hX [0, 1] rfl (by decide) 0 rfl rfl rfl rfl hl.1 rfl (Nat.le_of_ble_eq_true rfl) dX0_ask_24 ⟨(Nat.le_of_ble_eq_true rfl), (Nat.le_of_ble_eq_true rfl)⟩) (fun u_4 H locs w_5 hP hD hS => ?_)
  have hP : va_P D CL [(aa, .inr (0, [.ref a1, .int 3, .int sl, .int 5, .int vv])), (a1, .inl (cI, 20, .inl (upd fa 2 (1 : Int32))))] H := hP
  have hD : va_D A [(aa, .inr (0, [.ref a1, .int 3, .int sl, .int 5, .int vv])), (a1, .inl (cI, 20, .inl (upd fa 2 (1 : Int32))))] := hD
  refine lv_iload hx hb dX0_ask_27 (lv_at hl 5 rfl) ?_
  refine lv_iconst (v := 1) hx hb dX0_ask_29 (by decide) ?_
  refine lv_iadd hx hb dX0_ask_30 ?_
  refine lv_ci 3 (by decide +kernel) ?_
  refine lv_istore (lv' := [(6, .int 3), (5, .int 1), (0, .ref aa), (1, .int 3), (2, .int 0), (3, .int xx), (4, .int 2)]) hx hb dX0_ask_31 hl (by decide) rfl (fun ls hl => ?_)
  refine lv_iload hx hb dX0_ask_33 (lv_at hl 1 rfl) ?_
  refine lv_lookup (off := 81) (tgt := 116) hx hb dX0_ask_35 (by decide) (by decide) (by decide) ?_
  refine lv_iload_n hx hb dX0_ask_116 rfl (lv_at hl 5 rfl) ?_
  refine lv_aload_n hx hb dX0_ask_117 rfl (lv_at hl 2 rfl) ?_
  refine va_get (ci := 0) (v := .int sl) (C := RX0) (T := TX0) (N := 5) hx hb hT wu_X0 hown hK hP 0 rfl rfl 2 (by decide) (hT _ wf_X0_25) (fun _ h9 => h9) rfl dX0_ask_118 ?_
  refine lv_iadd hx hb dX0_ask_121 ?_
  exact retI C0 rfl () rfl (hP.sub (ws' := [(aa, .inr (0, [.ref a1, .int 3, .int sl, .int 5, .int vv])), (a1, .inl (cI, 20, .inl (upd fa 2 1)))]) [0, 1] rfl) (hD.sub (ws' := [(aa, .inr (0, [.ref a1, .int 3, .int sl, .int 5, .int vv])), (a1, .inl (cI, 20, .inl (upd fa 2 1)))]) [0, 1] (by decide) rfl) hS (Nat.le_of_ble_eq_true rfl) (Nat.le_of_ble_eq_true rfl) dX0_ask_122

set_option maxHeartbeats 4000000 in
set_option maxRecDepth 100000 in
theorem c_ask_5_5_0_1_1 (l : Launch) (D : va_G) (cI cZ cQ cT : ClassId) (sz : Nat) (aa : Nat) (xx : Int32) (a1 : Nat) (sl : Int32) (vv : Int32) (fa : Nat → Int32)  : MetI l yX0_ask cX0_ask 7 .int ({ frames := 2, cells := 0, slots := 0, locals := 50 } : Room) [.ref aa, .int 5, .int 0, .int xx, .int 1] D (TYS cI cZ cQ cT) EF sz [(aa, .inr (0, [.ref a1, .int 1, .int sl, .int 5, .int vv])), (a1, .inl (cI, 20, .inl fa))] (S := Unit) (fun (r : Int32) (_ : Unit) => r = ((xx + sl) ^^^ sl)) (fun _ => [(aa, .inr (0, [.ref a1, .int 3, .int sl, .int 5, .int vv])), (a1, .inl (cI, 20, .inl (upd (upd fa 1 51) 2 1)))]) := by
  refine MetI.mk (lv := [(0, .ref aa), (1, .int 5), (2, .int 0), (3, .int xx), (4, .int 1)]) (by decide +kernel) (Nat.le_of_ble_eq_true rfl) rfl ?_
  intro p e s m below meth c A ls C0 hP hD hS hX hl
  have C1 := C0
  obtain ⟨hx, hb, hr, hml, hown, hlocks, hname, hT, hN, hK, hA⟩ := C1
  refine lv_iload_n hx hb dX0_ask_0 rfl (lv_at hl 1 rfl) ?_
  refine lv_iload_n hx hb dX0_ask_1 rfl (lv_at hl 2 rfl) ?_
  refine contI (wc := []) (wr := [(aa, .inr (0, [.ref a1, .int 1, .int sl, .int 5, .int vv])), (a1, .inl (cI, 20, .inl fa))]) C0 hP hD hS [] [0, 1] rfl rfl (by decide) (by decide) 0 0 (Nat.le_of_ble_eq_true rfl) (Nat.le_of_ble_eq_true rfl) (runS (k := 2) (As := [.int 5, .int 0]) (rest := []) C0 (c_bodyOf_5_0 l D cI cZ cQ cT _ ) wc_X0_bodyOf wl_X0_48 wt_X0_bodyOf wz_X0 ⟨by decide, by decide, by decide +kernel⟩ ⟨(Nat.le_of_ble_eq_true rfl), (Nat.le_of_ble_eq_true rfl)⟩ hP hD hS EF.ok hX [] rfl (by decide) rfl hl.1 rfl (Nat.le_of_ble_eq_true rfl) dX0_ask_2 ⟨(Nat.le_of_ble_eq_true rfl), (Nat.le_of_ble_eq_true rfl)⟩) (fun r_3 u_1 H locs w_2 hP hD hS => ?_)
  have hP : va_P D CL [(aa, .inr (0, [.ref a1, .int 1, .int sl, .int 5, .int vv])), (a1, .inl (cI, 20, .inl fa))] H := hP
  have hD : va_D A [(aa, .inr (0, [.ref a1, .int 1, .int sl, .int 5, .int vv])), (a1, .inl (cI, 20, .inl fa))] := hD
  obtain rfl : r_3 = 51 := w_2
  refine lv_istore (lv' := [(5, .int 51), (0, .ref aa), (1, .int 5), (2, .int 0), (3, .int xx), (4, .int 1)]) hx hb dX0_ask_5 hl (by decide) rfl (fun ls hl => ?_)
  refine lv_iload hx hb dX0_ask_7 (lv_at hl 0 rfl) ?_
  refine lv_if_eq (tgt := 19) hx hb dX0_ask_9 (by decide) (fun c_0 => absurd c_0 (by decide)) (fun _ => ?_)
  refine lv_iload hx hb dX0_ask_12 (lv_at hl 5 rfl) ?_
  refine lv_bipush (v := 40) hx hb dX0_ask_14 (by decide) ?_
  refine lv_icmp_le (tgt := 21) hx hb dX0_ask_16 (by decide) (fun _ => ?_) (fun c_0 => absurd (by decide) c_0)
  refine lv_aload_n hx hb dX0_ask_21 rfl (lv_at hl 1 rfl) ?_
  refine lv_iload hx hb dX0_ask_22 (lv_at hl 0 rfl) ?_
  refine contV (wc := [(aa, .inr (0, [.ref a1, .int 1, .int sl, .int 5, .int vv])), (a1, .inl (cI, 20, .inl fa))]) (wr := []) C0 hP hD hS [0, 1] [] rfl rfl (by decide) (by decide) 0 0 (Nat.le_of_ble_eq_true rfl) (Nat.le_of_ble_eq_true rfl) (runV (k := 1) (As := [.int 51]) (rest := []) C0 (c_begin_1 l D cI cZ cQ cT _ aa 51 a1 sl 5 vv fa) wc_X0_begin wl_X0_52 wi_X0_begin we_X0_begin wz_X0 ⟨by decide, by decide, by decide +kernel⟩ ⟨(Nat.le_of_ble_eq_true rfl), (Nat.le_of_ble_eq_true rfl)⟩ hP hD hS EF.ok hX [0, 1] rfl (by decide) 0 rfl rfl rfl rfl hl.1 rfl (Nat.le_of_ble_eq_true rfl) dX0_ask_24 ⟨(Nat.le_of_ble_eq_true rfl), (Nat.le_of_ble_eq_true rfl)⟩) (fun u_4 H locs w_5 hP hD hS => ?_)
  have hP : va_P D CL [(aa, .inr (0, [.ref a1, .int 2, .int sl, .int 5, .int vv])), (a1, .inl (cI, 20, .inl (upd fa 1 (51 : Int32))))] H := hP
  have hD : va_D A [(aa, .inr (0, [.ref a1, .int 2, .int sl, .int 5, .int vv])), (a1, .inl (cI, 20, .inl (upd fa 1 (51 : Int32))))] := hD
  refine lv_iload hx hb dX0_ask_27 (lv_at hl 5 rfl) ?_
  refine lv_iconst (v := 1) hx hb dX0_ask_29 (by decide) ?_
  refine lv_iadd hx hb dX0_ask_30 ?_
  refine lv_ci 2 (by decide +kernel) ?_
  refine lv_istore (lv' := [(6, .int 2), (5, .int 51), (0, .ref aa), (1, .int 5), (2, .int 0), (3, .int xx), (4, .int 1)]) hx hb dX0_ask_31 hl (by decide) rfl (fun ls hl => ?_)
  refine lv_iload hx hb dX0_ask_33 (lv_at hl 1 rfl) ?_
  refine lv_lookup (off := 182) (tgt := 217) hx hb dX0_ask_35 (by decide) (by decide) (by decide) ?_
  refine lv_aload_n hx hb dX0_ask_217 rfl (lv_at hl 2 rfl) ?_
  refine lv_iconst (v := 3) hx hb dX0_ask_218 (by decide) ?_
  refine lv_iconst (v := 0) hx hb dX0_ask_219 (by decide) ?_
  refine lv_iload_n hx hb dX0_ask_220 rfl (lv_at hl 5 rfl) ?_
  refine lv_iload hx hb dX0_ask_221 (lv_at hl 0 rfl) ?_
  refine contI (wc := [(aa, .inr (0, [.ref a1, .int 2, .int sl, .int 5, .int vv])), (a1, .inl (cI, 20, .inl (upd fa 1 (51 : Int32))))]) (wr := []) C0 hP hD hS [0, 1] [] rfl rfl (by decide) (by decide) 0 0 (Nat.le_of_ble_eq_true rfl) (Nat.le_of_ble_eq_true rfl) (runV (k := 4) (As := [.int 3, .int 0, .int xx, .int 2]) (rest := []) C0 (c_ask_5_3_0_2_2 l D cI cZ cQ cT _ aa xx a1 sl vv (upd fa 1 (51 : Int32))) wc_X0_ask wl_X0_38 wi_X0_ask we_X0_ask wz_X0 ⟨by decide, by decide, by decide +kernel⟩ ⟨(Nat.le_of_ble_eq_true rfl), (Nat.le_of_ble_eq_true rfl)⟩ hP hD hS EF.ok hX [0, 1] rfl (by decide) 0 rfl rfl rfl rfl hl.1 rfl (Nat.le_of_ble_eq_true rfl) dX0_ask_223 ⟨(Nat.le_of_ble_eq_true rfl), (Nat.le_of_ble_eq_true rfl)⟩) (fun r_9 u_7 H locs w_8 hP hD hS => ?_)
  have hP : va_P D CL [(aa, .inr (0, [.ref a1, .int 3, .int sl, .int 5, .int vv])), (a1, .inl (cI, 20, .inl (upd (upd fa 1 (51 : Int32)) 2 1)))] H := hP
  have hD : va_D A [(aa, .inr (0, [.ref a1, .int 3, .int sl, .int 5, .int vv])), (a1, .inl (cI, 20, .inl (upd (upd fa 1 (51 : Int32)) 2 1)))] := hD
  obtain rfl : r_9 = (xx + sl) := w_8
  refine lv_aload_n hx hb dX0_ask_226 rfl (lv_at hl 2 rfl) ?_
  refine va_get (ci := 0) (v := .int sl) (C := RX0) (T := TX0) (N := 5) hx hb hT wu_X0 hown hK hP 0 rfl rfl 2 (by decide) (hT _ wf_X0_25) (fun _ h9 => h9) rfl dX0_ask_227 ?_
  refine lv_ixor hx hb dX0_ask_230 ?_
  exact retI C0 rfl () rfl (hP.sub (ws' := [(aa, .inr (0, [.ref a1, .int 3, .int sl, .int 5, .int vv])), (a1, .inl (cI, 20, .inl (upd (upd fa 1 51) 2 1)))]) [0, 1] rfl) (hD.sub (ws' := [(aa, .inr (0, [.ref a1, .int 3, .int sl, .int 5, .int vv])), (a1, .inl (cI, 20, .inl (upd (upd fa 1 51) 2 1)))]) [0, 1] (by decide) rfl) hS (Nat.le_of_ble_eq_true rfl) (Nat.le_of_ble_eq_true rfl) dX0_ask_231

set_option maxHeartbeats 4000000 in
set_option maxRecDepth 100000 in
theorem c_ask_5_5_1_0_0 (l : Launch) (D : va_G) (cI cZ cQ cT : ClassId) (sz : Nat) (aa : Nat) (xx : Int32) (a1 : Nat) (sl : Int32) (vv : Int32) (fa : Nat → Int32)  : MetI l yX0_ask cX0_ask 7 .int ({ frames := 3, cells := 0, slots := 0, locals := 76 } : Room) [.ref aa, .int 5, .int 1, .int xx, .int 0] D (TYS cI cZ cQ cT) EF sz [(aa, .inr (0, [.ref a1, .int 0, .int sl, .int 5, .int vv])), (a1, .inl (cI, 20, .inl fa))] (S := Unit) (fun (r : Int32) (_ : Unit) => r = (((xx + sl) ^^^ sl) - vv)) (fun _ => [(aa, .inr (0, [.ref a1, .int 3, .int sl, .int 5, .int vv])), (a1, .inl (cI, 20, .inl (upd (upd (upd fa 0 2) 1 51) 2 1)))]) := by
  refine MetI.mk (lv := [(0, .ref aa), (1, .int 5), (2, .int 1), (3, .int xx), (4, .int 0)]) (by decide +kernel) (Nat.le_of_ble_eq_true rfl) rfl ?_
  intro p e s m below meth c A ls C0 hP hD hS hX hl
  have C1 := C0
  obtain ⟨hx, hb, hr, hml, hown, hlocks, hname, hT, hN, hK, hA⟩ := C1
  refine lv_iload_n hx hb dX0_ask_0 rfl (lv_at hl 1 rfl) ?_
  refine lv_iload_n hx hb dX0_ask_1 rfl (lv_at hl 2 rfl) ?_
  refine contI (wc := []) (wr := [(aa, .inr (0, [.ref a1, .int 0, .int sl, .int 5, .int vv])), (a1, .inl (cI, 20, .inl fa))]) C0 hP hD hS [] [0, 1] rfl rfl (by decide) (by decide) 0 0 (Nat.le_of_ble_eq_true rfl) (Nat.le_of_ble_eq_true rfl) (runS (k := 2) (As := [.int 5, .int 1]) (rest := []) C0 (c_bodyOf_5_1 l D cI cZ cQ cT _ ) wc_X0_bodyOf wl_X0_48 wt_X0_bodyOf wz_X0 ⟨by decide, by decide, by decide +kernel⟩ ⟨(Nat.le_of_ble_eq_true rfl), (Nat.le_of_ble_eq_true rfl)⟩ hP hD hS EF.ok hX [] rfl (by decide) rfl hl.1 rfl (Nat.le_of_ble_eq_true rfl) dX0_ask_2 ⟨(Nat.le_of_ble_eq_true rfl), (Nat.le_of_ble_eq_true rfl)⟩) (fun r_3 u_1 H locs w_2 hP hD hS => ?_)
  have hP : va_P D CL [(aa, .inr (0, [.ref a1, .int 0, .int sl, .int 5, .int vv])), (a1, .inl (cI, 20, .inl fa))] H := hP
  have hD : va_D A [(aa, .inr (0, [.ref a1, .int 0, .int sl, .int 5, .int vv])), (a1, .inl (cI, 20, .inl fa))] := hD
  obtain rfl : r_3 = 2 := w_2
  refine lv_istore (lv' := [(5, .int 2), (0, .ref aa), (1, .int 5), (2, .int 1), (3, .int xx), (4, .int 0)]) hx hb dX0_ask_5 hl (by decide) rfl (fun ls hl => ?_)
  refine lv_iload hx hb dX0_ask_7 (lv_at hl 0 rfl) ?_
  refine lv_if_eq (tgt := 19) hx hb dX0_ask_9 (by decide) (fun c_0 => absurd c_0 (by decide)) (fun _ => ?_)
  refine lv_iload hx hb dX0_ask_12 (lv_at hl 5 rfl) ?_
  refine lv_bipush (v := 40) hx hb dX0_ask_14 (by decide) ?_
  refine lv_icmp_le (tgt := 21) hx hb dX0_ask_16 (by decide) (fun _ => ?_) (fun c_0 => absurd (by decide) c_0)
  refine lv_aload_n hx hb dX0_ask_21 rfl (lv_at hl 1 rfl) ?_
  refine lv_iload hx hb dX0_ask_22 (lv_at hl 0 rfl) ?_
  refine contV (wc := [(aa, .inr (0, [.ref a1, .int 0, .int sl, .int 5, .int vv])), (a1, .inl (cI, 20, .inl fa))]) (wr := []) C0 hP hD hS [0, 1] [] rfl rfl (by decide) (by decide) 0 0 (Nat.le_of_ble_eq_true rfl) (Nat.le_of_ble_eq_true rfl) (runV (k := 1) (As := [.int 2]) (rest := []) C0 (c_begin_0 l D cI cZ cQ cT _ aa 2 a1 sl 5 vv fa) wc_X0_begin wl_X0_52 wi_X0_begin we_X0_begin wz_X0 ⟨by decide, by decide, by decide +kernel⟩ ⟨(Nat.le_of_ble_eq_true rfl), (Nat.le_of_ble_eq_true rfl)⟩ hP hD hS EF.ok hX [0, 1] rfl (by decide) 0 rfl rfl rfl rfl hl.1 rfl (Nat.le_of_ble_eq_true rfl) dX0_ask_24 ⟨(Nat.le_of_ble_eq_true rfl), (Nat.le_of_ble_eq_true rfl)⟩) (fun u_4 H locs w_5 hP hD hS => ?_)
  have hP : va_P D CL [(aa, .inr (0, [.ref a1, .int 1, .int sl, .int 5, .int vv])), (a1, .inl (cI, 20, .inl (upd fa 0 (2 : Int32))))] H := hP
  have hD : va_D A [(aa, .inr (0, [.ref a1, .int 1, .int sl, .int 5, .int vv])), (a1, .inl (cI, 20, .inl (upd fa 0 (2 : Int32))))] := hD
  refine lv_iload hx hb dX0_ask_27 (lv_at hl 5 rfl) ?_
  refine lv_iconst (v := 1) hx hb dX0_ask_29 (by decide) ?_
  refine lv_iadd hx hb dX0_ask_30 ?_
  refine lv_ci 1 (by decide +kernel) ?_
  refine lv_istore (lv' := [(6, .int 1), (5, .int 2), (0, .ref aa), (1, .int 5), (2, .int 1), (3, .int xx), (4, .int 0)]) hx hb dX0_ask_31 hl (by decide) rfl (fun ls hl => ?_)
  refine lv_iload hx hb dX0_ask_33 (lv_at hl 1 rfl) ?_
  refine lv_lookup (off := 88) (tgt := 123) hx hb dX0_ask_35 (by decide) (by decide) (by decide) ?_
  refine lv_aload_n hx hb dX0_ask_123 rfl (lv_at hl 2 rfl) ?_
  refine lv_aload_n hx hb dX0_ask_124 rfl (lv_at hl 2 rfl) ?_
  refine va_get (ci := 0) (v := .int 5) (C := RX0) (T := TX0) (N := 5) hx hb hT wu_X0 hown hK hP 0 rfl rfl 3 (by decide) (hT _ wf_X0_31) (fun _ h9 => h9) rfl dX0_ask_125 ?_
  refine lv_iconst (v := 0) hx hb dX0_ask_128 (by decide) ?_
  refine lv_iload_n hx hb dX0_ask_129 rfl (lv_at hl 5 rfl) ?_
  refine lv_iload hx hb dX0_ask_130 (lv_at hl 0 rfl) ?_
  refine contI (wc := [(aa, .inr (0, [.ref a1, .int 1, .int sl, .int 5, .int vv])), (a1, .inl (cI, 20, .inl (upd fa 0 (2 : Int32))))]) (wr := []) C0 hP hD hS [0, 1] [] rfl rfl (by decide) (by decide) 0 0 (Nat.le_of_ble_eq_true rfl) (Nat.le_of_ble_eq_true rfl) (runV (k := 4) (As := [.int 5, .int 0, .int xx, .int 1]) (rest := []) C0 (c_ask_5_5_0_1_1 l D cI cZ cQ cT _ aa xx a1 sl vv (upd fa 0 (2 : Int32))) wc_X0_ask wl_X0_38 wi_X0_ask we_X0_ask wz_X0 ⟨by decide, by decide, by decide +kernel⟩ ⟨(Nat.le_of_ble_eq_true rfl), (Nat.le_of_ble_eq_true rfl)⟩ hP hD hS EF.ok hX [0, 1] rfl (by decide) 0 rfl rfl rfl rfl hl.1 rfl (Nat.le_of_ble_eq_true rfl) dX0_ask_132 ⟨(Nat.le_of_ble_eq_true rfl), (Nat.le_of_ble_eq_true rfl)⟩) (fun r_9 u_7 H locs w_8 hP hD hS => ?_)
  have hP : va_P D CL [(aa, .inr (0, [.ref a1, .int 3, .int sl, .int 5, .int vv])), (a1, .inl (cI, 20, .inl (upd (upd (upd fa 0 (2 : Int32)) 1 51) 2 1)))] H := hP
  have hD : va_D A [(aa, .inr (0, [.ref a1, .int 3, .int sl, .int 5, .int vv])), (a1, .inl (cI, 20, .inl (upd (upd (upd fa 0 (2 : Int32)) 1 51) 2 1)))] := hD
  obtain rfl : r_9 = ((xx + sl) ^^^ sl) := w_8
  refine lv_aload_n hx hb dX0_ask_135 rfl (lv_at hl 2 rfl) ?_
  refine va_get (ci := 0) (v := .int vv) (C := RX0) (T := TX0) (N := 5) hx hb hT wu_X0 hown hK hP 0 rfl rfl 4 (by decide) (hT _ wf_X0_36) (fun _ h9 => h9) rfl dX0_ask_136 ?_
  refine lv_isub hx hb dX0_ask_139 ?_
  exact retI C0 rfl () rfl (hP.sub (ws' := [(aa, .inr (0, [.ref a1, .int 3, .int sl, .int 5, .int vv])), (a1, .inl (cI, 20, .inl (upd (upd (upd fa 0 2) 1 51) 2 1)))]) [0, 1] rfl) (hD.sub (ws' := [(aa, .inr (0, [.ref a1, .int 3, .int sl, .int 5, .int vv])), (a1, .inl (cI, 20, .inl (upd (upd (upd fa 0 2) 1 51) 2 1)))]) [0, 1] (by decide) rfl) hS (Nat.le_of_ble_eq_true rfl) (Nat.le_of_ble_eq_true rfl) dX0_ask_140

set_option maxHeartbeats 4000000 in
set_option maxRecDepth 100000 in
theorem c_bodyOf_6_1 (l : Launch) (D : va_G) (cI cZ cQ cT : ClassId) (sz : Nat)   : MetI l yX0_bodyOf cX0_bodyOf 5 .int ({ frames := 0, cells := 0, slots := 0, locals := 0 } : Room) [.int 6, .int 1] D (TYS cI cZ cQ cT) EF sz [] (S := Unit) (fun (r : Int32) (_ : Unit) => r = 61) (fun _ => []) := by
  refine MetI.mk (lv := [(0, .int 6), (1, .int 1)]) (by decide +kernel) (Nat.le_of_ble_eq_true rfl) rfl ?_
  intro p e s m below meth c A ls C0 hP hD hS hX hl
  have C1 := C0
  obtain ⟨hx, hb, hr, hml, hown, hlocks, hname, hT, hN, hK, hA⟩ := C1
  obtain ⟨kab, hkz, hkT⟩ := hX.2.1
  obtain ⟨bdy, hbz, hbT⟩ := hX.2.2.1
  refine lv_iload_n hx hb dX0_bodyOf_0 rfl (lv_at hl 0 rfl) ?_
  refine lv_istore_n (lv' := [(2, .int 6), (0, .int 6), (1, .int 1)]) hx hb dX0_bodyOf_1 rfl hl (by decide) rfl (fun ls hl => ?_)
  refine lv_iconst (v := 0) hx hb dX0_bodyOf_2 (by decide) ?_
  refine lv_istore_n (lv' := [(3, .int 0), (2, .int 6), (0, .int 6), (1, .int 1)]) hx hb dX0_bodyOf_3 rfl hl (by decide) rfl (fun ls hl => ?_)
  refine lv_iload_n hx hb dX0_bodyOf_4 rfl (lv_at hl 0 rfl) ?_
  refine lv_bipush (v := 7) hx hb dX0_bodyOf_5 (by decide) ?_
  refine lv_icmp_ge (tgt := 69) hx hb dX0_bodyOf_7 (by decide) (fun c_0 => absurd c_0 (by decide)) (fun _ => ?_)
  refine lv_iload_n hx hb dX0_bodyOf_10 rfl (lv_at hl 1 rfl) ?_
  refine lv_if_lt (tgt := 69) hx hb dX0_bodyOf_11 (by decide) (fun c_0 => absurd c_0 (by decide)) (fun _ => ?_)
  refine lv_iload_n hx hb dX0_bodyOf_14 rfl (lv_at hl 1 rfl) ?_
  refine lv_bipush (v := 7) hx hb dX0_bodyOf_15 (by decide) ?_
  refine lv_icmp_ge (tgt := 69) hx hb dX0_bodyOf_17 (by decide) (fun c_0 => absurd c_0 (by decide)) (fun _ => ?_)
  refine lv_iload_n hx hb dX0_bodyOf_20 rfl (lv_at hl 1 rfl) ?_
  refine lv_iconst (v := 3) hx hb dX0_bodyOf_21 (by decide) ?_
  refine lv_imul hx hb dX0_bodyOf_22 ?_
  refine lv_ci 18 (by decide +kernel) ?_
  refine lv_iload_n hx hb dX0_bodyOf_23 rfl (lv_at hl 3 rfl) ?_
  refine lv_iadd hx hb dX0_bodyOf_24 ?_
  refine lv_ci 19 (by decide +kernel) ?_
  refine lv_istore (lv' := [(4, .int 19), (3, .int 0), (2, .int 6), (0, .int 6), (1, .int 1)]) hx hb dX0_bodyOf_25 hl (by decide) rfl (fun ls hl => ?_)
  refine lv_iload hx hb dX0_bodyOf_27 (lv_at hl 0 rfl) ?_
  refine lv_if_lt (tgt := 57) hx hb dX0_bodyOf_29 (by decide) (fun c_0 => absurd c_0 (by decide)) (fun _ => ?_)
  refine lv_iload hx hb dX0_bodyOf_32 (lv_at hl 0 rfl) ?_
  refine va_gets hx hb hbz hS hown (hT _ wf_X0_42) (fun _ h9 => h9) dX0_bodyOf_34 ?_
  refine va_tlen hx hb hbT hS (v := 21) rfl dX0_bodyOf_37 ?_
  refine lv_icmp_ge (tgt := 57) hx hb dX0_bodyOf_38 (by decide) (fun c_0 => absurd c_0 (by decide)) (fun _ => ?_)
  refine va_gets hx hb hbz hS hown (hT _ wf_X0_42) (fun _ h9 => h9) dX0_bodyOf_41 ?_
  refine lv_iload hx hb dX0_bodyOf_44 (lv_at hl 0 rfl) ?_
  refine va_ti hx hb hbT hS (vin _ _ (by decide +kernel)) (v := .int 61) rfl dX0_bodyOf_46 ?_
  refine lv_if_eq (tgt := 57) hx hb dX0_bodyOf_47 (by decide) (fun c_0 => absurd c_0 (by decide)) (fun _ => ?_)
  refine va_gets hx hb hbz hS hown (hT _ wf_X0_42) (fun _ h9 => h9) dX0_bodyOf_50 ?_
  refine lv_iload hx hb dX0_bodyOf_53 (lv_at hl 0 rfl) ?_
  refine va_ti hx hb hbT hS (vin _ _ (by decide +kernel)) (v := .int 61) rfl dX0_bodyOf_55 ?_
  exact retI C0 rfl () rfl (hP.sub (ws' := []) [] rfl) (hD.sub (ws' := []) [] (by decide) rfl) hS (Nat.le_of_ble_eq_true rfl) (Nat.le_of_ble_eq_true rfl) dX0_bodyOf_56

set_option maxHeartbeats 4000000 in
set_option maxRecDepth 100000 in
theorem c_ask_6_6_0_2_2 (l : Launch) (D : va_G) (cI cZ cQ cT : ClassId) (sz : Nat) (aa : Nat) (xx : Int32) (a1 : Nat) (sl : Int32) (vv : Int32) (fa : Nat → Int32)  : MetI l yX0_ask cX0_ask 7 .int ({ frames := 1, cells := 0, slots := 0, locals := 24 } : Room) [.ref aa, .int 6, .int 0, .int xx, .int 2] D (TYS cI cZ cQ cT) EF sz [(aa, .inr (0, [.ref a1, .int 2, .int sl, .int 6, .int vv])), (a1, .inl (cI, 20, .inl fa))] (S := Unit) (fun (r : Int32) (_ : Unit) => r = (xx + sl)) (fun _ => [(aa, .inr (0, [.ref a1, .int 3, .int sl, .int 6, .int vv])), (a1, .inl (cI, 20, .inl (upd fa 2 1)))]) := by
  refine MetI.mk (lv := [(0, .ref aa), (1, .int 6), (2, .int 0), (3, .int xx), (4, .int 2)]) (by decide +kernel) (Nat.le_of_ble_eq_true rfl) rfl ?_
  intro p e s m below meth c A ls C0 hP hD hS hX hl
  have C1 := C0
  obtain ⟨hx, hb, hr, hml, hown, hlocks, hname, hT, hN, hK, hA⟩ := C1
  refine lv_iload_n hx hb dX0_ask_0 rfl (lv_at hl 1 rfl) ?_
  refine lv_iload_n hx hb dX0_ask_1 rfl (lv_at hl 2 rfl) ?_
  refine contI (wc := []) (wr := [(aa, .inr (0, [.ref a1, .int 2, .int sl, .int 6, .int vv])), (a1, .inl (cI, 20, .inl fa))]) C0 hP hD hS [] [0, 1] rfl rfl (by decide) (by decide) 0 0 (Nat.le_of_ble_eq_true rfl) (Nat.le_of_ble_eq_true rfl) (runS (k := 2) (As := [.int 6, .int 0]) (rest := []) C0 (c_bodyOf_6_0 l D cI cZ cQ cT _ ) wc_X0_bodyOf wl_X0_48 wt_X0_bodyOf wz_X0 ⟨by decide, by decide, by decide +kernel⟩ ⟨(Nat.le_of_ble_eq_true rfl), (Nat.le_of_ble_eq_true rfl)⟩ hP hD hS EF.ok hX [] rfl (by decide) rfl hl.1 rfl (Nat.le_of_ble_eq_true rfl) dX0_ask_2 ⟨(Nat.le_of_ble_eq_true rfl), (Nat.le_of_ble_eq_true rfl)⟩) (fun r_3 u_1 H locs w_2 hP hD hS => ?_)
  have hP : va_P D CL [(aa, .inr (0, [.ref a1, .int 2, .int sl, .int 6, .int vv])), (a1, .inl (cI, 20, .inl fa))] H := hP
  have hD : va_D A [(aa, .inr (0, [.ref a1, .int 2, .int sl, .int 6, .int vv])), (a1, .inl (cI, 20, .inl fa))] := hD
  obtain rfl : r_3 = 1 := w_2
  refine lv_istore (lv' := [(5, .int 1), (0, .ref aa), (1, .int 6), (2, .int 0), (3, .int xx), (4, .int 2)]) hx hb dX0_ask_5 hl (by decide) rfl (fun ls hl => ?_)
  refine lv_iload hx hb dX0_ask_7 (lv_at hl 0 rfl) ?_
  refine lv_if_eq (tgt := 19) hx hb dX0_ask_9 (by decide) (fun c_0 => absurd c_0 (by decide)) (fun _ => ?_)
  refine lv_iload hx hb dX0_ask_12 (lv_at hl 5 rfl) ?_
  refine lv_bipush (v := 40) hx hb dX0_ask_14 (by decide) ?_
  refine lv_icmp_le (tgt := 21) hx hb dX0_ask_16 (by decide) (fun _ => ?_) (fun c_0 => absurd (by decide) c_0)
  refine lv_aload_n hx hb dX0_ask_21 rfl (lv_at hl 1 rfl) ?_
  refine lv_iload hx hb dX0_ask_22 (lv_at hl 0 rfl) ?_
  refine contV (wc := [(aa, .inr (0, [.ref a1, .int 2, .int sl, .int 6, .int vv])), (a1, .inl (cI, 20, .inl fa))]) (wr := []) C0 hP hD hS [0, 1] [] rfl rfl (by decide) (by decide) 0 0 (Nat.le_of_ble_eq_true rfl) (Nat.le_of_ble_eq_true rfl) (runV (k := 1) (As := [.int 1]) (rest := []) C0 (c_begin_2 l D cI cZ cQ cT _ aa 1 a1 sl 6 vv fa) wc_X0_begin wl_X0_52 wi_X0_begin we_X0_begin wz_X0 ⟨by decide, by decide, by decide +kernel⟩ ⟨(Nat.le_of_ble_eq_true rfl), (Nat.le_of_ble_eq_true rfl)⟩ hP hD hS EF.ok hX [0, 1] rfl (by decide) 0 rfl rfl rfl rfl hl.1 rfl (Nat.le_of_ble_eq_true rfl) dX0_ask_24 ⟨(Nat.le_of_ble_eq_true rfl), (Nat.le_of_ble_eq_true rfl)⟩) (fun u_4 H locs w_5 hP hD hS => ?_)
  have hP : va_P D CL [(aa, .inr (0, [.ref a1, .int 3, .int sl, .int 6, .int vv])), (a1, .inl (cI, 20, .inl (upd fa 2 (1 : Int32))))] H := hP
  have hD : va_D A [(aa, .inr (0, [.ref a1, .int 3, .int sl, .int 6, .int vv])), (a1, .inl (cI, 20, .inl (upd fa 2 (1 : Int32))))] := hD
  refine lv_iload hx hb dX0_ask_27 (lv_at hl 5 rfl) ?_
  refine lv_iconst (v := 1) hx hb dX0_ask_29 (by decide) ?_
  refine lv_iadd hx hb dX0_ask_30 ?_
  refine lv_ci 3 (by decide +kernel) ?_
  refine lv_istore (lv' := [(6, .int 3), (5, .int 1), (0, .ref aa), (1, .int 6), (2, .int 0), (3, .int xx), (4, .int 2)]) hx hb dX0_ask_31 hl (by decide) rfl (fun ls hl => ?_)
  refine lv_iload hx hb dX0_ask_33 (lv_at hl 1 rfl) ?_
  refine lv_lookup (off := 81) (tgt := 116) hx hb dX0_ask_35 (by decide) (by decide) (by decide) ?_
  refine lv_iload_n hx hb dX0_ask_116 rfl (lv_at hl 5 rfl) ?_
  refine lv_aload_n hx hb dX0_ask_117 rfl (lv_at hl 2 rfl) ?_
  refine va_get (ci := 0) (v := .int sl) (C := RX0) (T := TX0) (N := 5) hx hb hT wu_X0 hown hK hP 0 rfl rfl 2 (by decide) (hT _ wf_X0_25) (fun _ h9 => h9) rfl dX0_ask_118 ?_
  refine lv_iadd hx hb dX0_ask_121 ?_
  exact retI C0 rfl () rfl (hP.sub (ws' := [(aa, .inr (0, [.ref a1, .int 3, .int sl, .int 6, .int vv])), (a1, .inl (cI, 20, .inl (upd fa 2 1)))]) [0, 1] rfl) (hD.sub (ws' := [(aa, .inr (0, [.ref a1, .int 3, .int sl, .int 6, .int vv])), (a1, .inl (cI, 20, .inl (upd fa 2 1)))]) [0, 1] (by decide) rfl) hS (Nat.le_of_ble_eq_true rfl) (Nat.le_of_ble_eq_true rfl) dX0_ask_122

set_option maxHeartbeats 4000000 in
set_option maxRecDepth 100000 in
theorem c_ask_6_3_1_1_1 (l : Launch) (D : va_G) (cI cZ cQ cT : ClassId) (sz : Nat) (aa : Nat) (xx : Int32) (a1 : Nat) (sl : Int32) (vv : Int32) (fa : Nat → Int32)  : MetI l yX0_ask cX0_ask 7 .int ({ frames := 2, cells := 0, slots := 0, locals := 50 } : Room) [.ref aa, .int 3, .int 1, .int xx, .int 1] D (TYS cI cZ cQ cT) EF sz [(aa, .inr (0, [.ref a1, .int 1, .int sl, .int 6, .int vv])), (a1, .inl (cI, 20, .inl fa))] (S := Unit) (fun (r : Int32) (_ : Unit) => r = ((xx + sl) - vv)) (fun _ => [(aa, .inr (0, [.ref a1, .int 3, .int sl, .int 6, .int vv])), (a1, .inl (cI, 20, .inl (upd (upd fa 1 2) 2 1)))]) := by
  refine MetI.mk (lv := [(0, .ref aa), (1, .int 3), (2, .int 1), (3, .int xx), (4, .int 1)]) (by decide +kernel) (Nat.le_of_ble_eq_true rfl) rfl ?_
  intro p e s m below meth c A ls C0 hP hD hS hX hl
  have C1 := C0
  obtain ⟨hx, hb, hr, hml, hown, hlocks, hname, hT, hN, hK, hA⟩ := C1
  refine lv_iload_n hx hb dX0_ask_0 rfl (lv_at hl 1 rfl) ?_
  refine lv_iload_n hx hb dX0_ask_1 rfl (lv_at hl 2 rfl) ?_
  refine contI (wc := []) (wr := [(aa, .inr (0, [.ref a1, .int 1, .int sl, .int 6, .int vv])), (a1, .inl (cI, 20, .inl fa))]) C0 hP hD hS [] [0, 1] rfl rfl (by decide) (by decide) 0 0 (Nat.le_of_ble_eq_true rfl) (Nat.le_of_ble_eq_true rfl) (runS (k := 2) (As := [.int 3, .int 1]) (rest := []) C0 (c_bodyOf_3_1 l D cI cZ cQ cT _ ) wc_X0_bodyOf wl_X0_48 wt_X0_bodyOf wz_X0 ⟨by decide, by decide, by decide +kernel⟩ ⟨(Nat.le_of_ble_eq_true rfl), (Nat.le_of_ble_eq_true rfl)⟩ hP hD hS EF.ok hX [] rfl (by decide) rfl hl.1 rfl (Nat.le_of_ble_eq_true rfl) dX0_ask_2 ⟨(Nat.le_of_ble_eq_true rfl), (Nat.le_of_ble_eq_true rfl)⟩) (fun r_3 u_1 H locs w_2 hP hD hS => ?_)
  have hP : va_P D CL [(aa, .inr (0, [.ref a1, .int 1, .int sl, .int 6, .int vv])), (a1, .inl (cI, 20, .inl fa))] H := hP
  have hD : va_D A [(aa, .inr (0, [.ref a1, .int 1, .int sl, .int 6, .int vv])), (a1, .inl (cI, 20, .inl fa))] := hD
  obtain rfl : r_3 = 2 := w_2
  refine lv_istore (lv' := [(5, .int 2), (0, .ref aa), (1, .int 3), (2, .int 1), (3, .int xx), (4, .int 1)]) hx hb dX0_ask_5 hl (by decide) rfl (fun ls hl => ?_)
  refine lv_iload hx hb dX0_ask_7 (lv_at hl 0 rfl) ?_
  refine lv_if_eq (tgt := 19) hx hb dX0_ask_9 (by decide) (fun c_0 => absurd c_0 (by decide)) (fun _ => ?_)
  refine lv_iload hx hb dX0_ask_12 (lv_at hl 5 rfl) ?_
  refine lv_bipush (v := 40) hx hb dX0_ask_14 (by decide) ?_
  refine lv_icmp_le (tgt := 21) hx hb dX0_ask_16 (by decide) (fun _ => ?_) (fun c_0 => absurd (by decide) c_0)
  refine lv_aload_n hx hb dX0_ask_21 rfl (lv_at hl 1 rfl) ?_
  refine lv_iload hx hb dX0_ask_22 (lv_at hl 0 rfl) ?_
  refine contV (wc := [(aa, .inr (0, [.ref a1, .int 1, .int sl, .int 6, .int vv])), (a1, .inl (cI, 20, .inl fa))]) (wr := []) C0 hP hD hS [0, 1] [] rfl rfl (by decide) (by decide) 0 0 (Nat.le_of_ble_eq_true rfl) (Nat.le_of_ble_eq_true rfl) (runV (k := 1) (As := [.int 2]) (rest := []) C0 (c_begin_1 l D cI cZ cQ cT _ aa 2 a1 sl 6 vv fa) wc_X0_begin wl_X0_52 wi_X0_begin we_X0_begin wz_X0 ⟨by decide, by decide, by decide +kernel⟩ ⟨(Nat.le_of_ble_eq_true rfl), (Nat.le_of_ble_eq_true rfl)⟩ hP hD hS EF.ok hX [0, 1] rfl (by decide) 0 rfl rfl rfl rfl hl.1 rfl (Nat.le_of_ble_eq_true rfl) dX0_ask_24 ⟨(Nat.le_of_ble_eq_true rfl), (Nat.le_of_ble_eq_true rfl)⟩) (fun u_4 H locs w_5 hP hD hS => ?_)
  have hP : va_P D CL [(aa, .inr (0, [.ref a1, .int 2, .int sl, .int 6, .int vv])), (a1, .inl (cI, 20, .inl (upd fa 1 (2 : Int32))))] H := hP
  have hD : va_D A [(aa, .inr (0, [.ref a1, .int 2, .int sl, .int 6, .int vv])), (a1, .inl (cI, 20, .inl (upd fa 1 (2 : Int32))))] := hD
  refine lv_iload hx hb dX0_ask_27 (lv_at hl 5 rfl) ?_
  refine lv_iconst (v := 1) hx hb dX0_ask_29 (by decide) ?_
  refine lv_iadd hx hb dX0_ask_30 ?_
  refine lv_ci 2 (by decide +kernel) ?_
  refine lv_istore (lv' := [(6, .int 2), (5, .int 2), (0, .ref aa), (1, .int 3), (2, .int 1), (3, .int xx), (4, .int 1)]) hx hb dX0_ask_31 hl (by decide) rfl (fun ls hl => ?_)
  refine lv_iload hx hb dX0_ask_33 (lv_at hl 1 rfl) ?_
  refine lv_lookup (off := 88) (tgt := 123) hx hb dX0_ask_35 (by decide) (by decide) (by decide) ?_
  refine lv_aload_n hx hb dX0_ask_123 rfl (lv_at hl 2 rfl) ?_
  refine lv_aload_n hx hb dX0_ask_124 rfl (lv_at hl 2 rfl) ?_
  refine va_get (ci := 0) (v := .int 6) (C := RX0) (T := TX0) (N := 5) hx hb hT wu_X0 hown hK hP 0 rfl rfl 3 (by decide) (hT _ wf_X0_31) (fun _ h9 => h9) rfl dX0_ask_125 ?_
  refine lv_iconst (v := 0) hx hb dX0_ask_128 (by decide) ?_
  refine lv_iload_n hx hb dX0_ask_129 rfl (lv_at hl 5 rfl) ?_
  refine lv_iload hx hb dX0_ask_130 (lv_at hl 0 rfl) ?_
  refine contI (wc := [(aa, .inr (0, [.ref a1, .int 2, .int sl, .int 6, .int vv])), (a1, .inl (cI, 20, .inl (upd fa 1 (2 : Int32))))]) (wr := []) C0 hP hD hS [0, 1] [] rfl rfl (by decide) (by decide) 0 0 (Nat.le_of_ble_eq_true rfl) (Nat.le_of_ble_eq_true rfl) (runV (k := 4) (As := [.int 6, .int 0, .int xx, .int 2]) (rest := []) C0 (c_ask_6_6_0_2_2 l D cI cZ cQ cT _ aa xx a1 sl vv (upd fa 1 (2 : Int32))) wc_X0_ask wl_X0_38 wi_X0_ask we_X0_ask wz_X0 ⟨by decide, by decide, by decide +kernel⟩ ⟨(Nat.le_of_ble_eq_true rfl), (Nat.le_of_ble_eq_true rfl)⟩ hP hD hS EF.ok hX [0, 1] rfl (by decide) 0 rfl rfl rfl rfl hl.1 rfl (Nat.le_of_ble_eq_true rfl) dX0_ask_132 ⟨(Nat.le_of_ble_eq_true rfl), (Nat.le_of_ble_eq_true rfl)⟩) (fun r_9 u_7 H locs w_8 hP hD hS => ?_)
  have hP : va_P D CL [(aa, .inr (0, [.ref a1, .int 3, .int sl, .int 6, .int vv])), (a1, .inl (cI, 20, .inl (upd (upd fa 1 (2 : Int32)) 2 1)))] H := hP
  have hD : va_D A [(aa, .inr (0, [.ref a1, .int 3, .int sl, .int 6, .int vv])), (a1, .inl (cI, 20, .inl (upd (upd fa 1 (2 : Int32)) 2 1)))] := hD
  obtain rfl : r_9 = (xx + sl) := w_8
  refine lv_aload_n hx hb dX0_ask_135 rfl (lv_at hl 2 rfl) ?_
  refine va_get (ci := 0) (v := .int vv) (C := RX0) (T := TX0) (N := 5) hx hb hT wu_X0 hown hK hP 0 rfl rfl 4 (by decide) (hT _ wf_X0_36) (fun _ h9 => h9) rfl dX0_ask_136 ?_
  refine lv_isub hx hb dX0_ask_139 ?_
  exact retI C0 rfl () rfl (hP.sub (ws' := [(aa, .inr (0, [.ref a1, .int 3, .int sl, .int 6, .int vv])), (a1, .inl (cI, 20, .inl (upd (upd fa 1 2) 2 1)))]) [0, 1] rfl) (hD.sub (ws' := [(aa, .inr (0, [.ref a1, .int 3, .int sl, .int 6, .int vv])), (a1, .inl (cI, 20, .inl (upd (upd fa 1 2) 2 1)))]) [0, 1] (by decide) rfl) hS (Nat.le_of_ble_eq_true rfl) (Nat.le_of_ble_eq_true rfl) dX0_ask_140

set_option maxHeartbeats 4000000 in
set_option maxRecDepth 100000 in
theorem c_ask_6_6_1_0_0 (l : Launch) (D : va_G) (cI cZ cQ cT : ClassId) (sz : Nat) (aa : Nat) (xx : Int32) (a1 : Nat) (sl : Int32) (vv : Int32) (fa : Nat → Int32)  : MetI l yX0_ask cX0_ask 7 .int ({ frames := 3, cells := 0, slots := 0, locals := 76 } : Room) [.ref aa, .int 6, .int 1, .int xx, .int 0] D (TYS cI cZ cQ cT) EF sz [(aa, .inr (0, [.ref a1, .int 0, .int sl, .int 6, .int vv])), (a1, .inl (cI, 20, .inl fa))] (S := Unit) (fun (r : Int32) (_ : Unit) => r = (((xx + sl) - vv) + vv)) (fun _ => [(aa, .inr (0, [.ref a1, .int 3, .int sl, .int 6, .int vv])), (a1, .inl (cI, 20, .inl (upd (upd (upd fa 0 61) 1 2) 2 1)))]) := by
  refine MetI.mk (lv := [(0, .ref aa), (1, .int 6), (2, .int 1), (3, .int xx), (4, .int 0)]) (by decide +kernel) (Nat.le_of_ble_eq_true rfl) rfl ?_
  intro p e s m below meth c A ls C0 hP hD hS hX hl
  have C1 := C0
  obtain ⟨hx, hb, hr, hml, hown, hlocks, hname, hT, hN, hK, hA⟩ := C1
  refine lv_iload_n hx hb dX0_ask_0 rfl (lv_at hl 1 rfl) ?_
  refine lv_iload_n hx hb dX0_ask_1 rfl (lv_at hl 2 rfl) ?_
  refine contI (wc := []) (wr := [(aa, .inr (0, [.ref a1, .int 0, .int sl, .int 6, .int vv])), (a1, .inl (cI, 20, .inl fa))]) C0 hP hD hS [] [0, 1] rfl rfl (by decide) (by decide) 0 0 (Nat.le_of_ble_eq_true rfl) (Nat.le_of_ble_eq_true rfl) (runS (k := 2) (As := [.int 6, .int 1]) (rest := []) C0 (c_bodyOf_6_1 l D cI cZ cQ cT _ ) wc_X0_bodyOf wl_X0_48 wt_X0_bodyOf wz_X0 ⟨by decide, by decide, by decide +kernel⟩ ⟨(Nat.le_of_ble_eq_true rfl), (Nat.le_of_ble_eq_true rfl)⟩ hP hD hS EF.ok hX [] rfl (by decide) rfl hl.1 rfl (Nat.le_of_ble_eq_true rfl) dX0_ask_2 ⟨(Nat.le_of_ble_eq_true rfl), (Nat.le_of_ble_eq_true rfl)⟩) (fun r_3 u_1 H locs w_2 hP hD hS => ?_)
  have hP : va_P D CL [(aa, .inr (0, [.ref a1, .int 0, .int sl, .int 6, .int vv])), (a1, .inl (cI, 20, .inl fa))] H := hP
  have hD : va_D A [(aa, .inr (0, [.ref a1, .int 0, .int sl, .int 6, .int vv])), (a1, .inl (cI, 20, .inl fa))] := hD
  obtain rfl : r_3 = 61 := w_2
  refine lv_istore (lv' := [(5, .int 61), (0, .ref aa), (1, .int 6), (2, .int 1), (3, .int xx), (4, .int 0)]) hx hb dX0_ask_5 hl (by decide) rfl (fun ls hl => ?_)
  refine lv_iload hx hb dX0_ask_7 (lv_at hl 0 rfl) ?_
  refine lv_if_eq (tgt := 19) hx hb dX0_ask_9 (by decide) (fun c_0 => absurd c_0 (by decide)) (fun _ => ?_)
  refine lv_iload hx hb dX0_ask_12 (lv_at hl 5 rfl) ?_
  refine lv_bipush (v := 40) hx hb dX0_ask_14 (by decide) ?_
  refine lv_icmp_le (tgt := 21) hx hb dX0_ask_16 (by decide) (fun _ => ?_) (fun c_0 => absurd (by decide) c_0)
  refine lv_aload_n hx hb dX0_ask_21 rfl (lv_at hl 1 rfl) ?_
  refine lv_iload hx hb dX0_ask_22 (lv_at hl 0 rfl) ?_
  refine contV (wc := [(aa, .inr (0, [.ref a1, .int 0, .int sl, .int 6, .int vv])), (a1, .inl (cI, 20, .inl fa))]) (wr := []) C0 hP hD hS [0, 1] [] rfl rfl (by decide) (by decide) 0 0 (Nat.le_of_ble_eq_true rfl) (Nat.le_of_ble_eq_true rfl) (runV (k := 1) (As := [.int 61]) (rest := []) C0 (c_begin_0 l D cI cZ cQ cT _ aa 61 a1 sl 6 vv fa) wc_X0_begin wl_X0_52 wi_X0_begin we_X0_begin wz_X0 ⟨by decide, by decide, by decide +kernel⟩ ⟨(Nat.le_of_ble_eq_true rfl), (Nat.le_of_ble_eq_true rfl)⟩ hP hD hS EF.ok hX [0, 1] rfl (by decide) 0 rfl rfl rfl rfl hl.1 rfl (Nat.le_of_ble_eq_true rfl) dX0_ask_24 ⟨(Nat.le_of_ble_eq_true rfl), (Nat.le_of_ble_eq_true rfl)⟩) (fun u_4 H locs w_5 hP hD hS => ?_)
  have hP : va_P D CL [(aa, .inr (0, [.ref a1, .int 1, .int sl, .int 6, .int vv])), (a1, .inl (cI, 20, .inl (upd fa 0 (61 : Int32))))] H := hP
  have hD : va_D A [(aa, .inr (0, [.ref a1, .int 1, .int sl, .int 6, .int vv])), (a1, .inl (cI, 20, .inl (upd fa 0 (61 : Int32))))] := hD
  refine lv_iload hx hb dX0_ask_27 (lv_at hl 5 rfl) ?_
  refine lv_iconst (v := 1) hx hb dX0_ask_29 (by decide) ?_
  refine lv_iadd hx hb dX0_ask_30 ?_
  refine lv_ci 1 (by decide +kernel) ?_
  refine lv_istore (lv' := [(6, .int 1), (5, .int 61), (0, .ref aa), (1, .int 6), (2, .int 1), (3, .int xx), (4, .int 0)]) hx hb dX0_ask_31 hl (by decide) rfl (fun ls hl => ?_)
  refine lv_iload hx hb dX0_ask_33 (lv_at hl 1 rfl) ?_
  refine lv_lookup (off := 197) (tgt := 232) hx hb dX0_ask_35 (by decide) (by decide) (by decide) ?_
  refine lv_aload_n hx hb dX0_ask_232 rfl (lv_at hl 2 rfl) ?_
  refine lv_iconst (v := 3) hx hb dX0_ask_233 (by decide) ?_
  refine lv_iconst (v := 1) hx hb dX0_ask_234 (by decide) ?_
  refine lv_iload_n hx hb dX0_ask_235 rfl (lv_at hl 5 rfl) ?_
  refine lv_iload hx hb dX0_ask_236 (lv_at hl 0 rfl) ?_
  refine contI (wc := [(aa, .inr (0, [.ref a1, .int 1, .int sl, .int 6, .int vv])), (a1, .inl (cI, 20, .inl (upd fa 0 (61 : Int32))))]) (wr := []) C0 hP hD hS [0, 1] [] rfl rfl (by decide) (by decide) 0 0 (Nat.le_of_ble_eq_true rfl) (Nat.le_of_ble_eq_true rfl) (runV (k := 4) (As := [.int 3, .int 1, .int xx, .int 1]) (rest := []) C0 (c_ask_6_3_1_1_1 l D cI cZ cQ cT _ aa xx a1 sl vv (upd fa 0 (61 : Int32))) wc_X0_ask wl_X0_38 wi_X0_ask we_X0_ask wz_X0 ⟨by decide, by decide, by decide +kernel⟩ ⟨(Nat.le_of_ble_eq_true rfl), (Nat.le_of_ble_eq_true rfl)⟩ hP hD hS EF.ok hX [0, 1] rfl (by decide) 0 rfl rfl rfl rfl hl.1 rfl (Nat.le_of_ble_eq_true rfl) dX0_ask_238 ⟨(Nat.le_of_ble_eq_true rfl), (Nat.le_of_ble_eq_true rfl)⟩) (fun r_9 u_7 H locs w_8 hP hD hS => ?_)
  have hP : va_P D CL [(aa, .inr (0, [.ref a1, .int 3, .int sl, .int 6, .int vv])), (a1, .inl (cI, 20, .inl (upd (upd (upd fa 0 (61 : Int32)) 1 2) 2 1)))] H := hP
  have hD : va_D A [(aa, .inr (0, [.ref a1, .int 3, .int sl, .int 6, .int vv])), (a1, .inl (cI, 20, .inl (upd (upd (upd fa 0 (61 : Int32)) 1 2) 2 1)))] := hD
  obtain rfl : r_9 = ((xx + sl) - vv) := w_8
  refine lv_aload_n hx hb dX0_ask_241 rfl (lv_at hl 2 rfl) ?_
  refine va_get (ci := 0) (v := .int vv) (C := RX0) (T := TX0) (N := 5) hx hb hT wu_X0 hown hK hP 0 rfl rfl 4 (by decide) (hT _ wf_X0_36) (fun _ h9 => h9) rfl dX0_ask_242 ?_
  refine lv_iadd hx hb dX0_ask_245 ?_
  exact retI C0 rfl () rfl (hP.sub (ws' := [(aa, .inr (0, [.ref a1, .int 3, .int sl, .int 6, .int vv])), (a1, .inl (cI, 20, .inl (upd (upd (upd fa 0 61) 1 2) 2 1)))]) [0, 1] rfl) (hD.sub (ws' := [(aa, .inr (0, [.ref a1, .int 3, .int sl, .int 6, .int vv])), (a1, .inl (cI, 20, .inl (upd (upd (upd fa 0 61) 1 2) 2 1)))]) [0, 1] (by decide) rfl) hS (Nat.le_of_ble_eq_true rfl) (Nat.le_of_ble_eq_true rfl) dX0_ask_246

set_option maxHeartbeats 4000000 in
set_option maxRecDepth 100000 in
theorem c_start_1 (l : Launch) (D : va_G) (cI cZ cQ cT : ClassId) (sz : Nat) (aa : Nat) (af : Nat) (xx : Int32) (a1 : Nat) (sl : Int32) (kd : Int32) (vv : Int32) (fa : Nat → Int32) (ak : Nat) (av : Nat) (ar : Nat) (nt : Int32) (yd : Int32) (fk : Nat → Int32) (fv : Nat → Int32) (fr : Nat → Int32) (P : Nat) (pn : Nat) (F : Fk) (hC : CF fk fv fr F) (hB : FB F) (hpP : pn < P) (hP4 : P ≤ 4) (hpn : pn < 4) : MetI l yX0_start cX0_start 5 .int ({ frames := 4, cells := 0, slots := 0, locals := 102 } : Room) [.ref aa, .ref af, .int (nI pn), .int 1, .int xx] D (TYS cI cZ cQ cT) EF sz [(aa, .inr (0, [.ref a1, .int 0, .int sl, .int kd, .int vv])), (a1, .inl (cI, 20, .inl fa)), (af, .inr (2, [.ref ak, .ref av, .ref ar, .int (nI P), .int nt, .int yd])), (ak, .inl (cI, 4, .inl fk)), (av, .inl (cI, 4, .inl fv)), (ar, .inl (cI, 4, .inl fr))] (S := Int32 × Int32 × Int32 × (Nat → Int32) × Nat) (fun (r : Int32) (u_ : Int32 × Int32 × Int32 × (Nat → Int32) × Nat) => (r = (actE (F.1 pn) 1 (nI pn) (nI (F.2.1 pn)) xx)) ∧ (u_.2.2.2.2 = (actB (F.1 pn) 1).length ∧ TL u_.2.2.2.1 (actB (F.1 pn) 1))) (fun u => [(aa, .inr (0, [.ref a1, .int (nI u.2.2.2.2), .int u.1, .int u.2.1, .int u.2.2.1])), (a1, .inl (cI, 20, .inl u.2.2.2.1)), (af, .inr (2, [.ref ak, .ref av, .ref ar, .int (nI P), .int nt, .int yd])), (ak, .inl (cI, 4, .inl fk)), (av, .inl (cI, 4, .inl fv)), (ar, .inl (cI, 4, .inl fr))]) := by
  refine MetI.mk (lv := [(0, .ref aa), (1, .ref af), (2, .int (nI pn)), (3, .int 1), (4, .int xx)]) (by decide +kernel) (Nat.le_of_ble_eq_true rfl) rfl ?_
  intro p e s m below meth c A ls C0 hP hD hS hX hl
  have C1 := C0
  obtain ⟨hx, hb, hr, hml, hown, hlocks, hname, hT, hN, hK, hA⟩ := C1
  have hd8 := d8_le hP4; have hd0 := d8_pos P
  refine lv_aload_n hx hb dX0_start_0 rfl (lv_at hl 1 rfl) ?_
  refine lv_iload_n hx hb dX0_start_1 rfl (lv_at hl 2 rfl) ?_
  refine contI (wc := [(af, .inr (2, [.ref ak, .ref av, .ref ar, .int (nI P), .int nt, .int yd]))]) (wr := [(aa, .inr (0, [.ref a1, .int 0, .int sl, .int kd, .int vv])), (a1, .inl (cI, 20, .inl fa)), (ak, .inl (cI, 4, .inl fk)), (av, .inl (cI, 4, .inl fv)), (ar, .inl (cI, 4, .inl fr))]) C0 hP hD hS [2] [0, 1, 3, 4, 5] rfl rfl (by decide) (by decide) 0 0 (Nat.le_of_ble_eq_true rfl) (Nat.le_of_ble_eq_true rfl) (runVN (k := 1) (As := [.int (nI pn)]) (rest := []) "DayKnown" 740 C0 (c_has l D cI cZ cQ cT _ af (nI pn) ak av ar nt yd P (by omega)) wc_X2_has kl_X0_19 wi_X2_has we_X2_has wz_X2 ⟨by decide, by decide, by decide +kernel⟩ ⟨(Nat.le_of_ble_eq_true rfl), (Nat.le_of_ble_eq_true rfl)⟩ hP hD hS EF.ok hX [2] rfl (by decide) 2 rfl rfl rfl rfl hl.1 rfl (Nat.le_of_ble_eq_true rfl) dX0_start_2 ⟨(Nat.le_of_ble_eq_true rfl), (Nat.le_of_ble_eq_true rfl)⟩) (fun r_3 u_1 H locs w_2 hP hD hS => ?_)
  have hP : va_P D CL [(aa, .inr (0, [.ref a1, .int 0, .int sl, .int kd, .int vv])), (a1, .inl (cI, 20, .inl fa)), (ak, .inl (cI, 4, .inl fk)), (av, .inl (cI, 4, .inl fv)), (ar, .inl (cI, 4, .inl fr)), (af, .inr (2, [.ref ak, .ref av, .ref ar, .int (nI P), .int nt, .int yd]))] H := hP
  have hD : va_D A [(aa, .inr (0, [.ref a1, .int 0, .int sl, .int kd, .int vv])), (a1, .inl (cI, 20, .inl fa)), (ak, .inl (cI, 4, .inl fk)), (av, .inl (cI, 4, .inl fv)), (ar, .inl (cI, 4, .inl fr)), (af, .inr (2, [.ref ak, .ref av, .ref ar, .int (nI P), .int nt, .int yd]))] := hD
  obtain rfl : r_3 = 1 := w_2.trans (if_pos (npe hpP hP4))
  refine lv_if_ne (tgt := 10) hx hb dX0_start_5 (by decide) (fun _ => ?_) (fun c_0 => absurd c_0 (by decide))
  refine lv_aload_n hx hb dX0_start_10 rfl (lv_at hl 0 rfl) ?_
  refine lv_iload_n hx hb dX0_start_11 rfl (lv_at hl 2 rfl) ?_
  refine va_put (ci := 0) (v := .int (nI pn)) (ty := .int) (C := RX0) (T := TX0) (N := 5) hx hb hT wu_X0 tyX0 tyX0_ok nmX0 hown hK hP hD hS 0 rfl rfl 2 (by decide) (hT _ wf_X0_25) (fun _ h9 => h9) rfl (by decide +kernel) rfl rfl (Nat.le_of_ble_eq_true rfl) dX0_start_12 (fun H locs hP hD hS => ?_)
  have hP : va_P D CL [(aa, .inr (0, [.ref a1, .int 0, .int (nI pn), .int kd, .int vv])), (a1, .inl (cI, 20, .inl fa)), (ak, .inl (cI, 4, .inl fk)), (av, .inl (cI, 4, .inl fv)), (ar, .inl (cI, 4, .inl fr)), (af, .inr (2, [.ref ak, .ref av, .ref ar, .int (nI P), .int nt, .int yd]))] H := hP
  have hD : va_D A [(aa, .inr (0, [.ref a1, .int 0, .int (nI pn), .int kd, .int vv])), (a1, .inl (cI, 20, .inl fa)), (ak, .inl (cI, 4, .inl fk)), (av, .inl (cI, 4, .inl fv)), (ar, .inl (cI, 4, .inl fr)), (af, .inr (2, [.ref ak, .ref av, .ref ar, .int (nI P), .int nt, .int yd]))] := hD
  refine lv_aload_n hx hb dX0_start_15 rfl (lv_at hl 0 rfl) ?_
  refine lv_aload_n hx hb dX0_start_16 rfl (lv_at hl 1 rfl) ?_
  refine va_getN (ci := 2) (v := .ref ak) (C := RX2) (T := TX2) (N := 6) hx hb hT wu_X2 hown hK hP 5 rfl rfl 0 (by decide) (va_Nw.use rfl (hN.get 133 kf_X0_28 rfl)) (fun _ h9 => h9) rfl dX0_start_17 ?_
  refine lv_iload_n hx hb dX0_start_20 rfl (lv_at hl 2 rfl) ?_
  refine va_iald hx hb hK hP 2 0 rfl rfl (vp_in_nI (n := pn) (by omega) (by decide)) dX0_start_21 ?_
  refine lv_ci (fk pn) (congrArg fk (nI_clamp (n := pn) (by omega))) ?_
  have hb_4 := hB.1 pn (by omega)
  refine lv_ci (nI (F.1 pn)) (hC.1.g0 (by omega)) ?_
  rcases (show (F.1 pn) = 0 ∨ (F.1 pn) = 1 ∨ (F.1 pn) = 2 ∨ (F.1 pn) = 3 ∨ (F.1 pn) = 4 ∨ (F.1 pn) = 5 ∨ (F.1 pn) = 6 by omega) with hk7_5 | hk7_5 | hk7_5 | hk7_5 | hk7_5 | hk7_5 | hk7_5
  · skip
    refine lv_ci 0 (by rw [hk7_5]; rfl) ?_
    refine va_put (ci := 0) (v := .int 0) (ty := .int) (C := RX0) (T := TX0) (N := 5) hx hb hT wu_X0 tyX0 tyX0_ok nmX0 hown hK hP hD hS 0 rfl rfl 3 (by decide) (hT _ wf_X0_31) (fun _ h9 => h9) rfl (by decide +kernel) rfl rfl (Nat.le_of_ble_eq_true rfl) dX0_start_22 (fun H locs hP hD hS => ?_)
    have hP : va_P D CL [(aa, .inr (0, [.ref a1, .int 0, .int (nI pn), .int 0, .int vv])), (a1, .inl (cI, 20, .inl fa)), (ak, .inl (cI, 4, .inl fk)), (av, .inl (cI, 4, .inl fv)), (ar, .inl (cI, 4, .inl fr)), (af, .inr (2, [.ref ak, .ref av, .ref ar, .int (nI P), .int nt, .int yd]))] H := hP
    have hD : va_D A [(aa, .inr (0, [.ref a1, .int 0, .int (nI pn), .int 0, .int vv])), (a1, .inl (cI, 20, .inl fa)), (ak, .inl (cI, 4, .inl fk)), (av, .inl (cI, 4, .inl fv)), (ar, .inl (cI, 4, .inl fr)), (af, .inr (2, [.ref ak, .ref av, .ref ar, .int (nI P), .int nt, .int yd]))] := hD
    refine lv_aload_n hx hb dX0_start_25 rfl (lv_at hl 0 rfl) ?_
    refine lv_aload_n hx hb dX0_start_26 rfl (lv_at hl 1 rfl) ?_
    refine va_getN (ci := 2) (v := .ref av) (C := RX2) (T := TX2) (N := 6) hx hb hT wu_X2 hown hK hP 5 rfl rfl 1 (by decide) (va_Nw.use rfl (hN.get 137 kf_X0_33 rfl)) (fun _ h9 => h9) rfl dX0_start_27 ?_
    refine lv_iload_n hx hb dX0_start_30 rfl (lv_at hl 2 rfl) ?_
    refine va_iald hx hb hK hP 3 0 rfl rfl (vp_in_nI (n := pn) (by omega) (by decide)) dX0_start_31 ?_
    refine lv_ci (fv pn) (congrArg fv (nI_clamp (n := pn) (by omega))) ?_
    have hb_6 := hB.2.1 pn (by omega)
    refine lv_ci (nI (F.2.1 pn)) (hC.2.1.g0 (by omega)) ?_
    refine va_put (ci := 0) (v := .int (nI (F.2.1 pn))) (ty := .int) (C := RX0) (T := TX0) (N := 5) hx hb hT wu_X0 tyX0 tyX0_ok nmX0 hown hK hP hD hS 0 rfl rfl 4 (by decide) (hT _ wf_X0_36) (fun _ h9 => h9) rfl (by decide +kernel) rfl rfl (Nat.le_of_ble_eq_true rfl) dX0_start_32 (fun H locs hP hD hS => ?_)
    have hP : va_P D CL [(aa, .inr (0, [.ref a1, .int 0, .int (nI pn), .int 0, .int (nI (F.2.1 pn))])), (a1, .inl (cI, 20, .inl fa)), (ak, .inl (cI, 4, .inl fk)), (av, .inl (cI, 4, .inl fv)), (ar, .inl (cI, 4, .inl fr)), (af, .inr (2, [.ref ak, .ref av, .ref ar, .int (nI P), .int nt, .int yd]))] H := hP
    have hD : va_D A [(aa, .inr (0, [.ref a1, .int 0, .int (nI pn), .int 0, .int (nI (F.2.1 pn))])), (a1, .inl (cI, 20, .inl fa)), (ak, .inl (cI, 4, .inl fk)), (av, .inl (cI, 4, .inl fv)), (ar, .inl (cI, 4, .inl fr)), (af, .inr (2, [.ref ak, .ref av, .ref ar, .int (nI P), .int nt, .int yd]))] := hD
    refine lv_aload_n hx hb dX0_start_35 rfl (lv_at hl 0 rfl) ?_
    refine lv_aload_n hx hb dX0_start_36 rfl (lv_at hl 0 rfl) ?_
    refine va_get (ci := 0) (v := .int 0) (C := RX0) (T := TX0) (N := 5) hx hb hT wu_X0 hown hK hP 0 rfl rfl 3 (by decide) (hT _ wf_X0_31) (fun _ h9 => h9) rfl dX0_start_37 ?_
    refine lv_iload_n hx hb dX0_start_40 rfl (lv_at hl 3 rfl) ?_
    refine lv_iload hx hb dX0_start_41 (lv_at hl 4 rfl) ?_
    refine lv_iconst (v := 0) hx hb dX0_start_43 (by decide) ?_
    refine contI (wc := [(aa, .inr (0, [.ref a1, .int 0, .int (nI pn), .int 0, .int (nI (F.2.1 pn))])), (a1, .inl (cI, 20, .inl fa))]) (wr := [(ak, .inl (cI, 4, .inl fk)), (av, .inl (cI, 4, .inl fv)), (ar, .inl (cI, 4, .inl fr)), (af, .inr (2, [.ref ak, .ref av, .ref ar, .int (nI P), .int nt, .int yd]))]) C0 hP hD hS [0, 1] [2, 3, 4, 5] rfl rfl (by decide) (by decide) 0 0 (Nat.le_of_ble_eq_true rfl) (Nat.le_of_ble_eq_true rfl) (runV (k := 4) (As := [.int 0, .int 1, .int xx, .int 0]) (rest := []) C0 (c_ask_0_0_1_0_0 l D cI cZ cQ cT _ aa xx a1 (nI pn) (nI (F.2.1 pn)) fa) wc_X0_ask wl_X0_38 wi_X0_ask we_X0_ask wz_X0 ⟨by decide, by decide, by decide +kernel⟩ ⟨(Nat.le_of_ble_eq_true rfl), (Nat.le_of_ble_eq_true rfl)⟩ hP hD hS EF.ok hX [0, 1] rfl (by decide) 0 rfl rfl rfl rfl hl.1 rfl (Nat.le_of_ble_eq_true rfl) dX0_start_44 ⟨(Nat.le_of_ble_eq_true rfl), (Nat.le_of_ble_eq_true rfl)⟩) (fun r_9 u_7 H locs w_8 hP hD hS => ?_)
    have hP : va_P D CL [(ak, .inl (cI, 4, .inl fk)), (av, .inl (cI, 4, .inl fv)), (ar, .inl (cI, 4, .inl fr)), (af, .inr (2, [.ref ak, .ref av, .ref ar, .int (nI P), .int nt, .int yd])), (aa, .inr (0, [.ref a1, .int 2, .int (nI pn), .int 0, .int (nI (F.2.1 pn))])), (a1, .inl (cI, 20, .inl (upd (upd fa 0 2) 1 1)))] H := hP
    have hD : va_D A [(ak, .inl (cI, 4, .inl fk)), (av, .inl (cI, 4, .inl fv)), (ar, .inl (cI, 4, .inl fr)), (af, .inr (2, [.ref ak, .ref av, .ref ar, .int (nI P), .int nt, .int yd])), (aa, .inr (0, [.ref a1, .int 2, .int (nI pn), .int 0, .int (nI (F.2.1 pn))])), (a1, .inl (cI, 20, .inl (upd (upd fa 0 2) 1 1)))] := hD
    obtain rfl : r_9 = ((xx + (nI pn)) - (nI (F.2.1 pn))) := w_8
    exact retI C0 rfl ((nI pn), 0, (nI (F.2.1 pn)), (upd (upd fa 0 2) 1 1), 2) (⟨(by rw [hk7_5]; rfl), (show 2 = (actB (F.1 pn) 1).length ∧ TL (upd (upd fa 0 2) 1 1) (actB (F.1 pn) 1) from ⟨(by rw [hk7_5]; rfl), (by rw [hk7_5]; exact tl_0_1 fa)⟩)⟩) (hP.sub (ws' := [(aa, .inr (0, [.ref a1, .int (nI 2), .int (nI pn), .int 0, .int (nI (F.2.1 pn))])), (a1, .inl (cI, 20, .inl (upd (upd fa 0 2) 1 1))), (af, .inr (2, [.ref ak, .ref av, .ref ar, .int (nI P), .int nt, .int yd])), (ak, .inl (cI, 4, .inl fk)), (av, .inl (cI, 4, .inl fv)), (ar, .inl (cI, 4, .inl fr))]) [4, 5, 3, 0, 1, 2] rfl) (hD.sub (ws' := [(aa, .inr (0, [.ref a1, .int (nI 2), .int (nI pn), .int 0, .int (nI (F.2.1 pn))])), (a1, .inl (cI, 20, .inl (upd (upd fa 0 2) 1 1))), (af, .inr (2, [.ref ak, .ref av, .ref ar, .int (nI P), .int nt, .int yd])), (ak, .inl (cI, 4, .inl fk)), (av, .inl (cI, 4, .inl fv)), (ar, .inl (cI, 4, .inl fr))]) [4, 5, 3, 0, 1, 2] (by decide) rfl) hS (Nat.le_of_ble_eq_true rfl) (Nat.le_of_ble_eq_true rfl) dX0_start_47
  · skip
    refine lv_ci 1 (by rw [hk7_5]; rfl) ?_
    refine va_put (ci := 0) (v := .int 1) (ty := .int) (C := RX0) (T := TX0) (N := 5) hx hb hT wu_X0 tyX0 tyX0_ok nmX0 hown hK hP hD hS 0 rfl rfl 3 (by decide) (hT _ wf_X0_31) (fun _ h9 => h9) rfl (by decide +kernel) rfl rfl (Nat.le_of_ble_eq_true rfl) dX0_start_22 (fun H locs hP hD hS => ?_)
    have hP : va_P D CL [(aa, .inr (0, [.ref a1, .int 0, .int (nI pn), .int 1, .int vv])), (a1, .inl (cI, 20, .inl fa)), (ak, .inl (cI, 4, .inl fk)), (av, .inl (cI, 4, .inl fv)), (ar, .inl (cI, 4, .inl fr)), (af, .inr (2, [.ref ak, .ref av, .ref ar, .int (nI P), .int nt, .int yd]))] H := hP
    have hD : va_D A [(aa, .inr (0, [.ref a1, .int 0, .int (nI pn), .int 1, .int vv])), (a1, .inl (cI, 20, .inl fa)), (ak, .inl (cI, 4, .inl fk)), (av, .inl (cI, 4, .inl fv)), (ar, .inl (cI, 4, .inl fr)), (af, .inr (2, [.ref ak, .ref av, .ref ar, .int (nI P), .int nt, .int yd]))] := hD
    refine lv_aload_n hx hb dX0_start_25 rfl (lv_at hl 0 rfl) ?_
    refine lv_aload_n hx hb dX0_start_26 rfl (lv_at hl 1 rfl) ?_
    refine va_getN (ci := 2) (v := .ref av) (C := RX2) (T := TX2) (N := 6) hx hb hT wu_X2 hown hK hP 5 rfl rfl 1 (by decide) (va_Nw.use rfl (hN.get 137 kf_X0_33 rfl)) (fun _ h9 => h9) rfl dX0_start_27 ?_
    refine lv_iload_n hx hb dX0_start_30 rfl (lv_at hl 2 rfl) ?_
    refine va_iald hx hb hK hP 3 0 rfl rfl (vp_in_nI (n := pn) (by omega) (by decide)) dX0_start_31 ?_
    refine lv_ci (fv pn) (congrArg fv (nI_clamp (n := pn) (by omega))) ?_
    have hb_10 := hB.2.1 pn (by omega)
    refine lv_ci (nI (F.2.1 pn)) (hC.2.1.g0 (by omega)) ?_
    refine va_put (ci := 0) (v := .int (nI (F.2.1 pn))) (ty := .int) (C := RX0) (T := TX0) (N := 5) hx hb hT wu_X0 tyX0 tyX0_ok nmX0 hown hK hP hD hS 0 rfl rfl 4 (by decide) (hT _ wf_X0_36) (fun _ h9 => h9) rfl (by decide +kernel) rfl rfl (Nat.le_of_ble_eq_true rfl) dX0_start_32 (fun H locs hP hD hS => ?_)
    have hP : va_P D CL [(aa, .inr (0, [.ref a1, .int 0, .int (nI pn), .int 1, .int (nI (F.2.1 pn))])), (a1, .inl (cI, 20, .inl fa)), (ak, .inl (cI, 4, .inl fk)), (av, .inl (cI, 4, .inl fv)), (ar, .inl (cI, 4, .inl fr)), (af, .inr (2, [.ref ak, .ref av, .ref ar, .int (nI P), .int nt, .int yd]))] H := hP
    have hD : va_D A [(aa, .inr (0, [.ref a1, .int 0, .int (nI pn), .int 1, .int (nI (F.2.1 pn))])), (a1, .inl (cI, 20, .inl fa)), (ak, .inl (cI, 4, .inl fk)), (av, .inl (cI, 4, .inl fv)), (ar, .inl (cI, 4, .inl fr)), (af, .inr (2, [.ref ak, .ref av, .ref ar, .int (nI P), .int nt, .int yd]))] := hD
    refine lv_aload_n hx hb dX0_start_35 rfl (lv_at hl 0 rfl) ?_
    refine lv_aload_n hx hb dX0_start_36 rfl (lv_at hl 0 rfl) ?_
    refine va_get (ci := 0) (v := .int 1) (C := RX0) (T := TX0) (N := 5) hx hb hT wu_X0 hown hK hP 0 rfl rfl 3 (by decide) (hT _ wf_X0_31) (fun _ h9 => h9) rfl dX0_start_37 ?_
    refine lv_iload_n hx hb dX0_start_40 rfl (lv_at hl 3 rfl) ?_
    refine lv_iload hx hb dX0_start_41 (lv_at hl 4 rfl) ?_
    refine lv_iconst (v := 0) hx hb dX0_start_43 (by decide) ?_
    refine contI (wc := [(aa, .inr (0, [.ref a1, .int 0, .int (nI pn), .int 1, .int (nI (F.2.1 pn))])), (a1, .inl (cI, 20, .inl fa))]) (wr := [(ak, .inl (cI, 4, .inl fk)), (av, .inl (cI, 4, .inl fv)), (ar, .inl (cI, 4, .inl fr)), (af, .inr (2, [.ref ak, .ref av, .ref ar, .int (nI P), .int nt, .int yd]))]) C0 hP hD hS [0, 1] [2, 3, 4, 5] rfl rfl (by decide) (by decide) 0 0 (Nat.le_of_ble_eq_true rfl) (Nat.le_of_ble_eq_true rfl) (runV (k := 4) (As := [.int 1, .int 1, .int xx, .int 0]) (rest := []) C0 (c_ask_1_1_1_0_0 l D cI cZ cQ cT _ aa xx a1 (nI pn) (nI (F.2.1 pn)) fa) wc_X0_ask wl_X0_38 wi_X0_ask we_X0_ask wz_X0 ⟨by decide, by decide, by decide +kernel⟩ ⟨(Nat.le_of_ble_eq_true rfl), (Nat.le_of_ble_eq_true rfl)⟩ hP hD hS EF.ok hX [0, 1] rfl (by decide) 0 rfl rfl rfl rfl hl.1 rfl (Nat.le_of_ble_eq_true rfl) dX0_start_44 ⟨(Nat.le_of_ble_eq_true rfl), (Nat.le_of_ble_eq_true rfl)⟩) (fun r_13 u_11 H locs w_12 hP hD hS => ?_)
    have hP : va_P D CL [(ak, .inl (cI, 4, .inl fk)), (av, .inl (cI, 4, .inl fv)), (ar, .inl (cI, 4, .inl fr)), (af, .inr (2, [.ref ak, .ref av, .ref ar, .int (nI P), .int nt, .int yd])), (aa, .inr (0, [.ref a1, .int 3, .int (nI pn), .int 1, .int (nI (F.2.1 pn))])), (a1, .inl (cI, 20, .inl (upd (upd (upd fa 0 2) 1 11) 2 1)))] H := hP
    have hD : va_D A [(ak, .inl (cI, 4, .inl fk)), (av, .inl (cI, 4, .inl fv)), (ar, .inl (cI, 4, .inl fr)), (af, .inr (2, [.ref ak, .ref av, .ref ar, .int (nI P), .int nt, .int yd])), (aa, .inr (0, [.ref a1, .int 3, .int (nI pn), .int 1, .int (nI (F.2.1 pn))])), (a1, .inl (cI, 20, .inl (upd (upd (upd fa 0 2) 1 11) 2 1)))] := hD
    obtain rfl : r_13 = (((xx * (3 : Int32)) + (nI pn)) - (nI (F.2.1 pn))) := w_12
    exact retI C0 rfl ((nI pn), 1, (nI (F.2.1 pn)), (upd (upd (upd fa 0 2) 1 11) 2 1), 3) (⟨(by rw [hk7_5]; rfl), (show 3 = (actB (F.1 pn) 1).length ∧ TL (upd (upd (upd fa 0 2) 1 11) 2 1) (actB (F.1 pn) 1) from ⟨(by rw [hk7_5]; rfl), (by rw [hk7_5]; exact tl_1_1 fa)⟩)⟩) (hP.sub (ws' := [(aa, .inr (0, [.ref a1, .int (nI 3), .int (nI pn), .int 1, .int (nI (F.2.1 pn))])), (a1, .inl (cI, 20, .inl (upd (upd (upd fa 0 2) 1 11) 2 1))), (af, .inr (2, [.ref ak, .ref av, .ref ar, .int (nI P), .int nt, .int yd])), (ak, .inl (cI, 4, .inl fk)), (av, .inl (cI, 4, .inl fv)), (ar, .inl (cI, 4, .inl fr))]) [4, 5, 3, 0, 1, 2] rfl) (hD.sub (ws' := [(aa, .inr (0, [.ref a1, .int (nI 3), .int (nI pn), .int 1, .int (nI (F.2.1 pn))])), (a1, .inl (cI, 20, .inl (upd (upd (upd fa 0 2) 1 11) 2 1))), (af, .inr (2, [.ref ak, .ref av, .ref ar, .int (nI P), .int nt, .int yd])), (ak, .inl (cI, 4, .inl fk)), (av, .inl (cI, 4, .inl fv)), (ar, .inl (cI, 4, .inl fr))]) [4, 5, 3, 0, 1, 2] (by decide) rfl) hS (Nat.le_of_ble_eq_true rfl) (Nat.le_of_ble_eq_true rfl) dX0_start_47
  · skip
    refine lv_ci 2 (by rw [hk7_5]; rfl) ?_
    refine va_put (ci := 0) (v := .int 2) (ty := .int) (C := RX0) (T := TX0) (N := 5) hx hb hT wu_X0 tyX0 tyX0_ok nmX0 hown hK hP hD hS 0 rfl rfl 3 (by decide) (hT _ wf_X0_31) (fun _ h9 => h9) rfl (by decide +kernel) rfl rfl (Nat.le_of_ble_eq_true rfl) dX0_start_22 (fun H locs hP hD hS => ?_)
    have hP : va_P D CL [(aa, .inr (0, [.ref a1, .int 0, .int (nI pn), .int 2, .int vv])), (a1, .inl (cI, 20, .inl fa)), (ak, .inl (cI, 4, .inl fk)), (av, .inl (cI, 4, .inl fv)), (ar, .inl (cI, 4, .inl fr)), (af, .inr (2, [.ref ak, .ref av, .ref ar, .int (nI P), .int nt, .int yd]))] H := hP
    have hD : va_D A [(aa, .inr (0, [.ref a1, .int 0, .int (nI pn), .int 2, .int vv])), (a1, .inl (cI, 20, .inl fa)), (ak, .inl (cI, 4, .inl fk)), (av, .inl (cI, 4, .inl fv)), (ar, .inl (cI, 4, .inl fr)), (af, .inr (2, [.ref ak, .ref av, .ref ar, .int (nI P), .int nt, .int yd]))] := hD
    refine lv_aload_n hx hb dX0_start_25 rfl (lv_at hl 0 rfl) ?_
    refine lv_aload_n hx hb dX0_start_26 rfl (lv_at hl 1 rfl) ?_
    refine va_getN (ci := 2) (v := .ref av) (C := RX2) (T := TX2) (N := 6) hx hb hT wu_X2 hown hK hP 5 rfl rfl 1 (by decide) (va_Nw.use rfl (hN.get 137 kf_X0_33 rfl)) (fun _ h9 => h9) rfl dX0_start_27 ?_
    refine lv_iload_n hx hb dX0_start_30 rfl (lv_at hl 2 rfl) ?_
    refine va_iald hx hb hK hP 3 0 rfl rfl (vp_in_nI (n := pn) (by omega) (by decide)) dX0_start_31 ?_
    refine lv_ci (fv pn) (congrArg fv (nI_clamp (n := pn) (by omega))) ?_
    have hb_14 := hB.2.1 pn (by omega)
    refine lv_ci (nI (F.2.1 pn)) (hC.2.1.g0 (by omega)) ?_
    refine va_put (ci := 0) (v := .int (nI (F.2.1 pn))) (ty := .int) (C := RX0) (T := TX0) (N := 5) hx hb hT wu_X0 tyX0 tyX0_ok nmX0 hown hK hP hD hS 0 rfl rfl 4 (by decide) (hT _ wf_X0_36) (fun _ h9 => h9) rfl (by decide +kernel) rfl rfl (Nat.le_of_ble_eq_true rfl) dX0_start_32 (fun H locs hP hD hS => ?_)
    have hP : va_P D CL [(aa, .inr (0, [.ref a1, .int 0, .int (nI pn), .int 2, .int (nI (F.2.1 pn))])), (a1, .inl (cI, 20, .inl fa)), (ak, .inl (cI, 4, .inl fk)), (av, .inl (cI, 4, .inl fv)), (ar, .inl (cI, 4, .inl fr)), (af, .inr (2, [.ref ak, .ref av, .ref ar, .int (nI P), .int nt, .int yd]))] H := hP
    have hD : va_D A [(aa, .inr (0, [.ref a1, .int 0, .int (nI pn), .int 2, .int (nI (F.2.1 pn))])), (a1, .inl (cI, 20, .inl fa)), (ak, .inl (cI, 4, .inl fk)), (av, .inl (cI, 4, .inl fv)), (ar, .inl (cI, 4, .inl fr)), (af, .inr (2, [.ref ak, .ref av, .ref ar, .int (nI P), .int nt, .int yd]))] := hD
    refine lv_aload_n hx hb dX0_start_35 rfl (lv_at hl 0 rfl) ?_
    refine lv_aload_n hx hb dX0_start_36 rfl (lv_at hl 0 rfl) ?_
    refine va_get (ci := 0) (v := .int 2) (C := RX0) (T := TX0) (N := 5) hx hb hT wu_X0 hown hK hP 0 rfl rfl 3 (by decide) (hT _ wf_X0_31) (fun _ h9 => h9) rfl dX0_start_37 ?_
    refine lv_iload_n hx hb dX0_start_40 rfl (lv_at hl 3 rfl) ?_
    refine lv_iload hx hb dX0_start_41 (lv_at hl 4 rfl) ?_
    refine lv_iconst (v := 0) hx hb dX0_start_43 (by decide) ?_
    refine contI (wc := [(aa, .inr (0, [.ref a1, .int 0, .int (nI pn), .int 2, .int (nI (F.2.1 pn))])), (a1, .inl (cI, 20, .inl fa))]) (wr := [(ak, .inl (cI, 4, .inl fk)), (av, .inl (cI, 4, .inl fv)), (ar, .inl (cI, 4, .inl fr)), (af, .inr (2, [.ref ak, .ref av, .ref ar, .int (nI P), .int nt, .int yd]))]) C0 hP hD hS [0, 1] [2, 3, 4, 5] rfl rfl (by decide) (by decide) 0 0 (Nat.le_of_ble_eq_true rfl) (Nat.le_of_ble_eq_true rfl) (runV (k := 4) (As := [.int 2, .int 1, .int xx, .int 0]) (rest := []) C0 (c_ask_2_2_1_0_0 l D cI cZ cQ cT _ aa xx a1 (nI pn) (nI (F.2.1 pn)) fa) wc_X0_ask wl_X0_38 wi_X0_ask we_X0_ask wz_X0 ⟨by decide, by decide, by decide +kernel⟩ ⟨(Nat.le_of_ble_eq_true rfl), (Nat.le_of_ble_eq_true rfl)⟩ hP hD hS EF.ok hX [0, 1] rfl (by decide) 0 rfl rfl rfl rfl hl.1 rfl (Nat.le_of_ble_eq_true rfl) dX0_start_44 ⟨(Nat.le_of_ble_eq_true rfl), (Nat.le_of_ble_eq_true rfl)⟩) (fun r_17 u_15 H locs w_16 hP hD hS => ?_)
    have hP : va_P D CL [(ak, .inl (cI, 4, .inl fk)), (av, .inl (cI, 4, .inl fv)), (ar, .inl (cI, 4, .inl fr)), (af, .inr (2, [.ref ak, .ref av, .ref ar, .int (nI P), .int nt, .int yd])), (aa, .inr (0, [.ref a1, .int 3, .int (nI pn), .int 2, .int (nI (F.2.1 pn))])), (a1, .inl (cI, 20, .inl (upd (upd (upd fa 0 21) 1 2) 2 1)))] H := hP
    have hD : va_D A [(ak, .inl (cI, 4, .inl fk)), (av, .inl (cI, 4, .inl fv)), (ar, .inl (cI, 4, .inl fr)), (af, .inr (2, [.ref ak, .ref av, .ref ar, .int (nI P), .int nt, .int yd])), (aa, .inr (0, [.ref a1, .int 3, .int (nI pn), .int 2, .int (nI (F.2.1 pn))])), (a1, .inl (cI, 20, .inl (upd (upd (upd fa 0 21) 1 2) 2 1)))] := hD
    obtain rfl : r_17 = (-((xx + (nI pn)) - (nI (F.2.1 pn)))) := w_16
    exact retI C0 rfl ((nI pn), 2, (nI (F.2.1 pn)), (upd (upd (upd fa 0 21) 1 2) 2 1), 3) (⟨(by rw [hk7_5]; rfl), (show 3 = (actB (F.1 pn) 1).length ∧ TL (upd (upd (upd fa 0 21) 1 2) 2 1) (actB (F.1 pn) 1) from ⟨(by rw [hk7_5]; rfl), (by rw [hk7_5]; exact tl_2_1 fa)⟩)⟩) (hP.sub (ws' := [(aa, .inr (0, [.ref a1, .int (nI 3), .int (nI pn), .int 2, .int (nI (F.2.1 pn))])), (a1, .inl (cI, 20, .inl (upd (upd (upd fa 0 21) 1 2) 2 1))), (af, .inr (2, [.ref ak, .ref av, .ref ar, .int (nI P), .int nt, .int yd])), (ak, .inl (cI, 4, .inl fk)), (av, .inl (cI, 4, .inl fv)), (ar, .inl (cI, 4, .inl fr))]) [4, 5, 3, 0, 1, 2] rfl) (hD.sub (ws' := [(aa, .inr (0, [.ref a1, .int (nI 3), .int (nI pn), .int 2, .int (nI (F.2.1 pn))])), (a1, .inl (cI, 20, .inl (upd (upd (upd fa 0 21) 1 2) 2 1))), (af, .inr (2, [.ref ak, .ref av, .ref ar, .int (nI P), .int nt, .int yd])), (ak, .inl (cI, 4, .inl fk)), (av, .inl (cI, 4, .inl fv)), (ar, .inl (cI, 4, .inl fr))]) [4, 5, 3, 0, 1, 2] (by decide) rfl) hS (Nat.le_of_ble_eq_true rfl) (Nat.le_of_ble_eq_true rfl) dX0_start_47
  · skip
    refine lv_ci 3 (by rw [hk7_5]; rfl) ?_
    refine va_put (ci := 0) (v := .int 3) (ty := .int) (C := RX0) (T := TX0) (N := 5) hx hb hT wu_X0 tyX0 tyX0_ok nmX0 hown hK hP hD hS 0 rfl rfl 3 (by decide) (hT _ wf_X0_31) (fun _ h9 => h9) rfl (by decide +kernel) rfl rfl (Nat.le_of_ble_eq_true rfl) dX0_start_22 (fun H locs hP hD hS => ?_)
    have hP : va_P D CL [(aa, .inr (0, [.ref a1, .int 0, .int (nI pn), .int 3, .int vv])), (a1, .inl (cI, 20, .inl fa)), (ak, .inl (cI, 4, .inl fk)), (av, .inl (cI, 4, .inl fv)), (ar, .inl (cI, 4, .inl fr)), (af, .inr (2, [.ref ak, .ref av, .ref ar, .int (nI P), .int nt, .int yd]))] H := hP
    have hD : va_D A [(aa, .inr (0, [.ref a1, .int 0, .int (nI pn), .int 3, .int vv])), (a1, .inl (cI, 20, .inl fa)), (ak, .inl (cI, 4, .inl fk)), (av, .inl (cI, 4, .inl fv)), (ar, .inl (cI, 4, .inl fr)), (af, .inr (2, [.ref ak, .ref av, .ref ar, .int (nI P), .int nt, .int yd]))] := hD
    refine lv_aload_n hx hb dX0_start_25 rfl (lv_at hl 0 rfl) ?_
    refine lv_aload_n hx hb dX0_start_26 rfl (lv_at hl 1 rfl) ?_
    refine va_getN (ci := 2) (v := .ref av) (C := RX2) (T := TX2) (N := 6) hx hb hT wu_X2 hown hK hP 5 rfl rfl 1 (by decide) (va_Nw.use rfl (hN.get 137 kf_X0_33 rfl)) (fun _ h9 => h9) rfl dX0_start_27 ?_
    refine lv_iload_n hx hb dX0_start_30 rfl (lv_at hl 2 rfl) ?_
    refine va_iald hx hb hK hP 3 0 rfl rfl (vp_in_nI (n := pn) (by omega) (by decide)) dX0_start_31 ?_
    refine lv_ci (fv pn) (congrArg fv (nI_clamp (n := pn) (by omega))) ?_
    have hb_18 := hB.2.1 pn (by omega)
    refine lv_ci (nI (F.2.1 pn)) (hC.2.1.g0 (by omega)) ?_
    refine va_put (ci := 0) (v := .int (nI (F.2.1 pn))) (ty := .int) (C := RX0) (T := TX0) (N := 5) hx hb hT wu_X0 tyX0 tyX0_ok nmX0 hown hK hP hD hS 0 rfl rfl 4 (by decide) (hT _ wf_X0_36) (fun _ h9 => h9) rfl (by decide +kernel) rfl rfl (Nat.le_of_ble_eq_true rfl) dX0_start_32 (fun H locs hP hD hS => ?_)
    have hP : va_P D CL [(aa, .inr (0, [.ref a1, .int 0, .int (nI pn), .int 3, .int (nI (F.2.1 pn))])), (a1, .inl (cI, 20, .inl fa)), (ak, .inl (cI, 4, .inl fk)), (av, .inl (cI, 4, .inl fv)), (ar, .inl (cI, 4, .inl fr)), (af, .inr (2, [.ref ak, .ref av, .ref ar, .int (nI P), .int nt, .int yd]))] H := hP
    have hD : va_D A [(aa, .inr (0, [.ref a1, .int 0, .int (nI pn), .int 3, .int (nI (F.2.1 pn))])), (a1, .inl (cI, 20, .inl fa)), (ak, .inl (cI, 4, .inl fk)), (av, .inl (cI, 4, .inl fv)), (ar, .inl (cI, 4, .inl fr)), (af, .inr (2, [.ref ak, .ref av, .ref ar, .int (nI P), .int nt, .int yd]))] := hD
    refine lv_aload_n hx hb dX0_start_35 rfl (lv_at hl 0 rfl) ?_
    refine lv_aload_n hx hb dX0_start_36 rfl (lv_at hl 0 rfl) ?_
    refine va_get (ci := 0) (v := .int 3) (C := RX0) (T := TX0) (N := 5) hx hb hT wu_X0 hown hK hP 0 rfl rfl 3 (by decide) (hT _ wf_X0_31) (fun _ h9 => h9) rfl dX0_start_37 ?_
    refine lv_iload_n hx hb dX0_start_40 rfl (lv_at hl 3 rfl) ?_
    refine lv_iload hx hb dX0_start_41 (lv_at hl 4 rfl) ?_
    refine lv_iconst (v := 0) hx hb dX0_start_43 (by decide) ?_
    refine contI (wc := [(aa, .inr (0, [.ref a1, .int 0, .int (nI pn), .int 3, .int (nI (F.2.1 pn))])), (a1, .inl (cI, 20, .inl fa))]) (wr := [(ak, .inl (cI, 4, .inl fk)), (av, .inl (cI, 4, .inl fv)), (ar, .inl (cI, 4, .inl fr)), (af, .inr (2, [.ref ak, .ref av, .ref ar, .int (nI P), .int nt, .int yd]))]) C0 hP hD hS [0, 1] [2, 3, 4, 5] rfl rfl (by decide) (by decide) 0 0 (Nat.le_of_ble_eq_true rfl) (Nat.le_of_ble_eq_true rfl) (runV (k := 4) (As := [.int 3, .int 1, .int xx, .int 0]) (rest := []) C0 (c_ask_3_3_1_0_0 l D cI cZ cQ cT _ aa xx a1 (nI pn) (nI (F.2.1 pn)) fa) wc_X0_ask wl_X0_38 wi_X0_ask we_X0_ask wz_X0 ⟨by decide, by decide, by decide +kernel⟩ ⟨(Nat.le_of_ble_eq_true rfl), (Nat.le_of_ble_eq_true rfl)⟩ hP hD hS EF.ok hX [0, 1] rfl (by decide) 0 rfl rfl rfl rfl hl.1 rfl (Nat.le_of_ble_eq_true rfl) dX0_start_44 ⟨(Nat.le_of_ble_eq_true rfl), (Nat.le_of_ble_eq_true rfl)⟩) (fun r_21 u_19 H locs w_20 hP hD hS => ?_)
    have hP : va_P D CL [(ak, .inl (cI, 4, .inl fk)), (av, .inl (cI, 4, .inl fv)), (ar, .inl (cI, 4, .inl fr)), (af, .inr (2, [.ref ak, .ref av, .ref ar, .int (nI P), .int nt, .int yd])), (aa, .inr (0, [.ref a1, .int 2, .int (nI pn), .int 3, .int (nI (F.2.1 pn))])), (a1, .inl (cI, 20, .inl (upd (upd fa 0 2) 1 1)))] H := hP
    have hD : va_D A [(ak, .inl (cI, 4, .inl fk)), (av, .inl (cI, 4, .inl fv)), (ar, .inl (cI, 4, .inl fr)), (af, .inr (2, [.ref ak, .ref av, .ref ar, .int (nI P), .int nt, .int yd])), (aa, .inr (0, [.ref a1, .int 2, .int (nI pn), .int 3, .int (nI (F.2.1 pn))])), (a1, .inl (cI, 20, .inl (upd (upd fa 0 2) 1 1)))] := hD
    obtain rfl : r_21 = ((xx + (nI pn)) - (nI (F.2.1 pn))) := w_20
    exact retI C0 rfl ((nI pn), 3, (nI (F.2.1 pn)), (upd (upd fa 0 2) 1 1), 2) (⟨(by rw [hk7_5]; rfl), (show 2 = (actB (F.1 pn) 1).length ∧ TL (upd (upd fa 0 2) 1 1) (actB (F.1 pn) 1) from ⟨(by rw [hk7_5]; rfl), (by rw [hk7_5]; exact tl_3_1 fa)⟩)⟩) (hP.sub (ws' := [(aa, .inr (0, [.ref a1, .int (nI 2), .int (nI pn), .int 3, .int (nI (F.2.1 pn))])), (a1, .inl (cI, 20, .inl (upd (upd fa 0 2) 1 1))), (af, .inr (2, [.ref ak, .ref av, .ref ar, .int (nI P), .int nt, .int yd])), (ak, .inl (cI, 4, .inl fk)), (av, .inl (cI, 4, .inl fv)), (ar, .inl (cI, 4, .inl fr))]) [4, 5, 3, 0, 1, 2] rfl) (hD.sub (ws' := [(aa, .inr (0, [.ref a1, .int (nI 2), .int (nI pn), .int 3, .int (nI (F.2.1 pn))])), (a1, .inl (cI, 20, .inl (upd (upd fa 0 2) 1 1))), (af, .inr (2, [.ref ak, .ref av, .ref ar, .int (nI P), .int nt, .int yd])), (ak, .inl (cI, 4, .inl fk)), (av, .inl (cI, 4, .inl fv)), (ar, .inl (cI, 4, .inl fr))]) [4, 5, 3, 0, 1, 2] (by decide) rfl) hS (Nat.le_of_ble_eq_true rfl) (Nat.le_of_ble_eq_true rfl) dX0_start_47
  · skip
    refine lv_ci 4 (by rw [hk7_5]; rfl) ?_
    refine va_put (ci := 0) (v := .int 4) (ty := .int) (C := RX0) (T := TX0) (N := 5) hx hb hT wu_X0 tyX0 tyX0_ok nmX0 hown hK hP hD hS 0 rfl rfl 3 (by decide) (hT _ wf_X0_31) (fun _ h9 => h9) rfl (by decide +kernel) rfl rfl (Nat.le_of_ble_eq_true rfl) dX0_start_22 (fun H locs hP hD hS => ?_)
    have hP : va_P D CL [(aa, .inr (0, [.ref a1, .int 0, .int (nI pn), .int 4, .int vv])), (a1, .inl (cI, 20, .inl fa)), (ak, .inl (cI, 4, .inl fk)), (av, .inl (cI, 4, .inl fv)), (ar, .inl (cI, 4, .inl fr)), (af, .inr (2, [.ref ak, .ref av, .ref ar, .int (nI P), .int nt, .int yd]))] H := hP
    have hD : va_D A [(aa, .inr (0, [.ref a1, .int 0, .int (nI pn), .int 4, .int vv])), (a1, .inl (cI, 20, .inl fa)), (ak, .inl (cI, 4, .inl fk)), (av, .inl (cI, 4, .inl fv)), (ar, .inl (cI, 4, .inl fr)), (af, .inr (2, [.ref ak, .ref av, .ref ar, .int (nI P), .int nt, .int yd]))] := hD
    refine lv_aload_n hx hb dX0_start_25 rfl (lv_at hl 0 rfl) ?_
    refine lv_aload_n hx hb dX0_start_26 rfl (lv_at hl 1 rfl) ?_
    refine va_getN (ci := 2) (v := .ref av) (C := RX2) (T := TX2) (N := 6) hx hb hT wu_X2 hown hK hP 5 rfl rfl 1 (by decide) (va_Nw.use rfl (hN.get 137 kf_X0_33 rfl)) (fun _ h9 => h9) rfl dX0_start_27 ?_
    refine lv_iload_n hx hb dX0_start_30 rfl (lv_at hl 2 rfl) ?_
    refine va_iald hx hb hK hP 3 0 rfl rfl (vp_in_nI (n := pn) (by omega) (by decide)) dX0_start_31 ?_
    refine lv_ci (fv pn) (congrArg fv (nI_clamp (n := pn) (by omega))) ?_
    have hb_22 := hB.2.1 pn (by omega)
    refine lv_ci (nI (F.2.1 pn)) (hC.2.1.g0 (by omega)) ?_
    refine va_put (ci := 0) (v := .int (nI (F.2.1 pn))) (ty := .int) (C := RX0) (T := TX0) (N := 5) hx hb hT wu_X0 tyX0 tyX0_ok nmX0 hown hK hP hD hS 0 rfl rfl 4 (by decide) (hT _ wf_X0_36) (fun _ h9 => h9) rfl (by decide +kernel) rfl rfl (Nat.le_of_ble_eq_true rfl) dX0_start_32 (fun H locs hP hD hS => ?_)
    have hP : va_P D CL [(aa, .inr (0, [.ref a1, .int 0, .int (nI pn), .int 4, .int (nI (F.2.1 pn))])), (a1, .inl (cI, 20, .inl fa)), (ak, .inl (cI, 4, .inl fk)), (av, .inl (cI, 4, .inl fv)), (ar, .inl (cI, 4, .inl fr)), (af, .inr (2, [.ref ak, .ref av, .ref ar, .int (nI P), .int nt, .int yd]))] H := hP
    have hD : va_D A [(aa, .inr (0, [.ref a1, .int 0, .int (nI pn), .int 4, .int (nI (F.2.1 pn))])), (a1, .inl (cI, 20, .inl fa)), (ak, .inl (cI, 4, .inl fk)), (av, .inl (cI, 4, .inl fv)), (ar, .inl (cI, 4, .inl fr)), (af, .inr (2, [.ref ak, .ref av, .ref ar, .int (nI P), .int nt, .int yd]))] := hD
    refine lv_aload_n hx hb dX0_start_35 rfl (lv_at hl 0 rfl) ?_
    refine lv_aload_n hx hb dX0_start_36 rfl (lv_at hl 0 rfl) ?_
    refine va_get (ci := 0) (v := .int 4) (C := RX0) (T := TX0) (N := 5) hx hb hT wu_X0 hown hK hP 0 rfl rfl 3 (by decide) (hT _ wf_X0_31) (fun _ h9 => h9) rfl dX0_start_37 ?_
    refine lv_iload_n hx hb dX0_start_40 rfl (lv_at hl 3 rfl) ?_
    refine lv_iload hx hb dX0_start_41 (lv_at hl 4 rfl) ?_
    refine lv_iconst (v := 0) hx hb dX0_start_43 (by decide) ?_
    refine contI (wc := [(aa, .inr (0, [.ref a1, .int 0, .int (nI pn), .int 4, .int (nI (F.2.1 pn))])), (a1, .inl (cI, 20, .inl fa))]) (wr := [(ak, .inl (cI, 4, .inl fk)), (av, .inl (cI, 4, .inl fv)), (ar, .inl (cI, 4, .inl fr)), (af, .inr (2, [.ref ak, .ref av, .ref ar, .int (nI P), .int nt, .int yd]))]) C0 hP hD hS [0, 1] [2, 3, 4, 5] rfl rfl (by decide) (by decide) 0 0 (Nat.le_of_ble_eq_true rfl) (Nat.le_of_ble_eq_true rfl) (runV (k := 4) (As := [.int 4, .int 1, .int xx, .int 0]) (rest := []) C0 (c_ask_4_4_1_0_0 l D cI cZ cQ cT _ aa xx a1 (nI pn) (nI (F.2.1 pn)) fa) wc_X0_ask wl_X0_38 wi_X0_ask we_X0_ask wz_X0 ⟨by decide, by decide, by decide +kernel⟩ ⟨(Nat.le_of_ble_eq_true rfl), (Nat.le_of_ble_eq_true rfl)⟩ hP hD hS EF.ok hX [0, 1] rfl (by decide) 0 rfl rfl rfl rfl hl.1 rfl (Nat.le_of_ble_eq_true rfl) dX0_start_44 ⟨(Nat.le_of_ble_eq_true rfl), (Nat.le_of_ble_eq_true rfl)⟩) (fun r_25 u_23 H locs w_24 hP hD hS => ?_)
    have hP : va_P D CL [(ak, .inl (cI, 4, .inl fk)), (av, .inl (cI, 4, .inl fv)), (ar, .inl (cI, 4, .inl fr)), (af, .inr (2, [.ref ak, .ref av, .ref ar, .int (nI P), .int nt, .int yd])), (aa, .inr (0, [.ref a1, .int 3, .int (nI pn), .int 4, .int (nI (F.2.1 pn))])), (a1, .inl (cI, 20, .inl (upd (upd (upd fa 0 21) 1 2) 2 1)))] H := hP
    have hD : va_D A [(ak, .inl (cI, 4, .inl fk)), (av, .inl (cI, 4, .inl fv)), (ar, .inl (cI, 4, .inl fr)), (af, .inr (2, [.ref ak, .ref av, .ref ar, .int (nI P), .int nt, .int yd])), (aa, .inr (0, [.ref a1, .int 3, .int (nI pn), .int 4, .int (nI (F.2.1 pn))])), (a1, .inl (cI, 20, .inl (upd (upd (upd fa 0 21) 1 2) 2 1)))] := hD
    obtain rfl : r_25 = (-((xx + (nI pn)) - (nI (F.2.1 pn)))) := w_24
    exact retI C0 rfl ((nI pn), 4, (nI (F.2.1 pn)), (upd (upd (upd fa 0 21) 1 2) 2 1), 3) (⟨(by rw [hk7_5]; rfl), (show 3 = (actB (F.1 pn) 1).length ∧ TL (upd (upd (upd fa 0 21) 1 2) 2 1) (actB (F.1 pn) 1) from ⟨(by rw [hk7_5]; rfl), (by rw [hk7_5]; exact tl_4_1 fa)⟩)⟩) (hP.sub (ws' := [(aa, .inr (0, [.ref a1, .int (nI 3), .int (nI pn), .int 4, .int (nI (F.2.1 pn))])), (a1, .inl (cI, 20, .inl (upd (upd (upd fa 0 21) 1 2) 2 1))), (af, .inr (2, [.ref ak, .ref av, .ref ar, .int (nI P), .int nt, .int yd])), (ak, .inl (cI, 4, .inl fk)), (av, .inl (cI, 4, .inl fv)), (ar, .inl (cI, 4, .inl fr))]) [4, 5, 3, 0, 1, 2] rfl) (hD.sub (ws' := [(aa, .inr (0, [.ref a1, .int (nI 3), .int (nI pn), .int 4, .int (nI (F.2.1 pn))])), (a1, .inl (cI, 20, .inl (upd (upd (upd fa 0 21) 1 2) 2 1))), (af, .inr (2, [.ref ak, .ref av, .ref ar, .int (nI P), .int nt, .int yd])), (ak, .inl (cI, 4, .inl fk)), (av, .inl (cI, 4, .inl fv)), (ar, .inl (cI, 4, .inl fr))]) [4, 5, 3, 0, 1, 2] (by decide) rfl) hS (Nat.le_of_ble_eq_true rfl) (Nat.le_of_ble_eq_true rfl) dX0_start_47
  · skip
    refine lv_ci 5 (by rw [hk7_5]; rfl) ?_
    refine va_put (ci := 0) (v := .int 5) (ty := .int) (C := RX0) (T := TX0) (N := 5) hx hb hT wu_X0 tyX0 tyX0_ok nmX0 hown hK hP hD hS 0 rfl rfl 3 (by decide) (hT _ wf_X0_31) (fun _ h9 => h9) rfl (by decide +kernel) rfl rfl (Nat.le_of_ble_eq_true rfl) dX0_start_22 (fun H locs hP hD hS => ?_)
    have hP : va_P D CL [(aa, .inr (0, [.ref a1, .int 0, .int (nI pn), .int 5, .int vv])), (a1, .inl (cI, 20, .inl fa)), (ak, .inl (cI, 4, .inl fk)), (av, .inl (cI, 4, .inl fv)), (ar, .inl (cI, 4, .inl fr)), (af, .inr (2, [.ref ak, .ref av, .ref ar, .int (nI P), .int nt, .int yd]))] H := hP
    have hD : va_D A [(aa, .inr (0, [.ref a1, .int 0, .int (nI pn), .int 5, .int vv])), (a1, .inl (cI, 20, .inl fa)), (ak, .inl (cI, 4, .inl fk)), (av, .inl (cI, 4, .inl fv)), (ar, .inl (cI, 4, .inl fr)), (af, .inr (2, [.ref ak, .ref av, .ref ar, .int (nI P), .int nt, .int yd]))] := hD
    refine lv_aload_n hx hb dX0_start_25 rfl (lv_at hl 0 rfl) ?_
    refine lv_aload_n hx hb dX0_start_26 rfl (lv_at hl 1 rfl) ?_
    refine va_getN (ci := 2) (v := .ref av) (C := RX2) (T := TX2) (N := 6) hx hb hT wu_X2 hown hK hP 5 rfl rfl 1 (by decide) (va_Nw.use rfl (hN.get 137 kf_X0_33 rfl)) (fun _ h9 => h9) rfl dX0_start_27 ?_
    refine lv_iload_n hx hb dX0_start_30 rfl (lv_at hl 2 rfl) ?_
    refine va_iald hx hb hK hP 3 0 rfl rfl (vp_in_nI (n := pn) (by omega) (by decide)) dX0_start_31 ?_
    refine lv_ci (fv pn) (congrArg fv (nI_clamp (n := pn) (by omega))) ?_
    have hb_26 := hB.2.1 pn (by omega)
    refine lv_ci (nI (F.2.1 pn)) (hC.2.1.g0 (by omega)) ?_
    refine va_put (ci := 0) (v := .int (nI (F.2.1 pn))) (ty := .int) (C := RX0) (T := TX0) (N := 5) hx hb hT wu_X0 tyX0 tyX0_ok nmX0 hown hK hP hD hS 0 rfl rfl 4 (by decide) (hT _ wf_X0_36) (fun _ h9 => h9) rfl (by decide +kernel) rfl rfl (Nat.le_of_ble_eq_true rfl) dX0_start_32 (fun H locs hP hD hS => ?_)
    have hP : va_P D CL [(aa, .inr (0, [.ref a1, .int 0, .int (nI pn), .int 5, .int (nI (F.2.1 pn))])), (a1, .inl (cI, 20, .inl fa)), (ak, .inl (cI, 4, .inl fk)), (av, .inl (cI, 4, .inl fv)), (ar, .inl (cI, 4, .inl fr)), (af, .inr (2, [.ref ak, .ref av, .ref ar, .int (nI P), .int nt, .int yd]))] H := hP
    have hD : va_D A [(aa, .inr (0, [.ref a1, .int 0, .int (nI pn), .int 5, .int (nI (F.2.1 pn))])), (a1, .inl (cI, 20, .inl fa)), (ak, .inl (cI, 4, .inl fk)), (av, .inl (cI, 4, .inl fv)), (ar, .inl (cI, 4, .inl fr)), (af, .inr (2, [.ref ak, .ref av, .ref ar, .int (nI P), .int nt, .int yd]))] := hD
    refine lv_aload_n hx hb dX0_start_35 rfl (lv_at hl 0 rfl) ?_
    refine lv_aload_n hx hb dX0_start_36 rfl (lv_at hl 0 rfl) ?_
    refine va_get (ci := 0) (v := .int 5) (C := RX0) (T := TX0) (N := 5) hx hb hT wu_X0 hown hK hP 0 rfl rfl 3 (by decide) (hT _ wf_X0_31) (fun _ h9 => h9) rfl dX0_start_37 ?_
    refine lv_iload_n hx hb dX0_start_40 rfl (lv_at hl 3 rfl) ?_
    refine lv_iload hx hb dX0_start_41 (lv_at hl 4 rfl) ?_
    refine lv_iconst (v := 0) hx hb dX0_start_43 (by decide) ?_
    refine contI (wc := [(aa, .inr (0, [.ref a1, .int 0, .int (nI pn), .int 5, .int (nI (F.2.1 pn))])), (a1, .inl (cI, 20, .inl fa))]) (wr := [(ak, .inl (cI, 4, .inl fk)), (av, .inl (cI, 4, .inl fv)), (ar, .inl (cI, 4, .inl fr)), (af, .inr (2, [.ref ak, .ref av, .ref ar, .int (nI P), .int nt, .int yd]))]) C0 hP hD hS [0, 1] [2, 3, 4, 5] rfl rfl (by decide) (by decide) 0 0 (Nat.le_of_ble_eq_true rfl) (Nat.le_of_ble_eq_true rfl) (runV (k := 4) (As := [.int 5, .int 1, .int xx, .int 0]) (rest := []) C0 (c_ask_5_5_1_0_0 l D cI cZ cQ cT _ aa xx a1 (nI pn) (nI (F.2.1 pn)) fa) wc_X0_ask wl_X0_38 wi_X0_ask we_X0_ask wz_X0 ⟨by decide, by decide, by decide +kernel⟩ ⟨(Nat.le_of_ble_eq_true rfl), (Nat.le_of_ble_eq_true rfl)⟩ hP hD hS EF.ok hX [0, 1] rfl (by decide) 0 rfl rfl rfl rfl hl.1 rfl (Nat.le_of_ble_eq_true rfl) dX0_start_44 ⟨(Nat.le_of_ble_eq_true rfl), (Nat.le_of_ble_eq_true rfl)⟩) (fun r_29 u_27 H locs w_28 hP hD hS => ?_)
    have hP : va_P D CL [(ak, .inl (cI, 4, .inl fk)), (av, .inl (cI, 4, .inl fv)), (ar, .inl (cI, 4, .inl fr)), (af, .inr (2, [.ref ak, .ref av, .ref ar, .int (nI P), .int nt, .int yd])), (aa, .inr (0, [.ref a1, .int 3, .int (nI pn), .int 5, .int (nI (F.2.1 pn))])), (a1, .inl (cI, 20, .inl (upd (upd (upd fa 0 2) 1 51) 2 1)))] H := hP
    have hD : va_D A [(ak, .inl (cI, 4, .inl fk)), (av, .inl (cI, 4, .inl fv)), (ar, .inl (cI, 4, .inl fr)), (af, .inr (2, [.ref ak, .ref av, .ref ar, .int (nI P), .int nt, .int yd])), (aa, .inr (0, [.ref a1, .int 3, .int (nI pn), .int 5, .int (nI (F.2.1 pn))])), (a1, .inl (cI, 20, .inl (upd (upd (upd fa 0 2) 1 51) 2 1)))] := hD
    obtain rfl : r_29 = (((xx + (nI pn)) ^^^ (nI pn)) - (nI (F.2.1 pn))) := w_28
    exact retI C0 rfl ((nI pn), 5, (nI (F.2.1 pn)), (upd (upd (upd fa 0 2) 1 51) 2 1), 3) (⟨(by rw [hk7_5]; rfl), (show 3 = (actB (F.1 pn) 1).length ∧ TL (upd (upd (upd fa 0 2) 1 51) 2 1) (actB (F.1 pn) 1) from ⟨(by rw [hk7_5]; rfl), (by rw [hk7_5]; exact tl_5_1 fa)⟩)⟩) (hP.sub (ws' := [(aa, .inr (0, [.ref a1, .int (nI 3), .int (nI pn), .int 5, .int (nI (F.2.1 pn))])), (a1, .inl (cI, 20, .inl (upd (upd (upd fa 0 2) 1 51) 2 1))), (af, .inr (2, [.ref ak, .ref av, .ref ar, .int (nI P), .int nt, .int yd])), (ak, .inl (cI, 4, .inl fk)), (av, .inl (cI, 4, .inl fv)), (ar, .inl (cI, 4, .inl fr))]) [4, 5, 3, 0, 1, 2] rfl) (hD.sub (ws' := [(aa, .inr (0, [.ref a1, .int (nI 3), .int (nI pn), .int 5, .int (nI (F.2.1 pn))])), (a1, .inl (cI, 20, .inl (upd (upd (upd fa 0 2) 1 51) 2 1))), (af, .inr (2, [.ref ak, .ref av, .ref ar, .int (nI P), .int nt, .int yd])), (ak, .inl (cI, 4, .inl fk)), (av, .inl (cI, 4, .inl fv)), (ar, .inl (cI, 4, .inl fr))]) [4, 5, 3, 0, 1, 2] (by decide) rfl) hS (Nat.le_of_ble_eq_true rfl) (Nat.le_of_ble_eq_true rfl) dX0_start_47
  · skip
    refine lv_ci 6 (by rw [hk7_5]; rfl) ?_
    refine va_put (ci := 0) (v := .int 6) (ty := .int) (C := RX0) (T := TX0) (N := 5) hx hb hT wu_X0 tyX0 tyX0_ok nmX0 hown hK hP hD hS 0 rfl rfl 3 (by decide) (hT _ wf_X0_31) (fun _ h9 => h9) rfl (by decide +kernel) rfl rfl (Nat.le_of_ble_eq_true rfl) dX0_start_22 (fun H locs hP hD hS => ?_)
    have hP : va_P D CL [(aa, .inr (0, [.ref a1, .int 0, .int (nI pn), .int 6, .int vv])), (a1, .inl (cI, 20, .inl fa)), (ak, .inl (cI, 4, .inl fk)), (av, .inl (cI, 4, .inl fv)), (ar, .inl (cI, 4, .inl fr)), (af, .inr (2, [.ref ak, .ref av, .ref ar, .int (nI P), .int nt, .int yd]))] H := hP
    have hD : va_D A [(aa, .inr (0, [.ref a1, .int 0, .int (nI pn), .int 6, .int vv])), (a1, .inl (cI, 20, .inl fa)), (ak, .inl (cI, 4, .inl fk)), (av, .inl (cI, 4, .inl fv)), (ar, .inl (cI, 4, .inl fr)), (af, .inr (2, [.ref ak, .ref av, .ref ar, .int (nI P), .int nt, .int yd]))] := hD
    refine lv_aload_n hx hb dX0_start_25 rfl (lv_at hl 0 rfl) ?_
    refine lv_aload_n hx hb dX0_start_26 rfl (lv_at hl 1 rfl) ?_
    refine va_getN (ci := 2) (v := .ref av) (C := RX2) (T := TX2) (N := 6) hx hb hT wu_X2 hown hK hP 5 rfl rfl 1 (by decide) (va_Nw.use rfl (hN.get 137 kf_X0_33 rfl)) (fun _ h9 => h9) rfl dX0_start_27 ?_
    refine lv_iload_n hx hb dX0_start_30 rfl (lv_at hl 2 rfl) ?_
    refine va_iald hx hb hK hP 3 0 rfl rfl (vp_in_nI (n := pn) (by omega) (by decide)) dX0_start_31 ?_
    refine lv_ci (fv pn) (congrArg fv (nI_clamp (n := pn) (by omega))) ?_
    have hb_30 := hB.2.1 pn (by omega)
    refine lv_ci (nI (F.2.1 pn)) (hC.2.1.g0 (by omega)) ?_
    refine va_put (ci := 0) (v := .int (nI (F.2.1 pn))) (ty := .int) (C := RX0) (T := TX0) (N := 5) hx hb hT wu_X0 tyX0 tyX0_ok nmX0 hown hK hP hD hS 0 rfl rfl 4 (by decide) (hT _ wf_X0_36) (fun _ h9 => h9) rfl (by decide +kernel) rfl rfl (Nat.le_of_ble_eq_true rfl) dX0_start_32 (fun H locs hP hD hS => ?_)
    have hP : va_P D CL [(aa, .inr (0, [.ref a1, .int 0, .int (nI pn), .int 6, .int (nI (F.2.1 pn))])), (a1, .inl (cI, 20, .inl fa)), (ak, .inl (cI, 4, .inl fk)), (av, .inl (cI, 4, .inl fv)), (ar, .inl (cI, 4, .inl fr)), (af, .inr (2, [.ref ak, .ref av, .ref ar, .int (nI P), .int nt, .int yd]))] H := hP
    have hD : va_D A [(aa, .inr (0, [.ref a1, .int 0, .int (nI pn), .int 6, .int (nI (F.2.1 pn))])), (a1, .inl (cI, 20, .inl fa)), (ak, .inl (cI, 4, .inl fk)), (av, .inl (cI, 4, .inl fv)), (ar, .inl (cI, 4, .inl fr)), (af, .inr (2, [.ref ak, .ref av, .ref ar, .int (nI P), .int nt, .int yd]))] := hD
    refine lv_aload_n hx hb dX0_start_35 rfl (lv_at hl 0 rfl) ?_
    refine lv_aload_n hx hb dX0_start_36 rfl (lv_at hl 0 rfl) ?_
    refine va_get (ci := 0) (v := .int 6) (C := RX0) (T := TX0) (N := 5) hx hb hT wu_X0 hown hK hP 0 rfl rfl 3 (by decide) (hT _ wf_X0_31) (fun _ h9 => h9) rfl dX0_start_37 ?_
    refine lv_iload_n hx hb dX0_start_40 rfl (lv_at hl 3 rfl) ?_
    refine lv_iload hx hb dX0_start_41 (lv_at hl 4 rfl) ?_
    refine lv_iconst (v := 0) hx hb dX0_start_43 (by decide) ?_
    refine contI (wc := [(aa, .inr (0, [.ref a1, .int 0, .int (nI pn), .int 6, .int (nI (F.2.1 pn))])), (a1, .inl (cI, 20, .inl fa))]) (wr := [(ak, .inl (cI, 4, .inl fk)), (av, .inl (cI, 4, .inl fv)), (ar, .inl (cI, 4, .inl fr)), (af, .inr (2, [.ref ak, .ref av, .ref ar, .int (nI P), .int nt, .int yd]))]) C0 hP hD hS [0, 1] [2, 3, 4, 5] rfl rfl (by decide) (by decide) 0 0 (Nat.le_of_ble_eq_true rfl) (Nat.le_of_ble_eq_true rfl) (runV (k := 4) (As := [.int 6, .int 1, .int xx, .int 0]) (rest := []) C0 (c_ask_6_6_1_0_0 l D cI cZ cQ cT _ aa xx a1 (nI pn) (nI (F.2.1 pn)) fa) wc_X0_ask wl_X0_38 wi_X0_ask we_X0_ask wz_X0 ⟨by decide, by decide, by decide +kernel⟩ ⟨(Nat.le_of_ble_eq_true rfl), (Nat.le_of_ble_eq_true rfl)⟩ hP hD hS EF.ok hX [0, 1] rfl (by decide) 0 rfl rfl rfl rfl hl.1 rfl (Nat.le_of_ble_eq_true rfl) dX0_start_44 ⟨(Nat.le_of_ble_eq_true rfl), (Nat.le_of_ble_eq_true rfl)⟩) (fun r_33 u_31 H locs w_32 hP hD hS => ?_)
    have hP : va_P D CL [(ak, .inl (cI, 4, .inl fk)), (av, .inl (cI, 4, .inl fv)), (ar, .inl (cI, 4, .inl fr)), (af, .inr (2, [.ref ak, .ref av, .ref ar, .int (nI P), .int nt, .int yd])), (aa, .inr (0, [.ref a1, .int 3, .int (nI pn), .int 6, .int (nI (F.2.1 pn))])), (a1, .inl (cI, 20, .inl (upd (upd (upd fa 0 61) 1 2) 2 1)))] H := hP
    have hD : va_D A [(ak, .inl (cI, 4, .inl fk)), (av, .inl (cI, 4, .inl fv)), (ar, .inl (cI, 4, .inl fr)), (af, .inr (2, [.ref ak, .ref av, .ref ar, .int (nI P), .int nt, .int yd])), (aa, .inr (0, [.ref a1, .int 3, .int (nI pn), .int 6, .int (nI (F.2.1 pn))])), (a1, .inl (cI, 20, .inl (upd (upd (upd fa 0 61) 1 2) 2 1)))] := hD
    obtain rfl : r_33 = (((xx + (nI pn)) - (nI (F.2.1 pn))) + (nI (F.2.1 pn))) := w_32
    exact retI C0 rfl ((nI pn), 6, (nI (F.2.1 pn)), (upd (upd (upd fa 0 61) 1 2) 2 1), 3) (⟨(by rw [hk7_5]; rfl), (show 3 = (actB (F.1 pn) 1).length ∧ TL (upd (upd (upd fa 0 61) 1 2) 2 1) (actB (F.1 pn) 1) from ⟨(by rw [hk7_5]; rfl), (by rw [hk7_5]; exact tl_6_1 fa)⟩)⟩) (hP.sub (ws' := [(aa, .inr (0, [.ref a1, .int (nI 3), .int (nI pn), .int 6, .int (nI (F.2.1 pn))])), (a1, .inl (cI, 20, .inl (upd (upd (upd fa 0 61) 1 2) 2 1))), (af, .inr (2, [.ref ak, .ref av, .ref ar, .int (nI P), .int nt, .int yd])), (ak, .inl (cI, 4, .inl fk)), (av, .inl (cI, 4, .inl fv)), (ar, .inl (cI, 4, .inl fr))]) [4, 5, 3, 0, 1, 2] rfl) (hD.sub (ws' := [(aa, .inr (0, [.ref a1, .int (nI 3), .int (nI pn), .int 6, .int (nI (F.2.1 pn))])), (a1, .inl (cI, 20, .inl (upd (upd (upd fa 0 61) 1 2) 2 1))), (af, .inr (2, [.ref ak, .ref av, .ref ar, .int (nI P), .int nt, .int yd])), (ak, .inl (cI, 4, .inl fk)), (av, .inl (cI, 4, .inl fv)), (ar, .inl (cI, 4, .inl fr))]) [4, 5, 3, 0, 1, 2] (by decide) rfl) hS (Nat.le_of_ble_eq_true rfl) (Nat.le_of_ble_eq_true rfl) dX0_start_47

set_option maxHeartbeats 4000000 in
set_option maxRecDepth 100000 in
theorem c_bodyOf_0_2 (l : Launch) (D : va_G) (cI cZ cQ cT : ClassId) (sz : Nat)   : MetI l yX0_bodyOf cX0_bodyOf 5 .int ({ frames := 0, cells := 0, slots := 0, locals := 0 } : Room) [.int 0, .int 2] D (TYS cI cZ cQ cT) EF sz [] (S := Unit) (fun (r : Int32) (_ : Unit) => r = 3) (fun _ => []) := by
  refine MetI.mk (lv := [(0, .int 0), (1, .int 2)]) (by decide +kernel) (Nat.le_of_ble_eq_true rfl) rfl ?_
  intro p e s m below meth c A ls C0 hP hD hS hX hl
  have C1 := C0
  obtain ⟨hx, hb, hr, hml, hown, hlocks, hname, hT, hN, hK, hA⟩ := C1
  obtain ⟨kab, hkz, hkT⟩ := hX.2.1
  obtain ⟨bdy, hbz, hbT⟩ := hX.2.2.1
  refine lv_iload_n hx hb dX0_bodyOf_0 rfl (lv_at hl 0 rfl) ?_
  refine lv_istore_n (lv' := [(2, .int 0), (0, .int 0), (1, .int 2)]) hx hb dX0_bodyOf_1 rfl hl (by decide) rfl (fun ls hl => ?_)
  refine lv_iconst (v := 0) hx hb dX0_bodyOf_2 (by decide) ?_
  refine lv_istore_n (lv' := [(3, .int 0), (2, .int 0), (0, .int 0), (1, .int 2)]) hx hb dX0_bodyOf_3 rfl hl (by decide) rfl (fun ls hl => ?_)
  refine lv_iload_n hx hb dX0_bodyOf_4 rfl (lv_at hl 0 rfl) ?_
  refine lv_bipush (v := 7) hx hb dX0_bodyOf_5 (by decide) ?_
  refine lv_icmp_ge (tgt := 69) hx hb dX0_bodyOf_7 (by decide) (fun c_0 => absurd c_0 (by decide)) (fun _ => ?_)
  refine lv_iload_n hx hb dX0_bodyOf_10 rfl (lv_at hl 1 rfl) ?_
  refine lv_if_lt (tgt := 69) hx hb dX0_bodyOf_11 (by decide) (fun c_0 => absurd c_0 (by decide)) (fun _ => ?_)
  refine lv_iload_n hx hb dX0_bodyOf_14 rfl (lv_at hl 1 rfl) ?_
  refine lv_bipush (v := 7) hx hb dX0_bodyOf_15 (by decide) ?_
  refine lv_icmp_ge (tgt := 69) hx hb dX0_bodyOf_17 (by decide) (fun c_0 => absurd c_0 (by decide)) (fun _ => ?_)
  refine lv_iload_n hx hb dX0_bodyOf_20 rfl (lv_at hl 1 rfl) ?_
  refine lv_iconst (v := 3) hx hb dX0_bodyOf_21 (by decide) ?_
  refine lv_imul hx hb dX0_bodyOf_22 ?_
  refine lv_ci 0 (by decide +kernel) ?_
  refine lv_iload_n hx hb dX0_bodyOf_23 rfl (lv_at hl 3 rfl) ?_
  refine lv_iadd hx hb dX0_bodyOf_24 ?_
  refine lv_ci 2 (by decide +kernel) ?_
  refine lv_istore (lv' := [(4, .int 2), (3, .int 0), (2, .int 0), (0, .int 0), (1, .int 2)]) hx hb dX0_bodyOf_25 hl (by decide) rfl (fun ls hl => ?_)
  refine lv_iload hx hb dX0_bodyOf_27 (lv_at hl 0 rfl) ?_
  refine lv_if_lt (tgt := 57) hx hb dX0_bodyOf_29 (by decide) (fun c_0 => absurd c_0 (by decide)) (fun _ => ?_)
  refine lv_iload hx hb dX0_bodyOf_32 (lv_at hl 0 rfl) ?_
  refine va_gets hx hb hbz hS hown (hT _ wf_X0_42) (fun _ h9 => h9) dX0_bodyOf_34 ?_
  refine va_tlen hx hb hbT hS (v := 21) rfl dX0_bodyOf_37 ?_
  refine lv_icmp_ge (tgt := 57) hx hb dX0_bodyOf_38 (by decide) (fun c_0 => absurd c_0 (by decide)) (fun _ => ?_)
  refine va_gets hx hb hbz hS hown (hT _ wf_X0_42) (fun _ h9 => h9) dX0_bodyOf_41 ?_
  refine lv_iload hx hb dX0_bodyOf_44 (lv_at hl 0 rfl) ?_
  refine va_ti hx hb hbT hS (vin _ _ (by decide +kernel)) (v := .int 3) rfl dX0_bodyOf_46 ?_
  refine lv_if_eq (tgt := 57) hx hb dX0_bodyOf_47 (by decide) (fun c_0 => absurd c_0 (by decide)) (fun _ => ?_)
  refine va_gets hx hb hbz hS hown (hT _ wf_X0_42) (fun _ h9 => h9) dX0_bodyOf_50 ?_
  refine lv_iload hx hb dX0_bodyOf_53 (lv_at hl 0 rfl) ?_
  refine va_ti hx hb hbT hS (vin _ _ (by decide +kernel)) (v := .int 3) rfl dX0_bodyOf_55 ?_
  exact retI C0 rfl () rfl (hP.sub (ws' := []) [] rfl) (hD.sub (ws' := []) [] (by decide) rfl) hS (Nat.le_of_ble_eq_true rfl) (Nat.le_of_ble_eq_true rfl) dX0_bodyOf_56

set_option maxHeartbeats 4000000 in
set_option maxRecDepth 100000 in
theorem c_ask_0_0_0_2_2 (l : Launch) (D : va_G) (cI cZ cQ cT : ClassId) (sz : Nat) (aa : Nat) (xx : Int32) (a1 : Nat) (sl : Int32) (vv : Int32) (fa : Nat → Int32)  : MetI l yX0_ask cX0_ask 7 .int ({ frames := 1, cells := 0, slots := 0, locals := 24 } : Room) [.ref aa, .int 0, .int 0, .int xx, .int 2] D (TYS cI cZ cQ cT) EF sz [(aa, .inr (0, [.ref a1, .int 2, .int sl, .int 0, .int vv])), (a1, .inl (cI, 20, .inl fa))] (S := Unit) (fun (r : Int32) (_ : Unit) => r = (xx + sl)) (fun _ => [(aa, .inr (0, [.ref a1, .int 3, .int sl, .int 0, .int vv])), (a1, .inl (cI, 20, .inl (upd fa 2 1)))]) := by
  refine MetI.mk (lv := [(0, .ref aa), (1, .int 0), (2, .int 0), (3, .int xx), (4, .int 2)]) (by decide +kernel) (Nat.le_of_ble_eq_true rfl) rfl ?_
  intro p e s m below meth c A ls C0 hP hD hS hX hl
  have C1 := C0
  obtain ⟨hx, hb, hr, hml, hown, hlocks, hname, hT, hN, hK, hA⟩ := C1
  refine lv_iload_n hx hb dX0_ask_0 rfl (lv_at hl 1 rfl) ?_
  refine lv_iload_n hx hb dX0_ask_1 rfl (lv_at hl 2 rfl) ?_
  refine contI (wc := []) (wr := [(aa, .inr (0, [.ref a1, .int 2, .int sl, .int 0, .int vv])), (a1, .inl (cI, 20, .inl fa))]) C0 hP hD hS [] [0, 1] rfl rfl (by decide) (by decide) 0 0 (Nat.le_of_ble_eq_true rfl) (Nat.le_of_ble_eq_true rfl) (runS (k := 2) (As := [.int 0, .int 0]) (rest := []) C0 (c_bodyOf_0_0 l D cI cZ cQ cT _ ) wc_X0_bodyOf wl_X0_48 wt_X0_bodyOf wz_X0 ⟨by decide, by decide, by decide +kernel⟩ ⟨(Nat.le_of_ble_eq_true rfl), (Nat.le_of_ble_eq_true rfl)⟩ hP hD hS EF.ok hX [] rfl (by decide) rfl hl.1 rfl (Nat.le_of_ble_eq_true rfl) dX0_ask_2 ⟨(Nat.le_of_ble_eq_true rfl), (Nat.le_of_ble_eq_true rfl)⟩) (fun r_3 u_1 H locs w_2 hP hD hS => ?_)
  have hP : va_P D CL [(aa, .inr (0, [.ref a1, .int 2, .int sl, .int 0, .int vv])), (a1, .inl (cI, 20, .inl fa))] H := hP
  have hD : va_D A [(aa, .inr (0, [.ref a1, .int 2, .int sl, .int 0, .int vv])), (a1, .inl (cI, 20, .inl fa))] := hD
  obtain rfl : r_3 = 1 := w_2
  refine lv_istore (lv' := [(5, .int 1), (0, .ref aa), (1, .int 0), (2, .int 0), (3, .int xx), (4, .int 2)]) hx hb dX0_ask_5 hl (by decide) rfl (fun ls hl => ?_)
  refine lv_iload hx hb dX0_ask_7 (lv_at hl 0 rfl) ?_
  refine lv_if_eq (tgt := 19) hx hb dX0_ask_9 (by decide) (fun c_0 => absurd c_0 (by decide)) (fun _ => ?_)
  refine lv_iload hx hb dX0_ask_12 (lv_at hl 5 rfl) ?_
  refine lv_bipush (v := 40) hx hb dX0_ask_14 (by decide) ?_
  refine lv_icmp_le (tgt := 21) hx hb dX0_ask_16 (by decide) (fun _ => ?_) (fun c_0 => absurd (by decide) c_0)
  refine lv_aload_n hx hb dX0_ask_21 rfl (lv_at hl 1 rfl) ?_
  refine lv_iload hx hb dX0_ask_22 (lv_at hl 0 rfl) ?_
  refine contV (wc := [(aa, .inr (0, [.ref a1, .int 2, .int sl, .int 0, .int vv])), (a1, .inl (cI, 20, .inl fa))]) (wr := []) C0 hP hD hS [0, 1] [] rfl rfl (by decide) (by decide) 0 0 (Nat.le_of_ble_eq_true rfl) (Nat.le_of_ble_eq_true rfl) (runV (k := 1) (As := [.int 1]) (rest := []) C0 (c_begin_2 l D cI cZ cQ cT _ aa 1 a1 sl 0 vv fa) wc_X0_begin wl_X0_52 wi_X0_begin we_X0_begin wz_X0 ⟨by decide, by decide, by decide +kernel⟩ ⟨(Nat.le_of_ble_eq_true rfl), (Nat.le_of_ble_eq_true rfl)⟩ hP hD hS EF.ok hX [0, 1] rfl (by decide) 0 rfl rfl rfl rfl hl.1 rfl (Nat.le_of_ble_eq_true rfl) dX0_ask_24 ⟨(Nat.le_of_ble_eq_true rfl), (Nat.le_of_ble_eq_true rfl)⟩) (fun u_4 H locs w_5 hP hD hS => ?_)
  have hP : va_P D CL [(aa, .inr (0, [.ref a1, .int 3, .int sl, .int 0, .int vv])), (a1, .inl (cI, 20, .inl (upd fa 2 (1 : Int32))))] H := hP
  have hD : va_D A [(aa, .inr (0, [.ref a1, .int 3, .int sl, .int 0, .int vv])), (a1, .inl (cI, 20, .inl (upd fa 2 (1 : Int32))))] := hD
  refine lv_iload hx hb dX0_ask_27 (lv_at hl 5 rfl) ?_
  refine lv_iconst (v := 1) hx hb dX0_ask_29 (by decide) ?_
  refine lv_iadd hx hb dX0_ask_30 ?_
  refine lv_ci 3 (by decide +kernel) ?_
  refine lv_istore (lv' := [(6, .int 3), (5, .int 1), (0, .ref aa), (1, .int 0), (2, .int 0), (3, .int xx), (4, .int 2)]) hx hb dX0_ask_31 hl (by decide) rfl (fun ls hl => ?_)
  refine lv_iload hx hb dX0_ask_33 (lv_at hl 1 rfl) ?_
  refine lv_lookup (off := 81) (tgt := 116) hx hb dX0_ask_35 (by decide) (by decide) (by decide) ?_
  refine lv_iload_n hx hb dX0_ask_116 rfl (lv_at hl 5 rfl) ?_
  refine lv_aload_n hx hb dX0_ask_117 rfl (lv_at hl 2 rfl) ?_
  refine va_get (ci := 0) (v := .int sl) (C := RX0) (T := TX0) (N := 5) hx hb hT wu_X0 hown hK hP 0 rfl rfl 2 (by decide) (hT _ wf_X0_25) (fun _ h9 => h9) rfl dX0_ask_118 ?_
  refine lv_iadd hx hb dX0_ask_121 ?_
  exact retI C0 rfl () rfl (hP.sub (ws' := [(aa, .inr (0, [.ref a1, .int 3, .int sl, .int 0, .int vv])), (a1, .inl (cI, 20, .inl (upd fa 2 1)))]) [0, 1] rfl) (hD.sub (ws' := [(aa, .inr (0, [.ref a1, .int 3, .int sl, .int 0, .int vv])), (a1, .inl (cI, 20, .inl (upd fa 2 1)))]) [0, 1] (by decide) rfl) hS (Nat.le_of_ble_eq_true rfl) (Nat.le_of_ble_eq_true rfl) dX0_ask_122

set_option maxHeartbeats 4000000 in
set_option maxRecDepth 100000 in
theorem c_ask_0_0_1_1_1 (l : Launch) (D : va_G) (cI cZ cQ cT : ClassId) (sz : Nat) (aa : Nat) (xx : Int32) (a1 : Nat) (sl : Int32) (vv : Int32) (fa : Nat → Int32)  : MetI l yX0_ask cX0_ask 7 .int ({ frames := 2, cells := 0, slots := 0, locals := 50 } : Room) [.ref aa, .int 0, .int 1, .int xx, .int 1] D (TYS cI cZ cQ cT) EF sz [(aa, .inr (0, [.ref a1, .int 1, .int sl, .int 0, .int vv])), (a1, .inl (cI, 20, .inl fa))] (S := Unit) (fun (r : Int32) (_ : Unit) => r = ((xx + sl) - vv)) (fun _ => [(aa, .inr (0, [.ref a1, .int 3, .int sl, .int 0, .int vv])), (a1, .inl (cI, 20, .inl (upd (upd fa 1 2) 2 1)))]) := by
  refine MetI.mk (lv := [(0, .ref aa), (1, .int 0), (2, .int 1), (3, .int xx), (4, .int 1)]) (by decide +kernel) (Nat.le_of_ble_eq_true rfl) rfl ?_
  intro p e s m below meth c A ls C0 hP hD hS hX hl
  have C1 := C0
  obtain ⟨hx, hb, hr, hml, hown, hlocks, hname, hT, hN, hK, hA⟩ := C1
  refine lv_iload_n hx hb dX0_ask_0 rfl (lv_at hl 1 rfl) ?_
  refine lv_iload_n hx hb dX0_ask_1 rfl (lv_at hl 2 rfl) ?_
  refine contI (wc := []) (wr := [(aa, .inr (0, [.ref a1, .int 1, .int sl, .int 0, .int vv])), (a1, .inl (cI, 20, .inl fa))]) C0 hP hD hS [] [0, 1] rfl rfl (by decide) (by decide) 0 0 (Nat.le_of_ble_eq_true rfl) (Nat.le_of_ble_eq_true rfl) (runS (k := 2) (As := [.int 0, .int 1]) (rest := []) C0 (c_bodyOf_0_1 l D cI cZ cQ cT _ ) wc_X0_bodyOf wl_X0_48 wt_X0_bodyOf wz_X0 ⟨by decide, by decide, by decide +kernel⟩ ⟨(Nat.le_of_ble_eq_true rfl), (Nat.le_of_ble_eq_true rfl)⟩ hP hD hS EF.ok hX [] rfl (by decide) rfl hl.1 rfl (Nat.le_of_ble_eq_true rfl) dX0_ask_2 ⟨(Nat.le_of_ble_eq_true rfl), (Nat.le_of_ble_eq_true rfl)⟩) (fun r_3 u_1 H locs w_2 hP hD hS => ?_)
  have hP : va_P D CL [(aa, .inr (0, [.ref a1, .int 1, .int sl, .int 0, .int vv])), (a1, .inl (cI, 20, .inl fa))] H := hP
  have hD : va_D A [(aa, .inr (0, [.ref a1, .int 1, .int sl, .int 0, .int vv])), (a1, .inl (cI, 20, .inl fa))] := hD
  obtain rfl : r_3 = 2 := w_2
  refine lv_istore (lv' := [(5, .int 2), (0, .ref aa), (1, .int 0), (2, .int 1), (3, .int xx), (4, .int 1)]) hx hb dX0_ask_5 hl (by decide) rfl (fun ls hl => ?_)
  refine lv_iload hx hb dX0_ask_7 (lv_at hl 0 rfl) ?_
  refine lv_if_eq (tgt := 19) hx hb dX0_ask_9 (by decide) (fun c_0 => absurd c_0 (by decide)) (fun _ => ?_)
  refine lv_iload hx hb dX0_ask_12 (lv_at hl 5 rfl) ?_
  refine lv_bipush (v := 40) hx hb dX0_ask_14 (by decide) ?_
  refine lv_icmp_le (tgt := 21) hx hb dX0_ask_16 (by decide) (fun _ => ?_) (fun c_0 => absurd (by decide) c_0)
  refine lv_aload_n hx hb dX0_ask_21 rfl (lv_at hl 1 rfl) ?_
  refine lv_iload hx hb dX0_ask_22 (lv_at hl 0 rfl) ?_
  refine contV (wc := [(aa, .inr (0, [.ref a1, .int 1, .int sl, .int 0, .int vv])), (a1, .inl (cI, 20, .inl fa))]) (wr := []) C0 hP hD hS [0, 1] [] rfl rfl (by decide) (by decide) 0 0 (Nat.le_of_ble_eq_true rfl) (Nat.le_of_ble_eq_true rfl) (runV (k := 1) (As := [.int 2]) (rest := []) C0 (c_begin_1 l D cI cZ cQ cT _ aa 2 a1 sl 0 vv fa) wc_X0_begin wl_X0_52 wi_X0_begin we_X0_begin wz_X0 ⟨by decide, by decide, by decide +kernel⟩ ⟨(Nat.le_of_ble_eq_true rfl), (Nat.le_of_ble_eq_true rfl)⟩ hP hD hS EF.ok hX [0, 1] rfl (by decide) 0 rfl rfl rfl rfl hl.1 rfl (Nat.le_of_ble_eq_true rfl) dX0_ask_24 ⟨(Nat.le_of_ble_eq_true rfl), (Nat.le_of_ble_eq_true rfl)⟩) (fun u_4 H locs w_5 hP hD hS => ?_)
  have hP : va_P D CL [(aa, .inr (0, [.ref a1, .int 2, .int sl, .int 0, .int vv])), (a1, .inl (cI, 20, .inl (upd fa 1 (2 : Int32))))] H := hP
  have hD : va_D A [(aa, .inr (0, [.ref a1, .int 2, .int sl, .int 0, .int vv])), (a1, .inl (cI, 20, .inl (upd fa 1 (2 : Int32))))] := hD
  refine lv_iload hx hb dX0_ask_27 (lv_at hl 5 rfl) ?_
  refine lv_iconst (v := 1) hx hb dX0_ask_29 (by decide) ?_
  refine lv_iadd hx hb dX0_ask_30 ?_
  refine lv_ci 2 (by decide +kernel) ?_
  refine lv_istore (lv' := [(6, .int 2), (5, .int 2), (0, .ref aa), (1, .int 0), (2, .int 1), (3, .int xx), (4, .int 1)]) hx hb dX0_ask_31 hl (by decide) rfl (fun ls hl => ?_)
  refine lv_iload hx hb dX0_ask_33 (lv_at hl 1 rfl) ?_
  refine lv_lookup (off := 88) (tgt := 123) hx hb dX0_ask_35 (by decide) (by decide) (by decide) ?_
  refine lv_aload_n hx hb dX0_ask_123 rfl (lv_at hl 2 rfl) ?_
  refine lv_aload_n hx hb dX0_ask_124 rfl (lv_at hl 2 rfl) ?_
  refine va_get (ci := 0) (v := .int 0) (C := RX0) (T := TX0) (N := 5) hx hb hT wu_X0 hown hK hP 0 rfl rfl 3 (by decide) (hT _ wf_X0_31) (fun _ h9 => h9) rfl dX0_ask_125 ?_
  refine lv_iconst (v := 0) hx hb dX0_ask_128 (by decide) ?_
  refine lv_iload_n hx hb dX0_ask_129 rfl (lv_at hl 5 rfl) ?_
  refine lv_iload hx hb dX0_ask_130 (lv_at hl 0 rfl) ?_
  refine contI (wc := [(aa, .inr (0, [.ref a1, .int 2, .int sl, .int 0, .int vv])), (a1, .inl (cI, 20, .inl (upd fa 1 (2 : Int32))))]) (wr := []) C0 hP hD hS [0, 1] [] rfl rfl (by decide) (by decide) 0 0 (Nat.le_of_ble_eq_true rfl) (Nat.le_of_ble_eq_true rfl) (runV (k := 4) (As := [.int 0, .int 0, .int xx, .int 2]) (rest := []) C0 (c_ask_0_0_0_2_2 l D cI cZ cQ cT _ aa xx a1 sl vv (upd fa 1 (2 : Int32))) wc_X0_ask wl_X0_38 wi_X0_ask we_X0_ask wz_X0 ⟨by decide, by decide, by decide +kernel⟩ ⟨(Nat.le_of_ble_eq_true rfl), (Nat.le_of_ble_eq_true rfl)⟩ hP hD hS EF.ok hX [0, 1] rfl (by decide) 0 rfl rfl rfl rfl hl.1 rfl (Nat.le_of_ble_eq_true rfl) dX0_ask_132 ⟨(Nat.le_of_ble_eq_true rfl), (Nat.le_of_ble_eq_true rfl)⟩) (fun r_9 u_7 H locs w_8 hP hD hS => ?_)
  have hP : va_P D CL [(aa, .inr (0, [.ref a1, .int 3, .int sl, .int 0, .int vv])), (a1, .inl (cI, 20, .inl (upd (upd fa 1 (2 : Int32)) 2 1)))] H := hP
  have hD : va_D A [(aa, .inr (0, [.ref a1, .int 3, .int sl, .int 0, .int vv])), (a1, .inl (cI, 20, .inl (upd (upd fa 1 (2 : Int32)) 2 1)))] := hD
  obtain rfl : r_9 = (xx + sl) := w_8
  refine lv_aload_n hx hb dX0_ask_135 rfl (lv_at hl 2 rfl) ?_
  refine va_get (ci := 0) (v := .int vv) (C := RX0) (T := TX0) (N := 5) hx hb hT wu_X0 hown hK hP 0 rfl rfl 4 (by decide) (hT _ wf_X0_36) (fun _ h9 => h9) rfl dX0_ask_136 ?_
  refine lv_isub hx hb dX0_ask_139 ?_
  exact retI C0 rfl () rfl (hP.sub (ws' := [(aa, .inr (0, [.ref a1, .int 3, .int sl, .int 0, .int vv])), (a1, .inl (cI, 20, .inl (upd (upd fa 1 2) 2 1)))]) [0, 1] rfl) (hD.sub (ws' := [(aa, .inr (0, [.ref a1, .int 3, .int sl, .int 0, .int vv])), (a1, .inl (cI, 20, .inl (upd (upd fa 1 2) 2 1)))]) [0, 1] (by decide) rfl) hS (Nat.le_of_ble_eq_true rfl) (Nat.le_of_ble_eq_true rfl) dX0_ask_140

set_option maxHeartbeats 4000000 in
set_option maxRecDepth 100000 in
theorem c_ask_0_0_2_0_0 (l : Launch) (D : va_G) (cI cZ cQ cT : ClassId) (sz : Nat) (aa : Nat) (xx : Int32) (a1 : Nat) (sl : Int32) (vv : Int32) (fa : Nat → Int32)  : MetI l yX0_ask cX0_ask 7 .int ({ frames := 3, cells := 0, slots := 0, locals := 76 } : Room) [.ref aa, .int 0, .int 2, .int xx, .int 0] D (TYS cI cZ cQ cT) EF sz [(aa, .inr (0, [.ref a1, .int 0, .int sl, .int 0, .int vv])), (a1, .inl (cI, 20, .inl fa))] (S := Unit) (fun (r : Int32) (_ : Unit) => r = (((xx + sl) - vv) * (2 : Int32))) (fun _ => [(aa, .inr (0, [.ref a1, .int 3, .int sl, .int 0, .int vv])), (a1, .inl (cI, 20, .inl (upd (upd (upd fa 0 3) 1 2) 2 1)))]) := by
  refine MetI.mk (lv := [(0, .ref aa), (1, .int 0), (2, .int 2), (3, .int xx), (4, .int 0)]) (by decide +kernel) (Nat.le_of_ble_eq_true rfl) rfl ?_
  intro p e s m below meth c A ls C0 hP hD hS hX hl
  have C1 := C0
  obtain ⟨hx, hb, hr, hml, hown, hlocks, hname, hT, hN, hK, hA⟩ := C1
  refine lv_iload_n hx hb dX0_ask_0 rfl (lv_at hl 1 rfl) ?_
  refine lv_iload_n hx hb dX0_ask_1 rfl (lv_at hl 2 rfl) ?_
  refine contI (wc := []) (wr := [(aa, .inr (0, [.ref a1, .int 0, .int sl, .int 0, .int vv])), (a1, .inl (cI, 20, .inl fa))]) C0 hP hD hS [] [0, 1] rfl rfl (by decide) (by decide) 0 0 (Nat.le_of_ble_eq_true rfl) (Nat.le_of_ble_eq_true rfl) (runS (k := 2) (As := [.int 0, .int 2]) (rest := []) C0 (c_bodyOf_0_2 l D cI cZ cQ cT _ ) wc_X0_bodyOf wl_X0_48 wt_X0_bodyOf wz_X0 ⟨by decide, by decide, by decide +kernel⟩ ⟨(Nat.le_of_ble_eq_true rfl), (Nat.le_of_ble_eq_true rfl)⟩ hP hD hS EF.ok hX [] rfl (by decide) rfl hl.1 rfl (Nat.le_of_ble_eq_true rfl) dX0_ask_2 ⟨(Nat.le_of_ble_eq_true rfl), (Nat.le_of_ble_eq_true rfl)⟩) (fun r_3 u_1 H locs w_2 hP hD hS => ?_)
  have hP : va_P D CL [(aa, .inr (0, [.ref a1, .int 0, .int sl, .int 0, .int vv])), (a1, .inl (cI, 20, .inl fa))] H := hP
  have hD : va_D A [(aa, .inr (0, [.ref a1, .int 0, .int sl, .int 0, .int vv])), (a1, .inl (cI, 20, .inl fa))] := hD
  obtain rfl : r_3 = 3 := w_2
  refine lv_istore (lv' := [(5, .int 3), (0, .ref aa), (1, .int 0), (2, .int 2), (3, .int xx), (4, .int 0)]) hx hb dX0_ask_5 hl (by decide) rfl (fun ls hl => ?_)
  refine lv_iload hx hb dX0_ask_7 (lv_at hl 0 rfl) ?_
  refine lv_if_eq (tgt := 19) hx hb dX0_ask_9 (by decide) (fun c_0 => absurd c_0 (by decide)) (fun _ => ?_)
  refine lv_iload hx hb dX0_ask_12 (lv_at hl 5 rfl) ?_
  refine lv_bipush (v := 40) hx hb dX0_ask_14 (by decide) ?_
  refine lv_icmp_le (tgt := 21) hx hb dX0_ask_16 (by decide) (fun _ => ?_) (fun c_0 => absurd (by decide) c_0)
  refine lv_aload_n hx hb dX0_ask_21 rfl (lv_at hl 1 rfl) ?_
  refine lv_iload hx hb dX0_ask_22 (lv_at hl 0 rfl) ?_
  refine contV (wc := [(aa, .inr (0, [.ref a1, .int 0, .int sl, .int 0, .int vv])), (a1, .inl (cI, 20, .inl fa))]) (wr := []) C0 hP hD hS [0, 1] [] rfl rfl (by decide) (by decide) 0 0 (Nat.le_of_ble_eq_true rfl) (Nat.le_of_ble_eq_true rfl) (runV (k := 1) (As := [.int 3]) (rest := []) C0 (c_begin_0 l D cI cZ cQ cT _ aa 3 a1 sl 0 vv fa) wc_X0_begin wl_X0_52 wi_X0_begin we_X0_begin wz_X0 ⟨by decide, by decide, by decide +kernel⟩ ⟨(Nat.le_of_ble_eq_true rfl), (Nat.le_of_ble_eq_true rfl)⟩ hP hD hS EF.ok hX [0, 1] rfl (by decide) 0 rfl rfl rfl rfl hl.1 rfl (Nat.le_of_ble_eq_true rfl) dX0_ask_24 ⟨(Nat.le_of_ble_eq_true rfl), (Nat.le_of_ble_eq_true rfl)⟩) (fun u_4 H locs w_5 hP hD hS => ?_)
  have hP : va_P D CL [(aa, .inr (0, [.ref a1, .int 1, .int sl, .int 0, .int vv])), (a1, .inl (cI, 20, .inl (upd fa 0 (3 : Int32))))] H := hP
  have hD : va_D A [(aa, .inr (0, [.ref a1, .int 1, .int sl, .int 0, .int vv])), (a1, .inl (cI, 20, .inl (upd fa 0 (3 : Int32))))] := hD
  refine lv_iload hx hb dX0_ask_27 (lv_at hl 5 rfl) ?_
  refine lv_iconst (v := 1) hx hb dX0_ask_29 (by decide) ?_
  refine lv_iadd hx hb dX0_ask_30 ?_
  refine lv_ci 1 (by decide +kernel) ?_
  refine lv_istore (lv' := [(6, .int 1), (5, .int 3), (0, .ref aa), (1, .int 0), (2, .int 2), (3, .int xx), (4, .int 0)]) hx hb dX0_ask_31 hl (by decide) rfl (fun ls hl => ?_)
  refine lv_iload hx hb dX0_ask_33 (lv_at hl 1 rfl) ?_
  refine lv_lookup (off := 106) (tgt := 141) hx hb dX0_ask_35 (by decide) (by decide) (by decide) ?_
  refine lv_aload_n hx hb dX0_ask_141 rfl (lv_at hl 2 rfl) ?_
  refine lv_aload_n hx hb dX0_ask_142 rfl (lv_at hl 2 rfl) ?_
  refine va_get (ci := 0) (v := .int 0) (C := RX0) (T := TX0) (N := 5) hx hb hT wu_X0 hown hK hP 0 rfl rfl 3 (by decide) (hT _ wf_X0_31) (fun _ h9 => h9) rfl dX0_ask_143 ?_
  refine lv_iconst (v := 1) hx hb dX0_ask_146 (by decide) ?_
  refine lv_iload_n hx hb dX0_ask_147 rfl (lv_at hl 5 rfl) ?_
  refine lv_iload hx hb dX0_ask_148 (lv_at hl 0 rfl) ?_
  refine contI (wc := [(aa, .inr (0, [.ref a1, .int 1, .int sl, .int 0, .int vv])), (a1, .inl (cI, 20, .inl (upd fa 0 (3 : Int32))))]) (wr := []) C0 hP hD hS [0, 1] [] rfl rfl (by decide) (by decide) 0 0 (Nat.le_of_ble_eq_true rfl) (Nat.le_of_ble_eq_true rfl) (runV (k := 4) (As := [.int 0, .int 1, .int xx, .int 1]) (rest := []) C0 (c_ask_0_0_1_1_1 l D cI cZ cQ cT _ aa xx a1 sl vv (upd fa 0 (3 : Int32))) wc_X0_ask wl_X0_38 wi_X0_ask we_X0_ask wz_X0 ⟨by decide, by decide, by decide +kernel⟩ ⟨(Nat.le_of_ble_eq_true rfl), (Nat.le_of_ble_eq_true rfl)⟩ hP hD hS EF.ok hX [0, 1] rfl (by decide) 0 rfl rfl rfl rfl hl.1 rfl (Nat.le_of_ble_eq_true rfl) dX0_ask_150 ⟨(Nat.le_of_ble_eq_true rfl), (Nat.le_of_ble_eq_true rfl)⟩) (fun r_9 u_7 H locs w_8 hP hD hS => ?_)
  have hP : va_P D CL [(aa, .inr (0, [.ref a1, .int 3, .int sl, .int 0, .int vv])), (a1, .inl (cI, 20, .inl (upd (upd (upd fa 0 (3 : Int32)) 1 2) 2 1)))] H := hP
  have hD : va_D A [(aa, .inr (0, [.ref a1, .int 3, .int sl, .int 0, .int vv])), (a1, .inl (cI, 20, .inl (upd (upd (upd fa 0 (3 : Int32)) 1 2) 2 1)))] := hD
  obtain rfl : r_9 = ((xx + sl) - vv) := w_8
  refine lv_iconst (v := 2) hx hb dX0_ask_153 (by decide) ?_
  refine lv_imul hx hb dX0_ask_154 ?_
  exact retI C0 rfl () rfl (hP.sub (ws' := [(aa, .inr (0, [.ref a1, .int 3, .int sl, .int 0, .int vv])), (a1, .inl (cI, 20, .inl (upd (upd (upd fa 0 3) 1 2) 2 1)))]) [0, 1] rfl) (hD.sub (ws' := [(aa, .inr (0, [.ref a1, .int 3, .int sl, .int 0, .int vv])), (a1, .inl (cI, 20, .inl (upd (upd (upd fa 0 3) 1 2) 2 1)))]) [0, 1] (by decide) rfl) hS (Nat.le_of_ble_eq_true rfl) (Nat.le_of_ble_eq_true rfl) dX0_ask_155

set_option maxHeartbeats 4000000 in
set_option maxRecDepth 100000 in
theorem c_bodyOf_1_2 (l : Launch) (D : va_G) (cI cZ cQ cT : ClassId) (sz : Nat)   : MetI l yX0_bodyOf cX0_bodyOf 5 .int ({ frames := 0, cells := 0, slots := 0, locals := 0 } : Room) [.int 1, .int 2] D (TYS cI cZ cQ cT) EF sz [] (S := Unit) (fun (r : Int32) (_ : Unit) => r = 3) (fun _ => []) := by
  refine MetI.mk (lv := [(0, .int 1), (1, .int 2)]) (by decide +kernel) (Nat.le_of_ble_eq_true rfl) rfl ?_
  intro p e s m below meth c A ls C0 hP hD hS hX hl
  have C1 := C0
  obtain ⟨hx, hb, hr, hml, hown, hlocks, hname, hT, hN, hK, hA⟩ := C1
  obtain ⟨kab, hkz, hkT⟩ := hX.2.1
  obtain ⟨bdy, hbz, hbT⟩ := hX.2.2.1
  refine lv_iload_n hx hb dX0_bodyOf_0 rfl (lv_at hl 0 rfl) ?_
  refine lv_istore_n (lv' := [(2, .int 1), (0, .int 1), (1, .int 2)]) hx hb dX0_bodyOf_1 rfl hl (by decide) rfl (fun ls hl => ?_)
  refine lv_iconst (v := 0) hx hb dX0_bodyOf_2 (by decide) ?_
  refine lv_istore_n (lv' := [(3, .int 0), (2, .int 1), (0, .int 1), (1, .int 2)]) hx hb dX0_bodyOf_3 rfl hl (by decide) rfl (fun ls hl => ?_)
  refine lv_iload_n hx hb dX0_bodyOf_4 rfl (lv_at hl 0 rfl) ?_
  refine lv_bipush (v := 7) hx hb dX0_bodyOf_5 (by decide) ?_
  refine lv_icmp_ge (tgt := 69) hx hb dX0_bodyOf_7 (by decide) (fun c_0 => absurd c_0 (by decide)) (fun _ => ?_)
  refine lv_iload_n hx hb dX0_bodyOf_10 rfl (lv_at hl 1 rfl) ?_
  refine lv_if_lt (tgt := 69) hx hb dX0_bodyOf_11 (by decide) (fun c_0 => absurd c_0 (by decide)) (fun _ => ?_)
  refine lv_iload_n hx hb dX0_bodyOf_14 rfl (lv_at hl 1 rfl) ?_
  refine lv_bipush (v := 7) hx hb dX0_bodyOf_15 (by decide) ?_
  refine lv_icmp_ge (tgt := 69) hx hb dX0_bodyOf_17 (by decide) (fun c_0 => absurd c_0 (by decide)) (fun _ => ?_)
  refine lv_iload_n hx hb dX0_bodyOf_20 rfl (lv_at hl 1 rfl) ?_
  refine lv_iconst (v := 3) hx hb dX0_bodyOf_21 (by decide) ?_
  refine lv_imul hx hb dX0_bodyOf_22 ?_
  refine lv_ci 3 (by decide +kernel) ?_
  refine lv_iload_n hx hb dX0_bodyOf_23 rfl (lv_at hl 3 rfl) ?_
  refine lv_iadd hx hb dX0_bodyOf_24 ?_
  refine lv_ci 5 (by decide +kernel) ?_
  refine lv_istore (lv' := [(4, .int 5), (3, .int 0), (2, .int 1), (0, .int 1), (1, .int 2)]) hx hb dX0_bodyOf_25 hl (by decide) rfl (fun ls hl => ?_)
  refine lv_iload hx hb dX0_bodyOf_27 (lv_at hl 0 rfl) ?_
  refine lv_if_lt (tgt := 57) hx hb dX0_bodyOf_29 (by decide) (fun c_0 => absurd c_0 (by decide)) (fun _ => ?_)
  refine lv_iload hx hb dX0_bodyOf_32 (lv_at hl 0 rfl) ?_
  refine va_gets hx hb hbz hS hown (hT _ wf_X0_42) (fun _ h9 => h9) dX0_bodyOf_34 ?_
  refine va_tlen hx hb hbT hS (v := 21) rfl dX0_bodyOf_37 ?_
  refine lv_icmp_ge (tgt := 57) hx hb dX0_bodyOf_38 (by decide) (fun c_0 => absurd c_0 (by decide)) (fun _ => ?_)
  refine va_gets hx hb hbz hS hown (hT _ wf_X0_42) (fun _ h9 => h9) dX0_bodyOf_41 ?_
  refine lv_iload hx hb dX0_bodyOf_44 (lv_at hl 0 rfl) ?_
  refine va_ti hx hb hbT hS (vin _ _ (by decide +kernel)) (v := .int 0) rfl dX0_bodyOf_46 ?_
  refine lv_if_eq (tgt := 57) hx hb dX0_bodyOf_47 (by decide) (fun _ => ?_) (fun c_0 => absurd (by decide) c_0)
  refine va_getsN hx hb hkz hS hown (va_Nw.use rfl (hN.get 750 kf_X0_45 rfl)) (fun _ h9 => h9) dX0_bodyOf_57 ?_
  refine lv_iload_n hx hb dX0_bodyOf_60 rfl (lv_at hl 2 rfl) ?_
  refine va_ti hx hb hkT hS (vin _ _ (by decide +kernel)) (v := .int 0) rfl dX0_bodyOf_61 ?_
  refine lv_istore_n (lv' := [(2, .int 0), (4, .int 5), (3, .int 0), (0, .int 1), (1, .int 2)]) hx hb dX0_bodyOf_62 rfl hl (by decide) rfl (fun ls hl => ?_)
  refine lv_iinc (v := 1) (lv' := [(3, .int 1), (2, .int 0), (4, .int 5), (0, .int 1), (1, .int 2)]) hx hb dX0_bodyOf_63 hl (k := 2) rfl (by decide) (by decide) rfl (fun ls hl => ?_)
  refine lv_goto (tgt := 4) hx hb dX0_bodyOf_66 (by decide) ?_
  refine lv_iload_n hx hb dX0_bodyOf_4 rfl (lv_at hl 0 rfl) ?_
  refine lv_bipush (v := 7) hx hb dX0_bodyOf_5 (by decide) ?_
  refine lv_icmp_ge (tgt := 69) hx hb dX0_bodyOf_7 (by decide) (fun c_0 => absurd c_0 (by decide)) (fun _ => ?_)
  refine lv_iload_n hx hb dX0_bodyOf_10 rfl (lv_at hl 1 rfl) ?_
  refine lv_if_lt (tgt := 69) hx hb dX0_bodyOf_11 (by decide) (fun c_0 => absurd c_0 (by decide)) (fun _ => ?_)
  refine lv_iload_n hx hb dX0_bodyOf_14 rfl (lv_at hl 1 rfl) ?_
  refine lv_bipush (v := 7) hx hb dX0_bodyOf_15 (by decide) ?_
  refine lv_icmp_ge (tgt := 69) hx hb dX0_bodyOf_17 (by decide) (fun c_0 => absurd c_0 (by decide)) (fun _ => ?_)
  refine lv_iload_n hx hb dX0_bodyOf_20 rfl (lv_at hl 1 rfl) ?_
  refine lv_iconst (v := 3) hx hb dX0_bodyOf_21 (by decide) ?_
  refine lv_imul hx hb dX0_bodyOf_22 ?_
  refine lv_ci 0 (by decide +kernel) ?_
  refine lv_iload_n hx hb dX0_bodyOf_23 rfl (lv_at hl 4 rfl) ?_
  refine lv_iadd hx hb dX0_bodyOf_24 ?_
  refine lv_ci 2 (by decide +kernel) ?_
  refine lv_istore (lv' := [(4, .int 2), (3, .int 1), (2, .int 0), (0, .int 1), (1, .int 2)]) hx hb dX0_bodyOf_25 hl (by decide) rfl (fun ls hl => ?_)
  refine lv_iload hx hb dX0_bodyOf_27 (lv_at hl 0 rfl) ?_
  refine lv_if_lt (tgt := 57) hx hb dX0_bodyOf_29 (by decide) (fun c_0 => absurd c_0 (by decide)) (fun _ => ?_)
  refine lv_iload hx hb dX0_bodyOf_32 (lv_at hl 0 rfl) ?_
  refine va_gets hx hb hbz hS hown (hT _ wf_X0_42) (fun _ h9 => h9) dX0_bodyOf_34 ?_
  refine va_tlen hx hb hbT hS (v := 21) rfl dX0_bodyOf_37 ?_
  refine lv_icmp_ge (tgt := 57) hx hb dX0_bodyOf_38 (by decide) (fun c_0 => absurd c_0 (by decide)) (fun _ => ?_)
  refine va_gets hx hb hbz hS hown (hT _ wf_X0_42) (fun _ h9 => h9) dX0_bodyOf_41 ?_
  refine lv_iload hx hb dX0_bodyOf_44 (lv_at hl 0 rfl) ?_
  refine va_ti hx hb hbT hS (vin _ _ (by decide +kernel)) (v := .int 3) rfl dX0_bodyOf_46 ?_
  refine lv_if_eq (tgt := 57) hx hb dX0_bodyOf_47 (by decide) (fun c_0 => absurd c_0 (by decide)) (fun _ => ?_)
  refine va_gets hx hb hbz hS hown (hT _ wf_X0_42) (fun _ h9 => h9) dX0_bodyOf_50 ?_
  refine lv_iload hx hb dX0_bodyOf_53 (lv_at hl 0 rfl) ?_
  refine va_ti hx hb hbT hS (vin _ _ (by decide +kernel)) (v := .int 3) rfl dX0_bodyOf_55 ?_
  exact retI C0 rfl () rfl (hP.sub (ws' := []) [] rfl) (hD.sub (ws' := []) [] (by decide) rfl) hS (Nat.le_of_ble_eq_true rfl) (Nat.le_of_ble_eq_true rfl) dX0_bodyOf_56

set_option maxHeartbeats 4000000 in
set_option maxRecDepth 100000 in
theorem c_begin_3 (l : Launch) (D : va_G) (cI cZ cQ cT : ClassId) (sz : Nat) (aa : Nat) (bd : Int32) (a1 : Nat) (sl : Int32) (kd : Int32) (vv : Int32) (fa : Nat → Int32)  : MetV l yX0_begin cX0_begin 2 ({ frames := 0, cells := 0, slots := 0, locals := 0 } : Room) [.ref aa, .int bd] D (TYS cI cZ cQ cT) EF sz [(aa, .inr (0, [.ref a1, .int 3, .int sl, .int kd, .int vv])), (a1, .inl (cI, 20, .inl fa))] (S := Unit) (fun (_ : Unit) => True) (fun _ => [(aa, .inr (0, [.ref a1, .int 4, .int sl, .int kd, .int vv])), (a1, .inl (cI, 20, .inl (upd fa 3 bd)))]) := by
  refine MetV.mk (lv := [(0, .ref aa), (1, .int bd)]) (by decide +kernel) (Nat.le_of_ble_eq_true rfl) rfl ?_
  intro p e s m below meth c A ls C0 hP hD hS hX hl
  have C1 := C0
  obtain ⟨hx, hb, hr, hml, hown, hlocks, hname, hT, hN, hK, hA⟩ := C1
  refine lv_aload_n hx hb dX0_begin_0 rfl (lv_at hl 0 rfl) ?_
  refine va_get (ci := 0) (v := .int 3) (C := RX0) (T := TX0) (N := 5) hx hb hT wu_X0 hown hK hP 0 rfl rfl 1 (by decide) (hT _ wf_X0_15) (fun _ h9 => h9) rfl dX0_begin_1 ?_
  refine lv_if_lt (tgt := 26) hx hb dX0_begin_4 (by decide) (fun c_0 => absurd c_0 (by decide)) (fun _ => ?_)
  refine lv_aload_n hx hb dX0_begin_7 rfl (lv_at hl 0 rfl) ?_
  refine va_get (ci := 0) (v := .int 3) (C := RX0) (T := TX0) (N := 5) hx hb hT wu_X0 hown hK hP 0 rfl rfl 1 (by decide) (hT _ wf_X0_15) (fun _ h9 => h9) rfl dX0_begin_8 ?_
  refine lv_bipush (v := 20) hx hb dX0_begin_11 (by decide) ?_
  refine lv_icmp_ge (tgt := 26) hx hb dX0_begin_13 (by decide) (fun c_0 => absurd c_0 (by decide)) (fun _ => ?_)
  refine lv_aload_n hx hb dX0_begin_16 rfl (lv_at hl 0 rfl) ?_
  refine va_get (ci := 0) (v := .ref a1) (C := RX0) (T := TX0) (N := 5) hx hb hT wu_X0 hown hK hP 0 rfl rfl 0 (by decide) (hT _ wf_X0_11) (fun _ h9 => h9) rfl dX0_begin_17 ?_
  refine lv_aload_n hx hb dX0_begin_20 rfl (lv_at hl 0 rfl) ?_
  refine va_get (ci := 0) (v := .int 3) (C := RX0) (T := TX0) (N := 5) hx hb hT wu_X0 hown hK hP 0 rfl rfl 1 (by decide) (hT _ wf_X0_15) (fun _ h9 => h9) rfl dX0_begin_21 ?_
  refine lv_iload_n hx hb dX0_begin_24 rfl (lv_at hl 1 rfl) ?_
  refine va_iast hx hb hK hP hD hS 1 0 rfl rfl (vin _ _ (by decide +kernel)) dX0_begin_25 (fun H locs hP hD hS => ?_)
  have hP : va_P D CL [(aa, .inr (0, [.ref a1, .int 3, .int sl, .int kd, .int vv])), (a1, .inl (cI, 20, .inl (upd fa ((3 : Int32)).toNatClampNeg bd)))] H := hP
  have hD : va_D A [(aa, .inr (0, [.ref a1, .int 3, .int sl, .int kd, .int vv])), (a1, .inl (cI, 20, .inl (upd fa ((3 : Int32)).toNatClampNeg bd)))] := hD
  rw [show ((3 : Int32)).toNatClampNeg = 3 from nI_clamp (n := 3) (by decide)] at hP hD
  have hP : va_P D CL [(aa, .inr (0, [.ref a1, .int 3, .int sl, .int kd, .int vv])), (a1, .inl (cI, 20, .inl (upd fa 3 bd)))] H := hP
  have hD : va_D A [(aa, .inr (0, [.ref a1, .int 3, .int sl, .int kd, .int vv])), (a1, .inl (cI, 20, .inl (upd fa 3 bd)))] := hD
  refine lv_aload_n hx hb dX0_begin_26 rfl (lv_at hl 0 rfl) ?_
  refine lv_dup hx hb dX0_begin_27 rfl ?_
  refine va_get (ci := 0) (v := .int 3) (C := RX0) (T := TX0) (N := 5) hx hb hT wu_X0 hown hK hP 0 rfl rfl 1 (by decide) (hT _ wf_X0_15) (fun _ h9 => h9) rfl dX0_begin_28 ?_
  refine lv_iconst (v := 1) hx hb dX0_begin_31 (by decide) ?_
  refine lv_iadd hx hb dX0_begin_32 ?_
  refine lv_ci 4 (by decide +kernel) ?_
  refine va_put (ci := 0) (v := .int 4) (ty := .int) (C := RX0) (T := TX0) (N := 5) hx hb hT wu_X0 tyX0 tyX0_ok nmX0 hown hK hP hD hS 0 rfl rfl 1 (by decide) (hT _ wf_X0_15) (fun _ h9 => h9) rfl (by decide +kernel) rfl rfl (Nat.le_of_ble_eq_true rfl) dX0_begin_33 (fun H locs hP hD hS => ?_)
  have hP : va_P D CL [(aa, .inr (0, [.ref a1, .int 4, .int sl, .int kd, .int vv])), (a1, .inl (cI, 20, .inl (upd fa 3 bd)))] H := hP
  have hD : va_D A [(aa, .inr (0, [.ref a1, .int 4, .int sl, .int kd, .int vv])), (a1, .inl (cI, 20, .inl (upd fa 3 bd)))] := hD
  exact retV C0 () trivial (hP.sub (ws' := [(aa, .inr (0, [.ref a1, .int 4, .int sl, .int kd, .int vv])), (a1, .inl (cI, 20, .inl (upd fa 3 bd)))]) [0, 1] rfl) (hD.sub (ws' := [(aa, .inr (0, [.ref a1, .int 4, .int sl, .int kd, .int vv])), (a1, .inl (cI, 20, .inl (upd fa 3 bd)))]) [0, 1] (by decide) rfl) hS (Nat.le_of_ble_eq_true rfl) (Nat.le_of_ble_eq_true rfl) dX0_begin_36

set_option maxHeartbeats 4000000 in
set_option maxRecDepth 100000 in
theorem c_ask_1_0_0_3_3 (l : Launch) (D : va_G) (cI cZ cQ cT : ClassId) (sz : Nat) (aa : Nat) (xx : Int32) (a1 : Nat) (sl : Int32) (vv : Int32) (fa : Nat → Int32)  : MetI l yX0_ask cX0_ask 7 .int ({ frames := 1, cells := 0, slots := 0, locals := 24 } : Room) [.ref aa, .int 0, .int 0, .int xx, .int 3] D (TYS cI cZ cQ cT) EF sz [(aa, .inr (0, [.ref a1, .int 3, .int sl, .int 1, .int vv])), (a1, .inl (cI, 20, .inl fa))] (S := Unit) (fun (r : Int32) (_ : Unit) => r = (xx + sl)) (fun _ => [(aa, .inr (0, [.ref a1, .int 4, .int sl, .int 1, .int vv])), (a1, .inl (cI, 20, .inl (upd fa 3 1)))]) := by
  refine MetI.mk (lv := [(0, .ref aa), (1, .int 0), (2, .int 0), (3, .int xx), (4, .int 3)]) (by decide +kernel) (Nat.le_of_ble_eq_true rfl) rfl ?_
  intro p e s m below meth c A ls C0 hP hD hS hX hl
  have C1 := C0
  obtain ⟨hx, hb, hr, hml, hown, hlocks, hname, hT, hN, hK, hA⟩ := C1
  refine lv_iload_n hx hb dX0_ask_0 rfl (lv_at hl 1 rfl) ?_
  refine lv_iload_n hx hb dX0_ask_1 rfl (lv_at hl 2 rfl) ?_
  refine contI (wc := []) (wr := [(aa, .inr (0, [.ref a1, .int 3, .int sl, .int 1, .int vv])), (a1, .inl (cI, 20, .inl fa))]) C0 hP hD hS [] [0, 1] rfl rfl (by decide) (by decide) 0 0 (Nat.le_of_ble_eq_true rfl) (Nat.le_of_ble_eq_true rfl) (runS (k := 2) (As := [.int 0, .int 0]) (rest := []) C0 (c_bodyOf_0_0 l D cI cZ cQ cT _ ) wc_X0_bodyOf wl_X0_48 wt_X0_bodyOf wz_X0 ⟨by decide, by decide, by decide +kernel⟩ ⟨(Nat.le_of_ble_eq_true rfl), (Nat.le_of_ble_eq_true rfl)⟩ hP hD hS EF.ok hX [] rfl (by decide) rfl hl.1 rfl (Nat.le_of_ble_eq_true rfl) dX0_ask_2 ⟨(Nat.le_of_ble_eq_true rfl), (Nat.le_of_ble_eq_true rfl)⟩) (fun r_3 u_1 H locs w_2 hP hD hS => ?_)
  have hP : va_P D CL [(aa, .inr (0, [.ref a1, .int 3, .int sl, .int 1, .int vv])), (a1, .inl (cI, 20, .inl fa))] H := hP
  have hD : va_D A [(aa, .inr (0, [.ref a1, .int 3, .int sl, .int 1, .int vv])), (a1, .inl (cI, 20, .inl fa))] := hD
  obtain rfl : r_3 = 1 := w_2
  refine lv_istore (lv' := [(5, .int 1), (0, .ref aa), (1, .int 0), (2, .int 0), (3, .int xx), (4, .int 3)]) hx hb dX0_ask_5 hl (by decide) rfl (fun ls hl => ?_)
  refine lv_iload hx hb dX0_ask_7 (lv_at hl 0 rfl) ?_
  refine lv_if_eq (tgt := 19) hx hb dX0_ask_9 (by decide) (fun c_0 => absurd c_0 (by decide)) (fun _ => ?_)
  refine lv_iload hx hb dX0_ask_12 (lv_at hl 5 rfl) ?_
  refine lv_bipush (v := 40) hx hb dX0_ask_14 (by decide) ?_
  refine lv_icmp_le (tgt := 21) hx hb dX0_ask_16 (by decide) (fun _ => ?_) (fun c_0 => absurd (by decide) c_0)
  refine lv_aload_n hx hb dX0_ask_21 rfl (lv_at hl 1 rfl) ?_
  refine lv_iload hx hb dX0_ask_22 (lv_at hl 0 rfl) ?_
  refine contV (wc := [(aa, .inr (0, [.ref a1, .int 3, .int sl, .int 1, .int vv])), (a1, .inl (cI, 20, .inl fa))]) (wr := []) C0 hP hD hS [0, 1] [] rfl rfl (by decide) (by decide) 0 0 (Nat.le_of_ble_eq_true rfl) (Nat.le_of_ble_eq_true rfl) (runV (k := 1) (As := [.int 1]) (rest := []) C0 (c_begin_3 l D cI cZ cQ cT _ aa 1 a1 sl 1 vv fa) wc_X0_begin wl_X0_52 wi_X0_begin we_X0_begin wz_X0 ⟨by decide, by decide, by decide +kernel⟩ ⟨(Nat.le_of_ble_eq_true rfl), (Nat.le_of_ble_eq_true rfl)⟩ hP hD hS EF.ok hX [0, 1] rfl (by decide) 0 rfl rfl rfl rfl hl.1 rfl (Nat.le_of_ble_eq_true rfl) dX0_ask_24 ⟨(Nat.le_of_ble_eq_true rfl), (Nat.le_of_ble_eq_true rfl)⟩) (fun u_4 H locs w_5 hP hD hS => ?_)
  have hP : va_P D CL [(aa, .inr (0, [.ref a1, .int 4, .int sl, .int 1, .int vv])), (a1, .inl (cI, 20, .inl (upd fa 3 (1 : Int32))))] H := hP
  have hD : va_D A [(aa, .inr (0, [.ref a1, .int 4, .int sl, .int 1, .int vv])), (a1, .inl (cI, 20, .inl (upd fa 3 (1 : Int32))))] := hD
  refine lv_iload hx hb dX0_ask_27 (lv_at hl 5 rfl) ?_
  refine lv_iconst (v := 1) hx hb dX0_ask_29 (by decide) ?_
  refine lv_iadd hx hb dX0_ask_30 ?_
  refine lv_ci 4 (by decide +kernel) ?_
  refine lv_istore (lv' := [(6, .int 4), (5, .int 1), (0, .ref aa), (1, .int 0), (2, .int 0), (3, .int xx), (4, .int 3)]) hx hb dX0_ask_31 hl (by decide) rfl (fun ls hl => ?_)
  refine lv_iload hx hb dX0_ask_33 (lv_at hl 1 rfl) ?_
  refine lv_lookup (off := 81) (tgt := 116) hx hb dX0_ask_35 (by decide) (by decide) (by decide) ?_
  refine lv_iload_n hx hb dX0_ask_116 rfl (lv_at hl 5 rfl) ?_
  refine lv_aload_n hx hb dX0_ask_117 rfl (lv_at hl 2 rfl) ?_
  refine va_get (ci := 0) (v := .int sl) (C := RX0) (T := TX0) (N := 5) hx hb hT wu_X0 hown hK hP 0 rfl rfl 2 (by decide) (hT _ wf_X0_25) (fun _ h9 => h9) rfl dX0_ask_118 ?_
  refine lv_iadd hx hb dX0_ask_121 ?_
  exact retI C0 rfl () rfl (hP.sub (ws' := [(aa, .inr (0, [.ref a1, .int 4, .int sl, .int 1, .int vv])), (a1, .inl (cI, 20, .inl (upd fa 3 1)))]) [0, 1] rfl) (hD.sub (ws' := [(aa, .inr (0, [.ref a1, .int 4, .int sl, .int 1, .int vv])), (a1, .inl (cI, 20, .inl (upd fa 3 1)))]) [0, 1] (by decide) rfl) hS (Nat.le_of_ble_eq_true rfl) (Nat.le_of_ble_eq_true rfl) dX0_ask_122

set_option maxHeartbeats 4000000 in
set_option maxRecDepth 100000 in
theorem c_ask_1_1_0_2_2 (l : Launch) (D : va_G) (cI cZ cQ cT : ClassId) (sz : Nat) (aa : Nat) (xx : Int32) (a1 : Nat) (sl : Int32) (vv : Int32) (fa : Nat → Int32)  : MetI l yX0_ask cX0_ask 7 .int ({ frames := 2, cells := 0, slots := 0, locals := 50 } : Room) [.ref aa, .int 1, .int 0, .int xx, .int 2] D (TYS cI cZ cQ cT) EF sz [(aa, .inr (0, [.ref a1, .int 2, .int sl, .int 1, .int vv])), (a1, .inl (cI, 20, .inl fa))] (S := Unit) (fun (r : Int32) (_ : Unit) => r = ((xx * (3 : Int32)) + sl)) (fun _ => [(aa, .inr (0, [.ref a1, .int 4, .int sl, .int 1, .int vv])), (a1, .inl (cI, 20, .inl (upd (upd fa 2 11) 3 1)))]) := by
  refine MetI.mk (lv := [(0, .ref aa), (1, .int 1), (2, .int 0), (3, .int xx), (4, .int 2)]) (by decide +kernel) (Nat.le_of_ble_eq_true rfl) rfl ?_
  intro p e s m below meth c A ls C0 hP hD hS hX hl
  have C1 := C0
  obtain ⟨hx, hb, hr, hml, hown, hlocks, hname, hT, hN, hK, hA⟩ := C1
  refine lv_iload_n hx hb dX0_ask_0 rfl (lv_at hl 1 rfl) ?_
  refine lv_iload_n hx hb dX0_ask_1 rfl (lv_at hl 2 rfl) ?_
  refine contI (wc := []) (wr := [(aa, .inr (0, [.ref a1, .int 2, .int sl, .int 1, .int vv])), (a1, .inl (cI, 20, .inl fa))]) C0 hP hD hS [] [0, 1] rfl rfl (by decide) (by decide) 0 0 (Nat.le_of_ble_eq_true rfl) (Nat.le_of_ble_eq_true rfl) (runS (k := 2) (As := [.int 1, .int 0]) (rest := []) C0 (c_bodyOf_1_0 l D cI cZ cQ cT _ ) wc_X0_bodyOf wl_X0_48 wt_X0_bodyOf wz_X0 ⟨by decide, by decide, by decide +kernel⟩ ⟨(Nat.le_of_ble_eq_true rfl), (Nat.le_of_ble_eq_true rfl)⟩ hP hD hS EF.ok hX [] rfl (by decide) rfl hl.1 rfl (Nat.le_of_ble_eq_true rfl) dX0_ask_2 ⟨(Nat.le_of_ble_eq_true rfl), (Nat.le_of_ble_eq_true rfl)⟩) (fun r_3 u_1 H locs w_2 hP hD hS => ?_)
  have hP : va_P D CL [(aa, .inr (0, [.ref a1, .int 2, .int sl, .int 1, .int vv])), (a1, .inl (cI, 20, .inl fa))] H := hP
  have hD : va_D A [(aa, .inr (0, [.ref a1, .int 2, .int sl, .int 1, .int vv])), (a1, .inl (cI, 20, .inl fa))] := hD
  obtain rfl : r_3 = 11 := w_2
  refine lv_istore (lv' := [(5, .int 11), (0, .ref aa), (1, .int 1), (2, .int 0), (3, .int xx), (4, .int 2)]) hx hb dX0_ask_5 hl (by decide) rfl (fun ls hl => ?_)
  refine lv_iload hx hb dX0_ask_7 (lv_at hl 0 rfl) ?_
  refine lv_if_eq (tgt := 19) hx hb dX0_ask_9 (by decide) (fun c_0 => absurd c_0 (by decide)) (fun _ => ?_)
  refine lv_iload hx hb dX0_ask_12 (lv_at hl 5 rfl) ?_
  refine lv_bipush (v := 40) hx hb dX0_ask_14 (by decide) ?_
  refine lv_icmp_le (tgt := 21) hx hb dX0_ask_16 (by decide) (fun _ => ?_) (fun c_0 => absurd (by decide) c_0)
  refine lv_aload_n hx hb dX0_ask_21 rfl (lv_at hl 1 rfl) ?_
  refine lv_iload hx hb dX0_ask_22 (lv_at hl 0 rfl) ?_
  refine contV (wc := [(aa, .inr (0, [.ref a1, .int 2, .int sl, .int 1, .int vv])), (a1, .inl (cI, 20, .inl fa))]) (wr := []) C0 hP hD hS [0, 1] [] rfl rfl (by decide) (by decide) 0 0 (Nat.le_of_ble_eq_true rfl) (Nat.le_of_ble_eq_true rfl) (runV (k := 1) (As := [.int 11]) (rest := []) C0 (c_begin_2 l D cI cZ cQ cT _ aa 11 a1 sl 1 vv fa) wc_X0_begin wl_X0_52 wi_X0_begin we_X0_begin wz_X0 ⟨by decide, by decide, by decide +kernel⟩ ⟨(Nat.le_of_ble_eq_true rfl), (Nat.le_of_ble_eq_true rfl)⟩ hP hD hS EF.ok hX [0, 1] rfl (by decide) 0 rfl rfl rfl rfl hl.1 rfl (Nat.le_of_ble_eq_true rfl) dX0_ask_24 ⟨(Nat.le_of_ble_eq_true rfl), (Nat.le_of_ble_eq_true rfl)⟩) (fun u_4 H locs w_5 hP hD hS => ?_)
  have hP : va_P D CL [(aa, .inr (0, [.ref a1, .int 3, .int sl, .int 1, .int vv])), (a1, .inl (cI, 20, .inl (upd fa 2 (11 : Int32))))] H := hP
  have hD : va_D A [(aa, .inr (0, [.ref a1, .int 3, .int sl, .int 1, .int vv])), (a1, .inl (cI, 20, .inl (upd fa 2 (11 : Int32))))] := hD
  refine lv_iload hx hb dX0_ask_27 (lv_at hl 5 rfl) ?_
  refine lv_iconst (v := 1) hx hb dX0_ask_29 (by decide) ?_
  refine lv_iadd hx hb dX0_ask_30 ?_
  refine lv_ci 3 (by decide +kernel) ?_
  refine lv_istore (lv' := [(6, .int 3), (5, .int 11), (0, .ref aa), (1, .int 1), (2, .int 0), (3, .int xx), (4, .int 2)]) hx hb dX0_ask_31 hl (by decide) rfl (fun ls hl => ?_)
  refine lv_iload hx hb dX0_ask_33 (lv_at hl 1 rfl) ?_
  refine lv_lookup (off := 121) (tgt := 156) hx hb dX0_ask_35 (by decide) (by decide) (by decide) ?_
  refine lv_aload_n hx hb dX0_ask_156 rfl (lv_at hl 2 rfl) ?_
  refine lv_iconst (v := 0) hx hb dX0_ask_157 (by decide) ?_
  refine lv_iconst (v := 0) hx hb dX0_ask_158 (by decide) ?_
  refine lv_iload_n hx hb dX0_ask_159 rfl (lv_at hl 5 rfl) ?_
  refine lv_iconst (v := 3) hx hb dX0_ask_160 (by decide) ?_
  refine lv_imul hx hb dX0_ask_161 ?_
  refine lv_iload hx hb dX0_ask_162 (lv_at hl 0 rfl) ?_
  refine contI (wc := [(aa, .inr (0, [.ref a1, .int 3, .int sl, .int 1, .int vv])), (a1, .inl (cI, 20, .inl (upd fa 2 (11 : Int32))))]) (wr := []) C0 hP hD hS [0, 1] [] rfl rfl (by decide) (by decide) 0 0 (Nat.le_of_ble_eq_true rfl) (Nat.le_of_ble_eq_true rfl) (runV (k := 4) (As := [.int 0, .int 0, .int (xx * (3 : Int32)), .int 3]) (rest := []) C0 (c_ask_1_0_0_3_3 l D cI cZ cQ cT _ aa (xx * (3 : Int32)) a1 sl vv (upd fa 2 (11 : Int32))) wc_X0_ask wl_X0_38 wi_X0_ask we_X0_ask wz_X0 ⟨by decide, by decide, by decide +kernel⟩ ⟨(Nat.le_of_ble_eq_true rfl), (Nat.le_of_ble_eq_true rfl)⟩ hP hD hS EF.ok hX [0, 1] rfl (by decide) 0 rfl rfl rfl rfl hl.1 rfl (Nat.le_of_ble_eq_true rfl) dX0_ask_164 ⟨(Nat.le_of_ble_eq_true rfl), (Nat.le_of_ble_eq_true rfl)⟩) (fun r_9 u_7 H locs w_8 hP hD hS => ?_)
  have hP : va_P D CL [(aa, .inr (0, [.ref a1, .int 4, .int sl, .int 1, .int vv])), (a1, .inl (cI, 20, .inl (upd (upd fa 2 (11 : Int32)) 3 1)))] H := hP
  have hD : va_D A [(aa, .inr (0, [.ref a1, .int 4, .int sl, .int 1, .int vv])), (a1, .inl (cI, 20, .inl (upd (upd fa 2 (11 : Int32)) 3 1)))] := hD
  obtain rfl : r_9 = ((xx * (3 : Int32)) + sl) := w_8
  exact retI C0 rfl () rfl (hP.sub (ws' := [(aa, .inr (0, [.ref a1, .int 4, .int sl, .int 1, .int vv])), (a1, .inl (cI, 20, .inl (upd (upd fa 2 11) 3 1)))]) [0, 1] rfl) (hD.sub (ws' := [(aa, .inr (0, [.ref a1, .int 4, .int sl, .int 1, .int vv])), (a1, .inl (cI, 20, .inl (upd (upd fa 2 11) 3 1)))]) [0, 1] (by decide) rfl) hS (Nat.le_of_ble_eq_true rfl) (Nat.le_of_ble_eq_true rfl) dX0_ask_167

set_option maxHeartbeats 4000000 in
set_option maxRecDepth 100000 in
theorem c_ask_1_1_1_1_1 (l : Launch) (D : va_G) (cI cZ cQ cT : ClassId) (sz : Nat) (aa : Nat) (xx : Int32) (a1 : Nat) (sl : Int32) (vv : Int32) (fa : Nat → Int32)  : MetI l yX0_ask cX0_ask 7 .int ({ frames := 3, cells := 0, slots := 0, locals := 76 } : Room) [.ref aa, .int 1, .int 1, .int xx, .int 1] D (TYS cI cZ cQ cT) EF sz [(aa, .inr (0, [.ref a1, .int 1, .int sl, .int 1, .int vv])), (a1, .inl (cI, 20, .inl fa))] (S := Unit) (fun (r : Int32) (_ : Unit) => r = (((xx * (3 : Int32)) + sl) - vv)) (fun _ => [(aa, .inr (0, [.ref a1, .int 4, .int sl, .int 1, .int vv])), (a1, .inl (cI, 20, .inl (upd (upd (upd fa 1 2) 2 11) 3 1)))]) := by
  refine MetI.mk (lv := [(0, .ref aa), (1, .int 1), (2, .int 1), (3, .int xx), (4, .int 1)]) (by decide +kernel) (Nat.le_of_ble_eq_true rfl) rfl ?_
  intro p e s m below meth c A ls C0 hP hD hS hX hl
  have C1 := C0
  obtain ⟨hx, hb, hr, hml, hown, hlocks, hname, hT, hN, hK, hA⟩ := C1
  refine lv_iload_n hx hb dX0_ask_0 rfl (lv_at hl 1 rfl) ?_
  refine lv_iload_n hx hb dX0_ask_1 rfl (lv_at hl 2 rfl) ?_
  refine contI (wc := []) (wr := [(aa, .inr (0, [.ref a1, .int 1, .int sl, .int 1, .int vv])), (a1, .inl (cI, 20, .inl fa))]) C0 hP hD hS [] [0, 1] rfl rfl (by decide) (by decide) 0 0 (Nat.le_of_ble_eq_true rfl) (Nat.le_of_ble_eq_true rfl) (runS (k := 2) (As := [.int 1, .int 1]) (rest := []) C0 (c_bodyOf_1_1 l D cI cZ cQ cT _ ) wc_X0_bodyOf wl_X0_48 wt_X0_bodyOf wz_X0 ⟨by decide, by decide, by decide +kernel⟩ ⟨(Nat.le_of_ble_eq_true rfl), (Nat.le_of_ble_eq_true rfl)⟩ hP hD hS EF.ok hX [] rfl (by decide) rfl hl.1 rfl (Nat.le_of_ble_eq_true rfl) dX0_ask_2 ⟨(Nat.le_of_ble_eq_true rfl), (Nat.le_of_ble_eq_true rfl)⟩) (fun r_3 u_1 H locs w_2 hP hD hS => ?_)
  have hP : va_P D CL [(aa, .inr (0, [.ref a1, .int 1, .int sl, .int 1, .int vv])), (a1, .inl (cI, 20, .inl fa))] H := hP
  have hD : va_D A [(aa, .inr (0, [.ref a1, .int 1, .int sl, .int 1, .int vv])), (a1, .inl (cI, 20, .inl fa))] := hD
  obtain rfl : r_3 = 2 := w_2
  refine lv_istore (lv' := [(5, .int 2), (0, .ref aa), (1, .int 1), (2, .int 1), (3, .int xx), (4, .int 1)]) hx hb dX0_ask_5 hl (by decide) rfl (fun ls hl => ?_)
  refine lv_iload hx hb dX0_ask_7 (lv_at hl 0 rfl) ?_
  refine lv_if_eq (tgt := 19) hx hb dX0_ask_9 (by decide) (fun c_0 => absurd c_0 (by decide)) (fun _ => ?_)
  refine lv_iload hx hb dX0_ask_12 (lv_at hl 5 rfl) ?_
  refine lv_bipush (v := 40) hx hb dX0_ask_14 (by decide) ?_
  refine lv_icmp_le (tgt := 21) hx hb dX0_ask_16 (by decide) (fun _ => ?_) (fun c_0 => absurd (by decide) c_0)
  refine lv_aload_n hx hb dX0_ask_21 rfl (lv_at hl 1 rfl) ?_
  refine lv_iload hx hb dX0_ask_22 (lv_at hl 0 rfl) ?_
  refine contV (wc := [(aa, .inr (0, [.ref a1, .int 1, .int sl, .int 1, .int vv])), (a1, .inl (cI, 20, .inl fa))]) (wr := []) C0 hP hD hS [0, 1] [] rfl rfl (by decide) (by decide) 0 0 (Nat.le_of_ble_eq_true rfl) (Nat.le_of_ble_eq_true rfl) (runV (k := 1) (As := [.int 2]) (rest := []) C0 (c_begin_1 l D cI cZ cQ cT _ aa 2 a1 sl 1 vv fa) wc_X0_begin wl_X0_52 wi_X0_begin we_X0_begin wz_X0 ⟨by decide, by decide, by decide +kernel⟩ ⟨(Nat.le_of_ble_eq_true rfl), (Nat.le_of_ble_eq_true rfl)⟩ hP hD hS EF.ok hX [0, 1] rfl (by decide) 0 rfl rfl rfl rfl hl.1 rfl (Nat.le_of_ble_eq_true rfl) dX0_ask_24 ⟨(Nat.le_of_ble_eq_true rfl), (Nat.le_of_ble_eq_true rfl)⟩) (fun u_4 H locs w_5 hP hD hS => ?_)
  have hP : va_P D CL [(aa, .inr (0, [.ref a1, .int 2, .int sl, .int 1, .int vv])), (a1, .inl (cI, 20, .inl (upd fa 1 (2 : Int32))))] H := hP
  have hD : va_D A [(aa, .inr (0, [.ref a1, .int 2, .int sl, .int 1, .int vv])), (a1, .inl (cI, 20, .inl (upd fa 1 (2 : Int32))))] := hD
  refine lv_iload hx hb dX0_ask_27 (lv_at hl 5 rfl) ?_
  refine lv_iconst (v := 1) hx hb dX0_ask_29 (by decide) ?_
  refine lv_iadd hx hb dX0_ask_30 ?_
  refine lv_ci 2 (by decide +kernel) ?_
  refine lv_istore (lv' := [(6, .int 2), (5, .int 2), (0, .ref aa), (1, .int 1), (2, .int 1), (3, .int xx), (4, .int 1)]) hx hb dX0_ask_31 hl (by decide) rfl (fun ls hl => ?_)
  refine lv_iload hx hb dX0_ask_33 (lv_at hl 1 rfl) ?_
  refine lv_lookup (off := 88) (tgt := 123) hx hb dX0_ask_35 (by decide) (by decide) (by decide) ?_
  refine lv_aload_n hx hb dX0_ask_123 rfl (lv_at hl 2 rfl) ?_
  refine lv_aload_n hx hb dX0_ask_124 rfl (lv_at hl 2 rfl) ?_
  refine va_get (ci := 0) (v := .int 1) (C := RX0) (T := TX0) (N := 5) hx hb hT wu_X0 hown hK hP 0 rfl rfl 3 (by decide) (hT _ wf_X0_31) (fun _ h9 => h9) rfl dX0_ask_125 ?_
  refine lv_iconst (v := 0) hx hb dX0_ask_128 (by decide) ?_
  refine lv_iload_n hx hb dX0_ask_129 rfl (lv_at hl 5 rfl) ?_
  refine lv_iload hx hb dX0_ask_130 (lv_at hl 0 rfl) ?_
  refine contI (wc := [(aa, .inr (0, [.ref a1, .int 2, .int sl, .int 1, .int vv])), (a1, .inl (cI, 20, .inl (upd fa 1 (2 : Int32))))]) (wr := []) C0 hP hD hS [0, 1] [] rfl rfl (by decide) (by decide) 0 0 (Nat.le_of_ble_eq_true rfl) (Nat.le_of_ble_eq_true rfl) (runV (k := 4) (As := [.int 1, .int 0, .int xx, .int 2]) (rest := []) C0 (c_ask_1_1_0_2_2 l D cI cZ cQ cT _ aa xx a1 sl vv (upd fa 1 (2 : Int32))) wc_X0_ask wl_X0_38 wi_X0_ask we_X0_ask wz_X0 ⟨by decide, by decide, by decide +kernel⟩ ⟨(Nat.le_of_ble_eq_true rfl), (Nat.le_of_ble_eq_true rfl)⟩ hP hD hS EF.ok hX [0, 1] rfl (by decide) 0 rfl rfl rfl rfl hl.1 rfl (Nat.le_of_ble_eq_true rfl) dX0_ask_132 ⟨(Nat.le_of_ble_eq_true rfl), (Nat.le_of_ble_eq_true rfl)⟩) (fun r_9 u_7 H locs w_8 hP hD hS => ?_)
  have hP : va_P D CL [(aa, .inr (0, [.ref a1, .int 4, .int sl, .int 1, .int vv])), (a1, .inl (cI, 20, .inl (upd (upd (upd fa 1 (2 : Int32)) 2 11) 3 1)))] H := hP
  have hD : va_D A [(aa, .inr (0, [.ref a1, .int 4, .int sl, .int 1, .int vv])), (a1, .inl (cI, 20, .inl (upd (upd (upd fa 1 (2 : Int32)) 2 11) 3 1)))] := hD
  obtain rfl : r_9 = ((xx * (3 : Int32)) + sl) := w_8
  refine lv_aload_n hx hb dX0_ask_135 rfl (lv_at hl 2 rfl) ?_
  refine va_get (ci := 0) (v := .int vv) (C := RX0) (T := TX0) (N := 5) hx hb hT wu_X0 hown hK hP 0 rfl rfl 4 (by decide) (hT _ wf_X0_36) (fun _ h9 => h9) rfl dX0_ask_136 ?_
  refine lv_isub hx hb dX0_ask_139 ?_
  exact retI C0 rfl () rfl (hP.sub (ws' := [(aa, .inr (0, [.ref a1, .int 4, .int sl, .int 1, .int vv])), (a1, .inl (cI, 20, .inl (upd (upd (upd fa 1 2) 2 11) 3 1)))]) [0, 1] rfl) (hD.sub (ws' := [(aa, .inr (0, [.ref a1, .int 4, .int sl, .int 1, .int vv])), (a1, .inl (cI, 20, .inl (upd (upd (upd fa 1 2) 2 11) 3 1)))]) [0, 1] (by decide) rfl) hS (Nat.le_of_ble_eq_true rfl) (Nat.le_of_ble_eq_true rfl) dX0_ask_140

set_option maxHeartbeats 4000000 in
set_option maxRecDepth 100000 in
theorem c_ask_1_1_2_0_0 (l : Launch) (D : va_G) (cI cZ cQ cT : ClassId) (sz : Nat) (aa : Nat) (xx : Int32) (a1 : Nat) (sl : Int32) (vv : Int32) (fa : Nat → Int32)  : MetI l yX0_ask cX0_ask 7 .int ({ frames := 4, cells := 0, slots := 0, locals := 102 } : Room) [.ref aa, .int 1, .int 2, .int xx, .int 0] D (TYS cI cZ cQ cT) EF sz [(aa, .inr (0, [.ref a1, .int 0, .int sl, .int 1, .int vv])), (a1, .inl (cI, 20, .inl fa))] (S := Unit) (fun (r : Int32) (_ : Unit) => r = ((((xx * (3 : Int32)) + sl) - vv) * (2 : Int32))) (fun _ => [(aa, .inr (0, [.ref a1, .int 4, .int sl, .int 1, .int vv])), (a1, .inl (cI, 20, .inl (upd (upd (upd (upd fa 0 3) 1 2) 2 11) 3 1)))]) := by
  refine MetI.mk (lv := [(0, .ref aa), (1, .int 1), (2, .int 2), (3, .int xx), (4, .int 0)]) (by decide +kernel) (Nat.le_of_ble_eq_true rfl) rfl ?_
  intro p e s m below meth c A ls C0 hP hD hS hX hl
  have C1 := C0
  obtain ⟨hx, hb, hr, hml, hown, hlocks, hname, hT, hN, hK, hA⟩ := C1
  refine lv_iload_n hx hb dX0_ask_0 rfl (lv_at hl 1 rfl) ?_
  refine lv_iload_n hx hb dX0_ask_1 rfl (lv_at hl 2 rfl) ?_
  refine contI (wc := []) (wr := [(aa, .inr (0, [.ref a1, .int 0, .int sl, .int 1, .int vv])), (a1, .inl (cI, 20, .inl fa))]) C0 hP hD hS [] [0, 1] rfl rfl (by decide) (by decide) 0 0 (Nat.le_of_ble_eq_true rfl) (Nat.le_of_ble_eq_true rfl) (runS (k := 2) (As := [.int 1, .int 2]) (rest := []) C0 (c_bodyOf_1_2 l D cI cZ cQ cT _ ) wc_X0_bodyOf wl_X0_48 wt_X0_bodyOf wz_X0 ⟨by decide, by decide, by decide +kernel⟩ ⟨(Nat.le_of_ble_eq_true rfl), (Nat.le_of_ble_eq_true rfl)⟩ hP hD hS EF.ok hX [] rfl (by decide) rfl hl.1 rfl (Nat.le_of_ble_eq_true rfl) dX0_ask_2 ⟨(Nat.le_of_ble_eq_true rfl), (Nat.le_of_ble_eq_true rfl)⟩) (fun r_3 u_1 H locs w_2 hP hD hS => ?_)
  have hP : va_P D CL [(aa, .inr (0, [.ref a1, .int 0, .int sl, .int 1, .int vv])), (a1, .inl (cI, 20, .inl fa))] H := hP
  have hD : va_D A [(aa, .inr (0, [.ref a1, .int 0, .int sl, .int 1, .int vv])), (a1, .inl (cI, 20, .inl fa))] := hD
  obtain rfl : r_3 = 3 := w_2
  refine lv_istore (lv' := [(5, .int 3), (0, .ref aa), (1, .int 1), (2, .int 2), (3, .int xx), (4, .int 0)]) hx hb dX0_ask_5 hl (by decide) rfl (fun ls hl => ?_)
  refine lv_iload hx hb dX0_ask_7 (lv_at hl 0 rfl) ?_
  refine lv_if_eq (tgt := 19) hx hb dX0_ask_9 (by decide) (fun c_0 => absurd c_0 (by decide)) (fun _ => ?_)
  refine lv_iload hx hb dX0_ask_12 (lv_at hl 5 rfl) ?_
  refine lv_bipush (v := 40) hx hb dX0_ask_14 (by decide) ?_
  refine lv_icmp_le (tgt := 21) hx hb dX0_ask_16 (by decide) (fun _ => ?_) (fun c_0 => absurd (by decide) c_0)
  refine lv_aload_n hx hb dX0_ask_21 rfl (lv_at hl 1 rfl) ?_
  refine lv_iload hx hb dX0_ask_22 (lv_at hl 0 rfl) ?_
  refine contV (wc := [(aa, .inr (0, [.ref a1, .int 0, .int sl, .int 1, .int vv])), (a1, .inl (cI, 20, .inl fa))]) (wr := []) C0 hP hD hS [0, 1] [] rfl rfl (by decide) (by decide) 0 0 (Nat.le_of_ble_eq_true rfl) (Nat.le_of_ble_eq_true rfl) (runV (k := 1) (As := [.int 3]) (rest := []) C0 (c_begin_0 l D cI cZ cQ cT _ aa 3 a1 sl 1 vv fa) wc_X0_begin wl_X0_52 wi_X0_begin we_X0_begin wz_X0 ⟨by decide, by decide, by decide +kernel⟩ ⟨(Nat.le_of_ble_eq_true rfl), (Nat.le_of_ble_eq_true rfl)⟩ hP hD hS EF.ok hX [0, 1] rfl (by decide) 0 rfl rfl rfl rfl hl.1 rfl (Nat.le_of_ble_eq_true rfl) dX0_ask_24 ⟨(Nat.le_of_ble_eq_true rfl), (Nat.le_of_ble_eq_true rfl)⟩) (fun u_4 H locs w_5 hP hD hS => ?_)
  have hP : va_P D CL [(aa, .inr (0, [.ref a1, .int 1, .int sl, .int 1, .int vv])), (a1, .inl (cI, 20, .inl (upd fa 0 (3 : Int32))))] H := hP
  have hD : va_D A [(aa, .inr (0, [.ref a1, .int 1, .int sl, .int 1, .int vv])), (a1, .inl (cI, 20, .inl (upd fa 0 (3 : Int32))))] := hD
  refine lv_iload hx hb dX0_ask_27 (lv_at hl 5 rfl) ?_
  refine lv_iconst (v := 1) hx hb dX0_ask_29 (by decide) ?_
  refine lv_iadd hx hb dX0_ask_30 ?_
  refine lv_ci 1 (by decide +kernel) ?_
  refine lv_istore (lv' := [(6, .int 1), (5, .int 3), (0, .ref aa), (1, .int 1), (2, .int 2), (3, .int xx), (4, .int 0)]) hx hb dX0_ask_31 hl (by decide) rfl (fun ls hl => ?_)
  refine lv_iload hx hb dX0_ask_33 (lv_at hl 1 rfl) ?_
  refine lv_lookup (off := 106) (tgt := 141) hx hb dX0_ask_35 (by decide) (by decide) (by decide) ?_
  refine lv_aload_n hx hb dX0_ask_141 rfl (lv_at hl 2 rfl) ?_
  refine lv_aload_n hx hb dX0_ask_142 rfl (lv_at hl 2 rfl) ?_
  refine va_get (ci := 0) (v := .int 1) (C := RX0) (T := TX0) (N := 5) hx hb hT wu_X0 hown hK hP 0 rfl rfl 3 (by decide) (hT _ wf_X0_31) (fun _ h9 => h9) rfl dX0_ask_143 ?_
  refine lv_iconst (v := 1) hx hb dX0_ask_146 (by decide) ?_
  refine lv_iload_n hx hb dX0_ask_147 rfl (lv_at hl 5 rfl) ?_
  refine lv_iload hx hb dX0_ask_148 (lv_at hl 0 rfl) ?_
  refine contI (wc := [(aa, .inr (0, [.ref a1, .int 1, .int sl, .int 1, .int vv])), (a1, .inl (cI, 20, .inl (upd fa 0 (3 : Int32))))]) (wr := []) C0 hP hD hS [0, 1] [] rfl rfl (by decide) (by decide) 0 0 (Nat.le_of_ble_eq_true rfl) (Nat.le_of_ble_eq_true rfl) (runV (k := 4) (As := [.int 1, .int 1, .int xx, .int 1]) (rest := []) C0 (c_ask_1_1_1_1_1 l D cI cZ cQ cT _ aa xx a1 sl vv (upd fa 0 (3 : Int32))) wc_X0_ask wl_X0_38 wi_X0_ask we_X0_ask wz_X0 ⟨by decide, by decide, by decide +kernel⟩ ⟨(Nat.le_of_ble_eq_true rfl), (Nat.le_of_ble_eq_true rfl)⟩ hP hD hS EF.ok hX [0, 1] rfl (by decide) 0 rfl rfl rfl rfl hl.1 rfl (Nat.le_of_ble_eq_true rfl) dX0_ask_150 ⟨(Nat.le_of_ble_eq_true rfl), (Nat.le_of_ble_eq_true rfl)⟩) (fun r_9 u_7 H locs w_8 hP hD hS => ?_)
  have hP : va_P D CL [(aa, .inr (0, [.ref a1, .int 4, .int sl, .int 1, .int vv])), (a1, .inl (cI, 20, .inl (upd (upd (upd (upd fa 0 (3 : Int32)) 1 2) 2 11) 3 1)))] H := hP
  have hD : va_D A [(aa, .inr (0, [.ref a1, .int 4, .int sl, .int 1, .int vv])), (a1, .inl (cI, 20, .inl (upd (upd (upd (upd fa 0 (3 : Int32)) 1 2) 2 11) 3 1)))] := hD
  obtain rfl : r_9 = (((xx * (3 : Int32)) + sl) - vv) := w_8
  refine lv_iconst (v := 2) hx hb dX0_ask_153 (by decide) ?_
  refine lv_imul hx hb dX0_ask_154 ?_
  exact retI C0 rfl () rfl (hP.sub (ws' := [(aa, .inr (0, [.ref a1, .int 4, .int sl, .int 1, .int vv])), (a1, .inl (cI, 20, .inl (upd (upd (upd (upd fa 0 3) 1 2) 2 11) 3 1)))]) [0, 1] rfl) (hD.sub (ws' := [(aa, .inr (0, [.ref a1, .int 4, .int sl, .int 1, .int vv])), (a1, .inl (cI, 20, .inl (upd (upd (upd (upd fa 0 3) 1 2) 2 11) 3 1)))]) [0, 1] (by decide) rfl) hS (Nat.le_of_ble_eq_true rfl) (Nat.le_of_ble_eq_true rfl) dX0_ask_155

set_option maxHeartbeats 4000000 in
set_option maxRecDepth 100000 in
theorem c_bodyOf_2_2 (l : Launch) (D : va_G) (cI cZ cQ cT : ClassId) (sz : Nat)   : MetI l yX0_bodyOf cX0_bodyOf 5 .int ({ frames := 0, cells := 0, slots := 0, locals := 0 } : Room) [.int 2, .int 2] D (TYS cI cZ cQ cT) EF sz [] (S := Unit) (fun (r : Int32) (_ : Unit) => r = 3) (fun _ => []) := by
  refine MetI.mk (lv := [(0, .int 2), (1, .int 2)]) (by decide +kernel) (Nat.le_of_ble_eq_true rfl) rfl ?_
  intro p e s m below meth c A ls C0 hP hD hS hX hl
  have C1 := C0
  obtain ⟨hx, hb, hr, hml, hown, hlocks, hname, hT, hN, hK, hA⟩ := C1
  obtain ⟨kab, hkz, hkT⟩ := hX.2.1
  obtain ⟨bdy, hbz, hbT⟩ := hX.2.2.1
  refine lv_iload_n hx hb dX0_bodyOf_0 rfl (lv_at hl 0 rfl) ?_
  refine lv_istore_n (lv' := [(2, .int 2), (0, .int 2), (1, .int 2)]) hx hb dX0_bodyOf_1 rfl hl (by decide) rfl (fun ls hl => ?_)
  refine lv_iconst (v := 0) hx hb dX0_bodyOf_2 (by decide) ?_
  refine lv_istore_n (lv' := [(3, .int 0), (2, .int 2), (0, .int 2), (1, .int 2)]) hx hb dX0_bodyOf_3 rfl hl (by decide) rfl (fun ls hl => ?_)
  refine lv_iload_n hx hb dX0_bodyOf_4 rfl (lv_at hl 0 rfl) ?_
  refine lv_bipush (v := 7) hx hb dX0_bodyOf_5 (by decide) ?_
  refine lv_icmp_ge (tgt := 69) hx hb dX0_bodyOf_7 (by decide) (fun c_0 => absurd c_0 (by decide)) (fun _ => ?_)
  refine lv_iload_n hx hb dX0_bodyOf_10 rfl (lv_at hl 1 rfl) ?_
  refine lv_if_lt (tgt := 69) hx hb dX0_bodyOf_11 (by decide) (fun c_0 => absurd c_0 (by decide)) (fun _ => ?_)
  refine lv_iload_n hx hb dX0_bodyOf_14 rfl (lv_at hl 1 rfl) ?_
  refine lv_bipush (v := 7) hx hb dX0_bodyOf_15 (by decide) ?_
  refine lv_icmp_ge (tgt := 69) hx hb dX0_bodyOf_17 (by decide) (fun c_0 => absurd c_0 (by decide)) (fun _ => ?_)
  refine lv_iload_n hx hb dX0_bodyOf_20 rfl (lv_at hl 1 rfl) ?_
  refine lv_iconst (v := 3) hx hb dX0_bodyOf_21 (by decide) ?_
  refine lv_imul hx hb dX0_bodyOf_22 ?_
  refine lv_ci 6 (by decide +kernel) ?_
  refine lv_iload_n hx hb dX0_bodyOf_23 rfl (lv_at hl 3 rfl) ?_
  refine lv_iadd hx hb dX0_bodyOf_24 ?_
  refine lv_ci 8 (by decide +kernel) ?_
  refine lv_istore (lv' := [(4, .int 8), (3, .int 0), (2, .int 2), (0, .int 2), (1, .int 2)]) hx hb dX0_bodyOf_25 hl (by decide) rfl (fun ls hl => ?_)
  refine lv_iload hx hb dX0_bodyOf_27 (lv_at hl 0 rfl) ?_
  refine lv_if_lt (tgt := 57) hx hb dX0_bodyOf_29 (by decide) (fun c_0 => absurd c_0 (by decide)) (fun _ => ?_)
  refine lv_iload hx hb dX0_bodyOf_32 (lv_at hl 0 rfl) ?_
  refine va_gets hx hb hbz hS hown (hT _ wf_X0_42) (fun _ h9 => h9) dX0_bodyOf_34 ?_
  refine va_tlen hx hb hbT hS (v := 21) rfl dX0_bodyOf_37 ?_
  refine lv_icmp_ge (tgt := 57) hx hb dX0_bodyOf_38 (by decide) (fun c_0 => absurd c_0 (by decide)) (fun _ => ?_)
  refine va_gets hx hb hbz hS hown (hT _ wf_X0_42) (fun _ h9 => h9) dX0_bodyOf_41 ?_
  refine lv_iload hx hb dX0_bodyOf_44 (lv_at hl 0 rfl) ?_
  refine va_ti hx hb hbT hS (vin _ _ (by decide +kernel)) (v := .int 0) rfl dX0_bodyOf_46 ?_
  refine lv_if_eq (tgt := 57) hx hb dX0_bodyOf_47 (by decide) (fun _ => ?_) (fun c_0 => absurd (by decide) c_0)
  refine va_getsN hx hb hkz hS hown (va_Nw.use rfl (hN.get 750 kf_X0_45 rfl)) (fun _ h9 => h9) dX0_bodyOf_57 ?_
  refine lv_iload_n hx hb dX0_bodyOf_60 rfl (lv_at hl 2 rfl) ?_
  refine va_ti hx hb hkT hS (vin _ _ (by decide +kernel)) (v := .int 0) rfl dX0_bodyOf_61 ?_
  refine lv_istore_n (lv' := [(2, .int 0), (4, .int 8), (3, .int 0), (0, .int 2), (1, .int 2)]) hx hb dX0_bodyOf_62 rfl hl (by decide) rfl (fun ls hl => ?_)
  refine lv_iinc (v := 1) (lv' := [(3, .int 1), (2, .int 0), (4, .int 8), (0, .int 2), (1, .int 2)]) hx hb dX0_bodyOf_63 hl (k := 2) rfl (by decide) (by decide) rfl (fun ls hl => ?_)
  refine lv_goto (tgt := 4) hx hb dX0_bodyOf_66 (by decide) ?_
  refine lv_iload_n hx hb dX0_bodyOf_4 rfl (lv_at hl 0 rfl) ?_
  refine lv_bipush (v := 7) hx hb dX0_bodyOf_5 (by decide) ?_
  refine lv_icmp_ge (tgt := 69) hx hb dX0_bodyOf_7 (by decide) (fun c_0 => absurd c_0 (by decide)) (fun _ => ?_)
  refine lv_iload_n hx hb dX0_bodyOf_10 rfl (lv_at hl 1 rfl) ?_
  refine lv_if_lt (tgt := 69) hx hb dX0_bodyOf_11 (by decide) (fun c_0 => absurd c_0 (by decide)) (fun _ => ?_)
  refine lv_iload_n hx hb dX0_bodyOf_14 rfl (lv_at hl 1 rfl) ?_
  refine lv_bipush (v := 7) hx hb dX0_bodyOf_15 (by decide) ?_
  refine lv_icmp_ge (tgt := 69) hx hb dX0_bodyOf_17 (by decide) (fun c_0 => absurd c_0 (by decide)) (fun _ => ?_)
  refine lv_iload_n hx hb dX0_bodyOf_20 rfl (lv_at hl 1 rfl) ?_
  refine lv_iconst (v := 3) hx hb dX0_bodyOf_21 (by decide) ?_
  refine lv_imul hx hb dX0_bodyOf_22 ?_
  refine lv_ci 0 (by decide +kernel) ?_
  refine lv_iload_n hx hb dX0_bodyOf_23 rfl (lv_at hl 4 rfl) ?_
  refine lv_iadd hx hb dX0_bodyOf_24 ?_
  refine lv_ci 2 (by decide +kernel) ?_
  refine lv_istore (lv' := [(4, .int 2), (3, .int 1), (2, .int 0), (0, .int 2), (1, .int 2)]) hx hb dX0_bodyOf_25 hl (by decide) rfl (fun ls hl => ?_)
  refine lv_iload hx hb dX0_bodyOf_27 (lv_at hl 0 rfl) ?_
  refine lv_if_lt (tgt := 57) hx hb dX0_bodyOf_29 (by decide) (fun c_0 => absurd c_0 (by decide)) (fun _ => ?_)
  refine lv_iload hx hb dX0_bodyOf_32 (lv_at hl 0 rfl) ?_
  refine va_gets hx hb hbz hS hown (hT _ wf_X0_42) (fun _ h9 => h9) dX0_bodyOf_34 ?_
  refine va_tlen hx hb hbT hS (v := 21) rfl dX0_bodyOf_37 ?_
  refine lv_icmp_ge (tgt := 57) hx hb dX0_bodyOf_38 (by decide) (fun c_0 => absurd c_0 (by decide)) (fun _ => ?_)
  refine va_gets hx hb hbz hS hown (hT _ wf_X0_42) (fun _ h9 => h9) dX0_bodyOf_41 ?_
  refine lv_iload hx hb dX0_bodyOf_44 (lv_at hl 0 rfl) ?_
  refine va_ti hx hb hbT hS (vin _ _ (by decide +kernel)) (v := .int 3) rfl dX0_bodyOf_46 ?_
  refine lv_if_eq (tgt := 57) hx hb dX0_bodyOf_47 (by decide) (fun c_0 => absurd c_0 (by decide)) (fun _ => ?_)
  refine va_gets hx hb hbz hS hown (hT _ wf_X0_42) (fun _ h9 => h9) dX0_bodyOf_50 ?_
  refine lv_iload hx hb dX0_bodyOf_53 (lv_at hl 0 rfl) ?_
  refine va_ti hx hb hbT hS (vin _ _ (by decide +kernel)) (v := .int 3) rfl dX0_bodyOf_55 ?_
  exact retI C0 rfl () rfl (hP.sub (ws' := []) [] rfl) (hD.sub (ws' := []) [] (by decide) rfl) hS (Nat.le_of_ble_eq_true rfl) (Nat.le_of_ble_eq_true rfl) dX0_bodyOf_56

set_option maxHeartbeats 4000000 in
set_option maxRecDepth 100000 in
theorem c_ask_2_2_0_3_3 (l : Launch) (D : va_G) (cI cZ cQ cT : ClassId) (sz : Nat) (aa : Nat) (xx : Int32) (a1 : Nat) (sl : Int32) (vv : Int32) (fa : Nat → Int32)  : MetI l yX0_ask cX0_ask 7 .int ({ frames := 1, cells := 0, slots := 0, locals := 24 } : Room) [.ref aa, .int 2, .int 0, .int xx, .int 3] D (TYS cI cZ cQ cT) EF sz [(aa, .inr (0, [.ref a1, .int 3, .int sl, .int 2, .int vv])), (a1, .inl (cI, 20, .inl fa))] (S := Unit) (fun (r : Int32) (_ : Unit) => r = (xx + sl)) (fun _ => [(aa, .inr (0, [.ref a1, .int 4, .int sl, .int 2, .int vv])), (a1, .inl (cI, 20, .inl (upd fa 3 1)))]) := by
  refine MetI.mk (lv := [(0, .ref aa), (1, .int 2), (2, .int 0), (3, .int xx), (4, .int 3)]) (by decide +kernel) (Nat.le_of_ble_eq_true rfl) rfl ?_
  intro p e s m below meth c A ls C0 hP hD hS hX hl
  have C1 := C0
  obtain ⟨hx, hb, hr, hml, hown, hlocks, hname, hT, hN, hK, hA⟩ := C1
  refine lv_iload_n hx hb dX0_ask_0 rfl (lv_at hl 1 rfl) ?_
  refine lv_iload_n hx hb dX0_ask_1 rfl (lv_at hl 2 rfl) ?_
  refine contI (wc := []) (wr := [(aa, .inr (0, [.ref a1, .int 3, .int sl, .int 2, .int vv])), (a1, .inl (cI, 20, .inl fa))]) C0 hP hD hS [] [0, 1] rfl rfl (by decide) (by decide) 0 0 (Nat.le_of_ble_eq_true rfl) (Nat.le_of_ble_eq_true rfl) (runS (k := 2) (As := [.int 2, .int 0]) (rest := []) C0 (c_bodyOf_2_0 l D cI cZ cQ cT _ ) wc_X0_bodyOf wl_X0_48 wt_X0_bodyOf wz_X0 ⟨by decide, by decide, by decide +kernel⟩ ⟨(Nat.le_of_ble_eq_true rfl), (Nat.le_of_ble_eq_true rfl)⟩ hP hD hS EF.ok hX [] rfl (by decide) rfl hl.1 rfl (Nat.le_of_ble_eq_true rfl) dX0_ask_2 ⟨(Nat.le_of_ble_eq_true rfl), (Nat.le_of_ble_eq_true rfl)⟩) (fun r_3 u_1 H locs w_2 hP hD hS => ?_)
  have hP : va_P D CL [(aa, .inr (0, [.ref a1, .int 3, .int sl, .int 2, .int vv])), (a1, .inl (cI, 20, .inl fa))] H := hP
  have hD : va_D A [(aa, .inr (0, [.ref a1, .int 3, .int sl, .int 2, .int vv])), (a1, .inl (cI, 20, .inl fa))] := hD
  obtain rfl : r_3 = 1 := w_2
  refine lv_istore (lv' := [(5, .int 1), (0, .ref aa), (1, .int 2), (2, .int 0), (3, .int xx), (4, .int 3)]) hx hb dX0_ask_5 hl (by decide) rfl (fun ls hl => ?_)
  refine lv_iload hx hb dX0_ask_7 (lv_at hl 0 rfl) ?_
  refine lv_if_eq (tgt := 19) hx hb dX0_ask_9 (by decide) (fun c_0 => absurd c_0 (by decide)) (fun _ => ?_)
  refine lv_iload hx hb dX0_ask_12 (lv_at hl 5 rfl) ?_
  refine lv_bipush (v := 40) hx hb dX0_ask_14 (by decide) ?_
  refine lv_icmp_le (tgt := 21) hx hb dX0_ask_16 (by decide) (fun _ => ?_) (fun c_0 => absurd (by decide) c_0)
  refine lv_aload_n hx hb dX0_ask_21 rfl (lv_at hl 1 rfl) ?_
  refine lv_iload hx hb dX0_ask_22 (lv_at hl 0 rfl) ?_
  refine contV (wc := [(aa, .inr (0, [.ref a1, .int 3, .int sl, .int 2, .int vv])), (a1, .inl (cI, 20, .inl fa))]) (wr := []) C0 hP hD hS [0, 1] [] rfl rfl (by decide) (by decide) 0 0 (Nat.le_of_ble_eq_true rfl) (Nat.le_of_ble_eq_true rfl) (runV (k := 1) (As := [.int 1]) (rest := []) C0 (c_begin_3 l D cI cZ cQ cT _ aa 1 a1 sl 2 vv fa) wc_X0_begin wl_X0_52 wi_X0_begin we_X0_begin wz_X0 ⟨by decide, by decide, by decide +kernel⟩ ⟨(Nat.le_of_ble_eq_true rfl), (Nat.le_of_ble_eq_true rfl)⟩ hP hD hS EF.ok hX [0, 1] rfl (by decide) 0 rfl rfl rfl rfl hl.1 rfl (Nat.le_of_ble_eq_true rfl) dX0_ask_24 ⟨(Nat.le_of_ble_eq_true rfl), (Nat.le_of_ble_eq_true rfl)⟩) (fun u_4 H locs w_5 hP hD hS => ?_)
  have hP : va_P D CL [(aa, .inr (0, [.ref a1, .int 4, .int sl, .int 2, .int vv])), (a1, .inl (cI, 20, .inl (upd fa 3 (1 : Int32))))] H := hP
  have hD : va_D A [(aa, .inr (0, [.ref a1, .int 4, .int sl, .int 2, .int vv])), (a1, .inl (cI, 20, .inl (upd fa 3 (1 : Int32))))] := hD
  refine lv_iload hx hb dX0_ask_27 (lv_at hl 5 rfl) ?_
  refine lv_iconst (v := 1) hx hb dX0_ask_29 (by decide) ?_
  refine lv_iadd hx hb dX0_ask_30 ?_
  refine lv_ci 4 (by decide +kernel) ?_
  refine lv_istore (lv' := [(6, .int 4), (5, .int 1), (0, .ref aa), (1, .int 2), (2, .int 0), (3, .int xx), (4, .int 3)]) hx hb dX0_ask_31 hl (by decide) rfl (fun ls hl => ?_)
  refine lv_iload hx hb dX0_ask_33 (lv_at hl 1 rfl) ?_
  refine lv_lookup (off := 81) (tgt := 116) hx hb dX0_ask_35 (by decide) (by decide) (by decide) ?_
  refine lv_iload_n hx hb dX0_ask_116 rfl (lv_at hl 5 rfl) ?_
  refine lv_aload_n hx hb dX0_ask_117 rfl (lv_at hl 2 rfl) ?_
  refine va_get (ci := 0) (v := .int sl) (C := RX0) (T := TX0) (N := 5) hx hb hT wu_X0 hown hK hP 0 rfl rfl 2 (by decide) (hT _ wf_X0_25) (fun _ h9 => h9) rfl dX0_ask_118 ?_
  refine lv_iadd hx hb dX0_ask_121 ?_
  exact retI C0 rfl () rfl (hP.sub (ws' := [(aa, .inr (0, [.ref a1, .int 4, .int sl, .int 2, .int vv])), (a1, .inl (cI, 20, .inl (upd fa 3 1)))]) [0, 1] rfl) (hD.sub (ws' := [(aa, .inr (0, [.ref a1, .int 4, .int sl, .int 2, .int vv])), (a1, .inl (cI, 20, .inl (upd fa 3 1)))]) [0, 1] (by decide) rfl) hS (Nat.le_of_ble_eq_true rfl) (Nat.le_of_ble_eq_true rfl) dX0_ask_122

set_option maxHeartbeats 4000000 in
set_option maxRecDepth 100000 in
theorem c_ask_2_0_1_2_2 (l : Launch) (D : va_G) (cI cZ cQ cT : ClassId) (sz : Nat) (aa : Nat) (xx : Int32) (a1 : Nat) (sl : Int32) (vv : Int32) (fa : Nat → Int32)  : MetI l yX0_ask cX0_ask 7 .int ({ frames := 2, cells := 0, slots := 0, locals := 50 } : Room) [.ref aa, .int 0, .int 1, .int xx, .int 2] D (TYS cI cZ cQ cT) EF sz [(aa, .inr (0, [.ref a1, .int 2, .int sl, .int 2, .int vv])), (a1, .inl (cI, 20, .inl fa))] (S := Unit) (fun (r : Int32) (_ : Unit) => r = ((xx + sl) - vv)) (fun _ => [(aa, .inr (0, [.ref a1, .int 4, .int sl, .int 2, .int vv])), (a1, .inl (cI, 20, .inl (upd (upd fa 2 2) 3 1)))]) := by
  refine MetI.mk (lv := [(0, .ref aa), (1, .int 0), (2, .int 1), (3, .int xx), (4, .int 2)]) (by decide +kernel) (Nat.le_of_ble_eq_true rfl) rfl ?_
  intro p e s m below meth c A ls C0 hP hD hS hX hl
  have C1 := C0
  obtain ⟨hx, hb, hr, hml, hown, hlocks, hname, hT, hN, hK, hA⟩ := C1
  refine lv_iload_n hx hb dX0_ask_0 rfl (lv_at hl 1 rfl) ?_
  refine lv_iload_n hx hb dX0_ask_1 rfl (lv_at hl 2 rfl) ?_
  refine contI (wc := []) (wr := [(aa, .inr (0, [.ref a1, .int 2, .int sl, .int 2, .int vv])), (a1, .inl (cI, 20, .inl fa))]) C0 hP hD hS [] [0, 1] rfl rfl (by decide) (by decide) 0 0 (Nat.le_of_ble_eq_true rfl) (Nat.le_of_ble_eq_true rfl) (runS (k := 2) (As := [.int 0, .int 1]) (rest := []) C0 (c_bodyOf_0_1 l D cI cZ cQ cT _ ) wc_X0_bodyOf wl_X0_48 wt_X0_bodyOf wz_X0 ⟨by decide, by decide, by decide +kernel⟩ ⟨(Nat.le_of_ble_eq_true rfl), (Nat.le_of_ble_eq_true rfl)⟩ hP hD hS EF.ok hX [] rfl (by decide) rfl hl.1 rfl (Nat.le_of_ble_eq_true rfl) dX0_ask_2 ⟨(Nat.le_of_ble_eq_true rfl), (Nat.le_of_ble_eq_true rfl)⟩) (fun r_3 u_1 H locs w_2 hP hD hS => ?_)
  have hP : va_P D CL [(aa, .inr (0, [.ref a1, .int 2, .int sl, .int 2, .int vv])), (a1, .inl (cI, 20, .inl fa))] H := hP
  have hD : va_D A [(aa, .inr (0, [.ref a1, .int 2, .int sl, .int 2, .int vv])), (a1, .inl (cI, 20, .inl fa))] := hD
  obtain rfl : r_3 = 2 := w_2
  refine lv_istore (lv' := [(5, .int 2), (0, .ref aa), (1, .int 0), (2, .int 1), (3, .int xx), (4, .int 2)]) hx hb dX0_ask_5 hl (by decide) rfl (fun ls hl => ?_)
  refine lv_iload hx hb dX0_ask_7 (lv_at hl 0 rfl) ?_
  refine lv_if_eq (tgt := 19) hx hb dX0_ask_9 (by decide) (fun c_0 => absurd c_0 (by decide)) (fun _ => ?_)
  refine lv_iload hx hb dX0_ask_12 (lv_at hl 5 rfl) ?_
  refine lv_bipush (v := 40) hx hb dX0_ask_14 (by decide) ?_
  refine lv_icmp_le (tgt := 21) hx hb dX0_ask_16 (by decide) (fun _ => ?_) (fun c_0 => absurd (by decide) c_0)
  refine lv_aload_n hx hb dX0_ask_21 rfl (lv_at hl 1 rfl) ?_
  refine lv_iload hx hb dX0_ask_22 (lv_at hl 0 rfl) ?_
  refine contV (wc := [(aa, .inr (0, [.ref a1, .int 2, .int sl, .int 2, .int vv])), (a1, .inl (cI, 20, .inl fa))]) (wr := []) C0 hP hD hS [0, 1] [] rfl rfl (by decide) (by decide) 0 0 (Nat.le_of_ble_eq_true rfl) (Nat.le_of_ble_eq_true rfl) (runV (k := 1) (As := [.int 2]) (rest := []) C0 (c_begin_2 l D cI cZ cQ cT _ aa 2 a1 sl 2 vv fa) wc_X0_begin wl_X0_52 wi_X0_begin we_X0_begin wz_X0 ⟨by decide, by decide, by decide +kernel⟩ ⟨(Nat.le_of_ble_eq_true rfl), (Nat.le_of_ble_eq_true rfl)⟩ hP hD hS EF.ok hX [0, 1] rfl (by decide) 0 rfl rfl rfl rfl hl.1 rfl (Nat.le_of_ble_eq_true rfl) dX0_ask_24 ⟨(Nat.le_of_ble_eq_true rfl), (Nat.le_of_ble_eq_true rfl)⟩) (fun u_4 H locs w_5 hP hD hS => ?_)
  have hP : va_P D CL [(aa, .inr (0, [.ref a1, .int 3, .int sl, .int 2, .int vv])), (a1, .inl (cI, 20, .inl (upd fa 2 (2 : Int32))))] H := hP
  have hD : va_D A [(aa, .inr (0, [.ref a1, .int 3, .int sl, .int 2, .int vv])), (a1, .inl (cI, 20, .inl (upd fa 2 (2 : Int32))))] := hD
  refine lv_iload hx hb dX0_ask_27 (lv_at hl 5 rfl) ?_
  refine lv_iconst (v := 1) hx hb dX0_ask_29 (by decide) ?_
  refine lv_iadd hx hb dX0_ask_30 ?_
  refine lv_ci 3 (by decide +kernel) ?_
  refine lv_istore (lv' := [(6, .int 3), (5, .int 2), (0, .ref aa), (1, .int 0), (2, .int 1), (3, .int xx), (4, .int 2)]) hx hb dX0_ask_31 hl (by decide) rfl (fun ls hl => ?_)
  refine lv_iload hx hb dX0_ask_33 (lv_at hl 1 rfl) ?_
  refine lv_lookup (off := 88) (tgt := 123) hx hb dX0_ask_35 (by decide) (by decide) (by decide) ?_
  refine lv_aload_n hx hb dX0_ask_123 rfl (lv_at hl 2 rfl) ?_
  refine lv_aload_n hx hb dX0_ask_124 rfl (lv_at hl 2 rfl) ?_
  refine va_get (ci := 0) (v := .int 2) (C := RX0) (T := TX0) (N := 5) hx hb hT wu_X0 hown hK hP 0 rfl rfl 3 (by decide) (hT _ wf_X0_31) (fun _ h9 => h9) rfl dX0_ask_125 ?_
  refine lv_iconst (v := 0) hx hb dX0_ask_128 (by decide) ?_
  refine lv_iload_n hx hb dX0_ask_129 rfl (lv_at hl 5 rfl) ?_
  refine lv_iload hx hb dX0_ask_130 (lv_at hl 0 rfl) ?_
  refine contI (wc := [(aa, .inr (0, [.ref a1, .int 3, .int sl, .int 2, .int vv])), (a1, .inl (cI, 20, .inl (upd fa 2 (2 : Int32))))]) (wr := []) C0 hP hD hS [0, 1] [] rfl rfl (by decide) (by decide) 0 0 (Nat.le_of_ble_eq_true rfl) (Nat.le_of_ble_eq_true rfl) (runV (k := 4) (As := [.int 2, .int 0, .int xx, .int 3]) (rest := []) C0 (c_ask_2_2_0_3_3 l D cI cZ cQ cT _ aa xx a1 sl vv (upd fa 2 (2 : Int32))) wc_X0_ask wl_X0_38 wi_X0_ask we_X0_ask wz_X0 ⟨by decide, by decide, by decide +kernel⟩ ⟨(Nat.le_of_ble_eq_true rfl), (Nat.le_of_ble_eq_true rfl)⟩ hP hD hS EF.ok hX [0, 1] rfl (by decide) 0 rfl rfl rfl rfl hl.1 rfl (Nat.le_of_ble_eq_true rfl) dX0_ask_132 ⟨(Nat.le_of_ble_eq_true rfl), (Nat.le_of_ble_eq_true rfl)⟩) (fun r_9 u_7 H locs w_8 hP hD hS => ?_)
  have hP : va_P D CL [(aa, .inr (0, [.ref a1, .int 4, .int sl, .int 2, .int vv])), (a1, .inl (cI, 20, .inl (upd (upd fa 2 (2 : Int32)) 3 1)))] H := hP
  have hD : va_D A [(aa, .inr (0, [.ref a1, .int 4, .int sl, .int 2, .int vv])), (a1, .inl (cI, 20, .inl (upd (upd fa 2 (2 : Int32)) 3 1)))] := hD
  obtain rfl : r_9 = (xx + sl) := w_8
  refine lv_aload_n hx hb dX0_ask_135 rfl (lv_at hl 2 rfl) ?_
  refine va_get (ci := 0) (v := .int vv) (C := RX0) (T := TX0) (N := 5) hx hb hT wu_X0 hown hK hP 0 rfl rfl 4 (by decide) (hT _ wf_X0_36) (fun _ h9 => h9) rfl dX0_ask_136 ?_
  refine lv_isub hx hb dX0_ask_139 ?_
  exact retI C0 rfl () rfl (hP.sub (ws' := [(aa, .inr (0, [.ref a1, .int 4, .int sl, .int 2, .int vv])), (a1, .inl (cI, 20, .inl (upd (upd fa 2 2) 3 1)))]) [0, 1] rfl) (hD.sub (ws' := [(aa, .inr (0, [.ref a1, .int 4, .int sl, .int 2, .int vv])), (a1, .inl (cI, 20, .inl (upd (upd fa 2 2) 3 1)))]) [0, 1] (by decide) rfl) hS (Nat.le_of_ble_eq_true rfl) (Nat.le_of_ble_eq_true rfl) dX0_ask_140

set_option maxHeartbeats 4000000 in
set_option maxRecDepth 100000 in
theorem c_ask_2_2_1_1_1 (l : Launch) (D : va_G) (cI cZ cQ cT : ClassId) (sz : Nat) (aa : Nat) (xx : Int32) (a1 : Nat) (sl : Int32) (vv : Int32) (fa : Nat → Int32)  : MetI l yX0_ask cX0_ask 7 .int ({ frames := 3, cells := 0, slots := 0, locals := 76 } : Room) [.ref aa, .int 2, .int 1, .int xx, .int 1] D (TYS cI cZ cQ cT) EF sz [(aa, .inr (0, [.ref a1, .int 1, .int sl, .int 2, .int vv])), (a1, .inl (cI, 20, .inl fa))] (S := Unit) (fun (r : Int32) (_ : Unit) => r = (-((xx + sl) - vv))) (fun _ => [(aa, .inr (0, [.ref a1, .int 4, .int sl, .int 2, .int vv])), (a1, .inl (cI, 20, .inl (upd (upd (upd fa 1 21) 2 2) 3 1)))]) := by
  refine MetI.mk (lv := [(0, .ref aa), (1, .int 2), (2, .int 1), (3, .int xx), (4, .int 1)]) (by decide +kernel) (Nat.le_of_ble_eq_true rfl) rfl ?_
  intro p e s m below meth c A ls C0 hP hD hS hX hl
  have C1 := C0
  obtain ⟨hx, hb, hr, hml, hown, hlocks, hname, hT, hN, hK, hA⟩ := C1
  refine lv_iload_n hx hb dX0_ask_0 rfl (lv_at hl 1 rfl) ?_
  refine lv_iload_n hx hb dX0_ask_1 rfl (lv_at hl 2 rfl) ?_
  refine contI (wc := []) (wr := [(aa, .inr (0, [.ref a1, .int 1, .int sl, .int 2, .int vv])), (a1, .inl (cI, 20, .inl fa))]) C0 hP hD hS [] [0, 1] rfl rfl (by decide) (by decide) 0 0 (Nat.le_of_ble_eq_true rfl) (Nat.le_of_ble_eq_true rfl) (runS (k := 2) (As := [.int 2, .int 1]) (rest := []) C0 (c_bodyOf_2_1 l D cI cZ cQ cT _ ) wc_X0_bodyOf wl_X0_48 wt_X0_bodyOf wz_X0 ⟨by decide, by decide, by decide +kernel⟩ ⟨(Nat.le_of_ble_eq_true rfl), (Nat.le_of_ble_eq_true rfl)⟩ hP hD hS EF.ok hX [] rfl (by decide) rfl hl.1 rfl (Nat.le_of_ble_eq_true rfl) dX0_ask_2 ⟨(Nat.le_of_ble_eq_true rfl), (Nat.le_of_ble_eq_true rfl)⟩) (fun r_3 u_1 H locs w_2 hP hD hS => ?_)
  have hP : va_P D CL [(aa, .inr (0, [.ref a1, .int 1, .int sl, .int 2, .int vv])), (a1, .inl (cI, 20, .inl fa))] H := hP
  have hD : va_D A [(aa, .inr (0, [.ref a1, .int 1, .int sl, .int 2, .int vv])), (a1, .inl (cI, 20, .inl fa))] := hD
  obtain rfl : r_3 = 21 := w_2
  refine lv_istore (lv' := [(5, .int 21), (0, .ref aa), (1, .int 2), (2, .int 1), (3, .int xx), (4, .int 1)]) hx hb dX0_ask_5 hl (by decide) rfl (fun ls hl => ?_)
  refine lv_iload hx hb dX0_ask_7 (lv_at hl 0 rfl) ?_
  refine lv_if_eq (tgt := 19) hx hb dX0_ask_9 (by decide) (fun c_0 => absurd c_0 (by decide)) (fun _ => ?_)
  refine lv_iload hx hb dX0_ask_12 (lv_at hl 5 rfl) ?_
  refine lv_bipush (v := 40) hx hb dX0_ask_14 (by decide) ?_
  refine lv_icmp_le (tgt := 21) hx hb dX0_ask_16 (by decide) (fun _ => ?_) (fun c_0 => absurd (by decide) c_0)
  refine lv_aload_n hx hb dX0_ask_21 rfl (lv_at hl 1 rfl) ?_
  refine lv_iload hx hb dX0_ask_22 (lv_at hl 0 rfl) ?_
  refine contV (wc := [(aa, .inr (0, [.ref a1, .int 1, .int sl, .int 2, .int vv])), (a1, .inl (cI, 20, .inl fa))]) (wr := []) C0 hP hD hS [0, 1] [] rfl rfl (by decide) (by decide) 0 0 (Nat.le_of_ble_eq_true rfl) (Nat.le_of_ble_eq_true rfl) (runV (k := 1) (As := [.int 21]) (rest := []) C0 (c_begin_1 l D cI cZ cQ cT _ aa 21 a1 sl 2 vv fa) wc_X0_begin wl_X0_52 wi_X0_begin we_X0_begin wz_X0 ⟨by decide, by decide, by decide +kernel⟩ ⟨(Nat.le_of_ble_eq_true rfl), (Nat.le_of_ble_eq_true rfl)⟩ hP hD hS EF.ok hX [0, 1] rfl (by decide) 0 rfl rfl rfl rfl hl.1 rfl (Nat.le_of_ble_eq_true rfl) dX0_ask_24 ⟨(Nat.le_of_ble_eq_true rfl), (Nat.le_of_ble_eq_true rfl)⟩) (fun u_4 H locs w_5 hP hD hS => ?_)
  have hP : va_P D CL [(aa, .inr (0, [.ref a1, .int 2, .int sl, .int 2, .int vv])), (a1, .inl (cI, 20, .inl (upd fa 1 (21 : Int32))))] H := hP
  have hD : va_D A [(aa, .inr (0, [.ref a1, .int 2, .int sl, .int 2, .int vv])), (a1, .inl (cI, 20, .inl (upd fa 1 (21 : Int32))))] := hD
  refine lv_iload hx hb dX0_ask_27 (lv_at hl 5 rfl) ?_
  refine lv_iconst (v := 1) hx hb dX0_ask_29 (by decide) ?_
  refine lv_iadd hx hb dX0_ask_30 ?_
  refine lv_ci 2 (by decide +kernel) ?_
  refine lv_istore (lv' := [(6, .int 2), (5, .int 21), (0, .ref aa), (1, .int 2), (2, .int 1), (3, .int xx), (4, .int 1)]) hx hb dX0_ask_31 hl (by decide) rfl (fun ls hl => ?_)
  refine lv_iload hx hb dX0_ask_33 (lv_at hl 1 rfl) ?_
  refine lv_lookup (off := 133) (tgt := 168) hx hb dX0_ask_35 (by decide) (by decide) (by decide) ?_
  refine lv_aload_n hx hb dX0_ask_168 rfl (lv_at hl 2 rfl) ?_
  refine lv_iconst (v := 0) hx hb dX0_ask_169 (by decide) ?_
  refine lv_iconst (v := 1) hx hb dX0_ask_170 (by decide) ?_
  refine lv_iload_n hx hb dX0_ask_171 rfl (lv_at hl 5 rfl) ?_
  refine lv_iload hx hb dX0_ask_172 (lv_at hl 0 rfl) ?_
  refine contI (wc := [(aa, .inr (0, [.ref a1, .int 2, .int sl, .int 2, .int vv])), (a1, .inl (cI, 20, .inl (upd fa 1 (21 : Int32))))]) (wr := []) C0 hP hD hS [0, 1] [] rfl rfl (by decide) (by decide) 0 0 (Nat.le_of_ble_eq_true rfl) (Nat.le_of_ble_eq_true rfl) (runV (k := 4) (As := [.int 0, .int 1, .int xx, .int 2]) (rest := []) C0 (c_ask_2_0_1_2_2 l D cI cZ cQ cT _ aa xx a1 sl vv (upd fa 1 (21 : Int32))) wc_X0_ask wl_X0_38 wi_X0_ask we_X0_ask wz_X0 ⟨by decide, by decide, by decide +kernel⟩ ⟨(Nat.le_of_ble_eq_true rfl), (Nat.le_of_ble_eq_true rfl)⟩ hP hD hS EF.ok hX [0, 1] rfl (by decide) 0 rfl rfl rfl rfl hl.1 rfl (Nat.le_of_ble_eq_true rfl) dX0_ask_174 ⟨(Nat.le_of_ble_eq_true rfl), (Nat.le_of_ble_eq_true rfl)⟩) (fun r_9 u_7 H locs w_8 hP hD hS => ?_)
  have hP : va_P D CL [(aa, .inr (0, [.ref a1, .int 4, .int sl, .int 2, .int vv])), (a1, .inl (cI, 20, .inl (upd (upd (upd fa 1 (21 : Int32)) 2 2) 3 1)))] H := hP
  have hD : va_D A [(aa, .inr (0, [.ref a1, .int 4, .int sl, .int 2, .int vv])), (a1, .inl (cI, 20, .inl (upd (upd (upd fa 1 (21 : Int32)) 2 2) 3 1)))] := hD
  obtain rfl : r_9 = ((xx + sl) - vv) := w_8
  refine lv_ineg hx hb dX0_ask_177 ?_
  exact retI C0 rfl () rfl (hP.sub (ws' := [(aa, .inr (0, [.ref a1, .int 4, .int sl, .int 2, .int vv])), (a1, .inl (cI, 20, .inl (upd (upd (upd fa 1 21) 2 2) 3 1)))]) [0, 1] rfl) (hD.sub (ws' := [(aa, .inr (0, [.ref a1, .int 4, .int sl, .int 2, .int vv])), (a1, .inl (cI, 20, .inl (upd (upd (upd fa 1 21) 2 2) 3 1)))]) [0, 1] (by decide) rfl) hS (Nat.le_of_ble_eq_true rfl) (Nat.le_of_ble_eq_true rfl) dX0_ask_178

set_option maxHeartbeats 4000000 in
set_option maxRecDepth 100000 in
theorem c_ask_2_2_2_0_0 (l : Launch) (D : va_G) (cI cZ cQ cT : ClassId) (sz : Nat) (aa : Nat) (xx : Int32) (a1 : Nat) (sl : Int32) (vv : Int32) (fa : Nat → Int32)  : MetI l yX0_ask cX0_ask 7 .int ({ frames := 4, cells := 0, slots := 0, locals := 102 } : Room) [.ref aa, .int 2, .int 2, .int xx, .int 0] D (TYS cI cZ cQ cT) EF sz [(aa, .inr (0, [.ref a1, .int 0, .int sl, .int 2, .int vv])), (a1, .inl (cI, 20, .inl fa))] (S := Unit) (fun (r : Int32) (_ : Unit) => r = ((-((xx + sl) - vv)) * (2 : Int32))) (fun _ => [(aa, .inr (0, [.ref a1, .int 4, .int sl, .int 2, .int vv])), (a1, .inl (cI, 20, .inl (upd (upd (upd (upd fa 0 3) 1 21) 2 2) 3 1)))]) := by
  refine MetI.mk (lv := [(0, .ref aa), (1, .int 2), (2, .int 2), (3, .int xx), (4, .int 0)]) (by decide +kernel) (Nat.le_of_ble_eq_true rfl) rfl ?_
  intro p e s m below meth c A ls C0 hP hD hS hX hl
  have C1 := C0
  obtain ⟨hx, hb, hr, hml, hown, hlocks, hname, hT, hN, hK, hA⟩ := C1
  refine lv_iload_n hx hb dX0_ask_0 rfl (lv_at hl 1 rfl) ?_
  refine lv_iload_n hx hb dX0_ask_1 rfl (lv_at hl 2 rfl) ?_
  refine contI (wc := []) (wr := [(aa, .inr (0, [.ref a1, .int 0, .int sl, .int 2, .int vv])), (a1, .inl (cI, 20, .inl fa))]) C0 hP hD hS [] [0, 1] rfl rfl (by decide) (by decide) 0 0 (Nat.le_of_ble_eq_true rfl) (Nat.le_of_ble_eq_true rfl) (runS (k := 2) (As := [.int 2, .int 2]) (rest := []) C0 (c_bodyOf_2_2 l D cI cZ cQ cT _ ) wc_X0_bodyOf wl_X0_48 wt_X0_bodyOf wz_X0 ⟨by decide, by decide, by decide +kernel⟩ ⟨(Nat.le_of_ble_eq_true rfl), (Nat.le_of_ble_eq_true rfl)⟩ hP hD hS EF.ok hX [] rfl (by decide) rfl hl.1 rfl (Nat.le_of_ble_eq_true rfl) dX0_ask_2 ⟨(Nat.le_of_ble_eq_true rfl), (Nat.le_of_ble_eq_true rfl)⟩) (fun r_3 u_1 H locs w_2 hP hD hS => ?_)
  have hP : va_P D CL [(aa, .inr (0, [.ref a1, .int 0, .int sl, .int 2, .int vv])), (a1, .inl (cI, 20, .inl fa))] H := hP
  have hD : va_D A [(aa, .inr (0, [.ref a1, .int 0, .int sl, .int 2, .int vv])), (a1, .inl (cI, 20, .inl fa))] := hD
  obtain rfl : r_3 = 3 := w_2
  refine lv_istore (lv' := [(5, .int 3), (0, .ref aa), (1, .int 2), (2, .int 2), (3, .int xx), (4, .int 0)]) hx hb dX0_ask_5 hl (by decide) rfl (fun ls hl => ?_)
  refine lv_iload hx hb dX0_ask_7 (lv_at hl 0 rfl) ?_
  refine lv_if_eq (tgt := 19) hx hb dX0_ask_9 (by decide) (fun c_0 => absurd c_0 (by decide)) (fun _ => ?_)
  refine lv_iload hx hb dX0_ask_12 (lv_at hl 5 rfl) ?_
  refine lv_bipush (v := 40) hx hb dX0_ask_14 (by decide) ?_
  refine lv_icmp_le (tgt := 21) hx hb dX0_ask_16 (by decide) (fun _ => ?_) (fun c_0 => absurd (by decide) c_0)
  refine lv_aload_n hx hb dX0_ask_21 rfl (lv_at hl 1 rfl) ?_
  refine lv_iload hx hb dX0_ask_22 (lv_at hl 0 rfl) ?_
  refine contV (wc := [(aa, .inr (0, [.ref a1, .int 0, .int sl, .int 2, .int vv])), (a1, .inl (cI, 20, .inl fa))]) (wr := []) C0 hP hD hS [0, 1] [] rfl rfl (by decide) (by decide) 0 0 (Nat.le_of_ble_eq_true rfl) (Nat.le_of_ble_eq_true rfl) (runV (k := 1) (As := [.int 3]) (rest := []) C0 (c_begin_0 l D cI cZ cQ cT _ aa 3 a1 sl 2 vv fa) wc_X0_begin wl_X0_52 wi_X0_begin we_X0_begin wz_X0 ⟨by decide, by decide, by decide +kernel⟩ ⟨(Nat.le_of_ble_eq_true rfl), (Nat.le_of_ble_eq_true rfl)⟩ hP hD hS EF.ok hX [0, 1] rfl (by decide) 0 rfl rfl rfl rfl hl.1 rfl (Nat.le_of_ble_eq_true rfl) dX0_ask_24 ⟨(Nat.le_of_ble_eq_true rfl), (Nat.le_of_ble_eq_true rfl)⟩) (fun u_4 H locs w_5 hP hD hS => ?_)
  have hP : va_P D CL [(aa, .inr (0, [.ref a1, .int 1, .int sl, .int 2, .int vv])), (a1, .inl (cI, 20, .inl (upd fa 0 (3 : Int32))))] H := hP
  have hD : va_D A [(aa, .inr (0, [.ref a1, .int 1, .int sl, .int 2, .int vv])), (a1, .inl (cI, 20, .inl (upd fa 0 (3 : Int32))))] := hD
  refine lv_iload hx hb dX0_ask_27 (lv_at hl 5 rfl) ?_
  refine lv_iconst (v := 1) hx hb dX0_ask_29 (by decide) ?_
  refine lv_iadd hx hb dX0_ask_30 ?_
  refine lv_ci 1 (by decide +kernel) ?_
  refine lv_istore (lv' := [(6, .int 1), (5, .int 3), (0, .ref aa), (1, .int 2), (2, .int 2), (3, .int xx), (4, .int 0)]) hx hb dX0_ask_31 hl (by decide) rfl (fun ls hl => ?_)
  refine lv_iload hx hb dX0_ask_33 (lv_at hl 1 rfl) ?_
  refine lv_lookup (off := 106) (tgt := 141) hx hb dX0_ask_35 (by decide) (by decide) (by decide) ?_
  refine lv_aload_n hx hb dX0_ask_141 rfl (lv_at hl 2 rfl) ?_
  refine lv_aload_n hx hb dX0_ask_142 rfl (lv_at hl 2 rfl) ?_
  refine va_get (ci := 0) (v := .int 2) (C := RX0) (T := TX0) (N := 5) hx hb hT wu_X0 hown hK hP 0 rfl rfl 3 (by decide) (hT _ wf_X0_31) (fun _ h9 => h9) rfl dX0_ask_143 ?_
  refine lv_iconst (v := 1) hx hb dX0_ask_146 (by decide) ?_
  refine lv_iload_n hx hb dX0_ask_147 rfl (lv_at hl 5 rfl) ?_
  refine lv_iload hx hb dX0_ask_148 (lv_at hl 0 rfl) ?_
  refine contI (wc := [(aa, .inr (0, [.ref a1, .int 1, .int sl, .int 2, .int vv])), (a1, .inl (cI, 20, .inl (upd fa 0 (3 : Int32))))]) (wr := []) C0 hP hD hS [0, 1] [] rfl rfl (by decide) (by decide) 0 0 (Nat.le_of_ble_eq_true rfl) (Nat.le_of_ble_eq_true rfl) (runV (k := 4) (As := [.int 2, .int 1, .int xx, .int 1]) (rest := []) C0 (c_ask_2_2_1_1_1 l D cI cZ cQ cT _ aa xx a1 sl vv (upd fa 0 (3 : Int32))) wc_X0_ask wl_X0_38 wi_X0_ask we_X0_ask wz_X0 ⟨by decide, by decide, by decide +kernel⟩ ⟨(Nat.le_of_ble_eq_true rfl), (Nat.le_of_ble_eq_true rfl)⟩ hP hD hS EF.ok hX [0, 1] rfl (by decide) 0 rfl rfl rfl rfl hl.1 rfl (Nat.le_of_ble_eq_true rfl) dX0_ask_150 ⟨(Nat.le_of_ble_eq_true rfl), (Nat.le_of_ble_eq_true rfl)⟩) (fun r_9 u_7 H locs w_8 hP hD hS => ?_)
  have hP : va_P D CL [(aa, .inr (0, [.ref a1, .int 4, .int sl, .int 2, .int vv])), (a1, .inl (cI, 20, .inl (upd (upd (upd (upd fa 0 (3 : Int32)) 1 21) 2 2) 3 1)))] H := hP
  have hD : va_D A [(aa, .inr (0, [.ref a1, .int 4, .int sl, .int 2, .int vv])), (a1, .inl (cI, 20, .inl (upd (upd (upd (upd fa 0 (3 : Int32)) 1 21) 2 2) 3 1)))] := hD
  obtain rfl : r_9 = (-((xx + sl) - vv)) := w_8
  refine lv_iconst (v := 2) hx hb dX0_ask_153 (by decide) ?_
  refine lv_imul hx hb dX0_ask_154 ?_
  exact retI C0 rfl () rfl (hP.sub (ws' := [(aa, .inr (0, [.ref a1, .int 4, .int sl, .int 2, .int vv])), (a1, .inl (cI, 20, .inl (upd (upd (upd (upd fa 0 3) 1 21) 2 2) 3 1)))]) [0, 1] rfl) (hD.sub (ws' := [(aa, .inr (0, [.ref a1, .int 4, .int sl, .int 2, .int vv])), (a1, .inl (cI, 20, .inl (upd (upd (upd (upd fa 0 3) 1 21) 2 2) 3 1)))]) [0, 1] (by decide) rfl) hS (Nat.le_of_ble_eq_true rfl) (Nat.le_of_ble_eq_true rfl) dX0_ask_155

set_option maxHeartbeats 4000000 in
set_option maxRecDepth 100000 in
theorem c_bodyOf_3_2 (l : Launch) (D : va_G) (cI cZ cQ cT : ClassId) (sz : Nat)   : MetI l yX0_bodyOf cX0_bodyOf 5 .int ({ frames := 0, cells := 0, slots := 0, locals := 0 } : Room) [.int 3, .int 2] D (TYS cI cZ cQ cT) EF sz [] (S := Unit) (fun (r : Int32) (_ : Unit) => r = 31) (fun _ => []) := by
  refine MetI.mk (lv := [(0, .int 3), (1, .int 2)]) (by decide +kernel) (Nat.le_of_ble_eq_true rfl) rfl ?_
  intro p e s m below meth c A ls C0 hP hD hS hX hl
  have C1 := C0
  obtain ⟨hx, hb, hr, hml, hown, hlocks, hname, hT, hN, hK, hA⟩ := C1
  obtain ⟨kab, hkz, hkT⟩ := hX.2.1
  obtain ⟨bdy, hbz, hbT⟩ := hX.2.2.1
  refine lv_iload_n hx hb dX0_bodyOf_0 rfl (lv_at hl 0 rfl) ?_
  refine lv_istore_n (lv' := [(2, .int 3), (0, .int 3), (1, .int 2)]) hx hb dX0_bodyOf_1 rfl hl (by decide) rfl (fun ls hl => ?_)
  refine lv_iconst (v := 0) hx hb dX0_bodyOf_2 (by decide) ?_
  refine lv_istore_n (lv' := [(3, .int 0), (2, .int 3), (0, .int 3), (1, .int 2)]) hx hb dX0_bodyOf_3 rfl hl (by decide) rfl (fun ls hl => ?_)
  refine lv_iload_n hx hb dX0_bodyOf_4 rfl (lv_at hl 0 rfl) ?_
  refine lv_bipush (v := 7) hx hb dX0_bodyOf_5 (by decide) ?_
  refine lv_icmp_ge (tgt := 69) hx hb dX0_bodyOf_7 (by decide) (fun c_0 => absurd c_0 (by decide)) (fun _ => ?_)
  refine lv_iload_n hx hb dX0_bodyOf_10 rfl (lv_at hl 1 rfl) ?_
  refine lv_if_lt (tgt := 69) hx hb dX0_bodyOf_11 (by decide) (fun c_0 => absurd c_0 (by decide)) (fun _ => ?_)
  refine lv_iload_n hx hb dX0_bodyOf_14 rfl (lv_at hl 1 rfl) ?_
  refine lv_bipush (v := 7) hx hb dX0_bodyOf_15 (by decide) ?_
  refine lv_icmp_ge (tgt := 69) hx hb dX0_bodyOf_17 (by decide) (fun c_0 => absurd c_0 (by decide)) (fun _ => ?_)
  refine lv_iload_n hx hb dX0_bodyOf_20 rfl (lv_at hl 1 rfl) ?_
  refine lv_iconst (v := 3) hx hb dX0_bodyOf_21 (by decide) ?_
  refine lv_imul hx hb dX0_bodyOf_22 ?_
  refine lv_ci 9 (by decide +kernel) ?_
  refine lv_iload_n hx hb dX0_bodyOf_23 rfl (lv_at hl 3 rfl) ?_
  refine lv_iadd hx hb dX0_bodyOf_24 ?_
  refine lv_ci 11 (by decide +kernel) ?_
  refine lv_istore (lv' := [(4, .int 11), (3, .int 0), (2, .int 3), (0, .int 3), (1, .int 2)]) hx hb dX0_bodyOf_25 hl (by decide) rfl (fun ls hl => ?_)
  refine lv_iload hx hb dX0_bodyOf_27 (lv_at hl 0 rfl) ?_
  refine lv_if_lt (tgt := 57) hx hb dX0_bodyOf_29 (by decide) (fun c_0 => absurd c_0 (by decide)) (fun _ => ?_)
  refine lv_iload hx hb dX0_bodyOf_32 (lv_at hl 0 rfl) ?_
  refine va_gets hx hb hbz hS hown (hT _ wf_X0_42) (fun _ h9 => h9) dX0_bodyOf_34 ?_
  refine va_tlen hx hb hbT hS (v := 21) rfl dX0_bodyOf_37 ?_
  refine lv_icmp_ge (tgt := 57) hx hb dX0_bodyOf_38 (by decide) (fun c_0 => absurd c_0 (by decide)) (fun _ => ?_)
  refine va_gets hx hb hbz hS hown (hT _ wf_X0_42) (fun _ h9 => h9) dX0_bodyOf_41 ?_
  refine lv_iload hx hb dX0_bodyOf_44 (lv_at hl 0 rfl) ?_
  refine va_ti hx hb hbT hS (vin _ _ (by decide +kernel)) (v := .int 31) rfl dX0_bodyOf_46 ?_
  refine lv_if_eq (tgt := 57) hx hb dX0_bodyOf_47 (by decide) (fun c_0 => absurd c_0 (by decide)) (fun _ => ?_)
  refine va_gets hx hb hbz hS hown (hT _ wf_X0_42) (fun _ h9 => h9) dX0_bodyOf_50 ?_
  refine lv_iload hx hb dX0_bodyOf_53 (lv_at hl 0 rfl) ?_
  refine va_ti hx hb hbT hS (vin _ _ (by decide +kernel)) (v := .int 31) rfl dX0_bodyOf_55 ?_
  exact retI C0 rfl () rfl (hP.sub (ws' := []) [] rfl) (hD.sub (ws' := []) [] (by decide) rfl) hS (Nat.le_of_ble_eq_true rfl) (Nat.le_of_ble_eq_true rfl) dX0_bodyOf_56

set_option maxHeartbeats 4000000 in
set_option maxRecDepth 100000 in
theorem c_ask_3_3_0_3_3 (l : Launch) (D : va_G) (cI cZ cQ cT : ClassId) (sz : Nat) (aa : Nat) (xx : Int32) (a1 : Nat) (sl : Int32) (vv : Int32) (fa : Nat → Int32)  : MetI l yX0_ask cX0_ask 7 .int ({ frames := 1, cells := 0, slots := 0, locals := 24 } : Room) [.ref aa, .int 3, .int 0, .int xx, .int 3] D (TYS cI cZ cQ cT) EF sz [(aa, .inr (0, [.ref a1, .int 3, .int sl, .int 3, .int vv])), (a1, .inl (cI, 20, .inl fa))] (S := Unit) (fun (r : Int32) (_ : Unit) => r = (xx + sl)) (fun _ => [(aa, .inr (0, [.ref a1, .int 4, .int sl, .int 3, .int vv])), (a1, .inl (cI, 20, .inl (upd fa 3 1)))]) := by
  refine MetI.mk (lv := [(0, .ref aa), (1, .int 3), (2, .int 0), (3, .int xx), (4, .int 3)]) (by decide +kernel) (Nat.le_of_ble_eq_true rfl) rfl ?_
  intro p e s m below meth c A ls C0 hP hD hS hX hl
  have C1 := C0
  obtain ⟨hx, hb, hr, hml, hown, hlocks, hname, hT, hN, hK, hA⟩ := C1
  refine lv_iload_n hx hb dX0_ask_0 rfl (lv_at hl 1 rfl) ?_
  refine lv_iload_n hx hb dX0_ask_1 rfl (lv_at hl 2 rfl) ?_
  refine contI (wc := []) (wr := [(aa, .inr (0, [.ref a1, .int 3, .int sl, .int 3, .int vv])), (a1, .inl (cI, 20, .inl fa))]) C0 hP hD hS [] [0, 1] rfl rfl (by decide) (by decide) 0 0 (Nat.le_of_ble_eq_true rfl) (Nat.le_of_ble_eq_true rfl) (runS (k := 2) (As := [.int 3, .int 0]) (rest := []) C0 (c_bodyOf_3_0 l D cI cZ cQ cT _ ) wc_X0_bodyOf wl_X0_48 wt_X0_bodyOf wz_X0 ⟨by decide, by decide, by decide +kernel⟩ ⟨(Nat.le_of_ble_eq_true rfl), (Nat.le_of_ble_eq_true rfl)⟩ hP hD hS EF.ok hX [] rfl (by decide) rfl hl.1 rfl (Nat.le_of_ble_eq_true rfl) dX0_ask_2 ⟨(Nat.le_of_ble_eq_true rfl), (Nat.le_of_ble_eq_true rfl)⟩) (fun r_3 u_1 H locs w_2 hP hD hS => ?_)
  have hP : va_P D CL [(aa, .inr (0, [.ref a1, .int 3, .int sl, .int 3, .int vv])), (a1, .inl (cI, 20, .inl fa))] H := hP
  have hD : va_D A [(aa, .inr (0, [.ref a1, .int 3, .int sl, .int 3, .int vv])), (a1, .inl (cI, 20, .inl fa))] := hD
  obtain rfl : r_3 = 1 := w_2
  refine lv_istore (lv' := [(5, .int 1), (0, .ref aa), (1, .int 3), (2, .int 0), (3, .int xx), (4, .int 3)]) hx hb dX0_ask_5 hl (by decide) rfl (fun ls hl => ?_)
  refine lv_iload hx hb dX0_ask_7 (lv_at hl 0 rfl) ?_
  refine lv_if_eq (tgt := 19) hx hb dX0_ask_9 (by decide) (fun c_0 => absurd c_0 (by decide)) (fun _ => ?_)
  refine lv_iload hx hb dX0_ask_12 (lv_at hl 5 rfl) ?_
  refine lv_bipush (v := 40) hx hb dX0_ask_14 (by decide) ?_
  refine lv_icmp_le (tgt := 21) hx hb dX0_ask_16 (by decide) (fun _ => ?_) (fun c_0 => absurd (by decide) c_0)
  refine lv_aload_n hx hb dX0_ask_21 rfl (lv_at hl 1 rfl) ?_
  refine lv_iload hx hb dX0_ask_22 (lv_at hl 0 rfl) ?_
  refine contV (wc := [(aa, .inr (0, [.ref a1, .int 3, .int sl, .int 3, .int vv])), (a1, .inl (cI, 20, .inl fa))]) (wr := []) C0 hP hD hS [0, 1] [] rfl rfl (by decide) (by decide) 0 0 (Nat.le_of_ble_eq_true rfl) (Nat.le_of_ble_eq_true rfl) (runV (k := 1) (As := [.int 1]) (rest := []) C0 (c_begin_3 l D cI cZ cQ cT _ aa 1 a1 sl 3 vv fa) wc_X0_begin wl_X0_52 wi_X0_begin we_X0_begin wz_X0 ⟨by decide, by decide, by decide +kernel⟩ ⟨(Nat.le_of_ble_eq_true rfl), (Nat.le_of_ble_eq_true rfl)⟩ hP hD hS EF.ok hX [0, 1] rfl (by decide) 0 rfl rfl rfl rfl hl.1 rfl (Nat.le_of_ble_eq_true rfl) dX0_ask_24 ⟨(Nat.le_of_ble_eq_true rfl), (Nat.le_of_ble_eq_true rfl)⟩) (fun u_4 H locs w_5 hP hD hS => ?_)
  have hP : va_P D CL [(aa, .inr (0, [.ref a1, .int 4, .int sl, .int 3, .int vv])), (a1, .inl (cI, 20, .inl (upd fa 3 (1 : Int32))))] H := hP
  have hD : va_D A [(aa, .inr (0, [.ref a1, .int 4, .int sl, .int 3, .int vv])), (a1, .inl (cI, 20, .inl (upd fa 3 (1 : Int32))))] := hD
  refine lv_iload hx hb dX0_ask_27 (lv_at hl 5 rfl) ?_
  refine lv_iconst (v := 1) hx hb dX0_ask_29 (by decide) ?_
  refine lv_iadd hx hb dX0_ask_30 ?_
  refine lv_ci 4 (by decide +kernel) ?_
  refine lv_istore (lv' := [(6, .int 4), (5, .int 1), (0, .ref aa), (1, .int 3), (2, .int 0), (3, .int xx), (4, .int 3)]) hx hb dX0_ask_31 hl (by decide) rfl (fun ls hl => ?_)
  refine lv_iload hx hb dX0_ask_33 (lv_at hl 1 rfl) ?_
  refine lv_lookup (off := 81) (tgt := 116) hx hb dX0_ask_35 (by decide) (by decide) (by decide) ?_
  refine lv_iload_n hx hb dX0_ask_116 rfl (lv_at hl 5 rfl) ?_
  refine lv_aload_n hx hb dX0_ask_117 rfl (lv_at hl 2 rfl) ?_
  refine va_get (ci := 0) (v := .int sl) (C := RX0) (T := TX0) (N := 5) hx hb hT wu_X0 hown hK hP 0 rfl rfl 2 (by decide) (hT _ wf_X0_25) (fun _ h9 => h9) rfl dX0_ask_118 ?_
  refine lv_iadd hx hb dX0_ask_121 ?_
  exact retI C0 rfl () rfl (hP.sub (ws' := [(aa, .inr (0, [.ref a1, .int 4, .int sl, .int 3, .int vv])), (a1, .inl (cI, 20, .inl (upd fa 3 1)))]) [0, 1] rfl) (hD.sub (ws' := [(aa, .inr (0, [.ref a1, .int 4, .int sl, .int 3, .int vv])), (a1, .inl (cI, 20, .inl (upd fa 3 1)))]) [0, 1] (by decide) rfl) hS (Nat.le_of_ble_eq_true rfl) (Nat.le_of_ble_eq_true rfl) dX0_ask_122

set_option maxHeartbeats 4000000 in
set_option maxRecDepth 100000 in
theorem c_ask_3_3_1_2_2 (l : Launch) (D : va_G) (cI cZ cQ cT : ClassId) (sz : Nat) (aa : Nat) (xx : Int32) (a1 : Nat) (sl : Int32) (vv : Int32) (fa : Nat → Int32)  : MetI l yX0_ask cX0_ask 7 .int ({ frames := 2, cells := 0, slots := 0, locals := 50 } : Room) [.ref aa, .int 3, .int 1, .int xx, .int 2] D (TYS cI cZ cQ cT) EF sz [(aa, .inr (0, [.ref a1, .int 2, .int sl, .int 3, .int vv])), (a1, .inl (cI, 20, .inl fa))] (S := Unit) (fun (r : Int32) (_ : Unit) => r = ((xx + sl) - vv)) (fun _ => [(aa, .inr (0, [.ref a1, .int 4, .int sl, .int 3, .int vv])), (a1, .inl (cI, 20, .inl (upd (upd fa 2 2) 3 1)))]) := by
  refine MetI.mk (lv := [(0, .ref aa), (1, .int 3), (2, .int 1), (3, .int xx), (4, .int 2)]) (by decide +kernel) (Nat.le_of_ble_eq_true rfl) rfl ?_
  intro p e s m below meth c A ls C0 hP hD hS hX hl
  have C1 := C0
  obtain ⟨hx, hb, hr, hml, hown, hlocks, hname, hT, hN, hK, hA⟩ := C1
  refine lv_iload_n hx hb dX0_ask_0 rfl (lv_at hl 1 rfl) ?_
  refine lv_iload_n hx hb dX0_ask_1 rfl (lv_at hl 2 rfl) ?_
  refine contI (wc := []) (wr := [(aa, .inr (0, [.ref a1, .int 2, .int sl, .int 3, .int vv])), (a1, .inl (cI, 20, .inl fa))]) C0 hP hD hS [] [0, 1] rfl rfl (by decide) (by decide) 0 0 (Nat.le_of_ble_eq_true rfl) (Nat.le_of_ble_eq_true rfl) (runS (k := 2) (As := [.int 3, .int 1]) (rest := []) C0 (c_bodyOf_3_1 l D cI cZ cQ cT _ ) wc_X0_bodyOf wl_X0_48 wt_X0_bodyOf wz_X0 ⟨by decide, by decide, by decide +kernel⟩ ⟨(Nat.le_of_ble_eq_true rfl), (Nat.le_of_ble_eq_true rfl)⟩ hP hD hS EF.ok hX [] rfl (by decide) rfl hl.1 rfl (Nat.le_of_ble_eq_true rfl) dX0_ask_2 ⟨(Nat.le_of_ble_eq_true rfl), (Nat.le_of_ble_eq_true rfl)⟩) (fun r_3 u_1 H locs w_2 hP hD hS => ?_)
  have hP : va_P D CL [(aa, .inr (0, [.ref a1, .int 2, .int sl, .int 3, .int vv])), (a1, .inl (cI, 20, .inl fa))] H := hP
  have hD : va_D A [(aa, .inr (0, [.ref a1, .int 2, .int sl, .int 3, .int vv])), (a1, .inl (cI, 20, .inl fa))] := hD
  obtain rfl : r_3 = 2 := w_2
  refine lv_istore (lv' := [(5, .int 2), (0, .ref aa), (1, .int 3), (2, .int 1), (3, .int xx), (4, .int 2)]) hx hb dX0_ask_5 hl (by decide) rfl (fun ls hl => ?_)
  refine lv_iload hx hb dX0_ask_7 (lv_at hl 0 rfl) ?_
  refine lv_if_eq (tgt := 19) hx hb dX0_ask_9 (by decide) (fun c_0 => absurd c_0 (by decide)) (fun _ => ?_)
  refine lv_iload hx hb dX0_ask_12 (lv_at hl 5 rfl) ?_
  refine lv_bipush (v := 40) hx hb dX0_ask_14 (by decide) ?_
  refine lv_icmp_le (tgt := 21) hx hb dX0_ask_16 (by decide) (fun _ => ?_) (fun c_0 => absurd (by decide) c_0)
  refine lv_aload_n hx hb dX0_ask_21 rfl (lv_at hl 1 rfl) ?_
  refine lv_iload hx hb dX0_ask_22 (lv_at hl 0 rfl) ?_
  refine contV (wc := [(aa, .inr (0, [.ref a1, .int 2, .int sl, .int 3, .int vv])), (a1, .inl (cI, 20, .inl fa))]) (wr := []) C0 hP hD hS [0, 1] [] rfl rfl (by decide) (by decide) 0 0 (Nat.le_of_ble_eq_true rfl) (Nat.le_of_ble_eq_true rfl) (runV (k := 1) (As := [.int 2]) (rest := []) C0 (c_begin_2 l D cI cZ cQ cT _ aa 2 a1 sl 3 vv fa) wc_X0_begin wl_X0_52 wi_X0_begin we_X0_begin wz_X0 ⟨by decide, by decide, by decide +kernel⟩ ⟨(Nat.le_of_ble_eq_true rfl), (Nat.le_of_ble_eq_true rfl)⟩ hP hD hS EF.ok hX [0, 1] rfl (by decide) 0 rfl rfl rfl rfl hl.1 rfl (Nat.le_of_ble_eq_true rfl) dX0_ask_24 ⟨(Nat.le_of_ble_eq_true rfl), (Nat.le_of_ble_eq_true rfl)⟩) (fun u_4 H locs w_5 hP hD hS => ?_)
  have hP : va_P D CL [(aa, .inr (0, [.ref a1, .int 3, .int sl, .int 3, .int vv])), (a1, .inl (cI, 20, .inl (upd fa 2 (2 : Int32))))] H := hP
  have hD : va_D A [(aa, .inr (0, [.ref a1, .int 3, .int sl, .int 3, .int vv])), (a1, .inl (cI, 20, .inl (upd fa 2 (2 : Int32))))] := hD
  refine lv_iload hx hb dX0_ask_27 (lv_at hl 5 rfl) ?_
  refine lv_iconst (v := 1) hx hb dX0_ask_29 (by decide) ?_
  refine lv_iadd hx hb dX0_ask_30 ?_
  refine lv_ci 3 (by decide +kernel) ?_
  refine lv_istore (lv' := [(6, .int 3), (5, .int 2), (0, .ref aa), (1, .int 3), (2, .int 1), (3, .int xx), (4, .int 2)]) hx hb dX0_ask_31 hl (by decide) rfl (fun ls hl => ?_)
  refine lv_iload hx hb dX0_ask_33 (lv_at hl 1 rfl) ?_
  refine lv_lookup (off := 88) (tgt := 123) hx hb dX0_ask_35 (by decide) (by decide) (by decide) ?_
  refine lv_aload_n hx hb dX0_ask_123 rfl (lv_at hl 2 rfl) ?_
  refine lv_aload_n hx hb dX0_ask_124 rfl (lv_at hl 2 rfl) ?_
  refine va_get (ci := 0) (v := .int 3) (C := RX0) (T := TX0) (N := 5) hx hb hT wu_X0 hown hK hP 0 rfl rfl 3 (by decide) (hT _ wf_X0_31) (fun _ h9 => h9) rfl dX0_ask_125 ?_
  refine lv_iconst (v := 0) hx hb dX0_ask_128 (by decide) ?_
  refine lv_iload_n hx hb dX0_ask_129 rfl (lv_at hl 5 rfl) ?_
  refine lv_iload hx hb dX0_ask_130 (lv_at hl 0 rfl) ?_
  refine contI (wc := [(aa, .inr (0, [.ref a1, .int 3, .int sl, .int 3, .int vv])), (a1, .inl (cI, 20, .inl (upd fa 2 (2 : Int32))))]) (wr := []) C0 hP hD hS [0, 1] [] rfl rfl (by decide) (by decide) 0 0 (Nat.le_of_ble_eq_true rfl) (Nat.le_of_ble_eq_true rfl) (runV (k := 4) (As := [.int 3, .int 0, .int xx, .int 3]) (rest := []) C0 (c_ask_3_3_0_3_3 l D cI cZ cQ cT _ aa xx a1 sl vv (upd fa 2 (2 : Int32))) wc_X0_ask wl_X0_38 wi_X0_ask we_X0_ask wz_X0 ⟨by decide, by decide, by decide +kernel⟩ ⟨(Nat.le_of_ble_eq_true rfl), (Nat.le_of_ble_eq_true rfl)⟩ hP hD hS EF.ok hX [0, 1] rfl (by decide) 0 rfl rfl rfl rfl hl.1 rfl (Nat.le_of_ble_eq_true rfl) dX0_ask_132 ⟨(Nat.le_of_ble_eq_true rfl), (Nat.le_of_ble_eq_true rfl)⟩) (fun r_9 u_7 H locs w_8 hP hD hS => ?_)
  have hP : va_P D CL [(aa, .inr (0, [.ref a1, .int 4, .int sl, .int 3, .int vv])), (a1, .inl (cI, 20, .inl (upd (upd fa 2 (2 : Int32)) 3 1)))] H := hP
  have hD : va_D A [(aa, .inr (0, [.ref a1, .int 4, .int sl, .int 3, .int vv])), (a1, .inl (cI, 20, .inl (upd (upd fa 2 (2 : Int32)) 3 1)))] := hD
  obtain rfl : r_9 = (xx + sl) := w_8
  refine lv_aload_n hx hb dX0_ask_135 rfl (lv_at hl 2 rfl) ?_
  refine va_get (ci := 0) (v := .int vv) (C := RX0) (T := TX0) (N := 5) hx hb hT wu_X0 hown hK hP 0 rfl rfl 4 (by decide) (hT _ wf_X0_36) (fun _ h9 => h9) rfl dX0_ask_136 ?_
  refine lv_isub hx hb dX0_ask_139 ?_
  exact retI C0 rfl () rfl (hP.sub (ws' := [(aa, .inr (0, [.ref a1, .int 4, .int sl, .int 3, .int vv])), (a1, .inl (cI, 20, .inl (upd (upd fa 2 2) 3 1)))]) [0, 1] rfl) (hD.sub (ws' := [(aa, .inr (0, [.ref a1, .int 4, .int sl, .int 3, .int vv])), (a1, .inl (cI, 20, .inl (upd (upd fa 2 2) 3 1)))]) [0, 1] (by decide) rfl) hS (Nat.le_of_ble_eq_true rfl) (Nat.le_of_ble_eq_true rfl) dX0_ask_140

set_option maxHeartbeats 4000000 in
set_option maxRecDepth 100000 in
theorem c_ask_3_0_2_1_1 (l : Launch) (D : va_G) (cI cZ cQ cT : ClassId) (sz : Nat) (aa : Nat) (xx : Int32) (a1 : Nat) (sl : Int32) (vv : Int32) (fa : Nat → Int32)  : MetI l yX0_ask cX0_ask 7 .int ({ frames := 3, cells := 0, slots := 0, locals := 76 } : Room) [.ref aa, .int 0, .int 2, .int xx, .int 1] D (TYS cI cZ cQ cT) EF sz [(aa, .inr (0, [.ref a1, .int 1, .int sl, .int 3, .int vv])), (a1, .inl (cI, 20, .inl fa))] (S := Unit) (fun (r : Int32) (_ : Unit) => r = (((xx + sl) - vv) * (2 : Int32))) (fun _ => [(aa, .inr (0, [.ref a1, .int 4, .int sl, .int 3, .int vv])), (a1, .inl (cI, 20, .inl (upd (upd (upd fa 1 3) 2 2) 3 1)))]) := by
  refine MetI.mk (lv := [(0, .ref aa), (1, .int 0), (2, .int 2), (3, .int xx), (4, .int 1)]) (by decide +kernel) (Nat.le_of_ble_eq_true rfl) rfl ?_
  intro p e s m below meth c A ls C0 hP hD hS hX hl
  have C1 := C0
  obtain ⟨hx, hb, hr, hml, hown, hlocks, hname, hT, hN, hK, hA⟩ := C1
  refine lv_iload_n hx hb dX0_ask_0 rfl (lv_at hl 1 rfl) ?_
  refine lv_iload_n hx hb dX0_ask_1 rfl (lv_at hl 2 rfl) ?_
  refine contI (wc := []) (wr := [(aa, .inr (0, [.ref a1, .int 1, .int sl, .int 3, .int vv])), (a1, .inl (cI, 20, .inl fa))]) C0 hP hD hS [] [0, 1] rfl rfl (by decide) (by decide) 0 0 (Nat.le_of_ble_eq_true rfl) (Nat.le_of_ble_eq_true rfl) (runS (k := 2) (As := [.int 0, .int 2]) (rest := []) C0 (c_bodyOf_0_2 l D cI cZ cQ cT _ ) wc_X0_bodyOf wl_X0_48 wt_X0_bodyOf wz_X0 ⟨by decide, by decide, by decide +kernel⟩ ⟨(Nat.le_of_ble_eq_true rfl), (Nat.le_of_ble_eq_true rfl)⟩ hP hD hS EF.ok hX [] rfl (by decide) rfl hl.1 rfl (Nat.le_of_ble_eq_true rfl) dX0_ask_2 ⟨(Nat.le_of_ble_eq_true rfl), (Nat.le_of_ble_eq_true rfl)⟩) (fun r_3 u_1 H locs w_2 hP hD hS => ?_)
  have hP : va_P D CL [(aa, .inr (0, [.ref a1, .int 1, .int sl, .int 3, .int vv])), (a1, .inl (cI, 20, .inl fa))] H := hP
  have hD : va_D A [(aa, .inr (0, [.ref a1, .int 1, .int sl, .int 3, .int vv])), (a1, .inl (cI, 20, .inl fa))] := hD
  obtain rfl : r_3 = 3 := w_2
  refine lv_istore (lv' := [(5, .int 3), (0, .ref aa), (1, .int 0), (2, .int 2), (3, .int xx), (4, .int 1)]) hx hb dX0_ask_5 hl (by decide) rfl (fun ls hl => ?_)
  refine lv_iload hx hb dX0_ask_7 (lv_at hl 0 rfl) ?_
  refine lv_if_eq (tgt := 19) hx hb dX0_ask_9 (by decide) (fun c_0 => absurd c_0 (by decide)) (fun _ => ?_)
  refine lv_iload hx hb dX0_ask_12 (lv_at hl 5 rfl) ?_
  refine lv_bipush (v := 40) hx hb dX0_ask_14 (by decide) ?_
  refine lv_icmp_le (tgt := 21) hx hb dX0_ask_16 (by decide) (fun _ => ?_) (fun c_0 => absurd (by decide) c_0)
  refine lv_aload_n hx hb dX0_ask_21 rfl (lv_at hl 1 rfl) ?_
  refine lv_iload hx hb dX0_ask_22 (lv_at hl 0 rfl) ?_
  refine contV (wc := [(aa, .inr (0, [.ref a1, .int 1, .int sl, .int 3, .int vv])), (a1, .inl (cI, 20, .inl fa))]) (wr := []) C0 hP hD hS [0, 1] [] rfl rfl (by decide) (by decide) 0 0 (Nat.le_of_ble_eq_true rfl) (Nat.le_of_ble_eq_true rfl) (runV (k := 1) (As := [.int 3]) (rest := []) C0 (c_begin_1 l D cI cZ cQ cT _ aa 3 a1 sl 3 vv fa) wc_X0_begin wl_X0_52 wi_X0_begin we_X0_begin wz_X0 ⟨by decide, by decide, by decide +kernel⟩ ⟨(Nat.le_of_ble_eq_true rfl), (Nat.le_of_ble_eq_true rfl)⟩ hP hD hS EF.ok hX [0, 1] rfl (by decide) 0 rfl rfl rfl rfl hl.1 rfl (Nat.le_of_ble_eq_true rfl) dX0_ask_24 ⟨(Nat.le_of_ble_eq_true rfl), (Nat.le_of_ble_eq_true rfl)⟩) (fun u_4 H locs w_5 hP hD hS => ?_)
  have hP : va_P D CL [(aa, .inr (0, [.ref a1, .int 2, .int sl, .int 3, .int vv])), (a1, .inl (cI, 20, .inl (upd fa 1 (3 : Int32))))] H := hP
  have hD : va_D A [(aa, .inr (0, [.ref a1, .int 2, .int sl, .int 3, .int vv])), (a1, .inl (cI, 20, .inl (upd fa 1 (3 : Int32))))] := hD
  refine lv_iload hx hb dX0_ask_27 (lv_at hl 5 rfl) ?_
  refine lv_iconst (v := 1) hx hb dX0_ask_29 (by decide) ?_
  refine lv_iadd hx hb dX0_ask_30 ?_
  refine lv_ci 2 (by decide +kernel) ?_
  refine lv_istore (lv' := [(6, .int 2), (5, .int 3), (0, .ref aa), (1, .int 0), (2, .int 2), (3, .int xx), (4, .int 1)]) hx hb dX0_ask_31 hl (by decide) rfl (fun ls hl => ?_)
  refine lv_iload hx hb dX0_ask_33 (lv_at hl 1 rfl) ?_
  refine lv_lookup (off := 106) (tgt := 141) hx hb dX0_ask_35 (by decide) (by decide) (by decide) ?_
  refine lv_aload_n hx hb dX0_ask_141 rfl (lv_at hl 2 rfl) ?_
  refine lv_aload_n hx hb dX0_ask_142 rfl (lv_at hl 2 rfl) ?_
  refine va_get (ci := 0) (v := .int 3) (C := RX0) (T := TX0) (N := 5) hx hb hT wu_X0 hown hK hP 0 rfl rfl 3 (by decide) (hT _ wf_X0_31) (fun _ h9 => h9) rfl dX0_ask_143 ?_
  refine lv_iconst (v := 1) hx hb dX0_ask_146 (by decide) ?_
  refine lv_iload_n hx hb dX0_ask_147 rfl (lv_at hl 5 rfl) ?_
  refine lv_iload hx hb dX0_ask_148 (lv_at hl 0 rfl) ?_
  refine contI (wc := [(aa, .inr (0, [.ref a1, .int 2, .int sl, .int 3, .int vv])), (a1, .inl (cI, 20, .inl (upd fa 1 (3 : Int32))))]) (wr := []) C0 hP hD hS [0, 1] [] rfl rfl (by decide) (by decide) 0 0 (Nat.le_of_ble_eq_true rfl) (Nat.le_of_ble_eq_true rfl) (runV (k := 4) (As := [.int 3, .int 1, .int xx, .int 2]) (rest := []) C0 (c_ask_3_3_1_2_2 l D cI cZ cQ cT _ aa xx a1 sl vv (upd fa 1 (3 : Int32))) wc_X0_ask wl_X0_38 wi_X0_ask we_X0_ask wz_X0 ⟨by decide, by decide, by decide +kernel⟩ ⟨(Nat.le_of_ble_eq_true rfl), (Nat.le_of_ble_eq_true rfl)⟩ hP hD hS EF.ok hX [0, 1] rfl (by decide) 0 rfl rfl rfl rfl hl.1 rfl (Nat.le_of_ble_eq_true rfl) dX0_ask_150 ⟨(Nat.le_of_ble_eq_true rfl), (Nat.le_of_ble_eq_true rfl)⟩) (fun r_9 u_7 H locs w_8 hP hD hS => ?_)
  have hP : va_P D CL [(aa, .inr (0, [.ref a1, .int 4, .int sl, .int 3, .int vv])), (a1, .inl (cI, 20, .inl (upd (upd (upd fa 1 (3 : Int32)) 2 2) 3 1)))] H := hP
  have hD : va_D A [(aa, .inr (0, [.ref a1, .int 4, .int sl, .int 3, .int vv])), (a1, .inl (cI, 20, .inl (upd (upd (upd fa 1 (3 : Int32)) 2 2) 3 1)))] := hD
  obtain rfl : r_9 = ((xx + sl) - vv) := w_8
  refine lv_iconst (v := 2) hx hb dX0_ask_153 (by decide) ?_
  refine lv_imul hx hb dX0_ask_154 ?_
  exact retI C0 rfl () rfl (hP.sub (ws' := [(aa, .inr (0, [.ref a1, .int 4, .int sl, .int 3, .int vv])), (a1, .inl (cI, 20, .inl (upd (upd (upd fa 1 3) 2 2) 3 1)))]) [0, 1] rfl) (hD.sub (ws' := [(aa, .inr (0, [.ref a1, .int 4, .int sl, .int 3, .int vv])), (a1, .inl (cI, 20, .inl (upd (upd (upd fa 1 3) 2 2) 3 1)))]) [0, 1] (by decide) rfl) hS (Nat.le_of_ble_eq_true rfl) (Nat.le_of_ble_eq_true rfl) dX0_ask_155

set_option maxHeartbeats 4000000 in
set_option maxRecDepth 100000 in
theorem c_ask_3_3_2_0_0 (l : Launch) (D : va_G) (cI cZ cQ cT : ClassId) (sz : Nat) (aa : Nat) (xx : Int32) (a1 : Nat) (sl : Int32) (vv : Int32) (fa : Nat → Int32)  : MetI l yX0_ask cX0_ask 7 .int ({ frames := 4, cells := 0, slots := 0, locals := 102 } : Room) [.ref aa, .int 3, .int 2, .int xx, .int 0] D (TYS cI cZ cQ cT) EF sz [(aa, .inr (0, [.ref a1, .int 0, .int sl, .int 3, .int vv])), (a1, .inl (cI, 20, .inl fa))] (S := Unit) (fun (r : Int32) (_ : Unit) => r = ((((xx + sl) - vv) * (2 : Int32)) ^^^ (7 : Int32))) (fun _ => [(aa, .inr (0, [.ref a1, .int 4, .int sl, .int 3, .int vv])), (a1, .inl (cI, 20, .inl (upd (upd (upd (upd fa 0 31) 1 3) 2 2) 3 1)))]) := by
  refine MetI.mk (lv := [(0, .ref aa), (1, .int 3), (2, .int 2), (3, .int xx), (4, .int 0)]) (by decide +kernel) (Nat.le_of_ble_eq_true rfl) rfl ?_
  intro p e s m below meth c A ls C0 hP hD hS hX hl
  have C1 := C0
  obtain ⟨hx, hb, hr, hml, hown, hlocks, hname, hT, hN, hK, hA⟩ := C1
  refine lv_iload_n hx hb dX0_ask_0 rfl (lv_at hl 1 rfl) ?_
  refine lv_iload_n hx hb dX0_ask_1 rfl (lv_at hl 2 rfl) ?_
  refine contI (wc := []) (wr := [(aa, .inr (0, [.ref a1, .int 0, .int sl, .int 3, .int vv])), (a1, .inl (cI, 20, .inl fa))]) C0 hP hD hS [] [0, 1] rfl rfl (by decide) (by decide) 0 0 (Nat.le_of_ble_eq_true rfl) (Nat.le_of_ble_eq_true rfl) (runS (k := 2) (As := [.int 3, .int 2]) (rest := []) C0 (c_bodyOf_3_2 l D cI cZ cQ cT _ ) wc_X0_bodyOf wl_X0_48 wt_X0_bodyOf wz_X0 ⟨by decide, by decide, by decide +kernel⟩ ⟨(Nat.le_of_ble_eq_true rfl), (Nat.le_of_ble_eq_true rfl)⟩ hP hD hS EF.ok hX [] rfl (by decide) rfl hl.1 rfl (Nat.le_of_ble_eq_true rfl) dX0_ask_2 ⟨(Nat.le_of_ble_eq_true rfl), (Nat.le_of_ble_eq_true rfl)⟩) (fun r_3 u_1 H locs w_2 hP hD hS => ?_)
  have hP : va_P D CL [(aa, .inr (0, [.ref a1, .int 0, .int sl, .int 3, .int vv])), (a1, .inl (cI, 20, .inl fa))] H := hP
  have hD : va_D A [(aa, .inr (0, [.ref a1, .int 0, .int sl, .int 3, .int vv])), (a1, .inl (cI, 20, .inl fa))] := hD
  obtain rfl : r_3 = 31 := w_2
  refine lv_istore (lv' := [(5, .int 31), (0, .ref aa), (1, .int 3), (2, .int 2), (3, .int xx), (4, .int 0)]) hx hb dX0_ask_5 hl (by decide) rfl (fun ls hl => ?_)
  refine lv_iload hx hb dX0_ask_7 (lv_at hl 0 rfl) ?_
  refine lv_if_eq (tgt := 19) hx hb dX0_ask_9 (by decide) (fun c_0 => absurd c_0 (by decide)) (fun _ => ?_)
  refine lv_iload hx hb dX0_ask_12 (lv_at hl 5 rfl) ?_
  refine lv_bipush (v := 40) hx hb dX0_ask_14 (by decide) ?_
  refine lv_icmp_le (tgt := 21) hx hb dX0_ask_16 (by decide) (fun _ => ?_) (fun c_0 => absurd (by decide) c_0)
  refine lv_aload_n hx hb dX0_ask_21 rfl (lv_at hl 1 rfl) ?_
  refine lv_iload hx hb dX0_ask_22 (lv_at hl 0 rfl) ?_
  refine contV (wc := [(aa, .inr (0, [.ref a1, .int 0, .int sl, .int 3, .int vv])), (a1, .inl (cI, 20, .inl fa))]) (wr := []) C0 hP hD hS [0, 1] [] rfl rfl (by decide) (by decide) 0 0 (Nat.le_of_ble_eq_true rfl) (Nat.le_of_ble_eq_true rfl) (runV (k := 1) (As := [.int 31]) (rest := []) C0 (c_begin_0 l D cI cZ cQ cT _ aa 31 a1 sl 3 vv fa) wc_X0_begin wl_X0_52 wi_X0_begin we_X0_begin wz_X0 ⟨by decide, by decide, by decide +kernel⟩ ⟨(Nat.le_of_ble_eq_true rfl), (Nat.le_of_ble_eq_true rfl)⟩ hP hD hS EF.ok hX [0, 1] rfl (by decide) 0 rfl rfl rfl rfl hl.1 rfl (Nat.le_of_ble_eq_true rfl) dX0_ask_24 ⟨(Nat.le_of_ble_eq_true rfl), (Nat.le_of_ble_eq_true rfl)⟩) (fun u_4 H locs w_5 hP hD hS => ?_)
  have hP : va_P D CL [(aa, .inr (0, [.ref a1, .int 1, .int sl, .int 3, .int vv])), (a1, .inl (cI, 20, .inl (upd fa 0 (31 : Int32))))] H := hP
  have hD : va_D A [(aa, .inr (0, [.ref a1, .int 1, .int sl, .int 3, .int vv])), (a1, .inl (cI, 20, .inl (upd fa 0 (31 : Int32))))] := hD
  refine lv_iload hx hb dX0_ask_27 (lv_at hl 5 rfl) ?_
  refine lv_iconst (v := 1) hx hb dX0_ask_29 (by decide) ?_
  refine lv_iadd hx hb dX0_ask_30 ?_
  refine lv_ci 1 (by decide +kernel) ?_
  refine lv_istore (lv' := [(6, .int 1), (5, .int 31), (0, .ref aa), (1, .int 3), (2, .int 2), (3, .int xx), (4, .int 0)]) hx hb dX0_ask_31 hl (by decide) rfl (fun ls hl => ?_)
  refine lv_iload hx hb dX0_ask_33 (lv_at hl 1 rfl) ?_
  refine lv_lookup (off := 144) (tgt := 179) hx hb dX0_ask_35 (by decide) (by decide) (by decide) ?_
  refine lv_aload_n hx hb dX0_ask_179 rfl (lv_at hl 2 rfl) ?_
  refine lv_iconst (v := 0) hx hb dX0_ask_180 (by decide) ?_
  refine lv_iconst (v := 2) hx hb dX0_ask_181 (by decide) ?_
  refine lv_iload_n hx hb dX0_ask_182 rfl (lv_at hl 5 rfl) ?_
  refine lv_iload hx hb dX0_ask_183 (lv_at hl 0 rfl) ?_
  refine contI (wc := [(aa, .inr (0, [.ref a1, .int 1, .int sl, .int 3, .int vv])), (a1, .inl (cI, 20, .inl (upd fa 0 (31 : Int32))))]) (wr := []) C0 hP hD hS [0, 1] [] rfl rfl (by decide) (by decide) 0 0 (Nat.le_of_ble_eq_true rfl) (Nat.le_of_ble_eq_true rfl) (runV (k := 4) (As := [.int 0, .int 2, .int xx, .int 1]) (rest := []) C0 (c_ask_3_0_2_1_1 l D cI cZ cQ cT _ aa xx a1 sl vv (upd fa 0 (31 : Int32))) wc_X0_ask wl_X0_38 wi_X0_ask we_X0_ask wz_X0 ⟨by decide, by decide, by decide +kernel⟩ ⟨(Nat.le_of_ble_eq_true rfl), (Nat.le_of_ble_eq_true rfl)⟩ hP hD hS EF.ok hX [0, 1] rfl (by decide) 0 rfl rfl rfl rfl hl.1 rfl (Nat.le_of_ble_eq_true rfl) dX0_ask_185 ⟨(Nat.le_of_ble_eq_true rfl), (Nat.le_of_ble_eq_true rfl)⟩) (fun r_9 u_7 H locs w_8 hP hD hS => ?_)
  have hP : va_P D CL [(aa, .inr (0, [.ref a1, .int 4, .int sl, .int 3, .int vv])), (a1, .inl (cI, 20, .inl (upd (upd (upd (upd fa 0 (31 : Int32)) 1 3) 2 2) 3 1)))] H := hP
  have hD : va_D A [(aa, .inr (0, [.ref a1, .int 4, .int sl, .int 3, .int vv])), (a1, .inl (cI, 20, .inl (upd (upd (upd (upd fa 0 (31 : Int32)) 1 3) 2 2) 3 1)))] := hD
  obtain rfl : r_9 = (((xx + sl) - vv) * (2 : Int32)) := w_8
  refine lv_bipush (v := 7) hx hb dX0_ask_188 (by decide) ?_
  refine lv_ixor hx hb dX0_ask_190 ?_
  exact retI C0 rfl () rfl (hP.sub (ws' := [(aa, .inr (0, [.ref a1, .int 4, .int sl, .int 3, .int vv])), (a1, .inl (cI, 20, .inl (upd (upd (upd (upd fa 0 31) 1 3) 2 2) 3 1)))]) [0, 1] rfl) (hD.sub (ws' := [(aa, .inr (0, [.ref a1, .int 4, .int sl, .int 3, .int vv])), (a1, .inl (cI, 20, .inl (upd (upd (upd (upd fa 0 31) 1 3) 2 2) 3 1)))]) [0, 1] (by decide) rfl) hS (Nat.le_of_ble_eq_true rfl) (Nat.le_of_ble_eq_true rfl) dX0_ask_191

set_option maxHeartbeats 4000000 in
set_option maxRecDepth 100000 in
theorem c_bodyOf_4_2 (l : Launch) (D : va_G) (cI cZ cQ cT : ClassId) (sz : Nat)   : MetI l yX0_bodyOf cX0_bodyOf 5 .int ({ frames := 0, cells := 0, slots := 0, locals := 0 } : Room) [.int 4, .int 2] D (TYS cI cZ cQ cT) EF sz [] (S := Unit) (fun (r : Int32) (_ : Unit) => r = 41) (fun _ => []) := by
  refine MetI.mk (lv := [(0, .int 4), (1, .int 2)]) (by decide +kernel) (Nat.le_of_ble_eq_true rfl) rfl ?_
  intro p e s m below meth c A ls C0 hP hD hS hX hl
  have C1 := C0
  obtain ⟨hx, hb, hr, hml, hown, hlocks, hname, hT, hN, hK, hA⟩ := C1
  obtain ⟨kab, hkz, hkT⟩ := hX.2.1
  obtain ⟨bdy, hbz, hbT⟩ := hX.2.2.1
  refine lv_iload_n hx hb dX0_bodyOf_0 rfl (lv_at hl 0 rfl) ?_
  refine lv_istore_n (lv' := [(2, .int 4), (0, .int 4), (1, .int 2)]) hx hb dX0_bodyOf_1 rfl hl (by decide) rfl (fun ls hl => ?_)
  refine lv_iconst (v := 0) hx hb dX0_bodyOf_2 (by decide) ?_
  refine lv_istore_n (lv' := [(3, .int 0), (2, .int 4), (0, .int 4), (1, .int 2)]) hx hb dX0_bodyOf_3 rfl hl (by decide) rfl (fun ls hl => ?_)
  refine lv_iload_n hx hb dX0_bodyOf_4 rfl (lv_at hl 0 rfl) ?_
  refine lv_bipush (v := 7) hx hb dX0_bodyOf_5 (by decide) ?_
  refine lv_icmp_ge (tgt := 69) hx hb dX0_bodyOf_7 (by decide) (fun c_0 => absurd c_0 (by decide)) (fun _ => ?_)
  refine lv_iload_n hx hb dX0_bodyOf_10 rfl (lv_at hl 1 rfl) ?_
  refine lv_if_lt (tgt := 69) hx hb dX0_bodyOf_11 (by decide) (fun c_0 => absurd c_0 (by decide)) (fun _ => ?_)
  refine lv_iload_n hx hb dX0_bodyOf_14 rfl (lv_at hl 1 rfl) ?_
  refine lv_bipush (v := 7) hx hb dX0_bodyOf_15 (by decide) ?_
  refine lv_icmp_ge (tgt := 69) hx hb dX0_bodyOf_17 (by decide) (fun c_0 => absurd c_0 (by decide)) (fun _ => ?_)
  refine lv_iload_n hx hb dX0_bodyOf_20 rfl (lv_at hl 1 rfl) ?_
  refine lv_iconst (v := 3) hx hb dX0_bodyOf_21 (by decide) ?_
  refine lv_imul hx hb dX0_bodyOf_22 ?_
  refine lv_ci 12 (by decide +kernel) ?_
  refine lv_iload_n hx hb dX0_bodyOf_23 rfl (lv_at hl 3 rfl) ?_
  refine lv_iadd hx hb dX0_bodyOf_24 ?_
  refine lv_ci 14 (by decide +kernel) ?_
  refine lv_istore (lv' := [(4, .int 14), (3, .int 0), (2, .int 4), (0, .int 4), (1, .int 2)]) hx hb dX0_bodyOf_25 hl (by decide) rfl (fun ls hl => ?_)
  refine lv_iload hx hb dX0_bodyOf_27 (lv_at hl 0 rfl) ?_
  refine lv_if_lt (tgt := 57) hx hb dX0_bodyOf_29 (by decide) (fun c_0 => absurd c_0 (by decide)) (fun _ => ?_)
  refine lv_iload hx hb dX0_bodyOf_32 (lv_at hl 0 rfl) ?_
  refine va_gets hx hb hbz hS hown (hT _ wf_X0_42) (fun _ h9 => h9) dX0_bodyOf_34 ?_
  refine va_tlen hx hb hbT hS (v := 21) rfl dX0_bodyOf_37 ?_
  refine lv_icmp_ge (tgt := 57) hx hb dX0_bodyOf_38 (by decide) (fun c_0 => absurd c_0 (by decide)) (fun _ => ?_)
  refine va_gets hx hb hbz hS hown (hT _ wf_X0_42) (fun _ h9 => h9) dX0_bodyOf_41 ?_
  refine lv_iload hx hb dX0_bodyOf_44 (lv_at hl 0 rfl) ?_
  refine va_ti hx hb hbT hS (vin _ _ (by decide +kernel)) (v := .int 41) rfl dX0_bodyOf_46 ?_
  refine lv_if_eq (tgt := 57) hx hb dX0_bodyOf_47 (by decide) (fun c_0 => absurd c_0 (by decide)) (fun _ => ?_)
  refine va_gets hx hb hbz hS hown (hT _ wf_X0_42) (fun _ h9 => h9) dX0_bodyOf_50 ?_
  refine lv_iload hx hb dX0_bodyOf_53 (lv_at hl 0 rfl) ?_
  refine va_ti hx hb hbT hS (vin _ _ (by decide +kernel)) (v := .int 41) rfl dX0_bodyOf_55 ?_
  exact retI C0 rfl () rfl (hP.sub (ws' := []) [] rfl) (hD.sub (ws' := []) [] (by decide) rfl) hS (Nat.le_of_ble_eq_true rfl) (Nat.le_of_ble_eq_true rfl) dX0_bodyOf_56

set_option maxHeartbeats 4000000 in
set_option maxRecDepth 100000 in
theorem c_begin_4 (l : Launch) (D : va_G) (cI cZ cQ cT : ClassId) (sz : Nat) (aa : Nat) (bd : Int32) (a1 : Nat) (sl : Int32) (kd : Int32) (vv : Int32) (fa : Nat → Int32)  : MetV l yX0_begin cX0_begin 2 ({ frames := 0, cells := 0, slots := 0, locals := 0 } : Room) [.ref aa, .int bd] D (TYS cI cZ cQ cT) EF sz [(aa, .inr (0, [.ref a1, .int 4, .int sl, .int kd, .int vv])), (a1, .inl (cI, 20, .inl fa))] (S := Unit) (fun (_ : Unit) => True) (fun _ => [(aa, .inr (0, [.ref a1, .int 5, .int sl, .int kd, .int vv])), (a1, .inl (cI, 20, .inl (upd fa 4 bd)))]) := by
  refine MetV.mk (lv := [(0, .ref aa), (1, .int bd)]) (by decide +kernel) (Nat.le_of_ble_eq_true rfl) rfl ?_
  intro p e s m below meth c A ls C0 hP hD hS hX hl
  have C1 := C0
  obtain ⟨hx, hb, hr, hml, hown, hlocks, hname, hT, hN, hK, hA⟩ := C1
  refine lv_aload_n hx hb dX0_begin_0 rfl (lv_at hl 0 rfl) ?_
  refine va_get (ci := 0) (v := .int 4) (C := RX0) (T := TX0) (N := 5) hx hb hT wu_X0 hown hK hP 0 rfl rfl 1 (by decide) (hT _ wf_X0_15) (fun _ h9 => h9) rfl dX0_begin_1 ?_
  refine lv_if_lt (tgt := 26) hx hb dX0_begin_4 (by decide) (fun c_0 => absurd c_0 (by decide)) (fun _ => ?_)
  refine lv_aload_n hx hb dX0_begin_7 rfl (lv_at hl 0 rfl) ?_
  refine va_get (ci := 0) (v := .int 4) (C := RX0) (T := TX0) (N := 5) hx hb hT wu_X0 hown hK hP 0 rfl rfl 1 (by decide) (hT _ wf_X0_15) (fun _ h9 => h9) rfl dX0_begin_8 ?_
  refine lv_bipush (v := 20) hx hb dX0_begin_11 (by decide) ?_
  refine lv_icmp_ge (tgt := 26) hx hb dX0_begin_13 (by decide) (fun c_0 => absurd c_0 (by decide)) (fun _ => ?_)
  refine lv_aload_n hx hb dX0_begin_16 rfl (lv_at hl 0 rfl) ?_
  refine va_get (ci := 0) (v := .ref a1) (C := RX0) (T := TX0) (N := 5) hx hb hT wu_X0 hown hK hP 0 rfl rfl 0 (by decide) (hT _ wf_X0_11) (fun _ h9 => h9) rfl dX0_begin_17 ?_
  refine lv_aload_n hx hb dX0_begin_20 rfl (lv_at hl 0 rfl) ?_
  refine va_get (ci := 0) (v := .int 4) (C := RX0) (T := TX0) (N := 5) hx hb hT wu_X0 hown hK hP 0 rfl rfl 1 (by decide) (hT _ wf_X0_15) (fun _ h9 => h9) rfl dX0_begin_21 ?_
  refine lv_iload_n hx hb dX0_begin_24 rfl (lv_at hl 1 rfl) ?_
  refine va_iast hx hb hK hP hD hS 1 0 rfl rfl (vin _ _ (by decide +kernel)) dX0_begin_25 (fun H locs hP hD hS => ?_)
  have hP : va_P D CL [(aa, .inr (0, [.ref a1, .int 4, .int sl, .int kd, .int vv])), (a1, .inl (cI, 20, .inl (upd fa ((4 : Int32)).toNatClampNeg bd)))] H := hP
  have hD : va_D A [(aa, .inr (0, [.ref a1, .int 4, .int sl, .int kd, .int vv])), (a1, .inl (cI, 20, .inl (upd fa ((4 : Int32)).toNatClampNeg bd)))] := hD
  rw [show ((4 : Int32)).toNatClampNeg = 4 from nI_clamp (n := 4) (by decide)] at hP hD
  have hP : va_P D CL [(aa, .inr (0, [.ref a1, .int 4, .int sl, .int kd, .int vv])), (a1, .inl (cI, 20, .inl (upd fa 4 bd)))] H := hP
  have hD : va_D A [(aa, .inr (0, [.ref a1, .int 4, .int sl, .int kd, .int vv])), (a1, .inl (cI, 20, .inl (upd fa 4 bd)))] := hD
  refine lv_aload_n hx hb dX0_begin_26 rfl (lv_at hl 0 rfl) ?_
  refine lv_dup hx hb dX0_begin_27 rfl ?_
  refine va_get (ci := 0) (v := .int 4) (C := RX0) (T := TX0) (N := 5) hx hb hT wu_X0 hown hK hP 0 rfl rfl 1 (by decide) (hT _ wf_X0_15) (fun _ h9 => h9) rfl dX0_begin_28 ?_
  refine lv_iconst (v := 1) hx hb dX0_begin_31 (by decide) ?_
  refine lv_iadd hx hb dX0_begin_32 ?_
  refine lv_ci 5 (by decide +kernel) ?_
  refine va_put (ci := 0) (v := .int 5) (ty := .int) (C := RX0) (T := TX0) (N := 5) hx hb hT wu_X0 tyX0 tyX0_ok nmX0 hown hK hP hD hS 0 rfl rfl 1 (by decide) (hT _ wf_X0_15) (fun _ h9 => h9) rfl (by decide +kernel) rfl rfl (Nat.le_of_ble_eq_true rfl) dX0_begin_33 (fun H locs hP hD hS => ?_)
  have hP : va_P D CL [(aa, .inr (0, [.ref a1, .int 5, .int sl, .int kd, .int vv])), (a1, .inl (cI, 20, .inl (upd fa 4 bd)))] H := hP
  have hD : va_D A [(aa, .inr (0, [.ref a1, .int 5, .int sl, .int kd, .int vv])), (a1, .inl (cI, 20, .inl (upd fa 4 bd)))] := hD
  exact retV C0 () trivial (hP.sub (ws' := [(aa, .inr (0, [.ref a1, .int 5, .int sl, .int kd, .int vv])), (a1, .inl (cI, 20, .inl (upd fa 4 bd)))]) [0, 1] rfl) (hD.sub (ws' := [(aa, .inr (0, [.ref a1, .int 5, .int sl, .int kd, .int vv])), (a1, .inl (cI, 20, .inl (upd fa 4 bd)))]) [0, 1] (by decide) rfl) hS (Nat.le_of_ble_eq_true rfl) (Nat.le_of_ble_eq_true rfl) dX0_begin_36

set_option maxHeartbeats 4000000 in
set_option maxRecDepth 100000 in
theorem c_ask_4_4_0_4_4 (l : Launch) (D : va_G) (cI cZ cQ cT : ClassId) (sz : Nat) (aa : Nat) (xx : Int32) (a1 : Nat) (sl : Int32) (vv : Int32) (fa : Nat → Int32)  : MetI l yX0_ask cX0_ask 7 .int ({ frames := 1, cells := 0, slots := 0, locals := 24 } : Room) [.ref aa, .int 4, .int 0, .int xx, .int 4] D (TYS cI cZ cQ cT) EF sz [(aa, .inr (0, [.ref a1, .int 4, .int sl, .int 4, .int vv])), (a1, .inl (cI, 20, .inl fa))] (S := Unit) (fun (r : Int32) (_ : Unit) => r = (xx + sl)) (fun _ => [(aa, .inr (0, [.ref a1, .int 5, .int sl, .int 4, .int vv])), (a1, .inl (cI, 20, .inl (upd fa 4 1)))]) := by
  refine MetI.mk (lv := [(0, .ref aa), (1, .int 4), (2, .int 0), (3, .int xx), (4, .int 4)]) (by decide +kernel) (Nat.le_of_ble_eq_true rfl) rfl ?_
  intro p e s m below meth c A ls C0 hP hD hS hX hl
  have C1 := C0
  obtain ⟨hx, hb, hr, hml, hown, hlocks, hname, hT, hN, hK, hA⟩ := C1
  refine lv_iload_n hx hb dX0_ask_0 rfl (lv_at hl 1 rfl) ?_
  refine lv_iload_n hx hb dX0_ask_1 rfl (lv_at hl 2 rfl) ?_
  refine contI (wc := []) (wr := [(aa, .inr (0, [.ref a1, .int 4, .int sl, .int 4, .int vv])), (a1, .inl (cI, 20, .inl fa))]) C0 hP hD hS [] [0, 1] rfl rfl (by decide) (by decide) 0 0 (Nat.le_of_ble_eq_true rfl) (Nat.le_of_ble_eq_true rfl) (runS (k := 2) (As := [.int 4, .int 0]) (rest := []) C0 (c_bodyOf_4_0 l D cI cZ cQ cT _ ) wc_X0_bodyOf wl_X0_48 wt_X0_bodyOf wz_X0 ⟨by decide, by decide, by decide +kernel⟩ ⟨(Nat.le_of_ble_eq_true rfl), (Nat.le_of_ble_eq_true rfl)⟩ hP hD hS EF.ok hX [] rfl (by decide) rfl hl.1 rfl (Nat.le_of_ble_eq_true rfl) dX0_ask_2 ⟨(Nat.le_of_ble_eq_true rfl), (Nat.le_of_ble_eq_true rfl)⟩) (fun r_3 u_1 H locs w_2 hP hD hS => ?_)
  have hP : va_P D CL [(aa, .inr (0, [.ref a1, .int 4, .int sl, .int 4, .int vv])), (a1, .inl (cI, 20, .inl fa))] H := hP
  have hD : va_D A [(aa, .inr (0, [.ref a1, .int 4, .int sl, .int 4, .int vv])), (a1, .inl (cI, 20, .inl fa))] := hD
  obtain rfl : r_3 = 1 := w_2
  refine lv_istore (lv' := [(5, .int 1), (0, .ref aa), (1, .int 4), (2, .int 0), (3, .int xx), (4, .int 4)]) hx hb dX0_ask_5 hl (by decide) rfl (fun ls hl => ?_)
  refine lv_iload hx hb dX0_ask_7 (lv_at hl 0 rfl) ?_
  refine lv_if_eq (tgt := 19) hx hb dX0_ask_9 (by decide) (fun c_0 => absurd c_0 (by decide)) (fun _ => ?_)
  refine lv_iload hx hb dX0_ask_12 (lv_at hl 5 rfl) ?_
  refine lv_bipush (v := 40) hx hb dX0_ask_14 (by decide) ?_
  refine lv_icmp_le (tgt := 21) hx hb dX0_ask_16 (by decide) (fun _ => ?_) (fun c_0 => absurd (by decide) c_0)
  refine lv_aload_n hx hb dX0_ask_21 rfl (lv_at hl 1 rfl) ?_
  refine lv_iload hx hb dX0_ask_22 (lv_at hl 0 rfl) ?_
  refine contV (wc := [(aa, .inr (0, [.ref a1, .int 4, .int sl, .int 4, .int vv])), (a1, .inl (cI, 20, .inl fa))]) (wr := []) C0 hP hD hS [0, 1] [] rfl rfl (by decide) (by decide) 0 0 (Nat.le_of_ble_eq_true rfl) (Nat.le_of_ble_eq_true rfl) (runV (k := 1) (As := [.int 1]) (rest := []) C0 (c_begin_4 l D cI cZ cQ cT _ aa 1 a1 sl 4 vv fa) wc_X0_begin wl_X0_52 wi_X0_begin we_X0_begin wz_X0 ⟨by decide, by decide, by decide +kernel⟩ ⟨(Nat.le_of_ble_eq_true rfl), (Nat.le_of_ble_eq_true rfl)⟩ hP hD hS EF.ok hX [0, 1] rfl (by decide) 0 rfl rfl rfl rfl hl.1 rfl (Nat.le_of_ble_eq_true rfl) dX0_ask_24 ⟨(Nat.le_of_ble_eq_true rfl), (Nat.le_of_ble_eq_true rfl)⟩) (fun u_4 H locs w_5 hP hD hS => ?_)
  have hP : va_P D CL [(aa, .inr (0, [.ref a1, .int 5, .int sl, .int 4, .int vv])), (a1, .inl (cI, 20, .inl (upd fa 4 (1 : Int32))))] H := hP
  have hD : va_D A [(aa, .inr (0, [.ref a1, .int 5, .int sl, .int 4, .int vv])), (a1, .inl (cI, 20, .inl (upd fa 4 (1 : Int32))))] := hD
  refine lv_iload hx hb dX0_ask_27 (lv_at hl 5 rfl) ?_
  refine lv_iconst (v := 1) hx hb dX0_ask_29 (by decide) ?_
  refine lv_iadd hx hb dX0_ask_30 ?_
  refine lv_ci 5 (by decide +kernel) ?_
  refine lv_istore (lv' := [(6, .int 5), (5, .int 1), (0, .ref aa), (1, .int 4), (2, .int 0), (3, .int xx), (4, .int 4)]) hx hb dX0_ask_31 hl (by decide) rfl (fun ls hl => ?_)
  refine lv_iload hx hb dX0_ask_33 (lv_at hl 1 rfl) ?_
  refine lv_lookup (off := 81) (tgt := 116) hx hb dX0_ask_35 (by decide) (by decide) (by decide) ?_
  refine lv_iload_n hx hb dX0_ask_116 rfl (lv_at hl 5 rfl) ?_
  refine lv_aload_n hx hb dX0_ask_117 rfl (lv_at hl 2 rfl) ?_
  refine va_get (ci := 0) (v := .int sl) (C := RX0) (T := TX0) (N := 5) hx hb hT wu_X0 hown hK hP 0 rfl rfl 2 (by decide) (hT _ wf_X0_25) (fun _ h9 => h9) rfl dX0_ask_118 ?_
  refine lv_iadd hx hb dX0_ask_121 ?_
  exact retI C0 rfl () rfl (hP.sub (ws' := [(aa, .inr (0, [.ref a1, .int 5, .int sl, .int 4, .int vv])), (a1, .inl (cI, 20, .inl (upd fa 4 1)))]) [0, 1] rfl) (hD.sub (ws' := [(aa, .inr (0, [.ref a1, .int 5, .int sl, .int 4, .int vv])), (a1, .inl (cI, 20, .inl (upd fa 4 1)))]) [0, 1] (by decide) rfl) hS (Nat.le_of_ble_eq_true rfl) (Nat.le_of_ble_eq_true rfl) dX0_ask_122

set_option maxHeartbeats 4000000 in
set_option maxRecDepth 100000 in
theorem c_ask_4_0_1_3_3 (l : Launch) (D : va_G) (cI cZ cQ cT : ClassId) (sz : Nat) (aa : Nat) (xx : Int32) (a1 : Nat) (sl : Int32) (vv : Int32) (fa : Nat → Int32)  : MetI l yX0_ask cX0_ask 7 .int ({ frames := 2, cells := 0, slots := 0, locals := 50 } : Room) [.ref aa, .int 0, .int 1, .int xx, .int 3] D (TYS cI cZ cQ cT) EF sz [(aa, .inr (0, [.ref a1, .int 3, .int sl, .int 4, .int vv])), (a1, .inl (cI, 20, .inl fa))] (S := Unit) (fun (r : Int32) (_ : Unit) => r = ((xx + sl) - vv)) (fun _ => [(aa, .inr (0, [.ref a1, .int 5, .int sl, .int 4, .int vv])), (a1, .inl (cI, 20, .inl (upd (upd fa 3 2) 4 1)))]) := by
  refine MetI.mk (lv := [(0, .ref aa), (1, .int 0), (2, .int 1), (3, .int xx), (4, .int 3)]) (by decide +kernel) (Nat.le_of_ble_eq_true rfl) rfl ?_
  intro p e s m below meth c A ls C0 hP hD hS hX hl
  have C1 := C0
  obtain ⟨hx, hb, hr, hml, hown, hlocks, hname, hT, hN, hK, hA⟩ := C1
  refine lv_iload_n hx hb dX0_ask_0 rfl (lv_at hl 1 rfl) ?_
  refine lv_iload_n hx hb dX0_ask_1 rfl (lv_at hl 2 rfl) ?_
  refine contI (wc := []) (wr := [(aa, .inr (0, [.ref a1, .int 3, .int sl, .int 4, .int vv])), (a1, .inl (cI, 20, .inl fa))]) C0 hP hD hS [] [0, 1] rfl rfl (by decide) (by decide) 0 0 (Nat.le_of_ble_eq_true rfl) (Nat.le_of_ble_eq_true rfl) (runS (k := 2) (As := [.int 0, .int 1]) (rest := []) C0 (c_bodyOf_0_1 l D cI cZ cQ cT _ ) wc_X0_bodyOf wl_X0_48 wt_X0_bodyOf wz_X0 ⟨by decide, by decide, by decide +kernel⟩ ⟨(Nat.le_of_ble_eq_true rfl), (Nat.le_of_ble_eq_true rfl)⟩ hP hD hS EF.ok hX [] rfl (by decide) rfl hl.1 rfl (Nat.le_of_ble_eq_true rfl) dX0_ask_2 ⟨(Nat.le_of_ble_eq_true rfl), (Nat.le_of_ble_eq_true rfl)⟩) (fun r_3 u_1 H locs w_2 hP hD hS => ?_)
  have hP : va_P D CL [(aa, .inr (0, [.ref a1, .int 3, .int sl, .int 4, .int vv])), (a1, .inl (cI, 20, .inl fa))] H := hP
  have hD : va_D A [(aa, .inr (0, [.ref a1, .int 3, .int sl, .int 4, .int vv])), (a1, .inl (cI, 20, .inl fa))] := hD
  obtain rfl : r_3 = 2 := w_2
  refine lv_istore (lv' := [(5, .int 2), (0, .ref aa), (1, .int 0), (2, .int 1), (3, .int xx), (4, .int 3)]) hx hb dX0_ask_5 hl (by decide) rfl (fun ls hl => ?_)
  refine lv_iload hx hb dX0_ask_7 (lv_at hl 0 rfl) ?_
  refine lv_if_eq (tgt := 19) hx hb dX0_ask_9 (by decide) (fun c_0 => absurd c_0 (by decide)) (fun _ => ?_)
  refine lv_iload hx hb dX0_ask_12 (lv_at hl 5 rfl) ?_
  refine lv_bipush (v := 40) hx hb dX0_ask_14 (by decide) ?_
  refine lv_icmp_le (tgt := 21) hx hb dX0_ask_16 (by decide) (fun _ => ?_) (fun c_0 => absurd (by decide) c_0)
  refine lv_aload_n hx hb dX0_ask_21 rfl (lv_at hl 1 rfl) ?_
  refine lv_iload hx hb dX0_ask_22 (lv_at hl 0 rfl) ?_
  refine contV (wc := [(aa, .inr (0, [.ref a1, .int 3, .int sl, .int 4, .int vv])), (a1, .inl (cI, 20, .inl fa))]) (wr := []) C0 hP hD hS [0, 1] [] rfl rfl (by decide) (by decide) 0 0 (Nat.le_of_ble_eq_true rfl) (Nat.le_of_ble_eq_true rfl) (runV (k := 1) (As := [.int 2]) (rest := []) C0 (c_begin_3 l D cI cZ cQ cT _ aa 2 a1 sl 4 vv fa) wc_X0_begin wl_X0_52 wi_X0_begin we_X0_begin wz_X0 ⟨by decide, by decide, by decide +kernel⟩ ⟨(Nat.le_of_ble_eq_true rfl), (Nat.le_of_ble_eq_true rfl)⟩ hP hD hS EF.ok hX [0, 1] rfl (by decide) 0 rfl rfl rfl rfl hl.1 rfl (Nat.le_of_ble_eq_true rfl) dX0_ask_24 ⟨(Nat.le_of_ble_eq_true rfl), (Nat.le_of_ble_eq_true rfl)⟩) (fun u_4 H locs w_5 hP hD hS => ?_)
  have hP : va_P D CL [(aa, .inr (0, [.ref a1, .int 4, .int sl, .int 4, .int vv])), (a1, .inl (cI, 20, .inl (upd fa 3 (2 : Int32))))] H := hP
  have hD : va_D A [(aa, .inr (0, [.ref a1, .int 4, .int sl, .int 4, .int vv])), (a1, .inl (cI, 20, .inl (upd fa 3 (2 : Int32))))] := hD
  refine lv_iload hx hb dX0_ask_27 (lv_at hl 5 rfl) ?_
  refine lv_iconst (v := 1) hx hb dX0_ask_29 (by decide) ?_
  refine lv_iadd hx hb dX0_ask_30 ?_
  refine lv_ci 4 (by decide +kernel) ?_
  refine lv_istore (lv' := [(6, .int 4), (5, .int 2), (0, .ref aa), (1, .int 0), (2, .int 1), (3, .int xx), (4, .int 3)]) hx hb dX0_ask_31 hl (by decide) rfl (fun ls hl => ?_)
  refine lv_iload hx hb dX0_ask_33 (lv_at hl 1 rfl) ?_
  refine lv_lookup (off := 88) (tgt := 123) hx hb dX0_ask_35 (by decide) (by decide) (by decide) ?_
  refine lv_aload_n hx hb dX0_ask_123 rfl (lv_at hl 2 rfl) ?_
  refine lv_aload_n hx hb dX0_ask_124 rfl (lv_at hl 2 rfl) ?_
  refine va_get (ci := 0) (v := .int 4) (C := RX0) (T := TX0) (N := 5) hx hb hT wu_X0 hown hK hP 0 rfl rfl 3 (by decide) (hT _ wf_X0_31) (fun _ h9 => h9) rfl dX0_ask_125 ?_
  refine lv_iconst (v := 0) hx hb dX0_ask_128 (by decide) ?_
  refine lv_iload_n hx hb dX0_ask_129 rfl (lv_at hl 5 rfl) ?_
  refine lv_iload hx hb dX0_ask_130 (lv_at hl 0 rfl) ?_
  refine contI (wc := [(aa, .inr (0, [.ref a1, .int 4, .int sl, .int 4, .int vv])), (a1, .inl (cI, 20, .inl (upd fa 3 (2 : Int32))))]) (wr := []) C0 hP hD hS [0, 1] [] rfl rfl (by decide) (by decide) 0 0 (Nat.le_of_ble_eq_true rfl) (Nat.le_of_ble_eq_true rfl) (runV (k := 4) (As := [.int 4, .int 0, .int xx, .int 4]) (rest := []) C0 (c_ask_4_4_0_4_4 l D cI cZ cQ cT _ aa xx a1 sl vv (upd fa 3 (2 : Int32))) wc_X0_ask wl_X0_38 wi_X0_ask we_X0_ask wz_X0 ⟨by decide, by decide, by decide +kernel⟩ ⟨(Nat.le_of_ble_eq_true rfl), (Nat.le_of_ble_eq_true rfl)⟩ hP hD hS EF.ok hX [0, 1] rfl (by decide) 0 rfl rfl rfl rfl hl.1 rfl (Nat.le_of_ble_eq_true rfl) dX0_ask_132 ⟨(Nat.le_of_ble_eq_true rfl), (Nat.le_of_ble_eq_true rfl)⟩) (fun r_9 u_7 H locs w_8 hP hD hS => ?_)
  have hP : va_P D CL [(aa, .inr (0, [.ref a1, .int 5, .int sl, .int 4, .int vv])), (a1, .inl (cI, 20, .inl (upd (upd fa 3 (2 : Int32)) 4 1)))] H := hP
  have hD : va_D A [(aa, .inr (0, [.ref a1, .int 5, .int sl, .int 4, .int vv])), (a1, .inl (cI, 20, .inl (upd (upd fa 3 (2 : Int32)) 4 1)))] := hD
  obtain rfl : r_9 = (xx + sl) := w_8
  refine lv_aload_n hx hb dX0_ask_135 rfl (lv_at hl 2 rfl) ?_
  refine va_get (ci := 0) (v := .int vv) (C := RX0) (T := TX0) (N := 5) hx hb hT wu_X0 hown hK hP 0 rfl rfl 4 (by decide) (hT _ wf_X0_36) (fun _ h9 => h9) rfl dX0_ask_136 ?_
  refine lv_isub hx hb dX0_ask_139 ?_
  exact retI C0 rfl () rfl (hP.sub (ws' := [(aa, .inr (0, [.ref a1, .int 5, .int sl, .int 4, .int vv])), (a1, .inl (cI, 20, .inl (upd (upd fa 3 2) 4 1)))]) [0, 1] rfl) (hD.sub (ws' := [(aa, .inr (0, [.ref a1, .int 5, .int sl, .int 4, .int vv])), (a1, .inl (cI, 20, .inl (upd (upd fa 3 2) 4 1)))]) [0, 1] (by decide) rfl) hS (Nat.le_of_ble_eq_true rfl) (Nat.le_of_ble_eq_true rfl) dX0_ask_140

set_option maxHeartbeats 4000000 in
set_option maxRecDepth 100000 in
theorem c_ask_4_4_1_2_2 (l : Launch) (D : va_G) (cI cZ cQ cT : ClassId) (sz : Nat) (aa : Nat) (xx : Int32) (a1 : Nat) (sl : Int32) (vv : Int32) (fa : Nat → Int32)  : MetI l yX0_ask cX0_ask 7 .int ({ frames := 3, cells := 0, slots := 0, locals := 76 } : Room) [.ref aa, .int 4, .int 1, .int xx, .int 2] D (TYS cI cZ cQ cT) EF sz [(aa, .inr (0, [.ref a1, .int 2, .int sl, .int 4, .int vv])), (a1, .inl (cI, 20, .inl fa))] (S := Unit) (fun (r : Int32) (_ : Unit) => r = (-((xx + sl) - vv))) (fun _ => [(aa, .inr (0, [.ref a1, .int 5, .int sl, .int 4, .int vv])), (a1, .inl (cI, 20, .inl (upd (upd (upd fa 2 21) 3 2) 4 1)))]) := by
  refine MetI.mk (lv := [(0, .ref aa), (1, .int 4), (2, .int 1), (3, .int xx), (4, .int 2)]) (by decide +kernel) (Nat.le_of_ble_eq_true rfl) rfl ?_
  intro p e s m below meth c A ls C0 hP hD hS hX hl
  have C1 := C0
  obtain ⟨hx, hb, hr, hml, hown, hlocks, hname, hT, hN, hK, hA⟩ := C1
  refine lv_iload_n hx hb dX0_ask_0 rfl (lv_at hl 1 rfl) ?_
  refine lv_iload_n hx hb dX0_ask_1 rfl (lv_at hl 2 rfl) ?_
  refine contI (wc := []) (wr := [(aa, .inr (0, [.ref a1, .int 2, .int sl, .int 4, .int vv])), (a1, .inl (cI, 20, .inl fa))]) C0 hP hD hS [] [0, 1] rfl rfl (by decide) (by decide) 0 0 (Nat.le_of_ble_eq_true rfl) (Nat.le_of_ble_eq_true rfl) (runS (k := 2) (As := [.int 4, .int 1]) (rest := []) C0 (c_bodyOf_4_1 l D cI cZ cQ cT _ ) wc_X0_bodyOf wl_X0_48 wt_X0_bodyOf wz_X0 ⟨by decide, by decide, by decide +kernel⟩ ⟨(Nat.le_of_ble_eq_true rfl), (Nat.le_of_ble_eq_true rfl)⟩ hP hD hS EF.ok hX [] rfl (by decide) rfl hl.1 rfl (Nat.le_of_ble_eq_true rfl) dX0_ask_2 ⟨(Nat.le_of_ble_eq_true rfl), (Nat.le_of_ble_eq_true rfl)⟩) (fun r_3 u_1 H locs w_2 hP hD hS => ?_)
  have hP : va_P D CL [(aa, .inr (0, [.ref a1, .int 2, .int sl, .int 4, .int vv])), (a1, .inl (cI, 20, .inl fa))] H := hP
  have hD : va_D A [(aa, .inr (0, [.ref a1, .int 2, .int sl, .int 4, .int vv])), (a1, .inl (cI, 20, .inl fa))] := hD
  obtain rfl : r_3 = 21 := w_2
  refine lv_istore (lv' := [(5, .int 21), (0, .ref aa), (1, .int 4), (2, .int 1), (3, .int xx), (4, .int 2)]) hx hb dX0_ask_5 hl (by decide) rfl (fun ls hl => ?_)
  refine lv_iload hx hb dX0_ask_7 (lv_at hl 0 rfl) ?_
  refine lv_if_eq (tgt := 19) hx hb dX0_ask_9 (by decide) (fun c_0 => absurd c_0 (by decide)) (fun _ => ?_)
  refine lv_iload hx hb dX0_ask_12 (lv_at hl 5 rfl) ?_
  refine lv_bipush (v := 40) hx hb dX0_ask_14 (by decide) ?_
  refine lv_icmp_le (tgt := 21) hx hb dX0_ask_16 (by decide) (fun _ => ?_) (fun c_0 => absurd (by decide) c_0)
  refine lv_aload_n hx hb dX0_ask_21 rfl (lv_at hl 1 rfl) ?_
  refine lv_iload hx hb dX0_ask_22 (lv_at hl 0 rfl) ?_
  refine contV (wc := [(aa, .inr (0, [.ref a1, .int 2, .int sl, .int 4, .int vv])), (a1, .inl (cI, 20, .inl fa))]) (wr := []) C0 hP hD hS [0, 1] [] rfl rfl (by decide) (by decide) 0 0 (Nat.le_of_ble_eq_true rfl) (Nat.le_of_ble_eq_true rfl) (runV (k := 1) (As := [.int 21]) (rest := []) C0 (c_begin_2 l D cI cZ cQ cT _ aa 21 a1 sl 4 vv fa) wc_X0_begin wl_X0_52 wi_X0_begin we_X0_begin wz_X0 ⟨by decide, by decide, by decide +kernel⟩ ⟨(Nat.le_of_ble_eq_true rfl), (Nat.le_of_ble_eq_true rfl)⟩ hP hD hS EF.ok hX [0, 1] rfl (by decide) 0 rfl rfl rfl rfl hl.1 rfl (Nat.le_of_ble_eq_true rfl) dX0_ask_24 ⟨(Nat.le_of_ble_eq_true rfl), (Nat.le_of_ble_eq_true rfl)⟩) (fun u_4 H locs w_5 hP hD hS => ?_)
  have hP : va_P D CL [(aa, .inr (0, [.ref a1, .int 3, .int sl, .int 4, .int vv])), (a1, .inl (cI, 20, .inl (upd fa 2 (21 : Int32))))] H := hP
  have hD : va_D A [(aa, .inr (0, [.ref a1, .int 3, .int sl, .int 4, .int vv])), (a1, .inl (cI, 20, .inl (upd fa 2 (21 : Int32))))] := hD
  refine lv_iload hx hb dX0_ask_27 (lv_at hl 5 rfl) ?_
  refine lv_iconst (v := 1) hx hb dX0_ask_29 (by decide) ?_
  refine lv_iadd hx hb dX0_ask_30 ?_
  refine lv_ci 3 (by decide +kernel) ?_
  refine lv_istore (lv' := [(6, .int 3), (5, .int 21), (0, .ref aa), (1, .int 4), (2, .int 1), (3, .int xx), (4, .int 2)]) hx hb dX0_ask_31 hl (by decide) rfl (fun ls hl => ?_)
  refine lv_iload hx hb dX0_ask_33 (lv_at hl 1 rfl) ?_
  refine lv_lookup (off := 133) (tgt := 168) hx hb dX0_ask_35 (by decide) (by decide) (by decide) ?_
  refine lv_aload_n hx hb dX0_ask_168 rfl (lv_at hl 2 rfl) ?_
  refine lv_iconst (v := 0) hx hb dX0_ask_169 (by decide) ?_
  refine lv_iconst (v := 1) hx hb dX0_ask_170 (by decide) ?_
  refine lv_iload_n hx hb dX0_ask_171 rfl (lv_at hl 5 rfl) ?_
  refine lv_iload hx hb dX0_ask_172 (lv_at hl 0 rfl) ?_
  refine contI (wc := [(aa, .inr (0, [.ref a1, .int 3, .int sl, .int 4, .int vv])), (a1, .inl (cI, 20, .inl (upd fa 2 (21 : Int32))))]) (wr := []) C0 hP hD hS [0, 1] [] rfl rfl (by decide) (by decide) 0 0 (Nat.le_of_ble_eq_true rfl) (Nat.le_of_ble_eq_true rfl) (runV (k := 4) (As := [.int 0, .int 1, .int xx, .int 3]) (rest := []) C0 (c_ask_4_0_1_3_3 l D cI cZ cQ cT _ aa xx a1 sl vv (upd fa 2 (21 : Int32))) wc_X0_ask wl_X0_38 wi_X0_ask we_X0_ask wz_X0 ⟨by decide, by decide, by decide +kernel⟩ ⟨(Nat.le_of_ble_eq_true rfl), (Nat.le_of_ble_eq_true rfl)⟩ hP hD hS EF.ok hX [0, 1] rfl (by decide) 0 rfl rfl rfl rfl hl.1 rfl (Nat.le_of_ble_eq_true rfl) dX0_ask_174 ⟨(Nat.le_of_ble_eq_true rfl), (Nat.le_of_ble_eq_true rfl)⟩) (fun r_9 u_7 H locs w_8 hP hD hS => ?_)
  have hP : va_P D CL [(aa, .inr (0, [.ref a1, .int 5, .int sl, .int 4, .int vv])), (a1, .inl (cI, 20, .inl (upd (upd (upd fa 2 (21 : Int32)) 3 2) 4 1)))] H := hP
  have hD : va_D A [(aa, .inr (0, [.ref a1, .int 5, .int sl, .int 4, .int vv])), (a1, .inl (cI, 20, .inl (upd (upd (upd fa 2 (21 : Int32)) 3 2) 4 1)))] := hD
  obtain rfl : r_9 = ((xx + sl) - vv) := w_8
  refine lv_ineg hx hb dX0_ask_177 ?_
  exact retI C0 rfl () rfl (hP.sub (ws' := [(aa, .inr (0, [.ref a1, .int 5, .int sl, .int 4, .int vv])), (a1, .inl (cI, 20, .inl (upd (upd (upd fa 2 21) 3 2) 4 1)))]) [0, 1] rfl) (hD.sub (ws' := [(aa, .inr (0, [.ref a1, .int 5, .int sl, .int 4, .int vv])), (a1, .inl (cI, 20, .inl (upd (upd (upd fa 2 21) 3 2) 4 1)))]) [0, 1] (by decide) rfl) hS (Nat.le_of_ble_eq_true rfl) (Nat.le_of_ble_eq_true rfl) dX0_ask_178

set_option maxHeartbeats 4000000 in
set_option maxRecDepth 100000 in
theorem c_ask_4_2_2_1_1 (l : Launch) (D : va_G) (cI cZ cQ cT : ClassId) (sz : Nat) (aa : Nat) (xx : Int32) (a1 : Nat) (sl : Int32) (vv : Int32) (fa : Nat → Int32)  : MetI l yX0_ask cX0_ask 7 .int ({ frames := 4, cells := 0, slots := 0, locals := 102 } : Room) [.ref aa, .int 2, .int 2, .int xx, .int 1] D (TYS cI cZ cQ cT) EF sz [(aa, .inr (0, [.ref a1, .int 1, .int sl, .int 4, .int vv])), (a1, .inl (cI, 20, .inl fa))] (S := Unit) (fun (r : Int32) (_ : Unit) => r = ((-((xx + sl) - vv)) * (2 : Int32))) (fun _ => [(aa, .inr (0, [.ref a1, .int 5, .int sl, .int 4, .int vv])), (a1, .inl (cI, 20, .inl (upd (upd (upd (upd fa 1 3) 2 21) 3 2) 4 1)))]) := by
  refine MetI.mk (lv := [(0, .ref aa), (1, .int 2), (2, .int 2), (3, .int xx), (4, .int 1)]) (by decide +kernel) (Nat.le_of_ble_eq_true rfl) rfl ?_
  intro p e s m below meth c A ls C0 hP hD hS hX hl
  have C1 := C0
  obtain ⟨hx, hb, hr, hml, hown, hlocks, hname, hT, hN, hK, hA⟩ := C1
  refine lv_iload_n hx hb dX0_ask_0 rfl (lv_at hl 1 rfl) ?_
  refine lv_iload_n hx hb dX0_ask_1 rfl (lv_at hl 2 rfl) ?_
  refine contI (wc := []) (wr := [(aa, .inr (0, [.ref a1, .int 1, .int sl, .int 4, .int vv])), (a1, .inl (cI, 20, .inl fa))]) C0 hP hD hS [] [0, 1] rfl rfl (by decide) (by decide) 0 0 (Nat.le_of_ble_eq_true rfl) (Nat.le_of_ble_eq_true rfl) (runS (k := 2) (As := [.int 2, .int 2]) (rest := []) C0 (c_bodyOf_2_2 l D cI cZ cQ cT _ ) wc_X0_bodyOf wl_X0_48 wt_X0_bodyOf wz_X0 ⟨by decide, by decide, by decide +kernel⟩ ⟨(Nat.le_of_ble_eq_true rfl), (Nat.le_of_ble_eq_true rfl)⟩ hP hD hS EF.ok hX [] rfl (by decide) rfl hl.1 rfl (Nat.le_of_ble_eq_true rfl) dX0_ask_2 ⟨(Nat.le_of_ble_eq_true rfl), (Nat.le_of_ble_eq_true rfl)⟩) (fun r_3 u_1 H locs w_2 hP hD hS => ?_)
  have hP : va_P D CL [(aa, .inr (0, [.ref a1, .int 1, .int sl, .int 4, .int vv])), (a1, .inl (cI, 20, .inl fa))] H := hP
  have hD : va_D A [(aa, .inr (0, [.ref a1, .int 1, .int sl, .int 4, .int vv])), (a1, .inl (cI, 20, .inl fa))] := hD
  obtain rfl : r_3 = 3 := w_2
  refine lv_istore (lv' := [(5, .int 3), (0, .ref aa), (1, .int 2), (2, .int 2), (3, .int xx), (4, .int 1)]) hx hb dX0_ask_5 hl (by decide) rfl (fun ls hl => ?_)
  refine lv_iload hx hb dX0_ask_7 (lv_at hl 0 rfl) ?_
  refine lv_if_eq (tgt := 19) hx hb dX0_ask_9 (by decide) (fun c_0 => absurd c_0 (by decide)) (fun _ => ?_)
  refine lv_iload hx hb dX0_ask_12 (lv_at hl 5 rfl) ?_
  refine lv_bipush (v := 40) hx hb dX0_ask_14 (by decide) ?_
  refine lv_icmp_le (tgt := 21) hx hb dX0_ask_16 (by decide) (fun _ => ?_) (fun c_0 => absurd (by decide) c_0)
  refine lv_aload_n hx hb dX0_ask_21 rfl (lv_at hl 1 rfl) ?_
  refine lv_iload hx hb dX0_ask_22 (lv_at hl 0 rfl) ?_
  refine contV (wc := [(aa, .inr (0, [.ref a1, .int 1, .int sl, .int 4, .int vv])), (a1, .inl (cI, 20, .inl fa))]) (wr := []) C0 hP hD hS [0, 1] [] rfl rfl (by decide) (by decide) 0 0 (Nat.le_of_ble_eq_true rfl) (Nat.le_of_ble_eq_true rfl) (runV (k := 1) (As := [.int 3]) (rest := []) C0 (c_begin_1 l D cI cZ cQ cT _ aa 3 a1 sl 4 vv fa) wc_X0_begin wl_X0_52 wi_X0_begin we_X0_begin wz_X0 ⟨by decide, by decide, by decide +kernel⟩ ⟨(Nat.le_of_ble_eq_true rfl), (Nat.le_of_ble_eq_true rfl)⟩ hP hD hS EF.ok hX [0, 1] rfl (by decide) 0 rfl rfl rfl rfl hl.1 rfl (Nat.le_of_ble_eq_true rfl) dX0_ask_24 ⟨(Nat.le_of_ble_eq_true rfl), (Nat.le_of_ble_eq_true rfl)⟩) (fun u_4 H locs w_5 hP hD hS => ?_)
  have hP : va_P D CL [(aa, .inr (0, [.ref a1, .int 2, .int sl, .int 4, .int vv])), (a1, .inl (cI, 20, .inl (upd fa 1 (3 : Int32))))] H := hP
  have hD : va_D A [(aa, .inr (0, [.ref a1, .int 2, .int sl, .int 4, .int vv])), (a1, .inl (cI, 20, .inl (upd fa 1 (3 : Int32))))] := hD
  refine lv_iload hx hb dX0_ask_27 (lv_at hl 5 rfl) ?_
  refine lv_iconst (v := 1) hx hb dX0_ask_29 (by decide) ?_
  refine lv_iadd hx hb dX0_ask_30 ?_
  refine lv_ci 2 (by decide +kernel) ?_
  refine lv_istore (lv' := [(6, .int 2), (5, .int 3), (0, .ref aa), (1, .int 2), (2, .int 2), (3, .int xx), (4, .int 1)]) hx hb dX0_ask_31 hl (by decide) rfl (fun ls hl => ?_)
  refine lv_iload hx hb dX0_ask_33 (lv_at hl 1 rfl) ?_
  refine lv_lookup (off := 106) (tgt := 141) hx hb dX0_ask_35 (by decide) (by decide) (by decide) ?_
  refine lv_aload_n hx hb dX0_ask_141 rfl (lv_at hl 2 rfl) ?_
  refine lv_aload_n hx hb dX0_ask_142 rfl (lv_at hl 2 rfl) ?_
  refine va_get (ci := 0) (v := .int 4) (C := RX0) (T := TX0) (N := 5) hx hb hT wu_X0 hown hK hP 0 rfl rfl 3 (by decide) (hT _ wf_X0_31) (fun _ h9 => h9) rfl dX0_ask_143 ?_
  refine lv_iconst (v := 1) hx hb dX0_ask_146 (by decide) ?_
  refine lv_iload_n hx hb dX0_ask_147 rfl (lv_at hl 5 rfl) ?_
  refine lv_iload hx hb dX0_ask_148 (lv_at hl 0 rfl) ?_
  refine contI (wc := [(aa, .inr (0, [.ref a1, .int 2, .int sl, .int 4, .int vv])), (a1, .inl (cI, 20, .inl (upd fa 1 (3 : Int32))))]) (wr := []) C0 hP hD hS [0, 1] [] rfl rfl (by decide) (by decide) 0 0 (Nat.le_of_ble_eq_true rfl) (Nat.le_of_ble_eq_true rfl) (runV (k := 4) (As := [.int 4, .int 1, .int xx, .int 2]) (rest := []) C0 (c_ask_4_4_1_2_2 l D cI cZ cQ cT _ aa xx a1 sl vv (upd fa 1 (3 : Int32))) wc_X0_ask wl_X0_38 wi_X0_ask we_X0_ask wz_X0 ⟨by decide, by decide, by decide +kernel⟩ ⟨(Nat.le_of_ble_eq_true rfl), (Nat.le_of_ble_eq_true rfl)⟩ hP hD hS EF.ok hX [0, 1] rfl (by decide) 0 rfl rfl rfl rfl hl.1 rfl (Nat.le_of_ble_eq_true rfl) dX0_ask_150 ⟨(Nat.le_of_ble_eq_true rfl), (Nat.le_of_ble_eq_true rfl)⟩) (fun r_9 u_7 H locs w_8 hP hD hS => ?_)
  have hP : va_P D CL [(aa, .inr (0, [.ref a1, .int 5, .int sl, .int 4, .int vv])), (a1, .inl (cI, 20, .inl (upd (upd (upd (upd fa 1 (3 : Int32)) 2 21) 3 2) 4 1)))] H := hP
  have hD : va_D A [(aa, .inr (0, [.ref a1, .int 5, .int sl, .int 4, .int vv])), (a1, .inl (cI, 20, .inl (upd (upd (upd (upd fa 1 (3 : Int32)) 2 21) 3 2) 4 1)))] := hD
  obtain rfl : r_9 = (-((xx + sl) - vv)) := w_8
  refine lv_iconst (v := 2) hx hb dX0_ask_153 (by decide) ?_
  refine lv_imul hx hb dX0_ask_154 ?_
  exact retI C0 rfl () rfl (hP.sub (ws' := [(aa, .inr (0, [.ref a1, .int 5, .int sl, .int 4, .int vv])), (a1, .inl (cI, 20, .inl (upd (upd (upd (upd fa 1 3) 2 21) 3 2) 4 1)))]) [0, 1] rfl) (hD.sub (ws' := [(aa, .inr (0, [.ref a1, .int 5, .int sl, .int 4, .int vv])), (a1, .inl (cI, 20, .inl (upd (upd (upd (upd fa 1 3) 2 21) 3 2) 4 1)))]) [0, 1] (by decide) rfl) hS (Nat.le_of_ble_eq_true rfl) (Nat.le_of_ble_eq_true rfl) dX0_ask_155

set_option maxHeartbeats 4000000 in
set_option maxRecDepth 100000 in
theorem c_begin_5 (l : Launch) (D : va_G) (cI cZ cQ cT : ClassId) (sz : Nat) (aa : Nat) (bd : Int32) (a1 : Nat) (sl : Int32) (kd : Int32) (vv : Int32) (fa : Nat → Int32)  : MetV l yX0_begin cX0_begin 2 ({ frames := 0, cells := 0, slots := 0, locals := 0 } : Room) [.ref aa, .int bd] D (TYS cI cZ cQ cT) EF sz [(aa, .inr (0, [.ref a1, .int 5, .int sl, .int kd, .int vv])), (a1, .inl (cI, 20, .inl fa))] (S := Unit) (fun (_ : Unit) => True) (fun _ => [(aa, .inr (0, [.ref a1, .int 6, .int sl, .int kd, .int vv])), (a1, .inl (cI, 20, .inl (upd fa 5 bd)))]) := by
  refine MetV.mk (lv := [(0, .ref aa), (1, .int bd)]) (by decide +kernel) (Nat.le_of_ble_eq_true rfl) rfl ?_
  intro p e s m below meth c A ls C0 hP hD hS hX hl
  have C1 := C0
  obtain ⟨hx, hb, hr, hml, hown, hlocks, hname, hT, hN, hK, hA⟩ := C1
  refine lv_aload_n hx hb dX0_begin_0 rfl (lv_at hl 0 rfl) ?_
  refine va_get (ci := 0) (v := .int 5) (C := RX0) (T := TX0) (N := 5) hx hb hT wu_X0 hown hK hP 0 rfl rfl 1 (by decide) (hT _ wf_X0_15) (fun _ h9 => h9) rfl dX0_begin_1 ?_
  refine lv_if_lt (tgt := 26) hx hb dX0_begin_4 (by decide) (fun c_0 => absurd c_0 (by decide)) (fun _ => ?_)
  refine lv_aload_n hx hb dX0_begin_7 rfl (lv_at hl 0 rfl) ?_
  refine va_get (ci := 0) (v := .int 5) (C := RX0) (T := TX0) (N := 5) hx hb hT wu_X0 hown hK hP 0 rfl rfl 1 (by decide) (hT _ wf_X0_15) (fun _ h9 => h9) rfl dX0_begin_8 ?_
  refine lv_bipush (v := 20) hx hb dX0_begin_11 (by decide) ?_
  refine lv_icmp_ge (tgt := 26) hx hb dX0_begin_13 (by decide) (fun c_0 => absurd c_0 (by decide)) (fun _ => ?_)
  refine lv_aload_n hx hb dX0_begin_16 rfl (lv_at hl 0 rfl) ?_
  refine va_get (ci := 0) (v := .ref a1) (C := RX0) (T := TX0) (N := 5) hx hb hT wu_X0 hown hK hP 0 rfl rfl 0 (by decide) (hT _ wf_X0_11) (fun _ h9 => h9) rfl dX0_begin_17 ?_
  refine lv_aload_n hx hb dX0_begin_20 rfl (lv_at hl 0 rfl) ?_
  refine va_get (ci := 0) (v := .int 5) (C := RX0) (T := TX0) (N := 5) hx hb hT wu_X0 hown hK hP 0 rfl rfl 1 (by decide) (hT _ wf_X0_15) (fun _ h9 => h9) rfl dX0_begin_21 ?_
  refine lv_iload_n hx hb dX0_begin_24 rfl (lv_at hl 1 rfl) ?_
  refine va_iast hx hb hK hP hD hS 1 0 rfl rfl (vin _ _ (by decide +kernel)) dX0_begin_25 (fun H locs hP hD hS => ?_)
  have hP : va_P D CL [(aa, .inr (0, [.ref a1, .int 5, .int sl, .int kd, .int vv])), (a1, .inl (cI, 20, .inl (upd fa ((5 : Int32)).toNatClampNeg bd)))] H := hP
  have hD : va_D A [(aa, .inr (0, [.ref a1, .int 5, .int sl, .int kd, .int vv])), (a1, .inl (cI, 20, .inl (upd fa ((5 : Int32)).toNatClampNeg bd)))] := hD
  rw [show ((5 : Int32)).toNatClampNeg = 5 from nI_clamp (n := 5) (by decide)] at hP hD
  have hP : va_P D CL [(aa, .inr (0, [.ref a1, .int 5, .int sl, .int kd, .int vv])), (a1, .inl (cI, 20, .inl (upd fa 5 bd)))] H := hP
  have hD : va_D A [(aa, .inr (0, [.ref a1, .int 5, .int sl, .int kd, .int vv])), (a1, .inl (cI, 20, .inl (upd fa 5 bd)))] := hD
  refine lv_aload_n hx hb dX0_begin_26 rfl (lv_at hl 0 rfl) ?_
  refine lv_dup hx hb dX0_begin_27 rfl ?_
  refine va_get (ci := 0) (v := .int 5) (C := RX0) (T := TX0) (N := 5) hx hb hT wu_X0 hown hK hP 0 rfl rfl 1 (by decide) (hT _ wf_X0_15) (fun _ h9 => h9) rfl dX0_begin_28 ?_
  refine lv_iconst (v := 1) hx hb dX0_begin_31 (by decide) ?_
  refine lv_iadd hx hb dX0_begin_32 ?_
  refine lv_ci 6 (by decide +kernel) ?_
  refine va_put (ci := 0) (v := .int 6) (ty := .int) (C := RX0) (T := TX0) (N := 5) hx hb hT wu_X0 tyX0 tyX0_ok nmX0 hown hK hP hD hS 0 rfl rfl 1 (by decide) (hT _ wf_X0_15) (fun _ h9 => h9) rfl (by decide +kernel) rfl rfl (Nat.le_of_ble_eq_true rfl) dX0_begin_33 (fun H locs hP hD hS => ?_)
  have hP : va_P D CL [(aa, .inr (0, [.ref a1, .int 6, .int sl, .int kd, .int vv])), (a1, .inl (cI, 20, .inl (upd fa 5 bd)))] H := hP
  have hD : va_D A [(aa, .inr (0, [.ref a1, .int 6, .int sl, .int kd, .int vv])), (a1, .inl (cI, 20, .inl (upd fa 5 bd)))] := hD
  exact retV C0 () trivial (hP.sub (ws' := [(aa, .inr (0, [.ref a1, .int 6, .int sl, .int kd, .int vv])), (a1, .inl (cI, 20, .inl (upd fa 5 bd)))]) [0, 1] rfl) (hD.sub (ws' := [(aa, .inr (0, [.ref a1, .int 6, .int sl, .int kd, .int vv])), (a1, .inl (cI, 20, .inl (upd fa 5 bd)))]) [0, 1] (by decide) rfl) hS (Nat.le_of_ble_eq_true rfl) (Nat.le_of_ble_eq_true rfl) dX0_begin_36

set_option maxHeartbeats 4000000 in
set_option maxRecDepth 100000 in
theorem c_ask_4_4_0_5_1 (l : Launch) (D : va_G) (cI cZ cQ cT : ClassId) (sz : Nat) (aa : Nat) (xx : Int32) (a1 : Nat) (sl : Int32) (vv : Int32) (fa : Nat → Int32)  : MetI l yX0_ask cX0_ask 7 .int ({ frames := 1, cells := 0, slots := 0, locals := 24 } : Room) [.ref aa, .int 4, .int 0, .int xx, .int 1] D (TYS cI cZ cQ cT) EF sz [(aa, .inr (0, [.ref a1, .int 5, .int sl, .int 4, .int vv])), (a1, .inl (cI, 20, .inl fa))] (S := Unit) (fun (r : Int32) (_ : Unit) => r = (xx + sl)) (fun _ => [(aa, .inr (0, [.ref a1, .int 6, .int sl, .int 4, .int vv])), (a1, .inl (cI, 20, .inl (upd fa 5 1)))]) := by
  refine MetI.mk (lv := [(0, .ref aa), (1, .int 4), (2, .int 0), (3, .int xx), (4, .int 1)]) (by decide +kernel) (Nat.le_of_ble_eq_true rfl) rfl ?_
  intro p e s m below meth c A ls C0 hP hD hS hX hl
  have C1 := C0
  obtain ⟨hx, hb, hr, hml, hown, hlocks, hname, hT, hN, hK, hA⟩ := C1
  refine lv_iload_n hx hb dX0_ask_0 rfl (lv_at hl 1 rfl) ?_
  refine lv_iload_n hx hb dX0_ask_1 rfl (lv_at hl 2 rfl) ?_
  refine contI (wc := []) (wr := [(aa, .inr (0, [.ref a1, .int 5, .int sl, .int 4, .int vv])), (a1, .inl (cI, 20, .inl fa))]) C0 hP hD hS [] [0, 1] rfl rfl (by decide) (by decide) 0 0 (Nat.le_of_ble_eq_true rfl) (Nat.le_of_ble_eq_true rfl) (runS (k := 2) (As := [.int 4, .int 0]) (rest := []) C0 (c_bodyOf_4_0 l D cI cZ cQ cT _ ) wc_X0_bodyOf wl_X0_48 wt_X0_bodyOf wz_X0 ⟨by decide, by decide, by decide +kernel⟩ ⟨(Nat.le_of_ble_eq_true rfl), (Nat.le_of_ble_eq_true rfl)⟩ hP hD hS EF.ok hX [] rfl (by decide) rfl hl.1 rfl (Nat.le_of_ble_eq_true rfl) dX0_ask_2 ⟨(Nat.le_of_ble_eq_true rfl), (Nat.le_of_ble_eq_true rfl)⟩) (fun r_3 u_1 H locs w_2 hP hD hS => ?_)
  have hP : va_P D CL [(aa, .inr (0, [.ref a1, .int 5, .int sl, .int 4, .int vv])), (a1, .inl (cI, 20, .inl fa))] H := hP
  have hD : va_D A [(aa, .inr (0, [.ref a1, .int 5, .int sl, .int 4, .int vv])), (a1, .inl (cI, 20, .inl fa))] := hD
  obtain rfl : r_3 = 1 := w_2
  refine lv_istore (lv' := [(5, .int 1), (0, .ref aa), (1, .int 4), (2, .int 0), (3, .int xx), (4, .int 1)]) hx hb dX0_ask_5 hl (by decide) rfl (fun ls hl => ?_)
  refine lv_iload hx hb dX0_ask_7 (lv_at hl 0 rfl) ?_
  refine lv_if_eq (tgt := 19) hx hb dX0_ask_9 (by decide) (fun c_0 => absurd c_0 (by decide)) (fun _ => ?_)
  refine lv_iload hx hb dX0_ask_12 (lv_at hl 5 rfl) ?_
  refine lv_bipush (v := 40) hx hb dX0_ask_14 (by decide) ?_
  refine lv_icmp_le (tgt := 21) hx hb dX0_ask_16 (by decide) (fun _ => ?_) (fun c_0 => absurd (by decide) c_0)
  refine lv_aload_n hx hb dX0_ask_21 rfl (lv_at hl 1 rfl) ?_
  refine lv_iload hx hb dX0_ask_22 (lv_at hl 0 rfl) ?_
  refine contV (wc := [(aa, .inr (0, [.ref a1, .int 5, .int sl, .int 4, .int vv])), (a1, .inl (cI, 20, .inl fa))]) (wr := []) C0 hP hD hS [0, 1] [] rfl rfl (by decide) (by decide) 0 0 (Nat.le_of_ble_eq_true rfl) (Nat.le_of_ble_eq_true rfl) (runV (k := 1) (As := [.int 1]) (rest := []) C0 (c_begin_5 l D cI cZ cQ cT _ aa 1 a1 sl 4 vv fa) wc_X0_begin wl_X0_52 wi_X0_begin we_X0_begin wz_X0 ⟨by decide, by decide, by decide +kernel⟩ ⟨(Nat.le_of_ble_eq_true rfl), (Nat.le_of_ble_eq_true rfl)⟩ hP hD hS EF.ok hX [0, 1] rfl (by decide) 0 rfl rfl rfl rfl hl.1 rfl (Nat.le_of_ble_eq_true rfl) dX0_ask_24 ⟨(Nat.le_of_ble_eq_true rfl), (Nat.le_of_ble_eq_true rfl)⟩) (fun u_4 H locs w_5 hP hD hS => ?_)
  have hP : va_P D CL [(aa, .inr (0, [.ref a1, .int 6, .int sl, .int 4, .int vv])), (a1, .inl (cI, 20, .inl (upd fa 5 (1 : Int32))))] H := hP
  have hD : va_D A [(aa, .inr (0, [.ref a1, .int 6, .int sl, .int 4, .int vv])), (a1, .inl (cI, 20, .inl (upd fa 5 (1 : Int32))))] := hD
  refine lv_iload hx hb dX0_ask_27 (lv_at hl 5 rfl) ?_
  refine lv_iconst (v := 1) hx hb dX0_ask_29 (by decide) ?_
  refine lv_iadd hx hb dX0_ask_30 ?_
  refine lv_ci 2 (by decide +kernel) ?_
  refine lv_istore (lv' := [(6, .int 2), (5, .int 1), (0, .ref aa), (1, .int 4), (2, .int 0), (3, .int xx), (4, .int 1)]) hx hb dX0_ask_31 hl (by decide) rfl (fun ls hl => ?_)
  refine lv_iload hx hb dX0_ask_33 (lv_at hl 1 rfl) ?_
  refine lv_lookup (off := 81) (tgt := 116) hx hb dX0_ask_35 (by decide) (by decide) (by decide) ?_
  refine lv_iload_n hx hb dX0_ask_116 rfl (lv_at hl 5 rfl) ?_
  refine lv_aload_n hx hb dX0_ask_117 rfl (lv_at hl 2 rfl) ?_
  refine va_get (ci := 0) (v := .int sl) (C := RX0) (T := TX0) (N := 5) hx hb hT wu_X0 hown hK hP 0 rfl rfl 2 (by decide) (hT _ wf_X0_25) (fun _ h9 => h9) rfl dX0_ask_118 ?_
  refine lv_iadd hx hb dX0_ask_121 ?_
  exact retI C0 rfl () rfl (hP.sub (ws' := [(aa, .inr (0, [.ref a1, .int 6, .int sl, .int 4, .int vv])), (a1, .inl (cI, 20, .inl (upd fa 5 1)))]) [0, 1] rfl) (hD.sub (ws' := [(aa, .inr (0, [.ref a1, .int 6, .int sl, .int 4, .int vv])), (a1, .inl (cI, 20, .inl (upd fa 5 1)))]) [0, 1] (by decide) rfl) hS (Nat.le_of_ble_eq_true rfl) (Nat.le_of_ble_eq_true rfl) dX0_ask_122

set_option maxHeartbeats 4000000 in
set_option maxRecDepth 100000 in
theorem c_ask_4_4_2_0_0 (l : Launch) (D : va_G) (cI cZ cQ cT : ClassId) (sz : Nat) (aa : Nat) (xx : Int32) (a1 : Nat) (sl : Int32) (vv : Int32) (fa : Nat → Int32)  : MetI l yX0_ask cX0_ask 7 .int ({ frames := 5, cells := 0, slots := 0, locals := 128 } : Room) [.ref aa, .int 4, .int 2, .int xx, .int 0] D (TYS cI cZ cQ cT) EF sz [(aa, .inr (0, [.ref a1, .int 0, .int sl, .int 4, .int vv])), (a1, .inl (cI, 20, .inl fa))] (S := Unit) (fun (r : Int32) (_ : Unit) => r = (((-(((xx - (1 : Int32)) + sl) - vv)) * (2 : Int32)) + ((2 : Int32) + sl))) (fun _ => [(aa, .inr (0, [.ref a1, .int 6, .int sl, .int 4, .int vv])), (a1, .inl (cI, 20, .inl (upd (upd (upd (upd (upd (upd fa 0 41) 1 3) 2 21) 3 2) 4 1) 5 1)))]) := by
  refine MetI.mk (lv := [(0, .ref aa), (1, .int 4), (2, .int 2), (3, .int xx), (4, .int 0)]) (by decide +kernel) (Nat.le_of_ble_eq_true rfl) rfl ?_
  intro p e s m below meth c A ls C0 hP hD hS hX hl
  have C1 := C0
  obtain ⟨hx, hb, hr, hml, hown, hlocks, hname, hT, hN, hK, hA⟩ := C1
  refine lv_iload_n hx hb dX0_ask_0 rfl (lv_at hl 1 rfl) ?_
  refine lv_iload_n hx hb dX0_ask_1 rfl (lv_at hl 2 rfl) ?_
  refine contI (wc := []) (wr := [(aa, .inr (0, [.ref a1, .int 0, .int sl, .int 4, .int vv])), (a1, .inl (cI, 20, .inl fa))]) C0 hP hD hS [] [0, 1] rfl rfl (by decide) (by decide) 0 0 (Nat.le_of_ble_eq_true rfl) (Nat.le_of_ble_eq_true rfl) (runS (k := 2) (As := [.int 4, .int 2]) (rest := []) C0 (c_bodyOf_4_2 l D cI cZ cQ cT _ ) wc_X0_bodyOf wl_X0_48 wt_X0_bodyOf wz_X0 ⟨by decide, by decide, by decide +kernel⟩ ⟨(Nat.le_of_ble_eq_true rfl), (Nat.le_of_ble_eq_true rfl)⟩ hP hD hS EF.ok hX [] rfl (by decide) rfl hl.1 rfl (Nat.le_of_ble_eq_true rfl) dX0_ask_2 ⟨(Nat.le_of_ble_eq_true rfl), (Nat.le_of_ble_eq_true rfl)⟩) (fun r_3 u_1 H locs w_2 hP hD hS => ?_)
  have hP : va_P D CL [(aa, .inr (0, [.ref a1, .int 0, .int sl, .int 4, .int vv])), (a1, .inl (cI, 20, .inl fa))] H := hP
  have hD : va_D A [(aa, .inr (0, [.ref a1, .int 0, .int sl, .int 4, .int vv])), (a1, .inl (cI, 20, .inl fa))] := hD
  obtain rfl : r_3 = 41 := w_2
  refine lv_istore (lv' := [(5, .int 41), (0, .ref aa), (1, .int 4), (2, .int 2), (3, .int xx), (4, .int 0)]) hx hb dX0_ask_5 hl (by decide) rfl (fun ls hl => ?_)
  refine lv_iload hx hb dX0_ask_7 (lv_at hl 0 rfl) ?_
  refine lv_if_eq (tgt := 19) hx hb dX0_ask_9 (by decide) (fun c_0 => absurd c_0 (by decide)) (fun _ => ?_)
  refine lv_iload hx hb dX0_ask_12 (lv_at hl 5 rfl) ?_
  refine lv_bipush (v := 40) hx hb dX0_ask_14 (by decide) ?_
  refine lv_icmp_le (tgt := 21) hx hb dX0_ask_16 (by decide) (fun _ => ?_) (fun c_0 => absurd (by decide) c_0)
  refine lv_aload_n hx hb dX0_ask_21 rfl (lv_at hl 1 rfl) ?_
  refine lv_iload hx hb dX0_ask_22 (lv_at hl 0 rfl) ?_
  refine contV (wc := [(aa, .inr (0, [.ref a1, .int 0, .int sl, .int 4, .int vv])), (a1, .inl (cI, 20, .inl fa))]) (wr := []) C0 hP hD hS [0, 1] [] rfl rfl (by decide) (by decide) 0 0 (Nat.le_of_ble_eq_true rfl) (Nat.le_of_ble_eq_true rfl) (runV (k := 1) (As := [.int 41]) (rest := []) C0 (c_begin_0 l D cI cZ cQ cT _ aa 41 a1 sl 4 vv fa) wc_X0_begin wl_X0_52 wi_X0_begin we_X0_begin wz_X0 ⟨by decide, by decide, by decide +kernel⟩ ⟨(Nat.le_of_ble_eq_true rfl), (Nat.le_of_ble_eq_true rfl)⟩ hP hD hS EF.ok hX [0, 1] rfl (by decide) 0 rfl rfl rfl rfl hl.1 rfl (Nat.le_of_ble_eq_true rfl) dX0_ask_24 ⟨(Nat.le_of_ble_eq_true rfl), (Nat.le_of_ble_eq_true rfl)⟩) (fun u_4 H locs w_5 hP hD hS => ?_)
  have hP : va_P D CL [(aa, .inr (0, [.ref a1, .int 1, .int sl, .int 4, .int vv])), (a1, .inl (cI, 20, .inl (upd fa 0 (41 : Int32))))] H := hP
  have hD : va_D A [(aa, .inr (0, [.ref a1, .int 1, .int sl, .int 4, .int vv])), (a1, .inl (cI, 20, .inl (upd fa 0 (41 : Int32))))] := hD
  refine lv_iload hx hb dX0_ask_27 (lv_at hl 5 rfl) ?_
  refine lv_iconst (v := 1) hx hb dX0_ask_29 (by decide) ?_
  refine lv_iadd hx hb dX0_ask_30 ?_
  refine lv_ci 1 (by decide +kernel) ?_
  refine lv_istore (lv' := [(6, .int 1), (5, .int 41), (0, .ref aa), (1, .int 4), (2, .int 2), (3, .int xx), (4, .int 0)]) hx hb dX0_ask_31 hl (by decide) rfl (fun ls hl => ?_)
  refine lv_iload hx hb dX0_ask_33 (lv_at hl 1 rfl) ?_
  refine lv_lookup (off := 157) (tgt := 192) hx hb dX0_ask_35 (by decide) (by decide) (by decide) ?_
  refine lv_aload_n hx hb dX0_ask_192 rfl (lv_at hl 2 rfl) ?_
  refine lv_iconst (v := 2) hx hb dX0_ask_193 (by decide) ?_
  refine lv_iconst (v := 2) hx hb dX0_ask_194 (by decide) ?_
  refine lv_iload_n hx hb dX0_ask_195 rfl (lv_at hl 5 rfl) ?_
  refine lv_iconst (v := 1) hx hb dX0_ask_196 (by decide) ?_
  refine lv_isub hx hb dX0_ask_197 ?_
  refine lv_iload hx hb dX0_ask_198 (lv_at hl 0 rfl) ?_
  refine contI (wc := [(aa, .inr (0, [.ref a1, .int 1, .int sl, .int 4, .int vv])), (a1, .inl (cI, 20, .inl (upd fa 0 (41 : Int32))))]) (wr := []) C0 hP hD hS [0, 1] [] rfl rfl (by decide) (by decide) 0 0 (Nat.le_of_ble_eq_true rfl) (Nat.le_of_ble_eq_true rfl) (runV (k := 4) (As := [.int 2, .int 2, .int (xx - (1 : Int32)), .int 1]) (rest := []) C0 (c_ask_4_2_2_1_1 l D cI cZ cQ cT _ aa (xx - (1 : Int32)) a1 sl vv (upd fa 0 (41 : Int32))) wc_X0_ask wl_X0_38 wi_X0_ask we_X0_ask wz_X0 ⟨by decide, by decide, by decide +kernel⟩ ⟨(Nat.le_of_ble_eq_true rfl), (Nat.le_of_ble_eq_true rfl)⟩ hP hD hS EF.ok hX [0, 1] rfl (by decide) 0 rfl rfl rfl rfl hl.1 rfl (Nat.le_of_ble_eq_true rfl) dX0_ask_200 ⟨(Nat.le_of_ble_eq_true rfl), (Nat.le_of_ble_eq_true rfl)⟩) (fun r_9 u_7 H locs w_8 hP hD hS => ?_)
  have hP : va_P D CL [(aa, .inr (0, [.ref a1, .int 5, .int sl, .int 4, .int vv])), (a1, .inl (cI, 20, .inl (upd (upd (upd (upd (upd fa 0 (41 : Int32)) 1 3) 2 21) 3 2) 4 1)))] H := hP
  have hD : va_D A [(aa, .inr (0, [.ref a1, .int 5, .int sl, .int 4, .int vv])), (a1, .inl (cI, 20, .inl (upd (upd (upd (upd (upd fa 0 (41 : Int32)) 1 3) 2 21) 3 2) 4 1)))] := hD
  obtain rfl : r_9 = ((-(((xx - (1 : Int32)) + sl) - vv)) * (2 : Int32)) := w_8
  refine lv_aload_n hx hb dX0_ask_203 rfl (lv_at hl 2 rfl) ?_
  refine lv_aload_n hx hb dX0_ask_204 rfl (lv_at hl 2 rfl) ?_
  refine va_get (ci := 0) (v := .int 4) (C := RX0) (T := TX0) (N := 5) hx hb hT wu_X0 hown hK hP 0 rfl rfl 3 (by decide) (hT _ wf_X0_31) (fun _ h9 => h9) rfl dX0_ask_205 ?_
  refine lv_iconst (v := 0) hx hb dX0_ask_208 (by decide) ?_
  refine lv_iconst (v := 2) hx hb dX0_ask_209 (by decide) ?_
  refine lv_iload hx hb dX0_ask_210 (lv_at hl 0 rfl) ?_
  refine contI (wc := [(aa, .inr (0, [.ref a1, .int 5, .int sl, .int 4, .int vv])), (a1, .inl (cI, 20, .inl (upd (upd (upd (upd (upd fa 0 (41 : Int32)) 1 3) 2 21) 3 2) 4 1)))]) (wr := []) C0 hP hD hS [0, 1] [] rfl rfl (by decide) (by decide) 0 0 (Nat.le_of_ble_eq_true rfl) (Nat.le_of_ble_eq_true rfl) (runV (k := 4) (As := [.int 4, .int 0, .int 2, .int 1]) (rest := [.int ((-(((xx - (1 : Int32)) + sl) - vv)) * (2 : Int32))]) C0 (c_ask_4_4_0_5_1 l D cI cZ cQ cT _ aa 2 a1 sl vv (upd (upd (upd (upd (upd fa 0 (41 : Int32)) 1 3) 2 21) 3 2) 4 1)) wc_X0_ask wl_X0_38 wi_X0_ask we_X0_ask wz_X0 ⟨by decide, by decide, by decide +kernel⟩ ⟨(Nat.le_of_ble_eq_true rfl), (Nat.le_of_ble_eq_true rfl)⟩ hP hD hS EF.ok hX [0, 1] rfl (by decide) 0 rfl rfl rfl rfl hl.1 rfl (Nat.le_of_ble_eq_true rfl) dX0_ask_212 ⟨(Nat.le_of_ble_eq_true rfl), (Nat.le_of_ble_eq_true rfl)⟩) (fun r_12 u_10 H locs w_11 hP hD hS => ?_)
  have hP : va_P D CL [(aa, .inr (0, [.ref a1, .int 6, .int sl, .int 4, .int vv])), (a1, .inl (cI, 20, .inl (upd (upd (upd (upd (upd (upd fa 0 (41 : Int32)) 1 3) 2 21) 3 2) 4 1) 5 1)))] H := hP
  have hD : va_D A [(aa, .inr (0, [.ref a1, .int 6, .int sl, .int 4, .int vv])), (a1, .inl (cI, 20, .inl (upd (upd (upd (upd (upd (upd fa 0 (41 : Int32)) 1 3) 2 21) 3 2) 4 1) 5 1)))] := hD
  obtain rfl : r_12 = ((2 : Int32) + sl) := w_11
  refine lv_iadd hx hb dX0_ask_215 ?_
  exact retI C0 rfl () rfl (hP.sub (ws' := [(aa, .inr (0, [.ref a1, .int 6, .int sl, .int 4, .int vv])), (a1, .inl (cI, 20, .inl (upd (upd (upd (upd (upd (upd fa 0 41) 1 3) 2 21) 3 2) 4 1) 5 1)))]) [0, 1] rfl) (hD.sub (ws' := [(aa, .inr (0, [.ref a1, .int 6, .int sl, .int 4, .int vv])), (a1, .inl (cI, 20, .inl (upd (upd (upd (upd (upd (upd fa 0 41) 1 3) 2 21) 3 2) 4 1) 5 1)))]) [0, 1] (by decide) rfl) hS (Nat.le_of_ble_eq_true rfl) (Nat.le_of_ble_eq_true rfl) dX0_ask_216

set_option maxHeartbeats 4000000 in
set_option maxRecDepth 100000 in
theorem c_bodyOf_5_2 (l : Launch) (D : va_G) (cI cZ cQ cT : ClassId) (sz : Nat)   : MetI l yX0_bodyOf cX0_bodyOf 5 .int ({ frames := 0, cells := 0, slots := 0, locals := 0 } : Room) [.int 5, .int 2] D (TYS cI cZ cQ cT) EF sz [] (S := Unit) (fun (r : Int32) (_ : Unit) => r = 31) (fun _ => []) := by
  refine MetI.mk (lv := [(0, .int 5), (1, .int 2)]) (by decide +kernel) (Nat.le_of_ble_eq_true rfl) rfl ?_
  intro p e s m below meth c A ls C0 hP hD hS hX hl
  have C1 := C0
  obtain ⟨hx, hb, hr, hml, hown, hlocks, hname, hT, hN, hK, hA⟩ := C1
  obtain ⟨kab, hkz, hkT⟩ := hX.2.1
  obtain ⟨bdy, hbz, hbT⟩ := hX.2.2.1
  refine lv_iload_n hx hb dX0_bodyOf_0 rfl (lv_at hl 0 rfl) ?_
  refine lv_istore_n (lv' := [(2, .int 5), (0, .int 5), (1, .int 2)]) hx hb dX0_bodyOf_1 rfl hl (by decide) rfl (fun ls hl => ?_)
  refine lv_iconst (v := 0) hx hb dX0_bodyOf_2 (by decide) ?_
  refine lv_istore_n (lv' := [(3, .int 0), (2, .int 5), (0, .int 5), (1, .int 2)]) hx hb dX0_bodyOf_3 rfl hl (by decide) rfl (fun ls hl => ?_)
  refine lv_iload_n hx hb dX0_bodyOf_4 rfl (lv_at hl 0 rfl) ?_
  refine lv_bipush (v := 7) hx hb dX0_bodyOf_5 (by decide) ?_
  refine lv_icmp_ge (tgt := 69) hx hb dX0_bodyOf_7 (by decide) (fun c_0 => absurd c_0 (by decide)) (fun _ => ?_)
  refine lv_iload_n hx hb dX0_bodyOf_10 rfl (lv_at hl 1 rfl) ?_
  refine lv_if_lt (tgt := 69) hx hb dX0_bodyOf_11 (by decide) (fun c_0 => absurd c_0 (by decide)) (fun _ => ?_)
  refine lv_iload_n hx hb dX0_bodyOf_14 rfl (lv_at hl 1 rfl) ?_
  refine lv_bipush (v := 7) hx hb dX0_bodyOf_15 (by decide) ?_
  refine lv_icmp_ge (tgt := 69) hx hb dX0_bodyOf_17 (by decide) (fun c_0 => absurd c_0 (by decide)) (fun _ => ?_)
  refine lv_iload_n hx hb dX0_bodyOf_20 rfl (lv_at hl 1 rfl) ?_
  refine lv_iconst (v := 3) hx hb dX0_bodyOf_21 (by decide) ?_
  refine lv_imul hx hb dX0_bodyOf_22 ?_
  refine lv_ci 15 (by decide +kernel) ?_
  refine lv_iload_n hx hb dX0_bodyOf_23 rfl (lv_at hl 3 rfl) ?_
  refine lv_iadd hx hb dX0_bodyOf_24 ?_
  refine lv_ci 17 (by decide +kernel) ?_
  refine lv_istore (lv' := [(4, .int 17), (3, .int 0), (2, .int 5), (0, .int 5), (1, .int 2)]) hx hb dX0_bodyOf_25 hl (by decide) rfl (fun ls hl => ?_)
  refine lv_iload hx hb dX0_bodyOf_27 (lv_at hl 0 rfl) ?_
  refine lv_if_lt (tgt := 57) hx hb dX0_bodyOf_29 (by decide) (fun c_0 => absurd c_0 (by decide)) (fun _ => ?_)
  refine lv_iload hx hb dX0_bodyOf_32 (lv_at hl 0 rfl) ?_
  refine va_gets hx hb hbz hS hown (hT _ wf_X0_42) (fun _ h9 => h9) dX0_bodyOf_34 ?_
  refine va_tlen hx hb hbT hS (v := 21) rfl dX0_bodyOf_37 ?_
  refine lv_icmp_ge (tgt := 57) hx hb dX0_bodyOf_38 (by decide) (fun c_0 => absurd c_0 (by decide)) (fun _ => ?_)
  refine va_gets hx hb hbz hS hown (hT _ wf_X0_42) (fun _ h9 => h9) dX0_bodyOf_41 ?_
  refine lv_iload hx hb dX0_bodyOf_44 (lv_at hl 0 rfl) ?_
  refine va_ti hx hb hbT hS (vin _ _ (by decide +kernel)) (v := .int 0) rfl dX0_bodyOf_46 ?_
  refine lv_if_eq (tgt := 57) hx hb dX0_bodyOf_47 (by decide) (fun _ => ?_) (fun c_0 => absurd (by decide) c_0)
  refine va_getsN hx hb hkz hS hown (va_Nw.use rfl (hN.get 750 kf_X0_45 rfl)) (fun _ h9 => h9) dX0_bodyOf_57 ?_
  refine lv_iload_n hx hb dX0_bodyOf_60 rfl (lv_at hl 2 rfl) ?_
  refine va_ti hx hb hkT hS (vin _ _ (by decide +kernel)) (v := .int 3) rfl dX0_bodyOf_61 ?_
  refine lv_istore_n (lv' := [(2, .int 3), (4, .int 17), (3, .int 0), (0, .int 5), (1, .int 2)]) hx hb dX0_bodyOf_62 rfl hl (by decide) rfl (fun ls hl => ?_)
  refine lv_iinc (v := 1) (lv' := [(3, .int 1), (2, .int 3), (4, .int 17), (0, .int 5), (1, .int 2)]) hx hb dX0_bodyOf_63 hl (k := 2) rfl (by decide) (by decide) rfl (fun ls hl => ?_)
  refine lv_goto (tgt := 4) hx hb dX0_bodyOf_66 (by decide) ?_
  refine lv_iload_n hx hb dX0_bodyOf_4 rfl (lv_at hl 0 rfl) ?_
  refine lv_bipush (v := 7) hx hb dX0_bodyOf_5 (by decide) ?_
  refine lv_icmp_ge (tgt := 69) hx hb dX0_bodyOf_7 (by decide) (fun c_0 => absurd c_0 (by decide)) (fun _ => ?_)
  refine lv_iload_n hx hb dX0_bodyOf_10 rfl (lv_at hl 1 rfl) ?_
  refine lv_if_lt (tgt := 69) hx hb dX0_bodyOf_11 (by decide) (fun c_0 => absurd c_0 (by decide)) (fun _ => ?_)
  refine lv_iload_n hx hb dX0_bodyOf_14 rfl (lv_at hl 1 rfl) ?_
  refine lv_bipush (v := 7) hx hb dX0_bodyOf_15 (by decide) ?_
  refine lv_icmp_ge (tgt := 69) hx hb dX0_bodyOf_17 (by decide) (fun c_0 => absurd c_0 (by decide)) (fun _ => ?_)
  refine lv_iload_n hx hb dX0_bodyOf_20 rfl (lv_at hl 1 rfl) ?_
  refine lv_iconst (v := 3) hx hb dX0_bodyOf_21 (by decide) ?_
  refine lv_imul hx hb dX0_bodyOf_22 ?_
  refine lv_ci 9 (by decide +kernel) ?_
  refine lv_iload_n hx hb dX0_bodyOf_23 rfl (lv_at hl 4 rfl) ?_
  refine lv_iadd hx hb dX0_bodyOf_24 ?_
  refine lv_ci 11 (by decide +kernel) ?_
  refine lv_istore (lv' := [(4, .int 11), (3, .int 1), (2, .int 3), (0, .int 5), (1, .int 2)]) hx hb dX0_bodyOf_25 hl (by decide) rfl (fun ls hl => ?_)
  refine lv_iload hx hb dX0_bodyOf_27 (lv_at hl 0 rfl) ?_
  refine lv_if_lt (tgt := 57) hx hb dX0_bodyOf_29 (by decide) (fun c_0 => absurd c_0 (by decide)) (fun _ => ?_)
  refine lv_iload hx hb dX0_bodyOf_32 (lv_at hl 0 rfl) ?_
  refine va_gets hx hb hbz hS hown (hT _ wf_X0_42) (fun _ h9 => h9) dX0_bodyOf_34 ?_
  refine va_tlen hx hb hbT hS (v := 21) rfl dX0_bodyOf_37 ?_
  refine lv_icmp_ge (tgt := 57) hx hb dX0_bodyOf_38 (by decide) (fun c_0 => absurd c_0 (by decide)) (fun _ => ?_)
  refine va_gets hx hb hbz hS hown (hT _ wf_X0_42) (fun _ h9 => h9) dX0_bodyOf_41 ?_
  refine lv_iload hx hb dX0_bodyOf_44 (lv_at hl 0 rfl) ?_
  refine va_ti hx hb hbT hS (vin _ _ (by decide +kernel)) (v := .int 31) rfl dX0_bodyOf_46 ?_
  refine lv_if_eq (tgt := 57) hx hb dX0_bodyOf_47 (by decide) (fun c_0 => absurd c_0 (by decide)) (fun _ => ?_)
  refine va_gets hx hb hbz hS hown (hT _ wf_X0_42) (fun _ h9 => h9) dX0_bodyOf_50 ?_
  refine lv_iload hx hb dX0_bodyOf_53 (lv_at hl 0 rfl) ?_
  refine va_ti hx hb hbT hS (vin _ _ (by decide +kernel)) (v := .int 31) rfl dX0_bodyOf_55 ?_
  exact retI C0 rfl () rfl (hP.sub (ws' := []) [] rfl) (hD.sub (ws' := []) [] (by decide) rfl) hS (Nat.le_of_ble_eq_true rfl) (Nat.le_of_ble_eq_true rfl) dX0_bodyOf_56

set_option maxHeartbeats 4000000 in
set_option maxRecDepth 100000 in
theorem c_ask_5_3_0_4_4 (l : Launch) (D : va_G) (cI cZ cQ cT : ClassId) (sz : Nat) (aa : Nat) (xx : Int32) (a1 : Nat) (sl : Int32) (vv : Int32) (fa : Nat → Int32)  : MetI l yX0_ask cX0_ask 7 .int ({ frames := 1, cells := 0, slots := 0, locals := 24 } : Room) [.ref aa, .int 3, .int 0, .int xx, .int 4] D (TYS cI cZ cQ cT) EF sz [(aa, .inr (0, [.ref a1, .int 4, .int sl, .int 5, .int vv])), (a1, .inl (cI, 20, .inl fa))] (S := Unit) (fun (r : Int32) (_ : Unit) => r = (xx + sl)) (fun _ => [(aa, .inr (0, [.ref a1, .int 5, .int sl, .int 5, .int vv])), (a1, .inl (cI, 20, .inl (upd fa 4 1)))]) := by
  refine MetI.mk (lv := [(0, .ref aa), (1, .int 3), (2, .int 0), (3, .int xx), (4, .int 4)]) (by decide +kernel) (Nat.le_of_ble_eq_true rfl) rfl ?_
  intro p e s m below meth c A ls C0 hP hD hS hX hl
  have C1 := C0
  obtain ⟨hx, hb, hr, hml, hown, hlocks, hname, hT, hN, hK, hA⟩ := C1
  refine lv_iload_n hx hb dX0_ask_0 rfl (lv_at hl 1 rfl) ?_
  refine lv_iload_n hx hb dX0_ask_1 rfl (lv_at hl 2 rfl) ?_
  refine contI (wc := []) (wr := [(aa, .inr (0, [.ref a1, .int 4, .int sl, .int 5, .int vv])), (a1, .inl (cI, 20, .inl fa))]) C0 hP hD hS [] [0, 1] rfl rfl (by decide) (by decide) 0 0 (Nat.le_of_ble_eq_true rfl) (Nat.le_of_ble_eq_true rfl) (runS (k := 2) (As := [.int 3, .int 0]) (rest := []) C0 (c_bodyOf_3_0 l D cI cZ cQ cT _ ) wc_X0_bodyOf wl_X0_48 wt_X0_bodyOf wz_X0 ⟨by decide, by decide, by decide +kernel⟩ ⟨(Nat.le_of_ble_eq_true rfl), (Nat.le_of_ble_eq_true rfl)⟩ hP hD hS EF.ok hX [] rfl (by decide) rfl hl.1 rfl (Nat.le_of_ble_eq_true rfl) dX0_ask_2 ⟨(Nat.le_of_ble_eq_true rfl), (Nat.le_of_ble_eq_true rfl)⟩) (fun r_3 u_1 H locs w_2 hP hD hS => ?_)
  have hP : va_P D CL [(aa, .inr (0, [.ref a1, .int 4, .int sl, .int 5, .int vv])), (a1, .inl (cI, 20, .inl fa))] H := hP
  have hD : va_D A [(aa, .inr (0, [.ref a1, .int 4, .int sl, .int 5, .int vv])), (a1, .inl (cI, 20, .inl fa))] := hD
  obtain rfl : r_3 = 1 := w_2
  refine lv_istore (lv' := [(5, .int 1), (0, .ref aa), (1, .int 3), (2, .int 0), (3, .int xx), (4, .int 4)]) hx hb dX0_ask_5 hl (by decide) rfl (fun ls hl => ?_)
  refine lv_iload hx hb dX0_ask_7 (lv_at hl 0 rfl) ?_
  refine lv_if_eq (tgt := 19) hx hb dX0_ask_9 (by decide) (fun c_0 => absurd c_0 (by decide)) (fun _ => ?_)
  refine lv_iload hx hb dX0_ask_12 (lv_at hl 5 rfl) ?_
  refine lv_bipush (v := 40) hx hb dX0_ask_14 (by decide) ?_
  refine lv_icmp_le (tgt := 21) hx hb dX0_ask_16 (by decide) (fun _ => ?_) (fun c_0 => absurd (by decide) c_0)
  refine lv_aload_n hx hb dX0_ask_21 rfl (lv_at hl 1 rfl) ?_
  refine lv_iload hx hb dX0_ask_22 (lv_at hl 0 rfl) ?_
  refine contV (wc := [(aa, .inr (0, [.ref a1, .int 4, .int sl, .int 5, .int vv])), (a1, .inl (cI, 20, .inl fa))]) (wr := []) C0 hP hD hS [0, 1] [] rfl rfl (by decide) (by decide) 0 0 (Nat.le_of_ble_eq_true rfl) (Nat.le_of_ble_eq_true rfl) (runV (k := 1) (As := [.int 1]) (rest := []) C0 (c_begin_4 l D cI cZ cQ cT _ aa 1 a1 sl 5 vv fa) wc_X0_begin wl_X0_52 wi_X0_begin we_X0_begin wz_X0 ⟨by decide, by decide, by decide +kernel⟩ ⟨(Nat.le_of_ble_eq_true rfl), (Nat.le_of_ble_eq_true rfl)⟩ hP hD hS EF.ok hX [0, 1] rfl (by decide) 0 rfl rfl rfl rfl hl.1 rfl (Nat.le_of_ble_eq_true rfl) dX0_ask_24 ⟨(Nat.le_of_ble_eq_true rfl), (Nat.le_of_ble_eq_true rfl)⟩) (fun u_4 H locs w_5 hP hD hS => ?_)
  have hP : va_P D CL [(aa, .inr (0, [.ref a1, .int 5, .int sl, .int 5, .int vv])), (a1, .inl (cI, 20, .inl (upd fa 4 (1 : Int32))))] H := hP
  have hD : va_D A [(aa, .inr (0, [.ref a1, .int 5, .int sl, .int 5, .int vv])), (a1, .inl (cI, 20, .inl (upd fa 4 (1 : Int32))))] := hD
  refine lv_iload hx hb dX0_ask_27 (lv_at hl 5 rfl) ?_
  refine lv_iconst (v := 1) hx hb dX0_ask_29 (by decide) ?_
  refine lv_iadd hx hb dX0_ask_30 ?_
  refine lv_ci 5 (by decide +kernel) ?_
  refine lv_istore (lv' := [(6, .int 5), (5, .int 1), (0, .ref aa), (1, .int 3), (2, .int 0), (3, .int xx), (4, .int 4)]) hx hb dX0_ask_31 hl (by decide) rfl (fun ls hl => ?_)
  refine lv_iload hx hb dX0_ask_33 (lv_at hl 1 rfl) ?_
  refine lv_lookup (off := 81) (tgt := 116) hx hb dX0_ask_35 (by decide) (by decide) (by decide) ?_
  refine lv_iload_n hx hb dX0_ask_116 rfl (lv_at hl 5 rfl) ?_
  refine lv_aload_n hx hb dX0_ask_117 rfl (lv_at hl 2 rfl) ?_
  refine va_get (ci := 0) (v := .int sl) (C := RX0) (T := TX0) (N := 5) hx hb hT wu_X0 hown hK hP 0 rfl rfl 2 (by decide) (hT _ wf_X0_25) (fun _ h9 => h9) rfl dX0_ask_118 ?_
  refine lv_iadd hx hb dX0_ask_121 ?_
  exact retI C0 rfl () rfl (hP.sub (ws' := [(aa, .inr (0, [.ref a1, .int 5, .int sl, .int 5, .int vv])), (a1, .inl (cI, 20, .inl (upd fa 4 1)))]) [0, 1] rfl) (hD.sub (ws' := [(aa, .inr (0, [.ref a1, .int 5, .int sl, .int 5, .int vv])), (a1, .inl (cI, 20, .inl (upd fa 4 1)))]) [0, 1] (by decide) rfl) hS (Nat.le_of_ble_eq_true rfl) (Nat.le_of_ble_eq_true rfl) dX0_ask_122

set_option maxHeartbeats 4000000 in
set_option maxRecDepth 100000 in
theorem c_ask_5_5_0_3_3 (l : Launch) (D : va_G) (cI cZ cQ cT : ClassId) (sz : Nat) (aa : Nat) (xx : Int32) (a1 : Nat) (sl : Int32) (vv : Int32) (fa : Nat → Int32)  : MetI l yX0_ask cX0_ask 7 .int ({ frames := 2, cells := 0, slots := 0, locals := 50 } : Room) [.ref aa, .int 5, .int 0, .int xx, .int 3] D (TYS cI cZ cQ cT) EF sz [(aa, .inr (0, [.ref a1, .int 3, .int sl, .int 5, .int vv])), (a1, .inl (cI, 20, .inl fa))] (S := Unit) (fun (r : Int32) (_ : Unit) => r = ((xx + sl) ^^^ sl)) (fun _ => [(aa, .inr (0, [.ref a1, .int 5, .int sl, .int 5, .int vv])), (a1, .inl (cI, 20, .inl (upd (upd fa 3 51) 4 1)))]) := by
  refine MetI.mk (lv := [(0, .ref aa), (1, .int 5), (2, .int 0), (3, .int xx), (4, .int 3)]) (by decide +kernel) (Nat.le_of_ble_eq_true rfl) rfl ?_
  intro p e s m below meth c A ls C0 hP hD hS hX hl
  have C1 := C0
  obtain ⟨hx, hb, hr, hml, hown, hlocks, hname, hT, hN, hK, hA⟩ := C1
  refine lv_iload_n hx hb dX0_ask_0 rfl (lv_at hl 1 rfl) ?_
  refine lv_iload_n hx hb dX0_ask_1 rfl (lv_at hl 2 rfl) ?_
  refine contI (wc := []) (wr := [(aa, .inr (0, [.ref a1, .int 3, .int sl, .int 5, .int vv])), (a1, .inl (cI, 20, .inl fa))]) C0 hP hD hS [] [0, 1] rfl rfl (by decide) (by decide) 0 0 (Nat.le_of_ble_eq_true rfl) (Nat.le_of_ble_eq_true rfl) (runS (k := 2) (As := [.int 5, .int 0]) (rest := []) C0 (c_bodyOf_5_0 l D cI cZ cQ cT _ ) wc_X0_bodyOf wl_X0_48 wt_X0_bodyOf wz_X0 ⟨by decide, by decide, by decide +kernel⟩ ⟨(Nat.le_of_ble_eq_true rfl), (Nat.le_of_ble_eq_true rfl)⟩ hP hD hS EF.ok hX [] rfl (by decide) rfl hl.1 rfl (Nat.le_of_ble_eq_true rfl) dX0_ask_2 ⟨(Nat.le_of_ble_eq_true rfl), (Nat.le_of_ble_eq_true rfl)⟩) (fun r_3 u_1 H locs w_2 hP hD hS => ?_)
  have hP : va_P D CL [(aa, .inr (0, [.ref a1, .int 3, .int sl, .int 5, .int vv])), (a1, .inl (cI, 20, .inl fa))] H := hP
  have hD : va_D A [(aa, .inr (0, [.ref a1, .int 3, .int sl, .int 5, .int vv])), (a1, .inl (cI, 20, .inl fa))] := hD
  obtain rfl : r_3 = 51 := w_2
  refine lv_istore (lv' := [(5, .int 51), (0, .ref aa), (1, .int 5), (2, .int 0), (3, .int xx), (4, .int 3)]) hx hb dX0_ask_5 hl (by decide) rfl (fun ls hl => ?_)
  refine lv_iload hx hb dX0_ask_7 (lv_at hl 0 rfl) ?_
  refine lv_if_eq (tgt := 19) hx hb dX0_ask_9 (by decide) (fun c_0 => absurd c_0 (by decide)) (fun _ => ?_)
  refine lv_iload hx hb dX0_ask_12 (lv_at hl 5 rfl) ?_
  refine lv_bipush (v := 40) hx hb dX0_ask_14 (by decide) ?_
  refine lv_icmp_le (tgt := 21) hx hb dX0_ask_16 (by decide) (fun _ => ?_) (fun c_0 => absurd (by decide) c_0)
  refine lv_aload_n hx hb dX0_ask_21 rfl (lv_at hl 1 rfl) ?_
  refine lv_iload hx hb dX0_ask_22 (lv_at hl 0 rfl) ?_
  refine contV (wc := [(aa, .inr (0, [.ref a1, .int 3, .int sl, .int 5, .int vv])), (a1, .inl (cI, 20, .inl fa))]) (wr := []) C0 hP hD hS [0, 1] [] rfl rfl (by decide) (by decide) 0 0 (Nat.le_of_ble_eq_true rfl) (Nat.le_of_ble_eq_true rfl) (runV (k := 1) (As := [.int 51]) (rest := []) C0 (c_begin_3 l D cI cZ cQ cT _ aa 51 a1 sl 5 vv fa) wc_X0_begin wl_X0_52 wi_X0_begin we_X0_begin wz_X0 ⟨by decide, by decide, by decide +kernel⟩ ⟨(Nat.le_of_ble_eq_true rfl), (Nat.le_of_ble_eq_true rfl)⟩ hP hD hS EF.ok hX [0, 1] rfl (by decide) 0 rfl rfl rfl rfl hl.1 rfl (Nat.le_of_ble_eq_true rfl) dX0_ask_24 ⟨(Nat.le_of_ble_eq_true rfl), (Nat.le_of_ble_eq_true rfl)⟩) (fun u_4 H locs w_5 hP hD hS => ?_)
  have hP : va_P D CL [(aa, .inr (0, [.ref a1, .int 4, .int sl, .int 5, .int vv])), (a1, .inl (cI, 20, .inl (upd fa 3 (51 : Int32))))] H := hP
  have hD : va_D A [(aa, .inr (0, [.ref a1, .int 4, .int sl, .int 5, .int vv])), (a1, .inl (cI, 20, .inl (upd fa 3 (51 : Int32))))] := hD
  refine lv_iload hx hb dX0_ask_27 (lv_at hl 5 rfl) ?_
  refine lv_iconst (v := 1) hx hb dX0_ask_29 (by decide) ?_
  refine lv_iadd hx hb dX0_ask_30 ?_
  refine lv_ci 4 (by decide +kernel) ?_
  refine lv_istore (lv' := [(6, .int 4), (5, .int 51), (0, .ref aa), (1, .int 5), (2, .int 0), (3, .int xx), (4, .int 3)]) hx hb dX0_ask_31 hl (by decide) rfl (fun ls hl => ?_)
  refine lv_iload hx hb dX0_ask_33 (lv_at hl 1 rfl) ?_
  refine lv_lookup (off := 182) (tgt := 217) hx hb dX0_ask_35 (by decide) (by decide) (by decide) ?_
  refine lv_aload_n hx hb dX0_ask_217 rfl (lv_at hl 2 rfl) ?_
  refine lv_iconst (v := 3) hx hb dX0_ask_218 (by decide) ?_
  refine lv_iconst (v := 0) hx hb dX0_ask_219 (by decide) ?_
  refine lv_iload_n hx hb dX0_ask_220 rfl (lv_at hl 5 rfl) ?_
  refine lv_iload hx hb dX0_ask_221 (lv_at hl 0 rfl) ?_
  refine contI (wc := [(aa, .inr (0, [.ref a1, .int 4, .int sl, .int 5, .int vv])), (a1, .inl (cI, 20, .inl (upd fa 3 (51 : Int32))))]) (wr := []) C0 hP hD hS [0, 1] [] rfl rfl (by decide) (by decide) 0 0 (Nat.le_of_ble_eq_true rfl) (Nat.le_of_ble_eq_true rfl) (runV (k := 4) (As := [.int 3, .int 0, .int xx, .int 4]) (rest := []) C0 (c_ask_5_3_0_4_4 l D cI cZ cQ cT _ aa xx a1 sl vv (upd fa 3 (51 : Int32))) wc_X0_ask wl_X0_38 wi_X0_ask we_X0_ask wz_X0 ⟨by decide, by decide, by decide +kernel⟩ ⟨(Nat.le_of_ble_eq_true rfl), (Nat.le_of_ble_eq_true rfl)⟩ hP hD hS EF.ok hX [0, 1] rfl (by decide) 0 rfl rfl rfl rfl hl.1 rfl (Nat.le_of_ble_eq_true rfl) dX0_ask_223 ⟨(Nat.le_of_ble_eq_true rfl), (Nat.le_of_ble_eq_true rfl)⟩) (fun r_9 u_7 H locs w_8 hP hD hS => ?_)
  have hP : va_P D CL [(aa, .inr (0, [.ref a1, .int 5, .int sl, .int 5, .int vv])), (a1, .inl (cI, 20, .inl (upd (upd fa 3 (51 : Int32)) 4 1)))] H := hP
  have hD : va_D A [(aa, .inr (0, [.ref a1, .int 5, .int sl, .int 5, .int vv])), (a1, .inl (cI, 20, .inl (upd (upd fa 3 (51 : Int32)) 4 1)))] := hD
  obtain rfl : r_9 = (xx + sl) := w_8
  refine lv_aload_n hx hb dX0_ask_226 rfl (lv_at hl 2 rfl) ?_
  refine va_get (ci := 0) (v := .int sl) (C := RX0) (T := TX0) (N := 5) hx hb hT wu_X0 hown hK hP 0 rfl rfl 2 (by decide) (hT _ wf_X0_25) (fun _ h9 => h9) rfl dX0_ask_227 ?_
  refine lv_ixor hx hb dX0_ask_230 ?_
  exact retI C0 rfl () rfl (hP.sub (ws' := [(aa, .inr (0, [.ref a1, .int 5, .int sl, .int 5, .int vv])), (a1, .inl (cI, 20, .inl (upd (upd fa 3 51) 4 1)))]) [0, 1] rfl) (hD.sub (ws' := [(aa, .inr (0, [.ref a1, .int 5, .int sl, .int 5, .int vv])), (a1, .inl (cI, 20, .inl (upd (upd fa 3 51) 4 1)))]) [0, 1] (by decide) rfl) hS (Nat.le_of_ble_eq_true rfl) (Nat.le_of_ble_eq_true rfl) dX0_ask_231

set_option maxHeartbeats 4000000 in
set_option maxRecDepth 100000 in
theorem c_ask_5_5_1_2_2 (l : Launch) (D : va_G) (cI cZ cQ cT : ClassId) (sz : Nat) (aa : Nat) (xx : Int32) (a1 : Nat) (sl : Int32) (vv : Int32) (fa : Nat → Int32)  : MetI l yX0_ask cX0_ask 7 .int ({ frames := 3, cells := 0, slots := 0, locals := 76 } : Room) [.ref aa, .int 5, .int 1, .int xx, .int 2] D (TYS cI cZ cQ cT) EF sz [(aa, .inr (0, [.ref a1, .int 2, .int sl, .int 5, .int vv])), (a1, .inl (cI, 20, .inl fa))] (S := Unit) (fun (r : Int32) (_ : Unit) => r = (((xx + sl) ^^^ sl) - vv)) (fun _ => [(aa, .inr (0, [.ref a1, .int 5, .int sl, .int 5, .int vv])), (a1, .inl (cI, 20, .inl (upd (upd (upd fa 2 2) 3 51) 4 1)))]) := by
  refine MetI.mk (lv := [(0, .ref aa), (1, .int 5), (2, .int 1), (3, .int xx), (4, .int 2)]) (by decide +kernel) (Nat.le_of_ble_eq_true rfl) rfl ?_
  intro p e s m below meth c A ls C0 hP hD hS hX hl
  have C1 := C0
  obtain ⟨hx, hb, hr, hml, hown, hlocks, hname, hT, hN, hK, hA⟩ := C1
  refine lv_iload_n hx hb dX0_ask_0 rfl (lv_at hl 1 rfl) ?_
  refine lv_iload_n hx hb dX0_ask_1 rfl (lv_at hl 2 rfl) ?_
  refine contI (wc := []) (wr := [(aa, .inr (0, [.ref a1, .int 2, .int sl, .int 5, .int vv])), (a1, .inl (cI, 20, .inl fa))]) C0 hP hD hS [] [0, 1] rfl rfl (by decide) (by decide) 0 0 (Nat.le_of_ble_eq_true rfl) (Nat.le_of_ble_eq_true rfl) (runS (k := 2) (As := [.int 5, .int 1]) (rest := []) C0 (c_bodyOf_5_1 l D cI cZ cQ cT _ ) wc_X0_bodyOf wl_X0_48 wt_X0_bodyOf wz_X0 ⟨by decide, by decide, by decide +kernel⟩ ⟨(Nat.le_of_ble_eq_true rfl), (Nat.le_of_ble_eq_true rfl)⟩ hP hD hS EF.ok hX [] rfl (by decide) rfl hl.1 rfl (Nat.le_of_ble_eq_true rfl) dX0_ask_2 ⟨(Nat.le_of_ble_eq_true rfl), (Nat.le_of_ble_eq_true rfl)⟩) (fun r_3 u_1 H locs w_2 hP hD hS => ?_)
  have hP : va_P D CL [(aa, .inr (0, [.ref a1, .int 2, .int sl, .int 5, .int vv])), (a1, .inl (cI, 20, .inl fa))] H := hP
  have hD : va_D A [(aa, .inr (0, [.ref a1, .int 2, .int sl, .int 5, .int vv])), (a1, .inl (cI, 20, .inl fa))] := hD
  obtain rfl : r_3 = 2 := w_2
  refine lv_istore (lv' := [(5, .int 2), (0, .ref aa), (1, .int 5), (2, .int 1), (3, .int xx), (4, .int 2)]) hx hb dX0_ask_5 hl (by decide) rfl (fun ls hl => ?_)
  refine lv_iload hx hb dX0_ask_7 (lv_at hl 0 rfl) ?_
  refine lv_if_eq (tgt := 19) hx hb dX0_ask_9 (by decide) (fun c_0 => absurd c_0 (by decide)) (fun _ => ?_)
  refine lv_iload hx hb dX0_ask_12 (lv_at hl 5 rfl) ?_
  refine lv_bipush (v := 40) hx hb dX0_ask_14 (by decide) ?_
  refine lv_icmp_le (tgt := 21) hx hb dX0_ask_16 (by decide) (fun _ => ?_) (fun c_0 => absurd (by decide) c_0)
  refine lv_aload_n hx hb dX0_ask_21 rfl (lv_at hl 1 rfl) ?_
  refine lv_iload hx hb dX0_ask_22 (lv_at hl 0 rfl) ?_
  refine contV (wc := [(aa, .inr (0, [.ref a1, .int 2, .int sl, .int 5, .int vv])), (a1, .inl (cI, 20, .inl fa))]) (wr := []) C0 hP hD hS [0, 1] [] rfl rfl (by decide) (by decide) 0 0 (Nat.le_of_ble_eq_true rfl) (Nat.le_of_ble_eq_true rfl) (runV (k := 1) (As := [.int 2]) (rest := []) C0 (c_begin_2 l D cI cZ cQ cT _ aa 2 a1 sl 5 vv fa) wc_X0_begin wl_X0_52 wi_X0_begin we_X0_begin wz_X0 ⟨by decide, by decide, by decide +kernel⟩ ⟨(Nat.le_of_ble_eq_true rfl), (Nat.le_of_ble_eq_true rfl)⟩ hP hD hS EF.ok hX [0, 1] rfl (by decide) 0 rfl rfl rfl rfl hl.1 rfl (Nat.le_of_ble_eq_true rfl) dX0_ask_24 ⟨(Nat.le_of_ble_eq_true rfl), (Nat.le_of_ble_eq_true rfl)⟩) (fun u_4 H locs w_5 hP hD hS => ?_)
  have hP : va_P D CL [(aa, .inr (0, [.ref a1, .int 3, .int sl, .int 5, .int vv])), (a1, .inl (cI, 20, .inl (upd fa 2 (2 : Int32))))] H := hP
  have hD : va_D A [(aa, .inr (0, [.ref a1, .int 3, .int sl, .int 5, .int vv])), (a1, .inl (cI, 20, .inl (upd fa 2 (2 : Int32))))] := hD
  refine lv_iload hx hb dX0_ask_27 (lv_at hl 5 rfl) ?_
  refine lv_iconst (v := 1) hx hb dX0_ask_29 (by decide) ?_
  refine lv_iadd hx hb dX0_ask_30 ?_
  refine lv_ci 3 (by decide +kernel) ?_
  refine lv_istore (lv' := [(6, .int 3), (5, .int 2), (0, .ref aa), (1, .int 5), (2, .int 1), (3, .int xx), (4, .int 2)]) hx hb dX0_ask_31 hl (by decide) rfl (fun ls hl => ?_)
  refine lv_iload hx hb dX0_ask_33 (lv_at hl 1 rfl) ?_
  refine lv_lookup (off := 88) (tgt := 123) hx hb dX0_ask_35 (by decide) (by decide) (by decide) ?_
  refine lv_aload_n hx hb dX0_ask_123 rfl (lv_at hl 2 rfl) ?_
  refine lv_aload_n hx hb dX0_ask_124 rfl (lv_at hl 2 rfl) ?_
  refine va_get (ci := 0) (v := .int 5) (C := RX0) (T := TX0) (N := 5) hx hb hT wu_X0 hown hK hP 0 rfl rfl 3 (by decide) (hT _ wf_X0_31) (fun _ h9 => h9) rfl dX0_ask_125 ?_
  refine lv_iconst (v := 0) hx hb dX0_ask_128 (by decide) ?_
  refine lv_iload_n hx hb dX0_ask_129 rfl (lv_at hl 5 rfl) ?_
  refine lv_iload hx hb dX0_ask_130 (lv_at hl 0 rfl) ?_
  refine contI (wc := [(aa, .inr (0, [.ref a1, .int 3, .int sl, .int 5, .int vv])), (a1, .inl (cI, 20, .inl (upd fa 2 (2 : Int32))))]) (wr := []) C0 hP hD hS [0, 1] [] rfl rfl (by decide) (by decide) 0 0 (Nat.le_of_ble_eq_true rfl) (Nat.le_of_ble_eq_true rfl) (runV (k := 4) (As := [.int 5, .int 0, .int xx, .int 3]) (rest := []) C0 (c_ask_5_5_0_3_3 l D cI cZ cQ cT _ aa xx a1 sl vv (upd fa 2 (2 : Int32))) wc_X0_ask wl_X0_38 wi_X0_ask we_X0_ask wz_X0 ⟨by decide, by decide, by decide +kernel⟩ ⟨(Nat.le_of_ble_eq_true rfl), (Nat.le_of_ble_eq_true rfl)⟩ hP hD hS EF.ok hX [0, 1] rfl (by decide) 0 rfl rfl rfl rfl hl.1 rfl (Nat.le_of_ble_eq_true rfl) dX0_ask_132 ⟨(Nat.le_of_ble_eq_true rfl), (Nat.le_of_ble_eq_true rfl)⟩) (fun r_9 u_7 H locs w_8 hP hD hS => ?_)
  have hP : va_P D CL [(aa, .inr (0, [.ref a1, .int 5, .int sl, .int 5, .int vv])), (a1, .inl (cI, 20, .inl (upd (upd (upd fa 2 (2 : Int32)) 3 51) 4 1)))] H := hP
  have hD : va_D A [(aa, .inr (0, [.ref a1, .int 5, .int sl, .int 5, .int vv])), (a1, .inl (cI, 20, .inl (upd (upd (upd fa 2 (2 : Int32)) 3 51) 4 1)))] := hD
  obtain rfl : r_9 = ((xx + sl) ^^^ sl) := w_8
  refine lv_aload_n hx hb dX0_ask_135 rfl (lv_at hl 2 rfl) ?_
  refine va_get (ci := 0) (v := .int vv) (C := RX0) (T := TX0) (N := 5) hx hb hT wu_X0 hown hK hP 0 rfl rfl 4 (by decide) (hT _ wf_X0_36) (fun _ h9 => h9) rfl dX0_ask_136 ?_
  refine lv_isub hx hb dX0_ask_139 ?_
  exact retI C0 rfl () rfl (hP.sub (ws' := [(aa, .inr (0, [.ref a1, .int 5, .int sl, .int 5, .int vv])), (a1, .inl (cI, 20, .inl (upd (upd (upd fa 2 2) 3 51) 4 1)))]) [0, 1] rfl) (hD.sub (ws' := [(aa, .inr (0, [.ref a1, .int 5, .int sl, .int 5, .int vv])), (a1, .inl (cI, 20, .inl (upd (upd (upd fa 2 2) 3 51) 4 1)))]) [0, 1] (by decide) rfl) hS (Nat.le_of_ble_eq_true rfl) (Nat.le_of_ble_eq_true rfl) dX0_ask_140

set_option maxHeartbeats 4000000 in
set_option maxRecDepth 100000 in
theorem c_ask_5_0_2_1_1 (l : Launch) (D : va_G) (cI cZ cQ cT : ClassId) (sz : Nat) (aa : Nat) (xx : Int32) (a1 : Nat) (sl : Int32) (vv : Int32) (fa : Nat → Int32)  : MetI l yX0_ask cX0_ask 7 .int ({ frames := 4, cells := 0, slots := 0, locals := 102 } : Room) [.ref aa, .int 0, .int 2, .int xx, .int 1] D (TYS cI cZ cQ cT) EF sz [(aa, .inr (0, [.ref a1, .int 1, .int sl, .int 5, .int vv])), (a1, .inl (cI, 20, .inl fa))] (S := Unit) (fun (r : Int32) (_ : Unit) => r = ((((xx + sl) ^^^ sl) - vv) * (2 : Int32))) (fun _ => [(aa, .inr (0, [.ref a1, .int 5, .int sl, .int 5, .int vv])), (a1, .inl (cI, 20, .inl (upd (upd (upd (upd fa 1 3) 2 2) 3 51) 4 1)))]) := by
  refine MetI.mk (lv := [(0, .ref aa), (1, .int 0), (2, .int 2), (3, .int xx), (4, .int 1)]) (by decide +kernel) (Nat.le_of_ble_eq_true rfl) rfl ?_
  intro p e s m below meth c A ls C0 hP hD hS hX hl
  have C1 := C0
  obtain ⟨hx, hb, hr, hml, hown, hlocks, hname, hT, hN, hK, hA⟩ := C1
  refine lv_iload_n hx hb dX0_ask_0 rfl (lv_at hl 1 rfl) ?_
  refine lv_iload_n hx hb dX0_ask_1 rfl (lv_at hl 2 rfl) ?_
  refine contI (wc := []) (wr := [(aa, .inr (0, [.ref a1, .int 1, .int sl, .int 5, .int vv])), (a1, .inl (cI, 20, .inl fa))]) C0 hP hD hS [] [0, 1] rfl rfl (by decide) (by decide) 0 0 (Nat.le_of_ble_eq_true rfl) (Nat.le_of_ble_eq_true rfl) (runS (k := 2) (As := [.int 0, .int 2]) (rest := []) C0 (c_bodyOf_0_2 l D cI cZ cQ cT _ ) wc_X0_bodyOf wl_X0_48 wt_X0_bodyOf wz_X0 ⟨by decide, by decide, by decide +kernel⟩ ⟨(Nat.le_of_ble_eq_true rfl), (Nat.le_of_ble_eq_true rfl)⟩ hP hD hS EF.ok hX [] rfl (by decide) rfl hl.1 rfl (Nat.le_of_ble_eq_true rfl) dX0_ask_2 ⟨(Nat.le_of_ble_eq_true rfl), (Nat.le_of_ble_eq_true rfl)⟩) (fun r_3 u_1 H locs w_2 hP hD hS => ?_)
  have hP : va_P D CL [(aa, .inr (0, [.ref a1, .int 1, .int sl, .int 5, .int vv])), (a1, .inl (cI, 20, .inl fa))] H := hP
  have hD : va_D A [(aa, .inr (0, [.ref a1, .int 1, .int sl, .int 5, .int vv])), (a1, .inl (cI, 20, .inl fa))] := hD
  obtain rfl : r_3 = 3 := w_2
  refine lv_istore (lv' := [(5, .int 3), (0, .ref aa), (1, .int 0), (2, .int 2), (3, .int xx), (4, .int 1)]) hx hb dX0_ask_5 hl (by decide) rfl (fun ls hl => ?_)
  refine lv_iload hx hb dX0_ask_7 (lv_at hl 0 rfl) ?_
  refine lv_if_eq (tgt := 19) hx hb dX0_ask_9 (by decide) (fun c_0 => absurd c_0 (by decide)) (fun _ => ?_)
  refine lv_iload hx hb dX0_ask_12 (lv_at hl 5 rfl) ?_
  refine lv_bipush (v := 40) hx hb dX0_ask_14 (by decide) ?_
  refine lv_icmp_le (tgt := 21) hx hb dX0_ask_16 (by decide) (fun _ => ?_) (fun c_0 => absurd (by decide) c_0)
  refine lv_aload_n hx hb dX0_ask_21 rfl (lv_at hl 1 rfl) ?_
  refine lv_iload hx hb dX0_ask_22 (lv_at hl 0 rfl) ?_
  refine contV (wc := [(aa, .inr (0, [.ref a1, .int 1, .int sl, .int 5, .int vv])), (a1, .inl (cI, 20, .inl fa))]) (wr := []) C0 hP hD hS [0, 1] [] rfl rfl (by decide) (by decide) 0 0 (Nat.le_of_ble_eq_true rfl) (Nat.le_of_ble_eq_true rfl) (runV (k := 1) (As := [.int 3]) (rest := []) C0 (c_begin_1 l D cI cZ cQ cT _ aa 3 a1 sl 5 vv fa) wc_X0_begin wl_X0_52 wi_X0_begin we_X0_begin wz_X0 ⟨by decide, by decide, by decide +kernel⟩ ⟨(Nat.le_of_ble_eq_true rfl), (Nat.le_of_ble_eq_true rfl)⟩ hP hD hS EF.ok hX [0, 1] rfl (by decide) 0 rfl rfl rfl rfl hl.1 rfl (Nat.le_of_ble_eq_true rfl) dX0_ask_24 ⟨(Nat.le_of_ble_eq_true rfl), (Nat.le_of_ble_eq_true rfl)⟩) (fun u_4 H locs w_5 hP hD hS => ?_)
  have hP : va_P D CL [(aa, .inr (0, [.ref a1, .int 2, .int sl, .int 5, .int vv])), (a1, .inl (cI, 20, .inl (upd fa 1 (3 : Int32))))] H := hP
  have hD : va_D A [(aa, .inr (0, [.ref a1, .int 2, .int sl, .int 5, .int vv])), (a1, .inl (cI, 20, .inl (upd fa 1 (3 : Int32))))] := hD
  refine lv_iload hx hb dX0_ask_27 (lv_at hl 5 rfl) ?_
  refine lv_iconst (v := 1) hx hb dX0_ask_29 (by decide) ?_
  refine lv_iadd hx hb dX0_ask_30 ?_
  refine lv_ci 2 (by decide +kernel) ?_
  refine lv_istore (lv' := [(6, .int 2), (5, .int 3), (0, .ref aa), (1, .int 0), (2, .int 2), (3, .int xx), (4, .int 1)]) hx hb dX0_ask_31 hl (by decide) rfl (fun ls hl => ?_)
  refine lv_iload hx hb dX0_ask_33 (lv_at hl 1 rfl) ?_
  refine lv_lookup (off := 106) (tgt := 141) hx hb dX0_ask_35 (by decide) (by decide) (by decide) ?_
  refine lv_aload_n hx hb dX0_ask_141 rfl (lv_at hl 2 rfl) ?_
  refine lv_aload_n hx hb dX0_ask_142 rfl (lv_at hl 2 rfl) ?_
  refine va_get (ci := 0) (v := .int 5) (C := RX0) (T := TX0) (N := 5) hx hb hT wu_X0 hown hK hP 0 rfl rfl 3 (by decide) (hT _ wf_X0_31) (fun _ h9 => h9) rfl dX0_ask_143 ?_
  refine lv_iconst (v := 1) hx hb dX0_ask_146 (by decide) ?_
  refine lv_iload_n hx hb dX0_ask_147 rfl (lv_at hl 5 rfl) ?_
  refine lv_iload hx hb dX0_ask_148 (lv_at hl 0 rfl) ?_
  refine contI (wc := [(aa, .inr (0, [.ref a1, .int 2, .int sl, .int 5, .int vv])), (a1, .inl (cI, 20, .inl (upd fa 1 (3 : Int32))))]) (wr := []) C0 hP hD hS [0, 1] [] rfl rfl (by decide) (by decide) 0 0 (Nat.le_of_ble_eq_true rfl) (Nat.le_of_ble_eq_true rfl) (runV (k := 4) (As := [.int 5, .int 1, .int xx, .int 2]) (rest := []) C0 (c_ask_5_5_1_2_2 l D cI cZ cQ cT _ aa xx a1 sl vv (upd fa 1 (3 : Int32))) wc_X0_ask wl_X0_38 wi_X0_ask we_X0_ask wz_X0 ⟨by decide, by decide, by decide +kernel⟩ ⟨(Nat.le_of_ble_eq_true rfl), (Nat.le_of_ble_eq_true rfl)⟩ hP hD hS EF.ok hX [0, 1] rfl (by decide) 0 rfl rfl rfl rfl hl.1 rfl (Nat.le_of_ble_eq_true rfl) dX0_ask_150 ⟨(Nat.le_of_ble_eq_true rfl), (Nat.le_of_ble_eq_true rfl)⟩) (fun r_9 u_7 H locs w_8 hP hD hS => ?_)
  have hP : va_P D CL [(aa, .inr (0, [.ref a1, .int 5, .int sl, .int 5, .int vv])), (a1, .inl (cI, 20, .inl (upd (upd (upd (upd fa 1 (3 : Int32)) 2 2) 3 51) 4 1)))] H := hP
  have hD : va_D A [(aa, .inr (0, [.ref a1, .int 5, .int sl, .int 5, .int vv])), (a1, .inl (cI, 20, .inl (upd (upd (upd (upd fa 1 (3 : Int32)) 2 2) 3 51) 4 1)))] := hD
  obtain rfl : r_9 = (((xx + sl) ^^^ sl) - vv) := w_8
  refine lv_iconst (v := 2) hx hb dX0_ask_153 (by decide) ?_
  refine lv_imul hx hb dX0_ask_154 ?_
  exact retI C0 rfl () rfl (hP.sub (ws' := [(aa, .inr (0, [.ref a1, .int 5, .int sl, .int 5, .int vv])), (a1, .inl (cI, 20, .inl (upd (upd (upd (upd fa 1 3) 2 2) 3 51) 4 1)))]) [0, 1] rfl) (hD.sub (ws' := [(aa, .inr (0, [.ref a1, .int 5, .int sl, .int 5, .int vv])), (a1, .inl (cI, 20, .inl (upd (upd (upd (upd fa 1 3) 2 2) 3 51) 4 1)))]) [0, 1] (by decide) rfl) hS (Nat.le_of_ble_eq_true rfl) (Nat.le_of_ble_eq_true rfl) dX0_ask_155

set_option maxHeartbeats 4000000 in
set_option maxRecDepth 100000 in
theorem c_ask_5_5_2_0_0 (l : Launch) (D : va_G) (cI cZ cQ cT : ClassId) (sz : Nat) (aa : Nat) (xx : Int32) (a1 : Nat) (sl : Int32) (vv : Int32) (fa : Nat → Int32)  : MetI l yX0_ask cX0_ask 7 .int ({ frames := 5, cells := 0, slots := 0, locals := 128 } : Room) [.ref aa, .int 5, .int 2, .int xx, .int 0] D (TYS cI cZ cQ cT) EF sz [(aa, .inr (0, [.ref a1, .int 0, .int sl, .int 5, .int vv])), (a1, .inl (cI, 20, .inl fa))] (S := Unit) (fun (r : Int32) (_ : Unit) => r = (((((xx + sl) ^^^ sl) - vv) * (2 : Int32)) ^^^ (7 : Int32))) (fun _ => [(aa, .inr (0, [.ref a1, .int 5, .int sl, .int 5, .int vv])), (a1, .inl (cI, 20, .inl (upd (upd (upd (upd (upd fa 0 31) 1 3) 2 2) 3 51) 4 1)))]) := by
  refine MetI.mk (lv := [(0, .ref aa), (1, .int 5), (2, .int 2), (3, .int xx), (4, .int 0)]) (by decide +kernel) (Nat.le_of_ble_eq_true rfl) rfl ?_
  intro p e s m below meth c A ls C0 hP hD hS hX hl
  have C1 := C0
  obtain ⟨hx, hb, hr, hml, hown, hlocks, hname, hT, hN, hK, hA⟩ := C1
  refine lv_iload_n hx hb dX0_ask_0 rfl (lv_at hl 1 rfl) ?_
  refine lv_iload_n hx hb dX0_ask_1 rfl (lv_at hl 2 rfl) ?_
  refine contI (wc := []) (wr := [(aa, .inr (0, [.ref a1, .int 0, .int sl, .int 5, .int vv])), (a1, .inl (cI, 20, .inl fa))]) C0 hP hD hS [] [0, 1] rfl rfl (by decide) (by decide) 0 0 (Nat.le_of_ble_eq_true rfl) (Nat.le_of_ble_eq_true rfl) (runS (k := 2) (As := [.int 5, .int 2]) (rest := []) C0 (c_bodyOf_5_2 l D cI cZ cQ cT _ ) wc_X0_bodyOf wl_X0_48 wt_X0_bodyOf wz_X0 ⟨by decide, by decide, by decide +kernel⟩ ⟨(Nat.le_of_ble_eq_true rfl), (Nat.le_of_ble_eq_true rfl)⟩ hP hD hS EF.ok hX [] rfl (by decide) rfl hl.1 rfl (Nat.le_of_ble_eq_true rfl) dX0_ask_2 ⟨(Nat.le_of_ble_eq_true rfl), (Nat.le_of_ble_eq_true rfl)⟩) (fun r_3 u_1 H locs w_2 hP hD hS => ?_)
  have hP : va_P D CL [(aa, .inr (0, [.ref a1, .int 0, .int sl, .int 5, .int vv])), (a1, .inl (cI, 20, .inl fa))] H := hP
  have hD : va_D A [(aa, .inr (0, [.ref a1, .int 0, .int sl, .int 5, .int vv])), (a1, .inl (cI, 20, .inl fa))] := hD
  obtain rfl : r_3 = 31 := w_2
  refine lv_istore (lv' := [(5, .int 31), (0, .ref aa), (1, .int 5), (2, .int 2), (3, .int xx), (4, .int 0)]) hx hb dX0_ask_5 hl (by decide) rfl (fun ls hl => ?_)
  refine lv_iload hx hb dX0_ask_7 (lv_at hl 0 rfl) ?_
  refine lv_if_eq (tgt := 19) hx hb dX0_ask_9 (by decide) (fun c_0 => absurd c_0 (by decide)) (fun _ => ?_)
  refine lv_iload hx hb dX0_ask_12 (lv_at hl 5 rfl) ?_
  refine lv_bipush (v := 40) hx hb dX0_ask_14 (by decide) ?_
  refine lv_icmp_le (tgt := 21) hx hb dX0_ask_16 (by decide) (fun _ => ?_) (fun c_0 => absurd (by decide) c_0)
  refine lv_aload_n hx hb dX0_ask_21 rfl (lv_at hl 1 rfl) ?_
  refine lv_iload hx hb dX0_ask_22 (lv_at hl 0 rfl) ?_
  refine contV (wc := [(aa, .inr (0, [.ref a1, .int 0, .int sl, .int 5, .int vv])), (a1, .inl (cI, 20, .inl fa))]) (wr := []) C0 hP hD hS [0, 1] [] rfl rfl (by decide) (by decide) 0 0 (Nat.le_of_ble_eq_true rfl) (Nat.le_of_ble_eq_true rfl) (runV (k := 1) (As := [.int 31]) (rest := []) C0 (c_begin_0 l D cI cZ cQ cT _ aa 31 a1 sl 5 vv fa) wc_X0_begin wl_X0_52 wi_X0_begin we_X0_begin wz_X0 ⟨by decide, by decide, by decide +kernel⟩ ⟨(Nat.le_of_ble_eq_true rfl), (Nat.le_of_ble_eq_true rfl)⟩ hP hD hS EF.ok hX [0, 1] rfl (by decide) 0 rfl rfl rfl rfl hl.1 rfl (Nat.le_of_ble_eq_true rfl) dX0_ask_24 ⟨(Nat.le_of_ble_eq_true rfl), (Nat.le_of_ble_eq_true rfl)⟩) (fun u_4 H locs w_5 hP hD hS => ?_)
  have hP : va_P D CL [(aa, .inr (0, [.ref a1, .int 1, .int sl, .int 5, .int vv])), (a1, .inl (cI, 20, .inl (upd fa 0 (31 : Int32))))] H := hP
  have hD : va_D A [(aa, .inr (0, [.ref a1, .int 1, .int sl, .int 5, .int vv])), (a1, .inl (cI, 20, .inl (upd fa 0 (31 : Int32))))] := hD
  refine lv_iload hx hb dX0_ask_27 (lv_at hl 5 rfl) ?_
  refine lv_iconst (v := 1) hx hb dX0_ask_29 (by decide) ?_
  refine lv_iadd hx hb dX0_ask_30 ?_
  refine lv_ci 1 (by decide +kernel) ?_
  refine lv_istore (lv' := [(6, .int 1), (5, .int 31), (0, .ref aa), (1, .int 5), (2, .int 2), (3, .int xx), (4, .int 0)]) hx hb dX0_ask_31 hl (by decide) rfl (fun ls hl => ?_)
  refine lv_iload hx hb dX0_ask_33 (lv_at hl 1 rfl) ?_
  refine lv_lookup (off := 144) (tgt := 179) hx hb dX0_ask_35 (by decide) (by decide) (by decide) ?_
  refine lv_aload_n hx hb dX0_ask_179 rfl (lv_at hl 2 rfl) ?_
  refine lv_iconst (v := 0) hx hb dX0_ask_180 (by decide) ?_
  refine lv_iconst (v := 2) hx hb dX0_ask_181 (by decide) ?_
  refine lv_iload_n hx hb dX0_ask_182 rfl (lv_at hl 5 rfl) ?_
  refine lv_iload hx hb dX0_ask_183 (lv_at hl 0 rfl) ?_
  refine contI (wc := [(aa, .inr (0, [.ref a1, .int 1, .int sl, .int 5, .int vv])), (a1, .inl (cI, 20, .inl (upd fa 0 (31 : Int32))))]) (wr := []) C0 hP hD hS [0, 1] [] rfl rfl (by decide) (by decide) 0 0 (Nat.le_of_ble_eq_true rfl) (Nat.le_of_ble_eq_true rfl) (runV (k := 4) (As := [.int 0, .int 2, .int xx, .int 1]) (rest := []) C0 (c_ask_5_0_2_1_1 l D cI cZ cQ cT _ aa xx a1 sl vv (upd fa 0 (31 : Int32))) wc_X0_ask wl_X0_38 wi_X0_ask we_X0_ask wz_X0 ⟨by decide, by decide, by decide +kernel⟩ ⟨(Nat.le_of_ble_eq_true rfl), (Nat.le_of_ble_eq_true rfl)⟩ hP hD hS EF.ok hX [0, 1] rfl (by decide) 0 rfl rfl rfl rfl hl.1 rfl (Nat.le_of_ble_eq_true rfl) dX0_ask_185 ⟨(Nat.le_of_ble_eq_true rfl), (Nat.le_of_ble_eq_true rfl)⟩) (fun r_9 u_7 H locs w_8 hP hD hS => ?_)
  have hP : va_P D CL [(aa, .inr (0, [.ref a1, .int 5, .int sl, .int 5, .int vv])), (a1, .inl (cI, 20, .inl (upd (upd (upd (upd (upd fa 0 (31 : Int32)) 1 3) 2 2) 3 51) 4 1)))] H := hP
  have hD : va_D A [(aa, .inr (0, [.ref a1, .int 5, .int sl, .int 5, .int vv])), (a1, .inl (cI, 20, .inl (upd (upd (upd (upd (upd fa 0 (31 : Int32)) 1 3) 2 2) 3 51) 4 1)))] := hD
  obtain rfl : r_9 = ((((xx + sl) ^^^ sl) - vv) * (2 : Int32)) := w_8
  refine lv_bipush (v := 7) hx hb dX0_ask_188 (by decide) ?_
  refine lv_ixor hx hb dX0_ask_190 ?_
  exact retI C0 rfl () rfl (hP.sub (ws' := [(aa, .inr (0, [.ref a1, .int 5, .int sl, .int 5, .int vv])), (a1, .inl (cI, 20, .inl (upd (upd (upd (upd (upd fa 0 31) 1 3) 2 2) 3 51) 4 1)))]) [0, 1] rfl) (hD.sub (ws' := [(aa, .inr (0, [.ref a1, .int 5, .int sl, .int 5, .int vv])), (a1, .inl (cI, 20, .inl (upd (upd (upd (upd (upd fa 0 31) 1 3) 2 2) 3 51) 4 1)))]) [0, 1] (by decide) rfl) hS (Nat.le_of_ble_eq_true rfl) (Nat.le_of_ble_eq_true rfl) dX0_ask_191

set_option maxHeartbeats 4000000 in
set_option maxRecDepth 100000 in
theorem c_bodyOf_6_2 (l : Launch) (D : va_G) (cI cZ cQ cT : ClassId) (sz : Nat)   : MetI l yX0_bodyOf cX0_bodyOf 5 .int ({ frames := 0, cells := 0, slots := 0, locals := 0 } : Room) [.int 6, .int 2] D (TYS cI cZ cQ cT) EF sz [] (S := Unit) (fun (r : Int32) (_ : Unit) => r = 31) (fun _ => []) := by
  refine MetI.mk (lv := [(0, .int 6), (1, .int 2)]) (by decide +kernel) (Nat.le_of_ble_eq_true rfl) rfl ?_
  intro p e s m below meth c A ls C0 hP hD hS hX hl
  have C1 := C0
  obtain ⟨hx, hb, hr, hml, hown, hlocks, hname, hT, hN, hK, hA⟩ := C1
  obtain ⟨kab, hkz, hkT⟩ := hX.2.1
  obtain ⟨bdy, hbz, hbT⟩ := hX.2.2.1
  refine lv_iload_n hx hb dX0_bodyOf_0 rfl (lv_at hl 0 rfl) ?_
  refine lv_istore_n (lv' := [(2, .int 6), (0, .int 6), (1, .int 2)]) hx hb dX0_bodyOf_1 rfl hl (by decide) rfl (fun ls hl => ?_)
  refine lv_iconst (v := 0) hx hb dX0_bodyOf_2 (by decide) ?_
  refine lv_istore_n (lv' := [(3, .int 0), (2, .int 6), (0, .int 6), (1, .int 2)]) hx hb dX0_bodyOf_3 rfl hl (by decide) rfl (fun ls hl => ?_)
  refine lv_iload_n hx hb dX0_bodyOf_4 rfl (lv_at hl 0 rfl) ?_
  refine lv_bipush (v := 7) hx hb dX0_bodyOf_5 (by decide) ?_
  refine lv_icmp_ge (tgt := 69) hx hb dX0_bodyOf_7 (by decide) (fun c_0 => absurd c_0 (by decide)) (fun _ => ?_)
  refine lv_iload_n hx hb dX0_bodyOf_10 rfl (lv_at hl 1 rfl) ?_
  refine lv_if_lt (tgt := 69) hx hb dX0_bodyOf_11 (by decide) (fun c_0 => absurd c_0 (by decide)) (fun _ => ?_)
  refine lv_iload_n hx hb dX0_bodyOf_14 rfl (lv_at hl 1 rfl) ?_
  refine lv_bipush (v := 7) hx hb dX0_bodyOf_15 (by decide) ?_
  refine lv_icmp_ge (tgt := 69) hx hb dX0_bodyOf_17 (by decide) (fun c_0 => absurd c_0 (by decide)) (fun _ => ?_)
  refine lv_iload_n hx hb dX0_bodyOf_20 rfl (lv_at hl 1 rfl) ?_
  refine lv_iconst (v := 3) hx hb dX0_bodyOf_21 (by decide) ?_
  refine lv_imul hx hb dX0_bodyOf_22 ?_
  refine lv_ci 18 (by decide +kernel) ?_
  refine lv_iload_n hx hb dX0_bodyOf_23 rfl (lv_at hl 3 rfl) ?_
  refine lv_iadd hx hb dX0_bodyOf_24 ?_
  refine lv_ci 20 (by decide +kernel) ?_
  refine lv_istore (lv' := [(4, .int 20), (3, .int 0), (2, .int 6), (0, .int 6), (1, .int 2)]) hx hb dX0_bodyOf_25 hl (by decide) rfl (fun ls hl => ?_)
  refine lv_iload hx hb dX0_bodyOf_27 (lv_at hl 0 rfl) ?_
  refine lv_if_lt (tgt := 57) hx hb dX0_bodyOf_29 (by decide) (fun c_0 => absurd c_0 (by decide)) (fun _ => ?_)
  refine lv_iload hx hb dX0_bodyOf_32 (lv_at hl 0 rfl) ?_
  refine va_gets hx hb hbz hS hown (hT _ wf_X0_42) (fun _ h9 => h9) dX0_bodyOf_34 ?_
  refine va_tlen hx hb hbT hS (v := 21) rfl dX0_bodyOf_37 ?_
  refine lv_icmp_ge (tgt := 57) hx hb dX0_bodyOf_38 (by decide) (fun c_0 => absurd c_0 (by decide)) (fun _ => ?_)
  refine va_gets hx hb hbz hS hown (hT _ wf_X0_42) (fun _ h9 => h9) dX0_bodyOf_41 ?_
  refine lv_iload hx hb dX0_bodyOf_44 (lv_at hl 0 rfl) ?_
  refine va_ti hx hb hbT hS (vin _ _ (by decide +kernel)) (v := .int 0) rfl dX0_bodyOf_46 ?_
  refine lv_if_eq (tgt := 57) hx hb dX0_bodyOf_47 (by decide) (fun _ => ?_) (fun c_0 => absurd (by decide) c_0)
  refine va_getsN hx hb hkz hS hown (va_Nw.use rfl (hN.get 750 kf_X0_45 rfl)) (fun _ h9 => h9) dX0_bodyOf_57 ?_
  refine lv_iload_n hx hb dX0_bodyOf_60 rfl (lv_at hl 2 rfl) ?_
  refine va_ti hx hb hkT hS (vin _ _ (by decide +kernel)) (v := .int 3) rfl dX0_bodyOf_61 ?_
  refine lv_istore_n (lv' := [(2, .int 3), (4, .int 20), (3, .int 0), (0, .int 6), (1, .int 2)]) hx hb dX0_bodyOf_62 rfl hl (by decide) rfl (fun ls hl => ?_)
  refine lv_iinc (v := 1) (lv' := [(3, .int 1), (2, .int 3), (4, .int 20), (0, .int 6), (1, .int 2)]) hx hb dX0_bodyOf_63 hl (k := 2) rfl (by decide) (by decide) rfl (fun ls hl => ?_)
  refine lv_goto (tgt := 4) hx hb dX0_bodyOf_66 (by decide) ?_
  refine lv_iload_n hx hb dX0_bodyOf_4 rfl (lv_at hl 0 rfl) ?_
  refine lv_bipush (v := 7) hx hb dX0_bodyOf_5 (by decide) ?_
  refine lv_icmp_ge (tgt := 69) hx hb dX0_bodyOf_7 (by decide) (fun c_0 => absurd c_0 (by decide)) (fun _ => ?_)
  refine lv_iload_n hx hb dX0_bodyOf_10 rfl (lv_at hl 1 rfl) ?_
  refine lv_if_lt (tgt := 69) hx hb dX0_bodyOf_11 (by decide) (fun c_0 => absurd c_0 (by decide)) (fun _ => ?_)
  refine lv_iload_n hx hb dX0_bodyOf_14 rfl (lv_at hl 1 rfl) ?_
  refine lv_bipush (v := 7) hx hb dX0_bodyOf_15 (by decide) ?_
  refine lv_icmp_ge (tgt := 69) hx hb dX0_bodyOf_17 (by decide) (fun c_0 => absurd c_0 (by decide)) (fun _ => ?_)
  refine lv_iload_n hx hb dX0_bodyOf_20 rfl (lv_at hl 1 rfl) ?_
  refine lv_iconst (v := 3) hx hb dX0_bodyOf_21 (by decide) ?_
  refine lv_imul hx hb dX0_bodyOf_22 ?_
  refine lv_ci 9 (by decide +kernel) ?_
  refine lv_iload_n hx hb dX0_bodyOf_23 rfl (lv_at hl 4 rfl) ?_
  refine lv_iadd hx hb dX0_bodyOf_24 ?_
  refine lv_ci 11 (by decide +kernel) ?_
  refine lv_istore (lv' := [(4, .int 11), (3, .int 1), (2, .int 3), (0, .int 6), (1, .int 2)]) hx hb dX0_bodyOf_25 hl (by decide) rfl (fun ls hl => ?_)
  refine lv_iload hx hb dX0_bodyOf_27 (lv_at hl 0 rfl) ?_
  refine lv_if_lt (tgt := 57) hx hb dX0_bodyOf_29 (by decide) (fun c_0 => absurd c_0 (by decide)) (fun _ => ?_)
  refine lv_iload hx hb dX0_bodyOf_32 (lv_at hl 0 rfl) ?_
  refine va_gets hx hb hbz hS hown (hT _ wf_X0_42) (fun _ h9 => h9) dX0_bodyOf_34 ?_
  refine va_tlen hx hb hbT hS (v := 21) rfl dX0_bodyOf_37 ?_
  refine lv_icmp_ge (tgt := 57) hx hb dX0_bodyOf_38 (by decide) (fun c_0 => absurd c_0 (by decide)) (fun _ => ?_)
  refine va_gets hx hb hbz hS hown (hT _ wf_X0_42) (fun _ h9 => h9) dX0_bodyOf_41 ?_
  refine lv_iload hx hb dX0_bodyOf_44 (lv_at hl 0 rfl) ?_
  refine va_ti hx hb hbT hS (vin _ _ (by decide +kernel)) (v := .int 31) rfl dX0_bodyOf_46 ?_
  refine lv_if_eq (tgt := 57) hx hb dX0_bodyOf_47 (by decide) (fun c_0 => absurd c_0 (by decide)) (fun _ => ?_)
  refine va_gets hx hb hbz hS hown (hT _ wf_X0_42) (fun _ h9 => h9) dX0_bodyOf_50 ?_
  refine lv_iload hx hb dX0_bodyOf_53 (lv_at hl 0 rfl) ?_
  refine va_ti hx hb hbT hS (vin _ _ (by decide +kernel)) (v := .int 31) rfl dX0_bodyOf_55 ?_
  exact retI C0 rfl () rfl (hP.sub (ws' := []) [] rfl) (hD.sub (ws' := []) [] (by decide) rfl) hS (Nat.le_of_ble_eq_true rfl) (Nat.le_of_ble_eq_true rfl) dX0_bodyOf_56

set_option maxHeartbeats 4000000 in
set_option maxRecDepth 100000 in
theorem c_ask_6_6_0_4_4 (l : Launch) (D : va_G) (cI cZ cQ cT : ClassId) (sz : Nat) (aa : Nat) (xx : Int32) (a1 : Nat) (sl : Int32) (vv : Int32) (fa : Nat → Int32)  : MetI l yX0_ask cX0_ask 7 .int ({ frames := 1, cells := 0, slots := 0, locals := 24 } : Room) [.ref aa, .int 6, .int 0, .int xx, .int 4] D (TYS cI cZ cQ cT) EF sz [(aa, .inr (0, [.ref a1, .int 4, .int sl, .int 6, .int vv])), (a1, .inl (cI, 20, .inl fa))] (S := Unit) (fun (r : Int32) (_ : Unit) => r = (xx + sl)) (fun _ => [(aa, .inr (0, [.ref a1, .int 5, .int sl, .int 6, .int vv])), (a1, .inl (cI, 20, .inl (upd fa 4 1)))]) := by
  refine MetI.mk (lv := [(0, .ref aa), (1, .int 6), (2, .int 0), (3, .int xx), (4, .int 4)]) (by decide +kernel) (Nat.le_of_ble_eq_true rfl) rfl ?_
  intro p e s m below meth c A ls C0 hP hD hS hX hl
  have C1 := C0
  obtain ⟨hx, hb, hr, hml, hown, hlocks, hname, hT, hN, hK, hA⟩ := C1
  refine lv_iload_n hx hb dX0_ask_0 rfl (lv_at hl 1 rfl) ?_
  refine lv_iload_n hx hb dX0_ask_1 rfl (lv_at hl 2 rfl) ?_
  refine contI (wc := []) (wr := [(aa, .inr (0, [.ref a1, .int 4, .int sl, .int 6, .int vv])), (a1, .inl (cI, 20, .inl fa))]) C0 hP hD hS [] [0, 1] rfl rfl (by decide) (by decide) 0 0 (Nat.le_of_ble_eq_true rfl) (Nat.le_of_ble_eq_true rfl) (runS (k := 2) (As := [.int 6, .int 0]) (rest := []) C0 (c_bodyOf_6_0 l D cI cZ cQ cT _ ) wc_X0_bodyOf wl_X0_48 wt_X0_bodyOf wz_X0 ⟨by decide, by decide, by decide +kernel⟩ ⟨(Nat.le_of_ble_eq_true rfl), (Nat.le_of_ble_eq_true rfl)⟩ hP hD hS EF.ok hX [] rfl (by decide) rfl hl.1 rfl (Nat.le_of_ble_eq_true rfl) dX0_ask_2 ⟨(Nat.le_of_ble_eq_true rfl), (Nat.le_of_ble_eq_true rfl)⟩) (fun r_3 u_1 H locs w_2 hP hD hS => ?_)
  have hP : va_P D CL [(aa, .inr (0, [.ref a1, .int 4, .int sl, .int 6, .int vv])), (a1, .inl (cI, 20, .inl fa))] H := hP
  have hD : va_D A [(aa, .inr (0, [.ref a1, .int 4, .int sl, .int 6, .int vv])), (a1, .inl (cI, 20, .inl fa))] := hD
  obtain rfl : r_3 = 1 := w_2
  refine lv_istore (lv' := [(5, .int 1), (0, .ref aa), (1, .int 6), (2, .int 0), (3, .int xx), (4, .int 4)]) hx hb dX0_ask_5 hl (by decide) rfl (fun ls hl => ?_)
  refine lv_iload hx hb dX0_ask_7 (lv_at hl 0 rfl) ?_
  refine lv_if_eq (tgt := 19) hx hb dX0_ask_9 (by decide) (fun c_0 => absurd c_0 (by decide)) (fun _ => ?_)
  refine lv_iload hx hb dX0_ask_12 (lv_at hl 5 rfl) ?_
  refine lv_bipush (v := 40) hx hb dX0_ask_14 (by decide) ?_
  refine lv_icmp_le (tgt := 21) hx hb dX0_ask_16 (by decide) (fun _ => ?_) (fun c_0 => absurd (by decide) c_0)
  refine lv_aload_n hx hb dX0_ask_21 rfl (lv_at hl 1 rfl) ?_
  refine lv_iload hx hb dX0_ask_22 (lv_at hl 0 rfl) ?_
  refine contV (wc := [(aa, .inr (0, [.ref a1, .int 4, .int sl, .int 6, .int vv])), (a1, .inl (cI, 20, .inl fa))]) (wr := []) C0 hP hD hS [0, 1] [] rfl rfl (by decide) (by decide) 0 0 (Nat.le_of_ble_eq_true rfl) (Nat.le_of_ble_eq_true rfl) (runV (k := 1) (As := [.int 1]) (rest := []) C0 (c_begin_4 l D cI cZ cQ cT _ aa 1 a1 sl 6 vv fa) wc_X0_begin wl_X0_52 wi_X0_begin we_X0_begin wz_X0 ⟨by decide, by decide, by decide +kernel⟩ ⟨(Nat.le_of_ble_eq_true rfl), (Nat.le_of_ble_eq_true rfl)⟩ hP hD hS EF.ok hX [0, 1] rfl (by decide) 0 rfl rfl rfl rfl hl.1 rfl (Nat.le_of_ble_eq_true rfl) dX0_ask_24 ⟨(Nat.le_of_ble_eq_true rfl), (Nat.le_of_ble_eq_true rfl)⟩) (fun u_4 H locs w_5 hP hD hS => ?_)
  have hP : va_P D CL [(aa, .inr (0, [.ref a1, .int 5, .int sl, .int 6, .int vv])), (a1, .inl (cI, 20, .inl (upd fa 4 (1 : Int32))))] H := hP
  have hD : va_D A [(aa, .inr (0, [.ref a1, .int 5, .int sl, .int 6, .int vv])), (a1, .inl (cI, 20, .inl (upd fa 4 (1 : Int32))))] := hD
  refine lv_iload hx hb dX0_ask_27 (lv_at hl 5 rfl) ?_
  refine lv_iconst (v := 1) hx hb dX0_ask_29 (by decide) ?_
  refine lv_iadd hx hb dX0_ask_30 ?_
  refine lv_ci 5 (by decide +kernel) ?_
  refine lv_istore (lv' := [(6, .int 5), (5, .int 1), (0, .ref aa), (1, .int 6), (2, .int 0), (3, .int xx), (4, .int 4)]) hx hb dX0_ask_31 hl (by decide) rfl (fun ls hl => ?_)
  refine lv_iload hx hb dX0_ask_33 (lv_at hl 1 rfl) ?_
  refine lv_lookup (off := 81) (tgt := 116) hx hb dX0_ask_35 (by decide) (by decide) (by decide) ?_
  refine lv_iload_n hx hb dX0_ask_116 rfl (lv_at hl 5 rfl) ?_
  refine lv_aload_n hx hb dX0_ask_117 rfl (lv_at hl 2 rfl) ?_
  refine va_get (ci := 0) (v := .int sl) (C := RX0) (T := TX0) (N := 5) hx hb hT wu_X0 hown hK hP 0 rfl rfl 2 (by decide) (hT _ wf_X0_25) (fun _ h9 => h9) rfl dX0_ask_118 ?_
  refine lv_iadd hx hb dX0_ask_121 ?_
  exact retI C0 rfl () rfl (hP.sub (ws' := [(aa, .inr (0, [.ref a1, .int 5, .int sl, .int 6, .int vv])), (a1, .inl (cI, 20, .inl (upd fa 4 1)))]) [0, 1] rfl) (hD.sub (ws' := [(aa, .inr (0, [.ref a1, .int 5, .int sl, .int 6, .int vv])), (a1, .inl (cI, 20, .inl (upd fa 4 1)))]) [0, 1] (by decide) rfl) hS (Nat.le_of_ble_eq_true rfl) (Nat.le_of_ble_eq_true rfl) dX0_ask_122

set_option maxHeartbeats 4000000 in
set_option maxRecDepth 100000 in
theorem c_ask_6_3_1_3_3 (l : Launch) (D : va_G) (cI cZ cQ cT : ClassId) (sz : Nat) (aa : Nat) (xx : Int32) (a1 : Nat) (sl : Int32) (vv : Int32) (fa : Nat → Int32)  : MetI l yX0_ask cX0_ask 7 .int ({ frames := 2, cells := 0, slots := 0, locals := 50 } : Room) [.ref aa, .int 3, .int 1, .int xx, .int 3] D (TYS cI cZ cQ cT) EF sz [(aa, .inr (0, [.ref a1, .int 3, .int sl, .int 6, .int vv])), (a1, .inl (cI, 20, .inl fa))] (S := Unit) (fun (r : Int32) (_ : Unit) => r = ((xx + sl) - vv)) (fun _ => [(aa, .inr (0, [.ref a1, .int 5, .int sl, .int 6, .int vv])), (a1, .inl (cI, 20, .inl (upd (upd fa 3 2) 4 1)))]) := by
  refine MetI.mk (lv := [(0, .ref aa), (1, .int 3), (2, .int 1), (3, .int xx), (4, .int 3)]) (by decide +kernel) (Nat.le_of_ble_eq_true rfl) rfl ?_
  intro p e s m below meth c A ls C0 hP hD hS hX hl
  have C1 := C0
  obtain ⟨hx, hb, hr, hml, hown, hlocks, hname, hT, hN, hK, hA⟩ := C1
  refine lv_iload_n hx hb dX0_ask_0 rfl (lv_at hl 1 rfl) ?_
  refine lv_iload_n hx hb dX0_ask_1 rfl (lv_at hl 2 rfl) ?_
  refine contI (wc := []) (wr := [(aa, .inr (0, [.ref a1, .int 3, .int sl, .int 6, .int vv])), (a1, .inl (cI, 20, .inl fa))]) C0 hP hD hS [] [0, 1] rfl rfl (by decide) (by decide) 0 0 (Nat.le_of_ble_eq_true rfl) (Nat.le_of_ble_eq_true rfl) (runS (k := 2) (As := [.int 3, .int 1]) (rest := []) C0 (c_bodyOf_3_1 l D cI cZ cQ cT _ ) wc_X0_bodyOf wl_X0_48 wt_X0_bodyOf wz_X0 ⟨by decide, by decide, by decide +kernel⟩ ⟨(Nat.le_of_ble_eq_true rfl), (Nat.le_of_ble_eq_true rfl)⟩ hP hD hS EF.ok hX [] rfl (by decide) rfl hl.1 rfl (Nat.le_of_ble_eq_true rfl) dX0_ask_2 ⟨(Nat.le_of_ble_eq_true rfl), (Nat.le_of_ble_eq_true rfl)⟩) (fun r_3 u_1 H locs w_2 hP hD hS => ?_)
  have hP : va_P D CL [(aa, .inr (0, [.ref a1, .int 3, .int sl, .int 6, .int vv])), (a1, .inl (cI, 20, .inl fa))] H := hP
  have hD : va_D A [(aa, .inr (0, [.ref a1, .int 3, .int sl, .int 6, .int vv])), (a1, .inl (cI, 20, .inl fa))] := hD
  obtain rfl : r_3 = 2 := w_2
  refine lv_istore (lv' := [(5, .int 2), (0, .ref aa), (1, .int 3), (2, .int 1), (3, .int xx), (4, .int 3)]) hx hb dX0_ask_5 hl (by decide) rfl (fun ls hl => ?_)
  refine lv_iload hx hb dX0_ask_7 (lv_at hl 0 rfl) ?_
  refine lv_if_eq (tgt := 19) hx hb dX0_ask_9 (by decide) (fun c_0 => absurd c_0 (by decide)) (fun _ => ?_)
  refine lv_iload hx hb dX0_ask_12 (lv_at hl 5 rfl) ?_
  refine lv_bipush (v := 40) hx hb dX0_ask_14 (by decide) ?_
  refine lv_icmp_le (tgt := 21) hx hb dX0_ask_16 (by decide) (fun _ => ?_) (fun c_0 => absurd (by decide) c_0)
  refine lv_aload_n hx hb dX0_ask_21 rfl (lv_at hl 1 rfl) ?_
  refine lv_iload hx hb dX0_ask_22 (lv_at hl 0 rfl) ?_
  refine contV (wc := [(aa, .inr (0, [.ref a1, .int 3, .int sl, .int 6, .int vv])), (a1, .inl (cI, 20, .inl fa))]) (wr := []) C0 hP hD hS [0, 1] [] rfl rfl (by decide) (by decide) 0 0 (Nat.le_of_ble_eq_true rfl) (Nat.le_of_ble_eq_true rfl) (runV (k := 1) (As := [.int 2]) (rest := []) C0 (c_begin_3 l D cI cZ cQ cT _ aa 2 a1 sl 6 vv fa) wc_X0_begin wl_X0_52 wi_X0_begin we_X0_begin wz_X0 ⟨by decide, by decide, by decide +kernel⟩ ⟨(Nat.le_of_ble_eq_true rfl), (Nat.le_of_ble_eq_true rfl)⟩ hP hD hS EF.ok hX [0, 1] rfl (by decide) 0 rfl rfl rfl rfl hl.1 rfl (Nat.le_of_ble_eq_true rfl) dX0_ask_24 ⟨(Nat.le_of_ble_eq_true rfl), (Nat.le_of_ble_eq_true rfl)⟩) (fun u_4 H locs w_5 hP hD hS => ?_)
  have hP : va_P D CL [(aa, .inr (0, [.ref a1, .int 4, .int sl, .int 6, .int vv])), (a1, .inl (cI, 20, .inl (upd fa 3 (2 : Int32))))] H := hP
  have hD : va_D A [(aa, .inr (0, [.ref a1, .int 4, .int sl, .int 6, .int vv])), (a1, .inl (cI, 20, .inl (upd fa 3 (2 : Int32))))] := hD
  refine lv_iload hx hb dX0_ask_27 (lv_at hl 5 rfl) ?_
  refine lv_iconst (v := 1) hx hb dX0_ask_29 (by decide) ?_
  refine lv_iadd hx hb dX0_ask_30 ?_
  refine lv_ci 4 (by decide +kernel) ?_
  refine lv_istore (lv' := [(6, .int 4), (5, .int 2), (0, .ref aa), (1, .int 3), (2, .int 1), (3, .int xx), (4, .int 3)]) hx hb dX0_ask_31 hl (by decide) rfl (fun ls hl => ?_)
  refine lv_iload hx hb dX0_ask_33 (lv_at hl 1 rfl) ?_
  refine lv_lookup (off := 88) (tgt := 123) hx hb dX0_ask_35 (by decide) (by decide) (by decide) ?_
  refine lv_aload_n hx hb dX0_ask_123 rfl (lv_at hl 2 rfl) ?_
  refine lv_aload_n hx hb dX0_ask_124 rfl (lv_at hl 2 rfl) ?_
  refine va_get (ci := 0) (v := .int 6) (C := RX0) (T := TX0) (N := 5) hx hb hT wu_X0 hown hK hP 0 rfl rfl 3 (by decide) (hT _ wf_X0_31) (fun _ h9 => h9) rfl dX0_ask_125 ?_
  refine lv_iconst (v := 0) hx hb dX0_ask_128 (by decide) ?_
  refine lv_iload_n hx hb dX0_ask_129 rfl (lv_at hl 5 rfl) ?_
  refine lv_iload hx hb dX0_ask_130 (lv_at hl 0 rfl) ?_
  refine contI (wc := [(aa, .inr (0, [.ref a1, .int 4, .int sl, .int 6, .int vv])), (a1, .inl (cI, 20, .inl (upd fa 3 (2 : Int32))))]) (wr := []) C0 hP hD hS [0, 1] [] rfl rfl (by decide) (by decide) 0 0 (Nat.le_of_ble_eq_true rfl) (Nat.le_of_ble_eq_true rfl) (runV (k := 4) (As := [.int 6, .int 0, .int xx, .int 4]) (rest := []) C0 (c_ask_6_6_0_4_4 l D cI cZ cQ cT _ aa xx a1 sl vv (upd fa 3 (2 : Int32))) wc_X0_ask wl_X0_38 wi_X0_ask we_X0_ask wz_X0 ⟨by decide, by decide, by decide +kernel⟩ ⟨(Nat.le_of_ble_eq_true rfl), (Nat.le_of_ble_eq_true rfl)⟩ hP hD hS EF.ok hX [0, 1] rfl (by decide) 0 rfl rfl rfl rfl hl.1 rfl (Nat.le_of_ble_eq_true rfl) dX0_ask_132 ⟨(Nat.le_of_ble_eq_true rfl), (Nat.le_of_ble_eq_true rfl)⟩) (fun r_9 u_7 H locs w_8 hP hD hS => ?_)
  have hP : va_P D CL [(aa, .inr (0, [.ref a1, .int 5, .int sl, .int 6, .int vv])), (a1, .inl (cI, 20, .inl (upd (upd fa 3 (2 : Int32)) 4 1)))] H := hP
  have hD : va_D A [(aa, .inr (0, [.ref a1, .int 5, .int sl, .int 6, .int vv])), (a1, .inl (cI, 20, .inl (upd (upd fa 3 (2 : Int32)) 4 1)))] := hD
  obtain rfl : r_9 = (xx + sl) := w_8
  refine lv_aload_n hx hb dX0_ask_135 rfl (lv_at hl 2 rfl) ?_
  refine va_get (ci := 0) (v := .int vv) (C := RX0) (T := TX0) (N := 5) hx hb hT wu_X0 hown hK hP 0 rfl rfl 4 (by decide) (hT _ wf_X0_36) (fun _ h9 => h9) rfl dX0_ask_136 ?_
  refine lv_isub hx hb dX0_ask_139 ?_
  exact retI C0 rfl () rfl (hP.sub (ws' := [(aa, .inr (0, [.ref a1, .int 5, .int sl, .int 6, .int vv])), (a1, .inl (cI, 20, .inl (upd (upd fa 3 2) 4 1)))]) [0, 1] rfl) (hD.sub (ws' := [(aa, .inr (0, [.ref a1, .int 5, .int sl, .int 6, .int vv])), (a1, .inl (cI, 20, .inl (upd (upd fa 3 2) 4 1)))]) [0, 1] (by decide) rfl) hS (Nat.le_of_ble_eq_true rfl) (Nat.le_of_ble_eq_true rfl) dX0_ask_140

set_option maxHeartbeats 4000000 in
set_option maxRecDepth 100000 in
theorem c_ask_6_6_1_2_2 (l : Launch) (D : va_G) (cI cZ cQ cT : ClassId) (sz : Nat) (aa : Nat) (xx : Int32) (a1 : Nat) (sl : Int32) (vv : Int32) (fa : Nat → Int32)  : MetI l yX0_ask cX0_ask 7 .int ({ frames := 3, cells := 0, slots := 0, locals := 76 } : Room) [.ref aa, .int 6, .int 1, .int xx, .int 2] D (TYS cI cZ cQ cT) EF sz [(aa, .inr (0, [.ref a1, .int 2, .int sl, .int 6, .int vv])), (a1, .inl (cI, 20, .inl fa))] (S := Unit) (fun (r : Int32) (_ : Unit) => r = (((xx + sl) - vv) + vv)) (fun _ => [(aa, .inr (0, [.ref a1, .int 5, .int sl, .int 6, .int vv])), (a1, .inl (cI, 20, .inl (upd (upd (upd fa 2 61) 3 2) 4 1)))]) := by
  refine MetI.mk (lv := [(0, .ref aa), (1, .int 6), (2, .int 1), (3, .int xx), (4, .int 2)]) (by decide +kernel) (Nat.le_of_ble_eq_true rfl) rfl ?_
  intro p e s m below meth c A ls C0 hP hD hS hX hl
  have C1 := C0
  obtain ⟨hx, hb, hr, hml, hown, hlocks, hname, hT, hN, hK, hA⟩ := C1
  refine lv_iload_n hx hb dX0_ask_0 rfl (lv_at hl 1 rfl) ?_
  refine lv_iload_n hx hb dX0_ask_1 rfl (lv_at hl 2 rfl) ?_
  refine contI (wc := []) (wr := [(aa, .inr (0, [.ref a1, .int 2, .int sl, .int 6, .int vv])), (a1, .inl (cI, 20, .inl fa))]) C0 hP hD hS [] [0, 1] rfl rfl (by decide) (by decide) 0 0 (Nat.le_of_ble_eq_true rfl) (Nat.le_of_ble_eq_true rfl) (runS (k := 2) (As := [.int 6, .int 1]) (rest := []) C0 (c_bodyOf_6_1 l D cI cZ cQ cT _ ) wc_X0_bodyOf wl_X0_48 wt_X0_bodyOf wz_X0 ⟨by decide, by decide, by decide +kernel⟩ ⟨(Nat.le_of_ble_eq_true rfl), (Nat.le_of_ble_eq_true rfl)⟩ hP hD hS EF.ok hX [] rfl (by decide) rfl hl.1 rfl (Nat.le_of_ble_eq_true rfl) dX0_ask_2 ⟨(Nat.le_of_ble_eq_true rfl), (Nat.le_of_ble_eq_true rfl)⟩) (fun r_3 u_1 H locs w_2 hP hD hS => ?_)
  have hP : va_P D CL [(aa, .inr (0, [.ref a1, .int 2, .int sl, .int 6, .int vv])), (a1, .inl (cI, 20, .inl fa))] H := hP
  have hD : va_D A [(aa, .inr (0, [.ref a1, .int 2, .int sl, .int 6, .int vv])), (a1, .inl (cI, 20, .inl fa))] := hD
  obtain rfl : r_3 = 61 := w_2
  refine lv_istore (lv' := [(5, .int 61), (0, .ref aa), (1, .int 6), (2, .int 1), (3, .int xx), (4, .int 2)]) hx hb dX0_ask_5 hl (by decide) rfl (fun ls hl => ?_)
  refine lv_iload hx hb dX0_ask_7 (lv_at hl 0 rfl) ?_
  refine lv_if_eq (tgt := 19) hx hb dX0_ask_9 (by decide) (fun c_0 => absurd c_0 (by decide)) (fun _ => ?_)
  refine lv_iload hx hb dX0_ask_12 (lv_at hl 5 rfl) ?_
  refine lv_bipush (v := 40) hx hb dX0_ask_14 (by decide) ?_
  refine lv_icmp_le (tgt := 21) hx hb dX0_ask_16 (by decide) (fun _ => ?_) (fun c_0 => absurd (by decide) c_0)
  refine lv_aload_n hx hb dX0_ask_21 rfl (lv_at hl 1 rfl) ?_
  refine lv_iload hx hb dX0_ask_22 (lv_at hl 0 rfl) ?_
  refine contV (wc := [(aa, .inr (0, [.ref a1, .int 2, .int sl, .int 6, .int vv])), (a1, .inl (cI, 20, .inl fa))]) (wr := []) C0 hP hD hS [0, 1] [] rfl rfl (by decide) (by decide) 0 0 (Nat.le_of_ble_eq_true rfl) (Nat.le_of_ble_eq_true rfl) (runV (k := 1) (As := [.int 61]) (rest := []) C0 (c_begin_2 l D cI cZ cQ cT _ aa 61 a1 sl 6 vv fa) wc_X0_begin wl_X0_52 wi_X0_begin we_X0_begin wz_X0 ⟨by decide, by decide, by decide +kernel⟩ ⟨(Nat.le_of_ble_eq_true rfl), (Nat.le_of_ble_eq_true rfl)⟩ hP hD hS EF.ok hX [0, 1] rfl (by decide) 0 rfl rfl rfl rfl hl.1 rfl (Nat.le_of_ble_eq_true rfl) dX0_ask_24 ⟨(Nat.le_of_ble_eq_true rfl), (Nat.le_of_ble_eq_true rfl)⟩) (fun u_4 H locs w_5 hP hD hS => ?_)
  have hP : va_P D CL [(aa, .inr (0, [.ref a1, .int 3, .int sl, .int 6, .int vv])), (a1, .inl (cI, 20, .inl (upd fa 2 (61 : Int32))))] H := hP
  have hD : va_D A [(aa, .inr (0, [.ref a1, .int 3, .int sl, .int 6, .int vv])), (a1, .inl (cI, 20, .inl (upd fa 2 (61 : Int32))))] := hD
  refine lv_iload hx hb dX0_ask_27 (lv_at hl 5 rfl) ?_
  refine lv_iconst (v := 1) hx hb dX0_ask_29 (by decide) ?_
  refine lv_iadd hx hb dX0_ask_30 ?_
  refine lv_ci 3 (by decide +kernel) ?_
  refine lv_istore (lv' := [(6, .int 3), (5, .int 61), (0, .ref aa), (1, .int 6), (2, .int 1), (3, .int xx), (4, .int 2)]) hx hb dX0_ask_31 hl (by decide) rfl (fun ls hl => ?_)
  refine lv_iload hx hb dX0_ask_33 (lv_at hl 1 rfl) ?_
  refine lv_lookup (off := 197) (tgt := 232) hx hb dX0_ask_35 (by decide) (by decide) (by decide) ?_
  refine lv_aload_n hx hb dX0_ask_232 rfl (lv_at hl 2 rfl) ?_
  refine lv_iconst (v := 3) hx hb dX0_ask_233 (by decide) ?_
  refine lv_iconst (v := 1) hx hb dX0_ask_234 (by decide) ?_
  refine lv_iload_n hx hb dX0_ask_235 rfl (lv_at hl 5 rfl) ?_
  refine lv_iload hx hb dX0_ask_236 (lv_at hl 0 rfl) ?_
  refine contI (wc := [(aa, .inr (0, [.ref a1, .int 3, .int sl, .int 6, .int vv])), (a1, .inl (cI, 20, .inl (upd fa 2 (61 : Int32))))]) (wr := []) C0 hP hD hS [0, 1] [] rfl rfl (by decide) (by decide) 0 0 (Nat.le_of_ble_eq_true rfl) (Nat.le_of_ble_eq_true rfl) (runV (k := 4) (As := [.int 3, .int 1, .int xx, .int 3]) (rest := []) C0 (c_ask_6_3_1_3_3 l D cI cZ cQ cT _ aa xx a1 sl vv (upd fa 2 (61 : Int32))) wc_X0_ask wl_X0_38 wi_X0_ask we_X0_ask wz_X0 ⟨by decide, by decide, by decide +kernel⟩ ⟨(Nat.le_of_ble_eq_true rfl), (Nat.le_of_ble_eq_true rfl)⟩ hP hD hS EF.ok hX [0, 1] rfl (by decide) 0 rfl rfl rfl rfl hl.1 rfl (Nat.le_of_ble_eq_true rfl) dX0_ask_238 ⟨(Nat.le_of_ble_eq_true rfl), (Nat.le_of_ble_eq_true rfl)⟩) (fun r_9 u_7 H locs w_8 hP hD hS => ?_)
  have hP : va_P D CL [(aa, .inr (0, [.ref a1, .int 5, .int sl, .int 6, .int vv])), (a1, .inl (cI, 20, .inl (upd (upd (upd fa 2 (61 : Int32)) 3 2) 4 1)))] H := hP
  have hD : va_D A [(aa, .inr (0, [.ref a1, .int 5, .int sl, .int 6, .int vv])), (a1, .inl (cI, 20, .inl (upd (upd (upd fa 2 (61 : Int32)) 3 2) 4 1)))] := hD
  obtain rfl : r_9 = ((xx + sl) - vv) := w_8
  refine lv_aload_n hx hb dX0_ask_241 rfl (lv_at hl 2 rfl) ?_
  refine va_get (ci := 0) (v := .int vv) (C := RX0) (T := TX0) (N := 5) hx hb hT wu_X0 hown hK hP 0 rfl rfl 4 (by decide) (hT _ wf_X0_36) (fun _ h9 => h9) rfl dX0_ask_242 ?_
  refine lv_iadd hx hb dX0_ask_245 ?_
  exact retI C0 rfl () rfl (hP.sub (ws' := [(aa, .inr (0, [.ref a1, .int 5, .int sl, .int 6, .int vv])), (a1, .inl (cI, 20, .inl (upd (upd (upd fa 2 61) 3 2) 4 1)))]) [0, 1] rfl) (hD.sub (ws' := [(aa, .inr (0, [.ref a1, .int 5, .int sl, .int 6, .int vv])), (a1, .inl (cI, 20, .inl (upd (upd (upd fa 2 61) 3 2) 4 1)))]) [0, 1] (by decide) rfl) hS (Nat.le_of_ble_eq_true rfl) (Nat.le_of_ble_eq_true rfl) dX0_ask_246

set_option maxHeartbeats 4000000 in
set_option maxRecDepth 100000 in
theorem c_ask_6_0_2_1_1 (l : Launch) (D : va_G) (cI cZ cQ cT : ClassId) (sz : Nat) (aa : Nat) (xx : Int32) (a1 : Nat) (sl : Int32) (vv : Int32) (fa : Nat → Int32)  : MetI l yX0_ask cX0_ask 7 .int ({ frames := 4, cells := 0, slots := 0, locals := 102 } : Room) [.ref aa, .int 0, .int 2, .int xx, .int 1] D (TYS cI cZ cQ cT) EF sz [(aa, .inr (0, [.ref a1, .int 1, .int sl, .int 6, .int vv])), (a1, .inl (cI, 20, .inl fa))] (S := Unit) (fun (r : Int32) (_ : Unit) => r = ((((xx + sl) - vv) + vv) * (2 : Int32))) (fun _ => [(aa, .inr (0, [.ref a1, .int 5, .int sl, .int 6, .int vv])), (a1, .inl (cI, 20, .inl (upd (upd (upd (upd fa 1 3) 2 61) 3 2) 4 1)))]) := by
  refine MetI.mk (lv := [(0, .ref aa), (1, .int 0), (2, .int 2), (3, .int xx), (4, .int 1)]) (by decide +kernel) (Nat.le_of_ble_eq_true rfl) rfl ?_
  intro p e s m below meth c A ls C0 hP hD hS hX hl
  have C1 := C0
  obtain ⟨hx, hb, hr, hml, hown, hlocks, hname, hT, hN, hK, hA⟩ := C1
  refine lv_iload_n hx hb dX0_ask_0 rfl (lv_at hl 1 rfl) ?_
  refine lv_iload_n hx hb dX0_ask_1 rfl (lv_at hl 2 rfl) ?_
  refine contI (wc := []) (wr := [(aa, .inr (0, [.ref a1, .int 1, .int sl, .int 6, .int vv])), (a1, .inl (cI, 20, .inl fa))]) C0 hP hD hS [] [0, 1] rfl rfl (by decide) (by decide) 0 0 (Nat.le_of_ble_eq_true rfl) (Nat.le_of_ble_eq_true rfl) (runS (k := 2) (As := [.int 0, .int 2]) (rest := []) C0 (c_bodyOf_0_2 l D cI cZ cQ cT _ ) wc_X0_bodyOf wl_X0_48 wt_X0_bodyOf wz_X0 ⟨by decide, by decide, by decide +kernel⟩ ⟨(Nat.le_of_ble_eq_true rfl), (Nat.le_of_ble_eq_true rfl)⟩ hP hD hS EF.ok hX [] rfl (by decide) rfl hl.1 rfl (Nat.le_of_ble_eq_true rfl) dX0_ask_2 ⟨(Nat.le_of_ble_eq_true rfl), (Nat.le_of_ble_eq_true rfl)⟩) (fun r_3 u_1 H locs w_2 hP hD hS => ?_)
  have hP : va_P D CL [(aa, .inr (0, [.ref a1, .int 1, .int sl, .int 6, .int vv])), (a1, .inl (cI, 20, .inl fa))] H := hP
  have hD : va_D A [(aa, .inr (0, [.ref a1, .int 1, .int sl, .int 6, .int vv])), (a1, .inl (cI, 20, .inl fa))] := hD
  obtain rfl : r_3 = 3 := w_2
  refine lv_istore (lv' := [(5, .int 3), (0, .ref aa), (1, .int 0), (2, .int 2), (3, .int xx), (4, .int 1)]) hx hb dX0_ask_5 hl (by decide) rfl (fun ls hl => ?_)
  refine lv_iload hx hb dX0_ask_7 (lv_at hl 0 rfl) ?_
  refine lv_if_eq (tgt := 19) hx hb dX0_ask_9 (by decide) (fun c_0 => absurd c_0 (by decide)) (fun _ => ?_)
  refine lv_iload hx hb dX0_ask_12 (lv_at hl 5 rfl) ?_
  refine lv_bipush (v := 40) hx hb dX0_ask_14 (by decide) ?_
  refine lv_icmp_le (tgt := 21) hx hb dX0_ask_16 (by decide) (fun _ => ?_) (fun c_0 => absurd (by decide) c_0)
  refine lv_aload_n hx hb dX0_ask_21 rfl (lv_at hl 1 rfl) ?_
  refine lv_iload hx hb dX0_ask_22 (lv_at hl 0 rfl) ?_
  refine contV (wc := [(aa, .inr (0, [.ref a1, .int 1, .int sl, .int 6, .int vv])), (a1, .inl (cI, 20, .inl fa))]) (wr := []) C0 hP hD hS [0, 1] [] rfl rfl (by decide) (by decide) 0 0 (Nat.le_of_ble_eq_true rfl) (Nat.le_of_ble_eq_true rfl) (runV (k := 1) (As := [.int 3]) (rest := []) C0 (c_begin_1 l D cI cZ cQ cT _ aa 3 a1 sl 6 vv fa) wc_X0_begin wl_X0_52 wi_X0_begin we_X0_begin wz_X0 ⟨by decide, by decide, by decide +kernel⟩ ⟨(Nat.le_of_ble_eq_true rfl), (Nat.le_of_ble_eq_true rfl)⟩ hP hD hS EF.ok hX [0, 1] rfl (by decide) 0 rfl rfl rfl rfl hl.1 rfl (Nat.le_of_ble_eq_true rfl) dX0_ask_24 ⟨(Nat.le_of_ble_eq_true rfl), (Nat.le_of_ble_eq_true rfl)⟩) (fun u_4 H locs w_5 hP hD hS => ?_)
  have hP : va_P D CL [(aa, .inr (0, [.ref a1, .int 2, .int sl, .int 6, .int vv])), (a1, .inl (cI, 20, .inl (upd fa 1 (3 : Int32))))] H := hP
  have hD : va_D A [(aa, .inr (0, [.ref a1, .int 2, .int sl, .int 6, .int vv])), (a1, .inl (cI, 20, .inl (upd fa 1 (3 : Int32))))] := hD
  refine lv_iload hx hb dX0_ask_27 (lv_at hl 5 rfl) ?_
  refine lv_iconst (v := 1) hx hb dX0_ask_29 (by decide) ?_
  refine lv_iadd hx hb dX0_ask_30 ?_
  refine lv_ci 2 (by decide +kernel) ?_
  refine lv_istore (lv' := [(6, .int 2), (5, .int 3), (0, .ref aa), (1, .int 0), (2, .int 2), (3, .int xx), (4, .int 1)]) hx hb dX0_ask_31 hl (by decide) rfl (fun ls hl => ?_)
  refine lv_iload hx hb dX0_ask_33 (lv_at hl 1 rfl) ?_
  refine lv_lookup (off := 106) (tgt := 141) hx hb dX0_ask_35 (by decide) (by decide) (by decide) ?_
  refine lv_aload_n hx hb dX0_ask_141 rfl (lv_at hl 2 rfl) ?_
  refine lv_aload_n hx hb dX0_ask_142 rfl (lv_at hl 2 rfl) ?_
  refine va_get (ci := 0) (v := .int 6) (C := RX0) (T := TX0) (N := 5) hx hb hT wu_X0 hown hK hP 0 rfl rfl 3 (by decide) (hT _ wf_X0_31) (fun _ h9 => h9) rfl dX0_ask_143 ?_
  refine lv_iconst (v := 1) hx hb dX0_ask_146 (by decide) ?_
  refine lv_iload_n hx hb dX0_ask_147 rfl (lv_at hl 5 rfl) ?_
  refine lv_iload hx hb dX0_ask_148 (lv_at hl 0 rfl) ?_
  refine contI (wc := [(aa, .inr (0, [.ref a1, .int 2, .int sl, .int 6, .int vv])), (a1, .inl (cI, 20, .inl (upd fa 1 (3 : Int32))))]) (wr := []) C0 hP hD hS [0, 1] [] rfl rfl (by decide) (by decide) 0 0 (Nat.le_of_ble_eq_true rfl) (Nat.le_of_ble_eq_true rfl) (runV (k := 4) (As := [.int 6, .int 1, .int xx, .int 2]) (rest := []) C0 (c_ask_6_6_1_2_2 l D cI cZ cQ cT _ aa xx a1 sl vv (upd fa 1 (3 : Int32))) wc_X0_ask wl_X0_38 wi_X0_ask we_X0_ask wz_X0 ⟨by decide, by decide, by decide +kernel⟩ ⟨(Nat.le_of_ble_eq_true rfl), (Nat.le_of_ble_eq_true rfl)⟩ hP hD hS EF.ok hX [0, 1] rfl (by decide) 0 rfl rfl rfl rfl hl.1 rfl (Nat.le_of_ble_eq_true rfl) dX0_ask_150 ⟨(Nat.le_of_ble_eq_true rfl), (Nat.le_of_ble_eq_true rfl)⟩) (fun r_9 u_7 H locs w_8 hP hD hS => ?_)
  have hP : va_P D CL [(aa, .inr (0, [.ref a1, .int 5, .int sl, .int 6, .int vv])), (a1, .inl (cI, 20, .inl (upd (upd (upd (upd fa 1 (3 : Int32)) 2 61) 3 2) 4 1)))] H := hP
  have hD : va_D A [(aa, .inr (0, [.ref a1, .int 5, .int sl, .int 6, .int vv])), (a1, .inl (cI, 20, .inl (upd (upd (upd (upd fa 1 (3 : Int32)) 2 61) 3 2) 4 1)))] := hD
  obtain rfl : r_9 = (((xx + sl) - vv) + vv) := w_8
  refine lv_iconst (v := 2) hx hb dX0_ask_153 (by decide) ?_
  refine lv_imul hx hb dX0_ask_154 ?_
  exact retI C0 rfl () rfl (hP.sub (ws' := [(aa, .inr (0, [.ref a1, .int 5, .int sl, .int 6, .int vv])), (a1, .inl (cI, 20, .inl (upd (upd (upd (upd fa 1 3) 2 61) 3 2) 4 1)))]) [0, 1] rfl) (hD.sub (ws' := [(aa, .inr (0, [.ref a1, .int 5, .int sl, .int 6, .int vv])), (a1, .inl (cI, 20, .inl (upd (upd (upd (upd fa 1 3) 2 61) 3 2) 4 1)))]) [0, 1] (by decide) rfl) hS (Nat.le_of_ble_eq_true rfl) (Nat.le_of_ble_eq_true rfl) dX0_ask_155

set_option maxHeartbeats 4000000 in
set_option maxRecDepth 100000 in
theorem c_ask_6_6_2_0_0 (l : Launch) (D : va_G) (cI cZ cQ cT : ClassId) (sz : Nat) (aa : Nat) (xx : Int32) (a1 : Nat) (sl : Int32) (vv : Int32) (fa : Nat → Int32)  : MetI l yX0_ask cX0_ask 7 .int ({ frames := 5, cells := 0, slots := 0, locals := 128 } : Room) [.ref aa, .int 6, .int 2, .int xx, .int 0] D (TYS cI cZ cQ cT) EF sz [(aa, .inr (0, [.ref a1, .int 0, .int sl, .int 6, .int vv])), (a1, .inl (cI, 20, .inl fa))] (S := Unit) (fun (r : Int32) (_ : Unit) => r = (((((xx + sl) - vv) + vv) * (2 : Int32)) ^^^ (7 : Int32))) (fun _ => [(aa, .inr (0, [.ref a1, .int 5, .int sl, .int 6, .int vv])), (a1, .inl (cI, 20, .inl (upd (upd (upd (upd (upd fa 0 31) 1 3) 2 61) 3 2) 4 1)))]) := by
  refine MetI.mk (lv := [(0, .ref aa), (1, .int 6), (2, .int 2), (3, .int xx), (4, .int 0)]) (by decide +kernel) (Nat.le_of_ble_eq_true rfl) rfl ?_
  intro p e s m below meth c A ls C0 hP hD hS hX hl
  have C1 := C0
  obtain ⟨hx, hb, hr, hml, hown, hlocks, hname, hT, hN, hK, hA⟩ := C1
  refine lv_iload_n hx hb dX0_ask_0 rfl (lv_at hl 1 rfl) ?_
  refine lv_iload_n hx hb dX0_ask_1 rfl (lv_at hl 2 rfl) ?_
  refine contI (wc := []) (wr := [(aa, .inr (0, [.ref a1, .int 0, .int sl, .int 6, .int vv])), (a1, .inl (cI, 20, .inl fa))]) C0 hP hD hS [] [0, 1] rfl rfl (by decide) (by decide) 0 0 (Nat.le_of_ble_eq_true rfl) (Nat.le_of_ble_eq_true rfl) (runS (k := 2) (As := [.int 6, .int 2]) (rest := []) C0 (c_bodyOf_6_2 l D cI cZ cQ cT _ ) wc_X0_bodyOf wl_X0_48 wt_X0_bodyOf wz_X0 ⟨by decide, by decide, by decide +kernel⟩ ⟨(Nat.le_of_ble_eq_true rfl), (Nat.le_of_ble_eq_true rfl)⟩ hP hD hS EF.ok hX [] rfl (by decide) rfl hl.1 rfl (Nat.le_of_ble_eq_true rfl) dX0_ask_2 ⟨(Nat.le_of_ble_eq_true rfl), (Nat.le_of_ble_eq_true rfl)⟩) (fun r_3 u_1 H locs w_2 hP hD hS => ?_)
  have hP : va_P D CL [(aa, .inr (0, [.ref a1, .int 0, .int sl, .int 6, .int vv])), (a1, .inl (cI, 20, .inl fa))] H := hP
  have hD : va_D A [(aa, .inr (0, [.ref a1, .int 0, .int sl, .int 6, .int vv])), (a1, .inl (cI, 20, .inl fa))] := hD
  obtain rfl : r_3 = 31 := w_2
  refine lv_istore (lv' := [(5, .int 31), (0, .ref aa), (1, .int 6), (2, .int 2), (3, .int xx), (4, .int 0)]) hx hb dX0_ask_5 hl (by decide) rfl (fun ls hl => ?_)
  refine lv_iload hx hb dX0_ask_7 (lv_at hl 0 rfl) ?_
  refine lv_if_eq (tgt := 19) hx hb dX0_ask_9 (by decide) (fun c_0 => absurd c_0 (by decide)) (fun _ => ?_)
  refine lv_iload hx hb dX0_ask_12 (lv_at hl 5 rfl) ?_
  refine lv_bipush (v := 40) hx hb dX0_ask_14 (by decide) ?_
  refine lv_icmp_le (tgt := 21) hx hb dX0_ask_16 (by decide) (fun _ => ?_) (fun c_0 => absurd (by decide) c_0)
  refine lv_aload_n hx hb dX0_ask_21 rfl (lv_at hl 1 rfl) ?_
  refine lv_iload hx hb dX0_ask_22 (lv_at hl 0 rfl) ?_
  refine contV (wc := [(aa, .inr (0, [.ref a1, .int 0, .int sl, .int 6, .int vv])), (a1, .inl (cI, 20, .inl fa))]) (wr := []) C0 hP hD hS [0, 1] [] rfl rfl (by decide) (by decide) 0 0 (Nat.le_of_ble_eq_true rfl) (Nat.le_of_ble_eq_true rfl) (runV (k := 1) (As := [.int 31]) (rest := []) C0 (c_begin_0 l D cI cZ cQ cT _ aa 31 a1 sl 6 vv fa) wc_X0_begin wl_X0_52 wi_X0_begin we_X0_begin wz_X0 ⟨by decide, by decide, by decide +kernel⟩ ⟨(Nat.le_of_ble_eq_true rfl), (Nat.le_of_ble_eq_true rfl)⟩ hP hD hS EF.ok hX [0, 1] rfl (by decide) 0 rfl rfl rfl rfl hl.1 rfl (Nat.le_of_ble_eq_true rfl) dX0_ask_24 ⟨(Nat.le_of_ble_eq_true rfl), (Nat.le_of_ble_eq_true rfl)⟩) (fun u_4 H locs w_5 hP hD hS => ?_)
  have hP : va_P D CL [(aa, .inr (0, [.ref a1, .int 1, .int sl, .int 6, .int vv])), (a1, .inl (cI, 20, .inl (upd fa 0 (31 : Int32))))] H := hP
  have hD : va_D A [(aa, .inr (0, [.ref a1, .int 1, .int sl, .int 6, .int vv])), (a1, .inl (cI, 20, .inl (upd fa 0 (31 : Int32))))] := hD
  refine lv_iload hx hb dX0_ask_27 (lv_at hl 5 rfl) ?_
  refine lv_iconst (v := 1) hx hb dX0_ask_29 (by decide) ?_
  refine lv_iadd hx hb dX0_ask_30 ?_
  refine lv_ci 1 (by decide +kernel) ?_
  refine lv_istore (lv' := [(6, .int 1), (5, .int 31), (0, .ref aa), (1, .int 6), (2, .int 2), (3, .int xx), (4, .int 0)]) hx hb dX0_ask_31 hl (by decide) rfl (fun ls hl => ?_)
  refine lv_iload hx hb dX0_ask_33 (lv_at hl 1 rfl) ?_
  refine lv_lookup (off := 144) (tgt := 179) hx hb dX0_ask_35 (by decide) (by decide) (by decide) ?_
  refine lv_aload_n hx hb dX0_ask_179 rfl (lv_at hl 2 rfl) ?_
  refine lv_iconst (v := 0) hx hb dX0_ask_180 (by decide) ?_
  refine lv_iconst (v := 2) hx hb dX0_ask_181 (by decide) ?_
  refine lv_iload_n hx hb dX0_ask_182 rfl (lv_at hl 5 rfl) ?_
  refine lv_iload hx hb dX0_ask_183 (lv_at hl 0 rfl) ?_
  refine contI (wc := [(aa, .inr (0, [.ref a1, .int 1, .int sl, .int 6, .int vv])), (a1, .inl (cI, 20, .inl (upd fa 0 (31 : Int32))))]) (wr := []) C0 hP hD hS [0, 1] [] rfl rfl (by decide) (by decide) 0 0 (Nat.le_of_ble_eq_true rfl) (Nat.le_of_ble_eq_true rfl) (runV (k := 4) (As := [.int 0, .int 2, .int xx, .int 1]) (rest := []) C0 (c_ask_6_0_2_1_1 l D cI cZ cQ cT _ aa xx a1 sl vv (upd fa 0 (31 : Int32))) wc_X0_ask wl_X0_38 wi_X0_ask we_X0_ask wz_X0 ⟨by decide, by decide, by decide +kernel⟩ ⟨(Nat.le_of_ble_eq_true rfl), (Nat.le_of_ble_eq_true rfl)⟩ hP hD hS EF.ok hX [0, 1] rfl (by decide) 0 rfl rfl rfl rfl hl.1 rfl (Nat.le_of_ble_eq_true rfl) dX0_ask_185 ⟨(Nat.le_of_ble_eq_true rfl), (Nat.le_of_ble_eq_true rfl)⟩) (fun r_9 u_7 H locs w_8 hP hD hS => ?_)
  have hP : va_P D CL [(aa, .inr (0, [.ref a1, .int 5, .int sl, .int 6, .int vv])), (a1, .inl (cI, 20, .inl (upd (upd (upd (upd (upd fa 0 (31 : Int32)) 1 3) 2 61) 3 2) 4 1)))] H := hP
  have hD : va_D A [(aa, .inr (0, [.ref a1, .int 5, .int sl, .int 6, .int vv])), (a1, .inl (cI, 20, .inl (upd (upd (upd (upd (upd fa 0 (31 : Int32)) 1 3) 2 61) 3 2) 4 1)))] := hD
  obtain rfl : r_9 = ((((xx + sl) - vv) + vv) * (2 : Int32)) := w_8
  refine lv_bipush (v := 7) hx hb dX0_ask_188 (by decide) ?_
  refine lv_ixor hx hb dX0_ask_190 ?_
  exact retI C0 rfl () rfl (hP.sub (ws' := [(aa, .inr (0, [.ref a1, .int 5, .int sl, .int 6, .int vv])), (a1, .inl (cI, 20, .inl (upd (upd (upd (upd (upd fa 0 31) 1 3) 2 61) 3 2) 4 1)))]) [0, 1] rfl) (hD.sub (ws' := [(aa, .inr (0, [.ref a1, .int 5, .int sl, .int 6, .int vv])), (a1, .inl (cI, 20, .inl (upd (upd (upd (upd (upd fa 0 31) 1 3) 2 61) 3 2) 4 1)))]) [0, 1] (by decide) rfl) hS (Nat.le_of_ble_eq_true rfl) (Nat.le_of_ble_eq_true rfl) dX0_ask_191

set_option maxHeartbeats 4000000 in
set_option maxRecDepth 100000 in
theorem c_start_2 (l : Launch) (D : va_G) (cI cZ cQ cT : ClassId) (sz : Nat) (aa : Nat) (af : Nat) (xx : Int32) (a1 : Nat) (sl : Int32) (kd : Int32) (vv : Int32) (fa : Nat → Int32) (ak : Nat) (av : Nat) (ar : Nat) (nt : Int32) (yd : Int32) (fk : Nat → Int32) (fv : Nat → Int32) (fr : Nat → Int32) (P : Nat) (pn : Nat) (F : Fk) (hC : CF fk fv fr F) (hB : FB F) (hpP : pn < P) (hP4 : P ≤ 4) (hpn : pn < 4) : MetI l yX0_start cX0_start 5 .int ({ frames := 6, cells := 0, slots := 0, locals := 154 } : Room) [.ref aa, .ref af, .int (nI pn), .int 2, .int xx] D (TYS cI cZ cQ cT) EF sz [(aa, .inr (0, [.ref a1, .int 0, .int sl, .int kd, .int vv])), (a1, .inl (cI, 20, .inl fa)), (af, .inr (2, [.ref ak, .ref av, .ref ar, .int (nI P), .int nt, .int yd])), (ak, .inl (cI, 4, .inl fk)), (av, .inl (cI, 4, .inl fv)), (ar, .inl (cI, 4, .inl fr))] (S := Int32 × Int32 × Int32 × (Nat → Int32) × Nat) (fun (r : Int32) (u_ : Int32 × Int32 × Int32 × (Nat → Int32) × Nat) => (r = (actE (F.1 pn) 2 (nI pn) (nI (F.2.1 pn)) xx)) ∧ (u_.2.2.2.2 = (actB (F.1 pn) 2).length ∧ TL u_.2.2.2.1 (actB (F.1 pn) 2))) (fun u => [(aa, .inr (0, [.ref a1, .int (nI u.2.2.2.2), .int u.1, .int u.2.1, .int u.2.2.1])), (a1, .inl (cI, 20, .inl u.2.2.2.1)), (af, .inr (2, [.ref ak, .ref av, .ref ar, .int (nI P), .int nt, .int yd])), (ak, .inl (cI, 4, .inl fk)), (av, .inl (cI, 4, .inl fv)), (ar, .inl (cI, 4, .inl fr))]) := by
  refine MetI.mk (lv := [(0, .ref aa), (1, .ref af), (2, .int (nI pn)), (3, .int 2), (4, .int xx)]) (by decide +kernel) (Nat.le_of_ble_eq_true rfl) rfl ?_
  intro p e s m below meth c A ls C0 hP hD hS hX hl
  have C1 := C0
  obtain ⟨hx, hb, hr, hml, hown, hlocks, hname, hT, hN, hK, hA⟩ := C1
  have hd8 := d8_le hP4; have hd0 := d8_pos P
  refine lv_aload_n hx hb dX0_start_0 rfl (lv_at hl 1 rfl) ?_
  refine lv_iload_n hx hb dX0_start_1 rfl (lv_at hl 2 rfl) ?_
  refine contI (wc := [(af, .inr (2, [.ref ak, .ref av, .ref ar, .int (nI P), .int nt, .int yd]))]) (wr := [(aa, .inr (0, [.ref a1, .int 0, .int sl, .int kd, .int vv])), (a1, .inl (cI, 20, .inl fa)), (ak, .inl (cI, 4, .inl fk)), (av, .inl (cI, 4, .inl fv)), (ar, .inl (cI, 4, .inl fr))]) C0 hP hD hS [2] [0, 1, 3, 4, 5] rfl rfl (by decide) (by decide) 0 0 (Nat.le_of_ble_eq_true rfl) (Nat.le_of_ble_eq_true rfl) (runVN (k := 1) (As := [.int (nI pn)]) (rest := []) "DayKnown" 740 C0 (c_has l D cI cZ cQ cT _ af (nI pn) ak av ar nt yd P (by omega)) wc_X2_has kl_X0_19 wi_X2_has we_X2_has wz_X2 ⟨by decide, by decide, by decide +kernel⟩ ⟨(Nat.le_of_ble_eq_true rfl), (Nat.le_of_ble_eq_true rfl)⟩ hP hD hS EF.ok hX [2] rfl (by decide) 2 rfl rfl rfl rfl hl.1 rfl (Nat.le_of_ble_eq_true rfl) dX0_start_2 ⟨(Nat.le_of_ble_eq_true rfl), (Nat.le_of_ble_eq_true rfl)⟩) (fun r_3 u_1 H locs w_2 hP hD hS => ?_)
  have hP : va_P D CL [(aa, .inr (0, [.ref a1, .int 0, .int sl, .int kd, .int vv])), (a1, .inl (cI, 20, .inl fa)), (ak, .inl (cI, 4, .inl fk)), (av, .inl (cI, 4, .inl fv)), (ar, .inl (cI, 4, .inl fr)), (af, .inr (2, [.ref ak, .ref av, .ref ar, .int (nI P), .int nt, .int yd]))] H := hP
  have hD : va_D A [(aa, .inr (0, [.ref a1, .int 0, .int sl, .int kd, .int vv])), (a1, .inl (cI, 20, .inl fa)), (ak, .inl (cI, 4, .inl fk)), (av, .inl (cI, 4, .inl fv)), (ar, .inl (cI, 4, .inl fr)), (af, .inr (2, [.ref ak, .ref av, .ref ar, .int (nI P), .int nt, .int yd]))] := hD
  obtain rfl : r_3 = 1 := w_2.trans (if_pos (npe hpP hP4))
  refine lv_if_ne (tgt := 10) hx hb dX0_start_5 (by decide) (fun _ => ?_) (fun c_0 => absurd c_0 (by decide))
  refine lv_aload_n hx hb dX0_start_10 rfl (lv_at hl 0 rfl) ?_
  refine lv_iload_n hx hb dX0_start_11 rfl (lv_at hl 2 rfl) ?_
  refine va_put (ci := 0) (v := .int (nI pn)) (ty := .int) (C := RX0) (T := TX0) (N := 5) hx hb hT wu_X0 tyX0 tyX0_ok nmX0 hown hK hP hD hS 0 rfl rfl 2 (by decide) (hT _ wf_X0_25) (fun _ h9 => h9) rfl (by decide +kernel) rfl rfl (Nat.le_of_ble_eq_true rfl) dX0_start_12 (fun H locs hP hD hS => ?_)
  have hP : va_P D CL [(aa, .inr (0, [.ref a1, .int 0, .int (nI pn), .int kd, .int vv])), (a1, .inl (cI, 20, .inl fa)), (ak, .inl (cI, 4, .inl fk)), (av, .inl (cI, 4, .inl fv)), (ar, .inl (cI, 4, .inl fr)), (af, .inr (2, [.ref ak, .ref av, .ref ar, .int (nI P), .int nt, .int yd]))] H := hP
  have hD : va_D A [(aa, .inr (0, [.ref a1, .int 0, .int (nI pn), .int kd, .int vv])), (a1, .inl (cI, 20, .inl fa)), (ak, .inl (cI, 4, .inl fk)), (av, .inl (cI, 4, .inl fv)), (ar, .inl (cI, 4, .inl fr)), (af, .inr (2, [.ref ak, .ref av, .ref ar, .int (nI P), .int nt, .int yd]))] := hD
  refine lv_aload_n hx hb dX0_start_15 rfl (lv_at hl 0 rfl) ?_
  refine lv_aload_n hx hb dX0_start_16 rfl (lv_at hl 1 rfl) ?_
  refine va_getN (ci := 2) (v := .ref ak) (C := RX2) (T := TX2) (N := 6) hx hb hT wu_X2 hown hK hP 5 rfl rfl 0 (by decide) (va_Nw.use rfl (hN.get 133 kf_X0_28 rfl)) (fun _ h9 => h9) rfl dX0_start_17 ?_
  refine lv_iload_n hx hb dX0_start_20 rfl (lv_at hl 2 rfl) ?_
  refine va_iald hx hb hK hP 2 0 rfl rfl (vp_in_nI (n := pn) (by omega) (by decide)) dX0_start_21 ?_
  refine lv_ci (fk pn) (congrArg fk (nI_clamp (n := pn) (by omega))) ?_
  have hb_4 := hB.1 pn (by omega)
  refine lv_ci (nI (F.1 pn)) (hC.1.g0 (by omega)) ?_
  rcases (show (F.1 pn) = 0 ∨ (F.1 pn) = 1 ∨ (F.1 pn) = 2 ∨ (F.1 pn) = 3 ∨ (F.1 pn) = 4 ∨ (F.1 pn) = 5 ∨ (F.1 pn) = 6 by omega) with hk7_5 | hk7_5 | hk7_5 | hk7_5 | hk7_5 | hk7_5 | hk7_5
  · skip
    refine lv_ci 0 (by rw [hk7_5]; rfl) ?_
    refine va_put (ci := 0) (v := .int 0) (ty := .int) (C := RX0) (T := TX0) (N := 5) hx hb hT wu_X0 tyX0 tyX0_ok nmX0 hown hK hP hD hS 0 rfl rfl 3 (by decide) (hT _ wf_X0_31) (fun _ h9 => h9) rfl (by decide +kernel) rfl rfl (Nat.le_of_ble_eq_true rfl) dX0_start_22 (fun H locs hP hD hS => ?_)
    have hP : va_P D CL [(aa, .inr (0, [.ref a1, .int 0, .int (nI pn), .int 0, .int vv])), (a1, .inl (cI, 20, .inl fa)), (ak, .inl (cI, 4, .inl fk)), (av, .inl (cI, 4, .inl fv)), (ar, .inl (cI, 4, .inl fr)), (af, .inr (2, [.ref ak, .ref av, .ref ar, .int (nI P), .int nt, .int yd]))] H := hP
    have hD : va_D A [(aa, .inr (0, [.ref a1, .int 0, .int (nI pn), .int 0, .int vv])), (a1, .inl (cI, 20, .inl fa)), (ak, .inl (cI, 4, .inl fk)), (av, .inl (cI, 4, .inl fv)), (ar, .inl (cI, 4, .inl fr)), (af, .inr (2, [.ref ak, .ref av, .ref ar, .int (nI P), .int nt, .int yd]))] := hD
    refine lv_aload_n hx hb dX0_start_25 rfl (lv_at hl 0 rfl) ?_
    refine lv_aload_n hx hb dX0_start_26 rfl (lv_at hl 1 rfl) ?_
    refine va_getN (ci := 2) (v := .ref av) (C := RX2) (T := TX2) (N := 6) hx hb hT wu_X2 hown hK hP 5 rfl rfl 1 (by decide) (va_Nw.use rfl (hN.get 137 kf_X0_33 rfl)) (fun _ h9 => h9) rfl dX0_start_27 ?_
    refine lv_iload_n hx hb dX0_start_30 rfl (lv_at hl 2 rfl) ?_
    refine va_iald hx hb hK hP 3 0 rfl rfl (vp_in_nI (n := pn) (by omega) (by decide)) dX0_start_31 ?_
    refine lv_ci (fv pn) (congrArg fv (nI_clamp (n := pn) (by omega))) ?_
    have hb_6 := hB.2.1 pn (by omega)
    refine lv_ci (nI (F.2.1 pn)) (hC.2.1.g0 (by omega)) ?_
    refine va_put (ci := 0) (v := .int (nI (F.2.1 pn))) (ty := .int) (C := RX0) (T := TX0) (N := 5) hx hb hT wu_X0 tyX0 tyX0_ok nmX0 hown hK hP hD hS 0 rfl rfl 4 (by decide) (hT _ wf_X0_36) (fun _ h9 => h9) rfl (by decide +kernel) rfl rfl (Nat.le_of_ble_eq_true rfl) dX0_start_32 (fun H locs hP hD hS => ?_)
    have hP : va_P D CL [(aa, .inr (0, [.ref a1, .int 0, .int (nI pn), .int 0, .int (nI (F.2.1 pn))])), (a1, .inl (cI, 20, .inl fa)), (ak, .inl (cI, 4, .inl fk)), (av, .inl (cI, 4, .inl fv)), (ar, .inl (cI, 4, .inl fr)), (af, .inr (2, [.ref ak, .ref av, .ref ar, .int (nI P), .int nt, .int yd]))] H := hP
    have hD : va_D A [(aa, .inr (0, [.ref a1, .int 0, .int (nI pn), .int 0, .int (nI (F.2.1 pn))])), (a1, .inl (cI, 20, .inl fa)), (ak, .inl (cI, 4, .inl fk)), (av, .inl (cI, 4, .inl fv)), (ar, .inl (cI, 4, .inl fr)), (af, .inr (2, [.ref ak, .ref av, .ref ar, .int (nI P), .int nt, .int yd]))] := hD
    refine lv_aload_n hx hb dX0_start_35 rfl (lv_at hl 0 rfl) ?_
    refine lv_aload_n hx hb dX0_start_36 rfl (lv_at hl 0 rfl) ?_
    refine va_get (ci := 0) (v := .int 0) (C := RX0) (T := TX0) (N := 5) hx hb hT wu_X0 hown hK hP 0 rfl rfl 3 (by decide) (hT _ wf_X0_31) (fun _ h9 => h9) rfl dX0_start_37 ?_
    refine lv_iload_n hx hb dX0_start_40 rfl (lv_at hl 3 rfl) ?_
    refine lv_iload hx hb dX0_start_41 (lv_at hl 4 rfl) ?_
    refine lv_iconst (v := 0) hx hb dX0_start_43 (by decide) ?_
    refine contI (wc := [(aa, .inr (0, [.ref a1, .int 0, .int (nI pn), .int 0, .int (nI (F.2.1 pn))])), (a1, .inl (cI, 20, .inl fa))]) (wr := [(ak, .inl (cI, 4, .inl fk)), (av, .inl (cI, 4, .inl fv)), (ar, .inl (cI, 4, .inl fr)), (af, .inr (2, [.ref ak, .ref av, .ref ar, .int (nI P), .int nt, .int yd]))]) C0 hP hD hS [0, 1] [2, 3, 4, 5] rfl rfl (by decide) (by decide) 0 0 (Nat.le_of_ble_eq_true rfl) (Nat.le_of_ble_eq_true rfl) (runV (k := 4) (As := [.int 0, .int 2, .int xx, .int 0]) (rest := []) C0 (c_ask_0_0_2_0_0 l D cI cZ cQ cT _ aa xx a1 (nI pn) (nI (F.2.1 pn)) fa) wc_X0_ask wl_X0_38 wi_X0_ask we_X0_ask wz_X0 ⟨by decide, by decide, by decide +kernel⟩ ⟨(Nat.le_of_ble_eq_true rfl), (Nat.le_of_ble_eq_true rfl)⟩ hP hD hS EF.ok hX [0, 1] rfl (by decide) 0 rfl rfl rfl rfl hl.1 rfl (Nat.le_of_ble_eq_true rfl) dX0_start_44 ⟨(Nat.le_of_ble_eq_true rfl), (Nat.le_of_ble_eq_true rfl)⟩) (fun r_9 u_7 H locs w_8 hP hD hS => ?_)
    have hP : va_P D CL [(ak, .inl (cI, 4, .inl fk)), (av, .inl (cI, 4, .inl fv)), (ar, .inl (cI, 4, .inl fr)), (af, .inr (2, [.ref ak, .ref av, .ref ar, .int (nI P), .int nt, .int yd])), (aa, .inr (0, [.ref a1, .int 3, .int (nI pn), .int 0, .int (nI (F.2.1 pn))])), (a1, .inl (cI, 20, .inl (upd (upd (upd fa 0 3) 1 2) 2 1)))] H := hP
    have hD : va_D A [(ak, .inl (cI, 4, .inl fk)), (av, .inl (cI, 4, .inl fv)), (ar, .inl (cI, 4, .inl fr)), (af, .inr (2, [.ref ak, .ref av, .ref ar, .int (nI P), .int nt, .int yd])), (aa, .inr (0, [.ref a1, .int 3, .int (nI pn), .int 0, .int (nI (F.2.1 pn))])), (a1, .inl (cI, 20, .inl (upd (upd (upd fa 0 3) 1 2) 2 1)))] := hD
    obtain rfl : r_9 = (((xx + (nI pn)) - (nI (F.2.1 pn))) * (2 : Int32)) := w_8
    exact retI C0 rfl ((nI pn), 0, (nI (F.2.1 pn)), (upd (upd (upd fa 0 3) 1 2) 2 1), 3) (⟨(by rw [hk7_5]; rfl), (show 3 = (actB (F.1 pn) 2).length ∧ TL (upd (upd (upd fa 0 3) 1 2) 2 1) (actB (F.1 pn) 2) from ⟨(by rw [hk7_5]; rfl), (by rw [hk7_5]; exact tl_0_2 fa)⟩)⟩) (hP.sub (ws' := [(aa, .inr (0, [.ref a1, .int (nI 3), .int (nI pn), .int 0, .int (nI (F.2.1 pn))])), (a1, .inl (cI, 20, .inl (upd (upd (upd fa 0 3) 1 2) 2 1))), (af, .inr (2, [.ref ak, .ref av, .ref ar, .int (nI P), .int nt, .int yd])), (ak, .inl (cI, 4, .inl fk)), (av, .inl (cI, 4, .inl fv)), (ar, .inl (cI, 4, .inl fr))]) [4, 5, 3, 0, 1, 2] rfl) (hD.sub (ws' := [(aa, .inr (0, [.ref a1, .int (nI 3), .int (nI pn), .int 0, .int (nI (F.2.1 pn))])), (a1, .inl (cI, 20, .inl (upd (upd (upd fa 0 3) 1 2) 2 1))), (af, .inr (2, [.ref ak, .ref av, .ref ar, .int (nI P), .int nt, .int yd])), (ak, .inl (cI, 4, .inl fk)), (av, .inl (cI, 4, .inl fv)), (ar, .inl (cI, 4, .inl fr))]) [4, 5, 3, 0, 1, 2] (by decide) rfl) hS (Nat.le_of_ble_eq_true rfl) (Nat.le_of_ble_eq_true rfl) dX0_start_47
  · skip
    refine lv_ci 1 (by rw [hk7_5]; rfl) ?_
    refine va_put (ci := 0) (v := .int 1) (ty := .int) (C := RX0) (T := TX0) (N := 5) hx hb hT wu_X0 tyX0 tyX0_ok nmX0 hown hK hP hD hS 0 rfl rfl 3 (by decide) (hT _ wf_X0_31) (fun _ h9 => h9) rfl (by decide +kernel) rfl rfl (Nat.le_of_ble_eq_true rfl) dX0_start_22 (fun H locs hP hD hS => ?_)
    have hP : va_P D CL [(aa, .inr (0, [.ref a1, .int 0, .int (nI pn), .int 1, .int vv])), (a1, .inl (cI, 20, .inl fa)), (ak, .inl (cI, 4, .inl fk)), (av, .inl (cI, 4, .inl fv)), (ar, .inl (cI, 4, .inl fr)), (af, .inr (2, [.ref ak, .ref av, .ref ar, .int (nI P), .int nt, .int yd]))] H := hP
    have hD : va_D A [(aa, .inr (0, [.ref a1, .int 0, .int (nI pn), .int 1, .int vv])), (a1, .inl (cI, 20, .inl fa)), (ak, .inl (cI, 4, .inl fk)), (av, .inl (cI, 4, .inl fv)), (ar, .inl (cI, 4, .inl fr)), (af, .inr (2, [.ref ak, .ref av, .ref ar, .int (nI P), .int nt, .int yd]))] := hD
    refine lv_aload_n hx hb dX0_start_25 rfl (lv_at hl 0 rfl) ?_
    refine lv_aload_n hx hb dX0_start_26 rfl (lv_at hl 1 rfl) ?_
    refine va_getN (ci := 2) (v := .ref av) (C := RX2) (T := TX2) (N := 6) hx hb hT wu_X2 hown hK hP 5 rfl rfl 1 (by decide) (va_Nw.use rfl (hN.get 137 kf_X0_33 rfl)) (fun _ h9 => h9) rfl dX0_start_27 ?_
    refine lv_iload_n hx hb dX0_start_30 rfl (lv_at hl 2 rfl) ?_
    refine va_iald hx hb hK hP 3 0 rfl rfl (vp_in_nI (n := pn) (by omega) (by decide)) dX0_start_31 ?_
    refine lv_ci (fv pn) (congrArg fv (nI_clamp (n := pn) (by omega))) ?_
    have hb_10 := hB.2.1 pn (by omega)
    refine lv_ci (nI (F.2.1 pn)) (hC.2.1.g0 (by omega)) ?_
    refine va_put (ci := 0) (v := .int (nI (F.2.1 pn))) (ty := .int) (C := RX0) (T := TX0) (N := 5) hx hb hT wu_X0 tyX0 tyX0_ok nmX0 hown hK hP hD hS 0 rfl rfl 4 (by decide) (hT _ wf_X0_36) (fun _ h9 => h9) rfl (by decide +kernel) rfl rfl (Nat.le_of_ble_eq_true rfl) dX0_start_32 (fun H locs hP hD hS => ?_)
    have hP : va_P D CL [(aa, .inr (0, [.ref a1, .int 0, .int (nI pn), .int 1, .int (nI (F.2.1 pn))])), (a1, .inl (cI, 20, .inl fa)), (ak, .inl (cI, 4, .inl fk)), (av, .inl (cI, 4, .inl fv)), (ar, .inl (cI, 4, .inl fr)), (af, .inr (2, [.ref ak, .ref av, .ref ar, .int (nI P), .int nt, .int yd]))] H := hP
    have hD : va_D A [(aa, .inr (0, [.ref a1, .int 0, .int (nI pn), .int 1, .int (nI (F.2.1 pn))])), (a1, .inl (cI, 20, .inl fa)), (ak, .inl (cI, 4, .inl fk)), (av, .inl (cI, 4, .inl fv)), (ar, .inl (cI, 4, .inl fr)), (af, .inr (2, [.ref ak, .ref av, .ref ar, .int (nI P), .int nt, .int yd]))] := hD
    refine lv_aload_n hx hb dX0_start_35 rfl (lv_at hl 0 rfl) ?_
    refine lv_aload_n hx hb dX0_start_36 rfl (lv_at hl 0 rfl) ?_
    refine va_get (ci := 0) (v := .int 1) (C := RX0) (T := TX0) (N := 5) hx hb hT wu_X0 hown hK hP 0 rfl rfl 3 (by decide) (hT _ wf_X0_31) (fun _ h9 => h9) rfl dX0_start_37 ?_
    refine lv_iload_n hx hb dX0_start_40 rfl (lv_at hl 3 rfl) ?_
    refine lv_iload hx hb dX0_start_41 (lv_at hl 4 rfl) ?_
    refine lv_iconst (v := 0) hx hb dX0_start_43 (by decide) ?_
    refine contI (wc := [(aa, .inr (0, [.ref a1, .int 0, .int (nI pn), .int 1, .int (nI (F.2.1 pn))])), (a1, .inl (cI, 20, .inl fa))]) (wr := [(ak, .inl (cI, 4, .inl fk)), (av, .inl (cI, 4, .inl fv)), (ar, .inl (cI, 4, .inl fr)), (af, .inr (2, [.ref ak, .ref av, .ref ar, .int (nI P), .int nt, .int yd]))]) C0 hP hD hS [0, 1] [2, 3, 4, 5] rfl rfl (by decide) (by decide) 0 0 (Nat.le_of_ble_eq_true rfl) (Nat.le_of_ble_eq_true rfl) (runV (k := 4) (As := [.int 1, .int 2, .int xx, .int 0]) (rest := []) C0 (c_ask_1_1_2_0_0 l D cI cZ cQ cT _ aa xx a1 (nI pn) (nI (F.2.1 pn)) fa) wc_X0_ask wl_X0_38 wi_X0_ask we_X0_ask wz_X0 ⟨by decide, by decide, by decide +kernel⟩ ⟨(Nat.le_of_ble_eq_true rfl), (Nat.le_of_ble_eq_true rfl)⟩ hP hD hS EF.ok hX [0, 1] rfl (by decide) 0 rfl rfl rfl rfl hl.1 rfl (Nat.le_of_ble_eq_true rfl) dX0_start_44 ⟨(Nat.le_of_ble_eq_true rfl), (Nat.le_of_ble_eq_true rfl)⟩) (fun r_13 u_11 H locs w_12 hP hD hS => ?_)
    have hP : va_P D CL [(ak, .inl (cI, 4, .inl fk)), (av, .inl (cI, 4, .inl fv)), (ar, .inl (cI, 4, .inl fr)), (af, .inr (2, [.ref ak, .ref av, .ref ar, .int (nI P), .int nt, .int yd])), (aa, .inr (0, [.ref a1, .int 4, .int (nI pn), .int 1, .int (nI (F.2.1 pn))])), (a1, .inl (cI, 20, .inl (upd (upd (upd (upd fa 0 3) 1 2) 2 11) 3 1)))] H := hP
    have hD : va_D A [(ak, .inl (cI, 4, .inl fk)), (av, .inl (cI, 4, .inl fv)), (ar, .inl (cI, 4, .inl fr)), (af, .inr (2, [.ref ak, .ref av, .ref ar, .int (nI P), .int nt, .int yd])), (aa, .inr (0, [.ref a1, .int 4, .int (nI pn), .int 1, .int (nI (F.2.1 pn))])), (a1, .inl (cI, 20, .inl (upd (upd (upd (upd fa 0 3) 1 2) 2 11) 3 1)))] := hD
    obtain rfl : r_13 = ((((xx * (3 : Int32)) + (nI pn)) - (nI (F.2.1 pn))) * (2 : Int32)) := w_12
    exact retI C0 rfl ((nI pn), 1, (nI (F.2.1 pn)), (upd (upd (upd (upd fa 0 3) 1 2) 2 11) 3 1), 4) (⟨(by rw [hk7_5]; rfl), (show 4 = (actB (F.1 pn) 2).length ∧ TL (upd (upd (upd (upd fa 0 3) 1 2) 2 11) 3 1) (actB (F.1 pn) 2) from ⟨(by rw [hk7_5]; rfl), (by rw [hk7_5]; exact tl_1_2 fa)⟩)⟩) (hP.sub (ws' := [(aa, .inr (0, [.ref a1, .int (nI 4), .int (nI pn), .int 1, .int (nI (F.2.1 pn))])), (a1, .inl (cI, 20, .inl (upd (upd (upd (upd fa 0 3) 1 2) 2 11) 3 1))), (af, .inr (2, [.ref ak, .ref av, .ref ar, .int (nI P), .int nt, .int yd])), (ak, .inl (cI, 4, .inl fk)), (av, .inl (cI, 4, .inl fv)), (ar, .inl (cI, 4, .inl fr))]) [4, 5, 3, 0, 1, 2] rfl) (hD.sub (ws' := [(aa, .inr (0, [.ref a1, .int (nI 4), .int (nI pn), .int 1, .int (nI (F.2.1 pn))])), (a1, .inl (cI, 20, .inl (upd (upd (upd (upd fa 0 3) 1 2) 2 11) 3 1))), (af, .inr (2, [.ref ak, .ref av, .ref ar, .int (nI P), .int nt, .int yd])), (ak, .inl (cI, 4, .inl fk)), (av, .inl (cI, 4, .inl fv)), (ar, .inl (cI, 4, .inl fr))]) [4, 5, 3, 0, 1, 2] (by decide) rfl) hS (Nat.le_of_ble_eq_true rfl) (Nat.le_of_ble_eq_true rfl) dX0_start_47
  · skip
    refine lv_ci 2 (by rw [hk7_5]; rfl) ?_
    refine va_put (ci := 0) (v := .int 2) (ty := .int) (C := RX0) (T := TX0) (N := 5) hx hb hT wu_X0 tyX0 tyX0_ok nmX0 hown hK hP hD hS 0 rfl rfl 3 (by decide) (hT _ wf_X0_31) (fun _ h9 => h9) rfl (by decide +kernel) rfl rfl (Nat.le_of_ble_eq_true rfl) dX0_start_22 (fun H locs hP hD hS => ?_)
    have hP : va_P D CL [(aa, .inr (0, [.ref a1, .int 0, .int (nI pn), .int 2, .int vv])), (a1, .inl (cI, 20, .inl fa)), (ak, .inl (cI, 4, .inl fk)), (av, .inl (cI, 4, .inl fv)), (ar, .inl (cI, 4, .inl fr)), (af, .inr (2, [.ref ak, .ref av, .ref ar, .int (nI P), .int nt, .int yd]))] H := hP
    have hD : va_D A [(aa, .inr (0, [.ref a1, .int 0, .int (nI pn), .int 2, .int vv])), (a1, .inl (cI, 20, .inl fa)), (ak, .inl (cI, 4, .inl fk)), (av, .inl (cI, 4, .inl fv)), (ar, .inl (cI, 4, .inl fr)), (af, .inr (2, [.ref ak, .ref av, .ref ar, .int (nI P), .int nt, .int yd]))] := hD
    refine lv_aload_n hx hb dX0_start_25 rfl (lv_at hl 0 rfl) ?_
    refine lv_aload_n hx hb dX0_start_26 rfl (lv_at hl 1 rfl) ?_
    refine va_getN (ci := 2) (v := .ref av) (C := RX2) (T := TX2) (N := 6) hx hb hT wu_X2 hown hK hP 5 rfl rfl 1 (by decide) (va_Nw.use rfl (hN.get 137 kf_X0_33 rfl)) (fun _ h9 => h9) rfl dX0_start_27 ?_
    refine lv_iload_n hx hb dX0_start_30 rfl (lv_at hl 2 rfl) ?_
    refine va_iald hx hb hK hP 3 0 rfl rfl (vp_in_nI (n := pn) (by omega) (by decide)) dX0_start_31 ?_
    refine lv_ci (fv pn) (congrArg fv (nI_clamp (n := pn) (by omega))) ?_
    have hb_14 := hB.2.1 pn (by omega)
    refine lv_ci (nI (F.2.1 pn)) (hC.2.1.g0 (by omega)) ?_
    refine va_put (ci := 0) (v := .int (nI (F.2.1 pn))) (ty := .int) (C := RX0) (T := TX0) (N := 5) hx hb hT wu_X0 tyX0 tyX0_ok nmX0 hown hK hP hD hS 0 rfl rfl 4 (by decide) (hT _ wf_X0_36) (fun _ h9 => h9) rfl (by decide +kernel) rfl rfl (Nat.le_of_ble_eq_true rfl) dX0_start_32 (fun H locs hP hD hS => ?_)
    have hP : va_P D CL [(aa, .inr (0, [.ref a1, .int 0, .int (nI pn), .int 2, .int (nI (F.2.1 pn))])), (a1, .inl (cI, 20, .inl fa)), (ak, .inl (cI, 4, .inl fk)), (av, .inl (cI, 4, .inl fv)), (ar, .inl (cI, 4, .inl fr)), (af, .inr (2, [.ref ak, .ref av, .ref ar, .int (nI P), .int nt, .int yd]))] H := hP
    have hD : va_D A [(aa, .inr (0, [.ref a1, .int 0, .int (nI pn), .int 2, .int (nI (F.2.1 pn))])), (a1, .inl (cI, 20, .inl fa)), (ak, .inl (cI, 4, .inl fk)), (av, .inl (cI, 4, .inl fv)), (ar, .inl (cI, 4, .inl fr)), (af, .inr (2, [.ref ak, .ref av, .ref ar, .int (nI P), .int nt, .int yd]))] := hD
    refine lv_aload_n hx hb dX0_start_35 rfl (lv_at hl 0 rfl) ?_
    refine lv_aload_n hx hb dX0_start_36 rfl (lv_at hl 0 rfl) ?_
    refine va_get (ci := 0) (v := .int 2) (C := RX0) (T := TX0) (N := 5) hx hb hT wu_X0 hown hK hP 0 rfl rfl 3 (by decide) (hT _ wf_X0_31) (fun _ h9 => h9) rfl dX0_start_37 ?_
    refine lv_iload_n hx hb dX0_start_40 rfl (lv_at hl 3 rfl) ?_
    refine lv_iload hx hb dX0_start_41 (lv_at hl 4 rfl) ?_
    refine lv_iconst (v := 0) hx hb dX0_start_43 (by decide) ?_
    refine contI (wc := [(aa, .inr (0, [.ref a1, .int 0, .int (nI pn), .int 2, .int (nI (F.2.1 pn))])), (a1, .inl (cI, 20, .inl fa))]) (wr := [(ak, .inl (cI, 4, .inl fk)), (av, .inl (cI, 4, .inl fv)), (ar, .inl (cI, 4, .inl fr)), (af, .inr (2, [.ref ak, .ref av, .ref ar, .int (nI P), .int nt, .int yd]))]) C0 hP hD hS [0, 1] [2, 3, 4, 5] rfl rfl (by decide) (by decide) 0 0 (Nat.le_of_ble_eq_true rfl) (Nat.le_of_ble_eq_true rfl) (runV (k := 4) (As := [.int 2, .int 2, .int xx, .int 0]) (rest := []) C0 (c_ask_2_2_2_0_0 l D cI cZ cQ cT _ aa xx a1 (nI pn) (nI (F.2.1 pn)) fa) wc_X0_ask wl_X0_38 wi_X0_ask we_X0_ask wz_X0 ⟨by decide, by decide, by decide +kernel⟩ ⟨(Nat.le_of_ble_eq_true rfl), (Nat.le_of_ble_eq_true rfl)⟩ hP hD hS EF.ok hX [0, 1] rfl (by decide) 0 rfl rfl rfl rfl hl.1 rfl (Nat.le_of_ble_eq_true rfl) dX0_start_44 ⟨(Nat.le_of_ble_eq_true rfl), (Nat.le_of_ble_eq_true rfl)⟩) (fun r_17 u_15 H locs w_16 hP hD hS => ?_)
    have hP : va_P D CL [(ak, .inl (cI, 4, .inl fk)), (av, .inl (cI, 4, .inl fv)), (ar, .inl (cI, 4, .inl fr)), (af, .inr (2, [.ref ak, .ref av, .ref ar, .int (nI P), .int nt, .int yd])), (aa, .inr (0, [.ref a1, .int 4, .int (nI pn), .int 2, .int (nI (F.2.1 pn))])), (a1, .inl (cI, 20, .inl (upd (upd (upd (upd fa 0 3) 1 21) 2 2) 3 1)))] H := hP
    have hD : va_D A [(ak, .inl (cI, 4, .inl fk)), (av, .inl (cI, 4, .inl fv)), (ar, .inl (cI, 4, .inl fr)), (af, .inr (2, [.ref ak, .ref av, .ref ar, .int (nI P), .int nt, .int yd])), (aa, .inr (0, [.ref a1, .int 4, .int (nI pn), .int 2, .int (nI (F.2.1 pn))])), (a1, .inl (cI, 20, .inl (upd (upd (upd (upd fa 0 3) 1 21) 2 2) 3 1)))] := hD
    obtain rfl : r_17 = ((-((xx + (nI pn)) - (nI (F.2.1 pn)))) * (2 : Int32)) := w_16
    exact retI C0 rfl ((nI pn), 2, (nI (F.2.1 pn)), (upd (upd (upd (upd fa 0 3) 1 21) 2 2) 3 1), 4) (⟨(by rw [hk7_5]; rfl), (show 4 = (actB (F.1 pn) 2).length ∧ TL (upd (upd (upd (upd fa 0 3) 1 21) 2 2) 3 1) (actB (F.1 pn) 2) from ⟨(by rw [hk7_5]; rfl), (by rw [hk7_5]; exact tl_2_2 fa)⟩)⟩) (hP.sub (ws' := [(aa, .inr (0, [.ref a1, .int (nI 4), .int (nI pn), .int 2, .int (nI (F.2.1 pn))])), (a1, .inl (cI, 20, .inl (upd (upd (upd (upd fa 0 3) 1 21) 2 2) 3 1))), (af, .inr (2, [.ref ak, .ref av, .ref ar, .int (nI P), .int nt, .int yd])), (ak, .inl (cI, 4, .inl fk)), (av, .inl (cI, 4, .inl fv)), (ar, .inl (cI, 4, .inl fr))]) [4, 5, 3, 0, 1, 2] rfl) (hD.sub (ws' := [(aa, .inr (0, [.ref a1, .int (nI 4), .int (nI pn), .int 2, .int (nI (F.2.1 pn))])), (a1, .inl (cI, 20, .inl (upd (upd (upd (upd fa 0 3) 1 21) 2 2) 3 1))), (af, .inr (2, [.ref ak, .ref av, .ref ar, .int (nI P), .int nt, .int yd])), (ak, .inl (cI, 4, .inl fk)), (av, .inl (cI, 4, .inl fv)), (ar, .inl (cI, 4, .inl fr))]) [4, 5, 3, 0, 1, 2] (by decide) rfl) hS (Nat.le_of_ble_eq_true rfl) (Nat.le_of_ble_eq_true rfl) dX0_start_47
  · skip
    refine lv_ci 3 (by rw [hk7_5]; rfl) ?_
    refine va_put (ci := 0) (v := .int 3) (ty := .int) (C := RX0) (T := TX0) (N := 5) hx hb hT wu_X0 tyX0 tyX0_ok nmX0 hown hK hP hD hS 0 rfl rfl 3 (by decide) (hT _ wf_X0_31) (fun _ h9 => h9) rfl (by decide +kernel) rfl rfl (Nat.le_of_ble_eq_true rfl) dX0_start_22 (fun H locs hP hD hS => ?_)
    have hP : va_P D CL [(aa, .inr (0, [.ref a1, .int 0, .int (nI pn), .int 3, .int vv])), (a1, .inl (cI, 20, .inl fa)), (ak, .inl (cI, 4, .inl fk)), (av, .inl (cI, 4, .inl fv)), (ar, .inl (cI, 4, .inl fr)), (af, .inr (2, [.ref ak, .ref av, .ref ar, .int (nI P), .int nt, .int yd]))] H := hP
    have hD : va_D A [(aa, .inr (0, [.ref a1, .int 0, .int (nI pn), .int 3, .int vv])), (a1, .inl (cI, 20, .inl fa)), (ak, .inl (cI, 4, .inl fk)), (av, .inl (cI, 4, .inl fv)), (ar, .inl (cI, 4, .inl fr)), (af, .inr (2, [.ref ak, .ref av, .ref ar, .int (nI P), .int nt, .int yd]))] := hD
    refine lv_aload_n hx hb dX0_start_25 rfl (lv_at hl 0 rfl) ?_
    refine lv_aload_n hx hb dX0_start_26 rfl (lv_at hl 1 rfl) ?_
    refine va_getN (ci := 2) (v := .ref av) (C := RX2) (T := TX2) (N := 6) hx hb hT wu_X2 hown hK hP 5 rfl rfl 1 (by decide) (va_Nw.use rfl (hN.get 137 kf_X0_33 rfl)) (fun _ h9 => h9) rfl dX0_start_27 ?_
    refine lv_iload_n hx hb dX0_start_30 rfl (lv_at hl 2 rfl) ?_
    refine va_iald hx hb hK hP 3 0 rfl rfl (vp_in_nI (n := pn) (by omega) (by decide)) dX0_start_31 ?_
    refine lv_ci (fv pn) (congrArg fv (nI_clamp (n := pn) (by omega))) ?_
    have hb_18 := hB.2.1 pn (by omega)
    refine lv_ci (nI (F.2.1 pn)) (hC.2.1.g0 (by omega)) ?_
    refine va_put (ci := 0) (v := .int (nI (F.2.1 pn))) (ty := .int) (C := RX0) (T := TX0) (N := 5) hx hb hT wu_X0 tyX0 tyX0_ok nmX0 hown hK hP hD hS 0 rfl rfl 4 (by decide) (hT _ wf_X0_36) (fun _ h9 => h9) rfl (by decide +kernel) rfl rfl (Nat.le_of_ble_eq_true rfl) dX0_start_32 (fun H locs hP hD hS => ?_)
    have hP : va_P D CL [(aa, .inr (0, [.ref a1, .int 0, .int (nI pn), .int 3, .int (nI (F.2.1 pn))])), (a1, .inl (cI, 20, .inl fa)), (ak, .inl (cI, 4, .inl fk)), (av, .inl (cI, 4, .inl fv)), (ar, .inl (cI, 4, .inl fr)), (af, .inr (2, [.ref ak, .ref av, .ref ar, .int (nI P), .int nt, .int yd]))] H := hP
    have hD : va_D A [(aa, .inr (0, [.ref a1, .int 0, .int (nI pn), .int 3, .int (nI (F.2.1 pn))])), (a1, .inl (cI, 20, .inl fa)), (ak, .inl (cI, 4, .inl fk)), (av, .inl (cI, 4, .inl fv)), (ar, .inl (cI, 4, .inl fr)), (af, .inr (2, [.ref ak, .ref av, .ref ar, .int (nI P), .int nt, .int yd]))] := hD
    refine lv_aload_n hx hb dX0_start_35 rfl (lv_at hl 0 rfl) ?_
    refine lv_aload_n hx hb dX0_start_36 rfl (lv_at hl 0 rfl) ?_
    refine va_get (ci := 0) (v := .int 3) (C := RX0) (T := TX0) (N := 5) hx hb hT wu_X0 hown hK hP 0 rfl rfl 3 (by decide) (hT _ wf_X0_31) (fun _ h9 => h9) rfl dX0_start_37 ?_
    refine lv_iload_n hx hb dX0_start_40 rfl (lv_at hl 3 rfl) ?_
    refine lv_iload hx hb dX0_start_41 (lv_at hl 4 rfl) ?_
    refine lv_iconst (v := 0) hx hb dX0_start_43 (by decide) ?_
    refine contI (wc := [(aa, .inr (0, [.ref a1, .int 0, .int (nI pn), .int 3, .int (nI (F.2.1 pn))])), (a1, .inl (cI, 20, .inl fa))]) (wr := [(ak, .inl (cI, 4, .inl fk)), (av, .inl (cI, 4, .inl fv)), (ar, .inl (cI, 4, .inl fr)), (af, .inr (2, [.ref ak, .ref av, .ref ar, .int (nI P), .int nt, .int yd]))]) C0 hP hD hS [0, 1] [2, 3, 4, 5] rfl rfl (by decide) (by decide) 0 0 (Nat.le_of_ble_eq_true rfl) (Nat.le_of_ble_eq_true rfl) (runV (k := 4) (As := [.int 3, .int 2, .int xx, .int 0]) (rest := []) C0 (c_ask_3_3_2_0_0 l D cI cZ cQ cT _ aa xx a1 (nI pn) (nI (F.2.1 pn)) fa) wc_X0_ask wl_X0_38 wi_X0_ask we_X0_ask wz_X0 ⟨by decide, by decide, by decide +kernel⟩ ⟨(Nat.le_of_ble_eq_true rfl), (Nat.le_of_ble_eq_true rfl)⟩ hP hD hS EF.ok hX [0, 1] rfl (by decide) 0 rfl rfl rfl rfl hl.1 rfl (Nat.le_of_ble_eq_true rfl) dX0_start_44 ⟨(Nat.le_of_ble_eq_true rfl), (Nat.le_of_ble_eq_true rfl)⟩) (fun r_21 u_19 H locs w_20 hP hD hS => ?_)
    have hP : va_P D CL [(ak, .inl (cI, 4, .inl fk)), (av, .inl (cI, 4, .inl fv)), (ar, .inl (cI, 4, .inl fr)), (af, .inr (2, [.ref ak, .ref av, .ref ar, .int (nI P), .int nt, .int yd])), (aa, .inr (0, [.ref a1, .int 4, .int (nI pn), .int 3, .int (nI (F.2.1 pn))])), (a1, .inl (cI, 20, .inl (upd (upd (upd (upd fa 0 31) 1 3) 2 2) 3 1)))] H := hP
    have hD : va_D A [(ak, .inl (cI, 4, .inl fk)), (av, .inl (cI, 4, .inl fv)), (ar, .inl (cI, 4, .inl fr)), (af, .inr (2, [.ref ak, .ref av, .ref ar, .int (nI P), .int nt, .int yd])), (aa, .inr (0, [.ref a1, .int 4, .int (nI pn), .int 3, .int (nI (F.2.1 pn))])), (a1, .inl (cI, 20, .inl (upd (upd (upd (upd fa 0 31) 1 3) 2 2) 3 1)))] := hD
    obtain rfl : r_21 = ((((xx + (nI pn)) - (nI (F.2.1 pn))) * (2 : Int32)) ^^^ (7 : Int32)) := w_20
    exact retI C0 rfl ((nI pn), 3, (nI (F.2.1 pn)), (upd (upd (upd (upd fa 0 31) 1 3) 2 2) 3 1), 4) (⟨(by rw [hk7_5]; rfl), (show 4 = (actB (F.1 pn) 2).length ∧ TL (upd (upd (upd (upd fa 0 31) 1 3) 2 2) 3 1) (actB (F.1 pn) 2) from ⟨(by rw [hk7_5]; rfl), (by rw [hk7_5]; exact tl_3_2 fa)⟩)⟩) (hP.sub (ws' := [(aa, .inr (0, [.ref a1, .int (nI 4), .int (nI pn), .int 3, .int (nI (F.2.1 pn))])), (a1, .inl (cI, 20, .inl (upd (upd (upd (upd fa 0 31) 1 3) 2 2) 3 1))), (af, .inr (2, [.ref ak, .ref av, .ref ar, .int (nI P), .int nt, .int yd])), (ak, .inl (cI, 4, .inl fk)), (av, .inl (cI, 4, .inl fv)), (ar, .inl (cI, 4, .inl fr))]) [4, 5, 3, 0, 1, 2] rfl) (hD.sub (ws' := [(aa, .inr (0, [.ref a1, .int (nI 4), .int (nI pn), .int 3, .int (nI (F.2.1 pn))])), (a1, .inl (cI, 20, .inl (upd (upd (upd (upd fa 0 31) 1 3) 2 2) 3 1))), (af, .inr (2, [.ref ak, .ref av, .ref ar, .int (nI P), .int nt, .int yd])), (ak, .inl (cI, 4, .inl fk)), (av, .inl (cI, 4, .inl fv)), (ar, .inl (cI, 4, .inl fr))]) [4, 5, 3, 0, 1, 2] (by decide) rfl) hS (Nat.le_of_ble_eq_true rfl) (Nat.le_of_ble_eq_true rfl) dX0_start_47
  · skip
    refine lv_ci 4 (by rw [hk7_5]; rfl) ?_
    refine va_put (ci := 0) (v := .int 4) (ty := .int) (C := RX0) (T := TX0) (N := 5) hx hb hT wu_X0 tyX0 tyX0_ok nmX0 hown hK hP hD hS 0 rfl rfl 3 (by decide) (hT _ wf_X0_31) (fun _ h9 => h9) rfl (by decide +kernel) rfl rfl (Nat.le_of_ble_eq_true rfl) dX0_start_22 (fun H locs hP hD hS => ?_)
    have hP : va_P D CL [(aa, .inr (0, [.ref a1, .int 0, .int (nI pn), .int 4, .int vv])), (a1, .inl (cI, 20, .inl fa)), (ak, .inl (cI, 4, .inl fk)), (av, .inl (cI, 4, .inl fv)), (ar, .inl (cI, 4, .inl fr)), (af, .inr (2, [.ref ak, .ref av, .ref ar, .int (nI P), .int nt, .int yd]))] H := hP
    have hD : va_D A [(aa, .inr (0, [.ref a1, .int 0, .int (nI pn), .int 4, .int vv])), (a1, .inl (cI, 20, .inl fa)), (ak, .inl (cI, 4, .inl fk)), (av, .inl (cI, 4, .inl fv)), (ar, .inl (cI, 4, .inl fr)), (af, .inr (2, [.ref ak, .ref av, .ref ar, .int (nI P), .int nt, .int yd]))] := hD
    refine lv_aload_n hx hb dX0_start_25 rfl (lv_at hl 0 rfl) ?_
    refine lv_aload_n hx hb dX0_start_26 rfl (lv_at hl 1 rfl) ?_
    refine va_getN (ci := 2) (v := .ref av) (C := RX2) (T := TX2) (N := 6) hx hb hT wu_X2 hown hK hP 5 rfl rfl 1 (by decide) (va_Nw.use rfl (hN.get 137 kf_X0_33 rfl)) (fun _ h9 => h9) rfl dX0_start_27 ?_
    refine lv_iload_n hx hb dX0_start_30 rfl (lv_at hl 2 rfl) ?_
    refine va_iald hx hb hK hP 3 0 rfl rfl (vp_in_nI (n := pn) (by omega) (by decide)) dX0_start_31 ?_
    refine lv_ci (fv pn) (congrArg fv (nI_clamp (n := pn) (by omega))) ?_
    have hb_22 := hB.2.1 pn (by omega)
    refine lv_ci (nI (F.2.1 pn)) (hC.2.1.g0 (by omega)) ?_
    refine va_put (ci := 0) (v := .int (nI (F.2.1 pn))) (ty := .int) (C := RX0) (T := TX0) (N := 5) hx hb hT wu_X0 tyX0 tyX0_ok nmX0 hown hK hP hD hS 0 rfl rfl 4 (by decide) (hT _ wf_X0_36) (fun _ h9 => h9) rfl (by decide +kernel) rfl rfl (Nat.le_of_ble_eq_true rfl) dX0_start_32 (fun H locs hP hD hS => ?_)
    have hP : va_P D CL [(aa, .inr (0, [.ref a1, .int 0, .int (nI pn), .int 4, .int (nI (F.2.1 pn))])), (a1, .inl (cI, 20, .inl fa)), (ak, .inl (cI, 4, .inl fk)), (av, .inl (cI, 4, .inl fv)), (ar, .inl (cI, 4, .inl fr)), (af, .inr (2, [.ref ak, .ref av, .ref ar, .int (nI P), .int nt, .int yd]))] H := hP
    have hD : va_D A [(aa, .inr (0, [.ref a1, .int 0, .int (nI pn), .int 4, .int (nI (F.2.1 pn))])), (a1, .inl (cI, 20, .inl fa)), (ak, .inl (cI, 4, .inl fk)), (av, .inl (cI, 4, .inl fv)), (ar, .inl (cI, 4, .inl fr)), (af, .inr (2, [.ref ak, .ref av, .ref ar, .int (nI P), .int nt, .int yd]))] := hD
    refine lv_aload_n hx hb dX0_start_35 rfl (lv_at hl 0 rfl) ?_
    refine lv_aload_n hx hb dX0_start_36 rfl (lv_at hl 0 rfl) ?_
    refine va_get (ci := 0) (v := .int 4) (C := RX0) (T := TX0) (N := 5) hx hb hT wu_X0 hown hK hP 0 rfl rfl 3 (by decide) (hT _ wf_X0_31) (fun _ h9 => h9) rfl dX0_start_37 ?_
    refine lv_iload_n hx hb dX0_start_40 rfl (lv_at hl 3 rfl) ?_
    refine lv_iload hx hb dX0_start_41 (lv_at hl 4 rfl) ?_
    refine lv_iconst (v := 0) hx hb dX0_start_43 (by decide) ?_
    refine contI (wc := [(aa, .inr (0, [.ref a1, .int 0, .int (nI pn), .int 4, .int (nI (F.2.1 pn))])), (a1, .inl (cI, 20, .inl fa))]) (wr := [(ak, .inl (cI, 4, .inl fk)), (av, .inl (cI, 4, .inl fv)), (ar, .inl (cI, 4, .inl fr)), (af, .inr (2, [.ref ak, .ref av, .ref ar, .int (nI P), .int nt, .int yd]))]) C0 hP hD hS [0, 1] [2, 3, 4, 5] rfl rfl (by decide) (by decide) 0 0 (Nat.le_of_ble_eq_true rfl) (Nat.le_of_ble_eq_true rfl) (runV (k := 4) (As := [.int 4, .int 2, .int xx, .int 0]) (rest := []) C0 (c_ask_4_4_2_0_0 l D cI cZ cQ cT _ aa xx a1 (nI pn) (nI (F.2.1 pn)) fa) wc_X0_ask wl_X0_38 wi_X0_ask we_X0_ask wz_X0 ⟨by decide, by decide, by decide +kernel⟩ ⟨(Nat.le_of_ble_eq_true rfl), (Nat.le_of_ble_eq_true rfl)⟩ hP hD hS EF.ok hX [0, 1] rfl (by decide) 0 rfl rfl rfl rfl hl.1 rfl (Nat.le_of_ble_eq_true rfl) dX0_start_44 ⟨(Nat.le_of_ble_eq_true rfl), (Nat.le_of_ble_eq_true rfl)⟩) (fun r_25 u_23 H locs w_24 hP hD hS => ?_)
    have hP : va_P D CL [(ak, .inl (cI, 4, .inl fk)), (av, .inl (cI, 4, .inl fv)), (ar, .inl (cI, 4, .inl fr)), (af, .inr (2, [.ref ak, .ref av, .ref ar, .int (nI P), .int nt, .int yd])), (aa, .inr (0, [.ref a1, .int 6, .int (nI pn), .int 4, .int (nI (F.2.1 pn))])), (a1, .inl (cI, 20, .inl (upd (upd (upd (upd (upd (upd fa 0 41) 1 3) 2 21) 3 2) 4 1) 5 1)))] H := hP
    have hD : va_D A [(ak, .inl (cI, 4, .inl fk)), (av, .inl (cI, 4, .inl fv)), (ar, .inl (cI, 4, .inl fr)), (af, .inr (2, [.ref ak, .ref av, .ref ar, .int (nI P), .int nt, .int yd])), (aa, .inr (0, [.ref a1, .int 6, .int (nI pn), .int 4, .int (nI (F.2.1 pn))])), (a1, .inl (cI, 20, .inl (upd (upd (upd (upd (upd (upd fa 0 41) 1 3) 2 21) 3 2) 4 1) 5 1)))] := hD
    obtain rfl : r_25 = (((-(((xx - (1 : Int32)) + (nI pn)) - (nI (F.2.1 pn)))) * (2 : Int32)) + ((2 : Int32) + (nI pn))) := w_24
    exact retI C0 rfl ((nI pn), 4, (nI (F.2.1 pn)), (upd (upd (upd (upd (upd (upd fa 0 41) 1 3) 2 21) 3 2) 4 1) 5 1), 6) (⟨(by rw [hk7_5]; rfl), (show 6 = (actB (F.1 pn) 2).length ∧ TL (upd (upd (upd (upd (upd (upd fa 0 41) 1 3) 2 21) 3 2) 4 1) 5 1) (actB (F.1 pn) 2) from ⟨(by rw [hk7_5]; rfl), (by rw [hk7_5]; exact tl_4_2 fa)⟩)⟩) (hP.sub (ws' := [(aa, .inr (0, [.ref a1, .int (nI 6), .int (nI pn), .int 4, .int (nI (F.2.1 pn))])), (a1, .inl (cI, 20, .inl (upd (upd (upd (upd (upd (upd fa 0 41) 1 3) 2 21) 3 2) 4 1) 5 1))), (af, .inr (2, [.ref ak, .ref av, .ref ar, .int (nI P), .int nt, .int yd])), (ak, .inl (cI, 4, .inl fk)), (av, .inl (cI, 4, .inl fv)), (ar, .inl (cI, 4, .inl fr))]) [4, 5, 3, 0, 1, 2] rfl) (hD.sub (ws' := [(aa, .inr (0, [.ref a1, .int (nI 6), .int (nI pn), .int 4, .int (nI (F.2.1 pn))])), (a1, .inl (cI, 20, .inl (upd (upd (upd (upd (upd (upd fa 0 41) 1 3) 2 21) 3 2) 4 1) 5 1))), (af, .inr (2, [.ref ak, .ref av, .ref ar, .int (nI P), .int nt, .int yd])), (ak, .inl (cI, 4, .inl fk)), (av, .inl (cI, 4, .inl fv)), (ar, .inl (cI, 4, .inl fr))]) [4, 5, 3, 0, 1, 2] (by decide) rfl) hS (Nat.le_of_ble_eq_true rfl) (Nat.le_of_ble_eq_true rfl) dX0_start_47
  · skip
    refine lv_ci 5 (by rw [hk7_5]; rfl) ?_
    refine va_put (ci := 0) (v := .int 5) (ty := .int) (C := RX0) (T := TX0) (N := 5) hx hb hT wu_X0 tyX0 tyX0_ok nmX0 hown hK hP hD hS 0 rfl rfl 3 (by decide) (hT _ wf_X0_31) (fun _ h9 => h9) rfl (by decide +kernel) rfl rfl (Nat.le_of_ble_eq_true rfl) dX0_start_22 (fun H locs hP hD hS => ?_)
    have hP : va_P D CL [(aa, .inr (0, [.ref a1, .int 0, .int (nI pn), .int 5, .int vv])), (a1, .inl (cI, 20, .inl fa)), (ak, .inl (cI, 4, .inl fk)), (av, .inl (cI, 4, .inl fv)), (ar, .inl (cI, 4, .inl fr)), (af, .inr (2, [.ref ak, .ref av, .ref ar, .int (nI P), .int nt, .int yd]))] H := hP
    have hD : va_D A [(aa, .inr (0, [.ref a1, .int 0, .int (nI pn), .int 5, .int vv])), (a1, .inl (cI, 20, .inl fa)), (ak, .inl (cI, 4, .inl fk)), (av, .inl (cI, 4, .inl fv)), (ar, .inl (cI, 4, .inl fr)), (af, .inr (2, [.ref ak, .ref av, .ref ar, .int (nI P), .int nt, .int yd]))] := hD
    refine lv_aload_n hx hb dX0_start_25 rfl (lv_at hl 0 rfl) ?_
    refine lv_aload_n hx hb dX0_start_26 rfl (lv_at hl 1 rfl) ?_
    refine va_getN (ci := 2) (v := .ref av) (C := RX2) (T := TX2) (N := 6) hx hb hT wu_X2 hown hK hP 5 rfl rfl 1 (by decide) (va_Nw.use rfl (hN.get 137 kf_X0_33 rfl)) (fun _ h9 => h9) rfl dX0_start_27 ?_
    refine lv_iload_n hx hb dX0_start_30 rfl (lv_at hl 2 rfl) ?_
    refine va_iald hx hb hK hP 3 0 rfl rfl (vp_in_nI (n := pn) (by omega) (by decide)) dX0_start_31 ?_
    refine lv_ci (fv pn) (congrArg fv (nI_clamp (n := pn) (by omega))) ?_
    have hb_26 := hB.2.1 pn (by omega)
    refine lv_ci (nI (F.2.1 pn)) (hC.2.1.g0 (by omega)) ?_
    refine va_put (ci := 0) (v := .int (nI (F.2.1 pn))) (ty := .int) (C := RX0) (T := TX0) (N := 5) hx hb hT wu_X0 tyX0 tyX0_ok nmX0 hown hK hP hD hS 0 rfl rfl 4 (by decide) (hT _ wf_X0_36) (fun _ h9 => h9) rfl (by decide +kernel) rfl rfl (Nat.le_of_ble_eq_true rfl) dX0_start_32 (fun H locs hP hD hS => ?_)
    have hP : va_P D CL [(aa, .inr (0, [.ref a1, .int 0, .int (nI pn), .int 5, .int (nI (F.2.1 pn))])), (a1, .inl (cI, 20, .inl fa)), (ak, .inl (cI, 4, .inl fk)), (av, .inl (cI, 4, .inl fv)), (ar, .inl (cI, 4, .inl fr)), (af, .inr (2, [.ref ak, .ref av, .ref ar, .int (nI P), .int nt, .int yd]))] H := hP
    have hD : va_D A [(aa, .inr (0, [.ref a1, .int 0, .int (nI pn), .int 5, .int (nI (F.2.1 pn))])), (a1, .inl (cI, 20, .inl fa)), (ak, .inl (cI, 4, .inl fk)), (av, .inl (cI, 4, .inl fv)), (ar, .inl (cI, 4, .inl fr)), (af, .inr (2, [.ref ak, .ref av, .ref ar, .int (nI P), .int nt, .int yd]))] := hD
    refine lv_aload_n hx hb dX0_start_35 rfl (lv_at hl 0 rfl) ?_
    refine lv_aload_n hx hb dX0_start_36 rfl (lv_at hl 0 rfl) ?_
    refine va_get (ci := 0) (v := .int 5) (C := RX0) (T := TX0) (N := 5) hx hb hT wu_X0 hown hK hP 0 rfl rfl 3 (by decide) (hT _ wf_X0_31) (fun _ h9 => h9) rfl dX0_start_37 ?_
    refine lv_iload_n hx hb dX0_start_40 rfl (lv_at hl 3 rfl) ?_
    refine lv_iload hx hb dX0_start_41 (lv_at hl 4 rfl) ?_
    refine lv_iconst (v := 0) hx hb dX0_start_43 (by decide) ?_
    refine contI (wc := [(aa, .inr (0, [.ref a1, .int 0, .int (nI pn), .int 5, .int (nI (F.2.1 pn))])), (a1, .inl (cI, 20, .inl fa))]) (wr := [(ak, .inl (cI, 4, .inl fk)), (av, .inl (cI, 4, .inl fv)), (ar, .inl (cI, 4, .inl fr)), (af, .inr (2, [.ref ak, .ref av, .ref ar, .int (nI P), .int nt, .int yd]))]) C0 hP hD hS [0, 1] [2, 3, 4, 5] rfl rfl (by decide) (by decide) 0 0 (Nat.le_of_ble_eq_true rfl) (Nat.le_of_ble_eq_true rfl) (runV (k := 4) (As := [.int 5, .int 2, .int xx, .int 0]) (rest := []) C0 (c_ask_5_5_2_0_0 l D cI cZ cQ cT _ aa xx a1 (nI pn) (nI (F.2.1 pn)) fa) wc_X0_ask wl_X0_38 wi_X0_ask we_X0_ask wz_X0 ⟨by decide, by decide, by decide +kernel⟩ ⟨(Nat.le_of_ble_eq_true rfl), (Nat.le_of_ble_eq_true rfl)⟩ hP hD hS EF.ok hX [0, 1] rfl (by decide) 0 rfl rfl rfl rfl hl.1 rfl (Nat.le_of_ble_eq_true rfl) dX0_start_44 ⟨(Nat.le_of_ble_eq_true rfl), (Nat.le_of_ble_eq_true rfl)⟩) (fun r_29 u_27 H locs w_28 hP hD hS => ?_)
    have hP : va_P D CL [(ak, .inl (cI, 4, .inl fk)), (av, .inl (cI, 4, .inl fv)), (ar, .inl (cI, 4, .inl fr)), (af, .inr (2, [.ref ak, .ref av, .ref ar, .int (nI P), .int nt, .int yd])), (aa, .inr (0, [.ref a1, .int 5, .int (nI pn), .int 5, .int (nI (F.2.1 pn))])), (a1, .inl (cI, 20, .inl (upd (upd (upd (upd (upd fa 0 31) 1 3) 2 2) 3 51) 4 1)))] H := hP
    have hD : va_D A [(ak, .inl (cI, 4, .inl fk)), (av, .inl (cI, 4, .inl fv)), (ar, .inl (cI, 4, .inl fr)), (af, .inr (2, [.ref ak, .ref av, .ref ar, .int (nI P), .int nt, .int yd])), (aa, .inr (0, [.ref a1, .int 5, .int (nI pn), .int 5, .int (nI (F.2.1 pn))])), (a1, .inl (cI, 20, .inl (upd (upd (upd (upd (upd fa 0 31) 1 3) 2 2) 3 51) 4 1)))] := hD
    obtain rfl : r_29 = (((((xx + (nI pn)) ^^^ (nI pn)) - (nI (F.2.1 pn))) * (2 : Int32)) ^^^ (7 : Int32)) := w_28
    exact retI C0 rfl ((nI pn), 5, (nI (F.2.1 pn)), (upd (upd (upd (upd (upd fa 0 31) 1 3) 2 2) 3 51) 4 1), 5) (⟨(by rw [hk7_5]; rfl), (show 5 = (actB (F.1 pn) 2).length ∧ TL (upd (upd (upd (upd (upd fa 0 31) 1 3) 2 2) 3 51) 4 1) (actB (F.1 pn) 2) from ⟨(by rw [hk7_5]; rfl), (by rw [hk7_5]; exact tl_5_2 fa)⟩)⟩) (hP.sub (ws' := [(aa, .inr (0, [.ref a1, .int (nI 5), .int (nI pn), .int 5, .int (nI (F.2.1 pn))])), (a1, .inl (cI, 20, .inl (upd (upd (upd (upd (upd fa 0 31) 1 3) 2 2) 3 51) 4 1))), (af, .inr (2, [.ref ak, .ref av, .ref ar, .int (nI P), .int nt, .int yd])), (ak, .inl (cI, 4, .inl fk)), (av, .inl (cI, 4, .inl fv)), (ar, .inl (cI, 4, .inl fr))]) [4, 5, 3, 0, 1, 2] rfl) (hD.sub (ws' := [(aa, .inr (0, [.ref a1, .int (nI 5), .int (nI pn), .int 5, .int (nI (F.2.1 pn))])), (a1, .inl (cI, 20, .inl (upd (upd (upd (upd (upd fa 0 31) 1 3) 2 2) 3 51) 4 1))), (af, .inr (2, [.ref ak, .ref av, .ref ar, .int (nI P), .int nt, .int yd])), (ak, .inl (cI, 4, .inl fk)), (av, .inl (cI, 4, .inl fv)), (ar, .inl (cI, 4, .inl fr))]) [4, 5, 3, 0, 1, 2] (by decide) rfl) hS (Nat.le_of_ble_eq_true rfl) (Nat.le_of_ble_eq_true rfl) dX0_start_47
  · skip
    refine lv_ci 6 (by rw [hk7_5]; rfl) ?_
    refine va_put (ci := 0) (v := .int 6) (ty := .int) (C := RX0) (T := TX0) (N := 5) hx hb hT wu_X0 tyX0 tyX0_ok nmX0 hown hK hP hD hS 0 rfl rfl 3 (by decide) (hT _ wf_X0_31) (fun _ h9 => h9) rfl (by decide +kernel) rfl rfl (Nat.le_of_ble_eq_true rfl) dX0_start_22 (fun H locs hP hD hS => ?_)
    have hP : va_P D CL [(aa, .inr (0, [.ref a1, .int 0, .int (nI pn), .int 6, .int vv])), (a1, .inl (cI, 20, .inl fa)), (ak, .inl (cI, 4, .inl fk)), (av, .inl (cI, 4, .inl fv)), (ar, .inl (cI, 4, .inl fr)), (af, .inr (2, [.ref ak, .ref av, .ref ar, .int (nI P), .int nt, .int yd]))] H := hP
    have hD : va_D A [(aa, .inr (0, [.ref a1, .int 0, .int (nI pn), .int 6, .int vv])), (a1, .inl (cI, 20, .inl fa)), (ak, .inl (cI, 4, .inl fk)), (av, .inl (cI, 4, .inl fv)), (ar, .inl (cI, 4, .inl fr)), (af, .inr (2, [.ref ak, .ref av, .ref ar, .int (nI P), .int nt, .int yd]))] := hD
    refine lv_aload_n hx hb dX0_start_25 rfl (lv_at hl 0 rfl) ?_
    refine lv_aload_n hx hb dX0_start_26 rfl (lv_at hl 1 rfl) ?_
    refine va_getN (ci := 2) (v := .ref av) (C := RX2) (T := TX2) (N := 6) hx hb hT wu_X2 hown hK hP 5 rfl rfl 1 (by decide) (va_Nw.use rfl (hN.get 137 kf_X0_33 rfl)) (fun _ h9 => h9) rfl dX0_start_27 ?_
    refine lv_iload_n hx hb dX0_start_30 rfl (lv_at hl 2 rfl) ?_
    refine va_iald hx hb hK hP 3 0 rfl rfl (vp_in_nI (n := pn) (by omega) (by decide)) dX0_start_31 ?_
    refine lv_ci (fv pn) (congrArg fv (nI_clamp (n := pn) (by omega))) ?_
    have hb_30 := hB.2.1 pn (by omega)
    refine lv_ci (nI (F.2.1 pn)) (hC.2.1.g0 (by omega)) ?_
    refine va_put (ci := 0) (v := .int (nI (F.2.1 pn))) (ty := .int) (C := RX0) (T := TX0) (N := 5) hx hb hT wu_X0 tyX0 tyX0_ok nmX0 hown hK hP hD hS 0 rfl rfl 4 (by decide) (hT _ wf_X0_36) (fun _ h9 => h9) rfl (by decide +kernel) rfl rfl (Nat.le_of_ble_eq_true rfl) dX0_start_32 (fun H locs hP hD hS => ?_)
    have hP : va_P D CL [(aa, .inr (0, [.ref a1, .int 0, .int (nI pn), .int 6, .int (nI (F.2.1 pn))])), (a1, .inl (cI, 20, .inl fa)), (ak, .inl (cI, 4, .inl fk)), (av, .inl (cI, 4, .inl fv)), (ar, .inl (cI, 4, .inl fr)), (af, .inr (2, [.ref ak, .ref av, .ref ar, .int (nI P), .int nt, .int yd]))] H := hP
    have hD : va_D A [(aa, .inr (0, [.ref a1, .int 0, .int (nI pn), .int 6, .int (nI (F.2.1 pn))])), (a1, .inl (cI, 20, .inl fa)), (ak, .inl (cI, 4, .inl fk)), (av, .inl (cI, 4, .inl fv)), (ar, .inl (cI, 4, .inl fr)), (af, .inr (2, [.ref ak, .ref av, .ref ar, .int (nI P), .int nt, .int yd]))] := hD
    refine lv_aload_n hx hb dX0_start_35 rfl (lv_at hl 0 rfl) ?_
    refine lv_aload_n hx hb dX0_start_36 rfl (lv_at hl 0 rfl) ?_
    refine va_get (ci := 0) (v := .int 6) (C := RX0) (T := TX0) (N := 5) hx hb hT wu_X0 hown hK hP 0 rfl rfl 3 (by decide) (hT _ wf_X0_31) (fun _ h9 => h9) rfl dX0_start_37 ?_
    refine lv_iload_n hx hb dX0_start_40 rfl (lv_at hl 3 rfl) ?_
    refine lv_iload hx hb dX0_start_41 (lv_at hl 4 rfl) ?_
    refine lv_iconst (v := 0) hx hb dX0_start_43 (by decide) ?_
    refine contI (wc := [(aa, .inr (0, [.ref a1, .int 0, .int (nI pn), .int 6, .int (nI (F.2.1 pn))])), (a1, .inl (cI, 20, .inl fa))]) (wr := [(ak, .inl (cI, 4, .inl fk)), (av, .inl (cI, 4, .inl fv)), (ar, .inl (cI, 4, .inl fr)), (af, .inr (2, [.ref ak, .ref av, .ref ar, .int (nI P), .int nt, .int yd]))]) C0 hP hD hS [0, 1] [2, 3, 4, 5] rfl rfl (by decide) (by decide) 0 0 (Nat.le_of_ble_eq_true rfl) (Nat.le_of_ble_eq_true rfl) (runV (k := 4) (As := [.int 6, .int 2, .int xx, .int 0]) (rest := []) C0 (c_ask_6_6_2_0_0 l D cI cZ cQ cT _ aa xx a1 (nI pn) (nI (F.2.1 pn)) fa) wc_X0_ask wl_X0_38 wi_X0_ask we_X0_ask wz_X0 ⟨by decide, by decide, by decide +kernel⟩ ⟨(Nat.le_of_ble_eq_true rfl), (Nat.le_of_ble_eq_true rfl)⟩ hP hD hS EF.ok hX [0, 1] rfl (by decide) 0 rfl rfl rfl rfl hl.1 rfl (Nat.le_of_ble_eq_true rfl) dX0_start_44 ⟨(Nat.le_of_ble_eq_true rfl), (Nat.le_of_ble_eq_true rfl)⟩) (fun r_33 u_31 H locs w_32 hP hD hS => ?_)
    have hP : va_P D CL [(ak, .inl (cI, 4, .inl fk)), (av, .inl (cI, 4, .inl fv)), (ar, .inl (cI, 4, .inl fr)), (af, .inr (2, [.ref ak, .ref av, .ref ar, .int (nI P), .int nt, .int yd])), (aa, .inr (0, [.ref a1, .int 5, .int (nI pn), .int 6, .int (nI (F.2.1 pn))])), (a1, .inl (cI, 20, .inl (upd (upd (upd (upd (upd fa 0 31) 1 3) 2 61) 3 2) 4 1)))] H := hP
    have hD : va_D A [(ak, .inl (cI, 4, .inl fk)), (av, .inl (cI, 4, .inl fv)), (ar, .inl (cI, 4, .inl fr)), (af, .inr (2, [.ref ak, .ref av, .ref ar, .int (nI P), .int nt, .int yd])), (aa, .inr (0, [.ref a1, .int 5, .int (nI pn), .int 6, .int (nI (F.2.1 pn))])), (a1, .inl (cI, 20, .inl (upd (upd (upd (upd (upd fa 0 31) 1 3) 2 61) 3 2) 4 1)))] := hD
    obtain rfl : r_33 = (((((xx + (nI pn)) - (nI (F.2.1 pn))) + (nI (F.2.1 pn))) * (2 : Int32)) ^^^ (7 : Int32)) := w_32
    exact retI C0 rfl ((nI pn), 6, (nI (F.2.1 pn)), (upd (upd (upd (upd (upd fa 0 31) 1 3) 2 61) 3 2) 4 1), 5) (⟨(by rw [hk7_5]; rfl), (show 5 = (actB (F.1 pn) 2).length ∧ TL (upd (upd (upd (upd (upd fa 0 31) 1 3) 2 61) 3 2) 4 1) (actB (F.1 pn) 2) from ⟨(by rw [hk7_5]; rfl), (by rw [hk7_5]; exact tl_6_2 fa)⟩)⟩) (hP.sub (ws' := [(aa, .inr (0, [.ref a1, .int (nI 5), .int (nI pn), .int 6, .int (nI (F.2.1 pn))])), (a1, .inl (cI, 20, .inl (upd (upd (upd (upd (upd fa 0 31) 1 3) 2 61) 3 2) 4 1))), (af, .inr (2, [.ref ak, .ref av, .ref ar, .int (nI P), .int nt, .int yd])), (ak, .inl (cI, 4, .inl fk)), (av, .inl (cI, 4, .inl fv)), (ar, .inl (cI, 4, .inl fr))]) [4, 5, 3, 0, 1, 2] rfl) (hD.sub (ws' := [(aa, .inr (0, [.ref a1, .int (nI 5), .int (nI pn), .int 6, .int (nI (F.2.1 pn))])), (a1, .inl (cI, 20, .inl (upd (upd (upd (upd (upd fa 0 31) 1 3) 2 61) 3 2) 4 1))), (af, .inr (2, [.ref ak, .ref av, .ref ar, .int (nI P), .int nt, .int yd])), (ak, .inl (cI, 4, .inl fk)), (av, .inl (cI, 4, .inl fv)), (ar, .inl (cI, 4, .inl fr))]) [4, 5, 3, 0, 1, 2] (by decide) rfl) hS (Nat.le_of_ble_eq_true rfl) (Nat.le_of_ble_eq_true rfl) dX0_start_47
end GX
