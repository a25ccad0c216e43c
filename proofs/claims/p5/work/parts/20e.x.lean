section GX
set_option maxHeartbeats 4000000 in
set_option maxRecDepth 100000 in
theorem c_clear (l : Launch) (D : va_G) (cI cZ cQ cT : ClassId) (sz : Nat) (aa : Nat) (a1 : Nat) (rn : Int32) (sl : Int32) (kd : Int32) (vv : Int32)  : MetV l yX0_clear cX0_clear 1 ({ frames := 0, cells := 0, slots := 0, locals := 0 } : Room) [.ref aa] D (TYS cI cZ cQ cT) EF sz [(aa, .inr (0, [.ref a1, .int rn, .int sl, .int kd, .int vv]))] (S := Unit) (fun (_ : Unit) => True) (fun _ => [(aa, .inr (0, [.ref a1, .int 0, .int sl, .int kd, .int vv]))]) := by
  refine MetV.mk (lv := [(0, .ref aa)]) (by decide +kernel) (Nat.le_of_ble_eq_true rfl) rfl ?_
  intro p e s m below meth c A ls C0 hP hD hS hX hl
  have C1 := C0
  obtain ⟨hx, hb, hr, hml, hown, hlocks, hname, hT, hN, hK, hA⟩ := C1
  refine lv_aload_n hx hb dX0_clear_0 rfl (lv_at hl 0 rfl) ?_
  refine lv_iconst (v := 0) hx hb dX0_clear_1 (by decide) ?_
  refine va_put (ci := 0) (v := .int 0) (ty := .int) (C := RX0) (T := TX0) (N := 5) hx hb hT wu_X0 tyX0 tyX0_ok nmX0 hown hK hP hD hS 0 rfl rfl 1 (by decide) (hT _ wf_X0_15) (fun _ h9 => h9) rfl (by decide +kernel) rfl rfl (Nat.le_of_ble_eq_true rfl) dX0_clear_2 (fun H locs hP hD hS => ?_)
  have hP : va_P D CL [(aa, .inr (0, [.ref a1, .int 0, .int sl, .int kd, .int vv]))] H := hP
  have hD : va_D A [(aa, .inr (0, [.ref a1, .int 0, .int sl, .int kd, .int vv]))] := hD
  exact retV C0 () trivial (hP.sub (ws' := [(aa, .inr (0, [.ref a1, .int 0, .int sl, .int kd, .int vv]))]) [0] rfl) (hD.sub (ws' := [(aa, .inr (0, [.ref a1, .int 0, .int sl, .int kd, .int vv]))]) [0] (by decide) rfl) hS (Nat.le_of_ble_eq_true rfl) (Nat.le_of_ble_eq_true rfl) dX0_clear_5

set_option maxHeartbeats 4000000 in
set_option maxRecDepth 100000 in
theorem c_begin (l : Launch) (D : va_G) (cI cZ cQ cT : ClassId) (sz : Nat) (aa : Nat) (bd : Int32) (a1 : Nat) (rn : Int32) (sl : Int32) (kd : Int32) (vv : Int32) (fa : Nat → Int32)  : MetV l yX0_begin cX0_begin 2 ({ frames := 0, cells := 0, slots := 0, locals := 0 } : Room) [.ref aa, .int bd] D (TYS cI cZ cQ cT) EF sz [(aa, .inr (0, [.ref a1, .int rn, .int sl, .int kd, .int vv])), (a1, .inl (cI, 20, .inl fa))] (S := Int32 × (Nat → Int32)) (fun (_ : Int32 × (Nat → Int32)) => True) (fun u => [(aa, .inr (0, [.ref a1, .int u.1, .int sl, .int kd, .int vv])), (a1, .inl (cI, 20, .inl u.2))]) := by
  refine MetV.mk (lv := [(0, .ref aa), (1, .int bd)]) (by decide +kernel) (Nat.le_of_ble_eq_true rfl) rfl ?_
  intro p e s m below meth c A ls C0 hP hD hS hX hl
  have C1 := C0
  obtain ⟨hx, hb, hr, hml, hown, hlocks, hname, hT, hN, hK, hA⟩ := C1
  refine lv_aload_n hx hb dX0_begin_0 rfl (lv_at hl 0 rfl) ?_
  refine va_get (ci := 0) (v := .int rn) (C := RX0) (T := TX0) (N := 5) hx hb hT wu_X0 hown hK hP 0 rfl rfl 1 (by decide) (hT _ wf_X0_15) (fun _ h9 => h9) rfl dX0_begin_1 ?_
  refine lv_if_lt (tgt := 26) hx hb dX0_begin_4 (by decide) (fun c_1 => ?_) (fun c_1 => ?_)
  · refine lv_aload_n hx hb dX0_begin_26 rfl (lv_at hl 0 rfl) ?_
    refine lv_dup hx hb dX0_begin_27 rfl ?_
    refine va_get (ci := 0) (v := .int rn) (C := RX0) (T := TX0) (N := 5) hx hb hT wu_X0 hown hK hP 0 rfl rfl 1 (by decide) (hT _ wf_X0_15) (fun _ h9 => h9) rfl dX0_begin_28 ?_
    refine lv_iconst (v := 1) hx hb dX0_begin_31 (by decide) ?_
    refine lv_iadd hx hb dX0_begin_32 ?_
    refine va_put (ci := 0) (v := .int (rn + (1 : Int32))) (ty := .int) (C := RX0) (T := TX0) (N := 5) hx hb hT wu_X0 tyX0 tyX0_ok nmX0 hown hK hP hD hS 0 rfl rfl 1 (by decide) (hT _ wf_X0_15) (fun _ h9 => h9) rfl (by decide +kernel) rfl rfl (Nat.le_of_ble_eq_true rfl) dX0_begin_33 (fun H locs hP hD hS => ?_)
    have hP : va_P D CL [(aa, .inr (0, [.ref a1, .int (rn + (1 : Int32)), .int sl, .int kd, .int vv])), (a1, .inl (cI, 20, .inl fa))] H := hP
    have hD : va_D A [(aa, .inr (0, [.ref a1, .int (rn + (1 : Int32)), .int sl, .int kd, .int vv])), (a1, .inl (cI, 20, .inl fa))] := hD
    exact retV C0 ((rn + (1 : Int32)), fa) trivial (hP.sub (ws' := [(aa, .inr (0, [.ref a1, .int (rn + (1 : Int32)), .int sl, .int kd, .int vv])), (a1, .inl (cI, 20, .inl fa))]) [0, 1] rfl) (hD.sub (ws' := [(aa, .inr (0, [.ref a1, .int (rn + (1 : Int32)), .int sl, .int kd, .int vv])), (a1, .inl (cI, 20, .inl fa))]) [0, 1] (by decide) rfl) hS (Nat.le_of_ble_eq_true rfl) (Nat.le_of_ble_eq_true rfl) dX0_begin_36
  · refine lv_aload_n hx hb dX0_begin_7 rfl (lv_at hl 0 rfl) ?_
    refine va_get (ci := 0) (v := .int rn) (C := RX0) (T := TX0) (N := 5) hx hb hT wu_X0 hown hK hP 0 rfl rfl 1 (by decide) (hT _ wf_X0_15) (fun _ h9 => h9) rfl dX0_begin_8 ?_
    refine lv_bipush (v := 20) hx hb dX0_begin_11 (by decide) ?_
    refine lv_icmp_ge (tgt := 26) hx hb dX0_begin_13 (by decide) (fun c_2 => ?_) (fun c_2 => ?_)
    · refine lv_aload_n hx hb dX0_begin_26 rfl (lv_at hl 0 rfl) ?_
      refine lv_dup hx hb dX0_begin_27 rfl ?_
      refine va_get (ci := 0) (v := .int rn) (C := RX0) (T := TX0) (N := 5) hx hb hT wu_X0 hown hK hP 0 rfl rfl 1 (by decide) (hT _ wf_X0_15) (fun _ h9 => h9) rfl dX0_begin_28 ?_
      refine lv_iconst (v := 1) hx hb dX0_begin_31 (by decide) ?_
      refine lv_iadd hx hb dX0_begin_32 ?_
      refine va_put (ci := 0) (v := .int (rn + (1 : Int32))) (ty := .int) (C := RX0) (T := TX0) (N := 5) hx hb hT wu_X0 tyX0 tyX0_ok nmX0 hown hK hP hD hS 0 rfl rfl 1 (by decide) (hT _ wf_X0_15) (fun _ h9 => h9) rfl (by decide +kernel) rfl rfl (Nat.le_of_ble_eq_true rfl) dX0_begin_33 (fun H locs hP hD hS => ?_)
      have hP : va_P D CL [(aa, .inr (0, [.ref a1, .int (rn + (1 : Int32)), .int sl, .int kd, .int vv])), (a1, .inl (cI, 20, .inl fa))] H := hP
      have hD : va_D A [(aa, .inr (0, [.ref a1, .int (rn + (1 : Int32)), .int sl, .int kd, .int vv])), (a1, .inl (cI, 20, .inl fa))] := hD
      exact retV C0 ((rn + (1 : Int32)), fa) trivial (hP.sub (ws' := [(aa, .inr (0, [.ref a1, .int (rn + (1 : Int32)), .int sl, .int kd, .int vv])), (a1, .inl (cI, 20, .inl fa))]) [0, 1] rfl) (hD.sub (ws' := [(aa, .inr (0, [.ref a1, .int (rn + (1 : Int32)), .int sl, .int kd, .int vv])), (a1, .inl (cI, 20, .inl fa))]) [0, 1] (by decide) rfl) hS (Nat.le_of_ble_eq_true rfl) (Nat.le_of_ble_eq_true rfl) dX0_begin_36
    · refine lv_aload_n hx hb dX0_begin_16 rfl (lv_at hl 0 rfl) ?_
      refine va_get (ci := 0) (v := .ref a1) (C := RX0) (T := TX0) (N := 5) hx hb hT wu_X0 hown hK hP 0 rfl rfl 0 (by decide) (hT _ wf_X0_11) (fun _ h9 => h9) rfl dX0_begin_17 ?_
      refine lv_aload_n hx hb dX0_begin_20 rfl (lv_at hl 0 rfl) ?_
      refine va_get (ci := 0) (v := .int rn) (C := RX0) (T := TX0) (N := 5) hx hb hT wu_X0 hown hK hP 0 rfl rfl 1 (by decide) (hT _ wf_X0_15) (fun _ h9 => h9) rfl dX0_begin_21 ?_
      refine lv_iload_n hx hb dX0_begin_24 rfl (lv_at hl 1 rfl) ?_
      refine va_iast hx hb hK hP hD hS 1 0 rfl rfl (vin_of2 (by decide) (by have h_0 := c_1; have h_1 := c_2; have z0 : (0 : Int32).toInt = 0 := (by decide); have z20 : (20 : Int32).toInt = 20 := (by decide); simp only [le_i, lt_i, eq_i] at h_0 h_1 ⊢; omega : (0 : Int32) ≤ rn) (by have h_0 := c_1; have h_1 := c_2; have z0 : (0 : Int32).toInt = 0 := (by decide); have z20 : (20 : Int32).toInt = 20 := (by decide); simp only [le_i, lt_i, eq_i] at h_0 h_1 ⊢; omega : rn < (20 : Int32))) dX0_begin_25 (fun H locs hP hD hS => ?_)
      have hP : va_P D CL [(aa, .inr (0, [.ref a1, .int rn, .int sl, .int kd, .int vv])), (a1, .inl (cI, 20, .inl (upd fa (rn).toNatClampNeg bd)))] H := hP
      have hD : va_D A [(aa, .inr (0, [.ref a1, .int rn, .int sl, .int kd, .int vv])), (a1, .inl (cI, 20, .inl (upd fa (rn).toNatClampNeg bd)))] := hD
      refine lv_aload_n hx hb dX0_begin_26 rfl (lv_at hl 0 rfl) ?_
      refine lv_dup hx hb dX0_begin_27 rfl ?_
      refine va_get (ci := 0) (v := .int rn) (C := RX0) (T := TX0) (N := 5) hx hb hT wu_X0 hown hK hP 0 rfl rfl 1 (by decide) (hT _ wf_X0_15) (fun _ h9 => h9) rfl dX0_begin_28 ?_
      refine lv_iconst (v := 1) hx hb dX0_begin_31 (by decide) ?_
      refine lv_iadd hx hb dX0_begin_32 ?_
      refine va_put (ci := 0) (v := .int (rn + (1 : Int32))) (ty := .int) (C := RX0) (T := TX0) (N := 5) hx hb hT wu_X0 tyX0 tyX0_ok nmX0 hown hK hP hD hS 0 rfl rfl 1 (by decide) (hT _ wf_X0_15) (fun _ h9 => h9) rfl (by decide +kernel) rfl rfl (Nat.le_of_ble_eq_true rfl) dX0_begin_33 (fun H locs hP hD hS => ?_)
      have hP : va_P D CL [(aa, .inr (0, [.ref a1, .int (rn + (1 : Int32)), .int sl, .int kd, .int vv])), (a1, .inl (cI, 20, .inl (upd fa (rn).toNatClampNeg bd)))] H := hP
      have hD : va_D A [(aa, .inr (0, [.ref a1, .int (rn + (1 : Int32)), .int sl, .int kd, .int vv])), (a1, .inl (cI, 20, .inl (upd fa (rn).toNatClampNeg bd)))] := hD
      exact retV C0 ((rn + (1 : Int32)), (upd fa (rn).toNatClampNeg bd)) trivial (hP.sub (ws' := [(aa, .inr (0, [.ref a1, .int (rn + (1 : Int32)), .int sl, .int kd, .int vv])), (a1, .inl (cI, 20, .inl (upd fa (rn).toNatClampNeg bd)))]) [0, 1] rfl) (hD.sub (ws' := [(aa, .inr (0, [.ref a1, .int (rn + (1 : Int32)), .int sl, .int kd, .int vv])), (a1, .inl (cI, 20, .inl (upd fa (rn).toNatClampNeg bd)))]) [0, 1] (by decide) rfl) hS (Nat.le_of_ble_eq_true rfl) (Nat.le_of_ble_eq_true rfl) dX0_begin_36

set_option maxHeartbeats 4000000 in
set_option maxRecDepth 100000 in
theorem c_bodyOf_0_0 (l : Launch) (D : va_G) (cI cZ cQ cT : ClassId) (sz : Nat)   : MetI l yX0_bodyOf cX0_bodyOf 5 .int ({ frames := 0, cells := 0, slots := 0, locals := 0 } : Room) [.int 0, .int 0] D (TYS cI cZ cQ cT) EF sz [] (S := Unit) (fun (r : Int32) (_ : Unit) => r = 1) (fun _ => []) := by
  refine MetI.mk (lv := [(0, .int 0), (1, .int 0)]) (by decide +kernel) (Nat.le_of_ble_eq_true rfl) rfl ?_
  intro p e s m below meth c A ls C0 hP hD hS hX hl
  have C1 := C0
  obtain ⟨hx, hb, hr, hml, hown, hlocks, hname, hT, hN, hK, hA⟩ := C1
  obtain ⟨kab, hkz, hkT⟩ := hX.2.1
  obtain ⟨bdy, hbz, hbT⟩ := hX.2.2.1
  refine lv_iload_n hx hb dX0_bodyOf_0 rfl (lv_at hl 0 rfl) ?_
  refine lv_istore_n (lv' := [(2, .int 0), (0, .int 0), (1, .int 0)]) hx hb dX0_bodyOf_1 rfl hl (by decide) rfl (fun ls hl => ?_)
  refine lv_iconst (v := 0) hx hb dX0_bodyOf_2 (by decide) ?_
  refine lv_istore_n (lv' := [(3, .int 0), (2, .int 0), (0, .int 0), (1, .int 0)]) hx hb dX0_bodyOf_3 rfl hl (by decide) rfl (fun ls hl => ?_)
  refine lv_iload_n hx hb dX0_bodyOf_4 rfl (lv_at hl 0 rfl) ?_
  refine lv_bipush (v := 7) hx hb dX0_bodyOf_5 (by decide) ?_
  refine lv_icmp_ge (tgt := 69) hx hb dX0_bodyOf_7 (by decide) (fun c_0 => absurd c_0 (by decide)) (fun _ => ?_)
  refine lv_iload_n hx hb dX0_bodyOf_10 rfl (lv_at hl 1 rfl) ?_
  refine lv_if_lt (tgt := 69) hx hb dX0_bodyOf_11 (by decide) (fun c_0 => absurd c_0 (by decide)) (fun _ => ?_)
  refine lv_iload_n hx hb dX0_bodyOf_14 rfl (lv_at hl 1 rfl) ?_
  refine lv_bipush (v := 7) hx hb dX0_bodyOf_15 (by decide) ?_
  refine lv_icmp_ge (tgt := 69) hx hb dX0_bodyOf_17 (by decide) (fun c_0 => absurd c_0 (by decide)) (fun _ => ?_)
  refine lv_iload_n hx hb dX0_bodyOf_20 rfl (lv_at hl 1 rfl) ?_
  refine lv_iconst (v := 3) hx hb dX0_bodyOf_21 (by decide) ?_
  refine lv_imul hx hb dX0_bodyOf_22 ?_
  refine lv_ci 0 (by decide +kernel) ?_
  refine lv_iload_n hx hb dX0_bodyOf_23 rfl (lv_at hl 3 rfl) ?_
  refine lv_iadd hx hb dX0_bodyOf_24 ?_
  refine lv_ci 0 (by decide +kernel) ?_
  refine lv_istore (lv' := [(4, .int 0), (3, .int 0), (2, .int 0), (0, .int 0), (1, .int 0)]) hx hb dX0_bodyOf_25 hl (by decide) rfl (fun ls hl => ?_)
  refine lv_iload hx hb dX0_bodyOf_27 (lv_at hl 0 rfl) ?_
  refine lv_if_lt (tgt := 57) hx hb dX0_bodyOf_29 (by decide) (fun c_0 => absurd c_0 (by decide)) (fun _ => ?_)
  refine lv_iload hx hb dX0_bodyOf_32 (lv_at hl 0 rfl) ?_
  refine va_gets hx hb hbz hS hown (hT _ wf_X0_42) (fun _ h9 => h9) dX0_bodyOf_34 ?_
  refine va_tlen hx hb hbT hS (v := 21) rfl dX0_bodyOf_37 ?_
  refine lv_icmp_ge (tgt := 57) hx hb dX0_bodyOf_38 (by decide) (fun c_0 => absurd c_0 (by decide)) (fun _ => ?_)
  refine va_gets hx hb hbz hS hown (hT _ wf_X0_42) (fun _ h9 => h9) dX0_bodyOf_41 ?_
  refine lv_iload hx hb dX0_bodyOf_44 (lv_at hl 0 rfl) ?_
  refine va_ti hx hb hbT hS (vin _ _ (by decide +kernel)) (v := .int 1) rfl dX0_bodyOf_46 ?_
  refine lv_if_eq (tgt := 57) hx hb dX0_bodyOf_47 (by decide) (fun c_0 => absurd c_0 (by decide)) (fun _ => ?_)
  refine va_gets hx hb hbz hS hown (hT _ wf_X0_42) (fun _ h9 => h9) dX0_bodyOf_50 ?_
  refine lv_iload hx hb dX0_bodyOf_53 (lv_at hl 0 rfl) ?_
  refine va_ti hx hb hbT hS (vin _ _ (by decide +kernel)) (v := .int 1) rfl dX0_bodyOf_55 ?_
  exact retI C0 rfl () rfl (hP.sub (ws' := []) [] rfl) (hD.sub (ws' := []) [] (by decide) rfl) hS (Nat.le_of_ble_eq_true rfl) (Nat.le_of_ble_eq_true rfl) dX0_bodyOf_56

set_option maxHeartbeats 4000000 in
set_option maxRecDepth 100000 in
theorem c_ask_0_0_0 (l : Launch) (D : va_G) (cI cZ cQ cT : ClassId) (sz : Nat) (aa : Nat) (xx : Int32) (dp : Int32) (a1 : Nat) (rn : Int32) (sl : Int32) (vv : Int32) (fa : Nat → Int32)  : MetI l yX0_ask cX0_ask 7 .int ({ frames := 1, cells := 0, slots := 0, locals := 24 } : Room) [.ref aa, .int 0, .int 0, .int xx, .int dp] D (TYS cI cZ cQ cT) EF sz [(aa, .inr (0, [.ref a1, .int rn, .int sl, .int 0, .int vv])), (a1, .inl (cI, 20, .inl fa))] (S := Int32 × (Nat → Int32)) (fun (r : Int32) (_ : Int32 × (Nat → Int32)) => True) (fun u => [(aa, .inr (0, [.ref a1, .int u.1, .int sl, .int 0, .int vv])), (a1, .inl (cI, 20, .inl u.2))]) := by
  refine MetI.mk (lv := [(0, .ref aa), (1, .int 0), (2, .int 0), (3, .int xx), (4, .int dp)]) (by decide +kernel) (Nat.le_of_ble_eq_true rfl) rfl ?_
  intro p e s m below meth c A ls C0 hP hD hS hX hl
  have C1 := C0
  obtain ⟨hx, hb, hr, hml, hown, hlocks, hname, hT, hN, hK, hA⟩ := C1
  refine lv_iload_n hx hb dX0_ask_0 rfl (lv_at hl 1 rfl) ?_
  refine lv_iload_n hx hb dX0_ask_1 rfl (lv_at hl 2 rfl) ?_
  refine contI (wc := []) (wr := [(aa, .inr (0, [.ref a1, .int rn, .int sl, .int 0, .int vv])), (a1, .inl (cI, 20, .inl fa))]) C0 hP hD hS [] [0, 1] rfl rfl (by decide) (by decide) 0 0 (Nat.le_of_ble_eq_true rfl) (Nat.le_of_ble_eq_true rfl) (runS (k := 2) (As := [.int 0, .int 0]) (rest := []) C0 (c_bodyOf_0_0 l D cI cZ cQ cT _ ) wc_X0_bodyOf wl_X0_48 wt_X0_bodyOf wz_X0 ⟨by decide, by decide, by decide +kernel⟩ ⟨(Nat.le_of_ble_eq_true rfl), (Nat.le_of_ble_eq_true rfl)⟩ hP hD hS EF.ok hX [] rfl (by decide) rfl hl.1 rfl (Nat.le_of_ble_eq_true rfl) dX0_ask_2 ⟨(Nat.le_of_ble_eq_true rfl), (Nat.le_of_ble_eq_true rfl)⟩) (fun r_3 u_1 H locs w_2 hP hD hS => ?_)
  have hP : va_P D CL [(aa, .inr (0, [.ref a1, .int rn, .int sl, .int 0, .int vv])), (a1, .inl (cI, 20, .inl fa))] H := hP
  have hD : va_D A [(aa, .inr (0, [.ref a1, .int rn, .int sl, .int 0, .int vv])), (a1, .inl (cI, 20, .inl fa))] := hD
  obtain rfl : r_3 = 1 := w_2
  refine lv_istore (lv' := [(5, .int 1), (0, .ref aa), (1, .int 0), (2, .int 0), (3, .int xx), (4, .int dp)]) hx hb dX0_ask_5 hl (by decide) rfl (fun ls hl => ?_)
  refine lv_iload hx hb dX0_ask_7 (lv_at hl 0 rfl) ?_
  refine lv_if_eq (tgt := 19) hx hb dX0_ask_9 (by decide) (fun c_0 => absurd c_0 (by decide)) (fun _ => ?_)
  refine lv_iload hx hb dX0_ask_12 (lv_at hl 5 rfl) ?_
  refine lv_bipush (v := 40) hx hb dX0_ask_14 (by decide) ?_
  refine lv_icmp_le (tgt := 21) hx hb dX0_ask_16 (by decide) (fun c_4 => ?_) (fun c_4 => ?_)
  · refine lv_aload_n hx hb dX0_ask_21 rfl (lv_at hl 1 rfl) ?_
    refine lv_iload hx hb dX0_ask_22 (lv_at hl 0 rfl) ?_
    refine contV (wc := [(aa, .inr (0, [.ref a1, .int rn, .int sl, .int 0, .int vv])), (a1, .inl (cI, 20, .inl fa))]) (wr := []) C0 hP hD hS [0, 1] [] rfl rfl (by decide) (by decide) 0 0 (Nat.le_of_ble_eq_true rfl) (Nat.le_of_ble_eq_true rfl) (runV (k := 1) (As := [.int 1]) (rest := []) C0 (c_begin l D cI cZ cQ cT _ aa 1 a1 rn sl 0 vv fa) wc_X0_begin wl_X0_52 wi_X0_begin we_X0_begin wz_X0 ⟨by decide, by decide, by decide +kernel⟩ ⟨(Nat.le_of_ble_eq_true rfl), (Nat.le_of_ble_eq_true rfl)⟩ hP hD hS EF.ok hX [0, 1] rfl (by decide) 0 rfl rfl rfl rfl hl.1 rfl (Nat.le_of_ble_eq_true rfl) dX0_ask_24 ⟨(Nat.le_of_ble_eq_true rfl), (Nat.le_of_ble_eq_true rfl)⟩) (fun u_7 H locs w_8 hP hD hS => ?_)
    obtain ⟨rnZ_5, faZ_6⟩ := u_7
    have hP : va_P D CL [(aa, .inr (0, [.ref a1, .int rnZ_5, .int sl, .int 0, .int vv])), (a1, .inl (cI, 20, .inl faZ_6))] H := hP
    have hD : va_D A [(aa, .inr (0, [.ref a1, .int rnZ_5, .int sl, .int 0, .int vv])), (a1, .inl (cI, 20, .inl faZ_6))] := hD
    refine lv_iload hx hb dX0_ask_27 (lv_at hl 5 rfl) ?_
    refine lv_iconst (v := 1) hx hb dX0_ask_29 (by decide) ?_
    refine lv_iadd hx hb dX0_ask_30 ?_
    refine lv_istore (lv' := [(6, .int (dp + (1 : Int32))), (5, .int 1), (0, .ref aa), (1, .int 0), (2, .int 0), (3, .int xx), (4, .int dp)]) hx hb dX0_ask_31 hl (by decide) rfl (fun ls hl => ?_)
    refine lv_iload hx hb dX0_ask_33 (lv_at hl 1 rfl) ?_
    refine lv_lookup (off := 81) (tgt := 116) hx hb dX0_ask_35 (by decide) (by decide) (by decide) ?_
    refine lv_iload_n hx hb dX0_ask_116 rfl (lv_at hl 5 rfl) ?_
    refine lv_aload_n hx hb dX0_ask_117 rfl (lv_at hl 2 rfl) ?_
    refine va_get (ci := 0) (v := .int sl) (C := RX0) (T := TX0) (N := 5) hx hb hT wu_X0 hown hK hP 0 rfl rfl 2 (by decide) (hT _ wf_X0_25) (fun _ h9 => h9) rfl dX0_ask_118 ?_
    refine lv_iadd hx hb dX0_ask_121 ?_
    exact retI C0 rfl (rnZ_5, faZ_6) trivial (hP.sub (ws' := [(aa, .inr (0, [.ref a1, .int rnZ_5, .int sl, .int 0, .int vv])), (a1, .inl (cI, 20, .inl faZ_6))]) [0, 1] rfl) (hD.sub (ws' := [(aa, .inr (0, [.ref a1, .int rnZ_5, .int sl, .int 0, .int vv])), (a1, .inl (cI, 20, .inl faZ_6))]) [0, 1] (by decide) rfl) hS (Nat.le_of_ble_eq_true rfl) (Nat.le_of_ble_eq_true rfl) dX0_ask_122
  · refine lv_iconst (v := 0) hx hb dX0_ask_19 (by decide) ?_
    exact retI C0 rfl (rn, fa) trivial (hP.sub (ws' := [(aa, .inr (0, [.ref a1, .int rn, .int sl, .int 0, .int vv])), (a1, .inl (cI, 20, .inl fa))]) [0, 1] rfl) (hD.sub (ws' := [(aa, .inr (0, [.ref a1, .int rn, .int sl, .int 0, .int vv])), (a1, .inl (cI, 20, .inl fa))]) [0, 1] (by decide) rfl) hS (Nat.le_of_ble_eq_true rfl) (Nat.le_of_ble_eq_true rfl) dX0_ask_20

set_option maxHeartbeats 4000000 in
set_option maxRecDepth 100000 in
theorem c_bodyOf_1_0 (l : Launch) (D : va_G) (cI cZ cQ cT : ClassId) (sz : Nat)   : MetI l yX0_bodyOf cX0_bodyOf 5 .int ({ frames := 0, cells := 0, slots := 0, locals := 0 } : Room) [.int 1, .int 0] D (TYS cI cZ cQ cT) EF sz [] (S := Unit) (fun (r : Int32) (_ : Unit) => r = 11) (fun _ => []) := by
  refine MetI.mk (lv := [(0, .int 1), (1, .int 0)]) (by decide +kernel) (Nat.le_of_ble_eq_true rfl) rfl ?_
  intro p e s m below meth c A ls C0 hP hD hS hX hl
  have C1 := C0
  obtain ⟨hx, hb, hr, hml, hown, hlocks, hname, hT, hN, hK, hA⟩ := C1
  obtain ⟨kab, hkz, hkT⟩ := hX.2.1
  obtain ⟨bdy, hbz, hbT⟩ := hX.2.2.1
  refine lv_iload_n hx hb dX0_bodyOf_0 rfl (lv_at hl 0 rfl) ?_
  refine lv_istore_n (lv' := [(2, .int 1), (0, .int 1), (1, .int 0)]) hx hb dX0_bodyOf_1 rfl hl (by decide) rfl (fun ls hl => ?_)
  refine lv_iconst (v := 0) hx hb dX0_bodyOf_2 (by decide) ?_
  refine lv_istore_n (lv' := [(3, .int 0), (2, .int 1), (0, .int 1), (1, .int 0)]) hx hb dX0_bodyOf_3 rfl hl (by decide) rfl (fun ls hl => ?_)
  refine lv_iload_n hx hb dX0_bodyOf_4 rfl (lv_at hl 0 rfl) ?_
  refine lv_bipush (v := 7) hx hb dX0_bodyOf_5 (by decide) ?_
  refine lv_icmp_ge (tgt := 69) hx hb dX0_bodyOf_7 (by decide) (fun c_0 => absurd c_0 (by decide)) (fun _ => ?_)
  refine lv_iload_n hx hb dX0_bodyOf_10 rfl (lv_at hl 1 rfl) ?_
  refine lv_if_lt (tgt := 69) hx hb dX0_bodyOf_11 (by decide) (fun c_0 => absurd c_0 (by decide)) (fun _ => ?_)
  refine lv_iload_n hx hb dX0_bodyOf_14 rfl (lv_at hl 1 rfl) ?_
  refine lv_bipush (v := 7) hx hb dX0_bodyOf_15 (by decide) ?_
  refine lv_icmp_ge (tgt := 69) hx hb dX0_bodyOf_17 (by decide) (fun c_0 => absurd c_0 (by decide)) (fun _ => ?_)
  refine lv_iload_n hx hb dX0_bodyOf_20 rfl (lv_at hl 1 rfl) ?_
  refine lv_iconst (v := 3) hx hb dX0_bodyOf_21 (by decide) ?_
  refine lv_imul hx hb dX0_bodyOf_22 ?_
  refine lv_ci 3 (by decide +kernel) ?_
  refine lv_iload_n hx hb dX0_bodyOf_23 rfl (lv_at hl 3 rfl) ?_
  refine lv_iadd hx hb dX0_bodyOf_24 ?_
  refine lv_ci 3 (by decide +kernel) ?_
  refine lv_istore (lv' := [(4, .int 3), (3, .int 0), (2, .int 1), (0, .int 1), (1, .int 0)]) hx hb dX0_bodyOf_25 hl (by decide) rfl (fun ls hl => ?_)
  refine lv_iload hx hb dX0_bodyOf_27 (lv_at hl 0 rfl) ?_
  refine lv_if_lt (tgt := 57) hx hb dX0_bodyOf_29 (by decide) (fun c_0 => absurd c_0 (by decide)) (fun _ => ?_)
  refine lv_iload hx hb dX0_bodyOf_32 (lv_at hl 0 rfl) ?_
  refine va_gets hx hb hbz hS hown (hT _ wf_X0_42) (fun _ h9 => h9) dX0_bodyOf_34 ?_
  refine va_tlen hx hb hbT hS (v := 21) rfl dX0_bodyOf_37 ?_
  refine lv_icmp_ge (tgt := 57) hx hb dX0_bodyOf_38 (by decide) (fun c_0 => absurd c_0 (by decide)) (fun _ => ?_)
  refine va_gets hx hb hbz hS hown (hT _ wf_X0_42) (fun _ h9 => h9) dX0_bodyOf_41 ?_
  refine lv_iload hx hb dX0_bodyOf_44 (lv_at hl 0 rfl) ?_
  refine va_ti hx hb hbT hS (vin _ _ (by decide +kernel)) (v := .int 11) rfl dX0_bodyOf_46 ?_
  refine lv_if_eq (tgt := 57) hx hb dX0_bodyOf_47 (by decide) (fun c_0 => absurd c_0 (by decide)) (fun _ => ?_)
  refine va_gets hx hb hbz hS hown (hT _ wf_X0_42) (fun _ h9 => h9) dX0_bodyOf_50 ?_
  refine lv_iload hx hb dX0_bodyOf_53 (lv_at hl 0 rfl) ?_
  refine va_ti hx hb hbT hS (vin _ _ (by decide +kernel)) (v := .int 11) rfl dX0_bodyOf_55 ?_
  exact retI C0 rfl () rfl (hP.sub (ws' := []) [] rfl) (hD.sub (ws' := []) [] (by decide) rfl) hS (Nat.le_of_ble_eq_true rfl) (Nat.le_of_ble_eq_true rfl) dX0_bodyOf_56

set_option maxHeartbeats 4000000 in
set_option maxRecDepth 100000 in
theorem c_ask_1_0_0 (l : Launch) (D : va_G) (cI cZ cQ cT : ClassId) (sz : Nat) (aa : Nat) (xx : Int32) (dp : Int32) (a1 : Nat) (rn : Int32) (sl : Int32) (vv : Int32) (fa : Nat → Int32)  : MetI l yX0_ask cX0_ask 7 .int ({ frames := 1, cells := 0, slots := 0, locals := 24 } : Room) [.ref aa, .int 0, .int 0, .int xx, .int dp] D (TYS cI cZ cQ cT) EF sz [(aa, .inr (0, [.ref a1, .int rn, .int sl, .int 1, .int vv])), (a1, .inl (cI, 20, .inl fa))] (S := Int32 × (Nat → Int32)) (fun (r : Int32) (_ : Int32 × (Nat → Int32)) => True) (fun u => [(aa, .inr (0, [.ref a1, .int u.1, .int sl, .int 1, .int vv])), (a1, .inl (cI, 20, .inl u.2))]) := by
  refine MetI.mk (lv := [(0, .ref aa), (1, .int 0), (2, .int 0), (3, .int xx), (4, .int dp)]) (by decide +kernel) (Nat.le_of_ble_eq_true rfl) rfl ?_
  intro p e s m below meth c A ls C0 hP hD hS hX hl
  have C1 := C0
  obtain ⟨hx, hb, hr, hml, hown, hlocks, hname, hT, hN, hK, hA⟩ := C1
  refine lv_iload_n hx hb dX0_ask_0 rfl (lv_at hl 1 rfl) ?_
  refine lv_iload_n hx hb dX0_ask_1 rfl (lv_at hl 2 rfl) ?_
  refine contI (wc := []) (wr := [(aa, .inr (0, [.ref a1, .int rn, .int sl, .int 1, .int vv])), (a1, .inl (cI, 20, .inl fa))]) C0 hP hD hS [] [0, 1] rfl rfl (by decide) (by decide) 0 0 (Nat.le_of_ble_eq_true rfl) (Nat.le_of_ble_eq_true rfl) (runS (k := 2) (As := [.int 0, .int 0]) (rest := []) C0 (c_bodyOf_0_0 l D cI cZ cQ cT _ ) wc_X0_bodyOf wl_X0_48 wt_X0_bodyOf wz_X0 ⟨by decide, by decide, by decide +kernel⟩ ⟨(Nat.le_of_ble_eq_true rfl), (Nat.le_of_ble_eq_true rfl)⟩ hP hD hS EF.ok hX [] rfl (by decide) rfl hl.1 rfl (Nat.le_of_ble_eq_true rfl) dX0_ask_2 ⟨(Nat.le_of_ble_eq_true rfl), (Nat.le_of_ble_eq_true rfl)⟩) (fun r_3 u_1 H locs w_2 hP hD hS => ?_)
  have hP : va_P D CL [(aa, .inr (0, [.ref a1, .int rn, .int sl, .int 1, .int vv])), (a1, .inl (cI, 20, .inl fa))] H := hP
  have hD : va_D A [(aa, .inr (0, [.ref a1, .int rn, .int sl, .int 1, .int vv])), (a1, .inl (cI, 20, .inl fa))] := hD
  obtain rfl : r_3 = 1 := w_2
  refine lv_istore (lv' := [(5, .int 1), (0, .ref aa), (1, .int 0), (2, .int 0), (3, .int xx), (4, .int dp)]) hx hb dX0_ask_5 hl (by decide) rfl (fun ls hl => ?_)
  refine lv_iload hx hb dX0_ask_7 (lv_at hl 0 rfl) ?_
  refine lv_if_eq (tgt := 19) hx hb dX0_ask_9 (by decide) (fun c_0 => absurd c_0 (by decide)) (fun _ => ?_)
  refine lv_iload hx hb dX0_ask_12 (lv_at hl 5 rfl) ?_
  refine lv_bipush (v := 40) hx hb dX0_ask_14 (by decide) ?_
  refine lv_icmp_le (tgt := 21) hx hb dX0_ask_16 (by decide) (fun c_4 => ?_) (fun c_4 => ?_)
  · refine lv_aload_n hx hb dX0_ask_21 rfl (lv_at hl 1 rfl) ?_
    refine lv_iload hx hb dX0_ask_22 (lv_at hl 0 rfl) ?_
    refine contV (wc := [(aa, .inr (0, [.ref a1, .int rn, .int sl, .int 1, .int vv])), (a1, .inl (cI, 20, .inl fa))]) (wr := []) C0 hP hD hS [0, 1] [] rfl rfl (by decide) (by decide) 0 0 (Nat.le_of_ble_eq_true rfl) (Nat.le_of_ble_eq_true rfl) (runV (k := 1) (As := [.int 1]) (rest := []) C0 (c_begin l D cI cZ cQ cT _ aa 1 a1 rn sl 1 vv fa) wc_X0_begin wl_X0_52 wi_X0_begin we_X0_begin wz_X0 ⟨by decide, by decide, by decide +kernel⟩ ⟨(Nat.le_of_ble_eq_true rfl), (Nat.le_of_ble_eq_true rfl)⟩ hP hD hS EF.ok hX [0, 1] rfl (by decide) 0 rfl rfl rfl rfl hl.1 rfl (Nat.le_of_ble_eq_true rfl) dX0_ask_24 ⟨(Nat.le_of_ble_eq_true rfl), (Nat.le_of_ble_eq_true rfl)⟩) (fun u_7 H locs w_8 hP hD hS => ?_)
    obtain ⟨rnZ_5, faZ_6⟩ := u_7
    have hP : va_P D CL [(aa, .inr (0, [.ref a1, .int rnZ_5, .int sl, .int 1, .int vv])), (a1, .inl (cI, 20, .inl faZ_6))] H := hP
    have hD : va_D A [(aa, .inr (0, [.ref a1, .int rnZ_5, .int sl, .int 1, .int vv])), (a1, .inl (cI, 20, .inl faZ_6))] := hD
    refine lv_iload hx hb dX0_ask_27 (lv_at hl 5 rfl) ?_
    refine lv_iconst (v := 1) hx hb dX0_ask_29 (by decide) ?_
    refine lv_iadd hx hb dX0_ask_30 ?_
    refine lv_istore (lv' := [(6, .int (dp + (1 : Int32))), (5, .int 1), (0, .ref aa), (1, .int 0), (2, .int 0), (3, .int xx), (4, .int dp)]) hx hb dX0_ask_31 hl (by decide) rfl (fun ls hl => ?_)
    refine lv_iload hx hb dX0_ask_33 (lv_at hl 1 rfl) ?_
    refine lv_lookup (off := 81) (tgt := 116) hx hb dX0_ask_35 (by decide) (by decide) (by decide) ?_
    refine lv_iload_n hx hb dX0_ask_116 rfl (lv_at hl 5 rfl) ?_
    refine lv_aload_n hx hb dX0_ask_117 rfl (lv_at hl 2 rfl) ?_
    refine va_get (ci := 0) (v := .int sl) (C := RX0) (T := TX0) (N := 5) hx hb hT wu_X0 hown hK hP 0 rfl rfl 2 (by decide) (hT _ wf_X0_25) (fun _ h9 => h9) rfl dX0_ask_118 ?_
    refine lv_iadd hx hb dX0_ask_121 ?_
    exact retI C0 rfl (rnZ_5, faZ_6) trivial (hP.sub (ws' := [(aa, .inr (0, [.ref a1, .int rnZ_5, .int sl, .int 1, .int vv])), (a1, .inl (cI, 20, .inl faZ_6))]) [0, 1] rfl) (hD.sub (ws' := [(aa, .inr (0, [.ref a1, .int rnZ_5, .int sl, .int 1, .int vv])), (a1, .inl (cI, 20, .inl faZ_6))]) [0, 1] (by decide) rfl) hS (Nat.le_of_ble_eq_true rfl) (Nat.le_of_ble_eq_true rfl) dX0_ask_122
  · refine lv_iconst (v := 0) hx hb dX0_ask_19 (by decide) ?_
    exact retI C0 rfl (rn, fa) trivial (hP.sub (ws' := [(aa, .inr (0, [.ref a1, .int rn, .int sl, .int 1, .int vv])), (a1, .inl (cI, 20, .inl fa))]) [0, 1] rfl) (hD.sub (ws' := [(aa, .inr (0, [.ref a1, .int rn, .int sl, .int 1, .int vv])), (a1, .inl (cI, 20, .inl fa))]) [0, 1] (by decide) rfl) hS (Nat.le_of_ble_eq_true rfl) (Nat.le_of_ble_eq_true rfl) dX0_ask_20

set_option maxHeartbeats 4000000 in
set_option maxRecDepth 100000 in
theorem c_ask_1_1_0 (l : Launch) (D : va_G) (cI cZ cQ cT : ClassId) (sz : Nat) (aa : Nat) (xx : Int32) (dp : Int32) (a1 : Nat) (rn : Int32) (sl : Int32) (vv : Int32) (fa : Nat → Int32)  : MetI l yX0_ask cX0_ask 7 .int ({ frames := 2, cells := 0, slots := 0, locals := 50 } : Room) [.ref aa, .int 1, .int 0, .int xx, .int dp] D (TYS cI cZ cQ cT) EF sz [(aa, .inr (0, [.ref a1, .int rn, .int sl, .int 1, .int vv])), (a1, .inl (cI, 20, .inl fa))] (S := Int32 × (Nat → Int32)) (fun (r : Int32) (_ : Int32 × (Nat → Int32)) => True) (fun u => [(aa, .inr (0, [.ref a1, .int u.1, .int sl, .int 1, .int vv])), (a1, .inl (cI, 20, .inl u.2))]) := by
  refine MetI.mk (lv := [(0, .ref aa), (1, .int 1), (2, .int 0), (3, .int xx), (4, .int dp)]) (by decide +kernel) (Nat.le_of_ble_eq_true rfl) rfl ?_
  intro p e s m below meth c A ls C0 hP hD hS hX hl
  have C1 := C0
  obtain ⟨hx, hb, hr, hml, hown, hlocks, hname, hT, hN, hK, hA⟩ := C1
  refine lv_iload_n hx hb dX0_ask_0 rfl (lv_at hl 1 rfl) ?_
  refine lv_iload_n hx hb dX0_ask_1 rfl (lv_at hl 2 rfl) ?_
  refine contI (wc := []) (wr := [(aa, .inr (0, [.ref a1, .int rn, .int sl, .int 1, .int vv])), (a1, .inl (cI, 20, .inl fa))]) C0 hP hD hS [] [0, 1] rfl rfl (by decide) (by decide) 0 0 (Nat.le_of_ble_eq_true rfl) (Nat.le_of_ble_eq_true rfl) (runS (k := 2) (As := [.int 1, .int 0]) (rest := []) C0 (c_bodyOf_1_0 l D cI cZ cQ cT _ ) wc_X0_bodyOf wl_X0_48 wt_X0_bodyOf wz_X0 ⟨by decide, by decide, by decide +kernel⟩ ⟨(Nat.le_of_ble_eq_true rfl), (Nat.le_of_ble_eq_true rfl)⟩ hP hD hS EF.ok hX [] rfl (by decide) rfl hl.1 rfl (Nat.le_of_ble_eq_true rfl) dX0_ask_2 ⟨(Nat.le_of_ble_eq_true rfl), (Nat.le_of_ble_eq_true rfl)⟩) (fun r_3 u_1 H locs w_2 hP hD hS => ?_)
  have hP : va_P D CL [(aa, .inr (0, [.ref a1, .int rn, .int sl, .int 1, .int vv])), (a1, .inl (cI, 20, .inl fa))] H := hP
  have hD : va_D A [(aa, .inr (0, [.ref a1, .int rn, .int sl, .int 1, .int vv])), (a1, .inl (cI, 20, .inl fa))] := hD
  obtain rfl : r_3 = 11 := w_2
  refine lv_istore (lv' := [(5, .int 11), (0, .ref aa), (1, .int 1), (2, .int 0), (3, .int xx), (4, .int dp)]) hx hb dX0_ask_5 hl (by decide) rfl (fun ls hl => ?_)
  refine lv_iload hx hb dX0_ask_7 (lv_at hl 0 rfl) ?_
  refine lv_if_eq (tgt := 19) hx hb dX0_ask_9 (by decide) (fun c_0 => absurd c_0 (by decide)) (fun _ => ?_)
  refine lv_iload hx hb dX0_ask_12 (lv_at hl 5 rfl) ?_
  refine lv_bipush (v := 40) hx hb dX0_ask_14 (by decide) ?_
  refine lv_icmp_le (tgt := 21) hx hb dX0_ask_16 (by decide) (fun c_4 => ?_) (fun c_4 => ?_)
  · refine lv_aload_n hx hb dX0_ask_21 rfl (lv_at hl 1 rfl) ?_
    refine lv_iload hx hb dX0_ask_22 (lv_at hl 0 rfl) ?_
    refine contV (wc := [(aa, .inr (0, [.ref a1, .int rn, .int sl, .int 1, .int vv])), (a1, .inl (cI, 20, .inl fa))]) (wr := []) C0 hP hD hS [0, 1] [] rfl rfl (by decide) (by decide) 0 0 (Nat.le_of_ble_eq_true rfl) (Nat.le_of_ble_eq_true rfl) (runV (k := 1) (As := [.int 11]) (rest := []) C0 (c_begin l D cI cZ cQ cT _ aa 11 a1 rn sl 1 vv fa) wc_X0_begin wl_X0_52 wi_X0_begin we_X0_begin wz_X0 ⟨by decide, by decide, by decide +kernel⟩ ⟨(Nat.le_of_ble_eq_true rfl), (Nat.le_of_ble_eq_true rfl)⟩ hP hD hS EF.ok hX [0, 1] rfl (by decide) 0 rfl rfl rfl rfl hl.1 rfl (Nat.le_of_ble_eq_true rfl) dX0_ask_24 ⟨(Nat.le_of_ble_eq_true rfl), (Nat.le_of_ble_eq_true rfl)⟩) (fun u_7 H locs w_8 hP hD hS => ?_)
    obtain ⟨rnZ_5, faZ_6⟩ := u_7
    have hP : va_P D CL [(aa, .inr (0, [.ref a1, .int rnZ_5, .int sl, .int 1, .int vv])), (a1, .inl (cI, 20, .inl faZ_6))] H := hP
    have hD : va_D A [(aa, .inr (0, [.ref a1, .int rnZ_5, .int sl, .int 1, .int vv])), (a1, .inl (cI, 20, .inl faZ_6))] := hD
    refine lv_iload hx hb dX0_ask_27 (lv_at hl 5 rfl) ?_
    refine lv_iconst (v := 1) hx hb dX0_ask_29 (by decide) ?_
    refine lv_iadd hx hb dX0_ask_30 ?_
    refine lv_istore (lv' := [(6, .int (dp + (1 : Int32))), (5, .int 11), (0, .ref aa), (1, .int 1), (2, .int 0), (3, .int xx), (4, .int dp)]) hx hb dX0_ask_31 hl (by decide) rfl (fun ls hl => ?_)
    refine lv_iload hx hb dX0_ask_33 (lv_at hl 1 rfl) ?_
    refine lv_lookup (off := 121) (tgt := 156) hx hb dX0_ask_35 (by decide) (by decide) (by decide) ?_
    refine lv_aload_n hx hb dX0_ask_156 rfl (lv_at hl 2 rfl) ?_
    refine lv_iconst (v := 0) hx hb dX0_ask_157 (by decide) ?_
    refine lv_iconst (v := 0) hx hb dX0_ask_158 (by decide) ?_
    refine lv_iload_n hx hb dX0_ask_159 rfl (lv_at hl 5 rfl) ?_
    refine lv_iconst (v := 3) hx hb dX0_ask_160 (by decide) ?_
    refine lv_imul hx hb dX0_ask_161 ?_
    refine lv_iload hx hb dX0_ask_162 (lv_at hl 0 rfl) ?_
    refine contI (wc := [(aa, .inr (0, [.ref a1, .int rnZ_5, .int sl, .int 1, .int vv])), (a1, .inl (cI, 20, .inl faZ_6))]) (wr := []) C0 hP hD hS [0, 1] [] rfl rfl (by decide) (by decide) 0 0 (Nat.le_of_ble_eq_true rfl) (Nat.le_of_ble_eq_true rfl) (runV (k := 4) (As := [.int 0, .int 0, .int (xx * (3 : Int32)), .int (dp + (1 : Int32))]) (rest := []) C0 (c_ask_1_0_0 l D cI cZ cQ cT _ aa (xx * (3 : Int32)) (dp + (1 : Int32)) a1 rnZ_5 sl vv faZ_6) wc_X0_ask wl_X0_38 wi_X0_ask we_X0_ask wz_X0 ⟨by decide, by decide, by decide +kernel⟩ ⟨(Nat.le_of_ble_eq_true rfl), (Nat.le_of_ble_eq_true rfl)⟩ hP hD hS EF.ok hX [0, 1] rfl (by decide) 0 rfl rfl rfl rfl hl.1 rfl (Nat.le_of_ble_eq_true rfl) dX0_ask_164 ⟨(Nat.le_of_ble_eq_true rfl), (Nat.le_of_ble_eq_true rfl)⟩) (fun r_14 u_12 H locs w_13 hP hD hS => ?_)
    obtain ⟨rnZ_10, faZ_11⟩ := u_12
    have hP : va_P D CL [(aa, .inr (0, [.ref a1, .int rnZ_10, .int sl, .int 1, .int vv])), (a1, .inl (cI, 20, .inl faZ_11))] H := hP
    have hD : va_D A [(aa, .inr (0, [.ref a1, .int rnZ_10, .int sl, .int 1, .int vv])), (a1, .inl (cI, 20, .inl faZ_11))] := hD
    exact retI C0 rfl (rnZ_10, faZ_11) trivial (hP.sub (ws' := [(aa, .inr (0, [.ref a1, .int rnZ_10, .int sl, .int 1, .int vv])), (a1, .inl (cI, 20, .inl faZ_11))]) [0, 1] rfl) (hD.sub (ws' := [(aa, .inr (0, [.ref a1, .int rnZ_10, .int sl, .int 1, .int vv])), (a1, .inl (cI, 20, .inl faZ_11))]) [0, 1] (by decide) rfl) hS (Nat.le_of_ble_eq_true rfl) (Nat.le_of_ble_eq_true rfl) dX0_ask_167
  · refine lv_iconst (v := 0) hx hb dX0_ask_19 (by decide) ?_
    exact retI C0 rfl (rn, fa) trivial (hP.sub (ws' := [(aa, .inr (0, [.ref a1, .int rn, .int sl, .int 1, .int vv])), (a1, .inl (cI, 20, .inl fa))]) [0, 1] rfl) (hD.sub (ws' := [(aa, .inr (0, [.ref a1, .int rn, .int sl, .int 1, .int vv])), (a1, .inl (cI, 20, .inl fa))]) [0, 1] (by decide) rfl) hS (Nat.le_of_ble_eq_true rfl) (Nat.le_of_ble_eq_true rfl) dX0_ask_20

set_option maxHeartbeats 4000000 in
set_option maxRecDepth 100000 in
theorem c_bodyOf_2_0 (l : Launch) (D : va_G) (cI cZ cQ cT : ClassId) (sz : Nat)   : MetI l yX0_bodyOf cX0_bodyOf 5 .int ({ frames := 0, cells := 0, slots := 0, locals := 0 } : Room) [.int 2, .int 0] D (TYS cI cZ cQ cT) EF sz [] (S := Unit) (fun (r : Int32) (_ : Unit) => r = 1) (fun _ => []) := by
  refine MetI.mk (lv := [(0, .int 2), (1, .int 0)]) (by decide +kernel) (Nat.le_of_ble_eq_true rfl) rfl ?_
  intro p e s m below meth c A ls C0 hP hD hS hX hl
  have C1 := C0
  obtain ⟨hx, hb, hr, hml, hown, hlocks, hname, hT, hN, hK, hA⟩ := C1
  obtain ⟨kab, hkz, hkT⟩ := hX.2.1
  obtain ⟨bdy, hbz, hbT⟩ := hX.2.2.1
  refine lv_iload_n hx hb dX0_bodyOf_0 rfl (lv_at hl 0 rfl) ?_
  refine lv_istore_n (lv' := [(2, .int 2), (0, .int 2), (1, .int 0)]) hx hb dX0_bodyOf_1 rfl hl (by decide) rfl (fun ls hl => ?_)
  refine lv_iconst (v := 0) hx hb dX0_bodyOf_2 (by decide) ?_
  refine lv_istore_n (lv' := [(3, .int 0), (2, .int 2), (0, .int 2), (1, .int 0)]) hx hb dX0_bodyOf_3 rfl hl (by decide) rfl (fun ls hl => ?_)
  refine lv_iload_n hx hb dX0_bodyOf_4 rfl (lv_at hl 0 rfl) ?_
  refine lv_bipush (v := 7) hx hb dX0_bodyOf_5 (by decide) ?_
  refine lv_icmp_ge (tgt := 69) hx hb dX0_bodyOf_7 (by decide) (fun c_0 => absurd c_0 (by decide)) (fun _ => ?_)
  refine lv_iload_n hx hb dX0_bodyOf_10 rfl (lv_at hl 1 rfl) ?_
  refine lv_if_lt (tgt := 69) hx hb dX0_bodyOf_11 (by decide) (fun c_0 => absurd c_0 (by decide)) (fun _ => ?_)
  refine lv_iload_n hx hb dX0_bodyOf_14 rfl (lv_at hl 1 rfl) ?_
  refine lv_bipush (v := 7) hx hb dX0_bodyOf_15 (by decide) ?_
  refine lv_icmp_ge (tgt := 69) hx hb dX0_bodyOf_17 (by decide) (fun c_0 => absurd c_0 (by decide)) (fun _ => ?_)
  refine lv_iload_n hx hb dX0_bodyOf_20 rfl (lv_at hl 1 rfl) ?_
  refine lv_iconst (v := 3) hx hb dX0_bodyOf_21 (by decide) ?_
  refine lv_imul hx hb dX0_bodyOf_22 ?_
  refine lv_ci 6 (by decide +kernel) ?_
  refine lv_iload_n hx hb dX0_bodyOf_23 rfl (lv_at hl 3 rfl) ?_
  refine lv_iadd hx hb dX0_bodyOf_24 ?_
  refine lv_ci 6 (by decide +kernel) ?_
  refine lv_istore (lv' := [(4, .int 6), (3, .int 0), (2, .int 2), (0, .int 2), (1, .int 0)]) hx hb dX0_bodyOf_25 hl (by decide) rfl (fun ls hl => ?_)
  refine lv_iload hx hb dX0_bodyOf_27 (lv_at hl 0 rfl) ?_
  refine lv_if_lt (tgt := 57) hx hb dX0_bodyOf_29 (by decide) (fun c_0 => absurd c_0 (by decide)) (fun _ => ?_)
  refine lv_iload hx hb dX0_bodyOf_32 (lv_at hl 0 rfl) ?_
  refine va_gets hx hb hbz hS hown (hT _ wf_X0_42) (fun _ h9 => h9) dX0_bodyOf_34 ?_
  refine va_tlen hx hb hbT hS (v := 21) rfl dX0_bodyOf_37 ?_
  refine lv_icmp_ge (tgt := 57) hx hb dX0_bodyOf_38 (by decide) (fun c_0 => absurd c_0 (by decide)) (fun _ => ?_)
  refine va_gets hx hb hbz hS hown (hT _ wf_X0_42) (fun _ h9 => h9) dX0_bodyOf_41 ?_
  refine lv_iload hx hb dX0_bodyOf_44 (lv_at hl 0 rfl) ?_
  refine va_ti hx hb hbT hS (vin _ _ (by decide +kernel)) (v := .int 0) rfl dX0_bodyOf_46 ?_
  refine lv_if_eq (tgt := 57) hx hb dX0_bodyOf_47 (by decide) (fun _ => ?_) (fun c_0 => absurd (by decide) c_0)
  refine va_getsN hx hb hkz hS hown (va_Nw.use rfl (hN.get 750 kf_X0_45 rfl)) (fun _ h9 => h9) dX0_bodyOf_57 ?_
  refine lv_iload_n hx hb dX0_bodyOf_60 rfl (lv_at hl 2 rfl) ?_
  refine va_ti hx hb hkT hS (vin _ _ (by decide +kernel)) (v := .int 0) rfl dX0_bodyOf_61 ?_
  refine lv_istore_n (lv' := [(2, .int 0), (4, .int 6), (3, .int 0), (0, .int 2), (1, .int 0)]) hx hb dX0_bodyOf_62 rfl hl (by decide) rfl (fun ls hl => ?_)
  refine lv_iinc (v := 1) (lv' := [(3, .int 1), (2, .int 0), (4, .int 6), (0, .int 2), (1, .int 0)]) hx hb dX0_bodyOf_63 hl (k := 2) rfl (by decide) (by decide) rfl (fun ls hl => ?_)
  refine lv_goto (tgt := 4) hx hb dX0_bodyOf_66 (by decide) ?_
  refine lv_iload_n hx hb dX0_bodyOf_4 rfl (lv_at hl 0 rfl) ?_
  refine lv_bipush (v := 7) hx hb dX0_bodyOf_5 (by decide) ?_
  refine lv_icmp_ge (tgt := 69) hx hb dX0_bodyOf_7 (by decide) (fun c_0 => absurd c_0 (by decide)) (fun _ => ?_)
  refine lv_iload_n hx hb dX0_bodyOf_10 rfl (lv_at hl 1 rfl) ?_
  refine lv_if_lt (tgt := 69) hx hb dX0_bodyOf_11 (by decide) (fun c_0 => absurd c_0 (by decide)) (fun _ => ?_)
  refine lv_iload_n hx hb dX0_bodyOf_14 rfl (lv_at hl 1 rfl) ?_
  refine lv_bipush (v := 7) hx hb dX0_bodyOf_15 (by decide) ?_
  refine lv_icmp_ge (tgt := 69) hx hb dX0_bodyOf_17 (by decide) (fun c_0 => absurd c_0 (by decide)) (fun _ => ?_)
  refine lv_iload_n hx hb dX0_bodyOf_20 rfl (lv_at hl 1 rfl) ?_
  refine lv_iconst (v := 3) hx hb dX0_bodyOf_21 (by decide) ?_
  refine lv_imul hx hb dX0_bodyOf_22 ?_
  refine lv_ci 0 (by decide +kernel) ?_
  refine lv_iload_n hx hb dX0_bodyOf_23 rfl (lv_at hl 4 rfl) ?_
  refine lv_iadd hx hb dX0_bodyOf_24 ?_
  refine lv_ci 0 (by decide +kernel) ?_
  refine lv_istore (lv' := [(4, .int 0), (3, .int 1), (2, .int 0), (0, .int 2), (1, .int 0)]) hx hb dX0_bodyOf_25 hl (by decide) rfl (fun ls hl => ?_)
  refine lv_iload hx hb dX0_bodyOf_27 (lv_at hl 0 rfl) ?_
  refine lv_if_lt (tgt := 57) hx hb dX0_bodyOf_29 (by decide) (fun c_0 => absurd c_0 (by decide)) (fun _ => ?_)
  refine lv_iload hx hb dX0_bodyOf_32 (lv_at hl 0 rfl) ?_
  refine va_gets hx hb hbz hS hown (hT _ wf_X0_42) (fun _ h9 => h9) dX0_bodyOf_34 ?_
  refine va_tlen hx hb hbT hS (v := 21) rfl dX0_bodyOf_37 ?_
  refine lv_icmp_ge (tgt := 57) hx hb dX0_bodyOf_38 (by decide) (fun c_0 => absurd c_0 (by decide)) (fun _ => ?_)
  refine va_gets hx hb hbz hS hown (hT _ wf_X0_42) (fun _ h9 => h9) dX0_bodyOf_41 ?_
  refine lv_iload hx hb dX0_bodyOf_44 (lv_at hl 0 rfl) ?_
  refine va_ti hx hb hbT hS (vin _ _ (by decide +kernel)) (v := .int 1) rfl dX0_bodyOf_46 ?_
  refine lv_if_eq (tgt := 57) hx hb dX0_bodyOf_47 (by decide) (fun c_0 => absurd c_0 (by decide)) (fun _ => ?_)
  refine va_gets hx hb hbz hS hown (hT _ wf_X0_42) (fun _ h9 => h9) dX0_bodyOf_50 ?_
  refine lv_iload hx hb dX0_bodyOf_53 (lv_at hl 0 rfl) ?_
  refine va_ti hx hb hbT hS (vin _ _ (by decide +kernel)) (v := .int 1) rfl dX0_bodyOf_55 ?_
  exact retI C0 rfl () rfl (hP.sub (ws' := []) [] rfl) (hD.sub (ws' := []) [] (by decide) rfl) hS (Nat.le_of_ble_eq_true rfl) (Nat.le_of_ble_eq_true rfl) dX0_bodyOf_56

set_option maxHeartbeats 4000000 in
set_option maxRecDepth 100000 in
theorem c_ask_2_2_0 (l : Launch) (D : va_G) (cI cZ cQ cT : ClassId) (sz : Nat) (aa : Nat) (xx : Int32) (dp : Int32) (a1 : Nat) (rn : Int32) (sl : Int32) (vv : Int32) (fa : Nat → Int32)  : MetI l yX0_ask cX0_ask 7 .int ({ frames := 1, cells := 0, slots := 0, locals := 24 } : Room) [.ref aa, .int 2, .int 0, .int xx, .int dp] D (TYS cI cZ cQ cT) EF sz [(aa, .inr (0, [.ref a1, .int rn, .int sl, .int 2, .int vv])), (a1, .inl (cI, 20, .inl fa))] (S := Int32 × (Nat → Int32)) (fun (r : Int32) (_ : Int32 × (Nat → Int32)) => True) (fun u => [(aa, .inr (0, [.ref a1, .int u.1, .int sl, .int 2, .int vv])), (a1, .inl (cI, 20, .inl u.2))]) := by
  refine MetI.mk (lv := [(0, .ref aa), (1, .int 2), (2, .int 0), (3, .int xx), (4, .int dp)]) (by decide +kernel) (Nat.le_of_ble_eq_true rfl) rfl ?_
  intro p e s m below meth c A ls C0 hP hD hS hX hl
  have C1 := C0
  obtain ⟨hx, hb, hr, hml, hown, hlocks, hname, hT, hN, hK, hA⟩ := C1
  refine lv_iload_n hx hb dX0_ask_0 rfl (lv_at hl 1 rfl) ?_
  refine lv_iload_n hx hb dX0_ask_1 rfl (lv_at hl 2 rfl) ?_
  refine contI (wc := []) (wr := [(aa, .inr (0, [.ref a1, .int rn, .int sl, .int 2, .int vv])), (a1, .inl (cI, 20, .inl fa))]) C0 hP hD hS [] [0, 1] rfl rfl (by decide) (by decide) 0 0 (Nat.le_of_ble_eq_true rfl) (Nat.le_of_ble_eq_true rfl) (runS (k := 2) (As := [.int 2, .int 0]) (rest := []) C0 (c_bodyOf_2_0 l D cI cZ cQ cT _ ) wc_X0_bodyOf wl_X0_48 wt_X0_bodyOf wz_X0 ⟨by decide, by decide, by decide +kernel⟩ ⟨(Nat.le_of_ble_eq_true rfl), (Nat.le_of_ble_eq_true rfl)⟩ hP hD hS EF.ok hX [] rfl (by decide) rfl hl.1 rfl (Nat.le_of_ble_eq_true rfl) dX0_ask_2 ⟨(Nat.le_of_ble_eq_true rfl), (Nat.le_of_ble_eq_true rfl)⟩) (fun r_3 u_1 H locs w_2 hP hD hS => ?_)
  have hP : va_P D CL [(aa, .inr (0, [.ref a1, .int rn, .int sl, .int 2, .int vv])), (a1, .inl (cI, 20, .inl fa))] H := hP
  have hD : va_D A [(aa, .inr (0, [.ref a1, .int rn, .int sl, .int 2, .int vv])), (a1, .inl (cI, 20, .inl fa))] := hD
  obtain rfl : r_3 = 1 := w_2
  refine lv_istore (lv' := [(5, .int 1), (0, .ref aa), (1, .int 2), (2, .int 0), (3, .int xx), (4, .int dp)]) hx hb dX0_ask_5 hl (by decide) rfl (fun ls hl => ?_)
  refine lv_iload hx hb dX0_ask_7 (lv_at hl 0 rfl) ?_
  refine lv_if_eq (tgt := 19) hx hb dX0_ask_9 (by decide) (fun c_0 => absurd c_0 (by decide)) (fun _ => ?_)
  refine lv_iload hx hb dX0_ask_12 (lv_at hl 5 rfl) ?_
  refine lv_bipush (v := 40) hx hb dX0_ask_14 (by decide) ?_
  refine lv_icmp_le (tgt := 21) hx hb dX0_ask_16 (by decide) (fun c_4 => ?_) (fun c_4 => ?_)
  · refine lv_aload_n hx hb dX0_ask_21 rfl (lv_at hl 1 rfl) ?_
    refine lv_iload hx hb dX0_ask_22 (lv_at hl 0 rfl) ?_
    refine contV (wc := [(aa, .inr (0, [.ref a1, .int rn, .int sl, .int 2, .int vv])), (a1, .inl (cI, 20, .inl fa))]) (wr := []) C0 hP hD hS [0, 1] [] rfl rfl (by decide) (by decide) 0 0 (Nat.le_of_ble_eq_true rfl) (Nat.le_of_ble_eq_true rfl) (runV (k := 1) (As := [.int 1]) (rest := []) C0 (c_begin l D cI cZ cQ cT _ aa 1 a1 rn sl 2 vv fa) wc_X0_begin wl_X0_52 wi_X0_begin we_X0_begin wz_X0 ⟨by decide, by decide, by decide +kernel⟩ ⟨(Nat.le_of_ble_eq_true rfl), (Nat.le_of_ble_eq_true rfl)⟩ hP hD hS EF.ok hX [0, 1] rfl (by decide) 0 rfl rfl rfl rfl hl.1 rfl (Nat.le_of_ble_eq_true rfl) dX0_ask_24 ⟨(Nat.le_of_ble_eq_true rfl), (Nat.le_of_ble_eq_true rfl)⟩) (fun u_7 H locs w_8 hP hD hS => ?_)
    obtain ⟨rnZ_5, faZ_6⟩ := u_7
    have hP : va_P D CL [(aa, .inr (0, [.ref a1, .int rnZ_5, .int sl, .int 2, .int vv])), (a1, .inl (cI, 20, .inl faZ_6))] H := hP
    have hD : va_D A [(aa, .inr (0, [.ref a1, .int rnZ_5, .int sl, .int 2, .int vv])), (a1, .inl (cI, 20, .inl faZ_6))] := hD
    refine lv_iload hx hb dX0_ask_27 (lv_at hl 5 rfl) ?_
    refine lv_iconst (v := 1) hx hb dX0_ask_29 (by decide) ?_
    refine lv_iadd hx hb dX0_ask_30 ?_
    refine lv_istore (lv' := [(6, .int (dp + (1 : Int32))), (5, .int 1), (0, .ref aa), (1, .int 2), (2, .int 0), (3, .int xx), (4, .int dp)]) hx hb dX0_ask_31 hl (by decide) rfl (fun ls hl => ?_)
    refine lv_iload hx hb dX0_ask_33 (lv_at hl 1 rfl) ?_
    refine lv_lookup (off := 81) (tgt := 116) hx hb dX0_ask_35 (by decide) (by decide) (by decide) ?_
    refine lv_iload_n hx hb dX0_ask_116 rfl (lv_at hl 5 rfl) ?_
    refine lv_aload_n hx hb dX0_ask_117 rfl (lv_at hl 2 rfl) ?_
    refine va_get (ci := 0) (v := .int sl) (C := RX0) (T := TX0) (N := 5) hx hb hT wu_X0 hown hK hP 0 rfl rfl 2 (by decide) (hT _ wf_X0_25) (fun _ h9 => h9) rfl dX0_ask_118 ?_
    refine lv_iadd hx hb dX0_ask_121 ?_
    exact retI C0 rfl (rnZ_5, faZ_6) trivial (hP.sub (ws' := [(aa, .inr (0, [.ref a1, .int rnZ_5, .int sl, .int 2, .int vv])), (a1, .inl (cI, 20, .inl faZ_6))]) [0, 1] rfl) (hD.sub (ws' := [(aa, .inr (0, [.ref a1, .int rnZ_5, .int sl, .int 2, .int vv])), (a1, .inl (cI, 20, .inl faZ_6))]) [0, 1] (by decide) rfl) hS (Nat.le_of_ble_eq_true rfl) (Nat.le_of_ble_eq_true rfl) dX0_ask_122
  · refine lv_iconst (v := 0) hx hb dX0_ask_19 (by decide) ?_
    exact retI C0 rfl (rn, fa) trivial (hP.sub (ws' := [(aa, .inr (0, [.ref a1, .int rn, .int sl, .int 2, .int vv])), (a1, .inl (cI, 20, .inl fa))]) [0, 1] rfl) (hD.sub (ws' := [(aa, .inr (0, [.ref a1, .int rn, .int sl, .int 2, .int vv])), (a1, .inl (cI, 20, .inl fa))]) [0, 1] (by decide) rfl) hS (Nat.le_of_ble_eq_true rfl) (Nat.le_of_ble_eq_true rfl) dX0_ask_20

set_option maxHeartbeats 4000000 in
set_option maxRecDepth 100000 in
theorem c_bodyOf_3_0 (l : Launch) (D : va_G) (cI cZ cQ cT : ClassId) (sz : Nat)   : MetI l yX0_bodyOf cX0_bodyOf 5 .int ({ frames := 0, cells := 0, slots := 0, locals := 0 } : Room) [.int 3, .int 0] D (TYS cI cZ cQ cT) EF sz [] (S := Unit) (fun (r : Int32) (_ : Unit) => r = 1) (fun _ => []) := by
  refine MetI.mk (lv := [(0, .int 3), (1, .int 0)]) (by decide +kernel) (Nat.le_of_ble_eq_true rfl) rfl ?_
  intro p e s m below meth c A ls C0 hP hD hS hX hl
  have C1 := C0
  obtain ⟨hx, hb, hr, hml, hown, hlocks, hname, hT, hN, hK, hA⟩ := C1
  obtain ⟨kab, hkz, hkT⟩ := hX.2.1
  obtain ⟨bdy, hbz, hbT⟩ := hX.2.2.1
  refine lv_iload_n hx hb dX0_bodyOf_0 rfl (lv_at hl 0 rfl) ?_
  refine lv_istore_n (lv' := [(2, .int 3), (0, .int 3), (1, .int 0)]) hx hb dX0_bodyOf_1 rfl hl (by decide) rfl (fun ls hl => ?_)
  refine lv_iconst (v := 0) hx hb dX0_bodyOf_2 (by decide) ?_
  refine lv_istore_n (lv' := [(3, .int 0), (2, .int 3), (0, .int 3), (1, .int 0)]) hx hb dX0_bodyOf_3 rfl hl (by decide) rfl (fun ls hl => ?_)
  refine lv_iload_n hx hb dX0_bodyOf_4 rfl (lv_at hl 0 rfl) ?_
  refine lv_bipush (v := 7) hx hb dX0_bodyOf_5 (by decide) ?_
  refine lv_icmp_ge (tgt := 69) hx hb dX0_bodyOf_7 (by decide) (fun c_0 => absurd c_0 (by decide)) (fun _ => ?_)
  refine lv_iload_n hx hb dX0_bodyOf_10 rfl (lv_at hl 1 rfl) ?_
  refine lv_if_lt (tgt := 69) hx hb dX0_bodyOf_11 (by decide) (fun c_0 => absurd c_0 (by decide)) (fun _ => ?_)
  refine lv_iload_n hx hb dX0_bodyOf_14 rfl (lv_at hl 1 rfl) ?_
  refine lv_bipush (v := 7) hx hb dX0_bodyOf_15 (by decide) ?_
  refine lv_icmp_ge (tgt := 69) hx hb dX0_bodyOf_17 (by decide) (fun c_0 => absurd c_0 (by decide)) (fun _ => ?_)
  refine lv_iload_n hx hb dX0_bodyOf_20 rfl (lv_at hl 1 rfl) ?_
  refine lv_iconst (v := 3) hx hb dX0_bodyOf_21 (by decide) ?_
  refine lv_imul hx hb dX0_bodyOf_22 ?_
  refine lv_ci 9 (by decide +kernel) ?_
  refine lv_iload_n hx hb dX0_bodyOf_23 rfl (lv_at hl 3 rfl) ?_
  refine lv_iadd hx hb dX0_bodyOf_24 ?_
  refine lv_ci 9 (by decide +kernel) ?_
  refine lv_istore (lv' := [(4, .int 9), (3, .int 0), (2, .int 3), (0, .int 3), (1, .int 0)]) hx hb dX0_bodyOf_25 hl (by decide) rfl (fun ls hl => ?_)
  refine lv_iload hx hb dX0_bodyOf_27 (lv_at hl 0 rfl) ?_
  refine lv_if_lt (tgt := 57) hx hb dX0_bodyOf_29 (by decide) (fun c_0 => absurd c_0 (by decide)) (fun _ => ?_)
  refine lv_iload hx hb dX0_bodyOf_32 (lv_at hl 0 rfl) ?_
  refine va_gets hx hb hbz hS hown (hT _ wf_X0_42) (fun _ h9 => h9) dX0_bodyOf_34 ?_
  refine va_tlen hx hb hbT hS (v := 21) rfl dX0_bodyOf_37 ?_
  refine lv_icmp_ge (tgt := 57) hx hb dX0_bodyOf_38 (by decide) (fun c_0 => absurd c_0 (by decide)) (fun _ => ?_)
  refine va_gets hx hb hbz hS hown (hT _ wf_X0_42) (fun _ h9 => h9) dX0_bodyOf_41 ?_
  refine lv_iload hx hb dX0_bodyOf_44 (lv_at hl 0 rfl) ?_
  refine va_ti hx hb hbT hS (vin _ _ (by decide +kernel)) (v := .int 0) rfl dX0_bodyOf_46 ?_
  refine lv_if_eq (tgt := 57) hx hb dX0_bodyOf_47 (by decide) (fun _ => ?_) (fun c_0 => absurd (by decide) c_0)
  refine va_getsN hx hb hkz hS hown (va_Nw.use rfl (hN.get 750 kf_X0_45 rfl)) (fun _ h9 => h9) dX0_bodyOf_57 ?_
  refine lv_iload_n hx hb dX0_bodyOf_60 rfl (lv_at hl 2 rfl) ?_
  refine va_ti hx hb hkT hS (vin _ _ (by decide +kernel)) (v := .int 0) rfl dX0_bodyOf_61 ?_
  refine lv_istore_n (lv' := [(2, .int 0), (4, .int 9), (3, .int 0), (0, .int 3), (1, .int 0)]) hx hb dX0_bodyOf_62 rfl hl (by decide) rfl (fun ls hl => ?_)
  refine lv_iinc (v := 1) (lv' := [(3, .int 1), (2, .int 0), (4, .int 9), (0, .int 3), (1, .int 0)]) hx hb dX0_bodyOf_63 hl (k := 2) rfl (by decide) (by decide) rfl (fun ls hl => ?_)
  refine lv_goto (tgt := 4) hx hb dX0_bodyOf_66 (by decide) ?_
  refine lv_iload_n hx hb dX0_bodyOf_4 rfl (lv_at hl 0 rfl) ?_
  refine lv_bipush (v := 7) hx hb dX0_bodyOf_5 (by decide) ?_
  refine lv_icmp_ge (tgt := 69) hx hb dX0_bodyOf_7 (by decide) (fun c_0 => absurd c_0 (by decide)) (fun _ => ?_)
  refine lv_iload_n hx hb dX0_bodyOf_10 rfl (lv_at hl 1 rfl) ?_
  refine lv_if_lt (tgt := 69) hx hb dX0_bodyOf_11 (by decide) (fun c_0 => absurd c_0 (by decide)) (fun _ => ?_)
  refine lv_iload_n hx hb dX0_bodyOf_14 rfl (lv_at hl 1 rfl) ?_
  refine lv_bipush (v := 7) hx hb dX0_bodyOf_15 (by decide) ?_
  refine lv_icmp_ge (tgt := 69) hx hb dX0_bodyOf_17 (by decide) (fun c_0 => absurd c_0 (by decide)) (fun _ => ?_)
  refine lv_iload_n hx hb dX0_bodyOf_20 rfl (lv_at hl 1 rfl) ?_
  refine lv_iconst (v := 3) hx hb dX0_bodyOf_21 (by decide) ?_
  refine lv_imul hx hb dX0_bodyOf_22 ?_
  refine lv_ci 0 (by decide +kernel) ?_
  refine lv_iload_n hx hb dX0_bodyOf_23 rfl (lv_at hl 4 rfl) ?_
  refine lv_iadd hx hb dX0_bodyOf_24 ?_
  refine lv_ci 0 (by decide +kernel) ?_
  refine lv_istore (lv' := [(4, .int 0), (3, .int 1), (2, .int 0), (0, .int 3), (1, .int 0)]) hx hb dX0_bodyOf_25 hl (by decide) rfl (fun ls hl => ?_)
  refine lv_iload hx hb dX0_bodyOf_27 (lv_at hl 0 rfl) ?_
  refine lv_if_lt (tgt := 57) hx hb dX0_bodyOf_29 (by decide) (fun c_0 => absurd c_0 (by decide)) (fun _ => ?_)
  refine lv_iload hx hb dX0_bodyOf_32 (lv_at hl 0 rfl) ?_
  refine va_gets hx hb hbz hS hown (hT _ wf_X0_42) (fun _ h9 => h9) dX0_bodyOf_34 ?_
  refine va_tlen hx hb hbT hS (v := 21) rfl dX0_bodyOf_37 ?_
  refine lv_icmp_ge (tgt := 57) hx hb dX0_bodyOf_38 (by decide) (fun c_0 => absurd c_0 (by decide)) (fun _ => ?_)
  refine va_gets hx hb hbz hS hown (hT _ wf_X0_42) (fun _ h9 => h9) dX0_bodyOf_41 ?_
  refine lv_iload hx hb dX0_bodyOf_44 (lv_at hl 0 rfl) ?_
  refine va_ti hx hb hbT hS (vin _ _ (by decide +kernel)) (v := .int 1) rfl dX0_bodyOf_46 ?_
  refine lv_if_eq (tgt := 57) hx hb dX0_bodyOf_47 (by decide) (fun c_0 => absurd c_0 (by decide)) (fun _ => ?_)
  refine va_gets hx hb hbz hS hown (hT _ wf_X0_42) (fun _ h9 => h9) dX0_bodyOf_50 ?_
  refine lv_iload hx hb dX0_bodyOf_53 (lv_at hl 0 rfl) ?_
  refine va_ti hx hb hbT hS (vin _ _ (by decide +kernel)) (v := .int 1) rfl dX0_bodyOf_55 ?_
  exact retI C0 rfl () rfl (hP.sub (ws' := []) [] rfl) (hD.sub (ws' := []) [] (by decide) rfl) hS (Nat.le_of_ble_eq_true rfl) (Nat.le_of_ble_eq_true rfl) dX0_bodyOf_56

set_option maxHeartbeats 4000000 in
set_option maxRecDepth 100000 in
theorem c_ask_3_3_0 (l : Launch) (D : va_G) (cI cZ cQ cT : ClassId) (sz : Nat) (aa : Nat) (xx : Int32) (dp : Int32) (a1 : Nat) (rn : Int32) (sl : Int32) (vv : Int32) (fa : Nat → Int32)  : MetI l yX0_ask cX0_ask 7 .int ({ frames := 1, cells := 0, slots := 0, locals := 24 } : Room) [.ref aa, .int 3, .int 0, .int xx, .int dp] D (TYS cI cZ cQ cT) EF sz [(aa, .inr (0, [.ref a1, .int rn, .int sl, .int 3, .int vv])), (a1, .inl (cI, 20, .inl fa))] (S := Int32 × (Nat → Int32)) (fun (r : Int32) (_ : Int32 × (Nat → Int32)) => True) (fun u => [(aa, .inr (0, [.ref a1, .int u.1, .int sl, .int 3, .int vv])), (a1, .inl (cI, 20, .inl u.2))]) := by
  refine MetI.mk (lv := [(0, .ref aa), (1, .int 3), (2, .int 0), (3, .int xx), (4, .int dp)]) (by decide +kernel) (Nat.le_of_ble_eq_true rfl) rfl ?_
  intro p e s m below meth c A ls C0 hP hD hS hX hl
  have C1 := C0
  obtain ⟨hx, hb, hr, hml, hown, hlocks, hname, hT, hN, hK, hA⟩ := C1
  refine lv_iload_n hx hb dX0_ask_0 rfl (lv_at hl 1 rfl) ?_
  refine lv_iload_n hx hb dX0_ask_1 rfl (lv_at hl 2 rfl) ?_
  refine contI (wc := []) (wr := [(aa, .inr (0, [.ref a1, .int rn, .int sl, .int 3, .int vv])), (a1, .inl (cI, 20, .inl fa))]) C0 hP hD hS [] [0, 1] rfl rfl (by decide) (by decide) 0 0 (Nat.le_of_ble_eq_true rfl) (Nat.le_of_ble_eq_true rfl) (runS (k := 2) (As := [.int 3, .int 0]) (rest := []) C0 (c_bodyOf_3_0 l D cI cZ cQ cT _ ) wc_X0_bodyOf wl_X0_48 wt_X0_bodyOf wz_X0 ⟨by decide, by decide, by decide +kernel⟩ ⟨(Nat.le_of_ble_eq_true rfl), (Nat.le_of_ble_eq_true rfl)⟩ hP hD hS EF.ok hX [] rfl (by decide) rfl hl.1 rfl (Nat.le_of_ble_eq_true rfl) dX0_ask_2 ⟨(Nat.le_of_ble_eq_true rfl), (Nat.le_of_ble_eq_true rfl)⟩) (fun r_3 u_1 H locs w_2 hP hD hS => ?_)
  have hP : va_P D CL [(aa, .inr (0, [.ref a1, .int rn, .int sl, .int 3, .int vv])), (a1, .inl (cI, 20, .inl fa))] H := hP
  have hD : va_D A [(aa, .inr (0, [.ref a1, .int rn, .int sl, .int 3, .int vv])), (a1, .inl (cI, 20, .inl fa))] := hD
  obtain rfl : r_3 = 1 := w_2
  refine lv_istore (lv' := [(5, .int 1), (0, .ref aa), (1, .int 3), (2, .int 0), (3, .int xx), (4, .int dp)]) hx hb dX0_ask_5 hl (by decide) rfl (fun ls hl => ?_)
  refine lv_iload hx hb dX0_ask_7 (lv_at hl 0 rfl) ?_
  refine lv_if_eq (tgt := 19) hx hb dX0_ask_9 (by decide) (fun c_0 => absurd c_0 (by decide)) (fun _ => ?_)
  refine lv_iload hx hb dX0_ask_12 (lv_at hl 5 rfl) ?_
  refine lv_bipush (v := 40) hx hb dX0_ask_14 (by decide) ?_
  refine lv_icmp_le (tgt := 21) hx hb dX0_ask_16 (by decide) (fun c_4 => ?_) (fun c_4 => ?_)
  · refine lv_aload_n hx hb dX0_ask_21 rfl (lv_at hl 1 rfl) ?_
    refine lv_iload hx hb dX0_ask_22 (lv_at hl 0 rfl) ?_
    refine contV (wc := [(aa, .inr (0, [.ref a1, .int rn, .int sl, .int 3, .int vv])), (a1, .inl (cI, 20, .inl fa))]) (wr := []) C0 hP hD hS [0, 1] [] rfl rfl (by decide) (by decide) 0 0 (Nat.le_of_ble_eq_true rfl) (Nat.le_of_ble_eq_true rfl) (runV (k := 1) (As := [.int 1]) (rest := []) C0 (c_begin l D cI cZ cQ cT _ aa 1 a1 rn sl 3 vv fa) wc_X0_begin wl_X0_52 wi_X0_begin we_X0_begin wz_X0 ⟨by decide, by decide, by decide +kernel⟩ ⟨(Nat.le_of_ble_eq_true rfl), (Nat.le_of_ble_eq_true rfl)⟩ hP hD hS EF.ok hX [0, 1] rfl (by decide) 0 rfl rfl rfl rfl hl.1 rfl (Nat.le_of_ble_eq_true rfl) dX0_ask_24 ⟨(Nat.le_of_ble_eq_true rfl), (Nat.le_of_ble_eq_true rfl)⟩) (fun u_7 H locs w_8 hP hD hS => ?_)
    obtain ⟨rnZ_5, faZ_6⟩ := u_7
    have hP : va_P D CL [(aa, .inr (0, [.ref a1, .int rnZ_5, .int sl, .int 3, .int vv])), (a1, .inl (cI, 20, .inl faZ_6))] H := hP
    have hD : va_D A [(aa, .inr (0, [.ref a1, .int rnZ_5, .int sl, .int 3, .int vv])), (a1, .inl (cI, 20, .inl faZ_6))] := hD
    refine lv_iload hx hb dX0_ask_27 (lv_at hl 5 rfl) ?_
    refine lv_iconst (v := 1) hx hb dX0_ask_29 (by decide) ?_
    refine lv_iadd hx hb dX0_ask_30 ?_
    refine lv_istore (lv' := [(6, .int (dp + (1 : Int32))), (5, .int 1), (0, .ref aa), (1, .int 3), (2, .int 0), (3, .int xx), (4, .int dp)]) hx hb dX0_ask_31 hl (by decide) rfl (fun ls hl => ?_)
    refine lv_iload hx hb dX0_ask_33 (lv_at hl 1 rfl) ?_
    refine lv_lookup (off := 81) (tgt := 116) hx hb dX0_ask_35 (by decide) (by decide) (by decide) ?_
    refine lv_iload_n hx hb dX0_ask_116 rfl (lv_at hl 5 rfl) ?_
    refine lv_aload_n hx hb dX0_ask_117 rfl (lv_at hl 2 rfl) ?_
    refine va_get (ci := 0) (v := .int sl) (C := RX0) (T := TX0) (N := 5) hx hb hT wu_X0 hown hK hP 0 rfl rfl 2 (by decide) (hT _ wf_X0_25) (fun _ h9 => h9) rfl dX0_ask_118 ?_
    refine lv_iadd hx hb dX0_ask_121 ?_
    exact retI C0 rfl (rnZ_5, faZ_6) trivial (hP.sub (ws' := [(aa, .inr (0, [.ref a1, .int rnZ_5, .int sl, .int 3, .int vv])), (a1, .inl (cI, 20, .inl faZ_6))]) [0, 1] rfl) (hD.sub (ws' := [(aa, .inr (0, [.ref a1, .int rnZ_5, .int sl, .int 3, .int vv])), (a1, .inl (cI, 20, .inl faZ_6))]) [0, 1] (by decide) rfl) hS (Nat.le_of_ble_eq_true rfl) (Nat.le_of_ble_eq_true rfl) dX0_ask_122
  · refine lv_iconst (v := 0) hx hb dX0_ask_19 (by decide) ?_
    exact retI C0 rfl (rn, fa) trivial (hP.sub (ws' := [(aa, .inr (0, [.ref a1, .int rn, .int sl, .int 3, .int vv])), (a1, .inl (cI, 20, .inl fa))]) [0, 1] rfl) (hD.sub (ws' := [(aa, .inr (0, [.ref a1, .int rn, .int sl, .int 3, .int vv])), (a1, .inl (cI, 20, .inl fa))]) [0, 1] (by decide) rfl) hS (Nat.le_of_ble_eq_true rfl) (Nat.le_of_ble_eq_true rfl) dX0_ask_20

set_option maxHeartbeats 4000000 in
set_option maxRecDepth 100000 in
theorem c_bodyOf_4_0 (l : Launch) (D : va_G) (cI cZ cQ cT : ClassId) (sz : Nat)   : MetI l yX0_bodyOf cX0_bodyOf 5 .int ({ frames := 0, cells := 0, slots := 0, locals := 0 } : Room) [.int 4, .int 0] D (TYS cI cZ cQ cT) EF sz [] (S := Unit) (fun (r : Int32) (_ : Unit) => r = 1) (fun _ => []) := by
  refine MetI.mk (lv := [(0, .int 4), (1, .int 0)]) (by decide +kernel) (Nat.le_of_ble_eq_true rfl) rfl ?_
  intro p e s m below meth c A ls C0 hP hD hS hX hl
  have C1 := C0
  obtain ⟨hx, hb, hr, hml, hown, hlocks, hname, hT, hN, hK, hA⟩ := C1
  obtain ⟨kab, hkz, hkT⟩ := hX.2.1
  obtain ⟨bdy, hbz, hbT⟩ := hX.2.2.1
  refine lv_iload_n hx hb dX0_bodyOf_0 rfl (lv_at hl 0 rfl) ?_
  refine lv_istore_n (lv' := [(2, .int 4), (0, .int 4), (1, .int 0)]) hx hb dX0_bodyOf_1 rfl hl (by decide) rfl (fun ls hl => ?_)
  refine lv_iconst (v := 0) hx hb dX0_bodyOf_2 (by decide) ?_
  refine lv_istore_n (lv' := [(3, .int 0), (2, .int 4), (0, .int 4), (1, .int 0)]) hx hb dX0_bodyOf_3 rfl hl (by decide) rfl (fun ls hl => ?_)
  refine lv_iload_n hx hb dX0_bodyOf_4 rfl (lv_at hl 0 rfl) ?_
  refine lv_bipush (v := 7) hx hb dX0_bodyOf_5 (by decide) ?_
  refine lv_icmp_ge (tgt := 69) hx hb dX0_bodyOf_7 (by decide) (fun c_0 => absurd c_0 (by decide)) (fun _ => ?_)
  refine lv_iload_n hx hb dX0_bodyOf_10 rfl (lv_at hl 1 rfl) ?_
  refine lv_if_lt (tgt := 69) hx hb dX0_bodyOf_11 (by decide) (fun c_0 => absurd c_0 (by decide)) (fun _ => ?_)
  refine lv_iload_n hx hb dX0_bodyOf_14 rfl (lv_at hl 1 rfl) ?_
  refine lv_bipush (v := 7) hx hb dX0_bodyOf_15 (by decide) ?_
  refine lv_icmp_ge (tgt := 69) hx hb dX0_bodyOf_17 (by decide) (fun c_0 => absurd c_0 (by decide)) (fun _ => ?_)
  refine lv_iload_n hx hb dX0_bodyOf_20 rfl (lv_at hl 1 rfl) ?_
  refine lv_iconst (v := 3) hx hb dX0_bodyOf_21 (by decide) ?_
  refine lv_imul hx hb dX0_bodyOf_22 ?_
  refine lv_ci 12 (by decide +kernel) ?_
  refine lv_iload_n hx hb dX0_bodyOf_23 rfl (lv_at hl 3 rfl) ?_
  refine lv_iadd hx hb dX0_bodyOf_24 ?_
  refine lv_ci 12 (by decide +kernel) ?_
  refine lv_istore (lv' := [(4, .int 12), (3, .int 0), (2, .int 4), (0, .int 4), (1, .int 0)]) hx hb dX0_bodyOf_25 hl (by decide) rfl (fun ls hl => ?_)
  refine lv_iload hx hb dX0_bodyOf_27 (lv_at hl 0 rfl) ?_
  refine lv_if_lt (tgt := 57) hx hb dX0_bodyOf_29 (by decide) (fun c_0 => absurd c_0 (by decide)) (fun _ => ?_)
  refine lv_iload hx hb dX0_bodyOf_32 (lv_at hl 0 rfl) ?_
  refine va_gets hx hb hbz hS hown (hT _ wf_X0_42) (fun _ h9 => h9) dX0_bodyOf_34 ?_
  refine va_tlen hx hb hbT hS (v := 21) rfl dX0_bodyOf_37 ?_
  refine lv_icmp_ge (tgt := 57) hx hb dX0_bodyOf_38 (by decide) (fun c_0 => absurd c_0 (by decide)) (fun _ => ?_)
  refine va_gets hx hb hbz hS hown (hT _ wf_X0_42) (fun _ h9 => h9) dX0_bodyOf_41 ?_
  refine lv_iload hx hb dX0_bodyOf_44 (lv_at hl 0 rfl) ?_
  refine va_ti hx hb hbT hS (vin _ _ (by decide +kernel)) (v := .int 0) rfl dX0_bodyOf_46 ?_
  refine lv_if_eq (tgt := 57) hx hb dX0_bodyOf_47 (by decide) (fun _ => ?_) (fun c_0 => absurd (by decide) c_0)
  refine va_getsN hx hb hkz hS hown (va_Nw.use rfl (hN.get 750 kf_X0_45 rfl)) (fun _ h9 => h9) dX0_bodyOf_57 ?_
  refine lv_iload_n hx hb dX0_bodyOf_60 rfl (lv_at hl 2 rfl) ?_
  refine va_ti hx hb hkT hS (vin _ _ (by decide +kernel)) (v := .int 2) rfl dX0_bodyOf_61 ?_
  refine lv_istore_n (lv' := [(2, .int 2), (4, .int 12), (3, .int 0), (0, .int 4), (1, .int 0)]) hx hb dX0_bodyOf_62 rfl hl (by decide) rfl (fun ls hl => ?_)
  refine lv_iinc (v := 1) (lv' := [(3, .int 1), (2, .int 2), (4, .int 12), (0, .int 4), (1, .int 0)]) hx hb dX0_bodyOf_63 hl (k := 2) rfl (by decide) (by decide) rfl (fun ls hl => ?_)
  refine lv_goto (tgt := 4) hx hb dX0_bodyOf_66 (by decide) ?_
  refine lv_iload_n hx hb dX0_bodyOf_4 rfl (lv_at hl 0 rfl) ?_
  refine lv_bipush (v := 7) hx hb dX0_bodyOf_5 (by decide) ?_
  refine lv_icmp_ge (tgt := 69) hx hb dX0_bodyOf_7 (by decide) (fun c_0 => absurd c_0 (by decide)) (fun _ => ?_)
  refine lv_iload_n hx hb dX0_bodyOf_10 rfl (lv_at hl 1 rfl) ?_
  refine lv_if_lt (tgt := 69) hx hb dX0_bodyOf_11 (by decide) (fun c_0 => absurd c_0 (by decide)) (fun _ => ?_)
  refine lv_iload_n hx hb dX0_bodyOf_14 rfl (lv_at hl 1 rfl) ?_
  refine lv_bipush (v := 7) hx hb dX0_bodyOf_15 (by decide) ?_
  refine lv_icmp_ge (tgt := 69) hx hb dX0_bodyOf_17 (by decide) (fun c_0 => absurd c_0 (by decide)) (fun _ => ?_)
  refine lv_iload_n hx hb dX0_bodyOf_20 rfl (lv_at hl 1 rfl) ?_
  refine lv_iconst (v := 3) hx hb dX0_bodyOf_21 (by decide) ?_
  refine lv_imul hx hb dX0_bodyOf_22 ?_
  refine lv_ci 6 (by decide +kernel) ?_
  refine lv_iload_n hx hb dX0_bodyOf_23 rfl (lv_at hl 4 rfl) ?_
  refine lv_iadd hx hb dX0_bodyOf_24 ?_
  refine lv_ci 6 (by decide +kernel) ?_
  refine lv_istore (lv' := [(4, .int 6), (3, .int 1), (2, .int 2), (0, .int 4), (1, .int 0)]) hx hb dX0_bodyOf_25 hl (by decide) rfl (fun ls hl => ?_)
  refine lv_iload hx hb dX0_bodyOf_27 (lv_at hl 0 rfl) ?_
  refine lv_if_lt (tgt := 57) hx hb dX0_bodyOf_29 (by decide) (fun c_0 => absurd c_0 (by decide)) (fun _ => ?_)
  refine lv_iload hx hb dX0_bodyOf_32 (lv_at hl 0 rfl) ?_
  refine va_gets hx hb hbz hS hown (hT _ wf_X0_42) (fun _ h9 => h9) dX0_bodyOf_34 ?_
  refine va_tlen hx hb hbT hS (v := 21) rfl dX0_bodyOf_37 ?_
  refine lv_icmp_ge (tgt := 57) hx hb dX0_bodyOf_38 (by decide) (fun c_0 => absurd c_0 (by decide)) (fun _ => ?_)
  refine va_gets hx hb hbz hS hown (hT _ wf_X0_42) (fun _ h9 => h9) dX0_bodyOf_41 ?_
  refine lv_iload hx hb dX0_bodyOf_44 (lv_at hl 0 rfl) ?_
  refine va_ti hx hb hbT hS (vin _ _ (by decide +kernel)) (v := .int 0) rfl dX0_bodyOf_46 ?_
  refine lv_if_eq (tgt := 57) hx hb dX0_bodyOf_47 (by decide) (fun _ => ?_) (fun c_0 => absurd (by decide) c_0)
  refine va_getsN hx hb hkz hS hown (va_Nw.use rfl (hN.get 750 kf_X0_45 rfl)) (fun _ h9 => h9) dX0_bodyOf_57 ?_
  refine lv_iload_n hx hb dX0_bodyOf_60 rfl (lv_at hl 2 rfl) ?_
  refine va_ti hx hb hkT hS (vin _ _ (by decide +kernel)) (v := .int 0) rfl dX0_bodyOf_61 ?_
  refine lv_istore_n (lv' := [(2, .int 0), (4, .int 6), (3, .int 1), (0, .int 4), (1, .int 0)]) hx hb dX0_bodyOf_62 rfl hl (by decide) rfl (fun ls hl => ?_)
  refine lv_iinc (v := 2) (lv' := [(3, .int 2), (2, .int 0), (4, .int 6), (0, .int 4), (1, .int 0)]) hx hb dX0_bodyOf_63 hl (k := 2) rfl (by decide) (by decide) rfl (fun ls hl => ?_)
  refine lv_goto (tgt := 4) hx hb dX0_bodyOf_66 (by decide) ?_
  refine lv_iload_n hx hb dX0_bodyOf_4 rfl (lv_at hl 0 rfl) ?_
  refine lv_bipush (v := 7) hx hb dX0_bodyOf_5 (by decide) ?_
  refine lv_icmp_ge (tgt := 69) hx hb dX0_bodyOf_7 (by decide) (fun c_0 => absurd c_0 (by decide)) (fun _ => ?_)
  refine lv_iload_n hx hb dX0_bodyOf_10 rfl (lv_at hl 1 rfl) ?_
  refine lv_if_lt (tgt := 69) hx hb dX0_bodyOf_11 (by decide) (fun c_0 => absurd c_0 (by decide)) (fun _ => ?_)
  refine lv_iload_n hx hb dX0_bodyOf_14 rfl (lv_at hl 1 rfl) ?_
  refine lv_bipush (v := 7) hx hb dX0_bodyOf_15 (by decide) ?_
  refine lv_icmp_ge (tgt := 69) hx hb dX0_bodyOf_17 (by decide) (fun c_0 => absurd c_0 (by decide)) (fun _ => ?_)
  refine lv_iload_n hx hb dX0_bodyOf_20 rfl (lv_at hl 1 rfl) ?_
  refine lv_iconst (v := 3) hx hb dX0_bodyOf_21 (by decide) ?_
  refine lv_imul hx hb dX0_bodyOf_22 ?_
  refine lv_ci 0 (by decide +kernel) ?_
  refine lv_iload_n hx hb dX0_bodyOf_23 rfl (lv_at hl 4 rfl) ?_
  refine lv_iadd hx hb dX0_bodyOf_24 ?_
  refine lv_ci 0 (by decide +kernel) ?_
  refine lv_istore (lv' := [(4, .int 0), (3, .int 2), (2, .int 0), (0, .int 4), (1, .int 0)]) hx hb dX0_bodyOf_25 hl (by decide) rfl (fun ls hl => ?_)
  refine lv_iload hx hb dX0_bodyOf_27 (lv_at hl 0 rfl) ?_
  refine lv_if_lt (tgt := 57) hx hb dX0_bodyOf_29 (by decide) (fun c_0 => absurd c_0 (by decide)) (fun _ => ?_)
  refine lv_iload hx hb dX0_bodyOf_32 (lv_at hl 0 rfl) ?_
  refine va_gets hx hb hbz hS hown (hT _ wf_X0_42) (fun _ h9 => h9) dX0_bodyOf_34 ?_
  refine va_tlen hx hb hbT hS (v := 21) rfl dX0_bodyOf_37 ?_
  refine lv_icmp_ge (tgt := 57) hx hb dX0_bodyOf_38 (by decide) (fun c_0 => absurd c_0 (by decide)) (fun _ => ?_)
  refine va_gets hx hb hbz hS hown (hT _ wf_X0_42) (fun _ h9 => h9) dX0_bodyOf_41 ?_
  refine lv_iload hx hb dX0_bodyOf_44 (lv_at hl 0 rfl) ?_
  refine va_ti hx hb hbT hS (vin _ _ (by decide +kernel)) (v := .int 1) rfl dX0_bodyOf_46 ?_
  refine lv_if_eq (tgt := 57) hx hb dX0_bodyOf_47 (by decide) (fun c_0 => absurd c_0 (by decide)) (fun _ => ?_)
  refine va_gets hx hb hbz hS hown (hT _ wf_X0_42) (fun _ h9 => h9) dX0_bodyOf_50 ?_
  refine lv_iload hx hb dX0_bodyOf_53 (lv_at hl 0 rfl) ?_
  refine va_ti hx hb hbT hS (vin _ _ (by decide +kernel)) (v := .int 1) rfl dX0_bodyOf_55 ?_
  exact retI C0 rfl () rfl (hP.sub (ws' := []) [] rfl) (hD.sub (ws' := []) [] (by decide) rfl) hS (Nat.le_of_ble_eq_true rfl) (Nat.le_of_ble_eq_true rfl) dX0_bodyOf_56

set_option maxHeartbeats 4000000 in
set_option maxRecDepth 100000 in
theorem c_ask_4_4_0 (l : Launch) (D : va_G) (cI cZ cQ cT : ClassId) (sz : Nat) (aa : Nat) (xx : Int32) (dp : Int32) (a1 : Nat) (rn : Int32) (sl : Int32) (vv : Int32) (fa : Nat → Int32)  : MetI l yX0_ask cX0_ask 7 .int ({ frames := 1, cells := 0, slots := 0, locals := 24 } : Room) [.ref aa, .int 4, .int 0, .int xx, .int dp] D (TYS cI cZ cQ cT) EF sz [(aa, .inr (0, [.ref a1, .int rn, .int sl, .int 4, .int vv])), (a1, .inl (cI, 20, .inl fa))] (S := Int32 × (Nat → Int32)) (fun (r : Int32) (_ : Int32 × (Nat → Int32)) => True) (fun u => [(aa, .inr (0, [.ref a1, .int u.1, .int sl, .int 4, .int vv])), (a1, .inl (cI, 20, .inl u.2))]) := by
  refine MetI.mk (lv := [(0, .ref aa), (1, .int 4), (2, .int 0), (3, .int xx), (4, .int dp)]) (by decide +kernel) (Nat.le_of_ble_eq_true rfl) rfl ?_
  intro p e s m below meth c A ls C0 hP hD hS hX hl
  have C1 := C0
  obtain ⟨hx, hb, hr, hml, hown, hlocks, hname, hT, hN, hK, hA⟩ := C1
  refine lv_iload_n hx hb dX0_ask_0 rfl (lv_at hl 1 rfl) ?_
  refine lv_iload_n hx hb dX0_ask_1 rfl (lv_at hl 2 rfl) ?_
  refine contI (wc := []) (wr := [(aa, .inr (0, [.ref a1, .int rn, .int sl, .int 4, .int vv])), (a1, .inl (cI, 20, .inl fa))]) C0 hP hD hS [] [0, 1] rfl rfl (by decide) (by decide) 0 0 (Nat.le_of_ble_eq_true rfl) (Nat.le_of_ble_eq_true rfl) (runS (k := 2) (As := [.int 4, .int 0]) (rest := []) C0 (c_bodyOf_4_0 l D cI cZ cQ cT _ ) wc_X0_bodyOf wl_X0_48 wt_X0_bodyOf wz_X0 ⟨by decide, by decide, by decide +kernel⟩ ⟨(Nat.le_of_ble_eq_true rfl), (Nat.le_of_ble_eq_true rfl)⟩ hP hD hS EF.ok hX [] rfl (by decide) rfl hl.1 rfl (Nat.le_of_ble_eq_true rfl) dX0_ask_2 ⟨(Nat.le_of_ble_eq_true rfl), (Nat.le_of_ble_eq_true rfl)⟩) (fun r_3 u_1 H locs w_2 hP hD hS => ?_)
  have hP : va_P D CL [(aa, .inr (0, [.ref a1, .int rn, .int sl, .int 4, .int vv])), (a1, .inl (cI, 20, .inl fa))] H := hP
  have hD : va_D A [(aa, .inr (0, [.ref a1, .int rn, .int sl, .int 4, .int vv])), (a1, .inl (cI, 20, .inl fa))] := hD
  obtain rfl : r_3 = 1 := w_2
  refine lv_istore (lv' := [(5, .int 1), (0, .ref aa), (1, .int 4), (2, .int 0), (3, .int xx), (4, .int dp)]) hx hb dX0_ask_5 hl (by decide) rfl (fun ls hl => ?_)
  refine lv_iload hx hb dX0_ask_7 (lv_at hl 0 rfl) ?_
  refine lv_if_eq (tgt := 19) hx hb dX0_ask_9 (by decide) (fun c_0 => absurd c_0 (by decide)) (fun _ => ?_)
  refine lv_iload hx hb dX0_ask_12 (lv_at hl 5 rfl) ?_
  refine lv_bipush (v := 40) hx hb dX0_ask_14 (by decide) ?_
  refine lv_icmp_le (tgt := 21) hx hb dX0_ask_16 (by decide) (fun c_4 => ?_) (fun c_4 => ?_)
  · refine lv_aload_n hx hb dX0_ask_21 rfl (lv_at hl 1 rfl) ?_
    refine lv_iload hx hb dX0_ask_22 (lv_at hl 0 rfl) ?_
    refine contV (wc := [(aa, .inr (0, [.ref a1, .int rn, .int sl, .int 4, .int vv])), (a1, .inl (cI, 20, .inl fa))]) (wr := []) C0 hP hD hS [0, 1] [] rfl rfl (by decide) (by decide) 0 0 (Nat.le_of_ble_eq_true rfl) (Nat.le_of_ble_eq_true rfl) (runV (k := 1) (As := [.int 1]) (rest := []) C0 (c_begin l D cI cZ cQ cT _ aa 1 a1 rn sl 4 vv fa) wc_X0_begin wl_X0_52 wi_X0_begin we_X0_begin wz_X0 ⟨by decide, by decide, by decide +kernel⟩ ⟨(Nat.le_of_ble_eq_true rfl), (Nat.le_of_ble_eq_true rfl)⟩ hP hD hS EF.ok hX [0, 1] rfl (by decide) 0 rfl rfl rfl rfl hl.1 rfl (Nat.le_of_ble_eq_true rfl) dX0_ask_24 ⟨(Nat.le_of_ble_eq_true rfl), (Nat.le_of_ble_eq_true rfl)⟩) (fun u_7 H locs w_8 hP hD hS => ?_)
    obtain ⟨rnZ_5, faZ_6⟩ := u_7
    have hP : va_P D CL [(aa, .inr (0, [.ref a1, .int rnZ_5, .int sl, .int 4, .int vv])), (a1, .inl (cI, 20, .inl faZ_6))] H := hP
    have hD : va_D A [(aa, .inr (0, [.ref a1, .int rnZ_5, .int sl, .int 4, .int vv])), (a1, .inl (cI, 20, .inl faZ_6))] := hD
    refine lv_iload hx hb dX0_ask_27 (lv_at hl 5 rfl) ?_
    refine lv_iconst (v := 1) hx hb dX0_ask_29 (by decide) ?_
    refine lv_iadd hx hb dX0_ask_30 ?_
    refine lv_istore (lv' := [(6, .int (dp + (1 : Int32))), (5, .int 1), (0, .ref aa), (1, .int 4), (2, .int 0), (3, .int xx), (4, .int dp)]) hx hb dX0_ask_31 hl (by decide) rfl (fun ls hl => ?_)
    refine lv_iload hx hb dX0_ask_33 (lv_at hl 1 rfl) ?_
    refine lv_lookup (off := 81) (tgt := 116) hx hb dX0_ask_35 (by decide) (by decide) (by decide) ?_
    refine lv_iload_n hx hb dX0_ask_116 rfl (lv_at hl 5 rfl) ?_
    refine lv_aload_n hx hb dX0_ask_117 rfl (lv_at hl 2 rfl) ?_
    refine va_get (ci := 0) (v := .int sl) (C := RX0) (T := TX0) (N := 5) hx hb hT wu_X0 hown hK hP 0 rfl rfl 2 (by decide) (hT _ wf_X0_25) (fun _ h9 => h9) rfl dX0_ask_118 ?_
    refine lv_iadd hx hb dX0_ask_121 ?_
    exact retI C0 rfl (rnZ_5, faZ_6) trivial (hP.sub (ws' := [(aa, .inr (0, [.ref a1, .int rnZ_5, .int sl, .int 4, .int vv])), (a1, .inl (cI, 20, .inl faZ_6))]) [0, 1] rfl) (hD.sub (ws' := [(aa, .inr (0, [.ref a1, .int rnZ_5, .int sl, .int 4, .int vv])), (a1, .inl (cI, 20, .inl faZ_6))]) [0, 1] (by decide) rfl) hS (Nat.le_of_ble_eq_true rfl) (Nat.le_of_ble_eq_true rfl) dX0_ask_122
  · refine lv_iconst (v := 0) hx hb dX0_ask_19 (by decide) ?_
    exact retI C0 rfl (rn, fa) trivial (hP.sub (ws' := [(aa, .inr (0, [.ref a1, .int rn, .int sl, .int 4, .int vv])), (a1, .inl (cI, 20, .inl fa))]) [0, 1] rfl) (hD.sub (ws' := [(aa, .inr (0, [.ref a1, .int rn, .int sl, .int 4, .int vv])), (a1, .inl (cI, 20, .inl fa))]) [0, 1] (by decide) rfl) hS (Nat.le_of_ble_eq_true rfl) (Nat.le_of_ble_eq_true rfl) dX0_ask_20

set_option maxHeartbeats 4000000 in
set_option maxRecDepth 100000 in
theorem c_bodyOf_5_0 (l : Launch) (D : va_G) (cI cZ cQ cT : ClassId) (sz : Nat)   : MetI l yX0_bodyOf cX0_bodyOf 5 .int ({ frames := 0, cells := 0, slots := 0, locals := 0 } : Room) [.int 5, .int 0] D (TYS cI cZ cQ cT) EF sz [] (S := Unit) (fun (r : Int32) (_ : Unit) => r = 51) (fun _ => []) := by
  refine MetI.mk (lv := [(0, .int 5), (1, .int 0)]) (by decide +kernel) (Nat.le_of_ble_eq_true rfl) rfl ?_
  intro p e s m below meth c A ls C0 hP hD hS hX hl
  have C1 := C0
  obtain ⟨hx, hb, hr, hml, hown, hlocks, hname, hT, hN, hK, hA⟩ := C1
  obtain ⟨kab, hkz, hkT⟩ := hX.2.1
  obtain ⟨bdy, hbz, hbT⟩ := hX.2.2.1
  refine lv_iload_n hx hb dX0_bodyOf_0 rfl (lv_at hl 0 rfl) ?_
  refine lv_istore_n (lv' := [(2, .int 5), (0, .int 5), (1, .int 0)]) hx hb dX0_bodyOf_1 rfl hl (by decide) rfl (fun ls hl => ?_)
  refine lv_iconst (v := 0) hx hb dX0_bodyOf_2 (by decide) ?_
  refine lv_istore_n (lv' := [(3, .int 0), (2, .int 5), (0, .int 5), (1, .int 0)]) hx hb dX0_bodyOf_3 rfl hl (by decide) rfl (fun ls hl => ?_)
  refine lv_iload_n hx hb dX0_bodyOf_4 rfl (lv_at hl 0 rfl) ?_
  refine lv_bipush (v := 7) hx hb dX0_bodyOf_5 (by decide) ?_
  refine lv_icmp_ge (tgt := 69) hx hb dX0_bodyOf_7 (by decide) (fun c_0 => absurd c_0 (by decide)) (fun _ => ?_)
  refine lv_iload_n hx hb dX0_bodyOf_10 rfl (lv_at hl 1 rfl) ?_
  refine lv_if_lt (tgt := 69) hx hb dX0_bodyOf_11 (by decide) (fun c_0 => absurd c_0 (by decide)) (fun _ => ?_)
  refine lv_iload_n hx hb dX0_bodyOf_14 rfl (lv_at hl 1 rfl) ?_
  refine lv_bipush (v := 7) hx hb dX0_bodyOf_15 (by decide) ?_
  refine lv_icmp_ge (tgt := 69) hx hb dX0_bodyOf_17 (by decide) (fun c_0 => absurd c_0 (by decide)) (fun _ => ?_)
  refine lv_iload_n hx hb dX0_bodyOf_20 rfl (lv_at hl 1 rfl) ?_
  refine lv_iconst (v := 3) hx hb dX0_bodyOf_21 (by decide) ?_
  refine lv_imul hx hb dX0_bodyOf_22 ?_
  refine lv_ci 15 (by decide +kernel) ?_
  refine lv_iload_n hx hb dX0_bodyOf_23 rfl (lv_at hl 3 rfl) ?_
  refine lv_iadd hx hb dX0_bodyOf_24 ?_
  refine lv_ci 15 (by decide +kernel) ?_
  refine lv_istore (lv' := [(4, .int 15), (3, .int 0), (2, .int 5), (0, .int 5), (1, .int 0)]) hx hb dX0_bodyOf_25 hl (by decide) rfl (fun ls hl => ?_)
  refine lv_iload hx hb dX0_bodyOf_27 (lv_at hl 0 rfl) ?_
  refine lv_if_lt (tgt := 57) hx hb dX0_bodyOf_29 (by decide) (fun c_0 => absurd c_0 (by decide)) (fun _ => ?_)
  refine lv_iload hx hb dX0_bodyOf_32 (lv_at hl 0 rfl) ?_
  refine va_gets hx hb hbz hS hown (hT _ wf_X0_42) (fun _ h9 => h9) dX0_bodyOf_34 ?_
  refine va_tlen hx hb hbT hS (v := 21) rfl dX0_bodyOf_37 ?_
  refine lv_icmp_ge (tgt := 57) hx hb dX0_bodyOf_38 (by decide) (fun c_0 => absurd c_0 (by decide)) (fun _ => ?_)
  refine va_gets hx hb hbz hS hown (hT _ wf_X0_42) (fun _ h9 => h9) dX0_bodyOf_41 ?_
  refine lv_iload hx hb dX0_bodyOf_44 (lv_at hl 0 rfl) ?_
  refine va_ti hx hb hbT hS (vin _ _ (by decide +kernel)) (v := .int 51) rfl dX0_bodyOf_46 ?_
  refine lv_if_eq (tgt := 57) hx hb dX0_bodyOf_47 (by decide) (fun c_0 => absurd c_0 (by decide)) (fun _ => ?_)
  refine va_gets hx hb hbz hS hown (hT _ wf_X0_42) (fun _ h9 => h9) dX0_bodyOf_50 ?_
  refine lv_iload hx hb dX0_bodyOf_53 (lv_at hl 0 rfl) ?_
  refine va_ti hx hb hbT hS (vin _ _ (by decide +kernel)) (v := .int 51) rfl dX0_bodyOf_55 ?_
  exact retI C0 rfl () rfl (hP.sub (ws' := []) [] rfl) (hD.sub (ws' := []) [] (by decide) rfl) hS (Nat.le_of_ble_eq_true rfl) (Nat.le_of_ble_eq_true rfl) dX0_bodyOf_56

set_option maxHeartbeats 4000000 in
set_option maxRecDepth 100000 in
theorem c_ask_5_3_0 (l : Launch) (D : va_G) (cI cZ cQ cT : ClassId) (sz : Nat) (aa : Nat) (xx : Int32) (dp : Int32) (a1 : Nat) (rn : Int32) (sl : Int32) (vv : Int32) (fa : Nat → Int32)  : MetI l yX0_ask cX0_ask 7 .int ({ frames := 1, cells := 0, slots := 0, locals := 24 } : Room) [.ref aa, .int 3, .int 0, .int xx, .int dp] D (TYS cI cZ cQ cT) EF sz [(aa, .inr (0, [.ref a1, .int rn, .int sl, .int 5, .int vv])), (a1, .inl (cI, 20, .inl fa))] (S := Int32 × (Nat → Int32)) (fun (r : Int32) (_ : Int32 × (Nat → Int32)) => True) (fun u => [(aa, .inr (0, [.ref a1, .int u.1, .int sl, .int 5, .int vv])), (a1, .inl (cI, 20, .inl u.2))]) := by
  refine MetI.mk (lv := [(0, .ref aa), (1, .int 3), (2, .int 0), (3, .int xx), (4, .int dp)]) (by decide +kernel) (Nat.le_of_ble_eq_true rfl) rfl ?_
  intro p e s m below meth c A ls C0 hP hD hS hX hl
  have C1 := C0
  obtain ⟨hx, hb, hr, hml, hown, hlocks, hname, hT, hN, hK, hA⟩ := C1
  refine lv_iload_n hx hb dX0_ask_0 rfl (lv_at hl 1 rfl) ?_
  refine lv_iload_n hx hb dX0_ask_1 rfl (lv_at hl 2 rfl) ?_
  refine contI (wc := []) (wr := [(aa, .inr (0, [.ref a1, .int rn, .int sl, .int 5, .int vv])), (a1, .inl (cI, 20, .inl fa))]) C0 hP hD hS [] [0, 1] rfl rfl (by decide) (by decide) 0 0 (Nat.le_of_ble_eq_true rfl) (Nat.le_of_ble_eq_true rfl) (runS (k := 2) (As := [.int 3, .int 0]) (rest := []) C0 (c_bodyOf_3_0 l D cI cZ cQ cT _ ) wc_X0_bodyOf wl_X0_48 wt_X0_bodyOf wz_X0 ⟨by decide, by decide, by decide +kernel⟩ ⟨(Nat.le_of_ble_eq_true rfl), (Nat.le_of_ble_eq_true rfl)⟩ hP hD hS EF.ok hX [] rfl (by decide) rfl hl.1 rfl (Nat.le_of_ble_eq_true rfl) dX0_ask_2 ⟨(Nat.le_of_ble_eq_true rfl), (Nat.le_of_ble_eq_true rfl)⟩) (fun r_3 u_1 H locs w_2 hP hD hS => ?_)
  have hP : va_P D CL [(aa, .inr (0, [.ref a1, .int rn, .int sl, .int 5, .int vv])), (a1, .inl (cI, 20, .inl fa))] H := hP
  have hD : va_D A [(aa, .inr (0, [.ref a1, .int rn, .int sl, .int 5, .int vv])), (a1, .inl (cI, 20, .inl fa))] := hD
  obtain rfl : r_3 = 1 := w_2
  refine lv_istore (lv' := [(5, .int 1), (0, .ref aa), (1, .int 3), (2, .int 0), (3, .int xx), (4, .int dp)]) hx hb dX0_ask_5 hl (by decide) rfl (fun ls hl => ?_)
  refine lv_iload hx hb dX0_ask_7 (lv_at hl 0 rfl) ?_
  refine lv_if_eq (tgt := 19) hx hb dX0_ask_9 (by decide) (fun c_0 => absurd c_0 (by decide)) (fun _ => ?_)
  refine lv_iload hx hb dX0_ask_12 (lv_at hl 5 rfl) ?_
  refine lv_bipush (v := 40) hx hb dX0_ask_14 (by decide) ?_
  refine lv_icmp_le (tgt := 21) hx hb dX0_ask_16 (by decide) (fun c_4 => ?_) (fun c_4 => ?_)
  · refine lv_aload_n hx hb dX0_ask_21 rfl (lv_at hl 1 rfl) ?_
    refine lv_iload hx hb dX0_ask_22 (lv_at hl 0 rfl) ?_
    refine contV (wc := [(aa, .inr (0, [.ref a1, .int rn, .int sl, .int 5, .int vv])), (a1, .inl (cI, 20, .inl fa))]) (wr := []) C0 hP hD hS [0, 1] [] rfl rfl (by decide) (by decide) 0 0 (Nat.le_of_ble_eq_true rfl) (Nat.le_of_ble_eq_true rfl) (runV (k := 1) (As := [.int 1]) (rest := []) C0 (c_begin l D cI cZ cQ cT _ aa 1 a1 rn sl 5 vv fa) wc_X0_begin wl_X0_52 wi_X0_begin we_X0_begin wz_X0 ⟨by decide, by decide, by decide +kernel⟩ ⟨(Nat.le_of_ble_eq_true rfl), (Nat.le_of_ble_eq_true rfl)⟩ hP hD hS EF.ok hX [0, 1] rfl (by decide) 0 rfl rfl rfl rfl hl.1 rfl (Nat.le_of_ble_eq_true rfl) dX0_ask_24 ⟨(Nat.le_of_ble_eq_true rfl), (Nat.le_of_ble_eq_true rfl)⟩) (fun u_7 H locs w_8 hP hD hS => ?_)
    obtain ⟨rnZ_5, faZ_6⟩ := u_7
    have hP : va_P D CL [(aa, .inr (0, [.ref a1, .int rnZ_5, .int sl, .int 5, .int vv])), (a1, .inl (cI, 20, .inl faZ_6))] H := hP
    have hD : va_D A [(aa, .inr (0, [.ref a1, .int rnZ_5, .int sl, .int 5, .int vv])), (a1, .inl (cI, 20, .inl faZ_6))] := hD
    refine lv_iload hx hb dX0_ask_27 (lv_at hl 5 rfl) ?_
    refine lv_iconst (v := 1) hx hb dX0_ask_29 (by decide) ?_
    refine lv_iadd hx hb dX0_ask_30 ?_
    refine lv_istore (lv' := [(6, .int (dp + (1 : Int32))), (5, .int 1), (0, .ref aa), (1, .int 3), (2, .int 0), (3, .int xx), (4, .int dp)]) hx hb dX0_ask_31 hl (by decide) rfl (fun ls hl => ?_)
    refine lv_iload hx hb dX0_ask_33 (lv_at hl 1 rfl) ?_
    refine lv_lookup (off := 81) (tgt := 116) hx hb dX0_ask_35 (by decide) (by decide) (by decide) ?_
    refine lv_iload_n hx hb dX0_ask_116 rfl (lv_at hl 5 rfl) ?_
    refine lv_aload_n hx hb dX0_ask_117 rfl (lv_at hl 2 rfl) ?_
    refine va_get (ci := 0) (v := .int sl) (C := RX0) (T := TX0) (N := 5) hx hb hT wu_X0 hown hK hP 0 rfl rfl 2 (by decide) (hT _ wf_X0_25) (fun _ h9 => h9) rfl dX0_ask_118 ?_
    refine lv_iadd hx hb dX0_ask_121 ?_
    exact retI C0 rfl (rnZ_5, faZ_6) trivial (hP.sub (ws' := [(aa, .inr (0, [.ref a1, .int rnZ_5, .int sl, .int 5, .int vv])), (a1, .inl (cI, 20, .inl faZ_6))]) [0, 1] rfl) (hD.sub (ws' := [(aa, .inr (0, [.ref a1, .int rnZ_5, .int sl, .int 5, .int vv])), (a1, .inl (cI, 20, .inl faZ_6))]) [0, 1] (by decide) rfl) hS (Nat.le_of_ble_eq_true rfl) (Nat.le_of_ble_eq_true rfl) dX0_ask_122
  · refine lv_iconst (v := 0) hx hb dX0_ask_19 (by decide) ?_
    exact retI C0 rfl (rn, fa) trivial (hP.sub (ws' := [(aa, .inr (0, [.ref a1, .int rn, .int sl, .int 5, .int vv])), (a1, .inl (cI, 20, .inl fa))]) [0, 1] rfl) (hD.sub (ws' := [(aa, .inr (0, [.ref a1, .int rn, .int sl, .int 5, .int vv])), (a1, .inl (cI, 20, .inl fa))]) [0, 1] (by decide) rfl) hS (Nat.le_of_ble_eq_true rfl) (Nat.le_of_ble_eq_true rfl) dX0_ask_20

set_option maxHeartbeats 4000000 in
set_option maxRecDepth 100000 in
theorem c_ask_5_5_0 (l : Launch) (D : va_G) (cI cZ cQ cT : ClassId) (sz : Nat) (aa : Nat) (xx : Int32) (dp : Int32) (a1 : Nat) (rn : Int32) (sl : Int32) (vv : Int32) (fa : Nat → Int32)  : MetI l yX0_ask cX0_ask 7 .int ({ frames := 2, cells := 0, slots := 0, locals := 50 } : Room) [.ref aa, .int 5, .int 0, .int xx, .int dp] D (TYS cI cZ cQ cT) EF sz [(aa, .inr (0, [.ref a1, .int rn, .int sl, .int 5, .int vv])), (a1, .inl (cI, 20, .inl fa))] (S := Int32 × (Nat → Int32)) (fun (r : Int32) (_ : Int32 × (Nat → Int32)) => True) (fun u => [(aa, .inr (0, [.ref a1, .int u.1, .int sl, .int 5, .int vv])), (a1, .inl (cI, 20, .inl u.2))]) := by
  refine MetI.mk (lv := [(0, .ref aa), (1, .int 5), (2, .int 0), (3, .int xx), (4, .int dp)]) (by decide +kernel) (Nat.le_of_ble_eq_true rfl) rfl ?_
  intro p e s m below meth c A ls C0 hP hD hS hX hl
  have C1 := C0
  obtain ⟨hx, hb, hr, hml, hown, hlocks, hname, hT, hN, hK, hA⟩ := C1
  refine lv_iload_n hx hb dX0_ask_0 rfl (lv_at hl 1 rfl) ?_
  refine lv_iload_n hx hb dX0_ask_1 rfl (lv_at hl 2 rfl) ?_
  refine contI (wc := []) (wr := [(aa, .inr (0, [.ref a1, .int rn, .int sl, .int 5, .int vv])), (a1, .inl (cI, 20, .inl fa))]) C0 hP hD hS [] [0, 1] rfl rfl (by decide) (by decide) 0 0 (Nat.le_of_ble_eq_true rfl) (Nat.le_of_ble_eq_true rfl) (runS (k := 2) (As := [.int 5, .int 0]) (rest := []) C0 (c_bodyOf_5_0 l D cI cZ cQ cT _ ) wc_X0_bodyOf wl_X0_48 wt_X0_bodyOf wz_X0 ⟨by decide, by decide, by decide +kernel⟩ ⟨(Nat.le_of_ble_eq_true rfl), (Nat.le_of_ble_eq_true rfl)⟩ hP hD hS EF.ok hX [] rfl (by decide) rfl hl.1 rfl (Nat.le_of_ble_eq_true rfl) dX0_ask_2 ⟨(Nat.le_of_ble_eq_true rfl), (Nat.le_of_ble_eq_true rfl)⟩) (fun r_3 u_1 H locs w_2 hP hD hS => ?_)
  have hP : va_P D CL [(aa, .inr (0, [.ref a1, .int rn, .int sl, .int 5, .int vv])), (a1, .inl (cI, 20, .inl fa))] H := hP
  have hD : va_D A [(aa, .inr (0, [.ref a1, .int rn, .int sl, .int 5, .int vv])), (a1, .inl (cI, 20, .inl fa))] := hD
  obtain rfl : r_3 = 51 := w_2
  refine lv_istore (lv' := [(5, .int 51), (0, .ref aa), (1, .int 5), (2, .int 0), (3, .int xx), (4, .int dp)]) hx hb dX0_ask_5 hl (by decide) rfl (fun ls hl => ?_)
  refine lv_iload hx hb dX0_ask_7 (lv_at hl 0 rfl) ?_
  refine lv_if_eq (tgt := 19) hx hb dX0_ask_9 (by decide) (fun c_0 => absurd c_0 (by decide)) (fun _ => ?_)
  refine lv_iload hx hb dX0_ask_12 (lv_at hl 5 rfl) ?_
  refine lv_bipush (v := 40) hx hb dX0_ask_14 (by decide) ?_
  refine lv_icmp_le (tgt := 21) hx hb dX0_ask_16 (by decide) (fun c_4 => ?_) (fun c_4 => ?_)
  · refine lv_aload_n hx hb dX0_ask_21 rfl (lv_at hl 1 rfl) ?_
    refine lv_iload hx hb dX0_ask_22 (lv_at hl 0 rfl) ?_
    refine contV (wc := [(aa, .inr (0, [.ref a1, .int rn, .int sl, .int 5, .int vv])), (a1, .inl (cI, 20, .inl fa))]) (wr := []) C0 hP hD hS [0, 1] [] rfl rfl (by decide) (by decide) 0 0 (Nat.le_of_ble_eq_true rfl) (Nat.le_of_ble_eq_true rfl) (runV (k := 1) (As := [.int 51]) (rest := []) C0 (c_begin l D cI cZ cQ cT _ aa 51 a1 rn sl 5 vv fa) wc_X0_begin wl_X0_52 wi_X0_begin we_X0_begin wz_X0 ⟨by decide, by decide, by decide +kernel⟩ ⟨(Nat.le_of_ble_eq_true rfl), (Nat.le_of_ble_eq_true rfl)⟩ hP hD hS EF.ok hX [0, 1] rfl (by decide) 0 rfl rfl rfl rfl hl.1 rfl (Nat.le_of_ble_eq_true rfl) dX0_ask_24 ⟨(Nat.le_of_ble_eq_true rfl), (Nat.le_of_ble_eq_true rfl)⟩) (fun u_7 H locs w_8 hP hD hS => ?_)
    obtain ⟨rnZ_5, faZ_6⟩ := u_7
    have hP : va_P D CL [(aa, .inr (0, [.ref a1, .int rnZ_5, .int sl, .int 5, .int vv])), (a1, .inl (cI, 20, .inl faZ_6))] H := hP
    have hD : va_D A [(aa, .inr (0, [.ref a1, .int rnZ_5, .int sl, .int 5, .int vv])), (a1, .inl (cI, 20, .inl faZ_6))] := hD
    refine lv_iload hx hb dX0_ask_27 (lv_at hl 5 rfl) ?_
    refine lv_iconst (v := 1) hx hb dX0_ask_29 (by decide) ?_
    refine lv_iadd hx hb dX0_ask_30 ?_
    refine lv_istore (lv' := [(6, .int (dp + (1 : Int32))), (5, .int 51), (0, .ref aa), (1, .int 5), (2, .int 0), (3, .int xx), (4, .int dp)]) hx hb dX0_ask_31 hl (by decide) rfl (fun ls hl => ?_)
    refine lv_iload hx hb dX0_ask_33 (lv_at hl 1 rfl) ?_
    refine lv_lookup (off := 182) (tgt := 217) hx hb dX0_ask_35 (by decide) (by decide) (by decide) ?_
    refine lv_aload_n hx hb dX0_ask_217 rfl (lv_at hl 2 rfl) ?_
    refine lv_iconst (v := 3) hx hb dX0_ask_218 (by decide) ?_
    refine lv_iconst (v := 0) hx hb dX0_ask_219 (by decide) ?_
    refine lv_iload_n hx hb dX0_ask_220 rfl (lv_at hl 5 rfl) ?_
    refine lv_iload hx hb dX0_ask_221 (lv_at hl 0 rfl) ?_
    refine contI (wc := [(aa, .inr (0, [.ref a1, .int rnZ_5, .int sl, .int 5, .int vv])), (a1, .inl (cI, 20, .inl faZ_6))]) (wr := []) C0 hP hD hS [0, 1] [] rfl rfl (by decide) (by decide) 0 0 (Nat.le_of_ble_eq_true rfl) (Nat.le_of_ble_eq_true rfl) (runV (k := 4) (As := [.int 3, .int 0, .int xx, .int (dp + (1 : Int32))]) (rest := []) C0 (c_ask_5_3_0 l D cI cZ cQ cT _ aa xx (dp + (1 : Int32)) a1 rnZ_5 sl vv faZ_6) wc_X0_ask wl_X0_38 wi_X0_ask we_X0_ask wz_X0 ⟨by decide, by decide, by decide +kernel⟩ ⟨(Nat.le_of_ble_eq_true rfl), (Nat.le_of_ble_eq_true rfl)⟩ hP hD hS EF.ok hX [0, 1] rfl (by decide) 0 rfl rfl rfl rfl hl.1 rfl (Nat.le_of_ble_eq_true rfl) dX0_ask_223 ⟨(Nat.le_of_ble_eq_true rfl), (Nat.le_of_ble_eq_true rfl)⟩) (fun r_14 u_12 H locs w_13 hP hD hS => ?_)
    obtain ⟨rnZ_10, faZ_11⟩ := u_12
    have hP : va_P D CL [(aa, .inr (0, [.ref a1, .int rnZ_10, .int sl, .int 5, .int vv])), (a1, .inl (cI, 20, .inl faZ_11))] H := hP
    have hD : va_D A [(aa, .inr (0, [.ref a1, .int rnZ_10, .int sl, .int 5, .int vv])), (a1, .inl (cI, 20, .inl faZ_11))] := hD
    refine lv_aload_n hx hb dX0_ask_226 rfl (lv_at hl 2 rfl) ?_
    refine va_get (ci := 0) (v := .int sl) (C := RX0) (T := TX0) (N := 5) hx hb hT wu_X0 hown hK hP 0 rfl rfl 2 (by decide) (hT _ wf_X0_25) (fun _ h9 => h9) rfl dX0_ask_227 ?_
    refine lv_ixor hx hb dX0_ask_230 ?_
    exact retI C0 rfl (rnZ_10, faZ_11) trivial (hP.sub (ws' := [(aa, .inr (0, [.ref a1, .int rnZ_10, .int sl, .int 5, .int vv])), (a1, .inl (cI, 20, .inl faZ_11))]) [0, 1] rfl) (hD.sub (ws' := [(aa, .inr (0, [.ref a1, .int rnZ_10, .int sl, .int 5, .int vv])), (a1, .inl (cI, 20, .inl faZ_11))]) [0, 1] (by decide) rfl) hS (Nat.le_of_ble_eq_true rfl) (Nat.le_of_ble_eq_true rfl) dX0_ask_231
  · refine lv_iconst (v := 0) hx hb dX0_ask_19 (by decide) ?_
    exact retI C0 rfl (rn, fa) trivial (hP.sub (ws' := [(aa, .inr (0, [.ref a1, .int rn, .int sl, .int 5, .int vv])), (a1, .inl (cI, 20, .inl fa))]) [0, 1] rfl) (hD.sub (ws' := [(aa, .inr (0, [.ref a1, .int rn, .int sl, .int 5, .int vv])), (a1, .inl (cI, 20, .inl fa))]) [0, 1] (by decide) rfl) hS (Nat.le_of_ble_eq_true rfl) (Nat.le_of_ble_eq_true rfl) dX0_ask_20

set_option maxHeartbeats 4000000 in
set_option maxRecDepth 100000 in
theorem c_bodyOf_6_0 (l : Launch) (D : va_G) (cI cZ cQ cT : ClassId) (sz : Nat)   : MetI l yX0_bodyOf cX0_bodyOf 5 .int ({ frames := 0, cells := 0, slots := 0, locals := 0 } : Room) [.int 6, .int 0] D (TYS cI cZ cQ cT) EF sz [] (S := Unit) (fun (r : Int32) (_ : Unit) => r = 1) (fun _ => []) := by
  refine MetI.mk (lv := [(0, .int 6), (1, .int 0)]) (by decide +kernel) (Nat.le_of_ble_eq_true rfl) rfl ?_
  intro p e s m below meth c A ls C0 hP hD hS hX hl
  have C1 := C0
  obtain ⟨hx, hb, hr, hml, hown, hlocks, hname, hT, hN, hK, hA⟩ := C1
  obtain ⟨kab, hkz, hkT⟩ := hX.2.1
  obtain ⟨bdy, hbz, hbT⟩ := hX.2.2.1
  refine lv_iload_n hx hb dX0_bodyOf_0 rfl (lv_at hl 0 rfl) ?_
  refine lv_istore_n (lv' := [(2, .int 6), (0, .int 6), (1, .int 0)]) hx hb dX0_bodyOf_1 rfl hl (by decide) rfl (fun ls hl => ?_)
  refine lv_iconst (v := 0) hx hb dX0_bodyOf_2 (by decide) ?_
  refine lv_istore_n (lv' := [(3, .int 0), (2, .int 6), (0, .int 6), (1, .int 0)]) hx hb dX0_bodyOf_3 rfl hl (by decide) rfl (fun ls hl => ?_)
  refine lv_iload_n hx hb dX0_bodyOf_4 rfl (lv_at hl 0 rfl) ?_
  refine lv_bipush (v := 7) hx hb dX0_bodyOf_5 (by decide) ?_
  refine lv_icmp_ge (tgt := 69) hx hb dX0_bodyOf_7 (by decide) (fun c_0 => absurd c_0 (by decide)) (fun _ => ?_)
  refine lv_iload_n hx hb dX0_bodyOf_10 rfl (lv_at hl 1 rfl) ?_
  refine lv_if_lt (tgt := 69) hx hb dX0_bodyOf_11 (by decide) (fun c_0 => absurd c_0 (by decide)) (fun _ => ?_)
  refine lv_iload_n hx hb dX0_bodyOf_14 rfl (lv_at hl 1 rfl) ?_
  refine lv_bipush (v := 7) hx hb dX0_bodyOf_15 (by decide) ?_
  refine lv_icmp_ge (tgt := 69) hx hb dX0_bodyOf_17 (by decide) (fun c_0 => absurd c_0 (by decide)) (fun _ => ?_)
  refine lv_iload_n hx hb dX0_bodyOf_20 rfl (lv_at hl 1 rfl) ?_
  refine lv_iconst (v := 3) hx hb dX0_bodyOf_21 (by decide) ?_
  refine lv_imul hx hb dX0_bodyOf_22 ?_
  refine lv_ci 18 (by decide +kernel) ?_
  refine lv_iload_n hx hb dX0_bodyOf_23 rfl (lv_at hl 3 rfl) ?_
  refine lv_iadd hx hb dX0_bodyOf_24 ?_
  refine lv_ci 18 (by decide +kernel) ?_
  refine lv_istore (lv' := [(4, .int 18), (3, .int 0), (2, .int 6), (0, .int 6), (1, .int 0)]) hx hb dX0_bodyOf_25 hl (by decide) rfl (fun ls hl => ?_)
  refine lv_iload hx hb dX0_bodyOf_27 (lv_at hl 0 rfl) ?_
  refine lv_if_lt (tgt := 57) hx hb dX0_bodyOf_29 (by decide) (fun c_0 => absurd c_0 (by decide)) (fun _ => ?_)
  refine lv_iload hx hb dX0_bodyOf_32 (lv_at hl 0 rfl) ?_
  refine va_gets hx hb hbz hS hown (hT _ wf_X0_42) (fun _ h9 => h9) dX0_bodyOf_34 ?_
  refine va_tlen hx hb hbT hS (v := 21) rfl dX0_bodyOf_37 ?_
  refine lv_icmp_ge (tgt := 57) hx hb dX0_bodyOf_38 (by decide) (fun c_0 => absurd c_0 (by decide)) (fun _ => ?_)
  refine va_gets hx hb hbz hS hown (hT _ wf_X0_42) (fun _ h9 => h9) dX0_bodyOf_41 ?_
  refine lv_iload hx hb dX0_bodyOf_44 (lv_at hl 0 rfl) ?_
  refine va_ti hx hb hbT hS (vin _ _ (by decide +kernel)) (v := .int 0) rfl dX0_bodyOf_46 ?_
  refine lv_if_eq (tgt := 57) hx hb dX0_bodyOf_47 (by decide) (fun _ => ?_) (fun c_0 => absurd (by decide) c_0)
  refine va_getsN hx hb hkz hS hown (va_Nw.use rfl (hN.get 750 kf_X0_45 rfl)) (fun _ h9 => h9) dX0_bodyOf_57 ?_
  refine lv_iload_n hx hb dX0_bodyOf_60 rfl (lv_at hl 2 rfl) ?_
  refine va_ti hx hb hkT hS (vin _ _ (by decide +kernel)) (v := .int 3) rfl dX0_bodyOf_61 ?_
  refine lv_istore_n (lv' := [(2, .int 3), (4, .int 18), (3, .int 0), (0, .int 6), (1, .int 0)]) hx hb dX0_bodyOf_62 rfl hl (by decide) rfl (fun ls hl => ?_)
  refine lv_iinc (v := 1) (lv' := [(3, .int 1), (2, .int 3), (4, .int 18), (0, .int 6), (1, .int 0)]) hx hb dX0_bodyOf_63 hl (k := 2) rfl (by decide) (by decide) rfl (fun ls hl => ?_)
  refine lv_goto (tgt := 4) hx hb dX0_bodyOf_66 (by decide) ?_
  refine lv_iload_n hx hb dX0_bodyOf_4 rfl (lv_at hl 0 rfl) ?_
  refine lv_bipush (v := 7) hx hb dX0_bodyOf_5 (by decide) ?_
  refine lv_icmp_ge (tgt := 69) hx hb dX0_bodyOf_7 (by decide) (fun c_0 => absurd c_0 (by decide)) (fun _ => ?_)
  refine lv_iload_n hx hb dX0_bodyOf_10 rfl (lv_at hl 1 rfl) ?_
  refine lv_if_lt (tgt := 69) hx hb dX0_bodyOf_11 (by decide) (fun c_0 => absurd c_0 (by decide)) (fun _ => ?_)
  refine lv_iload_n hx hb dX0_bodyOf_14 rfl (lv_at hl 1 rfl) ?_
  refine lv_bipush (v := 7) hx hb dX0_bodyOf_15 (by decide) ?_
  refine lv_icmp_ge (tgt := 69) hx hb dX0_bodyOf_17 (by decide) (fun c_0 => absurd c_0 (by decide)) (fun _ => ?_)
  refine lv_iload_n hx hb dX0_bodyOf_20 rfl (lv_at hl 1 rfl) ?_
  refine lv_iconst (v := 3) hx hb dX0_bodyOf_21 (by decide) ?_
  refine lv_imul hx hb dX0_bodyOf_22 ?_
  refine lv_ci 9 (by decide +kernel) ?_
  refine lv_iload_n hx hb dX0_bodyOf_23 rfl (lv_at hl 4 rfl) ?_
  refine lv_iadd hx hb dX0_bodyOf_24 ?_
  refine lv_ci 9 (by decide +kernel) ?_
  refine lv_istore (lv' := [(4, .int 9), (3, .int 1), (2, .int 3), (0, .int 6), (1, .int 0)]) hx hb dX0_bodyOf_25 hl (by decide) rfl (fun ls hl => ?_)
  refine lv_iload hx hb dX0_bodyOf_27 (lv_at hl 0 rfl) ?_
  refine lv_if_lt (tgt := 57) hx hb dX0_bodyOf_29 (by decide) (fun c_0 => absurd c_0 (by decide)) (fun _ => ?_)
  refine lv_iload hx hb dX0_bodyOf_32 (lv_at hl 0 rfl) ?_
  refine va_gets hx hb hbz hS hown (hT _ wf_X0_42) (fun _ h9 => h9) dX0_bodyOf_34 ?_
  refine va_tlen hx hb hbT hS (v := 21) rfl dX0_bodyOf_37 ?_
  refine lv_icmp_ge (tgt := 57) hx hb dX0_bodyOf_38 (by decide) (fun c_0 => absurd c_0 (by decide)) (fun _ => ?_)
  refine va_gets hx hb hbz hS hown (hT _ wf_X0_42) (fun _ h9 => h9) dX0_bodyOf_41 ?_
  refine lv_iload hx hb dX0_bodyOf_44 (lv_at hl 0 rfl) ?_
  refine va_ti hx hb hbT hS (vin _ _ (by decide +kernel)) (v := .int 0) rfl dX0_bodyOf_46 ?_
  refine lv_if_eq (tgt := 57) hx hb dX0_bodyOf_47 (by decide) (fun _ => ?_) (fun c_0 => absurd (by decide) c_0)
  refine va_getsN hx hb hkz hS hown (va_Nw.use rfl (hN.get 750 kf_X0_45 rfl)) (fun _ h9 => h9) dX0_bodyOf_57 ?_
  refine lv_iload_n hx hb dX0_bodyOf_60 rfl (lv_at hl 2 rfl) ?_
  refine va_ti hx hb hkT hS (vin _ _ (by decide +kernel)) (v := .int 0) rfl dX0_bodyOf_61 ?_
  refine lv_istore_n (lv' := [(2, .int 0), (4, .int 9), (3, .int 1), (0, .int 6), (1, .int 0)]) hx hb dX0_bodyOf_62 rfl hl (by decide) rfl (fun ls hl => ?_)
  refine lv_iinc (v := 2) (lv' := [(3, .int 2), (2, .int 0), (4, .int 9), (0, .int 6), (1, .int 0)]) hx hb dX0_bodyOf_63 hl (k := 2) rfl (by decide) (by decide) rfl (fun ls hl => ?_)
  refine lv_goto (tgt := 4) hx hb dX0_bodyOf_66 (by decide) ?_
  refine lv_iload_n hx hb dX0_bodyOf_4 rfl (lv_at hl 0 rfl) ?_
  refine lv_bipush (v := 7) hx hb dX0_bodyOf_5 (by decide) ?_
  refine lv_icmp_ge (tgt := 69) hx hb dX0_bodyOf_7 (by decide) (fun c_0 => absurd c_0 (by decide)) (fun _ => ?_)
  refine lv_iload_n hx hb dX0_bodyOf_10 rfl (lv_at hl 1 rfl) ?_
  refine lv_if_lt (tgt := 69) hx hb dX0_bodyOf_11 (by decide) (fun c_0 => absurd c_0 (by decide)) (fun _ => ?_)
  refine lv_iload_n hx hb dX0_bodyOf_14 rfl (lv_at hl 1 rfl) ?_
  refine lv_bipush (v := 7) hx hb dX0_bodyOf_15 (by decide) ?_
  refine lv_icmp_ge (tgt := 69) hx hb dX0_bodyOf_17 (by decide) (fun c_0 => absurd c_0 (by decide)) (fun _ => ?_)
  refine lv_iload_n hx hb dX0_bodyOf_20 rfl (lv_at hl 1 rfl) ?_
  refine lv_iconst (v := 3) hx hb dX0_bodyOf_21 (by decide) ?_
  refine lv_imul hx hb dX0_bodyOf_22 ?_
  refine lv_ci 0 (by decide +kernel) ?_
  refine lv_iload_n hx hb dX0_bodyOf_23 rfl (lv_at hl 4 rfl) ?_
  refine lv_iadd hx hb dX0_bodyOf_24 ?_
  refine lv_ci 0 (by decide +kernel) ?_
  refine lv_istore (lv' := [(4, .int 0), (3, .int 2), (2, .int 0), (0, .int 6), (1, .int 0)]) hx hb dX0_bodyOf_25 hl (by decide) rfl (fun ls hl => ?_)
  refine lv_iload hx hb dX0_bodyOf_27 (lv_at hl 0 rfl) ?_
  refine lv_if_lt (tgt := 57) hx hb dX0_bodyOf_29 (by decide) (fun c_0 => absurd c_0 (by decide)) (fun _ => ?_)
  refine lv_iload hx hb dX0_bodyOf_32 (lv_at hl 0 rfl) ?_
  refine va_gets hx hb hbz hS hown (hT _ wf_X0_42) (fun _ h9 => h9) dX0_bodyOf_34 ?_
  refine va_tlen hx hb hbT hS (v := 21) rfl dX0_bodyOf_37 ?_
  refine lv_icmp_ge (tgt := 57) hx hb dX0_bodyOf_38 (by decide) (fun c_0 => absurd c_0 (by decide)) (fun _ => ?_)
  refine va_gets hx hb hbz hS hown (hT _ wf_X0_42) (fun _ h9 => h9) dX0_bodyOf_41 ?_
  refine lv_iload hx hb dX0_bodyOf_44 (lv_at hl 0 rfl) ?_
  refine va_ti hx hb hbT hS (vin _ _ (by decide +kernel)) (v := .int 1) rfl dX0_bodyOf_46 ?_
  refine lv_if_eq (tgt := 57) hx hb dX0_bodyOf_47 (by decide) (fun c_0 => absurd c_0 (by decide)) (fun _ => ?_)
  refine va_gets hx hb hbz hS hown (hT _ wf_X0_42) (fun _ h9 => h9) dX0_bodyOf_50 ?_
  refine lv_iload hx hb dX0_bodyOf_53 (lv_at hl 0 rfl) ?_
  refine va_ti hx hb hbT hS (vin _ _ (by decide +kernel)) (v := .int 1) rfl dX0_bodyOf_55 ?_
  exact retI C0 rfl () rfl (hP.sub (ws' := []) [] rfl) (hD.sub (ws' := []) [] (by decide) rfl) hS (Nat.le_of_ble_eq_true rfl) (Nat.le_of_ble_eq_true rfl) dX0_bodyOf_56

set_option maxHeartbeats 4000000 in
set_option maxRecDepth 100000 in
theorem c_ask_6_6_0 (l : Launch) (D : va_G) (cI cZ cQ cT : ClassId) (sz : Nat) (aa : Nat) (xx : Int32) (dp : Int32) (a1 : Nat) (rn : Int32) (sl : Int32) (vv : Int32) (fa : Nat → Int32)  : MetI l yX0_ask cX0_ask 7 .int ({ frames := 1, cells := 0, slots := 0, locals := 24 } : Room) [.ref aa, .int 6, .int 0, .int xx, .int dp] D (TYS cI cZ cQ cT) EF sz [(aa, .inr (0, [.ref a1, .int rn, .int sl, .int 6, .int vv])), (a1, .inl (cI, 20, .inl fa))] (S := Int32 × (Nat → Int32)) (fun (r : Int32) (_ : Int32 × (Nat → Int32)) => True) (fun u => [(aa, .inr (0, [.ref a1, .int u.1, .int sl, .int 6, .int vv])), (a1, .inl (cI, 20, .inl u.2))]) := by
  refine MetI.mk (lv := [(0, .ref aa), (1, .int 6), (2, .int 0), (3, .int xx), (4, .int dp)]) (by decide +kernel) (Nat.le_of_ble_eq_true rfl) rfl ?_
  intro p e s m below meth c A ls C0 hP hD hS hX hl
  have C1 := C0
  obtain ⟨hx, hb, hr, hml, hown, hlocks, hname, hT, hN, hK, hA⟩ := C1
  refine lv_iload_n hx hb dX0_ask_0 rfl (lv_at hl 1 rfl) ?_
  refine lv_iload_n hx hb dX0_ask_1 rfl (lv_at hl 2 rfl) ?_
  refine contI (wc := []) (wr := [(aa, .inr (0, [.ref a1, .int rn, .int sl, .int 6, .int vv])), (a1, .inl (cI, 20, .inl fa))]) C0 hP hD hS [] [0, 1] rfl rfl (by decide) (by decide) 0 0 (Nat.le_of_ble_eq_true rfl) (Nat.le_of_ble_eq_true rfl) (runS (k := 2) (As := [.int 6, .int 0]) (rest := []) C0 (c_bodyOf_6_0 l D cI cZ cQ cT _ ) wc_X0_bodyOf wl_X0_48 wt_X0_bodyOf wz_X0 ⟨by decide, by decide, by decide +kernel⟩ ⟨(Nat.le_of_ble_eq_true rfl), (Nat.le_of_ble_eq_true rfl)⟩ hP hD hS EF.ok hX [] rfl (by decide) rfl hl.1 rfl (Nat.le_of_ble_eq_true rfl) dX0_ask_2 ⟨(Nat.le_of_ble_eq_true rfl), (Nat.le_of_ble_eq_true rfl)⟩) (fun r_3 u_1 H locs w_2 hP hD hS => ?_)
  have hP : va_P D CL [(aa, .inr (0, [.ref a1, .int rn, .int sl, .int 6, .int vv])), (a1, .inl (cI, 20, .inl fa))] H := hP
  have hD : va_D A [(aa, .inr (0, [.ref a1, .int rn, .int sl, .int 6, .int vv])), (a1, .inl (cI, 20, .inl fa))] := hD
  obtain rfl : r_3 = 1 := w_2
  refine lv_istore (lv' := [(5, .int 1), (0, .ref aa), (1, .int 6), (2, .int 0), (3, .int xx), (4, .int dp)]) hx hb dX0_ask_5 hl (by decide) rfl (fun ls hl => ?_)
  refine lv_iload hx hb dX0_ask_7 (lv_at hl 0 rfl) ?_
  refine lv_if_eq (tgt := 19) hx hb dX0_ask_9 (by decide) (fun c_0 => absurd c_0 (by decide)) (fun _ => ?_)
  refine lv_iload hx hb dX0_ask_12 (lv_at hl 5 rfl) ?_
  refine lv_bipush (v := 40) hx hb dX0_ask_14 (by decide) ?_
  refine lv_icmp_le (tgt := 21) hx hb dX0_ask_16 (by decide) (fun c_4 => ?_) (fun c_4 => ?_)
  · refine lv_aload_n hx hb dX0_ask_21 rfl (lv_at hl 1 rfl) ?_
    refine lv_iload hx hb dX0_ask_22 (lv_at hl 0 rfl) ?_
    refine contV (wc := [(aa, .inr (0, [.ref a1, .int rn, .int sl, .int 6, .int vv])), (a1, .inl (cI, 20, .inl fa))]) (wr := []) C0 hP hD hS [0, 1] [] rfl rfl (by decide) (by decide) 0 0 (Nat.le_of_ble_eq_true rfl) (Nat.le_of_ble_eq_true rfl) (runV (k := 1) (As := [.int 1]) (rest := []) C0 (c_begin l D cI cZ cQ cT _ aa 1 a1 rn sl 6 vv fa) wc_X0_begin wl_X0_52 wi_X0_begin we_X0_begin wz_X0 ⟨by decide, by decide, by decide +kernel⟩ ⟨(Nat.le_of_ble_eq_true rfl), (Nat.le_of_ble_eq_true rfl)⟩ hP hD hS EF.ok hX [0, 1] rfl (by decide) 0 rfl rfl rfl rfl hl.1 rfl (Nat.le_of_ble_eq_true rfl) dX0_ask_24 ⟨(Nat.le_of_ble_eq_true rfl), (Nat.le_of_ble_eq_true rfl)⟩) (fun u_7 H locs w_8 hP hD hS => ?_)
    obtain ⟨rnZ_5, faZ_6⟩ := u_7
    have hP : va_P D CL [(aa, .inr (0, [.ref a1, .int rnZ_5, .int sl, .int 6, .int vv])), (a1, .inl (cI, 20, .inl faZ_6))] H := hP
    have hD : va_D A [(aa, .inr (0, [.ref a1, .int rnZ_5, .int sl, .int 6, .int vv])), (a1, .inl (cI, 20, .inl faZ_6))] := hD
    refine lv_iload hx hb dX0_ask_27 (lv_at hl 5 rfl) ?_
    refine lv_iconst (v := 1) hx hb dX0_ask_29 (by decide) ?_
    refine lv_iadd hx hb dX0_ask_30 ?_
    refine lv_istore (lv' := [(6, .int (dp + (1 : Int32))), (5, .int 1), (0, .ref aa), (1, .int 6), (2, .int 0), (3, .int xx), (4, .int dp)]) hx hb dX0_ask_31 hl (by decide) rfl (fun ls hl => ?_)
    refine lv_iload hx hb dX0_ask_33 (lv_at hl 1 rfl) ?_
    refine lv_lookup (off := 81) (tgt := 116) hx hb dX0_ask_35 (by decide) (by decide) (by decide) ?_
    refine lv_iload_n hx hb dX0_ask_116 rfl (lv_at hl 5 rfl) ?_
    refine lv_aload_n hx hb dX0_ask_117 rfl (lv_at hl 2 rfl) ?_
    refine va_get (ci := 0) (v := .int sl) (C := RX0) (T := TX0) (N := 5) hx hb hT wu_X0 hown hK hP 0 rfl rfl 2 (by decide) (hT _ wf_X0_25) (fun _ h9 => h9) rfl dX0_ask_118 ?_
    refine lv_iadd hx hb dX0_ask_121 ?_
    exact retI C0 rfl (rnZ_5, faZ_6) trivial (hP.sub (ws' := [(aa, .inr (0, [.ref a1, .int rnZ_5, .int sl, .int 6, .int vv])), (a1, .inl (cI, 20, .inl faZ_6))]) [0, 1] rfl) (hD.sub (ws' := [(aa, .inr (0, [.ref a1, .int rnZ_5, .int sl, .int 6, .int vv])), (a1, .inl (cI, 20, .inl faZ_6))]) [0, 1] (by decide) rfl) hS (Nat.le_of_ble_eq_true rfl) (Nat.le_of_ble_eq_true rfl) dX0_ask_122
  · refine lv_iconst (v := 0) hx hb dX0_ask_19 (by decide) ?_
    exact retI C0 rfl (rn, fa) trivial (hP.sub (ws' := [(aa, .inr (0, [.ref a1, .int rn, .int sl, .int 6, .int vv])), (a1, .inl (cI, 20, .inl fa))]) [0, 1] rfl) (hD.sub (ws' := [(aa, .inr (0, [.ref a1, .int rn, .int sl, .int 6, .int vv])), (a1, .inl (cI, 20, .inl fa))]) [0, 1] (by decide) rfl) hS (Nat.le_of_ble_eq_true rfl) (Nat.le_of_ble_eq_true rfl) dX0_ask_20

set_option maxHeartbeats 4000000 in
set_option maxRecDepth 100000 in
theorem c_start_0 (l : Launch) (D : va_G) (cI cZ cQ cT : ClassId) (sz : Nat) (aa : Nat) (af : Nat) (xx : Int32) (a1 : Nat) (rn : Int32) (sl : Int32) (kd : Int32) (vv : Int32) (fa : Nat → Int32) (ak : Nat) (av : Nat) (ar : Nat) (nt : Int32) (yd : Int32) (fk : Nat → Int32) (fv : Nat → Int32) (P : Nat) (pn : Nat) (hKD : KD fk) (hP4 : P ≤ 4) (hpn : pn < 4) : MetI l yX0_start cX0_start 5 .int ({ frames := 3, cells := 0, slots := 0, locals := 76 } : Room) [.ref aa, .ref af, .int (nI pn), .int 0, .int xx] D (TYS cI cZ cQ cT) EF sz [(aa, .inr (0, [.ref a1, .int rn, .int sl, .int kd, .int vv])), (a1, .inl (cI, 20, .inl fa)), (af, .inr (2, [.ref ak, .ref av, .ref ar, .int (nI P), .int nt, .int yd])), (ak, .inl (cI, 4, .inl fk)), (av, .inl (cI, 4, .inl fv))] (S := Int32 × Int32 × Int32 × Int32 × (Nat → Int32)) (fun (r : Int32) (_ : Int32 × Int32 × Int32 × Int32 × (Nat → Int32)) => True) (fun u => [(aa, .inr (0, [.ref a1, .int u.1, .int u.2.1, .int u.2.2.1, .int u.2.2.2.1])), (a1, .inl (cI, 20, .inl u.2.2.2.2)), (af, .inr (2, [.ref ak, .ref av, .ref ar, .int (nI P), .int nt, .int yd])), (ak, .inl (cI, 4, .inl fk)), (av, .inl (cI, 4, .inl fv))]) := by
  refine MetI.mk (lv := [(0, .ref aa), (1, .ref af), (2, .int (nI pn)), (3, .int 0), (4, .int xx)]) (by decide +kernel) (Nat.le_of_ble_eq_true rfl) rfl ?_
  intro p e s m below meth c A ls C0 hP hD hS hX hl
  have C1 := C0
  obtain ⟨hx, hb, hr, hml, hown, hlocks, hname, hT, hN, hK, hA⟩ := C1
  have hd8 := d8_le hP4; have hd0 := d8_pos P
  refine lv_aload_n hx hb dX0_start_0 rfl (lv_at hl 1 rfl) ?_
  refine lv_iload_n hx hb dX0_start_1 rfl (lv_at hl 2 rfl) ?_
  refine contI (wc := [(af, .inr (2, [.ref ak, .ref av, .ref ar, .int (nI P), .int nt, .int yd]))]) (wr := [(aa, .inr (0, [.ref a1, .int rn, .int sl, .int kd, .int vv])), (a1, .inl (cI, 20, .inl fa)), (ak, .inl (cI, 4, .inl fk)), (av, .inl (cI, 4, .inl fv))]) C0 hP hD hS [2] [0, 1, 3, 4] rfl rfl (by decide) (by decide) 0 0 (Nat.le_of_ble_eq_true rfl) (Nat.le_of_ble_eq_true rfl) (runVN (k := 1) (As := [.int (nI pn)]) (rest := []) "DayKnown" 740 C0 (c_has l D cI cZ cQ cT _ af (nI pn) ak av ar nt yd P (by omega)) wc_X2_has kl_X0_19 wi_X2_has we_X2_has wz_X2 ⟨by decide, by decide, by decide +kernel⟩ ⟨(Nat.le_of_ble_eq_true rfl), (Nat.le_of_ble_eq_true rfl)⟩ hP hD hS EF.ok hX [2] rfl (by decide) 2 rfl rfl rfl rfl hl.1 rfl (Nat.le_of_ble_eq_true rfl) dX0_start_2 ⟨(Nat.le_of_ble_eq_true rfl), (Nat.le_of_ble_eq_true rfl)⟩) (fun r_3 u_1 H locs w_2 hP hD hS => ?_)
  have hP : va_P D CL [(aa, .inr (0, [.ref a1, .int rn, .int sl, .int kd, .int vv])), (a1, .inl (cI, 20, .inl fa)), (ak, .inl (cI, 4, .inl fk)), (av, .inl (cI, 4, .inl fv)), (af, .inr (2, [.ref ak, .ref av, .ref ar, .int (nI P), .int nt, .int yd]))] H := hP
  have hD : va_D A [(aa, .inr (0, [.ref a1, .int rn, .int sl, .int kd, .int vv])), (a1, .inl (cI, 20, .inl fa)), (ak, .inl (cI, 4, .inl fk)), (av, .inl (cI, 4, .inl fv)), (af, .inr (2, [.ref ak, .ref av, .ref ar, .int (nI P), .int nt, .int yd]))] := hD
  refine (Decidable.em ((0 ≤ (nI pn) ∧ (nI pn) < nI P))).elim (fun c_4 => ?_) (fun c_4 => ?_)
  · obtain rfl : r_3 = 1 := w_2.trans (if_pos c_4)
    have hpn_5 : pn < P := (nI_ltI (a := pn) (b := P) (by omega) (by omega)).mp c_4.2
    refine lv_if_ne (tgt := 10) hx hb dX0_start_5 (by decide) (fun _ => ?_) (fun c_0 => absurd c_0 (by decide))
    refine lv_aload_n hx hb dX0_start_10 rfl (lv_at hl 0 rfl) ?_
    refine lv_iload_n hx hb dX0_start_11 rfl (lv_at hl 2 rfl) ?_
    refine va_put (ci := 0) (v := .int (nI pn)) (ty := .int) (C := RX0) (T := TX0) (N := 5) hx hb hT wu_X0 tyX0 tyX0_ok nmX0 hown hK hP hD hS 0 rfl rfl 2 (by decide) (hT _ wf_X0_25) (fun _ h9 => h9) rfl (by decide +kernel) rfl rfl (Nat.le_of_ble_eq_true rfl) dX0_start_12 (fun H locs hP hD hS => ?_)
    have hP : va_P D CL [(aa, .inr (0, [.ref a1, .int rn, .int (nI pn), .int kd, .int vv])), (a1, .inl (cI, 20, .inl fa)), (ak, .inl (cI, 4, .inl fk)), (av, .inl (cI, 4, .inl fv)), (af, .inr (2, [.ref ak, .ref av, .ref ar, .int (nI P), .int nt, .int yd]))] H := hP
    have hD : va_D A [(aa, .inr (0, [.ref a1, .int rn, .int (nI pn), .int kd, .int vv])), (a1, .inl (cI, 20, .inl fa)), (ak, .inl (cI, 4, .inl fk)), (av, .inl (cI, 4, .inl fv)), (af, .inr (2, [.ref ak, .ref av, .ref ar, .int (nI P), .int nt, .int yd]))] := hD
    refine lv_aload_n hx hb dX0_start_15 rfl (lv_at hl 0 rfl) ?_
    refine lv_aload_n hx hb dX0_start_16 rfl (lv_at hl 1 rfl) ?_
    refine va_getN (ci := 2) (v := .ref ak) (C := RX2) (T := TX2) (N := 6) hx hb hT wu_X2 hown hK hP 4 rfl rfl 0 (by decide) (va_Nw.use rfl (hN.get 133 kf_X0_28 rfl)) (fun _ h9 => h9) rfl dX0_start_17 ?_
    refine lv_iload_n hx hb dX0_start_20 rfl (lv_at hl 2 rfl) ?_
    refine va_iald hx hb hK hP 2 0 rfl rfl (vp_in_nI (n := pn) (by omega) (by decide)) dX0_start_21 ?_
    refine lv_ci (fk pn) (congrArg fk (nI_clamp (n := pn) (by omega))) ?_
    obtain ⟨kk_6, hkk_7, ekk_8⟩ := hKD (pn) (by omega)
    refine lv_ci (nI kk_6) ekk_8 ?_
    rcases (show kk_6 = 0 ∨ kk_6 = 1 ∨ kk_6 = 2 ∨ kk_6 = 3 ∨ kk_6 = 4 ∨ kk_6 = 5 ∨ kk_6 = 6 by omega) with hk7_9 | hk7_9 | hk7_9 | hk7_9 | hk7_9 | hk7_9 | hk7_9
    · skip
      refine lv_ci 0 (by rw [hk7_9]; rfl) ?_
      refine va_put (ci := 0) (v := .int 0) (ty := .int) (C := RX0) (T := TX0) (N := 5) hx hb hT wu_X0 tyX0 tyX0_ok nmX0 hown hK hP hD hS 0 rfl rfl 3 (by decide) (hT _ wf_X0_31) (fun _ h9 => h9) rfl (by decide +kernel) rfl rfl (Nat.le_of_ble_eq_true rfl) dX0_start_22 (fun H locs hP hD hS => ?_)
      have hP : va_P D CL [(aa, .inr (0, [.ref a1, .int rn, .int (nI pn), .int 0, .int vv])), (a1, .inl (cI, 20, .inl fa)), (ak, .inl (cI, 4, .inl fk)), (av, .inl (cI, 4, .inl fv)), (af, .inr (2, [.ref ak, .ref av, .ref ar, .int (nI P), .int nt, .int yd]))] H := hP
      have hD : va_D A [(aa, .inr (0, [.ref a1, .int rn, .int (nI pn), .int 0, .int vv])), (a1, .inl (cI, 20, .inl fa)), (ak, .inl (cI, 4, .inl fk)), (av, .inl (cI, 4, .inl fv)), (af, .inr (2, [.ref ak, .ref av, .ref ar, .int (nI P), .int nt, .int yd]))] := hD
      refine lv_aload_n hx hb dX0_start_25 rfl (lv_at hl 0 rfl) ?_
      refine lv_aload_n hx hb dX0_start_26 rfl (lv_at hl 1 rfl) ?_
      refine va_getN (ci := 2) (v := .ref av) (C := RX2) (T := TX2) (N := 6) hx hb hT wu_X2 hown hK hP 4 rfl rfl 1 (by decide) (va_Nw.use rfl (hN.get 137 kf_X0_33 rfl)) (fun _ h9 => h9) rfl dX0_start_27 ?_
      refine lv_iload_n hx hb dX0_start_30 rfl (lv_at hl 2 rfl) ?_
      refine va_iald hx hb hK hP 3 0 rfl rfl (vp_in_nI (n := pn) (by omega) (by decide)) dX0_start_31 ?_
      refine lv_ci (fv pn) (congrArg fv (nI_clamp (n := pn) (by omega))) ?_
      refine va_put (ci := 0) (v := .int (fv pn)) (ty := .int) (C := RX0) (T := TX0) (N := 5) hx hb hT wu_X0 tyX0 tyX0_ok nmX0 hown hK hP hD hS 0 rfl rfl 4 (by decide) (hT _ wf_X0_36) (fun _ h9 => h9) rfl (by decide +kernel) rfl rfl (Nat.le_of_ble_eq_true rfl) dX0_start_32 (fun H locs hP hD hS => ?_)
      have hP : va_P D CL [(aa, .inr (0, [.ref a1, .int rn, .int (nI pn), .int 0, .int (fv pn)])), (a1, .inl (cI, 20, .inl fa)), (ak, .inl (cI, 4, .inl fk)), (av, .inl (cI, 4, .inl fv)), (af, .inr (2, [.ref ak, .ref av, .ref ar, .int (nI P), .int nt, .int yd]))] H := hP
      have hD : va_D A [(aa, .inr (0, [.ref a1, .int rn, .int (nI pn), .int 0, .int (fv pn)])), (a1, .inl (cI, 20, .inl fa)), (ak, .inl (cI, 4, .inl fk)), (av, .inl (cI, 4, .inl fv)), (af, .inr (2, [.ref ak, .ref av, .ref ar, .int (nI P), .int nt, .int yd]))] := hD
      refine lv_aload_n hx hb dX0_start_35 rfl (lv_at hl 0 rfl) ?_
      refine lv_aload_n hx hb dX0_start_36 rfl (lv_at hl 0 rfl) ?_
      refine va_get (ci := 0) (v := .int 0) (C := RX0) (T := TX0) (N := 5) hx hb hT wu_X0 hown hK hP 0 rfl rfl 3 (by decide) (hT _ wf_X0_31) (fun _ h9 => h9) rfl dX0_start_37 ?_
      refine lv_iload_n hx hb dX0_start_40 rfl (lv_at hl 3 rfl) ?_
      refine lv_iload hx hb dX0_start_41 (lv_at hl 4 rfl) ?_
      refine lv_iconst (v := 0) hx hb dX0_start_43 (by decide) ?_
      refine contI (wc := [(aa, .inr (0, [.ref a1, .int rn, .int (nI pn), .int 0, .int (fv pn)])), (a1, .inl (cI, 20, .inl fa))]) (wr := [(ak, .inl (cI, 4, .inl fk)), (av, .inl (cI, 4, .inl fv)), (af, .inr (2, [.ref ak, .ref av, .ref ar, .int (nI P), .int nt, .int yd]))]) C0 hP hD hS [0, 1] [2, 3, 4] rfl rfl (by decide) (by decide) 0 0 (Nat.le_of_ble_eq_true rfl) (Nat.le_of_ble_eq_true rfl) (runV (k := 4) (As := [.int 0, .int 0, .int xx, .int 0]) (rest := []) C0 (c_ask_0_0_0 l D cI cZ cQ cT _ aa xx 0 a1 rn (nI pn) (fv pn) fa) wc_X0_ask wl_X0_38 wi_X0_ask we_X0_ask wz_X0 ⟨by decide, by decide, by decide +kernel⟩ ⟨(Nat.le_of_ble_eq_true rfl), (Nat.le_of_ble_eq_true rfl)⟩ hP hD hS EF.ok hX [0, 1] rfl (by decide) 0 rfl rfl rfl rfl hl.1 rfl (Nat.le_of_ble_eq_true rfl) dX0_start_44 ⟨(Nat.le_of_ble_eq_true rfl), (Nat.le_of_ble_eq_true rfl)⟩) (fun r_14 u_12 H locs w_13 hP hD hS => ?_)
      obtain ⟨rnZ_10, faZ_11⟩ := u_12
      have hP : va_P D CL [(ak, .inl (cI, 4, .inl fk)), (av, .inl (cI, 4, .inl fv)), (af, .inr (2, [.ref ak, .ref av, .ref ar, .int (nI P), .int nt, .int yd])), (aa, .inr (0, [.ref a1, .int rnZ_10, .int (nI pn), .int 0, .int (fv pn)])), (a1, .inl (cI, 20, .inl faZ_11))] H := hP
      have hD : va_D A [(ak, .inl (cI, 4, .inl fk)), (av, .inl (cI, 4, .inl fv)), (af, .inr (2, [.ref ak, .ref av, .ref ar, .int (nI P), .int nt, .int yd])), (aa, .inr (0, [.ref a1, .int rnZ_10, .int (nI pn), .int 0, .int (fv pn)])), (a1, .inl (cI, 20, .inl faZ_11))] := hD
      exact retI C0 rfl (rnZ_10, (nI pn), 0, (fv pn), faZ_11) trivial (hP.sub (ws' := [(aa, .inr (0, [.ref a1, .int rnZ_10, .int (nI pn), .int 0, .int (fv pn)])), (a1, .inl (cI, 20, .inl faZ_11)), (af, .inr (2, [.ref ak, .ref av, .ref ar, .int (nI P), .int nt, .int yd])), (ak, .inl (cI, 4, .inl fk)), (av, .inl (cI, 4, .inl fv))]) [3, 4, 2, 0, 1] rfl) (hD.sub (ws' := [(aa, .inr (0, [.ref a1, .int rnZ_10, .int (nI pn), .int 0, .int (fv pn)])), (a1, .inl (cI, 20, .inl faZ_11)), (af, .inr (2, [.ref ak, .ref av, .ref ar, .int (nI P), .int nt, .int yd])), (ak, .inl (cI, 4, .inl fk)), (av, .inl (cI, 4, .inl fv))]) [3, 4, 2, 0, 1] (by decide) rfl) hS (Nat.le_of_ble_eq_true rfl) (Nat.le_of_ble_eq_true rfl) dX0_start_47
    · skip
      refine lv_ci 1 (by rw [hk7_9]; rfl) ?_
      refine va_put (ci := 0) (v := .int 1) (ty := .int) (C := RX0) (T := TX0) (N := 5) hx hb hT wu_X0 tyX0 tyX0_ok nmX0 hown hK hP hD hS 0 rfl rfl 3 (by decide) (hT _ wf_X0_31) (fun _ h9 => h9) rfl (by decide +kernel) rfl rfl (Nat.le_of_ble_eq_true rfl) dX0_start_22 (fun H locs hP hD hS => ?_)
      have hP : va_P D CL [(aa, .inr (0, [.ref a1, .int rn, .int (nI pn), .int 1, .int vv])), (a1, .inl (cI, 20, .inl fa)), (ak, .inl (cI, 4, .inl fk)), (av, .inl (cI, 4, .inl fv)), (af, .inr (2, [.ref ak, .ref av, .ref ar, .int (nI P), .int nt, .int yd]))] H := hP
      have hD : va_D A [(aa, .inr (0, [.ref a1, .int rn, .int (nI pn), .int 1, .int vv])), (a1, .inl (cI, 20, .inl fa)), (ak, .inl (cI, 4, .inl fk)), (av, .inl (cI, 4, .inl fv)), (af, .inr (2, [.ref ak, .ref av, .ref ar, .int (nI P), .int nt, .int yd]))] := hD
      refine lv_aload_n hx hb dX0_start_25 rfl (lv_at hl 0 rfl) ?_
      refine lv_aload_n hx hb dX0_start_26 rfl (lv_at hl 1 rfl) ?_
      refine va_getN (ci := 2) (v := .ref av) (C := RX2) (T := TX2) (N := 6) hx hb hT wu_X2 hown hK hP 4 rfl rfl 1 (by decide) (va_Nw.use rfl (hN.get 137 kf_X0_33 rfl)) (fun _ h9 => h9) rfl dX0_start_27 ?_
      refine lv_iload_n hx hb dX0_start_30 rfl (lv_at hl 2 rfl) ?_
      refine va_iald hx hb hK hP 3 0 rfl rfl (vp_in_nI (n := pn) (by omega) (by decide)) dX0_start_31 ?_
      refine lv_ci (fv pn) (congrArg fv (nI_clamp (n := pn) (by omega))) ?_
      refine va_put (ci := 0) (v := .int (fv pn)) (ty := .int) (C := RX0) (T := TX0) (N := 5) hx hb hT wu_X0 tyX0 tyX0_ok nmX0 hown hK hP hD hS 0 rfl rfl 4 (by decide) (hT _ wf_X0_36) (fun _ h9 => h9) rfl (by decide +kernel) rfl rfl (Nat.le_of_ble_eq_true rfl) dX0_start_32 (fun H locs hP hD hS => ?_)
      have hP : va_P D CL [(aa, .inr (0, [.ref a1, .int rn, .int (nI pn), .int 1, .int (fv pn)])), (a1, .inl (cI, 20, .inl fa)), (ak, .inl (cI, 4, .inl fk)), (av, .inl (cI, 4, .inl fv)), (af, .inr (2, [.ref ak, .ref av, .ref ar, .int (nI P), .int nt, .int yd]))] H := hP
      have hD : va_D A [(aa, .inr (0, [.ref a1, .int rn, .int (nI pn), .int 1, .int (fv pn)])), (a1, .inl (cI, 20, .inl fa)), (ak, .inl (cI, 4, .inl fk)), (av, .inl (cI, 4, .inl fv)), (af, .inr (2, [.ref ak, .ref av, .ref ar, .int (nI P), .int nt, .int yd]))] := hD
      refine lv_aload_n hx hb dX0_start_35 rfl (lv_at hl 0 rfl) ?_
      refine lv_aload_n hx hb dX0_start_36 rfl (lv_at hl 0 rfl) ?_
      refine va_get (ci := 0) (v := .int 1) (C := RX0) (T := TX0) (N := 5) hx hb hT wu_X0 hown hK hP 0 rfl rfl 3 (by decide) (hT _ wf_X0_31) (fun _ h9 => h9) rfl dX0_start_37 ?_
      refine lv_iload_n hx hb dX0_start_40 rfl (lv_at hl 3 rfl) ?_
      refine lv_iload hx hb dX0_start_41 (lv_at hl 4 rfl) ?_
      refine lv_iconst (v := 0) hx hb dX0_start_43 (by decide) ?_
      refine contI (wc := [(aa, .inr (0, [.ref a1, .int rn, .int (nI pn), .int 1, .int (fv pn)])), (a1, .inl (cI, 20, .inl fa))]) (wr := [(ak, .inl (cI, 4, .inl fk)), (av, .inl (cI, 4, .inl fv)), (af, .inr (2, [.ref ak, .ref av, .ref ar, .int (nI P), .int nt, .int yd]))]) C0 hP hD hS [0, 1] [2, 3, 4] rfl rfl (by decide) (by decide) 0 0 (Nat.le_of_ble_eq_true rfl) (Nat.le_of_ble_eq_true rfl) (runV (k := 4) (As := [.int 1, .int 0, .int xx, .int 0]) (rest := []) C0 (c_ask_1_1_0 l D cI cZ cQ cT _ aa xx 0 a1 rn (nI pn) (fv pn) fa) wc_X0_ask wl_X0_38 wi_X0_ask we_X0_ask wz_X0 ⟨by decide, by decide, by decide +kernel⟩ ⟨(Nat.le_of_ble_eq_true rfl), (Nat.le_of_ble_eq_true rfl)⟩ hP hD hS EF.ok hX [0, 1] rfl (by decide) 0 rfl rfl rfl rfl hl.1 rfl (Nat.le_of_ble_eq_true rfl) dX0_start_44 ⟨(Nat.le_of_ble_eq_true rfl), (Nat.le_of_ble_eq_true rfl)⟩) (fun r_19 u_17 H locs w_18 hP hD hS => ?_)
      obtain ⟨rnZ_15, faZ_16⟩ := u_17
      have hP : va_P D CL [(ak, .inl (cI, 4, .inl fk)), (av, .inl (cI, 4, .inl fv)), (af, .inr (2, [.ref ak, .ref av, .ref ar, .int (nI P), .int nt, .int yd])), (aa, .inr (0, [.ref a1, .int rnZ_15, .int (nI pn), .int 1, .int (fv pn)])), (a1, .inl (cI, 20, .inl faZ_16))] H := hP
      have hD : va_D A [(ak, .inl (cI, 4, .inl fk)), (av, .inl (cI, 4, .inl fv)), (af, .inr (2, [.ref ak, .ref av, .ref ar, .int (nI P), .int nt, .int yd])), (aa, .inr (0, [.ref a1, .int rnZ_15, .int (nI pn), .int 1, .int (fv pn)])), (a1, .inl (cI, 20, .inl faZ_16))] := hD
      exact retI C0 rfl (rnZ_15, (nI pn), 1, (fv pn), faZ_16) trivial (hP.sub (ws' := [(aa, .inr (0, [.ref a1, .int rnZ_15, .int (nI pn), .int 1, .int (fv pn)])), (a1, .inl (cI, 20, .inl faZ_16)), (af, .inr (2, [.ref ak, .ref av, .ref ar, .int (nI P), .int nt, .int yd])), (ak, .inl (cI, 4, .inl fk)), (av, .inl (cI, 4, .inl fv))]) [3, 4, 2, 0, 1] rfl) (hD.sub (ws' := [(aa, .inr (0, [.ref a1, .int rnZ_15, .int (nI pn), .int 1, .int (fv pn)])), (a1, .inl (cI, 20, .inl faZ_16)), (af, .inr (2, [.ref ak, .ref av, .ref ar, .int (nI P), .int nt, .int yd])), (ak, .inl (cI, 4, .inl fk)), (av, .inl (cI, 4, .inl fv))]) [3, 4, 2, 0, 1] (by decide) rfl) hS (Nat.le_of_ble_eq_true rfl) (Nat.le_of_ble_eq_true rfl) dX0_start_47
    · skip
      refine lv_ci 2 (by rw [hk7_9]; rfl) ?_
      refine va_put (ci := 0) (v := .int 2) (ty := .int) (C := RX0) (T := TX0) (N := 5) hx hb hT wu_X0 tyX0 tyX0_ok nmX0 hown hK hP hD hS 0 rfl rfl 3 (by decide) (hT _ wf_X0_31) (fun _ h9 => h9) rfl (by decide +kernel) rfl rfl (Nat.le_of_ble_eq_true rfl) dX0_start_22 (fun H locs hP hD hS => ?_)
      have hP : va_P D CL [(aa, .inr (0, [.ref a1, .int rn, .int (nI pn), .int 2, .int vv])), (a1, .inl (cI, 20, .inl fa)), (ak, .inl (cI, 4, .inl fk)), (av, .inl (cI, 4, .inl fv)), (af, .inr (2, [.ref ak, .ref av, .ref ar, .int (nI P), .int nt, .int yd]))] H := hP
      have hD : va_D A [(aa, .inr (0, [.ref a1, .int rn, .int (nI pn), .int 2, .int vv])), (a1, .inl (cI, 20, .inl fa)), (ak, .inl (cI, 4, .inl fk)), (av, .inl (cI, 4, .inl fv)), (af, .inr (2, [.ref ak, .ref av, .ref ar, .int (nI P), .int nt, .int yd]))] := hD
      refine lv_aload_n hx hb dX0_start_25 rfl (lv_at hl 0 rfl) ?_
      refine lv_aload_n hx hb dX0_start_26 rfl (lv_at hl 1 rfl) ?_
      refine va_getN (ci := 2) (v := .ref av) (C := RX2) (T := TX2) (N := 6) hx hb hT wu_X2 hown hK hP 4 rfl rfl 1 (by decide) (va_Nw.use rfl (hN.get 137 kf_X0_33 rfl)) (fun _ h9 => h9) rfl dX0_start_27 ?_
      refine lv_iload_n hx hb dX0_start_30 rfl (lv_at hl 2 rfl) ?_
      refine va_iald hx hb hK hP 3 0 rfl rfl (vp_in_nI (n := pn) (by omega) (by decide)) dX0_start_31 ?_
      refine lv_ci (fv pn) (congrArg fv (nI_clamp (n := pn) (by omega))) ?_
      refine va_put (ci := 0) (v := .int (fv pn)) (ty := .int) (C := RX0) (T := TX0) (N := 5) hx hb hT wu_X0 tyX0 tyX0_ok nmX0 hown hK hP hD hS 0 rfl rfl 4 (by decide) (hT _ wf_X0_36) (fun _ h9 => h9) rfl (by decide +kernel) rfl rfl (Nat.le_of_ble_eq_true rfl) dX0_start_32 (fun H locs hP hD hS => ?_)
      have hP : va_P D CL [(aa, .inr (0, [.ref a1, .int rn, .int (nI pn), .int 2, .int (fv pn)])), (a1, .inl (cI, 20, .inl fa)), (ak, .inl (cI, 4, .inl fk)), (av, .inl (cI, 4, .inl fv)), (af, .inr (2, [.ref ak, .ref av, .ref ar, .int (nI P), .int nt, .int yd]))] H := hP
      have hD : va_D A [(aa, .inr (0, [.ref a1, .int rn, .int (nI pn), .int 2, .int (fv pn)])), (a1, .inl (cI, 20, .inl fa)), (ak, .inl (cI, 4, .inl fk)), (av, .inl (cI, 4, .inl fv)), (af, .inr (2, [.ref ak, .ref av, .ref ar, .int (nI P), .int nt, .int yd]))] := hD
      refine lv_aload_n hx hb dX0_start_35 rfl (lv_at hl 0 rfl) ?_
      refine lv_aload_n hx hb dX0_start_36 rfl (lv_at hl 0 rfl) ?_
      refine va_get (ci := 0) (v := .int 2) (C := RX0) (T := TX0) (N := 5) hx hb hT wu_X0 hown hK hP 0 rfl rfl 3 (by decide) (hT _ wf_X0_31) (fun _ h9 => h9) rfl dX0_start_37 ?_
      refine lv_iload_n hx hb dX0_start_40 rfl (lv_at hl 3 rfl) ?_
      refine lv_iload hx hb dX0_start_41 (lv_at hl 4 rfl) ?_
      refine lv_iconst (v := 0) hx hb dX0_start_43 (by decide) ?_
      refine contI (wc := [(aa, .inr (0, [.ref a1, .int rn, .int (nI pn), .int 2, .int (fv pn)])), (a1, .inl (cI, 20, .inl fa))]) (wr := [(ak, .inl (cI, 4, .inl fk)), (av, .inl (cI, 4, .inl fv)), (af, .inr (2, [.ref ak, .ref av, .ref ar, .int (nI P), .int nt, .int yd]))]) C0 hP hD hS [0, 1] [2, 3, 4] rfl rfl (by decide) (by decide) 0 0 (Nat.le_of_ble_eq_true rfl) (Nat.le_of_ble_eq_true rfl) (runV (k := 4) (As := [.int 2, .int 0, .int xx, .int 0]) (rest := []) C0 (c_ask_2_2_0 l D cI cZ cQ cT _ aa xx 0 a1 rn (nI pn) (fv pn) fa) wc_X0_ask wl_X0_38 wi_X0_ask we_X0_ask wz_X0 ⟨by decide, by decide, by decide +kernel⟩ ⟨(Nat.le_of_ble_eq_true rfl), (Nat.le_of_ble_eq_true rfl)⟩ hP hD hS EF.ok hX [0, 1] rfl (by decide) 0 rfl rfl rfl rfl hl.1 rfl (Nat.le_of_ble_eq_true rfl) dX0_start_44 ⟨(Nat.le_of_ble_eq_true rfl), (Nat.le_of_ble_eq_true rfl)⟩) (fun r_24 u_22 H locs w_23 hP hD hS => ?_)
      obtain ⟨rnZ_20, faZ_21⟩ := u_22
      have hP : va_P D CL [(ak, .inl (cI, 4, .inl fk)), (av, .inl (cI, 4, .inl fv)), (af, .inr (2, [.ref ak, .ref av, .ref ar, .int (nI P), .int nt, .int yd])), (aa, .inr (0, [.ref a1, .int rnZ_20, .int (nI pn), .int 2, .int (fv pn)])), (a1, .inl (cI, 20, .inl faZ_21))] H := hP
      have hD : va_D A [(ak, .inl (cI, 4, .inl fk)), (av, .inl (cI, 4, .inl fv)), (af, .inr (2, [.ref ak, .ref av, .ref ar, .int (nI P), .int nt, .int yd])), (aa, .inr (0, [.ref a1, .int rnZ_20, .int (nI pn), .int 2, .int (fv pn)])), (a1, .inl (cI, 20, .inl faZ_21))] := hD
      exact retI C0 rfl (rnZ_20, (nI pn), 2, (fv pn), faZ_21) trivial (hP.sub (ws' := [(aa, .inr (0, [.ref a1, .int rnZ_20, .int (nI pn), .int 2, .int (fv pn)])), (a1, .inl (cI, 20, .inl faZ_21)), (af, .inr (2, [.ref ak, .ref av, .ref ar, .int (nI P), .int nt, .int yd])), (ak, .inl (cI, 4, .inl fk)), (av, .inl (cI, 4, .inl fv))]) [3, 4, 2, 0, 1] rfl) (hD.sub (ws' := [(aa, .inr (0, [.ref a1, .int rnZ_20, .int (nI pn), .int 2, .int (fv pn)])), (a1, .inl (cI, 20, .inl faZ_21)), (af, .inr (2, [.ref ak, .ref av, .ref ar, .int (nI P), .int nt, .int yd])), (ak, .inl (cI, 4, .inl fk)), (av, .inl (cI, 4, .inl fv))]) [3, 4, 2, 0, 1] (by decide) rfl) hS (Nat.le_of_ble_eq_true rfl) (Nat.le_of_ble_eq_true rfl) dX0_start_47
    · skip
      refine lv_ci 3 (by rw [hk7_9]; rfl) ?_
      refine va_put (ci := 0) (v := .int 3) (ty := .int) (C := RX0) (T := TX0) (N := 5) hx hb hT wu_X0 tyX0 tyX0_ok nmX0 hown hK hP hD hS 0 rfl rfl 3 (by decide) (hT _ wf_X0_31) (fun _ h9 => h9) rfl (by decide +kernel) rfl rfl (Nat.le_of_ble_eq_true rfl) dX0_start_22 (fun H locs hP hD hS => ?_)
      have hP : va_P D CL [(aa, .inr (0, [.ref a1, .int rn, .int (nI pn), .int 3, .int vv])), (a1, .inl (cI, 20, .inl fa)), (ak, .inl (cI, 4, .inl fk)), (av, .inl (cI, 4, .inl fv)), (af, .inr (2, [.ref ak, .ref av, .ref ar, .int (nI P), .int nt, .int yd]))] H := hP
      have hD : va_D A [(aa, .inr (0, [.ref a1, .int rn, .int (nI pn), .int 3, .int vv])), (a1, .inl (cI, 20, .inl fa)), (ak, .inl (cI, 4, .inl fk)), (av, .inl (cI, 4, .inl fv)), (af, .inr (2, [.ref ak, .ref av, .ref ar, .int (nI P), .int nt, .int yd]))] := hD
      refine lv_aload_n hx hb dX0_start_25 rfl (lv_at hl 0 rfl) ?_
      refine lv_aload_n hx hb dX0_start_26 rfl (lv_at hl 1 rfl) ?_
      refine va_getN (ci := 2) (v := .ref av) (C := RX2) (T := TX2) (N := 6) hx hb hT wu_X2 hown hK hP 4 rfl rfl 1 (by decide) (va_Nw.use rfl (hN.get 137 kf_X0_33 rfl)) (fun _ h9 => h9) rfl dX0_start_27 ?_
      refine lv_iload_n hx hb dX0_start_30 rfl (lv_at hl 2 rfl) ?_
      refine va_iald hx hb hK hP 3 0 rfl rfl (vp_in_nI (n := pn) (by omega) (by decide)) dX0_start_31 ?_
      refine lv_ci (fv pn) (congrArg fv (nI_clamp (n := pn) (by omega))) ?_
      refine va_put (ci := 0) (v := .int (fv pn)) (ty := .int) (C := RX0) (T := TX0) (N := 5) hx hb hT wu_X0 tyX0 tyX0_ok nmX0 hown hK hP hD hS 0 rfl rfl 4 (by decide) (hT _ wf_X0_36) (fun _ h9 => h9) rfl (by decide +kernel) rfl rfl (Nat.le_of_ble_eq_true rfl) dX0_start_32 (fun H locs hP hD hS => ?_)
      have hP : va_P D CL [(aa, .inr (0, [.ref a1, .int rn, .int (nI pn), .int 3, .int (fv pn)])), (a1, .inl (cI, 20, .inl fa)), (ak, .inl (cI, 4, .inl fk)), (av, .inl (cI, 4, .inl fv)), (af, .inr (2, [.ref ak, .ref av, .ref ar, .int (nI P), .int nt, .int yd]))] H := hP
      have hD : va_D A [(aa, .inr (0, [.ref a1, .int rn, .int (nI pn), .int 3, .int (fv pn)])), (a1, .inl (cI, 20, .inl fa)), (ak, .inl (cI, 4, .inl fk)), (av, .inl (cI, 4, .inl fv)), (af, .inr (2, [.ref ak, .ref av, .ref ar, .int (nI P), .int nt, .int yd]))] := hD
      refine lv_aload_n hx hb dX0_start_35 rfl (lv_at hl 0 rfl) ?_
      refine lv_aload_n hx hb dX0_start_36 rfl (lv_at hl 0 rfl) ?_
      refine va_get (ci := 0) (v := .int 3) (C := RX0) (T := TX0) (N := 5) hx hb hT wu_X0 hown hK hP 0 rfl rfl 3 (by decide) (hT _ wf_X0_31) (fun _ h9 => h9) rfl dX0_start_37 ?_
      refine lv_iload_n hx hb dX0_start_40 rfl (lv_at hl 3 rfl) ?_
      refine lv_iload hx hb dX0_start_41 (lv_at hl 4 rfl) ?_
      refine lv_iconst (v := 0) hx hb dX0_start_43 (by decide) ?_
      refine contI (wc := [(aa, .inr (0, [.ref a1, .int rn, .int (nI pn), .int 3, .int (fv pn)])), (a1, .inl (cI, 20, .inl fa))]) (wr := [(ak, .inl (cI, 4, .inl fk)), (av, .inl (cI, 4, .inl fv)), (af, .inr (2, [.ref ak, .ref av, .ref ar, .int (nI P), .int nt, .int yd]))]) C0 hP hD hS [0, 1] [2, 3, 4] rfl rfl (by decide) (by decide) 0 0 (Nat.le_of_ble_eq_true rfl) (Nat.le_of_ble_eq_true rfl) (runV (k := 4) (As := [.int 3, .int 0, .int xx, .int 0]) (rest := []) C0 (c_ask_3_3_0 l D cI cZ cQ cT _ aa xx 0 a1 rn (nI pn) (fv pn) fa) wc_X0_ask wl_X0_38 wi_X0_ask we_X0_ask wz_X0 ⟨by decide, by decide, by decide +kernel⟩ ⟨(Nat.le_of_ble_eq_true rfl), (Nat.le_of_ble_eq_true rfl)⟩ hP hD hS EF.ok hX [0, 1] rfl (by decide) 0 rfl rfl rfl rfl hl.1 rfl (Nat.le_of_ble_eq_true rfl) dX0_start_44 ⟨(Nat.le_of_ble_eq_true rfl), (Nat.le_of_ble_eq_true rfl)⟩) (fun r_29 u_27 H locs w_28 hP hD hS => ?_)
      obtain ⟨rnZ_25, faZ_26⟩ := u_27
      have hP : va_P D CL [(ak, .inl (cI, 4, .inl fk)), (av, .inl (cI, 4, .inl fv)), (af, .inr (2, [.ref ak, .ref av, .ref ar, .int (nI P), .int nt, .int yd])), (aa, .inr (0, [.ref a1, .int rnZ_25, .int (nI pn), .int 3, .int (fv pn)])), (a1, .inl (cI, 20, .inl faZ_26))] H := hP
      have hD : va_D A [(ak, .inl (cI, 4, .inl fk)), (av, .inl (cI, 4, .inl fv)), (af, .inr (2, [.ref ak, .ref av, .ref ar, .int (nI P), .int nt, .int yd])), (aa, .inr (0, [.ref a1, .int rnZ_25, .int (nI pn), .int 3, .int (fv pn)])), (a1, .inl (cI, 20, .inl faZ_26))] := hD
      exact retI C0 rfl (rnZ_25, (nI pn), 3, (fv pn), faZ_26) trivial (hP.sub (ws' := [(aa, .inr (0, [.ref a1, .int rnZ_25, .int (nI pn), .int 3, .int (fv pn)])), (a1, .inl (cI, 20, .inl faZ_26)), (af, .inr (2, [.ref ak, .ref av, .ref ar, .int (nI P), .int nt, .int yd])), (ak, .inl (cI, 4, .inl fk)), (av, .inl (cI, 4, .inl fv))]) [3, 4, 2, 0, 1] rfl) (hD.sub (ws' := [(aa, .inr (0, [.ref a1, .int rnZ_25, .int (nI pn), .int 3, .int (fv pn)])), (a1, .inl (cI, 20, .inl faZ_26)), (af, .inr (2, [.ref ak, .ref av, .ref ar, .int (nI P), .int nt, .int yd])), (ak, .inl (cI, 4, .inl fk)), (av, .inl (cI, 4, .inl fv))]) [3, 4, 2, 0, 1] (by decide) rfl) hS (Nat.le_of_ble_eq_true rfl) (Nat.le_of_ble_eq_true rfl) dX0_start_47
    · skip
      refine lv_ci 4 (by rw [hk7_9]; rfl) ?_
      refine va_put (ci := 0) (v := .int 4) (ty := .int) (C := RX0) (T := TX0) (N := 5) hx hb hT wu_X0 tyX0 tyX0_ok nmX0 hown hK hP hD hS 0 rfl rfl 3 (by decide) (hT _ wf_X0_31) (fun _ h9 => h9) rfl (by decide +kernel) rfl rfl (Nat.le_of_ble_eq_true rfl) dX0_start_22 (fun H locs hP hD hS => ?_)
      have hP : va_P D CL [(aa, .inr (0, [.ref a1, .int rn, .int (nI pn), .int 4, .int vv])), (a1, .inl (cI, 20, .inl fa)), (ak, .inl (cI, 4, .inl fk)), (av, .inl (cI, 4, .inl fv)), (af, .inr (2, [.ref ak, .ref av, .ref ar, .int (nI P), .int nt, .int yd]))] H := hP
      have hD : va_D A [(aa, .inr (0, [.ref a1, .int rn, .int (nI pn), .int 4, .int vv])), (a1, .inl (cI, 20, .inl fa)), (ak, .inl (cI, 4, .inl fk)), (av, .inl (cI, 4, .inl fv)), (af, .inr (2, [.ref ak, .ref av, .ref ar, .int (nI P), .int nt, .int yd]))] := hD
      refine lv_aload_n hx hb dX0_start_25 rfl (lv_at hl 0 rfl) ?_
      refine lv_aload_n hx hb dX0_start_26 rfl (lv_at hl 1 rfl) ?_
      refine va_getN (ci := 2) (v := .ref av) (C := RX2) (T := TX2) (N := 6) hx hb hT wu_X2 hown hK hP 4 rfl rfl 1 (by decide) (va_Nw.use rfl (hN.get 137 kf_X0_33 rfl)) (fun _ h9 => h9) rfl dX0_start_27 ?_
      refine lv_iload_n hx hb dX0_start_30 rfl (lv_at hl 2 rfl) ?_
      refine va_iald hx hb hK hP 3 0 rfl rfl (vp_in_nI (n := pn) (by omega) (by decide)) dX0_start_31 ?_
      refine lv_ci (fv pn) (congrArg fv (nI_clamp (n := pn) (by omega))) ?_
      refine va_put (ci := 0) (v := .int (fv pn)) (ty := .int) (C := RX0) (T := TX0) (N := 5) hx hb hT wu_X0 tyX0 tyX0_ok nmX0 hown hK hP hD hS 0 rfl rfl 4 (by decide) (hT _ wf_X0_36) (fun _ h9 => h9) rfl (by decide +kernel) rfl rfl (Nat.le_of_ble_eq_true rfl) dX0_start_32 (fun H locs hP hD hS => ?_)
      have hP : va_P D CL [(aa, .inr (0, [.ref a1, .int rn, .int (nI pn), .int 4, .int (fv pn)])), (a1, .inl (cI, 20, .inl fa)), (ak, .inl (cI, 4, .inl fk)), (av, .inl (cI, 4, .inl fv)), (af, .inr (2, [.ref ak, .ref av, .ref ar, .int (nI P), .int nt, .int yd]))] H := hP
      have hD : va_D A [(aa, .inr (0, [.ref a1, .int rn, .int (nI pn), .int 4, .int (fv pn)])), (a1, .inl (cI, 20, .inl fa)), (ak, .inl (cI, 4, .inl fk)), (av, .inl (cI, 4, .inl fv)), (af, .inr (2, [.ref ak, .ref av, .ref ar, .int (nI P), .int nt, .int yd]))] := hD
      refine lv_aload_n hx hb dX0_start_35 rfl (lv_at hl 0 rfl) ?_
      refine lv_aload_n hx hb dX0_start_36 rfl (lv_at hl 0 rfl) ?_
      refine va_get (ci := 0) (v := .int 4) (C := RX0) (T := TX0) (N := 5) hx hb hT wu_X0 hown hK hP 0 rfl rfl 3 (by decide) (hT _ wf_X0_31) (fun _ h9 => h9) rfl dX0_start_37 ?_
      refine lv_iload_n hx hb dX0_start_40 rfl (lv_at hl 3 rfl) ?_
      refine lv_iload hx hb dX0_start_41 (lv_at hl 4 rfl) ?_
      refine lv_iconst (v := 0) hx hb dX0_start_43 (by decide) ?_
      refine contI (wc := [(aa, .inr (0, [.ref a1, .int rn, .int (nI pn), .int 4, .int (fv pn)])), (a1, .inl (cI, 20, .inl fa))]) (wr := [(ak, .inl (cI, 4, .inl fk)), (av, .inl (cI, 4, .inl fv)), (af, .inr (2, [.ref ak, .ref av, .ref ar, .int (nI P), .int nt, .int yd]))]) C0 hP hD hS [0, 1] [2, 3, 4] rfl rfl (by decide) (by decide) 0 0 (Nat.le_of_ble_eq_true rfl) (Nat.le_of_ble_eq_true rfl) (runV (k := 4) (As := [.int 4, .int 0, .int xx, .int 0]) (rest := []) C0 (c_ask_4_4_0 l D cI cZ cQ cT _ aa xx 0 a1 rn (nI pn) (fv pn) fa) wc_X0_ask wl_X0_38 wi_X0_ask we_X0_ask wz_X0 ⟨by decide, by decide, by decide +kernel⟩ ⟨(Nat.le_of_ble_eq_true rfl), (Nat.le_of_ble_eq_true rfl)⟩ hP hD hS EF.ok hX [0, 1] rfl (by decide) 0 rfl rfl rfl rfl hl.1 rfl (Nat.le_of_ble_eq_true rfl) dX0_start_44 ⟨(Nat.le_of_ble_eq_true rfl), (Nat.le_of_ble_eq_true rfl)⟩) (fun r_34 u_32 H locs w_33 hP hD hS => ?_)
      obtain ⟨rnZ_30, faZ_31⟩ := u_32
      have hP : va_P D CL [(ak, .inl (cI, 4, .inl fk)), (av, .inl (cI, 4, .inl fv)), (af, .inr (2, [.ref ak, .ref av, .ref ar, .int (nI P), .int nt, .int yd])), (aa, .inr (0, [.ref a1, .int rnZ_30, .int (nI pn), .int 4, .int (fv pn)])), (a1, .inl (cI, 20, .inl faZ_31))] H := hP
      have hD : va_D A [(ak, .inl (cI, 4, .inl fk)), (av, .inl (cI, 4, .inl fv)), (af, .inr (2, [.ref ak, .ref av, .ref ar, .int (nI P), .int nt, .int yd])), (aa, .inr (0, [.ref a1, .int rnZ_30, .int (nI pn), .int 4, .int (fv pn)])), (a1, .inl (cI, 20, .inl faZ_31))] := hD
      exact retI C0 rfl (rnZ_30, (nI pn), 4, (fv pn), faZ_31) trivial (hP.sub (ws' := [(aa, .inr (0, [.ref a1, .int rnZ_30, .int (nI pn), .int 4, .int (fv pn)])), (a1, .inl (cI, 20, .inl faZ_31)), (af, .inr (2, [.ref ak, .ref av, .ref ar, .int (nI P), .int nt, .int yd])), (ak, .inl (cI, 4, .inl fk)), (av, .inl (cI, 4, .inl fv))]) [3, 4, 2, 0, 1] rfl) (hD.sub (ws' := [(aa, .inr (0, [.ref a1, .int rnZ_30, .int (nI pn), .int 4, .int (fv pn)])), (a1, .inl (cI, 20, .inl faZ_31)), (af, .inr (2, [.ref ak, .ref av, .ref ar, .int (nI P), .int nt, .int yd])), (ak, .inl (cI, 4, .inl fk)), (av, .inl (cI, 4, .inl fv))]) [3, 4, 2, 0, 1] (by decide) rfl) hS (Nat.le_of_ble_eq_true rfl) (Nat.le_of_ble_eq_true rfl) dX0_start_47
    · skip
      refine lv_ci 5 (by rw [hk7_9]; rfl) ?_
      refine va_put (ci := 0) (v := .int 5) (ty := .int) (C := RX0) (T := TX0) (N := 5) hx hb hT wu_X0 tyX0 tyX0_ok nmX0 hown hK hP hD hS 0 rfl rfl 3 (by decide) (hT _ wf_X0_31) (fun _ h9 => h9) rfl (by decide +kernel) rfl rfl (Nat.le_of_ble_eq_true rfl) dX0_start_22 (fun H locs hP hD hS => ?_)
      have hP : va_P D CL [(aa, .inr (0, [.ref a1, .int rn, .int (nI pn), .int 5, .int vv])), (a1, .inl (cI, 20, .inl fa)), (ak, .inl (cI, 4, .inl fk)), (av, .inl (cI, 4, .inl fv)), (af, .inr (2, [.ref ak, .ref av, .ref ar, .int (nI P), .int nt, .int yd]))] H := hP
      have hD : va_D A [(aa, .inr (0, [.ref a1, .int rn, .int (nI pn), .int 5, .int vv])), (a1, .inl (cI, 20, .inl fa)), (ak, .inl (cI, 4, .inl fk)), (av, .inl (cI, 4, .inl fv)), (af, .inr (2, [.ref ak, .ref av, .ref ar, .int (nI P), .int nt, .int yd]))] := hD
      refine lv_aload_n hx hb dX0_start_25 rfl (lv_at hl 0 rfl) ?_
      refine lv_aload_n hx hb dX0_start_26 rfl (lv_at hl 1 rfl) ?_
      refine va_getN (ci := 2) (v := .ref av) (C := RX2) (T := TX2) (N := 6) hx hb hT wu_X2 hown hK hP 4 rfl rfl 1 (by decide) (va_Nw.use rfl (hN.get 137 kf_X0_33 rfl)) (fun _ h9 => h9) rfl dX0_start_27 ?_
      refine lv_iload_n hx hb dX0_start_30 rfl (lv_at hl 2 rfl) ?_
      refine va_iald hx hb hK hP 3 0 rfl rfl (vp_in_nI (n := pn) (by omega) (by decide)) dX0_start_31 ?_
      refine lv_ci (fv pn) (congrArg fv (nI_clamp (n := pn) (by omega))) ?_
      refine va_put (ci := 0) (v := .int (fv pn)) (ty := .int) (C := RX0) (T := TX0) (N := 5) hx hb hT wu_X0 tyX0 tyX0_ok nmX0 hown hK hP hD hS 0 rfl rfl 4 (by decide) (hT _ wf_X0_36) (fun _ h9 => h9) rfl (by decide +kernel) rfl rfl (Nat.le_of_ble_eq_true rfl) dX0_start_32 (fun H locs hP hD hS => ?_)
      have hP : va_P D CL [(aa, .inr (0, [.ref a1, .int rn, .int (nI pn), .int 5, .int (fv pn)])), (a1, .inl (cI, 20, .inl fa)), (ak, .inl (cI, 4, .inl fk)), (av, .inl (cI, 4, .inl fv)), (af, .inr (2, [.ref ak, .ref av, .ref ar, .int (nI P), .int nt, .int yd]))] H := hP
      have hD : va_D A [(aa, .inr (0, [.ref a1, .int rn, .int (nI pn), .int 5, .int (fv pn)])), (a1, .inl (cI, 20, .inl fa)), (ak, .inl (cI, 4, .inl fk)), (av, .inl (cI, 4, .inl fv)), (af, .inr (2, [.ref ak, .ref av, .ref ar, .int (nI P), .int nt, .int yd]))] := hD
      refine lv_aload_n hx hb dX0_start_35 rfl (lv_at hl 0 rfl) ?_
      refine lv_aload_n hx hb dX0_start_36 rfl (lv_at hl 0 rfl) ?_
      refine va_get (ci := 0) (v := .int 5) (C := RX0) (T := TX0) (N := 5) hx hb hT wu_X0 hown hK hP 0 rfl rfl 3 (by decide) (hT _ wf_X0_31) (fun _ h9 => h9) rfl dX0_start_37 ?_
      refine lv_iload_n hx hb dX0_start_40 rfl (lv_at hl 3 rfl) ?_
      refine lv_iload hx hb dX0_start_41 (lv_at hl 4 rfl) ?_
      refine lv_iconst (v := 0) hx hb dX0_start_43 (by decide) ?_
      refine contI (wc := [(aa, .inr (0, [.ref a1, .int rn, .int (nI pn), .int 5, .int (fv pn)])), (a1, .inl (cI, 20, .inl fa))]) (wr := [(ak, .inl (cI, 4, .inl fk)), (av, .inl (cI, 4, .inl fv)), (af, .inr (2, [.ref ak, .ref av, .ref ar, .int (nI P), .int nt, .int yd]))]) C0 hP hD hS [0, 1] [2, 3, 4] rfl rfl (by decide) (by decide) 0 0 (Nat.le_of_ble_eq_true rfl) (Nat.le_of_ble_eq_true rfl) (runV (k := 4) (As := [.int 5, .int 0, .int xx, .int 0]) (rest := []) C0 (c_ask_5_5_0 l D cI cZ cQ cT _ aa xx 0 a1 rn (nI pn) (fv pn) fa) wc_X0_ask wl_X0_38 wi_X0_ask we_X0_ask wz_X0 ⟨by decide, by decide, by decide +kernel⟩ ⟨(Nat.le_of_ble_eq_true rfl), (Nat.le_of_ble_eq_true rfl)⟩ hP hD hS EF.ok hX [0, 1] rfl (by decide) 0 rfl rfl rfl rfl hl.1 rfl (Nat.le_of_ble_eq_true rfl) dX0_start_44 ⟨(Nat.le_of_ble_eq_true rfl), (Nat.le_of_ble_eq_true rfl)⟩) (fun r_39 u_37 H locs w_38 hP hD hS => ?_)
      obtain ⟨rnZ_35, faZ_36⟩ := u_37
      have hP : va_P D CL [(ak, .inl (cI, 4, .inl fk)), (av, .inl (cI, 4, .inl fv)), (af, .inr (2, [.ref ak, .ref av, .ref ar, .int (nI P), .int nt, .int yd])), (aa, .inr (0, [.ref a1, .int rnZ_35, .int (nI pn), .int 5, .int (fv pn)])), (a1, .inl (cI, 20, .inl faZ_36))] H := hP
      have hD : va_D A [(ak, .inl (cI, 4, .inl fk)), (av, .inl (cI, 4, .inl fv)), (af, .inr (2, [.ref ak, .ref av, .ref ar, .int (nI P), .int nt, .int yd])), (aa, .inr (0, [.ref a1, .int rnZ_35, .int (nI pn), .int 5, .int (fv pn)])), (a1, .inl (cI, 20, .inl faZ_36))] := hD
      exact retI C0 rfl (rnZ_35, (nI pn), 5, (fv pn), faZ_36) trivial (hP.sub (ws' := [(aa, .inr (0, [.ref a1, .int rnZ_35, .int (nI pn), .int 5, .int (fv pn)])), (a1, .inl (cI, 20, .inl faZ_36)), (af, .inr (2, [.ref ak, .ref av, .ref ar, .int (nI P), .int nt, .int yd])), (ak, .inl (cI, 4, .inl fk)), (av, .inl (cI, 4, .inl fv))]) [3, 4, 2, 0, 1] rfl) (hD.sub (ws' := [(aa, .inr (0, [.ref a1, .int rnZ_35, .int (nI pn), .int 5, .int (fv pn)])), (a1, .inl (cI, 20, .inl faZ_36)), (af, .inr (2, [.ref ak, .ref av, .ref ar, .int (nI P), .int nt, .int yd])), (ak, .inl (cI, 4, .inl fk)), (av, .inl (cI, 4, .inl fv))]) [3, 4, 2, 0, 1] (by decide) rfl) hS (Nat.le_of_ble_eq_true rfl) (Nat.le_of_ble_eq_true rfl) dX0_start_47
    · skip
      refine lv_ci 6 (by rw [hk7_9]; rfl) ?_
      refine va_put (ci := 0) (v := .int 6) (ty := .int) (C := RX0) (T := TX0) (N := 5) hx hb hT wu_X0 tyX0 tyX0_ok nmX0 hown hK hP hD hS 0 rfl rfl 3 (by decide) (hT _ wf_X0_31) (fun _ h9 => h9) rfl (by decide +kernel) rfl rfl (Nat.le_of_ble_eq_true rfl) dX0_start_22 (fun H locs hP hD hS => ?_)
      have hP : va_P D CL [(aa, .inr (0, [.ref a1, .int rn, .int (nI pn), .int 6, .int vv])), (a1, .inl (cI, 20, .inl fa)), (ak, .inl (cI, 4, .inl fk)), (av, .inl (cI, 4, .inl fv)), (af, .inr (2, [.ref ak, .ref av, .ref ar, .int (nI P), .int nt, .int yd]))] H := hP
      have hD : va_D A [(aa, .inr (0, [.ref a1, .int rn, .int (nI pn), .int 6, .int vv])), (a1, .inl (cI, 20, .inl fa)), (ak, .inl (cI, 4, .inl fk)), (av, .inl (cI, 4, .inl fv)), (af, .inr (2, [.ref ak, .ref av, .ref ar, .int (nI P), .int nt, .int yd]))] := hD
      refine lv_aload_n hx hb dX0_start_25 rfl (lv_at hl 0 rfl) ?_
      refine lv_aload_n hx hb dX0_start_26 rfl (lv_at hl 1 rfl) ?_
      refine va_getN (ci := 2) (v := .ref av) (C := RX2) (T := TX2) (N := 6) hx hb hT wu_X2 hown hK hP 4 rfl rfl 1 (by decide) (va_Nw.use rfl (hN.get 137 kf_X0_33 rfl)) (fun _ h9 => h9) rfl dX0_start_27 ?_
      refine lv_iload_n hx hb dX0_start_30 rfl (lv_at hl 2 rfl) ?_
      refine va_iald hx hb hK hP 3 0 rfl rfl (vp_in_nI (n := pn) (by omega) (by decide)) dX0_start_31 ?_
      refine lv_ci (fv pn) (congrArg fv (nI_clamp (n := pn) (by omega))) ?_
      refine va_put (ci := 0) (v := .int (fv pn)) (ty := .int) (C := RX0) (T := TX0) (N := 5) hx hb hT wu_X0 tyX0 tyX0_ok nmX0 hown hK hP hD hS 0 rfl rfl 4 (by decide) (hT _ wf_X0_36) (fun _ h9 => h9) rfl (by decide +kernel) rfl rfl (Nat.le_of_ble_eq_true rfl) dX0_start_32 (fun H locs hP hD hS => ?_)
      have hP : va_P D CL [(aa, .inr (0, [.ref a1, .int rn, .int (nI pn), .int 6, .int (fv pn)])), (a1, .inl (cI, 20, .inl fa)), (ak, .inl (cI, 4, .inl fk)), (av, .inl (cI, 4, .inl fv)), (af, .inr (2, [.ref ak, .ref av, .ref ar, .int (nI P), .int nt, .int yd]))] H := hP
      have hD : va_D A [(aa, .inr (0, [.ref a1, .int rn, .int (nI pn), .int 6, .int (fv pn)])), (a1, .inl (cI, 20, .inl fa)), (ak, .inl (cI, 4, .inl fk)), (av, .inl (cI, 4, .inl fv)), (af, .inr (2, [.ref ak, .ref av, .ref ar, .int (nI P), .int nt, .int yd]))] := hD
      refine lv_aload_n hx hb dX0_start_35 rfl (lv_at hl 0 rfl) ?_
      refine lv_aload_n hx hb dX0_start_36 rfl (lv_at hl 0 rfl) ?_
      refine va_get (ci := 0) (v := .int 6) (C := RX0) (T := TX0) (N := 5) hx hb hT wu_X0 hown hK hP 0 rfl rfl 3 (by decide) (hT _ wf_X0_31) (fun _ h9 => h9) rfl dX0_start_37 ?_
      refine lv_iload_n hx hb dX0_start_40 rfl (lv_at hl 3 rfl) ?_
      refine lv_iload hx hb dX0_start_41 (lv_at hl 4 rfl) ?_
      refine lv_iconst (v := 0) hx hb dX0_start_43 (by decide) ?_
      refine contI (wc := [(aa, .inr (0, [.ref a1, .int rn, .int (nI pn), .int 6, .int (fv pn)])), (a1, .inl (cI, 20, .inl fa))]) (wr := [(ak, .inl (cI, 4, .inl fk)), (av, .inl (cI, 4, .inl fv)), (af, .inr (2, [.ref ak, .ref av, .ref ar, .int (nI P), .int nt, .int yd]))]) C0 hP hD hS [0, 1] [2, 3, 4] rfl rfl (by decide) (by decide) 0 0 (Nat.le_of_ble_eq_true rfl) (Nat.le_of_ble_eq_true rfl) (runV (k := 4) (As := [.int 6, .int 0, .int xx, .int 0]) (rest := []) C0 (c_ask_6_6_0 l D cI cZ cQ cT _ aa xx 0 a1 rn (nI pn) (fv pn) fa) wc_X0_ask wl_X0_38 wi_X0_ask we_X0_ask wz_X0 ⟨by decide, by decide, by decide +kernel⟩ ⟨(Nat.le_of_ble_eq_true rfl), (Nat.le_of_ble_eq_true rfl)⟩ hP hD hS EF.ok hX [0, 1] rfl (by decide) 0 rfl rfl rfl rfl hl.1 rfl (Nat.le_of_ble_eq_true rfl) dX0_start_44 ⟨(Nat.le_of_ble_eq_true rfl), (Nat.le_of_ble_eq_true rfl)⟩) (fun r_44 u_42 H locs w_43 hP hD hS => ?_)
      obtain ⟨rnZ_40, faZ_41⟩ := u_42
      have hP : va_P D CL [(ak, .inl (cI, 4, .inl fk)), (av, .inl (cI, 4, .inl fv)), (af, .inr (2, [.ref ak, .ref av, .ref ar, .int (nI P), .int nt, .int yd])), (aa, .inr (0, [.ref a1, .int rnZ_40, .int (nI pn), .int 6, .int (fv pn)])), (a1, .inl (cI, 20, .inl faZ_41))] H := hP
      have hD : va_D A [(ak, .inl (cI, 4, .inl fk)), (av, .inl (cI, 4, .inl fv)), (af, .inr (2, [.ref ak, .ref av, .ref ar, .int (nI P), .int nt, .int yd])), (aa, .inr (0, [.ref a1, .int rnZ_40, .int (nI pn), .int 6, .int (fv pn)])), (a1, .inl (cI, 20, .inl faZ_41))] := hD
      exact retI C0 rfl (rnZ_40, (nI pn), 6, (fv pn), faZ_41) trivial (hP.sub (ws' := [(aa, .inr (0, [.ref a1, .int rnZ_40, .int (nI pn), .int 6, .int (fv pn)])), (a1, .inl (cI, 20, .inl faZ_41)), (af, .inr (2, [.ref ak, .ref av, .ref ar, .int (nI P), .int nt, .int yd])), (ak, .inl (cI, 4, .inl fk)), (av, .inl (cI, 4, .inl fv))]) [3, 4, 2, 0, 1] rfl) (hD.sub (ws' := [(aa, .inr (0, [.ref a1, .int rnZ_40, .int (nI pn), .int 6, .int (fv pn)])), (a1, .inl (cI, 20, .inl faZ_41)), (af, .inr (2, [.ref ak, .ref av, .ref ar, .int (nI P), .int nt, .int yd])), (ak, .inl (cI, 4, .inl fk)), (av, .inl (cI, 4, .inl fv))]) [3, 4, 2, 0, 1] (by decide) rfl) hS (Nat.le_of_ble_eq_true rfl) (Nat.le_of_ble_eq_true rfl) dX0_start_47
  · obtain rfl : r_3 = 0 := w_2.trans (if_neg c_4)
    refine lv_if_ne (tgt := 10) hx hb dX0_start_5 (by decide) (fun c_0 => absurd (by decide) c_0) (fun _ => ?_)
    refine lv_iconst (v := 0) hx hb dX0_start_8 (by decide) ?_
    exact retI C0 rfl (rn, sl, kd, vv, fa) trivial (hP.sub (ws' := [(aa, .inr (0, [.ref a1, .int rn, .int sl, .int kd, .int vv])), (a1, .inl (cI, 20, .inl fa)), (af, .inr (2, [.ref ak, .ref av, .ref ar, .int (nI P), .int nt, .int yd])), (ak, .inl (cI, 4, .inl fk)), (av, .inl (cI, 4, .inl fv))]) [0, 1, 4, 2, 3] rfl) (hD.sub (ws' := [(aa, .inr (0, [.ref a1, .int rn, .int sl, .int kd, .int vv])), (a1, .inl (cI, 20, .inl fa)), (af, .inr (2, [.ref ak, .ref av, .ref ar, .int (nI P), .int nt, .int yd])), (ak, .inl (cI, 4, .inl fk)), (av, .inl (cI, 4, .inl fv))]) [0, 1, 4, 2, 3] (by decide) rfl) hS (Nat.le_of_ble_eq_true rfl) (Nat.le_of_ble_eq_true rfl) dX0_start_9

set_option maxHeartbeats 4000000 in
set_option maxRecDepth 100000 in
theorem c_bodyOf_0_1 (l : Launch) (D : va_G) (cI cZ cQ cT : ClassId) (sz : Nat)   : MetI l yX0_bodyOf cX0_bodyOf 5 .int ({ frames := 0, cells := 0, slots := 0, locals := 0 } : Room) [.int 0, .int 1] D (TYS cI cZ cQ cT) EF sz [] (S := Unit) (fun (r : Int32) (_ : Unit) => r = 2) (fun _ => []) := by
  refine MetI.mk (lv := [(0, .int 0), (1, .int 1)]) (by decide +kernel) (Nat.le_of_ble_eq_true rfl) rfl ?_
  intro p e s m below meth c A ls C0 hP hD hS hX hl
  have C1 := C0
  obtain ⟨hx, hb, hr, hml, hown, hlocks, hname, hT, hN, hK, hA⟩ := C1
  obtain ⟨kab, hkz, hkT⟩ := hX.2.1
  obtain ⟨bdy, hbz, hbT⟩ := hX.2.2.1
  refine lv_iload_n hx hb dX0_bodyOf_0 rfl (lv_at hl 0 rfl) ?_
  refine lv_istore_n (lv' := [(2, .int 0), (0, .int 0), (1, .int 1)]) hx hb dX0_bodyOf_1 rfl hl (by decide) rfl (fun ls hl => ?_)
  refine lv_iconst (v := 0) hx hb dX0_bodyOf_2 (by decide) ?_
  refine lv_istore_n (lv' := [(3, .int 0), (2, .int 0), (0, .int 0), (1, .int 1)]) hx hb dX0_bodyOf_3 rfl hl (by decide) rfl (fun ls hl => ?_)
  refine lv_iload_n hx hb dX0_bodyOf_4 rfl (lv_at hl 0 rfl) ?_
  refine lv_bipush (v := 7) hx hb dX0_bodyOf_5 (by decide) ?_
  refine lv_icmp_ge (tgt := 69) hx hb dX0_bodyOf_7 (by decide) (fun c_0 => absurd c_0 (by decide)) (fun _ => ?_)
  refine lv_iload_n hx hb dX0_bodyOf_10 rfl (lv_at hl 1 rfl) ?_
  refine lv_if_lt (tgt := 69) hx hb dX0_bodyOf_11 (by decide) (fun c_0 => absurd c_0 (by decide)) (fun _ => ?_)
  refine lv_iload_n hx hb dX0_bodyOf_14 rfl (lv_at hl 1 rfl) ?_
  refine lv_bipush (v := 7) hx hb dX0_bodyOf_15 (by decide) ?_
  refine lv_icmp_ge (tgt := 69) hx hb dX0_bodyOf_17 (by decide) (fun c_0 => absurd c_0 (by decide)) (fun _ => ?_)
  refine lv_iload_n hx hb dX0_bodyOf_20 rfl (lv_at hl 1 rfl) ?_
  refine lv_iconst (v := 3) hx hb dX0_bodyOf_21 (by decide) ?_
  refine lv_imul hx hb dX0_bodyOf_22 ?_
  refine lv_ci 0 (by decide +kernel) ?_
  refine lv_iload_n hx hb dX0_bodyOf_23 rfl (lv_at hl 3 rfl) ?_
  refine lv_iadd hx hb dX0_bodyOf_24 ?_
  refine lv_ci 1 (by decide +kernel) ?_
  refine lv_istore (lv' := [(4, .int 1), (3, .int 0), (2, .int 0), (0, .int 0), (1, .int 1)]) hx hb dX0_bodyOf_25 hl (by decide) rfl (fun ls hl => ?_)
  refine lv_iload hx hb dX0_bodyOf_27 (lv_at hl 0 rfl) ?_
  refine lv_if_lt (tgt := 57) hx hb dX0_bodyOf_29 (by decide) (fun c_0 => absurd c_0 (by decide)) (fun _ => ?_)
  refine lv_iload hx hb dX0_bodyOf_32 (lv_at hl 0 rfl) ?_
  refine va_gets hx hb hbz hS hown (hT _ wf_X0_42) (fun _ h9 => h9) dX0_bodyOf_34 ?_
  refine va_tlen hx hb hbT hS (v := 21) rfl dX0_bodyOf_37 ?_
  refine lv_icmp_ge (tgt := 57) hx hb dX0_bodyOf_38 (by decide) (fun c_0 => absurd c_0 (by decide)) (fun _ => ?_)
  refine va_gets hx hb hbz hS hown (hT _ wf_X0_42) (fun _ h9 => h9) dX0_bodyOf_41 ?_
  refine lv_iload hx hb dX0_bodyOf_44 (lv_at hl 0 rfl) ?_
  refine va_ti hx hb hbT hS (vin _ _ (by decide +kernel)) (v := .int 2) rfl dX0_bodyOf_46 ?_
  refine lv_if_eq (tgt := 57) hx hb dX0_bodyOf_47 (by decide) (fun c_0 => absurd c_0 (by decide)) (fun _ => ?_)
  refine va_gets hx hb hbz hS hown (hT _ wf_X0_42) (fun _ h9 => h9) dX0_bodyOf_50 ?_
  refine lv_iload hx hb dX0_bodyOf_53 (lv_at hl 0 rfl) ?_
  refine va_ti hx hb hbT hS (vin _ _ (by decide +kernel)) (v := .int 2) rfl dX0_bodyOf_55 ?_
  exact retI C0 rfl () rfl (hP.sub (ws' := []) [] rfl) (hD.sub (ws' := []) [] (by decide) rfl) hS (Nat.le_of_ble_eq_true rfl) (Nat.le_of_ble_eq_true rfl) dX0_bodyOf_56

set_option maxHeartbeats 4000000 in
set_option maxRecDepth 100000 in
theorem c_ask_0_0_1 (l : Launch) (D : va_G) (cI cZ cQ cT : ClassId) (sz : Nat) (aa : Nat) (xx : Int32) (dp : Int32) (a1 : Nat) (rn : Int32) (sl : Int32) (vv : Int32) (fa : Nat → Int32)  : MetI l yX0_ask cX0_ask 7 .int ({ frames := 2, cells := 0, slots := 0, locals := 50 } : Room) [.ref aa, .int 0, .int 1, .int xx, .int dp] D (TYS cI cZ cQ cT) EF sz [(aa, .inr (0, [.ref a1, .int rn, .int sl, .int 0, .int vv])), (a1, .inl (cI, 20, .inl fa))] (S := Int32 × (Nat → Int32)) (fun (r : Int32) (_ : Int32 × (Nat → Int32)) => True) (fun u => [(aa, .inr (0, [.ref a1, .int u.1, .int sl, .int 0, .int vv])), (a1, .inl (cI, 20, .inl u.2))]) := by
  refine MetI.mk (lv := [(0, .ref aa), (1, .int 0), (2, .int 1), (3, .int xx), (4, .int dp)]) (by decide +kernel) (Nat.le_of_ble_eq_true rfl) rfl ?_
  intro p e s m below meth c A ls C0 hP hD hS hX hl
  have C1 := C0
  obtain ⟨hx, hb, hr, hml, hown, hlocks, hname, hT, hN, hK, hA⟩ := C1
  refine lv_iload_n hx hb dX0_ask_0 rfl (lv_at hl 1 rfl) ?_
  refine lv_iload_n hx hb dX0_ask_1 rfl (lv_at hl 2 rfl) ?_
  refine contI (wc := []) (wr := [(aa, .inr (0, [.ref a1, .int rn, .int sl, .int 0, .int vv])), (a1, .inl (cI, 20, .inl fa))]) C0 hP hD hS [] [0, 1] rfl rfl (by decide) (by decide) 0 0 (Nat.le_of_ble_eq_true rfl) (Nat.le_of_ble_eq_true rfl) (runS (k := 2) (As := [.int 0, .int 1]) (rest := []) C0 (c_bodyOf_0_1 l D cI cZ cQ cT _ ) wc_X0_bodyOf wl_X0_48 wt_X0_bodyOf wz_X0 ⟨by decide, by decide, by decide +kernel⟩ ⟨(Nat.le_of_ble_eq_true rfl), (Nat.le_of_ble_eq_true rfl)⟩ hP hD hS EF.ok hX [] rfl (by decide) rfl hl.1 rfl (Nat.le_of_ble_eq_true rfl) dX0_ask_2 ⟨(Nat.le_of_ble_eq_true rfl), (Nat.le_of_ble_eq_true rfl)⟩) (fun r_3 u_1 H locs w_2 hP hD hS => ?_)
  have hP : va_P D CL [(aa, .inr (0, [.ref a1, .int rn, .int sl, .int 0, .int vv])), (a1, .inl (cI, 20, .inl fa))] H := hP
  have hD : va_D A [(aa, .inr (0, [.ref a1, .int rn, .int sl, .int 0, .int vv])), (a1, .inl (cI, 20, .inl fa))] := hD
  obtain rfl : r_3 = 2 := w_2
  refine lv_istore (lv' := [(5, .int 2), (0, .ref aa), (1, .int 0), (2, .int 1), (3, .int xx), (4, .int dp)]) hx hb dX0_ask_5 hl (by decide) rfl (fun ls hl => ?_)
  refine lv_iload hx hb dX0_ask_7 (lv_at hl 0 rfl) ?_
  refine lv_if_eq (tgt := 19) hx hb dX0_ask_9 (by decide) (fun c_0 => absurd c_0 (by decide)) (fun _ => ?_)
  refine lv_iload hx hb dX0_ask_12 (lv_at hl 5 rfl) ?_
  refine lv_bipush (v := 40) hx hb dX0_ask_14 (by decide) ?_
  refine lv_icmp_le (tgt := 21) hx hb dX0_ask_16 (by decide) (fun c_4 => ?_) (fun c_4 => ?_)
  · refine lv_aload_n hx hb dX0_ask_21 rfl (lv_at hl 1 rfl) ?_
    refine lv_iload hx hb dX0_ask_22 (lv_at hl 0 rfl) ?_
    refine contV (wc := [(aa, .inr (0, [.ref a1, .int rn, .int sl, .int 0, .int vv])), (a1, .inl (cI, 20, .inl fa))]) (wr := []) C0 hP hD hS [0, 1] [] rfl rfl (by decide) (by decide) 0 0 (Nat.le_of_ble_eq_true rfl) (Nat.le_of_ble_eq_true rfl) (runV (k := 1) (As := [.int 2]) (rest := []) C0 (c_begin l D cI cZ cQ cT _ aa 2 a1 rn sl 0 vv fa) wc_X0_begin wl_X0_52 wi_X0_begin we_X0_begin wz_X0 ⟨by decide, by decide, by decide +kernel⟩ ⟨(Nat.le_of_ble_eq_true rfl), (Nat.le_of_ble_eq_true rfl)⟩ hP hD hS EF.ok hX [0, 1] rfl (by decide) 0 rfl rfl rfl rfl hl.1 rfl (Nat.le_of_ble_eq_true rfl) dX0_ask_24 ⟨(Nat.le_of_ble_eq_true rfl), (Nat.le_of_ble_eq_true rfl)⟩) (fun u_7 H locs w_8 hP hD hS => ?_)
    obtain ⟨rnZ_5, faZ_6⟩ := u_7
    have hP : va_P D CL [(aa, .inr (0, [.ref a1, .int rnZ_5, .int sl, .int 0, .int vv])), (a1, .inl (cI, 20, .inl faZ_6))] H := hP
    have hD : va_D A [(aa, .inr (0, [.ref a1, .int rnZ_5, .int sl, .int 0, .int vv])), (a1, .inl (cI, 20, .inl faZ_6))] := hD
    refine lv_iload hx hb dX0_ask_27 (lv_at hl 5 rfl) ?_
    refine lv_iconst (v := 1) hx hb dX0_ask_29 (by decide) ?_
    refine lv_iadd hx hb dX0_ask_30 ?_
    refine lv_istore (lv' := [(6, .int (dp + (1 : Int32))), (5, .int 2), (0, .ref aa), (1, .int 0), (2, .int 1), (3, .int xx), (4, .int dp)]) hx hb dX0_ask_31 hl (by decide) rfl (fun ls hl => ?_)
    refine lv_iload hx hb dX0_ask_33 (lv_at hl 1 rfl) ?_
    refine lv_lookup (off := 88) (tgt := 123) hx hb dX0_ask_35 (by decide) (by decide) (by decide) ?_
    refine lv_aload_n hx hb dX0_ask_123 rfl (lv_at hl 2 rfl) ?_
    refine lv_aload_n hx hb dX0_ask_124 rfl (lv_at hl 2 rfl) ?_
    refine va_get (ci := 0) (v := .int 0) (C := RX0) (T := TX0) (N := 5) hx hb hT wu_X0 hown hK hP 0 rfl rfl 3 (by decide) (hT _ wf_X0_31) (fun _ h9 => h9) rfl dX0_ask_125 ?_
    refine lv_iconst (v := 0) hx hb dX0_ask_128 (by decide) ?_
    refine lv_iload_n hx hb dX0_ask_129 rfl (lv_at hl 5 rfl) ?_
    refine lv_iload hx hb dX0_ask_130 (lv_at hl 0 rfl) ?_
    refine contI (wc := [(aa, .inr (0, [.ref a1, .int rnZ_5, .int sl, .int 0, .int vv])), (a1, .inl (cI, 20, .inl faZ_6))]) (wr := []) C0 hP hD hS [0, 1] [] rfl rfl (by decide) (by decide) 0 0 (Nat.le_of_ble_eq_true rfl) (Nat.le_of_ble_eq_true rfl) (runV (k := 4) (As := [.int 0, .int 0, .int xx, .int (dp + (1 : Int32))]) (rest := []) C0 (c_ask_0_0_0 l D cI cZ cQ cT _ aa xx (dp + (1 : Int32)) a1 rnZ_5 sl vv faZ_6) wc_X0_ask wl_X0_38 wi_X0_ask we_X0_ask wz_X0 ⟨by decide, by decide, by decide +kernel⟩ ⟨(Nat.le_of_ble_eq_true rfl), (Nat.le_of_ble_eq_true rfl)⟩ hP hD hS EF.ok hX [0, 1] rfl (by decide) 0 rfl rfl rfl rfl hl.1 rfl (Nat.le_of_ble_eq_true rfl) dX0_ask_132 ⟨(Nat.le_of_ble_eq_true rfl), (Nat.le_of_ble_eq_true rfl)⟩) (fun r_14 u_12 H locs w_13 hP hD hS => ?_)
    obtain ⟨rnZ_10, faZ_11⟩ := u_12
    have hP : va_P D CL [(aa, .inr (0, [.ref a1, .int rnZ_10, .int sl, .int 0, .int vv])), (a1, .inl (cI, 20, .inl faZ_11))] H := hP
    have hD : va_D A [(aa, .inr (0, [.ref a1, .int rnZ_10, .int sl, .int 0, .int vv])), (a1, .inl (cI, 20, .inl faZ_11))] := hD
    refine lv_aload_n hx hb dX0_ask_135 rfl (lv_at hl 2 rfl) ?_
    refine va_get (ci := 0) (v := .int vv) (C := RX0) (T := TX0) (N := 5) hx hb hT wu_X0 hown hK hP 0 rfl rfl 4 (by decide) (hT _ wf_X0_36) (fun _ h9 => h9) rfl dX0_ask_136 ?_
    refine lv_isub hx hb dX0_ask_139 ?_
    exact retI C0 rfl (rnZ_10, faZ_11) trivial (hP.sub (ws' := [(aa, .inr (0, [.ref a1, .int rnZ_10, .int sl, .int 0, .int vv])), (a1, .inl (cI, 20, .inl faZ_11))]) [0, 1] rfl) (hD.sub (ws' := [(aa, .inr (0, [.ref a1, .int rnZ_10, .int sl, .int 0, .int vv])), (a1, .inl (cI, 20, .inl faZ_11))]) [0, 1] (by decide) rfl) hS (Nat.le_of_ble_eq_true rfl) (Nat.le_of_ble_eq_true rfl) dX0_ask_140
  · refine lv_iconst (v := 0) hx hb dX0_ask_19 (by decide) ?_
    exact retI C0 rfl (rn, fa) trivial (hP.sub (ws' := [(aa, .inr (0, [.ref a1, .int rn, .int sl, .int 0, .int vv])), (a1, .inl (cI, 20, .inl fa))]) [0, 1] rfl) (hD.sub (ws' := [(aa, .inr (0, [.ref a1, .int rn, .int sl, .int 0, .int vv])), (a1, .inl (cI, 20, .inl fa))]) [0, 1] (by decide) rfl) hS (Nat.le_of_ble_eq_true rfl) (Nat.le_of_ble_eq_true rfl) dX0_ask_20

set_option maxHeartbeats 4000000 in
set_option maxRecDepth 100000 in
theorem c_bodyOf_1_1 (l : Launch) (D : va_G) (cI cZ cQ cT : ClassId) (sz : Nat)   : MetI l yX0_bodyOf cX0_bodyOf 5 .int ({ frames := 0, cells := 0, slots := 0, locals := 0 } : Room) [.int 1, .int 1] D (TYS cI cZ cQ cT) EF sz [] (S := Unit) (fun (r : Int32) (_ : Unit) => r = 2) (fun _ => []) := by
  refine MetI.mk (lv := [(0, .int 1), (1, .int 1)]) (by decide +kernel) (Nat.le_of_ble_eq_true rfl) rfl ?_
  intro p e s m below meth c A ls C0 hP hD hS hX hl
  have C1 := C0
  obtain ⟨hx, hb, hr, hml, hown, hlocks, hname, hT, hN, hK, hA⟩ := C1
  obtain ⟨kab, hkz, hkT⟩ := hX.2.1
  obtain ⟨bdy, hbz, hbT⟩ := hX.2.2.1
  refine lv_iload_n hx hb dX0_bodyOf_0 rfl (lv_at hl 0 rfl) ?_
  refine lv_istore_n (lv' := [(2, .int 1), (0, .int 1), (1, .int 1)]) hx hb dX0_bodyOf_1 rfl hl (by decide) rfl (fun ls hl => ?_)
  refine lv_iconst (v := 0) hx hb dX0_bodyOf_2 (by decide) ?_
  refine lv_istore_n (lv' := [(3, .int 0), (2, .int 1), (0, .int 1), (1, .int 1)]) hx hb dX0_bodyOf_3 rfl hl (by decide) rfl (fun ls hl => ?_)
  refine lv_iload_n hx hb dX0_bodyOf_4 rfl (lv_at hl 0 rfl) ?_
  refine lv_bipush (v := 7) hx hb dX0_bodyOf_5 (by decide) ?_
  refine lv_icmp_ge (tgt := 69) hx hb dX0_bodyOf_7 (by decide) (fun c_0 => absurd c_0 (by decide)) (fun _ => ?_)
  refine lv_iload_n hx hb dX0_bodyOf_10 rfl (lv_at hl 1 rfl) ?_
  refine lv_if_lt (tgt := 69) hx hb dX0_bodyOf_11 (by decide) (fun c_0 => absurd c_0 (by decide)) (fun _ => ?_)
  refine lv_iload_n hx hb dX0_bodyOf_14 rfl (lv_at hl 1 rfl) ?_
  refine lv_bipush (v := 7) hx hb dX0_bodyOf_15 (by decide) ?_
  refine lv_icmp_ge (tgt := 69) hx hb dX0_bodyOf_17 (by decide) (fun c_0 => absurd c_0 (by decide)) (fun _ => ?_)
  refine lv_iload_n hx hb dX0_bodyOf_20 rfl (lv_at hl 1 rfl) ?_
  refine lv_iconst (v := 3) hx hb dX0_bodyOf_21 (by decide) ?_
  refine lv_imul hx hb dX0_bodyOf_22 ?_
  refine lv_ci 3 (by decide +kernel) ?_
  refine lv_iload_n hx hb dX0_bodyOf_23 rfl (lv_at hl 3 rfl) ?_
  refine lv_iadd hx hb dX0_bodyOf_24 ?_
  refine lv_ci 4 (by decide +kernel) ?_
  refine lv_istore (lv' := [(4, .int 4), (3, .int 0), (2, .int 1), (0, .int 1), (1, .int 1)]) hx hb dX0_bodyOf_25 hl (by decide) rfl (fun ls hl => ?_)
  refine lv_iload hx hb dX0_bodyOf_27 (lv_at hl 0 rfl) ?_
  refine lv_if_lt (tgt := 57) hx hb dX0_bodyOf_29 (by decide) (fun c_0 => absurd c_0 (by decide)) (fun _ => ?_)
  refine lv_iload hx hb dX0_bodyOf_32 (lv_at hl 0 rfl) ?_
  refine va_gets hx hb hbz hS hown (hT _ wf_X0_42) (fun _ h9 => h9) dX0_bodyOf_34 ?_
  refine va_tlen hx hb hbT hS (v := 21) rfl dX0_bodyOf_37 ?_
  refine lv_icmp_ge (tgt := 57) hx hb dX0_bodyOf_38 (by decide) (fun c_0 => absurd c_0 (by decide)) (fun _ => ?_)
  refine va_gets hx hb hbz hS hown (hT _ wf_X0_42) (fun _ h9 => h9) dX0_bodyOf_41 ?_
  refine lv_iload hx hb dX0_bodyOf_44 (lv_at hl 0 rfl) ?_
  refine va_ti hx hb hbT hS (vin _ _ (by decide +kernel)) (v := .int 0) rfl dX0_bodyOf_46 ?_
  refine lv_if_eq (tgt := 57) hx hb dX0_bodyOf_47 (by decide) (fun _ => ?_) (fun c_0 => absurd (by decide) c_0)
  refine va_getsN hx hb hkz hS hown (va_Nw.use rfl (hN.get 750 kf_X0_45 rfl)) (fun _ h9 => h9) dX0_bodyOf_57 ?_
  refine lv_iload_n hx hb dX0_bodyOf_60 rfl (lv_at hl 2 rfl) ?_
  refine va_ti hx hb hkT hS (vin _ _ (by decide +kernel)) (v := .int 0) rfl dX0_bodyOf_61 ?_
  refine lv_istore_n (lv' := [(2, .int 0), (4, .int 4), (3, .int 0), (0, .int 1), (1, .int 1)]) hx hb dX0_bodyOf_62 rfl hl (by decide) rfl (fun ls hl => ?_)
  refine lv_iinc (v := 1) (lv' := [(3, .int 1), (2, .int 0), (4, .int 4), (0, .int 1), (1, .int 1)]) hx hb dX0_bodyOf_63 hl (k := 2) rfl (by decide) (by decide) rfl (fun ls hl => ?_)
  refine lv_goto (tgt := 4) hx hb dX0_bodyOf_66 (by decide) ?_
  refine lv_iload_n hx hb dX0_bodyOf_4 rfl (lv_at hl 0 rfl) ?_
  refine lv_bipush (v := 7) hx hb dX0_bodyOf_5 (by decide) ?_
  refine lv_icmp_ge (tgt := 69) hx hb dX0_bodyOf_7 (by decide) (fun c_0 => absurd c_0 (by decide)) (fun _ => ?_)
  refine lv_iload_n hx hb dX0_bodyOf_10 rfl (lv_at hl 1 rfl) ?_
  refine lv_if_lt (tgt := 69) hx hb dX0_bodyOf_11 (by decide) (fun c_0 => absurd c_0 (by decide)) (fun _ => ?_)
  refine lv_iload_n hx hb dX0_bodyOf_14 rfl (lv_at hl 1 rfl) ?_
  refine lv_bipush (v := 7) hx hb dX0_bodyOf_15 (by decide) ?_
  refine lv_icmp_ge (tgt := 69) hx hb dX0_bodyOf_17 (by decide) (fun c_0 => absurd c_0 (by decide)) (fun _ => ?_)
  refine lv_iload_n hx hb dX0_bodyOf_20 rfl (lv_at hl 1 rfl) ?_
  refine lv_iconst (v := 3) hx hb dX0_bodyOf_21 (by decide) ?_
  refine lv_imul hx hb dX0_bodyOf_22 ?_
  refine lv_ci 0 (by decide +kernel) ?_
  refine lv_iload_n hx hb dX0_bodyOf_23 rfl (lv_at hl 4 rfl) ?_
  refine lv_iadd hx hb dX0_bodyOf_24 ?_
  refine lv_ci 1 (by decide +kernel) ?_
  refine lv_istore (lv' := [(4, .int 1), (3, .int 1), (2, .int 0), (0, .int 1), (1, .int 1)]) hx hb dX0_bodyOf_25 hl (by decide) rfl (fun ls hl => ?_)
  refine lv_iload hx hb dX0_bodyOf_27 (lv_at hl 0 rfl) ?_
  refine lv_if_lt (tgt := 57) hx hb dX0_bodyOf_29 (by decide) (fun c_0 => absurd c_0 (by decide)) (fun _ => ?_)
  refine lv_iload hx hb dX0_bodyOf_32 (lv_at hl 0 rfl) ?_
  refine va_gets hx hb hbz hS hown (hT _ wf_X0_42) (fun _ h9 => h9) dX0_bodyOf_34 ?_
  refine va_tlen hx hb hbT hS (v := 21) rfl dX0_bodyOf_37 ?_
  refine lv_icmp_ge (tgt := 57) hx hb dX0_bodyOf_38 (by decide) (fun c_0 => absurd c_0 (by decide)) (fun _ => ?_)
  refine va_gets hx hb hbz hS hown (hT _ wf_X0_42) (fun _ h9 => h9) dX0_bodyOf_41 ?_
  refine lv_iload hx hb dX0_bodyOf_44 (lv_at hl 0 rfl) ?_
  refine va_ti hx hb hbT hS (vin _ _ (by decide +kernel)) (v := .int 2) rfl dX0_bodyOf_46 ?_
  refine lv_if_eq (tgt := 57) hx hb dX0_bodyOf_47 (by decide) (fun c_0 => absurd c_0 (by decide)) (fun _ => ?_)
  refine va_gets hx hb hbz hS hown (hT _ wf_X0_42) (fun _ h9 => h9) dX0_bodyOf_50 ?_
  refine lv_iload hx hb dX0_bodyOf_53 (lv_at hl 0 rfl) ?_
  refine va_ti hx hb hbT hS (vin _ _ (by decide +kernel)) (v := .int 2) rfl dX0_bodyOf_55 ?_
  exact retI C0 rfl () rfl (hP.sub (ws' := []) [] rfl) (hD.sub (ws' := []) [] (by decide) rfl) hS (Nat.le_of_ble_eq_true rfl) (Nat.le_of_ble_eq_true rfl) dX0_bodyOf_56

set_option maxHeartbeats 4000000 in
set_option maxRecDepth 100000 in
theorem c_ask_1_1_1 (l : Launch) (D : va_G) (cI cZ cQ cT : ClassId) (sz : Nat) (aa : Nat) (xx : Int32) (dp : Int32) (a1 : Nat) (rn : Int32) (sl : Int32) (vv : Int32) (fa : Nat → Int32)  : MetI l yX0_ask cX0_ask 7 .int ({ frames := 3, cells := 0, slots := 0, locals := 76 } : Room) [.ref aa, .int 1, .int 1, .int xx, .int dp] D (TYS cI cZ cQ cT) EF sz [(aa, .inr (0, [.ref a1, .int rn, .int sl, .int 1, .int vv])), (a1, .inl (cI, 20, .inl fa))] (S := Int32 × (Nat → Int32)) (fun (r : Int32) (_ : Int32 × (Nat → Int32)) => True) (fun u => [(aa, .inr (0, [.ref a1, .int u.1, .int sl, .int 1, .int vv])), (a1, .inl (cI, 20, .inl u.2))]) := by
  refine MetI.mk (lv := [(0, .ref aa), (1, .int 1), (2, .int 1), (3, .int xx), (4, .int dp)]) (by decide +kernel) (Nat.le_of_ble_eq_true rfl) rfl ?_
  intro p e s m below meth c A ls C0 hP hD hS hX hl
  have C1 := C0
  obtain ⟨hx, hb, hr, hml, hown, hlocks, hname, hT, hN, hK, hA⟩ := C1
  refine lv_iload_n hx hb dX0_ask_0 rfl (lv_at hl 1 rfl) ?_
  refine lv_iload_n hx hb dX0_ask_1 rfl (lv_at hl 2 rfl) ?_
  refine contI (wc := []) (wr := [(aa, .inr (0, [.ref a1, .int rn, .int sl, .int 1, .int vv])), (a1, .inl (cI, 20, .inl fa))]) C0 hP hD hS [] [0, 1] rfl rfl (by decide) (by decide) 0 0 (Nat.le_of_ble_eq_true rfl) (Nat.le_of_ble_eq_true rfl) (runS (k := 2) (As := [.int 1, .int 1]) (rest := []) C0 (c_bodyOf_1_1 l D cI cZ cQ cT _ ) wc_X0_bodyOf wl_X0_48 wt_X0_bodyOf wz_X0 ⟨by decide, by decide, by decide +kernel⟩ ⟨(Nat.le_of_ble_eq_true rfl), (Nat.le_of_ble_eq_true rfl)⟩ hP hD hS EF.ok hX [] rfl (by decide) rfl hl.1 rfl (Nat.le_of_ble_eq_true rfl) dX0_ask_2 ⟨(Nat.le_of_ble_eq_true rfl), (Nat.le_of_ble_eq_true rfl)⟩) (fun r_3 u_1 H locs w_2 hP hD hS => ?_)
  have hP : va_P D CL [(aa, .inr (0, [.ref a1, .int rn, .int sl, .int 1, .int vv])), (a1, .inl (cI, 20, .inl fa))] H := hP
  have hD : va_D A [(aa, .inr (0, [.ref a1, .int rn, .int sl, .int 1, .int vv])), (a1, .inl (cI, 20, .inl fa))] := hD
  obtain rfl : r_3 = 2 := w_2
  refine lv_istore (lv' := [(5, .int 2), (0, .ref aa), (1, .int 1), (2, .int 1), (3, .int xx), (4, .int dp)]) hx hb dX0_ask_5 hl (by decide) rfl (fun ls hl => ?_)
  refine lv_iload hx hb dX0_ask_7 (lv_at hl 0 rfl) ?_
  refine lv_if_eq (tgt := 19) hx hb dX0_ask_9 (by decide) (fun c_0 => absurd c_0 (by decide)) (fun _ => ?_)
  refine lv_iload hx hb dX0_ask_12 (lv_at hl 5 rfl) ?_
  refine lv_bipush (v := 40) hx hb dX0_ask_14 (by decide) ?_
  refine lv_icmp_le (tgt := 21) hx hb dX0_ask_16 (by decide) (fun c_4 => ?_) (fun c_4 => ?_)
  · refine lv_aload_n hx hb dX0_ask_21 rfl (lv_at hl 1 rfl) ?_
    refine lv_iload hx hb dX0_ask_22 (lv_at hl 0 rfl) ?_
    refine contV (wc := [(aa, .inr (0, [.ref a1, .int rn, .int sl, .int 1, .int vv])), (a1, .inl (cI, 20, .inl fa))]) (wr := []) C0 hP hD hS [0, 1] [] rfl rfl (by decide) (by decide) 0 0 (Nat.le_of_ble_eq_true rfl) (Nat.le_of_ble_eq_true rfl) (runV (k := 1) (As := [.int 2]) (rest := []) C0 (c_begin l D cI cZ cQ cT _ aa 2 a1 rn sl 1 vv fa) wc_X0_begin wl_X0_52 wi_X0_begin we_X0_begin wz_X0 ⟨by decide, by decide, by decide +kernel⟩ ⟨(Nat.le_of_ble_eq_true rfl), (Nat.le_of_ble_eq_true rfl)⟩ hP hD hS EF.ok hX [0, 1] rfl (by decide) 0 rfl rfl rfl rfl hl.1 rfl (Nat.le_of_ble_eq_true rfl) dX0_ask_24 ⟨(Nat.le_of_ble_eq_true rfl), (Nat.le_of_ble_eq_true rfl)⟩) (fun u_7 H locs w_8 hP hD hS => ?_)
    obtain ⟨rnZ_5, faZ_6⟩ := u_7
    have hP : va_P D CL [(aa, .inr (0, [.ref a1, .int rnZ_5, .int sl, .int 1, .int vv])), (a1, .inl (cI, 20, .inl faZ_6))] H := hP
    have hD : va_D A [(aa, .inr (0, [.ref a1, .int rnZ_5, .int sl, .int 1, .int vv])), (a1, .inl (cI, 20, .inl faZ_6))] := hD
    refine lv_iload hx hb dX0_ask_27 (lv_at hl 5 rfl) ?_
    refine lv_iconst (v := 1) hx hb dX0_ask_29 (by decide) ?_
    refine lv_iadd hx hb dX0_ask_30 ?_
    refine lv_istore (lv' := [(6, .int (dp + (1 : Int32))), (5, .int 2), (0, .ref aa), (1, .int 1), (2, .int 1), (3, .int xx), (4, .int dp)]) hx hb dX0_ask_31 hl (by decide) rfl (fun ls hl => ?_)
    refine lv_iload hx hb dX0_ask_33 (lv_at hl 1 rfl) ?_
    refine lv_lookup (off := 88) (tgt := 123) hx hb dX0_ask_35 (by decide) (by decide) (by decide) ?_
    refine lv_aload_n hx hb dX0_ask_123 rfl (lv_at hl 2 rfl) ?_
    refine lv_aload_n hx hb dX0_ask_124 rfl (lv_at hl 2 rfl) ?_
    refine va_get (ci := 0) (v := .int 1) (C := RX0) (T := TX0) (N := 5) hx hb hT wu_X0 hown hK hP 0 rfl rfl 3 (by decide) (hT _ wf_X0_31) (fun _ h9 => h9) rfl dX0_ask_125 ?_
    refine lv_iconst (v := 0) hx hb dX0_ask_128 (by decide) ?_
    refine lv_iload_n hx hb dX0_ask_129 rfl (lv_at hl 5 rfl) ?_
    refine lv_iload hx hb dX0_ask_130 (lv_at hl 0 rfl) ?_
    refine contI (wc := [(aa, .inr (0, [.ref a1, .int rnZ_5, .int sl, .int 1, .int vv])), (a1, .inl (cI, 20, .inl faZ_6))]) (wr := []) C0 hP hD hS [0, 1] [] rfl rfl (by decide) (by decide) 0 0 (Nat.le_of_ble_eq_true rfl) (Nat.le_of_ble_eq_true rfl) (runV (k := 4) (As := [.int 1, .int 0, .int xx, .int (dp + (1 : Int32))]) (rest := []) C0 (c_ask_1_1_0 l D cI cZ cQ cT _ aa xx (dp + (1 : Int32)) a1 rnZ_5 sl vv faZ_6) wc_X0_ask wl_X0_38 wi_X0_ask we_X0_ask wz_X0 ⟨by decide, by decide, by decide +kernel⟩ ⟨(Nat.le_of_ble_eq_true rfl), (Nat.le_of_ble_eq_true rfl)⟩ hP hD hS EF.ok hX [0, 1] rfl (by decide) 0 rfl rfl rfl rfl hl.1 rfl (Nat.le_of_ble_eq_true rfl) dX0_ask_132 ⟨(Nat.le_of_ble_eq_true rfl), (Nat.le_of_ble_eq_true rfl)⟩) (fun r_14 u_12 H locs w_13 hP hD hS => ?_)
    obtain ⟨rnZ_10, faZ_11⟩ := u_12
    have hP : va_P D CL [(aa, .inr (0, [.ref a1, .int rnZ_10, .int sl, .int 1, .int vv])), (a1, .inl (cI, 20, .inl faZ_11))] H := hP
    have hD : va_D A [(aa, .inr (0, [.ref a1, .int rnZ_10, .int sl, .int 1, .int vv])), (a1, .inl (cI, 20, .inl faZ_11))] := hD
    refine lv_aload_n hx hb dX0_ask_135 rfl (lv_at hl 2 rfl) ?_
    refine va_get (ci := 0) (v := .int vv) (C := RX0) (T := TX0) (N := 5) hx hb hT wu_X0 hown hK hP 0 rfl rfl 4 (by decide) (hT _ wf_X0_36) (fun _ h9 => h9) rfl dX0_ask_136 ?_
    refine lv_isub hx hb dX0_ask_139 ?_
    exact retI C0 rfl (rnZ_10, faZ_11) trivial (hP.sub (ws' := [(aa, .inr (0, [.ref a1, .int rnZ_10, .int sl, .int 1, .int vv])), (a1, .inl (cI, 20, .inl faZ_11))]) [0, 1] rfl) (hD.sub (ws' := [(aa, .inr (0, [.ref a1, .int rnZ_10, .int sl, .int 1, .int vv])), (a1, .inl (cI, 20, .inl faZ_11))]) [0, 1] (by decide) rfl) hS (Nat.le_of_ble_eq_true rfl) (Nat.le_of_ble_eq_true rfl) dX0_ask_140
  · refine lv_iconst (v := 0) hx hb dX0_ask_19 (by decide) ?_
    exact retI C0 rfl (rn, fa) trivial (hP.sub (ws' := [(aa, .inr (0, [.ref a1, .int rn, .int sl, .int 1, .int vv])), (a1, .inl (cI, 20, .inl fa))]) [0, 1] rfl) (hD.sub (ws' := [(aa, .inr (0, [.ref a1, .int rn, .int sl, .int 1, .int vv])), (a1, .inl (cI, 20, .inl fa))]) [0, 1] (by decide) rfl) hS (Nat.le_of_ble_eq_true rfl) (Nat.le_of_ble_eq_true rfl) dX0_ask_20

set_option maxHeartbeats 4000000 in
set_option maxRecDepth 100000 in
theorem c_bodyOf_2_1 (l : Launch) (D : va_G) (cI cZ cQ cT : ClassId) (sz : Nat)   : MetI l yX0_bodyOf cX0_bodyOf 5 .int ({ frames := 0, cells := 0, slots := 0, locals := 0 } : Room) [.int 2, .int 1] D (TYS cI cZ cQ cT) EF sz [] (S := Unit) (fun (r : Int32) (_ : Unit) => r = 21) (fun _ => []) := by
  refine MetI.mk (lv := [(0, .int 2), (1, .int 1)]) (by decide +kernel) (Nat.le_of_ble_eq_true rfl) rfl ?_
  intro p e s m below meth c A ls C0 hP hD hS hX hl
  have C1 := C0
  obtain ⟨hx, hb, hr, hml, hown, hlocks, hname, hT, hN, hK, hA⟩ := C1
  obtain ⟨kab, hkz, hkT⟩ := hX.2.1
  obtain ⟨bdy, hbz, hbT⟩ := hX.2.2.1
  refine lv_iload_n hx hb dX0_bodyOf_0 rfl (lv_at hl 0 rfl) ?_
  refine lv_istore_n (lv' := [(2, .int 2), (0, .int 2), (1, .int 1)]) hx hb dX0_bodyOf_1 rfl hl (by decide) rfl (fun ls hl => ?_)
  refine lv_iconst (v := 0) hx hb dX0_bodyOf_2 (by decide) ?_
  refine lv_istore_n (lv' := [(3, .int 0), (2, .int 2), (0, .int 2), (1, .int 1)]) hx hb dX0_bodyOf_3 rfl hl (by decide) rfl (fun ls hl => ?_)
  refine lv_iload_n hx hb dX0_bodyOf_4 rfl (lv_at hl 0 rfl) ?_
  refine lv_bipush (v := 7) hx hb dX0_bodyOf_5 (by decide) ?_
  refine lv_icmp_ge (tgt := 69) hx hb dX0_bodyOf_7 (by decide) (fun c_0 => absurd c_0 (by decide)) (fun _ => ?_)
  refine lv_iload_n hx hb dX0_bodyOf_10 rfl (lv_at hl 1 rfl) ?_
  refine lv_if_lt (tgt := 69) hx hb dX0_bodyOf_11 (by decide) (fun c_0 => absurd c_0 (by decide)) (fun _ => ?_)
  refine lv_iload_n hx hb dX0_bodyOf_14 rfl (lv_at hl 1 rfl) ?_
  refine lv_bipush (v := 7) hx hb dX0_bodyOf_15 (by decide) ?_
  refine lv_icmp_ge (tgt := 69) hx hb dX0_bodyOf_17 (by decide) (fun c_0 => absurd c_0 (by decide)) (fun _ => ?_)
  refine lv_iload_n hx hb dX0_bodyOf_20 rfl (lv_at hl 1 rfl) ?_
  refine lv_iconst (v := 3) hx hb dX0_bodyOf_21 (by decide) ?_
  refine lv_imul hx hb dX0_bodyOf_22 ?_
  refine lv_ci 6 (by decide +kernel) ?_
  refine lv_iload_n hx hb dX0_bodyOf_23 rfl (lv_at hl 3 rfl) ?_
  refine lv_iadd hx hb dX0_bodyOf_24 ?_
  refine lv_ci 7 (by decide +kernel) ?_
  refine lv_istore (lv' := [(4, .int 7), (3, .int 0), (2, .int 2), (0, .int 2), (1, .int 1)]) hx hb dX0_bodyOf_25 hl (by decide) rfl (fun ls hl => ?_)
  refine lv_iload hx hb dX0_bodyOf_27 (lv_at hl 0 rfl) ?_
  refine lv_if_lt (tgt := 57) hx hb dX0_bodyOf_29 (by decide) (fun c_0 => absurd c_0 (by decide)) (fun _ => ?_)
  refine lv_iload hx hb dX0_bodyOf_32 (lv_at hl 0 rfl) ?_
  refine va_gets hx hb hbz hS hown (hT _ wf_X0_42) (fun _ h9 => h9) dX0_bodyOf_34 ?_
  refine va_tlen hx hb hbT hS (v := 21) rfl dX0_bodyOf_37 ?_
  refine lv_icmp_ge (tgt := 57) hx hb dX0_bodyOf_38 (by decide) (fun c_0 => absurd c_0 (by decide)) (fun _ => ?_)
  refine va_gets hx hb hbz hS hown (hT _ wf_X0_42) (fun _ h9 => h9) dX0_bodyOf_41 ?_
  refine lv_iload hx hb dX0_bodyOf_44 (lv_at hl 0 rfl) ?_
  refine va_ti hx hb hbT hS (vin _ _ (by decide +kernel)) (v := .int 21) rfl dX0_bodyOf_46 ?_
  refine lv_if_eq (tgt := 57) hx hb dX0_bodyOf_47 (by decide) (fun c_0 => absurd c_0 (by decide)) (fun _ => ?_)
  refine va_gets hx hb hbz hS hown (hT _ wf_X0_42) (fun _ h9 => h9) dX0_bodyOf_50 ?_
  refine lv_iload hx hb dX0_bodyOf_53 (lv_at hl 0 rfl) ?_
  refine va_ti hx hb hbT hS (vin _ _ (by decide +kernel)) (v := .int 21) rfl dX0_bodyOf_55 ?_
  exact retI C0 rfl () rfl (hP.sub (ws' := []) [] rfl) (hD.sub (ws' := []) [] (by decide) rfl) hS (Nat.le_of_ble_eq_true rfl) (Nat.le_of_ble_eq_true rfl) dX0_bodyOf_56

set_option maxHeartbeats 4000000 in
set_option maxRecDepth 100000 in
theorem c_ask_2_0_1 (l : Launch) (D : va_G) (cI cZ cQ cT : ClassId) (sz : Nat) (aa : Nat) (xx : Int32) (dp : Int32) (a1 : Nat) (rn : Int32) (sl : Int32) (vv : Int32) (fa : Nat → Int32)  : MetI l yX0_ask cX0_ask 7 .int ({ frames := 2, cells := 0, slots := 0, locals := 50 } : Room) [.ref aa, .int 0, .int 1, .int xx, .int dp] D (TYS cI cZ cQ cT) EF sz [(aa, .inr (0, [.ref a1, .int rn, .int sl, .int 2, .int vv])), (a1, .inl (cI, 20, .inl fa))] (S := Int32 × (Nat → Int32)) (fun (r : Int32) (_ : Int32 × (Nat → Int32)) => True) (fun u => [(aa, .inr (0, [.ref a1, .int u.1, .int sl, .int 2, .int vv])), (a1, .inl (cI, 20, .inl u.2))]) := by
  refine MetI.mk (lv := [(0, .ref aa), (1, .int 0), (2, .int 1), (3, .int xx), (4, .int dp)]) (by decide +kernel) (Nat.le_of_ble_eq_true rfl) rfl ?_
  intro p e s m below meth c A ls C0 hP hD hS hX hl
  have C1 := C0
  obtain ⟨hx, hb, hr, hml, hown, hlocks, hname, hT, hN, hK, hA⟩ := C1
  refine lv_iload_n hx hb dX0_ask_0 rfl (lv_at hl 1 rfl) ?_
  refine lv_iload_n hx hb dX0_ask_1 rfl (lv_at hl 2 rfl) ?_
  refine contI (wc := []) (wr := [(aa, .inr (0, [.ref a1, .int rn, .int sl, .int 2, .int vv])), (a1, .inl (cI, 20, .inl fa))]) C0 hP hD hS [] [0, 1] rfl rfl (by decide) (by decide) 0 0 (Nat.le_of_ble_eq_true rfl) (Nat.le_of_ble_eq_true rfl) (runS (k := 2) (As := [.int 0, .int 1]) (rest := []) C0 (c_bodyOf_0_1 l D cI cZ cQ cT _ ) wc_X0_bodyOf wl_X0_48 wt_X0_bodyOf wz_X0 ⟨by decide, by decide, by decide +kernel⟩ ⟨(Nat.le_of_ble_eq_true rfl), (Nat.le_of_ble_eq_true rfl)⟩ hP hD hS EF.ok hX [] rfl (by decide) rfl hl.1 rfl (Nat.le_of_ble_eq_true rfl) dX0_ask_2 ⟨(Nat.le_of_ble_eq_true rfl), (Nat.le_of_ble_eq_true rfl)⟩) (fun r_3 u_1 H locs w_2 hP hD hS => ?_)
  have hP : va_P D CL [(aa, .inr (0, [.ref a1, .int rn, .int sl, .int 2, .int vv])), (a1, .inl (cI, 20, .inl fa))] H := hP
  have hD : va_D A [(aa, .inr (0, [.ref a1, .int rn, .int sl, .int 2, .int vv])), (a1, .inl (cI, 20, .inl fa))] := hD
  obtain rfl : r_3 = 2 := w_2
  refine lv_istore (lv' := [(5, .int 2), (0, .ref aa), (1, .int 0), (2, .int 1), (3, .int xx), (4, .int dp)]) hx hb dX0_ask_5 hl (by decide) rfl (fun ls hl => ?_)
  refine lv_iload hx hb dX0_ask_7 (lv_at hl 0 rfl) ?_
  refine lv_if_eq (tgt := 19) hx hb dX0_ask_9 (by decide) (fun c_0 => absurd c_0 (by decide)) (fun _ => ?_)
  refine lv_iload hx hb dX0_ask_12 (lv_at hl 5 rfl) ?_
  refine lv_bipush (v := 40) hx hb dX0_ask_14 (by decide) ?_
  refine lv_icmp_le (tgt := 21) hx hb dX0_ask_16 (by decide) (fun c_4 => ?_) (fun c_4 => ?_)
  · refine lv_aload_n hx hb dX0_ask_21 rfl (lv_at hl 1 rfl) ?_
    refine lv_iload hx hb dX0_ask_22 (lv_at hl 0 rfl) ?_
    refine contV (wc := [(aa, .inr (0, [.ref a1, .int rn, .int sl, .int 2, .int vv])), (a1, .inl (cI, 20, .inl fa))]) (wr := []) C0 hP hD hS [0, 1] [] rfl rfl (by decide) (by decide) 0 0 (Nat.le_of_ble_eq_true rfl) (Nat.le_of_ble_eq_true rfl) (runV (k := 1) (As := [.int 2]) (rest := []) C0 (c_begin l D cI cZ cQ cT _ aa 2 a1 rn sl 2 vv fa) wc_X0_begin wl_X0_52 wi_X0_begin we_X0_begin wz_X0 ⟨by decide, by decide, by decide +kernel⟩ ⟨(Nat.le_of_ble_eq_true rfl), (Nat.le_of_ble_eq_true rfl)⟩ hP hD hS EF.ok hX [0, 1] rfl (by decide) 0 rfl rfl rfl rfl hl.1 rfl (Nat.le_of_ble_eq_true rfl) dX0_ask_24 ⟨(Nat.le_of_ble_eq_true rfl), (Nat.le_of_ble_eq_true rfl)⟩) (fun u_7 H locs w_8 hP hD hS => ?_)
    obtain ⟨rnZ_5, faZ_6⟩ := u_7
    have hP : va_P D CL [(aa, .inr (0, [.ref a1, .int rnZ_5, .int sl, .int 2, .int vv])), (a1, .inl (cI, 20, .inl faZ_6))] H := hP
    have hD : va_D A [(aa, .inr (0, [.ref a1, .int rnZ_5, .int sl, .int 2, .int vv])), (a1, .inl (cI, 20, .inl faZ_6))] := hD
    refine lv_iload hx hb dX0_ask_27 (lv_at hl 5 rfl) ?_
    refine lv_iconst (v := 1) hx hb dX0_ask_29 (by decide) ?_
    refine lv_iadd hx hb dX0_ask_30 ?_
    refine lv_istore (lv' := [(6, .int (dp + (1 : Int32))), (5, .int 2), (0, .ref aa), (1, .int 0), (2, .int 1), (3, .int xx), (4, .int dp)]) hx hb dX0_ask_31 hl (by decide) rfl (fun ls hl => ?_)
    refine lv_iload hx hb dX0_ask_33 (lv_at hl 1 rfl) ?_
    refine lv_lookup (off := 88) (tgt := 123) hx hb dX0_ask_35 (by decide) (by decide) (by decide) ?_
    refine lv_aload_n hx hb dX0_ask_123 rfl (lv_at hl 2 rfl) ?_
    refine lv_aload_n hx hb dX0_ask_124 rfl (lv_at hl 2 rfl) ?_
    refine va_get (ci := 0) (v := .int 2) (C := RX0) (T := TX0) (N := 5) hx hb hT wu_X0 hown hK hP 0 rfl rfl 3 (by decide) (hT _ wf_X0_31) (fun _ h9 => h9) rfl dX0_ask_125 ?_
    refine lv_iconst (v := 0) hx hb dX0_ask_128 (by decide) ?_
    refine lv_iload_n hx hb dX0_ask_129 rfl (lv_at hl 5 rfl) ?_
    refine lv_iload hx hb dX0_ask_130 (lv_at hl 0 rfl) ?_
    refine contI (wc := [(aa, .inr (0, [.ref a1, .int rnZ_5, .int sl, .int 2, .int vv])), (a1, .inl (cI, 20, .inl faZ_6))]) (wr := []) C0 hP hD hS [0, 1] [] rfl rfl (by decide) (by decide) 0 0 (Nat.le_of_ble_eq_true rfl) (Nat.le_of_ble_eq_true rfl) (runV (k := 4) (As := [.int 2, .int 0, .int xx, .int (dp + (1 : Int32))]) (rest := []) C0 (c_ask_2_2_0 l D cI cZ cQ cT _ aa xx (dp + (1 : Int32)) a1 rnZ_5 sl vv faZ_6) wc_X0_ask wl_X0_38 wi_X0_ask we_X0_ask wz_X0 ⟨by decide, by decide, by decide +kernel⟩ ⟨(Nat.le_of_ble_eq_true rfl), (Nat.le_of_ble_eq_true rfl)⟩ hP hD hS EF.ok hX [0, 1] rfl (by decide) 0 rfl rfl rfl rfl hl.1 rfl (Nat.le_of_ble_eq_true rfl) dX0_ask_132 ⟨(Nat.le_of_ble_eq_true rfl), (Nat.le_of_ble_eq_true rfl)⟩) (fun r_14 u_12 H locs w_13 hP hD hS => ?_)
    obtain ⟨rnZ_10, faZ_11⟩ := u_12
    have hP : va_P D CL [(aa, .inr (0, [.ref a1, .int rnZ_10, .int sl, .int 2, .int vv])), (a1, .inl (cI, 20, .inl faZ_11))] H := hP
    have hD : va_D A [(aa, .inr (0, [.ref a1, .int rnZ_10, .int sl, .int 2, .int vv])), (a1, .inl (cI, 20, .inl faZ_11))] := hD
    refine lv_aload_n hx hb dX0_ask_135 rfl (lv_at hl 2 rfl) ?_
    refine va_get (ci := 0) (v := .int vv) (C := RX0) (T := TX0) (N := 5) hx hb hT wu_X0 hown hK hP 0 rfl rfl 4 (by decide) (hT _ wf_X0_36) (fun _ h9 => h9) rfl dX0_ask_136 ?_
    refine lv_isub hx hb dX0_ask_139 ?_
    exact retI C0 rfl (rnZ_10, faZ_11) trivial (hP.sub (ws' := [(aa, .inr (0, [.ref a1, .int rnZ_10, .int sl, .int 2, .int vv])), (a1, .inl (cI, 20, .inl faZ_11))]) [0, 1] rfl) (hD.sub (ws' := [(aa, .inr (0, [.ref a1, .int rnZ_10, .int sl, .int 2, .int vv])), (a1, .inl (cI, 20, .inl faZ_11))]) [0, 1] (by decide) rfl) hS (Nat.le_of_ble_eq_true rfl) (Nat.le_of_ble_eq_true rfl) dX0_ask_140
  · refine lv_iconst (v := 0) hx hb dX0_ask_19 (by decide) ?_
    exact retI C0 rfl (rn, fa) trivial (hP.sub (ws' := [(aa, .inr (0, [.ref a1, .int rn, .int sl, .int 2, .int vv])), (a1, .inl (cI, 20, .inl fa))]) [0, 1] rfl) (hD.sub (ws' := [(aa, .inr (0, [.ref a1, .int rn, .int sl, .int 2, .int vv])), (a1, .inl (cI, 20, .inl fa))]) [0, 1] (by decide) rfl) hS (Nat.le_of_ble_eq_true rfl) (Nat.le_of_ble_eq_true rfl) dX0_ask_20

set_option maxHeartbeats 4000000 in
set_option maxRecDepth 100000 in
theorem c_ask_2_2_1 (l : Launch) (D : va_G) (cI cZ cQ cT : ClassId) (sz : Nat) (aa : Nat) (xx : Int32) (dp : Int32) (a1 : Nat) (rn : Int32) (sl : Int32) (vv : Int32) (fa : Nat → Int32)  : MetI l yX0_ask cX0_ask 7 .int ({ frames := 3, cells := 0, slots := 0, locals := 76 } : Room) [.ref aa, .int 2, .int 1, .int xx, .int dp] D (TYS cI cZ cQ cT) EF sz [(aa, .inr (0, [.ref a1, .int rn, .int sl, .int 2, .int vv])), (a1, .inl (cI, 20, .inl fa))] (S := Int32 × (Nat → Int32)) (fun (r : Int32) (_ : Int32 × (Nat → Int32)) => True) (fun u => [(aa, .inr (0, [.ref a1, .int u.1, .int sl, .int 2, .int vv])), (a1, .inl (cI, 20, .inl u.2))]) := by
  refine MetI.mk (lv := [(0, .ref aa), (1, .int 2), (2, .int 1), (3, .int xx), (4, .int dp)]) (by decide +kernel) (Nat.le_of_ble_eq_true rfl) rfl ?_
  intro p e s m below meth c A ls C0 hP hD hS hX hl
  have C1 := C0
  obtain ⟨hx, hb, hr, hml, hown, hlocks, hname, hT, hN, hK, hA⟩ := C1
  refine lv_iload_n hx hb dX0_ask_0 rfl (lv_at hl 1 rfl) ?_
  refine lv_iload_n hx hb dX0_ask_1 rfl (lv_at hl 2 rfl) ?_
  refine contI (wc := []) (wr := [(aa, .inr (0, [.ref a1, .int rn, .int sl, .int 2, .int vv])), (a1, .inl (cI, 20, .inl fa))]) C0 hP hD hS [] [0, 1] rfl rfl (by decide) (by decide) 0 0 (Nat.le_of_ble_eq_true rfl) (Nat.le_of_ble_eq_true rfl) (runS (k := 2) (As := [.int 2, .int 1]) (rest := []) C0 (c_bodyOf_2_1 l D cI cZ cQ cT _ ) wc_X0_bodyOf wl_X0_48 wt_X0_bodyOf wz_X0 ⟨by decide, by decide, by decide +kernel⟩ ⟨(Nat.le_of_ble_eq_true rfl), (Nat.le_of_ble_eq_true rfl)⟩ hP hD hS EF.ok hX [] rfl (by decide) rfl hl.1 rfl (Nat.le_of_ble_eq_true rfl) dX0_ask_2 ⟨(Nat.le_of_ble_eq_true rfl), (Nat.le_of_ble_eq_true rfl)⟩) (fun r_3 u_1 H locs w_2 hP hD hS => ?_)
  have hP : va_P D CL [(aa, .inr (0, [.ref a1, .int rn, .int sl, .int 2, .int vv])), (a1, .inl (cI, 20, .inl fa))] H := hP
  have hD : va_D A [(aa, .inr (0, [.ref a1, .int rn, .int sl, .int 2, .int vv])), (a1, .inl (cI, 20, .inl fa))] := hD
  obtain rfl : r_3 = 21 := w_2
  refine lv_istore (lv' := [(5, .int 21), (0, .ref aa), (1, .int 2), (2, .int 1), (3, .int xx), (4, .int dp)]) hx hb dX0_ask_5 hl (by decide) rfl (fun ls hl => ?_)
  refine lv_iload hx hb dX0_ask_7 (lv_at hl 0 rfl) ?_
  refine lv_if_eq (tgt := 19) hx hb dX0_ask_9 (by decide) (fun c_0 => absurd c_0 (by decide)) (fun _ => ?_)
  refine lv_iload hx hb dX0_ask_12 (lv_at hl 5 rfl) ?_
  refine lv_bipush (v := 40) hx hb dX0_ask_14 (by decide) ?_
  refine lv_icmp_le (tgt := 21) hx hb dX0_ask_16 (by decide) (fun c_4 => ?_) (fun c_4 => ?_)
  · refine lv_aload_n hx hb dX0_ask_21 rfl (lv_at hl 1 rfl) ?_
    refine lv_iload hx hb dX0_ask_22 (lv_at hl 0 rfl) ?_
    refine contV (wc := [(aa, .inr (0, [.ref a1, .int rn, .int sl, .int 2, .int vv])), (a1, .inl (cI, 20, .inl fa))]) (wr := []) C0 hP hD hS [0, 1] [] rfl rfl (by decide) (by decide) 0 0 (Nat.le_of_ble_eq_true rfl) (Nat.le_of_ble_eq_true rfl) (runV (k := 1) (As := [.int 21]) (rest := []) C0 (c_begin l D cI cZ cQ cT _ aa 21 a1 rn sl 2 vv fa) wc_X0_begin wl_X0_52 wi_X0_begin we_X0_begin wz_X0 ⟨by decide, by decide, by decide +kernel⟩ ⟨(Nat.le_of_ble_eq_true rfl), (Nat.le_of_ble_eq_true rfl)⟩ hP hD hS EF.ok hX [0, 1] rfl (by decide) 0 rfl rfl rfl rfl hl.1 rfl (Nat.le_of_ble_eq_true rfl) dX0_ask_24 ⟨(Nat.le_of_ble_eq_true rfl), (Nat.le_of_ble_eq_true rfl)⟩) (fun u_7 H locs w_8 hP hD hS => ?_)
    obtain ⟨rnZ_5, faZ_6⟩ := u_7
    have hP : va_P D CL [(aa, .inr (0, [.ref a1, .int rnZ_5, .int sl, .int 2, .int vv])), (a1, .inl (cI, 20, .inl faZ_6))] H := hP
    have hD : va_D A [(aa, .inr (0, [.ref a1, .int rnZ_5, .int sl, .int 2, .int vv])), (a1, .inl (cI, 20, .inl faZ_6))] := hD
    refine lv_iload hx hb dX0_ask_27 (lv_at hl 5 rfl) ?_
    refine lv_iconst (v := 1) hx hb dX0_ask_29 (by decide) ?_
    refine lv_iadd hx hb dX0_ask_30 ?_
    refine lv_istore (lv' := [(6, .int (dp + (1 : Int32))), (5, .int 21), (0, .ref aa), (1, .int 2), (2, .int 1), (3, .int xx), (4, .int dp)]) hx hb dX0_ask_31 hl (by decide) rfl (fun ls hl => ?_)
    refine lv_iload hx hb dX0_ask_33 (lv_at hl 1 rfl) ?_
    refine lv_lookup (off := 133) (tgt := 168) hx hb dX0_ask_35 (by decide) (by decide) (by decide) ?_
    refine lv_aload_n hx hb dX0_ask_168 rfl (lv_at hl 2 rfl) ?_
    refine lv_iconst (v := 0) hx hb dX0_ask_169 (by decide) ?_
    refine lv_iconst (v := 1) hx hb dX0_ask_170 (by decide) ?_
    refine lv_iload_n hx hb dX0_ask_171 rfl (lv_at hl 5 rfl) ?_
    refine lv_iload hx hb dX0_ask_172 (lv_at hl 0 rfl) ?_
    refine contI (wc := [(aa, .inr (0, [.ref a1, .int rnZ_5, .int sl, .int 2, .int vv])), (a1, .inl (cI, 20, .inl faZ_6))]) (wr := []) C0 hP hD hS [0, 1] [] rfl rfl (by decide) (by decide) 0 0 (Nat.le_of_ble_eq_true rfl) (Nat.le_of_ble_eq_true rfl) (runV (k := 4) (As := [.int 0, .int 1, .int xx, .int (dp + (1 : Int32))]) (rest := []) C0 (c_ask_2_0_1 l D cI cZ cQ cT _ aa xx (dp + (1 : Int32)) a1 rnZ_5 sl vv faZ_6) wc_X0_ask wl_X0_38 wi_X0_ask we_X0_ask wz_X0 ⟨by decide, by decide, by decide +kernel⟩ ⟨(Nat.le_of_ble_eq_true rfl), (Nat.le_of_ble_eq_true rfl)⟩ hP hD hS EF.ok hX [0, 1] rfl (by decide) 0 rfl rfl rfl rfl hl.1 rfl (Nat.le_of_ble_eq_true rfl) dX0_ask_174 ⟨(Nat.le_of_ble_eq_true rfl), (Nat.le_of_ble_eq_true rfl)⟩) (fun r_14 u_12 H locs w_13 hP hD hS => ?_)
    obtain ⟨rnZ_10, faZ_11⟩ := u_12
    have hP : va_P D CL [(aa, .inr (0, [.ref a1, .int rnZ_10, .int sl, .int 2, .int vv])), (a1, .inl (cI, 20, .inl faZ_11))] H := hP
    have hD : va_D A [(aa, .inr (0, [.ref a1, .int rnZ_10, .int sl, .int 2, .int vv])), (a1, .inl (cI, 20, .inl faZ_11))] := hD
    refine lv_ineg hx hb dX0_ask_177 ?_
    exact retI C0 rfl (rnZ_10, faZ_11) trivial (hP.sub (ws' := [(aa, .inr (0, [.ref a1, .int rnZ_10, .int sl, .int 2, .int vv])), (a1, .inl (cI, 20, .inl faZ_11))]) [0, 1] rfl) (hD.sub (ws' := [(aa, .inr (0, [.ref a1, .int rnZ_10, .int sl, .int 2, .int vv])), (a1, .inl (cI, 20, .inl faZ_11))]) [0, 1] (by decide) rfl) hS (Nat.le_of_ble_eq_true rfl) (Nat.le_of_ble_eq_true rfl) dX0_ask_178
  · refine lv_iconst (v := 0) hx hb dX0_ask_19 (by decide) ?_
    exact retI C0 rfl (rn, fa) trivial (hP.sub (ws' := [(aa, .inr (0, [.ref a1, .int rn, .int sl, .int 2, .int vv])), (a1, .inl (cI, 20, .inl fa))]) [0, 1] rfl) (hD.sub (ws' := [(aa, .inr (0, [.ref a1, .int rn, .int sl, .int 2, .int vv])), (a1, .inl (cI, 20, .inl fa))]) [0, 1] (by decide) rfl) hS (Nat.le_of_ble_eq_true rfl) (Nat.le_of_ble_eq_true rfl) dX0_ask_20

set_option maxHeartbeats 4000000 in
set_option maxRecDepth 100000 in
theorem c_bodyOf_3_1 (l : Launch) (D : va_G) (cI cZ cQ cT : ClassId) (sz : Nat)   : MetI l yX0_bodyOf cX0_bodyOf 5 .int ({ frames := 0, cells := 0, slots := 0, locals := 0 } : Room) [.int 3, .int 1] D (TYS cI cZ cQ cT) EF sz [] (S := Unit) (fun (r : Int32) (_ : Unit) => r = 2) (fun _ => []) := by
  refine MetI.mk (lv := [(0, .int 3), (1, .int 1)]) (by decide +kernel) (Nat.le_of_ble_eq_true rfl) rfl ?_
  intro p e s m below meth c A ls C0 hP hD hS hX hl
  have C1 := C0
  obtain ⟨hx, hb, hr, hml, hown, hlocks, hname, hT, hN, hK, hA⟩ := C1
  obtain ⟨kab, hkz, hkT⟩ := hX.2.1
  obtain ⟨bdy, hbz, hbT⟩ := hX.2.2.1
  refine lv_iload_n hx hb dX0_bodyOf_0 rfl (lv_at hl 0 rfl) ?_
  refine lv_istore_n (lv' := [(2, .int 3), (0, .int 3), (1, .int 1)]) hx hb dX0_bodyOf_1 rfl hl (by decide) rfl (fun ls hl => ?_)
  refine lv_iconst (v := 0) hx hb dX0_bodyOf_2 (by decide) ?_
  refine lv_istore_n (lv' := [(3, .int 0), (2, .int 3), (0, .int 3), (1, .int 1)]) hx hb dX0_bodyOf_3 rfl hl (by decide) rfl (fun ls hl => ?_)
  refine lv_iload_n hx hb dX0_bodyOf_4 rfl (lv_at hl 0 rfl) ?_
  refine lv_bipush (v := 7) hx hb dX0_bodyOf_5 (by decide) ?_
  refine lv_icmp_ge (tgt := 69) hx hb dX0_bodyOf_7 (by decide) (fun c_0 => absurd c_0 (by decide)) (fun _ => ?_)
  refine lv_iload_n hx hb dX0_bodyOf_10 rfl (lv_at hl 1 rfl) ?_
  refine lv_if_lt (tgt := 69) hx hb dX0_bodyOf_11 (by decide) (fun c_0 => absurd c_0 (by decide)) (fun _ => ?_)
  refine lv_iload_n hx hb dX0_bodyOf_14 rfl (lv_at hl 1 rfl) ?_
  refine lv_bipush (v := 7) hx hb dX0_bodyOf_15 (by decide) ?_
  refine lv_icmp_ge (tgt := 69) hx hb dX0_bodyOf_17 (by decide) (fun c_0 => absurd c_0 (by decide)) (fun _ => ?_)
  refine lv_iload_n hx hb dX0_bodyOf_20 rfl (lv_at hl 1 rfl) ?_
  refine lv_iconst (v := 3) hx hb dX0_bodyOf_21 (by decide) ?_
  refine lv_imul hx hb dX0_bodyOf_22 ?_
  refine lv_ci 9 (by decide +kernel) ?_
  refine lv_iload_n hx hb dX0_bodyOf_23 rfl (lv_at hl 3 rfl) ?_
  refine lv_iadd hx hb dX0_bodyOf_24 ?_
  refine lv_ci 10 (by decide +kernel) ?_
  refine lv_istore (lv' := [(4, .int 10), (3, .int 0), (2, .int 3), (0, .int 3), (1, .int 1)]) hx hb dX0_bodyOf_25 hl (by decide) rfl (fun ls hl => ?_)
  refine lv_iload hx hb dX0_bodyOf_27 (lv_at hl 0 rfl) ?_
  refine lv_if_lt (tgt := 57) hx hb dX0_bodyOf_29 (by decide) (fun c_0 => absurd c_0 (by decide)) (fun _ => ?_)
  refine lv_iload hx hb dX0_bodyOf_32 (lv_at hl 0 rfl) ?_
  refine va_gets hx hb hbz hS hown (hT _ wf_X0_42) (fun _ h9 => h9) dX0_bodyOf_34 ?_
  refine va_tlen hx hb hbT hS (v := 21) rfl dX0_bodyOf_37 ?_
  refine lv_icmp_ge (tgt := 57) hx hb dX0_bodyOf_38 (by decide) (fun c_0 => absurd c_0 (by decide)) (fun _ => ?_)
  refine va_gets hx hb hbz hS hown (hT _ wf_X0_42) (fun _ h9 => h9) dX0_bodyOf_41 ?_
  refine lv_iload hx hb dX0_bodyOf_44 (lv_at hl 0 rfl) ?_
  refine va_ti hx hb hbT hS (vin _ _ (by decide +kernel)) (v := .int 0) rfl dX0_bodyOf_46 ?_
  refine lv_if_eq (tgt := 57) hx hb dX0_bodyOf_47 (by decide) (fun _ => ?_) (fun c_0 => absurd (by decide) c_0)
  refine va_getsN hx hb hkz hS hown (va_Nw.use rfl (hN.get 750 kf_X0_45 rfl)) (fun _ h9 => h9) dX0_bodyOf_57 ?_
  refine lv_iload_n hx hb dX0_bodyOf_60 rfl (lv_at hl 2 rfl) ?_
  refine va_ti hx hb hkT hS (vin _ _ (by decide +kernel)) (v := .int 0) rfl dX0_bodyOf_61 ?_
  refine lv_istore_n (lv' := [(2, .int 0), (4, .int 10), (3, .int 0), (0, .int 3), (1, .int 1)]) hx hb dX0_bodyOf_62 rfl hl (by decide) rfl (fun ls hl => ?_)
  refine lv_iinc (v := 1) (lv' := [(3, .int 1), (2, .int 0), (4, .int 10), (0, .int 3), (1, .int 1)]) hx hb dX0_bodyOf_63 hl (k := 2) rfl (by decide) (by decide) rfl (fun ls hl => ?_)
  refine lv_goto (tgt := 4) hx hb dX0_bodyOf_66 (by decide) ?_
  refine lv_iload_n hx hb dX0_bodyOf_4 rfl (lv_at hl 0 rfl) ?_
  refine lv_bipush (v := 7) hx hb dX0_bodyOf_5 (by decide) ?_
  refine lv_icmp_ge (tgt := 69) hx hb dX0_bodyOf_7 (by decide) (fun c_0 => absurd c_0 (by decide)) (fun _ => ?_)
  refine lv_iload_n hx hb dX0_bodyOf_10 rfl (lv_at hl 1 rfl) ?_
  refine lv_if_lt (tgt := 69) hx hb dX0_bodyOf_11 (by decide) (fun c_0 => absurd c_0 (by decide)) (fun _ => ?_)
  refine lv_iload_n hx hb dX0_bodyOf_14 rfl (lv_at hl 1 rfl) ?_
  refine lv_bipush (v := 7) hx hb dX0_bodyOf_15 (by decide) ?_
  refine lv_icmp_ge (tgt := 69) hx hb dX0_bodyOf_17 (by decide) (fun c_0 => absurd c_0 (by decide)) (fun _ => ?_)
  refine lv_iload_n hx hb dX0_bodyOf_20 rfl (lv_at hl 1 rfl) ?_
  refine lv_iconst (v := 3) hx hb dX0_bodyOf_21 (by decide) ?_
  refine lv_imul hx hb dX0_bodyOf_22 ?_
  refine lv_ci 0 (by decide +kernel) ?_
  refine lv_iload_n hx hb dX0_bodyOf_23 rfl (lv_at hl 4 rfl) ?_
  refine lv_iadd hx hb dX0_bodyOf_24 ?_
  refine lv_ci 1 (by decide +kernel) ?_
  refine lv_istore (lv' := [(4, .int 1), (3, .int 1), (2, .int 0), (0, .int 3), (1, .int 1)]) hx hb dX0_bodyOf_25 hl (by decide) rfl (fun ls hl => ?_)
  refine lv_iload hx hb dX0_bodyOf_27 (lv_at hl 0 rfl) ?_
  refine lv_if_lt (tgt := 57) hx hb dX0_bodyOf_29 (by decide) (fun c_0 => absurd c_0 (by decide)) (fun _ => ?_)
  refine lv_iload hx hb dX0_bodyOf_32 (lv_at hl 0 rfl) ?_
  refine va_gets hx hb hbz hS hown (hT _ wf_X0_42) (fun _ h9 => h9) dX0_bodyOf_34 ?_
  refine va_tlen hx hb hbT hS (v := 21) rfl dX0_bodyOf_37 ?_
  refine lv_icmp_ge (tgt := 57) hx hb dX0_bodyOf_38 (by decide) (fun c_0 => absurd c_0 (by decide)) (fun _ => ?_)
  refine va_gets hx hb hbz hS hown (hT _ wf_X0_42) (fun _ h9 => h9) dX0_bodyOf_41 ?_
  refine lv_iload hx hb dX0_bodyOf_44 (lv_at hl 0 rfl) ?_
  refine va_ti hx hb hbT hS (vin _ _ (by decide +kernel)) (v := .int 2) rfl dX0_bodyOf_46 ?_
  refine lv_if_eq (tgt := 57) hx hb dX0_bodyOf_47 (by decide) (fun c_0 => absurd c_0 (by decide)) (fun _ => ?_)
  refine va_gets hx hb hbz hS hown (hT _ wf_X0_42) (fun _ h9 => h9) dX0_bodyOf_50 ?_
  refine lv_iload hx hb dX0_bodyOf_53 (lv_at hl 0 rfl) ?_
  refine va_ti hx hb hbT hS (vin _ _ (by decide +kernel)) (v := .int 2) rfl dX0_bodyOf_55 ?_
  exact retI C0 rfl () rfl (hP.sub (ws' := []) [] rfl) (hD.sub (ws' := []) [] (by decide) rfl) hS (Nat.le_of_ble_eq_true rfl) (Nat.le_of_ble_eq_true rfl) dX0_bodyOf_56

set_option maxHeartbeats 4000000 in
set_option maxRecDepth 100000 in
theorem c_ask_3_3_1 (l : Launch) (D : va_G) (cI cZ cQ cT : ClassId) (sz : Nat) (aa : Nat) (xx : Int32) (dp : Int32) (a1 : Nat) (rn : Int32) (sl : Int32) (vv : Int32) (fa : Nat → Int32)  : MetI l yX0_ask cX0_ask 7 .int ({ frames := 2, cells := 0, slots := 0, locals := 50 } : Room) [.ref aa, .int 3, .int 1, .int xx, .int dp] D (TYS cI cZ cQ cT) EF sz [(aa, .inr (0, [.ref a1, .int rn, .int sl, .int 3, .int vv])), (a1, .inl (cI, 20, .inl fa))] (S := Int32 × (Nat → Int32)) (fun (r : Int32) (_ : Int32 × (Nat → Int32)) => True) (fun u => [(aa, .inr (0, [.ref a1, .int u.1, .int sl, .int 3, .int vv])), (a1, .inl (cI, 20, .inl u.2))]) := by
  refine MetI.mk (lv := [(0, .ref aa), (1, .int 3), (2, .int 1), (3, .int xx), (4, .int dp)]) (by decide +kernel) (Nat.le_of_ble_eq_true rfl) rfl ?_
  intro p e s m below meth c A ls C0 hP hD hS hX hl
  have C1 := C0
  obtain ⟨hx, hb, hr, hml, hown, hlocks, hname, hT, hN, hK, hA⟩ := C1
  refine lv_iload_n hx hb dX0_ask_0 rfl (lv_at hl 1 rfl) ?_
  refine lv_iload_n hx hb dX0_ask_1 rfl (lv_at hl 2 rfl) ?_
  refine contI (wc := []) (wr := [(aa, .inr (0, [.ref a1, .int rn, .int sl, .int 3, .int vv])), (a1, .inl (cI, 20, .inl fa))]) C0 hP hD hS [] [0, 1] rfl rfl (by decide) (by decide) 0 0 (Nat.le_of_ble_eq_true rfl) (Nat.le_of_ble_eq_true rfl) (runS (k := 2) (As := [.int 3, .int 1]) (rest := []) C0 (c_bodyOf_3_1 l D cI cZ cQ cT _ ) wc_X0_bodyOf wl_X0_48 wt_X0_bodyOf wz_X0 ⟨by decide, by decide, by decide +kernel⟩ ⟨(Nat.le_of_ble_eq_true rfl), (Nat.le_of_ble_eq_true rfl)⟩ hP hD hS EF.ok hX [] rfl (by decide) rfl hl.1 rfl (Nat.le_of_ble_eq_true rfl) dX0_ask_2 ⟨(Nat.le_of_ble_eq_true rfl), (Nat.le_of_ble_eq_true rfl)⟩) (fun r_3 u_1 H locs w_2 hP hD hS => ?_)
  have hP : va_P D CL [(aa, .inr (0, [.ref a1, .int rn, .int sl, .int 3, .int vv])), (a1, .inl (cI, 20, .inl fa))] H := hP
  have hD : va_D A [(aa, .inr (0, [.ref a1, .int rn, .int sl, .int 3, .int vv])), (a1, .inl (cI, 20, .inl fa))] := hD
  obtain rfl : r_3 = 2 := w_2
  refine lv_istore (lv' := [(5, .int 2), (0, .ref aa), (1, .int 3), (2, .int 1), (3, .int xx), (4, .int dp)]) hx hb dX0_ask_5 hl (by decide) rfl (fun ls hl => ?_)
  refine lv_iload hx hb dX0_ask_7 (lv_at hl 0 rfl) ?_
  refine lv_if_eq (tgt := 19) hx hb dX0_ask_9 (by decide) (fun c_0 => absurd c_0 (by decide)) (fun _ => ?_)
  refine lv_iload hx hb dX0_ask_12 (lv_at hl 5 rfl) ?_
  refine lv_bipush (v := 40) hx hb dX0_ask_14 (by decide) ?_
  refine lv_icmp_le (tgt := 21) hx hb dX0_ask_16 (by decide) (fun c_4 => ?_) (fun c_4 => ?_)
  · refine lv_aload_n hx hb dX0_ask_21 rfl (lv_at hl 1 rfl) ?_
    refine lv_iload hx hb dX0_ask_22 (lv_at hl 0 rfl) ?_
    refine contV (wc := [(aa, .inr (0, [.ref a1, .int rn, .int sl, .int 3, .int vv])), (a1, .inl (cI, 20, .inl fa))]) (wr := []) C0 hP hD hS [0, 1] [] rfl rfl (by decide) (by decide) 0 0 (Nat.le_of_ble_eq_true rfl) (Nat.le_of_ble_eq_true rfl) (runV (k := 1) (As := [.int 2]) (rest := []) C0 (c_begin l D cI cZ cQ cT _ aa 2 a1 rn sl 3 vv fa) wc_X0_begin wl_X0_52 wi_X0_begin we_X0_begin wz_X0 ⟨by decide, by decide, by decide +kernel⟩ ⟨(Nat.le_of_ble_eq_true rfl), (Nat.le_of_ble_eq_true rfl)⟩ hP hD hS EF.ok hX [0, 1] rfl (by decide) 0 rfl rfl rfl rfl hl.1 rfl (Nat.le_of_ble_eq_true rfl) dX0_ask_24 ⟨(Nat.le_of_ble_eq_true rfl), (Nat.le_of_ble_eq_true rfl)⟩) (fun u_7 H locs w_8 hP hD hS => ?_)
    obtain ⟨rnZ_5, faZ_6⟩ := u_7
    have hP : va_P D CL [(aa, .inr (0, [.ref a1, .int rnZ_5, .int sl, .int 3, .int vv])), (a1, .inl (cI, 20, .inl faZ_6))] H := hP
    have hD : va_D A [(aa, .inr (0, [.ref a1, .int rnZ_5, .int sl, .int 3, .int vv])), (a1, .inl (cI, 20, .inl faZ_6))] := hD
    refine lv_iload hx hb dX0_ask_27 (lv_at hl 5 rfl) ?_
    refine lv_iconst (v := 1) hx hb dX0_ask_29 (by decide) ?_
    refine lv_iadd hx hb dX0_ask_30 ?_
    refine lv_istore (lv' := [(6, .int (dp + (1 : Int32))), (5, .int 2), (0, .ref aa), (1, .int 3), (2, .int 1), (3, .int xx), (4, .int dp)]) hx hb dX0_ask_31 hl (by decide) rfl (fun ls hl => ?_)
    refine lv_iload hx hb dX0_ask_33 (lv_at hl 1 rfl) ?_
    refine lv_lookup (off := 88) (tgt := 123) hx hb dX0_ask_35 (by decide) (by decide) (by decide) ?_
    refine lv_aload_n hx hb dX0_ask_123 rfl (lv_at hl 2 rfl) ?_
    refine lv_aload_n hx hb dX0_ask_124 rfl (lv_at hl 2 rfl) ?_
    refine va_get (ci := 0) (v := .int 3) (C := RX0) (T := TX0) (N := 5) hx hb hT wu_X0 hown hK hP 0 rfl rfl 3 (by decide) (hT _ wf_X0_31) (fun _ h9 => h9) rfl dX0_ask_125 ?_
    refine lv_iconst (v := 0) hx hb dX0_ask_128 (by decide) ?_
    refine lv_iload_n hx hb dX0_ask_129 rfl (lv_at hl 5 rfl) ?_
    refine lv_iload hx hb dX0_ask_130 (lv_at hl 0 rfl) ?_
    refine contI (wc := [(aa, .inr (0, [.ref a1, .int rnZ_5, .int sl, .int 3, .int vv])), (a1, .inl (cI, 20, .inl faZ_6))]) (wr := []) C0 hP hD hS [0, 1] [] rfl rfl (by decide) (by decide) 0 0 (Nat.le_of_ble_eq_true rfl) (Nat.le_of_ble_eq_true rfl) (runV (k := 4) (As := [.int 3, .int 0, .int xx, .int (dp + (1 : Int32))]) (rest := []) C0 (c_ask_3_3_0 l D cI cZ cQ cT _ aa xx (dp + (1 : Int32)) a1 rnZ_5 sl vv faZ_6) wc_X0_ask wl_X0_38 wi_X0_ask we_X0_ask wz_X0 ⟨by decide, by decide, by decide +kernel⟩ ⟨(Nat.le_of_ble_eq_true rfl), (Nat.le_of_ble_eq_true rfl)⟩ hP hD hS EF.ok hX [0, 1] rfl (by decide) 0 rfl rfl rfl rfl hl.1 rfl (Nat.le_of_ble_eq_true rfl) dX0_ask_132 ⟨(Nat.le_of_ble_eq_true rfl), (Nat.le_of_ble_eq_true rfl)⟩) (fun r_14 u_12 H locs w_13 hP hD hS => ?_)
    obtain ⟨rnZ_10, faZ_11⟩ := u_12
    have hP : va_P D CL [(aa, .inr (0, [.ref a1, .int rnZ_10, .int sl, .int 3, .int vv])), (a1, .inl (cI, 20, .inl faZ_11))] H := hP
    have hD : va_D A [(aa, .inr (0, [.ref a1, .int rnZ_10, .int sl, .int 3, .int vv])), (a1, .inl (cI, 20, .inl faZ_11))] := hD
    refine lv_aload_n hx hb dX0_ask_135 rfl (lv_at hl 2 rfl) ?_
    refine va_get (ci := 0) (v := .int vv) (C := RX0) (T := TX0) (N := 5) hx hb hT wu_X0 hown hK hP 0 rfl rfl 4 (by decide) (hT _ wf_X0_36) (fun _ h9 => h9) rfl dX0_ask_136 ?_
    refine lv_isub hx hb dX0_ask_139 ?_
    exact retI C0 rfl (rnZ_10, faZ_11) trivial (hP.sub (ws' := [(aa, .inr (0, [.ref a1, .int rnZ_10, .int sl, .int 3, .int vv])), (a1, .inl (cI, 20, .inl faZ_11))]) [0, 1] rfl) (hD.sub (ws' := [(aa, .inr (0, [.ref a1, .int rnZ_10, .int sl, .int 3, .int vv])), (a1, .inl (cI, 20, .inl faZ_11))]) [0, 1] (by decide) rfl) hS (Nat.le_of_ble_eq_true rfl) (Nat.le_of_ble_eq_true rfl) dX0_ask_140
  · refine lv_iconst (v := 0) hx hb dX0_ask_19 (by decide) ?_
    exact retI C0 rfl (rn, fa) trivial (hP.sub (ws' := [(aa, .inr (0, [.ref a1, .int rn, .int sl, .int 3, .int vv])), (a1, .inl (cI, 20, .inl fa))]) [0, 1] rfl) (hD.sub (ws' := [(aa, .inr (0, [.ref a1, .int rn, .int sl, .int 3, .int vv])), (a1, .inl (cI, 20, .inl fa))]) [0, 1] (by decide) rfl) hS (Nat.le_of_ble_eq_true rfl) (Nat.le_of_ble_eq_true rfl) dX0_ask_20

set_option maxHeartbeats 4000000 in
set_option maxRecDepth 100000 in
theorem c_bodyOf_4_1 (l : Launch) (D : va_G) (cI cZ cQ cT : ClassId) (sz : Nat)   : MetI l yX0_bodyOf cX0_bodyOf 5 .int ({ frames := 0, cells := 0, slots := 0, locals := 0 } : Room) [.int 4, .int 1] D (TYS cI cZ cQ cT) EF sz [] (S := Unit) (fun (r : Int32) (_ : Unit) => r = 21) (fun _ => []) := by
  refine MetI.mk (lv := [(0, .int 4), (1, .int 1)]) (by decide +kernel) (Nat.le_of_ble_eq_true rfl) rfl ?_
  intro p e s m below meth c A ls C0 hP hD hS hX hl
  have C1 := C0
  obtain ⟨hx, hb, hr, hml, hown, hlocks, hname, hT, hN, hK, hA⟩ := C1
  obtain ⟨kab, hkz, hkT⟩ := hX.2.1
  obtain ⟨bdy, hbz, hbT⟩ := hX.2.2.1
  refine lv_iload_n hx hb dX0_bodyOf_0 rfl (lv_at hl 0 rfl) ?_
  refine lv_istore_n (lv' := [(2, .int 4), (0, .int 4), (1, .int 1)]) hx hb dX0_bodyOf_1 rfl hl (by decide) rfl (fun ls hl => ?_)
  refine lv_iconst (v := 0) hx hb dX0_bodyOf_2 (by decide) ?_
  refine lv_istore_n (lv' := [(3, .int 0), (2, .int 4), (0, .int 4), (1, .int 1)]) hx hb dX0_bodyOf_3 rfl hl (by decide) rfl (fun ls hl => ?_)
  refine lv_iload_n hx hb dX0_bodyOf_4 rfl (lv_at hl 0 rfl) ?_
  refine lv_bipush (v := 7) hx hb dX0_bodyOf_5 (by decide) ?_
  refine lv_icmp_ge (tgt := 69) hx hb dX0_bodyOf_7 (by decide) (fun c_0 => absurd c_0 (by decide)) (fun _ => ?_)
  refine lv_iload_n hx hb dX0_bodyOf_10 rfl (lv_at hl 1 rfl) ?_
  refine lv_if_lt (tgt := 69) hx hb dX0_bodyOf_11 (by decide) (fun c_0 => absurd c_0 (by decide)) (fun _ => ?_)
  refine lv_iload_n hx hb dX0_bodyOf_14 rfl (lv_at hl 1 rfl) ?_
  refine lv_bipush (v := 7) hx hb dX0_bodyOf_15 (by decide) ?_
  refine lv_icmp_ge (tgt := 69) hx hb dX0_bodyOf_17 (by decide) (fun c_0 => absurd c_0 (by decide)) (fun _ => ?_)
  refine lv_iload_n hx hb dX0_bodyOf_20 rfl (lv_at hl 1 rfl) ?_
  refine lv_iconst (v := 3) hx hb dX0_bodyOf_21 (by decide) ?_
  refine lv_imul hx hb dX0_bodyOf_22 ?_
  refine lv_ci 12 (by decide +kernel) ?_
  refine lv_iload_n hx hb dX0_bodyOf_23 rfl (lv_at hl 3 rfl) ?_
  refine lv_iadd hx hb dX0_bodyOf_24 ?_
  refine lv_ci 13 (by decide +kernel) ?_
  refine lv_istore (lv' := [(4, .int 13), (3, .int 0), (2, .int 4), (0, .int 4), (1, .int 1)]) hx hb dX0_bodyOf_25 hl (by decide) rfl (fun ls hl => ?_)
  refine lv_iload hx hb dX0_bodyOf_27 (lv_at hl 0 rfl) ?_
  refine lv_if_lt (tgt := 57) hx hb dX0_bodyOf_29 (by decide) (fun c_0 => absurd c_0 (by decide)) (fun _ => ?_)
  refine lv_iload hx hb dX0_bodyOf_32 (lv_at hl 0 rfl) ?_
  refine va_gets hx hb hbz hS hown (hT _ wf_X0_42) (fun _ h9 => h9) dX0_bodyOf_34 ?_
  refine va_tlen hx hb hbT hS (v := 21) rfl dX0_bodyOf_37 ?_
  refine lv_icmp_ge (tgt := 57) hx hb dX0_bodyOf_38 (by decide) (fun c_0 => absurd c_0 (by decide)) (fun _ => ?_)
  refine va_gets hx hb hbz hS hown (hT _ wf_X0_42) (fun _ h9 => h9) dX0_bodyOf_41 ?_
  refine lv_iload hx hb dX0_bodyOf_44 (lv_at hl 0 rfl) ?_
  refine va_ti hx hb hbT hS (vin _ _ (by decide +kernel)) (v := .int 0) rfl dX0_bodyOf_46 ?_
  refine lv_if_eq (tgt := 57) hx hb dX0_bodyOf_47 (by decide) (fun _ => ?_) (fun c_0 => absurd (by decide) c_0)
  refine va_getsN hx hb hkz hS hown (va_Nw.use rfl (hN.get 750 kf_X0_45 rfl)) (fun _ h9 => h9) dX0_bodyOf_57 ?_
  refine lv_iload_n hx hb dX0_bodyOf_60 rfl (lv_at hl 2 rfl) ?_
  refine va_ti hx hb hkT hS (vin _ _ (by decide +kernel)) (v := .int 2) rfl dX0_bodyOf_61 ?_
  refine lv_istore_n (lv' := [(2, .int 2), (4, .int 13), (3, .int 0), (0, .int 4), (1, .int 1)]) hx hb dX0_bodyOf_62 rfl hl (by decide) rfl (fun ls hl => ?_)
  refine lv_iinc (v := 1) (lv' := [(3, .int 1), (2, .int 2), (4, .int 13), (0, .int 4), (1, .int 1)]) hx hb dX0_bodyOf_63 hl (k := 2) rfl (by decide) (by decide) rfl (fun ls hl => ?_)
  refine lv_goto (tgt := 4) hx hb dX0_bodyOf_66 (by decide) ?_
  refine lv_iload_n hx hb dX0_bodyOf_4 rfl (lv_at hl 0 rfl) ?_
  refine lv_bipush (v := 7) hx hb dX0_bodyOf_5 (by decide) ?_
  refine lv_icmp_ge (tgt := 69) hx hb dX0_bodyOf_7 (by decide) (fun c_0 => absurd c_0 (by decide)) (fun _ => ?_)
  refine lv_iload_n hx hb dX0_bodyOf_10 rfl (lv_at hl 1 rfl) ?_
  refine lv_if_lt (tgt := 69) hx hb dX0_bodyOf_11 (by decide) (fun c_0 => absurd c_0 (by decide)) (fun _ => ?_)
  refine lv_iload_n hx hb dX0_bodyOf_14 rfl (lv_at hl 1 rfl) ?_
  refine lv_bipush (v := 7) hx hb dX0_bodyOf_15 (by decide) ?_
  refine lv_icmp_ge (tgt := 69) hx hb dX0_bodyOf_17 (by decide) (fun c_0 => absurd c_0 (by decide)) (fun _ => ?_)
  refine lv_iload_n hx hb dX0_bodyOf_20 rfl (lv_at hl 1 rfl) ?_
  refine lv_iconst (v := 3) hx hb dX0_bodyOf_21 (by decide) ?_
  refine lv_imul hx hb dX0_bodyOf_22 ?_
  refine lv_ci 6 (by decide +kernel) ?_
  refine lv_iload_n hx hb dX0_bodyOf_23 rfl (lv_at hl 4 rfl) ?_
  refine lv_iadd hx hb dX0_bodyOf_24 ?_
  refine lv_ci 7 (by decide +kernel) ?_
  refine lv_istore (lv' := [(4, .int 7), (3, .int 1), (2, .int 2), (0, .int 4), (1, .int 1)]) hx hb dX0_bodyOf_25 hl (by decide) rfl (fun ls hl => ?_)
  refine lv_iload hx hb dX0_bodyOf_27 (lv_at hl 0 rfl) ?_
  refine lv_if_lt (tgt := 57) hx hb dX0_bodyOf_29 (by decide) (fun c_0 => absurd c_0 (by decide)) (fun _ => ?_)
  refine lv_iload hx hb dX0_bodyOf_32 (lv_at hl 0 rfl) ?_
  refine va_gets hx hb hbz hS hown (hT _ wf_X0_42) (fun _ h9 => h9) dX0_bodyOf_34 ?_
  refine va_tlen hx hb hbT hS (v := 21) rfl dX0_bodyOf_37 ?_
  refine lv_icmp_ge (tgt := 57) hx hb dX0_bodyOf_38 (by decide) (fun c_0 => absurd c_0 (by decide)) (fun _ => ?_)
  refine va_gets hx hb hbz hS hown (hT _ wf_X0_42) (fun _ h9 => h9) dX0_bodyOf_41 ?_
  refine lv_iload hx hb dX0_bodyOf_44 (lv_at hl 0 rfl) ?_
  refine va_ti hx hb hbT hS (vin _ _ (by decide +kernel)) (v := .int 21) rfl dX0_bodyOf_46 ?_
  refine lv_if_eq (tgt := 57) hx hb dX0_bodyOf_47 (by decide) (fun c_0 => absurd c_0 (by decide)) (fun _ => ?_)
  refine va_gets hx hb hbz hS hown (hT _ wf_X0_42) (fun _ h9 => h9) dX0_bodyOf_50 ?_
  refine lv_iload hx hb dX0_bodyOf_53 (lv_at hl 0 rfl) ?_
  refine va_ti hx hb hbT hS (vin _ _ (by decide +kernel)) (v := .int 21) rfl dX0_bodyOf_55 ?_
  exact retI C0 rfl () rfl (hP.sub (ws' := []) [] rfl) (hD.sub (ws' := []) [] (by decide) rfl) hS (Nat.le_of_ble_eq_true rfl) (Nat.le_of_ble_eq_true rfl) dX0_bodyOf_56

set_option maxHeartbeats 4000000 in
set_option maxRecDepth 100000 in
theorem c_ask_4_0_1 (l : Launch) (D : va_G) (cI cZ cQ cT : ClassId) (sz : Nat) (aa : Nat) (xx : Int32) (dp : Int32) (a1 : Nat) (rn : Int32) (sl : Int32) (vv : Int32) (fa : Nat → Int32)  : MetI l yX0_ask cX0_ask 7 .int ({ frames := 2, cells := 0, slots := 0, locals := 50 } : Room) [.ref aa, .int 0, .int 1, .int xx, .int dp] D (TYS cI cZ cQ cT) EF sz [(aa, .inr (0, [.ref a1, .int rn, .int sl, .int 4, .int vv])), (a1, .inl (cI, 20, .inl fa))] (S := Int32 × (Nat → Int32)) (fun (r : Int32) (_ : Int32 × (Nat → Int32)) => True) (fun u => [(aa, .inr (0, [.ref a1, .int u.1, .int sl, .int 4, .int vv])), (a1, .inl (cI, 20, .inl u.2))]) := by
  refine MetI.mk (lv := [(0, .ref aa), (1, .int 0), (2, .int 1), (3, .int xx), (4, .int dp)]) (by decide +kernel) (Nat.le_of_ble_eq_true rfl) rfl ?_
  intro p e s m below meth c A ls C0 hP hD hS hX hl
  have C1 := C0
  obtain ⟨hx, hb, hr, hml, hown, hlocks, hname, hT, hN, hK, hA⟩ := C1
  refine lv_iload_n hx hb dX0_ask_0 rfl (lv_at hl 1 rfl) ?_
  refine lv_iload_n hx hb dX0_ask_1 rfl (lv_at hl 2 rfl) ?_
  refine contI (wc := []) (wr := [(aa, .inr (0, [.ref a1, .int rn, .int sl, .int 4, .int vv])), (a1, .inl (cI, 20, .inl fa))]) C0 hP hD hS [] [0, 1] rfl rfl (by decide) (by decide) 0 0 (Nat.le_of_ble_eq_true rfl) (Nat.le_of_ble_eq_true rfl) (runS (k := 2) (As := [.int 0, .int 1]) (rest := []) C0 (c_bodyOf_0_1 l D cI cZ cQ cT _ ) wc_X0_bodyOf wl_X0_48 wt_X0_bodyOf wz_X0 ⟨by decide, by decide, by decide +kernel⟩ ⟨(Nat.le_of_ble_eq_true rfl), (Nat.le_of_ble_eq_true rfl)⟩ hP hD hS EF.ok hX [] rfl (by decide) rfl hl.1 rfl (Nat.le_of_ble_eq_true rfl) dX0_ask_2 ⟨(Nat.le_of_ble_eq_true rfl), (Nat.le_of_ble_eq_true rfl)⟩) (fun r_3 u_1 H locs w_2 hP hD hS => ?_)
  have hP : va_P D CL [(aa, .inr (0, [.ref a1, .int rn, .int sl, .int 4, .int vv])), (a1, .inl (cI, 20, .inl fa))] H := hP
  have hD : va_D A [(aa, .inr (0, [.ref a1, .int rn, .int sl, .int 4, .int vv])), (a1, .inl (cI, 20, .inl fa))] := hD
  obtain rfl : r_3 = 2 := w_2
  refine lv_istore (lv' := [(5, .int 2), (0, .ref aa), (1, .int 0), (2, .int 1), (3, .int xx), (4, .int dp)]) hx hb dX0_ask_5 hl (by decide) rfl (fun ls hl => ?_)
  refine lv_iload hx hb dX0_ask_7 (lv_at hl 0 rfl) ?_
  refine lv_if_eq (tgt := 19) hx hb dX0_ask_9 (by decide) (fun c_0 => absurd c_0 (by decide)) (fun _ => ?_)
  refine lv_iload hx hb dX0_ask_12 (lv_at hl 5 rfl) ?_
  refine lv_bipush (v := 40) hx hb dX0_ask_14 (by decide) ?_
  refine lv_icmp_le (tgt := 21) hx hb dX0_ask_16 (by decide) (fun c_4 => ?_) (fun c_4 => ?_)
  · refine lv_aload_n hx hb dX0_ask_21 rfl (lv_at hl 1 rfl) ?_
    refine lv_iload hx hb dX0_ask_22 (lv_at hl 0 rfl) ?_
    refine contV (wc := [(aa, .inr (0, [.ref a1, .int rn, .int sl, .int 4, .int vv])), (a1, .inl (cI, 20, .inl fa))]) (wr := []) C0 hP hD hS [0, 1] [] rfl rfl (by decide) (by decide) 0 0 (Nat.le_of_ble_eq_true rfl) (Nat.le_of_ble_eq_true rfl) (runV (k := 1) (As := [.int 2]) (rest := []) C0 (c_begin l D cI cZ cQ cT _ aa 2 a1 rn sl 4 vv fa) wc_X0_begin wl_X0_52 wi_X0_begin we_X0_begin wz_X0 ⟨by decide, by decide, by decide +kernel⟩ ⟨(Nat.le_of_ble_eq_true rfl), (Nat.le_of_ble_eq_true rfl)⟩ hP hD hS EF.ok hX [0, 1] rfl (by decide) 0 rfl rfl rfl rfl hl.1 rfl (Nat.le_of_ble_eq_true rfl) dX0_ask_24 ⟨(Nat.le_of_ble_eq_true rfl), (Nat.le_of_ble_eq_true rfl)⟩) (fun u_7 H locs w_8 hP hD hS => ?_)
    obtain ⟨rnZ_5, faZ_6⟩ := u_7
    have hP : va_P D CL [(aa, .inr (0, [.ref a1, .int rnZ_5, .int sl, .int 4, .int vv])), (a1, .inl (cI, 20, .inl faZ_6))] H := hP
    have hD : va_D A [(aa, .inr (0, [.ref a1, .int rnZ_5, .int sl, .int 4, .int vv])), (a1, .inl (cI, 20, .inl faZ_6))] := hD
    refine lv_iload hx hb dX0_ask_27 (lv_at hl 5 rfl) ?_
    refine lv_iconst (v := 1) hx hb dX0_ask_29 (by decide) ?_
    refine lv_iadd hx hb dX0_ask_30 ?_
    refine lv_istore (lv' := [(6, .int (dp + (1 : Int32))), (5, .int 2), (0, .ref aa), (1, .int 0), (2, .int 1), (3, .int xx), (4, .int dp)]) hx hb dX0_ask_31 hl (by decide) rfl (fun ls hl => ?_)
    refine lv_iload hx hb dX0_ask_33 (lv_at hl 1 rfl) ?_
    refine lv_lookup (off := 88) (tgt := 123) hx hb dX0_ask_35 (by decide) (by decide) (by decide) ?_
    refine lv_aload_n hx hb dX0_ask_123 rfl (lv_at hl 2 rfl) ?_
    refine lv_aload_n hx hb dX0_ask_124 rfl (lv_at hl 2 rfl) ?_
    refine va_get (ci := 0) (v := .int 4) (C := RX0) (T := TX0) (N := 5) hx hb hT wu_X0 hown hK hP 0 rfl rfl 3 (by decide) (hT _ wf_X0_31) (fun _ h9 => h9) rfl dX0_ask_125 ?_
    refine lv_iconst (v := 0) hx hb dX0_ask_128 (by decide) ?_
    refine lv_iload_n hx hb dX0_ask_129 rfl (lv_at hl 5 rfl) ?_
    refine lv_iload hx hb dX0_ask_130 (lv_at hl 0 rfl) ?_
    refine contI (wc := [(aa, .inr (0, [.ref a1, .int rnZ_5, .int sl, .int 4, .int vv])), (a1, .inl (cI, 20, .inl faZ_6))]) (wr := []) C0 hP hD hS [0, 1] [] rfl rfl (by decide) (by decide) 0 0 (Nat.le_of_ble_eq_true rfl) (Nat.le_of_ble_eq_true rfl) (runV (k := 4) (As := [.int 4, .int 0, .int xx, .int (dp + (1 : Int32))]) (rest := []) C0 (c_ask_4_4_0 l D cI cZ cQ cT _ aa xx (dp + (1 : Int32)) a1 rnZ_5 sl vv faZ_6) wc_X0_ask wl_X0_38 wi_X0_ask we_X0_ask wz_X0 ⟨by decide, by decide, by decide +kernel⟩ ⟨(Nat.le_of_ble_eq_true rfl), (Nat.le_of_ble_eq_true rfl)⟩ hP hD hS EF.ok hX [0, 1] rfl (by decide) 0 rfl rfl rfl rfl hl.1 rfl (Nat.le_of_ble_eq_true rfl) dX0_ask_132 ⟨(Nat.le_of_ble_eq_true rfl), (Nat.le_of_ble_eq_true rfl)⟩) (fun r_14 u_12 H locs w_13 hP hD hS => ?_)
    obtain ⟨rnZ_10, faZ_11⟩ := u_12
    have hP : va_P D CL [(aa, .inr (0, [.ref a1, .int rnZ_10, .int sl, .int 4, .int vv])), (a1, .inl (cI, 20, .inl faZ_11))] H := hP
    have hD : va_D A [(aa, .inr (0, [.ref a1, .int rnZ_10, .int sl, .int 4, .int vv])), (a1, .inl (cI, 20, .inl faZ_11))] := hD
    refine lv_aload_n hx hb dX0_ask_135 rfl (lv_at hl 2 rfl) ?_
    refine va_get (ci := 0) (v := .int vv) (C := RX0) (T := TX0) (N := 5) hx hb hT wu_X0 hown hK hP 0 rfl rfl 4 (by decide) (hT _ wf_X0_36) (fun _ h9 => h9) rfl dX0_ask_136 ?_
    refine lv_isub hx hb dX0_ask_139 ?_
    exact retI C0 rfl (rnZ_10, faZ_11) trivial (hP.sub (ws' := [(aa, .inr (0, [.ref a1, .int rnZ_10, .int sl, .int 4, .int vv])), (a1, .inl (cI, 20, .inl faZ_11))]) [0, 1] rfl) (hD.sub (ws' := [(aa, .inr (0, [.ref a1, .int rnZ_10, .int sl, .int 4, .int vv])), (a1, .inl (cI, 20, .inl faZ_11))]) [0, 1] (by decide) rfl) hS (Nat.le_of_ble_eq_true rfl) (Nat.le_of_ble_eq_true rfl) dX0_ask_140
  · refine lv_iconst (v := 0) hx hb dX0_ask_19 (by decide) ?_
    exact retI C0 rfl (rn, fa) trivial (hP.sub (ws' := [(aa, .inr (0, [.ref a1, .int rn, .int sl, .int 4, .int vv])), (a1, .inl (cI, 20, .inl fa))]) [0, 1] rfl) (hD.sub (ws' := [(aa, .inr (0, [.ref a1, .int rn, .int sl, .int 4, .int vv])), (a1, .inl (cI, 20, .inl fa))]) [0, 1] (by decide) rfl) hS (Nat.le_of_ble_eq_true rfl) (Nat.le_of_ble_eq_true rfl) dX0_ask_20

set_option maxHeartbeats 4000000 in
set_option maxRecDepth 100000 in
theorem c_ask_4_4_1 (l : Launch) (D : va_G) (cI cZ cQ cT : ClassId) (sz : Nat) (aa : Nat) (xx : Int32) (dp : Int32) (a1 : Nat) (rn : Int32) (sl : Int32) (vv : Int32) (fa : Nat → Int32)  : MetI l yX0_ask cX0_ask 7 .int ({ frames := 3, cells := 0, slots := 0, locals := 76 } : Room) [.ref aa, .int 4, .int 1, .int xx, .int dp] D (TYS cI cZ cQ cT) EF sz [(aa, .inr (0, [.ref a1, .int rn, .int sl, .int 4, .int vv])), (a1, .inl (cI, 20, .inl fa))] (S := Int32 × (Nat → Int32)) (fun (r : Int32) (_ : Int32 × (Nat → Int32)) => True) (fun u => [(aa, .inr (0, [.ref a1, .int u.1, .int sl, .int 4, .int vv])), (a1, .inl (cI, 20, .inl u.2))]) := by
  refine MetI.mk (lv := [(0, .ref aa), (1, .int 4), (2, .int 1), (3, .int xx), (4, .int dp)]) (by decide +kernel) (Nat.le_of_ble_eq_true rfl) rfl ?_
  intro p e s m below meth c A ls C0 hP hD hS hX hl
  have C1 := C0
  obtain ⟨hx, hb, hr, hml, hown, hlocks, hname, hT, hN, hK, hA⟩ := C1
  refine lv_iload_n hx hb dX0_ask_0 rfl (lv_at hl 1 rfl) ?_
  refine lv_iload_n hx hb dX0_ask_1 rfl (lv_at hl 2 rfl) ?_
  refine contI (wc := []) (wr := [(aa, .inr (0, [.ref a1, .int rn, .int sl, .int 4, .int vv])), (a1, .inl (cI, 20, .inl fa))]) C0 hP hD hS [] [0, 1] rfl rfl (by decide) (by decide) 0 0 (Nat.le_of_ble_eq_true rfl) (Nat.le_of_ble_eq_true rfl) (runS (k := 2) (As := [.int 4, .int 1]) (rest := []) C0 (c_bodyOf_4_1 l D cI cZ cQ cT _ ) wc_X0_bodyOf wl_X0_48 wt_X0_bodyOf wz_X0 ⟨by decide, by decide, by decide +kernel⟩ ⟨(Nat.le_of_ble_eq_true rfl), (Nat.le_of_ble_eq_true rfl)⟩ hP hD hS EF.ok hX [] rfl (by decide) rfl hl.1 rfl (Nat.le_of_ble_eq_true rfl) dX0_ask_2 ⟨(Nat.le_of_ble_eq_true rfl), (Nat.le_of_ble_eq_true rfl)⟩) (fun r_3 u_1 H locs w_2 hP hD hS => ?_)
  have hP : va_P D CL [(aa, .inr (0, [.ref a1, .int rn, .int sl, .int 4, .int vv])), (a1, .inl (cI, 20, .inl fa))] H := hP
  have hD : va_D A [(aa, .inr (0, [.ref a1, .int rn, .int sl, .int 4, .int vv])), (a1, .inl (cI, 20, .inl fa))] := hD
  obtain rfl : r_3 = 21 := w_2
  refine lv_istore (lv' := [(5, .int 21), (0, .ref aa), (1, .int 4), (2, .int 1), (3, .int xx), (4, .int dp)]) hx hb dX0_ask_5 hl (by decide) rfl (fun ls hl => ?_)
  refine lv_iload hx hb dX0_ask_7 (lv_at hl 0 rfl) ?_
  refine lv_if_eq (tgt := 19) hx hb dX0_ask_9 (by decide) (fun c_0 => absurd c_0 (by decide)) (fun _ => ?_)
  refine lv_iload hx hb dX0_ask_12 (lv_at hl 5 rfl) ?_
  refine lv_bipush (v := 40) hx hb dX0_ask_14 (by decide) ?_
  refine lv_icmp_le (tgt := 21) hx hb dX0_ask_16 (by decide) (fun c_4 => ?_) (fun c_4 => ?_)
  · refine lv_aload_n hx hb dX0_ask_21 rfl (lv_at hl 1 rfl) ?_
    refine lv_iload hx hb dX0_ask_22 (lv_at hl 0 rfl) ?_
    refine contV (wc := [(aa, .inr (0, [.ref a1, .int rn, .int sl, .int 4, .int vv])), (a1, .inl (cI, 20, .inl fa))]) (wr := []) C0 hP hD hS [0, 1] [] rfl rfl (by decide) (by decide) 0 0 (Nat.le_of_ble_eq_true rfl) (Nat.le_of_ble_eq_true rfl) (runV (k := 1) (As := [.int 21]) (rest := []) C0 (c_begin l D cI cZ cQ cT _ aa 21 a1 rn sl 4 vv fa) wc_X0_begin wl_X0_52 wi_X0_begin we_X0_begin wz_X0 ⟨by decide, by decide, by decide +kernel⟩ ⟨(Nat.le_of_ble_eq_true rfl), (Nat.le_of_ble_eq_true rfl)⟩ hP hD hS EF.ok hX [0, 1] rfl (by decide) 0 rfl rfl rfl rfl hl.1 rfl (Nat.le_of_ble_eq_true rfl) dX0_ask_24 ⟨(Nat.le_of_ble_eq_true rfl), (Nat.le_of_ble_eq_true rfl)⟩) (fun u_7 H locs w_8 hP hD hS => ?_)
    obtain ⟨rnZ_5, faZ_6⟩ := u_7
    have hP : va_P D CL [(aa, .inr (0, [.ref a1, .int rnZ_5, .int sl, .int 4, .int vv])), (a1, .inl (cI, 20, .inl faZ_6))] H := hP
    have hD : va_D A [(aa, .inr (0, [.ref a1, .int rnZ_5, .int sl, .int 4, .int vv])), (a1, .inl (cI, 20, .inl faZ_6))] := hD
    refine lv_iload hx hb dX0_ask_27 (lv_at hl 5 rfl) ?_
    refine lv_iconst (v := 1) hx hb dX0_ask_29 (by decide) ?_
    refine lv_iadd hx hb dX0_ask_30 ?_
    refine lv_istore (lv' := [(6, .int (dp + (1 : Int32))), (5, .int 21), (0, .ref aa), (1, .int 4), (2, .int 1), (3, .int xx), (4, .int dp)]) hx hb dX0_ask_31 hl (by decide) rfl (fun ls hl => ?_)
    refine lv_iload hx hb dX0_ask_33 (lv_at hl 1 rfl) ?_
    refine lv_lookup (off := 133) (tgt := 168) hx hb dX0_ask_35 (by decide) (by decide) (by decide) ?_
    refine lv_aload_n hx hb dX0_ask_168 rfl (lv_at hl 2 rfl) ?_
    refine lv_iconst (v := 0) hx hb dX0_ask_169 (by decide) ?_
    refine lv_iconst (v := 1) hx hb dX0_ask_170 (by decide) ?_
    refine lv_iload_n hx hb dX0_ask_171 rfl (lv_at hl 5 rfl) ?_
    refine lv_iload hx hb dX0_ask_172 (lv_at hl 0 rfl) ?_
    refine contI (wc := [(aa, .inr (0, [.ref a1, .int rnZ_5, .int sl, .int 4, .int vv])), (a1, .inl (cI, 20, .inl faZ_6))]) (wr := []) C0 hP hD hS [0, 1] [] rfl rfl (by decide) (by decide) 0 0 (Nat.le_of_ble_eq_true rfl) (Nat.le_of_ble_eq_true rfl) (runV (k := 4) (As := [.int 0, .int 1, .int xx, .int (dp + (1 : Int32))]) (rest := []) C0 (c_ask_4_0_1 l D cI cZ cQ cT _ aa xx (dp + (1 : Int32)) a1 rnZ_5 sl vv faZ_6) wc_X0_ask wl_X0_38 wi_X0_ask we_X0_ask wz_X0 ⟨by decide, by decide, by decide +kernel⟩ ⟨(Nat.le_of_ble_eq_true rfl), (Nat.le_of_ble_eq_true rfl)⟩ hP hD hS EF.ok hX [0, 1] rfl (by decide) 0 rfl rfl rfl rfl hl.1 rfl (Nat.le_of_ble_eq_true rfl) dX0_ask_174 ⟨(Nat.le_of_ble_eq_true rfl), (Nat.le_of_ble_eq_true rfl)⟩) (fun r_14 u_12 H locs w_13 hP hD hS => ?_)
    obtain ⟨rnZ_10, faZ_11⟩ := u_12
    have hP : va_P D CL [(aa, .inr (0, [.ref a1, .int rnZ_10, .int sl, .int 4, .int vv])), (a1, .inl (cI, 20, .inl faZ_11))] H := hP
    have hD : va_D A [(aa, .inr (0, [.ref a1, .int rnZ_10, .int sl, .int 4, .int vv])), (a1, .inl (cI, 20, .inl faZ_11))] := hD
    refine lv_ineg hx hb dX0_ask_177 ?_
    exact retI C0 rfl (rnZ_10, faZ_11) trivial (hP.sub (ws' := [(aa, .inr (0, [.ref a1, .int rnZ_10, .int sl, .int 4, .int vv])), (a1, .inl (cI, 20, .inl faZ_11))]) [0, 1] rfl) (hD.sub (ws' := [(aa, .inr (0, [.ref a1, .int rnZ_10, .int sl, .int 4, .int vv])), (a1, .inl (cI, 20, .inl faZ_11))]) [0, 1] (by decide) rfl) hS (Nat.le_of_ble_eq_true rfl) (Nat.le_of_ble_eq_true rfl) dX0_ask_178
  · refine lv_iconst (v := 0) hx hb dX0_ask_19 (by decide) ?_
    exact retI C0 rfl (rn, fa) trivial (hP.sub (ws' := [(aa, .inr (0, [.ref a1, .int rn, .int sl, .int 4, .int vv])), (a1, .inl (cI, 20, .inl fa))]) [0, 1] rfl) (hD.sub (ws' := [(aa, .inr (0, [.ref a1, .int rn, .int sl, .int 4, .int vv])), (a1, .inl (cI, 20, .inl fa))]) [0, 1] (by decide) rfl) hS (Nat.le_of_ble_eq_true rfl) (Nat.le_of_ble_eq_true rfl) dX0_ask_20

set_option maxHeartbeats 4000000 in
set_option maxRecDepth 100000 in
theorem c_bodyOf_5_1 (l : Launch) (D : va_G) (cI cZ cQ cT : ClassId) (sz : Nat)   : MetI l yX0_bodyOf cX0_bodyOf 5 .int ({ frames := 0, cells := 0, slots := 0, locals := 0 } : Room) [.int 5, .int 1] D (TYS cI cZ cQ cT) EF sz [] (S := Unit) (fun (r : Int32) (_ : Unit) => r = 2) (fun _ => []) := by
  refine MetI.mk (lv := [(0, .int 5), (1, .int 1)]) (by decide +kernel) (Nat.le_of_ble_eq_true rfl) rfl ?_
  intro p e s m below meth c A ls C0 hP hD hS hX hl
  have C1 := C0
  obtain ⟨hx, hb, hr, hml, hown, hlocks, hname, hT, hN, hK, hA⟩ := C1
  obtain ⟨kab, hkz, hkT⟩ := hX.2.1
  obtain ⟨bdy, hbz, hbT⟩ := hX.2.2.1
  refine lv_iload_n hx hb dX0_bodyOf_0 rfl (lv_at hl 0 rfl) ?_
  refine lv_istore_n (lv' := [(2, .int 5), (0, .int 5), (1, .int 1)]) hx hb dX0_bodyOf_1 rfl hl (by decide) rfl (fun ls hl => ?_)
  refine lv_iconst (v := 0) hx hb dX0_bodyOf_2 (by decide) ?_
  refine lv_istore_n (lv' := [(3, .int 0), (2, .int 5), (0, .int 5), (1, .int 1)]) hx hb dX0_bodyOf_3 rfl hl (by decide) rfl (fun ls hl => ?_)
  refine lv_iload_n hx hb dX0_bodyOf_4 rfl (lv_at hl 0 rfl) ?_
  refine lv_bipush (v := 7) hx hb dX0_bodyOf_5 (by decide) ?_
  refine lv_icmp_ge (tgt := 69) hx hb dX0_bodyOf_7 (by decide) (fun c_0 => absurd c_0 (by decide)) (fun _ => ?_)
  refine lv_iload_n hx hb dX0_bodyOf_10 rfl (lv_at hl 1 rfl) ?_
  refine lv_if_lt (tgt := 69) hx hb dX0_bodyOf_11 (by decide) (fun c_0 => absurd c_0 (by decide)) (fun _ => ?_)
  refine lv_iload_n hx hb dX0_bodyOf_14 rfl (lv_at hl 1 rfl) ?_
  refine lv_bipush (v := 7) hx hb dX0_bodyOf_15 (by decide) ?_
  refine lv_icmp_ge (tgt := 69) hx hb dX0_bodyOf_17 (by decide) (fun c_0 => absurd c_0 (by decide)) (fun _ => ?_)
  refine lv_iload_n hx hb dX0_bodyOf_20 rfl (lv_at hl 1 rfl) ?_
  refine lv_iconst (v := 3) hx hb dX0_bodyOf_21 (by decide) ?_
  refine lv_imul hx hb dX0_bodyOf_22 ?_
  refine lv_ci 15 (by decide +kernel) ?_
  refine lv_iload_n hx hb dX0_bodyOf_23 rfl (lv_at hl 3 rfl) ?_
  refine lv_iadd hx hb dX0_bodyOf_24 ?_
  refine lv_ci 16 (by decide +kernel) ?_
  refine lv_istore (lv' := [(4, .int 16), (3, .int 0), (2, .int 5), (0, .int 5), (1, .int 1)]) hx hb dX0_bodyOf_25 hl (by decide) rfl (fun ls hl => ?_)
  refine lv_iload hx hb dX0_bodyOf_27 (lv_at hl 0 rfl) ?_
  refine lv_if_lt (tgt := 57) hx hb dX0_bodyOf_29 (by decide) (fun c_0 => absurd c_0 (by decide)) (fun _ => ?_)
  refine lv_iload hx hb dX0_bodyOf_32 (lv_at hl 0 rfl) ?_
  refine va_gets hx hb hbz hS hown (hT _ wf_X0_42) (fun _ h9 => h9) dX0_bodyOf_34 ?_
  refine va_tlen hx hb hbT hS (v := 21) rfl dX0_bodyOf_37 ?_
  refine lv_icmp_ge (tgt := 57) hx hb dX0_bodyOf_38 (by decide) (fun c_0 => absurd c_0 (by decide)) (fun _ => ?_)
  refine va_gets hx hb hbz hS hown (hT _ wf_X0_42) (fun _ h9 => h9) dX0_bodyOf_41 ?_
  refine lv_iload hx hb dX0_bodyOf_44 (lv_at hl 0 rfl) ?_
  refine va_ti hx hb hbT hS (vin _ _ (by decide +kernel)) (v := .int 0) rfl dX0_bodyOf_46 ?_
  refine lv_if_eq (tgt := 57) hx hb dX0_bodyOf_47 (by decide) (fun _ => ?_) (fun c_0 => absurd (by decide) c_0)
  refine va_getsN hx hb hkz hS hown (va_Nw.use rfl (hN.get 750 kf_X0_45 rfl)) (fun _ h9 => h9) dX0_bodyOf_57 ?_
  refine lv_iload_n hx hb dX0_bodyOf_60 rfl (lv_at hl 2 rfl) ?_
  refine va_ti hx hb hkT hS (vin _ _ (by decide +kernel)) (v := .int 3) rfl dX0_bodyOf_61 ?_
  refine lv_istore_n (lv' := [(2, .int 3), (4, .int 16), (3, .int 0), (0, .int 5), (1, .int 1)]) hx hb dX0_bodyOf_62 rfl hl (by decide) rfl (fun ls hl => ?_)
  refine lv_iinc (v := 1) (lv' := [(3, .int 1), (2, .int 3), (4, .int 16), (0, .int 5), (1, .int 1)]) hx hb dX0_bodyOf_63 hl (k := 2) rfl (by decide) (by decide) rfl (fun ls hl => ?_)
  refine lv_goto (tgt := 4) hx hb dX0_bodyOf_66 (by decide) ?_
  refine lv_iload_n hx hb dX0_bodyOf_4 rfl (lv_at hl 0 rfl) ?_
  refine lv_bipush (v := 7) hx hb dX0_bodyOf_5 (by decide) ?_
  refine lv_icmp_ge (tgt := 69) hx hb dX0_bodyOf_7 (by decide) (fun c_0 => absurd c_0 (by decide)) (fun _ => ?_)
  refine lv_iload_n hx hb dX0_bodyOf_10 rfl (lv_at hl 1 rfl) ?_
  refine lv_if_lt (tgt := 69) hx hb dX0_bodyOf_11 (by decide) (fun c_0 => absurd c_0 (by decide)) (fun _ => ?_)
  refine lv_iload_n hx hb dX0_bodyOf_14 rfl (lv_at hl 1 rfl) ?_
  refine lv_bipush (v := 7) hx hb dX0_bodyOf_15 (by decide) ?_
  refine lv_icmp_ge (tgt := 69) hx hb dX0_bodyOf_17 (by decide) (fun c_0 => absurd c_0 (by decide)) (fun _ => ?_)
  refine lv_iload_n hx hb dX0_bodyOf_20 rfl (lv_at hl 1 rfl) ?_
  refine lv_iconst (v := 3) hx hb dX0_bodyOf_21 (by decide) ?_
  refine lv_imul hx hb dX0_bodyOf_22 ?_
  refine lv_ci 9 (by decide +kernel) ?_
  refine lv_iload_n hx hb dX0_bodyOf_23 rfl (lv_at hl 4 rfl) ?_
  refine lv_iadd hx hb dX0_bodyOf_24 ?_
  refine lv_ci 10 (by decide +kernel) ?_
  refine lv_istore (lv' := [(4, .int 10), (3, .int 1), (2, .int 3), (0, .int 5), (1, .int 1)]) hx hb dX0_bodyOf_25 hl (by decide) rfl (fun ls hl => ?_)
  refine lv_iload hx hb dX0_bodyOf_27 (lv_at hl 0 rfl) ?_
  refine lv_if_lt (tgt := 57) hx hb dX0_bodyOf_29 (by decide) (fun c_0 => absurd c_0 (by decide)) (fun _ => ?_)
  refine lv_iload hx hb dX0_bodyOf_32 (lv_at hl 0 rfl) ?_
  refine va_gets hx hb hbz hS hown (hT _ wf_X0_42) (fun _ h9 => h9) dX0_bodyOf_34 ?_
  refine va_tlen hx hb hbT hS (v := 21) rfl dX0_bodyOf_37 ?_
  refine lv_icmp_ge (tgt := 57) hx hb dX0_bodyOf_38 (by decide) (fun c_0 => absurd c_0 (by decide)) (fun _ => ?_)
  refine va_gets hx hb hbz hS hown (hT _ wf_X0_42) (fun _ h9 => h9) dX0_bodyOf_41 ?_
  refine lv_iload hx hb dX0_bodyOf_44 (lv_at hl 0 rfl) ?_
  refine va_ti hx hb hbT hS (vin _ _ (by decide +kernel)) (v := .int 0) rfl dX0_bodyOf_46 ?_
  refine lv_if_eq (tgt := 57) hx hb dX0_bodyOf_47 (by decide) (fun _ => ?_) (fun c_0 => absurd (by decide) c_0)
  refine va_getsN hx hb hkz hS hown (va_Nw.use rfl (hN.get 750 kf_X0_45 rfl)) (fun _ h9 => h9) dX0_bodyOf_57 ?_
  refine lv_iload_n hx hb dX0_bodyOf_60 rfl (lv_at hl 2 rfl) ?_
  refine va_ti hx hb hkT hS (vin _ _ (by decide +kernel)) (v := .int 0) rfl dX0_bodyOf_61 ?_
  refine lv_istore_n (lv' := [(2, .int 0), (4, .int 10), (3, .int 1), (0, .int 5), (1, .int 1)]) hx hb dX0_bodyOf_62 rfl hl (by decide) rfl (fun ls hl => ?_)
  refine lv_iinc (v := 2) (lv' := [(3, .int 2), (2, .int 0), (4, .int 10), (0, .int 5), (1, .int 1)]) hx hb dX0_bodyOf_63 hl (k := 2) rfl (by decide) (by decide) rfl (fun ls hl => ?_)
  refine lv_goto (tgt := 4) hx hb dX0_bodyOf_66 (by decide) ?_
  refine lv_iload_n hx hb dX0_bodyOf_4 rfl (lv_at hl 0 rfl) ?_
  refine lv_bipush (v := 7) hx hb dX0_bodyOf_5 (by decide) ?_
  refine lv_icmp_ge (tgt := 69) hx hb dX0_bodyOf_7 (by decide) (fun c_0 => absurd c_0 (by decide)) (fun _ => ?_)
  refine lv_iload_n hx hb dX0_bodyOf_10 rfl (lv_at hl 1 rfl) ?_
  refine lv_if_lt (tgt := 69) hx hb dX0_bodyOf_11 (by decide) (fun c_0 => absurd c_0 (by decide)) (fun _ => ?_)
  refine lv_iload_n hx hb dX0_bodyOf_14 rfl (lv_at hl 1 rfl) ?_
  refine lv_bipush (v := 7) hx hb dX0_bodyOf_15 (by decide) ?_
  refine lv_icmp_ge (tgt := 69) hx hb dX0_bodyOf_17 (by decide) (fun c_0 => absurd c_0 (by decide)) (fun _ => ?_)
  refine lv_iload_n hx hb dX0_bodyOf_20 rfl (lv_at hl 1 rfl) ?_
  refine lv_iconst (v := 3) hx hb dX0_bodyOf_21 (by decide) ?_
  refine lv_imul hx hb dX0_bodyOf_22 ?_
  refine lv_ci 0 (by decide +kernel) ?_
  refine lv_iload_n hx hb dX0_bodyOf_23 rfl (lv_at hl 4 rfl) ?_
  refine lv_iadd hx hb dX0_bodyOf_24 ?_
  refine lv_ci 1 (by decide +kernel) ?_
  refine lv_istore (lv' := [(4, .int 1), (3, .int 2), (2, .int 0), (0, .int 5), (1, .int 1)]) hx hb dX0_bodyOf_25 hl (by decide) rfl (fun ls hl => ?_)
  refine lv_iload hx hb dX0_bodyOf_27 (lv_at hl 0 rfl) ?_
  refine lv_if_lt (tgt := 57) hx hb dX0_bodyOf_29 (by decide) (fun c_0 => absurd c_0 (by decide)) (fun _ => ?_)
  refine lv_iload hx hb dX0_bodyOf_32 (lv_at hl 0 rfl) ?_
  refine va_gets hx hb hbz hS hown (hT _ wf_X0_42) (fun _ h9 => h9) dX0_bodyOf_34 ?_
  refine va_tlen hx hb hbT hS (v := 21) rfl dX0_bodyOf_37 ?_
  refine lv_icmp_ge (tgt := 57) hx hb dX0_bodyOf_38 (by decide) (fun c_0 => absurd c_0 (by decide)) (fun _ => ?_)
  refine va_gets hx hb hbz hS hown (hT _ wf_X0_42) (fun _ h9 => h9) dX0_bodyOf_41 ?_
  refine lv_iload hx hb dX0_bodyOf_44 (lv_at hl 0 rfl) ?_
  refine va_ti hx hb hbT hS (vin _ _ (by decide +kernel)) (v := .int 2) rfl dX0_bodyOf_46 ?_
  refine lv_if_eq (tgt := 57) hx hb dX0_bodyOf_47 (by decide) (fun c_0 => absurd c_0 (by decide)) (fun _ => ?_)
  refine va_gets hx hb hbz hS hown (hT _ wf_X0_42) (fun _ h9 => h9) dX0_bodyOf_50 ?_
  refine lv_iload hx hb dX0_bodyOf_53 (lv_at hl 0 rfl) ?_
  refine va_ti hx hb hbT hS (vin _ _ (by decide +kernel)) (v := .int 2) rfl dX0_bodyOf_55 ?_
  exact retI C0 rfl () rfl (hP.sub (ws' := []) [] rfl) (hD.sub (ws' := []) [] (by decide) rfl) hS (Nat.le_of_ble_eq_true rfl) (Nat.le_of_ble_eq_true rfl) dX0_bodyOf_56

set_option maxHeartbeats 4000000 in
set_option maxRecDepth 100000 in
theorem c_ask_5_5_1 (l : Launch) (D : va_G) (cI cZ cQ cT : ClassId) (sz : Nat) (aa : Nat) (xx : Int32) (dp : Int32) (a1 : Nat) (rn : Int32) (sl : Int32) (vv : Int32) (fa : Nat → Int32)  : MetI l yX0_ask cX0_ask 7 .int ({ frames := 3, cells := 0, slots := 0, locals := 76 } : Room) [.ref aa, .int 5, .int 1, .int xx, .int dp] D (TYS cI cZ cQ cT) EF sz [(aa, .inr (0, [.ref a1, .int rn, .int sl, .int 5, .int vv])), (a1, .inl (cI, 20, .inl fa))] (S := Int32 × (Nat → Int32)) (fun (r : Int32) (_ : Int32 × (Nat → Int32)) => True) (fun u => [(aa, .inr (0, [.ref a1, .int u.1, .int sl, .int 5, .int vv])), (a1, .inl (cI, 20, .inl u.2))]) := by
  refine MetI.mk (lv := [(0, .ref aa), (1, .int 5), (2, .int 1), (3, .int xx), (4, .int dp)]) (by decide +kernel) (Nat.le_of_ble_eq_true rfl) rfl ?_
  intro p e s m below meth c A ls C0 hP hD hS hX hl
  have C1 := C0
  obtain ⟨hx, hb, hr, hml, hown, hlocks, hname, hT, hN, hK, hA⟩ := C1
  refine lv_iload_n hx hb dX0_ask_0 rfl (lv_at hl 1 rfl) ?_
  refine lv_iload_n hx hb dX0_ask_1 rfl (lv_at hl 2 rfl) ?_
  refine contI (wc := []) (wr := [(aa, .inr (0, [.ref a1, .int rn, .int sl, .int 5, .int vv])), (a1, .inl (cI, 20, .inl fa))]) C0 hP hD hS [] [0, 1] rfl rfl (by decide) (by decide) 0 0 (Nat.le_of_ble_eq_true rfl) (Nat.le_of_ble_eq_true rfl) (runS (k := 2) (As := [.int 5, .int 1]) (rest := []) C0 (c_bodyOf_5_1 l D cI cZ cQ cT _ ) wc_X0_bodyOf wl_X0_48 wt_X0_bodyOf wz_X0 ⟨by decide, by decide, by decide +kernel⟩ ⟨(Nat.le_of_ble_eq_true rfl), (Nat.le_of_ble_eq_true rfl)⟩ hP hD hS EF.ok hX [] rfl (by decide) rfl hl.1 rfl (Nat.le_of_ble_eq_true rfl) dX0_ask_2 ⟨(Nat.le_of_ble_eq_true rfl), (Nat.le_of_ble_eq_true rfl)⟩) (fun r_3 u_1 H locs w_2 hP hD hS => ?_)
  have hP : va_P D CL [(aa, .inr (0, [.ref a1, .int rn, .int sl, .int 5, .int vv])), (a1, .inl (cI, 20, .inl fa))] H := hP
  have hD : va_D A [(aa, .inr (0, [.ref a1, .int rn, .int sl, .int 5, .int vv])), (a1, .inl (cI, 20, .inl fa))] := hD
  obtain rfl : r_3 = 2 := w_2
  refine lv_istore (lv' := [(5, .int 2), (0, .ref aa), (1, .int 5), (2, .int 1), (3, .int xx), (4, .int dp)]) hx hb dX0_ask_5 hl (by decide) rfl (fun ls hl => ?_)
  refine lv_iload hx hb dX0_ask_7 (lv_at hl 0 rfl) ?_
  refine lv_if_eq (tgt := 19) hx hb dX0_ask_9 (by decide) (fun c_0 => absurd c_0 (by decide)) (fun _ => ?_)
  refine lv_iload hx hb dX0_ask_12 (lv_at hl 5 rfl) ?_
  refine lv_bipush (v := 40) hx hb dX0_ask_14 (by decide) ?_
  refine lv_icmp_le (tgt := 21) hx hb dX0_ask_16 (by decide) (fun c_4 => ?_) (fun c_4 => ?_)
  · refine lv_aload_n hx hb dX0_ask_21 rfl (lv_at hl 1 rfl) ?_
    refine lv_iload hx hb dX0_ask_22 (lv_at hl 0 rfl) ?_
    refine contV (wc := [(aa, .inr (0, [.ref a1, .int rn, .int sl, .int 5, .int vv])), (a1, .inl (cI, 20, .inl fa))]) (wr := []) C0 hP hD hS [0, 1] [] rfl rfl (by decide) (by decide) 0 0 (Nat.le_of_ble_eq_true rfl) (Nat.le_of_ble_eq_true rfl) (runV (k := 1) (As := [.int 2]) (rest := []) C0 (c_begin l D cI cZ cQ cT _ aa 2 a1 rn sl 5 vv fa) wc_X0_begin wl_X0_52 wi_X0_begin we_X0_begin wz_X0 ⟨by decide, by decide, by decide +kernel⟩ ⟨(Nat.le_of_ble_eq_true rfl), (Nat.le_of_ble_eq_true rfl)⟩ hP hD hS EF.ok hX [0, 1] rfl (by decide) 0 rfl rfl rfl rfl hl.1 rfl (Nat.le_of_ble_eq_true rfl) dX0_ask_24 ⟨(Nat.le_of_ble_eq_true rfl), (Nat.le_of_ble_eq_true rfl)⟩) (fun u_7 H locs w_8 hP hD hS => ?_)
    obtain ⟨rnZ_5, faZ_6⟩ := u_7
    have hP : va_P D CL [(aa, .inr (0, [.ref a1, .int rnZ_5, .int sl, .int 5, .int vv])), (a1, .inl (cI, 20, .inl faZ_6))] H := hP
    have hD : va_D A [(aa, .inr (0, [.ref a1, .int rnZ_5, .int sl, .int 5, .int vv])), (a1, .inl (cI, 20, .inl faZ_6))] := hD
    refine lv_iload hx hb dX0_ask_27 (lv_at hl 5 rfl) ?_
    refine lv_iconst (v := 1) hx hb dX0_ask_29 (by decide) ?_
    refine lv_iadd hx hb dX0_ask_30 ?_
    refine lv_istore (lv' := [(6, .int (dp + (1 : Int32))), (5, .int 2), (0, .ref aa), (1, .int 5), (2, .int 1), (3, .int xx), (4, .int dp)]) hx hb dX0_ask_31 hl (by decide) rfl (fun ls hl => ?_)
    refine lv_iload hx hb dX0_ask_33 (lv_at hl 1 rfl) ?_
    refine lv_lookup (off := 88) (tgt := 123) hx hb dX0_ask_35 (by decide) (by decide) (by decide) ?_
    refine lv_aload_n hx hb dX0_ask_123 rfl (lv_at hl 2 rfl) ?_
    refine lv_aload_n hx hb dX0_ask_124 rfl (lv_at hl 2 rfl) ?_
    refine va_get (ci := 0) (v := .int 5) (C := RX0) (T := TX0) (N := 5) hx hb hT wu_X0 hown hK hP 0 rfl rfl 3 (by decide) (hT _ wf_X0_31) (fun _ h9 => h9) rfl dX0_ask_125 ?_
    refine lv_iconst (v := 0) hx hb dX0_ask_128 (by decide) ?_
    refine lv_iload_n hx hb dX0_ask_129 rfl (lv_at hl 5 rfl) ?_
    refine lv_iload hx hb dX0_ask_130 (lv_at hl 0 rfl) ?_
    refine contI (wc := [(aa, .inr (0, [.ref a1, .int rnZ_5, .int sl, .int 5, .int vv])), (a1, .inl (cI, 20, .inl faZ_6))]) (wr := []) C0 hP hD hS [0, 1] [] rfl rfl (by decide) (by decide) 0 0 (Nat.le_of_ble_eq_true rfl) (Nat.le_of_ble_eq_true rfl) (runV (k := 4) (As := [.int 5, .int 0, .int xx, .int (dp + (1 : Int32))]) (rest := []) C0 (c_ask_5_5_0 l D cI cZ cQ cT _ aa xx (dp + (1 : Int32)) a1 rnZ_5 sl vv faZ_6) wc_X0_ask wl_X0_38 wi_X0_ask we_X0_ask wz_X0 ⟨by decide, by decide, by decide +kernel⟩ ⟨(Nat.le_of_ble_eq_true rfl), (Nat.le_of_ble_eq_true rfl)⟩ hP hD hS EF.ok hX [0, 1] rfl (by decide) 0 rfl rfl rfl rfl hl.1 rfl (Nat.le_of_ble_eq_true rfl) dX0_ask_132 ⟨(Nat.le_of_ble_eq_true rfl), (Nat.le_of_ble_eq_true rfl)⟩) (fun r_14 u_12 H locs w_13 hP hD hS => ?_)
    obtain ⟨rnZ_10, faZ_11⟩ := u_12
    have hP : va_P D CL [(aa, .inr (0, [.ref a1, .int rnZ_10, .int sl, .int 5, .int vv])), (a1, .inl (cI, 20, .inl faZ_11))] H := hP
    have hD : va_D A [(aa, .inr (0, [.ref a1, .int rnZ_10, .int sl, .int 5, .int vv])), (a1, .inl (cI, 20, .inl faZ_11))] := hD
    refine lv_aload_n hx hb dX0_ask_135 rfl (lv_at hl 2 rfl) ?_
    refine va_get (ci := 0) (v := .int vv) (C := RX0) (T := TX0) (N := 5) hx hb hT wu_X0 hown hK hP 0 rfl rfl 4 (by decide) (hT _ wf_X0_36) (fun _ h9 => h9) rfl dX0_ask_136 ?_
    refine lv_isub hx hb dX0_ask_139 ?_
    exact retI C0 rfl (rnZ_10, faZ_11) trivial (hP.sub (ws' := [(aa, .inr (0, [.ref a1, .int rnZ_10, .int sl, .int 5, .int vv])), (a1, .inl (cI, 20, .inl faZ_11))]) [0, 1] rfl) (hD.sub (ws' := [(aa, .inr (0, [.ref a1, .int rnZ_10, .int sl, .int 5, .int vv])), (a1, .inl (cI, 20, .inl faZ_11))]) [0, 1] (by decide) rfl) hS (Nat.le_of_ble_eq_true rfl) (Nat.le_of_ble_eq_true rfl) dX0_ask_140
  · refine lv_iconst (v := 0) hx hb dX0_ask_19 (by decide) ?_
    exact retI C0 rfl (rn, fa) trivial (hP.sub (ws' := [(aa, .inr (0, [.ref a1, .int rn, .int sl, .int 5, .int vv])), (a1, .inl (cI, 20, .inl fa))]) [0, 1] rfl) (hD.sub (ws' := [(aa, .inr (0, [.ref a1, .int rn, .int sl, .int 5, .int vv])), (a1, .inl (cI, 20, .inl fa))]) [0, 1] (by decide) rfl) hS (Nat.le_of_ble_eq_true rfl) (Nat.le_of_ble_eq_true rfl) dX0_ask_20

set_option maxHeartbeats 4000000 in
set_option maxRecDepth 100000 in
theorem c_bodyOf_6_1 (l : Launch) (D : va_G) (cI cZ cQ cT : ClassId) (sz : Nat)   : MetI l yX0_bodyOf cX0_bodyOf 5 .int ({ frames := 0, cells := 0, slots := 0, locals := 0 } : Room) [.int 6, .int 1] D (TYS cI cZ cQ cT) EF sz [] (S := Unit) (fun (r : Int32) (_ : Unit) => r = 61) (fun _ => []) := by
  refine MetI.mk (lv := [(0, .int 6), (1, .int 1)]) (by decide +kernel) (Nat.le_of_ble_eq_true rfl) rfl ?_
  intro p e s m below meth c A ls C0 hP hD hS hX hl
  have C1 := C0
  obtain ⟨hx, hb, hr, hml, hown, hlocks, hname, hT, hN, hK, hA⟩ := C1
  obtain ⟨kab, hkz, hkT⟩ := hX.2.1
  obtain ⟨bdy, hbz, hbT⟩ := hX.2.2.1
  refine lv_iload_n hx hb dX0_bodyOf_0 rfl (lv_at hl 0 rfl) ?_
  refine lv_istore_n (lv' := [(2, .int 6), (0, .int 6), (1, .int 1)]) hx hb dX0_bodyOf_1 rfl hl (by decide) rfl (fun ls hl => ?_)
  refine lv_iconst (v := 0) hx hb dX0_bodyOf_2 (by decide) ?_
  refine lv_istore_n (lv' := [(3, .int 0), (2, .int 6), (0, .int 6), (1, .int 1)]) hx hb dX0_bodyOf_3 rfl hl (by decide) rfl (fun ls hl => ?_)
  refine lv_iload_n hx hb dX0_bodyOf_4 rfl (lv_at hl 0 rfl) ?_
  refine lv_bipush (v := 7) hx hb dX0_bodyOf_5 (by decide) ?_
  refine lv_icmp_ge (tgt := 69) hx hb dX0_bodyOf_7 (by decide) (fun c_0 => absurd c_0 (by decide)) (fun _ => ?_)
  refine lv_iload_n hx hb dX0_bodyOf_10 rfl (lv_at hl 1 rfl) ?_
  refine lv_if_lt (tgt := 69) hx hb dX0_bodyOf_11 (by decide) (fun c_0 => absurd c_0 (by decide)) (fun _ => ?_)
  refine lv_iload_n hx hb dX0_bodyOf_14 rfl (lv_at hl 1 rfl) ?_
  refine lv_bipush (v := 7) hx hb dX0_bodyOf_15 (by decide) ?_
  refine lv_icmp_ge (tgt := 69) hx hb dX0_bodyOf_17 (by decide) (fun c_0 => absurd c_0 (by decide)) (fun _ => ?_)
  refine lv_iload_n hx hb dX0_bodyOf_20 rfl (lv_at hl 1 rfl) ?_
  refine lv_iconst (v := 3) hx hb dX0_bodyOf_21 (by decide) ?_
  refine lv_imul hx hb dX0_bodyOf_22 ?_
  refine lv_ci 18 (by decide +kernel) ?_
  refine lv_iload_n hx hb dX0_bodyOf_23 rfl (lv_at hl 3 rfl) ?_
  refine lv_iadd hx hb dX0_bodyOf_24 ?_
  refine lv_ci 19 (by decide +kernel) ?_
  refine lv_istore (lv' := [(4, .int 19), (3, .int 0), (2, .int 6), (0, .int 6), (1, .int 1)]) hx hb dX0_bodyOf_25 hl (by decide) rfl (fun ls hl => ?_)
  refine lv_iload hx hb dX0_bodyOf_27 (lv_at hl 0 rfl) ?_
  refine lv_if_lt (tgt := 57) hx hb dX0_bodyOf_29 (by decide) (fun c_0 => absurd c_0 (by decide)) (fun _ => ?_)
  refine lv_iload hx hb dX0_bodyOf_32 (lv_at hl 0 rfl) ?_
  refine va_gets hx hb hbz hS hown (hT _ wf_X0_42) (fun _ h9 => h9) dX0_bodyOf_34 ?_
  refine va_tlen hx hb hbT hS (v := 21) rfl dX0_bodyOf_37 ?_
  refine lv_icmp_ge (tgt := 57) hx hb dX0_bodyOf_38 (by decide) (fun c_0 => absurd c_0 (by decide)) (fun _ => ?_)
  refine va_gets hx hb hbz hS hown (hT _ wf_X0_42) (fun _ h9 => h9) dX0_bodyOf_41 ?_
  refine lv_iload hx hb dX0_bodyOf_44 (lv_at hl 0 rfl) ?_
  refine va_ti hx hb hbT hS (vin _ _ (by decide +kernel)) (v := .int 61) rfl dX0_bodyOf_46 ?_
  refine lv_if_eq (tgt := 57) hx hb dX0_bodyOf_47 (by decide) (fun c_0 => absurd c_0 (by decide)) (fun _ => ?_)
  refine va_gets hx hb hbz hS hown (hT _ wf_X0_42) (fun _ h9 => h9) dX0_bodyOf_50 ?_
  refine lv_iload hx hb dX0_bodyOf_53 (lv_at hl 0 rfl) ?_
  refine va_ti hx hb hbT hS (vin _ _ (by decide +kernel)) (v := .int 61) rfl dX0_bodyOf_55 ?_
  exact retI C0 rfl () rfl (hP.sub (ws' := []) [] rfl) (hD.sub (ws' := []) [] (by decide) rfl) hS (Nat.le_of_ble_eq_true rfl) (Nat.le_of_ble_eq_true rfl) dX0_bodyOf_56

set_option maxHeartbeats 4000000 in
set_option maxRecDepth 100000 in
theorem c_ask_6_3_1 (l : Launch) (D : va_G) (cI cZ cQ cT : ClassId) (sz : Nat) (aa : Nat) (xx : Int32) (dp : Int32) (a1 : Nat) (rn : Int32) (sl : Int32) (vv : Int32) (fa : Nat → Int32)  : MetI l yX0_ask cX0_ask 7 .int ({ frames := 2, cells := 0, slots := 0, locals := 50 } : Room) [.ref aa, .int 3, .int 1, .int xx, .int dp] D (TYS cI cZ cQ cT) EF sz [(aa, .inr (0, [.ref a1, .int rn, .int sl, .int 6, .int vv])), (a1, .inl (cI, 20, .inl fa))] (S := Int32 × (Nat → Int32)) (fun (r : Int32) (_ : Int32 × (Nat → Int32)) => True) (fun u => [(aa, .inr (0, [.ref a1, .int u.1, .int sl, .int 6, .int vv])), (a1, .inl (cI, 20, .inl u.2))]) := by
  refine MetI.mk (lv := [(0, .ref aa), (1, .int 3), (2, .int 1), (3, .int xx), (4, .int dp)]) (by decide +kernel) (Nat.le_of_ble_eq_true rfl) rfl ?_
  intro p e s m below meth c A ls C0 hP hD hS hX hl
  have C1 := C0
  obtain ⟨hx, hb, hr, hml, hown, hlocks, hname, hT, hN, hK, hA⟩ := C1
  refine lv_iload_n hx hb dX0_ask_0 rfl (lv_at hl 1 rfl) ?_
  refine lv_iload_n hx hb dX0_ask_1 rfl (lv_at hl 2 rfl) ?_
  refine contI (wc := []) (wr := [(aa, .inr (0, [.ref a1, .int rn, .int sl, .int 6, .int vv])), (a1, .inl (cI, 20, .inl fa))]) C0 hP hD hS [] [0, 1] rfl rfl (by decide) (by decide) 0 0 (Nat.le_of_ble_eq_true rfl) (Nat.le_of_ble_eq_true rfl) (runS (k := 2) (As := [.int 3, .int 1]) (rest := []) C0 (c_bodyOf_3_1 l D cI cZ cQ cT _ ) wc_X0_bodyOf wl_X0_48 wt_X0_bodyOf wz_X0 ⟨by decide, by decide, by decide +kernel⟩ ⟨(Nat.le_of_ble_eq_true rfl), (Nat.le_of_ble_eq_true rfl)⟩ hP hD hS EF.ok hX [] rfl (by decide) rfl hl.1 rfl (Nat.le_of_ble_eq_true rfl) dX0_ask_2 ⟨(Nat.le_of_ble_eq_true rfl), (Nat.le_of_ble_eq_true rfl)⟩) (fun r_3 u_1 H locs w_2 hP hD hS => ?_)
  have hP : va_P D CL [(aa, .inr (0, [.ref a1, .int rn, .int sl, .int 6, .int vv])), (a1, .inl (cI, 20, .inl fa))] H := hP
  have hD : va_D A [(aa, .inr (0, [.ref a1, .int rn, .int sl, .int 6, .int vv])), (a1, .inl (cI, 20, .inl fa))] := hD
  obtain rfl : r_3 = 2 := w_2
  refine lv_istore (lv' := [(5, .int 2), (0, .ref aa), (1, .int 3), (2, .int 1), (3, .int xx), (4, .int dp)]) hx hb dX0_ask_5 hl (by decide) rfl (fun ls hl => ?_)
  refine lv_iload hx hb dX0_ask_7 (lv_at hl 0 rfl) ?_
  refine lv_if_eq (tgt := 19) hx hb dX0_ask_9 (by decide) (fun c_0 => absurd c_0 (by decide)) (fun _ => ?_)
  refine lv_iload hx hb dX0_ask_12 (lv_at hl 5 rfl) ?_
  refine lv_bipush (v := 40) hx hb dX0_ask_14 (by decide) ?_
  refine lv_icmp_le (tgt := 21) hx hb dX0_ask_16 (by decide) (fun c_4 => ?_) (fun c_4 => ?_)
  · refine lv_aload_n hx hb dX0_ask_21 rfl (lv_at hl 1 rfl) ?_
    refine lv_iload hx hb dX0_ask_22 (lv_at hl 0 rfl) ?_
    refine contV (wc := [(aa, .inr (0, [.ref a1, .int rn, .int sl, .int 6, .int vv])), (a1, .inl (cI, 20, .inl fa))]) (wr := []) C0 hP hD hS [0, 1] [] rfl rfl (by decide) (by decide) 0 0 (Nat.le_of_ble_eq_true rfl) (Nat.le_of_ble_eq_true rfl) (runV (k := 1) (As := [.int 2]) (rest := []) C0 (c_begin l D cI cZ cQ cT _ aa 2 a1 rn sl 6 vv fa) wc_X0_begin wl_X0_52 wi_X0_begin we_X0_begin wz_X0 ⟨by decide, by decide, by decide +kernel⟩ ⟨(Nat.le_of_ble_eq_true rfl), (Nat.le_of_ble_eq_true rfl)⟩ hP hD hS EF.ok hX [0, 1] rfl (by decide) 0 rfl rfl rfl rfl hl.1 rfl (Nat.le_of_ble_eq_true rfl) dX0_ask_24 ⟨(Nat.le_of_ble_eq_true rfl), (Nat.le_of_ble_eq_true rfl)⟩) (fun u_7 H locs w_8 hP hD hS => ?_)
    obtain ⟨rnZ_5, faZ_6⟩ := u_7
    have hP : va_P D CL [(aa, .inr (0, [.ref a1, .int rnZ_5, .int sl, .int 6, .int vv])), (a1, .inl (cI, 20, .inl faZ_6))] H := hP
    have hD : va_D A [(aa, .inr (0, [.ref a1, .int rnZ_5, .int sl, .int 6, .int vv])), (a1, .inl (cI, 20, .inl faZ_6))] := hD
    refine lv_iload hx hb dX0_ask_27 (lv_at hl 5 rfl) ?_
    refine lv_iconst (v := 1) hx hb dX0_ask_29 (by decide) ?_
    refine lv_iadd hx hb dX0_ask_30 ?_
    refine lv_istore (lv' := [(6, .int (dp + (1 : Int32))), (5, .int 2), (0, .ref aa), (1, .int 3), (2, .int 1), (3, .int xx), (4, .int dp)]) hx hb dX0_ask_31 hl (by decide) rfl (fun ls hl => ?_)
    refine lv_iload hx hb dX0_ask_33 (lv_at hl 1 rfl) ?_
    refine lv_lookup (off := 88) (tgt := 123) hx hb dX0_ask_35 (by decide) (by decide) (by decide) ?_
    refine lv_aload_n hx hb dX0_ask_123 rfl (lv_at hl 2 rfl) ?_
    refine lv_aload_n hx hb dX0_ask_124 rfl (lv_at hl 2 rfl) ?_
    refine va_get (ci := 0) (v := .int 6) (C := RX0) (T := TX0) (N := 5) hx hb hT wu_X0 hown hK hP 0 rfl rfl 3 (by decide) (hT _ wf_X0_31) (fun _ h9 => h9) rfl dX0_ask_125 ?_
    refine lv_iconst (v := 0) hx hb dX0_ask_128 (by decide) ?_
    refine lv_iload_n hx hb dX0_ask_129 rfl (lv_at hl 5 rfl) ?_
    refine lv_iload hx hb dX0_ask_130 (lv_at hl 0 rfl) ?_
    refine contI (wc := [(aa, .inr (0, [.ref a1, .int rnZ_5, .int sl, .int 6, .int vv])), (a1, .inl (cI, 20, .inl faZ_6))]) (wr := []) C0 hP hD hS [0, 1] [] rfl rfl (by decide) (by decide) 0 0 (Nat.le_of_ble_eq_true rfl) (Nat.le_of_ble_eq_true rfl) (runV (k := 4) (As := [.int 6, .int 0, .int xx, .int (dp + (1 : Int32))]) (rest := []) C0 (c_ask_6_6_0 l D cI cZ cQ cT _ aa xx (dp + (1 : Int32)) a1 rnZ_5 sl vv faZ_6) wc_X0_ask wl_X0_38 wi_X0_ask we_X0_ask wz_X0 ⟨by decide, by decide, by decide +kernel⟩ ⟨(Nat.le_of_ble_eq_true rfl), (Nat.le_of_ble_eq_true rfl)⟩ hP hD hS EF.ok hX [0, 1] rfl (by decide) 0 rfl rfl rfl rfl hl.1 rfl (Nat.le_of_ble_eq_true rfl) dX0_ask_132 ⟨(Nat.le_of_ble_eq_true rfl), (Nat.le_of_ble_eq_true rfl)⟩) (fun r_14 u_12 H locs w_13 hP hD hS => ?_)
    obtain ⟨rnZ_10, faZ_11⟩ := u_12
    have hP : va_P D CL [(aa, .inr (0, [.ref a1, .int rnZ_10, .int sl, .int 6, .int vv])), (a1, .inl (cI, 20, .inl faZ_11))] H := hP
    have hD : va_D A [(aa, .inr (0, [.ref a1, .int rnZ_10, .int sl, .int 6, .int vv])), (a1, .inl (cI, 20, .inl faZ_11))] := hD
    refine lv_aload_n hx hb dX0_ask_135 rfl (lv_at hl 2 rfl) ?_
    refine va_get (ci := 0) (v := .int vv) (C := RX0) (T := TX0) (N := 5) hx hb hT wu_X0 hown hK hP 0 rfl rfl 4 (by decide) (hT _ wf_X0_36) (fun _ h9 => h9) rfl dX0_ask_136 ?_
    refine lv_isub hx hb dX0_ask_139 ?_
    exact retI C0 rfl (rnZ_10, faZ_11) trivial (hP.sub (ws' := [(aa, .inr (0, [.ref a1, .int rnZ_10, .int sl, .int 6, .int vv])), (a1, .inl (cI, 20, .inl faZ_11))]) [0, 1] rfl) (hD.sub (ws' := [(aa, .inr (0, [.ref a1, .int rnZ_10, .int sl, .int 6, .int vv])), (a1, .inl (cI, 20, .inl faZ_11))]) [0, 1] (by decide) rfl) hS (Nat.le_of_ble_eq_true rfl) (Nat.le_of_ble_eq_true rfl) dX0_ask_140
  · refine lv_iconst (v := 0) hx hb dX0_ask_19 (by decide) ?_
    exact retI C0 rfl (rn, fa) trivial (hP.sub (ws' := [(aa, .inr (0, [.ref a1, .int rn, .int sl, .int 6, .int vv])), (a1, .inl (cI, 20, .inl fa))]) [0, 1] rfl) (hD.sub (ws' := [(aa, .inr (0, [.ref a1, .int rn, .int sl, .int 6, .int vv])), (a1, .inl (cI, 20, .inl fa))]) [0, 1] (by decide) rfl) hS (Nat.le_of_ble_eq_true rfl) (Nat.le_of_ble_eq_true rfl) dX0_ask_20

set_option maxHeartbeats 4000000 in
set_option maxRecDepth 100000 in
theorem c_ask_6_6_1 (l : Launch) (D : va_G) (cI cZ cQ cT : ClassId) (sz : Nat) (aa : Nat) (xx : Int32) (dp : Int32) (a1 : Nat) (rn : Int32) (sl : Int32) (vv : Int32) (fa : Nat → Int32)  : MetI l yX0_ask cX0_ask 7 .int ({ frames := 3, cells := 0, slots := 0, locals := 76 } : Room) [.ref aa, .int 6, .int 1, .int xx, .int dp] D (TYS cI cZ cQ cT) EF sz [(aa, .inr (0, [.ref a1, .int rn, .int sl, .int 6, .int vv])), (a1, .inl (cI, 20, .inl fa))] (S := Int32 × (Nat → Int32)) (fun (r : Int32) (_ : Int32 × (Nat → Int32)) => True) (fun u => [(aa, .inr (0, [.ref a1, .int u.1, .int sl, .int 6, .int vv])), (a1, .inl (cI, 20, .inl u.2))]) := by
  refine MetI.mk (lv := [(0, .ref aa), (1, .int 6), (2, .int 1), (3, .int xx), (4, .int dp)]) (by decide +kernel) (Nat.le_of_ble_eq_true rfl) rfl ?_
  intro p e s m below meth c A ls C0 hP hD hS hX hl
  have C1 := C0
  obtain ⟨hx, hb, hr, hml, hown, hlocks, hname, hT, hN, hK, hA⟩ := C1
  refine lv_iload_n hx hb dX0_ask_0 rfl (lv_at hl 1 rfl) ?_
  refine lv_iload_n hx hb dX0_ask_1 rfl (lv_at hl 2 rfl) ?_
  refine contI (wc := []) (wr := [(aa, .inr (0, [.ref a1, .int rn, .int sl, .int 6, .int vv])), (a1, .inl (cI, 20, .inl fa))]) C0 hP hD hS [] [0, 1] rfl rfl (by decide) (by decide) 0 0 (Nat.le_of_ble_eq_true rfl) (Nat.le_of_ble_eq_true rfl) (runS (k := 2) (As := [.int 6, .int 1]) (rest := []) C0 (c_bodyOf_6_1 l D cI cZ cQ cT _ ) wc_X0_bodyOf wl_X0_48 wt_X0_bodyOf wz_X0 ⟨by decide, by decide, by decide +kernel⟩ ⟨(Nat.le_of_ble_eq_true rfl), (Nat.le_of_ble_eq_true rfl)⟩ hP hD hS EF.ok hX [] rfl (by decide) rfl hl.1 rfl (Nat.le_of_ble_eq_true rfl) dX0_ask_2 ⟨(Nat.le_of_ble_eq_true rfl), (Nat.le_of_ble_eq_true rfl)⟩) (fun r_3 u_1 H locs w_2 hP hD hS => ?_)
  have hP : va_P D CL [(aa, .inr (0, [.ref a1, .int rn, .int sl, .int 6, .int vv])), (a1, .inl (cI, 20, .inl fa))] H := hP
  have hD : va_D A [(aa, .inr (0, [.ref a1, .int rn, .int sl, .int 6, .int vv])), (a1, .inl (cI, 20, .inl fa))] := hD
  obtain rfl : r_3 = 61 := w_2
  refine lv_istore (lv' := [(5, .int 61), (0, .ref aa), (1, .int 6), (2, .int 1), (3, .int xx), (4, .int dp)]) hx hb dX0_ask_5 hl (by decide) rfl (fun ls hl => ?_)
  refine lv_iload hx hb dX0_ask_7 (lv_at hl 0 rfl) ?_
  refine lv_if_eq (tgt := 19) hx hb dX0_ask_9 (by decide) (fun c_0 => absurd c_0 (by decide)) (fun _ => ?_)
  refine lv_iload hx hb dX0_ask_12 (lv_at hl 5 rfl) ?_
  refine lv_bipush (v := 40) hx hb dX0_ask_14 (by decide) ?_
  refine lv_icmp_le (tgt := 21) hx hb dX0_ask_16 (by decide) (fun c_4 => ?_) (fun c_4 => ?_)
  · refine lv_aload_n hx hb dX0_ask_21 rfl (lv_at hl 1 rfl) ?_
    refine lv_iload hx hb dX0_ask_22 (lv_at hl 0 rfl) ?_
    refine contV (wc := [(aa, .inr (0, [.ref a1, .int rn, .int sl, .int 6, .int vv])), (a1, .inl (cI, 20, .inl fa))]) (wr := []) C0 hP hD hS [0, 1] [] rfl rfl (by decide) (by decide) 0 0 (Nat.le_of_ble_eq_true rfl) (Nat.le_of_ble_eq_true rfl) (runV (k := 1) (As := [.int 61]) (rest := []) C0 (c_begin l D cI cZ cQ cT _ aa 61 a1 rn sl 6 vv fa) wc_X0_begin wl_X0_52 wi_X0_begin we_X0_begin wz_X0 ⟨by decide, by decide, by decide +kernel⟩ ⟨(Nat.le_of_ble_eq_true rfl), (Nat.le_of_ble_eq_true rfl)⟩ hP hD hS EF.ok hX [0, 1] rfl (by decide) 0 rfl rfl rfl rfl hl.1 rfl (Nat.le_of_ble_eq_true rfl) dX0_ask_24 ⟨(Nat.le_of_ble_eq_true rfl), (Nat.le_of_ble_eq_true rfl)⟩) (fun u_7 H locs w_8 hP hD hS => ?_)
    obtain ⟨rnZ_5, faZ_6⟩ := u_7
    have hP : va_P D CL [(aa, .inr (0, [.ref a1, .int rnZ_5, .int sl, .int 6, .int vv])), (a1, .inl (cI, 20, .inl faZ_6))] H := hP
    have hD : va_D A [(aa, .inr (0, [.ref a1, .int rnZ_5, .int sl, .int 6, .int vv])), (a1, .inl (cI, 20, .inl faZ_6))] := hD
    refine lv_iload hx hb dX0_ask_27 (lv_at hl 5 rfl) ?_
    refine lv_iconst (v := 1) hx hb dX0_ask_29 (by decide) ?_
    refine lv_iadd hx hb dX0_ask_30 ?_
    refine lv_istore (lv' := [(6, .int (dp + (1 : Int32))), (5, .int 61), (0, .ref aa), (1, .int 6), (2, .int 1), (3, .int xx), (4, .int dp)]) hx hb dX0_ask_31 hl (by decide) rfl (fun ls hl => ?_)
    refine lv_iload hx hb dX0_ask_33 (lv_at hl 1 rfl) ?_
    refine lv_lookup (off := 197) (tgt := 232) hx hb dX0_ask_35 (by decide) (by decide) (by decide) ?_
    refine lv_aload_n hx hb dX0_ask_232 rfl (lv_at hl 2 rfl) ?_
    refine lv_iconst (v := 3) hx hb dX0_ask_233 (by decide) ?_
    refine lv_iconst (v := 1) hx hb dX0_ask_234 (by decide) ?_
    refine lv_iload_n hx hb dX0_ask_235 rfl (lv_at hl 5 rfl) ?_
    refine lv_iload hx hb dX0_ask_236 (lv_at hl 0 rfl) ?_
    refine contI (wc := [(aa, .inr (0, [.ref a1, .int rnZ_5, .int sl, .int 6, .int vv])), (a1, .inl (cI, 20, .inl faZ_6))]) (wr := []) C0 hP hD hS [0, 1] [] rfl rfl (by decide) (by decide) 0 0 (Nat.le_of_ble_eq_true rfl) (Nat.le_of_ble_eq_true rfl) (runV (k := 4) (As := [.int 3, .int 1, .int xx, .int (dp + (1 : Int32))]) (rest := []) C0 (c_ask_6_3_1 l D cI cZ cQ cT _ aa xx (dp + (1 : Int32)) a1 rnZ_5 sl vv faZ_6) wc_X0_ask wl_X0_38 wi_X0_ask we_X0_ask wz_X0 ⟨by decide, by decide, by decide +kernel⟩ ⟨(Nat.le_of_ble_eq_true rfl), (Nat.le_of_ble_eq_true rfl)⟩ hP hD hS EF.ok hX [0, 1] rfl (by decide) 0 rfl rfl rfl rfl hl.1 rfl (Nat.le_of_ble_eq_true rfl) dX0_ask_238 ⟨(Nat.le_of_ble_eq_true rfl), (Nat.le_of_ble_eq_true rfl)⟩) (fun r_14 u_12 H locs w_13 hP hD hS => ?_)
    obtain ⟨rnZ_10, faZ_11⟩ := u_12
    have hP : va_P D CL [(aa, .inr (0, [.ref a1, .int rnZ_10, .int sl, .int 6, .int vv])), (a1, .inl (cI, 20, .inl faZ_11))] H := hP
    have hD : va_D A [(aa, .inr (0, [.ref a1, .int rnZ_10, .int sl, .int 6, .int vv])), (a1, .inl (cI, 20, .inl faZ_11))] := hD
    refine lv_aload_n hx hb dX0_ask_241 rfl (lv_at hl 2 rfl) ?_
    refine va_get (ci := 0) (v := .int vv) (C := RX0) (T := TX0) (N := 5) hx hb hT wu_X0 hown hK hP 0 rfl rfl 4 (by decide) (hT _ wf_X0_36) (fun _ h9 => h9) rfl dX0_ask_242 ?_
    refine lv_iadd hx hb dX0_ask_245 ?_
    exact retI C0 rfl (rnZ_10, faZ_11) trivial (hP.sub (ws' := [(aa, .inr (0, [.ref a1, .int rnZ_10, .int sl, .int 6, .int vv])), (a1, .inl (cI, 20, .inl faZ_11))]) [0, 1] rfl) (hD.sub (ws' := [(aa, .inr (0, [.ref a1, .int rnZ_10, .int sl, .int 6, .int vv])), (a1, .inl (cI, 20, .inl faZ_11))]) [0, 1] (by decide) rfl) hS (Nat.le_of_ble_eq_true rfl) (Nat.le_of_ble_eq_true rfl) dX0_ask_246
  · refine lv_iconst (v := 0) hx hb dX0_ask_19 (by decide) ?_
    exact retI C0 rfl (rn, fa) trivial (hP.sub (ws' := [(aa, .inr (0, [.ref a1, .int rn, .int sl, .int 6, .int vv])), (a1, .inl (cI, 20, .inl fa))]) [0, 1] rfl) (hD.sub (ws' := [(aa, .inr (0, [.ref a1, .int rn, .int sl, .int 6, .int vv])), (a1, .inl (cI, 20, .inl fa))]) [0, 1] (by decide) rfl) hS (Nat.le_of_ble_eq_true rfl) (Nat.le_of_ble_eq_true rfl) dX0_ask_20

set_option maxHeartbeats 4000000 in
set_option maxRecDepth 100000 in
theorem c_start_1 (l : Launch) (D : va_G) (cI cZ cQ cT : ClassId) (sz : Nat) (aa : Nat) (af : Nat) (xx : Int32) (a1 : Nat) (rn : Int32) (sl : Int32) (kd : Int32) (vv : Int32) (fa : Nat → Int32) (ak : Nat) (av : Nat) (ar : Nat) (nt : Int32) (yd : Int32) (fk : Nat → Int32) (fv : Nat → Int32) (P : Nat) (pn : Nat) (hKD : KD fk) (hP4 : P ≤ 4) (hpn : pn < 4) : MetI l yX0_start cX0_start 5 .int ({ frames := 4, cells := 0, slots := 0, locals := 102 } : Room) [.ref aa, .ref af, .int (nI pn), .int 1, .int xx] D (TYS cI cZ cQ cT) EF sz [(aa, .inr (0, [.ref a1, .int rn, .int sl, .int kd, .int vv])), (a1, .inl (cI, 20, .inl fa)), (af, .inr (2, [.ref ak, .ref av, .ref ar, .int (nI P), .int nt, .int yd])), (ak, .inl (cI, 4, .inl fk)), (av, .inl (cI, 4, .inl fv))] (S := Int32 × Int32 × Int32 × Int32 × (Nat → Int32)) (fun (r : Int32) (_ : Int32 × Int32 × Int32 × Int32 × (Nat → Int32)) => True) (fun u => [(aa, .inr (0, [.ref a1, .int u.1, .int u.2.1, .int u.2.2.1, .int u.2.2.2.1])), (a1, .inl (cI, 20, .inl u.2.2.2.2)), (af, .inr (2, [.ref ak, .ref av, .ref ar, .int (nI P), .int nt, .int yd])), (ak, .inl (cI, 4, .inl fk)), (av, .inl (cI, 4, .inl fv))]) := by
  refine MetI.mk (lv := [(0, .ref aa), (1, .ref af), (2, .int (nI pn)), (3, .int 1), (4, .int xx)]) (by decide +kernel) (Nat.le_of_ble_eq_true rfl) rfl ?_
  intro p e s m below meth c A ls C0 hP hD hS hX hl
  have C1 := C0
  obtain ⟨hx, hb, hr, hml, hown, hlocks, hname, hT, hN, hK, hA⟩ := C1
  have hd8 := d8_le hP4; have hd0 := d8_pos P
  refine lv_aload_n hx hb dX0_start_0 rfl (lv_at hl 1 rfl) ?_
  refine lv_iload_n hx hb dX0_start_1 rfl (lv_at hl 2 rfl) ?_
  refine contI (wc := [(af, .inr (2, [.ref ak, .ref av, .ref ar, .int (nI P), .int nt, .int yd]))]) (wr := [(aa, .inr (0, [.ref a1, .int rn, .int sl, .int kd, .int vv])), (a1, .inl (cI, 20, .inl fa)), (ak, .inl (cI, 4, .inl fk)), (av, .inl (cI, 4, .inl fv))]) C0 hP hD hS [2] [0, 1, 3, 4] rfl rfl (by decide) (by decide) 0 0 (Nat.le_of_ble_eq_true rfl) (Nat.le_of_ble_eq_true rfl) (runVN (k := 1) (As := [.int (nI pn)]) (rest := []) "DayKnown" 740 C0 (c_has l D cI cZ cQ cT _ af (nI pn) ak av ar nt yd P (by omega)) wc_X2_has kl_X0_19 wi_X2_has we_X2_has wz_X2 ⟨by decide, by decide, by decide +kernel⟩ ⟨(Nat.le_of_ble_eq_true rfl), (Nat.le_of_ble_eq_true rfl)⟩ hP hD hS EF.ok hX [2] rfl (by decide) 2 rfl rfl rfl rfl hl.1 rfl (Nat.le_of_ble_eq_true rfl) dX0_start_2 ⟨(Nat.le_of_ble_eq_true rfl), (Nat.le_of_ble_eq_true rfl)⟩) (fun r_3 u_1 H locs w_2 hP hD hS => ?_)
  have hP : va_P D CL [(aa, .inr (0, [.ref a1, .int rn, .int sl, .int kd, .int vv])), (a1, .inl (cI, 20, .inl fa)), (ak, .inl (cI, 4, .inl fk)), (av, .inl (cI, 4, .inl fv)), (af, .inr (2, [.ref ak, .ref av, .ref ar, .int (nI P), .int nt, .int yd]))] H := hP
  have hD : va_D A [(aa, .inr (0, [.ref a1, .int rn, .int sl, .int kd, .int vv])), (a1, .inl (cI, 20, .inl fa)), (ak, .inl (cI, 4, .inl fk)), (av, .inl (cI, 4, .inl fv)), (af, .inr (2, [.ref ak, .ref av, .ref ar, .int (nI P), .int nt, .int yd]))] := hD
  refine (Decidable.em ((0 ≤ (nI pn) ∧ (nI pn) < nI P))).elim (fun c_4 => ?_) (fun c_4 => ?_)
  · obtain rfl : r_3 = 1 := w_2.trans (if_pos c_4)
    have hpn_5 : pn < P := (nI_ltI (a := pn) (b := P) (by omega) (by omega)).mp c_4.2
    refine lv_if_ne (tgt := 10) hx hb dX0_start_5 (by decide) (fun _ => ?_) (fun c_0 => absurd c_0 (by decide))
    refine lv_aload_n hx hb dX0_start_10 rfl (lv_at hl 0 rfl) ?_
    refine lv_iload_n hx hb dX0_start_11 rfl (lv_at hl 2 rfl) ?_
    refine va_put (ci := 0) (v := .int (nI pn)) (ty := .int) (C := RX0) (T := TX0) (N := 5) hx hb hT wu_X0 tyX0 tyX0_ok nmX0 hown hK hP hD hS 0 rfl rfl 2 (by decide) (hT _ wf_X0_25) (fun _ h9 => h9) rfl (by decide +kernel) rfl rfl (Nat.le_of_ble_eq_true rfl) dX0_start_12 (fun H locs hP hD hS => ?_)
    have hP : va_P D CL [(aa, .inr (0, [.ref a1, .int rn, .int (nI pn), .int kd, .int vv])), (a1, .inl (cI, 20, .inl fa)), (ak, .inl (cI, 4, .inl fk)), (av, .inl (cI, 4, .inl fv)), (af, .inr (2, [.ref ak, .ref av, .ref ar, .int (nI P), .int nt, .int yd]))] H := hP
    have hD : va_D A [(aa, .inr (0, [.ref a1, .int rn, .int (nI pn), .int kd, .int vv])), (a1, .inl (cI, 20, .inl fa)), (ak, .inl (cI, 4, .inl fk)), (av, .inl (cI, 4, .inl fv)), (af, .inr (2, [.ref ak, .ref av, .ref ar, .int (nI P), .int nt, .int yd]))] := hD
    refine lv_aload_n hx hb dX0_start_15 rfl (lv_at hl 0 rfl) ?_
    refine lv_aload_n hx hb dX0_start_16 rfl (lv_at hl 1 rfl) ?_
    refine va_getN (ci := 2) (v := .ref ak) (C := RX2) (T := TX2) (N := 6) hx hb hT wu_X2 hown hK hP 4 rfl rfl 0 (by decide) (va_Nw.use rfl (hN.get 133 kf_X0_28 rfl)) (fun _ h9 => h9) rfl dX0_start_17 ?_
    refine lv_iload_n hx hb dX0_start_20 rfl (lv_at hl 2 rfl) ?_
    refine va_iald hx hb hK hP 2 0 rfl rfl (vp_in_nI (n := pn) (by omega) (by decide)) dX0_start_21 ?_
    refine lv_ci (fk pn) (congrArg fk (nI_clamp (n := pn) (by omega))) ?_
    obtain ⟨kk_6, hkk_7, ekk_8⟩ := hKD (pn) (by omega)
    refine lv_ci (nI kk_6) ekk_8 ?_
    rcases (show kk_6 = 0 ∨ kk_6 = 1 ∨ kk_6 = 2 ∨ kk_6 = 3 ∨ kk_6 = 4 ∨ kk_6 = 5 ∨ kk_6 = 6 by omega) with hk7_9 | hk7_9 | hk7_9 | hk7_9 | hk7_9 | hk7_9 | hk7_9
    · skip
      refine lv_ci 0 (by rw [hk7_9]; rfl) ?_
      refine va_put (ci := 0) (v := .int 0) (ty := .int) (C := RX0) (T := TX0) (N := 5) hx hb hT wu_X0 tyX0 tyX0_ok nmX0 hown hK hP hD hS 0 rfl rfl 3 (by decide) (hT _ wf_X0_31) (fun _ h9 => h9) rfl (by decide +kernel) rfl rfl (Nat.le_of_ble_eq_true rfl) dX0_start_22 (fun H locs hP hD hS => ?_)
      have hP : va_P D CL [(aa, .inr (0, [.ref a1, .int rn, .int (nI pn), .int 0, .int vv])), (a1, .inl (cI, 20, .inl fa)), (ak, .inl (cI, 4, .inl fk)), (av, .inl (cI, 4, .inl fv)), (af, .inr (2, [.ref ak, .ref av, .ref ar, .int (nI P), .int nt, .int yd]))] H := hP
      have hD : va_D A [(aa, .inr (0, [.ref a1, .int rn, .int (nI pn), .int 0, .int vv])), (a1, .inl (cI, 20, .inl fa)), (ak, .inl (cI, 4, .inl fk)), (av, .inl (cI, 4, .inl fv)), (af, .inr (2, [.ref ak, .ref av, .ref ar, .int (nI P), .int nt, .int yd]))] := hD
      refine lv_aload_n hx hb dX0_start_25 rfl (lv_at hl 0 rfl) ?_
      refine lv_aload_n hx hb dX0_start_26 rfl (lv_at hl 1 rfl) ?_
      refine va_getN (ci := 2) (v := .ref av) (C := RX2) (T := TX2) (N := 6) hx hb hT wu_X2 hown hK hP 4 rfl rfl 1 (by decide) (va_Nw.use rfl (hN.get 137 kf_X0_33 rfl)) (fun _ h9 => h9) rfl dX0_start_27 ?_
      refine lv_iload_n hx hb dX0_start_30 rfl (lv_at hl 2 rfl) ?_
      refine va_iald hx hb hK hP 3 0 rfl rfl (vp_in_nI (n := pn) (by omega) (by decide)) dX0_start_31 ?_
      refine lv_ci (fv pn) (congrArg fv (nI_clamp (n := pn) (by omega))) ?_
      refine va_put (ci := 0) (v := .int (fv pn)) (ty := .int) (C := RX0) (T := TX0) (N := 5) hx hb hT wu_X0 tyX0 tyX0_ok nmX0 hown hK hP hD hS 0 rfl rfl 4 (by decide) (hT _ wf_X0_36) (fun _ h9 => h9) rfl (by decide +kernel) rfl rfl (Nat.le_of_ble_eq_true rfl) dX0_start_32 (fun H locs hP hD hS => ?_)
      have hP : va_P D CL [(aa, .inr (0, [.ref a1, .int rn, .int (nI pn), .int 0, .int (fv pn)])), (a1, .inl (cI, 20, .inl fa)), (ak, .inl (cI, 4, .inl fk)), (av, .inl (cI, 4, .inl fv)), (af, .inr (2, [.ref ak, .ref av, .ref ar, .int (nI P), .int nt, .int yd]))] H := hP
      have hD : va_D A [(aa, .inr (0, [.ref a1, .int rn, .int (nI pn), .int 0, .int (fv pn)])), (a1, .inl (cI, 20, .inl fa)), (ak, .inl (cI, 4, .inl fk)), (av, .inl (cI, 4, .inl fv)), (af, .inr (2, [.ref ak, .ref av, .ref ar, .int (nI P), .int nt, .int yd]))] := hD
      refine lv_aload_n hx hb dX0_start_35 rfl (lv_at hl 0 rfl) ?_
      refine lv_aload_n hx hb dX0_start_36 rfl (lv_at hl 0 rfl) ?_
      refine va_get (ci := 0) (v := .int 0) (C := RX0) (T := TX0) (N := 5) hx hb hT wu_X0 hown hK hP 0 rfl rfl 3 (by decide) (hT _ wf_X0_31) (fun _ h9 => h9) rfl dX0_start_37 ?_
      refine lv_iload_n hx hb dX0_start_40 rfl (lv_at hl 3 rfl) ?_
      refine lv_iload hx hb dX0_start_41 (lv_at hl 4 rfl) ?_
      refine lv_iconst (v := 0) hx hb dX0_start_43 (by decide) ?_
      refine contI (wc := [(aa, .inr (0, [.ref a1, .int rn, .int (nI pn), .int 0, .int (fv pn)])), (a1, .inl (cI, 20, .inl fa))]) (wr := [(ak, .inl (cI, 4, .inl fk)), (av, .inl (cI, 4, .inl fv)), (af, .inr (2, [.ref ak, .ref av, .ref ar, .int (nI P), .int nt, .int yd]))]) C0 hP hD hS [0, 1] [2, 3, 4] rfl rfl (by decide) (by decide) 0 0 (Nat.le_of_ble_eq_true rfl) (Nat.le_of_ble_eq_true rfl) (runV (k := 4) (As := [.int 0, .int 1, .int xx, .int 0]) (rest := []) C0 (c_ask_0_0_1 l D cI cZ cQ cT _ aa xx 0 a1 rn (nI pn) (fv pn) fa) wc_X0_ask wl_X0_38 wi_X0_ask we_X0_ask wz_X0 ⟨by decide, by decide, by decide +kernel⟩ ⟨(Nat.le_of_ble_eq_true rfl), (Nat.le_of_ble_eq_true rfl)⟩ hP hD hS EF.ok hX [0, 1] rfl (by decide) 0 rfl rfl rfl rfl hl.1 rfl (Nat.le_of_ble_eq_true rfl) dX0_start_44 ⟨(Nat.le_of_ble_eq_true rfl), (Nat.le_of_ble_eq_true rfl)⟩) (fun r_14 u_12 H locs w_13 hP hD hS => ?_)
      obtain ⟨rnZ_10, faZ_11⟩ := u_12
      have hP : va_P D CL [(ak, .inl (cI, 4, .inl fk)), (av, .inl (cI, 4, .inl fv)), (af, .inr (2, [.ref ak, .ref av, .ref ar, .int (nI P), .int nt, .int yd])), (aa, .inr (0, [.ref a1, .int rnZ_10, .int (nI pn), .int 0, .int (fv pn)])), (a1, .inl (cI, 20, .inl faZ_11))] H := hP
      have hD : va_D A [(ak, .inl (cI, 4, .inl fk)), (av, .inl (cI, 4, .inl fv)), (af, .inr (2, [.ref ak, .ref av, .ref ar, .int (nI P), .int nt, .int yd])), (aa, .inr (0, [.ref a1, .int rnZ_10, .int (nI pn), .int 0, .int (fv pn)])), (a1, .inl (cI, 20, .inl faZ_11))] := hD
      exact retI C0 rfl (rnZ_10, (nI pn), 0, (fv pn), faZ_11) trivial (hP.sub (ws' := [(aa, .inr (0, [.ref a1, .int rnZ_10, .int (nI pn), .int 0, .int (fv pn)])), (a1, .inl (cI, 20, .inl faZ_11)), (af, .inr (2, [.ref ak, .ref av, .ref ar, .int (nI P), .int nt, .int yd])), (ak, .inl (cI, 4, .inl fk)), (av, .inl (cI, 4, .inl fv))]) [3, 4, 2, 0, 1] rfl) (hD.sub (ws' := [(aa, .inr (0, [.ref a1, .int rnZ_10, .int (nI pn), .int 0, .int (fv pn)])), (a1, .inl (cI, 20, .inl faZ_11)), (af, .inr (2, [.ref ak, .ref av, .ref ar, .int (nI P), .int nt, .int yd])), (ak, .inl (cI, 4, .inl fk)), (av, .inl (cI, 4, .inl fv))]) [3, 4, 2, 0, 1] (by decide) rfl) hS (Nat.le_of_ble_eq_true rfl) (Nat.le_of_ble_eq_true rfl) dX0_start_47
    · skip
      refine lv_ci 1 (by rw [hk7_9]; rfl) ?_
      refine va_put (ci := 0) (v := .int 1) (ty := .int) (C := RX0) (T := TX0) (N := 5) hx hb hT wu_X0 tyX0 tyX0_ok nmX0 hown hK hP hD hS 0 rfl rfl 3 (by decide) (hT _ wf_X0_31) (fun _ h9 => h9) rfl (by decide +kernel) rfl rfl (Nat.le_of_ble_eq_true rfl) dX0_start_22 (fun H locs hP hD hS => ?_)
      have hP : va_P D CL [(aa, .inr (0, [.ref a1, .int rn, .int (nI pn), .int 1, .int vv])), (a1, .inl (cI, 20, .inl fa)), (ak, .inl (cI, 4, .inl fk)), (av, .inl (cI, 4, .inl fv)), (af, .inr (2, [.ref ak, .ref av, .ref ar, .int (nI P), .int nt, .int yd]))] H := hP
      have hD : va_D A [(aa, .inr (0, [.ref a1, .int rn, .int (nI pn), .int 1, .int vv])), (a1, .inl (cI, 20, .inl fa)), (ak, .inl (cI, 4, .inl fk)), (av, .inl (cI, 4, .inl fv)), (af, .inr (2, [.ref ak, .ref av, .ref ar, .int (nI P), .int nt, .int yd]))] := hD
      refine lv_aload_n hx hb dX0_start_25 rfl (lv_at hl 0 rfl) ?_
      refine lv_aload_n hx hb dX0_start_26 rfl (lv_at hl 1 rfl) ?_
      refine va_getN (ci := 2) (v := .ref av) (C := RX2) (T := TX2) (N := 6) hx hb hT wu_X2 hown hK hP 4 rfl rfl 1 (by decide) (va_Nw.use rfl (hN.get 137 kf_X0_33 rfl)) (fun _ h9 => h9) rfl dX0_start_27 ?_
      refine lv_iload_n hx hb dX0_start_30 rfl (lv_at hl 2 rfl) ?_
      refine va_iald hx hb hK hP 3 0 rfl rfl (vp_in_nI (n := pn) (by omega) (by decide)) dX0_start_31 ?_
      refine lv_ci (fv pn) (congrArg fv (nI_clamp (n := pn) (by omega))) ?_
      refine va_put (ci := 0) (v := .int (fv pn)) (ty := .int) (C := RX0) (T := TX0) (N := 5) hx hb hT wu_X0 tyX0 tyX0_ok nmX0 hown hK hP hD hS 0 rfl rfl 4 (by decide) (hT _ wf_X0_36) (fun _ h9 => h9) rfl (by decide +kernel) rfl rfl (Nat.le_of_ble_eq_true rfl) dX0_start_32 (fun H locs hP hD hS => ?_)
      have hP : va_P D CL [(aa, .inr (0, [.ref a1, .int rn, .int (nI pn), .int 1, .int (fv pn)])), (a1, .inl (cI, 20, .inl fa)), (ak, .inl (cI, 4, .inl fk)), (av, .inl (cI, 4, .inl fv)), (af, .inr (2, [.ref ak, .ref av, .ref ar, .int (nI P), .int nt, .int yd]))] H := hP
      have hD : va_D A [(aa, .inr (0, [.ref a1, .int rn, .int (nI pn), .int 1, .int (fv pn)])), (a1, .inl (cI, 20, .inl fa)), (ak, .inl (cI, 4, .inl fk)), (av, .inl (cI, 4, .inl fv)), (af, .inr (2, [.ref ak, .ref av, .ref ar, .int (nI P), .int nt, .int yd]))] := hD
      refine lv_aload_n hx hb dX0_start_35 rfl (lv_at hl 0 rfl) ?_
      refine lv_aload_n hx hb dX0_start_36 rfl (lv_at hl 0 rfl) ?_
      refine va_get (ci := 0) (v := .int 1) (C := RX0) (T := TX0) (N := 5) hx hb hT wu_X0 hown hK hP 0 rfl rfl 3 (by decide) (hT _ wf_X0_31) (fun _ h9 => h9) rfl dX0_start_37 ?_
      refine lv_iload_n hx hb dX0_start_40 rfl (lv_at hl 3 rfl) ?_
      refine lv_iload hx hb dX0_start_41 (lv_at hl 4 rfl) ?_
      refine lv_iconst (v := 0) hx hb dX0_start_43 (by decide) ?_
      refine contI (wc := [(aa, .inr (0, [.ref a1, .int rn, .int (nI pn), .int 1, .int (fv pn)])), (a1, .inl (cI, 20, .inl fa))]) (wr := [(ak, .inl (cI, 4, .inl fk)), (av, .inl (cI, 4, .inl fv)), (af, .inr (2, [.ref ak, .ref av, .ref ar, .int (nI P), .int nt, .int yd]))]) C0 hP hD hS [0, 1] [2, 3, 4] rfl rfl (by decide) (by decide) 0 0 (Nat.le_of_ble_eq_true rfl) (Nat.le_of_ble_eq_true rfl) (runV (k := 4) (As := [.int 1, .int 1, .int xx, .int 0]) (rest := []) C0 (c_ask_1_1_1 l D cI cZ cQ cT _ aa xx 0 a1 rn (nI pn) (fv pn) fa) wc_X0_ask wl_X0_38 wi_X0_ask we_X0_ask wz_X0 ⟨by decide, by decide, by decide +kernel⟩ ⟨(Nat.le_of_ble_eq_true rfl), (Nat.le_of_ble_eq_true rfl)⟩ hP hD hS EF.ok hX [0, 1] rfl (by decide) 0 rfl rfl rfl rfl hl.1 rfl (Nat.le_of_ble_eq_true rfl) dX0_start_44 ⟨(Nat.le_of_ble_eq_true rfl), (Nat.le_of_ble_eq_true rfl)⟩) (fun r_19 u_17 H locs w_18 hP hD hS => ?_)
      obtain ⟨rnZ_15, faZ_16⟩ := u_17
      have hP : va_P D CL [(ak, .inl (cI, 4, .inl fk)), (av, .inl (cI, 4, .inl fv)), (af, .inr (2, [.ref ak, .ref av, .ref ar, .int (nI P), .int nt, .int yd])), (aa, .inr (0, [.ref a1, .int rnZ_15, .int (nI pn), .int 1, .int (fv pn)])), (a1, .inl (cI, 20, .inl faZ_16))] H := hP
      have hD : va_D A [(ak, .inl (cI, 4, .inl fk)), (av, .inl (cI, 4, .inl fv)), (af, .inr (2, [.ref ak, .ref av, .ref ar, .int (nI P), .int nt, .int yd])), (aa, .inr (0, [.ref a1, .int rnZ_15, .int (nI pn), .int 1, .int (fv pn)])), (a1, .inl (cI, 20, .inl faZ_16))] := hD
      exact retI C0 rfl (rnZ_15, (nI pn), 1, (fv pn), faZ_16) trivial (hP.sub (ws' := [(aa, .inr (0, [.ref a1, .int rnZ_15, .int (nI pn), .int 1, .int (fv pn)])), (a1, .inl (cI, 20, .inl faZ_16)), (af, .inr (2, [.ref ak, .ref av, .ref ar, .int (nI P), .int nt, .int yd])), (ak, .inl (cI, 4, .inl fk)), (av, .inl (cI, 4, .inl fv))]) [3, 4, 2, 0, 1] rfl) (hD.sub (ws' := [(aa, .inr (0, [.ref a1, .int rnZ_15, .int (nI pn), .int 1, .int (fv pn)])), (a1, .inl (cI, 20, .inl faZ_16)), (af, .inr (2, [.ref ak, .ref av, .ref ar, .int (nI P), .int nt, .int yd])), (ak, .inl (cI, 4, .inl fk)), (av, .inl (cI, 4, .inl fv))]) [3, 4, 2, 0, 1] (by decide) rfl) hS (Nat.le_of_ble_eq_true rfl) (Nat.le_of_ble_eq_true rfl) dX0_start_47
    · skip
      refine lv_ci 2 (by rw [hk7_9]; rfl) ?_
      refine va_put (ci := 0) (v := .int 2) (ty := .int) (C := RX0) (T := TX0) (N := 5) hx hb hT wu_X0 tyX0 tyX0_ok nmX0 hown hK hP hD hS 0 rfl rfl 3 (by decide) (hT _ wf_X0_31) (fun _ h9 => h9) rfl (by decide +kernel) rfl rfl (Nat.le_of_ble_eq_true rfl) dX0_start_22 (fun H locs hP hD hS => ?_)
      have hP : va_P D CL [(aa, .inr (0, [.ref a1, .int rn, .int (nI pn), .int 2, .int vv])), (a1, .inl (cI, 20, .inl fa)), (ak, .inl (cI, 4, .inl fk)), (av, .inl (cI, 4, .inl fv)), (af, .inr (2, [.ref ak, .ref av, .ref ar, .int (nI P), .int nt, .int yd]))] H := hP
      have hD : va_D A [(aa, .inr (0, [.ref a1, .int rn, .int (nI pn), .int 2, .int vv])), (a1, .inl (cI, 20, .inl fa)), (ak, .inl (cI, 4, .inl fk)), (av, .inl (cI, 4, .inl fv)), (af, .inr (2, [.ref ak, .ref av, .ref ar, .int (nI P), .int nt, .int yd]))] := hD
      refine lv_aload_n hx hb dX0_start_25 rfl (lv_at hl 0 rfl) ?_
      refine lv_aload_n hx hb dX0_start_26 rfl (lv_at hl 1 rfl) ?_
      refine va_getN (ci := 2) (v := .ref av) (C := RX2) (T := TX2) (N := 6) hx hb hT wu_X2 hown hK hP 4 rfl rfl 1 (by decide) (va_Nw.use rfl (hN.get 137 kf_X0_33 rfl)) (fun _ h9 => h9) rfl dX0_start_27 ?_
      refine lv_iload_n hx hb dX0_start_30 rfl (lv_at hl 2 rfl) ?_
      refine va_iald hx hb hK hP 3 0 rfl rfl (vp_in_nI (n := pn) (by omega) (by decide)) dX0_start_31 ?_
      refine lv_ci (fv pn) (congrArg fv (nI_clamp (n := pn) (by omega))) ?_
      refine va_put (ci := 0) (v := .int (fv pn)) (ty := .int) (C := RX0) (T := TX0) (N := 5) hx hb hT wu_X0 tyX0 tyX0_ok nmX0 hown hK hP hD hS 0 rfl rfl 4 (by decide) (hT _ wf_X0_36) (fun _ h9 => h9) rfl (by decide +kernel) rfl rfl (Nat.le_of_ble_eq_true rfl) dX0_start_32 (fun H locs hP hD hS => ?_)
      have hP : va_P D CL [(aa, .inr (0, [.ref a1, .int rn, .int (nI pn), .int 2, .int (fv pn)])), (a1, .inl (cI, 20, .inl fa)), (ak, .inl (cI, 4, .inl fk)), (av, .inl (cI, 4, .inl fv)), (af, .inr (2, [.ref ak, .ref av, .ref ar, .int (nI P), .int nt, .int yd]))] H := hP
      have hD : va_D A [(aa, .inr (0, [.ref a1, .int rn, .int (nI pn), .int 2, .int (fv pn)])), (a1, .inl (cI, 20, .inl fa)), (ak, .inl (cI, 4, .inl fk)), (av, .inl (cI, 4, .inl fv)), (af, .inr (2, [.ref ak, .ref av, .ref ar, .int (nI P), .int nt, .int yd]))] := hD
      refine lv_aload_n hx hb dX0_start_35 rfl (lv_at hl 0 rfl) ?_
      refine lv_aload_n hx hb dX0_start_36 rfl (lv_at hl 0 rfl) ?_
      refine va_get (ci := 0) (v := .int 2) (C := RX0) (T := TX0) (N := 5) hx hb hT wu_X0 hown hK hP 0 rfl rfl 3 (by decide) (hT _ wf_X0_31) (fun _ h9 => h9) rfl dX0_start_37 ?_
      refine lv_iload_n hx hb dX0_start_40 rfl (lv_at hl 3 rfl) ?_
      refine lv_iload hx hb dX0_start_41 (lv_at hl 4 rfl) ?_
      refine lv_iconst (v := 0) hx hb dX0_start_43 (by decide) ?_
      refine contI (wc := [(aa, .inr (0, [.ref a1, .int rn, .int (nI pn), .int 2, .int (fv pn)])), (a1, .inl (cI, 20, .inl fa))]) (wr := [(ak, .inl (cI, 4, .inl fk)), (av, .inl (cI, 4, .inl fv)), (af, .inr (2, [.ref ak, .ref av, .ref ar, .int (nI P), .int nt, .int yd]))]) C0 hP hD hS [0, 1] [2, 3, 4] rfl rfl (by decide) (by decide) 0 0 (Nat.le_of_ble_eq_true rfl) (Nat.le_of_ble_eq_true rfl) (runV (k := 4) (As := [.int 2, .int 1, .int xx, .int 0]) (rest := []) C0 (c_ask_2_2_1 l D cI cZ cQ cT _ aa xx 0 a1 rn (nI pn) (fv pn) fa) wc_X0_ask wl_X0_38 wi_X0_ask we_X0_ask wz_X0 ⟨by decide, by decide, by decide +kernel⟩ ⟨(Nat.le_of_ble_eq_true rfl), (Nat.le_of_ble_eq_true rfl)⟩ hP hD hS EF.ok hX [0, 1] rfl (by decide) 0 rfl rfl rfl rfl hl.1 rfl (Nat.le_of_ble_eq_true rfl) dX0_start_44 ⟨(Nat.le_of_ble_eq_true rfl), (Nat.le_of_ble_eq_true rfl)⟩) (fun r_24 u_22 H locs w_23 hP hD hS => ?_)
      obtain ⟨rnZ_20, faZ_21⟩ := u_22
      have hP : va_P D CL [(ak, .inl (cI, 4, .inl fk)), (av, .inl (cI, 4, .inl fv)), (af, .inr (2, [.ref ak, .ref av, .ref ar, .int (nI P), .int nt, .int yd])), (aa, .inr (0, [.ref a1, .int rnZ_20, .int (nI pn), .int 2, .int (fv pn)])), (a1, .inl (cI, 20, .inl faZ_21))] H := hP
      have hD : va_D A [(ak, .inl (cI, 4, .inl fk)), (av, .inl (cI, 4, .inl fv)), (af, .inr (2, [.ref ak, .ref av, .ref ar, .int (nI P), .int nt, .int yd])), (aa, .inr (0, [.ref a1, .int rnZ_20, .int (nI pn), .int 2, .int (fv pn)])), (a1, .inl (cI, 20, .inl faZ_21))] := hD
      exact retI C0 rfl (rnZ_20, (nI pn), 2, (fv pn), faZ_21) trivial (hP.sub (ws' := [(aa, .inr (0, [.ref a1, .int rnZ_20, .int (nI pn), .int 2, .int (fv pn)])), (a1, .inl (cI, 20, .inl faZ_21)), (af, .inr (2, [.ref ak, .ref av, .ref ar, .int (nI P), .int nt, .int yd])), (ak, .inl (cI, 4, .inl fk)), (av, .inl (cI, 4, .inl fv))]) [3, 4, 2, 0, 1] rfl) (hD.sub (ws' := [(aa, .inr (0, [.ref a1, .int rnZ_20, .int (nI pn), .int 2, .int (fv pn)])), (a1, .inl (cI, 20, .inl faZ_21)), (af, .inr (2, [.ref ak, .ref av, .ref ar, .int (nI P), .int nt, .int yd])), (ak, .inl (cI, 4, .inl fk)), (av, .inl (cI, 4, .inl fv))]) [3, 4, 2, 0, 1] (by decide) rfl) hS (Nat.le_of_ble_eq_true rfl) (Nat.le_of_ble_eq_true rfl) dX0_start_47
    · skip
      refine lv_ci 3 (by rw [hk7_9]; rfl) ?_
      refine va_put (ci := 0) (v := .int 3) (ty := .int) (C := RX0) (T := TX0) (N := 5) hx hb hT wu_X0 tyX0 tyX0_ok nmX0 hown hK hP hD hS 0 rfl rfl 3 (by decide) (hT _ wf_X0_31) (fun _ h9 => h9) rfl (by decide +kernel) rfl rfl (Nat.le_of_ble_eq_true rfl) dX0_start_22 (fun H locs hP hD hS => ?_)
      have hP : va_P D CL [(aa, .inr (0, [.ref a1, .int rn, .int (nI pn), .int 3, .int vv])), (a1, .inl (cI, 20, .inl fa)), (ak, .inl (cI, 4, .inl fk)), (av, .inl (cI, 4, .inl fv)), (af, .inr (2, [.ref ak, .ref av, .ref ar, .int (nI P), .int nt, .int yd]))] H := hP
      have hD : va_D A [(aa, .inr (0, [.ref a1, .int rn, .int (nI pn), .int 3, .int vv])), (a1, .inl (cI, 20, .inl fa)), (ak, .inl (cI, 4, .inl fk)), (av, .inl (cI, 4, .inl fv)), (af, .inr (2, [.ref ak, .ref av, .ref ar, .int (nI P), .int nt, .int yd]))] := hD
      refine lv_aload_n hx hb dX0_start_25 rfl (lv_at hl 0 rfl) ?_
      refine lv_aload_n hx hb dX0_start_26 rfl (lv_at hl 1 rfl) ?_
      refine va_getN (ci := 2) (v := .ref av) (C := RX2) (T := TX2) (N := 6) hx hb hT wu_X2 hown hK hP 4 rfl rfl 1 (by decide) (va_Nw.use rfl (hN.get 137 kf_X0_33 rfl)) (fun _ h9 => h9) rfl dX0_start_27 ?_
      refine lv_iload_n hx hb dX0_start_30 rfl (lv_at hl 2 rfl) ?_
      refine va_iald hx hb hK hP 3 0 rfl rfl (vp_in_nI (n := pn) (by omega) (by decide)) dX0_start_31 ?_
      refine lv_ci (fv pn) (congrArg fv (nI_clamp (n := pn) (by omega))) ?_
      refine va_put (ci := 0) (v := .int (fv pn)) (ty := .int) (C := RX0) (T := TX0) (N := 5) hx hb hT wu_X0 tyX0 tyX0_ok nmX0 hown hK hP hD hS 0 rfl rfl 4 (by decide) (hT _ wf_X0_36) (fun _ h9 => h9) rfl (by decide +kernel) rfl rfl (Nat.le_of_ble_eq_true rfl) dX0_start_32 (fun H locs hP hD hS => ?_)
      have hP : va_P D CL [(aa, .inr (0, [.ref a1, .int rn, .int (nI pn), .int 3, .int (fv pn)])), (a1, .inl (cI, 20, .inl fa)), (ak, .inl (cI, 4, .inl fk)), (av, .inl (cI, 4, .inl fv)), (af, .inr (2, [.ref ak, .ref av, .ref ar, .int (nI P), .int nt, .int yd]))] H := hP
      have hD : va_D A [(aa, .inr (0, [.ref a1, .int rn, .int (nI pn), .int 3, .int (fv pn)])), (a1, .inl (cI, 20, .inl fa)), (ak, .inl (cI, 4, .inl fk)), (av, .inl (cI, 4, .inl fv)), (af, .inr (2, [.ref ak, .ref av, .ref ar, .int (nI P), .int nt, .int yd]))] := hD
      refine lv_aload_n hx hb dX0_start_35 rfl (lv_at hl 0 rfl) ?_
      refine lv_aload_n hx hb dX0_start_36 rfl (lv_at hl 0 rfl) ?_
      refine va_get (ci := 0) (v := .int 3) (C := RX0) (T := TX0) (N := 5) hx hb hT wu_X0 hown hK hP 0 rfl rfl 3 (by decide) (hT _ wf_X0_31) (fun _ h9 => h9) rfl dX0_start_37 ?_
      refine lv_iload_n hx hb dX0_start_40 rfl (lv_at hl 3 rfl) ?_
      refine lv_iload hx hb dX0_start_41 (lv_at hl 4 rfl) ?_
      refine lv_iconst (v := 0) hx hb dX0_start_43 (by decide) ?_
      refine contI (wc := [(aa, .inr (0, [.ref a1, .int rn, .int (nI pn), .int 3, .int (fv pn)])), (a1, .inl (cI, 20, .inl fa))]) (wr := [(ak, .inl (cI, 4, .inl fk)), (av, .inl (cI, 4, .inl fv)), (af, .inr (2, [.ref ak, .ref av, .ref ar, .int (nI P), .int nt, .int yd]))]) C0 hP hD hS [0, 1] [2, 3, 4] rfl rfl (by decide) (by decide) 0 0 (Nat.le_of_ble_eq_true rfl) (Nat.le_of_ble_eq_true rfl) (runV (k := 4) (As := [.int 3, .int 1, .int xx, .int 0]) (rest := []) C0 (c_ask_3_3_1 l D cI cZ cQ cT _ aa xx 0 a1 rn (nI pn) (fv pn) fa) wc_X0_ask wl_X0_38 wi_X0_ask we_X0_ask wz_X0 ⟨by decide, by decide, by decide +kernel⟩ ⟨(Nat.le_of_ble_eq_true rfl), (Nat.le_of_ble_eq_true rfl)⟩ hP hD hS EF.ok hX [0, 1] rfl (by decide) 0 rfl rfl rfl rfl hl.1 rfl (Nat.le_of_ble_eq_true rfl) dX0_start_44 ⟨(Nat.le_of_ble_eq_true rfl), (Nat.le_of_ble_eq_true rfl)⟩) (fun r_29 u_27 H locs w_28 hP hD hS => ?_)
      obtain ⟨rnZ_25, faZ_26⟩ := u_27
      have hP : va_P D CL [(ak, .inl (cI, 4, .inl fk)), (av, .inl (cI, 4, .inl fv)), (af, .inr (2, [.ref ak, .ref av, .ref ar, .int (nI P), .int nt, .int yd])), (aa, .inr (0, [.ref a1, .int rnZ_25, .int (nI pn), .int 3, .int (fv pn)])), (a1, .inl (cI, 20, .inl faZ_26))] H := hP
      have hD : va_D A [(ak, .inl (cI, 4, .inl fk)), (av, .inl (cI, 4, .inl fv)), (af, .inr (2, [.ref ak, .ref av, .ref ar, .int (nI P), .int nt, .int yd])), (aa, .inr (0, [.ref a1, .int rnZ_25, .int (nI pn), .int 3, .int (fv pn)])), (a1, .inl (cI, 20, .inl faZ_26))] := hD
      exact retI C0 rfl (rnZ_25, (nI pn), 3, (fv pn), faZ_26) trivial (hP.sub (ws' := [(aa, .inr (0, [.ref a1, .int rnZ_25, .int (nI pn), .int 3, .int (fv pn)])), (a1, .inl (cI, 20, .inl faZ_26)), (af, .inr (2, [.ref ak, .ref av, .ref ar, .int (nI P), .int nt, .int yd])), (ak, .inl (cI, 4, .inl fk)), (av, .inl (cI, 4, .inl fv))]) [3, 4, 2, 0, 1] rfl) (hD.sub (ws' := [(aa, .inr (0, [.ref a1, .int rnZ_25, .int (nI pn), .int 3, .int (fv pn)])), (a1, .inl (cI, 20, .inl faZ_26)), (af, .inr (2, [.ref ak, .ref av, .ref ar, .int (nI P), .int nt, .int yd])), (ak, .inl (cI, 4, .inl fk)), (av, .inl (cI, 4, .inl fv))]) [3, 4, 2, 0, 1] (by decide) rfl) hS (Nat.le_of_ble_eq_true rfl) (Nat.le_of_ble_eq_true rfl) dX0_start_47
    · skip
      refine lv_ci 4 (by rw [hk7_9]; rfl) ?_
      refine va_put (ci := 0) (v := .int 4) (ty := .int) (C := RX0) (T := TX0) (N := 5) hx hb hT wu_X0 tyX0 tyX0_ok nmX0 hown hK hP hD hS 0 rfl rfl 3 (by decide) (hT _ wf_X0_31) (fun _ h9 => h9) rfl (by decide +kernel) rfl rfl (Nat.le_of_ble_eq_true rfl) dX0_start_22 (fun H locs hP hD hS => ?_)
      have hP : va_P D CL [(aa, .inr (0, [.ref a1, .int rn, .int (nI pn), .int 4, .int vv])), (a1, .inl (cI, 20, .inl fa)), (ak, .inl (cI, 4, .inl fk)), (av, .inl (cI, 4, .inl fv)), (af, .inr (2, [.ref ak, .ref av, .ref ar, .int (nI P), .int nt, .int yd]))] H := hP
      have hD : va_D A [(aa, .inr (0, [.ref a1, .int rn, .int (nI pn), .int 4, .int vv])), (a1, .inl (cI, 20, .inl fa)), (ak, .inl (cI, 4, .inl fk)), (av, .inl (cI, 4, .inl fv)), (af, .inr (2, [.ref ak, .ref av, .ref ar, .int (nI P), .int nt, .int yd]))] := hD
      refine lv_aload_n hx hb dX0_start_25 rfl (lv_at hl 0 rfl) ?_
      refine lv_aload_n hx hb dX0_start_26 rfl (lv_at hl 1 rfl) ?_
      refine va_getN (ci := 2) (v := .ref av) (C := RX2) (T := TX2) (N := 6) hx hb hT wu_X2 hown hK hP 4 rfl rfl 1 (by decide) (va_Nw.use rfl (hN.get 137 kf_X0_33 rfl)) (fun _ h9 => h9) rfl dX0_start_27 ?_
      refine lv_iload_n hx hb dX0_start_30 rfl (lv_at hl 2 rfl) ?_
      refine va_iald hx hb hK hP 3 0 rfl rfl (vp_in_nI (n := pn) (by omega) (by decide)) dX0_start_31 ?_
      refine lv_ci (fv pn) (congrArg fv (nI_clamp (n := pn) (by omega))) ?_
      refine va_put (ci := 0) (v := .int (fv pn)) (ty := .int) (C := RX0) (T := TX0) (N := 5) hx hb hT wu_X0 tyX0 tyX0_ok nmX0 hown hK hP hD hS 0 rfl rfl 4 (by decide) (hT _ wf_X0_36) (fun _ h9 => h9) rfl (by decide +kernel) rfl rfl (Nat.le_of_ble_eq_true rfl) dX0_start_32 (fun H locs hP hD hS => ?_)
      have hP : va_P D CL [(aa, .inr (0, [.ref a1, .int rn, .int (nI pn), .int 4, .int (fv pn)])), (a1, .inl (cI, 20, .inl fa)), (ak, .inl (cI, 4, .inl fk)), (av, .inl (cI, 4, .inl fv)), (af, .inr (2, [.ref ak, .ref av, .ref ar, .int (nI P), .int nt, .int yd]))] H := hP
      have hD : va_D A [(aa, .inr (0, [.ref a1, .int rn, .int (nI pn), .int 4, .int (fv pn)])), (a1, .inl (cI, 20, .inl fa)), (ak, .inl (cI, 4, .inl fk)), (av, .inl (cI, 4, .inl fv)), (af, .inr (2, [.ref ak, .ref av, .ref ar, .int (nI P), .int nt, .int yd]))] := hD
      refine lv_aload_n hx hb dX0_start_35 rfl (lv_at hl 0 rfl) ?_
      refine lv_aload_n hx hb dX0_start_36 rfl (lv_at hl 0 rfl) ?_
      refine va_get (ci := 0) (v := .int 4) (C := RX0) (T := TX0) (N := 5) hx hb hT wu_X0 hown hK hP 0 rfl rfl 3 (by decide) (hT _ wf_X0_31) (fun _ h9 => h9) rfl dX0_start_37 ?_
      refine lv_iload_n hx hb dX0_start_40 rfl (lv_at hl 3 rfl) ?_
      refine lv_iload hx hb dX0_start_41 (lv_at hl 4 rfl) ?_
      refine lv_iconst (v := 0) hx hb dX0_start_43 (by decide) ?_
      refine contI (wc := [(aa, .inr (0, [.ref a1, .int rn, .int (nI pn), .int 4, .int (fv pn)])), (a1, .inl (cI, 20, .inl fa))]) (wr := [(ak, .inl (cI, 4, .inl fk)), (av, .inl (cI, 4, .inl fv)), (af, .inr (2, [.ref ak, .ref av, .ref ar, .int (nI P), .int nt, .int yd]))]) C0 hP hD hS [0, 1] [2, 3, 4] rfl rfl (by decide) (by decide) 0 0 (Nat.le_of_ble_eq_true rfl) (Nat.le_of_ble_eq_true rfl) (runV (k := 4) (As := [.int 4, .int 1, .int xx, .int 0]) (rest := []) C0 (c_ask_4_4_1 l D cI cZ cQ cT _ aa xx 0 a1 rn (nI pn) (fv pn) fa) wc_X0_ask wl_X0_38 wi_X0_ask we_X0_ask wz_X0 ⟨by decide, by decide, by decide +kernel⟩ ⟨(Nat.le_of_ble_eq_true rfl), (Nat.le_of_ble_eq_true rfl)⟩ hP hD hS EF.ok hX [0, 1] rfl (by decide) 0 rfl rfl rfl rfl hl.1 rfl (Nat.le_of_ble_eq_true rfl) dX0_start_44 ⟨(Nat.le_of_ble_eq_true rfl), (Nat.le_of_ble_eq_true rfl)⟩) (fun r_34 u_32 H locs w_33 hP hD hS => ?_)
      obtain ⟨rnZ_30, faZ_31⟩ := u_32
      have hP : va_P D CL [(ak, .inl (cI, 4, .inl fk)), (av, .inl (cI, 4, .inl fv)), (af, .inr (2, [.ref ak, .ref av, .ref ar, .int (nI P), .int nt, .int yd])), (aa, .inr (0, [.ref a1, .int rnZ_30, .int (nI pn), .int 4, .int (fv pn)])), (a1, .inl (cI, 20, .inl faZ_31))] H := hP
      have hD : va_D A [(ak, .inl (cI, 4, .inl fk)), (av, .inl (cI, 4, .inl fv)), (af, .inr (2, [.ref ak, .ref av, .ref ar, .int (nI P), .int nt, .int yd])), (aa, .inr (0, [.ref a1, .int rnZ_30, .int (nI pn), .int 4, .int (fv pn)])), (a1, .inl (cI, 20, .inl faZ_31))] := hD
      exact retI C0 rfl (rnZ_30, (nI pn), 4, (fv pn), faZ_31) trivial (hP.sub (ws' := [(aa, .inr (0, [.ref a1, .int rnZ_30, .int (nI pn), .int 4, .int (fv pn)])), (a1, .inl (cI, 20, .inl faZ_31)), (af, .inr (2, [.ref ak, .ref av, .ref ar, .int (nI P), .int nt, .int yd])), (ak, .inl (cI, 4, .inl fk)), (av, .inl (cI, 4, .inl fv))]) [3, 4, 2, 0, 1] rfl) (hD.sub (ws' := [(aa, .inr (0, [.ref a1, .int rnZ_30, .int (nI pn), .int 4, .int (fv pn)])), (a1, .inl (cI, 20, .inl faZ_31)), (af, .inr (2, [.ref ak, .ref av, .ref ar, .int (nI P), .int nt, .int yd])), (ak, .inl (cI, 4, .inl fk)), (av, .inl (cI, 4, .inl fv))]) [3, 4, 2, 0, 1] (by decide) rfl) hS (Nat.le_of_ble_eq_true rfl) (Nat.le_of_ble_eq_true rfl) dX0_start_47
    · skip
      refine lv_ci 5 (by rw [hk7_9]; rfl) ?_
      refine va_put (ci := 0) (v := .int 5) (ty := .int) (C := RX0) (T := TX0) (N := 5) hx hb hT wu_X0 tyX0 tyX0_ok nmX0 hown hK hP hD hS 0 rfl rfl 3 (by decide) (hT _ wf_X0_31) (fun _ h9 => h9) rfl (by decide +kernel) rfl rfl (Nat.le_of_ble_eq_true rfl) dX0_start_22 (fun H locs hP hD hS => ?_)
      have hP : va_P D CL [(aa, .inr (0, [.ref a1, .int rn, .int (nI pn), .int 5, .int vv])), (a1, .inl (cI, 20, .inl fa)), (ak, .inl (cI, 4, .inl fk)), (av, .inl (cI, 4, .inl fv)), (af, .inr (2, [.ref ak, .ref av, .ref ar, .int (nI P), .int nt, .int yd]))] H := hP
      have hD : va_D A [(aa, .inr (0, [.ref a1, .int rn, .int (nI pn), .int 5, .int vv])), (a1, .inl (cI, 20, .inl fa)), (ak, .inl (cI, 4, .inl fk)), (av, .inl (cI, 4, .inl fv)), (af, .inr (2, [.ref ak, .ref av, .ref ar, .int (nI P), .int nt, .int yd]))] := hD
      refine lv_aload_n hx hb dX0_start_25 rfl (lv_at hl 0 rfl) ?_
      refine lv_aload_n hx hb dX0_start_26 rfl (lv_at hl 1 rfl) ?_
      refine va_getN (ci := 2) (v := .ref av) (C := RX2) (T := TX2) (N := 6) hx hb hT wu_X2 hown hK hP 4 rfl rfl 1 (by decide) (va_Nw.use rfl (hN.get 137 kf_X0_33 rfl)) (fun _ h9 => h9) rfl dX0_start_27 ?_
      refine lv_iload_n hx hb dX0_start_30 rfl (lv_at hl 2 rfl) ?_
      refine va_iald hx hb hK hP 3 0 rfl rfl (vp_in_nI (n := pn) (by omega) (by decide)) dX0_start_31 ?_
      refine lv_ci (fv pn) (congrArg fv (nI_clamp (n := pn) (by omega))) ?_
      refine va_put (ci := 0) (v := .int (fv pn)) (ty := .int) (C := RX0) (T := TX0) (N := 5) hx hb hT wu_X0 tyX0 tyX0_ok nmX0 hown hK hP hD hS 0 rfl rfl 4 (by decide) (hT _ wf_X0_36) (fun _ h9 => h9) rfl (by decide +kernel) rfl rfl (Nat.le_of_ble_eq_true rfl) dX0_start_32 (fun H locs hP hD hS => ?_)
      have hP : va_P D CL [(aa, .inr (0, [.ref a1, .int rn, .int (nI pn), .int 5, .int (fv pn)])), (a1, .inl (cI, 20, .inl fa)), (ak, .inl (cI, 4, .inl fk)), (av, .inl (cI, 4, .inl fv)), (af, .inr (2, [.ref ak, .ref av, .ref ar, .int (nI P), .int nt, .int yd]))] H := hP
      have hD : va_D A [(aa, .inr (0, [.ref a1, .int rn, .int (nI pn), .int 5, .int (fv pn)])), (a1, .inl (cI, 20, .inl fa)), (ak, .inl (cI, 4, .inl fk)), (av, .inl (cI, 4, .inl fv)), (af, .inr (2, [.ref ak, .ref av, .ref ar, .int (nI P), .int nt, .int yd]))] := hD
      refine lv_aload_n hx hb dX0_start_35 rfl (lv_at hl 0 rfl) ?_
      refine lv_aload_n hx hb dX0_start_36 rfl (lv_at hl 0 rfl) ?_
      refine va_get (ci := 0) (v := .int 5) (C := RX0) (T := TX0) (N := 5) hx hb hT wu_X0 hown hK hP 0 rfl rfl 3 (by decide) (hT _ wf_X0_31) (fun _ h9 => h9) rfl dX0_start_37 ?_
      refine lv_iload_n hx hb dX0_start_40 rfl (lv_at hl 3 rfl) ?_
      refine lv_iload hx hb dX0_start_41 (lv_at hl 4 rfl) ?_
      refine lv_iconst (v := 0) hx hb dX0_start_43 (by decide) ?_
      refine contI (wc := [(aa, .inr (0, [.ref a1, .int rn, .int (nI pn), .int 5, .int (fv pn)])), (a1, .inl (cI, 20, .inl fa))]) (wr := [(ak, .inl (cI, 4, .inl fk)), (av, .inl (cI, 4, .inl fv)), (af, .inr (2, [.ref ak, .ref av, .ref ar, .int (nI P), .int nt, .int yd]))]) C0 hP hD hS [0, 1] [2, 3, 4] rfl rfl (by decide) (by decide) 0 0 (Nat.le_of_ble_eq_true rfl) (Nat.le_of_ble_eq_true rfl) (runV (k := 4) (As := [.int 5, .int 1, .int xx, .int 0]) (rest := []) C0 (c_ask_5_5_1 l D cI cZ cQ cT _ aa xx 0 a1 rn (nI pn) (fv pn) fa) wc_X0_ask wl_X0_38 wi_X0_ask we_X0_ask wz_X0 ⟨by decide, by decide, by decide +kernel⟩ ⟨(Nat.le_of_ble_eq_true rfl), (Nat.le_of_ble_eq_true rfl)⟩ hP hD hS EF.ok hX [0, 1] rfl (by decide) 0 rfl rfl rfl rfl hl.1 rfl (Nat.le_of_ble_eq_true rfl) dX0_start_44 ⟨(Nat.le_of_ble_eq_true rfl), (Nat.le_of_ble_eq_true rfl)⟩) (fun r_39 u_37 H locs w_38 hP hD hS => ?_)
      obtain ⟨rnZ_35, faZ_36⟩ := u_37
      have hP : va_P D CL [(ak, .inl (cI, 4, .inl fk)), (av, .inl (cI, 4, .inl fv)), (af, .inr (2, [.ref ak, .ref av, .ref ar, .int (nI P), .int nt, .int yd])), (aa, .inr (0, [.ref a1, .int rnZ_35, .int (nI pn), .int 5, .int (fv pn)])), (a1, .inl (cI, 20, .inl faZ_36))] H := hP
      have hD : va_D A [(ak, .inl (cI, 4, .inl fk)), (av, .inl (cI, 4, .inl fv)), (af, .inr (2, [.ref ak, .ref av, .ref ar, .int (nI P), .int nt, .int yd])), (aa, .inr (0, [.ref a1, .int rnZ_35, .int (nI pn), .int 5, .int (fv pn)])), (a1, .inl (cI, 20, .inl faZ_36))] := hD
      exact retI C0 rfl (rnZ_35, (nI pn), 5, (fv pn), faZ_36) trivial (hP.sub (ws' := [(aa, .inr (0, [.ref a1, .int rnZ_35, .int (nI pn), .int 5, .int (fv pn)])), (a1, .inl (cI, 20, .inl faZ_36)), (af, .inr (2, [.ref ak, .ref av, .ref ar, .int (nI P), .int nt, .int yd])), (ak, .inl (cI, 4, .inl fk)), (av, .inl (cI, 4, .inl fv))]) [3, 4, 2, 0, 1] rfl) (hD.sub (ws' := [(aa, .inr (0, [.ref a1, .int rnZ_35, .int (nI pn), .int 5, .int (fv pn)])), (a1, .inl (cI, 20, .inl faZ_36)), (af, .inr (2, [.ref ak, .ref av, .ref ar, .int (nI P), .int nt, .int yd])), (ak, .inl (cI, 4, .inl fk)), (av, .inl (cI, 4, .inl fv))]) [3, 4, 2, 0, 1] (by decide) rfl) hS (Nat.le_of_ble_eq_true rfl) (Nat.le_of_ble_eq_true rfl) dX0_start_47
    · skip
      refine lv_ci 6 (by rw [hk7_9]; rfl) ?_
      refine va_put (ci := 0) (v := .int 6) (ty := .int) (C := RX0) (T := TX0) (N := 5) hx hb hT wu_X0 tyX0 tyX0_ok nmX0 hown hK hP hD hS 0 rfl rfl 3 (by decide) (hT _ wf_X0_31) (fun _ h9 => h9) rfl (by decide +kernel) rfl rfl (Nat.le_of_ble_eq_true rfl) dX0_start_22 (fun H locs hP hD hS => ?_)
      have hP : va_P D CL [(aa, .inr (0, [.ref a1, .int rn, .int (nI pn), .int 6, .int vv])), (a1, .inl (cI, 20, .inl fa)), (ak, .inl (cI, 4, .inl fk)), (av, .inl (cI, 4, .inl fv)), (af, .inr (2, [.ref ak, .ref av, .ref ar, .int (nI P), .int nt, .int yd]))] H := hP
      have hD : va_D A [(aa, .inr (0, [.ref a1, .int rn, .int (nI pn), .int 6, .int vv])), (a1, .inl (cI, 20, .inl fa)), (ak, .inl (cI, 4, .inl fk)), (av, .inl (cI, 4, .inl fv)), (af, .inr (2, [.ref ak, .ref av, .ref ar, .int (nI P), .int nt, .int yd]))] := hD
      refine lv_aload_n hx hb dX0_start_25 rfl (lv_at hl 0 rfl) ?_
      refine lv_aload_n hx hb dX0_start_26 rfl (lv_at hl 1 rfl) ?_
      refine va_getN (ci := 2) (v := .ref av) (C := RX2) (T := TX2) (N := 6) hx hb hT wu_X2 hown hK hP 4 rfl rfl 1 (by decide) (va_Nw.use rfl (hN.get 137 kf_X0_33 rfl)) (fun _ h9 => h9) rfl dX0_start_27 ?_
      refine lv_iload_n hx hb dX0_start_30 rfl (lv_at hl 2 rfl) ?_
      refine va_iald hx hb hK hP 3 0 rfl rfl (vp_in_nI (n := pn) (by omega) (by decide)) dX0_start_31 ?_
      refine lv_ci (fv pn) (congrArg fv (nI_clamp (n := pn) (by omega))) ?_
      refine va_put (ci := 0) (v := .int (fv pn)) (ty := .int) (C := RX0) (T := TX0) (N := 5) hx hb hT wu_X0 tyX0 tyX0_ok nmX0 hown hK hP hD hS 0 rfl rfl 4 (by decide) (hT _ wf_X0_36) (fun _ h9 => h9) rfl (by decide +kernel) rfl rfl (Nat.le_of_ble_eq_true rfl) dX0_start_32 (fun H locs hP hD hS => ?_)
      have hP : va_P D CL [(aa, .inr (0, [.ref a1, .int rn, .int (nI pn), .int 6, .int (fv pn)])), (a1, .inl (cI, 20, .inl fa)), (ak, .inl (cI, 4, .inl fk)), (av, .inl (cI, 4, .inl fv)), (af, .inr (2, [.ref ak, .ref av, .ref ar, .int (nI P), .int nt, .int yd]))] H := hP
      have hD : va_D A [(aa, .inr (0, [.ref a1, .int rn, .int (nI pn), .int 6, .int (fv pn)])), (a1, .inl (cI, 20, .inl fa)), (ak, .inl (cI, 4, .inl fk)), (av, .inl (cI, 4, .inl fv)), (af, .inr (2, [.ref ak, .ref av, .ref ar, .int (nI P), .int nt, .int yd]))] := hD
      refine lv_aload_n hx hb dX0_start_35 rfl (lv_at hl 0 rfl) ?_
      refine lv_aload_n hx hb dX0_start_36 rfl (lv_at hl 0 rfl) ?_
      refine va_get (ci := 0) (v := .int 6) (C := RX0) (T := TX0) (N := 5) hx hb hT wu_X0 hown hK hP 0 rfl rfl 3 (by decide) (hT _ wf_X0_31) (fun _ h9 => h9) rfl dX0_start_37 ?_
      refine lv_iload_n hx hb dX0_start_40 rfl (lv_at hl 3 rfl) ?_
      refine lv_iload hx hb dX0_start_41 (lv_at hl 4 rfl) ?_
      refine lv_iconst (v := 0) hx hb dX0_start_43 (by decide) ?_
      refine contI (wc := [(aa, .inr (0, [.ref a1, .int rn, .int (nI pn), .int 6, .int (fv pn)])), (a1, .inl (cI, 20, .inl fa))]) (wr := [(ak, .inl (cI, 4, .inl fk)), (av, .inl (cI, 4, .inl fv)), (af, .inr (2, [.ref ak, .ref av, .ref ar, .int (nI P), .int nt, .int yd]))]) C0 hP hD hS [0, 1] [2, 3, 4] rfl rfl (by decide) (by decide) 0 0 (Nat.le_of_ble_eq_true rfl) (Nat.le_of_ble_eq_true rfl) (runV (k := 4) (As := [.int 6, .int 1, .int xx, .int 0]) (rest := []) C0 (c_ask_6_6_1 l D cI cZ cQ cT _ aa xx 0 a1 rn (nI pn) (fv pn) fa) wc_X0_ask wl_X0_38 wi_X0_ask we_X0_ask wz_X0 ⟨by decide, by decide, by decide +kernel⟩ ⟨(Nat.le_of_ble_eq_true rfl), (Nat.le_of_ble_eq_true rfl)⟩ hP hD hS EF.ok hX [0, 1] rfl (by decide) 0 rfl rfl rfl rfl hl.1 rfl (Nat.le_of_ble_eq_true rfl) dX0_start_44 ⟨(Nat.le_of_ble_eq_true rfl), (Nat.le_of_ble_eq_true rfl)⟩) (fun r_44 u_42 H locs w_43 hP hD hS => ?_)
      obtain ⟨rnZ_40, faZ_41⟩ := u_42
      have hP : va_P D CL [(ak, .inl (cI, 4, .inl fk)), (av, .inl (cI, 4, .inl fv)), (af, .inr (2, [.ref ak, .ref av, .ref ar, .int (nI P), .int nt, .int yd])), (aa, .inr (0, [.ref a1, .int rnZ_40, .int (nI pn), .int 6, .int (fv pn)])), (a1, .inl (cI, 20, .inl faZ_41))] H := hP
      have hD : va_D A [(ak, .inl (cI, 4, .inl fk)), (av, .inl (cI, 4, .inl fv)), (af, .inr (2, [.ref ak, .ref av, .ref ar, .int (nI P), .int nt, .int yd])), (aa, .inr (0, [.ref a1, .int rnZ_40, .int (nI pn), .int 6, .int (fv pn)])), (a1, .inl (cI, 20, .inl faZ_41))] := hD
      exact retI C0 rfl (rnZ_40, (nI pn), 6, (fv pn), faZ_41) trivial (hP.sub (ws' := [(aa, .inr (0, [.ref a1, .int rnZ_40, .int (nI pn), .int 6, .int (fv pn)])), (a1, .inl (cI, 20, .inl faZ_41)), (af, .inr (2, [.ref ak, .ref av, .ref ar, .int (nI P), .int nt, .int yd])), (ak, .inl (cI, 4, .inl fk)), (av, .inl (cI, 4, .inl fv))]) [3, 4, 2, 0, 1] rfl) (hD.sub (ws' := [(aa, .inr (0, [.ref a1, .int rnZ_40, .int (nI pn), .int 6, .int (fv pn)])), (a1, .inl (cI, 20, .inl faZ_41)), (af, .inr (2, [.ref ak, .ref av, .ref ar, .int (nI P), .int nt, .int yd])), (ak, .inl (cI, 4, .inl fk)), (av, .inl (cI, 4, .inl fv))]) [3, 4, 2, 0, 1] (by decide) rfl) hS (Nat.le_of_ble_eq_true rfl) (Nat.le_of_ble_eq_true rfl) dX0_start_47
  · obtain rfl : r_3 = 0 := w_2.trans (if_neg c_4)
    refine lv_if_ne (tgt := 10) hx hb dX0_start_5 (by decide) (fun c_0 => absurd (by decide) c_0) (fun _ => ?_)
    refine lv_iconst (v := 0) hx hb dX0_start_8 (by decide) ?_
    exact retI C0 rfl (rn, sl, kd, vv, fa) trivial (hP.sub (ws' := [(aa, .inr (0, [.ref a1, .int rn, .int sl, .int kd, .int vv])), (a1, .inl (cI, 20, .inl fa)), (af, .inr (2, [.ref ak, .ref av, .ref ar, .int (nI P), .int nt, .int yd])), (ak, .inl (cI, 4, .inl fk)), (av, .inl (cI, 4, .inl fv))]) [0, 1, 4, 2, 3] rfl) (hD.sub (ws' := [(aa, .inr (0, [.ref a1, .int rn, .int sl, .int kd, .int vv])), (a1, .inl (cI, 20, .inl fa)), (af, .inr (2, [.ref ak, .ref av, .ref ar, .int (nI P), .int nt, .int yd])), (ak, .inl (cI, 4, .inl fk)), (av, .inl (cI, 4, .inl fv))]) [0, 1, 4, 2, 3] (by decide) rfl) hS (Nat.le_of_ble_eq_true rfl) (Nat.le_of_ble_eq_true rfl) dX0_start_9

set_option maxHeartbeats 4000000 in
set_option maxRecDepth 100000 in
theorem c_bodyOf_0_2 (l : Launch) (D : va_G) (cI cZ cQ cT : ClassId) (sz : Nat)   : MetI l yX0_bodyOf cX0_bodyOf 5 .int ({ frames := 0, cells := 0, slots := 0, locals := 0 } : Room) [.int 0, .int 2] D (TYS cI cZ cQ cT) EF sz [] (S := Unit) (fun (r : Int32) (_ : Unit) => r = 3) (fun _ => []) := by
  refine MetI.mk (lv := [(0, .int 0), (1, .int 2)]) (by decide +kernel) (Nat.le_of_ble_eq_true rfl) rfl ?_
  intro p e s m below meth c A ls C0 hP hD hS hX hl
  have C1 := C0
  obtain ⟨hx, hb, hr, hml, hown, hlocks, hname, hT, hN, hK, hA⟩ := C1
  obtain ⟨kab, hkz, hkT⟩ := hX.2.1
  obtain ⟨bdy, hbz, hbT⟩ := hX.2.2.1
  refine lv_iload_n hx hb dX0_bodyOf_0 rfl (lv_at hl 0 rfl) ?_
  refine lv_istore_n (lv' := [(2, .int 0), (0, .int 0), (1, .int 2)]) hx hb dX0_bodyOf_1 rfl hl (by decide) rfl (fun ls hl => ?_)
  refine lv_iconst (v := 0) hx hb dX0_bodyOf_2 (by decide) ?_
  refine lv_istore_n (lv' := [(3, .int 0), (2, .int 0), (0, .int 0), (1, .int 2)]) hx hb dX0_bodyOf_3 rfl hl (by decide) rfl (fun ls hl => ?_)
  refine lv_iload_n hx hb dX0_bodyOf_4 rfl (lv_at hl 0 rfl) ?_
  refine lv_bipush (v := 7) hx hb dX0_bodyOf_5 (by decide) ?_
  refine lv_icmp_ge (tgt := 69) hx hb dX0_bodyOf_7 (by decide) (fun c_0 => absurd c_0 (by decide)) (fun _ => ?_)
  refine lv_iload_n hx hb dX0_bodyOf_10 rfl (lv_at hl 1 rfl) ?_
  refine lv_if_lt (tgt := 69) hx hb dX0_bodyOf_11 (by decide) (fun c_0 => absurd c_0 (by decide)) (fun _ => ?_)
  refine lv_iload_n hx hb dX0_bodyOf_14 rfl (lv_at hl 1 rfl) ?_
  refine lv_bipush (v := 7) hx hb dX0_bodyOf_15 (by decide) ?_
  refine lv_icmp_ge (tgt := 69) hx hb dX0_bodyOf_17 (by decide) (fun c_0 => absurd c_0 (by decide)) (fun _ => ?_)
  refine lv_iload_n hx hb dX0_bodyOf_20 rfl (lv_at hl 1 rfl) ?_
  refine lv_iconst (v := 3) hx hb dX0_bodyOf_21 (by decide) ?_
  refine lv_imul hx hb dX0_bodyOf_22 ?_
  refine lv_ci 0 (by decide +kernel) ?_
  refine lv_iload_n hx hb dX0_bodyOf_23 rfl (lv_at hl 3 rfl) ?_
  refine lv_iadd hx hb dX0_bodyOf_24 ?_
  refine lv_ci 2 (by decide +kernel) ?_
  refine lv_istore (lv' := [(4, .int 2), (3, .int 0), (2, .int 0), (0, .int 0), (1, .int 2)]) hx hb dX0_bodyOf_25 hl (by decide) rfl (fun ls hl => ?_)
  refine lv_iload hx hb dX0_bodyOf_27 (lv_at hl 0 rfl) ?_
  refine lv_if_lt (tgt := 57) hx hb dX0_bodyOf_29 (by decide) (fun c_0 => absurd c_0 (by decide)) (fun _ => ?_)
  refine lv_iload hx hb dX0_bodyOf_32 (lv_at hl 0 rfl) ?_
  refine va_gets hx hb hbz hS hown (hT _ wf_X0_42) (fun _ h9 => h9) dX0_bodyOf_34 ?_
  refine va_tlen hx hb hbT hS (v := 21) rfl dX0_bodyOf_37 ?_
  refine lv_icmp_ge (tgt := 57) hx hb dX0_bodyOf_38 (by decide) (fun c_0 => absurd c_0 (by decide)) (fun _ => ?_)
  refine va_gets hx hb hbz hS hown (hT _ wf_X0_42) (fun _ h9 => h9) dX0_bodyOf_41 ?_
  refine lv_iload hx hb dX0_bodyOf_44 (lv_at hl 0 rfl) ?_
  refine va_ti hx hb hbT hS (vin _ _ (by decide +kernel)) (v := .int 3) rfl dX0_bodyOf_46 ?_
  refine lv_if_eq (tgt := 57) hx hb dX0_bodyOf_47 (by decide) (fun c_0 => absurd c_0 (by decide)) (fun _ => ?_)
  refine va_gets hx hb hbz hS hown (hT _ wf_X0_42) (fun _ h9 => h9) dX0_bodyOf_50 ?_
  refine lv_iload hx hb dX0_bodyOf_53 (lv_at hl 0 rfl) ?_
  refine va_ti hx hb hbT hS (vin _ _ (by decide +kernel)) (v := .int 3) rfl dX0_bodyOf_55 ?_
  exact retI C0 rfl () rfl (hP.sub (ws' := []) [] rfl) (hD.sub (ws' := []) [] (by decide) rfl) hS (Nat.le_of_ble_eq_true rfl) (Nat.le_of_ble_eq_true rfl) dX0_bodyOf_56

set_option maxHeartbeats 4000000 in
set_option maxRecDepth 100000 in
theorem c_ask_0_0_2 (l : Launch) (D : va_G) (cI cZ cQ cT : ClassId) (sz : Nat) (aa : Nat) (xx : Int32) (dp : Int32) (a1 : Nat) (rn : Int32) (sl : Int32) (vv : Int32) (fa : Nat → Int32)  : MetI l yX0_ask cX0_ask 7 .int ({ frames := 3, cells := 0, slots := 0, locals := 76 } : Room) [.ref aa, .int 0, .int 2, .int xx, .int dp] D (TYS cI cZ cQ cT) EF sz [(aa, .inr (0, [.ref a1, .int rn, .int sl, .int 0, .int vv])), (a1, .inl (cI, 20, .inl fa))] (S := Int32 × (Nat → Int32)) (fun (r : Int32) (_ : Int32 × (Nat → Int32)) => True) (fun u => [(aa, .inr (0, [.ref a1, .int u.1, .int sl, .int 0, .int vv])), (a1, .inl (cI, 20, .inl u.2))]) := by
  refine MetI.mk (lv := [(0, .ref aa), (1, .int 0), (2, .int 2), (3, .int xx), (4, .int dp)]) (by decide +kernel) (Nat.le_of_ble_eq_true rfl) rfl ?_
  intro p e s m below meth c A ls C0 hP hD hS hX hl
  have C1 := C0
  obtain ⟨hx, hb, hr, hml, hown, hlocks, hname, hT, hN, hK, hA⟩ := C1
  refine lv_iload_n hx hb dX0_ask_0 rfl (lv_at hl 1 rfl) ?_
  refine lv_iload_n hx hb dX0_ask_1 rfl (lv_at hl 2 rfl) ?_
  refine contI (wc := []) (wr := [(aa, .inr (0, [.ref a1, .int rn, .int sl, .int 0, .int vv])), (a1, .inl (cI, 20, .inl fa))]) C0 hP hD hS [] [0, 1] rfl rfl (by decide) (by decide) 0 0 (Nat.le_of_ble_eq_true rfl) (Nat.le_of_ble_eq_true rfl) (runS (k := 2) (As := [.int 0, .int 2]) (rest := []) C0 (c_bodyOf_0_2 l D cI cZ cQ cT _ ) wc_X0_bodyOf wl_X0_48 wt_X0_bodyOf wz_X0 ⟨by decide, by decide, by decide +kernel⟩ ⟨(Nat.le_of_ble_eq_true rfl), (Nat.le_of_ble_eq_true rfl)⟩ hP hD hS EF.ok hX [] rfl (by decide) rfl hl.1 rfl (Nat.le_of_ble_eq_true rfl) dX0_ask_2 ⟨(Nat.le_of_ble_eq_true rfl), (Nat.le_of_ble_eq_true rfl)⟩) (fun r_3 u_1 H locs w_2 hP hD hS => ?_)
  have hP : va_P D CL [(aa, .inr (0, [.ref a1, .int rn, .int sl, .int 0, .int vv])), (a1, .inl (cI, 20, .inl fa))] H := hP
  have hD : va_D A [(aa, .inr (0, [.ref a1, .int rn, .int sl, .int 0, .int vv])), (a1, .inl (cI, 20, .inl fa))] := hD
  obtain rfl : r_3 = 3 := w_2
  refine lv_istore (lv' := [(5, .int 3), (0, .ref aa), (1, .int 0), (2, .int 2), (3, .int xx), (4, .int dp)]) hx hb dX0_ask_5 hl (by decide) rfl (fun ls hl => ?_)
  refine lv_iload hx hb dX0_ask_7 (lv_at hl 0 rfl) ?_
  refine lv_if_eq (tgt := 19) hx hb dX0_ask_9 (by decide) (fun c_0 => absurd c_0 (by decide)) (fun _ => ?_)
  refine lv_iload hx hb dX0_ask_12 (lv_at hl 5 rfl) ?_
  refine lv_bipush (v := 40) hx hb dX0_ask_14 (by decide) ?_
  refine lv_icmp_le (tgt := 21) hx hb dX0_ask_16 (by decide) (fun c_4 => ?_) (fun c_4 => ?_)
  · refine lv_aload_n hx hb dX0_ask_21 rfl (lv_at hl 1 rfl) ?_
    refine lv_iload hx hb dX0_ask_22 (lv_at hl 0 rfl) ?_
    refine contV (wc := [(aa, .inr (0, [.ref a1, .int rn, .int sl, .int 0, .int vv])), (a1, .inl (cI, 20, .inl fa))]) (wr := []) C0 hP hD hS [0, 1] [] rfl rfl (by decide) (by decide) 0 0 (Nat.le_of_ble_eq_true rfl) (Nat.le_of_ble_eq_true rfl) (runV (k := 1) (As := [.int 3]) (rest := []) C0 (c_begin l D cI cZ cQ cT _ aa 3 a1 rn sl 0 vv fa) wc_X0_begin wl_X0_52 wi_X0_begin we_X0_begin wz_X0 ⟨by decide, by decide, by decide +kernel⟩ ⟨(Nat.le_of_ble_eq_true rfl), (Nat.le_of_ble_eq_true rfl)⟩ hP hD hS EF.ok hX [0, 1] rfl (by decide) 0 rfl rfl rfl rfl hl.1 rfl (Nat.le_of_ble_eq_true rfl) dX0_ask_24 ⟨(Nat.le_of_ble_eq_true rfl), (Nat.le_of_ble_eq_true rfl)⟩) (fun u_7 H locs w_8 hP hD hS => ?_)
    obtain ⟨rnZ_5, faZ_6⟩ := u_7
    have hP : va_P D CL [(aa, .inr (0, [.ref a1, .int rnZ_5, .int sl, .int 0, .int vv])), (a1, .inl (cI, 20, .inl faZ_6))] H := hP
    have hD : va_D A [(aa, .inr (0, [.ref a1, .int rnZ_5, .int sl, .int 0, .int vv])), (a1, .inl (cI, 20, .inl faZ_6))] := hD
    refine lv_iload hx hb dX0_ask_27 (lv_at hl 5 rfl) ?_
    refine lv_iconst (v := 1) hx hb dX0_ask_29 (by decide) ?_
    refine lv_iadd hx hb dX0_ask_30 ?_
    refine lv_istore (lv' := [(6, .int (dp + (1 : Int32))), (5, .int 3), (0, .ref aa), (1, .int 0), (2, .int 2), (3, .int xx), (4, .int dp)]) hx hb dX0_ask_31 hl (by decide) rfl (fun ls hl => ?_)
    refine lv_iload hx hb dX0_ask_33 (lv_at hl 1 rfl) ?_
    refine lv_lookup (off := 106) (tgt := 141) hx hb dX0_ask_35 (by decide) (by decide) (by decide) ?_
    refine lv_aload_n hx hb dX0_ask_141 rfl (lv_at hl 2 rfl) ?_
    refine lv_aload_n hx hb dX0_ask_142 rfl (lv_at hl 2 rfl) ?_
    refine va_get (ci := 0) (v := .int 0) (C := RX0) (T := TX0) (N := 5) hx hb hT wu_X0 hown hK hP 0 rfl rfl 3 (by decide) (hT _ wf_X0_31) (fun _ h9 => h9) rfl dX0_ask_143 ?_
    refine lv_iconst (v := 1) hx hb dX0_ask_146 (by decide) ?_
    refine lv_iload_n hx hb dX0_ask_147 rfl (lv_at hl 5 rfl) ?_
    refine lv_iload hx hb dX0_ask_148 (lv_at hl 0 rfl) ?_
    refine contI (wc := [(aa, .inr (0, [.ref a1, .int rnZ_5, .int sl, .int 0, .int vv])), (a1, .inl (cI, 20, .inl faZ_6))]) (wr := []) C0 hP hD hS [0, 1] [] rfl rfl (by decide) (by decide) 0 0 (Nat.le_of_ble_eq_true rfl) (Nat.le_of_ble_eq_true rfl) (runV (k := 4) (As := [.int 0, .int 1, .int xx, .int (dp + (1 : Int32))]) (rest := []) C0 (c_ask_0_0_1 l D cI cZ cQ cT _ aa xx (dp + (1 : Int32)) a1 rnZ_5 sl vv faZ_6) wc_X0_ask wl_X0_38 wi_X0_ask we_X0_ask wz_X0 ⟨by decide, by decide, by decide +kernel⟩ ⟨(Nat.le_of_ble_eq_true rfl), (Nat.le_of_ble_eq_true rfl)⟩ hP hD hS EF.ok hX [0, 1] rfl (by decide) 0 rfl rfl rfl rfl hl.1 rfl (Nat.le_of_ble_eq_true rfl) dX0_ask_150 ⟨(Nat.le_of_ble_eq_true rfl), (Nat.le_of_ble_eq_true rfl)⟩) (fun r_14 u_12 H locs w_13 hP hD hS => ?_)
    obtain ⟨rnZ_10, faZ_11⟩ := u_12
    have hP : va_P D CL [(aa, .inr (0, [.ref a1, .int rnZ_10, .int sl, .int 0, .int vv])), (a1, .inl (cI, 20, .inl faZ_11))] H := hP
    have hD : va_D A [(aa, .inr (0, [.ref a1, .int rnZ_10, .int sl, .int 0, .int vv])), (a1, .inl (cI, 20, .inl faZ_11))] := hD
    refine lv_iconst (v := 2) hx hb dX0_ask_153 (by decide) ?_
    refine lv_imul hx hb dX0_ask_154 ?_
    exact retI C0 rfl (rnZ_10, faZ_11) trivial (hP.sub (ws' := [(aa, .inr (0, [.ref a1, .int rnZ_10, .int sl, .int 0, .int vv])), (a1, .inl (cI, 20, .inl faZ_11))]) [0, 1] rfl) (hD.sub (ws' := [(aa, .inr (0, [.ref a1, .int rnZ_10, .int sl, .int 0, .int vv])), (a1, .inl (cI, 20, .inl faZ_11))]) [0, 1] (by decide) rfl) hS (Nat.le_of_ble_eq_true rfl) (Nat.le_of_ble_eq_true rfl) dX0_ask_155
  · refine lv_iconst (v := 0) hx hb dX0_ask_19 (by decide) ?_
    exact retI C0 rfl (rn, fa) trivial (hP.sub (ws' := [(aa, .inr (0, [.ref a1, .int rn, .int sl, .int 0, .int vv])), (a1, .inl (cI, 20, .inl fa))]) [0, 1] rfl) (hD.sub (ws' := [(aa, .inr (0, [.ref a1, .int rn, .int sl, .int 0, .int vv])), (a1, .inl (cI, 20, .inl fa))]) [0, 1] (by decide) rfl) hS (Nat.le_of_ble_eq_true rfl) (Nat.le_of_ble_eq_true rfl) dX0_ask_20

set_option maxHeartbeats 4000000 in
set_option maxRecDepth 100000 in
theorem c_bodyOf_1_2 (l : Launch) (D : va_G) (cI cZ cQ cT : ClassId) (sz : Nat)   : MetI l yX0_bodyOf cX0_bodyOf 5 .int ({ frames := 0, cells := 0, slots := 0, locals := 0 } : Room) [.int 1, .int 2] D (TYS cI cZ cQ cT) EF sz [] (S := Unit) (fun (r : Int32) (_ : Unit) => r = 3) (fun _ => []) := by
  refine MetI.mk (lv := [(0, .int 1), (1, .int 2)]) (by decide +kernel) (Nat.le_of_ble_eq_true rfl) rfl ?_
  intro p e s m below meth c A ls C0 hP hD hS hX hl
  have C1 := C0
  obtain ⟨hx, hb, hr, hml, hown, hlocks, hname, hT, hN, hK, hA⟩ := C1
  obtain ⟨kab, hkz, hkT⟩ := hX.2.1
  obtain ⟨bdy, hbz, hbT⟩ := hX.2.2.1
  refine lv_iload_n hx hb dX0_bodyOf_0 rfl (lv_at hl 0 rfl) ?_
  refine lv_istore_n (lv' := [(2, .int 1), (0, .int 1), (1, .int 2)]) hx hb dX0_bodyOf_1 rfl hl (by decide) rfl (fun ls hl => ?_)
  refine lv_iconst (v := 0) hx hb dX0_bodyOf_2 (by decide) ?_
  refine lv_istore_n (lv' := [(3, .int 0), (2, .int 1), (0, .int 1), (1, .int 2)]) hx hb dX0_bodyOf_3 rfl hl (by decide) rfl (fun ls hl => ?_)
  refine lv_iload_n hx hb dX0_bodyOf_4 rfl (lv_at hl 0 rfl) ?_
  refine lv_bipush (v := 7) hx hb dX0_bodyOf_5 (by decide) ?_
  refine lv_icmp_ge (tgt := 69) hx hb dX0_bodyOf_7 (by decide) (fun c_0 => absurd c_0 (by decide)) (fun _ => ?_)
  refine lv_iload_n hx hb dX0_bodyOf_10 rfl (lv_at hl 1 rfl) ?_
  refine lv_if_lt (tgt := 69) hx hb dX0_bodyOf_11 (by decide) (fun c_0 => absurd c_0 (by decide)) (fun _ => ?_)
  refine lv_iload_n hx hb dX0_bodyOf_14 rfl (lv_at hl 1 rfl) ?_
  refine lv_bipush (v := 7) hx hb dX0_bodyOf_15 (by decide) ?_
  refine lv_icmp_ge (tgt := 69) hx hb dX0_bodyOf_17 (by decide) (fun c_0 => absurd c_0 (by decide)) (fun _ => ?_)
  refine lv_iload_n hx hb dX0_bodyOf_20 rfl (lv_at hl 1 rfl) ?_
  refine lv_iconst (v := 3) hx hb dX0_bodyOf_21 (by decide) ?_
  refine lv_imul hx hb dX0_bodyOf_22 ?_
  refine lv_ci 3 (by decide +kernel) ?_
  refine lv_iload_n hx hb dX0_bodyOf_23 rfl (lv_at hl 3 rfl) ?_
  refine lv_iadd hx hb dX0_bodyOf_24 ?_
  refine lv_ci 5 (by decide +kernel) ?_
  refine lv_istore (lv' := [(4, .int 5), (3, .int 0), (2, .int 1), (0, .int 1), (1, .int 2)]) hx hb dX0_bodyOf_25 hl (by decide) rfl (fun ls hl => ?_)
  refine lv_iload hx hb dX0_bodyOf_27 (lv_at hl 0 rfl) ?_
  refine lv_if_lt (tgt := 57) hx hb dX0_bodyOf_29 (by decide) (fun c_0 => absurd c_0 (by decide)) (fun _ => ?_)
  refine lv_iload hx hb dX0_bodyOf_32 (lv_at hl 0 rfl) ?_
  refine va_gets hx hb hbz hS hown (hT _ wf_X0_42) (fun _ h9 => h9) dX0_bodyOf_34 ?_
  refine va_tlen hx hb hbT hS (v := 21) rfl dX0_bodyOf_37 ?_
  refine lv_icmp_ge (tgt := 57) hx hb dX0_bodyOf_38 (by decide) (fun c_0 => absurd c_0 (by decide)) (fun _ => ?_)
  refine va_gets hx hb hbz hS hown (hT _ wf_X0_42) (fun _ h9 => h9) dX0_bodyOf_41 ?_
  refine lv_iload hx hb dX0_bodyOf_44 (lv_at hl 0 rfl) ?_
  refine va_ti hx hb hbT hS (vin _ _ (by decide +kernel)) (v := .int 0) rfl dX0_bodyOf_46 ?_
  refine lv_if_eq (tgt := 57) hx hb dX0_bodyOf_47 (by decide) (fun _ => ?_) (fun c_0 => absurd (by decide) c_0)
  refine va_getsN hx hb hkz hS hown (va_Nw.use rfl (hN.get 750 kf_X0_45 rfl)) (fun _ h9 => h9) dX0_bodyOf_57 ?_
  refine lv_iload_n hx hb dX0_bodyOf_60 rfl (lv_at hl 2 rfl) ?_
  refine va_ti hx hb hkT hS (vin _ _ (by decide +kernel)) (v := .int 0) rfl dX0_bodyOf_61 ?_
  refine lv_istore_n (lv' := [(2, .int 0), (4, .int 5), (3, .int 0), (0, .int 1), (1, .int 2)]) hx hb dX0_bodyOf_62 rfl hl (by decide) rfl (fun ls hl => ?_)
  refine lv_iinc (v := 1) (lv' := [(3, .int 1), (2, .int 0), (4, .int 5), (0, .int 1), (1, .int 2)]) hx hb dX0_bodyOf_63 hl (k := 2) rfl (by decide) (by decide) rfl (fun ls hl => ?_)
  refine lv_goto (tgt := 4) hx hb dX0_bodyOf_66 (by decide) ?_
  refine lv_iload_n hx hb dX0_bodyOf_4 rfl (lv_at hl 0 rfl) ?_
  refine lv_bipush (v := 7) hx hb dX0_bodyOf_5 (by decide) ?_
  refine lv_icmp_ge (tgt := 69) hx hb dX0_bodyOf_7 (by decide) (fun c_0 => absurd c_0 (by decide)) (fun _ => ?_)
  refine lv_iload_n hx hb dX0_bodyOf_10 rfl (lv_at hl 1 rfl) ?_
  refine lv_if_lt (tgt := 69) hx hb dX0_bodyOf_11 (by decide) (fun c_0 => absurd c_0 (by decide)) (fun _ => ?_)
  refine lv_iload_n hx hb dX0_bodyOf_14 rfl (lv_at hl 1 rfl) ?_
  refine lv_bipush (v := 7) hx hb dX0_bodyOf_15 (by decide) ?_
  refine lv_icmp_ge (tgt := 69) hx hb dX0_bodyOf_17 (by decide) (fun c_0 => absurd c_0 (by decide)) (fun _ => ?_)
  refine lv_iload_n hx hb dX0_bodyOf_20 rfl (lv_at hl 1 rfl) ?_
  refine lv_iconst (v := 3) hx hb dX0_bodyOf_21 (by decide) ?_
  refine lv_imul hx hb dX0_bodyOf_22 ?_
  refine lv_ci 0 (by decide +kernel) ?_
  refine lv_iload_n hx hb dX0_bodyOf_23 rfl (lv_at hl 4 rfl) ?_
  refine lv_iadd hx hb dX0_bodyOf_24 ?_
  refine lv_ci 2 (by decide +kernel) ?_
  refine lv_istore (lv' := [(4, .int 2), (3, .int 1), (2, .int 0), (0, .int 1), (1, .int 2)]) hx hb dX0_bodyOf_25 hl (by decide) rfl (fun ls hl => ?_)
  refine lv_iload hx hb dX0_bodyOf_27 (lv_at hl 0 rfl) ?_
  refine lv_if_lt (tgt := 57) hx hb dX0_bodyOf_29 (by decide) (fun c_0 => absurd c_0 (by decide)) (fun _ => ?_)
  refine lv_iload hx hb dX0_bodyOf_32 (lv_at hl 0 rfl) ?_
  refine va_gets hx hb hbz hS hown (hT _ wf_X0_42) (fun _ h9 => h9) dX0_bodyOf_34 ?_
  refine va_tlen hx hb hbT hS (v := 21) rfl dX0_bodyOf_37 ?_
  refine lv_icmp_ge (tgt := 57) hx hb dX0_bodyOf_38 (by decide) (fun c_0 => absurd c_0 (by decide)) (fun _ => ?_)
  refine va_gets hx hb hbz hS hown (hT _ wf_X0_42) (fun _ h9 => h9) dX0_bodyOf_41 ?_
  refine lv_iload hx hb dX0_bodyOf_44 (lv_at hl 0 rfl) ?_
  refine va_ti hx hb hbT hS (vin _ _ (by decide +kernel)) (v := .int 3) rfl dX0_bodyOf_46 ?_
  refine lv_if_eq (tgt := 57) hx hb dX0_bodyOf_47 (by decide) (fun c_0 => absurd c_0 (by decide)) (fun _ => ?_)
  refine va_gets hx hb hbz hS hown (hT _ wf_X0_42) (fun _ h9 => h9) dX0_bodyOf_50 ?_
  refine lv_iload hx hb dX0_bodyOf_53 (lv_at hl 0 rfl) ?_
  refine va_ti hx hb hbT hS (vin _ _ (by decide +kernel)) (v := .int 3) rfl dX0_bodyOf_55 ?_
  exact retI C0 rfl () rfl (hP.sub (ws' := []) [] rfl) (hD.sub (ws' := []) [] (by decide) rfl) hS (Nat.le_of_ble_eq_true rfl) (Nat.le_of_ble_eq_true rfl) dX0_bodyOf_56

set_option maxHeartbeats 4000000 in
set_option maxRecDepth 100000 in
theorem c_ask_1_1_2 (l : Launch) (D : va_G) (cI cZ cQ cT : ClassId) (sz : Nat) (aa : Nat) (xx : Int32) (dp : Int32) (a1 : Nat) (rn : Int32) (sl : Int32) (vv : Int32) (fa : Nat → Int32)  : MetI l yX0_ask cX0_ask 7 .int ({ frames := 4, cells := 0, slots := 0, locals := 102 } : Room) [.ref aa, .int 1, .int 2, .int xx, .int dp] D (TYS cI cZ cQ cT) EF sz [(aa, .inr (0, [.ref a1, .int rn, .int sl, .int 1, .int vv])), (a1, .inl (cI, 20, .inl fa))] (S := Int32 × (Nat → Int32)) (fun (r : Int32) (_ : Int32 × (Nat → Int32)) => True) (fun u => [(aa, .inr (0, [.ref a1, .int u.1, .int sl, .int 1, .int vv])), (a1, .inl (cI, 20, .inl u.2))]) := by
  refine MetI.mk (lv := [(0, .ref aa), (1, .int 1), (2, .int 2), (3, .int xx), (4, .int dp)]) (by decide +kernel) (Nat.le_of_ble_eq_true rfl) rfl ?_
  intro p e s m below meth c A ls C0 hP hD hS hX hl
  have C1 := C0
  obtain ⟨hx, hb, hr, hml, hown, hlocks, hname, hT, hN, hK, hA⟩ := C1
  refine lv_iload_n hx hb dX0_ask_0 rfl (lv_at hl 1 rfl) ?_
  refine lv_iload_n hx hb dX0_ask_1 rfl (lv_at hl 2 rfl) ?_
  refine contI (wc := []) (wr := [(aa, .inr (0, [.ref a1, .int rn, .int sl, .int 1, .int vv])), (a1, .inl (cI, 20, .inl fa))]) C0 hP hD hS [] [0, 1] rfl rfl (by decide) (by decide) 0 0 (Nat.le_of_ble_eq_true rfl) (Nat.le_of_ble_eq_true rfl) (runS (k := 2) (As := [.int 1, .int 2]) (rest := []) C0 (c_bodyOf_1_2 l D cI cZ cQ cT _ ) wc_X0_bodyOf wl_X0_48 wt_X0_bodyOf wz_X0 ⟨by decide, by decide, by decide +kernel⟩ ⟨(Nat.le_of_ble_eq_true rfl), (Nat.le_of_ble_eq_true rfl)⟩ hP hD hS EF.ok hX [] rfl (by decide) rfl hl.1 rfl (Nat.le_of_ble_eq_true rfl) dX0_ask_2 ⟨(Nat.le_of_ble_eq_true rfl), (Nat.le_of_ble_eq_true rfl)⟩) (fun r_3 u_1 H locs w_2 hP hD hS => ?_)
  have hP : va_P D CL [(aa, .inr (0, [.ref a1, .int rn, .int sl, .int 1, .int vv])), (a1, .inl (cI, 20, .inl fa))] H := hP
  have hD : va_D A [(aa, .inr (0, [.ref a1, .int rn, .int sl, .int 1, .int vv])), (a1, .inl (cI, 20, .inl fa))] := hD
  obtain rfl : r_3 = 3 := w_2
  refine lv_istore (lv' := [(5, .int 3), (0, .ref aa), (1, .int 1), (2, .int 2), (3, .int xx), (4, .int dp)]) hx hb dX0_ask_5 hl (by decide) rfl (fun ls hl => ?_)
  refine lv_iload hx hb dX0_ask_7 (lv_at hl 0 rfl) ?_
  refine lv_if_eq (tgt := 19) hx hb dX0_ask_9 (by decide) (fun c_0 => absurd c_0 (by decide)) (fun _ => ?_)
  refine lv_iload hx hb dX0_ask_12 (lv_at hl 5 rfl) ?_
  refine lv_bipush (v := 40) hx hb dX0_ask_14 (by decide) ?_
  refine lv_icmp_le (tgt := 21) hx hb dX0_ask_16 (by decide) (fun c_4 => ?_) (fun c_4 => ?_)
  · refine lv_aload_n hx hb dX0_ask_21 rfl (lv_at hl 1 rfl) ?_
    refine lv_iload hx hb dX0_ask_22 (lv_at hl 0 rfl) ?_
    refine contV (wc := [(aa, .inr (0, [.ref a1, .int rn, .int sl, .int 1, .int vv])), (a1, .inl (cI, 20, .inl fa))]) (wr := []) C0 hP hD hS [0, 1] [] rfl rfl (by decide) (by decide) 0 0 (Nat.le_of_ble_eq_true rfl) (Nat.le_of_ble_eq_true rfl) (runV (k := 1) (As := [.int 3]) (rest := []) C0 (c_begin l D cI cZ cQ cT _ aa 3 a1 rn sl 1 vv fa) wc_X0_begin wl_X0_52 wi_X0_begin we_X0_begin wz_X0 ⟨by decide, by decide, by decide +kernel⟩ ⟨(Nat.le_of_ble_eq_true rfl), (Nat.le_of_ble_eq_true rfl)⟩ hP hD hS EF.ok hX [0, 1] rfl (by decide) 0 rfl rfl rfl rfl hl.1 rfl (Nat.le_of_ble_eq_true rfl) dX0_ask_24 ⟨(Nat.le_of_ble_eq_true rfl), (Nat.le_of_ble_eq_true rfl)⟩) (fun u_7 H locs w_8 hP hD hS => ?_)
    obtain ⟨rnZ_5, faZ_6⟩ := u_7
    have hP : va_P D CL [(aa, .inr (0, [.ref a1, .int rnZ_5, .int sl, .int 1, .int vv])), (a1, .inl (cI, 20, .inl faZ_6))] H := hP
    have hD : va_D A [(aa, .inr (0, [.ref a1, .int rnZ_5, .int sl, .int 1, .int vv])), (a1, .inl (cI, 20, .inl faZ_6))] := hD
    refine lv_iload hx hb dX0_ask_27 (lv_at hl 5 rfl) ?_
    refine lv_iconst (v := 1) hx hb dX0_ask_29 (by decide) ?_
    refine lv_iadd hx hb dX0_ask_30 ?_
    refine lv_istore (lv' := [(6, .int (dp + (1 : Int32))), (5, .int 3), (0, .ref aa), (1, .int 1), (2, .int 2), (3, .int xx), (4, .int dp)]) hx hb dX0_ask_31 hl (by decide) rfl (fun ls hl => ?_)
    refine lv_iload hx hb dX0_ask_33 (lv_at hl 1 rfl) ?_
    refine lv_lookup (off := 106) (tgt := 141) hx hb dX0_ask_35 (by decide) (by decide) (by decide) ?_
    refine lv_aload_n hx hb dX0_ask_141 rfl (lv_at hl 2 rfl) ?_
    refine lv_aload_n hx hb dX0_ask_142 rfl (lv_at hl 2 rfl) ?_
    refine va_get (ci := 0) (v := .int 1) (C := RX0) (T := TX0) (N := 5) hx hb hT wu_X0 hown hK hP 0 rfl rfl 3 (by decide) (hT _ wf_X0_31) (fun _ h9 => h9) rfl dX0_ask_143 ?_
    refine lv_iconst (v := 1) hx hb dX0_ask_146 (by decide) ?_
    refine lv_iload_n hx hb dX0_ask_147 rfl (lv_at hl 5 rfl) ?_
    refine lv_iload hx hb dX0_ask_148 (lv_at hl 0 rfl) ?_
    refine contI (wc := [(aa, .inr (0, [.ref a1, .int rnZ_5, .int sl, .int 1, .int vv])), (a1, .inl (cI, 20, .inl faZ_6))]) (wr := []) C0 hP hD hS [0, 1] [] rfl rfl (by decide) (by decide) 0 0 (Nat.le_of_ble_eq_true rfl) (Nat.le_of_ble_eq_true rfl) (runV (k := 4) (As := [.int 1, .int 1, .int xx, .int (dp + (1 : Int32))]) (rest := []) C0 (c_ask_1_1_1 l D cI cZ cQ cT _ aa xx (dp + (1 : Int32)) a1 rnZ_5 sl vv faZ_6) wc_X0_ask wl_X0_38 wi_X0_ask we_X0_ask wz_X0 ⟨by decide, by decide, by decide +kernel⟩ ⟨(Nat.le_of_ble_eq_true rfl), (Nat.le_of_ble_eq_true rfl)⟩ hP hD hS EF.ok hX [0, 1] rfl (by decide) 0 rfl rfl rfl rfl hl.1 rfl (Nat.le_of_ble_eq_true rfl) dX0_ask_150 ⟨(Nat.le_of_ble_eq_true rfl), (Nat.le_of_ble_eq_true rfl)⟩) (fun r_14 u_12 H locs w_13 hP hD hS => ?_)
    obtain ⟨rnZ_10, faZ_11⟩ := u_12
    have hP : va_P D CL [(aa, .inr (0, [.ref a1, .int rnZ_10, .int sl, .int 1, .int vv])), (a1, .inl (cI, 20, .inl faZ_11))] H := hP
    have hD : va_D A [(aa, .inr (0, [.ref a1, .int rnZ_10, .int sl, .int 1, .int vv])), (a1, .inl (cI, 20, .inl faZ_11))] := hD
    refine lv_iconst (v := 2) hx hb dX0_ask_153 (by decide) ?_
    refine lv_imul hx hb dX0_ask_154 ?_
    exact retI C0 rfl (rnZ_10, faZ_11) trivial (hP.sub (ws' := [(aa, .inr (0, [.ref a1, .int rnZ_10, .int sl, .int 1, .int vv])), (a1, .inl (cI, 20, .inl faZ_11))]) [0, 1] rfl) (hD.sub (ws' := [(aa, .inr (0, [.ref a1, .int rnZ_10, .int sl, .int 1, .int vv])), (a1, .inl (cI, 20, .inl faZ_11))]) [0, 1] (by decide) rfl) hS (Nat.le_of_ble_eq_true rfl) (Nat.le_of_ble_eq_true rfl) dX0_ask_155
  · refine lv_iconst (v := 0) hx hb dX0_ask_19 (by decide) ?_
    exact retI C0 rfl (rn, fa) trivial (hP.sub (ws' := [(aa, .inr (0, [.ref a1, .int rn, .int sl, .int 1, .int vv])), (a1, .inl (cI, 20, .inl fa))]) [0, 1] rfl) (hD.sub (ws' := [(aa, .inr (0, [.ref a1, .int rn, .int sl, .int 1, .int vv])), (a1, .inl (cI, 20, .inl fa))]) [0, 1] (by decide) rfl) hS (Nat.le_of_ble_eq_true rfl) (Nat.le_of_ble_eq_true rfl) dX0_ask_20

set_option maxHeartbeats 4000000 in
set_option maxRecDepth 100000 in
theorem c_bodyOf_2_2 (l : Launch) (D : va_G) (cI cZ cQ cT : ClassId) (sz : Nat)   : MetI l yX0_bodyOf cX0_bodyOf 5 .int ({ frames := 0, cells := 0, slots := 0, locals := 0 } : Room) [.int 2, .int 2] D (TYS cI cZ cQ cT) EF sz [] (S := Unit) (fun (r : Int32) (_ : Unit) => r = 3) (fun _ => []) := by
  refine MetI.mk (lv := [(0, .int 2), (1, .int 2)]) (by decide +kernel) (Nat.le_of_ble_eq_true rfl) rfl ?_
  intro p e s m below meth c A ls C0 hP hD hS hX hl
  have C1 := C0
  obtain ⟨hx, hb, hr, hml, hown, hlocks, hname, hT, hN, hK, hA⟩ := C1
  obtain ⟨kab, hkz, hkT⟩ := hX.2.1
  obtain ⟨bdy, hbz, hbT⟩ := hX.2.2.1
  refine lv_iload_n hx hb dX0_bodyOf_0 rfl (lv_at hl 0 rfl) ?_
  refine lv_istore_n (lv' := [(2, .int 2), (0, .int 2), (1, .int 2)]) hx hb dX0_bodyOf_1 rfl hl (by decide) rfl (fun ls hl => ?_)
  refine lv_iconst (v := 0) hx hb dX0_bodyOf_2 (by decide) ?_
  refine lv_istore_n (lv' := [(3, .int 0), (2, .int 2), (0, .int 2), (1, .int 2)]) hx hb dX0_bodyOf_3 rfl hl (by decide) rfl (fun ls hl => ?_)
  refine lv_iload_n hx hb dX0_bodyOf_4 rfl (lv_at hl 0 rfl) ?_
  refine lv_bipush (v := 7) hx hb dX0_bodyOf_5 (by decide) ?_
  refine lv_icmp_ge (tgt := 69) hx hb dX0_bodyOf_7 (by decide) (fun c_0 => absurd c_0 (by decide)) (fun _ => ?_)
  refine lv_iload_n hx hb dX0_bodyOf_10 rfl (lv_at hl 1 rfl) ?_
  refine lv_if_lt (tgt := 69) hx hb dX0_bodyOf_11 (by decide) (fun c_0 => absurd c_0 (by decide)) (fun _ => ?_)
  refine lv_iload_n hx hb dX0_bodyOf_14 rfl (lv_at hl 1 rfl) ?_
  refine lv_bipush (v := 7) hx hb dX0_bodyOf_15 (by decide) ?_
  refine lv_icmp_ge (tgt := 69) hx hb dX0_bodyOf_17 (by decide) (fun c_0 => absurd c_0 (by decide)) (fun _ => ?_)
  refine lv_iload_n hx hb dX0_bodyOf_20 rfl (lv_at hl 1 rfl) ?_
  refine lv_iconst (v := 3) hx hb dX0_bodyOf_21 (by decide) ?_
  refine lv_imul hx hb dX0_bodyOf_22 ?_
  refine lv_ci 6 (by decide +kernel) ?_
  refine lv_iload_n hx hb dX0_bodyOf_23 rfl (lv_at hl 3 rfl) ?_
  refine lv_iadd hx hb dX0_bodyOf_24 ?_
  refine lv_ci 8 (by decide +kernel) ?_
  refine lv_istore (lv' := [(4, .int 8), (3, .int 0), (2, .int 2), (0, .int 2), (1, .int 2)]) hx hb dX0_bodyOf_25 hl (by decide) rfl (fun ls hl => ?_)
  refine lv_iload hx hb dX0_bodyOf_27 (lv_at hl 0 rfl) ?_
  refine lv_if_lt (tgt := 57) hx hb dX0_bodyOf_29 (by decide) (fun c_0 => absurd c_0 (by decide)) (fun _ => ?_)
  refine lv_iload hx hb dX0_bodyOf_32 (lv_at hl 0 rfl) ?_
  refine va_gets hx hb hbz hS hown (hT _ wf_X0_42) (fun _ h9 => h9) dX0_bodyOf_34 ?_
  refine va_tlen hx hb hbT hS (v := 21) rfl dX0_bodyOf_37 ?_
  refine lv_icmp_ge (tgt := 57) hx hb dX0_bodyOf_38 (by decide) (fun c_0 => absurd c_0 (by decide)) (fun _ => ?_)
  refine va_gets hx hb hbz hS hown (hT _ wf_X0_42) (fun _ h9 => h9) dX0_bodyOf_41 ?_
  refine lv_iload hx hb dX0_bodyOf_44 (lv_at hl 0 rfl) ?_
  refine va_ti hx hb hbT hS (vin _ _ (by decide +kernel)) (v := .int 0) rfl dX0_bodyOf_46 ?_
  refine lv_if_eq (tgt := 57) hx hb dX0_bodyOf_47 (by decide) (fun _ => ?_) (fun c_0 => absurd (by decide) c_0)
  refine va_getsN hx hb hkz hS hown (va_Nw.use rfl (hN.get 750 kf_X0_45 rfl)) (fun _ h9 => h9) dX0_bodyOf_57 ?_
  refine lv_iload_n hx hb dX0_bodyOf_60 rfl (lv_at hl 2 rfl) ?_
  refine va_ti hx hb hkT hS (vin _ _ (by decide +kernel)) (v := .int 0) rfl dX0_bodyOf_61 ?_
  refine lv_istore_n (lv' := [(2, .int 0), (4, .int 8), (3, .int 0), (0, .int 2), (1, .int 2)]) hx hb dX0_bodyOf_62 rfl hl (by decide) rfl (fun ls hl => ?_)
  refine lv_iinc (v := 1) (lv' := [(3, .int 1), (2, .int 0), (4, .int 8), (0, .int 2), (1, .int 2)]) hx hb dX0_bodyOf_63 hl (k := 2) rfl (by decide) (by decide) rfl (fun ls hl => ?_)
  refine lv_goto (tgt := 4) hx hb dX0_bodyOf_66 (by decide) ?_
  refine lv_iload_n hx hb dX0_bodyOf_4 rfl (lv_at hl 0 rfl) ?_
  refine lv_bipush (v := 7) hx hb dX0_bodyOf_5 (by decide) ?_
  refine lv_icmp_ge (tgt := 69) hx hb dX0_bodyOf_7 (by decide) (fun c_0 => absurd c_0 (by decide)) (fun _ => ?_)
  refine lv_iload_n hx hb dX0_bodyOf_10 rfl (lv_at hl 1 rfl) ?_
  refine lv_if_lt (tgt := 69) hx hb dX0_bodyOf_11 (by decide) (fun c_0 => absurd c_0 (by decide)) (fun _ => ?_)
  refine lv_iload_n hx hb dX0_bodyOf_14 rfl (lv_at hl 1 rfl) ?_
  refine lv_bipush (v := 7) hx hb dX0_bodyOf_15 (by decide) ?_
  refine lv_icmp_ge (tgt := 69) hx hb dX0_bodyOf_17 (by decide) (fun c_0 => absurd c_0 (by decide)) (fun _ => ?_)
  refine lv_iload_n hx hb dX0_bodyOf_20 rfl (lv_at hl 1 rfl) ?_
  refine lv_iconst (v := 3) hx hb dX0_bodyOf_21 (by decide) ?_
  refine lv_imul hx hb dX0_bodyOf_22 ?_
  refine lv_ci 0 (by decide +kernel) ?_
  refine lv_iload_n hx hb dX0_bodyOf_23 rfl (lv_at hl 4 rfl) ?_
  refine lv_iadd hx hb dX0_bodyOf_24 ?_
  refine lv_ci 2 (by decide +kernel) ?_
  refine lv_istore (lv' := [(4, .int 2), (3, .int 1), (2, .int 0), (0, .int 2), (1, .int 2)]) hx hb dX0_bodyOf_25 hl (by decide) rfl (fun ls hl => ?_)
  refine lv_iload hx hb dX0_bodyOf_27 (lv_at hl 0 rfl) ?_
  refine lv_if_lt (tgt := 57) hx hb dX0_bodyOf_29 (by decide) (fun c_0 => absurd c_0 (by decide)) (fun _ => ?_)
  refine lv_iload hx hb dX0_bodyOf_32 (lv_at hl 0 rfl) ?_
  refine va_gets hx hb hbz hS hown (hT _ wf_X0_42) (fun _ h9 => h9) dX0_bodyOf_34 ?_
  refine va_tlen hx hb hbT hS (v := 21) rfl dX0_bodyOf_37 ?_
  refine lv_icmp_ge (tgt := 57) hx hb dX0_bodyOf_38 (by decide) (fun c_0 => absurd c_0 (by decide)) (fun _ => ?_)
  refine va_gets hx hb hbz hS hown (hT _ wf_X0_42) (fun _ h9 => h9) dX0_bodyOf_41 ?_
  refine lv_iload hx hb dX0_bodyOf_44 (lv_at hl 0 rfl) ?_
  refine va_ti hx hb hbT hS (vin _ _ (by decide +kernel)) (v := .int 3) rfl dX0_bodyOf_46 ?_
  refine lv_if_eq (tgt := 57) hx hb dX0_bodyOf_47 (by decide) (fun c_0 => absurd c_0 (by decide)) (fun _ => ?_)
  refine va_gets hx hb hbz hS hown (hT _ wf_X0_42) (fun _ h9 => h9) dX0_bodyOf_50 ?_
  refine lv_iload hx hb dX0_bodyOf_53 (lv_at hl 0 rfl) ?_
  refine va_ti hx hb hbT hS (vin _ _ (by decide +kernel)) (v := .int 3) rfl dX0_bodyOf_55 ?_
  exact retI C0 rfl () rfl (hP.sub (ws' := []) [] rfl) (hD.sub (ws' := []) [] (by decide) rfl) hS (Nat.le_of_ble_eq_true rfl) (Nat.le_of_ble_eq_true rfl) dX0_bodyOf_56

set_option maxHeartbeats 4000000 in
set_option maxRecDepth 100000 in
theorem c_ask_2_2_2 (l : Launch) (D : va_G) (cI cZ cQ cT : ClassId) (sz : Nat) (aa : Nat) (xx : Int32) (dp : Int32) (a1 : Nat) (rn : Int32) (sl : Int32) (vv : Int32) (fa : Nat → Int32)  : MetI l yX0_ask cX0_ask 7 .int ({ frames := 4, cells := 0, slots := 0, locals := 102 } : Room) [.ref aa, .int 2, .int 2, .int xx, .int dp] D (TYS cI cZ cQ cT) EF sz [(aa, .inr (0, [.ref a1, .int rn, .int sl, .int 2, .int vv])), (a1, .inl (cI, 20, .inl fa))] (S := Int32 × (Nat → Int32)) (fun (r : Int32) (_ : Int32 × (Nat → Int32)) => True) (fun u => [(aa, .inr (0, [.ref a1, .int u.1, .int sl, .int 2, .int vv])), (a1, .inl (cI, 20, .inl u.2))]) := by
  refine MetI.mk (lv := [(0, .ref aa), (1, .int 2), (2, .int 2), (3, .int xx), (4, .int dp)]) (by decide +kernel) (Nat.le_of_ble_eq_true rfl) rfl ?_
  intro p e s m below meth c A ls C0 hP hD hS hX hl
  have C1 := C0
  obtain ⟨hx, hb, hr, hml, hown, hlocks, hname, hT, hN, hK, hA⟩ := C1
  refine lv_iload_n hx hb dX0_ask_0 rfl (lv_at hl 1 rfl) ?_
  refine lv_iload_n hx hb dX0_ask_1 rfl (lv_at hl 2 rfl) ?_
  refine contI (wc := []) (wr := [(aa, .inr (0, [.ref a1, .int rn, .int sl, .int 2, .int vv])), (a1, .inl (cI, 20, .inl fa))]) C0 hP hD hS [] [0, 1] rfl rfl (by decide) (by decide) 0 0 (Nat.le_of_ble_eq_true rfl) (Nat.le_of_ble_eq_true rfl) (runS (k := 2) (As := [.int 2, .int 2]) (rest := []) C0 (c_bodyOf_2_2 l D cI cZ cQ cT _ ) wc_X0_bodyOf wl_X0_48 wt_X0_bodyOf wz_X0 ⟨by decide, by decide, by decide +kernel⟩ ⟨(Nat.le_of_ble_eq_true rfl), (Nat.le_of_ble_eq_true rfl)⟩ hP hD hS EF.ok hX [] rfl (by decide) rfl hl.1 rfl (Nat.le_of_ble_eq_true rfl) dX0_ask_2 ⟨(Nat.le_of_ble_eq_true rfl), (Nat.le_of_ble_eq_true rfl)⟩) (fun r_3 u_1 H locs w_2 hP hD hS => ?_)
  have hP : va_P D CL [(aa, .inr (0, [.ref a1, .int rn, .int sl, .int 2, .int vv])), (a1, .inl (cI, 20, .inl fa))] H := hP
  have hD : va_D A [(aa, .inr (0, [.ref a1, .int rn, .int sl, .int 2, .int vv])), (a1, .inl (cI, 20, .inl fa))] := hD
  obtain rfl : r_3 = 3 := w_2
  refine lv_istore (lv' := [(5, .int 3), (0, .ref aa), (1, .int 2), (2, .int 2), (3, .int xx), (4, .int dp)]) hx hb dX0_ask_5 hl (by decide) rfl (fun ls hl => ?_)
  refine lv_iload hx hb dX0_ask_7 (lv_at hl 0 rfl) ?_
  refine lv_if_eq (tgt := 19) hx hb dX0_ask_9 (by decide) (fun c_0 => absurd c_0 (by decide)) (fun _ => ?_)
  refine lv_iload hx hb dX0_ask_12 (lv_at hl 5 rfl) ?_
  refine lv_bipush (v := 40) hx hb dX0_ask_14 (by decide) ?_
  refine lv_icmp_le (tgt := 21) hx hb dX0_ask_16 (by decide) (fun c_4 => ?_) (fun c_4 => ?_)
  · refine lv_aload_n hx hb dX0_ask_21 rfl (lv_at hl 1 rfl) ?_
    refine lv_iload hx hb dX0_ask_22 (lv_at hl 0 rfl) ?_
    refine contV (wc := [(aa, .inr (0, [.ref a1, .int rn, .int sl, .int 2, .int vv])), (a1, .inl (cI, 20, .inl fa))]) (wr := []) C0 hP hD hS [0, 1] [] rfl rfl (by decide) (by decide) 0 0 (Nat.le_of_ble_eq_true rfl) (Nat.le_of_ble_eq_true rfl) (runV (k := 1) (As := [.int 3]) (rest := []) C0 (c_begin l D cI cZ cQ cT _ aa 3 a1 rn sl 2 vv fa) wc_X0_begin wl_X0_52 wi_X0_begin we_X0_begin wz_X0 ⟨by decide, by decide, by decide +kernel⟩ ⟨(Nat.le_of_ble_eq_true rfl), (Nat.le_of_ble_eq_true rfl)⟩ hP hD hS EF.ok hX [0, 1] rfl (by decide) 0 rfl rfl rfl rfl hl.1 rfl (Nat.le_of_ble_eq_true rfl) dX0_ask_24 ⟨(Nat.le_of_ble_eq_true rfl), (Nat.le_of_ble_eq_true rfl)⟩) (fun u_7 H locs w_8 hP hD hS => ?_)
    obtain ⟨rnZ_5, faZ_6⟩ := u_7
    have hP : va_P D CL [(aa, .inr (0, [.ref a1, .int rnZ_5, .int sl, .int 2, .int vv])), (a1, .inl (cI, 20, .inl faZ_6))] H := hP
    have hD : va_D A [(aa, .inr (0, [.ref a1, .int rnZ_5, .int sl, .int 2, .int vv])), (a1, .inl (cI, 20, .inl faZ_6))] := hD
    refine lv_iload hx hb dX0_ask_27 (lv_at hl 5 rfl) ?_
    refine lv_iconst (v := 1) hx hb dX0_ask_29 (by decide) ?_
    refine lv_iadd hx hb dX0_ask_30 ?_
    refine lv_istore (lv' := [(6, .int (dp + (1 : Int32))), (5, .int 3), (0, .ref aa), (1, .int 2), (2, .int 2), (3, .int xx), (4, .int dp)]) hx hb dX0_ask_31 hl (by decide) rfl (fun ls hl => ?_)
    refine lv_iload hx hb dX0_ask_33 (lv_at hl 1 rfl) ?_
    refine lv_lookup (off := 106) (tgt := 141) hx hb dX0_ask_35 (by decide) (by decide) (by decide) ?_
    refine lv_aload_n hx hb dX0_ask_141 rfl (lv_at hl 2 rfl) ?_
    refine lv_aload_n hx hb dX0_ask_142 rfl (lv_at hl 2 rfl) ?_
    refine va_get (ci := 0) (v := .int 2) (C := RX0) (T := TX0) (N := 5) hx hb hT wu_X0 hown hK hP 0 rfl rfl 3 (by decide) (hT _ wf_X0_31) (fun _ h9 => h9) rfl dX0_ask_143 ?_
    refine lv_iconst (v := 1) hx hb dX0_ask_146 (by decide) ?_
    refine lv_iload_n hx hb dX0_ask_147 rfl (lv_at hl 5 rfl) ?_
    refine lv_iload hx hb dX0_ask_148 (lv_at hl 0 rfl) ?_
    refine contI (wc := [(aa, .inr (0, [.ref a1, .int rnZ_5, .int sl, .int 2, .int vv])), (a1, .inl (cI, 20, .inl faZ_6))]) (wr := []) C0 hP hD hS [0, 1] [] rfl rfl (by decide) (by decide) 0 0 (Nat.le_of_ble_eq_true rfl) (Nat.le_of_ble_eq_true rfl) (runV (k := 4) (As := [.int 2, .int 1, .int xx, .int (dp + (1 : Int32))]) (rest := []) C0 (c_ask_2_2_1 l D cI cZ cQ cT _ aa xx (dp + (1 : Int32)) a1 rnZ_5 sl vv faZ_6) wc_X0_ask wl_X0_38 wi_X0_ask we_X0_ask wz_X0 ⟨by decide, by decide, by decide +kernel⟩ ⟨(Nat.le_of_ble_eq_true rfl), (Nat.le_of_ble_eq_true rfl)⟩ hP hD hS EF.ok hX [0, 1] rfl (by decide) 0 rfl rfl rfl rfl hl.1 rfl (Nat.le_of_ble_eq_true rfl) dX0_ask_150 ⟨(Nat.le_of_ble_eq_true rfl), (Nat.le_of_ble_eq_true rfl)⟩) (fun r_14 u_12 H locs w_13 hP hD hS => ?_)
    obtain ⟨rnZ_10, faZ_11⟩ := u_12
    have hP : va_P D CL [(aa, .inr (0, [.ref a1, .int rnZ_10, .int sl, .int 2, .int vv])), (a1, .inl (cI, 20, .inl faZ_11))] H := hP
    have hD : va_D A [(aa, .inr (0, [.ref a1, .int rnZ_10, .int sl, .int 2, .int vv])), (a1, .inl (cI, 20, .inl faZ_11))] := hD
    refine lv_iconst (v := 2) hx hb dX0_ask_153 (by decide) ?_
    refine lv_imul hx hb dX0_ask_154 ?_
    exact retI C0 rfl (rnZ_10, faZ_11) trivial (hP.sub (ws' := [(aa, .inr (0, [.ref a1, .int rnZ_10, .int sl, .int 2, .int vv])), (a1, .inl (cI, 20, .inl faZ_11))]) [0, 1] rfl) (hD.sub (ws' := [(aa, .inr (0, [.ref a1, .int rnZ_10, .int sl, .int 2, .int vv])), (a1, .inl (cI, 20, .inl faZ_11))]) [0, 1] (by decide) rfl) hS (Nat.le_of_ble_eq_true rfl) (Nat.le_of_ble_eq_true rfl) dX0_ask_155
  · refine lv_iconst (v := 0) hx hb dX0_ask_19 (by decide) ?_
    exact retI C0 rfl (rn, fa) trivial (hP.sub (ws' := [(aa, .inr (0, [.ref a1, .int rn, .int sl, .int 2, .int vv])), (a1, .inl (cI, 20, .inl fa))]) [0, 1] rfl) (hD.sub (ws' := [(aa, .inr (0, [.ref a1, .int rn, .int sl, .int 2, .int vv])), (a1, .inl (cI, 20, .inl fa))]) [0, 1] (by decide) rfl) hS (Nat.le_of_ble_eq_true rfl) (Nat.le_of_ble_eq_true rfl) dX0_ask_20

set_option maxHeartbeats 4000000 in
set_option maxRecDepth 100000 in
theorem c_bodyOf_3_2 (l : Launch) (D : va_G) (cI cZ cQ cT : ClassId) (sz : Nat)   : MetI l yX0_bodyOf cX0_bodyOf 5 .int ({ frames := 0, cells := 0, slots := 0, locals := 0 } : Room) [.int 3, .int 2] D (TYS cI cZ cQ cT) EF sz [] (S := Unit) (fun (r : Int32) (_ : Unit) => r = 31) (fun _ => []) := by
  refine MetI.mk (lv := [(0, .int 3), (1, .int 2)]) (by decide +kernel) (Nat.le_of_ble_eq_true rfl) rfl ?_
  intro p e s m below meth c A ls C0 hP hD hS hX hl
  have C1 := C0
  obtain ⟨hx, hb, hr, hml, hown, hlocks, hname, hT, hN, hK, hA⟩ := C1
  obtain ⟨kab, hkz, hkT⟩ := hX.2.1
  obtain ⟨bdy, hbz, hbT⟩ := hX.2.2.1
  refine lv_iload_n hx hb dX0_bodyOf_0 rfl (lv_at hl 0 rfl) ?_
  refine lv_istore_n (lv' := [(2, .int 3), (0, .int 3), (1, .int 2)]) hx hb dX0_bodyOf_1 rfl hl (by decide) rfl (fun ls hl => ?_)
  refine lv_iconst (v := 0) hx hb dX0_bodyOf_2 (by decide) ?_
  refine lv_istore_n (lv' := [(3, .int 0), (2, .int 3), (0, .int 3), (1, .int 2)]) hx hb dX0_bodyOf_3 rfl hl (by decide) rfl (fun ls hl => ?_)
  refine lv_iload_n hx hb dX0_bodyOf_4 rfl (lv_at hl 0 rfl) ?_
  refine lv_bipush (v := 7) hx hb dX0_bodyOf_5 (by decide) ?_
  refine lv_icmp_ge (tgt := 69) hx hb dX0_bodyOf_7 (by decide) (fun c_0 => absurd c_0 (by decide)) (fun _ => ?_)
  refine lv_iload_n hx hb dX0_bodyOf_10 rfl (lv_at hl 1 rfl) ?_
  refine lv_if_lt (tgt := 69) hx hb dX0_bodyOf_11 (by decide) (fun c_0 => absurd c_0 (by decide)) (fun _ => ?_)
  refine lv_iload_n hx hb dX0_bodyOf_14 rfl (lv_at hl 1 rfl) ?_
  refine lv_bipush (v := 7) hx hb dX0_bodyOf_15 (by decide) ?_
  refine lv_icmp_ge (tgt := 69) hx hb dX0_bodyOf_17 (by decide) (fun c_0 => absurd c_0 (by decide)) (fun _ => ?_)
  refine lv_iload_n hx hb dX0_bodyOf_20 rfl (lv_at hl 1 rfl) ?_
  refine lv_iconst (v := 3) hx hb dX0_bodyOf_21 (by decide) ?_
  refine lv_imul hx hb dX0_bodyOf_22 ?_
  refine lv_ci 9 (by decide +kernel) ?_
  refine lv_iload_n hx hb dX0_bodyOf_23 rfl (lv_at hl 3 rfl) ?_
  refine lv_iadd hx hb dX0_bodyOf_24 ?_
  refine lv_ci 11 (by decide +kernel) ?_
  refine lv_istore (lv' := [(4, .int 11), (3, .int 0), (2, .int 3), (0, .int 3), (1, .int 2)]) hx hb dX0_bodyOf_25 hl (by decide) rfl (fun ls hl => ?_)
  refine lv_iload hx hb dX0_bodyOf_27 (lv_at hl 0 rfl) ?_
  refine lv_if_lt (tgt := 57) hx hb dX0_bodyOf_29 (by decide) (fun c_0 => absurd c_0 (by decide)) (fun _ => ?_)
  refine lv_iload hx hb dX0_bodyOf_32 (lv_at hl 0 rfl) ?_
  refine va_gets hx hb hbz hS hown (hT _ wf_X0_42) (fun _ h9 => h9) dX0_bodyOf_34 ?_
  refine va_tlen hx hb hbT hS (v := 21) rfl dX0_bodyOf_37 ?_
  refine lv_icmp_ge (tgt := 57) hx hb dX0_bodyOf_38 (by decide) (fun c_0 => absurd c_0 (by decide)) (fun _ => ?_)
  refine va_gets hx hb hbz hS hown (hT _ wf_X0_42) (fun _ h9 => h9) dX0_bodyOf_41 ?_
  refine lv_iload hx hb dX0_bodyOf_44 (lv_at hl 0 rfl) ?_
  refine va_ti hx hb hbT hS (vin _ _ (by decide +kernel)) (v := .int 31) rfl dX0_bodyOf_46 ?_
  refine lv_if_eq (tgt := 57) hx hb dX0_bodyOf_47 (by decide) (fun c_0 => absurd c_0 (by decide)) (fun _ => ?_)
  refine va_gets hx hb hbz hS hown (hT _ wf_X0_42) (fun _ h9 => h9) dX0_bodyOf_50 ?_
  refine lv_iload hx hb dX0_bodyOf_53 (lv_at hl 0 rfl) ?_
  refine va_ti hx hb hbT hS (vin _ _ (by decide +kernel)) (v := .int 31) rfl dX0_bodyOf_55 ?_
  exact retI C0 rfl () rfl (hP.sub (ws' := []) [] rfl) (hD.sub (ws' := []) [] (by decide) rfl) hS (Nat.le_of_ble_eq_true rfl) (Nat.le_of_ble_eq_true rfl) dX0_bodyOf_56

set_option maxHeartbeats 4000000 in
set_option maxRecDepth 100000 in
theorem c_ask_3_0_2 (l : Launch) (D : va_G) (cI cZ cQ cT : ClassId) (sz : Nat) (aa : Nat) (xx : Int32) (dp : Int32) (a1 : Nat) (rn : Int32) (sl : Int32) (vv : Int32) (fa : Nat → Int32)  : MetI l yX0_ask cX0_ask 7 .int ({ frames := 3, cells := 0, slots := 0, locals := 76 } : Room) [.ref aa, .int 0, .int 2, .int xx, .int dp] D (TYS cI cZ cQ cT) EF sz [(aa, .inr (0, [.ref a1, .int rn, .int sl, .int 3, .int vv])), (a1, .inl (cI, 20, .inl fa))] (S := Int32 × (Nat → Int32)) (fun (r : Int32) (_ : Int32 × (Nat → Int32)) => True) (fun u => [(aa, .inr (0, [.ref a1, .int u.1, .int sl, .int 3, .int vv])), (a1, .inl (cI, 20, .inl u.2))]) := by
  refine MetI.mk (lv := [(0, .ref aa), (1, .int 0), (2, .int 2), (3, .int xx), (4, .int dp)]) (by decide +kernel) (Nat.le_of_ble_eq_true rfl) rfl ?_
  intro p e s m below meth c A ls C0 hP hD hS hX hl
  have C1 := C0
  obtain ⟨hx, hb, hr, hml, hown, hlocks, hname, hT, hN, hK, hA⟩ := C1
  refine lv_iload_n hx hb dX0_ask_0 rfl (lv_at hl 1 rfl) ?_
  refine lv_iload_n hx hb dX0_ask_1 rfl (lv_at hl 2 rfl) ?_
  refine contI (wc := []) (wr := [(aa, .inr (0, [.ref a1, .int rn, .int sl, .int 3, .int vv])), (a1, .inl (cI, 20, .inl fa))]) C0 hP hD hS [] [0, 1] rfl rfl (by decide) (by decide) 0 0 (Nat.le_of_ble_eq_true rfl) (Nat.le_of_ble_eq_true rfl) (runS (k := 2) (As := [.int 0, .int 2]) (rest := []) C0 (c_bodyOf_0_2 l D cI cZ cQ cT _ ) wc_X0_bodyOf wl_X0_48 wt_X0_bodyOf wz_X0 ⟨by decide, by decide, by decide +kernel⟩ ⟨(Nat.le_of_ble_eq_true rfl), (Nat.le_of_ble_eq_true rfl)⟩ hP hD hS EF.ok hX [] rfl (by decide) rfl hl.1 rfl (Nat.le_of_ble_eq_true rfl) dX0_ask_2 ⟨(Nat.le_of_ble_eq_true rfl), (Nat.le_of_ble_eq_true rfl)⟩) (fun r_3 u_1 H locs w_2 hP hD hS => ?_)
  have hP : va_P D CL [(aa, .inr (0, [.ref a1, .int rn, .int sl, .int 3, .int vv])), (a1, .inl (cI, 20, .inl fa))] H := hP
  have hD : va_D A [(aa, .inr (0, [.ref a1, .int rn, .int sl, .int 3, .int vv])), (a1, .inl (cI, 20, .inl fa))] := hD
  obtain rfl : r_3 = 3 := w_2
  refine lv_istore (lv' := [(5, .int 3), (0, .ref aa), (1, .int 0), (2, .int 2), (3, .int xx), (4, .int dp)]) hx hb dX0_ask_5 hl (by decide) rfl (fun ls hl => ?_)
  refine lv_iload hx hb dX0_ask_7 (lv_at hl 0 rfl) ?_
  refine lv_if_eq (tgt := 19) hx hb dX0_ask_9 (by decide) (fun c_0 => absurd c_0 (by decide)) (fun _ => ?_)
  refine lv_iload hx hb dX0_ask_12 (lv_at hl 5 rfl) ?_
  refine lv_bipush (v := 40) hx hb dX0_ask_14 (by decide) ?_
  refine lv_icmp_le (tgt := 21) hx hb dX0_ask_16 (by decide) (fun c_4 => ?_) (fun c_4 => ?_)
  · refine lv_aload_n hx hb dX0_ask_21 rfl (lv_at hl 1 rfl) ?_
    refine lv_iload hx hb dX0_ask_22 (lv_at hl 0 rfl) ?_
    refine contV (wc := [(aa, .inr (0, [.ref a1, .int rn, .int sl, .int 3, .int vv])), (a1, .inl (cI, 20, .inl fa))]) (wr := []) C0 hP hD hS [0, 1] [] rfl rfl (by decide) (by decide) 0 0 (Nat.le_of_ble_eq_true rfl) (Nat.le_of_ble_eq_true rfl) (runV (k := 1) (As := [.int 3]) (rest := []) C0 (c_begin l D cI cZ cQ cT _ aa 3 a1 rn sl 3 vv fa) wc_X0_begin wl_X0_52 wi_X0_begin we_X0_begin wz_X0 ⟨by decide, by decide, by decide +kernel⟩ ⟨(Nat.le_of_ble_eq_true rfl), (Nat.le_of_ble_eq_true rfl)⟩ hP hD hS EF.ok hX [0, 1] rfl (by decide) 0 rfl rfl rfl rfl hl.1 rfl (Nat.le_of_ble_eq_true rfl) dX0_ask_24 ⟨(Nat.le_of_ble_eq_true rfl), (Nat.le_of_ble_eq_true rfl)⟩) (fun u_7 H locs w_8 hP hD hS => ?_)
    obtain ⟨rnZ_5, faZ_6⟩ := u_7
    have hP : va_P D CL [(aa, .inr (0, [.ref a1, .int rnZ_5, .int sl, .int 3, .int vv])), (a1, .inl (cI, 20, .inl faZ_6))] H := hP
    have hD : va_D A [(aa, .inr (0, [.ref a1, .int rnZ_5, .int sl, .int 3, .int vv])), (a1, .inl (cI, 20, .inl faZ_6))] := hD
    refine lv_iload hx hb dX0_ask_27 (lv_at hl 5 rfl) ?_
    refine lv_iconst (v := 1) hx hb dX0_ask_29 (by decide) ?_
    refine lv_iadd hx hb dX0_ask_30 ?_
    refine lv_istore (lv' := [(6, .int (dp + (1 : Int32))), (5, .int 3), (0, .ref aa), (1, .int 0), (2, .int 2), (3, .int xx), (4, .int dp)]) hx hb dX0_ask_31 hl (by decide) rfl (fun ls hl => ?_)
    refine lv_iload hx hb dX0_ask_33 (lv_at hl 1 rfl) ?_
    refine lv_lookup (off := 106) (tgt := 141) hx hb dX0_ask_35 (by decide) (by decide) (by decide) ?_
    refine lv_aload_n hx hb dX0_ask_141 rfl (lv_at hl 2 rfl) ?_
    refine lv_aload_n hx hb dX0_ask_142 rfl (lv_at hl 2 rfl) ?_
    refine va_get (ci := 0) (v := .int 3) (C := RX0) (T := TX0) (N := 5) hx hb hT wu_X0 hown hK hP 0 rfl rfl 3 (by decide) (hT _ wf_X0_31) (fun _ h9 => h9) rfl dX0_ask_143 ?_
    refine lv_iconst (v := 1) hx hb dX0_ask_146 (by decide) ?_
    refine lv_iload_n hx hb dX0_ask_147 rfl (lv_at hl 5 rfl) ?_
    refine lv_iload hx hb dX0_ask_148 (lv_at hl 0 rfl) ?_
    refine contI (wc := [(aa, .inr (0, [.ref a1, .int rnZ_5, .int sl, .int 3, .int vv])), (a1, .inl (cI, 20, .inl faZ_6))]) (wr := []) C0 hP hD hS [0, 1] [] rfl rfl (by decide) (by decide) 0 0 (Nat.le_of_ble_eq_true rfl) (Nat.le_of_ble_eq_true rfl) (runV (k := 4) (As := [.int 3, .int 1, .int xx, .int (dp + (1 : Int32))]) (rest := []) C0 (c_ask_3_3_1 l D cI cZ cQ cT _ aa xx (dp + (1 : Int32)) a1 rnZ_5 sl vv faZ_6) wc_X0_ask wl_X0_38 wi_X0_ask we_X0_ask wz_X0 ⟨by decide, by decide, by decide +kernel⟩ ⟨(Nat.le_of_ble_eq_true rfl), (Nat.le_of_ble_eq_true rfl)⟩ hP hD hS EF.ok hX [0, 1] rfl (by decide) 0 rfl rfl rfl rfl hl.1 rfl (Nat.le_of_ble_eq_true rfl) dX0_ask_150 ⟨(Nat.le_of_ble_eq_true rfl), (Nat.le_of_ble_eq_true rfl)⟩) (fun r_14 u_12 H locs w_13 hP hD hS => ?_)
    obtain ⟨rnZ_10, faZ_11⟩ := u_12
    have hP : va_P D CL [(aa, .inr (0, [.ref a1, .int rnZ_10, .int sl, .int 3, .int vv])), (a1, .inl (cI, 20, .inl faZ_11))] H := hP
    have hD : va_D A [(aa, .inr (0, [.ref a1, .int rnZ_10, .int sl, .int 3, .int vv])), (a1, .inl (cI, 20, .inl faZ_11))] := hD
    refine lv_iconst (v := 2) hx hb dX0_ask_153 (by decide) ?_
    refine lv_imul hx hb dX0_ask_154 ?_
    exact retI C0 rfl (rnZ_10, faZ_11) trivial (hP.sub (ws' := [(aa, .inr (0, [.ref a1, .int rnZ_10, .int sl, .int 3, .int vv])), (a1, .inl (cI, 20, .inl faZ_11))]) [0, 1] rfl) (hD.sub (ws' := [(aa, .inr (0, [.ref a1, .int rnZ_10, .int sl, .int 3, .int vv])), (a1, .inl (cI, 20, .inl faZ_11))]) [0, 1] (by decide) rfl) hS (Nat.le_of_ble_eq_true rfl) (Nat.le_of_ble_eq_true rfl) dX0_ask_155
  · refine lv_iconst (v := 0) hx hb dX0_ask_19 (by decide) ?_
    exact retI C0 rfl (rn, fa) trivial (hP.sub (ws' := [(aa, .inr (0, [.ref a1, .int rn, .int sl, .int 3, .int vv])), (a1, .inl (cI, 20, .inl fa))]) [0, 1] rfl) (hD.sub (ws' := [(aa, .inr (0, [.ref a1, .int rn, .int sl, .int 3, .int vv])), (a1, .inl (cI, 20, .inl fa))]) [0, 1] (by decide) rfl) hS (Nat.le_of_ble_eq_true rfl) (Nat.le_of_ble_eq_true rfl) dX0_ask_20

set_option maxHeartbeats 4000000 in
set_option maxRecDepth 100000 in
theorem c_ask_3_3_2 (l : Launch) (D : va_G) (cI cZ cQ cT : ClassId) (sz : Nat) (aa : Nat) (xx : Int32) (dp : Int32) (a1 : Nat) (rn : Int32) (sl : Int32) (vv : Int32) (fa : Nat → Int32)  : MetI l yX0_ask cX0_ask 7 .int ({ frames := 4, cells := 0, slots := 0, locals := 102 } : Room) [.ref aa, .int 3, .int 2, .int xx, .int dp] D (TYS cI cZ cQ cT) EF sz [(aa, .inr (0, [.ref a1, .int rn, .int sl, .int 3, .int vv])), (a1, .inl (cI, 20, .inl fa))] (S := Int32 × (Nat → Int32)) (fun (r : Int32) (_ : Int32 × (Nat → Int32)) => True) (fun u => [(aa, .inr (0, [.ref a1, .int u.1, .int sl, .int 3, .int vv])), (a1, .inl (cI, 20, .inl u.2))]) := by
  refine MetI.mk (lv := [(0, .ref aa), (1, .int 3), (2, .int 2), (3, .int xx), (4, .int dp)]) (by decide +kernel) (Nat.le_of_ble_eq_true rfl) rfl ?_
  intro p e s m below meth c A ls C0 hP hD hS hX hl
  have C1 := C0
  obtain ⟨hx, hb, hr, hml, hown, hlocks, hname, hT, hN, hK, hA⟩ := C1
  refine lv_iload_n hx hb dX0_ask_0 rfl (lv_at hl 1 rfl) ?_
  refine lv_iload_n hx hb dX0_ask_1 rfl (lv_at hl 2 rfl) ?_
  refine contI (wc := []) (wr := [(aa, .inr (0, [.ref a1, .int rn, .int sl, .int 3, .int vv])), (a1, .inl (cI, 20, .inl fa))]) C0 hP hD hS [] [0, 1] rfl rfl (by decide) (by decide) 0 0 (Nat.le_of_ble_eq_true rfl) (Nat.le_of_ble_eq_true rfl) (runS (k := 2) (As := [.int 3, .int 2]) (rest := []) C0 (c_bodyOf_3_2 l D cI cZ cQ cT _ ) wc_X0_bodyOf wl_X0_48 wt_X0_bodyOf wz_X0 ⟨by decide, by decide, by decide +kernel⟩ ⟨(Nat.le_of_ble_eq_true rfl), (Nat.le_of_ble_eq_true rfl)⟩ hP hD hS EF.ok hX [] rfl (by decide) rfl hl.1 rfl (Nat.le_of_ble_eq_true rfl) dX0_ask_2 ⟨(Nat.le_of_ble_eq_true rfl), (Nat.le_of_ble_eq_true rfl)⟩) (fun r_3 u_1 H locs w_2 hP hD hS => ?_)
  have hP : va_P D CL [(aa, .inr (0, [.ref a1, .int rn, .int sl, .int 3, .int vv])), (a1, .inl (cI, 20, .inl fa))] H := hP
  have hD : va_D A [(aa, .inr (0, [.ref a1, .int rn, .int sl, .int 3, .int vv])), (a1, .inl (cI, 20, .inl fa))] := hD
  obtain rfl : r_3 = 31 := w_2
  refine lv_istore (lv' := [(5, .int 31), (0, .ref aa), (1, .int 3), (2, .int 2), (3, .int xx), (4, .int dp)]) hx hb dX0_ask_5 hl (by decide) rfl (fun ls hl => ?_)
  refine lv_iload hx hb dX0_ask_7 (lv_at hl 0 rfl) ?_
  refine lv_if_eq (tgt := 19) hx hb dX0_ask_9 (by decide) (fun c_0 => absurd c_0 (by decide)) (fun _ => ?_)
  refine lv_iload hx hb dX0_ask_12 (lv_at hl 5 rfl) ?_
  refine lv_bipush (v := 40) hx hb dX0_ask_14 (by decide) ?_
  refine lv_icmp_le (tgt := 21) hx hb dX0_ask_16 (by decide) (fun c_4 => ?_) (fun c_4 => ?_)
  · refine lv_aload_n hx hb dX0_ask_21 rfl (lv_at hl 1 rfl) ?_
    refine lv_iload hx hb dX0_ask_22 (lv_at hl 0 rfl) ?_
    refine contV (wc := [(aa, .inr (0, [.ref a1, .int rn, .int sl, .int 3, .int vv])), (a1, .inl (cI, 20, .inl fa))]) (wr := []) C0 hP hD hS [0, 1] [] rfl rfl (by decide) (by decide) 0 0 (Nat.le_of_ble_eq_true rfl) (Nat.le_of_ble_eq_true rfl) (runV (k := 1) (As := [.int 31]) (rest := []) C0 (c_begin l D cI cZ cQ cT _ aa 31 a1 rn sl 3 vv fa) wc_X0_begin wl_X0_52 wi_X0_begin we_X0_begin wz_X0 ⟨by decide, by decide, by decide +kernel⟩ ⟨(Nat.le_of_ble_eq_true rfl), (Nat.le_of_ble_eq_true rfl)⟩ hP hD hS EF.ok hX [0, 1] rfl (by decide) 0 rfl rfl rfl rfl hl.1 rfl (Nat.le_of_ble_eq_true rfl) dX0_ask_24 ⟨(Nat.le_of_ble_eq_true rfl), (Nat.le_of_ble_eq_true rfl)⟩) (fun u_7 H locs w_8 hP hD hS => ?_)
    obtain ⟨rnZ_5, faZ_6⟩ := u_7
    have hP : va_P D CL [(aa, .inr (0, [.ref a1, .int rnZ_5, .int sl, .int 3, .int vv])), (a1, .inl (cI, 20, .inl faZ_6))] H := hP
    have hD : va_D A [(aa, .inr (0, [.ref a1, .int rnZ_5, .int sl, .int 3, .int vv])), (a1, .inl (cI, 20, .inl faZ_6))] := hD
    refine lv_iload hx hb dX0_ask_27 (lv_at hl 5 rfl) ?_
    refine lv_iconst (v := 1) hx hb dX0_ask_29 (by decide) ?_
    refine lv_iadd hx hb dX0_ask_30 ?_
    refine lv_istore (lv' := [(6, .int (dp + (1 : Int32))), (5, .int 31), (0, .ref aa), (1, .int 3), (2, .int 2), (3, .int xx), (4, .int dp)]) hx hb dX0_ask_31 hl (by decide) rfl (fun ls hl => ?_)
    refine lv_iload hx hb dX0_ask_33 (lv_at hl 1 rfl) ?_
    refine lv_lookup (off := 144) (tgt := 179) hx hb dX0_ask_35 (by decide) (by decide) (by decide) ?_
    refine lv_aload_n hx hb dX0_ask_179 rfl (lv_at hl 2 rfl) ?_
    refine lv_iconst (v := 0) hx hb dX0_ask_180 (by decide) ?_
    refine lv_iconst (v := 2) hx hb dX0_ask_181 (by decide) ?_
    refine lv_iload_n hx hb dX0_ask_182 rfl (lv_at hl 5 rfl) ?_
    refine lv_iload hx hb dX0_ask_183 (lv_at hl 0 rfl) ?_
    refine contI (wc := [(aa, .inr (0, [.ref a1, .int rnZ_5, .int sl, .int 3, .int vv])), (a1, .inl (cI, 20, .inl faZ_6))]) (wr := []) C0 hP hD hS [0, 1] [] rfl rfl (by decide) (by decide) 0 0 (Nat.le_of_ble_eq_true rfl) (Nat.le_of_ble_eq_true rfl) (runV (k := 4) (As := [.int 0, .int 2, .int xx, .int (dp + (1 : Int32))]) (rest := []) C0 (c_ask_3_0_2 l D cI cZ cQ cT _ aa xx (dp + (1 : Int32)) a1 rnZ_5 sl vv faZ_6) wc_X0_ask wl_X0_38 wi_X0_ask we_X0_ask wz_X0 ⟨by decide, by decide, by decide +kernel⟩ ⟨(Nat.le_of_ble_eq_true rfl), (Nat.le_of_ble_eq_true rfl)⟩ hP hD hS EF.ok hX [0, 1] rfl (by decide) 0 rfl rfl rfl rfl hl.1 rfl (Nat.le_of_ble_eq_true rfl) dX0_ask_185 ⟨(Nat.le_of_ble_eq_true rfl), (Nat.le_of_ble_eq_true rfl)⟩) (fun r_14 u_12 H locs w_13 hP hD hS => ?_)
    obtain ⟨rnZ_10, faZ_11⟩ := u_12
    have hP : va_P D CL [(aa, .inr (0, [.ref a1, .int rnZ_10, .int sl, .int 3, .int vv])), (a1, .inl (cI, 20, .inl faZ_11))] H := hP
    have hD : va_D A [(aa, .inr (0, [.ref a1, .int rnZ_10, .int sl, .int 3, .int vv])), (a1, .inl (cI, 20, .inl faZ_11))] := hD
    refine lv_bipush (v := 7) hx hb dX0_ask_188 (by decide) ?_
    refine lv_ixor hx hb dX0_ask_190 ?_
    exact retI C0 rfl (rnZ_10, faZ_11) trivial (hP.sub (ws' := [(aa, .inr (0, [.ref a1, .int rnZ_10, .int sl, .int 3, .int vv])), (a1, .inl (cI, 20, .inl faZ_11))]) [0, 1] rfl) (hD.sub (ws' := [(aa, .inr (0, [.ref a1, .int rnZ_10, .int sl, .int 3, .int vv])), (a1, .inl (cI, 20, .inl faZ_11))]) [0, 1] (by decide) rfl) hS (Nat.le_of_ble_eq_true rfl) (Nat.le_of_ble_eq_true rfl) dX0_ask_191
  · refine lv_iconst (v := 0) hx hb dX0_ask_19 (by decide) ?_
    exact retI C0 rfl (rn, fa) trivial (hP.sub (ws' := [(aa, .inr (0, [.ref a1, .int rn, .int sl, .int 3, .int vv])), (a1, .inl (cI, 20, .inl fa))]) [0, 1] rfl) (hD.sub (ws' := [(aa, .inr (0, [.ref a1, .int rn, .int sl, .int 3, .int vv])), (a1, .inl (cI, 20, .inl fa))]) [0, 1] (by decide) rfl) hS (Nat.le_of_ble_eq_true rfl) (Nat.le_of_ble_eq_true rfl) dX0_ask_20

set_option maxHeartbeats 4000000 in
set_option maxRecDepth 100000 in
theorem c_bodyOf_4_2 (l : Launch) (D : va_G) (cI cZ cQ cT : ClassId) (sz : Nat)   : MetI l yX0_bodyOf cX0_bodyOf 5 .int ({ frames := 0, cells := 0, slots := 0, locals := 0 } : Room) [.int 4, .int 2] D (TYS cI cZ cQ cT) EF sz [] (S := Unit) (fun (r : Int32) (_ : Unit) => r = 41) (fun _ => []) := by
  refine MetI.mk (lv := [(0, .int 4), (1, .int 2)]) (by decide +kernel) (Nat.le_of_ble_eq_true rfl) rfl ?_
  intro p e s m below meth c A ls C0 hP hD hS hX hl
  have C1 := C0
  obtain ⟨hx, hb, hr, hml, hown, hlocks, hname, hT, hN, hK, hA⟩ := C1
  obtain ⟨kab, hkz, hkT⟩ := hX.2.1
  obtain ⟨bdy, hbz, hbT⟩ := hX.2.2.1
  refine lv_iload_n hx hb dX0_bodyOf_0 rfl (lv_at hl 0 rfl) ?_
  refine lv_istore_n (lv' := [(2, .int 4), (0, .int 4), (1, .int 2)]) hx hb dX0_bodyOf_1 rfl hl (by decide) rfl (fun ls hl => ?_)
  refine lv_iconst (v := 0) hx hb dX0_bodyOf_2 (by decide) ?_
  refine lv_istore_n (lv' := [(3, .int 0), (2, .int 4), (0, .int 4), (1, .int 2)]) hx hb dX0_bodyOf_3 rfl hl (by decide) rfl (fun ls hl => ?_)
  refine lv_iload_n hx hb dX0_bodyOf_4 rfl (lv_at hl 0 rfl) ?_
  refine lv_bipush (v := 7) hx hb dX0_bodyOf_5 (by decide) ?_
  refine lv_icmp_ge (tgt := 69) hx hb dX0_bodyOf_7 (by decide) (fun c_0 => absurd c_0 (by decide)) (fun _ => ?_)
  refine lv_iload_n hx hb dX0_bodyOf_10 rfl (lv_at hl 1 rfl) ?_
  refine lv_if_lt (tgt := 69) hx hb dX0_bodyOf_11 (by decide) (fun c_0 => absurd c_0 (by decide)) (fun _ => ?_)
  refine lv_iload_n hx hb dX0_bodyOf_14 rfl (lv_at hl 1 rfl) ?_
  refine lv_bipush (v := 7) hx hb dX0_bodyOf_15 (by decide) ?_
  refine lv_icmp_ge (tgt := 69) hx hb dX0_bodyOf_17 (by decide) (fun c_0 => absurd c_0 (by decide)) (fun _ => ?_)
  refine lv_iload_n hx hb dX0_bodyOf_20 rfl (lv_at hl 1 rfl) ?_
  refine lv_iconst (v := 3) hx hb dX0_bodyOf_21 (by decide) ?_
  refine lv_imul hx hb dX0_bodyOf_22 ?_
  refine lv_ci 12 (by decide +kernel) ?_
  refine lv_iload_n hx hb dX0_bodyOf_23 rfl (lv_at hl 3 rfl) ?_
  refine lv_iadd hx hb dX0_bodyOf_24 ?_
  refine lv_ci 14 (by decide +kernel) ?_
  refine lv_istore (lv' := [(4, .int 14), (3, .int 0), (2, .int 4), (0, .int 4), (1, .int 2)]) hx hb dX0_bodyOf_25 hl (by decide) rfl (fun ls hl => ?_)
  refine lv_iload hx hb dX0_bodyOf_27 (lv_at hl 0 rfl) ?_
  refine lv_if_lt (tgt := 57) hx hb dX0_bodyOf_29 (by decide) (fun c_0 => absurd c_0 (by decide)) (fun _ => ?_)
  refine lv_iload hx hb dX0_bodyOf_32 (lv_at hl 0 rfl) ?_
  refine va_gets hx hb hbz hS hown (hT _ wf_X0_42) (fun _ h9 => h9) dX0_bodyOf_34 ?_
  refine va_tlen hx hb hbT hS (v := 21) rfl dX0_bodyOf_37 ?_
  refine lv_icmp_ge (tgt := 57) hx hb dX0_bodyOf_38 (by decide) (fun c_0 => absurd c_0 (by decide)) (fun _ => ?_)
  refine va_gets hx hb hbz hS hown (hT _ wf_X0_42) (fun _ h9 => h9) dX0_bodyOf_41 ?_
  refine lv_iload hx hb dX0_bodyOf_44 (lv_at hl 0 rfl) ?_
  refine va_ti hx hb hbT hS (vin _ _ (by decide +kernel)) (v := .int 41) rfl dX0_bodyOf_46 ?_
  refine lv_if_eq (tgt := 57) hx hb dX0_bodyOf_47 (by decide) (fun c_0 => absurd c_0 (by decide)) (fun _ => ?_)
  refine va_gets hx hb hbz hS hown (hT _ wf_X0_42) (fun _ h9 => h9) dX0_bodyOf_50 ?_
  refine lv_iload hx hb dX0_bodyOf_53 (lv_at hl 0 rfl) ?_
  refine va_ti hx hb hbT hS (vin _ _ (by decide +kernel)) (v := .int 41) rfl dX0_bodyOf_55 ?_
  exact retI C0 rfl () rfl (hP.sub (ws' := []) [] rfl) (hD.sub (ws' := []) [] (by decide) rfl) hS (Nat.le_of_ble_eq_true rfl) (Nat.le_of_ble_eq_true rfl) dX0_bodyOf_56

set_option maxHeartbeats 4000000 in
set_option maxRecDepth 100000 in
theorem c_ask_4_2_2 (l : Launch) (D : va_G) (cI cZ cQ cT : ClassId) (sz : Nat) (aa : Nat) (xx : Int32) (dp : Int32) (a1 : Nat) (rn : Int32) (sl : Int32) (vv : Int32) (fa : Nat → Int32)  : MetI l yX0_ask cX0_ask 7 .int ({ frames := 4, cells := 0, slots := 0, locals := 102 } : Room) [.ref aa, .int 2, .int 2, .int xx, .int dp] D (TYS cI cZ cQ cT) EF sz [(aa, .inr (0, [.ref a1, .int rn, .int sl, .int 4, .int vv])), (a1, .inl (cI, 20, .inl fa))] (S := Int32 × (Nat → Int32)) (fun (r : Int32) (_ : Int32 × (Nat → Int32)) => True) (fun u => [(aa, .inr (0, [.ref a1, .int u.1, .int sl, .int 4, .int vv])), (a1, .inl (cI, 20, .inl u.2))]) := by
  refine MetI.mk (lv := [(0, .ref aa), (1, .int 2), (2, .int 2), (3, .int xx), (4, .int dp)]) (by decide +kernel) (Nat.le_of_ble_eq_true rfl) rfl ?_
  intro p e s m below meth c A ls C0 hP hD hS hX hl
  have C1 := C0
  obtain ⟨hx, hb, hr, hml, hown, hlocks, hname, hT, hN, hK, hA⟩ := C1
  refine lv_iload_n hx hb dX0_ask_0 rfl (lv_at hl 1 rfl) ?_
  refine lv_iload_n hx hb dX0_ask_1 rfl (lv_at hl 2 rfl) ?_
  refine contI (wc := []) (wr := [(aa, .inr (0, [.ref a1, .int rn, .int sl, .int 4, .int vv])), (a1, .inl (cI, 20, .inl fa))]) C0 hP hD hS [] [0, 1] rfl rfl (by decide) (by decide) 0 0 (Nat.le_of_ble_eq_true rfl) (Nat.le_of_ble_eq_true rfl) (runS (k := 2) (As := [.int 2, .int 2]) (rest := []) C0 (c_bodyOf_2_2 l D cI cZ cQ cT _ ) wc_X0_bodyOf wl_X0_48 wt_X0_bodyOf wz_X0 ⟨by decide, by decide, by decide +kernel⟩ ⟨(Nat.le_of_ble_eq_true rfl), (Nat.le_of_ble_eq_true rfl)⟩ hP hD hS EF.ok hX [] rfl (by decide) rfl hl.1 rfl (Nat.le_of_ble_eq_true rfl) dX0_ask_2 ⟨(Nat.le_of_ble_eq_true rfl), (Nat.le_of_ble_eq_true rfl)⟩) (fun r_3 u_1 H locs w_2 hP hD hS => ?_)
  have hP : va_P D CL [(aa, .inr (0, [.ref a1, .int rn, .int sl, .int 4, .int vv])), (a1, .inl (cI, 20, .inl fa))] H := hP
  have hD : va_D A [(aa, .inr (0, [.ref a1, .int rn, .int sl, .int 4, .int vv])), (a1, .inl (cI, 20, .inl fa))] := hD
  obtain rfl : r_3 = 3 := w_2
  refine lv_istore (lv' := [(5, .int 3), (0, .ref aa), (1, .int 2), (2, .int 2), (3, .int xx), (4, .int dp)]) hx hb dX0_ask_5 hl (by decide) rfl (fun ls hl => ?_)
  refine lv_iload hx hb dX0_ask_7 (lv_at hl 0 rfl) ?_
  refine lv_if_eq (tgt := 19) hx hb dX0_ask_9 (by decide) (fun c_0 => absurd c_0 (by decide)) (fun _ => ?_)
  refine lv_iload hx hb dX0_ask_12 (lv_at hl 5 rfl) ?_
  refine lv_bipush (v := 40) hx hb dX0_ask_14 (by decide) ?_
  refine lv_icmp_le (tgt := 21) hx hb dX0_ask_16 (by decide) (fun c_4 => ?_) (fun c_4 => ?_)
  · refine lv_aload_n hx hb dX0_ask_21 rfl (lv_at hl 1 rfl) ?_
    refine lv_iload hx hb dX0_ask_22 (lv_at hl 0 rfl) ?_
    refine contV (wc := [(aa, .inr (0, [.ref a1, .int rn, .int sl, .int 4, .int vv])), (a1, .inl (cI, 20, .inl fa))]) (wr := []) C0 hP hD hS [0, 1] [] rfl rfl (by decide) (by decide) 0 0 (Nat.le_of_ble_eq_true rfl) (Nat.le_of_ble_eq_true rfl) (runV (k := 1) (As := [.int 3]) (rest := []) C0 (c_begin l D cI cZ cQ cT _ aa 3 a1 rn sl 4 vv fa) wc_X0_begin wl_X0_52 wi_X0_begin we_X0_begin wz_X0 ⟨by decide, by decide, by decide +kernel⟩ ⟨(Nat.le_of_ble_eq_true rfl), (Nat.le_of_ble_eq_true rfl)⟩ hP hD hS EF.ok hX [0, 1] rfl (by decide) 0 rfl rfl rfl rfl hl.1 rfl (Nat.le_of_ble_eq_true rfl) dX0_ask_24 ⟨(Nat.le_of_ble_eq_true rfl), (Nat.le_of_ble_eq_true rfl)⟩) (fun u_7 H locs w_8 hP hD hS => ?_)
    obtain ⟨rnZ_5, faZ_6⟩ := u_7
    have hP : va_P D CL [(aa, .inr (0, [.ref a1, .int rnZ_5, .int sl, .int 4, .int vv])), (a1, .inl (cI, 20, .inl faZ_6))] H := hP
    have hD : va_D A [(aa, .inr (0, [.ref a1, .int rnZ_5, .int sl, .int 4, .int vv])), (a1, .inl (cI, 20, .inl faZ_6))] := hD
    refine lv_iload hx hb dX0_ask_27 (lv_at hl 5 rfl) ?_
    refine lv_iconst (v := 1) hx hb dX0_ask_29 (by decide) ?_
    refine lv_iadd hx hb dX0_ask_30 ?_
    refine lv_istore (lv' := [(6, .int (dp + (1 : Int32))), (5, .int 3), (0, .ref aa), (1, .int 2), (2, .int 2), (3, .int xx), (4, .int dp)]) hx hb dX0_ask_31 hl (by decide) rfl (fun ls hl => ?_)
    refine lv_iload hx hb dX0_ask_33 (lv_at hl 1 rfl) ?_
    refine lv_lookup (off := 106) (tgt := 141) hx hb dX0_ask_35 (by decide) (by decide) (by decide) ?_
    refine lv_aload_n hx hb dX0_ask_141 rfl (lv_at hl 2 rfl) ?_
    refine lv_aload_n hx hb dX0_ask_142 rfl (lv_at hl 2 rfl) ?_
    refine va_get (ci := 0) (v := .int 4) (C := RX0) (T := TX0) (N := 5) hx hb hT wu_X0 hown hK hP 0 rfl rfl 3 (by decide) (hT _ wf_X0_31) (fun _ h9 => h9) rfl dX0_ask_143 ?_
    refine lv_iconst (v := 1) hx hb dX0_ask_146 (by decide) ?_
    refine lv_iload_n hx hb dX0_ask_147 rfl (lv_at hl 5 rfl) ?_
    refine lv_iload hx hb dX0_ask_148 (lv_at hl 0 rfl) ?_
    refine contI (wc := [(aa, .inr (0, [.ref a1, .int rnZ_5, .int sl, .int 4, .int vv])), (a1, .inl (cI, 20, .inl faZ_6))]) (wr := []) C0 hP hD hS [0, 1] [] rfl rfl (by decide) (by decide) 0 0 (Nat.le_of_ble_eq_true rfl) (Nat.le_of_ble_eq_true rfl) (runV (k := 4) (As := [.int 4, .int 1, .int xx, .int (dp + (1 : Int32))]) (rest := []) C0 (c_ask_4_4_1 l D cI cZ cQ cT _ aa xx (dp + (1 : Int32)) a1 rnZ_5 sl vv faZ_6) wc_X0_ask wl_X0_38 wi_X0_ask we_X0_ask wz_X0 ⟨by decide, by decide, by decide +kernel⟩ ⟨(Nat.le_of_ble_eq_true rfl), (Nat.le_of_ble_eq_true rfl)⟩ hP hD hS EF.ok hX [0, 1] rfl (by decide) 0 rfl rfl rfl rfl hl.1 rfl (Nat.le_of_ble_eq_true rfl) dX0_ask_150 ⟨(Nat.le_of_ble_eq_true rfl), (Nat.le_of_ble_eq_true rfl)⟩) (fun r_14 u_12 H locs w_13 hP hD hS => ?_)
    obtain ⟨rnZ_10, faZ_11⟩ := u_12
    have hP : va_P D CL [(aa, .inr (0, [.ref a1, .int rnZ_10, .int sl, .int 4, .int vv])), (a1, .inl (cI, 20, .inl faZ_11))] H := hP
    have hD : va_D A [(aa, .inr (0, [.ref a1, .int rnZ_10, .int sl, .int 4, .int vv])), (a1, .inl (cI, 20, .inl faZ_11))] := hD
    refine lv_iconst (v := 2) hx hb dX0_ask_153 (by decide) ?_
    refine lv_imul hx hb dX0_ask_154 ?_
    exact retI C0 rfl (rnZ_10, faZ_11) trivial (hP.sub (ws' := [(aa, .inr (0, [.ref a1, .int rnZ_10, .int sl, .int 4, .int vv])), (a1, .inl (cI, 20, .inl faZ_11))]) [0, 1] rfl) (hD.sub (ws' := [(aa, .inr (0, [.ref a1, .int rnZ_10, .int sl, .int 4, .int vv])), (a1, .inl (cI, 20, .inl faZ_11))]) [0, 1] (by decide) rfl) hS (Nat.le_of_ble_eq_true rfl) (Nat.le_of_ble_eq_true rfl) dX0_ask_155
  · refine lv_iconst (v := 0) hx hb dX0_ask_19 (by decide) ?_
    exact retI C0 rfl (rn, fa) trivial (hP.sub (ws' := [(aa, .inr (0, [.ref a1, .int rn, .int sl, .int 4, .int vv])), (a1, .inl (cI, 20, .inl fa))]) [0, 1] rfl) (hD.sub (ws' := [(aa, .inr (0, [.ref a1, .int rn, .int sl, .int 4, .int vv])), (a1, .inl (cI, 20, .inl fa))]) [0, 1] (by decide) rfl) hS (Nat.le_of_ble_eq_true rfl) (Nat.le_of_ble_eq_true rfl) dX0_ask_20

set_option maxHeartbeats 4000000 in
set_option maxRecDepth 100000 in
theorem c_ask_4_4_2 (l : Launch) (D : va_G) (cI cZ cQ cT : ClassId) (sz : Nat) (aa : Nat) (xx : Int32) (dp : Int32) (a1 : Nat) (rn : Int32) (sl : Int32) (vv : Int32) (fa : Nat → Int32)  : MetI l yX0_ask cX0_ask 7 .int ({ frames := 5, cells := 0, slots := 0, locals := 128 } : Room) [.ref aa, .int 4, .int 2, .int xx, .int dp] D (TYS cI cZ cQ cT) EF sz [(aa, .inr (0, [.ref a1, .int rn, .int sl, .int 4, .int vv])), (a1, .inl (cI, 20, .inl fa))] (S := Int32 × (Nat → Int32)) (fun (r : Int32) (_ : Int32 × (Nat → Int32)) => True) (fun u => [(aa, .inr (0, [.ref a1, .int u.1, .int sl, .int 4, .int vv])), (a1, .inl (cI, 20, .inl u.2))]) := by
  refine MetI.mk (lv := [(0, .ref aa), (1, .int 4), (2, .int 2), (3, .int xx), (4, .int dp)]) (by decide +kernel) (Nat.le_of_ble_eq_true rfl) rfl ?_
  intro p e s m below meth c A ls C0 hP hD hS hX hl
  have C1 := C0
  obtain ⟨hx, hb, hr, hml, hown, hlocks, hname, hT, hN, hK, hA⟩ := C1
  refine lv_iload_n hx hb dX0_ask_0 rfl (lv_at hl 1 rfl) ?_
  refine lv_iload_n hx hb dX0_ask_1 rfl (lv_at hl 2 rfl) ?_
  refine contI (wc := []) (wr := [(aa, .inr (0, [.ref a1, .int rn, .int sl, .int 4, .int vv])), (a1, .inl (cI, 20, .inl fa))]) C0 hP hD hS [] [0, 1] rfl rfl (by decide) (by decide) 0 0 (Nat.le_of_ble_eq_true rfl) (Nat.le_of_ble_eq_true rfl) (runS (k := 2) (As := [.int 4, .int 2]) (rest := []) C0 (c_bodyOf_4_2 l D cI cZ cQ cT _ ) wc_X0_bodyOf wl_X0_48 wt_X0_bodyOf wz_X0 ⟨by decide, by decide, by decide +kernel⟩ ⟨(Nat.le_of_ble_eq_true rfl), (Nat.le_of_ble_eq_true rfl)⟩ hP hD hS EF.ok hX [] rfl (by decide) rfl hl.1 rfl (Nat.le_of_ble_eq_true rfl) dX0_ask_2 ⟨(Nat.le_of_ble_eq_true rfl), (Nat.le_of_ble_eq_true rfl)⟩) (fun r_3 u_1 H locs w_2 hP hD hS => ?_)
  have hP : va_P D CL [(aa, .inr (0, [.ref a1, .int rn, .int sl, .int 4, .int vv])), (a1, .inl (cI, 20, .inl fa))] H := hP
  have hD : va_D A [(aa, .inr (0, [.ref a1, .int rn, .int sl, .int 4, .int vv])), (a1, .inl (cI, 20, .inl fa))] := hD
  obtain rfl : r_3 = 41 := w_2
  refine lv_istore (lv' := [(5, .int 41), (0, .ref aa), (1, .int 4), (2, .int 2), (3, .int xx), (4, .int dp)]) hx hb dX0_ask_5 hl (by decide) rfl (fun ls hl => ?_)
  refine lv_iload hx hb dX0_ask_7 (lv_at hl 0 rfl) ?_
  refine lv_if_eq (tgt := 19) hx hb dX0_ask_9 (by decide) (fun c_0 => absurd c_0 (by decide)) (fun _ => ?_)
  refine lv_iload hx hb dX0_ask_12 (lv_at hl 5 rfl) ?_
  refine lv_bipush (v := 40) hx hb dX0_ask_14 (by decide) ?_
  refine lv_icmp_le (tgt := 21) hx hb dX0_ask_16 (by decide) (fun c_4 => ?_) (fun c_4 => ?_)
  · refine lv_aload_n hx hb dX0_ask_21 rfl (lv_at hl 1 rfl) ?_
    refine lv_iload hx hb dX0_ask_22 (lv_at hl 0 rfl) ?_
    refine contV (wc := [(aa, .inr (0, [.ref a1, .int rn, .int sl, .int 4, .int vv])), (a1, .inl (cI, 20, .inl fa))]) (wr := []) C0 hP hD hS [0, 1] [] rfl rfl (by decide) (by decide) 0 0 (Nat.le_of_ble_eq_true rfl) (Nat.le_of_ble_eq_true rfl) (runV (k := 1) (As := [.int 41]) (rest := []) C0 (c_begin l D cI cZ cQ cT _ aa 41 a1 rn sl 4 vv fa) wc_X0_begin wl_X0_52 wi_X0_begin we_X0_begin wz_X0 ⟨by decide, by decide, by decide +kernel⟩ ⟨(Nat.le_of_ble_eq_true rfl), (Nat.le_of_ble_eq_true rfl)⟩ hP hD hS EF.ok hX [0, 1] rfl (by decide) 0 rfl rfl rfl rfl hl.1 rfl (Nat.le_of_ble_eq_true rfl) dX0_ask_24 ⟨(Nat.le_of_ble_eq_true rfl), (Nat.le_of_ble_eq_true rfl)⟩) (fun u_7 H locs w_8 hP hD hS => ?_)
    obtain ⟨rnZ_5, faZ_6⟩ := u_7
    have hP : va_P D CL [(aa, .inr (0, [.ref a1, .int rnZ_5, .int sl, .int 4, .int vv])), (a1, .inl (cI, 20, .inl faZ_6))] H := hP
    have hD : va_D A [(aa, .inr (0, [.ref a1, .int rnZ_5, .int sl, .int 4, .int vv])), (a1, .inl (cI, 20, .inl faZ_6))] := hD
    refine lv_iload hx hb dX0_ask_27 (lv_at hl 5 rfl) ?_
    refine lv_iconst (v := 1) hx hb dX0_ask_29 (by decide) ?_
    refine lv_iadd hx hb dX0_ask_30 ?_
    refine lv_istore (lv' := [(6, .int (dp + (1 : Int32))), (5, .int 41), (0, .ref aa), (1, .int 4), (2, .int 2), (3, .int xx), (4, .int dp)]) hx hb dX0_ask_31 hl (by decide) rfl (fun ls hl => ?_)
    refine lv_iload hx hb dX0_ask_33 (lv_at hl 1 rfl) ?_
    refine lv_lookup (off := 157) (tgt := 192) hx hb dX0_ask_35 (by decide) (by decide) (by decide) ?_
    refine lv_aload_n hx hb dX0_ask_192 rfl (lv_at hl 2 rfl) ?_
    refine lv_iconst (v := 2) hx hb dX0_ask_193 (by decide) ?_
    refine lv_iconst (v := 2) hx hb dX0_ask_194 (by decide) ?_
    refine lv_iload_n hx hb dX0_ask_195 rfl (lv_at hl 5 rfl) ?_
    refine lv_iconst (v := 1) hx hb dX0_ask_196 (by decide) ?_
    refine lv_isub hx hb dX0_ask_197 ?_
    refine lv_iload hx hb dX0_ask_198 (lv_at hl 0 rfl) ?_
    refine contI (wc := [(aa, .inr (0, [.ref a1, .int rnZ_5, .int sl, .int 4, .int vv])), (a1, .inl (cI, 20, .inl faZ_6))]) (wr := []) C0 hP hD hS [0, 1] [] rfl rfl (by decide) (by decide) 0 0 (Nat.le_of_ble_eq_true rfl) (Nat.le_of_ble_eq_true rfl) (runV (k := 4) (As := [.int 2, .int 2, .int (xx - (1 : Int32)), .int (dp + (1 : Int32))]) (rest := []) C0 (c_ask_4_2_2 l D cI cZ cQ cT _ aa (xx - (1 : Int32)) (dp + (1 : Int32)) a1 rnZ_5 sl vv faZ_6) wc_X0_ask wl_X0_38 wi_X0_ask we_X0_ask wz_X0 ⟨by decide, by decide, by decide +kernel⟩ ⟨(Nat.le_of_ble_eq_true rfl), (Nat.le_of_ble_eq_true rfl)⟩ hP hD hS EF.ok hX [0, 1] rfl (by decide) 0 rfl rfl rfl rfl hl.1 rfl (Nat.le_of_ble_eq_true rfl) dX0_ask_200 ⟨(Nat.le_of_ble_eq_true rfl), (Nat.le_of_ble_eq_true rfl)⟩) (fun r_14 u_12 H locs w_13 hP hD hS => ?_)
    obtain ⟨rnZ_10, faZ_11⟩ := u_12
    have hP : va_P D CL [(aa, .inr (0, [.ref a1, .int rnZ_10, .int sl, .int 4, .int vv])), (a1, .inl (cI, 20, .inl faZ_11))] H := hP
    have hD : va_D A [(aa, .inr (0, [.ref a1, .int rnZ_10, .int sl, .int 4, .int vv])), (a1, .inl (cI, 20, .inl faZ_11))] := hD
    refine lv_aload_n hx hb dX0_ask_203 rfl (lv_at hl 2 rfl) ?_
    refine lv_aload_n hx hb dX0_ask_204 rfl (lv_at hl 2 rfl) ?_
    refine va_get (ci := 0) (v := .int 4) (C := RX0) (T := TX0) (N := 5) hx hb hT wu_X0 hown hK hP 0 rfl rfl 3 (by decide) (hT _ wf_X0_31) (fun _ h9 => h9) rfl dX0_ask_205 ?_
    refine lv_iconst (v := 0) hx hb dX0_ask_208 (by decide) ?_
    refine lv_iconst (v := 2) hx hb dX0_ask_209 (by decide) ?_
    refine lv_iload hx hb dX0_ask_210 (lv_at hl 0 rfl) ?_
    refine contI (wc := [(aa, .inr (0, [.ref a1, .int rnZ_10, .int sl, .int 4, .int vv])), (a1, .inl (cI, 20, .inl faZ_11))]) (wr := []) C0 hP hD hS [0, 1] [] rfl rfl (by decide) (by decide) 0 0 (Nat.le_of_ble_eq_true rfl) (Nat.le_of_ble_eq_true rfl) (runV (k := 4) (As := [.int 4, .int 0, .int 2, .int (dp + (1 : Int32))]) (rest := [.int r_14]) C0 (c_ask_4_4_0 l D cI cZ cQ cT _ aa 2 (dp + (1 : Int32)) a1 rnZ_10 sl vv faZ_11) wc_X0_ask wl_X0_38 wi_X0_ask we_X0_ask wz_X0 ⟨by decide, by decide, by decide +kernel⟩ ⟨(Nat.le_of_ble_eq_true rfl), (Nat.le_of_ble_eq_true rfl)⟩ hP hD hS EF.ok hX [0, 1] rfl (by decide) 0 rfl rfl rfl rfl hl.1 rfl (Nat.le_of_ble_eq_true rfl) dX0_ask_212 ⟨(Nat.le_of_ble_eq_true rfl), (Nat.le_of_ble_eq_true rfl)⟩) (fun r_19 u_17 H locs w_18 hP hD hS => ?_)
    obtain ⟨rnZ_15, faZ_16⟩ := u_17
    have hP : va_P D CL [(aa, .inr (0, [.ref a1, .int rnZ_15, .int sl, .int 4, .int vv])), (a1, .inl (cI, 20, .inl faZ_16))] H := hP
    have hD : va_D A [(aa, .inr (0, [.ref a1, .int rnZ_15, .int sl, .int 4, .int vv])), (a1, .inl (cI, 20, .inl faZ_16))] := hD
    refine lv_iadd hx hb dX0_ask_215 ?_
    exact retI C0 rfl (rnZ_15, faZ_16) trivial (hP.sub (ws' := [(aa, .inr (0, [.ref a1, .int rnZ_15, .int sl, .int 4, .int vv])), (a1, .inl (cI, 20, .inl faZ_16))]) [0, 1] rfl) (hD.sub (ws' := [(aa, .inr (0, [.ref a1, .int rnZ_15, .int sl, .int 4, .int vv])), (a1, .inl (cI, 20, .inl faZ_16))]) [0, 1] (by decide) rfl) hS (Nat.le_of_ble_eq_true rfl) (Nat.le_of_ble_eq_true rfl) dX0_ask_216
  · refine lv_iconst (v := 0) hx hb dX0_ask_19 (by decide) ?_
    exact retI C0 rfl (rn, fa) trivial (hP.sub (ws' := [(aa, .inr (0, [.ref a1, .int rn, .int sl, .int 4, .int vv])), (a1, .inl (cI, 20, .inl fa))]) [0, 1] rfl) (hD.sub (ws' := [(aa, .inr (0, [.ref a1, .int rn, .int sl, .int 4, .int vv])), (a1, .inl (cI, 20, .inl fa))]) [0, 1] (by decide) rfl) hS (Nat.le_of_ble_eq_true rfl) (Nat.le_of_ble_eq_true rfl) dX0_ask_20

set_option maxHeartbeats 4000000 in
set_option maxRecDepth 100000 in
theorem c_bodyOf_5_2 (l : Launch) (D : va_G) (cI cZ cQ cT : ClassId) (sz : Nat)   : MetI l yX0_bodyOf cX0_bodyOf 5 .int ({ frames := 0, cells := 0, slots := 0, locals := 0 } : Room) [.int 5, .int 2] D (TYS cI cZ cQ cT) EF sz [] (S := Unit) (fun (r : Int32) (_ : Unit) => r = 31) (fun _ => []) := by
  refine MetI.mk (lv := [(0, .int 5), (1, .int 2)]) (by decide +kernel) (Nat.le_of_ble_eq_true rfl) rfl ?_
  intro p e s m below meth c A ls C0 hP hD hS hX hl
  have C1 := C0
  obtain ⟨hx, hb, hr, hml, hown, hlocks, hname, hT, hN, hK, hA⟩ := C1
  obtain ⟨kab, hkz, hkT⟩ := hX.2.1
  obtain ⟨bdy, hbz, hbT⟩ := hX.2.2.1
  refine lv_iload_n hx hb dX0_bodyOf_0 rfl (lv_at hl 0 rfl) ?_
  refine lv_istore_n (lv' := [(2, .int 5), (0, .int 5), (1, .int 2)]) hx hb dX0_bodyOf_1 rfl hl (by decide) rfl (fun ls hl => ?_)
  refine lv_iconst (v := 0) hx hb dX0_bodyOf_2 (by decide) ?_
  refine lv_istore_n (lv' := [(3, .int 0), (2, .int 5), (0, .int 5), (1, .int 2)]) hx hb dX0_bodyOf_3 rfl hl (by decide) rfl (fun ls hl => ?_)
  refine lv_iload_n hx hb dX0_bodyOf_4 rfl (lv_at hl 0 rfl) ?_
  refine lv_bipush (v := 7) hx hb dX0_bodyOf_5 (by decide) ?_
  refine lv_icmp_ge (tgt := 69) hx hb dX0_bodyOf_7 (by decide) (fun c_0 => absurd c_0 (by decide)) (fun _ => ?_)
  refine lv_iload_n hx hb dX0_bodyOf_10 rfl (lv_at hl 1 rfl) ?_
  refine lv_if_lt (tgt := 69) hx hb dX0_bodyOf_11 (by decide) (fun c_0 => absurd c_0 (by decide)) (fun _ => ?_)
  refine lv_iload_n hx hb dX0_bodyOf_14 rfl (lv_at hl 1 rfl) ?_
  refine lv_bipush (v := 7) hx hb dX0_bodyOf_15 (by decide) ?_
  refine lv_icmp_ge (tgt := 69) hx hb dX0_bodyOf_17 (by decide) (fun c_0 => absurd c_0 (by decide)) (fun _ => ?_)
  refine lv_iload_n hx hb dX0_bodyOf_20 rfl (lv_at hl 1 rfl) ?_
  refine lv_iconst (v := 3) hx hb dX0_bodyOf_21 (by decide) ?_
  refine lv_imul hx hb dX0_bodyOf_22 ?_
  refine lv_ci 15 (by decide +kernel) ?_
  refine lv_iload_n hx hb dX0_bodyOf_23 rfl (lv_at hl 3 rfl) ?_
  refine lv_iadd hx hb dX0_bodyOf_24 ?_
  refine lv_ci 17 (by decide +kernel) ?_
  refine lv_istore (lv' := [(4, .int 17), (3, .int 0), (2, .int 5), (0, .int 5), (1, .int 2)]) hx hb dX0_bodyOf_25 hl (by decide) rfl (fun ls hl => ?_)
  refine lv_iload hx hb dX0_bodyOf_27 (lv_at hl 0 rfl) ?_
  refine lv_if_lt (tgt := 57) hx hb dX0_bodyOf_29 (by decide) (fun c_0 => absurd c_0 (by decide)) (fun _ => ?_)
  refine lv_iload hx hb dX0_bodyOf_32 (lv_at hl 0 rfl) ?_
  refine va_gets hx hb hbz hS hown (hT _ wf_X0_42) (fun _ h9 => h9) dX0_bodyOf_34 ?_
  refine va_tlen hx hb hbT hS (v := 21) rfl dX0_bodyOf_37 ?_
  refine lv_icmp_ge (tgt := 57) hx hb dX0_bodyOf_38 (by decide) (fun c_0 => absurd c_0 (by decide)) (fun _ => ?_)
  refine va_gets hx hb hbz hS hown (hT _ wf_X0_42) (fun _ h9 => h9) dX0_bodyOf_41 ?_
  refine lv_iload hx hb dX0_bodyOf_44 (lv_at hl 0 rfl) ?_
  refine va_ti hx hb hbT hS (vin _ _ (by decide +kernel)) (v := .int 0) rfl dX0_bodyOf_46 ?_
  refine lv_if_eq (tgt := 57) hx hb dX0_bodyOf_47 (by decide) (fun _ => ?_) (fun c_0 => absurd (by decide) c_0)
  refine va_getsN hx hb hkz hS hown (va_Nw.use rfl (hN.get 750 kf_X0_45 rfl)) (fun _ h9 => h9) dX0_bodyOf_57 ?_
  refine lv_iload_n hx hb dX0_bodyOf_60 rfl (lv_at hl 2 rfl) ?_
  refine va_ti hx hb hkT hS (vin _ _ (by decide +kernel)) (v := .int 3) rfl dX0_bodyOf_61 ?_
  refine lv_istore_n (lv' := [(2, .int 3), (4, .int 17), (3, .int 0), (0, .int 5), (1, .int 2)]) hx hb dX0_bodyOf_62 rfl hl (by decide) rfl (fun ls hl => ?_)
  refine lv_iinc (v := 1) (lv' := [(3, .int 1), (2, .int 3), (4, .int 17), (0, .int 5), (1, .int 2)]) hx hb dX0_bodyOf_63 hl (k := 2) rfl (by decide) (by decide) rfl (fun ls hl => ?_)
  refine lv_goto (tgt := 4) hx hb dX0_bodyOf_66 (by decide) ?_
  refine lv_iload_n hx hb dX0_bodyOf_4 rfl (lv_at hl 0 rfl) ?_
  refine lv_bipush (v := 7) hx hb dX0_bodyOf_5 (by decide) ?_
  refine lv_icmp_ge (tgt := 69) hx hb dX0_bodyOf_7 (by decide) (fun c_0 => absurd c_0 (by decide)) (fun _ => ?_)
  refine lv_iload_n hx hb dX0_bodyOf_10 rfl (lv_at hl 1 rfl) ?_
  refine lv_if_lt (tgt := 69) hx hb dX0_bodyOf_11 (by decide) (fun c_0 => absurd c_0 (by decide)) (fun _ => ?_)
  refine lv_iload_n hx hb dX0_bodyOf_14 rfl (lv_at hl 1 rfl) ?_
  refine lv_bipush (v := 7) hx hb dX0_bodyOf_15 (by decide) ?_
  refine lv_icmp_ge (tgt := 69) hx hb dX0_bodyOf_17 (by decide) (fun c_0 => absurd c_0 (by decide)) (fun _ => ?_)
  refine lv_iload_n hx hb dX0_bodyOf_20 rfl (lv_at hl 1 rfl) ?_
  refine lv_iconst (v := 3) hx hb dX0_bodyOf_21 (by decide) ?_
  refine lv_imul hx hb dX0_bodyOf_22 ?_
  refine lv_ci 9 (by decide +kernel) ?_
  refine lv_iload_n hx hb dX0_bodyOf_23 rfl (lv_at hl 4 rfl) ?_
  refine lv_iadd hx hb dX0_bodyOf_24 ?_
  refine lv_ci 11 (by decide +kernel) ?_
  refine lv_istore (lv' := [(4, .int 11), (3, .int 1), (2, .int 3), (0, .int 5), (1, .int 2)]) hx hb dX0_bodyOf_25 hl (by decide) rfl (fun ls hl => ?_)
  refine lv_iload hx hb dX0_bodyOf_27 (lv_at hl 0 rfl) ?_
  refine lv_if_lt (tgt := 57) hx hb dX0_bodyOf_29 (by decide) (fun c_0 => absurd c_0 (by decide)) (fun _ => ?_)
  refine lv_iload hx hb dX0_bodyOf_32 (lv_at hl 0 rfl) ?_
  refine va_gets hx hb hbz hS hown (hT _ wf_X0_42) (fun _ h9 => h9) dX0_bodyOf_34 ?_
  refine va_tlen hx hb hbT hS (v := 21) rfl dX0_bodyOf_37 ?_
  refine lv_icmp_ge (tgt := 57) hx hb dX0_bodyOf_38 (by decide) (fun c_0 => absurd c_0 (by decide)) (fun _ => ?_)
  refine va_gets hx hb hbz hS hown (hT _ wf_X0_42) (fun _ h9 => h9) dX0_bodyOf_41 ?_
  refine lv_iload hx hb dX0_bodyOf_44 (lv_at hl 0 rfl) ?_
  refine va_ti hx hb hbT hS (vin _ _ (by decide +kernel)) (v := .int 31) rfl dX0_bodyOf_46 ?_
  refine lv_if_eq (tgt := 57) hx hb dX0_bodyOf_47 (by decide) (fun c_0 => absurd c_0 (by decide)) (fun _ => ?_)
  refine va_gets hx hb hbz hS hown (hT _ wf_X0_42) (fun _ h9 => h9) dX0_bodyOf_50 ?_
  refine lv_iload hx hb dX0_bodyOf_53 (lv_at hl 0 rfl) ?_
  refine va_ti hx hb hbT hS (vin _ _ (by decide +kernel)) (v := .int 31) rfl dX0_bodyOf_55 ?_
  exact retI C0 rfl () rfl (hP.sub (ws' := []) [] rfl) (hD.sub (ws' := []) [] (by decide) rfl) hS (Nat.le_of_ble_eq_true rfl) (Nat.le_of_ble_eq_true rfl) dX0_bodyOf_56

set_option maxHeartbeats 4000000 in
set_option maxRecDepth 100000 in
theorem c_ask_5_0_2 (l : Launch) (D : va_G) (cI cZ cQ cT : ClassId) (sz : Nat) (aa : Nat) (xx : Int32) (dp : Int32) (a1 : Nat) (rn : Int32) (sl : Int32) (vv : Int32) (fa : Nat → Int32)  : MetI l yX0_ask cX0_ask 7 .int ({ frames := 4, cells := 0, slots := 0, locals := 102 } : Room) [.ref aa, .int 0, .int 2, .int xx, .int dp] D (TYS cI cZ cQ cT) EF sz [(aa, .inr (0, [.ref a1, .int rn, .int sl, .int 5, .int vv])), (a1, .inl (cI, 20, .inl fa))] (S := Int32 × (Nat → Int32)) (fun (r : Int32) (_ : Int32 × (Nat → Int32)) => True) (fun u => [(aa, .inr (0, [.ref a1, .int u.1, .int sl, .int 5, .int vv])), (a1, .inl (cI, 20, .inl u.2))]) := by
  refine MetI.mk (lv := [(0, .ref aa), (1, .int 0), (2, .int 2), (3, .int xx), (4, .int dp)]) (by decide +kernel) (Nat.le_of_ble_eq_true rfl) rfl ?_
  intro p e s m below meth c A ls C0 hP hD hS hX hl
  have C1 := C0
  obtain ⟨hx, hb, hr, hml, hown, hlocks, hname, hT, hN, hK, hA⟩ := C1
  refine lv_iload_n hx hb dX0_ask_0 rfl (lv_at hl 1 rfl) ?_
  refine lv_iload_n hx hb dX0_ask_1 rfl (lv_at hl 2 rfl) ?_
  refine contI (wc := []) (wr := [(aa, .inr (0, [.ref a1, .int rn, .int sl, .int 5, .int vv])), (a1, .inl (cI, 20, .inl fa))]) C0 hP hD hS [] [0, 1] rfl rfl (by decide) (by decide) 0 0 (Nat.le_of_ble_eq_true rfl) (Nat.le_of_ble_eq_true rfl) (runS (k := 2) (As := [.int 0, .int 2]) (rest := []) C0 (c_bodyOf_0_2 l D cI cZ cQ cT _ ) wc_X0_bodyOf wl_X0_48 wt_X0_bodyOf wz_X0 ⟨by decide, by decide, by decide +kernel⟩ ⟨(Nat.le_of_ble_eq_true rfl), (Nat.le_of_ble_eq_true rfl)⟩ hP hD hS EF.ok hX [] rfl (by decide) rfl hl.1 rfl (Nat.le_of_ble_eq_true rfl) dX0_ask_2 ⟨(Nat.le_of_ble_eq_true rfl), (Nat.le_of_ble_eq_true rfl)⟩) (fun r_3 u_1 H locs w_2 hP hD hS => ?_)
  have hP : va_P D CL [(aa, .inr (0, [.ref a1, .int rn, .int sl, .int 5, .int vv])), (a1, .inl (cI, 20, .inl fa))] H := hP
  have hD : va_D A [(aa, .inr (0, [.ref a1, .int rn, .int sl, .int 5, .int vv])), (a1, .inl (cI, 20, .inl fa))] := hD
  obtain rfl : r_3 = 3 := w_2
  refine lv_istore (lv' := [(5, .int 3), (0, .ref aa), (1, .int 0), (2, .int 2), (3, .int xx), (4, .int dp)]) hx hb dX0_ask_5 hl (by decide) rfl (fun ls hl => ?_)
  refine lv_iload hx hb dX0_ask_7 (lv_at hl 0 rfl) ?_
  refine lv_if_eq (tgt := 19) hx hb dX0_ask_9 (by decide) (fun c_0 => absurd c_0 (by decide)) (fun _ => ?_)
  refine lv_iload hx hb dX0_ask_12 (lv_at hl 5 rfl) ?_
  refine lv_bipush (v := 40) hx hb dX0_ask_14 (by decide) ?_
  refine lv_icmp_le (tgt := 21) hx hb dX0_ask_16 (by decide) (fun c_4 => ?_) (fun c_4 => ?_)
  · refine lv_aload_n hx hb dX0_ask_21 rfl (lv_at hl 1 rfl) ?_
    refine lv_iload hx hb dX0_ask_22 (lv_at hl 0 rfl) ?_
    refine contV (wc := [(aa, .inr (0, [.ref a1, .int rn, .int sl, .int 5, .int vv])), (a1, .inl (cI, 20, .inl fa))]) (wr := []) C0 hP hD hS [0, 1] [] rfl rfl (by decide) (by decide) 0 0 (Nat.le_of_ble_eq_true rfl) (Nat.le_of_ble_eq_true rfl) (runV (k := 1) (As := [.int 3]) (rest := []) C0 (c_begin l D cI cZ cQ cT _ aa 3 a1 rn sl 5 vv fa) wc_X0_begin wl_X0_52 wi_X0_begin we_X0_begin wz_X0 ⟨by decide, by decide, by decide +kernel⟩ ⟨(Nat.le_of_ble_eq_true rfl), (Nat.le_of_ble_eq_true rfl)⟩ hP hD hS EF.ok hX [0, 1] rfl (by decide) 0 rfl rfl rfl rfl hl.1 rfl (Nat.le_of_ble_eq_true rfl) dX0_ask_24 ⟨(Nat.le_of_ble_eq_true rfl), (Nat.le_of_ble_eq_true rfl)⟩) (fun u_7 H locs w_8 hP hD hS => ?_)
    obtain ⟨rnZ_5, faZ_6⟩ := u_7
    have hP : va_P D CL [(aa, .inr (0, [.ref a1, .int rnZ_5, .int sl, .int 5, .int vv])), (a1, .inl (cI, 20, .inl faZ_6))] H := hP
    have hD : va_D A [(aa, .inr (0, [.ref a1, .int rnZ_5, .int sl, .int 5, .int vv])), (a1, .inl (cI, 20, .inl faZ_6))] := hD
    refine lv_iload hx hb dX0_ask_27 (lv_at hl 5 rfl) ?_
    refine lv_iconst (v := 1) hx hb dX0_ask_29 (by decide) ?_
    refine lv_iadd hx hb dX0_ask_30 ?_
    refine lv_istore (lv' := [(6, .int (dp + (1 : Int32))), (5, .int 3), (0, .ref aa), (1, .int 0), (2, .int 2), (3, .int xx), (4, .int dp)]) hx hb dX0_ask_31 hl (by decide) rfl (fun ls hl => ?_)
    refine lv_iload hx hb dX0_ask_33 (lv_at hl 1 rfl) ?_
    refine lv_lookup (off := 106) (tgt := 141) hx hb dX0_ask_35 (by decide) (by decide) (by decide) ?_
    refine lv_aload_n hx hb dX0_ask_141 rfl (lv_at hl 2 rfl) ?_
    refine lv_aload_n hx hb dX0_ask_142 rfl (lv_at hl 2 rfl) ?_
    refine va_get (ci := 0) (v := .int 5) (C := RX0) (T := TX0) (N := 5) hx hb hT wu_X0 hown hK hP 0 rfl rfl 3 (by decide) (hT _ wf_X0_31) (fun _ h9 => h9) rfl dX0_ask_143 ?_
    refine lv_iconst (v := 1) hx hb dX0_ask_146 (by decide) ?_
    refine lv_iload_n hx hb dX0_ask_147 rfl (lv_at hl 5 rfl) ?_
    refine lv_iload hx hb dX0_ask_148 (lv_at hl 0 rfl) ?_
    refine contI (wc := [(aa, .inr (0, [.ref a1, .int rnZ_5, .int sl, .int 5, .int vv])), (a1, .inl (cI, 20, .inl faZ_6))]) (wr := []) C0 hP hD hS [0, 1] [] rfl rfl (by decide) (by decide) 0 0 (Nat.le_of_ble_eq_true rfl) (Nat.le_of_ble_eq_true rfl) (runV (k := 4) (As := [.int 5, .int 1, .int xx, .int (dp + (1 : Int32))]) (rest := []) C0 (c_ask_5_5_1 l D cI cZ cQ cT _ aa xx (dp + (1 : Int32)) a1 rnZ_5 sl vv faZ_6) wc_X0_ask wl_X0_38 wi_X0_ask we_X0_ask wz_X0 ⟨by decide, by decide, by decide +kernel⟩ ⟨(Nat.le_of_ble_eq_true rfl), (Nat.le_of_ble_eq_true rfl)⟩ hP hD hS EF.ok hX [0, 1] rfl (by decide) 0 rfl rfl rfl rfl hl.1 rfl (Nat.le_of_ble_eq_true rfl) dX0_ask_150 ⟨(Nat.le_of_ble_eq_true rfl), (Nat.le_of_ble_eq_true rfl)⟩) (fun r_14 u_12 H locs w_13 hP hD hS => ?_)
    obtain ⟨rnZ_10, faZ_11⟩ := u_12
    have hP : va_P D CL [(aa, .inr (0, [.ref a1, .int rnZ_10, .int sl, .int 5, .int vv])), (a1, .inl (cI, 20, .inl faZ_11))] H := hP
    have hD : va_D A [(aa, .inr (0, [.ref a1, .int rnZ_10, .int sl, .int 5, .int vv])), (a1, .inl (cI, 20, .inl faZ_11))] := hD
    refine lv_iconst (v := 2) hx hb dX0_ask_153 (by decide) ?_
    refine lv_imul hx hb dX0_ask_154 ?_
    exact retI C0 rfl (rnZ_10, faZ_11) trivial (hP.sub (ws' := [(aa, .inr (0, [.ref a1, .int rnZ_10, .int sl, .int 5, .int vv])), (a1, .inl (cI, 20, .inl faZ_11))]) [0, 1] rfl) (hD.sub (ws' := [(aa, .inr (0, [.ref a1, .int rnZ_10, .int sl, .int 5, .int vv])), (a1, .inl (cI, 20, .inl faZ_11))]) [0, 1] (by decide) rfl) hS (Nat.le_of_ble_eq_true rfl) (Nat.le_of_ble_eq_true rfl) dX0_ask_155
  · refine lv_iconst (v := 0) hx hb dX0_ask_19 (by decide) ?_
    exact retI C0 rfl (rn, fa) trivial (hP.sub (ws' := [(aa, .inr (0, [.ref a1, .int rn, .int sl, .int 5, .int vv])), (a1, .inl (cI, 20, .inl fa))]) [0, 1] rfl) (hD.sub (ws' := [(aa, .inr (0, [.ref a1, .int rn, .int sl, .int 5, .int vv])), (a1, .inl (cI, 20, .inl fa))]) [0, 1] (by decide) rfl) hS (Nat.le_of_ble_eq_true rfl) (Nat.le_of_ble_eq_true rfl) dX0_ask_20

set_option maxHeartbeats 4000000 in
set_option maxRecDepth 100000 in
theorem c_ask_5_5_2 (l : Launch) (D : va_G) (cI cZ cQ cT : ClassId) (sz : Nat) (aa : Nat) (xx : Int32) (dp : Int32) (a1 : Nat) (rn : Int32) (sl : Int32) (vv : Int32) (fa : Nat → Int32)  : MetI l yX0_ask cX0_ask 7 .int ({ frames := 5, cells := 0, slots := 0, locals := 128 } : Room) [.ref aa, .int 5, .int 2, .int xx, .int dp] D (TYS cI cZ cQ cT) EF sz [(aa, .inr (0, [.ref a1, .int rn, .int sl, .int 5, .int vv])), (a1, .inl (cI, 20, .inl fa))] (S := Int32 × (Nat → Int32)) (fun (r : Int32) (_ : Int32 × (Nat → Int32)) => True) (fun u => [(aa, .inr (0, [.ref a1, .int u.1, .int sl, .int 5, .int vv])), (a1, .inl (cI, 20, .inl u.2))]) := by
  refine MetI.mk (lv := [(0, .ref aa), (1, .int 5), (2, .int 2), (3, .int xx), (4, .int dp)]) (by decide +kernel) (Nat.le_of_ble_eq_true rfl) rfl ?_
  intro p e s m below meth c A ls C0 hP hD hS hX hl
  have C1 := C0
  obtain ⟨hx, hb, hr, hml, hown, hlocks, hname, hT, hN, hK, hA⟩ := C1
  refine lv_iload_n hx hb dX0_ask_0 rfl (lv_at hl 1 rfl) ?_
  refine lv_iload_n hx hb dX0_ask_1 rfl (lv_at hl 2 rfl) ?_
  refine contI (wc := []) (wr := [(aa, .inr (0, [.ref a1, .int rn, .int sl, .int 5, .int vv])), (a1, .inl (cI, 20, .inl fa))]) C0 hP hD hS [] [0, 1] rfl rfl (by decide) (by decide) 0 0 (Nat.le_of_ble_eq_true rfl) (Nat.le_of_ble_eq_true rfl) (runS (k := 2) (As := [.int 5, .int 2]) (rest := []) C0 (c_bodyOf_5_2 l D cI cZ cQ cT _ ) wc_X0_bodyOf wl_X0_48 wt_X0_bodyOf wz_X0 ⟨by decide, by decide, by decide +kernel⟩ ⟨(Nat.le_of_ble_eq_true rfl), (Nat.le_of_ble_eq_true rfl)⟩ hP hD hS EF.ok hX [] rfl (by decide) rfl hl.1 rfl (Nat.le_of_ble_eq_true rfl) dX0_ask_2 ⟨(Nat.le_of_ble_eq_true rfl), (Nat.le_of_ble_eq_true rfl)⟩) (fun r_3 u_1 H locs w_2 hP hD hS => ?_)
  have hP : va_P D CL [(aa, .inr (0, [.ref a1, .int rn, .int sl, .int 5, .int vv])), (a1, .inl (cI, 20, .inl fa))] H := hP
  have hD : va_D A [(aa, .inr (0, [.ref a1, .int rn, .int sl, .int 5, .int vv])), (a1, .inl (cI, 20, .inl fa))] := hD
  obtain rfl : r_3 = 31 := w_2
  refine lv_istore (lv' := [(5, .int 31), (0, .ref aa), (1, .int 5), (2, .int 2), (3, .int xx), (4, .int dp)]) hx hb dX0_ask_5 hl (by decide) rfl (fun ls hl => ?_)
  refine lv_iload hx hb dX0_ask_7 (lv_at hl 0 rfl) ?_
  refine lv_if_eq (tgt := 19) hx hb dX0_ask_9 (by decide) (fun c_0 => absurd c_0 (by decide)) (fun _ => ?_)
  refine lv_iload hx hb dX0_ask_12 (lv_at hl 5 rfl) ?_
  refine lv_bipush (v := 40) hx hb dX0_ask_14 (by decide) ?_
  refine lv_icmp_le (tgt := 21) hx hb dX0_ask_16 (by decide) (fun c_4 => ?_) (fun c_4 => ?_)
  · refine lv_aload_n hx hb dX0_ask_21 rfl (lv_at hl 1 rfl) ?_
    refine lv_iload hx hb dX0_ask_22 (lv_at hl 0 rfl) ?_
    refine contV (wc := [(aa, .inr (0, [.ref a1, .int rn, .int sl, .int 5, .int vv])), (a1, .inl (cI, 20, .inl fa))]) (wr := []) C0 hP hD hS [0, 1] [] rfl rfl (by decide) (by decide) 0 0 (Nat.le_of_ble_eq_true rfl) (Nat.le_of_ble_eq_true rfl) (runV (k := 1) (As := [.int 31]) (rest := []) C0 (c_begin l D cI cZ cQ cT _ aa 31 a1 rn sl 5 vv fa) wc_X0_begin wl_X0_52 wi_X0_begin we_X0_begin wz_X0 ⟨by decide, by decide, by decide +kernel⟩ ⟨(Nat.le_of_ble_eq_true rfl), (Nat.le_of_ble_eq_true rfl)⟩ hP hD hS EF.ok hX [0, 1] rfl (by decide) 0 rfl rfl rfl rfl hl.1 rfl (Nat.le_of_ble_eq_true rfl) dX0_ask_24 ⟨(Nat.le_of_ble_eq_true rfl), (Nat.le_of_ble_eq_true rfl)⟩) (fun u_7 H locs w_8 hP hD hS => ?_)
    obtain ⟨rnZ_5, faZ_6⟩ := u_7
    have hP : va_P D CL [(aa, .inr (0, [.ref a1, .int rnZ_5, .int sl, .int 5, .int vv])), (a1, .inl (cI, 20, .inl faZ_6))] H := hP
    have hD : va_D A [(aa, .inr (0, [.ref a1, .int rnZ_5, .int sl, .int 5, .int vv])), (a1, .inl (cI, 20, .inl faZ_6))] := hD
    refine lv_iload hx hb dX0_ask_27 (lv_at hl 5 rfl) ?_
    refine lv_iconst (v := 1) hx hb dX0_ask_29 (by decide) ?_
    refine lv_iadd hx hb dX0_ask_30 ?_
    refine lv_istore (lv' := [(6, .int (dp + (1 : Int32))), (5, .int 31), (0, .ref aa), (1, .int 5), (2, .int 2), (3, .int xx), (4, .int dp)]) hx hb dX0_ask_31 hl (by decide) rfl (fun ls hl => ?_)
    refine lv_iload hx hb dX0_ask_33 (lv_at hl 1 rfl) ?_
    refine lv_lookup (off := 144) (tgt := 179) hx hb dX0_ask_35 (by decide) (by decide) (by decide) ?_
    refine lv_aload_n hx hb dX0_ask_179 rfl (lv_at hl 2 rfl) ?_
    refine lv_iconst (v := 0) hx hb dX0_ask_180 (by decide) ?_
    refine lv_iconst (v := 2) hx hb dX0_ask_181 (by decide) ?_
    refine lv_iload_n hx hb dX0_ask_182 rfl (lv_at hl 5 rfl) ?_
    refine lv_iload hx hb dX0_ask_183 (lv_at hl 0 rfl) ?_
    refine contI (wc := [(aa, .inr (0, [.ref a1, .int rnZ_5, .int sl, .int 5, .int vv])), (a1, .inl (cI, 20, .inl faZ_6))]) (wr := []) C0 hP hD hS [0, 1] [] rfl rfl (by decide) (by decide) 0 0 (Nat.le_of_ble_eq_true rfl) (Nat.le_of_ble_eq_true rfl) (runV (k := 4) (As := [.int 0, .int 2, .int xx, .int (dp + (1 : Int32))]) (rest := []) C0 (c_ask_5_0_2 l D cI cZ cQ cT _ aa xx (dp + (1 : Int32)) a1 rnZ_5 sl vv faZ_6) wc_X0_ask wl_X0_38 wi_X0_ask we_X0_ask wz_X0 ⟨by decide, by decide, by decide +kernel⟩ ⟨(Nat.le_of_ble_eq_true rfl), (Nat.le_of_ble_eq_true rfl)⟩ hP hD hS EF.ok hX [0, 1] rfl (by decide) 0 rfl rfl rfl rfl hl.1 rfl (Nat.le_of_ble_eq_true rfl) dX0_ask_185 ⟨(Nat.le_of_ble_eq_true rfl), (Nat.le_of_ble_eq_true rfl)⟩) (fun r_14 u_12 H locs w_13 hP hD hS => ?_)
    obtain ⟨rnZ_10, faZ_11⟩ := u_12
    have hP : va_P D CL [(aa, .inr (0, [.ref a1, .int rnZ_10, .int sl, .int 5, .int vv])), (a1, .inl (cI, 20, .inl faZ_11))] H := hP
    have hD : va_D A [(aa, .inr (0, [.ref a1, .int rnZ_10, .int sl, .int 5, .int vv])), (a1, .inl (cI, 20, .inl faZ_11))] := hD
    refine lv_bipush (v := 7) hx hb dX0_ask_188 (by decide) ?_
    refine lv_ixor hx hb dX0_ask_190 ?_
    exact retI C0 rfl (rnZ_10, faZ_11) trivial (hP.sub (ws' := [(aa, .inr (0, [.ref a1, .int rnZ_10, .int sl, .int 5, .int vv])), (a1, .inl (cI, 20, .inl faZ_11))]) [0, 1] rfl) (hD.sub (ws' := [(aa, .inr (0, [.ref a1, .int rnZ_10, .int sl, .int 5, .int vv])), (a1, .inl (cI, 20, .inl faZ_11))]) [0, 1] (by decide) rfl) hS (Nat.le_of_ble_eq_true rfl) (Nat.le_of_ble_eq_true rfl) dX0_ask_191
  · refine lv_iconst (v := 0) hx hb dX0_ask_19 (by decide) ?_
    exact retI C0 rfl (rn, fa) trivial (hP.sub (ws' := [(aa, .inr (0, [.ref a1, .int rn, .int sl, .int 5, .int vv])), (a1, .inl (cI, 20, .inl fa))]) [0, 1] rfl) (hD.sub (ws' := [(aa, .inr (0, [.ref a1, .int rn, .int sl, .int 5, .int vv])), (a1, .inl (cI, 20, .inl fa))]) [0, 1] (by decide) rfl) hS (Nat.le_of_ble_eq_true rfl) (Nat.le_of_ble_eq_true rfl) dX0_ask_20

set_option maxHeartbeats 4000000 in
set_option maxRecDepth 100000 in
theorem c_bodyOf_6_2 (l : Launch) (D : va_G) (cI cZ cQ cT : ClassId) (sz : Nat)   : MetI l yX0_bodyOf cX0_bodyOf 5 .int ({ frames := 0, cells := 0, slots := 0, locals := 0 } : Room) [.int 6, .int 2] D (TYS cI cZ cQ cT) EF sz [] (S := Unit) (fun (r : Int32) (_ : Unit) => r = 31) (fun _ => []) := by
  refine MetI.mk (lv := [(0, .int 6), (1, .int 2)]) (by decide +kernel) (Nat.le_of_ble_eq_true rfl) rfl ?_
  intro p e s m below meth c A ls C0 hP hD hS hX hl
  have C1 := C0
  obtain ⟨hx, hb, hr, hml, hown, hlocks, hname, hT, hN, hK, hA⟩ := C1
  obtain ⟨kab, hkz, hkT⟩ := hX.2.1
  obtain ⟨bdy, hbz, hbT⟩ := hX.2.2.1
  refine lv_iload_n hx hb dX0_bodyOf_0 rfl (lv_at hl 0 rfl) ?_
  refine lv_istore_n (lv' := [(2, .int 6), (0, .int 6), (1, .int 2)]) hx hb dX0_bodyOf_1 rfl hl (by decide) rfl (fun ls hl => ?_)
  refine lv_iconst (v := 0) hx hb dX0_bodyOf_2 (by decide) ?_
  refine lv_istore_n (lv' := [(3, .int 0), (2, .int 6), (0, .int 6), (1, .int 2)]) hx hb dX0_bodyOf_3 rfl hl (by decide) rfl (fun ls hl => ?_)
  refine lv_iload_n hx hb dX0_bodyOf_4 rfl (lv_at hl 0 rfl) ?_
  refine lv_bipush (v := 7) hx hb dX0_bodyOf_5 (by decide) ?_
  refine lv_icmp_ge (tgt := 69) hx hb dX0_bodyOf_7 (by decide) (fun c_0 => absurd c_0 (by decide)) (fun _ => ?_)
  refine lv_iload_n hx hb dX0_bodyOf_10 rfl (lv_at hl 1 rfl) ?_
  refine lv_if_lt (tgt := 69) hx hb dX0_bodyOf_11 (by decide) (fun c_0 => absurd c_0 (by decide)) (fun _ => ?_)
  refine lv_iload_n hx hb dX0_bodyOf_14 rfl (lv_at hl 1 rfl) ?_
  refine lv_bipush (v := 7) hx hb dX0_bodyOf_15 (by decide) ?_
  refine lv_icmp_ge (tgt := 69) hx hb dX0_bodyOf_17 (by decide) (fun c_0 => absurd c_0 (by decide)) (fun _ => ?_)
  refine lv_iload_n hx hb dX0_bodyOf_20 rfl (lv_at hl 1 rfl) ?_
  refine lv_iconst (v := 3) hx hb dX0_bodyOf_21 (by decide) ?_
  refine lv_imul hx hb dX0_bodyOf_22 ?_
  refine lv_ci 18 (by decide +kernel) ?_
  refine lv_iload_n hx hb dX0_bodyOf_23 rfl (lv_at hl 3 rfl) ?_
  refine lv_iadd hx hb dX0_bodyOf_24 ?_
  refine lv_ci 20 (by decide +kernel) ?_
  refine lv_istore (lv' := [(4, .int 20), (3, .int 0), (2, .int 6), (0, .int 6), (1, .int 2)]) hx hb dX0_bodyOf_25 hl (by decide) rfl (fun ls hl => ?_)
  refine lv_iload hx hb dX0_bodyOf_27 (lv_at hl 0 rfl) ?_
  refine lv_if_lt (tgt := 57) hx hb dX0_bodyOf_29 (by decide) (fun c_0 => absurd c_0 (by decide)) (fun _ => ?_)
  refine lv_iload hx hb dX0_bodyOf_32 (lv_at hl 0 rfl) ?_
  refine va_gets hx hb hbz hS hown (hT _ wf_X0_42) (fun _ h9 => h9) dX0_bodyOf_34 ?_
  refine va_tlen hx hb hbT hS (v := 21) rfl dX0_bodyOf_37 ?_
  refine lv_icmp_ge (tgt := 57) hx hb dX0_bodyOf_38 (by decide) (fun c_0 => absurd c_0 (by decide)) (fun _ => ?_)
  refine va_gets hx hb hbz hS hown (hT _ wf_X0_42) (fun _ h9 => h9) dX0_bodyOf_41 ?_
  refine lv_iload hx hb dX0_bodyOf_44 (lv_at hl 0 rfl) ?_
  refine va_ti hx hb hbT hS (vin _ _ (by decide +kernel)) (v := .int 0) rfl dX0_bodyOf_46 ?_
  refine lv_if_eq (tgt := 57) hx hb dX0_bodyOf_47 (by decide) (fun _ => ?_) (fun c_0 => absurd (by decide) c_0)
  refine va_getsN hx hb hkz hS hown (va_Nw.use rfl (hN.get 750 kf_X0_45 rfl)) (fun _ h9 => h9) dX0_bodyOf_57 ?_
  refine lv_iload_n hx hb dX0_bodyOf_60 rfl (lv_at hl 2 rfl) ?_
  refine va_ti hx hb hkT hS (vin _ _ (by decide +kernel)) (v := .int 3) rfl dX0_bodyOf_61 ?_
  refine lv_istore_n (lv' := [(2, .int 3), (4, .int 20), (3, .int 0), (0, .int 6), (1, .int 2)]) hx hb dX0_bodyOf_62 rfl hl (by decide) rfl (fun ls hl => ?_)
  refine lv_iinc (v := 1) (lv' := [(3, .int 1), (2, .int 3), (4, .int 20), (0, .int 6), (1, .int 2)]) hx hb dX0_bodyOf_63 hl (k := 2) rfl (by decide) (by decide) rfl (fun ls hl => ?_)
  refine lv_goto (tgt := 4) hx hb dX0_bodyOf_66 (by decide) ?_
  refine lv_iload_n hx hb dX0_bodyOf_4 rfl (lv_at hl 0 rfl) ?_
  refine lv_bipush (v := 7) hx hb dX0_bodyOf_5 (by decide) ?_
  refine lv_icmp_ge (tgt := 69) hx hb dX0_bodyOf_7 (by decide) (fun c_0 => absurd c_0 (by decide)) (fun _ => ?_)
  refine lv_iload_n hx hb dX0_bodyOf_10 rfl (lv_at hl 1 rfl) ?_
  refine lv_if_lt (tgt := 69) hx hb dX0_bodyOf_11 (by decide) (fun c_0 => absurd c_0 (by decide)) (fun _ => ?_)
  refine lv_iload_n hx hb dX0_bodyOf_14 rfl (lv_at hl 1 rfl) ?_
  refine lv_bipush (v := 7) hx hb dX0_bodyOf_15 (by decide) ?_
  refine lv_icmp_ge (tgt := 69) hx hb dX0_bodyOf_17 (by decide) (fun c_0 => absurd c_0 (by decide)) (fun _ => ?_)
  refine lv_iload_n hx hb dX0_bodyOf_20 rfl (lv_at hl 1 rfl) ?_
  refine lv_iconst (v := 3) hx hb dX0_bodyOf_21 (by decide) ?_
  refine lv_imul hx hb dX0_bodyOf_22 ?_
  refine lv_ci 9 (by decide +kernel) ?_
  refine lv_iload_n hx hb dX0_bodyOf_23 rfl (lv_at hl 4 rfl) ?_
  refine lv_iadd hx hb dX0_bodyOf_24 ?_
  refine lv_ci 11 (by decide +kernel) ?_
  refine lv_istore (lv' := [(4, .int 11), (3, .int 1), (2, .int 3), (0, .int 6), (1, .int 2)]) hx hb dX0_bodyOf_25 hl (by decide) rfl (fun ls hl => ?_)
  refine lv_iload hx hb dX0_bodyOf_27 (lv_at hl 0 rfl) ?_
  refine lv_if_lt (tgt := 57) hx hb dX0_bodyOf_29 (by decide) (fun c_0 => absurd c_0 (by decide)) (fun _ => ?_)
  refine lv_iload hx hb dX0_bodyOf_32 (lv_at hl 0 rfl) ?_
  refine va_gets hx hb hbz hS hown (hT _ wf_X0_42) (fun _ h9 => h9) dX0_bodyOf_34 ?_
  refine va_tlen hx hb hbT hS (v := 21) rfl dX0_bodyOf_37 ?_
  refine lv_icmp_ge (tgt := 57) hx hb dX0_bodyOf_38 (by decide) (fun c_0 => absurd c_0 (by decide)) (fun _ => ?_)
  refine va_gets hx hb hbz hS hown (hT _ wf_X0_42) (fun _ h9 => h9) dX0_bodyOf_41 ?_
  refine lv_iload hx hb dX0_bodyOf_44 (lv_at hl 0 rfl) ?_
  refine va_ti hx hb hbT hS (vin _ _ (by decide +kernel)) (v := .int 31) rfl dX0_bodyOf_46 ?_
  refine lv_if_eq (tgt := 57) hx hb dX0_bodyOf_47 (by decide) (fun c_0 => absurd c_0 (by decide)) (fun _ => ?_)
  refine va_gets hx hb hbz hS hown (hT _ wf_X0_42) (fun _ h9 => h9) dX0_bodyOf_50 ?_
  refine lv_iload hx hb dX0_bodyOf_53 (lv_at hl 0 rfl) ?_
  refine va_ti hx hb hbT hS (vin _ _ (by decide +kernel)) (v := .int 31) rfl dX0_bodyOf_55 ?_
  exact retI C0 rfl () rfl (hP.sub (ws' := []) [] rfl) (hD.sub (ws' := []) [] (by decide) rfl) hS (Nat.le_of_ble_eq_true rfl) (Nat.le_of_ble_eq_true rfl) dX0_bodyOf_56

set_option maxHeartbeats 4000000 in
set_option maxRecDepth 100000 in
theorem c_ask_6_0_2 (l : Launch) (D : va_G) (cI cZ cQ cT : ClassId) (sz : Nat) (aa : Nat) (xx : Int32) (dp : Int32) (a1 : Nat) (rn : Int32) (sl : Int32) (vv : Int32) (fa : Nat → Int32)  : MetI l yX0_ask cX0_ask 7 .int ({ frames := 4, cells := 0, slots := 0, locals := 102 } : Room) [.ref aa, .int 0, .int 2, .int xx, .int dp] D (TYS cI cZ cQ cT) EF sz [(aa, .inr (0, [.ref a1, .int rn, .int sl, .int 6, .int vv])), (a1, .inl (cI, 20, .inl fa))] (S := Int32 × (Nat → Int32)) (fun (r : Int32) (_ : Int32 × (Nat → Int32)) => True) (fun u => [(aa, .inr (0, [.ref a1, .int u.1, .int sl, .int 6, .int vv])), (a1, .inl (cI, 20, .inl u.2))]) := by
  refine MetI.mk (lv := [(0, .ref aa), (1, .int 0), (2, .int 2), (3, .int xx), (4, .int dp)]) (by decide +kernel) (Nat.le_of_ble_eq_true rfl) rfl ?_
  intro p e s m below meth c A ls C0 hP hD hS hX hl
  have C1 := C0
  obtain ⟨hx, hb, hr, hml, hown, hlocks, hname, hT, hN, hK, hA⟩ := C1
  refine lv_iload_n hx hb dX0_ask_0 rfl (lv_at hl 1 rfl) ?_
  refine lv_iload_n hx hb dX0_ask_1 rfl (lv_at hl 2 rfl) ?_
  refine contI (wc := []) (wr := [(aa, .inr (0, [.ref a1, .int rn, .int sl, .int 6, .int vv])), (a1, .inl (cI, 20, .inl fa))]) C0 hP hD hS [] [0, 1] rfl rfl (by decide) (by decide) 0 0 (Nat.le_of_ble_eq_true rfl) (Nat.le_of_ble_eq_true rfl) (runS (k := 2) (As := [.int 0, .int 2]) (rest := []) C0 (c_bodyOf_0_2 l D cI cZ cQ cT _ ) wc_X0_bodyOf wl_X0_48 wt_X0_bodyOf wz_X0 ⟨by decide, by decide, by decide +kernel⟩ ⟨(Nat.le_of_ble_eq_true rfl), (Nat.le_of_ble_eq_true rfl)⟩ hP hD hS EF.ok hX [] rfl (by decide) rfl hl.1 rfl (Nat.le_of_ble_eq_true rfl) dX0_ask_2 ⟨(Nat.le_of_ble_eq_true rfl), (Nat.le_of_ble_eq_true rfl)⟩) (fun r_3 u_1 H locs w_2 hP hD hS => ?_)
  have hP : va_P D CL [(aa, .inr (0, [.ref a1, .int rn, .int sl, .int 6, .int vv])), (a1, .inl (cI, 20, .inl fa))] H := hP
  have hD : va_D A [(aa, .inr (0, [.ref a1, .int rn, .int sl, .int 6, .int vv])), (a1, .inl (cI, 20, .inl fa))] := hD
  obtain rfl : r_3 = 3 := w_2
  refine lv_istore (lv' := [(5, .int 3), (0, .ref aa), (1, .int 0), (2, .int 2), (3, .int xx), (4, .int dp)]) hx hb dX0_ask_5 hl (by decide) rfl (fun ls hl => ?_)
  refine lv_iload hx hb dX0_ask_7 (lv_at hl 0 rfl) ?_
  refine lv_if_eq (tgt := 19) hx hb dX0_ask_9 (by decide) (fun c_0 => absurd c_0 (by decide)) (fun _ => ?_)
  refine lv_iload hx hb dX0_ask_12 (lv_at hl 5 rfl) ?_
  refine lv_bipush (v := 40) hx hb dX0_ask_14 (by decide) ?_
  refine lv_icmp_le (tgt := 21) hx hb dX0_ask_16 (by decide) (fun c_4 => ?_) (fun c_4 => ?_)
  · refine lv_aload_n hx hb dX0_ask_21 rfl (lv_at hl 1 rfl) ?_
    refine lv_iload hx hb dX0_ask_22 (lv_at hl 0 rfl) ?_
    refine contV (wc := [(aa, .inr (0, [.ref a1, .int rn, .int sl, .int 6, .int vv])), (a1, .inl (cI, 20, .inl fa))]) (wr := []) C0 hP hD hS [0, 1] [] rfl rfl (by decide) (by decide) 0 0 (Nat.le_of_ble_eq_true rfl) (Nat.le_of_ble_eq_true rfl) (runV (k := 1) (As := [.int 3]) (rest := []) C0 (c_begin l D cI cZ cQ cT _ aa 3 a1 rn sl 6 vv fa) wc_X0_begin wl_X0_52 wi_X0_begin we_X0_begin wz_X0 ⟨by decide, by decide, by decide +kernel⟩ ⟨(Nat.le_of_ble_eq_true rfl), (Nat.le_of_ble_eq_true rfl)⟩ hP hD hS EF.ok hX [0, 1] rfl (by decide) 0 rfl rfl rfl rfl hl.1 rfl (Nat.le_of_ble_eq_true rfl) dX0_ask_24 ⟨(Nat.le_of_ble_eq_true rfl), (Nat.le_of_ble_eq_true rfl)⟩) (fun u_7 H locs w_8 hP hD hS => ?_)
    obtain ⟨rnZ_5, faZ_6⟩ := u_7
    have hP : va_P D CL [(aa, .inr (0, [.ref a1, .int rnZ_5, .int sl, .int 6, .int vv])), (a1, .inl (cI, 20, .inl faZ_6))] H := hP
    have hD : va_D A [(aa, .inr (0, [.ref a1, .int rnZ_5, .int sl, .int 6, .int vv])), (a1, .inl (cI, 20, .inl faZ_6))] := hD
    refine lv_iload hx hb dX0_ask_27 (lv_at hl 5 rfl) ?_
    refine lv_iconst (v := 1) hx hb dX0_ask_29 (by decide) ?_
    refine lv_iadd hx hb dX0_ask_30 ?_
    refine lv_istore (lv' := [(6, .int (dp + (1 : Int32))), (5, .int 3), (0, .ref aa), (1, .int 0), (2, .int 2), (3, .int xx), (4, .int dp)]) hx hb dX0_ask_31 hl (by decide) rfl (fun ls hl => ?_)
    refine lv_iload hx hb dX0_ask_33 (lv_at hl 1 rfl) ?_
    refine lv_lookup (off := 106) (tgt := 141) hx hb dX0_ask_35 (by decide) (by decide) (by decide) ?_
    refine lv_aload_n hx hb dX0_ask_141 rfl (lv_at hl 2 rfl) ?_
    refine lv_aload_n hx hb dX0_ask_142 rfl (lv_at hl 2 rfl) ?_
    refine va_get (ci := 0) (v := .int 6) (C := RX0) (T := TX0) (N := 5) hx hb hT wu_X0 hown hK hP 0 rfl rfl 3 (by decide) (hT _ wf_X0_31) (fun _ h9 => h9) rfl dX0_ask_143 ?_
    refine lv_iconst (v := 1) hx hb dX0_ask_146 (by decide) ?_
    refine lv_iload_n hx hb dX0_ask_147 rfl (lv_at hl 5 rfl) ?_
    refine lv_iload hx hb dX0_ask_148 (lv_at hl 0 rfl) ?_
    refine contI (wc := [(aa, .inr (0, [.ref a1, .int rnZ_5, .int sl, .int 6, .int vv])), (a1, .inl (cI, 20, .inl faZ_6))]) (wr := []) C0 hP hD hS [0, 1] [] rfl rfl (by decide) (by decide) 0 0 (Nat.le_of_ble_eq_true rfl) (Nat.le_of_ble_eq_true rfl) (runV (k := 4) (As := [.int 6, .int 1, .int xx, .int (dp + (1 : Int32))]) (rest := []) C0 (c_ask_6_6_1 l D cI cZ cQ cT _ aa xx (dp + (1 : Int32)) a1 rnZ_5 sl vv faZ_6) wc_X0_ask wl_X0_38 wi_X0_ask we_X0_ask wz_X0 ⟨by decide, by decide, by decide +kernel⟩ ⟨(Nat.le_of_ble_eq_true rfl), (Nat.le_of_ble_eq_true rfl)⟩ hP hD hS EF.ok hX [0, 1] rfl (by decide) 0 rfl rfl rfl rfl hl.1 rfl (Nat.le_of_ble_eq_true rfl) dX0_ask_150 ⟨(Nat.le_of_ble_eq_true rfl), (Nat.le_of_ble_eq_true rfl)⟩) (fun r_14 u_12 H locs w_13 hP hD hS => ?_)
    obtain ⟨rnZ_10, faZ_11⟩ := u_12
    have hP : va_P D CL [(aa, .inr (0, [.ref a1, .int rnZ_10, .int sl, .int 6, .int vv])), (a1, .inl (cI, 20, .inl faZ_11))] H := hP
    have hD : va_D A [(aa, .inr (0, [.ref a1, .int rnZ_10, .int sl, .int 6, .int vv])), (a1, .inl (cI, 20, .inl faZ_11))] := hD
    refine lv_iconst (v := 2) hx hb dX0_ask_153 (by decide) ?_
    refine lv_imul hx hb dX0_ask_154 ?_
    exact retI C0 rfl (rnZ_10, faZ_11) trivial (hP.sub (ws' := [(aa, .inr (0, [.ref a1, .int rnZ_10, .int sl, .int 6, .int vv])), (a1, .inl (cI, 20, .inl faZ_11))]) [0, 1] rfl) (hD.sub (ws' := [(aa, .inr (0, [.ref a1, .int rnZ_10, .int sl, .int 6, .int vv])), (a1, .inl (cI, 20, .inl faZ_11))]) [0, 1] (by decide) rfl) hS (Nat.le_of_ble_eq_true rfl) (Nat.le_of_ble_eq_true rfl) dX0_ask_155
  · refine lv_iconst (v := 0) hx hb dX0_ask_19 (by decide) ?_
    exact retI C0 rfl (rn, fa) trivial (hP.sub (ws' := [(aa, .inr (0, [.ref a1, .int rn, .int sl, .int 6, .int vv])), (a1, .inl (cI, 20, .inl fa))]) [0, 1] rfl) (hD.sub (ws' := [(aa, .inr (0, [.ref a1, .int rn, .int sl, .int 6, .int vv])), (a1, .inl (cI, 20, .inl fa))]) [0, 1] (by decide) rfl) hS (Nat.le_of_ble_eq_true rfl) (Nat.le_of_ble_eq_true rfl) dX0_ask_20

set_option maxHeartbeats 4000000 in
set_option maxRecDepth 100000 in
theorem c_ask_6_6_2 (l : Launch) (D : va_G) (cI cZ cQ cT : ClassId) (sz : Nat) (aa : Nat) (xx : Int32) (dp : Int32) (a1 : Nat) (rn : Int32) (sl : Int32) (vv : Int32) (fa : Nat → Int32)  : MetI l yX0_ask cX0_ask 7 .int ({ frames := 5, cells := 0, slots := 0, locals := 128 } : Room) [.ref aa, .int 6, .int 2, .int xx, .int dp] D (TYS cI cZ cQ cT) EF sz [(aa, .inr (0, [.ref a1, .int rn, .int sl, .int 6, .int vv])), (a1, .inl (cI, 20, .inl fa))] (S := Int32 × (Nat → Int32)) (fun (r : Int32) (_ : Int32 × (Nat → Int32)) => True) (fun u => [(aa, .inr (0, [.ref a1, .int u.1, .int sl, .int 6, .int vv])), (a1, .inl (cI, 20, .inl u.2))]) := by
  refine MetI.mk (lv := [(0, .ref aa), (1, .int 6), (2, .int 2), (3, .int xx), (4, .int dp)]) (by decide +kernel) (Nat.le_of_ble_eq_true rfl) rfl ?_
  intro p e s m below meth c A ls C0 hP hD hS hX hl
  have C1 := C0
  obtain ⟨hx, hb, hr, hml, hown, hlocks, hname, hT, hN, hK, hA⟩ := C1
  refine lv_iload_n hx hb dX0_ask_0 rfl (lv_at hl 1 rfl) ?_
  refine lv_iload_n hx hb dX0_ask_1 rfl (lv_at hl 2 rfl) ?_
  refine contI (wc := []) (wr := [(aa, .inr (0, [.ref a1, .int rn, .int sl, .int 6, .int vv])), (a1, .inl (cI, 20, .inl fa))]) C0 hP hD hS [] [0, 1] rfl rfl (by decide) (by decide) 0 0 (Nat.le_of_ble_eq_true rfl) (Nat.le_of_ble_eq_true rfl) (runS (k := 2) (As := [.int 6, .int 2]) (rest := []) C0 (c_bodyOf_6_2 l D cI cZ cQ cT _ ) wc_X0_bodyOf wl_X0_48 wt_X0_bodyOf wz_X0 ⟨by decide, by decide, by decide +kernel⟩ ⟨(Nat.le_of_ble_eq_true rfl), (Nat.le_of_ble_eq_true rfl)⟩ hP hD hS EF.ok hX [] rfl (by decide) rfl hl.1 rfl (Nat.le_of_ble_eq_true rfl) dX0_ask_2 ⟨(Nat.le_of_ble_eq_true rfl), (Nat.le_of_ble_eq_true rfl)⟩) (fun r_3 u_1 H locs w_2 hP hD hS => ?_)
  have hP : va_P D CL [(aa, .inr (0, [.ref a1, .int rn, .int sl, .int 6, .int vv])), (a1, .inl (cI, 20, .inl fa))] H := hP
  have hD : va_D A [(aa, .inr (0, [.ref a1, .int rn, .int sl, .int 6, .int vv])), (a1, .inl (cI, 20, .inl fa))] := hD
  obtain rfl : r_3 = 31 := w_2
  refine lv_istore (lv' := [(5, .int 31), (0, .ref aa), (1, .int 6), (2, .int 2), (3, .int xx), (4, .int dp)]) hx hb dX0_ask_5 hl (by decide) rfl (fun ls hl => ?_)
  refine lv_iload hx hb dX0_ask_7 (lv_at hl 0 rfl) ?_
  refine lv_if_eq (tgt := 19) hx hb dX0_ask_9 (by decide) (fun c_0 => absurd c_0 (by decide)) (fun _ => ?_)
  refine lv_iload hx hb dX0_ask_12 (lv_at hl 5 rfl) ?_
  refine lv_bipush (v := 40) hx hb dX0_ask_14 (by decide) ?_
  refine lv_icmp_le (tgt := 21) hx hb dX0_ask_16 (by decide) (fun c_4 => ?_) (fun c_4 => ?_)
  · refine lv_aload_n hx hb dX0_ask_21 rfl (lv_at hl 1 rfl) ?_
    refine lv_iload hx hb dX0_ask_22 (lv_at hl 0 rfl) ?_
    refine contV (wc := [(aa, .inr (0, [.ref a1, .int rn, .int sl, .int 6, .int vv])), (a1, .inl (cI, 20, .inl fa))]) (wr := []) C0 hP hD hS [0, 1] [] rfl rfl (by decide) (by decide) 0 0 (Nat.le_of_ble_eq_true rfl) (Nat.le_of_ble_eq_true rfl) (runV (k := 1) (As := [.int 31]) (rest := []) C0 (c_begin l D cI cZ cQ cT _ aa 31 a1 rn sl 6 vv fa) wc_X0_begin wl_X0_52 wi_X0_begin we_X0_begin wz_X0 ⟨by decide, by decide, by decide +kernel⟩ ⟨(Nat.le_of_ble_eq_true rfl), (Nat.le_of_ble_eq_true rfl)⟩ hP hD hS EF.ok hX [0, 1] rfl (by decide) 0 rfl rfl rfl rfl hl.1 rfl (Nat.le_of_ble_eq_true rfl) dX0_ask_24 ⟨(Nat.le_of_ble_eq_true rfl), (Nat.le_of_ble_eq_true rfl)⟩) (fun u_7 H locs w_8 hP hD hS => ?_)
    obtain ⟨rnZ_5, faZ_6⟩ := u_7
    have hP : va_P D CL [(aa, .inr (0, [.ref a1, .int rnZ_5, .int sl, .int 6, .int vv])), (a1, .inl (cI, 20, .inl faZ_6))] H := hP
    have hD : va_D A [(aa, .inr (0, [.ref a1, .int rnZ_5, .int sl, .int 6, .int vv])), (a1, .inl (cI, 20, .inl faZ_6))] := hD
    refine lv_iload hx hb dX0_ask_27 (lv_at hl 5 rfl) ?_
    refine lv_iconst (v := 1) hx hb dX0_ask_29 (by decide) ?_
    refine lv_iadd hx hb dX0_ask_30 ?_
    refine lv_istore (lv' := [(6, .int (dp + (1 : Int32))), (5, .int 31), (0, .ref aa), (1, .int 6), (2, .int 2), (3, .int xx), (4, .int dp)]) hx hb dX0_ask_31 hl (by decide) rfl (fun ls hl => ?_)
    refine lv_iload hx hb dX0_ask_33 (lv_at hl 1 rfl) ?_
    refine lv_lookup (off := 144) (tgt := 179) hx hb dX0_ask_35 (by decide) (by decide) (by decide) ?_
    refine lv_aload_n hx hb dX0_ask_179 rfl (lv_at hl 2 rfl) ?_
    refine lv_iconst (v := 0) hx hb dX0_ask_180 (by decide) ?_
    refine lv_iconst (v := 2) hx hb dX0_ask_181 (by decide) ?_
    refine lv_iload_n hx hb dX0_ask_182 rfl (lv_at hl 5 rfl) ?_
    refine lv_iload hx hb dX0_ask_183 (lv_at hl 0 rfl) ?_
    refine contI (wc := [(aa, .inr (0, [.ref a1, .int rnZ_5, .int sl, .int 6, .int vv])), (a1, .inl (cI, 20, .inl faZ_6))]) (wr := []) C0 hP hD hS [0, 1] [] rfl rfl (by decide) (by decide) 0 0 (Nat.le_of_ble_eq_true rfl) (Nat.le_of_ble_eq_true rfl) (runV (k := 4) (As := [.int 0, .int 2, .int xx, .int (dp + (1 : Int32))]) (rest := []) C0 (c_ask_6_0_2 l D cI cZ cQ cT _ aa xx (dp + (1 : Int32)) a1 rnZ_5 sl vv faZ_6) wc_X0_ask wl_X0_38 wi_X0_ask we_X0_ask wz_X0 ⟨by decide, by decide, by decide +kernel⟩ ⟨(Nat.le_of_ble_eq_true rfl), (Nat.le_of_ble_eq_true rfl)⟩ hP hD hS EF.ok hX [0, 1] rfl (by decide) 0 rfl rfl rfl rfl hl.1 rfl (Nat.le_of_ble_eq_true rfl) dX0_ask_185 ⟨(Nat.le_of_ble_eq_true rfl), (Nat.le_of_ble_eq_true rfl)⟩) (fun r_14 u_12 H locs w_13 hP hD hS => ?_)
    obtain ⟨rnZ_10, faZ_11⟩ := u_12
    have hP : va_P D CL [(aa, .inr (0, [.ref a1, .int rnZ_10, .int sl, .int 6, .int vv])), (a1, .inl (cI, 20, .inl faZ_11))] H := hP
    have hD : va_D A [(aa, .inr (0, [.ref a1, .int rnZ_10, .int sl, .int 6, .int vv])), (a1, .inl (cI, 20, .inl faZ_11))] := hD
    refine lv_bipush (v := 7) hx hb dX0_ask_188 (by decide) ?_
    refine lv_ixor hx hb dX0_ask_190 ?_
    exact retI C0 rfl (rnZ_10, faZ_11) trivial (hP.sub (ws' := [(aa, .inr (0, [.ref a1, .int rnZ_10, .int sl, .int 6, .int vv])), (a1, .inl (cI, 20, .inl faZ_11))]) [0, 1] rfl) (hD.sub (ws' := [(aa, .inr (0, [.ref a1, .int rnZ_10, .int sl, .int 6, .int vv])), (a1, .inl (cI, 20, .inl faZ_11))]) [0, 1] (by decide) rfl) hS (Nat.le_of_ble_eq_true rfl) (Nat.le_of_ble_eq_true rfl) dX0_ask_191
  · refine lv_iconst (v := 0) hx hb dX0_ask_19 (by decide) ?_
    exact retI C0 rfl (rn, fa) trivial (hP.sub (ws' := [(aa, .inr (0, [.ref a1, .int rn, .int sl, .int 6, .int vv])), (a1, .inl (cI, 20, .inl fa))]) [0, 1] rfl) (hD.sub (ws' := [(aa, .inr (0, [.ref a1, .int rn, .int sl, .int 6, .int vv])), (a1, .inl (cI, 20, .inl fa))]) [0, 1] (by decide) rfl) hS (Nat.le_of_ble_eq_true rfl) (Nat.le_of_ble_eq_true rfl) dX0_ask_20

set_option maxHeartbeats 4000000 in
set_option maxRecDepth 100000 in
theorem c_start_2 (l : Launch) (D : va_G) (cI cZ cQ cT : ClassId) (sz : Nat) (aa : Nat) (af : Nat) (xx : Int32) (a1 : Nat) (rn : Int32) (sl : Int32) (kd : Int32) (vv : Int32) (fa : Nat → Int32) (ak : Nat) (av : Nat) (ar : Nat) (nt : Int32) (yd : Int32) (fk : Nat → Int32) (fv : Nat → Int32) (P : Nat) (pn : Nat) (hKD : KD fk) (hP4 : P ≤ 4) (hpn : pn < 4) : MetI l yX0_start cX0_start 5 .int ({ frames := 6, cells := 0, slots := 0, locals := 154 } : Room) [.ref aa, .ref af, .int (nI pn), .int 2, .int xx] D (TYS cI cZ cQ cT) EF sz [(aa, .inr (0, [.ref a1, .int rn, .int sl, .int kd, .int vv])), (a1, .inl (cI, 20, .inl fa)), (af, .inr (2, [.ref ak, .ref av, .ref ar, .int (nI P), .int nt, .int yd])), (ak, .inl (cI, 4, .inl fk)), (av, .inl (cI, 4, .inl fv))] (S := Int32 × Int32 × Int32 × Int32 × (Nat → Int32)) (fun (r : Int32) (_ : Int32 × Int32 × Int32 × Int32 × (Nat → Int32)) => True) (fun u => [(aa, .inr (0, [.ref a1, .int u.1, .int u.2.1, .int u.2.2.1, .int u.2.2.2.1])), (a1, .inl (cI, 20, .inl u.2.2.2.2)), (af, .inr (2, [.ref ak, .ref av, .ref ar, .int (nI P), .int nt, .int yd])), (ak, .inl (cI, 4, .inl fk)), (av, .inl (cI, 4, .inl fv))]) := by
  refine MetI.mk (lv := [(0, .ref aa), (1, .ref af), (2, .int (nI pn)), (3, .int 2), (4, .int xx)]) (by decide +kernel) (Nat.le_of_ble_eq_true rfl) rfl ?_
  intro p e s m below meth c A ls C0 hP hD hS hX hl
  have C1 := C0
  obtain ⟨hx, hb, hr, hml, hown, hlocks, hname, hT, hN, hK, hA⟩ := C1
  have hd8 := d8_le hP4; have hd0 := d8_pos P
  refine lv_aload_n hx hb dX0_start_0 rfl (lv_at hl 1 rfl) ?_
  refine lv_iload_n hx hb dX0_start_1 rfl (lv_at hl 2 rfl) ?_
  refine contI (wc := [(af, .inr (2, [.ref ak, .ref av, .ref ar, .int (nI P), .int nt, .int yd]))]) (wr := [(aa, .inr (0, [.ref a1, .int rn, .int sl, .int kd, .int vv])), (a1, .inl (cI, 20, .inl fa)), (ak, .inl (cI, 4, .inl fk)), (av, .inl (cI, 4, .inl fv))]) C0 hP hD hS [2] [0, 1, 3, 4] rfl rfl (by decide) (by decide) 0 0 (Nat.le_of_ble_eq_true rfl) (Nat.le_of_ble_eq_true rfl) (runVN (k := 1) (As := [.int (nI pn)]) (rest := []) "DayKnown" 740 C0 (c_has l D cI cZ cQ cT _ af (nI pn) ak av ar nt yd P (by omega)) wc_X2_has kl_X0_19 wi_X2_has we_X2_has wz_X2 ⟨by decide, by decide, by decide +kernel⟩ ⟨(Nat.le_of_ble_eq_true rfl), (Nat.le_of_ble_eq_true rfl)⟩ hP hD hS EF.ok hX [2] rfl (by decide) 2 rfl rfl rfl rfl hl.1 rfl (Nat.le_of_ble_eq_true rfl) dX0_start_2 ⟨(Nat.le_of_ble_eq_true rfl), (Nat.le_of_ble_eq_true rfl)⟩) (fun r_3 u_1 H locs w_2 hP hD hS => ?_)
  have hP : va_P D CL [(aa, .inr (0, [.ref a1, .int rn, .int sl, .int kd, .int vv])), (a1, .inl (cI, 20, .inl fa)), (ak, .inl (cI, 4, .inl fk)), (av, .inl (cI, 4, .inl fv)), (af, .inr (2, [.ref ak, .ref av, .ref ar, .int (nI P), .int nt, .int yd]))] H := hP
  have hD : va_D A [(aa, .inr (0, [.ref a1, .int rn, .int sl, .int kd, .int vv])), (a1, .inl (cI, 20, .inl fa)), (ak, .inl (cI, 4, .inl fk)), (av, .inl (cI, 4, .inl fv)), (af, .inr (2, [.ref ak, .ref av, .ref ar, .int (nI P), .int nt, .int yd]))] := hD
  refine (Decidable.em ((0 ≤ (nI pn) ∧ (nI pn) < nI P))).elim (fun c_4 => ?_) (fun c_4 => ?_)
  · obtain rfl : r_3 = 1 := w_2.trans (if_pos c_4)
    have hpn_5 : pn < P := (nI_ltI (a := pn) (b := P) (by omega) (by omega)).mp c_4.2
    refine lv_if_ne (tgt := 10) hx hb dX0_start_5 (by decide) (fun _ => ?_) (fun c_0 => absurd c_0 (by decide))
    refine lv_aload_n hx hb dX0_start_10 rfl (lv_at hl 0 rfl) ?_
    refine lv_iload_n hx hb dX0_start_11 rfl (lv_at hl 2 rfl) ?_
    refine va_put (ci := 0) (v := .int (nI pn)) (ty := .int) (C := RX0) (T := TX0) (N := 5) hx hb hT wu_X0 tyX0 tyX0_ok nmX0 hown hK hP hD hS 0 rfl rfl 2 (by decide) (hT _ wf_X0_25) (fun _ h9 => h9) rfl (by decide +kernel) rfl rfl (Nat.le_of_ble_eq_true rfl) dX0_start_12 (fun H locs hP hD hS => ?_)
    have hP : va_P D CL [(aa, .inr (0, [.ref a1, .int rn, .int (nI pn), .int kd, .int vv])), (a1, .inl (cI, 20, .inl fa)), (ak, .inl (cI, 4, .inl fk)), (av, .inl (cI, 4, .inl fv)), (af, .inr (2, [.ref ak, .ref av, .ref ar, .int (nI P), .int nt, .int yd]))] H := hP
    have hD : va_D A [(aa, .inr (0, [.ref a1, .int rn, .int (nI pn), .int kd, .int vv])), (a1, .inl (cI, 20, .inl fa)), (ak, .inl (cI, 4, .inl fk)), (av, .inl (cI, 4, .inl fv)), (af, .inr (2, [.ref ak, .ref av, .ref ar, .int (nI P), .int nt, .int yd]))] := hD
    refine lv_aload_n hx hb dX0_start_15 rfl (lv_at hl 0 rfl) ?_
    refine lv_aload_n hx hb dX0_start_16 rfl (lv_at hl 1 rfl) ?_
    refine va_getN (ci := 2) (v := .ref ak) (C := RX2) (T := TX2) (N := 6) hx hb hT wu_X2 hown hK hP 4 rfl rfl 0 (by decide) (va_Nw.use rfl (hN.get 133 kf_X0_28 rfl)) (fun _ h9 => h9) rfl dX0_start_17 ?_
    refine lv_iload_n hx hb dX0_start_20 rfl (lv_at hl 2 rfl) ?_
    refine va_iald hx hb hK hP 2 0 rfl rfl (vp_in_nI (n := pn) (by omega) (by decide)) dX0_start_21 ?_
    refine lv_ci (fk pn) (congrArg fk (nI_clamp (n := pn) (by omega))) ?_
    obtain ⟨kk_6, hkk_7, ekk_8⟩ := hKD (pn) (by omega)
    refine lv_ci (nI kk_6) ekk_8 ?_
    rcases (show kk_6 = 0 ∨ kk_6 = 1 ∨ kk_6 = 2 ∨ kk_6 = 3 ∨ kk_6 = 4 ∨ kk_6 = 5 ∨ kk_6 = 6 by omega) with hk7_9 | hk7_9 | hk7_9 | hk7_9 | hk7_9 | hk7_9 | hk7_9
    · skip
      refine lv_ci 0 (by rw [hk7_9]; rfl) ?_
      refine va_put (ci := 0) (v := .int 0) (ty := .int) (C := RX0) (T := TX0) (N := 5) hx hb hT wu_X0 tyX0 tyX0_ok nmX0 hown hK hP hD hS 0 rfl rfl 3 (by decide) (hT _ wf_X0_31) (fun _ h9 => h9) rfl (by decide +kernel) rfl rfl (Nat.le_of_ble_eq_true rfl) dX0_start_22 (fun H locs hP hD hS => ?_)
      have hP : va_P D CL [(aa, .inr (0, [.ref a1, .int rn, .int (nI pn), .int 0, .int vv])), (a1, .inl (cI, 20, .inl fa)), (ak, .inl (cI, 4, .inl fk)), (av, .inl (cI, 4, .inl fv)), (af, .inr (2, [.ref ak, .ref av, .ref ar, .int (nI P), .int nt, .int yd]))] H := hP
      have hD : va_D A [(aa, .inr (0, [.ref a1, .int rn, .int (nI pn), .int 0, .int vv])), (a1, .inl (cI, 20, .inl fa)), (ak, .inl (cI, 4, .inl fk)), (av, .inl (cI, 4, .inl fv)), (af, .inr (2, [.ref ak, .ref av, .ref ar, .int (nI P), .int nt, .int yd]))] := hD
      refine lv_aload_n hx hb dX0_start_25 rfl (lv_at hl 0 rfl) ?_
      refine lv_aload_n hx hb dX0_start_26 rfl (lv_at hl 1 rfl) ?_
      refine va_getN (ci := 2) (v := .ref av) (C := RX2) (T := TX2) (N := 6) hx hb hT wu_X2 hown hK hP 4 rfl rfl 1 (by decide) (va_Nw.use rfl (hN.get 137 kf_X0_33 rfl)) (fun _ h9 => h9) rfl dX0_start_27 ?_
      refine lv_iload_n hx hb dX0_start_30 rfl (lv_at hl 2 rfl) ?_
      refine va_iald hx hb hK hP 3 0 rfl rfl (vp_in_nI (n := pn) (by omega) (by decide)) dX0_start_31 ?_
      refine lv_ci (fv pn) (congrArg fv (nI_clamp (n := pn) (by omega))) ?_
      refine va_put (ci := 0) (v := .int (fv pn)) (ty := .int) (C := RX0) (T := TX0) (N := 5) hx hb hT wu_X0 tyX0 tyX0_ok nmX0 hown hK hP hD hS 0 rfl rfl 4 (by decide) (hT _ wf_X0_36) (fun _ h9 => h9) rfl (by decide +kernel) rfl rfl (Nat.le_of_ble_eq_true rfl) dX0_start_32 (fun H locs hP hD hS => ?_)
      have hP : va_P D CL [(aa, .inr (0, [.ref a1, .int rn, .int (nI pn), .int 0, .int (fv pn)])), (a1, .inl (cI, 20, .inl fa)), (ak, .inl (cI, 4, .inl fk)), (av, .inl (cI, 4, .inl fv)), (af, .inr (2, [.ref ak, .ref av, .ref ar, .int (nI P), .int nt, .int yd]))] H := hP
      have hD : va_D A [(aa, .inr (0, [.ref a1, .int rn, .int (nI pn), .int 0, .int (fv pn)])), (a1, .inl (cI, 20, .inl fa)), (ak, .inl (cI, 4, .inl fk)), (av, .inl (cI, 4, .inl fv)), (af, .inr (2, [.ref ak, .ref av, .ref ar, .int (nI P), .int nt, .int yd]))] := hD
      refine lv_aload_n hx hb dX0_start_35 rfl (lv_at hl 0 rfl) ?_
      refine lv_aload_n hx hb dX0_start_36 rfl (lv_at hl 0 rfl) ?_
      refine va_get (ci := 0) (v := .int 0) (C := RX0) (T := TX0) (N := 5) hx hb hT wu_X0 hown hK hP 0 rfl rfl 3 (by decide) (hT _ wf_X0_31) (fun _ h9 => h9) rfl dX0_start_37 ?_
      refine lv_iload_n hx hb dX0_start_40 rfl (lv_at hl 3 rfl) ?_
      refine lv_iload hx hb dX0_start_41 (lv_at hl 4 rfl) ?_
      refine lv_iconst (v := 0) hx hb dX0_start_43 (by decide) ?_
      refine contI (wc := [(aa, .inr (0, [.ref a1, .int rn, .int (nI pn), .int 0, .int (fv pn)])), (a1, .inl (cI, 20, .inl fa))]) (wr := [(ak, .inl (cI, 4, .inl fk)), (av, .inl (cI, 4, .inl fv)), (af, .inr (2, [.ref ak, .ref av, .ref ar, .int (nI P), .int nt, .int yd]))]) C0 hP hD hS [0, 1] [2, 3, 4] rfl rfl (by decide) (by decide) 0 0 (Nat.le_of_ble_eq_true rfl) (Nat.le_of_ble_eq_true rfl) (runV (k := 4) (As := [.int 0, .int 2, .int xx, .int 0]) (rest := []) C0 (c_ask_0_0_2 l D cI cZ cQ cT _ aa xx 0 a1 rn (nI pn) (fv pn) fa) wc_X0_ask wl_X0_38 wi_X0_ask we_X0_ask wz_X0 ⟨by decide, by decide, by decide +kernel⟩ ⟨(Nat.le_of_ble_eq_true rfl), (Nat.le_of_ble_eq_true rfl)⟩ hP hD hS EF.ok hX [0, 1] rfl (by decide) 0 rfl rfl rfl rfl hl.1 rfl (Nat.le_of_ble_eq_true rfl) dX0_start_44 ⟨(Nat.le_of_ble_eq_true rfl), (Nat.le_of_ble_eq_true rfl)⟩) (fun r_14 u_12 H locs w_13 hP hD hS => ?_)
      obtain ⟨rnZ_10, faZ_11⟩ := u_12
      have hP : va_P D CL [(ak, .inl (cI, 4, .inl fk)), (av, .inl (cI, 4, .inl fv)), (af, .inr (2, [.ref ak, .ref av, .ref ar, .int (nI P), .int nt, .int yd])), (aa, .inr (0, [.ref a1, .int rnZ_10, .int (nI pn), .int 0, .int (fv pn)])), (a1, .inl (cI, 20, .inl faZ_11))] H := hP
      have hD : va_D A [(ak, .inl (cI, 4, .inl fk)), (av, .inl (cI, 4, .inl fv)), (af, .inr (2, [.ref ak, .ref av, .ref ar, .int (nI P), .int nt, .int yd])), (aa, .inr (0, [.ref a1, .int rnZ_10, .int (nI pn), .int 0, .int (fv pn)])), (a1, .inl (cI, 20, .inl faZ_11))] := hD
      exact retI C0 rfl (rnZ_10, (nI pn), 0, (fv pn), faZ_11) trivial (hP.sub (ws' := [(aa, .inr (0, [.ref a1, .int rnZ_10, .int (nI pn), .int 0, .int (fv pn)])), (a1, .inl (cI, 20, .inl faZ_11)), (af, .inr (2, [.ref ak, .ref av, .ref ar, .int (nI P), .int nt, .int yd])), (ak, .inl (cI, 4, .inl fk)), (av, .inl (cI, 4, .inl fv))]) [3, 4, 2, 0, 1] rfl) (hD.sub (ws' := [(aa, .inr (0, [.ref a1, .int rnZ_10, .int (nI pn), .int 0, .int (fv pn)])), (a1, .inl (cI, 20, .inl faZ_11)), (af, .inr (2, [.ref ak, .ref av, .ref ar, .int (nI P), .int nt, .int yd])), (ak, .inl (cI, 4, .inl fk)), (av, .inl (cI, 4, .inl fv))]) [3, 4, 2, 0, 1] (by decide) rfl) hS (Nat.le_of_ble_eq_true rfl) (Nat.le_of_ble_eq_true rfl) dX0_start_47
    · skip
      refine lv_ci 1 (by rw [hk7_9]; rfl) ?_
      refine va_put (ci := 0) (v := .int 1) (ty := .int) (C := RX0) (T := TX0) (N := 5) hx hb hT wu_X0 tyX0 tyX0_ok nmX0 hown hK hP hD hS 0 rfl rfl 3 (by decide) (hT _ wf_X0_31) (fun _ h9 => h9) rfl (by decide +kernel) rfl rfl (Nat.le_of_ble_eq_true rfl) dX0_start_22 (fun H locs hP hD hS => ?_)
      have hP : va_P D CL [(aa, .inr (0, [.ref a1, .int rn, .int (nI pn), .int 1, .int vv])), (a1, .inl (cI, 20, .inl fa)), (ak, .inl (cI, 4, .inl fk)), (av, .inl (cI, 4, .inl fv)), (af, .inr (2, [.ref ak, .ref av, .ref ar, .int (nI P), .int nt, .int yd]))] H := hP
      have hD : va_D A [(aa, .inr (0, [.ref a1, .int rn, .int (nI pn), .int 1, .int vv])), (a1, .inl (cI, 20, .inl fa)), (ak, .inl (cI, 4, .inl fk)), (av, .inl (cI, 4, .inl fv)), (af, .inr (2, [.ref ak, .ref av, .ref ar, .int (nI P), .int nt, .int yd]))] := hD
      refine lv_aload_n hx hb dX0_start_25 rfl (lv_at hl 0 rfl) ?_
      refine lv_aload_n hx hb dX0_start_26 rfl (lv_at hl 1 rfl) ?_
      refine va_getN (ci := 2) (v := .ref av) (C := RX2) (T := TX2) (N := 6) hx hb hT wu_X2 hown hK hP 4 rfl rfl 1 (by decide) (va_Nw.use rfl (hN.get 137 kf_X0_33 rfl)) (fun _ h9 => h9) rfl dX0_start_27 ?_
      refine lv_iload_n hx hb dX0_start_30 rfl (lv_at hl 2 rfl) ?_
      refine va_iald hx hb hK hP 3 0 rfl rfl (vp_in_nI (n := pn) (by omega) (by decide)) dX0_start_31 ?_
      refine lv_ci (fv pn) (congrArg fv (nI_clamp (n := pn) (by omega))) ?_
      refine va_put (ci := 0) (v := .int (fv pn)) (ty := .int) (C := RX0) (T := TX0) (N := 5) hx hb hT wu_X0 tyX0 tyX0_ok nmX0 hown hK hP hD hS 0 rfl rfl 4 (by decide) (hT _ wf_X0_36) (fun _ h9 => h9) rfl (by decide +kernel) rfl rfl (Nat.le_of_ble_eq_true rfl) dX0_start_32 (fun H locs hP hD hS => ?_)
      have hP : va_P D CL [(aa, .inr (0, [.ref a1, .int rn, .int (nI pn), .int 1, .int (fv pn)])), (a1, .inl (cI, 20, .inl fa)), (ak, .inl (cI, 4, .inl fk)), (av, .inl (cI, 4, .inl fv)), (af, .inr (2, [.ref ak, .ref av, .ref ar, .int (nI P), .int nt, .int yd]))] H := hP
      have hD : va_D A [(aa, .inr (0, [.ref a1, .int rn, .int (nI pn), .int 1, .int (fv pn)])), (a1, .inl (cI, 20, .inl fa)), (ak, .inl (cI, 4, .inl fk)), (av, .inl (cI, 4, .inl fv)), (af, .inr (2, [.ref ak, .ref av, .ref ar, .int (nI P), .int nt, .int yd]))] := hD
      refine lv_aload_n hx hb dX0_start_35 rfl (lv_at hl 0 rfl) ?_
      refine lv_aload_n hx hb dX0_start_36 rfl (lv_at hl 0 rfl) ?_
      refine va_get (ci := 0) (v := .int 1) (C := RX0) (T := TX0) (N := 5) hx hb hT wu_X0 hown hK hP 0 rfl rfl 3 (by decide) (hT _ wf_X0_31) (fun _ h9 => h9) rfl dX0_start_37 ?_
      refine lv_iload_n hx hb dX0_start_40 rfl (lv_at hl 3 rfl) ?_
      refine lv_iload hx hb dX0_start_41 (lv_at hl 4 rfl) ?_
      refine lv_iconst (v := 0) hx hb dX0_start_43 (by decide) ?_
      refine contI (wc := [(aa, .inr (0, [.ref a1, .int rn, .int (nI pn), .int 1, .int (fv pn)])), (a1, .inl (cI, 20, .inl fa))]) (wr := [(ak, .inl (cI, 4, .inl fk)), (av, .inl (cI, 4, .inl fv)), (af, .inr (2, [.ref ak, .ref av, .ref ar, .int (nI P), .int nt, .int yd]))]) C0 hP hD hS [0, 1] [2, 3, 4] rfl rfl (by decide) (by decide) 0 0 (Nat.le_of_ble_eq_true rfl) (Nat.le_of_ble_eq_true rfl) (runV (k := 4) (As := [.int 1, .int 2, .int xx, .int 0]) (rest := []) C0 (c_ask_1_1_2 l D cI cZ cQ cT _ aa xx 0 a1 rn (nI pn) (fv pn) fa) wc_X0_ask wl_X0_38 wi_X0_ask we_X0_ask wz_X0 ⟨by decide, by decide, by decide +kernel⟩ ⟨(Nat.le_of_ble_eq_true rfl), (Nat.le_of_ble_eq_true rfl)⟩ hP hD hS EF.ok hX [0, 1] rfl (by decide) 0 rfl rfl rfl rfl hl.1 rfl (Nat.le_of_ble_eq_true rfl) dX0_start_44 ⟨(Nat.le_of_ble_eq_true rfl), (Nat.le_of_ble_eq_true rfl)⟩) (fun r_19 u_17 H locs w_18 hP hD hS => ?_)
      obtain ⟨rnZ_15, faZ_16⟩ := u_17
      have hP : va_P D CL [(ak, .inl (cI, 4, .inl fk)), (av, .inl (cI, 4, .inl fv)), (af, .inr (2, [.ref ak, .ref av, .ref ar, .int (nI P), .int nt, .int yd])), (aa, .inr (0, [.ref a1, .int rnZ_15, .int (nI pn), .int 1, .int (fv pn)])), (a1, .inl (cI, 20, .inl faZ_16))] H := hP
      have hD : va_D A [(ak, .inl (cI, 4, .inl fk)), (av, .inl (cI, 4, .inl fv)), (af, .inr (2, [.ref ak, .ref av, .ref ar, .int (nI P), .int nt, .int yd])), (aa, .inr (0, [.ref a1, .int rnZ_15, .int (nI pn), .int 1, .int (fv pn)])), (a1, .inl (cI, 20, .inl faZ_16))] := hD
      exact retI C0 rfl (rnZ_15, (nI pn), 1, (fv pn), faZ_16) trivial (hP.sub (ws' := [(aa, .inr (0, [.ref a1, .int rnZ_15, .int (nI pn), .int 1, .int (fv pn)])), (a1, .inl (cI, 20, .inl faZ_16)), (af, .inr (2, [.ref ak, .ref av, .ref ar, .int (nI P), .int nt, .int yd])), (ak, .inl (cI, 4, .inl fk)), (av, .inl (cI, 4, .inl fv))]) [3, 4, 2, 0, 1] rfl) (hD.sub (ws' := [(aa, .inr (0, [.ref a1, .int rnZ_15, .int (nI pn), .int 1, .int (fv pn)])), (a1, .inl (cI, 20, .inl faZ_16)), (af, .inr (2, [.ref ak, .ref av, .ref ar, .int (nI P), .int nt, .int yd])), (ak, .inl (cI, 4, .inl fk)), (av, .inl (cI, 4, .inl fv))]) [3, 4, 2, 0, 1] (by decide) rfl) hS (Nat.le_of_ble_eq_true rfl) (Nat.le_of_ble_eq_true rfl) dX0_start_47
    · skip
      refine lv_ci 2 (by rw [hk7_9]; rfl) ?_
      refine va_put (ci := 0) (v := .int 2) (ty := .int) (C := RX0) (T := TX0) (N := 5) hx hb hT wu_X0 tyX0 tyX0_ok nmX0 hown hK hP hD hS 0 rfl rfl 3 (by decide) (hT _ wf_X0_31) (fun _ h9 => h9) rfl (by decide +kernel) rfl rfl (Nat.le_of_ble_eq_true rfl) dX0_start_22 (fun H locs hP hD hS => ?_)
      have hP : va_P D CL [(aa, .inr (0, [.ref a1, .int rn, .int (nI pn), .int 2, .int vv])), (a1, .inl (cI, 20, .inl fa)), (ak, .inl (cI, 4, .inl fk)), (av, .inl (cI, 4, .inl fv)), (af, .inr (2, [.ref ak, .ref av, .ref ar, .int (nI P), .int nt, .int yd]))] H := hP
      have hD : va_D A [(aa, .inr (0, [.ref a1, .int rn, .int (nI pn), .int 2, .int vv])), (a1, .inl (cI, 20, .inl fa)), (ak, .inl (cI, 4, .inl fk)), (av, .inl (cI, 4, .inl fv)), (af, .inr (2, [.ref ak, .ref av, .ref ar, .int (nI P), .int nt, .int yd]))] := hD
      refine lv_aload_n hx hb dX0_start_25 rfl (lv_at hl 0 rfl) ?_
      refine lv_aload_n hx hb dX0_start_26 rfl (lv_at hl 1 rfl) ?_
      refine va_getN (ci := 2) (v := .ref av) (C := RX2) (T := TX2) (N := 6) hx hb hT wu_X2 hown hK hP 4 rfl rfl 1 (by decide) (va_Nw.use rfl (hN.get 137 kf_X0_33 rfl)) (fun _ h9 => h9) rfl dX0_start_27 ?_
      refine lv_iload_n hx hb dX0_start_30 rfl (lv_at hl 2 rfl) ?_
      refine va_iald hx hb hK hP 3 0 rfl rfl (vp_in_nI (n := pn) (by omega) (by decide)) dX0_start_31 ?_
      refine lv_ci (fv pn) (congrArg fv (nI_clamp (n := pn) (by omega))) ?_
      refine va_put (ci := 0) (v := .int (fv pn)) (ty := .int) (C := RX0) (T := TX0) (N := 5) hx hb hT wu_X0 tyX0 tyX0_ok nmX0 hown hK hP hD hS 0 rfl rfl 4 (by decide) (hT _ wf_X0_36) (fun _ h9 => h9) rfl (by decide +kernel) rfl rfl (Nat.le_of_ble_eq_true rfl) dX0_start_32 (fun H locs hP hD hS => ?_)
      have hP : va_P D CL [(aa, .inr (0, [.ref a1, .int rn, .int (nI pn), .int 2, .int (fv pn)])), (a1, .inl (cI, 20, .inl fa)), (ak, .inl (cI, 4, .inl fk)), (av, .inl (cI, 4, .inl fv)), (af, .inr (2, [.ref ak, .ref av, .ref ar, .int (nI P), .int nt, .int yd]))] H := hP
      have hD : va_D A [(aa, .inr (0, [.ref a1, .int rn, .int (nI pn), .int 2, .int (fv pn)])), (a1, .inl (cI, 20, .inl fa)), (ak, .inl (cI, 4, .inl fk)), (av, .inl (cI, 4, .inl fv)), (af, .inr (2, [.ref ak, .ref av, .ref ar, .int (nI P), .int nt, .int yd]))] := hD
      refine lv_aload_n hx hb dX0_start_35 rfl (lv_at hl 0 rfl) ?_
      refine lv_aload_n hx hb dX0_start_36 rfl (lv_at hl 0 rfl) ?_
      refine va_get (ci := 0) (v := .int 2) (C := RX0) (T := TX0) (N := 5) hx hb hT wu_X0 hown hK hP 0 rfl rfl 3 (by decide) (hT _ wf_X0_31) (fun _ h9 => h9) rfl dX0_start_37 ?_
      refine lv_iload_n hx hb dX0_start_40 rfl (lv_at hl 3 rfl) ?_
      refine lv_iload hx hb dX0_start_41 (lv_at hl 4 rfl) ?_
      refine lv_iconst (v := 0) hx hb dX0_start_43 (by decide) ?_
      refine contI (wc := [(aa, .inr (0, [.ref a1, .int rn, .int (nI pn), .int 2, .int (fv pn)])), (a1, .inl (cI, 20, .inl fa))]) (wr := [(ak, .inl (cI, 4, .inl fk)), (av, .inl (cI, 4, .inl fv)), (af, .inr (2, [.ref ak, .ref av, .ref ar, .int (nI P), .int nt, .int yd]))]) C0 hP hD hS [0, 1] [2, 3, 4] rfl rfl (by decide) (by decide) 0 0 (Nat.le_of_ble_eq_true rfl) (Nat.le_of_ble_eq_true rfl) (runV (k := 4) (As := [.int 2, .int 2, .int xx, .int 0]) (rest := []) C0 (c_ask_2_2_2 l D cI cZ cQ cT _ aa xx 0 a1 rn (nI pn) (fv pn) fa) wc_X0_ask wl_X0_38 wi_X0_ask we_X0_ask wz_X0 ⟨by decide, by decide, by decide +kernel⟩ ⟨(Nat.le_of_ble_eq_true rfl), (Nat.le_of_ble_eq_true rfl)⟩ hP hD hS EF.ok hX [0, 1] rfl (by decide) 0 rfl rfl rfl rfl hl.1 rfl (Nat.le_of_ble_eq_true rfl) dX0_start_44 ⟨(Nat.le_of_ble_eq_true rfl), (Nat.le_of_ble_eq_true rfl)⟩) (fun r_24 u_22 H locs w_23 hP hD hS => ?_)
      obtain ⟨rnZ_20, faZ_21⟩ := u_22
      have hP : va_P D CL [(ak, .inl (cI, 4, .inl fk)), (av, .inl (cI, 4, .inl fv)), (af, .inr (2, [.ref ak, .ref av, .ref ar, .int (nI P), .int nt, .int yd])), (aa, .inr (0, [.ref a1, .int rnZ_20, .int (nI pn), .int 2, .int (fv pn)])), (a1, .inl (cI, 20, .inl faZ_21))] H := hP
      have hD : va_D A [(ak, .inl (cI, 4, .inl fk)), (av, .inl (cI, 4, .inl fv)), (af, .inr (2, [.ref ak, .ref av, .ref ar, .int (nI P), .int nt, .int yd])), (aa, .inr (0, [.ref a1, .int rnZ_20, .int (nI pn), .int 2, .int (fv pn)])), (a1, .inl (cI, 20, .inl faZ_21))] := hD
      exact retI C0 rfl (rnZ_20, (nI pn), 2, (fv pn), faZ_21) trivial (hP.sub (ws' := [(aa, .inr (0, [.ref a1, .int rnZ_20, .int (nI pn), .int 2, .int (fv pn)])), (a1, .inl (cI, 20, .inl faZ_21)), (af, .inr (2, [.ref ak, .ref av, .ref ar, .int (nI P), .int nt, .int yd])), (ak, .inl (cI, 4, .inl fk)), (av, .inl (cI, 4, .inl fv))]) [3, 4, 2, 0, 1] rfl) (hD.sub (ws' := [(aa, .inr (0, [.ref a1, .int rnZ_20, .int (nI pn), .int 2, .int (fv pn)])), (a1, .inl (cI, 20, .inl faZ_21)), (af, .inr (2, [.ref ak, .ref av, .ref ar, .int (nI P), .int nt, .int yd])), (ak, .inl (cI, 4, .inl fk)), (av, .inl (cI, 4, .inl fv))]) [3, 4, 2, 0, 1] (by decide) rfl) hS (Nat.le_of_ble_eq_true rfl) (Nat.le_of_ble_eq_true rfl) dX0_start_47
    · skip
      refine lv_ci 3 (by rw [hk7_9]; rfl) ?_
      refine va_put (ci := 0) (v := .int 3) (ty := .int) (C := RX0) (T := TX0) (N := 5) hx hb hT wu_X0 tyX0 tyX0_ok nmX0 hown hK hP hD hS 0 rfl rfl 3 (by decide) (hT _ wf_X0_31) (fun _ h9 => h9) rfl (by decide +kernel) rfl rfl (Nat.le_of_ble_eq_true rfl) dX0_start_22 (fun H locs hP hD hS => ?_)
      have hP : va_P D CL [(aa, .inr (0, [.ref a1, .int rn, .int (nI pn), .int 3, .int vv])), (a1, .inl (cI, 20, .inl fa)), (ak, .inl (cI, 4, .inl fk)), (av, .inl (cI, 4, .inl fv)), (af, .inr (2, [.ref ak, .ref av, .ref ar, .int (nI P), .int nt, .int yd]))] H := hP
      have hD : va_D A [(aa, .inr (0, [.ref a1, .int rn, .int (nI pn), .int 3, .int vv])), (a1, .inl (cI, 20, .inl fa)), (ak, .inl (cI, 4, .inl fk)), (av, .inl (cI, 4, .inl fv)), (af, .inr (2, [.ref ak, .ref av, .ref ar, .int (nI P), .int nt, .int yd]))] := hD
      refine lv_aload_n hx hb dX0_start_25 rfl (lv_at hl 0 rfl) ?_
      refine lv_aload_n hx hb dX0_start_26 rfl (lv_at hl 1 rfl) ?_
      refine va_getN (ci := 2) (v := .ref av) (C := RX2) (T := TX2) (N := 6) hx hb hT wu_X2 hown hK hP 4 rfl rfl 1 (by decide) (va_Nw.use rfl (hN.get 137 kf_X0_33 rfl)) (fun _ h9 => h9) rfl dX0_start_27 ?_
      refine lv_iload_n hx hb dX0_start_30 rfl (lv_at hl 2 rfl) ?_
      refine va_iald hx hb hK hP 3 0 rfl rfl (vp_in_nI (n := pn) (by omega) (by decide)) dX0_start_31 ?_
      refine lv_ci (fv pn) (congrArg fv (nI_clamp (n := pn) (by omega))) ?_
      refine va_put (ci := 0) (v := .int (fv pn)) (ty := .int) (C := RX0) (T := TX0) (N := 5) hx hb hT wu_X0 tyX0 tyX0_ok nmX0 hown hK hP hD hS 0 rfl rfl 4 (by decide) (hT _ wf_X0_36) (fun _ h9 => h9) rfl (by decide +kernel) rfl rfl (Nat.le_of_ble_eq_true rfl) dX0_start_32 (fun H locs hP hD hS => ?_)
      have hP : va_P D CL [(aa, .inr (0, [.ref a1, .int rn, .int (nI pn), .int 3, .int (fv pn)])), (a1, .inl (cI, 20, .inl fa)), (ak, .inl (cI, 4, .inl fk)), (av, .inl (cI, 4, .inl fv)), (af, .inr (2, [.ref ak, .ref av, .ref ar, .int (nI P), .int nt, .int yd]))] H := hP
      have hD : va_D A [(aa, .inr (0, [.ref a1, .int rn, .int (nI pn), .int 3, .int (fv pn)])), (a1, .inl (cI, 20, .inl fa)), (ak, .inl (cI, 4, .inl fk)), (av, .inl (cI, 4, .inl fv)), (af, .inr (2, [.ref ak, .ref av, .ref ar, .int (nI P), .int nt, .int yd]))] := hD
      refine lv_aload_n hx hb dX0_start_35 rfl (lv_at hl 0 rfl) ?_
      refine lv_aload_n hx hb dX0_start_36 rfl (lv_at hl 0 rfl) ?_
      refine va_get (ci := 0) (v := .int 3) (C := RX0) (T := TX0) (N := 5) hx hb hT wu_X0 hown hK hP 0 rfl rfl 3 (by decide) (hT _ wf_X0_31) (fun _ h9 => h9) rfl dX0_start_37 ?_
      refine lv_iload_n hx hb dX0_start_40 rfl (lv_at hl 3 rfl) ?_
      refine lv_iload hx hb dX0_start_41 (lv_at hl 4 rfl) ?_
      refine lv_iconst (v := 0) hx hb dX0_start_43 (by decide) ?_
      refine contI (wc := [(aa, .inr (0, [.ref a1, .int rn, .int (nI pn), .int 3, .int (fv pn)])), (a1, .inl (cI, 20, .inl fa))]) (wr := [(ak, .inl (cI, 4, .inl fk)), (av, .inl (cI, 4, .inl fv)), (af, .inr (2, [.ref ak, .ref av, .ref ar, .int (nI P), .int nt, .int yd]))]) C0 hP hD hS [0, 1] [2, 3, 4] rfl rfl (by decide) (by decide) 0 0 (Nat.le_of_ble_eq_true rfl) (Nat.le_of_ble_eq_true rfl) (runV (k := 4) (As := [.int 3, .int 2, .int xx, .int 0]) (rest := []) C0 (c_ask_3_3_2 l D cI cZ cQ cT _ aa xx 0 a1 rn (nI pn) (fv pn) fa) wc_X0_ask wl_X0_38 wi_X0_ask we_X0_ask wz_X0 ⟨by decide, by decide, by decide +kernel⟩ ⟨(Nat.le_of_ble_eq_true rfl), (Nat.le_of_ble_eq_true rfl)⟩ hP hD hS EF.ok hX [0, 1] rfl (by decide) 0 rfl rfl rfl rfl hl.1 rfl (Nat.le_of_ble_eq_true rfl) dX0_start_44 ⟨(Nat.le_of_ble_eq_true rfl), (Nat.le_of_ble_eq_true rfl)⟩) (fun r_29 u_27 H locs w_28 hP hD hS => ?_)
      obtain ⟨rnZ_25, faZ_26⟩ := u_27
      have hP : va_P D CL [(ak, .inl (cI, 4, .inl fk)), (av, .inl (cI, 4, .inl fv)), (af, .inr (2, [.ref ak, .ref av, .ref ar, .int (nI P), .int nt, .int yd])), (aa, .inr (0, [.ref a1, .int rnZ_25, .int (nI pn), .int 3, .int (fv pn)])), (a1, .inl (cI, 20, .inl faZ_26))] H := hP
      have hD : va_D A [(ak, .inl (cI, 4, .inl fk)), (av, .inl (cI, 4, .inl fv)), (af, .inr (2, [.ref ak, .ref av, .ref ar, .int (nI P), .int nt, .int yd])), (aa, .inr (0, [.ref a1, .int rnZ_25, .int (nI pn), .int 3, .int (fv pn)])), (a1, .inl (cI, 20, .inl faZ_26))] := hD
      exact retI C0 rfl (rnZ_25, (nI pn), 3, (fv pn), faZ_26) trivial (hP.sub (ws' := [(aa, .inr (0, [.ref a1, .int rnZ_25, .int (nI pn), .int 3, .int (fv pn)])), (a1, .inl (cI, 20, .inl faZ_26)), (af, .inr (2, [.ref ak, .ref av, .ref ar, .int (nI P), .int nt, .int yd])), (ak, .inl (cI, 4, .inl fk)), (av, .inl (cI, 4, .inl fv))]) [3, 4, 2, 0, 1] rfl) (hD.sub (ws' := [(aa, .inr (0, [.ref a1, .int rnZ_25, .int (nI pn), .int 3, .int (fv pn)])), (a1, .inl (cI, 20, .inl faZ_26)), (af, .inr (2, [.ref ak, .ref av, .ref ar, .int (nI P), .int nt, .int yd])), (ak, .inl (cI, 4, .inl fk)), (av, .inl (cI, 4, .inl fv))]) [3, 4, 2, 0, 1] (by decide) rfl) hS (Nat.le_of_ble_eq_true rfl) (Nat.le_of_ble_eq_true rfl) dX0_start_47
    · skip
      refine lv_ci 4 (by rw [hk7_9]; rfl) ?_
      refine va_put (ci := 0) (v := .int 4) (ty := .int) (C := RX0) (T := TX0) (N := 5) hx hb hT wu_X0 tyX0 tyX0_ok nmX0 hown hK hP hD hS 0 rfl rfl 3 (by decide) (hT _ wf_X0_31) (fun _ h9 => h9) rfl (by decide +kernel) rfl rfl (Nat.le_of_ble_eq_true rfl) dX0_start_22 (fun H locs hP hD hS => ?_)
      have hP : va_P D CL [(aa, .inr (0, [.ref a1, .int rn, .int (nI pn), .int 4, .int vv])), (a1, .inl (cI, 20, .inl fa)), (ak, .inl (cI, 4, .inl fk)), (av, .inl (cI, 4, .inl fv)), (af, .inr (2, [.ref ak, .ref av, .ref ar, .int (nI P), .int nt, .int yd]))] H := hP
      have hD : va_D A [(aa, .inr (0, [.ref a1, .int rn, .int (nI pn), .int 4, .int vv])), (a1, .inl (cI, 20, .inl fa)), (ak, .inl (cI, 4, .inl fk)), (av, .inl (cI, 4, .inl fv)), (af, .inr (2, [.ref ak, .ref av, .ref ar, .int (nI P), .int nt, .int yd]))] := hD
      refine lv_aload_n hx hb dX0_start_25 rfl (lv_at hl 0 rfl) ?_
      refine lv_aload_n hx hb dX0_start_26 rfl (lv_at hl 1 rfl) ?_
      refine va_getN (ci := 2) (v := .ref av) (C := RX2) (T := TX2) (N := 6) hx hb hT wu_X2 hown hK hP 4 rfl rfl 1 (by decide) (va_Nw.use rfl (hN.get 137 kf_X0_33 rfl)) (fun _ h9 => h9) rfl dX0_start_27 ?_
      refine lv_iload_n hx hb dX0_start_30 rfl (lv_at hl 2 rfl) ?_
      refine va_iald hx hb hK hP 3 0 rfl rfl (vp_in_nI (n := pn) (by omega) (by decide)) dX0_start_31 ?_
      refine lv_ci (fv pn) (congrArg fv (nI_clamp (n := pn) (by omega))) ?_
      refine va_put (ci := 0) (v := .int (fv pn)) (ty := .int) (C := RX0) (T := TX0) (N := 5) hx hb hT wu_X0 tyX0 tyX0_ok nmX0 hown hK hP hD hS 0 rfl rfl 4 (by decide) (hT _ wf_X0_36) (fun _ h9 => h9) rfl (by decide +kernel) rfl rfl (Nat.le_of_ble_eq_true rfl) dX0_start_32 (fun H locs hP hD hS => ?_)
      have hP : va_P D CL [(aa, .inr (0, [.ref a1, .int rn, .int (nI pn), .int 4, .int (fv pn)])), (a1, .inl (cI, 20, .inl fa)), (ak, .inl (cI, 4, .inl fk)), (av, .inl (cI, 4, .inl fv)), (af, .inr (2, [.ref ak, .ref av, .ref ar, .int (nI P), .int nt, .int yd]))] H := hP
      have hD : va_D A [(aa, .inr (0, [.ref a1, .int rn, .int (nI pn), .int 4, .int (fv pn)])), (a1, .inl (cI, 20, .inl fa)), (ak, .inl (cI, 4, .inl fk)), (av, .inl (cI, 4, .inl fv)), (af, .inr (2, [.ref ak, .ref av, .ref ar, .int (nI P), .int nt, .int yd]))] := hD
      refine lv_aload_n hx hb dX0_start_35 rfl (lv_at hl 0 rfl) ?_
      refine lv_aload_n hx hb dX0_start_36 rfl (lv_at hl 0 rfl) ?_
      refine va_get (ci := 0) (v := .int 4) (C := RX0) (T := TX0) (N := 5) hx hb hT wu_X0 hown hK hP 0 rfl rfl 3 (by decide) (hT _ wf_X0_31) (fun _ h9 => h9) rfl dX0_start_37 ?_
      refine lv_iload_n hx hb dX0_start_40 rfl (lv_at hl 3 rfl) ?_
      refine lv_iload hx hb dX0_start_41 (lv_at hl 4 rfl) ?_
      refine lv_iconst (v := 0) hx hb dX0_start_43 (by decide) ?_
      refine contI (wc := [(aa, .inr (0, [.ref a1, .int rn, .int (nI pn), .int 4, .int (fv pn)])), (a1, .inl (cI, 20, .inl fa))]) (wr := [(ak, .inl (cI, 4, .inl fk)), (av, .inl (cI, 4, .inl fv)), (af, .inr (2, [.ref ak, .ref av, .ref ar, .int (nI P), .int nt, .int yd]))]) C0 hP hD hS [0, 1] [2, 3, 4] rfl rfl (by decide) (by decide) 0 0 (Nat.le_of_ble_eq_true rfl) (Nat.le_of_ble_eq_true rfl) (runV (k := 4) (As := [.int 4, .int 2, .int xx, .int 0]) (rest := []) C0 (c_ask_4_4_2 l D cI cZ cQ cT _ aa xx 0 a1 rn (nI pn) (fv pn) fa) wc_X0_ask wl_X0_38 wi_X0_ask we_X0_ask wz_X0 ⟨by decide, by decide, by decide +kernel⟩ ⟨(Nat.le_of_ble_eq_true rfl), (Nat.le_of_ble_eq_true rfl)⟩ hP hD hS EF.ok hX [0, 1] rfl (by decide) 0 rfl rfl rfl rfl hl.1 rfl (Nat.le_of_ble_eq_true rfl) dX0_start_44 ⟨(Nat.le_of_ble_eq_true rfl), (Nat.le_of_ble_eq_true rfl)⟩) (fun r_34 u_32 H locs w_33 hP hD hS => ?_)
      obtain ⟨rnZ_30, faZ_31⟩ := u_32
      have hP : va_P D CL [(ak, .inl (cI, 4, .inl fk)), (av, .inl (cI, 4, .inl fv)), (af, .inr (2, [.ref ak, .ref av, .ref ar, .int (nI P), .int nt, .int yd])), (aa, .inr (0, [.ref a1, .int rnZ_30, .int (nI pn), .int 4, .int (fv pn)])), (a1, .inl (cI, 20, .inl faZ_31))] H := hP
      have hD : va_D A [(ak, .inl (cI, 4, .inl fk)), (av, .inl (cI, 4, .inl fv)), (af, .inr (2, [.ref ak, .ref av, .ref ar, .int (nI P), .int nt, .int yd])), (aa, .inr (0, [.ref a1, .int rnZ_30, .int (nI pn), .int 4, .int (fv pn)])), (a1, .inl (cI, 20, .inl faZ_31))] := hD
      exact retI C0 rfl (rnZ_30, (nI pn), 4, (fv pn), faZ_31) trivial (hP.sub (ws' := [(aa, .inr (0, [.ref a1, .int rnZ_30, .int (nI pn), .int 4, .int (fv pn)])), (a1, .inl (cI, 20, .inl faZ_31)), (af, .inr (2, [.ref ak, .ref av, .ref ar, .int (nI P), .int nt, .int yd])), (ak, .inl (cI, 4, .inl fk)), (av, .inl (cI, 4, .inl fv))]) [3, 4, 2, 0, 1] rfl) (hD.sub (ws' := [(aa, .inr (0, [.ref a1, .int rnZ_30, .int (nI pn), .int 4, .int (fv pn)])), (a1, .inl (cI, 20, .inl faZ_31)), (af, .inr (2, [.ref ak, .ref av, .ref ar, .int (nI P), .int nt, .int yd])), (ak, .inl (cI, 4, .inl fk)), (av, .inl (cI, 4, .inl fv))]) [3, 4, 2, 0, 1] (by decide) rfl) hS (Nat.le_of_ble_eq_true rfl) (Nat.le_of_ble_eq_true rfl) dX0_start_47
    · skip
      refine lv_ci 5 (by rw [hk7_9]; rfl) ?_
      refine va_put (ci := 0) (v := .int 5) (ty := .int) (C := RX0) (T := TX0) (N := 5) hx hb hT wu_X0 tyX0 tyX0_ok nmX0 hown hK hP hD hS 0 rfl rfl 3 (by decide) (hT _ wf_X0_31) (fun _ h9 => h9) rfl (by decide +kernel) rfl rfl (Nat.le_of_ble_eq_true rfl) dX0_start_22 (fun H locs hP hD hS => ?_)
      have hP : va_P D CL [(aa, .inr (0, [.ref a1, .int rn, .int (nI pn), .int 5, .int vv])), (a1, .inl (cI, 20, .inl fa)), (ak, .inl (cI, 4, .inl fk)), (av, .inl (cI, 4, .inl fv)), (af, .inr (2, [.ref ak, .ref av, .ref ar, .int (nI P), .int nt, .int yd]))] H := hP
      have hD : va_D A [(aa, .inr (0, [.ref a1, .int rn, .int (nI pn), .int 5, .int vv])), (a1, .inl (cI, 20, .inl fa)), (ak, .inl (cI, 4, .inl fk)), (av, .inl (cI, 4, .inl fv)), (af, .inr (2, [.ref ak, .ref av, .ref ar, .int (nI P), .int nt, .int yd]))] := hD
      refine lv_aload_n hx hb dX0_start_25 rfl (lv_at hl 0 rfl) ?_
      refine lv_aload_n hx hb dX0_start_26 rfl (lv_at hl 1 rfl) ?_
      refine va_getN (ci := 2) (v := .ref av) (C := RX2) (T := TX2) (N := 6) hx hb hT wu_X2 hown hK hP 4 rfl rfl 1 (by decide) (va_Nw.use rfl (hN.get 137 kf_X0_33 rfl)) (fun _ h9 => h9) rfl dX0_start_27 ?_
      refine lv_iload_n hx hb dX0_start_30 rfl (lv_at hl 2 rfl) ?_
      refine va_iald hx hb hK hP 3 0 rfl rfl (vp_in_nI (n := pn) (by omega) (by decide)) dX0_start_31 ?_
      refine lv_ci (fv pn) (congrArg fv (nI_clamp (n := pn) (by omega))) ?_
      refine va_put (ci := 0) (v := .int (fv pn)) (ty := .int) (C := RX0) (T := TX0) (N := 5) hx hb hT wu_X0 tyX0 tyX0_ok nmX0 hown hK hP hD hS 0 rfl rfl 4 (by decide) (hT _ wf_X0_36) (fun _ h9 => h9) rfl (by decide +kernel) rfl rfl (Nat.le_of_ble_eq_true rfl) dX0_start_32 (fun H locs hP hD hS => ?_)
      have hP : va_P D CL [(aa, .inr (0, [.ref a1, .int rn, .int (nI pn), .int 5, .int (fv pn)])), (a1, .inl (cI, 20, .inl fa)), (ak, .inl (cI, 4, .inl fk)), (av, .inl (cI, 4, .inl fv)), (af, .inr (2, [.ref ak, .ref av, .ref ar, .int (nI P), .int nt, .int yd]))] H := hP
      have hD : va_D A [(aa, .inr (0, [.ref a1, .int rn, .int (nI pn), .int 5, .int (fv pn)])), (a1, .inl (cI, 20, .inl fa)), (ak, .inl (cI, 4, .inl fk)), (av, .inl (cI, 4, .inl fv)), (af, .inr (2, [.ref ak, .ref av, .ref ar, .int (nI P), .int nt, .int yd]))] := hD
      refine lv_aload_n hx hb dX0_start_35 rfl (lv_at hl 0 rfl) ?_
      refine lv_aload_n hx hb dX0_start_36 rfl (lv_at hl 0 rfl) ?_
      refine va_get (ci := 0) (v := .int 5) (C := RX0) (T := TX0) (N := 5) hx hb hT wu_X0 hown hK hP 0 rfl rfl 3 (by decide) (hT _ wf_X0_31) (fun _ h9 => h9) rfl dX0_start_37 ?_
      refine lv_iload_n hx hb dX0_start_40 rfl (lv_at hl 3 rfl) ?_
      refine lv_iload hx hb dX0_start_41 (lv_at hl 4 rfl) ?_
      refine lv_iconst (v := 0) hx hb dX0_start_43 (by decide) ?_
      refine contI (wc := [(aa, .inr (0, [.ref a1, .int rn, .int (nI pn), .int 5, .int (fv pn)])), (a1, .inl (cI, 20, .inl fa))]) (wr := [(ak, .inl (cI, 4, .inl fk)), (av, .inl (cI, 4, .inl fv)), (af, .inr (2, [.ref ak, .ref av, .ref ar, .int (nI P), .int nt, .int yd]))]) C0 hP hD hS [0, 1] [2, 3, 4] rfl rfl (by decide) (by decide) 0 0 (Nat.le_of_ble_eq_true rfl) (Nat.le_of_ble_eq_true rfl) (runV (k := 4) (As := [.int 5, .int 2, .int xx, .int 0]) (rest := []) C0 (c_ask_5_5_2 l D cI cZ cQ cT _ aa xx 0 a1 rn (nI pn) (fv pn) fa) wc_X0_ask wl_X0_38 wi_X0_ask we_X0_ask wz_X0 ⟨by decide, by decide, by decide +kernel⟩ ⟨(Nat.le_of_ble_eq_true rfl), (Nat.le_of_ble_eq_true rfl)⟩ hP hD hS EF.ok hX [0, 1] rfl (by decide) 0 rfl rfl rfl rfl hl.1 rfl (Nat.le_of_ble_eq_true rfl) dX0_start_44 ⟨(Nat.le_of_ble_eq_true rfl), (Nat.le_of_ble_eq_true rfl)⟩) (fun r_39 u_37 H locs w_38 hP hD hS => ?_)
      obtain ⟨rnZ_35, faZ_36⟩ := u_37
      have hP : va_P D CL [(ak, .inl (cI, 4, .inl fk)), (av, .inl (cI, 4, .inl fv)), (af, .inr (2, [.ref ak, .ref av, .ref ar, .int (nI P), .int nt, .int yd])), (aa, .inr (0, [.ref a1, .int rnZ_35, .int (nI pn), .int 5, .int (fv pn)])), (a1, .inl (cI, 20, .inl faZ_36))] H := hP
      have hD : va_D A [(ak, .inl (cI, 4, .inl fk)), (av, .inl (cI, 4, .inl fv)), (af, .inr (2, [.ref ak, .ref av, .ref ar, .int (nI P), .int nt, .int yd])), (aa, .inr (0, [.ref a1, .int rnZ_35, .int (nI pn), .int 5, .int (fv pn)])), (a1, .inl (cI, 20, .inl faZ_36))] := hD
      exact retI C0 rfl (rnZ_35, (nI pn), 5, (fv pn), faZ_36) trivial (hP.sub (ws' := [(aa, .inr (0, [.ref a1, .int rnZ_35, .int (nI pn), .int 5, .int (fv pn)])), (a1, .inl (cI, 20, .inl faZ_36)), (af, .inr (2, [.ref ak, .ref av, .ref ar, .int (nI P), .int nt, .int yd])), (ak, .inl (cI, 4, .inl fk)), (av, .inl (cI, 4, .inl fv))]) [3, 4, 2, 0, 1] rfl) (hD.sub (ws' := [(aa, .inr (0, [.ref a1, .int rnZ_35, .int (nI pn), .int 5, .int (fv pn)])), (a1, .inl (cI, 20, .inl faZ_36)), (af, .inr (2, [.ref ak, .ref av, .ref ar, .int (nI P), .int nt, .int yd])), (ak, .inl (cI, 4, .inl fk)), (av, .inl (cI, 4, .inl fv))]) [3, 4, 2, 0, 1] (by decide) rfl) hS (Nat.le_of_ble_eq_true rfl) (Nat.le_of_ble_eq_true rfl) dX0_start_47
    · skip
      refine lv_ci 6 (by rw [hk7_9]; rfl) ?_
      refine va_put (ci := 0) (v := .int 6) (ty := .int) (C := RX0) (T := TX0) (N := 5) hx hb hT wu_X0 tyX0 tyX0_ok nmX0 hown hK hP hD hS 0 rfl rfl 3 (by decide) (hT _ wf_X0_31) (fun _ h9 => h9) rfl (by decide +kernel) rfl rfl (Nat.le_of_ble_eq_true rfl) dX0_start_22 (fun H locs hP hD hS => ?_)
      have hP : va_P D CL [(aa, .inr (0, [.ref a1, .int rn, .int (nI pn), .int 6, .int vv])), (a1, .inl (cI, 20, .inl fa)), (ak, .inl (cI, 4, .inl fk)), (av, .inl (cI, 4, .inl fv)), (af, .inr (2, [.ref ak, .ref av, .ref ar, .int (nI P), .int nt, .int yd]))] H := hP
      have hD : va_D A [(aa, .inr (0, [.ref a1, .int rn, .int (nI pn), .int 6, .int vv])), (a1, .inl (cI, 20, .inl fa)), (ak, .inl (cI, 4, .inl fk)), (av, .inl (cI, 4, .inl fv)), (af, .inr (2, [.ref ak, .ref av, .ref ar, .int (nI P), .int nt, .int yd]))] := hD
      refine lv_aload_n hx hb dX0_start_25 rfl (lv_at hl 0 rfl) ?_
      refine lv_aload_n hx hb dX0_start_26 rfl (lv_at hl 1 rfl) ?_
      refine va_getN (ci := 2) (v := .ref av) (C := RX2) (T := TX2) (N := 6) hx hb hT wu_X2 hown hK hP 4 rfl rfl 1 (by decide) (va_Nw.use rfl (hN.get 137 kf_X0_33 rfl)) (fun _ h9 => h9) rfl dX0_start_27 ?_
      refine lv_iload_n hx hb dX0_start_30 rfl (lv_at hl 2 rfl) ?_
      refine va_iald hx hb hK hP 3 0 rfl rfl (vp_in_nI (n := pn) (by omega) (by decide)) dX0_start_31 ?_
      refine lv_ci (fv pn) (congrArg fv (nI_clamp (n := pn) (by omega))) ?_
      refine va_put (ci := 0) (v := .int (fv pn)) (ty := .int) (C := RX0) (T := TX0) (N := 5) hx hb hT wu_X0 tyX0 tyX0_ok nmX0 hown hK hP hD hS 0 rfl rfl 4 (by decide) (hT _ wf_X0_36) (fun _ h9 => h9) rfl (by decide +kernel) rfl rfl (Nat.le_of_ble_eq_true rfl) dX0_start_32 (fun H locs hP hD hS => ?_)
      have hP : va_P D CL [(aa, .inr (0, [.ref a1, .int rn, .int (nI pn), .int 6, .int (fv pn)])), (a1, .inl (cI, 20, .inl fa)), (ak, .inl (cI, 4, .inl fk)), (av, .inl (cI, 4, .inl fv)), (af, .inr (2, [.ref ak, .ref av, .ref ar, .int (nI P), .int nt, .int yd]))] H := hP
      have hD : va_D A [(aa, .inr (0, [.ref a1, .int rn, .int (nI pn), .int 6, .int (fv pn)])), (a1, .inl (cI, 20, .inl fa)), (ak, .inl (cI, 4, .inl fk)), (av, .inl (cI, 4, .inl fv)), (af, .inr (2, [.ref ak, .ref av, .ref ar, .int (nI P), .int nt, .int yd]))] := hD
      refine lv_aload_n hx hb dX0_start_35 rfl (lv_at hl 0 rfl) ?_
      refine lv_aload_n hx hb dX0_start_36 rfl (lv_at hl 0 rfl) ?_
      refine va_get (ci := 0) (v := .int 6) (C := RX0) (T := TX0) (N := 5) hx hb hT wu_X0 hown hK hP 0 rfl rfl 3 (by decide) (hT _ wf_X0_31) (fun _ h9 => h9) rfl dX0_start_37 ?_
      refine lv_iload_n hx hb dX0_start_40 rfl (lv_at hl 3 rfl) ?_
      refine lv_iload hx hb dX0_start_41 (lv_at hl 4 rfl) ?_
      refine lv_iconst (v := 0) hx hb dX0_start_43 (by decide) ?_
      refine contI (wc := [(aa, .inr (0, [.ref a1, .int rn, .int (nI pn), .int 6, .int (fv pn)])), (a1, .inl (cI, 20, .inl fa))]) (wr := [(ak, .inl (cI, 4, .inl fk)), (av, .inl (cI, 4, .inl fv)), (af, .inr (2, [.ref ak, .ref av, .ref ar, .int (nI P), .int nt, .int yd]))]) C0 hP hD hS [0, 1] [2, 3, 4] rfl rfl (by decide) (by decide) 0 0 (Nat.le_of_ble_eq_true rfl) (Nat.le_of_ble_eq_true rfl) (runV (k := 4) (As := [.int 6, .int 2, .int xx, .int 0]) (rest := []) C0 (c_ask_6_6_2 l D cI cZ cQ cT _ aa xx 0 a1 rn (nI pn) (fv pn) fa) wc_X0_ask wl_X0_38 wi_X0_ask we_X0_ask wz_X0 ⟨by decide, by decide, by decide +kernel⟩ ⟨(Nat.le_of_ble_eq_true rfl), (Nat.le_of_ble_eq_true rfl)⟩ hP hD hS EF.ok hX [0, 1] rfl (by decide) 0 rfl rfl rfl rfl hl.1 rfl (Nat.le_of_ble_eq_true rfl) dX0_start_44 ⟨(Nat.le_of_ble_eq_true rfl), (Nat.le_of_ble_eq_true rfl)⟩) (fun r_44 u_42 H locs w_43 hP hD hS => ?_)
      obtain ⟨rnZ_40, faZ_41⟩ := u_42
      have hP : va_P D CL [(ak, .inl (cI, 4, .inl fk)), (av, .inl (cI, 4, .inl fv)), (af, .inr (2, [.ref ak, .ref av, .ref ar, .int (nI P), .int nt, .int yd])), (aa, .inr (0, [.ref a1, .int rnZ_40, .int (nI pn), .int 6, .int (fv pn)])), (a1, .inl (cI, 20, .inl faZ_41))] H := hP
      have hD : va_D A [(ak, .inl (cI, 4, .inl fk)), (av, .inl (cI, 4, .inl fv)), (af, .inr (2, [.ref ak, .ref av, .ref ar, .int (nI P), .int nt, .int yd])), (aa, .inr (0, [.ref a1, .int rnZ_40, .int (nI pn), .int 6, .int (fv pn)])), (a1, .inl (cI, 20, .inl faZ_41))] := hD
      exact retI C0 rfl (rnZ_40, (nI pn), 6, (fv pn), faZ_41) trivial (hP.sub (ws' := [(aa, .inr (0, [.ref a1, .int rnZ_40, .int (nI pn), .int 6, .int (fv pn)])), (a1, .inl (cI, 20, .inl faZ_41)), (af, .inr (2, [.ref ak, .ref av, .ref ar, .int (nI P), .int nt, .int yd])), (ak, .inl (cI, 4, .inl fk)), (av, .inl (cI, 4, .inl fv))]) [3, 4, 2, 0, 1] rfl) (hD.sub (ws' := [(aa, .inr (0, [.ref a1, .int rnZ_40, .int (nI pn), .int 6, .int (fv pn)])), (a1, .inl (cI, 20, .inl faZ_41)), (af, .inr (2, [.ref ak, .ref av, .ref ar, .int (nI P), .int nt, .int yd])), (ak, .inl (cI, 4, .inl fk)), (av, .inl (cI, 4, .inl fv))]) [3, 4, 2, 0, 1] (by decide) rfl) hS (Nat.le_of_ble_eq_true rfl) (Nat.le_of_ble_eq_true rfl) dX0_start_47
  · obtain rfl : r_3 = 0 := w_2.trans (if_neg c_4)
    refine lv_if_ne (tgt := 10) hx hb dX0_start_5 (by decide) (fun c_0 => absurd (by decide) c_0) (fun _ => ?_)
    refine lv_iconst (v := 0) hx hb dX0_start_8 (by decide) ?_
    exact retI C0 rfl (rn, sl, kd, vv, fa) trivial (hP.sub (ws' := [(aa, .inr (0, [.ref a1, .int rn, .int sl, .int kd, .int vv])), (a1, .inl (cI, 20, .inl fa)), (af, .inr (2, [.ref ak, .ref av, .ref ar, .int (nI P), .int nt, .int yd])), (ak, .inl (cI, 4, .inl fk)), (av, .inl (cI, 4, .inl fv))]) [0, 1, 4, 2, 3] rfl) (hD.sub (ws' := [(aa, .inr (0, [.ref a1, .int rn, .int sl, .int kd, .int vv])), (a1, .inl (cI, 20, .inl fa)), (af, .inr (2, [.ref ak, .ref av, .ref ar, .int (nI P), .int nt, .int yd])), (ak, .inl (cI, 4, .inl fk)), (av, .inl (cI, 4, .inl fv))]) [0, 1, 4, 2, 3] (by decide) rfl) hS (Nat.le_of_ble_eq_true rfl) (Nat.le_of_ble_eq_true rfl) dX0_start_9
end GX
