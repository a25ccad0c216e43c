section C1
set_option maxHeartbeats 4000000 in
set_option maxRecDepth 100000 in
theorem c_Acts_init (l : Launch) (D : va_G) (cI cZ cQ cT : ClassId) (sz : Nat) (aa : Nat)  : MetV l yX0_init cX0_init 1 ({ frames := 1, cells := 1, slots := 20, locals := 40 } : Room) [.ref aa] D (TYS cI cZ cQ cT) EF sz [(aa, .inr (0, [.null, .int 0, .int 0, .int 0, .int 0]))] (S := Nat) (fun (_ : Nat) => True) (fun u => [(aa, .inr (0, [.ref u, .int 0, .int 0, .int 0, .int 0]))]) := by
  refine MetV.mk (lv := [(0, .ref aa)]) (by decide +kernel) (Nat.le_of_ble_eq_true rfl) rfl ?_
  intro p e s m below meth c A ls C0 hP hD hS hX hl
  have C1 := C0
  obtain ⟨hx, hb, hr, hml, hown, hlocks, hname, hT, hN, hK, hA⟩ := C1
  refine lv_aload_n hx hb dX0_init_0 rfl (lv_at hl 0 rfl) ?_
  refine objI C0 wl_X0_3 wi_objectInit wc_objectInit hl.1 (Nat.le_of_ble_eq_true rfl) (Nat.le_of_ble_eq_true rfl) dX0_init_1 ?_
  refine lv_aload_n hx hb dX0_init_4 rfl (lv_at hl 0 rfl) ?_
  refine lv_bipush (v := 20) hx hb dX0_init_5 (by decide) ?_
  refine newI C0 wa_int 0 rfl hP hD hS (by decide +kernel) (N := 20) (by decide +kernel) (by decide) 1 20 (Nat.le_of_ble_eq_true rfl) (Nat.le_of_ble_eq_true rfl) (Nat.le_of_ble_eq_true rfl) (Nat.le_of_ble_eq_true rfl) dX0_init_7 (fun q_1 H hP hD hS => ?_)
  have hP : va_P D CL [(aa, .inr (0, [.null, .int 0, .int 0, .int 0, .int 0])), (q_1, .inl (cI, 20, .inl (fun _ => 0)))] H := hP
  have hD : va_D A [(aa, .inr (0, [.null, .int 0, .int 0, .int 0, .int 0])), (q_1, .inl (cI, 20, .inl (fun _ => 0)))] := hD
  refine va_putF (ci := 0) (v := .ref q_1) (ty := .array .int) (C := RX0) (T := TX0) (N := 5) hx hb hT wu_X0 tyX0 tyX0_ok nmX0 hown hK hP hD hS 0 rfl rfl 0 (by decide) (hT _ wf_X0_11) (fun _ h9 => h9) rfl (hname rfl) rfl (by decide +kernel) rfl rfl (Nat.le_of_ble_eq_true rfl) dX0_init_9 (fun H locs hP hD hS => ?_)
  have hP : va_P D CL [(aa, .inr (0, [.ref q_1, .int 0, .int 0, .int 0, .int 0])), (q_1, .inl (cI, 20, .inl (fun _ => 0)))] H := hP
  have hD : va_D A [(aa, .inr (0, [.ref q_1, .int 0, .int 0, .int 0, .int 0])), (q_1, .inl (cI, 20, .inl (fun _ => 0)))] := hD
  exact retV C0 (q_1) trivial (hP.sub (ws' := [(aa, .inr (0, [.ref q_1, .int 0, .int 0, .int 0, .int 0]))]) [0] rfl) (hD.sub (ws' := [(aa, .inr (0, [.ref q_1, .int 0, .int 0, .int 0, .int 0]))]) [0] (by decide) rfl) hS (Nat.le_of_ble_eq_true rfl) (Nat.le_of_ble_eq_true rfl) dX0_init_12

set_option maxHeartbeats 4000000 in
set_option maxRecDepth 100000 in
theorem c_Folk_init (l : Launch) (D : va_G) (cI cZ cQ cT : ClassId) (sz : Nat) (af : Nat)  : MetV l yX2_init cX2_init 1 ({ frames := 1, cells := 3, slots := 12, locals := 40 } : Room) [.ref af] D (TYS cI cZ cQ cT) EF sz [(af, .inr (2, [.null, .null, .null, .int 0, .int 0, .int 0]))] (S := Nat × Nat × Nat × (Nat → Int32) × (Nat → Int32) × (Nat → Int32)) (fun (_ : Nat × Nat × Nat × (Nat → Int32) × (Nat → Int32) × (Nat → Int32)) => True) (fun u => [(af, .inr (2, [.ref u.1, .ref u.2.1, .ref u.2.2.1, .int 0, .int 0, .int 0])), (u.1, .inl (cI, 4, .inl u.2.2.2.1)), (u.2.1, .inl (cI, 4, .inl u.2.2.2.2.1)), (u.2.2.1, .inl (cI, 4, .inl u.2.2.2.2.2))]) := by
  refine MetV.mk (lv := [(0, .ref af)]) (by decide +kernel) (Nat.le_of_ble_eq_true rfl) rfl ?_
  intro p e s m below meth c A ls C0 hP hD hS hX hl
  have C1 := C0
  obtain ⟨hx, hb, hr, hml, hown, hlocks, hname, hT, hN, hK, hA⟩ := C1
  refine lv_aload_n hx hb dX2_init_0 rfl (lv_at hl 0 rfl) ?_
  refine objI C0 wl_X2_3 wi_objectInit wc_objectInit hl.1 (Nat.le_of_ble_eq_true rfl) (Nat.le_of_ble_eq_true rfl) dX2_init_1 ?_
  refine lv_aload_n hx hb dX2_init_4 rfl (lv_at hl 0 rfl) ?_
  refine lv_iconst (v := 4) hx hb dX2_init_5 (by decide) ?_
  refine newI C0 wa_int 0 rfl hP hD hS (by decide +kernel) (N := 4) (by decide +kernel) (by decide) 1 4 (Nat.le_of_ble_eq_true rfl) (Nat.le_of_ble_eq_true rfl) (Nat.le_of_ble_eq_true rfl) (Nat.le_of_ble_eq_true rfl) dX2_init_6 (fun q_1 H hP hD hS => ?_)
  have hP : va_P D CL [(af, .inr (2, [.null, .null, .null, .int 0, .int 0, .int 0])), (q_1, .inl (cI, 4, .inl (fun _ => 0)))] H := hP
  have hD : va_D A [(af, .inr (2, [.null, .null, .null, .int 0, .int 0, .int 0])), (q_1, .inl (cI, 4, .inl (fun _ => 0)))] := hD
  refine va_putF (ci := 2) (v := .ref q_1) (ty := .array .int) (C := RX2) (T := TX2) (N := 6) hx hb hT wu_X2 tyX2 tyX2_ok nmX2 hown hK hP hD hS 0 rfl rfl 0 (by decide) (hT _ wf_X2_9) (fun _ h9 => h9) rfl (hname rfl) rfl (by decide +kernel) rfl rfl (Nat.le_of_ble_eq_true rfl) dX2_init_8 (fun H locs hP hD hS => ?_)
  have hP : va_P D CL [(af, .inr (2, [.ref q_1, .null, .null, .int 0, .int 0, .int 0])), (q_1, .inl (cI, 4, .inl (fun _ => 0)))] H := hP
  have hD : va_D A [(af, .inr (2, [.ref q_1, .null, .null, .int 0, .int 0, .int 0])), (q_1, .inl (cI, 4, .inl (fun _ => 0)))] := hD
  refine lv_aload_n hx hb dX2_init_11 rfl (lv_at hl 0 rfl) ?_
  refine lv_iconst (v := 4) hx hb dX2_init_12 (by decide) ?_
  refine newI C0 wa_int 0 rfl hP hD hS (by decide +kernel) (N := 4) (by decide +kernel) (by decide) 2 8 (Nat.le_of_ble_eq_true rfl) (Nat.le_of_ble_eq_true rfl) (Nat.le_of_ble_eq_true rfl) (Nat.le_of_ble_eq_true rfl) dX2_init_13 (fun q_2 H hP hD hS => ?_)
  have hP : va_P D CL [(af, .inr (2, [.ref q_1, .null, .null, .int 0, .int 0, .int 0])), (q_1, .inl (cI, 4, .inl (fun _ => 0))), (q_2, .inl (cI, 4, .inl (fun _ => 0)))] H := hP
  have hD : va_D A [(af, .inr (2, [.ref q_1, .null, .null, .int 0, .int 0, .int 0])), (q_1, .inl (cI, 4, .inl (fun _ => 0))), (q_2, .inl (cI, 4, .inl (fun _ => 0)))] := hD
  refine va_putF (ci := 2) (v := .ref q_2) (ty := .array .int) (C := RX2) (T := TX2) (N := 6) hx hb hT wu_X2 tyX2 tyX2_ok nmX2 hown hK hP hD hS 0 rfl rfl 1 (by decide) (hT _ wf_X2_15) (fun _ h9 => h9) rfl (hname rfl) rfl (by decide +kernel) rfl rfl (Nat.le_of_ble_eq_true rfl) dX2_init_15 (fun H locs hP hD hS => ?_)
  have hP : va_P D CL [(af, .inr (2, [.ref q_1, .ref q_2, .null, .int 0, .int 0, .int 0])), (q_1, .inl (cI, 4, .inl (fun _ => 0))), (q_2, .inl (cI, 4, .inl (fun _ => 0)))] H := hP
  have hD : va_D A [(af, .inr (2, [.ref q_1, .ref q_2, .null, .int 0, .int 0, .int 0])), (q_1, .inl (cI, 4, .inl (fun _ => 0))), (q_2, .inl (cI, 4, .inl (fun _ => 0)))] := hD
  refine lv_aload_n hx hb dX2_init_18 rfl (lv_at hl 0 rfl) ?_
  refine lv_iconst (v := 4) hx hb dX2_init_19 (by decide) ?_
  refine newI C0 wa_int 0 rfl hP hD hS (by decide +kernel) (N := 4) (by decide +kernel) (by decide) 3 12 (Nat.le_of_ble_eq_true rfl) (Nat.le_of_ble_eq_true rfl) (Nat.le_of_ble_eq_true rfl) (Nat.le_of_ble_eq_true rfl) dX2_init_20 (fun q_3 H hP hD hS => ?_)
  have hP : va_P D CL [(af, .inr (2, [.ref q_1, .ref q_2, .null, .int 0, .int 0, .int 0])), (q_1, .inl (cI, 4, .inl (fun _ => 0))), (q_2, .inl (cI, 4, .inl (fun _ => 0))), (q_3, .inl (cI, 4, .inl (fun _ => 0)))] H := hP
  have hD : va_D A [(af, .inr (2, [.ref q_1, .ref q_2, .null, .int 0, .int 0, .int 0])), (q_1, .inl (cI, 4, .inl (fun _ => 0))), (q_2, .inl (cI, 4, .inl (fun _ => 0))), (q_3, .inl (cI, 4, .inl (fun _ => 0)))] := hD
  refine va_putF (ci := 2) (v := .ref q_3) (ty := .array .int) (C := RX2) (T := TX2) (N := 6) hx hb hT wu_X2 tyX2 tyX2_ok nmX2 hown hK hP hD hS 0 rfl rfl 2 (by decide) (hT _ wf_X2_18) (fun _ h9 => h9) rfl (hname rfl) rfl (by decide +kernel) rfl rfl (Nat.le_of_ble_eq_true rfl) dX2_init_22 (fun H locs hP hD hS => ?_)
  have hP : va_P D CL [(af, .inr (2, [.ref q_1, .ref q_2, .ref q_3, .int 0, .int 0, .int 0])), (q_1, .inl (cI, 4, .inl (fun _ => 0))), (q_2, .inl (cI, 4, .inl (fun _ => 0))), (q_3, .inl (cI, 4, .inl (fun _ => 0)))] H := hP
  have hD : va_D A [(af, .inr (2, [.ref q_1, .ref q_2, .ref q_3, .int 0, .int 0, .int 0])), (q_1, .inl (cI, 4, .inl (fun _ => 0))), (q_2, .inl (cI, 4, .inl (fun _ => 0))), (q_3, .inl (cI, 4, .inl (fun _ => 0)))] := hD
  exact retV C0 (q_1, q_2, q_3, (fun _ => 0), (fun _ => 0), (fun _ => 0)) trivial (hP.sub (ws' := [(af, .inr (2, [.ref q_1, .ref q_2, .ref q_3, .int 0, .int 0, .int 0])), (q_1, .inl (cI, 4, .inl (fun _ => 0))), (q_2, .inl (cI, 4, .inl (fun _ => 0))), (q_3, .inl (cI, 4, .inl (fun _ => 0)))]) [0, 1, 2, 3] rfl) (hD.sub (ws' := [(af, .inr (2, [.ref q_1, .ref q_2, .ref q_3, .int 0, .int 0, .int 0])), (q_1, .inl (cI, 4, .inl (fun _ => 0))), (q_2, .inl (cI, 4, .inl (fun _ => 0))), (q_3, .inl (cI, 4, .inl (fun _ => 0)))]) [0, 1, 2, 3] (by decide) rfl) hS (Nat.le_of_ble_eq_true rfl) (Nat.le_of_ble_eq_true rfl) dX2_init_25

set_option maxHeartbeats 4000000 in
set_option maxRecDepth 100000 in
theorem c_Held_init (l : Launch) (D : va_G) (cI cZ cQ cT : ClassId) (sz : Nat) (ah : Nat)  : MetV l yX3_init cX3_init 1 ({ frames := 2, cells := 6, slots := 128, locals := 60 } : Room) [.ref ah] D (TYS cI cZ cQ cT) EF sz [(ah, .inr (3, [.null, .null, .null, .int 0, .int 0, .int 0]))] (S := Nat × Nat × Nat × Nat × Nat × Nat × (Nat → Int32) × (Nat → Int32) × (Nat → Int32) × (Nat → Int32) × (Nat → Int32)) (fun (_ : Nat × Nat × Nat × Nat × Nat × Nat × (Nat → Int32) × (Nat → Int32) × (Nat → Int32) × (Nat → Int32) × (Nat → Int32)) => True) (fun u => [(ah, .inr (3, [.ref u.1, .ref u.2.1, .ref u.2.2.1, .int 0, .int 0, .int 0])), (u.1, .inr (2, [.ref u.2.2.2.1, .ref u.2.2.2.2.1, .ref u.2.2.2.2.2.1, .int 0, .int 0, .int 0])), (u.2.2.2.1, .inl (cI, 4, .inl u.2.2.2.2.2.2.1)), (u.2.2.2.2.1, .inl (cI, 4, .inl u.2.2.2.2.2.2.2.1)), (u.2.2.2.2.2.1, .inl (cI, 4, .inl u.2.2.2.2.2.2.2.2.1)), (u.2.1, .inl (cI, 100, .inl u.2.2.2.2.2.2.2.2.2.1)), (u.2.2.1, .inl (cI, 10, .inl u.2.2.2.2.2.2.2.2.2.2))]) := by
  refine MetV.mk (lv := [(0, .ref ah)]) (by decide +kernel) (Nat.le_of_ble_eq_true rfl) rfl ?_
  intro p e s m below meth c A ls C0 hP hD hS hX hl
  have C1 := C0
  obtain ⟨hx, hb, hr, hml, hown, hlocks, hname, hT, hN, hK, hA⟩ := C1
  refine lv_aload_n hx hb dX3_init_0 rfl (lv_at hl 0 rfl) ?_
  refine objI C0 wl_X3_3 wi_objectInit wc_objectInit hl.1 (Nat.le_of_ble_eq_true rfl) (Nat.le_of_ble_eq_true rfl) dX3_init_1 ?_
  refine lv_aload_n hx hb dX3_init_4 rfl (lv_at hl 0 rfl) ?_
  refine va_new (ci := 2) (fs := [.null, .null, .null, .int 0, .int 0, .int 0]) (C := RX2) (T := TX2) (N := 6) hx hb hT wu_X2 tyX2 tyX2_ok hown (hT _ wcl_X3_9) (hT _ wn_X2) (hT _ wz_X2) hK hP hD hS hA rfl (fun j hj => by rcases (show j = 0 ∨ j = 1 ∨ j = 2 ∨ j = 3 ∨ j = 4 ∨ j = 5 by omega) with rfl | rfl | rfl | rfl | rfl | rfl <;> rfl) (Nat.le_of_ble_eq_true rfl) (Nat.le_of_ble_eq_true rfl) dX3_init_5 (fun q_1 H hP hD hS => ?_)
  have hP : va_P D CL [(ah, .inr (3, [.null, .null, .null, .int 0, .int 0, .int 0])), (q_1, .inr (2, [.null, .null, .null, .int 0, .int 0, .int 0]))] H := hP
  have hD : va_D A [(ah, .inr (3, [.null, .null, .null, .int 0, .int 0, .int 0])), (q_1, .inr (2, [.null, .null, .null, .int 0, .int 0, .int 0]))] := hD
  refine W.widen (k := 1) (n := 6) (by omega) (by omega) ?_
  refine lv_dup hx hb dX3_init_8 rfl ?_
  refine contV (wc := [(q_1, .inr (2, [.null, .null, .null, .int 0, .int 0, .int 0]))]) (wr := [(ah, .inr (3, [.null, .null, .null, .int 0, .int 0, .int 0]))]) C0 hP hD hS [1] [0] rfl rfl (by decide) (by decide) 4 18 (Nat.le_of_ble_eq_true rfl) (Nat.le_of_ble_eq_true rfl) (runIN (As := []) (rest := [.ref q_1, .ref ah]) "DayKnown" 128 C0 (c_Folk_init l D cI cZ cQ cT H.size q_1) wc_X2_init kl_X3_11 wi_X2_init wz_X2 rfl ⟨by decide, by decide, by decide +kernel⟩ ⟨(Nat.le_of_ble_eq_true rfl), (Nat.le_of_ble_eq_true rfl)⟩ hP hD hS EF.ok hX [1] rfl (by decide) rfl hl.1 rfl (Nat.le_of_ble_eq_true rfl) dX3_init_9 ⟨(Nat.le_of_ble_eq_true rfl), (Nat.le_of_ble_eq_true rfl)⟩) (fun u_8 H locs w_9 hP hD hS => ?_)
  obtain ⟨q1_2, q2_3, q3_4, g1_5, g2_6, g3_7⟩ := u_8
  have hP : va_P D CL [(ah, .inr (3, [.null, .null, .null, .int 0, .int 0, .int 0])), (q_1, .inr (2, [.ref q1_2, .ref q2_3, .ref q3_4, .int 0, .int 0, .int 0])), (q1_2, .inl (cI, 4, .inl g1_5)), (q2_3, .inl (cI, 4, .inl g2_6)), (q3_4, .inl (cI, 4, .inl g3_7))] H := hP
  have hD : va_D A [(ah, .inr (3, [.null, .null, .null, .int 0, .int 0, .int 0])), (q_1, .inr (2, [.ref q1_2, .ref q2_3, .ref q3_4, .int 0, .int 0, .int 0])), (q1_2, .inl (cI, 4, .inl g1_5)), (q2_3, .inl (cI, 4, .inl g2_6)), (q3_4, .inl (cI, 4, .inl g3_7))] := hD
  refine va_putF (ci := 3) (v := .ref q_1) (ty := .object "DayKnown$Folk") (C := RX3) (T := TX3) (N := 6) hx hb hT wu_X3 tyX3 tyX3_ok nmX3 hown hK hP hD hS 0 rfl rfl 0 (by decide) (hT _ wf_X3_12) (fun _ h9 => h9) rfl (hname rfl) rfl (by decide +kernel) rfl rfl (Nat.le_of_ble_eq_true rfl) dX3_init_12 (fun H locs hP hD hS => ?_)
  have hP : va_P D CL [(ah, .inr (3, [.ref q_1, .null, .null, .int 0, .int 0, .int 0])), (q_1, .inr (2, [.ref q1_2, .ref q2_3, .ref q3_4, .int 0, .int 0, .int 0])), (q1_2, .inl (cI, 4, .inl g1_5)), (q2_3, .inl (cI, 4, .inl g2_6)), (q3_4, .inl (cI, 4, .inl g3_7))] H := hP
  have hD : va_D A [(ah, .inr (3, [.ref q_1, .null, .null, .int 0, .int 0, .int 0])), (q_1, .inr (2, [.ref q1_2, .ref q2_3, .ref q3_4, .int 0, .int 0, .int 0])), (q1_2, .inl (cI, 4, .inl g1_5)), (q2_3, .inl (cI, 4, .inl g2_6)), (q3_4, .inl (cI, 4, .inl g3_7))] := hD
  refine lv_aload_n hx hb dX3_init_15 rfl (lv_at hl 0 rfl) ?_
  refine lv_bipush (v := 100) hx hb dX3_init_16 (by decide) ?_
  refine newI C0 wa_int 0 rfl hP hD hS (by decide +kernel) (N := 100) (by decide +kernel) (by decide) 5 118 (Nat.le_of_ble_eq_true rfl) (Nat.le_of_ble_eq_true rfl) (Nat.le_of_ble_eq_true rfl) (Nat.le_of_ble_eq_true rfl) dX3_init_18 (fun q_11 H hP hD hS => ?_)
  have hP : va_P D CL [(ah, .inr (3, [.ref q_1, .null, .null, .int 0, .int 0, .int 0])), (q_1, .inr (2, [.ref q1_2, .ref q2_3, .ref q3_4, .int 0, .int 0, .int 0])), (q1_2, .inl (cI, 4, .inl g1_5)), (q2_3, .inl (cI, 4, .inl g2_6)), (q3_4, .inl (cI, 4, .inl g3_7)), (q_11, .inl (cI, 100, .inl (fun _ => 0)))] H := hP
  have hD : va_D A [(ah, .inr (3, [.ref q_1, .null, .null, .int 0, .int 0, .int 0])), (q_1, .inr (2, [.ref q1_2, .ref q2_3, .ref q3_4, .int 0, .int 0, .int 0])), (q1_2, .inl (cI, 4, .inl g1_5)), (q2_3, .inl (cI, 4, .inl g2_6)), (q3_4, .inl (cI, 4, .inl g3_7)), (q_11, .inl (cI, 100, .inl (fun _ => 0)))] := hD
  refine va_putF (ci := 3) (v := .ref q_11) (ty := .array .int) (C := RX3) (T := TX3) (N := 6) hx hb hT wu_X3 tyX3 tyX3_ok nmX3 hown hK hP hD hS 0 rfl rfl 1 (by decide) (hT _ wf_X3_18) (fun _ h9 => h9) rfl (hname rfl) rfl (by decide +kernel) rfl rfl (Nat.le_of_ble_eq_true rfl) dX3_init_20 (fun H locs hP hD hS => ?_)
  have hP : va_P D CL [(ah, .inr (3, [.ref q_1, .ref q_11, .null, .int 0, .int 0, .int 0])), (q_1, .inr (2, [.ref q1_2, .ref q2_3, .ref q3_4, .int 0, .int 0, .int 0])), (q1_2, .inl (cI, 4, .inl g1_5)), (q2_3, .inl (cI, 4, .inl g2_6)), (q3_4, .inl (cI, 4, .inl g3_7)), (q_11, .inl (cI, 100, .inl (fun _ => 0)))] H := hP
  have hD : va_D A [(ah, .inr (3, [.ref q_1, .ref q_11, .null, .int 0, .int 0, .int 0])), (q_1, .inr (2, [.ref q1_2, .ref q2_3, .ref q3_4, .int 0, .int 0, .int 0])), (q1_2, .inl (cI, 4, .inl g1_5)), (q2_3, .inl (cI, 4, .inl g2_6)), (q3_4, .inl (cI, 4, .inl g3_7)), (q_11, .inl (cI, 100, .inl (fun _ => 0)))] := hD
  refine lv_aload_n hx hb dX3_init_23 rfl (lv_at hl 0 rfl) ?_
  refine lv_bipush (v := 10) hx hb dX3_init_24 (by decide) ?_
  refine newI C0 wa_int 0 rfl hP hD hS (by decide +kernel) (N := 10) (by decide +kernel) (by decide) 6 128 (Nat.le_of_ble_eq_true rfl) (Nat.le_of_ble_eq_true rfl) (Nat.le_of_ble_eq_true rfl) (Nat.le_of_ble_eq_true rfl) dX3_init_26 (fun q_12 H hP hD hS => ?_)
  have hP : va_P D CL [(ah, .inr (3, [.ref q_1, .ref q_11, .null, .int 0, .int 0, .int 0])), (q_1, .inr (2, [.ref q1_2, .ref q2_3, .ref q3_4, .int 0, .int 0, .int 0])), (q1_2, .inl (cI, 4, .inl g1_5)), (q2_3, .inl (cI, 4, .inl g2_6)), (q3_4, .inl (cI, 4, .inl g3_7)), (q_11, .inl (cI, 100, .inl (fun _ => 0))), (q_12, .inl (cI, 10, .inl (fun _ => 0)))] H := hP
  have hD : va_D A [(ah, .inr (3, [.ref q_1, .ref q_11, .null, .int 0, .int 0, .int 0])), (q_1, .inr (2, [.ref q1_2, .ref q2_3, .ref q3_4, .int 0, .int 0, .int 0])), (q1_2, .inl (cI, 4, .inl g1_5)), (q2_3, .inl (cI, 4, .inl g2_6)), (q3_4, .inl (cI, 4, .inl g3_7)), (q_11, .inl (cI, 100, .inl (fun _ => 0))), (q_12, .inl (cI, 10, .inl (fun _ => 0)))] := hD
  refine va_putF (ci := 3) (v := .ref q_12) (ty := .array .int) (C := RX3) (T := TX3) (N := 6) hx hb hT wu_X3 tyX3 tyX3_ok nmX3 hown hK hP hD hS 0 rfl rfl 2 (by decide) (hT _ wf_X3_22) (fun _ h9 => h9) rfl (hname rfl) rfl (by decide +kernel) rfl rfl (Nat.le_of_ble_eq_true rfl) dX3_init_28 (fun H locs hP hD hS => ?_)
  have hP : va_P D CL [(ah, .inr (3, [.ref q_1, .ref q_11, .ref q_12, .int 0, .int 0, .int 0])), (q_1, .inr (2, [.ref q1_2, .ref q2_3, .ref q3_4, .int 0, .int 0, .int 0])), (q1_2, .inl (cI, 4, .inl g1_5)), (q2_3, .inl (cI, 4, .inl g2_6)), (q3_4, .inl (cI, 4, .inl g3_7)), (q_11, .inl (cI, 100, .inl (fun _ => 0))), (q_12, .inl (cI, 10, .inl (fun _ => 0)))] H := hP
  have hD : va_D A [(ah, .inr (3, [.ref q_1, .ref q_11, .ref q_12, .int 0, .int 0, .int 0])), (q_1, .inr (2, [.ref q1_2, .ref q2_3, .ref q3_4, .int 0, .int 0, .int 0])), (q1_2, .inl (cI, 4, .inl g1_5)), (q2_3, .inl (cI, 4, .inl g2_6)), (q3_4, .inl (cI, 4, .inl g3_7)), (q_11, .inl (cI, 100, .inl (fun _ => 0))), (q_12, .inl (cI, 10, .inl (fun _ => 0)))] := hD
  exact retV C0 (q_1, q_11, q_12, q1_2, q2_3, q3_4, g1_5, g2_6, g3_7, (fun _ => 0), (fun _ => 0)) trivial (hP.sub (ws' := [(ah, .inr (3, [.ref q_1, .ref q_11, .ref q_12, .int 0, .int 0, .int 0])), (q_1, .inr (2, [.ref q1_2, .ref q2_3, .ref q3_4, .int 0, .int 0, .int 0])), (q1_2, .inl (cI, 4, .inl g1_5)), (q2_3, .inl (cI, 4, .inl g2_6)), (q3_4, .inl (cI, 4, .inl g3_7)), (q_11, .inl (cI, 100, .inl (fun _ => 0))), (q_12, .inl (cI, 10, .inl (fun _ => 0)))]) [0, 1, 2, 3, 4, 5, 6] rfl) (hD.sub (ws' := [(ah, .inr (3, [.ref q_1, .ref q_11, .ref q_12, .int 0, .int 0, .int 0])), (q_1, .inr (2, [.ref q1_2, .ref q2_3, .ref q3_4, .int 0, .int 0, .int 0])), (q1_2, .inl (cI, 4, .inl g1_5)), (q2_3, .inl (cI, 4, .inl g2_6)), (q3_4, .inl (cI, 4, .inl g3_7)), (q_11, .inl (cI, 100, .inl (fun _ => 0))), (q_12, .inl (cI, 10, .inl (fun _ => 0)))]) [0, 1, 2, 3, 4, 5, 6] (by decide) rfl) hS (Nat.le_of_ble_eq_true rfl) (Nat.le_of_ble_eq_true rfl) dX3_init_31

set_option maxHeartbeats 4000000 in
set_option maxRecDepth 100000 in
theorem c_Town_init (l : Launch) (D : va_G) (cI cZ cQ cT : ClassId) (sz : Nat) (an : Nat)  : MetV l yX4_init cX4_init 1 ({ frames := 1, cells := 4, slots := 216, locals := 40 } : Room) [.ref an] D (TYS cI cZ cQ cT) EF sz [(an, .inr (4, [.null, .int 0, .int 0, .null, .int 0, .null, .null, .int 0, .int 0]))] (S := Nat × Nat × Nat × Nat × (Nat → Int32)) (fun (_ : Nat × Nat × Nat × Nat × (Nat → Int32)) => True) (fun u => [(an, .inr (4, [.ref u.1, .int 0, .int 0, .ref u.2.1, .int 0, .ref u.2.2.1, .ref u.2.2.2.1, .int 0, .int 0])), (u.1, .inl (cI, 100, .inl u.2.2.2.2))]) := by
  refine MetV.mk (lv := [(0, .ref an)]) (by decide +kernel) (Nat.le_of_ble_eq_true rfl) rfl ?_
  intro p e s m below meth c A ls C0 hP hD hS hX hl
  have C1 := C0
  obtain ⟨hx, hb, hr, hml, hown, hlocks, hname, hT, hN, hK, hA⟩ := C1
  refine lv_aload_n hx hb dX4_init_0 rfl (lv_at hl 0 rfl) ?_
  refine objI C0 wl_X4_3 wi_objectInit wc_objectInit hl.1 (Nat.le_of_ble_eq_true rfl) (Nat.le_of_ble_eq_true rfl) dX4_init_1 ?_
  refine lv_aload_n hx hb dX4_init_4 rfl (lv_at hl 0 rfl) ?_
  refine lv_bipush (v := 100) hx hb dX4_init_5 (by decide) ?_
  refine newI C0 wa_int 0 rfl hP hD hS (by decide +kernel) (N := 100) (by decide +kernel) (by decide) 1 100 (Nat.le_of_ble_eq_true rfl) (Nat.le_of_ble_eq_true rfl) (Nat.le_of_ble_eq_true rfl) (Nat.le_of_ble_eq_true rfl) dX4_init_7 (fun q_1 H hP hD hS => ?_)
  have hP : va_P D CL [(an, .inr (4, [.null, .int 0, .int 0, .null, .int 0, .null, .null, .int 0, .int 0])), (q_1, .inl (cI, 100, .inl (fun _ => 0)))] H := hP
  have hD : va_D A [(an, .inr (4, [.null, .int 0, .int 0, .null, .int 0, .null, .null, .int 0, .int 0])), (q_1, .inl (cI, 100, .inl (fun _ => 0)))] := hD
  refine va_putF (ci := 4) (v := .ref q_1) (ty := .array .int) (C := RX4) (T := TX4) (N := 9) hx hb hT wu_X4 tyX4 tyX4_ok nmX4 hown hK hP hD hS 0 rfl rfl 0 (by decide) (hT _ wf_X4_9) (fun _ h9 => h9) rfl (hname rfl) rfl (by decide +kernel) rfl rfl (Nat.le_of_ble_eq_true rfl) dX4_init_9 (fun H locs hP hD hS => ?_)
  have hP : va_P D CL [(an, .inr (4, [.ref q_1, .int 0, .int 0, .null, .int 0, .null, .null, .int 0, .int 0])), (q_1, .inl (cI, 100, .inl (fun _ => 0)))] H := hP
  have hD : va_D A [(an, .inr (4, [.ref q_1, .int 0, .int 0, .null, .int 0, .null, .null, .int 0, .int 0])), (q_1, .inl (cI, 100, .inl (fun _ => 0)))] := hD
  refine lv_aload_n hx hb dX4_init_12 rfl (lv_at hl 0 rfl) ?_
  refine lv_bipush (v := 100) hx hb dX4_init_13 (by decide) ?_
  refine newI C0 wa_int 0 rfl hP hD hS (by decide +kernel) (N := 100) (by decide +kernel) (by decide) 2 200 (Nat.le_of_ble_eq_true rfl) (Nat.le_of_ble_eq_true rfl) (Nat.le_of_ble_eq_true rfl) (Nat.le_of_ble_eq_true rfl) dX4_init_15 (fun q_2 H hP hD hS => ?_)
  have hP : va_P D CL [(an, .inr (4, [.ref q_1, .int 0, .int 0, .null, .int 0, .null, .null, .int 0, .int 0])), (q_1, .inl (cI, 100, .inl (fun _ => 0))), (q_2, .inl (cI, 100, .inl (fun _ => 0)))] H := hP
  have hD : va_D A [(an, .inr (4, [.ref q_1, .int 0, .int 0, .null, .int 0, .null, .null, .int 0, .int 0])), (q_1, .inl (cI, 100, .inl (fun _ => 0))), (q_2, .inl (cI, 100, .inl (fun _ => 0)))] := hD
  refine va_putF (ci := 4) (v := .ref q_2) (ty := .array .int) (C := RX4) (T := TX4) (N := 9) hx hb hT wu_X4 tyX4 tyX4_ok nmX4 hown hK hP hD hS 0 rfl rfl 3 (by decide) (hT _ wf_X4_15) (fun _ h9 => h9) rfl (hname rfl) rfl (by decide +kernel) rfl rfl (Nat.le_of_ble_eq_true rfl) dX4_init_17 (fun H locs hP hD hS => ?_)
  have hP : va_P D CL [(an, .inr (4, [.ref q_1, .int 0, .int 0, .ref q_2, .int 0, .null, .null, .int 0, .int 0])), (q_1, .inl (cI, 100, .inl (fun _ => 0))), (q_2, .inl (cI, 100, .inl (fun _ => 0)))] H := hP
  have hD : va_D A [(an, .inr (4, [.ref q_1, .int 0, .int 0, .ref q_2, .int 0, .null, .null, .int 0, .int 0])), (q_1, .inl (cI, 100, .inl (fun _ => 0))), (q_2, .inl (cI, 100, .inl (fun _ => 0)))] := hD
  refine lv_aload_n hx hb dX4_init_20 rfl (lv_at hl 0 rfl) ?_
  refine lv_bipush (v := 8) hx hb dX4_init_21 (by decide) ?_
  refine newI C0 wa_int 0 rfl hP hD hS (by decide +kernel) (N := 8) (by decide +kernel) (by decide) 3 208 (Nat.le_of_ble_eq_true rfl) (Nat.le_of_ble_eq_true rfl) (Nat.le_of_ble_eq_true rfl) (Nat.le_of_ble_eq_true rfl) dX4_init_23 (fun q_3 H hP hD hS => ?_)
  have hP : va_P D CL [(an, .inr (4, [.ref q_1, .int 0, .int 0, .ref q_2, .int 0, .null, .null, .int 0, .int 0])), (q_1, .inl (cI, 100, .inl (fun _ => 0))), (q_2, .inl (cI, 100, .inl (fun _ => 0))), (q_3, .inl (cI, 8, .inl (fun _ => 0)))] H := hP
  have hD : va_D A [(an, .inr (4, [.ref q_1, .int 0, .int 0, .ref q_2, .int 0, .null, .null, .int 0, .int 0])), (q_1, .inl (cI, 100, .inl (fun _ => 0))), (q_2, .inl (cI, 100, .inl (fun _ => 0))), (q_3, .inl (cI, 8, .inl (fun _ => 0)))] := hD
  refine va_putF (ci := 4) (v := .ref q_3) (ty := .array .int) (C := RX4) (T := TX4) (N := 9) hx hb hT wu_X4 tyX4 tyX4_ok nmX4 hown hK hP hD hS 0 rfl rfl 5 (by decide) (hT _ wf_X4_18) (fun _ h9 => h9) rfl (hname rfl) rfl (by decide +kernel) rfl rfl (Nat.le_of_ble_eq_true rfl) dX4_init_25 (fun H locs hP hD hS => ?_)
  have hP : va_P D CL [(an, .inr (4, [.ref q_1, .int 0, .int 0, .ref q_2, .int 0, .ref q_3, .null, .int 0, .int 0])), (q_1, .inl (cI, 100, .inl (fun _ => 0))), (q_2, .inl (cI, 100, .inl (fun _ => 0))), (q_3, .inl (cI, 8, .inl (fun _ => 0)))] H := hP
  have hD : va_D A [(an, .inr (4, [.ref q_1, .int 0, .int 0, .ref q_2, .int 0, .ref q_3, .null, .int 0, .int 0])), (q_1, .inl (cI, 100, .inl (fun _ => 0))), (q_2, .inl (cI, 100, .inl (fun _ => 0))), (q_3, .inl (cI, 8, .inl (fun _ => 0)))] := hD
  refine lv_aload_n hx hb dX4_init_28 rfl (lv_at hl 0 rfl) ?_
  refine lv_bipush (v := 8) hx hb dX4_init_29 (by decide) ?_
  refine newI C0 wa_int 0 rfl hP hD hS (by decide +kernel) (N := 8) (by decide +kernel) (by decide) 4 216 (Nat.le_of_ble_eq_true rfl) (Nat.le_of_ble_eq_true rfl) (Nat.le_of_ble_eq_true rfl) (Nat.le_of_ble_eq_true rfl) dX4_init_31 (fun q_4 H hP hD hS => ?_)
  have hP : va_P D CL [(an, .inr (4, [.ref q_1, .int 0, .int 0, .ref q_2, .int 0, .ref q_3, .null, .int 0, .int 0])), (q_1, .inl (cI, 100, .inl (fun _ => 0))), (q_2, .inl (cI, 100, .inl (fun _ => 0))), (q_3, .inl (cI, 8, .inl (fun _ => 0))), (q_4, .inl (cI, 8, .inl (fun _ => 0)))] H := hP
  have hD : va_D A [(an, .inr (4, [.ref q_1, .int 0, .int 0, .ref q_2, .int 0, .ref q_3, .null, .int 0, .int 0])), (q_1, .inl (cI, 100, .inl (fun _ => 0))), (q_2, .inl (cI, 100, .inl (fun _ => 0))), (q_3, .inl (cI, 8, .inl (fun _ => 0))), (q_4, .inl (cI, 8, .inl (fun _ => 0)))] := hD
  refine va_putF (ci := 4) (v := .ref q_4) (ty := .array .int) (C := RX4) (T := TX4) (N := 9) hx hb hT wu_X4 tyX4 tyX4_ok nmX4 hown hK hP hD hS 0 rfl rfl 6 (by decide) (hT _ wf_X4_21) (fun _ h9 => h9) rfl (hname rfl) rfl (by decide +kernel) rfl rfl (Nat.le_of_ble_eq_true rfl) dX4_init_33 (fun H locs hP hD hS => ?_)
  have hP : va_P D CL [(an, .inr (4, [.ref q_1, .int 0, .int 0, .ref q_2, .int 0, .ref q_3, .ref q_4, .int 0, .int 0])), (q_1, .inl (cI, 100, .inl (fun _ => 0))), (q_2, .inl (cI, 100, .inl (fun _ => 0))), (q_3, .inl (cI, 8, .inl (fun _ => 0))), (q_4, .inl (cI, 8, .inl (fun _ => 0)))] H := hP
  have hD : va_D A [(an, .inr (4, [.ref q_1, .int 0, .int 0, .ref q_2, .int 0, .ref q_3, .ref q_4, .int 0, .int 0])), (q_1, .inl (cI, 100, .inl (fun _ => 0))), (q_2, .inl (cI, 100, .inl (fun _ => 0))), (q_3, .inl (cI, 8, .inl (fun _ => 0))), (q_4, .inl (cI, 8, .inl (fun _ => 0)))] := hD
  exact retV C0 (q_1, q_2, q_3, q_4, (fun _ => 0)) trivial (hP.sub (ws' := [(an, .inr (4, [.ref q_1, .int 0, .int 0, .ref q_2, .int 0, .ref q_3, .ref q_4, .int 0, .int 0])), (q_1, .inl (cI, 100, .inl (fun _ => 0)))]) [0, 1] rfl) (hD.sub (ws' := [(an, .inr (4, [.ref q_1, .int 0, .int 0, .ref q_2, .int 0, .ref q_3, .ref q_4, .int 0, .int 0])), (q_1, .inl (cI, 100, .inl (fun _ => 0)))]) [0, 1] (by decide) rfl) hS (Nat.le_of_ble_eq_true rfl) (Nat.le_of_ble_eq_true rfl) dX4_init_36

set_option maxHeartbeats 4000000 in
set_option maxRecDepth 100000 in
theorem c_Days_init (l : Launch) (D : va_G) (cI cZ cQ cT : ClassId) (sz : Nat) (ad : Nat) (af : Nat)  : MetV l yX1_init cX1_init 3 ({ frames := 1, cells := 12, slots := 658, locals := 40 } : Room) [.ref ad, .ref af] D (TYS cI cZ cQ cT) EF sz [(ad, .inr (1, [.null, .null, .null, .null, .null, .int 0, .int 0, .int 0, .int 0, .int 0, .int 0, .int 0]))] (S := Nat × Nat × Nat × Nat) (fun (_ : Nat × Nat × Nat × Nat) => True) (fun u => [(ad, .inr (1, [.ref af, .ref u.1, .ref u.2.1, .ref u.2.2.1, .ref u.2.2.2, .int 0, .int 0, .int 0, .int 0, .int 0, .int 0, .int 0]))]) := by
  refine MetV.mk (lv := [(0, .ref ad), (1, .ref af)]) (by decide +kernel) (Nat.le_of_ble_eq_true rfl) rfl ?_
  intro p e s m below meth c A ls C0 hP hD hS hX hl
  have C1 := C0
  obtain ⟨hx, hb, hr, hml, hown, hlocks, hname, hT, hN, hK, hA⟩ := C1
  refine lv_aload_n hx hb dX1_init_0 rfl (lv_at hl 0 rfl) ?_
  refine objI C0 wl_X1_5 wi_objectInit wc_objectInit hl.1 (Nat.le_of_ble_eq_true rfl) (Nat.le_of_ble_eq_true rfl) dX1_init_1 ?_
  refine lv_aload_n hx hb dX1_init_4 rfl (lv_at hl 0 rfl) ?_
  refine lv_iconst (v := 4) hx hb dX1_init_5 (by decide) ?_
  refine lv_bipush (v := 96) hx hb dX1_init_6 (by decide) ?_
  refine newQ C0 wcl_X1_11 wa_int 0 2 rfl rfl hP hD hS (by decide +kernel) (by decide +kernel) (N := 4) (K := 96) (by decide +kernel) (by decide +kernel) (by decide) (by decide) (by decide) 5 388 (Nat.le_of_ble_eq_true rfl) (Nat.le_of_ble_eq_true rfl) (Nat.le_of_ble_eq_true rfl) (Nat.le_of_ble_eq_true rfl) dX1_init_8 (fun q_1 H hP hD hS => ?_)
  have hP : va_P D CL [(ad, .inr (1, [.null, .null, .null, .null, .null, .int 0, .int 0, .int 0, .int 0, .int 0, .int 0, .int 0]))] H := hP
  have hD : va_D A [(ad, .inr (1, [.null, .null, .null, .null, .null, .int 0, .int 0, .int 0, .int 0, .int 0, .int 0, .int 0]))] := hD
  refine va_putF (ci := 1) (v := .ref q_1) (ty := .array (.array .int)) (C := RX1) (T := TX1) (N := 12) hx hb hT wu_X1 tyX1 tyX1_ok nmX1 hown hK hP hD hS 0 rfl rfl 1 (by decide) (hT _ wf_X1_13) (fun _ h9 => h9) rfl (hname rfl) rfl (by decide +kernel) rfl rfl (Nat.le_of_ble_eq_true rfl) dX1_init_12 (fun H locs hP hD hS => ?_)
  have hP : va_P D CL [(ad, .inr (1, [.null, .ref q_1, .null, .null, .null, .int 0, .int 0, .int 0, .int 0, .int 0, .int 0, .int 0]))] H := hP
  have hD : va_D A [(ad, .inr (1, [.null, .ref q_1, .null, .null, .null, .int 0, .int 0, .int 0, .int 0, .int 0, .int 0, .int 0]))] := hD
  refine lv_aload_n hx hb dX1_init_15 rfl (lv_at hl 0 rfl) ?_
  refine lv_iconst (v := 4) hx hb dX1_init_16 (by decide) ?_
  refine newI C0 wa_int 0 rfl hP hD hS (by decide +kernel) (N := 4) (by decide +kernel) (by decide) 6 392 (Nat.le_of_ble_eq_true rfl) (Nat.le_of_ble_eq_true rfl) (Nat.le_of_ble_eq_true rfl) (Nat.le_of_ble_eq_true rfl) dX1_init_17 (fun q_2 H hP hD hS => ?_)
  have hP : va_P D CL [(ad, .inr (1, [.null, .ref q_1, .null, .null, .null, .int 0, .int 0, .int 0, .int 0, .int 0, .int 0, .int 0])), (q_2, .inl (cI, 4, .inl (fun _ => 0)))] H := hP
  have hD : va_D A [(ad, .inr (1, [.null, .ref q_1, .null, .null, .null, .int 0, .int 0, .int 0, .int 0, .int 0, .int 0, .int 0])), (q_2, .inl (cI, 4, .inl (fun _ => 0)))] := hD
  refine va_putF (ci := 1) (v := .ref q_2) (ty := .array .int) (C := RX1) (T := TX1) (N := 12) hx hb hT wu_X1 tyX1 tyX1_ok nmX1 hown hK hP hD hS 0 rfl rfl 2 (by decide) (hT _ wf_X1_16) (fun _ h9 => h9) rfl (hname rfl) rfl (by decide +kernel) rfl rfl (Nat.le_of_ble_eq_true rfl) dX1_init_19 (fun H locs hP hD hS => ?_)
  have hP : va_P D CL [(ad, .inr (1, [.null, .ref q_1, .ref q_2, .null, .null, .int 0, .int 0, .int 0, .int 0, .int 0, .int 0, .int 0])), (q_2, .inl (cI, 4, .inl (fun _ => 0)))] H := hP
  have hD : va_D A [(ad, .inr (1, [.null, .ref q_1, .ref q_2, .null, .null, .int 0, .int 0, .int 0, .int 0, .int 0, .int 0, .int 0])), (q_2, .inl (cI, 4, .inl (fun _ => 0)))] := hD
  refine lv_aload_n hx hb dX1_init_22 rfl (lv_at hl 0 rfl) ?_
  refine lv_bipush (v := 6) hx hb dX1_init_23 (by decide) ?_
  refine newI C0 wa_int 0 rfl hP hD hS (by decide +kernel) (N := 6) (by decide +kernel) (by decide) 7 398 (Nat.le_of_ble_eq_true rfl) (Nat.le_of_ble_eq_true rfl) (Nat.le_of_ble_eq_true rfl) (Nat.le_of_ble_eq_true rfl) dX1_init_25 (fun q_3 H hP hD hS => ?_)
  have hP : va_P D CL [(ad, .inr (1, [.null, .ref q_1, .ref q_2, .null, .null, .int 0, .int 0, .int 0, .int 0, .int 0, .int 0, .int 0])), (q_2, .inl (cI, 4, .inl (fun _ => 0))), (q_3, .inl (cI, 6, .inl (fun _ => 0)))] H := hP
  have hD : va_D A [(ad, .inr (1, [.null, .ref q_1, .ref q_2, .null, .null, .int 0, .int 0, .int 0, .int 0, .int 0, .int 0, .int 0])), (q_2, .inl (cI, 4, .inl (fun _ => 0))), (q_3, .inl (cI, 6, .inl (fun _ => 0)))] := hD
  refine va_putF (ci := 1) (v := .ref q_3) (ty := .array .int) (C := RX1) (T := TX1) (N := 12) hx hb hT wu_X1 tyX1 tyX1_ok nmX1 hown hK hP hD hS 0 rfl rfl 3 (by decide) (hT _ wf_X1_20) (fun _ h9 => h9) rfl (hname rfl) rfl (by decide +kernel) rfl rfl (Nat.le_of_ble_eq_true rfl) dX1_init_27 (fun H locs hP hD hS => ?_)
  have hP : va_P D CL [(ad, .inr (1, [.null, .ref q_1, .ref q_2, .ref q_3, .null, .int 0, .int 0, .int 0, .int 0, .int 0, .int 0, .int 0])), (q_2, .inl (cI, 4, .inl (fun _ => 0))), (q_3, .inl (cI, 6, .inl (fun _ => 0)))] H := hP
  have hD : va_D A [(ad, .inr (1, [.null, .ref q_1, .ref q_2, .ref q_3, .null, .int 0, .int 0, .int 0, .int 0, .int 0, .int 0, .int 0])), (q_2, .inl (cI, 4, .inl (fun _ => 0))), (q_3, .inl (cI, 6, .inl (fun _ => 0)))] := hD
  refine lv_aload_n hx hb dX1_init_30 rfl (lv_at hl 0 rfl) ?_
  refine lv_iconst (v := 4) hx hb dX1_init_31 (by decide) ?_
  refine lv_bipush (v := 64) hx hb dX1_init_32 (by decide) ?_
  refine newQ C0 wcl_X1_11 wa_int 0 2 rfl rfl hP hD hS (by decide +kernel) (by decide +kernel) (N := 4) (K := 64) (by decide +kernel) (by decide +kernel) (by decide) (by decide) (by decide) 12 658 (Nat.le_of_ble_eq_true rfl) (Nat.le_of_ble_eq_true rfl) (Nat.le_of_ble_eq_true rfl) (Nat.le_of_ble_eq_true rfl) dX1_init_34 (fun q_4 H hP hD hS => ?_)
  have hP : va_P D CL [(ad, .inr (1, [.null, .ref q_1, .ref q_2, .ref q_3, .null, .int 0, .int 0, .int 0, .int 0, .int 0, .int 0, .int 0])), (q_2, .inl (cI, 4, .inl (fun _ => 0))), (q_3, .inl (cI, 6, .inl (fun _ => 0)))] H := hP
  have hD : va_D A [(ad, .inr (1, [.null, .ref q_1, .ref q_2, .ref q_3, .null, .int 0, .int 0, .int 0, .int 0, .int 0, .int 0, .int 0])), (q_2, .inl (cI, 4, .inl (fun _ => 0))), (q_3, .inl (cI, 6, .inl (fun _ => 0)))] := hD
  refine va_putF (ci := 1) (v := .ref q_4) (ty := .array (.array .int)) (C := RX1) (T := TX1) (N := 12) hx hb hT wu_X1 tyX1 tyX1_ok nmX1 hown hK hP hD hS 0 rfl rfl 4 (by decide) (hT _ wf_X1_23) (fun _ h9 => h9) rfl (hname rfl) rfl (by decide +kernel) rfl rfl (Nat.le_of_ble_eq_true rfl) dX1_init_38 (fun H locs hP hD hS => ?_)
  have hP : va_P D CL [(ad, .inr (1, [.null, .ref q_1, .ref q_2, .ref q_3, .ref q_4, .int 0, .int 0, .int 0, .int 0, .int 0, .int 0, .int 0])), (q_2, .inl (cI, 4, .inl (fun _ => 0))), (q_3, .inl (cI, 6, .inl (fun _ => 0)))] H := hP
  have hD : va_D A [(ad, .inr (1, [.null, .ref q_1, .ref q_2, .ref q_3, .ref q_4, .int 0, .int 0, .int 0, .int 0, .int 0, .int 0, .int 0])), (q_2, .inl (cI, 4, .inl (fun _ => 0))), (q_3, .inl (cI, 6, .inl (fun _ => 0)))] := hD
  refine lv_aload_n hx hb dX1_init_41 rfl (lv_at hl 0 rfl) ?_
  refine lv_aload_n hx hb dX1_init_42 rfl (lv_at hl 1 rfl) ?_
  refine va_putF (ci := 1) (v := .ref af) (ty := .object "DayKnown$Folk") (C := RX1) (T := TX1) (N := 12) hx hb hT wu_X1 tyX1 tyX1_ok nmX1 hown hK hP hD hS 0 rfl rfl 0 (by decide) (hT _ wf_X1_26) (fun _ h9 => h9) rfl (hname rfl) rfl (by decide +kernel) rfl rfl (Nat.le_of_ble_eq_true rfl) dX1_init_43 (fun H locs hP hD hS => ?_)
  have hP : va_P D CL [(ad, .inr (1, [.ref af, .ref q_1, .ref q_2, .ref q_3, .ref q_4, .int 0, .int 0, .int 0, .int 0, .int 0, .int 0, .int 0])), (q_2, .inl (cI, 4, .inl (fun _ => 0))), (q_3, .inl (cI, 6, .inl (fun _ => 0)))] H := hP
  have hD : va_D A [(ad, .inr (1, [.ref af, .ref q_1, .ref q_2, .ref q_3, .ref q_4, .int 0, .int 0, .int 0, .int 0, .int 0, .int 0, .int 0])), (q_2, .inl (cI, 4, .inl (fun _ => 0))), (q_3, .inl (cI, 6, .inl (fun _ => 0)))] := hD
  refine lv_iconst (v := 0) hx hb dX1_init_46 (by decide) ?_
  refine lv_istore_n (lv' := [(2, .int 0), (0, .ref ad), (1, .ref af)]) hx hb dX1_init_47 rfl hl (by decide) rfl (fun ls hl => ?_)
  refine lv_iload_n hx hb dX1_init_48 rfl (lv_at hl 0 rfl) ?_
  refine lv_iconst (v := 4) hx hb dX1_init_49 (by decide) ?_
  refine lv_icmp_ge (tgt := 66) hx hb dX1_init_50 (by decide) (fun c_0 => absurd c_0 (by decide)) (fun _ => ?_)
  refine lv_aload_n hx hb dX1_init_53 rfl (lv_at hl 1 rfl) ?_
  refine va_get (ci := 1) (v := .ref q_2) (C := RX1) (T := TX1) (N := 12) hx hb hT wu_X1 hown hK hP 0 rfl rfl 2 (by decide) (hT _ wf_X1_16) (fun _ h9 => h9) rfl dX1_init_54 ?_
  refine lv_iload_n hx hb dX1_init_57 rfl (lv_at hl 0 rfl) ?_
  refine lv_iconst (v := (-1)) hx hb dX1_init_58 (by decide) ?_
  refine va_iast hx hb hK hP hD hS 1 0 rfl rfl (vin _ _ (by decide +kernel)) dX1_init_59 (fun H locs hP hD hS => ?_)
  have hP : va_P D CL [(ad, .inr (1, [.ref af, .ref q_1, .ref q_2, .ref q_3, .ref q_4, .int 0, .int 0, .int 0, .int 0, .int 0, .int 0, .int 0])), (q_2, .inl (cI, 4, .inl (upd (fun _ => 0) ((0 : Int32)).toNatClampNeg (-1)))), (q_3, .inl (cI, 6, .inl (fun _ => 0)))] H := hP
  have hD : va_D A [(ad, .inr (1, [.ref af, .ref q_1, .ref q_2, .ref q_3, .ref q_4, .int 0, .int 0, .int 0, .int 0, .int 0, .int 0, .int 0])), (q_2, .inl (cI, 4, .inl (upd (fun _ => 0) ((0 : Int32)).toNatClampNeg (-1)))), (q_3, .inl (cI, 6, .inl (fun _ => 0)))] := hD
  refine lv_iinc (v := 1) (lv' := [(2, .int 1), (0, .ref ad), (1, .ref af)]) hx hb dX1_init_60 hl (k := 0) rfl (by decide) (by decide) rfl (fun ls hl => ?_)
  refine lv_goto (tgt := 48) hx hb dX1_init_63 (by decide) ?_
  refine lv_iload_n hx hb dX1_init_48 rfl (lv_at hl 0 rfl) ?_
  refine lv_iconst (v := 4) hx hb dX1_init_49 (by decide) ?_
  refine lv_icmp_ge (tgt := 66) hx hb dX1_init_50 (by decide) (fun c_0 => absurd c_0 (by decide)) (fun _ => ?_)
  refine lv_aload_n hx hb dX1_init_53 rfl (lv_at hl 1 rfl) ?_
  refine va_get (ci := 1) (v := .ref q_2) (C := RX1) (T := TX1) (N := 12) hx hb hT wu_X1 hown hK hP 0 rfl rfl 2 (by decide) (hT _ wf_X1_16) (fun _ h9 => h9) rfl dX1_init_54 ?_
  refine lv_iload_n hx hb dX1_init_57 rfl (lv_at hl 0 rfl) ?_
  refine lv_iconst (v := (-1)) hx hb dX1_init_58 (by decide) ?_
  refine va_iast hx hb hK hP hD hS 1 0 rfl rfl (vin _ _ (by decide +kernel)) dX1_init_59 (fun H locs hP hD hS => ?_)
  have hP : va_P D CL [(ad, .inr (1, [.ref af, .ref q_1, .ref q_2, .ref q_3, .ref q_4, .int 0, .int 0, .int 0, .int 0, .int 0, .int 0, .int 0])), (q_2, .inl (cI, 4, .inl (upd (upd (fun _ => 0) ((0 : Int32)).toNatClampNeg (-1)) ((1 : Int32)).toNatClampNeg (-1)))), (q_3, .inl (cI, 6, .inl (fun _ => 0)))] H := hP
  have hD : va_D A [(ad, .inr (1, [.ref af, .ref q_1, .ref q_2, .ref q_3, .ref q_4, .int 0, .int 0, .int 0, .int 0, .int 0, .int 0, .int 0])), (q_2, .inl (cI, 4, .inl (upd (upd (fun _ => 0) ((0 : Int32)).toNatClampNeg (-1)) ((1 : Int32)).toNatClampNeg (-1)))), (q_3, .inl (cI, 6, .inl (fun _ => 0)))] := hD
  refine lv_iinc (v := 2) (lv' := [(2, .int 2), (0, .ref ad), (1, .ref af)]) hx hb dX1_init_60 hl (k := 0) rfl (by decide) (by decide) rfl (fun ls hl => ?_)
  refine lv_goto (tgt := 48) hx hb dX1_init_63 (by decide) ?_
  refine lv_iload_n hx hb dX1_init_48 rfl (lv_at hl 0 rfl) ?_
  refine lv_iconst (v := 4) hx hb dX1_init_49 (by decide) ?_
  refine lv_icmp_ge (tgt := 66) hx hb dX1_init_50 (by decide) (fun c_0 => absurd c_0 (by decide)) (fun _ => ?_)
  refine lv_aload_n hx hb dX1_init_53 rfl (lv_at hl 1 rfl) ?_
  refine va_get (ci := 1) (v := .ref q_2) (C := RX1) (T := TX1) (N := 12) hx hb hT wu_X1 hown hK hP 0 rfl rfl 2 (by decide) (hT _ wf_X1_16) (fun _ h9 => h9) rfl dX1_init_54 ?_
  refine lv_iload_n hx hb dX1_init_57 rfl (lv_at hl 0 rfl) ?_
  refine lv_iconst (v := (-1)) hx hb dX1_init_58 (by decide) ?_
  refine va_iast hx hb hK hP hD hS 1 0 rfl rfl (vin _ _ (by decide +kernel)) dX1_init_59 (fun H locs hP hD hS => ?_)
  have hP : va_P D CL [(ad, .inr (1, [.ref af, .ref q_1, .ref q_2, .ref q_3, .ref q_4, .int 0, .int 0, .int 0, .int 0, .int 0, .int 0, .int 0])), (q_2, .inl (cI, 4, .inl (upd (upd (upd (fun _ => 0) ((0 : Int32)).toNatClampNeg (-1)) ((1 : Int32)).toNatClampNeg (-1)) ((2 : Int32)).toNatClampNeg (-1)))), (q_3, .inl (cI, 6, .inl (fun _ => 0)))] H := hP
  have hD : va_D A [(ad, .inr (1, [.ref af, .ref q_1, .ref q_2, .ref q_3, .ref q_4, .int 0, .int 0, .int 0, .int 0, .int 0, .int 0, .int 0])), (q_2, .inl (cI, 4, .inl (upd (upd (upd (fun _ => 0) ((0 : Int32)).toNatClampNeg (-1)) ((1 : Int32)).toNatClampNeg (-1)) ((2 : Int32)).toNatClampNeg (-1)))), (q_3, .inl (cI, 6, .inl (fun _ => 0)))] := hD
  refine lv_iinc (v := 3) (lv' := [(2, .int 3), (0, .ref ad), (1, .ref af)]) hx hb dX1_init_60 hl (k := 0) rfl (by decide) (by decide) rfl (fun ls hl => ?_)
  refine lv_goto (tgt := 48) hx hb dX1_init_63 (by decide) ?_
  refine lv_iload_n hx hb dX1_init_48 rfl (lv_at hl 0 rfl) ?_
  refine lv_iconst (v := 4) hx hb dX1_init_49 (by decide) ?_
  refine lv_icmp_ge (tgt := 66) hx hb dX1_init_50 (by decide) (fun c_0 => absurd c_0 (by decide)) (fun _ => ?_)
  refine lv_aload_n hx hb dX1_init_53 rfl (lv_at hl 1 rfl) ?_
  refine va_get (ci := 1) (v := .ref q_2) (C := RX1) (T := TX1) (N := 12) hx hb hT wu_X1 hown hK hP 0 rfl rfl 2 (by decide) (hT _ wf_X1_16) (fun _ h9 => h9) rfl dX1_init_54 ?_
  refine lv_iload_n hx hb dX1_init_57 rfl (lv_at hl 0 rfl) ?_
  refine lv_iconst (v := (-1)) hx hb dX1_init_58 (by decide) ?_
  refine va_iast hx hb hK hP hD hS 1 0 rfl rfl (vin _ _ (by decide +kernel)) dX1_init_59 (fun H locs hP hD hS => ?_)
  have hP : va_P D CL [(ad, .inr (1, [.ref af, .ref q_1, .ref q_2, .ref q_3, .ref q_4, .int 0, .int 0, .int 0, .int 0, .int 0, .int 0, .int 0])), (q_2, .inl (cI, 4, .inl (upd (upd (upd (upd (fun _ => 0) ((0 : Int32)).toNatClampNeg (-1)) ((1 : Int32)).toNatClampNeg (-1)) ((2 : Int32)).toNatClampNeg (-1)) ((3 : Int32)).toNatClampNeg (-1)))), (q_3, .inl (cI, 6, .inl (fun _ => 0)))] H := hP
  have hD : va_D A [(ad, .inr (1, [.ref af, .ref q_1, .ref q_2, .ref q_3, .ref q_4, .int 0, .int 0, .int 0, .int 0, .int 0, .int 0, .int 0])), (q_2, .inl (cI, 4, .inl (upd (upd (upd (upd (fun _ => 0) ((0 : Int32)).toNatClampNeg (-1)) ((1 : Int32)).toNatClampNeg (-1)) ((2 : Int32)).toNatClampNeg (-1)) ((3 : Int32)).toNatClampNeg (-1)))), (q_3, .inl (cI, 6, .inl (fun _ => 0)))] := hD
  refine lv_iinc (v := 4) (lv' := [(2, .int 4), (0, .ref ad), (1, .ref af)]) hx hb dX1_init_60 hl (k := 0) rfl (by decide) (by decide) rfl (fun ls hl => ?_)
  refine lv_goto (tgt := 48) hx hb dX1_init_63 (by decide) ?_
  refine lv_iload_n hx hb dX1_init_48 rfl (lv_at hl 0 rfl) ?_
  refine lv_iconst (v := 4) hx hb dX1_init_49 (by decide) ?_
  refine lv_icmp_ge (tgt := 66) hx hb dX1_init_50 (by decide) (fun _ => ?_) (fun c_0 => absurd (by decide) c_0)
  exact retV C0 (q_1, q_2, q_3, q_4) trivial (hP.sub (ws' := [(ad, .inr (1, [.ref af, .ref q_1, .ref q_2, .ref q_3, .ref q_4, .int 0, .int 0, .int 0, .int 0, .int 0, .int 0, .int 0]))]) [0] rfl) (hD.sub (ws' := [(ad, .inr (1, [.ref af, .ref q_1, .ref q_2, .ref q_3, .ref q_4, .int 0, .int 0, .int 0, .int 0, .int 0, .int 0, .int 0]))]) [0] (by decide) rfl) hS (Nat.le_of_ble_eq_true rfl) (Nat.le_of_ble_eq_true rfl) dX1_init_66
end C1
