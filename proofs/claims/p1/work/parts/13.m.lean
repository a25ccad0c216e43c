section C3
def s0 : Nat → Int32 := upd (fun _ => 0) ((4 : Int32)).toNatClampNeg (-1)
set_option maxHeartbeats 4000000 in
set_option maxRecDepth 100000 in
theorem mc_init (l : Launch) (D : va_G) (cI cZ cQ cT : ClassId) (sz : Nat) (mo_ : Nat)  : MetV l yX6_init cX6_init 1 ({ frames := 1, cells := 10, slots := 18767, locals := 40 } : Room) [.ref mo_] D (TYS cI cZ cQ cT) EF sz [(mo_, .inr (6, [.int 0, .null, .null, .int 0, .int 0, .int 0, .int 0, .int 0, .int 0, .null, .null, .null, .null, .int 0, .int 0, .int 0, .int 0, .int 0, .int 0, .null, .int 0, .null, .null, .null, .int 0, .int 0, .int 0, .int 0]))] (S := Nat × Nat × Nat × Nat × Nat × Nat × Nat × Nat × Nat × Nat × (Nat → Int32) × (Nat → Int32) × (Nat → Int32) × (Nat → Int32)) (fun (_ : Nat × Nat × Nat × Nat × Nat × Nat × Nat × Nat × Nat × Nat × (Nat → Int32) × (Nat → Int32) × (Nat → Int32) × (Nat → Int32)) => True) (fun u => [(mo_, .inr (6, [.int 0, .ref u.1, .ref u.2.1, .int 0, .int 0, .int 0, .int 0, .int 0, .int 0, .ref u.2.2.1, .ref u.2.2.2.1, .ref u.2.2.2.2.1, .ref u.2.2.2.2.2.1, .int 0, .int 0, .int 0, .int 0, .int 0, .int 0, .ref u.2.2.2.2.2.2.1, .int 0, .ref u.2.2.2.2.2.2.2.1, .ref u.2.2.2.2.2.2.2.2.1, .ref u.2.2.2.2.2.2.2.2.2.1, .int 0, .int 0, .int 0, .int 0])), (u.1, .inl (cI, 846, .inl (s0))), (u.2.1, .inl (cI, 846, .inl u.2.2.2.2.2.2.2.2.2.2.1)), (u.2.2.2.2.2.2.1, .inl (cI, 201, .inl u.2.2.2.2.2.2.2.2.2.2.2.1)), (u.2.2.2.2.2.2.2.1, .inl (cI, 4, .inl u.2.2.2.2.2.2.2.2.2.2.2.2.1)), (u.2.2.2.2.2.2.2.2.1, .inl (cI, 12, .inl u.2.2.2.2.2.2.2.2.2.2.2.2.2))]) := by
  refine MetV.mk (lv := [(0, .ref mo_)]) (by decide +kernel) (Nat.le_of_ble_eq_true rfl) rfl ?_
  intro p e s m below meth c A ls C0 hP hD hS hX hl
  have C1 := C0
  obtain ⟨hx, hb, hr, hml, hown, hlocks, hname, hT, hN, hK, hA⟩ := C1
  refine lv_aload_n hx hb dX6_init_0 rfl (lv_at hl 0 rfl) ?_
  refine objI C0 wl_X6_1 wi_objectInit wc_objectInit hl.1 (Nat.le_of_ble_eq_true rfl) (Nat.le_of_ble_eq_true rfl) dX6_init_1 ?_
  refine lv_aload_n hx hb dX6_init_4 rfl (lv_at hl 0 rfl) ?_
  refine lv_sipush (v := 846) hx hb dX6_init_5 (by decide) ?_
  refine newI C0 wa_int 0 rfl hP hD hS (by decide +kernel) (N := 846) (by decide +kernel) (by decide) 1 846 (Nat.le_of_ble_eq_true rfl) (Nat.le_of_ble_eq_true rfl) (Nat.le_of_ble_eq_true rfl) (Nat.le_of_ble_eq_true rfl) dX6_init_8 (fun q_1 H hP hD hS => ?_)
  have hP : va_P D CL [(mo_, .inr (6, [.int 0, .null, .null, .int 0, .int 0, .int 0, .int 0, .int 0, .int 0, .null, .null, .null, .null, .int 0, .int 0, .int 0, .int 0, .int 0, .int 0, .null, .int 0, .null, .null, .null, .int 0, .int 0, .int 0, .int 0])), (q_1, .inl (cI, 846, .inl (fun _ => 0)))] H := hP
  have hD : va_D A [(mo_, .inr (6, [.int 0, .null, .null, .int 0, .int 0, .int 0, .int 0, .int 0, .int 0, .null, .null, .null, .null, .int 0, .int 0, .int 0, .int 0, .int 0, .int 0, .null, .int 0, .null, .null, .null, .int 0, .int 0, .int 0, .int 0])), (q_1, .inl (cI, 846, .inl (fun _ => 0)))] := hD
  refine va_putF (ci := 6) (v := .ref q_1) (ty := .array .int) (C := RX6) (T := TX6) (N := 28) hx hb hT wu_X6 tyX6 tyX6_ok nmX6 hown hK hP hD hS 0 rfl rfl 1 (by decide) (hT _ wf_X6_7) (fun _ h9 => h9) rfl (hname rfl) rfl (by decide +kernel) rfl rfl (Nat.le_of_ble_eq_true rfl) dX6_init_10 (fun H locs hP hD hS => ?_)
  have hP : va_P D CL [(mo_, .inr (6, [.int 0, .ref q_1, .null, .int 0, .int 0, .int 0, .int 0, .int 0, .int 0, .null, .null, .null, .null, .int 0, .int 0, .int 0, .int 0, .int 0, .int 0, .null, .int 0, .null, .null, .null, .int 0, .int 0, .int 0, .int 0])), (q_1, .inl (cI, 846, .inl (fun _ => 0)))] H := hP
  have hD : va_D A [(mo_, .inr (6, [.int 0, .ref q_1, .null, .int 0, .int 0, .int 0, .int 0, .int 0, .int 0, .null, .null, .null, .null, .int 0, .int 0, .int 0, .int 0, .int 0, .int 0, .null, .int 0, .null, .null, .null, .int 0, .int 0, .int 0, .int 0])), (q_1, .inl (cI, 846, .inl (fun _ => 0)))] := hD
  refine lv_aload_n hx hb dX6_init_13 rfl (lv_at hl 0 rfl) ?_
  refine lv_sipush (v := 846) hx hb dX6_init_14 (by decide) ?_
  refine newI C0 wa_int 0 rfl hP hD hS (by decide +kernel) (N := 846) (by decide +kernel) (by decide) 2 1692 (Nat.le_of_ble_eq_true rfl) (Nat.le_of_ble_eq_true rfl) (Nat.le_of_ble_eq_true rfl) (Nat.le_of_ble_eq_true rfl) dX6_init_17 (fun q_2 H hP hD hS => ?_)
  have hP : va_P D CL [(mo_, .inr (6, [.int 0, .ref q_1, .null, .int 0, .int 0, .int 0, .int 0, .int 0, .int 0, .null, .null, .null, .null, .int 0, .int 0, .int 0, .int 0, .int 0, .int 0, .null, .int 0, .null, .null, .null, .int 0, .int 0, .int 0, .int 0])), (q_1, .inl (cI, 846, .inl (fun _ => 0))), (q_2, .inl (cI, 846, .inl (fun _ => 0)))] H := hP
  have hD : va_D A [(mo_, .inr (6, [.int 0, .ref q_1, .null, .int 0, .int 0, .int 0, .int 0, .int 0, .int 0, .null, .null, .null, .null, .int 0, .int 0, .int 0, .int 0, .int 0, .int 0, .null, .int 0, .null, .null, .null, .int 0, .int 0, .int 0, .int 0])), (q_1, .inl (cI, 846, .inl (fun _ => 0))), (q_2, .inl (cI, 846, .inl (fun _ => 0)))] := hD
  refine va_putF (ci := 6) (v := .ref q_2) (ty := .array .int) (C := RX6) (T := TX6) (N := 28) hx hb hT wu_X6 tyX6 tyX6_ok nmX6 hown hK hP hD hS 0 rfl rfl 2 (by decide) (hT _ wf_X6_13) (fun _ h9 => h9) rfl (hname rfl) rfl (by decide +kernel) rfl rfl (Nat.le_of_ble_eq_true rfl) dX6_init_19 (fun H locs hP hD hS => ?_)
  have hP : va_P D CL [(mo_, .inr (6, [.int 0, .ref q_1, .ref q_2, .int 0, .int 0, .int 0, .int 0, .int 0, .int 0, .null, .null, .null, .null, .int 0, .int 0, .int 0, .int 0, .int 0, .int 0, .null, .int 0, .null, .null, .null, .int 0, .int 0, .int 0, .int 0])), (q_1, .inl (cI, 846, .inl (fun _ => 0))), (q_2, .inl (cI, 846, .inl (fun _ => 0)))] H := hP
  have hD : va_D A [(mo_, .inr (6, [.int 0, .ref q_1, .ref q_2, .int 0, .int 0, .int 0, .int 0, .int 0, .int 0, .null, .null, .null, .null, .int 0, .int 0, .int 0, .int 0, .int 0, .int 0, .null, .int 0, .null, .null, .null, .int 0, .int 0, .int 0, .int 0])), (q_1, .inl (cI, 846, .inl (fun _ => 0))), (q_2, .inl (cI, 846, .inl (fun _ => 0)))] := hD
  refine lv_aload_n hx hb dX6_init_22 rfl (lv_at hl 0 rfl) ?_
  refine lv_bipush (v := 6) hx hb dX6_init_23 (by decide) ?_
  refine newI C0 wa_int 0 rfl hP hD hS (by decide +kernel) (N := 6) (by decide +kernel) (by decide) 3 1698 (Nat.le_of_ble_eq_true rfl) (Nat.le_of_ble_eq_true rfl) (Nat.le_of_ble_eq_true rfl) (Nat.le_of_ble_eq_true rfl) dX6_init_25 (fun q_3 H hP hD hS => ?_)
  have hP : va_P D CL [(mo_, .inr (6, [.int 0, .ref q_1, .ref q_2, .int 0, .int 0, .int 0, .int 0, .int 0, .int 0, .null, .null, .null, .null, .int 0, .int 0, .int 0, .int 0, .int 0, .int 0, .null, .int 0, .null, .null, .null, .int 0, .int 0, .int 0, .int 0])), (q_1, .inl (cI, 846, .inl (fun _ => 0))), (q_2, .inl (cI, 846, .inl (fun _ => 0))), (q_3, .inl (cI, 6, .inl (fun _ => 0)))] H := hP
  have hD : va_D A [(mo_, .inr (6, [.int 0, .ref q_1, .ref q_2, .int 0, .int 0, .int 0, .int 0, .int 0, .int 0, .null, .null, .null, .null, .int 0, .int 0, .int 0, .int 0, .int 0, .int 0, .null, .int 0, .null, .null, .null, .int 0, .int 0, .int 0, .int 0])), (q_1, .inl (cI, 846, .inl (fun _ => 0))), (q_2, .inl (cI, 846, .inl (fun _ => 0))), (q_3, .inl (cI, 6, .inl (fun _ => 0)))] := hD
  refine va_putF (ci := 6) (v := .ref q_3) (ty := .array .int) (C := RX6) (T := TX6) (N := 28) hx hb hT wu_X6 tyX6 tyX6_ok nmX6 hown hK hP hD hS 0 rfl rfl 9 (by decide) (hT _ wf_X6_16) (fun _ h9 => h9) rfl (hname rfl) rfl (by decide +kernel) rfl rfl (Nat.le_of_ble_eq_true rfl) dX6_init_27 (fun H locs hP hD hS => ?_)
  have hP : va_P D CL [(mo_, .inr (6, [.int 0, .ref q_1, .ref q_2, .int 0, .int 0, .int 0, .int 0, .int 0, .int 0, .ref q_3, .null, .null, .null, .int 0, .int 0, .int 0, .int 0, .int 0, .int 0, .null, .int 0, .null, .null, .null, .int 0, .int 0, .int 0, .int 0])), (q_1, .inl (cI, 846, .inl (fun _ => 0))), (q_2, .inl (cI, 846, .inl (fun _ => 0))), (q_3, .inl (cI, 6, .inl (fun _ => 0)))] H := hP
  have hD : va_D A [(mo_, .inr (6, [.int 0, .ref q_1, .ref q_2, .int 0, .int 0, .int 0, .int 0, .int 0, .int 0, .ref q_3, .null, .null, .null, .int 0, .int 0, .int 0, .int 0, .int 0, .int 0, .null, .int 0, .null, .null, .null, .int 0, .int 0, .int 0, .int 0])), (q_1, .inl (cI, 846, .inl (fun _ => 0))), (q_2, .inl (cI, 846, .inl (fun _ => 0))), (q_3, .inl (cI, 6, .inl (fun _ => 0)))] := hD
  refine lv_aload_n hx hb dX6_init_30 rfl (lv_at hl 0 rfl) ?_
  refine lv_bipush (v := 64) hx hb dX6_init_31 (by decide) ?_
  refine newZ C0 wa_boolean 1 rfl hP hD hS (by decide +kernel) (N := 64) (by decide +kernel) (by decide) 4 1762 (Nat.le_of_ble_eq_true rfl) (Nat.le_of_ble_eq_true rfl) (Nat.le_of_ble_eq_true rfl) (Nat.le_of_ble_eq_true rfl) dX6_init_33 (fun q_4 H hP hD hS => ?_)
  have hP : va_P D CL [(mo_, .inr (6, [.int 0, .ref q_1, .ref q_2, .int 0, .int 0, .int 0, .int 0, .int 0, .int 0, .ref q_3, .null, .null, .null, .int 0, .int 0, .int 0, .int 0, .int 0, .int 0, .null, .int 0, .null, .null, .null, .int 0, .int 0, .int 0, .int 0])), (q_1, .inl (cI, 846, .inl (fun _ => 0))), (q_2, .inl (cI, 846, .inl (fun _ => 0))), (q_3, .inl (cI, 6, .inl (fun _ => 0))), (q_4, .inl (cZ, 64, .inl (fun _ => 0)))] H := hP
  have hD : va_D A [(mo_, .inr (6, [.int 0, .ref q_1, .ref q_2, .int 0, .int 0, .int 0, .int 0, .int 0, .int 0, .ref q_3, .null, .null, .null, .int 0, .int 0, .int 0, .int 0, .int 0, .int 0, .null, .int 0, .null, .null, .null, .int 0, .int 0, .int 0, .int 0])), (q_1, .inl (cI, 846, .inl (fun _ => 0))), (q_2, .inl (cI, 846, .inl (fun _ => 0))), (q_3, .inl (cI, 6, .inl (fun _ => 0))), (q_4, .inl (cZ, 64, .inl (fun _ => 0)))] := hD
  refine va_putF (ci := 6) (v := .ref q_4) (ty := .array .boolean) (C := RX6) (T := TX6) (N := 28) hx hb hT wu_X6 tyX6 tyX6_ok nmX6 hown hK hP hD hS 0 rfl rfl 10 (by decide) (hT _ wf_X6_19) (fun _ h9 => h9) rfl (hname rfl) rfl (by decide +kernel) rfl rfl (Nat.le_of_ble_eq_true rfl) dX6_init_35 (fun H locs hP hD hS => ?_)
  have hP : va_P D CL [(mo_, .inr (6, [.int 0, .ref q_1, .ref q_2, .int 0, .int 0, .int 0, .int 0, .int 0, .int 0, .ref q_3, .ref q_4, .null, .null, .int 0, .int 0, .int 0, .int 0, .int 0, .int 0, .null, .int 0, .null, .null, .null, .int 0, .int 0, .int 0, .int 0])), (q_1, .inl (cI, 846, .inl (fun _ => 0))), (q_2, .inl (cI, 846, .inl (fun _ => 0))), (q_3, .inl (cI, 6, .inl (fun _ => 0))), (q_4, .inl (cZ, 64, .inl (fun _ => 0)))] H := hP
  have hD : va_D A [(mo_, .inr (6, [.int 0, .ref q_1, .ref q_2, .int 0, .int 0, .int 0, .int 0, .int 0, .int 0, .ref q_3, .ref q_4, .null, .null, .int 0, .int 0, .int 0, .int 0, .int 0, .int 0, .null, .int 0, .null, .null, .null, .int 0, .int 0, .int 0, .int 0])), (q_1, .inl (cI, 846, .inl (fun _ => 0))), (q_2, .inl (cI, 846, .inl (fun _ => 0))), (q_3, .inl (cI, 6, .inl (fun _ => 0))), (q_4, .inl (cZ, 64, .inl (fun _ => 0)))] := hD
  refine lv_aload_n hx hb dX6_init_38 rfl (lv_at hl 0 rfl) ?_
  refine lv_sipush (v := 384) hx hb dX6_init_39 (by decide) ?_
  refine newI C0 wa_int 0 rfl hP hD hS (by decide +kernel) (N := 384) (by decide +kernel) (by decide) 5 2146 (Nat.le_of_ble_eq_true rfl) (Nat.le_of_ble_eq_true rfl) (Nat.le_of_ble_eq_true rfl) (Nat.le_of_ble_eq_true rfl) dX6_init_42 (fun q_5 H hP hD hS => ?_)
  have hP : va_P D CL [(mo_, .inr (6, [.int 0, .ref q_1, .ref q_2, .int 0, .int 0, .int 0, .int 0, .int 0, .int 0, .ref q_3, .ref q_4, .null, .null, .int 0, .int 0, .int 0, .int 0, .int 0, .int 0, .null, .int 0, .null, .null, .null, .int 0, .int 0, .int 0, .int 0])), (q_1, .inl (cI, 846, .inl (fun _ => 0))), (q_2, .inl (cI, 846, .inl (fun _ => 0))), (q_3, .inl (cI, 6, .inl (fun _ => 0))), (q_4, .inl (cZ, 64, .inl (fun _ => 0))), (q_5, .inl (cI, 384, .inl (fun _ => 0)))] H := hP
  have hD : va_D A [(mo_, .inr (6, [.int 0, .ref q_1, .ref q_2, .int 0, .int 0, .int 0, .int 0, .int 0, .int 0, .ref q_3, .ref q_4, .null, .null, .int 0, .int 0, .int 0, .int 0, .int 0, .int 0, .null, .int 0, .null, .null, .null, .int 0, .int 0, .int 0, .int 0])), (q_1, .inl (cI, 846, .inl (fun _ => 0))), (q_2, .inl (cI, 846, .inl (fun _ => 0))), (q_3, .inl (cI, 6, .inl (fun _ => 0))), (q_4, .inl (cZ, 64, .inl (fun _ => 0))), (q_5, .inl (cI, 384, .inl (fun _ => 0)))] := hD
  refine va_putF (ci := 6) (v := .ref q_5) (ty := .array .int) (C := RX6) (T := TX6) (N := 28) hx hb hT wu_X6 tyX6 tyX6_ok nmX6 hown hK hP hD hS 0 rfl rfl 11 (by decide) (hT _ wf_X6_23) (fun _ h9 => h9) rfl (hname rfl) rfl (by decide +kernel) rfl rfl (Nat.le_of_ble_eq_true rfl) dX6_init_44 (fun H locs hP hD hS => ?_)
  have hP : va_P D CL [(mo_, .inr (6, [.int 0, .ref q_1, .ref q_2, .int 0, .int 0, .int 0, .int 0, .int 0, .int 0, .ref q_3, .ref q_4, .ref q_5, .null, .int 0, .int 0, .int 0, .int 0, .int 0, .int 0, .null, .int 0, .null, .null, .null, .int 0, .int 0, .int 0, .int 0])), (q_1, .inl (cI, 846, .inl (fun _ => 0))), (q_2, .inl (cI, 846, .inl (fun _ => 0))), (q_3, .inl (cI, 6, .inl (fun _ => 0))), (q_4, .inl (cZ, 64, .inl (fun _ => 0))), (q_5, .inl (cI, 384, .inl (fun _ => 0)))] H := hP
  have hD : va_D A [(mo_, .inr (6, [.int 0, .ref q_1, .ref q_2, .int 0, .int 0, .int 0, .int 0, .int 0, .int 0, .ref q_3, .ref q_4, .ref q_5, .null, .int 0, .int 0, .int 0, .int 0, .int 0, .int 0, .null, .int 0, .null, .null, .null, .int 0, .int 0, .int 0, .int 0])), (q_1, .inl (cI, 846, .inl (fun _ => 0))), (q_2, .inl (cI, 846, .inl (fun _ => 0))), (q_3, .inl (cI, 6, .inl (fun _ => 0))), (q_4, .inl (cZ, 64, .inl (fun _ => 0))), (q_5, .inl (cI, 384, .inl (fun _ => 0)))] := hD
  refine lv_aload_n hx hb dX6_init_47 rfl (lv_at hl 0 rfl) ?_
  refine lv_sipush (v := 16384) hx hb dX6_init_48 (by decide) ?_
  refine newI C0 wa_int 0 rfl hP hD hS (by decide +kernel) (N := 16384) (by decide +kernel) (by decide) 6 18530 (Nat.le_of_ble_eq_true rfl) (Nat.le_of_ble_eq_true rfl) (Nat.le_of_ble_eq_true rfl) (Nat.le_of_ble_eq_true rfl) dX6_init_51 (fun q_6 H hP hD hS => ?_)
  have hP : va_P D CL [(mo_, .inr (6, [.int 0, .ref q_1, .ref q_2, .int 0, .int 0, .int 0, .int 0, .int 0, .int 0, .ref q_3, .ref q_4, .ref q_5, .null, .int 0, .int 0, .int 0, .int 0, .int 0, .int 0, .null, .int 0, .null, .null, .null, .int 0, .int 0, .int 0, .int 0])), (q_1, .inl (cI, 846, .inl (fun _ => 0))), (q_2, .inl (cI, 846, .inl (fun _ => 0))), (q_3, .inl (cI, 6, .inl (fun _ => 0))), (q_4, .inl (cZ, 64, .inl (fun _ => 0))), (q_5, .inl (cI, 384, .inl (fun _ => 0))), (q_6, .inl (cI, 16384, .inl (fun _ => 0)))] H := hP
  have hD : va_D A [(mo_, .inr (6, [.int 0, .ref q_1, .ref q_2, .int 0, .int 0, .int 0, .int 0, .int 0, .int 0, .ref q_3, .ref q_4, .ref q_5, .null, .int 0, .int 0, .int 0, .int 0, .int 0, .int 0, .null, .int 0, .null, .null, .null, .int 0, .int 0, .int 0, .int 0])), (q_1, .inl (cI, 846, .inl (fun _ => 0))), (q_2, .inl (cI, 846, .inl (fun _ => 0))), (q_3, .inl (cI, 6, .inl (fun _ => 0))), (q_4, .inl (cZ, 64, .inl (fun _ => 0))), (q_5, .inl (cI, 384, .inl (fun _ => 0))), (q_6, .inl (cI, 16384, .inl (fun _ => 0)))] := hD
  refine va_putF (ci := 6) (v := .ref q_6) (ty := .array .int) (C := RX6) (T := TX6) (N := 28) hx hb hT wu_X6 tyX6 tyX6_ok nmX6 hown hK hP hD hS 0 rfl rfl 12 (by decide) (hT _ wf_X6_26) (fun _ h9 => h9) rfl (hname rfl) rfl (by decide +kernel) rfl rfl (Nat.le_of_ble_eq_true rfl) dX6_init_53 (fun H locs hP hD hS => ?_)
  have hP : va_P D CL [(mo_, .inr (6, [.int 0, .ref q_1, .ref q_2, .int 0, .int 0, .int 0, .int 0, .int 0, .int 0, .ref q_3, .ref q_4, .ref q_5, .ref q_6, .int 0, .int 0, .int 0, .int 0, .int 0, .int 0, .null, .int 0, .null, .null, .null, .int 0, .int 0, .int 0, .int 0])), (q_1, .inl (cI, 846, .inl (fun _ => 0))), (q_2, .inl (cI, 846, .inl (fun _ => 0))), (q_3, .inl (cI, 6, .inl (fun _ => 0))), (q_4, .inl (cZ, 64, .inl (fun _ => 0))), (q_5, .inl (cI, 384, .inl (fun _ => 0))), (q_6, .inl (cI, 16384, .inl (fun _ => 0)))] H := hP
  have hD : va_D A [(mo_, .inr (6, [.int 0, .ref q_1, .ref q_2, .int 0, .int 0, .int 0, .int 0, .int 0, .int 0, .ref q_3, .ref q_4, .ref q_5, .ref q_6, .int 0, .int 0, .int 0, .int 0, .int 0, .int 0, .null, .int 0, .null, .null, .null, .int 0, .int 0, .int 0, .int 0])), (q_1, .inl (cI, 846, .inl (fun _ => 0))), (q_2, .inl (cI, 846, .inl (fun _ => 0))), (q_3, .inl (cI, 6, .inl (fun _ => 0))), (q_4, .inl (cZ, 64, .inl (fun _ => 0))), (q_5, .inl (cI, 384, .inl (fun _ => 0))), (q_6, .inl (cI, 16384, .inl (fun _ => 0)))] := hD
  refine lv_aload_n hx hb dX6_init_56 rfl (lv_at hl 0 rfl) ?_
  refine lv_sipush (v := 201) hx hb dX6_init_57 (by decide) ?_
  refine newI C0 wa_int 0 rfl hP hD hS (by decide +kernel) (N := 201) (by decide +kernel) (by decide) 7 18731 (Nat.le_of_ble_eq_true rfl) (Nat.le_of_ble_eq_true rfl) (Nat.le_of_ble_eq_true rfl) (Nat.le_of_ble_eq_true rfl) dX6_init_60 (fun q_7 H hP hD hS => ?_)
  have hP : va_P D CL [(mo_, .inr (6, [.int 0, .ref q_1, .ref q_2, .int 0, .int 0, .int 0, .int 0, .int 0, .int 0, .ref q_3, .ref q_4, .ref q_5, .ref q_6, .int 0, .int 0, .int 0, .int 0, .int 0, .int 0, .null, .int 0, .null, .null, .null, .int 0, .int 0, .int 0, .int 0])), (q_1, .inl (cI, 846, .inl (fun _ => 0))), (q_2, .inl (cI, 846, .inl (fun _ => 0))), (q_3, .inl (cI, 6, .inl (fun _ => 0))), (q_4, .inl (cZ, 64, .inl (fun _ => 0))), (q_5, .inl (cI, 384, .inl (fun _ => 0))), (q_6, .inl (cI, 16384, .inl (fun _ => 0))), (q_7, .inl (cI, 201, .inl (fun _ => 0)))] H := hP
  have hD : va_D A [(mo_, .inr (6, [.int 0, .ref q_1, .ref q_2, .int 0, .int 0, .int 0, .int 0, .int 0, .int 0, .ref q_3, .ref q_4, .ref q_5, .ref q_6, .int 0, .int 0, .int 0, .int 0, .int 0, .int 0, .null, .int 0, .null, .null, .null, .int 0, .int 0, .int 0, .int 0])), (q_1, .inl (cI, 846, .inl (fun _ => 0))), (q_2, .inl (cI, 846, .inl (fun _ => 0))), (q_3, .inl (cI, 6, .inl (fun _ => 0))), (q_4, .inl (cZ, 64, .inl (fun _ => 0))), (q_5, .inl (cI, 384, .inl (fun _ => 0))), (q_6, .inl (cI, 16384, .inl (fun _ => 0))), (q_7, .inl (cI, 201, .inl (fun _ => 0)))] := hD
  refine va_putF (ci := 6) (v := .ref q_7) (ty := .array .int) (C := RX6) (T := TX6) (N := 28) hx hb hT wu_X6 tyX6 tyX6_ok nmX6 hown hK hP hD hS 0 rfl rfl 19 (by decide) (hT _ wf_X6_29) (fun _ h9 => h9) rfl (hname rfl) rfl (by decide +kernel) rfl rfl (Nat.le_of_ble_eq_true rfl) dX6_init_62 (fun H locs hP hD hS => ?_)
  have hP : va_P D CL [(mo_, .inr (6, [.int 0, .ref q_1, .ref q_2, .int 0, .int 0, .int 0, .int 0, .int 0, .int 0, .ref q_3, .ref q_4, .ref q_5, .ref q_6, .int 0, .int 0, .int 0, .int 0, .int 0, .int 0, .ref q_7, .int 0, .null, .null, .null, .int 0, .int 0, .int 0, .int 0])), (q_1, .inl (cI, 846, .inl (fun _ => 0))), (q_2, .inl (cI, 846, .inl (fun _ => 0))), (q_3, .inl (cI, 6, .inl (fun _ => 0))), (q_4, .inl (cZ, 64, .inl (fun _ => 0))), (q_5, .inl (cI, 384, .inl (fun _ => 0))), (q_6, .inl (cI, 16384, .inl (fun _ => 0))), (q_7, .inl (cI, 201, .inl (fun _ => 0)))] H := hP
  have hD : va_D A [(mo_, .inr (6, [.int 0, .ref q_1, .ref q_2, .int 0, .int 0, .int 0, .int 0, .int 0, .int 0, .ref q_3, .ref q_4, .ref q_5, .ref q_6, .int 0, .int 0, .int 0, .int 0, .int 0, .int 0, .ref q_7, .int 0, .null, .null, .null, .int 0, .int 0, .int 0, .int 0])), (q_1, .inl (cI, 846, .inl (fun _ => 0))), (q_2, .inl (cI, 846, .inl (fun _ => 0))), (q_3, .inl (cI, 6, .inl (fun _ => 0))), (q_4, .inl (cZ, 64, .inl (fun _ => 0))), (q_5, .inl (cI, 384, .inl (fun _ => 0))), (q_6, .inl (cI, 16384, .inl (fun _ => 0))), (q_7, .inl (cI, 201, .inl (fun _ => 0)))] := hD
  refine lv_aload_n hx hb dX6_init_65 rfl (lv_at hl 0 rfl) ?_
  refine lv_iconst (v := 4) hx hb dX6_init_66 (by decide) ?_
  refine newI C0 wa_int 0 rfl hP hD hS (by decide +kernel) (N := 4) (by decide +kernel) (by decide) 8 18735 (Nat.le_of_ble_eq_true rfl) (Nat.le_of_ble_eq_true rfl) (Nat.le_of_ble_eq_true rfl) (Nat.le_of_ble_eq_true rfl) dX6_init_67 (fun q_8 H hP hD hS => ?_)
  have hP : va_P D CL [(mo_, .inr (6, [.int 0, .ref q_1, .ref q_2, .int 0, .int 0, .int 0, .int 0, .int 0, .int 0, .ref q_3, .ref q_4, .ref q_5, .ref q_6, .int 0, .int 0, .int 0, .int 0, .int 0, .int 0, .ref q_7, .int 0, .null, .null, .null, .int 0, .int 0, .int 0, .int 0])), (q_1, .inl (cI, 846, .inl (fun _ => 0))), (q_2, .inl (cI, 846, .inl (fun _ => 0))), (q_3, .inl (cI, 6, .inl (fun _ => 0))), (q_4, .inl (cZ, 64, .inl (fun _ => 0))), (q_5, .inl (cI, 384, .inl (fun _ => 0))), (q_6, .inl (cI, 16384, .inl (fun _ => 0))), (q_7, .inl (cI, 201, .inl (fun _ => 0))), (q_8, .inl (cI, 4, .inl (fun _ => 0)))] H := hP
  have hD : va_D A [(mo_, .inr (6, [.int 0, .ref q_1, .ref q_2, .int 0, .int 0, .int 0, .int 0, .int 0, .int 0, .ref q_3, .ref q_4, .ref q_5, .ref q_6, .int 0, .int 0, .int 0, .int 0, .int 0, .int 0, .ref q_7, .int 0, .null, .null, .null, .int 0, .int 0, .int 0, .int 0])), (q_1, .inl (cI, 846, .inl (fun _ => 0))), (q_2, .inl (cI, 846, .inl (fun _ => 0))), (q_3, .inl (cI, 6, .inl (fun _ => 0))), (q_4, .inl (cZ, 64, .inl (fun _ => 0))), (q_5, .inl (cI, 384, .inl (fun _ => 0))), (q_6, .inl (cI, 16384, .inl (fun _ => 0))), (q_7, .inl (cI, 201, .inl (fun _ => 0))), (q_8, .inl (cI, 4, .inl (fun _ => 0)))] := hD
  refine va_putF (ci := 6) (v := .ref q_8) (ty := .array .int) (C := RX6) (T := TX6) (N := 28) hx hb hT wu_X6 tyX6 tyX6_ok nmX6 hown hK hP hD hS 0 rfl rfl 21 (by decide) (hT _ wf_X6_32) (fun _ h9 => h9) rfl (hname rfl) rfl (by decide +kernel) rfl rfl (Nat.le_of_ble_eq_true rfl) dX6_init_69 (fun H locs hP hD hS => ?_)
  have hP : va_P D CL [(mo_, .inr (6, [.int 0, .ref q_1, .ref q_2, .int 0, .int 0, .int 0, .int 0, .int 0, .int 0, .ref q_3, .ref q_4, .ref q_5, .ref q_6, .int 0, .int 0, .int 0, .int 0, .int 0, .int 0, .ref q_7, .int 0, .ref q_8, .null, .null, .int 0, .int 0, .int 0, .int 0])), (q_1, .inl (cI, 846, .inl (fun _ => 0))), (q_2, .inl (cI, 846, .inl (fun _ => 0))), (q_3, .inl (cI, 6, .inl (fun _ => 0))), (q_4, .inl (cZ, 64, .inl (fun _ => 0))), (q_5, .inl (cI, 384, .inl (fun _ => 0))), (q_6, .inl (cI, 16384, .inl (fun _ => 0))), (q_7, .inl (cI, 201, .inl (fun _ => 0))), (q_8, .inl (cI, 4, .inl (fun _ => 0)))] H := hP
  have hD : va_D A [(mo_, .inr (6, [.int 0, .ref q_1, .ref q_2, .int 0, .int 0, .int 0, .int 0, .int 0, .int 0, .ref q_3, .ref q_4, .ref q_5, .ref q_6, .int 0, .int 0, .int 0, .int 0, .int 0, .int 0, .ref q_7, .int 0, .ref q_8, .null, .null, .int 0, .int 0, .int 0, .int 0])), (q_1, .inl (cI, 846, .inl (fun _ => 0))), (q_2, .inl (cI, 846, .inl (fun _ => 0))), (q_3, .inl (cI, 6, .inl (fun _ => 0))), (q_4, .inl (cZ, 64, .inl (fun _ => 0))), (q_5, .inl (cI, 384, .inl (fun _ => 0))), (q_6, .inl (cI, 16384, .inl (fun _ => 0))), (q_7, .inl (cI, 201, .inl (fun _ => 0))), (q_8, .inl (cI, 4, .inl (fun _ => 0)))] := hD
  refine lv_aload_n hx hb dX6_init_72 rfl (lv_at hl 0 rfl) ?_
  refine lv_bipush (v := 12) hx hb dX6_init_73 (by decide) ?_
  refine newI C0 wa_int 0 rfl hP hD hS (by decide +kernel) (N := 12) (by decide +kernel) (by decide) 9 18747 (Nat.le_of_ble_eq_true rfl) (Nat.le_of_ble_eq_true rfl) (Nat.le_of_ble_eq_true rfl) (Nat.le_of_ble_eq_true rfl) dX6_init_75 (fun q_9 H hP hD hS => ?_)
  have hP : va_P D CL [(mo_, .inr (6, [.int 0, .ref q_1, .ref q_2, .int 0, .int 0, .int 0, .int 0, .int 0, .int 0, .ref q_3, .ref q_4, .ref q_5, .ref q_6, .int 0, .int 0, .int 0, .int 0, .int 0, .int 0, .ref q_7, .int 0, .ref q_8, .null, .null, .int 0, .int 0, .int 0, .int 0])), (q_1, .inl (cI, 846, .inl (fun _ => 0))), (q_2, .inl (cI, 846, .inl (fun _ => 0))), (q_3, .inl (cI, 6, .inl (fun _ => 0))), (q_4, .inl (cZ, 64, .inl (fun _ => 0))), (q_5, .inl (cI, 384, .inl (fun _ => 0))), (q_6, .inl (cI, 16384, .inl (fun _ => 0))), (q_7, .inl (cI, 201, .inl (fun _ => 0))), (q_8, .inl (cI, 4, .inl (fun _ => 0))), (q_9, .inl (cI, 12, .inl (fun _ => 0)))] H := hP
  have hD : va_D A [(mo_, .inr (6, [.int 0, .ref q_1, .ref q_2, .int 0, .int 0, .int 0, .int 0, .int 0, .int 0, .ref q_3, .ref q_4, .ref q_5, .ref q_6, .int 0, .int 0, .int 0, .int 0, .int 0, .int 0, .ref q_7, .int 0, .ref q_8, .null, .null, .int 0, .int 0, .int 0, .int 0])), (q_1, .inl (cI, 846, .inl (fun _ => 0))), (q_2, .inl (cI, 846, .inl (fun _ => 0))), (q_3, .inl (cI, 6, .inl (fun _ => 0))), (q_4, .inl (cZ, 64, .inl (fun _ => 0))), (q_5, .inl (cI, 384, .inl (fun _ => 0))), (q_6, .inl (cI, 16384, .inl (fun _ => 0))), (q_7, .inl (cI, 201, .inl (fun _ => 0))), (q_8, .inl (cI, 4, .inl (fun _ => 0))), (q_9, .inl (cI, 12, .inl (fun _ => 0)))] := hD
  refine va_putF (ci := 6) (v := .ref q_9) (ty := .array .int) (C := RX6) (T := TX6) (N := 28) hx hb hT wu_X6 tyX6 tyX6_ok nmX6 hown hK hP hD hS 0 rfl rfl 22 (by decide) (hT _ wf_X6_35) (fun _ h9 => h9) rfl (hname rfl) rfl (by decide +kernel) rfl rfl (Nat.le_of_ble_eq_true rfl) dX6_init_77 (fun H locs hP hD hS => ?_)
  have hP : va_P D CL [(mo_, .inr (6, [.int 0, .ref q_1, .ref q_2, .int 0, .int 0, .int 0, .int 0, .int 0, .int 0, .ref q_3, .ref q_4, .ref q_5, .ref q_6, .int 0, .int 0, .int 0, .int 0, .int 0, .int 0, .ref q_7, .int 0, .ref q_8, .ref q_9, .null, .int 0, .int 0, .int 0, .int 0])), (q_1, .inl (cI, 846, .inl (fun _ => 0))), (q_2, .inl (cI, 846, .inl (fun _ => 0))), (q_3, .inl (cI, 6, .inl (fun _ => 0))), (q_4, .inl (cZ, 64, .inl (fun _ => 0))), (q_5, .inl (cI, 384, .inl (fun _ => 0))), (q_6, .inl (cI, 16384, .inl (fun _ => 0))), (q_7, .inl (cI, 201, .inl (fun _ => 0))), (q_8, .inl (cI, 4, .inl (fun _ => 0))), (q_9, .inl (cI, 12, .inl (fun _ => 0)))] H := hP
  have hD : va_D A [(mo_, .inr (6, [.int 0, .ref q_1, .ref q_2, .int 0, .int 0, .int 0, .int 0, .int 0, .int 0, .ref q_3, .ref q_4, .ref q_5, .ref q_6, .int 0, .int 0, .int 0, .int 0, .int 0, .int 0, .ref q_7, .int 0, .ref q_8, .ref q_9, .null, .int 0, .int 0, .int 0, .int 0])), (q_1, .inl (cI, 846, .inl (fun _ => 0))), (q_2, .inl (cI, 846, .inl (fun _ => 0))), (q_3, .inl (cI, 6, .inl (fun _ => 0))), (q_4, .inl (cZ, 64, .inl (fun _ => 0))), (q_5, .inl (cI, 384, .inl (fun _ => 0))), (q_6, .inl (cI, 16384, .inl (fun _ => 0))), (q_7, .inl (cI, 201, .inl (fun _ => 0))), (q_8, .inl (cI, 4, .inl (fun _ => 0))), (q_9, .inl (cI, 12, .inl (fun _ => 0)))] := hD
  refine lv_aload_n hx hb dX6_init_80 rfl (lv_at hl 0 rfl) ?_
  refine lv_bipush (v := 20) hx hb dX6_init_81 (by decide) ?_
  refine newI C0 wa_int 0 rfl hP hD hS (by decide +kernel) (N := 20) (by decide +kernel) (by decide) 10 18767 (Nat.le_of_ble_eq_true rfl) (Nat.le_of_ble_eq_true rfl) (Nat.le_of_ble_eq_true rfl) (Nat.le_of_ble_eq_true rfl) dX6_init_83 (fun q_10 H hP hD hS => ?_)
  have hP : va_P D CL [(mo_, .inr (6, [.int 0, .ref q_1, .ref q_2, .int 0, .int 0, .int 0, .int 0, .int 0, .int 0, .ref q_3, .ref q_4, .ref q_5, .ref q_6, .int 0, .int 0, .int 0, .int 0, .int 0, .int 0, .ref q_7, .int 0, .ref q_8, .ref q_9, .null, .int 0, .int 0, .int 0, .int 0])), (q_1, .inl (cI, 846, .inl (fun _ => 0))), (q_2, .inl (cI, 846, .inl (fun _ => 0))), (q_3, .inl (cI, 6, .inl (fun _ => 0))), (q_4, .inl (cZ, 64, .inl (fun _ => 0))), (q_5, .inl (cI, 384, .inl (fun _ => 0))), (q_6, .inl (cI, 16384, .inl (fun _ => 0))), (q_7, .inl (cI, 201, .inl (fun _ => 0))), (q_8, .inl (cI, 4, .inl (fun _ => 0))), (q_9, .inl (cI, 12, .inl (fun _ => 0))), (q_10, .inl (cI, 20, .inl (fun _ => 0)))] H := hP
  have hD : va_D A [(mo_, .inr (6, [.int 0, .ref q_1, .ref q_2, .int 0, .int 0, .int 0, .int 0, .int 0, .int 0, .ref q_3, .ref q_4, .ref q_5, .ref q_6, .int 0, .int 0, .int 0, .int 0, .int 0, .int 0, .ref q_7, .int 0, .ref q_8, .ref q_9, .null, .int 0, .int 0, .int 0, .int 0])), (q_1, .inl (cI, 846, .inl (fun _ => 0))), (q_2, .inl (cI, 846, .inl (fun _ => 0))), (q_3, .inl (cI, 6, .inl (fun _ => 0))), (q_4, .inl (cZ, 64, .inl (fun _ => 0))), (q_5, .inl (cI, 384, .inl (fun _ => 0))), (q_6, .inl (cI, 16384, .inl (fun _ => 0))), (q_7, .inl (cI, 201, .inl (fun _ => 0))), (q_8, .inl (cI, 4, .inl (fun _ => 0))), (q_9, .inl (cI, 12, .inl (fun _ => 0))), (q_10, .inl (cI, 20, .inl (fun _ => 0)))] := hD
  refine va_putF (ci := 6) (v := .ref q_10) (ty := .array .int) (C := RX6) (T := TX6) (N := 28) hx hb hT wu_X6 tyX6 tyX6_ok nmX6 hown hK hP hD hS 0 rfl rfl 23 (by decide) (hT _ wf_X6_38) (fun _ h9 => h9) rfl (hname rfl) rfl (by decide +kernel) rfl rfl (Nat.le_of_ble_eq_true rfl) dX6_init_85 (fun H locs hP hD hS => ?_)
  have hP : va_P D CL [(mo_, .inr (6, [.int 0, .ref q_1, .ref q_2, .int 0, .int 0, .int 0, .int 0, .int 0, .int 0, .ref q_3, .ref q_4, .ref q_5, .ref q_6, .int 0, .int 0, .int 0, .int 0, .int 0, .int 0, .ref q_7, .int 0, .ref q_8, .ref q_9, .ref q_10, .int 0, .int 0, .int 0, .int 0])), (q_1, .inl (cI, 846, .inl (fun _ => 0))), (q_2, .inl (cI, 846, .inl (fun _ => 0))), (q_3, .inl (cI, 6, .inl (fun _ => 0))), (q_4, .inl (cZ, 64, .inl (fun _ => 0))), (q_5, .inl (cI, 384, .inl (fun _ => 0))), (q_6, .inl (cI, 16384, .inl (fun _ => 0))), (q_7, .inl (cI, 201, .inl (fun _ => 0))), (q_8, .inl (cI, 4, .inl (fun _ => 0))), (q_9, .inl (cI, 12, .inl (fun _ => 0))), (q_10, .inl (cI, 20, .inl (fun _ => 0)))] H := hP
  have hD : va_D A [(mo_, .inr (6, [.int 0, .ref q_1, .ref q_2, .int 0, .int 0, .int 0, .int 0, .int 0, .int 0, .ref q_3, .ref q_4, .ref q_5, .ref q_6, .int 0, .int 0, .int 0, .int 0, .int 0, .int 0, .ref q_7, .int 0, .ref q_8, .ref q_9, .ref q_10, .int 0, .int 0, .int 0, .int 0])), (q_1, .inl (cI, 846, .inl (fun _ => 0))), (q_2, .inl (cI, 846, .inl (fun _ => 0))), (q_3, .inl (cI, 6, .inl (fun _ => 0))), (q_4, .inl (cZ, 64, .inl (fun _ => 0))), (q_5, .inl (cI, 384, .inl (fun _ => 0))), (q_6, .inl (cI, 16384, .inl (fun _ => 0))), (q_7, .inl (cI, 201, .inl (fun _ => 0))), (q_8, .inl (cI, 4, .inl (fun _ => 0))), (q_9, .inl (cI, 12, .inl (fun _ => 0))), (q_10, .inl (cI, 20, .inl (fun _ => 0)))] := hD
  refine lv_aload_n hx hb dX6_init_88 rfl (lv_at hl 0 rfl) ?_
  refine va_get (ci := 6) (v := .ref q_1) (C := RX6) (T := TX6) (N := 28) hx hb hT wu_X6 hown hK hP 0 rfl rfl 1 (by decide) (hT _ wf_X6_7) (fun _ h9 => h9) rfl dX6_init_89 ?_
  refine lv_iconst (v := 4) hx hb dX6_init_92 (by decide) ?_
  refine lv_iconst (v := (-1)) hx hb dX6_init_93 (by decide) ?_
  refine va_iast hx hb hK hP hD hS 1 0 rfl rfl (vin _ _ (by decide +kernel)) dX6_init_94 (fun H locs hP hD hS => ?_)
  have hP : va_P D CL [(mo_, .inr (6, [.int 0, .ref q_1, .ref q_2, .int 0, .int 0, .int 0, .int 0, .int 0, .int 0, .ref q_3, .ref q_4, .ref q_5, .ref q_6, .int 0, .int 0, .int 0, .int 0, .int 0, .int 0, .ref q_7, .int 0, .ref q_8, .ref q_9, .ref q_10, .int 0, .int 0, .int 0, .int 0])), (q_1, .inl (cI, 846, .inl (upd (fun _ => 0) ((4 : Int32)).toNatClampNeg (-1)))), (q_2, .inl (cI, 846, .inl (fun _ => 0))), (q_3, .inl (cI, 6, .inl (fun _ => 0))), (q_4, .inl (cZ, 64, .inl (fun _ => 0))), (q_5, .inl (cI, 384, .inl (fun _ => 0))), (q_6, .inl (cI, 16384, .inl (fun _ => 0))), (q_7, .inl (cI, 201, .inl (fun _ => 0))), (q_8, .inl (cI, 4, .inl (fun _ => 0))), (q_9, .inl (cI, 12, .inl (fun _ => 0))), (q_10, .inl (cI, 20, .inl (fun _ => 0)))] H := hP
  have hD : va_D A [(mo_, .inr (6, [.int 0, .ref q_1, .ref q_2, .int 0, .int 0, .int 0, .int 0, .int 0, .int 0, .ref q_3, .ref q_4, .ref q_5, .ref q_6, .int 0, .int 0, .int 0, .int 0, .int 0, .int 0, .ref q_7, .int 0, .ref q_8, .ref q_9, .ref q_10, .int 0, .int 0, .int 0, .int 0])), (q_1, .inl (cI, 846, .inl (upd (fun _ => 0) ((4 : Int32)).toNatClampNeg (-1)))), (q_2, .inl (cI, 846, .inl (fun _ => 0))), (q_3, .inl (cI, 6, .inl (fun _ => 0))), (q_4, .inl (cZ, 64, .inl (fun _ => 0))), (q_5, .inl (cI, 384, .inl (fun _ => 0))), (q_6, .inl (cI, 16384, .inl (fun _ => 0))), (q_7, .inl (cI, 201, .inl (fun _ => 0))), (q_8, .inl (cI, 4, .inl (fun _ => 0))), (q_9, .inl (cI, 12, .inl (fun _ => 0))), (q_10, .inl (cI, 20, .inl (fun _ => 0)))] := hD
  exact retV C0 (q_1, q_2, q_3, q_4, q_5, q_6, q_7, q_8, q_9, q_10, (fun _ => 0), (fun _ => 0), (fun _ => 0), (fun _ => 0)) trivial (hP.sub (ws' := [(mo_, .inr (6, [.int 0, .ref q_1, .ref q_2, .int 0, .int 0, .int 0, .int 0, .int 0, .int 0, .ref q_3, .ref q_4, .ref q_5, .ref q_6, .int 0, .int 0, .int 0, .int 0, .int 0, .int 0, .ref q_7, .int 0, .ref q_8, .ref q_9, .ref q_10, .int 0, .int 0, .int 0, .int 0])), (q_1, .inl (cI, 846, .inl (s0))), (q_2, .inl (cI, 846, .inl (fun _ => 0))), (q_7, .inl (cI, 201, .inl (fun _ => 0))), (q_8, .inl (cI, 4, .inl (fun _ => 0))), (q_9, .inl (cI, 12, .inl (fun _ => 0)))]) [0, 1, 2, 7, 8, 9] rfl) (hD.sub (ws' := [(mo_, .inr (6, [.int 0, .ref q_1, .ref q_2, .int 0, .int 0, .int 0, .int 0, .int 0, .int 0, .ref q_3, .ref q_4, .ref q_5, .ref q_6, .int 0, .int 0, .int 0, .int 0, .int 0, .int 0, .ref q_7, .int 0, .ref q_8, .ref q_9, .ref q_10, .int 0, .int 0, .int 0, .int 0])), (q_1, .inl (cI, 846, .inl (s0))), (q_2, .inl (cI, 846, .inl (fun _ => 0))), (q_7, .inl (cI, 201, .inl (fun _ => 0))), (q_8, .inl (cI, 4, .inl (fun _ => 0))), (q_9, .inl (cI, 12, .inl (fun _ => 0)))]) [0, 1, 2, 7, 8, 9] (by decide) rfl) hS (Nat.le_of_ble_eq_true rfl) (Nat.le_of_ble_eq_true rfl) dX6_init_95

set_option maxHeartbeats 4000000 in
set_option maxRecDepth 100000 in
theorem mc_in (l : Launch) (D : va_G) (cI cZ cQ cT : ClassId) (sz : Nat) (x : Int32) (low : Int32) (high : Int32)  : MetI l yX6_in cX6_in 3 .boolean ({ frames := 0, cells := 0, slots := 0, locals := 0 } : Room) [.int x, .int low, .int high] D (TYS cI cZ cQ cT) EF sz [] (S := Unit) (fun (r : Int32) (_ : Unit) => r = (if (low ≤ x ∧ x ≤ high) then 1 else 0)) (fun _ => []) := by
  refine MetI.mk (lv := [(0, .int x), (1, .int low), (2, .int high)]) (by decide +kernel) (Nat.le_of_ble_eq_true rfl) rfl ?_
  intro p e s m below meth c A ls C0 hP hD hS hX hl
  have C1 := C0
  obtain ⟨hx, hb, hr, hml, hown, hlocks, hname, hT, hN, hK, hA⟩ := C1
  refine lv_iload_n hx hb dX6_in_0 rfl (lv_at hl 0 rfl) ?_
  refine lv_iload_n hx hb dX6_in_1 rfl (lv_at hl 1 rfl) ?_
  refine lv_icmp_lt (tgt := 14) hx hb dX6_in_2 (by decide) (fun c_1 => ?_) (fun c_1 => ?_)
  · refine lv_iconst (v := 0) hx hb dX6_in_14 (by decide) ?_
    exact retI C0 rfl () ((if_neg (by have h_0 := c_1; simp only [le_i, lt_i, eq_i] at h_0 ⊢; omega : ¬ ((low ≤ x) ∧ (x ≤ high)))).symm) (hP.sub (ws' := []) [] rfl) (hD.sub (ws' := []) [] (by decide) rfl) hS (Nat.le_of_ble_eq_true rfl) (Nat.le_of_ble_eq_true rfl) dX6_in_15
  · refine lv_iload_n hx hb dX6_in_5 rfl (lv_at hl 0 rfl) ?_
    refine lv_iload_n hx hb dX6_in_6 rfl (lv_at hl 2 rfl) ?_
    refine lv_icmp_gt (tgt := 14) hx hb dX6_in_7 (by decide) (fun c_2 => ?_) (fun c_2 => ?_)
    · refine lv_iconst (v := 0) hx hb dX6_in_14 (by decide) ?_
      exact retI C0 rfl () ((if_neg (by have h_0 := c_1; have h_1 := c_2; simp only [le_i, lt_i, eq_i] at h_0 h_1 ⊢; omega : ¬ ((low ≤ x) ∧ (x ≤ high)))).symm) (hP.sub (ws' := []) [] rfl) (hD.sub (ws' := []) [] (by decide) rfl) hS (Nat.le_of_ble_eq_true rfl) (Nat.le_of_ble_eq_true rfl) dX6_in_15
    · refine lv_iconst (v := 1) hx hb dX6_in_10 (by decide) ?_
      refine lv_goto (tgt := 15) hx hb dX6_in_11 (by decide) ?_
      exact retI C0 rfl () ((if_pos (by have h_0 := c_1; have h_1 := c_2; simp only [le_i, lt_i, eq_i] at h_0 h_1 ⊢; omega : ((low ≤ x) ∧ (x ≤ high)))).symm) (hP.sub (ws' := []) [] rfl) (hD.sub (ws' := []) [] (by decide) rfl) hS (Nat.le_of_ble_eq_true rfl) (Nat.le_of_ble_eq_true rfl) dX6_in_15

set_option maxHeartbeats 4000000 in
set_option maxRecDepth 100000 in
theorem m_feed (l : Launch) (D : va_G) (cI cZ cQ cT : ClassId) (sz : Nat) (mo_ : Nat) (p1 : Int32) (ms : Nat) (mi : Nat) (mb : Nat) (mt : Nat) (ml : Nat) (mx : Nat) (mc : Nat) (mn : Nat) (mp : Nat) (mo : Nat)  : MetI l yX6_feed cX6_feed 2 .int ({ frames := 1, cells := 0, slots := 0, locals := 22 } : Room) [.ref mo_, .int p1] D (TYS cI cZ cQ cT) EF sz [(mo_, .inr (6, [.int 0, .ref ms, .ref mi, .int 0, .int 0, .int 0, .int 0, .int 0, .int 0, .ref mb, .ref mt, .ref ml, .ref mx, .int 0, .int 0, .int 0, .int 0, .int 0, .int 0, .ref mc, .int 0, .ref mn, .ref mp, .ref mo, .int 0, .int 0, .int 0, .int 0])), (ms, .inl (cI, 846, .inl (s0)))] (S := Unit) (fun (r : Int32) (_ : Unit) => r = (if ((0 : Int32) ≤ p1 ∧ p1 ≤ (127 : Int32)) then 1 else (-2))) (fun _ => []) := by
  refine MetI.mk (lv := [(0, .ref mo_), (1, .int p1)]) (by decide +kernel) (Nat.le_of_ble_eq_true rfl) rfl ?_
  intro p e s m below meth c A ls C0 hP hD hS hX hl
  have C1 := C0
  obtain ⟨hx, hb, hr, hml, hown, hlocks, hname, hT, hN, hK, hA⟩ := C1
  refine lv_iload_n hx hb dX6_feed_0 rfl (lv_at hl 1 rfl) ?_
  refine lv_iconst (v := 0) hx hb dX6_feed_1 (by decide) ?_
  refine lv_bipush (v := 127) hx hb dX6_feed_2 (by decide) ?_
  refine contI (wc := []) (wr := [(mo_, .inr (6, [.int 0, .ref ms, .ref mi, .int 0, .int 0, .int 0, .int 0, .int 0, .int 0, .ref mb, .ref mt, .ref ml, .ref mx, .int 0, .int 0, .int 0, .int 0, .int 0, .int 0, .ref mc, .int 0, .ref mn, .ref mp, .ref mo, .int 0, .int 0, .int 0, .int 0])), (ms, .inl (cI, 846, .inl (s0)))]) C0 hP hD hS [] [0, 1] rfl rfl (by decide) (by decide) 0 0 (Nat.le_of_ble_eq_true rfl) (Nat.le_of_ble_eq_true rfl) (runS (k := 3) (As := [.int p1, .int 0, .int 127]) (rest := []) C0 (mc_in l D cI cZ cQ cT _ p1 0 127) wc_X6_in wl_X6_45 wt_X6_in wz_X6 ⟨by decide, by decide, by decide +kernel⟩ ⟨(Nat.le_of_ble_eq_true rfl), (Nat.le_of_ble_eq_true rfl)⟩ hP hD hS EF.ok hX [] rfl (by decide) rfl hl.1 rfl (Nat.le_of_ble_eq_true rfl) dX6_feed_4 ⟨(Nat.le_of_ble_eq_true rfl), (Nat.le_of_ble_eq_true rfl)⟩) (fun r_3 u_1 H locs w_2 hP hD hS => ?_)
  have hP : va_P D CL [(mo_, .inr (6, [.int 0, .ref ms, .ref mi, .int 0, .int 0, .int 0, .int 0, .int 0, .int 0, .ref mb, .ref mt, .ref ml, .ref mx, .int 0, .int 0, .int 0, .int 0, .int 0, .int 0, .ref mc, .int 0, .ref mn, .ref mp, .ref mo, .int 0, .int 0, .int 0, .int 0])), (ms, .inl (cI, 846, .inl (s0)))] H := hP
  have hD : va_D A [(mo_, .inr (6, [.int 0, .ref ms, .ref mi, .int 0, .int 0, .int 0, .int 0, .int 0, .int 0, .ref mb, .ref mt, .ref ml, .ref mx, .int 0, .int 0, .int 0, .int 0, .int 0, .int 0, .ref mc, .int 0, .ref mn, .ref mp, .ref mo, .int 0, .int 0, .int 0, .int 0])), (ms, .inl (cI, 846, .inl (s0)))] := hD
  refine (Decidable.em (((0 : Int32) ≤ p1 ∧ p1 ≤ (127 : Int32)))).elim (fun c_4 => ?_) (fun c_4 => ?_)
  · obtain rfl : r_3 = 1 := w_2.trans (if_pos c_4)
    refine lv_if_ne (tgt := 13) hx hb dX6_feed_7 (by decide) (fun _ => ?_) (fun c_0 => absurd c_0 (by decide))
    refine lv_aload_n hx hb dX6_feed_13 rfl (lv_at hl 0 rfl) ?_
    refine va_get (ci := 6) (v := .ref ms) (C := RX6) (T := TX6) (N := 28) hx hb hT wu_X6 hown hK hP 0 rfl rfl 1 (by decide) (hT _ wf_X6_7) (fun _ h9 => h9) rfl dX6_feed_14 ?_
    refine lv_iconst (v := 3) hx hb dX6_feed_17 (by decide) ?_
    refine va_iald hx hb hK hP 1 0 rfl rfl (vin _ _ (by decide +kernel)) dX6_feed_18 ?_
    refine lv_ci 0 (by decide +kernel) ?_
    refine lv_bipush (v := 100) hx hb dX6_feed_19 (by decide) ?_
    refine lv_icmp_ne (tgt := 27) hx hb dX6_feed_21 (by decide) (fun _ => ?_) (fun c_0 => absurd c_0 (by decide))
    refine lv_aload_n hx hb dX6_feed_27 rfl (lv_at hl 0 rfl) ?_
    refine va_get (ci := 6) (v := .ref ms) (C := RX6) (T := TX6) (N := 28) hx hb hT wu_X6 hown hK hP 0 rfl rfl 1 (by decide) (hT _ wf_X6_7) (fun _ h9 => h9) rfl dX6_feed_28 ?_
    refine lv_bipush (v := 10) hx hb dX6_feed_31 (by decide) ?_
    refine lv_aload_n hx hb dX6_feed_33 rfl (lv_at hl 0 rfl) ?_
    refine va_get (ci := 6) (v := .ref ms) (C := RX6) (T := TX6) (N := 28) hx hb hT wu_X6 hown hK hP 0 rfl rfl 1 (by decide) (hT _ wf_X6_7) (fun _ h9 => h9) rfl dX6_feed_34 ?_
    refine lv_iconst (v := 3) hx hb dX6_feed_37 (by decide) ?_
    refine va_iald hx hb hK hP 1 0 rfl rfl (vin _ _ (by decide +kernel)) dX6_feed_38 ?_
    refine lv_ci 0 (by decide +kernel) ?_
    refine lv_iadd hx hb dX6_feed_39 ?_
    refine lv_ci 10 (by decide +kernel) ?_
    refine lv_iload_n hx hb dX6_feed_40 rfl (lv_at hl 1 rfl) ?_
    refine va_iast hx hb hK hP hD hS 1 0 rfl rfl (vin _ _ (by decide +kernel)) dX6_feed_41 (fun H locs hP hD hS => ?_)
    have hP : va_P D CL [(mo_, .inr (6, [.int 0, .ref ms, .ref mi, .int 0, .int 0, .int 0, .int 0, .int 0, .int 0, .ref mb, .ref mt, .ref ml, .ref mx, .int 0, .int 0, .int 0, .int 0, .int 0, .int 0, .ref mc, .int 0, .ref mn, .ref mp, .ref mo, .int 0, .int 0, .int 0, .int 0])), (ms, .inl (cI, 846, .inl (upd (s0) ((10 : Int32)).toNatClampNeg p1)))] H := hP
    have hD : va_D A [(mo_, .inr (6, [.int 0, .ref ms, .ref mi, .int 0, .int 0, .int 0, .int 0, .int 0, .int 0, .ref mb, .ref mt, .ref ml, .ref mx, .int 0, .int 0, .int 0, .int 0, .int 0, .int 0, .ref mc, .int 0, .ref mn, .ref mp, .ref mo, .int 0, .int 0, .int 0, .int 0])), (ms, .inl (cI, 846, .inl (upd (s0) ((10 : Int32)).toNatClampNeg p1)))] := hD
    refine lv_aload_n hx hb dX6_feed_42 rfl (lv_at hl 0 rfl) ?_
    refine va_get (ci := 6) (v := .ref ms) (C := RX6) (T := TX6) (N := 28) hx hb hT wu_X6 hown hK hP 0 rfl rfl 1 (by decide) (hT _ wf_X6_7) (fun _ h9 => h9) rfl dX6_feed_43 ?_
    refine lv_iconst (v := 3) hx hb dX6_feed_46 (by decide) ?_
    refine lv_dup2_11 hx hb dX6_feed_47 rfl rfl ?_
    refine va_iald hx hb hK hP 1 0 rfl rfl (vin _ _ (by decide +kernel)) dX6_feed_48 ?_
    refine lv_ci 0 ((pk_un (by decide +kernel)).trans ((by decide +kernel))) ?_
    refine lv_iconst (v := 1) hx hb dX6_feed_49 (by decide) ?_
    refine lv_iadd hx hb dX6_feed_50 ?_
    refine lv_ci 1 (by decide +kernel) ?_
    refine va_iast hx hb hK hP hD hS 1 0 rfl rfl (vin _ _ (by decide +kernel)) dX6_feed_51 (fun H locs hP hD hS => ?_)
    have hP : va_P D CL [(mo_, .inr (6, [.int 0, .ref ms, .ref mi, .int 0, .int 0, .int 0, .int 0, .int 0, .int 0, .ref mb, .ref mt, .ref ml, .ref mx, .int 0, .int 0, .int 0, .int 0, .int 0, .int 0, .ref mc, .int 0, .ref mn, .ref mp, .ref mo, .int 0, .int 0, .int 0, .int 0])), (ms, .inl (cI, 846, .inl (upd (upd (s0) ((10 : Int32)).toNatClampNeg p1) ((3 : Int32)).toNatClampNeg 1)))] H := hP
    have hD : va_D A [(mo_, .inr (6, [.int 0, .ref ms, .ref mi, .int 0, .int 0, .int 0, .int 0, .int 0, .int 0, .ref mb, .ref mt, .ref ml, .ref mx, .int 0, .int 0, .int 0, .int 0, .int 0, .int 0, .ref mc, .int 0, .ref mn, .ref mp, .ref mo, .int 0, .int 0, .int 0, .int 0])), (ms, .inl (cI, 846, .inl (upd (upd (s0) ((10 : Int32)).toNatClampNeg p1) ((3 : Int32)).toNatClampNeg 1)))] := hD
    refine lv_aload_n hx hb dX6_feed_52 rfl (lv_at hl 0 rfl) ?_
    refine va_get (ci := 6) (v := .ref ms) (C := RX6) (T := TX6) (N := 28) hx hb hT wu_X6 hown hK hP 0 rfl rfl 1 (by decide) (hT _ wf_X6_7) (fun _ h9 => h9) rfl dX6_feed_53 ?_
    refine lv_iconst (v := 3) hx hb dX6_feed_56 (by decide) ?_
    refine va_iald hx hb hK hP 1 0 rfl rfl (vin _ _ (by decide +kernel)) dX6_feed_57 ?_
    refine lv_ci 1 (pk_us) ?_
    exact retI C0 rfl () (((if_pos c_4)).symm) (hP.sub (ws' := []) [] rfl) (hD.sub (ws' := []) [] (by decide) rfl) hS (Nat.le_of_ble_eq_true rfl) (Nat.le_of_ble_eq_true rfl) dX6_feed_58
  · obtain rfl : r_3 = 0 := w_2.trans (if_neg c_4)
    refine lv_if_ne (tgt := 13) hx hb dX6_feed_7 (by decide) (fun c_0 => absurd (by decide) c_0) (fun _ => ?_)
    refine lv_bipush (v := (-2)) hx hb dX6_feed_10 (by decide) ?_
    exact retI C0 rfl () (((if_neg c_4)).symm) (hP.sub (ws' := []) [] rfl) (hD.sub (ws' := []) [] (by decide) rfl) hS (Nat.le_of_ble_eq_true rfl) (Nat.le_of_ble_eq_true rfl) dX6_feed_12

set_option maxHeartbeats 4000000 in
set_option maxRecDepth 100000 in
theorem m_tellsOf (l : Launch) (D : va_G) (cI cZ cQ cT : ClassId) (sz : Nat) (mo_ : Nat) (x : Int32) (ms : Nat) (mi : Nat) (mb : Nat) (mt : Nat) (ml : Nat) (mx : Nat) (v1 : Int32) (v2 : Int32) (v3 : Int32) (v4 : Int32) (v5 : Int32) (v6 : Int32) (mc : Nat) (v7 : Int32) (mn : Nat) (mp : Nat) (mo : Nat)  : MetI l yX6_tellsOf cX6_tellsOf 2 .int ({ frames := 0, cells := 0, slots := 0, locals := 0 } : Room) [.ref mo_, .int x] D (TYS cI cZ cQ cT) EF sz [(mo_, .inr (6, [.int 0, .ref ms, .ref mi, .int 0, .int 0, .int 0, .int 0, .int 0, .int 0, .ref mb, .ref mt, .ref ml, .ref mx, .int v1, .int v2, .int v3, .int v4, .int v5, .int v6, .ref mc, .int v7, .ref mn, .ref mp, .ref mo, .int 0, .int 0, .int 0, .int 0])), (ms, .inl (cI, 846, .inl (s0)))] (S := Unit) (fun (r : Int32) (_ : Unit) => r = 0) (fun _ => [(mo_, .inr (6, [.int 0, .ref ms, .ref mi, .int 0, .int 0, .int 0, .int 0, .int 0, .int 0, .ref mb, .ref mt, .ref ml, .ref mx, .int v1, .int v2, .int v3, .int v4, .int v5, .int v6, .ref mc, .int v7, .ref mn, .ref mp, .ref mo, .int 0, .int 0, .int 0, .int 0])), (ms, .inl (cI, 846, .inl (s0)))]) := by
  refine MetI.mk (lv := [(0, .ref mo_), (1, .int x)]) (by decide +kernel) (Nat.le_of_ble_eq_true rfl) rfl ?_
  intro p e s m below meth c A ls C0 hP hD hS hX hl
  have C1 := C0
  obtain ⟨hx, hb, hr, hml, hown, hlocks, hname, hT, hN, hK, hA⟩ := C1
  refine lv_aload_n hx hb dX6_tellsOf_0 rfl (lv_at hl 0 rfl) ?_
  refine va_get (ci := 6) (v := .ref ms) (C := RX6) (T := TX6) (N := 28) hx hb hT wu_X6 hown hK hP 0 rfl rfl 1 (by decide) (hT _ wf_X6_7) (fun _ h9 => h9) rfl dX6_tellsOf_1 ?_
  refine lv_iconst (v := 4) hx hb dX6_tellsOf_4 (by decide) ?_
  refine va_iald hx hb hK hP 1 0 rfl rfl (vin _ _ (by decide +kernel)) dX6_tellsOf_5 ?_
  refine lv_ci (-1) (by decide +kernel) ?_
  refine lv_iconst (v := (-1)) hx hb dX6_tellsOf_6 (by decide) ?_
  refine lv_icmp_ne (tgt := 14) hx hb dX6_tellsOf_7 (by decide) (fun c_0 => absurd (by decide) c_0) (fun _ => ?_)
  refine lv_iconst (v := 0) hx hb dX6_tellsOf_10 (by decide) ?_
  refine lv_goto (tgt := 27) hx hb dX6_tellsOf_11 (by decide) ?_
  exact retI C0 rfl () rfl (hP.sub (ws' := [(mo_, .inr (6, [.int 0, .ref ms, .ref mi, .int 0, .int 0, .int 0, .int 0, .int 0, .int 0, .ref mb, .ref mt, .ref ml, .ref mx, .int v1, .int v2, .int v3, .int v4, .int v5, .int v6, .ref mc, .int v7, .ref mn, .ref mp, .ref mo, .int 0, .int 0, .int 0, .int 0])), (ms, .inl (cI, 846, .inl (s0)))]) [0, 1] rfl) (hD.sub (ws' := [(mo_, .inr (6, [.int 0, .ref ms, .ref mi, .int 0, .int 0, .int 0, .int 0, .int 0, .int 0, .ref mb, .ref mt, .ref ml, .ref mx, .int v1, .int v2, .int v3, .int v4, .int v5, .int v6, .ref mc, .int v7, .ref mn, .ref mp, .ref mo, .int 0, .int 0, .int 0, .int 0])), (ms, .inl (cI, 846, .inl (s0)))]) [0, 1] (by decide) rfl) hS (Nat.le_of_ble_eq_true rfl) (Nat.le_of_ble_eq_true rfl) dX6_tellsOf_27

set_option maxHeartbeats 4000000 in
set_option maxRecDepth 100000 in
theorem m_told (l : Launch) (D : va_G) (cI cZ cQ cT : ClassId) (sz : Nat) (mo_ : Nat) (p1 : Int32) (ms : Nat) (mi : Nat) (mb : Nat) (mt : Nat) (ml : Nat) (mx : Nat) (mc : Nat) (mn : Nat) (mp : Nat) (mo : Nat)  : MetI l yX6_told cX6_told 4 .int ({ frames := 1, cells := 0, slots := 0, locals := 21 } : Room) [.ref mo_, .int p1] D (TYS cI cZ cQ cT) EF sz [(mo_, .inr (6, [.int 0, .ref ms, .ref mi, .int 0, .int 0, .int 0, .int 0, .int 0, .int 0, .ref mb, .ref mt, .ref ml, .ref mx, .int 0, .int 0, .int 0, .int 0, .int 0, .int 0, .ref mc, .int 0, .ref mn, .ref mp, .ref mo, .int 0, .int 0, .int 0, .int 0])), (ms, .inl (cI, 846, .inl (s0)))] (S := Unit) (fun (r : Int32) (_ : Unit) => r = (if p1 = (0 : Int32) then 0 else (if p1 = (1 : Int32) then 0 else (if p1 = (2 : Int32) then 0 else (-1))))) (fun _ => []) := by
  refine MetI.mk (lv := [(0, .ref mo_), (1, .int p1)]) (by decide +kernel) (Nat.le_of_ble_eq_true rfl) rfl ?_
  intro p e s m below meth c A ls C0 hP hD hS hX hl
  have C1 := C0
  obtain ⟨hx, hb, hr, hml, hown, hlocks, hname, hT, hN, hK, hA⟩ := C1
  refine lv_iload_n hx hb dX6_told_0 rfl (lv_at hl 1 rfl) ?_
  refine (Decidable.em (p1 = (0 : Int32))).elim (fun c_1 => ?_) (fun c_1 => ?_)
  · refine lv_tableIn (off := 27) (tgt := 28) hx hb dX6_told_1 (by rw [c_1]; decide) (by rw [c_1]; decide) (by rw [c_1]; rfl) (by decide) ?_
    refine lv_aload_n hx hb dX6_told_28 rfl (lv_at hl 0 rfl) ?_
    refine lv_sipush (v := 136) hx hb dX6_told_29 (by decide) ?_
    refine contI (wc := [(mo_, .inr (6, [.int 0, .ref ms, .ref mi, .int 0, .int 0, .int 0, .int 0, .int 0, .int 0, .ref mb, .ref mt, .ref ml, .ref mx, .int 0, .int 0, .int 0, .int 0, .int 0, .int 0, .ref mc, .int 0, .ref mn, .ref mp, .ref mo, .int 0, .int 0, .int 0, .int 0])), (ms, .inl (cI, 846, .inl (s0)))]) (wr := []) C0 hP hD hS [0, 1] [] rfl rfl (by decide) (by decide) 0 0 (Nat.le_of_ble_eq_true rfl) (Nat.le_of_ble_eq_true rfl) (runV (k := 1) (As := [.int 136]) (rest := []) C0 (m_tellsOf l D cI cZ cQ cT _ mo_ 136 ms mi mb mt ml mx 0 0 0 0 0 0 mc 0 mn mp mo) wc_X6_tellsOf wl_X6_125 wi_X6_tellsOf we_X6_tellsOf wz_X6 ⟨by decide, by decide, by decide +kernel⟩ ⟨(Nat.le_of_ble_eq_true rfl), (Nat.le_of_ble_eq_true rfl)⟩ hP hD hS EF.ok hX [0, 1] rfl (by decide) 0 rfl rfl rfl rfl hl.1 rfl (Nat.le_of_ble_eq_true rfl) dX6_told_32 ⟨(Nat.le_of_ble_eq_true rfl), (Nat.le_of_ble_eq_true rfl)⟩) (fun r_4 u_2 H locs w_3 hP hD hS => ?_)
    have hP : va_P D CL [(mo_, .inr (6, [.int 0, .ref ms, .ref mi, .int 0, .int 0, .int 0, .int 0, .int 0, .int 0, .ref mb, .ref mt, .ref ml, .ref mx, .int 0, .int 0, .int 0, .int 0, .int 0, .int 0, .ref mc, .int 0, .ref mn, .ref mp, .ref mo, .int 0, .int 0, .int 0, .int 0])), (ms, .inl (cI, 846, .inl (s0)))] H := hP
    have hD : va_D A [(mo_, .inr (6, [.int 0, .ref ms, .ref mi, .int 0, .int 0, .int 0, .int 0, .int 0, .int 0, .ref mb, .ref mt, .ref ml, .ref mx, .int 0, .int 0, .int 0, .int 0, .int 0, .int 0, .ref mc, .int 0, .ref mn, .ref mp, .ref mo, .int 0, .int 0, .int 0, .int 0])), (ms, .inl (cI, 846, .inl (s0)))] := hD
    obtain rfl : r_4 = 0 := w_3
    exact retI C0 rfl () (((if_pos c_1)).symm) (hP.sub (ws' := []) [] rfl) (hD.sub (ws' := []) [] (by decide) rfl) hS (Nat.le_of_ble_eq_true rfl) (Nat.le_of_ble_eq_true rfl) dX6_told_35
  · skip
    refine (Decidable.em (p1 = (1 : Int32))).elim (fun c_5 => ?_) (fun c_5 => ?_)
    · refine lv_tableIn (off := 35) (tgt := 36) hx hb dX6_told_1 (by rw [c_5]; decide) (by rw [c_5]; decide) (by rw [c_5]; rfl) (by decide) ?_
      refine lv_aload_n hx hb dX6_told_36 rfl (lv_at hl 0 rfl) ?_
      refine va_get (ci := 6) (v := .ref ms) (C := RX6) (T := TX6) (N := 28) hx hb hT wu_X6 hown hK hP 0 rfl rfl 1 (by decide) (hT _ wf_X6_7) (fun _ h9 => h9) rfl dX6_told_37 ?_
      refine lv_iconst (v := 5) hx hb dX6_told_40 (by decide) ?_
      refine va_iald hx hb hK hP 1 0 rfl rfl (vin _ _ (by decide +kernel)) dX6_told_41 ?_
      refine lv_ci 0 (by decide +kernel) ?_
      exact retI C0 rfl () (((if_neg c_1).trans ((if_pos c_5))).symm) (hP.sub (ws' := []) [] rfl) (hD.sub (ws' := []) [] (by decide) rfl) hS (Nat.le_of_ble_eq_true rfl) (Nat.le_of_ble_eq_true rfl) dX6_told_42
    · skip
      refine (Decidable.em (p1 = (2 : Int32))).elim (fun c_6 => ?_) (fun c_6 => ?_)
      · refine lv_tableIn (off := 42) (tgt := 43) hx hb dX6_told_1 (by rw [c_6]; decide) (by rw [c_6]; decide) (by rw [c_6]; rfl) (by decide) ?_
        refine lv_iconst (v := 0) hx hb dX6_told_43 (by decide) ?_
        refine lv_istore_n (lv' := [(2, .int 0), (0, .ref mo_), (1, .int p1)]) hx hb dX6_told_44 rfl hl (by decide) rfl (fun ls hl => ?_)
        refine lv_iconst (v := 0) hx hb dX6_told_45 (by decide) ?_
        refine lv_istore_n (lv' := [(3, .int 0), (2, .int 0), (0, .ref mo_), (1, .int p1)]) hx hb dX6_told_46 rfl hl (by decide) rfl (fun ls hl => ?_)
        refine lv_iload_n hx hb dX6_told_47 rfl (lv_at hl 0 rfl) ?_
        refine lv_aload_n hx hb dX6_told_48 rfl (lv_at hl 2 rfl) ?_
        refine va_get (ci := 6) (v := .ref ms) (C := RX6) (T := TX6) (N := 28) hx hb hT wu_X6 hown hK hP 0 rfl rfl 1 (by decide) (hT _ wf_X6_7) (fun _ h9 => h9) rfl dX6_told_49 ?_
        refine lv_iconst (v := 0) hx hb dX6_told_52 (by decide) ?_
        refine va_iald hx hb hK hP 1 0 rfl rfl (vin _ _ (by decide +kernel)) dX6_told_53 ?_
        refine lv_ci 0 (by decide +kernel) ?_
        refine lv_icmp_ge (tgt := 77) hx hb dX6_told_54 (by decide) (fun _ => ?_) (fun c_0 => absurd (by decide) c_0)
        refine lv_iload_n hx hb dX6_told_77 rfl (lv_at hl 1 rfl) ?_
        exact retI C0 rfl () (((if_neg c_1).trans ((if_neg c_5).trans ((if_pos c_6)))).symm) (hP.sub (ws' := []) [] rfl) (hD.sub (ws' := []) [] (by decide) rfl) hS (Nat.le_of_ble_eq_true rfl) (Nat.le_of_ble_eq_true rfl) dX6_told_78
      · skip
        refine lv_tableOut (tgt := 79) hx hb dX6_told_1 (by have e0 := ne_toInt (k := 0) c_1 (by decide); have e1 := ne_toInt (k := 1) c_5 (by decide); have e2 := ne_toInt (k := 2) c_6 (by decide); omega) (by decide) ?_
        refine lv_iconst (v := (-1)) hx hb dX6_told_79 (by decide) ?_
        exact retI C0 rfl () (((if_neg c_1).trans ((if_neg c_5).trans ((if_neg c_6)))).symm) (hP.sub (ws' := []) [] rfl) (hD.sub (ws' := []) [] (by decide) rfl) hS (Nat.le_of_ble_eq_true rfl) (Nat.le_of_ble_eq_true rfl) dX6_told_80

set_option maxHeartbeats 4000000 in
set_option maxRecDepth 100000 in
theorem m_person (l : Launch) (D : va_G) (cI cZ cQ cT : ClassId) (sz : Nat) (mo_ : Nat) (p1 : Int32) (p2 : Int32) (ms : Nat) (mi : Nat) (mb : Nat) (mt : Nat) (ml : Nat) (mx : Nat) (mc : Nat) (mn : Nat) (mp : Nat) (mo : Nat)  : MetI l yX6_person cX6_person 4 .int ({ frames := 1, cells := 0, slots := 0, locals := 22 } : Room) [.ref mo_, .int p1, .int p2] D (TYS cI cZ cQ cT) EF sz [(mo_, .inr (6, [.int 0, .ref ms, .ref mi, .int 0, .int 0, .int 0, .int 0, .int 0, .int 0, .ref mb, .ref mt, .ref ml, .ref mx, .int 0, .int 0, .int 0, .int 0, .int 0, .int 0, .ref mc, .int 0, .ref mn, .ref mp, .ref mo, .int 0, .int 0, .int 0, .int 0])), (ms, .inl (cI, 846, .inl (s0)))] (S := Unit) (fun (r : Int32) (_ : Unit) => r = (if ((0 : Int32) ≤ p1 ∧ p1 ≤ (6 : Int32)) then (if ((0 : Int32) ≤ p2 ∧ p2 ≤ (9 : Int32)) then 0 else (-2)) else (-1))) (fun _ => []) := by
  refine MetI.mk (lv := [(0, .ref mo_), (1, .int p1), (2, .int p2)]) (by decide +kernel) (Nat.le_of_ble_eq_true rfl) rfl ?_
  intro p e s m below meth c A ls C0 hP hD hS hX hl
  have C1 := C0
  obtain ⟨hx, hb, hr, hml, hown, hlocks, hname, hT, hN, hK, hA⟩ := C1
  refine lv_iload_n hx hb dX6_person_0 rfl (lv_at hl 1 rfl) ?_
  refine lv_iconst (v := 0) hx hb dX6_person_1 (by decide) ?_
  refine lv_bipush (v := 6) hx hb dX6_person_2 (by decide) ?_
  refine contI (wc := []) (wr := [(mo_, .inr (6, [.int 0, .ref ms, .ref mi, .int 0, .int 0, .int 0, .int 0, .int 0, .int 0, .ref mb, .ref mt, .ref ml, .ref mx, .int 0, .int 0, .int 0, .int 0, .int 0, .int 0, .ref mc, .int 0, .ref mn, .ref mp, .ref mo, .int 0, .int 0, .int 0, .int 0])), (ms, .inl (cI, 846, .inl (s0)))]) C0 hP hD hS [] [0, 1] rfl rfl (by decide) (by decide) 0 0 (Nat.le_of_ble_eq_true rfl) (Nat.le_of_ble_eq_true rfl) (runS (k := 3) (As := [.int p1, .int 0, .int 6]) (rest := []) C0 (mc_in l D cI cZ cQ cT _ p1 0 6) wc_X6_in wl_X6_45 wt_X6_in wz_X6 ⟨by decide, by decide, by decide +kernel⟩ ⟨(Nat.le_of_ble_eq_true rfl), (Nat.le_of_ble_eq_true rfl)⟩ hP hD hS EF.ok hX [] rfl (by decide) rfl hl.1 rfl (Nat.le_of_ble_eq_true rfl) dX6_person_4 ⟨(Nat.le_of_ble_eq_true rfl), (Nat.le_of_ble_eq_true rfl)⟩) (fun r_3 u_1 H locs w_2 hP hD hS => ?_)
  have hP : va_P D CL [(mo_, .inr (6, [.int 0, .ref ms, .ref mi, .int 0, .int 0, .int 0, .int 0, .int 0, .int 0, .ref mb, .ref mt, .ref ml, .ref mx, .int 0, .int 0, .int 0, .int 0, .int 0, .int 0, .ref mc, .int 0, .ref mn, .ref mp, .ref mo, .int 0, .int 0, .int 0, .int 0])), (ms, .inl (cI, 846, .inl (s0)))] H := hP
  have hD : va_D A [(mo_, .inr (6, [.int 0, .ref ms, .ref mi, .int 0, .int 0, .int 0, .int 0, .int 0, .int 0, .ref mb, .ref mt, .ref ml, .ref mx, .int 0, .int 0, .int 0, .int 0, .int 0, .int 0, .ref mc, .int 0, .ref mn, .ref mp, .ref mo, .int 0, .int 0, .int 0, .int 0])), (ms, .inl (cI, 846, .inl (s0)))] := hD
  refine (Decidable.em (((0 : Int32) ≤ p1 ∧ p1 ≤ (6 : Int32)))).elim (fun c_4 => ?_) (fun c_4 => ?_)
  · obtain rfl : r_3 = 1 := w_2.trans (if_pos c_4)
    refine lv_if_ne (tgt := 12) hx hb dX6_person_7 (by decide) (fun _ => ?_) (fun c_0 => absurd c_0 (by decide))
    refine lv_iload_n hx hb dX6_person_12 rfl (lv_at hl 2 rfl) ?_
    refine lv_iconst (v := 0) hx hb dX6_person_13 (by decide) ?_
    refine lv_bipush (v := 9) hx hb dX6_person_14 (by decide) ?_
    refine contI (wc := []) (wr := [(mo_, .inr (6, [.int 0, .ref ms, .ref mi, .int 0, .int 0, .int 0, .int 0, .int 0, .int 0, .ref mb, .ref mt, .ref ml, .ref mx, .int 0, .int 0, .int 0, .int 0, .int 0, .int 0, .ref mc, .int 0, .ref mn, .ref mp, .ref mo, .int 0, .int 0, .int 0, .int 0])), (ms, .inl (cI, 846, .inl (s0)))]) C0 hP hD hS [] [0, 1] rfl rfl (by decide) (by decide) 0 0 (Nat.le_of_ble_eq_true rfl) (Nat.le_of_ble_eq_true rfl) (runS (k := 3) (As := [.int p2, .int 0, .int 9]) (rest := []) C0 (mc_in l D cI cZ cQ cT _ p2 0 9) wc_X6_in wl_X6_45 wt_X6_in wz_X6 ⟨by decide, by decide, by decide +kernel⟩ ⟨(Nat.le_of_ble_eq_true rfl), (Nat.le_of_ble_eq_true rfl)⟩ hP hD hS EF.ok hX [] rfl (by decide) rfl hl.1 rfl (Nat.le_of_ble_eq_true rfl) dX6_person_16 ⟨(Nat.le_of_ble_eq_true rfl), (Nat.le_of_ble_eq_true rfl)⟩) (fun r_7 u_5 H locs w_6 hP hD hS => ?_)
    have hP : va_P D CL [(mo_, .inr (6, [.int 0, .ref ms, .ref mi, .int 0, .int 0, .int 0, .int 0, .int 0, .int 0, .ref mb, .ref mt, .ref ml, .ref mx, .int 0, .int 0, .int 0, .int 0, .int 0, .int 0, .ref mc, .int 0, .ref mn, .ref mp, .ref mo, .int 0, .int 0, .int 0, .int 0])), (ms, .inl (cI, 846, .inl (s0)))] H := hP
    have hD : va_D A [(mo_, .inr (6, [.int 0, .ref ms, .ref mi, .int 0, .int 0, .int 0, .int 0, .int 0, .int 0, .ref mb, .ref mt, .ref ml, .ref mx, .int 0, .int 0, .int 0, .int 0, .int 0, .int 0, .ref mc, .int 0, .ref mn, .ref mp, .ref mo, .int 0, .int 0, .int 0, .int 0])), (ms, .inl (cI, 846, .inl (s0)))] := hD
    refine (Decidable.em (((0 : Int32) ≤ p2 ∧ p2 ≤ (9 : Int32)))).elim (fun c_8 => ?_) (fun c_8 => ?_)
    · obtain rfl : r_7 = 1 := w_6.trans (if_pos c_8)
      refine lv_if_ne (tgt := 25) hx hb dX6_person_19 (by decide) (fun _ => ?_) (fun c_0 => absurd c_0 (by decide))
      refine lv_aload_n hx hb dX6_person_25 rfl (lv_at hl 0 rfl) ?_
      refine va_get (ci := 6) (v := .ref ms) (C := RX6) (T := TX6) (N := 28) hx hb hT wu_X6 hown hK hP 0 rfl rfl 1 (by decide) (hT _ wf_X6_7) (fun _ h9 => h9) rfl dX6_person_26 ?_
      refine lv_iconst (v := 0) hx hb dX6_person_29 (by decide) ?_
      refine va_iald hx hb hK hP 1 0 rfl rfl (vin _ _ (by decide +kernel)) dX6_person_30 ?_
      refine lv_ci 0 (by decide +kernel) ?_
      refine lv_iconst (v := 4) hx hb dX6_person_31 (by decide) ?_
      refine lv_icmp_ne (tgt := 38) hx hb dX6_person_32 (by decide) (fun _ => ?_) (fun c_0 => absurd c_0 (by decide))
      refine lv_aload_n hx hb dX6_person_38 rfl (lv_at hl 0 rfl) ?_
      refine va_get (ci := 6) (v := .ref ms) (C := RX6) (T := TX6) (N := 28) hx hb hT wu_X6 hown hK hP 0 rfl rfl 1 (by decide) (hT _ wf_X6_7) (fun _ h9 => h9) rfl dX6_person_39 ?_
      refine lv_iconst (v := 0) hx hb dX6_person_42 (by decide) ?_
      refine va_iald hx hb hK hP 1 0 rfl rfl (vin _ _ (by decide +kernel)) dX6_person_43 ?_
      refine lv_ci 0 (by decide +kernel) ?_
      refine lv_istore_n (lv' := [(3, .int 0), (0, .ref mo_), (1, .int p1), (2, .int p2)]) hx hb dX6_person_44 rfl hl (by decide) rfl (fun ls hl => ?_)
      refine lv_aload_n hx hb dX6_person_45 rfl (lv_at hl 1 rfl) ?_
      refine va_get (ci := 6) (v := .ref ms) (C := RX6) (T := TX6) (N := 28) hx hb hT wu_X6 hown hK hP 0 rfl rfl 1 (by decide) (hT _ wf_X6_7) (fun _ h9 => h9) rfl dX6_person_46 ?_
      refine lv_bipush (v := 110) hx hb dX6_person_49 (by decide) ?_
      refine lv_iload_n hx hb dX6_person_51 rfl (lv_at hl 0 rfl) ?_
      refine lv_iadd hx hb dX6_person_52 ?_
      refine lv_ci 110 (by decide +kernel) ?_
      refine lv_iload_n hx hb dX6_person_53 rfl (lv_at hl 2 rfl) ?_
      refine va_iast hx hb hK hP hD hS 1 0 rfl rfl (vin _ _ (by decide +kernel)) dX6_person_54 (fun H locs hP hD hS => ?_)
      have hP : va_P D CL [(mo_, .inr (6, [.int 0, .ref ms, .ref mi, .int 0, .int 0, .int 0, .int 0, .int 0, .int 0, .ref mb, .ref mt, .ref ml, .ref mx, .int 0, .int 0, .int 0, .int 0, .int 0, .int 0, .ref mc, .int 0, .ref mn, .ref mp, .ref mo, .int 0, .int 0, .int 0, .int 0])), (ms, .inl (cI, 846, .inl (upd (s0) ((110 : Int32)).toNatClampNeg p1)))] H := hP
      have hD : va_D A [(mo_, .inr (6, [.int 0, .ref ms, .ref mi, .int 0, .int 0, .int 0, .int 0, .int 0, .int 0, .ref mb, .ref mt, .ref ml, .ref mx, .int 0, .int 0, .int 0, .int 0, .int 0, .int 0, .ref mc, .int 0, .ref mn, .ref mp, .ref mo, .int 0, .int 0, .int 0, .int 0])), (ms, .inl (cI, 846, .inl (upd (s0) ((110 : Int32)).toNatClampNeg p1)))] := hD
      refine lv_aload_n hx hb dX6_person_55 rfl (lv_at hl 1 rfl) ?_
      refine va_get (ci := 6) (v := .ref ms) (C := RX6) (T := TX6) (N := 28) hx hb hT wu_X6 hown hK hP 0 rfl rfl 1 (by decide) (hT _ wf_X6_7) (fun _ h9 => h9) rfl dX6_person_56 ?_
      refine lv_bipush (v := 114) hx hb dX6_person_59 (by decide) ?_
      refine lv_iload_n hx hb dX6_person_61 rfl (lv_at hl 0 rfl) ?_
      refine lv_iadd hx hb dX6_person_62 ?_
      refine lv_ci 114 (by decide +kernel) ?_
      refine lv_iload_n hx hb dX6_person_63 rfl (lv_at hl 3 rfl) ?_
      refine va_iast hx hb hK hP hD hS 1 0 rfl rfl (vin _ _ (by decide +kernel)) dX6_person_64 (fun H locs hP hD hS => ?_)
      have hP : va_P D CL [(mo_, .inr (6, [.int 0, .ref ms, .ref mi, .int 0, .int 0, .int 0, .int 0, .int 0, .int 0, .ref mb, .ref mt, .ref ml, .ref mx, .int 0, .int 0, .int 0, .int 0, .int 0, .int 0, .ref mc, .int 0, .ref mn, .ref mp, .ref mo, .int 0, .int 0, .int 0, .int 0])), (ms, .inl (cI, 846, .inl (upd (upd (s0) ((110 : Int32)).toNatClampNeg p1) ((114 : Int32)).toNatClampNeg p2)))] H := hP
      have hD : va_D A [(mo_, .inr (6, [.int 0, .ref ms, .ref mi, .int 0, .int 0, .int 0, .int 0, .int 0, .int 0, .ref mb, .ref mt, .ref ml, .ref mx, .int 0, .int 0, .int 0, .int 0, .int 0, .int 0, .ref mc, .int 0, .ref mn, .ref mp, .ref mo, .int 0, .int 0, .int 0, .int 0])), (ms, .inl (cI, 846, .inl (upd (upd (s0) ((110 : Int32)).toNatClampNeg p1) ((114 : Int32)).toNatClampNeg p2)))] := hD
      refine lv_aload_n hx hb dX6_person_65 rfl (lv_at hl 1 rfl) ?_
      refine va_get (ci := 6) (v := .ref ms) (C := RX6) (T := TX6) (N := 28) hx hb hT wu_X6 hown hK hP 0 rfl rfl 1 (by decide) (hT _ wf_X6_7) (fun _ h9 => h9) rfl dX6_person_66 ?_
      refine lv_bipush (v := 118) hx hb dX6_person_69 (by decide) ?_
      refine lv_iload_n hx hb dX6_person_71 rfl (lv_at hl 0 rfl) ?_
      refine lv_iadd hx hb dX6_person_72 ?_
      refine lv_ci 118 (by decide +kernel) ?_
      refine lv_iconst (v := 0) hx hb dX6_person_73 (by decide) ?_
      refine va_iast hx hb hK hP hD hS 1 0 rfl rfl (vin _ _ (by decide +kernel)) dX6_person_74 (fun H locs hP hD hS => ?_)
      have hP : va_P D CL [(mo_, .inr (6, [.int 0, .ref ms, .ref mi, .int 0, .int 0, .int 0, .int 0, .int 0, .int 0, .ref mb, .ref mt, .ref ml, .ref mx, .int 0, .int 0, .int 0, .int 0, .int 0, .int 0, .ref mc, .int 0, .ref mn, .ref mp, .ref mo, .int 0, .int 0, .int 0, .int 0])), (ms, .inl (cI, 846, .inl (upd (upd (upd (s0) ((110 : Int32)).toNatClampNeg p1) ((114 : Int32)).toNatClampNeg p2) ((118 : Int32)).toNatClampNeg 0)))] H := hP
      have hD : va_D A [(mo_, .inr (6, [.int 0, .ref ms, .ref mi, .int 0, .int 0, .int 0, .int 0, .int 0, .int 0, .ref mb, .ref mt, .ref ml, .ref mx, .int 0, .int 0, .int 0, .int 0, .int 0, .int 0, .ref mc, .int 0, .ref mn, .ref mp, .ref mo, .int 0, .int 0, .int 0, .int 0])), (ms, .inl (cI, 846, .inl (upd (upd (upd (s0) ((110 : Int32)).toNatClampNeg p1) ((114 : Int32)).toNatClampNeg p2) ((118 : Int32)).toNatClampNeg 0)))] := hD
      rw [upd_id (f := (upd (upd (s0) ((110 : Int32)).toNatClampNeg p1) ((114 : Int32)).toNatClampNeg p2)) ((pk_un (by decide +kernel)).trans ((pk_un (by decide +kernel)).trans ((by decide +kernel))))] at hP hD
      have hP : va_P D CL [(mo_, .inr (6, [.int 0, .ref ms, .ref mi, .int 0, .int 0, .int 0, .int 0, .int 0, .int 0, .ref mb, .ref mt, .ref ml, .ref mx, .int 0, .int 0, .int 0, .int 0, .int 0, .int 0, .ref mc, .int 0, .ref mn, .ref mp, .ref mo, .int 0, .int 0, .int 0, .int 0])), (ms, .inl (cI, 846, .inl (upd (upd (s0) ((110 : Int32)).toNatClampNeg p1) ((114 : Int32)).toNatClampNeg p2)))] H := hP
      have hD : va_D A [(mo_, .inr (6, [.int 0, .ref ms, .ref mi, .int 0, .int 0, .int 0, .int 0, .int 0, .int 0, .ref mb, .ref mt, .ref ml, .ref mx, .int 0, .int 0, .int 0, .int 0, .int 0, .int 0, .ref mc, .int 0, .ref mn, .ref mp, .ref mo, .int 0, .int 0, .int 0, .int 0])), (ms, .inl (cI, 846, .inl (upd (upd (s0) ((110 : Int32)).toNatClampNeg p1) ((114 : Int32)).toNatClampNeg p2)))] := hD
      refine lv_aload_n hx hb dX6_person_75 rfl (lv_at hl 1 rfl) ?_
      refine va_get (ci := 6) (v := .ref ms) (C := RX6) (T := TX6) (N := 28) hx hb hT wu_X6 hown hK hP 0 rfl rfl 1 (by decide) (hT _ wf_X6_7) (fun _ h9 => h9) rfl dX6_person_76 ?_
      refine lv_bipush (v := 122) hx hb dX6_person_79 (by decide) ?_
      refine lv_iload_n hx hb dX6_person_81 rfl (lv_at hl 0 rfl) ?_
      refine lv_iadd hx hb dX6_person_82 ?_
      refine lv_ci 122 (by decide +kernel) ?_
      refine lv_iconst (v := 0) hx hb dX6_person_83 (by decide) ?_
      refine va_iast hx hb hK hP hD hS 1 0 rfl rfl (vin _ _ (by decide +kernel)) dX6_person_84 (fun H locs hP hD hS => ?_)
      have hP : va_P D CL [(mo_, .inr (6, [.int 0, .ref ms, .ref mi, .int 0, .int 0, .int 0, .int 0, .int 0, .int 0, .ref mb, .ref mt, .ref ml, .ref mx, .int 0, .int 0, .int 0, .int 0, .int 0, .int 0, .ref mc, .int 0, .ref mn, .ref mp, .ref mo, .int 0, .int 0, .int 0, .int 0])), (ms, .inl (cI, 846, .inl (upd (upd (upd (s0) ((110 : Int32)).toNatClampNeg p1) ((114 : Int32)).toNatClampNeg p2) ((122 : Int32)).toNatClampNeg 0)))] H := hP
      have hD : va_D A [(mo_, .inr (6, [.int 0, .ref ms, .ref mi, .int 0, .int 0, .int 0, .int 0, .int 0, .int 0, .ref mb, .ref mt, .ref ml, .ref mx, .int 0, .int 0, .int 0, .int 0, .int 0, .int 0, .ref mc, .int 0, .ref mn, .ref mp, .ref mo, .int 0, .int 0, .int 0, .int 0])), (ms, .inl (cI, 846, .inl (upd (upd (upd (s0) ((110 : Int32)).toNatClampNeg p1) ((114 : Int32)).toNatClampNeg p2) ((122 : Int32)).toNatClampNeg 0)))] := hD
      rw [upd_id (f := (upd (upd (s0) ((110 : Int32)).toNatClampNeg p1) ((114 : Int32)).toNatClampNeg p2)) ((pk_un (by decide +kernel)).trans ((pk_un (by decide +kernel)).trans ((by decide +kernel))))] at hP hD
      have hP : va_P D CL [(mo_, .inr (6, [.int 0, .ref ms, .ref mi, .int 0, .int 0, .int 0, .int 0, .int 0, .int 0, .ref mb, .ref mt, .ref ml, .ref mx, .int 0, .int 0, .int 0, .int 0, .int 0, .int 0, .ref mc, .int 0, .ref mn, .ref mp, .ref mo, .int 0, .int 0, .int 0, .int 0])), (ms, .inl (cI, 846, .inl (upd (upd (s0) ((110 : Int32)).toNatClampNeg p1) ((114 : Int32)).toNatClampNeg p2)))] H := hP
      have hD : va_D A [(mo_, .inr (6, [.int 0, .ref ms, .ref mi, .int 0, .int 0, .int 0, .int 0, .int 0, .int 0, .ref mb, .ref mt, .ref ml, .ref mx, .int 0, .int 0, .int 0, .int 0, .int 0, .int 0, .ref mc, .int 0, .ref mn, .ref mp, .ref mo, .int 0, .int 0, .int 0, .int 0])), (ms, .inl (cI, 846, .inl (upd (upd (s0) ((110 : Int32)).toNatClampNeg p1) ((114 : Int32)).toNatClampNeg p2)))] := hD
      refine lv_aload_n hx hb dX6_person_85 rfl (lv_at hl 1 rfl) ?_
      refine va_get (ci := 6) (v := .ref ms) (C := RX6) (T := TX6) (N := 28) hx hb hT wu_X6 hown hK hP 0 rfl rfl 1 (by decide) (hT _ wf_X6_7) (fun _ h9 => h9) rfl dX6_person_86 ?_
      refine lv_iconst (v := 0) hx hb dX6_person_89 (by decide) ?_
      refine lv_dup2_11 hx hb dX6_person_90 rfl rfl ?_
      refine va_iald hx hb hK hP 1 0 rfl rfl (vin _ _ (by decide +kernel)) dX6_person_91 ?_
      refine lv_ci 0 ((pk_un (by decide +kernel)).trans ((pk_un (by decide +kernel)).trans ((by decide +kernel)))) ?_
      refine lv_iconst (v := 1) hx hb dX6_person_92 (by decide) ?_
      refine lv_iadd hx hb dX6_person_93 ?_
      refine lv_ci 1 (by decide +kernel) ?_
      refine va_iast hx hb hK hP hD hS 1 0 rfl rfl (vin _ _ (by decide +kernel)) dX6_person_94 (fun H locs hP hD hS => ?_)
      have hP : va_P D CL [(mo_, .inr (6, [.int 0, .ref ms, .ref mi, .int 0, .int 0, .int 0, .int 0, .int 0, .int 0, .ref mb, .ref mt, .ref ml, .ref mx, .int 0, .int 0, .int 0, .int 0, .int 0, .int 0, .ref mc, .int 0, .ref mn, .ref mp, .ref mo, .int 0, .int 0, .int 0, .int 0])), (ms, .inl (cI, 846, .inl (upd (upd (upd (s0) ((110 : Int32)).toNatClampNeg p1) ((114 : Int32)).toNatClampNeg p2) ((0 : Int32)).toNatClampNeg 1)))] H := hP
      have hD : va_D A [(mo_, .inr (6, [.int 0, .ref ms, .ref mi, .int 0, .int 0, .int 0, .int 0, .int 0, .int 0, .ref mb, .ref mt, .ref ml, .ref mx, .int 0, .int 0, .int 0, .int 0, .int 0, .int 0, .ref mc, .int 0, .ref mn, .ref mp, .ref mo, .int 0, .int 0, .int 0, .int 0])), (ms, .inl (cI, 846, .inl (upd (upd (upd (s0) ((110 : Int32)).toNatClampNeg p1) ((114 : Int32)).toNatClampNeg p2) ((0 : Int32)).toNatClampNeg 1)))] := hD
      refine lv_iload_n hx hb dX6_person_95 rfl (lv_at hl 0 rfl) ?_
      exact retI C0 rfl () (((if_pos c_4).trans ((if_pos c_8))).symm) (hP.sub (ws' := []) [] rfl) (hD.sub (ws' := []) [] (by decide) rfl) hS (Nat.le_of_ble_eq_true rfl) (Nat.le_of_ble_eq_true rfl) dX6_person_96
    · obtain rfl : r_7 = 0 := w_6.trans (if_neg c_8)
      refine lv_if_ne (tgt := 25) hx hb dX6_person_19 (by decide) (fun c_0 => absurd (by decide) c_0) (fun _ => ?_)
      refine lv_bipush (v := (-2)) hx hb dX6_person_22 (by decide) ?_
      exact retI C0 rfl () (((if_pos c_4).trans ((if_neg c_8))).symm) (hP.sub (ws' := []) [] rfl) (hD.sub (ws' := []) [] (by decide) rfl) hS (Nat.le_of_ble_eq_true rfl) (Nat.le_of_ble_eq_true rfl) dX6_person_24
  · obtain rfl : r_3 = 0 := w_2.trans (if_neg c_4)
    refine lv_if_ne (tgt := 12) hx hb dX6_person_7 (by decide) (fun c_0 => absurd (by decide) c_0) (fun _ => ?_)
    refine lv_iconst (v := (-1)) hx hb dX6_person_10 (by decide) ?_
    exact retI C0 rfl () (((if_neg c_4)).symm) (hP.sub (ws' := []) [] rfl) (hD.sub (ws' := []) [] (by decide) rfl) hS (Nat.le_of_ble_eq_true rfl) (Nat.le_of_ble_eq_true rfl) dX6_person_11

set_option maxHeartbeats 4000000 in
set_option maxRecDepth 100000 in
theorem mc_in0 (l : Launch) (D : va_G) (cI cZ cQ cT : ClassId) (sz : Nat) (x : Int32)  : MetI l yX6_in cX6_in 3 .boolean ({ frames := 0, cells := 0, slots := 0, locals := 0 } : Room) [.int x, .int 0, .int (-1)] D (TYS cI cZ cQ cT) EF sz [] (S := Unit) (fun (r : Int32) (_ : Unit) => r = 0) (fun _ => []) := by
  refine MetI.mk (lv := [(0, .int x), (1, .int 0), (2, .int (-1))]) (by decide +kernel) (Nat.le_of_ble_eq_true rfl) rfl ?_
  intro p e s m below meth c A ls C0 hP hD hS hX hl
  have C1 := C0
  obtain ⟨hx, hb, hr, hml, hown, hlocks, hname, hT, hN, hK, hA⟩ := C1
  refine lv_iload_n hx hb dX6_in_0 rfl (lv_at hl 0 rfl) ?_
  refine lv_iload_n hx hb dX6_in_1 rfl (lv_at hl 1 rfl) ?_
  refine lv_icmp_lt (tgt := 14) hx hb dX6_in_2 (by decide) (fun c_1 => ?_) (fun c_1 => ?_)
  · refine lv_iconst (v := 0) hx hb dX6_in_14 (by decide) ?_
    exact retI C0 rfl () rfl (hP.sub (ws' := []) [] rfl) (hD.sub (ws' := []) [] (by decide) rfl) hS (Nat.le_of_ble_eq_true rfl) (Nat.le_of_ble_eq_true rfl) dX6_in_15
  · refine lv_iload_n hx hb dX6_in_5 rfl (lv_at hl 0 rfl) ?_
    refine lv_iload_n hx hb dX6_in_6 rfl (lv_at hl 2 rfl) ?_
    refine lv_icmp_gt (tgt := 14) hx hb dX6_in_7 (by decide) (fun _ => ?_) (fun c_0 => absurd (by have h_0 := c_1; have zm1 : (-1 : Int32).toInt = -1 := (by decide); have z0 : (0 : Int32).toInt = 0 := (by decide); simp only [le_i, lt_i, eq_i] at h_0 ⊢; omega : (-1 : Int32) < x) c_0)
    refine lv_iconst (v := 0) hx hb dX6_in_14 (by decide) ?_
    exact retI C0 rfl () rfl (hP.sub (ws' := []) [] rfl) (hD.sub (ws' := []) [] (by decide) rfl) hS (Nat.le_of_ble_eq_true rfl) (Nat.le_of_ble_eq_true rfl) dX6_in_15

set_option maxHeartbeats 4000000 in
set_option maxRecDepth 100000 in
theorem m_isPerson (l : Launch) (D : va_G) (cI cZ cQ cT : ClassId) (sz : Nat) (mo_ : Nat) (x : Int32) (ms : Nat) (mi : Nat) (mb : Nat) (mt : Nat) (ml : Nat) (mx : Nat) (v1 : Int32) (v2 : Int32) (v3 : Int32) (v4 : Int32) (v5 : Int32) (v6 : Int32) (mc : Nat) (v7 : Int32) (mn : Nat) (mp : Nat) (mo : Nat)  : MetI l yX6_isPerson cX6_isPerson 2 .boolean ({ frames := 1, cells := 0, slots := 0, locals := 22 } : Room) [.ref mo_, .int x] D (TYS cI cZ cQ cT) EF sz [(mo_, .inr (6, [.int 0, .ref ms, .ref mi, .int 0, .int 0, .int 0, .int 0, .int 0, .int 0, .ref mb, .ref mt, .ref ml, .ref mx, .int v1, .int v2, .int v3, .int v4, .int v5, .int v6, .ref mc, .int v7, .ref mn, .ref mp, .ref mo, .int 0, .int 0, .int 0, .int 0])), (ms, .inl (cI, 846, .inl (s0)))] (S := Unit) (fun (r : Int32) (_ : Unit) => r = 0) (fun _ => [(mo_, .inr (6, [.int 0, .ref ms, .ref mi, .int 0, .int 0, .int 0, .int 0, .int 0, .int 0, .ref mb, .ref mt, .ref ml, .ref mx, .int v1, .int v2, .int v3, .int v4, .int v5, .int v6, .ref mc, .int v7, .ref mn, .ref mp, .ref mo, .int 0, .int 0, .int 0, .int 0])), (ms, .inl (cI, 846, .inl (s0)))]) := by
  refine MetI.mk (lv := [(0, .ref mo_), (1, .int x)]) (by decide +kernel) (Nat.le_of_ble_eq_true rfl) rfl ?_
  intro p e s m below meth c A ls C0 hP hD hS hX hl
  have C1 := C0
  obtain ⟨hx, hb, hr, hml, hown, hlocks, hname, hT, hN, hK, hA⟩ := C1
  refine lv_iload_n hx hb dX6_isPerson_0 rfl (lv_at hl 1 rfl) ?_
  refine lv_iconst (v := 0) hx hb dX6_isPerson_1 (by decide) ?_
  refine lv_aload_n hx hb dX6_isPerson_2 rfl (lv_at hl 0 rfl) ?_
  refine va_get (ci := 6) (v := .ref ms) (C := RX6) (T := TX6) (N := 28) hx hb hT wu_X6 hown hK hP 0 rfl rfl 1 (by decide) (hT _ wf_X6_7) (fun _ h9 => h9) rfl dX6_isPerson_3 ?_
  refine lv_iconst (v := 0) hx hb dX6_isPerson_6 (by decide) ?_
  refine va_iald hx hb hK hP 1 0 rfl rfl (vin _ _ (by decide +kernel)) dX6_isPerson_7 ?_
  refine lv_ci 0 (by decide +kernel) ?_
  refine lv_iconst (v := 1) hx hb dX6_isPerson_8 (by decide) ?_
  refine lv_isub hx hb dX6_isPerson_9 ?_
  refine lv_ci (-1) (by decide +kernel) ?_
  refine contI (wc := []) (wr := [(mo_, .inr (6, [.int 0, .ref ms, .ref mi, .int 0, .int 0, .int 0, .int 0, .int 0, .int 0, .ref mb, .ref mt, .ref ml, .ref mx, .int v1, .int v2, .int v3, .int v4, .int v5, .int v6, .ref mc, .int v7, .ref mn, .ref mp, .ref mo, .int 0, .int 0, .int 0, .int 0])), (ms, .inl (cI, 846, .inl (s0)))]) C0 hP hD hS [] [0, 1] rfl rfl (by decide) (by decide) 0 0 (Nat.le_of_ble_eq_true rfl) (Nat.le_of_ble_eq_true rfl) (runS (k := 3) (As := [.int x, .int 0, .int (-1)]) (rest := []) C0 (mc_in0 l D cI cZ cQ cT _ x) wc_X6_in wl_X6_45 wt_X6_in wz_X6 ⟨by decide, by decide, by decide +kernel⟩ ⟨(Nat.le_of_ble_eq_true rfl), (Nat.le_of_ble_eq_true rfl)⟩ hP hD hS EF.ok hX [] rfl (by decide) rfl hl.1 rfl (Nat.le_of_ble_eq_true rfl) dX6_isPerson_10 ⟨(Nat.le_of_ble_eq_true rfl), (Nat.le_of_ble_eq_true rfl)⟩) (fun r_3 u_1 H locs w_2 hP hD hS => ?_)
  have hP : va_P D CL [(mo_, .inr (6, [.int 0, .ref ms, .ref mi, .int 0, .int 0, .int 0, .int 0, .int 0, .int 0, .ref mb, .ref mt, .ref ml, .ref mx, .int v1, .int v2, .int v3, .int v4, .int v5, .int v6, .ref mc, .int v7, .ref mn, .ref mp, .ref mo, .int 0, .int 0, .int 0, .int 0])), (ms, .inl (cI, 846, .inl (s0)))] H := hP
  have hD : va_D A [(mo_, .inr (6, [.int 0, .ref ms, .ref mi, .int 0, .int 0, .int 0, .int 0, .int 0, .int 0, .ref mb, .ref mt, .ref ml, .ref mx, .int v1, .int v2, .int v3, .int v4, .int v5, .int v6, .ref mc, .int v7, .ref mn, .ref mp, .ref mo, .int 0, .int 0, .int 0, .int 0])), (ms, .inl (cI, 846, .inl (s0)))] := hD
  obtain rfl : r_3 = 0 := w_2
  exact retI C0 rfl () rfl (hP.sub (ws' := [(mo_, .inr (6, [.int 0, .ref ms, .ref mi, .int 0, .int 0, .int 0, .int 0, .int 0, .int 0, .ref mb, .ref mt, .ref ml, .ref mx, .int v1, .int v2, .int v3, .int v4, .int v5, .int v6, .ref mc, .int v7, .ref mn, .ref mp, .ref mo, .int 0, .int 0, .int 0, .int 0])), (ms, .inl (cI, 846, .inl (s0)))]) [0, 1] rfl) (hD.sub (ws' := [(mo_, .inr (6, [.int 0, .ref ms, .ref mi, .int 0, .int 0, .int 0, .int 0, .int 0, .int 0, .ref mb, .ref mt, .ref ml, .ref mx, .int v1, .int v2, .int v3, .int v4, .int v5, .int v6, .ref mc, .int v7, .ref mn, .ref mp, .ref mo, .int 0, .int 0, .int 0, .int 0])), (ms, .inl (cI, 846, .inl (s0)))]) [0, 1] (by decide) rfl) hS (Nat.le_of_ble_eq_true rfl) (Nat.le_of_ble_eq_true rfl) dX6_isPerson_13

set_option maxHeartbeats 4000000 in
set_option maxRecDepth 100000 in
theorem m_of (l : Launch) (D : va_G) (cI cZ cQ cT : ClassId) (sz : Nat) (mo_ : Nat) (p1 : Int32) (p2 : Int32) (ms : Nat) (mi : Nat) (mb : Nat) (mt : Nat) (ml : Nat) (mx : Nat) (mc : Nat) (mn : Nat) (mp : Nat) (mo : Nat)  : MetI l yX6_of cX6_of 3 .int ({ frames := 2, cells := 0, slots := 0, locals := 43 } : Room) [.ref mo_, .int p1, .int p2] D (TYS cI cZ cQ cT) EF sz [(mo_, .inr (6, [.int 0, .ref ms, .ref mi, .int 0, .int 0, .int 0, .int 0, .int 0, .int 0, .ref mb, .ref mt, .ref ml, .ref mx, .int 0, .int 0, .int 0, .int 0, .int 0, .int 0, .ref mc, .int 0, .ref mn, .ref mp, .ref mo, .int 0, .int 0, .int 0, .int 0])), (ms, .inl (cI, 846, .inl (s0)))] (S := Unit) (fun (r : Int32) (_ : Unit) => r = (-1)) (fun _ => []) := by
  refine MetI.mk (lv := [(0, .ref mo_), (1, .int p1), (2, .int p2)]) (by decide +kernel) (Nat.le_of_ble_eq_true rfl) rfl ?_
  intro p e s m below meth c A ls C0 hP hD hS hX hl
  have C1 := C0
  obtain ⟨hx, hb, hr, hml, hown, hlocks, hname, hT, hN, hK, hA⟩ := C1
  refine lv_aload_n hx hb dX6_of_0 rfl (lv_at hl 0 rfl) ?_
  refine lv_iload_n hx hb dX6_of_1 rfl (lv_at hl 1 rfl) ?_
  refine contI (wc := [(mo_, .inr (6, [.int 0, .ref ms, .ref mi, .int 0, .int 0, .int 0, .int 0, .int 0, .int 0, .ref mb, .ref mt, .ref ml, .ref mx, .int 0, .int 0, .int 0, .int 0, .int 0, .int 0, .ref mc, .int 0, .ref mn, .ref mp, .ref mo, .int 0, .int 0, .int 0, .int 0])), (ms, .inl (cI, 846, .inl (s0)))]) (wr := []) C0 hP hD hS [0, 1] [] rfl rfl (by decide) (by decide) 0 0 (Nat.le_of_ble_eq_true rfl) (Nat.le_of_ble_eq_true rfl) (runV (k := 1) (As := [.int p1]) (rest := []) C0 (m_isPerson l D cI cZ cQ cT _ mo_ p1 ms mi mb mt ml mx 0 0 0 0 0 0 mc 0 mn mp mo) wc_X6_isPerson wl_X6_152 wi_X6_isPerson we_X6_isPerson wz_X6 ⟨by decide, by decide, by decide +kernel⟩ ⟨(Nat.le_of_ble_eq_true rfl), (Nat.le_of_ble_eq_true rfl)⟩ hP hD hS EF.ok hX [0, 1] rfl (by decide) 0 rfl rfl rfl rfl hl.1 rfl (Nat.le_of_ble_eq_true rfl) dX6_of_2 ⟨(Nat.le_of_ble_eq_true rfl), (Nat.le_of_ble_eq_true rfl)⟩) (fun r_3 u_1 H locs w_2 hP hD hS => ?_)
  have hP : va_P D CL [(mo_, .inr (6, [.int 0, .ref ms, .ref mi, .int 0, .int 0, .int 0, .int 0, .int 0, .int 0, .ref mb, .ref mt, .ref ml, .ref mx, .int 0, .int 0, .int 0, .int 0, .int 0, .int 0, .ref mc, .int 0, .ref mn, .ref mp, .ref mo, .int 0, .int 0, .int 0, .int 0])), (ms, .inl (cI, 846, .inl (s0)))] H := hP
  have hD : va_D A [(mo_, .inr (6, [.int 0, .ref ms, .ref mi, .int 0, .int 0, .int 0, .int 0, .int 0, .int 0, .ref mb, .ref mt, .ref ml, .ref mx, .int 0, .int 0, .int 0, .int 0, .int 0, .int 0, .ref mc, .int 0, .ref mn, .ref mp, .ref mo, .int 0, .int 0, .int 0, .int 0])), (ms, .inl (cI, 846, .inl (s0)))] := hD
  obtain rfl : r_3 = 0 := w_2
  refine lv_if_ne (tgt := 10) hx hb dX6_of_5 (by decide) (fun c_0 => absurd (by decide) c_0) (fun _ => ?_)
  refine lv_iconst (v := (-1)) hx hb dX6_of_8 (by decide) ?_
  exact retI C0 rfl () rfl (hP.sub (ws' := []) [] rfl) (hD.sub (ws' := []) [] (by decide) rfl) hS (Nat.le_of_ble_eq_true rfl) (Nat.le_of_ble_eq_true rfl) dX6_of_9

set_option maxHeartbeats 4000000 in
set_option maxRecDepth 100000 in
theorem m_row (l : Launch) (D : va_G) (cI cZ cQ cT : ClassId) (sz : Nat) (mo_ : Nat) (p1 : Int32) (p2 : Int32) (ms : Nat) (mi : Nat) (mb : Nat) (mt : Nat) (ml : Nat) (mx : Nat) (mc : Nat) (mn : Nat) (mp : Nat) (mo : Nat)  : MetI l yX6_row cX6_row 4 .int ({ frames := 2, cells := 0, slots := 0, locals := 43 } : Room) [.ref mo_, .int p1, .int p2] D (TYS cI cZ cQ cT) EF sz [(mo_, .inr (6, [.int 0, .ref ms, .ref mi, .int 0, .int 0, .int 0, .int 0, .int 0, .int 0, .ref mb, .ref mt, .ref ml, .ref mx, .int 0, .int 0, .int 0, .int 0, .int 0, .int 0, .ref mc, .int 0, .ref mn, .ref mp, .ref mo, .int 0, .int 0, .int 0, .int 0])), (ms, .inl (cI, 846, .inl (s0)))] (S := Unit) (fun (r : Int32) (_ : Unit) => r = (-1)) (fun _ => []) := by
  refine MetI.mk (lv := [(0, .ref mo_), (1, .int p1), (2, .int p2)]) (by decide +kernel) (Nat.le_of_ble_eq_true rfl) rfl ?_
  intro p e s m below meth c A ls C0 hP hD hS hX hl
  have C1 := C0
  obtain ⟨hx, hb, hr, hml, hown, hlocks, hname, hT, hN, hK, hA⟩ := C1
  refine lv_aload_n hx hb dX6_row_0 rfl (lv_at hl 0 rfl) ?_
  refine lv_iload_n hx hb dX6_row_1 rfl (lv_at hl 1 rfl) ?_
  refine contI (wc := [(mo_, .inr (6, [.int 0, .ref ms, .ref mi, .int 0, .int 0, .int 0, .int 0, .int 0, .int 0, .ref mb, .ref mt, .ref ml, .ref mx, .int 0, .int 0, .int 0, .int 0, .int 0, .int 0, .ref mc, .int 0, .ref mn, .ref mp, .ref mo, .int 0, .int 0, .int 0, .int 0])), (ms, .inl (cI, 846, .inl (s0)))]) (wr := []) C0 hP hD hS [0, 1] [] rfl rfl (by decide) (by decide) 0 0 (Nat.le_of_ble_eq_true rfl) (Nat.le_of_ble_eq_true rfl) (runV (k := 1) (As := [.int p1]) (rest := []) C0 (m_isPerson l D cI cZ cQ cT _ mo_ p1 ms mi mb mt ml mx 0 0 0 0 0 0 mc 0 mn mp mo) wc_X6_isPerson wl_X6_152 wi_X6_isPerson we_X6_isPerson wz_X6 ⟨by decide, by decide, by decide +kernel⟩ ⟨(Nat.le_of_ble_eq_true rfl), (Nat.le_of_ble_eq_true rfl)⟩ hP hD hS EF.ok hX [0, 1] rfl (by decide) 0 rfl rfl rfl rfl hl.1 rfl (Nat.le_of_ble_eq_true rfl) dX6_row_2 ⟨(Nat.le_of_ble_eq_true rfl), (Nat.le_of_ble_eq_true rfl)⟩) (fun r_3 u_1 H locs w_2 hP hD hS => ?_)
  have hP : va_P D CL [(mo_, .inr (6, [.int 0, .ref ms, .ref mi, .int 0, .int 0, .int 0, .int 0, .int 0, .int 0, .ref mb, .ref mt, .ref ml, .ref mx, .int 0, .int 0, .int 0, .int 0, .int 0, .int 0, .ref mc, .int 0, .ref mn, .ref mp, .ref mo, .int 0, .int 0, .int 0, .int 0])), (ms, .inl (cI, 846, .inl (s0)))] H := hP
  have hD : va_D A [(mo_, .inr (6, [.int 0, .ref ms, .ref mi, .int 0, .int 0, .int 0, .int 0, .int 0, .int 0, .ref mb, .ref mt, .ref ml, .ref mx, .int 0, .int 0, .int 0, .int 0, .int 0, .int 0, .ref mc, .int 0, .ref mn, .ref mp, .ref mo, .int 0, .int 0, .int 0, .int 0])), (ms, .inl (cI, 846, .inl (s0)))] := hD
  obtain rfl : r_3 = 0 := w_2
  refine lv_if_ne (tgt := 10) hx hb dX6_row_5 (by decide) (fun c_0 => absurd (by decide) c_0) (fun _ => ?_)
  refine lv_iconst (v := (-1)) hx hb dX6_row_8 (by decide) ?_
  exact retI C0 rfl () rfl (hP.sub (ws' := []) [] rfl) (hD.sub (ws' := []) [] (by decide) rfl) hS (Nat.le_of_ble_eq_true rfl) (Nat.le_of_ble_eq_true rfl) dX6_row_9

set_option maxHeartbeats 4000000 in
set_option maxRecDepth 100000 in
theorem m_note (l : Launch) (D : va_G) (cI cZ cQ cT : ClassId) (sz : Nat) (mo_ : Nat) (p1 : Int32) (p2 : Int32) (ms : Nat) (mi : Nat) (mb : Nat) (mt : Nat) (ml : Nat) (mx : Nat) (mc : Nat) (mn : Nat) (mp : Nat) (mo : Nat)  : MetI l yX6_note cX6_note 4 .int ({ frames := 2, cells := 0, slots := 0, locals := 43 } : Room) [.ref mo_, .int p1, .int p2] D (TYS cI cZ cQ cT) EF sz [(mo_, .inr (6, [.int 0, .ref ms, .ref mi, .int 0, .int 0, .int 0, .int 0, .int 0, .int 0, .ref mb, .ref mt, .ref ml, .ref mx, .int 0, .int 0, .int 0, .int 0, .int 0, .int 0, .ref mc, .int 0, .ref mn, .ref mp, .ref mo, .int 0, .int 0, .int 0, .int 0])), (ms, .inl (cI, 846, .inl (s0)))] (S := Unit) (fun (r : Int32) (_ : Unit) => r = (-1)) (fun _ => []) := by
  refine MetI.mk (lv := [(0, .ref mo_), (1, .int p1), (2, .int p2)]) (by decide +kernel) (Nat.le_of_ble_eq_true rfl) rfl ?_
  intro p e s m below meth c A ls C0 hP hD hS hX hl
  have C1 := C0
  obtain ⟨hx, hb, hr, hml, hown, hlocks, hname, hT, hN, hK, hA⟩ := C1
  refine lv_aload_n hx hb dX6_note_0 rfl (lv_at hl 0 rfl) ?_
  refine lv_iload_n hx hb dX6_note_1 rfl (lv_at hl 1 rfl) ?_
  refine contI (wc := [(mo_, .inr (6, [.int 0, .ref ms, .ref mi, .int 0, .int 0, .int 0, .int 0, .int 0, .int 0, .ref mb, .ref mt, .ref ml, .ref mx, .int 0, .int 0, .int 0, .int 0, .int 0, .int 0, .ref mc, .int 0, .ref mn, .ref mp, .ref mo, .int 0, .int 0, .int 0, .int 0])), (ms, .inl (cI, 846, .inl (s0)))]) (wr := []) C0 hP hD hS [0, 1] [] rfl rfl (by decide) (by decide) 0 0 (Nat.le_of_ble_eq_true rfl) (Nat.le_of_ble_eq_true rfl) (runV (k := 1) (As := [.int p1]) (rest := []) C0 (m_isPerson l D cI cZ cQ cT _ mo_ p1 ms mi mb mt ml mx 0 0 0 0 0 0 mc 0 mn mp mo) wc_X6_isPerson wl_X6_152 wi_X6_isPerson we_X6_isPerson wz_X6 ⟨by decide, by decide, by decide +kernel⟩ ⟨(Nat.le_of_ble_eq_true rfl), (Nat.le_of_ble_eq_true rfl)⟩ hP hD hS EF.ok hX [0, 1] rfl (by decide) 0 rfl rfl rfl rfl hl.1 rfl (Nat.le_of_ble_eq_true rfl) dX6_note_2 ⟨(Nat.le_of_ble_eq_true rfl), (Nat.le_of_ble_eq_true rfl)⟩) (fun r_3 u_1 H locs w_2 hP hD hS => ?_)
  have hP : va_P D CL [(mo_, .inr (6, [.int 0, .ref ms, .ref mi, .int 0, .int 0, .int 0, .int 0, .int 0, .int 0, .ref mb, .ref mt, .ref ml, .ref mx, .int 0, .int 0, .int 0, .int 0, .int 0, .int 0, .ref mc, .int 0, .ref mn, .ref mp, .ref mo, .int 0, .int 0, .int 0, .int 0])), (ms, .inl (cI, 846, .inl (s0)))] H := hP
  have hD : va_D A [(mo_, .inr (6, [.int 0, .ref ms, .ref mi, .int 0, .int 0, .int 0, .int 0, .int 0, .int 0, .ref mb, .ref mt, .ref ml, .ref mx, .int 0, .int 0, .int 0, .int 0, .int 0, .int 0, .ref mc, .int 0, .ref mn, .ref mp, .ref mo, .int 0, .int 0, .int 0, .int 0])), (ms, .inl (cI, 846, .inl (s0)))] := hD
  obtain rfl : r_3 = 0 := w_2
  refine lv_if_ne (tgt := 10) hx hb dX6_note_5 (by decide) (fun c_0 => absurd (by decide) c_0) (fun _ => ?_)
  refine lv_iconst (v := (-1)) hx hb dX6_note_8 (by decide) ?_
  exact retI C0 rfl () rfl (hP.sub (ws' := []) [] rfl) (hD.sub (ws' := []) [] (by decide) rfl) hS (Nat.le_of_ble_eq_true rfl) (Nat.le_of_ble_eq_true rfl) dX6_note_9

set_option maxHeartbeats 4000000 in
set_option maxRecDepth 100000 in
theorem m_days (l : Launch) (D : va_G) (cI cZ cQ cT : ClassId) (sz : Nat) (mo_ : Nat) (ms : Nat) (mi : Nat) (mb : Nat) (mt : Nat) (ml : Nat) (mx : Nat) (v1 : Int32) (v2 : Int32) (v3 : Int32) (v4 : Int32) (v5 : Int32) (v6 : Int32) (mc : Nat) (v7 : Int32) (mn : Nat) (mp : Nat) (mo : Nat)  : MetI l yX6_days cX6_days 1 .int ({ frames := 0, cells := 0, slots := 0, locals := 0 } : Room) [.ref mo_] D (TYS cI cZ cQ cT) EF sz [(mo_, .inr (6, [.int 0, .ref ms, .ref mi, .int 0, .int 0, .int 0, .int 0, .int 0, .int 0, .ref mb, .ref mt, .ref ml, .ref mx, .int v1, .int v2, .int v3, .int v4, .int v5, .int v6, .ref mc, .int v7, .ref mn, .ref mp, .ref mo, .int 0, .int 0, .int 0, .int 0])), (ms, .inl (cI, 846, .inl (s0)))] (S := Unit) (fun (r : Int32) (_ : Unit) => r = 1) (fun _ => [(mo_, .inr (6, [.int 0, .ref ms, .ref mi, .int 0, .int 0, .int 0, .int 0, .int 0, .int 0, .ref mb, .ref mt, .ref ml, .ref mx, .int v1, .int v2, .int v3, .int v4, .int v5, .int v6, .ref mc, .int v7, .ref mn, .ref mp, .ref mo, .int 0, .int 0, .int 0, .int 0])), (ms, .inl (cI, 846, .inl (s0)))]) := by
  refine MetI.mk (lv := [(0, .ref mo_)]) (by decide +kernel) (Nat.le_of_ble_eq_true rfl) rfl ?_
  intro p e s m below meth c A ls C0 hP hD hS hX hl
  have C1 := C0
  obtain ⟨hx, hb, hr, hml, hown, hlocks, hname, hT, hN, hK, hA⟩ := C1
  refine lv_iconst (v := 1) hx hb dX6_days_0 (by decide) ?_
  refine lv_iconst (v := 3) hx hb dX6_days_1 (by decide) ?_
  refine lv_aload_n hx hb dX6_days_2 rfl (lv_at hl 0 rfl) ?_
  refine va_get (ci := 6) (v := .ref ms) (C := RX6) (T := TX6) (N := 28) hx hb hT wu_X6 hown hK hP 0 rfl rfl 1 (by decide) (hT _ wf_X6_7) (fun _ h9 => h9) rfl dX6_days_3 ?_
  refine lv_iconst (v := 0) hx hb dX6_days_6 (by decide) ?_
  refine va_iald hx hb hK hP 1 0 rfl rfl (vin _ _ (by decide +kernel)) dX6_days_7 ?_
  refine lv_ci 0 (by decide +kernel) ?_
  refine lv_imul hx hb dX6_days_8 ?_
  refine lv_ci 0 (by decide +kernel) ?_
  refine lv_ishl hx hb dX6_days_9 ?_
  refine lv_ci 1 (by decide +kernel) ?_
  exact retI C0 rfl () rfl (hP.sub (ws' := [(mo_, .inr (6, [.int 0, .ref ms, .ref mi, .int 0, .int 0, .int 0, .int 0, .int 0, .int 0, .ref mb, .ref mt, .ref ml, .ref mx, .int v1, .int v2, .int v3, .int v4, .int v5, .int v6, .ref mc, .int v7, .ref mn, .ref mp, .ref mo, .int 0, .int 0, .int 0, .int 0])), (ms, .inl (cI, 846, .inl (s0)))]) [0, 1] rfl) (hD.sub (ws' := [(mo_, .inr (6, [.int 0, .ref ms, .ref mi, .int 0, .int 0, .int 0, .int 0, .int 0, .int 0, .ref mb, .ref mt, .ref ml, .ref mx, .int v1, .int v2, .int v3, .int v4, .int v5, .int v6, .ref mc, .int v7, .ref mn, .ref mp, .ref mo, .int 0, .int 0, .int 0, .int 0])), (ms, .inl (cI, 846, .inl (s0)))]) [0, 1] (by decide) rfl) hS (Nat.le_of_ble_eq_true rfl) (Nat.le_of_ble_eq_true rfl) dX6_days_10

set_option maxHeartbeats 4000000 in
set_option maxRecDepth 100000 in
theorem mc_inday (l : Launch) (D : va_G) (cI cZ cQ cT : ClassId) (sz : Nat) (x : Int32)  : MetI l yX6_in cX6_in 3 .boolean ({ frames := 0, cells := 0, slots := 0, locals := 0 } : Room) [.int x, .int 0, .int 0] D (TYS cI cZ cQ cT) EF sz [] (S := Unit) (fun (r : Int32) (_ : Unit) => r = (if (x = 0) then 1 else 0)) (fun _ => []) := by
  refine MetI.mk (lv := [(0, .int x), (1, .int 0), (2, .int 0)]) (by decide +kernel) (Nat.le_of_ble_eq_true rfl) rfl ?_
  intro p e s m below meth c A ls C0 hP hD hS hX hl
  have C1 := C0
  obtain ⟨hx, hb, hr, hml, hown, hlocks, hname, hT, hN, hK, hA⟩ := C1
  refine lv_iload_n hx hb dX6_in_0 rfl (lv_at hl 0 rfl) ?_
  refine lv_iload_n hx hb dX6_in_1 rfl (lv_at hl 1 rfl) ?_
  refine lv_icmp_lt (tgt := 14) hx hb dX6_in_2 (by decide) (fun c_1 => ?_) (fun c_1 => ?_)
  · refine lv_iconst (v := 0) hx hb dX6_in_14 (by decide) ?_
    exact retI C0 rfl () ((if_neg (by have h_0 := c_1; have z0 : (0 : Int32).toInt = 0 := (by decide); simp only [le_i, lt_i, eq_i] at h_0 ⊢; omega : ¬ x = (0 : Int32))).symm) (hP.sub (ws' := []) [] rfl) (hD.sub (ws' := []) [] (by decide) rfl) hS (Nat.le_of_ble_eq_true rfl) (Nat.le_of_ble_eq_true rfl) dX6_in_15
  · refine lv_iload_n hx hb dX6_in_5 rfl (lv_at hl 0 rfl) ?_
    refine lv_iload_n hx hb dX6_in_6 rfl (lv_at hl 2 rfl) ?_
    refine lv_icmp_gt (tgt := 14) hx hb dX6_in_7 (by decide) (fun c_2 => ?_) (fun c_2 => ?_)
    · refine lv_iconst (v := 0) hx hb dX6_in_14 (by decide) ?_
      exact retI C0 rfl () ((if_neg (by have h_0 := c_1; have h_1 := c_2; have z0 : (0 : Int32).toInt = 0 := (by decide); simp only [le_i, lt_i, eq_i] at h_0 h_1 ⊢; omega : ¬ x = (0 : Int32))).symm) (hP.sub (ws' := []) [] rfl) (hD.sub (ws' := []) [] (by decide) rfl) hS (Nat.le_of_ble_eq_true rfl) (Nat.le_of_ble_eq_true rfl) dX6_in_15
    · refine lv_iconst (v := 1) hx hb dX6_in_10 (by decide) ?_
      refine lv_goto (tgt := 15) hx hb dX6_in_11 (by decide) ?_
      exact retI C0 rfl () ((if_pos (by have h_0 := c_1; have h_1 := c_2; have z0 : (0 : Int32).toInt = 0 := (by decide); simp only [le_i, lt_i, eq_i] at h_0 h_1 ⊢; omega : x = (0 : Int32))).symm) (hP.sub (ws' := []) [] rfl) (hD.sub (ws' := []) [] (by decide) rfl) hS (Nat.le_of_ble_eq_true rfl) (Nat.le_of_ble_eq_true rfl) dX6_in_15

set_option maxHeartbeats 4000000 in
set_option maxRecDepth 100000 in
theorem m_isDay (l : Launch) (D : va_G) (cI cZ cQ cT : ClassId) (sz : Nat) (mo_ : Nat) (x : Int32) (ms : Nat) (mi : Nat) (mb : Nat) (mt : Nat) (ml : Nat) (mx : Nat) (v1 : Int32) (v2 : Int32) (v3 : Int32) (v4 : Int32) (v5 : Int32) (v6 : Int32) (mc : Nat) (v7 : Int32) (mn : Nat) (mp : Nat) (mo : Nat)  : MetI l yX6_isDay cX6_isDay 2 .boolean ({ frames := 1, cells := 0, slots := 0, locals := 22 } : Room) [.ref mo_, .int x] D (TYS cI cZ cQ cT) EF sz [(mo_, .inr (6, [.int 0, .ref ms, .ref mi, .int 0, .int 0, .int 0, .int 0, .int 0, .int 0, .ref mb, .ref mt, .ref ml, .ref mx, .int v1, .int v2, .int v3, .int v4, .int v5, .int v6, .ref mc, .int v7, .ref mn, .ref mp, .ref mo, .int 0, .int 0, .int 0, .int 0])), (ms, .inl (cI, 846, .inl (s0)))] (S := Unit) (fun (r : Int32) (_ : Unit) => r = (if (x = 0) then 1 else 0)) (fun _ => [(mo_, .inr (6, [.int 0, .ref ms, .ref mi, .int 0, .int 0, .int 0, .int 0, .int 0, .int 0, .ref mb, .ref mt, .ref ml, .ref mx, .int v1, .int v2, .int v3, .int v4, .int v5, .int v6, .ref mc, .int v7, .ref mn, .ref mp, .ref mo, .int 0, .int 0, .int 0, .int 0])), (ms, .inl (cI, 846, .inl (s0)))]) := by
  refine MetI.mk (lv := [(0, .ref mo_), (1, .int x)]) (by decide +kernel) (Nat.le_of_ble_eq_true rfl) rfl ?_
  intro p e s m below meth c A ls C0 hP hD hS hX hl
  have C1 := C0
  obtain ⟨hx, hb, hr, hml, hown, hlocks, hname, hT, hN, hK, hA⟩ := C1
  refine lv_iload_n hx hb dX6_isDay_0 rfl (lv_at hl 1 rfl) ?_
  refine lv_iconst (v := 0) hx hb dX6_isDay_1 (by decide) ?_
  refine lv_aload_n hx hb dX6_isDay_2 rfl (lv_at hl 0 rfl) ?_
  refine contI (wc := [(mo_, .inr (6, [.int 0, .ref ms, .ref mi, .int 0, .int 0, .int 0, .int 0, .int 0, .int 0, .ref mb, .ref mt, .ref ml, .ref mx, .int v1, .int v2, .int v3, .int v4, .int v5, .int v6, .ref mc, .int v7, .ref mn, .ref mp, .ref mo, .int 0, .int 0, .int 0, .int 0])), (ms, .inl (cI, 846, .inl (s0)))]) (wr := []) C0 hP hD hS [0, 1] [] rfl rfl (by decide) (by decide) 0 0 (Nat.le_of_ble_eq_true rfl) (Nat.le_of_ble_eq_true rfl) (runV (k := 0) (As := []) (rest := [.int 0, .int x]) C0 (m_days l D cI cZ cQ cT _ mo_ ms mi mb mt ml mx v1 v2 v3 v4 v5 v6 mc v7 mn mp mo) wc_X6_days wl_X6_49 wi_X6_days we_X6_days wz_X6 ⟨by decide, by decide, by decide +kernel⟩ ⟨(Nat.le_of_ble_eq_true rfl), (Nat.le_of_ble_eq_true rfl)⟩ hP hD hS EF.ok hX [0, 1] rfl (by decide) 0 rfl rfl rfl rfl hl.1 rfl (Nat.le_of_ble_eq_true rfl) dX6_isDay_3 ⟨(Nat.le_of_ble_eq_true rfl), (Nat.le_of_ble_eq_true rfl)⟩) (fun r_3 u_1 H locs w_2 hP hD hS => ?_)
  have hP : va_P D CL [(mo_, .inr (6, [.int 0, .ref ms, .ref mi, .int 0, .int 0, .int 0, .int 0, .int 0, .int 0, .ref mb, .ref mt, .ref ml, .ref mx, .int v1, .int v2, .int v3, .int v4, .int v5, .int v6, .ref mc, .int v7, .ref mn, .ref mp, .ref mo, .int 0, .int 0, .int 0, .int 0])), (ms, .inl (cI, 846, .inl (s0)))] H := hP
  have hD : va_D A [(mo_, .inr (6, [.int 0, .ref ms, .ref mi, .int 0, .int 0, .int 0, .int 0, .int 0, .int 0, .ref mb, .ref mt, .ref ml, .ref mx, .int v1, .int v2, .int v3, .int v4, .int v5, .int v6, .ref mc, .int v7, .ref mn, .ref mp, .ref mo, .int 0, .int 0, .int 0, .int 0])), (ms, .inl (cI, 846, .inl (s0)))] := hD
  obtain rfl : r_3 = 1 := w_2
  refine lv_iconst (v := 1) hx hb dX6_isDay_6 (by decide) ?_
  refine lv_isub hx hb dX6_isDay_7 ?_
  refine lv_ci 0 (by decide +kernel) ?_
  refine contI (wc := []) (wr := [(mo_, .inr (6, [.int 0, .ref ms, .ref mi, .int 0, .int 0, .int 0, .int 0, .int 0, .int 0, .ref mb, .ref mt, .ref ml, .ref mx, .int v1, .int v2, .int v3, .int v4, .int v5, .int v6, .ref mc, .int v7, .ref mn, .ref mp, .ref mo, .int 0, .int 0, .int 0, .int 0])), (ms, .inl (cI, 846, .inl (s0)))]) C0 hP hD hS [] [0, 1] rfl rfl (by decide) (by decide) 0 0 (Nat.le_of_ble_eq_true rfl) (Nat.le_of_ble_eq_true rfl) (runS (k := 3) (As := [.int x, .int 0, .int 0]) (rest := []) C0 (mc_inday l D cI cZ cQ cT _ x) wc_X6_in wl_X6_45 wt_X6_in wz_X6 ⟨by decide, by decide, by decide +kernel⟩ ⟨(Nat.le_of_ble_eq_true rfl), (Nat.le_of_ble_eq_true rfl)⟩ hP hD hS EF.ok hX [] rfl (by decide) rfl hl.1 rfl (Nat.le_of_ble_eq_true rfl) dX6_isDay_8 ⟨(Nat.le_of_ble_eq_true rfl), (Nat.le_of_ble_eq_true rfl)⟩) (fun r_6 u_4 H locs w_5 hP hD hS => ?_)
  have hP : va_P D CL [(mo_, .inr (6, [.int 0, .ref ms, .ref mi, .int 0, .int 0, .int 0, .int 0, .int 0, .int 0, .ref mb, .ref mt, .ref ml, .ref mx, .int v1, .int v2, .int v3, .int v4, .int v5, .int v6, .ref mc, .int v7, .ref mn, .ref mp, .ref mo, .int 0, .int 0, .int 0, .int 0])), (ms, .inl (cI, 846, .inl (s0)))] H := hP
  have hD : va_D A [(mo_, .inr (6, [.int 0, .ref ms, .ref mi, .int 0, .int 0, .int 0, .int 0, .int 0, .int 0, .ref mb, .ref mt, .ref ml, .ref mx, .int v1, .int v2, .int v3, .int v4, .int v5, .int v6, .ref mc, .int v7, .ref mn, .ref mp, .ref mo, .int 0, .int 0, .int 0, .int 0])), (ms, .inl (cI, 846, .inl (s0)))] := hD
  refine (Decidable.em ((x = 0))).elim (fun c_7 => ?_) (fun c_7 => ?_)
  · obtain rfl : r_6 = 1 := w_5.trans (if_pos c_7)
    subst c_7
    exact retI C0 rfl () (((if_pos rfl)).symm) (hP.sub (ws' := [(mo_, .inr (6, [.int 0, .ref ms, .ref mi, .int 0, .int 0, .int 0, .int 0, .int 0, .int 0, .ref mb, .ref mt, .ref ml, .ref mx, .int v1, .int v2, .int v3, .int v4, .int v5, .int v6, .ref mc, .int v7, .ref mn, .ref mp, .ref mo, .int 0, .int 0, .int 0, .int 0])), (ms, .inl (cI, 846, .inl (s0)))]) [0, 1] rfl) (hD.sub (ws' := [(mo_, .inr (6, [.int 0, .ref ms, .ref mi, .int 0, .int 0, .int 0, .int 0, .int 0, .int 0, .ref mb, .ref mt, .ref ml, .ref mx, .int v1, .int v2, .int v3, .int v4, .int v5, .int v6, .ref mc, .int v7, .ref mn, .ref mp, .ref mo, .int 0, .int 0, .int 0, .int 0])), (ms, .inl (cI, 846, .inl (s0)))]) [0, 1] (by decide) rfl) hS (Nat.le_of_ble_eq_true rfl) (Nat.le_of_ble_eq_true rfl) dX6_isDay_11
  · obtain rfl : r_6 = 0 := w_5.trans (if_neg c_7)
    exact retI C0 rfl () (((if_neg c_7)).symm) (hP.sub (ws' := [(mo_, .inr (6, [.int 0, .ref ms, .ref mi, .int 0, .int 0, .int 0, .int 0, .int 0, .int 0, .ref mb, .ref mt, .ref ml, .ref mx, .int v1, .int v2, .int v3, .int v4, .int v5, .int v6, .ref mc, .int v7, .ref mn, .ref mp, .ref mo, .int 0, .int 0, .int 0, .int 0])), (ms, .inl (cI, 846, .inl (s0)))]) [0, 1] rfl) (hD.sub (ws' := [(mo_, .inr (6, [.int 0, .ref ms, .ref mi, .int 0, .int 0, .int 0, .int 0, .int 0, .int 0, .ref mb, .ref mt, .ref ml, .ref mx, .int v1, .int v2, .int v3, .int v4, .int v5, .int v6, .ref mc, .int v7, .ref mn, .ref mp, .ref mo, .int 0, .int 0, .int 0, .int 0])), (ms, .inl (cI, 846, .inl (s0)))]) [0, 1] (by decide) rfl) hS (Nat.le_of_ble_eq_true rfl) (Nat.le_of_ble_eq_true rfl) dX6_isDay_11

set_option maxHeartbeats 4000000 in
set_option maxRecDepth 100000 in
theorem m_yesterday (l : Launch) (D : va_G) (cI cZ cQ cT : ClassId) (sz : Nat) (mo_ : Nat) (p1 : Int32) (ms : Nat) (mi : Nat) (mb : Nat) (mt : Nat) (ml : Nat) (mx : Nat) (mc : Nat) (mn : Nat) (mp : Nat) (mo : Nat)  : MetI l yX6_yesterday cX6_yesterday 3 .int ({ frames := 2, cells := 0, slots := 0, locals := 43 } : Room) [.ref mo_, .int p1] D (TYS cI cZ cQ cT) EF sz [(mo_, .inr (6, [.int 0, .ref ms, .ref mi, .int 0, .int 0, .int 0, .int 0, .int 0, .int 0, .ref mb, .ref mt, .ref ml, .ref mx, .int 0, .int 0, .int 0, .int 0, .int 0, .int 0, .ref mc, .int 0, .ref mn, .ref mp, .ref mo, .int 0, .int 0, .int 0, .int 0])), (ms, .inl (cI, 846, .inl (s0)))] (S := Unit) (fun (r : Int32) (_ : Unit) => r = (if (p1 = 0) then 0 else (-2))) (fun _ => []) := by
  refine MetI.mk (lv := [(0, .ref mo_), (1, .int p1)]) (by decide +kernel) (Nat.le_of_ble_eq_true rfl) rfl ?_
  intro p e s m below meth c A ls C0 hP hD hS hX hl
  have C1 := C0
  obtain ⟨hx, hb, hr, hml, hown, hlocks, hname, hT, hN, hK, hA⟩ := C1
  refine lv_aload_n hx hb dX6_yesterday_0 rfl (lv_at hl 0 rfl) ?_
  refine lv_iload_n hx hb dX6_yesterday_1 rfl (lv_at hl 1 rfl) ?_
  refine contI (wc := [(mo_, .inr (6, [.int 0, .ref ms, .ref mi, .int 0, .int 0, .int 0, .int 0, .int 0, .int 0, .ref mb, .ref mt, .ref ml, .ref mx, .int 0, .int 0, .int 0, .int 0, .int 0, .int 0, .ref mc, .int 0, .ref mn, .ref mp, .ref mo, .int 0, .int 0, .int 0, .int 0])), (ms, .inl (cI, 846, .inl (s0)))]) (wr := []) C0 hP hD hS [0, 1] [] rfl rfl (by decide) (by decide) 0 0 (Nat.le_of_ble_eq_true rfl) (Nat.le_of_ble_eq_true rfl) (runV (k := 1) (As := [.int p1]) (rest := []) C0 (m_isDay l D cI cZ cQ cT _ mo_ p1 ms mi mb mt ml mx 0 0 0 0 0 0 mc 0 mn mp mo) wc_X6_isDay wl_X6_156 wi_X6_isDay we_X6_isDay wz_X6 ⟨by decide, by decide, by decide +kernel⟩ ⟨(Nat.le_of_ble_eq_true rfl), (Nat.le_of_ble_eq_true rfl)⟩ hP hD hS EF.ok hX [0, 1] rfl (by decide) 0 rfl rfl rfl rfl hl.1 rfl (Nat.le_of_ble_eq_true rfl) dX6_yesterday_2 ⟨(Nat.le_of_ble_eq_true rfl), (Nat.le_of_ble_eq_true rfl)⟩) (fun r_3 u_1 H locs w_2 hP hD hS => ?_)
  have hP : va_P D CL [(mo_, .inr (6, [.int 0, .ref ms, .ref mi, .int 0, .int 0, .int 0, .int 0, .int 0, .int 0, .ref mb, .ref mt, .ref ml, .ref mx, .int 0, .int 0, .int 0, .int 0, .int 0, .int 0, .ref mc, .int 0, .ref mn, .ref mp, .ref mo, .int 0, .int 0, .int 0, .int 0])), (ms, .inl (cI, 846, .inl (s0)))] H := hP
  have hD : va_D A [(mo_, .inr (6, [.int 0, .ref ms, .ref mi, .int 0, .int 0, .int 0, .int 0, .int 0, .int 0, .ref mb, .ref mt, .ref ml, .ref mx, .int 0, .int 0, .int 0, .int 0, .int 0, .int 0, .ref mc, .int 0, .ref mn, .ref mp, .ref mo, .int 0, .int 0, .int 0, .int 0])), (ms, .inl (cI, 846, .inl (s0)))] := hD
  refine (Decidable.em ((p1 = 0))).elim (fun c_4 => ?_) (fun c_4 => ?_)
  · obtain rfl : r_3 = 1 := w_2.trans (if_pos c_4)
    subst c_4
    refine lv_if_ne (tgt := 11) hx hb dX6_yesterday_5 (by decide) (fun _ => ?_) (fun c_0 => absurd c_0 (by decide))
    refine lv_aload_n hx hb dX6_yesterday_11 rfl (lv_at hl 0 rfl) ?_
    refine va_get (ci := 6) (v := .ref ms) (C := RX6) (T := TX6) (N := 28) hx hb hT wu_X6 hown hK hP 0 rfl rfl 1 (by decide) (hT _ wf_X6_7) (fun _ h9 => h9) rfl dX6_yesterday_12 ?_
    refine lv_iconst (v := 5) hx hb dX6_yesterday_15 (by decide) ?_
    refine va_iald hx hb hK hP 1 0 rfl rfl (vin _ _ (by decide +kernel)) dX6_yesterday_16 ?_
    refine lv_ci 0 (by decide +kernel) ?_
    refine lv_istore_n (lv' := [(2, .int 0), (0, .ref mo_), (1, .int 0)]) hx hb dX6_yesterday_17 rfl hl (by decide) rfl (fun ls hl => ?_)
    refine lv_aload_n hx hb dX6_yesterday_18 rfl (lv_at hl 1 rfl) ?_
    refine va_get (ci := 6) (v := .ref ms) (C := RX6) (T := TX6) (N := 28) hx hb hT wu_X6 hown hK hP 0 rfl rfl 1 (by decide) (hT _ wf_X6_7) (fun _ h9 => h9) rfl dX6_yesterday_19 ?_
    refine lv_iconst (v := 5) hx hb dX6_yesterday_22 (by decide) ?_
    refine lv_iload_n hx hb dX6_yesterday_23 rfl (lv_at hl 2 rfl) ?_
    refine va_iast hx hb hK hP hD hS 1 0 rfl rfl (vin _ _ (by decide +kernel)) dX6_yesterday_24 (fun H locs hP hD hS => ?_)
    have hP : va_P D CL [(mo_, .inr (6, [.int 0, .ref ms, .ref mi, .int 0, .int 0, .int 0, .int 0, .int 0, .int 0, .ref mb, .ref mt, .ref ml, .ref mx, .int 0, .int 0, .int 0, .int 0, .int 0, .int 0, .ref mc, .int 0, .ref mn, .ref mp, .ref mo, .int 0, .int 0, .int 0, .int 0])), (ms, .inl (cI, 846, .inl (upd (s0) ((5 : Int32)).toNatClampNeg 0)))] H := hP
    have hD : va_D A [(mo_, .inr (6, [.int 0, .ref ms, .ref mi, .int 0, .int 0, .int 0, .int 0, .int 0, .int 0, .ref mb, .ref mt, .ref ml, .ref mx, .int 0, .int 0, .int 0, .int 0, .int 0, .int 0, .ref mc, .int 0, .ref mn, .ref mp, .ref mo, .int 0, .int 0, .int 0, .int 0])), (ms, .inl (cI, 846, .inl (upd (s0) ((5 : Int32)).toNatClampNeg 0)))] := hD
    rw [upd_id (f := (s0)) (by decide +kernel)] at hP hD
    have hP : va_P D CL [(mo_, .inr (6, [.int 0, .ref ms, .ref mi, .int 0, .int 0, .int 0, .int 0, .int 0, .int 0, .ref mb, .ref mt, .ref ml, .ref mx, .int 0, .int 0, .int 0, .int 0, .int 0, .int 0, .ref mc, .int 0, .ref mn, .ref mp, .ref mo, .int 0, .int 0, .int 0, .int 0])), (ms, .inl (cI, 846, .inl (s0)))] H := hP
    have hD : va_D A [(mo_, .inr (6, [.int 0, .ref ms, .ref mi, .int 0, .int 0, .int 0, .int 0, .int 0, .int 0, .ref mb, .ref mt, .ref ml, .ref mx, .int 0, .int 0, .int 0, .int 0, .int 0, .int 0, .ref mc, .int 0, .ref mn, .ref mp, .ref mo, .int 0, .int 0, .int 0, .int 0])), (ms, .inl (cI, 846, .inl (s0)))] := hD
    refine lv_iload_n hx hb dX6_yesterday_25 rfl (lv_at hl 0 rfl) ?_
    exact retI C0 rfl () (((if_pos rfl)).symm) (hP.sub (ws' := []) [] rfl) (hD.sub (ws' := []) [] (by decide) rfl) hS (Nat.le_of_ble_eq_true rfl) (Nat.le_of_ble_eq_true rfl) dX6_yesterday_26
  · obtain rfl : r_3 = 0 := w_2.trans (if_neg c_4)
    refine lv_if_ne (tgt := 11) hx hb dX6_yesterday_5 (by decide) (fun c_0 => absurd (by decide) c_0) (fun _ => ?_)
    refine lv_bipush (v := (-2)) hx hb dX6_yesterday_8 (by decide) ?_
    exact retI C0 rfl () (((if_neg c_4)).symm) (hP.sub (ws' := []) [] rfl) (hD.sub (ws' := []) [] (by decide) rfl) hS (Nat.le_of_ble_eq_true rfl) (Nat.le_of_ble_eq_true rfl) dX6_yesterday_10

set_option maxHeartbeats 4000000 in
set_option maxRecDepth 100000 in
theorem m_by (l : Launch) (D : va_G) (cI cZ cQ cT : ClassId) (sz : Nat) (mo_ : Nat) (p1 : Int32) (p2 : Int32) (p3 : Int32) (p4 : Int32) (ms : Nat) (mi : Nat) (mb : Nat) (mt : Nat) (ml : Nat) (mx : Nat) (mc : Nat) (mn : Nat) (mp : Nat) (mo : Nat)  : MetI l yX6_by cX6_by 5 .int ({ frames := 2, cells := 0, slots := 0, locals := 43 } : Room) [.ref mo_, .int p1, .int p2, .int p3, .int p4] D (TYS cI cZ cQ cT) EF sz [(mo_, .inr (6, [.int 0, .ref ms, .ref mi, .int 0, .int 0, .int 0, .int 0, .int 0, .int 0, .ref mb, .ref mt, .ref ml, .ref mx, .int 0, .int 0, .int 0, .int 0, .int 0, .int 0, .ref mc, .int 0, .ref mn, .ref mp, .ref mo, .int 0, .int 0, .int 0, .int 0])), (ms, .inl (cI, 846, .inl (s0)))] (S := Unit) (fun (r : Int32) (_ : Unit) => r = (-10001)) (fun _ => []) := by
  refine MetI.mk (lv := [(0, .ref mo_), (1, .int p1), (2, .int p2), (3, .int p3), (4, .int p4)]) (by decide +kernel) (Nat.le_of_ble_eq_true rfl) rfl ?_
  intro p e s m below meth c A ls C0 hP hD hS hX hl
  have C1 := C0
  obtain ⟨hx, hb, hr, hml, hown, hlocks, hname, hT, hN, hK, hA⟩ := C1
  refine lv_aload_n hx hb dX6_by_0 rfl (lv_at hl 0 rfl) ?_
  refine lv_iload_n hx hb dX6_by_1 rfl (lv_at hl 2 rfl) ?_
  refine contI (wc := [(mo_, .inr (6, [.int 0, .ref ms, .ref mi, .int 0, .int 0, .int 0, .int 0, .int 0, .int 0, .ref mb, .ref mt, .ref ml, .ref mx, .int 0, .int 0, .int 0, .int 0, .int 0, .int 0, .ref mc, .int 0, .ref mn, .ref mp, .ref mo, .int 0, .int 0, .int 0, .int 0])), (ms, .inl (cI, 846, .inl (s0)))]) (wr := []) C0 hP hD hS [0, 1] [] rfl rfl (by decide) (by decide) 0 0 (Nat.le_of_ble_eq_true rfl) (Nat.le_of_ble_eq_true rfl) (runV (k := 1) (As := [.int p2]) (rest := []) C0 (m_isPerson l D cI cZ cQ cT _ mo_ p2 ms mi mb mt ml mx 0 0 0 0 0 0 mc 0 mn mp mo) wc_X6_isPerson wl_X6_152 wi_X6_isPerson we_X6_isPerson wz_X6 ⟨by decide, by decide, by decide +kernel⟩ ⟨(Nat.le_of_ble_eq_true rfl), (Nat.le_of_ble_eq_true rfl)⟩ hP hD hS EF.ok hX [0, 1] rfl (by decide) 0 rfl rfl rfl rfl hl.1 rfl (Nat.le_of_ble_eq_true rfl) dX6_by_2 ⟨(Nat.le_of_ble_eq_true rfl), (Nat.le_of_ble_eq_true rfl)⟩) (fun r_3 u_1 H locs w_2 hP hD hS => ?_)
  have hP : va_P D CL [(mo_, .inr (6, [.int 0, .ref ms, .ref mi, .int 0, .int 0, .int 0, .int 0, .int 0, .int 0, .ref mb, .ref mt, .ref ml, .ref mx, .int 0, .int 0, .int 0, .int 0, .int 0, .int 0, .ref mc, .int 0, .ref mn, .ref mp, .ref mo, .int 0, .int 0, .int 0, .int 0])), (ms, .inl (cI, 846, .inl (s0)))] H := hP
  have hD : va_D A [(mo_, .inr (6, [.int 0, .ref ms, .ref mi, .int 0, .int 0, .int 0, .int 0, .int 0, .int 0, .ref mb, .ref mt, .ref ml, .ref mx, .int 0, .int 0, .int 0, .int 0, .int 0, .int 0, .ref mc, .int 0, .ref mn, .ref mp, .ref mo, .int 0, .int 0, .int 0, .int 0])), (ms, .inl (cI, 846, .inl (s0)))] := hD
  obtain rfl : r_3 = 0 := w_2
  refine lv_if_eq (tgt := 25) hx hb dX6_by_5 (by decide) (fun _ => ?_) (fun c_0 => absurd (by decide) c_0)
  refine lv_sipush (v := (-10001)) hx hb dX6_by_25 (by decide) ?_
  exact retI C0 rfl () rfl (hP.sub (ws' := []) [] rfl) (hD.sub (ws' := []) [] (by decide) rfl) hS (Nat.le_of_ble_eq_true rfl) (Nat.le_of_ble_eq_true rfl) dX6_by_28

set_option maxHeartbeats 4000000 in
set_option maxRecDepth 100000 in
theorem m_looks (l : Launch) (D : va_G) (cI cZ cQ cT : ClassId) (sz : Nat) (mo_ : Nat) (ms : Nat) (mi : Nat) (mb : Nat) (mt : Nat) (ml : Nat) (mx : Nat) (v1 : Int32) (v2 : Int32) (v3 : Int32) (v4 : Int32) (v5 : Int32) (v6 : Int32) (mc : Nat) (v7 : Int32) (mn : Nat) (mp : Nat) (mo : Nat)  : MetV l yX6_looks cX6_looks 2 ({ frames := 0, cells := 0, slots := 0, locals := 0 } : Room) [.ref mo_] D (TYS cI cZ cQ cT) EF sz [(mo_, .inr (6, [.int 0, .ref ms, .ref mi, .int 0, .int 0, .int 0, .int 0, .int 0, .int 0, .ref mb, .ref mt, .ref ml, .ref mx, .int v1, .int v2, .int v3, .int v4, .int v5, .int v6, .ref mc, .int v7, .ref mn, .ref mp, .ref mo, .int 0, .int 0, .int 0, .int 0])), (ms, .inl (cI, 846, .inl (s0)))] (S := Int32) (fun (_ : Int32) => True) (fun u => [(mo_, .inr (6, [.int 0, .ref ms, .ref mi, .int 0, .int 0, .int 0, .int 0, .int 0, .int 0, .ref mb, .ref mt, .ref ml, .ref mx, .int u, .int v2, .int v3, .int v4, .int v5, .int v6, .ref mc, .int v7, .ref mn, .ref mp, .ref mo, .int 0, .int 0, .int 0, .int 0])), (ms, .inl (cI, 846, .inl (s0)))]) := by
  refine MetV.mk (lv := [(0, .ref mo_)]) (by decide +kernel) (Nat.le_of_ble_eq_true rfl) rfl ?_
  intro p e s m below meth c A ls C0 hP hD hS hX hl
  have C1 := C0
  obtain ⟨hx, hb, hr, hml, hown, hlocks, hname, hT, hN, hK, hA⟩ := C1
  refine lv_aload_n hx hb dX6_looks_0 rfl (lv_at hl 0 rfl) ?_
  refine lv_dup hx hb dX6_looks_1 rfl ?_
  refine va_get (ci := 6) (v := .int v1) (C := RX6) (T := TX6) (N := 28) hx hb hT wu_X6 hown hK hP 0 rfl rfl 13 (by decide) (hT _ wf_X6_132) (fun _ h9 => h9) rfl dX6_looks_2 ?_
  refine lv_iconst (v := 1) hx hb dX6_looks_5 (by decide) ?_
  refine lv_iadd hx hb dX6_looks_6 ?_
  refine va_put (ci := 6) (v := .int (v1 + (1 : Int32))) (ty := .int) (C := RX6) (T := TX6) (N := 28) hx hb hT wu_X6 tyX6 tyX6_ok nmX6 hown hK hP hD hS 0 rfl rfl 13 (by decide) (hT _ wf_X6_132) (fun _ h9 => h9) rfl (by decide +kernel) rfl rfl (Nat.le_of_ble_eq_true rfl) dX6_looks_7 (fun H locs hP hD hS => ?_)
  have hP : va_P D CL [(mo_, .inr (6, [.int 0, .ref ms, .ref mi, .int 0, .int 0, .int 0, .int 0, .int 0, .int 0, .ref mb, .ref mt, .ref ml, .ref mx, .int (v1 + (1 : Int32)), .int v2, .int v3, .int v4, .int v5, .int v6, .ref mc, .int v7, .ref mn, .ref mp, .ref mo, .int 0, .int 0, .int 0, .int 0])), (ms, .inl (cI, 846, .inl (s0)))] H := hP
  have hD : va_D A [(mo_, .inr (6, [.int 0, .ref ms, .ref mi, .int 0, .int 0, .int 0, .int 0, .int 0, .int 0, .ref mb, .ref mt, .ref ml, .ref mx, .int (v1 + (1 : Int32)), .int v2, .int v3, .int v4, .int v5, .int v6, .ref mc, .int v7, .ref mn, .ref mp, .ref mo, .int 0, .int 0, .int 0, .int 0])), (ms, .inl (cI, 846, .inl (s0)))] := hD
  refine lv_iconst (v := 0) hx hb dX6_looks_10 (by decide) ?_
  refine lv_istore_n (lv' := [(1, .int 0), (0, .ref mo_)]) hx hb dX6_looks_11 rfl hl (by decide) rfl (fun ls hl => ?_)
  refine lv_iload_n hx hb dX6_looks_12 rfl (lv_at hl 0 rfl) ?_
  refine lv_aload_n hx hb dX6_looks_13 rfl (lv_at hl 1 rfl) ?_
  refine va_get (ci := 6) (v := .ref ms) (C := RX6) (T := TX6) (N := 28) hx hb hT wu_X6 hown hK hP 0 rfl rfl 1 (by decide) (hT _ wf_X6_7) (fun _ h9 => h9) rfl dX6_looks_14 ?_
  refine lv_iconst (v := 0) hx hb dX6_looks_17 (by decide) ?_
  refine va_iald hx hb hK hP 1 0 rfl rfl (vin _ _ (by decide +kernel)) dX6_looks_18 ?_
  refine lv_ci 0 (by decide +kernel) ?_
  refine lv_icmp_ge (tgt := 33) hx hb dX6_looks_19 (by decide) (fun _ => ?_) (fun c_0 => absurd (by decide) c_0)
  exact retV C0 ((v1 + (1 : Int32))) trivial (hP.sub (ws' := [(mo_, .inr (6, [.int 0, .ref ms, .ref mi, .int 0, .int 0, .int 0, .int 0, .int 0, .int 0, .ref mb, .ref mt, .ref ml, .ref mx, .int (v1 + (1 : Int32)), .int v2, .int v3, .int v4, .int v5, .int v6, .ref mc, .int v7, .ref mn, .ref mp, .ref mo, .int 0, .int 0, .int 0, .int 0])), (ms, .inl (cI, 846, .inl (s0)))]) [0, 1] rfl) (hD.sub (ws' := [(mo_, .inr (6, [.int 0, .ref ms, .ref mi, .int 0, .int 0, .int 0, .int 0, .int 0, .int 0, .ref mb, .ref mt, .ref ml, .ref mx, .int (v1 + (1 : Int32)), .int v2, .int v3, .int v4, .int v5, .int v6, .ref mc, .int v7, .ref mn, .ref mp, .ref mo, .int 0, .int 0, .int 0, .int 0])), (ms, .inl (cI, 846, .inl (s0)))]) [0, 1] (by decide) rfl) hS (Nat.le_of_ble_eq_true rfl) (Nat.le_of_ble_eq_true rfl) dX6_looks_33

set_option maxHeartbeats 4000000 in
set_option maxRecDepth 100000 in
theorem m_gainOfAll (l : Launch) (D : va_G) (cI cZ cQ cT : ClassId) (sz : Nat) (mo_ : Nat) (x : Int32) (ms : Nat) (mi : Nat) (mb : Nat) (mt : Nat) (ml : Nat) (mx : Nat) (v1 : Int32) (v2 : Int32) (v3 : Int32) (v4 : Int32) (v5 : Int32) (v6 : Int32) (mc : Nat) (v7 : Int32) (mn : Nat) (mp : Nat) (mo : Nat)  : MetI l yX6_gainOfAll cX6_gainOfAll 4 .int ({ frames := 0, cells := 0, slots := 0, locals := 0 } : Room) [.ref mo_, .int x] D (TYS cI cZ cQ cT) EF sz [(mo_, .inr (6, [.int 0, .ref ms, .ref mi, .int 0, .int 0, .int 0, .int 0, .int 0, .int 0, .ref mb, .ref mt, .ref ml, .ref mx, .int v1, .int v2, .int v3, .int v4, .int v5, .int v6, .ref mc, .int v7, .ref mn, .ref mp, .ref mo, .int 0, .int 0, .int 0, .int 0])), (ms, .inl (cI, 846, .inl (s0)))] (S := Unit) (fun (r : Int32) (_ : Unit) => r = 0) (fun _ => [(mo_, .inr (6, [.int 0, .ref ms, .ref mi, .int 0, .int 0, .int 0, .int 0, .int 0, .int 0, .ref mb, .ref mt, .ref ml, .ref mx, .int v1, .int v2, .int v3, .int v4, .int v5, .int v6, .ref mc, .int v7, .ref mn, .ref mp, .ref mo, .int 0, .int 0, .int 0, .int 0])), (ms, .inl (cI, 846, .inl (s0)))]) := by
  refine MetI.mk (lv := [(0, .ref mo_), (1, .int x)]) (by decide +kernel) (Nat.le_of_ble_eq_true rfl) rfl ?_
  intro p e s m below meth c A ls C0 hP hD hS hX hl
  have C1 := C0
  obtain ⟨hx, hb, hr, hml, hown, hlocks, hname, hT, hN, hK, hA⟩ := C1
  refine lv_iconst (v := 0) hx hb dX6_gainOfAll_0 (by decide) ?_
  refine lv_istore_n (lv' := [(2, .int 0), (0, .ref mo_), (1, .int x)]) hx hb dX6_gainOfAll_1 rfl hl (by decide) rfl (fun ls hl => ?_)
  refine lv_iconst (v := 0) hx hb dX6_gainOfAll_2 (by decide) ?_
  refine lv_istore_n (lv' := [(3, .int 0), (2, .int 0), (0, .ref mo_), (1, .int x)]) hx hb dX6_gainOfAll_3 rfl hl (by decide) rfl (fun ls hl => ?_)
  refine lv_iload_n hx hb dX6_gainOfAll_4 rfl (lv_at hl 0 rfl) ?_
  refine lv_aload_n hx hb dX6_gainOfAll_5 rfl (lv_at hl 2 rfl) ?_
  refine va_get (ci := 6) (v := .ref ms) (C := RX6) (T := TX6) (N := 28) hx hb hT wu_X6 hown hK hP 0 rfl rfl 1 (by decide) (hT _ wf_X6_7) (fun _ h9 => h9) rfl dX6_gainOfAll_6 ?_
  refine lv_iconst (v := 0) hx hb dX6_gainOfAll_9 (by decide) ?_
  refine va_iald hx hb hK hP 1 0 rfl rfl (vin _ _ (by decide +kernel)) dX6_gainOfAll_10 ?_
  refine lv_ci 0 (by decide +kernel) ?_
  refine lv_icmp_ge (tgt := 29) hx hb dX6_gainOfAll_11 (by decide) (fun _ => ?_) (fun c_0 => absurd (by decide) c_0)
  refine lv_iload_n hx hb dX6_gainOfAll_29 rfl (lv_at hl 1 rfl) ?_
  exact retI C0 rfl () rfl (hP.sub (ws' := [(mo_, .inr (6, [.int 0, .ref ms, .ref mi, .int 0, .int 0, .int 0, .int 0, .int 0, .int 0, .ref mb, .ref mt, .ref ml, .ref mx, .int v1, .int v2, .int v3, .int v4, .int v5, .int v6, .ref mc, .int v7, .ref mn, .ref mp, .ref mo, .int 0, .int 0, .int 0, .int 0])), (ms, .inl (cI, 846, .inl (s0)))]) [0, 1] rfl) (hD.sub (ws' := [(mo_, .inr (6, [.int 0, .ref ms, .ref mi, .int 0, .int 0, .int 0, .int 0, .int 0, .int 0, .ref mb, .ref mt, .ref ml, .ref mx, .int v1, .int v2, .int v3, .int v4, .int v5, .int v6, .ref mc, .int v7, .ref mn, .ref mp, .ref mo, .int 0, .int 0, .int 0, .int 0])), (ms, .inl (cI, 846, .inl (s0)))]) [0, 1] (by decide) rfl) hS (Nat.le_of_ble_eq_true rfl) (Nat.le_of_ble_eq_true rfl) dX6_gainOfAll_30

set_option maxHeartbeats 4000000 in
set_option maxRecDepth 100000 in
theorem m_answerTo (l : Launch) (D : va_G) (cI cZ cQ cT : ClassId) (sz : Nat) (mo_ : Nat) (x : Int32) (ms : Nat) (mi : Nat) (mb : Nat) (mt : Nat) (ml : Nat) (mx : Nat) (v1 : Int32) (v2 : Int32) (v3 : Int32) (v4 : Int32) (v5 : Int32) (v6 : Int32) (mc : Nat) (v7 : Int32) (mn : Nat) (mp : Nat) (mo : Nat)  : MetI l yX6_answerTo cX6_answerTo 5 .int ({ frames := 0, cells := 0, slots := 0, locals := 0 } : Room) [.ref mo_, .int x] D (TYS cI cZ cQ cT) EF sz [(mo_, .inr (6, [.int 0, .ref ms, .ref mi, .int 0, .int 0, .int 0, .int 0, .int 0, .int 0, .ref mb, .ref mt, .ref ml, .ref mx, .int v1, .int v2, .int v3, .int v4, .int v5, .int v6, .ref mc, .int v7, .ref mn, .ref mp, .ref mo, .int 0, .int 0, .int 0, .int 0])), (ms, .inl (cI, 846, .inl (s0)))] (S := Unit) (fun (r : Int32) (_ : Unit) => r = 0) (fun _ => [(mo_, .inr (6, [.int 0, .ref ms, .ref mi, .int 0, .int 0, .int 0, .int 0, .int 0, .int 0, .ref mb, .ref mt, .ref ml, .ref mx, .int v1, .int v2, .int v3, .int v4, .int v5, .int v6, .ref mc, .int v7, .ref mn, .ref mp, .ref mo, .int 0, .int 0, .int 0, .int 0])), (ms, .inl (cI, 846, .inl (s0)))]) := by
  refine MetI.mk (lv := [(0, .ref mo_), (1, .int x)]) (by decide +kernel) (Nat.le_of_ble_eq_true rfl) rfl ?_
  intro p e s m below meth c A ls C0 hP hD hS hX hl
  have C1 := C0
  obtain ⟨hx, hb, hr, hml, hown, hlocks, hname, hT, hN, hK, hA⟩ := C1
  refine lv_iconst (v := 0) hx hb dX6_answerTo_0 (by decide) ?_
  refine lv_istore_n (lv' := [(2, .int 0), (0, .ref mo_), (1, .int x)]) hx hb dX6_answerTo_1 rfl hl (by decide) rfl (fun ls hl => ?_)
  refine lv_iconst (v := 0) hx hb dX6_answerTo_2 (by decide) ?_
  refine lv_istore_n (lv' := [(3, .int 0), (2, .int 0), (0, .ref mo_), (1, .int x)]) hx hb dX6_answerTo_3 rfl hl (by decide) rfl (fun ls hl => ?_)
  refine lv_iload_n hx hb dX6_answerTo_4 rfl (lv_at hl 0 rfl) ?_
  refine lv_aload_n hx hb dX6_answerTo_5 rfl (lv_at hl 2 rfl) ?_
  refine va_get (ci := 6) (v := .ref ms) (C := RX6) (T := TX6) (N := 28) hx hb hT wu_X6 hown hK hP 0 rfl rfl 1 (by decide) (hT _ wf_X6_7) (fun _ h9 => h9) rfl dX6_answerTo_6 ?_
  refine lv_iconst (v := 0) hx hb dX6_answerTo_9 (by decide) ?_
  refine va_iald hx hb hK hP 1 0 rfl rfl (vin _ _ (by decide +kernel)) dX6_answerTo_10 ?_
  refine lv_ci 0 (by decide +kernel) ?_
  refine lv_icmp_ge (tgt := 61) hx hb dX6_answerTo_11 (by decide) (fun _ => ?_) (fun c_0 => absurd (by decide) c_0)
  refine lv_iload_n hx hb dX6_answerTo_61 rfl (lv_at hl 1 rfl) ?_
  exact retI C0 rfl () rfl (hP.sub (ws' := [(mo_, .inr (6, [.int 0, .ref ms, .ref mi, .int 0, .int 0, .int 0, .int 0, .int 0, .int 0, .ref mb, .ref mt, .ref ml, .ref mx, .int v1, .int v2, .int v3, .int v4, .int v5, .int v6, .ref mc, .int v7, .ref mn, .ref mp, .ref mo, .int 0, .int 0, .int 0, .int 0])), (ms, .inl (cI, 846, .inl (s0)))]) [0, 1] rfl) (hD.sub (ws' := [(mo_, .inr (6, [.int 0, .ref ms, .ref mi, .int 0, .int 0, .int 0, .int 0, .int 0, .int 0, .ref mb, .ref mt, .ref ml, .ref mx, .int v1, .int v2, .int v3, .int v4, .int v5, .int v6, .ref mc, .int v7, .ref mn, .ref mp, .ref mo, .int 0, .int 0, .int 0, .int 0])), (ms, .inl (cI, 846, .inl (s0)))]) [0, 1] (by decide) rfl) hS (Nat.le_of_ble_eq_true rfl) (Nat.le_of_ble_eq_true rfl) dX6_answerTo_62

set_option maxHeartbeats 4000000 in
set_option maxRecDepth 100000 in
theorem m_firstOtherwise (l : Launch) (D : va_G) (cI cZ cQ cT : ClassId) (sz : Nat) (mo_ : Nat) (x : Int32) (ms : Nat) (mi : Nat) (mb : Nat) (mt : Nat) (ml : Nat) (mx : Nat) (v1 : Int32) (v2 : Int32) (v3 : Int32) (v4 : Int32) (v5 : Int32) (v6 : Int32) (mc : Nat) (v7 : Int32) (mn : Nat) (mp : Nat) (mo : Nat)  : MetI l yX6_firstOtherwise cX6_firstOtherwise 4 .int ({ frames := 0, cells := 0, slots := 0, locals := 0 } : Room) [.ref mo_, .int x] D (TYS cI cZ cQ cT) EF sz [(mo_, .inr (6, [.int 0, .ref ms, .ref mi, .int 0, .int 0, .int 0, .int 0, .int 0, .int 0, .ref mb, .ref mt, .ref ml, .ref mx, .int v1, .int v2, .int v3, .int v4, .int v5, .int v6, .ref mc, .int v7, .ref mn, .ref mp, .ref mo, .int 0, .int 0, .int 0, .int 0])), (ms, .inl (cI, 846, .inl (s0)))] (S := Unit) (fun (r : Int32) (_ : Unit) => r = (-5)) (fun _ => [(mo_, .inr (6, [.int 0, .ref ms, .ref mi, .int 0, .int 0, .int 0, .int 0, .int 0, .int 0, .ref mb, .ref mt, .ref ml, .ref mx, .int v1, .int v2, .int v3, .int v4, .int v5, .int v6, .ref mc, .int v7, .ref mn, .ref mp, .ref mo, .int 0, .int 0, .int 0, .int 0])), (ms, .inl (cI, 846, .inl (s0)))]) := by
  refine MetI.mk (lv := [(0, .ref mo_), (1, .int x)]) (by decide +kernel) (Nat.le_of_ble_eq_true rfl) rfl ?_
  intro p e s m below meth c A ls C0 hP hD hS hX hl
  have C1 := C0
  obtain ⟨hx, hb, hr, hml, hown, hlocks, hname, hT, hN, hK, hA⟩ := C1
  refine lv_iconst (v := 0) hx hb dX6_firstOtherwise_0 (by decide) ?_
  refine lv_istore_n (lv' := [(2, .int 0), (0, .ref mo_), (1, .int x)]) hx hb dX6_firstOtherwise_1 rfl hl (by decide) rfl (fun ls hl => ?_)
  refine lv_iload_n hx hb dX6_firstOtherwise_2 rfl (lv_at hl 0 rfl) ?_
  refine lv_aload_n hx hb dX6_firstOtherwise_3 rfl (lv_at hl 1 rfl) ?_
  refine va_get (ci := 6) (v := .ref ms) (C := RX6) (T := TX6) (N := 28) hx hb hT wu_X6 hown hK hP 0 rfl rfl 1 (by decide) (hT _ wf_X6_7) (fun _ h9 => h9) rfl dX6_firstOtherwise_4 ?_
  refine lv_iconst (v := 0) hx hb dX6_firstOtherwise_7 (by decide) ?_
  refine va_iald hx hb hK hP 1 0 rfl rfl (vin _ _ (by decide +kernel)) dX6_firstOtherwise_8 ?_
  refine lv_ci 0 (by decide +kernel) ?_
  refine lv_icmp_ge (tgt := 54) hx hb dX6_firstOtherwise_9 (by decide) (fun _ => ?_) (fun c_0 => absurd (by decide) c_0)
  refine lv_bipush (v := (-5)) hx hb dX6_firstOtherwise_54 (by decide) ?_
  exact retI C0 rfl () rfl (hP.sub (ws' := [(mo_, .inr (6, [.int 0, .ref ms, .ref mi, .int 0, .int 0, .int 0, .int 0, .int 0, .int 0, .ref mb, .ref mt, .ref ml, .ref mx, .int v1, .int v2, .int v3, .int v4, .int v5, .int v6, .ref mc, .int v7, .ref mn, .ref mp, .ref mo, .int 0, .int 0, .int 0, .int 0])), (ms, .inl (cI, 846, .inl (s0)))]) [0, 1] rfl) (hD.sub (ws' := [(mo_, .inr (6, [.int 0, .ref ms, .ref mi, .int 0, .int 0, .int 0, .int 0, .int 0, .int 0, .ref mb, .ref mt, .ref ml, .ref mx, .int v1, .int v2, .int v3, .int v4, .int v5, .int v6, .ref mc, .int v7, .ref mn, .ref mp, .ref mo, .int 0, .int 0, .int 0, .int 0])), (ms, .inl (cI, 846, .inl (s0)))]) [0, 1] (by decide) rfl) hS (Nat.le_of_ble_eq_true rfl) (Nat.le_of_ble_eq_true rfl) dX6_firstOtherwise_56

set_option maxHeartbeats 4000000 in
set_option maxRecDepth 100000 in
theorem m_day (l : Launch) (D : va_G) (cI cZ cQ cT : ClassId) (sz : Nat) (mo_ : Nat) (p1 : Int32) (p2 : Int32) (ms : Nat) (mi : Nat) (mb : Nat) (mt : Nat) (ml : Nat) (mx : Nat) (mc : Nat) (mn : Nat) (mp : Nat) (mo : Nat)  : MetI l yX6_day cX6_day 3 .int ({ frames := 2, cells := 0, slots := 0, locals := 43 } : Room) [.ref mo_, .int p1, .int p2] D (TYS cI cZ cQ cT) EF sz [(mo_, .inr (6, [.int 0, .ref ms, .ref mi, .int 0, .int 0, .int 0, .int 0, .int 0, .int 0, .ref mb, .ref mt, .ref ml, .ref mx, .int 0, .int 0, .int 0, .int 0, .int 0, .int 0, .ref mc, .int 0, .ref mn, .ref mp, .ref mo, .int 0, .int 0, .int 0, .int 0])), (ms, .inl (cI, 846, .inl (s0)))] (S := Unit) (fun (r : Int32) (_ : Unit) => r = (if ((0 : Int32) ≤ p2 ∧ p2 ≤ (2 : Int32)) then (if (p1 = 0) then (if p2 = (0 : Int32) then (-5) else (if p2 = (1 : Int32) then 0 else 0)) else (-10002)) else (-10001))) (fun _ => []) := by
  refine MetI.mk (lv := [(0, .ref mo_), (1, .int p1), (2, .int p2)]) (by decide +kernel) (Nat.le_of_ble_eq_true rfl) rfl ?_
  intro p e s m below meth c A ls C0 hP hD hS hX hl
  have C1 := C0
  obtain ⟨hx, hb, hr, hml, hown, hlocks, hname, hT, hN, hK, hA⟩ := C1
  refine lv_iload_n hx hb dX6_day_0 rfl (lv_at hl 2 rfl) ?_
  refine lv_iconst (v := 0) hx hb dX6_day_1 (by decide) ?_
  refine lv_iconst (v := 2) hx hb dX6_day_2 (by decide) ?_
  refine contI (wc := []) (wr := [(mo_, .inr (6, [.int 0, .ref ms, .ref mi, .int 0, .int 0, .int 0, .int 0, .int 0, .int 0, .ref mb, .ref mt, .ref ml, .ref mx, .int 0, .int 0, .int 0, .int 0, .int 0, .int 0, .ref mc, .int 0, .ref mn, .ref mp, .ref mo, .int 0, .int 0, .int 0, .int 0])), (ms, .inl (cI, 846, .inl (s0)))]) C0 hP hD hS [] [0, 1] rfl rfl (by decide) (by decide) 0 0 (Nat.le_of_ble_eq_true rfl) (Nat.le_of_ble_eq_true rfl) (runS (k := 3) (As := [.int p2, .int 0, .int 2]) (rest := []) C0 (mc_in l D cI cZ cQ cT _ p2 0 2) wc_X6_in wl_X6_45 wt_X6_in wz_X6 ⟨by decide, by decide, by decide +kernel⟩ ⟨(Nat.le_of_ble_eq_true rfl), (Nat.le_of_ble_eq_true rfl)⟩ hP hD hS EF.ok hX [] rfl (by decide) rfl hl.1 rfl (Nat.le_of_ble_eq_true rfl) dX6_day_3 ⟨(Nat.le_of_ble_eq_true rfl), (Nat.le_of_ble_eq_true rfl)⟩) (fun r_3 u_1 H locs w_2 hP hD hS => ?_)
  have hP : va_P D CL [(mo_, .inr (6, [.int 0, .ref ms, .ref mi, .int 0, .int 0, .int 0, .int 0, .int 0, .int 0, .ref mb, .ref mt, .ref ml, .ref mx, .int 0, .int 0, .int 0, .int 0, .int 0, .int 0, .ref mc, .int 0, .ref mn, .ref mp, .ref mo, .int 0, .int 0, .int 0, .int 0])), (ms, .inl (cI, 846, .inl (s0)))] H := hP
  have hD : va_D A [(mo_, .inr (6, [.int 0, .ref ms, .ref mi, .int 0, .int 0, .int 0, .int 0, .int 0, .int 0, .ref mb, .ref mt, .ref ml, .ref mx, .int 0, .int 0, .int 0, .int 0, .int 0, .int 0, .ref mc, .int 0, .ref mn, .ref mp, .ref mo, .int 0, .int 0, .int 0, .int 0])), (ms, .inl (cI, 846, .inl (s0)))] := hD
  refine (Decidable.em (((0 : Int32) ≤ p2 ∧ p2 ≤ (2 : Int32)))).elim (fun c_4 => ?_) (fun c_4 => ?_)
  · obtain rfl : r_3 = 1 := w_2.trans (if_pos c_4)
    refine lv_if_ne (tgt := 13) hx hb dX6_day_6 (by decide) (fun _ => ?_) (fun c_0 => absurd c_0 (by decide))
    refine lv_aload_n hx hb dX6_day_13 rfl (lv_at hl 0 rfl) ?_
    refine lv_iload_n hx hb dX6_day_14 rfl (lv_at hl 1 rfl) ?_
    refine contI (wc := [(mo_, .inr (6, [.int 0, .ref ms, .ref mi, .int 0, .int 0, .int 0, .int 0, .int 0, .int 0, .ref mb, .ref mt, .ref ml, .ref mx, .int 0, .int 0, .int 0, .int 0, .int 0, .int 0, .ref mc, .int 0, .ref mn, .ref mp, .ref mo, .int 0, .int 0, .int 0, .int 0])), (ms, .inl (cI, 846, .inl (s0)))]) (wr := []) C0 hP hD hS [0, 1] [] rfl rfl (by decide) (by decide) 0 0 (Nat.le_of_ble_eq_true rfl) (Nat.le_of_ble_eq_true rfl) (runV (k := 1) (As := [.int p1]) (rest := []) C0 (m_isDay l D cI cZ cQ cT _ mo_ p1 ms mi mb mt ml mx 0 0 0 0 0 0 mc 0 mn mp mo) wc_X6_isDay wl_X6_156 wi_X6_isDay we_X6_isDay wz_X6 ⟨by decide, by decide, by decide +kernel⟩ ⟨(Nat.le_of_ble_eq_true rfl), (Nat.le_of_ble_eq_true rfl)⟩ hP hD hS EF.ok hX [0, 1] rfl (by decide) 0 rfl rfl rfl rfl hl.1 rfl (Nat.le_of_ble_eq_true rfl) dX6_day_15 ⟨(Nat.le_of_ble_eq_true rfl), (Nat.le_of_ble_eq_true rfl)⟩) (fun r_7 u_5 H locs w_6 hP hD hS => ?_)
    have hP : va_P D CL [(mo_, .inr (6, [.int 0, .ref ms, .ref mi, .int 0, .int 0, .int 0, .int 0, .int 0, .int 0, .ref mb, .ref mt, .ref ml, .ref mx, .int 0, .int 0, .int 0, .int 0, .int 0, .int 0, .ref mc, .int 0, .ref mn, .ref mp, .ref mo, .int 0, .int 0, .int 0, .int 0])), (ms, .inl (cI, 846, .inl (s0)))] H := hP
    have hD : va_D A [(mo_, .inr (6, [.int 0, .ref ms, .ref mi, .int 0, .int 0, .int 0, .int 0, .int 0, .int 0, .ref mb, .ref mt, .ref ml, .ref mx, .int 0, .int 0, .int 0, .int 0, .int 0, .int 0, .ref mc, .int 0, .ref mn, .ref mp, .ref mo, .int 0, .int 0, .int 0, .int 0])), (ms, .inl (cI, 846, .inl (s0)))] := hD
    refine (Decidable.em ((p1 = 0))).elim (fun c_8 => ?_) (fun c_8 => ?_)
    · obtain rfl : r_7 = 1 := w_6.trans (if_pos c_8)
      subst c_8
      refine lv_if_ne (tgt := 25) hx hb dX6_day_18 (by decide) (fun _ => ?_) (fun c_0 => absurd c_0 (by decide))
      refine lv_aload_n hx hb dX6_day_25 rfl (lv_at hl 0 rfl) ?_
      refine contV (wc := [(mo_, .inr (6, [.int 0, .ref ms, .ref mi, .int 0, .int 0, .int 0, .int 0, .int 0, .int 0, .ref mb, .ref mt, .ref ml, .ref mx, .int 0, .int 0, .int 0, .int 0, .int 0, .int 0, .ref mc, .int 0, .ref mn, .ref mp, .ref mo, .int 0, .int 0, .int 0, .int 0])), (ms, .inl (cI, 846, .inl (s0)))]) (wr := []) C0 hP hD hS [0, 1] [] rfl rfl (by decide) (by decide) 0 0 (Nat.le_of_ble_eq_true rfl) (Nat.le_of_ble_eq_true rfl) (runV (k := 0) (As := []) (rest := []) C0 (m_looks l D cI cZ cQ cT _ mo_ ms mi mb mt ml mx 0 0 0 0 0 0 mc 0 mn mp mo) wc_X6_looks wl_X6_181 wi_X6_looks we_X6_looks wz_X6 ⟨by decide, by decide, by decide +kernel⟩ ⟨(Nat.le_of_ble_eq_true rfl), (Nat.le_of_ble_eq_true rfl)⟩ hP hD hS EF.ok hX [0, 1] rfl (by decide) 0 rfl rfl rfl rfl hl.1 rfl (Nat.le_of_ble_eq_true rfl) dX6_day_26 ⟨(Nat.le_of_ble_eq_true rfl), (Nat.le_of_ble_eq_true rfl)⟩) (fun u_10 H locs w_11 hP hD hS => ?_)
      obtain ⟨w1_9, rfl⟩ : ∃ z, z = u_10 := ⟨_, rfl⟩
      have hP : va_P D CL [(mo_, .inr (6, [.int 0, .ref ms, .ref mi, .int 0, .int 0, .int 0, .int 0, .int 0, .int 0, .ref mb, .ref mt, .ref ml, .ref mx, .int w1_9, .int 0, .int 0, .int 0, .int 0, .int 0, .ref mc, .int 0, .ref mn, .ref mp, .ref mo, .int 0, .int 0, .int 0, .int 0])), (ms, .inl (cI, 846, .inl (s0)))] H := hP
      have hD : va_D A [(mo_, .inr (6, [.int 0, .ref ms, .ref mi, .int 0, .int 0, .int 0, .int 0, .int 0, .int 0, .ref mb, .ref mt, .ref ml, .ref mx, .int w1_9, .int 0, .int 0, .int 0, .int 0, .int 0, .ref mc, .int 0, .ref mn, .ref mp, .ref mo, .int 0, .int 0, .int 0, .int 0])), (ms, .inl (cI, 846, .inl (s0)))] := hD
      refine lv_iload_n hx hb dX6_day_29 rfl (lv_at hl 2 rfl) ?_
      refine lv_if_ne (tgt := 41) hx hb dX6_day_30 (by decide) (fun c_13 => ?_) (fun c_13 => ?_)
      · refine lv_iload_n hx hb dX6_day_41 rfl (lv_at hl 2 rfl) ?_
        refine lv_iconst (v := 1) hx hb dX6_day_42 (by decide) ?_
        refine lv_icmp_ne (tgt := 54) hx hb dX6_day_43 (by decide) (fun c_14 => ?_) (fun c_14 => ?_)
        · refine lv_aload_n hx hb dX6_day_54 rfl (lv_at hl 0 rfl) ?_
          refine lv_iload_n hx hb dX6_day_55 rfl (lv_at hl 1 rfl) ?_
          refine contI (wc := [(mo_, .inr (6, [.int 0, .ref ms, .ref mi, .int 0, .int 0, .int 0, .int 0, .int 0, .int 0, .ref mb, .ref mt, .ref ml, .ref mx, .int w1_9, .int 0, .int 0, .int 0, .int 0, .int 0, .ref mc, .int 0, .ref mn, .ref mp, .ref mo, .int 0, .int 0, .int 0, .int 0])), (ms, .inl (cI, 846, .inl (s0)))]) (wr := []) C0 hP hD hS [0, 1] [] rfl rfl (by decide) (by decide) 0 0 (Nat.le_of_ble_eq_true rfl) (Nat.le_of_ble_eq_true rfl) (runV (k := 1) (As := [.int 0]) (rest := []) C0 (m_gainOfAll l D cI cZ cQ cT _ mo_ 0 ms mi mb mt ml mx w1_9 0 0 0 0 0 mc 0 mn mp mo) wc_X6_gainOfAll wl_X6_187 wi_X6_gainOfAll we_X6_gainOfAll wz_X6 ⟨by decide, by decide, by decide +kernel⟩ ⟨(Nat.le_of_ble_eq_true rfl), (Nat.le_of_ble_eq_true rfl)⟩ hP hD hS EF.ok hX [0, 1] rfl (by decide) 0 rfl rfl rfl rfl hl.1 rfl (Nat.le_of_ble_eq_true rfl) dX6_day_56 ⟨(Nat.le_of_ble_eq_true rfl), (Nat.le_of_ble_eq_true rfl)⟩) (fun r_17 u_15 H locs w_16 hP hD hS => ?_)
          have hP : va_P D CL [(mo_, .inr (6, [.int 0, .ref ms, .ref mi, .int 0, .int 0, .int 0, .int 0, .int 0, .int 0, .ref mb, .ref mt, .ref ml, .ref mx, .int w1_9, .int 0, .int 0, .int 0, .int 0, .int 0, .ref mc, .int 0, .ref mn, .ref mp, .ref mo, .int 0, .int 0, .int 0, .int 0])), (ms, .inl (cI, 846, .inl (s0)))] H := hP
          have hD : va_D A [(mo_, .inr (6, [.int 0, .ref ms, .ref mi, .int 0, .int 0, .int 0, .int 0, .int 0, .int 0, .ref mb, .ref mt, .ref ml, .ref mx, .int w1_9, .int 0, .int 0, .int 0, .int 0, .int 0, .ref mc, .int 0, .ref mn, .ref mp, .ref mo, .int 0, .int 0, .int 0, .int 0])), (ms, .inl (cI, 846, .inl (s0)))] := hD
          obtain rfl : r_17 = 0 := w_16
          exact retI C0 rfl () (((if_pos c_4).trans ((if_pos rfl).trans ((if_neg c_13).trans ((if_neg c_14))))).symm) (hP.sub (ws' := []) [] rfl) (hD.sub (ws' := []) [] (by decide) rfl) hS (Nat.le_of_ble_eq_true rfl) (Nat.le_of_ble_eq_true rfl) dX6_day_59
        · refine lv_aload_n hx hb dX6_day_46 rfl (lv_at hl 0 rfl) ?_
          refine lv_iload_n hx hb dX6_day_47 rfl (lv_at hl 1 rfl) ?_
          refine contI (wc := [(mo_, .inr (6, [.int 0, .ref ms, .ref mi, .int 0, .int 0, .int 0, .int 0, .int 0, .int 0, .ref mb, .ref mt, .ref ml, .ref mx, .int w1_9, .int 0, .int 0, .int 0, .int 0, .int 0, .ref mc, .int 0, .ref mn, .ref mp, .ref mo, .int 0, .int 0, .int 0, .int 0])), (ms, .inl (cI, 846, .inl (s0)))]) (wr := []) C0 hP hD hS [0, 1] [] rfl rfl (by decide) (by decide) 0 0 (Nat.le_of_ble_eq_true rfl) (Nat.le_of_ble_eq_true rfl) (runV (k := 1) (As := [.int 0]) (rest := []) C0 (m_answerTo l D cI cZ cQ cT _ mo_ 0 ms mi mb mt ml mx w1_9 0 0 0 0 0 mc 0 mn mp mo) wc_X6_answerTo wl_X6_184 wi_X6_answerTo we_X6_answerTo wz_X6 ⟨by decide, by decide, by decide +kernel⟩ ⟨(Nat.le_of_ble_eq_true rfl), (Nat.le_of_ble_eq_true rfl)⟩ hP hD hS EF.ok hX [0, 1] rfl (by decide) 0 rfl rfl rfl rfl hl.1 rfl (Nat.le_of_ble_eq_true rfl) dX6_day_48 ⟨(Nat.le_of_ble_eq_true rfl), (Nat.le_of_ble_eq_true rfl)⟩) (fun r_20 u_18 H locs w_19 hP hD hS => ?_)
          have hP : va_P D CL [(mo_, .inr (6, [.int 0, .ref ms, .ref mi, .int 0, .int 0, .int 0, .int 0, .int 0, .int 0, .ref mb, .ref mt, .ref ml, .ref mx, .int w1_9, .int 0, .int 0, .int 0, .int 0, .int 0, .ref mc, .int 0, .ref mn, .ref mp, .ref mo, .int 0, .int 0, .int 0, .int 0])), (ms, .inl (cI, 846, .inl (s0)))] H := hP
          have hD : va_D A [(mo_, .inr (6, [.int 0, .ref ms, .ref mi, .int 0, .int 0, .int 0, .int 0, .int 0, .int 0, .ref mb, .ref mt, .ref ml, .ref mx, .int w1_9, .int 0, .int 0, .int 0, .int 0, .int 0, .ref mc, .int 0, .ref mn, .ref mp, .ref mo, .int 0, .int 0, .int 0, .int 0])), (ms, .inl (cI, 846, .inl (s0)))] := hD
          obtain rfl : r_20 = 0 := w_19
          refine lv_goto (tgt := 59) hx hb dX6_day_51 (by decide) ?_
          exact retI C0 rfl () (((if_pos c_4).trans ((if_pos rfl).trans ((if_neg c_13).trans ((if_pos c_14))))).symm) (hP.sub (ws' := []) [] rfl) (hD.sub (ws' := []) [] (by decide) rfl) hS (Nat.le_of_ble_eq_true rfl) (Nat.le_of_ble_eq_true rfl) dX6_day_59
      · refine lv_aload_n hx hb dX6_day_33 rfl (lv_at hl 0 rfl) ?_
        refine lv_iload_n hx hb dX6_day_34 rfl (lv_at hl 1 rfl) ?_
        refine contI (wc := [(mo_, .inr (6, [.int 0, .ref ms, .ref mi, .int 0, .int 0, .int 0, .int 0, .int 0, .int 0, .ref mb, .ref mt, .ref ml, .ref mx, .int w1_9, .int 0, .int 0, .int 0, .int 0, .int 0, .ref mc, .int 0, .ref mn, .ref mp, .ref mo, .int 0, .int 0, .int 0, .int 0])), (ms, .inl (cI, 846, .inl (s0)))]) (wr := []) C0 hP hD hS [0, 1] [] rfl rfl (by decide) (by decide) 0 0 (Nat.le_of_ble_eq_true rfl) (Nat.le_of_ble_eq_true rfl) (runV (k := 1) (As := [.int 0]) (rest := []) C0 (m_firstOtherwise l D cI cZ cQ cT _ mo_ 0 ms mi mb mt ml mx w1_9 0 0 0 0 0 mc 0 mn mp mo) wc_X6_firstOtherwise wl_X6_175 wi_X6_firstOtherwise we_X6_firstOtherwise wz_X6 ⟨by decide, by decide, by decide +kernel⟩ ⟨(Nat.le_of_ble_eq_true rfl), (Nat.le_of_ble_eq_true rfl)⟩ hP hD hS EF.ok hX [0, 1] rfl (by decide) 0 rfl rfl rfl rfl hl.1 rfl (Nat.le_of_ble_eq_true rfl) dX6_day_35 ⟨(Nat.le_of_ble_eq_true rfl), (Nat.le_of_ble_eq_true rfl)⟩) (fun r_23 u_21 H locs w_22 hP hD hS => ?_)
        have hP : va_P D CL [(mo_, .inr (6, [.int 0, .ref ms, .ref mi, .int 0, .int 0, .int 0, .int 0, .int 0, .int 0, .ref mb, .ref mt, .ref ml, .ref mx, .int w1_9, .int 0, .int 0, .int 0, .int 0, .int 0, .ref mc, .int 0, .ref mn, .ref mp, .ref mo, .int 0, .int 0, .int 0, .int 0])), (ms, .inl (cI, 846, .inl (s0)))] H := hP
        have hD : va_D A [(mo_, .inr (6, [.int 0, .ref ms, .ref mi, .int 0, .int 0, .int 0, .int 0, .int 0, .int 0, .ref mb, .ref mt, .ref ml, .ref mx, .int w1_9, .int 0, .int 0, .int 0, .int 0, .int 0, .ref mc, .int 0, .ref mn, .ref mp, .ref mo, .int 0, .int 0, .int 0, .int 0])), (ms, .inl (cI, 846, .inl (s0)))] := hD
        obtain rfl : r_23 = (-5) := w_22
        refine lv_goto (tgt := 59) hx hb dX6_day_38 (by decide) ?_
        exact retI C0 rfl () (((if_pos c_4).trans ((if_pos rfl).trans ((if_pos c_13)))).symm) (hP.sub (ws' := []) [] rfl) (hD.sub (ws' := []) [] (by decide) rfl) hS (Nat.le_of_ble_eq_true rfl) (Nat.le_of_ble_eq_true rfl) dX6_day_59
    · obtain rfl : r_7 = 0 := w_6.trans (if_neg c_8)
      refine lv_if_ne (tgt := 25) hx hb dX6_day_18 (by decide) (fun c_0 => absurd (by decide) c_0) (fun _ => ?_)
      refine lv_sipush (v := (-10002)) hx hb dX6_day_21 (by decide) ?_
      exact retI C0 rfl () (((if_pos c_4).trans ((if_neg c_8))).symm) (hP.sub (ws' := []) [] rfl) (hD.sub (ws' := []) [] (by decide) rfl) hS (Nat.le_of_ble_eq_true rfl) (Nat.le_of_ble_eq_true rfl) dX6_day_24
  · obtain rfl : r_3 = 0 := w_2.trans (if_neg c_4)
    refine lv_if_ne (tgt := 13) hx hb dX6_day_6 (by decide) (fun c_0 => absurd (by decide) c_0) (fun _ => ?_)
    refine lv_sipush (v := (-10001)) hx hb dX6_day_9 (by decide) ?_
    exact retI C0 rfl () (((if_neg c_4)).symm) (hP.sub (ws' := []) [] rfl) (hD.sub (ws' := []) [] (by decide) rfl) hS (Nat.le_of_ble_eq_true rfl) (Nat.le_of_ble_eq_true rfl) dX6_day_12

set_option maxHeartbeats 4000000 in
set_option maxRecDepth 100000 in
theorem m_stands (l : Launch) (D : va_G) (cI cZ cQ cT : ClassId) (sz : Nat) (mo_ : Nat) (x : Int32) (ms : Nat) (mi : Nat) (mb : Nat) (mt : Nat) (ml : Nat) (mx : Nat) (v1 : Int32) (v2 : Int32) (v3 : Int32) (v4 : Int32) (v5 : Int32) (v6 : Int32) (mc : Nat) (v7 : Int32) (mn : Nat) (mp : Nat) (mo : Nat)  : MetI l yX6_stands cX6_stands 2 .boolean ({ frames := 1, cells := 0, slots := 0, locals := 23 } : Room) [.ref mo_, .int x] D (TYS cI cZ cQ cT) EF sz [(mo_, .inr (6, [.int 0, .ref ms, .ref mi, .int 0, .int 0, .int 0, .int 0, .int 0, .int 0, .ref mb, .ref mt, .ref ml, .ref mx, .int v1, .int v2, .int v3, .int v4, .int v5, .int v6, .ref mc, .int v7, .ref mn, .ref mp, .ref mo, .int 0, .int 0, .int 0, .int 0])), (ms, .inl (cI, 846, .inl (s0)))] (S := Unit) (fun (r : Int32) (_ : Unit) => r = 1) (fun _ => [(mo_, .inr (6, [.int 0, .ref ms, .ref mi, .int 0, .int 0, .int 0, .int 0, .int 0, .int 0, .ref mb, .ref mt, .ref ml, .ref mx, .int v1, .int v2, .int v3, .int v4, .int v5, .int v6, .ref mc, .int v7, .ref mn, .ref mp, .ref mo, .int 0, .int 0, .int 0, .int 0])), (ms, .inl (cI, 846, .inl (s0)))]) := by
  refine MetI.mk (lv := [(0, .ref mo_), (1, .int x)]) (by decide +kernel) (Nat.le_of_ble_eq_true rfl) rfl ?_
  intro p e s m below meth c A ls C0 hP hD hS hX hl
  have C1 := C0
  obtain ⟨hx, hb, hr, hml, hown, hlocks, hname, hT, hN, hK, hA⟩ := C1
  refine lv_aload_n hx hb dX6_stands_0 rfl (lv_at hl 0 rfl) ?_
  refine lv_iload_n hx hb dX6_stands_1 rfl (lv_at hl 1 rfl) ?_
  refine contI (wc := [(mo_, .inr (6, [.int 0, .ref ms, .ref mi, .int 0, .int 0, .int 0, .int 0, .int 0, .int 0, .ref mb, .ref mt, .ref ml, .ref mx, .int v1, .int v2, .int v3, .int v4, .int v5, .int v6, .ref mc, .int v7, .ref mn, .ref mp, .ref mo, .int 0, .int 0, .int 0, .int 0])), (ms, .inl (cI, 846, .inl (s0)))]) (wr := []) C0 hP hD hS [0, 1] [] rfl rfl (by decide) (by decide) 0 0 (Nat.le_of_ble_eq_true rfl) (Nat.le_of_ble_eq_true rfl) (runV (k := 1) (As := [.int x]) (rest := []) C0 (m_firstOtherwise l D cI cZ cQ cT _ mo_ x ms mi mb mt ml mx v1 v2 v3 v4 v5 v6 mc v7 mn mp mo) wc_X6_firstOtherwise wl_X6_175 wi_X6_firstOtherwise we_X6_firstOtherwise wz_X6 ⟨by decide, by decide, by decide +kernel⟩ ⟨(Nat.le_of_ble_eq_true rfl), (Nat.le_of_ble_eq_true rfl)⟩ hP hD hS EF.ok hX [0, 1] rfl (by decide) 0 rfl rfl rfl rfl hl.1 rfl (Nat.le_of_ble_eq_true rfl) dX6_stands_2 ⟨(Nat.le_of_ble_eq_true rfl), (Nat.le_of_ble_eq_true rfl)⟩) (fun r_3 u_1 H locs w_2 hP hD hS => ?_)
  have hP : va_P D CL [(mo_, .inr (6, [.int 0, .ref ms, .ref mi, .int 0, .int 0, .int 0, .int 0, .int 0, .int 0, .ref mb, .ref mt, .ref ml, .ref mx, .int v1, .int v2, .int v3, .int v4, .int v5, .int v6, .ref mc, .int v7, .ref mn, .ref mp, .ref mo, .int 0, .int 0, .int 0, .int 0])), (ms, .inl (cI, 846, .inl (s0)))] H := hP
  have hD : va_D A [(mo_, .inr (6, [.int 0, .ref ms, .ref mi, .int 0, .int 0, .int 0, .int 0, .int 0, .int 0, .ref mb, .ref mt, .ref ml, .ref mx, .int v1, .int v2, .int v3, .int v4, .int v5, .int v6, .ref mc, .int v7, .ref mn, .ref mp, .ref mo, .int 0, .int 0, .int 0, .int 0])), (ms, .inl (cI, 846, .inl (s0)))] := hD
  obtain rfl : r_3 = (-5) := w_2
  refine lv_bipush (v := (-5)) hx hb dX6_stands_5 (by decide) ?_
  refine lv_icmp_ne (tgt := 14) hx hb dX6_stands_7 (by decide) (fun c_0 => absurd (by decide) c_0) (fun _ => ?_)
  refine lv_iconst (v := 1) hx hb dX6_stands_10 (by decide) ?_
  refine lv_goto (tgt := 15) hx hb dX6_stands_11 (by decide) ?_
  exact retI C0 rfl () rfl (hP.sub (ws' := [(mo_, .inr (6, [.int 0, .ref ms, .ref mi, .int 0, .int 0, .int 0, .int 0, .int 0, .int 0, .ref mb, .ref mt, .ref ml, .ref mx, .int v1, .int v2, .int v3, .int v4, .int v5, .int v6, .ref mc, .int v7, .ref mn, .ref mp, .ref mo, .int 0, .int 0, .int 0, .int 0])), (ms, .inl (cI, 846, .inl (s0)))]) [0, 1] rfl) (hD.sub (ws' := [(mo_, .inr (6, [.int 0, .ref ms, .ref mi, .int 0, .int 0, .int 0, .int 0, .int 0, .int 0, .ref mb, .ref mt, .ref ml, .ref mx, .int v1, .int v2, .int v3, .int v4, .int v5, .int v6, .ref mc, .int v7, .ref mn, .ref mp, .ref mo, .int 0, .int 0, .int 0, .int 0])), (ms, .inl (cI, 846, .inl (s0)))]) [0, 1] (by decide) rfl) hS (Nat.le_of_ble_eq_true rfl) (Nat.le_of_ble_eq_true rfl) dX6_stands_15

set_option maxHeartbeats 4000000 in
set_option maxRecDepth 100000 in
theorem m_looksThrough (l : Launch) (D : va_G) (cI cZ cQ cT : ClassId) (sz : Nat) (mo_ : Nat) (ms : Nat) (mi : Nat) (mb : Nat) (mt : Nat) (ml : Nat) (mx : Nat) (v1 : Int32) (v2 : Int32) (v3 : Int32) (v4 : Int32) (v5 : Int32) (v6 : Int32) (mc : Nat) (v7 : Int32) (mn : Nat) (mp : Nat) (mo : Nat)  : MetV l yX6_looksThrough cX6_looksThrough 4 ({ frames := 2, cells := 0, slots := 0, locals := 44 } : Room) [.ref mo_] D (TYS cI cZ cQ cT) EF sz [(mo_, .inr (6, [.int 0, .ref ms, .ref mi, .int 0, .int 0, .int 0, .int 0, .int 0, .int 0, .ref mb, .ref mt, .ref ml, .ref mx, .int v1, .int v2, .int v3, .int v4, .int v5, .int v6, .ref mc, .int v7, .ref mn, .ref mp, .ref mo, .int 0, .int 0, .int 0, .int 0])), (ms, .inl (cI, 846, .inl (s0)))] (S := Int32) (fun (_ : Int32) => True) (fun u => [(mo_, .inr (6, [.int 0, .ref ms, .ref mi, .int 0, .int 0, .int 0, .int 0, .int 0, .int 0, .ref mb, .ref mt, .ref ml, .ref mx, .int u, .int 1, .int 0, .int 0, .int 0, .int 0, .ref mc, .int v7, .ref mn, .ref mp, .ref mo, .int 0, .int 0, .int 0, .int 0])), (ms, .inl (cI, 846, .inl (s0)))]) := by
  refine MetV.mk (lv := [(0, .ref mo_)]) (by decide +kernel) (Nat.le_of_ble_eq_true rfl) rfl ?_
  intro p e s m below meth c A ls C0 hP hD hS hX hl
  have C1 := C0
  obtain ⟨hx, hb, hr, hml, hown, hlocks, hname, hT, hN, hK, hA⟩ := C1
  refine lv_aload_n hx hb dX6_looksThrough_0 rfl (lv_at hl 0 rfl) ?_
  refine contV (wc := [(mo_, .inr (6, [.int 0, .ref ms, .ref mi, .int 0, .int 0, .int 0, .int 0, .int 0, .int 0, .ref mb, .ref mt, .ref ml, .ref mx, .int v1, .int v2, .int v3, .int v4, .int v5, .int v6, .ref mc, .int v7, .ref mn, .ref mp, .ref mo, .int 0, .int 0, .int 0, .int 0])), (ms, .inl (cI, 846, .inl (s0)))]) (wr := []) C0 hP hD hS [0, 1] [] rfl rfl (by decide) (by decide) 0 0 (Nat.le_of_ble_eq_true rfl) (Nat.le_of_ble_eq_true rfl) (runV (k := 0) (As := []) (rest := []) C0 (m_looks l D cI cZ cQ cT _ mo_ ms mi mb mt ml mx v1 v2 v3 v4 v5 v6 mc v7 mn mp mo) wc_X6_looks wl_X6_181 wi_X6_looks we_X6_looks wz_X6 ⟨by decide, by decide, by decide +kernel⟩ ⟨(Nat.le_of_ble_eq_true rfl), (Nat.le_of_ble_eq_true rfl)⟩ hP hD hS EF.ok hX [0, 1] rfl (by decide) 0 rfl rfl rfl rfl hl.1 rfl (Nat.le_of_ble_eq_true rfl) dX6_looksThrough_1 ⟨(Nat.le_of_ble_eq_true rfl), (Nat.le_of_ble_eq_true rfl)⟩) (fun u_2 H locs w_3 hP hD hS => ?_)
  obtain ⟨w1_1, rfl⟩ : ∃ z, z = u_2 := ⟨_, rfl⟩
  have hP : va_P D CL [(mo_, .inr (6, [.int 0, .ref ms, .ref mi, .int 0, .int 0, .int 0, .int 0, .int 0, .int 0, .ref mb, .ref mt, .ref ml, .ref mx, .int w1_1, .int v2, .int v3, .int v4, .int v5, .int v6, .ref mc, .int v7, .ref mn, .ref mp, .ref mo, .int 0, .int 0, .int 0, .int 0])), (ms, .inl (cI, 846, .inl (s0)))] H := hP
  have hD : va_D A [(mo_, .inr (6, [.int 0, .ref ms, .ref mi, .int 0, .int 0, .int 0, .int 0, .int 0, .int 0, .ref mb, .ref mt, .ref ml, .ref mx, .int w1_1, .int v2, .int v3, .int v4, .int v5, .int v6, .ref mc, .int v7, .ref mn, .ref mp, .ref mo, .int 0, .int 0, .int 0, .int 0])), (ms, .inl (cI, 846, .inl (s0)))] := hD
  refine lv_aload_n hx hb dX6_looksThrough_4 rfl (lv_at hl 0 rfl) ?_
  refine lv_iconst (v := 0) hx hb dX6_looksThrough_5 (by decide) ?_
  refine va_put (ci := 6) (v := .int 0) (ty := .int) (C := RX6) (T := TX6) (N := 28) hx hb hT wu_X6 tyX6 tyX6_ok nmX6 hown hK hP hD hS 0 rfl rfl 14 (by decide) (hT _ wf_X6_190) (fun _ h9 => h9) rfl (by decide +kernel) rfl rfl (Nat.le_of_ble_eq_true rfl) dX6_looksThrough_6 (fun H locs hP hD hS => ?_)
  have hP : va_P D CL [(mo_, .inr (6, [.int 0, .ref ms, .ref mi, .int 0, .int 0, .int 0, .int 0, .int 0, .int 0, .ref mb, .ref mt, .ref ml, .ref mx, .int w1_1, .int 0, .int v3, .int v4, .int v5, .int v6, .ref mc, .int v7, .ref mn, .ref mp, .ref mo, .int 0, .int 0, .int 0, .int 0])), (ms, .inl (cI, 846, .inl (s0)))] H := hP
  have hD : va_D A [(mo_, .inr (6, [.int 0, .ref ms, .ref mi, .int 0, .int 0, .int 0, .int 0, .int 0, .int 0, .ref mb, .ref mt, .ref ml, .ref mx, .int w1_1, .int 0, .int v3, .int v4, .int v5, .int v6, .ref mc, .int v7, .ref mn, .ref mp, .ref mo, .int 0, .int 0, .int 0, .int 0])), (ms, .inl (cI, 846, .inl (s0)))] := hD
  refine lv_aload_n hx hb dX6_looksThrough_9 rfl (lv_at hl 0 rfl) ?_
  refine lv_bipush (v := (-5)) hx hb dX6_looksThrough_10 (by decide) ?_
  refine va_put (ci := 6) (v := .int (-5)) (ty := .int) (C := RX6) (T := TX6) (N := 28) hx hb hT wu_X6 tyX6 tyX6_ok nmX6 hown hK hP hD hS 0 rfl rfl 15 (by decide) (hT _ wf_X6_193) (fun _ h9 => h9) rfl (by decide +kernel) rfl rfl (Nat.le_of_ble_eq_true rfl) dX6_looksThrough_12 (fun H locs hP hD hS => ?_)
  have hP : va_P D CL [(mo_, .inr (6, [.int 0, .ref ms, .ref mi, .int 0, .int 0, .int 0, .int 0, .int 0, .int 0, .ref mb, .ref mt, .ref ml, .ref mx, .int w1_1, .int 0, .int (-5), .int v4, .int v5, .int v6, .ref mc, .int v7, .ref mn, .ref mp, .ref mo, .int 0, .int 0, .int 0, .int 0])), (ms, .inl (cI, 846, .inl (s0)))] H := hP
  have hD : va_D A [(mo_, .inr (6, [.int 0, .ref ms, .ref mi, .int 0, .int 0, .int 0, .int 0, .int 0, .int 0, .ref mb, .ref mt, .ref ml, .ref mx, .int w1_1, .int 0, .int (-5), .int v4, .int v5, .int v6, .ref mc, .int v7, .ref mn, .ref mp, .ref mo, .int 0, .int 0, .int 0, .int 0])), (ms, .inl (cI, 846, .inl (s0)))] := hD
  refine lv_aload_n hx hb dX6_looksThrough_15 rfl (lv_at hl 0 rfl) ?_
  refine lv_bipush (v := (-5)) hx hb dX6_looksThrough_16 (by decide) ?_
  refine va_put (ci := 6) (v := .int (-5)) (ty := .int) (C := RX6) (T := TX6) (N := 28) hx hb hT wu_X6 tyX6 tyX6_ok nmX6 hown hK hP hD hS 0 rfl rfl 16 (by decide) (hT _ wf_X6_196) (fun _ h9 => h9) rfl (by decide +kernel) rfl rfl (Nat.le_of_ble_eq_true rfl) dX6_looksThrough_18 (fun H locs hP hD hS => ?_)
  have hP : va_P D CL [(mo_, .inr (6, [.int 0, .ref ms, .ref mi, .int 0, .int 0, .int 0, .int 0, .int 0, .int 0, .ref mb, .ref mt, .ref ml, .ref mx, .int w1_1, .int 0, .int (-5), .int (-5), .int v5, .int v6, .ref mc, .int v7, .ref mn, .ref mp, .ref mo, .int 0, .int 0, .int 0, .int 0])), (ms, .inl (cI, 846, .inl (s0)))] H := hP
  have hD : va_D A [(mo_, .inr (6, [.int 0, .ref ms, .ref mi, .int 0, .int 0, .int 0, .int 0, .int 0, .int 0, .ref mb, .ref mt, .ref ml, .ref mx, .int w1_1, .int 0, .int (-5), .int (-5), .int v5, .int v6, .ref mc, .int v7, .ref mn, .ref mp, .ref mo, .int 0, .int 0, .int 0, .int 0])), (ms, .inl (cI, 846, .inl (s0)))] := hD
  refine lv_aload_n hx hb dX6_looksThrough_21 rfl (lv_at hl 0 rfl) ?_
  refine lv_bipush (v := (-5)) hx hb dX6_looksThrough_22 (by decide) ?_
  refine va_put (ci := 6) (v := .int (-5)) (ty := .int) (C := RX6) (T := TX6) (N := 28) hx hb hT wu_X6 tyX6 tyX6_ok nmX6 hown hK hP hD hS 0 rfl rfl 17 (by decide) (hT _ wf_X6_199) (fun _ h9 => h9) rfl (by decide +kernel) rfl rfl (Nat.le_of_ble_eq_true rfl) dX6_looksThrough_24 (fun H locs hP hD hS => ?_)
  have hP : va_P D CL [(mo_, .inr (6, [.int 0, .ref ms, .ref mi, .int 0, .int 0, .int 0, .int 0, .int 0, .int 0, .ref mb, .ref mt, .ref ml, .ref mx, .int w1_1, .int 0, .int (-5), .int (-5), .int (-5), .int v6, .ref mc, .int v7, .ref mn, .ref mp, .ref mo, .int 0, .int 0, .int 0, .int 0])), (ms, .inl (cI, 846, .inl (s0)))] H := hP
  have hD : va_D A [(mo_, .inr (6, [.int 0, .ref ms, .ref mi, .int 0, .int 0, .int 0, .int 0, .int 0, .int 0, .ref mb, .ref mt, .ref ml, .ref mx, .int w1_1, .int 0, .int (-5), .int (-5), .int (-5), .int v6, .ref mc, .int v7, .ref mn, .ref mp, .ref mo, .int 0, .int 0, .int 0, .int 0])), (ms, .inl (cI, 846, .inl (s0)))] := hD
  refine lv_aload_n hx hb dX6_looksThrough_27 rfl (lv_at hl 0 rfl) ?_
  refine lv_iconst (v := 0) hx hb dX6_looksThrough_28 (by decide) ?_
  refine va_put (ci := 6) (v := .int 0) (ty := .int) (C := RX6) (T := TX6) (N := 28) hx hb hT wu_X6 tyX6 tyX6_ok nmX6 hown hK hP hD hS 0 rfl rfl 18 (by decide) (hT _ wf_X6_202) (fun _ h9 => h9) rfl (by decide +kernel) rfl rfl (Nat.le_of_ble_eq_true rfl) dX6_looksThrough_29 (fun H locs hP hD hS => ?_)
  have hP : va_P D CL [(mo_, .inr (6, [.int 0, .ref ms, .ref mi, .int 0, .int 0, .int 0, .int 0, .int 0, .int 0, .ref mb, .ref mt, .ref ml, .ref mx, .int w1_1, .int 0, .int (-5), .int (-5), .int (-5), .int 0, .ref mc, .int v7, .ref mn, .ref mp, .ref mo, .int 0, .int 0, .int 0, .int 0])), (ms, .inl (cI, 846, .inl (s0)))] H := hP
  have hD : va_D A [(mo_, .inr (6, [.int 0, .ref ms, .ref mi, .int 0, .int 0, .int 0, .int 0, .int 0, .int 0, .ref mb, .ref mt, .ref ml, .ref mx, .int w1_1, .int 0, .int (-5), .int (-5), .int (-5), .int 0, .ref mc, .int v7, .ref mn, .ref mp, .ref mo, .int 0, .int 0, .int 0, .int 0])), (ms, .inl (cI, 846, .inl (s0)))] := hD
  refine lv_iconst (v := 0) hx hb dX6_looksThrough_32 (by decide) ?_
  refine lv_istore_n (lv' := [(1, .int 0), (0, .ref mo_)]) hx hb dX6_looksThrough_33 rfl hl (by decide) rfl (fun ls hl => ?_)
  refine lv_iload_n hx hb dX6_looksThrough_34 rfl (lv_at hl 0 rfl) ?_
  refine lv_aload_n hx hb dX6_looksThrough_35 rfl (lv_at hl 1 rfl) ?_
  refine contI (wc := [(mo_, .inr (6, [.int 0, .ref ms, .ref mi, .int 0, .int 0, .int 0, .int 0, .int 0, .int 0, .ref mb, .ref mt, .ref ml, .ref mx, .int w1_1, .int 0, .int (-5), .int (-5), .int (-5), .int 0, .ref mc, .int v7, .ref mn, .ref mp, .ref mo, .int 0, .int 0, .int 0, .int 0])), (ms, .inl (cI, 846, .inl (s0)))]) (wr := []) C0 hP hD hS [0, 1] [] rfl rfl (by decide) (by decide) 0 0 (Nat.le_of_ble_eq_true rfl) (Nat.le_of_ble_eq_true rfl) (runV (k := 0) (As := []) (rest := [.int 0]) C0 (m_days l D cI cZ cQ cT _ mo_ ms mi mb mt ml mx w1_1 0 (-5) (-5) (-5) 0 mc v7 mn mp mo) wc_X6_days wl_X6_49 wi_X6_days we_X6_days wz_X6 ⟨by decide, by decide, by decide +kernel⟩ ⟨(Nat.le_of_ble_eq_true rfl), (Nat.le_of_ble_eq_true rfl)⟩ hP hD hS EF.ok hX [0, 1] rfl (by decide) 0 rfl rfl rfl rfl hl.1 rfl (Nat.le_of_ble_eq_true rfl) dX6_looksThrough_36 ⟨(Nat.le_of_ble_eq_true rfl), (Nat.le_of_ble_eq_true rfl)⟩) (fun r_7 u_5 H locs w_6 hP hD hS => ?_)
  have hP : va_P D CL [(mo_, .inr (6, [.int 0, .ref ms, .ref mi, .int 0, .int 0, .int 0, .int 0, .int 0, .int 0, .ref mb, .ref mt, .ref ml, .ref mx, .int w1_1, .int 0, .int (-5), .int (-5), .int (-5), .int 0, .ref mc, .int v7, .ref mn, .ref mp, .ref mo, .int 0, .int 0, .int 0, .int 0])), (ms, .inl (cI, 846, .inl (s0)))] H := hP
  have hD : va_D A [(mo_, .inr (6, [.int 0, .ref ms, .ref mi, .int 0, .int 0, .int 0, .int 0, .int 0, .int 0, .ref mb, .ref mt, .ref ml, .ref mx, .int w1_1, .int 0, .int (-5), .int (-5), .int (-5), .int 0, .ref mc, .int v7, .ref mn, .ref mp, .ref mo, .int 0, .int 0, .int 0, .int 0])), (ms, .inl (cI, 846, .inl (s0)))] := hD
  obtain rfl : r_7 = 1 := w_6
  refine lv_icmp_ge (tgt := 151) hx hb dX6_looksThrough_39 (by decide) (fun c_0 => absurd c_0 (by decide)) (fun _ => ?_)
  refine lv_aload_n hx hb dX6_looksThrough_42 rfl (lv_at hl 1 rfl) ?_
  refine lv_iload_n hx hb dX6_looksThrough_43 rfl (lv_at hl 0 rfl) ?_
  refine contI (wc := [(mo_, .inr (6, [.int 0, .ref ms, .ref mi, .int 0, .int 0, .int 0, .int 0, .int 0, .int 0, .ref mb, .ref mt, .ref ml, .ref mx, .int w1_1, .int 0, .int (-5), .int (-5), .int (-5), .int 0, .ref mc, .int v7, .ref mn, .ref mp, .ref mo, .int 0, .int 0, .int 0, .int 0])), (ms, .inl (cI, 846, .inl (s0)))]) (wr := []) C0 hP hD hS [0, 1] [] rfl rfl (by decide) (by decide) 0 0 (Nat.le_of_ble_eq_true rfl) (Nat.le_of_ble_eq_true rfl) (runV (k := 1) (As := [.int 0]) (rest := []) C0 (m_stands l D cI cZ cQ cT _ mo_ 0 ms mi mb mt ml mx w1_1 0 (-5) (-5) (-5) 0 mc v7 mn mp mo) wc_X6_stands wl_X6_205 wi_X6_stands we_X6_stands wz_X6 ⟨by decide, by decide, by decide +kernel⟩ ⟨(Nat.le_of_ble_eq_true rfl), (Nat.le_of_ble_eq_true rfl)⟩ hP hD hS EF.ok hX [0, 1] rfl (by decide) 0 rfl rfl rfl rfl hl.1 rfl (Nat.le_of_ble_eq_true rfl) dX6_looksThrough_44 ⟨(Nat.le_of_ble_eq_true rfl), (Nat.le_of_ble_eq_true rfl)⟩) (fun r_10 u_8 H locs w_9 hP hD hS => ?_)
  have hP : va_P D CL [(mo_, .inr (6, [.int 0, .ref ms, .ref mi, .int 0, .int 0, .int 0, .int 0, .int 0, .int 0, .ref mb, .ref mt, .ref ml, .ref mx, .int w1_1, .int 0, .int (-5), .int (-5), .int (-5), .int 0, .ref mc, .int v7, .ref mn, .ref mp, .ref mo, .int 0, .int 0, .int 0, .int 0])), (ms, .inl (cI, 846, .inl (s0)))] H := hP
  have hD : va_D A [(mo_, .inr (6, [.int 0, .ref ms, .ref mi, .int 0, .int 0, .int 0, .int 0, .int 0, .int 0, .ref mb, .ref mt, .ref ml, .ref mx, .int w1_1, .int 0, .int (-5), .int (-5), .int (-5), .int 0, .ref mc, .int v7, .ref mn, .ref mp, .ref mo, .int 0, .int 0, .int 0, .int 0])), (ms, .inl (cI, 846, .inl (s0)))] := hD
  obtain rfl : r_10 = 1 := w_9
  refine lv_if_eq (tgt := 145) hx hb dX6_looksThrough_47 (by decide) (fun c_0 => absurd c_0 (by decide)) (fun _ => ?_)
  refine lv_aload_n hx hb dX6_looksThrough_50 rfl (lv_at hl 1 rfl) ?_
  refine lv_iload_n hx hb dX6_looksThrough_51 rfl (lv_at hl 0 rfl) ?_
  refine contI (wc := [(mo_, .inr (6, [.int 0, .ref ms, .ref mi, .int 0, .int 0, .int 0, .int 0, .int 0, .int 0, .ref mb, .ref mt, .ref ml, .ref mx, .int w1_1, .int 0, .int (-5), .int (-5), .int (-5), .int 0, .ref mc, .int v7, .ref mn, .ref mp, .ref mo, .int 0, .int 0, .int 0, .int 0])), (ms, .inl (cI, 846, .inl (s0)))]) (wr := []) C0 hP hD hS [0, 1] [] rfl rfl (by decide) (by decide) 0 0 (Nat.le_of_ble_eq_true rfl) (Nat.le_of_ble_eq_true rfl) (runV (k := 1) (As := [.int 0]) (rest := []) C0 (m_gainOfAll l D cI cZ cQ cT _ mo_ 0 ms mi mb mt ml mx w1_1 0 (-5) (-5) (-5) 0 mc v7 mn mp mo) wc_X6_gainOfAll wl_X6_187 wi_X6_gainOfAll we_X6_gainOfAll wz_X6 ⟨by decide, by decide, by decide +kernel⟩ ⟨(Nat.le_of_ble_eq_true rfl), (Nat.le_of_ble_eq_true rfl)⟩ hP hD hS EF.ok hX [0, 1] rfl (by decide) 0 rfl rfl rfl rfl hl.1 rfl (Nat.le_of_ble_eq_true rfl) dX6_looksThrough_52 ⟨(Nat.le_of_ble_eq_true rfl), (Nat.le_of_ble_eq_true rfl)⟩) (fun r_13 u_11 H locs w_12 hP hD hS => ?_)
  have hP : va_P D CL [(mo_, .inr (6, [.int 0, .ref ms, .ref mi, .int 0, .int 0, .int 0, .int 0, .int 0, .int 0, .ref mb, .ref mt, .ref ml, .ref mx, .int w1_1, .int 0, .int (-5), .int (-5), .int (-5), .int 0, .ref mc, .int v7, .ref mn, .ref mp, .ref mo, .int 0, .int 0, .int 0, .int 0])), (ms, .inl (cI, 846, .inl (s0)))] H := hP
  have hD : va_D A [(mo_, .inr (6, [.int 0, .ref ms, .ref mi, .int 0, .int 0, .int 0, .int 0, .int 0, .int 0, .ref mb, .ref mt, .ref ml, .ref mx, .int w1_1, .int 0, .int (-5), .int (-5), .int (-5), .int 0, .ref mc, .int v7, .ref mn, .ref mp, .ref mo, .int 0, .int 0, .int 0, .int 0])), (ms, .inl (cI, 846, .inl (s0)))] := hD
  obtain rfl : r_13 = 0 := w_12
  refine lv_istore_n (lv' := [(2, .int 0), (1, .int 0), (0, .ref mo_)]) hx hb dX6_looksThrough_55 rfl hl (by decide) rfl (fun ls hl => ?_)
  refine lv_aload_n hx hb dX6_looksThrough_56 rfl (lv_at hl 2 rfl) ?_
  refine va_get (ci := 6) (v := .int (-5)) (C := RX6) (T := TX6) (N := 28) hx hb hT wu_X6 hown hK hP 0 rfl rfl 17 (by decide) (hT _ wf_X6_199) (fun _ h9 => h9) rfl dX6_looksThrough_57 ?_
  refine lv_bipush (v := (-5)) hx hb dX6_looksThrough_60 (by decide) ?_
  refine lv_icmp_eq (tgt := 73) hx hb dX6_looksThrough_62 (by decide) (fun _ => ?_) (fun c_0 => absurd (by decide) c_0)
  refine lv_iconst (v := 1) hx hb dX6_looksThrough_73 (by decide) ?_
  refine lv_goto (tgt := 78) hx hb dX6_looksThrough_74 (by decide) ?_
  refine lv_istore_n (lv' := [(3, .int 1), (2, .int 0), (1, .int 0), (0, .ref mo_)]) hx hb dX6_looksThrough_78 rfl hl (by decide) rfl (fun ls hl => ?_)
  refine lv_aload_n hx hb dX6_looksThrough_79 rfl (lv_at hl 3 rfl) ?_
  refine lv_iload_n hx hb dX6_looksThrough_80 rfl (lv_at hl 0 rfl) ?_
  refine lv_if_eq (tgt := 88) hx hb dX6_looksThrough_81 (by decide) (fun c_0 => absurd c_0 (by decide)) (fun _ => ?_)
  refine lv_iload_n hx hb dX6_looksThrough_84 rfl (lv_at hl 2 rfl) ?_
  refine lv_goto (tgt := 92) hx hb dX6_looksThrough_85 (by decide) ?_
  refine va_put (ci := 6) (v := .int 0) (ty := .int) (C := RX6) (T := TX6) (N := 28) hx hb hT wu_X6 tyX6 tyX6_ok nmX6 hown hK hP hD hS 0 rfl rfl 17 (by decide) (hT _ wf_X6_199) (fun _ h9 => h9) rfl (by decide +kernel) rfl rfl (Nat.le_of_ble_eq_true rfl) dX6_looksThrough_92 (fun H locs hP hD hS => ?_)
  have hP : va_P D CL [(mo_, .inr (6, [.int 0, .ref ms, .ref mi, .int 0, .int 0, .int 0, .int 0, .int 0, .int 0, .ref mb, .ref mt, .ref ml, .ref mx, .int w1_1, .int 0, .int (-5), .int (-5), .int 0, .int 0, .ref mc, .int v7, .ref mn, .ref mp, .ref mo, .int 0, .int 0, .int 0, .int 0])), (ms, .inl (cI, 846, .inl (s0)))] H := hP
  have hD : va_D A [(mo_, .inr (6, [.int 0, .ref ms, .ref mi, .int 0, .int 0, .int 0, .int 0, .int 0, .int 0, .ref mb, .ref mt, .ref ml, .ref mx, .int w1_1, .int 0, .int (-5), .int (-5), .int 0, .int 0, .ref mc, .int v7, .ref mn, .ref mp, .ref mo, .int 0, .int 0, .int 0, .int 0])), (ms, .inl (cI, 846, .inl (s0)))] := hD
  refine lv_aload_n hx hb dX6_looksThrough_95 rfl (lv_at hl 3 rfl) ?_
  refine lv_iload_n hx hb dX6_looksThrough_96 rfl (lv_at hl 0 rfl) ?_
  refine lv_if_eq (tgt := 104) hx hb dX6_looksThrough_97 (by decide) (fun c_0 => absurd c_0 (by decide)) (fun _ => ?_)
  refine lv_iload_n hx hb dX6_looksThrough_100 rfl (lv_at hl 1 rfl) ?_
  refine lv_goto (tgt := 108) hx hb dX6_looksThrough_101 (by decide) ?_
  refine va_put (ci := 6) (v := .int 0) (ty := .int) (C := RX6) (T := TX6) (N := 28) hx hb hT wu_X6 tyX6 tyX6_ok nmX6 hown hK hP hD hS 0 rfl rfl 18 (by decide) (hT _ wf_X6_202) (fun _ h9 => h9) rfl (by decide +kernel) rfl rfl (Nat.le_of_ble_eq_true rfl) dX6_looksThrough_108 (fun H locs hP hD hS => ?_)
  have hP : va_P D CL [(mo_, .inr (6, [.int 0, .ref ms, .ref mi, .int 0, .int 0, .int 0, .int 0, .int 0, .int 0, .ref mb, .ref mt, .ref ml, .ref mx, .int w1_1, .int 0, .int (-5), .int (-5), .int 0, .int 0, .ref mc, .int v7, .ref mn, .ref mp, .ref mo, .int 0, .int 0, .int 0, .int 0])), (ms, .inl (cI, 846, .inl (s0)))] H := hP
  have hD : va_D A [(mo_, .inr (6, [.int 0, .ref ms, .ref mi, .int 0, .int 0, .int 0, .int 0, .int 0, .int 0, .ref mb, .ref mt, .ref ml, .ref mx, .int w1_1, .int 0, .int (-5), .int (-5), .int 0, .int 0, .ref mc, .int v7, .ref mn, .ref mp, .ref mo, .int 0, .int 0, .int 0, .int 0])), (ms, .inl (cI, 846, .inl (s0)))] := hD
  refine lv_aload_n hx hb dX6_looksThrough_111 rfl (lv_at hl 3 rfl) ?_
  refine lv_aload_n hx hb dX6_looksThrough_112 rfl (lv_at hl 3 rfl) ?_
  refine va_get (ci := 6) (v := .int 0) (C := RX6) (T := TX6) (N := 28) hx hb hT wu_X6 hown hK hP 0 rfl rfl 14 (by decide) (hT _ wf_X6_190) (fun _ h9 => h9) rfl dX6_looksThrough_113 ?_
  refine lv_if_ne (tgt := 123) hx hb dX6_looksThrough_116 (by decide) (fun c_0 => absurd (by decide) c_0) (fun _ => ?_)
  refine lv_iload_n hx hb dX6_looksThrough_119 rfl (lv_at hl 2 rfl) ?_
  refine lv_goto (tgt := 127) hx hb dX6_looksThrough_120 (by decide) ?_
  refine va_put (ci := 6) (v := .int 0) (ty := .int) (C := RX6) (T := TX6) (N := 28) hx hb hT wu_X6 tyX6 tyX6_ok nmX6 hown hK hP hD hS 0 rfl rfl 15 (by decide) (hT _ wf_X6_193) (fun _ h9 => h9) rfl (by decide +kernel) rfl rfl (Nat.le_of_ble_eq_true rfl) dX6_looksThrough_127 (fun H locs hP hD hS => ?_)
  have hP : va_P D CL [(mo_, .inr (6, [.int 0, .ref ms, .ref mi, .int 0, .int 0, .int 0, .int 0, .int 0, .int 0, .ref mb, .ref mt, .ref ml, .ref mx, .int w1_1, .int 0, .int 0, .int (-5), .int 0, .int 0, .ref mc, .int v7, .ref mn, .ref mp, .ref mo, .int 0, .int 0, .int 0, .int 0])), (ms, .inl (cI, 846, .inl (s0)))] H := hP
  have hD : va_D A [(mo_, .inr (6, [.int 0, .ref ms, .ref mi, .int 0, .int 0, .int 0, .int 0, .int 0, .int 0, .ref mb, .ref mt, .ref ml, .ref mx, .int w1_1, .int 0, .int 0, .int (-5), .int 0, .int 0, .ref mc, .int v7, .ref mn, .ref mp, .ref mo, .int 0, .int 0, .int 0, .int 0])), (ms, .inl (cI, 846, .inl (s0)))] := hD
  refine lv_aload_n hx hb dX6_looksThrough_130 rfl (lv_at hl 3 rfl) ?_
  refine lv_iload_n hx hb dX6_looksThrough_131 rfl (lv_at hl 2 rfl) ?_
  refine va_put (ci := 6) (v := .int 0) (ty := .int) (C := RX6) (T := TX6) (N := 28) hx hb hT wu_X6 tyX6 tyX6_ok nmX6 hown hK hP hD hS 0 rfl rfl 16 (by decide) (hT _ wf_X6_196) (fun _ h9 => h9) rfl (by decide +kernel) rfl rfl (Nat.le_of_ble_eq_true rfl) dX6_looksThrough_132 (fun H locs hP hD hS => ?_)
  have hP : va_P D CL [(mo_, .inr (6, [.int 0, .ref ms, .ref mi, .int 0, .int 0, .int 0, .int 0, .int 0, .int 0, .ref mb, .ref mt, .ref ml, .ref mx, .int w1_1, .int 0, .int 0, .int 0, .int 0, .int 0, .ref mc, .int v7, .ref mn, .ref mp, .ref mo, .int 0, .int 0, .int 0, .int 0])), (ms, .inl (cI, 846, .inl (s0)))] H := hP
  have hD : va_D A [(mo_, .inr (6, [.int 0, .ref ms, .ref mi, .int 0, .int 0, .int 0, .int 0, .int 0, .int 0, .ref mb, .ref mt, .ref ml, .ref mx, .int w1_1, .int 0, .int 0, .int 0, .int 0, .int 0, .ref mc, .int v7, .ref mn, .ref mp, .ref mo, .int 0, .int 0, .int 0, .int 0])), (ms, .inl (cI, 846, .inl (s0)))] := hD
  refine lv_aload_n hx hb dX6_looksThrough_135 rfl (lv_at hl 3 rfl) ?_
  refine lv_dup hx hb dX6_looksThrough_136 rfl ?_
  refine va_get (ci := 6) (v := .int 0) (C := RX6) (T := TX6) (N := 28) hx hb hT wu_X6 hown hK hP 0 rfl rfl 14 (by decide) (hT _ wf_X6_190) (fun _ h9 => h9) rfl dX6_looksThrough_137 ?_
  refine lv_iconst (v := 1) hx hb dX6_looksThrough_140 (by decide) ?_
  refine lv_iadd hx hb dX6_looksThrough_141 ?_
  refine lv_ci 1 (by decide +kernel) ?_
  refine va_put (ci := 6) (v := .int 1) (ty := .int) (C := RX6) (T := TX6) (N := 28) hx hb hT wu_X6 tyX6 tyX6_ok nmX6 hown hK hP hD hS 0 rfl rfl 14 (by decide) (hT _ wf_X6_190) (fun _ h9 => h9) rfl (by decide +kernel) rfl rfl (Nat.le_of_ble_eq_true rfl) dX6_looksThrough_142 (fun H locs hP hD hS => ?_)
  have hP : va_P D CL [(mo_, .inr (6, [.int 0, .ref ms, .ref mi, .int 0, .int 0, .int 0, .int 0, .int 0, .int 0, .ref mb, .ref mt, .ref ml, .ref mx, .int w1_1, .int 1, .int 0, .int 0, .int 0, .int 0, .ref mc, .int v7, .ref mn, .ref mp, .ref mo, .int 0, .int 0, .int 0, .int 0])), (ms, .inl (cI, 846, .inl (s0)))] H := hP
  have hD : va_D A [(mo_, .inr (6, [.int 0, .ref ms, .ref mi, .int 0, .int 0, .int 0, .int 0, .int 0, .int 0, .ref mb, .ref mt, .ref ml, .ref mx, .int w1_1, .int 1, .int 0, .int 0, .int 0, .int 0, .ref mc, .int v7, .ref mn, .ref mp, .ref mo, .int 0, .int 0, .int 0, .int 0])), (ms, .inl (cI, 846, .inl (s0)))] := hD
  refine lv_iinc (v := 1) (lv' := [(1, .int 1), (3, .int 1), (2, .int 0), (0, .ref mo_)]) hx hb dX6_looksThrough_145 hl (k := 2) rfl (by decide) (by decide) rfl (fun ls hl => ?_)
  refine lv_goto (tgt := 34) hx hb dX6_looksThrough_148 (by decide) ?_
  refine lv_iload_n hx hb dX6_looksThrough_34 rfl (lv_at hl 0 rfl) ?_
  refine lv_aload_n hx hb dX6_looksThrough_35 rfl (lv_at hl 3 rfl) ?_
  refine contI (wc := [(mo_, .inr (6, [.int 0, .ref ms, .ref mi, .int 0, .int 0, .int 0, .int 0, .int 0, .int 0, .ref mb, .ref mt, .ref ml, .ref mx, .int w1_1, .int 1, .int 0, .int 0, .int 0, .int 0, .ref mc, .int v7, .ref mn, .ref mp, .ref mo, .int 0, .int 0, .int 0, .int 0])), (ms, .inl (cI, 846, .inl (s0)))]) (wr := []) C0 hP hD hS [0, 1] [] rfl rfl (by decide) (by decide) 0 0 (Nat.le_of_ble_eq_true rfl) (Nat.le_of_ble_eq_true rfl) (runV (k := 0) (As := []) (rest := [.int 1]) C0 (m_days l D cI cZ cQ cT _ mo_ ms mi mb mt ml mx w1_1 1 0 0 0 0 mc v7 mn mp mo) wc_X6_days wl_X6_49 wi_X6_days we_X6_days wz_X6 ⟨by decide, by decide, by decide +kernel⟩ ⟨(Nat.le_of_ble_eq_true rfl), (Nat.le_of_ble_eq_true rfl)⟩ hP hD hS EF.ok hX [0, 1] rfl (by decide) 0 rfl rfl rfl rfl hl.1 rfl (Nat.le_of_ble_eq_true rfl) dX6_looksThrough_36 ⟨(Nat.le_of_ble_eq_true rfl), (Nat.le_of_ble_eq_true rfl)⟩) (fun r_16 u_14 H locs w_15 hP hD hS => ?_)
  have hP : va_P D CL [(mo_, .inr (6, [.int 0, .ref ms, .ref mi, .int 0, .int 0, .int 0, .int 0, .int 0, .int 0, .ref mb, .ref mt, .ref ml, .ref mx, .int w1_1, .int 1, .int 0, .int 0, .int 0, .int 0, .ref mc, .int v7, .ref mn, .ref mp, .ref mo, .int 0, .int 0, .int 0, .int 0])), (ms, .inl (cI, 846, .inl (s0)))] H := hP
  have hD : va_D A [(mo_, .inr (6, [.int 0, .ref ms, .ref mi, .int 0, .int 0, .int 0, .int 0, .int 0, .int 0, .ref mb, .ref mt, .ref ml, .ref mx, .int w1_1, .int 1, .int 0, .int 0, .int 0, .int 0, .ref mc, .int v7, .ref mn, .ref mp, .ref mo, .int 0, .int 0, .int 0, .int 0])), (ms, .inl (cI, 846, .inl (s0)))] := hD
  obtain rfl : r_16 = 1 := w_15
  refine lv_icmp_ge (tgt := 151) hx hb dX6_looksThrough_39 (by decide) (fun _ => ?_) (fun c_0 => absurd (by decide) c_0)
  exact retV C0 (w1_1) trivial (hP.sub (ws' := [(mo_, .inr (6, [.int 0, .ref ms, .ref mi, .int 0, .int 0, .int 0, .int 0, .int 0, .int 0, .ref mb, .ref mt, .ref ml, .ref mx, .int w1_1, .int 1, .int 0, .int 0, .int 0, .int 0, .ref mc, .int v7, .ref mn, .ref mp, .ref mo, .int 0, .int 0, .int 0, .int 0])), (ms, .inl (cI, 846, .inl (s0)))]) [0, 1] rfl) (hD.sub (ws' := [(mo_, .inr (6, [.int 0, .ref ms, .ref mi, .int 0, .int 0, .int 0, .int 0, .int 0, .int 0, .ref mb, .ref mt, .ref ml, .ref mx, .int w1_1, .int 1, .int 0, .int 0, .int 0, .int 0, .ref mc, .int v7, .ref mn, .ref mp, .ref mo, .int 0, .int 0, .int 0, .int 0])), (ms, .inl (cI, 846, .inl (s0)))]) [0, 1] (by decide) rfl) hS (Nat.le_of_ble_eq_true rfl) (Nat.le_of_ble_eq_true rfl) dX6_looksThrough_151

set_option maxHeartbeats 4000000 in
set_option maxRecDepth 100000 in
theorem m_all (l : Launch) (D : va_G) (cI cZ cQ cT : ClassId) (sz : Nat) (mo_ : Nat) (p1 : Int32) (ms : Nat) (mi : Nat) (mb : Nat) (mt : Nat) (ml : Nat) (mx : Nat) (mc : Nat) (mn : Nat) (mp : Nat) (mo : Nat)  : MetI l yX6_all cX6_all 2 .int ({ frames := 3, cells := 0, slots := 0, locals := 67 } : Room) [.ref mo_, .int p1] D (TYS cI cZ cQ cT) EF sz [(mo_, .inr (6, [.int 0, .ref ms, .ref mi, .int 0, .int 0, .int 0, .int 0, .int 0, .int 0, .ref mb, .ref mt, .ref ml, .ref mx, .int 0, .int 0, .int 0, .int 0, .int 0, .int 0, .ref mc, .int 0, .ref mn, .ref mp, .ref mo, .int 0, .int 0, .int 0, .int 0])), (ms, .inl (cI, 846, .inl (s0)))] (S := Unit) (fun (r : Int32) (_ : Unit) => r = (if ((0 : Int32) ≤ p1 ∧ p1 ≤ (4 : Int32)) then (if p1 = (0 : Int32) then 1 else (if p1 = (1 : Int32) then 0 else (if p1 = (2 : Int32) then 0 else (if p1 = (3 : Int32) then 0 else 0)))) else (-10001))) (fun _ => []) := by
  refine MetI.mk (lv := [(0, .ref mo_), (1, .int p1)]) (by decide +kernel) (Nat.le_of_ble_eq_true rfl) rfl ?_
  intro p e s m below meth c A ls C0 hP hD hS hX hl
  have C1 := C0
  obtain ⟨hx, hb, hr, hml, hown, hlocks, hname, hT, hN, hK, hA⟩ := C1
  refine lv_iload_n hx hb dX6_all_0 rfl (lv_at hl 1 rfl) ?_
  refine lv_iconst (v := 0) hx hb dX6_all_1 (by decide) ?_
  refine lv_iconst (v := 4) hx hb dX6_all_2 (by decide) ?_
  refine contI (wc := []) (wr := [(mo_, .inr (6, [.int 0, .ref ms, .ref mi, .int 0, .int 0, .int 0, .int 0, .int 0, .int 0, .ref mb, .ref mt, .ref ml, .ref mx, .int 0, .int 0, .int 0, .int 0, .int 0, .int 0, .ref mc, .int 0, .ref mn, .ref mp, .ref mo, .int 0, .int 0, .int 0, .int 0])), (ms, .inl (cI, 846, .inl (s0)))]) C0 hP hD hS [] [0, 1] rfl rfl (by decide) (by decide) 0 0 (Nat.le_of_ble_eq_true rfl) (Nat.le_of_ble_eq_true rfl) (runS (k := 3) (As := [.int p1, .int 0, .int 4]) (rest := []) C0 (mc_in l D cI cZ cQ cT _ p1 0 4) wc_X6_in wl_X6_45 wt_X6_in wz_X6 ⟨by decide, by decide, by decide +kernel⟩ ⟨(Nat.le_of_ble_eq_true rfl), (Nat.le_of_ble_eq_true rfl)⟩ hP hD hS EF.ok hX [] rfl (by decide) rfl hl.1 rfl (Nat.le_of_ble_eq_true rfl) dX6_all_3 ⟨(Nat.le_of_ble_eq_true rfl), (Nat.le_of_ble_eq_true rfl)⟩) (fun r_3 u_1 H locs w_2 hP hD hS => ?_)
  have hP : va_P D CL [(mo_, .inr (6, [.int 0, .ref ms, .ref mi, .int 0, .int 0, .int 0, .int 0, .int 0, .int 0, .ref mb, .ref mt, .ref ml, .ref mx, .int 0, .int 0, .int 0, .int 0, .int 0, .int 0, .ref mc, .int 0, .ref mn, .ref mp, .ref mo, .int 0, .int 0, .int 0, .int 0])), (ms, .inl (cI, 846, .inl (s0)))] H := hP
  have hD : va_D A [(mo_, .inr (6, [.int 0, .ref ms, .ref mi, .int 0, .int 0, .int 0, .int 0, .int 0, .int 0, .ref mb, .ref mt, .ref ml, .ref mx, .int 0, .int 0, .int 0, .int 0, .int 0, .int 0, .ref mc, .int 0, .ref mn, .ref mp, .ref mo, .int 0, .int 0, .int 0, .int 0])), (ms, .inl (cI, 846, .inl (s0)))] := hD
  refine (Decidable.em (((0 : Int32) ≤ p1 ∧ p1 ≤ (4 : Int32)))).elim (fun c_4 => ?_) (fun c_4 => ?_)
  · obtain rfl : r_3 = 1 := w_2.trans (if_pos c_4)
    refine lv_if_ne (tgt := 13) hx hb dX6_all_6 (by decide) (fun _ => ?_) (fun c_0 => absurd c_0 (by decide))
    refine lv_aload_n hx hb dX6_all_13 rfl (lv_at hl 0 rfl) ?_
    refine contV (wc := [(mo_, .inr (6, [.int 0, .ref ms, .ref mi, .int 0, .int 0, .int 0, .int 0, .int 0, .int 0, .ref mb, .ref mt, .ref ml, .ref mx, .int 0, .int 0, .int 0, .int 0, .int 0, .int 0, .ref mc, .int 0, .ref mn, .ref mp, .ref mo, .int 0, .int 0, .int 0, .int 0])), (ms, .inl (cI, 846, .inl (s0)))]) (wr := []) C0 hP hD hS [0, 1] [] rfl rfl (by decide) (by decide) 0 0 (Nat.le_of_ble_eq_true rfl) (Nat.le_of_ble_eq_true rfl) (runV (k := 0) (As := []) (rest := []) C0 (m_looksThrough l D cI cZ cQ cT _ mo_ ms mi mb mt ml mx 0 0 0 0 0 0 mc 0 mn mp mo) wc_X6_looksThrough wl_X6_208 wi_X6_looksThrough we_X6_looksThrough wz_X6 ⟨by decide, by decide, by decide +kernel⟩ ⟨(Nat.le_of_ble_eq_true rfl), (Nat.le_of_ble_eq_true rfl)⟩ hP hD hS EF.ok hX [0, 1] rfl (by decide) 0 rfl rfl rfl rfl hl.1 rfl (Nat.le_of_ble_eq_true rfl) dX6_all_14 ⟨(Nat.le_of_ble_eq_true rfl), (Nat.le_of_ble_eq_true rfl)⟩) (fun u_6 H locs w_7 hP hD hS => ?_)
    obtain ⟨w1_5, rfl⟩ : ∃ z, z = u_6 := ⟨_, rfl⟩
    have hP : va_P D CL [(mo_, .inr (6, [.int 0, .ref ms, .ref mi, .int 0, .int 0, .int 0, .int 0, .int 0, .int 0, .ref mb, .ref mt, .ref ml, .ref mx, .int w1_5, .int 1, .int 0, .int 0, .int 0, .int 0, .ref mc, .int 0, .ref mn, .ref mp, .ref mo, .int 0, .int 0, .int 0, .int 0])), (ms, .inl (cI, 846, .inl (s0)))] H := hP
    have hD : va_D A [(mo_, .inr (6, [.int 0, .ref ms, .ref mi, .int 0, .int 0, .int 0, .int 0, .int 0, .int 0, .ref mb, .ref mt, .ref ml, .ref mx, .int w1_5, .int 1, .int 0, .int 0, .int 0, .int 0, .ref mc, .int 0, .ref mn, .ref mp, .ref mo, .int 0, .int 0, .int 0, .int 0])), (ms, .inl (cI, 846, .inl (s0)))] := hD
    refine lv_iload_n hx hb dX6_all_17 rfl (lv_at hl 1 rfl) ?_
    refine (Decidable.em (p1 = (0 : Int32))).elim (fun c_9 => ?_) (fun c_9 => ?_)
    · refine lv_tableIn (off := 30) (tgt := 48) hx hb dX6_all_18 (by rw [c_9]; decide) (by rw [c_9]; decide) (by rw [c_9]; rfl) (by decide) ?_
      refine lv_aload_n hx hb dX6_all_48 rfl (lv_at hl 0 rfl) ?_
      refine va_get (ci := 6) (v := .int 1) (C := RX6) (T := TX6) (N := 28) hx hb hT wu_X6 hown hK hP 0 rfl rfl 14 (by decide) (hT _ wf_X6_190) (fun _ h9 => h9) rfl dX6_all_49 ?_
      exact retI C0 rfl () (((if_pos c_4).trans ((if_pos c_9))).symm) (hP.sub (ws' := []) [] rfl) (hD.sub (ws' := []) [] (by decide) rfl) hS (Nat.le_of_ble_eq_true rfl) (Nat.le_of_ble_eq_true rfl) dX6_all_52
    · skip
      refine (Decidable.em (p1 = (1 : Int32))).elim (fun c_10 => ?_) (fun c_10 => ?_)
      · refine lv_tableIn (off := 35) (tgt := 53) hx hb dX6_all_18 (by rw [c_10]; decide) (by rw [c_10]; decide) (by rw [c_10]; rfl) (by decide) ?_
        refine lv_aload_n hx hb dX6_all_53 rfl (lv_at hl 0 rfl) ?_
        refine va_get (ci := 6) (v := .int 0) (C := RX6) (T := TX6) (N := 28) hx hb hT wu_X6 hown hK hP 0 rfl rfl 15 (by decide) (hT _ wf_X6_193) (fun _ h9 => h9) rfl dX6_all_54 ?_
        exact retI C0 rfl () (((if_pos c_4).trans ((if_neg c_9).trans ((if_pos c_10)))).symm) (hP.sub (ws' := []) [] rfl) (hD.sub (ws' := []) [] (by decide) rfl) hS (Nat.le_of_ble_eq_true rfl) (Nat.le_of_ble_eq_true rfl) dX6_all_57
      · skip
        refine (Decidable.em (p1 = (2 : Int32))).elim (fun c_11 => ?_) (fun c_11 => ?_)
        · refine lv_tableIn (off := 40) (tgt := 58) hx hb dX6_all_18 (by rw [c_11]; decide) (by rw [c_11]; decide) (by rw [c_11]; rfl) (by decide) ?_
          refine lv_aload_n hx hb dX6_all_58 rfl (lv_at hl 0 rfl) ?_
          refine va_get (ci := 6) (v := .int 0) (C := RX6) (T := TX6) (N := 28) hx hb hT wu_X6 hown hK hP 0 rfl rfl 16 (by decide) (hT _ wf_X6_196) (fun _ h9 => h9) rfl dX6_all_59 ?_
          exact retI C0 rfl () (((if_pos c_4).trans ((if_neg c_9).trans ((if_neg c_10).trans ((if_pos c_11))))).symm) (hP.sub (ws' := []) [] rfl) (hD.sub (ws' := []) [] (by decide) rfl) hS (Nat.le_of_ble_eq_true rfl) (Nat.le_of_ble_eq_true rfl) dX6_all_62
        · skip
          refine (Decidable.em (p1 = (3 : Int32))).elim (fun c_12 => ?_) (fun c_12 => ?_)
          · refine lv_tableIn (off := 45) (tgt := 63) hx hb dX6_all_18 (by rw [c_12]; decide) (by rw [c_12]; decide) (by rw [c_12]; rfl) (by decide) ?_
            refine lv_aload_n hx hb dX6_all_63 rfl (lv_at hl 0 rfl) ?_
            refine va_get (ci := 6) (v := .int 0) (C := RX6) (T := TX6) (N := 28) hx hb hT wu_X6 hown hK hP 0 rfl rfl 17 (by decide) (hT _ wf_X6_199) (fun _ h9 => h9) rfl dX6_all_64 ?_
            exact retI C0 rfl () (((if_pos c_4).trans ((if_neg c_9).trans ((if_neg c_10).trans ((if_neg c_11).trans ((if_pos c_12)))))).symm) (hP.sub (ws' := []) [] rfl) (hD.sub (ws' := []) [] (by decide) rfl) hS (Nat.le_of_ble_eq_true rfl) (Nat.le_of_ble_eq_true rfl) dX6_all_67
          · skip
            refine lv_tableOut (tgt := 68) hx hb dX6_all_18 (by have e0 := ne_toInt (k := 0) c_9 (by decide); have e1 := ne_toInt (k := 1) c_10 (by decide); have e2 := ne_toInt (k := 2) c_11 (by decide); have e3 := ne_toInt (k := 3) c_12 (by decide); omega) (by decide) ?_
            refine lv_aload_n hx hb dX6_all_68 rfl (lv_at hl 0 rfl) ?_
            refine va_get (ci := 6) (v := .int 1) (C := RX6) (T := TX6) (N := 28) hx hb hT wu_X6 hown hK hP 0 rfl rfl 14 (by decide) (hT _ wf_X6_190) (fun _ h9 => h9) rfl dX6_all_69 ?_
            refine lv_if_ne (tgt := 80) hx hb dX6_all_72 (by decide) (fun _ => ?_) (fun c_0 => absurd c_0 (by decide))
            refine lv_aload_n hx hb dX6_all_80 rfl (lv_at hl 0 rfl) ?_
            refine va_get (ci := 6) (v := .int 0) (C := RX6) (T := TX6) (N := 28) hx hb hT wu_X6 hown hK hP 0 rfl rfl 18 (by decide) (hT _ wf_X6_202) (fun _ h9 => h9) rfl dX6_all_81 ?_
            exact retI C0 rfl () (((if_pos c_4).trans ((if_neg c_9).trans ((if_neg c_10).trans ((if_neg c_11).trans ((if_neg c_12)))))).symm) (hP.sub (ws' := []) [] rfl) (hD.sub (ws' := []) [] (by decide) rfl) hS (Nat.le_of_ble_eq_true rfl) (Nat.le_of_ble_eq_true rfl) dX6_all_84
  · obtain rfl : r_3 = 0 := w_2.trans (if_neg c_4)
    refine lv_if_ne (tgt := 13) hx hb dX6_all_6 (by decide) (fun c_0 => absurd (by decide) c_0) (fun _ => ?_)
    refine lv_sipush (v := (-10001)) hx hb dX6_all_9 (by decide) ?_
    exact retI C0 rfl () (((if_neg c_4)).symm) (hP.sub (ws' := []) [] rfl) (hD.sub (ws' := []) [] (by decide) rfl) hS (Nat.le_of_ble_eq_true rfl) (Nat.le_of_ble_eq_true rfl) dX6_all_12

set_option maxHeartbeats 4000000 in
set_option maxRecDepth 100000 in
theorem m_once (l : Launch) (D : va_G) (cI cZ cQ cT : ClassId) (sz : Nat) (mo_ : Nat) (p1 : Int32) (p2 : Int32) (p3 : Int32) (p4 : Int32) (ms : Nat) (mi : Nat) (mb : Nat) (mt : Nat) (ml : Nat) (mx : Nat) (mc : Nat) (mn : Nat) (mp : Nat) (mo : Nat)  : MetI l yX6_once cX6_once 8 .int ({ frames := 2, cells := 0, slots := 0, locals := 43 } : Room) [.ref mo_, .int p1, .int p2, .int p3, .int p4] D (TYS cI cZ cQ cT) EF sz [(mo_, .inr (6, [.int 0, .ref ms, .ref mi, .int 0, .int 0, .int 0, .int 0, .int 0, .int 0, .ref mb, .ref mt, .ref ml, .ref mx, .int 0, .int 0, .int 0, .int 0, .int 0, .int 0, .ref mc, .int 0, .ref mn, .ref mp, .ref mo, .int 0, .int 0, .int 0, .int 0])), (ms, .inl (cI, 846, .inl (s0)))] (S := Unit) (fun (r : Int32) (_ : Unit) => r = (-1)) (fun _ => []) := by
  refine MetI.mk (lv := [(0, .ref mo_), (1, .int p1), (2, .int p2), (3, .int p3), (4, .int p4)]) (by decide +kernel) (Nat.le_of_ble_eq_true rfl) rfl ?_
  intro p e s m below meth c A ls C0 hP hD hS hX hl
  have C1 := C0
  obtain ⟨hx, hb, hr, hml, hown, hlocks, hname, hT, hN, hK, hA⟩ := C1
  refine lv_aload_n hx hb dX6_once_0 rfl (lv_at hl 0 rfl) ?_
  refine lv_iload_n hx hb dX6_once_1 rfl (lv_at hl 2 rfl) ?_
  refine contI (wc := [(mo_, .inr (6, [.int 0, .ref ms, .ref mi, .int 0, .int 0, .int 0, .int 0, .int 0, .int 0, .ref mb, .ref mt, .ref ml, .ref mx, .int 0, .int 0, .int 0, .int 0, .int 0, .int 0, .ref mc, .int 0, .ref mn, .ref mp, .ref mo, .int 0, .int 0, .int 0, .int 0])), (ms, .inl (cI, 846, .inl (s0)))]) (wr := []) C0 hP hD hS [0, 1] [] rfl rfl (by decide) (by decide) 0 0 (Nat.le_of_ble_eq_true rfl) (Nat.le_of_ble_eq_true rfl) (runV (k := 1) (As := [.int p2]) (rest := []) C0 (m_isPerson l D cI cZ cQ cT _ mo_ p2 ms mi mb mt ml mx 0 0 0 0 0 0 mc 0 mn mp mo) wc_X6_isPerson wl_X6_152 wi_X6_isPerson we_X6_isPerson wz_X6 ⟨by decide, by decide, by decide +kernel⟩ ⟨(Nat.le_of_ble_eq_true rfl), (Nat.le_of_ble_eq_true rfl)⟩ hP hD hS EF.ok hX [0, 1] rfl (by decide) 0 rfl rfl rfl rfl hl.1 rfl (Nat.le_of_ble_eq_true rfl) dX6_once_2 ⟨(Nat.le_of_ble_eq_true rfl), (Nat.le_of_ble_eq_true rfl)⟩) (fun r_3 u_1 H locs w_2 hP hD hS => ?_)
  have hP : va_P D CL [(mo_, .inr (6, [.int 0, .ref ms, .ref mi, .int 0, .int 0, .int 0, .int 0, .int 0, .int 0, .ref mb, .ref mt, .ref ml, .ref mx, .int 0, .int 0, .int 0, .int 0, .int 0, .int 0, .ref mc, .int 0, .ref mn, .ref mp, .ref mo, .int 0, .int 0, .int 0, .int 0])), (ms, .inl (cI, 846, .inl (s0)))] H := hP
  have hD : va_D A [(mo_, .inr (6, [.int 0, .ref ms, .ref mi, .int 0, .int 0, .int 0, .int 0, .int 0, .int 0, .ref mb, .ref mt, .ref ml, .ref mx, .int 0, .int 0, .int 0, .int 0, .int 0, .int 0, .ref mc, .int 0, .ref mn, .ref mp, .ref mo, .int 0, .int 0, .int 0, .int 0])), (ms, .inl (cI, 846, .inl (s0)))] := hD
  obtain rfl : r_3 = 0 := w_2
  refine lv_if_eq (tgt := 25) hx hb dX6_once_5 (by decide) (fun _ => ?_) (fun c_0 => absurd (by decide) c_0)
  refine lv_iconst (v := (-1)) hx hb dX6_once_25 (by decide) ?_
  exact retI C0 rfl () rfl (hP.sub (ws' := []) [] rfl) (hD.sub (ws' := []) [] (by decide) rfl) hS (Nat.le_of_ble_eq_true rfl) (Nat.le_of_ble_eq_true rfl) dX6_once_26

set_option maxHeartbeats 4000000 in
set_option maxRecDepth 100000 in
theorem m_again (l : Launch) (D : va_G) (cI cZ cQ cT : ClassId) (sz : Nat) (mo_ : Nat) (p1 : Int32) (p2 : Int32) (ms : Nat) (mi : Nat) (mb : Nat) (mt : Nat) (ml : Nat) (mx : Nat) (mc : Nat) (mn : Nat) (mp : Nat) (mo : Nat) (fc : Nat → Int32)  : MetI l yX6_again cX6_again 5 .int ({ frames := 2, cells := 0, slots := 0, locals := 43 } : Room) [.ref mo_, .int p1, .int p2] D (TYS cI cZ cQ cT) EF sz [(mo_, .inr (6, [.int 0, .ref ms, .ref mi, .int 0, .int 0, .int 0, .int 0, .int 0, .int 0, .ref mb, .ref mt, .ref ml, .ref mx, .int 0, .int 0, .int 0, .int 0, .int 0, .int 0, .ref mc, .int 0, .ref mn, .ref mp, .ref mo, .int 0, .int 0, .int 0, .int 0])), (ms, .inl (cI, 846, .inl (s0))), (mc, .inl (cI, 201, .inl fc))] (S := Unit) (fun (r : Int32) (_ : Unit) => r = (if ((0 : Int32) ≤ p2 ∧ p2 ≤ (1 : Int32)) then (if (p1 = 0) then (if p2 = (0 : Int32) then 1 else 1) else (-2)) else (-1))) (fun _ => []) := by
  refine MetI.mk (lv := [(0, .ref mo_), (1, .int p1), (2, .int p2)]) (by decide +kernel) (Nat.le_of_ble_eq_true rfl) rfl ?_
  intro p e s m below meth c A ls C0 hP hD hS hX hl
  have C1 := C0
  obtain ⟨hx, hb, hr, hml, hown, hlocks, hname, hT, hN, hK, hA⟩ := C1
  refine lv_iload_n hx hb dX6_again_0 rfl (lv_at hl 2 rfl) ?_
  refine lv_iconst (v := 0) hx hb dX6_again_1 (by decide) ?_
  refine lv_iconst (v := 1) hx hb dX6_again_2 (by decide) ?_
  refine contI (wc := []) (wr := [(mo_, .inr (6, [.int 0, .ref ms, .ref mi, .int 0, .int 0, .int 0, .int 0, .int 0, .int 0, .ref mb, .ref mt, .ref ml, .ref mx, .int 0, .int 0, .int 0, .int 0, .int 0, .int 0, .ref mc, .int 0, .ref mn, .ref mp, .ref mo, .int 0, .int 0, .int 0, .int 0])), (ms, .inl (cI, 846, .inl (s0))), (mc, .inl (cI, 201, .inl fc))]) C0 hP hD hS [] [0, 1, 2] rfl rfl (by decide) (by decide) 0 0 (Nat.le_of_ble_eq_true rfl) (Nat.le_of_ble_eq_true rfl) (runS (k := 3) (As := [.int p2, .int 0, .int 1]) (rest := []) C0 (mc_in l D cI cZ cQ cT _ p2 0 1) wc_X6_in wl_X6_45 wt_X6_in wz_X6 ⟨by decide, by decide, by decide +kernel⟩ ⟨(Nat.le_of_ble_eq_true rfl), (Nat.le_of_ble_eq_true rfl)⟩ hP hD hS EF.ok hX [] rfl (by decide) rfl hl.1 rfl (Nat.le_of_ble_eq_true rfl) dX6_again_3 ⟨(Nat.le_of_ble_eq_true rfl), (Nat.le_of_ble_eq_true rfl)⟩) (fun r_3 u_1 H locs w_2 hP hD hS => ?_)
  have hP : va_P D CL [(mo_, .inr (6, [.int 0, .ref ms, .ref mi, .int 0, .int 0, .int 0, .int 0, .int 0, .int 0, .ref mb, .ref mt, .ref ml, .ref mx, .int 0, .int 0, .int 0, .int 0, .int 0, .int 0, .ref mc, .int 0, .ref mn, .ref mp, .ref mo, .int 0, .int 0, .int 0, .int 0])), (ms, .inl (cI, 846, .inl (s0))), (mc, .inl (cI, 201, .inl fc))] H := hP
  have hD : va_D A [(mo_, .inr (6, [.int 0, .ref ms, .ref mi, .int 0, .int 0, .int 0, .int 0, .int 0, .int 0, .ref mb, .ref mt, .ref ml, .ref mx, .int 0, .int 0, .int 0, .int 0, .int 0, .int 0, .ref mc, .int 0, .ref mn, .ref mp, .ref mo, .int 0, .int 0, .int 0, .int 0])), (ms, .inl (cI, 846, .inl (s0))), (mc, .inl (cI, 201, .inl fc))] := hD
  refine (Decidable.em (((0 : Int32) ≤ p2 ∧ p2 ≤ (1 : Int32)))).elim (fun c_4 => ?_) (fun c_4 => ?_)
  · obtain rfl : r_3 = 1 := w_2.trans (if_pos c_4)
    refine lv_if_ne (tgt := 11) hx hb dX6_again_6 (by decide) (fun _ => ?_) (fun c_0 => absurd c_0 (by decide))
    refine lv_aload_n hx hb dX6_again_11 rfl (lv_at hl 0 rfl) ?_
    refine lv_iload_n hx hb dX6_again_12 rfl (lv_at hl 1 rfl) ?_
    refine contI (wc := [(mo_, .inr (6, [.int 0, .ref ms, .ref mi, .int 0, .int 0, .int 0, .int 0, .int 0, .int 0, .ref mb, .ref mt, .ref ml, .ref mx, .int 0, .int 0, .int 0, .int 0, .int 0, .int 0, .ref mc, .int 0, .ref mn, .ref mp, .ref mo, .int 0, .int 0, .int 0, .int 0])), (ms, .inl (cI, 846, .inl (s0)))]) (wr := [(mc, .inl (cI, 201, .inl fc))]) C0 hP hD hS [0, 1] [2] rfl rfl (by decide) (by decide) 0 0 (Nat.le_of_ble_eq_true rfl) (Nat.le_of_ble_eq_true rfl) (runV (k := 1) (As := [.int p1]) (rest := []) C0 (m_isDay l D cI cZ cQ cT _ mo_ p1 ms mi mb mt ml mx 0 0 0 0 0 0 mc 0 mn mp mo) wc_X6_isDay wl_X6_156 wi_X6_isDay we_X6_isDay wz_X6 ⟨by decide, by decide, by decide +kernel⟩ ⟨(Nat.le_of_ble_eq_true rfl), (Nat.le_of_ble_eq_true rfl)⟩ hP hD hS EF.ok hX [0, 1] rfl (by decide) 0 rfl rfl rfl rfl hl.1 rfl (Nat.le_of_ble_eq_true rfl) dX6_again_13 ⟨(Nat.le_of_ble_eq_true rfl), (Nat.le_of_ble_eq_true rfl)⟩) (fun r_7 u_5 H locs w_6 hP hD hS => ?_)
    have hP : va_P D CL [(mc, .inl (cI, 201, .inl fc)), (mo_, .inr (6, [.int 0, .ref ms, .ref mi, .int 0, .int 0, .int 0, .int 0, .int 0, .int 0, .ref mb, .ref mt, .ref ml, .ref mx, .int 0, .int 0, .int 0, .int 0, .int 0, .int 0, .ref mc, .int 0, .ref mn, .ref mp, .ref mo, .int 0, .int 0, .int 0, .int 0])), (ms, .inl (cI, 846, .inl (s0)))] H := hP
    have hD : va_D A [(mc, .inl (cI, 201, .inl fc)), (mo_, .inr (6, [.int 0, .ref ms, .ref mi, .int 0, .int 0, .int 0, .int 0, .int 0, .int 0, .ref mb, .ref mt, .ref ml, .ref mx, .int 0, .int 0, .int 0, .int 0, .int 0, .int 0, .ref mc, .int 0, .ref mn, .ref mp, .ref mo, .int 0, .int 0, .int 0, .int 0])), (ms, .inl (cI, 846, .inl (s0)))] := hD
    refine (Decidable.em ((p1 = 0))).elim (fun c_8 => ?_) (fun c_8 => ?_)
    · obtain rfl : r_7 = 1 := w_6.trans (if_pos c_8)
      subst c_8
      refine lv_if_ne (tgt := 22) hx hb dX6_again_16 (by decide) (fun _ => ?_) (fun c_0 => absurd c_0 (by decide))
      refine lv_aload_n hx hb dX6_again_22 rfl (lv_at hl 0 rfl) ?_
      refine contV (wc := [(mo_, .inr (6, [.int 0, .ref ms, .ref mi, .int 0, .int 0, .int 0, .int 0, .int 0, .int 0, .ref mb, .ref mt, .ref ml, .ref mx, .int 0, .int 0, .int 0, .int 0, .int 0, .int 0, .ref mc, .int 0, .ref mn, .ref mp, .ref mo, .int 0, .int 0, .int 0, .int 0])), (ms, .inl (cI, 846, .inl (s0)))]) (wr := [(mc, .inl (cI, 201, .inl fc))]) C0 hP hD hS [1, 2] [0] rfl rfl (by decide) (by decide) 0 0 (Nat.le_of_ble_eq_true rfl) (Nat.le_of_ble_eq_true rfl) (runV (k := 0) (As := []) (rest := []) C0 (m_looks l D cI cZ cQ cT _ mo_ ms mi mb mt ml mx 0 0 0 0 0 0 mc 0 mn mp mo) wc_X6_looks wl_X6_181 wi_X6_looks we_X6_looks wz_X6 ⟨by decide, by decide, by decide +kernel⟩ ⟨(Nat.le_of_ble_eq_true rfl), (Nat.le_of_ble_eq_true rfl)⟩ hP hD hS EF.ok hX [1, 2] rfl (by decide) 1 rfl rfl rfl rfl hl.1 rfl (Nat.le_of_ble_eq_true rfl) dX6_again_23 ⟨(Nat.le_of_ble_eq_true rfl), (Nat.le_of_ble_eq_true rfl)⟩) (fun u_10 H locs w_11 hP hD hS => ?_)
      obtain ⟨w1_9, rfl⟩ : ∃ z, z = u_10 := ⟨_, rfl⟩
      have hP : va_P D CL [(mc, .inl (cI, 201, .inl fc)), (mo_, .inr (6, [.int 0, .ref ms, .ref mi, .int 0, .int 0, .int 0, .int 0, .int 0, .int 0, .ref mb, .ref mt, .ref ml, .ref mx, .int w1_9, .int 0, .int 0, .int 0, .int 0, .int 0, .ref mc, .int 0, .ref mn, .ref mp, .ref mo, .int 0, .int 0, .int 0, .int 0])), (ms, .inl (cI, 846, .inl (s0)))] H := hP
      have hD : va_D A [(mc, .inl (cI, 201, .inl fc)), (mo_, .inr (6, [.int 0, .ref ms, .ref mi, .int 0, .int 0, .int 0, .int 0, .int 0, .int 0, .ref mb, .ref mt, .ref ml, .ref mx, .int w1_9, .int 0, .int 0, .int 0, .int 0, .int 0, .ref mc, .int 0, .ref mn, .ref mp, .ref mo, .int 0, .int 0, .int 0, .int 0])), (ms, .inl (cI, 846, .inl (s0)))] := hD
      refine lv_aload_n hx hb dX6_again_26 rfl (lv_at hl 0 rfl) ?_
      refine va_get (ci := 6) (v := .ref mc) (C := RX6) (T := TX6) (N := 28) hx hb hT wu_X6 hown hK hP 1 rfl rfl 19 (by decide) (hT _ wf_X6_29) (fun _ h9 => h9) rfl dX6_again_27 ?_
      refine lv_iconst (v := 0) hx hb dX6_again_30 (by decide) ?_
      refine lv_iload_n hx hb dX6_again_31 rfl (lv_at hl 1 rfl) ?_
      refine va_iast hx hb hK hP hD hS 0 0 rfl rfl (vin _ _ (by decide +kernel)) dX6_again_32 (fun H locs hP hD hS => ?_)
      have hP : va_P D CL [(mc, .inl (cI, 201, .inl (upd fc ((0 : Int32)).toNatClampNeg 0))), (mo_, .inr (6, [.int 0, .ref ms, .ref mi, .int 0, .int 0, .int 0, .int 0, .int 0, .int 0, .ref mb, .ref mt, .ref ml, .ref mx, .int w1_9, .int 0, .int 0, .int 0, .int 0, .int 0, .ref mc, .int 0, .ref mn, .ref mp, .ref mo, .int 0, .int 0, .int 0, .int 0])), (ms, .inl (cI, 846, .inl (s0)))] H := hP
      have hD : va_D A [(mc, .inl (cI, 201, .inl (upd fc ((0 : Int32)).toNatClampNeg 0))), (mo_, .inr (6, [.int 0, .ref ms, .ref mi, .int 0, .int 0, .int 0, .int 0, .int 0, .int 0, .ref mb, .ref mt, .ref ml, .ref mx, .int w1_9, .int 0, .int 0, .int 0, .int 0, .int 0, .ref mc, .int 0, .ref mn, .ref mp, .ref mo, .int 0, .int 0, .int 0, .int 0])), (ms, .inl (cI, 846, .inl (s0)))] := hD
      refine lv_iconst (v := 1) hx hb dX6_again_33 (by decide) ?_
      refine lv_istore_n (lv' := [(3, .int 1), (0, .ref mo_), (1, .int 0), (2, .int p2)]) hx hb dX6_again_34 rfl hl (by decide) rfl (fun ls hl => ?_)
      refine lv_iload_n hx hb dX6_again_35 rfl (lv_at hl 0 rfl) ?_
      refine lv_sipush (v := 200) hx hb dX6_again_36 (by decide) ?_
      refine lv_icmp_gt (tgt := 110) hx hb dX6_again_39 (by decide) (fun c_0 => absurd c_0 (by decide)) (fun _ => ?_)
      refine lv_aload_n hx hb dX6_again_42 rfl (lv_at hl 1 rfl) ?_
      refine va_get (ci := 6) (v := .ref mc) (C := RX6) (T := TX6) (N := 28) hx hb hT wu_X6 hown hK hP 1 rfl rfl 19 (by decide) (hT _ wf_X6_29) (fun _ h9 => h9) rfl dX6_again_43 ?_
      refine lv_iload_n hx hb dX6_again_46 rfl (lv_at hl 0 rfl) ?_
      refine lv_aload_n hx hb dX6_again_47 rfl (lv_at hl 1 rfl) ?_
      refine lv_aload_n hx hb dX6_again_48 rfl (lv_at hl 1 rfl) ?_
      refine va_get (ci := 6) (v := .ref mc) (C := RX6) (T := TX6) (N := 28) hx hb hT wu_X6 hown hK hP 1 rfl rfl 19 (by decide) (hT _ wf_X6_29) (fun _ h9 => h9) rfl dX6_again_49 ?_
      refine lv_iload_n hx hb dX6_again_52 rfl (lv_at hl 0 rfl) ?_
      refine lv_iconst (v := 1) hx hb dX6_again_53 (by decide) ?_
      refine lv_isub hx hb dX6_again_54 ?_
      refine lv_ci 0 (by decide +kernel) ?_
      refine va_iald hx hb hK hP 0 0 rfl rfl (vin _ _ (by decide +kernel)) dX6_again_55 ?_
      refine lv_ci 0 (pk_us) ?_
      refine contI (wc := [(mo_, .inr (6, [.int 0, .ref ms, .ref mi, .int 0, .int 0, .int 0, .int 0, .int 0, .int 0, .ref mb, .ref mt, .ref ml, .ref mx, .int w1_9, .int 0, .int 0, .int 0, .int 0, .int 0, .ref mc, .int 0, .ref mn, .ref mp, .ref mo, .int 0, .int 0, .int 0, .int 0])), (ms, .inl (cI, 846, .inl (s0)))]) (wr := [(mc, .inl (cI, 201, .inl (upd fc ((0 : Int32)).toNatClampNeg 0)))]) C0 hP hD hS [1, 2] [0] rfl rfl (by decide) (by decide) 0 0 (Nat.le_of_ble_eq_true rfl) (Nat.le_of_ble_eq_true rfl) (runV (k := 1) (As := [.int 0]) (rest := [.int 1, .ref mc]) C0 (m_answerTo l D cI cZ cQ cT _ mo_ 0 ms mi mb mt ml mx w1_9 0 0 0 0 0 mc 0 mn mp mo) wc_X6_answerTo wl_X6_184 wi_X6_answerTo we_X6_answerTo wz_X6 ⟨by decide, by decide, by decide +kernel⟩ ⟨(Nat.le_of_ble_eq_true rfl), (Nat.le_of_ble_eq_true rfl)⟩ hP hD hS EF.ok hX [1, 2] rfl (by decide) 1 rfl rfl rfl rfl hl.1 rfl (Nat.le_of_ble_eq_true rfl) dX6_again_56 ⟨(Nat.le_of_ble_eq_true rfl), (Nat.le_of_ble_eq_true rfl)⟩) (fun r_15 u_13 H locs w_14 hP hD hS => ?_)
      have hP : va_P D CL [(mc, .inl (cI, 201, .inl (upd fc ((0 : Int32)).toNatClampNeg 0))), (mo_, .inr (6, [.int 0, .ref ms, .ref mi, .int 0, .int 0, .int 0, .int 0, .int 0, .int 0, .ref mb, .ref mt, .ref ml, .ref mx, .int w1_9, .int 0, .int 0, .int 0, .int 0, .int 0, .ref mc, .int 0, .ref mn, .ref mp, .ref mo, .int 0, .int 0, .int 0, .int 0])), (ms, .inl (cI, 846, .inl (s0)))] H := hP
      have hD : va_D A [(mc, .inl (cI, 201, .inl (upd fc ((0 : Int32)).toNatClampNeg 0))), (mo_, .inr (6, [.int 0, .ref ms, .ref mi, .int 0, .int 0, .int 0, .int 0, .int 0, .int 0, .ref mb, .ref mt, .ref ml, .ref mx, .int w1_9, .int 0, .int 0, .int 0, .int 0, .int 0, .ref mc, .int 0, .ref mn, .ref mp, .ref mo, .int 0, .int 0, .int 0, .int 0])), (ms, .inl (cI, 846, .inl (s0)))] := hD
      obtain rfl : r_15 = 0 := w_14
      refine va_iast hx hb hK hP hD hS 0 0 rfl rfl (vin _ _ (by decide +kernel)) dX6_again_59 (fun H locs hP hD hS => ?_)
      have hP : va_P D CL [(mc, .inl (cI, 201, .inl (upd (upd fc ((0 : Int32)).toNatClampNeg 0) ((1 : Int32)).toNatClampNeg 0))), (mo_, .inr (6, [.int 0, .ref ms, .ref mi, .int 0, .int 0, .int 0, .int 0, .int 0, .int 0, .ref mb, .ref mt, .ref ml, .ref mx, .int w1_9, .int 0, .int 0, .int 0, .int 0, .int 0, .ref mc, .int 0, .ref mn, .ref mp, .ref mo, .int 0, .int 0, .int 0, .int 0])), (ms, .inl (cI, 846, .inl (s0)))] H := hP
      have hD : va_D A [(mc, .inl (cI, 201, .inl (upd (upd fc ((0 : Int32)).toNatClampNeg 0) ((1 : Int32)).toNatClampNeg 0))), (mo_, .inr (6, [.int 0, .ref ms, .ref mi, .int 0, .int 0, .int 0, .int 0, .int 0, .int 0, .ref mb, .ref mt, .ref ml, .ref mx, .int w1_9, .int 0, .int 0, .int 0, .int 0, .int 0, .ref mc, .int 0, .ref mn, .ref mp, .ref mo, .int 0, .int 0, .int 0, .int 0])), (ms, .inl (cI, 846, .inl (s0)))] := hD
      refine lv_iconst (v := 0) hx hb dX6_again_60 (by decide) ?_
      refine lv_istore (lv' := [(4, .int 0), (3, .int 1), (0, .ref mo_), (1, .int 0), (2, .int p2)]) hx hb dX6_again_61 hl (by decide) rfl (fun ls hl => ?_)
      refine lv_iload hx hb dX6_again_63 (lv_at hl 0 rfl) ?_
      refine lv_iload_n hx hb dX6_again_65 rfl (lv_at hl 1 rfl) ?_
      refine lv_icmp_ge (tgt := 104) hx hb dX6_again_66 (by decide) (fun c_0 => absurd c_0 (by decide)) (fun _ => ?_)
      refine lv_aload_n hx hb dX6_again_69 rfl (lv_at hl 2 rfl) ?_
      refine va_get (ci := 6) (v := .ref mc) (C := RX6) (T := TX6) (N := 28) hx hb hT wu_X6 hown hK hP 1 rfl rfl 19 (by decide) (hT _ wf_X6_29) (fun _ h9 => h9) rfl dX6_again_70 ?_
      refine lv_iload hx hb dX6_again_73 (lv_at hl 0 rfl) ?_
      refine va_iald hx hb hK hP 0 0 rfl rfl (vin _ _ (by decide +kernel)) dX6_again_75 ?_
      refine lv_ci 0 ((pk_un (by decide +kernel)).trans (pk_us)) ?_
      refine lv_aload_n hx hb dX6_again_76 rfl (lv_at hl 2 rfl) ?_
      refine va_get (ci := 6) (v := .ref mc) (C := RX6) (T := TX6) (N := 28) hx hb hT wu_X6 hown hK hP 1 rfl rfl 19 (by decide) (hT _ wf_X6_29) (fun _ h9 => h9) rfl dX6_again_77 ?_
      refine lv_iload_n hx hb dX6_again_80 rfl (lv_at hl 1 rfl) ?_
      refine va_iald hx hb hK hP 0 0 rfl rfl (vin _ _ (by decide +kernel)) dX6_again_81 ?_
      refine lv_ci 0 (pk_us) ?_
      refine lv_icmp_ne (tgt := 98) hx hb dX6_again_82 (by decide) (fun c_0 => absurd (by decide) c_0) (fun _ => ?_)
      refine lv_iload_n hx hb dX6_again_85 rfl (lv_at hl 4 rfl) ?_
      refine lv_if_ne (tgt := 93) hx hb dX6_again_86 (by decide) (fun c_16 => ?_) (fun c_16 => ?_)
      · refine lv_iload_n hx hb dX6_again_93 rfl (lv_at hl 1 rfl) ?_
        refine lv_iload hx hb dX6_again_94 (lv_at hl 0 rfl) ?_
        refine lv_isub hx hb dX6_again_96 ?_
        refine lv_ci 1 (by decide +kernel) ?_
        exact retI C0 rfl () (((if_pos c_4).trans ((if_pos rfl).trans ((if_neg c_16)))).symm) (hP.sub (ws' := []) [] rfl) (hD.sub (ws' := []) [] (by decide) rfl) hS (Nat.le_of_ble_eq_true rfl) (Nat.le_of_ble_eq_true rfl) dX6_again_97
      · refine lv_iload_n hx hb dX6_again_89 rfl (lv_at hl 1 rfl) ?_
        refine lv_goto (tgt := 97) hx hb dX6_again_90 (by decide) ?_
        exact retI C0 rfl () (((if_pos c_4).trans ((if_pos rfl).trans ((if_pos c_16)))).symm) (hP.sub (ws' := []) [] rfl) (hD.sub (ws' := []) [] (by decide) rfl) hS (Nat.le_of_ble_eq_true rfl) (Nat.le_of_ble_eq_true rfl) dX6_again_97
    · obtain rfl : r_7 = 0 := w_6.trans (if_neg c_8)
      refine lv_if_ne (tgt := 22) hx hb dX6_again_16 (by decide) (fun c_0 => absurd (by decide) c_0) (fun _ => ?_)
      refine lv_bipush (v := (-2)) hx hb dX6_again_19 (by decide) ?_
      exact retI C0 rfl () (((if_pos c_4).trans ((if_neg c_8))).symm) (hP.sub (ws' := []) [] rfl) (hD.sub (ws' := []) [] (by decide) rfl) hS (Nat.le_of_ble_eq_true rfl) (Nat.le_of_ble_eq_true rfl) dX6_again_21
  · obtain rfl : r_3 = 0 := w_2.trans (if_neg c_4)
    refine lv_if_ne (tgt := 11) hx hb dX6_again_6 (by decide) (fun c_0 => absurd (by decide) c_0) (fun _ => ?_)
    refine lv_iconst (v := (-1)) hx hb dX6_again_9 (by decide) ?_
    exact retI C0 rfl () (((if_neg c_4)).symm) (hP.sub (ws' := []) [] rfl) (hD.sub (ws' := []) [] (by decide) rfl) hS (Nat.le_of_ble_eq_true rfl) (Nat.le_of_ble_eq_true rfl) dX6_again_10

set_option maxHeartbeats 4000000 in
set_option maxRecDepth 100000 in
theorem m_morningComes (l : Launch) (D : va_G) (cI cZ cQ cT : ClassId) (sz : Nat) (mo_ : Nat) (ms : Nat) (mi : Nat) (mb : Nat) (mt : Nat) (ml : Nat) (mx : Nat) (v1 : Int32) (v2 : Int32) (v3 : Int32) (v4 : Int32) (v5 : Int32) (v6 : Int32) (mc : Nat) (v7 : Int32) (mn : Nat) (mp : Nat) (mo : Nat)  : MetI l yX6_morningComes cX6_morningComes 5 .int ({ frames := 3, cells := 0, slots := 0, locals := 67 } : Room) [.ref mo_] D (TYS cI cZ cQ cT) EF sz [(mo_, .inr (6, [.int 0, .ref ms, .ref mi, .int 0, .int 0, .int 0, .int 0, .int 0, .int 0, .ref mb, .ref mt, .ref ml, .ref mx, .int v1, .int v2, .int v3, .int v4, .int v5, .int v6, .ref mc, .int v7, .ref mn, .ref mp, .ref mo, .int 0, .int 0, .int 0, .int 0])), (ms, .inl (cI, 846, .inl (s0)))] (S := Int32) (fun (r : Int32) (_ : Int32) => r = 0) (fun u => [(mo_, .inr (6, [.int 0, .ref ms, .ref mi, .int 0, .int 0, .int 0, .int 0, .int 0, .int 0, .ref mb, .ref mt, .ref ml, .ref mx, .int u, .int 1, .int 0, .int 0, .int 0, .int 0, .ref mc, .int 0, .ref mn, .ref mp, .ref mo, .int 0, .int 0, .int 0, .int 0])), (ms, .inl (cI, 846, .inl (s0)))]) := by
  refine MetI.mk (lv := [(0, .ref mo_)]) (by decide +kernel) (Nat.le_of_ble_eq_true rfl) rfl ?_
  intro p e s m below meth c A ls C0 hP hD hS hX hl
  have C1 := C0
  obtain ⟨hx, hb, hr, hml, hown, hlocks, hname, hT, hN, hK, hA⟩ := C1
  refine lv_aload_n hx hb dX6_morningComes_0 rfl (lv_at hl 0 rfl) ?_
  refine contV (wc := [(mo_, .inr (6, [.int 0, .ref ms, .ref mi, .int 0, .int 0, .int 0, .int 0, .int 0, .int 0, .ref mb, .ref mt, .ref ml, .ref mx, .int v1, .int v2, .int v3, .int v4, .int v5, .int v6, .ref mc, .int v7, .ref mn, .ref mp, .ref mo, .int 0, .int 0, .int 0, .int 0])), (ms, .inl (cI, 846, .inl (s0)))]) (wr := []) C0 hP hD hS [0, 1] [] rfl rfl (by decide) (by decide) 0 0 (Nat.le_of_ble_eq_true rfl) (Nat.le_of_ble_eq_true rfl) (runV (k := 0) (As := []) (rest := []) C0 (m_looksThrough l D cI cZ cQ cT _ mo_ ms mi mb mt ml mx v1 v2 v3 v4 v5 v6 mc v7 mn mp mo) wc_X6_looksThrough wl_X6_208 wi_X6_looksThrough we_X6_looksThrough wz_X6 ⟨by decide, by decide, by decide +kernel⟩ ⟨(Nat.le_of_ble_eq_true rfl), (Nat.le_of_ble_eq_true rfl)⟩ hP hD hS EF.ok hX [0, 1] rfl (by decide) 0 rfl rfl rfl rfl hl.1 rfl (Nat.le_of_ble_eq_true rfl) dX6_morningComes_1 ⟨(Nat.le_of_ble_eq_true rfl), (Nat.le_of_ble_eq_true rfl)⟩) (fun u_2 H locs w_3 hP hD hS => ?_)
  obtain ⟨w1_1, rfl⟩ : ∃ z, z = u_2 := ⟨_, rfl⟩
  have hP : va_P D CL [(mo_, .inr (6, [.int 0, .ref ms, .ref mi, .int 0, .int 0, .int 0, .int 0, .int 0, .int 0, .ref mb, .ref mt, .ref ml, .ref mx, .int w1_1, .int 1, .int 0, .int 0, .int 0, .int 0, .ref mc, .int v7, .ref mn, .ref mp, .ref mo, .int 0, .int 0, .int 0, .int 0])), (ms, .inl (cI, 846, .inl (s0)))] H := hP
  have hD : va_D A [(mo_, .inr (6, [.int 0, .ref ms, .ref mi, .int 0, .int 0, .int 0, .int 0, .int 0, .int 0, .ref mb, .ref mt, .ref ml, .ref mx, .int w1_1, .int 1, .int 0, .int 0, .int 0, .int 0, .ref mc, .int v7, .ref mn, .ref mp, .ref mo, .int 0, .int 0, .int 0, .int 0])), (ms, .inl (cI, 846, .inl (s0)))] := hD
  refine lv_aload_n hx hb dX6_morningComes_4 rfl (lv_at hl 0 rfl) ?_
  refine va_get (ci := 6) (v := .int 1) (C := RX6) (T := TX6) (N := 28) hx hb hT wu_X6 hown hK hP 0 rfl rfl 14 (by decide) (hT _ wf_X6_190) (fun _ h9 => h9) rfl dX6_morningComes_5 ?_
  refine lv_if_le (tgt := 18) hx hb dX6_morningComes_8 (by decide) (fun c_0 => absurd c_0 (by decide)) (fun _ => ?_)
  refine lv_aload_n hx hb dX6_morningComes_11 rfl (lv_at hl 0 rfl) ?_
  refine va_get (ci := 6) (v := .int 0) (C := RX6) (T := TX6) (N := 28) hx hb hT wu_X6 hown hK hP 0 rfl rfl 17 (by decide) (hT _ wf_X6_199) (fun _ h9 => h9) rfl dX6_morningComes_12 ?_
  refine lv_goto (tgt := 28) hx hb dX6_morningComes_15 (by decide) ?_
  refine lv_istore_n (lv' := [(1, .int 0), (0, .ref mo_)]) hx hb dX6_morningComes_28 rfl hl (by decide) rfl (fun ls hl => ?_)
  refine lv_aload_n hx hb dX6_morningComes_29 rfl (lv_at hl 1 rfl) ?_
  refine lv_aload_n hx hb dX6_morningComes_30 rfl (lv_at hl 1 rfl) ?_
  refine lv_iload_n hx hb dX6_morningComes_31 rfl (lv_at hl 0 rfl) ?_
  refine contI (wc := [(mo_, .inr (6, [.int 0, .ref ms, .ref mi, .int 0, .int 0, .int 0, .int 0, .int 0, .int 0, .ref mb, .ref mt, .ref ml, .ref mx, .int w1_1, .int 1, .int 0, .int 0, .int 0, .int 0, .ref mc, .int v7, .ref mn, .ref mp, .ref mo, .int 0, .int 0, .int 0, .int 0])), (ms, .inl (cI, 846, .inl (s0)))]) (wr := []) C0 hP hD hS [0, 1] [] rfl rfl (by decide) (by decide) 0 0 (Nat.le_of_ble_eq_true rfl) (Nat.le_of_ble_eq_true rfl) (runV (k := 1) (As := [.int 0]) (rest := [.ref mo_]) C0 (m_gainOfAll l D cI cZ cQ cT _ mo_ 0 ms mi mb mt ml mx w1_1 1 0 0 0 0 mc v7 mn mp mo) wc_X6_gainOfAll wl_X6_187 wi_X6_gainOfAll we_X6_gainOfAll wz_X6 ⟨by decide, by decide, by decide +kernel⟩ ⟨(Nat.le_of_ble_eq_true rfl), (Nat.le_of_ble_eq_true rfl)⟩ hP hD hS EF.ok hX [0, 1] rfl (by decide) 0 rfl rfl rfl rfl hl.1 rfl (Nat.le_of_ble_eq_true rfl) dX6_morningComes_32 ⟨(Nat.le_of_ble_eq_true rfl), (Nat.le_of_ble_eq_true rfl)⟩) (fun r_7 u_5 H locs w_6 hP hD hS => ?_)
  have hP : va_P D CL [(mo_, .inr (6, [.int 0, .ref ms, .ref mi, .int 0, .int 0, .int 0, .int 0, .int 0, .int 0, .ref mb, .ref mt, .ref ml, .ref mx, .int w1_1, .int 1, .int 0, .int 0, .int 0, .int 0, .ref mc, .int v7, .ref mn, .ref mp, .ref mo, .int 0, .int 0, .int 0, .int 0])), (ms, .inl (cI, 846, .inl (s0)))] H := hP
  have hD : va_D A [(mo_, .inr (6, [.int 0, .ref ms, .ref mi, .int 0, .int 0, .int 0, .int 0, .int 0, .int 0, .ref mb, .ref mt, .ref ml, .ref mx, .int w1_1, .int 1, .int 0, .int 0, .int 0, .int 0, .ref mc, .int v7, .ref mn, .ref mp, .ref mo, .int 0, .int 0, .int 0, .int 0])), (ms, .inl (cI, 846, .inl (s0)))] := hD
  obtain rfl : r_7 = 0 := w_6
  refine va_put (ci := 6) (v := .int 0) (ty := .int) (C := RX6) (T := TX6) (N := 28) hx hb hT wu_X6 tyX6 tyX6_ok nmX6 hown hK hP hD hS 0 rfl rfl 20 (by decide) (hT _ wf_X6_211) (fun _ h9 => h9) rfl (by decide +kernel) rfl rfl (Nat.le_of_ble_eq_true rfl) dX6_morningComes_35 (fun H locs hP hD hS => ?_)
  have hP : va_P D CL [(mo_, .inr (6, [.int 0, .ref ms, .ref mi, .int 0, .int 0, .int 0, .int 0, .int 0, .int 0, .ref mb, .ref mt, .ref ml, .ref mx, .int w1_1, .int 1, .int 0, .int 0, .int 0, .int 0, .ref mc, .int 0, .ref mn, .ref mp, .ref mo, .int 0, .int 0, .int 0, .int 0])), (ms, .inl (cI, 846, .inl (s0)))] H := hP
  have hD : va_D A [(mo_, .inr (6, [.int 0, .ref ms, .ref mi, .int 0, .int 0, .int 0, .int 0, .int 0, .int 0, .ref mb, .ref mt, .ref ml, .ref mx, .int w1_1, .int 1, .int 0, .int 0, .int 0, .int 0, .ref mc, .int 0, .ref mn, .ref mp, .ref mo, .int 0, .int 0, .int 0, .int 0])), (ms, .inl (cI, 846, .inl (s0)))] := hD
  refine lv_aload_n hx hb dX6_morningComes_38 rfl (lv_at hl 1 rfl) ?_
  refine va_get (ci := 6) (v := .ref ms) (C := RX6) (T := TX6) (N := 28) hx hb hT wu_X6 hown hK hP 0 rfl rfl 1 (by decide) (hT _ wf_X6_7) (fun _ h9 => h9) rfl dX6_morningComes_39 ?_
  refine lv_iconst (v := 5) hx hb dX6_morningComes_42 (by decide) ?_
  refine lv_iload_n hx hb dX6_morningComes_43 rfl (lv_at hl 0 rfl) ?_
  refine va_iast hx hb hK hP hD hS 1 0 rfl rfl (vin _ _ (by decide +kernel)) dX6_morningComes_44 (fun H locs hP hD hS => ?_)
  have hP : va_P D CL [(mo_, .inr (6, [.int 0, .ref ms, .ref mi, .int 0, .int 0, .int 0, .int 0, .int 0, .int 0, .ref mb, .ref mt, .ref ml, .ref mx, .int w1_1, .int 1, .int 0, .int 0, .int 0, .int 0, .ref mc, .int 0, .ref mn, .ref mp, .ref mo, .int 0, .int 0, .int 0, .int 0])), (ms, .inl (cI, 846, .inl (upd (s0) ((5 : Int32)).toNatClampNeg 0)))] H := hP
  have hD : va_D A [(mo_, .inr (6, [.int 0, .ref ms, .ref mi, .int 0, .int 0, .int 0, .int 0, .int 0, .int 0, .ref mb, .ref mt, .ref ml, .ref mx, .int w1_1, .int 1, .int 0, .int 0, .int 0, .int 0, .ref mc, .int 0, .ref mn, .ref mp, .ref mo, .int 0, .int 0, .int 0, .int 0])), (ms, .inl (cI, 846, .inl (upd (s0) ((5 : Int32)).toNatClampNeg 0)))] := hD
  rw [upd_id (f := (s0)) (by decide +kernel)] at hP hD
  have hP : va_P D CL [(mo_, .inr (6, [.int 0, .ref ms, .ref mi, .int 0, .int 0, .int 0, .int 0, .int 0, .int 0, .ref mb, .ref mt, .ref ml, .ref mx, .int w1_1, .int 1, .int 0, .int 0, .int 0, .int 0, .ref mc, .int 0, .ref mn, .ref mp, .ref mo, .int 0, .int 0, .int 0, .int 0])), (ms, .inl (cI, 846, .inl (s0)))] H := hP
  have hD : va_D A [(mo_, .inr (6, [.int 0, .ref ms, .ref mi, .int 0, .int 0, .int 0, .int 0, .int 0, .int 0, .ref mb, .ref mt, .ref ml, .ref mx, .int w1_1, .int 1, .int 0, .int 0, .int 0, .int 0, .ref mc, .int 0, .ref mn, .ref mp, .ref mo, .int 0, .int 0, .int 0, .int 0])), (ms, .inl (cI, 846, .inl (s0)))] := hD
  refine lv_iconst (v := 0) hx hb dX6_morningComes_45 (by decide) ?_
  refine lv_istore_n (lv' := [(2, .int 0), (1, .int 0), (0, .ref mo_)]) hx hb dX6_morningComes_46 rfl hl (by decide) rfl (fun ls hl => ?_)
  refine lv_iload_n hx hb dX6_morningComes_47 rfl (lv_at hl 0 rfl) ?_
  refine lv_aload_n hx hb dX6_morningComes_48 rfl (lv_at hl 2 rfl) ?_
  refine va_get (ci := 6) (v := .ref ms) (C := RX6) (T := TX6) (N := 28) hx hb hT wu_X6 hown hK hP 0 rfl rfl 1 (by decide) (hT _ wf_X6_7) (fun _ h9 => h9) rfl dX6_morningComes_49 ?_
  refine lv_iconst (v := 0) hx hb dX6_morningComes_52 (by decide) ?_
  refine va_iald hx hb hK hP 1 0 rfl rfl (vin _ _ (by decide +kernel)) dX6_morningComes_53 ?_
  refine lv_ci 0 (by decide +kernel) ?_
  refine lv_icmp_ge (tgt := 123) hx hb dX6_morningComes_54 (by decide) (fun _ => ?_) (fun c_0 => absurd (by decide) c_0)
  refine lv_iload_n hx hb dX6_morningComes_123 rfl (lv_at hl 1 rfl) ?_
  exact retI C0 rfl (w1_1) rfl (hP.sub (ws' := [(mo_, .inr (6, [.int 0, .ref ms, .ref mi, .int 0, .int 0, .int 0, .int 0, .int 0, .int 0, .ref mb, .ref mt, .ref ml, .ref mx, .int w1_1, .int 1, .int 0, .int 0, .int 0, .int 0, .ref mc, .int 0, .ref mn, .ref mp, .ref mo, .int 0, .int 0, .int 0, .int 0])), (ms, .inl (cI, 846, .inl (s0)))]) [0, 1] rfl) (hD.sub (ws' := [(mo_, .inr (6, [.int 0, .ref ms, .ref mi, .int 0, .int 0, .int 0, .int 0, .int 0, .int 0, .ref mb, .ref mt, .ref ml, .ref mx, .int w1_1, .int 1, .int 0, .int 0, .int 0, .int 0, .ref mc, .int 0, .ref mn, .ref mp, .ref mo, .int 0, .int 0, .int 0, .int 0])), (ms, .inl (cI, 846, .inl (s0)))]) [0, 1] (by decide) rfl) hS (Nat.le_of_ble_eq_true rfl) (Nat.le_of_ble_eq_true rfl) dX6_morningComes_124

set_option maxHeartbeats 4000000 in
set_option maxRecDepth 100000 in
theorem m_morning (l : Launch) (D : va_G) (cI cZ cQ cT : ClassId) (sz : Nat) (mo_ : Nat) (ms : Nat) (mi : Nat) (mb : Nat) (mt : Nat) (ml : Nat) (mx : Nat) (mc : Nat) (mn : Nat) (mp : Nat) (mo : Nat)  : MetI l yX6_morning cX6_morning 1 .int ({ frames := 4, cells := 0, slots := 0, locals := 91 } : Room) [.ref mo_] D (TYS cI cZ cQ cT) EF sz [(mo_, .inr (6, [.int 0, .ref ms, .ref mi, .int 0, .int 0, .int 0, .int 0, .int 0, .int 0, .ref mb, .ref mt, .ref ml, .ref mx, .int 0, .int 0, .int 0, .int 0, .int 0, .int 0, .ref mc, .int 0, .ref mn, .ref mp, .ref mo, .int 0, .int 0, .int 0, .int 0])), (ms, .inl (cI, 846, .inl (s0)))] (S := Unit) (fun (r : Int32) (_ : Unit) => r = 0) (fun _ => []) := by
  refine MetI.mk (lv := [(0, .ref mo_)]) (by decide +kernel) (Nat.le_of_ble_eq_true rfl) rfl ?_
  intro p e s m below meth c A ls C0 hP hD hS hX hl
  have C1 := C0
  obtain ⟨hx, hb, hr, hml, hown, hlocks, hname, hT, hN, hK, hA⟩ := C1
  refine lv_aload_n hx hb dX6_morning_0 rfl (lv_at hl 0 rfl) ?_
  refine contI (wc := [(mo_, .inr (6, [.int 0, .ref ms, .ref mi, .int 0, .int 0, .int 0, .int 0, .int 0, .int 0, .ref mb, .ref mt, .ref ml, .ref mx, .int 0, .int 0, .int 0, .int 0, .int 0, .int 0, .ref mc, .int 0, .ref mn, .ref mp, .ref mo, .int 0, .int 0, .int 0, .int 0])), (ms, .inl (cI, 846, .inl (s0)))]) (wr := []) C0 hP hD hS [0, 1] [] rfl rfl (by decide) (by decide) 0 0 (Nat.le_of_ble_eq_true rfl) (Nat.le_of_ble_eq_true rfl) (runV (k := 0) (As := []) (rest := []) C0 (m_morningComes l D cI cZ cQ cT _ mo_ ms mi mb mt ml mx 0 0 0 0 0 0 mc 0 mn mp mo) wc_X6_morningComes wl_X6_214 wi_X6_morningComes we_X6_morningComes wz_X6 ⟨by decide, by decide, by decide +kernel⟩ ⟨(Nat.le_of_ble_eq_true rfl), (Nat.le_of_ble_eq_true rfl)⟩ hP hD hS EF.ok hX [0, 1] rfl (by decide) 0 rfl rfl rfl rfl hl.1 rfl (Nat.le_of_ble_eq_true rfl) dX6_morning_1 ⟨(Nat.le_of_ble_eq_true rfl), (Nat.le_of_ble_eq_true rfl)⟩) (fun r_4 u_2 H locs w_3 hP hD hS => ?_)
  obtain ⟨w1_1, rfl⟩ : ∃ z, z = u_2 := ⟨_, rfl⟩
  have hP : va_P D CL [(mo_, .inr (6, [.int 0, .ref ms, .ref mi, .int 0, .int 0, .int 0, .int 0, .int 0, .int 0, .ref mb, .ref mt, .ref ml, .ref mx, .int w1_1, .int 1, .int 0, .int 0, .int 0, .int 0, .ref mc, .int 0, .ref mn, .ref mp, .ref mo, .int 0, .int 0, .int 0, .int 0])), (ms, .inl (cI, 846, .inl (s0)))] H := hP
  have hD : va_D A [(mo_, .inr (6, [.int 0, .ref ms, .ref mi, .int 0, .int 0, .int 0, .int 0, .int 0, .int 0, .ref mb, .ref mt, .ref ml, .ref mx, .int w1_1, .int 1, .int 0, .int 0, .int 0, .int 0, .ref mc, .int 0, .ref mn, .ref mp, .ref mo, .int 0, .int 0, .int 0, .int 0])), (ms, .inl (cI, 846, .inl (s0)))] := hD
  obtain rfl : r_4 = 0 := w_3
  exact retI C0 rfl () rfl (hP.sub (ws' := []) [] rfl) (hD.sub (ws' := []) [] (by decide) rfl) hS (Nat.le_of_ble_eq_true rfl) (Nat.le_of_ble_eq_true rfl) dX6_morning_4

set_option maxHeartbeats 4000000 in
set_option maxRecDepth 100000 in
theorem m_bet (l : Launch) (D : va_G) (cI cZ cQ cT : ClassId) (sz : Nat) (mo_ : Nat) (p1 : Int32) (p2 : Int32) (p3 : Int32) (ms : Nat) (mi : Nat) (mb : Nat) (mt : Nat) (ml : Nat) (mx : Nat) (mc : Nat) (mn : Nat) (mp : Nat) (mo : Nat)  : MetI l yX6_bet cX6_bet 8 .int ({ frames := 2, cells := 0, slots := 0, locals := 43 } : Room) [.ref mo_, .int p1, .int p2, .int p3] D (TYS cI cZ cQ cT) EF sz [(mo_, .inr (6, [.int 0, .ref ms, .ref mi, .int 0, .int 0, .int 0, .int 0, .int 0, .int 0, .ref mb, .ref mt, .ref ml, .ref mx, .int 0, .int 0, .int 0, .int 0, .int 0, .int 0, .ref mc, .int 0, .ref mn, .ref mp, .ref mo, .int 0, .int 0, .int 0, .int 0])), (ms, .inl (cI, 846, .inl (s0)))] (S := Unit) (fun (r : Int32) (_ : Unit) => r = (-1)) (fun _ => []) := by
  refine MetI.mk (lv := [(0, .ref mo_), (1, .int p1), (2, .int p2), (3, .int p3)]) (by decide +kernel) (Nat.le_of_ble_eq_true rfl) rfl ?_
  intro p e s m below meth c A ls C0 hP hD hS hX hl
  have C1 := C0
  obtain ⟨hx, hb, hr, hml, hown, hlocks, hname, hT, hN, hK, hA⟩ := C1
  refine lv_aload_n hx hb dX6_bet_0 rfl (lv_at hl 0 rfl) ?_
  refine lv_iload_n hx hb dX6_bet_1 rfl (lv_at hl 1 rfl) ?_
  refine contI (wc := [(mo_, .inr (6, [.int 0, .ref ms, .ref mi, .int 0, .int 0, .int 0, .int 0, .int 0, .int 0, .ref mb, .ref mt, .ref ml, .ref mx, .int 0, .int 0, .int 0, .int 0, .int 0, .int 0, .ref mc, .int 0, .ref mn, .ref mp, .ref mo, .int 0, .int 0, .int 0, .int 0])), (ms, .inl (cI, 846, .inl (s0)))]) (wr := []) C0 hP hD hS [0, 1] [] rfl rfl (by decide) (by decide) 0 0 (Nat.le_of_ble_eq_true rfl) (Nat.le_of_ble_eq_true rfl) (runV (k := 1) (As := [.int p1]) (rest := []) C0 (m_isPerson l D cI cZ cQ cT _ mo_ p1 ms mi mb mt ml mx 0 0 0 0 0 0 mc 0 mn mp mo) wc_X6_isPerson wl_X6_152 wi_X6_isPerson we_X6_isPerson wz_X6 ⟨by decide, by decide, by decide +kernel⟩ ⟨(Nat.le_of_ble_eq_true rfl), (Nat.le_of_ble_eq_true rfl)⟩ hP hD hS EF.ok hX [0, 1] rfl (by decide) 0 rfl rfl rfl rfl hl.1 rfl (Nat.le_of_ble_eq_true rfl) dX6_bet_2 ⟨(Nat.le_of_ble_eq_true rfl), (Nat.le_of_ble_eq_true rfl)⟩) (fun r_3 u_1 H locs w_2 hP hD hS => ?_)
  have hP : va_P D CL [(mo_, .inr (6, [.int 0, .ref ms, .ref mi, .int 0, .int 0, .int 0, .int 0, .int 0, .int 0, .ref mb, .ref mt, .ref ml, .ref mx, .int 0, .int 0, .int 0, .int 0, .int 0, .int 0, .ref mc, .int 0, .ref mn, .ref mp, .ref mo, .int 0, .int 0, .int 0, .int 0])), (ms, .inl (cI, 846, .inl (s0)))] H := hP
  have hD : va_D A [(mo_, .inr (6, [.int 0, .ref ms, .ref mi, .int 0, .int 0, .int 0, .int 0, .int 0, .int 0, .ref mb, .ref mt, .ref ml, .ref mx, .int 0, .int 0, .int 0, .int 0, .int 0, .int 0, .ref mc, .int 0, .ref mn, .ref mp, .ref mo, .int 0, .int 0, .int 0, .int 0])), (ms, .inl (cI, 846, .inl (s0)))] := hD
  obtain rfl : r_3 = 0 := w_2
  refine lv_if_eq (tgt := 24) hx hb dX6_bet_5 (by decide) (fun _ => ?_) (fun c_0 => absurd (by decide) c_0)
  refine lv_iconst (v := (-1)) hx hb dX6_bet_24 (by decide) ?_
  exact retI C0 rfl () rfl (hP.sub (ws' := []) [] rfl) (hD.sub (ws' := []) [] (by decide) rfl) hS (Nat.le_of_ble_eq_true rfl) (Nat.le_of_ble_eq_true rfl) dX6_bet_25

set_option maxHeartbeats 4000000 in
set_option maxRecDepth 100000 in
theorem m_secret (l : Launch) (D : va_G) (cI cZ cQ cT : ClassId) (sz : Nat) (mo_ : Nat) (p1 : Int32) (p2 : Int32) (ms : Nat) (mi : Nat) (mb : Nat) (mt : Nat) (ml : Nat) (mx : Nat) (mc : Nat) (mn : Nat) (mp : Nat) (mo : Nat)  : MetI l yX6_secret cX6_secret 6 .int ({ frames := 2, cells := 0, slots := 0, locals := 43 } : Room) [.ref mo_, .int p1, .int p2] D (TYS cI cZ cQ cT) EF sz [(mo_, .inr (6, [.int 0, .ref ms, .ref mi, .int 0, .int 0, .int 0, .int 0, .int 0, .int 0, .ref mb, .ref mt, .ref ml, .ref mx, .int 0, .int 0, .int 0, .int 0, .int 0, .int 0, .ref mc, .int 0, .ref mn, .ref mp, .ref mo, .int 0, .int 0, .int 0, .int 0])), (ms, .inl (cI, 846, .inl (s0)))] (S := Unit) (fun (r : Int32) (_ : Unit) => r = (-1)) (fun _ => []) := by
  refine MetI.mk (lv := [(0, .ref mo_), (1, .int p1), (2, .int p2)]) (by decide +kernel) (Nat.le_of_ble_eq_true rfl) rfl ?_
  intro p e s m below meth c A ls C0 hP hD hS hX hl
  have C1 := C0
  obtain ⟨hx, hb, hr, hml, hown, hlocks, hname, hT, hN, hK, hA⟩ := C1
  refine lv_aload_n hx hb dX6_secret_0 rfl (lv_at hl 0 rfl) ?_
  refine lv_iload_n hx hb dX6_secret_1 rfl (lv_at hl 1 rfl) ?_
  refine contI (wc := [(mo_, .inr (6, [.int 0, .ref ms, .ref mi, .int 0, .int 0, .int 0, .int 0, .int 0, .int 0, .ref mb, .ref mt, .ref ml, .ref mx, .int 0, .int 0, .int 0, .int 0, .int 0, .int 0, .ref mc, .int 0, .ref mn, .ref mp, .ref mo, .int 0, .int 0, .int 0, .int 0])), (ms, .inl (cI, 846, .inl (s0)))]) (wr := []) C0 hP hD hS [0, 1] [] rfl rfl (by decide) (by decide) 0 0 (Nat.le_of_ble_eq_true rfl) (Nat.le_of_ble_eq_true rfl) (runV (k := 1) (As := [.int p1]) (rest := []) C0 (m_isPerson l D cI cZ cQ cT _ mo_ p1 ms mi mb mt ml mx 0 0 0 0 0 0 mc 0 mn mp mo) wc_X6_isPerson wl_X6_152 wi_X6_isPerson we_X6_isPerson wz_X6 ⟨by decide, by decide, by decide +kernel⟩ ⟨(Nat.le_of_ble_eq_true rfl), (Nat.le_of_ble_eq_true rfl)⟩ hP hD hS EF.ok hX [0, 1] rfl (by decide) 0 rfl rfl rfl rfl hl.1 rfl (Nat.le_of_ble_eq_true rfl) dX6_secret_2 ⟨(Nat.le_of_ble_eq_true rfl), (Nat.le_of_ble_eq_true rfl)⟩) (fun r_3 u_1 H locs w_2 hP hD hS => ?_)
  have hP : va_P D CL [(mo_, .inr (6, [.int 0, .ref ms, .ref mi, .int 0, .int 0, .int 0, .int 0, .int 0, .int 0, .ref mb, .ref mt, .ref ml, .ref mx, .int 0, .int 0, .int 0, .int 0, .int 0, .int 0, .ref mc, .int 0, .ref mn, .ref mp, .ref mo, .int 0, .int 0, .int 0, .int 0])), (ms, .inl (cI, 846, .inl (s0)))] H := hP
  have hD : va_D A [(mo_, .inr (6, [.int 0, .ref ms, .ref mi, .int 0, .int 0, .int 0, .int 0, .int 0, .int 0, .ref mb, .ref mt, .ref ml, .ref mx, .int 0, .int 0, .int 0, .int 0, .int 0, .int 0, .ref mc, .int 0, .ref mn, .ref mp, .ref mo, .int 0, .int 0, .int 0, .int 0])), (ms, .inl (cI, 846, .inl (s0)))] := hD
  obtain rfl : r_3 = 0 := w_2
  refine lv_if_eq (tgt := 17) hx hb dX6_secret_5 (by decide) (fun _ => ?_) (fun c_0 => absurd (by decide) c_0)
  refine lv_iconst (v := (-1)) hx hb dX6_secret_17 (by decide) ?_
  exact retI C0 rfl () rfl (hP.sub (ws' := []) [] rfl) (hD.sub (ws' := []) [] (by decide) rfl) hS (Nat.le_of_ble_eq_true rfl) (Nat.le_of_ble_eq_true rfl) dX6_secret_18

set_option maxHeartbeats 4000000 in
set_option maxRecDepth 100000 in
theorem m_swap (l : Launch) (D : va_G) (cI cZ cQ cT : ClassId) (sz : Nat) (mo_ : Nat) (p1 : Int32) (ms : Nat) (mi : Nat) (mb : Nat) (mt : Nat) (ml : Nat) (mx : Nat) (mc : Nat) (mn : Nat) (mp : Nat) (mo : Nat)  : MetI l yX6_swap cX6_swap 8 .int ({ frames := 3, cells := 0, slots := 0, locals := 67 } : Room) [.ref mo_, .int p1] D (TYS cI cZ cQ cT) EF sz [(mo_, .inr (6, [.int 0, .ref ms, .ref mi, .int 0, .int 0, .int 0, .int 0, .int 0, .int 0, .ref mb, .ref mt, .ref ml, .ref mx, .int 0, .int 0, .int 0, .int 0, .int 0, .int 0, .ref mc, .int 0, .ref mn, .ref mp, .ref mo, .int 0, .int 0, .int 0, .int 0])), (ms, .inl (cI, 846, .inl (s0)))] (S := Unit) (fun (r : Int32) (_ : Unit) => r = (if ((0 : Int32) ≤ p1 ∧ p1 ≤ (1 : Int32)) then (if p1 = (0 : Int32) then 0 else (-5)) else (-1))) (fun _ => []) := by
  refine MetI.mk (lv := [(0, .ref mo_), (1, .int p1)]) (by decide +kernel) (Nat.le_of_ble_eq_true rfl) rfl ?_
  intro p e s m below meth c A ls C0 hP hD hS hX hl
  have C1 := C0
  obtain ⟨hx, hb, hr, hml, hown, hlocks, hname, hT, hN, hK, hA⟩ := C1
  refine lv_iload_n hx hb dX6_swap_0 rfl (lv_at hl 1 rfl) ?_
  refine lv_iconst (v := 0) hx hb dX6_swap_1 (by decide) ?_
  refine lv_iconst (v := 1) hx hb dX6_swap_2 (by decide) ?_
  refine contI (wc := []) (wr := [(mo_, .inr (6, [.int 0, .ref ms, .ref mi, .int 0, .int 0, .int 0, .int 0, .int 0, .int 0, .ref mb, .ref mt, .ref ml, .ref mx, .int 0, .int 0, .int 0, .int 0, .int 0, .int 0, .ref mc, .int 0, .ref mn, .ref mp, .ref mo, .int 0, .int 0, .int 0, .int 0])), (ms, .inl (cI, 846, .inl (s0)))]) C0 hP hD hS [] [0, 1] rfl rfl (by decide) (by decide) 0 0 (Nat.le_of_ble_eq_true rfl) (Nat.le_of_ble_eq_true rfl) (runS (k := 3) (As := [.int p1, .int 0, .int 1]) (rest := []) C0 (mc_in l D cI cZ cQ cT _ p1 0 1) wc_X6_in wl_X6_45 wt_X6_in wz_X6 ⟨by decide, by decide, by decide +kernel⟩ ⟨(Nat.le_of_ble_eq_true rfl), (Nat.le_of_ble_eq_true rfl)⟩ hP hD hS EF.ok hX [] rfl (by decide) rfl hl.1 rfl (Nat.le_of_ble_eq_true rfl) dX6_swap_3 ⟨(Nat.le_of_ble_eq_true rfl), (Nat.le_of_ble_eq_true rfl)⟩) (fun r_3 u_1 H locs w_2 hP hD hS => ?_)
  have hP : va_P D CL [(mo_, .inr (6, [.int 0, .ref ms, .ref mi, .int 0, .int 0, .int 0, .int 0, .int 0, .int 0, .ref mb, .ref mt, .ref ml, .ref mx, .int 0, .int 0, .int 0, .int 0, .int 0, .int 0, .ref mc, .int 0, .ref mn, .ref mp, .ref mo, .int 0, .int 0, .int 0, .int 0])), (ms, .inl (cI, 846, .inl (s0)))] H := hP
  have hD : va_D A [(mo_, .inr (6, [.int 0, .ref ms, .ref mi, .int 0, .int 0, .int 0, .int 0, .int 0, .int 0, .ref mb, .ref mt, .ref ml, .ref mx, .int 0, .int 0, .int 0, .int 0, .int 0, .int 0, .ref mc, .int 0, .ref mn, .ref mp, .ref mo, .int 0, .int 0, .int 0, .int 0])), (ms, .inl (cI, 846, .inl (s0)))] := hD
  refine (Decidable.em (((0 : Int32) ≤ p1 ∧ p1 ≤ (1 : Int32)))).elim (fun c_4 => ?_) (fun c_4 => ?_)
  · obtain rfl : r_3 = 1 := w_2.trans (if_pos c_4)
    refine lv_if_ne (tgt := 11) hx hb dX6_swap_6 (by decide) (fun _ => ?_) (fun c_0 => absurd c_0 (by decide))
    refine lv_aload_n hx hb dX6_swap_11 rfl (lv_at hl 0 rfl) ?_
    refine contV (wc := [(mo_, .inr (6, [.int 0, .ref ms, .ref mi, .int 0, .int 0, .int 0, .int 0, .int 0, .int 0, .ref mb, .ref mt, .ref ml, .ref mx, .int 0, .int 0, .int 0, .int 0, .int 0, .int 0, .ref mc, .int 0, .ref mn, .ref mp, .ref mo, .int 0, .int 0, .int 0, .int 0])), (ms, .inl (cI, 846, .inl (s0)))]) (wr := []) C0 hP hD hS [0, 1] [] rfl rfl (by decide) (by decide) 0 0 (Nat.le_of_ble_eq_true rfl) (Nat.le_of_ble_eq_true rfl) (runV (k := 0) (As := []) (rest := []) C0 (m_looksThrough l D cI cZ cQ cT _ mo_ ms mi mb mt ml mx 0 0 0 0 0 0 mc 0 mn mp mo) wc_X6_looksThrough wl_X6_208 wi_X6_looksThrough we_X6_looksThrough wz_X6 ⟨by decide, by decide, by decide +kernel⟩ ⟨(Nat.le_of_ble_eq_true rfl), (Nat.le_of_ble_eq_true rfl)⟩ hP hD hS EF.ok hX [0, 1] rfl (by decide) 0 rfl rfl rfl rfl hl.1 rfl (Nat.le_of_ble_eq_true rfl) dX6_swap_12 ⟨(Nat.le_of_ble_eq_true rfl), (Nat.le_of_ble_eq_true rfl)⟩) (fun u_6 H locs w_7 hP hD hS => ?_)
    obtain ⟨w1_5, rfl⟩ : ∃ z, z = u_6 := ⟨_, rfl⟩
    have hP : va_P D CL [(mo_, .inr (6, [.int 0, .ref ms, .ref mi, .int 0, .int 0, .int 0, .int 0, .int 0, .int 0, .ref mb, .ref mt, .ref ml, .ref mx, .int w1_5, .int 1, .int 0, .int 0, .int 0, .int 0, .ref mc, .int 0, .ref mn, .ref mp, .ref mo, .int 0, .int 0, .int 0, .int 0])), (ms, .inl (cI, 846, .inl (s0)))] H := hP
    have hD : va_D A [(mo_, .inr (6, [.int 0, .ref ms, .ref mi, .int 0, .int 0, .int 0, .int 0, .int 0, .int 0, .ref mb, .ref mt, .ref ml, .ref mx, .int w1_5, .int 1, .int 0, .int 0, .int 0, .int 0, .ref mc, .int 0, .ref mn, .ref mp, .ref mo, .int 0, .int 0, .int 0, .int 0])), (ms, .inl (cI, 846, .inl (s0)))] := hD
    refine lv_aload_n hx hb dX6_swap_15 rfl (lv_at hl 0 rfl) ?_
    refine va_get (ci := 6) (v := .int 0) (C := RX6) (T := TX6) (N := 28) hx hb hT wu_X6 hown hK hP 0 rfl rfl 17 (by decide) (hT _ wf_X6_199) (fun _ h9 => h9) rfl dX6_swap_16 ?_
    refine lv_istore_n (lv' := [(2, .int 0), (0, .ref mo_), (1, .int p1)]) hx hb dX6_swap_19 rfl hl (by decide) rfl (fun ls hl => ?_)
    refine lv_iconst (v := 0) hx hb dX6_swap_20 (by decide) ?_
    refine lv_istore_n (lv' := [(3, .int 0), (2, .int 0), (0, .ref mo_), (1, .int p1)]) hx hb dX6_swap_21 rfl hl (by decide) rfl (fun ls hl => ?_)
    refine lv_bipush (v := (-5)) hx hb dX6_swap_22 (by decide) ?_
    refine lv_istore (lv' := [(4, .int (-5)), (3, .int 0), (2, .int 0), (0, .ref mo_), (1, .int p1)]) hx hb dX6_swap_24 hl (by decide) rfl (fun ls hl => ?_)
    refine lv_iconst (v := 0) hx hb dX6_swap_26 (by decide) ?_
    refine lv_istore (lv' := [(5, .int 0), (4, .int (-5)), (3, .int 0), (2, .int 0), (0, .ref mo_), (1, .int p1)]) hx hb dX6_swap_27 hl (by decide) rfl (fun ls hl => ?_)
    refine lv_iload hx hb dX6_swap_29 (lv_at hl 0 rfl) ?_
    refine lv_aload_n hx hb dX6_swap_31 rfl (lv_at hl 4 rfl) ?_
    refine va_get (ci := 6) (v := .ref ms) (C := RX6) (T := TX6) (N := 28) hx hb hT wu_X6 hown hK hP 0 rfl rfl 1 (by decide) (hT _ wf_X6_7) (fun _ h9 => h9) rfl dX6_swap_32 ?_
    refine lv_iconst (v := 0) hx hb dX6_swap_35 (by decide) ?_
    refine va_iald hx hb hK hP 1 0 rfl rfl (vin _ _ (by decide +kernel)) dX6_swap_36 ?_
    refine lv_ci 0 (by decide +kernel) ?_
    refine lv_icmp_ge (tgt := 126) hx hb dX6_swap_37 (by decide) (fun _ => ?_) (fun c_0 => absurd (by decide) c_0)
    refine lv_iload_n hx hb dX6_swap_126 rfl (lv_at hl 5 rfl) ?_
    refine lv_if_ne (tgt := 134) hx hb dX6_swap_127 (by decide) (fun c_9 => ?_) (fun c_9 => ?_)
    · refine lv_iload hx hb dX6_swap_134 (lv_at hl 1 rfl) ?_
      exact retI C0 rfl () (((if_pos c_4).trans ((if_neg c_9))).symm) (hP.sub (ws' := []) [] rfl) (hD.sub (ws' := []) [] (by decide) rfl) hS (Nat.le_of_ble_eq_true rfl) (Nat.le_of_ble_eq_true rfl) dX6_swap_136
    · refine lv_iload_n hx hb dX6_swap_130 rfl (lv_at hl 2 rfl) ?_
      refine lv_goto (tgt := 136) hx hb dX6_swap_131 (by decide) ?_
      exact retI C0 rfl () (((if_pos c_4).trans ((if_pos c_9))).symm) (hP.sub (ws' := []) [] rfl) (hD.sub (ws' := []) [] (by decide) rfl) hS (Nat.le_of_ble_eq_true rfl) (Nat.le_of_ble_eq_true rfl) dX6_swap_136
  · obtain rfl : r_3 = 0 := w_2.trans (if_neg c_4)
    refine lv_if_ne (tgt := 11) hx hb dX6_swap_6 (by decide) (fun c_0 => absurd (by decide) c_0) (fun _ => ?_)
    refine lv_iconst (v := (-1)) hx hb dX6_swap_9 (by decide) ?_
    exact retI C0 rfl () (((if_neg c_4)).symm) (hP.sub (ws' := []) [] rfl) (hD.sub (ws' := []) [] (by decide) rfl) hS (Nat.le_of_ble_eq_true rfl) (Nat.le_of_ble_eq_true rfl) dX6_swap_10

set_option maxHeartbeats 4000000 in
set_option maxRecDepth 100000 in
theorem m_book (l : Launch) (D : va_G) (cI cZ cQ cT : ClassId) (sz : Nat) (mo_ : Nat) (p1 : Int32) (ms : Nat) (mi : Nat) (mb : Nat) (mt : Nat) (ml : Nat) (mx : Nat) (mc : Nat) (mn : Nat) (mp : Nat) (mo : Nat)  : MetI l yX6_book cX6_book 2 .int ({ frames := 2, cells := 0, slots := 0, locals := 43 } : Room) [.ref mo_, .int p1] D (TYS cI cZ cQ cT) EF sz [(mo_, .inr (6, [.int 0, .ref ms, .ref mi, .int 0, .int 0, .int 0, .int 0, .int 0, .int 0, .ref mb, .ref mt, .ref ml, .ref mx, .int 0, .int 0, .int 0, .int 0, .int 0, .int 0, .ref mc, .int 0, .ref mn, .ref mp, .ref mo, .int 0, .int 0, .int 0, .int 0])), (ms, .inl (cI, 846, .inl (s0)))] (S := Unit) (fun (r : Int32) (_ : Unit) => r = (if p1 = (-1 : Int32) then 0 else (if (p1 = 0) then 1 else (-2)))) (fun _ => []) := by
  refine MetI.mk (lv := [(0, .ref mo_), (1, .int p1)]) (by decide +kernel) (Nat.le_of_ble_eq_true rfl) rfl ?_
  intro p e s m below meth c A ls C0 hP hD hS hX hl
  have C1 := C0
  obtain ⟨hx, hb, hr, hml, hown, hlocks, hname, hT, hN, hK, hA⟩ := C1
  refine lv_iload_n hx hb dX6_book_0 rfl (lv_at hl 1 rfl) ?_
  refine lv_iconst (v := (-1)) hx hb dX6_book_1 (by decide) ?_
  refine lv_icmp_ne (tgt := 14) hx hb dX6_book_2 (by decide) (fun c_1 => ?_) (fun c_1 => ?_)
  · refine lv_aload_n hx hb dX6_book_14 rfl (lv_at hl 0 rfl) ?_
    refine lv_iload_n hx hb dX6_book_15 rfl (lv_at hl 1 rfl) ?_
    refine contI (wc := [(mo_, .inr (6, [.int 0, .ref ms, .ref mi, .int 0, .int 0, .int 0, .int 0, .int 0, .int 0, .ref mb, .ref mt, .ref ml, .ref mx, .int 0, .int 0, .int 0, .int 0, .int 0, .int 0, .ref mc, .int 0, .ref mn, .ref mp, .ref mo, .int 0, .int 0, .int 0, .int 0])), (ms, .inl (cI, 846, .inl (s0)))]) (wr := []) C0 hP hD hS [0, 1] [] rfl rfl (by decide) (by decide) 0 0 (Nat.le_of_ble_eq_true rfl) (Nat.le_of_ble_eq_true rfl) (runV (k := 1) (As := [.int p1]) (rest := []) C0 (m_isDay l D cI cZ cQ cT _ mo_ p1 ms mi mb mt ml mx 0 0 0 0 0 0 mc 0 mn mp mo) wc_X6_isDay wl_X6_156 wi_X6_isDay we_X6_isDay wz_X6 ⟨by decide, by decide, by decide +kernel⟩ ⟨(Nat.le_of_ble_eq_true rfl), (Nat.le_of_ble_eq_true rfl)⟩ hP hD hS EF.ok hX [0, 1] rfl (by decide) 0 rfl rfl rfl rfl hl.1 rfl (Nat.le_of_ble_eq_true rfl) dX6_book_16 ⟨(Nat.le_of_ble_eq_true rfl), (Nat.le_of_ble_eq_true rfl)⟩) (fun r_4 u_2 H locs w_3 hP hD hS => ?_)
    have hP : va_P D CL [(mo_, .inr (6, [.int 0, .ref ms, .ref mi, .int 0, .int 0, .int 0, .int 0, .int 0, .int 0, .ref mb, .ref mt, .ref ml, .ref mx, .int 0, .int 0, .int 0, .int 0, .int 0, .int 0, .ref mc, .int 0, .ref mn, .ref mp, .ref mo, .int 0, .int 0, .int 0, .int 0])), (ms, .inl (cI, 846, .inl (s0)))] H := hP
    have hD : va_D A [(mo_, .inr (6, [.int 0, .ref ms, .ref mi, .int 0, .int 0, .int 0, .int 0, .int 0, .int 0, .ref mb, .ref mt, .ref ml, .ref mx, .int 0, .int 0, .int 0, .int 0, .int 0, .int 0, .ref mc, .int 0, .ref mn, .ref mp, .ref mo, .int 0, .int 0, .int 0, .int 0])), (ms, .inl (cI, 846, .inl (s0)))] := hD
    refine (Decidable.em ((p1 = 0))).elim (fun c_5 => ?_) (fun c_5 => ?_)
    · obtain rfl : r_4 = 1 := w_3.trans (if_pos c_5)
      subst c_5
      refine lv_if_ne (tgt := 25) hx hb dX6_book_19 (by decide) (fun _ => ?_) (fun c_0 => absurd c_0 (by decide))
      refine lv_aload_n hx hb dX6_book_25 rfl (lv_at hl 0 rfl) ?_
      refine va_get (ci := 6) (v := .ref ms) (C := RX6) (T := TX6) (N := 28) hx hb hT wu_X6 hown hK hP 0 rfl rfl 1 (by decide) (hT _ wf_X6_7) (fun _ h9 => h9) rfl dX6_book_26 ?_
      refine lv_iconst (v := 2) hx hb dX6_book_29 (by decide) ?_
      refine va_iald hx hb hK hP 1 0 rfl rfl (vin _ _ (by decide +kernel)) dX6_book_30 ?_
      refine lv_ci 0 (by decide +kernel) ?_
      refine lv_bipush (v := 10) hx hb dX6_book_31 (by decide) ?_
      refine lv_icmp_ne (tgt := 39) hx hb dX6_book_33 (by decide) (fun _ => ?_) (fun c_0 => absurd c_0 (by decide))
      refine lv_aload_n hx hb dX6_book_39 rfl (lv_at hl 0 rfl) ?_
      refine va_get (ci := 6) (v := .ref ms) (C := RX6) (T := TX6) (N := 28) hx hb hT wu_X6 hown hK hP 0 rfl rfl 1 (by decide) (hT _ wf_X6_7) (fun _ h9 => h9) rfl dX6_book_40 ?_
      refine lv_bipush (v := 126) hx hb dX6_book_43 (by decide) ?_
      refine lv_aload_n hx hb dX6_book_45 rfl (lv_at hl 0 rfl) ?_
      refine va_get (ci := 6) (v := .ref ms) (C := RX6) (T := TX6) (N := 28) hx hb hT wu_X6 hown hK hP 0 rfl rfl 1 (by decide) (hT _ wf_X6_7) (fun _ h9 => h9) rfl dX6_book_46 ?_
      refine lv_iconst (v := 2) hx hb dX6_book_49 (by decide) ?_
      refine va_iald hx hb hK hP 1 0 rfl rfl (vin _ _ (by decide +kernel)) dX6_book_50 ?_
      refine lv_ci 0 (by decide +kernel) ?_
      refine lv_iadd hx hb dX6_book_51 ?_
      refine lv_ci 126 (by decide +kernel) ?_
      refine lv_iload_n hx hb dX6_book_52 rfl (lv_at hl 1 rfl) ?_
      refine va_iast hx hb hK hP hD hS 1 0 rfl rfl (vin _ _ (by decide +kernel)) dX6_book_53 (fun H locs hP hD hS => ?_)
      have hP : va_P D CL [(mo_, .inr (6, [.int 0, .ref ms, .ref mi, .int 0, .int 0, .int 0, .int 0, .int 0, .int 0, .ref mb, .ref mt, .ref ml, .ref mx, .int 0, .int 0, .int 0, .int 0, .int 0, .int 0, .ref mc, .int 0, .ref mn, .ref mp, .ref mo, .int 0, .int 0, .int 0, .int 0])), (ms, .inl (cI, 846, .inl (upd (s0) ((126 : Int32)).toNatClampNeg 0)))] H := hP
      have hD : va_D A [(mo_, .inr (6, [.int 0, .ref ms, .ref mi, .int 0, .int 0, .int 0, .int 0, .int 0, .int 0, .ref mb, .ref mt, .ref ml, .ref mx, .int 0, .int 0, .int 0, .int 0, .int 0, .int 0, .ref mc, .int 0, .ref mn, .ref mp, .ref mo, .int 0, .int 0, .int 0, .int 0])), (ms, .inl (cI, 846, .inl (upd (s0) ((126 : Int32)).toNatClampNeg 0)))] := hD
      rw [upd_id (f := (s0)) (by decide +kernel)] at hP hD
      have hP : va_P D CL [(mo_, .inr (6, [.int 0, .ref ms, .ref mi, .int 0, .int 0, .int 0, .int 0, .int 0, .int 0, .ref mb, .ref mt, .ref ml, .ref mx, .int 0, .int 0, .int 0, .int 0, .int 0, .int 0, .ref mc, .int 0, .ref mn, .ref mp, .ref mo, .int 0, .int 0, .int 0, .int 0])), (ms, .inl (cI, 846, .inl (s0)))] H := hP
      have hD : va_D A [(mo_, .inr (6, [.int 0, .ref ms, .ref mi, .int 0, .int 0, .int 0, .int 0, .int 0, .int 0, .ref mb, .ref mt, .ref ml, .ref mx, .int 0, .int 0, .int 0, .int 0, .int 0, .int 0, .ref mc, .int 0, .ref mn, .ref mp, .ref mo, .int 0, .int 0, .int 0, .int 0])), (ms, .inl (cI, 846, .inl (s0)))] := hD
      refine lv_aload_n hx hb dX6_book_54 rfl (lv_at hl 0 rfl) ?_
      refine va_get (ci := 6) (v := .ref ms) (C := RX6) (T := TX6) (N := 28) hx hb hT wu_X6 hown hK hP 0 rfl rfl 1 (by decide) (hT _ wf_X6_7) (fun _ h9 => h9) rfl dX6_book_55 ?_
      refine lv_iconst (v := 2) hx hb dX6_book_58 (by decide) ?_
      refine lv_dup2_11 hx hb dX6_book_59 rfl rfl ?_
      refine va_iald hx hb hK hP 1 0 rfl rfl (vin _ _ (by decide +kernel)) dX6_book_60 ?_
      refine lv_ci 0 (by decide +kernel) ?_
      refine lv_iconst (v := 1) hx hb dX6_book_61 (by decide) ?_
      refine lv_iadd hx hb dX6_book_62 ?_
      refine lv_ci 1 (by decide +kernel) ?_
      refine va_iast hx hb hK hP hD hS 1 0 rfl rfl (vin _ _ (by decide +kernel)) dX6_book_63 (fun H locs hP hD hS => ?_)
      have hP : va_P D CL [(mo_, .inr (6, [.int 0, .ref ms, .ref mi, .int 0, .int 0, .int 0, .int 0, .int 0, .int 0, .ref mb, .ref mt, .ref ml, .ref mx, .int 0, .int 0, .int 0, .int 0, .int 0, .int 0, .ref mc, .int 0, .ref mn, .ref mp, .ref mo, .int 0, .int 0, .int 0, .int 0])), (ms, .inl (cI, 846, .inl (upd (s0) ((2 : Int32)).toNatClampNeg 1)))] H := hP
      have hD : va_D A [(mo_, .inr (6, [.int 0, .ref ms, .ref mi, .int 0, .int 0, .int 0, .int 0, .int 0, .int 0, .ref mb, .ref mt, .ref ml, .ref mx, .int 0, .int 0, .int 0, .int 0, .int 0, .int 0, .ref mc, .int 0, .ref mn, .ref mp, .ref mo, .int 0, .int 0, .int 0, .int 0])), (ms, .inl (cI, 846, .inl (upd (s0) ((2 : Int32)).toNatClampNeg 1)))] := hD
      refine lv_aload_n hx hb dX6_book_64 rfl (lv_at hl 0 rfl) ?_
      refine va_get (ci := 6) (v := .ref ms) (C := RX6) (T := TX6) (N := 28) hx hb hT wu_X6 hown hK hP 0 rfl rfl 1 (by decide) (hT _ wf_X6_7) (fun _ h9 => h9) rfl dX6_book_65 ?_
      refine lv_iconst (v := 2) hx hb dX6_book_68 (by decide) ?_
      refine va_iald hx hb hK hP 1 0 rfl rfl (vin _ _ (by decide +kernel)) dX6_book_69 ?_
      refine lv_ci 1 (by decide +kernel) ?_
      exact retI C0 rfl () (((if_neg c_1).trans ((if_pos rfl))).symm) (hP.sub (ws' := []) [] rfl) (hD.sub (ws' := []) [] (by decide) rfl) hS (Nat.le_of_ble_eq_true rfl) (Nat.le_of_ble_eq_true rfl) dX6_book_70
    · obtain rfl : r_4 = 0 := w_3.trans (if_neg c_5)
      refine lv_if_ne (tgt := 25) hx hb dX6_book_19 (by decide) (fun c_0 => absurd (by decide) c_0) (fun _ => ?_)
      refine lv_bipush (v := (-2)) hx hb dX6_book_22 (by decide) ?_
      exact retI C0 rfl () (((if_neg c_1).trans ((if_neg c_5))).symm) (hP.sub (ws' := []) [] rfl) (hD.sub (ws' := []) [] (by decide) rfl) hS (Nat.le_of_ble_eq_true rfl) (Nat.le_of_ble_eq_true rfl) dX6_book_24
  · refine lv_aload_n hx hb dX6_book_5 rfl (lv_at hl 0 rfl) ?_
    refine va_get (ci := 6) (v := .ref ms) (C := RX6) (T := TX6) (N := 28) hx hb hT wu_X6 hown hK hP 0 rfl rfl 1 (by decide) (hT _ wf_X6_7) (fun _ h9 => h9) rfl dX6_book_6 ?_
    refine lv_iconst (v := 2) hx hb dX6_book_9 (by decide) ?_
    refine lv_iconst (v := 0) hx hb dX6_book_10 (by decide) ?_
    refine va_iast hx hb hK hP hD hS 1 0 rfl rfl (vin _ _ (by decide +kernel)) dX6_book_11 (fun H locs hP hD hS => ?_)
    have hP : va_P D CL [(mo_, .inr (6, [.int 0, .ref ms, .ref mi, .int 0, .int 0, .int 0, .int 0, .int 0, .int 0, .ref mb, .ref mt, .ref ml, .ref mx, .int 0, .int 0, .int 0, .int 0, .int 0, .int 0, .ref mc, .int 0, .ref mn, .ref mp, .ref mo, .int 0, .int 0, .int 0, .int 0])), (ms, .inl (cI, 846, .inl (upd (s0) ((2 : Int32)).toNatClampNeg 0)))] H := hP
    have hD : va_D A [(mo_, .inr (6, [.int 0, .ref ms, .ref mi, .int 0, .int 0, .int 0, .int 0, .int 0, .int 0, .ref mb, .ref mt, .ref ml, .ref mx, .int 0, .int 0, .int 0, .int 0, .int 0, .int 0, .ref mc, .int 0, .ref mn, .ref mp, .ref mo, .int 0, .int 0, .int 0, .int 0])), (ms, .inl (cI, 846, .inl (upd (s0) ((2 : Int32)).toNatClampNeg 0)))] := hD
    rw [upd_id (f := (s0)) (by decide +kernel)] at hP hD
    have hP : va_P D CL [(mo_, .inr (6, [.int 0, .ref ms, .ref mi, .int 0, .int 0, .int 0, .int 0, .int 0, .int 0, .ref mb, .ref mt, .ref ml, .ref mx, .int 0, .int 0, .int 0, .int 0, .int 0, .int 0, .ref mc, .int 0, .ref mn, .ref mp, .ref mo, .int 0, .int 0, .int 0, .int 0])), (ms, .inl (cI, 846, .inl (s0)))] H := hP
    have hD : va_D A [(mo_, .inr (6, [.int 0, .ref ms, .ref mi, .int 0, .int 0, .int 0, .int 0, .int 0, .int 0, .ref mb, .ref mt, .ref ml, .ref mx, .int 0, .int 0, .int 0, .int 0, .int 0, .int 0, .ref mc, .int 0, .ref mn, .ref mp, .ref mo, .int 0, .int 0, .int 0, .int 0])), (ms, .inl (cI, 846, .inl (s0)))] := hD
    refine lv_iconst (v := 0) hx hb dX6_book_12 (by decide) ?_
    exact retI C0 rfl () (((if_pos c_1)).symm) (hP.sub (ws' := []) [] rfl) (hD.sub (ws' := []) [] (by decide) rfl) hS (Nat.le_of_ble_eq_true rfl) (Nat.le_of_ble_eq_true rfl) dX6_book_13

set_option maxHeartbeats 4000000 in
set_option maxRecDepth 100000 in
theorem m_looked (l : Launch) (D : va_G) (cI cZ cQ cT : ClassId) (sz : Nat) (mo_ : Nat) (p1 : Int32) (ms : Nat) (mi : Nat) (mb : Nat) (mt : Nat) (ml : Nat) (mx : Nat) (mc : Nat) (mn : Nat) (mp : Nat) (mo : Nat)  : MetI l yX6_looked cX6_looked 6 .int ({ frames := 1, cells := 0, slots := 0, locals := 22 } : Room) [.ref mo_, .int p1] D (TYS cI cZ cQ cT) EF sz [(mo_, .inr (6, [.int 0, .ref ms, .ref mi, .int 0, .int 0, .int 0, .int 0, .int 0, .int 0, .ref mb, .ref mt, .ref ml, .ref mx, .int 0, .int 0, .int 0, .int 0, .int 0, .int 0, .ref mc, .int 0, .ref mn, .ref mp, .ref mo, .int 0, .int 0, .int 0, .int 0])), (ms, .inl (cI, 846, .inl (s0)))] (S := Unit) (fun (r : Int32) (_ : Unit) => r = (if ((0 : Int32) ≤ p1 ∧ p1 ≤ (1 : Int32)) then (if p1 = (0 : Int32) then 0 else (-5)) else (-1))) (fun _ => []) := by
  refine MetI.mk (lv := [(0, .ref mo_), (1, .int p1)]) (by decide +kernel) (Nat.le_of_ble_eq_true rfl) rfl ?_
  intro p e s m below meth c A ls C0 hP hD hS hX hl
  have C1 := C0
  obtain ⟨hx, hb, hr, hml, hown, hlocks, hname, hT, hN, hK, hA⟩ := C1
  refine lv_iload_n hx hb dX6_looked_0 rfl (lv_at hl 1 rfl) ?_
  refine lv_iconst (v := 0) hx hb dX6_looked_1 (by decide) ?_
  refine lv_iconst (v := 1) hx hb dX6_looked_2 (by decide) ?_
  refine contI (wc := []) (wr := [(mo_, .inr (6, [.int 0, .ref ms, .ref mi, .int 0, .int 0, .int 0, .int 0, .int 0, .int 0, .ref mb, .ref mt, .ref ml, .ref mx, .int 0, .int 0, .int 0, .int 0, .int 0, .int 0, .ref mc, .int 0, .ref mn, .ref mp, .ref mo, .int 0, .int 0, .int 0, .int 0])), (ms, .inl (cI, 846, .inl (s0)))]) C0 hP hD hS [] [0, 1] rfl rfl (by decide) (by decide) 0 0 (Nat.le_of_ble_eq_true rfl) (Nat.le_of_ble_eq_true rfl) (runS (k := 3) (As := [.int p1, .int 0, .int 1]) (rest := []) C0 (mc_in l D cI cZ cQ cT _ p1 0 1) wc_X6_in wl_X6_45 wt_X6_in wz_X6 ⟨by decide, by decide, by decide +kernel⟩ ⟨(Nat.le_of_ble_eq_true rfl), (Nat.le_of_ble_eq_true rfl)⟩ hP hD hS EF.ok hX [] rfl (by decide) rfl hl.1 rfl (Nat.le_of_ble_eq_true rfl) dX6_looked_3 ⟨(Nat.le_of_ble_eq_true rfl), (Nat.le_of_ble_eq_true rfl)⟩) (fun r_3 u_1 H locs w_2 hP hD hS => ?_)
  have hP : va_P D CL [(mo_, .inr (6, [.int 0, .ref ms, .ref mi, .int 0, .int 0, .int 0, .int 0, .int 0, .int 0, .ref mb, .ref mt, .ref ml, .ref mx, .int 0, .int 0, .int 0, .int 0, .int 0, .int 0, .ref mc, .int 0, .ref mn, .ref mp, .ref mo, .int 0, .int 0, .int 0, .int 0])), (ms, .inl (cI, 846, .inl (s0)))] H := hP
  have hD : va_D A [(mo_, .inr (6, [.int 0, .ref ms, .ref mi, .int 0, .int 0, .int 0, .int 0, .int 0, .int 0, .ref mb, .ref mt, .ref ml, .ref mx, .int 0, .int 0, .int 0, .int 0, .int 0, .int 0, .ref mc, .int 0, .ref mn, .ref mp, .ref mo, .int 0, .int 0, .int 0, .int 0])), (ms, .inl (cI, 846, .inl (s0)))] := hD
  refine (Decidable.em (((0 : Int32) ≤ p1 ∧ p1 ≤ (1 : Int32)))).elim (fun c_4 => ?_) (fun c_4 => ?_)
  · obtain rfl : r_3 = 1 := w_2.trans (if_pos c_4)
    refine lv_if_ne (tgt := 11) hx hb dX6_looked_6 (by decide) (fun _ => ?_) (fun c_0 => absurd c_0 (by decide))
    refine lv_aload_n hx hb dX6_looked_11 rfl (lv_at hl 0 rfl) ?_
    refine contV (wc := [(mo_, .inr (6, [.int 0, .ref ms, .ref mi, .int 0, .int 0, .int 0, .int 0, .int 0, .int 0, .ref mb, .ref mt, .ref ml, .ref mx, .int 0, .int 0, .int 0, .int 0, .int 0, .int 0, .ref mc, .int 0, .ref mn, .ref mp, .ref mo, .int 0, .int 0, .int 0, .int 0])), (ms, .inl (cI, 846, .inl (s0)))]) (wr := []) C0 hP hD hS [0, 1] [] rfl rfl (by decide) (by decide) 0 0 (Nat.le_of_ble_eq_true rfl) (Nat.le_of_ble_eq_true rfl) (runV (k := 0) (As := []) (rest := []) C0 (m_looks l D cI cZ cQ cT _ mo_ ms mi mb mt ml mx 0 0 0 0 0 0 mc 0 mn mp mo) wc_X6_looks wl_X6_181 wi_X6_looks we_X6_looks wz_X6 ⟨by decide, by decide, by decide +kernel⟩ ⟨(Nat.le_of_ble_eq_true rfl), (Nat.le_of_ble_eq_true rfl)⟩ hP hD hS EF.ok hX [0, 1] rfl (by decide) 0 rfl rfl rfl rfl hl.1 rfl (Nat.le_of_ble_eq_true rfl) dX6_looked_12 ⟨(Nat.le_of_ble_eq_true rfl), (Nat.le_of_ble_eq_true rfl)⟩) (fun u_6 H locs w_7 hP hD hS => ?_)
    obtain ⟨w1_5, rfl⟩ : ∃ z, z = u_6 := ⟨_, rfl⟩
    have hP : va_P D CL [(mo_, .inr (6, [.int 0, .ref ms, .ref mi, .int 0, .int 0, .int 0, .int 0, .int 0, .int 0, .ref mb, .ref mt, .ref ml, .ref mx, .int w1_5, .int 0, .int 0, .int 0, .int 0, .int 0, .ref mc, .int 0, .ref mn, .ref mp, .ref mo, .int 0, .int 0, .int 0, .int 0])), (ms, .inl (cI, 846, .inl (s0)))] H := hP
    have hD : va_D A [(mo_, .inr (6, [.int 0, .ref ms, .ref mi, .int 0, .int 0, .int 0, .int 0, .int 0, .int 0, .ref mb, .ref mt, .ref ml, .ref mx, .int w1_5, .int 0, .int 0, .int 0, .int 0, .int 0, .ref mc, .int 0, .ref mn, .ref mp, .ref mo, .int 0, .int 0, .int 0, .int 0])), (ms, .inl (cI, 846, .inl (s0)))] := hD
    refine lv_iconst (v := 0) hx hb dX6_looked_15 (by decide) ?_
    refine lv_istore_n (lv' := [(2, .int 0), (0, .ref mo_), (1, .int p1)]) hx hb dX6_looked_16 rfl hl (by decide) rfl (fun ls hl => ?_)
    refine lv_bipush (v := (-5)) hx hb dX6_looked_17 (by decide) ?_
    refine lv_istore_n (lv' := [(3, .int (-5)), (2, .int 0), (0, .ref mo_), (1, .int p1)]) hx hb dX6_looked_19 rfl hl (by decide) rfl (fun ls hl => ?_)
    refine lv_iconst (v := 0) hx hb dX6_looked_20 (by decide) ?_
    refine lv_istore (lv' := [(4, .int 0), (3, .int (-5)), (2, .int 0), (0, .ref mo_), (1, .int p1)]) hx hb dX6_looked_21 hl (by decide) rfl (fun ls hl => ?_)
    refine lv_iload hx hb dX6_looked_23 (lv_at hl 0 rfl) ?_
    refine lv_aload_n hx hb dX6_looked_25 rfl (lv_at hl 3 rfl) ?_
    refine va_get (ci := 6) (v := .ref ms) (C := RX6) (T := TX6) (N := 28) hx hb hT wu_X6 hown hK hP 0 rfl rfl 1 (by decide) (hT _ wf_X6_7) (fun _ h9 => h9) rfl dX6_looked_26 ?_
    refine lv_iconst (v := 2) hx hb dX6_looked_29 (by decide) ?_
    refine va_iald hx hb hK hP 1 0 rfl rfl (vin _ _ (by decide +kernel)) dX6_looked_30 ?_
    refine lv_ci 0 (by decide +kernel) ?_
    refine lv_icmp_ge (tgt := 87) hx hb dX6_looked_31 (by decide) (fun _ => ?_) (fun c_0 => absurd (by decide) c_0)
    refine lv_iload_n hx hb dX6_looked_87 rfl (lv_at hl 4 rfl) ?_
    refine lv_if_ne (tgt := 95) hx hb dX6_looked_88 (by decide) (fun c_9 => ?_) (fun c_9 => ?_)
    · refine lv_iload_n hx hb dX6_looked_95 rfl (lv_at hl 1 rfl) ?_
      exact retI C0 rfl () (((if_pos c_4).trans ((if_neg c_9))).symm) (hP.sub (ws' := []) [] rfl) (hD.sub (ws' := []) [] (by decide) rfl) hS (Nat.le_of_ble_eq_true rfl) (Nat.le_of_ble_eq_true rfl) dX6_looked_96
    · refine lv_iload_n hx hb dX6_looked_91 rfl (lv_at hl 2 rfl) ?_
      refine lv_goto (tgt := 96) hx hb dX6_looked_92 (by decide) ?_
      exact retI C0 rfl () (((if_pos c_4).trans ((if_pos c_9))).symm) (hP.sub (ws' := []) [] rfl) (hD.sub (ws' := []) [] (by decide) rfl) hS (Nat.le_of_ble_eq_true rfl) (Nat.le_of_ble_eq_true rfl) dX6_looked_96
  · obtain rfl : r_3 = 0 := w_2.trans (if_neg c_4)
    refine lv_if_ne (tgt := 11) hx hb dX6_looked_6 (by decide) (fun c_0 => absurd (by decide) c_0) (fun _ => ?_)
    refine lv_iconst (v := (-1)) hx hb dX6_looked_9 (by decide) ?_
    exact retI C0 rfl () (((if_neg c_4)).symm) (hP.sub (ws' := []) [] rfl) (hD.sub (ws' := []) [] (by decide) rfl) hS (Nat.le_of_ble_eq_true rfl) (Nat.le_of_ble_eq_true rfl) dX6_looked_10

set_option maxHeartbeats 4000000 in
set_option maxRecDepth 100000 in
theorem m_act (l : Launch) (D : va_G) (cI cZ cQ cT : ClassId) (sz : Nat) (mo_ : Nat) (p1 : Int32) (p2 : Int32) (p3 : Int32) (ms : Nat) (mi : Nat) (mb : Nat) (mt : Nat) (ml : Nat) (mx : Nat) (mc : Nat) (mn : Nat) (mp : Nat) (mo : Nat)  : MetI l yX6_act cX6_act 4 .int ({ frames := 2, cells := 0, slots := 0, locals := 43 } : Room) [.ref mo_, .int p1, .int p2, .int p3] D (TYS cI cZ cQ cT) EF sz [(mo_, .inr (6, [.int 0, .ref ms, .ref mi, .int 0, .int 0, .int 0, .int 0, .int 0, .int 0, .ref mb, .ref mt, .ref ml, .ref mx, .int 0, .int 0, .int 0, .int 0, .int 0, .int 0, .ref mc, .int 0, .ref mn, .ref mp, .ref mo, .int 0, .int 0, .int 0, .int 0])), (ms, .inl (cI, 846, .inl (s0)))] (S := Unit) (fun (r : Int32) (_ : Unit) => r = 0) (fun _ => []) := by
  refine MetI.mk (lv := [(0, .ref mo_), (1, .int p1), (2, .int p2), (3, .int p3)]) (by decide +kernel) (Nat.le_of_ble_eq_true rfl) rfl ?_
  intro p e s m below meth c A ls C0 hP hD hS hX hl
  have C1 := C0
  obtain ⟨hx, hb, hr, hml, hown, hlocks, hname, hT, hN, hK, hA⟩ := C1
  refine lv_aload_n hx hb dX6_act_0 rfl (lv_at hl 0 rfl) ?_
  refine lv_iconst (v := 0) hx hb dX6_act_1 (by decide) ?_
  refine va_put (ci := 6) (v := .int 0) (ty := .int) (C := RX6) (T := TX6) (N := 28) hx hb hT wu_X6 tyX6 tyX6_ok nmX6 hown hK hP hD hS 0 rfl rfl 24 (by decide) (hT _ wf_X6_232) (fun _ h9 => h9) rfl (by decide +kernel) rfl rfl (Nat.le_of_ble_eq_true rfl) dX6_act_2 (fun H locs hP hD hS => ?_)
  have hP : va_P D CL [(mo_, .inr (6, [.int 0, .ref ms, .ref mi, .int 0, .int 0, .int 0, .int 0, .int 0, .int 0, .ref mb, .ref mt, .ref ml, .ref mx, .int 0, .int 0, .int 0, .int 0, .int 0, .int 0, .ref mc, .int 0, .ref mn, .ref mp, .ref mo, .int 0, .int 0, .int 0, .int 0])), (ms, .inl (cI, 846, .inl (s0)))] H := hP
  have hD : va_D A [(mo_, .inr (6, [.int 0, .ref ms, .ref mi, .int 0, .int 0, .int 0, .int 0, .int 0, .int 0, .ref mb, .ref mt, .ref ml, .ref mx, .int 0, .int 0, .int 0, .int 0, .int 0, .int 0, .ref mc, .int 0, .ref mn, .ref mp, .ref mo, .int 0, .int 0, .int 0, .int 0])), (ms, .inl (cI, 846, .inl (s0)))] := hD
  refine lv_aload_n hx hb dX6_act_5 rfl (lv_at hl 0 rfl) ?_
  refine lv_iload_n hx hb dX6_act_6 rfl (lv_at hl 1 rfl) ?_
  refine contI (wc := [(mo_, .inr (6, [.int 0, .ref ms, .ref mi, .int 0, .int 0, .int 0, .int 0, .int 0, .int 0, .ref mb, .ref mt, .ref ml, .ref mx, .int 0, .int 0, .int 0, .int 0, .int 0, .int 0, .ref mc, .int 0, .ref mn, .ref mp, .ref mo, .int 0, .int 0, .int 0, .int 0])), (ms, .inl (cI, 846, .inl (s0)))]) (wr := []) C0 hP hD hS [0, 1] [] rfl rfl (by decide) (by decide) 0 0 (Nat.le_of_ble_eq_true rfl) (Nat.le_of_ble_eq_true rfl) (runV (k := 1) (As := [.int p1]) (rest := []) C0 (m_isPerson l D cI cZ cQ cT _ mo_ p1 ms mi mb mt ml mx 0 0 0 0 0 0 mc 0 mn mp mo) wc_X6_isPerson wl_X6_152 wi_X6_isPerson we_X6_isPerson wz_X6 ⟨by decide, by decide, by decide +kernel⟩ ⟨(Nat.le_of_ble_eq_true rfl), (Nat.le_of_ble_eq_true rfl)⟩ hP hD hS EF.ok hX [0, 1] rfl (by decide) 0 rfl rfl rfl rfl hl.1 rfl (Nat.le_of_ble_eq_true rfl) dX6_act_7 ⟨(Nat.le_of_ble_eq_true rfl), (Nat.le_of_ble_eq_true rfl)⟩) (fun r_3 u_1 H locs w_2 hP hD hS => ?_)
  have hP : va_P D CL [(mo_, .inr (6, [.int 0, .ref ms, .ref mi, .int 0, .int 0, .int 0, .int 0, .int 0, .int 0, .ref mb, .ref mt, .ref ml, .ref mx, .int 0, .int 0, .int 0, .int 0, .int 0, .int 0, .ref mc, .int 0, .ref mn, .ref mp, .ref mo, .int 0, .int 0, .int 0, .int 0])), (ms, .inl (cI, 846, .inl (s0)))] H := hP
  have hD : va_D A [(mo_, .inr (6, [.int 0, .ref ms, .ref mi, .int 0, .int 0, .int 0, .int 0, .int 0, .int 0, .ref mb, .ref mt, .ref ml, .ref mx, .int 0, .int 0, .int 0, .int 0, .int 0, .int 0, .ref mc, .int 0, .ref mn, .ref mp, .ref mo, .int 0, .int 0, .int 0, .int 0])), (ms, .inl (cI, 846, .inl (s0)))] := hD
  obtain rfl : r_3 = 0 := w_2
  refine lv_if_eq (tgt := 22) hx hb dX6_act_10 (by decide) (fun _ => ?_) (fun c_0 => absurd (by decide) c_0)
  refine lv_iconst (v := 0) hx hb dX6_act_22 (by decide) ?_
  exact retI C0 rfl () rfl (hP.sub (ws' := []) [] rfl) (hD.sub (ws' := []) [] (by decide) rfl) hS (Nat.le_of_ble_eq_true rfl) (Nat.le_of_ble_eq_true rfl) dX6_act_23

set_option maxHeartbeats 4000000 in
set_option maxRecDepth 100000 in
theorem m_trace (l : Launch) (D : va_G) (cI cZ cQ cT : ClassId) (sz : Nat) (mo_ : Nat) (p1 : Int32) (ms : Nat) (mi : Nat) (mb : Nat) (mt : Nat) (ml : Nat) (mx : Nat) (mc : Nat) (mn : Nat) (mp : Nat) (mo : Nat)  : MetI l yX6_trace cX6_trace 2 .int ({ frames := 1, cells := 0, slots := 0, locals := 22 } : Room) [.ref mo_, .int p1] D (TYS cI cZ cQ cT) EF sz [(mo_, .inr (6, [.int 0, .ref ms, .ref mi, .int 0, .int 0, .int 0, .int 0, .int 0, .int 0, .ref mb, .ref mt, .ref ml, .ref mx, .int 0, .int 0, .int 0, .int 0, .int 0, .int 0, .ref mc, .int 0, .ref mn, .ref mp, .ref mo, .int 0, .int 0, .int 0, .int 0])), (ms, .inl (cI, 846, .inl (s0)))] (S := Unit) (fun (r : Int32) (_ : Unit) => r = (-1)) (fun _ => []) := by
  refine MetI.mk (lv := [(0, .ref mo_), (1, .int p1)]) (by decide +kernel) (Nat.le_of_ble_eq_true rfl) rfl ?_
  intro p e s m below meth c A ls C0 hP hD hS hX hl
  have C1 := C0
  obtain ⟨hx, hb, hr, hml, hown, hlocks, hname, hT, hN, hK, hA⟩ := C1
  refine lv_iload_n hx hb dX6_trace_0 rfl (lv_at hl 1 rfl) ?_
  refine lv_iconst (v := 0) hx hb dX6_trace_1 (by decide) ?_
  refine lv_aload_n hx hb dX6_trace_2 rfl (lv_at hl 0 rfl) ?_
  refine va_get (ci := 6) (v := .int 0) (C := RX6) (T := TX6) (N := 28) hx hb hT wu_X6 hown hK hP 0 rfl rfl 24 (by decide) (hT _ wf_X6_232) (fun _ h9 => h9) rfl dX6_trace_3 ?_
  refine lv_bipush (v := 20) hx hb dX6_trace_6 (by decide) ?_
  refine lv_icmp_ge (tgt := 18) hx hb dX6_trace_8 (by decide) (fun c_0 => absurd c_0 (by decide)) (fun _ => ?_)
  refine lv_aload_n hx hb dX6_trace_11 rfl (lv_at hl 0 rfl) ?_
  refine va_get (ci := 6) (v := .int 0) (C := RX6) (T := TX6) (N := 28) hx hb hT wu_X6 hown hK hP 0 rfl rfl 24 (by decide) (hT _ wf_X6_232) (fun _ h9 => h9) rfl dX6_trace_12 ?_
  refine lv_goto (tgt := 20) hx hb dX6_trace_15 (by decide) ?_
  refine lv_iconst (v := 1) hx hb dX6_trace_20 (by decide) ?_
  refine lv_isub hx hb dX6_trace_21 ?_
  refine lv_ci (-1) (by decide +kernel) ?_
  refine contI (wc := []) (wr := [(mo_, .inr (6, [.int 0, .ref ms, .ref mi, .int 0, .int 0, .int 0, .int 0, .int 0, .int 0, .ref mb, .ref mt, .ref ml, .ref mx, .int 0, .int 0, .int 0, .int 0, .int 0, .int 0, .ref mc, .int 0, .ref mn, .ref mp, .ref mo, .int 0, .int 0, .int 0, .int 0])), (ms, .inl (cI, 846, .inl (s0)))]) C0 hP hD hS [] [0, 1] rfl rfl (by decide) (by decide) 0 0 (Nat.le_of_ble_eq_true rfl) (Nat.le_of_ble_eq_true rfl) (runS (k := 3) (As := [.int p1, .int 0, .int (-1)]) (rest := []) C0 (mc_in0 l D cI cZ cQ cT _ p1) wc_X6_in wl_X6_45 wt_X6_in wz_X6 ⟨by decide, by decide, by decide +kernel⟩ ⟨(Nat.le_of_ble_eq_true rfl), (Nat.le_of_ble_eq_true rfl)⟩ hP hD hS EF.ok hX [] rfl (by decide) rfl hl.1 rfl (Nat.le_of_ble_eq_true rfl) dX6_trace_22 ⟨(Nat.le_of_ble_eq_true rfl), (Nat.le_of_ble_eq_true rfl)⟩) (fun r_3 u_1 H locs w_2 hP hD hS => ?_)
  have hP : va_P D CL [(mo_, .inr (6, [.int 0, .ref ms, .ref mi, .int 0, .int 0, .int 0, .int 0, .int 0, .int 0, .ref mb, .ref mt, .ref ml, .ref mx, .int 0, .int 0, .int 0, .int 0, .int 0, .int 0, .ref mc, .int 0, .ref mn, .ref mp, .ref mo, .int 0, .int 0, .int 0, .int 0])), (ms, .inl (cI, 846, .inl (s0)))] H := hP
  have hD : va_D A [(mo_, .inr (6, [.int 0, .ref ms, .ref mi, .int 0, .int 0, .int 0, .int 0, .int 0, .int 0, .ref mb, .ref mt, .ref ml, .ref mx, .int 0, .int 0, .int 0, .int 0, .int 0, .int 0, .ref mc, .int 0, .ref mn, .ref mp, .ref mo, .int 0, .int 0, .int 0, .int 0])), (ms, .inl (cI, 846, .inl (s0)))] := hD
  obtain rfl : r_3 = 0 := w_2
  refine lv_if_eq (tgt := 37) hx hb dX6_trace_25 (by decide) (fun _ => ?_) (fun c_0 => absurd (by decide) c_0)
  refine lv_iconst (v := (-1)) hx hb dX6_trace_37 (by decide) ?_
  exact retI C0 rfl () rfl (hP.sub (ws' := []) [] rfl) (hD.sub (ws' := []) [] (by decide) rfl) hS (Nat.le_of_ble_eq_true rfl) (Nat.le_of_ble_eq_true rfl) dX6_trace_38

set_option maxHeartbeats 4000000 in
set_option maxRecDepth 100000 in
theorem m_as (l : Launch) (D : va_G) (cI cZ cQ cT : ClassId) (sz : Nat) (mo_ : Nat) (p1 : Int32) (p2 : Int32) (ms : Nat) (mi : Nat) (mb : Nat) (mt : Nat) (ml : Nat) (mx : Nat) (mc : Nat) (mn : Nat) (mp : Nat) (mo : Nat)  : MetI l yX6_as cX6_as 3 .int ({ frames := 2, cells := 0, slots := 0, locals := 43 } : Room) [.ref mo_, .int p1, .int p2] D (TYS cI cZ cQ cT) EF sz [(mo_, .inr (6, [.int 0, .ref ms, .ref mi, .int 0, .int 0, .int 0, .int 0, .int 0, .int 0, .ref mb, .ref mt, .ref ml, .ref mx, .int 0, .int 0, .int 0, .int 0, .int 0, .int 0, .ref mc, .int 0, .ref mn, .ref mp, .ref mo, .int 0, .int 0, .int 0, .int 0])), (ms, .inl (cI, 846, .inl (s0)))] (S := Unit) (fun (r : Int32) (_ : Unit) => r = (-1)) (fun _ => []) := by
  refine MetI.mk (lv := [(0, .ref mo_), (1, .int p1), (2, .int p2)]) (by decide +kernel) (Nat.le_of_ble_eq_true rfl) rfl ?_
  intro p e s m below meth c A ls C0 hP hD hS hX hl
  have C1 := C0
  obtain ⟨hx, hb, hr, hml, hown, hlocks, hname, hT, hN, hK, hA⟩ := C1
  refine lv_aload_n hx hb dX6_as_0 rfl (lv_at hl 0 rfl) ?_
  refine lv_iload_n hx hb dX6_as_1 rfl (lv_at hl 1 rfl) ?_
  refine contI (wc := [(mo_, .inr (6, [.int 0, .ref ms, .ref mi, .int 0, .int 0, .int 0, .int 0, .int 0, .int 0, .ref mb, .ref mt, .ref ml, .ref mx, .int 0, .int 0, .int 0, .int 0, .int 0, .int 0, .ref mc, .int 0, .ref mn, .ref mp, .ref mo, .int 0, .int 0, .int 0, .int 0])), (ms, .inl (cI, 846, .inl (s0)))]) (wr := []) C0 hP hD hS [0, 1] [] rfl rfl (by decide) (by decide) 0 0 (Nat.le_of_ble_eq_true rfl) (Nat.le_of_ble_eq_true rfl) (runV (k := 1) (As := [.int p1]) (rest := []) C0 (m_isPerson l D cI cZ cQ cT _ mo_ p1 ms mi mb mt ml mx 0 0 0 0 0 0 mc 0 mn mp mo) wc_X6_isPerson wl_X6_152 wi_X6_isPerson we_X6_isPerson wz_X6 ⟨by decide, by decide, by decide +kernel⟩ ⟨(Nat.le_of_ble_eq_true rfl), (Nat.le_of_ble_eq_true rfl)⟩ hP hD hS EF.ok hX [0, 1] rfl (by decide) 0 rfl rfl rfl rfl hl.1 rfl (Nat.le_of_ble_eq_true rfl) dX6_as_2 ⟨(Nat.le_of_ble_eq_true rfl), (Nat.le_of_ble_eq_true rfl)⟩) (fun r_3 u_1 H locs w_2 hP hD hS => ?_)
  have hP : va_P D CL [(mo_, .inr (6, [.int 0, .ref ms, .ref mi, .int 0, .int 0, .int 0, .int 0, .int 0, .int 0, .ref mb, .ref mt, .ref ml, .ref mx, .int 0, .int 0, .int 0, .int 0, .int 0, .int 0, .ref mc, .int 0, .ref mn, .ref mp, .ref mo, .int 0, .int 0, .int 0, .int 0])), (ms, .inl (cI, 846, .inl (s0)))] H := hP
  have hD : va_D A [(mo_, .inr (6, [.int 0, .ref ms, .ref mi, .int 0, .int 0, .int 0, .int 0, .int 0, .int 0, .ref mb, .ref mt, .ref ml, .ref mx, .int 0, .int 0, .int 0, .int 0, .int 0, .int 0, .ref mc, .int 0, .ref mn, .ref mp, .ref mo, .int 0, .int 0, .int 0, .int 0])), (ms, .inl (cI, 846, .inl (s0)))] := hD
  obtain rfl : r_3 = 0 := w_2
  refine lv_if_eq (tgt := 18) hx hb dX6_as_5 (by decide) (fun _ => ?_) (fun c_0 => absurd (by decide) c_0)
  refine lv_iconst (v := (-1)) hx hb dX6_as_18 (by decide) ?_
  exact retI C0 rfl () rfl (hP.sub (ws' := []) [] rfl) (hD.sub (ws' := []) [] (by decide) rfl) hS (Nat.le_of_ble_eq_true rfl) (Nat.le_of_ble_eq_true rfl) dX6_as_19

set_option maxHeartbeats 4000000 in
set_option maxRecDepth 100000 in
theorem m_undo (l : Launch) (D : va_G) (cI cZ cQ cT : ClassId) (sz : Nat) (mo_ : Nat) (ms : Nat) (mi : Nat) (mb : Nat) (mt : Nat) (ml : Nat) (mx : Nat) (mc : Nat) (mn : Nat) (mp : Nat) (mo : Nat)  : MetI l yX6_undo cX6_undo 2 .int ({ frames := 0, cells := 0, slots := 0, locals := 0 } : Room) [.ref mo_] D (TYS cI cZ cQ cT) EF sz [(mo_, .inr (6, [.int 0, .ref ms, .ref mi, .int 0, .int 0, .int 0, .int 0, .int 0, .int 0, .ref mb, .ref mt, .ref ml, .ref mx, .int 0, .int 0, .int 0, .int 0, .int 0, .int 0, .ref mc, .int 0, .ref mn, .ref mp, .ref mo, .int 0, .int 0, .int 0, .int 0])), (ms, .inl (cI, 846, .inl (s0)))] (S := Unit) (fun (r : Int32) (_ : Unit) => r = (-3)) (fun _ => []) := by
  refine MetI.mk (lv := [(0, .ref mo_)]) (by decide +kernel) (Nat.le_of_ble_eq_true rfl) rfl ?_
  intro p e s m below meth c A ls C0 hP hD hS hX hl
  have C1 := C0
  obtain ⟨hx, hb, hr, hml, hown, hlocks, hname, hT, hN, hK, hA⟩ := C1
  refine lv_aload_n hx hb dX6_undo_0 rfl (lv_at hl 0 rfl) ?_
  refine va_get (ci := 6) (v := .int 0) (C := RX6) (T := TX6) (N := 28) hx hb hT wu_X6 hown hK hP 0 rfl rfl 3 (by decide) (hT _ wf_X6_268) (fun _ h9 => h9) rfl dX6_undo_1 ?_
  refine lv_if_ne (tgt := 10) hx hb dX6_undo_4 (by decide) (fun c_0 => absurd (by decide) c_0) (fun _ => ?_)
  refine lv_bipush (v := (-3)) hx hb dX6_undo_7 (by decide) ?_
  exact retI C0 rfl () rfl (hP.sub (ws' := []) [] rfl) (hD.sub (ws' := []) [] (by decide) rfl) hS (Nat.le_of_ble_eq_true rfl) (Nat.le_of_ble_eq_true rfl) dX6_undo_9

set_option maxHeartbeats 4000000 in
set_option maxRecDepth 100000 in
theorem m_count (l : Launch) (D : va_G) (cI cZ cQ cT : ClassId) (sz : Nat) (mo_ : Nat) (p1 : Int32) (ms : Nat) (mi : Nat) (mb : Nat) (mt : Nat) (ml : Nat) (mx : Nat) (mc : Nat) (mn : Nat) (mp : Nat) (mo : Nat)  : MetI l yX6_count cX6_count 2 .int ({ frames := 0, cells := 0, slots := 0, locals := 0 } : Room) [.ref mo_, .int p1] D (TYS cI cZ cQ cT) EF sz [(mo_, .inr (6, [.int 0, .ref ms, .ref mi, .int 0, .int 0, .int 0, .int 0, .int 0, .int 0, .ref mb, .ref mt, .ref ml, .ref mx, .int 0, .int 0, .int 0, .int 0, .int 0, .int 0, .ref mc, .int 0, .ref mn, .ref mp, .ref mo, .int 0, .int 0, .int 0, .int 0])), (ms, .inl (cI, 846, .inl (s0)))] (S := Unit) (fun (r : Int32) (_ : Unit) => r = (if p1 = (0 : Int32) then 0 else (if p1 = (1 : Int32) then 0 else (if p1 = (2 : Int32) then 0 else (if p1 = (3 : Int32) then 0 else (if p1 = (4 : Int32) then 0 else (-1))))))) (fun _ => []) := by
  refine MetI.mk (lv := [(0, .ref mo_), (1, .int p1)]) (by decide +kernel) (Nat.le_of_ble_eq_true rfl) rfl ?_
  intro p e s m below meth c A ls C0 hP hD hS hX hl
  have C1 := C0
  obtain ⟨hx, hb, hr, hml, hown, hlocks, hname, hT, hN, hK, hA⟩ := C1
  refine lv_iload_n hx hb dX6_count_0 rfl (lv_at hl 1 rfl) ?_
  refine (Decidable.em (p1 = (0 : Int32))).elim (fun c_1 => ?_) (fun c_1 => ?_)
  · refine lv_tableIn (off := 35) (tgt := 36) hx hb dX6_count_1 (by rw [c_1]; decide) (by rw [c_1]; decide) (by rw [c_1]; rfl) (by decide) ?_
    refine lv_aload_n hx hb dX6_count_36 rfl (lv_at hl 0 rfl) ?_
    refine va_get (ci := 6) (v := .ref ms) (C := RX6) (T := TX6) (N := 28) hx hb hT wu_X6 hown hK hP 0 rfl rfl 1 (by decide) (hT _ wf_X6_7) (fun _ h9 => h9) rfl dX6_count_37 ?_
    refine lv_iconst (v := 0) hx hb dX6_count_40 (by decide) ?_
    refine va_iald hx hb hK hP 1 0 rfl rfl (vin _ _ (by decide +kernel)) dX6_count_41 ?_
    refine lv_ci 0 (by decide +kernel) ?_
    exact retI C0 rfl () (((if_pos c_1)).symm) (hP.sub (ws' := []) [] rfl) (hD.sub (ws' := []) [] (by decide) rfl) hS (Nat.le_of_ble_eq_true rfl) (Nat.le_of_ble_eq_true rfl) dX6_count_42
  · skip
    refine (Decidable.em (p1 = (1 : Int32))).elim (fun c_2 => ?_) (fun c_2 => ?_)
    · refine lv_tableIn (off := 42) (tgt := 43) hx hb dX6_count_1 (by rw [c_2]; decide) (by rw [c_2]; decide) (by rw [c_2]; rfl) (by decide) ?_
      refine lv_aload_n hx hb dX6_count_43 rfl (lv_at hl 0 rfl) ?_
      refine va_get (ci := 6) (v := .ref ms) (C := RX6) (T := TX6) (N := 28) hx hb hT wu_X6 hown hK hP 0 rfl rfl 1 (by decide) (hT _ wf_X6_7) (fun _ h9 => h9) rfl dX6_count_44 ?_
      refine lv_iconst (v := 1) hx hb dX6_count_47 (by decide) ?_
      refine va_iald hx hb hK hP 1 0 rfl rfl (vin _ _ (by decide +kernel)) dX6_count_48 ?_
      refine lv_ci 0 (by decide +kernel) ?_
      exact retI C0 rfl () (((if_neg c_1).trans ((if_pos c_2))).symm) (hP.sub (ws' := []) [] rfl) (hD.sub (ws' := []) [] (by decide) rfl) hS (Nat.le_of_ble_eq_true rfl) (Nat.le_of_ble_eq_true rfl) dX6_count_49
    · skip
      refine (Decidable.em (p1 = (2 : Int32))).elim (fun c_3 => ?_) (fun c_3 => ?_)
      · refine lv_tableIn (off := 49) (tgt := 50) hx hb dX6_count_1 (by rw [c_3]; decide) (by rw [c_3]; decide) (by rw [c_3]; rfl) (by decide) ?_
        refine lv_aload_n hx hb dX6_count_50 rfl (lv_at hl 0 rfl) ?_
        refine va_get (ci := 6) (v := .ref ms) (C := RX6) (T := TX6) (N := 28) hx hb hT wu_X6 hown hK hP 0 rfl rfl 1 (by decide) (hT _ wf_X6_7) (fun _ h9 => h9) rfl dX6_count_51 ?_
        refine lv_iconst (v := 2) hx hb dX6_count_54 (by decide) ?_
        refine va_iald hx hb hK hP 1 0 rfl rfl (vin _ _ (by decide +kernel)) dX6_count_55 ?_
        refine lv_ci 0 (by decide +kernel) ?_
        exact retI C0 rfl () (((if_neg c_1).trans ((if_neg c_2).trans ((if_pos c_3)))).symm) (hP.sub (ws' := []) [] rfl) (hD.sub (ws' := []) [] (by decide) rfl) hS (Nat.le_of_ble_eq_true rfl) (Nat.le_of_ble_eq_true rfl) dX6_count_56
      · skip
        refine (Decidable.em (p1 = (3 : Int32))).elim (fun c_4 => ?_) (fun c_4 => ?_)
        · refine lv_tableIn (off := 56) (tgt := 57) hx hb dX6_count_1 (by rw [c_4]; decide) (by rw [c_4]; decide) (by rw [c_4]; rfl) (by decide) ?_
          refine lv_aload_n hx hb dX6_count_57 rfl (lv_at hl 0 rfl) ?_
          refine va_get (ci := 6) (v := .ref ms) (C := RX6) (T := TX6) (N := 28) hx hb hT wu_X6 hown hK hP 0 rfl rfl 1 (by decide) (hT _ wf_X6_7) (fun _ h9 => h9) rfl dX6_count_58 ?_
          refine lv_iconst (v := 3) hx hb dX6_count_61 (by decide) ?_
          refine va_iald hx hb hK hP 1 0 rfl rfl (vin _ _ (by decide +kernel)) dX6_count_62 ?_
          refine lv_ci 0 (by decide +kernel) ?_
          exact retI C0 rfl () (((if_neg c_1).trans ((if_neg c_2).trans ((if_neg c_3).trans ((if_pos c_4))))).symm) (hP.sub (ws' := []) [] rfl) (hD.sub (ws' := []) [] (by decide) rfl) hS (Nat.le_of_ble_eq_true rfl) (Nat.le_of_ble_eq_true rfl) dX6_count_63
        · skip
          refine (Decidable.em (p1 = (4 : Int32))).elim (fun c_5 => ?_) (fun c_5 => ?_)
          · refine lv_tableIn (off := 63) (tgt := 64) hx hb dX6_count_1 (by rw [c_5]; decide) (by rw [c_5]; decide) (by rw [c_5]; rfl) (by decide) ?_
            refine lv_aload_n hx hb dX6_count_64 rfl (lv_at hl 0 rfl) ?_
            refine va_get (ci := 6) (v := .int 0) (C := RX6) (T := TX6) (N := 28) hx hb hT wu_X6 hown hK hP 0 rfl rfl 24 (by decide) (hT _ wf_X6_232) (fun _ h9 => h9) rfl dX6_count_65 ?_
            exact retI C0 rfl () (((if_neg c_1).trans ((if_neg c_2).trans ((if_neg c_3).trans ((if_neg c_4).trans ((if_pos c_5)))))).symm) (hP.sub (ws' := []) [] rfl) (hD.sub (ws' := []) [] (by decide) rfl) hS (Nat.le_of_ble_eq_true rfl) (Nat.le_of_ble_eq_true rfl) dX6_count_68
          · skip
            refine lv_tableOut (tgt := 69) hx hb dX6_count_1 (by have e0 := ne_toInt (k := 0) c_1 (by decide); have e1 := ne_toInt (k := 1) c_2 (by decide); have e2 := ne_toInt (k := 2) c_3 (by decide); have e3 := ne_toInt (k := 3) c_4 (by decide); have e4 := ne_toInt (k := 4) c_5 (by decide); omega) (by decide) ?_
            refine lv_iconst (v := (-1)) hx hb dX6_count_69 (by decide) ?_
            exact retI C0 rfl () (((if_neg c_1).trans ((if_neg c_2).trans ((if_neg c_3).trans ((if_neg c_4).trans ((if_neg c_5)))))).symm) (hP.sub (ws' := []) [] rfl) (hD.sub (ws' := []) [] (by decide) rfl) hS (Nat.le_of_ble_eq_true rfl) (Nat.le_of_ble_eq_true rfl) dX6_count_70

set_option maxHeartbeats 4000000 in
set_option maxRecDepth 100000 in
theorem m_keeps (l : Launch) (D : va_G) (cI cZ cQ cT : ClassId) (sz : Nat) (mo_ : Nat) (ms : Nat) (mi : Nat) (mb : Nat) (mt : Nat) (ml : Nat) (mx : Nat) (v1 : Int32) (v2 : Int32) (v3 : Int32) (v4 : Int32) (v5 : Int32) (v6 : Int32) (mc : Nat) (v7 : Int32) (mn : Nat) (mp : Nat) (mo : Nat) (fq : Nat → Int32)  : MetV l yX6_keeps cX6_keeps 2 ({ frames := 0, cells := 0, slots := 0, locals := 0 } : Room) [.ref mo_] D (TYS cI cZ cQ cT) EF sz [(mo_, .inr (6, [.int 0, .ref ms, .ref mi, .int 0, .int 0, .int 0, .int 0, .int 0, .int 0, .ref mb, .ref mt, .ref ml, .ref mx, .int v1, .int v2, .int v3, .int v4, .int v5, .int v6, .ref mc, .int v7, .ref mn, .ref mp, .ref mo, .int 0, .int 0, .int 0, .int 0])), (ms, .inl (cI, 846, .inl (s0))), (mp, .inl (cI, 12, .inl fq))] (S := Unit) (fun (_ : Unit) => True) (fun _ => [(mo_, .inr (6, [.int 0, .ref ms, .ref mi, .int 0, .int 0, .int 0, .int 0, .int 0, .int 0, .ref mb, .ref mt, .ref ml, .ref mx, .int v1, .int v2, .int v3, .int v4, .int v5, .int v6, .ref mc, .int v7, .ref mn, .ref mp, .ref mo, .int 0, .int 0, .int 0, .int 0])), (ms, .inl (cI, 846, .inl (s0))), (mp, .inl (cI, 12, .inl (upd (upd (upd (upd (upd (upd (upd (upd (upd (upd (upd (upd fq ((0 : Int32)).toNatClampNeg 0) ((4 : Int32)).toNatClampNeg 0) ((8 : Int32)).toNatClampNeg 0) ((1 : Int32)).toNatClampNeg 0) ((5 : Int32)).toNatClampNeg 0) ((9 : Int32)).toNatClampNeg 0) ((2 : Int32)).toNatClampNeg 0) ((6 : Int32)).toNatClampNeg 0) ((10 : Int32)).toNatClampNeg 0) ((3 : Int32)).toNatClampNeg 0) ((7 : Int32)).toNatClampNeg 0) ((11 : Int32)).toNatClampNeg 0)))]) := by
  refine MetV.mk (lv := [(0, .ref mo_)]) (by decide +kernel) (Nat.le_of_ble_eq_true rfl) rfl ?_
  intro p e s m below meth c A ls C0 hP hD hS hX hl
  have C1 := C0
  obtain ⟨hx, hb, hr, hml, hown, hlocks, hname, hT, hN, hK, hA⟩ := C1
  refine lv_iconst (v := 0) hx hb dX6_keeps_0 (by decide) ?_
  refine lv_istore_n (lv' := [(1, .int 0), (0, .ref mo_)]) hx hb dX6_keeps_1 rfl hl (by decide) rfl (fun ls hl => ?_)
  refine lv_iload_n hx hb dX6_keeps_2 rfl (lv_at hl 0 rfl) ?_
  refine lv_iconst (v := 4) hx hb dX6_keeps_3 (by decide) ?_
  refine lv_icmp_ge (tgt := 63) hx hb dX6_keeps_4 (by decide) (fun c_0 => absurd c_0 (by decide)) (fun _ => ?_)
  refine lv_aload_n hx hb dX6_keeps_7 rfl (lv_at hl 1 rfl) ?_
  refine va_get (ci := 6) (v := .ref mp) (C := RX6) (T := TX6) (N := 28) hx hb hT wu_X6 hown hK hP 0 rfl rfl 22 (by decide) (hT _ wf_X6_35) (fun _ h9 => h9) rfl dX6_keeps_8 ?_
  refine lv_iload_n hx hb dX6_keeps_11 rfl (lv_at hl 0 rfl) ?_
  refine lv_aload_n hx hb dX6_keeps_12 rfl (lv_at hl 1 rfl) ?_
  refine va_get (ci := 6) (v := .ref ms) (C := RX6) (T := TX6) (N := 28) hx hb hT wu_X6 hown hK hP 0 rfl rfl 1 (by decide) (hT _ wf_X6_7) (fun _ h9 => h9) rfl dX6_keeps_13 ?_
  refine lv_bipush (v := 110) hx hb dX6_keeps_16 (by decide) ?_
  refine lv_iload_n hx hb dX6_keeps_18 rfl (lv_at hl 0 rfl) ?_
  refine lv_iadd hx hb dX6_keeps_19 ?_
  refine lv_ci 110 (by decide +kernel) ?_
  refine va_iald hx hb hK hP 1 0 rfl rfl (vin _ _ (by decide +kernel)) dX6_keeps_20 ?_
  refine lv_ci 0 (by decide +kernel) ?_
  refine va_iast hx hb hK hP hD hS 2 0 rfl rfl (vin _ _ (by decide +kernel)) dX6_keeps_21 (fun H locs hP hD hS => ?_)
  have hP : va_P D CL [(mo_, .inr (6, [.int 0, .ref ms, .ref mi, .int 0, .int 0, .int 0, .int 0, .int 0, .int 0, .ref mb, .ref mt, .ref ml, .ref mx, .int v1, .int v2, .int v3, .int v4, .int v5, .int v6, .ref mc, .int v7, .ref mn, .ref mp, .ref mo, .int 0, .int 0, .int 0, .int 0])), (ms, .inl (cI, 846, .inl (s0))), (mp, .inl (cI, 12, .inl (upd fq ((0 : Int32)).toNatClampNeg 0)))] H := hP
  have hD : va_D A [(mo_, .inr (6, [.int 0, .ref ms, .ref mi, .int 0, .int 0, .int 0, .int 0, .int 0, .int 0, .ref mb, .ref mt, .ref ml, .ref mx, .int v1, .int v2, .int v3, .int v4, .int v5, .int v6, .ref mc, .int v7, .ref mn, .ref mp, .ref mo, .int 0, .int 0, .int 0, .int 0])), (ms, .inl (cI, 846, .inl (s0))), (mp, .inl (cI, 12, .inl (upd fq ((0 : Int32)).toNatClampNeg 0)))] := hD
  refine lv_aload_n hx hb dX6_keeps_22 rfl (lv_at hl 1 rfl) ?_
  refine va_get (ci := 6) (v := .ref mp) (C := RX6) (T := TX6) (N := 28) hx hb hT wu_X6 hown hK hP 0 rfl rfl 22 (by decide) (hT _ wf_X6_35) (fun _ h9 => h9) rfl dX6_keeps_23 ?_
  refine lv_iconst (v := 4) hx hb dX6_keeps_26 (by decide) ?_
  refine lv_iload_n hx hb dX6_keeps_27 rfl (lv_at hl 0 rfl) ?_
  refine lv_iadd hx hb dX6_keeps_28 ?_
  refine lv_ci 4 (by decide +kernel) ?_
  refine lv_aload_n hx hb dX6_keeps_29 rfl (lv_at hl 1 rfl) ?_
  refine va_get (ci := 6) (v := .ref ms) (C := RX6) (T := TX6) (N := 28) hx hb hT wu_X6 hown hK hP 0 rfl rfl 1 (by decide) (hT _ wf_X6_7) (fun _ h9 => h9) rfl dX6_keeps_30 ?_
  refine lv_bipush (v := 114) hx hb dX6_keeps_33 (by decide) ?_
  refine lv_iload_n hx hb dX6_keeps_35 rfl (lv_at hl 0 rfl) ?_
  refine lv_iadd hx hb dX6_keeps_36 ?_
  refine lv_ci 114 (by decide +kernel) ?_
  refine va_iald hx hb hK hP 1 0 rfl rfl (vin _ _ (by decide +kernel)) dX6_keeps_37 ?_
  refine lv_ci 0 (by decide +kernel) ?_
  refine va_iast hx hb hK hP hD hS 2 0 rfl rfl (vin _ _ (by decide +kernel)) dX6_keeps_38 (fun H locs hP hD hS => ?_)
  have hP : va_P D CL [(mo_, .inr (6, [.int 0, .ref ms, .ref mi, .int 0, .int 0, .int 0, .int 0, .int 0, .int 0, .ref mb, .ref mt, .ref ml, .ref mx, .int v1, .int v2, .int v3, .int v4, .int v5, .int v6, .ref mc, .int v7, .ref mn, .ref mp, .ref mo, .int 0, .int 0, .int 0, .int 0])), (ms, .inl (cI, 846, .inl (s0))), (mp, .inl (cI, 12, .inl (upd (upd fq ((0 : Int32)).toNatClampNeg 0) ((4 : Int32)).toNatClampNeg 0)))] H := hP
  have hD : va_D A [(mo_, .inr (6, [.int 0, .ref ms, .ref mi, .int 0, .int 0, .int 0, .int 0, .int 0, .int 0, .ref mb, .ref mt, .ref ml, .ref mx, .int v1, .int v2, .int v3, .int v4, .int v5, .int v6, .ref mc, .int v7, .ref mn, .ref mp, .ref mo, .int 0, .int 0, .int 0, .int 0])), (ms, .inl (cI, 846, .inl (s0))), (mp, .inl (cI, 12, .inl (upd (upd fq ((0 : Int32)).toNatClampNeg 0) ((4 : Int32)).toNatClampNeg 0)))] := hD
  refine lv_aload_n hx hb dX6_keeps_39 rfl (lv_at hl 1 rfl) ?_
  refine va_get (ci := 6) (v := .ref mp) (C := RX6) (T := TX6) (N := 28) hx hb hT wu_X6 hown hK hP 0 rfl rfl 22 (by decide) (hT _ wf_X6_35) (fun _ h9 => h9) rfl dX6_keeps_40 ?_
  refine lv_bipush (v := 8) hx hb dX6_keeps_43 (by decide) ?_
  refine lv_iload_n hx hb dX6_keeps_45 rfl (lv_at hl 0 rfl) ?_
  refine lv_iadd hx hb dX6_keeps_46 ?_
  refine lv_ci 8 (by decide +kernel) ?_
  refine lv_aload_n hx hb dX6_keeps_47 rfl (lv_at hl 1 rfl) ?_
  refine va_get (ci := 6) (v := .ref ms) (C := RX6) (T := TX6) (N := 28) hx hb hT wu_X6 hown hK hP 0 rfl rfl 1 (by decide) (hT _ wf_X6_7) (fun _ h9 => h9) rfl dX6_keeps_48 ?_
  refine lv_bipush (v := 118) hx hb dX6_keeps_51 (by decide) ?_
  refine lv_iload_n hx hb dX6_keeps_53 rfl (lv_at hl 0 rfl) ?_
  refine lv_iadd hx hb dX6_keeps_54 ?_
  refine lv_ci 118 (by decide +kernel) ?_
  refine va_iald hx hb hK hP 1 0 rfl rfl (vin _ _ (by decide +kernel)) dX6_keeps_55 ?_
  refine lv_ci 0 (by decide +kernel) ?_
  refine va_iast hx hb hK hP hD hS 2 0 rfl rfl (vin _ _ (by decide +kernel)) dX6_keeps_56 (fun H locs hP hD hS => ?_)
  have hP : va_P D CL [(mo_, .inr (6, [.int 0, .ref ms, .ref mi, .int 0, .int 0, .int 0, .int 0, .int 0, .int 0, .ref mb, .ref mt, .ref ml, .ref mx, .int v1, .int v2, .int v3, .int v4, .int v5, .int v6, .ref mc, .int v7, .ref mn, .ref mp, .ref mo, .int 0, .int 0, .int 0, .int 0])), (ms, .inl (cI, 846, .inl (s0))), (mp, .inl (cI, 12, .inl (upd (upd (upd fq ((0 : Int32)).toNatClampNeg 0) ((4 : Int32)).toNatClampNeg 0) ((8 : Int32)).toNatClampNeg 0)))] H := hP
  have hD : va_D A [(mo_, .inr (6, [.int 0, .ref ms, .ref mi, .int 0, .int 0, .int 0, .int 0, .int 0, .int 0, .ref mb, .ref mt, .ref ml, .ref mx, .int v1, .int v2, .int v3, .int v4, .int v5, .int v6, .ref mc, .int v7, .ref mn, .ref mp, .ref mo, .int 0, .int 0, .int 0, .int 0])), (ms, .inl (cI, 846, .inl (s0))), (mp, .inl (cI, 12, .inl (upd (upd (upd fq ((0 : Int32)).toNatClampNeg 0) ((4 : Int32)).toNatClampNeg 0) ((8 : Int32)).toNatClampNeg 0)))] := hD
  refine lv_iinc (v := 1) (lv' := [(1, .int 1), (0, .ref mo_)]) hx hb dX6_keeps_57 hl (k := 0) rfl (by decide) (by decide) rfl (fun ls hl => ?_)
  refine lv_goto (tgt := 2) hx hb dX6_keeps_60 (by decide) ?_
  refine lv_iload_n hx hb dX6_keeps_2 rfl (lv_at hl 0 rfl) ?_
  refine lv_iconst (v := 4) hx hb dX6_keeps_3 (by decide) ?_
  refine lv_icmp_ge (tgt := 63) hx hb dX6_keeps_4 (by decide) (fun c_0 => absurd c_0 (by decide)) (fun _ => ?_)
  refine lv_aload_n hx hb dX6_keeps_7 rfl (lv_at hl 1 rfl) ?_
  refine va_get (ci := 6) (v := .ref mp) (C := RX6) (T := TX6) (N := 28) hx hb hT wu_X6 hown hK hP 0 rfl rfl 22 (by decide) (hT _ wf_X6_35) (fun _ h9 => h9) rfl dX6_keeps_8 ?_
  refine lv_iload_n hx hb dX6_keeps_11 rfl (lv_at hl 0 rfl) ?_
  refine lv_aload_n hx hb dX6_keeps_12 rfl (lv_at hl 1 rfl) ?_
  refine va_get (ci := 6) (v := .ref ms) (C := RX6) (T := TX6) (N := 28) hx hb hT wu_X6 hown hK hP 0 rfl rfl 1 (by decide) (hT _ wf_X6_7) (fun _ h9 => h9) rfl dX6_keeps_13 ?_
  refine lv_bipush (v := 110) hx hb dX6_keeps_16 (by decide) ?_
  refine lv_iload_n hx hb dX6_keeps_18 rfl (lv_at hl 0 rfl) ?_
  refine lv_iadd hx hb dX6_keeps_19 ?_
  refine lv_ci 111 (by decide +kernel) ?_
  refine va_iald hx hb hK hP 1 0 rfl rfl (vin _ _ (by decide +kernel)) dX6_keeps_20 ?_
  refine lv_ci 0 (by decide +kernel) ?_
  refine va_iast hx hb hK hP hD hS 2 0 rfl rfl (vin _ _ (by decide +kernel)) dX6_keeps_21 (fun H locs hP hD hS => ?_)
  have hP : va_P D CL [(mo_, .inr (6, [.int 0, .ref ms, .ref mi, .int 0, .int 0, .int 0, .int 0, .int 0, .int 0, .ref mb, .ref mt, .ref ml, .ref mx, .int v1, .int v2, .int v3, .int v4, .int v5, .int v6, .ref mc, .int v7, .ref mn, .ref mp, .ref mo, .int 0, .int 0, .int 0, .int 0])), (ms, .inl (cI, 846, .inl (s0))), (mp, .inl (cI, 12, .inl (upd (upd (upd (upd fq ((0 : Int32)).toNatClampNeg 0) ((4 : Int32)).toNatClampNeg 0) ((8 : Int32)).toNatClampNeg 0) ((1 : Int32)).toNatClampNeg 0)))] H := hP
  have hD : va_D A [(mo_, .inr (6, [.int 0, .ref ms, .ref mi, .int 0, .int 0, .int 0, .int 0, .int 0, .int 0, .ref mb, .ref mt, .ref ml, .ref mx, .int v1, .int v2, .int v3, .int v4, .int v5, .int v6, .ref mc, .int v7, .ref mn, .ref mp, .ref mo, .int 0, .int 0, .int 0, .int 0])), (ms, .inl (cI, 846, .inl (s0))), (mp, .inl (cI, 12, .inl (upd (upd (upd (upd fq ((0 : Int32)).toNatClampNeg 0) ((4 : Int32)).toNatClampNeg 0) ((8 : Int32)).toNatClampNeg 0) ((1 : Int32)).toNatClampNeg 0)))] := hD
  refine lv_aload_n hx hb dX6_keeps_22 rfl (lv_at hl 1 rfl) ?_
  refine va_get (ci := 6) (v := .ref mp) (C := RX6) (T := TX6) (N := 28) hx hb hT wu_X6 hown hK hP 0 rfl rfl 22 (by decide) (hT _ wf_X6_35) (fun _ h9 => h9) rfl dX6_keeps_23 ?_
  refine lv_iconst (v := 4) hx hb dX6_keeps_26 (by decide) ?_
  refine lv_iload_n hx hb dX6_keeps_27 rfl (lv_at hl 0 rfl) ?_
  refine lv_iadd hx hb dX6_keeps_28 ?_
  refine lv_ci 5 (by decide +kernel) ?_
  refine lv_aload_n hx hb dX6_keeps_29 rfl (lv_at hl 1 rfl) ?_
  refine va_get (ci := 6) (v := .ref ms) (C := RX6) (T := TX6) (N := 28) hx hb hT wu_X6 hown hK hP 0 rfl rfl 1 (by decide) (hT _ wf_X6_7) (fun _ h9 => h9) rfl dX6_keeps_30 ?_
  refine lv_bipush (v := 114) hx hb dX6_keeps_33 (by decide) ?_
  refine lv_iload_n hx hb dX6_keeps_35 rfl (lv_at hl 0 rfl) ?_
  refine lv_iadd hx hb dX6_keeps_36 ?_
  refine lv_ci 115 (by decide +kernel) ?_
  refine va_iald hx hb hK hP 1 0 rfl rfl (vin _ _ (by decide +kernel)) dX6_keeps_37 ?_
  refine lv_ci 0 (by decide +kernel) ?_
  refine va_iast hx hb hK hP hD hS 2 0 rfl rfl (vin _ _ (by decide +kernel)) dX6_keeps_38 (fun H locs hP hD hS => ?_)
  have hP : va_P D CL [(mo_, .inr (6, [.int 0, .ref ms, .ref mi, .int 0, .int 0, .int 0, .int 0, .int 0, .int 0, .ref mb, .ref mt, .ref ml, .ref mx, .int v1, .int v2, .int v3, .int v4, .int v5, .int v6, .ref mc, .int v7, .ref mn, .ref mp, .ref mo, .int 0, .int 0, .int 0, .int 0])), (ms, .inl (cI, 846, .inl (s0))), (mp, .inl (cI, 12, .inl (upd (upd (upd (upd (upd fq ((0 : Int32)).toNatClampNeg 0) ((4 : Int32)).toNatClampNeg 0) ((8 : Int32)).toNatClampNeg 0) ((1 : Int32)).toNatClampNeg 0) ((5 : Int32)).toNatClampNeg 0)))] H := hP
  have hD : va_D A [(mo_, .inr (6, [.int 0, .ref ms, .ref mi, .int 0, .int 0, .int 0, .int 0, .int 0, .int 0, .ref mb, .ref mt, .ref ml, .ref mx, .int v1, .int v2, .int v3, .int v4, .int v5, .int v6, .ref mc, .int v7, .ref mn, .ref mp, .ref mo, .int 0, .int 0, .int 0, .int 0])), (ms, .inl (cI, 846, .inl (s0))), (mp, .inl (cI, 12, .inl (upd (upd (upd (upd (upd fq ((0 : Int32)).toNatClampNeg 0) ((4 : Int32)).toNatClampNeg 0) ((8 : Int32)).toNatClampNeg 0) ((1 : Int32)).toNatClampNeg 0) ((5 : Int32)).toNatClampNeg 0)))] := hD
  refine lv_aload_n hx hb dX6_keeps_39 rfl (lv_at hl 1 rfl) ?_
  refine va_get (ci := 6) (v := .ref mp) (C := RX6) (T := TX6) (N := 28) hx hb hT wu_X6 hown hK hP 0 rfl rfl 22 (by decide) (hT _ wf_X6_35) (fun _ h9 => h9) rfl dX6_keeps_40 ?_
  refine lv_bipush (v := 8) hx hb dX6_keeps_43 (by decide) ?_
  refine lv_iload_n hx hb dX6_keeps_45 rfl (lv_at hl 0 rfl) ?_
  refine lv_iadd hx hb dX6_keeps_46 ?_
  refine lv_ci 9 (by decide +kernel) ?_
  refine lv_aload_n hx hb dX6_keeps_47 rfl (lv_at hl 1 rfl) ?_
  refine va_get (ci := 6) (v := .ref ms) (C := RX6) (T := TX6) (N := 28) hx hb hT wu_X6 hown hK hP 0 rfl rfl 1 (by decide) (hT _ wf_X6_7) (fun _ h9 => h9) rfl dX6_keeps_48 ?_
  refine lv_bipush (v := 118) hx hb dX6_keeps_51 (by decide) ?_
  refine lv_iload_n hx hb dX6_keeps_53 rfl (lv_at hl 0 rfl) ?_
  refine lv_iadd hx hb dX6_keeps_54 ?_
  refine lv_ci 119 (by decide +kernel) ?_
  refine va_iald hx hb hK hP 1 0 rfl rfl (vin _ _ (by decide +kernel)) dX6_keeps_55 ?_
  refine lv_ci 0 (by decide +kernel) ?_
  refine va_iast hx hb hK hP hD hS 2 0 rfl rfl (vin _ _ (by decide +kernel)) dX6_keeps_56 (fun H locs hP hD hS => ?_)
  have hP : va_P D CL [(mo_, .inr (6, [.int 0, .ref ms, .ref mi, .int 0, .int 0, .int 0, .int 0, .int 0, .int 0, .ref mb, .ref mt, .ref ml, .ref mx, .int v1, .int v2, .int v3, .int v4, .int v5, .int v6, .ref mc, .int v7, .ref mn, .ref mp, .ref mo, .int 0, .int 0, .int 0, .int 0])), (ms, .inl (cI, 846, .inl (s0))), (mp, .inl (cI, 12, .inl (upd (upd (upd (upd (upd (upd fq ((0 : Int32)).toNatClampNeg 0) ((4 : Int32)).toNatClampNeg 0) ((8 : Int32)).toNatClampNeg 0) ((1 : Int32)).toNatClampNeg 0) ((5 : Int32)).toNatClampNeg 0) ((9 : Int32)).toNatClampNeg 0)))] H := hP
  have hD : va_D A [(mo_, .inr (6, [.int 0, .ref ms, .ref mi, .int 0, .int 0, .int 0, .int 0, .int 0, .int 0, .ref mb, .ref mt, .ref ml, .ref mx, .int v1, .int v2, .int v3, .int v4, .int v5, .int v6, .ref mc, .int v7, .ref mn, .ref mp, .ref mo, .int 0, .int 0, .int 0, .int 0])), (ms, .inl (cI, 846, .inl (s0))), (mp, .inl (cI, 12, .inl (upd (upd (upd (upd (upd (upd fq ((0 : Int32)).toNatClampNeg 0) ((4 : Int32)).toNatClampNeg 0) ((8 : Int32)).toNatClampNeg 0) ((1 : Int32)).toNatClampNeg 0) ((5 : Int32)).toNatClampNeg 0) ((9 : Int32)).toNatClampNeg 0)))] := hD
  refine lv_iinc (v := 2) (lv' := [(1, .int 2), (0, .ref mo_)]) hx hb dX6_keeps_57 hl (k := 0) rfl (by decide) (by decide) rfl (fun ls hl => ?_)
  refine lv_goto (tgt := 2) hx hb dX6_keeps_60 (by decide) ?_
  refine lv_iload_n hx hb dX6_keeps_2 rfl (lv_at hl 0 rfl) ?_
  refine lv_iconst (v := 4) hx hb dX6_keeps_3 (by decide) ?_
  refine lv_icmp_ge (tgt := 63) hx hb dX6_keeps_4 (by decide) (fun c_0 => absurd c_0 (by decide)) (fun _ => ?_)
  refine lv_aload_n hx hb dX6_keeps_7 rfl (lv_at hl 1 rfl) ?_
  refine va_get (ci := 6) (v := .ref mp) (C := RX6) (T := TX6) (N := 28) hx hb hT wu_X6 hown hK hP 0 rfl rfl 22 (by decide) (hT _ wf_X6_35) (fun _ h9 => h9) rfl dX6_keeps_8 ?_
  refine lv_iload_n hx hb dX6_keeps_11 rfl (lv_at hl 0 rfl) ?_
  refine lv_aload_n hx hb dX6_keeps_12 rfl (lv_at hl 1 rfl) ?_
  refine va_get (ci := 6) (v := .ref ms) (C := RX6) (T := TX6) (N := 28) hx hb hT wu_X6 hown hK hP 0 rfl rfl 1 (by decide) (hT _ wf_X6_7) (fun _ h9 => h9) rfl dX6_keeps_13 ?_
  refine lv_bipush (v := 110) hx hb dX6_keeps_16 (by decide) ?_
  refine lv_iload_n hx hb dX6_keeps_18 rfl (lv_at hl 0 rfl) ?_
  refine lv_iadd hx hb dX6_keeps_19 ?_
  refine lv_ci 112 (by decide +kernel) ?_
  refine va_iald hx hb hK hP 1 0 rfl rfl (vin _ _ (by decide +kernel)) dX6_keeps_20 ?_
  refine lv_ci 0 (by decide +kernel) ?_
  refine va_iast hx hb hK hP hD hS 2 0 rfl rfl (vin _ _ (by decide +kernel)) dX6_keeps_21 (fun H locs hP hD hS => ?_)
  have hP : va_P D CL [(mo_, .inr (6, [.int 0, .ref ms, .ref mi, .int 0, .int 0, .int 0, .int 0, .int 0, .int 0, .ref mb, .ref mt, .ref ml, .ref mx, .int v1, .int v2, .int v3, .int v4, .int v5, .int v6, .ref mc, .int v7, .ref mn, .ref mp, .ref mo, .int 0, .int 0, .int 0, .int 0])), (ms, .inl (cI, 846, .inl (s0))), (mp, .inl (cI, 12, .inl (upd (upd (upd (upd (upd (upd (upd fq ((0 : Int32)).toNatClampNeg 0) ((4 : Int32)).toNatClampNeg 0) ((8 : Int32)).toNatClampNeg 0) ((1 : Int32)).toNatClampNeg 0) ((5 : Int32)).toNatClampNeg 0) ((9 : Int32)).toNatClampNeg 0) ((2 : Int32)).toNatClampNeg 0)))] H := hP
  have hD : va_D A [(mo_, .inr (6, [.int 0, .ref ms, .ref mi, .int 0, .int 0, .int 0, .int 0, .int 0, .int 0, .ref mb, .ref mt, .ref ml, .ref mx, .int v1, .int v2, .int v3, .int v4, .int v5, .int v6, .ref mc, .int v7, .ref mn, .ref mp, .ref mo, .int 0, .int 0, .int 0, .int 0])), (ms, .inl (cI, 846, .inl (s0))), (mp, .inl (cI, 12, .inl (upd (upd (upd (upd (upd (upd (upd fq ((0 : Int32)).toNatClampNeg 0) ((4 : Int32)).toNatClampNeg 0) ((8 : Int32)).toNatClampNeg 0) ((1 : Int32)).toNatClampNeg 0) ((5 : Int32)).toNatClampNeg 0) ((9 : Int32)).toNatClampNeg 0) ((2 : Int32)).toNatClampNeg 0)))] := hD
  refine lv_aload_n hx hb dX6_keeps_22 rfl (lv_at hl 1 rfl) ?_
  refine va_get (ci := 6) (v := .ref mp) (C := RX6) (T := TX6) (N := 28) hx hb hT wu_X6 hown hK hP 0 rfl rfl 22 (by decide) (hT _ wf_X6_35) (fun _ h9 => h9) rfl dX6_keeps_23 ?_
  refine lv_iconst (v := 4) hx hb dX6_keeps_26 (by decide) ?_
  refine lv_iload_n hx hb dX6_keeps_27 rfl (lv_at hl 0 rfl) ?_
  refine lv_iadd hx hb dX6_keeps_28 ?_
  refine lv_ci 6 (by decide +kernel) ?_
  refine lv_aload_n hx hb dX6_keeps_29 rfl (lv_at hl 1 rfl) ?_
  refine va_get (ci := 6) (v := .ref ms) (C := RX6) (T := TX6) (N := 28) hx hb hT wu_X6 hown hK hP 0 rfl rfl 1 (by decide) (hT _ wf_X6_7) (fun _ h9 => h9) rfl dX6_keeps_30 ?_
  refine lv_bipush (v := 114) hx hb dX6_keeps_33 (by decide) ?_
  refine lv_iload_n hx hb dX6_keeps_35 rfl (lv_at hl 0 rfl) ?_
  refine lv_iadd hx hb dX6_keeps_36 ?_
  refine lv_ci 116 (by decide +kernel) ?_
  refine va_iald hx hb hK hP 1 0 rfl rfl (vin _ _ (by decide +kernel)) dX6_keeps_37 ?_
  refine lv_ci 0 (by decide +kernel) ?_
  refine va_iast hx hb hK hP hD hS 2 0 rfl rfl (vin _ _ (by decide +kernel)) dX6_keeps_38 (fun H locs hP hD hS => ?_)
  have hP : va_P D CL [(mo_, .inr (6, [.int 0, .ref ms, .ref mi, .int 0, .int 0, .int 0, .int 0, .int 0, .int 0, .ref mb, .ref mt, .ref ml, .ref mx, .int v1, .int v2, .int v3, .int v4, .int v5, .int v6, .ref mc, .int v7, .ref mn, .ref mp, .ref mo, .int 0, .int 0, .int 0, .int 0])), (ms, .inl (cI, 846, .inl (s0))), (mp, .inl (cI, 12, .inl (upd (upd (upd (upd (upd (upd (upd (upd fq ((0 : Int32)).toNatClampNeg 0) ((4 : Int32)).toNatClampNeg 0) ((8 : Int32)).toNatClampNeg 0) ((1 : Int32)).toNatClampNeg 0) ((5 : Int32)).toNatClampNeg 0) ((9 : Int32)).toNatClampNeg 0) ((2 : Int32)).toNatClampNeg 0) ((6 : Int32)).toNatClampNeg 0)))] H := hP
  have hD : va_D A [(mo_, .inr (6, [.int 0, .ref ms, .ref mi, .int 0, .int 0, .int 0, .int 0, .int 0, .int 0, .ref mb, .ref mt, .ref ml, .ref mx, .int v1, .int v2, .int v3, .int v4, .int v5, .int v6, .ref mc, .int v7, .ref mn, .ref mp, .ref mo, .int 0, .int 0, .int 0, .int 0])), (ms, .inl (cI, 846, .inl (s0))), (mp, .inl (cI, 12, .inl (upd (upd (upd (upd (upd (upd (upd (upd fq ((0 : Int32)).toNatClampNeg 0) ((4 : Int32)).toNatClampNeg 0) ((8 : Int32)).toNatClampNeg 0) ((1 : Int32)).toNatClampNeg 0) ((5 : Int32)).toNatClampNeg 0) ((9 : Int32)).toNatClampNeg 0) ((2 : Int32)).toNatClampNeg 0) ((6 : Int32)).toNatClampNeg 0)))] := hD
  refine lv_aload_n hx hb dX6_keeps_39 rfl (lv_at hl 1 rfl) ?_
  refine va_get (ci := 6) (v := .ref mp) (C := RX6) (T := TX6) (N := 28) hx hb hT wu_X6 hown hK hP 0 rfl rfl 22 (by decide) (hT _ wf_X6_35) (fun _ h9 => h9) rfl dX6_keeps_40 ?_
  refine lv_bipush (v := 8) hx hb dX6_keeps_43 (by decide) ?_
  refine lv_iload_n hx hb dX6_keeps_45 rfl (lv_at hl 0 rfl) ?_
  refine lv_iadd hx hb dX6_keeps_46 ?_
  refine lv_ci 10 (by decide +kernel) ?_
  refine lv_aload_n hx hb dX6_keeps_47 rfl (lv_at hl 1 rfl) ?_
  refine va_get (ci := 6) (v := .ref ms) (C := RX6) (T := TX6) (N := 28) hx hb hT wu_X6 hown hK hP 0 rfl rfl 1 (by decide) (hT _ wf_X6_7) (fun _ h9 => h9) rfl dX6_keeps_48 ?_
  refine lv_bipush (v := 118) hx hb dX6_keeps_51 (by decide) ?_
  refine lv_iload_n hx hb dX6_keeps_53 rfl (lv_at hl 0 rfl) ?_
  refine lv_iadd hx hb dX6_keeps_54 ?_
  refine lv_ci 120 (by decide +kernel) ?_
  refine va_iald hx hb hK hP 1 0 rfl rfl (vin _ _ (by decide +kernel)) dX6_keeps_55 ?_
  refine lv_ci 0 (by decide +kernel) ?_
  refine va_iast hx hb hK hP hD hS 2 0 rfl rfl (vin _ _ (by decide +kernel)) dX6_keeps_56 (fun H locs hP hD hS => ?_)
  have hP : va_P D CL [(mo_, .inr (6, [.int 0, .ref ms, .ref mi, .int 0, .int 0, .int 0, .int 0, .int 0, .int 0, .ref mb, .ref mt, .ref ml, .ref mx, .int v1, .int v2, .int v3, .int v4, .int v5, .int v6, .ref mc, .int v7, .ref mn, .ref mp, .ref mo, .int 0, .int 0, .int 0, .int 0])), (ms, .inl (cI, 846, .inl (s0))), (mp, .inl (cI, 12, .inl (upd (upd (upd (upd (upd (upd (upd (upd (upd fq ((0 : Int32)).toNatClampNeg 0) ((4 : Int32)).toNatClampNeg 0) ((8 : Int32)).toNatClampNeg 0) ((1 : Int32)).toNatClampNeg 0) ((5 : Int32)).toNatClampNeg 0) ((9 : Int32)).toNatClampNeg 0) ((2 : Int32)).toNatClampNeg 0) ((6 : Int32)).toNatClampNeg 0) ((10 : Int32)).toNatClampNeg 0)))] H := hP
  have hD : va_D A [(mo_, .inr (6, [.int 0, .ref ms, .ref mi, .int 0, .int 0, .int 0, .int 0, .int 0, .int 0, .ref mb, .ref mt, .ref ml, .ref mx, .int v1, .int v2, .int v3, .int v4, .int v5, .int v6, .ref mc, .int v7, .ref mn, .ref mp, .ref mo, .int 0, .int 0, .int 0, .int 0])), (ms, .inl (cI, 846, .inl (s0))), (mp, .inl (cI, 12, .inl (upd (upd (upd (upd (upd (upd (upd (upd (upd fq ((0 : Int32)).toNatClampNeg 0) ((4 : Int32)).toNatClampNeg 0) ((8 : Int32)).toNatClampNeg 0) ((1 : Int32)).toNatClampNeg 0) ((5 : Int32)).toNatClampNeg 0) ((9 : Int32)).toNatClampNeg 0) ((2 : Int32)).toNatClampNeg 0) ((6 : Int32)).toNatClampNeg 0) ((10 : Int32)).toNatClampNeg 0)))] := hD
  refine lv_iinc (v := 3) (lv' := [(1, .int 3), (0, .ref mo_)]) hx hb dX6_keeps_57 hl (k := 0) rfl (by decide) (by decide) rfl (fun ls hl => ?_)
  refine lv_goto (tgt := 2) hx hb dX6_keeps_60 (by decide) ?_
  refine lv_iload_n hx hb dX6_keeps_2 rfl (lv_at hl 0 rfl) ?_
  refine lv_iconst (v := 4) hx hb dX6_keeps_3 (by decide) ?_
  refine lv_icmp_ge (tgt := 63) hx hb dX6_keeps_4 (by decide) (fun c_0 => absurd c_0 (by decide)) (fun _ => ?_)
  refine lv_aload_n hx hb dX6_keeps_7 rfl (lv_at hl 1 rfl) ?_
  refine va_get (ci := 6) (v := .ref mp) (C := RX6) (T := TX6) (N := 28) hx hb hT wu_X6 hown hK hP 0 rfl rfl 22 (by decide) (hT _ wf_X6_35) (fun _ h9 => h9) rfl dX6_keeps_8 ?_
  refine lv_iload_n hx hb dX6_keeps_11 rfl (lv_at hl 0 rfl) ?_
  refine lv_aload_n hx hb dX6_keeps_12 rfl (lv_at hl 1 rfl) ?_
  refine va_get (ci := 6) (v := .ref ms) (C := RX6) (T := TX6) (N := 28) hx hb hT wu_X6 hown hK hP 0 rfl rfl 1 (by decide) (hT _ wf_X6_7) (fun _ h9 => h9) rfl dX6_keeps_13 ?_
  refine lv_bipush (v := 110) hx hb dX6_keeps_16 (by decide) ?_
  refine lv_iload_n hx hb dX6_keeps_18 rfl (lv_at hl 0 rfl) ?_
  refine lv_iadd hx hb dX6_keeps_19 ?_
  refine lv_ci 113 (by decide +kernel) ?_
  refine va_iald hx hb hK hP 1 0 rfl rfl (vin _ _ (by decide +kernel)) dX6_keeps_20 ?_
  refine lv_ci 0 (by decide +kernel) ?_
  refine va_iast hx hb hK hP hD hS 2 0 rfl rfl (vin _ _ (by decide +kernel)) dX6_keeps_21 (fun H locs hP hD hS => ?_)
  have hP : va_P D CL [(mo_, .inr (6, [.int 0, .ref ms, .ref mi, .int 0, .int 0, .int 0, .int 0, .int 0, .int 0, .ref mb, .ref mt, .ref ml, .ref mx, .int v1, .int v2, .int v3, .int v4, .int v5, .int v6, .ref mc, .int v7, .ref mn, .ref mp, .ref mo, .int 0, .int 0, .int 0, .int 0])), (ms, .inl (cI, 846, .inl (s0))), (mp, .inl (cI, 12, .inl (upd (upd (upd (upd (upd (upd (upd (upd (upd (upd fq ((0 : Int32)).toNatClampNeg 0) ((4 : Int32)).toNatClampNeg 0) ((8 : Int32)).toNatClampNeg 0) ((1 : Int32)).toNatClampNeg 0) ((5 : Int32)).toNatClampNeg 0) ((9 : Int32)).toNatClampNeg 0) ((2 : Int32)).toNatClampNeg 0) ((6 : Int32)).toNatClampNeg 0) ((10 : Int32)).toNatClampNeg 0) ((3 : Int32)).toNatClampNeg 0)))] H := hP
  have hD : va_D A [(mo_, .inr (6, [.int 0, .ref ms, .ref mi, .int 0, .int 0, .int 0, .int 0, .int 0, .int 0, .ref mb, .ref mt, .ref ml, .ref mx, .int v1, .int v2, .int v3, .int v4, .int v5, .int v6, .ref mc, .int v7, .ref mn, .ref mp, .ref mo, .int 0, .int 0, .int 0, .int 0])), (ms, .inl (cI, 846, .inl (s0))), (mp, .inl (cI, 12, .inl (upd (upd (upd (upd (upd (upd (upd (upd (upd (upd fq ((0 : Int32)).toNatClampNeg 0) ((4 : Int32)).toNatClampNeg 0) ((8 : Int32)).toNatClampNeg 0) ((1 : Int32)).toNatClampNeg 0) ((5 : Int32)).toNatClampNeg 0) ((9 : Int32)).toNatClampNeg 0) ((2 : Int32)).toNatClampNeg 0) ((6 : Int32)).toNatClampNeg 0) ((10 : Int32)).toNatClampNeg 0) ((3 : Int32)).toNatClampNeg 0)))] := hD
  refine lv_aload_n hx hb dX6_keeps_22 rfl (lv_at hl 1 rfl) ?_
  refine va_get (ci := 6) (v := .ref mp) (C := RX6) (T := TX6) (N := 28) hx hb hT wu_X6 hown hK hP 0 rfl rfl 22 (by decide) (hT _ wf_X6_35) (fun _ h9 => h9) rfl dX6_keeps_23 ?_
  refine lv_iconst (v := 4) hx hb dX6_keeps_26 (by decide) ?_
  refine lv_iload_n hx hb dX6_keeps_27 rfl (lv_at hl 0 rfl) ?_
  refine lv_iadd hx hb dX6_keeps_28 ?_
  refine lv_ci 7 (by decide +kernel) ?_
  refine lv_aload_n hx hb dX6_keeps_29 rfl (lv_at hl 1 rfl) ?_
  refine va_get (ci := 6) (v := .ref ms) (C := RX6) (T := TX6) (N := 28) hx hb hT wu_X6 hown hK hP 0 rfl rfl 1 (by decide) (hT _ wf_X6_7) (fun _ h9 => h9) rfl dX6_keeps_30 ?_
  refine lv_bipush (v := 114) hx hb dX6_keeps_33 (by decide) ?_
  refine lv_iload_n hx hb dX6_keeps_35 rfl (lv_at hl 0 rfl) ?_
  refine lv_iadd hx hb dX6_keeps_36 ?_
  refine lv_ci 117 (by decide +kernel) ?_
  refine va_iald hx hb hK hP 1 0 rfl rfl (vin _ _ (by decide +kernel)) dX6_keeps_37 ?_
  refine lv_ci 0 (by decide +kernel) ?_
  refine va_iast hx hb hK hP hD hS 2 0 rfl rfl (vin _ _ (by decide +kernel)) dX6_keeps_38 (fun H locs hP hD hS => ?_)
  have hP : va_P D CL [(mo_, .inr (6, [.int 0, .ref ms, .ref mi, .int 0, .int 0, .int 0, .int 0, .int 0, .int 0, .ref mb, .ref mt, .ref ml, .ref mx, .int v1, .int v2, .int v3, .int v4, .int v5, .int v6, .ref mc, .int v7, .ref mn, .ref mp, .ref mo, .int 0, .int 0, .int 0, .int 0])), (ms, .inl (cI, 846, .inl (s0))), (mp, .inl (cI, 12, .inl (upd (upd (upd (upd (upd (upd (upd (upd (upd (upd (upd fq ((0 : Int32)).toNatClampNeg 0) ((4 : Int32)).toNatClampNeg 0) ((8 : Int32)).toNatClampNeg 0) ((1 : Int32)).toNatClampNeg 0) ((5 : Int32)).toNatClampNeg 0) ((9 : Int32)).toNatClampNeg 0) ((2 : Int32)).toNatClampNeg 0) ((6 : Int32)).toNatClampNeg 0) ((10 : Int32)).toNatClampNeg 0) ((3 : Int32)).toNatClampNeg 0) ((7 : Int32)).toNatClampNeg 0)))] H := hP
  have hD : va_D A [(mo_, .inr (6, [.int 0, .ref ms, .ref mi, .int 0, .int 0, .int 0, .int 0, .int 0, .int 0, .ref mb, .ref mt, .ref ml, .ref mx, .int v1, .int v2, .int v3, .int v4, .int v5, .int v6, .ref mc, .int v7, .ref mn, .ref mp, .ref mo, .int 0, .int 0, .int 0, .int 0])), (ms, .inl (cI, 846, .inl (s0))), (mp, .inl (cI, 12, .inl (upd (upd (upd (upd (upd (upd (upd (upd (upd (upd (upd fq ((0 : Int32)).toNatClampNeg 0) ((4 : Int32)).toNatClampNeg 0) ((8 : Int32)).toNatClampNeg 0) ((1 : Int32)).toNatClampNeg 0) ((5 : Int32)).toNatClampNeg 0) ((9 : Int32)).toNatClampNeg 0) ((2 : Int32)).toNatClampNeg 0) ((6 : Int32)).toNatClampNeg 0) ((10 : Int32)).toNatClampNeg 0) ((3 : Int32)).toNatClampNeg 0) ((7 : Int32)).toNatClampNeg 0)))] := hD
  refine lv_aload_n hx hb dX6_keeps_39 rfl (lv_at hl 1 rfl) ?_
  refine va_get (ci := 6) (v := .ref mp) (C := RX6) (T := TX6) (N := 28) hx hb hT wu_X6 hown hK hP 0 rfl rfl 22 (by decide) (hT _ wf_X6_35) (fun _ h9 => h9) rfl dX6_keeps_40 ?_
  refine lv_bipush (v := 8) hx hb dX6_keeps_43 (by decide) ?_
  refine lv_iload_n hx hb dX6_keeps_45 rfl (lv_at hl 0 rfl) ?_
  refine lv_iadd hx hb dX6_keeps_46 ?_
  refine lv_ci 11 (by decide +kernel) ?_
  refine lv_aload_n hx hb dX6_keeps_47 rfl (lv_at hl 1 rfl) ?_
  refine va_get (ci := 6) (v := .ref ms) (C := RX6) (T := TX6) (N := 28) hx hb hT wu_X6 hown hK hP 0 rfl rfl 1 (by decide) (hT _ wf_X6_7) (fun _ h9 => h9) rfl dX6_keeps_48 ?_
  refine lv_bipush (v := 118) hx hb dX6_keeps_51 (by decide) ?_
  refine lv_iload_n hx hb dX6_keeps_53 rfl (lv_at hl 0 rfl) ?_
  refine lv_iadd hx hb dX6_keeps_54 ?_
  refine lv_ci 121 (by decide +kernel) ?_
  refine va_iald hx hb hK hP 1 0 rfl rfl (vin _ _ (by decide +kernel)) dX6_keeps_55 ?_
  refine lv_ci 0 (by decide +kernel) ?_
  refine va_iast hx hb hK hP hD hS 2 0 rfl rfl (vin _ _ (by decide +kernel)) dX6_keeps_56 (fun H locs hP hD hS => ?_)
  have hP : va_P D CL [(mo_, .inr (6, [.int 0, .ref ms, .ref mi, .int 0, .int 0, .int 0, .int 0, .int 0, .int 0, .ref mb, .ref mt, .ref ml, .ref mx, .int v1, .int v2, .int v3, .int v4, .int v5, .int v6, .ref mc, .int v7, .ref mn, .ref mp, .ref mo, .int 0, .int 0, .int 0, .int 0])), (ms, .inl (cI, 846, .inl (s0))), (mp, .inl (cI, 12, .inl (upd (upd (upd (upd (upd (upd (upd (upd (upd (upd (upd (upd fq ((0 : Int32)).toNatClampNeg 0) ((4 : Int32)).toNatClampNeg 0) ((8 : Int32)).toNatClampNeg 0) ((1 : Int32)).toNatClampNeg 0) ((5 : Int32)).toNatClampNeg 0) ((9 : Int32)).toNatClampNeg 0) ((2 : Int32)).toNatClampNeg 0) ((6 : Int32)).toNatClampNeg 0) ((10 : Int32)).toNatClampNeg 0) ((3 : Int32)).toNatClampNeg 0) ((7 : Int32)).toNatClampNeg 0) ((11 : Int32)).toNatClampNeg 0)))] H := hP
  have hD : va_D A [(mo_, .inr (6, [.int 0, .ref ms, .ref mi, .int 0, .int 0, .int 0, .int 0, .int 0, .int 0, .ref mb, .ref mt, .ref ml, .ref mx, .int v1, .int v2, .int v3, .int v4, .int v5, .int v6, .ref mc, .int v7, .ref mn, .ref mp, .ref mo, .int 0, .int 0, .int 0, .int 0])), (ms, .inl (cI, 846, .inl (s0))), (mp, .inl (cI, 12, .inl (upd (upd (upd (upd (upd (upd (upd (upd (upd (upd (upd (upd fq ((0 : Int32)).toNatClampNeg 0) ((4 : Int32)).toNatClampNeg 0) ((8 : Int32)).toNatClampNeg 0) ((1 : Int32)).toNatClampNeg 0) ((5 : Int32)).toNatClampNeg 0) ((9 : Int32)).toNatClampNeg 0) ((2 : Int32)).toNatClampNeg 0) ((6 : Int32)).toNatClampNeg 0) ((10 : Int32)).toNatClampNeg 0) ((3 : Int32)).toNatClampNeg 0) ((7 : Int32)).toNatClampNeg 0) ((11 : Int32)).toNatClampNeg 0)))] := hD
  refine lv_iinc (v := 4) (lv' := [(1, .int 4), (0, .ref mo_)]) hx hb dX6_keeps_57 hl (k := 0) rfl (by decide) (by decide) rfl (fun ls hl => ?_)
  refine lv_goto (tgt := 2) hx hb dX6_keeps_60 (by decide) ?_
  refine lv_iload_n hx hb dX6_keeps_2 rfl (lv_at hl 0 rfl) ?_
  refine lv_iconst (v := 4) hx hb dX6_keeps_3 (by decide) ?_
  refine lv_icmp_ge (tgt := 63) hx hb dX6_keeps_4 (by decide) (fun _ => ?_) (fun c_0 => absurd (by decide) c_0)
  exact retV C0 () trivial (hP.sub (ws' := [(mo_, .inr (6, [.int 0, .ref ms, .ref mi, .int 0, .int 0, .int 0, .int 0, .int 0, .int 0, .ref mb, .ref mt, .ref ml, .ref mx, .int v1, .int v2, .int v3, .int v4, .int v5, .int v6, .ref mc, .int v7, .ref mn, .ref mp, .ref mo, .int 0, .int 0, .int 0, .int 0])), (ms, .inl (cI, 846, .inl (s0))), (mp, .inl (cI, 12, .inl (upd (upd (upd (upd (upd (upd (upd (upd (upd (upd (upd (upd fq ((0 : Int32)).toNatClampNeg 0) ((4 : Int32)).toNatClampNeg 0) ((8 : Int32)).toNatClampNeg 0) ((1 : Int32)).toNatClampNeg 0) ((5 : Int32)).toNatClampNeg 0) ((9 : Int32)).toNatClampNeg 0) ((2 : Int32)).toNatClampNeg 0) ((6 : Int32)).toNatClampNeg 0) ((10 : Int32)).toNatClampNeg 0) ((3 : Int32)).toNatClampNeg 0) ((7 : Int32)).toNatClampNeg 0) ((11 : Int32)).toNatClampNeg 0)))]) [0, 1, 2] rfl) (hD.sub (ws' := [(mo_, .inr (6, [.int 0, .ref ms, .ref mi, .int 0, .int 0, .int 0, .int 0, .int 0, .int 0, .ref mb, .ref mt, .ref ml, .ref mx, .int v1, .int v2, .int v3, .int v4, .int v5, .int v6, .ref mc, .int v7, .ref mn, .ref mp, .ref mo, .int 0, .int 0, .int 0, .int 0])), (ms, .inl (cI, 846, .inl (s0))), (mp, .inl (cI, 12, .inl (upd (upd (upd (upd (upd (upd (upd (upd (upd (upd (upd (upd fq ((0 : Int32)).toNatClampNeg 0) ((4 : Int32)).toNatClampNeg 0) ((8 : Int32)).toNatClampNeg 0) ((1 : Int32)).toNatClampNeg 0) ((5 : Int32)).toNatClampNeg 0) ((9 : Int32)).toNatClampNeg 0) ((2 : Int32)).toNatClampNeg 0) ((6 : Int32)).toNatClampNeg 0) ((10 : Int32)).toNatClampNeg 0) ((3 : Int32)).toNatClampNeg 0) ((7 : Int32)).toNatClampNeg 0) ((11 : Int32)).toNatClampNeg 0)))]) [0, 1, 2] (by decide) rfl) hS (Nat.le_of_ble_eq_true rfl) (Nat.le_of_ble_eq_true rfl) dX6_keeps_63

set_option maxHeartbeats 4000000 in
set_option maxRecDepth 100000 in
theorem m_goesBack (l : Launch) (D : va_G) (cI cZ cQ cT : ClassId) (sz : Nat) (mo_ : Nat) (ms : Nat) (mi : Nat) (mb : Nat) (mt : Nat) (ml : Nat) (mx : Nat) (v1 : Int32) (v2 : Int32) (v3 : Int32) (v4 : Int32) (v5 : Int32) (v6 : Int32) (mc : Nat) (v7 : Int32) (mn : Nat) (mp : Nat) (mo : Nat) (fq : Nat → Int32)  : MetV l yX6_goesBack cX6_goesBack 2 ({ frames := 0, cells := 0, slots := 0, locals := 0 } : Room) [.ref mo_] D (TYS cI cZ cQ cT) EF sz [(mo_, .inr (6, [.int 0, .ref ms, .ref mi, .int 0, .int 0, .int 0, .int 0, .int 0, .int 0, .ref mb, .ref mt, .ref ml, .ref mx, .int v1, .int v2, .int v3, .int v4, .int v5, .int v6, .ref mc, .int v7, .ref mn, .ref mp, .ref mo, .int 0, .int 0, .int 0, .int 0])), (ms, .inl (cI, 846, .inl (s0))), (mp, .inl (cI, 12, .inl (upd (upd (upd (upd (upd (upd (upd (upd (upd (upd (upd (upd fq ((0 : Int32)).toNatClampNeg 0) ((4 : Int32)).toNatClampNeg 0) ((8 : Int32)).toNatClampNeg 0) ((1 : Int32)).toNatClampNeg 0) ((5 : Int32)).toNatClampNeg 0) ((9 : Int32)).toNatClampNeg 0) ((2 : Int32)).toNatClampNeg 0) ((6 : Int32)).toNatClampNeg 0) ((10 : Int32)).toNatClampNeg 0) ((3 : Int32)).toNatClampNeg 0) ((7 : Int32)).toNatClampNeg 0) ((11 : Int32)).toNatClampNeg 0)))] (S := Unit) (fun (_ : Unit) => True) (fun _ => [(mo_, .inr (6, [.int 0, .ref ms, .ref mi, .int 0, .int 0, .int 0, .int 0, .int 0, .int 0, .ref mb, .ref mt, .ref ml, .ref mx, .int v1, .int v2, .int v3, .int v4, .int v5, .int v6, .ref mc, .int v7, .ref mn, .ref mp, .ref mo, .int 0, .int 0, .int 0, .int 0])), (ms, .inl (cI, 846, .inl (s0))), (mp, .inl (cI, 12, .inl (upd (upd (upd (upd (upd (upd (upd (upd (upd (upd (upd (upd fq ((0 : Int32)).toNatClampNeg 0) ((4 : Int32)).toNatClampNeg 0) ((8 : Int32)).toNatClampNeg 0) ((1 : Int32)).toNatClampNeg 0) ((5 : Int32)).toNatClampNeg 0) ((9 : Int32)).toNatClampNeg 0) ((2 : Int32)).toNatClampNeg 0) ((6 : Int32)).toNatClampNeg 0) ((10 : Int32)).toNatClampNeg 0) ((3 : Int32)).toNatClampNeg 0) ((7 : Int32)).toNatClampNeg 0) ((11 : Int32)).toNatClampNeg 0)))]) := by
  refine MetV.mk (lv := [(0, .ref mo_)]) (by decide +kernel) (Nat.le_of_ble_eq_true rfl) rfl ?_
  intro p e s m below meth c A ls C0 hP hD hS hX hl
  have C1 := C0
  obtain ⟨hx, hb, hr, hml, hown, hlocks, hname, hT, hN, hK, hA⟩ := C1
  refine lv_iconst (v := 0) hx hb dX6_goesBack_0 (by decide) ?_
  refine lv_istore_n (lv' := [(1, .int 0), (0, .ref mo_)]) hx hb dX6_goesBack_1 rfl hl (by decide) rfl (fun ls hl => ?_)
  refine lv_iload_n hx hb dX6_goesBack_2 rfl (lv_at hl 0 rfl) ?_
  refine lv_iconst (v := 4) hx hb dX6_goesBack_3 (by decide) ?_
  refine lv_icmp_ge (tgt := 63) hx hb dX6_goesBack_4 (by decide) (fun c_0 => absurd c_0 (by decide)) (fun _ => ?_)
  refine lv_aload_n hx hb dX6_goesBack_7 rfl (lv_at hl 1 rfl) ?_
  refine va_get (ci := 6) (v := .ref ms) (C := RX6) (T := TX6) (N := 28) hx hb hT wu_X6 hown hK hP 0 rfl rfl 1 (by decide) (hT _ wf_X6_7) (fun _ h9 => h9) rfl dX6_goesBack_8 ?_
  refine lv_bipush (v := 110) hx hb dX6_goesBack_11 (by decide) ?_
  refine lv_iload_n hx hb dX6_goesBack_13 rfl (lv_at hl 0 rfl) ?_
  refine lv_iadd hx hb dX6_goesBack_14 ?_
  refine lv_ci 110 (by decide +kernel) ?_
  refine lv_aload_n hx hb dX6_goesBack_15 rfl (lv_at hl 1 rfl) ?_
  refine va_get (ci := 6) (v := .ref mp) (C := RX6) (T := TX6) (N := 28) hx hb hT wu_X6 hown hK hP 0 rfl rfl 22 (by decide) (hT _ wf_X6_35) (fun _ h9 => h9) rfl dX6_goesBack_16 ?_
  refine lv_iload_n hx hb dX6_goesBack_19 rfl (lv_at hl 0 rfl) ?_
  refine va_iald hx hb hK hP 2 0 rfl rfl (vin _ _ (by decide +kernel)) dX6_goesBack_20 ?_
  refine lv_ci 0 ((pk_un (by decide +kernel)).trans ((pk_un (by decide +kernel)).trans ((pk_un (by decide +kernel)).trans ((pk_un (by decide +kernel)).trans ((pk_un (by decide +kernel)).trans ((pk_un (by decide +kernel)).trans ((pk_un (by decide +kernel)).trans ((pk_un (by decide +kernel)).trans ((pk_un (by decide +kernel)).trans ((pk_un (by decide +kernel)).trans ((pk_un (by decide +kernel)).trans (pk_us)))))))))))) ?_
  refine va_iast hx hb hK hP hD hS 1 0 rfl rfl (vin _ _ (by decide +kernel)) dX6_goesBack_21 (fun H locs hP hD hS => ?_)
  have hP : va_P D CL [(mo_, .inr (6, [.int 0, .ref ms, .ref mi, .int 0, .int 0, .int 0, .int 0, .int 0, .int 0, .ref mb, .ref mt, .ref ml, .ref mx, .int v1, .int v2, .int v3, .int v4, .int v5, .int v6, .ref mc, .int v7, .ref mn, .ref mp, .ref mo, .int 0, .int 0, .int 0, .int 0])), (ms, .inl (cI, 846, .inl (upd (s0) ((110 : Int32)).toNatClampNeg 0))), (mp, .inl (cI, 12, .inl (upd (upd (upd (upd (upd (upd (upd (upd (upd (upd (upd (upd fq ((0 : Int32)).toNatClampNeg 0) ((4 : Int32)).toNatClampNeg 0) ((8 : Int32)).toNatClampNeg 0) ((1 : Int32)).toNatClampNeg 0) ((5 : Int32)).toNatClampNeg 0) ((9 : Int32)).toNatClampNeg 0) ((2 : Int32)).toNatClampNeg 0) ((6 : Int32)).toNatClampNeg 0) ((10 : Int32)).toNatClampNeg 0) ((3 : Int32)).toNatClampNeg 0) ((7 : Int32)).toNatClampNeg 0) ((11 : Int32)).toNatClampNeg 0)))] H := hP
  have hD : va_D A [(mo_, .inr (6, [.int 0, .ref ms, .ref mi, .int 0, .int 0, .int 0, .int 0, .int 0, .int 0, .ref mb, .ref mt, .ref ml, .ref mx, .int v1, .int v2, .int v3, .int v4, .int v5, .int v6, .ref mc, .int v7, .ref mn, .ref mp, .ref mo, .int 0, .int 0, .int 0, .int 0])), (ms, .inl (cI, 846, .inl (upd (s0) ((110 : Int32)).toNatClampNeg 0))), (mp, .inl (cI, 12, .inl (upd (upd (upd (upd (upd (upd (upd (upd (upd (upd (upd (upd fq ((0 : Int32)).toNatClampNeg 0) ((4 : Int32)).toNatClampNeg 0) ((8 : Int32)).toNatClampNeg 0) ((1 : Int32)).toNatClampNeg 0) ((5 : Int32)).toNatClampNeg 0) ((9 : Int32)).toNatClampNeg 0) ((2 : Int32)).toNatClampNeg 0) ((6 : Int32)).toNatClampNeg 0) ((10 : Int32)).toNatClampNeg 0) ((3 : Int32)).toNatClampNeg 0) ((7 : Int32)).toNatClampNeg 0) ((11 : Int32)).toNatClampNeg 0)))] := hD
  rw [upd_id (f := (s0)) (by decide +kernel)] at hP hD
  have hP : va_P D CL [(mo_, .inr (6, [.int 0, .ref ms, .ref mi, .int 0, .int 0, .int 0, .int 0, .int 0, .int 0, .ref mb, .ref mt, .ref ml, .ref mx, .int v1, .int v2, .int v3, .int v4, .int v5, .int v6, .ref mc, .int v7, .ref mn, .ref mp, .ref mo, .int 0, .int 0, .int 0, .int 0])), (ms, .inl (cI, 846, .inl (s0))), (mp, .inl (cI, 12, .inl (upd (upd (upd (upd (upd (upd (upd (upd (upd (upd (upd (upd fq ((0 : Int32)).toNatClampNeg 0) ((4 : Int32)).toNatClampNeg 0) ((8 : Int32)).toNatClampNeg 0) ((1 : Int32)).toNatClampNeg 0) ((5 : Int32)).toNatClampNeg 0) ((9 : Int32)).toNatClampNeg 0) ((2 : Int32)).toNatClampNeg 0) ((6 : Int32)).toNatClampNeg 0) ((10 : Int32)).toNatClampNeg 0) ((3 : Int32)).toNatClampNeg 0) ((7 : Int32)).toNatClampNeg 0) ((11 : Int32)).toNatClampNeg 0)))] H := hP
  have hD : va_D A [(mo_, .inr (6, [.int 0, .ref ms, .ref mi, .int 0, .int 0, .int 0, .int 0, .int 0, .int 0, .ref mb, .ref mt, .ref ml, .ref mx, .int v1, .int v2, .int v3, .int v4, .int v5, .int v6, .ref mc, .int v7, .ref mn, .ref mp, .ref mo, .int 0, .int 0, .int 0, .int 0])), (ms, .inl (cI, 846, .inl (s0))), (mp, .inl (cI, 12, .inl (upd (upd (upd (upd (upd (upd (upd (upd (upd (upd (upd (upd fq ((0 : Int32)).toNatClampNeg 0) ((4 : Int32)).toNatClampNeg 0) ((8 : Int32)).toNatClampNeg 0) ((1 : Int32)).toNatClampNeg 0) ((5 : Int32)).toNatClampNeg 0) ((9 : Int32)).toNatClampNeg 0) ((2 : Int32)).toNatClampNeg 0) ((6 : Int32)).toNatClampNeg 0) ((10 : Int32)).toNatClampNeg 0) ((3 : Int32)).toNatClampNeg 0) ((7 : Int32)).toNatClampNeg 0) ((11 : Int32)).toNatClampNeg 0)))] := hD
  refine lv_aload_n hx hb dX6_goesBack_22 rfl (lv_at hl 1 rfl) ?_
  refine va_get (ci := 6) (v := .ref ms) (C := RX6) (T := TX6) (N := 28) hx hb hT wu_X6 hown hK hP 0 rfl rfl 1 (by decide) (hT _ wf_X6_7) (fun _ h9 => h9) rfl dX6_goesBack_23 ?_
  refine lv_bipush (v := 114) hx hb dX6_goesBack_26 (by decide) ?_
  refine lv_iload_n hx hb dX6_goesBack_28 rfl (lv_at hl 0 rfl) ?_
  refine lv_iadd hx hb dX6_goesBack_29 ?_
  refine lv_ci 114 (by decide +kernel) ?_
  refine lv_aload_n hx hb dX6_goesBack_30 rfl (lv_at hl 1 rfl) ?_
  refine va_get (ci := 6) (v := .ref mp) (C := RX6) (T := TX6) (N := 28) hx hb hT wu_X6 hown hK hP 0 rfl rfl 22 (by decide) (hT _ wf_X6_35) (fun _ h9 => h9) rfl dX6_goesBack_31 ?_
  refine lv_iconst (v := 4) hx hb dX6_goesBack_34 (by decide) ?_
  refine lv_iload_n hx hb dX6_goesBack_35 rfl (lv_at hl 0 rfl) ?_
  refine lv_iadd hx hb dX6_goesBack_36 ?_
  refine lv_ci 4 (by decide +kernel) ?_
  refine va_iald hx hb hK hP 2 0 rfl rfl (vin _ _ (by decide +kernel)) dX6_goesBack_37 ?_
  refine lv_ci 0 ((pk_un (by decide +kernel)).trans ((pk_un (by decide +kernel)).trans ((pk_un (by decide +kernel)).trans ((pk_un (by decide +kernel)).trans ((pk_un (by decide +kernel)).trans ((pk_un (by decide +kernel)).trans ((pk_un (by decide +kernel)).trans ((pk_un (by decide +kernel)).trans ((pk_un (by decide +kernel)).trans ((pk_un (by decide +kernel)).trans (pk_us))))))))))) ?_
  refine va_iast hx hb hK hP hD hS 1 0 rfl rfl (vin _ _ (by decide +kernel)) dX6_goesBack_38 (fun H locs hP hD hS => ?_)
  have hP : va_P D CL [(mo_, .inr (6, [.int 0, .ref ms, .ref mi, .int 0, .int 0, .int 0, .int 0, .int 0, .int 0, .ref mb, .ref mt, .ref ml, .ref mx, .int v1, .int v2, .int v3, .int v4, .int v5, .int v6, .ref mc, .int v7, .ref mn, .ref mp, .ref mo, .int 0, .int 0, .int 0, .int 0])), (ms, .inl (cI, 846, .inl (upd (s0) ((114 : Int32)).toNatClampNeg 0))), (mp, .inl (cI, 12, .inl (upd (upd (upd (upd (upd (upd (upd (upd (upd (upd (upd (upd fq ((0 : Int32)).toNatClampNeg 0) ((4 : Int32)).toNatClampNeg 0) ((8 : Int32)).toNatClampNeg 0) ((1 : Int32)).toNatClampNeg 0) ((5 : Int32)).toNatClampNeg 0) ((9 : Int32)).toNatClampNeg 0) ((2 : Int32)).toNatClampNeg 0) ((6 : Int32)).toNatClampNeg 0) ((10 : Int32)).toNatClampNeg 0) ((3 : Int32)).toNatClampNeg 0) ((7 : Int32)).toNatClampNeg 0) ((11 : Int32)).toNatClampNeg 0)))] H := hP
  have hD : va_D A [(mo_, .inr (6, [.int 0, .ref ms, .ref mi, .int 0, .int 0, .int 0, .int 0, .int 0, .int 0, .ref mb, .ref mt, .ref ml, .ref mx, .int v1, .int v2, .int v3, .int v4, .int v5, .int v6, .ref mc, .int v7, .ref mn, .ref mp, .ref mo, .int 0, .int 0, .int 0, .int 0])), (ms, .inl (cI, 846, .inl (upd (s0) ((114 : Int32)).toNatClampNeg 0))), (mp, .inl (cI, 12, .inl (upd (upd (upd (upd (upd (upd (upd (upd (upd (upd (upd (upd fq ((0 : Int32)).toNatClampNeg 0) ((4 : Int32)).toNatClampNeg 0) ((8 : Int32)).toNatClampNeg 0) ((1 : Int32)).toNatClampNeg 0) ((5 : Int32)).toNatClampNeg 0) ((9 : Int32)).toNatClampNeg 0) ((2 : Int32)).toNatClampNeg 0) ((6 : Int32)).toNatClampNeg 0) ((10 : Int32)).toNatClampNeg 0) ((3 : Int32)).toNatClampNeg 0) ((7 : Int32)).toNatClampNeg 0) ((11 : Int32)).toNatClampNeg 0)))] := hD
  rw [upd_id (f := (s0)) (by decide +kernel)] at hP hD
  have hP : va_P D CL [(mo_, .inr (6, [.int 0, .ref ms, .ref mi, .int 0, .int 0, .int 0, .int 0, .int 0, .int 0, .ref mb, .ref mt, .ref ml, .ref mx, .int v1, .int v2, .int v3, .int v4, .int v5, .int v6, .ref mc, .int v7, .ref mn, .ref mp, .ref mo, .int 0, .int 0, .int 0, .int 0])), (ms, .inl (cI, 846, .inl (s0))), (mp, .inl (cI, 12, .inl (upd (upd (upd (upd (upd (upd (upd (upd (upd (upd (upd (upd fq ((0 : Int32)).toNatClampNeg 0) ((4 : Int32)).toNatClampNeg 0) ((8 : Int32)).toNatClampNeg 0) ((1 : Int32)).toNatClampNeg 0) ((5 : Int32)).toNatClampNeg 0) ((9 : Int32)).toNatClampNeg 0) ((2 : Int32)).toNatClampNeg 0) ((6 : Int32)).toNatClampNeg 0) ((10 : Int32)).toNatClampNeg 0) ((3 : Int32)).toNatClampNeg 0) ((7 : Int32)).toNatClampNeg 0) ((11 : Int32)).toNatClampNeg 0)))] H := hP
  have hD : va_D A [(mo_, .inr (6, [.int 0, .ref ms, .ref mi, .int 0, .int 0, .int 0, .int 0, .int 0, .int 0, .ref mb, .ref mt, .ref ml, .ref mx, .int v1, .int v2, .int v3, .int v4, .int v5, .int v6, .ref mc, .int v7, .ref mn, .ref mp, .ref mo, .int 0, .int 0, .int 0, .int 0])), (ms, .inl (cI, 846, .inl (s0))), (mp, .inl (cI, 12, .inl (upd (upd (upd (upd (upd (upd (upd (upd (upd (upd (upd (upd fq ((0 : Int32)).toNatClampNeg 0) ((4 : Int32)).toNatClampNeg 0) ((8 : Int32)).toNatClampNeg 0) ((1 : Int32)).toNatClampNeg 0) ((5 : Int32)).toNatClampNeg 0) ((9 : Int32)).toNatClampNeg 0) ((2 : Int32)).toNatClampNeg 0) ((6 : Int32)).toNatClampNeg 0) ((10 : Int32)).toNatClampNeg 0) ((3 : Int32)).toNatClampNeg 0) ((7 : Int32)).toNatClampNeg 0) ((11 : Int32)).toNatClampNeg 0)))] := hD
  refine lv_aload_n hx hb dX6_goesBack_39 rfl (lv_at hl 1 rfl) ?_
  refine va_get (ci := 6) (v := .ref ms) (C := RX6) (T := TX6) (N := 28) hx hb hT wu_X6 hown hK hP 0 rfl rfl 1 (by decide) (hT _ wf_X6_7) (fun _ h9 => h9) rfl dX6_goesBack_40 ?_
  refine lv_bipush (v := 118) hx hb dX6_goesBack_43 (by decide) ?_
  refine lv_iload_n hx hb dX6_goesBack_45 rfl (lv_at hl 0 rfl) ?_
  refine lv_iadd hx hb dX6_goesBack_46 ?_
  refine lv_ci 118 (by decide +kernel) ?_
  refine lv_aload_n hx hb dX6_goesBack_47 rfl (lv_at hl 1 rfl) ?_
  refine va_get (ci := 6) (v := .ref mp) (C := RX6) (T := TX6) (N := 28) hx hb hT wu_X6 hown hK hP 0 rfl rfl 22 (by decide) (hT _ wf_X6_35) (fun _ h9 => h9) rfl dX6_goesBack_48 ?_
  refine lv_bipush (v := 8) hx hb dX6_goesBack_51 (by decide) ?_
  refine lv_iload_n hx hb dX6_goesBack_53 rfl (lv_at hl 0 rfl) ?_
  refine lv_iadd hx hb dX6_goesBack_54 ?_
  refine lv_ci 8 (by decide +kernel) ?_
  refine va_iald hx hb hK hP 2 0 rfl rfl (vin _ _ (by decide +kernel)) dX6_goesBack_55 ?_
  refine lv_ci 0 ((pk_un (by decide +kernel)).trans ((pk_un (by decide +kernel)).trans ((pk_un (by decide +kernel)).trans ((pk_un (by decide +kernel)).trans ((pk_un (by decide +kernel)).trans ((pk_un (by decide +kernel)).trans ((pk_un (by decide +kernel)).trans ((pk_un (by decide +kernel)).trans ((pk_un (by decide +kernel)).trans (pk_us)))))))))) ?_
  refine va_iast hx hb hK hP hD hS 1 0 rfl rfl (vin _ _ (by decide +kernel)) dX6_goesBack_56 (fun H locs hP hD hS => ?_)
  have hP : va_P D CL [(mo_, .inr (6, [.int 0, .ref ms, .ref mi, .int 0, .int 0, .int 0, .int 0, .int 0, .int 0, .ref mb, .ref mt, .ref ml, .ref mx, .int v1, .int v2, .int v3, .int v4, .int v5, .int v6, .ref mc, .int v7, .ref mn, .ref mp, .ref mo, .int 0, .int 0, .int 0, .int 0])), (ms, .inl (cI, 846, .inl (upd (s0) ((118 : Int32)).toNatClampNeg 0))), (mp, .inl (cI, 12, .inl (upd (upd (upd (upd (upd (upd (upd (upd (upd (upd (upd (upd fq ((0 : Int32)).toNatClampNeg 0) ((4 : Int32)).toNatClampNeg 0) ((8 : Int32)).toNatClampNeg 0) ((1 : Int32)).toNatClampNeg 0) ((5 : Int32)).toNatClampNeg 0) ((9 : Int32)).toNatClampNeg 0) ((2 : Int32)).toNatClampNeg 0) ((6 : Int32)).toNatClampNeg 0) ((10 : Int32)).toNatClampNeg 0) ((3 : Int32)).toNatClampNeg 0) ((7 : Int32)).toNatClampNeg 0) ((11 : Int32)).toNatClampNeg 0)))] H := hP
  have hD : va_D A [(mo_, .inr (6, [.int 0, .ref ms, .ref mi, .int 0, .int 0, .int 0, .int 0, .int 0, .int 0, .ref mb, .ref mt, .ref ml, .ref mx, .int v1, .int v2, .int v3, .int v4, .int v5, .int v6, .ref mc, .int v7, .ref mn, .ref mp, .ref mo, .int 0, .int 0, .int 0, .int 0])), (ms, .inl (cI, 846, .inl (upd (s0) ((118 : Int32)).toNatClampNeg 0))), (mp, .inl (cI, 12, .inl (upd (upd (upd (upd (upd (upd (upd (upd (upd (upd (upd (upd fq ((0 : Int32)).toNatClampNeg 0) ((4 : Int32)).toNatClampNeg 0) ((8 : Int32)).toNatClampNeg 0) ((1 : Int32)).toNatClampNeg 0) ((5 : Int32)).toNatClampNeg 0) ((9 : Int32)).toNatClampNeg 0) ((2 : Int32)).toNatClampNeg 0) ((6 : Int32)).toNatClampNeg 0) ((10 : Int32)).toNatClampNeg 0) ((3 : Int32)).toNatClampNeg 0) ((7 : Int32)).toNatClampNeg 0) ((11 : Int32)).toNatClampNeg 0)))] := hD
  rw [upd_id (f := (s0)) (by decide +kernel)] at hP hD
  have hP : va_P D CL [(mo_, .inr (6, [.int 0, .ref ms, .ref mi, .int 0, .int 0, .int 0, .int 0, .int 0, .int 0, .ref mb, .ref mt, .ref ml, .ref mx, .int v1, .int v2, .int v3, .int v4, .int v5, .int v6, .ref mc, .int v7, .ref mn, .ref mp, .ref mo, .int 0, .int 0, .int 0, .int 0])), (ms, .inl (cI, 846, .inl (s0))), (mp, .inl (cI, 12, .inl (upd (upd (upd (upd (upd (upd (upd (upd (upd (upd (upd (upd fq ((0 : Int32)).toNatClampNeg 0) ((4 : Int32)).toNatClampNeg 0) ((8 : Int32)).toNatClampNeg 0) ((1 : Int32)).toNatClampNeg 0) ((5 : Int32)).toNatClampNeg 0) ((9 : Int32)).toNatClampNeg 0) ((2 : Int32)).toNatClampNeg 0) ((6 : Int32)).toNatClampNeg 0) ((10 : Int32)).toNatClampNeg 0) ((3 : Int32)).toNatClampNeg 0) ((7 : Int32)).toNatClampNeg 0) ((11 : Int32)).toNatClampNeg 0)))] H := hP
  have hD : va_D A [(mo_, .inr (6, [.int 0, .ref ms, .ref mi, .int 0, .int 0, .int 0, .int 0, .int 0, .int 0, .ref mb, .ref mt, .ref ml, .ref mx, .int v1, .int v2, .int v3, .int v4, .int v5, .int v6, .ref mc, .int v7, .ref mn, .ref mp, .ref mo, .int 0, .int 0, .int 0, .int 0])), (ms, .inl (cI, 846, .inl (s0))), (mp, .inl (cI, 12, .inl (upd (upd (upd (upd (upd (upd (upd (upd (upd (upd (upd (upd fq ((0 : Int32)).toNatClampNeg 0) ((4 : Int32)).toNatClampNeg 0) ((8 : Int32)).toNatClampNeg 0) ((1 : Int32)).toNatClampNeg 0) ((5 : Int32)).toNatClampNeg 0) ((9 : Int32)).toNatClampNeg 0) ((2 : Int32)).toNatClampNeg 0) ((6 : Int32)).toNatClampNeg 0) ((10 : Int32)).toNatClampNeg 0) ((3 : Int32)).toNatClampNeg 0) ((7 : Int32)).toNatClampNeg 0) ((11 : Int32)).toNatClampNeg 0)))] := hD
  refine lv_iinc (v := 1) (lv' := [(1, .int 1), (0, .ref mo_)]) hx hb dX6_goesBack_57 hl (k := 0) rfl (by decide) (by decide) rfl (fun ls hl => ?_)
  refine lv_goto (tgt := 2) hx hb dX6_goesBack_60 (by decide) ?_
  refine lv_iload_n hx hb dX6_goesBack_2 rfl (lv_at hl 0 rfl) ?_
  refine lv_iconst (v := 4) hx hb dX6_goesBack_3 (by decide) ?_
  refine lv_icmp_ge (tgt := 63) hx hb dX6_goesBack_4 (by decide) (fun c_0 => absurd c_0 (by decide)) (fun _ => ?_)
  refine lv_aload_n hx hb dX6_goesBack_7 rfl (lv_at hl 1 rfl) ?_
  refine va_get (ci := 6) (v := .ref ms) (C := RX6) (T := TX6) (N := 28) hx hb hT wu_X6 hown hK hP 0 rfl rfl 1 (by decide) (hT _ wf_X6_7) (fun _ h9 => h9) rfl dX6_goesBack_8 ?_
  refine lv_bipush (v := 110) hx hb dX6_goesBack_11 (by decide) ?_
  refine lv_iload_n hx hb dX6_goesBack_13 rfl (lv_at hl 0 rfl) ?_
  refine lv_iadd hx hb dX6_goesBack_14 ?_
  refine lv_ci 111 (by decide +kernel) ?_
  refine lv_aload_n hx hb dX6_goesBack_15 rfl (lv_at hl 1 rfl) ?_
  refine va_get (ci := 6) (v := .ref mp) (C := RX6) (T := TX6) (N := 28) hx hb hT wu_X6 hown hK hP 0 rfl rfl 22 (by decide) (hT _ wf_X6_35) (fun _ h9 => h9) rfl dX6_goesBack_16 ?_
  refine lv_iload_n hx hb dX6_goesBack_19 rfl (lv_at hl 0 rfl) ?_
  refine va_iald hx hb hK hP 2 0 rfl rfl (vin _ _ (by decide +kernel)) dX6_goesBack_20 ?_
  refine lv_ci 0 ((pk_un (by decide +kernel)).trans ((pk_un (by decide +kernel)).trans ((pk_un (by decide +kernel)).trans ((pk_un (by decide +kernel)).trans ((pk_un (by decide +kernel)).trans ((pk_un (by decide +kernel)).trans ((pk_un (by decide +kernel)).trans ((pk_un (by decide +kernel)).trans (pk_us))))))))) ?_
  refine va_iast hx hb hK hP hD hS 1 0 rfl rfl (vin _ _ (by decide +kernel)) dX6_goesBack_21 (fun H locs hP hD hS => ?_)
  have hP : va_P D CL [(mo_, .inr (6, [.int 0, .ref ms, .ref mi, .int 0, .int 0, .int 0, .int 0, .int 0, .int 0, .ref mb, .ref mt, .ref ml, .ref mx, .int v1, .int v2, .int v3, .int v4, .int v5, .int v6, .ref mc, .int v7, .ref mn, .ref mp, .ref mo, .int 0, .int 0, .int 0, .int 0])), (ms, .inl (cI, 846, .inl (upd (s0) ((111 : Int32)).toNatClampNeg 0))), (mp, .inl (cI, 12, .inl (upd (upd (upd (upd (upd (upd (upd (upd (upd (upd (upd (upd fq ((0 : Int32)).toNatClampNeg 0) ((4 : Int32)).toNatClampNeg 0) ((8 : Int32)).toNatClampNeg 0) ((1 : Int32)).toNatClampNeg 0) ((5 : Int32)).toNatClampNeg 0) ((9 : Int32)).toNatClampNeg 0) ((2 : Int32)).toNatClampNeg 0) ((6 : Int32)).toNatClampNeg 0) ((10 : Int32)).toNatClampNeg 0) ((3 : Int32)).toNatClampNeg 0) ((7 : Int32)).toNatClampNeg 0) ((11 : Int32)).toNatClampNeg 0)))] H := hP
  have hD : va_D A [(mo_, .inr (6, [.int 0, .ref ms, .ref mi, .int 0, .int 0, .int 0, .int 0, .int 0, .int 0, .ref mb, .ref mt, .ref ml, .ref mx, .int v1, .int v2, .int v3, .int v4, .int v5, .int v6, .ref mc, .int v7, .ref mn, .ref mp, .ref mo, .int 0, .int 0, .int 0, .int 0])), (ms, .inl (cI, 846, .inl (upd (s0) ((111 : Int32)).toNatClampNeg 0))), (mp, .inl (cI, 12, .inl (upd (upd (upd (upd (upd (upd (upd (upd (upd (upd (upd (upd fq ((0 : Int32)).toNatClampNeg 0) ((4 : Int32)).toNatClampNeg 0) ((8 : Int32)).toNatClampNeg 0) ((1 : Int32)).toNatClampNeg 0) ((5 : Int32)).toNatClampNeg 0) ((9 : Int32)).toNatClampNeg 0) ((2 : Int32)).toNatClampNeg 0) ((6 : Int32)).toNatClampNeg 0) ((10 : Int32)).toNatClampNeg 0) ((3 : Int32)).toNatClampNeg 0) ((7 : Int32)).toNatClampNeg 0) ((11 : Int32)).toNatClampNeg 0)))] := hD
  rw [upd_id (f := (s0)) (by decide +kernel)] at hP hD
  have hP : va_P D CL [(mo_, .inr (6, [.int 0, .ref ms, .ref mi, .int 0, .int 0, .int 0, .int 0, .int 0, .int 0, .ref mb, .ref mt, .ref ml, .ref mx, .int v1, .int v2, .int v3, .int v4, .int v5, .int v6, .ref mc, .int v7, .ref mn, .ref mp, .ref mo, .int 0, .int 0, .int 0, .int 0])), (ms, .inl (cI, 846, .inl (s0))), (mp, .inl (cI, 12, .inl (upd (upd (upd (upd (upd (upd (upd (upd (upd (upd (upd (upd fq ((0 : Int32)).toNatClampNeg 0) ((4 : Int32)).toNatClampNeg 0) ((8 : Int32)).toNatClampNeg 0) ((1 : Int32)).toNatClampNeg 0) ((5 : Int32)).toNatClampNeg 0) ((9 : Int32)).toNatClampNeg 0) ((2 : Int32)).toNatClampNeg 0) ((6 : Int32)).toNatClampNeg 0) ((10 : Int32)).toNatClampNeg 0) ((3 : Int32)).toNatClampNeg 0) ((7 : Int32)).toNatClampNeg 0) ((11 : Int32)).toNatClampNeg 0)))] H := hP
  have hD : va_D A [(mo_, .inr (6, [.int 0, .ref ms, .ref mi, .int 0, .int 0, .int 0, .int 0, .int 0, .int 0, .ref mb, .ref mt, .ref ml, .ref mx, .int v1, .int v2, .int v3, .int v4, .int v5, .int v6, .ref mc, .int v7, .ref mn, .ref mp, .ref mo, .int 0, .int 0, .int 0, .int 0])), (ms, .inl (cI, 846, .inl (s0))), (mp, .inl (cI, 12, .inl (upd (upd (upd (upd (upd (upd (upd (upd (upd (upd (upd (upd fq ((0 : Int32)).toNatClampNeg 0) ((4 : Int32)).toNatClampNeg 0) ((8 : Int32)).toNatClampNeg 0) ((1 : Int32)).toNatClampNeg 0) ((5 : Int32)).toNatClampNeg 0) ((9 : Int32)).toNatClampNeg 0) ((2 : Int32)).toNatClampNeg 0) ((6 : Int32)).toNatClampNeg 0) ((10 : Int32)).toNatClampNeg 0) ((3 : Int32)).toNatClampNeg 0) ((7 : Int32)).toNatClampNeg 0) ((11 : Int32)).toNatClampNeg 0)))] := hD
  refine lv_aload_n hx hb dX6_goesBack_22 rfl (lv_at hl 1 rfl) ?_
  refine va_get (ci := 6) (v := .ref ms) (C := RX6) (T := TX6) (N := 28) hx hb hT wu_X6 hown hK hP 0 rfl rfl 1 (by decide) (hT _ wf_X6_7) (fun _ h9 => h9) rfl dX6_goesBack_23 ?_
  refine lv_bipush (v := 114) hx hb dX6_goesBack_26 (by decide) ?_
  refine lv_iload_n hx hb dX6_goesBack_28 rfl (lv_at hl 0 rfl) ?_
  refine lv_iadd hx hb dX6_goesBack_29 ?_
  refine lv_ci 115 (by decide +kernel) ?_
  refine lv_aload_n hx hb dX6_goesBack_30 rfl (lv_at hl 1 rfl) ?_
  refine va_get (ci := 6) (v := .ref mp) (C := RX6) (T := TX6) (N := 28) hx hb hT wu_X6 hown hK hP 0 rfl rfl 22 (by decide) (hT _ wf_X6_35) (fun _ h9 => h9) rfl dX6_goesBack_31 ?_
  refine lv_iconst (v := 4) hx hb dX6_goesBack_34 (by decide) ?_
  refine lv_iload_n hx hb dX6_goesBack_35 rfl (lv_at hl 0 rfl) ?_
  refine lv_iadd hx hb dX6_goesBack_36 ?_
  refine lv_ci 5 (by decide +kernel) ?_
  refine va_iald hx hb hK hP 2 0 rfl rfl (vin _ _ (by decide +kernel)) dX6_goesBack_37 ?_
  refine lv_ci 0 ((pk_un (by decide +kernel)).trans ((pk_un (by decide +kernel)).trans ((pk_un (by decide +kernel)).trans ((pk_un (by decide +kernel)).trans ((pk_un (by decide +kernel)).trans ((pk_un (by decide +kernel)).trans ((pk_un (by decide +kernel)).trans (pk_us)))))))) ?_
  refine va_iast hx hb hK hP hD hS 1 0 rfl rfl (vin _ _ (by decide +kernel)) dX6_goesBack_38 (fun H locs hP hD hS => ?_)
  have hP : va_P D CL [(mo_, .inr (6, [.int 0, .ref ms, .ref mi, .int 0, .int 0, .int 0, .int 0, .int 0, .int 0, .ref mb, .ref mt, .ref ml, .ref mx, .int v1, .int v2, .int v3, .int v4, .int v5, .int v6, .ref mc, .int v7, .ref mn, .ref mp, .ref mo, .int 0, .int 0, .int 0, .int 0])), (ms, .inl (cI, 846, .inl (upd (s0) ((115 : Int32)).toNatClampNeg 0))), (mp, .inl (cI, 12, .inl (upd (upd (upd (upd (upd (upd (upd (upd (upd (upd (upd (upd fq ((0 : Int32)).toNatClampNeg 0) ((4 : Int32)).toNatClampNeg 0) ((8 : Int32)).toNatClampNeg 0) ((1 : Int32)).toNatClampNeg 0) ((5 : Int32)).toNatClampNeg 0) ((9 : Int32)).toNatClampNeg 0) ((2 : Int32)).toNatClampNeg 0) ((6 : Int32)).toNatClampNeg 0) ((10 : Int32)).toNatClampNeg 0) ((3 : Int32)).toNatClampNeg 0) ((7 : Int32)).toNatClampNeg 0) ((11 : Int32)).toNatClampNeg 0)))] H := hP
  have hD : va_D A [(mo_, .inr (6, [.int 0, .ref ms, .ref mi, .int 0, .int 0, .int 0, .int 0, .int 0, .int 0, .ref mb, .ref mt, .ref ml, .ref mx, .int v1, .int v2, .int v3, .int v4, .int v5, .int v6, .ref mc, .int v7, .ref mn, .ref mp, .ref mo, .int 0, .int 0, .int 0, .int 0])), (ms, .inl (cI, 846, .inl (upd (s0) ((115 : Int32)).toNatClampNeg 0))), (mp, .inl (cI, 12, .inl (upd (upd (upd (upd (upd (upd (upd (upd (upd (upd (upd (upd fq ((0 : Int32)).toNatClampNeg 0) ((4 : Int32)).toNatClampNeg 0) ((8 : Int32)).toNatClampNeg 0) ((1 : Int32)).toNatClampNeg 0) ((5 : Int32)).toNatClampNeg 0) ((9 : Int32)).toNatClampNeg 0) ((2 : Int32)).toNatClampNeg 0) ((6 : Int32)).toNatClampNeg 0) ((10 : Int32)).toNatClampNeg 0) ((3 : Int32)).toNatClampNeg 0) ((7 : Int32)).toNatClampNeg 0) ((11 : Int32)).toNatClampNeg 0)))] := hD
  rw [upd_id (f := (s0)) (by decide +kernel)] at hP hD
  have hP : va_P D CL [(mo_, .inr (6, [.int 0, .ref ms, .ref mi, .int 0, .int 0, .int 0, .int 0, .int 0, .int 0, .ref mb, .ref mt, .ref ml, .ref mx, .int v1, .int v2, .int v3, .int v4, .int v5, .int v6, .ref mc, .int v7, .ref mn, .ref mp, .ref mo, .int 0, .int 0, .int 0, .int 0])), (ms, .inl (cI, 846, .inl (s0))), (mp, .inl (cI, 12, .inl (upd (upd (upd (upd (upd (upd (upd (upd (upd (upd (upd (upd fq ((0 : Int32)).toNatClampNeg 0) ((4 : Int32)).toNatClampNeg 0) ((8 : Int32)).toNatClampNeg 0) ((1 : Int32)).toNatClampNeg 0) ((5 : Int32)).toNatClampNeg 0) ((9 : Int32)).toNatClampNeg 0) ((2 : Int32)).toNatClampNeg 0) ((6 : Int32)).toNatClampNeg 0) ((10 : Int32)).toNatClampNeg 0) ((3 : Int32)).toNatClampNeg 0) ((7 : Int32)).toNatClampNeg 0) ((11 : Int32)).toNatClampNeg 0)))] H := hP
  have hD : va_D A [(mo_, .inr (6, [.int 0, .ref ms, .ref mi, .int 0, .int 0, .int 0, .int 0, .int 0, .int 0, .ref mb, .ref mt, .ref ml, .ref mx, .int v1, .int v2, .int v3, .int v4, .int v5, .int v6, .ref mc, .int v7, .ref mn, .ref mp, .ref mo, .int 0, .int 0, .int 0, .int 0])), (ms, .inl (cI, 846, .inl (s0))), (mp, .inl (cI, 12, .inl (upd (upd (upd (upd (upd (upd (upd (upd (upd (upd (upd (upd fq ((0 : Int32)).toNatClampNeg 0) ((4 : Int32)).toNatClampNeg 0) ((8 : Int32)).toNatClampNeg 0) ((1 : Int32)).toNatClampNeg 0) ((5 : Int32)).toNatClampNeg 0) ((9 : Int32)).toNatClampNeg 0) ((2 : Int32)).toNatClampNeg 0) ((6 : Int32)).toNatClampNeg 0) ((10 : Int32)).toNatClampNeg 0) ((3 : Int32)).toNatClampNeg 0) ((7 : Int32)).toNatClampNeg 0) ((11 : Int32)).toNatClampNeg 0)))] := hD
  refine lv_aload_n hx hb dX6_goesBack_39 rfl (lv_at hl 1 rfl) ?_
  refine va_get (ci := 6) (v := .ref ms) (C := RX6) (T := TX6) (N := 28) hx hb hT wu_X6 hown hK hP 0 rfl rfl 1 (by decide) (hT _ wf_X6_7) (fun _ h9 => h9) rfl dX6_goesBack_40 ?_
  refine lv_bipush (v := 118) hx hb dX6_goesBack_43 (by decide) ?_
  refine lv_iload_n hx hb dX6_goesBack_45 rfl (lv_at hl 0 rfl) ?_
  refine lv_iadd hx hb dX6_goesBack_46 ?_
  refine lv_ci 119 (by decide +kernel) ?_
  refine lv_aload_n hx hb dX6_goesBack_47 rfl (lv_at hl 1 rfl) ?_
  refine va_get (ci := 6) (v := .ref mp) (C := RX6) (T := TX6) (N := 28) hx hb hT wu_X6 hown hK hP 0 rfl rfl 22 (by decide) (hT _ wf_X6_35) (fun _ h9 => h9) rfl dX6_goesBack_48 ?_
  refine lv_bipush (v := 8) hx hb dX6_goesBack_51 (by decide) ?_
  refine lv_iload_n hx hb dX6_goesBack_53 rfl (lv_at hl 0 rfl) ?_
  refine lv_iadd hx hb dX6_goesBack_54 ?_
  refine lv_ci 9 (by decide +kernel) ?_
  refine va_iald hx hb hK hP 2 0 rfl rfl (vin _ _ (by decide +kernel)) dX6_goesBack_55 ?_
  refine lv_ci 0 ((pk_un (by decide +kernel)).trans ((pk_un (by decide +kernel)).trans ((pk_un (by decide +kernel)).trans ((pk_un (by decide +kernel)).trans ((pk_un (by decide +kernel)).trans ((pk_un (by decide +kernel)).trans (pk_us))))))) ?_
  refine va_iast hx hb hK hP hD hS 1 0 rfl rfl (vin _ _ (by decide +kernel)) dX6_goesBack_56 (fun H locs hP hD hS => ?_)
  have hP : va_P D CL [(mo_, .inr (6, [.int 0, .ref ms, .ref mi, .int 0, .int 0, .int 0, .int 0, .int 0, .int 0, .ref mb, .ref mt, .ref ml, .ref mx, .int v1, .int v2, .int v3, .int v4, .int v5, .int v6, .ref mc, .int v7, .ref mn, .ref mp, .ref mo, .int 0, .int 0, .int 0, .int 0])), (ms, .inl (cI, 846, .inl (upd (s0) ((119 : Int32)).toNatClampNeg 0))), (mp, .inl (cI, 12, .inl (upd (upd (upd (upd (upd (upd (upd (upd (upd (upd (upd (upd fq ((0 : Int32)).toNatClampNeg 0) ((4 : Int32)).toNatClampNeg 0) ((8 : Int32)).toNatClampNeg 0) ((1 : Int32)).toNatClampNeg 0) ((5 : Int32)).toNatClampNeg 0) ((9 : Int32)).toNatClampNeg 0) ((2 : Int32)).toNatClampNeg 0) ((6 : Int32)).toNatClampNeg 0) ((10 : Int32)).toNatClampNeg 0) ((3 : Int32)).toNatClampNeg 0) ((7 : Int32)).toNatClampNeg 0) ((11 : Int32)).toNatClampNeg 0)))] H := hP
  have hD : va_D A [(mo_, .inr (6, [.int 0, .ref ms, .ref mi, .int 0, .int 0, .int 0, .int 0, .int 0, .int 0, .ref mb, .ref mt, .ref ml, .ref mx, .int v1, .int v2, .int v3, .int v4, .int v5, .int v6, .ref mc, .int v7, .ref mn, .ref mp, .ref mo, .int 0, .int 0, .int 0, .int 0])), (ms, .inl (cI, 846, .inl (upd (s0) ((119 : Int32)).toNatClampNeg 0))), (mp, .inl (cI, 12, .inl (upd (upd (upd (upd (upd (upd (upd (upd (upd (upd (upd (upd fq ((0 : Int32)).toNatClampNeg 0) ((4 : Int32)).toNatClampNeg 0) ((8 : Int32)).toNatClampNeg 0) ((1 : Int32)).toNatClampNeg 0) ((5 : Int32)).toNatClampNeg 0) ((9 : Int32)).toNatClampNeg 0) ((2 : Int32)).toNatClampNeg 0) ((6 : Int32)).toNatClampNeg 0) ((10 : Int32)).toNatClampNeg 0) ((3 : Int32)).toNatClampNeg 0) ((7 : Int32)).toNatClampNeg 0) ((11 : Int32)).toNatClampNeg 0)))] := hD
  rw [upd_id (f := (s0)) (by decide +kernel)] at hP hD
  have hP : va_P D CL [(mo_, .inr (6, [.int 0, .ref ms, .ref mi, .int 0, .int 0, .int 0, .int 0, .int 0, .int 0, .ref mb, .ref mt, .ref ml, .ref mx, .int v1, .int v2, .int v3, .int v4, .int v5, .int v6, .ref mc, .int v7, .ref mn, .ref mp, .ref mo, .int 0, .int 0, .int 0, .int 0])), (ms, .inl (cI, 846, .inl (s0))), (mp, .inl (cI, 12, .inl (upd (upd (upd (upd (upd (upd (upd (upd (upd (upd (upd (upd fq ((0 : Int32)).toNatClampNeg 0) ((4 : Int32)).toNatClampNeg 0) ((8 : Int32)).toNatClampNeg 0) ((1 : Int32)).toNatClampNeg 0) ((5 : Int32)).toNatClampNeg 0) ((9 : Int32)).toNatClampNeg 0) ((2 : Int32)).toNatClampNeg 0) ((6 : Int32)).toNatClampNeg 0) ((10 : Int32)).toNatClampNeg 0) ((3 : Int32)).toNatClampNeg 0) ((7 : Int32)).toNatClampNeg 0) ((11 : Int32)).toNatClampNeg 0)))] H := hP
  have hD : va_D A [(mo_, .inr (6, [.int 0, .ref ms, .ref mi, .int 0, .int 0, .int 0, .int 0, .int 0, .int 0, .ref mb, .ref mt, .ref ml, .ref mx, .int v1, .int v2, .int v3, .int v4, .int v5, .int v6, .ref mc, .int v7, .ref mn, .ref mp, .ref mo, .int 0, .int 0, .int 0, .int 0])), (ms, .inl (cI, 846, .inl (s0))), (mp, .inl (cI, 12, .inl (upd (upd (upd (upd (upd (upd (upd (upd (upd (upd (upd (upd fq ((0 : Int32)).toNatClampNeg 0) ((4 : Int32)).toNatClampNeg 0) ((8 : Int32)).toNatClampNeg 0) ((1 : Int32)).toNatClampNeg 0) ((5 : Int32)).toNatClampNeg 0) ((9 : Int32)).toNatClampNeg 0) ((2 : Int32)).toNatClampNeg 0) ((6 : Int32)).toNatClampNeg 0) ((10 : Int32)).toNatClampNeg 0) ((3 : Int32)).toNatClampNeg 0) ((7 : Int32)).toNatClampNeg 0) ((11 : Int32)).toNatClampNeg 0)))] := hD
  refine lv_iinc (v := 2) (lv' := [(1, .int 2), (0, .ref mo_)]) hx hb dX6_goesBack_57 hl (k := 0) rfl (by decide) (by decide) rfl (fun ls hl => ?_)
  refine lv_goto (tgt := 2) hx hb dX6_goesBack_60 (by decide) ?_
  refine lv_iload_n hx hb dX6_goesBack_2 rfl (lv_at hl 0 rfl) ?_
  refine lv_iconst (v := 4) hx hb dX6_goesBack_3 (by decide) ?_
  refine lv_icmp_ge (tgt := 63) hx hb dX6_goesBack_4 (by decide) (fun c_0 => absurd c_0 (by decide)) (fun _ => ?_)
  refine lv_aload_n hx hb dX6_goesBack_7 rfl (lv_at hl 1 rfl) ?_
  refine va_get (ci := 6) (v := .ref ms) (C := RX6) (T := TX6) (N := 28) hx hb hT wu_X6 hown hK hP 0 rfl rfl 1 (by decide) (hT _ wf_X6_7) (fun _ h9 => h9) rfl dX6_goesBack_8 ?_
  refine lv_bipush (v := 110) hx hb dX6_goesBack_11 (by decide) ?_
  refine lv_iload_n hx hb dX6_goesBack_13 rfl (lv_at hl 0 rfl) ?_
  refine lv_iadd hx hb dX6_goesBack_14 ?_
  refine lv_ci 112 (by decide +kernel) ?_
  refine lv_aload_n hx hb dX6_goesBack_15 rfl (lv_at hl 1 rfl) ?_
  refine va_get (ci := 6) (v := .ref mp) (C := RX6) (T := TX6) (N := 28) hx hb hT wu_X6 hown hK hP 0 rfl rfl 22 (by decide) (hT _ wf_X6_35) (fun _ h9 => h9) rfl dX6_goesBack_16 ?_
  refine lv_iload_n hx hb dX6_goesBack_19 rfl (lv_at hl 0 rfl) ?_
  refine va_iald hx hb hK hP 2 0 rfl rfl (vin _ _ (by decide +kernel)) dX6_goesBack_20 ?_
  refine lv_ci 0 ((pk_un (by decide +kernel)).trans ((pk_un (by decide +kernel)).trans ((pk_un (by decide +kernel)).trans ((pk_un (by decide +kernel)).trans ((pk_un (by decide +kernel)).trans (pk_us)))))) ?_
  refine va_iast hx hb hK hP hD hS 1 0 rfl rfl (vin _ _ (by decide +kernel)) dX6_goesBack_21 (fun H locs hP hD hS => ?_)
  have hP : va_P D CL [(mo_, .inr (6, [.int 0, .ref ms, .ref mi, .int 0, .int 0, .int 0, .int 0, .int 0, .int 0, .ref mb, .ref mt, .ref ml, .ref mx, .int v1, .int v2, .int v3, .int v4, .int v5, .int v6, .ref mc, .int v7, .ref mn, .ref mp, .ref mo, .int 0, .int 0, .int 0, .int 0])), (ms, .inl (cI, 846, .inl (upd (s0) ((112 : Int32)).toNatClampNeg 0))), (mp, .inl (cI, 12, .inl (upd (upd (upd (upd (upd (upd (upd (upd (upd (upd (upd (upd fq ((0 : Int32)).toNatClampNeg 0) ((4 : Int32)).toNatClampNeg 0) ((8 : Int32)).toNatClampNeg 0) ((1 : Int32)).toNatClampNeg 0) ((5 : Int32)).toNatClampNeg 0) ((9 : Int32)).toNatClampNeg 0) ((2 : Int32)).toNatClampNeg 0) ((6 : Int32)).toNatClampNeg 0) ((10 : Int32)).toNatClampNeg 0) ((3 : Int32)).toNatClampNeg 0) ((7 : Int32)).toNatClampNeg 0) ((11 : Int32)).toNatClampNeg 0)))] H := hP
  have hD : va_D A [(mo_, .inr (6, [.int 0, .ref ms, .ref mi, .int 0, .int 0, .int 0, .int 0, .int 0, .int 0, .ref mb, .ref mt, .ref ml, .ref mx, .int v1, .int v2, .int v3, .int v4, .int v5, .int v6, .ref mc, .int v7, .ref mn, .ref mp, .ref mo, .int 0, .int 0, .int 0, .int 0])), (ms, .inl (cI, 846, .inl (upd (s0) ((112 : Int32)).toNatClampNeg 0))), (mp, .inl (cI, 12, .inl (upd (upd (upd (upd (upd (upd (upd (upd (upd (upd (upd (upd fq ((0 : Int32)).toNatClampNeg 0) ((4 : Int32)).toNatClampNeg 0) ((8 : Int32)).toNatClampNeg 0) ((1 : Int32)).toNatClampNeg 0) ((5 : Int32)).toNatClampNeg 0) ((9 : Int32)).toNatClampNeg 0) ((2 : Int32)).toNatClampNeg 0) ((6 : Int32)).toNatClampNeg 0) ((10 : Int32)).toNatClampNeg 0) ((3 : Int32)).toNatClampNeg 0) ((7 : Int32)).toNatClampNeg 0) ((11 : Int32)).toNatClampNeg 0)))] := hD
  rw [upd_id (f := (s0)) (by decide +kernel)] at hP hD
  have hP : va_P D CL [(mo_, .inr (6, [.int 0, .ref ms, .ref mi, .int 0, .int 0, .int 0, .int 0, .int 0, .int 0, .ref mb, .ref mt, .ref ml, .ref mx, .int v1, .int v2, .int v3, .int v4, .int v5, .int v6, .ref mc, .int v7, .ref mn, .ref mp, .ref mo, .int 0, .int 0, .int 0, .int 0])), (ms, .inl (cI, 846, .inl (s0))), (mp, .inl (cI, 12, .inl (upd (upd (upd (upd (upd (upd (upd (upd (upd (upd (upd (upd fq ((0 : Int32)).toNatClampNeg 0) ((4 : Int32)).toNatClampNeg 0) ((8 : Int32)).toNatClampNeg 0) ((1 : Int32)).toNatClampNeg 0) ((5 : Int32)).toNatClampNeg 0) ((9 : Int32)).toNatClampNeg 0) ((2 : Int32)).toNatClampNeg 0) ((6 : Int32)).toNatClampNeg 0) ((10 : Int32)).toNatClampNeg 0) ((3 : Int32)).toNatClampNeg 0) ((7 : Int32)).toNatClampNeg 0) ((11 : Int32)).toNatClampNeg 0)))] H := hP
  have hD : va_D A [(mo_, .inr (6, [.int 0, .ref ms, .ref mi, .int 0, .int 0, .int 0, .int 0, .int 0, .int 0, .ref mb, .ref mt, .ref ml, .ref mx, .int v1, .int v2, .int v3, .int v4, .int v5, .int v6, .ref mc, .int v7, .ref mn, .ref mp, .ref mo, .int 0, .int 0, .int 0, .int 0])), (ms, .inl (cI, 846, .inl (s0))), (mp, .inl (cI, 12, .inl (upd (upd (upd (upd (upd (upd (upd (upd (upd (upd (upd (upd fq ((0 : Int32)).toNatClampNeg 0) ((4 : Int32)).toNatClampNeg 0) ((8 : Int32)).toNatClampNeg 0) ((1 : Int32)).toNatClampNeg 0) ((5 : Int32)).toNatClampNeg 0) ((9 : Int32)).toNatClampNeg 0) ((2 : Int32)).toNatClampNeg 0) ((6 : Int32)).toNatClampNeg 0) ((10 : Int32)).toNatClampNeg 0) ((3 : Int32)).toNatClampNeg 0) ((7 : Int32)).toNatClampNeg 0) ((11 : Int32)).toNatClampNeg 0)))] := hD
  refine lv_aload_n hx hb dX6_goesBack_22 rfl (lv_at hl 1 rfl) ?_
  refine va_get (ci := 6) (v := .ref ms) (C := RX6) (T := TX6) (N := 28) hx hb hT wu_X6 hown hK hP 0 rfl rfl 1 (by decide) (hT _ wf_X6_7) (fun _ h9 => h9) rfl dX6_goesBack_23 ?_
  refine lv_bipush (v := 114) hx hb dX6_goesBack_26 (by decide) ?_
  refine lv_iload_n hx hb dX6_goesBack_28 rfl (lv_at hl 0 rfl) ?_
  refine lv_iadd hx hb dX6_goesBack_29 ?_
  refine lv_ci 116 (by decide +kernel) ?_
  refine lv_aload_n hx hb dX6_goesBack_30 rfl (lv_at hl 1 rfl) ?_
  refine va_get (ci := 6) (v := .ref mp) (C := RX6) (T := TX6) (N := 28) hx hb hT wu_X6 hown hK hP 0 rfl rfl 22 (by decide) (hT _ wf_X6_35) (fun _ h9 => h9) rfl dX6_goesBack_31 ?_
  refine lv_iconst (v := 4) hx hb dX6_goesBack_34 (by decide) ?_
  refine lv_iload_n hx hb dX6_goesBack_35 rfl (lv_at hl 0 rfl) ?_
  refine lv_iadd hx hb dX6_goesBack_36 ?_
  refine lv_ci 6 (by decide +kernel) ?_
  refine va_iald hx hb hK hP 2 0 rfl rfl (vin _ _ (by decide +kernel)) dX6_goesBack_37 ?_
  refine lv_ci 0 ((pk_un (by decide +kernel)).trans ((pk_un (by decide +kernel)).trans ((pk_un (by decide +kernel)).trans ((pk_un (by decide +kernel)).trans (pk_us))))) ?_
  refine va_iast hx hb hK hP hD hS 1 0 rfl rfl (vin _ _ (by decide +kernel)) dX6_goesBack_38 (fun H locs hP hD hS => ?_)
  have hP : va_P D CL [(mo_, .inr (6, [.int 0, .ref ms, .ref mi, .int 0, .int 0, .int 0, .int 0, .int 0, .int 0, .ref mb, .ref mt, .ref ml, .ref mx, .int v1, .int v2, .int v3, .int v4, .int v5, .int v6, .ref mc, .int v7, .ref mn, .ref mp, .ref mo, .int 0, .int 0, .int 0, .int 0])), (ms, .inl (cI, 846, .inl (upd (s0) ((116 : Int32)).toNatClampNeg 0))), (mp, .inl (cI, 12, .inl (upd (upd (upd (upd (upd (upd (upd (upd (upd (upd (upd (upd fq ((0 : Int32)).toNatClampNeg 0) ((4 : Int32)).toNatClampNeg 0) ((8 : Int32)).toNatClampNeg 0) ((1 : Int32)).toNatClampNeg 0) ((5 : Int32)).toNatClampNeg 0) ((9 : Int32)).toNatClampNeg 0) ((2 : Int32)).toNatClampNeg 0) ((6 : Int32)).toNatClampNeg 0) ((10 : Int32)).toNatClampNeg 0) ((3 : Int32)).toNatClampNeg 0) ((7 : Int32)).toNatClampNeg 0) ((11 : Int32)).toNatClampNeg 0)))] H := hP
  have hD : va_D A [(mo_, .inr (6, [.int 0, .ref ms, .ref mi, .int 0, .int 0, .int 0, .int 0, .int 0, .int 0, .ref mb, .ref mt, .ref ml, .ref mx, .int v1, .int v2, .int v3, .int v4, .int v5, .int v6, .ref mc, .int v7, .ref mn, .ref mp, .ref mo, .int 0, .int 0, .int 0, .int 0])), (ms, .inl (cI, 846, .inl (upd (s0) ((116 : Int32)).toNatClampNeg 0))), (mp, .inl (cI, 12, .inl (upd (upd (upd (upd (upd (upd (upd (upd (upd (upd (upd (upd fq ((0 : Int32)).toNatClampNeg 0) ((4 : Int32)).toNatClampNeg 0) ((8 : Int32)).toNatClampNeg 0) ((1 : Int32)).toNatClampNeg 0) ((5 : Int32)).toNatClampNeg 0) ((9 : Int32)).toNatClampNeg 0) ((2 : Int32)).toNatClampNeg 0) ((6 : Int32)).toNatClampNeg 0) ((10 : Int32)).toNatClampNeg 0) ((3 : Int32)).toNatClampNeg 0) ((7 : Int32)).toNatClampNeg 0) ((11 : Int32)).toNatClampNeg 0)))] := hD
  rw [upd_id (f := (s0)) (by decide +kernel)] at hP hD
  have hP : va_P D CL [(mo_, .inr (6, [.int 0, .ref ms, .ref mi, .int 0, .int 0, .int 0, .int 0, .int 0, .int 0, .ref mb, .ref mt, .ref ml, .ref mx, .int v1, .int v2, .int v3, .int v4, .int v5, .int v6, .ref mc, .int v7, .ref mn, .ref mp, .ref mo, .int 0, .int 0, .int 0, .int 0])), (ms, .inl (cI, 846, .inl (s0))), (mp, .inl (cI, 12, .inl (upd (upd (upd (upd (upd (upd (upd (upd (upd (upd (upd (upd fq ((0 : Int32)).toNatClampNeg 0) ((4 : Int32)).toNatClampNeg 0) ((8 : Int32)).toNatClampNeg 0) ((1 : Int32)).toNatClampNeg 0) ((5 : Int32)).toNatClampNeg 0) ((9 : Int32)).toNatClampNeg 0) ((2 : Int32)).toNatClampNeg 0) ((6 : Int32)).toNatClampNeg 0) ((10 : Int32)).toNatClampNeg 0) ((3 : Int32)).toNatClampNeg 0) ((7 : Int32)).toNatClampNeg 0) ((11 : Int32)).toNatClampNeg 0)))] H := hP
  have hD : va_D A [(mo_, .inr (6, [.int 0, .ref ms, .ref mi, .int 0, .int 0, .int 0, .int 0, .int 0, .int 0, .ref mb, .ref mt, .ref ml, .ref mx, .int v1, .int v2, .int v3, .int v4, .int v5, .int v6, .ref mc, .int v7, .ref mn, .ref mp, .ref mo, .int 0, .int 0, .int 0, .int 0])), (ms, .inl (cI, 846, .inl (s0))), (mp, .inl (cI, 12, .inl (upd (upd (upd (upd (upd (upd (upd (upd (upd (upd (upd (upd fq ((0 : Int32)).toNatClampNeg 0) ((4 : Int32)).toNatClampNeg 0) ((8 : Int32)).toNatClampNeg 0) ((1 : Int32)).toNatClampNeg 0) ((5 : Int32)).toNatClampNeg 0) ((9 : Int32)).toNatClampNeg 0) ((2 : Int32)).toNatClampNeg 0) ((6 : Int32)).toNatClampNeg 0) ((10 : Int32)).toNatClampNeg 0) ((3 : Int32)).toNatClampNeg 0) ((7 : Int32)).toNatClampNeg 0) ((11 : Int32)).toNatClampNeg 0)))] := hD
  refine lv_aload_n hx hb dX6_goesBack_39 rfl (lv_at hl 1 rfl) ?_
  refine va_get (ci := 6) (v := .ref ms) (C := RX6) (T := TX6) (N := 28) hx hb hT wu_X6 hown hK hP 0 rfl rfl 1 (by decide) (hT _ wf_X6_7) (fun _ h9 => h9) rfl dX6_goesBack_40 ?_
  refine lv_bipush (v := 118) hx hb dX6_goesBack_43 (by decide) ?_
  refine lv_iload_n hx hb dX6_goesBack_45 rfl (lv_at hl 0 rfl) ?_
  refine lv_iadd hx hb dX6_goesBack_46 ?_
  refine lv_ci 120 (by decide +kernel) ?_
  refine lv_aload_n hx hb dX6_goesBack_47 rfl (lv_at hl 1 rfl) ?_
  refine va_get (ci := 6) (v := .ref mp) (C := RX6) (T := TX6) (N := 28) hx hb hT wu_X6 hown hK hP 0 rfl rfl 22 (by decide) (hT _ wf_X6_35) (fun _ h9 => h9) rfl dX6_goesBack_48 ?_
  refine lv_bipush (v := 8) hx hb dX6_goesBack_51 (by decide) ?_
  refine lv_iload_n hx hb dX6_goesBack_53 rfl (lv_at hl 0 rfl) ?_
  refine lv_iadd hx hb dX6_goesBack_54 ?_
  refine lv_ci 10 (by decide +kernel) ?_
  refine va_iald hx hb hK hP 2 0 rfl rfl (vin _ _ (by decide +kernel)) dX6_goesBack_55 ?_
  refine lv_ci 0 ((pk_un (by decide +kernel)).trans ((pk_un (by decide +kernel)).trans ((pk_un (by decide +kernel)).trans (pk_us)))) ?_
  refine va_iast hx hb hK hP hD hS 1 0 rfl rfl (vin _ _ (by decide +kernel)) dX6_goesBack_56 (fun H locs hP hD hS => ?_)
  have hP : va_P D CL [(mo_, .inr (6, [.int 0, .ref ms, .ref mi, .int 0, .int 0, .int 0, .int 0, .int 0, .int 0, .ref mb, .ref mt, .ref ml, .ref mx, .int v1, .int v2, .int v3, .int v4, .int v5, .int v6, .ref mc, .int v7, .ref mn, .ref mp, .ref mo, .int 0, .int 0, .int 0, .int 0])), (ms, .inl (cI, 846, .inl (upd (s0) ((120 : Int32)).toNatClampNeg 0))), (mp, .inl (cI, 12, .inl (upd (upd (upd (upd (upd (upd (upd (upd (upd (upd (upd (upd fq ((0 : Int32)).toNatClampNeg 0) ((4 : Int32)).toNatClampNeg 0) ((8 : Int32)).toNatClampNeg 0) ((1 : Int32)).toNatClampNeg 0) ((5 : Int32)).toNatClampNeg 0) ((9 : Int32)).toNatClampNeg 0) ((2 : Int32)).toNatClampNeg 0) ((6 : Int32)).toNatClampNeg 0) ((10 : Int32)).toNatClampNeg 0) ((3 : Int32)).toNatClampNeg 0) ((7 : Int32)).toNatClampNeg 0) ((11 : Int32)).toNatClampNeg 0)))] H := hP
  have hD : va_D A [(mo_, .inr (6, [.int 0, .ref ms, .ref mi, .int 0, .int 0, .int 0, .int 0, .int 0, .int 0, .ref mb, .ref mt, .ref ml, .ref mx, .int v1, .int v2, .int v3, .int v4, .int v5, .int v6, .ref mc, .int v7, .ref mn, .ref mp, .ref mo, .int 0, .int 0, .int 0, .int 0])), (ms, .inl (cI, 846, .inl (upd (s0) ((120 : Int32)).toNatClampNeg 0))), (mp, .inl (cI, 12, .inl (upd (upd (upd (upd (upd (upd (upd (upd (upd (upd (upd (upd fq ((0 : Int32)).toNatClampNeg 0) ((4 : Int32)).toNatClampNeg 0) ((8 : Int32)).toNatClampNeg 0) ((1 : Int32)).toNatClampNeg 0) ((5 : Int32)).toNatClampNeg 0) ((9 : Int32)).toNatClampNeg 0) ((2 : Int32)).toNatClampNeg 0) ((6 : Int32)).toNatClampNeg 0) ((10 : Int32)).toNatClampNeg 0) ((3 : Int32)).toNatClampNeg 0) ((7 : Int32)).toNatClampNeg 0) ((11 : Int32)).toNatClampNeg 0)))] := hD
  rw [upd_id (f := (s0)) (by decide +kernel)] at hP hD
  have hP : va_P D CL [(mo_, .inr (6, [.int 0, .ref ms, .ref mi, .int 0, .int 0, .int 0, .int 0, .int 0, .int 0, .ref mb, .ref mt, .ref ml, .ref mx, .int v1, .int v2, .int v3, .int v4, .int v5, .int v6, .ref mc, .int v7, .ref mn, .ref mp, .ref mo, .int 0, .int 0, .int 0, .int 0])), (ms, .inl (cI, 846, .inl (s0))), (mp, .inl (cI, 12, .inl (upd (upd (upd (upd (upd (upd (upd (upd (upd (upd (upd (upd fq ((0 : Int32)).toNatClampNeg 0) ((4 : Int32)).toNatClampNeg 0) ((8 : Int32)).toNatClampNeg 0) ((1 : Int32)).toNatClampNeg 0) ((5 : Int32)).toNatClampNeg 0) ((9 : Int32)).toNatClampNeg 0) ((2 : Int32)).toNatClampNeg 0) ((6 : Int32)).toNatClampNeg 0) ((10 : Int32)).toNatClampNeg 0) ((3 : Int32)).toNatClampNeg 0) ((7 : Int32)).toNatClampNeg 0) ((11 : Int32)).toNatClampNeg 0)))] H := hP
  have hD : va_D A [(mo_, .inr (6, [.int 0, .ref ms, .ref mi, .int 0, .int 0, .int 0, .int 0, .int 0, .int 0, .ref mb, .ref mt, .ref ml, .ref mx, .int v1, .int v2, .int v3, .int v4, .int v5, .int v6, .ref mc, .int v7, .ref mn, .ref mp, .ref mo, .int 0, .int 0, .int 0, .int 0])), (ms, .inl (cI, 846, .inl (s0))), (mp, .inl (cI, 12, .inl (upd (upd (upd (upd (upd (upd (upd (upd (upd (upd (upd (upd fq ((0 : Int32)).toNatClampNeg 0) ((4 : Int32)).toNatClampNeg 0) ((8 : Int32)).toNatClampNeg 0) ((1 : Int32)).toNatClampNeg 0) ((5 : Int32)).toNatClampNeg 0) ((9 : Int32)).toNatClampNeg 0) ((2 : Int32)).toNatClampNeg 0) ((6 : Int32)).toNatClampNeg 0) ((10 : Int32)).toNatClampNeg 0) ((3 : Int32)).toNatClampNeg 0) ((7 : Int32)).toNatClampNeg 0) ((11 : Int32)).toNatClampNeg 0)))] := hD
  refine lv_iinc (v := 3) (lv' := [(1, .int 3), (0, .ref mo_)]) hx hb dX6_goesBack_57 hl (k := 0) rfl (by decide) (by decide) rfl (fun ls hl => ?_)
  refine lv_goto (tgt := 2) hx hb dX6_goesBack_60 (by decide) ?_
  refine lv_iload_n hx hb dX6_goesBack_2 rfl (lv_at hl 0 rfl) ?_
  refine lv_iconst (v := 4) hx hb dX6_goesBack_3 (by decide) ?_
  refine lv_icmp_ge (tgt := 63) hx hb dX6_goesBack_4 (by decide) (fun c_0 => absurd c_0 (by decide)) (fun _ => ?_)
  refine lv_aload_n hx hb dX6_goesBack_7 rfl (lv_at hl 1 rfl) ?_
  refine va_get (ci := 6) (v := .ref ms) (C := RX6) (T := TX6) (N := 28) hx hb hT wu_X6 hown hK hP 0 rfl rfl 1 (by decide) (hT _ wf_X6_7) (fun _ h9 => h9) rfl dX6_goesBack_8 ?_
  refine lv_bipush (v := 110) hx hb dX6_goesBack_11 (by decide) ?_
  refine lv_iload_n hx hb dX6_goesBack_13 rfl (lv_at hl 0 rfl) ?_
  refine lv_iadd hx hb dX6_goesBack_14 ?_
  refine lv_ci 113 (by decide +kernel) ?_
  refine lv_aload_n hx hb dX6_goesBack_15 rfl (lv_at hl 1 rfl) ?_
  refine va_get (ci := 6) (v := .ref mp) (C := RX6) (T := TX6) (N := 28) hx hb hT wu_X6 hown hK hP 0 rfl rfl 22 (by decide) (hT _ wf_X6_35) (fun _ h9 => h9) rfl dX6_goesBack_16 ?_
  refine lv_iload_n hx hb dX6_goesBack_19 rfl (lv_at hl 0 rfl) ?_
  refine va_iald hx hb hK hP 2 0 rfl rfl (vin _ _ (by decide +kernel)) dX6_goesBack_20 ?_
  refine lv_ci 0 ((pk_un (by decide +kernel)).trans ((pk_un (by decide +kernel)).trans (pk_us))) ?_
  refine va_iast hx hb hK hP hD hS 1 0 rfl rfl (vin _ _ (by decide +kernel)) dX6_goesBack_21 (fun H locs hP hD hS => ?_)
  have hP : va_P D CL [(mo_, .inr (6, [.int 0, .ref ms, .ref mi, .int 0, .int 0, .int 0, .int 0, .int 0, .int 0, .ref mb, .ref mt, .ref ml, .ref mx, .int v1, .int v2, .int v3, .int v4, .int v5, .int v6, .ref mc, .int v7, .ref mn, .ref mp, .ref mo, .int 0, .int 0, .int 0, .int 0])), (ms, .inl (cI, 846, .inl (upd (s0) ((113 : Int32)).toNatClampNeg 0))), (mp, .inl (cI, 12, .inl (upd (upd (upd (upd (upd (upd (upd (upd (upd (upd (upd (upd fq ((0 : Int32)).toNatClampNeg 0) ((4 : Int32)).toNatClampNeg 0) ((8 : Int32)).toNatClampNeg 0) ((1 : Int32)).toNatClampNeg 0) ((5 : Int32)).toNatClampNeg 0) ((9 : Int32)).toNatClampNeg 0) ((2 : Int32)).toNatClampNeg 0) ((6 : Int32)).toNatClampNeg 0) ((10 : Int32)).toNatClampNeg 0) ((3 : Int32)).toNatClampNeg 0) ((7 : Int32)).toNatClampNeg 0) ((11 : Int32)).toNatClampNeg 0)))] H := hP
  have hD : va_D A [(mo_, .inr (6, [.int 0, .ref ms, .ref mi, .int 0, .int 0, .int 0, .int 0, .int 0, .int 0, .ref mb, .ref mt, .ref ml, .ref mx, .int v1, .int v2, .int v3, .int v4, .int v5, .int v6, .ref mc, .int v7, .ref mn, .ref mp, .ref mo, .int 0, .int 0, .int 0, .int 0])), (ms, .inl (cI, 846, .inl (upd (s0) ((113 : Int32)).toNatClampNeg 0))), (mp, .inl (cI, 12, .inl (upd (upd (upd (upd (upd (upd (upd (upd (upd (upd (upd (upd fq ((0 : Int32)).toNatClampNeg 0) ((4 : Int32)).toNatClampNeg 0) ((8 : Int32)).toNatClampNeg 0) ((1 : Int32)).toNatClampNeg 0) ((5 : Int32)).toNatClampNeg 0) ((9 : Int32)).toNatClampNeg 0) ((2 : Int32)).toNatClampNeg 0) ((6 : Int32)).toNatClampNeg 0) ((10 : Int32)).toNatClampNeg 0) ((3 : Int32)).toNatClampNeg 0) ((7 : Int32)).toNatClampNeg 0) ((11 : Int32)).toNatClampNeg 0)))] := hD
  rw [upd_id (f := (s0)) (by decide +kernel)] at hP hD
  have hP : va_P D CL [(mo_, .inr (6, [.int 0, .ref ms, .ref mi, .int 0, .int 0, .int 0, .int 0, .int 0, .int 0, .ref mb, .ref mt, .ref ml, .ref mx, .int v1, .int v2, .int v3, .int v4, .int v5, .int v6, .ref mc, .int v7, .ref mn, .ref mp, .ref mo, .int 0, .int 0, .int 0, .int 0])), (ms, .inl (cI, 846, .inl (s0))), (mp, .inl (cI, 12, .inl (upd (upd (upd (upd (upd (upd (upd (upd (upd (upd (upd (upd fq ((0 : Int32)).toNatClampNeg 0) ((4 : Int32)).toNatClampNeg 0) ((8 : Int32)).toNatClampNeg 0) ((1 : Int32)).toNatClampNeg 0) ((5 : Int32)).toNatClampNeg 0) ((9 : Int32)).toNatClampNeg 0) ((2 : Int32)).toNatClampNeg 0) ((6 : Int32)).toNatClampNeg 0) ((10 : Int32)).toNatClampNeg 0) ((3 : Int32)).toNatClampNeg 0) ((7 : Int32)).toNatClampNeg 0) ((11 : Int32)).toNatClampNeg 0)))] H := hP
  have hD : va_D A [(mo_, .inr (6, [.int 0, .ref ms, .ref mi, .int 0, .int 0, .int 0, .int 0, .int 0, .int 0, .ref mb, .ref mt, .ref ml, .ref mx, .int v1, .int v2, .int v3, .int v4, .int v5, .int v6, .ref mc, .int v7, .ref mn, .ref mp, .ref mo, .int 0, .int 0, .int 0, .int 0])), (ms, .inl (cI, 846, .inl (s0))), (mp, .inl (cI, 12, .inl (upd (upd (upd (upd (upd (upd (upd (upd (upd (upd (upd (upd fq ((0 : Int32)).toNatClampNeg 0) ((4 : Int32)).toNatClampNeg 0) ((8 : Int32)).toNatClampNeg 0) ((1 : Int32)).toNatClampNeg 0) ((5 : Int32)).toNatClampNeg 0) ((9 : Int32)).toNatClampNeg 0) ((2 : Int32)).toNatClampNeg 0) ((6 : Int32)).toNatClampNeg 0) ((10 : Int32)).toNatClampNeg 0) ((3 : Int32)).toNatClampNeg 0) ((7 : Int32)).toNatClampNeg 0) ((11 : Int32)).toNatClampNeg 0)))] := hD
  refine lv_aload_n hx hb dX6_goesBack_22 rfl (lv_at hl 1 rfl) ?_
  refine va_get (ci := 6) (v := .ref ms) (C := RX6) (T := TX6) (N := 28) hx hb hT wu_X6 hown hK hP 0 rfl rfl 1 (by decide) (hT _ wf_X6_7) (fun _ h9 => h9) rfl dX6_goesBack_23 ?_
  refine lv_bipush (v := 114) hx hb dX6_goesBack_26 (by decide) ?_
  refine lv_iload_n hx hb dX6_goesBack_28 rfl (lv_at hl 0 rfl) ?_
  refine lv_iadd hx hb dX6_goesBack_29 ?_
  refine lv_ci 117 (by decide +kernel) ?_
  refine lv_aload_n hx hb dX6_goesBack_30 rfl (lv_at hl 1 rfl) ?_
  refine va_get (ci := 6) (v := .ref mp) (C := RX6) (T := TX6) (N := 28) hx hb hT wu_X6 hown hK hP 0 rfl rfl 22 (by decide) (hT _ wf_X6_35) (fun _ h9 => h9) rfl dX6_goesBack_31 ?_
  refine lv_iconst (v := 4) hx hb dX6_goesBack_34 (by decide) ?_
  refine lv_iload_n hx hb dX6_goesBack_35 rfl (lv_at hl 0 rfl) ?_
  refine lv_iadd hx hb dX6_goesBack_36 ?_
  refine lv_ci 7 (by decide +kernel) ?_
  refine va_iald hx hb hK hP 2 0 rfl rfl (vin _ _ (by decide +kernel)) dX6_goesBack_37 ?_
  refine lv_ci 0 ((pk_un (by decide +kernel)).trans (pk_us)) ?_
  refine va_iast hx hb hK hP hD hS 1 0 rfl rfl (vin _ _ (by decide +kernel)) dX6_goesBack_38 (fun H locs hP hD hS => ?_)
  have hP : va_P D CL [(mo_, .inr (6, [.int 0, .ref ms, .ref mi, .int 0, .int 0, .int 0, .int 0, .int 0, .int 0, .ref mb, .ref mt, .ref ml, .ref mx, .int v1, .int v2, .int v3, .int v4, .int v5, .int v6, .ref mc, .int v7, .ref mn, .ref mp, .ref mo, .int 0, .int 0, .int 0, .int 0])), (ms, .inl (cI, 846, .inl (upd (s0) ((117 : Int32)).toNatClampNeg 0))), (mp, .inl (cI, 12, .inl (upd (upd (upd (upd (upd (upd (upd (upd (upd (upd (upd (upd fq ((0 : Int32)).toNatClampNeg 0) ((4 : Int32)).toNatClampNeg 0) ((8 : Int32)).toNatClampNeg 0) ((1 : Int32)).toNatClampNeg 0) ((5 : Int32)).toNatClampNeg 0) ((9 : Int32)).toNatClampNeg 0) ((2 : Int32)).toNatClampNeg 0) ((6 : Int32)).toNatClampNeg 0) ((10 : Int32)).toNatClampNeg 0) ((3 : Int32)).toNatClampNeg 0) ((7 : Int32)).toNatClampNeg 0) ((11 : Int32)).toNatClampNeg 0)))] H := hP
  have hD : va_D A [(mo_, .inr (6, [.int 0, .ref ms, .ref mi, .int 0, .int 0, .int 0, .int 0, .int 0, .int 0, .ref mb, .ref mt, .ref ml, .ref mx, .int v1, .int v2, .int v3, .int v4, .int v5, .int v6, .ref mc, .int v7, .ref mn, .ref mp, .ref mo, .int 0, .int 0, .int 0, .int 0])), (ms, .inl (cI, 846, .inl (upd (s0) ((117 : Int32)).toNatClampNeg 0))), (mp, .inl (cI, 12, .inl (upd (upd (upd (upd (upd (upd (upd (upd (upd (upd (upd (upd fq ((0 : Int32)).toNatClampNeg 0) ((4 : Int32)).toNatClampNeg 0) ((8 : Int32)).toNatClampNeg 0) ((1 : Int32)).toNatClampNeg 0) ((5 : Int32)).toNatClampNeg 0) ((9 : Int32)).toNatClampNeg 0) ((2 : Int32)).toNatClampNeg 0) ((6 : Int32)).toNatClampNeg 0) ((10 : Int32)).toNatClampNeg 0) ((3 : Int32)).toNatClampNeg 0) ((7 : Int32)).toNatClampNeg 0) ((11 : Int32)).toNatClampNeg 0)))] := hD
  rw [upd_id (f := (s0)) (by decide +kernel)] at hP hD
  have hP : va_P D CL [(mo_, .inr (6, [.int 0, .ref ms, .ref mi, .int 0, .int 0, .int 0, .int 0, .int 0, .int 0, .ref mb, .ref mt, .ref ml, .ref mx, .int v1, .int v2, .int v3, .int v4, .int v5, .int v6, .ref mc, .int v7, .ref mn, .ref mp, .ref mo, .int 0, .int 0, .int 0, .int 0])), (ms, .inl (cI, 846, .inl (s0))), (mp, .inl (cI, 12, .inl (upd (upd (upd (upd (upd (upd (upd (upd (upd (upd (upd (upd fq ((0 : Int32)).toNatClampNeg 0) ((4 : Int32)).toNatClampNeg 0) ((8 : Int32)).toNatClampNeg 0) ((1 : Int32)).toNatClampNeg 0) ((5 : Int32)).toNatClampNeg 0) ((9 : Int32)).toNatClampNeg 0) ((2 : Int32)).toNatClampNeg 0) ((6 : Int32)).toNatClampNeg 0) ((10 : Int32)).toNatClampNeg 0) ((3 : Int32)).toNatClampNeg 0) ((7 : Int32)).toNatClampNeg 0) ((11 : Int32)).toNatClampNeg 0)))] H := hP
  have hD : va_D A [(mo_, .inr (6, [.int 0, .ref ms, .ref mi, .int 0, .int 0, .int 0, .int 0, .int 0, .int 0, .ref mb, .ref mt, .ref ml, .ref mx, .int v1, .int v2, .int v3, .int v4, .int v5, .int v6, .ref mc, .int v7, .ref mn, .ref mp, .ref mo, .int 0, .int 0, .int 0, .int 0])), (ms, .inl (cI, 846, .inl (s0))), (mp, .inl (cI, 12, .inl (upd (upd (upd (upd (upd (upd (upd (upd (upd (upd (upd (upd fq ((0 : Int32)).toNatClampNeg 0) ((4 : Int32)).toNatClampNeg 0) ((8 : Int32)).toNatClampNeg 0) ((1 : Int32)).toNatClampNeg 0) ((5 : Int32)).toNatClampNeg 0) ((9 : Int32)).toNatClampNeg 0) ((2 : Int32)).toNatClampNeg 0) ((6 : Int32)).toNatClampNeg 0) ((10 : Int32)).toNatClampNeg 0) ((3 : Int32)).toNatClampNeg 0) ((7 : Int32)).toNatClampNeg 0) ((11 : Int32)).toNatClampNeg 0)))] := hD
  refine lv_aload_n hx hb dX6_goesBack_39 rfl (lv_at hl 1 rfl) ?_
  refine va_get (ci := 6) (v := .ref ms) (C := RX6) (T := TX6) (N := 28) hx hb hT wu_X6 hown hK hP 0 rfl rfl 1 (by decide) (hT _ wf_X6_7) (fun _ h9 => h9) rfl dX6_goesBack_40 ?_
  refine lv_bipush (v := 118) hx hb dX6_goesBack_43 (by decide) ?_
  refine lv_iload_n hx hb dX6_goesBack_45 rfl (lv_at hl 0 rfl) ?_
  refine lv_iadd hx hb dX6_goesBack_46 ?_
  refine lv_ci 121 (by decide +kernel) ?_
  refine lv_aload_n hx hb dX6_goesBack_47 rfl (lv_at hl 1 rfl) ?_
  refine va_get (ci := 6) (v := .ref mp) (C := RX6) (T := TX6) (N := 28) hx hb hT wu_X6 hown hK hP 0 rfl rfl 22 (by decide) (hT _ wf_X6_35) (fun _ h9 => h9) rfl dX6_goesBack_48 ?_
  refine lv_bipush (v := 8) hx hb dX6_goesBack_51 (by decide) ?_
  refine lv_iload_n hx hb dX6_goesBack_53 rfl (lv_at hl 0 rfl) ?_
  refine lv_iadd hx hb dX6_goesBack_54 ?_
  refine lv_ci 11 (by decide +kernel) ?_
  refine va_iald hx hb hK hP 2 0 rfl rfl (vin _ _ (by decide +kernel)) dX6_goesBack_55 ?_
  refine lv_ci 0 (pk_us) ?_
  refine va_iast hx hb hK hP hD hS 1 0 rfl rfl (vin _ _ (by decide +kernel)) dX6_goesBack_56 (fun H locs hP hD hS => ?_)
  have hP : va_P D CL [(mo_, .inr (6, [.int 0, .ref ms, .ref mi, .int 0, .int 0, .int 0, .int 0, .int 0, .int 0, .ref mb, .ref mt, .ref ml, .ref mx, .int v1, .int v2, .int v3, .int v4, .int v5, .int v6, .ref mc, .int v7, .ref mn, .ref mp, .ref mo, .int 0, .int 0, .int 0, .int 0])), (ms, .inl (cI, 846, .inl (upd (s0) ((121 : Int32)).toNatClampNeg 0))), (mp, .inl (cI, 12, .inl (upd (upd (upd (upd (upd (upd (upd (upd (upd (upd (upd (upd fq ((0 : Int32)).toNatClampNeg 0) ((4 : Int32)).toNatClampNeg 0) ((8 : Int32)).toNatClampNeg 0) ((1 : Int32)).toNatClampNeg 0) ((5 : Int32)).toNatClampNeg 0) ((9 : Int32)).toNatClampNeg 0) ((2 : Int32)).toNatClampNeg 0) ((6 : Int32)).toNatClampNeg 0) ((10 : Int32)).toNatClampNeg 0) ((3 : Int32)).toNatClampNeg 0) ((7 : Int32)).toNatClampNeg 0) ((11 : Int32)).toNatClampNeg 0)))] H := hP
  have hD : va_D A [(mo_, .inr (6, [.int 0, .ref ms, .ref mi, .int 0, .int 0, .int 0, .int 0, .int 0, .int 0, .ref mb, .ref mt, .ref ml, .ref mx, .int v1, .int v2, .int v3, .int v4, .int v5, .int v6, .ref mc, .int v7, .ref mn, .ref mp, .ref mo, .int 0, .int 0, .int 0, .int 0])), (ms, .inl (cI, 846, .inl (upd (s0) ((121 : Int32)).toNatClampNeg 0))), (mp, .inl (cI, 12, .inl (upd (upd (upd (upd (upd (upd (upd (upd (upd (upd (upd (upd fq ((0 : Int32)).toNatClampNeg 0) ((4 : Int32)).toNatClampNeg 0) ((8 : Int32)).toNatClampNeg 0) ((1 : Int32)).toNatClampNeg 0) ((5 : Int32)).toNatClampNeg 0) ((9 : Int32)).toNatClampNeg 0) ((2 : Int32)).toNatClampNeg 0) ((6 : Int32)).toNatClampNeg 0) ((10 : Int32)).toNatClampNeg 0) ((3 : Int32)).toNatClampNeg 0) ((7 : Int32)).toNatClampNeg 0) ((11 : Int32)).toNatClampNeg 0)))] := hD
  rw [upd_id (f := (s0)) (by decide +kernel)] at hP hD
  have hP : va_P D CL [(mo_, .inr (6, [.int 0, .ref ms, .ref mi, .int 0, .int 0, .int 0, .int 0, .int 0, .int 0, .ref mb, .ref mt, .ref ml, .ref mx, .int v1, .int v2, .int v3, .int v4, .int v5, .int v6, .ref mc, .int v7, .ref mn, .ref mp, .ref mo, .int 0, .int 0, .int 0, .int 0])), (ms, .inl (cI, 846, .inl (s0))), (mp, .inl (cI, 12, .inl (upd (upd (upd (upd (upd (upd (upd (upd (upd (upd (upd (upd fq ((0 : Int32)).toNatClampNeg 0) ((4 : Int32)).toNatClampNeg 0) ((8 : Int32)).toNatClampNeg 0) ((1 : Int32)).toNatClampNeg 0) ((5 : Int32)).toNatClampNeg 0) ((9 : Int32)).toNatClampNeg 0) ((2 : Int32)).toNatClampNeg 0) ((6 : Int32)).toNatClampNeg 0) ((10 : Int32)).toNatClampNeg 0) ((3 : Int32)).toNatClampNeg 0) ((7 : Int32)).toNatClampNeg 0) ((11 : Int32)).toNatClampNeg 0)))] H := hP
  have hD : va_D A [(mo_, .inr (6, [.int 0, .ref ms, .ref mi, .int 0, .int 0, .int 0, .int 0, .int 0, .int 0, .ref mb, .ref mt, .ref ml, .ref mx, .int v1, .int v2, .int v3, .int v4, .int v5, .int v6, .ref mc, .int v7, .ref mn, .ref mp, .ref mo, .int 0, .int 0, .int 0, .int 0])), (ms, .inl (cI, 846, .inl (s0))), (mp, .inl (cI, 12, .inl (upd (upd (upd (upd (upd (upd (upd (upd (upd (upd (upd (upd fq ((0 : Int32)).toNatClampNeg 0) ((4 : Int32)).toNatClampNeg 0) ((8 : Int32)).toNatClampNeg 0) ((1 : Int32)).toNatClampNeg 0) ((5 : Int32)).toNatClampNeg 0) ((9 : Int32)).toNatClampNeg 0) ((2 : Int32)).toNatClampNeg 0) ((6 : Int32)).toNatClampNeg 0) ((10 : Int32)).toNatClampNeg 0) ((3 : Int32)).toNatClampNeg 0) ((7 : Int32)).toNatClampNeg 0) ((11 : Int32)).toNatClampNeg 0)))] := hD
  refine lv_iinc (v := 4) (lv' := [(1, .int 4), (0, .ref mo_)]) hx hb dX6_goesBack_57 hl (k := 0) rfl (by decide) (by decide) rfl (fun ls hl => ?_)
  refine lv_goto (tgt := 2) hx hb dX6_goesBack_60 (by decide) ?_
  refine lv_iload_n hx hb dX6_goesBack_2 rfl (lv_at hl 0 rfl) ?_
  refine lv_iconst (v := 4) hx hb dX6_goesBack_3 (by decide) ?_
  refine lv_icmp_ge (tgt := 63) hx hb dX6_goesBack_4 (by decide) (fun _ => ?_) (fun c_0 => absurd (by decide) c_0)
  exact retV C0 () trivial (hP.sub (ws' := [(mo_, .inr (6, [.int 0, .ref ms, .ref mi, .int 0, .int 0, .int 0, .int 0, .int 0, .int 0, .ref mb, .ref mt, .ref ml, .ref mx, .int v1, .int v2, .int v3, .int v4, .int v5, .int v6, .ref mc, .int v7, .ref mn, .ref mp, .ref mo, .int 0, .int 0, .int 0, .int 0])), (ms, .inl (cI, 846, .inl (s0))), (mp, .inl (cI, 12, .inl (upd (upd (upd (upd (upd (upd (upd (upd (upd (upd (upd (upd fq ((0 : Int32)).toNatClampNeg 0) ((4 : Int32)).toNatClampNeg 0) ((8 : Int32)).toNatClampNeg 0) ((1 : Int32)).toNatClampNeg 0) ((5 : Int32)).toNatClampNeg 0) ((9 : Int32)).toNatClampNeg 0) ((2 : Int32)).toNatClampNeg 0) ((6 : Int32)).toNatClampNeg 0) ((10 : Int32)).toNatClampNeg 0) ((3 : Int32)).toNatClampNeg 0) ((7 : Int32)).toNatClampNeg 0) ((11 : Int32)).toNatClampNeg 0)))]) [0, 1, 2] rfl) (hD.sub (ws' := [(mo_, .inr (6, [.int 0, .ref ms, .ref mi, .int 0, .int 0, .int 0, .int 0, .int 0, .int 0, .ref mb, .ref mt, .ref ml, .ref mx, .int v1, .int v2, .int v3, .int v4, .int v5, .int v6, .ref mc, .int v7, .ref mn, .ref mp, .ref mo, .int 0, .int 0, .int 0, .int 0])), (ms, .inl (cI, 846, .inl (s0))), (mp, .inl (cI, 12, .inl (upd (upd (upd (upd (upd (upd (upd (upd (upd (upd (upd (upd fq ((0 : Int32)).toNatClampNeg 0) ((4 : Int32)).toNatClampNeg 0) ((8 : Int32)).toNatClampNeg 0) ((1 : Int32)).toNatClampNeg 0) ((5 : Int32)).toNatClampNeg 0) ((9 : Int32)).toNatClampNeg 0) ((2 : Int32)).toNatClampNeg 0) ((6 : Int32)).toNatClampNeg 0) ((10 : Int32)).toNatClampNeg 0) ((3 : Int32)).toNatClampNeg 0) ((7 : Int32)).toNatClampNeg 0) ((11 : Int32)).toNatClampNeg 0)))]) [0, 1, 2] (by decide) rfl) hS (Nat.le_of_ble_eq_true rfl) (Nat.le_of_ble_eq_true rfl) dX6_goesBack_63

set_option maxHeartbeats 4000000 in
set_option maxRecDepth 100000 in
theorem m_sure (l : Launch) (D : va_G) (cI cZ cQ cT : ClassId) (sz : Nat) (mo_ : Nat) (ms : Nat) (mi : Nat) (mb : Nat) (mt : Nat) (ml : Nat) (mx : Nat) (mc : Nat) (mn : Nat) (mp : Nat) (mo : Nat) (fq : Nat → Int32)  : MetI l yX6_sure cX6_sure 6 .int ({ frames := 3, cells := 0, slots := 0, locals := 67 } : Room) [.ref mo_] D (TYS cI cZ cQ cT) EF sz [(mo_, .inr (6, [.int 0, .ref ms, .ref mi, .int 0, .int 0, .int 0, .int 0, .int 0, .int 0, .ref mb, .ref mt, .ref ml, .ref mx, .int 0, .int 0, .int 0, .int 0, .int 0, .int 0, .ref mc, .int 0, .ref mn, .ref mp, .ref mo, .int 0, .int 0, .int 0, .int 0])), (ms, .inl (cI, 846, .inl (s0))), (mp, .inl (cI, 12, .inl fq))] (S := Unit) (fun (r : Int32) (_ : Unit) => r = 0) (fun _ => []) := by
  refine MetI.mk (lv := [(0, .ref mo_)]) (by decide +kernel) (Nat.le_of_ble_eq_true rfl) rfl ?_
  intro p e s m below meth c A ls C0 hP hD hS hX hl
  have C1 := C0
  obtain ⟨hx, hb, hr, hml, hown, hlocks, hname, hT, hN, hK, hA⟩ := C1
  refine lv_aload_n hx hb dX6_sure_0 rfl (lv_at hl 0 rfl) ?_
  refine contV (wc := [(mo_, .inr (6, [.int 0, .ref ms, .ref mi, .int 0, .int 0, .int 0, .int 0, .int 0, .int 0, .ref mb, .ref mt, .ref ml, .ref mx, .int 0, .int 0, .int 0, .int 0, .int 0, .int 0, .ref mc, .int 0, .ref mn, .ref mp, .ref mo, .int 0, .int 0, .int 0, .int 0])), (ms, .inl (cI, 846, .inl (s0)))]) (wr := [(mp, .inl (cI, 12, .inl fq))]) C0 hP hD hS [0, 1] [2] rfl rfl (by decide) (by decide) 0 0 (Nat.le_of_ble_eq_true rfl) (Nat.le_of_ble_eq_true rfl) (runV (k := 0) (As := []) (rest := []) C0 (m_looksThrough l D cI cZ cQ cT _ mo_ ms mi mb mt ml mx 0 0 0 0 0 0 mc 0 mn mp mo) wc_X6_looksThrough wl_X6_208 wi_X6_looksThrough we_X6_looksThrough wz_X6 ⟨by decide, by decide, by decide +kernel⟩ ⟨(Nat.le_of_ble_eq_true rfl), (Nat.le_of_ble_eq_true rfl)⟩ hP hD hS EF.ok hX [0, 1] rfl (by decide) 0 rfl rfl rfl rfl hl.1 rfl (Nat.le_of_ble_eq_true rfl) dX6_sure_1 ⟨(Nat.le_of_ble_eq_true rfl), (Nat.le_of_ble_eq_true rfl)⟩) (fun u_2 H locs w_3 hP hD hS => ?_)
  obtain ⟨w1_1, rfl⟩ : ∃ z, z = u_2 := ⟨_, rfl⟩
  have hP : va_P D CL [(mp, .inl (cI, 12, .inl fq)), (mo_, .inr (6, [.int 0, .ref ms, .ref mi, .int 0, .int 0, .int 0, .int 0, .int 0, .int 0, .ref mb, .ref mt, .ref ml, .ref mx, .int w1_1, .int 1, .int 0, .int 0, .int 0, .int 0, .ref mc, .int 0, .ref mn, .ref mp, .ref mo, .int 0, .int 0, .int 0, .int 0])), (ms, .inl (cI, 846, .inl (s0)))] H := hP
  have hD : va_D A [(mp, .inl (cI, 12, .inl fq)), (mo_, .inr (6, [.int 0, .ref ms, .ref mi, .int 0, .int 0, .int 0, .int 0, .int 0, .int 0, .ref mb, .ref mt, .ref ml, .ref mx, .int w1_1, .int 1, .int 0, .int 0, .int 0, .int 0, .ref mc, .int 0, .ref mn, .ref mp, .ref mo, .int 0, .int 0, .int 0, .int 0])), (ms, .inl (cI, 846, .inl (s0)))] := hD
  refine lv_aload_n hx hb dX6_sure_4 rfl (lv_at hl 0 rfl) ?_
  refine va_get (ci := 6) (v := .int 1) (C := RX6) (T := TX6) (N := 28) hx hb hT wu_X6 hown hK hP 1 rfl rfl 14 (by decide) (hT _ wf_X6_190) (fun _ h9 => h9) rfl dX6_sure_5 ?_
  refine lv_if_ne (tgt := 14) hx hb dX6_sure_8 (by decide) (fun _ => ?_) (fun c_0 => absurd c_0 (by decide))
  refine lv_aload_n hx hb dX6_sure_14 rfl (lv_at hl 0 rfl) ?_
  refine va_get (ci := 6) (v := .int 0) (C := RX6) (T := TX6) (N := 28) hx hb hT wu_X6 hown hK hP 1 rfl rfl 17 (by decide) (hT _ wf_X6_199) (fun _ h9 => h9) rfl dX6_sure_15 ?_
  refine lv_istore_n (lv' := [(1, .int 0), (0, .ref mo_)]) hx hb dX6_sure_18 rfl hl (by decide) rfl (fun ls hl => ?_)
  refine lv_bipush (v := (-5)) hx hb dX6_sure_19 (by decide) ?_
  refine lv_istore_n (lv' := [(2, .int (-5)), (1, .int 0), (0, .ref mo_)]) hx hb dX6_sure_21 rfl hl (by decide) rfl (fun ls hl => ?_)
  refine lv_aload_n hx hb dX6_sure_22 rfl (lv_at hl 2 rfl) ?_
  refine contV (wc := [(mo_, .inr (6, [.int 0, .ref ms, .ref mi, .int 0, .int 0, .int 0, .int 0, .int 0, .int 0, .ref mb, .ref mt, .ref ml, .ref mx, .int w1_1, .int 1, .int 0, .int 0, .int 0, .int 0, .ref mc, .int 0, .ref mn, .ref mp, .ref mo, .int 0, .int 0, .int 0, .int 0])), (ms, .inl (cI, 846, .inl (s0))), (mp, .inl (cI, 12, .inl fq))]) (wr := []) C0 hP hD hS [1, 2, 0] [] rfl rfl (by decide) (by decide) 0 0 (Nat.le_of_ble_eq_true rfl) (Nat.le_of_ble_eq_true rfl) (runV (k := 0) (As := []) (rest := []) C0 (m_keeps l D cI cZ cQ cT _ mo_ ms mi mb mt ml mx w1_1 1 0 0 0 0 mc 0 mn mp mo fq) wc_X6_keeps wl_X6_220 wi_X6_keeps we_X6_keeps wz_X6 ⟨by decide, by decide, by decide +kernel⟩ ⟨(Nat.le_of_ble_eq_true rfl), (Nat.le_of_ble_eq_true rfl)⟩ hP hD hS EF.ok hX [1, 2, 0] rfl (by decide) 1 rfl rfl rfl rfl hl.1 rfl (Nat.le_of_ble_eq_true rfl) dX6_sure_23 ⟨(Nat.le_of_ble_eq_true rfl), (Nat.le_of_ble_eq_true rfl)⟩) (fun u_5 H locs w_6 hP hD hS => ?_)
  have hP : va_P D CL [(mo_, .inr (6, [.int 0, .ref ms, .ref mi, .int 0, .int 0, .int 0, .int 0, .int 0, .int 0, .ref mb, .ref mt, .ref ml, .ref mx, .int w1_1, .int 1, .int 0, .int 0, .int 0, .int 0, .ref mc, .int 0, .ref mn, .ref mp, .ref mo, .int 0, .int 0, .int 0, .int 0])), (ms, .inl (cI, 846, .inl (s0))), (mp, .inl (cI, 12, .inl (upd (upd (upd (upd (upd (upd (upd (upd (upd (upd (upd (upd fq ((0 : Int32)).toNatClampNeg 0) ((4 : Int32)).toNatClampNeg 0) ((8 : Int32)).toNatClampNeg 0) ((1 : Int32)).toNatClampNeg 0) ((5 : Int32)).toNatClampNeg 0) ((9 : Int32)).toNatClampNeg 0) ((2 : Int32)).toNatClampNeg 0) ((6 : Int32)).toNatClampNeg 0) ((10 : Int32)).toNatClampNeg 0) ((3 : Int32)).toNatClampNeg 0) ((7 : Int32)).toNatClampNeg 0) ((11 : Int32)).toNatClampNeg 0)))] H := hP
  have hD : va_D A [(mo_, .inr (6, [.int 0, .ref ms, .ref mi, .int 0, .int 0, .int 0, .int 0, .int 0, .int 0, .ref mb, .ref mt, .ref ml, .ref mx, .int w1_1, .int 1, .int 0, .int 0, .int 0, .int 0, .ref mc, .int 0, .ref mn, .ref mp, .ref mo, .int 0, .int 0, .int 0, .int 0])), (ms, .inl (cI, 846, .inl (s0))), (mp, .inl (cI, 12, .inl (upd (upd (upd (upd (upd (upd (upd (upd (upd (upd (upd (upd fq ((0 : Int32)).toNatClampNeg 0) ((4 : Int32)).toNatClampNeg 0) ((8 : Int32)).toNatClampNeg 0) ((1 : Int32)).toNatClampNeg 0) ((5 : Int32)).toNatClampNeg 0) ((9 : Int32)).toNatClampNeg 0) ((2 : Int32)).toNatClampNeg 0) ((6 : Int32)).toNatClampNeg 0) ((10 : Int32)).toNatClampNeg 0) ((3 : Int32)).toNatClampNeg 0) ((7 : Int32)).toNatClampNeg 0) ((11 : Int32)).toNatClampNeg 0)))] := hD
  refine lv_iconst (v := 0) hx hb dX6_sure_26 (by decide) ?_
  refine lv_istore_n (lv' := [(3, .int 0), (2, .int (-5)), (1, .int 0), (0, .ref mo_)]) hx hb dX6_sure_27 rfl hl (by decide) rfl (fun ls hl => ?_)
  refine lv_iload_n hx hb dX6_sure_28 rfl (lv_at hl 0 rfl) ?_
  refine lv_iconst (v := 1) hx hb dX6_sure_29 (by decide) ?_
  refine lv_aload_n hx hb dX6_sure_30 rfl (lv_at hl 3 rfl) ?_
  refine va_get (ci := 6) (v := .ref ms) (C := RX6) (T := TX6) (N := 28) hx hb hT wu_X6 hown hK hP 0 rfl rfl 1 (by decide) (hT _ wf_X6_7) (fun _ h9 => h9) rfl dX6_sure_31 ?_
  refine lv_iconst (v := 0) hx hb dX6_sure_34 (by decide) ?_
  refine va_iald hx hb hK hP 1 0 rfl rfl (vin _ _ (by decide +kernel)) dX6_sure_35 ?_
  refine lv_ci 0 (by decide +kernel) ?_
  refine lv_ishl hx hb dX6_sure_36 ?_
  refine lv_ci 1 (by decide +kernel) ?_
  refine lv_icmp_ge (tgt := 182) hx hb dX6_sure_37 (by decide) (fun c_0 => absurd c_0 (by decide)) (fun _ => ?_)
  refine lv_iload_n hx hb dX6_sure_40 rfl (lv_at hl 1 rfl) ?_
  refine lv_bipush (v := (-5)) hx hb dX6_sure_41 (by decide) ?_
  refine lv_icmp_eq (tgt := 57) hx hb dX6_sure_43 (by decide) (fun _ => ?_) (fun c_0 => absurd (by decide) c_0)
  refine lv_iconst (v := 0) hx hb dX6_sure_57 (by decide) ?_
  refine lv_istore (lv' := [(4, .int 0), (3, .int 0), (2, .int (-5)), (1, .int 0), (0, .ref mo_)]) hx hb dX6_sure_58 hl (by decide) rfl (fun ls hl => ?_)
  refine lv_iload hx hb dX6_sure_60 (lv_at hl 0 rfl) ?_
  refine lv_aload_n hx hb dX6_sure_62 rfl (lv_at hl 4 rfl) ?_
  refine va_get (ci := 6) (v := .ref ms) (C := RX6) (T := TX6) (N := 28) hx hb hT wu_X6 hown hK hP 0 rfl rfl 1 (by decide) (hT _ wf_X6_7) (fun _ h9 => h9) rfl dX6_sure_63 ?_
  refine lv_iconst (v := 0) hx hb dX6_sure_66 (by decide) ?_
  refine va_iald hx hb hK hP 1 0 rfl rfl (vin _ _ (by decide +kernel)) dX6_sure_67 ?_
  refine lv_ci 0 (by decide +kernel) ?_
  refine lv_icmp_ge (tgt := 158) hx hb dX6_sure_68 (by decide) (fun _ => ?_) (fun c_0 => absurd (by decide) c_0)
  refine lv_aload_n hx hb dX6_sure_158 rfl (lv_at hl 4 rfl) ?_
  refine contV (wc := [(mo_, .inr (6, [.int 0, .ref ms, .ref mi, .int 0, .int 0, .int 0, .int 0, .int 0, .int 0, .ref mb, .ref mt, .ref ml, .ref mx, .int w1_1, .int 1, .int 0, .int 0, .int 0, .int 0, .ref mc, .int 0, .ref mn, .ref mp, .ref mo, .int 0, .int 0, .int 0, .int 0])), (ms, .inl (cI, 846, .inl (s0)))]) (wr := [(mp, .inl (cI, 12, .inl (upd (upd (upd (upd (upd (upd (upd (upd (upd (upd (upd (upd fq ((0 : Int32)).toNatClampNeg 0) ((4 : Int32)).toNatClampNeg 0) ((8 : Int32)).toNatClampNeg 0) ((1 : Int32)).toNatClampNeg 0) ((5 : Int32)).toNatClampNeg 0) ((9 : Int32)).toNatClampNeg 0) ((2 : Int32)).toNatClampNeg 0) ((6 : Int32)).toNatClampNeg 0) ((10 : Int32)).toNatClampNeg 0) ((3 : Int32)).toNatClampNeg 0) ((7 : Int32)).toNatClampNeg 0) ((11 : Int32)).toNatClampNeg 0)))]) C0 hP hD hS [0, 1] [2] rfl rfl (by decide) (by decide) 0 0 (Nat.le_of_ble_eq_true rfl) (Nat.le_of_ble_eq_true rfl) (runV (k := 0) (As := []) (rest := []) C0 (m_looksThrough l D cI cZ cQ cT _ mo_ ms mi mb mt ml mx w1_1 1 0 0 0 0 mc 0 mn mp mo) wc_X6_looksThrough wl_X6_208 wi_X6_looksThrough we_X6_looksThrough wz_X6 ⟨by decide, by decide, by decide +kernel⟩ ⟨(Nat.le_of_ble_eq_true rfl), (Nat.le_of_ble_eq_true rfl)⟩ hP hD hS EF.ok hX [0, 1] rfl (by decide) 0 rfl rfl rfl rfl hl.1 rfl (Nat.le_of_ble_eq_true rfl) dX6_sure_159 ⟨(Nat.le_of_ble_eq_true rfl), (Nat.le_of_ble_eq_true rfl)⟩) (fun u_9 H locs w_10 hP hD hS => ?_)
  obtain ⟨w1_8, rfl⟩ : ∃ z, z = u_9 := ⟨_, rfl⟩
  have hP : va_P D CL [(mp, .inl (cI, 12, .inl (upd (upd (upd (upd (upd (upd (upd (upd (upd (upd (upd (upd fq ((0 : Int32)).toNatClampNeg 0) ((4 : Int32)).toNatClampNeg 0) ((8 : Int32)).toNatClampNeg 0) ((1 : Int32)).toNatClampNeg 0) ((5 : Int32)).toNatClampNeg 0) ((9 : Int32)).toNatClampNeg 0) ((2 : Int32)).toNatClampNeg 0) ((6 : Int32)).toNatClampNeg 0) ((10 : Int32)).toNatClampNeg 0) ((3 : Int32)).toNatClampNeg 0) ((7 : Int32)).toNatClampNeg 0) ((11 : Int32)).toNatClampNeg 0))), (mo_, .inr (6, [.int 0, .ref ms, .ref mi, .int 0, .int 0, .int 0, .int 0, .int 0, .int 0, .ref mb, .ref mt, .ref ml, .ref mx, .int w1_8, .int 1, .int 0, .int 0, .int 0, .int 0, .ref mc, .int 0, .ref mn, .ref mp, .ref mo, .int 0, .int 0, .int 0, .int 0])), (ms, .inl (cI, 846, .inl (s0)))] H := hP
  have hD : va_D A [(mp, .inl (cI, 12, .inl (upd (upd (upd (upd (upd (upd (upd (upd (upd (upd (upd (upd fq ((0 : Int32)).toNatClampNeg 0) ((4 : Int32)).toNatClampNeg 0) ((8 : Int32)).toNatClampNeg 0) ((1 : Int32)).toNatClampNeg 0) ((5 : Int32)).toNatClampNeg 0) ((9 : Int32)).toNatClampNeg 0) ((2 : Int32)).toNatClampNeg 0) ((6 : Int32)).toNatClampNeg 0) ((10 : Int32)).toNatClampNeg 0) ((3 : Int32)).toNatClampNeg 0) ((7 : Int32)).toNatClampNeg 0) ((11 : Int32)).toNatClampNeg 0))), (mo_, .inr (6, [.int 0, .ref ms, .ref mi, .int 0, .int 0, .int 0, .int 0, .int 0, .int 0, .ref mb, .ref mt, .ref ml, .ref mx, .int w1_8, .int 1, .int 0, .int 0, .int 0, .int 0, .ref mc, .int 0, .ref mn, .ref mp, .ref mo, .int 0, .int 0, .int 0, .int 0])), (ms, .inl (cI, 846, .inl (s0)))] := hD
  refine lv_aload_n hx hb dX6_sure_162 rfl (lv_at hl 4 rfl) ?_
  refine va_get (ci := 6) (v := .int 1) (C := RX6) (T := TX6) (N := 28) hx hb hT wu_X6 hown hK hP 1 rfl rfl 14 (by decide) (hT _ wf_X6_190) (fun _ h9 => h9) rfl dX6_sure_163 ?_
  refine lv_iconst (v := 1) hx hb dX6_sure_166 (by decide) ?_
  refine lv_icmp_ne (tgt := 174) hx hb dX6_sure_167 (by decide) (fun c_0 => absurd (by decide) c_0) (fun _ => ?_)
  refine lv_iload_n hx hb dX6_sure_170 rfl (lv_at hl 1 rfl) ?_
  refine lv_goto (tgt := 175) hx hb dX6_sure_171 (by decide) ?_
  refine lv_istore_n (lv' := [(2, .int 0), (4, .int 0), (3, .int 0), (1, .int 0), (0, .ref mo_)]) hx hb dX6_sure_175 rfl hl (by decide) rfl (fun ls hl => ?_)
  refine lv_iinc (v := 1) (lv' := [(3, .int 1), (2, .int 0), (4, .int 0), (1, .int 0), (0, .ref mo_)]) hx hb dX6_sure_176 hl (k := 2) rfl (by decide) (by decide) rfl (fun ls hl => ?_)
  refine lv_goto (tgt := 28) hx hb dX6_sure_179 (by decide) ?_
  refine lv_iload_n hx hb dX6_sure_28 rfl (lv_at hl 0 rfl) ?_
  refine lv_iconst (v := 1) hx hb dX6_sure_29 (by decide) ?_
  refine lv_aload_n hx hb dX6_sure_30 rfl (lv_at hl 4 rfl) ?_
  refine va_get (ci := 6) (v := .ref ms) (C := RX6) (T := TX6) (N := 28) hx hb hT wu_X6 hown hK hP 1 rfl rfl 1 (by decide) (hT _ wf_X6_7) (fun _ h9 => h9) rfl dX6_sure_31 ?_
  refine lv_iconst (v := 0) hx hb dX6_sure_34 (by decide) ?_
  refine va_iald hx hb hK hP 2 0 rfl rfl (vin _ _ (by decide +kernel)) dX6_sure_35 ?_
  refine lv_ci 0 (by decide +kernel) ?_
  refine lv_ishl hx hb dX6_sure_36 ?_
  refine lv_ci 1 (by decide +kernel) ?_
  refine lv_icmp_ge (tgt := 182) hx hb dX6_sure_37 (by decide) (fun _ => ?_) (fun c_0 => absurd (by decide) c_0)
  refine lv_aload_n hx hb dX6_sure_182 rfl (lv_at hl 4 rfl) ?_
  refine contV (wc := [(mo_, .inr (6, [.int 0, .ref ms, .ref mi, .int 0, .int 0, .int 0, .int 0, .int 0, .int 0, .ref mb, .ref mt, .ref ml, .ref mx, .int w1_8, .int 1, .int 0, .int 0, .int 0, .int 0, .ref mc, .int 0, .ref mn, .ref mp, .ref mo, .int 0, .int 0, .int 0, .int 0])), (ms, .inl (cI, 846, .inl (s0))), (mp, .inl (cI, 12, .inl (upd (upd (upd (upd (upd (upd (upd (upd (upd (upd (upd (upd fq ((0 : Int32)).toNatClampNeg 0) ((4 : Int32)).toNatClampNeg 0) ((8 : Int32)).toNatClampNeg 0) ((1 : Int32)).toNatClampNeg 0) ((5 : Int32)).toNatClampNeg 0) ((9 : Int32)).toNatClampNeg 0) ((2 : Int32)).toNatClampNeg 0) ((6 : Int32)).toNatClampNeg 0) ((10 : Int32)).toNatClampNeg 0) ((3 : Int32)).toNatClampNeg 0) ((7 : Int32)).toNatClampNeg 0) ((11 : Int32)).toNatClampNeg 0)))]) (wr := []) C0 hP hD hS [1, 2, 0] [] rfl rfl (by decide) (by decide) 0 0 (Nat.le_of_ble_eq_true rfl) (Nat.le_of_ble_eq_true rfl) (runV (k := 0) (As := []) (rest := []) C0 (m_goesBack l D cI cZ cQ cT _ mo_ ms mi mb mt ml mx w1_8 1 0 0 0 0 mc 0 mn mp mo fq) wc_X6_goesBack wl_X6_226 wi_X6_goesBack we_X6_goesBack wz_X6 ⟨by decide, by decide, by decide +kernel⟩ ⟨(Nat.le_of_ble_eq_true rfl), (Nat.le_of_ble_eq_true rfl)⟩ hP hD hS EF.ok hX [1, 2, 0] rfl (by decide) 1 rfl rfl rfl rfl hl.1 rfl (Nat.le_of_ble_eq_true rfl) dX6_sure_183 ⟨(Nat.le_of_ble_eq_true rfl), (Nat.le_of_ble_eq_true rfl)⟩) (fun u_12 H locs w_13 hP hD hS => ?_)
  have hP : va_P D CL [(mo_, .inr (6, [.int 0, .ref ms, .ref mi, .int 0, .int 0, .int 0, .int 0, .int 0, .int 0, .ref mb, .ref mt, .ref ml, .ref mx, .int w1_8, .int 1, .int 0, .int 0, .int 0, .int 0, .ref mc, .int 0, .ref mn, .ref mp, .ref mo, .int 0, .int 0, .int 0, .int 0])), (ms, .inl (cI, 846, .inl (s0))), (mp, .inl (cI, 12, .inl (upd (upd (upd (upd (upd (upd (upd (upd (upd (upd (upd (upd fq ((0 : Int32)).toNatClampNeg 0) ((4 : Int32)).toNatClampNeg 0) ((8 : Int32)).toNatClampNeg 0) ((1 : Int32)).toNatClampNeg 0) ((5 : Int32)).toNatClampNeg 0) ((9 : Int32)).toNatClampNeg 0) ((2 : Int32)).toNatClampNeg 0) ((6 : Int32)).toNatClampNeg 0) ((10 : Int32)).toNatClampNeg 0) ((3 : Int32)).toNatClampNeg 0) ((7 : Int32)).toNatClampNeg 0) ((11 : Int32)).toNatClampNeg 0)))] H := hP
  have hD : va_D A [(mo_, .inr (6, [.int 0, .ref ms, .ref mi, .int 0, .int 0, .int 0, .int 0, .int 0, .int 0, .ref mb, .ref mt, .ref ml, .ref mx, .int w1_8, .int 1, .int 0, .int 0, .int 0, .int 0, .ref mc, .int 0, .ref mn, .ref mp, .ref mo, .int 0, .int 0, .int 0, .int 0])), (ms, .inl (cI, 846, .inl (s0))), (mp, .inl (cI, 12, .inl (upd (upd (upd (upd (upd (upd (upd (upd (upd (upd (upd (upd fq ((0 : Int32)).toNatClampNeg 0) ((4 : Int32)).toNatClampNeg 0) ((8 : Int32)).toNatClampNeg 0) ((1 : Int32)).toNatClampNeg 0) ((5 : Int32)).toNatClampNeg 0) ((9 : Int32)).toNatClampNeg 0) ((2 : Int32)).toNatClampNeg 0) ((6 : Int32)).toNatClampNeg 0) ((10 : Int32)).toNatClampNeg 0) ((3 : Int32)).toNatClampNeg 0) ((7 : Int32)).toNatClampNeg 0) ((11 : Int32)).toNatClampNeg 0)))] := hD
  refine lv_iload_n hx hb dX6_sure_186 rfl (lv_at hl 1 rfl) ?_
  exact retI C0 rfl () rfl (hP.sub (ws' := []) [] rfl) (hD.sub (ws' := []) [] (by decide) rfl) hS (Nat.le_of_ble_eq_true rfl) (Nat.le_of_ble_eq_true rfl) dX6_sure_187

set_option maxHeartbeats 4000000 in
set_option maxRecDepth 100000 in
theorem m_year (l : Launch) (D : va_G) (cI cZ cQ cT : ClassId) (sz : Nat) (mo_ : Nat) (p1 : Int32) (p2 : Int32) (ms : Nat) (mi : Nat) (mb : Nat) (mt : Nat) (ml : Nat) (mx : Nat) (mc : Nat) (mn : Nat) (mp : Nat) (mo : Nat) (fn : Nat → Int32)  : MetI l yX6_year cX6_year 8 .int ({ frames := 4, cells := 0, slots := 0, locals := 91 } : Room) [.ref mo_, .int p1, .int p2] D (TYS cI cZ cQ cT) EF sz [(mo_, .inr (6, [.int 0, .ref ms, .ref mi, .int 0, .int 0, .int 0, .int 0, .int 0, .int 0, .ref mb, .ref mt, .ref ml, .ref mx, .int 0, .int 0, .int 0, .int 0, .int 0, .int 0, .ref mc, .int 0, .ref mn, .ref mp, .ref mo, .int 0, .int 0, .int 0, .int 0])), (ms, .inl (cI, 846, .inl (s0))), (mn, .inl (cI, 4, .inl fn))] (S := Unit) (fun (r : Int32) (_ : Unit) => r = (if ((0 : Int32) ≤ p2 ∧ p2 ≤ (1 : Int32)) then (if ((1 : Int32) ≤ p1 ∧ p1 ≤ (30 : Int32)) then (if p2 = (0 : Int32) then 0 else 0) else (-10002)) else (-10001))) (fun _ => []) := by
  refine MetI.mk (lv := [(0, .ref mo_), (1, .int p1), (2, .int p2)]) (by decide +kernel) (Nat.le_of_ble_eq_true rfl) rfl ?_
  intro p e s m below meth c A ls C0 hP hD hS hX hl
  have C1 := C0
  obtain ⟨hx, hb, hr, hml, hown, hlocks, hname, hT, hN, hK, hA⟩ := C1
  refine lv_iload_n hx hb dX6_year_0 rfl (lv_at hl 2 rfl) ?_
  refine lv_iconst (v := 0) hx hb dX6_year_1 (by decide) ?_
  refine lv_iconst (v := 1) hx hb dX6_year_2 (by decide) ?_
  refine contI (wc := []) (wr := [(mo_, .inr (6, [.int 0, .ref ms, .ref mi, .int 0, .int 0, .int 0, .int 0, .int 0, .int 0, .ref mb, .ref mt, .ref ml, .ref mx, .int 0, .int 0, .int 0, .int 0, .int 0, .int 0, .ref mc, .int 0, .ref mn, .ref mp, .ref mo, .int 0, .int 0, .int 0, .int 0])), (ms, .inl (cI, 846, .inl (s0))), (mn, .inl (cI, 4, .inl fn))]) C0 hP hD hS [] [0, 1, 2] rfl rfl (by decide) (by decide) 0 0 (Nat.le_of_ble_eq_true rfl) (Nat.le_of_ble_eq_true rfl) (runS (k := 3) (As := [.int p2, .int 0, .int 1]) (rest := []) C0 (mc_in l D cI cZ cQ cT _ p2 0 1) wc_X6_in wl_X6_45 wt_X6_in wz_X6 ⟨by decide, by decide, by decide +kernel⟩ ⟨(Nat.le_of_ble_eq_true rfl), (Nat.le_of_ble_eq_true rfl)⟩ hP hD hS EF.ok hX [] rfl (by decide) rfl hl.1 rfl (Nat.le_of_ble_eq_true rfl) dX6_year_3 ⟨(Nat.le_of_ble_eq_true rfl), (Nat.le_of_ble_eq_true rfl)⟩) (fun r_3 u_1 H locs w_2 hP hD hS => ?_)
  have hP : va_P D CL [(mo_, .inr (6, [.int 0, .ref ms, .ref mi, .int 0, .int 0, .int 0, .int 0, .int 0, .int 0, .ref mb, .ref mt, .ref ml, .ref mx, .int 0, .int 0, .int 0, .int 0, .int 0, .int 0, .ref mc, .int 0, .ref mn, .ref mp, .ref mo, .int 0, .int 0, .int 0, .int 0])), (ms, .inl (cI, 846, .inl (s0))), (mn, .inl (cI, 4, .inl fn))] H := hP
  have hD : va_D A [(mo_, .inr (6, [.int 0, .ref ms, .ref mi, .int 0, .int 0, .int 0, .int 0, .int 0, .int 0, .ref mb, .ref mt, .ref ml, .ref mx, .int 0, .int 0, .int 0, .int 0, .int 0, .int 0, .ref mc, .int 0, .ref mn, .ref mp, .ref mo, .int 0, .int 0, .int 0, .int 0])), (ms, .inl (cI, 846, .inl (s0))), (mn, .inl (cI, 4, .inl fn))] := hD
  refine (Decidable.em (((0 : Int32) ≤ p2 ∧ p2 ≤ (1 : Int32)))).elim (fun c_4 => ?_) (fun c_4 => ?_)
  · obtain rfl : r_3 = 1 := w_2.trans (if_pos c_4)
    refine lv_if_ne (tgt := 13) hx hb dX6_year_6 (by decide) (fun _ => ?_) (fun c_0 => absurd c_0 (by decide))
    refine lv_iload_n hx hb dX6_year_13 rfl (lv_at hl 1 rfl) ?_
    refine lv_iconst (v := 1) hx hb dX6_year_14 (by decide) ?_
    refine lv_bipush (v := 30) hx hb dX6_year_15 (by decide) ?_
    refine contI (wc := []) (wr := [(mo_, .inr (6, [.int 0, .ref ms, .ref mi, .int 0, .int 0, .int 0, .int 0, .int 0, .int 0, .ref mb, .ref mt, .ref ml, .ref mx, .int 0, .int 0, .int 0, .int 0, .int 0, .int 0, .ref mc, .int 0, .ref mn, .ref mp, .ref mo, .int 0, .int 0, .int 0, .int 0])), (ms, .inl (cI, 846, .inl (s0))), (mn, .inl (cI, 4, .inl fn))]) C0 hP hD hS [] [0, 1, 2] rfl rfl (by decide) (by decide) 0 0 (Nat.le_of_ble_eq_true rfl) (Nat.le_of_ble_eq_true rfl) (runS (k := 3) (As := [.int p1, .int 1, .int 30]) (rest := []) C0 (mc_in l D cI cZ cQ cT _ p1 1 30) wc_X6_in wl_X6_45 wt_X6_in wz_X6 ⟨by decide, by decide, by decide +kernel⟩ ⟨(Nat.le_of_ble_eq_true rfl), (Nat.le_of_ble_eq_true rfl)⟩ hP hD hS EF.ok hX [] rfl (by decide) rfl hl.1 rfl (Nat.le_of_ble_eq_true rfl) dX6_year_17 ⟨(Nat.le_of_ble_eq_true rfl), (Nat.le_of_ble_eq_true rfl)⟩) (fun r_7 u_5 H locs w_6 hP hD hS => ?_)
    have hP : va_P D CL [(mo_, .inr (6, [.int 0, .ref ms, .ref mi, .int 0, .int 0, .int 0, .int 0, .int 0, .int 0, .ref mb, .ref mt, .ref ml, .ref mx, .int 0, .int 0, .int 0, .int 0, .int 0, .int 0, .ref mc, .int 0, .ref mn, .ref mp, .ref mo, .int 0, .int 0, .int 0, .int 0])), (ms, .inl (cI, 846, .inl (s0))), (mn, .inl (cI, 4, .inl fn))] H := hP
    have hD : va_D A [(mo_, .inr (6, [.int 0, .ref ms, .ref mi, .int 0, .int 0, .int 0, .int 0, .int 0, .int 0, .ref mb, .ref mt, .ref ml, .ref mx, .int 0, .int 0, .int 0, .int 0, .int 0, .int 0, .ref mc, .int 0, .ref mn, .ref mp, .ref mo, .int 0, .int 0, .int 0, .int 0])), (ms, .inl (cI, 846, .inl (s0))), (mn, .inl (cI, 4, .inl fn))] := hD
    refine (Decidable.em (((1 : Int32) ≤ p1 ∧ p1 ≤ (30 : Int32)))).elim (fun c_8 => ?_) (fun c_8 => ?_)
    · obtain rfl : r_7 = 1 := w_6.trans (if_pos c_8)
      refine lv_if_ne (tgt := 27) hx hb dX6_year_20 (by decide) (fun _ => ?_) (fun c_0 => absurd c_0 (by decide))
      refine lv_aload_n hx hb dX6_year_27 rfl (lv_at hl 0 rfl) ?_
      refine va_get (ci := 6) (v := .ref ms) (C := RX6) (T := TX6) (N := 28) hx hb hT wu_X6 hown hK hP 0 rfl rfl 1 (by decide) (hT _ wf_X6_7) (fun _ h9 => h9) rfl dX6_year_28 ?_
      refine lv_iconst (v := 5) hx hb dX6_year_31 (by decide) ?_
      refine va_iald hx hb hK hP 1 0 rfl rfl (vin _ _ (by decide +kernel)) dX6_year_32 ?_
      refine lv_ci 0 (by decide +kernel) ?_
      refine lv_istore_n (lv' := [(3, .int 0), (0, .ref mo_), (1, .int p1), (2, .int p2)]) hx hb dX6_year_33 rfl hl (by decide) rfl (fun ls hl => ?_)
      refine lv_iconst (v := 0) hx hb dX6_year_34 (by decide) ?_
      refine lv_istore (lv' := [(4, .int 0), (3, .int 0), (0, .ref mo_), (1, .int p1), (2, .int p2)]) hx hb dX6_year_35 hl (by decide) rfl (fun ls hl => ?_)
      refine lv_iload hx hb dX6_year_37 (lv_at hl 0 rfl) ?_
      refine lv_iconst (v := 4) hx hb dX6_year_39 (by decide) ?_
      refine lv_icmp_ge (tgt := 66) hx hb dX6_year_40 (by decide) (fun c_0 => absurd c_0 (by decide)) (fun _ => ?_)
      refine lv_aload_n hx hb dX6_year_43 rfl (lv_at hl 2 rfl) ?_
      refine va_get (ci := 6) (v := .ref mn) (C := RX6) (T := TX6) (N := 28) hx hb hT wu_X6 hown hK hP 0 rfl rfl 21 (by decide) (hT _ wf_X6_32) (fun _ h9 => h9) rfl dX6_year_44 ?_
      refine lv_iload hx hb dX6_year_47 (lv_at hl 0 rfl) ?_
      refine lv_aload_n hx hb dX6_year_49 rfl (lv_at hl 2 rfl) ?_
      refine va_get (ci := 6) (v := .ref ms) (C := RX6) (T := TX6) (N := 28) hx hb hT wu_X6 hown hK hP 0 rfl rfl 1 (by decide) (hT _ wf_X6_7) (fun _ h9 => h9) rfl dX6_year_50 ?_
      refine lv_bipush (v := 122) hx hb dX6_year_53 (by decide) ?_
      refine lv_iload hx hb dX6_year_55 (lv_at hl 0 rfl) ?_
      refine lv_iadd hx hb dX6_year_57 ?_
      refine lv_ci 122 (by decide +kernel) ?_
      refine va_iald hx hb hK hP 1 0 rfl rfl (vin _ _ (by decide +kernel)) dX6_year_58 ?_
      refine lv_ci 0 (by decide +kernel) ?_
      refine va_iast hx hb hK hP hD hS 2 0 rfl rfl (vin _ _ (by decide +kernel)) dX6_year_59 (fun H locs hP hD hS => ?_)
      have hP : va_P D CL [(mo_, .inr (6, [.int 0, .ref ms, .ref mi, .int 0, .int 0, .int 0, .int 0, .int 0, .int 0, .ref mb, .ref mt, .ref ml, .ref mx, .int 0, .int 0, .int 0, .int 0, .int 0, .int 0, .ref mc, .int 0, .ref mn, .ref mp, .ref mo, .int 0, .int 0, .int 0, .int 0])), (ms, .inl (cI, 846, .inl (s0))), (mn, .inl (cI, 4, .inl (upd fn ((0 : Int32)).toNatClampNeg 0)))] H := hP
      have hD : va_D A [(mo_, .inr (6, [.int 0, .ref ms, .ref mi, .int 0, .int 0, .int 0, .int 0, .int 0, .int 0, .ref mb, .ref mt, .ref ml, .ref mx, .int 0, .int 0, .int 0, .int 0, .int 0, .int 0, .ref mc, .int 0, .ref mn, .ref mp, .ref mo, .int 0, .int 0, .int 0, .int 0])), (ms, .inl (cI, 846, .inl (s0))), (mn, .inl (cI, 4, .inl (upd fn ((0 : Int32)).toNatClampNeg 0)))] := hD
      refine lv_iinc (v := 1) (lv' := [(4, .int 1), (3, .int 0), (0, .ref mo_), (1, .int p1), (2, .int p2)]) hx hb dX6_year_60 hl (k := 0) rfl (by decide) (by decide) rfl (fun ls hl => ?_)
      refine lv_goto (tgt := 37) hx hb dX6_year_63 (by decide) ?_
      refine lv_iload hx hb dX6_year_37 (lv_at hl 0 rfl) ?_
      refine lv_iconst (v := 4) hx hb dX6_year_39 (by decide) ?_
      refine lv_icmp_ge (tgt := 66) hx hb dX6_year_40 (by decide) (fun c_0 => absurd c_0 (by decide)) (fun _ => ?_)
      refine lv_aload_n hx hb dX6_year_43 rfl (lv_at hl 2 rfl) ?_
      refine va_get (ci := 6) (v := .ref mn) (C := RX6) (T := TX6) (N := 28) hx hb hT wu_X6 hown hK hP 0 rfl rfl 21 (by decide) (hT _ wf_X6_32) (fun _ h9 => h9) rfl dX6_year_44 ?_
      refine lv_iload hx hb dX6_year_47 (lv_at hl 0 rfl) ?_
      refine lv_aload_n hx hb dX6_year_49 rfl (lv_at hl 2 rfl) ?_
      refine va_get (ci := 6) (v := .ref ms) (C := RX6) (T := TX6) (N := 28) hx hb hT wu_X6 hown hK hP 0 rfl rfl 1 (by decide) (hT _ wf_X6_7) (fun _ h9 => h9) rfl dX6_year_50 ?_
      refine lv_bipush (v := 122) hx hb dX6_year_53 (by decide) ?_
      refine lv_iload hx hb dX6_year_55 (lv_at hl 0 rfl) ?_
      refine lv_iadd hx hb dX6_year_57 ?_
      refine lv_ci 123 (by decide +kernel) ?_
      refine va_iald hx hb hK hP 1 0 rfl rfl (vin _ _ (by decide +kernel)) dX6_year_58 ?_
      refine lv_ci 0 (by decide +kernel) ?_
      refine va_iast hx hb hK hP hD hS 2 0 rfl rfl (vin _ _ (by decide +kernel)) dX6_year_59 (fun H locs hP hD hS => ?_)
      have hP : va_P D CL [(mo_, .inr (6, [.int 0, .ref ms, .ref mi, .int 0, .int 0, .int 0, .int 0, .int 0, .int 0, .ref mb, .ref mt, .ref ml, .ref mx, .int 0, .int 0, .int 0, .int 0, .int 0, .int 0, .ref mc, .int 0, .ref mn, .ref mp, .ref mo, .int 0, .int 0, .int 0, .int 0])), (ms, .inl (cI, 846, .inl (s0))), (mn, .inl (cI, 4, .inl (upd (upd fn ((0 : Int32)).toNatClampNeg 0) ((1 : Int32)).toNatClampNeg 0)))] H := hP
      have hD : va_D A [(mo_, .inr (6, [.int 0, .ref ms, .ref mi, .int 0, .int 0, .int 0, .int 0, .int 0, .int 0, .ref mb, .ref mt, .ref ml, .ref mx, .int 0, .int 0, .int 0, .int 0, .int 0, .int 0, .ref mc, .int 0, .ref mn, .ref mp, .ref mo, .int 0, .int 0, .int 0, .int 0])), (ms, .inl (cI, 846, .inl (s0))), (mn, .inl (cI, 4, .inl (upd (upd fn ((0 : Int32)).toNatClampNeg 0) ((1 : Int32)).toNatClampNeg 0)))] := hD
      refine lv_iinc (v := 2) (lv' := [(4, .int 2), (3, .int 0), (0, .ref mo_), (1, .int p1), (2, .int p2)]) hx hb dX6_year_60 hl (k := 0) rfl (by decide) (by decide) rfl (fun ls hl => ?_)
      refine lv_goto (tgt := 37) hx hb dX6_year_63 (by decide) ?_
      refine lv_iload hx hb dX6_year_37 (lv_at hl 0 rfl) ?_
      refine lv_iconst (v := 4) hx hb dX6_year_39 (by decide) ?_
      refine lv_icmp_ge (tgt := 66) hx hb dX6_year_40 (by decide) (fun c_0 => absurd c_0 (by decide)) (fun _ => ?_)
      refine lv_aload_n hx hb dX6_year_43 rfl (lv_at hl 2 rfl) ?_
      refine va_get (ci := 6) (v := .ref mn) (C := RX6) (T := TX6) (N := 28) hx hb hT wu_X6 hown hK hP 0 rfl rfl 21 (by decide) (hT _ wf_X6_32) (fun _ h9 => h9) rfl dX6_year_44 ?_
      refine lv_iload hx hb dX6_year_47 (lv_at hl 0 rfl) ?_
      refine lv_aload_n hx hb dX6_year_49 rfl (lv_at hl 2 rfl) ?_
      refine va_get (ci := 6) (v := .ref ms) (C := RX6) (T := TX6) (N := 28) hx hb hT wu_X6 hown hK hP 0 rfl rfl 1 (by decide) (hT _ wf_X6_7) (fun _ h9 => h9) rfl dX6_year_50 ?_
      refine lv_bipush (v := 122) hx hb dX6_year_53 (by decide) ?_
      refine lv_iload hx hb dX6_year_55 (lv_at hl 0 rfl) ?_
      refine lv_iadd hx hb dX6_year_57 ?_
      refine lv_ci 124 (by decide +kernel) ?_
      refine va_iald hx hb hK hP 1 0 rfl rfl (vin _ _ (by decide +kernel)) dX6_year_58 ?_
      refine lv_ci 0 (by decide +kernel) ?_
      refine va_iast hx hb hK hP hD hS 2 0 rfl rfl (vin _ _ (by decide +kernel)) dX6_year_59 (fun H locs hP hD hS => ?_)
      have hP : va_P D CL [(mo_, .inr (6, [.int 0, .ref ms, .ref mi, .int 0, .int 0, .int 0, .int 0, .int 0, .int 0, .ref mb, .ref mt, .ref ml, .ref mx, .int 0, .int 0, .int 0, .int 0, .int 0, .int 0, .ref mc, .int 0, .ref mn, .ref mp, .ref mo, .int 0, .int 0, .int 0, .int 0])), (ms, .inl (cI, 846, .inl (s0))), (mn, .inl (cI, 4, .inl (upd (upd (upd fn ((0 : Int32)).toNatClampNeg 0) ((1 : Int32)).toNatClampNeg 0) ((2 : Int32)).toNatClampNeg 0)))] H := hP
      have hD : va_D A [(mo_, .inr (6, [.int 0, .ref ms, .ref mi, .int 0, .int 0, .int 0, .int 0, .int 0, .int 0, .ref mb, .ref mt, .ref ml, .ref mx, .int 0, .int 0, .int 0, .int 0, .int 0, .int 0, .ref mc, .int 0, .ref mn, .ref mp, .ref mo, .int 0, .int 0, .int 0, .int 0])), (ms, .inl (cI, 846, .inl (s0))), (mn, .inl (cI, 4, .inl (upd (upd (upd fn ((0 : Int32)).toNatClampNeg 0) ((1 : Int32)).toNatClampNeg 0) ((2 : Int32)).toNatClampNeg 0)))] := hD
      refine lv_iinc (v := 3) (lv' := [(4, .int 3), (3, .int 0), (0, .ref mo_), (1, .int p1), (2, .int p2)]) hx hb dX6_year_60 hl (k := 0) rfl (by decide) (by decide) rfl (fun ls hl => ?_)
      refine lv_goto (tgt := 37) hx hb dX6_year_63 (by decide) ?_
      refine lv_iload hx hb dX6_year_37 (lv_at hl 0 rfl) ?_
      refine lv_iconst (v := 4) hx hb dX6_year_39 (by decide) ?_
      refine lv_icmp_ge (tgt := 66) hx hb dX6_year_40 (by decide) (fun c_0 => absurd c_0 (by decide)) (fun _ => ?_)
      refine lv_aload_n hx hb dX6_year_43 rfl (lv_at hl 2 rfl) ?_
      refine va_get (ci := 6) (v := .ref mn) (C := RX6) (T := TX6) (N := 28) hx hb hT wu_X6 hown hK hP 0 rfl rfl 21 (by decide) (hT _ wf_X6_32) (fun _ h9 => h9) rfl dX6_year_44 ?_
      refine lv_iload hx hb dX6_year_47 (lv_at hl 0 rfl) ?_
      refine lv_aload_n hx hb dX6_year_49 rfl (lv_at hl 2 rfl) ?_
      refine va_get (ci := 6) (v := .ref ms) (C := RX6) (T := TX6) (N := 28) hx hb hT wu_X6 hown hK hP 0 rfl rfl 1 (by decide) (hT _ wf_X6_7) (fun _ h9 => h9) rfl dX6_year_50 ?_
      refine lv_bipush (v := 122) hx hb dX6_year_53 (by decide) ?_
      refine lv_iload hx hb dX6_year_55 (lv_at hl 0 rfl) ?_
      refine lv_iadd hx hb dX6_year_57 ?_
      refine lv_ci 125 (by decide +kernel) ?_
      refine va_iald hx hb hK hP 1 0 rfl rfl (vin _ _ (by decide +kernel)) dX6_year_58 ?_
      refine lv_ci 0 (by decide +kernel) ?_
      refine va_iast hx hb hK hP hD hS 2 0 rfl rfl (vin _ _ (by decide +kernel)) dX6_year_59 (fun H locs hP hD hS => ?_)
      have hP : va_P D CL [(mo_, .inr (6, [.int 0, .ref ms, .ref mi, .int 0, .int 0, .int 0, .int 0, .int 0, .int 0, .ref mb, .ref mt, .ref ml, .ref mx, .int 0, .int 0, .int 0, .int 0, .int 0, .int 0, .ref mc, .int 0, .ref mn, .ref mp, .ref mo, .int 0, .int 0, .int 0, .int 0])), (ms, .inl (cI, 846, .inl (s0))), (mn, .inl (cI, 4, .inl (upd (upd (upd (upd fn ((0 : Int32)).toNatClampNeg 0) ((1 : Int32)).toNatClampNeg 0) ((2 : Int32)).toNatClampNeg 0) ((3 : Int32)).toNatClampNeg 0)))] H := hP
      have hD : va_D A [(mo_, .inr (6, [.int 0, .ref ms, .ref mi, .int 0, .int 0, .int 0, .int 0, .int 0, .int 0, .ref mb, .ref mt, .ref ml, .ref mx, .int 0, .int 0, .int 0, .int 0, .int 0, .int 0, .ref mc, .int 0, .ref mn, .ref mp, .ref mo, .int 0, .int 0, .int 0, .int 0])), (ms, .inl (cI, 846, .inl (s0))), (mn, .inl (cI, 4, .inl (upd (upd (upd (upd fn ((0 : Int32)).toNatClampNeg 0) ((1 : Int32)).toNatClampNeg 0) ((2 : Int32)).toNatClampNeg 0) ((3 : Int32)).toNatClampNeg 0)))] := hD
      refine lv_iinc (v := 4) (lv' := [(4, .int 4), (3, .int 0), (0, .ref mo_), (1, .int p1), (2, .int p2)]) hx hb dX6_year_60 hl (k := 0) rfl (by decide) (by decide) rfl (fun ls hl => ?_)
      refine lv_goto (tgt := 37) hx hb dX6_year_63 (by decide) ?_
      refine lv_iload hx hb dX6_year_37 (lv_at hl 0 rfl) ?_
      refine lv_iconst (v := 4) hx hb dX6_year_39 (by decide) ?_
      refine lv_icmp_ge (tgt := 66) hx hb dX6_year_40 (by decide) (fun _ => ?_) (fun c_0 => absurd (by decide) c_0)
      refine lv_iconst (v := 0) hx hb dX6_year_66 (by decide) ?_
      refine lv_istore (lv' := [(4, .int 0), (3, .int 0), (0, .ref mo_), (1, .int p1), (2, .int p2)]) hx hb dX6_year_67 hl (by decide) rfl (fun ls hl => ?_)
      refine lv_iconst (v := 0) hx hb dX6_year_69 (by decide) ?_
      refine lv_istore (lv' := [(5, .int 0), (4, .int 0), (3, .int 0), (0, .ref mo_), (1, .int p1), (2, .int p2)]) hx hb dX6_year_70 hl (by decide) rfl (fun ls hl => ?_)
      refine lv_iconst (v := 0) hx hb dX6_year_72 (by decide) ?_
      refine lv_istore (lv' := [(6, .int 0), (5, .int 0), (4, .int 0), (3, .int 0), (0, .ref mo_), (1, .int p1), (2, .int p2)]) hx hb dX6_year_73 hl (by decide) rfl (fun ls hl => ?_)
      obtain ⟨N_, hN_, eN_⟩ : ∃ N_ : Nat, N_ ≤ 30 ∧ p1 = nI N_ := by
        obtain ⟨j, h1, h2⟩ := nI_of2 (x := p1) (M := 30) (n := 30) (by decide) (by have h_0 := c_4; have h_1 := c_8; have z0 : (0 : Int32).toInt = 0 := (by decide); have z1 : (1 : Int32).toInt = 1 := (by decide); have z30 : (30 : Int32).toInt = 30 := (by decide); simp only [le_i, lt_i, eq_i] at h_0 h_1 ⊢; omega : ¬ p1 < (0 : Int32)) (by have h_0 := c_4; have h_1 := c_8; have z0 : (0 : Int32).toInt = 0 := (by decide); have z1 : (1 : Int32).toInt = 1 := (by decide); have z30 : (30 : Int32).toInt = 30 := (by decide); simp only [le_i, lt_i, eq_i] at h_0 h_1 ⊢; omega : p1 ≤ (30 : Int32))
        exact ⟨j, h1, h2⟩
      have LOOP_9 : ∀ (k_ : Nat) (j_ : Nat) (w1 : Int32) (w2 : Int32) (w3 : Int32) (w4 : Int32) (w5 : Int32) (w6 : Int32) (w7 : Int32) (H : Heap) (locs : List Loc) (ls : Array Slot), (N_ - j_) < k_ → (j_ ≤ N_) → va_P D CL [(mo_, .inr (6, [.int 0, .ref ms, .ref mi, .int 0, .int 0, .int 0, .int 0, .int 0, .int 0, .ref mb, .ref mt, .ref ml, .ref mx, .int w1, .int w2, .int w3, .int w4, .int w5, .int w6, .ref mc, .int w7, .ref mn, .ref mp, .ref mo, .int 0, .int 0, .int 0, .int 0])), (ms, .inl (cI, 846, .inl (s0))), (mn, .inl (cI, 4, .inl (upd (upd (upd (upd fn ((0 : Int32)).toNatClampNeg 0) ((1 : Int32)).toNatClampNeg 0) ((2 : Int32)).toNatClampNeg 0) ((3 : Int32)).toNatClampNeg 0)))] H → va_D A [(mo_, .inr (6, [.int 0, .ref ms, .ref mi, .int 0, .int 0, .int 0, .int 0, .int 0, .int 0, .ref mb, .ref mt, .ref ml, .ref mx, .int w1, .int w2, .int w3, .int w4, .int w5, .int w6, .ref mc, .int w7, .ref mn, .ref mp, .ref mo, .int 0, .int 0, .int 0, .int 0])), (ms, .inl (cI, 846, .inl (s0))), (mn, .inl (cI, 4, .inl (upd (upd (upd (upd fn ((0 : Int32)).toNatClampNeg 0) ((1 : Int32)).toNatClampNeg 0) ((2 : Int32)).toNatClampNeg 0) ((3 : Int32)).toNatClampNeg 0)))] → va_S A s.heap H locs → lv_has ls 8 [(0, .ref mo_), (1, .int p1), (2, .int p2), (3, .int 0), (4, .int 0), (5, .int 0), (6, .int (nI j_))] → W p l e ({ frames := 4, cells := 0, slots := 0, locals := 91 } : Room) s m [.ref mo_, .int p1, .int p2].toArray below meth c H locs 0 0 (MQ below (va_Qi (S := Unit) (fun (r : Int32) (_ : Unit) => r = (if ((0 : Int32) ≤ p2 ∧ p2 ≤ (1 : Int32)) then (if ((1 : Int32) ≤ p1 ∧ p1 ≤ (30 : Int32)) then (if p2 = (0 : Int32) then 0 else 0) else (-10002)) else (-10001))) (fun _ => wE D (TYS cI cZ cQ cT) A []) A) [.ref mo_, .int p1, .int p2].toArray s 0 0 A) (F0 m 75 ls [])  := by
        intro k_
        induction k_ with
        | zero => intro j_ w1 w2 w3 w4 w5 w6 w7 H locs ls hk_; exact absurd hk_ (Nat.not_lt_zero _)
        | succ k_ ih_10 =>
          intro j_ w1 w2 w3 w4 w5 w6 w7 H locs ls hk_ hj_ hP hD hS hl
          refine lv_iload hx hb dX6_year_75 (lv_at hl 6 rfl) ?_
          refine lv_iload_n hx hb dX6_year_77 rfl (lv_at hl 1 rfl) ?_
          refine lv_icmp_ge (tgt := 119) hx hb dX6_year_78 (by decide) (fun c_11 => ?_) (fun c_11 => ?_)
          · refine lv_aload_n hx hb dX6_year_119 rfl (lv_at hl 0 rfl) ?_
            refine va_get (ci := 6) (v := .ref ms) (C := RX6) (T := TX6) (N := 28) hx hb hT wu_X6 hown hK hP 0 rfl rfl 1 (by decide) (hT _ wf_X6_7) (fun _ h9 => h9) rfl dX6_year_120 ?_
            refine lv_iconst (v := 5) hx hb dX6_year_123 (by decide) ?_
            refine lv_iload_n hx hb dX6_year_124 rfl (lv_at hl 3 rfl) ?_
            refine va_iast hx hb hK hP hD hS 1 0 rfl rfl (vin _ _ (by decide +kernel)) dX6_year_125 (fun H locs hP hD hS => ?_)
            have hP : va_P D CL [(mo_, .inr (6, [.int 0, .ref ms, .ref mi, .int 0, .int 0, .int 0, .int 0, .int 0, .int 0, .ref mb, .ref mt, .ref ml, .ref mx, .int w1, .int w2, .int w3, .int w4, .int w5, .int w6, .ref mc, .int w7, .ref mn, .ref mp, .ref mo, .int 0, .int 0, .int 0, .int 0])), (ms, .inl (cI, 846, .inl (upd (s0) ((5 : Int32)).toNatClampNeg 0))), (mn, .inl (cI, 4, .inl (upd (upd (upd (upd fn ((0 : Int32)).toNatClampNeg 0) ((1 : Int32)).toNatClampNeg 0) ((2 : Int32)).toNatClampNeg 0) ((3 : Int32)).toNatClampNeg 0)))] H := hP
            have hD : va_D A [(mo_, .inr (6, [.int 0, .ref ms, .ref mi, .int 0, .int 0, .int 0, .int 0, .int 0, .int 0, .ref mb, .ref mt, .ref ml, .ref mx, .int w1, .int w2, .int w3, .int w4, .int w5, .int w6, .ref mc, .int w7, .ref mn, .ref mp, .ref mo, .int 0, .int 0, .int 0, .int 0])), (ms, .inl (cI, 846, .inl (upd (s0) ((5 : Int32)).toNatClampNeg 0))), (mn, .inl (cI, 4, .inl (upd (upd (upd (upd fn ((0 : Int32)).toNatClampNeg 0) ((1 : Int32)).toNatClampNeg 0) ((2 : Int32)).toNatClampNeg 0) ((3 : Int32)).toNatClampNeg 0)))] := hD
            rw [upd_id (f := (s0)) (by decide +kernel)] at hP hD
            have hP : va_P D CL [(mo_, .inr (6, [.int 0, .ref ms, .ref mi, .int 0, .int 0, .int 0, .int 0, .int 0, .int 0, .ref mb, .ref mt, .ref ml, .ref mx, .int w1, .int w2, .int w3, .int w4, .int w5, .int w6, .ref mc, .int w7, .ref mn, .ref mp, .ref mo, .int 0, .int 0, .int 0, .int 0])), (ms, .inl (cI, 846, .inl (s0))), (mn, .inl (cI, 4, .inl (upd (upd (upd (upd fn ((0 : Int32)).toNatClampNeg 0) ((1 : Int32)).toNatClampNeg 0) ((2 : Int32)).toNatClampNeg 0) ((3 : Int32)).toNatClampNeg 0)))] H := hP
            have hD : va_D A [(mo_, .inr (6, [.int 0, .ref ms, .ref mi, .int 0, .int 0, .int 0, .int 0, .int 0, .int 0, .ref mb, .ref mt, .ref ml, .ref mx, .int w1, .int w2, .int w3, .int w4, .int w5, .int w6, .ref mc, .int w7, .ref mn, .ref mp, .ref mo, .int 0, .int 0, .int 0, .int 0])), (ms, .inl (cI, 846, .inl (s0))), (mn, .inl (cI, 4, .inl (upd (upd (upd (upd fn ((0 : Int32)).toNatClampNeg 0) ((1 : Int32)).toNatClampNeg 0) ((2 : Int32)).toNatClampNeg 0) ((3 : Int32)).toNatClampNeg 0)))] := hD
            refine lv_iconst (v := 0) hx hb dX6_year_126 (by decide) ?_
            refine lv_istore (lv' := [(6, .int 0), (0, .ref mo_), (1, .int p1), (2, .int p2), (3, .int 0), (4, .int 0), (5, .int 0)]) hx hb dX6_year_127 hl (by decide) rfl (fun ls hl => ?_)
            refine lv_iload hx hb dX6_year_129 (lv_at hl 0 rfl) ?_
            refine lv_iconst (v := 4) hx hb dX6_year_131 (by decide) ?_
            refine lv_icmp_ge (tgt := 158) hx hb dX6_year_132 (by decide) (fun c_0 => absurd c_0 (by decide)) (fun _ => ?_)
            refine lv_aload_n hx hb dX6_year_135 rfl (lv_at hl 1 rfl) ?_
            refine va_get (ci := 6) (v := .ref ms) (C := RX6) (T := TX6) (N := 28) hx hb hT wu_X6 hown hK hP 0 rfl rfl 1 (by decide) (hT _ wf_X6_7) (fun _ h9 => h9) rfl dX6_year_136 ?_
            refine lv_bipush (v := 122) hx hb dX6_year_139 (by decide) ?_
            refine lv_iload hx hb dX6_year_141 (lv_at hl 0 rfl) ?_
            refine lv_iadd hx hb dX6_year_143 ?_
            refine lv_ci 122 (by decide +kernel) ?_
            refine lv_aload_n hx hb dX6_year_144 rfl (lv_at hl 1 rfl) ?_
            refine va_get (ci := 6) (v := .ref mn) (C := RX6) (T := TX6) (N := 28) hx hb hT wu_X6 hown hK hP 0 rfl rfl 21 (by decide) (hT _ wf_X6_32) (fun _ h9 => h9) rfl dX6_year_145 ?_
            refine lv_iload hx hb dX6_year_148 (lv_at hl 0 rfl) ?_
            refine va_iald hx hb hK hP 2 0 rfl rfl (vin _ _ (by decide +kernel)) dX6_year_150 ?_
            refine lv_ci 0 ((pk_un (by decide +kernel)).trans ((pk_un (by decide +kernel)).trans ((pk_un (by decide +kernel)).trans (pk_us)))) ?_
            refine va_iast hx hb hK hP hD hS 1 0 rfl rfl (vin _ _ (by decide +kernel)) dX6_year_151 (fun H locs hP hD hS => ?_)
            have hP : va_P D CL [(mo_, .inr (6, [.int 0, .ref ms, .ref mi, .int 0, .int 0, .int 0, .int 0, .int 0, .int 0, .ref mb, .ref mt, .ref ml, .ref mx, .int w1, .int w2, .int w3, .int w4, .int w5, .int w6, .ref mc, .int w7, .ref mn, .ref mp, .ref mo, .int 0, .int 0, .int 0, .int 0])), (ms, .inl (cI, 846, .inl (upd (s0) ((122 : Int32)).toNatClampNeg 0))), (mn, .inl (cI, 4, .inl (upd (upd (upd (upd fn ((0 : Int32)).toNatClampNeg 0) ((1 : Int32)).toNatClampNeg 0) ((2 : Int32)).toNatClampNeg 0) ((3 : Int32)).toNatClampNeg 0)))] H := hP
            have hD : va_D A [(mo_, .inr (6, [.int 0, .ref ms, .ref mi, .int 0, .int 0, .int 0, .int 0, .int 0, .int 0, .ref mb, .ref mt, .ref ml, .ref mx, .int w1, .int w2, .int w3, .int w4, .int w5, .int w6, .ref mc, .int w7, .ref mn, .ref mp, .ref mo, .int 0, .int 0, .int 0, .int 0])), (ms, .inl (cI, 846, .inl (upd (s0) ((122 : Int32)).toNatClampNeg 0))), (mn, .inl (cI, 4, .inl (upd (upd (upd (upd fn ((0 : Int32)).toNatClampNeg 0) ((1 : Int32)).toNatClampNeg 0) ((2 : Int32)).toNatClampNeg 0) ((3 : Int32)).toNatClampNeg 0)))] := hD
            rw [upd_id (f := (s0)) (by decide +kernel)] at hP hD
            have hP : va_P D CL [(mo_, .inr (6, [.int 0, .ref ms, .ref mi, .int 0, .int 0, .int 0, .int 0, .int 0, .int 0, .ref mb, .ref mt, .ref ml, .ref mx, .int w1, .int w2, .int w3, .int w4, .int w5, .int w6, .ref mc, .int w7, .ref mn, .ref mp, .ref mo, .int 0, .int 0, .int 0, .int 0])), (ms, .inl (cI, 846, .inl (s0))), (mn, .inl (cI, 4, .inl (upd (upd (upd (upd fn ((0 : Int32)).toNatClampNeg 0) ((1 : Int32)).toNatClampNeg 0) ((2 : Int32)).toNatClampNeg 0) ((3 : Int32)).toNatClampNeg 0)))] H := hP
            have hD : va_D A [(mo_, .inr (6, [.int 0, .ref ms, .ref mi, .int 0, .int 0, .int 0, .int 0, .int 0, .int 0, .ref mb, .ref mt, .ref ml, .ref mx, .int w1, .int w2, .int w3, .int w4, .int w5, .int w6, .ref mc, .int w7, .ref mn, .ref mp, .ref mo, .int 0, .int 0, .int 0, .int 0])), (ms, .inl (cI, 846, .inl (s0))), (mn, .inl (cI, 4, .inl (upd (upd (upd (upd fn ((0 : Int32)).toNatClampNeg 0) ((1 : Int32)).toNatClampNeg 0) ((2 : Int32)).toNatClampNeg 0) ((3 : Int32)).toNatClampNeg 0)))] := hD
            refine lv_iinc (v := 1) (lv' := [(6, .int 1), (0, .ref mo_), (1, .int p1), (2, .int p2), (3, .int 0), (4, .int 0), (5, .int 0)]) hx hb dX6_year_152 hl (k := 0) rfl (by decide) (by decide) rfl (fun ls hl => ?_)
            refine lv_goto (tgt := 129) hx hb dX6_year_155 (by decide) ?_
            refine lv_iload hx hb dX6_year_129 (lv_at hl 0 rfl) ?_
            refine lv_iconst (v := 4) hx hb dX6_year_131 (by decide) ?_
            refine lv_icmp_ge (tgt := 158) hx hb dX6_year_132 (by decide) (fun c_0 => absurd c_0 (by decide)) (fun _ => ?_)
            refine lv_aload_n hx hb dX6_year_135 rfl (lv_at hl 1 rfl) ?_
            refine va_get (ci := 6) (v := .ref ms) (C := RX6) (T := TX6) (N := 28) hx hb hT wu_X6 hown hK hP 0 rfl rfl 1 (by decide) (hT _ wf_X6_7) (fun _ h9 => h9) rfl dX6_year_136 ?_
            refine lv_bipush (v := 122) hx hb dX6_year_139 (by decide) ?_
            refine lv_iload hx hb dX6_year_141 (lv_at hl 0 rfl) ?_
            refine lv_iadd hx hb dX6_year_143 ?_
            refine lv_ci 123 (by decide +kernel) ?_
            refine lv_aload_n hx hb dX6_year_144 rfl (lv_at hl 1 rfl) ?_
            refine va_get (ci := 6) (v := .ref mn) (C := RX6) (T := TX6) (N := 28) hx hb hT wu_X6 hown hK hP 0 rfl rfl 21 (by decide) (hT _ wf_X6_32) (fun _ h9 => h9) rfl dX6_year_145 ?_
            refine lv_iload hx hb dX6_year_148 (lv_at hl 0 rfl) ?_
            refine va_iald hx hb hK hP 2 0 rfl rfl (vin _ _ (by decide +kernel)) dX6_year_150 ?_
            refine lv_ci 0 ((pk_un (by decide +kernel)).trans ((pk_un (by decide +kernel)).trans (pk_us))) ?_
            refine va_iast hx hb hK hP hD hS 1 0 rfl rfl (vin _ _ (by decide +kernel)) dX6_year_151 (fun H locs hP hD hS => ?_)
            have hP : va_P D CL [(mo_, .inr (6, [.int 0, .ref ms, .ref mi, .int 0, .int 0, .int 0, .int 0, .int 0, .int 0, .ref mb, .ref mt, .ref ml, .ref mx, .int w1, .int w2, .int w3, .int w4, .int w5, .int w6, .ref mc, .int w7, .ref mn, .ref mp, .ref mo, .int 0, .int 0, .int 0, .int 0])), (ms, .inl (cI, 846, .inl (upd (s0) ((123 : Int32)).toNatClampNeg 0))), (mn, .inl (cI, 4, .inl (upd (upd (upd (upd fn ((0 : Int32)).toNatClampNeg 0) ((1 : Int32)).toNatClampNeg 0) ((2 : Int32)).toNatClampNeg 0) ((3 : Int32)).toNatClampNeg 0)))] H := hP
            have hD : va_D A [(mo_, .inr (6, [.int 0, .ref ms, .ref mi, .int 0, .int 0, .int 0, .int 0, .int 0, .int 0, .ref mb, .ref mt, .ref ml, .ref mx, .int w1, .int w2, .int w3, .int w4, .int w5, .int w6, .ref mc, .int w7, .ref mn, .ref mp, .ref mo, .int 0, .int 0, .int 0, .int 0])), (ms, .inl (cI, 846, .inl (upd (s0) ((123 : Int32)).toNatClampNeg 0))), (mn, .inl (cI, 4, .inl (upd (upd (upd (upd fn ((0 : Int32)).toNatClampNeg 0) ((1 : Int32)).toNatClampNeg 0) ((2 : Int32)).toNatClampNeg 0) ((3 : Int32)).toNatClampNeg 0)))] := hD
            rw [upd_id (f := (s0)) (by decide +kernel)] at hP hD
            have hP : va_P D CL [(mo_, .inr (6, [.int 0, .ref ms, .ref mi, .int 0, .int 0, .int 0, .int 0, .int 0, .int 0, .ref mb, .ref mt, .ref ml, .ref mx, .int w1, .int w2, .int w3, .int w4, .int w5, .int w6, .ref mc, .int w7, .ref mn, .ref mp, .ref mo, .int 0, .int 0, .int 0, .int 0])), (ms, .inl (cI, 846, .inl (s0))), (mn, .inl (cI, 4, .inl (upd (upd (upd (upd fn ((0 : Int32)).toNatClampNeg 0) ((1 : Int32)).toNatClampNeg 0) ((2 : Int32)).toNatClampNeg 0) ((3 : Int32)).toNatClampNeg 0)))] H := hP
            have hD : va_D A [(mo_, .inr (6, [.int 0, .ref ms, .ref mi, .int 0, .int 0, .int 0, .int 0, .int 0, .int 0, .ref mb, .ref mt, .ref ml, .ref mx, .int w1, .int w2, .int w3, .int w4, .int w5, .int w6, .ref mc, .int w7, .ref mn, .ref mp, .ref mo, .int 0, .int 0, .int 0, .int 0])), (ms, .inl (cI, 846, .inl (s0))), (mn, .inl (cI, 4, .inl (upd (upd (upd (upd fn ((0 : Int32)).toNatClampNeg 0) ((1 : Int32)).toNatClampNeg 0) ((2 : Int32)).toNatClampNeg 0) ((3 : Int32)).toNatClampNeg 0)))] := hD
            refine lv_iinc (v := 2) (lv' := [(6, .int 2), (0, .ref mo_), (1, .int p1), (2, .int p2), (3, .int 0), (4, .int 0), (5, .int 0)]) hx hb dX6_year_152 hl (k := 0) rfl (by decide) (by decide) rfl (fun ls hl => ?_)
            refine lv_goto (tgt := 129) hx hb dX6_year_155 (by decide) ?_
            refine lv_iload hx hb dX6_year_129 (lv_at hl 0 rfl) ?_
            refine lv_iconst (v := 4) hx hb dX6_year_131 (by decide) ?_
            refine lv_icmp_ge (tgt := 158) hx hb dX6_year_132 (by decide) (fun c_0 => absurd c_0 (by decide)) (fun _ => ?_)
            refine lv_aload_n hx hb dX6_year_135 rfl (lv_at hl 1 rfl) ?_
            refine va_get (ci := 6) (v := .ref ms) (C := RX6) (T := TX6) (N := 28) hx hb hT wu_X6 hown hK hP 0 rfl rfl 1 (by decide) (hT _ wf_X6_7) (fun _ h9 => h9) rfl dX6_year_136 ?_
            refine lv_bipush (v := 122) hx hb dX6_year_139 (by decide) ?_
            refine lv_iload hx hb dX6_year_141 (lv_at hl 0 rfl) ?_
            refine lv_iadd hx hb dX6_year_143 ?_
            refine lv_ci 124 (by decide +kernel) ?_
            refine lv_aload_n hx hb dX6_year_144 rfl (lv_at hl 1 rfl) ?_
            refine va_get (ci := 6) (v := .ref mn) (C := RX6) (T := TX6) (N := 28) hx hb hT wu_X6 hown hK hP 0 rfl rfl 21 (by decide) (hT _ wf_X6_32) (fun _ h9 => h9) rfl dX6_year_145 ?_
            refine lv_iload hx hb dX6_year_148 (lv_at hl 0 rfl) ?_
            refine va_iald hx hb hK hP 2 0 rfl rfl (vin _ _ (by decide +kernel)) dX6_year_150 ?_
            refine lv_ci 0 ((pk_un (by decide +kernel)).trans (pk_us)) ?_
            refine va_iast hx hb hK hP hD hS 1 0 rfl rfl (vin _ _ (by decide +kernel)) dX6_year_151 (fun H locs hP hD hS => ?_)
            have hP : va_P D CL [(mo_, .inr (6, [.int 0, .ref ms, .ref mi, .int 0, .int 0, .int 0, .int 0, .int 0, .int 0, .ref mb, .ref mt, .ref ml, .ref mx, .int w1, .int w2, .int w3, .int w4, .int w5, .int w6, .ref mc, .int w7, .ref mn, .ref mp, .ref mo, .int 0, .int 0, .int 0, .int 0])), (ms, .inl (cI, 846, .inl (upd (s0) ((124 : Int32)).toNatClampNeg 0))), (mn, .inl (cI, 4, .inl (upd (upd (upd (upd fn ((0 : Int32)).toNatClampNeg 0) ((1 : Int32)).toNatClampNeg 0) ((2 : Int32)).toNatClampNeg 0) ((3 : Int32)).toNatClampNeg 0)))] H := hP
            have hD : va_D A [(mo_, .inr (6, [.int 0, .ref ms, .ref mi, .int 0, .int 0, .int 0, .int 0, .int 0, .int 0, .ref mb, .ref mt, .ref ml, .ref mx, .int w1, .int w2, .int w3, .int w4, .int w5, .int w6, .ref mc, .int w7, .ref mn, .ref mp, .ref mo, .int 0, .int 0, .int 0, .int 0])), (ms, .inl (cI, 846, .inl (upd (s0) ((124 : Int32)).toNatClampNeg 0))), (mn, .inl (cI, 4, .inl (upd (upd (upd (upd fn ((0 : Int32)).toNatClampNeg 0) ((1 : Int32)).toNatClampNeg 0) ((2 : Int32)).toNatClampNeg 0) ((3 : Int32)).toNatClampNeg 0)))] := hD
            rw [upd_id (f := (s0)) (by decide +kernel)] at hP hD
            have hP : va_P D CL [(mo_, .inr (6, [.int 0, .ref ms, .ref mi, .int 0, .int 0, .int 0, .int 0, .int 0, .int 0, .ref mb, .ref mt, .ref ml, .ref mx, .int w1, .int w2, .int w3, .int w4, .int w5, .int w6, .ref mc, .int w7, .ref mn, .ref mp, .ref mo, .int 0, .int 0, .int 0, .int 0])), (ms, .inl (cI, 846, .inl (s0))), (mn, .inl (cI, 4, .inl (upd (upd (upd (upd fn ((0 : Int32)).toNatClampNeg 0) ((1 : Int32)).toNatClampNeg 0) ((2 : Int32)).toNatClampNeg 0) ((3 : Int32)).toNatClampNeg 0)))] H := hP
            have hD : va_D A [(mo_, .inr (6, [.int 0, .ref ms, .ref mi, .int 0, .int 0, .int 0, .int 0, .int 0, .int 0, .ref mb, .ref mt, .ref ml, .ref mx, .int w1, .int w2, .int w3, .int w4, .int w5, .int w6, .ref mc, .int w7, .ref mn, .ref mp, .ref mo, .int 0, .int 0, .int 0, .int 0])), (ms, .inl (cI, 846, .inl (s0))), (mn, .inl (cI, 4, .inl (upd (upd (upd (upd fn ((0 : Int32)).toNatClampNeg 0) ((1 : Int32)).toNatClampNeg 0) ((2 : Int32)).toNatClampNeg 0) ((3 : Int32)).toNatClampNeg 0)))] := hD
            refine lv_iinc (v := 3) (lv' := [(6, .int 3), (0, .ref mo_), (1, .int p1), (2, .int p2), (3, .int 0), (4, .int 0), (5, .int 0)]) hx hb dX6_year_152 hl (k := 0) rfl (by decide) (by decide) rfl (fun ls hl => ?_)
            refine lv_goto (tgt := 129) hx hb dX6_year_155 (by decide) ?_
            refine lv_iload hx hb dX6_year_129 (lv_at hl 0 rfl) ?_
            refine lv_iconst (v := 4) hx hb dX6_year_131 (by decide) ?_
            refine lv_icmp_ge (tgt := 158) hx hb dX6_year_132 (by decide) (fun c_0 => absurd c_0 (by decide)) (fun _ => ?_)
            refine lv_aload_n hx hb dX6_year_135 rfl (lv_at hl 1 rfl) ?_
            refine va_get (ci := 6) (v := .ref ms) (C := RX6) (T := TX6) (N := 28) hx hb hT wu_X6 hown hK hP 0 rfl rfl 1 (by decide) (hT _ wf_X6_7) (fun _ h9 => h9) rfl dX6_year_136 ?_
            refine lv_bipush (v := 122) hx hb dX6_year_139 (by decide) ?_
            refine lv_iload hx hb dX6_year_141 (lv_at hl 0 rfl) ?_
            refine lv_iadd hx hb dX6_year_143 ?_
            refine lv_ci 125 (by decide +kernel) ?_
            refine lv_aload_n hx hb dX6_year_144 rfl (lv_at hl 1 rfl) ?_
            refine va_get (ci := 6) (v := .ref mn) (C := RX6) (T := TX6) (N := 28) hx hb hT wu_X6 hown hK hP 0 rfl rfl 21 (by decide) (hT _ wf_X6_32) (fun _ h9 => h9) rfl dX6_year_145 ?_
            refine lv_iload hx hb dX6_year_148 (lv_at hl 0 rfl) ?_
            refine va_iald hx hb hK hP 2 0 rfl rfl (vin _ _ (by decide +kernel)) dX6_year_150 ?_
            refine lv_ci 0 (pk_us) ?_
            refine va_iast hx hb hK hP hD hS 1 0 rfl rfl (vin _ _ (by decide +kernel)) dX6_year_151 (fun H locs hP hD hS => ?_)
            have hP : va_P D CL [(mo_, .inr (6, [.int 0, .ref ms, .ref mi, .int 0, .int 0, .int 0, .int 0, .int 0, .int 0, .ref mb, .ref mt, .ref ml, .ref mx, .int w1, .int w2, .int w3, .int w4, .int w5, .int w6, .ref mc, .int w7, .ref mn, .ref mp, .ref mo, .int 0, .int 0, .int 0, .int 0])), (ms, .inl (cI, 846, .inl (upd (s0) ((125 : Int32)).toNatClampNeg 0))), (mn, .inl (cI, 4, .inl (upd (upd (upd (upd fn ((0 : Int32)).toNatClampNeg 0) ((1 : Int32)).toNatClampNeg 0) ((2 : Int32)).toNatClampNeg 0) ((3 : Int32)).toNatClampNeg 0)))] H := hP
            have hD : va_D A [(mo_, .inr (6, [.int 0, .ref ms, .ref mi, .int 0, .int 0, .int 0, .int 0, .int 0, .int 0, .ref mb, .ref mt, .ref ml, .ref mx, .int w1, .int w2, .int w3, .int w4, .int w5, .int w6, .ref mc, .int w7, .ref mn, .ref mp, .ref mo, .int 0, .int 0, .int 0, .int 0])), (ms, .inl (cI, 846, .inl (upd (s0) ((125 : Int32)).toNatClampNeg 0))), (mn, .inl (cI, 4, .inl (upd (upd (upd (upd fn ((0 : Int32)).toNatClampNeg 0) ((1 : Int32)).toNatClampNeg 0) ((2 : Int32)).toNatClampNeg 0) ((3 : Int32)).toNatClampNeg 0)))] := hD
            rw [upd_id (f := (s0)) (by decide +kernel)] at hP hD
            have hP : va_P D CL [(mo_, .inr (6, [.int 0, .ref ms, .ref mi, .int 0, .int 0, .int 0, .int 0, .int 0, .int 0, .ref mb, .ref mt, .ref ml, .ref mx, .int w1, .int w2, .int w3, .int w4, .int w5, .int w6, .ref mc, .int w7, .ref mn, .ref mp, .ref mo, .int 0, .int 0, .int 0, .int 0])), (ms, .inl (cI, 846, .inl (s0))), (mn, .inl (cI, 4, .inl (upd (upd (upd (upd fn ((0 : Int32)).toNatClampNeg 0) ((1 : Int32)).toNatClampNeg 0) ((2 : Int32)).toNatClampNeg 0) ((3 : Int32)).toNatClampNeg 0)))] H := hP
            have hD : va_D A [(mo_, .inr (6, [.int 0, .ref ms, .ref mi, .int 0, .int 0, .int 0, .int 0, .int 0, .int 0, .ref mb, .ref mt, .ref ml, .ref mx, .int w1, .int w2, .int w3, .int w4, .int w5, .int w6, .ref mc, .int w7, .ref mn, .ref mp, .ref mo, .int 0, .int 0, .int 0, .int 0])), (ms, .inl (cI, 846, .inl (s0))), (mn, .inl (cI, 4, .inl (upd (upd (upd (upd fn ((0 : Int32)).toNatClampNeg 0) ((1 : Int32)).toNatClampNeg 0) ((2 : Int32)).toNatClampNeg 0) ((3 : Int32)).toNatClampNeg 0)))] := hD
            refine lv_iinc (v := 4) (lv' := [(6, .int 4), (0, .ref mo_), (1, .int p1), (2, .int p2), (3, .int 0), (4, .int 0), (5, .int 0)]) hx hb dX6_year_152 hl (k := 0) rfl (by decide) (by decide) rfl (fun ls hl => ?_)
            refine lv_goto (tgt := 129) hx hb dX6_year_155 (by decide) ?_
            refine lv_iload hx hb dX6_year_129 (lv_at hl 0 rfl) ?_
            refine lv_iconst (v := 4) hx hb dX6_year_131 (by decide) ?_
            refine lv_icmp_ge (tgt := 158) hx hb dX6_year_132 (by decide) (fun _ => ?_) (fun c_0 => absurd (by decide) c_0)
            refine lv_iload_n hx hb dX6_year_158 rfl (lv_at hl 3 rfl) ?_
            refine lv_if_ne (tgt := 167) hx hb dX6_year_159 (by decide) (fun c_12 => ?_) (fun c_12 => ?_)
            · refine lv_iload hx hb dX6_year_167 (lv_at hl 6 rfl) ?_
              exact retI C0 rfl () (((if_pos c_4).trans ((if_pos c_8).trans ((if_neg c_12)))).symm) (hP.sub (ws' := []) [] rfl) (hD.sub (ws' := []) [] (by decide) rfl) hS (Nat.le_of_ble_eq_true rfl) (Nat.le_of_ble_eq_true rfl) dX6_year_169
            · refine lv_iload hx hb dX6_year_162 (lv_at hl 5 rfl) ?_
              refine lv_goto (tgt := 169) hx hb dX6_year_164 (by decide) ?_
              exact retI C0 rfl () (((if_pos c_4).trans ((if_pos c_8).trans ((if_pos c_12)))).symm) (hP.sub (ws' := []) [] rfl) (hD.sub (ws' := []) [] (by decide) rfl) hS (Nat.le_of_ble_eq_true rfl) (Nat.le_of_ble_eq_true rfl) dX6_year_169
          · refine lv_aload_n hx hb dX6_year_81 rfl (lv_at hl 0 rfl) ?_
            refine contI (wc := [(mo_, .inr (6, [.int 0, .ref ms, .ref mi, .int 0, .int 0, .int 0, .int 0, .int 0, .int 0, .ref mb, .ref mt, .ref ml, .ref mx, .int w1, .int w2, .int w3, .int w4, .int w5, .int w6, .ref mc, .int w7, .ref mn, .ref mp, .ref mo, .int 0, .int 0, .int 0, .int 0])), (ms, .inl (cI, 846, .inl (s0)))]) (wr := [(mn, .inl (cI, 4, .inl (upd (upd (upd (upd fn ((0 : Int32)).toNatClampNeg 0) ((1 : Int32)).toNatClampNeg 0) ((2 : Int32)).toNatClampNeg 0) ((3 : Int32)).toNatClampNeg 0)))]) C0 hP hD hS [0, 1] [2] rfl rfl (by decide) (by decide) 0 0 (Nat.le_of_ble_eq_true rfl) (Nat.le_of_ble_eq_true rfl) (runV (k := 0) (As := []) (rest := []) C0 (m_morningComes l D cI cZ cQ cT _ mo_ ms mi mb mt ml mx w1 w2 w3 w4 w5 w6 mc w7 mn mp mo) wc_X6_morningComes wl_X6_214 wi_X6_morningComes we_X6_morningComes wz_X6 ⟨by decide, by decide, by decide +kernel⟩ ⟨(Nat.le_of_ble_eq_true rfl), (Nat.le_of_ble_eq_true rfl)⟩ hP hD hS EF.ok hX [0, 1] rfl (by decide) 0 rfl rfl rfl rfl hl.1 rfl (Nat.le_of_ble_eq_true rfl) dX6_year_82 ⟨(Nat.le_of_ble_eq_true rfl), (Nat.le_of_ble_eq_true rfl)⟩) (fun r_16 u_14 H locs w_15 hP hD hS => ?_)
            obtain ⟨w1_13, rfl⟩ : ∃ z, z = u_14 := ⟨_, rfl⟩
            have hP : va_P D CL [(mn, .inl (cI, 4, .inl (upd (upd (upd (upd fn ((0 : Int32)).toNatClampNeg 0) ((1 : Int32)).toNatClampNeg 0) ((2 : Int32)).toNatClampNeg 0) ((3 : Int32)).toNatClampNeg 0))), (mo_, .inr (6, [.int 0, .ref ms, .ref mi, .int 0, .int 0, .int 0, .int 0, .int 0, .int 0, .ref mb, .ref mt, .ref ml, .ref mx, .int w1_13, .int 1, .int 0, .int 0, .int 0, .int 0, .ref mc, .int 0, .ref mn, .ref mp, .ref mo, .int 0, .int 0, .int 0, .int 0])), (ms, .inl (cI, 846, .inl (s0)))] H := hP
            have hD : va_D A [(mn, .inl (cI, 4, .inl (upd (upd (upd (upd fn ((0 : Int32)).toNatClampNeg 0) ((1 : Int32)).toNatClampNeg 0) ((2 : Int32)).toNatClampNeg 0) ((3 : Int32)).toNatClampNeg 0))), (mo_, .inr (6, [.int 0, .ref ms, .ref mi, .int 0, .int 0, .int 0, .int 0, .int 0, .int 0, .ref mb, .ref mt, .ref ml, .ref mx, .int w1_13, .int 1, .int 0, .int 0, .int 0, .int 0, .ref mc, .int 0, .ref mn, .ref mp, .ref mo, .int 0, .int 0, .int 0, .int 0])), (ms, .inl (cI, 846, .inl (s0)))] := hD
            obtain rfl : r_16 = 0 := w_15
            refine lv_istore (lv' := [(7, .int 0), (0, .ref mo_), (1, .int p1), (2, .int p2), (3, .int 0), (4, .int 0), (5, .int 0), (6, .int (nI j_))]) hx hb dX6_year_85 hl (by decide) rfl (fun ls hl => ?_)
            refine lv_iload hx hb dX6_year_87 (lv_at hl 5 rfl) ?_
            refine lv_aload_n hx hb dX6_year_89 rfl (lv_at hl 1 rfl) ?_
            refine va_get (ci := 6) (v := .int 0) (C := RX6) (T := TX6) (N := 28) hx hb hT wu_X6 hown hK hP 1 rfl rfl 20 (by decide) (hT _ wf_X6_211) (fun _ h9 => h9) rfl dX6_year_90 ?_
            refine lv_iadd hx hb dX6_year_93 ?_
            refine lv_ci 0 (by decide +kernel) ?_
            refine lv_istore (lv' := [(4, .int 0), (7, .int 0), (0, .ref mo_), (1, .int p1), (2, .int p2), (3, .int 0), (5, .int 0), (6, .int (nI j_))]) hx hb dX6_year_94 hl (by decide) rfl (fun ls hl => ?_)
            refine lv_iload hx hb dX6_year_96 (lv_at hl 6 rfl) ?_
            refine lv_aload_n hx hb dX6_year_98 rfl (lv_at hl 2 rfl) ?_
            refine va_get (ci := 6) (v := .int 1) (C := RX6) (T := TX6) (N := 28) hx hb hT wu_X6 hown hK hP 1 rfl rfl 14 (by decide) (hT _ wf_X6_190) (fun _ h9 => h9) rfl dX6_year_99 ?_
            refine lv_if_ne (tgt := 109) hx hb dX6_year_102 (by decide) (fun _ => ?_) (fun c_0 => absurd c_0 (by decide))
            refine lv_iconst (v := 0) hx hb dX6_year_109 (by decide) ?_
            refine lv_iadd hx hb dX6_year_110 ?_
            refine lv_ci 0 (by decide +kernel) ?_
            refine lv_istore (lv' := [(5, .int 0), (4, .int 0), (7, .int 0), (0, .ref mo_), (1, .int p1), (2, .int p2), (3, .int 0), (6, .int (nI j_))]) hx hb dX6_year_111 hl (by decide) rfl (fun ls hl => ?_)
            refine lv_iinc (v := (nI (j_ + 1))) (lv' := [(6, .int (nI (j_ + 1))), (5, .int 0), (4, .int 0), (7, .int 0), (0, .ref mo_), (1, .int p1), (2, .int p2), (3, .int 0)]) hx hb dX6_year_113 hl (k := 7) rfl (nI_succ _).symm (by decide) rfl (fun ls hl => ?_)
            refine lv_goto (tgt := 75) hx hb dX6_year_116 (by decide) ?_
            exact ih_10 (j_ + 1) w1_13 (1 : Int32) (0 : Int32) (0 : Int32) (0 : Int32) (0 : Int32) (0 : Int32) _ _ _ (by have h := c_11; rw [eN_, nI_leI (by omega) (by omega)] at h; omega) (by have h := c_11; rw [eN_, nI_leI (by omega) (by omega)] at h; omega) (hP.sub (ws' := [(mo_, .inr (6, [.int 0, .ref ms, .ref mi, .int 0, .int 0, .int 0, .int 0, .int 0, .int 0, .ref mb, .ref mt, .ref ml, .ref mx, .int w1_13, .int (1 : Int32), .int (0 : Int32), .int (0 : Int32), .int (0 : Int32), .int (0 : Int32), .ref mc, .int (0 : Int32), .ref mn, .ref mp, .ref mo, .int 0, .int 0, .int 0, .int 0])), (ms, .inl (cI, 846, .inl (s0))), (mn, .inl (cI, 4, .inl (upd (upd (upd (upd fn ((0 : Int32)).toNatClampNeg 0) ((1 : Int32)).toNatClampNeg 0) ((2 : Int32)).toNatClampNeg 0) ((3 : Int32)).toNatClampNeg 0)))]) [1, 2, 0] rfl) (hD.sub (ws' := [(mo_, .inr (6, [.int 0, .ref ms, .ref mi, .int 0, .int 0, .int 0, .int 0, .int 0, .int 0, .ref mb, .ref mt, .ref ml, .ref mx, .int w1_13, .int (1 : Int32), .int (0 : Int32), .int (0 : Int32), .int (0 : Int32), .int (0 : Int32), .ref mc, .int (0 : Int32), .ref mn, .ref mp, .ref mo, .int 0, .int 0, .int 0, .int 0])), (ms, .inl (cI, 846, .inl (s0))), (mn, .inl (cI, 4, .inl (upd (upd (upd (upd fn ((0 : Int32)).toNatClampNeg 0) ((1 : Int32)).toNatClampNeg 0) ((2 : Int32)).toNatClampNeg 0) ((3 : Int32)).toNatClampNeg 0)))]) [1, 2, 0] (by decide) rfl) hS (lv_sub hl [4, 5, 6, 7, 2, 1, 0] rfl)
      exact LOOP_9 ((N_ - 0) + 1) 0 (0 : Int32) (0 : Int32) (0 : Int32) (0 : Int32) (0 : Int32) (0 : Int32) (0 : Int32) _ _ _ (Nat.lt_succ_self _) (Nat.zero_le _) (hP.sub (ws' := [(mo_, .inr (6, [.int 0, .ref ms, .ref mi, .int 0, .int 0, .int 0, .int 0, .int 0, .int 0, .ref mb, .ref mt, .ref ml, .ref mx, .int (0 : Int32), .int (0 : Int32), .int (0 : Int32), .int (0 : Int32), .int (0 : Int32), .int (0 : Int32), .ref mc, .int (0 : Int32), .ref mn, .ref mp, .ref mo, .int 0, .int 0, .int 0, .int 0])), (ms, .inl (cI, 846, .inl (s0))), (mn, .inl (cI, 4, .inl (upd (upd (upd (upd fn ((0 : Int32)).toNatClampNeg 0) ((1 : Int32)).toNatClampNeg 0) ((2 : Int32)).toNatClampNeg 0) ((3 : Int32)).toNatClampNeg 0)))]) [0, 1, 2] rfl) (hD.sub (ws' := [(mo_, .inr (6, [.int 0, .ref ms, .ref mi, .int 0, .int 0, .int 0, .int 0, .int 0, .int 0, .ref mb, .ref mt, .ref ml, .ref mx, .int (0 : Int32), .int (0 : Int32), .int (0 : Int32), .int (0 : Int32), .int (0 : Int32), .int (0 : Int32), .ref mc, .int (0 : Int32), .ref mn, .ref mp, .ref mo, .int 0, .int 0, .int 0, .int 0])), (ms, .inl (cI, 846, .inl (s0))), (mn, .inl (cI, 4, .inl (upd (upd (upd (upd fn ((0 : Int32)).toNatClampNeg 0) ((1 : Int32)).toNatClampNeg 0) ((2 : Int32)).toNatClampNeg 0) ((3 : Int32)).toNatClampNeg 0)))]) [0, 1, 2] (by decide) rfl) hS (lv_sub hl [4, 5, 6, 3, 2, 1, 0] rfl)
    · obtain rfl : r_7 = 0 := w_6.trans (if_neg c_8)
      refine lv_if_ne (tgt := 27) hx hb dX6_year_20 (by decide) (fun c_0 => absurd (by decide) c_0) (fun _ => ?_)
      refine lv_sipush (v := (-10002)) hx hb dX6_year_23 (by decide) ?_
      exact retI C0 rfl () (((if_pos c_4).trans ((if_neg c_8))).symm) (hP.sub (ws' := []) [] rfl) (hD.sub (ws' := []) [] (by decide) rfl) hS (Nat.le_of_ble_eq_true rfl) (Nat.le_of_ble_eq_true rfl) dX6_year_26
  · obtain rfl : r_3 = 0 := w_2.trans (if_neg c_4)
    refine lv_if_ne (tgt := 13) hx hb dX6_year_6 (by decide) (fun c_0 => absurd (by decide) c_0) (fun _ => ?_)
    refine lv_sipush (v := (-10001)) hx hb dX6_year_9 (by decide) ?_
    exact retI C0 rfl () (((if_neg c_4)).symm) (hP.sub (ws' := []) [] rfl) (hD.sub (ws' := []) [] (by decide) rfl) hS (Nat.le_of_ble_eq_true rfl) (Nat.le_of_ble_eq_true rfl) dX6_year_12

set_option maxHeartbeats 4000000 in
set_option maxRecDepth 100000 in
theorem m_image (l : Launch) (D : va_G) (cI cZ cQ cT : ClassId) (sz : Nat) (mo_ : Nat) (ms : Nat) (mi : Nat) (mb : Nat) (mt : Nat) (ml : Nat) (mx : Nat) (mc : Nat) (mn : Nat) (mp : Nat) (mo : Nat) (fi : Nat → Int32)  : MetI l yX6_image cX6_image 2 .int ({ frames := 0, cells := 0, slots := 0, locals := 0 } : Room) [.ref mo_] D (TYS cI cZ cQ cT) EF sz [(mo_, .inr (6, [.int 0, .ref ms, .ref mi, .int 0, .int 0, .int 0, .int 0, .int 0, .int 0, .ref mb, .ref mt, .ref ml, .ref mx, .int 0, .int 0, .int 0, .int 0, .int 0, .int 0, .ref mc, .int 0, .ref mn, .ref mp, .ref mo, .int 0, .int 0, .int 0, .int 0])), (ms, .inl (cI, 846, .inl (s0))), (mi, .inl (cI, 846, .inl fi))] (S := Unit) (fun (r : Int32) (_ : Unit) => r = 0) (fun _ => []) := by
  refine MetI.mk (lv := [(0, .ref mo_)]) (by decide +kernel) (Nat.le_of_ble_eq_true rfl) rfl ?_
  intro p e s m below meth c A ls C0 hP hD hS hX hl
  have C1 := C0
  obtain ⟨hx, hb, hr, hml, hown, hlocks, hname, hT, hN, hK, hA⟩ := C1
  refine lv_iconst (v := 0) hx hb dX6_image_0 (by decide) ?_
  refine lv_istore_n (lv' := [(1, .int 0), (0, .ref mo_)]) hx hb dX6_image_1 rfl hl (by decide) rfl (fun ls hl => ?_)
  have LOOP_1 : ∀ (k_ : Nat) (j_ : Nat) (gi : Nat → Int32) (H : Heap) (locs : List Loc) (ls : Array Slot), (846 - j_) < k_ → (j_ ≤ 846) → va_P D CL [(mo_, .inr (6, [.int 0, .ref ms, .ref mi, .int 0, .int 0, .int 0, .int 0, .int 0, .int 0, .ref mb, .ref mt, .ref ml, .ref mx, .int 0, .int 0, .int 0, .int 0, .int 0, .int 0, .ref mc, .int 0, .ref mn, .ref mp, .ref mo, .int 0, .int 0, .int 0, .int 0])), (ms, .inl (cI, 846, .inl (s0))), (mi, .inl (cI, 846, .inl gi))] H → va_D A [(mo_, .inr (6, [.int 0, .ref ms, .ref mi, .int 0, .int 0, .int 0, .int 0, .int 0, .int 0, .ref mb, .ref mt, .ref ml, .ref mx, .int 0, .int 0, .int 0, .int 0, .int 0, .int 0, .ref mc, .int 0, .ref mn, .ref mp, .ref mo, .int 0, .int 0, .int 0, .int 0])), (ms, .inl (cI, 846, .inl (s0))), (mi, .inl (cI, 846, .inl gi))] → va_S A s.heap H locs → lv_has ls 2 [(0, .ref mo_), (1, .int (nI j_))] → W p l e ({ frames := 0, cells := 0, slots := 0, locals := 0 } : Room) s m [.ref mo_].toArray below meth c H locs 0 0 (MQ below (va_Qi (S := Unit) (fun (r : Int32) (_ : Unit) => r = 0) (fun _ => wE D (TYS cI cZ cQ cT) A []) A) [.ref mo_].toArray s 0 0 A) (F0 m 2 ls [])  := by
    intro k_
    induction k_ with
    | zero => intro j_ gi H locs ls hk_; exact absurd hk_ (Nat.not_lt_zero _)
    | succ k_ ih_2 =>
      intro j_ gi H locs ls hk_ hj_ hP hD hS hl
      refine lv_iload_n hx hb dX6_image_2 rfl (lv_at hl 1 rfl) ?_
      refine lv_sipush (v := 846) hx hb dX6_image_3 (by decide) ?_
      refine lv_icmp_ge (tgt := 27) hx hb dX6_image_6 (by decide) (fun c_3 => ?_) (fun c_3 => ?_)
      · refine lv_aload_n hx hb dX6_image_27 rfl (lv_at hl 0 rfl) ?_
        refine lv_iconst (v := 1) hx hb dX6_image_28 (by decide) ?_
        refine va_put (ci := 6) (v := .int 1) (ty := .boolean) (C := RX6) (T := TX6) (N := 28) hx hb hT wu_X6 tyX6 tyX6_ok nmX6 hown hK hP hD hS 0 rfl rfl 3 (by decide) (hT _ wf_X6_268) (fun _ h9 => h9) rfl (by decide +kernel) rfl rfl (Nat.le_of_ble_eq_true rfl) dX6_image_29 (fun H locs hP hD hS => ?_)
        have hP : va_P D CL [(mo_, .inr (6, [.int 0, .ref ms, .ref mi, .int 1, .int 0, .int 0, .int 0, .int 0, .int 0, .ref mb, .ref mt, .ref ml, .ref mx, .int 0, .int 0, .int 0, .int 0, .int 0, .int 0, .ref mc, .int 0, .ref mn, .ref mp, .ref mo, .int 0, .int 0, .int 0, .int 0])), (ms, .inl (cI, 846, .inl (s0))), (mi, .inl (cI, 846, .inl gi))] H := hP
        have hD : va_D A [(mo_, .inr (6, [.int 0, .ref ms, .ref mi, .int 1, .int 0, .int 0, .int 0, .int 0, .int 0, .ref mb, .ref mt, .ref ml, .ref mx, .int 0, .int 0, .int 0, .int 0, .int 0, .int 0, .ref mc, .int 0, .ref mn, .ref mp, .ref mo, .int 0, .int 0, .int 0, .int 0])), (ms, .inl (cI, 846, .inl (s0))), (mi, .inl (cI, 846, .inl gi))] := hD
        refine lv_aload_n hx hb dX6_image_32 rfl (lv_at hl 0 rfl) ?_
        refine va_get (ci := 6) (v := .ref ms) (C := RX6) (T := TX6) (N := 28) hx hb hT wu_X6 hown hK hP 0 rfl rfl 1 (by decide) (hT _ wf_X6_7) (fun _ h9 => h9) rfl dX6_image_33 ?_
        refine lv_iconst (v := 0) hx hb dX6_image_36 (by decide) ?_
        refine va_iald hx hb hK hP 1 0 rfl rfl (vin _ _ (by decide +kernel)) dX6_image_37 ?_
        refine lv_ci 0 (by decide +kernel) ?_
        exact retI C0 rfl () ((rfl).symm) (hP.sub (ws' := []) [] rfl) (hD.sub (ws' := []) [] (by decide) rfl) hS (Nat.le_of_ble_eq_true rfl) (Nat.le_of_ble_eq_true rfl) dX6_image_38
      · refine lv_aload_n hx hb dX6_image_9 rfl (lv_at hl 0 rfl) ?_
        refine va_get (ci := 6) (v := .ref mi) (C := RX6) (T := TX6) (N := 28) hx hb hT wu_X6 hown hK hP 0 rfl rfl 2 (by decide) (hT _ wf_X6_13) (fun _ h9 => h9) rfl dX6_image_10 ?_
        refine lv_iload_n hx hb dX6_image_13 rfl (lv_at hl 1 rfl) ?_
        refine lv_aload_n hx hb dX6_image_14 rfl (lv_at hl 0 rfl) ?_
        refine va_get (ci := 6) (v := .ref ms) (C := RX6) (T := TX6) (N := 28) hx hb hT wu_X6 hown hK hP 0 rfl rfl 1 (by decide) (hT _ wf_X6_7) (fun _ h9 => h9) rfl dX6_image_15 ?_
        refine lv_iload_n hx hb dX6_image_18 rfl (lv_at hl 1 rfl) ?_
        refine va_iald hx hb hK hP 1 0 rfl rfl (vp_in_nI (by have h := c_3; rw [show (846 : Int32) = nI 846 from rfl, nI_leI (by omega) (by omega)] at h; omega) (by decide)) dX6_image_19 ?_
        refine va_iast hx hb hK hP hD hS 2 0 rfl rfl (vp_in_nI (by have h := c_3; rw [show (846 : Int32) = nI 846 from rfl, nI_leI (by omega) (by omega)] at h; omega) (by decide)) dX6_image_20 (fun H locs hP hD hS => ?_)
        have hP : va_P D CL [(mo_, .inr (6, [.int 0, .ref ms, .ref mi, .int 0, .int 0, .int 0, .int 0, .int 0, .int 0, .ref mb, .ref mt, .ref ml, .ref mx, .int 0, .int 0, .int 0, .int 0, .int 0, .int 0, .ref mc, .int 0, .ref mn, .ref mp, .ref mo, .int 0, .int 0, .int 0, .int 0])), (ms, .inl (cI, 846, .inl (s0))), (mi, .inl (cI, 846, .inl (upd gi ((nI j_)).toNatClampNeg ((s0) ((nI j_)).toNatClampNeg))))] H := hP
        have hD : va_D A [(mo_, .inr (6, [.int 0, .ref ms, .ref mi, .int 0, .int 0, .int 0, .int 0, .int 0, .int 0, .ref mb, .ref mt, .ref ml, .ref mx, .int 0, .int 0, .int 0, .int 0, .int 0, .int 0, .ref mc, .int 0, .ref mn, .ref mp, .ref mo, .int 0, .int 0, .int 0, .int 0])), (ms, .inl (cI, 846, .inl (s0))), (mi, .inl (cI, 846, .inl (upd gi ((nI j_)).toNatClampNeg ((s0) ((nI j_)).toNatClampNeg))))] := hD
        refine lv_iinc (v := (nI (j_ + 1))) (lv' := [(1, .int (nI (j_ + 1))), (0, .ref mo_)]) hx hb dX6_image_21 hl (k := 1) rfl (nI_succ _).symm (by decide) rfl (fun ls hl => ?_)
        refine lv_goto (tgt := 2) hx hb dX6_image_24 (by decide) ?_
        exact ih_2 (j_ + 1) (upd gi ((nI j_)).toNatClampNeg ((s0) ((nI j_)).toNatClampNeg)) _ _ _ (by have h := c_3; rw [show (846 : Int32) = nI 846 from rfl, nI_leI (by omega) (by omega)] at h; omega) (by have h := c_3; rw [show (846 : Int32) = nI 846 from rfl, nI_leI (by omega) (by omega)] at h; omega) (hP.sub (ws' := [(mo_, .inr (6, [.int 0, .ref ms, .ref mi, .int 0, .int 0, .int 0, .int 0, .int 0, .int 0, .ref mb, .ref mt, .ref ml, .ref mx, .int 0, .int 0, .int 0, .int 0, .int 0, .int 0, .ref mc, .int 0, .ref mn, .ref mp, .ref mo, .int 0, .int 0, .int 0, .int 0])), (ms, .inl (cI, 846, .inl (s0))), (mi, .inl (cI, 846, .inl (upd gi ((nI j_)).toNatClampNeg ((s0) ((nI j_)).toNatClampNeg))))]) [0, 1, 2] rfl) (hD.sub (ws' := [(mo_, .inr (6, [.int 0, .ref ms, .ref mi, .int 0, .int 0, .int 0, .int 0, .int 0, .int 0, .ref mb, .ref mt, .ref ml, .ref mx, .int 0, .int 0, .int 0, .int 0, .int 0, .int 0, .ref mc, .int 0, .ref mn, .ref mp, .ref mo, .int 0, .int 0, .int 0, .int 0])), (ms, .inl (cI, 846, .inl (s0))), (mi, .inl (cI, 846, .inl (upd gi ((nI j_)).toNatClampNeg ((s0) ((nI j_)).toNatClampNeg))))]) [0, 1, 2] (by decide) rfl) hS (lv_sub hl [1, 0] rfl)
  exact LOOP_1 ((846 - 0) + 1) 0 fi _ _ _ (Nat.lt_succ_self _) (Nat.zero_le _) (hP.sub (ws' := [(mo_, .inr (6, [.int 0, .ref ms, .ref mi, .int 0, .int 0, .int 0, .int 0, .int 0, .int 0, .ref mb, .ref mt, .ref ml, .ref mx, .int 0, .int 0, .int 0, .int 0, .int 0, .int 0, .ref mc, .int 0, .ref mn, .ref mp, .ref mo, .int 0, .int 0, .int 0, .int 0])), (ms, .inl (cI, 846, .inl (s0))), (mi, .inl (cI, 846, .inl fi))]) [0, 1, 2] rfl) (hD.sub (ws' := [(mo_, .inr (6, [.int 0, .ref ms, .ref mi, .int 0, .int 0, .int 0, .int 0, .int 0, .int 0, .ref mb, .ref mt, .ref ml, .ref mx, .int 0, .int 0, .int 0, .int 0, .int 0, .int 0, .ref mc, .int 0, .ref mn, .ref mp, .ref mo, .int 0, .int 0, .int 0, .int 0])), (ms, .inl (cI, 846, .inl (s0))), (mi, .inl (cI, 846, .inl fi))]) [0, 1, 2] (by decide) rfl) hS (lv_sub hl [1, 0] rfl)

set_option maxHeartbeats 4000000 in
set_option maxRecDepth 100000 in
theorem m_here (l : Launch) (D : va_G) (cI cZ cQ cT : ClassId) (sz : Nat) (mo_ : Nat) (ms : Nat) (mi : Nat) (mb : Nat) (mt : Nat) (ml : Nat) (mx : Nat) (v1 : Int32) (v2 : Int32) (v3 : Int32) (v4 : Int32) (v5 : Int32) (v6 : Int32) (mc : Nat) (v7 : Int32) (mn : Nat) (mp : Nat) (mo : Nat)  : MetI l yX6_here cX6_here 1 .int ({ frames := 0, cells := 0, slots := 0, locals := 0 } : Room) [.ref mo_] D (TYS cI cZ cQ cT) EF sz [(mo_, .inr (6, [.int 0, .ref ms, .ref mi, .int 0, .int 0, .int 0, .int 0, .int 0, .int 0, .ref mb, .ref mt, .ref ml, .ref mx, .int v1, .int v2, .int v3, .int v4, .int v5, .int v6, .ref mc, .int v7, .ref mn, .ref mp, .ref mo, .int 0, .int 0, .int 0, .int 0])), (ms, .inl (cI, 846, .inl (s0)))] (S := Unit) (fun (r : Int32) (_ : Unit) => r = (-1)) (fun _ => [(mo_, .inr (6, [.int 0, .ref ms, .ref mi, .int 0, .int 0, .int 0, .int 0, .int 0, .int 0, .ref mb, .ref mt, .ref ml, .ref mx, .int v1, .int v2, .int v3, .int v4, .int v5, .int v6, .ref mc, .int v7, .ref mn, .ref mp, .ref mo, .int 0, .int 0, .int 0, .int 0])), (ms, .inl (cI, 846, .inl (s0)))]) := by
  refine MetI.mk (lv := [(0, .ref mo_)]) (by decide +kernel) (Nat.le_of_ble_eq_true rfl) rfl ?_
  intro p e s m below meth c A ls C0 hP hD hS hX hl
  have C1 := C0
  obtain ⟨hx, hb, hr, hml, hown, hlocks, hname, hT, hN, hK, hA⟩ := C1
  refine lv_aload_n hx hb dX6_here_0 rfl (lv_at hl 0 rfl) ?_
  refine va_get (ci := 6) (v := .int 0) (C := RX6) (T := TX6) (N := 28) hx hb hT wu_X6 hown hK hP 0 rfl rfl 5 (by decide) (hT _ wf_X6_53) (fun _ h9 => h9) rfl dX6_here_1 ?_
  refine lv_aload_n hx hb dX6_here_4 rfl (lv_at hl 0 rfl) ?_
  refine va_get (ci := 6) (v := .int 0) (C := RX6) (T := TX6) (N := 28) hx hb hT wu_X6 hown hK hP 0 rfl rfl 6 (by decide) (hT _ wf_X6_56) (fun _ h9 => h9) rfl dX6_here_5 ?_
  refine lv_icmp_ge (tgt := 26) hx hb dX6_here_8 (by decide) (fun _ => ?_) (fun c_0 => absurd (by decide) c_0)
  refine lv_iconst (v := (-1)) hx hb dX6_here_26 (by decide) ?_
  exact retI C0 rfl () rfl (hP.sub (ws' := [(mo_, .inr (6, [.int 0, .ref ms, .ref mi, .int 0, .int 0, .int 0, .int 0, .int 0, .int 0, .ref mb, .ref mt, .ref ml, .ref mx, .int v1, .int v2, .int v3, .int v4, .int v5, .int v6, .ref mc, .int v7, .ref mn, .ref mp, .ref mo, .int 0, .int 0, .int 0, .int 0])), (ms, .inl (cI, 846, .inl (s0)))]) [0, 1] rfl) (hD.sub (ws' := [(mo_, .inr (6, [.int 0, .ref ms, .ref mi, .int 0, .int 0, .int 0, .int 0, .int 0, .int 0, .ref mb, .ref mt, .ref ml, .ref mx, .int v1, .int v2, .int v3, .int v4, .int v5, .int v6, .ref mc, .int v7, .ref mn, .ref mp, .ref mo, .int 0, .int 0, .int 0, .int 0])), (ms, .inl (cI, 846, .inl (s0)))]) [0, 1] (by decide) rfl) hS (Nat.le_of_ble_eq_true rfl) (Nat.le_of_ble_eq_true rfl) dX6_here_27

set_option maxHeartbeats 4000000 in
set_option maxRecDepth 100000 in
theorem m_clauseHere (l : Launch) (D : va_G) (cI cZ cQ cT : ClassId) (sz : Nat) (mo_ : Nat) (ms : Nat) (mi : Nat) (mb : Nat) (mt : Nat) (ml : Nat) (mx : Nat) (mc : Nat) (mn : Nat) (mp : Nat) (mo : Nat)  : MetV l yX6_clauseHere cX6_clauseHere 2 ({ frames := 1, cells := 0, slots := 0, locals := 20 } : Room) [.ref mo_] D (TYS cI cZ cQ cT) EF sz [(mo_, .inr (6, [.int 0, .ref ms, .ref mi, .int 0, .int 0, .int 0, .int 0, .int 0, .int 0, .ref mb, .ref mt, .ref ml, .ref mx, .int 0, .int 0, .int 0, .int 0, .int 0, .int 0, .ref mc, .int 0, .ref mn, .ref mp, .ref mo, .int 0, .int 0, .int 0, .int 0])), (ms, .inl (cI, 846, .inl (s0)))] (S := Unit) (fun (_ : Unit) => True) (fun _ => [(mo_, .inr (6, [.int 0, .ref ms, .ref mi, .int 0, .int 0, .int 0, .int 0, .int 1, .int 0, .ref mb, .ref mt, .ref ml, .ref mx, .int 0, .int 0, .int 0, .int 0, .int 0, .int 0, .ref mc, .int 0, .ref mn, .ref mp, .ref mo, .int 0, .int 0, .int 0, .int 0])), (ms, .inl (cI, 846, .inl (s0)))]) := by
  refine MetV.mk (lv := [(0, .ref mo_)]) (by decide +kernel) (Nat.le_of_ble_eq_true rfl) rfl ?_
  intro p e s m below meth c A ls C0 hP hD hS hX hl
  have C1 := C0
  obtain ⟨hx, hb, hr, hml, hown, hlocks, hname, hT, hN, hK, hA⟩ := C1
  refine lv_aload_n hx hb dX6_clauseHere_0 rfl (lv_at hl 0 rfl) ?_
  refine contI (wc := [(mo_, .inr (6, [.int 0, .ref ms, .ref mi, .int 0, .int 0, .int 0, .int 0, .int 0, .int 0, .ref mb, .ref mt, .ref ml, .ref mx, .int 0, .int 0, .int 0, .int 0, .int 0, .int 0, .ref mc, .int 0, .ref mn, .ref mp, .ref mo, .int 0, .int 0, .int 0, .int 0])), (ms, .inl (cI, 846, .inl (s0)))]) (wr := []) C0 hP hD hS [0, 1] [] rfl rfl (by decide) (by decide) 0 0 (Nat.le_of_ble_eq_true rfl) (Nat.le_of_ble_eq_true rfl) (runV (k := 0) (As := []) (rest := []) C0 (m_here l D cI cZ cQ cT _ mo_ ms mi mb mt ml mx 0 0 0 0 0 0 mc 0 mn mp mo) wc_X6_here wl_X6_63 wi_X6_here we_X6_here wz_X6 ⟨by decide, by decide, by decide +kernel⟩ ⟨(Nat.le_of_ble_eq_true rfl), (Nat.le_of_ble_eq_true rfl)⟩ hP hD hS EF.ok hX [0, 1] rfl (by decide) 0 rfl rfl rfl rfl hl.1 rfl (Nat.le_of_ble_eq_true rfl) dX6_clauseHere_1 ⟨(Nat.le_of_ble_eq_true rfl), (Nat.le_of_ble_eq_true rfl)⟩) (fun r_3 u_1 H locs w_2 hP hD hS => ?_)
  have hP : va_P D CL [(mo_, .inr (6, [.int 0, .ref ms, .ref mi, .int 0, .int 0, .int 0, .int 0, .int 0, .int 0, .ref mb, .ref mt, .ref ml, .ref mx, .int 0, .int 0, .int 0, .int 0, .int 0, .int 0, .ref mc, .int 0, .ref mn, .ref mp, .ref mo, .int 0, .int 0, .int 0, .int 0])), (ms, .inl (cI, 846, .inl (s0)))] H := hP
  have hD : va_D A [(mo_, .inr (6, [.int 0, .ref ms, .ref mi, .int 0, .int 0, .int 0, .int 0, .int 0, .int 0, .ref mb, .ref mt, .ref ml, .ref mx, .int 0, .int 0, .int 0, .int 0, .int 0, .int 0, .ref mc, .int 0, .ref mn, .ref mp, .ref mo, .int 0, .int 0, .int 0, .int 0])), (ms, .inl (cI, 846, .inl (s0)))] := hD
  obtain rfl : r_3 = (-1) := w_2
  refine lv_lookup (off := 94) (tgt := 98) hx hb dX6_clauseHere_4 (by decide) (by decide) (by decide) ?_
  refine lv_aload_n hx hb dX6_clauseHere_98 rfl (lv_at hl 0 rfl) ?_
  refine lv_iconst (v := 1) hx hb dX6_clauseHere_99 (by decide) ?_
  refine va_put (ci := 6) (v := .int 1) (ty := .boolean) (C := RX6) (T := TX6) (N := 28) hx hb hT wu_X6 tyX6 tyX6_ok nmX6 hown hK hP hD hS 0 rfl rfl 7 (by decide) (hT _ wf_X6_59) (fun _ h9 => h9) rfl (by decide +kernel) rfl rfl (Nat.le_of_ble_eq_true rfl) dX6_clauseHere_100 (fun H locs hP hD hS => ?_)
  have hP : va_P D CL [(mo_, .inr (6, [.int 0, .ref ms, .ref mi, .int 0, .int 0, .int 0, .int 0, .int 1, .int 0, .ref mb, .ref mt, .ref ml, .ref mx, .int 0, .int 0, .int 0, .int 0, .int 0, .int 0, .ref mc, .int 0, .ref mn, .ref mp, .ref mo, .int 0, .int 0, .int 0, .int 0])), (ms, .inl (cI, 846, .inl (s0)))] H := hP
  have hD : va_D A [(mo_, .inr (6, [.int 0, .ref ms, .ref mi, .int 0, .int 0, .int 0, .int 0, .int 1, .int 0, .ref mb, .ref mt, .ref ml, .ref mx, .int 0, .int 0, .int 0, .int 0, .int 0, .int 0, .ref mc, .int 0, .ref mn, .ref mp, .ref mo, .int 0, .int 0, .int 0, .int 0])), (ms, .inl (cI, 846, .inl (s0)))] := hD
  exact retV C0 () trivial (hP.sub (ws' := [(mo_, .inr (6, [.int 0, .ref ms, .ref mi, .int 0, .int 0, .int 0, .int 0, .int 1, .int 0, .ref mb, .ref mt, .ref ml, .ref mx, .int 0, .int 0, .int 0, .int 0, .int 0, .int 0, .ref mc, .int 0, .ref mn, .ref mp, .ref mo, .int 0, .int 0, .int 0, .int 0])), (ms, .inl (cI, 846, .inl (s0)))]) [0, 1] rfl) (hD.sub (ws' := [(mo_, .inr (6, [.int 0, .ref ms, .ref mi, .int 0, .int 0, .int 0, .int 0, .int 1, .int 0, .ref mb, .ref mt, .ref ml, .ref mx, .int 0, .int 0, .int 0, .int 0, .int 0, .int 0, .ref mc, .int 0, .ref mn, .ref mp, .ref mo, .int 0, .int 0, .int 0, .int 0])), (ms, .inl (cI, 846, .inl (s0)))]) [0, 1] (by decide) rfl) hS (Nat.le_of_ble_eq_true rfl) (Nat.le_of_ble_eq_true rfl) dX6_clauseHere_103

set_option maxHeartbeats 4000000 in
set_option maxRecDepth 100000 in
theorem m_town (l : Launch) (D : va_G) (cI cZ cQ cT : ClassId) (sz : Nat) (mo_ : Nat) (ms : Nat) (mi : Nat) (mb : Nat) (mt : Nat) (ml : Nat) (mx : Nat) (mc : Nat) (mn : Nat) (mp : Nat) (mo : Nat)  : MetI l yX6_town cX6_town 2 .int ({ frames := 2, cells := 0, slots := 0, locals := 41 } : Room) [.ref mo_] D (TYS cI cZ cQ cT) EF sz [(mo_, .inr (6, [.int 0, .ref ms, .ref mi, .int 0, .int 0, .int 0, .int 0, .int 0, .int 0, .ref mb, .ref mt, .ref ml, .ref mx, .int 0, .int 0, .int 0, .int 0, .int 0, .int 0, .ref mc, .int 0, .ref mn, .ref mp, .ref mo, .int 0, .int 0, .int 0, .int 0])), (ms, .inl (cI, 846, .inl (s0)))] (S := Unit) (fun (r : Int32) (_ : Unit) => r = (-10)) (fun _ => []) := by
  refine MetI.mk (lv := [(0, .ref mo_)]) (by decide +kernel) (Nat.le_of_ble_eq_true rfl) rfl ?_
  intro p e s m below meth c A ls C0 hP hD hS hX hl
  have C1 := C0
  obtain ⟨hx, hb, hr, hml, hown, hlocks, hname, hT, hN, hK, hA⟩ := C1
  refine lv_aload_n hx hb dX6_town_0 rfl (lv_at hl 0 rfl) ?_
  refine va_get (ci := 6) (v := .ref ms) (C := RX6) (T := TX6) (N := 28) hx hb hT wu_X6 hown hK hP 0 rfl rfl 1 (by decide) (hT _ wf_X6_7) (fun _ h9 => h9) rfl dX6_town_1 ?_
  refine lv_iconst (v := 1) hx hb dX6_town_4 (by decide) ?_
  refine va_iald hx hb hK hP 1 0 rfl rfl (vin _ _ (by decide +kernel)) dX6_town_5 ?_
  refine lv_ci 0 (by decide +kernel) ?_
  refine lv_iconst (v := 5) hx hb dX6_town_6 (by decide) ?_
  refine lv_icmp_ne (tgt := 13) hx hb dX6_town_7 (by decide) (fun _ => ?_) (fun c_0 => absurd c_0 (by decide))
  refine lv_aload_n hx hb dX6_town_13 rfl (lv_at hl 0 rfl) ?_
  refine lv_aload_n hx hb dX6_town_14 rfl (lv_at hl 0 rfl) ?_
  refine va_get (ci := 6) (v := .ref ms) (C := RX6) (T := TX6) (N := 28) hx hb hT wu_X6 hown hK hP 0 rfl rfl 1 (by decide) (hT _ wf_X6_7) (fun _ h9 => h9) rfl dX6_town_15 ?_
  refine lv_iconst (v := 1) hx hb dX6_town_18 (by decide) ?_
  refine va_iald hx hb hK hP 1 0 rfl rfl (vin _ _ (by decide +kernel)) dX6_town_19 ?_
  refine lv_ci 0 (by decide +kernel) ?_
  refine va_put (ci := 6) (v := .int 0) (ty := .int) (C := RX6) (T := TX6) (N := 28) hx hb hT wu_X6 tyX6 tyX6_ok nmX6 hown hK hP hD hS 0 rfl rfl 4 (by decide) (hT _ wf_X6_79) (fun _ h9 => h9) rfl (by decide +kernel) rfl rfl (Nat.le_of_ble_eq_true rfl) dX6_town_20 (fun H locs hP hD hS => ?_)
  have hP : va_P D CL [(mo_, .inr (6, [.int 0, .ref ms, .ref mi, .int 0, .int 0, .int 0, .int 0, .int 0, .int 0, .ref mb, .ref mt, .ref ml, .ref mx, .int 0, .int 0, .int 0, .int 0, .int 0, .int 0, .ref mc, .int 0, .ref mn, .ref mp, .ref mo, .int 0, .int 0, .int 0, .int 0])), (ms, .inl (cI, 846, .inl (s0)))] H := hP
  have hD : va_D A [(mo_, .inr (6, [.int 0, .ref ms, .ref mi, .int 0, .int 0, .int 0, .int 0, .int 0, .int 0, .ref mb, .ref mt, .ref ml, .ref mx, .int 0, .int 0, .int 0, .int 0, .int 0, .int 0, .ref mc, .int 0, .ref mn, .ref mp, .ref mo, .int 0, .int 0, .int 0, .int 0])), (ms, .inl (cI, 846, .inl (s0)))] := hD
  refine lv_aload_n hx hb dX6_town_23 rfl (lv_at hl 0 rfl) ?_
  refine lv_aload_n hx hb dX6_town_24 rfl (lv_at hl 0 rfl) ?_
  refine va_get (ci := 6) (v := .ref ms) (C := RX6) (T := TX6) (N := 28) hx hb hT wu_X6 hown hK hP 0 rfl rfl 1 (by decide) (hT _ wf_X6_7) (fun _ h9 => h9) rfl dX6_town_25 ?_
  refine lv_iconst (v := 3) hx hb dX6_town_28 (by decide) ?_
  refine va_iald hx hb hK hP 1 0 rfl rfl (vin _ _ (by decide +kernel)) dX6_town_29 ?_
  refine lv_ci 0 (by decide +kernel) ?_
  refine va_put (ci := 6) (v := .int 0) (ty := .int) (C := RX6) (T := TX6) (N := 28) hx hb hT wu_X6 tyX6 tyX6_ok nmX6 hown hK hP hD hS 0 rfl rfl 6 (by decide) (hT _ wf_X6_56) (fun _ h9 => h9) rfl (by decide +kernel) rfl rfl (Nat.le_of_ble_eq_true rfl) dX6_town_30 (fun H locs hP hD hS => ?_)
  have hP : va_P D CL [(mo_, .inr (6, [.int 0, .ref ms, .ref mi, .int 0, .int 0, .int 0, .int 0, .int 0, .int 0, .ref mb, .ref mt, .ref ml, .ref mx, .int 0, .int 0, .int 0, .int 0, .int 0, .int 0, .ref mc, .int 0, .ref mn, .ref mp, .ref mo, .int 0, .int 0, .int 0, .int 0])), (ms, .inl (cI, 846, .inl (s0)))] H := hP
  have hD : va_D A [(mo_, .inr (6, [.int 0, .ref ms, .ref mi, .int 0, .int 0, .int 0, .int 0, .int 0, .int 0, .ref mb, .ref mt, .ref ml, .ref mx, .int 0, .int 0, .int 0, .int 0, .int 0, .int 0, .ref mc, .int 0, .ref mn, .ref mp, .ref mo, .int 0, .int 0, .int 0, .int 0])), (ms, .inl (cI, 846, .inl (s0)))] := hD
  refine lv_aload_n hx hb dX6_town_33 rfl (lv_at hl 0 rfl) ?_
  refine va_get (ci := 6) (v := .ref ms) (C := RX6) (T := TX6) (N := 28) hx hb hT wu_X6 hown hK hP 0 rfl rfl 1 (by decide) (hT _ wf_X6_7) (fun _ h9 => h9) rfl dX6_town_34 ?_
  refine lv_iconst (v := 3) hx hb dX6_town_37 (by decide) ?_
  refine lv_iconst (v := 0) hx hb dX6_town_38 (by decide) ?_
  refine va_iast hx hb hK hP hD hS 1 0 rfl rfl (vin _ _ (by decide +kernel)) dX6_town_39 (fun H locs hP hD hS => ?_)
  have hP : va_P D CL [(mo_, .inr (6, [.int 0, .ref ms, .ref mi, .int 0, .int 0, .int 0, .int 0, .int 0, .int 0, .ref mb, .ref mt, .ref ml, .ref mx, .int 0, .int 0, .int 0, .int 0, .int 0, .int 0, .ref mc, .int 0, .ref mn, .ref mp, .ref mo, .int 0, .int 0, .int 0, .int 0])), (ms, .inl (cI, 846, .inl (upd (s0) ((3 : Int32)).toNatClampNeg 0)))] H := hP
  have hD : va_D A [(mo_, .inr (6, [.int 0, .ref ms, .ref mi, .int 0, .int 0, .int 0, .int 0, .int 0, .int 0, .ref mb, .ref mt, .ref ml, .ref mx, .int 0, .int 0, .int 0, .int 0, .int 0, .int 0, .ref mc, .int 0, .ref mn, .ref mp, .ref mo, .int 0, .int 0, .int 0, .int 0])), (ms, .inl (cI, 846, .inl (upd (s0) ((3 : Int32)).toNatClampNeg 0)))] := hD
  rw [upd_id (f := (s0)) (by decide +kernel)] at hP hD
  have hP : va_P D CL [(mo_, .inr (6, [.int 0, .ref ms, .ref mi, .int 0, .int 0, .int 0, .int 0, .int 0, .int 0, .ref mb, .ref mt, .ref ml, .ref mx, .int 0, .int 0, .int 0, .int 0, .int 0, .int 0, .ref mc, .int 0, .ref mn, .ref mp, .ref mo, .int 0, .int 0, .int 0, .int 0])), (ms, .inl (cI, 846, .inl (s0)))] H := hP
  have hD : va_D A [(mo_, .inr (6, [.int 0, .ref ms, .ref mi, .int 0, .int 0, .int 0, .int 0, .int 0, .int 0, .ref mb, .ref mt, .ref ml, .ref mx, .int 0, .int 0, .int 0, .int 0, .int 0, .int 0, .ref mc, .int 0, .ref mn, .ref mp, .ref mo, .int 0, .int 0, .int 0, .int 0])), (ms, .inl (cI, 846, .inl (s0)))] := hD
  refine lv_aload_n hx hb dX6_town_40 rfl (lv_at hl 0 rfl) ?_
  refine va_get (ci := 6) (v := .ref ms) (C := RX6) (T := TX6) (N := 28) hx hb hT wu_X6 hown hK hP 0 rfl rfl 1 (by decide) (hT _ wf_X6_7) (fun _ h9 => h9) rfl dX6_town_41 ?_
  refine lv_sipush (v := 136) hx hb dX6_town_44 (by decide) ?_
  refine lv_aload_n hx hb dX6_town_47 rfl (lv_at hl 0 rfl) ?_
  refine va_get (ci := 6) (v := .int 0) (C := RX6) (T := TX6) (N := 28) hx hb hT wu_X6 hown hK hP 0 rfl rfl 4 (by decide) (hT _ wf_X6_79) (fun _ h9 => h9) rfl dX6_town_48 ?_
  refine lv_iadd hx hb dX6_town_51 ?_
  refine lv_ci 136 (by decide +kernel) ?_
  refine lv_iconst (v := 0) hx hb dX6_town_52 (by decide) ?_
  refine va_iast hx hb hK hP hD hS 1 0 rfl rfl (vin _ _ (by decide +kernel)) dX6_town_53 (fun H locs hP hD hS => ?_)
  have hP : va_P D CL [(mo_, .inr (6, [.int 0, .ref ms, .ref mi, .int 0, .int 0, .int 0, .int 0, .int 0, .int 0, .ref mb, .ref mt, .ref ml, .ref mx, .int 0, .int 0, .int 0, .int 0, .int 0, .int 0, .ref mc, .int 0, .ref mn, .ref mp, .ref mo, .int 0, .int 0, .int 0, .int 0])), (ms, .inl (cI, 846, .inl (upd (s0) ((136 : Int32)).toNatClampNeg 0)))] H := hP
  have hD : va_D A [(mo_, .inr (6, [.int 0, .ref ms, .ref mi, .int 0, .int 0, .int 0, .int 0, .int 0, .int 0, .ref mb, .ref mt, .ref ml, .ref mx, .int 0, .int 0, .int 0, .int 0, .int 0, .int 0, .ref mc, .int 0, .ref mn, .ref mp, .ref mo, .int 0, .int 0, .int 0, .int 0])), (ms, .inl (cI, 846, .inl (upd (s0) ((136 : Int32)).toNatClampNeg 0)))] := hD
  rw [upd_id (f := (s0)) (by decide +kernel)] at hP hD
  have hP : va_P D CL [(mo_, .inr (6, [.int 0, .ref ms, .ref mi, .int 0, .int 0, .int 0, .int 0, .int 0, .int 0, .ref mb, .ref mt, .ref ml, .ref mx, .int 0, .int 0, .int 0, .int 0, .int 0, .int 0, .ref mc, .int 0, .ref mn, .ref mp, .ref mo, .int 0, .int 0, .int 0, .int 0])), (ms, .inl (cI, 846, .inl (s0)))] H := hP
  have hD : va_D A [(mo_, .inr (6, [.int 0, .ref ms, .ref mi, .int 0, .int 0, .int 0, .int 0, .int 0, .int 0, .ref mb, .ref mt, .ref ml, .ref mx, .int 0, .int 0, .int 0, .int 0, .int 0, .int 0, .ref mc, .int 0, .ref mn, .ref mp, .ref mo, .int 0, .int 0, .int 0, .int 0])), (ms, .inl (cI, 846, .inl (s0)))] := hD
  refine lv_aload_n hx hb dX6_town_54 rfl (lv_at hl 0 rfl) ?_
  refine va_get (ci := 6) (v := .ref ms) (C := RX6) (T := TX6) (N := 28) hx hb hT wu_X6 hown hK hP 0 rfl rfl 1 (by decide) (hT _ wf_X6_7) (fun _ h9 => h9) rfl dX6_town_55 ?_
  refine lv_sipush (v := 141) hx hb dX6_town_58 (by decide) ?_
  refine lv_aload_n hx hb dX6_town_61 rfl (lv_at hl 0 rfl) ?_
  refine va_get (ci := 6) (v := .int 0) (C := RX6) (T := TX6) (N := 28) hx hb hT wu_X6 hown hK hP 0 rfl rfl 4 (by decide) (hT _ wf_X6_79) (fun _ h9 => h9) rfl dX6_town_62 ?_
  refine lv_iadd hx hb dX6_town_65 ?_
  refine lv_ci 141 (by decide +kernel) ?_
  refine lv_iconst (v := 0) hx hb dX6_town_66 (by decide) ?_
  refine va_iast hx hb hK hP hD hS 1 0 rfl rfl (vin _ _ (by decide +kernel)) dX6_town_67 (fun H locs hP hD hS => ?_)
  have hP : va_P D CL [(mo_, .inr (6, [.int 0, .ref ms, .ref mi, .int 0, .int 0, .int 0, .int 0, .int 0, .int 0, .ref mb, .ref mt, .ref ml, .ref mx, .int 0, .int 0, .int 0, .int 0, .int 0, .int 0, .ref mc, .int 0, .ref mn, .ref mp, .ref mo, .int 0, .int 0, .int 0, .int 0])), (ms, .inl (cI, 846, .inl (upd (s0) ((141 : Int32)).toNatClampNeg 0)))] H := hP
  have hD : va_D A [(mo_, .inr (6, [.int 0, .ref ms, .ref mi, .int 0, .int 0, .int 0, .int 0, .int 0, .int 0, .ref mb, .ref mt, .ref ml, .ref mx, .int 0, .int 0, .int 0, .int 0, .int 0, .int 0, .ref mc, .int 0, .ref mn, .ref mp, .ref mo, .int 0, .int 0, .int 0, .int 0])), (ms, .inl (cI, 846, .inl (upd (s0) ((141 : Int32)).toNatClampNeg 0)))] := hD
  rw [upd_id (f := (s0)) (by decide +kernel)] at hP hD
  have hP : va_P D CL [(mo_, .inr (6, [.int 0, .ref ms, .ref mi, .int 0, .int 0, .int 0, .int 0, .int 0, .int 0, .ref mb, .ref mt, .ref ml, .ref mx, .int 0, .int 0, .int 0, .int 0, .int 0, .int 0, .ref mc, .int 0, .ref mn, .ref mp, .ref mo, .int 0, .int 0, .int 0, .int 0])), (ms, .inl (cI, 846, .inl (s0)))] H := hP
  have hD : va_D A [(mo_, .inr (6, [.int 0, .ref ms, .ref mi, .int 0, .int 0, .int 0, .int 0, .int 0, .int 0, .ref mb, .ref mt, .ref ml, .ref mx, .int 0, .int 0, .int 0, .int 0, .int 0, .int 0, .ref mc, .int 0, .ref mn, .ref mp, .ref mo, .int 0, .int 0, .int 0, .int 0])), (ms, .inl (cI, 846, .inl (s0)))] := hD
  refine lv_aload_n hx hb dX6_town_68 rfl (lv_at hl 0 rfl) ?_
  refine lv_iconst (v := 0) hx hb dX6_town_69 (by decide) ?_
  refine va_put (ci := 6) (v := .int 0) (ty := .int) (C := RX6) (T := TX6) (N := 28) hx hb hT wu_X6 tyX6 tyX6_ok nmX6 hown hK hP hD hS 0 rfl rfl 5 (by decide) (hT _ wf_X6_53) (fun _ h9 => h9) rfl (by decide +kernel) rfl rfl (Nat.le_of_ble_eq_true rfl) dX6_town_70 (fun H locs hP hD hS => ?_)
  have hP : va_P D CL [(mo_, .inr (6, [.int 0, .ref ms, .ref mi, .int 0, .int 0, .int 0, .int 0, .int 0, .int 0, .ref mb, .ref mt, .ref ml, .ref mx, .int 0, .int 0, .int 0, .int 0, .int 0, .int 0, .ref mc, .int 0, .ref mn, .ref mp, .ref mo, .int 0, .int 0, .int 0, .int 0])), (ms, .inl (cI, 846, .inl (s0)))] H := hP
  have hD : va_D A [(mo_, .inr (6, [.int 0, .ref ms, .ref mi, .int 0, .int 0, .int 0, .int 0, .int 0, .int 0, .ref mb, .ref mt, .ref ml, .ref mx, .int 0, .int 0, .int 0, .int 0, .int 0, .int 0, .ref mc, .int 0, .ref mn, .ref mp, .ref mo, .int 0, .int 0, .int 0, .int 0])), (ms, .inl (cI, 846, .inl (s0)))] := hD
  refine lv_aload_n hx hb dX6_town_73 rfl (lv_at hl 0 rfl) ?_
  refine lv_iconst (v := 0) hx hb dX6_town_74 (by decide) ?_
  refine va_put (ci := 6) (v := .int 0) (ty := .boolean) (C := RX6) (T := TX6) (N := 28) hx hb hT wu_X6 tyX6 tyX6_ok nmX6 hown hK hP hD hS 0 rfl rfl 7 (by decide) (hT _ wf_X6_59) (fun _ h9 => h9) rfl (by decide +kernel) rfl rfl (Nat.le_of_ble_eq_true rfl) dX6_town_75 (fun H locs hP hD hS => ?_)
  have hP : va_P D CL [(mo_, .inr (6, [.int 0, .ref ms, .ref mi, .int 0, .int 0, .int 0, .int 0, .int 0, .int 0, .ref mb, .ref mt, .ref ml, .ref mx, .int 0, .int 0, .int 0, .int 0, .int 0, .int 0, .ref mc, .int 0, .ref mn, .ref mp, .ref mo, .int 0, .int 0, .int 0, .int 0])), (ms, .inl (cI, 846, .inl (s0)))] H := hP
  have hD : va_D A [(mo_, .inr (6, [.int 0, .ref ms, .ref mi, .int 0, .int 0, .int 0, .int 0, .int 0, .int 0, .ref mb, .ref mt, .ref ml, .ref mx, .int 0, .int 0, .int 0, .int 0, .int 0, .int 0, .ref mc, .int 0, .ref mn, .ref mp, .ref mo, .int 0, .int 0, .int 0, .int 0])), (ms, .inl (cI, 846, .inl (s0)))] := hD
  refine lv_aload_n hx hb dX6_town_78 rfl (lv_at hl 0 rfl) ?_
  refine lv_iconst (v := 0) hx hb dX6_town_79 (by decide) ?_
  refine va_put (ci := 6) (v := .int 0) (ty := .int) (C := RX6) (T := TX6) (N := 28) hx hb hT wu_X6 tyX6 tyX6_ok nmX6 hown hK hP hD hS 0 rfl rfl 8 (by decide) (hT _ wf_X6_82) (fun _ h9 => h9) rfl (by decide +kernel) rfl rfl (Nat.le_of_ble_eq_true rfl) dX6_town_80 (fun H locs hP hD hS => ?_)
  have hP : va_P D CL [(mo_, .inr (6, [.int 0, .ref ms, .ref mi, .int 0, .int 0, .int 0, .int 0, .int 0, .int 0, .ref mb, .ref mt, .ref ml, .ref mx, .int 0, .int 0, .int 0, .int 0, .int 0, .int 0, .ref mc, .int 0, .ref mn, .ref mp, .ref mo, .int 0, .int 0, .int 0, .int 0])), (ms, .inl (cI, 846, .inl (s0)))] H := hP
  have hD : va_D A [(mo_, .inr (6, [.int 0, .ref ms, .ref mi, .int 0, .int 0, .int 0, .int 0, .int 0, .int 0, .ref mb, .ref mt, .ref ml, .ref mx, .int 0, .int 0, .int 0, .int 0, .int 0, .int 0, .ref mc, .int 0, .ref mn, .ref mp, .ref mo, .int 0, .int 0, .int 0, .int 0])), (ms, .inl (cI, 846, .inl (s0)))] := hD
  refine lv_iconst (v := 1) hx hb dX6_town_83 (by decide) ?_
  refine lv_istore_n (lv' := [(1, .int 1), (0, .ref mo_)]) hx hb dX6_town_84 rfl hl (by decide) rfl (fun ls hl => ?_)
  refine lv_aload_n hx hb dX6_town_85 rfl (lv_at hl 1 rfl) ?_
  refine contV (wc := [(mo_, .inr (6, [.int 0, .ref ms, .ref mi, .int 0, .int 0, .int 0, .int 0, .int 0, .int 0, .ref mb, .ref mt, .ref ml, .ref mx, .int 0, .int 0, .int 0, .int 0, .int 0, .int 0, .ref mc, .int 0, .ref mn, .ref mp, .ref mo, .int 0, .int 0, .int 0, .int 0])), (ms, .inl (cI, 846, .inl (s0)))]) (wr := []) C0 hP hD hS [0, 1] [] rfl rfl (by decide) (by decide) 0 0 (Nat.le_of_ble_eq_true rfl) (Nat.le_of_ble_eq_true rfl) (runV (k := 0) (As := []) (rest := []) C0 (m_clauseHere l D cI cZ cQ cT _ mo_ ms mi mb mt ml mx mc mn mp mo) wc_X6_clauseHere wl_X6_122 wi_X6_clauseHere we_X6_clauseHere wz_X6 ⟨by decide, by decide, by decide +kernel⟩ ⟨(Nat.le_of_ble_eq_true rfl), (Nat.le_of_ble_eq_true rfl)⟩ hP hD hS EF.ok hX [0, 1] rfl (by decide) 0 rfl rfl rfl rfl hl.1 rfl (Nat.le_of_ble_eq_true rfl) dX6_town_86 ⟨(Nat.le_of_ble_eq_true rfl), (Nat.le_of_ble_eq_true rfl)⟩) (fun u_1 H locs w_2 hP hD hS => ?_)
  have hP : va_P D CL [(mo_, .inr (6, [.int 0, .ref ms, .ref mi, .int 0, .int 0, .int 0, .int 0, .int 1, .int 0, .ref mb, .ref mt, .ref ml, .ref mx, .int 0, .int 0, .int 0, .int 0, .int 0, .int 0, .ref mc, .int 0, .ref mn, .ref mp, .ref mo, .int 0, .int 0, .int 0, .int 0])), (ms, .inl (cI, 846, .inl (s0)))] H := hP
  have hD : va_D A [(mo_, .inr (6, [.int 0, .ref ms, .ref mi, .int 0, .int 0, .int 0, .int 0, .int 1, .int 0, .ref mb, .ref mt, .ref ml, .ref mx, .int 0, .int 0, .int 0, .int 0, .int 0, .int 0, .ref mc, .int 0, .ref mn, .ref mp, .ref mo, .int 0, .int 0, .int 0, .int 0])), (ms, .inl (cI, 846, .inl (s0)))] := hD
  refine lv_aload_n hx hb dX6_town_89 rfl (lv_at hl 1 rfl) ?_
  refine va_get (ci := 6) (v := .int 1) (C := RX6) (T := TX6) (N := 28) hx hb hT wu_X6 hown hK hP 0 rfl rfl 7 (by decide) (hT _ wf_X6_59) (fun _ h9 => h9) rfl dX6_town_90 ?_
  refine lv_if_ne (tgt := 131) hx hb dX6_town_93 (by decide) (fun _ => ?_) (fun c_0 => absurd c_0 (by decide))
  refine lv_aload_n hx hb dX6_town_131 rfl (lv_at hl 1 rfl) ?_
  refine va_get (ci := 6) (v := .int 1) (C := RX6) (T := TX6) (N := 28) hx hb hT wu_X6 hown hK hP 0 rfl rfl 7 (by decide) (hT _ wf_X6_59) (fun _ h9 => h9) rfl dX6_town_132 ?_
  refine lv_if_ne (tgt := 149) hx hb dX6_town_135 (by decide) (fun _ => ?_) (fun c_0 => absurd c_0 (by decide))
  refine lv_bipush (v := (-10)) hx hb dX6_town_149 (by decide) ?_
  refine lv_aload_n hx hb dX6_town_151 rfl (lv_at hl 1 rfl) ?_
  refine va_get (ci := 6) (v := .int 0) (C := RX6) (T := TX6) (N := 28) hx hb hT wu_X6 hown hK hP 0 rfl rfl 5 (by decide) (hT _ wf_X6_53) (fun _ h9 => h9) rfl dX6_town_152 ?_
  refine lv_isub hx hb dX6_town_155 ?_
  refine lv_ci (-10) (by decide +kernel) ?_
  exact retI C0 rfl () rfl (hP.sub (ws' := []) [] rfl) (hD.sub (ws' := []) [] (by decide) rfl) hS (Nat.le_of_ble_eq_true rfl) (Nat.le_of_ble_eq_true rfl) dX6_town_156
end C3
