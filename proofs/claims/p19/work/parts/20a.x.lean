section GX
set_option maxHeartbeats 4000000 in
set_option maxRecDepth 100000 in
theorem c_bitCount (l : Launch) (D : va_G) (cI cZ cQ cT : ClassId) (sz : Nat) (bx : Int32)  : MetI l yJ6_bitCount_0f7a4 cJ6_bitCount_0f7a4 1 .int ({ frames := 0, cells := 0, slots := 0, locals := 0 } : Room) [.int bx] D (TYS cI cZ cQ cT) EF sz [] (S := Unit) (fun (r : Int32) (_ : Unit) => r = (bcE bx)) (fun _ => []) := by
  refine MetI.mk (lv := [(0, .int bx)]) (by decide +kernel) (Nat.le_of_ble_eq_true rfl) rfl ?_
  intro p e s m below meth c A ls C0 hP hD hS hX hl
  have C1 := C0
  obtain ⟨hx, hb, hr, hml, hown, hlocks, hname, hT, hN, hK, hA⟩ := C1
  refine lv_iload_n hx hb dJ6_bitCount_0f7a4_0 rfl (lv_at hl 0 rfl) ?_
  refine lv_iload_n hx hb dJ6_bitCount_0f7a4_1 rfl (lv_at hl 0 rfl) ?_
  refine lv_iconst (v := 1) hx hb dJ6_bitCount_0f7a4_2 (by decide) ?_
  refine lv_iushr (v := ((bx).toUInt32 >>> (((1 : Int32)).toUInt32 &&& Int32.toUInt32 31)).toInt32) hx hb dJ6_bitCount_0f7a4_3 rfl ?_
  refine lv_ldcw (v := 1431655765) hx hb hown (hT _ wk_J6_265) dJ6_bitCount_0f7a4_4 ?_
  refine lv_iand hx hb dJ6_bitCount_0f7a4_7 ?_
  refine lv_isub hx hb dJ6_bitCount_0f7a4_8 ?_
  refine lv_istore_n (lv' := [(0, .int (bx - ((((bx).toUInt32 >>> (((1 : Int32)).toUInt32 &&& Int32.toUInt32 31)).toInt32) &&& (1431655765 : Int32))))]) hx hb dJ6_bitCount_0f7a4_9 rfl hl (by decide) rfl (fun ls hl => ?_)
  refine lv_iload_n hx hb dJ6_bitCount_0f7a4_10 rfl (lv_at hl 0 rfl) ?_
  refine lv_ldcw (v := 858993459) hx hb hown (hT _ wk_J6_266) dJ6_bitCount_0f7a4_11 ?_
  refine lv_iand hx hb dJ6_bitCount_0f7a4_14 ?_
  refine lv_iload_n hx hb dJ6_bitCount_0f7a4_15 rfl (lv_at hl 0 rfl) ?_
  refine lv_iconst (v := 2) hx hb dJ6_bitCount_0f7a4_16 (by decide) ?_
  refine lv_iushr (v := (((bx - ((((bx).toUInt32 >>> (((1 : Int32)).toUInt32 &&& Int32.toUInt32 31)).toInt32) &&& (1431655765 : Int32)))).toUInt32 >>> (((2 : Int32)).toUInt32 &&& Int32.toUInt32 31)).toInt32) hx hb dJ6_bitCount_0f7a4_17 rfl ?_
  refine lv_ldcw (v := 858993459) hx hb hown (hT _ wk_J6_266) dJ6_bitCount_0f7a4_18 ?_
  refine lv_iand hx hb dJ6_bitCount_0f7a4_21 ?_
  refine lv_iadd hx hb dJ6_bitCount_0f7a4_22 ?_
  refine lv_istore_n (lv' := [(0, .int (((bx - ((((bx).toUInt32 >>> (((1 : Int32)).toUInt32 &&& Int32.toUInt32 31)).toInt32) &&& (1431655765 : Int32))) &&& (858993459 : Int32)) + (((((bx - ((((bx).toUInt32 >>> (((1 : Int32)).toUInt32 &&& Int32.toUInt32 31)).toInt32) &&& (1431655765 : Int32)))).toUInt32 >>> (((2 : Int32)).toUInt32 &&& Int32.toUInt32 31)).toInt32) &&& (858993459 : Int32))))]) hx hb dJ6_bitCount_0f7a4_23 rfl hl (by decide) rfl (fun ls hl => ?_)
  refine lv_iload_n hx hb dJ6_bitCount_0f7a4_24 rfl (lv_at hl 0 rfl) ?_
  refine lv_iload_n hx hb dJ6_bitCount_0f7a4_25 rfl (lv_at hl 0 rfl) ?_
  refine lv_iconst (v := 4) hx hb dJ6_bitCount_0f7a4_26 (by decide) ?_
  refine lv_iushr (v := (((((bx - ((((bx).toUInt32 >>> (((1 : Int32)).toUInt32 &&& Int32.toUInt32 31)).toInt32) &&& (1431655765 : Int32))) &&& (858993459 : Int32)) + (((((bx - ((((bx).toUInt32 >>> (((1 : Int32)).toUInt32 &&& Int32.toUInt32 31)).toInt32) &&& (1431655765 : Int32)))).toUInt32 >>> (((2 : Int32)).toUInt32 &&& Int32.toUInt32 31)).toInt32) &&& (858993459 : Int32)))).toUInt32 >>> (((4 : Int32)).toUInt32 &&& Int32.toUInt32 31)).toInt32) hx hb dJ6_bitCount_0f7a4_27 rfl ?_
  refine lv_iadd hx hb dJ6_bitCount_0f7a4_28 ?_
  refine lv_ldcw (v := 252645135) hx hb hown (hT _ wk_J6_267) dJ6_bitCount_0f7a4_29 ?_
  refine lv_iand hx hb dJ6_bitCount_0f7a4_32 ?_
  refine lv_istore_n (lv' := [(0, .int (((((bx - ((((bx).toUInt32 >>> (((1 : Int32)).toUInt32 &&& Int32.toUInt32 31)).toInt32) &&& (1431655765 : Int32))) &&& (858993459 : Int32)) + (((((bx - ((((bx).toUInt32 >>> (((1 : Int32)).toUInt32 &&& Int32.toUInt32 31)).toInt32) &&& (1431655765 : Int32)))).toUInt32 >>> (((2 : Int32)).toUInt32 &&& Int32.toUInt32 31)).toInt32) &&& (858993459 : Int32))) + ((((((bx - ((((bx).toUInt32 >>> (((1 : Int32)).toUInt32 &&& Int32.toUInt32 31)).toInt32) &&& (1431655765 : Int32))) &&& (858993459 : Int32)) + (((((bx - ((((bx).toUInt32 >>> (((1 : Int32)).toUInt32 &&& Int32.toUInt32 31)).toInt32) &&& (1431655765 : Int32)))).toUInt32 >>> (((2 : Int32)).toUInt32 &&& Int32.toUInt32 31)).toInt32) &&& (858993459 : Int32)))).toUInt32 >>> (((4 : Int32)).toUInt32 &&& Int32.toUInt32 31)).toInt32)) &&& (252645135 : Int32)))]) hx hb dJ6_bitCount_0f7a4_33 rfl hl (by decide) rfl (fun ls hl => ?_)
  refine lv_iload_n hx hb dJ6_bitCount_0f7a4_34 rfl (lv_at hl 0 rfl) ?_
  refine lv_iload_n hx hb dJ6_bitCount_0f7a4_35 rfl (lv_at hl 0 rfl) ?_
  refine lv_bipush (v := 8) hx hb dJ6_bitCount_0f7a4_36 (by decide) ?_
  refine lv_iushr (v := (((((((bx - ((((bx).toUInt32 >>> (((1 : Int32)).toUInt32 &&& Int32.toUInt32 31)).toInt32) &&& (1431655765 : Int32))) &&& (858993459 : Int32)) + (((((bx - ((((bx).toUInt32 >>> (((1 : Int32)).toUInt32 &&& Int32.toUInt32 31)).toInt32) &&& (1431655765 : Int32)))).toUInt32 >>> (((2 : Int32)).toUInt32 &&& Int32.toUInt32 31)).toInt32) &&& (858993459 : Int32))) + ((((((bx - ((((bx).toUInt32 >>> (((1 : Int32)).toUInt32 &&& Int32.toUInt32 31)).toInt32) &&& (1431655765 : Int32))) &&& (858993459 : Int32)) + (((((bx - ((((bx).toUInt32 >>> (((1 : Int32)).toUInt32 &&& Int32.toUInt32 31)).toInt32) &&& (1431655765 : Int32)))).toUInt32 >>> (((2 : Int32)).toUInt32 &&& Int32.toUInt32 31)).toInt32) &&& (858993459 : Int32)))).toUInt32 >>> (((4 : Int32)).toUInt32 &&& Int32.toUInt32 31)).toInt32)) &&& (252645135 : Int32))).toUInt32 >>> (((8 : Int32)).toUInt32 &&& Int32.toUInt32 31)).toInt32) hx hb dJ6_bitCount_0f7a4_38 rfl ?_
  refine lv_iadd hx hb dJ6_bitCount_0f7a4_39 ?_
  refine lv_istore_n (lv' := [(0, .int ((((((bx - ((((bx).toUInt32 >>> (((1 : Int32)).toUInt32 &&& Int32.toUInt32 31)).toInt32) &&& (1431655765 : Int32))) &&& (858993459 : Int32)) + (((((bx - ((((bx).toUInt32 >>> (((1 : Int32)).toUInt32 &&& Int32.toUInt32 31)).toInt32) &&& (1431655765 : Int32)))).toUInt32 >>> (((2 : Int32)).toUInt32 &&& Int32.toUInt32 31)).toInt32) &&& (858993459 : Int32))) + ((((((bx - ((((bx).toUInt32 >>> (((1 : Int32)).toUInt32 &&& Int32.toUInt32 31)).toInt32) &&& (1431655765 : Int32))) &&& (858993459 : Int32)) + (((((bx - ((((bx).toUInt32 >>> (((1 : Int32)).toUInt32 &&& Int32.toUInt32 31)).toInt32) &&& (1431655765 : Int32)))).toUInt32 >>> (((2 : Int32)).toUInt32 &&& Int32.toUInt32 31)).toInt32) &&& (858993459 : Int32)))).toUInt32 >>> (((4 : Int32)).toUInt32 &&& Int32.toUInt32 31)).toInt32)) &&& (252645135 : Int32)) + ((((((((bx - ((((bx).toUInt32 >>> (((1 : Int32)).toUInt32 &&& Int32.toUInt32 31)).toInt32) &&& (1431655765 : Int32))) &&& (858993459 : Int32)) + (((((bx - ((((bx).toUInt32 >>> (((1 : Int32)).toUInt32 &&& Int32.toUInt32 31)).toInt32) &&& (1431655765 : Int32)))).toUInt32 >>> (((2 : Int32)).toUInt32 &&& Int32.toUInt32 31)).toInt32) &&& (858993459 : Int32))) + ((((((bx - ((((bx).toUInt32 >>> (((1 : Int32)).toUInt32 &&& Int32.toUInt32 31)).toInt32) &&& (1431655765 : Int32))) &&& (858993459 : Int32)) + (((((bx - ((((bx).toUInt32 >>> (((1 : Int32)).toUInt32 &&& Int32.toUInt32 31)).toInt32) &&& (1431655765 : Int32)))).toUInt32 >>> (((2 : Int32)).toUInt32 &&& Int32.toUInt32 31)).toInt32) &&& (858993459 : Int32)))).toUInt32 >>> (((4 : Int32)).toUInt32 &&& Int32.toUInt32 31)).toInt32)) &&& (252645135 : Int32))).toUInt32 >>> (((8 : Int32)).toUInt32 &&& Int32.toUInt32 31)).toInt32)))]) hx hb dJ6_bitCount_0f7a4_40 rfl hl (by decide) rfl (fun ls hl => ?_)
  refine lv_iload_n hx hb dJ6_bitCount_0f7a4_41 rfl (lv_at hl 0 rfl) ?_
  refine lv_iload_n hx hb dJ6_bitCount_0f7a4_42 rfl (lv_at hl 0 rfl) ?_
  refine lv_bipush (v := 16) hx hb dJ6_bitCount_0f7a4_43 (by decide) ?_
  refine lv_iushr (v := ((((((((bx - ((((bx).toUInt32 >>> (((1 : Int32)).toUInt32 &&& Int32.toUInt32 31)).toInt32) &&& (1431655765 : Int32))) &&& (858993459 : Int32)) + (((((bx - ((((bx).toUInt32 >>> (((1 : Int32)).toUInt32 &&& Int32.toUInt32 31)).toInt32) &&& (1431655765 : Int32)))).toUInt32 >>> (((2 : Int32)).toUInt32 &&& Int32.toUInt32 31)).toInt32) &&& (858993459 : Int32))) + ((((((bx - ((((bx).toUInt32 >>> (((1 : Int32)).toUInt32 &&& Int32.toUInt32 31)).toInt32) &&& (1431655765 : Int32))) &&& (858993459 : Int32)) + (((((bx - ((((bx).toUInt32 >>> (((1 : Int32)).toUInt32 &&& Int32.toUInt32 31)).toInt32) &&& (1431655765 : Int32)))).toUInt32 >>> (((2 : Int32)).toUInt32 &&& Int32.toUInt32 31)).toInt32) &&& (858993459 : Int32)))).toUInt32 >>> (((4 : Int32)).toUInt32 &&& Int32.toUInt32 31)).toInt32)) &&& (252645135 : Int32)) + ((((((((bx - ((((bx).toUInt32 >>> (((1 : Int32)).toUInt32 &&& Int32.toUInt32 31)).toInt32) &&& (1431655765 : Int32))) &&& (858993459 : Int32)) + (((((bx - ((((bx).toUInt32 >>> (((1 : Int32)).toUInt32 &&& Int32.toUInt32 31)).toInt32) &&& (1431655765 : Int32)))).toUInt32 >>> (((2 : Int32)).toUInt32 &&& Int32.toUInt32 31)).toInt32) &&& (858993459 : Int32))) + ((((((bx - ((((bx).toUInt32 >>> (((1 : Int32)).toUInt32 &&& Int32.toUInt32 31)).toInt32) &&& (1431655765 : Int32))) &&& (858993459 : Int32)) + (((((bx - ((((bx).toUInt32 >>> (((1 : Int32)).toUInt32 &&& Int32.toUInt32 31)).toInt32) &&& (1431655765 : Int32)))).toUInt32 >>> (((2 : Int32)).toUInt32 &&& Int32.toUInt32 31)).toInt32) &&& (858993459 : Int32)))).toUInt32 >>> (((4 : Int32)).toUInt32 &&& Int32.toUInt32 31)).toInt32)) &&& (252645135 : Int32))).toUInt32 >>> (((8 : Int32)).toUInt32 &&& Int32.toUInt32 31)).toInt32))).toUInt32 >>> (((16 : Int32)).toUInt32 &&& Int32.toUInt32 31)).toInt32) hx hb dJ6_bitCount_0f7a4_45 rfl ?_
  refine lv_iadd hx hb dJ6_bitCount_0f7a4_46 ?_
  refine lv_istore_n (lv' := [(0, .int (((((((bx - ((((bx).toUInt32 >>> (((1 : Int32)).toUInt32 &&& Int32.toUInt32 31)).toInt32) &&& (1431655765 : Int32))) &&& (858993459 : Int32)) + (((((bx - ((((bx).toUInt32 >>> (((1 : Int32)).toUInt32 &&& Int32.toUInt32 31)).toInt32) &&& (1431655765 : Int32)))).toUInt32 >>> (((2 : Int32)).toUInt32 &&& Int32.toUInt32 31)).toInt32) &&& (858993459 : Int32))) + ((((((bx - ((((bx).toUInt32 >>> (((1 : Int32)).toUInt32 &&& Int32.toUInt32 31)).toInt32) &&& (1431655765 : Int32))) &&& (858993459 : Int32)) + (((((bx - ((((bx).toUInt32 >>> (((1 : Int32)).toUInt32 &&& Int32.toUInt32 31)).toInt32) &&& (1431655765 : Int32)))).toUInt32 >>> (((2 : Int32)).toUInt32 &&& Int32.toUInt32 31)).toInt32) &&& (858993459 : Int32)))).toUInt32 >>> (((4 : Int32)).toUInt32 &&& Int32.toUInt32 31)).toInt32)) &&& (252645135 : Int32)) + ((((((((bx - ((((bx).toUInt32 >>> (((1 : Int32)).toUInt32 &&& Int32.toUInt32 31)).toInt32) &&& (1431655765 : Int32))) &&& (858993459 : Int32)) + (((((bx - ((((bx).toUInt32 >>> (((1 : Int32)).toUInt32 &&& Int32.toUInt32 31)).toInt32) &&& (1431655765 : Int32)))).toUInt32 >>> (((2 : Int32)).toUInt32 &&& Int32.toUInt32 31)).toInt32) &&& (858993459 : Int32))) + ((((((bx - ((((bx).toUInt32 >>> (((1 : Int32)).toUInt32 &&& Int32.toUInt32 31)).toInt32) &&& (1431655765 : Int32))) &&& (858993459 : Int32)) + (((((bx - ((((bx).toUInt32 >>> (((1 : Int32)).toUInt32 &&& Int32.toUInt32 31)).toInt32) &&& (1431655765 : Int32)))).toUInt32 >>> (((2 : Int32)).toUInt32 &&& Int32.toUInt32 31)).toInt32) &&& (858993459 : Int32)))).toUInt32 >>> (((4 : Int32)).toUInt32 &&& Int32.toUInt32 31)).toInt32)) &&& (252645135 : Int32))).toUInt32 >>> (((8 : Int32)).toUInt32 &&& Int32.toUInt32 31)).toInt32)) + (((((((((bx - ((((bx).toUInt32 >>> (((1 : Int32)).toUInt32 &&& Int32.toUInt32 31)).toInt32) &&& (1431655765 : Int32))) &&& (858993459 : Int32)) + (((((bx - ((((bx).toUInt32 >>> (((1 : Int32)).toUInt32 &&& Int32.toUInt32 31)).toInt32) &&& (1431655765 : Int32)))).toUInt32 >>> (((2 : Int32)).toUInt32 &&& Int32.toUInt32 31)).toInt32) &&& (858993459 : Int32))) + ((((((bx - ((((bx).toUInt32 >>> (((1 : Int32)).toUInt32 &&& Int32.toUInt32 31)).toInt32) &&& (1431655765 : Int32))) &&& (858993459 : Int32)) + (((((bx - ((((bx).toUInt32 >>> (((1 : Int32)).toUInt32 &&& Int32.toUInt32 31)).toInt32) &&& (1431655765 : Int32)))).toUInt32 >>> (((2 : Int32)).toUInt32 &&& Int32.toUInt32 31)).toInt32) &&& (858993459 : Int32)))).toUInt32 >>> (((4 : Int32)).toUInt32 &&& Int32.toUInt32 31)).toInt32)) &&& (252645135 : Int32)) + ((((((((bx - ((((bx).toUInt32 >>> (((1 : Int32)).toUInt32 &&& Int32.toUInt32 31)).toInt32) &&& (1431655765 : Int32))) &&& (858993459 : Int32)) + (((((bx - ((((bx).toUInt32 >>> (((1 : Int32)).toUInt32 &&& Int32.toUInt32 31)).toInt32) &&& (1431655765 : Int32)))).toUInt32 >>> (((2 : Int32)).toUInt32 &&& Int32.toUInt32 31)).toInt32) &&& (858993459 : Int32))) + ((((((bx - ((((bx).toUInt32 >>> (((1 : Int32)).toUInt32 &&& Int32.toUInt32 31)).toInt32) &&& (1431655765 : Int32))) &&& (858993459 : Int32)) + (((((bx - ((((bx).toUInt32 >>> (((1 : Int32)).toUInt32 &&& Int32.toUInt32 31)).toInt32) &&& (1431655765 : Int32)))).toUInt32 >>> (((2 : Int32)).toUInt32 &&& Int32.toUInt32 31)).toInt32) &&& (858993459 : Int32)))).toUInt32 >>> (((4 : Int32)).toUInt32 &&& Int32.toUInt32 31)).toInt32)) &&& (252645135 : Int32))).toUInt32 >>> (((8 : Int32)).toUInt32 &&& Int32.toUInt32 31)).toInt32))).toUInt32 >>> (((16 : Int32)).toUInt32 &&& Int32.toUInt32 31)).toInt32)))]) hx hb dJ6_bitCount_0f7a4_47 rfl hl (by decide) rfl (fun ls hl => ?_)
  refine lv_iload_n hx hb dJ6_bitCount_0f7a4_48 rfl (lv_at hl 0 rfl) ?_
  refine lv_bipush (v := 63) hx hb dJ6_bitCount_0f7a4_49 (by decide) ?_
  refine lv_iand hx hb dJ6_bitCount_0f7a4_51 ?_
  exact retI C0 rfl () rfl (hP.sub (ws' := []) [] rfl) (hD.sub (ws' := []) [] (by decide) rfl) hS (Nat.le_of_ble_eq_true rfl) (Nat.le_of_ble_eq_true rfl) dJ6_bitCount_0f7a4_52

set_option maxHeartbeats 4000000 in
set_option maxRecDepth 100000 in
theorem c_bit (l : Launch) (D : va_G) (cI cZ cQ cT : ClassId) (sz : Nat) (bn : Nat) (kn : Nat) (hbn : bn < 2147483648) (hkn : kn < 32) : MetI l yX5_bit cX5_bit 2 .int ({ frames := 0, cells := 0, slots := 0, locals := 0 } : Room) [.int (nI bn), .int (nI kn)] D (TYS cI cZ cQ cT) EF sz [] (S := Unit) (fun (r : Int32) (_ : Unit) => r = (nI (bn / 2 ^ kn % 2))) (fun _ => []) := by
  refine MetI.mk (lv := [(0, .int (nI bn)), (1, .int (nI kn))]) (by decide +kernel) (Nat.le_of_ble_eq_true rfl) rfl ?_
  intro p e s m below meth c A ls C0 hP hD hS hX hl
  have C1 := C0
  obtain ⟨hx, hb, hr, hml, hown, hlocks, hname, hT, hN, hK, hA⟩ := C1
  refine lv_iload_n hx hb dX5_bit_0 rfl (lv_at hl 0 rfl) ?_
  refine lv_iload_n hx hb dX5_bit_1 rfl (lv_at hl 1 rfl) ?_
  refine lv_ishr hx hb dX5_bit_2 ?_
  refine lv_ci (nI (bn / 2 ^ kn)) (shrN (a := bn) (k := kn) (by omega) (by omega)) ?_
  have hq_1 : (bn / 2 ^ kn) ≤ bn := Nat.div_le_self _ _
  refine lv_iconst (v := 1) hx hb dX5_bit_3 (by decide) ?_
  refine lv_iand hx hb dX5_bit_4 ?_
  refine lv_ci (nI ((bn / 2 ^ kn) % 2)) (pk_andN (n := (bn / 2 ^ kn)) (by omega) 1 (by decide +kernel)) ?_
  exact retI C0 rfl () rfl (hP.sub (ws' := []) [] rfl) (hD.sub (ws' := []) [] (by decide) rfl) hS (Nat.le_of_ble_eq_true rfl) (Nat.le_of_ble_eq_true rfl) dX5_bit_5

set_option maxHeartbeats 4000000 in
set_option maxRecDepth 100000 in
theorem c_ownRow (l : Launch) (D : va_G) (cI cZ cQ cT : ClassId) (sz : Nat) (pn : Nat) (dn : Nat) (hpn : pn < 4) (hdn : dn < 4096) : MetI l yX5_ownRow cX5_ownRow 2 .int ({ frames := 0, cells := 0, slots := 0, locals := 0 } : Room) [.int (nI pn), .int (nI dn)] D (TYS cI cZ cQ cT) EF sz [] (S := Unit) (fun (r : Int32) (_ : Unit) => r = (nI (dn / 8 ^ pn % 8))) (fun _ => []) := by
  refine MetI.mk (lv := [(0, .int (nI pn)), (1, .int (nI dn))]) (by decide +kernel) (Nat.le_of_ble_eq_true rfl) rfl ?_
  intro p e s m below meth c A ls C0 hP hD hS hX hl
  have C1 := C0
  obtain ⟨hx, hb, hr, hml, hown, hlocks, hname, hT, hN, hK, hA⟩ := C1
  refine lv_iload_n hx hb dX5_ownRow_0 rfl (lv_at hl 1 rfl) ?_
  refine lv_iconst (v := 3) hx hb dX5_ownRow_1 (by decide) ?_
  refine lv_iload_n hx hb dX5_ownRow_2 rfl (lv_at hl 0 rfl) ?_
  refine lv_imul hx hb dX5_ownRow_3 ?_
  refine lv_ci (nI (3 * pn)) (pk_mul 3 pn) ?_
  refine lv_ishr hx hb dX5_ownRow_4 ?_
  refine lv_ci (nI (dn / 2 ^ (3 * pn))) (shrN (a := dn) (k := (3 * pn)) (by omega) (by omega)) ?_
  have hq_1 : (dn / 2 ^ (3 * pn)) ≤ dn := Nat.div_le_self _ _
  refine lv_bipush (v := 7) hx hb dX5_ownRow_5 (by decide) ?_
  refine lv_iand hx hb dX5_ownRow_7 ?_
  refine lv_ci (nI ((dn / 2 ^ (3 * pn)) % 8)) (pk_andN (n := (dn / 2 ^ (3 * pn))) (by omega) 3 (by decide +kernel)) ?_
  exact retI C0 rfl () (congrArg nI (by rw [eight])) (hP.sub (ws' := []) [] rfl) (hD.sub (ws' := []) [] (by decide) rfl) hS (Nat.le_of_ble_eq_true rfl) (Nat.le_of_ble_eq_true rfl) dX5_ownRow_8

set_option maxHeartbeats 4000000 in
set_option maxRecDepth 100000 in
theorem c_isPart (l : Launch) (D : va_G) (cI cZ cQ cT : ClassId) (sz : Nat) (what : Int32)  : MetI l yX5_isPart cX5_isPart 1 .boolean ({ frames := 0, cells := 0, slots := 0, locals := 0 } : Room) [.int what] D (TYS cI cZ cQ cT) EF sz [] (S := Unit) (fun (r : Int32) (_ : Unit) => r = (if (what = 0 ∨ what = 1) then 1 else 0)) (fun _ => []) := by
  refine MetI.mk (lv := [(0, .int what)]) (by decide +kernel) (Nat.le_of_ble_eq_true rfl) rfl ?_
  intro p e s m below meth c A ls C0 hP hD hS hX hl
  have C1 := C0
  obtain ⟨hx, hb, hr, hml, hown, hlocks, hname, hT, hN, hK, hA⟩ := C1
  refine lv_iload_n hx hb dX5_isPart_0 rfl (lv_at hl 0 rfl) ?_
  refine lv_if_eq (tgt := 9) hx hb dX5_isPart_1 (by decide) (fun c_1 => ?_) (fun c_1 => ?_)
  · refine lv_iconst (v := 1) hx hb dX5_isPart_9 (by decide) ?_
    refine lv_goto (tgt := 14) hx hb dX5_isPart_10 (by decide) ?_
    exact retI C0 rfl () ((if_pos (by have h_0 := c_1; have z0 : (0 : Int32).toInt = 0 := (by decide); have z1 : (1 : Int32).toInt = 1 := (by decide); simp only [le_i, lt_i, eq_i] at h_0 ⊢; omega : (what = (0 : Int32) ∨ what = (1 : Int32)))).symm) (hP.sub (ws' := []) [] rfl) (hD.sub (ws' := []) [] (by decide) rfl) hS (Nat.le_of_ble_eq_true rfl) (Nat.le_of_ble_eq_true rfl) dX5_isPart_14
  · refine lv_iload_n hx hb dX5_isPart_4 rfl (lv_at hl 0 rfl) ?_
    refine lv_iconst (v := 1) hx hb dX5_isPart_5 (by decide) ?_
    refine lv_icmp_ne (tgt := 13) hx hb dX5_isPart_6 (by decide) (fun c_2 => ?_) (fun c_2 => ?_)
    · refine lv_iconst (v := 0) hx hb dX5_isPart_13 (by decide) ?_
      exact retI C0 rfl () ((if_neg (by have h_0 := c_1; have h_1 := c_2; have z0 : (0 : Int32).toInt = 0 := (by decide); have z1 : (1 : Int32).toInt = 1 := (by decide); simp only [le_i, lt_i, eq_i] at h_0 h_1 ⊢; omega : ¬ (what = (0 : Int32) ∨ what = (1 : Int32)))).symm) (hP.sub (ws' := []) [] rfl) (hD.sub (ws' := []) [] (by decide) rfl) hS (Nat.le_of_ble_eq_true rfl) (Nat.le_of_ble_eq_true rfl) dX5_isPart_14
    · refine lv_iconst (v := 1) hx hb dX5_isPart_9 (by decide) ?_
      refine lv_goto (tgt := 14) hx hb dX5_isPart_10 (by decide) ?_
      exact retI C0 rfl () ((if_pos (by have h_0 := c_1; have h_1 := c_2; have z0 : (0 : Int32).toInt = 0 := (by decide); have z1 : (1 : Int32).toInt = 1 := (by decide); simp only [le_i, lt_i, eq_i] at h_0 h_1 ⊢; omega : (what = (0 : Int32) ∨ what = (1 : Int32)))).symm) (hP.sub (ws' := []) [] rfl) (hD.sub (ws' := []) [] (by decide) rfl) hS (Nat.le_of_ble_eq_true rfl) (Nat.le_of_ble_eq_true rfl) dX5_isPart_14

set_option maxHeartbeats 4000000 in
set_option maxRecDepth 100000 in
theorem c_isHour (l : Launch) (D : va_G) (cI cZ cQ cT : ClassId) (sz : Nat) (hour : Int32)  : MetI l yX5_isHour cX5_isHour 1 .boolean ({ frames := 0, cells := 0, slots := 0, locals := 0 } : Room) [.int hour] D (TYS cI cZ cQ cT) EF sz [] (S := Unit) (fun (r : Int32) (_ : Unit) => r = (if (0 ≤ hour ∧ hour < nI 3) then 1 else 0)) (fun _ => []) := by
  refine MetI.mk (lv := [(0, .int hour)]) (by decide +kernel) (Nat.le_of_ble_eq_true rfl) rfl ?_
  intro p e s m below meth c A ls C0 hP hD hS hX hl
  have C1 := C0
  obtain ⟨hx, hb, hr, hml, hown, hlocks, hname, hT, hN, hK, hA⟩ := C1
  refine lv_iload_n hx hb dX5_isHour_0 rfl (lv_at hl 0 rfl) ?_
  refine lv_if_lt (tgt := 13) hx hb dX5_isHour_1 (by decide) (fun c_1 => ?_) (fun c_1 => ?_)
  · refine lv_iconst (v := 0) hx hb dX5_isHour_13 (by decide) ?_
    exact retI C0 rfl () ((if_neg (show ¬ ((0 : Int32) ≤ hour ∧ hour < nI 3) from (by have h_0 := c_1; have z0 : (0 : Int32).toInt = 0 := (by decide); have z3 : (3 : Int32).toInt = 3 := (by decide); simp only [le_i, lt_i, eq_i] at h_0 ⊢; omega : ¬ ((0 : Int32) ≤ hour ∧ hour < (3 : Int32))))).symm) (hP.sub (ws' := []) [] rfl) (hD.sub (ws' := []) [] (by decide) rfl) hS (Nat.le_of_ble_eq_true rfl) (Nat.le_of_ble_eq_true rfl) dX5_isHour_14
  · refine lv_iload_n hx hb dX5_isHour_4 rfl (lv_at hl 0 rfl) ?_
    refine lv_iconst (v := 3) hx hb dX5_isHour_5 (by decide) ?_
    refine lv_icmp_ge (tgt := 13) hx hb dX5_isHour_6 (by decide) (fun c_2 => ?_) (fun c_2 => ?_)
    · refine lv_iconst (v := 0) hx hb dX5_isHour_13 (by decide) ?_
      exact retI C0 rfl () ((if_neg (show ¬ ((0 : Int32) ≤ hour ∧ hour < nI 3) from (by have h_0 := c_1; have h_1 := c_2; have z0 : (0 : Int32).toInt = 0 := (by decide); have z3 : (3 : Int32).toInt = 3 := (by decide); simp only [le_i, lt_i, eq_i] at h_0 h_1 ⊢; omega : ¬ ((0 : Int32) ≤ hour ∧ hour < (3 : Int32))))).symm) (hP.sub (ws' := []) [] rfl) (hD.sub (ws' := []) [] (by decide) rfl) hS (Nat.le_of_ble_eq_true rfl) (Nat.le_of_ble_eq_true rfl) dX5_isHour_14
    · refine lv_iconst (v := 1) hx hb dX5_isHour_9 (by decide) ?_
      refine lv_goto (tgt := 14) hx hb dX5_isHour_10 (by decide) ?_
      exact retI C0 rfl () ((if_pos (show (0 : Int32) ≤ hour ∧ hour < nI 3 from (by have h_0 := c_1; have h_1 := c_2; have z0 : (0 : Int32).toInt = 0 := (by decide); have z3 : (3 : Int32).toInt = 3 := (by decide); simp only [le_i, lt_i, eq_i] at h_0 h_1 ⊢; omega : ((0 : Int32) ≤ hour ∧ hour < (3 : Int32))))).symm) (hP.sub (ws' := []) [] rfl) (hD.sub (ws' := []) [] (by decide) rfl) hS (Nat.le_of_ble_eq_true rfl) (Nat.le_of_ble_eq_true rfl) dX5_isHour_14

set_option maxHeartbeats 4000000 in
set_option maxRecDepth 100000 in
theorem c_commonDivisor (l : Launch) (D : va_G) (cI cZ cQ cT : ClassId) (sz : Nat) (an9 : Nat) (bn9 : Nat) (ha : 0 < an9) (ha2 : an9 ≤ 4096) (hb2 : bn9 ≤ 4096) : MetI l yX5_commonDivisor cX5_commonDivisor 4 .int ({ frames := 0, cells := 0, slots := 0, locals := 0 } : Room) [.int (nI an9), .int (nI bn9)] D (TYS cI cZ cQ cT) EF sz [] (S := Unit) (fun (r : Int32) (_ : Unit) => r = (nI (Nat.gcd an9 bn9))) (fun _ => []) := by
  refine MetI.mk (lv := [(0, .int (nI an9)), (1, .int (nI bn9))]) (by decide +kernel) (Nat.le_of_ble_eq_true rfl) rfl ?_
  intro p e s m below meth c A ls C0 hP hD hS hX hl
  have C1 := C0
  obtain ⟨hx, hb, hr, hml, hown, hlocks, hname, hT, hN, hK, hA⟩ := C1
  refine lv_iconst (v := 0) hx hb dX5_commonDivisor_0 (by decide) ?_
  refine lv_istore_n (lv' := [(2, .int 0), (0, .int (nI an9)), (1, .int (nI bn9))]) hx hb dX5_commonDivisor_1 rfl hl (by decide) rfl (fun ls hl => ?_)
  have LOOP_1 : ∀ (fu_ : Nat) (k_ : Nat) (x_ : Nat) (y_ : Nat) (H : Heap) (locs : List Loc) (ls : Array Slot), (100 - k_) < fu_ → (k_ ≤ 100) → (0 < x_) → (GB x_ y_ k_) → (Nat.gcd an9 bn9 = Nat.gcd x_ y_) → va_P D CL [] H → va_D A [] → va_S A s.heap H locs → lv_has ls 4 [(0, .int (nI x_)), (1, .int (nI y_)), (2, .int (nI k_))] → W p l e ({ frames := 0, cells := 0, slots := 0, locals := 0 } : Room) s m [.int (nI an9), .int (nI bn9)].toArray below meth c H locs 0 0 (MQ below (va_Qi (S := Unit) (fun (r : Int32) (_ : Unit) => r = (nI (Nat.gcd an9 bn9))) (fun _ => wE D (TYS cI cZ cQ cT) A []) A) [.int (nI an9), .int (nI bn9)].toArray s 0 0 A) (F0 m 2 ls [])  := by
    intro fu_
    induction fu_ with
    | zero => intro k_ x_ y_ H locs ls hk_; exact absurd hk_ (Nat.not_lt_zero _)
    | succ fu_ ih_2 =>
      intro k_ x_ y_ H locs ls hk_ i1 i2 iB iG hP hD hS hl
      refine lv_iload_n hx hb dX5_commonDivisor_2 rfl (lv_at hl 2 rfl) ?_
      have hle_ := iB.le
      refine lv_bipush (v := 100) hx hb dX5_commonDivisor_3 (by decide) ?_
      refine lv_icmp_ge (tgt := 26) hx hb dX5_commonDivisor_5 (by decide) (fun c_3 => ?_) (fun c_3 => ?_)
      · have n_4 : 100 ≤ k_ := (nI_leI (a := 100) (b := k_) (by omega) (by omega)).mp c_3
        refine lv_iload_n hx hb dX5_commonDivisor_26 rfl (lv_at hl 0 rfl) ?_
        exact retI C0 rfl () (congrArg nI (by rw [iG, show y_ = 0 by first | omega | exact GB.done (by have h9_ := iB; rw [show k_ = 100 by omega] at h9_; exact h9_), Nat.gcd_zero_right])) (hP.sub (ws' := []) [] rfl) (hD.sub (ws' := []) [] (by decide) rfl) hS (Nat.le_of_ble_eq_true rfl) (Nat.le_of_ble_eq_true rfl) dX5_commonDivisor_27
      · have n_5 : ¬ 100 ≤ k_ := fun hx9_ => c_3 ((nI_leI (a := 100) (b := k_) (by omega) (by omega)).mpr hx9_)
        refine lv_iload_n hx hb dX5_commonDivisor_8 rfl (lv_at hl 1 rfl) ?_
        refine lv_if_eq (tgt := 26) hx hb dX5_commonDivisor_9 (by decide) (fun c_6 => ?_) (fun c_6 => ?_)
        · have n_7 : y_ = 0 := (nI_eq (a := y_) (b := 0) (by omega) (by omega)).mp c_6
          refine lv_iload_n hx hb dX5_commonDivisor_26 rfl (lv_at hl 0 rfl) ?_
          exact retI C0 rfl () (congrArg nI (by rw [iG, show y_ = 0 by first | omega | exact GB.done (by have h9_ := iB; rw [show k_ = 100 by omega] at h9_; exact h9_), Nat.gcd_zero_right])) (hP.sub (ws' := []) [] rfl) (hD.sub (ws' := []) [] (by decide) rfl) hS (Nat.le_of_ble_eq_true rfl) (Nat.le_of_ble_eq_true rfl) dX5_commonDivisor_27
        · have n_8 : ¬ y_ = 0 := fun hx9_ => c_6 ((nI_eq (a := y_) (b := 0) (by omega) (by omega)).mpr hx9_)
          refine lv_iload_n hx hb dX5_commonDivisor_12 rfl (lv_at hl 0 rfl) ?_
          refine lv_iload_n hx hb dX5_commonDivisor_13 rfl (lv_at hl 1 rfl) ?_
          refine lv_irem hx hb dX5_commonDivisor_14 (nI_ne0 (n := y_) (by omega) (by omega)) ?_
          have hm_9 : x_ % y_ < y_ := Nat.mod_lt _ (by omega)
          refine lv_ci (nI (x_ % y_)) (pk_rem (a := x_) (d := y_) (by omega) (by omega) (by omega)) ?_
          refine lv_istore_n (lv' := [(3, .int (nI (x_ % y_))), (0, .int (nI x_)), (1, .int (nI y_)), (2, .int (nI k_))]) hx hb dX5_commonDivisor_15 rfl hl (by decide) rfl (fun ls hl => ?_)
          refine lv_iload_n hx hb dX5_commonDivisor_16 rfl (lv_at hl 2 rfl) ?_
          refine lv_istore_n (lv' := [(0, .int (nI y_)), (3, .int (nI (x_ % y_))), (1, .int (nI y_)), (2, .int (nI k_))]) hx hb dX5_commonDivisor_17 rfl hl (by decide) rfl (fun ls hl => ?_)
          refine lv_iload_n hx hb dX5_commonDivisor_18 rfl (lv_at hl 1 rfl) ?_
          refine lv_istore_n (lv' := [(1, .int (nI (x_ % y_))), (0, .int (nI y_)), (3, .int (nI (x_ % y_))), (2, .int (nI k_))]) hx hb dX5_commonDivisor_19 rfl hl (by decide) rfl (fun ls hl => ?_)
          refine lv_iinc (v := (nI (k_ + 1))) (lv' := [(2, .int (nI (k_ + 1))), (1, .int (nI (x_ % y_))), (0, .int (nI y_)), (3, .int (nI (x_ % y_)))]) hx hb dX5_commonDivisor_20 hl (k := 3) rfl (nI_succ _).symm (by decide) rfl (fun ls hl => ?_)
          refine lv_goto (tgt := 2) hx hb dX5_commonDivisor_23 (by decide) ?_
          exact ih_2 (k_ + 1) y_ (x_ % y_) _ _ _ (by omega) (by omega) (by omega) (iB.step (by omega)) (iG.trans (gcd_step x_ y_)) (hP.sub (ws' := []) [] rfl) (hD.sub (ws' := []) [] (by decide) rfl) hS (lv_sub hl [2, 1, 0] rfl)
  exact LOOP_1 ((100 - 0) + 1) 0 an9 bn9 _ _ _ (Nat.lt_succ_self _) (Nat.zero_le _) ha (Or.inl ⟨rfl, ha2, hb2⟩) rfl (hP.sub (ws' := []) [] rfl) (hD.sub (ws' := []) [] (by decide) rfl) hS (lv_sub hl [1, 2, 0] rfl)

set_option maxHeartbeats 4000000 in
set_option maxRecDepth 100000 in
theorem c_has (l : Launch) (D : va_G) (cI cZ cQ cT : ClassId) (sz : Nat) (af : Nat) (person : Int32) (ak : Nat) (av : Nat) (ar : Nat) (nt : Int32) (yd : Int32) (P : Nat) (hP4 : P ≤ 4) : MetI l yX2_has cX2_has 2 .boolean ({ frames := 0, cells := 0, slots := 0, locals := 0 } : Room) [.ref af, .int person] D (TYS cI cZ cQ cT) EF sz [(af, .inr (2, [.ref ak, .ref av, .ref ar, .int (nI P), .int nt, .int yd]))] (S := Unit) (fun (r : Int32) (_ : Unit) => r = (if (0 ≤ person ∧ person < nI P) then 1 else 0)) (fun _ => [(af, .inr (2, [.ref ak, .ref av, .ref ar, .int (nI P), .int nt, .int yd]))]) := by
  refine MetI.mk (lv := [(0, .ref af), (1, .int person)]) (by decide +kernel) (Nat.le_of_ble_eq_true rfl) rfl ?_
  intro p e s m below meth c A ls C0 hP hD hS hX hl
  have C1 := C0
  obtain ⟨hx, hb, hr, hml, hown, hlocks, hname, hT, hN, hK, hA⟩ := C1
  have hd8 := d8_le hP4; have hd0 := d8_pos P
  refine lv_iload_n hx hb dX2_has_0 rfl (lv_at hl 1 rfl) ?_
  refine lv_if_lt (tgt := 21) hx hb dX2_has_1 (by decide) (fun c_1 => ?_) (fun c_1 => ?_)
  · refine lv_iconst (v := 0) hx hb dX2_has_21 (by decide) ?_
    exact retI C0 rfl () ((if_neg (has_f1 c_1)).symm) (hP.sub (ws' := [(af, .inr (2, [.ref ak, .ref av, .ref ar, .int (nI P), .int nt, .int yd]))]) [0] rfl) (hD.sub (ws' := [(af, .inr (2, [.ref ak, .ref av, .ref ar, .int (nI P), .int nt, .int yd]))]) [0] (by decide) rfl) hS (Nat.le_of_ble_eq_true rfl) (Nat.le_of_ble_eq_true rfl) dX2_has_22
  · refine lv_iload_n hx hb dX2_has_4 rfl (lv_at hl 1 rfl) ?_
    refine lv_aload_n hx hb dX2_has_5 rfl (lv_at hl 0 rfl) ?_
    refine va_get (ci := 2) (v := .int (nI P)) (C := RX2) (T := TX2) (N := 6) hx hb hT wu_X2 hown hK hP 0 rfl rfl 3 (by decide) (hT _ wf_X2_21) (fun _ h9 => h9) rfl dX2_has_6 ?_
    refine lv_icmp_ge (tgt := 21) hx hb dX2_has_9 (by decide) (fun c_2 => ?_) (fun c_2 => ?_)
    · refine lv_iconst (v := 0) hx hb dX2_has_21 (by decide) ?_
      exact retI C0 rfl () ((if_neg (has_f2 c_2)).symm) (hP.sub (ws' := [(af, .inr (2, [.ref ak, .ref av, .ref ar, .int (nI P), .int nt, .int yd]))]) [0] rfl) (hD.sub (ws' := [(af, .inr (2, [.ref ak, .ref av, .ref ar, .int (nI P), .int nt, .int yd]))]) [0] (by decide) rfl) hS (Nat.le_of_ble_eq_true rfl) (Nat.le_of_ble_eq_true rfl) dX2_has_22
    · refine lv_iload_n hx hb dX2_has_12 rfl (lv_at hl 1 rfl) ?_
      refine lv_iconst (v := 4) hx hb dX2_has_13 (by decide) ?_
      refine lv_icmp_ge (tgt := 21) hx hb dX2_has_14 (by decide) (fun c_0 => absurd c_0 (per_n4 hP4 c_2)) (fun _ => ?_)
      refine lv_iconst (v := 1) hx hb dX2_has_17 (by decide) ?_
      refine lv_goto (tgt := 22) hx hb dX2_has_18 (by decide) ?_
      exact retI C0 rfl () ((if_pos (has_t c_1 c_2)).symm) (hP.sub (ws' := [(af, .inr (2, [.ref ak, .ref av, .ref ar, .int (nI P), .int nt, .int yd]))]) [0] rfl) (hD.sub (ws' := [(af, .inr (2, [.ref ak, .ref av, .ref ar, .int (nI P), .int nt, .int yd]))]) [0] (by decide) rfl) hS (Nat.le_of_ble_eq_true rfl) (Nat.le_of_ble_eq_true rfl) dX2_has_22

set_option maxHeartbeats 4000000 in
set_option maxRecDepth 100000 in
theorem c_allDays (l : Launch) (D : va_G) (cI cZ cQ cT : ClassId) (sz : Nat) (af : Nat) (ak : Nat) (av : Nat) (ar : Nat) (nt : Int32) (yd : Int32) (P : Nat) (hP4 : P ≤ 4) : MetI l yX2_allDays cX2_allDays 1 .int ({ frames := 0, cells := 0, slots := 0, locals := 0 } : Room) [.ref af] D (TYS cI cZ cQ cT) EF sz [(af, .inr (2, [.ref ak, .ref av, .ref ar, .int (nI P), .int nt, .int yd]))] (S := Unit) (fun (r : Int32) (_ : Unit) => r = (nI (d8 P))) (fun _ => [(af, .inr (2, [.ref ak, .ref av, .ref ar, .int (nI P), .int nt, .int yd]))]) := by
  refine MetI.mk (lv := [(0, .ref af)]) (by decide +kernel) (Nat.le_of_ble_eq_true rfl) rfl ?_
  intro p e s m below meth c A ls C0 hP hD hS hX hl
  have C1 := C0
  obtain ⟨hx, hb, hr, hml, hown, hlocks, hname, hT, hN, hK, hA⟩ := C1
  have hd8 := d8_le hP4; have hd0 := d8_pos P
  refine lv_iconst (v := 1) hx hb dX2_allDays_0 (by decide) ?_
  refine lv_iconst (v := 3) hx hb dX2_allDays_1 (by decide) ?_
  refine lv_aload_n hx hb dX2_allDays_2 rfl (lv_at hl 0 rfl) ?_
  refine va_get (ci := 2) (v := .int (nI P)) (C := RX2) (T := TX2) (N := 6) hx hb hT wu_X2 hown hK hP 0 rfl rfl 3 (by decide) (hT _ wf_X2_21) (fun _ h9 => h9) rfl dX2_allDays_3 ?_
  refine lv_imul hx hb dX2_allDays_6 ?_
  refine lv_ci (nI (3 * P)) (pk_mul 3 P) ?_
  refine lv_ishl hx hb dX2_allDays_7 ?_
  refine lv_ci (nI (d8 P)) ((congrArg (fun z => (1 : Int32) <<< (z &&& 31)) (pk_mul 3 P).symm).trans (shl8 P (by omega))) ?_
  exact retI C0 rfl () rfl (hP.sub (ws' := [(af, .inr (2, [.ref ak, .ref av, .ref ar, .int (nI P), .int nt, .int yd]))]) [0] rfl) (hD.sub (ws' := [(af, .inr (2, [.ref ak, .ref av, .ref ar, .int (nI P), .int nt, .int yd]))]) [0] (by decide) rfl) hS (Nat.le_of_ble_eq_true rfl) (Nat.le_of_ble_eq_true rfl) dX2_allDays_8

set_option maxHeartbeats 4000000 in
set_option maxRecDepth 100000 in
theorem c_isDay (l : Launch) (D : va_G) (cI cZ cQ cT : ClassId) (sz : Nat) (af : Nat) (day : Int32) (ak : Nat) (av : Nat) (ar : Nat) (nt : Int32) (yd : Int32) (P : Nat) (hP4 : P ≤ 4) : MetI l yX2_isDay cX2_isDay 2 .boolean ({ frames := 1, cells := 0, slots := 0, locals := 20 } : Room) [.ref af, .int day] D (TYS cI cZ cQ cT) EF sz [(af, .inr (2, [.ref ak, .ref av, .ref ar, .int (nI P), .int nt, .int yd]))] (S := Unit) (fun (r : Int32) (_ : Unit) => r = (if (0 ≤ day ∧ day < nI (d8 P)) then 1 else 0)) (fun _ => [(af, .inr (2, [.ref ak, .ref av, .ref ar, .int (nI P), .int nt, .int yd]))]) := by
  refine MetI.mk (lv := [(0, .ref af), (1, .int day)]) (by decide +kernel) (Nat.le_of_ble_eq_true rfl) rfl ?_
  intro p e s m below meth c A ls C0 hP hD hS hX hl
  have C1 := C0
  obtain ⟨hx, hb, hr, hml, hown, hlocks, hname, hT, hN, hK, hA⟩ := C1
  have hd8 := d8_le hP4; have hd0 := d8_pos P
  refine lv_iload_n hx hb dX2_isDay_0 rfl (lv_at hl 1 rfl) ?_
  refine lv_if_lt (tgt := 16) hx hb dX2_isDay_1 (by decide) (fun c_1 => ?_) (fun c_1 => ?_)
  · refine lv_iconst (v := 0) hx hb dX2_isDay_16 (by decide) ?_
    exact retI C0 rfl () ((if_neg (has_f1 c_1)).symm) (hP.sub (ws' := [(af, .inr (2, [.ref ak, .ref av, .ref ar, .int (nI P), .int nt, .int yd]))]) [0] rfl) (hD.sub (ws' := [(af, .inr (2, [.ref ak, .ref av, .ref ar, .int (nI P), .int nt, .int yd]))]) [0] (by decide) rfl) hS (Nat.le_of_ble_eq_true rfl) (Nat.le_of_ble_eq_true rfl) dX2_isDay_17
  · refine lv_iload_n hx hb dX2_isDay_4 rfl (lv_at hl 1 rfl) ?_
    refine lv_aload_n hx hb dX2_isDay_5 rfl (lv_at hl 0 rfl) ?_
    refine contI (wc := [(af, .inr (2, [.ref ak, .ref av, .ref ar, .int (nI P), .int nt, .int yd]))]) (wr := []) C0 hP hD hS [0] [] rfl rfl (by decide) (by decide) 0 0 (Nat.le_of_ble_eq_true rfl) (Nat.le_of_ble_eq_true rfl) (runV (k := 0) (As := []) (rest := [.int day]) C0 (c_allDays l D cI cZ cQ cT _ af ak av ar nt yd P (by omega)) wc_X2_allDays wl_X2_25 wi_X2_allDays we_X2_allDays wz_X2 ⟨by decide, by decide, by decide +kernel⟩ ⟨(Nat.le_of_ble_eq_true rfl), (Nat.le_of_ble_eq_true rfl)⟩ hP hD hS EF.ok hX [0] rfl (by decide) 0 rfl rfl rfl rfl hl.1 rfl (Nat.le_of_ble_eq_true rfl) dX2_isDay_6 ⟨(Nat.le_of_ble_eq_true rfl), (Nat.le_of_ble_eq_true rfl)⟩) (fun r_4 u_2 H locs w_3 hP hD hS => ?_)
    have hP : va_P D CL [(af, .inr (2, [.ref ak, .ref av, .ref ar, .int (nI P), .int nt, .int yd]))] H := hP
    have hD : va_D A [(af, .inr (2, [.ref ak, .ref av, .ref ar, .int (nI P), .int nt, .int yd]))] := hD
    obtain rfl : r_4 = (nI (d8 P)) := w_3
    refine lv_icmp_ge (tgt := 16) hx hb dX2_isDay_9 (by decide) (fun c_5 => ?_) (fun c_5 => ?_)
    · refine lv_iconst (v := 0) hx hb dX2_isDay_16 (by decide) ?_
      exact retI C0 rfl () ((if_neg (has_f2 c_5)).symm) (hP.sub (ws' := [(af, .inr (2, [.ref ak, .ref av, .ref ar, .int (nI P), .int nt, .int yd]))]) [0] rfl) (hD.sub (ws' := [(af, .inr (2, [.ref ak, .ref av, .ref ar, .int (nI P), .int nt, .int yd]))]) [0] (by decide) rfl) hS (Nat.le_of_ble_eq_true rfl) (Nat.le_of_ble_eq_true rfl) dX2_isDay_17
    · refine lv_iconst (v := 1) hx hb dX2_isDay_12 (by decide) ?_
      refine lv_goto (tgt := 17) hx hb dX2_isDay_13 (by decide) ?_
      exact retI C0 rfl () ((if_pos (has_t c_1 c_5)).symm) (hP.sub (ws' := [(af, .inr (2, [.ref ak, .ref av, .ref ar, .int (nI P), .int nt, .int yd]))]) [0] rfl) (hD.sub (ws' := [(af, .inr (2, [.ref ak, .ref av, .ref ar, .int (nI P), .int nt, .int yd]))]) [0] (by decide) rfl) hS (Nat.le_of_ble_eq_true rfl) (Nat.le_of_ble_eq_true rfl) dX2_isDay_17

set_option maxHeartbeats 4000000 in
set_option maxRecDepth 100000 in
theorem c_noteOf (l : Launch) (D : va_G) (cI cZ cQ cT : ClassId) (sz : Nat) (af : Nat) (ak : Nat) (av : Nat) (ar : Nat) (P : Nat) (pn : Nat) (Y : Nat) (O : Nat → Nat) (hP4 : P ≤ 4) (hOB : ∀ j, j < 4 → O j < 2) (hpn : pn < P) : MetI l yX2_noteOf cX2_noteOf 2 .int ({ frames := 0, cells := 0, slots := 0, locals := 0 } : Room) [.ref af, .int (nI pn)] D (TYS cI cZ cQ cT) EF sz [(af, .inr (2, [.ref ak, .ref av, .ref ar, .int (nI P), .int (nI (ntN O P)), .int (nI Y)]))] (S := Unit) (fun (r : Int32) (_ : Unit) => r = (nI (O pn))) (fun _ => [(af, .inr (2, [.ref ak, .ref av, .ref ar, .int (nI P), .int (nI (ntN O P)), .int (nI Y)]))]) := by
  refine MetI.mk (lv := [(0, .ref af), (1, .int (nI pn))]) (by decide +kernel) (Nat.le_of_ble_eq_true rfl) rfl ?_
  intro p e s m below meth c A ls C0 hP hD hS hX hl
  have C1 := C0
  obtain ⟨hx, hb, hr, hml, hown, hlocks, hname, hT, hN, hK, hA⟩ := C1
  have hd8 := d8_le hP4; have hd0 := d8_pos P
  have hnt_ := nt_16 hOB hP4
  refine lv_aload_n hx hb dX2_noteOf_0 rfl (lv_at hl 0 rfl) ?_
  refine va_get (ci := 2) (v := .int (nI (ntN O P))) (C := RX2) (T := TX2) (N := 6) hx hb hT wu_X2 hown hK hP 0 rfl rfl 4 (by decide) (hT _ wf_X2_33) (fun _ h9 => h9) rfl dX2_noteOf_1 ?_
  refine lv_iload_n hx hb dX2_noteOf_4 rfl (lv_at hl 1 rfl) ?_
  refine lv_ishr hx hb dX2_noteOf_5 ?_
  refine lv_ci (nI ((ntN O P) / 2 ^ pn)) (shrN (a := (ntN O P)) (k := pn) (by omega) (by omega)) ?_
  have hq_1 : ((ntN O P) / 2 ^ pn) ≤ (ntN O P) := Nat.div_le_self _ _
  refine lv_iconst (v := 1) hx hb dX2_noteOf_6 (by decide) ?_
  refine lv_iand hx hb dX2_noteOf_7 ?_
  refine lv_ci (nI (((ntN O P) / 2 ^ pn) % 2)) (pk_andN (n := ((ntN O P) / 2 ^ pn)) (by omega) 1 (by decide +kernel)) ?_
  exact retI C0 rfl () (congrArg nI (ntN_bit hOB P hP4 pn hpn)) (hP.sub (ws' := [(af, .inr (2, [.ref ak, .ref av, .ref ar, .int (nI P), .int (nI (ntN O P)), .int (nI Y)]))]) [0] rfl) (hD.sub (ws' := [(af, .inr (2, [.ref ak, .ref av, .ref ar, .int (nI P), .int (nI (ntN O P)), .int (nI Y)]))]) [0] (by decide) rfl) hS (Nat.le_of_ble_eq_true rfl) (Nat.le_of_ble_eq_true rfl) dX2_noteOf_8

set_option maxHeartbeats 4000000 in
set_option maxRecDepth 100000 in
theorem c_putNote (l : Launch) (D : va_G) (cI cZ cQ cT : ClassId) (sz : Nat) (af : Nat) (b2 : Int32) (ak : Nat) (av : Nat) (ar : Nat) (P : Nat) (pn : Nat) (Y : Nat) (O : Nat → Nat) (hP4 : P ≤ 4) (hOB : ∀ j, j < 4 → O j < 2) (hpn : pn < P) : MetV l yX2_putNote cX2_putNote 3 ({ frames := 0, cells := 0, slots := 0, locals := 0 } : Room) [.ref af, .int (nI pn), .int b2] D (TYS cI cZ cQ cT) EF sz [(af, .inr (2, [.ref ak, .ref av, .ref ar, .int (nI P), .int (nI (ntN O P)), .int (nI Y)]))] (S := Nat) (fun (u_ : Nat) => (True) ∧ (u_ = (if b2 = 0 then 0 else 1))) (fun u => [(af, .inr (2, [.ref ak, .ref av, .ref ar, .int (nI P), .int (nI (ntN (fS O pn u) P)), .int (nI Y)]))]) := by
  refine MetV.mk (lv := [(0, .ref af), (1, .int (nI pn)), (2, .int b2)]) (by decide +kernel) (Nat.le_of_ble_eq_true rfl) rfl ?_
  intro p e s m below meth c A ls C0 hP hD hS hX hl
  have C1 := C0
  obtain ⟨hx, hb, hr, hml, hown, hlocks, hname, hT, hN, hK, hA⟩ := C1
  have hd8 := d8_le hP4; have hd0 := d8_pos P
  have hnt_ := nt_16 hOB hP4
  refine lv_aload_n hx hb dX2_putNote_0 rfl (lv_at hl 0 rfl) ?_
  refine lv_iload_n hx hb dX2_putNote_1 rfl (lv_at hl 2 rfl) ?_
  refine lv_if_eq (tgt := 16) hx hb dX2_putNote_2 (by decide) (fun c_1 => ?_) (fun c_1 => ?_)
  · refine lv_aload_n hx hb dX2_putNote_16 rfl (lv_at hl 0 rfl) ?_
    refine va_get (ci := 2) (v := .int (nI (ntN O P))) (C := RX2) (T := TX2) (N := 6) hx hb hT wu_X2 hown hK hP 0 rfl rfl 4 (by decide) (hT _ wf_X2_33) (fun _ h9 => h9) rfl dX2_putNote_17 ?_
    refine lv_iconst (v := 1) hx hb dX2_putNote_20 (by decide) ?_
    refine lv_iload_n hx hb dX2_putNote_21 rfl (lv_at hl 1 rfl) ?_
    refine lv_ishl hx hb dX2_putNote_22 ?_
    refine lv_ci (nI (2 ^ pn)) (bit_sh ⟨pn, by omega⟩) ?_
    refine lv_iconst (v := (-1)) hx hb dX2_putNote_23 (by decide) ?_
    refine lv_ixor hx hb dX2_putNote_24 ?_
    refine lv_ci (nI (4294967295 - (2 ^ pn))) (no_2p _ (by omega)) ?_
    refine lv_iand hx hb dX2_putNote_25 ?_
    refine lv_ci (nI ((ntN O P) &&& (4294967295 - (2 ^ pn)))) (nx_and' _ _) ?_
    refine lv_ci (nI (ntN (fS O pn 0) P)) (congrArg nI (nt_and hOB hP4 hpn)) ?_
    refine va_put (ci := 2) (v := .int (nI (ntN (fS O pn 0) P))) (ty := .int) (C := RX2) (T := TX2) (N := 6) hx hb hT wu_X2 tyX2 tyX2_ok nmX2 hown hK hP hD hS 0 rfl rfl 4 (by decide) (hT _ wf_X2_33) (fun _ h9 => h9) rfl (by decide +kernel) rfl rfl (Nat.le_of_ble_eq_true rfl) dX2_putNote_26 (fun H locs hP hD hS => ?_)
    have hP : va_P D CL [(af, .inr (2, [.ref ak, .ref av, .ref ar, .int (nI P), .int (nI (ntN (fS O pn 0) P)), .int (nI Y)]))] H := hP
    have hD : va_D A [(af, .inr (2, [.ref ak, .ref av, .ref ar, .int (nI P), .int (nI (ntN (fS O pn 0) P)), .int (nI Y)]))] := hD
    exact retV C0 (0) (⟨trivial, (show 0 = (if b2 = 0 then 0 else 1) from (if_pos c_1).symm)⟩) (hP.sub (ws' := [(af, .inr (2, [.ref ak, .ref av, .ref ar, .int (nI P), .int (nI (ntN (fS O pn 0) P)), .int (nI Y)]))]) [0] rfl) (hD.sub (ws' := [(af, .inr (2, [.ref ak, .ref av, .ref ar, .int (nI P), .int (nI (ntN (fS O pn 0) P)), .int (nI Y)]))]) [0] (by decide) rfl) hS (Nat.le_of_ble_eq_true rfl) (Nat.le_of_ble_eq_true rfl) dX2_putNote_29
  · refine lv_aload_n hx hb dX2_putNote_5 rfl (lv_at hl 0 rfl) ?_
    refine va_get (ci := 2) (v := .int (nI (ntN O P))) (C := RX2) (T := TX2) (N := 6) hx hb hT wu_X2 hown hK hP 0 rfl rfl 4 (by decide) (hT _ wf_X2_33) (fun _ h9 => h9) rfl dX2_putNote_6 ?_
    refine lv_iconst (v := 1) hx hb dX2_putNote_9 (by decide) ?_
    refine lv_iload_n hx hb dX2_putNote_10 rfl (lv_at hl 1 rfl) ?_
    refine lv_ishl hx hb dX2_putNote_11 ?_
    refine lv_ci (nI (2 ^ pn)) (bit_sh ⟨pn, by omega⟩) ?_
    refine lv_ior hx hb dX2_putNote_12 ?_
    refine lv_ci (nI ((ntN O P) ||| (2 ^ pn))) (nx_or _ _) ?_
    refine lv_goto (tgt := 26) hx hb dX2_putNote_13 (by decide) ?_
    refine lv_ci (nI (ntN (fS O pn 1) P)) (congrArg nI (nt_or hOB hP4 hpn)) ?_
    refine va_put (ci := 2) (v := .int (nI (ntN (fS O pn 1) P))) (ty := .int) (C := RX2) (T := TX2) (N := 6) hx hb hT wu_X2 tyX2 tyX2_ok nmX2 hown hK hP hD hS 0 rfl rfl 4 (by decide) (hT _ wf_X2_33) (fun _ h9 => h9) rfl (by decide +kernel) rfl rfl (Nat.le_of_ble_eq_true rfl) dX2_putNote_26 (fun H locs hP hD hS => ?_)
    have hP : va_P D CL [(af, .inr (2, [.ref ak, .ref av, .ref ar, .int (nI P), .int (nI (ntN (fS O pn 1) P)), .int (nI Y)]))] H := hP
    have hD : va_D A [(af, .inr (2, [.ref ak, .ref av, .ref ar, .int (nI P), .int (nI (ntN (fS O pn 1) P)), .int (nI Y)]))] := hD
    exact retV C0 (1) (⟨trivial, (show 1 = (if b2 = 0 then 0 else 1) from (if_neg c_1).symm)⟩) (hP.sub (ws' := [(af, .inr (2, [.ref ak, .ref av, .ref ar, .int (nI P), .int (nI (ntN (fS O pn 1) P)), .int (nI Y)]))]) [0] rfl) (hD.sub (ws' := [(af, .inr (2, [.ref ak, .ref av, .ref ar, .int (nI P), .int (nI (ntN (fS O pn 1) P)), .int (nI Y)]))]) [0] (by decide) rfl) hS (Nat.le_of_ble_eq_true rfl) (Nat.le_of_ble_eq_true rfl) dX2_putNote_29

set_option maxHeartbeats 4000000 in
set_option maxRecDepth 100000 in
theorem c_putNoteN (l : Launch) (D : va_G) (cI cZ cQ cT : ClassId) (sz : Nat) (af : Nat) (ak : Nat) (av : Nat) (ar : Nat) (P : Nat) (Y : Nat) (O : Nat → Nat) (hP4 : P ≤ 4) (hOB : ∀ j, j < 4 → O j < 2) (hP3_ : P < 4) : MetV l yX2_putNote cX2_putNote 3 ({ frames := 0, cells := 0, slots := 0, locals := 0 } : Room) [.ref af, .int (nI P), .int 0] D (TYS cI cZ cQ cT) EF sz [(af, .inr (2, [.ref ak, .ref av, .ref ar, .int (nI P), .int (nI (ntN O P)), .int (nI Y)]))] (S := Unit) (fun (_ : Unit) => True) (fun _ => [(af, .inr (2, [.ref ak, .ref av, .ref ar, .int (nI P), .int (nI (ntN O P)), .int (nI Y)]))]) := by
  refine MetV.mk (lv := [(0, .ref af), (1, .int (nI P)), (2, .int 0)]) (by decide +kernel) (Nat.le_of_ble_eq_true rfl) rfl ?_
  intro p e s m below meth c A ls C0 hP hD hS hX hl
  have C1 := C0
  obtain ⟨hx, hb, hr, hml, hown, hlocks, hname, hT, hN, hK, hA⟩ := C1
  have hd8 := d8_le hP4; have hd0 := d8_pos P
  have hnt_ := nt_16 hOB hP4
  refine lv_aload_n hx hb dX2_putNote_0 rfl (lv_at hl 0 rfl) ?_
  refine lv_iload_n hx hb dX2_putNote_1 rfl (lv_at hl 2 rfl) ?_
  refine lv_if_eq (tgt := 16) hx hb dX2_putNote_2 (by decide) (fun _ => ?_) (fun c_0 => absurd (by decide) c_0)
  refine lv_aload_n hx hb dX2_putNote_16 rfl (lv_at hl 0 rfl) ?_
  refine va_get (ci := 2) (v := .int (nI (ntN O P))) (C := RX2) (T := TX2) (N := 6) hx hb hT wu_X2 hown hK hP 0 rfl rfl 4 (by decide) (hT _ wf_X2_33) (fun _ h9 => h9) rfl dX2_putNote_17 ?_
  refine lv_iconst (v := 1) hx hb dX2_putNote_20 (by decide) ?_
  refine lv_iload_n hx hb dX2_putNote_21 rfl (lv_at hl 1 rfl) ?_
  refine lv_ishl hx hb dX2_putNote_22 ?_
  refine lv_ci (nI (2 ^ P)) (bit_sh ⟨P, by omega⟩) ?_
  refine lv_iconst (v := (-1)) hx hb dX2_putNote_23 (by decide) ?_
  refine lv_ixor hx hb dX2_putNote_24 ?_
  refine lv_ci (nI (4294967295 - (2 ^ P))) (no_2p _ (by omega)) ?_
  refine lv_iand hx hb dX2_putNote_25 ?_
  refine lv_ci (nI ((ntN O P) &&& (4294967295 - (2 ^ P)))) (nx_and' _ _) ?_
  refine lv_ci (nI (ntN O P)) (congrArg nI (nt_new hOB (by omega))) ?_
  refine va_put (ci := 2) (v := .int (nI (ntN O P))) (ty := .int) (C := RX2) (T := TX2) (N := 6) hx hb hT wu_X2 tyX2 tyX2_ok nmX2 hown hK hP hD hS 0 rfl rfl 4 (by decide) (hT _ wf_X2_33) (fun _ h9 => h9) rfl (by decide +kernel) rfl rfl (Nat.le_of_ble_eq_true rfl) dX2_putNote_26 (fun H locs hP hD hS => ?_)
  have hP : va_P D CL [(af, .inr (2, [.ref ak, .ref av, .ref ar, .int (nI P), .int (nI (ntN O P)), .int (nI Y)]))] H := hP
  have hD : va_D A [(af, .inr (2, [.ref ak, .ref av, .ref ar, .int (nI P), .int (nI (ntN O P)), .int (nI Y)]))] := hD
  exact retV C0 () trivial (hP.sub (ws' := [(af, .inr (2, [.ref ak, .ref av, .ref ar, .int (nI P), .int (nI (ntN O P)), .int (nI Y)]))]) [0] rfl) (hD.sub (ws' := [(af, .inr (2, [.ref ak, .ref av, .ref ar, .int (nI P), .int (nI (ntN O P)), .int (nI Y)]))]) [0] (by decide) rfl) hS (Nat.le_of_ble_eq_true rfl) (Nat.le_of_ble_eq_true rfl) dX2_putNote_29

set_option maxHeartbeats 4000000 in
set_option maxRecDepth 100000 in
theorem c_join (l : Launch) (D : va_G) (cI cZ cQ cT : ClassId) (sz : Nat) (af : Nat) (ak : Nat) (av : Nat) (ar : Nat) (fk : Nat → Int32) (fv : Nat → Int32) (fr : Nat → Int32) (P : Nat) (kd7 : Nat) (vb7 : Nat) (Y : Nat) (F : Fk) (O : Nat → Nat) (hP4 : P ≤ 4) (hC : CF fk fv fr F) (hOB : ∀ j, j < 4 → O j < 2) : MetI l yX2_join cX2_join 3 .int ({ frames := 1, cells := 0, slots := 0, locals := 22 } : Room) [.ref af, .int (nI kd7), .int (nI vb7)] D (TYS cI cZ cQ cT) EF sz [(af, .inr (2, [.ref ak, .ref av, .ref ar, .int (nI P), .int (nI (ntN O P)), .int (nI Y)])), (ak, .inl (cI, 4, .inl fk)), (av, .inl (cI, 4, .inl fv)), (ar, .inl (cI, 4, .inl fr))] (S := Int32 × Int32 × (Nat → Int32) × (Nat → Int32) × (Nat → Int32)) (fun (r : Int32) (u_ : Int32 × Int32 × (Nat → Int32) × (Nat → Int32) × (Nat → Int32)) => ((r = (-4 : Int32) ∧ u_.1 = nI P ∧ u_.2.1 = nI (ntN O P) ∧ P = 4 ∧ CF u_.2.2.1 u_.2.2.2.1 u_.2.2.2.2 F) ∨ (r = nI P ∧ u_.1 = nI (P + 1) ∧ u_.2.1 = nI (ntN (fS O P 0) (P + 1)) ∧ P < 4 ∧ CF u_.2.2.1 u_.2.2.2.1 u_.2.2.2.2 (fS F.1 P kd7, fS F.2.1 P vb7, fS F.2.2 P 0)))) (fun u => [(af, .inr (2, [.ref ak, .ref av, .ref ar, .int u.1, .int u.2.1, .int (nI Y)])), (ak, .inl (cI, 4, .inl u.2.2.1)), (av, .inl (cI, 4, .inl u.2.2.2.1)), (ar, .inl (cI, 4, .inl u.2.2.2.2))]) := by
  refine MetI.mk (lv := [(0, .ref af), (1, .int (nI kd7)), (2, .int (nI vb7))]) (by decide +kernel) (Nat.le_of_ble_eq_true rfl) rfl ?_
  intro p e s m below meth c A ls C0 hP hD hS hX hl
  have C1 := C0
  obtain ⟨hx, hb, hr, hml, hown, hlocks, hname, hT, hN, hK, hA⟩ := C1
  have hd8 := d8_le hP4; have hd0 := d8_pos P
  refine lv_aload_n hx hb dX2_join_0 rfl (lv_at hl 0 rfl) ?_
  refine va_get (ci := 2) (v := .int (nI P)) (C := RX2) (T := TX2) (N := 6) hx hb hT wu_X2 hown hK hP 0 rfl rfl 3 (by decide) (hT _ wf_X2_21) (fun _ h9 => h9) rfl dX2_join_1 ?_
  refine lv_if_lt (tgt := 15) hx hb dX2_join_4 (by decide) (fun c_0 => absurd c_0 (nI_pos (by omega))) (fun _ => ?_)
  refine lv_aload_n hx hb dX2_join_7 rfl (lv_at hl 0 rfl) ?_
  refine va_get (ci := 2) (v := .int (nI P)) (C := RX2) (T := TX2) (N := 6) hx hb hT wu_X2 hown hK hP 0 rfl rfl 3 (by decide) (hT _ wf_X2_21) (fun _ h9 => h9) rfl dX2_join_8 ?_
  refine lv_iconst (v := 4) hx hb dX2_join_11 (by decide) ?_
  refine lv_icmp_lt (tgt := 18) hx hb dX2_join_12 (by decide) (fun c_1 => ?_) (fun c_1 => ?_)
  · have n_2 : P < 4 := (nI_ltI (a := P) (b := 4) (by omega) (by omega)).mp c_1
    refine lv_aload_n hx hb dX2_join_18 rfl (lv_at hl 0 rfl) ?_
    refine va_get (ci := 2) (v := .ref ak) (C := RX2) (T := TX2) (N := 6) hx hb hT wu_X2 hown hK hP 0 rfl rfl 0 (by decide) (hT _ wf_X2_9) (fun _ h9 => h9) rfl dX2_join_19 ?_
    refine lv_aload_n hx hb dX2_join_22 rfl (lv_at hl 0 rfl) ?_
    refine va_get (ci := 2) (v := .int (nI P)) (C := RX2) (T := TX2) (N := 6) hx hb hT wu_X2 hown hK hP 0 rfl rfl 3 (by decide) (hT _ wf_X2_21) (fun _ h9 => h9) rfl dX2_join_23 ?_
    refine lv_iload_n hx hb dX2_join_26 rfl (lv_at hl 1 rfl) ?_
    refine va_iast hx hb hK hP hD hS 1 0 rfl rfl (vp_in_nI (n := P) (by omega) (by decide)) dX2_join_27 (fun H locs hP hD hS => ?_)
    have hP : va_P D CL [(af, .inr (2, [.ref ak, .ref av, .ref ar, .int (nI P), .int (nI (ntN O P)), .int (nI Y)])), (ak, .inl (cI, 4, .inl (upd fk ((nI P)).toNatClampNeg (nI kd7)))), (av, .inl (cI, 4, .inl fv)), (ar, .inl (cI, 4, .inl fr))] H := hP
    have hD : va_D A [(af, .inr (2, [.ref ak, .ref av, .ref ar, .int (nI P), .int (nI (ntN O P)), .int (nI Y)])), (ak, .inl (cI, 4, .inl (upd fk ((nI P)).toNatClampNeg (nI kd7)))), (av, .inl (cI, 4, .inl fv)), (ar, .inl (cI, 4, .inl fr))] := hD
    rw [nI_clamp (n := P) (by omega)] at hP hD
    have hP : va_P D CL [(af, .inr (2, [.ref ak, .ref av, .ref ar, .int (nI P), .int (nI (ntN O P)), .int (nI Y)])), (ak, .inl (cI, 4, .inl (upd fk P (nI kd7)))), (av, .inl (cI, 4, .inl fv)), (ar, .inl (cI, 4, .inl fr))] H := hP
    have hD : va_D A [(af, .inr (2, [.ref ak, .ref av, .ref ar, .int (nI P), .int (nI (ntN O P)), .int (nI Y)])), (ak, .inl (cI, 4, .inl (upd fk P (nI kd7)))), (av, .inl (cI, 4, .inl fv)), (ar, .inl (cI, 4, .inl fr))] := hD
    refine lv_aload_n hx hb dX2_join_28 rfl (lv_at hl 0 rfl) ?_
    refine va_get (ci := 2) (v := .ref av) (C := RX2) (T := TX2) (N := 6) hx hb hT wu_X2 hown hK hP 0 rfl rfl 1 (by decide) (hT _ wf_X2_15) (fun _ h9 => h9) rfl dX2_join_29 ?_
    refine lv_aload_n hx hb dX2_join_32 rfl (lv_at hl 0 rfl) ?_
    refine va_get (ci := 2) (v := .int (nI P)) (C := RX2) (T := TX2) (N := 6) hx hb hT wu_X2 hown hK hP 0 rfl rfl 3 (by decide) (hT _ wf_X2_21) (fun _ h9 => h9) rfl dX2_join_33 ?_
    refine lv_iload_n hx hb dX2_join_36 rfl (lv_at hl 2 rfl) ?_
    refine va_iast hx hb hK hP hD hS 2 0 rfl rfl (vp_in_nI (n := P) (by omega) (by decide)) dX2_join_37 (fun H locs hP hD hS => ?_)
    have hP : va_P D CL [(af, .inr (2, [.ref ak, .ref av, .ref ar, .int (nI P), .int (nI (ntN O P)), .int (nI Y)])), (ak, .inl (cI, 4, .inl (upd fk P (nI kd7)))), (av, .inl (cI, 4, .inl (upd fv ((nI P)).toNatClampNeg (nI vb7)))), (ar, .inl (cI, 4, .inl fr))] H := hP
    have hD : va_D A [(af, .inr (2, [.ref ak, .ref av, .ref ar, .int (nI P), .int (nI (ntN O P)), .int (nI Y)])), (ak, .inl (cI, 4, .inl (upd fk P (nI kd7)))), (av, .inl (cI, 4, .inl (upd fv ((nI P)).toNatClampNeg (nI vb7)))), (ar, .inl (cI, 4, .inl fr))] := hD
    rw [nI_clamp (n := P) (by omega)] at hP hD
    have hP : va_P D CL [(af, .inr (2, [.ref ak, .ref av, .ref ar, .int (nI P), .int (nI (ntN O P)), .int (nI Y)])), (ak, .inl (cI, 4, .inl (upd fk P (nI kd7)))), (av, .inl (cI, 4, .inl (upd fv P (nI vb7)))), (ar, .inl (cI, 4, .inl fr))] H := hP
    have hD : va_D A [(af, .inr (2, [.ref ak, .ref av, .ref ar, .int (nI P), .int (nI (ntN O P)), .int (nI Y)])), (ak, .inl (cI, 4, .inl (upd fk P (nI kd7)))), (av, .inl (cI, 4, .inl (upd fv P (nI vb7)))), (ar, .inl (cI, 4, .inl fr))] := hD
    refine lv_aload_n hx hb dX2_join_38 rfl (lv_at hl 0 rfl) ?_
    refine va_get (ci := 2) (v := .ref ar) (C := RX2) (T := TX2) (N := 6) hx hb hT wu_X2 hown hK hP 0 rfl rfl 2 (by decide) (hT _ wf_X2_18) (fun _ h9 => h9) rfl dX2_join_39 ?_
    refine lv_aload_n hx hb dX2_join_42 rfl (lv_at hl 0 rfl) ?_
    refine va_get (ci := 2) (v := .int (nI P)) (C := RX2) (T := TX2) (N := 6) hx hb hT wu_X2 hown hK hP 0 rfl rfl 3 (by decide) (hT _ wf_X2_21) (fun _ h9 => h9) rfl dX2_join_43 ?_
    refine lv_iconst (v := 0) hx hb dX2_join_46 (by decide) ?_
    refine va_iast hx hb hK hP hD hS 3 0 rfl rfl (vp_in_nI (n := P) (by omega) (by decide)) dX2_join_47 (fun H locs hP hD hS => ?_)
    have hP : va_P D CL [(af, .inr (2, [.ref ak, .ref av, .ref ar, .int (nI P), .int (nI (ntN O P)), .int (nI Y)])), (ak, .inl (cI, 4, .inl (upd fk P (nI kd7)))), (av, .inl (cI, 4, .inl (upd fv P (nI vb7)))), (ar, .inl (cI, 4, .inl (upd fr ((nI P)).toNatClampNeg 0)))] H := hP
    have hD : va_D A [(af, .inr (2, [.ref ak, .ref av, .ref ar, .int (nI P), .int (nI (ntN O P)), .int (nI Y)])), (ak, .inl (cI, 4, .inl (upd fk P (nI kd7)))), (av, .inl (cI, 4, .inl (upd fv P (nI vb7)))), (ar, .inl (cI, 4, .inl (upd fr ((nI P)).toNatClampNeg 0)))] := hD
    rw [nI_clamp (n := P) (by omega)] at hP hD
    have hP : va_P D CL [(af, .inr (2, [.ref ak, .ref av, .ref ar, .int (nI P), .int (nI (ntN O P)), .int (nI Y)])), (ak, .inl (cI, 4, .inl (upd fk P (nI kd7)))), (av, .inl (cI, 4, .inl (upd fv P (nI vb7)))), (ar, .inl (cI, 4, .inl (upd fr P 0)))] H := hP
    have hD : va_D A [(af, .inr (2, [.ref ak, .ref av, .ref ar, .int (nI P), .int (nI (ntN O P)), .int (nI Y)])), (ak, .inl (cI, 4, .inl (upd fk P (nI kd7)))), (av, .inl (cI, 4, .inl (upd fv P (nI vb7)))), (ar, .inl (cI, 4, .inl (upd fr P 0)))] := hD
    refine lv_aload_n hx hb dX2_join_48 rfl (lv_at hl 0 rfl) ?_
    refine lv_aload_n hx hb dX2_join_49 rfl (lv_at hl 0 rfl) ?_
    refine va_get (ci := 2) (v := .int (nI P)) (C := RX2) (T := TX2) (N := 6) hx hb hT wu_X2 hown hK hP 0 rfl rfl 3 (by decide) (hT _ wf_X2_21) (fun _ h9 => h9) rfl dX2_join_50 ?_
    refine lv_iconst (v := 0) hx hb dX2_join_53 (by decide) ?_
    refine contV (wc := [(af, .inr (2, [.ref ak, .ref av, .ref ar, .int (nI P), .int (nI (ntN O P)), .int (nI Y)]))]) (wr := [(ak, .inl (cI, 4, .inl (upd fk P (nI kd7)))), (av, .inl (cI, 4, .inl (upd fv P (nI vb7)))), (ar, .inl (cI, 4, .inl (upd fr P 0)))]) C0 hP hD hS [0] [1, 2, 3] rfl rfl (by decide) (by decide) 0 0 (Nat.le_of_ble_eq_true rfl) (Nat.le_of_ble_eq_true rfl) (runV (k := 2) (As := [.int (nI P), .int 0]) (rest := []) C0 (c_putNoteN l D cI cZ cQ cT _ af ak av ar P Y O (by omega) hOB (by omega)) wc_X2_putNote wl_X2_29 wi_X2_putNote we_X2_putNote wz_X2 ⟨by decide, by decide, by decide +kernel⟩ ⟨(Nat.le_of_ble_eq_true rfl), (Nat.le_of_ble_eq_true rfl)⟩ hP hD hS EF.ok hX [0] rfl (by decide) 0 rfl rfl rfl rfl hl.1 rfl (Nat.le_of_ble_eq_true rfl) dX2_join_54 ⟨(Nat.le_of_ble_eq_true rfl), (Nat.le_of_ble_eq_true rfl)⟩) (fun u_4 H locs w_5 hP hD hS => ?_)
    have hP : va_P D CL [(ak, .inl (cI, 4, .inl (upd fk P (nI kd7)))), (av, .inl (cI, 4, .inl (upd fv P (nI vb7)))), (ar, .inl (cI, 4, .inl (upd fr P 0))), (af, .inr (2, [.ref ak, .ref av, .ref ar, .int (nI P), .int (nI (ntN O P)), .int (nI Y)]))] H := hP
    have hD : va_D A [(ak, .inl (cI, 4, .inl (upd fk P (nI kd7)))), (av, .inl (cI, 4, .inl (upd fv P (nI vb7)))), (ar, .inl (cI, 4, .inl (upd fr P 0))), (af, .inr (2, [.ref ak, .ref av, .ref ar, .int (nI P), .int (nI (ntN O P)), .int (nI Y)]))] := hD
    refine lv_aload_n hx hb dX2_join_57 rfl (lv_at hl 0 rfl) ?_
    refine lv_dup hx hb dX2_join_58 rfl ?_
    refine va_get (ci := 2) (v := .int (nI P)) (C := RX2) (T := TX2) (N := 6) hx hb hT wu_X2 hown hK hP 3 rfl rfl 3 (by decide) (hT _ wf_X2_21) (fun _ h9 => h9) rfl dX2_join_59 ?_
    refine lv_iconst (v := 1) hx hb dX2_join_62 (by decide) ?_
    refine lv_iadd hx hb dX2_join_63 ?_
    refine lv_ci (nI (P + 1)) (nI_add P 1) ?_
    refine va_put (ci := 2) (v := .int (nI (P + 1))) (ty := .int) (C := RX2) (T := TX2) (N := 6) hx hb hT wu_X2 tyX2 tyX2_ok nmX2 hown hK hP hD hS 3 rfl rfl 3 (by decide) (hT _ wf_X2_21) (fun _ h9 => h9) rfl (by decide +kernel) rfl rfl (Nat.le_of_ble_eq_true rfl) dX2_join_64 (fun H locs hP hD hS => ?_)
    have hP : va_P D CL [(ak, .inl (cI, 4, .inl (upd fk P (nI kd7)))), (av, .inl (cI, 4, .inl (upd fv P (nI vb7)))), (ar, .inl (cI, 4, .inl (upd fr P 0))), (af, .inr (2, [.ref ak, .ref av, .ref ar, .int (nI (P + 1)), .int (nI (ntN O P)), .int (nI Y)]))] H := hP
    have hD : va_D A [(ak, .inl (cI, 4, .inl (upd fk P (nI kd7)))), (av, .inl (cI, 4, .inl (upd fv P (nI vb7)))), (ar, .inl (cI, 4, .inl (upd fr P 0))), (af, .inr (2, [.ref ak, .ref av, .ref ar, .int (nI (P + 1)), .int (nI (ntN O P)), .int (nI Y)]))] := hD
    refine lv_aload_n hx hb dX2_join_67 rfl (lv_at hl 0 rfl) ?_
    refine va_get (ci := 2) (v := .int (nI (P + 1))) (C := RX2) (T := TX2) (N := 6) hx hb hT wu_X2 hown hK hP 3 rfl rfl 3 (by decide) (hT _ wf_X2_21) (fun _ h9 => h9) rfl dX2_join_68 ?_
    refine lv_iconst (v := 1) hx hb dX2_join_71 (by decide) ?_
    refine lv_isub hx hb dX2_join_72 ?_
    refine lv_ci (nI ((P + 1) - 1)) (pk_sub (a := (P + 1)) (b := 1) (by omega)) ?_
    exact retI C0 rfl ((nI (P + 1)), (nI (ntN O P)), (upd fk P (nI kd7)), (upd fv P (nI vb7)), (upd fr P 0)) (Or.inr ⟨by rw [show P + 1 - 1 = P by omega], rfl, congrArg nI nt_join.symm, by omega, hC.per⟩) (hP.sub (ws' := [(af, .inr (2, [.ref ak, .ref av, .ref ar, .int (nI (P + 1)), .int (nI (ntN O P)), .int (nI Y)])), (ak, .inl (cI, 4, .inl (upd fk P (nI kd7)))), (av, .inl (cI, 4, .inl (upd fv P (nI vb7)))), (ar, .inl (cI, 4, .inl (upd fr P 0)))]) [3, 0, 1, 2] rfl) (hD.sub (ws' := [(af, .inr (2, [.ref ak, .ref av, .ref ar, .int (nI (P + 1)), .int (nI (ntN O P)), .int (nI Y)])), (ak, .inl (cI, 4, .inl (upd fk P (nI kd7)))), (av, .inl (cI, 4, .inl (upd fv P (nI vb7)))), (ar, .inl (cI, 4, .inl (upd fr P 0)))]) [3, 0, 1, 2] (by decide) rfl) hS (Nat.le_of_ble_eq_true rfl) (Nat.le_of_ble_eq_true rfl) dX2_join_73
  · have n_3 : ¬ P < 4 := fun hx9_ => c_1 ((nI_ltI (a := P) (b := 4) (by omega) (by omega)).mpr hx9_)
    refine lv_bipush (v := (-4)) hx hb dX2_join_15 (by decide) ?_
    exact retI C0 rfl ((nI P), (nI (ntN O P)), fk, fv, fr) (Or.inl ⟨rfl, rfl, rfl, by omega, hC⟩) (hP.sub (ws' := [(af, .inr (2, [.ref ak, .ref av, .ref ar, .int (nI P), .int (nI (ntN O P)), .int (nI Y)])), (ak, .inl (cI, 4, .inl fk)), (av, .inl (cI, 4, .inl fv)), (ar, .inl (cI, 4, .inl fr))]) [0, 1, 2, 3] rfl) (hD.sub (ws' := [(af, .inr (2, [.ref ak, .ref av, .ref ar, .int (nI P), .int (nI (ntN O P)), .int (nI Y)])), (ak, .inl (cI, 4, .inl fk)), (av, .inl (cI, 4, .inl fv)), (ar, .inl (cI, 4, .inl fr))]) [0, 1, 2, 3] (by decide) rfl) hS (Nat.le_of_ble_eq_true rfl) (Nat.le_of_ble_eq_true rfl) dX2_join_17

set_option maxHeartbeats 4000000 in
set_option maxRecDepth 100000 in
theorem c_exchange (l : Launch) (D : va_G) (cI cZ cQ cT : ClassId) (sz : Nat) (af : Nat) (ak : Nat) (av : Nat) (ar : Nat) (nt : Int32) (yd : Int32) (fk : Nat → Int32) (fv : Nat → Int32) (fr : Nat → Int32) (P : Nat) (on : Nat) (ot : Nat) (F : Fk) (hP4 : P ≤ 4) (hon : on < P) (hot : ot < P) (hC : CF fk fv fr F) (hB : FB F) : MetV l yX2_exchange cX2_exchange 5 ({ frames := 1, cells := 0, slots := 0, locals := 21 } : Room) [.ref af, .int (nI on), .int (nI ot)] D (TYS cI cZ cQ cT) EF sz [(af, .inr (2, [.ref ak, .ref av, .ref ar, .int (nI P), .int nt, .int yd])), (ak, .inl (cI, 4, .inl fk)), (av, .inl (cI, 4, .inl fv)), (ar, .inl (cI, 4, .inl fr))] (S := (Nat → Int32) × (Nat → Int32)) (fun (u_ : (Nat → Int32) × (Nat → Int32)) => (True) ∧ (CF u_.1 u_.2 fr (fS (fS F.1 on (F.1 ot)) ot (F.1 on), fS (fS F.2.1 on (F.2.1 ot)) ot (F.2.1 on), F.2.2))) (fun u => [(af, .inr (2, [.ref ak, .ref av, .ref ar, .int (nI P), .int nt, .int yd])), (ak, .inl (cI, 4, .inl u.1)), (av, .inl (cI, 4, .inl u.2)), (ar, .inl (cI, 4, .inl fr))]) := by
  refine MetV.mk (lv := [(0, .ref af), (1, .int (nI on)), (2, .int (nI ot))]) (by decide +kernel) (Nat.le_of_ble_eq_true rfl) rfl ?_
  intro p e s m below meth c A ls C0 hP hD hS hX hl
  have C1 := C0
  obtain ⟨hx, hb, hr, hml, hown, hlocks, hname, hT, hN, hK, hA⟩ := C1
  have hd8 := d8_le hP4; have hd0 := d8_pos P
  refine lv_aload_n hx hb dX2_exchange_0 rfl (lv_at hl 0 rfl) ?_
  refine lv_iload_n hx hb dX2_exchange_1 rfl (lv_at hl 1 rfl) ?_
  refine contI (wc := [(af, .inr (2, [.ref ak, .ref av, .ref ar, .int (nI P), .int nt, .int yd]))]) (wr := [(ak, .inl (cI, 4, .inl fk)), (av, .inl (cI, 4, .inl fv)), (ar, .inl (cI, 4, .inl fr))]) C0 hP hD hS [0] [1, 2, 3] rfl rfl (by decide) (by decide) 0 0 (Nat.le_of_ble_eq_true rfl) (Nat.le_of_ble_eq_true rfl) (runV (k := 1) (As := [.int (nI on)]) (rest := []) C0 (c_has l D cI cZ cQ cT _ af (nI on) ak av ar nt yd P (by omega)) wc_X2_has wl_X2_36 wi_X2_has we_X2_has wz_X2 ⟨by decide, by decide, by decide +kernel⟩ ⟨(Nat.le_of_ble_eq_true rfl), (Nat.le_of_ble_eq_true rfl)⟩ hP hD hS EF.ok hX [0] rfl (by decide) 0 rfl rfl rfl rfl hl.1 rfl (Nat.le_of_ble_eq_true rfl) dX2_exchange_2 ⟨(Nat.le_of_ble_eq_true rfl), (Nat.le_of_ble_eq_true rfl)⟩) (fun r_3 u_1 H locs w_2 hP hD hS => ?_)
  have hP : va_P D CL [(ak, .inl (cI, 4, .inl fk)), (av, .inl (cI, 4, .inl fv)), (ar, .inl (cI, 4, .inl fr)), (af, .inr (2, [.ref ak, .ref av, .ref ar, .int (nI P), .int nt, .int yd]))] H := hP
  have hD : va_D A [(ak, .inl (cI, 4, .inl fk)), (av, .inl (cI, 4, .inl fv)), (ar, .inl (cI, 4, .inl fr)), (af, .inr (2, [.ref ak, .ref av, .ref ar, .int (nI P), .int nt, .int yd]))] := hD
  obtain rfl : r_3 = 1 := w_2.trans (if_pos (npe (p := on) (by omega) hP4))
  refine lv_if_eq (tgt := 16) hx hb dX2_exchange_5 (by decide) (fun c_0 => absurd c_0 (by decide)) (fun _ => ?_)
  refine lv_aload_n hx hb dX2_exchange_8 rfl (lv_at hl 0 rfl) ?_
  refine lv_iload_n hx hb dX2_exchange_9 rfl (lv_at hl 2 rfl) ?_
  refine contI (wc := [(af, .inr (2, [.ref ak, .ref av, .ref ar, .int (nI P), .int nt, .int yd]))]) (wr := [(ak, .inl (cI, 4, .inl fk)), (av, .inl (cI, 4, .inl fv)), (ar, .inl (cI, 4, .inl fr))]) C0 hP hD hS [3] [0, 1, 2] rfl rfl (by decide) (by decide) 0 0 (Nat.le_of_ble_eq_true rfl) (Nat.le_of_ble_eq_true rfl) (runV (k := 1) (As := [.int (nI ot)]) (rest := []) C0 (c_has l D cI cZ cQ cT _ af (nI ot) ak av ar nt yd P (by omega)) wc_X2_has wl_X2_36 wi_X2_has we_X2_has wz_X2 ⟨by decide, by decide, by decide +kernel⟩ ⟨(Nat.le_of_ble_eq_true rfl), (Nat.le_of_ble_eq_true rfl)⟩ hP hD hS EF.ok hX [3] rfl (by decide) 3 rfl rfl rfl rfl hl.1 rfl (Nat.le_of_ble_eq_true rfl) dX2_exchange_10 ⟨(Nat.le_of_ble_eq_true rfl), (Nat.le_of_ble_eq_true rfl)⟩) (fun r_6 u_4 H locs w_5 hP hD hS => ?_)
  have hP : va_P D CL [(ak, .inl (cI, 4, .inl fk)), (av, .inl (cI, 4, .inl fv)), (ar, .inl (cI, 4, .inl fr)), (af, .inr (2, [.ref ak, .ref av, .ref ar, .int (nI P), .int nt, .int yd]))] H := hP
  have hD : va_D A [(ak, .inl (cI, 4, .inl fk)), (av, .inl (cI, 4, .inl fv)), (ar, .inl (cI, 4, .inl fr)), (af, .inr (2, [.ref ak, .ref av, .ref ar, .int (nI P), .int nt, .int yd]))] := hD
  obtain rfl : r_6 = 1 := w_5.trans (if_pos (npe (p := ot) (by omega) hP4))
  refine lv_if_ne (tgt := 17) hx hb dX2_exchange_13 (by decide) (fun _ => ?_) (fun c_0 => absurd c_0 (by decide))
  refine lv_aload_n hx hb dX2_exchange_17 rfl (lv_at hl 0 rfl) ?_
  refine va_get (ci := 2) (v := .ref ak) (C := RX2) (T := TX2) (N := 6) hx hb hT wu_X2 hown hK hP 3 rfl rfl 0 (by decide) (hT _ wf_X2_9) (fun _ h9 => h9) rfl dX2_exchange_18 ?_
  refine lv_iload_n hx hb dX2_exchange_21 rfl (lv_at hl 1 rfl) ?_
  refine va_iald hx hb hK hP 0 0 rfl rfl (vp_in_nI (n := on) (by omega) (by decide)) dX2_exchange_22 ?_
  refine lv_ci (fk on) (congrArg fk (nI_clamp (n := on) (by omega))) ?_
  have hb_7 := hB.1 on (by omega)
  refine lv_ci (nI (F.1 on)) (hC.1.g0 (by omega)) ?_
  refine lv_istore_n (lv' := [(3, .int (nI (F.1 on))), (0, .ref af), (1, .int (nI on)), (2, .int (nI ot))]) hx hb dX2_exchange_23 rfl hl (by decide) rfl (fun ls hl => ?_)
  refine lv_aload_n hx hb dX2_exchange_24 rfl (lv_at hl 1 rfl) ?_
  refine va_get (ci := 2) (v := .ref av) (C := RX2) (T := TX2) (N := 6) hx hb hT wu_X2 hown hK hP 3 rfl rfl 1 (by decide) (hT _ wf_X2_15) (fun _ h9 => h9) rfl dX2_exchange_25 ?_
  refine lv_iload_n hx hb dX2_exchange_28 rfl (lv_at hl 2 rfl) ?_
  refine va_iald hx hb hK hP 1 0 rfl rfl (vp_in_nI (n := on) (by omega) (by decide)) dX2_exchange_29 ?_
  refine lv_ci (fv on) (congrArg fv (nI_clamp (n := on) (by omega))) ?_
  have hb_8 := hB.2.1 on (by omega)
  refine lv_ci (nI (F.2.1 on)) (hC.2.1.g0 (by omega)) ?_
  refine lv_istore (lv' := [(4, .int (nI (F.2.1 on))), (3, .int (nI (F.1 on))), (0, .ref af), (1, .int (nI on)), (2, .int (nI ot))]) hx hb dX2_exchange_30 hl (by decide) rfl (fun ls hl => ?_)
  refine lv_aload_n hx hb dX2_exchange_32 rfl (lv_at hl 2 rfl) ?_
  refine va_get (ci := 2) (v := .ref ak) (C := RX2) (T := TX2) (N := 6) hx hb hT wu_X2 hown hK hP 3 rfl rfl 0 (by decide) (hT _ wf_X2_9) (fun _ h9 => h9) rfl dX2_exchange_33 ?_
  refine lv_iload_n hx hb dX2_exchange_36 rfl (lv_at hl 3 rfl) ?_
  refine lv_aload_n hx hb dX2_exchange_37 rfl (lv_at hl 2 rfl) ?_
  refine va_get (ci := 2) (v := .ref ak) (C := RX2) (T := TX2) (N := 6) hx hb hT wu_X2 hown hK hP 3 rfl rfl 0 (by decide) (hT _ wf_X2_9) (fun _ h9 => h9) rfl dX2_exchange_38 ?_
  refine lv_iload_n hx hb dX2_exchange_41 rfl (lv_at hl 4 rfl) ?_
  refine va_iald hx hb hK hP 0 0 rfl rfl (vp_in_nI (n := ot) (by omega) (by decide)) dX2_exchange_42 ?_
  refine lv_ci (fk ot) (congrArg fk (nI_clamp (n := ot) (by omega))) ?_
  have hb_9 := hB.1 ot (by omega)
  refine lv_ci (nI (F.1 ot)) (hC.1.g0 (by omega)) ?_
  refine va_iast hx hb hK hP hD hS 0 0 rfl rfl (vp_in_nI (n := on) (by omega) (by decide)) dX2_exchange_43 (fun H locs hP hD hS => ?_)
  have hP : va_P D CL [(ak, .inl (cI, 4, .inl (upd fk ((nI on)).toNatClampNeg (nI (F.1 ot))))), (av, .inl (cI, 4, .inl fv)), (ar, .inl (cI, 4, .inl fr)), (af, .inr (2, [.ref ak, .ref av, .ref ar, .int (nI P), .int nt, .int yd]))] H := hP
  have hD : va_D A [(ak, .inl (cI, 4, .inl (upd fk ((nI on)).toNatClampNeg (nI (F.1 ot))))), (av, .inl (cI, 4, .inl fv)), (ar, .inl (cI, 4, .inl fr)), (af, .inr (2, [.ref ak, .ref av, .ref ar, .int (nI P), .int nt, .int yd]))] := hD
  rw [nI_clamp (n := on) (by omega)] at hP hD
  have hP : va_P D CL [(ak, .inl (cI, 4, .inl (upd fk on (nI (F.1 ot))))), (av, .inl (cI, 4, .inl fv)), (ar, .inl (cI, 4, .inl fr)), (af, .inr (2, [.ref ak, .ref av, .ref ar, .int (nI P), .int nt, .int yd]))] H := hP
  have hD : va_D A [(ak, .inl (cI, 4, .inl (upd fk on (nI (F.1 ot))))), (av, .inl (cI, 4, .inl fv)), (ar, .inl (cI, 4, .inl fr)), (af, .inr (2, [.ref ak, .ref av, .ref ar, .int (nI P), .int nt, .int yd]))] := hD
  refine lv_aload_n hx hb dX2_exchange_44 rfl (lv_at hl 2 rfl) ?_
  refine va_get (ci := 2) (v := .ref av) (C := RX2) (T := TX2) (N := 6) hx hb hT wu_X2 hown hK hP 3 rfl rfl 1 (by decide) (hT _ wf_X2_15) (fun _ h9 => h9) rfl dX2_exchange_45 ?_
  refine lv_iload_n hx hb dX2_exchange_48 rfl (lv_at hl 3 rfl) ?_
  refine lv_aload_n hx hb dX2_exchange_49 rfl (lv_at hl 2 rfl) ?_
  refine va_get (ci := 2) (v := .ref av) (C := RX2) (T := TX2) (N := 6) hx hb hT wu_X2 hown hK hP 3 rfl rfl 1 (by decide) (hT _ wf_X2_15) (fun _ h9 => h9) rfl dX2_exchange_50 ?_
  refine lv_iload_n hx hb dX2_exchange_53 rfl (lv_at hl 4 rfl) ?_
  refine va_iald hx hb hK hP 1 0 rfl rfl (vp_in_nI (n := ot) (by omega) (by decide)) dX2_exchange_54 ?_
  refine lv_ci (fv ot) (congrArg fv (nI_clamp (n := ot) (by omega))) ?_
  have hb_10 := hB.2.1 ot (by omega)
  refine lv_ci (nI (F.2.1 ot)) (hC.2.1.g0 (by omega)) ?_
  refine va_iast hx hb hK hP hD hS 1 0 rfl rfl (vp_in_nI (n := on) (by omega) (by decide)) dX2_exchange_55 (fun H locs hP hD hS => ?_)
  have hP : va_P D CL [(ak, .inl (cI, 4, .inl (upd fk on (nI (F.1 ot))))), (av, .inl (cI, 4, .inl (upd fv ((nI on)).toNatClampNeg (nI (F.2.1 ot))))), (ar, .inl (cI, 4, .inl fr)), (af, .inr (2, [.ref ak, .ref av, .ref ar, .int (nI P), .int nt, .int yd]))] H := hP
  have hD : va_D A [(ak, .inl (cI, 4, .inl (upd fk on (nI (F.1 ot))))), (av, .inl (cI, 4, .inl (upd fv ((nI on)).toNatClampNeg (nI (F.2.1 ot))))), (ar, .inl (cI, 4, .inl fr)), (af, .inr (2, [.ref ak, .ref av, .ref ar, .int (nI P), .int nt, .int yd]))] := hD
  rw [nI_clamp (n := on) (by omega)] at hP hD
  have hP : va_P D CL [(ak, .inl (cI, 4, .inl (upd fk on (nI (F.1 ot))))), (av, .inl (cI, 4, .inl (upd fv on (nI (F.2.1 ot))))), (ar, .inl (cI, 4, .inl fr)), (af, .inr (2, [.ref ak, .ref av, .ref ar, .int (nI P), .int nt, .int yd]))] H := hP
  have hD : va_D A [(ak, .inl (cI, 4, .inl (upd fk on (nI (F.1 ot))))), (av, .inl (cI, 4, .inl (upd fv on (nI (F.2.1 ot))))), (ar, .inl (cI, 4, .inl fr)), (af, .inr (2, [.ref ak, .ref av, .ref ar, .int (nI P), .int nt, .int yd]))] := hD
  refine lv_aload_n hx hb dX2_exchange_56 rfl (lv_at hl 2 rfl) ?_
  refine va_get (ci := 2) (v := .ref ak) (C := RX2) (T := TX2) (N := 6) hx hb hT wu_X2 hown hK hP 3 rfl rfl 0 (by decide) (hT _ wf_X2_9) (fun _ h9 => h9) rfl dX2_exchange_57 ?_
  refine lv_iload_n hx hb dX2_exchange_60 rfl (lv_at hl 4 rfl) ?_
  refine lv_iload_n hx hb dX2_exchange_61 rfl (lv_at hl 1 rfl) ?_
  refine va_iast hx hb hK hP hD hS 0 0 rfl rfl (vp_in_nI (n := ot) (by omega) (by decide)) dX2_exchange_62 (fun H locs hP hD hS => ?_)
  have hP : va_P D CL [(ak, .inl (cI, 4, .inl (upd (upd fk on (nI (F.1 ot))) ((nI ot)).toNatClampNeg (nI (F.1 on))))), (av, .inl (cI, 4, .inl (upd fv on (nI (F.2.1 ot))))), (ar, .inl (cI, 4, .inl fr)), (af, .inr (2, [.ref ak, .ref av, .ref ar, .int (nI P), .int nt, .int yd]))] H := hP
  have hD : va_D A [(ak, .inl (cI, 4, .inl (upd (upd fk on (nI (F.1 ot))) ((nI ot)).toNatClampNeg (nI (F.1 on))))), (av, .inl (cI, 4, .inl (upd fv on (nI (F.2.1 ot))))), (ar, .inl (cI, 4, .inl fr)), (af, .inr (2, [.ref ak, .ref av, .ref ar, .int (nI P), .int nt, .int yd]))] := hD
  rw [nI_clamp (n := ot) (by omega)] at hP hD
  have hP : va_P D CL [(ak, .inl (cI, 4, .inl (upd (upd fk on (nI (F.1 ot))) ot (nI (F.1 on))))), (av, .inl (cI, 4, .inl (upd fv on (nI (F.2.1 ot))))), (ar, .inl (cI, 4, .inl fr)), (af, .inr (2, [.ref ak, .ref av, .ref ar, .int (nI P), .int nt, .int yd]))] H := hP
  have hD : va_D A [(ak, .inl (cI, 4, .inl (upd (upd fk on (nI (F.1 ot))) ot (nI (F.1 on))))), (av, .inl (cI, 4, .inl (upd fv on (nI (F.2.1 ot))))), (ar, .inl (cI, 4, .inl fr)), (af, .inr (2, [.ref ak, .ref av, .ref ar, .int (nI P), .int nt, .int yd]))] := hD
  refine lv_aload_n hx hb dX2_exchange_63 rfl (lv_at hl 2 rfl) ?_
  refine va_get (ci := 2) (v := .ref av) (C := RX2) (T := TX2) (N := 6) hx hb hT wu_X2 hown hK hP 3 rfl rfl 1 (by decide) (hT _ wf_X2_15) (fun _ h9 => h9) rfl dX2_exchange_64 ?_
  refine lv_iload_n hx hb dX2_exchange_67 rfl (lv_at hl 4 rfl) ?_
  refine lv_iload hx hb dX2_exchange_68 (lv_at hl 0 rfl) ?_
  refine va_iast hx hb hK hP hD hS 1 0 rfl rfl (vp_in_nI (n := ot) (by omega) (by decide)) dX2_exchange_70 (fun H locs hP hD hS => ?_)
  have hP : va_P D CL [(ak, .inl (cI, 4, .inl (upd (upd fk on (nI (F.1 ot))) ot (nI (F.1 on))))), (av, .inl (cI, 4, .inl (upd (upd fv on (nI (F.2.1 ot))) ((nI ot)).toNatClampNeg (nI (F.2.1 on))))), (ar, .inl (cI, 4, .inl fr)), (af, .inr (2, [.ref ak, .ref av, .ref ar, .int (nI P), .int nt, .int yd]))] H := hP
  have hD : va_D A [(ak, .inl (cI, 4, .inl (upd (upd fk on (nI (F.1 ot))) ot (nI (F.1 on))))), (av, .inl (cI, 4, .inl (upd (upd fv on (nI (F.2.1 ot))) ((nI ot)).toNatClampNeg (nI (F.2.1 on))))), (ar, .inl (cI, 4, .inl fr)), (af, .inr (2, [.ref ak, .ref av, .ref ar, .int (nI P), .int nt, .int yd]))] := hD
  rw [nI_clamp (n := ot) (by omega)] at hP hD
  have hP : va_P D CL [(ak, .inl (cI, 4, .inl (upd (upd fk on (nI (F.1 ot))) ot (nI (F.1 on))))), (av, .inl (cI, 4, .inl (upd (upd fv on (nI (F.2.1 ot))) ot (nI (F.2.1 on))))), (ar, .inl (cI, 4, .inl fr)), (af, .inr (2, [.ref ak, .ref av, .ref ar, .int (nI P), .int nt, .int yd]))] H := hP
  have hD : va_D A [(ak, .inl (cI, 4, .inl (upd (upd fk on (nI (F.1 ot))) ot (nI (F.1 on))))), (av, .inl (cI, 4, .inl (upd (upd fv on (nI (F.2.1 ot))) ot (nI (F.2.1 on))))), (ar, .inl (cI, 4, .inl fr)), (af, .inr (2, [.ref ak, .ref av, .ref ar, .int (nI P), .int nt, .int yd]))] := hD
  exact retV C0 ((upd (upd fk on (nI (F.1 ot))) ot (nI (F.1 on))), (upd (upd fv on (nI (F.2.1 ot))) ot (nI (F.2.1 on)))) (⟨trivial, (show CF (upd (upd fk on (nI (F.1 ot))) ot (nI (F.1 on))) (upd (upd fv on (nI (F.2.1 ot))) ot (nI (F.2.1 on))) fr (fS (fS F.1 on (F.1 ot)) ot (F.1 on), fS (fS F.2.1 on (F.2.1 ot)) ot (F.2.1 on), F.2.2) from ⟨(hC.1.put0).put0, (hC.2.1.put0).put0, hC.2.2⟩)⟩) (hP.sub (ws' := [(af, .inr (2, [.ref ak, .ref av, .ref ar, .int (nI P), .int nt, .int yd])), (ak, .inl (cI, 4, .inl (upd (upd fk on (nI (F.1 ot))) ot (nI (F.1 on))))), (av, .inl (cI, 4, .inl (upd (upd fv on (nI (F.2.1 ot))) ot (nI (F.2.1 on))))), (ar, .inl (cI, 4, .inl fr))]) [3, 0, 1, 2] rfl) (hD.sub (ws' := [(af, .inr (2, [.ref ak, .ref av, .ref ar, .int (nI P), .int nt, .int yd])), (ak, .inl (cI, 4, .inl (upd (upd fk on (nI (F.1 ot))) ot (nI (F.1 on))))), (av, .inl (cI, 4, .inl (upd (upd fv on (nI (F.2.1 ot))) ot (nI (F.2.1 on))))), (ar, .inl (cI, 4, .inl fr))]) [3, 0, 1, 2] (by decide) rfl) hS (Nat.le_of_ble_eq_true rfl) (Nat.le_of_ble_eq_true rfl) dX2_exchange_71

set_option maxHeartbeats 4000000 in
set_option maxRecDepth 100000 in
theorem c_endMorning (l : Launch) (D : va_G) (cI cZ cQ cT : ClassId) (sz : Nat) (af : Nat) (ak : Nat) (av : Nat) (ar : Nat) (P : Nat) (nh : Nat) (dn : Nat) (Y : Nat) (O : Nat → Nat) (hP4 : P ≤ 4) (hOB : ∀ j, j < 4 → O j < 2) (hdn : dn < 4096) (hnl : nh < 100) : MetV l yX2_endMorning cX2_endMorning 4 ({ frames := 1, cells := 0, slots := 0, locals := 22 } : Room) [.ref af, .int (nI dn), .int (nI nh)] D (TYS cI cZ cQ cT) EF sz [(af, .inr (2, [.ref ak, .ref av, .ref ar, .int (nI P), .int (nI (ntN O P)), .int (nI Y)]))] (S := (Nat → Nat)) (fun (u_ : (Nat → Nat)) => (True) ∧ (u_ = moO O dn nh P)) (fun u => [(af, .inr (2, [.ref ak, .ref av, .ref ar, .int (nI P), .int (nI (ntN u P)), .int (nI dn)]))]) := by
  refine MetV.mk (lv := [(0, .ref af), (1, .int (nI dn)), (2, .int (nI nh))]) (by decide +kernel) (Nat.le_of_ble_eq_true rfl) rfl ?_
  intro p e s m below meth c A ls C0 hP hD hS hX hl
  have C1 := C0
  obtain ⟨hx, hb, hr, hml, hown, hlocks, hname, hT, hN, hK, hA⟩ := C1
  have hd8 := d8_le hP4; have hd0 := d8_pos P
  refine lv_aload_n hx hb dX2_endMorning_0 rfl (lv_at hl 0 rfl) ?_
  refine lv_iload_n hx hb dX2_endMorning_1 rfl (lv_at hl 1 rfl) ?_
  refine va_put (ci := 2) (v := .int (nI dn)) (ty := .int) (C := RX2) (T := TX2) (N := 6) hx hb hT wu_X2 tyX2 tyX2_ok nmX2 hown hK hP hD hS 0 rfl rfl 5 (by decide) (hT _ wf_X2_40) (fun _ h9 => h9) rfl (by decide +kernel) rfl rfl (Nat.le_of_ble_eq_true rfl) dX2_endMorning_2 (fun H locs hP hD hS => ?_)
  have hP : va_P D CL [(af, .inr (2, [.ref ak, .ref av, .ref ar, .int (nI P), .int (nI (ntN O P)), .int (nI dn)]))] H := hP
  have hD : va_D A [(af, .inr (2, [.ref ak, .ref av, .ref ar, .int (nI P), .int (nI (ntN O P)), .int (nI dn)]))] := hD
  refine lv_iconst (v := 0) hx hb dX2_endMorning_5 (by decide) ?_
  refine lv_istore_n (lv' := [(3, .int 0), (0, .ref af), (1, .int (nI dn)), (2, .int (nI nh))]) hx hb dX2_endMorning_6 rfl hl (by decide) rfl (fun ls hl => ?_)
  have LOOP_1 : ∀ (fu_ : Nat) (j_ : Nat) (Ol : Nat → Nat) (H : Heap) (locs : List Loc) (ls : Array Slot), (P - j_) < fu_ → (j_ ≤ P) → (Ol = moO O dn nh j_) → va_P D CL [(af, .inr (2, [.ref ak, .ref av, .ref ar, .int (nI P), .int (nI (ntN Ol P)), .int (nI dn)]))] H → va_D A [(af, .inr (2, [.ref ak, .ref av, .ref ar, .int (nI P), .int (nI (ntN Ol P)), .int (nI dn)]))] → va_S A s.heap H locs → lv_has ls 4 [(0, .ref af), (1, .int (nI dn)), (2, .int (nI nh)), (3, .int (nI j_))] → W p l e ({ frames := 1, cells := 0, slots := 0, locals := 22 } : Room) s m [.ref af, .int (nI dn), .int (nI nh)].toArray below meth c H locs 0 0 (MQ below (va_Qv (S := (Nat → Nat)) (fun (u_ : (Nat → Nat)) => (True) ∧ (u_ = moO O dn nh P)) (fun u => wE D (TYS cI cZ cQ cT) A [(af, .inr (2, [.ref ak, .ref av, .ref ar, .int (nI P), .int (nI (ntN u P)), .int (nI dn)]))]) A) [.ref af, .int (nI dn), .int (nI nh)].toArray s 0 0 A) (F0 m 7 ls [])  := by
    intro fu_
    induction fu_ with
    | zero => intro j_ Ol H locs ls hk_; exact absurd hk_ (Nat.not_lt_zero _)
    | succ fu_ ih_2 =>
      intro j_ Ol H locs ls hk_ i1 iO hP hD hS hl
      refine lv_iload_n hx hb dX2_endMorning_7 rfl (lv_at hl 3 rfl) ?_
      refine lv_aload_n hx hb dX2_endMorning_8 rfl (lv_at hl 0 rfl) ?_
      refine va_get (ci := 2) (v := .int (nI P)) (C := RX2) (T := TX2) (N := 6) hx hb hT wu_X2 hown hK hP 0 rfl rfl 3 (by decide) (hT _ wf_X2_21) (fun _ h9 => h9) rfl dX2_endMorning_9 ?_
      have hOl_ : ∀ j, j < 4 → Ol j < 2 := by rw [iO]; exact moO_lt hOB
      refine lv_icmp_ge (tgt := 43) hx hb dX2_endMorning_12 (by decide) (fun c_3 => ?_) (fun c_3 => ?_)
      · have n_4 : P ≤ j_ := (nI_leI (a := P) (b := j_) (by omega) (by omega)).mp c_3
        exact retV C0 (Ol) (⟨trivial, (show Ol = moO O dn nh P from (by rw [iO, show j_ = P by omega]))⟩) (hP.sub (ws' := [(af, .inr (2, [.ref ak, .ref av, .ref ar, .int (nI P), .int (nI (ntN Ol P)), .int (nI dn)]))]) [0] rfl) (hD.sub (ws' := [(af, .inr (2, [.ref ak, .ref av, .ref ar, .int (nI P), .int (nI (ntN Ol P)), .int (nI dn)]))]) [0] (by decide) rfl) hS (Nat.le_of_ble_eq_true rfl) (Nat.le_of_ble_eq_true rfl) dX2_endMorning_43
      · have n_5 : ¬ P ≤ j_ := fun hx9_ => c_3 ((nI_leI (a := P) (b := j_) (by omega) (by omega)).mpr hx9_)
        refine lv_aload_n hx hb dX2_endMorning_15 rfl (lv_at hl 0 rfl) ?_
        refine lv_iload_n hx hb dX2_endMorning_16 rfl (lv_at hl 3 rfl) ?_
        refine lv_iload_n hx hb dX2_endMorning_17 rfl (lv_at hl 3 rfl) ?_
        refine lv_iload_n hx hb dX2_endMorning_18 rfl (lv_at hl 1 rfl) ?_
        refine contI (wc := []) (wr := [(af, .inr (2, [.ref ak, .ref av, .ref ar, .int (nI P), .int (nI (ntN Ol P)), .int (nI dn)]))]) C0 hP hD hS [] [0] rfl rfl (by decide) (by decide) 0 0 (Nat.le_of_ble_eq_true rfl) (Nat.le_of_ble_eq_true rfl) (runSN (k := 2) (As := [.int (nI j_), .int (nI dn)]) (rest := [.int (nI j_), .ref af]) "DayKnown" 662 C0 (c_ownRow l D cI cZ cQ cT _ j_ dn (by omega) (by omega)) wc_X5_ownRow kl_X2_43 wt_X5_ownRow wz_X5 ⟨by decide, by decide, by decide +kernel⟩ ⟨(Nat.le_of_ble_eq_true rfl), (Nat.le_of_ble_eq_true rfl)⟩ hP hD hS EF.ok hX [] rfl (by decide) rfl hl.1 rfl (Nat.le_of_ble_eq_true rfl) dX2_endMorning_19 ⟨(Nat.le_of_ble_eq_true rfl), (Nat.le_of_ble_eq_true rfl)⟩) (fun r_8 u_6 H locs w_7 hP hD hS => ?_)
        have hP : va_P D CL [(af, .inr (2, [.ref ak, .ref av, .ref ar, .int (nI P), .int (nI (ntN Ol P)), .int (nI dn)]))] H := hP
        have hD : va_D A [(af, .inr (2, [.ref ak, .ref av, .ref ar, .int (nI P), .int (nI (ntN Ol P)), .int (nI dn)]))] := hD
        have hrs_9 : dn / 8 ^ j_ % 8 < 8 := Nat.mod_lt _ (by decide)
        obtain rfl : r_8 = (nI (dn / 8 ^ j_ % 8)) := w_7
        refine contI (wc := []) (wr := [(af, .inr (2, [.ref ak, .ref av, .ref ar, .int (nI P), .int (nI (ntN Ol P)), .int (nI dn)]))]) C0 hP hD hS [] [0] rfl rfl (by decide) (by decide) 0 0 (Nat.le_of_ble_eq_true rfl) (Nat.le_of_ble_eq_true rfl) (runS (k := 1) (As := [.int (nI (dn / 8 ^ j_ % 8))]) (rest := [.int (nI j_), .ref af]) C0 (c_bitCount l D cI cZ cQ cT _ (nI (dn / 8 ^ j_ % 8))) wc_J6_bitCount_0f7a4 wl_X2_47 wt_J6_bitCount_0f7a4 wz_J6 ⟨by decide, by decide, by decide +kernel⟩ ⟨(Nat.le_of_ble_eq_true rfl), (Nat.le_of_ble_eq_true rfl)⟩ hP hD hS EF.ok hX [] rfl (by decide) rfl hl.1 rfl (Nat.le_of_ble_eq_true rfl) dX2_endMorning_22 ⟨(Nat.le_of_ble_eq_true rfl), (Nat.le_of_ble_eq_true rfl)⟩) (fun r_12 u_10 H locs w_11 hP hD hS => ?_)
        have hP : va_P D CL [(af, .inr (2, [.ref ak, .ref av, .ref ar, .int (nI P), .int (nI (ntN Ol P)), .int (nI dn)]))] H := hP
        have hD : va_D A [(af, .inr (2, [.ref ak, .ref av, .ref ar, .int (nI P), .int (nI (ntN Ol P)), .int (nI dn)]))] := hD
        obtain rfl : r_12 = (bcE (nI (dn / 8 ^ j_ % 8))) := w_11
        refine lv_ci (nI (hoN dn j_ 3)) ho_n ?_
        have hho_ := hoN_le dn j_ 3
        refine lv_iload_n hx hb dX2_endMorning_25 rfl (lv_at hl 2 rfl) ?_
        refine lv_icmp_lt (tgt := 33) hx hb dX2_endMorning_26 (by decide) (fun c_13 => ?_) (fun c_13 => ?_)
        · have n_14 : (hoN dn j_ 3) < nh := (nI_ltI (a := (hoN dn j_ 3)) (b := nh) (by omega) (by omega)).mp c_13
          refine lv_iconst (v := 0) hx hb dX2_endMorning_33 (by decide) ?_
          refine contV (wc := [(af, .inr (2, [.ref ak, .ref av, .ref ar, .int (nI P), .int (nI (ntN Ol P)), .int (nI dn)]))]) (wr := []) C0 hP hD hS [0] [] rfl rfl (by decide) (by decide) 0 0 (Nat.le_of_ble_eq_true rfl) (Nat.le_of_ble_eq_true rfl) (runV (k := 2) (As := [.int (nI j_), .int 0]) (rest := []) C0 (c_putNote l D cI cZ cQ cT _ af 0 ak av ar P j_ dn Ol (by omega) hOl_ (by omega)) wc_X2_putNote wl_X2_29 wi_X2_putNote we_X2_putNote wz_X2 ⟨by decide, by decide, by decide +kernel⟩ ⟨(Nat.le_of_ble_eq_true rfl), (Nat.le_of_ble_eq_true rfl)⟩ hP hD hS EF.ok hX [0] rfl (by decide) 0 rfl rfl rfl rfl hl.1 rfl (Nat.le_of_ble_eq_true rfl) dX2_endMorning_34 ⟨(Nat.le_of_ble_eq_true rfl), (Nat.le_of_ble_eq_true rfl)⟩) (fun u_17 H locs w_18 hP hD hS => ?_)
          obtain ⟨bv_16, rfl⟩ : ∃ z, z = u_17 := ⟨_, rfl⟩
          have hP : va_P D CL [(af, .inr (2, [.ref ak, .ref av, .ref ar, .int (nI P), .int (nI (ntN (fS Ol j_ bv_16) P)), .int (nI dn)]))] H := hP
          have hD : va_D A [(af, .inr (2, [.ref ak, .ref av, .ref ar, .int (nI P), .int (nI (ntN (fS Ol j_ bv_16) P)), .int (nI dn)]))] := hD
          have hf_20 : bv_16 = (if (0 : Int32) = 0 then 0 else 1) := w_18.2
          replace w_18 := w_18.1
          obtain rfl : bv_16 = 0 := hf_20.trans (if_pos (by decide))
          refine lv_iinc (v := (nI (j_ + 1))) (lv' := [(3, .int (nI (j_ + 1))), (0, .ref af), (1, .int (nI dn)), (2, .int (nI nh))]) hx hb dX2_endMorning_37 hl (k := 3) rfl (nI_succ _).symm (by decide) rfl (fun ls hl => ?_)
          refine lv_goto (tgt := 7) hx hb dX2_endMorning_40 (by decide) ?_
          exact ih_2 (j_ + 1) (fS Ol j_ 0) _ _ _ (by omega) (by omega) (by rw [iO]; exact moO_s (by rw [if_neg (by omega)])) (hP.sub (ws' := [(af, .inr (2, [.ref ak, .ref av, .ref ar, .int (nI P), .int (nI (ntN (fS Ol j_ 0) P)), .int (nI dn)]))]) [0] rfl) (hD.sub (ws' := [(af, .inr (2, [.ref ak, .ref av, .ref ar, .int (nI P), .int (nI (ntN (fS Ol j_ 0) P)), .int (nI dn)]))]) [0] (by decide) rfl) hS (lv_sub hl [1, 2, 3, 0] rfl)
        · have n_15 : ¬ (hoN dn j_ 3) < nh := fun hx9_ => c_13 ((nI_ltI (a := (hoN dn j_ 3)) (b := nh) (by omega) (by omega)).mpr hx9_)
          refine lv_iconst (v := 1) hx hb dX2_endMorning_29 (by decide) ?_
          refine lv_goto (tgt := 34) hx hb dX2_endMorning_30 (by decide) ?_
          refine contV (wc := [(af, .inr (2, [.ref ak, .ref av, .ref ar, .int (nI P), .int (nI (ntN Ol P)), .int (nI dn)]))]) (wr := []) C0 hP hD hS [0] [] rfl rfl (by decide) (by decide) 0 0 (Nat.le_of_ble_eq_true rfl) (Nat.le_of_ble_eq_true rfl) (runV (k := 2) (As := [.int (nI j_), .int 1]) (rest := []) C0 (c_putNote l D cI cZ cQ cT _ af 1 ak av ar P j_ dn Ol (by omega) hOl_ (by omega)) wc_X2_putNote wl_X2_29 wi_X2_putNote we_X2_putNote wz_X2 ⟨by decide, by decide, by decide +kernel⟩ ⟨(Nat.le_of_ble_eq_true rfl), (Nat.le_of_ble_eq_true rfl)⟩ hP hD hS EF.ok hX [0] rfl (by decide) 0 rfl rfl rfl rfl hl.1 rfl (Nat.le_of_ble_eq_true rfl) dX2_endMorning_34 ⟨(Nat.le_of_ble_eq_true rfl), (Nat.le_of_ble_eq_true rfl)⟩) (fun u_22 H locs w_23 hP hD hS => ?_)
          obtain ⟨bv_21, rfl⟩ : ∃ z, z = u_22 := ⟨_, rfl⟩
          have hP : va_P D CL [(af, .inr (2, [.ref ak, .ref av, .ref ar, .int (nI P), .int (nI (ntN (fS Ol j_ bv_21) P)), .int (nI dn)]))] H := hP
          have hD : va_D A [(af, .inr (2, [.ref ak, .ref av, .ref ar, .int (nI P), .int (nI (ntN (fS Ol j_ bv_21) P)), .int (nI dn)]))] := hD
          have hf_25 : bv_21 = (if (1 : Int32) = 0 then 0 else 1) := w_23.2
          replace w_23 := w_23.1
          obtain rfl : bv_21 = 1 := hf_25.trans (if_neg (by decide))
          refine lv_iinc (v := (nI (j_ + 1))) (lv' := [(3, .int (nI (j_ + 1))), (0, .ref af), (1, .int (nI dn)), (2, .int (nI nh))]) hx hb dX2_endMorning_37 hl (k := 3) rfl (nI_succ _).symm (by decide) rfl (fun ls hl => ?_)
          refine lv_goto (tgt := 7) hx hb dX2_endMorning_40 (by decide) ?_
          exact ih_2 (j_ + 1) (fS Ol j_ 1) _ _ _ (by omega) (by omega) (by rw [iO]; exact moO_s (by rw [if_pos (by omega)])) (hP.sub (ws' := [(af, .inr (2, [.ref ak, .ref av, .ref ar, .int (nI P), .int (nI (ntN (fS Ol j_ 1) P)), .int (nI dn)]))]) [0] rfl) (hD.sub (ws' := [(af, .inr (2, [.ref ak, .ref av, .ref ar, .int (nI P), .int (nI (ntN (fS Ol j_ 1) P)), .int (nI dn)]))]) [0] (by decide) rfl) hS (lv_sub hl [1, 2, 3, 0] rfl)
  exact LOOP_1 ((P - 0) + 1) 0 O _ _ _ (Nat.lt_succ_self _) (Nat.zero_le _) moO_0.symm (hP.sub (ws' := [(af, .inr (2, [.ref ak, .ref av, .ref ar, .int (nI P), .int (nI (ntN O P)), .int (nI dn)]))]) [0] rfl) (hD.sub (ws' := [(af, .inr (2, [.ref ak, .ref av, .ref ar, .int (nI P), .int (nI (ntN O P)), .int (nI dn)]))]) [0] (by decide) rfl) hS (lv_sub hl [1, 2, 3, 0] rfl)

set_option maxHeartbeats 4000000 in
set_option maxRecDepth 100000 in
theorem c_become (l : Launch) (D : va_G) (cI cZ cQ cT : ClassId) (sz : Nat) (ef : Nat) (af : Nat) (ek : Nat) (ev : Nat) (er : Nat) (n2 : Int32) (y2 : Int32) (jk : Nat → Int32) (jv : Nat → Int32) (jr : Nat → Int32) (ak : Nat) (av : Nat) (ar : Nat) (nt : Int32) (yd : Int32) (fk : Nat → Int32) (fv : Nat → Int32) (fr : Nat → Int32) (P : Nat) (Q : Nat) (hP4 : P ≤ 4) (hQ4 : Q ≤ 4) : MetV l yX2_become cX2_become 2 ({ frames := 1, cells := 0, slots := 0, locals := 80 } : Room) [.ref ef, .ref af] D (TYS cI cZ cQ cT) EF sz [(ef, .inr (2, [.ref ek, .ref ev, .ref er, .int (nI Q), .int n2, .int y2])), (ek, .inl (cI, 4, .inl jk)), (ev, .inl (cI, 4, .inl jv)), (er, .inl (cI, 4, .inl jr)), (af, .inr (2, [.ref ak, .ref av, .ref ar, .int (nI P), .int nt, .int yd])), (ak, .inl (cI, 4, .inl fk)), (av, .inl (cI, 4, .inl fv)), (ar, .inl (cI, 4, .inl fr))] (S := (Nat → Int32) × (Nat → Int32) × (Nat → Int32)) (fun (u_ : (Nat → Int32) × (Nat → Int32) × (Nat → Int32)) => (True) ∧ ((∀ i, i < 4 → u_.1 i = fk i) ∧ (∀ i, i < 4 → u_.2.1 i = fv i) ∧ ∀ i, i < 4 → u_.2.2 i = fr i)) (fun u => [(ef, .inr (2, [.ref ek, .ref ev, .ref er, .int (nI P), .int nt, .int yd])), (ek, .inl (cI, 4, .inl u.1)), (ev, .inl (cI, 4, .inl u.2.1)), (er, .inl (cI, 4, .inl u.2.2)), (af, .inr (2, [.ref ak, .ref av, .ref ar, .int (nI P), .int nt, .int yd])), (ak, .inl (cI, 4, .inl fk)), (av, .inl (cI, 4, .inl fv)), (ar, .inl (cI, 4, .inl fr))]) := by
  refine MetV.mk (lv := [(0, .ref ef), (1, .ref af)]) (by decide +kernel) (Nat.le_of_ble_eq_true rfl) rfl ?_
  intro p e s m below meth c A ls C0 hP hD hS hX hl
  have C1 := C0
  obtain ⟨hx, hb, hr, hml, hown, hlocks, hname, hT, hN, hK, hA⟩ := C1
  have hd8 := d8_le hP4; have hd0 := d8_pos P
  refine lv_aload_n hx hb dX2_become_0 rfl (lv_at hl 1 rfl) ?_
  refine va_get (ci := 2) (v := .ref ak) (C := RX2) (T := TX2) (N := 6) hx hb hT wu_X2 hown hK hP 4 rfl rfl 0 (by decide) (hT _ wf_X2_9) (fun _ h9 => h9) rfl dX2_become_1 ?_
  refine lv_iconst (v := 0) hx hb dX2_become_4 (by decide) ?_
  refine lv_aload_n hx hb dX2_become_5 rfl (lv_at hl 0 rfl) ?_
  refine va_get (ci := 2) (v := .ref ek) (C := RX2) (T := TX2) (N := 6) hx hb hT wu_X2 hown hK hP 0 rfl rfl 0 (by decide) (hT _ wf_X2_9) (fun _ h9 => h9) rfl dX2_become_6 ?_
  refine lv_iconst (v := 0) hx hb dX2_become_9 (by decide) ?_
  refine lv_iconst (v := 4) hx hb dX2_become_10 (by decide) ?_
  refine va_copyi (ty := .int) hx hb (hml.trans hl.1.symm) hown (hT _ wl_X2_53) (hT _ wnat_arraycopy) (hT _ wt_arraycopy) (hT _ wz_J10) hK hP hD hS 5 1 0 0 rfl rfl rfl rfl rfl (by decide +kernel) (by decide +kernel) (by decide +kernel) (by decide +kernel) (by decide +kernel) (fun _ _ => rfl) (Nat.le_of_ble_eq_true rfl) (Nat.le_of_ble_eq_true rfl) dX2_become_11 (fun H locs hP hD hS => ?_)
  have hP : va_P D CL [(ef, .inr (2, [.ref ek, .ref ev, .ref er, .int (nI Q), .int n2, .int y2])), (ek, .inl (cI, 4, .inl (va_cpy fk jk ((0 : Int32)).toNatClampNeg ((0 : Int32)).toNatClampNeg ((4 : Int32)).toNatClampNeg))), (ev, .inl (cI, 4, .inl jv)), (er, .inl (cI, 4, .inl jr)), (af, .inr (2, [.ref ak, .ref av, .ref ar, .int (nI P), .int nt, .int yd])), (ak, .inl (cI, 4, .inl fk)), (av, .inl (cI, 4, .inl fv)), (ar, .inl (cI, 4, .inl fr))] H := hP
  have hD : va_D A [(ef, .inr (2, [.ref ek, .ref ev, .ref er, .int (nI Q), .int n2, .int y2])), (ek, .inl (cI, 4, .inl (va_cpy fk jk ((0 : Int32)).toNatClampNeg ((0 : Int32)).toNatClampNeg ((4 : Int32)).toNatClampNeg))), (ev, .inl (cI, 4, .inl jv)), (er, .inl (cI, 4, .inl jr)), (af, .inr (2, [.ref ak, .ref av, .ref ar, .int (nI P), .int nt, .int yd])), (ak, .inl (cI, 4, .inl fk)), (av, .inl (cI, 4, .inl fv)), (ar, .inl (cI, 4, .inl fr))] := hD
  refine lv_aload_n hx hb dX2_become_14 rfl (lv_at hl 1 rfl) ?_
  refine va_get (ci := 2) (v := .ref av) (C := RX2) (T := TX2) (N := 6) hx hb hT wu_X2 hown hK hP 4 rfl rfl 1 (by decide) (hT _ wf_X2_15) (fun _ h9 => h9) rfl dX2_become_15 ?_
  refine lv_iconst (v := 0) hx hb dX2_become_18 (by decide) ?_
  refine lv_aload_n hx hb dX2_become_19 rfl (lv_at hl 0 rfl) ?_
  refine va_get (ci := 2) (v := .ref ev) (C := RX2) (T := TX2) (N := 6) hx hb hT wu_X2 hown hK hP 0 rfl rfl 1 (by decide) (hT _ wf_X2_15) (fun _ h9 => h9) rfl dX2_become_20 ?_
  refine lv_iconst (v := 0) hx hb dX2_become_23 (by decide) ?_
  refine lv_iconst (v := 4) hx hb dX2_become_24 (by decide) ?_
  refine va_copyi (ty := .int) hx hb (hml.trans hl.1.symm) hown (hT _ wl_X2_53) (hT _ wnat_arraycopy) (hT _ wt_arraycopy) (hT _ wz_J10) hK hP hD hS 6 2 0 0 rfl rfl rfl rfl rfl (by decide +kernel) (by decide +kernel) (by decide +kernel) (by decide +kernel) (by decide +kernel) (fun _ _ => rfl) (Nat.le_of_ble_eq_true rfl) (Nat.le_of_ble_eq_true rfl) dX2_become_25 (fun H locs hP hD hS => ?_)
  have hP : va_P D CL [(ef, .inr (2, [.ref ek, .ref ev, .ref er, .int (nI Q), .int n2, .int y2])), (ek, .inl (cI, 4, .inl (va_cpy fk jk ((0 : Int32)).toNatClampNeg ((0 : Int32)).toNatClampNeg ((4 : Int32)).toNatClampNeg))), (ev, .inl (cI, 4, .inl (va_cpy fv jv ((0 : Int32)).toNatClampNeg ((0 : Int32)).toNatClampNeg ((4 : Int32)).toNatClampNeg))), (er, .inl (cI, 4, .inl jr)), (af, .inr (2, [.ref ak, .ref av, .ref ar, .int (nI P), .int nt, .int yd])), (ak, .inl (cI, 4, .inl fk)), (av, .inl (cI, 4, .inl fv)), (ar, .inl (cI, 4, .inl fr))] H := hP
  have hD : va_D A [(ef, .inr (2, [.ref ek, .ref ev, .ref er, .int (nI Q), .int n2, .int y2])), (ek, .inl (cI, 4, .inl (va_cpy fk jk ((0 : Int32)).toNatClampNeg ((0 : Int32)).toNatClampNeg ((4 : Int32)).toNatClampNeg))), (ev, .inl (cI, 4, .inl (va_cpy fv jv ((0 : Int32)).toNatClampNeg ((0 : Int32)).toNatClampNeg ((4 : Int32)).toNatClampNeg))), (er, .inl (cI, 4, .inl jr)), (af, .inr (2, [.ref ak, .ref av, .ref ar, .int (nI P), .int nt, .int yd])), (ak, .inl (cI, 4, .inl fk)), (av, .inl (cI, 4, .inl fv)), (ar, .inl (cI, 4, .inl fr))] := hD
  refine lv_aload_n hx hb dX2_become_28 rfl (lv_at hl 1 rfl) ?_
  refine va_get (ci := 2) (v := .ref ar) (C := RX2) (T := TX2) (N := 6) hx hb hT wu_X2 hown hK hP 4 rfl rfl 2 (by decide) (hT _ wf_X2_18) (fun _ h9 => h9) rfl dX2_become_29 ?_
  refine lv_iconst (v := 0) hx hb dX2_become_32 (by decide) ?_
  refine lv_aload_n hx hb dX2_become_33 rfl (lv_at hl 0 rfl) ?_
  refine va_get (ci := 2) (v := .ref er) (C := RX2) (T := TX2) (N := 6) hx hb hT wu_X2 hown hK hP 0 rfl rfl 2 (by decide) (hT _ wf_X2_18) (fun _ h9 => h9) rfl dX2_become_34 ?_
  refine lv_iconst (v := 0) hx hb dX2_become_37 (by decide) ?_
  refine lv_iconst (v := 4) hx hb dX2_become_38 (by decide) ?_
  refine va_copyi (ty := .int) hx hb (hml.trans hl.1.symm) hown (hT _ wl_X2_53) (hT _ wnat_arraycopy) (hT _ wt_arraycopy) (hT _ wz_J10) hK hP hD hS 7 3 0 0 rfl rfl rfl rfl rfl (by decide +kernel) (by decide +kernel) (by decide +kernel) (by decide +kernel) (by decide +kernel) (fun _ _ => rfl) (Nat.le_of_ble_eq_true rfl) (Nat.le_of_ble_eq_true rfl) dX2_become_39 (fun H locs hP hD hS => ?_)
  have hP : va_P D CL [(ef, .inr (2, [.ref ek, .ref ev, .ref er, .int (nI Q), .int n2, .int y2])), (ek, .inl (cI, 4, .inl (va_cpy fk jk ((0 : Int32)).toNatClampNeg ((0 : Int32)).toNatClampNeg ((4 : Int32)).toNatClampNeg))), (ev, .inl (cI, 4, .inl (va_cpy fv jv ((0 : Int32)).toNatClampNeg ((0 : Int32)).toNatClampNeg ((4 : Int32)).toNatClampNeg))), (er, .inl (cI, 4, .inl (va_cpy fr jr ((0 : Int32)).toNatClampNeg ((0 : Int32)).toNatClampNeg ((4 : Int32)).toNatClampNeg))), (af, .inr (2, [.ref ak, .ref av, .ref ar, .int (nI P), .int nt, .int yd])), (ak, .inl (cI, 4, .inl fk)), (av, .inl (cI, 4, .inl fv)), (ar, .inl (cI, 4, .inl fr))] H := hP
  have hD : va_D A [(ef, .inr (2, [.ref ek, .ref ev, .ref er, .int (nI Q), .int n2, .int y2])), (ek, .inl (cI, 4, .inl (va_cpy fk jk ((0 : Int32)).toNatClampNeg ((0 : Int32)).toNatClampNeg ((4 : Int32)).toNatClampNeg))), (ev, .inl (cI, 4, .inl (va_cpy fv jv ((0 : Int32)).toNatClampNeg ((0 : Int32)).toNatClampNeg ((4 : Int32)).toNatClampNeg))), (er, .inl (cI, 4, .inl (va_cpy fr jr ((0 : Int32)).toNatClampNeg ((0 : Int32)).toNatClampNeg ((4 : Int32)).toNatClampNeg))), (af, .inr (2, [.ref ak, .ref av, .ref ar, .int (nI P), .int nt, .int yd])), (ak, .inl (cI, 4, .inl fk)), (av, .inl (cI, 4, .inl fv)), (ar, .inl (cI, 4, .inl fr))] := hD
  refine lv_aload_n hx hb dX2_become_42 rfl (lv_at hl 0 rfl) ?_
  refine lv_aload_n hx hb dX2_become_43 rfl (lv_at hl 1 rfl) ?_
  refine va_get (ci := 2) (v := .int (nI P)) (C := RX2) (T := TX2) (N := 6) hx hb hT wu_X2 hown hK hP 4 rfl rfl 3 (by decide) (hT _ wf_X2_21) (fun _ h9 => h9) rfl dX2_become_44 ?_
  refine va_put (ci := 2) (v := .int (nI P)) (ty := .int) (C := RX2) (T := TX2) (N := 6) hx hb hT wu_X2 tyX2 tyX2_ok nmX2 hown hK hP hD hS 0 rfl rfl 3 (by decide) (hT _ wf_X2_21) (fun _ h9 => h9) rfl (by decide +kernel) rfl rfl (Nat.le_of_ble_eq_true rfl) dX2_become_47 (fun H locs hP hD hS => ?_)
  have hP : va_P D CL [(ef, .inr (2, [.ref ek, .ref ev, .ref er, .int (nI P), .int n2, .int y2])), (ek, .inl (cI, 4, .inl (va_cpy fk jk ((0 : Int32)).toNatClampNeg ((0 : Int32)).toNatClampNeg ((4 : Int32)).toNatClampNeg))), (ev, .inl (cI, 4, .inl (va_cpy fv jv ((0 : Int32)).toNatClampNeg ((0 : Int32)).toNatClampNeg ((4 : Int32)).toNatClampNeg))), (er, .inl (cI, 4, .inl (va_cpy fr jr ((0 : Int32)).toNatClampNeg ((0 : Int32)).toNatClampNeg ((4 : Int32)).toNatClampNeg))), (af, .inr (2, [.ref ak, .ref av, .ref ar, .int (nI P), .int nt, .int yd])), (ak, .inl (cI, 4, .inl fk)), (av, .inl (cI, 4, .inl fv)), (ar, .inl (cI, 4, .inl fr))] H := hP
  have hD : va_D A [(ef, .inr (2, [.ref ek, .ref ev, .ref er, .int (nI P), .int n2, .int y2])), (ek, .inl (cI, 4, .inl (va_cpy fk jk ((0 : Int32)).toNatClampNeg ((0 : Int32)).toNatClampNeg ((4 : Int32)).toNatClampNeg))), (ev, .inl (cI, 4, .inl (va_cpy fv jv ((0 : Int32)).toNatClampNeg ((0 : Int32)).toNatClampNeg ((4 : Int32)).toNatClampNeg))), (er, .inl (cI, 4, .inl (va_cpy fr jr ((0 : Int32)).toNatClampNeg ((0 : Int32)).toNatClampNeg ((4 : Int32)).toNatClampNeg))), (af, .inr (2, [.ref ak, .ref av, .ref ar, .int (nI P), .int nt, .int yd])), (ak, .inl (cI, 4, .inl fk)), (av, .inl (cI, 4, .inl fv)), (ar, .inl (cI, 4, .inl fr))] := hD
  refine lv_aload_n hx hb dX2_become_50 rfl (lv_at hl 0 rfl) ?_
  refine lv_aload_n hx hb dX2_become_51 rfl (lv_at hl 1 rfl) ?_
  refine va_get (ci := 2) (v := .int nt) (C := RX2) (T := TX2) (N := 6) hx hb hT wu_X2 hown hK hP 4 rfl rfl 4 (by decide) (hT _ wf_X2_33) (fun _ h9 => h9) rfl dX2_become_52 ?_
  refine va_put (ci := 2) (v := .int nt) (ty := .int) (C := RX2) (T := TX2) (N := 6) hx hb hT wu_X2 tyX2 tyX2_ok nmX2 hown hK hP hD hS 0 rfl rfl 4 (by decide) (hT _ wf_X2_33) (fun _ h9 => h9) rfl (by decide +kernel) rfl rfl (Nat.le_of_ble_eq_true rfl) dX2_become_55 (fun H locs hP hD hS => ?_)
  have hP : va_P D CL [(ef, .inr (2, [.ref ek, .ref ev, .ref er, .int (nI P), .int nt, .int y2])), (ek, .inl (cI, 4, .inl (va_cpy fk jk ((0 : Int32)).toNatClampNeg ((0 : Int32)).toNatClampNeg ((4 : Int32)).toNatClampNeg))), (ev, .inl (cI, 4, .inl (va_cpy fv jv ((0 : Int32)).toNatClampNeg ((0 : Int32)).toNatClampNeg ((4 : Int32)).toNatClampNeg))), (er, .inl (cI, 4, .inl (va_cpy fr jr ((0 : Int32)).toNatClampNeg ((0 : Int32)).toNatClampNeg ((4 : Int32)).toNatClampNeg))), (af, .inr (2, [.ref ak, .ref av, .ref ar, .int (nI P), .int nt, .int yd])), (ak, .inl (cI, 4, .inl fk)), (av, .inl (cI, 4, .inl fv)), (ar, .inl (cI, 4, .inl fr))] H := hP
  have hD : va_D A [(ef, .inr (2, [.ref ek, .ref ev, .ref er, .int (nI P), .int nt, .int y2])), (ek, .inl (cI, 4, .inl (va_cpy fk jk ((0 : Int32)).toNatClampNeg ((0 : Int32)).toNatClampNeg ((4 : Int32)).toNatClampNeg))), (ev, .inl (cI, 4, .inl (va_cpy fv jv ((0 : Int32)).toNatClampNeg ((0 : Int32)).toNatClampNeg ((4 : Int32)).toNatClampNeg))), (er, .inl (cI, 4, .inl (va_cpy fr jr ((0 : Int32)).toNatClampNeg ((0 : Int32)).toNatClampNeg ((4 : Int32)).toNatClampNeg))), (af, .inr (2, [.ref ak, .ref av, .ref ar, .int (nI P), .int nt, .int yd])), (ak, .inl (cI, 4, .inl fk)), (av, .inl (cI, 4, .inl fv)), (ar, .inl (cI, 4, .inl fr))] := hD
  refine lv_aload_n hx hb dX2_become_58 rfl (lv_at hl 0 rfl) ?_
  refine lv_aload_n hx hb dX2_become_59 rfl (lv_at hl 1 rfl) ?_
  refine va_get (ci := 2) (v := .int yd) (C := RX2) (T := TX2) (N := 6) hx hb hT wu_X2 hown hK hP 4 rfl rfl 5 (by decide) (hT _ wf_X2_40) (fun _ h9 => h9) rfl dX2_become_60 ?_
  refine va_put (ci := 2) (v := .int yd) (ty := .int) (C := RX2) (T := TX2) (N := 6) hx hb hT wu_X2 tyX2 tyX2_ok nmX2 hown hK hP hD hS 0 rfl rfl 5 (by decide) (hT _ wf_X2_40) (fun _ h9 => h9) rfl (by decide +kernel) rfl rfl (Nat.le_of_ble_eq_true rfl) dX2_become_63 (fun H locs hP hD hS => ?_)
  have hP : va_P D CL [(ef, .inr (2, [.ref ek, .ref ev, .ref er, .int (nI P), .int nt, .int yd])), (ek, .inl (cI, 4, .inl (va_cpy fk jk ((0 : Int32)).toNatClampNeg ((0 : Int32)).toNatClampNeg ((4 : Int32)).toNatClampNeg))), (ev, .inl (cI, 4, .inl (va_cpy fv jv ((0 : Int32)).toNatClampNeg ((0 : Int32)).toNatClampNeg ((4 : Int32)).toNatClampNeg))), (er, .inl (cI, 4, .inl (va_cpy fr jr ((0 : Int32)).toNatClampNeg ((0 : Int32)).toNatClampNeg ((4 : Int32)).toNatClampNeg))), (af, .inr (2, [.ref ak, .ref av, .ref ar, .int (nI P), .int nt, .int yd])), (ak, .inl (cI, 4, .inl fk)), (av, .inl (cI, 4, .inl fv)), (ar, .inl (cI, 4, .inl fr))] H := hP
  have hD : va_D A [(ef, .inr (2, [.ref ek, .ref ev, .ref er, .int (nI P), .int nt, .int yd])), (ek, .inl (cI, 4, .inl (va_cpy fk jk ((0 : Int32)).toNatClampNeg ((0 : Int32)).toNatClampNeg ((4 : Int32)).toNatClampNeg))), (ev, .inl (cI, 4, .inl (va_cpy fv jv ((0 : Int32)).toNatClampNeg ((0 : Int32)).toNatClampNeg ((4 : Int32)).toNatClampNeg))), (er, .inl (cI, 4, .inl (va_cpy fr jr ((0 : Int32)).toNatClampNeg ((0 : Int32)).toNatClampNeg ((4 : Int32)).toNatClampNeg))), (af, .inr (2, [.ref ak, .ref av, .ref ar, .int (nI P), .int nt, .int yd])), (ak, .inl (cI, 4, .inl fk)), (av, .inl (cI, 4, .inl fv)), (ar, .inl (cI, 4, .inl fr))] := hD
  exact retV C0 ((va_cpy fk jk ((0 : Int32)).toNatClampNeg ((0 : Int32)).toNatClampNeg ((4 : Int32)).toNatClampNeg), (va_cpy fv jv ((0 : Int32)).toNatClampNeg ((0 : Int32)).toNatClampNeg ((4 : Int32)).toNatClampNeg), (va_cpy fr jr ((0 : Int32)).toNatClampNeg ((0 : Int32)).toNatClampNeg ((4 : Int32)).toNatClampNeg)) (⟨trivial, (show (∀ i, i < 4 → (va_cpy fk jk ((0 : Int32)).toNatClampNeg ((0 : Int32)).toNatClampNeg ((4 : Int32)).toNatClampNeg) i = fk i) ∧ (∀ i, i < 4 → (va_cpy fv jv ((0 : Int32)).toNatClampNeg ((0 : Int32)).toNatClampNeg ((4 : Int32)).toNatClampNeg) i = fv i) ∧ ∀ i, i < 4 → (va_cpy fr jr ((0 : Int32)).toNatClampNeg ((0 : Int32)).toNatClampNeg ((4 : Int32)).toNatClampNeg) i = fr i from ⟨(fun i h9 => cpy0 h9), (fun i h9 => cpy0 h9), (fun i h9 => cpy0 h9)⟩)⟩) (hP.sub (ws' := [(ef, .inr (2, [.ref ek, .ref ev, .ref er, .int (nI P), .int nt, .int yd])), (ek, .inl (cI, 4, .inl (va_cpy fk jk ((0 : Int32)).toNatClampNeg ((0 : Int32)).toNatClampNeg ((4 : Int32)).toNatClampNeg))), (ev, .inl (cI, 4, .inl (va_cpy fv jv ((0 : Int32)).toNatClampNeg ((0 : Int32)).toNatClampNeg ((4 : Int32)).toNatClampNeg))), (er, .inl (cI, 4, .inl (va_cpy fr jr ((0 : Int32)).toNatClampNeg ((0 : Int32)).toNatClampNeg ((4 : Int32)).toNatClampNeg))), (af, .inr (2, [.ref ak, .ref av, .ref ar, .int (nI P), .int nt, .int yd])), (ak, .inl (cI, 4, .inl fk)), (av, .inl (cI, 4, .inl fv)), (ar, .inl (cI, 4, .inl fr))]) [0, 1, 2, 3, 4, 5, 6, 7] rfl) (hD.sub (ws' := [(ef, .inr (2, [.ref ek, .ref ev, .ref er, .int (nI P), .int nt, .int yd])), (ek, .inl (cI, 4, .inl (va_cpy fk jk ((0 : Int32)).toNatClampNeg ((0 : Int32)).toNatClampNeg ((4 : Int32)).toNatClampNeg))), (ev, .inl (cI, 4, .inl (va_cpy fv jv ((0 : Int32)).toNatClampNeg ((0 : Int32)).toNatClampNeg ((4 : Int32)).toNatClampNeg))), (er, .inl (cI, 4, .inl (va_cpy fr jr ((0 : Int32)).toNatClampNeg ((0 : Int32)).toNatClampNeg ((4 : Int32)).toNatClampNeg))), (af, .inr (2, [.ref ak, .ref av, .ref ar, .int (nI P), .int nt, .int yd])), (ak, .inl (cI, 4, .inl fk)), (av, .inl (cI, 4, .inl fv)), (ar, .inl (cI, 4, .inl fr))]) [0, 1, 2, 3, 4, 5, 6, 7] (by decide) rfl) hS (Nat.le_of_ble_eq_true rfl) (Nat.le_of_ble_eq_true rfl) dX2_become_66

set_option maxHeartbeats 4000000 in
set_option maxRecDepth 100000 in
theorem c_forget (l : Launch) (D : va_G) (cI cZ cQ cT : ClassId) (sz : Nat) (ad : Nat) (af : Nat) (d1 : Nat) (d2 : Nat) (d3 : Nat) (d4 : Nat) (i5 : Int32) (i6 : Int32) (i7 : Int32) (i8 : Int32) (i9 : Int32) (i10 : Int32) (i11 : Int32)  : MetV l yX1_forget cX1_forget 1 ({ frames := 0, cells := 0, slots := 0, locals := 0 } : Room) [.ref ad] D (TYS cI cZ cQ cT) EF sz [(ad, .inr (1, [.ref af, .ref d1, .ref d2, .ref d3, .ref d4, .int i5, .int i6, .int i7, .int i8, .int i9, .int i10, .int i11]))] (S := Unit) (fun (_ : Unit) => True) (fun _ => [(ad, .inr (1, [.ref af, .ref d1, .ref d2, .ref d3, .ref d4, .int 0, .int 0, .int i7, .int i8, .int i9, .int i10, .int i11]))]) := by
  refine MetV.mk (lv := [(0, .ref ad)]) (by decide +kernel) (Nat.le_of_ble_eq_true rfl) rfl ?_
  intro p e s m below meth c A ls C0 hP hD hS hX hl
  have C1 := C0
  obtain ⟨hx, hb, hr, hml, hown, hlocks, hname, hT, hN, hK, hA⟩ := C1
  refine lv_aload_n hx hb dX1_forget_0 rfl (lv_at hl 0 rfl) ?_
  refine lv_iconst (v := 0) hx hb dX1_forget_1 (by decide) ?_
  refine va_put (ci := 1) (v := .int 0) (ty := .boolean) (C := RX1) (T := TX1) (N := 12) hx hb hT wu_X1 tyX1 tyX1_ok nmX1 hown hK hP hD hS 0 rfl rfl 5 (by decide) (hT _ wf_X1_30) (fun _ h9 => h9) rfl (by decide +kernel) rfl rfl (Nat.le_of_ble_eq_true rfl) dX1_forget_2 (fun H locs hP hD hS => ?_)
  have hP : va_P D CL [(ad, .inr (1, [.ref af, .ref d1, .ref d2, .ref d3, .ref d4, .int 0, .int i6, .int i7, .int i8, .int i9, .int i10, .int i11]))] H := hP
  have hD : va_D A [(ad, .inr (1, [.ref af, .ref d1, .ref d2, .ref d3, .ref d4, .int 0, .int i6, .int i7, .int i8, .int i9, .int i10, .int i11]))] := hD
  refine lv_aload_n hx hb dX1_forget_5 rfl (lv_at hl 0 rfl) ?_
  refine lv_iconst (v := 0) hx hb dX1_forget_6 (by decide) ?_
  refine va_put (ci := 1) (v := .int 0) (ty := .boolean) (C := RX1) (T := TX1) (N := 12) hx hb hT wu_X1 tyX1 tyX1_ok nmX1 hown hK hP hD hS 0 rfl rfl 6 (by decide) (hT _ wf_X1_34) (fun _ h9 => h9) rfl (by decide +kernel) rfl rfl (Nat.le_of_ble_eq_true rfl) dX1_forget_7 (fun H locs hP hD hS => ?_)
  have hP : va_P D CL [(ad, .inr (1, [.ref af, .ref d1, .ref d2, .ref d3, .ref d4, .int 0, .int 0, .int i7, .int i8, .int i9, .int i10, .int i11]))] H := hP
  have hD : va_D A [(ad, .inr (1, [.ref af, .ref d1, .ref d2, .ref d3, .ref d4, .int 0, .int 0, .int i7, .int i8, .int i9, .int i10, .int i11]))] := hD
  exact retV C0 () trivial (hP.sub (ws' := [(ad, .inr (1, [.ref af, .ref d1, .ref d2, .ref d3, .ref d4, .int 0, .int 0, .int i7, .int i8, .int i9, .int i10, .int i11]))]) [0] rfl) (hD.sub (ws' := [(ad, .inr (1, [.ref af, .ref d1, .ref d2, .ref d3, .ref d4, .int 0, .int 0, .int i7, .int i8, .int i9, .int i10, .int i11]))]) [0] (by decide) rfl) hS (Nat.le_of_ble_eq_true rfl) (Nat.le_of_ble_eq_true rfl) dX1_forget_10

set_option maxHeartbeats 4000000 in
set_option maxRecDepth 100000 in
theorem c_forgetTown (l : Launch) (D : va_G) (cI cZ cQ cT : ClassId) (sz : Nat) (ad : Nat) (af : Nat) (d1 : Nat) (d2 : Nat) (d3 : Nat) (d4 : Nat) (i5 : Int32) (i6 : Int32) (i7 : Int32) (i8 : Int32) (i9 : Int32) (i10 : Int32) (i11 : Int32) (d_k : Nat → Int32)  : MetV l yX1_forgetTown cX1_forgetTown 2 ({ frames := 1, cells := 0, slots := 0, locals := 20 } : Room) [.ref ad] D (TYS cI cZ cQ cT) EF sz [(ad, .inr (1, [.ref af, .ref d1, .ref d2, .ref d3, .ref d4, .int i5, .int i6, .int i7, .int i8, .int i9, .int i10, .int i11])), (d2, .inl (cI, 4, .inl d_k))] (S := (Nat → Int32)) (fun (u_ : (Nat → Int32)) => (True) ∧ (∀ p, p < 4 → u_ p = (-1 : Int32))) (fun u => [(ad, .inr (1, [.ref af, .ref d1, .ref d2, .ref d3, .ref d4, .int 0, .int 0, .int i7, .int i8, .int i9, .int i10, .int i11])), (d2, .inl (cI, 4, .inl u))]) := by
  refine MetV.mk (lv := [(0, .ref ad)]) (by decide +kernel) (Nat.le_of_ble_eq_true rfl) rfl ?_
  intro p e s m below meth c A ls C0 hP hD hS hX hl
  have C1 := C0
  obtain ⟨hx, hb, hr, hml, hown, hlocks, hname, hT, hN, hK, hA⟩ := C1
  refine lv_aload_n hx hb dX1_forgetTown_0 rfl (lv_at hl 0 rfl) ?_
  refine contV (wc := [(ad, .inr (1, [.ref af, .ref d1, .ref d2, .ref d3, .ref d4, .int i5, .int i6, .int i7, .int i8, .int i9, .int i10, .int i11]))]) (wr := [(d2, .inl (cI, 4, .inl d_k))]) C0 hP hD hS [0] [1] rfl rfl (by decide) (by decide) 0 0 (Nat.le_of_ble_eq_true rfl) (Nat.le_of_ble_eq_true rfl) (runV (k := 0) (As := []) (rest := []) C0 (c_forget l D cI cZ cQ cT _ ad af d1 d2 d3 d4 i5 i6 i7 i8 i9 i10 i11) wc_X1_forget wl_X1_37 wi_X1_forget we_X1_forget wz_X1 ⟨by decide, by decide, by decide +kernel⟩ ⟨(Nat.le_of_ble_eq_true rfl), (Nat.le_of_ble_eq_true rfl)⟩ hP hD hS EF.ok hX [0] rfl (by decide) 0 rfl rfl rfl rfl hl.1 rfl (Nat.le_of_ble_eq_true rfl) dX1_forgetTown_1 ⟨(Nat.le_of_ble_eq_true rfl), (Nat.le_of_ble_eq_true rfl)⟩) (fun u_1 H locs w_2 hP hD hS => ?_)
  have hP : va_P D CL [(d2, .inl (cI, 4, .inl d_k)), (ad, .inr (1, [.ref af, .ref d1, .ref d2, .ref d3, .ref d4, .int 0, .int 0, .int i7, .int i8, .int i9, .int i10, .int i11]))] H := hP
  have hD : va_D A [(d2, .inl (cI, 4, .inl d_k)), (ad, .inr (1, [.ref af, .ref d1, .ref d2, .ref d3, .ref d4, .int 0, .int 0, .int i7, .int i8, .int i9, .int i10, .int i11]))] := hD
  refine lv_iconst (v := 0) hx hb dX1_forgetTown_4 (by decide) ?_
  refine lv_istore_n (lv' := [(1, .int 0), (0, .ref ad)]) hx hb dX1_forgetTown_5 rfl hl (by decide) rfl (fun ls hl => ?_)
  have LOOP_4 : ∀ (fu_ : Nat) (j_ : Nat) (wl : Nat → Int32) (H : Heap) (locs : List Loc) (ls : Array Slot), (4 - j_) < fu_ → (j_ ≤ 4) → (∀ p, p < j_ → wl p = (-1 : Int32)) → va_P D CL [(ad, .inr (1, [.ref af, .ref d1, .ref d2, .ref d3, .ref d4, .int 0, .int 0, .int i7, .int i8, .int i9, .int i10, .int i11])), (d2, .inl (cI, 4, .inl wl))] H → va_D A [(ad, .inr (1, [.ref af, .ref d1, .ref d2, .ref d3, .ref d4, .int 0, .int 0, .int i7, .int i8, .int i9, .int i10, .int i11])), (d2, .inl (cI, 4, .inl wl))] → va_S A s.heap H locs → lv_has ls 2 [(0, .ref ad), (1, .int (nI j_))] → W p l e ({ frames := 1, cells := 0, slots := 0, locals := 20 } : Room) s m [.ref ad].toArray below meth c H locs 0 0 (MQ below (va_Qv (S := (Nat → Int32)) (fun (u_ : (Nat → Int32)) => (True) ∧ (∀ p, p < 4 → u_ p = (-1 : Int32))) (fun u => wE D (TYS cI cZ cQ cT) A [(ad, .inr (1, [.ref af, .ref d1, .ref d2, .ref d3, .ref d4, .int 0, .int 0, .int i7, .int i8, .int i9, .int i10, .int i11])), (d2, .inl (cI, 4, .inl u))]) A) [.ref ad].toArray s 0 0 A) (F0 m 6 ls [])  := by
    intro fu_
    induction fu_ with
    | zero => intro j_ wl H locs ls hk_; exact absurd hk_ (Nat.not_lt_zero _)
    | succ fu_ ih_5 =>
      intro j_ wl H locs ls hk_ i1 i2 hP hD hS hl
      refine lv_iload_n hx hb dX1_forgetTown_6 rfl (lv_at hl 1 rfl) ?_
      refine lv_iconst (v := 4) hx hb dX1_forgetTown_7 (by decide) ?_
      refine lv_icmp_ge (tgt := 24) hx hb dX1_forgetTown_8 (by decide) (fun c_6 => ?_) (fun c_6 => ?_)
      · have n_7 : 4 ≤ j_ := (nI_leI (a := 4) (b := j_) (by omega) (by omega)).mp c_6
        exact retV C0 (wl) (⟨trivial, (show ∀ p, p < 4 → wl p = (-1 : Int32) from (fun p h9_ => i2 p (by omega)))⟩) (hP.sub (ws' := [(ad, .inr (1, [.ref af, .ref d1, .ref d2, .ref d3, .ref d4, .int 0, .int 0, .int i7, .int i8, .int i9, .int i10, .int i11])), (d2, .inl (cI, 4, .inl wl))]) [0, 1] rfl) (hD.sub (ws' := [(ad, .inr (1, [.ref af, .ref d1, .ref d2, .ref d3, .ref d4, .int 0, .int 0, .int i7, .int i8, .int i9, .int i10, .int i11])), (d2, .inl (cI, 4, .inl wl))]) [0, 1] (by decide) rfl) hS (Nat.le_of_ble_eq_true rfl) (Nat.le_of_ble_eq_true rfl) dX1_forgetTown_24
      · have n_8 : ¬ 4 ≤ j_ := fun hx9_ => c_6 ((nI_leI (a := 4) (b := j_) (by omega) (by omega)).mpr hx9_)
        refine lv_aload_n hx hb dX1_forgetTown_11 rfl (lv_at hl 0 rfl) ?_
        refine va_get (ci := 1) (v := .ref d2) (C := RX1) (T := TX1) (N := 12) hx hb hT wu_X1 hown hK hP 0 rfl rfl 2 (by decide) (hT _ wf_X1_16) (fun _ h9 => h9) rfl dX1_forgetTown_12 ?_
        refine lv_iload_n hx hb dX1_forgetTown_15 rfl (lv_at hl 1 rfl) ?_
        refine lv_iconst (v := (-1)) hx hb dX1_forgetTown_16 (by decide) ?_
        refine va_iast hx hb hK hP hD hS 1 0 rfl rfl (vp_in_nI (n := j_) (by omega) (by decide)) dX1_forgetTown_17 (fun H locs hP hD hS => ?_)
        have hP : va_P D CL [(ad, .inr (1, [.ref af, .ref d1, .ref d2, .ref d3, .ref d4, .int 0, .int 0, .int i7, .int i8, .int i9, .int i10, .int i11])), (d2, .inl (cI, 4, .inl (upd wl ((nI j_)).toNatClampNeg (-1))))] H := hP
        have hD : va_D A [(ad, .inr (1, [.ref af, .ref d1, .ref d2, .ref d3, .ref d4, .int 0, .int 0, .int i7, .int i8, .int i9, .int i10, .int i11])), (d2, .inl (cI, 4, .inl (upd wl ((nI j_)).toNatClampNeg (-1))))] := hD
        rw [nI_clamp (n := j_) (by omega)] at hP hD
        have hP : va_P D CL [(ad, .inr (1, [.ref af, .ref d1, .ref d2, .ref d3, .ref d4, .int 0, .int 0, .int i7, .int i8, .int i9, .int i10, .int i11])), (d2, .inl (cI, 4, .inl (upd wl j_ (-1))))] H := hP
        have hD : va_D A [(ad, .inr (1, [.ref af, .ref d1, .ref d2, .ref d3, .ref d4, .int 0, .int 0, .int i7, .int i8, .int i9, .int i10, .int i11])), (d2, .inl (cI, 4, .inl (upd wl j_ (-1))))] := hD
        refine lv_iinc (v := (nI (j_ + 1))) (lv' := [(1, .int (nI (j_ + 1))), (0, .ref ad)]) hx hb dX1_forgetTown_18 hl (k := 1) rfl (nI_succ _).symm (by decide) rfl (fun ls hl => ?_)
        refine lv_goto (tgt := 6) hx hb dX1_forgetTown_21 (by decide) ?_
        exact ih_5 (j_ + 1) (upd wl j_ (-1)) _ _ _ (by omega) (by omega) (fun p h9_ => by
      by_cases e_ : p = j_
      · rw [e_, pk_us]
      · rw [pk_un e_]; exact i2 p (by omega)) (hP.sub (ws' := [(ad, .inr (1, [.ref af, .ref d1, .ref d2, .ref d3, .ref d4, .int 0, .int 0, .int i7, .int i8, .int i9, .int i10, .int i11])), (d2, .inl (cI, 4, .inl (upd wl j_ (-1))))]) [0, 1] rfl) (hD.sub (ws' := [(ad, .inr (1, [.ref af, .ref d1, .ref d2, .ref d3, .ref d4, .int 0, .int 0, .int i7, .int i8, .int i9, .int i10, .int i11])), (d2, .inl (cI, 4, .inl (upd wl j_ (-1))))]) [0, 1] (by decide) rfl) hS (lv_sub hl [1, 0] rfl)
  exact LOOP_4 ((4 - 0) + 1) 0 d_k _ _ _ (Nat.lt_succ_self _) (by omega) (fun p h9_ => absurd h9_ (Nat.not_lt_zero p)) (hP.sub (ws' := [(ad, .inr (1, [.ref af, .ref d1, .ref d2, .ref d3, .ref d4, .int 0, .int 0, .int i7, .int i8, .int i9, .int i10, .int i11])), (d2, .inl (cI, 4, .inl d_k))]) [1, 0] rfl) (hD.sub (ws' := [(ad, .inr (1, [.ref af, .ref d1, .ref d2, .ref d3, .ref d4, .int 0, .int 0, .int i7, .int i8, .int i9, .int i10, .int i11])), (d2, .inl (cI, 4, .inl d_k))]) [1, 0] (by decide) rfl) hS (lv_sub hl [1, 0] rfl)

set_option maxHeartbeats 4000000 in
set_option maxRecDepth 100000 in
theorem c_sightOf (l : Launch) (D : va_G) (cI cZ cQ cT : ClassId) (sz : Nat) (ad : Nat) (af : Nat) (d1 : Nat) (d2 : Nat) (d3 : Nat) (d4 : Nat) (i5 : Int32) (i6 : Int32) (i7 : Int32) (i8 : Int32) (i9 : Int32) (i10 : Int32) (i11 : Int32) (pn : Nat) (dn : Nat) (P : Nat) (hP4 : P ≤ 4) (hpn : pn < P) (hdn : dn < d8 P) : MetI l yX1_sightOf cX1_sightOf 6 .int ({ frames := 1, cells := 0, slots := 0, locals := 21 } : Room) [.ref ad, .int (nI pn), .int (nI dn)] D (TYS cI cZ cQ cT) EF sz [(ad, .inr (1, [.ref af, .ref d1, .ref d2, .ref d3, .ref d4, .int i5, .int i6, .int i7, .int i8, .int i9, .int i10, .int i11]))] (S := Unit) (fun (r : Int32) (_ : Unit) => r = (nI (siN P dn pn))) (fun _ => [(ad, .inr (1, [.ref af, .ref d1, .ref d2, .ref d3, .ref d4, .int i5, .int i6, .int i7, .int i8, .int i9, .int i10, .int i11]))]) := by
  refine MetI.mk (lv := [(0, .ref ad), (1, .int (nI pn)), (2, .int (nI dn))]) (by decide +kernel) (Nat.le_of_ble_eq_true rfl) rfl ?_
  intro p e s m below meth c A ls C0 hP hD hS hX hl
  have C1 := C0
  obtain ⟨hx, hb, hr, hml, hown, hlocks, hname, hT, hN, hK, hA⟩ := C1
  have hd8 := d8_le hP4; have hd0 := d8_pos P
  refine lv_iload_n hx hb dX1_sightOf_0 rfl (lv_at hl 1 rfl) ?_
  refine lv_iload_n hx hb dX1_sightOf_1 rfl (lv_at hl 2 rfl) ?_
  refine contI (wc := []) (wr := [(ad, .inr (1, [.ref af, .ref d1, .ref d2, .ref d3, .ref d4, .int i5, .int i6, .int i7, .int i8, .int i9, .int i10, .int i11]))]) C0 hP hD hS [] [0] rfl rfl (by decide) (by decide) 0 0 (Nat.le_of_ble_eq_true rfl) (Nat.le_of_ble_eq_true rfl) (runSN (k := 2) (As := [.int (nI pn), .int (nI dn)]) (rest := []) "DayKnown" 552 C0 (c_ownRow l D cI cZ cQ cT _ pn dn (by omega) (by omega)) wc_X5_ownRow kl_X1_70 wt_X5_ownRow wz_X5 ⟨by decide, by decide, by decide +kernel⟩ ⟨(Nat.le_of_ble_eq_true rfl), (Nat.le_of_ble_eq_true rfl)⟩ hP hD hS EF.ok hX [] rfl (by decide) rfl hl.1 rfl (Nat.le_of_ble_eq_true rfl) dX1_sightOf_2 ⟨(Nat.le_of_ble_eq_true rfl), (Nat.le_of_ble_eq_true rfl)⟩) (fun r_3 u_1 H locs w_2 hP hD hS => ?_)
  have hP : va_P D CL [(ad, .inr (1, [.ref af, .ref d1, .ref d2, .ref d3, .ref d4, .int i5, .int i6, .int i7, .int i8, .int i9, .int i10, .int i11]))] H := hP
  have hD : va_D A [(ad, .inr (1, [.ref af, .ref d1, .ref d2, .ref d3, .ref d4, .int i5, .int i6, .int i7, .int i8, .int i9, .int i10, .int i11]))] := hD
  have hrs_4 : dn / 8 ^ pn % 8 < 8 := Nat.mod_lt _ (by decide)
  obtain rfl : r_3 = (nI (dn / 8 ^ pn % 8)) := w_2
  refine lv_istore_n (lv' := [(3, .int (nI (dn / 8 ^ pn % 8))), (0, .ref ad), (1, .int (nI pn)), (2, .int (nI dn))]) hx hb dX1_sightOf_5 rfl hl (by decide) rfl (fun ls hl => ?_)
  refine lv_sipush (v := 585) hx hb dX1_sightOf_6 (by decide) ?_
  refine lv_iconst (v := 1) hx hb dX1_sightOf_9 (by decide) ?_
  refine lv_iconst (v := 3) hx hb dX1_sightOf_10 (by decide) ?_
  refine lv_iload_n hx hb dX1_sightOf_11 rfl (lv_at hl 2 rfl) ?_
  refine lv_imul hx hb dX1_sightOf_12 ?_
  refine lv_ci (nI (3 * pn)) (pk_mul 3 pn) ?_
  refine lv_ishl hx hb dX1_sightOf_13 ?_
  refine lv_iconst (v := (-1)) hx hb dX1_sightOf_14 (by decide) ?_
  refine lv_ixor hx hb dX1_sightOf_15 ?_
  refine lv_iand hx hb dX1_sightOf_16 ?_
  refine lv_ci (nI (mskO pn)) (msk_o pn (by omega)) ?_
  refine lv_istore (lv' := [(4, .int (nI (mskO pn))), (3, .int (nI (dn / 8 ^ pn % 8))), (0, .ref ad), (1, .int (nI pn)), (2, .int (nI dn))]) hx hb dX1_sightOf_17 hl (by decide) rfl (fun ls hl => ?_)
  refine lv_iconst (v := 0) hx hb dX1_sightOf_19 (by decide) ?_
  refine lv_istore (lv' := [(5, .int 0), (4, .int (nI (mskO pn))), (3, .int (nI (dn / 8 ^ pn % 8))), (0, .ref ad), (1, .int (nI pn)), (2, .int (nI dn))]) hx hb dX1_sightOf_20 hl (by decide) rfl (fun ls hl => ?_)
  have LOOP_5 : ∀ (fu_ : Nat) (h_ : Nat) (s_ : Nat) (H : Heap) (locs : List Loc) (ls : Array Slot), (3 - h_) < fu_ → (h_ ≤ 3) → (s_ = snP P dn pn h_) → va_P D CL [(ad, .inr (1, [.ref af, .ref d1, .ref d2, .ref d3, .ref d4, .int i5, .int i6, .int i7, .int i8, .int i9, .int i10, .int i11]))] H → va_D A [(ad, .inr (1, [.ref af, .ref d1, .ref d2, .ref d3, .ref d4, .int i5, .int i6, .int i7, .int i8, .int i9, .int i10, .int i11]))] → va_S A s.heap H locs → lv_has ls 6 [(0, .ref ad), (1, .int (nI pn)), (2, .int (nI dn)), (3, .int (nI s_)), (4, .int (nI (mskO pn))), (5, .int (nI h_))] → W p l e ({ frames := 1, cells := 0, slots := 0, locals := 21 } : Room) s m [.ref ad, .int (nI pn), .int (nI dn)].toArray below meth c H locs 0 0 (MQ below (va_Qi (S := Unit) (fun (r : Int32) (_ : Unit) => r = (nI (siN P dn pn))) (fun _ => wE D (TYS cI cZ cQ cT) A [(ad, .inr (1, [.ref af, .ref d1, .ref d2, .ref d3, .ref d4, .int i5, .int i6, .int i7, .int i8, .int i9, .int i10, .int i11]))]) A) [.ref ad, .int (nI pn), .int (nI dn)].toArray s 0 0 A) (F0 m 22 ls [])  := by
    intro fu_
    induction fu_ with
    | zero => intro h_ s_ H locs ls hk_; exact absurd hk_ (Nat.not_lt_zero _)
    | succ fu_ ih_6 =>
      intro h_ s_ H locs ls hk_ i1 i2 hP hD hS hl
      refine lv_iload hx hb dX1_sightOf_22 (lv_at hl 5 rfl) ?_
      refine lv_iconst (v := 3) hx hb dX1_sightOf_24 (by decide) ?_
      refine lv_icmp_ge (tgt := 54) hx hb dX1_sightOf_25 (by decide) (fun c_7 => ?_) (fun c_7 => ?_)
      · have n_8 : 3 ≤ h_ := (nI_leI (a := 3) (b := h_) (by omega) (by omega)).mp c_7
        have hs5 : s_ < 512 := by
          have h9_ := snP_lt (d := dn) hpn hP4 3
          rw [i2, show h_ = 3 by omega]
          exact Nat.lt_of_lt_of_le h9_ (by decide)
        refine lv_iload_n hx hb dX1_sightOf_54 rfl (lv_at hl 3 rfl) ?_
        refine lv_sipush (v := 511) hx hb dX1_sightOf_55 (by decide) ?_
        refine lv_iand hx hb dX1_sightOf_58 ?_
        refine lv_ci (nI s_) (and511 (by omega)) ?_
        exact retI C0 rfl () (congrArg nI (by rw [i2, show h_ = 3 by omega]; exact snP_3)) (hP.sub (ws' := [(ad, .inr (1, [.ref af, .ref d1, .ref d2, .ref d3, .ref d4, .int i5, .int i6, .int i7, .int i8, .int i9, .int i10, .int i11]))]) [0] rfl) (hD.sub (ws' := [(ad, .inr (1, [.ref af, .ref d1, .ref d2, .ref d3, .ref d4, .int i5, .int i6, .int i7, .int i8, .int i9, .int i10, .int i11]))]) [0] (by decide) rfl) hS (Nat.le_of_ble_eq_true rfl) (Nat.le_of_ble_eq_true rfl) dX1_sightOf_59
      · have n_9 : ¬ 3 ≤ h_ := fun hx9_ => c_7 ((nI_leI (a := 3) (b := h_) (by omega) (by omega)).mpr hx9_)
        refine lv_iload_n hx hb dX1_sightOf_28 rfl (lv_at hl 3 rfl) ?_
        refine lv_iload_n hx hb dX1_sightOf_29 rfl (lv_at hl 2 rfl) ?_
        refine lv_iload hx hb dX1_sightOf_30 (lv_at hl 5 rfl) ?_
        refine lv_ishr hx hb dX1_sightOf_32 ?_
        refine lv_ci (nI (dn / 2 ^ h_)) (shrN (a := dn) (k := h_) (by omega) (by omega)) ?_
        have hq_10 : (dn / 2 ^ h_) ≤ dn := Nat.div_le_self _ _
        refine lv_iload hx hb dX1_sightOf_33 (lv_at hl 4 rfl) ?_
        refine lv_iand hx hb dX1_sightOf_35 ?_
        refine contI (wc := []) (wr := [(ad, .inr (1, [.ref af, .ref d1, .ref d2, .ref d3, .ref d4, .int i5, .int i6, .int i7, .int i8, .int i9, .int i10, .int i11]))]) C0 hP hD hS [] [0] rfl rfl (by decide) (by decide) 0 0 (Nat.le_of_ble_eq_true rfl) (Nat.le_of_ble_eq_true rfl) (runS (k := 1) (As := [.int ((nI (dn / 2 ^ h_)) &&& (nI (mskO pn)))]) (rest := [.int (nI s_)]) C0 (c_bitCount l D cI cZ cQ cT _ ((nI (dn / 2 ^ h_)) &&& (nI (mskO pn)))) wc_J6_bitCount_0f7a4 wl_X1_73 wt_J6_bitCount_0f7a4 wz_J6 ⟨by decide, by decide, by decide +kernel⟩ ⟨(Nat.le_of_ble_eq_true rfl), (Nat.le_of_ble_eq_true rfl)⟩ hP hD hS EF.ok hX [] rfl (by decide) rfl hl.1 rfl (Nat.le_of_ble_eq_true rfl) dX1_sightOf_36 ⟨(Nat.le_of_ble_eq_true rfl), (Nat.le_of_ble_eq_true rfl)⟩) (fun r_13 u_11 H locs w_12 hP hD hS => ?_)
        have hP : va_P D CL [(ad, .inr (1, [.ref af, .ref d1, .ref d2, .ref d3, .ref d4, .int i5, .int i6, .int i7, .int i8, .int i9, .int i10, .int i11]))] H := hP
        have hD : va_D A [(ad, .inr (1, [.ref af, .ref d1, .ref d2, .ref d3, .ref d4, .int i5, .int i6, .int i7, .int i8, .int i9, .int i10, .int i11]))] := hD
        obtain rfl : r_13 = (bcE ((nI (dn / 2 ^ h_)) &&& (nI (mskO pn)))) := w_12
        refine lv_ci (nI (oN dn pn h_ P)) (sg_n hdn hP4 (by omega)) ?_
        have ho3_ := oN_3 (d := dn) (h := h_) hpn hP4
        have hsh_ := si_sh (h := h_) ho3_ (by omega)
        refine lv_iconst (v := 3) hx hb dX1_sightOf_39 (by decide) ?_
        refine lv_iconst (v := 2) hx hb dX1_sightOf_40 (by decide) ?_
        refine lv_iload hx hb dX1_sightOf_41 (lv_at hl 5 rfl) ?_
        refine lv_imul hx hb dX1_sightOf_43 ?_
        refine lv_ci (nI (2 * h_)) (pk_mul 2 h_) ?_
        refine lv_iadd hx hb dX1_sightOf_44 ?_
        refine lv_ci (nI (3 + (2 * h_))) (nI_add 3 (2 * h_)) ?_
        refine lv_ishl hx hb dX1_sightOf_45 ?_
        refine lv_ci (nI ((oN dn pn h_ P) * 2 ^ (3 + (2 * h_)))) (shlN (a := (oN dn pn h_ P)) (k := (3 + (2 * h_))) (by omega) (by omega)) ?_
        refine lv_ior hx hb dX1_sightOf_46 ?_
        refine lv_ci (nI (s_ ||| ((oN dn pn h_ P) * 2 ^ (3 + (2 * h_))))) (nx_or _ _) ?_
        refine lv_istore_n (lv' := [(3, .int (nI (s_ ||| ((oN dn pn h_ P) * 2 ^ (3 + (2 * h_)))))), (0, .ref ad), (1, .int (nI pn)), (2, .int (nI dn)), (4, .int (nI (mskO pn))), (5, .int (nI h_))]) hx hb dX1_sightOf_47 rfl hl (by decide) rfl (fun ls hl => ?_)
        refine lv_iinc (v := (nI (h_ + 1))) (lv' := [(5, .int (nI (h_ + 1))), (3, .int (nI (s_ ||| ((oN dn pn h_ P) * 2 ^ (3 + (2 * h_)))))), (0, .ref ad), (1, .int (nI pn)), (2, .int (nI dn)), (4, .int (nI (mskO pn)))]) hx hb dX1_sightOf_48 hl (k := 5) rfl (nI_succ _).symm (by decide) rfl (fun ls hl => ?_)
        refine lv_goto (tgt := 22) hx hb dX1_sightOf_51 (by decide) ?_
        exact ih_6 (h_ + 1) (s_ ||| ((oN dn pn h_ P) * 2 ^ (3 + (2 * h_)))) _ _ _ (by omega) (by omega) (by rw [i2]; exact snP_s hpn hP4) (hP.sub (ws' := [(ad, .inr (1, [.ref af, .ref d1, .ref d2, .ref d3, .ref d4, .int i5, .int i6, .int i7, .int i8, .int i9, .int i10, .int i11]))]) [0] rfl) (hD.sub (ws' := [(ad, .inr (1, [.ref af, .ref d1, .ref d2, .ref d3, .ref d4, .int i5, .int i6, .int i7, .int i8, .int i9, .int i10, .int i11]))]) [0] (by decide) rfl) hS (lv_sub hl [2, 3, 4, 1, 5, 0] rfl)
  exact LOOP_5 ((3 - 0) + 1) 0 (dn / 8 ^ pn % 8) _ _ _ (Nat.lt_succ_self _) (by omega) rfl (hP.sub (ws' := [(ad, .inr (1, [.ref af, .ref d1, .ref d2, .ref d3, .ref d4, .int i5, .int i6, .int i7, .int i8, .int i9, .int i10, .int i11]))]) [0] rfl) (hD.sub (ws' := [(ad, .inr (1, [.ref af, .ref d1, .ref d2, .ref d3, .ref d4, .int i5, .int i6, .int i7, .int i8, .int i9, .int i10, .int i11]))]) [0] (by decide) rfl) hS (lv_sub hl [3, 4, 5, 2, 1, 0] rfl)

set_option maxHeartbeats 4000000 in
set_option maxRecDepth 100000 in
theorem c_worth (l : Launch) (D : va_G) (cI cZ cQ cT : ClassId) (sz : Nat) (ad : Nat) (af : Nat) (d1 : Nat) (d2 : Nat) (d3 : Nat) (d4 : Nat) (i5 : Int32) (i6 : Int32) (i7 : Int32) (i8 : Int32) (i9 : Int32) (i10 : Int32) (i11 : Int32) (ak : Nat) (av : Nat) (ar : Nat) (d1a : Nat) (d1b : Nat) (d1c : Nat) (d1d : Nat) (xda : Nat → Int32) (xdb : Nat → Int32) (xdc : Nat → Int32) (xdd : Nat → Int32) (P : Nat) (pn : Nat) (hn : Nat) (sn : Nat) (Y : Nat) (F : Fk) (O : Nat → Nat) (E : Ev) (hP4 : P ≤ 4) (hOB : ∀ j, j < 4 → O j < 2) (hpn : pn < P) (hhn : hn < 3) (hsn : sn < 512) (hW : WR (s4 xda xdb xdc xdd pn) E pn (F.1 pn)) : MetI l yX1_worth cX1_worth 7 .int ({ frames := 0, cells := 0, slots := 0, locals := 0 } : Room) [.ref ad, .int (nI pn), .int (nI hn), .int (nI sn)] D (TYS cI cZ cQ cT) EF sz [(ad, .inr (1, [.ref af, .ref d1, .ref d2, .ref d3, .ref d4, .int i5, .int i6, .int i7, .int i8, .int i9, .int i10, .int i11])), (af, .inr (2, [.ref ak, .ref av, .ref ar, .int (nI P), .int (nI (ntN O P)), .int (nI Y)])), (d1, .inl (cQ, 4, .inr (.inr (.inr (.inr (rf4 d1a d1b d1c d1d)))))), (d1a, .inl (cI, 96, .inl xda)), (d1b, .inl (cI, 96, .inl xdb)), (d1c, .inl (cI, 96, .inl xdc)), (d1d, .inl (cI, 96, .inl xdd))] (S := Unit) (fun (r : Int32) (_ : Unit) => r = (wS E (F.1 pn) O pn sn hn)) (fun _ => [(ad, .inr (1, [.ref af, .ref d1, .ref d2, .ref d3, .ref d4, .int i5, .int i6, .int i7, .int i8, .int i9, .int i10, .int i11])), (af, .inr (2, [.ref ak, .ref av, .ref ar, .int (nI P), .int (nI (ntN O P)), .int (nI Y)])), (d1, .inl (cQ, 4, .inr (.inr (.inr (.inr (rf4 d1a d1b d1c d1d)))))), (d1a, .inl (cI, 96, .inl xda)), (d1b, .inl (cI, 96, .inl xdb)), (d1c, .inl (cI, 96, .inl xdc)), (d1d, .inl (cI, 96, .inl xdd))]) := by
  refine MetI.mk (lv := [(0, .ref ad), (1, .int (nI pn)), (2, .int (nI hn)), (3, .int (nI sn))]) (by decide +kernel) (Nat.le_of_ble_eq_true rfl) rfl ?_
  intro p e s m below meth c A ls C0 hP hD hS hX hl
  have C1 := C0
  obtain ⟨hx, hb, hr, hml, hown, hlocks, hname, hT, hN, hK, hA⟩ := C1
  have hd8 := d8_le hP4; have hd0 := d8_pos P
  have hnt_ := nt_16 hOB hP4
  refine lv_iload_n hx hb dX1_worth_0 rfl (lv_at hl 1 rfl) ?_
  refine lv_if_lt (tgt := 18) hx hb dX1_worth_1 (by decide) (fun c_0 => absurd c_0 (nI_pos (by omega))) (fun _ => ?_)
  refine lv_iload_n hx hb dX1_worth_4 rfl (lv_at hl 1 rfl) ?_
  refine lv_iconst (v := 4) hx hb dX1_worth_5 (by decide) ?_
  refine lv_icmp_ge (tgt := 18) hx hb dX1_worth_6 (by decide) (fun c_0 => absurd c_0 (nge4 (by omega))) (fun _ => ?_)
  refine lv_iload_n hx hb dX1_worth_9 rfl (lv_at hl 2 rfl) ?_
  refine lv_if_lt (tgt := 18) hx hb dX1_worth_10 (by decide) (fun c_0 => absurd c_0 (nI_pos (by omega))) (fun _ => ?_)
  refine lv_iload_n hx hb dX1_worth_13 rfl (lv_at hl 2 rfl) ?_
  refine lv_iconst (v := 3) hx hb dX1_worth_14 (by decide) ?_
  refine lv_icmp_lt (tgt := 20) hx hb dX1_worth_15 (by decide) (fun _ => ?_) (fun c_0 => absurd (nlt3 (by omega)) c_0)
  refine lv_iload_n hx hb dX1_worth_20 rfl (lv_at hl 2 rfl) ?_
  refine lv_if_ne (tgt := 35) hx hb dX1_worth_21 (by decide) (fun c_1 => ?_) (fun c_1 => ?_)
  · have n_2 : ¬ hn = 0 := fun hx9_ => c_1 ((nI_eq (a := hn) (b := 0) (by omega) (by omega)).mpr hx9_)
    refine lv_iload_n hx hb dX1_worth_35 rfl (lv_at hl 3 rfl) ?_
    refine lv_iconst (v := 3) hx hb dX1_worth_36 (by decide) ?_
    refine lv_iconst (v := 2) hx hb dX1_worth_37 (by decide) ?_
    refine lv_iload_n hx hb dX1_worth_38 rfl (lv_at hl 2 rfl) ?_
    refine lv_iconst (v := 1) hx hb dX1_worth_39 (by decide) ?_
    refine lv_isub hx hb dX1_worth_40 ?_
    refine lv_ci (nI (hn - 1)) (pk_sub (a := hn) (b := 1) (by omega)) ?_
    refine lv_imul hx hb dX1_worth_41 ?_
    refine lv_ci (nI (2 * (hn - 1))) (pk_mul 2 (hn - 1)) ?_
    refine lv_iadd hx hb dX1_worth_42 ?_
    refine lv_ci (nI (3 + (2 * (hn - 1)))) (nI_add 3 (2 * (hn - 1))) ?_
    refine lv_ishr hx hb dX1_worth_43 ?_
    refine lv_ci (nI (sn / 2 ^ (3 + (2 * (hn - 1))))) (shrN (a := sn) (k := (3 + (2 * (hn - 1)))) (by omega) (by omega)) ?_
    have hq_4 : (sn / 2 ^ (3 + (2 * (hn - 1)))) ≤ sn := Nat.div_le_self _ _
    refine lv_bipush (v := 15) hx hb dX1_worth_44 (by decide) ?_
    refine lv_iand hx hb dX1_worth_46 ?_
    refine lv_ci (nI ((sn / 2 ^ (3 + (2 * (hn - 1)))) % 16)) (pk_andN (n := (sn / 2 ^ (3 + (2 * (hn - 1))))) (by omega) 4 (by decide +kernel)) ?_
    refine lv_istore (lv' := [(4, .int (nI ((sn / 2 ^ (3 + (2 * (hn - 1)))) % 16))), (0, .ref ad), (1, .int (nI pn)), (2, .int (nI hn)), (3, .int (nI sn))]) hx hb dX1_worth_47 hl (by decide) rfl (fun ls hl => ?_)
    refine lv_iload_n hx hb dX1_worth_49 rfl (lv_at hl 3 rfl) ?_
    refine lv_if_ne (tgt := 65) hx hb dX1_worth_50 (by decide) (fun _ => ?_) (fun c_0 => absurd c_0 c_1)
    refine lv_iload_n hx hb dX1_worth_65 rfl (lv_at hl 4 rfl) ?_
    refine lv_iload_n hx hb dX1_worth_66 rfl (lv_at hl 3 rfl) ?_
    refine lv_iconst (v := 1) hx hb dX1_worth_67 (by decide) ?_
    refine lv_isub hx hb dX1_worth_68 ?_
    refine lv_ci (nI (hn - 1)) (pk_sub (a := hn) (b := 1) (by omega)) ?_
    refine lv_ishr hx hb dX1_worth_69 ?_
    refine lv_ci (nI (sn / 2 ^ (hn - 1))) (shrN (a := sn) (k := (hn - 1)) (by omega) (by omega)) ?_
    have hq_5 : (sn / 2 ^ (hn - 1)) ≤ sn := Nat.div_le_self _ _
    refine lv_iconst (v := 1) hx hb dX1_worth_70 (by decide) ?_
    refine lv_iand hx hb dX1_worth_71 ?_
    refine lv_ci (nI ((sn / 2 ^ (hn - 1)) % 2)) (pk_andN (n := (sn / 2 ^ (hn - 1))) (by omega) 1 (by decide +kernel)) ?_
    refine lv_istore (lv' := [(5, .int (nI ((sn / 2 ^ (hn - 1)) % 2))), (4, .int (nI ((sn / 2 ^ (3 + (2 * (hn - 1)))) % 16))), (0, .ref ad), (1, .int (nI pn)), (2, .int (nI hn)), (3, .int (nI sn))]) hx hb dX1_worth_72 hl (by decide) rfl (fun ls hl => ?_)
    refine lv_iload_n hx hb dX1_worth_74 rfl (lv_at hl 4 rfl) ?_
    refine lv_iconst (v := 4) hx hb dX1_worth_75 (by decide) ?_
    refine lv_imul hx hb dX1_worth_76 ?_
    refine lv_ci (nI (hn * 4)) (pk_mul hn 4) ?_
    refine lv_iconst (v := 4) hx hb dX1_worth_77 (by decide) ?_
    refine lv_imul hx hb dX1_worth_78 ?_
    refine lv_ci (nI ((hn * 4) * 4)) (pk_mul (hn * 4) 4) ?_
    refine lv_iload hx hb dX1_worth_79 (lv_at hl 1 rfl) ?_
    refine lv_iadd hx hb dX1_worth_81 ?_
    refine lv_ci (nI (((hn * 4) * 4) + ((sn / 2 ^ (3 + (2 * (hn - 1)))) % 16))) (nI_add ((hn * 4) * 4) ((sn / 2 ^ (3 + (2 * (hn - 1)))) % 16)) ?_
    refine lv_iconst (v := 2) hx hb dX1_worth_82 (by decide) ?_
    refine lv_imul hx hb dX1_worth_83 ?_
    refine lv_ci (nI ((((hn * 4) * 4) + ((sn / 2 ^ (3 + (2 * (hn - 1)))) % 16)) * 2)) (pk_mul (((hn * 4) * 4) + ((sn / 2 ^ (3 + (2 * (hn - 1)))) % 16)) 2) ?_
    refine lv_iload hx hb dX1_worth_84 (lv_at hl 0 rfl) ?_
    refine lv_iadd hx hb dX1_worth_86 ?_
    refine lv_ci (nI (((((hn * 4) * 4) + ((sn / 2 ^ (3 + (2 * (hn - 1)))) % 16)) * 2) + ((sn / 2 ^ (hn - 1)) % 2))) (nI_add ((((hn * 4) * 4) + ((sn / 2 ^ (3 + (2 * (hn - 1)))) % 16)) * 2) ((sn / 2 ^ (hn - 1)) % 2)) ?_
    refine lv_istore (lv' := [(6, .int (nI (((((hn * 4) * 4) + ((sn / 2 ^ (3 + (2 * (hn - 1)))) % 16)) * 2) + ((sn / 2 ^ (hn - 1)) % 2)))), (5, .int (nI ((sn / 2 ^ (hn - 1)) % 2))), (4, .int (nI ((sn / 2 ^ (3 + (2 * (hn - 1)))) % 16))), (0, .ref ad), (1, .int (nI pn)), (2, .int (nI hn)), (3, .int (nI sn))]) hx hb dX1_worth_87 hl (by decide) rfl (fun ls hl => ?_)
    refine lv_iload hx hb dX1_worth_89 (lv_at hl 0 rfl) ?_
    refine lv_if_lt (tgt := 113) hx hb dX1_worth_91 (by decide) (fun c_0 => absurd c_0 (nI_pos (by omega))) (fun _ => ?_)
    refine lv_iload hx hb dX1_worth_94 (lv_at hl 0 rfl) ?_
    refine lv_bipush (v := 96) hx hb dX1_worth_96 (by decide) ?_
    refine lv_icmp_ge (tgt := 113) hx hb dX1_worth_98 (by decide) (fun c_0 => absurd c_0 (nge_c (n := 96) rfl (by decide) (by omega))) (fun _ => ?_)
    refine lv_aload_n hx hb dX1_worth_101 rfl (lv_at hl 3 rfl) ?_
    refine va_get (ci := 1) (v := .ref d1) (C := RX1) (T := TX1) (N := 12) hx hb hT wu_X1 hown hK hP 0 rfl rfl 1 (by decide) (hT _ wf_X1_13) (fun _ h9 => h9) rfl dX1_worth_102 ?_
    refine lv_iload_n hx hb dX1_worth_105 rfl (lv_at hl 4 rfl) ?_
    rcases (show pn = 0 ∨ pn = 1 ∨ pn = 2 ∨ pn = 3 by omega) with hc_6 | hc_6 | hc_6 | hc_6
    · skip
      refine aldQ hx hb hK hP 2 2 rfl rfl (vp_in_nI (n := pn) (by omega) (by decide)) dX1_worth_106 ?_
      refine W.eq (g2 := F0 m 107 ls [.ref d1a]) (by rw [hc_6] <;> rfl) ?_
      refine lv_iload hx hb dX1_worth_107 (lv_at hl 0 rfl) ?_
      refine va_iald hx hb hK hP 3 0 rfl rfl (vp_in_nI (n := (((((hn * 4) * 4) + ((sn / 2 ^ (3 + (2 * (hn - 1)))) % 16)) * 2) + ((sn / 2 ^ (hn - 1)) % 2))) (by omega) (by decide)) dX1_worth_109 ?_
      refine lv_ci (xda (((((hn * 4) * 4) + ((sn / 2 ^ (3 + (2 * (hn - 1)))) % 16)) * 2) + ((sn / 2 ^ (hn - 1)) % 2))) (congrArg xda (nI_clamp (n := (((((hn * 4) * 4) + ((sn / 2 ^ (3 + (2 * (hn - 1)))) % 16)) * 2) + ((sn / 2 ^ (hn - 1)) % 2))) (by omega))) ?_
      have hnb_ := ntN_bit hOB P hP4 pn hpn
      refine lv_ci (wS E (F.1 pn) O pn sn hn) (wc_s (hW.a0 hc_6) n_2 hhn (by omega)) ?_
      refine lv_goto (tgt := 114) hx hb dX1_worth_110 (by decide) ?_
      exact retI C0 rfl () rfl (hP.sub (ws' := [(ad, .inr (1, [.ref af, .ref d1, .ref d2, .ref d3, .ref d4, .int i5, .int i6, .int i7, .int i8, .int i9, .int i10, .int i11])), (af, .inr (2, [.ref ak, .ref av, .ref ar, .int (nI P), .int (nI (ntN O P)), .int (nI Y)])), (d1, .inl (cQ, 4, .inr (.inr (.inr (.inr (rf4 d1a d1b d1c d1d)))))), (d1a, .inl (cI, 96, .inl xda)), (d1b, .inl (cI, 96, .inl xdb)), (d1c, .inl (cI, 96, .inl xdc)), (d1d, .inl (cI, 96, .inl xdd))]) [0, 1, 2, 3, 4, 5, 6] rfl) (hD.sub (ws' := [(ad, .inr (1, [.ref af, .ref d1, .ref d2, .ref d3, .ref d4, .int i5, .int i6, .int i7, .int i8, .int i9, .int i10, .int i11])), (af, .inr (2, [.ref ak, .ref av, .ref ar, .int (nI P), .int (nI (ntN O P)), .int (nI Y)])), (d1, .inl (cQ, 4, .inr (.inr (.inr (.inr (rf4 d1a d1b d1c d1d)))))), (d1a, .inl (cI, 96, .inl xda)), (d1b, .inl (cI, 96, .inl xdb)), (d1c, .inl (cI, 96, .inl xdc)), (d1d, .inl (cI, 96, .inl xdd))]) [0, 1, 2, 3, 4, 5, 6] (by decide) rfl) hS (Nat.le_of_ble_eq_true rfl) (Nat.le_of_ble_eq_true rfl) dX1_worth_114
    · skip
      refine aldQ hx hb hK hP 2 2 rfl rfl (vp_in_nI (n := pn) (by omega) (by decide)) dX1_worth_106 ?_
      refine W.eq (g2 := F0 m 107 ls [.ref d1b]) (by rw [hc_6] <;> rfl) ?_
      refine lv_iload hx hb dX1_worth_107 (lv_at hl 0 rfl) ?_
      refine va_iald hx hb hK hP 4 0 rfl rfl (vp_in_nI (n := (((((hn * 4) * 4) + ((sn / 2 ^ (3 + (2 * (hn - 1)))) % 16)) * 2) + ((sn / 2 ^ (hn - 1)) % 2))) (by omega) (by decide)) dX1_worth_109 ?_
      refine lv_ci (xdb (((((hn * 4) * 4) + ((sn / 2 ^ (3 + (2 * (hn - 1)))) % 16)) * 2) + ((sn / 2 ^ (hn - 1)) % 2))) (congrArg xdb (nI_clamp (n := (((((hn * 4) * 4) + ((sn / 2 ^ (3 + (2 * (hn - 1)))) % 16)) * 2) + ((sn / 2 ^ (hn - 1)) % 2))) (by omega))) ?_
      have hnb_ := ntN_bit hOB P hP4 pn hpn
      refine lv_ci (wS E (F.1 pn) O pn sn hn) (wc_s (hW.a1 hc_6) n_2 hhn (by omega)) ?_
      refine lv_goto (tgt := 114) hx hb dX1_worth_110 (by decide) ?_
      exact retI C0 rfl () rfl (hP.sub (ws' := [(ad, .inr (1, [.ref af, .ref d1, .ref d2, .ref d3, .ref d4, .int i5, .int i6, .int i7, .int i8, .int i9, .int i10, .int i11])), (af, .inr (2, [.ref ak, .ref av, .ref ar, .int (nI P), .int (nI (ntN O P)), .int (nI Y)])), (d1, .inl (cQ, 4, .inr (.inr (.inr (.inr (rf4 d1a d1b d1c d1d)))))), (d1a, .inl (cI, 96, .inl xda)), (d1b, .inl (cI, 96, .inl xdb)), (d1c, .inl (cI, 96, .inl xdc)), (d1d, .inl (cI, 96, .inl xdd))]) [0, 1, 2, 3, 4, 5, 6] rfl) (hD.sub (ws' := [(ad, .inr (1, [.ref af, .ref d1, .ref d2, .ref d3, .ref d4, .int i5, .int i6, .int i7, .int i8, .int i9, .int i10, .int i11])), (af, .inr (2, [.ref ak, .ref av, .ref ar, .int (nI P), .int (nI (ntN O P)), .int (nI Y)])), (d1, .inl (cQ, 4, .inr (.inr (.inr (.inr (rf4 d1a d1b d1c d1d)))))), (d1a, .inl (cI, 96, .inl xda)), (d1b, .inl (cI, 96, .inl xdb)), (d1c, .inl (cI, 96, .inl xdc)), (d1d, .inl (cI, 96, .inl xdd))]) [0, 1, 2, 3, 4, 5, 6] (by decide) rfl) hS (Nat.le_of_ble_eq_true rfl) (Nat.le_of_ble_eq_true rfl) dX1_worth_114
    · skip
      refine aldQ hx hb hK hP 2 2 rfl rfl (vp_in_nI (n := pn) (by omega) (by decide)) dX1_worth_106 ?_
      refine W.eq (g2 := F0 m 107 ls [.ref d1c]) (by rw [hc_6] <;> rfl) ?_
      refine lv_iload hx hb dX1_worth_107 (lv_at hl 0 rfl) ?_
      refine va_iald hx hb hK hP 5 0 rfl rfl (vp_in_nI (n := (((((hn * 4) * 4) + ((sn / 2 ^ (3 + (2 * (hn - 1)))) % 16)) * 2) + ((sn / 2 ^ (hn - 1)) % 2))) (by omega) (by decide)) dX1_worth_109 ?_
      refine lv_ci (xdc (((((hn * 4) * 4) + ((sn / 2 ^ (3 + (2 * (hn - 1)))) % 16)) * 2) + ((sn / 2 ^ (hn - 1)) % 2))) (congrArg xdc (nI_clamp (n := (((((hn * 4) * 4) + ((sn / 2 ^ (3 + (2 * (hn - 1)))) % 16)) * 2) + ((sn / 2 ^ (hn - 1)) % 2))) (by omega))) ?_
      have hnb_ := ntN_bit hOB P hP4 pn hpn
      refine lv_ci (wS E (F.1 pn) O pn sn hn) (wc_s (hW.a2 hc_6) n_2 hhn (by omega)) ?_
      refine lv_goto (tgt := 114) hx hb dX1_worth_110 (by decide) ?_
      exact retI C0 rfl () rfl (hP.sub (ws' := [(ad, .inr (1, [.ref af, .ref d1, .ref d2, .ref d3, .ref d4, .int i5, .int i6, .int i7, .int i8, .int i9, .int i10, .int i11])), (af, .inr (2, [.ref ak, .ref av, .ref ar, .int (nI P), .int (nI (ntN O P)), .int (nI Y)])), (d1, .inl (cQ, 4, .inr (.inr (.inr (.inr (rf4 d1a d1b d1c d1d)))))), (d1a, .inl (cI, 96, .inl xda)), (d1b, .inl (cI, 96, .inl xdb)), (d1c, .inl (cI, 96, .inl xdc)), (d1d, .inl (cI, 96, .inl xdd))]) [0, 1, 2, 3, 4, 5, 6] rfl) (hD.sub (ws' := [(ad, .inr (1, [.ref af, .ref d1, .ref d2, .ref d3, .ref d4, .int i5, .int i6, .int i7, .int i8, .int i9, .int i10, .int i11])), (af, .inr (2, [.ref ak, .ref av, .ref ar, .int (nI P), .int (nI (ntN O P)), .int (nI Y)])), (d1, .inl (cQ, 4, .inr (.inr (.inr (.inr (rf4 d1a d1b d1c d1d)))))), (d1a, .inl (cI, 96, .inl xda)), (d1b, .inl (cI, 96, .inl xdb)), (d1c, .inl (cI, 96, .inl xdc)), (d1d, .inl (cI, 96, .inl xdd))]) [0, 1, 2, 3, 4, 5, 6] (by decide) rfl) hS (Nat.le_of_ble_eq_true rfl) (Nat.le_of_ble_eq_true rfl) dX1_worth_114
    · skip
      refine aldQ hx hb hK hP 2 2 rfl rfl (vp_in_nI (n := pn) (by omega) (by decide)) dX1_worth_106 ?_
      refine W.eq (g2 := F0 m 107 ls [.ref d1d]) (by rw [hc_6] <;> rfl) ?_
      refine lv_iload hx hb dX1_worth_107 (lv_at hl 0 rfl) ?_
      refine va_iald hx hb hK hP 6 0 rfl rfl (vp_in_nI (n := (((((hn * 4) * 4) + ((sn / 2 ^ (3 + (2 * (hn - 1)))) % 16)) * 2) + ((sn / 2 ^ (hn - 1)) % 2))) (by omega) (by decide)) dX1_worth_109 ?_
      refine lv_ci (xdd (((((hn * 4) * 4) + ((sn / 2 ^ (3 + (2 * (hn - 1)))) % 16)) * 2) + ((sn / 2 ^ (hn - 1)) % 2))) (congrArg xdd (nI_clamp (n := (((((hn * 4) * 4) + ((sn / 2 ^ (3 + (2 * (hn - 1)))) % 16)) * 2) + ((sn / 2 ^ (hn - 1)) % 2))) (by omega))) ?_
      have hnb_ := ntN_bit hOB P hP4 pn hpn
      refine lv_ci (wS E (F.1 pn) O pn sn hn) (wc_s (hW.a3 hc_6) n_2 hhn (by omega)) ?_
      refine lv_goto (tgt := 114) hx hb dX1_worth_110 (by decide) ?_
      exact retI C0 rfl () rfl (hP.sub (ws' := [(ad, .inr (1, [.ref af, .ref d1, .ref d2, .ref d3, .ref d4, .int i5, .int i6, .int i7, .int i8, .int i9, .int i10, .int i11])), (af, .inr (2, [.ref ak, .ref av, .ref ar, .int (nI P), .int (nI (ntN O P)), .int (nI Y)])), (d1, .inl (cQ, 4, .inr (.inr (.inr (.inr (rf4 d1a d1b d1c d1d)))))), (d1a, .inl (cI, 96, .inl xda)), (d1b, .inl (cI, 96, .inl xdb)), (d1c, .inl (cI, 96, .inl xdc)), (d1d, .inl (cI, 96, .inl xdd))]) [0, 1, 2, 3, 4, 5, 6] rfl) (hD.sub (ws' := [(ad, .inr (1, [.ref af, .ref d1, .ref d2, .ref d3, .ref d4, .int i5, .int i6, .int i7, .int i8, .int i9, .int i10, .int i11])), (af, .inr (2, [.ref ak, .ref av, .ref ar, .int (nI P), .int (nI (ntN O P)), .int (nI Y)])), (d1, .inl (cQ, 4, .inr (.inr (.inr (.inr (rf4 d1a d1b d1c d1d)))))), (d1a, .inl (cI, 96, .inl xda)), (d1b, .inl (cI, 96, .inl xdb)), (d1c, .inl (cI, 96, .inl xdc)), (d1d, .inl (cI, 96, .inl xdd))]) [0, 1, 2, 3, 4, 5, 6] (by decide) rfl) hS (Nat.le_of_ble_eq_true rfl) (Nat.le_of_ble_eq_true rfl) dX1_worth_114
  · have n_3 : hn = 0 := (nI_eq (a := hn) (b := 0) (by omega) (by omega)).mp c_1
    refine lv_iload_n hx hb dX1_worth_24 rfl (lv_at hl 3 rfl) ?_
    refine lv_iconst (v := 3) hx hb dX1_worth_25 (by decide) ?_
    refine lv_ishr hx hb dX1_worth_26 ?_
    refine lv_ci (nI (sn / 2 ^ 3)) (shrN (a := sn) (k := 3) (by omega) (by omega)) ?_
    have hq_7 : (sn / 2 ^ 3) ≤ sn := Nat.div_le_self _ _
    refine lv_iconst (v := 2) hx hb dX1_worth_27 (by decide) ?_
    refine lv_ishl hx hb dX1_worth_28 ?_
    refine lv_ci (nI ((sn / 2 ^ 3) * 2 ^ 2)) (shlN (a := (sn / 2 ^ 3)) (k := 2) (by omega) (by omega)) ?_
    refine lv_bipush (v := 12) hx hb dX1_worth_29 (by decide) ?_
    refine lv_iand hx hb dX1_worth_31 ?_
    refine lv_ci (nI (4 * ((sn / 2 ^ 3) % 4))) (and12 (a := (sn / 2 ^ 3)) (by omega)) ?_
    refine lv_goto (tgt := 47) hx hb dX1_worth_32 (by decide) ?_
    refine lv_istore (lv' := [(4, .int (nI (4 * ((sn / 2 ^ 3) % 4)))), (0, .ref ad), (1, .int (nI pn)), (2, .int (nI hn)), (3, .int (nI sn))]) hx hb dX1_worth_47 hl (by decide) rfl (fun ls hl => ?_)
    refine lv_iload_n hx hb dX1_worth_49 rfl (lv_at hl 3 rfl) ?_
    refine lv_if_ne (tgt := 65) hx hb dX1_worth_50 (by decide) (fun c_0 => absurd c_1 c_0) (fun _ => ?_)
    refine lv_aload_n hx hb dX1_worth_53 rfl (lv_at hl 1 rfl) ?_
    refine va_get (ci := 1) (v := .ref af) (C := RX1) (T := TX1) (N := 12) hx hb hT wu_X1 hown hK hP 0 rfl rfl 0 (by decide) (hT _ wf_X1_26) (fun _ h9 => h9) rfl dX1_worth_54 ?_
    refine va_getN (ci := 2) (v := .int (nI (ntN O P))) (C := RX2) (T := TX2) (N := 6) hx hb hT wu_X2 hown hK hP 1 rfl rfl 4 (by decide) (va_Nw.use rfl (hN.get 148 kf_X1_79 rfl)) (fun _ h9 => h9) rfl dX1_worth_57 ?_
    refine lv_iload_n hx hb dX1_worth_60 rfl (lv_at hl 2 rfl) ?_
    refine lv_ishr hx hb dX1_worth_61 ?_
    refine lv_ci (nI ((ntN O P) / 2 ^ pn)) (shrN (a := (ntN O P)) (k := pn) (by omega) (by omega)) ?_
    have hq_8 : ((ntN O P) / 2 ^ pn) ≤ (ntN O P) := Nat.div_le_self _ _
    refine lv_goto (tgt := 70) hx hb dX1_worth_62 (by decide) ?_
    refine lv_iconst (v := 1) hx hb dX1_worth_70 (by decide) ?_
    refine lv_iand hx hb dX1_worth_71 ?_
    refine lv_ci (nI (((ntN O P) / 2 ^ pn) % 2)) (pk_andN (n := ((ntN O P) / 2 ^ pn)) (by omega) 1 (by decide +kernel)) ?_
    refine lv_istore (lv' := [(5, .int (nI (((ntN O P) / 2 ^ pn) % 2))), (4, .int (nI (4 * ((sn / 2 ^ 3) % 4)))), (0, .ref ad), (1, .int (nI pn)), (2, .int (nI hn)), (3, .int (nI sn))]) hx hb dX1_worth_72 hl (by decide) rfl (fun ls hl => ?_)
    refine lv_iload_n hx hb dX1_worth_74 rfl (lv_at hl 4 rfl) ?_
    refine lv_iconst (v := 4) hx hb dX1_worth_75 (by decide) ?_
    refine lv_imul hx hb dX1_worth_76 ?_
    refine lv_ci (nI (hn * 4)) (pk_mul hn 4) ?_
    refine lv_iconst (v := 4) hx hb dX1_worth_77 (by decide) ?_
    refine lv_imul hx hb dX1_worth_78 ?_
    refine lv_ci (nI ((hn * 4) * 4)) (pk_mul (hn * 4) 4) ?_
    refine lv_iload hx hb dX1_worth_79 (lv_at hl 1 rfl) ?_
    refine lv_iadd hx hb dX1_worth_81 ?_
    refine lv_ci (nI (((hn * 4) * 4) + (4 * ((sn / 2 ^ 3) % 4)))) (nI_add ((hn * 4) * 4) (4 * ((sn / 2 ^ 3) % 4))) ?_
    refine lv_iconst (v := 2) hx hb dX1_worth_82 (by decide) ?_
    refine lv_imul hx hb dX1_worth_83 ?_
    refine lv_ci (nI ((((hn * 4) * 4) + (4 * ((sn / 2 ^ 3) % 4))) * 2)) (pk_mul (((hn * 4) * 4) + (4 * ((sn / 2 ^ 3) % 4))) 2) ?_
    refine lv_iload hx hb dX1_worth_84 (lv_at hl 0 rfl) ?_
    refine lv_iadd hx hb dX1_worth_86 ?_
    refine lv_ci (nI (((((hn * 4) * 4) + (4 * ((sn / 2 ^ 3) % 4))) * 2) + (((ntN O P) / 2 ^ pn) % 2))) (nI_add ((((hn * 4) * 4) + (4 * ((sn / 2 ^ 3) % 4))) * 2) (((ntN O P) / 2 ^ pn) % 2)) ?_
    refine lv_istore (lv' := [(6, .int (nI (((((hn * 4) * 4) + (4 * ((sn / 2 ^ 3) % 4))) * 2) + (((ntN O P) / 2 ^ pn) % 2)))), (5, .int (nI (((ntN O P) / 2 ^ pn) % 2))), (4, .int (nI (4 * ((sn / 2 ^ 3) % 4)))), (0, .ref ad), (1, .int (nI pn)), (2, .int (nI hn)), (3, .int (nI sn))]) hx hb dX1_worth_87 hl (by decide) rfl (fun ls hl => ?_)
    refine lv_iload hx hb dX1_worth_89 (lv_at hl 0 rfl) ?_
    refine lv_if_lt (tgt := 113) hx hb dX1_worth_91 (by decide) (fun c_0 => absurd c_0 (nI_pos (by omega))) (fun _ => ?_)
    refine lv_iload hx hb dX1_worth_94 (lv_at hl 0 rfl) ?_
    refine lv_bipush (v := 96) hx hb dX1_worth_96 (by decide) ?_
    refine lv_icmp_ge (tgt := 113) hx hb dX1_worth_98 (by decide) (fun c_0 => absurd c_0 (nge_c (n := 96) rfl (by decide) (by omega))) (fun _ => ?_)
    refine lv_aload_n hx hb dX1_worth_101 rfl (lv_at hl 3 rfl) ?_
    refine va_get (ci := 1) (v := .ref d1) (C := RX1) (T := TX1) (N := 12) hx hb hT wu_X1 hown hK hP 0 rfl rfl 1 (by decide) (hT _ wf_X1_13) (fun _ h9 => h9) rfl dX1_worth_102 ?_
    refine lv_iload_n hx hb dX1_worth_105 rfl (lv_at hl 4 rfl) ?_
    rcases (show pn = 0 ∨ pn = 1 ∨ pn = 2 ∨ pn = 3 by omega) with hc_9 | hc_9 | hc_9 | hc_9
    · skip
      refine aldQ hx hb hK hP 2 2 rfl rfl (vp_in_nI (n := pn) (by omega) (by decide)) dX1_worth_106 ?_
      refine W.eq (g2 := F0 m 107 ls [.ref d1a]) (by rw [hc_9] <;> rfl) ?_
      refine lv_iload hx hb dX1_worth_107 (lv_at hl 0 rfl) ?_
      refine va_iald hx hb hK hP 3 0 rfl rfl (vp_in_nI (n := (((((hn * 4) * 4) + (4 * ((sn / 2 ^ 3) % 4))) * 2) + (((ntN O P) / 2 ^ pn) % 2))) (by omega) (by decide)) dX1_worth_109 ?_
      refine lv_ci (xda (((((hn * 4) * 4) + (4 * ((sn / 2 ^ 3) % 4))) * 2) + (((ntN O P) / 2 ^ pn) % 2))) (congrArg xda (nI_clamp (n := (((((hn * 4) * 4) + (4 * ((sn / 2 ^ 3) % 4))) * 2) + (((ntN O P) / 2 ^ pn) % 2))) (by omega))) ?_
      have hnb_ := ntN_bit hOB P hP4 pn hpn
      refine lv_ci (wS E (F.1 pn) O pn sn hn) (wc_z (hW.a0 hc_9) (hOB pn (by omega)) n_3 (by omega)) ?_
      refine lv_goto (tgt := 114) hx hb dX1_worth_110 (by decide) ?_
      exact retI C0 rfl () rfl (hP.sub (ws' := [(ad, .inr (1, [.ref af, .ref d1, .ref d2, .ref d3, .ref d4, .int i5, .int i6, .int i7, .int i8, .int i9, .int i10, .int i11])), (af, .inr (2, [.ref ak, .ref av, .ref ar, .int (nI P), .int (nI (ntN O P)), .int (nI Y)])), (d1, .inl (cQ, 4, .inr (.inr (.inr (.inr (rf4 d1a d1b d1c d1d)))))), (d1a, .inl (cI, 96, .inl xda)), (d1b, .inl (cI, 96, .inl xdb)), (d1c, .inl (cI, 96, .inl xdc)), (d1d, .inl (cI, 96, .inl xdd))]) [0, 1, 2, 3, 4, 5, 6] rfl) (hD.sub (ws' := [(ad, .inr (1, [.ref af, .ref d1, .ref d2, .ref d3, .ref d4, .int i5, .int i6, .int i7, .int i8, .int i9, .int i10, .int i11])), (af, .inr (2, [.ref ak, .ref av, .ref ar, .int (nI P), .int (nI (ntN O P)), .int (nI Y)])), (d1, .inl (cQ, 4, .inr (.inr (.inr (.inr (rf4 d1a d1b d1c d1d)))))), (d1a, .inl (cI, 96, .inl xda)), (d1b, .inl (cI, 96, .inl xdb)), (d1c, .inl (cI, 96, .inl xdc)), (d1d, .inl (cI, 96, .inl xdd))]) [0, 1, 2, 3, 4, 5, 6] (by decide) rfl) hS (Nat.le_of_ble_eq_true rfl) (Nat.le_of_ble_eq_true rfl) dX1_worth_114
    · skip
      refine aldQ hx hb hK hP 2 2 rfl rfl (vp_in_nI (n := pn) (by omega) (by decide)) dX1_worth_106 ?_
      refine W.eq (g2 := F0 m 107 ls [.ref d1b]) (by rw [hc_9] <;> rfl) ?_
      refine lv_iload hx hb dX1_worth_107 (lv_at hl 0 rfl) ?_
      refine va_iald hx hb hK hP 4 0 rfl rfl (vp_in_nI (n := (((((hn * 4) * 4) + (4 * ((sn / 2 ^ 3) % 4))) * 2) + (((ntN O P) / 2 ^ pn) % 2))) (by omega) (by decide)) dX1_worth_109 ?_
      refine lv_ci (xdb (((((hn * 4) * 4) + (4 * ((sn / 2 ^ 3) % 4))) * 2) + (((ntN O P) / 2 ^ pn) % 2))) (congrArg xdb (nI_clamp (n := (((((hn * 4) * 4) + (4 * ((sn / 2 ^ 3) % 4))) * 2) + (((ntN O P) / 2 ^ pn) % 2))) (by omega))) ?_
      have hnb_ := ntN_bit hOB P hP4 pn hpn
      refine lv_ci (wS E (F.1 pn) O pn sn hn) (wc_z (hW.a1 hc_9) (hOB pn (by omega)) n_3 (by omega)) ?_
      refine lv_goto (tgt := 114) hx hb dX1_worth_110 (by decide) ?_
      exact retI C0 rfl () rfl (hP.sub (ws' := [(ad, .inr (1, [.ref af, .ref d1, .ref d2, .ref d3, .ref d4, .int i5, .int i6, .int i7, .int i8, .int i9, .int i10, .int i11])), (af, .inr (2, [.ref ak, .ref av, .ref ar, .int (nI P), .int (nI (ntN O P)), .int (nI Y)])), (d1, .inl (cQ, 4, .inr (.inr (.inr (.inr (rf4 d1a d1b d1c d1d)))))), (d1a, .inl (cI, 96, .inl xda)), (d1b, .inl (cI, 96, .inl xdb)), (d1c, .inl (cI, 96, .inl xdc)), (d1d, .inl (cI, 96, .inl xdd))]) [0, 1, 2, 3, 4, 5, 6] rfl) (hD.sub (ws' := [(ad, .inr (1, [.ref af, .ref d1, .ref d2, .ref d3, .ref d4, .int i5, .int i6, .int i7, .int i8, .int i9, .int i10, .int i11])), (af, .inr (2, [.ref ak, .ref av, .ref ar, .int (nI P), .int (nI (ntN O P)), .int (nI Y)])), (d1, .inl (cQ, 4, .inr (.inr (.inr (.inr (rf4 d1a d1b d1c d1d)))))), (d1a, .inl (cI, 96, .inl xda)), (d1b, .inl (cI, 96, .inl xdb)), (d1c, .inl (cI, 96, .inl xdc)), (d1d, .inl (cI, 96, .inl xdd))]) [0, 1, 2, 3, 4, 5, 6] (by decide) rfl) hS (Nat.le_of_ble_eq_true rfl) (Nat.le_of_ble_eq_true rfl) dX1_worth_114
    · skip
      refine aldQ hx hb hK hP 2 2 rfl rfl (vp_in_nI (n := pn) (by omega) (by decide)) dX1_worth_106 ?_
      refine W.eq (g2 := F0 m 107 ls [.ref d1c]) (by rw [hc_9] <;> rfl) ?_
      refine lv_iload hx hb dX1_worth_107 (lv_at hl 0 rfl) ?_
      refine va_iald hx hb hK hP 5 0 rfl rfl (vp_in_nI (n := (((((hn * 4) * 4) + (4 * ((sn / 2 ^ 3) % 4))) * 2) + (((ntN O P) / 2 ^ pn) % 2))) (by omega) (by decide)) dX1_worth_109 ?_
      refine lv_ci (xdc (((((hn * 4) * 4) + (4 * ((sn / 2 ^ 3) % 4))) * 2) + (((ntN O P) / 2 ^ pn) % 2))) (congrArg xdc (nI_clamp (n := (((((hn * 4) * 4) + (4 * ((sn / 2 ^ 3) % 4))) * 2) + (((ntN O P) / 2 ^ pn) % 2))) (by omega))) ?_
      have hnb_ := ntN_bit hOB P hP4 pn hpn
      refine lv_ci (wS E (F.1 pn) O pn sn hn) (wc_z (hW.a2 hc_9) (hOB pn (by omega)) n_3 (by omega)) ?_
      refine lv_goto (tgt := 114) hx hb dX1_worth_110 (by decide) ?_
      exact retI C0 rfl () rfl (hP.sub (ws' := [(ad, .inr (1, [.ref af, .ref d1, .ref d2, .ref d3, .ref d4, .int i5, .int i6, .int i7, .int i8, .int i9, .int i10, .int i11])), (af, .inr (2, [.ref ak, .ref av, .ref ar, .int (nI P), .int (nI (ntN O P)), .int (nI Y)])), (d1, .inl (cQ, 4, .inr (.inr (.inr (.inr (rf4 d1a d1b d1c d1d)))))), (d1a, .inl (cI, 96, .inl xda)), (d1b, .inl (cI, 96, .inl xdb)), (d1c, .inl (cI, 96, .inl xdc)), (d1d, .inl (cI, 96, .inl xdd))]) [0, 1, 2, 3, 4, 5, 6] rfl) (hD.sub (ws' := [(ad, .inr (1, [.ref af, .ref d1, .ref d2, .ref d3, .ref d4, .int i5, .int i6, .int i7, .int i8, .int i9, .int i10, .int i11])), (af, .inr (2, [.ref ak, .ref av, .ref ar, .int (nI P), .int (nI (ntN O P)), .int (nI Y)])), (d1, .inl (cQ, 4, .inr (.inr (.inr (.inr (rf4 d1a d1b d1c d1d)))))), (d1a, .inl (cI, 96, .inl xda)), (d1b, .inl (cI, 96, .inl xdb)), (d1c, .inl (cI, 96, .inl xdc)), (d1d, .inl (cI, 96, .inl xdd))]) [0, 1, 2, 3, 4, 5, 6] (by decide) rfl) hS (Nat.le_of_ble_eq_true rfl) (Nat.le_of_ble_eq_true rfl) dX1_worth_114
    · skip
      refine aldQ hx hb hK hP 2 2 rfl rfl (vp_in_nI (n := pn) (by omega) (by decide)) dX1_worth_106 ?_
      refine W.eq (g2 := F0 m 107 ls [.ref d1d]) (by rw [hc_9] <;> rfl) ?_
      refine lv_iload hx hb dX1_worth_107 (lv_at hl 0 rfl) ?_
      refine va_iald hx hb hK hP 6 0 rfl rfl (vp_in_nI (n := (((((hn * 4) * 4) + (4 * ((sn / 2 ^ 3) % 4))) * 2) + (((ntN O P) / 2 ^ pn) % 2))) (by omega) (by decide)) dX1_worth_109 ?_
      refine lv_ci (xdd (((((hn * 4) * 4) + (4 * ((sn / 2 ^ 3) % 4))) * 2) + (((ntN O P) / 2 ^ pn) % 2))) (congrArg xdd (nI_clamp (n := (((((hn * 4) * 4) + (4 * ((sn / 2 ^ 3) % 4))) * 2) + (((ntN O P) / 2 ^ pn) % 2))) (by omega))) ?_
      have hnb_ := ntN_bit hOB P hP4 pn hpn
      refine lv_ci (wS E (F.1 pn) O pn sn hn) (wc_z (hW.a3 hc_9) (hOB pn (by omega)) n_3 (by omega)) ?_
      refine lv_goto (tgt := 114) hx hb dX1_worth_110 (by decide) ?_
      exact retI C0 rfl () rfl (hP.sub (ws' := [(ad, .inr (1, [.ref af, .ref d1, .ref d2, .ref d3, .ref d4, .int i5, .int i6, .int i7, .int i8, .int i9, .int i10, .int i11])), (af, .inr (2, [.ref ak, .ref av, .ref ar, .int (nI P), .int (nI (ntN O P)), .int (nI Y)])), (d1, .inl (cQ, 4, .inr (.inr (.inr (.inr (rf4 d1a d1b d1c d1d)))))), (d1a, .inl (cI, 96, .inl xda)), (d1b, .inl (cI, 96, .inl xdb)), (d1c, .inl (cI, 96, .inl xdc)), (d1d, .inl (cI, 96, .inl xdd))]) [0, 1, 2, 3, 4, 5, 6] rfl) (hD.sub (ws' := [(ad, .inr (1, [.ref af, .ref d1, .ref d2, .ref d3, .ref d4, .int i5, .int i6, .int i7, .int i8, .int i9, .int i10, .int i11])), (af, .inr (2, [.ref ak, .ref av, .ref ar, .int (nI P), .int (nI (ntN O P)), .int (nI Y)])), (d1, .inl (cQ, 4, .inr (.inr (.inr (.inr (rf4 d1a d1b d1c d1d)))))), (d1a, .inl (cI, 96, .inl xda)), (d1b, .inl (cI, 96, .inl xdb)), (d1c, .inl (cI, 96, .inl xdc)), (d1d, .inl (cI, 96, .inl xdd))]) [0, 1, 2, 3, 4, 5, 6] (by decide) rfl) hS (Nat.le_of_ble_eq_true rfl) (Nat.le_of_ble_eq_true rfl) dX1_worth_114

set_option maxHeartbeats 4000000 in
set_option maxRecDepth 100000 in
theorem c_gain (l : Launch) (D : va_G) (cI cZ cQ cT : ClassId) (sz : Nat) (ad : Nat) (af : Nat) (d1 : Nat) (d2 : Nat) (d3 : Nat) (d4 : Nat) (i5 : Int32) (i6 : Int32) (i7 : Int32) (i8 : Int32) (i9 : Int32) (i10 : Int32) (i11 : Int32) (ak : Nat) (av : Nat) (ar : Nat) (d1a : Nat) (d1b : Nat) (d1c : Nat) (d1d : Nat) (xda : Nat → Int32) (xdb : Nat → Int32) (xdc : Nat → Int32) (xdd : Nat → Int32) (P : Nat) (pn : Nat) (sn : Nat) (Y : Nat) (F : Fk) (O : Nat → Nat) (E : Ev) (hP4 : P ≤ 4) (hOB : ∀ j, j < 4 → O j < 2) (hpn : pn < P) (hsn : sn < 512) (hW : WR (s4 xda xdb xdc xdd pn) E pn (F.1 pn)) : MetI l yX1_gain cX1_gain 5 .int ({ frames := 1, cells := 0, slots := 0, locals := 26 } : Room) [.ref ad, .int (nI pn), .int (nI sn)] D (TYS cI cZ cQ cT) EF sz [(ad, .inr (1, [.ref af, .ref d1, .ref d2, .ref d3, .ref d4, .int i5, .int i6, .int i7, .int i8, .int i9, .int i10, .int i11])), (af, .inr (2, [.ref ak, .ref av, .ref ar, .int (nI P), .int (nI (ntN O P)), .int (nI Y)])), (d1, .inl (cQ, 4, .inr (.inr (.inr (.inr (rf4 d1a d1b d1c d1d)))))), (d1a, .inl (cI, 96, .inl xda)), (d1b, .inl (cI, 96, .inl xdb)), (d1c, .inl (cI, 96, .inl xdc)), (d1d, .inl (cI, 96, .inl xdd))] (S := Unit) (fun (r : Int32) (_ : Unit) => r = (gS E (F.1 pn) O pn sn 3)) (fun _ => [(ad, .inr (1, [.ref af, .ref d1, .ref d2, .ref d3, .ref d4, .int i5, .int i6, .int i7, .int i8, .int i9, .int i10, .int i11])), (af, .inr (2, [.ref ak, .ref av, .ref ar, .int (nI P), .int (nI (ntN O P)), .int (nI Y)])), (d1, .inl (cQ, 4, .inr (.inr (.inr (.inr (rf4 d1a d1b d1c d1d)))))), (d1a, .inl (cI, 96, .inl xda)), (d1b, .inl (cI, 96, .inl xdb)), (d1c, .inl (cI, 96, .inl xdc)), (d1d, .inl (cI, 96, .inl xdd))]) := by
  refine MetI.mk (lv := [(0, .ref ad), (1, .int (nI pn)), (2, .int (nI sn))]) (by decide +kernel) (Nat.le_of_ble_eq_true rfl) rfl ?_
  intro p e s m below meth c A ls C0 hP hD hS hX hl
  have C1 := C0
  obtain ⟨hx, hb, hr, hml, hown, hlocks, hname, hT, hN, hK, hA⟩ := C1
  have hd8 := d8_le hP4; have hd0 := d8_pos P
  refine lv_iconst (v := 0) hx hb dX1_gain_0 (by decide) ?_
  refine lv_istore_n (lv' := [(3, .int 0), (0, .ref ad), (1, .int (nI pn)), (2, .int (nI sn))]) hx hb dX1_gain_1 rfl hl (by decide) rfl (fun ls hl => ?_)
  refine lv_iconst (v := 0) hx hb dX1_gain_2 (by decide) ?_
  refine lv_istore (lv' := [(4, .int 0), (3, .int 0), (0, .ref ad), (1, .int (nI pn)), (2, .int (nI sn))]) hx hb dX1_gain_3 hl (by decide) rfl (fun ls hl => ?_)
  have LOOP_1 : ∀ (fu_ : Nat) (h_ : Nat) (g_ : Int32) (H : Heap) (locs : List Loc) (ls : Array Slot), (3 - h_) < fu_ → (h_ ≤ 3) → (g_ = gS E (F.1 pn) O pn sn h_) → va_P D CL [(ad, .inr (1, [.ref af, .ref d1, .ref d2, .ref d3, .ref d4, .int i5, .int i6, .int i7, .int i8, .int i9, .int i10, .int i11])), (af, .inr (2, [.ref ak, .ref av, .ref ar, .int (nI P), .int (nI (ntN O P)), .int (nI Y)])), (d1, .inl (cQ, 4, .inr (.inr (.inr (.inr (rf4 d1a d1b d1c d1d)))))), (d1a, .inl (cI, 96, .inl xda)), (d1b, .inl (cI, 96, .inl xdb)), (d1c, .inl (cI, 96, .inl xdc)), (d1d, .inl (cI, 96, .inl xdd))] H → va_D A [(ad, .inr (1, [.ref af, .ref d1, .ref d2, .ref d3, .ref d4, .int i5, .int i6, .int i7, .int i8, .int i9, .int i10, .int i11])), (af, .inr (2, [.ref ak, .ref av, .ref ar, .int (nI P), .int (nI (ntN O P)), .int (nI Y)])), (d1, .inl (cQ, 4, .inr (.inr (.inr (.inr (rf4 d1a d1b d1c d1d)))))), (d1a, .inl (cI, 96, .inl xda)), (d1b, .inl (cI, 96, .inl xdb)), (d1c, .inl (cI, 96, .inl xdc)), (d1d, .inl (cI, 96, .inl xdd))] → va_S A s.heap H locs → lv_has ls 5 [(0, .ref ad), (1, .int (nI pn)), (2, .int (nI sn)), (3, .int g_), (4, .int (nI h_))] → W p l e ({ frames := 1, cells := 0, slots := 0, locals := 26 } : Room) s m [.ref ad, .int (nI pn), .int (nI sn)].toArray below meth c H locs 0 0 (MQ below (va_Qi (S := Unit) (fun (r : Int32) (_ : Unit) => r = (gS E (F.1 pn) O pn sn 3)) (fun _ => wE D (TYS cI cZ cQ cT) A [(ad, .inr (1, [.ref af, .ref d1, .ref d2, .ref d3, .ref d4, .int i5, .int i6, .int i7, .int i8, .int i9, .int i10, .int i11])), (af, .inr (2, [.ref ak, .ref av, .ref ar, .int (nI P), .int (nI (ntN O P)), .int (nI Y)])), (d1, .inl (cQ, 4, .inr (.inr (.inr (.inr (rf4 d1a d1b d1c d1d)))))), (d1a, .inl (cI, 96, .inl xda)), (d1b, .inl (cI, 96, .inl xdb)), (d1c, .inl (cI, 96, .inl xdc)), (d1d, .inl (cI, 96, .inl xdd))]) A) [.ref ad, .int (nI pn), .int (nI sn)].toArray s 0 0 A) (F0 m 5 ls [])  := by
    intro fu_
    induction fu_ with
    | zero => intro h_ g_ H locs ls hk_; exact absurd hk_ (Nat.not_lt_zero _)
    | succ fu_ ih_2 =>
      intro h_ g_ H locs ls hk_ i1 iG hP hD hS hl
      refine lv_iload hx hb dX1_gain_5 (lv_at hl 4 rfl) ?_
      refine lv_iconst (v := 3) hx hb dX1_gain_7 (by decide) ?_
      refine lv_icmp_ge (tgt := 38) hx hb dX1_gain_8 (by decide) (fun c_3 => ?_) (fun c_3 => ?_)
      · have n_4 : 3 ≤ h_ := (nI_leI (a := 3) (b := h_) (by omega) (by omega)).mp c_3
        refine lv_iload_n hx hb dX1_gain_38 rfl (lv_at hl 3 rfl) ?_
        exact retI C0 rfl () (by rw [iG, show h_ = 3 by omega]) (hP.sub (ws' := [(ad, .inr (1, [.ref af, .ref d1, .ref d2, .ref d3, .ref d4, .int i5, .int i6, .int i7, .int i8, .int i9, .int i10, .int i11])), (af, .inr (2, [.ref ak, .ref av, .ref ar, .int (nI P), .int (nI (ntN O P)), .int (nI Y)])), (d1, .inl (cQ, 4, .inr (.inr (.inr (.inr (rf4 d1a d1b d1c d1d)))))), (d1a, .inl (cI, 96, .inl xda)), (d1b, .inl (cI, 96, .inl xdb)), (d1c, .inl (cI, 96, .inl xdc)), (d1d, .inl (cI, 96, .inl xdd))]) [0, 1, 2, 3, 4, 5, 6] rfl) (hD.sub (ws' := [(ad, .inr (1, [.ref af, .ref d1, .ref d2, .ref d3, .ref d4, .int i5, .int i6, .int i7, .int i8, .int i9, .int i10, .int i11])), (af, .inr (2, [.ref ak, .ref av, .ref ar, .int (nI P), .int (nI (ntN O P)), .int (nI Y)])), (d1, .inl (cQ, 4, .inr (.inr (.inr (.inr (rf4 d1a d1b d1c d1d)))))), (d1a, .inl (cI, 96, .inl xda)), (d1b, .inl (cI, 96, .inl xdb)), (d1c, .inl (cI, 96, .inl xdc)), (d1d, .inl (cI, 96, .inl xdd))]) [0, 1, 2, 3, 4, 5, 6] (by decide) rfl) hS (Nat.le_of_ble_eq_true rfl) (Nat.le_of_ble_eq_true rfl) dX1_gain_39
      · have n_5 : ¬ 3 ≤ h_ := fun hx9_ => c_3 ((nI_leI (a := 3) (b := h_) (by omega) (by omega)).mpr hx9_)
        refine lv_iload_n hx hb dX1_gain_11 rfl (lv_at hl 2 rfl) ?_
        refine lv_iload hx hb dX1_gain_12 (lv_at hl 4 rfl) ?_
        refine contI (wc := []) (wr := [(ad, .inr (1, [.ref af, .ref d1, .ref d2, .ref d3, .ref d4, .int i5, .int i6, .int i7, .int i8, .int i9, .int i10, .int i11])), (af, .inr (2, [.ref ak, .ref av, .ref ar, .int (nI P), .int (nI (ntN O P)), .int (nI Y)])), (d1, .inl (cQ, 4, .inr (.inr (.inr (.inr (rf4 d1a d1b d1c d1d)))))), (d1a, .inl (cI, 96, .inl xda)), (d1b, .inl (cI, 96, .inl xdb)), (d1c, .inl (cI, 96, .inl xdc)), (d1d, .inl (cI, 96, .inl xdd))]) C0 hP hD hS [] [0, 1, 2, 3, 4, 5, 6] rfl rfl (by decide) (by decide) 0 0 (Nat.le_of_ble_eq_true rfl) (Nat.le_of_ble_eq_true rfl) (runSN (k := 2) (As := [.int (nI sn), .int (nI h_)]) (rest := []) "DayKnown" 573 C0 (c_bit l D cI cZ cQ cT _ sn h_ (by omega) (by omega)) wc_X5_bit kl_X1_82 wt_X5_bit wz_X5 ⟨by decide, by decide, by decide +kernel⟩ ⟨(Nat.le_of_ble_eq_true rfl), (Nat.le_of_ble_eq_true rfl)⟩ hP hD hS EF.ok hX [] rfl (by decide) rfl hl.1 rfl (Nat.le_of_ble_eq_true rfl) dX1_gain_14 ⟨(Nat.le_of_ble_eq_true rfl), (Nat.le_of_ble_eq_true rfl)⟩) (fun r_8 u_6 H locs w_7 hP hD hS => ?_)
        have hP : va_P D CL [(ad, .inr (1, [.ref af, .ref d1, .ref d2, .ref d3, .ref d4, .int i5, .int i6, .int i7, .int i8, .int i9, .int i10, .int i11])), (af, .inr (2, [.ref ak, .ref av, .ref ar, .int (nI P), .int (nI (ntN O P)), .int (nI Y)])), (d1, .inl (cQ, 4, .inr (.inr (.inr (.inr (rf4 d1a d1b d1c d1d)))))), (d1a, .inl (cI, 96, .inl xda)), (d1b, .inl (cI, 96, .inl xdb)), (d1c, .inl (cI, 96, .inl xdc)), (d1d, .inl (cI, 96, .inl xdd))] H := hP
        have hD : va_D A [(ad, .inr (1, [.ref af, .ref d1, .ref d2, .ref d3, .ref d4, .int i5, .int i6, .int i7, .int i8, .int i9, .int i10, .int i11])), (af, .inr (2, [.ref ak, .ref av, .ref ar, .int (nI P), .int (nI (ntN O P)), .int (nI Y)])), (d1, .inl (cQ, 4, .inr (.inr (.inr (.inr (rf4 d1a d1b d1c d1d)))))), (d1a, .inl (cI, 96, .inl xda)), (d1b, .inl (cI, 96, .inl xdb)), (d1c, .inl (cI, 96, .inl xdc)), (d1d, .inl (cI, 96, .inl xdd))] := hD
        have hrs_9 : sn / 2 ^ h_ % 2 < 2 := Nat.mod_lt _ (by decide)
        obtain rfl : r_8 = (nI (sn / 2 ^ h_ % 2)) := w_7
        refine lv_iconst (v := 1) hx hb dX1_gain_17 (by decide) ?_
        refine lv_icmp_ne (tgt := 32) hx hb dX1_gain_18 (by decide) (fun c_10 => ?_) (fun c_10 => ?_)
        · have n_11 : ¬ (sn / 2 ^ h_ % 2) = 1 := fun hx9_ => c_10 ((nI_eq (a := (sn / 2 ^ h_ % 2)) (b := 1) (by omega) (by omega)).mpr hx9_)
          refine lv_iinc (v := (nI (h_ + 1))) (lv' := [(4, .int (nI (h_ + 1))), (0, .ref ad), (1, .int (nI pn)), (2, .int (nI sn)), (3, .int g_)]) hx hb dX1_gain_32 hl (k := 4) rfl (nI_succ _).symm (by decide) rfl (fun ls hl => ?_)
          refine lv_goto (tgt := 5) hx hb dX1_gain_35 (by decide) ?_
          exact ih_2 (h_ + 1) g_ _ _ _ (by omega) (by omega) (by rw [gS_0 (show ¬ sO sn h_ = 1 from n_11), iG]) (hP.sub (ws' := [(ad, .inr (1, [.ref af, .ref d1, .ref d2, .ref d3, .ref d4, .int i5, .int i6, .int i7, .int i8, .int i9, .int i10, .int i11])), (af, .inr (2, [.ref ak, .ref av, .ref ar, .int (nI P), .int (nI (ntN O P)), .int (nI Y)])), (d1, .inl (cQ, 4, .inr (.inr (.inr (.inr (rf4 d1a d1b d1c d1d)))))), (d1a, .inl (cI, 96, .inl xda)), (d1b, .inl (cI, 96, .inl xdb)), (d1c, .inl (cI, 96, .inl xdc)), (d1d, .inl (cI, 96, .inl xdd))]) [0, 1, 2, 3, 4, 5, 6] rfl) (hD.sub (ws' := [(ad, .inr (1, [.ref af, .ref d1, .ref d2, .ref d3, .ref d4, .int i5, .int i6, .int i7, .int i8, .int i9, .int i10, .int i11])), (af, .inr (2, [.ref ak, .ref av, .ref ar, .int (nI P), .int (nI (ntN O P)), .int (nI Y)])), (d1, .inl (cQ, 4, .inr (.inr (.inr (.inr (rf4 d1a d1b d1c d1d)))))), (d1a, .inl (cI, 96, .inl xda)), (d1b, .inl (cI, 96, .inl xdb)), (d1c, .inl (cI, 96, .inl xdc)), (d1d, .inl (cI, 96, .inl xdd))]) [0, 1, 2, 3, 4, 5, 6] (by decide) rfl) hS (lv_sub hl [1, 2, 3, 4, 0] rfl)
        · have n_12 : (sn / 2 ^ h_ % 2) = 1 := (nI_eq (a := (sn / 2 ^ h_ % 2)) (b := 1) (by omega) (by omega)).mp c_10
          refine lv_iload_n hx hb dX1_gain_21 rfl (lv_at hl 3 rfl) ?_
          refine lv_aload_n hx hb dX1_gain_22 rfl (lv_at hl 0 rfl) ?_
          refine lv_iload_n hx hb dX1_gain_23 rfl (lv_at hl 1 rfl) ?_
          refine lv_iload hx hb dX1_gain_24 (lv_at hl 4 rfl) ?_
          refine lv_iload_n hx hb dX1_gain_26 rfl (lv_at hl 2 rfl) ?_
          refine contI (wc := [(ad, .inr (1, [.ref af, .ref d1, .ref d2, .ref d3, .ref d4, .int i5, .int i6, .int i7, .int i8, .int i9, .int i10, .int i11])), (af, .inr (2, [.ref ak, .ref av, .ref ar, .int (nI P), .int (nI (ntN O P)), .int (nI Y)])), (d1, .inl (cQ, 4, .inr (.inr (.inr (.inr (rf4 d1a d1b d1c d1d)))))), (d1a, .inl (cI, 96, .inl xda)), (d1b, .inl (cI, 96, .inl xdb)), (d1c, .inl (cI, 96, .inl xdc)), (d1d, .inl (cI, 96, .inl xdd))]) (wr := []) C0 hP hD hS [0, 1, 2, 3, 4, 5, 6] [] rfl rfl (by decide) (by decide) 0 0 (Nat.le_of_ble_eq_true rfl) (Nat.le_of_ble_eq_true rfl) (runV (k := 3) (As := [.int (nI pn), .int (nI h_), .int (nI sn)]) (rest := [.int g_]) C0 (c_worth l D cI cZ cQ cT _ ad af d1 d2 d3 d4 i5 i6 i7 i8 i9 i10 i11 ak av ar d1a d1b d1c d1d xda xdb xdc xdd P pn h_ sn Y F O E (by omega) hOB (by omega) (by omega) (by omega) hW) wc_X1_worth wl_X1_85 wi_X1_worth we_X1_worth wz_X1 ⟨by decide, by decide, by decide +kernel⟩ ⟨(Nat.le_of_ble_eq_true rfl), (Nat.le_of_ble_eq_true rfl)⟩ hP hD hS EF.ok hX [0, 1, 2, 3, 4, 5, 6] rfl (by decide) 0 rfl rfl rfl rfl hl.1 rfl (Nat.le_of_ble_eq_true rfl) dX1_gain_27 ⟨(Nat.le_of_ble_eq_true rfl), (Nat.le_of_ble_eq_true rfl)⟩) (fun r_15 u_13 H locs w_14 hP hD hS => ?_)
          have hP : va_P D CL [(ad, .inr (1, [.ref af, .ref d1, .ref d2, .ref d3, .ref d4, .int i5, .int i6, .int i7, .int i8, .int i9, .int i10, .int i11])), (af, .inr (2, [.ref ak, .ref av, .ref ar, .int (nI P), .int (nI (ntN O P)), .int (nI Y)])), (d1, .inl (cQ, 4, .inr (.inr (.inr (.inr (rf4 d1a d1b d1c d1d)))))), (d1a, .inl (cI, 96, .inl xda)), (d1b, .inl (cI, 96, .inl xdb)), (d1c, .inl (cI, 96, .inl xdc)), (d1d, .inl (cI, 96, .inl xdd))] H := hP
          have hD : va_D A [(ad, .inr (1, [.ref af, .ref d1, .ref d2, .ref d3, .ref d4, .int i5, .int i6, .int i7, .int i8, .int i9, .int i10, .int i11])), (af, .inr (2, [.ref ak, .ref av, .ref ar, .int (nI P), .int (nI (ntN O P)), .int (nI Y)])), (d1, .inl (cQ, 4, .inr (.inr (.inr (.inr (rf4 d1a d1b d1c d1d)))))), (d1a, .inl (cI, 96, .inl xda)), (d1b, .inl (cI, 96, .inl xdb)), (d1c, .inl (cI, 96, .inl xdc)), (d1d, .inl (cI, 96, .inl xdd))] := hD
          obtain rfl : r_15 = (wS E (F.1 pn) O pn sn h_) := w_14
          refine lv_iadd hx hb dX1_gain_30 ?_
          refine lv_istore_n (lv' := [(3, .int (g_ + (wS E (F.1 pn) O pn sn h_))), (0, .ref ad), (1, .int (nI pn)), (2, .int (nI sn)), (4, .int (nI h_))]) hx hb dX1_gain_31 rfl hl (by decide) rfl (fun ls hl => ?_)
          refine lv_iinc (v := (nI (h_ + 1))) (lv' := [(4, .int (nI (h_ + 1))), (3, .int (g_ + (wS E (F.1 pn) O pn sn h_))), (0, .ref ad), (1, .int (nI pn)), (2, .int (nI sn))]) hx hb dX1_gain_32 hl (k := 4) rfl (nI_succ _).symm (by decide) rfl (fun ls hl => ?_)
          refine lv_goto (tgt := 5) hx hb dX1_gain_35 (by decide) ?_
          exact ih_2 (h_ + 1) (g_ + (wS E (F.1 pn) O pn sn h_)) _ _ _ (by omega) (by omega) (by rw [gS_1 (show sO sn h_ = 1 from n_12), iG]) (hP.sub (ws' := [(ad, .inr (1, [.ref af, .ref d1, .ref d2, .ref d3, .ref d4, .int i5, .int i6, .int i7, .int i8, .int i9, .int i10, .int i11])), (af, .inr (2, [.ref ak, .ref av, .ref ar, .int (nI P), .int (nI (ntN O P)), .int (nI Y)])), (d1, .inl (cQ, 4, .inr (.inr (.inr (.inr (rf4 d1a d1b d1c d1d)))))), (d1a, .inl (cI, 96, .inl xda)), (d1b, .inl (cI, 96, .inl xdb)), (d1c, .inl (cI, 96, .inl xdc)), (d1d, .inl (cI, 96, .inl xdd))]) [0, 1, 2, 3, 4, 5, 6] rfl) (hD.sub (ws' := [(ad, .inr (1, [.ref af, .ref d1, .ref d2, .ref d3, .ref d4, .int i5, .int i6, .int i7, .int i8, .int i9, .int i10, .int i11])), (af, .inr (2, [.ref ak, .ref av, .ref ar, .int (nI P), .int (nI (ntN O P)), .int (nI Y)])), (d1, .inl (cQ, 4, .inr (.inr (.inr (.inr (rf4 d1a d1b d1c d1d)))))), (d1a, .inl (cI, 96, .inl xda)), (d1b, .inl (cI, 96, .inl xdb)), (d1c, .inl (cI, 96, .inl xdc)), (d1d, .inl (cI, 96, .inl xdd))]) [0, 1, 2, 3, 4, 5, 6] (by decide) rfl) hS (lv_sub hl [2, 3, 4, 1, 0] rfl)
  exact LOOP_1 ((3 - 0) + 1) 0 (0 : Int32) _ _ _ (Nat.lt_succ_self _) (by omega) rfl (hP.sub (ws' := [(ad, .inr (1, [.ref af, .ref d1, .ref d2, .ref d3, .ref d4, .int i5, .int i6, .int i7, .int i8, .int i9, .int i10, .int i11])), (af, .inr (2, [.ref ak, .ref av, .ref ar, .int (nI P), .int (nI (ntN O P)), .int (nI Y)])), (d1, .inl (cQ, 4, .inr (.inr (.inr (.inr (rf4 d1a d1b d1c d1d)))))), (d1a, .inl (cI, 96, .inl xda)), (d1b, .inl (cI, 96, .inl xdb)), (d1c, .inl (cI, 96, .inl xdc)), (d1d, .inl (cI, 96, .inl xdd))]) [0, 1, 2, 3, 4, 5, 6] rfl) (hD.sub (ws' := [(ad, .inr (1, [.ref af, .ref d1, .ref d2, .ref d3, .ref d4, .int i5, .int i6, .int i7, .int i8, .int i9, .int i10, .int i11])), (af, .inr (2, [.ref ak, .ref av, .ref ar, .int (nI P), .int (nI (ntN O P)), .int (nI Y)])), (d1, .inl (cQ, 4, .inr (.inr (.inr (.inr (rf4 d1a d1b d1c d1d)))))), (d1a, .inl (cI, 96, .inl xda)), (d1b, .inl (cI, 96, .inl xdb)), (d1c, .inl (cI, 96, .inl xdc)), (d1d, .inl (cI, 96, .inl xdd))]) [0, 1, 2, 3, 4, 5, 6] (by decide) rfl) hS (lv_sub hl [2, 3, 4, 1, 0] rfl)

set_option maxHeartbeats 4000000 in
set_option maxRecDepth 100000 in
theorem c_would (l : Launch) (D : va_G) (cI cZ cQ cT : ClassId) (sz : Nat) (ad : Nat) (af : Nat) (d1 : Nat) (d2 : Nat) (d3 : Nat) (d4 : Nat) (i5 : Int32) (i6 : Int32) (i7 : Int32) (i8 : Int32) (i9 : Int32) (i10 : Int32) (i11 : Int32) (ak : Nat) (av : Nat) (ar : Nat) (fk : Nat → Int32) (fv : Nat → Int32) (fr : Nat → Int32) (d1a : Nat) (d1b : Nat) (d1c : Nat) (d1d : Nat) (xda : Nat → Int32) (xdb : Nat → Int32) (xdc : Nat → Int32) (xdd : Nat → Int32) (P : Nat) (pn : Nat) (hn : Nat) (sn : Nat) (qn : Nat) (Y : Nat) (F : Fk) (O : Nat → Nat) (E : Ev) (hP4 : P ≤ 4) (hC : CF fk fv fr F) (hB : FB F) (hOB : ∀ j, j < 4 → O j < 2) (hpn : pn < P) (hhn : hn < 3) (hsn : sn < 512) (hqn : qn < 512) (hW : WR (s4 xda xdb xdc xdd pn) E pn (F.1 pn)) (hk1 : ¬ F.1 pn = 1) (hk6 : ¬ F.1 pn = 6) : MetI l yX1_would cX1_would 7 .boolean ({ frames := 1, cells := 0, slots := 0, locals := 26 } : Room) [.ref ad, .int (nI pn), .int (nI hn), .int (nI sn), .int (nI qn)] D (TYS cI cZ cQ cT) EF sz [(ad, .inr (1, [.ref af, .ref d1, .ref d2, .ref d3, .ref d4, .int i5, .int i6, .int i7, .int i8, .int i9, .int i10, .int i11])), (af, .inr (2, [.ref ak, .ref av, .ref ar, .int (nI P), .int (nI (ntN O P)), .int (nI Y)])), (ak, .inl (cI, 4, .inl fk)), (av, .inl (cI, 4, .inl fv)), (ar, .inl (cI, 4, .inl fr)), (d1, .inl (cQ, 4, .inr (.inr (.inr (.inr (rf4 d1a d1b d1c d1d)))))), (d1a, .inl (cI, 96, .inl xda)), (d1b, .inl (cI, 96, .inl xdb)), (d1c, .inl (cI, 96, .inl xdc)), (d1d, .inl (cI, 96, .inl xdd))] (S := Unit) (fun (r : Int32) (_ : Unit) => r = (nI (wd F O E pn sn qn hn))) (fun _ => [(ad, .inr (1, [.ref af, .ref d1, .ref d2, .ref d3, .ref d4, .int i5, .int i6, .int i7, .int i8, .int i9, .int i10, .int i11])), (af, .inr (2, [.ref ak, .ref av, .ref ar, .int (nI P), .int (nI (ntN O P)), .int (nI Y)])), (ak, .inl (cI, 4, .inl fk)), (av, .inl (cI, 4, .inl fv)), (ar, .inl (cI, 4, .inl fr)), (d1, .inl (cQ, 4, .inr (.inr (.inr (.inr (rf4 d1a d1b d1c d1d)))))), (d1a, .inl (cI, 96, .inl xda)), (d1b, .inl (cI, 96, .inl xdb)), (d1c, .inl (cI, 96, .inl xdc)), (d1d, .inl (cI, 96, .inl xdd))]) := by
  refine MetI.mk (lv := [(0, .ref ad), (1, .int (nI pn)), (2, .int (nI hn)), (3, .int (nI sn)), (4, .int (nI qn))]) (by decide +kernel) (Nat.le_of_ble_eq_true rfl) rfl ?_
  intro p e s m below meth c A ls C0 hP hD hS hX hl
  have C1 := C0
  obtain ⟨hx, hb, hr, hml, hown, hlocks, hname, hT, hN, hK, hA⟩ := C1
  have hd8 := d8_le hP4; have hd0 := d8_pos P
  refine lv_iload_n hx hb dX1_would_0 rfl (lv_at hl 3 rfl) ?_
  refine lv_iload_n hx hb dX1_would_1 rfl (lv_at hl 2 rfl) ?_
  refine contI (wc := []) (wr := [(ad, .inr (1, [.ref af, .ref d1, .ref d2, .ref d3, .ref d4, .int i5, .int i6, .int i7, .int i8, .int i9, .int i10, .int i11])), (af, .inr (2, [.ref ak, .ref av, .ref ar, .int (nI P), .int (nI (ntN O P)), .int (nI Y)])), (ak, .inl (cI, 4, .inl fk)), (av, .inl (cI, 4, .inl fv)), (ar, .inl (cI, 4, .inl fr)), (d1, .inl (cQ, 4, .inr (.inr (.inr (.inr (rf4 d1a d1b d1c d1d)))))), (d1a, .inl (cI, 96, .inl xda)), (d1b, .inl (cI, 96, .inl xdb)), (d1c, .inl (cI, 96, .inl xdc)), (d1d, .inl (cI, 96, .inl xdd))]) C0 hP hD hS [] [0, 1, 2, 3, 4, 5, 6, 7, 8, 9] rfl rfl (by decide) (by decide) 0 0 (Nat.le_of_ble_eq_true rfl) (Nat.le_of_ble_eq_true rfl) (runSN (k := 2) (As := [.int (nI sn), .int (nI hn)]) (rest := []) "DayKnown" 573 C0 (c_bit l D cI cZ cQ cT _ sn hn (by omega) (by omega)) wc_X5_bit kl_X1_82 wt_X5_bit wz_X5 ⟨by decide, by decide, by decide +kernel⟩ ⟨(Nat.le_of_ble_eq_true rfl), (Nat.le_of_ble_eq_true rfl)⟩ hP hD hS EF.ok hX [] rfl (by decide) rfl hl.1 rfl (Nat.le_of_ble_eq_true rfl) dX1_would_2 ⟨(Nat.le_of_ble_eq_true rfl), (Nat.le_of_ble_eq_true rfl)⟩) (fun r_3 u_1 H locs w_2 hP hD hS => ?_)
  have hP : va_P D CL [(ad, .inr (1, [.ref af, .ref d1, .ref d2, .ref d3, .ref d4, .int i5, .int i6, .int i7, .int i8, .int i9, .int i10, .int i11])), (af, .inr (2, [.ref ak, .ref av, .ref ar, .int (nI P), .int (nI (ntN O P)), .int (nI Y)])), (ak, .inl (cI, 4, .inl fk)), (av, .inl (cI, 4, .inl fv)), (ar, .inl (cI, 4, .inl fr)), (d1, .inl (cQ, 4, .inr (.inr (.inr (.inr (rf4 d1a d1b d1c d1d)))))), (d1a, .inl (cI, 96, .inl xda)), (d1b, .inl (cI, 96, .inl xdb)), (d1c, .inl (cI, 96, .inl xdc)), (d1d, .inl (cI, 96, .inl xdd))] H := hP
  have hD : va_D A [(ad, .inr (1, [.ref af, .ref d1, .ref d2, .ref d3, .ref d4, .int i5, .int i6, .int i7, .int i8, .int i9, .int i10, .int i11])), (af, .inr (2, [.ref ak, .ref av, .ref ar, .int (nI P), .int (nI (ntN O P)), .int (nI Y)])), (ak, .inl (cI, 4, .inl fk)), (av, .inl (cI, 4, .inl fv)), (ar, .inl (cI, 4, .inl fr)), (d1, .inl (cQ, 4, .inr (.inr (.inr (.inr (rf4 d1a d1b d1c d1d)))))), (d1a, .inl (cI, 96, .inl xda)), (d1b, .inl (cI, 96, .inl xdb)), (d1c, .inl (cI, 96, .inl xdc)), (d1d, .inl (cI, 96, .inl xdd))] := hD
  have hrs_4 : sn / 2 ^ hn % 2 < 2 := Nat.mod_lt _ (by decide)
  obtain rfl : r_3 = (nI (sn / 2 ^ hn % 2)) := w_2
  refine lv_iconst (v := 1) hx hb dX1_would_5 (by decide) ?_
  refine lv_icmp_ne (tgt := 13) hx hb dX1_would_6 (by decide) (fun c_5 => ?_) (fun c_5 => ?_)
  · have n_6 : ¬ (sn / 2 ^ hn % 2) = 1 := fun hx9_ => c_5 ((nI_eq (a := (sn / 2 ^ hn % 2)) (b := 1) (by omega) (by omega)).mpr hx9_)
    refine lv_iconst (v := 0) hx hb dX1_would_13 (by decide) ?_
    refine lv_istore (lv' := [(5, .int 0), (0, .ref ad), (1, .int (nI pn)), (2, .int (nI hn)), (3, .int (nI sn)), (4, .int (nI qn))]) hx hb dX1_would_14 hl (by decide) rfl (fun ls hl => ?_)
    refine lv_aload_n hx hb dX1_would_16 rfl (lv_at hl 1 rfl) ?_
    refine va_get (ci := 1) (v := .ref af) (C := RX1) (T := TX1) (N := 12) hx hb hT wu_X1 hown hK hP 0 rfl rfl 0 (by decide) (hT _ wf_X1_26) (fun _ h9 => h9) rfl dX1_would_17 ?_
    refine va_getN (ci := 2) (v := .ref av) (C := RX2) (T := TX2) (N := 6) hx hb hT wu_X2 hown hK hP 1 rfl rfl 1 (by decide) (va_Nw.use rfl (hN.get 139 kf_X1_100 rfl)) (fun _ h9 => h9) rfl dX1_would_20 ?_
    refine lv_iload_n hx hb dX1_would_23 rfl (lv_at hl 2 rfl) ?_
    refine va_iald hx hb hK hP 3 0 rfl rfl (vp_in_nI (n := pn) (by omega) (by decide)) dX1_would_24 ?_
    refine lv_ci (fv pn) (congrArg fv (nI_clamp (n := pn) (by omega))) ?_
    have hb_8 := hB.2.1 pn (by omega)
    refine lv_ci (nI (F.2.1 pn)) (hC.2.1.g0 (by omega)) ?_
    refine lv_istore (lv' := [(6, .int (nI (F.2.1 pn))), (5, .int 0), (0, .ref ad), (1, .int (nI pn)), (2, .int (nI hn)), (3, .int (nI sn)), (4, .int (nI qn))]) hx hb dX1_would_25 hl (by decide) rfl (fun ls hl => ?_)
    refine lv_aload_n hx hb dX1_would_27 rfl (lv_at hl 2 rfl) ?_
    refine va_get (ci := 1) (v := .ref af) (C := RX1) (T := TX1) (N := 12) hx hb hT wu_X1 hown hK hP 0 rfl rfl 0 (by decide) (hT _ wf_X1_26) (fun _ h9 => h9) rfl dX1_would_28 ?_
    refine va_getN (ci := 2) (v := .ref ak) (C := RX2) (T := TX2) (N := 6) hx hb hT wu_X2 hown hK hP 1 rfl rfl 0 (by decide) (va_Nw.use rfl (hN.get 134 kf_X1_57 rfl)) (fun _ h9 => h9) rfl dX1_would_31 ?_
    refine lv_iload_n hx hb dX1_would_34 rfl (lv_at hl 3 rfl) ?_
    refine va_iald hx hb hK hP 2 0 rfl rfl (vp_in_nI (n := pn) (by omega) (by decide)) dX1_would_35 ?_
    refine lv_ci (fk pn) (congrArg fk (nI_clamp (n := pn) (by omega))) ?_
    have hb_9 := hB.1 pn (by omega)
    refine lv_ci (nI (F.1 pn)) (hC.1.g0 (by omega)) ?_
    rcases (show (F.1 pn) = 0 ∨ (F.1 pn) = 1 ∨ (F.1 pn) = 2 ∨ (F.1 pn) = 3 ∨ (F.1 pn) = 4 ∨ (F.1 pn) = 5 ∨ (F.1 pn) = 6 by omega) with hk7_10 | hk7_10 | hk7_10 | hk7_10 | hk7_10 | hk7_10 | hk7_10
    · skip
      refine lv_ci 0 (by rw [hk7_10]; rfl) ?_
      refine lv_tableOut (tgt := 185) hx hb dX1_would_36 (by decide) (by decide) ?_
      refine lv_aload_n hx hb dX1_would_185 rfl (lv_at hl 2 rfl) ?_
      refine lv_iload_n hx hb dX1_would_186 rfl (lv_at hl 3 rfl) ?_
      refine lv_iload_n hx hb dX1_would_187 rfl (lv_at hl 4 rfl) ?_
      refine lv_iload_n hx hb dX1_would_188 rfl (lv_at hl 5 rfl) ?_
      refine contI (wc := [(ad, .inr (1, [.ref af, .ref d1, .ref d2, .ref d3, .ref d4, .int i5, .int i6, .int i7, .int i8, .int i9, .int i10, .int i11])), (af, .inr (2, [.ref ak, .ref av, .ref ar, .int (nI P), .int (nI (ntN O P)), .int (nI Y)])), (d1, .inl (cQ, 4, .inr (.inr (.inr (.inr (rf4 d1a d1b d1c d1d)))))), (d1a, .inl (cI, 96, .inl xda)), (d1b, .inl (cI, 96, .inl xdb)), (d1c, .inl (cI, 96, .inl xdc)), (d1d, .inl (cI, 96, .inl xdd))]) (wr := [(ak, .inl (cI, 4, .inl fk)), (av, .inl (cI, 4, .inl fv)), (ar, .inl (cI, 4, .inl fr))]) C0 hP hD hS [0, 1, 5, 6, 7, 8, 9] [2, 3, 4] rfl rfl (by decide) (by decide) 0 0 (Nat.le_of_ble_eq_true rfl) (Nat.le_of_ble_eq_true rfl) (runV (k := 3) (As := [.int (nI pn), .int (nI hn), .int (nI sn)]) (rest := []) C0 (c_worth l D cI cZ cQ cT _ ad af d1 d2 d3 d4 i5 i6 i7 i8 i9 i10 i11 ak av ar d1a d1b d1c d1d xda xdb xdc xdd P pn hn sn Y F O E (by omega) hOB (by omega) (by omega) (by omega) hW) wc_X1_worth wl_X1_85 wi_X1_worth we_X1_worth wz_X1 ⟨by decide, by decide, by decide +kernel⟩ ⟨(Nat.le_of_ble_eq_true rfl), (Nat.le_of_ble_eq_true rfl)⟩ hP hD hS EF.ok hX [0, 1, 5, 6, 7, 8, 9] rfl (by decide) 0 rfl rfl rfl rfl hl.1 rfl (Nat.le_of_ble_eq_true rfl) dX1_would_189 ⟨(Nat.le_of_ble_eq_true rfl), (Nat.le_of_ble_eq_true rfl)⟩) (fun r_13 u_11 H locs w_12 hP hD hS => ?_)
      have hP : va_P D CL [(ak, .inl (cI, 4, .inl fk)), (av, .inl (cI, 4, .inl fv)), (ar, .inl (cI, 4, .inl fr)), (ad, .inr (1, [.ref af, .ref d1, .ref d2, .ref d3, .ref d4, .int i5, .int i6, .int i7, .int i8, .int i9, .int i10, .int i11])), (af, .inr (2, [.ref ak, .ref av, .ref ar, .int (nI P), .int (nI (ntN O P)), .int (nI Y)])), (d1, .inl (cQ, 4, .inr (.inr (.inr (.inr (rf4 d1a d1b d1c d1d)))))), (d1a, .inl (cI, 96, .inl xda)), (d1b, .inl (cI, 96, .inl xdb)), (d1c, .inl (cI, 96, .inl xdc)), (d1d, .inl (cI, 96, .inl xdd))] H := hP
      have hD : va_D A [(ak, .inl (cI, 4, .inl fk)), (av, .inl (cI, 4, .inl fv)), (ar, .inl (cI, 4, .inl fr)), (ad, .inr (1, [.ref af, .ref d1, .ref d2, .ref d3, .ref d4, .int i5, .int i6, .int i7, .int i8, .int i9, .int i10, .int i11])), (af, .inr (2, [.ref ak, .ref av, .ref ar, .int (nI P), .int (nI (ntN O P)), .int (nI Y)])), (d1, .inl (cQ, 4, .inr (.inr (.inr (.inr (rf4 d1a d1b d1c d1d)))))), (d1a, .inl (cI, 96, .inl xda)), (d1b, .inl (cI, 96, .inl xdb)), (d1c, .inl (cI, 96, .inl xdc)), (d1d, .inl (cI, 96, .inl xdd))] := hD
      obtain rfl : r_13 = (wS E (F.1 pn) O pn sn hn) := w_12
      refine lv_if_le (tgt := 199) hx hb dX1_would_192 (by decide) (fun c_14 => ?_) (fun c_14 => ?_)
      · refine lv_iconst (v := 0) hx hb dX1_would_199 (by decide) ?_
        exact retI C0 rfl () ((congrArg nI (show (wd F O E pn sn qn hn) = 0 from (wd_k0 hk7_10).trans (if_neg (Int32.not_lt.mpr c_14)))).symm) (hP.sub (ws' := [(ad, .inr (1, [.ref af, .ref d1, .ref d2, .ref d3, .ref d4, .int i5, .int i6, .int i7, .int i8, .int i9, .int i10, .int i11])), (af, .inr (2, [.ref ak, .ref av, .ref ar, .int (nI P), .int (nI (ntN O P)), .int (nI Y)])), (ak, .inl (cI, 4, .inl fk)), (av, .inl (cI, 4, .inl fv)), (ar, .inl (cI, 4, .inl fr)), (d1, .inl (cQ, 4, .inr (.inr (.inr (.inr (rf4 d1a d1b d1c d1d)))))), (d1a, .inl (cI, 96, .inl xda)), (d1b, .inl (cI, 96, .inl xdb)), (d1c, .inl (cI, 96, .inl xdc)), (d1d, .inl (cI, 96, .inl xdd))]) [3, 4, 0, 1, 2, 5, 6, 7, 8, 9] rfl) (hD.sub (ws' := [(ad, .inr (1, [.ref af, .ref d1, .ref d2, .ref d3, .ref d4, .int i5, .int i6, .int i7, .int i8, .int i9, .int i10, .int i11])), (af, .inr (2, [.ref ak, .ref av, .ref ar, .int (nI P), .int (nI (ntN O P)), .int (nI Y)])), (ak, .inl (cI, 4, .inl fk)), (av, .inl (cI, 4, .inl fv)), (ar, .inl (cI, 4, .inl fr)), (d1, .inl (cQ, 4, .inr (.inr (.inr (.inr (rf4 d1a d1b d1c d1d)))))), (d1a, .inl (cI, 96, .inl xda)), (d1b, .inl (cI, 96, .inl xdb)), (d1c, .inl (cI, 96, .inl xdc)), (d1d, .inl (cI, 96, .inl xdd))]) [3, 4, 0, 1, 2, 5, 6, 7, 8, 9] (by decide) rfl) hS (Nat.le_of_ble_eq_true rfl) (Nat.le_of_ble_eq_true rfl) dX1_would_200
      · refine lv_iconst (v := 1) hx hb dX1_would_195 (by decide) ?_
        refine lv_goto (tgt := 200) hx hb dX1_would_196 (by decide) ?_
        exact retI C0 rfl () ((congrArg nI (show (wd F O E pn sn qn hn) = 1 from (wd_k0 hk7_10).trans (if_pos (Int32.not_le.mp c_14)))).symm) (hP.sub (ws' := [(ad, .inr (1, [.ref af, .ref d1, .ref d2, .ref d3, .ref d4, .int i5, .int i6, .int i7, .int i8, .int i9, .int i10, .int i11])), (af, .inr (2, [.ref ak, .ref av, .ref ar, .int (nI P), .int (nI (ntN O P)), .int (nI Y)])), (ak, .inl (cI, 4, .inl fk)), (av, .inl (cI, 4, .inl fv)), (ar, .inl (cI, 4, .inl fr)), (d1, .inl (cQ, 4, .inr (.inr (.inr (.inr (rf4 d1a d1b d1c d1d)))))), (d1a, .inl (cI, 96, .inl xda)), (d1b, .inl (cI, 96, .inl xdb)), (d1c, .inl (cI, 96, .inl xdc)), (d1d, .inl (cI, 96, .inl xdd))]) [3, 4, 0, 1, 2, 5, 6, 7, 8, 9] rfl) (hD.sub (ws' := [(ad, .inr (1, [.ref af, .ref d1, .ref d2, .ref d3, .ref d4, .int i5, .int i6, .int i7, .int i8, .int i9, .int i10, .int i11])), (af, .inr (2, [.ref ak, .ref av, .ref ar, .int (nI P), .int (nI (ntN O P)), .int (nI Y)])), (ak, .inl (cI, 4, .inl fk)), (av, .inl (cI, 4, .inl fv)), (ar, .inl (cI, 4, .inl fr)), (d1, .inl (cQ, 4, .inr (.inr (.inr (.inr (rf4 d1a d1b d1c d1d)))))), (d1a, .inl (cI, 96, .inl xda)), (d1b, .inl (cI, 96, .inl xdb)), (d1c, .inl (cI, 96, .inl xdc)), (d1d, .inl (cI, 96, .inl xdd))]) [3, 4, 0, 1, 2, 5, 6, 7, 8, 9] (by decide) rfl) hS (Nat.le_of_ble_eq_true rfl) (Nat.le_of_ble_eq_true rfl) dX1_would_200
    · exact absurd hk7_10 hk1
    · skip
      refine lv_ci 2 (by rw [hk7_10]; rfl) ?_
      refine lv_tableIn (off := 32) (tgt := 68) hx hb dX1_would_36 (by decide) (by decide) (by rfl) (by decide) ?_
      refine lv_iload hx hb dX1_would_68 (lv_at hl 1 rfl) ?_
      refine lv_if_eq (tgt := 90) hx hb dX1_would_70 (by decide) (fun _ => ?_) (fun c_0 => absurd (by decide) c_0)
      refine lv_iconst (v := 0) hx hb dX1_would_90 (by decide) ?_
      exact retI C0 rfl () ((congrArg nI (show (wd F O E pn sn qn hn) = 0 from (wd_k2 hk7_10).trans (if_neg (fun q_ => n_6 q_.1)))).symm) (hP.sub (ws' := [(ad, .inr (1, [.ref af, .ref d1, .ref d2, .ref d3, .ref d4, .int i5, .int i6, .int i7, .int i8, .int i9, .int i10, .int i11])), (af, .inr (2, [.ref ak, .ref av, .ref ar, .int (nI P), .int (nI (ntN O P)), .int (nI Y)])), (ak, .inl (cI, 4, .inl fk)), (av, .inl (cI, 4, .inl fv)), (ar, .inl (cI, 4, .inl fr)), (d1, .inl (cQ, 4, .inr (.inr (.inr (.inr (rf4 d1a d1b d1c d1d)))))), (d1a, .inl (cI, 96, .inl xda)), (d1b, .inl (cI, 96, .inl xdb)), (d1c, .inl (cI, 96, .inl xdc)), (d1d, .inl (cI, 96, .inl xdd))]) [0, 1, 2, 3, 4, 5, 6, 7, 8, 9] rfl) (hD.sub (ws' := [(ad, .inr (1, [.ref af, .ref d1, .ref d2, .ref d3, .ref d4, .int i5, .int i6, .int i7, .int i8, .int i9, .int i10, .int i11])), (af, .inr (2, [.ref ak, .ref av, .ref ar, .int (nI P), .int (nI (ntN O P)), .int (nI Y)])), (ak, .inl (cI, 4, .inl fk)), (av, .inl (cI, 4, .inl fv)), (ar, .inl (cI, 4, .inl fr)), (d1, .inl (cQ, 4, .inr (.inr (.inr (.inr (rf4 d1a d1b d1c d1d)))))), (d1a, .inl (cI, 96, .inl xda)), (d1b, .inl (cI, 96, .inl xdb)), (d1c, .inl (cI, 96, .inl xdc)), (d1d, .inl (cI, 96, .inl xdd))]) [0, 1, 2, 3, 4, 5, 6, 7, 8, 9] (by decide) rfl) hS (Nat.le_of_ble_eq_true rfl) (Nat.le_of_ble_eq_true rfl) dX1_would_91
    · skip
      refine lv_ci 3 (by rw [hk7_10]; rfl) ?_
      refine lv_tableIn (off := 56) (tgt := 92) hx hb dX1_would_36 (by decide) (by decide) (by rfl) (by decide) ?_
      refine lv_aload_n hx hb dX1_would_92 rfl (lv_at hl 2 rfl) ?_
      refine lv_iload_n hx hb dX1_would_93 rfl (lv_at hl 3 rfl) ?_
      refine lv_iload_n hx hb dX1_would_94 rfl (lv_at hl 4 rfl) ?_
      refine lv_iload hx hb dX1_would_95 (lv_at hl 6 rfl) ?_
      refine contI (wc := [(ad, .inr (1, [.ref af, .ref d1, .ref d2, .ref d3, .ref d4, .int i5, .int i6, .int i7, .int i8, .int i9, .int i10, .int i11])), (af, .inr (2, [.ref ak, .ref av, .ref ar, .int (nI P), .int (nI (ntN O P)), .int (nI Y)])), (d1, .inl (cQ, 4, .inr (.inr (.inr (.inr (rf4 d1a d1b d1c d1d)))))), (d1a, .inl (cI, 96, .inl xda)), (d1b, .inl (cI, 96, .inl xdb)), (d1c, .inl (cI, 96, .inl xdc)), (d1d, .inl (cI, 96, .inl xdd))]) (wr := [(ak, .inl (cI, 4, .inl fk)), (av, .inl (cI, 4, .inl fv)), (ar, .inl (cI, 4, .inl fr))]) C0 hP hD hS [0, 1, 5, 6, 7, 8, 9] [2, 3, 4] rfl rfl (by decide) (by decide) 0 0 (Nat.le_of_ble_eq_true rfl) (Nat.le_of_ble_eq_true rfl) (runV (k := 3) (As := [.int (nI pn), .int (nI hn), .int (nI qn)]) (rest := []) C0 (c_worth l D cI cZ cQ cT _ ad af d1 d2 d3 d4 i5 i6 i7 i8 i9 i10 i11 ak av ar d1a d1b d1c d1d xda xdb xdc xdd P pn hn qn Y F O E (by omega) hOB (by omega) (by omega) (by omega) hW) wc_X1_worth wl_X1_85 wi_X1_worth we_X1_worth wz_X1 ⟨by decide, by decide, by decide +kernel⟩ ⟨(Nat.le_of_ble_eq_true rfl), (Nat.le_of_ble_eq_true rfl)⟩ hP hD hS EF.ok hX [0, 1, 5, 6, 7, 8, 9] rfl (by decide) 0 rfl rfl rfl rfl hl.1 rfl (Nat.le_of_ble_eq_true rfl) dX1_would_97 ⟨(Nat.le_of_ble_eq_true rfl), (Nat.le_of_ble_eq_true rfl)⟩) (fun r_17 u_15 H locs w_16 hP hD hS => ?_)
      have hP : va_P D CL [(ak, .inl (cI, 4, .inl fk)), (av, .inl (cI, 4, .inl fv)), (ar, .inl (cI, 4, .inl fr)), (ad, .inr (1, [.ref af, .ref d1, .ref d2, .ref d3, .ref d4, .int i5, .int i6, .int i7, .int i8, .int i9, .int i10, .int i11])), (af, .inr (2, [.ref ak, .ref av, .ref ar, .int (nI P), .int (nI (ntN O P)), .int (nI Y)])), (d1, .inl (cQ, 4, .inr (.inr (.inr (.inr (rf4 d1a d1b d1c d1d)))))), (d1a, .inl (cI, 96, .inl xda)), (d1b, .inl (cI, 96, .inl xdb)), (d1c, .inl (cI, 96, .inl xdc)), (d1d, .inl (cI, 96, .inl xdd))] H := hP
      have hD : va_D A [(ak, .inl (cI, 4, .inl fk)), (av, .inl (cI, 4, .inl fv)), (ar, .inl (cI, 4, .inl fr)), (ad, .inr (1, [.ref af, .ref d1, .ref d2, .ref d3, .ref d4, .int i5, .int i6, .int i7, .int i8, .int i9, .int i10, .int i11])), (af, .inr (2, [.ref ak, .ref av, .ref ar, .int (nI P), .int (nI (ntN O P)), .int (nI Y)])), (d1, .inl (cQ, 4, .inr (.inr (.inr (.inr (rf4 d1a d1b d1c d1d)))))), (d1a, .inl (cI, 96, .inl xda)), (d1b, .inl (cI, 96, .inl xdb)), (d1c, .inl (cI, 96, .inl xdc)), (d1d, .inl (cI, 96, .inl xdd))] := hD
      obtain rfl : r_17 = (wS E (F.1 pn) O pn qn hn) := w_16
      refine lv_if_le (tgt := 107) hx hb dX1_would_100 (by decide) (fun c_18 => ?_) (fun c_18 => ?_)
      · refine lv_iconst (v := 0) hx hb dX1_would_107 (by decide) ?_
        exact retI C0 rfl () ((congrArg nI (show (wd F O E pn sn qn hn) = 0 from (wd_k3 hk7_10).trans (if_neg (Int32.not_lt.mpr c_18)))).symm) (hP.sub (ws' := [(ad, .inr (1, [.ref af, .ref d1, .ref d2, .ref d3, .ref d4, .int i5, .int i6, .int i7, .int i8, .int i9, .int i10, .int i11])), (af, .inr (2, [.ref ak, .ref av, .ref ar, .int (nI P), .int (nI (ntN O P)), .int (nI Y)])), (ak, .inl (cI, 4, .inl fk)), (av, .inl (cI, 4, .inl fv)), (ar, .inl (cI, 4, .inl fr)), (d1, .inl (cQ, 4, .inr (.inr (.inr (.inr (rf4 d1a d1b d1c d1d)))))), (d1a, .inl (cI, 96, .inl xda)), (d1b, .inl (cI, 96, .inl xdb)), (d1c, .inl (cI, 96, .inl xdc)), (d1d, .inl (cI, 96, .inl xdd))]) [3, 4, 0, 1, 2, 5, 6, 7, 8, 9] rfl) (hD.sub (ws' := [(ad, .inr (1, [.ref af, .ref d1, .ref d2, .ref d3, .ref d4, .int i5, .int i6, .int i7, .int i8, .int i9, .int i10, .int i11])), (af, .inr (2, [.ref ak, .ref av, .ref ar, .int (nI P), .int (nI (ntN O P)), .int (nI Y)])), (ak, .inl (cI, 4, .inl fk)), (av, .inl (cI, 4, .inl fv)), (ar, .inl (cI, 4, .inl fr)), (d1, .inl (cQ, 4, .inr (.inr (.inr (.inr (rf4 d1a d1b d1c d1d)))))), (d1a, .inl (cI, 96, .inl xda)), (d1b, .inl (cI, 96, .inl xdb)), (d1c, .inl (cI, 96, .inl xdc)), (d1d, .inl (cI, 96, .inl xdd))]) [3, 4, 0, 1, 2, 5, 6, 7, 8, 9] (by decide) rfl) hS (Nat.le_of_ble_eq_true rfl) (Nat.le_of_ble_eq_true rfl) dX1_would_108
      · refine lv_iconst (v := 1) hx hb dX1_would_103 (by decide) ?_
        refine lv_goto (tgt := 108) hx hb dX1_would_104 (by decide) ?_
        exact retI C0 rfl () ((congrArg nI (show (wd F O E pn sn qn hn) = 1 from (wd_k3 hk7_10).trans (if_pos (Int32.not_le.mp c_18)))).symm) (hP.sub (ws' := [(ad, .inr (1, [.ref af, .ref d1, .ref d2, .ref d3, .ref d4, .int i5, .int i6, .int i7, .int i8, .int i9, .int i10, .int i11])), (af, .inr (2, [.ref ak, .ref av, .ref ar, .int (nI P), .int (nI (ntN O P)), .int (nI Y)])), (ak, .inl (cI, 4, .inl fk)), (av, .inl (cI, 4, .inl fv)), (ar, .inl (cI, 4, .inl fr)), (d1, .inl (cQ, 4, .inr (.inr (.inr (.inr (rf4 d1a d1b d1c d1d)))))), (d1a, .inl (cI, 96, .inl xda)), (d1b, .inl (cI, 96, .inl xdb)), (d1c, .inl (cI, 96, .inl xdc)), (d1d, .inl (cI, 96, .inl xdd))]) [3, 4, 0, 1, 2, 5, 6, 7, 8, 9] rfl) (hD.sub (ws' := [(ad, .inr (1, [.ref af, .ref d1, .ref d2, .ref d3, .ref d4, .int i5, .int i6, .int i7, .int i8, .int i9, .int i10, .int i11])), (af, .inr (2, [.ref ak, .ref av, .ref ar, .int (nI P), .int (nI (ntN O P)), .int (nI Y)])), (ak, .inl (cI, 4, .inl fk)), (av, .inl (cI, 4, .inl fv)), (ar, .inl (cI, 4, .inl fr)), (d1, .inl (cQ, 4, .inr (.inr (.inr (.inr (rf4 d1a d1b d1c d1d)))))), (d1a, .inl (cI, 96, .inl xda)), (d1b, .inl (cI, 96, .inl xdb)), (d1c, .inl (cI, 96, .inl xdc)), (d1d, .inl (cI, 96, .inl xdd))]) [3, 4, 0, 1, 2, 5, 6, 7, 8, 9] (by decide) rfl) hS (Nat.le_of_ble_eq_true rfl) (Nat.le_of_ble_eq_true rfl) dX1_would_108
    · skip
      refine lv_ci 4 (by rw [hk7_10]; rfl) ?_
      refine lv_tableIn (off := 73) (tgt := 109) hx hb dX1_would_36 (by decide) (by decide) (by rfl) (by decide) ?_
      refine lv_iload_n hx hb dX1_would_109 rfl (lv_at hl 5 rfl) ?_
      refine lv_iconst (v := 3) hx hb dX1_would_110 (by decide) ?_
      refine lv_iconst (v := 2) hx hb dX1_would_111 (by decide) ?_
      refine lv_iload_n hx hb dX1_would_112 rfl (lv_at hl 4 rfl) ?_
      refine lv_imul hx hb dX1_would_113 ?_
      refine lv_ci (nI (2 * hn)) (pk_mul 2 hn) ?_
      refine lv_iadd hx hb dX1_would_114 ?_
      refine lv_ci (nI (3 + (2 * hn))) (nI_add 3 (2 * hn)) ?_
      refine lv_ishr hx hb dX1_would_115 ?_
      refine lv_ci (nI (sn / 2 ^ (3 + (2 * hn)))) (shrN (a := sn) (k := (3 + (2 * hn))) (by omega) (by omega)) ?_
      have hq_19 : (sn / 2 ^ (3 + (2 * hn))) ≤ sn := Nat.div_le_self _ _
      refine lv_iconst (v := 3) hx hb dX1_would_116 (by decide) ?_
      refine lv_iand hx hb dX1_would_117 ?_
      refine lv_ci (nI ((sn / 2 ^ (3 + (2 * hn))) % 4)) (pk_andN (n := (sn / 2 ^ (3 + (2 * hn)))) (by omega) 2 (by decide +kernel)) ?_
      refine lv_iload hx hb dX1_would_118 (lv_at hl 0 rfl) ?_
      refine lv_icmp_ge (tgt := 141) hx hb dX1_would_120 (by decide) (fun c_20 => ?_) (fun c_20 => ?_)
      · have n_21 : (F.2.1 pn) ≤ ((sn / 2 ^ (3 + (2 * hn))) % 4) := (nI_leI (a := (F.2.1 pn)) (b := ((sn / 2 ^ (3 + (2 * hn))) % 4)) (by omega) (by omega)).mp c_20
        refine lv_iconst (v := 1) hx hb dX1_would_141 (by decide) ?_
        refine lv_goto (tgt := 146) hx hb dX1_would_142 (by decide) ?_
        exact retI C0 rfl () ((congrArg nI (show (wd F O E pn sn qn hn) = 1 from (wd_k4 hk7_10).trans (if_pos (Or.inl n_21)))).symm) (hP.sub (ws' := [(ad, .inr (1, [.ref af, .ref d1, .ref d2, .ref d3, .ref d4, .int i5, .int i6, .int i7, .int i8, .int i9, .int i10, .int i11])), (af, .inr (2, [.ref ak, .ref av, .ref ar, .int (nI P), .int (nI (ntN O P)), .int (nI Y)])), (ak, .inl (cI, 4, .inl fk)), (av, .inl (cI, 4, .inl fv)), (ar, .inl (cI, 4, .inl fr)), (d1, .inl (cQ, 4, .inr (.inr (.inr (.inr (rf4 d1a d1b d1c d1d)))))), (d1a, .inl (cI, 96, .inl xda)), (d1b, .inl (cI, 96, .inl xdb)), (d1c, .inl (cI, 96, .inl xdc)), (d1d, .inl (cI, 96, .inl xdd))]) [0, 1, 2, 3, 4, 5, 6, 7, 8, 9] rfl) (hD.sub (ws' := [(ad, .inr (1, [.ref af, .ref d1, .ref d2, .ref d3, .ref d4, .int i5, .int i6, .int i7, .int i8, .int i9, .int i10, .int i11])), (af, .inr (2, [.ref ak, .ref av, .ref ar, .int (nI P), .int (nI (ntN O P)), .int (nI Y)])), (ak, .inl (cI, 4, .inl fk)), (av, .inl (cI, 4, .inl fv)), (ar, .inl (cI, 4, .inl fr)), (d1, .inl (cQ, 4, .inr (.inr (.inr (.inr (rf4 d1a d1b d1c d1d)))))), (d1a, .inl (cI, 96, .inl xda)), (d1b, .inl (cI, 96, .inl xdb)), (d1c, .inl (cI, 96, .inl xdc)), (d1d, .inl (cI, 96, .inl xdd))]) [0, 1, 2, 3, 4, 5, 6, 7, 8, 9] (by decide) rfl) hS (Nat.le_of_ble_eq_true rfl) (Nat.le_of_ble_eq_true rfl) dX1_would_146
      · have n_22 : ¬ (F.2.1 pn) ≤ ((sn / 2 ^ (3 + (2 * hn))) % 4) := fun hx9_ => c_20 ((nI_leI (a := (F.2.1 pn)) (b := ((sn / 2 ^ (3 + (2 * hn))) % 4)) (by omega) (by omega)).mpr hx9_)
        refine lv_iload hx hb dX1_would_123 (lv_at hl 1 rfl) ?_
        refine lv_if_eq (tgt := 145) hx hb dX1_would_125 (by decide) (fun _ => ?_) (fun c_0 => absurd (by decide) c_0)
        refine lv_iconst (v := 0) hx hb dX1_would_145 (by decide) ?_
        exact retI C0 rfl () ((congrArg nI (show (wd F O E pn sn qn hn) = 0 from (wd_k4 hk7_10).trans (if_neg (fun q_ => q_.elim n_22 (fun a_ => n_6 a_.1))))).symm) (hP.sub (ws' := [(ad, .inr (1, [.ref af, .ref d1, .ref d2, .ref d3, .ref d4, .int i5, .int i6, .int i7, .int i8, .int i9, .int i10, .int i11])), (af, .inr (2, [.ref ak, .ref av, .ref ar, .int (nI P), .int (nI (ntN O P)), .int (nI Y)])), (ak, .inl (cI, 4, .inl fk)), (av, .inl (cI, 4, .inl fv)), (ar, .inl (cI, 4, .inl fr)), (d1, .inl (cQ, 4, .inr (.inr (.inr (.inr (rf4 d1a d1b d1c d1d)))))), (d1a, .inl (cI, 96, .inl xda)), (d1b, .inl (cI, 96, .inl xdb)), (d1c, .inl (cI, 96, .inl xdc)), (d1d, .inl (cI, 96, .inl xdd))]) [0, 1, 2, 3, 4, 5, 6, 7, 8, 9] rfl) (hD.sub (ws' := [(ad, .inr (1, [.ref af, .ref d1, .ref d2, .ref d3, .ref d4, .int i5, .int i6, .int i7, .int i8, .int i9, .int i10, .int i11])), (af, .inr (2, [.ref ak, .ref av, .ref ar, .int (nI P), .int (nI (ntN O P)), .int (nI Y)])), (ak, .inl (cI, 4, .inl fk)), (av, .inl (cI, 4, .inl fv)), (ar, .inl (cI, 4, .inl fr)), (d1, .inl (cQ, 4, .inr (.inr (.inr (.inr (rf4 d1a d1b d1c d1d)))))), (d1a, .inl (cI, 96, .inl xda)), (d1b, .inl (cI, 96, .inl xdb)), (d1c, .inl (cI, 96, .inl xdc)), (d1d, .inl (cI, 96, .inl xdd))]) [0, 1, 2, 3, 4, 5, 6, 7, 8, 9] (by decide) rfl) hS (Nat.le_of_ble_eq_true rfl) (Nat.le_of_ble_eq_true rfl) dX1_would_146
    · skip
      refine lv_ci 5 (by rw [hk7_10]; rfl) ?_
      refine lv_tableIn (off := 111) (tgt := 147) hx hb dX1_would_36 (by decide) (by decide) (by rfl) (by decide) ?_
      refine lv_iload_n hx hb dX1_would_147 rfl (lv_at hl 4 rfl) ?_
      refine lv_iload hx hb dX1_would_148 (lv_at hl 0 rfl) ?_
      refine lv_iconst (v := 3) hx hb dX1_would_150 (by decide) ?_
      refine lv_irem hx hb dX1_would_151 (by decide) ?_
      refine lv_ci (nI ((F.2.1 pn) % 3)) (pk_rem (a := (F.2.1 pn)) (d := 3) (by omega) (by decide) (by decide)) ?_
      refine lv_icmp_ne (tgt := 168) hx hb dX1_would_152 (by decide) (fun c_23 => ?_) (fun c_23 => ?_)
      · have n_24 : ¬ hn = ((F.2.1 pn) % 3) := fun hx9_ => c_23 ((nI_eq (a := hn) (b := ((F.2.1 pn) % 3)) (by omega) (by omega)).mpr hx9_)
        refine lv_aload_n hx hb dX1_would_168 rfl (lv_at hl 2 rfl) ?_
        refine lv_iload_n hx hb dX1_would_169 rfl (lv_at hl 3 rfl) ?_
        refine lv_iload_n hx hb dX1_would_170 rfl (lv_at hl 4 rfl) ?_
        refine lv_iload hx hb dX1_would_171 (lv_at hl 6 rfl) ?_
        refine contI (wc := [(ad, .inr (1, [.ref af, .ref d1, .ref d2, .ref d3, .ref d4, .int i5, .int i6, .int i7, .int i8, .int i9, .int i10, .int i11])), (af, .inr (2, [.ref ak, .ref av, .ref ar, .int (nI P), .int (nI (ntN O P)), .int (nI Y)])), (d1, .inl (cQ, 4, .inr (.inr (.inr (.inr (rf4 d1a d1b d1c d1d)))))), (d1a, .inl (cI, 96, .inl xda)), (d1b, .inl (cI, 96, .inl xdb)), (d1c, .inl (cI, 96, .inl xdc)), (d1d, .inl (cI, 96, .inl xdd))]) (wr := [(ak, .inl (cI, 4, .inl fk)), (av, .inl (cI, 4, .inl fv)), (ar, .inl (cI, 4, .inl fr))]) C0 hP hD hS [0, 1, 5, 6, 7, 8, 9] [2, 3, 4] rfl rfl (by decide) (by decide) 0 0 (Nat.le_of_ble_eq_true rfl) (Nat.le_of_ble_eq_true rfl) (runV (k := 3) (As := [.int (nI pn), .int (nI hn), .int (nI qn)]) (rest := []) C0 (c_worth l D cI cZ cQ cT _ ad af d1 d2 d3 d4 i5 i6 i7 i8 i9 i10 i11 ak av ar d1a d1b d1c d1d xda xdb xdc xdd P pn hn qn Y F O E (by omega) hOB (by omega) (by omega) (by omega) hW) wc_X1_worth wl_X1_85 wi_X1_worth we_X1_worth wz_X1 ⟨by decide, by decide, by decide +kernel⟩ ⟨(Nat.le_of_ble_eq_true rfl), (Nat.le_of_ble_eq_true rfl)⟩ hP hD hS EF.ok hX [0, 1, 5, 6, 7, 8, 9] rfl (by decide) 0 rfl rfl rfl rfl hl.1 rfl (Nat.le_of_ble_eq_true rfl) dX1_would_173 ⟨(Nat.le_of_ble_eq_true rfl), (Nat.le_of_ble_eq_true rfl)⟩) (fun r_28 u_26 H locs w_27 hP hD hS => ?_)
        have hP : va_P D CL [(ak, .inl (cI, 4, .inl fk)), (av, .inl (cI, 4, .inl fv)), (ar, .inl (cI, 4, .inl fr)), (ad, .inr (1, [.ref af, .ref d1, .ref d2, .ref d3, .ref d4, .int i5, .int i6, .int i7, .int i8, .int i9, .int i10, .int i11])), (af, .inr (2, [.ref ak, .ref av, .ref ar, .int (nI P), .int (nI (ntN O P)), .int (nI Y)])), (d1, .inl (cQ, 4, .inr (.inr (.inr (.inr (rf4 d1a d1b d1c d1d)))))), (d1a, .inl (cI, 96, .inl xda)), (d1b, .inl (cI, 96, .inl xdb)), (d1c, .inl (cI, 96, .inl xdc)), (d1d, .inl (cI, 96, .inl xdd))] H := hP
        have hD : va_D A [(ak, .inl (cI, 4, .inl fk)), (av, .inl (cI, 4, .inl fv)), (ar, .inl (cI, 4, .inl fr)), (ad, .inr (1, [.ref af, .ref d1, .ref d2, .ref d3, .ref d4, .int i5, .int i6, .int i7, .int i8, .int i9, .int i10, .int i11])), (af, .inr (2, [.ref ak, .ref av, .ref ar, .int (nI P), .int (nI (ntN O P)), .int (nI Y)])), (d1, .inl (cQ, 4, .inr (.inr (.inr (.inr (rf4 d1a d1b d1c d1d)))))), (d1a, .inl (cI, 96, .inl xda)), (d1b, .inl (cI, 96, .inl xdb)), (d1c, .inl (cI, 96, .inl xdc)), (d1d, .inl (cI, 96, .inl xdd))] := hD
        obtain rfl : r_28 = (wS E (F.1 pn) O pn qn hn) := w_27
        refine lv_if_le (tgt := 183) hx hb dX1_would_176 (by decide) (fun c_29 => ?_) (fun c_29 => ?_)
        · refine lv_iconst (v := 0) hx hb dX1_would_183 (by decide) ?_
          exact retI C0 rfl () ((congrArg nI (show (wd F O E pn sn qn hn) = 0 from (wd_k5 hk7_10).trans ((if_neg n_24).trans (if_neg (Int32.not_lt.mpr c_29))))).symm) (hP.sub (ws' := [(ad, .inr (1, [.ref af, .ref d1, .ref d2, .ref d3, .ref d4, .int i5, .int i6, .int i7, .int i8, .int i9, .int i10, .int i11])), (af, .inr (2, [.ref ak, .ref av, .ref ar, .int (nI P), .int (nI (ntN O P)), .int (nI Y)])), (ak, .inl (cI, 4, .inl fk)), (av, .inl (cI, 4, .inl fv)), (ar, .inl (cI, 4, .inl fr)), (d1, .inl (cQ, 4, .inr (.inr (.inr (.inr (rf4 d1a d1b d1c d1d)))))), (d1a, .inl (cI, 96, .inl xda)), (d1b, .inl (cI, 96, .inl xdb)), (d1c, .inl (cI, 96, .inl xdc)), (d1d, .inl (cI, 96, .inl xdd))]) [3, 4, 0, 1, 2, 5, 6, 7, 8, 9] rfl) (hD.sub (ws' := [(ad, .inr (1, [.ref af, .ref d1, .ref d2, .ref d3, .ref d4, .int i5, .int i6, .int i7, .int i8, .int i9, .int i10, .int i11])), (af, .inr (2, [.ref ak, .ref av, .ref ar, .int (nI P), .int (nI (ntN O P)), .int (nI Y)])), (ak, .inl (cI, 4, .inl fk)), (av, .inl (cI, 4, .inl fv)), (ar, .inl (cI, 4, .inl fr)), (d1, .inl (cQ, 4, .inr (.inr (.inr (.inr (rf4 d1a d1b d1c d1d)))))), (d1a, .inl (cI, 96, .inl xda)), (d1b, .inl (cI, 96, .inl xdb)), (d1c, .inl (cI, 96, .inl xdc)), (d1d, .inl (cI, 96, .inl xdd))]) [3, 4, 0, 1, 2, 5, 6, 7, 8, 9] (by decide) rfl) hS (Nat.le_of_ble_eq_true rfl) (Nat.le_of_ble_eq_true rfl) dX1_would_184
        · refine lv_iconst (v := 1) hx hb dX1_would_179 (by decide) ?_
          refine lv_goto (tgt := 184) hx hb dX1_would_180 (by decide) ?_
          exact retI C0 rfl () ((congrArg nI (show (wd F O E pn sn qn hn) = 1 from (wd_k5 hk7_10).trans ((if_neg n_24).trans (if_pos (Int32.not_le.mp c_29))))).symm) (hP.sub (ws' := [(ad, .inr (1, [.ref af, .ref d1, .ref d2, .ref d3, .ref d4, .int i5, .int i6, .int i7, .int i8, .int i9, .int i10, .int i11])), (af, .inr (2, [.ref ak, .ref av, .ref ar, .int (nI P), .int (nI (ntN O P)), .int (nI Y)])), (ak, .inl (cI, 4, .inl fk)), (av, .inl (cI, 4, .inl fv)), (ar, .inl (cI, 4, .inl fr)), (d1, .inl (cQ, 4, .inr (.inr (.inr (.inr (rf4 d1a d1b d1c d1d)))))), (d1a, .inl (cI, 96, .inl xda)), (d1b, .inl (cI, 96, .inl xdb)), (d1c, .inl (cI, 96, .inl xdc)), (d1d, .inl (cI, 96, .inl xdd))]) [3, 4, 0, 1, 2, 5, 6, 7, 8, 9] rfl) (hD.sub (ws' := [(ad, .inr (1, [.ref af, .ref d1, .ref d2, .ref d3, .ref d4, .int i5, .int i6, .int i7, .int i8, .int i9, .int i10, .int i11])), (af, .inr (2, [.ref ak, .ref av, .ref ar, .int (nI P), .int (nI (ntN O P)), .int (nI Y)])), (ak, .inl (cI, 4, .inl fk)), (av, .inl (cI, 4, .inl fv)), (ar, .inl (cI, 4, .inl fr)), (d1, .inl (cQ, 4, .inr (.inr (.inr (.inr (rf4 d1a d1b d1c d1d)))))), (d1a, .inl (cI, 96, .inl xda)), (d1b, .inl (cI, 96, .inl xdb)), (d1c, .inl (cI, 96, .inl xdc)), (d1d, .inl (cI, 96, .inl xdd))]) [3, 4, 0, 1, 2, 5, 6, 7, 8, 9] (by decide) rfl) hS (Nat.le_of_ble_eq_true rfl) (Nat.le_of_ble_eq_true rfl) dX1_would_184
      · have n_25 : hn = ((F.2.1 pn) % 3) := (nI_eq (a := hn) (b := ((F.2.1 pn) % 3)) (by omega) (by omega)).mp c_23
        refine lv_iload hx hb dX1_would_155 (lv_at hl 1 rfl) ?_
        refine lv_if_ne (tgt := 164) hx hb dX1_would_157 (by decide) (fun c_0 => absurd (by decide) c_0) (fun _ => ?_)
        refine lv_iconst (v := 1) hx hb dX1_would_160 (by decide) ?_
        refine lv_goto (tgt := 184) hx hb dX1_would_161 (by decide) ?_
        exact retI C0 rfl () ((congrArg nI (show (wd F O E pn sn qn hn) = 1 from (wd_k5 hk7_10).trans ((if_pos n_25).trans (by have h9_ := sO_lt sn hn; have h8_ : ¬ sO sn hn = 1 := n_6; omega)))).symm) (hP.sub (ws' := [(ad, .inr (1, [.ref af, .ref d1, .ref d2, .ref d3, .ref d4, .int i5, .int i6, .int i7, .int i8, .int i9, .int i10, .int i11])), (af, .inr (2, [.ref ak, .ref av, .ref ar, .int (nI P), .int (nI (ntN O P)), .int (nI Y)])), (ak, .inl (cI, 4, .inl fk)), (av, .inl (cI, 4, .inl fv)), (ar, .inl (cI, 4, .inl fr)), (d1, .inl (cQ, 4, .inr (.inr (.inr (.inr (rf4 d1a d1b d1c d1d)))))), (d1a, .inl (cI, 96, .inl xda)), (d1b, .inl (cI, 96, .inl xdb)), (d1c, .inl (cI, 96, .inl xdc)), (d1d, .inl (cI, 96, .inl xdd))]) [0, 1, 2, 3, 4, 5, 6, 7, 8, 9] rfl) (hD.sub (ws' := [(ad, .inr (1, [.ref af, .ref d1, .ref d2, .ref d3, .ref d4, .int i5, .int i6, .int i7, .int i8, .int i9, .int i10, .int i11])), (af, .inr (2, [.ref ak, .ref av, .ref ar, .int (nI P), .int (nI (ntN O P)), .int (nI Y)])), (ak, .inl (cI, 4, .inl fk)), (av, .inl (cI, 4, .inl fv)), (ar, .inl (cI, 4, .inl fr)), (d1, .inl (cQ, 4, .inr (.inr (.inr (.inr (rf4 d1a d1b d1c d1d)))))), (d1a, .inl (cI, 96, .inl xda)), (d1b, .inl (cI, 96, .inl xdb)), (d1c, .inl (cI, 96, .inl xdc)), (d1d, .inl (cI, 96, .inl xdd))]) [0, 1, 2, 3, 4, 5, 6, 7, 8, 9] (by decide) rfl) hS (Nat.le_of_ble_eq_true rfl) (Nat.le_of_ble_eq_true rfl) dX1_would_184
    · exact absurd hk7_10 hk6
  · have n_7 : (sn / 2 ^ hn % 2) = 1 := (nI_eq (a := (sn / 2 ^ hn % 2)) (b := 1) (by omega) (by omega)).mp c_5
    refine lv_iconst (v := 1) hx hb dX1_would_9 (by decide) ?_
    refine lv_goto (tgt := 14) hx hb dX1_would_10 (by decide) ?_
    refine lv_istore (lv' := [(5, .int 1), (0, .ref ad), (1, .int (nI pn)), (2, .int (nI hn)), (3, .int (nI sn)), (4, .int (nI qn))]) hx hb dX1_would_14 hl (by decide) rfl (fun ls hl => ?_)
    refine lv_aload_n hx hb dX1_would_16 rfl (lv_at hl 1 rfl) ?_
    refine va_get (ci := 1) (v := .ref af) (C := RX1) (T := TX1) (N := 12) hx hb hT wu_X1 hown hK hP 0 rfl rfl 0 (by decide) (hT _ wf_X1_26) (fun _ h9 => h9) rfl dX1_would_17 ?_
    refine va_getN (ci := 2) (v := .ref av) (C := RX2) (T := TX2) (N := 6) hx hb hT wu_X2 hown hK hP 1 rfl rfl 1 (by decide) (va_Nw.use rfl (hN.get 139 kf_X1_100 rfl)) (fun _ h9 => h9) rfl dX1_would_20 ?_
    refine lv_iload_n hx hb dX1_would_23 rfl (lv_at hl 2 rfl) ?_
    refine va_iald hx hb hK hP 3 0 rfl rfl (vp_in_nI (n := pn) (by omega) (by decide)) dX1_would_24 ?_
    refine lv_ci (fv pn) (congrArg fv (nI_clamp (n := pn) (by omega))) ?_
    have hb_30 := hB.2.1 pn (by omega)
    refine lv_ci (nI (F.2.1 pn)) (hC.2.1.g0 (by omega)) ?_
    refine lv_istore (lv' := [(6, .int (nI (F.2.1 pn))), (5, .int 1), (0, .ref ad), (1, .int (nI pn)), (2, .int (nI hn)), (3, .int (nI sn)), (4, .int (nI qn))]) hx hb dX1_would_25 hl (by decide) rfl (fun ls hl => ?_)
    refine lv_aload_n hx hb dX1_would_27 rfl (lv_at hl 2 rfl) ?_
    refine va_get (ci := 1) (v := .ref af) (C := RX1) (T := TX1) (N := 12) hx hb hT wu_X1 hown hK hP 0 rfl rfl 0 (by decide) (hT _ wf_X1_26) (fun _ h9 => h9) rfl dX1_would_28 ?_
    refine va_getN (ci := 2) (v := .ref ak) (C := RX2) (T := TX2) (N := 6) hx hb hT wu_X2 hown hK hP 1 rfl rfl 0 (by decide) (va_Nw.use rfl (hN.get 134 kf_X1_57 rfl)) (fun _ h9 => h9) rfl dX1_would_31 ?_
    refine lv_iload_n hx hb dX1_would_34 rfl (lv_at hl 3 rfl) ?_
    refine va_iald hx hb hK hP 2 0 rfl rfl (vp_in_nI (n := pn) (by omega) (by decide)) dX1_would_35 ?_
    refine lv_ci (fk pn) (congrArg fk (nI_clamp (n := pn) (by omega))) ?_
    have hb_31 := hB.1 pn (by omega)
    refine lv_ci (nI (F.1 pn)) (hC.1.g0 (by omega)) ?_
    rcases (show (F.1 pn) = 0 ∨ (F.1 pn) = 1 ∨ (F.1 pn) = 2 ∨ (F.1 pn) = 3 ∨ (F.1 pn) = 4 ∨ (F.1 pn) = 5 ∨ (F.1 pn) = 6 by omega) with hk7_32 | hk7_32 | hk7_32 | hk7_32 | hk7_32 | hk7_32 | hk7_32
    · skip
      refine lv_ci 0 (by rw [hk7_32]; rfl) ?_
      refine lv_tableOut (tgt := 185) hx hb dX1_would_36 (by decide) (by decide) ?_
      refine lv_aload_n hx hb dX1_would_185 rfl (lv_at hl 2 rfl) ?_
      refine lv_iload_n hx hb dX1_would_186 rfl (lv_at hl 3 rfl) ?_
      refine lv_iload_n hx hb dX1_would_187 rfl (lv_at hl 4 rfl) ?_
      refine lv_iload_n hx hb dX1_would_188 rfl (lv_at hl 5 rfl) ?_
      refine contI (wc := [(ad, .inr (1, [.ref af, .ref d1, .ref d2, .ref d3, .ref d4, .int i5, .int i6, .int i7, .int i8, .int i9, .int i10, .int i11])), (af, .inr (2, [.ref ak, .ref av, .ref ar, .int (nI P), .int (nI (ntN O P)), .int (nI Y)])), (d1, .inl (cQ, 4, .inr (.inr (.inr (.inr (rf4 d1a d1b d1c d1d)))))), (d1a, .inl (cI, 96, .inl xda)), (d1b, .inl (cI, 96, .inl xdb)), (d1c, .inl (cI, 96, .inl xdc)), (d1d, .inl (cI, 96, .inl xdd))]) (wr := [(ak, .inl (cI, 4, .inl fk)), (av, .inl (cI, 4, .inl fv)), (ar, .inl (cI, 4, .inl fr))]) C0 hP hD hS [0, 1, 5, 6, 7, 8, 9] [2, 3, 4] rfl rfl (by decide) (by decide) 0 0 (Nat.le_of_ble_eq_true rfl) (Nat.le_of_ble_eq_true rfl) (runV (k := 3) (As := [.int (nI pn), .int (nI hn), .int (nI sn)]) (rest := []) C0 (c_worth l D cI cZ cQ cT _ ad af d1 d2 d3 d4 i5 i6 i7 i8 i9 i10 i11 ak av ar d1a d1b d1c d1d xda xdb xdc xdd P pn hn sn Y F O E (by omega) hOB (by omega) (by omega) (by omega) hW) wc_X1_worth wl_X1_85 wi_X1_worth we_X1_worth wz_X1 ⟨by decide, by decide, by decide +kernel⟩ ⟨(Nat.le_of_ble_eq_true rfl), (Nat.le_of_ble_eq_true rfl)⟩ hP hD hS EF.ok hX [0, 1, 5, 6, 7, 8, 9] rfl (by decide) 0 rfl rfl rfl rfl hl.1 rfl (Nat.le_of_ble_eq_true rfl) dX1_would_189 ⟨(Nat.le_of_ble_eq_true rfl), (Nat.le_of_ble_eq_true rfl)⟩) (fun r_35 u_33 H locs w_34 hP hD hS => ?_)
      have hP : va_P D CL [(ak, .inl (cI, 4, .inl fk)), (av, .inl (cI, 4, .inl fv)), (ar, .inl (cI, 4, .inl fr)), (ad, .inr (1, [.ref af, .ref d1, .ref d2, .ref d3, .ref d4, .int i5, .int i6, .int i7, .int i8, .int i9, .int i10, .int i11])), (af, .inr (2, [.ref ak, .ref av, .ref ar, .int (nI P), .int (nI (ntN O P)), .int (nI Y)])), (d1, .inl (cQ, 4, .inr (.inr (.inr (.inr (rf4 d1a d1b d1c d1d)))))), (d1a, .inl (cI, 96, .inl xda)), (d1b, .inl (cI, 96, .inl xdb)), (d1c, .inl (cI, 96, .inl xdc)), (d1d, .inl (cI, 96, .inl xdd))] H := hP
      have hD : va_D A [(ak, .inl (cI, 4, .inl fk)), (av, .inl (cI, 4, .inl fv)), (ar, .inl (cI, 4, .inl fr)), (ad, .inr (1, [.ref af, .ref d1, .ref d2, .ref d3, .ref d4, .int i5, .int i6, .int i7, .int i8, .int i9, .int i10, .int i11])), (af, .inr (2, [.ref ak, .ref av, .ref ar, .int (nI P), .int (nI (ntN O P)), .int (nI Y)])), (d1, .inl (cQ, 4, .inr (.inr (.inr (.inr (rf4 d1a d1b d1c d1d)))))), (d1a, .inl (cI, 96, .inl xda)), (d1b, .inl (cI, 96, .inl xdb)), (d1c, .inl (cI, 96, .inl xdc)), (d1d, .inl (cI, 96, .inl xdd))] := hD
      obtain rfl : r_35 = (wS E (F.1 pn) O pn sn hn) := w_34
      refine lv_if_le (tgt := 199) hx hb dX1_would_192 (by decide) (fun c_36 => ?_) (fun c_36 => ?_)
      · refine lv_iconst (v := 0) hx hb dX1_would_199 (by decide) ?_
        exact retI C0 rfl () ((congrArg nI (show (wd F O E pn sn qn hn) = 0 from (wd_k0 hk7_32).trans (if_neg (Int32.not_lt.mpr c_36)))).symm) (hP.sub (ws' := [(ad, .inr (1, [.ref af, .ref d1, .ref d2, .ref d3, .ref d4, .int i5, .int i6, .int i7, .int i8, .int i9, .int i10, .int i11])), (af, .inr (2, [.ref ak, .ref av, .ref ar, .int (nI P), .int (nI (ntN O P)), .int (nI Y)])), (ak, .inl (cI, 4, .inl fk)), (av, .inl (cI, 4, .inl fv)), (ar, .inl (cI, 4, .inl fr)), (d1, .inl (cQ, 4, .inr (.inr (.inr (.inr (rf4 d1a d1b d1c d1d)))))), (d1a, .inl (cI, 96, .inl xda)), (d1b, .inl (cI, 96, .inl xdb)), (d1c, .inl (cI, 96, .inl xdc)), (d1d, .inl (cI, 96, .inl xdd))]) [3, 4, 0, 1, 2, 5, 6, 7, 8, 9] rfl) (hD.sub (ws' := [(ad, .inr (1, [.ref af, .ref d1, .ref d2, .ref d3, .ref d4, .int i5, .int i6, .int i7, .int i8, .int i9, .int i10, .int i11])), (af, .inr (2, [.ref ak, .ref av, .ref ar, .int (nI P), .int (nI (ntN O P)), .int (nI Y)])), (ak, .inl (cI, 4, .inl fk)), (av, .inl (cI, 4, .inl fv)), (ar, .inl (cI, 4, .inl fr)), (d1, .inl (cQ, 4, .inr (.inr (.inr (.inr (rf4 d1a d1b d1c d1d)))))), (d1a, .inl (cI, 96, .inl xda)), (d1b, .inl (cI, 96, .inl xdb)), (d1c, .inl (cI, 96, .inl xdc)), (d1d, .inl (cI, 96, .inl xdd))]) [3, 4, 0, 1, 2, 5, 6, 7, 8, 9] (by decide) rfl) hS (Nat.le_of_ble_eq_true rfl) (Nat.le_of_ble_eq_true rfl) dX1_would_200
      · refine lv_iconst (v := 1) hx hb dX1_would_195 (by decide) ?_
        refine lv_goto (tgt := 200) hx hb dX1_would_196 (by decide) ?_
        exact retI C0 rfl () ((congrArg nI (show (wd F O E pn sn qn hn) = 1 from (wd_k0 hk7_32).trans (if_pos (Int32.not_le.mp c_36)))).symm) (hP.sub (ws' := [(ad, .inr (1, [.ref af, .ref d1, .ref d2, .ref d3, .ref d4, .int i5, .int i6, .int i7, .int i8, .int i9, .int i10, .int i11])), (af, .inr (2, [.ref ak, .ref av, .ref ar, .int (nI P), .int (nI (ntN O P)), .int (nI Y)])), (ak, .inl (cI, 4, .inl fk)), (av, .inl (cI, 4, .inl fv)), (ar, .inl (cI, 4, .inl fr)), (d1, .inl (cQ, 4, .inr (.inr (.inr (.inr (rf4 d1a d1b d1c d1d)))))), (d1a, .inl (cI, 96, .inl xda)), (d1b, .inl (cI, 96, .inl xdb)), (d1c, .inl (cI, 96, .inl xdc)), (d1d, .inl (cI, 96, .inl xdd))]) [3, 4, 0, 1, 2, 5, 6, 7, 8, 9] rfl) (hD.sub (ws' := [(ad, .inr (1, [.ref af, .ref d1, .ref d2, .ref d3, .ref d4, .int i5, .int i6, .int i7, .int i8, .int i9, .int i10, .int i11])), (af, .inr (2, [.ref ak, .ref av, .ref ar, .int (nI P), .int (nI (ntN O P)), .int (nI Y)])), (ak, .inl (cI, 4, .inl fk)), (av, .inl (cI, 4, .inl fv)), (ar, .inl (cI, 4, .inl fr)), (d1, .inl (cQ, 4, .inr (.inr (.inr (.inr (rf4 d1a d1b d1c d1d)))))), (d1a, .inl (cI, 96, .inl xda)), (d1b, .inl (cI, 96, .inl xdb)), (d1c, .inl (cI, 96, .inl xdc)), (d1d, .inl (cI, 96, .inl xdd))]) [3, 4, 0, 1, 2, 5, 6, 7, 8, 9] (by decide) rfl) hS (Nat.le_of_ble_eq_true rfl) (Nat.le_of_ble_eq_true rfl) dX1_would_200
    · exact absurd hk7_32 hk1
    · skip
      refine lv_ci 2 (by rw [hk7_32]; rfl) ?_
      refine lv_tableIn (off := 32) (tgt := 68) hx hb dX1_would_36 (by decide) (by decide) (by rfl) (by decide) ?_
      refine lv_iload hx hb dX1_would_68 (lv_at hl 1 rfl) ?_
      refine lv_if_eq (tgt := 90) hx hb dX1_would_70 (by decide) (fun c_0 => absurd c_0 (by decide)) (fun _ => ?_)
      refine lv_aload_n hx hb dX1_would_73 rfl (lv_at hl 2 rfl) ?_
      refine lv_iload_n hx hb dX1_would_74 rfl (lv_at hl 3 rfl) ?_
      refine lv_iload_n hx hb dX1_would_75 rfl (lv_at hl 4 rfl) ?_
      refine lv_iload_n hx hb dX1_would_76 rfl (lv_at hl 5 rfl) ?_
      refine contI (wc := [(ad, .inr (1, [.ref af, .ref d1, .ref d2, .ref d3, .ref d4, .int i5, .int i6, .int i7, .int i8, .int i9, .int i10, .int i11])), (af, .inr (2, [.ref ak, .ref av, .ref ar, .int (nI P), .int (nI (ntN O P)), .int (nI Y)])), (d1, .inl (cQ, 4, .inr (.inr (.inr (.inr (rf4 d1a d1b d1c d1d)))))), (d1a, .inl (cI, 96, .inl xda)), (d1b, .inl (cI, 96, .inl xdb)), (d1c, .inl (cI, 96, .inl xdc)), (d1d, .inl (cI, 96, .inl xdd))]) (wr := [(ak, .inl (cI, 4, .inl fk)), (av, .inl (cI, 4, .inl fv)), (ar, .inl (cI, 4, .inl fr))]) C0 hP hD hS [0, 1, 5, 6, 7, 8, 9] [2, 3, 4] rfl rfl (by decide) (by decide) 0 0 (Nat.le_of_ble_eq_true rfl) (Nat.le_of_ble_eq_true rfl) (runV (k := 3) (As := [.int (nI pn), .int (nI hn), .int (nI sn)]) (rest := []) C0 (c_worth l D cI cZ cQ cT _ ad af d1 d2 d3 d4 i5 i6 i7 i8 i9 i10 i11 ak av ar d1a d1b d1c d1d xda xdb xdc xdd P pn hn sn Y F O E (by omega) hOB (by omega) (by omega) (by omega) hW) wc_X1_worth wl_X1_85 wi_X1_worth we_X1_worth wz_X1 ⟨by decide, by decide, by decide +kernel⟩ ⟨(Nat.le_of_ble_eq_true rfl), (Nat.le_of_ble_eq_true rfl)⟩ hP hD hS EF.ok hX [0, 1, 5, 6, 7, 8, 9] rfl (by decide) 0 rfl rfl rfl rfl hl.1 rfl (Nat.le_of_ble_eq_true rfl) dX1_would_77 ⟨(Nat.le_of_ble_eq_true rfl), (Nat.le_of_ble_eq_true rfl)⟩) (fun r_39 u_37 H locs w_38 hP hD hS => ?_)
      have hP : va_P D CL [(ak, .inl (cI, 4, .inl fk)), (av, .inl (cI, 4, .inl fv)), (ar, .inl (cI, 4, .inl fr)), (ad, .inr (1, [.ref af, .ref d1, .ref d2, .ref d3, .ref d4, .int i5, .int i6, .int i7, .int i8, .int i9, .int i10, .int i11])), (af, .inr (2, [.ref ak, .ref av, .ref ar, .int (nI P), .int (nI (ntN O P)), .int (nI Y)])), (d1, .inl (cQ, 4, .inr (.inr (.inr (.inr (rf4 d1a d1b d1c d1d)))))), (d1a, .inl (cI, 96, .inl xda)), (d1b, .inl (cI, 96, .inl xdb)), (d1c, .inl (cI, 96, .inl xdc)), (d1d, .inl (cI, 96, .inl xdd))] H := hP
      have hD : va_D A [(ak, .inl (cI, 4, .inl fk)), (av, .inl (cI, 4, .inl fv)), (ar, .inl (cI, 4, .inl fr)), (ad, .inr (1, [.ref af, .ref d1, .ref d2, .ref d3, .ref d4, .int i5, .int i6, .int i7, .int i8, .int i9, .int i10, .int i11])), (af, .inr (2, [.ref ak, .ref av, .ref ar, .int (nI P), .int (nI (ntN O P)), .int (nI Y)])), (d1, .inl (cQ, 4, .inr (.inr (.inr (.inr (rf4 d1a d1b d1c d1d)))))), (d1a, .inl (cI, 96, .inl xda)), (d1b, .inl (cI, 96, .inl xdb)), (d1c, .inl (cI, 96, .inl xdc)), (d1d, .inl (cI, 96, .inl xdd))] := hD
      obtain rfl : r_39 = (wS E (F.1 pn) O pn sn hn) := w_38
      refine lv_iload hx hb dX1_would_80 (lv_at hl 0 rfl) ?_
      refine lv_ineg hx hb dX1_would_82 ?_
      refine lv_icmp_lt (tgt := 90) hx hb dX1_would_83 (by decide) (fun c_40 => ?_) (fun c_40 => ?_)
      · refine lv_iconst (v := 0) hx hb dX1_would_90 (by decide) ?_
        exact retI C0 rfl () ((congrArg nI (show (wd F O E pn sn qn hn) = 0 from (wd_k2 hk7_32).trans (if_neg (fun q_ => Int32.not_le.mpr c_40 q_.2)))).symm) (hP.sub (ws' := [(ad, .inr (1, [.ref af, .ref d1, .ref d2, .ref d3, .ref d4, .int i5, .int i6, .int i7, .int i8, .int i9, .int i10, .int i11])), (af, .inr (2, [.ref ak, .ref av, .ref ar, .int (nI P), .int (nI (ntN O P)), .int (nI Y)])), (ak, .inl (cI, 4, .inl fk)), (av, .inl (cI, 4, .inl fv)), (ar, .inl (cI, 4, .inl fr)), (d1, .inl (cQ, 4, .inr (.inr (.inr (.inr (rf4 d1a d1b d1c d1d)))))), (d1a, .inl (cI, 96, .inl xda)), (d1b, .inl (cI, 96, .inl xdb)), (d1c, .inl (cI, 96, .inl xdc)), (d1d, .inl (cI, 96, .inl xdd))]) [3, 4, 0, 1, 2, 5, 6, 7, 8, 9] rfl) (hD.sub (ws' := [(ad, .inr (1, [.ref af, .ref d1, .ref d2, .ref d3, .ref d4, .int i5, .int i6, .int i7, .int i8, .int i9, .int i10, .int i11])), (af, .inr (2, [.ref ak, .ref av, .ref ar, .int (nI P), .int (nI (ntN O P)), .int (nI Y)])), (ak, .inl (cI, 4, .inl fk)), (av, .inl (cI, 4, .inl fv)), (ar, .inl (cI, 4, .inl fr)), (d1, .inl (cQ, 4, .inr (.inr (.inr (.inr (rf4 d1a d1b d1c d1d)))))), (d1a, .inl (cI, 96, .inl xda)), (d1b, .inl (cI, 96, .inl xdb)), (d1c, .inl (cI, 96, .inl xdc)), (d1d, .inl (cI, 96, .inl xdd))]) [3, 4, 0, 1, 2, 5, 6, 7, 8, 9] (by decide) rfl) hS (Nat.le_of_ble_eq_true rfl) (Nat.le_of_ble_eq_true rfl) dX1_would_91
      · refine lv_iconst (v := 1) hx hb dX1_would_86 (by decide) ?_
        refine lv_goto (tgt := 91) hx hb dX1_would_87 (by decide) ?_
        exact retI C0 rfl () ((congrArg nI (show (wd F O E pn sn qn hn) = 1 from (wd_k2 hk7_32).trans (if_pos ⟨n_7, Int32.not_lt.mp c_40⟩))).symm) (hP.sub (ws' := [(ad, .inr (1, [.ref af, .ref d1, .ref d2, .ref d3, .ref d4, .int i5, .int i6, .int i7, .int i8, .int i9, .int i10, .int i11])), (af, .inr (2, [.ref ak, .ref av, .ref ar, .int (nI P), .int (nI (ntN O P)), .int (nI Y)])), (ak, .inl (cI, 4, .inl fk)), (av, .inl (cI, 4, .inl fv)), (ar, .inl (cI, 4, .inl fr)), (d1, .inl (cQ, 4, .inr (.inr (.inr (.inr (rf4 d1a d1b d1c d1d)))))), (d1a, .inl (cI, 96, .inl xda)), (d1b, .inl (cI, 96, .inl xdb)), (d1c, .inl (cI, 96, .inl xdc)), (d1d, .inl (cI, 96, .inl xdd))]) [3, 4, 0, 1, 2, 5, 6, 7, 8, 9] rfl) (hD.sub (ws' := [(ad, .inr (1, [.ref af, .ref d1, .ref d2, .ref d3, .ref d4, .int i5, .int i6, .int i7, .int i8, .int i9, .int i10, .int i11])), (af, .inr (2, [.ref ak, .ref av, .ref ar, .int (nI P), .int (nI (ntN O P)), .int (nI Y)])), (ak, .inl (cI, 4, .inl fk)), (av, .inl (cI, 4, .inl fv)), (ar, .inl (cI, 4, .inl fr)), (d1, .inl (cQ, 4, .inr (.inr (.inr (.inr (rf4 d1a d1b d1c d1d)))))), (d1a, .inl (cI, 96, .inl xda)), (d1b, .inl (cI, 96, .inl xdb)), (d1c, .inl (cI, 96, .inl xdc)), (d1d, .inl (cI, 96, .inl xdd))]) [3, 4, 0, 1, 2, 5, 6, 7, 8, 9] (by decide) rfl) hS (Nat.le_of_ble_eq_true rfl) (Nat.le_of_ble_eq_true rfl) dX1_would_91
    · skip
      refine lv_ci 3 (by rw [hk7_32]; rfl) ?_
      refine lv_tableIn (off := 56) (tgt := 92) hx hb dX1_would_36 (by decide) (by decide) (by rfl) (by decide) ?_
      refine lv_aload_n hx hb dX1_would_92 rfl (lv_at hl 2 rfl) ?_
      refine lv_iload_n hx hb dX1_would_93 rfl (lv_at hl 3 rfl) ?_
      refine lv_iload_n hx hb dX1_would_94 rfl (lv_at hl 4 rfl) ?_
      refine lv_iload hx hb dX1_would_95 (lv_at hl 6 rfl) ?_
      refine contI (wc := [(ad, .inr (1, [.ref af, .ref d1, .ref d2, .ref d3, .ref d4, .int i5, .int i6, .int i7, .int i8, .int i9, .int i10, .int i11])), (af, .inr (2, [.ref ak, .ref av, .ref ar, .int (nI P), .int (nI (ntN O P)), .int (nI Y)])), (d1, .inl (cQ, 4, .inr (.inr (.inr (.inr (rf4 d1a d1b d1c d1d)))))), (d1a, .inl (cI, 96, .inl xda)), (d1b, .inl (cI, 96, .inl xdb)), (d1c, .inl (cI, 96, .inl xdc)), (d1d, .inl (cI, 96, .inl xdd))]) (wr := [(ak, .inl (cI, 4, .inl fk)), (av, .inl (cI, 4, .inl fv)), (ar, .inl (cI, 4, .inl fr))]) C0 hP hD hS [0, 1, 5, 6, 7, 8, 9] [2, 3, 4] rfl rfl (by decide) (by decide) 0 0 (Nat.le_of_ble_eq_true rfl) (Nat.le_of_ble_eq_true rfl) (runV (k := 3) (As := [.int (nI pn), .int (nI hn), .int (nI qn)]) (rest := []) C0 (c_worth l D cI cZ cQ cT _ ad af d1 d2 d3 d4 i5 i6 i7 i8 i9 i10 i11 ak av ar d1a d1b d1c d1d xda xdb xdc xdd P pn hn qn Y F O E (by omega) hOB (by omega) (by omega) (by omega) hW) wc_X1_worth wl_X1_85 wi_X1_worth we_X1_worth wz_X1 ⟨by decide, by decide, by decide +kernel⟩ ⟨(Nat.le_of_ble_eq_true rfl), (Nat.le_of_ble_eq_true rfl)⟩ hP hD hS EF.ok hX [0, 1, 5, 6, 7, 8, 9] rfl (by decide) 0 rfl rfl rfl rfl hl.1 rfl (Nat.le_of_ble_eq_true rfl) dX1_would_97 ⟨(Nat.le_of_ble_eq_true rfl), (Nat.le_of_ble_eq_true rfl)⟩) (fun r_43 u_41 H locs w_42 hP hD hS => ?_)
      have hP : va_P D CL [(ak, .inl (cI, 4, .inl fk)), (av, .inl (cI, 4, .inl fv)), (ar, .inl (cI, 4, .inl fr)), (ad, .inr (1, [.ref af, .ref d1, .ref d2, .ref d3, .ref d4, .int i5, .int i6, .int i7, .int i8, .int i9, .int i10, .int i11])), (af, .inr (2, [.ref ak, .ref av, .ref ar, .int (nI P), .int (nI (ntN O P)), .int (nI Y)])), (d1, .inl (cQ, 4, .inr (.inr (.inr (.inr (rf4 d1a d1b d1c d1d)))))), (d1a, .inl (cI, 96, .inl xda)), (d1b, .inl (cI, 96, .inl xdb)), (d1c, .inl (cI, 96, .inl xdc)), (d1d, .inl (cI, 96, .inl xdd))] H := hP
      have hD : va_D A [(ak, .inl (cI, 4, .inl fk)), (av, .inl (cI, 4, .inl fv)), (ar, .inl (cI, 4, .inl fr)), (ad, .inr (1, [.ref af, .ref d1, .ref d2, .ref d3, .ref d4, .int i5, .int i6, .int i7, .int i8, .int i9, .int i10, .int i11])), (af, .inr (2, [.ref ak, .ref av, .ref ar, .int (nI P), .int (nI (ntN O P)), .int (nI Y)])), (d1, .inl (cQ, 4, .inr (.inr (.inr (.inr (rf4 d1a d1b d1c d1d)))))), (d1a, .inl (cI, 96, .inl xda)), (d1b, .inl (cI, 96, .inl xdb)), (d1c, .inl (cI, 96, .inl xdc)), (d1d, .inl (cI, 96, .inl xdd))] := hD
      obtain rfl : r_43 = (wS E (F.1 pn) O pn qn hn) := w_42
      refine lv_if_le (tgt := 107) hx hb dX1_would_100 (by decide) (fun c_44 => ?_) (fun c_44 => ?_)
      · refine lv_iconst (v := 0) hx hb dX1_would_107 (by decide) ?_
        exact retI C0 rfl () ((congrArg nI (show (wd F O E pn sn qn hn) = 0 from (wd_k3 hk7_32).trans (if_neg (Int32.not_lt.mpr c_44)))).symm) (hP.sub (ws' := [(ad, .inr (1, [.ref af, .ref d1, .ref d2, .ref d3, .ref d4, .int i5, .int i6, .int i7, .int i8, .int i9, .int i10, .int i11])), (af, .inr (2, [.ref ak, .ref av, .ref ar, .int (nI P), .int (nI (ntN O P)), .int (nI Y)])), (ak, .inl (cI, 4, .inl fk)), (av, .inl (cI, 4, .inl fv)), (ar, .inl (cI, 4, .inl fr)), (d1, .inl (cQ, 4, .inr (.inr (.inr (.inr (rf4 d1a d1b d1c d1d)))))), (d1a, .inl (cI, 96, .inl xda)), (d1b, .inl (cI, 96, .inl xdb)), (d1c, .inl (cI, 96, .inl xdc)), (d1d, .inl (cI, 96, .inl xdd))]) [3, 4, 0, 1, 2, 5, 6, 7, 8, 9] rfl) (hD.sub (ws' := [(ad, .inr (1, [.ref af, .ref d1, .ref d2, .ref d3, .ref d4, .int i5, .int i6, .int i7, .int i8, .int i9, .int i10, .int i11])), (af, .inr (2, [.ref ak, .ref av, .ref ar, .int (nI P), .int (nI (ntN O P)), .int (nI Y)])), (ak, .inl (cI, 4, .inl fk)), (av, .inl (cI, 4, .inl fv)), (ar, .inl (cI, 4, .inl fr)), (d1, .inl (cQ, 4, .inr (.inr (.inr (.inr (rf4 d1a d1b d1c d1d)))))), (d1a, .inl (cI, 96, .inl xda)), (d1b, .inl (cI, 96, .inl xdb)), (d1c, .inl (cI, 96, .inl xdc)), (d1d, .inl (cI, 96, .inl xdd))]) [3, 4, 0, 1, 2, 5, 6, 7, 8, 9] (by decide) rfl) hS (Nat.le_of_ble_eq_true rfl) (Nat.le_of_ble_eq_true rfl) dX1_would_108
      · refine lv_iconst (v := 1) hx hb dX1_would_103 (by decide) ?_
        refine lv_goto (tgt := 108) hx hb dX1_would_104 (by decide) ?_
        exact retI C0 rfl () ((congrArg nI (show (wd F O E pn sn qn hn) = 1 from (wd_k3 hk7_32).trans (if_pos (Int32.not_le.mp c_44)))).symm) (hP.sub (ws' := [(ad, .inr (1, [.ref af, .ref d1, .ref d2, .ref d3, .ref d4, .int i5, .int i6, .int i7, .int i8, .int i9, .int i10, .int i11])), (af, .inr (2, [.ref ak, .ref av, .ref ar, .int (nI P), .int (nI (ntN O P)), .int (nI Y)])), (ak, .inl (cI, 4, .inl fk)), (av, .inl (cI, 4, .inl fv)), (ar, .inl (cI, 4, .inl fr)), (d1, .inl (cQ, 4, .inr (.inr (.inr (.inr (rf4 d1a d1b d1c d1d)))))), (d1a, .inl (cI, 96, .inl xda)), (d1b, .inl (cI, 96, .inl xdb)), (d1c, .inl (cI, 96, .inl xdc)), (d1d, .inl (cI, 96, .inl xdd))]) [3, 4, 0, 1, 2, 5, 6, 7, 8, 9] rfl) (hD.sub (ws' := [(ad, .inr (1, [.ref af, .ref d1, .ref d2, .ref d3, .ref d4, .int i5, .int i6, .int i7, .int i8, .int i9, .int i10, .int i11])), (af, .inr (2, [.ref ak, .ref av, .ref ar, .int (nI P), .int (nI (ntN O P)), .int (nI Y)])), (ak, .inl (cI, 4, .inl fk)), (av, .inl (cI, 4, .inl fv)), (ar, .inl (cI, 4, .inl fr)), (d1, .inl (cQ, 4, .inr (.inr (.inr (.inr (rf4 d1a d1b d1c d1d)))))), (d1a, .inl (cI, 96, .inl xda)), (d1b, .inl (cI, 96, .inl xdb)), (d1c, .inl (cI, 96, .inl xdc)), (d1d, .inl (cI, 96, .inl xdd))]) [3, 4, 0, 1, 2, 5, 6, 7, 8, 9] (by decide) rfl) hS (Nat.le_of_ble_eq_true rfl) (Nat.le_of_ble_eq_true rfl) dX1_would_108
    · skip
      refine lv_ci 4 (by rw [hk7_32]; rfl) ?_
      refine lv_tableIn (off := 73) (tgt := 109) hx hb dX1_would_36 (by decide) (by decide) (by rfl) (by decide) ?_
      refine lv_iload_n hx hb dX1_would_109 rfl (lv_at hl 5 rfl) ?_
      refine lv_iconst (v := 3) hx hb dX1_would_110 (by decide) ?_
      refine lv_iconst (v := 2) hx hb dX1_would_111 (by decide) ?_
      refine lv_iload_n hx hb dX1_would_112 rfl (lv_at hl 4 rfl) ?_
      refine lv_imul hx hb dX1_would_113 ?_
      refine lv_ci (nI (2 * hn)) (pk_mul 2 hn) ?_
      refine lv_iadd hx hb dX1_would_114 ?_
      refine lv_ci (nI (3 + (2 * hn))) (nI_add 3 (2 * hn)) ?_
      refine lv_ishr hx hb dX1_would_115 ?_
      refine lv_ci (nI (sn / 2 ^ (3 + (2 * hn)))) (shrN (a := sn) (k := (3 + (2 * hn))) (by omega) (by omega)) ?_
      have hq_45 : (sn / 2 ^ (3 + (2 * hn))) ≤ sn := Nat.div_le_self _ _
      refine lv_iconst (v := 3) hx hb dX1_would_116 (by decide) ?_
      refine lv_iand hx hb dX1_would_117 ?_
      refine lv_ci (nI ((sn / 2 ^ (3 + (2 * hn))) % 4)) (pk_andN (n := (sn / 2 ^ (3 + (2 * hn)))) (by omega) 2 (by decide +kernel)) ?_
      refine lv_iload hx hb dX1_would_118 (lv_at hl 0 rfl) ?_
      refine lv_icmp_ge (tgt := 141) hx hb dX1_would_120 (by decide) (fun c_46 => ?_) (fun c_46 => ?_)
      · have n_47 : (F.2.1 pn) ≤ ((sn / 2 ^ (3 + (2 * hn))) % 4) := (nI_leI (a := (F.2.1 pn)) (b := ((sn / 2 ^ (3 + (2 * hn))) % 4)) (by omega) (by omega)).mp c_46
        refine lv_iconst (v := 1) hx hb dX1_would_141 (by decide) ?_
        refine lv_goto (tgt := 146) hx hb dX1_would_142 (by decide) ?_
        exact retI C0 rfl () ((congrArg nI (show (wd F O E pn sn qn hn) = 1 from (wd_k4 hk7_32).trans (if_pos (Or.inl n_47)))).symm) (hP.sub (ws' := [(ad, .inr (1, [.ref af, .ref d1, .ref d2, .ref d3, .ref d4, .int i5, .int i6, .int i7, .int i8, .int i9, .int i10, .int i11])), (af, .inr (2, [.ref ak, .ref av, .ref ar, .int (nI P), .int (nI (ntN O P)), .int (nI Y)])), (ak, .inl (cI, 4, .inl fk)), (av, .inl (cI, 4, .inl fv)), (ar, .inl (cI, 4, .inl fr)), (d1, .inl (cQ, 4, .inr (.inr (.inr (.inr (rf4 d1a d1b d1c d1d)))))), (d1a, .inl (cI, 96, .inl xda)), (d1b, .inl (cI, 96, .inl xdb)), (d1c, .inl (cI, 96, .inl xdc)), (d1d, .inl (cI, 96, .inl xdd))]) [0, 1, 2, 3, 4, 5, 6, 7, 8, 9] rfl) (hD.sub (ws' := [(ad, .inr (1, [.ref af, .ref d1, .ref d2, .ref d3, .ref d4, .int i5, .int i6, .int i7, .int i8, .int i9, .int i10, .int i11])), (af, .inr (2, [.ref ak, .ref av, .ref ar, .int (nI P), .int (nI (ntN O P)), .int (nI Y)])), (ak, .inl (cI, 4, .inl fk)), (av, .inl (cI, 4, .inl fv)), (ar, .inl (cI, 4, .inl fr)), (d1, .inl (cQ, 4, .inr (.inr (.inr (.inr (rf4 d1a d1b d1c d1d)))))), (d1a, .inl (cI, 96, .inl xda)), (d1b, .inl (cI, 96, .inl xdb)), (d1c, .inl (cI, 96, .inl xdc)), (d1d, .inl (cI, 96, .inl xdd))]) [0, 1, 2, 3, 4, 5, 6, 7, 8, 9] (by decide) rfl) hS (Nat.le_of_ble_eq_true rfl) (Nat.le_of_ble_eq_true rfl) dX1_would_146
      · have n_48 : ¬ (F.2.1 pn) ≤ ((sn / 2 ^ (3 + (2 * hn))) % 4) := fun hx9_ => c_46 ((nI_leI (a := (F.2.1 pn)) (b := ((sn / 2 ^ (3 + (2 * hn))) % 4)) (by omega) (by omega)).mpr hx9_)
        refine lv_iload hx hb dX1_would_123 (lv_at hl 1 rfl) ?_
        refine lv_if_eq (tgt := 145) hx hb dX1_would_125 (by decide) (fun c_0 => absurd c_0 (by decide)) (fun _ => ?_)
        refine lv_aload_n hx hb dX1_would_128 rfl (lv_at hl 2 rfl) ?_
        refine lv_iload_n hx hb dX1_would_129 rfl (lv_at hl 3 rfl) ?_
        refine lv_iload_n hx hb dX1_would_130 rfl (lv_at hl 4 rfl) ?_
        refine lv_iload_n hx hb dX1_would_131 rfl (lv_at hl 5 rfl) ?_
        refine contI (wc := [(ad, .inr (1, [.ref af, .ref d1, .ref d2, .ref d3, .ref d4, .int i5, .int i6, .int i7, .int i8, .int i9, .int i10, .int i11])), (af, .inr (2, [.ref ak, .ref av, .ref ar, .int (nI P), .int (nI (ntN O P)), .int (nI Y)])), (d1, .inl (cQ, 4, .inr (.inr (.inr (.inr (rf4 d1a d1b d1c d1d)))))), (d1a, .inl (cI, 96, .inl xda)), (d1b, .inl (cI, 96, .inl xdb)), (d1c, .inl (cI, 96, .inl xdc)), (d1d, .inl (cI, 96, .inl xdd))]) (wr := [(ak, .inl (cI, 4, .inl fk)), (av, .inl (cI, 4, .inl fv)), (ar, .inl (cI, 4, .inl fr))]) C0 hP hD hS [0, 1, 5, 6, 7, 8, 9] [2, 3, 4] rfl rfl (by decide) (by decide) 0 0 (Nat.le_of_ble_eq_true rfl) (Nat.le_of_ble_eq_true rfl) (runV (k := 3) (As := [.int (nI pn), .int (nI hn), .int (nI sn)]) (rest := []) C0 (c_worth l D cI cZ cQ cT _ ad af d1 d2 d3 d4 i5 i6 i7 i8 i9 i10 i11 ak av ar d1a d1b d1c d1d xda xdb xdc xdd P pn hn sn Y F O E (by omega) hOB (by omega) (by omega) (by omega) hW) wc_X1_worth wl_X1_85 wi_X1_worth we_X1_worth wz_X1 ⟨by decide, by decide, by decide +kernel⟩ ⟨(Nat.le_of_ble_eq_true rfl), (Nat.le_of_ble_eq_true rfl)⟩ hP hD hS EF.ok hX [0, 1, 5, 6, 7, 8, 9] rfl (by decide) 0 rfl rfl rfl rfl hl.1 rfl (Nat.le_of_ble_eq_true rfl) dX1_would_132 ⟨(Nat.le_of_ble_eq_true rfl), (Nat.le_of_ble_eq_true rfl)⟩) (fun r_51 u_49 H locs w_50 hP hD hS => ?_)
        have hP : va_P D CL [(ak, .inl (cI, 4, .inl fk)), (av, .inl (cI, 4, .inl fv)), (ar, .inl (cI, 4, .inl fr)), (ad, .inr (1, [.ref af, .ref d1, .ref d2, .ref d3, .ref d4, .int i5, .int i6, .int i7, .int i8, .int i9, .int i10, .int i11])), (af, .inr (2, [.ref ak, .ref av, .ref ar, .int (nI P), .int (nI (ntN O P)), .int (nI Y)])), (d1, .inl (cQ, 4, .inr (.inr (.inr (.inr (rf4 d1a d1b d1c d1d)))))), (d1a, .inl (cI, 96, .inl xda)), (d1b, .inl (cI, 96, .inl xdb)), (d1c, .inl (cI, 96, .inl xdc)), (d1d, .inl (cI, 96, .inl xdd))] H := hP
        have hD : va_D A [(ak, .inl (cI, 4, .inl fk)), (av, .inl (cI, 4, .inl fv)), (ar, .inl (cI, 4, .inl fr)), (ad, .inr (1, [.ref af, .ref d1, .ref d2, .ref d3, .ref d4, .int i5, .int i6, .int i7, .int i8, .int i9, .int i10, .int i11])), (af, .inr (2, [.ref ak, .ref av, .ref ar, .int (nI P), .int (nI (ntN O P)), .int (nI Y)])), (d1, .inl (cQ, 4, .inr (.inr (.inr (.inr (rf4 d1a d1b d1c d1d)))))), (d1a, .inl (cI, 96, .inl xda)), (d1b, .inl (cI, 96, .inl xdb)), (d1c, .inl (cI, 96, .inl xdc)), (d1d, .inl (cI, 96, .inl xdd))] := hD
        obtain rfl : r_51 = (wS E (F.1 pn) O pn sn hn) := w_50
        refine lv_iload hx hb dX1_would_135 (lv_at hl 0 rfl) ?_
        refine lv_ineg hx hb dX1_would_137 ?_
        refine lv_icmp_lt (tgt := 145) hx hb dX1_would_138 (by decide) (fun c_52 => ?_) (fun c_52 => ?_)
        · refine lv_iconst (v := 0) hx hb dX1_would_145 (by decide) ?_
          exact retI C0 rfl () ((congrArg nI (show (wd F O E pn sn qn hn) = 0 from (wd_k4 hk7_32).trans (if_neg (fun q_ => q_.elim n_48 (fun a_ => Int32.not_le.mpr c_52 a_.2))))).symm) (hP.sub (ws' := [(ad, .inr (1, [.ref af, .ref d1, .ref d2, .ref d3, .ref d4, .int i5, .int i6, .int i7, .int i8, .int i9, .int i10, .int i11])), (af, .inr (2, [.ref ak, .ref av, .ref ar, .int (nI P), .int (nI (ntN O P)), .int (nI Y)])), (ak, .inl (cI, 4, .inl fk)), (av, .inl (cI, 4, .inl fv)), (ar, .inl (cI, 4, .inl fr)), (d1, .inl (cQ, 4, .inr (.inr (.inr (.inr (rf4 d1a d1b d1c d1d)))))), (d1a, .inl (cI, 96, .inl xda)), (d1b, .inl (cI, 96, .inl xdb)), (d1c, .inl (cI, 96, .inl xdc)), (d1d, .inl (cI, 96, .inl xdd))]) [3, 4, 0, 1, 2, 5, 6, 7, 8, 9] rfl) (hD.sub (ws' := [(ad, .inr (1, [.ref af, .ref d1, .ref d2, .ref d3, .ref d4, .int i5, .int i6, .int i7, .int i8, .int i9, .int i10, .int i11])), (af, .inr (2, [.ref ak, .ref av, .ref ar, .int (nI P), .int (nI (ntN O P)), .int (nI Y)])), (ak, .inl (cI, 4, .inl fk)), (av, .inl (cI, 4, .inl fv)), (ar, .inl (cI, 4, .inl fr)), (d1, .inl (cQ, 4, .inr (.inr (.inr (.inr (rf4 d1a d1b d1c d1d)))))), (d1a, .inl (cI, 96, .inl xda)), (d1b, .inl (cI, 96, .inl xdb)), (d1c, .inl (cI, 96, .inl xdc)), (d1d, .inl (cI, 96, .inl xdd))]) [3, 4, 0, 1, 2, 5, 6, 7, 8, 9] (by decide) rfl) hS (Nat.le_of_ble_eq_true rfl) (Nat.le_of_ble_eq_true rfl) dX1_would_146
        · refine lv_iconst (v := 1) hx hb dX1_would_141 (by decide) ?_
          refine lv_goto (tgt := 146) hx hb dX1_would_142 (by decide) ?_
          exact retI C0 rfl () ((congrArg nI (show (wd F O E pn sn qn hn) = 1 from (wd_k4 hk7_32).trans (if_pos (Or.inr ⟨n_7, Int32.not_lt.mp c_52⟩)))).symm) (hP.sub (ws' := [(ad, .inr (1, [.ref af, .ref d1, .ref d2, .ref d3, .ref d4, .int i5, .int i6, .int i7, .int i8, .int i9, .int i10, .int i11])), (af, .inr (2, [.ref ak, .ref av, .ref ar, .int (nI P), .int (nI (ntN O P)), .int (nI Y)])), (ak, .inl (cI, 4, .inl fk)), (av, .inl (cI, 4, .inl fv)), (ar, .inl (cI, 4, .inl fr)), (d1, .inl (cQ, 4, .inr (.inr (.inr (.inr (rf4 d1a d1b d1c d1d)))))), (d1a, .inl (cI, 96, .inl xda)), (d1b, .inl (cI, 96, .inl xdb)), (d1c, .inl (cI, 96, .inl xdc)), (d1d, .inl (cI, 96, .inl xdd))]) [3, 4, 0, 1, 2, 5, 6, 7, 8, 9] rfl) (hD.sub (ws' := [(ad, .inr (1, [.ref af, .ref d1, .ref d2, .ref d3, .ref d4, .int i5, .int i6, .int i7, .int i8, .int i9, .int i10, .int i11])), (af, .inr (2, [.ref ak, .ref av, .ref ar, .int (nI P), .int (nI (ntN O P)), .int (nI Y)])), (ak, .inl (cI, 4, .inl fk)), (av, .inl (cI, 4, .inl fv)), (ar, .inl (cI, 4, .inl fr)), (d1, .inl (cQ, 4, .inr (.inr (.inr (.inr (rf4 d1a d1b d1c d1d)))))), (d1a, .inl (cI, 96, .inl xda)), (d1b, .inl (cI, 96, .inl xdb)), (d1c, .inl (cI, 96, .inl xdc)), (d1d, .inl (cI, 96, .inl xdd))]) [3, 4, 0, 1, 2, 5, 6, 7, 8, 9] (by decide) rfl) hS (Nat.le_of_ble_eq_true rfl) (Nat.le_of_ble_eq_true rfl) dX1_would_146
    · skip
      refine lv_ci 5 (by rw [hk7_32]; rfl) ?_
      refine lv_tableIn (off := 111) (tgt := 147) hx hb dX1_would_36 (by decide) (by decide) (by rfl) (by decide) ?_
      refine lv_iload_n hx hb dX1_would_147 rfl (lv_at hl 4 rfl) ?_
      refine lv_iload hx hb dX1_would_148 (lv_at hl 0 rfl) ?_
      refine lv_iconst (v := 3) hx hb dX1_would_150 (by decide) ?_
      refine lv_irem hx hb dX1_would_151 (by decide) ?_
      refine lv_ci (nI ((F.2.1 pn) % 3)) (pk_rem (a := (F.2.1 pn)) (d := 3) (by omega) (by decide) (by decide)) ?_
      refine lv_icmp_ne (tgt := 168) hx hb dX1_would_152 (by decide) (fun c_53 => ?_) (fun c_53 => ?_)
      · have n_54 : ¬ hn = ((F.2.1 pn) % 3) := fun hx9_ => c_53 ((nI_eq (a := hn) (b := ((F.2.1 pn) % 3)) (by omega) (by omega)).mpr hx9_)
        refine lv_aload_n hx hb dX1_would_168 rfl (lv_at hl 2 rfl) ?_
        refine lv_iload_n hx hb dX1_would_169 rfl (lv_at hl 3 rfl) ?_
        refine lv_iload_n hx hb dX1_would_170 rfl (lv_at hl 4 rfl) ?_
        refine lv_iload hx hb dX1_would_171 (lv_at hl 6 rfl) ?_
        refine contI (wc := [(ad, .inr (1, [.ref af, .ref d1, .ref d2, .ref d3, .ref d4, .int i5, .int i6, .int i7, .int i8, .int i9, .int i10, .int i11])), (af, .inr (2, [.ref ak, .ref av, .ref ar, .int (nI P), .int (nI (ntN O P)), .int (nI Y)])), (d1, .inl (cQ, 4, .inr (.inr (.inr (.inr (rf4 d1a d1b d1c d1d)))))), (d1a, .inl (cI, 96, .inl xda)), (d1b, .inl (cI, 96, .inl xdb)), (d1c, .inl (cI, 96, .inl xdc)), (d1d, .inl (cI, 96, .inl xdd))]) (wr := [(ak, .inl (cI, 4, .inl fk)), (av, .inl (cI, 4, .inl fv)), (ar, .inl (cI, 4, .inl fr))]) C0 hP hD hS [0, 1, 5, 6, 7, 8, 9] [2, 3, 4] rfl rfl (by decide) (by decide) 0 0 (Nat.le_of_ble_eq_true rfl) (Nat.le_of_ble_eq_true rfl) (runV (k := 3) (As := [.int (nI pn), .int (nI hn), .int (nI qn)]) (rest := []) C0 (c_worth l D cI cZ cQ cT _ ad af d1 d2 d3 d4 i5 i6 i7 i8 i9 i10 i11 ak av ar d1a d1b d1c d1d xda xdb xdc xdd P pn hn qn Y F O E (by omega) hOB (by omega) (by omega) (by omega) hW) wc_X1_worth wl_X1_85 wi_X1_worth we_X1_worth wz_X1 ⟨by decide, by decide, by decide +kernel⟩ ⟨(Nat.le_of_ble_eq_true rfl), (Nat.le_of_ble_eq_true rfl)⟩ hP hD hS EF.ok hX [0, 1, 5, 6, 7, 8, 9] rfl (by decide) 0 rfl rfl rfl rfl hl.1 rfl (Nat.le_of_ble_eq_true rfl) dX1_would_173 ⟨(Nat.le_of_ble_eq_true rfl), (Nat.le_of_ble_eq_true rfl)⟩) (fun r_58 u_56 H locs w_57 hP hD hS => ?_)
        have hP : va_P D CL [(ak, .inl (cI, 4, .inl fk)), (av, .inl (cI, 4, .inl fv)), (ar, .inl (cI, 4, .inl fr)), (ad, .inr (1, [.ref af, .ref d1, .ref d2, .ref d3, .ref d4, .int i5, .int i6, .int i7, .int i8, .int i9, .int i10, .int i11])), (af, .inr (2, [.ref ak, .ref av, .ref ar, .int (nI P), .int (nI (ntN O P)), .int (nI Y)])), (d1, .inl (cQ, 4, .inr (.inr (.inr (.inr (rf4 d1a d1b d1c d1d)))))), (d1a, .inl (cI, 96, .inl xda)), (d1b, .inl (cI, 96, .inl xdb)), (d1c, .inl (cI, 96, .inl xdc)), (d1d, .inl (cI, 96, .inl xdd))] H := hP
        have hD : va_D A [(ak, .inl (cI, 4, .inl fk)), (av, .inl (cI, 4, .inl fv)), (ar, .inl (cI, 4, .inl fr)), (ad, .inr (1, [.ref af, .ref d1, .ref d2, .ref d3, .ref d4, .int i5, .int i6, .int i7, .int i8, .int i9, .int i10, .int i11])), (af, .inr (2, [.ref ak, .ref av, .ref ar, .int (nI P), .int (nI (ntN O P)), .int (nI Y)])), (d1, .inl (cQ, 4, .inr (.inr (.inr (.inr (rf4 d1a d1b d1c d1d)))))), (d1a, .inl (cI, 96, .inl xda)), (d1b, .inl (cI, 96, .inl xdb)), (d1c, .inl (cI, 96, .inl xdc)), (d1d, .inl (cI, 96, .inl xdd))] := hD
        obtain rfl : r_58 = (wS E (F.1 pn) O pn qn hn) := w_57
        refine lv_if_le (tgt := 183) hx hb dX1_would_176 (by decide) (fun c_59 => ?_) (fun c_59 => ?_)
        · refine lv_iconst (v := 0) hx hb dX1_would_183 (by decide) ?_
          exact retI C0 rfl () ((congrArg nI (show (wd F O E pn sn qn hn) = 0 from (wd_k5 hk7_32).trans ((if_neg n_54).trans (if_neg (Int32.not_lt.mpr c_59))))).symm) (hP.sub (ws' := [(ad, .inr (1, [.ref af, .ref d1, .ref d2, .ref d3, .ref d4, .int i5, .int i6, .int i7, .int i8, .int i9, .int i10, .int i11])), (af, .inr (2, [.ref ak, .ref av, .ref ar, .int (nI P), .int (nI (ntN O P)), .int (nI Y)])), (ak, .inl (cI, 4, .inl fk)), (av, .inl (cI, 4, .inl fv)), (ar, .inl (cI, 4, .inl fr)), (d1, .inl (cQ, 4, .inr (.inr (.inr (.inr (rf4 d1a d1b d1c d1d)))))), (d1a, .inl (cI, 96, .inl xda)), (d1b, .inl (cI, 96, .inl xdb)), (d1c, .inl (cI, 96, .inl xdc)), (d1d, .inl (cI, 96, .inl xdd))]) [3, 4, 0, 1, 2, 5, 6, 7, 8, 9] rfl) (hD.sub (ws' := [(ad, .inr (1, [.ref af, .ref d1, .ref d2, .ref d3, .ref d4, .int i5, .int i6, .int i7, .int i8, .int i9, .int i10, .int i11])), (af, .inr (2, [.ref ak, .ref av, .ref ar, .int (nI P), .int (nI (ntN O P)), .int (nI Y)])), (ak, .inl (cI, 4, .inl fk)), (av, .inl (cI, 4, .inl fv)), (ar, .inl (cI, 4, .inl fr)), (d1, .inl (cQ, 4, .inr (.inr (.inr (.inr (rf4 d1a d1b d1c d1d)))))), (d1a, .inl (cI, 96, .inl xda)), (d1b, .inl (cI, 96, .inl xdb)), (d1c, .inl (cI, 96, .inl xdc)), (d1d, .inl (cI, 96, .inl xdd))]) [3, 4, 0, 1, 2, 5, 6, 7, 8, 9] (by decide) rfl) hS (Nat.le_of_ble_eq_true rfl) (Nat.le_of_ble_eq_true rfl) dX1_would_184
        · refine lv_iconst (v := 1) hx hb dX1_would_179 (by decide) ?_
          refine lv_goto (tgt := 184) hx hb dX1_would_180 (by decide) ?_
          exact retI C0 rfl () ((congrArg nI (show (wd F O E pn sn qn hn) = 1 from (wd_k5 hk7_32).trans ((if_neg n_54).trans (if_pos (Int32.not_le.mp c_59))))).symm) (hP.sub (ws' := [(ad, .inr (1, [.ref af, .ref d1, .ref d2, .ref d3, .ref d4, .int i5, .int i6, .int i7, .int i8, .int i9, .int i10, .int i11])), (af, .inr (2, [.ref ak, .ref av, .ref ar, .int (nI P), .int (nI (ntN O P)), .int (nI Y)])), (ak, .inl (cI, 4, .inl fk)), (av, .inl (cI, 4, .inl fv)), (ar, .inl (cI, 4, .inl fr)), (d1, .inl (cQ, 4, .inr (.inr (.inr (.inr (rf4 d1a d1b d1c d1d)))))), (d1a, .inl (cI, 96, .inl xda)), (d1b, .inl (cI, 96, .inl xdb)), (d1c, .inl (cI, 96, .inl xdc)), (d1d, .inl (cI, 96, .inl xdd))]) [3, 4, 0, 1, 2, 5, 6, 7, 8, 9] rfl) (hD.sub (ws' := [(ad, .inr (1, [.ref af, .ref d1, .ref d2, .ref d3, .ref d4, .int i5, .int i6, .int i7, .int i8, .int i9, .int i10, .int i11])), (af, .inr (2, [.ref ak, .ref av, .ref ar, .int (nI P), .int (nI (ntN O P)), .int (nI Y)])), (ak, .inl (cI, 4, .inl fk)), (av, .inl (cI, 4, .inl fv)), (ar, .inl (cI, 4, .inl fr)), (d1, .inl (cQ, 4, .inr (.inr (.inr (.inr (rf4 d1a d1b d1c d1d)))))), (d1a, .inl (cI, 96, .inl xda)), (d1b, .inl (cI, 96, .inl xdb)), (d1c, .inl (cI, 96, .inl xdc)), (d1d, .inl (cI, 96, .inl xdd))]) [3, 4, 0, 1, 2, 5, 6, 7, 8, 9] (by decide) rfl) hS (Nat.le_of_ble_eq_true rfl) (Nat.le_of_ble_eq_true rfl) dX1_would_184
      · have n_55 : hn = ((F.2.1 pn) % 3) := (nI_eq (a := hn) (b := ((F.2.1 pn) % 3)) (by omega) (by omega)).mp c_53
        refine lv_iload hx hb dX1_would_155 (lv_at hl 1 rfl) ?_
        refine lv_if_ne (tgt := 164) hx hb dX1_would_157 (by decide) (fun _ => ?_) (fun c_0 => absurd c_0 (by decide))
        refine lv_iconst (v := 0) hx hb dX1_would_164 (by decide) ?_
        refine lv_goto (tgt := 184) hx hb dX1_would_165 (by decide) ?_
        exact retI C0 rfl () ((congrArg nI (show (wd F O E pn sn qn hn) = 0 from (wd_k5 hk7_32).trans ((if_pos n_55).trans (by have h9_ := sO_lt sn hn; have h8_ :  sO sn hn = 1 := n_7; omega)))).symm) (hP.sub (ws' := [(ad, .inr (1, [.ref af, .ref d1, .ref d2, .ref d3, .ref d4, .int i5, .int i6, .int i7, .int i8, .int i9, .int i10, .int i11])), (af, .inr (2, [.ref ak, .ref av, .ref ar, .int (nI P), .int (nI (ntN O P)), .int (nI Y)])), (ak, .inl (cI, 4, .inl fk)), (av, .inl (cI, 4, .inl fv)), (ar, .inl (cI, 4, .inl fr)), (d1, .inl (cQ, 4, .inr (.inr (.inr (.inr (rf4 d1a d1b d1c d1d)))))), (d1a, .inl (cI, 96, .inl xda)), (d1b, .inl (cI, 96, .inl xdb)), (d1c, .inl (cI, 96, .inl xdc)), (d1d, .inl (cI, 96, .inl xdd))]) [0, 1, 2, 3, 4, 5, 6, 7, 8, 9] rfl) (hD.sub (ws' := [(ad, .inr (1, [.ref af, .ref d1, .ref d2, .ref d3, .ref d4, .int i5, .int i6, .int i7, .int i8, .int i9, .int i10, .int i11])), (af, .inr (2, [.ref ak, .ref av, .ref ar, .int (nI P), .int (nI (ntN O P)), .int (nI Y)])), (ak, .inl (cI, 4, .inl fk)), (av, .inl (cI, 4, .inl fv)), (ar, .inl (cI, 4, .inl fr)), (d1, .inl (cQ, 4, .inr (.inr (.inr (.inr (rf4 d1a d1b d1c d1d)))))), (d1a, .inl (cI, 96, .inl xda)), (d1b, .inl (cI, 96, .inl xdb)), (d1c, .inl (cI, 96, .inl xdc)), (d1d, .inl (cI, 96, .inl xdd))]) [0, 1, 2, 3, 4, 5, 6, 7, 8, 9] (by decide) rfl) hS (Nat.le_of_ble_eq_true rfl) (Nat.le_of_ble_eq_true rfl) dX1_would_184
    · exact absurd hk7_32 hk6

set_option maxHeartbeats 4000000 in
set_option maxRecDepth 100000 in
theorem c_bestRow (l : Launch) (D : va_G) (cI cZ cQ cT : ClassId) (sz : Nat) (ad : Nat) (af : Nat) (d1 : Nat) (d2 : Nat) (d3 : Nat) (d4 : Nat) (i5 : Int32) (i6 : Int32) (i7 : Int32) (i8 : Int32) (i9 : Int32) (i10 : Int32) (i11 : Int32) (ak : Nat) (av : Nat) (ar : Nat) (d1a : Nat) (d1b : Nat) (d1c : Nat) (d1d : Nat) (xda : Nat → Int32) (xdb : Nat → Int32) (xdc : Nat → Int32) (xdd : Nat → Int32) (P : Nat) (pn : Nat) (sn : Nat) (Y : Nat) (F : Fk) (O : Nat → Nat) (E : Ev) (hP4 : P ≤ 4) (hOB : ∀ j, j < 4 → O j < 2) (hpn : pn < P) (hsn : sn < 512) (hW : WR (s4 xda xdb xdc xdd pn) E pn (F.1 pn)) : MetI l yX1_bestRow cX1_bestRow 8 .int ({ frames := 2, cells := 0, slots := 0, locals := 50 } : Room) [.ref ad, .int (nI pn), .int (nI sn)] D (TYS cI cZ cQ cT) EF sz [(ad, .inr (1, [.ref af, .ref d1, .ref d2, .ref d3, .ref d4, .int i5, .int i6, .int i7, .int i8, .int i9, .int i10, .int i11])), (af, .inr (2, [.ref ak, .ref av, .ref ar, .int (nI P), .int (nI (ntN O P)), .int (nI Y)])), (d1, .inl (cQ, 4, .inr (.inr (.inr (.inr (rf4 d1a d1b d1c d1d)))))), (d1a, .inl (cI, 96, .inl xda)), (d1b, .inl (cI, 96, .inl xdb)), (d1c, .inl (cI, 96, .inl xdc)), (d1d, .inl (cI, 96, .inl xdd))] (S := Unit) (fun (r : Int32) (_ : Unit) => r = (nI (besN E (F.1 pn) O pn (sn / 8)))) (fun _ => [(ad, .inr (1, [.ref af, .ref d1, .ref d2, .ref d3, .ref d4, .int i5, .int i6, .int i7, .int i8, .int i9, .int i10, .int i11])), (af, .inr (2, [.ref ak, .ref av, .ref ar, .int (nI P), .int (nI (ntN O P)), .int (nI Y)])), (d1, .inl (cQ, 4, .inr (.inr (.inr (.inr (rf4 d1a d1b d1c d1d)))))), (d1a, .inl (cI, 96, .inl xda)), (d1b, .inl (cI, 96, .inl xdb)), (d1c, .inl (cI, 96, .inl xdc)), (d1d, .inl (cI, 96, .inl xdd))]) := by
  refine MetI.mk (lv := [(0, .ref ad), (1, .int (nI pn)), (2, .int (nI sn))]) (by decide +kernel) (Nat.le_of_ble_eq_true rfl) rfl ?_
  intro p e s m below meth c A ls C0 hP hD hS hX hl
  have C1 := C0
  obtain ⟨hx, hb, hr, hml, hown, hlocks, hname, hT, hN, hK, hA⟩ := C1
  have hd8 := d8_le hP4; have hd0 := d8_pos P
  refine lv_iload_n hx hb dX1_bestRow_0 rfl (lv_at hl 2 rfl) ?_
  refine lv_bipush (v := (-8)) hx hb dX1_bestRow_1 (by decide) ?_
  refine lv_iand hx hb dX1_bestRow_3 ?_
  refine lv_ci (nI (8 * (sn / 8))) (and8 (by omega)) ?_
  refine lv_istore_n (lv' := [(3, .int (nI (8 * (sn / 8)))), (0, .ref ad), (1, .int (nI pn)), (2, .int (nI sn))]) hx hb dX1_bestRow_4 rfl hl (by decide) rfl (fun ls hl => ?_)
  refine lv_iconst (v := 0) hx hb dX1_bestRow_5 (by decide) ?_
  refine lv_istore (lv' := [(4, .int 0), (3, .int (nI (8 * (sn / 8)))), (0, .ref ad), (1, .int (nI pn)), (2, .int (nI sn))]) hx hb dX1_bestRow_6 hl (by decide) rfl (fun ls hl => ?_)
  refine lv_iconst (v := 0) hx hb dX1_bestRow_8 (by decide) ?_
  refine lv_istore (lv' := [(5, .int 0), (4, .int 0), (3, .int (nI (8 * (sn / 8)))), (0, .ref ad), (1, .int (nI pn)), (2, .int (nI sn))]) hx hb dX1_bestRow_9 hl (by decide) rfl (fun ls hl => ?_)
  refine lv_iconst (v := 1) hx hb dX1_bestRow_11 (by decide) ?_
  refine lv_istore (lv' := [(6, .int 1), (5, .int 0), (4, .int 0), (3, .int (nI (8 * (sn / 8)))), (0, .ref ad), (1, .int (nI pn)), (2, .int (nI sn))]) hx hb dX1_bestRow_12 hl (by decide) rfl (fun ls hl => ?_)
  have LOOP_1 : ∀ (fu_ : Nat) (r_ : Nat) (b_ : Nat) (m_ : Int32) (H : Heap) (locs : List Loc) (ls : Array Slot), (8 - r_) < fu_ → (r_ ≤ 8) → (1 ≤ r_) → (b_ = (bS E (F.1 pn) O pn (sn / 8) r_).1) → (m_ = (bS E (F.1 pn) O pn (sn / 8) r_).2) → va_P D CL [(ad, .inr (1, [.ref af, .ref d1, .ref d2, .ref d3, .ref d4, .int i5, .int i6, .int i7, .int i8, .int i9, .int i10, .int i11])), (af, .inr (2, [.ref ak, .ref av, .ref ar, .int (nI P), .int (nI (ntN O P)), .int (nI Y)])), (d1, .inl (cQ, 4, .inr (.inr (.inr (.inr (rf4 d1a d1b d1c d1d)))))), (d1a, .inl (cI, 96, .inl xda)), (d1b, .inl (cI, 96, .inl xdb)), (d1c, .inl (cI, 96, .inl xdc)), (d1d, .inl (cI, 96, .inl xdd))] H → va_D A [(ad, .inr (1, [.ref af, .ref d1, .ref d2, .ref d3, .ref d4, .int i5, .int i6, .int i7, .int i8, .int i9, .int i10, .int i11])), (af, .inr (2, [.ref ak, .ref av, .ref ar, .int (nI P), .int (nI (ntN O P)), .int (nI Y)])), (d1, .inl (cQ, 4, .inr (.inr (.inr (.inr (rf4 d1a d1b d1c d1d)))))), (d1a, .inl (cI, 96, .inl xda)), (d1b, .inl (cI, 96, .inl xdb)), (d1c, .inl (cI, 96, .inl xdc)), (d1d, .inl (cI, 96, .inl xdd))] → va_S A s.heap H locs → lv_has ls 8 [(0, .ref ad), (1, .int (nI pn)), (2, .int (nI sn)), (3, .int (nI (8 * (sn / 8)))), (4, .int (nI b_)), (5, .int m_), (6, .int (nI r_))] → W p l e ({ frames := 2, cells := 0, slots := 0, locals := 50 } : Room) s m [.ref ad, .int (nI pn), .int (nI sn)].toArray below meth c H locs 0 0 (MQ below (va_Qi (S := Unit) (fun (r : Int32) (_ : Unit) => r = (nI (besN E (F.1 pn) O pn (sn / 8)))) (fun _ => wE D (TYS cI cZ cQ cT) A [(ad, .inr (1, [.ref af, .ref d1, .ref d2, .ref d3, .ref d4, .int i5, .int i6, .int i7, .int i8, .int i9, .int i10, .int i11])), (af, .inr (2, [.ref ak, .ref av, .ref ar, .int (nI P), .int (nI (ntN O P)), .int (nI Y)])), (d1, .inl (cQ, 4, .inr (.inr (.inr (.inr (rf4 d1a d1b d1c d1d)))))), (d1a, .inl (cI, 96, .inl xda)), (d1b, .inl (cI, 96, .inl xdb)), (d1c, .inl (cI, 96, .inl xdc)), (d1d, .inl (cI, 96, .inl xdd))]) A) [.ref ad, .int (nI pn), .int (nI sn)].toArray s 0 0 A) (F0 m 14 ls [])  := by
    intro fu_
    induction fu_ with
    | zero => intro r_ b_ m_ H locs ls hk_; exact absurd hk_ (Nat.not_lt_zero _)
    | succ fu_ ih_2 =>
      intro r_ b_ m_ H locs ls hk_ i1 i0 ib im hP hD hS hl
      refine lv_iload hx hb dX1_bestRow_14 (lv_at hl 6 rfl) ?_
      refine lv_bipush (v := 8) hx hb dX1_bestRow_16 (by decide) ?_
      refine lv_icmp_ge (tgt := 53) hx hb dX1_bestRow_18 (by decide) (fun c_3 => ?_) (fun c_3 => ?_)
      · have n_4 : 8 ≤ r_ := (nI_leI (a := 8) (b := r_) (by omega) (by omega)).mp c_3
        refine lv_iload hx hb dX1_bestRow_53 (lv_at hl 4 rfl) ?_
        exact retI C0 rfl () (congrArg nI (by rw [ib, show r_ = 8 by omega]; rfl)) (hP.sub (ws' := [(ad, .inr (1, [.ref af, .ref d1, .ref d2, .ref d3, .ref d4, .int i5, .int i6, .int i7, .int i8, .int i9, .int i10, .int i11])), (af, .inr (2, [.ref ak, .ref av, .ref ar, .int (nI P), .int (nI (ntN O P)), .int (nI Y)])), (d1, .inl (cQ, 4, .inr (.inr (.inr (.inr (rf4 d1a d1b d1c d1d)))))), (d1a, .inl (cI, 96, .inl xda)), (d1b, .inl (cI, 96, .inl xdb)), (d1c, .inl (cI, 96, .inl xdc)), (d1d, .inl (cI, 96, .inl xdd))]) [0, 1, 2, 3, 4, 5, 6] rfl) (hD.sub (ws' := [(ad, .inr (1, [.ref af, .ref d1, .ref d2, .ref d3, .ref d4, .int i5, .int i6, .int i7, .int i8, .int i9, .int i10, .int i11])), (af, .inr (2, [.ref ak, .ref av, .ref ar, .int (nI P), .int (nI (ntN O P)), .int (nI Y)])), (d1, .inl (cQ, 4, .inr (.inr (.inr (.inr (rf4 d1a d1b d1c d1d)))))), (d1a, .inl (cI, 96, .inl xda)), (d1b, .inl (cI, 96, .inl xdb)), (d1c, .inl (cI, 96, .inl xdc)), (d1d, .inl (cI, 96, .inl xdd))]) [0, 1, 2, 3, 4, 5, 6] (by decide) rfl) hS (Nat.le_of_ble_eq_true rfl) (Nat.le_of_ble_eq_true rfl) dX1_bestRow_55
      · have n_5 : ¬ 8 ≤ r_ := fun hx9_ => c_3 ((nI_leI (a := 8) (b := r_) (by omega) (by omega)).mpr hx9_)
        refine lv_aload_n hx hb dX1_bestRow_21 rfl (lv_at hl 0 rfl) ?_
        refine lv_iload_n hx hb dX1_bestRow_22 rfl (lv_at hl 1 rfl) ?_
        refine lv_iload_n hx hb dX1_bestRow_23 rfl (lv_at hl 3 rfl) ?_
        refine lv_iload hx hb dX1_bestRow_24 (lv_at hl 6 rfl) ?_
        refine lv_ior hx hb dX1_bestRow_26 ?_
        refine lv_ci (nI ((8 * (sn / 8)) + r_)) (or_lo (by omega)) ?_
        refine contI (wc := [(ad, .inr (1, [.ref af, .ref d1, .ref d2, .ref d3, .ref d4, .int i5, .int i6, .int i7, .int i8, .int i9, .int i10, .int i11])), (af, .inr (2, [.ref ak, .ref av, .ref ar, .int (nI P), .int (nI (ntN O P)), .int (nI Y)])), (d1, .inl (cQ, 4, .inr (.inr (.inr (.inr (rf4 d1a d1b d1c d1d)))))), (d1a, .inl (cI, 96, .inl xda)), (d1b, .inl (cI, 96, .inl xdb)), (d1c, .inl (cI, 96, .inl xdc)), (d1d, .inl (cI, 96, .inl xdd))]) (wr := []) C0 hP hD hS [0, 1, 2, 3, 4, 5, 6] [] rfl rfl (by decide) (by decide) 0 0 (Nat.le_of_ble_eq_true rfl) (Nat.le_of_ble_eq_true rfl) (runV (k := 2) (As := [.int (nI pn), .int (nI ((8 * (sn / 8)) + r_))]) (rest := []) C0 (c_gain l D cI cZ cQ cT _ ad af d1 d2 d3 d4 i5 i6 i7 i8 i9 i10 i11 ak av ar d1a d1b d1c d1d xda xdb xdc xdd P pn ((8 * (sn / 8)) + r_) Y F O E (by omega) hOB (by omega) (by omega) hW) wc_X1_gain wl_X1_97 wi_X1_gain we_X1_gain wz_X1 ⟨by decide, by decide, by decide +kernel⟩ ⟨(Nat.le_of_ble_eq_true rfl), (Nat.le_of_ble_eq_true rfl)⟩ hP hD hS EF.ok hX [0, 1, 2, 3, 4, 5, 6] rfl (by decide) 0 rfl rfl rfl rfl hl.1 rfl (Nat.le_of_ble_eq_true rfl) dX1_bestRow_27 ⟨(Nat.le_of_ble_eq_true rfl), (Nat.le_of_ble_eq_true rfl)⟩) (fun r_8 u_6 H locs w_7 hP hD hS => ?_)
        have hP : va_P D CL [(ad, .inr (1, [.ref af, .ref d1, .ref d2, .ref d3, .ref d4, .int i5, .int i6, .int i7, .int i8, .int i9, .int i10, .int i11])), (af, .inr (2, [.ref ak, .ref av, .ref ar, .int (nI P), .int (nI (ntN O P)), .int (nI Y)])), (d1, .inl (cQ, 4, .inr (.inr (.inr (.inr (rf4 d1a d1b d1c d1d)))))), (d1a, .inl (cI, 96, .inl xda)), (d1b, .inl (cI, 96, .inl xdb)), (d1c, .inl (cI, 96, .inl xdc)), (d1d, .inl (cI, 96, .inl xdd))] H := hP
        have hD : va_D A [(ad, .inr (1, [.ref af, .ref d1, .ref d2, .ref d3, .ref d4, .int i5, .int i6, .int i7, .int i8, .int i9, .int i10, .int i11])), (af, .inr (2, [.ref ak, .ref av, .ref ar, .int (nI P), .int (nI (ntN O P)), .int (nI Y)])), (d1, .inl (cQ, 4, .inr (.inr (.inr (.inr (rf4 d1a d1b d1c d1d)))))), (d1a, .inl (cI, 96, .inl xda)), (d1b, .inl (cI, 96, .inl xdb)), (d1c, .inl (cI, 96, .inl xdc)), (d1d, .inl (cI, 96, .inl xdd))] := hD
        obtain rfl : r_8 = (gS E (F.1 pn) O pn ((8 * (sn / 8)) + r_) 3) := w_7
        refine lv_istore (lv' := [(7, .int (gS E (F.1 pn) O pn ((8 * (sn / 8)) + r_) 3)), (0, .ref ad), (1, .int (nI pn)), (2, .int (nI sn)), (3, .int (nI (8 * (sn / 8)))), (4, .int (nI b_)), (5, .int m_), (6, .int (nI r_))]) hx hb dX1_bestRow_30 hl (by decide) rfl (fun ls hl => ?_)
        refine lv_iload hx hb dX1_bestRow_32 (lv_at hl 0 rfl) ?_
        refine lv_iload hx hb dX1_bestRow_34 (lv_at hl 6 rfl) ?_
        refine lv_icmp_le (tgt := 47) hx hb dX1_bestRow_36 (by decide) (fun c_9 => ?_) (fun c_9 => ?_)
        · refine lv_iinc (v := (nI (r_ + 1))) (lv' := [(6, .int (nI (r_ + 1))), (7, .int (gS E (F.1 pn) O pn ((8 * (sn / 8)) + r_) 3)), (0, .ref ad), (1, .int (nI pn)), (2, .int (nI sn)), (3, .int (nI (8 * (sn / 8)))), (4, .int (nI b_)), (5, .int m_)]) hx hb dX1_bestRow_47 hl (k := 7) rfl (nI_succ _).symm (by decide) rfl (fun ls hl => ?_)
          refine lv_goto (tgt := 14) hx hb dX1_bestRow_50 (by decide) ?_
          exact ih_2 (r_ + 1) b_ m_ _ _ _ (by omega) (by omega) (by omega) (by rw [bS_0 (by omega) (by rw [← im]; exact Int32.not_lt.mpr c_9)]; exact ib) (by rw [bS_0 (by omega) (by rw [← im]; exact Int32.not_lt.mpr c_9)]; exact im) (hP.sub (ws' := [(ad, .inr (1, [.ref af, .ref d1, .ref d2, .ref d3, .ref d4, .int i5, .int i6, .int i7, .int i8, .int i9, .int i10, .int i11])), (af, .inr (2, [.ref ak, .ref av, .ref ar, .int (nI P), .int (nI (ntN O P)), .int (nI Y)])), (d1, .inl (cQ, 4, .inr (.inr (.inr (.inr (rf4 d1a d1b d1c d1d)))))), (d1a, .inl (cI, 96, .inl xda)), (d1b, .inl (cI, 96, .inl xdb)), (d1c, .inl (cI, 96, .inl xdc)), (d1d, .inl (cI, 96, .inl xdd))]) [0, 1, 2, 3, 4, 5, 6] rfl) (hD.sub (ws' := [(ad, .inr (1, [.ref af, .ref d1, .ref d2, .ref d3, .ref d4, .int i5, .int i6, .int i7, .int i8, .int i9, .int i10, .int i11])), (af, .inr (2, [.ref ak, .ref av, .ref ar, .int (nI P), .int (nI (ntN O P)), .int (nI Y)])), (d1, .inl (cQ, 4, .inr (.inr (.inr (.inr (rf4 d1a d1b d1c d1d)))))), (d1a, .inl (cI, 96, .inl xda)), (d1b, .inl (cI, 96, .inl xdb)), (d1c, .inl (cI, 96, .inl xdc)), (d1d, .inl (cI, 96, .inl xdd))]) [0, 1, 2, 3, 4, 5, 6] (by decide) rfl) hS (lv_sub hl [2, 3, 4, 5, 6, 7, 0] rfl)
        · refine lv_iload hx hb dX1_bestRow_39 (lv_at hl 0 rfl) ?_
          refine lv_istore (lv' := [(5, .int (gS E (F.1 pn) O pn ((8 * (sn / 8)) + r_) 3)), (7, .int (gS E (F.1 pn) O pn ((8 * (sn / 8)) + r_) 3)), (0, .ref ad), (1, .int (nI pn)), (2, .int (nI sn)), (3, .int (nI (8 * (sn / 8)))), (4, .int (nI b_)), (6, .int (nI r_))]) hx hb dX1_bestRow_41 hl (by decide) rfl (fun ls hl => ?_)
          refine lv_iload hx hb dX1_bestRow_43 (lv_at hl 7 rfl) ?_
          refine lv_istore (lv' := [(4, .int (nI r_)), (5, .int (gS E (F.1 pn) O pn ((8 * (sn / 8)) + r_) 3)), (7, .int (gS E (F.1 pn) O pn ((8 * (sn / 8)) + r_) 3)), (0, .ref ad), (1, .int (nI pn)), (2, .int (nI sn)), (3, .int (nI (8 * (sn / 8)))), (6, .int (nI r_))]) hx hb dX1_bestRow_45 hl (by decide) rfl (fun ls hl => ?_)
          refine lv_iinc (v := (nI (r_ + 1))) (lv' := [(6, .int (nI (r_ + 1))), (4, .int (nI r_)), (5, .int (gS E (F.1 pn) O pn ((8 * (sn / 8)) + r_) 3)), (7, .int (gS E (F.1 pn) O pn ((8 * (sn / 8)) + r_) 3)), (0, .ref ad), (1, .int (nI pn)), (2, .int (nI sn)), (3, .int (nI (8 * (sn / 8))))]) hx hb dX1_bestRow_47 hl (k := 7) rfl (nI_succ _).symm (by decide) rfl (fun ls hl => ?_)
          refine lv_goto (tgt := 14) hx hb dX1_bestRow_50 (by decide) ?_
          exact ih_2 (r_ + 1) r_ (gS E (F.1 pn) O pn ((8 * (sn / 8)) + r_) 3) _ _ _ (by omega) (by omega) (by omega) (by rw [bS_1 (Or.inr (by rw [← im]; exact Int32.not_le.mp c_9))]) (by rw [bS_1 (Or.inr (by rw [← im]; exact Int32.not_le.mp c_9))]) (hP.sub (ws' := [(ad, .inr (1, [.ref af, .ref d1, .ref d2, .ref d3, .ref d4, .int i5, .int i6, .int i7, .int i8, .int i9, .int i10, .int i11])), (af, .inr (2, [.ref ak, .ref av, .ref ar, .int (nI P), .int (nI (ntN O P)), .int (nI Y)])), (d1, .inl (cQ, 4, .inr (.inr (.inr (.inr (rf4 d1a d1b d1c d1d)))))), (d1a, .inl (cI, 96, .inl xda)), (d1b, .inl (cI, 96, .inl xdb)), (d1c, .inl (cI, 96, .inl xdc)), (d1d, .inl (cI, 96, .inl xdd))]) [0, 1, 2, 3, 4, 5, 6] rfl) (hD.sub (ws' := [(ad, .inr (1, [.ref af, .ref d1, .ref d2, .ref d3, .ref d4, .int i5, .int i6, .int i7, .int i8, .int i9, .int i10, .int i11])), (af, .inr (2, [.ref ak, .ref av, .ref ar, .int (nI P), .int (nI (ntN O P)), .int (nI Y)])), (d1, .inl (cQ, 4, .inr (.inr (.inr (.inr (rf4 d1a d1b d1c d1d)))))), (d1a, .inl (cI, 96, .inl xda)), (d1b, .inl (cI, 96, .inl xdb)), (d1c, .inl (cI, 96, .inl xdc)), (d1d, .inl (cI, 96, .inl xdd))]) [0, 1, 2, 3, 4, 5, 6] (by decide) rfl) hS (lv_sub hl [4, 5, 6, 7, 1, 2, 0] rfl)
  exact LOOP_1 ((8 - 1) + 1) 1 0 (0 : Int32) _ _ _ (Nat.lt_succ_self _) (by omega) (by omega) (by rw [bS_one]) (by rw [bS_one]) (hP.sub (ws' := [(ad, .inr (1, [.ref af, .ref d1, .ref d2, .ref d3, .ref d4, .int i5, .int i6, .int i7, .int i8, .int i9, .int i10, .int i11])), (af, .inr (2, [.ref ak, .ref av, .ref ar, .int (nI P), .int (nI (ntN O P)), .int (nI Y)])), (d1, .inl (cQ, 4, .inr (.inr (.inr (.inr (rf4 d1a d1b d1c d1d)))))), (d1a, .inl (cI, 96, .inl xda)), (d1b, .inl (cI, 96, .inl xdb)), (d1c, .inl (cI, 96, .inl xdc)), (d1d, .inl (cI, 96, .inl xdd))]) [0, 1, 2, 3, 4, 5, 6] rfl) (hD.sub (ws' := [(ad, .inr (1, [.ref af, .ref d1, .ref d2, .ref d3, .ref d4, .int i5, .int i6, .int i7, .int i8, .int i9, .int i10, .int i11])), (af, .inr (2, [.ref ak, .ref av, .ref ar, .int (nI P), .int (nI (ntN O P)), .int (nI Y)])), (d1, .inl (cQ, 4, .inr (.inr (.inr (.inr (rf4 d1a d1b d1c d1d)))))), (d1a, .inl (cI, 96, .inl xda)), (d1b, .inl (cI, 96, .inl xdb)), (d1c, .inl (cI, 96, .inl xdc)), (d1d, .inl (cI, 96, .inl xdd))]) [0, 1, 2, 3, 4, 5, 6] (by decide) rfl) hS (lv_sub hl [4, 5, 6, 3, 2, 1, 0] rfl)

set_option maxHeartbeats 4000000 in
set_option maxRecDepth 100000 in
theorem c_rowAt (l : Launch) (D : va_G) (cI cZ cQ cT : ClassId) (sz : Nat) (ad : Nat) (af : Nat) (d1 : Nat) (d2 : Nat) (d3 : Nat) (d4 : Nat) (i5 : Int32) (i6 : Int32) (i7 : Int32) (i8 : Int32) (i9 : Int32) (i10 : Int32) (i11 : Int32) (ak : Nat) (av : Nat) (ar : Nat) (fk : Nat → Int32) (fv : Nat → Int32) (fr : Nat → Int32) (d1a : Nat) (d1b : Nat) (d1c : Nat) (d1d : Nat) (xda : Nat → Int32) (xdb : Nat → Int32) (xdc : Nat → Int32) (xdd : Nat → Int32) (P : Nat) (pn : Nat) (sn : Nat) (qn : Nat) (Y : Nat) (F : Fk) (O : Nat → Nat) (E : Ev) (hP4 : P ≤ 4) (hC : CF fk fv fr F) (hB : FB F) (hOB : ∀ j, j < 4 → O j < 2) (hpn : pn < P) (hsn : sn < 512) (hqn : qn < 512) (hW : WR (s4 xda xdb xdc xdd pn) E pn (F.1 pn)) : MetI l yX1_rowAt cX1_rowAt 7 .int ({ frames := 3, cells := 0, slots := 0, locals := 77 } : Room) [.ref ad, .int (nI pn), .int (nI sn), .int (nI qn)] D (TYS cI cZ cQ cT) EF sz [(ad, .inr (1, [.ref af, .ref d1, .ref d2, .ref d3, .ref d4, .int i5, .int i6, .int i7, .int i8, .int i9, .int i10, .int i11])), (af, .inr (2, [.ref ak, .ref av, .ref ar, .int (nI P), .int (nI (ntN O P)), .int (nI Y)])), (ak, .inl (cI, 4, .inl fk)), (av, .inl (cI, 4, .inl fv)), (ar, .inl (cI, 4, .inl fr)), (d1, .inl (cQ, 4, .inr (.inr (.inr (.inr (rf4 d1a d1b d1c d1d)))))), (d1a, .inl (cI, 96, .inl xda)), (d1b, .inl (cI, 96, .inl xdb)), (d1c, .inl (cI, 96, .inl xdc)), (d1d, .inl (cI, 96, .inl xdd))] (S := Unit) (fun (r : Int32) (_ : Unit) => r = (nI (rwN F O E pn sn qn))) (fun _ => [(ad, .inr (1, [.ref af, .ref d1, .ref d2, .ref d3, .ref d4, .int i5, .int i6, .int i7, .int i8, .int i9, .int i10, .int i11])), (af, .inr (2, [.ref ak, .ref av, .ref ar, .int (nI P), .int (nI (ntN O P)), .int (nI Y)])), (ak, .inl (cI, 4, .inl fk)), (av, .inl (cI, 4, .inl fv)), (ar, .inl (cI, 4, .inl fr)), (d1, .inl (cQ, 4, .inr (.inr (.inr (.inr (rf4 d1a d1b d1c d1d)))))), (d1a, .inl (cI, 96, .inl xda)), (d1b, .inl (cI, 96, .inl xdb)), (d1c, .inl (cI, 96, .inl xdc)), (d1d, .inl (cI, 96, .inl xdd))]) := by
  refine MetI.mk (lv := [(0, .ref ad), (1, .int (nI pn)), (2, .int (nI sn)), (3, .int (nI qn))]) (by decide +kernel) (Nat.le_of_ble_eq_true rfl) rfl ?_
  intro p e s m below meth c A ls C0 hP hD hS hX hl
  have C1 := C0
  obtain ⟨hx, hb, hr, hml, hown, hlocks, hname, hT, hN, hK, hA⟩ := C1
  have hd8 := d8_le hP4; have hd0 := d8_pos P
  refine lv_aload_n hx hb dX1_rowAt_0 rfl (lv_at hl 0 rfl) ?_
  refine va_get (ci := 1) (v := .ref af) (C := RX1) (T := TX1) (N := 12) hx hb hT wu_X1 hown hK hP 0 rfl rfl 0 (by decide) (hT _ wf_X1_26) (fun _ h9 => h9) rfl dX1_rowAt_1 ?_
  refine va_getN (ci := 2) (v := .ref ak) (C := RX2) (T := TX2) (N := 6) hx hb hT wu_X2 hown hK hP 1 rfl rfl 0 (by decide) (va_Nw.use rfl (hN.get 134 kf_X1_57 rfl)) (fun _ h9 => h9) rfl dX1_rowAt_4 ?_
  refine lv_iload_n hx hb dX1_rowAt_7 rfl (lv_at hl 1 rfl) ?_
  refine va_iald hx hb hK hP 2 0 rfl rfl (vp_in_nI (n := pn) (by omega) (by decide)) dX1_rowAt_8 ?_
  refine lv_ci (fk pn) (congrArg fk (nI_clamp (n := pn) (by omega))) ?_
  have hb_1 := hB.1 pn (by omega)
  refine lv_ci (nI (F.1 pn)) (hC.1.g0 (by omega)) ?_
  refine lv_istore (lv' := [(4, .int (nI (F.1 pn))), (0, .ref ad), (1, .int (nI pn)), (2, .int (nI sn)), (3, .int (nI qn))]) hx hb dX1_rowAt_9 hl (by decide) rfl (fun ls hl => ?_)
  refine lv_iload hx hb dX1_rowAt_11 (lv_at hl 0 rfl) ?_
  refine lv_bipush (v := 6) hx hb dX1_rowAt_13 (by decide) ?_
  refine lv_icmp_ne (tgt := 28) hx hb dX1_rowAt_15 (by decide) (fun c_2 => ?_) (fun c_2 => ?_)
  · have n_3 : ¬ (F.1 pn) = 6 := fun hx9_ => c_2 ((nI_eq (a := (F.1 pn)) (b := 6) (by omega) (by omega)).mpr hx9_)
    refine lv_iload hx hb dX1_rowAt_28 (lv_at hl 0 rfl) ?_
    refine lv_iconst (v := 1) hx hb dX1_rowAt_30 (by decide) ?_
    refine lv_icmp_ne (tgt := 41) hx hb dX1_rowAt_31 (by decide) (fun c_5 => ?_) (fun c_5 => ?_)
    · have n_6 : ¬ (F.1 pn) = 1 := fun hx9_ => c_5 ((nI_eq (a := (F.1 pn)) (b := 1) (by omega) (by omega)).mpr hx9_)
      refine lv_iconst (v := 0) hx hb dX1_rowAt_41 (by decide) ?_
      refine lv_istore (lv' := [(5, .int 0), (4, .int (nI (F.1 pn))), (0, .ref ad), (1, .int (nI pn)), (2, .int (nI sn)), (3, .int (nI qn))]) hx hb dX1_rowAt_42 hl (by decide) rfl (fun ls hl => ?_)
      refine lv_iconst (v := 0) hx hb dX1_rowAt_44 (by decide) ?_
      refine lv_istore (lv' := [(6, .int 0), (5, .int 0), (4, .int (nI (F.1 pn))), (0, .ref ad), (1, .int (nI pn)), (2, .int (nI sn)), (3, .int (nI qn))]) hx hb dX1_rowAt_45 hl (by decide) rfl (fun ls hl => ?_)
      have LOOP_8 : ∀ (fu_ : Nat) (h_ : Nat) (r_ : Nat) (H : Heap) (locs : List Loc) (ls : Array Slot), (3 - h_) < fu_ → (h_ ≤ 3) → (r_ = prN F O E pn sn qn h_) → va_P D CL [(ad, .inr (1, [.ref af, .ref d1, .ref d2, .ref d3, .ref d4, .int i5, .int i6, .int i7, .int i8, .int i9, .int i10, .int i11])), (af, .inr (2, [.ref ak, .ref av, .ref ar, .int (nI P), .int (nI (ntN O P)), .int (nI Y)])), (ak, .inl (cI, 4, .inl fk)), (av, .inl (cI, 4, .inl fv)), (ar, .inl (cI, 4, .inl fr)), (d1, .inl (cQ, 4, .inr (.inr (.inr (.inr (rf4 d1a d1b d1c d1d)))))), (d1a, .inl (cI, 96, .inl xda)), (d1b, .inl (cI, 96, .inl xdb)), (d1c, .inl (cI, 96, .inl xdc)), (d1d, .inl (cI, 96, .inl xdd))] H → va_D A [(ad, .inr (1, [.ref af, .ref d1, .ref d2, .ref d3, .ref d4, .int i5, .int i6, .int i7, .int i8, .int i9, .int i10, .int i11])), (af, .inr (2, [.ref ak, .ref av, .ref ar, .int (nI P), .int (nI (ntN O P)), .int (nI Y)])), (ak, .inl (cI, 4, .inl fk)), (av, .inl (cI, 4, .inl fv)), (ar, .inl (cI, 4, .inl fr)), (d1, .inl (cQ, 4, .inr (.inr (.inr (.inr (rf4 d1a d1b d1c d1d)))))), (d1a, .inl (cI, 96, .inl xda)), (d1b, .inl (cI, 96, .inl xdb)), (d1c, .inl (cI, 96, .inl xdc)), (d1d, .inl (cI, 96, .inl xdd))] → va_S A s.heap H locs → lv_has ls 7 [(0, .ref ad), (1, .int (nI pn)), (2, .int (nI sn)), (3, .int (nI qn)), (4, .int (nI (F.1 pn))), (5, .int (nI r_)), (6, .int (nI h_))] → W p l e ({ frames := 3, cells := 0, slots := 0, locals := 77 } : Room) s m [.ref ad, .int (nI pn), .int (nI sn), .int (nI qn)].toArray below meth c H locs 0 0 (MQ below (va_Qi (S := Unit) (fun (r : Int32) (_ : Unit) => r = (nI (rwN F O E pn sn qn))) (fun _ => wE D (TYS cI cZ cQ cT) A [(ad, .inr (1, [.ref af, .ref d1, .ref d2, .ref d3, .ref d4, .int i5, .int i6, .int i7, .int i8, .int i9, .int i10, .int i11])), (af, .inr (2, [.ref ak, .ref av, .ref ar, .int (nI P), .int (nI (ntN O P)), .int (nI Y)])), (ak, .inl (cI, 4, .inl fk)), (av, .inl (cI, 4, .inl fv)), (ar, .inl (cI, 4, .inl fr)), (d1, .inl (cQ, 4, .inr (.inr (.inr (.inr (rf4 d1a d1b d1c d1d)))))), (d1a, .inl (cI, 96, .inl xda)), (d1b, .inl (cI, 96, .inl xdb)), (d1c, .inl (cI, 96, .inl xdc)), (d1d, .inl (cI, 96, .inl xdd))]) A) [.ref ad, .int (nI pn), .int (nI sn), .int (nI qn)].toArray s 0 0 A) (F0 m 47 ls [])  := by
        intro fu_
        induction fu_ with
        | zero => intro h_ r_ H locs ls hk_; exact absurd hk_ (Nat.not_lt_zero _)
        | succ fu_ ih_9 =>
          intro h_ r_ H locs ls hk_ i1 i2 hP hD hS hl
          refine lv_iload hx hb dX1_rowAt_47 (lv_at hl 6 rfl) ?_
          refine lv_iconst (v := 3) hx hb dX1_rowAt_49 (by decide) ?_
          refine lv_icmp_ge (tgt := 80) hx hb dX1_rowAt_50 (by decide) (fun c_10 => ?_) (fun c_10 => ?_)
          · have n_11 : 3 ≤ h_ := (nI_leI (a := 3) (b := h_) (by omega) (by omega)).mp c_10
            refine lv_iload hx hb dX1_rowAt_80 (lv_at hl 5 rfl) ?_
            exact retI C0 rfl () (congrArg nI (by rw [i2, show h_ = 3 by omega]; exact prN_3)) (hP.sub (ws' := [(ad, .inr (1, [.ref af, .ref d1, .ref d2, .ref d3, .ref d4, .int i5, .int i6, .int i7, .int i8, .int i9, .int i10, .int i11])), (af, .inr (2, [.ref ak, .ref av, .ref ar, .int (nI P), .int (nI (ntN O P)), .int (nI Y)])), (ak, .inl (cI, 4, .inl fk)), (av, .inl (cI, 4, .inl fv)), (ar, .inl (cI, 4, .inl fr)), (d1, .inl (cQ, 4, .inr (.inr (.inr (.inr (rf4 d1a d1b d1c d1d)))))), (d1a, .inl (cI, 96, .inl xda)), (d1b, .inl (cI, 96, .inl xdb)), (d1c, .inl (cI, 96, .inl xdc)), (d1d, .inl (cI, 96, .inl xdd))]) [0, 1, 2, 3, 4, 5, 6, 7, 8, 9] rfl) (hD.sub (ws' := [(ad, .inr (1, [.ref af, .ref d1, .ref d2, .ref d3, .ref d4, .int i5, .int i6, .int i7, .int i8, .int i9, .int i10, .int i11])), (af, .inr (2, [.ref ak, .ref av, .ref ar, .int (nI P), .int (nI (ntN O P)), .int (nI Y)])), (ak, .inl (cI, 4, .inl fk)), (av, .inl (cI, 4, .inl fv)), (ar, .inl (cI, 4, .inl fr)), (d1, .inl (cQ, 4, .inr (.inr (.inr (.inr (rf4 d1a d1b d1c d1d)))))), (d1a, .inl (cI, 96, .inl xda)), (d1b, .inl (cI, 96, .inl xdb)), (d1c, .inl (cI, 96, .inl xdc)), (d1d, .inl (cI, 96, .inl xdd))]) [0, 1, 2, 3, 4, 5, 6, 7, 8, 9] (by decide) rfl) hS (Nat.le_of_ble_eq_true rfl) (Nat.le_of_ble_eq_true rfl) dX1_rowAt_82
          · have n_12 : ¬ 3 ≤ h_ := fun hx9_ => c_10 ((nI_leI (a := 3) (b := h_) (by omega) (by omega)).mpr hx9_)
            refine lv_aload_n hx hb dX1_rowAt_53 rfl (lv_at hl 0 rfl) ?_
            refine lv_iload_n hx hb dX1_rowAt_54 rfl (lv_at hl 1 rfl) ?_
            refine lv_iload hx hb dX1_rowAt_55 (lv_at hl 6 rfl) ?_
            refine lv_iload_n hx hb dX1_rowAt_57 rfl (lv_at hl 2 rfl) ?_
            refine lv_iload_n hx hb dX1_rowAt_58 rfl (lv_at hl 3 rfl) ?_
            refine contI (wc := [(ad, .inr (1, [.ref af, .ref d1, .ref d2, .ref d3, .ref d4, .int i5, .int i6, .int i7, .int i8, .int i9, .int i10, .int i11])), (af, .inr (2, [.ref ak, .ref av, .ref ar, .int (nI P), .int (nI (ntN O P)), .int (nI Y)])), (ak, .inl (cI, 4, .inl fk)), (av, .inl (cI, 4, .inl fv)), (ar, .inl (cI, 4, .inl fr)), (d1, .inl (cQ, 4, .inr (.inr (.inr (.inr (rf4 d1a d1b d1c d1d)))))), (d1a, .inl (cI, 96, .inl xda)), (d1b, .inl (cI, 96, .inl xdb)), (d1c, .inl (cI, 96, .inl xdc)), (d1d, .inl (cI, 96, .inl xdd))]) (wr := []) C0 hP hD hS [0, 1, 2, 3, 4, 5, 6, 7, 8, 9] [] rfl rfl (by decide) (by decide) 0 0 (Nat.le_of_ble_eq_true rfl) (Nat.le_of_ble_eq_true rfl) (runV (k := 4) (As := [.int (nI pn), .int (nI h_), .int (nI sn), .int (nI qn)]) (rest := []) C0 (c_would l D cI cZ cQ cT _ ad af d1 d2 d3 d4 i5 i6 i7 i8 i9 i10 i11 ak av ar fk fv fr d1a d1b d1c d1d xda xdb xdc xdd P pn h_ sn qn Y F O E (by omega) hC hB hOB (by omega) (by omega) (by omega) (by omega) hW n_6 n_3) wc_X1_would wl_X1_93 wi_X1_would we_X1_would wz_X1 ⟨by decide, by decide, by decide +kernel⟩ ⟨(Nat.le_of_ble_eq_true rfl), (Nat.le_of_ble_eq_true rfl)⟩ hP hD hS EF.ok hX [0, 1, 2, 3, 4, 5, 6, 7, 8, 9] rfl (by decide) 0 rfl rfl rfl rfl hl.1 rfl (Nat.le_of_ble_eq_true rfl) dX1_rowAt_59 ⟨(Nat.le_of_ble_eq_true rfl), (Nat.le_of_ble_eq_true rfl)⟩) (fun r_15 u_13 H locs w_14 hP hD hS => ?_)
            have hP : va_P D CL [(ad, .inr (1, [.ref af, .ref d1, .ref d2, .ref d3, .ref d4, .int i5, .int i6, .int i7, .int i8, .int i9, .int i10, .int i11])), (af, .inr (2, [.ref ak, .ref av, .ref ar, .int (nI P), .int (nI (ntN O P)), .int (nI Y)])), (ak, .inl (cI, 4, .inl fk)), (av, .inl (cI, 4, .inl fv)), (ar, .inl (cI, 4, .inl fr)), (d1, .inl (cQ, 4, .inr (.inr (.inr (.inr (rf4 d1a d1b d1c d1d)))))), (d1a, .inl (cI, 96, .inl xda)), (d1b, .inl (cI, 96, .inl xdb)), (d1c, .inl (cI, 96, .inl xdc)), (d1d, .inl (cI, 96, .inl xdd))] H := hP
            have hD : va_D A [(ad, .inr (1, [.ref af, .ref d1, .ref d2, .ref d3, .ref d4, .int i5, .int i6, .int i7, .int i8, .int i9, .int i10, .int i11])), (af, .inr (2, [.ref ak, .ref av, .ref ar, .int (nI P), .int (nI (ntN O P)), .int (nI Y)])), (ak, .inl (cI, 4, .inl fk)), (av, .inl (cI, 4, .inl fv)), (ar, .inl (cI, 4, .inl fr)), (d1, .inl (cQ, 4, .inr (.inr (.inr (.inr (rf4 d1a d1b d1c d1d)))))), (d1a, .inl (cI, 96, .inl xda)), (d1b, .inl (cI, 96, .inl xdb)), (d1c, .inl (cI, 96, .inl xdc)), (d1d, .inl (cI, 96, .inl xdd))] := hD
            have hrs_16 : (wd F O E pn sn qn h_) < 2 := wd_lt
            obtain rfl : r_15 = (nI (wd F O E pn sn qn h_)) := w_14
            refine lv_if_eq (tgt := 74) hx hb dX1_rowAt_62 (by decide) (fun c_17 => ?_) (fun c_17 => ?_)
            · have n_18 : (wd F O E pn sn qn h_) = 0 := (nI_eq (a := (wd F O E pn sn qn h_)) (b := 0) (by omega) (by omega)).mp c_17
              refine lv_iinc (v := (nI (h_ + 1))) (lv' := [(6, .int (nI (h_ + 1))), (0, .ref ad), (1, .int (nI pn)), (2, .int (nI sn)), (3, .int (nI qn)), (4, .int (nI (F.1 pn))), (5, .int (nI r_))]) hx hb dX1_rowAt_74 hl (k := 6) rfl (nI_succ _).symm (by decide) rfl (fun ls hl => ?_)
              refine lv_goto (tgt := 47) hx hb dX1_rowAt_77 (by decide) ?_
              exact ih_9 (h_ + 1) r_ _ _ _ (by omega) (by omega) (by rw [i2]; exact pr_0 n_18) (hP.sub (ws' := [(ad, .inr (1, [.ref af, .ref d1, .ref d2, .ref d3, .ref d4, .int i5, .int i6, .int i7, .int i8, .int i9, .int i10, .int i11])), (af, .inr (2, [.ref ak, .ref av, .ref ar, .int (nI P), .int (nI (ntN O P)), .int (nI Y)])), (ak, .inl (cI, 4, .inl fk)), (av, .inl (cI, 4, .inl fv)), (ar, .inl (cI, 4, .inl fr)), (d1, .inl (cQ, 4, .inr (.inr (.inr (.inr (rf4 d1a d1b d1c d1d)))))), (d1a, .inl (cI, 96, .inl xda)), (d1b, .inl (cI, 96, .inl xdb)), (d1c, .inl (cI, 96, .inl xdc)), (d1d, .inl (cI, 96, .inl xdd))]) [0, 1, 2, 3, 4, 5, 6, 7, 8, 9] rfl) (hD.sub (ws' := [(ad, .inr (1, [.ref af, .ref d1, .ref d2, .ref d3, .ref d4, .int i5, .int i6, .int i7, .int i8, .int i9, .int i10, .int i11])), (af, .inr (2, [.ref ak, .ref av, .ref ar, .int (nI P), .int (nI (ntN O P)), .int (nI Y)])), (ak, .inl (cI, 4, .inl fk)), (av, .inl (cI, 4, .inl fv)), (ar, .inl (cI, 4, .inl fr)), (d1, .inl (cQ, 4, .inr (.inr (.inr (.inr (rf4 d1a d1b d1c d1d)))))), (d1a, .inl (cI, 96, .inl xda)), (d1b, .inl (cI, 96, .inl xdb)), (d1c, .inl (cI, 96, .inl xdc)), (d1d, .inl (cI, 96, .inl xdd))]) [0, 1, 2, 3, 4, 5, 6, 7, 8, 9] (by decide) rfl) hS (lv_sub hl [1, 2, 3, 4, 5, 6, 0] rfl)
            · have n_19 : ¬ (wd F O E pn sn qn h_) = 0 := fun hx9_ => c_17 ((nI_eq (a := (wd F O E pn sn qn h_)) (b := 0) (by omega) (by omega)).mpr hx9_)
              refine lv_iload hx hb dX1_rowAt_65 (lv_at hl 5 rfl) ?_
              refine lv_iconst (v := 1) hx hb dX1_rowAt_67 (by decide) ?_
              refine lv_iload hx hb dX1_rowAt_68 (lv_at hl 6 rfl) ?_
              refine lv_ishl hx hb dX1_rowAt_70 ?_
              refine lv_ci (nI (2 ^ h_)) (bit_sh ⟨h_, by omega⟩) ?_
              refine lv_ior hx hb dX1_rowAt_71 ?_
              refine lv_ci (nI (r_ ||| (2 ^ h_))) (nx_or _ _) ?_
              refine lv_istore (lv' := [(5, .int (nI (r_ ||| (2 ^ h_)))), (0, .ref ad), (1, .int (nI pn)), (2, .int (nI sn)), (3, .int (nI qn)), (4, .int (nI (F.1 pn))), (6, .int (nI h_))]) hx hb dX1_rowAt_72 hl (by decide) rfl (fun ls hl => ?_)
              refine lv_iinc (v := (nI (h_ + 1))) (lv' := [(6, .int (nI (h_ + 1))), (5, .int (nI (r_ ||| (2 ^ h_)))), (0, .ref ad), (1, .int (nI pn)), (2, .int (nI sn)), (3, .int (nI qn)), (4, .int (nI (F.1 pn)))]) hx hb dX1_rowAt_74 hl (k := 6) rfl (nI_succ _).symm (by decide) rfl (fun ls hl => ?_)
              refine lv_goto (tgt := 47) hx hb dX1_rowAt_77 (by decide) ?_
              exact ih_9 (h_ + 1) (r_ ||| (2 ^ h_)) _ _ _ (by omega) (by omega) (by rw [i2]; exact pr_or n_19) (hP.sub (ws' := [(ad, .inr (1, [.ref af, .ref d1, .ref d2, .ref d3, .ref d4, .int i5, .int i6, .int i7, .int i8, .int i9, .int i10, .int i11])), (af, .inr (2, [.ref ak, .ref av, .ref ar, .int (nI P), .int (nI (ntN O P)), .int (nI Y)])), (ak, .inl (cI, 4, .inl fk)), (av, .inl (cI, 4, .inl fv)), (ar, .inl (cI, 4, .inl fr)), (d1, .inl (cQ, 4, .inr (.inr (.inr (.inr (rf4 d1a d1b d1c d1d)))))), (d1a, .inl (cI, 96, .inl xda)), (d1b, .inl (cI, 96, .inl xdb)), (d1c, .inl (cI, 96, .inl xdc)), (d1d, .inl (cI, 96, .inl xdd))]) [0, 1, 2, 3, 4, 5, 6, 7, 8, 9] rfl) (hD.sub (ws' := [(ad, .inr (1, [.ref af, .ref d1, .ref d2, .ref d3, .ref d4, .int i5, .int i6, .int i7, .int i8, .int i9, .int i10, .int i11])), (af, .inr (2, [.ref ak, .ref av, .ref ar, .int (nI P), .int (nI (ntN O P)), .int (nI Y)])), (ak, .inl (cI, 4, .inl fk)), (av, .inl (cI, 4, .inl fv)), (ar, .inl (cI, 4, .inl fr)), (d1, .inl (cQ, 4, .inr (.inr (.inr (.inr (rf4 d1a d1b d1c d1d)))))), (d1a, .inl (cI, 96, .inl xda)), (d1b, .inl (cI, 96, .inl xdb)), (d1c, .inl (cI, 96, .inl xdc)), (d1d, .inl (cI, 96, .inl xdd))]) [0, 1, 2, 3, 4, 5, 6, 7, 8, 9] (by decide) rfl) hS (lv_sub hl [2, 3, 4, 5, 6, 1, 0] rfl)
      exact LOOP_8 ((3 - 0) + 1) 0 0 _ _ _ (Nat.lt_succ_self _) (by omega) rfl (hP.sub (ws' := [(ad, .inr (1, [.ref af, .ref d1, .ref d2, .ref d3, .ref d4, .int i5, .int i6, .int i7, .int i8, .int i9, .int i10, .int i11])), (af, .inr (2, [.ref ak, .ref av, .ref ar, .int (nI P), .int (nI (ntN O P)), .int (nI Y)])), (ak, .inl (cI, 4, .inl fk)), (av, .inl (cI, 4, .inl fv)), (ar, .inl (cI, 4, .inl fr)), (d1, .inl (cQ, 4, .inr (.inr (.inr (.inr (rf4 d1a d1b d1c d1d)))))), (d1a, .inl (cI, 96, .inl xda)), (d1b, .inl (cI, 96, .inl xdb)), (d1c, .inl (cI, 96, .inl xdc)), (d1d, .inl (cI, 96, .inl xdd))]) [0, 1, 2, 3, 4, 5, 6, 7, 8, 9] rfl) (hD.sub (ws' := [(ad, .inr (1, [.ref af, .ref d1, .ref d2, .ref d3, .ref d4, .int i5, .int i6, .int i7, .int i8, .int i9, .int i10, .int i11])), (af, .inr (2, [.ref ak, .ref av, .ref ar, .int (nI P), .int (nI (ntN O P)), .int (nI Y)])), (ak, .inl (cI, 4, .inl fk)), (av, .inl (cI, 4, .inl fv)), (ar, .inl (cI, 4, .inl fr)), (d1, .inl (cQ, 4, .inr (.inr (.inr (.inr (rf4 d1a d1b d1c d1d)))))), (d1a, .inl (cI, 96, .inl xda)), (d1b, .inl (cI, 96, .inl xdb)), (d1c, .inl (cI, 96, .inl xdc)), (d1d, .inl (cI, 96, .inl xdd))]) [0, 1, 2, 3, 4, 5, 6, 7, 8, 9] (by decide) rfl) hS (lv_sub hl [3, 4, 5, 6, 2, 1, 0] rfl)
    · have n_7 : (F.1 pn) = 1 := (nI_eq (a := (F.1 pn)) (b := 1) (by omega) (by omega)).mp c_5
      refine lv_aload_n hx hb dX1_rowAt_34 rfl (lv_at hl 1 rfl) ?_
      refine lv_iload_n hx hb dX1_rowAt_35 rfl (lv_at hl 2 rfl) ?_
      refine lv_iload_n hx hb dX1_rowAt_36 rfl (lv_at hl 3 rfl) ?_
      refine contI (wc := [(ad, .inr (1, [.ref af, .ref d1, .ref d2, .ref d3, .ref d4, .int i5, .int i6, .int i7, .int i8, .int i9, .int i10, .int i11])), (af, .inr (2, [.ref ak, .ref av, .ref ar, .int (nI P), .int (nI (ntN O P)), .int (nI Y)])), (d1, .inl (cQ, 4, .inr (.inr (.inr (.inr (rf4 d1a d1b d1c d1d)))))), (d1a, .inl (cI, 96, .inl xda)), (d1b, .inl (cI, 96, .inl xdb)), (d1c, .inl (cI, 96, .inl xdc)), (d1d, .inl (cI, 96, .inl xdd))]) (wr := [(ak, .inl (cI, 4, .inl fk)), (av, .inl (cI, 4, .inl fv)), (ar, .inl (cI, 4, .inl fr))]) C0 hP hD hS [0, 1, 5, 6, 7, 8, 9] [2, 3, 4] rfl rfl (by decide) (by decide) 0 0 (Nat.le_of_ble_eq_true rfl) (Nat.le_of_ble_eq_true rfl) (runV (k := 2) (As := [.int (nI pn), .int (nI sn)]) (rest := []) C0 (c_bestRow l D cI cZ cQ cT _ ad af d1 d2 d3 d4 i5 i6 i7 i8 i9 i10 i11 ak av ar d1a d1b d1c d1d xda xdb xdc xdd P pn sn Y F O E (by omega) hOB (by omega) (by omega) hW) wc_X1_bestRow wl_X1_90 wi_X1_bestRow we_X1_bestRow wz_X1 ⟨by decide, by decide, by decide +kernel⟩ ⟨(Nat.le_of_ble_eq_true rfl), (Nat.le_of_ble_eq_true rfl)⟩ hP hD hS EF.ok hX [0, 1, 5, 6, 7, 8, 9] rfl (by decide) 0 rfl rfl rfl rfl hl.1 rfl (Nat.le_of_ble_eq_true rfl) dX1_rowAt_37 ⟨(Nat.le_of_ble_eq_true rfl), (Nat.le_of_ble_eq_true rfl)⟩) (fun r_22 u_20 H locs w_21 hP hD hS => ?_)
      have hP : va_P D CL [(ak, .inl (cI, 4, .inl fk)), (av, .inl (cI, 4, .inl fv)), (ar, .inl (cI, 4, .inl fr)), (ad, .inr (1, [.ref af, .ref d1, .ref d2, .ref d3, .ref d4, .int i5, .int i6, .int i7, .int i8, .int i9, .int i10, .int i11])), (af, .inr (2, [.ref ak, .ref av, .ref ar, .int (nI P), .int (nI (ntN O P)), .int (nI Y)])), (d1, .inl (cQ, 4, .inr (.inr (.inr (.inr (rf4 d1a d1b d1c d1d)))))), (d1a, .inl (cI, 96, .inl xda)), (d1b, .inl (cI, 96, .inl xdb)), (d1c, .inl (cI, 96, .inl xdc)), (d1d, .inl (cI, 96, .inl xdd))] H := hP
      have hD : va_D A [(ak, .inl (cI, 4, .inl fk)), (av, .inl (cI, 4, .inl fv)), (ar, .inl (cI, 4, .inl fr)), (ad, .inr (1, [.ref af, .ref d1, .ref d2, .ref d3, .ref d4, .int i5, .int i6, .int i7, .int i8, .int i9, .int i10, .int i11])), (af, .inr (2, [.ref ak, .ref av, .ref ar, .int (nI P), .int (nI (ntN O P)), .int (nI Y)])), (d1, .inl (cQ, 4, .inr (.inr (.inr (.inr (rf4 d1a d1b d1c d1d)))))), (d1a, .inl (cI, 96, .inl xda)), (d1b, .inl (cI, 96, .inl xdb)), (d1c, .inl (cI, 96, .inl xdc)), (d1d, .inl (cI, 96, .inl xdd))] := hD
      have hrs_23 : besN E (F.1 pn) O pn (sn / 8) < 8 := besN_lt
      obtain rfl : r_22 = (nI (besN E (F.1 pn) O pn (sn / 8))) := w_21
      exact retI C0 rfl () (congrArg nI (rwN_best n_7).symm) (hP.sub (ws' := [(ad, .inr (1, [.ref af, .ref d1, .ref d2, .ref d3, .ref d4, .int i5, .int i6, .int i7, .int i8, .int i9, .int i10, .int i11])), (af, .inr (2, [.ref ak, .ref av, .ref ar, .int (nI P), .int (nI (ntN O P)), .int (nI Y)])), (ak, .inl (cI, 4, .inl fk)), (av, .inl (cI, 4, .inl fv)), (ar, .inl (cI, 4, .inl fr)), (d1, .inl (cQ, 4, .inr (.inr (.inr (.inr (rf4 d1a d1b d1c d1d)))))), (d1a, .inl (cI, 96, .inl xda)), (d1b, .inl (cI, 96, .inl xdb)), (d1c, .inl (cI, 96, .inl xdc)), (d1d, .inl (cI, 96, .inl xdd))]) [3, 4, 0, 1, 2, 5, 6, 7, 8, 9] rfl) (hD.sub (ws' := [(ad, .inr (1, [.ref af, .ref d1, .ref d2, .ref d3, .ref d4, .int i5, .int i6, .int i7, .int i8, .int i9, .int i10, .int i11])), (af, .inr (2, [.ref ak, .ref av, .ref ar, .int (nI P), .int (nI (ntN O P)), .int (nI Y)])), (ak, .inl (cI, 4, .inl fk)), (av, .inl (cI, 4, .inl fv)), (ar, .inl (cI, 4, .inl fr)), (d1, .inl (cQ, 4, .inr (.inr (.inr (.inr (rf4 d1a d1b d1c d1d)))))), (d1a, .inl (cI, 96, .inl xda)), (d1b, .inl (cI, 96, .inl xdb)), (d1c, .inl (cI, 96, .inl xdc)), (d1d, .inl (cI, 96, .inl xdd))]) [3, 4, 0, 1, 2, 5, 6, 7, 8, 9] (by decide) rfl) hS (Nat.le_of_ble_eq_true rfl) (Nat.le_of_ble_eq_true rfl) dX1_rowAt_40
  · have n_4 : (F.1 pn) = 6 := (nI_eq (a := (F.1 pn)) (b := 6) (by omega) (by omega)).mp c_2
    refine lv_aload_n hx hb dX1_rowAt_18 rfl (lv_at hl 1 rfl) ?_
    refine va_get (ci := 1) (v := .ref af) (C := RX1) (T := TX1) (N := 12) hx hb hT wu_X1 hown hK hP 0 rfl rfl 0 (by decide) (hT _ wf_X1_26) (fun _ h9 => h9) rfl dX1_rowAt_19 ?_
    refine va_getN (ci := 2) (v := .ref ar) (C := RX2) (T := TX2) (N := 6) hx hb hT wu_X2 hown hK hP 1 rfl rfl 2 (by decide) (va_Nw.use rfl (hN.get 142 kf_X1_87 rfl)) (fun _ h9 => h9) rfl dX1_rowAt_22 ?_
    refine lv_iload_n hx hb dX1_rowAt_25 rfl (lv_at hl 2 rfl) ?_
    refine va_iald hx hb hK hP 4 0 rfl rfl (vp_in_nI (n := pn) (by omega) (by decide)) dX1_rowAt_26 ?_
    refine lv_ci (fr pn) (congrArg fr (nI_clamp (n := pn) (by omega))) ?_
    have hb_24 := hB.2.2 pn (by omega)
    refine lv_ci (nI (F.2.2 pn)) (hC.2.2.g0 (by omega)) ?_
    exact retI C0 rfl () (congrArg nI (rwN_told n_4 (hB.2.2 pn (by omega))).symm) (hP.sub (ws' := [(ad, .inr (1, [.ref af, .ref d1, .ref d2, .ref d3, .ref d4, .int i5, .int i6, .int i7, .int i8, .int i9, .int i10, .int i11])), (af, .inr (2, [.ref ak, .ref av, .ref ar, .int (nI P), .int (nI (ntN O P)), .int (nI Y)])), (ak, .inl (cI, 4, .inl fk)), (av, .inl (cI, 4, .inl fv)), (ar, .inl (cI, 4, .inl fr)), (d1, .inl (cQ, 4, .inr (.inr (.inr (.inr (rf4 d1a d1b d1c d1d)))))), (d1a, .inl (cI, 96, .inl xda)), (d1b, .inl (cI, 96, .inl xdb)), (d1c, .inl (cI, 96, .inl xdc)), (d1d, .inl (cI, 96, .inl xdd))]) [0, 1, 2, 3, 4, 5, 6, 7, 8, 9] rfl) (hD.sub (ws' := [(ad, .inr (1, [.ref af, .ref d1, .ref d2, .ref d3, .ref d4, .int i5, .int i6, .int i7, .int i8, .int i9, .int i10, .int i11])), (af, .inr (2, [.ref ak, .ref av, .ref ar, .int (nI P), .int (nI (ntN O P)), .int (nI Y)])), (ak, .inl (cI, 4, .inl fk)), (av, .inl (cI, 4, .inl fv)), (ar, .inl (cI, 4, .inl fr)), (d1, .inl (cQ, 4, .inr (.inr (.inr (.inr (rf4 d1a d1b d1c d1d)))))), (d1a, .inl (cI, 96, .inl xda)), (d1b, .inl (cI, 96, .inl xdb)), (d1c, .inl (cI, 96, .inl xdc)), (d1d, .inl (cI, 96, .inl xdd))]) [0, 1, 2, 3, 4, 5, 6, 7, 8, 9] (by decide) rfl) hS (Nat.le_of_ble_eq_true rfl) (Nat.le_of_ble_eq_true rfl) dX1_rowAt_27
end GX
