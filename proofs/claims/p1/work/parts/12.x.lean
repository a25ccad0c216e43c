section C2
set_option maxHeartbeats 4000000 in
set_option maxRecDepth 100000 in
theorem x_feed (l : Launch) (D : va_G) (cI cZ cQ cT : ClassId) (sz : Nat) (ax : Nat) (p1 : Int32) (ah : Nat) (bh : Nat) (an : Nat) (aw : Nat) (ad : Nat) (ae : Nat) (ap : Nat) (aa : Nat) (af : Nat) (atp : Nat) (ab : Nat) (ft : Nat → Int32)  : MetI l yX5_feed cX5_feed 2 .int ({ frames := 0, cells := 0, slots := 0, locals := 0 } : Room) [.ref ax, .int p1] D (TYS cI cZ cQ cT) EF sz [(ax, .inr (5, [.ref ah, .ref bh, .int 0, .ref an, .ref aw, .ref ad, .ref ae, .ref ap, .ref aa])), (ah, .inr (3, [.ref af, .ref atp, .ref ab, .int 0, .int 0, .int 0])), (atp, .inl (cI, 100, .inl ft))] (S := Unit) (fun (r : Int32) (_ : Unit) => r = (if p1 < (0 : Int32) then (-2) else (if p1 ≤ (127 : Int32) then 1 else (-2)))) (fun _ => []) := by
  refine MetI.mk (lv := [(0, .ref ax), (1, .int p1)]) (by decide +kernel) (Nat.le_of_ble_eq_true rfl) rfl ?_
  intro p e s m below meth c A ls C0 hP hD hS hX hl
  have C1 := C0
  obtain ⟨hx, hb, hr, hml, hown, hlocks, hname, hT, hN, hK, hA⟩ := C1
  refine lv_iload_n hx hb dX5_feed_0 rfl (lv_at hl 1 rfl) ?_
  refine lv_if_lt (tgt := 10) hx hb dX5_feed_1 (by decide) (fun c_1 => ?_) (fun c_1 => ?_)
  · refine lv_bipush (v := (-2)) hx hb dX5_feed_10 (by decide) ?_
    exact retI C0 rfl () (((if_pos c_1)).symm) (hP.sub (ws' := []) [] rfl) (hD.sub (ws' := []) [] (by decide) rfl) hS (Nat.le_of_ble_eq_true rfl) (Nat.le_of_ble_eq_true rfl) dX5_feed_12
  · refine lv_iload_n hx hb dX5_feed_4 rfl (lv_at hl 1 rfl) ?_
    refine lv_bipush (v := 127) hx hb dX5_feed_5 (by decide) ?_
    refine lv_icmp_le (tgt := 13) hx hb dX5_feed_7 (by decide) (fun c_2 => ?_) (fun c_2 => ?_)
    · refine lv_aload_n hx hb dX5_feed_13 rfl (lv_at hl 0 rfl) ?_
      refine va_get (ci := 5) (v := .ref ah) (C := RX5) (T := TX5) (N := 9) hx hb hT wu_X5 hown hK hP 0 rfl rfl 0 (by decide) (hT _ wf_X5_12) (fun _ h9 => h9) rfl dX5_feed_14 ?_
      refine va_getN (ci := 3) (v := .int 0) (C := RX3) (T := TX3) (N := 6) hx hb hT wu_X3 hown hK hP 1 rfl rfl 3 (by decide) (va_Nw.use rfl (hN.get 172 kf_X5_60 rfl)) (fun _ h9 => h9) rfl dX5_feed_17 ?_
      refine lv_if_lt (tgt := 41) hx hb dX5_feed_20 (by decide) (fun c_0 => absurd c_0 (by decide)) (fun _ => ?_)
      refine lv_aload_n hx hb dX5_feed_23 rfl (lv_at hl 0 rfl) ?_
      refine va_get (ci := 5) (v := .ref ah) (C := RX5) (T := TX5) (N := 9) hx hb hT wu_X5 hown hK hP 0 rfl rfl 0 (by decide) (hT _ wf_X5_12) (fun _ h9 => h9) rfl dX5_feed_24 ?_
      refine va_getN (ci := 3) (v := .int 0) (C := RX3) (T := TX3) (N := 6) hx hb hT wu_X3 hown hK hP 1 rfl rfl 3 (by decide) (va_Nw.use rfl (hN.get 172 kf_X5_60 rfl)) (fun _ h9 => h9) rfl dX5_feed_27 ?_
      refine lv_aload_n hx hb dX5_feed_30 rfl (lv_at hl 0 rfl) ?_
      refine va_get (ci := 5) (v := .ref ah) (C := RX5) (T := TX5) (N := 9) hx hb hT wu_X5 hown hK hP 0 rfl rfl 0 (by decide) (hT _ wf_X5_12) (fun _ h9 => h9) rfl dX5_feed_31 ?_
      refine va_getN (ci := 3) (v := .ref atp) (C := RX3) (T := TX3) (N := 6) hx hb hT wu_X3 hown hK hP 1 rfl rfl 1 (by decide) (va_Nw.use rfl (hN.get 169 kf_X5_64 rfl)) (fun _ h9 => h9) rfl dX5_feed_34 ?_
      refine va_alen hx hb hK hP 2 0 rfl rfl (v := 100) (show Int32.ofNat 100 = (100 : Int32) by decide +kernel) dX5_feed_37 ?_
      refine lv_icmp_lt (tgt := 44) hx hb dX5_feed_38 (by decide) (fun _ => ?_) (fun c_0 => absurd (by decide) c_0)
      refine lv_aload_n hx hb dX5_feed_44 rfl (lv_at hl 0 rfl) ?_
      refine va_get (ci := 5) (v := .ref ah) (C := RX5) (T := TX5) (N := 9) hx hb hT wu_X5 hown hK hP 0 rfl rfl 0 (by decide) (hT _ wf_X5_12) (fun _ h9 => h9) rfl dX5_feed_45 ?_
      refine va_getN (ci := 3) (v := .ref atp) (C := RX3) (T := TX3) (N := 6) hx hb hT wu_X3 hown hK hP 1 rfl rfl 1 (by decide) (va_Nw.use rfl (hN.get 169 kf_X5_64 rfl)) (fun _ h9 => h9) rfl dX5_feed_48 ?_
      refine lv_aload_n hx hb dX5_feed_51 rfl (lv_at hl 0 rfl) ?_
      refine va_get (ci := 5) (v := .ref ah) (C := RX5) (T := TX5) (N := 9) hx hb hT wu_X5 hown hK hP 0 rfl rfl 0 (by decide) (hT _ wf_X5_12) (fun _ h9 => h9) rfl dX5_feed_52 ?_
      refine va_getN (ci := 3) (v := .int 0) (C := RX3) (T := TX3) (N := 6) hx hb hT wu_X3 hown hK hP 1 rfl rfl 3 (by decide) (va_Nw.use rfl (hN.get 172 kf_X5_60 rfl)) (fun _ h9 => h9) rfl dX5_feed_55 ?_
      refine lv_iload_n hx hb dX5_feed_58 rfl (lv_at hl 1 rfl) ?_
      refine va_iast hx hb hK hP hD hS 2 0 rfl rfl (vin _ _ (by decide +kernel)) dX5_feed_59 (fun H locs hP hD hS => ?_)
      have hP : va_P D CL [(ax, .inr (5, [.ref ah, .ref bh, .int 0, .ref an, .ref aw, .ref ad, .ref ae, .ref ap, .ref aa])), (ah, .inr (3, [.ref af, .ref atp, .ref ab, .int 0, .int 0, .int 0])), (atp, .inl (cI, 100, .inl (upd ft ((0 : Int32)).toNatClampNeg p1)))] H := hP
      have hD : va_D A [(ax, .inr (5, [.ref ah, .ref bh, .int 0, .ref an, .ref aw, .ref ad, .ref ae, .ref ap, .ref aa])), (ah, .inr (3, [.ref af, .ref atp, .ref ab, .int 0, .int 0, .int 0])), (atp, .inl (cI, 100, .inl (upd ft ((0 : Int32)).toNatClampNeg p1)))] := hD
      refine lv_aload_n hx hb dX5_feed_60 rfl (lv_at hl 0 rfl) ?_
      refine va_get (ci := 5) (v := .ref ah) (C := RX5) (T := TX5) (N := 9) hx hb hT wu_X5 hown hK hP 0 rfl rfl 0 (by decide) (hT _ wf_X5_12) (fun _ h9 => h9) rfl dX5_feed_61 ?_
      refine lv_dup hx hb dX5_feed_64 rfl ?_
      refine va_getN (ci := 3) (v := .int 0) (C := RX3) (T := TX3) (N := 6) hx hb hT wu_X3 hown hK hP 1 rfl rfl 3 (by decide) (va_Nw.use rfl (hN.get 172 kf_X5_60 rfl)) (fun _ h9 => h9) rfl dX5_feed_65 ?_
      refine lv_iconst (v := 1) hx hb dX5_feed_68 (by decide) ?_
      refine lv_iadd hx hb dX5_feed_69 ?_
      refine lv_ci 1 (by decide +kernel) ?_
      refine va_putN (ci := 3) (v := .int 1) (ty := .int) (C := RX3) (T := TX3) (N := 6) hx hb hT wu_X3 tyX3 tyX3_ok nmX3 hown hK hP hD hS 1 rfl rfl 3 (by decide) (va_Nw.use rfl (hN.get 172 kf_X5_60 rfl)) (fun _ h9 => h9) rfl (by decide +kernel) rfl rfl (Nat.le_of_ble_eq_true rfl) dX5_feed_70 (fun H locs hP hD hS => ?_)
      have hP : va_P D CL [(ax, .inr (5, [.ref ah, .ref bh, .int 0, .ref an, .ref aw, .ref ad, .ref ae, .ref ap, .ref aa])), (ah, .inr (3, [.ref af, .ref atp, .ref ab, .int 1, .int 0, .int 0])), (atp, .inl (cI, 100, .inl (upd ft ((0 : Int32)).toNatClampNeg p1)))] H := hP
      have hD : va_D A [(ax, .inr (5, [.ref ah, .ref bh, .int 0, .ref an, .ref aw, .ref ad, .ref ae, .ref ap, .ref aa])), (ah, .inr (3, [.ref af, .ref atp, .ref ab, .int 1, .int 0, .int 0])), (atp, .inl (cI, 100, .inl (upd ft ((0 : Int32)).toNatClampNeg p1)))] := hD
      refine lv_aload_n hx hb dX5_feed_73 rfl (lv_at hl 0 rfl) ?_
      refine va_get (ci := 5) (v := .ref ah) (C := RX5) (T := TX5) (N := 9) hx hb hT wu_X5 hown hK hP 0 rfl rfl 0 (by decide) (hT _ wf_X5_12) (fun _ h9 => h9) rfl dX5_feed_74 ?_
      refine va_getN (ci := 3) (v := .int 1) (C := RX3) (T := TX3) (N := 6) hx hb hT wu_X3 hown hK hP 1 rfl rfl 3 (by decide) (va_Nw.use rfl (hN.get 172 kf_X5_60 rfl)) (fun _ h9 => h9) rfl dX5_feed_77 ?_
      exact retI C0 rfl () (((if_neg c_1).trans ((if_pos c_2))).symm) (hP.sub (ws' := []) [] rfl) (hD.sub (ws' := []) [] (by decide) rfl) hS (Nat.le_of_ble_eq_true rfl) (Nat.le_of_ble_eq_true rfl) dX5_feed_80
    · refine lv_bipush (v := (-2)) hx hb dX5_feed_10 (by decide) ?_
      exact retI C0 rfl () (((if_neg c_1).trans ((if_neg c_2))).symm) (hP.sub (ws' := []) [] rfl) (hD.sub (ws' := []) [] (by decide) rfl) hS (Nat.le_of_ble_eq_true rfl) (Nat.le_of_ble_eq_true rfl) dX5_feed_12

set_option maxHeartbeats 4000000 in
set_option maxRecDepth 100000 in
theorem c_newestTown (l : Launch) (D : va_G) (cI cZ cQ cT : ClassId) (sz : Nat) (ax : Nat) (ah : Nat) (bh : Nat) (an : Nat) (aw : Nat) (ad : Nat) (ae : Nat) (ap : Nat) (aa : Nat) (af : Nat) (atp : Nat) (ab : Nat)  : MetR l yX5_newestTown cX5_newestTown 2 (.object "DayKnown$Town") ({ frames := 0, cells := 0, slots := 0, locals := 0 } : Room) [.ref ax] D (TYS cI cZ cQ cT) EF sz [(ax, .inr (5, [.ref ah, .ref bh, .int 0, .ref an, .ref aw, .ref ad, .ref ae, .ref ap, .ref aa])), (ah, .inr (3, [.ref af, .ref atp, .ref ab, .int 0, .int 0, .int 0]))] an (S := Unit) (fun (_ : Unit) => True) (fun _ => [(ax, .inr (5, [.ref ah, .ref bh, .int 0, .ref an, .ref aw, .ref ad, .ref ae, .ref ap, .ref aa])), (ah, .inr (3, [.ref af, .ref atp, .ref ab, .int 0, .int 0, .int 0]))]) := by
  refine MetR.mk (lv := [(0, .ref ax)]) (by decide +kernel) (Nat.le_of_ble_eq_true rfl) rfl ?_
  intro p e s m below meth c A ls C0 hP hD hS hX hl
  have C1 := C0
  obtain ⟨hx, hb, hr, hml, hown, hlocks, hname, hT, hN, hK, hA⟩ := C1
  refine lv_aload_n hx hb dX5_newestTown_0 rfl (lv_at hl 0 rfl) ?_
  refine va_get (ci := 5) (v := .ref ah) (C := RX5) (T := TX5) (N := 9) hx hb hT wu_X5 hown hK hP 0 rfl rfl 0 (by decide) (hT _ wf_X5_12) (fun _ h9 => h9) rfl dX5_newestTown_1 ?_
  refine va_getN (ci := 3) (v := .int 0) (C := RX3) (T := TX3) (N := 6) hx hb hT wu_X3 hown hK hP 1 rfl rfl 5 (by decide) (va_Nw.use rfl (hN.get 177 kf_X5_67 rfl)) (fun _ h9 => h9) rfl dX5_newestTown_4 ?_
  refine lv_iconst (v := 1) hx hb dX5_newestTown_7 (by decide) ?_
  refine lv_isub hx hb dX5_newestTown_8 ?_
  refine lv_ci (-1) (by decide +kernel) ?_
  refine lv_istore_n (lv' := [(1, .int (-1)), (0, .ref ax)]) hx hb dX5_newestTown_9 rfl hl (by decide) rfl (fun ls hl => ?_)
  refine lv_iload_n hx hb dX5_newestTown_10 rfl (lv_at hl 0 rfl) ?_
  refine lv_if_lt (tgt := 32) hx hb dX5_newestTown_11 (by decide) (fun _ => ?_) (fun c_0 => absurd (by decide) c_0)
  refine lv_aload_n hx hb dX5_newestTown_32 rfl (lv_at hl 1 rfl) ?_
  refine va_get (ci := 5) (v := .ref an) (C := RX5) (T := TX5) (N := 9) hx hb hT wu_X5 hown hK hP 0 rfl rfl 3 (by decide) (hT _ wf_X5_22) (fun _ h9 => h9) rfl dX5_newestTown_33 ?_
  exact retR C0 ⟨_, rfl⟩ () trivial (hP.sub (ws' := [(ax, .inr (5, [.ref ah, .ref bh, .int 0, .ref an, .ref aw, .ref ad, .ref ae, .ref ap, .ref aa])), (ah, .inr (3, [.ref af, .ref atp, .ref ab, .int 0, .int 0, .int 0]))]) [0, 1] rfl) (hD.sub (ws' := [(ax, .inr (5, [.ref ah, .ref bh, .int 0, .ref an, .ref aw, .ref ad, .ref ae, .ref ap, .ref aa])), (ah, .inr (3, [.ref af, .ref atp, .ref ab, .int 0, .int 0, .int 0]))]) [0, 1] (by decide) rfl) hS (Nat.le_of_ble_eq_true rfl) (Nat.le_of_ble_eq_true rfl) dX5_newestTown_36

set_option maxHeartbeats 4000000 in
set_option maxRecDepth 100000 in
theorem x_told (l : Launch) (D : va_G) (cI cZ cQ cT : ClassId) (sz : Nat) (ax : Nat) (p1 : Int32) (ah : Nat) (bh : Nat) (an : Nat) (aw : Nat) (ad : Nat) (ae : Nat) (ap : Nat) (aa : Nat) (af : Nat) (atp : Nat) (ab : Nat) (ak : Nat) (av : Nat) (ar : Nat) (n1 : Nat) (n2 : Nat) (n3 : Nat) (n4 : Nat)  : MetI l yX5_told cX5_told 2 .int ({ frames := 1, cells := 0, slots := 0, locals := 21 } : Room) [.ref ax, .int p1] D (TYS cI cZ cQ cT) EF sz [(ax, .inr (5, [.ref ah, .ref bh, .int 0, .ref an, .ref aw, .ref ad, .ref ae, .ref ap, .ref aa])), (ah, .inr (3, [.ref af, .ref atp, .ref ab, .int 0, .int 0, .int 0])), (af, .inr (2, [.ref ak, .ref av, .ref ar, .int 0, .int 0, .int 0])), (an, .inr (4, [.ref n1, .int 0, .int 0, .ref n2, .int 0, .ref n3, .ref n4, .int 0, .int 0]))] (S := Unit) (fun (r : Int32) (_ : Unit) => r = (if p1 = (0 : Int32) then 0 else (if p1 = (1 : Int32) then 0 else (if p1 = (2 : Int32) then 0 else (-1))))) (fun _ => []) := by
  refine MetI.mk (lv := [(0, .ref ax), (1, .int p1)]) (by decide +kernel) (Nat.le_of_ble_eq_true rfl) rfl ?_
  intro p e s m below meth c A ls C0 hP hD hS hX hl
  have C1 := C0
  obtain ⟨hx, hb, hr, hml, hown, hlocks, hname, hT, hN, hK, hA⟩ := C1
  refine lv_iload_n hx hb dX5_told_0 rfl (lv_at hl 1 rfl) ?_
  refine (Decidable.em (p1 = (0 : Int32))).elim (fun c_1 => ?_) (fun c_1 => ?_)
  · refine lv_tableIn (off := 27) (tgt := 28) hx hb dX5_told_1 (by rw [c_1]; decide) (by rw [c_1]; decide) (by rw [c_1]; rfl) (by decide) ?_
    refine lv_aload_n hx hb dX5_told_28 rfl (lv_at hl 0 rfl) ?_
    refine contR (wc := [(ax, .inr (5, [.ref ah, .ref bh, .int 0, .ref an, .ref aw, .ref ad, .ref ae, .ref ap, .ref aa])), (ah, .inr (3, [.ref af, .ref atp, .ref ab, .int 0, .int 0, .int 0]))]) (wr := [(af, .inr (2, [.ref ak, .ref av, .ref ar, .int 0, .int 0, .int 0])), (an, .inr (4, [.ref n1, .int 0, .int 0, .ref n2, .int 0, .ref n3, .ref n4, .int 0, .int 0]))]) C0 hP hD hS [0, 1] [2, 3] rfl rfl (by decide) (by decide) 0 0 (Nat.le_of_ble_eq_true rfl) (Nat.le_of_ble_eq_true rfl) (runV (k := 0) (As := []) (rest := []) C0 (c_newestTown l D cI cZ cQ cT _ ax ah bh an aw ad ae ap aa af atp ab) wc_X5_newestTown wl_X5_76 wi_X5_newestTown we_X5_newestTown wz_X5 ⟨by decide, by decide, by decide +kernel⟩ ⟨(Nat.le_of_ble_eq_true rfl), (Nat.le_of_ble_eq_true rfl)⟩ hP hD hS EF.ok hX [0, 1] rfl (by decide) 0 rfl rfl rfl rfl hl.1 rfl (Nat.le_of_ble_eq_true rfl) dX5_told_29 ⟨(Nat.le_of_ble_eq_true rfl), (Nat.le_of_ble_eq_true rfl)⟩) (fun u_2 H locs w_3 hP hD hS => ?_)
    have hP : va_P D CL [(af, .inr (2, [.ref ak, .ref av, .ref ar, .int 0, .int 0, .int 0])), (an, .inr (4, [.ref n1, .int 0, .int 0, .ref n2, .int 0, .ref n3, .ref n4, .int 0, .int 0])), (ax, .inr (5, [.ref ah, .ref bh, .int 0, .ref an, .ref aw, .ref ad, .ref ae, .ref ap, .ref aa])), (ah, .inr (3, [.ref af, .ref atp, .ref ab, .int 0, .int 0, .int 0]))] H := hP
    have hD : va_D A [(af, .inr (2, [.ref ak, .ref av, .ref ar, .int 0, .int 0, .int 0])), (an, .inr (4, [.ref n1, .int 0, .int 0, .ref n2, .int 0, .ref n3, .ref n4, .int 0, .int 0])), (ax, .inr (5, [.ref ah, .ref bh, .int 0, .ref an, .ref aw, .ref ad, .ref ae, .ref ap, .ref aa])), (ah, .inr (3, [.ref af, .ref atp, .ref ab, .int 0, .int 0, .int 0]))] := hD
    refine va_getN (ci := 4) (v := .int 0) (C := RX4) (T := TX4) (N := 9) hx hb hT wu_X4 hown hK hP 1 rfl rfl 8 (by decide) (va_Nw.use rfl (hN.get 206 kf_X5_80 rfl)) (fun _ h9 => h9) rfl dX5_told_32 ?_
    exact retI C0 rfl () (((if_pos c_1)).symm) (hP.sub (ws' := []) [] rfl) (hD.sub (ws' := []) [] (by decide) rfl) hS (Nat.le_of_ble_eq_true rfl) (Nat.le_of_ble_eq_true rfl) dX5_told_35
  · skip
    refine (Decidable.em (p1 = (1 : Int32))).elim (fun c_5 => ?_) (fun c_5 => ?_)
    · refine lv_tableIn (off := 35) (tgt := 36) hx hb dX5_told_1 (by rw [c_5]; decide) (by rw [c_5]; decide) (by rw [c_5]; rfl) (by decide) ?_
      refine lv_aload_n hx hb dX5_told_36 rfl (lv_at hl 0 rfl) ?_
      refine va_get (ci := 5) (v := .ref ah) (C := RX5) (T := TX5) (N := 9) hx hb hT wu_X5 hown hK hP 0 rfl rfl 0 (by decide) (hT _ wf_X5_12) (fun _ h9 => h9) rfl dX5_told_37 ?_
      refine va_getN (ci := 3) (v := .ref af) (C := RX3) (T := TX3) (N := 6) hx hb hT wu_X3 hown hK hP 1 rfl rfl 0 (by decide) (va_Nw.use rfl (hN.get 167 kf_X5_32 rfl)) (fun _ h9 => h9) rfl dX5_told_40 ?_
      refine va_getN (ci := 2) (v := .int 0) (C := RX2) (T := TX2) (N := 6) hx hb hT wu_X2 hown hK hP 2 rfl rfl 5 (by decide) (va_Nw.use rfl (hN.get 150 kf_X5_83 rfl)) (fun _ h9 => h9) rfl dX5_told_43 ?_
      exact retI C0 rfl () (((if_neg c_1).trans ((if_pos c_5))).symm) (hP.sub (ws' := []) [] rfl) (hD.sub (ws' := []) [] (by decide) rfl) hS (Nat.le_of_ble_eq_true rfl) (Nat.le_of_ble_eq_true rfl) dX5_told_46
    · skip
      refine (Decidable.em (p1 = (2 : Int32))).elim (fun c_6 => ?_) (fun c_6 => ?_)
      · refine lv_tableIn (off := 46) (tgt := 47) hx hb dX5_told_1 (by rw [c_6]; decide) (by rw [c_6]; decide) (by rw [c_6]; rfl) (by decide) ?_
        refine lv_aload_n hx hb dX5_told_47 rfl (lv_at hl 0 rfl) ?_
        refine va_get (ci := 5) (v := .ref ah) (C := RX5) (T := TX5) (N := 9) hx hb hT wu_X5 hown hK hP 0 rfl rfl 0 (by decide) (hT _ wf_X5_12) (fun _ h9 => h9) rfl dX5_told_48 ?_
        refine va_getN (ci := 3) (v := .ref af) (C := RX3) (T := TX3) (N := 6) hx hb hT wu_X3 hown hK hP 1 rfl rfl 0 (by decide) (va_Nw.use rfl (hN.get 167 kf_X5_32 rfl)) (fun _ h9 => h9) rfl dX5_told_51 ?_
        refine va_getN (ci := 2) (v := .int 0) (C := RX2) (T := TX2) (N := 6) hx hb hT wu_X2 hown hK hP 2 rfl rfl 4 (by decide) (va_Nw.use rfl (hN.get 146 kf_X5_86 rfl)) (fun _ h9 => h9) rfl dX5_told_54 ?_
        exact retI C0 rfl () (((if_neg c_1).trans ((if_neg c_5).trans ((if_pos c_6)))).symm) (hP.sub (ws' := []) [] rfl) (hD.sub (ws' := []) [] (by decide) rfl) hS (Nat.le_of_ble_eq_true rfl) (Nat.le_of_ble_eq_true rfl) dX5_told_57
      · skip
        refine lv_tableOut (tgt := 58) hx hb dX5_told_1 (by have e0 := ne_toInt (k := 0) c_1 (by decide); have e1 := ne_toInt (k := 1) c_5 (by decide); have e2 := ne_toInt (k := 2) c_6 (by decide); omega) (by decide) ?_
        refine lv_iconst (v := (-1)) hx hb dX5_told_58 (by decide) ?_
        exact retI C0 rfl () (((if_neg c_1).trans ((if_neg c_5).trans ((if_neg c_6)))).symm) (hP.sub (ws' := []) [] rfl) (hD.sub (ws' := []) [] (by decide) rfl) hS (Nat.le_of_ble_eq_true rfl) (Nat.le_of_ble_eq_true rfl) dX5_told_59

set_option maxHeartbeats 4000000 in
set_option maxRecDepth 100000 in
theorem c_putNote (l : Launch) (D : va_G) (cI cZ cQ cT : ClassId) (sz : Nat) (af : Nat) (ak : Nat) (av : Nat) (ar : Nat) (pp : Int32) (yd : Int32)  : MetV l yX2_putNote cX2_putNote 3 ({ frames := 0, cells := 0, slots := 0, locals := 0 } : Room) [.ref af, .int 0, .int 0] D (TYS cI cZ cQ cT) EF sz [(af, .inr (2, [.ref ak, .ref av, .ref ar, .int pp, .int 0, .int yd]))] (S := Unit) (fun (_ : Unit) => True) (fun _ => [(af, .inr (2, [.ref ak, .ref av, .ref ar, .int pp, .int 0, .int yd]))]) := by
  refine MetV.mk (lv := [(0, .ref af), (1, .int 0), (2, .int 0)]) (by decide +kernel) (Nat.le_of_ble_eq_true rfl) rfl ?_
  intro p e s m below meth c A ls C0 hP hD hS hX hl
  have C1 := C0
  obtain ⟨hx, hb, hr, hml, hown, hlocks, hname, hT, hN, hK, hA⟩ := C1
  refine lv_aload_n hx hb dX2_putNote_0 rfl (lv_at hl 0 rfl) ?_
  refine lv_iload_n hx hb dX2_putNote_1 rfl (lv_at hl 2 rfl) ?_
  refine lv_if_eq (tgt := 16) hx hb dX2_putNote_2 (by decide) (fun _ => ?_) (fun c_0 => absurd (by decide) c_0)
  refine lv_aload_n hx hb dX2_putNote_16 rfl (lv_at hl 0 rfl) ?_
  refine va_get (ci := 2) (v := .int 0) (C := RX2) (T := TX2) (N := 6) hx hb hT wu_X2 hown hK hP 0 rfl rfl 4 (by decide) (hT _ wf_X2_33) (fun _ h9 => h9) rfl dX2_putNote_17 ?_
  refine lv_iconst (v := 1) hx hb dX2_putNote_20 (by decide) ?_
  refine lv_iload_n hx hb dX2_putNote_21 rfl (lv_at hl 1 rfl) ?_
  refine lv_ishl hx hb dX2_putNote_22 ?_
  refine lv_ci 1 (by decide +kernel) ?_
  refine lv_iconst (v := (-1)) hx hb dX2_putNote_23 (by decide) ?_
  refine lv_ixor hx hb dX2_putNote_24 ?_
  refine lv_ci (-2) (by decide +kernel) ?_
  refine lv_iand hx hb dX2_putNote_25 ?_
  refine lv_ci 0 (by decide +kernel) ?_
  refine va_put (ci := 2) (v := .int 0) (ty := .int) (C := RX2) (T := TX2) (N := 6) hx hb hT wu_X2 tyX2 tyX2_ok nmX2 hown hK hP hD hS 0 rfl rfl 4 (by decide) (hT _ wf_X2_33) (fun _ h9 => h9) rfl (by decide +kernel) rfl rfl (Nat.le_of_ble_eq_true rfl) dX2_putNote_26 (fun H locs hP hD hS => ?_)
  have hP : va_P D CL [(af, .inr (2, [.ref ak, .ref av, .ref ar, .int pp, .int 0, .int yd]))] H := hP
  have hD : va_D A [(af, .inr (2, [.ref ak, .ref av, .ref ar, .int pp, .int 0, .int yd]))] := hD
  exact retV C0 () trivial (hP.sub (ws' := [(af, .inr (2, [.ref ak, .ref av, .ref ar, .int pp, .int 0, .int yd]))]) [0] rfl) (hD.sub (ws' := [(af, .inr (2, [.ref ak, .ref av, .ref ar, .int pp, .int 0, .int yd]))]) [0] (by decide) rfl) hS (Nat.le_of_ble_eq_true rfl) (Nat.le_of_ble_eq_true rfl) dX2_putNote_29

set_option maxHeartbeats 4000000 in
set_option maxRecDepth 100000 in
theorem c_join (l : Launch) (D : va_G) (cI cZ cQ cT : ClassId) (sz : Nat) (af : Nat) (kd : Int32) (vv : Int32) (ak : Nat) (av : Nat) (ar : Nat) (fk : Nat → Int32) (fv : Nat → Int32) (fr : Nat → Int32)  : MetI l yX2_join cX2_join 3 .int ({ frames := 1, cells := 0, slots := 0, locals := 22 } : Room) [.ref af, .int kd, .int vv] D (TYS cI cZ cQ cT) EF sz [(af, .inr (2, [.ref ak, .ref av, .ref ar, .int 0, .int 0, .int 0])), (ak, .inl (cI, 4, .inl fk)), (av, .inl (cI, 4, .inl fv)), (ar, .inl (cI, 4, .inl fr))] (S := Unit) (fun (r : Int32) (_ : Unit) => r = 0) (fun _ => []) := by
  refine MetI.mk (lv := [(0, .ref af), (1, .int kd), (2, .int vv)]) (by decide +kernel) (Nat.le_of_ble_eq_true rfl) rfl ?_
  intro p e s m below meth c A ls C0 hP hD hS hX hl
  have C1 := C0
  obtain ⟨hx, hb, hr, hml, hown, hlocks, hname, hT, hN, hK, hA⟩ := C1
  refine lv_aload_n hx hb dX2_join_0 rfl (lv_at hl 0 rfl) ?_
  refine va_get (ci := 2) (v := .int 0) (C := RX2) (T := TX2) (N := 6) hx hb hT wu_X2 hown hK hP 0 rfl rfl 3 (by decide) (hT _ wf_X2_21) (fun _ h9 => h9) rfl dX2_join_1 ?_
  refine lv_if_lt (tgt := 15) hx hb dX2_join_4 (by decide) (fun c_0 => absurd c_0 (by decide)) (fun _ => ?_)
  refine lv_aload_n hx hb dX2_join_7 rfl (lv_at hl 0 rfl) ?_
  refine va_get (ci := 2) (v := .int 0) (C := RX2) (T := TX2) (N := 6) hx hb hT wu_X2 hown hK hP 0 rfl rfl 3 (by decide) (hT _ wf_X2_21) (fun _ h9 => h9) rfl dX2_join_8 ?_
  refine lv_iconst (v := 4) hx hb dX2_join_11 (by decide) ?_
  refine lv_icmp_lt (tgt := 18) hx hb dX2_join_12 (by decide) (fun _ => ?_) (fun c_0 => absurd (by decide) c_0)
  refine lv_aload_n hx hb dX2_join_18 rfl (lv_at hl 0 rfl) ?_
  refine va_get (ci := 2) (v := .ref ak) (C := RX2) (T := TX2) (N := 6) hx hb hT wu_X2 hown hK hP 0 rfl rfl 0 (by decide) (hT _ wf_X2_9) (fun _ h9 => h9) rfl dX2_join_19 ?_
  refine lv_aload_n hx hb dX2_join_22 rfl (lv_at hl 0 rfl) ?_
  refine va_get (ci := 2) (v := .int 0) (C := RX2) (T := TX2) (N := 6) hx hb hT wu_X2 hown hK hP 0 rfl rfl 3 (by decide) (hT _ wf_X2_21) (fun _ h9 => h9) rfl dX2_join_23 ?_
  refine lv_iload_n hx hb dX2_join_26 rfl (lv_at hl 1 rfl) ?_
  refine va_iast hx hb hK hP hD hS 1 0 rfl rfl (vin _ _ (by decide +kernel)) dX2_join_27 (fun H locs hP hD hS => ?_)
  have hP : va_P D CL [(af, .inr (2, [.ref ak, .ref av, .ref ar, .int 0, .int 0, .int 0])), (ak, .inl (cI, 4, .inl (upd fk ((0 : Int32)).toNatClampNeg kd))), (av, .inl (cI, 4, .inl fv)), (ar, .inl (cI, 4, .inl fr))] H := hP
  have hD : va_D A [(af, .inr (2, [.ref ak, .ref av, .ref ar, .int 0, .int 0, .int 0])), (ak, .inl (cI, 4, .inl (upd fk ((0 : Int32)).toNatClampNeg kd))), (av, .inl (cI, 4, .inl fv)), (ar, .inl (cI, 4, .inl fr))] := hD
  refine lv_aload_n hx hb dX2_join_28 rfl (lv_at hl 0 rfl) ?_
  refine va_get (ci := 2) (v := .ref av) (C := RX2) (T := TX2) (N := 6) hx hb hT wu_X2 hown hK hP 0 rfl rfl 1 (by decide) (hT _ wf_X2_15) (fun _ h9 => h9) rfl dX2_join_29 ?_
  refine lv_aload_n hx hb dX2_join_32 rfl (lv_at hl 0 rfl) ?_
  refine va_get (ci := 2) (v := .int 0) (C := RX2) (T := TX2) (N := 6) hx hb hT wu_X2 hown hK hP 0 rfl rfl 3 (by decide) (hT _ wf_X2_21) (fun _ h9 => h9) rfl dX2_join_33 ?_
  refine lv_iload_n hx hb dX2_join_36 rfl (lv_at hl 2 rfl) ?_
  refine va_iast hx hb hK hP hD hS 2 0 rfl rfl (vin _ _ (by decide +kernel)) dX2_join_37 (fun H locs hP hD hS => ?_)
  have hP : va_P D CL [(af, .inr (2, [.ref ak, .ref av, .ref ar, .int 0, .int 0, .int 0])), (ak, .inl (cI, 4, .inl (upd fk ((0 : Int32)).toNatClampNeg kd))), (av, .inl (cI, 4, .inl (upd fv ((0 : Int32)).toNatClampNeg vv))), (ar, .inl (cI, 4, .inl fr))] H := hP
  have hD : va_D A [(af, .inr (2, [.ref ak, .ref av, .ref ar, .int 0, .int 0, .int 0])), (ak, .inl (cI, 4, .inl (upd fk ((0 : Int32)).toNatClampNeg kd))), (av, .inl (cI, 4, .inl (upd fv ((0 : Int32)).toNatClampNeg vv))), (ar, .inl (cI, 4, .inl fr))] := hD
  refine lv_aload_n hx hb dX2_join_38 rfl (lv_at hl 0 rfl) ?_
  refine va_get (ci := 2) (v := .ref ar) (C := RX2) (T := TX2) (N := 6) hx hb hT wu_X2 hown hK hP 0 rfl rfl 2 (by decide) (hT _ wf_X2_18) (fun _ h9 => h9) rfl dX2_join_39 ?_
  refine lv_aload_n hx hb dX2_join_42 rfl (lv_at hl 0 rfl) ?_
  refine va_get (ci := 2) (v := .int 0) (C := RX2) (T := TX2) (N := 6) hx hb hT wu_X2 hown hK hP 0 rfl rfl 3 (by decide) (hT _ wf_X2_21) (fun _ h9 => h9) rfl dX2_join_43 ?_
  refine lv_iconst (v := 0) hx hb dX2_join_46 (by decide) ?_
  refine va_iast hx hb hK hP hD hS 3 0 rfl rfl (vin _ _ (by decide +kernel)) dX2_join_47 (fun H locs hP hD hS => ?_)
  have hP : va_P D CL [(af, .inr (2, [.ref ak, .ref av, .ref ar, .int 0, .int 0, .int 0])), (ak, .inl (cI, 4, .inl (upd fk ((0 : Int32)).toNatClampNeg kd))), (av, .inl (cI, 4, .inl (upd fv ((0 : Int32)).toNatClampNeg vv))), (ar, .inl (cI, 4, .inl (upd fr ((0 : Int32)).toNatClampNeg 0)))] H := hP
  have hD : va_D A [(af, .inr (2, [.ref ak, .ref av, .ref ar, .int 0, .int 0, .int 0])), (ak, .inl (cI, 4, .inl (upd fk ((0 : Int32)).toNatClampNeg kd))), (av, .inl (cI, 4, .inl (upd fv ((0 : Int32)).toNatClampNeg vv))), (ar, .inl (cI, 4, .inl (upd fr ((0 : Int32)).toNatClampNeg 0)))] := hD
  refine lv_aload_n hx hb dX2_join_48 rfl (lv_at hl 0 rfl) ?_
  refine lv_aload_n hx hb dX2_join_49 rfl (lv_at hl 0 rfl) ?_
  refine va_get (ci := 2) (v := .int 0) (C := RX2) (T := TX2) (N := 6) hx hb hT wu_X2 hown hK hP 0 rfl rfl 3 (by decide) (hT _ wf_X2_21) (fun _ h9 => h9) rfl dX2_join_50 ?_
  refine lv_iconst (v := 0) hx hb dX2_join_53 (by decide) ?_
  refine contV (wc := [(af, .inr (2, [.ref ak, .ref av, .ref ar, .int 0, .int 0, .int 0]))]) (wr := [(ak, .inl (cI, 4, .inl (upd fk ((0 : Int32)).toNatClampNeg kd))), (av, .inl (cI, 4, .inl (upd fv ((0 : Int32)).toNatClampNeg vv))), (ar, .inl (cI, 4, .inl (upd fr ((0 : Int32)).toNatClampNeg 0)))]) C0 hP hD hS [0] [1, 2, 3] rfl rfl (by decide) (by decide) 0 0 (Nat.le_of_ble_eq_true rfl) (Nat.le_of_ble_eq_true rfl) (runV (k := 2) (As := [.int 0, .int 0]) (rest := []) C0 (c_putNote l D cI cZ cQ cT _ af ak av ar 0 0) wc_X2_putNote wl_X2_29 wi_X2_putNote we_X2_putNote wz_X2 ⟨by decide, by decide, by decide +kernel⟩ ⟨(Nat.le_of_ble_eq_true rfl), (Nat.le_of_ble_eq_true rfl)⟩ hP hD hS EF.ok hX [0] rfl (by decide) 0 rfl rfl rfl rfl hl.1 rfl (Nat.le_of_ble_eq_true rfl) dX2_join_54 ⟨(Nat.le_of_ble_eq_true rfl), (Nat.le_of_ble_eq_true rfl)⟩) (fun u_1 H locs w_2 hP hD hS => ?_)
  have hP : va_P D CL [(ak, .inl (cI, 4, .inl (upd fk ((0 : Int32)).toNatClampNeg kd))), (av, .inl (cI, 4, .inl (upd fv ((0 : Int32)).toNatClampNeg vv))), (ar, .inl (cI, 4, .inl (upd fr ((0 : Int32)).toNatClampNeg 0))), (af, .inr (2, [.ref ak, .ref av, .ref ar, .int 0, .int 0, .int 0]))] H := hP
  have hD : va_D A [(ak, .inl (cI, 4, .inl (upd fk ((0 : Int32)).toNatClampNeg kd))), (av, .inl (cI, 4, .inl (upd fv ((0 : Int32)).toNatClampNeg vv))), (ar, .inl (cI, 4, .inl (upd fr ((0 : Int32)).toNatClampNeg 0))), (af, .inr (2, [.ref ak, .ref av, .ref ar, .int 0, .int 0, .int 0]))] := hD
  refine lv_aload_n hx hb dX2_join_57 rfl (lv_at hl 0 rfl) ?_
  refine lv_dup hx hb dX2_join_58 rfl ?_
  refine va_get (ci := 2) (v := .int 0) (C := RX2) (T := TX2) (N := 6) hx hb hT wu_X2 hown hK hP 3 rfl rfl 3 (by decide) (hT _ wf_X2_21) (fun _ h9 => h9) rfl dX2_join_59 ?_
  refine lv_iconst (v := 1) hx hb dX2_join_62 (by decide) ?_
  refine lv_iadd hx hb dX2_join_63 ?_
  refine lv_ci 1 (by decide +kernel) ?_
  refine va_put (ci := 2) (v := .int 1) (ty := .int) (C := RX2) (T := TX2) (N := 6) hx hb hT wu_X2 tyX2 tyX2_ok nmX2 hown hK hP hD hS 3 rfl rfl 3 (by decide) (hT _ wf_X2_21) (fun _ h9 => h9) rfl (by decide +kernel) rfl rfl (Nat.le_of_ble_eq_true rfl) dX2_join_64 (fun H locs hP hD hS => ?_)
  have hP : va_P D CL [(ak, .inl (cI, 4, .inl (upd fk ((0 : Int32)).toNatClampNeg kd))), (av, .inl (cI, 4, .inl (upd fv ((0 : Int32)).toNatClampNeg vv))), (ar, .inl (cI, 4, .inl (upd fr ((0 : Int32)).toNatClampNeg 0))), (af, .inr (2, [.ref ak, .ref av, .ref ar, .int 1, .int 0, .int 0]))] H := hP
  have hD : va_D A [(ak, .inl (cI, 4, .inl (upd fk ((0 : Int32)).toNatClampNeg kd))), (av, .inl (cI, 4, .inl (upd fv ((0 : Int32)).toNatClampNeg vv))), (ar, .inl (cI, 4, .inl (upd fr ((0 : Int32)).toNatClampNeg 0))), (af, .inr (2, [.ref ak, .ref av, .ref ar, .int 1, .int 0, .int 0]))] := hD
  refine lv_aload_n hx hb dX2_join_67 rfl (lv_at hl 0 rfl) ?_
  refine va_get (ci := 2) (v := .int 1) (C := RX2) (T := TX2) (N := 6) hx hb hT wu_X2 hown hK hP 3 rfl rfl 3 (by decide) (hT _ wf_X2_21) (fun _ h9 => h9) rfl dX2_join_68 ?_
  refine lv_iconst (v := 1) hx hb dX2_join_71 (by decide) ?_
  refine lv_isub hx hb dX2_join_72 ?_
  refine lv_ci 0 (by decide +kernel) ?_
  exact retI C0 rfl () rfl (hP.sub (ws' := []) [] rfl) (hD.sub (ws' := []) [] (by decide) rfl) hS (Nat.le_of_ble_eq_true rfl) (Nat.le_of_ble_eq_true rfl) dX2_join_73

set_option maxHeartbeats 4000000 in
set_option maxRecDepth 100000 in
theorem c_forget (l : Launch) (D : va_G) (cI cZ cQ cT : ClassId) (sz : Nat) (ad : Nat) (af : Nat) (d1 : Nat) (d2 : Nat) (d3 : Nat) (d4 : Nat) (i5 : Int32) (i6 : Int32) (i7 : Int32) (i8 : Int32) (i9 : Int32) (i10 : Int32) (i11 : Int32)  : MetV l yX1_forget cX1_forget 1 ({ frames := 0, cells := 0, slots := 0, locals := 0 } : Room) [.ref ad] D (TYS cI cZ cQ cT) EF sz [(ad, .inr (1, [.ref af, .ref d1, .ref d2, .ref d3, .ref d4, .int i5, .int i6, .int i7, .int i8, .int i9, .int i10, .int i11]))] (S := Unit) (fun (_ : Unit) => True) (fun _ => [(ad, .inr (1, [.ref af, .ref d1, .ref d2, .ref d3, .ref d4, .int 0, .int 0, .int i7, .int i8, .int i9, .int i10, .int i11]))]) := by
  refine MetV.mk (lv := [(0, .ref ad)]) (by decide +kernel) (Nat.le_of_ble_eq_true rfl) rfl ?_
  intro p e s m below meth c A ls C0 hP hD hS hX hl
  have C1 := C0
  obtain ⟨hx, hb, hr, hml, hown, hlocks, hname, hT, hN, hK, hA⟩ := C1
  refine lv_aload_n hx hb dX1_forget_0 rfl (lv_at hl 0 rfl) ?_
  refine lv_iconst (v := 0) hx hb dX1_forget_1 (by decide) ?_
  refine va_put (ci := 1) (v := .int 0) (ty := .boolean) (C := RX1) (T := TX1) (N := 12) hx hb hT wu_X1 tyX1 tyX1_ok nmX1 hown hK hP hD hS 0 rfl rfl 5 (by decide) (hT _ wf_X1_30) (fun _ h9 => h9) rfl (by decide +kernel) rfl rfl (Nat.le_of_ble_eq_true rfl) dX1_forget_2 (fun H locs hP hD hS => ?_)
  have hP : va_P D CL [(ad, .inr (1, [.ref af, .ref d1, .ref d2, .ref d3, .ref d4, .int 0, .int i6, .int i7, .int i8, .int i9, .int i10, .int i11]))] H := hP
  have hD : va_D A [(ad, .inr (1, [.ref af, .ref d1, .ref d2, .ref d3, .ref d4, .int 0, .int i6, .int i7, .int i8, .int i9, .int i10, .int i11]))] := hD
  refine lv_aload_n hx hb dX1_forget_5 rfl (lv_at hl 0 rfl) ?_
  refine lv_iconst (v := 0) hx hb dX1_forget_6 (by decide) ?_
  refine va_put (ci := 1) (v := .int 0) (ty := .boolean) (C := RX1) (T := TX1) (N := 12) hx hb hT wu_X1 tyX1 tyX1_ok nmX1 hown hK hP hD hS 0 rfl rfl 6 (by decide) (hT _ wf_X1_34) (fun _ h9 => h9) rfl (by decide +kernel) rfl rfl (Nat.le_of_ble_eq_true rfl) dX1_forget_7 (fun H locs hP hD hS => ?_)
  have hP : va_P D CL [(ad, .inr (1, [.ref af, .ref d1, .ref d2, .ref d3, .ref d4, .int 0, .int 0, .int i7, .int i8, .int i9, .int i10, .int i11]))] H := hP
  have hD : va_D A [(ad, .inr (1, [.ref af, .ref d1, .ref d2, .ref d3, .ref d4, .int 0, .int 0, .int i7, .int i8, .int i9, .int i10, .int i11]))] := hD
  exact retV C0 () trivial (hP.sub (ws' := [(ad, .inr (1, [.ref af, .ref d1, .ref d2, .ref d3, .ref d4, .int 0, .int 0, .int i7, .int i8, .int i9, .int i10, .int i11]))]) [0] rfl) (hD.sub (ws' := [(ad, .inr (1, [.ref af, .ref d1, .ref d2, .ref d3, .ref d4, .int 0, .int 0, .int i7, .int i8, .int i9, .int i10, .int i11]))]) [0] (by decide) rfl) hS (Nat.le_of_ble_eq_true rfl) (Nat.le_of_ble_eq_true rfl) dX1_forget_10

set_option maxHeartbeats 4000000 in
set_option maxRecDepth 100000 in
theorem x_person (l : Launch) (D : va_G) (cI cZ cQ cT : ClassId) (sz : Nat) (ax : Nat) (p1 : Int32) (p2 : Int32) (ah : Nat) (bh : Nat) (an : Nat) (aw : Nat) (ad : Nat) (ae : Nat) (ap : Nat) (aa : Nat) (af : Nat) (atp : Nat) (ab : Nat) (ak : Nat) (av : Nat) (ar : Nat) (fk : Nat → Int32) (fv : Nat → Int32) (fr : Nat → Int32) (d1 : Nat) (d2 : Nat) (d3 : Nat) (d4 : Nat)  : MetI l yX5_person cX5_person 4 .int ({ frames := 2, cells := 0, slots := 0, locals := 44 } : Room) [.ref ax, .int p1, .int p2] D (TYS cI cZ cQ cT) EF sz [(ax, .inr (5, [.ref ah, .ref bh, .int 0, .ref an, .ref aw, .ref ad, .ref ae, .ref ap, .ref aa])), (ah, .inr (3, [.ref af, .ref atp, .ref ab, .int 0, .int 0, .int 0])), (af, .inr (2, [.ref ak, .ref av, .ref ar, .int 0, .int 0, .int 0])), (ak, .inl (cI, 4, .inl fk)), (av, .inl (cI, 4, .inl fv)), (ar, .inl (cI, 4, .inl fr)), (ad, .inr (1, [.ref af, .ref d1, .ref d2, .ref d3, .ref d4, .int 0, .int 0, .int 0, .int 0, .int 0, .int 0, .int 0]))] (S := Unit) (fun (r : Int32) (_ : Unit) => r = (if p1 < (0 : Int32) then (-1) else (if p1 < (7 : Int32) then (if p2 < (0 : Int32) then (-2) else (if p2 ≤ (9 : Int32) then 0 else (-2))) else (-1)))) (fun _ => []) := by
  refine MetI.mk (lv := [(0, .ref ax), (1, .int p1), (2, .int p2)]) (by decide +kernel) (Nat.le_of_ble_eq_true rfl) rfl ?_
  intro p e s m below meth c A ls C0 hP hD hS hX hl
  have C1 := C0
  obtain ⟨hx, hb, hr, hml, hown, hlocks, hname, hT, hN, hK, hA⟩ := C1
  refine lv_iload_n hx hb dX5_person_0 rfl (lv_at hl 1 rfl) ?_
  refine lv_if_lt (tgt := 10) hx hb dX5_person_1 (by decide) (fun c_1 => ?_) (fun c_1 => ?_)
  · refine lv_iconst (v := (-1)) hx hb dX5_person_10 (by decide) ?_
    exact retI C0 rfl () (((if_pos c_1)).symm) (hP.sub (ws' := []) [] rfl) (hD.sub (ws' := []) [] (by decide) rfl) hS (Nat.le_of_ble_eq_true rfl) (Nat.le_of_ble_eq_true rfl) dX5_person_11
  · refine lv_iload_n hx hb dX5_person_4 rfl (lv_at hl 1 rfl) ?_
    refine lv_bipush (v := 7) hx hb dX5_person_5 (by decide) ?_
    refine lv_icmp_lt (tgt := 12) hx hb dX5_person_7 (by decide) (fun c_2 => ?_) (fun c_2 => ?_)
    · refine lv_iload_n hx hb dX5_person_12 rfl (lv_at hl 2 rfl) ?_
      refine lv_if_lt (tgt := 22) hx hb dX5_person_13 (by decide) (fun c_3 => ?_) (fun c_3 => ?_)
      · refine lv_bipush (v := (-2)) hx hb dX5_person_22 (by decide) ?_
        exact retI C0 rfl () (((if_neg c_1).trans ((if_pos c_2).trans ((if_pos c_3)))).symm) (hP.sub (ws' := []) [] rfl) (hD.sub (ws' := []) [] (by decide) rfl) hS (Nat.le_of_ble_eq_true rfl) (Nat.le_of_ble_eq_true rfl) dX5_person_24
      · refine lv_iload_n hx hb dX5_person_16 rfl (lv_at hl 2 rfl) ?_
        refine lv_bipush (v := 9) hx hb dX5_person_17 (by decide) ?_
        refine lv_icmp_le (tgt := 25) hx hb dX5_person_19 (by decide) (fun c_4 => ?_) (fun c_4 => ?_)
        · refine lv_aload_n hx hb dX5_person_25 rfl (lv_at hl 0 rfl) ?_
          refine va_get (ci := 5) (v := .ref ah) (C := RX5) (T := TX5) (N := 9) hx hb hT wu_X5 hown hK hP 0 rfl rfl 0 (by decide) (hT _ wf_X5_12) (fun _ h9 => h9) rfl dX5_person_26 ?_
          refine va_getN (ci := 3) (v := .ref af) (C := RX3) (T := TX3) (N := 6) hx hb hT wu_X3 hown hK hP 1 rfl rfl 0 (by decide) (va_Nw.use rfl (hN.get 167 kf_X5_32 rfl)) (fun _ h9 => h9) rfl dX5_person_29 ?_
          refine lv_iload_n hx hb dX5_person_32 rfl (lv_at hl 1 rfl) ?_
          refine lv_iload_n hx hb dX5_person_33 rfl (lv_at hl 2 rfl) ?_
          refine contI (wc := [(af, .inr (2, [.ref ak, .ref av, .ref ar, .int 0, .int 0, .int 0])), (ak, .inl (cI, 4, .inl fk)), (av, .inl (cI, 4, .inl fv)), (ar, .inl (cI, 4, .inl fr))]) (wr := [(ax, .inr (5, [.ref ah, .ref bh, .int 0, .ref an, .ref aw, .ref ad, .ref ae, .ref ap, .ref aa])), (ah, .inr (3, [.ref af, .ref atp, .ref ab, .int 0, .int 0, .int 0])), (ad, .inr (1, [.ref af, .ref d1, .ref d2, .ref d3, .ref d4, .int 0, .int 0, .int 0, .int 0, .int 0, .int 0, .int 0]))]) C0 hP hD hS [2, 3, 4, 5] [0, 1, 6] rfl rfl (by decide) (by decide) 0 0 (Nat.le_of_ble_eq_true rfl) (Nat.le_of_ble_eq_true rfl) (runVN (k := 2) (As := [.int p1, .int p2]) (rest := []) "DayKnown" 480 C0 (c_join l D cI cZ cQ cT _ af p1 p2 ak av ar fk fv fr) wc_X2_join kl_X5_89 wi_X2_join we_X2_join wz_X2 ⟨by decide, by decide, by decide +kernel⟩ ⟨(Nat.le_of_ble_eq_true rfl), (Nat.le_of_ble_eq_true rfl)⟩ hP hD hS EF.ok hX [2, 3, 4, 5] rfl (by decide) 2 rfl rfl rfl rfl hl.1 rfl (Nat.le_of_ble_eq_true rfl) dX5_person_34 ⟨(Nat.le_of_ble_eq_true rfl), (Nat.le_of_ble_eq_true rfl)⟩) (fun r_7 u_5 H locs w_6 hP hD hS => ?_)
          have hP : va_P D CL [(ax, .inr (5, [.ref ah, .ref bh, .int 0, .ref an, .ref aw, .ref ad, .ref ae, .ref ap, .ref aa])), (ah, .inr (3, [.ref af, .ref atp, .ref ab, .int 0, .int 0, .int 0])), (ad, .inr (1, [.ref af, .ref d1, .ref d2, .ref d3, .ref d4, .int 0, .int 0, .int 0, .int 0, .int 0, .int 0, .int 0]))] H := hP
          have hD : va_D A [(ax, .inr (5, [.ref ah, .ref bh, .int 0, .ref an, .ref aw, .ref ad, .ref ae, .ref ap, .ref aa])), (ah, .inr (3, [.ref af, .ref atp, .ref ab, .int 0, .int 0, .int 0])), (ad, .inr (1, [.ref af, .ref d1, .ref d2, .ref d3, .ref d4, .int 0, .int 0, .int 0, .int 0, .int 0, .int 0, .int 0]))] := hD
          obtain rfl : r_7 = 0 := w_6
          refine lv_istore_n (lv' := [(3, .int 0), (0, .ref ax), (1, .int p1), (2, .int p2)]) hx hb dX5_person_37 rfl hl (by decide) rfl (fun ls hl => ?_)
          refine lv_iload_n hx hb dX5_person_38 rfl (lv_at hl 0 rfl) ?_
          refine lv_if_ge (tgt := 45) hx hb dX5_person_39 (by decide) (fun _ => ?_) (fun c_0 => absurd (by decide) c_0)
          refine lv_aload_n hx hb dX5_person_45 rfl (lv_at hl 1 rfl) ?_
          refine va_get (ci := 5) (v := .ref ad) (C := RX5) (T := TX5) (N := 9) hx hb hT wu_X5 hown hK hP 0 rfl rfl 5 (by decide) (hT _ wf_X5_39) (fun _ h9 => h9) rfl dX5_person_46 ?_
          refine contV (wc := [(ad, .inr (1, [.ref af, .ref d1, .ref d2, .ref d3, .ref d4, .int 0, .int 0, .int 0, .int 0, .int 0, .int 0, .int 0]))]) (wr := [(ax, .inr (5, [.ref ah, .ref bh, .int 0, .ref an, .ref aw, .ref ad, .ref ae, .ref ap, .ref aa])), (ah, .inr (3, [.ref af, .ref atp, .ref ab, .int 0, .int 0, .int 0]))]) C0 hP hD hS [2] [0, 1] rfl rfl (by decide) (by decide) 0 0 (Nat.le_of_ble_eq_true rfl) (Nat.le_of_ble_eq_true rfl) (runVN (k := 0) (As := []) (rest := []) "DayKnown" 488 C0 (c_forget l D cI cZ cQ cT _ ad af d1 d2 d3 d4 0 0 0 0 0 0 0) wc_X1_forget kl_X5_93 wi_X1_forget we_X1_forget wz_X1 ⟨by decide, by decide, by decide +kernel⟩ ⟨(Nat.le_of_ble_eq_true rfl), (Nat.le_of_ble_eq_true rfl)⟩ hP hD hS EF.ok hX [2] rfl (by decide) 2 rfl rfl rfl rfl hl.1 rfl (Nat.le_of_ble_eq_true rfl) dX5_person_49 ⟨(Nat.le_of_ble_eq_true rfl), (Nat.le_of_ble_eq_true rfl)⟩) (fun u_8 H locs w_9 hP hD hS => ?_)
          have hP : va_P D CL [(ax, .inr (5, [.ref ah, .ref bh, .int 0, .ref an, .ref aw, .ref ad, .ref ae, .ref ap, .ref aa])), (ah, .inr (3, [.ref af, .ref atp, .ref ab, .int 0, .int 0, .int 0])), (ad, .inr (1, [.ref af, .ref d1, .ref d2, .ref d3, .ref d4, .int 0, .int 0, .int 0, .int 0, .int 0, .int 0, .int 0]))] H := hP
          have hD : va_D A [(ax, .inr (5, [.ref ah, .ref bh, .int 0, .ref an, .ref aw, .ref ad, .ref ae, .ref ap, .ref aa])), (ah, .inr (3, [.ref af, .ref atp, .ref ab, .int 0, .int 0, .int 0])), (ad, .inr (1, [.ref af, .ref d1, .ref d2, .ref d3, .ref d4, .int 0, .int 0, .int 0, .int 0, .int 0, .int 0, .int 0]))] := hD
          refine lv_iload_n hx hb dX5_person_52 rfl (lv_at hl 0 rfl) ?_
          exact retI C0 rfl () (((if_neg c_1).trans ((if_pos c_2).trans ((if_neg c_3).trans ((if_pos c_4))))).symm) (hP.sub (ws' := []) [] rfl) (hD.sub (ws' := []) [] (by decide) rfl) hS (Nat.le_of_ble_eq_true rfl) (Nat.le_of_ble_eq_true rfl) dX5_person_53
        · refine lv_bipush (v := (-2)) hx hb dX5_person_22 (by decide) ?_
          exact retI C0 rfl () (((if_neg c_1).trans ((if_pos c_2).trans ((if_neg c_3).trans ((if_neg c_4))))).symm) (hP.sub (ws' := []) [] rfl) (hD.sub (ws' := []) [] (by decide) rfl) hS (Nat.le_of_ble_eq_true rfl) (Nat.le_of_ble_eq_true rfl) dX5_person_24
    · refine lv_iconst (v := (-1)) hx hb dX5_person_10 (by decide) ?_
      exact retI C0 rfl () (((if_neg c_1).trans ((if_neg c_2))).symm) (hP.sub (ws' := []) [] rfl) (hD.sub (ws' := []) [] (by decide) rfl) hS (Nat.le_of_ble_eq_true rfl) (Nat.le_of_ble_eq_true rfl) dX5_person_11

set_option maxHeartbeats 4000000 in
set_option maxRecDepth 100000 in
theorem c_has (l : Launch) (D : va_G) (cI cZ cQ cT : ClassId) (sz : Nat) (af : Nat) (person : Int32) (ak : Nat) (av : Nat) (ar : Nat) (nt : Int32) (yd : Int32)  : MetI l yX2_has cX2_has 2 .boolean ({ frames := 0, cells := 0, slots := 0, locals := 0 } : Room) [.ref af, .int person] D (TYS cI cZ cQ cT) EF sz [(af, .inr (2, [.ref ak, .ref av, .ref ar, .int 0, .int nt, .int yd]))] (S := Unit) (fun (r : Int32) (_ : Unit) => r = 0) (fun _ => [(af, .inr (2, [.ref ak, .ref av, .ref ar, .int 0, .int nt, .int yd]))]) := by
  refine MetI.mk (lv := [(0, .ref af), (1, .int person)]) (by decide +kernel) (Nat.le_of_ble_eq_true rfl) rfl ?_
  intro p e s m below meth c A ls C0 hP hD hS hX hl
  have C1 := C0
  obtain ⟨hx, hb, hr, hml, hown, hlocks, hname, hT, hN, hK, hA⟩ := C1
  refine lv_iload_n hx hb dX2_has_0 rfl (lv_at hl 1 rfl) ?_
  refine lv_if_lt (tgt := 21) hx hb dX2_has_1 (by decide) (fun c_1 => ?_) (fun c_1 => ?_)
  · refine lv_iconst (v := 0) hx hb dX2_has_21 (by decide) ?_
    exact retI C0 rfl () rfl (hP.sub (ws' := [(af, .inr (2, [.ref ak, .ref av, .ref ar, .int 0, .int nt, .int yd]))]) [0] rfl) (hD.sub (ws' := [(af, .inr (2, [.ref ak, .ref av, .ref ar, .int 0, .int nt, .int yd]))]) [0] (by decide) rfl) hS (Nat.le_of_ble_eq_true rfl) (Nat.le_of_ble_eq_true rfl) dX2_has_22
  · refine lv_iload_n hx hb dX2_has_4 rfl (lv_at hl 1 rfl) ?_
    refine lv_aload_n hx hb dX2_has_5 rfl (lv_at hl 0 rfl) ?_
    refine va_get (ci := 2) (v := .int 0) (C := RX2) (T := TX2) (N := 6) hx hb hT wu_X2 hown hK hP 0 rfl rfl 3 (by decide) (hT _ wf_X2_21) (fun _ h9 => h9) rfl dX2_has_6 ?_
    refine lv_icmp_ge (tgt := 21) hx hb dX2_has_9 (by decide) (fun _ => ?_) (fun c_0 => absurd (by have h_0 := c_1; have z0 : (0 : Int32).toInt = 0 := (by decide); simp only [le_i, lt_i, eq_i] at h_0 ⊢; omega : (0 : Int32) ≤ person) c_0)
    refine lv_iconst (v := 0) hx hb dX2_has_21 (by decide) ?_
    exact retI C0 rfl () rfl (hP.sub (ws' := [(af, .inr (2, [.ref ak, .ref av, .ref ar, .int 0, .int nt, .int yd]))]) [0] rfl) (hD.sub (ws' := [(af, .inr (2, [.ref ak, .ref av, .ref ar, .int 0, .int nt, .int yd]))]) [0] (by decide) rfl) hS (Nat.le_of_ble_eq_true rfl) (Nat.le_of_ble_eq_true rfl) dX2_has_22

set_option maxHeartbeats 4000000 in
set_option maxRecDepth 100000 in
theorem x_of (l : Launch) (D : va_G) (cI cZ cQ cT : ClassId) (sz : Nat) (ax : Nat) (p1 : Int32) (p2 : Int32) (ah : Nat) (bh : Nat) (an : Nat) (aw : Nat) (ad : Nat) (ae : Nat) (ap : Nat) (aa : Nat) (af : Nat) (atp : Nat) (ab : Nat) (ak : Nat) (av : Nat) (ar : Nat)  : MetI l yX5_of cX5_of 4 .int ({ frames := 1, cells := 0, slots := 0, locals := 21 } : Room) [.ref ax, .int p1, .int p2] D (TYS cI cZ cQ cT) EF sz [(ax, .inr (5, [.ref ah, .ref bh, .int 0, .ref an, .ref aw, .ref ad, .ref ae, .ref ap, .ref aa])), (ah, .inr (3, [.ref af, .ref atp, .ref ab, .int 0, .int 0, .int 0])), (af, .inr (2, [.ref ak, .ref av, .ref ar, .int 0, .int 0, .int 0]))] (S := Unit) (fun (r : Int32) (_ : Unit) => r = (-1)) (fun _ => []) := by
  refine MetI.mk (lv := [(0, .ref ax), (1, .int p1), (2, .int p2)]) (by decide +kernel) (Nat.le_of_ble_eq_true rfl) rfl ?_
  intro p e s m below meth c A ls C0 hP hD hS hX hl
  have C1 := C0
  obtain ⟨hx, hb, hr, hml, hown, hlocks, hname, hT, hN, hK, hA⟩ := C1
  refine lv_aload_n hx hb dX5_of_0 rfl (lv_at hl 0 rfl) ?_
  refine va_get (ci := 5) (v := .ref ah) (C := RX5) (T := TX5) (N := 9) hx hb hT wu_X5 hown hK hP 0 rfl rfl 0 (by decide) (hT _ wf_X5_12) (fun _ h9 => h9) rfl dX5_of_1 ?_
  refine va_getN (ci := 3) (v := .ref af) (C := RX3) (T := TX3) (N := 6) hx hb hT wu_X3 hown hK hP 1 rfl rfl 0 (by decide) (va_Nw.use rfl (hN.get 167 kf_X5_32 rfl)) (fun _ h9 => h9) rfl dX5_of_4 ?_
  refine lv_astore_n (lv' := [(3, .ref af), (0, .ref ax), (1, .int p1), (2, .int p2)]) hx hb dX5_of_7 rfl hl (by decide) rfl (fun ls hl => ?_)
  refine lv_aload_n hx hb dX5_of_8 rfl (lv_at hl 0 rfl) ?_
  refine lv_iload_n hx hb dX5_of_9 rfl (lv_at hl 2 rfl) ?_
  refine contI (wc := [(af, .inr (2, [.ref ak, .ref av, .ref ar, .int 0, .int 0, .int 0]))]) (wr := [(ax, .inr (5, [.ref ah, .ref bh, .int 0, .ref an, .ref aw, .ref ad, .ref ae, .ref ap, .ref aa])), (ah, .inr (3, [.ref af, .ref atp, .ref ab, .int 0, .int 0, .int 0]))]) C0 hP hD hS [2] [0, 1] rfl rfl (by decide) (by decide) 0 0 (Nat.le_of_ble_eq_true rfl) (Nat.le_of_ble_eq_true rfl) (runVN (k := 1) (As := [.int p1]) (rest := []) "DayKnown" 493 C0 (c_has l D cI cZ cQ cT _ af p1 ak av ar 0 0) wc_X2_has kl_X5_96 wi_X2_has we_X2_has wz_X2 ⟨by decide, by decide, by decide +kernel⟩ ⟨(Nat.le_of_ble_eq_true rfl), (Nat.le_of_ble_eq_true rfl)⟩ hP hD hS EF.ok hX [2] rfl (by decide) 2 rfl rfl rfl rfl hl.1 rfl (Nat.le_of_ble_eq_true rfl) dX5_of_10 ⟨(Nat.le_of_ble_eq_true rfl), (Nat.le_of_ble_eq_true rfl)⟩) (fun r_3 u_1 H locs w_2 hP hD hS => ?_)
  have hP : va_P D CL [(ax, .inr (5, [.ref ah, .ref bh, .int 0, .ref an, .ref aw, .ref ad, .ref ae, .ref ap, .ref aa])), (ah, .inr (3, [.ref af, .ref atp, .ref ab, .int 0, .int 0, .int 0])), (af, .inr (2, [.ref ak, .ref av, .ref ar, .int 0, .int 0, .int 0]))] H := hP
  have hD : va_D A [(ax, .inr (5, [.ref ah, .ref bh, .int 0, .ref an, .ref aw, .ref ad, .ref ae, .ref ap, .ref aa])), (ah, .inr (3, [.ref af, .ref atp, .ref ab, .int 0, .int 0, .int 0])), (af, .inr (2, [.ref ak, .ref av, .ref ar, .int 0, .int 0, .int 0]))] := hD
  obtain rfl : r_3 = 0 := w_2
  refine lv_if_ne (tgt := 18) hx hb dX5_of_13 (by decide) (fun c_0 => absurd (by decide) c_0) (fun _ => ?_)
  refine lv_iconst (v := (-1)) hx hb dX5_of_16 (by decide) ?_
  exact retI C0 rfl () rfl (hP.sub (ws' := []) [] rfl) (hD.sub (ws' := []) [] (by decide) rfl) hS (Nat.le_of_ble_eq_true rfl) (Nat.le_of_ble_eq_true rfl) dX5_of_17

set_option maxHeartbeats 4000000 in
set_option maxRecDepth 100000 in
theorem x_row (l : Launch) (D : va_G) (cI cZ cQ cT : ClassId) (sz : Nat) (ax : Nat) (p1 : Int32) (p2 : Int32) (ah : Nat) (bh : Nat) (an : Nat) (aw : Nat) (ad : Nat) (ae : Nat) (ap : Nat) (aa : Nat) (af : Nat) (atp : Nat) (ab : Nat) (ak : Nat) (av : Nat) (ar : Nat)  : MetI l yX5_row cX5_row 5 .int ({ frames := 1, cells := 0, slots := 0, locals := 21 } : Room) [.ref ax, .int p1, .int p2] D (TYS cI cZ cQ cT) EF sz [(ax, .inr (5, [.ref ah, .ref bh, .int 0, .ref an, .ref aw, .ref ad, .ref ae, .ref ap, .ref aa])), (ah, .inr (3, [.ref af, .ref atp, .ref ab, .int 0, .int 0, .int 0])), (af, .inr (2, [.ref ak, .ref av, .ref ar, .int 0, .int 0, .int 0]))] (S := Unit) (fun (r : Int32) (_ : Unit) => r = (-1)) (fun _ => []) := by
  refine MetI.mk (lv := [(0, .ref ax), (1, .int p1), (2, .int p2)]) (by decide +kernel) (Nat.le_of_ble_eq_true rfl) rfl ?_
  intro p e s m below meth c A ls C0 hP hD hS hX hl
  have C1 := C0
  obtain ⟨hx, hb, hr, hml, hown, hlocks, hname, hT, hN, hK, hA⟩ := C1
  refine lv_aload_n hx hb dX5_row_0 rfl (lv_at hl 0 rfl) ?_
  refine va_get (ci := 5) (v := .ref ah) (C := RX5) (T := TX5) (N := 9) hx hb hT wu_X5 hown hK hP 0 rfl rfl 0 (by decide) (hT _ wf_X5_12) (fun _ h9 => h9) rfl dX5_row_1 ?_
  refine va_getN (ci := 3) (v := .ref af) (C := RX3) (T := TX3) (N := 6) hx hb hT wu_X3 hown hK hP 1 rfl rfl 0 (by decide) (va_Nw.use rfl (hN.get 167 kf_X5_32 rfl)) (fun _ h9 => h9) rfl dX5_row_4 ?_
  refine lv_astore_n (lv' := [(3, .ref af), (0, .ref ax), (1, .int p1), (2, .int p2)]) hx hb dX5_row_7 rfl hl (by decide) rfl (fun ls hl => ?_)
  refine lv_aload_n hx hb dX5_row_8 rfl (lv_at hl 0 rfl) ?_
  refine lv_iload_n hx hb dX5_row_9 rfl (lv_at hl 2 rfl) ?_
  refine contI (wc := [(af, .inr (2, [.ref ak, .ref av, .ref ar, .int 0, .int 0, .int 0]))]) (wr := [(ax, .inr (5, [.ref ah, .ref bh, .int 0, .ref an, .ref aw, .ref ad, .ref ae, .ref ap, .ref aa])), (ah, .inr (3, [.ref af, .ref atp, .ref ab, .int 0, .int 0, .int 0]))]) C0 hP hD hS [2] [0, 1] rfl rfl (by decide) (by decide) 0 0 (Nat.le_of_ble_eq_true rfl) (Nat.le_of_ble_eq_true rfl) (runVN (k := 1) (As := [.int p1]) (rest := []) "DayKnown" 493 C0 (c_has l D cI cZ cQ cT _ af p1 ak av ar 0 0) wc_X2_has kl_X5_96 wi_X2_has we_X2_has wz_X2 ⟨by decide, by decide, by decide +kernel⟩ ⟨(Nat.le_of_ble_eq_true rfl), (Nat.le_of_ble_eq_true rfl)⟩ hP hD hS EF.ok hX [2] rfl (by decide) 2 rfl rfl rfl rfl hl.1 rfl (Nat.le_of_ble_eq_true rfl) dX5_row_10 ⟨(Nat.le_of_ble_eq_true rfl), (Nat.le_of_ble_eq_true rfl)⟩) (fun r_3 u_1 H locs w_2 hP hD hS => ?_)
  have hP : va_P D CL [(ax, .inr (5, [.ref ah, .ref bh, .int 0, .ref an, .ref aw, .ref ad, .ref ae, .ref ap, .ref aa])), (ah, .inr (3, [.ref af, .ref atp, .ref ab, .int 0, .int 0, .int 0])), (af, .inr (2, [.ref ak, .ref av, .ref ar, .int 0, .int 0, .int 0]))] H := hP
  have hD : va_D A [(ax, .inr (5, [.ref ah, .ref bh, .int 0, .ref an, .ref aw, .ref ad, .ref ae, .ref ap, .ref aa])), (ah, .inr (3, [.ref af, .ref atp, .ref ab, .int 0, .int 0, .int 0])), (af, .inr (2, [.ref ak, .ref av, .ref ar, .int 0, .int 0, .int 0]))] := hD
  obtain rfl : r_3 = 0 := w_2
  refine lv_if_ne (tgt := 18) hx hb dX5_row_13 (by decide) (fun c_0 => absurd (by decide) c_0) (fun _ => ?_)
  refine lv_iconst (v := (-1)) hx hb dX5_row_16 (by decide) ?_
  exact retI C0 rfl () rfl (hP.sub (ws' := []) [] rfl) (hD.sub (ws' := []) [] (by decide) rfl) hS (Nat.le_of_ble_eq_true rfl) (Nat.le_of_ble_eq_true rfl) dX5_row_17

set_option maxHeartbeats 4000000 in
set_option maxRecDepth 100000 in
theorem x_note (l : Launch) (D : va_G) (cI cZ cQ cT : ClassId) (sz : Nat) (ax : Nat) (p1 : Int32) (p2 : Int32) (ah : Nat) (bh : Nat) (an : Nat) (aw : Nat) (ad : Nat) (ae : Nat) (ap : Nat) (aa : Nat) (af : Nat) (atp : Nat) (ab : Nat) (ak : Nat) (av : Nat) (ar : Nat)  : MetI l yX5_note cX5_note 5 .int ({ frames := 1, cells := 0, slots := 0, locals := 21 } : Room) [.ref ax, .int p1, .int p2] D (TYS cI cZ cQ cT) EF sz [(ax, .inr (5, [.ref ah, .ref bh, .int 0, .ref an, .ref aw, .ref ad, .ref ae, .ref ap, .ref aa])), (ah, .inr (3, [.ref af, .ref atp, .ref ab, .int 0, .int 0, .int 0])), (af, .inr (2, [.ref ak, .ref av, .ref ar, .int 0, .int 0, .int 0]))] (S := Unit) (fun (r : Int32) (_ : Unit) => r = (-1)) (fun _ => []) := by
  refine MetI.mk (lv := [(0, .ref ax), (1, .int p1), (2, .int p2)]) (by decide +kernel) (Nat.le_of_ble_eq_true rfl) rfl ?_
  intro p e s m below meth c A ls C0 hP hD hS hX hl
  have C1 := C0
  obtain ⟨hx, hb, hr, hml, hown, hlocks, hname, hT, hN, hK, hA⟩ := C1
  refine lv_aload_n hx hb dX5_note_0 rfl (lv_at hl 0 rfl) ?_
  refine va_get (ci := 5) (v := .ref ah) (C := RX5) (T := TX5) (N := 9) hx hb hT wu_X5 hown hK hP 0 rfl rfl 0 (by decide) (hT _ wf_X5_12) (fun _ h9 => h9) rfl dX5_note_1 ?_
  refine va_getN (ci := 3) (v := .ref af) (C := RX3) (T := TX3) (N := 6) hx hb hT wu_X3 hown hK hP 1 rfl rfl 0 (by decide) (va_Nw.use rfl (hN.get 167 kf_X5_32 rfl)) (fun _ h9 => h9) rfl dX5_note_4 ?_
  refine lv_astore_n (lv' := [(3, .ref af), (0, .ref ax), (1, .int p1), (2, .int p2)]) hx hb dX5_note_7 rfl hl (by decide) rfl (fun ls hl => ?_)
  refine lv_aload_n hx hb dX5_note_8 rfl (lv_at hl 0 rfl) ?_
  refine lv_iload_n hx hb dX5_note_9 rfl (lv_at hl 2 rfl) ?_
  refine contI (wc := [(af, .inr (2, [.ref ak, .ref av, .ref ar, .int 0, .int 0, .int 0]))]) (wr := [(ax, .inr (5, [.ref ah, .ref bh, .int 0, .ref an, .ref aw, .ref ad, .ref ae, .ref ap, .ref aa])), (ah, .inr (3, [.ref af, .ref atp, .ref ab, .int 0, .int 0, .int 0]))]) C0 hP hD hS [2] [0, 1] rfl rfl (by decide) (by decide) 0 0 (Nat.le_of_ble_eq_true rfl) (Nat.le_of_ble_eq_true rfl) (runVN (k := 1) (As := [.int p1]) (rest := []) "DayKnown" 493 C0 (c_has l D cI cZ cQ cT _ af p1 ak av ar 0 0) wc_X2_has kl_X5_96 wi_X2_has we_X2_has wz_X2 ⟨by decide, by decide, by decide +kernel⟩ ⟨(Nat.le_of_ble_eq_true rfl), (Nat.le_of_ble_eq_true rfl)⟩ hP hD hS EF.ok hX [2] rfl (by decide) 2 rfl rfl rfl rfl hl.1 rfl (Nat.le_of_ble_eq_true rfl) dX5_note_10 ⟨(Nat.le_of_ble_eq_true rfl), (Nat.le_of_ble_eq_true rfl)⟩) (fun r_3 u_1 H locs w_2 hP hD hS => ?_)
  have hP : va_P D CL [(ax, .inr (5, [.ref ah, .ref bh, .int 0, .ref an, .ref aw, .ref ad, .ref ae, .ref ap, .ref aa])), (ah, .inr (3, [.ref af, .ref atp, .ref ab, .int 0, .int 0, .int 0])), (af, .inr (2, [.ref ak, .ref av, .ref ar, .int 0, .int 0, .int 0]))] H := hP
  have hD : va_D A [(ax, .inr (5, [.ref ah, .ref bh, .int 0, .ref an, .ref aw, .ref ad, .ref ae, .ref ap, .ref aa])), (ah, .inr (3, [.ref af, .ref atp, .ref ab, .int 0, .int 0, .int 0])), (af, .inr (2, [.ref ak, .ref av, .ref ar, .int 0, .int 0, .int 0]))] := hD
  obtain rfl : r_3 = 0 := w_2
  refine lv_if_ne (tgt := 18) hx hb dX5_note_13 (by decide) (fun c_0 => absurd (by decide) c_0) (fun _ => ?_)
  refine lv_iconst (v := (-1)) hx hb dX5_note_16 (by decide) ?_
  exact retI C0 rfl () rfl (hP.sub (ws' := []) [] rfl) (hD.sub (ws' := []) [] (by decide) rfl) hS (Nat.le_of_ble_eq_true rfl) (Nat.le_of_ble_eq_true rfl) dX5_note_17

set_option maxHeartbeats 4000000 in
set_option maxRecDepth 100000 in
theorem c_allDays (l : Launch) (D : va_G) (cI cZ cQ cT : ClassId) (sz : Nat) (af : Nat) (ak : Nat) (av : Nat) (ar : Nat) (nt : Int32) (yd : Int32)  : MetI l yX2_allDays cX2_allDays 1 .int ({ frames := 0, cells := 0, slots := 0, locals := 0 } : Room) [.ref af] D (TYS cI cZ cQ cT) EF sz [(af, .inr (2, [.ref ak, .ref av, .ref ar, .int 0, .int nt, .int yd]))] (S := Unit) (fun (r : Int32) (_ : Unit) => r = 1) (fun _ => [(af, .inr (2, [.ref ak, .ref av, .ref ar, .int 0, .int nt, .int yd]))]) := by
  refine MetI.mk (lv := [(0, .ref af)]) (by decide +kernel) (Nat.le_of_ble_eq_true rfl) rfl ?_
  intro p e s m below meth c A ls C0 hP hD hS hX hl
  have C1 := C0
  obtain ⟨hx, hb, hr, hml, hown, hlocks, hname, hT, hN, hK, hA⟩ := C1
  refine lv_iconst (v := 1) hx hb dX2_allDays_0 (by decide) ?_
  refine lv_iconst (v := 3) hx hb dX2_allDays_1 (by decide) ?_
  refine lv_aload_n hx hb dX2_allDays_2 rfl (lv_at hl 0 rfl) ?_
  refine va_get (ci := 2) (v := .int 0) (C := RX2) (T := TX2) (N := 6) hx hb hT wu_X2 hown hK hP 0 rfl rfl 3 (by decide) (hT _ wf_X2_21) (fun _ h9 => h9) rfl dX2_allDays_3 ?_
  refine lv_imul hx hb dX2_allDays_6 ?_
  refine lv_ci 0 (by decide +kernel) ?_
  refine lv_ishl hx hb dX2_allDays_7 ?_
  refine lv_ci 1 (by decide +kernel) ?_
  exact retI C0 rfl () rfl (hP.sub (ws' := [(af, .inr (2, [.ref ak, .ref av, .ref ar, .int 0, .int nt, .int yd]))]) [0] rfl) (hD.sub (ws' := [(af, .inr (2, [.ref ak, .ref av, .ref ar, .int 0, .int nt, .int yd]))]) [0] (by decide) rfl) hS (Nat.le_of_ble_eq_true rfl) (Nat.le_of_ble_eq_true rfl) dX2_allDays_8

set_option maxHeartbeats 4000000 in
set_option maxRecDepth 100000 in
theorem c_isDay (l : Launch) (D : va_G) (cI cZ cQ cT : ClassId) (sz : Nat) (af : Nat) (day : Int32) (ak : Nat) (av : Nat) (ar : Nat) (nt : Int32) (yd : Int32)  : MetI l yX2_isDay cX2_isDay 2 .boolean ({ frames := 1, cells := 0, slots := 0, locals := 20 } : Room) [.ref af, .int day] D (TYS cI cZ cQ cT) EF sz [(af, .inr (2, [.ref ak, .ref av, .ref ar, .int 0, .int nt, .int yd]))] (S := Unit) (fun (r : Int32) (_ : Unit) => r = (if (day = 0) then 1 else 0)) (fun _ => [(af, .inr (2, [.ref ak, .ref av, .ref ar, .int 0, .int nt, .int yd]))]) := by
  refine MetI.mk (lv := [(0, .ref af), (1, .int day)]) (by decide +kernel) (Nat.le_of_ble_eq_true rfl) rfl ?_
  intro p e s m below meth c A ls C0 hP hD hS hX hl
  have C1 := C0
  obtain ⟨hx, hb, hr, hml, hown, hlocks, hname, hT, hN, hK, hA⟩ := C1
  refine lv_iload_n hx hb dX2_isDay_0 rfl (lv_at hl 1 rfl) ?_
  refine lv_if_lt (tgt := 16) hx hb dX2_isDay_1 (by decide) (fun c_1 => ?_) (fun c_1 => ?_)
  · refine lv_iconst (v := 0) hx hb dX2_isDay_16 (by decide) ?_
    exact retI C0 rfl () ((if_neg (by have h_0 := c_1; have z0 : (0 : Int32).toInt = 0 := (by decide); simp only [le_i, lt_i, eq_i] at h_0 ⊢; omega : ¬ day = (0 : Int32))).symm) (hP.sub (ws' := [(af, .inr (2, [.ref ak, .ref av, .ref ar, .int 0, .int nt, .int yd]))]) [0] rfl) (hD.sub (ws' := [(af, .inr (2, [.ref ak, .ref av, .ref ar, .int 0, .int nt, .int yd]))]) [0] (by decide) rfl) hS (Nat.le_of_ble_eq_true rfl) (Nat.le_of_ble_eq_true rfl) dX2_isDay_17
  · refine lv_iload_n hx hb dX2_isDay_4 rfl (lv_at hl 1 rfl) ?_
    refine lv_aload_n hx hb dX2_isDay_5 rfl (lv_at hl 0 rfl) ?_
    refine contI (wc := [(af, .inr (2, [.ref ak, .ref av, .ref ar, .int 0, .int nt, .int yd]))]) (wr := []) C0 hP hD hS [0] [] rfl rfl (by decide) (by decide) 0 0 (Nat.le_of_ble_eq_true rfl) (Nat.le_of_ble_eq_true rfl) (runV (k := 0) (As := []) (rest := [.int day]) C0 (c_allDays l D cI cZ cQ cT _ af ak av ar nt yd) wc_X2_allDays wl_X2_25 wi_X2_allDays we_X2_allDays wz_X2 ⟨by decide, by decide, by decide +kernel⟩ ⟨(Nat.le_of_ble_eq_true rfl), (Nat.le_of_ble_eq_true rfl)⟩ hP hD hS EF.ok hX [0] rfl (by decide) 0 rfl rfl rfl rfl hl.1 rfl (Nat.le_of_ble_eq_true rfl) dX2_isDay_6 ⟨(Nat.le_of_ble_eq_true rfl), (Nat.le_of_ble_eq_true rfl)⟩) (fun r_4 u_2 H locs w_3 hP hD hS => ?_)
    have hP : va_P D CL [(af, .inr (2, [.ref ak, .ref av, .ref ar, .int 0, .int nt, .int yd]))] H := hP
    have hD : va_D A [(af, .inr (2, [.ref ak, .ref av, .ref ar, .int 0, .int nt, .int yd]))] := hD
    obtain rfl : r_4 = 1 := w_3
    refine lv_icmp_ge (tgt := 16) hx hb dX2_isDay_9 (by decide) (fun c_5 => ?_) (fun c_5 => ?_)
    · refine lv_iconst (v := 0) hx hb dX2_isDay_16 (by decide) ?_
      exact retI C0 rfl () ((if_neg (by have h_0 := c_1; have h_1 := c_5; have z0 : (0 : Int32).toInt = 0 := (by decide); have z1 : (1 : Int32).toInt = 1 := (by decide); simp only [le_i, lt_i, eq_i] at h_0 h_1 ⊢; omega : ¬ day = (0 : Int32))).symm) (hP.sub (ws' := [(af, .inr (2, [.ref ak, .ref av, .ref ar, .int 0, .int nt, .int yd]))]) [0] rfl) (hD.sub (ws' := [(af, .inr (2, [.ref ak, .ref av, .ref ar, .int 0, .int nt, .int yd]))]) [0] (by decide) rfl) hS (Nat.le_of_ble_eq_true rfl) (Nat.le_of_ble_eq_true rfl) dX2_isDay_17
    · refine lv_iconst (v := 1) hx hb dX2_isDay_12 (by decide) ?_
      refine lv_goto (tgt := 17) hx hb dX2_isDay_13 (by decide) ?_
      exact retI C0 rfl () ((if_pos (by have h_0 := c_1; have h_1 := c_5; have z0 : (0 : Int32).toInt = 0 := (by decide); have z1 : (1 : Int32).toInt = 1 := (by decide); simp only [le_i, lt_i, eq_i] at h_0 h_1 ⊢; omega : day = (0 : Int32))).symm) (hP.sub (ws' := [(af, .inr (2, [.ref ak, .ref av, .ref ar, .int 0, .int nt, .int yd]))]) [0] rfl) (hD.sub (ws' := [(af, .inr (2, [.ref ak, .ref av, .ref ar, .int 0, .int nt, .int yd]))]) [0] (by decide) rfl) hS (Nat.le_of_ble_eq_true rfl) (Nat.le_of_ble_eq_true rfl) dX2_isDay_17

set_option maxHeartbeats 4000000 in
set_option maxRecDepth 100000 in
theorem x_yesterday (l : Launch) (D : va_G) (cI cZ cQ cT : ClassId) (sz : Nat) (ax : Nat) (p1 : Int32) (ah : Nat) (bh : Nat) (an : Nat) (aw : Nat) (ad : Nat) (ae : Nat) (ap : Nat) (aa : Nat) (af : Nat) (atp : Nat) (ab : Nat) (ak : Nat) (av : Nat) (ar : Nat) (d1 : Nat) (d2 : Nat) (d3 : Nat) (d4 : Nat)  : MetI l yX5_yesterday cX5_yesterday 3 .int ({ frames := 2, cells := 0, slots := 0, locals := 41 } : Room) [.ref ax, .int p1] D (TYS cI cZ cQ cT) EF sz [(ax, .inr (5, [.ref ah, .ref bh, .int 0, .ref an, .ref aw, .ref ad, .ref ae, .ref ap, .ref aa])), (ah, .inr (3, [.ref af, .ref atp, .ref ab, .int 0, .int 0, .int 0])), (af, .inr (2, [.ref ak, .ref av, .ref ar, .int 0, .int 0, .int 0])), (ad, .inr (1, [.ref af, .ref d1, .ref d2, .ref d3, .ref d4, .int 0, .int 0, .int 0, .int 0, .int 0, .int 0, .int 0]))] (S := Unit) (fun (r : Int32) (_ : Unit) => r = (if (p1 = 0) then 0 else (-2))) (fun _ => []) := by
  refine MetI.mk (lv := [(0, .ref ax), (1, .int p1)]) (by decide +kernel) (Nat.le_of_ble_eq_true rfl) rfl ?_
  intro p e s m below meth c A ls C0 hP hD hS hX hl
  have C1 := C0
  obtain ⟨hx, hb, hr, hml, hown, hlocks, hname, hT, hN, hK, hA⟩ := C1
  refine lv_aload_n hx hb dX5_yesterday_0 rfl (lv_at hl 0 rfl) ?_
  refine va_get (ci := 5) (v := .ref ah) (C := RX5) (T := TX5) (N := 9) hx hb hT wu_X5 hown hK hP 0 rfl rfl 0 (by decide) (hT _ wf_X5_12) (fun _ h9 => h9) rfl dX5_yesterday_1 ?_
  refine va_getN (ci := 3) (v := .ref af) (C := RX3) (T := TX3) (N := 6) hx hb hT wu_X3 hown hK hP 1 rfl rfl 0 (by decide) (va_Nw.use rfl (hN.get 167 kf_X5_32 rfl)) (fun _ h9 => h9) rfl dX5_yesterday_4 ?_
  refine lv_iload_n hx hb dX5_yesterday_7 rfl (lv_at hl 1 rfl) ?_
  refine contI (wc := [(af, .inr (2, [.ref ak, .ref av, .ref ar, .int 0, .int 0, .int 0]))]) (wr := [(ax, .inr (5, [.ref ah, .ref bh, .int 0, .ref an, .ref aw, .ref ad, .ref ae, .ref ap, .ref aa])), (ah, .inr (3, [.ref af, .ref atp, .ref ab, .int 0, .int 0, .int 0])), (ad, .inr (1, [.ref af, .ref d1, .ref d2, .ref d3, .ref d4, .int 0, .int 0, .int 0, .int 0, .int 0, .int 0, .int 0]))]) C0 hP hD hS [2] [0, 1, 3] rfl rfl (by decide) (by decide) 0 0 (Nat.le_of_ble_eq_true rfl) (Nat.le_of_ble_eq_true rfl) (runVN (k := 1) (As := [.int p1]) (rest := []) "DayKnown" 514 C0 (c_isDay l D cI cZ cQ cT _ af p1 ak av ar 0 0) wc_X2_isDay kl_X5_117 wi_X2_isDay we_X2_isDay wz_X2 ⟨by decide, by decide, by decide +kernel⟩ ⟨(Nat.le_of_ble_eq_true rfl), (Nat.le_of_ble_eq_true rfl)⟩ hP hD hS EF.ok hX [2] rfl (by decide) 2 rfl rfl rfl rfl hl.1 rfl (Nat.le_of_ble_eq_true rfl) dX5_yesterday_8 ⟨(Nat.le_of_ble_eq_true rfl), (Nat.le_of_ble_eq_true rfl)⟩) (fun r_3 u_1 H locs w_2 hP hD hS => ?_)
  have hP : va_P D CL [(ax, .inr (5, [.ref ah, .ref bh, .int 0, .ref an, .ref aw, .ref ad, .ref ae, .ref ap, .ref aa])), (ah, .inr (3, [.ref af, .ref atp, .ref ab, .int 0, .int 0, .int 0])), (ad, .inr (1, [.ref af, .ref d1, .ref d2, .ref d3, .ref d4, .int 0, .int 0, .int 0, .int 0, .int 0, .int 0, .int 0])), (af, .inr (2, [.ref ak, .ref av, .ref ar, .int 0, .int 0, .int 0]))] H := hP
  have hD : va_D A [(ax, .inr (5, [.ref ah, .ref bh, .int 0, .ref an, .ref aw, .ref ad, .ref ae, .ref ap, .ref aa])), (ah, .inr (3, [.ref af, .ref atp, .ref ab, .int 0, .int 0, .int 0])), (ad, .inr (1, [.ref af, .ref d1, .ref d2, .ref d3, .ref d4, .int 0, .int 0, .int 0, .int 0, .int 0, .int 0, .int 0])), (af, .inr (2, [.ref ak, .ref av, .ref ar, .int 0, .int 0, .int 0]))] := hD
  refine (Decidable.em ((p1 = 0))).elim (fun c_4 => ?_) (fun c_4 => ?_)
  · obtain rfl : r_3 = 1 := w_2.trans (if_pos c_4)
    subst c_4
    refine lv_if_ne (tgt := 17) hx hb dX5_yesterday_11 (by decide) (fun _ => ?_) (fun c_0 => absurd c_0 (by decide))
    refine lv_aload_n hx hb dX5_yesterday_17 rfl (lv_at hl 0 rfl) ?_
    refine va_get (ci := 5) (v := .ref ah) (C := RX5) (T := TX5) (N := 9) hx hb hT wu_X5 hown hK hP 0 rfl rfl 0 (by decide) (hT _ wf_X5_12) (fun _ h9 => h9) rfl dX5_yesterday_18 ?_
    refine va_getN (ci := 3) (v := .ref af) (C := RX3) (T := TX3) (N := 6) hx hb hT wu_X3 hown hK hP 1 rfl rfl 0 (by decide) (va_Nw.use rfl (hN.get 167 kf_X5_32 rfl)) (fun _ h9 => h9) rfl dX5_yesterday_21 ?_
    refine va_getN (ci := 2) (v := .int 0) (C := RX2) (T := TX2) (N := 6) hx hb hT wu_X2 hown hK hP 3 rfl rfl 5 (by decide) (va_Nw.use rfl (hN.get 150 kf_X5_83 rfl)) (fun _ h9 => h9) rfl dX5_yesterday_24 ?_
    refine lv_istore_n (lv' := [(2, .int 0), (0, .ref ax), (1, .int 0)]) hx hb dX5_yesterday_27 rfl hl (by decide) rfl (fun ls hl => ?_)
    refine lv_aload_n hx hb dX5_yesterday_28 rfl (lv_at hl 1 rfl) ?_
    refine va_get (ci := 5) (v := .ref ah) (C := RX5) (T := TX5) (N := 9) hx hb hT wu_X5 hown hK hP 0 rfl rfl 0 (by decide) (hT _ wf_X5_12) (fun _ h9 => h9) rfl dX5_yesterday_29 ?_
    refine va_getN (ci := 3) (v := .ref af) (C := RX3) (T := TX3) (N := 6) hx hb hT wu_X3 hown hK hP 1 rfl rfl 0 (by decide) (va_Nw.use rfl (hN.get 167 kf_X5_32 rfl)) (fun _ h9 => h9) rfl dX5_yesterday_32 ?_
    refine lv_iload_n hx hb dX5_yesterday_35 rfl (lv_at hl 2 rfl) ?_
    refine va_putN (ci := 2) (v := .int 0) (ty := .int) (C := RX2) (T := TX2) (N := 6) hx hb hT wu_X2 tyX2 tyX2_ok nmX2 hown hK hP hD hS 3 rfl rfl 5 (by decide) (va_Nw.use rfl (hN.get 150 kf_X5_83 rfl)) (fun _ h9 => h9) rfl (by decide +kernel) rfl rfl (Nat.le_of_ble_eq_true rfl) dX5_yesterday_36 (fun H locs hP hD hS => ?_)
    have hP : va_P D CL [(ax, .inr (5, [.ref ah, .ref bh, .int 0, .ref an, .ref aw, .ref ad, .ref ae, .ref ap, .ref aa])), (ah, .inr (3, [.ref af, .ref atp, .ref ab, .int 0, .int 0, .int 0])), (ad, .inr (1, [.ref af, .ref d1, .ref d2, .ref d3, .ref d4, .int 0, .int 0, .int 0, .int 0, .int 0, .int 0, .int 0])), (af, .inr (2, [.ref ak, .ref av, .ref ar, .int 0, .int 0, .int 0]))] H := hP
    have hD : va_D A [(ax, .inr (5, [.ref ah, .ref bh, .int 0, .ref an, .ref aw, .ref ad, .ref ae, .ref ap, .ref aa])), (ah, .inr (3, [.ref af, .ref atp, .ref ab, .int 0, .int 0, .int 0])), (ad, .inr (1, [.ref af, .ref d1, .ref d2, .ref d3, .ref d4, .int 0, .int 0, .int 0, .int 0, .int 0, .int 0, .int 0])), (af, .inr (2, [.ref ak, .ref av, .ref ar, .int 0, .int 0, .int 0]))] := hD
    refine lv_aload_n hx hb dX5_yesterday_39 rfl (lv_at hl 1 rfl) ?_
    refine va_get (ci := 5) (v := .ref ad) (C := RX5) (T := TX5) (N := 9) hx hb hT wu_X5 hown hK hP 0 rfl rfl 5 (by decide) (hT _ wf_X5_39) (fun _ h9 => h9) rfl dX5_yesterday_40 ?_
    refine contV (wc := [(ad, .inr (1, [.ref af, .ref d1, .ref d2, .ref d3, .ref d4, .int 0, .int 0, .int 0, .int 0, .int 0, .int 0, .int 0]))]) (wr := [(ax, .inr (5, [.ref ah, .ref bh, .int 0, .ref an, .ref aw, .ref ad, .ref ae, .ref ap, .ref aa])), (ah, .inr (3, [.ref af, .ref atp, .ref ab, .int 0, .int 0, .int 0])), (af, .inr (2, [.ref ak, .ref av, .ref ar, .int 0, .int 0, .int 0]))]) C0 hP hD hS [2] [0, 1, 3] rfl rfl (by decide) (by decide) 0 0 (Nat.le_of_ble_eq_true rfl) (Nat.le_of_ble_eq_true rfl) (runVN (k := 0) (As := []) (rest := []) "DayKnown" 488 C0 (c_forget l D cI cZ cQ cT _ ad af d1 d2 d3 d4 0 0 0 0 0 0 0) wc_X1_forget kl_X5_93 wi_X1_forget we_X1_forget wz_X1 ⟨by decide, by decide, by decide +kernel⟩ ⟨(Nat.le_of_ble_eq_true rfl), (Nat.le_of_ble_eq_true rfl)⟩ hP hD hS EF.ok hX [2] rfl (by decide) 2 rfl rfl rfl rfl hl.1 rfl (Nat.le_of_ble_eq_true rfl) dX5_yesterday_43 ⟨(Nat.le_of_ble_eq_true rfl), (Nat.le_of_ble_eq_true rfl)⟩) (fun u_5 H locs w_6 hP hD hS => ?_)
    have hP : va_P D CL [(ax, .inr (5, [.ref ah, .ref bh, .int 0, .ref an, .ref aw, .ref ad, .ref ae, .ref ap, .ref aa])), (ah, .inr (3, [.ref af, .ref atp, .ref ab, .int 0, .int 0, .int 0])), (af, .inr (2, [.ref ak, .ref av, .ref ar, .int 0, .int 0, .int 0])), (ad, .inr (1, [.ref af, .ref d1, .ref d2, .ref d3, .ref d4, .int 0, .int 0, .int 0, .int 0, .int 0, .int 0, .int 0]))] H := hP
    have hD : va_D A [(ax, .inr (5, [.ref ah, .ref bh, .int 0, .ref an, .ref aw, .ref ad, .ref ae, .ref ap, .ref aa])), (ah, .inr (3, [.ref af, .ref atp, .ref ab, .int 0, .int 0, .int 0])), (af, .inr (2, [.ref ak, .ref av, .ref ar, .int 0, .int 0, .int 0])), (ad, .inr (1, [.ref af, .ref d1, .ref d2, .ref d3, .ref d4, .int 0, .int 0, .int 0, .int 0, .int 0, .int 0, .int 0]))] := hD
    refine lv_iload_n hx hb dX5_yesterday_46 rfl (lv_at hl 0 rfl) ?_
    exact retI C0 rfl () (((if_pos rfl)).symm) (hP.sub (ws' := []) [] rfl) (hD.sub (ws' := []) [] (by decide) rfl) hS (Nat.le_of_ble_eq_true rfl) (Nat.le_of_ble_eq_true rfl) dX5_yesterday_47
  · obtain rfl : r_3 = 0 := w_2.trans (if_neg c_4)
    refine lv_if_ne (tgt := 17) hx hb dX5_yesterday_11 (by decide) (fun c_0 => absurd (by decide) c_0) (fun _ => ?_)
    refine lv_bipush (v := (-2)) hx hb dX5_yesterday_14 (by decide) ?_
    exact retI C0 rfl () (((if_neg c_4)).symm) (hP.sub (ws' := []) [] rfl) (hD.sub (ws' := []) [] (by decide) rfl) hS (Nat.le_of_ble_eq_true rfl) (Nat.le_of_ble_eq_true rfl) dX5_yesterday_16

set_option maxHeartbeats 4000000 in
set_option maxRecDepth 100000 in
theorem x_by (l : Launch) (D : va_G) (cI cZ cQ cT : ClassId) (sz : Nat) (ax : Nat) (p1 : Int32) (p2 : Int32) (p3 : Int32) (p4 : Int32) (ah : Nat) (bh : Nat) (an : Nat) (aw : Nat) (ad : Nat) (ae : Nat) (ap : Nat) (aa : Nat) (af : Nat) (atp : Nat) (ab : Nat) (ak : Nat) (av : Nat) (ar : Nat)  : MetI l yX5_by cX5_by 6 .int ({ frames := 1, cells := 0, slots := 0, locals := 21 } : Room) [.ref ax, .int p1, .int p2, .int p3, .int p4] D (TYS cI cZ cQ cT) EF sz [(ax, .inr (5, [.ref ah, .ref bh, .int 0, .ref an, .ref aw, .ref ad, .ref ae, .ref ap, .ref aa])), (ah, .inr (3, [.ref af, .ref atp, .ref ab, .int 0, .int 0, .int 0])), (af, .inr (2, [.ref ak, .ref av, .ref ar, .int 0, .int 0, .int 0]))] (S := Unit) (fun (r : Int32) (_ : Unit) => r = (-10001)) (fun _ => []) := by
  refine MetI.mk (lv := [(0, .ref ax), (1, .int p1), (2, .int p2), (3, .int p3), (4, .int p4)]) (by decide +kernel) (Nat.le_of_ble_eq_true rfl) rfl ?_
  intro p e s m below meth c A ls C0 hP hD hS hX hl
  have C1 := C0
  obtain ⟨hx, hb, hr, hml, hown, hlocks, hname, hT, hN, hK, hA⟩ := C1
  refine lv_aload_n hx hb dX5_by_0 rfl (lv_at hl 0 rfl) ?_
  refine va_get (ci := 5) (v := .ref ah) (C := RX5) (T := TX5) (N := 9) hx hb hT wu_X5 hown hK hP 0 rfl rfl 0 (by decide) (hT _ wf_X5_12) (fun _ h9 => h9) rfl dX5_by_1 ?_
  refine va_getN (ci := 3) (v := .ref af) (C := RX3) (T := TX3) (N := 6) hx hb hT wu_X3 hown hK hP 1 rfl rfl 0 (by decide) (va_Nw.use rfl (hN.get 167 kf_X5_32 rfl)) (fun _ h9 => h9) rfl dX5_by_4 ?_
  refine lv_iload_n hx hb dX5_by_7 rfl (lv_at hl 2 rfl) ?_
  refine contI (wc := [(af, .inr (2, [.ref ak, .ref av, .ref ar, .int 0, .int 0, .int 0]))]) (wr := [(ax, .inr (5, [.ref ah, .ref bh, .int 0, .ref an, .ref aw, .ref ad, .ref ae, .ref ap, .ref aa])), (ah, .inr (3, [.ref af, .ref atp, .ref ab, .int 0, .int 0, .int 0]))]) C0 hP hD hS [2] [0, 1] rfl rfl (by decide) (by decide) 0 0 (Nat.le_of_ble_eq_true rfl) (Nat.le_of_ble_eq_true rfl) (runVN (k := 1) (As := [.int p2]) (rest := []) "DayKnown" 493 C0 (c_has l D cI cZ cQ cT _ af p2 ak av ar 0 0) wc_X2_has kl_X5_96 wi_X2_has we_X2_has wz_X2 ⟨by decide, by decide, by decide +kernel⟩ ⟨(Nat.le_of_ble_eq_true rfl), (Nat.le_of_ble_eq_true rfl)⟩ hP hD hS EF.ok hX [2] rfl (by decide) 2 rfl rfl rfl rfl hl.1 rfl (Nat.le_of_ble_eq_true rfl) dX5_by_8 ⟨(Nat.le_of_ble_eq_true rfl), (Nat.le_of_ble_eq_true rfl)⟩) (fun r_3 u_1 H locs w_2 hP hD hS => ?_)
  have hP : va_P D CL [(ax, .inr (5, [.ref ah, .ref bh, .int 0, .ref an, .ref aw, .ref ad, .ref ae, .ref ap, .ref aa])), (ah, .inr (3, [.ref af, .ref atp, .ref ab, .int 0, .int 0, .int 0])), (af, .inr (2, [.ref ak, .ref av, .ref ar, .int 0, .int 0, .int 0]))] H := hP
  have hD : va_D A [(ax, .inr (5, [.ref ah, .ref bh, .int 0, .ref an, .ref aw, .ref ad, .ref ae, .ref ap, .ref aa])), (ah, .inr (3, [.ref af, .ref atp, .ref ab, .int 0, .int 0, .int 0])), (af, .inr (2, [.ref ak, .ref av, .ref ar, .int 0, .int 0, .int 0]))] := hD
  obtain rfl : r_3 = 0 := w_2
  refine lv_if_eq (tgt := 32) hx hb dX5_by_11 (by decide) (fun _ => ?_) (fun c_0 => absurd (by decide) c_0)
  refine lv_sipush (v := (-10001)) hx hb dX5_by_32 (by decide) ?_
  exact retI C0 rfl () rfl (hP.sub (ws' := []) [] rfl) (hD.sub (ws' := []) [] (by decide) rfl) hS (Nat.le_of_ble_eq_true rfl) (Nat.le_of_ble_eq_true rfl) dX5_by_35

set_option maxHeartbeats 4000000 in
set_option maxRecDepth 100000 in
theorem c_prepare (l : Launch) (D : va_G) (cI cZ cQ cT : ClassId) (sz : Nat) (ad : Nat) (an : Nat) (af : Nat) (d1 : Nat) (d2 : Nat) (d3 : Nat) (d4 : Nat) (i6 : Int32) (i7 : Int32) (i8 : Int32) (i9 : Int32) (i10 : Int32) (i11 : Int32) (ak : Nat) (av : Nat) (ar : Nat)  : MetV l yX1_prepare cX1_prepare 8 ({ frames := 0, cells := 0, slots := 0, locals := 0 } : Room) [.ref ad, .ref an] D (TYS cI cZ cQ cT) EF sz [(ad, .inr (1, [.ref af, .ref d1, .ref d2, .ref d3, .ref d4, .int 0, .int i6, .int i7, .int i8, .int i9, .int i10, .int i11])), (af, .inr (2, [.ref ak, .ref av, .ref ar, .int 0, .int 0, .int 0]))] (S := Unit) (fun (_ : Unit) => True) (fun _ => [(ad, .inr (1, [.ref af, .ref d1, .ref d2, .ref d3, .ref d4, .int 1, .int i6, .int i7, .int i8, .int i9, .int i10, .int i11])), (af, .inr (2, [.ref ak, .ref av, .ref ar, .int 0, .int 0, .int 0]))]) := by
  refine MetV.mk (lv := [(0, .ref ad), (1, .ref an)]) (by decide +kernel) (Nat.le_of_ble_eq_true rfl) rfl ?_
  intro p e s m below meth c A ls C0 hP hD hS hX hl
  have C1 := C0
  obtain ⟨hx, hb, hr, hml, hown, hlocks, hname, hT, hN, hK, hA⟩ := C1
  refine lv_aload_n hx hb dX1_prepare_0 rfl (lv_at hl 0 rfl) ?_
  refine va_get (ci := 1) (v := .int 0) (C := RX1) (T := TX1) (N := 12) hx hb hT wu_X1 hown hK hP 0 rfl rfl 5 (by decide) (hT _ wf_X1_30) (fun _ h9 => h9) rfl dX1_prepare_1 ?_
  refine lv_if_eq (tgt := 8) hx hb dX1_prepare_4 (by decide) (fun _ => ?_) (fun c_0 => absurd (by decide) c_0)
  refine lv_iconst (v := 0) hx hb dX1_prepare_8 (by decide) ?_
  refine lv_istore_n (lv' := [(2, .int 0), (0, .ref ad), (1, .ref an)]) hx hb dX1_prepare_9 rfl hl (by decide) rfl (fun ls hl => ?_)
  refine lv_iload_n hx hb dX1_prepare_10 rfl (lv_at hl 0 rfl) ?_
  refine lv_aload_n hx hb dX1_prepare_11 rfl (lv_at hl 1 rfl) ?_
  refine va_get (ci := 1) (v := .ref af) (C := RX1) (T := TX1) (N := 12) hx hb hT wu_X1 hown hK hP 0 rfl rfl 0 (by decide) (hT _ wf_X1_26) (fun _ h9 => h9) rfl dX1_prepare_12 ?_
  refine va_getN (ci := 2) (v := .int 0) (C := RX2) (T := TX2) (N := 6) hx hb hT wu_X2 hown hK hP 1 rfl rfl 3 (by decide) (va_Nw.use rfl (hN.get 144 kf_X1_40 rfl)) (fun _ h9 => h9) rfl dX1_prepare_15 ?_
  refine lv_icmp_ge (tgt := 146) hx hb dX1_prepare_18 (by decide) (fun _ => ?_) (fun c_0 => absurd (by decide) c_0)
  refine lv_aload_n hx hb dX1_prepare_146 rfl (lv_at hl 1 rfl) ?_
  refine lv_iconst (v := 1) hx hb dX1_prepare_147 (by decide) ?_
  refine va_put (ci := 1) (v := .int 1) (ty := .boolean) (C := RX1) (T := TX1) (N := 12) hx hb hT wu_X1 tyX1 tyX1_ok nmX1 hown hK hP hD hS 0 rfl rfl 5 (by decide) (hT _ wf_X1_30) (fun _ h9 => h9) rfl (by decide +kernel) rfl rfl (Nat.le_of_ble_eq_true rfl) dX1_prepare_148 (fun H locs hP hD hS => ?_)
  have hP : va_P D CL [(ad, .inr (1, [.ref af, .ref d1, .ref d2, .ref d3, .ref d4, .int 1, .int i6, .int i7, .int i8, .int i9, .int i10, .int i11])), (af, .inr (2, [.ref ak, .ref av, .ref ar, .int 0, .int 0, .int 0]))] H := hP
  have hD : va_D A [(ad, .inr (1, [.ref af, .ref d1, .ref d2, .ref d3, .ref d4, .int 1, .int i6, .int i7, .int i8, .int i9, .int i10, .int i11])), (af, .inr (2, [.ref ak, .ref av, .ref ar, .int 0, .int 0, .int 0]))] := hD
  exact retV C0 () trivial (hP.sub (ws' := [(ad, .inr (1, [.ref af, .ref d1, .ref d2, .ref d3, .ref d4, .int 1, .int i6, .int i7, .int i8, .int i9, .int i10, .int i11])), (af, .inr (2, [.ref ak, .ref av, .ref ar, .int 0, .int 0, .int 0]))]) [0, 1] rfl) (hD.sub (ws' := [(ad, .inr (1, [.ref af, .ref d1, .ref d2, .ref d3, .ref d4, .int 1, .int i6, .int i7, .int i8, .int i9, .int i10, .int i11])), (af, .inr (2, [.ref ak, .ref av, .ref ar, .int 0, .int 0, .int 0]))]) [0, 1] (by decide) rfl) hS (Nat.le_of_ble_eq_true rfl) (Nat.le_of_ble_eq_true rfl) dX1_prepare_151

set_option maxHeartbeats 4000000 in
set_option maxRecDepth 100000 in
theorem c_firstOtherwise (l : Launch) (D : va_G) (cI cZ cQ cT : ClassId) (sz : Nat) (ad : Nat) (day : Int32) (af : Nat) (d1 : Nat) (d2 : Nat) (d3 : Nat) (d4 : Nat) (i5 : Int32) (i6 : Int32) (i7 : Int32) (i8 : Int32) (i9 : Int32) (i10 : Int32) (i11 : Int32) (ak : Nat) (av : Nat) (ar : Nat)  : MetI l yX1_firstOtherwise cX1_firstOtherwise 5 .int ({ frames := 0, cells := 0, slots := 0, locals := 0 } : Room) [.ref ad, .int day] D (TYS cI cZ cQ cT) EF sz [(ad, .inr (1, [.ref af, .ref d1, .ref d2, .ref d3, .ref d4, .int i5, .int i6, .int i7, .int i8, .int i9, .int i10, .int i11])), (af, .inr (2, [.ref ak, .ref av, .ref ar, .int 0, .int 0, .int 0]))] (S := Unit) (fun (r : Int32) (_ : Unit) => r = (-5)) (fun _ => [(ad, .inr (1, [.ref af, .ref d1, .ref d2, .ref d3, .ref d4, .int i5, .int i6, .int i7, .int i8, .int i9, .int i10, .int i11])), (af, .inr (2, [.ref ak, .ref av, .ref ar, .int 0, .int 0, .int 0]))]) := by
  refine MetI.mk (lv := [(0, .ref ad), (1, .int day)]) (by decide +kernel) (Nat.le_of_ble_eq_true rfl) rfl ?_
  intro p e s m below meth c A ls C0 hP hD hS hX hl
  have C1 := C0
  obtain ⟨hx, hb, hr, hml, hown, hlocks, hname, hT, hN, hK, hA⟩ := C1
  refine lv_iconst (v := 0) hx hb dX1_firstOtherwise_0 (by decide) ?_
  refine lv_istore_n (lv' := [(2, .int 0), (0, .ref ad), (1, .int day)]) hx hb dX1_firstOtherwise_1 rfl hl (by decide) rfl (fun ls hl => ?_)
  refine lv_iload_n hx hb dX1_firstOtherwise_2 rfl (lv_at hl 0 rfl) ?_
  refine lv_aload_n hx hb dX1_firstOtherwise_3 rfl (lv_at hl 1 rfl) ?_
  refine va_get (ci := 1) (v := .ref af) (C := RX1) (T := TX1) (N := 12) hx hb hT wu_X1 hown hK hP 0 rfl rfl 0 (by decide) (hT _ wf_X1_26) (fun _ h9 => h9) rfl dX1_firstOtherwise_4 ?_
  refine va_getN (ci := 2) (v := .int 0) (C := RX2) (T := TX2) (N := 6) hx hb hT wu_X2 hown hK hP 1 rfl rfl 3 (by decide) (va_Nw.use rfl (hN.get 144 kf_X1_40 rfl)) (fun _ h9 => h9) rfl dX1_firstOtherwise_7 ?_
  refine lv_icmp_ge (tgt := 69) hx hb dX1_firstOtherwise_10 (by decide) (fun _ => ?_) (fun c_0 => absurd (by decide) c_0)
  refine lv_bipush (v := (-5)) hx hb dX1_firstOtherwise_69 (by decide) ?_
  exact retI C0 rfl () rfl (hP.sub (ws' := [(ad, .inr (1, [.ref af, .ref d1, .ref d2, .ref d3, .ref d4, .int i5, .int i6, .int i7, .int i8, .int i9, .int i10, .int i11])), (af, .inr (2, [.ref ak, .ref av, .ref ar, .int 0, .int 0, .int 0]))]) [0, 1] rfl) (hD.sub (ws' := [(ad, .inr (1, [.ref af, .ref d1, .ref d2, .ref d3, .ref d4, .int i5, .int i6, .int i7, .int i8, .int i9, .int i10, .int i11])), (af, .inr (2, [.ref ak, .ref av, .ref ar, .int 0, .int 0, .int 0]))]) [0, 1] (by decide) rfl) hS (Nat.le_of_ble_eq_true rfl) (Nat.le_of_ble_eq_true rfl) dX1_firstOtherwise_71

set_option maxHeartbeats 4000000 in
set_option maxRecDepth 100000 in
theorem c_answer (l : Launch) (D : va_G) (cI cZ cQ cT : ClassId) (sz : Nat) (ad : Nat) (day : Int32) (af : Nat) (d1 : Nat) (d2 : Nat) (d3 : Nat) (d4 : Nat) (i5 : Int32) (i6 : Int32) (i7 : Int32) (i8 : Int32) (i9 : Int32) (i10 : Int32) (i11 : Int32) (ak : Nat) (av : Nat) (ar : Nat)  : MetI l yX1_answer cX1_answer 4 .int ({ frames := 0, cells := 0, slots := 0, locals := 0 } : Room) [.ref ad, .int day] D (TYS cI cZ cQ cT) EF sz [(ad, .inr (1, [.ref af, .ref d1, .ref d2, .ref d3, .ref d4, .int i5, .int i6, .int i7, .int i8, .int i9, .int i10, .int i11])), (af, .inr (2, [.ref ak, .ref av, .ref ar, .int 0, .int 0, .int 0]))] (S := Unit) (fun (r : Int32) (_ : Unit) => r = 0) (fun _ => [(ad, .inr (1, [.ref af, .ref d1, .ref d2, .ref d3, .ref d4, .int i5, .int i6, .int i7, .int i8, .int i9, .int i10, .int i11])), (af, .inr (2, [.ref ak, .ref av, .ref ar, .int 0, .int 0, .int 0]))]) := by
  refine MetI.mk (lv := [(0, .ref ad), (1, .int day)]) (by decide +kernel) (Nat.le_of_ble_eq_true rfl) rfl ?_
  intro p e s m below meth c A ls C0 hP hD hS hX hl
  have C1 := C0
  obtain ⟨hx, hb, hr, hml, hown, hlocks, hname, hT, hN, hK, hA⟩ := C1
  refine lv_iconst (v := 0) hx hb dX1_answer_0 (by decide) ?_
  refine lv_istore_n (lv' := [(2, .int 0), (0, .ref ad), (1, .int day)]) hx hb dX1_answer_1 rfl hl (by decide) rfl (fun ls hl => ?_)
  refine lv_iconst (v := 0) hx hb dX1_answer_2 (by decide) ?_
  refine lv_istore_n (lv' := [(3, .int 0), (2, .int 0), (0, .ref ad), (1, .int day)]) hx hb dX1_answer_3 rfl hl (by decide) rfl (fun ls hl => ?_)
  refine lv_iload_n hx hb dX1_answer_4 rfl (lv_at hl 0 rfl) ?_
  refine lv_aload_n hx hb dX1_answer_5 rfl (lv_at hl 2 rfl) ?_
  refine va_get (ci := 1) (v := .ref af) (C := RX1) (T := TX1) (N := 12) hx hb hT wu_X1 hown hK hP 0 rfl rfl 0 (by decide) (hT _ wf_X1_26) (fun _ h9 => h9) rfl dX1_answer_6 ?_
  refine va_getN (ci := 2) (v := .int 0) (C := RX2) (T := TX2) (N := 6) hx hb hT wu_X2 hown hK hP 1 rfl rfl 3 (by decide) (va_Nw.use rfl (hN.get 144 kf_X1_40 rfl)) (fun _ h9 => h9) rfl dX1_answer_9 ?_
  refine lv_icmp_ge (tgt := 34) hx hb dX1_answer_12 (by decide) (fun _ => ?_) (fun c_0 => absurd (by decide) c_0)
  refine lv_iload_n hx hb dX1_answer_34 rfl (lv_at hl 1 rfl) ?_
  exact retI C0 rfl () rfl (hP.sub (ws' := [(ad, .inr (1, [.ref af, .ref d1, .ref d2, .ref d3, .ref d4, .int i5, .int i6, .int i7, .int i8, .int i9, .int i10, .int i11])), (af, .inr (2, [.ref ak, .ref av, .ref ar, .int 0, .int 0, .int 0]))]) [0, 1] rfl) (hD.sub (ws' := [(ad, .inr (1, [.ref af, .ref d1, .ref d2, .ref d3, .ref d4, .int i5, .int i6, .int i7, .int i8, .int i9, .int i10, .int i11])), (af, .inr (2, [.ref ak, .ref av, .ref ar, .int 0, .int 0, .int 0]))]) [0, 1] (by decide) rfl) hS (Nat.le_of_ble_eq_true rfl) (Nat.le_of_ble_eq_true rfl) dX1_answer_35

set_option maxHeartbeats 4000000 in
set_option maxRecDepth 100000 in
theorem c_gainOfAll (l : Launch) (D : va_G) (cI cZ cQ cT : ClassId) (sz : Nat) (ad : Nat) (day : Int32) (af : Nat) (d1 : Nat) (d2 : Nat) (d3 : Nat) (d4 : Nat) (i5 : Int32) (i6 : Int32) (i7 : Int32) (i8 : Int32) (i9 : Int32) (i10 : Int32) (i11 : Int32) (ak : Nat) (av : Nat) (ar : Nat)  : MetI l yX1_gainOfAll cX1_gainOfAll 4 .int ({ frames := 0, cells := 0, slots := 0, locals := 0 } : Room) [.ref ad, .int day] D (TYS cI cZ cQ cT) EF sz [(ad, .inr (1, [.ref af, .ref d1, .ref d2, .ref d3, .ref d4, .int i5, .int i6, .int i7, .int i8, .int i9, .int i10, .int i11])), (af, .inr (2, [.ref ak, .ref av, .ref ar, .int 0, .int 0, .int 0]))] (S := Unit) (fun (r : Int32) (_ : Unit) => r = 0) (fun _ => [(ad, .inr (1, [.ref af, .ref d1, .ref d2, .ref d3, .ref d4, .int i5, .int i6, .int i7, .int i8, .int i9, .int i10, .int i11])), (af, .inr (2, [.ref ak, .ref av, .ref ar, .int 0, .int 0, .int 0]))]) := by
  refine MetI.mk (lv := [(0, .ref ad), (1, .int day)]) (by decide +kernel) (Nat.le_of_ble_eq_true rfl) rfl ?_
  intro p e s m below meth c A ls C0 hP hD hS hX hl
  have C1 := C0
  obtain ⟨hx, hb, hr, hml, hown, hlocks, hname, hT, hN, hK, hA⟩ := C1
  refine lv_iconst (v := 0) hx hb dX1_gainOfAll_0 (by decide) ?_
  refine lv_istore_n (lv' := [(2, .int 0), (0, .ref ad), (1, .int day)]) hx hb dX1_gainOfAll_1 rfl hl (by decide) rfl (fun ls hl => ?_)
  refine lv_iconst (v := 0) hx hb dX1_gainOfAll_2 (by decide) ?_
  refine lv_istore_n (lv' := [(3, .int 0), (2, .int 0), (0, .ref ad), (1, .int day)]) hx hb dX1_gainOfAll_3 rfl hl (by decide) rfl (fun ls hl => ?_)
  refine lv_iload_n hx hb dX1_gainOfAll_4 rfl (lv_at hl 0 rfl) ?_
  refine lv_aload_n hx hb dX1_gainOfAll_5 rfl (lv_at hl 2 rfl) ?_
  refine va_get (ci := 1) (v := .ref af) (C := RX1) (T := TX1) (N := 12) hx hb hT wu_X1 hown hK hP 0 rfl rfl 0 (by decide) (hT _ wf_X1_26) (fun _ h9 => h9) rfl dX1_gainOfAll_6 ?_
  refine va_getN (ci := 2) (v := .int 0) (C := RX2) (T := TX2) (N := 6) hx hb hT wu_X2 hown hK hP 1 rfl rfl 3 (by decide) (va_Nw.use rfl (hN.get 144 kf_X1_40 rfl)) (fun _ h9 => h9) rfl dX1_gainOfAll_9 ?_
  refine lv_icmp_ge (tgt := 35) hx hb dX1_gainOfAll_12 (by decide) (fun _ => ?_) (fun c_0 => absurd (by decide) c_0)
  refine lv_iload_n hx hb dX1_gainOfAll_35 rfl (lv_at hl 1 rfl) ?_
  exact retI C0 rfl () rfl (hP.sub (ws' := [(ad, .inr (1, [.ref af, .ref d1, .ref d2, .ref d3, .ref d4, .int i5, .int i6, .int i7, .int i8, .int i9, .int i10, .int i11])), (af, .inr (2, [.ref ak, .ref av, .ref ar, .int 0, .int 0, .int 0]))]) [0, 1] rfl) (hD.sub (ws' := [(ad, .inr (1, [.ref af, .ref d1, .ref d2, .ref d3, .ref d4, .int i5, .int i6, .int i7, .int i8, .int i9, .int i10, .int i11])), (af, .inr (2, [.ref ak, .ref av, .ref ar, .int 0, .int 0, .int 0]))]) [0, 1] (by decide) rfl) hS (Nat.le_of_ble_eq_true rfl) (Nat.le_of_ble_eq_true rfl) dX1_gainOfAll_36

set_option maxHeartbeats 4000000 in
set_option maxRecDepth 100000 in
theorem x_day (l : Launch) (D : va_G) (cI cZ cQ cT : ClassId) (sz : Nat) (ax : Nat) (p1 : Int32) (p2 : Int32) (ah : Nat) (bh : Nat) (an : Nat) (aw : Nat) (ad : Nat) (ae : Nat) (ap : Nat) (aa : Nat) (af : Nat) (atp : Nat) (ab : Nat) (ak : Nat) (av : Nat) (ar : Nat) (d1 : Nat) (d2 : Nat) (d3 : Nat) (d4 : Nat)  : MetI l yX5_day cX5_day 3 .int ({ frames := 2, cells := 0, slots := 0, locals := 41 } : Room) [.ref ax, .int p1, .int p2] D (TYS cI cZ cQ cT) EF sz [(ax, .inr (5, [.ref ah, .ref bh, .int 0, .ref an, .ref aw, .ref ad, .ref ae, .ref ap, .ref aa])), (ah, .inr (3, [.ref af, .ref atp, .ref ab, .int 0, .int 0, .int 0])), (af, .inr (2, [.ref ak, .ref av, .ref ar, .int 0, .int 0, .int 0])), (ad, .inr (1, [.ref af, .ref d1, .ref d2, .ref d3, .ref d4, .int 0, .int 0, .int 0, .int 0, .int 0, .int 0, .int 0]))] (S := Unit) (fun (r : Int32) (_ : Unit) => r = (if p2 < (0 : Int32) then (-10001) else (if p2 ≤ (2 : Int32) then (if (p1 = 0) then (if p2 = (0 : Int32) then (-5) else (if p2 = (1 : Int32) then 0 else 0)) else (-10002)) else (-10001)))) (fun _ => []) := by
  refine MetI.mk (lv := [(0, .ref ax), (1, .int p1), (2, .int p2)]) (by decide +kernel) (Nat.le_of_ble_eq_true rfl) rfl ?_
  intro p e s m below meth c A ls C0 hP hD hS hX hl
  have C1 := C0
  obtain ⟨hx, hb, hr, hml, hown, hlocks, hname, hT, hN, hK, hA⟩ := C1
  refine lv_iload_n hx hb dX5_day_0 rfl (lv_at hl 2 rfl) ?_
  refine lv_if_lt (tgt := 9) hx hb dX5_day_1 (by decide) (fun c_1 => ?_) (fun c_1 => ?_)
  · refine lv_sipush (v := (-10001)) hx hb dX5_day_9 (by decide) ?_
    exact retI C0 rfl () (((if_pos c_1)).symm) (hP.sub (ws' := []) [] rfl) (hD.sub (ws' := []) [] (by decide) rfl) hS (Nat.le_of_ble_eq_true rfl) (Nat.le_of_ble_eq_true rfl) dX5_day_12
  · refine lv_iload_n hx hb dX5_day_4 rfl (lv_at hl 2 rfl) ?_
    refine lv_iconst (v := 2) hx hb dX5_day_5 (by decide) ?_
    refine lv_icmp_le (tgt := 13) hx hb dX5_day_6 (by decide) (fun c_2 => ?_) (fun c_2 => ?_)
    · refine lv_aload_n hx hb dX5_day_13 rfl (lv_at hl 0 rfl) ?_
      refine va_get (ci := 5) (v := .ref ah) (C := RX5) (T := TX5) (N := 9) hx hb hT wu_X5 hown hK hP 0 rfl rfl 0 (by decide) (hT _ wf_X5_12) (fun _ h9 => h9) rfl dX5_day_14 ?_
      refine va_getN (ci := 3) (v := .ref af) (C := RX3) (T := TX3) (N := 6) hx hb hT wu_X3 hown hK hP 1 rfl rfl 0 (by decide) (va_Nw.use rfl (hN.get 167 kf_X5_32 rfl)) (fun _ h9 => h9) rfl dX5_day_17 ?_
      refine lv_iload_n hx hb dX5_day_20 rfl (lv_at hl 1 rfl) ?_
      refine contI (wc := [(af, .inr (2, [.ref ak, .ref av, .ref ar, .int 0, .int 0, .int 0]))]) (wr := [(ax, .inr (5, [.ref ah, .ref bh, .int 0, .ref an, .ref aw, .ref ad, .ref ae, .ref ap, .ref aa])), (ah, .inr (3, [.ref af, .ref atp, .ref ab, .int 0, .int 0, .int 0])), (ad, .inr (1, [.ref af, .ref d1, .ref d2, .ref d3, .ref d4, .int 0, .int 0, .int 0, .int 0, .int 0, .int 0, .int 0]))]) C0 hP hD hS [2] [0, 1, 3] rfl rfl (by decide) (by decide) 0 0 (Nat.le_of_ble_eq_true rfl) (Nat.le_of_ble_eq_true rfl) (runVN (k := 1) (As := [.int p1]) (rest := []) "DayKnown" 514 C0 (c_isDay l D cI cZ cQ cT _ af p1 ak av ar 0 0) wc_X2_isDay kl_X5_117 wi_X2_isDay we_X2_isDay wz_X2 ⟨by decide, by decide, by decide +kernel⟩ ⟨(Nat.le_of_ble_eq_true rfl), (Nat.le_of_ble_eq_true rfl)⟩ hP hD hS EF.ok hX [2] rfl (by decide) 2 rfl rfl rfl rfl hl.1 rfl (Nat.le_of_ble_eq_true rfl) dX5_day_21 ⟨(Nat.le_of_ble_eq_true rfl), (Nat.le_of_ble_eq_true rfl)⟩) (fun r_5 u_3 H locs w_4 hP hD hS => ?_)
      have hP : va_P D CL [(ax, .inr (5, [.ref ah, .ref bh, .int 0, .ref an, .ref aw, .ref ad, .ref ae, .ref ap, .ref aa])), (ah, .inr (3, [.ref af, .ref atp, .ref ab, .int 0, .int 0, .int 0])), (ad, .inr (1, [.ref af, .ref d1, .ref d2, .ref d3, .ref d4, .int 0, .int 0, .int 0, .int 0, .int 0, .int 0, .int 0])), (af, .inr (2, [.ref ak, .ref av, .ref ar, .int 0, .int 0, .int 0]))] H := hP
      have hD : va_D A [(ax, .inr (5, [.ref ah, .ref bh, .int 0, .ref an, .ref aw, .ref ad, .ref ae, .ref ap, .ref aa])), (ah, .inr (3, [.ref af, .ref atp, .ref ab, .int 0, .int 0, .int 0])), (ad, .inr (1, [.ref af, .ref d1, .ref d2, .ref d3, .ref d4, .int 0, .int 0, .int 0, .int 0, .int 0, .int 0, .int 0])), (af, .inr (2, [.ref ak, .ref av, .ref ar, .int 0, .int 0, .int 0]))] := hD
      refine (Decidable.em ((p1 = 0))).elim (fun c_6 => ?_) (fun c_6 => ?_)
      · obtain rfl : r_5 = 1 := w_4.trans (if_pos c_6)
        subst c_6
        refine lv_if_ne (tgt := 31) hx hb dX5_day_24 (by decide) (fun _ => ?_) (fun c_0 => absurd c_0 (by decide))
        refine lv_aload_n hx hb dX5_day_31 rfl (lv_at hl 0 rfl) ?_
        refine va_get (ci := 5) (v := .ref ad) (C := RX5) (T := TX5) (N := 9) hx hb hT wu_X5 hown hK hP 0 rfl rfl 5 (by decide) (hT _ wf_X5_39) (fun _ h9 => h9) rfl dX5_day_32 ?_
        refine lv_aload_n hx hb dX5_day_35 rfl (lv_at hl 0 rfl) ?_
        refine contR (wc := [(ax, .inr (5, [.ref ah, .ref bh, .int 0, .ref an, .ref aw, .ref ad, .ref ae, .ref ap, .ref aa])), (ah, .inr (3, [.ref af, .ref atp, .ref ab, .int 0, .int 0, .int 0]))]) (wr := [(ad, .inr (1, [.ref af, .ref d1, .ref d2, .ref d3, .ref d4, .int 0, .int 0, .int 0, .int 0, .int 0, .int 0, .int 0])), (af, .inr (2, [.ref ak, .ref av, .ref ar, .int 0, .int 0, .int 0]))]) C0 hP hD hS [0, 1] [2, 3] rfl rfl (by decide) (by decide) 0 0 (Nat.le_of_ble_eq_true rfl) (Nat.le_of_ble_eq_true rfl) (runV (k := 0) (As := []) (rest := [.ref ad]) C0 (c_newestTown l D cI cZ cQ cT _ ax ah bh an aw ad ae ap aa af atp ab) wc_X5_newestTown wl_X5_76 wi_X5_newestTown we_X5_newestTown wz_X5 ⟨by decide, by decide, by decide +kernel⟩ ⟨(Nat.le_of_ble_eq_true rfl), (Nat.le_of_ble_eq_true rfl)⟩ hP hD hS EF.ok hX [0, 1] rfl (by decide) 0 rfl rfl rfl rfl hl.1 rfl (Nat.le_of_ble_eq_true rfl) dX5_day_36 ⟨(Nat.le_of_ble_eq_true rfl), (Nat.le_of_ble_eq_true rfl)⟩) (fun u_7 H locs w_8 hP hD hS => ?_)
        have hP : va_P D CL [(ad, .inr (1, [.ref af, .ref d1, .ref d2, .ref d3, .ref d4, .int 0, .int 0, .int 0, .int 0, .int 0, .int 0, .int 0])), (af, .inr (2, [.ref ak, .ref av, .ref ar, .int 0, .int 0, .int 0])), (ax, .inr (5, [.ref ah, .ref bh, .int 0, .ref an, .ref aw, .ref ad, .ref ae, .ref ap, .ref aa])), (ah, .inr (3, [.ref af, .ref atp, .ref ab, .int 0, .int 0, .int 0]))] H := hP
        have hD : va_D A [(ad, .inr (1, [.ref af, .ref d1, .ref d2, .ref d3, .ref d4, .int 0, .int 0, .int 0, .int 0, .int 0, .int 0, .int 0])), (af, .inr (2, [.ref ak, .ref av, .ref ar, .int 0, .int 0, .int 0])), (ax, .inr (5, [.ref ah, .ref bh, .int 0, .ref an, .ref aw, .ref ad, .ref ae, .ref ap, .ref aa])), (ah, .inr (3, [.ref af, .ref atp, .ref ab, .int 0, .int 0, .int 0]))] := hD
        refine contV (wc := [(ad, .inr (1, [.ref af, .ref d1, .ref d2, .ref d3, .ref d4, .int 0, .int 0, .int 0, .int 0, .int 0, .int 0, .int 0])), (af, .inr (2, [.ref ak, .ref av, .ref ar, .int 0, .int 0, .int 0]))]) (wr := [(ax, .inr (5, [.ref ah, .ref bh, .int 0, .ref an, .ref aw, .ref ad, .ref ae, .ref ap, .ref aa])), (ah, .inr (3, [.ref af, .ref atp, .ref ab, .int 0, .int 0, .int 0]))]) C0 hP hD hS [0, 1] [2, 3] rfl rfl (by decide) (by decide) 0 0 (Nat.le_of_ble_eq_true rfl) (Nat.le_of_ble_eq_true rfl) (runVN (k := 1) (As := [.ref an]) (rest := []) "DayKnown" 529 C0 (c_prepare l D cI cZ cQ cT _ ad an af d1 d2 d3 d4 0 0 0 0 0 0 ak av ar) wc_X1_prepare kl_X5_123 wi_X1_prepare we_X1_prepare wz_X1 ⟨by decide, by decide, by decide +kernel⟩ ⟨(Nat.le_of_ble_eq_true rfl), (Nat.le_of_ble_eq_true rfl)⟩ hP hD hS EF.ok hX [0, 1] rfl (by decide) 0 rfl rfl rfl rfl hl.1 rfl (Nat.le_of_ble_eq_true rfl) dX5_day_39 ⟨(Nat.le_of_ble_eq_true rfl), (Nat.le_of_ble_eq_true rfl)⟩) (fun u_10 H locs w_11 hP hD hS => ?_)
        have hP : va_P D CL [(ax, .inr (5, [.ref ah, .ref bh, .int 0, .ref an, .ref aw, .ref ad, .ref ae, .ref ap, .ref aa])), (ah, .inr (3, [.ref af, .ref atp, .ref ab, .int 0, .int 0, .int 0])), (ad, .inr (1, [.ref af, .ref d1, .ref d2, .ref d3, .ref d4, .int 1, .int 0, .int 0, .int 0, .int 0, .int 0, .int 0])), (af, .inr (2, [.ref ak, .ref av, .ref ar, .int 0, .int 0, .int 0]))] H := hP
        have hD : va_D A [(ax, .inr (5, [.ref ah, .ref bh, .int 0, .ref an, .ref aw, .ref ad, .ref ae, .ref ap, .ref aa])), (ah, .inr (3, [.ref af, .ref atp, .ref ab, .int 0, .int 0, .int 0])), (ad, .inr (1, [.ref af, .ref d1, .ref d2, .ref d3, .ref d4, .int 1, .int 0, .int 0, .int 0, .int 0, .int 0, .int 0])), (af, .inr (2, [.ref ak, .ref av, .ref ar, .int 0, .int 0, .int 0]))] := hD
        refine lv_iload_n hx hb dX5_day_42 rfl (lv_at hl 2 rfl) ?_
        refine (Decidable.em (p2 = (0 : Int32))).elim (fun c_13 => ?_) (fun c_13 => ?_)
        · refine lv_lookup (off := 25) (tgt := 68) hx hb dX5_day_43 (by decide) (by rw [c_13]; decide) (by decide) ?_
          refine lv_aload_n hx hb dX5_day_68 rfl (lv_at hl 0 rfl) ?_
          refine va_get (ci := 5) (v := .ref ad) (C := RX5) (T := TX5) (N := 9) hx hb hT wu_X5 hown hK hP 0 rfl rfl 5 (by decide) (hT _ wf_X5_39) (fun _ h9 => h9) rfl dX5_day_69 ?_
          refine lv_iload_n hx hb dX5_day_72 rfl (lv_at hl 1 rfl) ?_
          refine contI (wc := [(ad, .inr (1, [.ref af, .ref d1, .ref d2, .ref d3, .ref d4, .int 1, .int 0, .int 0, .int 0, .int 0, .int 0, .int 0])), (af, .inr (2, [.ref ak, .ref av, .ref ar, .int 0, .int 0, .int 0]))]) (wr := [(ax, .inr (5, [.ref ah, .ref bh, .int 0, .ref an, .ref aw, .ref ad, .ref ae, .ref ap, .ref aa])), (ah, .inr (3, [.ref af, .ref atp, .ref ab, .int 0, .int 0, .int 0]))]) C0 hP hD hS [2, 3] [0, 1] rfl rfl (by decide) (by decide) 0 0 (Nat.le_of_ble_eq_true rfl) (Nat.le_of_ble_eq_true rfl) (runVN (k := 1) (As := [.int 0]) (rest := []) "DayKnown" 597 C0 (c_firstOtherwise l D cI cZ cQ cT _ ad 0 af d1 d2 d3 d4 1 0 0 0 0 0 0 ak av ar) wc_X1_firstOtherwise kl_X5_143 wi_X1_firstOtherwise we_X1_firstOtherwise wz_X1 ⟨by decide, by decide, by decide +kernel⟩ ⟨(Nat.le_of_ble_eq_true rfl), (Nat.le_of_ble_eq_true rfl)⟩ hP hD hS EF.ok hX [2, 3] rfl (by decide) 2 rfl rfl rfl rfl hl.1 rfl (Nat.le_of_ble_eq_true rfl) dX5_day_73 ⟨(Nat.le_of_ble_eq_true rfl), (Nat.le_of_ble_eq_true rfl)⟩) (fun r_16 u_14 H locs w_15 hP hD hS => ?_)
          have hP : va_P D CL [(ax, .inr (5, [.ref ah, .ref bh, .int 0, .ref an, .ref aw, .ref ad, .ref ae, .ref ap, .ref aa])), (ah, .inr (3, [.ref af, .ref atp, .ref ab, .int 0, .int 0, .int 0])), (ad, .inr (1, [.ref af, .ref d1, .ref d2, .ref d3, .ref d4, .int 1, .int 0, .int 0, .int 0, .int 0, .int 0, .int 0])), (af, .inr (2, [.ref ak, .ref av, .ref ar, .int 0, .int 0, .int 0]))] H := hP
          have hD : va_D A [(ax, .inr (5, [.ref ah, .ref bh, .int 0, .ref an, .ref aw, .ref ad, .ref ae, .ref ap, .ref aa])), (ah, .inr (3, [.ref af, .ref atp, .ref ab, .int 0, .int 0, .int 0])), (ad, .inr (1, [.ref af, .ref d1, .ref d2, .ref d3, .ref d4, .int 1, .int 0, .int 0, .int 0, .int 0, .int 0, .int 0])), (af, .inr (2, [.ref ak, .ref av, .ref ar, .int 0, .int 0, .int 0]))] := hD
          obtain rfl : r_16 = (-5) := w_15
          exact retI C0 rfl () (((if_neg c_1).trans ((if_pos c_2).trans ((if_pos rfl).trans ((if_pos c_13))))).symm) (hP.sub (ws' := []) [] rfl) (hD.sub (ws' := []) [] (by decide) rfl) hS (Nat.le_of_ble_eq_true rfl) (Nat.le_of_ble_eq_true rfl) dX5_day_76
        · skip
          refine (Decidable.em (p2 = (1 : Int32))).elim (fun c_17 => ?_) (fun c_17 => ?_)
          · refine lv_lookup (off := 34) (tgt := 77) hx hb dX5_day_43 (by decide) (by rw [c_17]; decide) (by decide) ?_
            refine lv_aload_n hx hb dX5_day_77 rfl (lv_at hl 0 rfl) ?_
            refine va_get (ci := 5) (v := .ref ad) (C := RX5) (T := TX5) (N := 9) hx hb hT wu_X5 hown hK hP 0 rfl rfl 5 (by decide) (hT _ wf_X5_39) (fun _ h9 => h9) rfl dX5_day_78 ?_
            refine lv_iload_n hx hb dX5_day_81 rfl (lv_at hl 1 rfl) ?_
            refine contI (wc := [(ad, .inr (1, [.ref af, .ref d1, .ref d2, .ref d3, .ref d4, .int 1, .int 0, .int 0, .int 0, .int 0, .int 0, .int 0])), (af, .inr (2, [.ref ak, .ref av, .ref ar, .int 0, .int 0, .int 0]))]) (wr := [(ax, .inr (5, [.ref ah, .ref bh, .int 0, .ref an, .ref aw, .ref ad, .ref ae, .ref ap, .ref aa])), (ah, .inr (3, [.ref af, .ref atp, .ref ab, .int 0, .int 0, .int 0]))]) C0 hP hD hS [2, 3] [0, 1] rfl rfl (by decide) (by decide) 0 0 (Nat.le_of_ble_eq_true rfl) (Nat.le_of_ble_eq_true rfl) (runVN (k := 1) (As := [.int 0]) (rest := []) "DayKnown" 602 C0 (c_answer l D cI cZ cQ cT _ ad 0 af d1 d2 d3 d4 1 0 0 0 0 0 0 ak av ar) wc_X1_answer kl_X5_146 wi_X1_answer we_X1_answer wz_X1 ⟨by decide, by decide, by decide +kernel⟩ ⟨(Nat.le_of_ble_eq_true rfl), (Nat.le_of_ble_eq_true rfl)⟩ hP hD hS EF.ok hX [2, 3] rfl (by decide) 2 rfl rfl rfl rfl hl.1 rfl (Nat.le_of_ble_eq_true rfl) dX5_day_82 ⟨(Nat.le_of_ble_eq_true rfl), (Nat.le_of_ble_eq_true rfl)⟩) (fun r_20 u_18 H locs w_19 hP hD hS => ?_)
            have hP : va_P D CL [(ax, .inr (5, [.ref ah, .ref bh, .int 0, .ref an, .ref aw, .ref ad, .ref ae, .ref ap, .ref aa])), (ah, .inr (3, [.ref af, .ref atp, .ref ab, .int 0, .int 0, .int 0])), (ad, .inr (1, [.ref af, .ref d1, .ref d2, .ref d3, .ref d4, .int 1, .int 0, .int 0, .int 0, .int 0, .int 0, .int 0])), (af, .inr (2, [.ref ak, .ref av, .ref ar, .int 0, .int 0, .int 0]))] H := hP
            have hD : va_D A [(ax, .inr (5, [.ref ah, .ref bh, .int 0, .ref an, .ref aw, .ref ad, .ref ae, .ref ap, .ref aa])), (ah, .inr (3, [.ref af, .ref atp, .ref ab, .int 0, .int 0, .int 0])), (ad, .inr (1, [.ref af, .ref d1, .ref d2, .ref d3, .ref d4, .int 1, .int 0, .int 0, .int 0, .int 0, .int 0, .int 0])), (af, .inr (2, [.ref ak, .ref av, .ref ar, .int 0, .int 0, .int 0]))] := hD
            obtain rfl : r_20 = 0 := w_19
            exact retI C0 rfl () (((if_neg c_1).trans ((if_pos c_2).trans ((if_pos rfl).trans ((if_neg c_13).trans ((if_pos c_17)))))).symm) (hP.sub (ws' := []) [] rfl) (hD.sub (ws' := []) [] (by decide) rfl) hS (Nat.le_of_ble_eq_true rfl) (Nat.le_of_ble_eq_true rfl) dX5_day_85
          · skip
            refine lv_lookup (off := 43) (tgt := 86) hx hb dX5_day_43 (by decide) (by have e0 := ne_toInt (k := 0) c_13 (by decide); have e1 := ne_toInt (k := 1) c_17 (by decide); simp [Op.lookupswitch.offset, e0.symm, e1.symm]) (by decide) ?_
            refine lv_aload_n hx hb dX5_day_86 rfl (lv_at hl 0 rfl) ?_
            refine va_get (ci := 5) (v := .ref ad) (C := RX5) (T := TX5) (N := 9) hx hb hT wu_X5 hown hK hP 0 rfl rfl 5 (by decide) (hT _ wf_X5_39) (fun _ h9 => h9) rfl dX5_day_87 ?_
            refine lv_iload_n hx hb dX5_day_90 rfl (lv_at hl 1 rfl) ?_
            refine contI (wc := [(ad, .inr (1, [.ref af, .ref d1, .ref d2, .ref d3, .ref d4, .int 1, .int 0, .int 0, .int 0, .int 0, .int 0, .int 0])), (af, .inr (2, [.ref ak, .ref av, .ref ar, .int 0, .int 0, .int 0]))]) (wr := [(ax, .inr (5, [.ref ah, .ref bh, .int 0, .ref an, .ref aw, .ref ad, .ref ae, .ref ap, .ref aa])), (ah, .inr (3, [.ref af, .ref atp, .ref ab, .int 0, .int 0, .int 0]))]) C0 hP hD hS [2, 3] [0, 1] rfl rfl (by decide) (by decide) 0 0 (Nat.le_of_ble_eq_true rfl) (Nat.le_of_ble_eq_true rfl) (runVN (k := 1) (As := [.int 0]) (rest := []) "DayKnown" 606 C0 (c_gainOfAll l D cI cZ cQ cT _ ad 0 af d1 d2 d3 d4 1 0 0 0 0 0 0 ak av ar) wc_X1_gainOfAll kl_X5_149 wi_X1_gainOfAll we_X1_gainOfAll wz_X1 ⟨by decide, by decide, by decide +kernel⟩ ⟨(Nat.le_of_ble_eq_true rfl), (Nat.le_of_ble_eq_true rfl)⟩ hP hD hS EF.ok hX [2, 3] rfl (by decide) 2 rfl rfl rfl rfl hl.1 rfl (Nat.le_of_ble_eq_true rfl) dX5_day_91 ⟨(Nat.le_of_ble_eq_true rfl), (Nat.le_of_ble_eq_true rfl)⟩) (fun r_23 u_21 H locs w_22 hP hD hS => ?_)
            have hP : va_P D CL [(ax, .inr (5, [.ref ah, .ref bh, .int 0, .ref an, .ref aw, .ref ad, .ref ae, .ref ap, .ref aa])), (ah, .inr (3, [.ref af, .ref atp, .ref ab, .int 0, .int 0, .int 0])), (ad, .inr (1, [.ref af, .ref d1, .ref d2, .ref d3, .ref d4, .int 1, .int 0, .int 0, .int 0, .int 0, .int 0, .int 0])), (af, .inr (2, [.ref ak, .ref av, .ref ar, .int 0, .int 0, .int 0]))] H := hP
            have hD : va_D A [(ax, .inr (5, [.ref ah, .ref bh, .int 0, .ref an, .ref aw, .ref ad, .ref ae, .ref ap, .ref aa])), (ah, .inr (3, [.ref af, .ref atp, .ref ab, .int 0, .int 0, .int 0])), (ad, .inr (1, [.ref af, .ref d1, .ref d2, .ref d3, .ref d4, .int 1, .int 0, .int 0, .int 0, .int 0, .int 0, .int 0])), (af, .inr (2, [.ref ak, .ref av, .ref ar, .int 0, .int 0, .int 0]))] := hD
            obtain rfl : r_23 = 0 := w_22
            exact retI C0 rfl () (((if_neg c_1).trans ((if_pos c_2).trans ((if_pos rfl).trans ((if_neg c_13).trans ((if_neg c_17)))))).symm) (hP.sub (ws' := []) [] rfl) (hD.sub (ws' := []) [] (by decide) rfl) hS (Nat.le_of_ble_eq_true rfl) (Nat.le_of_ble_eq_true rfl) dX5_day_94
      · obtain rfl : r_5 = 0 := w_4.trans (if_neg c_6)
        refine lv_if_ne (tgt := 31) hx hb dX5_day_24 (by decide) (fun c_0 => absurd (by decide) c_0) (fun _ => ?_)
        refine lv_sipush (v := (-10002)) hx hb dX5_day_27 (by decide) ?_
        exact retI C0 rfl () (((if_neg c_1).trans ((if_pos c_2).trans ((if_neg c_6)))).symm) (hP.sub (ws' := []) [] rfl) (hD.sub (ws' := []) [] (by decide) rfl) hS (Nat.le_of_ble_eq_true rfl) (Nat.le_of_ble_eq_true rfl) dX5_day_30
    · refine lv_sipush (v := (-10001)) hx hb dX5_day_9 (by decide) ?_
      exact retI C0 rfl () (((if_neg c_1).trans ((if_neg c_2))).symm) (hP.sub (ws' := []) [] rfl) (hD.sub (ws' := []) [] (by decide) rfl) hS (Nat.le_of_ble_eq_true rfl) (Nat.le_of_ble_eq_true rfl) dX5_day_12

set_option maxHeartbeats 4000000 in
set_option maxRecDepth 100000 in
theorem c_stands (l : Launch) (D : va_G) (cI cZ cQ cT : ClassId) (sz : Nat) (ad : Nat) (day : Int32) (af : Nat) (d1 : Nat) (d2 : Nat) (d3 : Nat) (d4 : Nat) (i5 : Int32) (i6 : Int32) (i7 : Int32) (i8 : Int32) (i9 : Int32) (i10 : Int32) (i11 : Int32) (ak : Nat) (av : Nat) (ar : Nat)  : MetI l yX1_stands cX1_stands 2 .boolean ({ frames := 1, cells := 0, slots := 0, locals := 24 } : Room) [.ref ad, .int day] D (TYS cI cZ cQ cT) EF sz [(ad, .inr (1, [.ref af, .ref d1, .ref d2, .ref d3, .ref d4, .int i5, .int i6, .int i7, .int i8, .int i9, .int i10, .int i11])), (af, .inr (2, [.ref ak, .ref av, .ref ar, .int 0, .int 0, .int 0]))] (S := Unit) (fun (r : Int32) (_ : Unit) => r = 1) (fun _ => [(ad, .inr (1, [.ref af, .ref d1, .ref d2, .ref d3, .ref d4, .int i5, .int i6, .int i7, .int i8, .int i9, .int i10, .int i11])), (af, .inr (2, [.ref ak, .ref av, .ref ar, .int 0, .int 0, .int 0]))]) := by
  refine MetI.mk (lv := [(0, .ref ad), (1, .int day)]) (by decide +kernel) (Nat.le_of_ble_eq_true rfl) rfl ?_
  intro p e s m below meth c A ls C0 hP hD hS hX hl
  have C1 := C0
  obtain ⟨hx, hb, hr, hml, hown, hlocks, hname, hT, hN, hK, hA⟩ := C1
  refine lv_aload_n hx hb dX1_stands_0 rfl (lv_at hl 0 rfl) ?_
  refine lv_iload_n hx hb dX1_stands_1 rfl (lv_at hl 1 rfl) ?_
  refine contI (wc := [(ad, .inr (1, [.ref af, .ref d1, .ref d2, .ref d3, .ref d4, .int i5, .int i6, .int i7, .int i8, .int i9, .int i10, .int i11])), (af, .inr (2, [.ref ak, .ref av, .ref ar, .int 0, .int 0, .int 0]))]) (wr := []) C0 hP hD hS [0, 1] [] rfl rfl (by decide) (by decide) 0 0 (Nat.le_of_ble_eq_true rfl) (Nat.le_of_ble_eq_true rfl) (runV (k := 1) (As := [.int day]) (rest := []) C0 (c_firstOtherwise l D cI cZ cQ cT _ ad day af d1 d2 d3 d4 i5 i6 i7 i8 i9 i10 i11 ak av ar) wc_X1_firstOtherwise wl_X1_110 wi_X1_firstOtherwise we_X1_firstOtherwise wz_X1 ⟨by decide, by decide, by decide +kernel⟩ ⟨(Nat.le_of_ble_eq_true rfl), (Nat.le_of_ble_eq_true rfl)⟩ hP hD hS EF.ok hX [0, 1] rfl (by decide) 0 rfl rfl rfl rfl hl.1 rfl (Nat.le_of_ble_eq_true rfl) dX1_stands_2 ⟨(Nat.le_of_ble_eq_true rfl), (Nat.le_of_ble_eq_true rfl)⟩) (fun r_3 u_1 H locs w_2 hP hD hS => ?_)
  have hP : va_P D CL [(ad, .inr (1, [.ref af, .ref d1, .ref d2, .ref d3, .ref d4, .int i5, .int i6, .int i7, .int i8, .int i9, .int i10, .int i11])), (af, .inr (2, [.ref ak, .ref av, .ref ar, .int 0, .int 0, .int 0]))] H := hP
  have hD : va_D A [(ad, .inr (1, [.ref af, .ref d1, .ref d2, .ref d3, .ref d4, .int i5, .int i6, .int i7, .int i8, .int i9, .int i10, .int i11])), (af, .inr (2, [.ref ak, .ref av, .ref ar, .int 0, .int 0, .int 0]))] := hD
  obtain rfl : r_3 = (-5) := w_2
  refine lv_bipush (v := (-5)) hx hb dX1_stands_5 (by decide) ?_
  refine lv_icmp_ne (tgt := 14) hx hb dX1_stands_7 (by decide) (fun c_0 => absurd (by decide) c_0) (fun _ => ?_)
  refine lv_iconst (v := 1) hx hb dX1_stands_10 (by decide) ?_
  refine lv_goto (tgt := 15) hx hb dX1_stands_11 (by decide) ?_
  exact retI C0 rfl () rfl (hP.sub (ws' := [(ad, .inr (1, [.ref af, .ref d1, .ref d2, .ref d3, .ref d4, .int i5, .int i6, .int i7, .int i8, .int i9, .int i10, .int i11])), (af, .inr (2, [.ref ak, .ref av, .ref ar, .int 0, .int 0, .int 0]))]) [0, 1] rfl) (hD.sub (ws' := [(ad, .inr (1, [.ref af, .ref d1, .ref d2, .ref d3, .ref d4, .int i5, .int i6, .int i7, .int i8, .int i9, .int i10, .int i11])), (af, .inr (2, [.ref ak, .ref av, .ref ar, .int 0, .int 0, .int 0]))]) [0, 1] (by decide) rfl) hS (Nat.le_of_ble_eq_true rfl) (Nat.le_of_ble_eq_true rfl) dX1_stands_15

set_option maxHeartbeats 4000000 in
set_option maxRecDepth 100000 in
theorem c_addStanding (l : Launch) (D : va_G) (cI cZ cQ cT : ClassId) (sz : Nat) (ad : Nat) (af : Nat) (d1 : Nat) (d2 : Nat) (d3 : Nat) (d4 : Nat) (i5 : Int32) (i6 : Int32) (i8 : Int32) (i9 : Int32) (i10 : Int32) (i11 : Int32) (ak : Nat) (av : Nat) (ar : Nat)  : MetV l yX1_addStanding cX1_addStanding 3 ({ frames := 1, cells := 0, slots := 0, locals := 23 } : Room) [.ref ad, .int 0] D (TYS cI cZ cQ cT) EF sz [(ad, .inr (1, [.ref af, .ref d1, .ref d2, .ref d3, .ref d4, .int i5, .int i6, .int 0, .int i8, .int i9, .int i10, .int i11])), (af, .inr (2, [.ref ak, .ref av, .ref ar, .int 0, .int 0, .int 0]))] (S := Unit) (fun (_ : Unit) => True) (fun _ => [(ad, .inr (1, [.ref af, .ref d1, .ref d2, .ref d3, .ref d4, .int i5, .int i6, .int 1, .int 0, .int 0, .int 0, .int 0])), (af, .inr (2, [.ref ak, .ref av, .ref ar, .int 0, .int 0, .int 0]))]) := by
  refine MetV.mk (lv := [(0, .ref ad), (1, .int 0)]) (by decide +kernel) (Nat.le_of_ble_eq_true rfl) rfl ?_
  intro p e s m below meth c A ls C0 hP hD hS hX hl
  have C1 := C0
  obtain ⟨hx, hb, hr, hml, hown, hlocks, hname, hT, hN, hK, hA⟩ := C1
  refine lv_aload_n hx hb dX1_addStanding_0 rfl (lv_at hl 0 rfl) ?_
  refine lv_iload_n hx hb dX1_addStanding_1 rfl (lv_at hl 1 rfl) ?_
  refine contI (wc := [(ad, .inr (1, [.ref af, .ref d1, .ref d2, .ref d3, .ref d4, .int i5, .int i6, .int 0, .int i8, .int i9, .int i10, .int i11])), (af, .inr (2, [.ref ak, .ref av, .ref ar, .int 0, .int 0, .int 0]))]) (wr := []) C0 hP hD hS [0, 1] [] rfl rfl (by decide) (by decide) 0 0 (Nat.le_of_ble_eq_true rfl) (Nat.le_of_ble_eq_true rfl) (runV (k := 1) (As := [.int 0]) (rest := []) C0 (c_gainOfAll l D cI cZ cQ cT _ ad 0 af d1 d2 d3 d4 i5 i6 0 i8 i9 i10 i11 ak av ar) wc_X1_gainOfAll wl_X1_136 wi_X1_gainOfAll we_X1_gainOfAll wz_X1 ⟨by decide, by decide, by decide +kernel⟩ ⟨(Nat.le_of_ble_eq_true rfl), (Nat.le_of_ble_eq_true rfl)⟩ hP hD hS EF.ok hX [0, 1] rfl (by decide) 0 rfl rfl rfl rfl hl.1 rfl (Nat.le_of_ble_eq_true rfl) dX1_addStanding_2 ⟨(Nat.le_of_ble_eq_true rfl), (Nat.le_of_ble_eq_true rfl)⟩) (fun r_3 u_1 H locs w_2 hP hD hS => ?_)
  have hP : va_P D CL [(ad, .inr (1, [.ref af, .ref d1, .ref d2, .ref d3, .ref d4, .int i5, .int i6, .int 0, .int i8, .int i9, .int i10, .int i11])), (af, .inr (2, [.ref ak, .ref av, .ref ar, .int 0, .int 0, .int 0]))] H := hP
  have hD : va_D A [(ad, .inr (1, [.ref af, .ref d1, .ref d2, .ref d3, .ref d4, .int i5, .int i6, .int 0, .int i8, .int i9, .int i10, .int i11])), (af, .inr (2, [.ref ak, .ref av, .ref ar, .int 0, .int 0, .int 0]))] := hD
  obtain rfl : r_3 = 0 := w_2
  refine lv_istore_n (lv' := [(2, .int 0), (0, .ref ad), (1, .int 0)]) hx hb dX1_addStanding_5 rfl hl (by decide) rfl (fun ls hl => ?_)
  refine lv_aload_n hx hb dX1_addStanding_6 rfl (lv_at hl 1 rfl) ?_
  refine va_get (ci := 1) (v := .int 0) (C := RX1) (T := TX1) (N := 12) hx hb hT wu_X1 hown hK hP 0 rfl rfl 7 (by decide) (hT _ wf_X1_113) (fun _ h9 => h9) rfl dX1_addStanding_7 ?_
  refine lv_if_eq (tgt := 21) hx hb dX1_addStanding_10 (by decide) (fun _ => ?_) (fun c_0 => absurd (by decide) c_0)
  refine lv_aload_n hx hb dX1_addStanding_21 rfl (lv_at hl 1 rfl) ?_
  refine lv_iload_n hx hb dX1_addStanding_22 rfl (lv_at hl 2 rfl) ?_
  refine va_put (ci := 1) (v := .int 0) (ty := .int) (C := RX1) (T := TX1) (N := 12) hx hb hT wu_X1 tyX1 tyX1_ok nmX1 hown hK hP hD hS 0 rfl rfl 10 (by decide) (hT _ wf_X1_122) (fun _ h9 => h9) rfl (by decide +kernel) rfl rfl (Nat.le_of_ble_eq_true rfl) dX1_addStanding_23 (fun H locs hP hD hS => ?_)
  have hP : va_P D CL [(ad, .inr (1, [.ref af, .ref d1, .ref d2, .ref d3, .ref d4, .int i5, .int i6, .int 0, .int i8, .int i9, .int 0, .int i11])), (af, .inr (2, [.ref ak, .ref av, .ref ar, .int 0, .int 0, .int 0]))] H := hP
  have hD : va_D A [(ad, .inr (1, [.ref af, .ref d1, .ref d2, .ref d3, .ref d4, .int i5, .int i6, .int 0, .int i8, .int i9, .int 0, .int i11])), (af, .inr (2, [.ref ak, .ref av, .ref ar, .int 0, .int 0, .int 0]))] := hD
  refine lv_aload_n hx hb dX1_addStanding_26 rfl (lv_at hl 1 rfl) ?_
  refine lv_iload_n hx hb dX1_addStanding_27 rfl (lv_at hl 0 rfl) ?_
  refine va_put (ci := 1) (v := .int 0) (ty := .int) (C := RX1) (T := TX1) (N := 12) hx hb hT wu_X1 tyX1 tyX1_ok nmX1 hown hK hP hD hS 0 rfl rfl 11 (by decide) (hT _ wf_X1_139) (fun _ h9 => h9) rfl (by decide +kernel) rfl rfl (Nat.le_of_ble_eq_true rfl) dX1_addStanding_28 (fun H locs hP hD hS => ?_)
  have hP : va_P D CL [(ad, .inr (1, [.ref af, .ref d1, .ref d2, .ref d3, .ref d4, .int i5, .int i6, .int 0, .int i8, .int i9, .int 0, .int 0])), (af, .inr (2, [.ref ak, .ref av, .ref ar, .int 0, .int 0, .int 0]))] H := hP
  have hD : va_D A [(ad, .inr (1, [.ref af, .ref d1, .ref d2, .ref d3, .ref d4, .int i5, .int i6, .int 0, .int i8, .int i9, .int 0, .int 0])), (af, .inr (2, [.ref ak, .ref av, .ref ar, .int 0, .int 0, .int 0]))] := hD
  refine lv_aload_n hx hb dX1_addStanding_31 rfl (lv_at hl 1 rfl) ?_
  refine va_get (ci := 1) (v := .int 0) (C := RX1) (T := TX1) (N := 12) hx hb hT wu_X1 hown hK hP 0 rfl rfl 7 (by decide) (hT _ wf_X1_113) (fun _ h9 => h9) rfl dX1_addStanding_32 ?_
  refine lv_if_ne (tgt := 43) hx hb dX1_addStanding_35 (by decide) (fun c_0 => absurd (by decide) c_0) (fun _ => ?_)
  refine lv_aload_n hx hb dX1_addStanding_38 rfl (lv_at hl 1 rfl) ?_
  refine lv_iload_n hx hb dX1_addStanding_39 rfl (lv_at hl 2 rfl) ?_
  refine va_put (ci := 1) (v := .int 0) (ty := .int) (C := RX1) (T := TX1) (N := 12) hx hb hT wu_X1 tyX1 tyX1_ok nmX1 hown hK hP hD hS 0 rfl rfl 8 (by decide) (hT _ wf_X1_116) (fun _ h9 => h9) rfl (by decide +kernel) rfl rfl (Nat.le_of_ble_eq_true rfl) dX1_addStanding_40 (fun H locs hP hD hS => ?_)
  have hP : va_P D CL [(ad, .inr (1, [.ref af, .ref d1, .ref d2, .ref d3, .ref d4, .int i5, .int i6, .int 0, .int 0, .int i9, .int 0, .int 0])), (af, .inr (2, [.ref ak, .ref av, .ref ar, .int 0, .int 0, .int 0]))] H := hP
  have hD : va_D A [(ad, .inr (1, [.ref af, .ref d1, .ref d2, .ref d3, .ref d4, .int i5, .int i6, .int 0, .int 0, .int i9, .int 0, .int 0])), (af, .inr (2, [.ref ak, .ref av, .ref ar, .int 0, .int 0, .int 0]))] := hD
  refine lv_aload_n hx hb dX1_addStanding_43 rfl (lv_at hl 1 rfl) ?_
  refine lv_iload_n hx hb dX1_addStanding_44 rfl (lv_at hl 2 rfl) ?_
  refine va_put (ci := 1) (v := .int 0) (ty := .int) (C := RX1) (T := TX1) (N := 12) hx hb hT wu_X1 tyX1 tyX1_ok nmX1 hown hK hP hD hS 0 rfl rfl 9 (by decide) (hT _ wf_X1_119) (fun _ h9 => h9) rfl (by decide +kernel) rfl rfl (Nat.le_of_ble_eq_true rfl) dX1_addStanding_45 (fun H locs hP hD hS => ?_)
  have hP : va_P D CL [(ad, .inr (1, [.ref af, .ref d1, .ref d2, .ref d3, .ref d4, .int i5, .int i6, .int 0, .int 0, .int 0, .int 0, .int 0])), (af, .inr (2, [.ref ak, .ref av, .ref ar, .int 0, .int 0, .int 0]))] H := hP
  have hD : va_D A [(ad, .inr (1, [.ref af, .ref d1, .ref d2, .ref d3, .ref d4, .int i5, .int i6, .int 0, .int 0, .int 0, .int 0, .int 0])), (af, .inr (2, [.ref ak, .ref av, .ref ar, .int 0, .int 0, .int 0]))] := hD
  refine lv_aload_n hx hb dX1_addStanding_48 rfl (lv_at hl 1 rfl) ?_
  refine lv_dup hx hb dX1_addStanding_49 rfl ?_
  refine va_get (ci := 1) (v := .int 0) (C := RX1) (T := TX1) (N := 12) hx hb hT wu_X1 hown hK hP 0 rfl rfl 7 (by decide) (hT _ wf_X1_113) (fun _ h9 => h9) rfl dX1_addStanding_50 ?_
  refine lv_iconst (v := 1) hx hb dX1_addStanding_53 (by decide) ?_
  refine lv_iadd hx hb dX1_addStanding_54 ?_
  refine lv_ci 1 (by decide +kernel) ?_
  refine va_put (ci := 1) (v := .int 1) (ty := .int) (C := RX1) (T := TX1) (N := 12) hx hb hT wu_X1 tyX1 tyX1_ok nmX1 hown hK hP hD hS 0 rfl rfl 7 (by decide) (hT _ wf_X1_113) (fun _ h9 => h9) rfl (by decide +kernel) rfl rfl (Nat.le_of_ble_eq_true rfl) dX1_addStanding_55 (fun H locs hP hD hS => ?_)
  have hP : va_P D CL [(ad, .inr (1, [.ref af, .ref d1, .ref d2, .ref d3, .ref d4, .int i5, .int i6, .int 1, .int 0, .int 0, .int 0, .int 0])), (af, .inr (2, [.ref ak, .ref av, .ref ar, .int 0, .int 0, .int 0]))] H := hP
  have hD : va_D A [(ad, .inr (1, [.ref af, .ref d1, .ref d2, .ref d3, .ref d4, .int i5, .int i6, .int 1, .int 0, .int 0, .int 0, .int 0])), (af, .inr (2, [.ref ak, .ref av, .ref ar, .int 0, .int 0, .int 0]))] := hD
  exact retV C0 () trivial (hP.sub (ws' := [(ad, .inr (1, [.ref af, .ref d1, .ref d2, .ref d3, .ref d4, .int i5, .int i6, .int 1, .int 0, .int 0, .int 0, .int 0])), (af, .inr (2, [.ref ak, .ref av, .ref ar, .int 0, .int 0, .int 0]))]) [0, 1] rfl) (hD.sub (ws' := [(ad, .inr (1, [.ref af, .ref d1, .ref d2, .ref d3, .ref d4, .int i5, .int i6, .int 1, .int 0, .int 0, .int 0, .int 0])), (af, .inr (2, [.ref ak, .ref av, .ref ar, .int 0, .int 0, .int 0]))]) [0, 1] (by decide) rfl) hS (Nat.le_of_ble_eq_true rfl) (Nat.le_of_ble_eq_true rfl) dX1_addStanding_58

set_option maxHeartbeats 4000000 in
set_option maxRecDepth 100000 in
theorem c_search (l : Launch) (D : va_G) (cI cZ cQ cT : ClassId) (sz : Nat) (ad : Nat) (af : Nat) (d1 : Nat) (d2 : Nat) (d3 : Nat) (d4 : Nat) (i5 : Int32) (i7 : Int32) (i8 : Int32) (i9 : Int32) (i10 : Int32) (i11 : Int32) (ak : Nat) (av : Nat) (ar : Nat)  : MetV l yX1_search cX1_search 3 ({ frames := 2, cells := 0, slots := 0, locals := 45 } : Room) [.ref ad] D (TYS cI cZ cQ cT) EF sz [(ad, .inr (1, [.ref af, .ref d1, .ref d2, .ref d3, .ref d4, .int i5, .int 0, .int i7, .int i8, .int i9, .int i10, .int i11])), (af, .inr (2, [.ref ak, .ref av, .ref ar, .int 0, .int 0, .int 0]))] (S := Unit) (fun (_ : Unit) => True) (fun _ => [(ad, .inr (1, [.ref af, .ref d1, .ref d2, .ref d3, .ref d4, .int i5, .int 1, .int 1, .int 0, .int 0, .int 0, .int 0])), (af, .inr (2, [.ref ak, .ref av, .ref ar, .int 0, .int 0, .int 0]))]) := by
  refine MetV.mk (lv := [(0, .ref ad)]) (by decide +kernel) (Nat.le_of_ble_eq_true rfl) rfl ?_
  intro p e s m below meth c A ls C0 hP hD hS hX hl
  have C1 := C0
  obtain ⟨hx, hb, hr, hml, hown, hlocks, hname, hT, hN, hK, hA⟩ := C1
  refine lv_aload_n hx hb dX1_search_0 rfl (lv_at hl 0 rfl) ?_
  refine va_get (ci := 1) (v := .int 0) (C := RX1) (T := TX1) (N := 12) hx hb hT wu_X1 hown hK hP 0 rfl rfl 6 (by decide) (hT _ wf_X1_34) (fun _ h9 => h9) rfl dX1_search_1 ?_
  refine lv_if_eq (tgt := 8) hx hb dX1_search_4 (by decide) (fun _ => ?_) (fun c_0 => absurd (by decide) c_0)
  refine lv_aload_n hx hb dX1_search_8 rfl (lv_at hl 0 rfl) ?_
  refine lv_iconst (v := 0) hx hb dX1_search_9 (by decide) ?_
  refine va_put (ci := 1) (v := .int 0) (ty := .int) (C := RX1) (T := TX1) (N := 12) hx hb hT wu_X1 tyX1 tyX1_ok nmX1 hown hK hP hD hS 0 rfl rfl 7 (by decide) (hT _ wf_X1_113) (fun _ h9 => h9) rfl (by decide +kernel) rfl rfl (Nat.le_of_ble_eq_true rfl) dX1_search_10 (fun H locs hP hD hS => ?_)
  have hP : va_P D CL [(ad, .inr (1, [.ref af, .ref d1, .ref d2, .ref d3, .ref d4, .int i5, .int 0, .int 0, .int i8, .int i9, .int i10, .int i11])), (af, .inr (2, [.ref ak, .ref av, .ref ar, .int 0, .int 0, .int 0]))] H := hP
  have hD : va_D A [(ad, .inr (1, [.ref af, .ref d1, .ref d2, .ref d3, .ref d4, .int i5, .int 0, .int 0, .int i8, .int i9, .int i10, .int i11])), (af, .inr (2, [.ref ak, .ref av, .ref ar, .int 0, .int 0, .int 0]))] := hD
  refine lv_aload_n hx hb dX1_search_13 rfl (lv_at hl 0 rfl) ?_
  refine lv_bipush (v := (-5)) hx hb dX1_search_14 (by decide) ?_
  refine va_put (ci := 1) (v := .int (-5)) (ty := .int) (C := RX1) (T := TX1) (N := 12) hx hb hT wu_X1 tyX1 tyX1_ok nmX1 hown hK hP hD hS 0 rfl rfl 8 (by decide) (hT _ wf_X1_116) (fun _ h9 => h9) rfl (by decide +kernel) rfl rfl (Nat.le_of_ble_eq_true rfl) dX1_search_16 (fun H locs hP hD hS => ?_)
  have hP : va_P D CL [(ad, .inr (1, [.ref af, .ref d1, .ref d2, .ref d3, .ref d4, .int i5, .int 0, .int 0, .int (-5), .int i9, .int i10, .int i11])), (af, .inr (2, [.ref ak, .ref av, .ref ar, .int 0, .int 0, .int 0]))] H := hP
  have hD : va_D A [(ad, .inr (1, [.ref af, .ref d1, .ref d2, .ref d3, .ref d4, .int i5, .int 0, .int 0, .int (-5), .int i9, .int i10, .int i11])), (af, .inr (2, [.ref ak, .ref av, .ref ar, .int 0, .int 0, .int 0]))] := hD
  refine lv_aload_n hx hb dX1_search_19 rfl (lv_at hl 0 rfl) ?_
  refine lv_bipush (v := (-5)) hx hb dX1_search_20 (by decide) ?_
  refine va_put (ci := 1) (v := .int (-5)) (ty := .int) (C := RX1) (T := TX1) (N := 12) hx hb hT wu_X1 tyX1 tyX1_ok nmX1 hown hK hP hD hS 0 rfl rfl 9 (by decide) (hT _ wf_X1_119) (fun _ h9 => h9) rfl (by decide +kernel) rfl rfl (Nat.le_of_ble_eq_true rfl) dX1_search_22 (fun H locs hP hD hS => ?_)
  have hP : va_P D CL [(ad, .inr (1, [.ref af, .ref d1, .ref d2, .ref d3, .ref d4, .int i5, .int 0, .int 0, .int (-5), .int (-5), .int i10, .int i11])), (af, .inr (2, [.ref ak, .ref av, .ref ar, .int 0, .int 0, .int 0]))] H := hP
  have hD : va_D A [(ad, .inr (1, [.ref af, .ref d1, .ref d2, .ref d3, .ref d4, .int i5, .int 0, .int 0, .int (-5), .int (-5), .int i10, .int i11])), (af, .inr (2, [.ref ak, .ref av, .ref ar, .int 0, .int 0, .int 0]))] := hD
  refine lv_aload_n hx hb dX1_search_25 rfl (lv_at hl 0 rfl) ?_
  refine lv_bipush (v := (-5)) hx hb dX1_search_26 (by decide) ?_
  refine va_put (ci := 1) (v := .int (-5)) (ty := .int) (C := RX1) (T := TX1) (N := 12) hx hb hT wu_X1 tyX1 tyX1_ok nmX1 hown hK hP hD hS 0 rfl rfl 10 (by decide) (hT _ wf_X1_122) (fun _ h9 => h9) rfl (by decide +kernel) rfl rfl (Nat.le_of_ble_eq_true rfl) dX1_search_28 (fun H locs hP hD hS => ?_)
  have hP : va_P D CL [(ad, .inr (1, [.ref af, .ref d1, .ref d2, .ref d3, .ref d4, .int i5, .int 0, .int 0, .int (-5), .int (-5), .int (-5), .int i11])), (af, .inr (2, [.ref ak, .ref av, .ref ar, .int 0, .int 0, .int 0]))] H := hP
  have hD : va_D A [(ad, .inr (1, [.ref af, .ref d1, .ref d2, .ref d3, .ref d4, .int i5, .int 0, .int 0, .int (-5), .int (-5), .int (-5), .int i11])), (af, .inr (2, [.ref ak, .ref av, .ref ar, .int 0, .int 0, .int 0]))] := hD
  refine lv_aload_n hx hb dX1_search_31 rfl (lv_at hl 0 rfl) ?_
  refine va_get (ci := 1) (v := .ref af) (C := RX1) (T := TX1) (N := 12) hx hb hT wu_X1 hown hK hP 0 rfl rfl 0 (by decide) (hT _ wf_X1_26) (fun _ h9 => h9) rfl dX1_search_32 ?_
  refine contI (wc := [(af, .inr (2, [.ref ak, .ref av, .ref ar, .int 0, .int 0, .int 0]))]) (wr := [(ad, .inr (1, [.ref af, .ref d1, .ref d2, .ref d3, .ref d4, .int i5, .int 0, .int 0, .int (-5), .int (-5), .int (-5), .int i11]))]) C0 hP hD hS [1] [0] rfl rfl (by decide) (by decide) 0 0 (Nat.le_of_ble_eq_true rfl) (Nat.le_of_ble_eq_true rfl) (runVN (k := 0) (As := []) (rest := []) "DayKnown" 622 C0 (c_allDays l D cI cZ cQ cT _ af ak av ar 0 0) wc_X2_allDays kl_X1_125 wi_X2_allDays we_X2_allDays wz_X2 ⟨by decide, by decide, by decide +kernel⟩ ⟨(Nat.le_of_ble_eq_true rfl), (Nat.le_of_ble_eq_true rfl)⟩ hP hD hS EF.ok hX [1] rfl (by decide) 1 rfl rfl rfl rfl hl.1 rfl (Nat.le_of_ble_eq_true rfl) dX1_search_35 ⟨(Nat.le_of_ble_eq_true rfl), (Nat.le_of_ble_eq_true rfl)⟩) (fun r_3 u_1 H locs w_2 hP hD hS => ?_)
  have hP : va_P D CL [(ad, .inr (1, [.ref af, .ref d1, .ref d2, .ref d3, .ref d4, .int i5, .int 0, .int 0, .int (-5), .int (-5), .int (-5), .int i11])), (af, .inr (2, [.ref ak, .ref av, .ref ar, .int 0, .int 0, .int 0]))] H := hP
  have hD : va_D A [(ad, .inr (1, [.ref af, .ref d1, .ref d2, .ref d3, .ref d4, .int i5, .int 0, .int 0, .int (-5), .int (-5), .int (-5), .int i11])), (af, .inr (2, [.ref ak, .ref av, .ref ar, .int 0, .int 0, .int 0]))] := hD
  obtain rfl : r_3 = 1 := w_2
  refine lv_istore_n (lv' := [(1, .int 1), (0, .ref ad)]) hx hb dX1_search_38 rfl hl (by decide) rfl (fun ls hl => ?_)
  refine lv_iconst (v := 0) hx hb dX1_search_39 (by decide) ?_
  refine lv_istore_n (lv' := [(2, .int 0), (1, .int 1), (0, .ref ad)]) hx hb dX1_search_40 rfl hl (by decide) rfl (fun ls hl => ?_)
  refine lv_iload_n hx hb dX1_search_41 rfl (lv_at hl 0 rfl) ?_
  refine lv_iload_n hx hb dX1_search_42 rfl (lv_at hl 1 rfl) ?_
  refine lv_icmp_ge (tgt := 65) hx hb dX1_search_43 (by decide) (fun c_0 => absurd c_0 (by decide)) (fun _ => ?_)
  refine lv_aload_n hx hb dX1_search_46 rfl (lv_at hl 2 rfl) ?_
  refine lv_iload_n hx hb dX1_search_47 rfl (lv_at hl 0 rfl) ?_
  refine contI (wc := [(ad, .inr (1, [.ref af, .ref d1, .ref d2, .ref d3, .ref d4, .int i5, .int 0, .int 0, .int (-5), .int (-5), .int (-5), .int i11])), (af, .inr (2, [.ref ak, .ref av, .ref ar, .int 0, .int 0, .int 0]))]) (wr := []) C0 hP hD hS [0, 1] [] rfl rfl (by decide) (by decide) 0 0 (Nat.le_of_ble_eq_true rfl) (Nat.le_of_ble_eq_true rfl) (runV (k := 1) (As := [.int 0]) (rest := []) C0 (c_stands l D cI cZ cQ cT _ ad 0 af d1 d2 d3 d4 i5 0 0 (-5) (-5) (-5) i11 ak av ar) wc_X1_stands wl_X1_129 wi_X1_stands we_X1_stands wz_X1 ⟨by decide, by decide, by decide +kernel⟩ ⟨(Nat.le_of_ble_eq_true rfl), (Nat.le_of_ble_eq_true rfl)⟩ hP hD hS EF.ok hX [0, 1] rfl (by decide) 0 rfl rfl rfl rfl hl.1 rfl (Nat.le_of_ble_eq_true rfl) dX1_search_48 ⟨(Nat.le_of_ble_eq_true rfl), (Nat.le_of_ble_eq_true rfl)⟩) (fun r_6 u_4 H locs w_5 hP hD hS => ?_)
  have hP : va_P D CL [(ad, .inr (1, [.ref af, .ref d1, .ref d2, .ref d3, .ref d4, .int i5, .int 0, .int 0, .int (-5), .int (-5), .int (-5), .int i11])), (af, .inr (2, [.ref ak, .ref av, .ref ar, .int 0, .int 0, .int 0]))] H := hP
  have hD : va_D A [(ad, .inr (1, [.ref af, .ref d1, .ref d2, .ref d3, .ref d4, .int i5, .int 0, .int 0, .int (-5), .int (-5), .int (-5), .int i11])), (af, .inr (2, [.ref ak, .ref av, .ref ar, .int 0, .int 0, .int 0]))] := hD
  obtain rfl : r_6 = 1 := w_5
  refine lv_if_eq (tgt := 59) hx hb dX1_search_51 (by decide) (fun c_0 => absurd c_0 (by decide)) (fun _ => ?_)
  refine lv_aload_n hx hb dX1_search_54 rfl (lv_at hl 2 rfl) ?_
  refine lv_iload_n hx hb dX1_search_55 rfl (lv_at hl 0 rfl) ?_
  refine contV (wc := [(ad, .inr (1, [.ref af, .ref d1, .ref d2, .ref d3, .ref d4, .int i5, .int 0, .int 0, .int (-5), .int (-5), .int (-5), .int i11])), (af, .inr (2, [.ref ak, .ref av, .ref ar, .int 0, .int 0, .int 0]))]) (wr := []) C0 hP hD hS [0, 1] [] rfl rfl (by decide) (by decide) 0 0 (Nat.le_of_ble_eq_true rfl) (Nat.le_of_ble_eq_true rfl) (runV (k := 1) (As := [.int 0]) (rest := []) C0 (c_addStanding l D cI cZ cQ cT _ ad af d1 d2 d3 d4 i5 0 (-5) (-5) (-5) i11 ak av ar) wc_X1_addStanding wl_X1_132 wi_X1_addStanding we_X1_addStanding wz_X1 ⟨by decide, by decide, by decide +kernel⟩ ⟨(Nat.le_of_ble_eq_true rfl), (Nat.le_of_ble_eq_true rfl)⟩ hP hD hS EF.ok hX [0, 1] rfl (by decide) 0 rfl rfl rfl rfl hl.1 rfl (Nat.le_of_ble_eq_true rfl) dX1_search_56 ⟨(Nat.le_of_ble_eq_true rfl), (Nat.le_of_ble_eq_true rfl)⟩) (fun u_7 H locs w_8 hP hD hS => ?_)
  have hP : va_P D CL [(ad, .inr (1, [.ref af, .ref d1, .ref d2, .ref d3, .ref d4, .int i5, .int 0, .int 1, .int 0, .int 0, .int 0, .int 0])), (af, .inr (2, [.ref ak, .ref av, .ref ar, .int 0, .int 0, .int 0]))] H := hP
  have hD : va_D A [(ad, .inr (1, [.ref af, .ref d1, .ref d2, .ref d3, .ref d4, .int i5, .int 0, .int 1, .int 0, .int 0, .int 0, .int 0])), (af, .inr (2, [.ref ak, .ref av, .ref ar, .int 0, .int 0, .int 0]))] := hD
  refine lv_iinc (v := 1) (lv' := [(2, .int 1), (1, .int 1), (0, .ref ad)]) hx hb dX1_search_59 hl (k := 0) rfl (by decide) (by decide) rfl (fun ls hl => ?_)
  refine lv_goto (tgt := 41) hx hb dX1_search_62 (by decide) ?_
  refine lv_iload_n hx hb dX1_search_41 rfl (lv_at hl 0 rfl) ?_
  refine lv_iload_n hx hb dX1_search_42 rfl (lv_at hl 1 rfl) ?_
  refine lv_icmp_ge (tgt := 65) hx hb dX1_search_43 (by decide) (fun _ => ?_) (fun c_0 => absurd (by decide) c_0)
  refine lv_aload_n hx hb dX1_search_65 rfl (lv_at hl 2 rfl) ?_
  refine lv_iconst (v := 1) hx hb dX1_search_66 (by decide) ?_
  refine va_put (ci := 1) (v := .int 1) (ty := .boolean) (C := RX1) (T := TX1) (N := 12) hx hb hT wu_X1 tyX1 tyX1_ok nmX1 hown hK hP hD hS 0 rfl rfl 6 (by decide) (hT _ wf_X1_34) (fun _ h9 => h9) rfl (by decide +kernel) rfl rfl (Nat.le_of_ble_eq_true rfl) dX1_search_67 (fun H locs hP hD hS => ?_)
  have hP : va_P D CL [(ad, .inr (1, [.ref af, .ref d1, .ref d2, .ref d3, .ref d4, .int i5, .int 1, .int 1, .int 0, .int 0, .int 0, .int 0])), (af, .inr (2, [.ref ak, .ref av, .ref ar, .int 0, .int 0, .int 0]))] H := hP
  have hD : va_D A [(ad, .inr (1, [.ref af, .ref d1, .ref d2, .ref d3, .ref d4, .int i5, .int 1, .int 1, .int 0, .int 0, .int 0, .int 0])), (af, .inr (2, [.ref ak, .ref av, .ref ar, .int 0, .int 0, .int 0]))] := hD
  exact retV C0 () trivial (hP.sub (ws' := [(ad, .inr (1, [.ref af, .ref d1, .ref d2, .ref d3, .ref d4, .int i5, .int 1, .int 1, .int 0, .int 0, .int 0, .int 0])), (af, .inr (2, [.ref ak, .ref av, .ref ar, .int 0, .int 0, .int 0]))]) [0, 1] rfl) (hD.sub (ws' := [(ad, .inr (1, [.ref af, .ref d1, .ref d2, .ref d3, .ref d4, .int i5, .int 1, .int 1, .int 0, .int 0, .int 0, .int 0])), (af, .inr (2, [.ref ak, .ref av, .ref ar, .int 0, .int 0, .int 0]))]) [0, 1] (by decide) rfl) hS (Nat.le_of_ble_eq_true rfl) (Nat.le_of_ble_eq_true rfl) dX1_search_70

set_option maxHeartbeats 4000000 in
set_option maxRecDepth 100000 in
theorem c_searchNow (l : Launch) (D : va_G) (cI cZ cQ cT : ClassId) (sz : Nat) (ax : Nat) (ah : Nat) (bh : Nat) (an : Nat) (aw : Nat) (ad : Nat) (ae : Nat) (ap : Nat) (aa : Nat) (af : Nat) (atp : Nat) (ab : Nat) (d1 : Nat) (d2 : Nat) (d3 : Nat) (d4 : Nat) (ak : Nat) (av : Nat) (ar : Nat)  : MetV l yX5_searchNow cX5_searchNow 1 ({ frames := 3, cells := 0, slots := 0, locals := 67 } : Room) [.ref ax] D (TYS cI cZ cQ cT) EF sz [(ax, .inr (5, [.ref ah, .ref bh, .int 0, .ref an, .ref aw, .ref ad, .ref ae, .ref ap, .ref aa])), (ah, .inr (3, [.ref af, .ref atp, .ref ab, .int 0, .int 0, .int 0])), (ad, .inr (1, [.ref af, .ref d1, .ref d2, .ref d3, .ref d4, .int 0, .int 0, .int 0, .int 0, .int 0, .int 0, .int 0])), (af, .inr (2, [.ref ak, .ref av, .ref ar, .int 0, .int 0, .int 0]))] (S := Unit) (fun (_ : Unit) => True) (fun _ => [(ax, .inr (5, [.ref ah, .ref bh, .int 0, .ref an, .ref aw, .ref ad, .ref ae, .ref ap, .ref aa])), (ah, .inr (3, [.ref af, .ref atp, .ref ab, .int 0, .int 0, .int 0])), (ad, .inr (1, [.ref af, .ref d1, .ref d2, .ref d3, .ref d4, .int 1, .int 1, .int 1, .int 0, .int 0, .int 0, .int 0])), (af, .inr (2, [.ref ak, .ref av, .ref ar, .int 0, .int 0, .int 0]))]) := by
  refine MetV.mk (lv := [(0, .ref ax)]) (by decide +kernel) (Nat.le_of_ble_eq_true rfl) rfl ?_
  intro p e s m below meth c A ls C0 hP hD hS hX hl
  have C1 := C0
  obtain ⟨hx, hb, hr, hml, hown, hlocks, hname, hT, hN, hK, hA⟩ := C1
  refine lv_aload_n hx hb dX5_searchNow_0 rfl (lv_at hl 0 rfl) ?_
  refine va_get (ci := 5) (v := .ref ad) (C := RX5) (T := TX5) (N := 9) hx hb hT wu_X5 hown hK hP 0 rfl rfl 5 (by decide) (hT _ wf_X5_39) (fun _ h9 => h9) rfl dX5_searchNow_1 ?_
  refine lv_aload_n hx hb dX5_searchNow_4 rfl (lv_at hl 0 rfl) ?_
  refine contR (wc := [(ax, .inr (5, [.ref ah, .ref bh, .int 0, .ref an, .ref aw, .ref ad, .ref ae, .ref ap, .ref aa])), (ah, .inr (3, [.ref af, .ref atp, .ref ab, .int 0, .int 0, .int 0]))]) (wr := [(ad, .inr (1, [.ref af, .ref d1, .ref d2, .ref d3, .ref d4, .int 0, .int 0, .int 0, .int 0, .int 0, .int 0, .int 0])), (af, .inr (2, [.ref ak, .ref av, .ref ar, .int 0, .int 0, .int 0]))]) C0 hP hD hS [0, 1] [2, 3] rfl rfl (by decide) (by decide) 0 0 (Nat.le_of_ble_eq_true rfl) (Nat.le_of_ble_eq_true rfl) (runV (k := 0) (As := []) (rest := [.ref ad]) C0 (c_newestTown l D cI cZ cQ cT _ ax ah bh an aw ad ae ap aa af atp ab) wc_X5_newestTown wl_X5_76 wi_X5_newestTown we_X5_newestTown wz_X5 ⟨by decide, by decide, by decide +kernel⟩ ⟨(Nat.le_of_ble_eq_true rfl), (Nat.le_of_ble_eq_true rfl)⟩ hP hD hS EF.ok hX [0, 1] rfl (by decide) 0 rfl rfl rfl rfl hl.1 rfl (Nat.le_of_ble_eq_true rfl) dX5_searchNow_5 ⟨(Nat.le_of_ble_eq_true rfl), (Nat.le_of_ble_eq_true rfl)⟩) (fun u_1 H locs w_2 hP hD hS => ?_)
  have hP : va_P D CL [(ad, .inr (1, [.ref af, .ref d1, .ref d2, .ref d3, .ref d4, .int 0, .int 0, .int 0, .int 0, .int 0, .int 0, .int 0])), (af, .inr (2, [.ref ak, .ref av, .ref ar, .int 0, .int 0, .int 0])), (ax, .inr (5, [.ref ah, .ref bh, .int 0, .ref an, .ref aw, .ref ad, .ref ae, .ref ap, .ref aa])), (ah, .inr (3, [.ref af, .ref atp, .ref ab, .int 0, .int 0, .int 0]))] H := hP
  have hD : va_D A [(ad, .inr (1, [.ref af, .ref d1, .ref d2, .ref d3, .ref d4, .int 0, .int 0, .int 0, .int 0, .int 0, .int 0, .int 0])), (af, .inr (2, [.ref ak, .ref av, .ref ar, .int 0, .int 0, .int 0])), (ax, .inr (5, [.ref ah, .ref bh, .int 0, .ref an, .ref aw, .ref ad, .ref ae, .ref ap, .ref aa])), (ah, .inr (3, [.ref af, .ref atp, .ref ab, .int 0, .int 0, .int 0]))] := hD
  refine contV (wc := [(ad, .inr (1, [.ref af, .ref d1, .ref d2, .ref d3, .ref d4, .int 0, .int 0, .int 0, .int 0, .int 0, .int 0, .int 0])), (af, .inr (2, [.ref ak, .ref av, .ref ar, .int 0, .int 0, .int 0]))]) (wr := [(ax, .inr (5, [.ref ah, .ref bh, .int 0, .ref an, .ref aw, .ref ad, .ref ae, .ref ap, .ref aa])), (ah, .inr (3, [.ref af, .ref atp, .ref ab, .int 0, .int 0, .int 0]))]) C0 hP hD hS [0, 1] [2, 3] rfl rfl (by decide) (by decide) 0 0 (Nat.le_of_ble_eq_true rfl) (Nat.le_of_ble_eq_true rfl) (runVN (k := 1) (As := [.ref an]) (rest := []) "DayKnown" 529 C0 (c_prepare l D cI cZ cQ cT _ ad an af d1 d2 d3 d4 0 0 0 0 0 0 ak av ar) wc_X1_prepare kl_X5_123 wi_X1_prepare we_X1_prepare wz_X1 ⟨by decide, by decide, by decide +kernel⟩ ⟨(Nat.le_of_ble_eq_true rfl), (Nat.le_of_ble_eq_true rfl)⟩ hP hD hS EF.ok hX [0, 1] rfl (by decide) 0 rfl rfl rfl rfl hl.1 rfl (Nat.le_of_ble_eq_true rfl) dX5_searchNow_8 ⟨(Nat.le_of_ble_eq_true rfl), (Nat.le_of_ble_eq_true rfl)⟩) (fun u_4 H locs w_5 hP hD hS => ?_)
  have hP : va_P D CL [(ax, .inr (5, [.ref ah, .ref bh, .int 0, .ref an, .ref aw, .ref ad, .ref ae, .ref ap, .ref aa])), (ah, .inr (3, [.ref af, .ref atp, .ref ab, .int 0, .int 0, .int 0])), (ad, .inr (1, [.ref af, .ref d1, .ref d2, .ref d3, .ref d4, .int 1, .int 0, .int 0, .int 0, .int 0, .int 0, .int 0])), (af, .inr (2, [.ref ak, .ref av, .ref ar, .int 0, .int 0, .int 0]))] H := hP
  have hD : va_D A [(ax, .inr (5, [.ref ah, .ref bh, .int 0, .ref an, .ref aw, .ref ad, .ref ae, .ref ap, .ref aa])), (ah, .inr (3, [.ref af, .ref atp, .ref ab, .int 0, .int 0, .int 0])), (ad, .inr (1, [.ref af, .ref d1, .ref d2, .ref d3, .ref d4, .int 1, .int 0, .int 0, .int 0, .int 0, .int 0, .int 0])), (af, .inr (2, [.ref ak, .ref av, .ref ar, .int 0, .int 0, .int 0]))] := hD
  refine lv_aload_n hx hb dX5_searchNow_11 rfl (lv_at hl 0 rfl) ?_
  refine va_get (ci := 5) (v := .ref ad) (C := RX5) (T := TX5) (N := 9) hx hb hT wu_X5 hown hK hP 0 rfl rfl 5 (by decide) (hT _ wf_X5_39) (fun _ h9 => h9) rfl dX5_searchNow_12 ?_
  refine contV (wc := [(ad, .inr (1, [.ref af, .ref d1, .ref d2, .ref d3, .ref d4, .int 1, .int 0, .int 0, .int 0, .int 0, .int 0, .int 0])), (af, .inr (2, [.ref ak, .ref av, .ref ar, .int 0, .int 0, .int 0]))]) (wr := [(ax, .inr (5, [.ref ah, .ref bh, .int 0, .ref an, .ref aw, .ref ad, .ref ae, .ref ap, .ref aa])), (ah, .inr (3, [.ref af, .ref atp, .ref ab, .int 0, .int 0, .int 0]))]) C0 hP hD hS [2, 3] [0, 1] rfl rfl (by decide) (by decide) 0 0 (Nat.le_of_ble_eq_true rfl) (Nat.le_of_ble_eq_true rfl) (runVN (k := 0) (As := []) (rest := []) "DayKnown" 618 C0 (c_search l D cI cZ cQ cT _ ad af d1 d2 d3 d4 1 0 0 0 0 0 ak av ar) wc_X1_search kl_X5_259 wi_X1_search we_X1_search wz_X1 ⟨by decide, by decide, by decide +kernel⟩ ⟨(Nat.le_of_ble_eq_true rfl), (Nat.le_of_ble_eq_true rfl)⟩ hP hD hS EF.ok hX [2, 3] rfl (by decide) 2 rfl rfl rfl rfl hl.1 rfl (Nat.le_of_ble_eq_true rfl) dX5_searchNow_15 ⟨(Nat.le_of_ble_eq_true rfl), (Nat.le_of_ble_eq_true rfl)⟩) (fun u_7 H locs w_8 hP hD hS => ?_)
  have hP : va_P D CL [(ax, .inr (5, [.ref ah, .ref bh, .int 0, .ref an, .ref aw, .ref ad, .ref ae, .ref ap, .ref aa])), (ah, .inr (3, [.ref af, .ref atp, .ref ab, .int 0, .int 0, .int 0])), (ad, .inr (1, [.ref af, .ref d1, .ref d2, .ref d3, .ref d4, .int 1, .int 1, .int 1, .int 0, .int 0, .int 0, .int 0])), (af, .inr (2, [.ref ak, .ref av, .ref ar, .int 0, .int 0, .int 0]))] H := hP
  have hD : va_D A [(ax, .inr (5, [.ref ah, .ref bh, .int 0, .ref an, .ref aw, .ref ad, .ref ae, .ref ap, .ref aa])), (ah, .inr (3, [.ref af, .ref atp, .ref ab, .int 0, .int 0, .int 0])), (ad, .inr (1, [.ref af, .ref d1, .ref d2, .ref d3, .ref d4, .int 1, .int 1, .int 1, .int 0, .int 0, .int 0, .int 0])), (af, .inr (2, [.ref ak, .ref av, .ref ar, .int 0, .int 0, .int 0]))] := hD
  exact retV C0 () trivial (hP.sub (ws' := [(ax, .inr (5, [.ref ah, .ref bh, .int 0, .ref an, .ref aw, .ref ad, .ref ae, .ref ap, .ref aa])), (ah, .inr (3, [.ref af, .ref atp, .ref ab, .int 0, .int 0, .int 0])), (ad, .inr (1, [.ref af, .ref d1, .ref d2, .ref d3, .ref d4, .int 1, .int 1, .int 1, .int 0, .int 0, .int 0, .int 0])), (af, .inr (2, [.ref ak, .ref av, .ref ar, .int 0, .int 0, .int 0]))]) [0, 1, 2, 3] rfl) (hD.sub (ws' := [(ax, .inr (5, [.ref ah, .ref bh, .int 0, .ref an, .ref aw, .ref ad, .ref ae, .ref ap, .ref aa])), (ah, .inr (3, [.ref af, .ref atp, .ref ab, .int 0, .int 0, .int 0])), (ad, .inr (1, [.ref af, .ref d1, .ref d2, .ref d3, .ref d4, .int 1, .int 1, .int 1, .int 0, .int 0, .int 0, .int 0])), (af, .inr (2, [.ref ak, .ref av, .ref ar, .int 0, .int 0, .int 0]))]) [0, 1, 2, 3] (by decide) rfl) hS (Nat.le_of_ble_eq_true rfl) (Nat.le_of_ble_eq_true rfl) dX5_searchNow_18

set_option maxHeartbeats 4000000 in
set_option maxRecDepth 100000 in
theorem x_all (l : Launch) (D : va_G) (cI cZ cQ cT : ClassId) (sz : Nat) (ax : Nat) (p1 : Int32) (ah : Nat) (bh : Nat) (an : Nat) (aw : Nat) (ad : Nat) (ae : Nat) (ap : Nat) (aa : Nat) (af : Nat) (atp : Nat) (ab : Nat) (ak : Nat) (av : Nat) (ar : Nat) (d1 : Nat) (d2 : Nat) (d3 : Nat) (d4 : Nat)  : MetI l yX5_all cX5_all 2 .int ({ frames := 4, cells := 0, slots := 0, locals := 87 } : Room) [.ref ax, .int p1] D (TYS cI cZ cQ cT) EF sz [(ax, .inr (5, [.ref ah, .ref bh, .int 0, .ref an, .ref aw, .ref ad, .ref ae, .ref ap, .ref aa])), (ah, .inr (3, [.ref af, .ref atp, .ref ab, .int 0, .int 0, .int 0])), (af, .inr (2, [.ref ak, .ref av, .ref ar, .int 0, .int 0, .int 0])), (ad, .inr (1, [.ref af, .ref d1, .ref d2, .ref d3, .ref d4, .int 0, .int 0, .int 0, .int 0, .int 0, .int 0, .int 0]))] (S := Unit) (fun (r : Int32) (_ : Unit) => r = (if p1 < (0 : Int32) then (-10001) else (if p1 ≤ (4 : Int32) then (if p1 = (0 : Int32) then 1 else (if p1 = (1 : Int32) then 0 else (if p1 = (2 : Int32) then 0 else (if p1 = (3 : Int32) then 0 else 0)))) else (-10001)))) (fun _ => []) := by
  refine MetI.mk (lv := [(0, .ref ax), (1, .int p1)]) (by decide +kernel) (Nat.le_of_ble_eq_true rfl) rfl ?_
  intro p e s m below meth c A ls C0 hP hD hS hX hl
  have C1 := C0
  obtain ⟨hx, hb, hr, hml, hown, hlocks, hname, hT, hN, hK, hA⟩ := C1
  refine lv_iload_n hx hb dX5_all_0 rfl (lv_at hl 1 rfl) ?_
  refine lv_if_lt (tgt := 9) hx hb dX5_all_1 (by decide) (fun c_1 => ?_) (fun c_1 => ?_)
  · refine lv_sipush (v := (-10001)) hx hb dX5_all_9 (by decide) ?_
    exact retI C0 rfl () (((if_pos c_1)).symm) (hP.sub (ws' := []) [] rfl) (hD.sub (ws' := []) [] (by decide) rfl) hS (Nat.le_of_ble_eq_true rfl) (Nat.le_of_ble_eq_true rfl) dX5_all_12
  · refine lv_iload_n hx hb dX5_all_4 rfl (lv_at hl 1 rfl) ?_
    refine lv_iconst (v := 4) hx hb dX5_all_5 (by decide) ?_
    refine lv_icmp_le (tgt := 13) hx hb dX5_all_6 (by decide) (fun c_2 => ?_) (fun c_2 => ?_)
    · refine lv_aload_n hx hb dX5_all_13 rfl (lv_at hl 0 rfl) ?_
      refine contV (wc := [(ax, .inr (5, [.ref ah, .ref bh, .int 0, .ref an, .ref aw, .ref ad, .ref ae, .ref ap, .ref aa])), (ah, .inr (3, [.ref af, .ref atp, .ref ab, .int 0, .int 0, .int 0])), (ad, .inr (1, [.ref af, .ref d1, .ref d2, .ref d3, .ref d4, .int 0, .int 0, .int 0, .int 0, .int 0, .int 0, .int 0])), (af, .inr (2, [.ref ak, .ref av, .ref ar, .int 0, .int 0, .int 0]))]) (wr := []) C0 hP hD hS [0, 1, 3, 2] [] rfl rfl (by decide) (by decide) 0 0 (Nat.le_of_ble_eq_true rfl) (Nat.le_of_ble_eq_true rfl) (runV (k := 0) (As := []) (rest := []) C0 (c_searchNow l D cI cZ cQ cT _ ax ah bh an aw ad ae ap aa af atp ab d1 d2 d3 d4 ak av ar) wc_X5_searchNow wl_X5_152 wi_X5_searchNow we_X5_searchNow wz_X5 ⟨by decide, by decide, by decide +kernel⟩ ⟨(Nat.le_of_ble_eq_true rfl), (Nat.le_of_ble_eq_true rfl)⟩ hP hD hS EF.ok hX [0, 1, 3, 2] rfl (by decide) 0 rfl rfl rfl rfl hl.1 rfl (Nat.le_of_ble_eq_true rfl) dX5_all_14 ⟨(Nat.le_of_ble_eq_true rfl), (Nat.le_of_ble_eq_true rfl)⟩) (fun u_3 H locs w_4 hP hD hS => ?_)
      have hP : va_P D CL [(ax, .inr (5, [.ref ah, .ref bh, .int 0, .ref an, .ref aw, .ref ad, .ref ae, .ref ap, .ref aa])), (ah, .inr (3, [.ref af, .ref atp, .ref ab, .int 0, .int 0, .int 0])), (ad, .inr (1, [.ref af, .ref d1, .ref d2, .ref d3, .ref d4, .int 1, .int 1, .int 1, .int 0, .int 0, .int 0, .int 0])), (af, .inr (2, [.ref ak, .ref av, .ref ar, .int 0, .int 0, .int 0]))] H := hP
      have hD : va_D A [(ax, .inr (5, [.ref ah, .ref bh, .int 0, .ref an, .ref aw, .ref ad, .ref ae, .ref ap, .ref aa])), (ah, .inr (3, [.ref af, .ref atp, .ref ab, .int 0, .int 0, .int 0])), (ad, .inr (1, [.ref af, .ref d1, .ref d2, .ref d3, .ref d4, .int 1, .int 1, .int 1, .int 0, .int 0, .int 0, .int 0])), (af, .inr (2, [.ref ak, .ref av, .ref ar, .int 0, .int 0, .int 0]))] := hD
      refine lv_iload_n hx hb dX5_all_17 rfl (lv_at hl 1 rfl) ?_
      refine (Decidable.em (p1 = (0 : Int32))).elim (fun c_6 => ?_) (fun c_6 => ?_)
      · refine lv_tableIn (off := 30) (tgt := 48) hx hb dX5_all_18 (by rw [c_6]; decide) (by rw [c_6]; decide) (by rw [c_6]; rfl) (by decide) ?_
        refine lv_aload_n hx hb dX5_all_48 rfl (lv_at hl 0 rfl) ?_
        refine va_get (ci := 5) (v := .ref ad) (C := RX5) (T := TX5) (N := 9) hx hb hT wu_X5 hown hK hP 0 rfl rfl 5 (by decide) (hT _ wf_X5_39) (fun _ h9 => h9) rfl dX5_all_49 ?_
        refine va_getN (ci := 1) (v := .int 1) (C := RX1) (T := TX1) (N := 12) hx hb hT wu_X1 hown hK hP 2 rfl rfl 7 (by decide) (va_Nw.use rfl (hN.get 243 kf_X5_155 rfl)) (fun _ h9 => h9) rfl dX5_all_52 ?_
        exact retI C0 rfl () (((if_neg c_1).trans ((if_pos c_2).trans ((if_pos c_6)))).symm) (hP.sub (ws' := []) [] rfl) (hD.sub (ws' := []) [] (by decide) rfl) hS (Nat.le_of_ble_eq_true rfl) (Nat.le_of_ble_eq_true rfl) dX5_all_55
      · skip
        refine (Decidable.em (p1 = (1 : Int32))).elim (fun c_7 => ?_) (fun c_7 => ?_)
        · refine lv_tableIn (off := 38) (tgt := 56) hx hb dX5_all_18 (by rw [c_7]; decide) (by rw [c_7]; decide) (by rw [c_7]; rfl) (by decide) ?_
          refine lv_aload_n hx hb dX5_all_56 rfl (lv_at hl 0 rfl) ?_
          refine va_get (ci := 5) (v := .ref ad) (C := RX5) (T := TX5) (N := 9) hx hb hT wu_X5 hown hK hP 0 rfl rfl 5 (by decide) (hT _ wf_X5_39) (fun _ h9 => h9) rfl dX5_all_57 ?_
          refine va_getN (ci := 1) (v := .int 0) (C := RX1) (T := TX1) (N := 12) hx hb hT wu_X1 hown hK hP 2 rfl rfl 8 (by decide) (va_Nw.use rfl (hN.get 245 kf_X5_158 rfl)) (fun _ h9 => h9) rfl dX5_all_60 ?_
          exact retI C0 rfl () (((if_neg c_1).trans ((if_pos c_2).trans ((if_neg c_6).trans ((if_pos c_7))))).symm) (hP.sub (ws' := []) [] rfl) (hD.sub (ws' := []) [] (by decide) rfl) hS (Nat.le_of_ble_eq_true rfl) (Nat.le_of_ble_eq_true rfl) dX5_all_63
        · skip
          refine (Decidable.em (p1 = (2 : Int32))).elim (fun c_8 => ?_) (fun c_8 => ?_)
          · refine lv_tableIn (off := 46) (tgt := 64) hx hb dX5_all_18 (by rw [c_8]; decide) (by rw [c_8]; decide) (by rw [c_8]; rfl) (by decide) ?_
            refine lv_aload_n hx hb dX5_all_64 rfl (lv_at hl 0 rfl) ?_
            refine va_get (ci := 5) (v := .ref ad) (C := RX5) (T := TX5) (N := 9) hx hb hT wu_X5 hown hK hP 0 rfl rfl 5 (by decide) (hT _ wf_X5_39) (fun _ h9 => h9) rfl dX5_all_65 ?_
            refine va_getN (ci := 1) (v := .int 0) (C := RX1) (T := TX1) (N := 12) hx hb hT wu_X1 hown hK hP 2 rfl rfl 9 (by decide) (va_Nw.use rfl (hN.get 247 kf_X5_161 rfl)) (fun _ h9 => h9) rfl dX5_all_68 ?_
            exact retI C0 rfl () (((if_neg c_1).trans ((if_pos c_2).trans ((if_neg c_6).trans ((if_neg c_7).trans ((if_pos c_8)))))).symm) (hP.sub (ws' := []) [] rfl) (hD.sub (ws' := []) [] (by decide) rfl) hS (Nat.le_of_ble_eq_true rfl) (Nat.le_of_ble_eq_true rfl) dX5_all_71
          · skip
            refine (Decidable.em (p1 = (3 : Int32))).elim (fun c_9 => ?_) (fun c_9 => ?_)
            · refine lv_tableIn (off := 54) (tgt := 72) hx hb dX5_all_18 (by rw [c_9]; decide) (by rw [c_9]; decide) (by rw [c_9]; rfl) (by decide) ?_
              refine lv_aload_n hx hb dX5_all_72 rfl (lv_at hl 0 rfl) ?_
              refine va_get (ci := 5) (v := .ref ad) (C := RX5) (T := TX5) (N := 9) hx hb hT wu_X5 hown hK hP 0 rfl rfl 5 (by decide) (hT _ wf_X5_39) (fun _ h9 => h9) rfl dX5_all_73 ?_
              refine va_getN (ci := 1) (v := .int 0) (C := RX1) (T := TX1) (N := 12) hx hb hT wu_X1 hown hK hP 2 rfl rfl 10 (by decide) (va_Nw.use rfl (hN.get 249 kf_X5_164 rfl)) (fun _ h9 => h9) rfl dX5_all_76 ?_
              exact retI C0 rfl () (((if_neg c_1).trans ((if_pos c_2).trans ((if_neg c_6).trans ((if_neg c_7).trans ((if_neg c_8).trans ((if_pos c_9))))))).symm) (hP.sub (ws' := []) [] rfl) (hD.sub (ws' := []) [] (by decide) rfl) hS (Nat.le_of_ble_eq_true rfl) (Nat.le_of_ble_eq_true rfl) dX5_all_79
            · skip
              refine lv_tableOut (tgt := 80) hx hb dX5_all_18 (by have e0 := ne_toInt (k := 0) c_6 (by decide); have e1 := ne_toInt (k := 1) c_7 (by decide); have e2 := ne_toInt (k := 2) c_8 (by decide); have e3 := ne_toInt (k := 3) c_9 (by decide); omega) (by decide) ?_
              refine lv_aload_n hx hb dX5_all_80 rfl (lv_at hl 0 rfl) ?_
              refine va_get (ci := 5) (v := .ref ad) (C := RX5) (T := TX5) (N := 9) hx hb hT wu_X5 hown hK hP 0 rfl rfl 5 (by decide) (hT _ wf_X5_39) (fun _ h9 => h9) rfl dX5_all_81 ?_
              refine va_getN (ci := 1) (v := .int 1) (C := RX1) (T := TX1) (N := 12) hx hb hT wu_X1 hown hK hP 2 rfl rfl 7 (by decide) (va_Nw.use rfl (hN.get 243 kf_X5_155 rfl)) (fun _ h9 => h9) rfl dX5_all_84 ?_
              refine lv_if_le (tgt := 100) hx hb dX5_all_87 (by decide) (fun c_0 => absurd c_0 (by decide)) (fun _ => ?_)
              refine lv_aload_n hx hb dX5_all_90 rfl (lv_at hl 0 rfl) ?_
              refine va_get (ci := 5) (v := .ref ad) (C := RX5) (T := TX5) (N := 9) hx hb hT wu_X5 hown hK hP 0 rfl rfl 5 (by decide) (hT _ wf_X5_39) (fun _ h9 => h9) rfl dX5_all_91 ?_
              refine va_getN (ci := 1) (v := .int 0) (C := RX1) (T := TX1) (N := 12) hx hb hT wu_X1 hown hK hP 2 rfl rfl 11 (by decide) (va_Nw.use rfl (hN.get 251 kf_X5_167 rfl)) (fun _ h9 => h9) rfl dX5_all_94 ?_
              refine lv_goto (tgt := 102) hx hb dX5_all_97 (by decide) ?_
              exact retI C0 rfl () (((if_neg c_1).trans ((if_pos c_2).trans ((if_neg c_6).trans ((if_neg c_7).trans ((if_neg c_8).trans ((if_neg c_9))))))).symm) (hP.sub (ws' := []) [] rfl) (hD.sub (ws' := []) [] (by decide) rfl) hS (Nat.le_of_ble_eq_true rfl) (Nat.le_of_ble_eq_true rfl) dX5_all_102
    · refine lv_sipush (v := (-10001)) hx hb dX5_all_9 (by decide) ?_
      exact retI C0 rfl () (((if_neg c_1).trans ((if_neg c_2))).symm) (hP.sub (ws' := []) [] rfl) (hD.sub (ws' := []) [] (by decide) rfl) hS (Nat.le_of_ble_eq_true rfl) (Nat.le_of_ble_eq_true rfl) dX5_all_12

set_option maxHeartbeats 4000000 in
set_option maxRecDepth 100000 in
theorem x_once (l : Launch) (D : va_G) (cI cZ cQ cT : ClassId) (sz : Nat) (ax : Nat) (p1 : Int32) (p2 : Int32) (p3 : Int32) (p4 : Int32) (ah : Nat) (bh : Nat) (an : Nat) (aw : Nat) (ad : Nat) (ae : Nat) (ap : Nat) (aa : Nat) (af : Nat) (atp : Nat) (ab : Nat) (ak : Nat) (av : Nat) (ar : Nat)  : MetI l yX5_once cX5_once 7 .int ({ frames := 1, cells := 0, slots := 0, locals := 21 } : Room) [.ref ax, .int p1, .int p2, .int p3, .int p4] D (TYS cI cZ cQ cT) EF sz [(ax, .inr (5, [.ref ah, .ref bh, .int 0, .ref an, .ref aw, .ref ad, .ref ae, .ref ap, .ref aa])), (ah, .inr (3, [.ref af, .ref atp, .ref ab, .int 0, .int 0, .int 0])), (af, .inr (2, [.ref ak, .ref av, .ref ar, .int 0, .int 0, .int 0]))] (S := Unit) (fun (r : Int32) (_ : Unit) => r = (-1)) (fun _ => []) := by
  refine MetI.mk (lv := [(0, .ref ax), (1, .int p1), (2, .int p2), (3, .int p3), (4, .int p4)]) (by decide +kernel) (Nat.le_of_ble_eq_true rfl) rfl ?_
  intro p e s m below meth c A ls C0 hP hD hS hX hl
  have C1 := C0
  obtain ⟨hx, hb, hr, hml, hown, hlocks, hname, hT, hN, hK, hA⟩ := C1
  refine lv_aload_n hx hb dX5_once_0 rfl (lv_at hl 0 rfl) ?_
  refine va_get (ci := 5) (v := .ref ah) (C := RX5) (T := TX5) (N := 9) hx hb hT wu_X5 hown hK hP 0 rfl rfl 0 (by decide) (hT _ wf_X5_12) (fun _ h9 => h9) rfl dX5_once_1 ?_
  refine va_getN (ci := 3) (v := .ref af) (C := RX3) (T := TX3) (N := 6) hx hb hT wu_X3 hown hK hP 1 rfl rfl 0 (by decide) (va_Nw.use rfl (hN.get 167 kf_X5_32 rfl)) (fun _ h9 => h9) rfl dX5_once_4 ?_
  refine lv_iload_n hx hb dX5_once_7 rfl (lv_at hl 2 rfl) ?_
  refine contI (wc := [(af, .inr (2, [.ref ak, .ref av, .ref ar, .int 0, .int 0, .int 0]))]) (wr := [(ax, .inr (5, [.ref ah, .ref bh, .int 0, .ref an, .ref aw, .ref ad, .ref ae, .ref ap, .ref aa])), (ah, .inr (3, [.ref af, .ref atp, .ref ab, .int 0, .int 0, .int 0]))]) C0 hP hD hS [2] [0, 1] rfl rfl (by decide) (by decide) 0 0 (Nat.le_of_ble_eq_true rfl) (Nat.le_of_ble_eq_true rfl) (runVN (k := 1) (As := [.int p2]) (rest := []) "DayKnown" 493 C0 (c_has l D cI cZ cQ cT _ af p2 ak av ar 0 0) wc_X2_has kl_X5_96 wi_X2_has we_X2_has wz_X2 ⟨by decide, by decide, by decide +kernel⟩ ⟨(Nat.le_of_ble_eq_true rfl), (Nat.le_of_ble_eq_true rfl)⟩ hP hD hS EF.ok hX [2] rfl (by decide) 2 rfl rfl rfl rfl hl.1 rfl (Nat.le_of_ble_eq_true rfl) dX5_once_8 ⟨(Nat.le_of_ble_eq_true rfl), (Nat.le_of_ble_eq_true rfl)⟩) (fun r_3 u_1 H locs w_2 hP hD hS => ?_)
  have hP : va_P D CL [(ax, .inr (5, [.ref ah, .ref bh, .int 0, .ref an, .ref aw, .ref ad, .ref ae, .ref ap, .ref aa])), (ah, .inr (3, [.ref af, .ref atp, .ref ab, .int 0, .int 0, .int 0])), (af, .inr (2, [.ref ak, .ref av, .ref ar, .int 0, .int 0, .int 0]))] H := hP
  have hD : va_D A [(ax, .inr (5, [.ref ah, .ref bh, .int 0, .ref an, .ref aw, .ref ad, .ref ae, .ref ap, .ref aa])), (ah, .inr (3, [.ref af, .ref atp, .ref ab, .int 0, .int 0, .int 0])), (af, .inr (2, [.ref ak, .ref av, .ref ar, .int 0, .int 0, .int 0]))] := hD
  obtain rfl : r_3 = 0 := w_2
  refine lv_if_eq (tgt := 29) hx hb dX5_once_11 (by decide) (fun _ => ?_) (fun c_0 => absurd (by decide) c_0)
  refine lv_iconst (v := (-1)) hx hb dX5_once_29 (by decide) ?_
  exact retI C0 rfl () rfl (hP.sub (ws' := []) [] rfl) (hD.sub (ws' := []) [] (by decide) rfl) hS (Nat.le_of_ble_eq_true rfl) (Nat.le_of_ble_eq_true rfl) dX5_once_30

set_option maxHeartbeats 4000000 in
set_option maxRecDepth 100000 in
theorem c_isPart (l : Launch) (D : va_G) (cI cZ cQ cT : ClassId) (sz : Nat) (what : Int32)  : MetI l yX5_isPart cX5_isPart 1 .boolean ({ frames := 0, cells := 0, slots := 0, locals := 0 } : Room) [.int what] D (TYS cI cZ cQ cT) EF sz [] (S := Unit) (fun (r : Int32) (_ : Unit) => r = (if (what = 0 ∨ what = 1) then 1 else 0)) (fun _ => []) := by
  refine MetI.mk (lv := [(0, .int what)]) (by decide +kernel) (Nat.le_of_ble_eq_true rfl) rfl ?_
  intro p e s m below meth c A ls C0 hP hD hS hX hl
  have C1 := C0
  obtain ⟨hx, hb, hr, hml, hown, hlocks, hname, hT, hN, hK, hA⟩ := C1
  refine lv_iload_n hx hb dX5_isPart_0 rfl (lv_at hl 0 rfl) ?_
  refine lv_if_eq (tgt := 9) hx hb dX5_isPart_1 (by decide) (fun c_1 => ?_) (fun c_1 => ?_)
  · refine lv_iconst (v := 1) hx hb dX5_isPart_9 (by decide) ?_
    refine lv_goto (tgt := 14) hx hb dX5_isPart_10 (by decide) ?_
    exact retI C0 rfl () ((if_pos (by have h_0 := c_1; have z0 : (0 : Int32).toInt = 0 := (by decide); have z1 : (1 : Int32).toInt = 1 := (by decide); simp only [le_i, lt_i, eq_i] at h_0 ⊢; omega : (what = (0 : Int32) ∨ what = (1 : Int32)))).symm) (hP.sub (ws' := []) [] rfl) (hD.sub (ws' := []) [] (by decide) rfl) hS (Nat.le_of_ble_eq_true rfl) (Nat.le_of_ble_eq_true rfl) dX5_isPart_14
  · refine lv_iload_n hx hb dX5_isPart_4 rfl (lv_at hl 0 rfl) ?_
    refine lv_iconst (v := 1) hx hb dX5_isPart_5 (by decide) ?_
    refine lv_icmp_ne (tgt := 13) hx hb dX5_isPart_6 (by decide) (fun c_2 => ?_) (fun c_2 => ?_)
    · refine lv_iconst (v := 0) hx hb dX5_isPart_13 (by decide) ?_
      exact retI C0 rfl () ((if_neg (by have h_0 := c_1; have h_1 := c_2; have z0 : (0 : Int32).toInt = 0 := (by decide); have z1 : (1 : Int32).toInt = 1 := (by decide); simp only [le_i, lt_i, eq_i] at h_0 h_1 ⊢; omega : ¬ (what = (0 : Int32) ∨ what = (1 : Int32)))).symm) (hP.sub (ws' := []) [] rfl) (hD.sub (ws' := []) [] (by decide) rfl) hS (Nat.le_of_ble_eq_true rfl) (Nat.le_of_ble_eq_true rfl) dX5_isPart_14
    · refine lv_iconst (v := 1) hx hb dX5_isPart_9 (by decide) ?_
      refine lv_goto (tgt := 14) hx hb dX5_isPart_10 (by decide) ?_
      exact retI C0 rfl () ((if_pos (by have h_0 := c_1; have h_1 := c_2; have z0 : (0 : Int32).toInt = 0 := (by decide); have z1 : (1 : Int32).toInt = 1 := (by decide); simp only [le_i, lt_i, eq_i] at h_0 h_1 ⊢; omega : (what = (0 : Int32) ∨ what = (1 : Int32)))).symm) (hP.sub (ws' := []) [] rfl) (hD.sub (ws' := []) [] (by decide) rfl) hS (Nat.le_of_ble_eq_true rfl) (Nat.le_of_ble_eq_true rfl) dX5_isPart_14

set_option maxHeartbeats 4000000 in
set_option maxRecDepth 100000 in
theorem c_placeOnPath (l : Launch) (D : va_G) (cI cZ cQ cT : ClassId) (sz : Nat) (ax : Nat) (ah : Nat) (bh : Nat) (an : Nat) (aw : Nat) (ad : Nat) (ae : Nat) (ap : Nat) (aa : Nat) (fp : Nat → Int32) (h0 : fp (0 : Int32).toNatClampNeg = 0) : MetI l yX5_placeOnPath cX5_placeOnPath 4 .int ({ frames := 0, cells := 0, slots := 0, locals := 0 } : Room) [.ref ax, .int 0, .int 1] D (TYS cI cZ cQ cT) EF sz [(ax, .inr (5, [.ref ah, .ref bh, .int 0, .ref an, .ref aw, .ref ad, .ref ae, .ref ap, .ref aa])), (ap, .inl (cI, 201, .inl fp))] (S := Unit) (fun (r : Int32) (_ : Unit) => r = 0) (fun _ => []) := by
  refine MetI.mk (lv := [(0, .ref ax), (1, .int 0), (2, .int 1)]) (by decide +kernel) (Nat.le_of_ble_eq_true rfl) rfl ?_
  intro p e s m below meth c A ls C0 hP hD hS hX hl
  have C1 := C0
  obtain ⟨hx, hb, hr, hml, hown, hlocks, hname, hT, hN, hK, hA⟩ := C1
  refine lv_iconst (v := 0) hx hb dX5_placeOnPath_0 (by decide) ?_
  refine lv_istore_n (lv' := [(3, .int 0), (0, .ref ax), (1, .int 0), (2, .int 1)]) hx hb dX5_placeOnPath_1 rfl hl (by decide) rfl (fun ls hl => ?_)
  refine lv_iload_n hx hb dX5_placeOnPath_2 rfl (lv_at hl 0 rfl) ?_
  refine lv_iload_n hx hb dX5_placeOnPath_3 rfl (lv_at hl 3 rfl) ?_
  refine lv_icmp_ge (tgt := 34) hx hb dX5_placeOnPath_4 (by decide) (fun c_0 => absurd c_0 (by decide)) (fun _ => ?_)
  refine lv_iload_n hx hb dX5_placeOnPath_7 rfl (lv_at hl 0 rfl) ?_
  refine lv_aload_n hx hb dX5_placeOnPath_8 rfl (lv_at hl 1 rfl) ?_
  refine va_get (ci := 5) (v := .ref ap) (C := RX5) (T := TX5) (N := 9) hx hb hT wu_X5 hown hK hP 0 rfl rfl 7 (by decide) (hT _ wf_X5_49) (fun _ h9 => h9) rfl dX5_placeOnPath_9 ?_
  refine va_alen hx hb hK hP 1 0 rfl rfl (v := 201) (show Int32.ofNat 201 = (201 : Int32) by decide +kernel) dX5_placeOnPath_12 ?_
  refine lv_icmp_ge (tgt := 34) hx hb dX5_placeOnPath_13 (by decide) (fun c_0 => absurd c_0 (by decide)) (fun _ => ?_)
  refine lv_aload_n hx hb dX5_placeOnPath_16 rfl (lv_at hl 1 rfl) ?_
  refine va_get (ci := 5) (v := .ref ap) (C := RX5) (T := TX5) (N := 9) hx hb hT wu_X5 hown hK hP 0 rfl rfl 7 (by decide) (hT _ wf_X5_49) (fun _ h9 => h9) rfl dX5_placeOnPath_17 ?_
  refine lv_iload_n hx hb dX5_placeOnPath_20 rfl (lv_at hl 0 rfl) ?_
  refine va_iald hx hb hK hP 1 0 rfl rfl (vin _ _ (by decide +kernel)) dX5_placeOnPath_21 ?_
  refine lv_ci 0 (h0) ?_
  refine lv_iload_n hx hb dX5_placeOnPath_22 rfl (lv_at hl 2 rfl) ?_
  refine lv_icmp_ne (tgt := 28) hx hb dX5_placeOnPath_23 (by decide) (fun c_0 => absurd (by decide) c_0) (fun _ => ?_)
  refine lv_iload_n hx hb dX5_placeOnPath_26 rfl (lv_at hl 0 rfl) ?_
  exact retI C0 rfl () rfl (hP.sub (ws' := []) [] rfl) (hD.sub (ws' := []) [] (by decide) rfl) hS (Nat.le_of_ble_eq_true rfl) (Nat.le_of_ble_eq_true rfl) dX5_placeOnPath_27

set_option maxHeartbeats 4000000 in
set_option maxRecDepth 100000 in
theorem x_again (l : Launch) (D : va_G) (cI cZ cQ cT : ClassId) (sz : Nat) (ax : Nat) (p1 : Int32) (p2 : Int32) (ah : Nat) (bh : Nat) (an : Nat) (aw : Nat) (ad : Nat) (ae : Nat) (ap : Nat) (aa : Nat) (af : Nat) (atp : Nat) (ab : Nat) (ak : Nat) (av : Nat) (ar : Nat) (d1 : Nat) (d2 : Nat) (d3 : Nat) (d4 : Nat) (fp : Nat → Int32)  : MetI l yX5_again cX5_again 5 .int ({ frames := 2, cells := 0, slots := 0, locals := 41 } : Room) [.ref ax, .int p1, .int p2] D (TYS cI cZ cQ cT) EF sz [(ax, .inr (5, [.ref ah, .ref bh, .int 0, .ref an, .ref aw, .ref ad, .ref ae, .ref ap, .ref aa])), (ah, .inr (3, [.ref af, .ref atp, .ref ab, .int 0, .int 0, .int 0])), (af, .inr (2, [.ref ak, .ref av, .ref ar, .int 0, .int 0, .int 0])), (ad, .inr (1, [.ref af, .ref d1, .ref d2, .ref d3, .ref d4, .int 0, .int 0, .int 0, .int 0, .int 0, .int 0, .int 0])), (ap, .inl (cI, 201, .inl fp))] (S := Unit) (fun (r : Int32) (_ : Unit) => r = (if (p2 = 0 ∨ p2 = 1) then (if (p1 = 0) then (if p2 = (0 : Int32) then 1 else 1) else (-2)) else (-1))) (fun _ => []) := by
  refine MetI.mk (lv := [(0, .ref ax), (1, .int p1), (2, .int p2)]) (by decide +kernel) (Nat.le_of_ble_eq_true rfl) rfl ?_
  intro p e s m below meth c A ls C0 hP hD hS hX hl
  have C1 := C0
  obtain ⟨hx, hb, hr, hml, hown, hlocks, hname, hT, hN, hK, hA⟩ := C1
  refine lv_iload_n hx hb dX5_again_0 rfl (lv_at hl 2 rfl) ?_
  refine contI (wc := []) (wr := [(ax, .inr (5, [.ref ah, .ref bh, .int 0, .ref an, .ref aw, .ref ad, .ref ae, .ref ap, .ref aa])), (ah, .inr (3, [.ref af, .ref atp, .ref ab, .int 0, .int 0, .int 0])), (af, .inr (2, [.ref ak, .ref av, .ref ar, .int 0, .int 0, .int 0])), (ad, .inr (1, [.ref af, .ref d1, .ref d2, .ref d3, .ref d4, .int 0, .int 0, .int 0, .int 0, .int 0, .int 0, .int 0])), (ap, .inl (cI, 201, .inl fp))]) C0 hP hD hS [] [0, 1, 2, 3, 4] rfl rfl (by decide) (by decide) 0 0 (Nat.le_of_ble_eq_true rfl) (Nat.le_of_ble_eq_true rfl) (runS (k := 1) (As := [.int p2]) (rest := []) C0 (c_isPart l D cI cZ cQ cT _ p2) wc_X5_isPart wl_X5_170 wt_X5_isPart wz_X5 ⟨by decide, by decide, by decide +kernel⟩ ⟨(Nat.le_of_ble_eq_true rfl), (Nat.le_of_ble_eq_true rfl)⟩ hP hD hS EF.ok hX [] rfl (by decide) rfl hl.1 rfl (Nat.le_of_ble_eq_true rfl) dX5_again_1 ⟨(Nat.le_of_ble_eq_true rfl), (Nat.le_of_ble_eq_true rfl)⟩) (fun r_3 u_1 H locs w_2 hP hD hS => ?_)
  have hP : va_P D CL [(ax, .inr (5, [.ref ah, .ref bh, .int 0, .ref an, .ref aw, .ref ad, .ref ae, .ref ap, .ref aa])), (ah, .inr (3, [.ref af, .ref atp, .ref ab, .int 0, .int 0, .int 0])), (af, .inr (2, [.ref ak, .ref av, .ref ar, .int 0, .int 0, .int 0])), (ad, .inr (1, [.ref af, .ref d1, .ref d2, .ref d3, .ref d4, .int 0, .int 0, .int 0, .int 0, .int 0, .int 0, .int 0])), (ap, .inl (cI, 201, .inl fp))] H := hP
  have hD : va_D A [(ax, .inr (5, [.ref ah, .ref bh, .int 0, .ref an, .ref aw, .ref ad, .ref ae, .ref ap, .ref aa])), (ah, .inr (3, [.ref af, .ref atp, .ref ab, .int 0, .int 0, .int 0])), (af, .inr (2, [.ref ak, .ref av, .ref ar, .int 0, .int 0, .int 0])), (ad, .inr (1, [.ref af, .ref d1, .ref d2, .ref d3, .ref d4, .int 0, .int 0, .int 0, .int 0, .int 0, .int 0, .int 0])), (ap, .inl (cI, 201, .inl fp))] := hD
  refine (Decidable.em ((p2 = 0 ∨ p2 = 1))).elim (fun c_4 => ?_) (fun c_4 => ?_)
  · obtain rfl : r_3 = 1 := w_2.trans (if_pos c_4)
    refine lv_if_ne (tgt := 9) hx hb dX5_again_4 (by decide) (fun _ => ?_) (fun c_0 => absurd c_0 (by decide))
    refine lv_aload_n hx hb dX5_again_9 rfl (lv_at hl 0 rfl) ?_
    refine va_get (ci := 5) (v := .ref ah) (C := RX5) (T := TX5) (N := 9) hx hb hT wu_X5 hown hK hP 0 rfl rfl 0 (by decide) (hT _ wf_X5_12) (fun _ h9 => h9) rfl dX5_again_10 ?_
    refine va_getN (ci := 3) (v := .ref af) (C := RX3) (T := TX3) (N := 6) hx hb hT wu_X3 hown hK hP 1 rfl rfl 0 (by decide) (va_Nw.use rfl (hN.get 167 kf_X5_32 rfl)) (fun _ h9 => h9) rfl dX5_again_13 ?_
    refine lv_iload_n hx hb dX5_again_16 rfl (lv_at hl 1 rfl) ?_
    refine contI (wc := [(af, .inr (2, [.ref ak, .ref av, .ref ar, .int 0, .int 0, .int 0]))]) (wr := [(ax, .inr (5, [.ref ah, .ref bh, .int 0, .ref an, .ref aw, .ref ad, .ref ae, .ref ap, .ref aa])), (ah, .inr (3, [.ref af, .ref atp, .ref ab, .int 0, .int 0, .int 0])), (ad, .inr (1, [.ref af, .ref d1, .ref d2, .ref d3, .ref d4, .int 0, .int 0, .int 0, .int 0, .int 0, .int 0, .int 0])), (ap, .inl (cI, 201, .inl fp))]) C0 hP hD hS [2] [0, 1, 3, 4] rfl rfl (by decide) (by decide) 0 0 (Nat.le_of_ble_eq_true rfl) (Nat.le_of_ble_eq_true rfl) (runVN (k := 1) (As := [.int p1]) (rest := []) "DayKnown" 514 C0 (c_isDay l D cI cZ cQ cT _ af p1 ak av ar 0 0) wc_X2_isDay kl_X5_117 wi_X2_isDay we_X2_isDay wz_X2 ⟨by decide, by decide, by decide +kernel⟩ ⟨(Nat.le_of_ble_eq_true rfl), (Nat.le_of_ble_eq_true rfl)⟩ hP hD hS EF.ok hX [2] rfl (by decide) 2 rfl rfl rfl rfl hl.1 rfl (Nat.le_of_ble_eq_true rfl) dX5_again_17 ⟨(Nat.le_of_ble_eq_true rfl), (Nat.le_of_ble_eq_true rfl)⟩) (fun r_7 u_5 H locs w_6 hP hD hS => ?_)
    have hP : va_P D CL [(ax, .inr (5, [.ref ah, .ref bh, .int 0, .ref an, .ref aw, .ref ad, .ref ae, .ref ap, .ref aa])), (ah, .inr (3, [.ref af, .ref atp, .ref ab, .int 0, .int 0, .int 0])), (ad, .inr (1, [.ref af, .ref d1, .ref d2, .ref d3, .ref d4, .int 0, .int 0, .int 0, .int 0, .int 0, .int 0, .int 0])), (ap, .inl (cI, 201, .inl fp)), (af, .inr (2, [.ref ak, .ref av, .ref ar, .int 0, .int 0, .int 0]))] H := hP
    have hD : va_D A [(ax, .inr (5, [.ref ah, .ref bh, .int 0, .ref an, .ref aw, .ref ad, .ref ae, .ref ap, .ref aa])), (ah, .inr (3, [.ref af, .ref atp, .ref ab, .int 0, .int 0, .int 0])), (ad, .inr (1, [.ref af, .ref d1, .ref d2, .ref d3, .ref d4, .int 0, .int 0, .int 0, .int 0, .int 0, .int 0, .int 0])), (ap, .inl (cI, 201, .inl fp)), (af, .inr (2, [.ref ak, .ref av, .ref ar, .int 0, .int 0, .int 0]))] := hD
    refine (Decidable.em ((p1 = 0))).elim (fun c_8 => ?_) (fun c_8 => ?_)
    · obtain rfl : r_7 = 1 := w_6.trans (if_pos c_8)
      subst c_8
      refine lv_if_ne (tgt := 26) hx hb dX5_again_20 (by decide) (fun _ => ?_) (fun c_0 => absurd c_0 (by decide))
      refine lv_aload_n hx hb dX5_again_26 rfl (lv_at hl 0 rfl) ?_
      refine va_get (ci := 5) (v := .ref ad) (C := RX5) (T := TX5) (N := 9) hx hb hT wu_X5 hown hK hP 0 rfl rfl 5 (by decide) (hT _ wf_X5_39) (fun _ h9 => h9) rfl dX5_again_27 ?_
      refine lv_aload_n hx hb dX5_again_30 rfl (lv_at hl 0 rfl) ?_
      refine contR (wc := [(ax, .inr (5, [.ref ah, .ref bh, .int 0, .ref an, .ref aw, .ref ad, .ref ae, .ref ap, .ref aa])), (ah, .inr (3, [.ref af, .ref atp, .ref ab, .int 0, .int 0, .int 0]))]) (wr := [(ad, .inr (1, [.ref af, .ref d1, .ref d2, .ref d3, .ref d4, .int 0, .int 0, .int 0, .int 0, .int 0, .int 0, .int 0])), (ap, .inl (cI, 201, .inl fp)), (af, .inr (2, [.ref ak, .ref av, .ref ar, .int 0, .int 0, .int 0]))]) C0 hP hD hS [0, 1] [2, 3, 4] rfl rfl (by decide) (by decide) 0 0 (Nat.le_of_ble_eq_true rfl) (Nat.le_of_ble_eq_true rfl) (runV (k := 0) (As := []) (rest := [.ref ad]) C0 (c_newestTown l D cI cZ cQ cT _ ax ah bh an aw ad ae ap aa af atp ab) wc_X5_newestTown wl_X5_76 wi_X5_newestTown we_X5_newestTown wz_X5 ⟨by decide, by decide, by decide +kernel⟩ ⟨(Nat.le_of_ble_eq_true rfl), (Nat.le_of_ble_eq_true rfl)⟩ hP hD hS EF.ok hX [0, 1] rfl (by decide) 0 rfl rfl rfl rfl hl.1 rfl (Nat.le_of_ble_eq_true rfl) dX5_again_31 ⟨(Nat.le_of_ble_eq_true rfl), (Nat.le_of_ble_eq_true rfl)⟩) (fun u_9 H locs w_10 hP hD hS => ?_)
      have hP : va_P D CL [(ad, .inr (1, [.ref af, .ref d1, .ref d2, .ref d3, .ref d4, .int 0, .int 0, .int 0, .int 0, .int 0, .int 0, .int 0])), (ap, .inl (cI, 201, .inl fp)), (af, .inr (2, [.ref ak, .ref av, .ref ar, .int 0, .int 0, .int 0])), (ax, .inr (5, [.ref ah, .ref bh, .int 0, .ref an, .ref aw, .ref ad, .ref ae, .ref ap, .ref aa])), (ah, .inr (3, [.ref af, .ref atp, .ref ab, .int 0, .int 0, .int 0]))] H := hP
      have hD : va_D A [(ad, .inr (1, [.ref af, .ref d1, .ref d2, .ref d3, .ref d4, .int 0, .int 0, .int 0, .int 0, .int 0, .int 0, .int 0])), (ap, .inl (cI, 201, .inl fp)), (af, .inr (2, [.ref ak, .ref av, .ref ar, .int 0, .int 0, .int 0])), (ax, .inr (5, [.ref ah, .ref bh, .int 0, .ref an, .ref aw, .ref ad, .ref ae, .ref ap, .ref aa])), (ah, .inr (3, [.ref af, .ref atp, .ref ab, .int 0, .int 0, .int 0]))] := hD
      refine contV (wc := [(ad, .inr (1, [.ref af, .ref d1, .ref d2, .ref d3, .ref d4, .int 0, .int 0, .int 0, .int 0, .int 0, .int 0, .int 0])), (af, .inr (2, [.ref ak, .ref av, .ref ar, .int 0, .int 0, .int 0]))]) (wr := [(ap, .inl (cI, 201, .inl fp)), (ax, .inr (5, [.ref ah, .ref bh, .int 0, .ref an, .ref aw, .ref ad, .ref ae, .ref ap, .ref aa])), (ah, .inr (3, [.ref af, .ref atp, .ref ab, .int 0, .int 0, .int 0]))]) C0 hP hD hS [0, 2] [1, 3, 4] rfl rfl (by decide) (by decide) 0 0 (Nat.le_of_ble_eq_true rfl) (Nat.le_of_ble_eq_true rfl) (runVN (k := 1) (As := [.ref an]) (rest := []) "DayKnown" 529 C0 (c_prepare l D cI cZ cQ cT _ ad an af d1 d2 d3 d4 0 0 0 0 0 0 ak av ar) wc_X1_prepare kl_X5_123 wi_X1_prepare we_X1_prepare wz_X1 ⟨by decide, by decide, by decide +kernel⟩ ⟨(Nat.le_of_ble_eq_true rfl), (Nat.le_of_ble_eq_true rfl)⟩ hP hD hS EF.ok hX [0, 2] rfl (by decide) 0 rfl rfl rfl rfl hl.1 rfl (Nat.le_of_ble_eq_true rfl) dX5_again_34 ⟨(Nat.le_of_ble_eq_true rfl), (Nat.le_of_ble_eq_true rfl)⟩) (fun u_12 H locs w_13 hP hD hS => ?_)
      have hP : va_P D CL [(ap, .inl (cI, 201, .inl fp)), (ax, .inr (5, [.ref ah, .ref bh, .int 0, .ref an, .ref aw, .ref ad, .ref ae, .ref ap, .ref aa])), (ah, .inr (3, [.ref af, .ref atp, .ref ab, .int 0, .int 0, .int 0])), (ad, .inr (1, [.ref af, .ref d1, .ref d2, .ref d3, .ref d4, .int 1, .int 0, .int 0, .int 0, .int 0, .int 0, .int 0])), (af, .inr (2, [.ref ak, .ref av, .ref ar, .int 0, .int 0, .int 0]))] H := hP
      have hD : va_D A [(ap, .inl (cI, 201, .inl fp)), (ax, .inr (5, [.ref ah, .ref bh, .int 0, .ref an, .ref aw, .ref ad, .ref ae, .ref ap, .ref aa])), (ah, .inr (3, [.ref af, .ref atp, .ref ab, .int 0, .int 0, .int 0])), (ad, .inr (1, [.ref af, .ref d1, .ref d2, .ref d3, .ref d4, .int 1, .int 0, .int 0, .int 0, .int 0, .int 0, .int 0])), (af, .inr (2, [.ref ak, .ref av, .ref ar, .int 0, .int 0, .int 0]))] := hD
      refine lv_aload_n hx hb dX5_again_37 rfl (lv_at hl 0 rfl) ?_
      refine va_get (ci := 5) (v := .ref ap) (C := RX5) (T := TX5) (N := 9) hx hb hT wu_X5 hown hK hP 1 rfl rfl 7 (by decide) (hT _ wf_X5_49) (fun _ h9 => h9) rfl dX5_again_38 ?_
      refine lv_iconst (v := 0) hx hb dX5_again_41 (by decide) ?_
      refine lv_iload_n hx hb dX5_again_42 rfl (lv_at hl 1 rfl) ?_
      refine va_iast hx hb hK hP hD hS 0 0 rfl rfl (vin _ _ (by decide +kernel)) dX5_again_43 (fun H locs hP hD hS => ?_)
      have hP : va_P D CL [(ap, .inl (cI, 201, .inl (upd fp ((0 : Int32)).toNatClampNeg 0))), (ax, .inr (5, [.ref ah, .ref bh, .int 0, .ref an, .ref aw, .ref ad, .ref ae, .ref ap, .ref aa])), (ah, .inr (3, [.ref af, .ref atp, .ref ab, .int 0, .int 0, .int 0])), (ad, .inr (1, [.ref af, .ref d1, .ref d2, .ref d3, .ref d4, .int 1, .int 0, .int 0, .int 0, .int 0, .int 0, .int 0])), (af, .inr (2, [.ref ak, .ref av, .ref ar, .int 0, .int 0, .int 0]))] H := hP
      have hD : va_D A [(ap, .inl (cI, 201, .inl (upd fp ((0 : Int32)).toNatClampNeg 0))), (ax, .inr (5, [.ref ah, .ref bh, .int 0, .ref an, .ref aw, .ref ad, .ref ae, .ref ap, .ref aa])), (ah, .inr (3, [.ref af, .ref atp, .ref ab, .int 0, .int 0, .int 0])), (ad, .inr (1, [.ref af, .ref d1, .ref d2, .ref d3, .ref d4, .int 1, .int 0, .int 0, .int 0, .int 0, .int 0, .int 0])), (af, .inr (2, [.ref ak, .ref av, .ref ar, .int 0, .int 0, .int 0]))] := hD
      refine lv_iconst (v := 1) hx hb dX5_again_44 (by decide) ?_
      refine lv_istore_n (lv' := [(3, .int 1), (0, .ref ax), (1, .int 0), (2, .int p2)]) hx hb dX5_again_45 rfl hl (by decide) rfl (fun ls hl => ?_)
      refine lv_iload_n hx hb dX5_again_46 rfl (lv_at hl 0 rfl) ?_
      refine lv_aload_n hx hb dX5_again_47 rfl (lv_at hl 1 rfl) ?_
      refine va_get (ci := 5) (v := .ref ap) (C := RX5) (T := TX5) (N := 9) hx hb hT wu_X5 hown hK hP 1 rfl rfl 7 (by decide) (hT _ wf_X5_49) (fun _ h9 => h9) rfl dX5_again_48 ?_
      refine va_alen hx hb hK hP 0 0 rfl rfl (v := 201) (show Int32.ofNat 201 = (201 : Int32) by decide +kernel) dX5_again_51 ?_
      refine lv_icmp_ge (tgt := 113) hx hb dX5_again_52 (by decide) (fun c_0 => absurd c_0 (by decide)) (fun _ => ?_)
      refine lv_aload_n hx hb dX5_again_55 rfl (lv_at hl 1 rfl) ?_
      refine va_get (ci := 5) (v := .ref ap) (C := RX5) (T := TX5) (N := 9) hx hb hT wu_X5 hown hK hP 1 rfl rfl 7 (by decide) (hT _ wf_X5_49) (fun _ h9 => h9) rfl dX5_again_56 ?_
      refine lv_iload_n hx hb dX5_again_59 rfl (lv_at hl 0 rfl) ?_
      refine lv_aload_n hx hb dX5_again_60 rfl (lv_at hl 1 rfl) ?_
      refine va_get (ci := 5) (v := .ref ad) (C := RX5) (T := TX5) (N := 9) hx hb hT wu_X5 hown hK hP 1 rfl rfl 5 (by decide) (hT _ wf_X5_39) (fun _ h9 => h9) rfl dX5_again_61 ?_
      refine lv_aload_n hx hb dX5_again_64 rfl (lv_at hl 1 rfl) ?_
      refine va_get (ci := 5) (v := .ref ap) (C := RX5) (T := TX5) (N := 9) hx hb hT wu_X5 hown hK hP 1 rfl rfl 7 (by decide) (hT _ wf_X5_49) (fun _ h9 => h9) rfl dX5_again_65 ?_
      refine lv_iload_n hx hb dX5_again_68 rfl (lv_at hl 0 rfl) ?_
      refine lv_iconst (v := 1) hx hb dX5_again_69 (by decide) ?_
      refine lv_isub hx hb dX5_again_70 ?_
      refine lv_ci 0 (by decide +kernel) ?_
      refine va_iald hx hb hK hP 0 0 rfl rfl (vin _ _ (by decide +kernel)) dX5_again_71 ?_
      refine lv_ci 0 (pk_us) ?_
      refine contI (wc := [(ad, .inr (1, [.ref af, .ref d1, .ref d2, .ref d3, .ref d4, .int 1, .int 0, .int 0, .int 0, .int 0, .int 0, .int 0])), (af, .inr (2, [.ref ak, .ref av, .ref ar, .int 0, .int 0, .int 0]))]) (wr := [(ap, .inl (cI, 201, .inl (upd fp ((0 : Int32)).toNatClampNeg 0))), (ax, .inr (5, [.ref ah, .ref bh, .int 0, .ref an, .ref aw, .ref ad, .ref ae, .ref ap, .ref aa])), (ah, .inr (3, [.ref af, .ref atp, .ref ab, .int 0, .int 0, .int 0]))]) C0 hP hD hS [3, 4] [0, 1, 2] rfl rfl (by decide) (by decide) 0 0 (Nat.le_of_ble_eq_true rfl) (Nat.le_of_ble_eq_true rfl) (runVN (k := 1) (As := [.int 0]) (rest := [.int 1, .ref ap]) "DayKnown" 602 C0 (c_answer l D cI cZ cQ cT _ ad 0 af d1 d2 d3 d4 1 0 0 0 0 0 0 ak av ar) wc_X1_answer kl_X5_146 wi_X1_answer we_X1_answer wz_X1 ⟨by decide, by decide, by decide +kernel⟩ ⟨(Nat.le_of_ble_eq_true rfl), (Nat.le_of_ble_eq_true rfl)⟩ hP hD hS EF.ok hX [3, 4] rfl (by decide) 3 rfl rfl rfl rfl hl.1 rfl (Nat.le_of_ble_eq_true rfl) dX5_again_72 ⟨(Nat.le_of_ble_eq_true rfl), (Nat.le_of_ble_eq_true rfl)⟩) (fun r_17 u_15 H locs w_16 hP hD hS => ?_)
      have hP : va_P D CL [(ap, .inl (cI, 201, .inl (upd fp ((0 : Int32)).toNatClampNeg 0))), (ax, .inr (5, [.ref ah, .ref bh, .int 0, .ref an, .ref aw, .ref ad, .ref ae, .ref ap, .ref aa])), (ah, .inr (3, [.ref af, .ref atp, .ref ab, .int 0, .int 0, .int 0])), (ad, .inr (1, [.ref af, .ref d1, .ref d2, .ref d3, .ref d4, .int 1, .int 0, .int 0, .int 0, .int 0, .int 0, .int 0])), (af, .inr (2, [.ref ak, .ref av, .ref ar, .int 0, .int 0, .int 0]))] H := hP
      have hD : va_D A [(ap, .inl (cI, 201, .inl (upd fp ((0 : Int32)).toNatClampNeg 0))), (ax, .inr (5, [.ref ah, .ref bh, .int 0, .ref an, .ref aw, .ref ad, .ref ae, .ref ap, .ref aa])), (ah, .inr (3, [.ref af, .ref atp, .ref ab, .int 0, .int 0, .int 0])), (ad, .inr (1, [.ref af, .ref d1, .ref d2, .ref d3, .ref d4, .int 1, .int 0, .int 0, .int 0, .int 0, .int 0, .int 0])), (af, .inr (2, [.ref ak, .ref av, .ref ar, .int 0, .int 0, .int 0]))] := hD
      obtain rfl : r_17 = 0 := w_16
      refine va_iast hx hb hK hP hD hS 0 0 rfl rfl (vin _ _ (by decide +kernel)) dX5_again_75 (fun H locs hP hD hS => ?_)
      have hP : va_P D CL [(ap, .inl (cI, 201, .inl (upd (upd fp ((0 : Int32)).toNatClampNeg 0) ((1 : Int32)).toNatClampNeg 0))), (ax, .inr (5, [.ref ah, .ref bh, .int 0, .ref an, .ref aw, .ref ad, .ref ae, .ref ap, .ref aa])), (ah, .inr (3, [.ref af, .ref atp, .ref ab, .int 0, .int 0, .int 0])), (ad, .inr (1, [.ref af, .ref d1, .ref d2, .ref d3, .ref d4, .int 1, .int 0, .int 0, .int 0, .int 0, .int 0, .int 0])), (af, .inr (2, [.ref ak, .ref av, .ref ar, .int 0, .int 0, .int 0]))] H := hP
      have hD : va_D A [(ap, .inl (cI, 201, .inl (upd (upd fp ((0 : Int32)).toNatClampNeg 0) ((1 : Int32)).toNatClampNeg 0))), (ax, .inr (5, [.ref ah, .ref bh, .int 0, .ref an, .ref aw, .ref ad, .ref ae, .ref ap, .ref aa])), (ah, .inr (3, [.ref af, .ref atp, .ref ab, .int 0, .int 0, .int 0])), (ad, .inr (1, [.ref af, .ref d1, .ref d2, .ref d3, .ref d4, .int 1, .int 0, .int 0, .int 0, .int 0, .int 0, .int 0])), (af, .inr (2, [.ref ak, .ref av, .ref ar, .int 0, .int 0, .int 0]))] := hD
      refine lv_aload_n hx hb dX5_again_76 rfl (lv_at hl 1 rfl) ?_
      refine lv_aload_n hx hb dX5_again_77 rfl (lv_at hl 1 rfl) ?_
      refine va_get (ci := 5) (v := .ref ap) (C := RX5) (T := TX5) (N := 9) hx hb hT wu_X5 hown hK hP 1 rfl rfl 7 (by decide) (hT _ wf_X5_49) (fun _ h9 => h9) rfl dX5_again_78 ?_
      refine lv_iload_n hx hb dX5_again_81 rfl (lv_at hl 0 rfl) ?_
      refine va_iald hx hb hK hP 0 0 rfl rfl (vin _ _ (by decide +kernel)) dX5_again_82 ?_
      refine lv_ci 0 (pk_us) ?_
      refine lv_iload_n hx hb dX5_again_83 rfl (lv_at hl 0 rfl) ?_
      refine contI (wc := [(ax, .inr (5, [.ref ah, .ref bh, .int 0, .ref an, .ref aw, .ref ad, .ref ae, .ref ap, .ref aa])), (ap, .inl (cI, 201, .inl (upd (upd fp ((0 : Int32)).toNatClampNeg 0) ((1 : Int32)).toNatClampNeg 0)))]) (wr := [(ah, .inr (3, [.ref af, .ref atp, .ref ab, .int 0, .int 0, .int 0])), (ad, .inr (1, [.ref af, .ref d1, .ref d2, .ref d3, .ref d4, .int 1, .int 0, .int 0, .int 0, .int 0, .int 0, .int 0])), (af, .inr (2, [.ref ak, .ref av, .ref ar, .int 0, .int 0, .int 0]))]) C0 hP hD hS [1, 0] [2, 3, 4] rfl rfl (by decide) (by decide) 0 0 (Nat.le_of_ble_eq_true rfl) (Nat.le_of_ble_eq_true rfl) (runV (k := 2) (As := [.int 0, .int 1]) (rest := []) C0 (c_placeOnPath l D cI cZ cQ cT _ ax ah bh an aw ad ae ap aa (upd (upd fp ((0 : Int32)).toNatClampNeg 0) ((1 : Int32)).toNatClampNeg 0) ((pk_un (by decide +kernel)).trans (pk_us))) wc_X5_placeOnPath wl_X5_176 wi_X5_placeOnPath we_X5_placeOnPath wz_X5 ⟨by decide, by decide, by decide +kernel⟩ ⟨(Nat.le_of_ble_eq_true rfl), (Nat.le_of_ble_eq_true rfl)⟩ hP hD hS EF.ok hX [1, 0] rfl (by decide) 1 rfl rfl rfl rfl hl.1 rfl (Nat.le_of_ble_eq_true rfl) dX5_again_84 ⟨(Nat.le_of_ble_eq_true rfl), (Nat.le_of_ble_eq_true rfl)⟩) (fun r_20 u_18 H locs w_19 hP hD hS => ?_)
      have hP : va_P D CL [(ah, .inr (3, [.ref af, .ref atp, .ref ab, .int 0, .int 0, .int 0])), (ad, .inr (1, [.ref af, .ref d1, .ref d2, .ref d3, .ref d4, .int 1, .int 0, .int 0, .int 0, .int 0, .int 0, .int 0])), (af, .inr (2, [.ref ak, .ref av, .ref ar, .int 0, .int 0, .int 0]))] H := hP
      have hD : va_D A [(ah, .inr (3, [.ref af, .ref atp, .ref ab, .int 0, .int 0, .int 0])), (ad, .inr (1, [.ref af, .ref d1, .ref d2, .ref d3, .ref d4, .int 1, .int 0, .int 0, .int 0, .int 0, .int 0, .int 0])), (af, .inr (2, [.ref ak, .ref av, .ref ar, .int 0, .int 0, .int 0]))] := hD
      obtain rfl : r_20 = 0 := w_19
      refine lv_istore (lv' := [(4, .int 0), (3, .int 1), (0, .ref ax), (1, .int 0), (2, .int p2)]) hx hb dX5_again_87 hl (by decide) rfl (fun ls hl => ?_)
      refine lv_iload hx hb dX5_again_89 (lv_at hl 0 rfl) ?_
      refine lv_if_lt (tgt := 107) hx hb dX5_again_91 (by decide) (fun c_0 => absurd c_0 (by decide)) (fun _ => ?_)
      refine lv_iload_n hx hb dX5_again_94 rfl (lv_at hl 4 rfl) ?_
      refine lv_if_ne (tgt := 102) hx hb dX5_again_95 (by decide) (fun c_21 => ?_) (fun c_21 => ?_)
      · refine lv_iload_n hx hb dX5_again_102 rfl (lv_at hl 1 rfl) ?_
        refine lv_iload hx hb dX5_again_103 (lv_at hl 0 rfl) ?_
        refine lv_isub hx hb dX5_again_105 ?_
        refine lv_ci 1 (by decide +kernel) ?_
        exact retI C0 rfl () (((if_pos c_4).trans ((if_pos rfl).trans ((if_neg c_21)))).symm) (hP.sub (ws' := []) [] rfl) (hD.sub (ws' := []) [] (by decide) rfl) hS (Nat.le_of_ble_eq_true rfl) (Nat.le_of_ble_eq_true rfl) dX5_again_106
      · refine lv_iload_n hx hb dX5_again_98 rfl (lv_at hl 1 rfl) ?_
        refine lv_goto (tgt := 106) hx hb dX5_again_99 (by decide) ?_
        exact retI C0 rfl () (((if_pos c_4).trans ((if_pos rfl).trans ((if_pos c_21)))).symm) (hP.sub (ws' := []) [] rfl) (hD.sub (ws' := []) [] (by decide) rfl) hS (Nat.le_of_ble_eq_true rfl) (Nat.le_of_ble_eq_true rfl) dX5_again_106
    · obtain rfl : r_7 = 0 := w_6.trans (if_neg c_8)
      refine lv_if_ne (tgt := 26) hx hb dX5_again_20 (by decide) (fun c_0 => absurd (by decide) c_0) (fun _ => ?_)
      refine lv_bipush (v := (-2)) hx hb dX5_again_23 (by decide) ?_
      exact retI C0 rfl () (((if_pos c_4).trans ((if_neg c_8))).symm) (hP.sub (ws' := []) [] rfl) (hD.sub (ws' := []) [] (by decide) rfl) hS (Nat.le_of_ble_eq_true rfl) (Nat.le_of_ble_eq_true rfl) dX5_again_25
  · obtain rfl : r_3 = 0 := w_2.trans (if_neg c_4)
    refine lv_if_ne (tgt := 9) hx hb dX5_again_4 (by decide) (fun c_0 => absurd (by decide) c_0) (fun _ => ?_)
    refine lv_iconst (v := (-1)) hx hb dX5_again_7 (by decide) ?_
    exact retI C0 rfl () (((if_neg c_4)).symm) (hP.sub (ws' := []) [] rfl) (hD.sub (ws' := []) [] (by decide) rfl) hS (Nat.le_of_ble_eq_true rfl) (Nat.le_of_ble_eq_true rfl) dX5_again_8

set_option maxHeartbeats 4000000 in
set_option maxRecDepth 100000 in
theorem c_comingDay (l : Launch) (D : va_G) (cI cZ cQ cT : ClassId) (sz : Nat) (ad : Nat) (af : Nat) (d1 : Nat) (d2 : Nat) (d3 : Nat) (d4 : Nat) (i5 : Int32) (i6 : Int32) (i8 : Int32) (i9 : Int32) (i11 : Int32)  : MetI l yX1_comingDay cX1_comingDay 1 .int ({ frames := 0, cells := 0, slots := 0, locals := 0 } : Room) [.ref ad] D (TYS cI cZ cQ cT) EF sz [(ad, .inr (1, [.ref af, .ref d1, .ref d2, .ref d3, .ref d4, .int i5, .int i6, .int 1, .int i8, .int i9, .int 0, .int i11]))] (S := Unit) (fun (r : Int32) (_ : Unit) => r = 0) (fun _ => [(ad, .inr (1, [.ref af, .ref d1, .ref d2, .ref d3, .ref d4, .int i5, .int i6, .int 1, .int i8, .int i9, .int 0, .int i11]))]) := by
  refine MetI.mk (lv := [(0, .ref ad)]) (by decide +kernel) (Nat.le_of_ble_eq_true rfl) rfl ?_
  intro p e s m below meth c A ls C0 hP hD hS hX hl
  have C1 := C0
  obtain ⟨hx, hb, hr, hml, hown, hlocks, hname, hT, hN, hK, hA⟩ := C1
  refine lv_aload_n hx hb dX1_comingDay_0 rfl (lv_at hl 0 rfl) ?_
  refine va_get (ci := 1) (v := .int 1) (C := RX1) (T := TX1) (N := 12) hx hb hT wu_X1 hown hK hP 0 rfl rfl 7 (by decide) (hT _ wf_X1_113) (fun _ h9 => h9) rfl dX1_comingDay_1 ?_
  refine lv_if_le (tgt := 14) hx hb dX1_comingDay_4 (by decide) (fun c_0 => absurd c_0 (by decide)) (fun _ => ?_)
  refine lv_aload_n hx hb dX1_comingDay_7 rfl (lv_at hl 0 rfl) ?_
  refine va_get (ci := 1) (v := .int 0) (C := RX1) (T := TX1) (N := 12) hx hb hT wu_X1 hown hK hP 0 rfl rfl 10 (by decide) (hT _ wf_X1_122) (fun _ h9 => h9) rfl dX1_comingDay_8 ?_
  refine lv_goto (tgt := 25) hx hb dX1_comingDay_11 (by decide) ?_
  exact retI C0 rfl () rfl (hP.sub (ws' := [(ad, .inr (1, [.ref af, .ref d1, .ref d2, .ref d3, .ref d4, .int i5, .int i6, .int 1, .int i8, .int i9, .int 0, .int i11]))]) [0] rfl) (hD.sub (ws' := [(ad, .inr (1, [.ref af, .ref d1, .ref d2, .ref d3, .ref d4, .int i5, .int i6, .int 1, .int i8, .int i9, .int 0, .int i11]))]) [0] (by decide) rfl) hS (Nat.le_of_ble_eq_true rfl) (Nat.le_of_ble_eq_true rfl) dX1_comingDay_25

set_option maxHeartbeats 4000000 in
set_option maxRecDepth 100000 in
theorem c_endMorning (l : Launch) (D : va_G) (cI cZ cQ cT : ClassId) (sz : Nat) (af : Nat) (ak : Nat) (av : Nat) (ar : Nat)  : MetV l yX2_endMorning cX2_endMorning 4 ({ frames := 0, cells := 0, slots := 0, locals := 0 } : Room) [.ref af, .int 0, .int 0] D (TYS cI cZ cQ cT) EF sz [(af, .inr (2, [.ref ak, .ref av, .ref ar, .int 0, .int 0, .int 0]))] (S := Unit) (fun (_ : Unit) => True) (fun _ => [(af, .inr (2, [.ref ak, .ref av, .ref ar, .int 0, .int 0, .int 0]))]) := by
  refine MetV.mk (lv := [(0, .ref af), (1, .int 0), (2, .int 0)]) (by decide +kernel) (Nat.le_of_ble_eq_true rfl) rfl ?_
  intro p e s m below meth c A ls C0 hP hD hS hX hl
  have C1 := C0
  obtain ⟨hx, hb, hr, hml, hown, hlocks, hname, hT, hN, hK, hA⟩ := C1
  refine lv_aload_n hx hb dX2_endMorning_0 rfl (lv_at hl 0 rfl) ?_
  refine lv_iload_n hx hb dX2_endMorning_1 rfl (lv_at hl 1 rfl) ?_
  refine va_put (ci := 2) (v := .int 0) (ty := .int) (C := RX2) (T := TX2) (N := 6) hx hb hT wu_X2 tyX2 tyX2_ok nmX2 hown hK hP hD hS 0 rfl rfl 5 (by decide) (hT _ wf_X2_40) (fun _ h9 => h9) rfl (by decide +kernel) rfl rfl (Nat.le_of_ble_eq_true rfl) dX2_endMorning_2 (fun H locs hP hD hS => ?_)
  have hP : va_P D CL [(af, .inr (2, [.ref ak, .ref av, .ref ar, .int 0, .int 0, .int 0]))] H := hP
  have hD : va_D A [(af, .inr (2, [.ref ak, .ref av, .ref ar, .int 0, .int 0, .int 0]))] := hD
  refine lv_iconst (v := 0) hx hb dX2_endMorning_5 (by decide) ?_
  refine lv_istore_n (lv' := [(3, .int 0), (0, .ref af), (1, .int 0), (2, .int 0)]) hx hb dX2_endMorning_6 rfl hl (by decide) rfl (fun ls hl => ?_)
  refine lv_iload_n hx hb dX2_endMorning_7 rfl (lv_at hl 0 rfl) ?_
  refine lv_aload_n hx hb dX2_endMorning_8 rfl (lv_at hl 1 rfl) ?_
  refine va_get (ci := 2) (v := .int 0) (C := RX2) (T := TX2) (N := 6) hx hb hT wu_X2 hown hK hP 0 rfl rfl 3 (by decide) (hT _ wf_X2_21) (fun _ h9 => h9) rfl dX2_endMorning_9 ?_
  refine lv_icmp_ge (tgt := 43) hx hb dX2_endMorning_12 (by decide) (fun _ => ?_) (fun c_0 => absurd (by decide) c_0)
  exact retV C0 () trivial (hP.sub (ws' := [(af, .inr (2, [.ref ak, .ref av, .ref ar, .int 0, .int 0, .int 0]))]) [0] rfl) (hD.sub (ws' := [(af, .inr (2, [.ref ak, .ref av, .ref ar, .int 0, .int 0, .int 0]))]) [0] (by decide) rfl) hS (Nat.le_of_ble_eq_true rfl) (Nat.le_of_ble_eq_true rfl) dX2_endMorning_43

set_option maxHeartbeats 4000000 in
set_option maxRecDepth 100000 in
theorem x_morning (l : Launch) (D : va_G) (cI cZ cQ cT : ClassId) (sz : Nat) (ax : Nat) (ah : Nat) (bh : Nat) (an : Nat) (aw : Nat) (ad : Nat) (ae : Nat) (ap : Nat) (aa : Nat) (af : Nat) (atp : Nat) (ab : Nat) (ak : Nat) (av : Nat) (ar : Nat) (d1 : Nat) (d2 : Nat) (d3 : Nat) (d4 : Nat) (n1 : Nat) (n2 : Nat) (n3 : Nat) (n4 : Nat)  : MetI l yX5_morning cX5_morning 2 .int ({ frames := 4, cells := 0, slots := 0, locals := 87 } : Room) [.ref ax] D (TYS cI cZ cQ cT) EF sz [(ax, .inr (5, [.ref ah, .ref bh, .int 0, .ref an, .ref aw, .ref ad, .ref ae, .ref ap, .ref aa])), (ah, .inr (3, [.ref af, .ref atp, .ref ab, .int 0, .int 0, .int 0])), (af, .inr (2, [.ref ak, .ref av, .ref ar, .int 0, .int 0, .int 0])), (ad, .inr (1, [.ref af, .ref d1, .ref d2, .ref d3, .ref d4, .int 0, .int 0, .int 0, .int 0, .int 0, .int 0, .int 0])), (an, .inr (4, [.ref n1, .int 0, .int 0, .ref n2, .int 0, .ref n3, .ref n4, .int 0, .int 0]))] (S := Unit) (fun (r : Int32) (_ : Unit) => r = 0) (fun _ => []) := by
  refine MetI.mk (lv := [(0, .ref ax)]) (by decide +kernel) (Nat.le_of_ble_eq_true rfl) rfl ?_
  intro p e s m below meth c A ls C0 hP hD hS hX hl
  have C1 := C0
  obtain ⟨hx, hb, hr, hml, hown, hlocks, hname, hT, hN, hK, hA⟩ := C1
  refine lv_aload_n hx hb dX5_morning_0 rfl (lv_at hl 0 rfl) ?_
  refine contV (wc := [(ax, .inr (5, [.ref ah, .ref bh, .int 0, .ref an, .ref aw, .ref ad, .ref ae, .ref ap, .ref aa])), (ah, .inr (3, [.ref af, .ref atp, .ref ab, .int 0, .int 0, .int 0])), (ad, .inr (1, [.ref af, .ref d1, .ref d2, .ref d3, .ref d4, .int 0, .int 0, .int 0, .int 0, .int 0, .int 0, .int 0])), (af, .inr (2, [.ref ak, .ref av, .ref ar, .int 0, .int 0, .int 0]))]) (wr := [(an, .inr (4, [.ref n1, .int 0, .int 0, .ref n2, .int 0, .ref n3, .ref n4, .int 0, .int 0]))]) C0 hP hD hS [0, 1, 3, 2] [4] rfl rfl (by decide) (by decide) 0 0 (Nat.le_of_ble_eq_true rfl) (Nat.le_of_ble_eq_true rfl) (runV (k := 0) (As := []) (rest := []) C0 (c_searchNow l D cI cZ cQ cT _ ax ah bh an aw ad ae ap aa af atp ab d1 d2 d3 d4 ak av ar) wc_X5_searchNow wl_X5_152 wi_X5_searchNow we_X5_searchNow wz_X5 ⟨by decide, by decide, by decide +kernel⟩ ⟨(Nat.le_of_ble_eq_true rfl), (Nat.le_of_ble_eq_true rfl)⟩ hP hD hS EF.ok hX [0, 1, 3, 2] rfl (by decide) 0 rfl rfl rfl rfl hl.1 rfl (Nat.le_of_ble_eq_true rfl) dX5_morning_1 ⟨(Nat.le_of_ble_eq_true rfl), (Nat.le_of_ble_eq_true rfl)⟩) (fun u_1 H locs w_2 hP hD hS => ?_)
  have hP : va_P D CL [(an, .inr (4, [.ref n1, .int 0, .int 0, .ref n2, .int 0, .ref n3, .ref n4, .int 0, .int 0])), (ax, .inr (5, [.ref ah, .ref bh, .int 0, .ref an, .ref aw, .ref ad, .ref ae, .ref ap, .ref aa])), (ah, .inr (3, [.ref af, .ref atp, .ref ab, .int 0, .int 0, .int 0])), (ad, .inr (1, [.ref af, .ref d1, .ref d2, .ref d3, .ref d4, .int 1, .int 1, .int 1, .int 0, .int 0, .int 0, .int 0])), (af, .inr (2, [.ref ak, .ref av, .ref ar, .int 0, .int 0, .int 0]))] H := hP
  have hD : va_D A [(an, .inr (4, [.ref n1, .int 0, .int 0, .ref n2, .int 0, .ref n3, .ref n4, .int 0, .int 0])), (ax, .inr (5, [.ref ah, .ref bh, .int 0, .ref an, .ref aw, .ref ad, .ref ae, .ref ap, .ref aa])), (ah, .inr (3, [.ref af, .ref atp, .ref ab, .int 0, .int 0, .int 0])), (ad, .inr (1, [.ref af, .ref d1, .ref d2, .ref d3, .ref d4, .int 1, .int 1, .int 1, .int 0, .int 0, .int 0, .int 0])), (af, .inr (2, [.ref ak, .ref av, .ref ar, .int 0, .int 0, .int 0]))] := hD
  refine lv_aload_n hx hb dX5_morning_4 rfl (lv_at hl 0 rfl) ?_
  refine va_get (ci := 5) (v := .ref ad) (C := RX5) (T := TX5) (N := 9) hx hb hT wu_X5 hown hK hP 1 rfl rfl 5 (by decide) (hT _ wf_X5_39) (fun _ h9 => h9) rfl dX5_morning_5 ?_
  refine contI (wc := [(ad, .inr (1, [.ref af, .ref d1, .ref d2, .ref d3, .ref d4, .int 1, .int 1, .int 1, .int 0, .int 0, .int 0, .int 0]))]) (wr := [(an, .inr (4, [.ref n1, .int 0, .int 0, .ref n2, .int 0, .ref n3, .ref n4, .int 0, .int 0])), (ax, .inr (5, [.ref ah, .ref bh, .int 0, .ref an, .ref aw, .ref ad, .ref ae, .ref ap, .ref aa])), (ah, .inr (3, [.ref af, .ref atp, .ref ab, .int 0, .int 0, .int 0])), (af, .inr (2, [.ref ak, .ref av, .ref ar, .int 0, .int 0, .int 0]))]) C0 hP hD hS [3] [0, 1, 2, 4] rfl rfl (by decide) (by decide) 0 0 (Nat.le_of_ble_eq_true rfl) (Nat.le_of_ble_eq_true rfl) (runVN (k := 0) (As := []) (rest := []) "DayKnown" 653 C0 (c_comingDay l D cI cZ cQ cT _ ad af d1 d2 d3 d4 1 1 0 0 0) wc_X1_comingDay kl_X5_179 wi_X1_comingDay we_X1_comingDay wz_X1 ⟨by decide, by decide, by decide +kernel⟩ ⟨(Nat.le_of_ble_eq_true rfl), (Nat.le_of_ble_eq_true rfl)⟩ hP hD hS EF.ok hX [3] rfl (by decide) 3 rfl rfl rfl rfl hl.1 rfl (Nat.le_of_ble_eq_true rfl) dX5_morning_8 ⟨(Nat.le_of_ble_eq_true rfl), (Nat.le_of_ble_eq_true rfl)⟩) (fun r_6 u_4 H locs w_5 hP hD hS => ?_)
  have hP : va_P D CL [(an, .inr (4, [.ref n1, .int 0, .int 0, .ref n2, .int 0, .ref n3, .ref n4, .int 0, .int 0])), (ax, .inr (5, [.ref ah, .ref bh, .int 0, .ref an, .ref aw, .ref ad, .ref ae, .ref ap, .ref aa])), (ah, .inr (3, [.ref af, .ref atp, .ref ab, .int 0, .int 0, .int 0])), (af, .inr (2, [.ref ak, .ref av, .ref ar, .int 0, .int 0, .int 0])), (ad, .inr (1, [.ref af, .ref d1, .ref d2, .ref d3, .ref d4, .int 1, .int 1, .int 1, .int 0, .int 0, .int 0, .int 0]))] H := hP
  have hD : va_D A [(an, .inr (4, [.ref n1, .int 0, .int 0, .ref n2, .int 0, .ref n3, .ref n4, .int 0, .int 0])), (ax, .inr (5, [.ref ah, .ref bh, .int 0, .ref an, .ref aw, .ref ad, .ref ae, .ref ap, .ref aa])), (ah, .inr (3, [.ref af, .ref atp, .ref ab, .int 0, .int 0, .int 0])), (af, .inr (2, [.ref ak, .ref av, .ref ar, .int 0, .int 0, .int 0])), (ad, .inr (1, [.ref af, .ref d1, .ref d2, .ref d3, .ref d4, .int 1, .int 1, .int 1, .int 0, .int 0, .int 0, .int 0]))] := hD
  obtain rfl : r_6 = 0 := w_5
  refine lv_istore_n (lv' := [(1, .int 0), (0, .ref ax)]) hx hb dX5_morning_11 rfl hl (by decide) rfl (fun ls hl => ?_)
  refine lv_aload_n hx hb dX5_morning_12 rfl (lv_at hl 1 rfl) ?_
  refine va_get (ci := 5) (v := .ref ah) (C := RX5) (T := TX5) (N := 9) hx hb hT wu_X5 hown hK hP 1 rfl rfl 0 (by decide) (hT _ wf_X5_12) (fun _ h9 => h9) rfl dX5_morning_13 ?_
  refine va_getN (ci := 3) (v := .ref af) (C := RX3) (T := TX3) (N := 6) hx hb hT wu_X3 hown hK hP 2 rfl rfl 0 (by decide) (va_Nw.use rfl (hN.get 167 kf_X5_32 rfl)) (fun _ h9 => h9) rfl dX5_morning_16 ?_
  refine lv_iload_n hx hb dX5_morning_19 rfl (lv_at hl 0 rfl) ?_
  refine lv_aload_n hx hb dX5_morning_20 rfl (lv_at hl 1 rfl) ?_
  refine contR (wc := [(ax, .inr (5, [.ref ah, .ref bh, .int 0, .ref an, .ref aw, .ref ad, .ref ae, .ref ap, .ref aa])), (ah, .inr (3, [.ref af, .ref atp, .ref ab, .int 0, .int 0, .int 0]))]) (wr := [(an, .inr (4, [.ref n1, .int 0, .int 0, .ref n2, .int 0, .ref n3, .ref n4, .int 0, .int 0])), (af, .inr (2, [.ref ak, .ref av, .ref ar, .int 0, .int 0, .int 0])), (ad, .inr (1, [.ref af, .ref d1, .ref d2, .ref d3, .ref d4, .int 1, .int 1, .int 1, .int 0, .int 0, .int 0, .int 0]))]) C0 hP hD hS [1, 2] [0, 3, 4] rfl rfl (by decide) (by decide) 0 0 (Nat.le_of_ble_eq_true rfl) (Nat.le_of_ble_eq_true rfl) (runV (k := 0) (As := []) (rest := [.int 0, .ref af]) C0 (c_newestTown l D cI cZ cQ cT _ ax ah bh an aw ad ae ap aa af atp ab) wc_X5_newestTown wl_X5_76 wi_X5_newestTown we_X5_newestTown wz_X5 ⟨by decide, by decide, by decide +kernel⟩ ⟨(Nat.le_of_ble_eq_true rfl), (Nat.le_of_ble_eq_true rfl)⟩ hP hD hS EF.ok hX [1, 2] rfl (by decide) 1 rfl rfl rfl rfl hl.1 rfl (Nat.le_of_ble_eq_true rfl) dX5_morning_21 ⟨(Nat.le_of_ble_eq_true rfl), (Nat.le_of_ble_eq_true rfl)⟩) (fun u_7 H locs w_8 hP hD hS => ?_)
  have hP : va_P D CL [(an, .inr (4, [.ref n1, .int 0, .int 0, .ref n2, .int 0, .ref n3, .ref n4, .int 0, .int 0])), (af, .inr (2, [.ref ak, .ref av, .ref ar, .int 0, .int 0, .int 0])), (ad, .inr (1, [.ref af, .ref d1, .ref d2, .ref d3, .ref d4, .int 1, .int 1, .int 1, .int 0, .int 0, .int 0, .int 0])), (ax, .inr (5, [.ref ah, .ref bh, .int 0, .ref an, .ref aw, .ref ad, .ref ae, .ref ap, .ref aa])), (ah, .inr (3, [.ref af, .ref atp, .ref ab, .int 0, .int 0, .int 0]))] H := hP
  have hD : va_D A [(an, .inr (4, [.ref n1, .int 0, .int 0, .ref n2, .int 0, .ref n3, .ref n4, .int 0, .int 0])), (af, .inr (2, [.ref ak, .ref av, .ref ar, .int 0, .int 0, .int 0])), (ad, .inr (1, [.ref af, .ref d1, .ref d2, .ref d3, .ref d4, .int 1, .int 1, .int 1, .int 0, .int 0, .int 0, .int 0])), (ax, .inr (5, [.ref ah, .ref bh, .int 0, .ref an, .ref aw, .ref ad, .ref ae, .ref ap, .ref aa])), (ah, .inr (3, [.ref af, .ref atp, .ref ab, .int 0, .int 0, .int 0]))] := hD
  refine va_getN (ci := 4) (v := .int 0) (C := RX4) (T := TX4) (N := 9) hx hb hT wu_X4 hown hK hP 0 rfl rfl 8 (by decide) (va_Nw.use rfl (hN.get 206 kf_X5_80 rfl)) (fun _ h9 => h9) rfl dX5_morning_24 ?_
  refine contV (wc := [(af, .inr (2, [.ref ak, .ref av, .ref ar, .int 0, .int 0, .int 0]))]) (wr := [(an, .inr (4, [.ref n1, .int 0, .int 0, .ref n2, .int 0, .ref n3, .ref n4, .int 0, .int 0])), (ad, .inr (1, [.ref af, .ref d1, .ref d2, .ref d3, .ref d4, .int 1, .int 1, .int 1, .int 0, .int 0, .int 0, .int 0])), (ax, .inr (5, [.ref ah, .ref bh, .int 0, .ref an, .ref aw, .ref ad, .ref ae, .ref ap, .ref aa])), (ah, .inr (3, [.ref af, .ref atp, .ref ab, .int 0, .int 0, .int 0]))]) C0 hP hD hS [1] [0, 2, 3, 4] rfl rfl (by decide) (by decide) 0 0 (Nat.le_of_ble_eq_true rfl) (Nat.le_of_ble_eq_true rfl) (runVN (k := 2) (As := [.int 0, .int 0]) (rest := []) "DayKnown" 658 C0 (c_endMorning l D cI cZ cQ cT _ af ak av ar) wc_X2_endMorning kl_X5_183 wi_X2_endMorning we_X2_endMorning wz_X2 ⟨by decide, by decide, by decide +kernel⟩ ⟨(Nat.le_of_ble_eq_true rfl), (Nat.le_of_ble_eq_true rfl)⟩ hP hD hS EF.ok hX [1] rfl (by decide) 1 rfl rfl rfl rfl hl.1 rfl (Nat.le_of_ble_eq_true rfl) dX5_morning_27 ⟨(Nat.le_of_ble_eq_true rfl), (Nat.le_of_ble_eq_true rfl)⟩) (fun u_10 H locs w_11 hP hD hS => ?_)
  have hP : va_P D CL [(an, .inr (4, [.ref n1, .int 0, .int 0, .ref n2, .int 0, .ref n3, .ref n4, .int 0, .int 0])), (ad, .inr (1, [.ref af, .ref d1, .ref d2, .ref d3, .ref d4, .int 1, .int 1, .int 1, .int 0, .int 0, .int 0, .int 0])), (ax, .inr (5, [.ref ah, .ref bh, .int 0, .ref an, .ref aw, .ref ad, .ref ae, .ref ap, .ref aa])), (ah, .inr (3, [.ref af, .ref atp, .ref ab, .int 0, .int 0, .int 0])), (af, .inr (2, [.ref ak, .ref av, .ref ar, .int 0, .int 0, .int 0]))] H := hP
  have hD : va_D A [(an, .inr (4, [.ref n1, .int 0, .int 0, .ref n2, .int 0, .ref n3, .ref n4, .int 0, .int 0])), (ad, .inr (1, [.ref af, .ref d1, .ref d2, .ref d3, .ref d4, .int 1, .int 1, .int 1, .int 0, .int 0, .int 0, .int 0])), (ax, .inr (5, [.ref ah, .ref bh, .int 0, .ref an, .ref aw, .ref ad, .ref ae, .ref ap, .ref aa])), (ah, .inr (3, [.ref af, .ref atp, .ref ab, .int 0, .int 0, .int 0])), (af, .inr (2, [.ref ak, .ref av, .ref ar, .int 0, .int 0, .int 0]))] := hD
  refine lv_aload_n hx hb dX5_morning_30 rfl (lv_at hl 1 rfl) ?_
  refine va_get (ci := 5) (v := .ref ad) (C := RX5) (T := TX5) (N := 9) hx hb hT wu_X5 hown hK hP 2 rfl rfl 5 (by decide) (hT _ wf_X5_39) (fun _ h9 => h9) rfl dX5_morning_31 ?_
  refine contV (wc := [(ad, .inr (1, [.ref af, .ref d1, .ref d2, .ref d3, .ref d4, .int 1, .int 1, .int 1, .int 0, .int 0, .int 0, .int 0]))]) (wr := [(an, .inr (4, [.ref n1, .int 0, .int 0, .ref n2, .int 0, .ref n3, .ref n4, .int 0, .int 0])), (ax, .inr (5, [.ref ah, .ref bh, .int 0, .ref an, .ref aw, .ref ad, .ref ae, .ref ap, .ref aa])), (ah, .inr (3, [.ref af, .ref atp, .ref ab, .int 0, .int 0, .int 0])), (af, .inr (2, [.ref ak, .ref av, .ref ar, .int 0, .int 0, .int 0]))]) C0 hP hD hS [1] [0, 2, 3, 4] rfl rfl (by decide) (by decide) 0 0 (Nat.le_of_ble_eq_true rfl) (Nat.le_of_ble_eq_true rfl) (runVN (k := 0) (As := []) (rest := []) "DayKnown" 488 C0 (c_forget l D cI cZ cQ cT _ ad af d1 d2 d3 d4 1 1 1 0 0 0 0) wc_X1_forget kl_X5_93 wi_X1_forget we_X1_forget wz_X1 ⟨by decide, by decide, by decide +kernel⟩ ⟨(Nat.le_of_ble_eq_true rfl), (Nat.le_of_ble_eq_true rfl)⟩ hP hD hS EF.ok hX [1] rfl (by decide) 1 rfl rfl rfl rfl hl.1 rfl (Nat.le_of_ble_eq_true rfl) dX5_morning_34 ⟨(Nat.le_of_ble_eq_true rfl), (Nat.le_of_ble_eq_true rfl)⟩) (fun u_13 H locs w_14 hP hD hS => ?_)
  have hP : va_P D CL [(an, .inr (4, [.ref n1, .int 0, .int 0, .ref n2, .int 0, .ref n3, .ref n4, .int 0, .int 0])), (ax, .inr (5, [.ref ah, .ref bh, .int 0, .ref an, .ref aw, .ref ad, .ref ae, .ref ap, .ref aa])), (ah, .inr (3, [.ref af, .ref atp, .ref ab, .int 0, .int 0, .int 0])), (af, .inr (2, [.ref ak, .ref av, .ref ar, .int 0, .int 0, .int 0])), (ad, .inr (1, [.ref af, .ref d1, .ref d2, .ref d3, .ref d4, .int 0, .int 0, .int 1, .int 0, .int 0, .int 0, .int 0]))] H := hP
  have hD : va_D A [(an, .inr (4, [.ref n1, .int 0, .int 0, .ref n2, .int 0, .ref n3, .ref n4, .int 0, .int 0])), (ax, .inr (5, [.ref ah, .ref bh, .int 0, .ref an, .ref aw, .ref ad, .ref ae, .ref ap, .ref aa])), (ah, .inr (3, [.ref af, .ref atp, .ref ab, .int 0, .int 0, .int 0])), (af, .inr (2, [.ref ak, .ref av, .ref ar, .int 0, .int 0, .int 0])), (ad, .inr (1, [.ref af, .ref d1, .ref d2, .ref d3, .ref d4, .int 0, .int 0, .int 1, .int 0, .int 0, .int 0, .int 0]))] := hD
  refine lv_iload_n hx hb dX5_morning_37 rfl (lv_at hl 0 rfl) ?_
  exact retI C0 rfl () rfl (hP.sub (ws' := []) [] rfl) (hD.sub (ws' := []) [] (by decide) rfl) hS (Nat.le_of_ble_eq_true rfl) (Nat.le_of_ble_eq_true rfl) dX5_morning_38

set_option maxHeartbeats 4000000 in
set_option maxRecDepth 100000 in
theorem c_become (l : Launch) (D : va_G) (cI cZ cQ cT : ClassId) (sz : Nat) (ef : Nat) (af : Nat) (ek : Nat) (ev : Nat) (er : Nat) (p0 : Int32) (n0 : Int32) (y0 : Int32) (jk : Nat → Int32) (jv : Nat → Int32) (jr : Nat → Int32) (ak : Nat) (av : Nat) (ar : Nat) (fk : Nat → Int32) (fv : Nat → Int32) (fr : Nat → Int32)  : MetV l yX2_become cX2_become 2 ({ frames := 1, cells := 0, slots := 0, locals := 80 } : Room) [.ref ef, .ref af] D (TYS cI cZ cQ cT) EF sz [(ef, .inr (2, [.ref ek, .ref ev, .ref er, .int p0, .int n0, .int y0])), (ek, .inl (cI, 4, .inl jk)), (ev, .inl (cI, 4, .inl jv)), (er, .inl (cI, 4, .inl jr)), (af, .inr (2, [.ref ak, .ref av, .ref ar, .int 0, .int 0, .int 0])), (ak, .inl (cI, 4, .inl fk)), (av, .inl (cI, 4, .inl fv)), (ar, .inl (cI, 4, .inl fr))] (S := (Nat → Int32) × (Nat → Int32) × (Nat → Int32)) (fun (_ : (Nat → Int32) × (Nat → Int32) × (Nat → Int32)) => True) (fun u => [(ef, .inr (2, [.ref ek, .ref ev, .ref er, .int 0, .int 0, .int 0])), (ek, .inl (cI, 4, .inl u.1)), (ev, .inl (cI, 4, .inl u.2.1)), (er, .inl (cI, 4, .inl u.2.2)), (af, .inr (2, [.ref ak, .ref av, .ref ar, .int 0, .int 0, .int 0])), (ak, .inl (cI, 4, .inl fk)), (av, .inl (cI, 4, .inl fv)), (ar, .inl (cI, 4, .inl fr))]) := by
  refine MetV.mk (lv := [(0, .ref ef), (1, .ref af)]) (by decide +kernel) (Nat.le_of_ble_eq_true rfl) rfl ?_
  intro p e s m below meth c A ls C0 hP hD hS hX hl
  have C1 := C0
  obtain ⟨hx, hb, hr, hml, hown, hlocks, hname, hT, hN, hK, hA⟩ := C1
  refine lv_aload_n hx hb dX2_become_0 rfl (lv_at hl 1 rfl) ?_
  refine va_get (ci := 2) (v := .ref ak) (C := RX2) (T := TX2) (N := 6) hx hb hT wu_X2 hown hK hP 4 rfl rfl 0 (by decide) (hT _ wf_X2_9) (fun _ h9 => h9) rfl dX2_become_1 ?_
  refine lv_iconst (v := 0) hx hb dX2_become_4 (by decide) ?_
  refine lv_aload_n hx hb dX2_become_5 rfl (lv_at hl 0 rfl) ?_
  refine va_get (ci := 2) (v := .ref ek) (C := RX2) (T := TX2) (N := 6) hx hb hT wu_X2 hown hK hP 0 rfl rfl 0 (by decide) (hT _ wf_X2_9) (fun _ h9 => h9) rfl dX2_become_6 ?_
  refine lv_iconst (v := 0) hx hb dX2_become_9 (by decide) ?_
  refine lv_iconst (v := 4) hx hb dX2_become_10 (by decide) ?_
  refine va_copyi (ty := .int) hx hb (hml.trans hl.1.symm) hown (hT _ wl_X2_53) (hT _ wnat_arraycopy) (hT _ wt_arraycopy) (hT _ wz_J10) hK hP hD hS 5 1 0 0 rfl rfl rfl rfl rfl (by decide +kernel) (by decide +kernel) (by decide +kernel) (by decide +kernel) (by decide +kernel) (fun _ _ => rfl) (Nat.le_of_ble_eq_true rfl) (Nat.le_of_ble_eq_true rfl) dX2_become_11 (fun H locs hP hD hS => ?_)
  have hP : va_P D CL [(ef, .inr (2, [.ref ek, .ref ev, .ref er, .int p0, .int n0, .int y0])), (ek, .inl (cI, 4, .inl (va_cpy fk jk ((0 : Int32)).toNatClampNeg ((0 : Int32)).toNatClampNeg ((4 : Int32)).toNatClampNeg))), (ev, .inl (cI, 4, .inl jv)), (er, .inl (cI, 4, .inl jr)), (af, .inr (2, [.ref ak, .ref av, .ref ar, .int 0, .int 0, .int 0])), (ak, .inl (cI, 4, .inl fk)), (av, .inl (cI, 4, .inl fv)), (ar, .inl (cI, 4, .inl fr))] H := hP
  have hD : va_D A [(ef, .inr (2, [.ref ek, .ref ev, .ref er, .int p0, .int n0, .int y0])), (ek, .inl (cI, 4, .inl (va_cpy fk jk ((0 : Int32)).toNatClampNeg ((0 : Int32)).toNatClampNeg ((4 : Int32)).toNatClampNeg))), (ev, .inl (cI, 4, .inl jv)), (er, .inl (cI, 4, .inl jr)), (af, .inr (2, [.ref ak, .ref av, .ref ar, .int 0, .int 0, .int 0])), (ak, .inl (cI, 4, .inl fk)), (av, .inl (cI, 4, .inl fv)), (ar, .inl (cI, 4, .inl fr))] := hD
  refine lv_aload_n hx hb dX2_become_14 rfl (lv_at hl 1 rfl) ?_
  refine va_get (ci := 2) (v := .ref av) (C := RX2) (T := TX2) (N := 6) hx hb hT wu_X2 hown hK hP 4 rfl rfl 1 (by decide) (hT _ wf_X2_15) (fun _ h9 => h9) rfl dX2_become_15 ?_
  refine lv_iconst (v := 0) hx hb dX2_become_18 (by decide) ?_
  refine lv_aload_n hx hb dX2_become_19 rfl (lv_at hl 0 rfl) ?_
  refine va_get (ci := 2) (v := .ref ev) (C := RX2) (T := TX2) (N := 6) hx hb hT wu_X2 hown hK hP 0 rfl rfl 1 (by decide) (hT _ wf_X2_15) (fun _ h9 => h9) rfl dX2_become_20 ?_
  refine lv_iconst (v := 0) hx hb dX2_become_23 (by decide) ?_
  refine lv_iconst (v := 4) hx hb dX2_become_24 (by decide) ?_
  refine va_copyi (ty := .int) hx hb (hml.trans hl.1.symm) hown (hT _ wl_X2_53) (hT _ wnat_arraycopy) (hT _ wt_arraycopy) (hT _ wz_J10) hK hP hD hS 6 2 0 0 rfl rfl rfl rfl rfl (by decide +kernel) (by decide +kernel) (by decide +kernel) (by decide +kernel) (by decide +kernel) (fun _ _ => rfl) (Nat.le_of_ble_eq_true rfl) (Nat.le_of_ble_eq_true rfl) dX2_become_25 (fun H locs hP hD hS => ?_)
  have hP : va_P D CL [(ef, .inr (2, [.ref ek, .ref ev, .ref er, .int p0, .int n0, .int y0])), (ek, .inl (cI, 4, .inl (va_cpy fk jk ((0 : Int32)).toNatClampNeg ((0 : Int32)).toNatClampNeg ((4 : Int32)).toNatClampNeg))), (ev, .inl (cI, 4, .inl (va_cpy fv jv ((0 : Int32)).toNatClampNeg ((0 : Int32)).toNatClampNeg ((4 : Int32)).toNatClampNeg))), (er, .inl (cI, 4, .inl jr)), (af, .inr (2, [.ref ak, .ref av, .ref ar, .int 0, .int 0, .int 0])), (ak, .inl (cI, 4, .inl fk)), (av, .inl (cI, 4, .inl fv)), (ar, .inl (cI, 4, .inl fr))] H := hP
  have hD : va_D A [(ef, .inr (2, [.ref ek, .ref ev, .ref er, .int p0, .int n0, .int y0])), (ek, .inl (cI, 4, .inl (va_cpy fk jk ((0 : Int32)).toNatClampNeg ((0 : Int32)).toNatClampNeg ((4 : Int32)).toNatClampNeg))), (ev, .inl (cI, 4, .inl (va_cpy fv jv ((0 : Int32)).toNatClampNeg ((0 : Int32)).toNatClampNeg ((4 : Int32)).toNatClampNeg))), (er, .inl (cI, 4, .inl jr)), (af, .inr (2, [.ref ak, .ref av, .ref ar, .int 0, .int 0, .int 0])), (ak, .inl (cI, 4, .inl fk)), (av, .inl (cI, 4, .inl fv)), (ar, .inl (cI, 4, .inl fr))] := hD
  refine lv_aload_n hx hb dX2_become_28 rfl (lv_at hl 1 rfl) ?_
  refine va_get (ci := 2) (v := .ref ar) (C := RX2) (T := TX2) (N := 6) hx hb hT wu_X2 hown hK hP 4 rfl rfl 2 (by decide) (hT _ wf_X2_18) (fun _ h9 => h9) rfl dX2_become_29 ?_
  refine lv_iconst (v := 0) hx hb dX2_become_32 (by decide) ?_
  refine lv_aload_n hx hb dX2_become_33 rfl (lv_at hl 0 rfl) ?_
  refine va_get (ci := 2) (v := .ref er) (C := RX2) (T := TX2) (N := 6) hx hb hT wu_X2 hown hK hP 0 rfl rfl 2 (by decide) (hT _ wf_X2_18) (fun _ h9 => h9) rfl dX2_become_34 ?_
  refine lv_iconst (v := 0) hx hb dX2_become_37 (by decide) ?_
  refine lv_iconst (v := 4) hx hb dX2_become_38 (by decide) ?_
  refine va_copyi (ty := .int) hx hb (hml.trans hl.1.symm) hown (hT _ wl_X2_53) (hT _ wnat_arraycopy) (hT _ wt_arraycopy) (hT _ wz_J10) hK hP hD hS 7 3 0 0 rfl rfl rfl rfl rfl (by decide +kernel) (by decide +kernel) (by decide +kernel) (by decide +kernel) (by decide +kernel) (fun _ _ => rfl) (Nat.le_of_ble_eq_true rfl) (Nat.le_of_ble_eq_true rfl) dX2_become_39 (fun H locs hP hD hS => ?_)
  have hP : va_P D CL [(ef, .inr (2, [.ref ek, .ref ev, .ref er, .int p0, .int n0, .int y0])), (ek, .inl (cI, 4, .inl (va_cpy fk jk ((0 : Int32)).toNatClampNeg ((0 : Int32)).toNatClampNeg ((4 : Int32)).toNatClampNeg))), (ev, .inl (cI, 4, .inl (va_cpy fv jv ((0 : Int32)).toNatClampNeg ((0 : Int32)).toNatClampNeg ((4 : Int32)).toNatClampNeg))), (er, .inl (cI, 4, .inl (va_cpy fr jr ((0 : Int32)).toNatClampNeg ((0 : Int32)).toNatClampNeg ((4 : Int32)).toNatClampNeg))), (af, .inr (2, [.ref ak, .ref av, .ref ar, .int 0, .int 0, .int 0])), (ak, .inl (cI, 4, .inl fk)), (av, .inl (cI, 4, .inl fv)), (ar, .inl (cI, 4, .inl fr))] H := hP
  have hD : va_D A [(ef, .inr (2, [.ref ek, .ref ev, .ref er, .int p0, .int n0, .int y0])), (ek, .inl (cI, 4, .inl (va_cpy fk jk ((0 : Int32)).toNatClampNeg ((0 : Int32)).toNatClampNeg ((4 : Int32)).toNatClampNeg))), (ev, .inl (cI, 4, .inl (va_cpy fv jv ((0 : Int32)).toNatClampNeg ((0 : Int32)).toNatClampNeg ((4 : Int32)).toNatClampNeg))), (er, .inl (cI, 4, .inl (va_cpy fr jr ((0 : Int32)).toNatClampNeg ((0 : Int32)).toNatClampNeg ((4 : Int32)).toNatClampNeg))), (af, .inr (2, [.ref ak, .ref av, .ref ar, .int 0, .int 0, .int 0])), (ak, .inl (cI, 4, .inl fk)), (av, .inl (cI, 4, .inl fv)), (ar, .inl (cI, 4, .inl fr))] := hD
  refine lv_aload_n hx hb dX2_become_42 rfl (lv_at hl 0 rfl) ?_
  refine lv_aload_n hx hb dX2_become_43 rfl (lv_at hl 1 rfl) ?_
  refine va_get (ci := 2) (v := .int 0) (C := RX2) (T := TX2) (N := 6) hx hb hT wu_X2 hown hK hP 4 rfl rfl 3 (by decide) (hT _ wf_X2_21) (fun _ h9 => h9) rfl dX2_become_44 ?_
  refine va_put (ci := 2) (v := .int 0) (ty := .int) (C := RX2) (T := TX2) (N := 6) hx hb hT wu_X2 tyX2 tyX2_ok nmX2 hown hK hP hD hS 0 rfl rfl 3 (by decide) (hT _ wf_X2_21) (fun _ h9 => h9) rfl (by decide +kernel) rfl rfl (Nat.le_of_ble_eq_true rfl) dX2_become_47 (fun H locs hP hD hS => ?_)
  have hP : va_P D CL [(ef, .inr (2, [.ref ek, .ref ev, .ref er, .int 0, .int n0, .int y0])), (ek, .inl (cI, 4, .inl (va_cpy fk jk ((0 : Int32)).toNatClampNeg ((0 : Int32)).toNatClampNeg ((4 : Int32)).toNatClampNeg))), (ev, .inl (cI, 4, .inl (va_cpy fv jv ((0 : Int32)).toNatClampNeg ((0 : Int32)).toNatClampNeg ((4 : Int32)).toNatClampNeg))), (er, .inl (cI, 4, .inl (va_cpy fr jr ((0 : Int32)).toNatClampNeg ((0 : Int32)).toNatClampNeg ((4 : Int32)).toNatClampNeg))), (af, .inr (2, [.ref ak, .ref av, .ref ar, .int 0, .int 0, .int 0])), (ak, .inl (cI, 4, .inl fk)), (av, .inl (cI, 4, .inl fv)), (ar, .inl (cI, 4, .inl fr))] H := hP
  have hD : va_D A [(ef, .inr (2, [.ref ek, .ref ev, .ref er, .int 0, .int n0, .int y0])), (ek, .inl (cI, 4, .inl (va_cpy fk jk ((0 : Int32)).toNatClampNeg ((0 : Int32)).toNatClampNeg ((4 : Int32)).toNatClampNeg))), (ev, .inl (cI, 4, .inl (va_cpy fv jv ((0 : Int32)).toNatClampNeg ((0 : Int32)).toNatClampNeg ((4 : Int32)).toNatClampNeg))), (er, .inl (cI, 4, .inl (va_cpy fr jr ((0 : Int32)).toNatClampNeg ((0 : Int32)).toNatClampNeg ((4 : Int32)).toNatClampNeg))), (af, .inr (2, [.ref ak, .ref av, .ref ar, .int 0, .int 0, .int 0])), (ak, .inl (cI, 4, .inl fk)), (av, .inl (cI, 4, .inl fv)), (ar, .inl (cI, 4, .inl fr))] := hD
  refine lv_aload_n hx hb dX2_become_50 rfl (lv_at hl 0 rfl) ?_
  refine lv_aload_n hx hb dX2_become_51 rfl (lv_at hl 1 rfl) ?_
  refine va_get (ci := 2) (v := .int 0) (C := RX2) (T := TX2) (N := 6) hx hb hT wu_X2 hown hK hP 4 rfl rfl 4 (by decide) (hT _ wf_X2_33) (fun _ h9 => h9) rfl dX2_become_52 ?_
  refine va_put (ci := 2) (v := .int 0) (ty := .int) (C := RX2) (T := TX2) (N := 6) hx hb hT wu_X2 tyX2 tyX2_ok nmX2 hown hK hP hD hS 0 rfl rfl 4 (by decide) (hT _ wf_X2_33) (fun _ h9 => h9) rfl (by decide +kernel) rfl rfl (Nat.le_of_ble_eq_true rfl) dX2_become_55 (fun H locs hP hD hS => ?_)
  have hP : va_P D CL [(ef, .inr (2, [.ref ek, .ref ev, .ref er, .int 0, .int 0, .int y0])), (ek, .inl (cI, 4, .inl (va_cpy fk jk ((0 : Int32)).toNatClampNeg ((0 : Int32)).toNatClampNeg ((4 : Int32)).toNatClampNeg))), (ev, .inl (cI, 4, .inl (va_cpy fv jv ((0 : Int32)).toNatClampNeg ((0 : Int32)).toNatClampNeg ((4 : Int32)).toNatClampNeg))), (er, .inl (cI, 4, .inl (va_cpy fr jr ((0 : Int32)).toNatClampNeg ((0 : Int32)).toNatClampNeg ((4 : Int32)).toNatClampNeg))), (af, .inr (2, [.ref ak, .ref av, .ref ar, .int 0, .int 0, .int 0])), (ak, .inl (cI, 4, .inl fk)), (av, .inl (cI, 4, .inl fv)), (ar, .inl (cI, 4, .inl fr))] H := hP
  have hD : va_D A [(ef, .inr (2, [.ref ek, .ref ev, .ref er, .int 0, .int 0, .int y0])), (ek, .inl (cI, 4, .inl (va_cpy fk jk ((0 : Int32)).toNatClampNeg ((0 : Int32)).toNatClampNeg ((4 : Int32)).toNatClampNeg))), (ev, .inl (cI, 4, .inl (va_cpy fv jv ((0 : Int32)).toNatClampNeg ((0 : Int32)).toNatClampNeg ((4 : Int32)).toNatClampNeg))), (er, .inl (cI, 4, .inl (va_cpy fr jr ((0 : Int32)).toNatClampNeg ((0 : Int32)).toNatClampNeg ((4 : Int32)).toNatClampNeg))), (af, .inr (2, [.ref ak, .ref av, .ref ar, .int 0, .int 0, .int 0])), (ak, .inl (cI, 4, .inl fk)), (av, .inl (cI, 4, .inl fv)), (ar, .inl (cI, 4, .inl fr))] := hD
  refine lv_aload_n hx hb dX2_become_58 rfl (lv_at hl 0 rfl) ?_
  refine lv_aload_n hx hb dX2_become_59 rfl (lv_at hl 1 rfl) ?_
  refine va_get (ci := 2) (v := .int 0) (C := RX2) (T := TX2) (N := 6) hx hb hT wu_X2 hown hK hP 4 rfl rfl 5 (by decide) (hT _ wf_X2_40) (fun _ h9 => h9) rfl dX2_become_60 ?_
  refine va_put (ci := 2) (v := .int 0) (ty := .int) (C := RX2) (T := TX2) (N := 6) hx hb hT wu_X2 tyX2 tyX2_ok nmX2 hown hK hP hD hS 0 rfl rfl 5 (by decide) (hT _ wf_X2_40) (fun _ h9 => h9) rfl (by decide +kernel) rfl rfl (Nat.le_of_ble_eq_true rfl) dX2_become_63 (fun H locs hP hD hS => ?_)
  have hP : va_P D CL [(ef, .inr (2, [.ref ek, .ref ev, .ref er, .int 0, .int 0, .int 0])), (ek, .inl (cI, 4, .inl (va_cpy fk jk ((0 : Int32)).toNatClampNeg ((0 : Int32)).toNatClampNeg ((4 : Int32)).toNatClampNeg))), (ev, .inl (cI, 4, .inl (va_cpy fv jv ((0 : Int32)).toNatClampNeg ((0 : Int32)).toNatClampNeg ((4 : Int32)).toNatClampNeg))), (er, .inl (cI, 4, .inl (va_cpy fr jr ((0 : Int32)).toNatClampNeg ((0 : Int32)).toNatClampNeg ((4 : Int32)).toNatClampNeg))), (af, .inr (2, [.ref ak, .ref av, .ref ar, .int 0, .int 0, .int 0])), (ak, .inl (cI, 4, .inl fk)), (av, .inl (cI, 4, .inl fv)), (ar, .inl (cI, 4, .inl fr))] H := hP
  have hD : va_D A [(ef, .inr (2, [.ref ek, .ref ev, .ref er, .int 0, .int 0, .int 0])), (ek, .inl (cI, 4, .inl (va_cpy fk jk ((0 : Int32)).toNatClampNeg ((0 : Int32)).toNatClampNeg ((4 : Int32)).toNatClampNeg))), (ev, .inl (cI, 4, .inl (va_cpy fv jv ((0 : Int32)).toNatClampNeg ((0 : Int32)).toNatClampNeg ((4 : Int32)).toNatClampNeg))), (er, .inl (cI, 4, .inl (va_cpy fr jr ((0 : Int32)).toNatClampNeg ((0 : Int32)).toNatClampNeg ((4 : Int32)).toNatClampNeg))), (af, .inr (2, [.ref ak, .ref av, .ref ar, .int 0, .int 0, .int 0])), (ak, .inl (cI, 4, .inl fk)), (av, .inl (cI, 4, .inl fv)), (ar, .inl (cI, 4, .inl fr))] := hD
  exact retV C0 ((va_cpy fk jk ((0 : Int32)).toNatClampNeg ((0 : Int32)).toNatClampNeg ((4 : Int32)).toNatClampNeg), (va_cpy fv jv ((0 : Int32)).toNatClampNeg ((0 : Int32)).toNatClampNeg ((4 : Int32)).toNatClampNeg), (va_cpy fr jr ((0 : Int32)).toNatClampNeg ((0 : Int32)).toNatClampNeg ((4 : Int32)).toNatClampNeg)) trivial (hP.sub (ws' := [(ef, .inr (2, [.ref ek, .ref ev, .ref er, .int 0, .int 0, .int 0])), (ek, .inl (cI, 4, .inl (va_cpy fk jk ((0 : Int32)).toNatClampNeg ((0 : Int32)).toNatClampNeg ((4 : Int32)).toNatClampNeg))), (ev, .inl (cI, 4, .inl (va_cpy fv jv ((0 : Int32)).toNatClampNeg ((0 : Int32)).toNatClampNeg ((4 : Int32)).toNatClampNeg))), (er, .inl (cI, 4, .inl (va_cpy fr jr ((0 : Int32)).toNatClampNeg ((0 : Int32)).toNatClampNeg ((4 : Int32)).toNatClampNeg))), (af, .inr (2, [.ref ak, .ref av, .ref ar, .int 0, .int 0, .int 0])), (ak, .inl (cI, 4, .inl fk)), (av, .inl (cI, 4, .inl fv)), (ar, .inl (cI, 4, .inl fr))]) [0, 1, 2, 3, 4, 5, 6, 7] rfl) (hD.sub (ws' := [(ef, .inr (2, [.ref ek, .ref ev, .ref er, .int 0, .int 0, .int 0])), (ek, .inl (cI, 4, .inl (va_cpy fk jk ((0 : Int32)).toNatClampNeg ((0 : Int32)).toNatClampNeg ((4 : Int32)).toNatClampNeg))), (ev, .inl (cI, 4, .inl (va_cpy fv jv ((0 : Int32)).toNatClampNeg ((0 : Int32)).toNatClampNeg ((4 : Int32)).toNatClampNeg))), (er, .inl (cI, 4, .inl (va_cpy fr jr ((0 : Int32)).toNatClampNeg ((0 : Int32)).toNatClampNeg ((4 : Int32)).toNatClampNeg))), (af, .inr (2, [.ref ak, .ref av, .ref ar, .int 0, .int 0, .int 0])), (ak, .inl (cI, 4, .inl fk)), (av, .inl (cI, 4, .inl fv)), (ar, .inl (cI, 4, .inl fr))]) [0, 1, 2, 3, 4, 5, 6, 7] (by decide) rfl) hS (Nat.le_of_ble_eq_true rfl) (Nat.le_of_ble_eq_true rfl) dX2_become_66

set_option maxHeartbeats 4000000 in
set_option maxRecDepth 100000 in
theorem c_searchThen (l : Launch) (D : va_G) (cI cZ cQ cT : ClassId) (sz : Nat) (ax : Nat) (ah : Nat) (bh : Nat) (an : Nat) (aw : Nat) (ad : Nat) (ae : Nat) (ap : Nat) (aa : Nat) (af : Nat) (atp : Nat) (ab : Nat) (ef : Nat) (e1 : Nat) (e2 : Nat) (e3 : Nat) (e4 : Nat) (i5 : Int32) (i6 : Int32) (i7 : Int32) (i8 : Int32) (i9 : Int32) (i10 : Int32) (i11 : Int32) (ek : Nat) (ev : Nat) (er : Nat)  : MetV l yX5_searchThen cX5_searchThen 1 ({ frames := 3, cells := 0, slots := 0, locals := 67 } : Room) [.ref ax] D (TYS cI cZ cQ cT) EF sz [(ax, .inr (5, [.ref ah, .ref bh, .int 0, .ref an, .ref aw, .ref ad, .ref ae, .ref ap, .ref aa])), (ah, .inr (3, [.ref af, .ref atp, .ref ab, .int 0, .int 0, .int 0])), (ae, .inr (1, [.ref ef, .ref e1, .ref e2, .ref e3, .ref e4, .int i5, .int i6, .int i7, .int i8, .int i9, .int i10, .int i11])), (ef, .inr (2, [.ref ek, .ref ev, .ref er, .int 0, .int 0, .int 0]))] (S := Unit) (fun (_ : Unit) => True) (fun _ => [(ax, .inr (5, [.ref ah, .ref bh, .int 0, .ref an, .ref aw, .ref ad, .ref ae, .ref ap, .ref aa])), (ah, .inr (3, [.ref af, .ref atp, .ref ab, .int 0, .int 0, .int 0])), (ae, .inr (1, [.ref ef, .ref e1, .ref e2, .ref e3, .ref e4, .int 1, .int 1, .int 1, .int 0, .int 0, .int 0, .int 0])), (ef, .inr (2, [.ref ek, .ref ev, .ref er, .int 0, .int 0, .int 0]))]) := by
  refine MetV.mk (lv := [(0, .ref ax)]) (by decide +kernel) (Nat.le_of_ble_eq_true rfl) rfl ?_
  intro p e s m below meth c A ls C0 hP hD hS hX hl
  have C1 := C0
  obtain ⟨hx, hb, hr, hml, hown, hlocks, hname, hT, hN, hK, hA⟩ := C1
  refine lv_aload_n hx hb dX5_searchThen_0 rfl (lv_at hl 0 rfl) ?_
  refine va_get (ci := 5) (v := .ref ae) (C := RX5) (T := TX5) (N := 9) hx hb hT wu_X5 hown hK hP 0 rfl rfl 6 (by decide) (hT _ wf_X5_46) (fun _ h9 => h9) rfl dX5_searchThen_1 ?_
  refine contV (wc := [(ae, .inr (1, [.ref ef, .ref e1, .ref e2, .ref e3, .ref e4, .int i5, .int i6, .int i7, .int i8, .int i9, .int i10, .int i11]))]) (wr := [(ax, .inr (5, [.ref ah, .ref bh, .int 0, .ref an, .ref aw, .ref ad, .ref ae, .ref ap, .ref aa])), (ah, .inr (3, [.ref af, .ref atp, .ref ab, .int 0, .int 0, .int 0])), (ef, .inr (2, [.ref ek, .ref ev, .ref er, .int 0, .int 0, .int 0]))]) C0 hP hD hS [2] [0, 1, 3] rfl rfl (by decide) (by decide) 0 0 (Nat.le_of_ble_eq_true rfl) (Nat.le_of_ble_eq_true rfl) (runVN (k := 0) (As := []) (rest := []) "DayKnown" 488 C0 (c_forget l D cI cZ cQ cT _ ae ef e1 e2 e3 e4 i5 i6 i7 i8 i9 i10 i11) wc_X1_forget kl_X5_93 wi_X1_forget we_X1_forget wz_X1 ⟨by decide, by decide, by decide +kernel⟩ ⟨(Nat.le_of_ble_eq_true rfl), (Nat.le_of_ble_eq_true rfl)⟩ hP hD hS EF.ok hX [2] rfl (by decide) 2 rfl rfl rfl rfl hl.1 rfl (Nat.le_of_ble_eq_true rfl) dX5_searchThen_4 ⟨(Nat.le_of_ble_eq_true rfl), (Nat.le_of_ble_eq_true rfl)⟩) (fun u_1 H locs w_2 hP hD hS => ?_)
  have hP : va_P D CL [(ax, .inr (5, [.ref ah, .ref bh, .int 0, .ref an, .ref aw, .ref ad, .ref ae, .ref ap, .ref aa])), (ah, .inr (3, [.ref af, .ref atp, .ref ab, .int 0, .int 0, .int 0])), (ef, .inr (2, [.ref ek, .ref ev, .ref er, .int 0, .int 0, .int 0])), (ae, .inr (1, [.ref ef, .ref e1, .ref e2, .ref e3, .ref e4, .int 0, .int 0, .int i7, .int i8, .int i9, .int i10, .int i11]))] H := hP
  have hD : va_D A [(ax, .inr (5, [.ref ah, .ref bh, .int 0, .ref an, .ref aw, .ref ad, .ref ae, .ref ap, .ref aa])), (ah, .inr (3, [.ref af, .ref atp, .ref ab, .int 0, .int 0, .int 0])), (ef, .inr (2, [.ref ek, .ref ev, .ref er, .int 0, .int 0, .int 0])), (ae, .inr (1, [.ref ef, .ref e1, .ref e2, .ref e3, .ref e4, .int 0, .int 0, .int i7, .int i8, .int i9, .int i10, .int i11]))] := hD
  refine lv_aload_n hx hb dX5_searchThen_7 rfl (lv_at hl 0 rfl) ?_
  refine va_get (ci := 5) (v := .ref ae) (C := RX5) (T := TX5) (N := 9) hx hb hT wu_X5 hown hK hP 0 rfl rfl 6 (by decide) (hT _ wf_X5_46) (fun _ h9 => h9) rfl dX5_searchThen_8 ?_
  refine lv_aload_n hx hb dX5_searchThen_11 rfl (lv_at hl 0 rfl) ?_
  refine contR (wc := [(ax, .inr (5, [.ref ah, .ref bh, .int 0, .ref an, .ref aw, .ref ad, .ref ae, .ref ap, .ref aa])), (ah, .inr (3, [.ref af, .ref atp, .ref ab, .int 0, .int 0, .int 0]))]) (wr := [(ef, .inr (2, [.ref ek, .ref ev, .ref er, .int 0, .int 0, .int 0])), (ae, .inr (1, [.ref ef, .ref e1, .ref e2, .ref e3, .ref e4, .int 0, .int 0, .int i7, .int i8, .int i9, .int i10, .int i11]))]) C0 hP hD hS [0, 1] [2, 3] rfl rfl (by decide) (by decide) 0 0 (Nat.le_of_ble_eq_true rfl) (Nat.le_of_ble_eq_true rfl) (runV (k := 0) (As := []) (rest := [.ref ae]) C0 (c_newestTown l D cI cZ cQ cT _ ax ah bh an aw ad ae ap aa af atp ab) wc_X5_newestTown wl_X5_76 wi_X5_newestTown we_X5_newestTown wz_X5 ⟨by decide, by decide, by decide +kernel⟩ ⟨(Nat.le_of_ble_eq_true rfl), (Nat.le_of_ble_eq_true rfl)⟩ hP hD hS EF.ok hX [0, 1] rfl (by decide) 0 rfl rfl rfl rfl hl.1 rfl (Nat.le_of_ble_eq_true rfl) dX5_searchThen_12 ⟨(Nat.le_of_ble_eq_true rfl), (Nat.le_of_ble_eq_true rfl)⟩) (fun u_4 H locs w_5 hP hD hS => ?_)
  have hP : va_P D CL [(ef, .inr (2, [.ref ek, .ref ev, .ref er, .int 0, .int 0, .int 0])), (ae, .inr (1, [.ref ef, .ref e1, .ref e2, .ref e3, .ref e4, .int 0, .int 0, .int i7, .int i8, .int i9, .int i10, .int i11])), (ax, .inr (5, [.ref ah, .ref bh, .int 0, .ref an, .ref aw, .ref ad, .ref ae, .ref ap, .ref aa])), (ah, .inr (3, [.ref af, .ref atp, .ref ab, .int 0, .int 0, .int 0]))] H := hP
  have hD : va_D A [(ef, .inr (2, [.ref ek, .ref ev, .ref er, .int 0, .int 0, .int 0])), (ae, .inr (1, [.ref ef, .ref e1, .ref e2, .ref e3, .ref e4, .int 0, .int 0, .int i7, .int i8, .int i9, .int i10, .int i11])), (ax, .inr (5, [.ref ah, .ref bh, .int 0, .ref an, .ref aw, .ref ad, .ref ae, .ref ap, .ref aa])), (ah, .inr (3, [.ref af, .ref atp, .ref ab, .int 0, .int 0, .int 0]))] := hD
  refine contV (wc := [(ae, .inr (1, [.ref ef, .ref e1, .ref e2, .ref e3, .ref e4, .int 0, .int 0, .int i7, .int i8, .int i9, .int i10, .int i11])), (ef, .inr (2, [.ref ek, .ref ev, .ref er, .int 0, .int 0, .int 0]))]) (wr := [(ax, .inr (5, [.ref ah, .ref bh, .int 0, .ref an, .ref aw, .ref ad, .ref ae, .ref ap, .ref aa])), (ah, .inr (3, [.ref af, .ref atp, .ref ab, .int 0, .int 0, .int 0]))]) C0 hP hD hS [1, 0] [2, 3] rfl rfl (by decide) (by decide) 0 0 (Nat.le_of_ble_eq_true rfl) (Nat.le_of_ble_eq_true rfl) (runVN (k := 1) (As := [.ref an]) (rest := []) "DayKnown" 529 C0 (c_prepare l D cI cZ cQ cT _ ae an ef e1 e2 e3 e4 0 i7 i8 i9 i10 i11 ek ev er) wc_X1_prepare kl_X5_123 wi_X1_prepare we_X1_prepare wz_X1 ⟨by decide, by decide, by decide +kernel⟩ ⟨(Nat.le_of_ble_eq_true rfl), (Nat.le_of_ble_eq_true rfl)⟩ hP hD hS EF.ok hX [1, 0] rfl (by decide) 1 rfl rfl rfl rfl hl.1 rfl (Nat.le_of_ble_eq_true rfl) dX5_searchThen_15 ⟨(Nat.le_of_ble_eq_true rfl), (Nat.le_of_ble_eq_true rfl)⟩) (fun u_7 H locs w_8 hP hD hS => ?_)
  have hP : va_P D CL [(ax, .inr (5, [.ref ah, .ref bh, .int 0, .ref an, .ref aw, .ref ad, .ref ae, .ref ap, .ref aa])), (ah, .inr (3, [.ref af, .ref atp, .ref ab, .int 0, .int 0, .int 0])), (ae, .inr (1, [.ref ef, .ref e1, .ref e2, .ref e3, .ref e4, .int 1, .int 0, .int i7, .int i8, .int i9, .int i10, .int i11])), (ef, .inr (2, [.ref ek, .ref ev, .ref er, .int 0, .int 0, .int 0]))] H := hP
  have hD : va_D A [(ax, .inr (5, [.ref ah, .ref bh, .int 0, .ref an, .ref aw, .ref ad, .ref ae, .ref ap, .ref aa])), (ah, .inr (3, [.ref af, .ref atp, .ref ab, .int 0, .int 0, .int 0])), (ae, .inr (1, [.ref ef, .ref e1, .ref e2, .ref e3, .ref e4, .int 1, .int 0, .int i7, .int i8, .int i9, .int i10, .int i11])), (ef, .inr (2, [.ref ek, .ref ev, .ref er, .int 0, .int 0, .int 0]))] := hD
  refine lv_aload_n hx hb dX5_searchThen_18 rfl (lv_at hl 0 rfl) ?_
  refine va_get (ci := 5) (v := .ref ae) (C := RX5) (T := TX5) (N := 9) hx hb hT wu_X5 hown hK hP 0 rfl rfl 6 (by decide) (hT _ wf_X5_46) (fun _ h9 => h9) rfl dX5_searchThen_19 ?_
  refine contV (wc := [(ae, .inr (1, [.ref ef, .ref e1, .ref e2, .ref e3, .ref e4, .int 1, .int 0, .int i7, .int i8, .int i9, .int i10, .int i11])), (ef, .inr (2, [.ref ek, .ref ev, .ref er, .int 0, .int 0, .int 0]))]) (wr := [(ax, .inr (5, [.ref ah, .ref bh, .int 0, .ref an, .ref aw, .ref ad, .ref ae, .ref ap, .ref aa])), (ah, .inr (3, [.ref af, .ref atp, .ref ab, .int 0, .int 0, .int 0]))]) C0 hP hD hS [2, 3] [0, 1] rfl rfl (by decide) (by decide) 0 0 (Nat.le_of_ble_eq_true rfl) (Nat.le_of_ble_eq_true rfl) (runVN (k := 0) (As := []) (rest := []) "DayKnown" 618 C0 (c_search l D cI cZ cQ cT _ ae ef e1 e2 e3 e4 1 i7 i8 i9 i10 i11 ek ev er) wc_X1_search kl_X5_259 wi_X1_search we_X1_search wz_X1 ⟨by decide, by decide, by decide +kernel⟩ ⟨(Nat.le_of_ble_eq_true rfl), (Nat.le_of_ble_eq_true rfl)⟩ hP hD hS EF.ok hX [2, 3] rfl (by decide) 2 rfl rfl rfl rfl hl.1 rfl (Nat.le_of_ble_eq_true rfl) dX5_searchThen_22 ⟨(Nat.le_of_ble_eq_true rfl), (Nat.le_of_ble_eq_true rfl)⟩) (fun u_10 H locs w_11 hP hD hS => ?_)
  have hP : va_P D CL [(ax, .inr (5, [.ref ah, .ref bh, .int 0, .ref an, .ref aw, .ref ad, .ref ae, .ref ap, .ref aa])), (ah, .inr (3, [.ref af, .ref atp, .ref ab, .int 0, .int 0, .int 0])), (ae, .inr (1, [.ref ef, .ref e1, .ref e2, .ref e3, .ref e4, .int 1, .int 1, .int 1, .int 0, .int 0, .int 0, .int 0])), (ef, .inr (2, [.ref ek, .ref ev, .ref er, .int 0, .int 0, .int 0]))] H := hP
  have hD : va_D A [(ax, .inr (5, [.ref ah, .ref bh, .int 0, .ref an, .ref aw, .ref ad, .ref ae, .ref ap, .ref aa])), (ah, .inr (3, [.ref af, .ref atp, .ref ab, .int 0, .int 0, .int 0])), (ae, .inr (1, [.ref ef, .ref e1, .ref e2, .ref e3, .ref e4, .int 1, .int 1, .int 1, .int 0, .int 0, .int 0, .int 0])), (ef, .inr (2, [.ref ek, .ref ev, .ref er, .int 0, .int 0, .int 0]))] := hD
  exact retV C0 () trivial (hP.sub (ws' := [(ax, .inr (5, [.ref ah, .ref bh, .int 0, .ref an, .ref aw, .ref ad, .ref ae, .ref ap, .ref aa])), (ah, .inr (3, [.ref af, .ref atp, .ref ab, .int 0, .int 0, .int 0])), (ae, .inr (1, [.ref ef, .ref e1, .ref e2, .ref e3, .ref e4, .int 1, .int 1, .int 1, .int 0, .int 0, .int 0, .int 0])), (ef, .inr (2, [.ref ek, .ref ev, .ref er, .int 0, .int 0, .int 0]))]) [0, 1, 2, 3] rfl) (hD.sub (ws' := [(ax, .inr (5, [.ref ah, .ref bh, .int 0, .ref an, .ref aw, .ref ad, .ref ae, .ref ap, .ref aa])), (ah, .inr (3, [.ref af, .ref atp, .ref ab, .int 0, .int 0, .int 0])), (ae, .inr (1, [.ref ef, .ref e1, .ref e2, .ref e3, .ref e4, .int 1, .int 1, .int 1, .int 0, .int 0, .int 0, .int 0])), (ef, .inr (2, [.ref ek, .ref ev, .ref er, .int 0, .int 0, .int 0]))]) [0, 1, 2, 3] (by decide) rfl) hS (Nat.le_of_ble_eq_true rfl) (Nat.le_of_ble_eq_true rfl) dX5_searchThen_25

set_option maxHeartbeats 4000000 in
set_option maxRecDepth 100000 in
theorem x_year (l : Launch) (D : va_G) (cI cZ cQ cT : ClassId) (sz : Nat) (ax : Nat) (p1 : Int32) (p2 : Int32) (ah : Nat) (bh : Nat) (an : Nat) (aw : Nat) (ad : Nat) (ae : Nat) (ap : Nat) (aa : Nat) (af : Nat) (atp : Nat) (ab : Nat) (ak : Nat) (av : Nat) (ar : Nat) (fk : Nat → Int32) (fv : Nat → Int32) (fr : Nat → Int32) (n1 : Nat) (n2 : Nat) (n3 : Nat) (n4 : Nat) (ef : Nat) (e1 : Nat) (e2 : Nat) (e3 : Nat) (e4 : Nat) (i5 : Int32) (i6 : Int32) (i7 : Int32) (i8 : Int32) (i9 : Int32) (i10 : Int32) (i11 : Int32) (ek : Nat) (ev : Nat) (er : Nat) (jk : Nat → Int32) (jv : Nat → Int32) (jr : Nat → Int32)  : MetI l yX5_year cX5_year 7 .int ({ frames := 4, cells := 0, slots := 0, locals := 101 } : Room) [.ref ax, .int p1, .int p2] D (TYS cI cZ cQ cT) EF sz [(ax, .inr (5, [.ref ah, .ref bh, .int 0, .ref an, .ref aw, .ref ad, .ref ae, .ref ap, .ref aa])), (ah, .inr (3, [.ref af, .ref atp, .ref ab, .int 0, .int 0, .int 0])), (af, .inr (2, [.ref ak, .ref av, .ref ar, .int 0, .int 0, .int 0])), (ak, .inl (cI, 4, .inl fk)), (av, .inl (cI, 4, .inl fv)), (ar, .inl (cI, 4, .inl fr)), (an, .inr (4, [.ref n1, .int 0, .int 0, .ref n2, .int 0, .ref n3, .ref n4, .int 0, .int 0])), (ae, .inr (1, [.ref ef, .ref e1, .ref e2, .ref e3, .ref e4, .int i5, .int i6, .int i7, .int i8, .int i9, .int i10, .int i11])), (ef, .inr (2, [.ref ek, .ref ev, .ref er, .int 0, .int 0, .int 0])), (ek, .inl (cI, 4, .inl jk)), (ev, .inl (cI, 4, .inl jv)), (er, .inl (cI, 4, .inl jr))] (S := Unit) (fun (r : Int32) (_ : Unit) => r = (if (p2 = 0 ∨ p2 = 1) then (if p1 < (1 : Int32) then (-10002) else (if p1 ≤ (30 : Int32) then (if p2 = (0 : Int32) then 0 else 0) else (-10002))) else (-10001))) (fun _ => []) := by
  refine MetI.mk (lv := [(0, .ref ax), (1, .int p1), (2, .int p2)]) (by decide +kernel) (Nat.le_of_ble_eq_true rfl) rfl ?_
  intro p e s m below meth c A ls C0 hP hD hS hX hl
  have C1 := C0
  obtain ⟨hx, hb, hr, hml, hown, hlocks, hname, hT, hN, hK, hA⟩ := C1
  refine lv_iload_n hx hb dX5_year_0 rfl (lv_at hl 2 rfl) ?_
  refine contI (wc := []) (wr := [(ax, .inr (5, [.ref ah, .ref bh, .int 0, .ref an, .ref aw, .ref ad, .ref ae, .ref ap, .ref aa])), (ah, .inr (3, [.ref af, .ref atp, .ref ab, .int 0, .int 0, .int 0])), (af, .inr (2, [.ref ak, .ref av, .ref ar, .int 0, .int 0, .int 0])), (ak, .inl (cI, 4, .inl fk)), (av, .inl (cI, 4, .inl fv)), (ar, .inl (cI, 4, .inl fr)), (an, .inr (4, [.ref n1, .int 0, .int 0, .ref n2, .int 0, .ref n3, .ref n4, .int 0, .int 0])), (ae, .inr (1, [.ref ef, .ref e1, .ref e2, .ref e3, .ref e4, .int i5, .int i6, .int i7, .int i8, .int i9, .int i10, .int i11])), (ef, .inr (2, [.ref ek, .ref ev, .ref er, .int 0, .int 0, .int 0])), (ek, .inl (cI, 4, .inl jk)), (ev, .inl (cI, 4, .inl jv)), (er, .inl (cI, 4, .inl jr))]) C0 hP hD hS [] [0, 1, 2, 3, 4, 5, 6, 7, 8, 9, 10, 11] rfl rfl (by decide) (by decide) 0 0 (Nat.le_of_ble_eq_true rfl) (Nat.le_of_ble_eq_true rfl) (runS (k := 1) (As := [.int p2]) (rest := []) C0 (c_isPart l D cI cZ cQ cT _ p2) wc_X5_isPart wl_X5_170 wt_X5_isPart wz_X5 ⟨by decide, by decide, by decide +kernel⟩ ⟨(Nat.le_of_ble_eq_true rfl), (Nat.le_of_ble_eq_true rfl)⟩ hP hD hS EF.ok hX [] rfl (by decide) rfl hl.1 rfl (Nat.le_of_ble_eq_true rfl) dX5_year_1 ⟨(Nat.le_of_ble_eq_true rfl), (Nat.le_of_ble_eq_true rfl)⟩) (fun r_3 u_1 H locs w_2 hP hD hS => ?_)
  have hP : va_P D CL [(ax, .inr (5, [.ref ah, .ref bh, .int 0, .ref an, .ref aw, .ref ad, .ref ae, .ref ap, .ref aa])), (ah, .inr (3, [.ref af, .ref atp, .ref ab, .int 0, .int 0, .int 0])), (af, .inr (2, [.ref ak, .ref av, .ref ar, .int 0, .int 0, .int 0])), (ak, .inl (cI, 4, .inl fk)), (av, .inl (cI, 4, .inl fv)), (ar, .inl (cI, 4, .inl fr)), (an, .inr (4, [.ref n1, .int 0, .int 0, .ref n2, .int 0, .ref n3, .ref n4, .int 0, .int 0])), (ae, .inr (1, [.ref ef, .ref e1, .ref e2, .ref e3, .ref e4, .int i5, .int i6, .int i7, .int i8, .int i9, .int i10, .int i11])), (ef, .inr (2, [.ref ek, .ref ev, .ref er, .int 0, .int 0, .int 0])), (ek, .inl (cI, 4, .inl jk)), (ev, .inl (cI, 4, .inl jv)), (er, .inl (cI, 4, .inl jr))] H := hP
  have hD : va_D A [(ax, .inr (5, [.ref ah, .ref bh, .int 0, .ref an, .ref aw, .ref ad, .ref ae, .ref ap, .ref aa])), (ah, .inr (3, [.ref af, .ref atp, .ref ab, .int 0, .int 0, .int 0])), (af, .inr (2, [.ref ak, .ref av, .ref ar, .int 0, .int 0, .int 0])), (ak, .inl (cI, 4, .inl fk)), (av, .inl (cI, 4, .inl fv)), (ar, .inl (cI, 4, .inl fr)), (an, .inr (4, [.ref n1, .int 0, .int 0, .ref n2, .int 0, .ref n3, .ref n4, .int 0, .int 0])), (ae, .inr (1, [.ref ef, .ref e1, .ref e2, .ref e3, .ref e4, .int i5, .int i6, .int i7, .int i8, .int i9, .int i10, .int i11])), (ef, .inr (2, [.ref ek, .ref ev, .ref er, .int 0, .int 0, .int 0])), (ek, .inl (cI, 4, .inl jk)), (ev, .inl (cI, 4, .inl jv)), (er, .inl (cI, 4, .inl jr))] := hD
  refine (Decidable.em ((p2 = 0 ∨ p2 = 1))).elim (fun c_4 => ?_) (fun c_4 => ?_)
  · obtain rfl : r_3 = 1 := w_2.trans (if_pos c_4)
    refine lv_if_ne (tgt := 11) hx hb dX5_year_4 (by decide) (fun _ => ?_) (fun c_0 => absurd c_0 (by decide))
    refine lv_iload_n hx hb dX5_year_11 rfl (lv_at hl 1 rfl) ?_
    refine lv_iconst (v := 1) hx hb dX5_year_12 (by decide) ?_
    refine lv_icmp_lt (tgt := 22) hx hb dX5_year_13 (by decide) (fun c_5 => ?_) (fun c_5 => ?_)
    · refine lv_sipush (v := (-10002)) hx hb dX5_year_22 (by decide) ?_
      exact retI C0 rfl () (((if_pos c_4).trans ((if_pos c_5))).symm) (hP.sub (ws' := []) [] rfl) (hD.sub (ws' := []) [] (by decide) rfl) hS (Nat.le_of_ble_eq_true rfl) (Nat.le_of_ble_eq_true rfl) dX5_year_25
    · refine lv_iload_n hx hb dX5_year_16 rfl (lv_at hl 1 rfl) ?_
      refine lv_bipush (v := 30) hx hb dX5_year_17 (by decide) ?_
      refine lv_icmp_le (tgt := 26) hx hb dX5_year_19 (by decide) (fun c_6 => ?_) (fun c_6 => ?_)
      · refine lv_iconst (v := 0) hx hb dX5_year_26 (by decide) ?_
        refine lv_istore_n (lv' := [(3, .int 0), (0, .ref ax), (1, .int p1), (2, .int p2)]) hx hb dX5_year_27 rfl hl (by decide) rfl (fun ls hl => ?_)
        refine lv_iconst (v := 0) hx hb dX5_year_28 (by decide) ?_
        refine lv_istore (lv' := [(4, .int 0), (3, .int 0), (0, .ref ax), (1, .int p1), (2, .int p2)]) hx hb dX5_year_29 hl (by decide) rfl (fun ls hl => ?_)
        refine lv_aload_n hx hb dX5_year_31 rfl (lv_at hl 2 rfl) ?_
        refine va_get (ci := 5) (v := .ref ae) (C := RX5) (T := TX5) (N := 9) hx hb hT wu_X5 hown hK hP 0 rfl rfl 6 (by decide) (hT _ wf_X5_46) (fun _ h9 => h9) rfl dX5_year_32 ?_
        refine va_getN (ci := 1) (v := .ref ef) (C := RX1) (T := TX1) (N := 12) hx hb hT wu_X1 hown hK hP 7 rfl rfl 0 (by decide) (va_Nw.use rfl (hN.get 236 kf_X5_187 rfl)) (fun _ h9 => h9) rfl dX5_year_35 ?_
        refine lv_aload_n hx hb dX5_year_38 rfl (lv_at hl 2 rfl) ?_
        refine va_get (ci := 5) (v := .ref ah) (C := RX5) (T := TX5) (N := 9) hx hb hT wu_X5 hown hK hP 0 rfl rfl 0 (by decide) (hT _ wf_X5_12) (fun _ h9 => h9) rfl dX5_year_39 ?_
        refine va_getN (ci := 3) (v := .ref af) (C := RX3) (T := TX3) (N := 6) hx hb hT wu_X3 hown hK hP 1 rfl rfl 0 (by decide) (va_Nw.use rfl (hN.get 167 kf_X5_32 rfl)) (fun _ h9 => h9) rfl dX5_year_42 ?_
        refine contV (wc := [(ef, .inr (2, [.ref ek, .ref ev, .ref er, .int 0, .int 0, .int 0])), (ek, .inl (cI, 4, .inl jk)), (ev, .inl (cI, 4, .inl jv)), (er, .inl (cI, 4, .inl jr)), (af, .inr (2, [.ref ak, .ref av, .ref ar, .int 0, .int 0, .int 0])), (ak, .inl (cI, 4, .inl fk)), (av, .inl (cI, 4, .inl fv)), (ar, .inl (cI, 4, .inl fr))]) (wr := [(ax, .inr (5, [.ref ah, .ref bh, .int 0, .ref an, .ref aw, .ref ad, .ref ae, .ref ap, .ref aa])), (ah, .inr (3, [.ref af, .ref atp, .ref ab, .int 0, .int 0, .int 0])), (an, .inr (4, [.ref n1, .int 0, .int 0, .ref n2, .int 0, .ref n3, .ref n4, .int 0, .int 0])), (ae, .inr (1, [.ref ef, .ref e1, .ref e2, .ref e3, .ref e4, .int i5, .int i6, .int i7, .int i8, .int i9, .int i10, .int i11]))]) C0 hP hD hS [8, 9, 10, 11, 2, 3, 4, 5] [0, 1, 6, 7] rfl rfl (by decide) (by decide) 0 0 (Nat.le_of_ble_eq_true rfl) (Nat.le_of_ble_eq_true rfl) (runVN (k := 1) (As := [.ref af]) (rest := []) "DayKnown" 668 C0 (c_become l D cI cZ cQ cT _ ef af ek ev er 0 0 0 jk jv jr ak av ar fk fv fr) wc_X2_become kl_X5_188 wi_X2_become we_X2_become wz_X2 ⟨by decide, by decide, by decide +kernel⟩ ⟨(Nat.le_of_ble_eq_true rfl), (Nat.le_of_ble_eq_true rfl)⟩ hP hD hS EF.ok hX [8, 9, 10, 11, 2, 3, 4, 5] rfl (by decide) 8 rfl rfl rfl rfl hl.1 rfl (Nat.le_of_ble_eq_true rfl) dX5_year_45 ⟨(Nat.le_of_ble_eq_true rfl), (Nat.le_of_ble_eq_true rfl)⟩) (fun u_10 H locs w_11 hP hD hS => ?_)
        obtain ⟨gk_7, gv_8, gr_9⟩ := u_10
        have hP : va_P D CL [(ax, .inr (5, [.ref ah, .ref bh, .int 0, .ref an, .ref aw, .ref ad, .ref ae, .ref ap, .ref aa])), (ah, .inr (3, [.ref af, .ref atp, .ref ab, .int 0, .int 0, .int 0])), (an, .inr (4, [.ref n1, .int 0, .int 0, .ref n2, .int 0, .ref n3, .ref n4, .int 0, .int 0])), (ae, .inr (1, [.ref ef, .ref e1, .ref e2, .ref e3, .ref e4, .int i5, .int i6, .int i7, .int i8, .int i9, .int i10, .int i11])), (ef, .inr (2, [.ref ek, .ref ev, .ref er, .int 0, .int 0, .int 0])), (ek, .inl (cI, 4, .inl gk_7)), (ev, .inl (cI, 4, .inl gv_8)), (er, .inl (cI, 4, .inl gr_9)), (af, .inr (2, [.ref ak, .ref av, .ref ar, .int 0, .int 0, .int 0])), (ak, .inl (cI, 4, .inl fk)), (av, .inl (cI, 4, .inl fv)), (ar, .inl (cI, 4, .inl fr))] H := hP
        have hD : va_D A [(ax, .inr (5, [.ref ah, .ref bh, .int 0, .ref an, .ref aw, .ref ad, .ref ae, .ref ap, .ref aa])), (ah, .inr (3, [.ref af, .ref atp, .ref ab, .int 0, .int 0, .int 0])), (an, .inr (4, [.ref n1, .int 0, .int 0, .ref n2, .int 0, .ref n3, .ref n4, .int 0, .int 0])), (ae, .inr (1, [.ref ef, .ref e1, .ref e2, .ref e3, .ref e4, .int i5, .int i6, .int i7, .int i8, .int i9, .int i10, .int i11])), (ef, .inr (2, [.ref ek, .ref ev, .ref er, .int 0, .int 0, .int 0])), (ek, .inl (cI, 4, .inl gk_7)), (ev, .inl (cI, 4, .inl gv_8)), (er, .inl (cI, 4, .inl gr_9)), (af, .inr (2, [.ref ak, .ref av, .ref ar, .int 0, .int 0, .int 0])), (ak, .inl (cI, 4, .inl fk)), (av, .inl (cI, 4, .inl fv)), (ar, .inl (cI, 4, .inl fr))] := hD
        refine lv_iconst (v := 0) hx hb dX5_year_48 (by decide) ?_
        refine lv_istore (lv' := [(5, .int 0), (4, .int 0), (3, .int 0), (0, .ref ax), (1, .int p1), (2, .int p2)]) hx hb dX5_year_49 hl (by decide) rfl (fun ls hl => ?_)
        obtain ⟨N_, hN_, eN_⟩ : ∃ N_ : Nat, N_ ≤ 30 ∧ p1 = nI N_ := by
          obtain ⟨j, h1, h2⟩ := nI_of2 (x := p1) (M := 30) (n := 30) (by decide) (by have h_0 := c_4; have h_1 := c_5; have h_2 := c_6; have z0 : (0 : Int32).toInt = 0 := (by decide); have z1 : (1 : Int32).toInt = 1 := (by decide); have z30 : (30 : Int32).toInt = 30 := (by decide); simp only [le_i, lt_i, eq_i] at h_0 h_1 h_2 ⊢; omega : ¬ p1 < (0 : Int32)) (by have h_0 := c_4; have h_1 := c_5; have h_2 := c_6; have z0 : (0 : Int32).toInt = 0 := (by decide); have z1 : (1 : Int32).toInt = 1 := (by decide); have z30 : (30 : Int32).toInt = 30 := (by decide); simp only [le_i, lt_i, eq_i] at h_0 h_1 h_2 ⊢; omega : p1 ≤ (30 : Int32))
          exact ⟨j, h1, h2⟩
        have LOOP_13 : ∀ (k_ : Nat) (j_ : Nat) (m1 : Int32) (m2 : Int32) (m3 : Int32) (m4 : Int32) (m5 : Int32) (m6 : Int32) (m7 : Int32) (H : Heap) (locs : List Loc) (ls : Array Slot), (N_ - j_) < k_ → (j_ ≤ N_) → va_P D CL [(ax, .inr (5, [.ref ah, .ref bh, .int 0, .ref an, .ref aw, .ref ad, .ref ae, .ref ap, .ref aa])), (ah, .inr (3, [.ref af, .ref atp, .ref ab, .int 0, .int 0, .int 0])), (af, .inr (2, [.ref ak, .ref av, .ref ar, .int 0, .int 0, .int 0])), (an, .inr (4, [.ref n1, .int 0, .int 0, .ref n2, .int 0, .ref n3, .ref n4, .int 0, .int 0])), (ae, .inr (1, [.ref ef, .ref e1, .ref e2, .ref e3, .ref e4, .int m1, .int m2, .int m3, .int m4, .int m5, .int m6, .int m7])), (ef, .inr (2, [.ref ek, .ref ev, .ref er, .int 0, .int 0, .int 0]))] H → va_D A [(ax, .inr (5, [.ref ah, .ref bh, .int 0, .ref an, .ref aw, .ref ad, .ref ae, .ref ap, .ref aa])), (ah, .inr (3, [.ref af, .ref atp, .ref ab, .int 0, .int 0, .int 0])), (af, .inr (2, [.ref ak, .ref av, .ref ar, .int 0, .int 0, .int 0])), (an, .inr (4, [.ref n1, .int 0, .int 0, .ref n2, .int 0, .ref n3, .ref n4, .int 0, .int 0])), (ae, .inr (1, [.ref ef, .ref e1, .ref e2, .ref e3, .ref e4, .int m1, .int m2, .int m3, .int m4, .int m5, .int m6, .int m7])), (ef, .inr (2, [.ref ek, .ref ev, .ref er, .int 0, .int 0, .int 0]))] → va_S A s.heap H locs → lv_has ls 7 [(0, .ref ax), (1, .int p1), (2, .int p2), (3, .int 0), (4, .int 0), (5, .int (nI j_))] → W p l e ({ frames := 4, cells := 0, slots := 0, locals := 101 } : Room) s m [.ref ax, .int p1, .int p2].toArray below meth c H locs 0 0 (MQ below (va_Qi (S := Unit) (fun (r : Int32) (_ : Unit) => r = (if (p2 = 0 ∨ p2 = 1) then (if p1 < (1 : Int32) then (-10002) else (if p1 ≤ (30 : Int32) then (if p2 = (0 : Int32) then 0 else 0) else (-10002))) else (-10001))) (fun _ => wE D (TYS cI cZ cQ cT) A []) A) [.ref ax, .int p1, .int p2].toArray s 0 0 A) (F0 m 51 ls [])  := by
          intro k_
          induction k_ with
          | zero => intro j_ m1 m2 m3 m4 m5 m6 m7 H locs ls hk_; exact absurd hk_ (Nat.not_lt_zero _)
          | succ k_ ih_14 =>
            intro j_ m1 m2 m3 m4 m5 m6 m7 H locs ls hk_ hj_ hP hD hS hl
            refine lv_iload hx hb dX5_year_51 (lv_at hl 5 rfl) ?_
            refine lv_iload_n hx hb dX5_year_53 rfl (lv_at hl 1 rfl) ?_
            refine lv_icmp_ge (tgt := 127) hx hb dX5_year_54 (by decide) (fun c_15 => ?_) (fun c_15 => ?_)
            · refine lv_iload_n hx hb dX5_year_127 rfl (lv_at hl 2 rfl) ?_
              refine lv_if_ne (tgt := 135) hx hb dX5_year_128 (by decide) (fun c_16 => ?_) (fun c_16 => ?_)
              · refine lv_iload hx hb dX5_year_135 (lv_at hl 4 rfl) ?_
                exact retI C0 rfl () (((if_pos c_4).trans ((if_neg c_5).trans ((if_pos c_6).trans ((if_neg c_16))))).symm) (hP.sub (ws' := []) [] rfl) (hD.sub (ws' := []) [] (by decide) rfl) hS (Nat.le_of_ble_eq_true rfl) (Nat.le_of_ble_eq_true rfl) dX5_year_137
              · refine lv_iload_n hx hb dX5_year_131 rfl (lv_at hl 3 rfl) ?_
                refine lv_goto (tgt := 137) hx hb dX5_year_132 (by decide) ?_
                exact retI C0 rfl () (((if_pos c_4).trans ((if_neg c_5).trans ((if_pos c_6).trans ((if_pos c_16))))).symm) (hP.sub (ws' := []) [] rfl) (hD.sub (ws' := []) [] (by decide) rfl) hS (Nat.le_of_ble_eq_true rfl) (Nat.le_of_ble_eq_true rfl) dX5_year_137
            · refine lv_aload_n hx hb dX5_year_57 rfl (lv_at hl 0 rfl) ?_
              refine contV (wc := [(ax, .inr (5, [.ref ah, .ref bh, .int 0, .ref an, .ref aw, .ref ad, .ref ae, .ref ap, .ref aa])), (ah, .inr (3, [.ref af, .ref atp, .ref ab, .int 0, .int 0, .int 0])), (ae, .inr (1, [.ref ef, .ref e1, .ref e2, .ref e3, .ref e4, .int m1, .int m2, .int m3, .int m4, .int m5, .int m6, .int m7])), (ef, .inr (2, [.ref ek, .ref ev, .ref er, .int 0, .int 0, .int 0]))]) (wr := [(af, .inr (2, [.ref ak, .ref av, .ref ar, .int 0, .int 0, .int 0])), (an, .inr (4, [.ref n1, .int 0, .int 0, .ref n2, .int 0, .ref n3, .ref n4, .int 0, .int 0]))]) C0 hP hD hS [0, 1, 4, 5] [2, 3] rfl rfl (by decide) (by decide) 0 0 (Nat.le_of_ble_eq_true rfl) (Nat.le_of_ble_eq_true rfl) (runV (k := 0) (As := []) (rest := []) C0 (c_searchThen l D cI cZ cQ cT _ ax ah bh an aw ad ae ap aa af atp ab ef e1 e2 e3 e4 m1 m2 m3 m4 m5 m6 m7 ek ev er) wc_X5_searchThen wl_X5_191 wi_X5_searchThen we_X5_searchThen wz_X5 ⟨by decide, by decide, by decide +kernel⟩ ⟨(Nat.le_of_ble_eq_true rfl), (Nat.le_of_ble_eq_true rfl)⟩ hP hD hS EF.ok hX [0, 1, 4, 5] rfl (by decide) 0 rfl rfl rfl rfl hl.1 rfl (Nat.le_of_ble_eq_true rfl) dX5_year_58 ⟨(Nat.le_of_ble_eq_true rfl), (Nat.le_of_ble_eq_true rfl)⟩) (fun u_17 H locs w_18 hP hD hS => ?_)
              have hP : va_P D CL [(af, .inr (2, [.ref ak, .ref av, .ref ar, .int 0, .int 0, .int 0])), (an, .inr (4, [.ref n1, .int 0, .int 0, .ref n2, .int 0, .ref n3, .ref n4, .int 0, .int 0])), (ax, .inr (5, [.ref ah, .ref bh, .int 0, .ref an, .ref aw, .ref ad, .ref ae, .ref ap, .ref aa])), (ah, .inr (3, [.ref af, .ref atp, .ref ab, .int 0, .int 0, .int 0])), (ae, .inr (1, [.ref ef, .ref e1, .ref e2, .ref e3, .ref e4, .int 1, .int 1, .int 1, .int 0, .int 0, .int 0, .int 0])), (ef, .inr (2, [.ref ek, .ref ev, .ref er, .int 0, .int 0, .int 0]))] H := hP
              have hD : va_D A [(af, .inr (2, [.ref ak, .ref av, .ref ar, .int 0, .int 0, .int 0])), (an, .inr (4, [.ref n1, .int 0, .int 0, .ref n2, .int 0, .ref n3, .ref n4, .int 0, .int 0])), (ax, .inr (5, [.ref ah, .ref bh, .int 0, .ref an, .ref aw, .ref ad, .ref ae, .ref ap, .ref aa])), (ah, .inr (3, [.ref af, .ref atp, .ref ab, .int 0, .int 0, .int 0])), (ae, .inr (1, [.ref ef, .ref e1, .ref e2, .ref e3, .ref e4, .int 1, .int 1, .int 1, .int 0, .int 0, .int 0, .int 0])), (ef, .inr (2, [.ref ek, .ref ev, .ref er, .int 0, .int 0, .int 0]))] := hD
              refine lv_aload_n hx hb dX5_year_61 rfl (lv_at hl 0 rfl) ?_
              refine va_get (ci := 5) (v := .ref ae) (C := RX5) (T := TX5) (N := 9) hx hb hT wu_X5 hown hK hP 2 rfl rfl 6 (by decide) (hT _ wf_X5_46) (fun _ h9 => h9) rfl dX5_year_62 ?_
              refine contI (wc := [(ae, .inr (1, [.ref ef, .ref e1, .ref e2, .ref e3, .ref e4, .int 1, .int 1, .int 1, .int 0, .int 0, .int 0, .int 0]))]) (wr := [(af, .inr (2, [.ref ak, .ref av, .ref ar, .int 0, .int 0, .int 0])), (an, .inr (4, [.ref n1, .int 0, .int 0, .ref n2, .int 0, .ref n3, .ref n4, .int 0, .int 0])), (ax, .inr (5, [.ref ah, .ref bh, .int 0, .ref an, .ref aw, .ref ad, .ref ae, .ref ap, .ref aa])), (ah, .inr (3, [.ref af, .ref atp, .ref ab, .int 0, .int 0, .int 0])), (ef, .inr (2, [.ref ek, .ref ev, .ref er, .int 0, .int 0, .int 0]))]) C0 hP hD hS [4] [0, 1, 2, 3, 5] rfl rfl (by decide) (by decide) 0 0 (Nat.le_of_ble_eq_true rfl) (Nat.le_of_ble_eq_true rfl) (runVN (k := 0) (As := []) (rest := []) "DayKnown" 653 C0 (c_comingDay l D cI cZ cQ cT _ ae ef e1 e2 e3 e4 1 1 0 0 0) wc_X1_comingDay kl_X5_179 wi_X1_comingDay we_X1_comingDay wz_X1 ⟨by decide, by decide, by decide +kernel⟩ ⟨(Nat.le_of_ble_eq_true rfl), (Nat.le_of_ble_eq_true rfl)⟩ hP hD hS EF.ok hX [4] rfl (by decide) 4 rfl rfl rfl rfl hl.1 rfl (Nat.le_of_ble_eq_true rfl) dX5_year_65 ⟨(Nat.le_of_ble_eq_true rfl), (Nat.le_of_ble_eq_true rfl)⟩) (fun r_22 u_20 H locs w_21 hP hD hS => ?_)
              have hP : va_P D CL [(af, .inr (2, [.ref ak, .ref av, .ref ar, .int 0, .int 0, .int 0])), (an, .inr (4, [.ref n1, .int 0, .int 0, .ref n2, .int 0, .ref n3, .ref n4, .int 0, .int 0])), (ax, .inr (5, [.ref ah, .ref bh, .int 0, .ref an, .ref aw, .ref ad, .ref ae, .ref ap, .ref aa])), (ah, .inr (3, [.ref af, .ref atp, .ref ab, .int 0, .int 0, .int 0])), (ef, .inr (2, [.ref ek, .ref ev, .ref er, .int 0, .int 0, .int 0])), (ae, .inr (1, [.ref ef, .ref e1, .ref e2, .ref e3, .ref e4, .int 1, .int 1, .int 1, .int 0, .int 0, .int 0, .int 0]))] H := hP
              have hD : va_D A [(af, .inr (2, [.ref ak, .ref av, .ref ar, .int 0, .int 0, .int 0])), (an, .inr (4, [.ref n1, .int 0, .int 0, .ref n2, .int 0, .ref n3, .ref n4, .int 0, .int 0])), (ax, .inr (5, [.ref ah, .ref bh, .int 0, .ref an, .ref aw, .ref ad, .ref ae, .ref ap, .ref aa])), (ah, .inr (3, [.ref af, .ref atp, .ref ab, .int 0, .int 0, .int 0])), (ef, .inr (2, [.ref ek, .ref ev, .ref er, .int 0, .int 0, .int 0])), (ae, .inr (1, [.ref ef, .ref e1, .ref e2, .ref e3, .ref e4, .int 1, .int 1, .int 1, .int 0, .int 0, .int 0, .int 0]))] := hD
              obtain rfl : r_22 = 0 := w_21
              refine lv_istore (lv' := [(6, .int 0), (0, .ref ax), (1, .int p1), (2, .int p2), (3, .int 0), (4, .int 0), (5, .int (nI j_))]) hx hb dX5_year_68 hl (by decide) rfl (fun ls hl => ?_)
              refine lv_iload_n hx hb dX5_year_70 rfl (lv_at hl 4 rfl) ?_
              refine lv_aload_n hx hb dX5_year_71 rfl (lv_at hl 1 rfl) ?_
              refine va_get (ci := 5) (v := .ref ae) (C := RX5) (T := TX5) (N := 9) hx hb hT wu_X5 hown hK hP 2 rfl rfl 6 (by decide) (hT _ wf_X5_46) (fun _ h9 => h9) rfl dX5_year_72 ?_
              refine lv_iload hx hb dX5_year_75 (lv_at hl 0 rfl) ?_
              refine contI (wc := [(ae, .inr (1, [.ref ef, .ref e1, .ref e2, .ref e3, .ref e4, .int 1, .int 1, .int 1, .int 0, .int 0, .int 0, .int 0])), (ef, .inr (2, [.ref ek, .ref ev, .ref er, .int 0, .int 0, .int 0]))]) (wr := [(af, .inr (2, [.ref ak, .ref av, .ref ar, .int 0, .int 0, .int 0])), (an, .inr (4, [.ref n1, .int 0, .int 0, .ref n2, .int 0, .ref n3, .ref n4, .int 0, .int 0])), (ax, .inr (5, [.ref ah, .ref bh, .int 0, .ref an, .ref aw, .ref ad, .ref ae, .ref ap, .ref aa])), (ah, .inr (3, [.ref af, .ref atp, .ref ab, .int 0, .int 0, .int 0]))]) C0 hP hD hS [5, 4] [0, 1, 2, 3] rfl rfl (by decide) (by decide) 0 0 (Nat.le_of_ble_eq_true rfl) (Nat.le_of_ble_eq_true rfl) (runVN (k := 1) (As := [.int 0]) (rest := [.int 0]) "DayKnown" 606 C0 (c_gainOfAll l D cI cZ cQ cT _ ae 0 ef e1 e2 e3 e4 1 1 1 0 0 0 0 ek ev er) wc_X1_gainOfAll kl_X5_149 wi_X1_gainOfAll we_X1_gainOfAll wz_X1 ⟨by decide, by decide, by decide +kernel⟩ ⟨(Nat.le_of_ble_eq_true rfl), (Nat.le_of_ble_eq_true rfl)⟩ hP hD hS EF.ok hX [5, 4] rfl (by decide) 5 rfl rfl rfl rfl hl.1 rfl (Nat.le_of_ble_eq_true rfl) dX5_year_77 ⟨(Nat.le_of_ble_eq_true rfl), (Nat.le_of_ble_eq_true rfl)⟩) (fun r_25 u_23 H locs w_24 hP hD hS => ?_)
              have hP : va_P D CL [(af, .inr (2, [.ref ak, .ref av, .ref ar, .int 0, .int 0, .int 0])), (an, .inr (4, [.ref n1, .int 0, .int 0, .ref n2, .int 0, .ref n3, .ref n4, .int 0, .int 0])), (ax, .inr (5, [.ref ah, .ref bh, .int 0, .ref an, .ref aw, .ref ad, .ref ae, .ref ap, .ref aa])), (ah, .inr (3, [.ref af, .ref atp, .ref ab, .int 0, .int 0, .int 0])), (ae, .inr (1, [.ref ef, .ref e1, .ref e2, .ref e3, .ref e4, .int 1, .int 1, .int 1, .int 0, .int 0, .int 0, .int 0])), (ef, .inr (2, [.ref ek, .ref ev, .ref er, .int 0, .int 0, .int 0]))] H := hP
              have hD : va_D A [(af, .inr (2, [.ref ak, .ref av, .ref ar, .int 0, .int 0, .int 0])), (an, .inr (4, [.ref n1, .int 0, .int 0, .ref n2, .int 0, .ref n3, .ref n4, .int 0, .int 0])), (ax, .inr (5, [.ref ah, .ref bh, .int 0, .ref an, .ref aw, .ref ad, .ref ae, .ref ap, .ref aa])), (ah, .inr (3, [.ref af, .ref atp, .ref ab, .int 0, .int 0, .int 0])), (ae, .inr (1, [.ref ef, .ref e1, .ref e2, .ref e3, .ref e4, .int 1, .int 1, .int 1, .int 0, .int 0, .int 0, .int 0])), (ef, .inr (2, [.ref ek, .ref ev, .ref er, .int 0, .int 0, .int 0]))] := hD
              obtain rfl : r_25 = 0 := w_24
              refine lv_iadd hx hb dX5_year_80 ?_
              refine lv_ci 0 (by decide +kernel) ?_
              refine lv_istore_n (lv' := [(3, .int 0), (6, .int 0), (0, .ref ax), (1, .int p1), (2, .int p2), (4, .int 0), (5, .int (nI j_))]) hx hb dX5_year_81 rfl hl (by decide) rfl (fun ls hl => ?_)
              refine lv_iload hx hb dX5_year_82 (lv_at hl 5 rfl) ?_
              refine lv_aload_n hx hb dX5_year_84 rfl (lv_at hl 2 rfl) ?_
              refine va_get (ci := 5) (v := .ref ae) (C := RX5) (T := TX5) (N := 9) hx hb hT wu_X5 hown hK hP 2 rfl rfl 6 (by decide) (hT _ wf_X5_46) (fun _ h9 => h9) rfl dX5_year_85 ?_
              refine va_getN (ci := 1) (v := .int 1) (C := RX1) (T := TX1) (N := 12) hx hb hT wu_X1 hown hK hP 4 rfl rfl 7 (by decide) (va_Nw.use rfl (hN.get 243 kf_X5_155 rfl)) (fun _ h9 => h9) rfl dX5_year_88 ?_
              refine lv_if_ne (tgt := 98) hx hb dX5_year_91 (by decide) (fun _ => ?_) (fun c_0 => absurd c_0 (by decide))
              refine lv_iconst (v := 0) hx hb dX5_year_98 (by decide) ?_
              refine lv_iadd hx hb dX5_year_99 ?_
              refine lv_ci 0 (by decide +kernel) ?_
              refine lv_istore (lv' := [(4, .int 0), (3, .int 0), (6, .int 0), (0, .ref ax), (1, .int p1), (2, .int p2), (5, .int (nI j_))]) hx hb dX5_year_100 hl (by decide) rfl (fun ls hl => ?_)
              refine lv_aload_n hx hb dX5_year_102 rfl (lv_at hl 3 rfl) ?_
              refine va_get (ci := 5) (v := .ref ae) (C := RX5) (T := TX5) (N := 9) hx hb hT wu_X5 hown hK hP 2 rfl rfl 6 (by decide) (hT _ wf_X5_46) (fun _ h9 => h9) rfl dX5_year_103 ?_
              refine va_getN (ci := 1) (v := .ref ef) (C := RX1) (T := TX1) (N := 12) hx hb hT wu_X1 hown hK hP 4 rfl rfl 0 (by decide) (va_Nw.use rfl (hN.get 236 kf_X5_187 rfl)) (fun _ h9 => h9) rfl dX5_year_106 ?_
              refine lv_iload hx hb dX5_year_109 (lv_at hl 2 rfl) ?_
              refine lv_aload_n hx hb dX5_year_111 rfl (lv_at hl 3 rfl) ?_
              refine contR (wc := [(ax, .inr (5, [.ref ah, .ref bh, .int 0, .ref an, .ref aw, .ref ad, .ref ae, .ref ap, .ref aa])), (ah, .inr (3, [.ref af, .ref atp, .ref ab, .int 0, .int 0, .int 0]))]) (wr := [(af, .inr (2, [.ref ak, .ref av, .ref ar, .int 0, .int 0, .int 0])), (an, .inr (4, [.ref n1, .int 0, .int 0, .ref n2, .int 0, .ref n3, .ref n4, .int 0, .int 0])), (ae, .inr (1, [.ref ef, .ref e1, .ref e2, .ref e3, .ref e4, .int 1, .int 1, .int 1, .int 0, .int 0, .int 0, .int 0])), (ef, .inr (2, [.ref ek, .ref ev, .ref er, .int 0, .int 0, .int 0]))]) C0 hP hD hS [2, 3] [0, 1, 4, 5] rfl rfl (by decide) (by decide) 0 0 (Nat.le_of_ble_eq_true rfl) (Nat.le_of_ble_eq_true rfl) (runV (k := 0) (As := []) (rest := [.int 0, .ref ef]) C0 (c_newestTown l D cI cZ cQ cT _ ax ah bh an aw ad ae ap aa af atp ab) wc_X5_newestTown wl_X5_76 wi_X5_newestTown we_X5_newestTown wz_X5 ⟨by decide, by decide, by decide +kernel⟩ ⟨(Nat.le_of_ble_eq_true rfl), (Nat.le_of_ble_eq_true rfl)⟩ hP hD hS EF.ok hX [2, 3] rfl (by decide) 2 rfl rfl rfl rfl hl.1 rfl (Nat.le_of_ble_eq_true rfl) dX5_year_112 ⟨(Nat.le_of_ble_eq_true rfl), (Nat.le_of_ble_eq_true rfl)⟩) (fun u_26 H locs w_27 hP hD hS => ?_)
              have hP : va_P D CL [(af, .inr (2, [.ref ak, .ref av, .ref ar, .int 0, .int 0, .int 0])), (an, .inr (4, [.ref n1, .int 0, .int 0, .ref n2, .int 0, .ref n3, .ref n4, .int 0, .int 0])), (ae, .inr (1, [.ref ef, .ref e1, .ref e2, .ref e3, .ref e4, .int 1, .int 1, .int 1, .int 0, .int 0, .int 0, .int 0])), (ef, .inr (2, [.ref ek, .ref ev, .ref er, .int 0, .int 0, .int 0])), (ax, .inr (5, [.ref ah, .ref bh, .int 0, .ref an, .ref aw, .ref ad, .ref ae, .ref ap, .ref aa])), (ah, .inr (3, [.ref af, .ref atp, .ref ab, .int 0, .int 0, .int 0]))] H := hP
              have hD : va_D A [(af, .inr (2, [.ref ak, .ref av, .ref ar, .int 0, .int 0, .int 0])), (an, .inr (4, [.ref n1, .int 0, .int 0, .ref n2, .int 0, .ref n3, .ref n4, .int 0, .int 0])), (ae, .inr (1, [.ref ef, .ref e1, .ref e2, .ref e3, .ref e4, .int 1, .int 1, .int 1, .int 0, .int 0, .int 0, .int 0])), (ef, .inr (2, [.ref ek, .ref ev, .ref er, .int 0, .int 0, .int 0])), (ax, .inr (5, [.ref ah, .ref bh, .int 0, .ref an, .ref aw, .ref ad, .ref ae, .ref ap, .ref aa])), (ah, .inr (3, [.ref af, .ref atp, .ref ab, .int 0, .int 0, .int 0]))] := hD
              refine va_getN (ci := 4) (v := .int 0) (C := RX4) (T := TX4) (N := 9) hx hb hT wu_X4 hown hK hP 1 rfl rfl 8 (by decide) (va_Nw.use rfl (hN.get 206 kf_X5_80 rfl)) (fun _ h9 => h9) rfl dX5_year_115 ?_
              refine contV (wc := [(ef, .inr (2, [.ref ek, .ref ev, .ref er, .int 0, .int 0, .int 0]))]) (wr := [(af, .inr (2, [.ref ak, .ref av, .ref ar, .int 0, .int 0, .int 0])), (an, .inr (4, [.ref n1, .int 0, .int 0, .ref n2, .int 0, .ref n3, .ref n4, .int 0, .int 0])), (ae, .inr (1, [.ref ef, .ref e1, .ref e2, .ref e3, .ref e4, .int 1, .int 1, .int 1, .int 0, .int 0, .int 0, .int 0])), (ax, .inr (5, [.ref ah, .ref bh, .int 0, .ref an, .ref aw, .ref ad, .ref ae, .ref ap, .ref aa])), (ah, .inr (3, [.ref af, .ref atp, .ref ab, .int 0, .int 0, .int 0]))]) C0 hP hD hS [3] [0, 1, 2, 4, 5] rfl rfl (by decide) (by decide) 0 0 (Nat.le_of_ble_eq_true rfl) (Nat.le_of_ble_eq_true rfl) (runVN (k := 2) (As := [.int 0, .int 0]) (rest := []) "DayKnown" 658 C0 (c_endMorning l D cI cZ cQ cT _ ef ek ev er) wc_X2_endMorning kl_X5_183 wi_X2_endMorning we_X2_endMorning wz_X2 ⟨by decide, by decide, by decide +kernel⟩ ⟨(Nat.le_of_ble_eq_true rfl), (Nat.le_of_ble_eq_true rfl)⟩ hP hD hS EF.ok hX [3] rfl (by decide) 3 rfl rfl rfl rfl hl.1 rfl (Nat.le_of_ble_eq_true rfl) dX5_year_118 ⟨(Nat.le_of_ble_eq_true rfl), (Nat.le_of_ble_eq_true rfl)⟩) (fun u_29 H locs w_30 hP hD hS => ?_)
              have hP : va_P D CL [(af, .inr (2, [.ref ak, .ref av, .ref ar, .int 0, .int 0, .int 0])), (an, .inr (4, [.ref n1, .int 0, .int 0, .ref n2, .int 0, .ref n3, .ref n4, .int 0, .int 0])), (ae, .inr (1, [.ref ef, .ref e1, .ref e2, .ref e3, .ref e4, .int 1, .int 1, .int 1, .int 0, .int 0, .int 0, .int 0])), (ax, .inr (5, [.ref ah, .ref bh, .int 0, .ref an, .ref aw, .ref ad, .ref ae, .ref ap, .ref aa])), (ah, .inr (3, [.ref af, .ref atp, .ref ab, .int 0, .int 0, .int 0])), (ef, .inr (2, [.ref ek, .ref ev, .ref er, .int 0, .int 0, .int 0]))] H := hP
              have hD : va_D A [(af, .inr (2, [.ref ak, .ref av, .ref ar, .int 0, .int 0, .int 0])), (an, .inr (4, [.ref n1, .int 0, .int 0, .ref n2, .int 0, .ref n3, .ref n4, .int 0, .int 0])), (ae, .inr (1, [.ref ef, .ref e1, .ref e2, .ref e3, .ref e4, .int 1, .int 1, .int 1, .int 0, .int 0, .int 0, .int 0])), (ax, .inr (5, [.ref ah, .ref bh, .int 0, .ref an, .ref aw, .ref ad, .ref ae, .ref ap, .ref aa])), (ah, .inr (3, [.ref af, .ref atp, .ref ab, .int 0, .int 0, .int 0])), (ef, .inr (2, [.ref ek, .ref ev, .ref er, .int 0, .int 0, .int 0]))] := hD
              refine lv_iinc (v := (nI (j_ + 1))) (lv' := [(5, .int (nI (j_ + 1))), (4, .int 0), (3, .int 0), (6, .int 0), (0, .ref ax), (1, .int p1), (2, .int p2)]) hx hb dX5_year_121 hl (k := 6) rfl (nI_succ _).symm (by decide) rfl (fun ls hl => ?_)
              refine lv_goto (tgt := 51) hx hb dX5_year_124 (by decide) ?_
              exact ih_14 (j_ + 1) (1 : Int32) (1 : Int32) (1 : Int32) (0 : Int32) (0 : Int32) (0 : Int32) (0 : Int32) _ _ _ (by have h := c_15; rw [eN_, nI_leI (by omega) (by omega)] at h; omega) (by have h := c_15; rw [eN_, nI_leI (by omega) (by omega)] at h; omega) (hP.sub (ws' := [(ax, .inr (5, [.ref ah, .ref bh, .int 0, .ref an, .ref aw, .ref ad, .ref ae, .ref ap, .ref aa])), (ah, .inr (3, [.ref af, .ref atp, .ref ab, .int 0, .int 0, .int 0])), (af, .inr (2, [.ref ak, .ref av, .ref ar, .int 0, .int 0, .int 0])), (an, .inr (4, [.ref n1, .int 0, .int 0, .ref n2, .int 0, .ref n3, .ref n4, .int 0, .int 0])), (ae, .inr (1, [.ref ef, .ref e1, .ref e2, .ref e3, .ref e4, .int (1 : Int32), .int (1 : Int32), .int (1 : Int32), .int (0 : Int32), .int (0 : Int32), .int (0 : Int32), .int (0 : Int32)])), (ef, .inr (2, [.ref ek, .ref ev, .ref er, .int 0, .int 0, .int 0]))]) [3, 4, 0, 1, 2, 5] rfl) (hD.sub (ws' := [(ax, .inr (5, [.ref ah, .ref bh, .int 0, .ref an, .ref aw, .ref ad, .ref ae, .ref ap, .ref aa])), (ah, .inr (3, [.ref af, .ref atp, .ref ab, .int 0, .int 0, .int 0])), (af, .inr (2, [.ref ak, .ref av, .ref ar, .int 0, .int 0, .int 0])), (an, .inr (4, [.ref n1, .int 0, .int 0, .ref n2, .int 0, .ref n3, .ref n4, .int 0, .int 0])), (ae, .inr (1, [.ref ef, .ref e1, .ref e2, .ref e3, .ref e4, .int (1 : Int32), .int (1 : Int32), .int (1 : Int32), .int (0 : Int32), .int (0 : Int32), .int (0 : Int32), .int (0 : Int32)])), (ef, .inr (2, [.ref ek, .ref ev, .ref er, .int 0, .int 0, .int 0]))]) [3, 4, 0, 1, 2, 5] (by decide) rfl) hS (lv_sub hl [4, 5, 6, 2, 1, 0] rfl)
        exact LOOP_13 ((N_ - 0) + 1) 0 i5 i6 i7 i8 i9 i10 i11 _ _ _ (Nat.lt_succ_self _) (Nat.zero_le _) (hP.sub (ws' := [(ax, .inr (5, [.ref ah, .ref bh, .int 0, .ref an, .ref aw, .ref ad, .ref ae, .ref ap, .ref aa])), (ah, .inr (3, [.ref af, .ref atp, .ref ab, .int 0, .int 0, .int 0])), (af, .inr (2, [.ref ak, .ref av, .ref ar, .int 0, .int 0, .int 0])), (an, .inr (4, [.ref n1, .int 0, .int 0, .ref n2, .int 0, .ref n3, .ref n4, .int 0, .int 0])), (ae, .inr (1, [.ref ef, .ref e1, .ref e2, .ref e3, .ref e4, .int i5, .int i6, .int i7, .int i8, .int i9, .int i10, .int i11])), (ef, .inr (2, [.ref ek, .ref ev, .ref er, .int 0, .int 0, .int 0]))]) [0, 1, 8, 2, 3, 4] rfl) (hD.sub (ws' := [(ax, .inr (5, [.ref ah, .ref bh, .int 0, .ref an, .ref aw, .ref ad, .ref ae, .ref ap, .ref aa])), (ah, .inr (3, [.ref af, .ref atp, .ref ab, .int 0, .int 0, .int 0])), (af, .inr (2, [.ref ak, .ref av, .ref ar, .int 0, .int 0, .int 0])), (an, .inr (4, [.ref n1, .int 0, .int 0, .ref n2, .int 0, .ref n3, .ref n4, .int 0, .int 0])), (ae, .inr (1, [.ref ef, .ref e1, .ref e2, .ref e3, .ref e4, .int i5, .int i6, .int i7, .int i8, .int i9, .int i10, .int i11])), (ef, .inr (2, [.ref ek, .ref ev, .ref er, .int 0, .int 0, .int 0]))]) [0, 1, 8, 2, 3, 4] (by decide) rfl) hS (lv_sub hl [3, 4, 5, 2, 1, 0] rfl)
      · refine lv_sipush (v := (-10002)) hx hb dX5_year_22 (by decide) ?_
        exact retI C0 rfl () (((if_pos c_4).trans ((if_neg c_5).trans ((if_neg c_6)))).symm) (hP.sub (ws' := []) [] rfl) (hD.sub (ws' := []) [] (by decide) rfl) hS (Nat.le_of_ble_eq_true rfl) (Nat.le_of_ble_eq_true rfl) dX5_year_25
  · obtain rfl : r_3 = 0 := w_2.trans (if_neg c_4)
    refine lv_if_ne (tgt := 11) hx hb dX5_year_4 (by decide) (fun c_0 => absurd (by decide) c_0) (fun _ => ?_)
    refine lv_sipush (v := (-10001)) hx hb dX5_year_7 (by decide) ?_
    exact retI C0 rfl () (((if_neg c_4)).symm) (hP.sub (ws' := []) [] rfl) (hD.sub (ws' := []) [] (by decide) rfl) hS (Nat.le_of_ble_eq_true rfl) (Nat.le_of_ble_eq_true rfl) dX5_year_10

set_option maxHeartbeats 4000000 in
set_option maxRecDepth 100000 in
theorem x_bet (l : Launch) (D : va_G) (cI cZ cQ cT : ClassId) (sz : Nat) (ax : Nat) (p1 : Int32) (p2 : Int32) (p3 : Int32) (ah : Nat) (bh : Nat) (an : Nat) (aw : Nat) (ad : Nat) (ae : Nat) (ap : Nat) (aa : Nat) (af : Nat) (atp : Nat) (ab : Nat) (ak : Nat) (av : Nat) (ar : Nat)  : MetI l yX5_bet cX5_bet 6 .int ({ frames := 1, cells := 0, slots := 0, locals := 21 } : Room) [.ref ax, .int p1, .int p2, .int p3] D (TYS cI cZ cQ cT) EF sz [(ax, .inr (5, [.ref ah, .ref bh, .int 0, .ref an, .ref aw, .ref ad, .ref ae, .ref ap, .ref aa])), (ah, .inr (3, [.ref af, .ref atp, .ref ab, .int 0, .int 0, .int 0])), (af, .inr (2, [.ref ak, .ref av, .ref ar, .int 0, .int 0, .int 0]))] (S := Unit) (fun (r : Int32) (_ : Unit) => r = (-1)) (fun _ => []) := by
  refine MetI.mk (lv := [(0, .ref ax), (1, .int p1), (2, .int p2), (3, .int p3)]) (by decide +kernel) (Nat.le_of_ble_eq_true rfl) rfl ?_
  intro p e s m below meth c A ls C0 hP hD hS hX hl
  have C1 := C0
  obtain ⟨hx, hb, hr, hml, hown, hlocks, hname, hT, hN, hK, hA⟩ := C1
  refine lv_aload_n hx hb dX5_bet_0 rfl (lv_at hl 0 rfl) ?_
  refine va_get (ci := 5) (v := .ref ah) (C := RX5) (T := TX5) (N := 9) hx hb hT wu_X5 hown hK hP 0 rfl rfl 0 (by decide) (hT _ wf_X5_12) (fun _ h9 => h9) rfl dX5_bet_1 ?_
  refine va_getN (ci := 3) (v := .ref af) (C := RX3) (T := TX3) (N := 6) hx hb hT wu_X3 hown hK hP 1 rfl rfl 0 (by decide) (va_Nw.use rfl (hN.get 167 kf_X5_32 rfl)) (fun _ h9 => h9) rfl dX5_bet_4 ?_
  refine lv_iload_n hx hb dX5_bet_7 rfl (lv_at hl 1 rfl) ?_
  refine contI (wc := [(af, .inr (2, [.ref ak, .ref av, .ref ar, .int 0, .int 0, .int 0]))]) (wr := [(ax, .inr (5, [.ref ah, .ref bh, .int 0, .ref an, .ref aw, .ref ad, .ref ae, .ref ap, .ref aa])), (ah, .inr (3, [.ref af, .ref atp, .ref ab, .int 0, .int 0, .int 0]))]) C0 hP hD hS [2] [0, 1] rfl rfl (by decide) (by decide) 0 0 (Nat.le_of_ble_eq_true rfl) (Nat.le_of_ble_eq_true rfl) (runVN (k := 1) (As := [.int p1]) (rest := []) "DayKnown" 493 C0 (c_has l D cI cZ cQ cT _ af p1 ak av ar 0 0) wc_X2_has kl_X5_96 wi_X2_has we_X2_has wz_X2 ⟨by decide, by decide, by decide +kernel⟩ ⟨(Nat.le_of_ble_eq_true rfl), (Nat.le_of_ble_eq_true rfl)⟩ hP hD hS EF.ok hX [2] rfl (by decide) 2 rfl rfl rfl rfl hl.1 rfl (Nat.le_of_ble_eq_true rfl) dX5_bet_8 ⟨(Nat.le_of_ble_eq_true rfl), (Nat.le_of_ble_eq_true rfl)⟩) (fun r_3 u_1 H locs w_2 hP hD hS => ?_)
  have hP : va_P D CL [(ax, .inr (5, [.ref ah, .ref bh, .int 0, .ref an, .ref aw, .ref ad, .ref ae, .ref ap, .ref aa])), (ah, .inr (3, [.ref af, .ref atp, .ref ab, .int 0, .int 0, .int 0])), (af, .inr (2, [.ref ak, .ref av, .ref ar, .int 0, .int 0, .int 0]))] H := hP
  have hD : va_D A [(ax, .inr (5, [.ref ah, .ref bh, .int 0, .ref an, .ref aw, .ref ad, .ref ae, .ref ap, .ref aa])), (ah, .inr (3, [.ref af, .ref atp, .ref ab, .int 0, .int 0, .int 0])), (af, .inr (2, [.ref ak, .ref av, .ref ar, .int 0, .int 0, .int 0]))] := hD
  obtain rfl : r_3 = 0 := w_2
  refine lv_if_eq (tgt := 28) hx hb dX5_bet_11 (by decide) (fun _ => ?_) (fun c_0 => absurd (by decide) c_0)
  refine lv_iconst (v := (-1)) hx hb dX5_bet_28 (by decide) ?_
  exact retI C0 rfl () rfl (hP.sub (ws' := []) [] rfl) (hD.sub (ws' := []) [] (by decide) rfl) hS (Nat.le_of_ble_eq_true rfl) (Nat.le_of_ble_eq_true rfl) dX5_bet_29

set_option maxHeartbeats 4000000 in
set_option maxRecDepth 100000 in
theorem c_bitCount0 (l : Launch) (D : va_G) (cI cZ cQ cT : ClassId) (sz : Nat)   : MetI l yJ6_bitCount_0f7a4 cJ6_bitCount_0f7a4 1 .int ({ frames := 0, cells := 0, slots := 0, locals := 0 } : Room) [.int 0] D (TYS cI cZ cQ cT) EF sz [] (S := Unit) (fun (r : Int32) (_ : Unit) => r = 0) (fun _ => []) := by
  refine MetI.mk (lv := [(0, .int 0)]) (by decide +kernel) (Nat.le_of_ble_eq_true rfl) rfl ?_
  intro p e s m below meth c A ls C0 hP hD hS hX hl
  have C1 := C0
  obtain ⟨hx, hb, hr, hml, hown, hlocks, hname, hT, hN, hK, hA⟩ := C1
  refine lv_iload_n hx hb dJ6_bitCount_0f7a4_0 rfl (lv_at hl 0 rfl) ?_
  refine lv_iload_n hx hb dJ6_bitCount_0f7a4_1 rfl (lv_at hl 0 rfl) ?_
  refine lv_iconst (v := 1) hx hb dJ6_bitCount_0f7a4_2 (by decide) ?_
  refine lv_iushr (v := 0) hx hb dJ6_bitCount_0f7a4_3 (by decide +kernel) ?_
  refine lv_ldcw (v := 1431655765) hx hb hown (hT _ wk_J6_265) dJ6_bitCount_0f7a4_4 ?_
  refine lv_iand hx hb dJ6_bitCount_0f7a4_7 ?_
  refine lv_ci 0 (by decide +kernel) ?_
  refine lv_isub hx hb dJ6_bitCount_0f7a4_8 ?_
  refine lv_ci 0 (by decide +kernel) ?_
  refine lv_istore_n (lv' := [(0, .int 0)]) hx hb dJ6_bitCount_0f7a4_9 rfl hl (by decide) rfl (fun ls hl => ?_)
  refine lv_iload_n hx hb dJ6_bitCount_0f7a4_10 rfl (lv_at hl 0 rfl) ?_
  refine lv_ldcw (v := 858993459) hx hb hown (hT _ wk_J6_266) dJ6_bitCount_0f7a4_11 ?_
  refine lv_iand hx hb dJ6_bitCount_0f7a4_14 ?_
  refine lv_ci 0 (by decide +kernel) ?_
  refine lv_iload_n hx hb dJ6_bitCount_0f7a4_15 rfl (lv_at hl 0 rfl) ?_
  refine lv_iconst (v := 2) hx hb dJ6_bitCount_0f7a4_16 (by decide) ?_
  refine lv_iushr (v := 0) hx hb dJ6_bitCount_0f7a4_17 (by decide +kernel) ?_
  refine lv_ldcw (v := 858993459) hx hb hown (hT _ wk_J6_266) dJ6_bitCount_0f7a4_18 ?_
  refine lv_iand hx hb dJ6_bitCount_0f7a4_21 ?_
  refine lv_ci 0 (by decide +kernel) ?_
  refine lv_iadd hx hb dJ6_bitCount_0f7a4_22 ?_
  refine lv_ci 0 (by decide +kernel) ?_
  refine lv_istore_n (lv' := [(0, .int 0)]) hx hb dJ6_bitCount_0f7a4_23 rfl hl (by decide) rfl (fun ls hl => ?_)
  refine lv_iload_n hx hb dJ6_bitCount_0f7a4_24 rfl (lv_at hl 0 rfl) ?_
  refine lv_iload_n hx hb dJ6_bitCount_0f7a4_25 rfl (lv_at hl 0 rfl) ?_
  refine lv_iconst (v := 4) hx hb dJ6_bitCount_0f7a4_26 (by decide) ?_
  refine lv_iushr (v := 0) hx hb dJ6_bitCount_0f7a4_27 (by decide +kernel) ?_
  refine lv_iadd hx hb dJ6_bitCount_0f7a4_28 ?_
  refine lv_ci 0 (by decide +kernel) ?_
  refine lv_ldcw (v := 252645135) hx hb hown (hT _ wk_J6_267) dJ6_bitCount_0f7a4_29 ?_
  refine lv_iand hx hb dJ6_bitCount_0f7a4_32 ?_
  refine lv_ci 0 (by decide +kernel) ?_
  refine lv_istore_n (lv' := [(0, .int 0)]) hx hb dJ6_bitCount_0f7a4_33 rfl hl (by decide) rfl (fun ls hl => ?_)
  refine lv_iload_n hx hb dJ6_bitCount_0f7a4_34 rfl (lv_at hl 0 rfl) ?_
  refine lv_iload_n hx hb dJ6_bitCount_0f7a4_35 rfl (lv_at hl 0 rfl) ?_
  refine lv_bipush (v := 8) hx hb dJ6_bitCount_0f7a4_36 (by decide) ?_
  refine lv_iushr (v := 0) hx hb dJ6_bitCount_0f7a4_38 (by decide +kernel) ?_
  refine lv_iadd hx hb dJ6_bitCount_0f7a4_39 ?_
  refine lv_ci 0 (by decide +kernel) ?_
  refine lv_istore_n (lv' := [(0, .int 0)]) hx hb dJ6_bitCount_0f7a4_40 rfl hl (by decide) rfl (fun ls hl => ?_)
  refine lv_iload_n hx hb dJ6_bitCount_0f7a4_41 rfl (lv_at hl 0 rfl) ?_
  refine lv_iload_n hx hb dJ6_bitCount_0f7a4_42 rfl (lv_at hl 0 rfl) ?_
  refine lv_bipush (v := 16) hx hb dJ6_bitCount_0f7a4_43 (by decide) ?_
  refine lv_iushr (v := 0) hx hb dJ6_bitCount_0f7a4_45 (by decide +kernel) ?_
  refine lv_iadd hx hb dJ6_bitCount_0f7a4_46 ?_
  refine lv_ci 0 (by decide +kernel) ?_
  refine lv_istore_n (lv' := [(0, .int 0)]) hx hb dJ6_bitCount_0f7a4_47 rfl hl (by decide) rfl (fun ls hl => ?_)
  refine lv_iload_n hx hb dJ6_bitCount_0f7a4_48 rfl (lv_at hl 0 rfl) ?_
  refine lv_bipush (v := 63) hx hb dJ6_bitCount_0f7a4_49 (by decide) ?_
  refine lv_iand hx hb dJ6_bitCount_0f7a4_51 ?_
  refine lv_ci 0 (by decide +kernel) ?_
  exact retI C0 rfl () rfl (hP.sub (ws' := []) [] rfl) (hD.sub (ws' := []) [] (by decide) rfl) hS (Nat.le_of_ble_eq_true rfl) (Nat.le_of_ble_eq_true rfl) dJ6_bitCount_0f7a4_52

set_option maxHeartbeats 4000000 in
set_option maxRecDepth 100000 in
theorem c_tellThen (l : Launch) (D : va_G) (cI cZ cQ cT : ClassId) (sz : Nat) (ax : Nat) (ah : Nat) (bh : Nat) (an : Nat) (aw : Nat) (ad : Nat) (ae : Nat) (ap : Nat) (aa : Nat) (af : Nat) (atp : Nat) (ab : Nat) (ef : Nat) (e1 : Nat) (e2 : Nat) (e3 : Nat) (e4 : Nat) (i5 : Int32) (i6 : Int32) (i7 : Int32) (i8 : Int32) (i9 : Int32) (i10 : Int32) (i11 : Int32) (ek : Nat) (ev : Nat) (er : Nat) (jk : Nat → Int32) (jv : Nat → Int32) (jr : Nat → Int32) (ak : Nat) (av : Nat) (ar : Nat) (fk : Nat → Int32) (fv : Nat → Int32) (fr : Nat → Int32)  : MetV l yX5_tellThen cX5_tellThen 3 ({ frames := 2, cells := 0, slots := 0, locals := 101 } : Room) [.ref ax, .int 0] D (TYS cI cZ cQ cT) EF sz [(ax, .inr (5, [.ref ah, .ref bh, .int 0, .ref an, .ref aw, .ref ad, .ref ae, .ref ap, .ref aa])), (ah, .inr (3, [.ref af, .ref atp, .ref ab, .int 0, .int 0, .int 0])), (ae, .inr (1, [.ref ef, .ref e1, .ref e2, .ref e3, .ref e4, .int i5, .int i6, .int i7, .int i8, .int i9, .int i10, .int i11])), (ef, .inr (2, [.ref ek, .ref ev, .ref er, .int 0, .int 0, .int 0])), (ek, .inl (cI, 4, .inl jk)), (ev, .inl (cI, 4, .inl jv)), (er, .inl (cI, 4, .inl jr)), (af, .inr (2, [.ref ak, .ref av, .ref ar, .int 0, .int 0, .int 0])), (ak, .inl (cI, 4, .inl fk)), (av, .inl (cI, 4, .inl fv)), (ar, .inl (cI, 4, .inl fr))] (S := Unit) (fun (_ : Unit) => True) (fun _ => [(ax, .inr (5, [.ref ah, .ref bh, .int 0, .ref an, .ref aw, .ref ad, .ref ae, .ref ap, .ref aa])), (ah, .inr (3, [.ref af, .ref atp, .ref ab, .int 0, .int 0, .int 0])), (ae, .inr (1, [.ref ef, .ref e1, .ref e2, .ref e3, .ref e4, .int i5, .int i6, .int i7, .int i8, .int i9, .int i10, .int i11])), (ef, .inr (2, [.ref ek, .ref ev, .ref er, .int 0, .int 0, .int 0])), (af, .inr (2, [.ref ak, .ref av, .ref ar, .int 0, .int 0, .int 0])), (ak, .inl (cI, 4, .inl fk)), (av, .inl (cI, 4, .inl fv)), (ar, .inl (cI, 4, .inl fr))]) := by
  refine MetV.mk (lv := [(0, .ref ax), (1, .int 0)]) (by decide +kernel) (Nat.le_of_ble_eq_true rfl) rfl ?_
  intro p e s m below meth c A ls C0 hP hD hS hX hl
  have C1 := C0
  obtain ⟨hx, hb, hr, hml, hown, hlocks, hname, hT, hN, hK, hA⟩ := C1
  refine lv_aload_n hx hb dX5_tellThen_0 rfl (lv_at hl 0 rfl) ?_
  refine va_get (ci := 5) (v := .ref ae) (C := RX5) (T := TX5) (N := 9) hx hb hT wu_X5 hown hK hP 0 rfl rfl 6 (by decide) (hT _ wf_X5_46) (fun _ h9 => h9) rfl dX5_tellThen_1 ?_
  refine va_getN (ci := 1) (v := .ref ef) (C := RX1) (T := TX1) (N := 12) hx hb hT wu_X1 hown hK hP 2 rfl rfl 0 (by decide) (va_Nw.use rfl (hN.get 236 kf_X5_187 rfl)) (fun _ h9 => h9) rfl dX5_tellThen_4 ?_
  refine lv_aload_n hx hb dX5_tellThen_7 rfl (lv_at hl 0 rfl) ?_
  refine va_get (ci := 5) (v := .ref ah) (C := RX5) (T := TX5) (N := 9) hx hb hT wu_X5 hown hK hP 0 rfl rfl 0 (by decide) (hT _ wf_X5_12) (fun _ h9 => h9) rfl dX5_tellThen_8 ?_
  refine va_getN (ci := 3) (v := .ref af) (C := RX3) (T := TX3) (N := 6) hx hb hT wu_X3 hown hK hP 1 rfl rfl 0 (by decide) (va_Nw.use rfl (hN.get 167 kf_X5_32 rfl)) (fun _ h9 => h9) rfl dX5_tellThen_11 ?_
  refine contV (wc := [(ef, .inr (2, [.ref ek, .ref ev, .ref er, .int 0, .int 0, .int 0])), (ek, .inl (cI, 4, .inl jk)), (ev, .inl (cI, 4, .inl jv)), (er, .inl (cI, 4, .inl jr)), (af, .inr (2, [.ref ak, .ref av, .ref ar, .int 0, .int 0, .int 0])), (ak, .inl (cI, 4, .inl fk)), (av, .inl (cI, 4, .inl fv)), (ar, .inl (cI, 4, .inl fr))]) (wr := [(ax, .inr (5, [.ref ah, .ref bh, .int 0, .ref an, .ref aw, .ref ad, .ref ae, .ref ap, .ref aa])), (ah, .inr (3, [.ref af, .ref atp, .ref ab, .int 0, .int 0, .int 0])), (ae, .inr (1, [.ref ef, .ref e1, .ref e2, .ref e3, .ref e4, .int i5, .int i6, .int i7, .int i8, .int i9, .int i10, .int i11]))]) C0 hP hD hS [3, 4, 5, 6, 7, 8, 9, 10] [0, 1, 2] rfl rfl (by decide) (by decide) 0 0 (Nat.le_of_ble_eq_true rfl) (Nat.le_of_ble_eq_true rfl) (runVN (k := 1) (As := [.ref af]) (rest := []) "DayKnown" 668 C0 (c_become l D cI cZ cQ cT _ ef af ek ev er 0 0 0 jk jv jr ak av ar fk fv fr) wc_X2_become kl_X5_188 wi_X2_become we_X2_become wz_X2 ⟨by decide, by decide, by decide +kernel⟩ ⟨(Nat.le_of_ble_eq_true rfl), (Nat.le_of_ble_eq_true rfl)⟩ hP hD hS EF.ok hX [3, 4, 5, 6, 7, 8, 9, 10] rfl (by decide) 3 rfl rfl rfl rfl hl.1 rfl (Nat.le_of_ble_eq_true rfl) dX5_tellThen_14 ⟨(Nat.le_of_ble_eq_true rfl), (Nat.le_of_ble_eq_true rfl)⟩) (fun u_4 H locs w_5 hP hD hS => ?_)
  obtain ⟨gk_1, gv_2, gr_3⟩ := u_4
  have hP : va_P D CL [(ax, .inr (5, [.ref ah, .ref bh, .int 0, .ref an, .ref aw, .ref ad, .ref ae, .ref ap, .ref aa])), (ah, .inr (3, [.ref af, .ref atp, .ref ab, .int 0, .int 0, .int 0])), (ae, .inr (1, [.ref ef, .ref e1, .ref e2, .ref e3, .ref e4, .int i5, .int i6, .int i7, .int i8, .int i9, .int i10, .int i11])), (ef, .inr (2, [.ref ek, .ref ev, .ref er, .int 0, .int 0, .int 0])), (ek, .inl (cI, 4, .inl gk_1)), (ev, .inl (cI, 4, .inl gv_2)), (er, .inl (cI, 4, .inl gr_3)), (af, .inr (2, [.ref ak, .ref av, .ref ar, .int 0, .int 0, .int 0])), (ak, .inl (cI, 4, .inl fk)), (av, .inl (cI, 4, .inl fv)), (ar, .inl (cI, 4, .inl fr))] H := hP
  have hD : va_D A [(ax, .inr (5, [.ref ah, .ref bh, .int 0, .ref an, .ref aw, .ref ad, .ref ae, .ref ap, .ref aa])), (ah, .inr (3, [.ref af, .ref atp, .ref ab, .int 0, .int 0, .int 0])), (ae, .inr (1, [.ref ef, .ref e1, .ref e2, .ref e3, .ref e4, .int i5, .int i6, .int i7, .int i8, .int i9, .int i10, .int i11])), (ef, .inr (2, [.ref ek, .ref ev, .ref er, .int 0, .int 0, .int 0])), (ek, .inl (cI, 4, .inl gk_1)), (ev, .inl (cI, 4, .inl gv_2)), (er, .inl (cI, 4, .inl gr_3)), (af, .inr (2, [.ref ak, .ref av, .ref ar, .int 0, .int 0, .int 0])), (ak, .inl (cI, 4, .inl fk)), (av, .inl (cI, 4, .inl fv)), (ar, .inl (cI, 4, .inl fr))] := hD
  refine lv_iconst (v := 0) hx hb dX5_tellThen_17 (by decide) ?_
  refine lv_istore_n (lv' := [(2, .int 0), (0, .ref ax), (1, .int 0)]) hx hb dX5_tellThen_18 rfl hl (by decide) rfl (fun ls hl => ?_)
  refine lv_iload_n hx hb dX5_tellThen_19 rfl (lv_at hl 0 rfl) ?_
  refine lv_aload_n hx hb dX5_tellThen_20 rfl (lv_at hl 1 rfl) ?_
  refine va_get (ci := 5) (v := .ref ah) (C := RX5) (T := TX5) (N := 9) hx hb hT wu_X5 hown hK hP 0 rfl rfl 0 (by decide) (hT _ wf_X5_12) (fun _ h9 => h9) rfl dX5_tellThen_21 ?_
  refine va_getN (ci := 3) (v := .ref af) (C := RX3) (T := TX3) (N := 6) hx hb hT wu_X3 hown hK hP 1 rfl rfl 0 (by decide) (va_Nw.use rfl (hN.get 167 kf_X5_32 rfl)) (fun _ h9 => h9) rfl dX5_tellThen_24 ?_
  refine va_getN (ci := 2) (v := .int 0) (C := RX2) (T := TX2) (N := 6) hx hb hT wu_X2 hown hK hP 7 rfl rfl 3 (by decide) (va_Nw.use rfl (hN.get 145 kf_X5_205 rfl)) (fun _ h9 => h9) rfl dX5_tellThen_27 ?_
  refine lv_icmp_ge (tgt := 85) hx hb dX5_tellThen_30 (by decide) (fun _ => ?_) (fun c_0 => absurd (by decide) c_0)
  exact retV C0 () trivial (hP.sub (ws' := [(ax, .inr (5, [.ref ah, .ref bh, .int 0, .ref an, .ref aw, .ref ad, .ref ae, .ref ap, .ref aa])), (ah, .inr (3, [.ref af, .ref atp, .ref ab, .int 0, .int 0, .int 0])), (ae, .inr (1, [.ref ef, .ref e1, .ref e2, .ref e3, .ref e4, .int i5, .int i6, .int i7, .int i8, .int i9, .int i10, .int i11])), (ef, .inr (2, [.ref ek, .ref ev, .ref er, .int 0, .int 0, .int 0])), (af, .inr (2, [.ref ak, .ref av, .ref ar, .int 0, .int 0, .int 0])), (ak, .inl (cI, 4, .inl fk)), (av, .inl (cI, 4, .inl fv)), (ar, .inl (cI, 4, .inl fr))]) [0, 1, 2, 3, 7, 8, 9, 10] rfl) (hD.sub (ws' := [(ax, .inr (5, [.ref ah, .ref bh, .int 0, .ref an, .ref aw, .ref ad, .ref ae, .ref ap, .ref aa])), (ah, .inr (3, [.ref af, .ref atp, .ref ab, .int 0, .int 0, .int 0])), (ae, .inr (1, [.ref ef, .ref e1, .ref e2, .ref e3, .ref e4, .int i5, .int i6, .int i7, .int i8, .int i9, .int i10, .int i11])), (ef, .inr (2, [.ref ek, .ref ev, .ref er, .int 0, .int 0, .int 0])), (af, .inr (2, [.ref ak, .ref av, .ref ar, .int 0, .int 0, .int 0])), (ak, .inl (cI, 4, .inl fk)), (av, .inl (cI, 4, .inl fv)), (ar, .inl (cI, 4, .inl fr))]) [0, 1, 2, 3, 7, 8, 9, 10] (by decide) rfl) hS (Nat.le_of_ble_eq_true rfl) (Nat.le_of_ble_eq_true rfl) dX5_tellThen_85

set_option maxHeartbeats 4000000 in
set_option maxRecDepth 100000 in
theorem x_sure (l : Launch) (D : va_G) (cI cZ cQ cT : ClassId) (sz : Nat) (ax : Nat) (ah : Nat) (bh : Nat) (an : Nat) (aw : Nat) (ad : Nat) (ae : Nat) (ap : Nat) (aa : Nat) (af : Nat) (atp : Nat) (ab : Nat) (ak : Nat) (av : Nat) (ar : Nat) (fk : Nat → Int32) (fv : Nat → Int32) (fr : Nat → Int32) (d1 : Nat) (d2 : Nat) (d3 : Nat) (d4 : Nat) (ef : Nat) (e1 : Nat) (e2 : Nat) (e3 : Nat) (e4 : Nat) (i5 : Int32) (i6 : Int32) (i7 : Int32) (i8 : Int32) (i9 : Int32) (i10 : Int32) (i11 : Int32) (ek : Nat) (ev : Nat) (er : Nat) (jk : Nat → Int32) (jv : Nat → Int32) (jr : Nat → Int32)  : MetI l yX5_sure cX5_sure 5 .int ({ frames := 4, cells := 0, slots := 0, locals := 123 } : Room) [.ref ax] D (TYS cI cZ cQ cT) EF sz [(ax, .inr (5, [.ref ah, .ref bh, .int 0, .ref an, .ref aw, .ref ad, .ref ae, .ref ap, .ref aa])), (ah, .inr (3, [.ref af, .ref atp, .ref ab, .int 0, .int 0, .int 0])), (af, .inr (2, [.ref ak, .ref av, .ref ar, .int 0, .int 0, .int 0])), (ak, .inl (cI, 4, .inl fk)), (av, .inl (cI, 4, .inl fv)), (ar, .inl (cI, 4, .inl fr)), (ad, .inr (1, [.ref af, .ref d1, .ref d2, .ref d3, .ref d4, .int 0, .int 0, .int 0, .int 0, .int 0, .int 0, .int 0])), (ae, .inr (1, [.ref ef, .ref e1, .ref e2, .ref e3, .ref e4, .int i5, .int i6, .int i7, .int i8, .int i9, .int i10, .int i11])), (ef, .inr (2, [.ref ek, .ref ev, .ref er, .int 0, .int 0, .int 0])), (ek, .inl (cI, 4, .inl jk)), (ev, .inl (cI, 4, .inl jv)), (er, .inl (cI, 4, .inl jr))] (S := Unit) (fun (r : Int32) (_ : Unit) => r = 0) (fun _ => []) := by
  refine MetI.mk (lv := [(0, .ref ax)]) (by decide +kernel) (Nat.le_of_ble_eq_true rfl) rfl ?_
  intro p e s m below meth c A ls C0 hP hD hS hX hl
  have C1 := C0
  obtain ⟨hx, hb, hr, hml, hown, hlocks, hname, hT, hN, hK, hA⟩ := C1
  refine lv_aload_n hx hb dX5_sure_0 rfl (lv_at hl 0 rfl) ?_
  refine contV (wc := [(ax, .inr (5, [.ref ah, .ref bh, .int 0, .ref an, .ref aw, .ref ad, .ref ae, .ref ap, .ref aa])), (ah, .inr (3, [.ref af, .ref atp, .ref ab, .int 0, .int 0, .int 0])), (ad, .inr (1, [.ref af, .ref d1, .ref d2, .ref d3, .ref d4, .int 0, .int 0, .int 0, .int 0, .int 0, .int 0, .int 0])), (af, .inr (2, [.ref ak, .ref av, .ref ar, .int 0, .int 0, .int 0]))]) (wr := [(ak, .inl (cI, 4, .inl fk)), (av, .inl (cI, 4, .inl fv)), (ar, .inl (cI, 4, .inl fr)), (ae, .inr (1, [.ref ef, .ref e1, .ref e2, .ref e3, .ref e4, .int i5, .int i6, .int i7, .int i8, .int i9, .int i10, .int i11])), (ef, .inr (2, [.ref ek, .ref ev, .ref er, .int 0, .int 0, .int 0])), (ek, .inl (cI, 4, .inl jk)), (ev, .inl (cI, 4, .inl jv)), (er, .inl (cI, 4, .inl jr))]) C0 hP hD hS [0, 1, 6, 2] [3, 4, 5, 7, 8, 9, 10, 11] rfl rfl (by decide) (by decide) 0 0 (Nat.le_of_ble_eq_true rfl) (Nat.le_of_ble_eq_true rfl) (runV (k := 0) (As := []) (rest := []) C0 (c_searchNow l D cI cZ cQ cT _ ax ah bh an aw ad ae ap aa af atp ab d1 d2 d3 d4 ak av ar) wc_X5_searchNow wl_X5_152 wi_X5_searchNow we_X5_searchNow wz_X5 ⟨by decide, by decide, by decide +kernel⟩ ⟨(Nat.le_of_ble_eq_true rfl), (Nat.le_of_ble_eq_true rfl)⟩ hP hD hS EF.ok hX [0, 1, 6, 2] rfl (by decide) 0 rfl rfl rfl rfl hl.1 rfl (Nat.le_of_ble_eq_true rfl) dX5_sure_1 ⟨(Nat.le_of_ble_eq_true rfl), (Nat.le_of_ble_eq_true rfl)⟩) (fun u_1 H locs w_2 hP hD hS => ?_)
  have hP : va_P D CL [(ak, .inl (cI, 4, .inl fk)), (av, .inl (cI, 4, .inl fv)), (ar, .inl (cI, 4, .inl fr)), (ae, .inr (1, [.ref ef, .ref e1, .ref e2, .ref e3, .ref e4, .int i5, .int i6, .int i7, .int i8, .int i9, .int i10, .int i11])), (ef, .inr (2, [.ref ek, .ref ev, .ref er, .int 0, .int 0, .int 0])), (ek, .inl (cI, 4, .inl jk)), (ev, .inl (cI, 4, .inl jv)), (er, .inl (cI, 4, .inl jr)), (ax, .inr (5, [.ref ah, .ref bh, .int 0, .ref an, .ref aw, .ref ad, .ref ae, .ref ap, .ref aa])), (ah, .inr (3, [.ref af, .ref atp, .ref ab, .int 0, .int 0, .int 0])), (ad, .inr (1, [.ref af, .ref d1, .ref d2, .ref d3, .ref d4, .int 1, .int 1, .int 1, .int 0, .int 0, .int 0, .int 0])), (af, .inr (2, [.ref ak, .ref av, .ref ar, .int 0, .int 0, .int 0]))] H := hP
  have hD : va_D A [(ak, .inl (cI, 4, .inl fk)), (av, .inl (cI, 4, .inl fv)), (ar, .inl (cI, 4, .inl fr)), (ae, .inr (1, [.ref ef, .ref e1, .ref e2, .ref e3, .ref e4, .int i5, .int i6, .int i7, .int i8, .int i9, .int i10, .int i11])), (ef, .inr (2, [.ref ek, .ref ev, .ref er, .int 0, .int 0, .int 0])), (ek, .inl (cI, 4, .inl jk)), (ev, .inl (cI, 4, .inl jv)), (er, .inl (cI, 4, .inl jr)), (ax, .inr (5, [.ref ah, .ref bh, .int 0, .ref an, .ref aw, .ref ad, .ref ae, .ref ap, .ref aa])), (ah, .inr (3, [.ref af, .ref atp, .ref ab, .int 0, .int 0, .int 0])), (ad, .inr (1, [.ref af, .ref d1, .ref d2, .ref d3, .ref d4, .int 1, .int 1, .int 1, .int 0, .int 0, .int 0, .int 0])), (af, .inr (2, [.ref ak, .ref av, .ref ar, .int 0, .int 0, .int 0]))] := hD
  refine lv_aload_n hx hb dX5_sure_4 rfl (lv_at hl 0 rfl) ?_
  refine va_get (ci := 5) (v := .ref ad) (C := RX5) (T := TX5) (N := 9) hx hb hT wu_X5 hown hK hP 8 rfl rfl 5 (by decide) (hT _ wf_X5_39) (fun _ h9 => h9) rfl dX5_sure_5 ?_
  refine va_getN (ci := 1) (v := .int 1) (C := RX1) (T := TX1) (N := 12) hx hb hT wu_X1 hown hK hP 10 rfl rfl 7 (by decide) (va_Nw.use rfl (hN.get 243 kf_X5_155 rfl)) (fun _ h9 => h9) rfl dX5_sure_8 ?_
  refine lv_if_ne (tgt := 17) hx hb dX5_sure_11 (by decide) (fun _ => ?_) (fun c_0 => absurd c_0 (by decide))
  refine lv_bipush (v := (-5)) hx hb dX5_sure_17 (by decide) ?_
  refine lv_istore_n (lv' := [(1, .int (-5)), (0, .ref ax)]) hx hb dX5_sure_19 rfl hl (by decide) rfl (fun ls hl => ?_)
  refine lv_iconst (v := 5) hx hb dX5_sure_20 (by decide) ?_
  refine lv_istore_n (lv' := [(2, .int 5), (1, .int (-5)), (0, .ref ax)]) hx hb dX5_sure_21 rfl hl (by decide) rfl (fun ls hl => ?_)
  refine lv_iconst (v := 0) hx hb dX5_sure_22 (by decide) ?_
  refine lv_istore_n (lv' := [(3, .int 0), (2, .int 5), (1, .int (-5)), (0, .ref ax)]) hx hb dX5_sure_23 rfl hl (by decide) rfl (fun ls hl => ?_)
  refine lv_iload_n hx hb dX5_sure_24 rfl (lv_at hl 0 rfl) ?_
  refine lv_iconst (v := 1) hx hb dX5_sure_25 (by decide) ?_
  refine lv_aload_n hx hb dX5_sure_26 rfl (lv_at hl 3 rfl) ?_
  refine va_get (ci := 5) (v := .ref ah) (C := RX5) (T := TX5) (N := 9) hx hb hT wu_X5 hown hK hP 8 rfl rfl 0 (by decide) (hT _ wf_X5_12) (fun _ h9 => h9) rfl dX5_sure_27 ?_
  refine va_getN (ci := 3) (v := .ref af) (C := RX3) (T := TX3) (N := 6) hx hb hT wu_X3 hown hK hP 9 rfl rfl 0 (by decide) (va_Nw.use rfl (hN.get 167 kf_X5_32 rfl)) (fun _ h9 => h9) rfl dX5_sure_30 ?_
  refine va_getN (ci := 2) (v := .int 0) (C := RX2) (T := TX2) (N := 6) hx hb hT wu_X2 hown hK hP 11 rfl rfl 3 (by decide) (va_Nw.use rfl (hN.get 145 kf_X5_205 rfl)) (fun _ h9 => h9) rfl dX5_sure_33 ?_
  refine lv_ishl hx hb dX5_sure_36 ?_
  refine lv_ci 1 (by decide +kernel) ?_
  refine lv_icmp_ge (tgt := 102) hx hb dX5_sure_37 (by decide) (fun c_0 => absurd c_0 (by decide)) (fun _ => ?_)
  refine lv_iload_n hx hb dX5_sure_40 rfl (lv_at hl 0 rfl) ?_
  refine contI (wc := []) (wr := [(ak, .inl (cI, 4, .inl fk)), (av, .inl (cI, 4, .inl fv)), (ar, .inl (cI, 4, .inl fr)), (ae, .inr (1, [.ref ef, .ref e1, .ref e2, .ref e3, .ref e4, .int i5, .int i6, .int i7, .int i8, .int i9, .int i10, .int i11])), (ef, .inr (2, [.ref ek, .ref ev, .ref er, .int 0, .int 0, .int 0])), (ek, .inl (cI, 4, .inl jk)), (ev, .inl (cI, 4, .inl jv)), (er, .inl (cI, 4, .inl jr)), (ax, .inr (5, [.ref ah, .ref bh, .int 0, .ref an, .ref aw, .ref ad, .ref ae, .ref ap, .ref aa])), (ah, .inr (3, [.ref af, .ref atp, .ref ab, .int 0, .int 0, .int 0])), (ad, .inr (1, [.ref af, .ref d1, .ref d2, .ref d3, .ref d4, .int 1, .int 1, .int 1, .int 0, .int 0, .int 0, .int 0])), (af, .inr (2, [.ref ak, .ref av, .ref ar, .int 0, .int 0, .int 0]))]) C0 hP hD hS [] [0, 1, 2, 3, 4, 5, 6, 7, 8, 9, 10, 11] rfl rfl (by decide) (by decide) 0 0 (Nat.le_of_ble_eq_true rfl) (Nat.le_of_ble_eq_true rfl) (runS (k := 1) (As := [.int 0]) (rest := []) C0 (c_bitCount0 l D cI cZ cQ cT _ ) wc_J6_bitCount_0f7a4 wl_X5_208 wt_J6_bitCount_0f7a4 wz_J6 ⟨by decide, by decide, by decide +kernel⟩ ⟨(Nat.le_of_ble_eq_true rfl), (Nat.le_of_ble_eq_true rfl)⟩ hP hD hS EF.ok hX [] rfl (by decide) rfl hl.1 rfl (Nat.le_of_ble_eq_true rfl) dX5_sure_41 ⟨(Nat.le_of_ble_eq_true rfl), (Nat.le_of_ble_eq_true rfl)⟩) (fun r_6 u_4 H locs w_5 hP hD hS => ?_)
  have hP : va_P D CL [(ak, .inl (cI, 4, .inl fk)), (av, .inl (cI, 4, .inl fv)), (ar, .inl (cI, 4, .inl fr)), (ae, .inr (1, [.ref ef, .ref e1, .ref e2, .ref e3, .ref e4, .int i5, .int i6, .int i7, .int i8, .int i9, .int i10, .int i11])), (ef, .inr (2, [.ref ek, .ref ev, .ref er, .int 0, .int 0, .int 0])), (ek, .inl (cI, 4, .inl jk)), (ev, .inl (cI, 4, .inl jv)), (er, .inl (cI, 4, .inl jr)), (ax, .inr (5, [.ref ah, .ref bh, .int 0, .ref an, .ref aw, .ref ad, .ref ae, .ref ap, .ref aa])), (ah, .inr (3, [.ref af, .ref atp, .ref ab, .int 0, .int 0, .int 0])), (ad, .inr (1, [.ref af, .ref d1, .ref d2, .ref d3, .ref d4, .int 1, .int 1, .int 1, .int 0, .int 0, .int 0, .int 0])), (af, .inr (2, [.ref ak, .ref av, .ref ar, .int 0, .int 0, .int 0]))] H := hP
  have hD : va_D A [(ak, .inl (cI, 4, .inl fk)), (av, .inl (cI, 4, .inl fv)), (ar, .inl (cI, 4, .inl fr)), (ae, .inr (1, [.ref ef, .ref e1, .ref e2, .ref e3, .ref e4, .int i5, .int i6, .int i7, .int i8, .int i9, .int i10, .int i11])), (ef, .inr (2, [.ref ek, .ref ev, .ref er, .int 0, .int 0, .int 0])), (ek, .inl (cI, 4, .inl jk)), (ev, .inl (cI, 4, .inl jv)), (er, .inl (cI, 4, .inl jr)), (ax, .inr (5, [.ref ah, .ref bh, .int 0, .ref an, .ref aw, .ref ad, .ref ae, .ref ap, .ref aa])), (ah, .inr (3, [.ref af, .ref atp, .ref ab, .int 0, .int 0, .int 0])), (ad, .inr (1, [.ref af, .ref d1, .ref d2, .ref d3, .ref d4, .int 1, .int 1, .int 1, .int 0, .int 0, .int 0, .int 0])), (af, .inr (2, [.ref ak, .ref av, .ref ar, .int 0, .int 0, .int 0]))] := hD
  obtain rfl : r_6 = 0 := w_5
  refine lv_istore (lv' := [(4, .int 0), (3, .int 0), (2, .int 5), (1, .int (-5)), (0, .ref ax)]) hx hb dX5_sure_44 hl (by decide) rfl (fun ls hl => ?_)
  refine lv_iload hx hb dX5_sure_46 (lv_at hl 0 rfl) ?_
  refine lv_iload_n hx hb dX5_sure_48 rfl (lv_at hl 2 rfl) ?_
  refine lv_icmp_ge (tgt := 96) hx hb dX5_sure_49 (by decide) (fun c_0 => absurd c_0 (by decide)) (fun _ => ?_)
  refine lv_aload_n hx hb dX5_sure_52 rfl (lv_at hl 4 rfl) ?_
  refine lv_iload_n hx hb dX5_sure_53 rfl (lv_at hl 1 rfl) ?_
  refine contV (wc := [(ax, .inr (5, [.ref ah, .ref bh, .int 0, .ref an, .ref aw, .ref ad, .ref ae, .ref ap, .ref aa])), (ah, .inr (3, [.ref af, .ref atp, .ref ab, .int 0, .int 0, .int 0])), (ae, .inr (1, [.ref ef, .ref e1, .ref e2, .ref e3, .ref e4, .int i5, .int i6, .int i7, .int i8, .int i9, .int i10, .int i11])), (ef, .inr (2, [.ref ek, .ref ev, .ref er, .int 0, .int 0, .int 0])), (ek, .inl (cI, 4, .inl jk)), (ev, .inl (cI, 4, .inl jv)), (er, .inl (cI, 4, .inl jr)), (af, .inr (2, [.ref ak, .ref av, .ref ar, .int 0, .int 0, .int 0])), (ak, .inl (cI, 4, .inl fk)), (av, .inl (cI, 4, .inl fv)), (ar, .inl (cI, 4, .inl fr))]) (wr := [(ad, .inr (1, [.ref af, .ref d1, .ref d2, .ref d3, .ref d4, .int 1, .int 1, .int 1, .int 0, .int 0, .int 0, .int 0]))]) C0 hP hD hS [8, 9, 3, 4, 5, 6, 7, 11, 0, 1, 2] [10] rfl rfl (by decide) (by decide) 0 0 (Nat.le_of_ble_eq_true rfl) (Nat.le_of_ble_eq_true rfl) (runV (k := 1) (As := [.int 0]) (rest := []) C0 (c_tellThen l D cI cZ cQ cT _ ax ah bh an aw ad ae ap aa af atp ab ef e1 e2 e3 e4 i5 i6 i7 i8 i9 i10 i11 ek ev er jk jv jr ak av ar fk fv fr) wc_X5_tellThen wl_X5_213 wi_X5_tellThen we_X5_tellThen wz_X5 ⟨by decide, by decide, by decide +kernel⟩ ⟨(Nat.le_of_ble_eq_true rfl), (Nat.le_of_ble_eq_true rfl)⟩ hP hD hS EF.ok hX [8, 9, 3, 4, 5, 6, 7, 11, 0, 1, 2] rfl (by decide) 8 rfl rfl rfl rfl hl.1 rfl (Nat.le_of_ble_eq_true rfl) dX5_sure_54 ⟨(Nat.le_of_ble_eq_true rfl), (Nat.le_of_ble_eq_true rfl)⟩) (fun u_7 H locs w_8 hP hD hS => ?_)
  have hP : va_P D CL [(ad, .inr (1, [.ref af, .ref d1, .ref d2, .ref d3, .ref d4, .int 1, .int 1, .int 1, .int 0, .int 0, .int 0, .int 0])), (ax, .inr (5, [.ref ah, .ref bh, .int 0, .ref an, .ref aw, .ref ad, .ref ae, .ref ap, .ref aa])), (ah, .inr (3, [.ref af, .ref atp, .ref ab, .int 0, .int 0, .int 0])), (ae, .inr (1, [.ref ef, .ref e1, .ref e2, .ref e3, .ref e4, .int i5, .int i6, .int i7, .int i8, .int i9, .int i10, .int i11])), (ef, .inr (2, [.ref ek, .ref ev, .ref er, .int 0, .int 0, .int 0])), (af, .inr (2, [.ref ak, .ref av, .ref ar, .int 0, .int 0, .int 0])), (ak, .inl (cI, 4, .inl fk)), (av, .inl (cI, 4, .inl fv)), (ar, .inl (cI, 4, .inl fr))] H := hP
  have hD : va_D A [(ad, .inr (1, [.ref af, .ref d1, .ref d2, .ref d3, .ref d4, .int 1, .int 1, .int 1, .int 0, .int 0, .int 0, .int 0])), (ax, .inr (5, [.ref ah, .ref bh, .int 0, .ref an, .ref aw, .ref ad, .ref ae, .ref ap, .ref aa])), (ah, .inr (3, [.ref af, .ref atp, .ref ab, .int 0, .int 0, .int 0])), (ae, .inr (1, [.ref ef, .ref e1, .ref e2, .ref e3, .ref e4, .int i5, .int i6, .int i7, .int i8, .int i9, .int i10, .int i11])), (ef, .inr (2, [.ref ek, .ref ev, .ref er, .int 0, .int 0, .int 0])), (af, .inr (2, [.ref ak, .ref av, .ref ar, .int 0, .int 0, .int 0])), (ak, .inl (cI, 4, .inl fk)), (av, .inl (cI, 4, .inl fv)), (ar, .inl (cI, 4, .inl fr))] := hD
  refine lv_aload_n hx hb dX5_sure_57 rfl (lv_at hl 4 rfl) ?_
  refine contV (wc := [(ax, .inr (5, [.ref ah, .ref bh, .int 0, .ref an, .ref aw, .ref ad, .ref ae, .ref ap, .ref aa])), (ah, .inr (3, [.ref af, .ref atp, .ref ab, .int 0, .int 0, .int 0])), (ae, .inr (1, [.ref ef, .ref e1, .ref e2, .ref e3, .ref e4, .int i5, .int i6, .int i7, .int i8, .int i9, .int i10, .int i11])), (ef, .inr (2, [.ref ek, .ref ev, .ref er, .int 0, .int 0, .int 0]))]) (wr := [(ad, .inr (1, [.ref af, .ref d1, .ref d2, .ref d3, .ref d4, .int 1, .int 1, .int 1, .int 0, .int 0, .int 0, .int 0])), (af, .inr (2, [.ref ak, .ref av, .ref ar, .int 0, .int 0, .int 0])), (ak, .inl (cI, 4, .inl fk)), (av, .inl (cI, 4, .inl fv)), (ar, .inl (cI, 4, .inl fr))]) C0 hP hD hS [1, 2, 3, 4] [0, 5, 6, 7, 8] rfl rfl (by decide) (by decide) 0 0 (Nat.le_of_ble_eq_true rfl) (Nat.le_of_ble_eq_true rfl) (runV (k := 0) (As := []) (rest := []) C0 (c_searchThen l D cI cZ cQ cT _ ax ah bh an aw ad ae ap aa af atp ab ef e1 e2 e3 e4 i5 i6 i7 i8 i9 i10 i11 ek ev er) wc_X5_searchThen wl_X5_191 wi_X5_searchThen we_X5_searchThen wz_X5 ⟨by decide, by decide, by decide +kernel⟩ ⟨(Nat.le_of_ble_eq_true rfl), (Nat.le_of_ble_eq_true rfl)⟩ hP hD hS EF.ok hX [1, 2, 3, 4] rfl (by decide) 1 rfl rfl rfl rfl hl.1 rfl (Nat.le_of_ble_eq_true rfl) dX5_sure_58 ⟨(Nat.le_of_ble_eq_true rfl), (Nat.le_of_ble_eq_true rfl)⟩) (fun u_10 H locs w_11 hP hD hS => ?_)
  have hP : va_P D CL [(ad, .inr (1, [.ref af, .ref d1, .ref d2, .ref d3, .ref d4, .int 1, .int 1, .int 1, .int 0, .int 0, .int 0, .int 0])), (af, .inr (2, [.ref ak, .ref av, .ref ar, .int 0, .int 0, .int 0])), (ak, .inl (cI, 4, .inl fk)), (av, .inl (cI, 4, .inl fv)), (ar, .inl (cI, 4, .inl fr)), (ax, .inr (5, [.ref ah, .ref bh, .int 0, .ref an, .ref aw, .ref ad, .ref ae, .ref ap, .ref aa])), (ah, .inr (3, [.ref af, .ref atp, .ref ab, .int 0, .int 0, .int 0])), (ae, .inr (1, [.ref ef, .ref e1, .ref e2, .ref e3, .ref e4, .int 1, .int 1, .int 1, .int 0, .int 0, .int 0, .int 0])), (ef, .inr (2, [.ref ek, .ref ev, .ref er, .int 0, .int 0, .int 0]))] H := hP
  have hD : va_D A [(ad, .inr (1, [.ref af, .ref d1, .ref d2, .ref d3, .ref d4, .int 1, .int 1, .int 1, .int 0, .int 0, .int 0, .int 0])), (af, .inr (2, [.ref ak, .ref av, .ref ar, .int 0, .int 0, .int 0])), (ak, .inl (cI, 4, .inl fk)), (av, .inl (cI, 4, .inl fv)), (ar, .inl (cI, 4, .inl fr)), (ax, .inr (5, [.ref ah, .ref bh, .int 0, .ref an, .ref aw, .ref ad, .ref ae, .ref ap, .ref aa])), (ah, .inr (3, [.ref af, .ref atp, .ref ab, .int 0, .int 0, .int 0])), (ae, .inr (1, [.ref ef, .ref e1, .ref e2, .ref e3, .ref e4, .int 1, .int 1, .int 1, .int 0, .int 0, .int 0, .int 0])), (ef, .inr (2, [.ref ek, .ref ev, .ref er, .int 0, .int 0, .int 0]))] := hD
  refine lv_aload_n hx hb dX5_sure_61 rfl (lv_at hl 4 rfl) ?_
  refine va_get (ci := 5) (v := .ref ae) (C := RX5) (T := TX5) (N := 9) hx hb hT wu_X5 hown hK hP 5 rfl rfl 6 (by decide) (hT _ wf_X5_46) (fun _ h9 => h9) rfl dX5_sure_62 ?_
  refine va_getN (ci := 1) (v := .int 1) (C := RX1) (T := TX1) (N := 12) hx hb hT wu_X1 hown hK hP 7 rfl rfl 7 (by decide) (va_Nw.use rfl (hN.get 243 kf_X5_155 rfl)) (fun _ h9 => h9) rfl dX5_sure_65 ?_
  refine lv_iconst (v := 1) hx hb dX5_sure_68 (by decide) ?_
  refine lv_icmp_ne (tgt := 76) hx hb dX5_sure_69 (by decide) (fun c_0 => absurd (by decide) c_0) (fun _ => ?_)
  refine lv_iload_n hx hb dX5_sure_72 rfl (lv_at hl 1 rfl) ?_
  refine lv_goto (tgt := 77) hx hb dX5_sure_73 (by decide) ?_
  refine lv_istore_n (lv' := [(1, .int 0), (4, .int 0), (3, .int 0), (2, .int 5), (0, .ref ax)]) hx hb dX5_sure_77 rfl hl (by decide) rfl (fun ls hl => ?_)
  refine lv_aload_n hx hb dX5_sure_78 rfl (lv_at hl 4 rfl) ?_
  refine va_get (ci := 5) (v := .ref ae) (C := RX5) (T := TX5) (N := 9) hx hb hT wu_X5 hown hK hP 5 rfl rfl 6 (by decide) (hT _ wf_X5_46) (fun _ h9 => h9) rfl dX5_sure_79 ?_
  refine va_getN (ci := 1) (v := .int 1) (C := RX1) (T := TX1) (N := 12) hx hb hT wu_X1 hown hK hP 7 rfl rfl 7 (by decide) (va_Nw.use rfl (hN.get 243 kf_X5_155 rfl)) (fun _ h9 => h9) rfl dX5_sure_82 ?_
  refine lv_iconst (v := 1) hx hb dX5_sure_85 (by decide) ?_
  refine lv_icmp_ne (tgt := 94) hx hb dX5_sure_86 (by decide) (fun c_0 => absurd (by decide) c_0) (fun _ => ?_)
  refine lv_iload hx hb dX5_sure_89 (lv_at hl 1 rfl) ?_
  refine lv_goto (tgt := 95) hx hb dX5_sure_91 (by decide) ?_
  refine lv_istore_n (lv' := [(2, .int 0), (1, .int 0), (4, .int 0), (3, .int 0), (0, .ref ax)]) hx hb dX5_sure_95 rfl hl (by decide) rfl (fun ls hl => ?_)
  refine lv_iinc (v := 1) (lv' := [(3, .int 1), (2, .int 0), (1, .int 0), (4, .int 0), (0, .ref ax)]) hx hb dX5_sure_96 hl (k := 3) rfl (by decide) (by decide) rfl (fun ls hl => ?_)
  refine lv_goto (tgt := 24) hx hb dX5_sure_99 (by decide) ?_
  refine lv_iload_n hx hb dX5_sure_24 rfl (lv_at hl 0 rfl) ?_
  refine lv_iconst (v := 1) hx hb dX5_sure_25 (by decide) ?_
  refine lv_aload_n hx hb dX5_sure_26 rfl (lv_at hl 4 rfl) ?_
  refine va_get (ci := 5) (v := .ref ah) (C := RX5) (T := TX5) (N := 9) hx hb hT wu_X5 hown hK hP 5 rfl rfl 0 (by decide) (hT _ wf_X5_12) (fun _ h9 => h9) rfl dX5_sure_27 ?_
  refine va_getN (ci := 3) (v := .ref af) (C := RX3) (T := TX3) (N := 6) hx hb hT wu_X3 hown hK hP 6 rfl rfl 0 (by decide) (va_Nw.use rfl (hN.get 167 kf_X5_32 rfl)) (fun _ h9 => h9) rfl dX5_sure_30 ?_
  refine va_getN (ci := 2) (v := .int 0) (C := RX2) (T := TX2) (N := 6) hx hb hT wu_X2 hown hK hP 1 rfl rfl 3 (by decide) (va_Nw.use rfl (hN.get 145 kf_X5_205 rfl)) (fun _ h9 => h9) rfl dX5_sure_33 ?_
  refine lv_ishl hx hb dX5_sure_36 ?_
  refine lv_ci 1 (by decide +kernel) ?_
  refine lv_icmp_ge (tgt := 102) hx hb dX5_sure_37 (by decide) (fun _ => ?_) (fun c_0 => absurd (by decide) c_0)
  refine lv_iload_n hx hb dX5_sure_102 rfl (lv_at hl 2 rfl) ?_
  exact retI C0 rfl () rfl (hP.sub (ws' := []) [] rfl) (hD.sub (ws' := []) [] (by decide) rfl) hS (Nat.le_of_ble_eq_true rfl) (Nat.le_of_ble_eq_true rfl) dX5_sure_103

set_option maxHeartbeats 4000000 in
set_option maxRecDepth 100000 in
theorem x_secret (l : Launch) (D : va_G) (cI cZ cQ cT : ClassId) (sz : Nat) (ax : Nat) (p1 : Int32) (p2 : Int32) (ah : Nat) (bh : Nat) (an : Nat) (aw : Nat) (ad : Nat) (ae : Nat) (ap : Nat) (aa : Nat) (af : Nat) (atp : Nat) (ab : Nat) (ak : Nat) (av : Nat) (ar : Nat)  : MetI l yX5_secret cX5_secret 3 .int ({ frames := 1, cells := 0, slots := 0, locals := 21 } : Room) [.ref ax, .int p1, .int p2] D (TYS cI cZ cQ cT) EF sz [(ax, .inr (5, [.ref ah, .ref bh, .int 0, .ref an, .ref aw, .ref ad, .ref ae, .ref ap, .ref aa])), (ah, .inr (3, [.ref af, .ref atp, .ref ab, .int 0, .int 0, .int 0])), (af, .inr (2, [.ref ak, .ref av, .ref ar, .int 0, .int 0, .int 0]))] (S := Unit) (fun (r : Int32) (_ : Unit) => r = (-1)) (fun _ => []) := by
  refine MetI.mk (lv := [(0, .ref ax), (1, .int p1), (2, .int p2)]) (by decide +kernel) (Nat.le_of_ble_eq_true rfl) rfl ?_
  intro p e s m below meth c A ls C0 hP hD hS hX hl
  have C1 := C0
  obtain ⟨hx, hb, hr, hml, hown, hlocks, hname, hT, hN, hK, hA⟩ := C1
  refine lv_aload_n hx hb dX5_secret_0 rfl (lv_at hl 0 rfl) ?_
  refine va_get (ci := 5) (v := .ref ah) (C := RX5) (T := TX5) (N := 9) hx hb hT wu_X5 hown hK hP 0 rfl rfl 0 (by decide) (hT _ wf_X5_12) (fun _ h9 => h9) rfl dX5_secret_1 ?_
  refine va_getN (ci := 3) (v := .ref af) (C := RX3) (T := TX3) (N := 6) hx hb hT wu_X3 hown hK hP 1 rfl rfl 0 (by decide) (va_Nw.use rfl (hN.get 167 kf_X5_32 rfl)) (fun _ h9 => h9) rfl dX5_secret_4 ?_
  refine lv_iload_n hx hb dX5_secret_7 rfl (lv_at hl 1 rfl) ?_
  refine contI (wc := [(af, .inr (2, [.ref ak, .ref av, .ref ar, .int 0, .int 0, .int 0]))]) (wr := [(ax, .inr (5, [.ref ah, .ref bh, .int 0, .ref an, .ref aw, .ref ad, .ref ae, .ref ap, .ref aa])), (ah, .inr (3, [.ref af, .ref atp, .ref ab, .int 0, .int 0, .int 0]))]) C0 hP hD hS [2] [0, 1] rfl rfl (by decide) (by decide) 0 0 (Nat.le_of_ble_eq_true rfl) (Nat.le_of_ble_eq_true rfl) (runVN (k := 1) (As := [.int p1]) (rest := []) "DayKnown" 493 C0 (c_has l D cI cZ cQ cT _ af p1 ak av ar 0 0) wc_X2_has kl_X5_96 wi_X2_has we_X2_has wz_X2 ⟨by decide, by decide, by decide +kernel⟩ ⟨(Nat.le_of_ble_eq_true rfl), (Nat.le_of_ble_eq_true rfl)⟩ hP hD hS EF.ok hX [2] rfl (by decide) 2 rfl rfl rfl rfl hl.1 rfl (Nat.le_of_ble_eq_true rfl) dX5_secret_8 ⟨(Nat.le_of_ble_eq_true rfl), (Nat.le_of_ble_eq_true rfl)⟩) (fun r_3 u_1 H locs w_2 hP hD hS => ?_)
  have hP : va_P D CL [(ax, .inr (5, [.ref ah, .ref bh, .int 0, .ref an, .ref aw, .ref ad, .ref ae, .ref ap, .ref aa])), (ah, .inr (3, [.ref af, .ref atp, .ref ab, .int 0, .int 0, .int 0])), (af, .inr (2, [.ref ak, .ref av, .ref ar, .int 0, .int 0, .int 0]))] H := hP
  have hD : va_D A [(ax, .inr (5, [.ref ah, .ref bh, .int 0, .ref an, .ref aw, .ref ad, .ref ae, .ref ap, .ref aa])), (ah, .inr (3, [.ref af, .ref atp, .ref ab, .int 0, .int 0, .int 0])), (af, .inr (2, [.ref ak, .ref av, .ref ar, .int 0, .int 0, .int 0]))] := hD
  obtain rfl : r_3 = 0 := w_2
  refine lv_if_eq (tgt := 21) hx hb dX5_secret_11 (by decide) (fun _ => ?_) (fun c_0 => absurd (by decide) c_0)
  refine lv_iconst (v := (-1)) hx hb dX5_secret_21 (by decide) ?_
  exact retI C0 rfl () rfl (hP.sub (ws' := []) [] rfl) (hD.sub (ws' := []) [] (by decide) rfl) hS (Nat.le_of_ble_eq_true rfl) (Nat.le_of_ble_eq_true rfl) dX5_secret_22

set_option maxHeartbeats 4000000 in
set_option maxRecDepth 100000 in
theorem x_swap (l : Launch) (D : va_G) (cI cZ cQ cT : ClassId) (sz : Nat) (ax : Nat) (p1 : Int32) (ah : Nat) (bh : Nat) (an : Nat) (aw : Nat) (ad : Nat) (ae : Nat) (ap : Nat) (aa : Nat) (af : Nat) (atp : Nat) (ab : Nat) (ak : Nat) (av : Nat) (ar : Nat) (d1 : Nat) (d2 : Nat) (d3 : Nat) (d4 : Nat)  : MetI l yX5_swap cX5_swap 6 .int ({ frames := 4, cells := 0, slots := 0, locals := 87 } : Room) [.ref ax, .int p1] D (TYS cI cZ cQ cT) EF sz [(ax, .inr (5, [.ref ah, .ref bh, .int 0, .ref an, .ref aw, .ref ad, .ref ae, .ref ap, .ref aa])), (ah, .inr (3, [.ref af, .ref atp, .ref ab, .int 0, .int 0, .int 0])), (af, .inr (2, [.ref ak, .ref av, .ref ar, .int 0, .int 0, .int 0])), (ad, .inr (1, [.ref af, .ref d1, .ref d2, .ref d3, .ref d4, .int 0, .int 0, .int 0, .int 0, .int 0, .int 0, .int 0]))] (S := Unit) (fun (r : Int32) (_ : Unit) => r = (if (p1 = 0 ∨ p1 = 1) then (if p1 = (0 : Int32) then 0 else (-5)) else (-1))) (fun _ => []) := by
  refine MetI.mk (lv := [(0, .ref ax), (1, .int p1)]) (by decide +kernel) (Nat.le_of_ble_eq_true rfl) rfl ?_
  intro p e s m below meth c A ls C0 hP hD hS hX hl
  have C1 := C0
  obtain ⟨hx, hb, hr, hml, hown, hlocks, hname, hT, hN, hK, hA⟩ := C1
  refine lv_iload_n hx hb dX5_swap_0 rfl (lv_at hl 1 rfl) ?_
  refine contI (wc := []) (wr := [(ax, .inr (5, [.ref ah, .ref bh, .int 0, .ref an, .ref aw, .ref ad, .ref ae, .ref ap, .ref aa])), (ah, .inr (3, [.ref af, .ref atp, .ref ab, .int 0, .int 0, .int 0])), (af, .inr (2, [.ref ak, .ref av, .ref ar, .int 0, .int 0, .int 0])), (ad, .inr (1, [.ref af, .ref d1, .ref d2, .ref d3, .ref d4, .int 0, .int 0, .int 0, .int 0, .int 0, .int 0, .int 0]))]) C0 hP hD hS [] [0, 1, 2, 3] rfl rfl (by decide) (by decide) 0 0 (Nat.le_of_ble_eq_true rfl) (Nat.le_of_ble_eq_true rfl) (runS (k := 1) (As := [.int p1]) (rest := []) C0 (c_isPart l D cI cZ cQ cT _ p1) wc_X5_isPart wl_X5_170 wt_X5_isPart wz_X5 ⟨by decide, by decide, by decide +kernel⟩ ⟨(Nat.le_of_ble_eq_true rfl), (Nat.le_of_ble_eq_true rfl)⟩ hP hD hS EF.ok hX [] rfl (by decide) rfl hl.1 rfl (Nat.le_of_ble_eq_true rfl) dX5_swap_1 ⟨(Nat.le_of_ble_eq_true rfl), (Nat.le_of_ble_eq_true rfl)⟩) (fun r_3 u_1 H locs w_2 hP hD hS => ?_)
  have hP : va_P D CL [(ax, .inr (5, [.ref ah, .ref bh, .int 0, .ref an, .ref aw, .ref ad, .ref ae, .ref ap, .ref aa])), (ah, .inr (3, [.ref af, .ref atp, .ref ab, .int 0, .int 0, .int 0])), (af, .inr (2, [.ref ak, .ref av, .ref ar, .int 0, .int 0, .int 0])), (ad, .inr (1, [.ref af, .ref d1, .ref d2, .ref d3, .ref d4, .int 0, .int 0, .int 0, .int 0, .int 0, .int 0, .int 0]))] H := hP
  have hD : va_D A [(ax, .inr (5, [.ref ah, .ref bh, .int 0, .ref an, .ref aw, .ref ad, .ref ae, .ref ap, .ref aa])), (ah, .inr (3, [.ref af, .ref atp, .ref ab, .int 0, .int 0, .int 0])), (af, .inr (2, [.ref ak, .ref av, .ref ar, .int 0, .int 0, .int 0])), (ad, .inr (1, [.ref af, .ref d1, .ref d2, .ref d3, .ref d4, .int 0, .int 0, .int 0, .int 0, .int 0, .int 0, .int 0]))] := hD
  refine (Decidable.em ((p1 = 0 ∨ p1 = 1))).elim (fun c_4 => ?_) (fun c_4 => ?_)
  · obtain rfl : r_3 = 1 := w_2.trans (if_pos c_4)
    refine lv_if_ne (tgt := 9) hx hb dX5_swap_4 (by decide) (fun _ => ?_) (fun c_0 => absurd c_0 (by decide))
    refine lv_aload_n hx hb dX5_swap_9 rfl (lv_at hl 0 rfl) ?_
    refine contV (wc := [(ax, .inr (5, [.ref ah, .ref bh, .int 0, .ref an, .ref aw, .ref ad, .ref ae, .ref ap, .ref aa])), (ah, .inr (3, [.ref af, .ref atp, .ref ab, .int 0, .int 0, .int 0])), (ad, .inr (1, [.ref af, .ref d1, .ref d2, .ref d3, .ref d4, .int 0, .int 0, .int 0, .int 0, .int 0, .int 0, .int 0])), (af, .inr (2, [.ref ak, .ref av, .ref ar, .int 0, .int 0, .int 0]))]) (wr := []) C0 hP hD hS [0, 1, 3, 2] [] rfl rfl (by decide) (by decide) 0 0 (Nat.le_of_ble_eq_true rfl) (Nat.le_of_ble_eq_true rfl) (runV (k := 0) (As := []) (rest := []) C0 (c_searchNow l D cI cZ cQ cT _ ax ah bh an aw ad ae ap aa af atp ab d1 d2 d3 d4 ak av ar) wc_X5_searchNow wl_X5_152 wi_X5_searchNow we_X5_searchNow wz_X5 ⟨by decide, by decide, by decide +kernel⟩ ⟨(Nat.le_of_ble_eq_true rfl), (Nat.le_of_ble_eq_true rfl)⟩ hP hD hS EF.ok hX [0, 1, 3, 2] rfl (by decide) 0 rfl rfl rfl rfl hl.1 rfl (Nat.le_of_ble_eq_true rfl) dX5_swap_10 ⟨(Nat.le_of_ble_eq_true rfl), (Nat.le_of_ble_eq_true rfl)⟩) (fun u_5 H locs w_6 hP hD hS => ?_)
    have hP : va_P D CL [(ax, .inr (5, [.ref ah, .ref bh, .int 0, .ref an, .ref aw, .ref ad, .ref ae, .ref ap, .ref aa])), (ah, .inr (3, [.ref af, .ref atp, .ref ab, .int 0, .int 0, .int 0])), (ad, .inr (1, [.ref af, .ref d1, .ref d2, .ref d3, .ref d4, .int 1, .int 1, .int 1, .int 0, .int 0, .int 0, .int 0])), (af, .inr (2, [.ref ak, .ref av, .ref ar, .int 0, .int 0, .int 0]))] H := hP
    have hD : va_D A [(ax, .inr (5, [.ref ah, .ref bh, .int 0, .ref an, .ref aw, .ref ad, .ref ae, .ref ap, .ref aa])), (ah, .inr (3, [.ref af, .ref atp, .ref ab, .int 0, .int 0, .int 0])), (ad, .inr (1, [.ref af, .ref d1, .ref d2, .ref d3, .ref d4, .int 1, .int 1, .int 1, .int 0, .int 0, .int 0, .int 0])), (af, .inr (2, [.ref ak, .ref av, .ref ar, .int 0, .int 0, .int 0]))] := hD
    refine lv_iconst (v := 0) hx hb dX5_swap_13 (by decide) ?_
    refine lv_istore_n (lv' := [(2, .int 0), (0, .ref ax), (1, .int p1)]) hx hb dX5_swap_14 rfl hl (by decide) rfl (fun ls hl => ?_)
    refine lv_bipush (v := (-5)) hx hb dX5_swap_15 (by decide) ?_
    refine lv_istore_n (lv' := [(3, .int (-5)), (2, .int 0), (0, .ref ax), (1, .int p1)]) hx hb dX5_swap_17 rfl hl (by decide) rfl (fun ls hl => ?_)
    refine lv_iconst (v := 0) hx hb dX5_swap_18 (by decide) ?_
    refine lv_istore (lv' := [(4, .int 0), (3, .int (-5)), (2, .int 0), (0, .ref ax), (1, .int p1)]) hx hb dX5_swap_19 hl (by decide) rfl (fun ls hl => ?_)
    refine lv_iload hx hb dX5_swap_21 (lv_at hl 0 rfl) ?_
    refine lv_aload_n hx hb dX5_swap_23 rfl (lv_at hl 3 rfl) ?_
    refine va_get (ci := 5) (v := .ref ah) (C := RX5) (T := TX5) (N := 9) hx hb hT wu_X5 hown hK hP 0 rfl rfl 0 (by decide) (hT _ wf_X5_12) (fun _ h9 => h9) rfl dX5_swap_24 ?_
    refine va_getN (ci := 3) (v := .ref af) (C := RX3) (T := TX3) (N := 6) hx hb hT wu_X3 hown hK hP 1 rfl rfl 0 (by decide) (va_Nw.use rfl (hN.get 167 kf_X5_32 rfl)) (fun _ h9 => h9) rfl dX5_swap_27 ?_
    refine va_getN (ci := 2) (v := .int 0) (C := RX2) (T := TX2) (N := 6) hx hb hT wu_X2 hown hK hP 3 rfl rfl 3 (by decide) (va_Nw.use rfl (hN.get 145 kf_X5_205 rfl)) (fun _ h9 => h9) rfl dX5_swap_30 ?_
    refine lv_icmp_ge (tgt := 135) hx hb dX5_swap_33 (by decide) (fun _ => ?_) (fun c_0 => absurd (by decide) c_0)
    refine lv_iload_n hx hb dX5_swap_135 rfl (lv_at hl 4 rfl) ?_
    refine lv_if_ne (tgt := 143) hx hb dX5_swap_136 (by decide) (fun c_8 => ?_) (fun c_8 => ?_)
    · refine lv_iload_n hx hb dX5_swap_143 rfl (lv_at hl 1 rfl) ?_
      exact retI C0 rfl () (((if_pos c_4).trans ((if_neg c_8))).symm) (hP.sub (ws' := []) [] rfl) (hD.sub (ws' := []) [] (by decide) rfl) hS (Nat.le_of_ble_eq_true rfl) (Nat.le_of_ble_eq_true rfl) dX5_swap_144
    · refine lv_iload_n hx hb dX5_swap_139 rfl (lv_at hl 2 rfl) ?_
      refine lv_goto (tgt := 144) hx hb dX5_swap_140 (by decide) ?_
      exact retI C0 rfl () (((if_pos c_4).trans ((if_pos c_8))).symm) (hP.sub (ws' := []) [] rfl) (hD.sub (ws' := []) [] (by decide) rfl) hS (Nat.le_of_ble_eq_true rfl) (Nat.le_of_ble_eq_true rfl) dX5_swap_144
  · obtain rfl : r_3 = 0 := w_2.trans (if_neg c_4)
    refine lv_if_ne (tgt := 9) hx hb dX5_swap_4 (by decide) (fun c_0 => absurd (by decide) c_0) (fun _ => ?_)
    refine lv_iconst (v := (-1)) hx hb dX5_swap_7 (by decide) ?_
    exact retI C0 rfl () (((if_neg c_4)).symm) (hP.sub (ws' := []) [] rfl) (hD.sub (ws' := []) [] (by decide) rfl) hS (Nat.le_of_ble_eq_true rfl) (Nat.le_of_ble_eq_true rfl) dX5_swap_8

set_option maxHeartbeats 4000000 in
set_option maxRecDepth 100000 in
theorem x_book (l : Launch) (D : va_G) (cI cZ cQ cT : ClassId) (sz : Nat) (ax : Nat) (p1 : Int32) (ah : Nat) (bh : Nat) (an : Nat) (aw : Nat) (ad : Nat) (ae : Nat) (ap : Nat) (aa : Nat) (af : Nat) (atp : Nat) (ab : Nat) (ak : Nat) (av : Nat) (ar : Nat) (fb : Nat → Int32)  : MetI l yX5_book cX5_book 2 .int ({ frames := 2, cells := 0, slots := 0, locals := 41 } : Room) [.ref ax, .int p1] D (TYS cI cZ cQ cT) EF sz [(ax, .inr (5, [.ref ah, .ref bh, .int 0, .ref an, .ref aw, .ref ad, .ref ae, .ref ap, .ref aa])), (ah, .inr (3, [.ref af, .ref atp, .ref ab, .int 0, .int 0, .int 0])), (af, .inr (2, [.ref ak, .ref av, .ref ar, .int 0, .int 0, .int 0])), (ab, .inl (cI, 10, .inl fb))] (S := Unit) (fun (r : Int32) (_ : Unit) => r = (if p1 = (-1 : Int32) then 0 else (if (p1 = 0) then 1 else (-2)))) (fun _ => []) := by
  refine MetI.mk (lv := [(0, .ref ax), (1, .int p1)]) (by decide +kernel) (Nat.le_of_ble_eq_true rfl) rfl ?_
  intro p e s m below meth c A ls C0 hP hD hS hX hl
  have C1 := C0
  obtain ⟨hx, hb, hr, hml, hown, hlocks, hname, hT, hN, hK, hA⟩ := C1
  refine lv_iload_n hx hb dX5_book_0 rfl (lv_at hl 1 rfl) ?_
  refine lv_iconst (v := (-1)) hx hb dX5_book_1 (by decide) ?_
  refine lv_icmp_ne (tgt := 15) hx hb dX5_book_2 (by decide) (fun c_1 => ?_) (fun c_1 => ?_)
  · refine lv_aload_n hx hb dX5_book_15 rfl (lv_at hl 0 rfl) ?_
    refine va_get (ci := 5) (v := .ref ah) (C := RX5) (T := TX5) (N := 9) hx hb hT wu_X5 hown hK hP 0 rfl rfl 0 (by decide) (hT _ wf_X5_12) (fun _ h9 => h9) rfl dX5_book_16 ?_
    refine va_getN (ci := 3) (v := .ref af) (C := RX3) (T := TX3) (N := 6) hx hb hT wu_X3 hown hK hP 1 rfl rfl 0 (by decide) (va_Nw.use rfl (hN.get 167 kf_X5_32 rfl)) (fun _ h9 => h9) rfl dX5_book_19 ?_
    refine lv_iload_n hx hb dX5_book_22 rfl (lv_at hl 1 rfl) ?_
    refine contI (wc := [(af, .inr (2, [.ref ak, .ref av, .ref ar, .int 0, .int 0, .int 0]))]) (wr := [(ax, .inr (5, [.ref ah, .ref bh, .int 0, .ref an, .ref aw, .ref ad, .ref ae, .ref ap, .ref aa])), (ah, .inr (3, [.ref af, .ref atp, .ref ab, .int 0, .int 0, .int 0])), (ab, .inl (cI, 10, .inl fb))]) C0 hP hD hS [2] [0, 1, 3] rfl rfl (by decide) (by decide) 0 0 (Nat.le_of_ble_eq_true rfl) (Nat.le_of_ble_eq_true rfl) (runVN (k := 1) (As := [.int p1]) (rest := []) "DayKnown" 514 C0 (c_isDay l D cI cZ cQ cT _ af p1 ak av ar 0 0) wc_X2_isDay kl_X5_117 wi_X2_isDay we_X2_isDay wz_X2 ⟨by decide, by decide, by decide +kernel⟩ ⟨(Nat.le_of_ble_eq_true rfl), (Nat.le_of_ble_eq_true rfl)⟩ hP hD hS EF.ok hX [2] rfl (by decide) 2 rfl rfl rfl rfl hl.1 rfl (Nat.le_of_ble_eq_true rfl) dX5_book_23 ⟨(Nat.le_of_ble_eq_true rfl), (Nat.le_of_ble_eq_true rfl)⟩) (fun r_4 u_2 H locs w_3 hP hD hS => ?_)
    have hP : va_P D CL [(ax, .inr (5, [.ref ah, .ref bh, .int 0, .ref an, .ref aw, .ref ad, .ref ae, .ref ap, .ref aa])), (ah, .inr (3, [.ref af, .ref atp, .ref ab, .int 0, .int 0, .int 0])), (ab, .inl (cI, 10, .inl fb)), (af, .inr (2, [.ref ak, .ref av, .ref ar, .int 0, .int 0, .int 0]))] H := hP
    have hD : va_D A [(ax, .inr (5, [.ref ah, .ref bh, .int 0, .ref an, .ref aw, .ref ad, .ref ae, .ref ap, .ref aa])), (ah, .inr (3, [.ref af, .ref atp, .ref ab, .int 0, .int 0, .int 0])), (ab, .inl (cI, 10, .inl fb)), (af, .inr (2, [.ref ak, .ref av, .ref ar, .int 0, .int 0, .int 0]))] := hD
    refine (Decidable.em ((p1 = 0))).elim (fun c_5 => ?_) (fun c_5 => ?_)
    · obtain rfl : r_4 = 1 := w_3.trans (if_pos c_5)
      subst c_5
      refine lv_if_ne (tgt := 32) hx hb dX5_book_26 (by decide) (fun _ => ?_) (fun c_0 => absurd c_0 (by decide))
      refine lv_aload_n hx hb dX5_book_32 rfl (lv_at hl 0 rfl) ?_
      refine va_get (ci := 5) (v := .ref ah) (C := RX5) (T := TX5) (N := 9) hx hb hT wu_X5 hown hK hP 0 rfl rfl 0 (by decide) (hT _ wf_X5_12) (fun _ h9 => h9) rfl dX5_book_33 ?_
      refine va_getN (ci := 3) (v := .int 0) (C := RX3) (T := TX3) (N := 6) hx hb hT wu_X3 hown hK hP 1 rfl rfl 4 (by decide) (va_Nw.use rfl (hN.get 175 kf_X5_227 rfl)) (fun _ h9 => h9) rfl dX5_book_36 ?_
      refine lv_if_lt (tgt := 60) hx hb dX5_book_39 (by decide) (fun c_0 => absurd c_0 (by decide)) (fun _ => ?_)
      refine lv_aload_n hx hb dX5_book_42 rfl (lv_at hl 0 rfl) ?_
      refine va_get (ci := 5) (v := .ref ah) (C := RX5) (T := TX5) (N := 9) hx hb hT wu_X5 hown hK hP 0 rfl rfl 0 (by decide) (hT _ wf_X5_12) (fun _ h9 => h9) rfl dX5_book_43 ?_
      refine va_getN (ci := 3) (v := .int 0) (C := RX3) (T := TX3) (N := 6) hx hb hT wu_X3 hown hK hP 1 rfl rfl 4 (by decide) (va_Nw.use rfl (hN.get 175 kf_X5_227 rfl)) (fun _ h9 => h9) rfl dX5_book_46 ?_
      refine lv_aload_n hx hb dX5_book_49 rfl (lv_at hl 0 rfl) ?_
      refine va_get (ci := 5) (v := .ref ah) (C := RX5) (T := TX5) (N := 9) hx hb hT wu_X5 hown hK hP 0 rfl rfl 0 (by decide) (hT _ wf_X5_12) (fun _ h9 => h9) rfl dX5_book_50 ?_
      refine va_getN (ci := 3) (v := .ref ab) (C := RX3) (T := TX3) (N := 6) hx hb hT wu_X3 hown hK hP 1 rfl rfl 2 (by decide) (va_Nw.use rfl (hN.get 171 kf_X5_230 rfl)) (fun _ h9 => h9) rfl dX5_book_53 ?_
      refine va_alen hx hb hK hP 2 0 rfl rfl (v := 10) (show Int32.ofNat 10 = (10 : Int32) by decide +kernel) dX5_book_56 ?_
      refine lv_icmp_lt (tgt := 63) hx hb dX5_book_57 (by decide) (fun _ => ?_) (fun c_0 => absurd (by decide) c_0)
      refine lv_aload_n hx hb dX5_book_63 rfl (lv_at hl 0 rfl) ?_
      refine va_get (ci := 5) (v := .ref ah) (C := RX5) (T := TX5) (N := 9) hx hb hT wu_X5 hown hK hP 0 rfl rfl 0 (by decide) (hT _ wf_X5_12) (fun _ h9 => h9) rfl dX5_book_64 ?_
      refine va_getN (ci := 3) (v := .ref ab) (C := RX3) (T := TX3) (N := 6) hx hb hT wu_X3 hown hK hP 1 rfl rfl 2 (by decide) (va_Nw.use rfl (hN.get 171 kf_X5_230 rfl)) (fun _ h9 => h9) rfl dX5_book_67 ?_
      refine lv_aload_n hx hb dX5_book_70 rfl (lv_at hl 0 rfl) ?_
      refine va_get (ci := 5) (v := .ref ah) (C := RX5) (T := TX5) (N := 9) hx hb hT wu_X5 hown hK hP 0 rfl rfl 0 (by decide) (hT _ wf_X5_12) (fun _ h9 => h9) rfl dX5_book_71 ?_
      refine va_getN (ci := 3) (v := .int 0) (C := RX3) (T := TX3) (N := 6) hx hb hT wu_X3 hown hK hP 1 rfl rfl 4 (by decide) (va_Nw.use rfl (hN.get 175 kf_X5_227 rfl)) (fun _ h9 => h9) rfl dX5_book_74 ?_
      refine lv_iload_n hx hb dX5_book_77 rfl (lv_at hl 1 rfl) ?_
      refine va_iast hx hb hK hP hD hS 2 0 rfl rfl (vin _ _ (by decide +kernel)) dX5_book_78 (fun H locs hP hD hS => ?_)
      have hP : va_P D CL [(ax, .inr (5, [.ref ah, .ref bh, .int 0, .ref an, .ref aw, .ref ad, .ref ae, .ref ap, .ref aa])), (ah, .inr (3, [.ref af, .ref atp, .ref ab, .int 0, .int 0, .int 0])), (ab, .inl (cI, 10, .inl (upd fb ((0 : Int32)).toNatClampNeg 0))), (af, .inr (2, [.ref ak, .ref av, .ref ar, .int 0, .int 0, .int 0]))] H := hP
      have hD : va_D A [(ax, .inr (5, [.ref ah, .ref bh, .int 0, .ref an, .ref aw, .ref ad, .ref ae, .ref ap, .ref aa])), (ah, .inr (3, [.ref af, .ref atp, .ref ab, .int 0, .int 0, .int 0])), (ab, .inl (cI, 10, .inl (upd fb ((0 : Int32)).toNatClampNeg 0))), (af, .inr (2, [.ref ak, .ref av, .ref ar, .int 0, .int 0, .int 0]))] := hD
      refine lv_aload_n hx hb dX5_book_79 rfl (lv_at hl 0 rfl) ?_
      refine va_get (ci := 5) (v := .ref ah) (C := RX5) (T := TX5) (N := 9) hx hb hT wu_X5 hown hK hP 0 rfl rfl 0 (by decide) (hT _ wf_X5_12) (fun _ h9 => h9) rfl dX5_book_80 ?_
      refine lv_dup hx hb dX5_book_83 rfl ?_
      refine va_getN (ci := 3) (v := .int 0) (C := RX3) (T := TX3) (N := 6) hx hb hT wu_X3 hown hK hP 1 rfl rfl 4 (by decide) (va_Nw.use rfl (hN.get 175 kf_X5_227 rfl)) (fun _ h9 => h9) rfl dX5_book_84 ?_
      refine lv_iconst (v := 1) hx hb dX5_book_87 (by decide) ?_
      refine lv_iadd hx hb dX5_book_88 ?_
      refine lv_ci 1 (by decide +kernel) ?_
      refine va_putN (ci := 3) (v := .int 1) (ty := .int) (C := RX3) (T := TX3) (N := 6) hx hb hT wu_X3 tyX3 tyX3_ok nmX3 hown hK hP hD hS 1 rfl rfl 4 (by decide) (va_Nw.use rfl (hN.get 175 kf_X5_227 rfl)) (fun _ h9 => h9) rfl (by decide +kernel) rfl rfl (Nat.le_of_ble_eq_true rfl) dX5_book_89 (fun H locs hP hD hS => ?_)
      have hP : va_P D CL [(ax, .inr (5, [.ref ah, .ref bh, .int 0, .ref an, .ref aw, .ref ad, .ref ae, .ref ap, .ref aa])), (ah, .inr (3, [.ref af, .ref atp, .ref ab, .int 0, .int 1, .int 0])), (ab, .inl (cI, 10, .inl (upd fb ((0 : Int32)).toNatClampNeg 0))), (af, .inr (2, [.ref ak, .ref av, .ref ar, .int 0, .int 0, .int 0]))] H := hP
      have hD : va_D A [(ax, .inr (5, [.ref ah, .ref bh, .int 0, .ref an, .ref aw, .ref ad, .ref ae, .ref ap, .ref aa])), (ah, .inr (3, [.ref af, .ref atp, .ref ab, .int 0, .int 1, .int 0])), (ab, .inl (cI, 10, .inl (upd fb ((0 : Int32)).toNatClampNeg 0))), (af, .inr (2, [.ref ak, .ref av, .ref ar, .int 0, .int 0, .int 0]))] := hD
      refine lv_aload_n hx hb dX5_book_92 rfl (lv_at hl 0 rfl) ?_
      refine va_get (ci := 5) (v := .ref ah) (C := RX5) (T := TX5) (N := 9) hx hb hT wu_X5 hown hK hP 0 rfl rfl 0 (by decide) (hT _ wf_X5_12) (fun _ h9 => h9) rfl dX5_book_93 ?_
      refine va_getN (ci := 3) (v := .int 1) (C := RX3) (T := TX3) (N := 6) hx hb hT wu_X3 hown hK hP 1 rfl rfl 4 (by decide) (va_Nw.use rfl (hN.get 175 kf_X5_227 rfl)) (fun _ h9 => h9) rfl dX5_book_96 ?_
      exact retI C0 rfl () (((if_neg c_1).trans ((if_pos rfl))).symm) (hP.sub (ws' := []) [] rfl) (hD.sub (ws' := []) [] (by decide) rfl) hS (Nat.le_of_ble_eq_true rfl) (Nat.le_of_ble_eq_true rfl) dX5_book_99
    · obtain rfl : r_4 = 0 := w_3.trans (if_neg c_5)
      refine lv_if_ne (tgt := 32) hx hb dX5_book_26 (by decide) (fun c_0 => absurd (by decide) c_0) (fun _ => ?_)
      refine lv_bipush (v := (-2)) hx hb dX5_book_29 (by decide) ?_
      exact retI C0 rfl () (((if_neg c_1).trans ((if_neg c_5))).symm) (hP.sub (ws' := []) [] rfl) (hD.sub (ws' := []) [] (by decide) rfl) hS (Nat.le_of_ble_eq_true rfl) (Nat.le_of_ble_eq_true rfl) dX5_book_31
  · refine lv_aload_n hx hb dX5_book_5 rfl (lv_at hl 0 rfl) ?_
    refine va_get (ci := 5) (v := .ref ah) (C := RX5) (T := TX5) (N := 9) hx hb hT wu_X5 hown hK hP 0 rfl rfl 0 (by decide) (hT _ wf_X5_12) (fun _ h9 => h9) rfl dX5_book_6 ?_
    refine lv_iconst (v := 0) hx hb dX5_book_9 (by decide) ?_
    refine va_putN (ci := 3) (v := .int 0) (ty := .int) (C := RX3) (T := TX3) (N := 6) hx hb hT wu_X3 tyX3 tyX3_ok nmX3 hown hK hP hD hS 1 rfl rfl 4 (by decide) (va_Nw.use rfl (hN.get 175 kf_X5_227 rfl)) (fun _ h9 => h9) rfl (by decide +kernel) rfl rfl (Nat.le_of_ble_eq_true rfl) dX5_book_10 (fun H locs hP hD hS => ?_)
    have hP : va_P D CL [(ax, .inr (5, [.ref ah, .ref bh, .int 0, .ref an, .ref aw, .ref ad, .ref ae, .ref ap, .ref aa])), (ah, .inr (3, [.ref af, .ref atp, .ref ab, .int 0, .int 0, .int 0])), (af, .inr (2, [.ref ak, .ref av, .ref ar, .int 0, .int 0, .int 0])), (ab, .inl (cI, 10, .inl fb))] H := hP
    have hD : va_D A [(ax, .inr (5, [.ref ah, .ref bh, .int 0, .ref an, .ref aw, .ref ad, .ref ae, .ref ap, .ref aa])), (ah, .inr (3, [.ref af, .ref atp, .ref ab, .int 0, .int 0, .int 0])), (af, .inr (2, [.ref ak, .ref av, .ref ar, .int 0, .int 0, .int 0])), (ab, .inl (cI, 10, .inl fb))] := hD
    refine lv_iconst (v := 0) hx hb dX5_book_13 (by decide) ?_
    exact retI C0 rfl () (((if_pos c_1)).symm) (hP.sub (ws' := []) [] rfl) (hD.sub (ws' := []) [] (by decide) rfl) hS (Nat.le_of_ble_eq_true rfl) (Nat.le_of_ble_eq_true rfl) dX5_book_14

set_option maxHeartbeats 4000000 in
set_option maxRecDepth 100000 in
theorem x_looked (l : Launch) (D : va_G) (cI cZ cQ cT : ClassId) (sz : Nat) (ax : Nat) (p1 : Int32) (ah : Nat) (bh : Nat) (an : Nat) (aw : Nat) (ad : Nat) (ae : Nat) (ap : Nat) (aa : Nat) (af : Nat) (atp : Nat) (ab : Nat) (ak : Nat) (av : Nat) (ar : Nat) (d1 : Nat) (d2 : Nat) (d3 : Nat) (d4 : Nat)  : MetI l yX5_looked cX5_looked 5 .int ({ frames := 1, cells := 0, slots := 0, locals := 27 } : Room) [.ref ax, .int p1] D (TYS cI cZ cQ cT) EF sz [(ax, .inr (5, [.ref ah, .ref bh, .int 0, .ref an, .ref aw, .ref ad, .ref ae, .ref ap, .ref aa])), (ah, .inr (3, [.ref af, .ref atp, .ref ab, .int 0, .int 0, .int 0])), (af, .inr (2, [.ref ak, .ref av, .ref ar, .int 0, .int 0, .int 0])), (ad, .inr (1, [.ref af, .ref d1, .ref d2, .ref d3, .ref d4, .int 0, .int 0, .int 0, .int 0, .int 0, .int 0, .int 0]))] (S := Unit) (fun (r : Int32) (_ : Unit) => r = (if (p1 = 0 ∨ p1 = 1) then (if p1 = (0 : Int32) then 0 else (-5)) else (-1))) (fun _ => []) := by
  refine MetI.mk (lv := [(0, .ref ax), (1, .int p1)]) (by decide +kernel) (Nat.le_of_ble_eq_true rfl) rfl ?_
  intro p e s m below meth c A ls C0 hP hD hS hX hl
  have C1 := C0
  obtain ⟨hx, hb, hr, hml, hown, hlocks, hname, hT, hN, hK, hA⟩ := C1
  refine lv_iload_n hx hb dX5_looked_0 rfl (lv_at hl 1 rfl) ?_
  refine contI (wc := []) (wr := [(ax, .inr (5, [.ref ah, .ref bh, .int 0, .ref an, .ref aw, .ref ad, .ref ae, .ref ap, .ref aa])), (ah, .inr (3, [.ref af, .ref atp, .ref ab, .int 0, .int 0, .int 0])), (af, .inr (2, [.ref ak, .ref av, .ref ar, .int 0, .int 0, .int 0])), (ad, .inr (1, [.ref af, .ref d1, .ref d2, .ref d3, .ref d4, .int 0, .int 0, .int 0, .int 0, .int 0, .int 0, .int 0]))]) C0 hP hD hS [] [0, 1, 2, 3] rfl rfl (by decide) (by decide) 0 0 (Nat.le_of_ble_eq_true rfl) (Nat.le_of_ble_eq_true rfl) (runS (k := 1) (As := [.int p1]) (rest := []) C0 (c_isPart l D cI cZ cQ cT _ p1) wc_X5_isPart wl_X5_170 wt_X5_isPart wz_X5 ⟨by decide, by decide, by decide +kernel⟩ ⟨(Nat.le_of_ble_eq_true rfl), (Nat.le_of_ble_eq_true rfl)⟩ hP hD hS EF.ok hX [] rfl (by decide) rfl hl.1 rfl (Nat.le_of_ble_eq_true rfl) dX5_looked_1 ⟨(Nat.le_of_ble_eq_true rfl), (Nat.le_of_ble_eq_true rfl)⟩) (fun r_3 u_1 H locs w_2 hP hD hS => ?_)
  have hP : va_P D CL [(ax, .inr (5, [.ref ah, .ref bh, .int 0, .ref an, .ref aw, .ref ad, .ref ae, .ref ap, .ref aa])), (ah, .inr (3, [.ref af, .ref atp, .ref ab, .int 0, .int 0, .int 0])), (af, .inr (2, [.ref ak, .ref av, .ref ar, .int 0, .int 0, .int 0])), (ad, .inr (1, [.ref af, .ref d1, .ref d2, .ref d3, .ref d4, .int 0, .int 0, .int 0, .int 0, .int 0, .int 0, .int 0]))] H := hP
  have hD : va_D A [(ax, .inr (5, [.ref ah, .ref bh, .int 0, .ref an, .ref aw, .ref ad, .ref ae, .ref ap, .ref aa])), (ah, .inr (3, [.ref af, .ref atp, .ref ab, .int 0, .int 0, .int 0])), (af, .inr (2, [.ref ak, .ref av, .ref ar, .int 0, .int 0, .int 0])), (ad, .inr (1, [.ref af, .ref d1, .ref d2, .ref d3, .ref d4, .int 0, .int 0, .int 0, .int 0, .int 0, .int 0, .int 0]))] := hD
  refine (Decidable.em ((p1 = 0 ∨ p1 = 1))).elim (fun c_4 => ?_) (fun c_4 => ?_)
  · obtain rfl : r_3 = 1 := w_2.trans (if_pos c_4)
    refine lv_if_ne (tgt := 9) hx hb dX5_looked_4 (by decide) (fun _ => ?_) (fun c_0 => absurd c_0 (by decide))
    refine lv_aload_n hx hb dX5_looked_9 rfl (lv_at hl 0 rfl) ?_
    refine va_get (ci := 5) (v := .ref ad) (C := RX5) (T := TX5) (N := 9) hx hb hT wu_X5 hown hK hP 0 rfl rfl 5 (by decide) (hT _ wf_X5_39) (fun _ h9 => h9) rfl dX5_looked_10 ?_
    refine lv_aload_n hx hb dX5_looked_13 rfl (lv_at hl 0 rfl) ?_
    refine contR (wc := [(ax, .inr (5, [.ref ah, .ref bh, .int 0, .ref an, .ref aw, .ref ad, .ref ae, .ref ap, .ref aa])), (ah, .inr (3, [.ref af, .ref atp, .ref ab, .int 0, .int 0, .int 0]))]) (wr := [(af, .inr (2, [.ref ak, .ref av, .ref ar, .int 0, .int 0, .int 0])), (ad, .inr (1, [.ref af, .ref d1, .ref d2, .ref d3, .ref d4, .int 0, .int 0, .int 0, .int 0, .int 0, .int 0, .int 0]))]) C0 hP hD hS [0, 1] [2, 3] rfl rfl (by decide) (by decide) 0 0 (Nat.le_of_ble_eq_true rfl) (Nat.le_of_ble_eq_true rfl) (runV (k := 0) (As := []) (rest := [.ref ad]) C0 (c_newestTown l D cI cZ cQ cT _ ax ah bh an aw ad ae ap aa af atp ab) wc_X5_newestTown wl_X5_76 wi_X5_newestTown we_X5_newestTown wz_X5 ⟨by decide, by decide, by decide +kernel⟩ ⟨(Nat.le_of_ble_eq_true rfl), (Nat.le_of_ble_eq_true rfl)⟩ hP hD hS EF.ok hX [0, 1] rfl (by decide) 0 rfl rfl rfl rfl hl.1 rfl (Nat.le_of_ble_eq_true rfl) dX5_looked_14 ⟨(Nat.le_of_ble_eq_true rfl), (Nat.le_of_ble_eq_true rfl)⟩) (fun u_5 H locs w_6 hP hD hS => ?_)
    have hP : va_P D CL [(af, .inr (2, [.ref ak, .ref av, .ref ar, .int 0, .int 0, .int 0])), (ad, .inr (1, [.ref af, .ref d1, .ref d2, .ref d3, .ref d4, .int 0, .int 0, .int 0, .int 0, .int 0, .int 0, .int 0])), (ax, .inr (5, [.ref ah, .ref bh, .int 0, .ref an, .ref aw, .ref ad, .ref ae, .ref ap, .ref aa])), (ah, .inr (3, [.ref af, .ref atp, .ref ab, .int 0, .int 0, .int 0]))] H := hP
    have hD : va_D A [(af, .inr (2, [.ref ak, .ref av, .ref ar, .int 0, .int 0, .int 0])), (ad, .inr (1, [.ref af, .ref d1, .ref d2, .ref d3, .ref d4, .int 0, .int 0, .int 0, .int 0, .int 0, .int 0, .int 0])), (ax, .inr (5, [.ref ah, .ref bh, .int 0, .ref an, .ref aw, .ref ad, .ref ae, .ref ap, .ref aa])), (ah, .inr (3, [.ref af, .ref atp, .ref ab, .int 0, .int 0, .int 0]))] := hD
    refine contV (wc := [(ad, .inr (1, [.ref af, .ref d1, .ref d2, .ref d3, .ref d4, .int 0, .int 0, .int 0, .int 0, .int 0, .int 0, .int 0])), (af, .inr (2, [.ref ak, .ref av, .ref ar, .int 0, .int 0, .int 0]))]) (wr := [(ax, .inr (5, [.ref ah, .ref bh, .int 0, .ref an, .ref aw, .ref ad, .ref ae, .ref ap, .ref aa])), (ah, .inr (3, [.ref af, .ref atp, .ref ab, .int 0, .int 0, .int 0]))]) C0 hP hD hS [1, 0] [2, 3] rfl rfl (by decide) (by decide) 0 0 (Nat.le_of_ble_eq_true rfl) (Nat.le_of_ble_eq_true rfl) (runVN (k := 1) (As := [.ref an]) (rest := []) "DayKnown" 529 C0 (c_prepare l D cI cZ cQ cT _ ad an af d1 d2 d3 d4 0 0 0 0 0 0 ak av ar) wc_X1_prepare kl_X5_123 wi_X1_prepare we_X1_prepare wz_X1 ⟨by decide, by decide, by decide +kernel⟩ ⟨(Nat.le_of_ble_eq_true rfl), (Nat.le_of_ble_eq_true rfl)⟩ hP hD hS EF.ok hX [1, 0] rfl (by decide) 1 rfl rfl rfl rfl hl.1 rfl (Nat.le_of_ble_eq_true rfl) dX5_looked_17 ⟨(Nat.le_of_ble_eq_true rfl), (Nat.le_of_ble_eq_true rfl)⟩) (fun u_8 H locs w_9 hP hD hS => ?_)
    have hP : va_P D CL [(ax, .inr (5, [.ref ah, .ref bh, .int 0, .ref an, .ref aw, .ref ad, .ref ae, .ref ap, .ref aa])), (ah, .inr (3, [.ref af, .ref atp, .ref ab, .int 0, .int 0, .int 0])), (ad, .inr (1, [.ref af, .ref d1, .ref d2, .ref d3, .ref d4, .int 1, .int 0, .int 0, .int 0, .int 0, .int 0, .int 0])), (af, .inr (2, [.ref ak, .ref av, .ref ar, .int 0, .int 0, .int 0]))] H := hP
    have hD : va_D A [(ax, .inr (5, [.ref ah, .ref bh, .int 0, .ref an, .ref aw, .ref ad, .ref ae, .ref ap, .ref aa])), (ah, .inr (3, [.ref af, .ref atp, .ref ab, .int 0, .int 0, .int 0])), (ad, .inr (1, [.ref af, .ref d1, .ref d2, .ref d3, .ref d4, .int 1, .int 0, .int 0, .int 0, .int 0, .int 0, .int 0])), (af, .inr (2, [.ref ak, .ref av, .ref ar, .int 0, .int 0, .int 0]))] := hD
    refine lv_iconst (v := 0) hx hb dX5_looked_20 (by decide) ?_
    refine lv_istore_n (lv' := [(2, .int 0), (0, .ref ax), (1, .int p1)]) hx hb dX5_looked_21 rfl hl (by decide) rfl (fun ls hl => ?_)
    refine lv_bipush (v := (-5)) hx hb dX5_looked_22 (by decide) ?_
    refine lv_istore_n (lv' := [(3, .int (-5)), (2, .int 0), (0, .ref ax), (1, .int p1)]) hx hb dX5_looked_24 rfl hl (by decide) rfl (fun ls hl => ?_)
    refine lv_iconst (v := 0) hx hb dX5_looked_25 (by decide) ?_
    refine lv_istore (lv' := [(4, .int 0), (3, .int (-5)), (2, .int 0), (0, .ref ax), (1, .int p1)]) hx hb dX5_looked_26 hl (by decide) rfl (fun ls hl => ?_)
    refine lv_iload hx hb dX5_looked_28 (lv_at hl 0 rfl) ?_
    refine lv_aload_n hx hb dX5_looked_30 rfl (lv_at hl 3 rfl) ?_
    refine va_get (ci := 5) (v := .ref ah) (C := RX5) (T := TX5) (N := 9) hx hb hT wu_X5 hown hK hP 0 rfl rfl 0 (by decide) (hT _ wf_X5_12) (fun _ h9 => h9) rfl dX5_looked_31 ?_
    refine va_getN (ci := 3) (v := .int 0) (C := RX3) (T := TX3) (N := 6) hx hb hT wu_X3 hown hK hP 1 rfl rfl 4 (by decide) (va_Nw.use rfl (hN.get 175 kf_X5_227 rfl)) (fun _ h9 => h9) rfl dX5_looked_34 ?_
    refine lv_icmp_ge (tgt := 100) hx hb dX5_looked_37 (by decide) (fun _ => ?_) (fun c_0 => absurd (by decide) c_0)
    refine lv_iload_n hx hb dX5_looked_100 rfl (lv_at hl 4 rfl) ?_
    refine lv_if_ne (tgt := 108) hx hb dX5_looked_101 (by decide) (fun c_11 => ?_) (fun c_11 => ?_)
    · refine lv_iload_n hx hb dX5_looked_108 rfl (lv_at hl 1 rfl) ?_
      exact retI C0 rfl () (((if_pos c_4).trans ((if_neg c_11))).symm) (hP.sub (ws' := []) [] rfl) (hD.sub (ws' := []) [] (by decide) rfl) hS (Nat.le_of_ble_eq_true rfl) (Nat.le_of_ble_eq_true rfl) dX5_looked_109
    · refine lv_iload_n hx hb dX5_looked_104 rfl (lv_at hl 2 rfl) ?_
      refine lv_goto (tgt := 109) hx hb dX5_looked_105 (by decide) ?_
      exact retI C0 rfl () (((if_pos c_4).trans ((if_pos c_11))).symm) (hP.sub (ws' := []) [] rfl) (hD.sub (ws' := []) [] (by decide) rfl) hS (Nat.le_of_ble_eq_true rfl) (Nat.le_of_ble_eq_true rfl) dX5_looked_109
  · obtain rfl : r_3 = 0 := w_2.trans (if_neg c_4)
    refine lv_if_ne (tgt := 9) hx hb dX5_looked_4 (by decide) (fun c_0 => absurd (by decide) c_0) (fun _ => ?_)
    refine lv_iconst (v := (-1)) hx hb dX5_looked_7 (by decide) ?_
    exact retI C0 rfl () (((if_neg c_4)).symm) (hP.sub (ws' := []) [] rfl) (hD.sub (ws' := []) [] (by decide) rfl) hS (Nat.le_of_ble_eq_true rfl) (Nat.le_of_ble_eq_true rfl) dX5_looked_8

set_option maxHeartbeats 4000000 in
set_option maxRecDepth 100000 in
theorem c_clear (l : Launch) (D : va_G) (cI cZ cQ cT : ClassId) (sz : Nat) (aa : Nat) (a1 : Nat)  : MetV l yX0_clear cX0_clear 1 ({ frames := 0, cells := 0, slots := 0, locals := 0 } : Room) [.ref aa] D (TYS cI cZ cQ cT) EF sz [(aa, .inr (0, [.ref a1, .int 0, .int 0, .int 0, .int 0]))] (S := Unit) (fun (_ : Unit) => True) (fun _ => [(aa, .inr (0, [.ref a1, .int 0, .int 0, .int 0, .int 0]))]) := by
  refine MetV.mk (lv := [(0, .ref aa)]) (by decide +kernel) (Nat.le_of_ble_eq_true rfl) rfl ?_
  intro p e s m below meth c A ls C0 hP hD hS hX hl
  have C1 := C0
  obtain ⟨hx, hb, hr, hml, hown, hlocks, hname, hT, hN, hK, hA⟩ := C1
  refine lv_aload_n hx hb dX0_clear_0 rfl (lv_at hl 0 rfl) ?_
  refine lv_iconst (v := 0) hx hb dX0_clear_1 (by decide) ?_
  refine va_put (ci := 0) (v := .int 0) (ty := .int) (C := RX0) (T := TX0) (N := 5) hx hb hT wu_X0 tyX0 tyX0_ok nmX0 hown hK hP hD hS 0 rfl rfl 1 (by decide) (hT _ wf_X0_15) (fun _ h9 => h9) rfl (by decide +kernel) rfl rfl (Nat.le_of_ble_eq_true rfl) dX0_clear_2 (fun H locs hP hD hS => ?_)
  have hP : va_P D CL [(aa, .inr (0, [.ref a1, .int 0, .int 0, .int 0, .int 0]))] H := hP
  have hD : va_D A [(aa, .inr (0, [.ref a1, .int 0, .int 0, .int 0, .int 0]))] := hD
  exact retV C0 () trivial (hP.sub (ws' := [(aa, .inr (0, [.ref a1, .int 0, .int 0, .int 0, .int 0]))]) [0] rfl) (hD.sub (ws' := [(aa, .inr (0, [.ref a1, .int 0, .int 0, .int 0, .int 0]))]) [0] (by decide) rfl) hS (Nat.le_of_ble_eq_true rfl) (Nat.le_of_ble_eq_true rfl) dX0_clear_5

set_option maxHeartbeats 4000000 in
set_option maxRecDepth 100000 in
theorem x_act (l : Launch) (D : va_G) (cI cZ cQ cT : ClassId) (sz : Nat) (ax : Nat) (p1 : Int32) (p2 : Int32) (p3 : Int32) (ah : Nat) (bh : Nat) (an : Nat) (aw : Nat) (ad : Nat) (ae : Nat) (ap : Nat) (aa : Nat) (af : Nat) (atp : Nat) (ab : Nat) (ak : Nat) (av : Nat) (ar : Nat) (a1 : Nat)  : MetI l yX5_act cX5_act 4 .int ({ frames := 1, cells := 0, slots := 0, locals := 21 } : Room) [.ref ax, .int p1, .int p2, .int p3] D (TYS cI cZ cQ cT) EF sz [(ax, .inr (5, [.ref ah, .ref bh, .int 0, .ref an, .ref aw, .ref ad, .ref ae, .ref ap, .ref aa])), (ah, .inr (3, [.ref af, .ref atp, .ref ab, .int 0, .int 0, .int 0])), (af, .inr (2, [.ref ak, .ref av, .ref ar, .int 0, .int 0, .int 0])), (aa, .inr (0, [.ref a1, .int 0, .int 0, .int 0, .int 0]))] (S := Unit) (fun (r : Int32) (_ : Unit) => r = 0) (fun _ => []) := by
  refine MetI.mk (lv := [(0, .ref ax), (1, .int p1), (2, .int p2), (3, .int p3)]) (by decide +kernel) (Nat.le_of_ble_eq_true rfl) rfl ?_
  intro p e s m below meth c A ls C0 hP hD hS hX hl
  have C1 := C0
  obtain ⟨hx, hb, hr, hml, hown, hlocks, hname, hT, hN, hK, hA⟩ := C1
  refine lv_aload_n hx hb dX5_act_0 rfl (lv_at hl 0 rfl) ?_
  refine va_get (ci := 5) (v := .ref aa) (C := RX5) (T := TX5) (N := 9) hx hb hT wu_X5 hown hK hP 0 rfl rfl 8 (by decide) (hT _ wf_X5_56) (fun _ h9 => h9) rfl dX5_act_1 ?_
  refine contV (wc := [(aa, .inr (0, [.ref a1, .int 0, .int 0, .int 0, .int 0]))]) (wr := [(ax, .inr (5, [.ref ah, .ref bh, .int 0, .ref an, .ref aw, .ref ad, .ref ae, .ref ap, .ref aa])), (ah, .inr (3, [.ref af, .ref atp, .ref ab, .int 0, .int 0, .int 0])), (af, .inr (2, [.ref ak, .ref av, .ref ar, .int 0, .int 0, .int 0]))]) C0 hP hD hS [3] [0, 1, 2] rfl rfl (by decide) (by decide) 0 0 (Nat.le_of_ble_eq_true rfl) (Nat.le_of_ble_eq_true rfl) (runVN (k := 0) (As := []) (rest := []) "DayKnown" 732 C0 (c_clear l D cI cZ cQ cT _ aa a1) wc_X0_clear kl_X5_233 wi_X0_clear we_X0_clear wz_X0 ⟨by decide, by decide, by decide +kernel⟩ ⟨(Nat.le_of_ble_eq_true rfl), (Nat.le_of_ble_eq_true rfl)⟩ hP hD hS EF.ok hX [3] rfl (by decide) 3 rfl rfl rfl rfl hl.1 rfl (Nat.le_of_ble_eq_true rfl) dX5_act_4 ⟨(Nat.le_of_ble_eq_true rfl), (Nat.le_of_ble_eq_true rfl)⟩) (fun u_1 H locs w_2 hP hD hS => ?_)
  have hP : va_P D CL [(ax, .inr (5, [.ref ah, .ref bh, .int 0, .ref an, .ref aw, .ref ad, .ref ae, .ref ap, .ref aa])), (ah, .inr (3, [.ref af, .ref atp, .ref ab, .int 0, .int 0, .int 0])), (af, .inr (2, [.ref ak, .ref av, .ref ar, .int 0, .int 0, .int 0])), (aa, .inr (0, [.ref a1, .int 0, .int 0, .int 0, .int 0]))] H := hP
  have hD : va_D A [(ax, .inr (5, [.ref ah, .ref bh, .int 0, .ref an, .ref aw, .ref ad, .ref ae, .ref ap, .ref aa])), (ah, .inr (3, [.ref af, .ref atp, .ref ab, .int 0, .int 0, .int 0])), (af, .inr (2, [.ref ak, .ref av, .ref ar, .int 0, .int 0, .int 0])), (aa, .inr (0, [.ref a1, .int 0, .int 0, .int 0, .int 0]))] := hD
  refine lv_aload_n hx hb dX5_act_7 rfl (lv_at hl 0 rfl) ?_
  refine va_get (ci := 5) (v := .ref ah) (C := RX5) (T := TX5) (N := 9) hx hb hT wu_X5 hown hK hP 0 rfl rfl 0 (by decide) (hT _ wf_X5_12) (fun _ h9 => h9) rfl dX5_act_8 ?_
  refine va_getN (ci := 3) (v := .ref af) (C := RX3) (T := TX3) (N := 6) hx hb hT wu_X3 hown hK hP 1 rfl rfl 0 (by decide) (va_Nw.use rfl (hN.get 167 kf_X5_32 rfl)) (fun _ h9 => h9) rfl dX5_act_11 ?_
  refine lv_iload_n hx hb dX5_act_14 rfl (lv_at hl 1 rfl) ?_
  refine contI (wc := [(af, .inr (2, [.ref ak, .ref av, .ref ar, .int 0, .int 0, .int 0]))]) (wr := [(ax, .inr (5, [.ref ah, .ref bh, .int 0, .ref an, .ref aw, .ref ad, .ref ae, .ref ap, .ref aa])), (ah, .inr (3, [.ref af, .ref atp, .ref ab, .int 0, .int 0, .int 0])), (aa, .inr (0, [.ref a1, .int 0, .int 0, .int 0, .int 0]))]) C0 hP hD hS [2] [0, 1, 3] rfl rfl (by decide) (by decide) 0 0 (Nat.le_of_ble_eq_true rfl) (Nat.le_of_ble_eq_true rfl) (runVN (k := 1) (As := [.int p1]) (rest := []) "DayKnown" 493 C0 (c_has l D cI cZ cQ cT _ af p1 ak av ar 0 0) wc_X2_has kl_X5_96 wi_X2_has we_X2_has wz_X2 ⟨by decide, by decide, by decide +kernel⟩ ⟨(Nat.le_of_ble_eq_true rfl), (Nat.le_of_ble_eq_true rfl)⟩ hP hD hS EF.ok hX [2] rfl (by decide) 2 rfl rfl rfl rfl hl.1 rfl (Nat.le_of_ble_eq_true rfl) dX5_act_15 ⟨(Nat.le_of_ble_eq_true rfl), (Nat.le_of_ble_eq_true rfl)⟩) (fun r_6 u_4 H locs w_5 hP hD hS => ?_)
  have hP : va_P D CL [(ax, .inr (5, [.ref ah, .ref bh, .int 0, .ref an, .ref aw, .ref ad, .ref ae, .ref ap, .ref aa])), (ah, .inr (3, [.ref af, .ref atp, .ref ab, .int 0, .int 0, .int 0])), (aa, .inr (0, [.ref a1, .int 0, .int 0, .int 0, .int 0])), (af, .inr (2, [.ref ak, .ref av, .ref ar, .int 0, .int 0, .int 0]))] H := hP
  have hD : va_D A [(ax, .inr (5, [.ref ah, .ref bh, .int 0, .ref an, .ref aw, .ref ad, .ref ae, .ref ap, .ref aa])), (ah, .inr (3, [.ref af, .ref atp, .ref ab, .int 0, .int 0, .int 0])), (aa, .inr (0, [.ref a1, .int 0, .int 0, .int 0, .int 0])), (af, .inr (2, [.ref ak, .ref av, .ref ar, .int 0, .int 0, .int 0]))] := hD
  obtain rfl : r_6 = 0 := w_5
  refine lv_if_eq (tgt := 30) hx hb dX5_act_18 (by decide) (fun _ => ?_) (fun c_0 => absurd (by decide) c_0)
  refine lv_iconst (v := 0) hx hb dX5_act_30 (by decide) ?_
  exact retI C0 rfl () rfl (hP.sub (ws' := []) [] rfl) (hD.sub (ws' := []) [] (by decide) rfl) hS (Nat.le_of_ble_eq_true rfl) (Nat.le_of_ble_eq_true rfl) dX5_act_31

set_option maxHeartbeats 4000000 in
set_option maxRecDepth 100000 in
theorem x_trace (l : Launch) (D : va_G) (cI cZ cQ cT : ClassId) (sz : Nat) (ax : Nat) (p1 : Int32) (ah : Nat) (bh : Nat) (an : Nat) (aw : Nat) (ad : Nat) (ae : Nat) (ap : Nat) (aa : Nat) (a1 : Nat)  : MetI l yX5_trace cX5_trace 2 .int ({ frames := 0, cells := 0, slots := 0, locals := 0 } : Room) [.ref ax, .int p1] D (TYS cI cZ cQ cT) EF sz [(ax, .inr (5, [.ref ah, .ref bh, .int 0, .ref an, .ref aw, .ref ad, .ref ae, .ref ap, .ref aa])), (aa, .inr (0, [.ref a1, .int 0, .int 0, .int 0, .int 0]))] (S := Unit) (fun (r : Int32) (_ : Unit) => r = (if p1 < (0 : Int32) then (-1) else (-1))) (fun _ => []) := by
  refine MetI.mk (lv := [(0, .ref ax), (1, .int p1)]) (by decide +kernel) (Nat.le_of_ble_eq_true rfl) rfl ?_
  intro p e s m below meth c A ls C0 hP hD hS hX hl
  have C1 := C0
  obtain ⟨hx, hb, hr, hml, hown, hlocks, hname, hT, hN, hK, hA⟩ := C1
  refine lv_iload_n hx hb dX5_trace_0 rfl (lv_at hl 1 rfl) ?_
  refine lv_if_lt (tgt := 27) hx hb dX5_trace_1 (by decide) (fun c_1 => ?_) (fun c_1 => ?_)
  · refine lv_iconst (v := (-1)) hx hb dX5_trace_27 (by decide) ?_
    exact retI C0 rfl () (((if_pos c_1)).symm) (hP.sub (ws' := []) [] rfl) (hD.sub (ws' := []) [] (by decide) rfl) hS (Nat.le_of_ble_eq_true rfl) (Nat.le_of_ble_eq_true rfl) dX5_trace_28
  · refine lv_iload_n hx hb dX5_trace_4 rfl (lv_at hl 1 rfl) ?_
    refine lv_aload_n hx hb dX5_trace_5 rfl (lv_at hl 0 rfl) ?_
    refine va_get (ci := 5) (v := .ref aa) (C := RX5) (T := TX5) (N := 9) hx hb hT wu_X5 hown hK hP 0 rfl rfl 8 (by decide) (hT _ wf_X5_56) (fun _ h9 => h9) rfl dX5_trace_6 ?_
    refine va_getN (ci := 0) (v := .int 0) (C := RX0) (T := TX0) (N := 5) hx hb hT wu_X0 hown hK hP 1 rfl rfl 1 (by decide) (va_Nw.use rfl (hN.get 289 kf_X5_240 rfl)) (fun _ h9 => h9) rfl dX5_trace_9 ?_
    refine lv_icmp_ge (tgt := 27) hx hb dX5_trace_12 (by decide) (fun _ => ?_) (fun c_0 => absurd (by have h_0 := c_1; have z0 : (0 : Int32).toInt = 0 := (by decide); simp only [le_i, lt_i, eq_i] at h_0 ⊢; omega : (0 : Int32) ≤ p1) c_0)
    refine lv_iconst (v := (-1)) hx hb dX5_trace_27 (by decide) ?_
    exact retI C0 rfl () (((if_neg c_1)).symm) (hP.sub (ws' := []) [] rfl) (hD.sub (ws' := []) [] (by decide) rfl) hS (Nat.le_of_ble_eq_true rfl) (Nat.le_of_ble_eq_true rfl) dX5_trace_28

set_option maxHeartbeats 4000000 in
set_option maxRecDepth 100000 in
theorem x_as (l : Launch) (D : va_G) (cI cZ cQ cT : ClassId) (sz : Nat) (ax : Nat) (p1 : Int32) (p2 : Int32) (ah : Nat) (bh : Nat) (an : Nat) (aw : Nat) (ad : Nat) (ae : Nat) (ap : Nat) (aa : Nat) (af : Nat) (atp : Nat) (ab : Nat) (ak : Nat) (av : Nat) (ar : Nat)  : MetI l yX5_as cX5_as 5 .int ({ frames := 1, cells := 0, slots := 0, locals := 21 } : Room) [.ref ax, .int p1, .int p2] D (TYS cI cZ cQ cT) EF sz [(ax, .inr (5, [.ref ah, .ref bh, .int 0, .ref an, .ref aw, .ref ad, .ref ae, .ref ap, .ref aa])), (ah, .inr (3, [.ref af, .ref atp, .ref ab, .int 0, .int 0, .int 0])), (af, .inr (2, [.ref ak, .ref av, .ref ar, .int 0, .int 0, .int 0]))] (S := Unit) (fun (r : Int32) (_ : Unit) => r = (-1)) (fun _ => []) := by
  refine MetI.mk (lv := [(0, .ref ax), (1, .int p1), (2, .int p2)]) (by decide +kernel) (Nat.le_of_ble_eq_true rfl) rfl ?_
  intro p e s m below meth c A ls C0 hP hD hS hX hl
  have C1 := C0
  obtain ⟨hx, hb, hr, hml, hown, hlocks, hname, hT, hN, hK, hA⟩ := C1
  refine lv_aload_n hx hb dX5_as_0 rfl (lv_at hl 0 rfl) ?_
  refine va_get (ci := 5) (v := .ref ah) (C := RX5) (T := TX5) (N := 9) hx hb hT wu_X5 hown hK hP 0 rfl rfl 0 (by decide) (hT _ wf_X5_12) (fun _ h9 => h9) rfl dX5_as_1 ?_
  refine va_getN (ci := 3) (v := .ref af) (C := RX3) (T := TX3) (N := 6) hx hb hT wu_X3 hown hK hP 1 rfl rfl 0 (by decide) (va_Nw.use rfl (hN.get 167 kf_X5_32 rfl)) (fun _ h9 => h9) rfl dX5_as_4 ?_
  refine lv_iload_n hx hb dX5_as_7 rfl (lv_at hl 1 rfl) ?_
  refine contI (wc := [(af, .inr (2, [.ref ak, .ref av, .ref ar, .int 0, .int 0, .int 0]))]) (wr := [(ax, .inr (5, [.ref ah, .ref bh, .int 0, .ref an, .ref aw, .ref ad, .ref ae, .ref ap, .ref aa])), (ah, .inr (3, [.ref af, .ref atp, .ref ab, .int 0, .int 0, .int 0]))]) C0 hP hD hS [2] [0, 1] rfl rfl (by decide) (by decide) 0 0 (Nat.le_of_ble_eq_true rfl) (Nat.le_of_ble_eq_true rfl) (runVN (k := 1) (As := [.int p1]) (rest := []) "DayKnown" 493 C0 (c_has l D cI cZ cQ cT _ af p1 ak av ar 0 0) wc_X2_has kl_X5_96 wi_X2_has we_X2_has wz_X2 ⟨by decide, by decide, by decide +kernel⟩ ⟨(Nat.le_of_ble_eq_true rfl), (Nat.le_of_ble_eq_true rfl)⟩ hP hD hS EF.ok hX [2] rfl (by decide) 2 rfl rfl rfl rfl hl.1 rfl (Nat.le_of_ble_eq_true rfl) dX5_as_8 ⟨(Nat.le_of_ble_eq_true rfl), (Nat.le_of_ble_eq_true rfl)⟩) (fun r_3 u_1 H locs w_2 hP hD hS => ?_)
  have hP : va_P D CL [(ax, .inr (5, [.ref ah, .ref bh, .int 0, .ref an, .ref aw, .ref ad, .ref ae, .ref ap, .ref aa])), (ah, .inr (3, [.ref af, .ref atp, .ref ab, .int 0, .int 0, .int 0])), (af, .inr (2, [.ref ak, .ref av, .ref ar, .int 0, .int 0, .int 0]))] H := hP
  have hD : va_D A [(ax, .inr (5, [.ref ah, .ref bh, .int 0, .ref an, .ref aw, .ref ad, .ref ae, .ref ap, .ref aa])), (ah, .inr (3, [.ref af, .ref atp, .ref ab, .int 0, .int 0, .int 0])), (af, .inr (2, [.ref ak, .ref av, .ref ar, .int 0, .int 0, .int 0]))] := hD
  obtain rfl : r_3 = 0 := w_2
  refine lv_if_eq (tgt := 24) hx hb dX5_as_11 (by decide) (fun _ => ?_) (fun c_0 => absurd (by decide) c_0)
  refine lv_iconst (v := (-1)) hx hb dX5_as_24 (by decide) ?_
  exact retI C0 rfl () rfl (hP.sub (ws' := []) [] rfl) (hD.sub (ws' := []) [] (by decide) rfl) hS (Nat.le_of_ble_eq_true rfl) (Nat.le_of_ble_eq_true rfl) dX5_as_25

set_option maxHeartbeats 4000000 in
set_option maxRecDepth 100000 in
theorem c_Held_become (l : Launch) (D : va_G) (cI cZ cQ cT : ClassId) (sz : Nat) (bh : Nat) (ah : Nat) (af : Nat) (atp : Nat) (ab : Nat) (ak : Nat) (av : Nat) (ar : Nat) (fk : Nat → Int32) (fv : Nat → Int32) (fr : Nat → Int32) (ft : Nat → Int32) (fb : Nat → Int32) (bf : Nat) (bt : Nat) (bb : Nat) (bk : Nat) (bv : Nat) (br : Nat) (gk : Nat → Int32) (gv : Nat → Int32) (gr : Nat → Int32) (gt : Nat → Int32) (gb : Nat → Int32)  : MetV l yX3_become cX3_become 2 ({ frames := 2, cells := 0, slots := 0, locals := 101 } : Room) [.ref bh, .ref ah] D (TYS cI cZ cQ cT) EF sz [(ah, .inr (3, [.ref af, .ref atp, .ref ab, .int 0, .int 0, .int 0])), (af, .inr (2, [.ref ak, .ref av, .ref ar, .int 0, .int 0, .int 0])), (ak, .inl (cI, 4, .inl fk)), (av, .inl (cI, 4, .inl fv)), (ar, .inl (cI, 4, .inl fr)), (atp, .inl (cI, 100, .inl ft)), (ab, .inl (cI, 10, .inl fb)), (bh, .inr (3, [.ref bf, .ref bt, .ref bb, .int 0, .int 0, .int 0])), (bf, .inr (2, [.ref bk, .ref bv, .ref br, .int 0, .int 0, .int 0])), (bk, .inl (cI, 4, .inl gk)), (bv, .inl (cI, 4, .inl gv)), (br, .inl (cI, 4, .inl gr)), (bt, .inl (cI, 100, .inl gt)), (bb, .inl (cI, 10, .inl gb))] (S := Unit) (fun (_ : Unit) => True) (fun _ => [(ah, .inr (3, [.ref af, .ref atp, .ref ab, .int 0, .int 0, .int 0])), (af, .inr (2, [.ref ak, .ref av, .ref ar, .int 0, .int 0, .int 0]))]) := by
  refine MetV.mk (lv := [(0, .ref bh), (1, .ref ah)]) (by decide +kernel) (Nat.le_of_ble_eq_true rfl) rfl ?_
  intro p e s m below meth c A ls C0 hP hD hS hX hl
  have C1 := C0
  obtain ⟨hx, hb, hr, hml, hown, hlocks, hname, hT, hN, hK, hA⟩ := C1
  refine lv_aload_n hx hb dX3_become_0 rfl (lv_at hl 0 rfl) ?_
  refine va_get (ci := 3) (v := .ref bf) (C := RX3) (T := TX3) (N := 6) hx hb hT wu_X3 hown hK hP 7 rfl rfl 0 (by decide) (hT _ wf_X3_12) (fun _ h9 => h9) rfl dX3_become_1 ?_
  refine lv_aload_n hx hb dX3_become_4 rfl (lv_at hl 1 rfl) ?_
  refine va_get (ci := 3) (v := .ref af) (C := RX3) (T := TX3) (N := 6) hx hb hT wu_X3 hown hK hP 0 rfl rfl 0 (by decide) (hT _ wf_X3_12) (fun _ h9 => h9) rfl dX3_become_5 ?_
  refine contV (wc := [(bf, .inr (2, [.ref bk, .ref bv, .ref br, .int 0, .int 0, .int 0])), (bk, .inl (cI, 4, .inl gk)), (bv, .inl (cI, 4, .inl gv)), (br, .inl (cI, 4, .inl gr)), (af, .inr (2, [.ref ak, .ref av, .ref ar, .int 0, .int 0, .int 0])), (ak, .inl (cI, 4, .inl fk)), (av, .inl (cI, 4, .inl fv)), (ar, .inl (cI, 4, .inl fr))]) (wr := [(ah, .inr (3, [.ref af, .ref atp, .ref ab, .int 0, .int 0, .int 0])), (atp, .inl (cI, 100, .inl ft)), (ab, .inl (cI, 10, .inl fb)), (bh, .inr (3, [.ref bf, .ref bt, .ref bb, .int 0, .int 0, .int 0])), (bt, .inl (cI, 100, .inl gt)), (bb, .inl (cI, 10, .inl gb))]) C0 hP hD hS [8, 9, 10, 11, 1, 2, 3, 4] [0, 5, 6, 7, 12, 13] rfl rfl (by decide) (by decide) 0 0 (Nat.le_of_ble_eq_true rfl) (Nat.le_of_ble_eq_true rfl) (runVN (k := 1) (As := [.ref af]) (rest := []) "DayKnown" 773 C0 (c_become l D cI cZ cQ cT _ bf af bk bv br 0 0 0 gk gv gr ak av ar fk fv fr) wc_X2_become kl_X3_25 wi_X2_become we_X2_become wz_X2 ⟨by decide, by decide, by decide +kernel⟩ ⟨(Nat.le_of_ble_eq_true rfl), (Nat.le_of_ble_eq_true rfl)⟩ hP hD hS EF.ok hX [8, 9, 10, 11, 1, 2, 3, 4] rfl (by decide) 8 rfl rfl rfl rfl hl.1 rfl (Nat.le_of_ble_eq_true rfl) dX3_become_8 ⟨(Nat.le_of_ble_eq_true rfl), (Nat.le_of_ble_eq_true rfl)⟩) (fun u_4 H locs w_5 hP hD hS => ?_)
  obtain ⟨gk_1, gv_2, gr_3⟩ := u_4
  have hP : va_P D CL [(ah, .inr (3, [.ref af, .ref atp, .ref ab, .int 0, .int 0, .int 0])), (atp, .inl (cI, 100, .inl ft)), (ab, .inl (cI, 10, .inl fb)), (bh, .inr (3, [.ref bf, .ref bt, .ref bb, .int 0, .int 0, .int 0])), (bt, .inl (cI, 100, .inl gt)), (bb, .inl (cI, 10, .inl gb)), (bf, .inr (2, [.ref bk, .ref bv, .ref br, .int 0, .int 0, .int 0])), (bk, .inl (cI, 4, .inl gk_1)), (bv, .inl (cI, 4, .inl gv_2)), (br, .inl (cI, 4, .inl gr_3)), (af, .inr (2, [.ref ak, .ref av, .ref ar, .int 0, .int 0, .int 0])), (ak, .inl (cI, 4, .inl fk)), (av, .inl (cI, 4, .inl fv)), (ar, .inl (cI, 4, .inl fr))] H := hP
  have hD : va_D A [(ah, .inr (3, [.ref af, .ref atp, .ref ab, .int 0, .int 0, .int 0])), (atp, .inl (cI, 100, .inl ft)), (ab, .inl (cI, 10, .inl fb)), (bh, .inr (3, [.ref bf, .ref bt, .ref bb, .int 0, .int 0, .int 0])), (bt, .inl (cI, 100, .inl gt)), (bb, .inl (cI, 10, .inl gb)), (bf, .inr (2, [.ref bk, .ref bv, .ref br, .int 0, .int 0, .int 0])), (bk, .inl (cI, 4, .inl gk_1)), (bv, .inl (cI, 4, .inl gv_2)), (br, .inl (cI, 4, .inl gr_3)), (af, .inr (2, [.ref ak, .ref av, .ref ar, .int 0, .int 0, .int 0])), (ak, .inl (cI, 4, .inl fk)), (av, .inl (cI, 4, .inl fv)), (ar, .inl (cI, 4, .inl fr))] := hD
  refine lv_aload_n hx hb dX3_become_11 rfl (lv_at hl 1 rfl) ?_
  refine va_get (ci := 3) (v := .ref atp) (C := RX3) (T := TX3) (N := 6) hx hb hT wu_X3 hown hK hP 0 rfl rfl 1 (by decide) (hT _ wf_X3_18) (fun _ h9 => h9) rfl dX3_become_12 ?_
  refine lv_iconst (v := 0) hx hb dX3_become_15 (by decide) ?_
  refine lv_aload_n hx hb dX3_become_16 rfl (lv_at hl 0 rfl) ?_
  refine va_get (ci := 3) (v := .ref bt) (C := RX3) (T := TX3) (N := 6) hx hb hT wu_X3 hown hK hP 3 rfl rfl 1 (by decide) (hT _ wf_X3_18) (fun _ h9 => h9) rfl dX3_become_17 ?_
  refine lv_iconst (v := 0) hx hb dX3_become_20 (by decide) ?_
  refine lv_bipush (v := 100) hx hb dX3_become_21 (by decide) ?_
  refine va_copyi (ty := .int) hx hb (hml.trans hl.1.symm) hown (hT _ wl_X3_29) (hT _ wnat_arraycopy) (hT _ wt_arraycopy) (hT _ wz_J10) hK hP hD hS 1 4 0 0 rfl rfl rfl rfl rfl (by decide +kernel) (by decide +kernel) (by decide +kernel) (by decide +kernel) (by decide +kernel) (fun _ _ => rfl) (Nat.le_of_ble_eq_true rfl) (Nat.le_of_ble_eq_true rfl) dX3_become_23 (fun H locs hP hD hS => ?_)
  have hP : va_P D CL [(ah, .inr (3, [.ref af, .ref atp, .ref ab, .int 0, .int 0, .int 0])), (atp, .inl (cI, 100, .inl ft)), (ab, .inl (cI, 10, .inl fb)), (bh, .inr (3, [.ref bf, .ref bt, .ref bb, .int 0, .int 0, .int 0])), (bt, .inl (cI, 100, .inl (va_cpy ft gt ((0 : Int32)).toNatClampNeg ((0 : Int32)).toNatClampNeg ((100 : Int32)).toNatClampNeg))), (bb, .inl (cI, 10, .inl gb)), (bf, .inr (2, [.ref bk, .ref bv, .ref br, .int 0, .int 0, .int 0])), (bk, .inl (cI, 4, .inl gk_1)), (bv, .inl (cI, 4, .inl gv_2)), (br, .inl (cI, 4, .inl gr_3)), (af, .inr (2, [.ref ak, .ref av, .ref ar, .int 0, .int 0, .int 0])), (ak, .inl (cI, 4, .inl fk)), (av, .inl (cI, 4, .inl fv)), (ar, .inl (cI, 4, .inl fr))] H := hP
  have hD : va_D A [(ah, .inr (3, [.ref af, .ref atp, .ref ab, .int 0, .int 0, .int 0])), (atp, .inl (cI, 100, .inl ft)), (ab, .inl (cI, 10, .inl fb)), (bh, .inr (3, [.ref bf, .ref bt, .ref bb, .int 0, .int 0, .int 0])), (bt, .inl (cI, 100, .inl (va_cpy ft gt ((0 : Int32)).toNatClampNeg ((0 : Int32)).toNatClampNeg ((100 : Int32)).toNatClampNeg))), (bb, .inl (cI, 10, .inl gb)), (bf, .inr (2, [.ref bk, .ref bv, .ref br, .int 0, .int 0, .int 0])), (bk, .inl (cI, 4, .inl gk_1)), (bv, .inl (cI, 4, .inl gv_2)), (br, .inl (cI, 4, .inl gr_3)), (af, .inr (2, [.ref ak, .ref av, .ref ar, .int 0, .int 0, .int 0])), (ak, .inl (cI, 4, .inl fk)), (av, .inl (cI, 4, .inl fv)), (ar, .inl (cI, 4, .inl fr))] := hD
  refine lv_aload_n hx hb dX3_become_26 rfl (lv_at hl 1 rfl) ?_
  refine va_get (ci := 3) (v := .ref ab) (C := RX3) (T := TX3) (N := 6) hx hb hT wu_X3 hown hK hP 0 rfl rfl 2 (by decide) (hT _ wf_X3_22) (fun _ h9 => h9) rfl dX3_become_27 ?_
  refine lv_iconst (v := 0) hx hb dX3_become_30 (by decide) ?_
  refine lv_aload_n hx hb dX3_become_31 rfl (lv_at hl 0 rfl) ?_
  refine va_get (ci := 3) (v := .ref bb) (C := RX3) (T := TX3) (N := 6) hx hb hT wu_X3 hown hK hP 3 rfl rfl 2 (by decide) (hT _ wf_X3_22) (fun _ h9 => h9) rfl dX3_become_32 ?_
  refine lv_iconst (v := 0) hx hb dX3_become_35 (by decide) ?_
  refine lv_bipush (v := 10) hx hb dX3_become_36 (by decide) ?_
  refine va_copyi (ty := .int) hx hb (hml.trans hl.1.symm) hown (hT _ wl_X3_29) (hT _ wnat_arraycopy) (hT _ wt_arraycopy) (hT _ wz_J10) hK hP hD hS 2 5 0 0 rfl rfl rfl rfl rfl (by decide +kernel) (by decide +kernel) (by decide +kernel) (by decide +kernel) (by decide +kernel) (fun _ _ => rfl) (Nat.le_of_ble_eq_true rfl) (Nat.le_of_ble_eq_true rfl) dX3_become_38 (fun H locs hP hD hS => ?_)
  have hP : va_P D CL [(ah, .inr (3, [.ref af, .ref atp, .ref ab, .int 0, .int 0, .int 0])), (atp, .inl (cI, 100, .inl ft)), (ab, .inl (cI, 10, .inl fb)), (bh, .inr (3, [.ref bf, .ref bt, .ref bb, .int 0, .int 0, .int 0])), (bt, .inl (cI, 100, .inl (va_cpy ft gt ((0 : Int32)).toNatClampNeg ((0 : Int32)).toNatClampNeg ((100 : Int32)).toNatClampNeg))), (bb, .inl (cI, 10, .inl (va_cpy fb gb ((0 : Int32)).toNatClampNeg ((0 : Int32)).toNatClampNeg ((10 : Int32)).toNatClampNeg))), (bf, .inr (2, [.ref bk, .ref bv, .ref br, .int 0, .int 0, .int 0])), (bk, .inl (cI, 4, .inl gk_1)), (bv, .inl (cI, 4, .inl gv_2)), (br, .inl (cI, 4, .inl gr_3)), (af, .inr (2, [.ref ak, .ref av, .ref ar, .int 0, .int 0, .int 0])), (ak, .inl (cI, 4, .inl fk)), (av, .inl (cI, 4, .inl fv)), (ar, .inl (cI, 4, .inl fr))] H := hP
  have hD : va_D A [(ah, .inr (3, [.ref af, .ref atp, .ref ab, .int 0, .int 0, .int 0])), (atp, .inl (cI, 100, .inl ft)), (ab, .inl (cI, 10, .inl fb)), (bh, .inr (3, [.ref bf, .ref bt, .ref bb, .int 0, .int 0, .int 0])), (bt, .inl (cI, 100, .inl (va_cpy ft gt ((0 : Int32)).toNatClampNeg ((0 : Int32)).toNatClampNeg ((100 : Int32)).toNatClampNeg))), (bb, .inl (cI, 10, .inl (va_cpy fb gb ((0 : Int32)).toNatClampNeg ((0 : Int32)).toNatClampNeg ((10 : Int32)).toNatClampNeg))), (bf, .inr (2, [.ref bk, .ref bv, .ref br, .int 0, .int 0, .int 0])), (bk, .inl (cI, 4, .inl gk_1)), (bv, .inl (cI, 4, .inl gv_2)), (br, .inl (cI, 4, .inl gr_3)), (af, .inr (2, [.ref ak, .ref av, .ref ar, .int 0, .int 0, .int 0])), (ak, .inl (cI, 4, .inl fk)), (av, .inl (cI, 4, .inl fv)), (ar, .inl (cI, 4, .inl fr))] := hD
  refine lv_aload_n hx hb dX3_become_41 rfl (lv_at hl 0 rfl) ?_
  refine lv_aload_n hx hb dX3_become_42 rfl (lv_at hl 1 rfl) ?_
  refine va_get (ci := 3) (v := .int 0) (C := RX3) (T := TX3) (N := 6) hx hb hT wu_X3 hown hK hP 0 rfl rfl 3 (by decide) (hT _ wf_X3_35) (fun _ h9 => h9) rfl dX3_become_43 ?_
  refine va_put (ci := 3) (v := .int 0) (ty := .int) (C := RX3) (T := TX3) (N := 6) hx hb hT wu_X3 tyX3 tyX3_ok nmX3 hown hK hP hD hS 3 rfl rfl 3 (by decide) (hT _ wf_X3_35) (fun _ h9 => h9) rfl (by decide +kernel) rfl rfl (Nat.le_of_ble_eq_true rfl) dX3_become_46 (fun H locs hP hD hS => ?_)
  have hP : va_P D CL [(ah, .inr (3, [.ref af, .ref atp, .ref ab, .int 0, .int 0, .int 0])), (atp, .inl (cI, 100, .inl ft)), (ab, .inl (cI, 10, .inl fb)), (bh, .inr (3, [.ref bf, .ref bt, .ref bb, .int 0, .int 0, .int 0])), (bt, .inl (cI, 100, .inl (va_cpy ft gt ((0 : Int32)).toNatClampNeg ((0 : Int32)).toNatClampNeg ((100 : Int32)).toNatClampNeg))), (bb, .inl (cI, 10, .inl (va_cpy fb gb ((0 : Int32)).toNatClampNeg ((0 : Int32)).toNatClampNeg ((10 : Int32)).toNatClampNeg))), (bf, .inr (2, [.ref bk, .ref bv, .ref br, .int 0, .int 0, .int 0])), (bk, .inl (cI, 4, .inl gk_1)), (bv, .inl (cI, 4, .inl gv_2)), (br, .inl (cI, 4, .inl gr_3)), (af, .inr (2, [.ref ak, .ref av, .ref ar, .int 0, .int 0, .int 0])), (ak, .inl (cI, 4, .inl fk)), (av, .inl (cI, 4, .inl fv)), (ar, .inl (cI, 4, .inl fr))] H := hP
  have hD : va_D A [(ah, .inr (3, [.ref af, .ref atp, .ref ab, .int 0, .int 0, .int 0])), (atp, .inl (cI, 100, .inl ft)), (ab, .inl (cI, 10, .inl fb)), (bh, .inr (3, [.ref bf, .ref bt, .ref bb, .int 0, .int 0, .int 0])), (bt, .inl (cI, 100, .inl (va_cpy ft gt ((0 : Int32)).toNatClampNeg ((0 : Int32)).toNatClampNeg ((100 : Int32)).toNatClampNeg))), (bb, .inl (cI, 10, .inl (va_cpy fb gb ((0 : Int32)).toNatClampNeg ((0 : Int32)).toNatClampNeg ((10 : Int32)).toNatClampNeg))), (bf, .inr (2, [.ref bk, .ref bv, .ref br, .int 0, .int 0, .int 0])), (bk, .inl (cI, 4, .inl gk_1)), (bv, .inl (cI, 4, .inl gv_2)), (br, .inl (cI, 4, .inl gr_3)), (af, .inr (2, [.ref ak, .ref av, .ref ar, .int 0, .int 0, .int 0])), (ak, .inl (cI, 4, .inl fk)), (av, .inl (cI, 4, .inl fv)), (ar, .inl (cI, 4, .inl fr))] := hD
  refine lv_aload_n hx hb dX3_become_49 rfl (lv_at hl 0 rfl) ?_
  refine lv_aload_n hx hb dX3_become_50 rfl (lv_at hl 1 rfl) ?_
  refine va_get (ci := 3) (v := .int 0) (C := RX3) (T := TX3) (N := 6) hx hb hT wu_X3 hown hK hP 0 rfl rfl 4 (by decide) (hT _ wf_X3_39) (fun _ h9 => h9) rfl dX3_become_51 ?_
  refine va_put (ci := 3) (v := .int 0) (ty := .int) (C := RX3) (T := TX3) (N := 6) hx hb hT wu_X3 tyX3 tyX3_ok nmX3 hown hK hP hD hS 3 rfl rfl 4 (by decide) (hT _ wf_X3_39) (fun _ h9 => h9) rfl (by decide +kernel) rfl rfl (Nat.le_of_ble_eq_true rfl) dX3_become_54 (fun H locs hP hD hS => ?_)
  have hP : va_P D CL [(ah, .inr (3, [.ref af, .ref atp, .ref ab, .int 0, .int 0, .int 0])), (atp, .inl (cI, 100, .inl ft)), (ab, .inl (cI, 10, .inl fb)), (bh, .inr (3, [.ref bf, .ref bt, .ref bb, .int 0, .int 0, .int 0])), (bt, .inl (cI, 100, .inl (va_cpy ft gt ((0 : Int32)).toNatClampNeg ((0 : Int32)).toNatClampNeg ((100 : Int32)).toNatClampNeg))), (bb, .inl (cI, 10, .inl (va_cpy fb gb ((0 : Int32)).toNatClampNeg ((0 : Int32)).toNatClampNeg ((10 : Int32)).toNatClampNeg))), (bf, .inr (2, [.ref bk, .ref bv, .ref br, .int 0, .int 0, .int 0])), (bk, .inl (cI, 4, .inl gk_1)), (bv, .inl (cI, 4, .inl gv_2)), (br, .inl (cI, 4, .inl gr_3)), (af, .inr (2, [.ref ak, .ref av, .ref ar, .int 0, .int 0, .int 0])), (ak, .inl (cI, 4, .inl fk)), (av, .inl (cI, 4, .inl fv)), (ar, .inl (cI, 4, .inl fr))] H := hP
  have hD : va_D A [(ah, .inr (3, [.ref af, .ref atp, .ref ab, .int 0, .int 0, .int 0])), (atp, .inl (cI, 100, .inl ft)), (ab, .inl (cI, 10, .inl fb)), (bh, .inr (3, [.ref bf, .ref bt, .ref bb, .int 0, .int 0, .int 0])), (bt, .inl (cI, 100, .inl (va_cpy ft gt ((0 : Int32)).toNatClampNeg ((0 : Int32)).toNatClampNeg ((100 : Int32)).toNatClampNeg))), (bb, .inl (cI, 10, .inl (va_cpy fb gb ((0 : Int32)).toNatClampNeg ((0 : Int32)).toNatClampNeg ((10 : Int32)).toNatClampNeg))), (bf, .inr (2, [.ref bk, .ref bv, .ref br, .int 0, .int 0, .int 0])), (bk, .inl (cI, 4, .inl gk_1)), (bv, .inl (cI, 4, .inl gv_2)), (br, .inl (cI, 4, .inl gr_3)), (af, .inr (2, [.ref ak, .ref av, .ref ar, .int 0, .int 0, .int 0])), (ak, .inl (cI, 4, .inl fk)), (av, .inl (cI, 4, .inl fv)), (ar, .inl (cI, 4, .inl fr))] := hD
  refine lv_aload_n hx hb dX3_become_57 rfl (lv_at hl 0 rfl) ?_
  refine lv_aload_n hx hb dX3_become_58 rfl (lv_at hl 1 rfl) ?_
  refine va_get (ci := 3) (v := .int 0) (C := RX3) (T := TX3) (N := 6) hx hb hT wu_X3 hown hK hP 0 rfl rfl 5 (by decide) (hT _ wf_X3_42) (fun _ h9 => h9) rfl dX3_become_59 ?_
  refine va_put (ci := 3) (v := .int 0) (ty := .int) (C := RX3) (T := TX3) (N := 6) hx hb hT wu_X3 tyX3 tyX3_ok nmX3 hown hK hP hD hS 3 rfl rfl 5 (by decide) (hT _ wf_X3_42) (fun _ h9 => h9) rfl (by decide +kernel) rfl rfl (Nat.le_of_ble_eq_true rfl) dX3_become_62 (fun H locs hP hD hS => ?_)
  have hP : va_P D CL [(ah, .inr (3, [.ref af, .ref atp, .ref ab, .int 0, .int 0, .int 0])), (atp, .inl (cI, 100, .inl ft)), (ab, .inl (cI, 10, .inl fb)), (bh, .inr (3, [.ref bf, .ref bt, .ref bb, .int 0, .int 0, .int 0])), (bt, .inl (cI, 100, .inl (va_cpy ft gt ((0 : Int32)).toNatClampNeg ((0 : Int32)).toNatClampNeg ((100 : Int32)).toNatClampNeg))), (bb, .inl (cI, 10, .inl (va_cpy fb gb ((0 : Int32)).toNatClampNeg ((0 : Int32)).toNatClampNeg ((10 : Int32)).toNatClampNeg))), (bf, .inr (2, [.ref bk, .ref bv, .ref br, .int 0, .int 0, .int 0])), (bk, .inl (cI, 4, .inl gk_1)), (bv, .inl (cI, 4, .inl gv_2)), (br, .inl (cI, 4, .inl gr_3)), (af, .inr (2, [.ref ak, .ref av, .ref ar, .int 0, .int 0, .int 0])), (ak, .inl (cI, 4, .inl fk)), (av, .inl (cI, 4, .inl fv)), (ar, .inl (cI, 4, .inl fr))] H := hP
  have hD : va_D A [(ah, .inr (3, [.ref af, .ref atp, .ref ab, .int 0, .int 0, .int 0])), (atp, .inl (cI, 100, .inl ft)), (ab, .inl (cI, 10, .inl fb)), (bh, .inr (3, [.ref bf, .ref bt, .ref bb, .int 0, .int 0, .int 0])), (bt, .inl (cI, 100, .inl (va_cpy ft gt ((0 : Int32)).toNatClampNeg ((0 : Int32)).toNatClampNeg ((100 : Int32)).toNatClampNeg))), (bb, .inl (cI, 10, .inl (va_cpy fb gb ((0 : Int32)).toNatClampNeg ((0 : Int32)).toNatClampNeg ((10 : Int32)).toNatClampNeg))), (bf, .inr (2, [.ref bk, .ref bv, .ref br, .int 0, .int 0, .int 0])), (bk, .inl (cI, 4, .inl gk_1)), (bv, .inl (cI, 4, .inl gv_2)), (br, .inl (cI, 4, .inl gr_3)), (af, .inr (2, [.ref ak, .ref av, .ref ar, .int 0, .int 0, .int 0])), (ak, .inl (cI, 4, .inl fk)), (av, .inl (cI, 4, .inl fv)), (ar, .inl (cI, 4, .inl fr))] := hD
  exact retV C0 () trivial (hP.sub (ws' := [(ah, .inr (3, [.ref af, .ref atp, .ref ab, .int 0, .int 0, .int 0])), (af, .inr (2, [.ref ak, .ref av, .ref ar, .int 0, .int 0, .int 0]))]) [0, 10] rfl) (hD.sub (ws' := [(ah, .inr (3, [.ref af, .ref atp, .ref ab, .int 0, .int 0, .int 0])), (af, .inr (2, [.ref ak, .ref av, .ref ar, .int 0, .int 0, .int 0]))]) [0, 10] (by decide) rfl) hS (Nat.le_of_ble_eq_true rfl) (Nat.le_of_ble_eq_true rfl) dX3_become_65

set_option maxHeartbeats 4000000 in
set_option maxRecDepth 100000 in
theorem x_image (l : Launch) (D : va_G) (cI cZ cQ cT : ClassId) (sz : Nat) (ax : Nat) (ah : Nat) (bh : Nat) (an : Nat) (aw : Nat) (ad : Nat) (ae : Nat) (ap : Nat) (aa : Nat) (af : Nat) (atp : Nat) (ab : Nat) (ak : Nat) (av : Nat) (ar : Nat) (fk : Nat → Int32) (fv : Nat → Int32) (fr : Nat → Int32) (ft : Nat → Int32) (fb : Nat → Int32) (bf : Nat) (bt : Nat) (bb : Nat) (bk : Nat) (bv : Nat) (br : Nat) (gk : Nat → Int32) (gv : Nat → Int32) (gr : Nat → Int32) (gt : Nat → Int32) (gb : Nat → Int32)  : MetI l yX5_image cX5_image 1 .int ({ frames := 3, cells := 0, slots := 0, locals := 122 } : Room) [.ref ax] D (TYS cI cZ cQ cT) EF sz [(ax, .inr (5, [.ref ah, .ref bh, .int 0, .ref an, .ref aw, .ref ad, .ref ae, .ref ap, .ref aa])), (ah, .inr (3, [.ref af, .ref atp, .ref ab, .int 0, .int 0, .int 0])), (af, .inr (2, [.ref ak, .ref av, .ref ar, .int 0, .int 0, .int 0])), (ak, .inl (cI, 4, .inl fk)), (av, .inl (cI, 4, .inl fv)), (ar, .inl (cI, 4, .inl fr)), (atp, .inl (cI, 100, .inl ft)), (ab, .inl (cI, 10, .inl fb)), (bh, .inr (3, [.ref bf, .ref bt, .ref bb, .int 0, .int 0, .int 0])), (bf, .inr (2, [.ref bk, .ref bv, .ref br, .int 0, .int 0, .int 0])), (bk, .inl (cI, 4, .inl gk)), (bv, .inl (cI, 4, .inl gv)), (br, .inl (cI, 4, .inl gr)), (bt, .inl (cI, 100, .inl gt)), (bb, .inl (cI, 10, .inl gb))] (S := Unit) (fun (r : Int32) (_ : Unit) => r = 0) (fun _ => []) := by
  refine MetI.mk (lv := [(0, .ref ax)]) (by decide +kernel) (Nat.le_of_ble_eq_true rfl) rfl ?_
  intro p e s m below meth c A ls C0 hP hD hS hX hl
  have C1 := C0
  obtain ⟨hx, hb, hr, hml, hown, hlocks, hname, hT, hN, hK, hA⟩ := C1
  refine lv_aload_n hx hb dX5_image_0 rfl (lv_at hl 0 rfl) ?_
  refine va_get (ci := 5) (v := .ref bh) (C := RX5) (T := TX5) (N := 9) hx hb hT wu_X5 hown hK hP 0 rfl rfl 1 (by decide) (hT _ wf_X5_16) (fun _ h9 => h9) rfl dX5_image_1 ?_
  refine lv_aload_n hx hb dX5_image_4 rfl (lv_at hl 0 rfl) ?_
  refine va_get (ci := 5) (v := .ref ah) (C := RX5) (T := TX5) (N := 9) hx hb hT wu_X5 hown hK hP 0 rfl rfl 0 (by decide) (hT _ wf_X5_12) (fun _ h9 => h9) rfl dX5_image_5 ?_
  refine contV (wc := [(ah, .inr (3, [.ref af, .ref atp, .ref ab, .int 0, .int 0, .int 0])), (af, .inr (2, [.ref ak, .ref av, .ref ar, .int 0, .int 0, .int 0])), (ak, .inl (cI, 4, .inl fk)), (av, .inl (cI, 4, .inl fv)), (ar, .inl (cI, 4, .inl fr)), (atp, .inl (cI, 100, .inl ft)), (ab, .inl (cI, 10, .inl fb)), (bh, .inr (3, [.ref bf, .ref bt, .ref bb, .int 0, .int 0, .int 0])), (bf, .inr (2, [.ref bk, .ref bv, .ref br, .int 0, .int 0, .int 0])), (bk, .inl (cI, 4, .inl gk)), (bv, .inl (cI, 4, .inl gv)), (br, .inl (cI, 4, .inl gr)), (bt, .inl (cI, 100, .inl gt)), (bb, .inl (cI, 10, .inl gb))]) (wr := [(ax, .inr (5, [.ref ah, .ref bh, .int 0, .ref an, .ref aw, .ref ad, .ref ae, .ref ap, .ref aa]))]) C0 hP hD hS [1, 2, 3, 4, 5, 6, 7, 8, 9, 10, 11, 12, 13, 14] [0] rfl rfl (by decide) (by decide) 0 0 (Nat.le_of_ble_eq_true rfl) (Nat.le_of_ble_eq_true rfl) (runVN (k := 1) (As := [.ref ah]) (rest := []) "DayKnown" 769 C0 (c_Held_become l D cI cZ cQ cT _ bh ah af atp ab ak av ar fk fv fr ft fb bf bt bb bk bv br gk gv gr gt gb) wc_X3_become kl_X5_249 wi_X3_become we_X3_become wz_X3 ⟨by decide, by decide, by decide +kernel⟩ ⟨(Nat.le_of_ble_eq_true rfl), (Nat.le_of_ble_eq_true rfl)⟩ hP hD hS EF.ok hX [1, 2, 3, 4, 5, 6, 7, 8, 9, 10, 11, 12, 13, 14] rfl (by decide) 8 rfl rfl rfl rfl hl.1 rfl (Nat.le_of_ble_eq_true rfl) dX5_image_8 ⟨(Nat.le_of_ble_eq_true rfl), (Nat.le_of_ble_eq_true rfl)⟩) (fun u_1 H locs w_2 hP hD hS => ?_)
  have hP : va_P D CL [(ax, .inr (5, [.ref ah, .ref bh, .int 0, .ref an, .ref aw, .ref ad, .ref ae, .ref ap, .ref aa])), (ah, .inr (3, [.ref af, .ref atp, .ref ab, .int 0, .int 0, .int 0])), (af, .inr (2, [.ref ak, .ref av, .ref ar, .int 0, .int 0, .int 0]))] H := hP
  have hD : va_D A [(ax, .inr (5, [.ref ah, .ref bh, .int 0, .ref an, .ref aw, .ref ad, .ref ae, .ref ap, .ref aa])), (ah, .inr (3, [.ref af, .ref atp, .ref ab, .int 0, .int 0, .int 0])), (af, .inr (2, [.ref ak, .ref av, .ref ar, .int 0, .int 0, .int 0]))] := hD
  refine lv_aload_n hx hb dX5_image_11 rfl (lv_at hl 0 rfl) ?_
  refine lv_iconst (v := 1) hx hb dX5_image_12 (by decide) ?_
  refine va_put (ci := 5) (v := .int 1) (ty := .boolean) (C := RX5) (T := TX5) (N := 9) hx hb hT wu_X5 tyX5 tyX5_ok nmX5 hown hK hP hD hS 0 rfl rfl 2 (by decide) (hT _ wf_X5_252) (fun _ h9 => h9) rfl (by decide +kernel) rfl rfl (Nat.le_of_ble_eq_true rfl) dX5_image_13 (fun H locs hP hD hS => ?_)
  have hP : va_P D CL [(ax, .inr (5, [.ref ah, .ref bh, .int 1, .ref an, .ref aw, .ref ad, .ref ae, .ref ap, .ref aa])), (ah, .inr (3, [.ref af, .ref atp, .ref ab, .int 0, .int 0, .int 0])), (af, .inr (2, [.ref ak, .ref av, .ref ar, .int 0, .int 0, .int 0]))] H := hP
  have hD : va_D A [(ax, .inr (5, [.ref ah, .ref bh, .int 1, .ref an, .ref aw, .ref ad, .ref ae, .ref ap, .ref aa])), (ah, .inr (3, [.ref af, .ref atp, .ref ab, .int 0, .int 0, .int 0])), (af, .inr (2, [.ref ak, .ref av, .ref ar, .int 0, .int 0, .int 0]))] := hD
  refine lv_aload_n hx hb dX5_image_16 rfl (lv_at hl 0 rfl) ?_
  refine va_get (ci := 5) (v := .ref ah) (C := RX5) (T := TX5) (N := 9) hx hb hT wu_X5 hown hK hP 0 rfl rfl 0 (by decide) (hT _ wf_X5_12) (fun _ h9 => h9) rfl dX5_image_17 ?_
  refine va_getN (ci := 3) (v := .ref af) (C := RX3) (T := TX3) (N := 6) hx hb hT wu_X3 hown hK hP 1 rfl rfl 0 (by decide) (va_Nw.use rfl (hN.get 167 kf_X5_32 rfl)) (fun _ h9 => h9) rfl dX5_image_20 ?_
  refine va_getN (ci := 2) (v := .int 0) (C := RX2) (T := TX2) (N := 6) hx hb hT wu_X2 hown hK hP 2 rfl rfl 3 (by decide) (va_Nw.use rfl (hN.get 145 kf_X5_205 rfl)) (fun _ h9 => h9) rfl dX5_image_23 ?_
  exact retI C0 rfl () rfl (hP.sub (ws' := []) [] rfl) (hD.sub (ws' := []) [] (by decide) rfl) hS (Nat.le_of_ble_eq_true rfl) (Nat.le_of_ble_eq_true rfl) dX5_image_26

set_option maxHeartbeats 4000000 in
set_option maxRecDepth 100000 in
theorem x_undo (l : Launch) (D : va_G) (cI cZ cQ cT : ClassId) (sz : Nat) (ax : Nat) (ah : Nat) (bh : Nat) (an : Nat) (aw : Nat) (ad : Nat) (ae : Nat) (ap : Nat) (aa : Nat)  : MetI l yX5_undo cX5_undo 1 .int ({ frames := 0, cells := 0, slots := 0, locals := 0 } : Room) [.ref ax] D (TYS cI cZ cQ cT) EF sz [(ax, .inr (5, [.ref ah, .ref bh, .int 0, .ref an, .ref aw, .ref ad, .ref ae, .ref ap, .ref aa]))] (S := Unit) (fun (r : Int32) (_ : Unit) => r = (-3)) (fun _ => []) := by
  refine MetI.mk (lv := [(0, .ref ax)]) (by decide +kernel) (Nat.le_of_ble_eq_true rfl) rfl ?_
  intro p e s m below meth c A ls C0 hP hD hS hX hl
  have C1 := C0
  obtain ⟨hx, hb, hr, hml, hown, hlocks, hname, hT, hN, hK, hA⟩ := C1
  refine lv_aload_n hx hb dX5_undo_0 rfl (lv_at hl 0 rfl) ?_
  refine va_get (ci := 5) (v := .int 0) (C := RX5) (T := TX5) (N := 9) hx hb hT wu_X5 hown hK hP 0 rfl rfl 2 (by decide) (hT _ wf_X5_252) (fun _ h9 => h9) rfl dX5_undo_1 ?_
  refine lv_if_ne (tgt := 10) hx hb dX5_undo_4 (by decide) (fun c_0 => absurd (by decide) c_0) (fun _ => ?_)
  refine lv_bipush (v := (-3)) hx hb dX5_undo_7 (by decide) ?_
  exact retI C0 rfl () rfl (hP.sub (ws' := []) [] rfl) (hD.sub (ws' := []) [] (by decide) rfl) hS (Nat.le_of_ble_eq_true rfl) (Nat.le_of_ble_eq_true rfl) dX5_undo_9

set_option maxHeartbeats 4000000 in
set_option maxRecDepth 100000 in
theorem x_count (l : Launch) (D : va_G) (cI cZ cQ cT : ClassId) (sz : Nat) (ax : Nat) (p1 : Int32) (ah : Nat) (bh : Nat) (an : Nat) (aw : Nat) (ad : Nat) (ae : Nat) (ap : Nat) (aa : Nat) (af : Nat) (atp : Nat) (ab : Nat) (ak : Nat) (av : Nat) (ar : Nat) (a1 : Nat)  : MetI l yX5_count cX5_count 2 .int ({ frames := 0, cells := 0, slots := 0, locals := 0 } : Room) [.ref ax, .int p1] D (TYS cI cZ cQ cT) EF sz [(ax, .inr (5, [.ref ah, .ref bh, .int 0, .ref an, .ref aw, .ref ad, .ref ae, .ref ap, .ref aa])), (ah, .inr (3, [.ref af, .ref atp, .ref ab, .int 0, .int 0, .int 0])), (af, .inr (2, [.ref ak, .ref av, .ref ar, .int 0, .int 0, .int 0])), (aa, .inr (0, [.ref a1, .int 0, .int 0, .int 0, .int 0]))] (S := Unit) (fun (r : Int32) (_ : Unit) => r = (if p1 = (0 : Int32) then 0 else (if p1 = (1 : Int32) then 0 else (if p1 = (2 : Int32) then 0 else (if p1 = (3 : Int32) then 0 else (if p1 = (4 : Int32) then 0 else (-1))))))) (fun _ => []) := by
  refine MetI.mk (lv := [(0, .ref ax), (1, .int p1)]) (by decide +kernel) (Nat.le_of_ble_eq_true rfl) rfl ?_
  intro p e s m below meth c A ls C0 hP hD hS hX hl
  have C1 := C0
  obtain ⟨hx, hb, hr, hml, hown, hlocks, hname, hT, hN, hK, hA⟩ := C1
  refine lv_iload_n hx hb dX5_count_0 rfl (lv_at hl 1 rfl) ?_
  refine (Decidable.em (p1 = (0 : Int32))).elim (fun c_1 => ?_) (fun c_1 => ?_)
  · refine lv_tableIn (off := 35) (tgt := 36) hx hb dX5_count_1 (by rw [c_1]; decide) (by rw [c_1]; decide) (by rw [c_1]; rfl) (by decide) ?_
    refine lv_aload_n hx hb dX5_count_36 rfl (lv_at hl 0 rfl) ?_
    refine va_get (ci := 5) (v := .ref ah) (C := RX5) (T := TX5) (N := 9) hx hb hT wu_X5 hown hK hP 0 rfl rfl 0 (by decide) (hT _ wf_X5_12) (fun _ h9 => h9) rfl dX5_count_37 ?_
    refine va_getN (ci := 3) (v := .ref af) (C := RX3) (T := TX3) (N := 6) hx hb hT wu_X3 hown hK hP 1 rfl rfl 0 (by decide) (va_Nw.use rfl (hN.get 167 kf_X5_32 rfl)) (fun _ h9 => h9) rfl dX5_count_40 ?_
    refine va_getN (ci := 2) (v := .int 0) (C := RX2) (T := TX2) (N := 6) hx hb hT wu_X2 hown hK hP 2 rfl rfl 3 (by decide) (va_Nw.use rfl (hN.get 145 kf_X5_205 rfl)) (fun _ h9 => h9) rfl dX5_count_43 ?_
    exact retI C0 rfl () (((if_pos c_1)).symm) (hP.sub (ws' := []) [] rfl) (hD.sub (ws' := []) [] (by decide) rfl) hS (Nat.le_of_ble_eq_true rfl) (Nat.le_of_ble_eq_true rfl) dX5_count_46
  · skip
    refine (Decidable.em (p1 = (1 : Int32))).elim (fun c_2 => ?_) (fun c_2 => ?_)
    · refine lv_tableIn (off := 46) (tgt := 47) hx hb dX5_count_1 (by rw [c_2]; decide) (by rw [c_2]; decide) (by rw [c_2]; rfl) (by decide) ?_
      refine lv_aload_n hx hb dX5_count_47 rfl (lv_at hl 0 rfl) ?_
      refine va_get (ci := 5) (v := .ref ah) (C := RX5) (T := TX5) (N := 9) hx hb hT wu_X5 hown hK hP 0 rfl rfl 0 (by decide) (hT _ wf_X5_12) (fun _ h9 => h9) rfl dX5_count_48 ?_
      refine va_getN (ci := 3) (v := .int 0) (C := RX3) (T := TX3) (N := 6) hx hb hT wu_X3 hown hK hP 1 rfl rfl 5 (by decide) (va_Nw.use rfl (hN.get 177 kf_X5_67 rfl)) (fun _ h9 => h9) rfl dX5_count_51 ?_
      exact retI C0 rfl () (((if_neg c_1).trans ((if_pos c_2))).symm) (hP.sub (ws' := []) [] rfl) (hD.sub (ws' := []) [] (by decide) rfl) hS (Nat.le_of_ble_eq_true rfl) (Nat.le_of_ble_eq_true rfl) dX5_count_54
    · skip
      refine (Decidable.em (p1 = (2 : Int32))).elim (fun c_3 => ?_) (fun c_3 => ?_)
      · refine lv_tableIn (off := 54) (tgt := 55) hx hb dX5_count_1 (by rw [c_3]; decide) (by rw [c_3]; decide) (by rw [c_3]; rfl) (by decide) ?_
        refine lv_aload_n hx hb dX5_count_55 rfl (lv_at hl 0 rfl) ?_
        refine va_get (ci := 5) (v := .ref ah) (C := RX5) (T := TX5) (N := 9) hx hb hT wu_X5 hown hK hP 0 rfl rfl 0 (by decide) (hT _ wf_X5_12) (fun _ h9 => h9) rfl dX5_count_56 ?_
        refine va_getN (ci := 3) (v := .int 0) (C := RX3) (T := TX3) (N := 6) hx hb hT wu_X3 hown hK hP 1 rfl rfl 4 (by decide) (va_Nw.use rfl (hN.get 175 kf_X5_227 rfl)) (fun _ h9 => h9) rfl dX5_count_59 ?_
        exact retI C0 rfl () (((if_neg c_1).trans ((if_neg c_2).trans ((if_pos c_3)))).symm) (hP.sub (ws' := []) [] rfl) (hD.sub (ws' := []) [] (by decide) rfl) hS (Nat.le_of_ble_eq_true rfl) (Nat.le_of_ble_eq_true rfl) dX5_count_62
      · skip
        refine (Decidable.em (p1 = (3 : Int32))).elim (fun c_4 => ?_) (fun c_4 => ?_)
        · refine lv_tableIn (off := 62) (tgt := 63) hx hb dX5_count_1 (by rw [c_4]; decide) (by rw [c_4]; decide) (by rw [c_4]; rfl) (by decide) ?_
          refine lv_aload_n hx hb dX5_count_63 rfl (lv_at hl 0 rfl) ?_
          refine va_get (ci := 5) (v := .ref ah) (C := RX5) (T := TX5) (N := 9) hx hb hT wu_X5 hown hK hP 0 rfl rfl 0 (by decide) (hT _ wf_X5_12) (fun _ h9 => h9) rfl dX5_count_64 ?_
          refine va_getN (ci := 3) (v := .int 0) (C := RX3) (T := TX3) (N := 6) hx hb hT wu_X3 hown hK hP 1 rfl rfl 3 (by decide) (va_Nw.use rfl (hN.get 172 kf_X5_60 rfl)) (fun _ h9 => h9) rfl dX5_count_67 ?_
          exact retI C0 rfl () (((if_neg c_1).trans ((if_neg c_2).trans ((if_neg c_3).trans ((if_pos c_4))))).symm) (hP.sub (ws' := []) [] rfl) (hD.sub (ws' := []) [] (by decide) rfl) hS (Nat.le_of_ble_eq_true rfl) (Nat.le_of_ble_eq_true rfl) dX5_count_70
        · skip
          refine (Decidable.em (p1 = (4 : Int32))).elim (fun c_5 => ?_) (fun c_5 => ?_)
          · refine lv_tableIn (off := 70) (tgt := 71) hx hb dX5_count_1 (by rw [c_5]; decide) (by rw [c_5]; decide) (by rw [c_5]; rfl) (by decide) ?_
            refine lv_aload_n hx hb dX5_count_71 rfl (lv_at hl 0 rfl) ?_
            refine va_get (ci := 5) (v := .ref aa) (C := RX5) (T := TX5) (N := 9) hx hb hT wu_X5 hown hK hP 0 rfl rfl 8 (by decide) (hT _ wf_X5_56) (fun _ h9 => h9) rfl dX5_count_72 ?_
            refine va_getN (ci := 0) (v := .int 0) (C := RX0) (T := TX0) (N := 5) hx hb hT wu_X0 hown hK hP 3 rfl rfl 1 (by decide) (va_Nw.use rfl (hN.get 289 kf_X5_240 rfl)) (fun _ h9 => h9) rfl dX5_count_75 ?_
            exact retI C0 rfl () (((if_neg c_1).trans ((if_neg c_2).trans ((if_neg c_3).trans ((if_neg c_4).trans ((if_pos c_5)))))).symm) (hP.sub (ws' := []) [] rfl) (hD.sub (ws' := []) [] (by decide) rfl) hS (Nat.le_of_ble_eq_true rfl) (Nat.le_of_ble_eq_true rfl) dX5_count_78
          · skip
            refine lv_tableOut (tgt := 79) hx hb dX5_count_1 (by have e0 := ne_toInt (k := 0) c_1 (by decide); have e1 := ne_toInt (k := 1) c_2 (by decide); have e2 := ne_toInt (k := 2) c_3 (by decide); have e3 := ne_toInt (k := 3) c_4 (by decide); have e4 := ne_toInt (k := 4) c_5 (by decide); omega) (by decide) ?_
            refine lv_iconst (v := (-1)) hx hb dX5_count_79 (by decide) ?_
            exact retI C0 rfl () (((if_neg c_1).trans ((if_neg c_2).trans ((if_neg c_3).trans ((if_neg c_4).trans ((if_neg c_5)))))).symm) (hP.sub (ws' := []) [] rfl) (hD.sub (ws' := []) [] (by decide) rfl) hS (Nat.le_of_ble_eq_true rfl) (Nat.le_of_ble_eq_true rfl) dX5_count_80
end C2
