section GX
set_option maxHeartbeats 4000000 in
set_option maxRecDepth 100000 in
theorem t_passes (l : Launch) (D : va_G) (cI cZ cQ cT : ClassId) (sz : Nat) (d3 : Nat) (d_f : Nat → Int32) (ten : Nat) (hte : ten < 1800) : MetI l yX4_passes cX4_passes 4 .boolean ({ frames := 0, cells := 0, slots := 0, locals := 0 } : Room) [.int (nI ten), .ref d3] D (TYS cI cZ cQ cT) EF sz [(d3, .inl (cI, 6, .inl d_f))] (S := Unit) (fun (r : Int32) (_ : Unit) => r = (nI (bN (tcN d_f ten)))) (fun _ => [(d3, .inl (cI, 6, .inl d_f))]) := by
  refine MetI.mk (lv := [(0, .int (nI ten)), (1, .ref d3)]) (by decide +kernel) (Nat.le_of_ble_eq_true rfl) rfl ?_
  intro p e s m below meth c A ls C0 hP hD hS hX hl
  have C1 := C0
  obtain ⟨hx, hb, hr, hml, hown, hlocks, hname, hT, hN, hK, hA⟩ := C1
  refine lv_iload_n hx hb dX4_passes_0 rfl (lv_at hl 0 rfl) ?_
  refine lv_bipush (v := 100) hx hb dX4_passes_1 (by decide) ?_
  refine lv_idiv hx hb dX4_passes_3 (by decide) ?_
  refine lv_ci (nI (ten / 100)) (pk_div (a := ten) (d := 100) (by omega) (by decide) (by decide)) ?_
  refine lv_iconst (v := 3) hx hb dX4_passes_4 (by decide) ?_
  refine lv_idiv hx hb dX4_passes_5 (by decide) ?_
  refine lv_ci (nI ((ten / 100) / 3)) (pk_div (a := (ten / 100)) (d := 3) (by omega) (by decide) (by decide)) ?_
  refine lv_istore_n (lv' := [(2, .int (nI ((ten / 100) / 3))), (0, .int (nI ten)), (1, .ref d3)]) hx hb dX4_passes_6 rfl hl (by decide) rfl (fun ls hl => ?_)
  refine lv_iload_n hx hb dX4_passes_7 rfl (lv_at hl 0 rfl) ?_
  refine lv_if_lt (tgt := 17) hx hb dX4_passes_8 (by decide) (fun c_0 => absurd c_0 (nI_pos (by omega))) (fun _ => ?_)
  refine lv_iload_n hx hb dX4_passes_11 rfl (lv_at hl 0 rfl) ?_
  refine lv_aload_n hx hb dX4_passes_12 rfl (lv_at hl 2 rfl) ?_
  refine va_alen hx hb hK hP 0 0 rfl rfl (v := 6) (show Int32.ofNat 6 = (6 : Int32) by decide +kernel) dX4_passes_13 ?_
  refine lv_icmp_lt (tgt := 19) hx hb dX4_passes_14 (by decide) (fun _ => ?_) (fun c_0 => absurd (nlt_c (n := 6) rfl (by decide) (by omega)) c_0)
  refine lv_iload_n hx hb dX4_passes_19 rfl (lv_at hl 1 rfl) ?_
  refine lv_bipush (v := 100) hx hb dX4_passes_20 (by decide) ?_
  refine lv_irem hx hb dX4_passes_22 (by decide) ?_
  refine lv_ci (nI (ten % 100)) (pk_rem (a := ten) (d := 100) (by omega) (by decide) (by decide)) ?_
  refine lv_istore_n (lv' := [(3, .int (nI (ten % 100))), (2, .int (nI ((ten / 100) / 3))), (0, .int (nI ten)), (1, .ref d3)]) hx hb dX4_passes_23 rfl hl (by decide) rfl (fun ls hl => ?_)
  refine lv_iload_n hx hb dX4_passes_24 rfl (lv_at hl 2 rfl) ?_
  refine lv_bipush (v := 100) hx hb dX4_passes_25 (by decide) ?_
  refine lv_idiv hx hb dX4_passes_27 (by decide) ?_
  refine lv_ci (nI (ten / 100)) (pk_div (a := ten) (d := 100) (by omega) (by decide) (by decide)) ?_
  refine lv_iconst (v := 3) hx hb dX4_passes_28 (by decide) ?_
  refine lv_irem hx hb dX4_passes_29 (by decide) ?_
  refine lv_ci (nI ((ten / 100) % 3)) (pk_rem (a := (ten / 100)) (d := 3) (by omega) (by decide) (by decide)) ?_
  rcases (show ((ten / 100) % 3) = 0 ∨ ((ten / 100) % 3) = 1 ∨ ((ten / 100) % 3) = 2 by omega) with hq3_1 | hq3_1 | hq3_1
  · skip
    refine lv_ci 0 (by rw [hq3_1]; rfl) ?_
    refine lv_lookup (off := 26) (tgt := 56) hx hb dX4_passes_30 (by decide) (by decide) (by decide) ?_
    refine lv_aload_n hx hb dX4_passes_56 rfl (lv_at hl 3 rfl) ?_
    refine lv_iload_n hx hb dX4_passes_57 rfl (lv_at hl 1 rfl) ?_
    refine va_iald hx hb hK hP 0 0 rfl rfl (vp_in_nI (n := ((ten / 100) / 3)) (by omega) (by decide)) dX4_passes_58 ?_
    refine lv_ci (d_f ((ten / 100) / 3)) (congrArg d_f (nI_clamp (n := ((ten / 100) / 3)) (by omega))) ?_
    refine lv_iload_n hx hb dX4_passes_59 rfl (lv_at hl 0 rfl) ?_
    refine lv_icmp_ge (tgt := 67) hx hb dX4_passes_60 (by decide) (fun c_2 => ?_) (fun c_2 => ?_)
    · refine lv_iconst (v := 0) hx hb dX4_passes_67 (by decide) ?_
      exact retI C0 rfl () ((congrArg nI (bN_f (tc_0f hq3_1 (Int32.not_lt.mpr c_2)))).symm) (hP.sub (ws' := [(d3, .inl (cI, 6, .inl d_f))]) [0] rfl) (hD.sub (ws' := [(d3, .inl (cI, 6, .inl d_f))]) [0] (by decide) rfl) hS (Nat.le_of_ble_eq_true rfl) (Nat.le_of_ble_eq_true rfl) dX4_passes_68
    · refine lv_iconst (v := 1) hx hb dX4_passes_63 (by decide) ?_
      refine lv_goto (tgt := 68) hx hb dX4_passes_64 (by decide) ?_
      exact retI C0 rfl () ((congrArg nI (bN_t (tc_0t hq3_1 (Int32.not_le.mp c_2)))).symm) (hP.sub (ws' := [(d3, .inl (cI, 6, .inl d_f))]) [0] rfl) (hD.sub (ws' := [(d3, .inl (cI, 6, .inl d_f))]) [0] (by decide) rfl) hS (Nat.le_of_ble_eq_true rfl) (Nat.le_of_ble_eq_true rfl) dX4_passes_68
  · skip
    refine lv_ci 1 (by rw [hq3_1]; rfl) ?_
    refine lv_lookup (off := 39) (tgt := 69) hx hb dX4_passes_30 (by decide) (by decide) (by decide) ?_
    refine lv_aload_n hx hb dX4_passes_69 rfl (lv_at hl 3 rfl) ?_
    refine lv_iload_n hx hb dX4_passes_70 rfl (lv_at hl 1 rfl) ?_
    refine va_iald hx hb hK hP 0 0 rfl rfl (vp_in_nI (n := ((ten / 100) / 3)) (by omega) (by decide)) dX4_passes_71 ?_
    refine lv_ci (d_f ((ten / 100) / 3)) (congrArg d_f (nI_clamp (n := ((ten / 100) / 3)) (by omega))) ?_
    refine lv_iload_n hx hb dX4_passes_72 rfl (lv_at hl 0 rfl) ?_
    refine lv_icmp_ne (tgt := 80) hx hb dX4_passes_73 (by decide) (fun c_3 => ?_) (fun c_3 => ?_)
    · refine lv_iconst (v := 0) hx hb dX4_passes_80 (by decide) ?_
      exact retI C0 rfl () ((congrArg nI (bN_f (tc_1f hq3_1 (c_3)))).symm) (hP.sub (ws' := [(d3, .inl (cI, 6, .inl d_f))]) [0] rfl) (hD.sub (ws' := [(d3, .inl (cI, 6, .inl d_f))]) [0] (by decide) rfl) hS (Nat.le_of_ble_eq_true rfl) (Nat.le_of_ble_eq_true rfl) dX4_passes_81
    · refine lv_iconst (v := 1) hx hb dX4_passes_76 (by decide) ?_
      refine lv_goto (tgt := 81) hx hb dX4_passes_77 (by decide) ?_
      exact retI C0 rfl () ((congrArg nI (bN_t (tc_1t hq3_1 (c_3)))).symm) (hP.sub (ws' := [(d3, .inl (cI, 6, .inl d_f))]) [0] rfl) (hD.sub (ws' := [(d3, .inl (cI, 6, .inl d_f))]) [0] (by decide) rfl) hS (Nat.le_of_ble_eq_true rfl) (Nat.le_of_ble_eq_true rfl) dX4_passes_81
  · skip
    refine lv_ci 2 (by rw [hq3_1]; rfl) ?_
    refine lv_lookup (off := 52) (tgt := 82) hx hb dX4_passes_30 (by decide) (by decide) (by decide) ?_
    refine lv_aload_n hx hb dX4_passes_82 rfl (lv_at hl 3 rfl) ?_
    refine lv_iload_n hx hb dX4_passes_83 rfl (lv_at hl 1 rfl) ?_
    refine va_iald hx hb hK hP 0 0 rfl rfl (vp_in_nI (n := ((ten / 100) / 3)) (by omega) (by decide)) dX4_passes_84 ?_
    refine lv_ci (d_f ((ten / 100) / 3)) (congrArg d_f (nI_clamp (n := ((ten / 100) / 3)) (by omega))) ?_
    refine lv_iload_n hx hb dX4_passes_85 rfl (lv_at hl 0 rfl) ?_
    refine lv_icmp_le (tgt := 93) hx hb dX4_passes_86 (by decide) (fun c_4 => ?_) (fun c_4 => ?_)
    · refine lv_iconst (v := 0) hx hb dX4_passes_93 (by decide) ?_
      exact retI C0 rfl () ((congrArg nI (bN_f (tc_2f hq3_1 (Int32.not_lt.mpr c_4)))).symm) (hP.sub (ws' := [(d3, .inl (cI, 6, .inl d_f))]) [0] rfl) (hD.sub (ws' := [(d3, .inl (cI, 6, .inl d_f))]) [0] (by decide) rfl) hS (Nat.le_of_ble_eq_true rfl) (Nat.le_of_ble_eq_true rfl) dX4_passes_94
    · refine lv_iconst (v := 1) hx hb dX4_passes_89 (by decide) ?_
      refine lv_goto (tgt := 94) hx hb dX4_passes_90 (by decide) ?_
      exact retI C0 rfl () ((congrArg nI (bN_t (tc_2t hq3_1 (Int32.not_le.mp c_4)))).symm) (hP.sub (ws' := [(d3, .inl (cI, 6, .inl d_f))]) [0] rfl) (hD.sub (ws' := [(d3, .inl (cI, 6, .inl d_f))]) [0] (by decide) rfl) hS (Nat.le_of_ble_eq_true rfl) (Nat.le_of_ble_eq_true rfl) dX4_passes_94

set_option maxHeartbeats 4000000 in
set_option maxRecDepth 100000 in
theorem t_holds (l : Launch) (D : va_G) (cI cZ cQ cT : ClassId) (sz : Nat) (tn : Nat) (d3 : Nat) (tna : Nat) (tns : Int32) (tnt : Int32) (tnb : Nat) (tnk : Int32) (tnc : Nat) (tnd : Nat) (tnl : Int32) (tnh : Int32) (ftnb : Nat → Int32) (d_f : Nat → Int32) (on : Nat) (en : Nat) (L : List Int32) (hcd : ∀ i, i < L.length → ftnb (on + i) = cod (L.getD i 0)) (hwf : wfT 0 L) (hen : en = on + L.length) (hen2 : en ≤ 100) : MetI l yX4_holds cX4_holds 6 .boolean ({ frames := 1, cells := 0, slots := 0, locals := 60 } : Room) [.ref tn, .int (nI on), .int (nI en), .ref d3] D (TYS cI cZ cQ cT) EF sz [(tn, .inr (4, [.ref tna, .int tns, .int tnt, .ref tnb, .int tnk, .ref tnc, .ref tnd, .int tnl, .int tnh])), (tnb, .inl (cI, 100, .inl ftnb)), (d3, .inl (cI, 6, .inl d_f))] (S := Unit) (fun (r : Int32) (_ : Unit) => r = (nI (bN (evL d_f L)))) (fun _ => [(tn, .inr (4, [.ref tna, .int tns, .int tnt, .ref tnb, .int tnk, .ref tnc, .ref tnd, .int tnl, .int tnh])), (tnb, .inl (cI, 100, .inl ftnb)), (d3, .inl (cI, 6, .inl d_f))]) := by
  refine MetI.mk (lv := [(0, .ref tn), (1, .int (nI on)), (2, .int (nI en)), (3, .ref d3)]) (by decide +kernel) (Nat.le_of_ble_eq_true rfl) rfl ?_
  intro p e s m below meth c A ls C0 hP hD hS hX hl
  have C1 := C0
  obtain ⟨hx, hb, hr, hml, hown, hlocks, hname, hT, hN, hK, hA⟩ := C1
  refine lv_iconst (v := 0) hx hb dX4_holds_0 (by decide) ?_
  refine lv_istore (lv' := [(4, .int 0), (0, .ref tn), (1, .int (nI on)), (2, .int (nI en)), (3, .ref d3)]) hx hb dX4_holds_1 hl (by decide) rfl (fun ls hl => ?_)
  refine lv_iload_n hx hb dX4_holds_3 rfl (lv_at hl 2 rfl) ?_
  refine lv_iconst (v := 0) hx hb dX4_holds_4 (by decide) ?_
  refine va_mmax hx hb (hml.trans hl.1.symm) hown (hT _ wl_X4_30) (hT _ wt_J9_max_7cf53) (hT _ wz_J9) (hT _ wc_J9_max_7cf53) (Nat.le_of_ble_eq_true rfl) (Nat.le_of_ble_eq_true rfl) (Nat.le_of_ble_eq_true rfl) (Nat.le_of_ble_eq_true rfl) dX4_holds_5 ?_
  refine lv_ci (nI on) (max0 (by omega)) ?_
  refine lv_istore (lv' := [(5, .int (nI on)), (4, .int 0), (0, .ref tn), (1, .int (nI on)), (2, .int (nI en)), (3, .ref d3)]) hx hb dX4_holds_8 hl (by decide) rfl (fun ls hl => ?_)
  have LOOP_1 : ∀ (fu_ : Nat) (m_ : Nat) (i_ : Nat) (s_ : Nat) (H : Heap) (locs : List Loc) (ls : Array Slot), (L.length - m_) < fu_ → (m_ ≤ L.length) → (i_ = on + m_) → (HIv d_f L m_ s_) → va_P D CL [(tn, .inr (4, [.ref tna, .int tns, .int tnt, .ref tnb, .int tnk, .ref tnc, .ref tnd, .int tnl, .int tnh])), (tnb, .inl (cI, 100, .inl ftnb)), (d3, .inl (cI, 6, .inl d_f))] H → va_D A [(tn, .inr (4, [.ref tna, .int tns, .int tnt, .ref tnb, .int tnk, .ref tnc, .ref tnd, .int tnl, .int tnh])), (tnb, .inl (cI, 100, .inl ftnb)), (d3, .inl (cI, 6, .inl d_f))] → va_S A s.heap H locs → lv_has ls 6 [(0, .ref tn), (1, .int (nI on)), (2, .int (nI en)), (3, .ref d3), (4, .int (nI s_)), (5, .int (nI i_))] → W p l e ({ frames := 1, cells := 0, slots := 0, locals := 60 } : Room) s m [.ref tn, .int (nI on), .int (nI en), .ref d3].toArray below meth c H locs 0 0 (MQ below (va_Qi (S := Unit) (fun (r : Int32) (_ : Unit) => r = (nI (bN (evL d_f L)))) (fun _ => wE D (TYS cI cZ cQ cT) A [(tn, .inr (4, [.ref tna, .int tns, .int tnt, .ref tnb, .int tnk, .ref tnc, .ref tnd, .int tnl, .int tnh])), (tnb, .inl (cI, 100, .inl ftnb)), (d3, .inl (cI, 6, .inl d_f))]) A) [.ref tn, .int (nI on), .int (nI en), .ref d3].toArray s 0 0 A) (F0 m 10 ls [])  := by
    intro fu_
    induction fu_ with
    | zero => intro m_ i_ s_ H locs ls hk_; exact absurd hk_ (Nat.not_lt_zero _)
    | succ fu_ ih_2 =>
      intro m_ i_ s_ H locs ls hk_ i1 i2 iH hP hD hS hl
      refine lv_iload hx hb dX4_holds_10 (lv_at hl 5 rfl) ?_
      refine lv_iload_n hx hb dX4_holds_12 rfl (lv_at hl 2 rfl) ?_
      refine lv_icmp_ge (tgt := 126) hx hb dX4_holds_13 (by decide) (fun c_3 => ?_) (fun c_3 => ?_)
      · have n_4 : en ≤ i_ := (nI_leI (a := en) (b := i_) (by omega) (by omega)).mp c_3
        have hlt_ := iH.lt
        refine lv_iload hx hb dX4_holds_126 (lv_at hl 4 rfl) ?_
        refine lv_iconst (v := 1) hx hb dX4_holds_128 (by decide) ?_
        refine lv_iand hx hb dX4_holds_129 ?_
        refine lv_ci (nI (s_ % 2)) (pk_andN (n := s_) (by omega) 1 (by decide +kernel)) ?_
        refine lv_iconst (v := 1) hx hb dX4_holds_130 (by decide) ?_
        refine lv_icmp_ne (tgt := 138) hx hb dX4_holds_131 (by decide) (fun c_6 => ?_) (fun c_6 => ?_)
        · have n_7 : ¬ (s_ % 2) = 1 := fun hx9_ => c_6 ((nI_eq (a := (s_ % 2)) (b := 1) (by omega) (by omega)).mpr hx9_)
          refine lv_iconst (v := 0) hx hb dX4_holds_138 (by decide) ?_
          exact retI C0 rfl () ((congrArg nI (bN_f (ev_0 (iH.done (by omega)) n_7))).symm) (hP.sub (ws' := [(tn, .inr (4, [.ref tna, .int tns, .int tnt, .ref tnb, .int tnk, .ref tnc, .ref tnd, .int tnl, .int tnh])), (tnb, .inl (cI, 100, .inl ftnb)), (d3, .inl (cI, 6, .inl d_f))]) [0, 1, 2] rfl) (hD.sub (ws' := [(tn, .inr (4, [.ref tna, .int tns, .int tnt, .ref tnb, .int tnk, .ref tnc, .ref tnd, .int tnl, .int tnh])), (tnb, .inl (cI, 100, .inl ftnb)), (d3, .inl (cI, 6, .inl d_f))]) [0, 1, 2] (by decide) rfl) hS (Nat.le_of_ble_eq_true rfl) (Nat.le_of_ble_eq_true rfl) dX4_holds_139
        · have n_8 : (s_ % 2) = 1 := (nI_eq (a := (s_ % 2)) (b := 1) (by omega) (by omega)).mp c_6
          refine lv_iconst (v := 1) hx hb dX4_holds_134 (by decide) ?_
          refine lv_goto (tgt := 139) hx hb dX4_holds_135 (by decide) ?_
          exact retI C0 rfl () ((congrArg nI (bN_t (ev_1 (iH.done (by omega)) n_8))).symm) (hP.sub (ws' := [(tn, .inr (4, [.ref tna, .int tns, .int tnt, .ref tnb, .int tnk, .ref tnc, .ref tnd, .int tnl, .int tnh])), (tnb, .inl (cI, 100, .inl ftnb)), (d3, .inl (cI, 6, .inl d_f))]) [0, 1, 2] rfl) (hD.sub (ws' := [(tn, .inr (4, [.ref tna, .int tns, .int tnt, .ref tnb, .int tnk, .ref tnc, .ref tnd, .int tnl, .int tnh])), (tnb, .inl (cI, 100, .inl ftnb)), (d3, .inl (cI, 6, .inl d_f))]) [0, 1, 2] (by decide) rfl) hS (Nat.le_of_ble_eq_true rfl) (Nat.le_of_ble_eq_true rfl) dX4_holds_139
      · have n_5 : ¬ en ≤ i_ := fun hx9_ => c_3 ((nI_leI (a := en) (b := i_) (by omega) (by omega)).mpr hx9_)
        refine lv_iload hx hb dX4_holds_16 (lv_at hl 5 rfl) ?_
        refine lv_bipush (v := 100) hx hb dX4_holds_18 (by decide) ?_
        refine lv_icmp_ge (tgt := 126) hx hb dX4_holds_20 (by decide) (fun c_0 => absurd c_0 (nge_c (n := 100) rfl (by decide) (by omega))) (fun _ => ?_)
        have hm_ : m_ < L.length := by omega
        have hlt_ := iH.lt
        refine lv_aload_n hx hb dX4_holds_23 rfl (lv_at hl 0 rfl) ?_
        refine va_get (ci := 4) (v := .ref tnb) (C := RX4) (T := TX4) (N := 9) hx hb hT wu_X4 hown hK hP 0 rfl rfl 3 (by decide) (hT _ wf_X4_15) (fun _ h9 => h9) rfl dX4_holds_24 ?_
        refine lv_iload hx hb dX4_holds_27 (lv_at hl 5 rfl) ?_
        refine va_iald hx hb hK hP 1 0 rfl rfl (vp_in_nI (n := i_) (by omega) (by decide)) dX4_holds_29 ?_
        refine lv_ci (ftnb i_) (congrArg ftnb (nI_clamp (n := i_) (by omega))) ?_
        refine lv_ci (cod (L.getD m_ 0)) (by rw [i2]; exact hcd m_ hm_) ?_
        rcases iH.cls hm_ with ⟨e_9, e_10⟩ | ⟨e_9, e_10⟩ | ⟨e_9, e_10⟩ | ⟨w_w, q_w, v_w, hw6_, hq3_, hv_, e_10, e_9⟩
        · skip
          refine lv_ci (-3) e_9 ?_
          refine lv_tableIn (off := 55) (tgt := 85) hx hb dX4_holds_30 (by decide) (by decide) (by rfl) (by decide) ?_
          refine lv_iload hx hb dX4_holds_85 (lv_at hl 4 rfl) ?_
          refine lv_iconst (v := 1) hx hb dX4_holds_87 (by decide) ?_
          refine lv_ixor hx hb dX4_holds_88 ?_
          refine lv_ci (nI (s_ ^^^ 1)) (xr_1 _) ?_
          refine lv_istore (lv' := [(4, .int (nI (s_ ^^^ 1))), (0, .ref tn), (1, .int (nI on)), (2, .int (nI en)), (3, .ref d3), (5, .int (nI i_))]) hx hb dX4_holds_89 hl (by decide) rfl (fun ls hl => ?_)
          refine lv_goto (tgt := 120) hx hb dX4_holds_91 (by decide) ?_
          refine lv_iinc (v := (nI (i_ + 1))) (lv' := [(5, .int (nI (i_ + 1))), (4, .int (nI (s_ ^^^ 1))), (0, .ref tn), (1, .int (nI on)), (2, .int (nI en)), (3, .ref d3)]) hx hb dX4_holds_120 hl (k := 5) rfl (nI_succ _).symm (by decide) rfl (fun ls hl => ?_)
          refine lv_goto (tgt := 10) hx hb dX4_holds_123 (by decide) ?_
          exact ih_2 (m_ + 1) (i_ + 1) (s_ ^^^ 1) _ _ _ (by omega) (by omega) (by omega) (iH.not hm_ e_10) (hP.sub (ws' := [(tn, .inr (4, [.ref tna, .int tns, .int tnt, .ref tnb, .int tnk, .ref tnc, .ref tnd, .int tnl, .int tnh])), (tnb, .inl (cI, 100, .inl ftnb)), (d3, .inl (cI, 6, .inl d_f))]) [0, 1, 2] rfl) (hD.sub (ws' := [(tn, .inr (4, [.ref tna, .int tns, .int tnt, .ref tnb, .int tnk, .ref tnc, .ref tnd, .int tnl, .int tnh])), (tnb, .inl (cI, 100, .inl ftnb)), (d3, .inl (cI, 6, .inl d_f))]) [0, 1, 2] (by decide) rfl) hS (lv_sub hl [2, 3, 4, 5, 1, 0] rfl)
        · skip
          refine lv_ci (-1) e_9 ?_
          refine lv_tableIn (off := 26) (tgt := 56) hx hb dX4_holds_30 (by decide) (by decide) (by rfl) (by decide) ?_
          refine lv_iload hx hb dX4_holds_56 (lv_at hl 4 rfl) ?_
          refine lv_iconst (v := 1) hx hb dX4_holds_58 (by decide) ?_
          refine lv_iushr (v := (((nI s_)).toUInt32 >>> (((1 : Int32)).toUInt32 &&& Int32.toUInt32 31)).toInt32) hx hb dX4_holds_59 rfl ?_
          refine lv_ci (nI (s_ / 2 ^ 1)) (ush1 hlt_) ?_
          refine lv_iload hx hb dX4_holds_60 (lv_at hl 4 rfl) ?_
          refine lv_iconst (v := 1) hx hb dX4_holds_62 (by decide) ?_
          refine lv_iand hx hb dX4_holds_63 ?_
          refine lv_ci (nI (s_ % 2)) (pk_andN (n := s_) (by omega) 1 (by decide +kernel)) ?_
          refine lv_ior hx hb dX4_holds_64 ?_
          refine lv_ci (nI ((s_ / 2 ^ 1) ||| (s_ % 2))) (nx_or _ _) ?_
          refine lv_istore (lv' := [(4, .int (nI ((s_ / 2 ^ 1) ||| (s_ % 2)))), (0, .ref tn), (1, .int (nI on)), (2, .int (nI en)), (3, .ref d3), (5, .int (nI i_))]) hx hb dX4_holds_65 hl (by decide) rfl (fun ls hl => ?_)
          refine lv_goto (tgt := 120) hx hb dX4_holds_67 (by decide) ?_
          refine lv_iinc (v := (nI (i_ + 1))) (lv' := [(5, .int (nI (i_ + 1))), (4, .int (nI ((s_ / 2 ^ 1) ||| (s_ % 2)))), (0, .ref tn), (1, .int (nI on)), (2, .int (nI en)), (3, .ref d3)]) hx hb dX4_holds_120 hl (k := 5) rfl (nI_succ _).symm (by decide) rfl (fun ls hl => ?_)
          refine lv_goto (tgt := 10) hx hb dX4_holds_123 (by decide) ?_
          exact ih_2 (m_ + 1) (i_ + 1) ((s_ / 2 ^ 1) ||| (s_ % 2)) _ _ _ (by omega) (by omega) (by omega) (iH.or hm_ e_10) (hP.sub (ws' := [(tn, .inr (4, [.ref tna, .int tns, .int tnt, .ref tnb, .int tnk, .ref tnc, .ref tnd, .int tnl, .int tnh])), (tnb, .inl (cI, 100, .inl ftnb)), (d3, .inl (cI, 6, .inl d_f))]) [0, 1, 2] rfl) (hD.sub (ws' := [(tn, .inr (4, [.ref tna, .int tns, .int tnt, .ref tnb, .int tnk, .ref tnc, .ref tnd, .int tnl, .int tnh])), (tnb, .inl (cI, 100, .inl ftnb)), (d3, .inl (cI, 6, .inl d_f))]) [0, 1, 2] (by decide) rfl) hS (lv_sub hl [2, 3, 4, 5, 1, 0] rfl)
        · skip
          refine lv_ci (-2) e_9 ?_
          refine lv_tableIn (off := 40) (tgt := 70) hx hb dX4_holds_30 (by decide) (by decide) (by rfl) (by decide) ?_
          refine lv_iload hx hb dX4_holds_70 (lv_at hl 4 rfl) ?_
          refine lv_iconst (v := 1) hx hb dX4_holds_72 (by decide) ?_
          refine lv_iushr (v := (((nI s_)).toUInt32 >>> (((1 : Int32)).toUInt32 &&& Int32.toUInt32 31)).toInt32) hx hb dX4_holds_73 rfl ?_
          refine lv_ci (nI (s_ / 2 ^ 1)) (ush1 hlt_) ?_
          refine lv_iload hx hb dX4_holds_74 (lv_at hl 4 rfl) ?_
          refine lv_bipush (v := (-2)) hx hb dX4_holds_76 (by decide) ?_
          refine lv_ior hx hb dX4_holds_78 ?_
          refine lv_ci (nI (s_ ||| 4294967294)) (or_m2 _) ?_
          refine lv_iand hx hb dX4_holds_79 ?_
          refine lv_ci (nI ((s_ / 2 ^ 1) &&& (s_ ||| 4294967294))) (nx_and' _ _) ?_
          refine lv_istore (lv' := [(4, .int (nI ((s_ / 2 ^ 1) &&& (s_ ||| 4294967294)))), (0, .ref tn), (1, .int (nI on)), (2, .int (nI en)), (3, .ref d3), (5, .int (nI i_))]) hx hb dX4_holds_80 hl (by decide) rfl (fun ls hl => ?_)
          refine lv_goto (tgt := 120) hx hb dX4_holds_82 (by decide) ?_
          refine lv_iinc (v := (nI (i_ + 1))) (lv' := [(5, .int (nI (i_ + 1))), (4, .int (nI ((s_ / 2 ^ 1) &&& (s_ ||| 4294967294)))), (0, .ref tn), (1, .int (nI on)), (2, .int (nI en)), (3, .ref d3)]) hx hb dX4_holds_120 hl (k := 5) rfl (nI_succ _).symm (by decide) rfl (fun ls hl => ?_)
          refine lv_goto (tgt := 10) hx hb dX4_holds_123 (by decide) ?_
          exact ih_2 (m_ + 1) (i_ + 1) ((s_ / 2 ^ 1) &&& (s_ ||| 4294967294)) _ _ _ (by omega) (by omega) (by omega) (iH.and hm_ e_10) (hP.sub (ws' := [(tn, .inr (4, [.ref tna, .int tns, .int tnt, .ref tnb, .int tnk, .ref tnc, .ref tnd, .int tnl, .int tnh])), (tnb, .inl (cI, 100, .inl ftnb)), (d3, .inl (cI, 6, .inl d_f))]) [0, 1, 2] rfl) (hD.sub (ws' := [(tn, .inr (4, [.ref tna, .int tns, .int tnt, .ref tnb, .int tnk, .ref tnc, .ref tnd, .int tnl, .int tnh])), (tnb, .inl (cI, 100, .inl ftnb)), (d3, .inl (cI, 6, .inl d_f))]) [0, 1, 2] (by decide) rfl) hS (lv_sub hl [2, 3, 4, 5, 1, 0] rfl)
        · skip
          refine lv_ci (nI (((w_w * 3) + q_w) * 100 + v_w)) e_9 ?_
          refine lv_tableOut (tgt := 94) hx hb dX4_holds_30 (by have e0 := nI_toInt (n := (((w_w * 3) + q_w) * 100 + v_w)) (by omega); omega) (by decide) ?_
          refine lv_iload hx hb dX4_holds_94 (lv_at hl 4 rfl) ?_
          refine lv_iconst (v := 1) hx hb dX4_holds_96 (by decide) ?_
          refine lv_ishl hx hb dX4_holds_97 ?_
          refine lv_ci (nI (s_ * 2 ^ 1)) (shlN (a := s_) (k := 1) (by omega) (by omega)) ?_
          refine lv_aload_n hx hb dX4_holds_98 rfl (lv_at hl 0 rfl) ?_
          refine va_get (ci := 4) (v := .ref tnb) (C := RX4) (T := TX4) (N := 9) hx hb hT wu_X4 hown hK hP 0 rfl rfl 3 (by decide) (hT _ wf_X4_15) (fun _ h9 => h9) rfl dX4_holds_99 ?_
          refine lv_iload hx hb dX4_holds_102 (lv_at hl 5 rfl) ?_
          refine va_iald hx hb hK hP 1 0 rfl rfl (vp_in_nI (n := i_) (by omega) (by decide)) dX4_holds_104 ?_
          refine lv_ci (ftnb i_) (congrArg ftnb (nI_clamp (n := i_) (by omega))) ?_
          refine lv_ci (nI (((w_w * 3) + q_w) * 100 + v_w)) (Eq.trans (by rw [i2]; exact hcd m_ hm_) e_9) ?_
          refine lv_aload_n hx hb dX4_holds_105 rfl (lv_at hl 3 rfl) ?_
          refine contI (wc := [(d3, .inl (cI, 6, .inl d_f))]) (wr := [(tn, .inr (4, [.ref tna, .int tns, .int tnt, .ref tnb, .int tnk, .ref tnc, .ref tnd, .int tnl, .int tnh])), (tnb, .inl (cI, 100, .inl ftnb))]) C0 hP hD hS [2] [0, 1] rfl rfl (by decide) (by decide) 0 0 (Nat.le_of_ble_eq_true rfl) (Nat.le_of_ble_eq_true rfl) (runS (k := 2) (As := [.int (nI (((w_w * 3) + q_w) * 100 + v_w)), .ref d3]) (rest := [.int (nI (s_ * 2 ^ 1))]) C0 (t_passes l D cI cZ cQ cT _ d3 d_f (((w_w * 3) + q_w) * 100 + v_w) (by omega)) wc_X4_passes wl_X4_122 wt_X4_passes wz_X4 ⟨by decide, by decide, by decide +kernel⟩ ⟨(Nat.le_of_ble_eq_true rfl), (Nat.le_of_ble_eq_true rfl)⟩ hP hD hS EF.ok hX [2] rfl (by decide) rfl hl.1 rfl (Nat.le_of_ble_eq_true rfl) dX4_holds_106 ⟨(Nat.le_of_ble_eq_true rfl), (Nat.le_of_ble_eq_true rfl)⟩) (fun r_13 u_11 H locs w_12 hP hD hS => ?_)
          have hP : va_P D CL [(tn, .inr (4, [.ref tna, .int tns, .int tnt, .ref tnb, .int tnk, .ref tnc, .ref tnd, .int tnl, .int tnh])), (tnb, .inl (cI, 100, .inl ftnb)), (d3, .inl (cI, 6, .inl d_f))] H := hP
          have hD : va_D A [(tn, .inr (4, [.ref tna, .int tns, .int tnt, .ref tnb, .int tnk, .ref tnc, .ref tnd, .int tnl, .int tnh])), (tnb, .inl (cI, 100, .inl ftnb)), (d3, .inl (cI, 6, .inl d_f))] := hD
          have hrs_14 : (bN (tcN d_f (((w_w * 3) + q_w) * 100 + v_w))) < 2 := bN_lt _
          obtain rfl : r_13 = (nI (bN (tcN d_f (((w_w * 3) + q_w) * 100 + v_w)))) := w_12
          refine lv_if_eq (tgt := 116) hx hb dX4_holds_109 (by decide) (fun c_15 => ?_) (fun c_15 => ?_)
          · have n_16 : (bN (tcN d_f (((w_w * 3) + q_w) * 100 + v_w))) = 0 := (nI_eq (a := (bN (tcN d_f (((w_w * 3) + q_w) * 100 + v_w)))) (b := 0) (by omega) (by omega)).mp c_15
            refine lv_iconst (v := 0) hx hb dX4_holds_116 (by decide) ?_
            refine lv_ior hx hb dX4_holds_117 ?_
            refine lv_ci (nI ((s_ * 2 ^ 1) + 0)) (or_00 _) ?_
            refine lv_istore (lv' := [(4, .int (nI ((s_ * 2 ^ 1) + 0))), (0, .ref tn), (1, .int (nI on)), (2, .int (nI en)), (3, .ref d3), (5, .int (nI i_))]) hx hb dX4_holds_118 hl (by decide) rfl (fun ls hl => ?_)
            refine lv_iinc (v := (nI (i_ + 1))) (lv' := [(5, .int (nI (i_ + 1))), (4, .int (nI ((s_ * 2 ^ 1) + 0))), (0, .ref tn), (1, .int (nI on)), (2, .int (nI en)), (3, .ref d3)]) hx hb dX4_holds_120 hl (k := 5) rfl (nI_succ _).symm (by decide) rfl (fun ls hl => ?_)
            refine lv_goto (tgt := 10) hx hb dX4_holds_123 (by decide) ?_
            exact ih_2 (m_ + 1) (i_ + 1) ((s_ * 2 ^ 1) + 0) _ _ _ (by omega) (by omega) (by omega) (iH.push hm_ e_10 (by omega) (b := false) ((tcN_eq hw6_ hq3_ hv_).symm.trans (by cases h9_ : tcN d_f (((w_w * 3) + q_w) * 100 + v_w) with | true => exact absurd h9_ (bN_is0 n_16) | false => rfl))) (hP.sub (ws' := [(tn, .inr (4, [.ref tna, .int tns, .int tnt, .ref tnb, .int tnk, .ref tnc, .ref tnd, .int tnl, .int tnh])), (tnb, .inl (cI, 100, .inl ftnb)), (d3, .inl (cI, 6, .inl d_f))]) [0, 1, 2] rfl) (hD.sub (ws' := [(tn, .inr (4, [.ref tna, .int tns, .int tnt, .ref tnb, .int tnk, .ref tnc, .ref tnd, .int tnl, .int tnh])), (tnb, .inl (cI, 100, .inl ftnb)), (d3, .inl (cI, 6, .inl d_f))]) [0, 1, 2] (by decide) rfl) hS (lv_sub hl [2, 3, 4, 5, 1, 0] rfl)
          · have n_17 : ¬ (bN (tcN d_f (((w_w * 3) + q_w) * 100 + v_w))) = 0 := fun hx9_ => c_15 ((nI_eq (a := (bN (tcN d_f (((w_w * 3) + q_w) * 100 + v_w)))) (b := 0) (by omega) (by omega)).mpr hx9_)
            refine lv_iconst (v := 1) hx hb dX4_holds_112 (by decide) ?_
            refine lv_goto (tgt := 117) hx hb dX4_holds_113 (by decide) ?_
            refine lv_ior hx hb dX4_holds_117 ?_
            refine lv_ci (nI ((s_ * 2 ^ 1) + 1)) (or_10 _) ?_
            refine lv_istore (lv' := [(4, .int (nI ((s_ * 2 ^ 1) + 1))), (0, .ref tn), (1, .int (nI on)), (2, .int (nI en)), (3, .ref d3), (5, .int (nI i_))]) hx hb dX4_holds_118 hl (by decide) rfl (fun ls hl => ?_)
            refine lv_iinc (v := (nI (i_ + 1))) (lv' := [(5, .int (nI (i_ + 1))), (4, .int (nI ((s_ * 2 ^ 1) + 1))), (0, .ref tn), (1, .int (nI on)), (2, .int (nI en)), (3, .ref d3)]) hx hb dX4_holds_120 hl (k := 5) rfl (nI_succ _).symm (by decide) rfl (fun ls hl => ?_)
            refine lv_goto (tgt := 10) hx hb dX4_holds_123 (by decide) ?_
            exact ih_2 (m_ + 1) (i_ + 1) ((s_ * 2 ^ 1) + 1) _ _ _ (by omega) (by omega) (by omega) (iH.push hm_ e_10 (by omega) (b := true) ((tcN_eq hw6_ hq3_ hv_).symm.trans (bN_not0 n_17))) (hP.sub (ws' := [(tn, .inr (4, [.ref tna, .int tns, .int tnt, .ref tnb, .int tnk, .ref tnc, .ref tnd, .int tnl, .int tnh])), (tnb, .inl (cI, 100, .inl ftnb)), (d3, .inl (cI, 6, .inl d_f))]) [0, 1, 2] rfl) (hD.sub (ws' := [(tn, .inr (4, [.ref tna, .int tns, .int tnt, .ref tnb, .int tnk, .ref tnc, .ref tnd, .int tnl, .int tnh])), (tnb, .inl (cI, 100, .inl ftnb)), (d3, .inl (cI, 6, .inl d_f))]) [0, 1, 2] (by decide) rfl) hS (lv_sub hl [2, 3, 4, 5, 1, 0] rfl)
  exact LOOP_1 ((L.length - 0) + 1) 0 on 0 _ _ _ (Nat.lt_succ_self _) (Nat.zero_le _) rfl (HIv.start hwf) (hP.sub (ws' := [(tn, .inr (4, [.ref tna, .int tns, .int tnt, .ref tnb, .int tnk, .ref tnc, .ref tnd, .int tnl, .int tnh])), (tnb, .inl (cI, 100, .inl ftnb)), (d3, .inl (cI, 6, .inl d_f))]) [0, 1, 2] rfl) (hD.sub (ws' := [(tn, .inr (4, [.ref tna, .int tns, .int tnt, .ref tnb, .int tnk, .ref tnc, .ref tnd, .int tnl, .int tnh])), (tnb, .inl (cI, 100, .inl ftnb)), (d3, .inl (cI, 6, .inl d_f))]) [0, 1, 2] (by decide) rfl) hS (lv_sub hl [2, 3, 4, 5, 1, 0] rfl)

set_option maxHeartbeats 4000000 in
set_option maxRecDepth 100000 in
theorem t_worth (l : Launch) (D : va_G) (cI cZ cQ cT : ClassId) (sz : Nat) (tn : Nat) (d3 : Nat) (tna : Nat) (tns : Int32) (tnt : Int32) (tnb : Nat) (tnk : Int32) (tnc : Nat) (tnd : Nat) (tnl : Int32) (tnh : Int32) (ftnb : Nat → Int32) (ftnc : Nat → Int32) (ftnd : Nat → Int32) (d_f : Nat → Int32) (t : TWN) (hTC : TC tnk tnl tnh ftnb ftnc ftnd t) (hWF : WFC t.2) : MetI l yX4_worth cX4_worth 5 .int ({ frames := 2, cells := 0, slots := 0, locals := 85 } : Room) [.ref tn, .ref d3] D (TYS cI cZ cQ cT) EF sz [(tn, .inr (4, [.ref tna, .int tns, .int tnt, .ref tnb, .int tnk, .ref tnc, .ref tnd, .int tnl, .int tnh])), (tnb, .inl (cI, 100, .inl ftnb)), (tnc, .inl (cI, 8, .inl ftnc)), (tnd, .inl (cI, 8, .inl ftnd)), (d3, .inl (cI, 6, .inl d_f))] (S := Unit) (fun (r : Int32) (_ : Unit) => r = (evT d_f t.2)) (fun _ => [(tn, .inr (4, [.ref tna, .int tns, .int tnt, .ref tnb, .int tnk, .ref tnc, .ref tnd, .int tnl, .int tnh])), (tnb, .inl (cI, 100, .inl ftnb)), (tnc, .inl (cI, 8, .inl ftnc)), (tnd, .inl (cI, 8, .inl ftnd)), (d3, .inl (cI, 6, .inl d_f))]) := by
  refine MetI.mk (lv := [(0, .ref tn), (1, .ref d3)]) (by decide +kernel) (Nat.le_of_ble_eq_true rfl) rfl ?_
  intro p e s m below meth c A ls C0 hP hD hS hX hl
  have C1 := C0
  obtain ⟨hx, hb, hr, hml, hown, hlocks, hname, hT, hN, hK, hA⟩ := C1
  have hl8_ := hTC.2.2.2.2; have hl100_ := hTC.2.2.2.1
  refine lv_iconst (v := 0) hx hb dX4_worth_0 (by decide) ?_
  refine lv_istore_n (lv' := [(2, .int 0), (0, .ref tn), (1, .ref d3)]) hx hb dX4_worth_1 rfl hl (by decide) rfl (fun ls hl => ?_)
  refine lv_iconst (v := 0) hx hb dX4_worth_2 (by decide) ?_
  refine lv_istore_n (lv' := [(3, .int 0), (2, .int 0), (0, .ref tn), (1, .ref d3)]) hx hb dX4_worth_3 rfl hl (by decide) rfl (fun ls hl => ?_)
  refine lv_iconst (v := 0) hx hb dX4_worth_4 (by decide) ?_
  refine lv_istore (lv' := [(4, .int 0), (3, .int 0), (2, .int 0), (0, .ref tn), (1, .ref d3)]) hx hb dX4_worth_5 hl (by decide) rfl (fun ls hl => ?_)
  have LOOP_1 : ∀ (fu_ : Nat) (c_ : Nat) (o_ : Nat) (s_ : Int32) (H : Heap) (locs : List Loc) (ls : Array Slot), (8 - c_) < fu_ → (c_ ≤ t.2.length) → (o_ = offs t.2 c_) → (s_ = evP d_f t.2 c_) → va_P D CL [(tn, .inr (4, [.ref tna, .int tns, .int tnt, .ref tnb, .int tnk, .ref tnc, .ref tnd, .int tnl, .int tnh])), (tnb, .inl (cI, 100, .inl ftnb)), (tnc, .inl (cI, 8, .inl ftnc)), (tnd, .inl (cI, 8, .inl ftnd)), (d3, .inl (cI, 6, .inl d_f))] H → va_D A [(tn, .inr (4, [.ref tna, .int tns, .int tnt, .ref tnb, .int tnk, .ref tnc, .ref tnd, .int tnl, .int tnh])), (tnb, .inl (cI, 100, .inl ftnb)), (tnc, .inl (cI, 8, .inl ftnc)), (tnd, .inl (cI, 8, .inl ftnd)), (d3, .inl (cI, 6, .inl d_f))] → va_S A s.heap H locs → lv_has ls 5 [(0, .ref tn), (1, .ref d3), (2, .int s_), (3, .int (nI o_)), (4, .int (nI c_))] → W p l e ({ frames := 2, cells := 0, slots := 0, locals := 85 } : Room) s m [.ref tn, .ref d3].toArray below meth c H locs 0 0 (MQ below (va_Qi (S := Unit) (fun (r : Int32) (_ : Unit) => r = (evT d_f t.2)) (fun _ => wE D (TYS cI cZ cQ cT) A [(tn, .inr (4, [.ref tna, .int tns, .int tnt, .ref tnb, .int tnk, .ref tnc, .ref tnd, .int tnl, .int tnh])), (tnb, .inl (cI, 100, .inl ftnb)), (tnc, .inl (cI, 8, .inl ftnc)), (tnd, .inl (cI, 8, .inl ftnd)), (d3, .inl (cI, 6, .inl d_f))]) A) [.ref tn, .ref d3].toArray s 0 0 A) (F0 m 7 ls [])  := by
    intro fu_
    induction fu_ with
    | zero => intro c_ o_ s_ H locs ls hk_; exact absurd hk_ (Nat.not_lt_zero _)
    | succ fu_ ih_2 =>
      intro c_ o_ s_ H locs ls hk_ i1 io is hP hD hS hl
      refine lv_iload hx hb dX4_worth_7 (lv_at hl 4 rfl) ?_
      refine lv_aload_n hx hb dX4_worth_9 rfl (lv_at hl 0 rfl) ?_
      refine va_get (ci := 4) (v := .int tnl) (C := RX4) (T := TX4) (N := 9) hx hb hT wu_X4 hown hK hP 0 rfl rfl 7 (by decide) (hT _ wf_X4_49) (fun _ h9 => h9) rfl dX4_worth_10 ?_
      refine lv_ci (nI (t.2.length)) hTC.2.1 ?_
      refine lv_icmp_ge (tgt := 63) hx hb dX4_worth_13 (by decide) (fun c_3 => ?_) (fun c_3 => ?_)
      · have n_4 : (t.2.length) ≤ c_ := (nI_leI (a := (t.2.length)) (b := c_) (by omega) (by omega)).mp c_3
        refine lv_iload_n hx hb dX4_worth_63 rfl (lv_at hl 2 rfl) ?_
        exact retI C0 rfl () (by rw [is]; exact evP_all (by omega)) (hP.sub (ws' := [(tn, .inr (4, [.ref tna, .int tns, .int tnt, .ref tnb, .int tnk, .ref tnc, .ref tnd, .int tnl, .int tnh])), (tnb, .inl (cI, 100, .inl ftnb)), (tnc, .inl (cI, 8, .inl ftnc)), (tnd, .inl (cI, 8, .inl ftnd)), (d3, .inl (cI, 6, .inl d_f))]) [0, 1, 2, 3, 4] rfl) (hD.sub (ws' := [(tn, .inr (4, [.ref tna, .int tns, .int tnt, .ref tnb, .int tnk, .ref tnc, .ref tnd, .int tnl, .int tnh])), (tnb, .inl (cI, 100, .inl ftnb)), (tnc, .inl (cI, 8, .inl ftnc)), (tnd, .inl (cI, 8, .inl ftnd)), (d3, .inl (cI, 6, .inl d_f))]) [0, 1, 2, 3, 4] (by decide) rfl) hS (Nat.le_of_ble_eq_true rfl) (Nat.le_of_ble_eq_true rfl) dX4_worth_64
      · have n_5 : ¬ (t.2.length) ≤ c_ := fun hx9_ => c_3 ((nI_leI (a := (t.2.length)) (b := c_) (by omega) (by omega)).mpr hx9_)
        refine lv_iload hx hb dX4_worth_16 (lv_at hl 4 rfl) ?_
        refine lv_bipush (v := 8) hx hb dX4_worth_18 (by decide) ?_
        refine lv_icmp_ge (tgt := 63) hx hb dX4_worth_20 (by decide) (fun c_0 => absurd c_0 (nge_c (n := 8) rfl (by decide) (by omega))) (fun _ => ?_)
        refine lv_aload_n hx hb dX4_worth_23 rfl (lv_at hl 0 rfl) ?_
        refine lv_iload_n hx hb dX4_worth_24 rfl (lv_at hl 3 rfl) ?_
        refine lv_aload_n hx hb dX4_worth_25 rfl (lv_at hl 0 rfl) ?_
        refine va_get (ci := 4) (v := .ref tnd) (C := RX4) (T := TX4) (N := 9) hx hb hT wu_X4 hown hK hP 0 rfl rfl 6 (by decide) (hT _ wf_X4_21) (fun _ h9 => h9) rfl dX4_worth_26 ?_
        refine lv_iload hx hb dX4_worth_29 (lv_at hl 4 rfl) ?_
        refine va_iald hx hb hK hP 3 0 rfl rfl (vp_in_nI (n := c_) (by omega) (by decide)) dX4_worth_31 ?_
        refine lv_ci (ftnd c_) (congrArg ftnd (nI_clamp (n := c_) (by omega))) ?_
        have hos_ := offs_s (cl := t.2) (c := c_) (by omega)
        have hol_ := offs_le (cl := t.2) (c := c_) (by omega)
        refine lv_ci (nI (offs t.2 (c_ + 1))) (hTC.2.2.1.2.1 c_ (by omega)).2 ?_
        refine lv_aload_n hx hb dX4_worth_32 rfl (lv_at hl 1 rfl) ?_
        refine contI (wc := [(tn, .inr (4, [.ref tna, .int tns, .int tnt, .ref tnb, .int tnk, .ref tnc, .ref tnd, .int tnl, .int tnh])), (tnb, .inl (cI, 100, .inl ftnb)), (d3, .inl (cI, 6, .inl d_f))]) (wr := [(tnc, .inl (cI, 8, .inl ftnc)), (tnd, .inl (cI, 8, .inl ftnd))]) C0 hP hD hS [0, 1, 4] [2, 3] rfl rfl (by decide) (by decide) 0 0 (Nat.le_of_ble_eq_true rfl) (Nat.le_of_ble_eq_true rfl) (runV (k := 3) (As := [.int (nI o_), .int (nI (offs t.2 (c_ + 1))), .ref d3]) (rest := []) C0 (t_holds l D cI cZ cQ cT _ tn d3 tna tns tnt tnb tnk tnc tnd tnl tnh ftnb d_f o_ (offs t.2 (c_ + 1)) ((t.2.getD c_ (0, [])).2) (fun i h9_ => by rw [io]; exact hTC.code (by omega) h9_) (WFC.at hWF (by omega)) (by rw [io]; exact hos_) (by omega)) wc_X4_holds wl_X4_118 wi_X4_holds we_X4_holds wz_X4 ⟨by decide, by decide, by decide +kernel⟩ ⟨(Nat.le_of_ble_eq_true rfl), (Nat.le_of_ble_eq_true rfl)⟩ hP hD hS EF.ok hX [0, 1, 4] rfl (by decide) 0 rfl rfl rfl rfl hl.1 rfl (Nat.le_of_ble_eq_true rfl) dX4_worth_33 ⟨(Nat.le_of_ble_eq_true rfl), (Nat.le_of_ble_eq_true rfl)⟩) (fun r_8 u_6 H locs w_7 hP hD hS => ?_)
        have hP : va_P D CL [(tnc, .inl (cI, 8, .inl ftnc)), (tnd, .inl (cI, 8, .inl ftnd)), (tn, .inr (4, [.ref tna, .int tns, .int tnt, .ref tnb, .int tnk, .ref tnc, .ref tnd, .int tnl, .int tnh])), (tnb, .inl (cI, 100, .inl ftnb)), (d3, .inl (cI, 6, .inl d_f))] H := hP
        have hD : va_D A [(tnc, .inl (cI, 8, .inl ftnc)), (tnd, .inl (cI, 8, .inl ftnd)), (tn, .inr (4, [.ref tna, .int tns, .int tnt, .ref tnb, .int tnk, .ref tnc, .ref tnd, .int tnl, .int tnh])), (tnb, .inl (cI, 100, .inl ftnb)), (d3, .inl (cI, 6, .inl d_f))] := hD
        have hrs_9 : bN (evL d_f ((t.2.getD c_ (0, [])).2)) < 2 := bN_lt _
        obtain rfl : r_8 = (nI (bN (evL d_f ((t.2.getD c_ (0, [])).2)))) := w_7
        refine lv_if_eq (tgt := 49) hx hb dX4_worth_36 (by decide) (fun c_10 => ?_) (fun c_10 => ?_)
        · have n_11 : (bN (evL d_f ((t.2.getD c_ (0, [])).2))) = 0 := (nI_eq (a := (bN (evL d_f ((t.2.getD c_ (0, [])).2)))) (b := 0) (by omega) (by omega)).mp c_10
          refine lv_aload_n hx hb dX4_worth_49 rfl (lv_at hl 0 rfl) ?_
          refine va_get (ci := 4) (v := .ref tnd) (C := RX4) (T := TX4) (N := 9) hx hb hT wu_X4 hown hK hP 2 rfl rfl 6 (by decide) (hT _ wf_X4_21) (fun _ h9 => h9) rfl dX4_worth_50 ?_
          refine lv_iload hx hb dX4_worth_53 (lv_at hl 4 rfl) ?_
          refine va_iald hx hb hK hP 1 0 rfl rfl (vp_in_nI (n := c_) (by omega) (by decide)) dX4_worth_55 ?_
          refine lv_ci (ftnd c_) (congrArg ftnd (nI_clamp (n := c_) (by omega))) ?_
          refine lv_ci (nI (offs t.2 (c_ + 1))) (hTC.2.2.1.2.1 c_ (by omega)).2 ?_
          refine lv_istore_n (lv' := [(3, .int (nI (offs t.2 (c_ + 1)))), (0, .ref tn), (1, .ref d3), (2, .int s_), (4, .int (nI c_))]) hx hb dX4_worth_56 rfl hl (by decide) rfl (fun ls hl => ?_)
          refine lv_iinc (v := (nI (c_ + 1))) (lv' := [(4, .int (nI (c_ + 1))), (3, .int (nI (offs t.2 (c_ + 1)))), (0, .ref tn), (1, .ref d3), (2, .int s_)]) hx hb dX4_worth_57 hl (k := 4) rfl (nI_succ _).symm (by decide) rfl (fun ls hl => ?_)
          refine lv_goto (tgt := 7) hx hb dX4_worth_60 (by decide) ?_
          exact ih_2 (c_ + 1) (offs t.2 (c_ + 1)) s_ _ _ _ (by omega) (by omega) rfl (by rw [(evP_0 (by omega) (bN_is0 n_11)), is]) (hP.sub (ws' := [(tn, .inr (4, [.ref tna, .int tns, .int tnt, .ref tnb, .int tnk, .ref tnc, .ref tnd, .int tnl, .int tnh])), (tnb, .inl (cI, 100, .inl ftnb)), (tnc, .inl (cI, 8, .inl ftnc)), (tnd, .inl (cI, 8, .inl ftnd)), (d3, .inl (cI, 6, .inl d_f))]) [2, 3, 0, 1, 4] rfl) (hD.sub (ws' := [(tn, .inr (4, [.ref tna, .int tns, .int tnt, .ref tnb, .int tnk, .ref tnc, .ref tnd, .int tnl, .int tnh])), (tnb, .inl (cI, 100, .inl ftnb)), (tnc, .inl (cI, 8, .inl ftnc)), (tnd, .inl (cI, 8, .inl ftnd)), (d3, .inl (cI, 6, .inl d_f))]) [2, 3, 0, 1, 4] (by decide) rfl) hS (lv_sub hl [2, 3, 4, 1, 0] rfl)
        · have n_12 : ¬ (bN (evL d_f ((t.2.getD c_ (0, [])).2))) = 0 := fun hx9_ => c_10 ((nI_eq (a := (bN (evL d_f ((t.2.getD c_ (0, [])).2)))) (b := 0) (by omega) (by omega)).mpr hx9_)
          refine lv_iload_n hx hb dX4_worth_39 rfl (lv_at hl 2 rfl) ?_
          refine lv_aload_n hx hb dX4_worth_40 rfl (lv_at hl 0 rfl) ?_
          refine va_get (ci := 4) (v := .ref tnc) (C := RX4) (T := TX4) (N := 9) hx hb hT wu_X4 hown hK hP 2 rfl rfl 5 (by decide) (hT _ wf_X4_18) (fun _ h9 => h9) rfl dX4_worth_41 ?_
          refine lv_iload hx hb dX4_worth_44 (lv_at hl 4 rfl) ?_
          refine va_iald hx hb hK hP 0 0 rfl rfl (vp_in_nI (n := c_) (by omega) (by decide)) dX4_worth_46 ?_
          refine lv_ci (ftnc c_) (congrArg ftnc (nI_clamp (n := c_) (by omega))) ?_
          refine lv_ci (valE (t.2.getD c_ (0, [])).1) (hTC.2.2.1.2.1 c_ (by omega)).1 ?_
          refine lv_iadd hx hb dX4_worth_47 ?_
          refine lv_istore_n (lv' := [(2, .int (s_ + (valE (t.2.getD c_ (0, [])).1))), (0, .ref tn), (1, .ref d3), (3, .int (nI o_)), (4, .int (nI c_))]) hx hb dX4_worth_48 rfl hl (by decide) rfl (fun ls hl => ?_)
          refine lv_aload_n hx hb dX4_worth_49 rfl (lv_at hl 1 rfl) ?_
          refine va_get (ci := 4) (v := .ref tnd) (C := RX4) (T := TX4) (N := 9) hx hb hT wu_X4 hown hK hP 2 rfl rfl 6 (by decide) (hT _ wf_X4_21) (fun _ h9 => h9) rfl dX4_worth_50 ?_
          refine lv_iload hx hb dX4_worth_53 (lv_at hl 4 rfl) ?_
          refine va_iald hx hb hK hP 1 0 rfl rfl (vp_in_nI (n := c_) (by omega) (by decide)) dX4_worth_55 ?_
          refine lv_ci (ftnd c_) (congrArg ftnd (nI_clamp (n := c_) (by omega))) ?_
          refine lv_ci (nI (offs t.2 (c_ + 1))) (hTC.2.2.1.2.1 c_ (by omega)).2 ?_
          refine lv_istore_n (lv' := [(3, .int (nI (offs t.2 (c_ + 1)))), (2, .int (s_ + (valE (t.2.getD c_ (0, [])).1))), (0, .ref tn), (1, .ref d3), (4, .int (nI c_))]) hx hb dX4_worth_56 rfl hl (by decide) rfl (fun ls hl => ?_)
          refine lv_iinc (v := (nI (c_ + 1))) (lv' := [(4, .int (nI (c_ + 1))), (3, .int (nI (offs t.2 (c_ + 1)))), (2, .int (s_ + (valE (t.2.getD c_ (0, [])).1))), (0, .ref tn), (1, .ref d3)]) hx hb dX4_worth_57 hl (k := 4) rfl (nI_succ _).symm (by decide) rfl (fun ls hl => ?_)
          refine lv_goto (tgt := 7) hx hb dX4_worth_60 (by decide) ?_
          exact ih_2 (c_ + 1) (offs t.2 (c_ + 1)) (s_ + (valE (t.2.getD c_ (0, [])).1)) _ _ _ (by omega) (by omega) rfl (by rw [(evP_1 (by omega) (bN_not0 n_12)), is]) (hP.sub (ws' := [(tn, .inr (4, [.ref tna, .int tns, .int tnt, .ref tnb, .int tnk, .ref tnc, .ref tnd, .int tnl, .int tnh])), (tnb, .inl (cI, 100, .inl ftnb)), (tnc, .inl (cI, 8, .inl ftnc)), (tnd, .inl (cI, 8, .inl ftnd)), (d3, .inl (cI, 6, .inl d_f))]) [2, 3, 0, 1, 4] rfl) (hD.sub (ws' := [(tn, .inr (4, [.ref tna, .int tns, .int tnt, .ref tnb, .int tnk, .ref tnc, .ref tnd, .int tnl, .int tnh])), (tnb, .inl (cI, 100, .inl ftnb)), (tnc, .inl (cI, 8, .inl ftnc)), (tnd, .inl (cI, 8, .inl ftnd)), (d3, .inl (cI, 6, .inl d_f))]) [2, 3, 0, 1, 4] (by decide) rfl) hS (lv_sub hl [3, 4, 2, 1, 0] rfl)
  exact LOOP_1 ((8 - 0) + 1) 0 0 (0 : Int32) _ _ _ (Nat.lt_succ_self _) (Nat.zero_le _) rfl rfl (hP.sub (ws' := [(tn, .inr (4, [.ref tna, .int tns, .int tnt, .ref tnb, .int tnk, .ref tnc, .ref tnd, .int tnl, .int tnh])), (tnb, .inl (cI, 100, .inl ftnb)), (tnc, .inl (cI, 8, .inl ftnc)), (tnd, .inl (cI, 8, .inl ftnd)), (d3, .inl (cI, 6, .inl d_f))]) [0, 1, 2, 3, 4] rfl) (hD.sub (ws' := [(tn, .inr (4, [.ref tna, .int tns, .int tnt, .ref tnb, .int tnk, .ref tnc, .ref tnd, .int tnl, .int tnh])), (tnb, .inl (cI, 100, .inl ftnb)), (tnc, .inl (cI, 8, .inl ftnc)), (tnd, .inl (cI, 8, .inl ftnd)), (d3, .inl (cI, 6, .inl d_f))]) [0, 1, 2, 3, 4] (by decide) rfl) hS (lv_sub hl [3, 4, 2, 1, 0] rfl)
end GX
