section CM
theorem vin (i : Int32) (n : Nat) (h : decide (¬ (i < 0 ∨ n ≤ i.toNatClampNeg)) = true) : vp_in i n := by
  unfold vp_in
  exact of_decide_eq_true h
theorem ne_toInt {x z : Int32} {k : Int} (h : ¬ x = z) (hk : z.toInt = k) : x.toInt ≠ k := fun e => h (Int32.toInt_inj.mp (e.trans hk.symm))
abbrev TYS (cI cZ cQ cT : ClassId) : List (ClassId × FieldType) := [(cI, .int), (cZ, .boolean), (cQ, .array .int), (cT, .object "DayKnown$Town")]
variable {p : Program} {l : Launch} {e : Env} {R : Room} {s : State} {m : MethodId} {args : Array Value} {below : List Frame} {meth : Method} {c : Code} {H : Heap} {locs : List Loc} {cells slots : Nat} {Q : State → Prop}
variable {y : MethodName} {cc : ByteArray} {n : Nat} {rt : Option FieldType} {D : va_G} {ty : List (ClassId × FieldType)} {A : Nat → Prop} {pc : Nat} {ls : Array Slot} {rest st0 : List Value} {ws wc wr : va_W}
/-- a new int[N][K] whose rows nobody looks at again: the old cells stand -/
theorem newQ (C0 : Ctx p s m args meth c y cc n rt D ty A) {index : Nat} (hw : Cond.classLink y.cls index "[[I" ∈ WALL) (ha : Cond.arrayClass .int ∈ WALL) {cI cQ : ClassId} (t0 t2 : Nat) (ht : ty[t0]? = some (cI, .int)) (ht2 : ty[t2]? = some (cQ, .array .int)) (hP : va_P D CL ws H) (hD : va_D A ws) (hS : va_S A s.heap H locs) {i j : Int32} {N K : Nat} (hn : ¬ i < 0) (hk : ¬ j < 0) (hN : i.toNatClampNeg = N) (hK : j.toNatClampNeg = K) (hb1 : N * 4 ≤ 536870912) (hb2 : K * 4 ≤ 536870912) (hb3 : K ≤ 536870912) (kc ks : Nat) (hkc : cells + (1 + N) ≤ kc) (hks : slots + (N + N * K) ≤ ks) (hcR : kc ≤ R.cells) (hsR : ks ≤ R.slots) (hdg : decode cc pc = .ok (.multianewarray index 2, 4))
    (kk : ∀ (q : Nat) (H1 : Heap), va_P D CL ws H1 → va_D A ws → va_S A s.heap H1 locs → W p l e R s m args below meth c H1 locs kc ks Q (F0 m (pc + 4) ls (.ref q :: rest))) : W p l e R s m args below meth c H locs cells slots Q (F0 m pc ls (.int j :: .int i :: rest)) := by
  obtain ⟨hx, hb, hrr, hml, hown, hlocks, hname, hT, hNW, hKK, hA⟩ := C0
  subst hN
  subst hK
  intro T hTT Xs
  obtain ⟨vm₁, cA, comp, -, fA, fC, hO, -, X', step⟩ := Jvm.Stand.multianewarray2F Xs hx (index := index) (ty := .int) hown (hT _ hw) (va_AOA.use hNW.2.2) (hT _ ha) (g := F0 m pc ls (.int j :: .int i :: rest)) rfl (by rw [hb]; exact hdg) rfl hn hk hb1 hb2 hb3 rfl rfl (Nat.le_trans hkc hcR) (Nat.le_trans hks hsR)
  generalize hF : Jvm.Free.Multi.fill (T.setVm vm₁) cA comp i.toNatClampNeg j.toNatClampNeg (defaultValue .int) i.toNatClampNeg = F at X' step
  have hTh : (T.setVm vm₁).heap = H := hTT
  obtain ⟨f1, -, -, -⟩ := Jvm.Free.Multi.fill_facts (T.setVm vm₁) cA comp i.toNatClampNeg j.toNatClampNeg (defaultValue .int) i.toNatClampNeg
  rw [hF, hTh] at f1
  have hold : ∀ x : Nat, x < H.size → F.heap[x]? = H[x]? := fun x hx => by
    have := Jvm.Free.Multi.fill_old (T.setVm vm₁) cA comp i.toNatClampNeg j.toNatClampNeg (defaultValue .int) (a := x) (by rw [hTh]; exact hx) i.toNatClampNeg
    rw [hF, hTh] at this
    exact this
  obtain ⟨t, a1, b1⟩ := kk H.size F.heap (hP.kept (fun k9 x hx => hold x.1 ((hP k9 x hx).lt))) hD ⟨by rw [f1]; have := hS.1; omega, fun x h1 h2 => (hold x (Nat.lt_of_lt_of_le h1 hS.1)).trans (hS.2.1 x h1 h2), hS.2.2⟩ F rfl (stand_widen X' (by omega) (by omega))
  refine ⟨t, step t ?_, b1⟩
  have e : T.heap.size = H.size := by rw [hTT]
  rw [e]
  exact a1
theorem le_i {a b : Int32} : a ≤ b ↔ a.toInt ≤ b.toInt := Int32.le_iff_toInt_le
theorem lt_i {a b : Int32} : a < b ↔ a.toInt < b.toInt := Int32.lt_iff_toInt_lt
theorem eq_i {a b : Int32} : a = b ↔ a.toInt = b.toInt := Int32.toInt_inj.symm
theorem li_n (k : Nat) (h : k < 2147483648) : (OfNat.ofNat k : Int32).toInt = (k : Int) := by
  rw [← show (nI k) = (OfNat.ofNat k : Int32) from rfl]
  exact nI_toInt h
theorem upd_id {f : Nat → Int32} {k : Nat} {v : Int32} (h : f k = v) : upd f k v = f := by
  funext j
  by_cases e : j = k
  · subst e; rw [pk_us]; exact h.symm
  · rw [pk_un e]
theorem runVX {y' : MethodName} {bytes : ByteArray} {maxL k index : Nat} {ret : Option FieldType} {rm : Room} {Qc : Array Value → State → Outcome → State → Prop} {b : Nat} {As : List Value} {X : XT}
    (C0 : Ctx p s m args meth c y cc n rt D ty A) (hM : Met l y' (.code y' bytes maxL ret :: WALL) rm (va_Pc (.ref b :: As) (wB D ty X H.size wc)) Qc rm.cells rm.slots (va_A wc H.size))
    (hcode : Cond.code y' bytes maxL ret ∈ WALL) (hlk : Cond.methodLink y.cls index y' ∈ WALL) (hin : Cond.instanceMethod y' ∈ WALL) (hse : Cond.selects y'.cls y' y' ∈ WALL) (hini : Cond.initialized y'.cls ∈ WALL)
    (hd : y'.cls ≠ "java/lang/invoke/MethodHandle" ∧ y'.cls ≠ "java/lang/invoke/VarHandle" ∧ (parseMethodDescriptor y'.desc).map (fun d => d.parameters.length) = some k) (hR : rm.frames + 1 ≤ R.frames ∧ 8 + (maxL + 11) + rm.locals ≤ R.locals)
    (hP : va_P D CL ws H) (hD : va_D A ws) (hS : va_S A s.heap H locs) (hX : XOK X) (hXs : X A s s.heap) (isC : List Nat) (hC : isC.map (fun i => ws[i]?) = wc.map some) (hnd : va_nd isC = true)
    (hrec : ∃ cell : Cell, H[b]? = some cell ∧ cell.vm.isStatics = false ∧ s.vm.findClass y'.cls = some cell.cls)
    (hk : As.length = k) (hsize : ls.size = n) (hst : st0 = As.reverse ++ .ref b :: rest) (hW : (rest.map fun v => v.category).sum ≤ 8) (hdg : decode cc pc = .ok (.invokevirtual index, 3)) (hf : cells + rm.cells ≤ R.cells ∧ slots + rm.slots ≤ R.slots) :
    va_Run p l e R s m args below meth c H locs cells slots rm.cells rm.slots (F0 m pc ls st0) rest (Qc (Value.ref b :: As).toArray) (va_A wc H.size) := by
  have hpre := pre_of C0 hP hD hS hX hXs isC hC hnd
  obtain ⟨hx, hb, hr, hml, hown, hlocks, hname, hT, hN, hK, hA⟩ := C0
  have hG : GoodIn WALL (wsV y.cls index y'.cls y' (.code y' bytes maxL ret :: WALL)) := by
    intro w hw
    rcases List.mem_append.mp hw with hw | hw
    · have hw : w ∈ WALL := by
        simp only [List.mem_cons, List.not_mem_nil, or_false] at hw
        rcases hw with rfl | rfl | rfl | rfl <;> assumption
      exact ⟨hw, good_of_word (List.mem_filter.mp hw).2⟩
    · exact wall_in hcode w hw
  exact va_runV (As := As) (rest := rest) (C := y'.cls) ⟨hx, hb, hml, hown, hT⟩ hM (cwV k hT hG rfl rfl rfl ⟨rfl, hd⟩ hR) ⟨wB.blind hX _, hrec, fun U hU hW => ⟨rfl, hpre U hU hW⟩⟩ rfl hk hsize hst (lv_room hW) hdg hf
theorem SO.recv {q t len : Nat} {f : Nat → Int32} (h : SO q t len f A s s.heap) (hS : va_S A s.heap H locs) : ∃ cell : Cell, H[q]? = some cell ∧ cell.vm.isStatics = false ∧ s.vm.findClass yJ0_length_8abf5.cls = some cell.cls := by
  obtain ⟨cell, h1, h2, h3, -⟩ := h.1.kept hS.2.1
  exact ⟨cell, h1, h2, h3⟩
theorem shr0 (x : Int32) : x >>> ((0 : Int32) &&& 31) = x := by
  have h : ((0 : Int32) &&& 31) = 0 := by decide +kernel
  rw [h]
  simp
theorem lt_of_in {i : Int32} {n : Nat} (hi : vp_in i n) (hn : n < 2 ^ 31) : i < nI n := by
  obtain ⟨j, h1, h2⟩ := vp_in_of hi hn
  rw [h2]
  exact nI_lt h1 hn
end CM
