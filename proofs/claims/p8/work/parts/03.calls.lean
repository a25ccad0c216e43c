/-! calls out of a body: the callee's cells are cut out, and what came back is put beside the rest; new arrays of known classes -/
section CC
theorem fm_of {α β : Type} {f : α → Option β} : ∀ {is : List α} {w : List β}, is.map f = w.map some → is.filterMap f = w
  | [], [], _ => rfl
  | [], _ :: _, h => by cases h
  | _ :: _, [], h => by cases h
  | a :: is, b :: w, h => by
    rw [List.map_cons, List.map_cons, List.cons.injEq] at h
    rw [List.filterMap_cons, h.1]
    exact congrArg (b :: ·) (fm_of h.2)
variable {p : Program} {l : Launch} {e : Env} {R : Room} {s : State} {m : MethodId} {args : Array Value} {below : List Frame} {meth : Method} {c : Code} {H : Heap} {locs : List Loc} {cells slots : Nat} {Q : State → Prop}
variable {y : MethodName} {cc : ByteArray} {n : Nat} {rt : Option FieldType} {D : va_G} {ty : List (ClassId × FieldType)} {A : Nat → Prop} {pc : Nat} {ls : Array Slot} {rest st0 : List Value} {ws wc wr : va_W}
theorem pre_of {X : XT} (C0 : Ctx p s m args meth c y cc n rt D ty A) (hP : va_P D CL ws H) (hD : va_D A ws) (hS : va_S A s.heap H locs) (hX : XOK X) (hXs : X A s s.heap) (isC : List Nat) (hC : isC.map (fun i => ws[i]?) = wc.map some) (hn : va_nd isC = true) :
    ∀ U : State, U.heap = H → s.WarmedH U.vm → wB D ty X H.size wc U := by
  obtain ⟨hx, hb, hr, hml, hown, hlocks, hname, hT, hN, hK, hA⟩ := C0
  intro U hU hW
  refine ⟨by rw [hU], by rw [hU]; exact hP.sub isC (fm_of hC), va_K.moved hW.alike hK, (hD.sub isC hn hC).weaken (fun _ _ _ _ => trivial), NW.warm hW hN, ?_⟩
  rw [hU]
  exact hX.2.2 A _ _ _ (va_free hD hS hA isC hC) (hX.1 _ s U _ hW (hX.2.1 A s s.heap H hS.2.1 hXs))
theorem runV {y' : MethodName} {bytes : ByteArray} {maxL k index : Nat} {ret : Option FieldType} {rm : Room} {Qc : Array Value → State → Outcome → State → Prop} {b : Nat} {As : List Value} {X : XT}
    (C0 : Ctx p s m args meth c y cc n rt D ty A) (hM : Met l y' (.code y' bytes maxL ret :: WALL) rm (va_Pc (.ref b :: As) (wB D ty X H.size wc)) Qc rm.cells rm.slots (va_A wc H.size))
    (hcode : Cond.code y' bytes maxL ret ∈ WALL) (hlk : Cond.methodLink y.cls index y' ∈ WALL) (hin : Cond.instanceMethod y' ∈ WALL) (hse : Cond.selects y'.cls y' y' ∈ WALL) (hini : Cond.initialized y'.cls ∈ WALL)
    (hd : y'.cls ≠ "java/lang/invoke/MethodHandle" ∧ y'.cls ≠ "java/lang/invoke/VarHandle" ∧ (parseMethodDescriptor y'.desc).map (fun d => d.parameters.length) = some k) (hR : rm.frames + 1 ≤ R.frames ∧ 8 + (maxL + 11) + rm.locals ≤ R.locals)
    (hP : va_P D CL ws H) (hD : va_D A ws) (hS : va_S A s.heap H locs) (hX : XOK X) (hXs : X A s s.heap) (isC : List Nat) (hC : isC.map (fun i => ws[i]?) = wc.map some) (hnd : va_nd isC = true)
    (q0 : Nat) {ci : Nat} {fs : List Value} {q : vw_C} (he : ws[q0]? = some (b, .inr (ci, fs))) (hc : CL[ci]? = some q) (hq : q.1 = y'.cls)
    (hk : As.length = k) (hsize : ls.size = n) (hst : st0 = As.reverse ++ .ref b :: rest) (hW : (rest.map fun v => v.category).sum ≤ 8) (hdg : decode cc pc = .ok (.invokevirtual index, 3)) (hf : cells + rm.cells ≤ R.cells ∧ slots + rm.slots ≤ R.slots) :
    va_Run p l e R s m args below meth c H locs cells slots rm.cells rm.slots (F0 m pc ls st0) rest (Qc (Value.ref b :: As).toArray) (va_A wc H.size) := by
  have hpre := pre_of C0 hP hD hS hX hXs isC hC hnd
  obtain ⟨hx, hb, hr, hml, hown, hlocks, hname, hT, hN, hK, hA⟩ := C0
  have hG : GoodIn WALL (wsV y.cls index y'.cls y' (.code y' bytes maxL ret :: WALL)) := by
    intro w hw
    rcases List.mem_append.mp hw with hw | hw
    · have hw : w ∈ WALL := by
        simp only [List.mem_cons, List.not_mem_nil, or_false] at hw
        rcases hw with rfl | rfl | rfl | rfl <;> assumption
      exact ⟨hw, good_of_word (List.mem_filter.mp hw).2⟩
    · exact wall_in hcode w hw
  have hrec := va_recv hK hP hc he
  rw [hq] at hrec
  exact va_runV (As := As) (rest := rest) (C := y'.cls) ⟨hx, hb, hml, hown, hT⟩ hM (cwV k hT hG rfl rfl rfl ⟨rfl, hd⟩ hR) ⟨wB.blind hX _, hrec, fun U hU hW => ⟨rfl, hpre U hU hW⟩⟩ rfl hk hsize hst (lv_room hW) hdg hf
theorem runVN {y' : MethodName} {bytes : ByteArray} {maxL k index : Nat} {ret : Option FieldType} {rm : Room} {Qc : Array Value → State → Outcome → State → Prop} {b : Nat} {As : List Value} {X : XT} (host : String) (kN : Nat)
    (C0 : Ctx p s m args meth c y cc n rt D ty A) (hM : Met l y' (.code y' bytes maxL ret :: WALL) rm (va_Pc (.ref b :: As) (wB D ty X H.size wc)) Qc rm.cells rm.slots (va_A wc H.size))
    (hcode : Cond.code y' bytes maxL ret ∈ WALL) (hlk : lw_tbl[kN]? = some (Cond.methodLinkNest y.cls index y' host)) (hin : Cond.instanceMethod y' ∈ WALL) (hse : Cond.selects y'.cls y' y' ∈ WALL) (hini : Cond.initialized y'.cls ∈ WALL)
    (hd : y'.cls ≠ "java/lang/invoke/MethodHandle" ∧ y'.cls ≠ "java/lang/invoke/VarHandle" ∧ (parseMethodDescriptor y'.desc).map (fun d => d.parameters.length) = some k) (hR : rm.frames + 1 ≤ R.frames ∧ 8 + (maxL + 11) + rm.locals ≤ R.locals)
    (hP : va_P D CL ws H) (hD : va_D A ws) (hS : va_S A s.heap H locs) (hX : XOK X) (hXs : X A s s.heap) (isC : List Nat) (hC : isC.map (fun i => ws[i]?) = wc.map some) (hnd : va_nd isC = true)
    (q0 : Nat) {ci : Nat} {fs : List Value} {q : vw_C} (he : ws[q0]? = some (b, .inr (ci, fs))) (hc : CL[ci]? = some q) (hq : q.1 = y'.cls)
    (hk : As.length = k) (hsize : ls.size = n) (hst : st0 = As.reverse ++ .ref b :: rest) (hW : (rest.map fun v => v.category).sum ≤ 8) (hdg : decode cc pc = .ok (.invokevirtual index, 3)) (hf : cells + rm.cells ≤ R.cells ∧ slots + rm.slots ≤ R.slots) :
    va_Run p l e R s m args below meth c H locs cells slots rm.cells rm.slots (F0 m pc ls st0) rest (Qc (Value.ref b :: As).toArray) (va_A wc H.size) := by
  have hpre := pre_of C0 hP hD hS hX hXs isC hC hnd
  obtain ⟨hx, hb, hr, hml, hown, hlocks, hname, hT, hN, hK, hA⟩ := C0
  have hrec := va_recv hK hP hc he
  rw [hq] at hrec
  exact va_runVN (As := As) (rest := rest) (C := y'.cls) (host := host) ⟨hx, hb, hml, hown, hT⟩ hM ⟨va_cnB k hT (wall_in hcode) rfl rfl rfl (hN.get kN hlk rfl) (hT _ hini) hd hR, hT _ hin, hT _ hse⟩ ⟨wB.blind hX _, hrec, fun U hU hW => ⟨rfl, hpre U hU hW⟩⟩ rfl hk hsize hst (lv_room hW) hdg hf
theorem runS {y' : MethodName} {bytes : ByteArray} {maxL k index : Nat} {ret : Option FieldType} {rm : Room} {Qc : Array Value → State → Outcome → State → Prop} {As : List Value} {X : XT}
    (C0 : Ctx p s m args meth c y cc n rt D ty A) (hM : Met l y' (.code y' bytes maxL ret :: WALL) rm (va_Pc As (wB D ty X H.size wc)) Qc rm.cells rm.slots (va_A wc H.size))
    (hcode : Cond.code y' bytes maxL ret ∈ WALL) (hlk : Cond.methodLink y.cls index y' ∈ WALL) (hsc : Cond.static y' ∈ WALL) (hini : Cond.initialized y'.cls ∈ WALL)
    (hd : y'.cls ≠ "java/lang/invoke/MethodHandle" ∧ y'.cls ≠ "java/lang/invoke/VarHandle" ∧ (parseMethodDescriptor y'.desc).map (fun d => d.parameters.length) = some k) (hR : rm.frames + 1 ≤ R.frames ∧ 8 + (maxL + 11) + rm.locals ≤ R.locals)
    (hP : va_P D CL ws H) (hD : va_D A ws) (hS : va_S A s.heap H locs) (hX : XOK X) (hXs : X A s s.heap) (isC : List Nat) (hC : isC.map (fun i => ws[i]?) = wc.map some) (hnd : va_nd isC = true)
    (hk : As.length = k) (hsize : ls.size = n) (hst : st0 = As.reverse ++ rest) (hW : (rest.map fun v => v.category).sum ≤ 8) (hdg : decode cc pc = .ok (.invokestatic index, 3)) (hf : cells + rm.cells ≤ R.cells ∧ slots + rm.slots ≤ R.slots) :
    va_Run p l e R s m args below meth c H locs cells slots rm.cells rm.slots (F0 m pc ls st0) rest (Qc As.toArray) (va_A wc H.size) := by
  have hpre := pre_of C0 hP hD hS hX hXs isC hC hnd
  obtain ⟨hx, hb, hr, hml, hown, hlocks, hname, hT, hN, hK, hA⟩ := C0
  have hG : GoodIn WALL (va_wsS y.cls index y' (.code y' bytes maxL ret :: WALL)) := by
    intro w hw
    rcases List.mem_append.mp hw with hw | hw
    · have hw : w ∈ WALL := by
        simp only [List.mem_cons, List.not_mem_nil, or_false] at hw
        rcases hw with rfl | rfl | rfl <;> assumption
      exact ⟨hw, good_of_word (List.mem_filter.mp hw).2⟩
    · exact wall_in hcode w hw
  exact va_runS (As := As) (rest := rest) ⟨hx, hb, hml, hown, hT⟩ hM (va_cwS k hT hG rfl rfl rfl hd hR) ⟨wB.blind hX _, fun U hU hW => ⟨rfl, hpre U hU hW⟩⟩ rfl hk hsize hst (lv_room hW) hdg hf
theorem runSN {y' : MethodName} {bytes : ByteArray} {maxL k index : Nat} {ret : Option FieldType} {rm : Room} {Qc : Array Value → State → Outcome → State → Prop} {As : List Value} {X : XT} (host : String) (kN : Nat)
    (C0 : Ctx p s m args meth c y cc n rt D ty A) (hM : Met l y' (.code y' bytes maxL ret :: WALL) rm (va_Pc As (wB D ty X H.size wc)) Qc rm.cells rm.slots (va_A wc H.size))
    (hcode : Cond.code y' bytes maxL ret ∈ WALL) (hlk : lw_tbl[kN]? = some (Cond.methodLinkNest y.cls index y' host)) (hsc : Cond.static y' ∈ WALL) (hini : Cond.initialized y'.cls ∈ WALL)
    (hd : y'.cls ≠ "java/lang/invoke/MethodHandle" ∧ y'.cls ≠ "java/lang/invoke/VarHandle" ∧ (parseMethodDescriptor y'.desc).map (fun d => d.parameters.length) = some k) (hR : rm.frames + 1 ≤ R.frames ∧ 8 + (maxL + 11) + rm.locals ≤ R.locals)
    (hP : va_P D CL ws H) (hD : va_D A ws) (hS : va_S A s.heap H locs) (hX : XOK X) (hXs : X A s s.heap) (isC : List Nat) (hC : isC.map (fun i => ws[i]?) = wc.map some) (hnd : va_nd isC = true)
    (hk : As.length = k) (hsize : ls.size = n) (hst : st0 = As.reverse ++ rest) (hW : (rest.map fun v => v.category).sum ≤ 8) (hdg : decode cc pc = .ok (.invokestatic index, 3)) (hf : cells + rm.cells ≤ R.cells ∧ slots + rm.slots ≤ R.slots) :
    va_Run p l e R s m args below meth c H locs cells slots rm.cells rm.slots (F0 m pc ls st0) rest (Qc As.toArray) (va_A wc H.size) := by
  have hpre := pre_of C0 hP hD hS hX hXs isC hC hnd
  obtain ⟨hx, hb, hr, hml, hown, hlocks, hname, hT, hN, hK, hA⟩ := C0
  exact va_runSN (As := As) (rest := rest) (host := host) ⟨hx, hb, hml, hown, hT⟩ hM ⟨va_cnB k hT (wall_in hcode) rfl rfl rfl (hN.get kN hlk rfl) (hT _ hini) hd hR, hT _ hsc, trivial⟩ ⟨wB.blind hX _, fun U hU hW => ⟨rfl, hpre U hU hW⟩⟩ rfl hk hsize hst (lv_room hW) hdg hf
theorem runI {y' : MethodName} {bytes : ByteArray} {maxL k index : Nat} {rm : Room} {Qc : Array Value → State → Outcome → State → Prop} {b : Nat} {As : List Value} {X : XT}
    (C0 : Ctx p s m args meth c y cc n rt D ty A) (hM : Met l y' (.code y' bytes maxL none :: WALL) rm (va_Pc (.ref b :: As) (wB D ty X H.size wc)) Qc rm.cells rm.slots (va_A wc H.size))
    (hcode : Cond.code y' bytes maxL none ∈ WALL) (hlk : Cond.methodLink y.cls index y' ∈ WALL) (hin : Cond.instanceMethod y' ∈ WALL) (hini : Cond.initialized y'.cls ∈ WALL) (hnm : y'.name = "<init>")
    (hd : y'.cls ≠ "java/lang/invoke/MethodHandle" ∧ y'.cls ≠ "java/lang/invoke/VarHandle" ∧ (parseMethodDescriptor y'.desc).map (fun d => d.parameters.length) = some k) (hR : rm.frames + 1 ≤ R.frames ∧ 8 + (maxL + 11) + rm.locals ≤ R.locals)
    (hP : va_P D CL ws H) (hD : va_D A ws) (hS : va_S A s.heap H locs) (hX : XOK X) (hXs : X A s s.heap) (isC : List Nat) (hC : isC.map (fun i => ws[i]?) = wc.map some) (hnd : va_nd isC = true)
    (hk : As.length = k) (hsize : ls.size = n) (hst : st0 = As.reverse ++ .ref b :: rest) (hW : (rest.map fun v => v.category).sum ≤ 8) (hdg : decode cc pc = .ok (.invokespecial index, 3)) (hf : cells + rm.cells ≤ R.cells ∧ slots + rm.slots ≤ R.slots) :
    va_Run p l e R s m args below meth c H locs cells slots rm.cells rm.slots (F0 m pc ls st0) rest (Qc (Value.ref b :: As).toArray) (va_A wc H.size) := by
  have hpre := pre_of C0 hP hD hS hX hXs isC hC hnd
  obtain ⟨hx, hb, hr, hml, hown, hlocks, hname, hT, hN, hK, hA⟩ := C0
  exact va_runI (As := As) (rest := rest) ⟨hx, hb, hml, hown, hT⟩ hM (cwI k hT (wall_in hcode) rfl rfl rfl (hT _ hini) (hT _ hlk) (hT _ hin) hnm hd hR) ⟨wB.blind hX _, fun U hU hW => ⟨rfl, hpre U hU hW⟩⟩ rfl hk hsize hst (lv_room hW) hdg hf
theorem runIN {y' : MethodName} {bytes : ByteArray} {maxL k index : Nat} {rm : Room} {Qc : Array Value → State → Outcome → State → Prop} {b : Nat} {As : List Value} {X : XT} (host : String) (kN : Nat)
    (C0 : Ctx p s m args meth c y cc n rt D ty A) (hM : Met l y' (.code y' bytes maxL none :: WALL) rm (va_Pc (.ref b :: As) (wB D ty X H.size wc)) Qc rm.cells rm.slots (va_A wc H.size))
    (hcode : Cond.code y' bytes maxL none ∈ WALL) (hlk : lw_tbl[kN]? = some (Cond.methodLinkNest y.cls index y' host)) (hin : Cond.instanceMethod y' ∈ WALL) (hini : Cond.initialized y'.cls ∈ WALL) (hnm : y'.name = "<init>")
    (hd : y'.cls ≠ "java/lang/invoke/MethodHandle" ∧ y'.cls ≠ "java/lang/invoke/VarHandle" ∧ (parseMethodDescriptor y'.desc).map (fun d => d.parameters.length) = some k) (hR : rm.frames + 1 ≤ R.frames ∧ 8 + (maxL + 11) + rm.locals ≤ R.locals)
    (hP : va_P D CL ws H) (hD : va_D A ws) (hS : va_S A s.heap H locs) (hX : XOK X) (hXs : X A s s.heap) (isC : List Nat) (hC : isC.map (fun i => ws[i]?) = wc.map some) (hnd : va_nd isC = true)
    (hk : As.length = k) (hsize : ls.size = n) (hst : st0 = As.reverse ++ .ref b :: rest) (hW : (rest.map fun v => v.category).sum ≤ 8) (hdg : decode cc pc = .ok (.invokespecial index, 3)) (hf : cells + rm.cells ≤ R.cells ∧ slots + rm.slots ≤ R.slots) :
    va_Run p l e R s m args below meth c H locs cells slots rm.cells rm.slots (F0 m pc ls st0) rest (Qc (Value.ref b :: As).toArray) (va_A wc H.size) := by
  have hpre := pre_of C0 hP hD hS hX hXs isC hC hnd
  obtain ⟨hx, hb, hr, hml, hown, hlocks, hname, hT, hN, hK, hA⟩ := C0
  exact va_runIN (As := As) (rest := rest) (host := host) ⟨hx, hb, hml, hown, hT⟩ hM ⟨va_cnB k hT (wall_in hcode) rfl rfl rfl (hN.get kN hlk rfl) (hT _ hini) hd hR, hnm, hT _ hin⟩ ⟨wB.blind hX _, fun U hU hW => ⟨rfl, hpre U hU hW⟩⟩ rfl hk hsize hst (lv_room hW) hdg hf
section CONT
variable {S : Type} {w1 : S → va_W} {rm : Room} {a : Array Value}
theorem contI {post : Int32 → S → Prop} (C0 : Ctx p s m args meth c y cc n rt D ty A) (hP : va_P D CL ws H) (hD : va_D A ws) (hS : va_S A s.heap H locs) (isC isR : List Nat) (hC : isC.map (fun i => ws[i]?) = wc.map some) (hR : isR.map (fun i => ws[i]?) = wr.map some) (hn : va_nd isR = true) (hdis : ∀ i ∈ isR, i ∉ isC) (kc ks : Nat) (hkc : cells + rm.cells ≤ kc) (hks : slots + rm.slots ≤ ks)
    (hr : va_Run p l e R s m args below meth c H locs cells slots rm.cells rm.slots (F0 m pc ls st0) rest (va_Qi post (fun u => wE D ty (va_A wc H.size) (w1 u)) (va_A wc H.size) a) (va_A wc H.size))
    (kk : ∀ (r : Int32) (u : S) (H1 : Heap) (locs1 : List Loc), post r u → va_P D CL (wr ++ w1 u) H1 → va_D A (wr ++ w1 u) → va_S A s.heap H1 locs1 → W p l e R s m args below meth c H1 locs1 kc ks Q (F0 m (pc + 3) ls (.int r :: rest))) : W p l e R s m args below meth c H locs cells slots Q (F0 m pc ls st0) := by
  obtain ⟨hx, hb, hrr, hml, hown, hlocks, hname, hT, hN, hK, hA⟩ := C0
  have hF := va_free (wc := wc) hD hS hA isC hC
  refine va_calli hr hS (fun q _ h => hF q h) hF (fun r u t H1 locs1 ht hvm hw hB hz1 hk1 hS1 => ?_)
  obtain ⟨hP1, -, hD1⟩ := hB
  rw [ht] at hP1
  obtain ⟨hP2, hD2⟩ := va_join (wr := wr) (w1 := w1 u) hP hD isC isR hC hR hn hdis hk1 hF hP1 hD1
  exact W.widen hkc hks (kk r u H1 locs1 hw hP2 hD2 hS1)
theorem contV {post : S → Prop} (C0 : Ctx p s m args meth c y cc n rt D ty A) (hP : va_P D CL ws H) (hD : va_D A ws) (hS : va_S A s.heap H locs) (isC isR : List Nat) (hC : isC.map (fun i => ws[i]?) = wc.map some) (hR : isR.map (fun i => ws[i]?) = wr.map some) (hn : va_nd isR = true) (hdis : ∀ i ∈ isR, i ∉ isC) (kc ks : Nat) (hkc : cells + rm.cells ≤ kc) (hks : slots + rm.slots ≤ ks)
    (hr : va_Run p l e R s m args below meth c H locs cells slots rm.cells rm.slots (F0 m pc ls st0) rest (va_Qv post (fun u => wE D ty (va_A wc H.size) (w1 u)) (va_A wc H.size) a) (va_A wc H.size))
    (kk : ∀ (u : S) (H1 : Heap) (locs1 : List Loc), post u → va_P D CL (wr ++ w1 u) H1 → va_D A (wr ++ w1 u) → va_S A s.heap H1 locs1 → W p l e R s m args below meth c H1 locs1 kc ks Q (F0 m (pc + 3) ls rest)) : W p l e R s m args below meth c H locs cells slots Q (F0 m pc ls st0) := by
  obtain ⟨hx, hb, hrr, hml, hown, hlocks, hname, hT, hN, hK, hA⟩ := C0
  have hF := va_free (wc := wc) hD hS hA isC hC
  refine va_callv hr hS (fun q _ h => hF q h) hF (fun u t H1 locs1 ht hvm hw hB hz1 hk1 hS1 => ?_)
  obtain ⟨hP1, -, hD1⟩ := hB
  rw [ht] at hP1
  obtain ⟨hP2, hD2⟩ := va_join (wr := wr) (w1 := w1 u) hP hD isC isR hC hR hn hdis hk1 hF hP1 hD1
  exact W.widen hkc hks (kk u H1 locs1 hw hP2 hD2 hS1)
theorem contR {post : S → Prop} {ra : Nat} (C0 : Ctx p s m args meth c y cc n rt D ty A) (hP : va_P D CL ws H) (hD : va_D A ws) (hS : va_S A s.heap H locs) (isC isR : List Nat) (hC : isC.map (fun i => ws[i]?) = wc.map some) (hR : isR.map (fun i => ws[i]?) = wr.map some) (hn : va_nd isR = true) (hdis : ∀ i ∈ isR, i ∉ isC) (kc ks : Nat) (hkc : cells + rm.cells ≤ kc) (hks : slots + rm.slots ≤ ks)
    (hr : va_Run p l e R s m args below meth c H locs cells slots rm.cells rm.slots (F0 m pc ls st0) rest (va_Qr post (fun u x t => x = ra ∧ wE D ty (va_A wc H.size) (w1 u) t) (va_A wc H.size) a) (va_A wc H.size))
    (kk : ∀ (u : S) (H1 : Heap) (locs1 : List Loc), post u → va_P D CL (wr ++ w1 u) H1 → va_D A (wr ++ w1 u) → va_S A s.heap H1 locs1 → W p l e R s m args below meth c H1 locs1 kc ks Q (F0 m (pc + 3) ls (.ref ra :: rest))) : W p l e R s m args below meth c H locs cells slots Q (F0 m pc ls st0) := by
  obtain ⟨hx, hb, hrr, hml, hown, hlocks, hname, hT, hN, hK, hA⟩ := C0
  have hF := va_free (wc := wc) hD hS hA isC hC
  refine va_callr hr hS (fun q _ h => hF q h) hF (fun u x t H1 locs1 ht hvm hw hB hz1 hk1 hS1 => ?_)
  obtain ⟨rfl, hP1, -, hD1⟩ := hB
  rw [ht] at hP1
  obtain ⟨hP2, hD2⟩ := va_join (wr := wr) (w1 := w1 u) hP hD isC isR hC hR hn hdis hk1 hF hP1 hD1
  exact W.widen hkc hks (kk u H1 locs1 hw hP2 hD2 hS1)
end CONT
theorem newI (C0 : Ctx p s m args meth c y cc n rt D ty A) (hw : Cond.arrayClass .int ∈ WALL) {cI : ClassId} (t0 : Nat) (ht : ty[t0]? = some (cI, .int)) (hP : va_P D CL ws H) (hD : va_D A ws) (hS : va_S A s.heap H locs) {i : Int32} {N : Nat} (hn : ¬ i < 0) (hN : i.toNatClampNeg = N) (hbytes : N * 4 ≤ 536870912) (kc ks : Nat) (hkc : cells + 1 ≤ kc) (hks : slots + N ≤ ks) (hcR : kc ≤ R.cells) (hsR : ks ≤ R.slots) (hdg : decode cc pc = .ok (.newarray .int, 2))
    (kk : ∀ (q : Nat) (H1 : Heap), va_P D CL (ws ++ [(q, .inl (cI, N, .inl (fun _ => 0)))]) H1 → va_D A (ws ++ [(q, .inl (cI, N, .inl (fun _ => 0)))]) → va_S A s.heap H1 locs → W p l e R s m args below meth c H1 locs kc ks Q (F0 m (pc + 2) ls (.ref q :: rest))) : W p l e R s m args below meth c H locs cells slots Q (F0 m pc ls (.int i :: rest)) := by
  obtain ⟨hx, hb, hrr, hml, hown, hlocks, hname, hT, hNW, hK, hA⟩ := C0
  refine va_newa (atype := .int) (ty := .int) (a0 := (N, .inl (fun _ => 0))) hx hb (hT _ hw) rfl hK hP hD hS hA (fun cA => rfl) hn hN hbytes (Nat.le_trans hkc hcR) (Nat.le_trans hks hsR) hdg (fun q cA H1 hK1 hP1 hD1 hS1 => ?_)
  have e1 : s.vm.findClass ("[" ++ FieldType.int.toString) = some cI := (hK.2 t0 _ ht).2
  have e2 : s.vm.findClass ("[" ++ FieldType.int.toString) = some cA := (hK1.2 ty.length (cA, .int) (by simp)).2
  obtain rfl : cI = cA := Option.some.inj (e1.symm.trans e2)
  exact W.widen hkc hks (kk q H1 hP1 hD1 hS1)
theorem newZ (C0 : Ctx p s m args meth c y cc n rt D ty A) (hw : Cond.arrayClass .boolean ∈ WALL) {cI : ClassId} (t0 : Nat) (ht : ty[t0]? = some (cI, .boolean)) (hP : va_P D CL ws H) (hD : va_D A ws) (hS : va_S A s.heap H locs) {i : Int32} {N : Nat} (hn : ¬ i < 0) (hN : i.toNatClampNeg = N) (hbytes : N * 1 ≤ 536870912) (kc ks : Nat) (hkc : cells + 1 ≤ kc) (hks : slots + N ≤ ks) (hcR : kc ≤ R.cells) (hsR : ks ≤ R.slots) (hdg : decode cc pc = .ok (.newarray .boolean, 2))
    (kk : ∀ (q : Nat) (H1 : Heap), va_P D CL (ws ++ [(q, .inl (cI, N, .inl (fun _ => 0)))]) H1 → va_D A (ws ++ [(q, .inl (cI, N, .inl (fun _ => 0)))]) → va_S A s.heap H1 locs → W p l e R s m args below meth c H1 locs kc ks Q (F0 m (pc + 2) ls (.ref q :: rest))) : W p l e R s m args below meth c H locs cells slots Q (F0 m pc ls (.int i :: rest)) := by
  obtain ⟨hx, hb, hrr, hml, hown, hlocks, hname, hT, hNW, hK, hA⟩ := C0
  refine va_newa (atype := .boolean) (ty := .boolean) (a0 := (N, .inl (fun _ => 0))) hx hb (hT _ hw) rfl hK hP hD hS hA (fun cA => rfl) hn hN hbytes (Nat.le_trans hkc hcR) (Nat.le_trans hks hsR) hdg (fun q cA H1 hK1 hP1 hD1 hS1 => ?_)
  have e1 : s.vm.findClass ("[" ++ FieldType.boolean.toString) = some cI := (hK.2 t0 _ ht).2
  have e2 : s.vm.findClass ("[" ++ FieldType.boolean.toString) = some cA := (hK1.2 ty.length (cA, .boolean) (by simp)).2
  obtain rfl : cI = cA := Option.some.inj (e1.symm.trans e2)
  exact W.widen hkc hks (kk q H1 hP1 hD1 hS1)
theorem newT (C0 : Ctx p s m args meth c y cc n rt D ty A) {index : Nat} (hw : Cond.classLink y.cls index "DayKnown$Town" ∈ WALL) {cI : ClassId} (t0 : Nat) (ht : ty[t0]? = some (cI, .object "DayKnown$Town")) (hP : va_P D CL ws H) (hD : va_D A ws) (hS : va_S A s.heap H locs) {i : Int32} {N : Nat} (hn : ¬ i < 0) (hN : i.toNatClampNeg = N) (hbytes : N * 4 ≤ 536870912) (kc ks : Nat) (hkc : cells + 1 ≤ kc) (hks : slots + N ≤ ks) (hcR : kc ≤ R.cells) (hsR : ks ≤ R.slots) (hdg : decode cc pc = .ok (.anewarray index, 3))
    (kk : ∀ (q : Nat) (H1 : Heap), va_P D CL (ws ++ [(q, .inl (cI, N, .inr (.inr (.inr (.inr (fun _ => none))))))]) H1 → va_D A (ws ++ [(q, .inl (cI, N, .inr (.inr (.inr (.inr (fun _ => none))))))]) → va_S A s.heap H1 locs → W p l e R s m args below meth c H1 locs kc ks Q (F0 m (pc + 3) ls (.ref q :: rest))) : W p l e R s m args below meth c H locs cells slots Q (F0 m pc ls (.int i :: rest)) := by
  obtain ⟨hx, hb, hrr, hml, hown, hlocks, hname, hT, hNW, hK, hA⟩ := C0
  refine va_newq hx hb hown (hT _ hw) hNW.2.1 hK hP hD hS hA hn hN hbytes (Nat.le_trans hkc hcR) (Nat.le_trans hks hsR) hdg (fun q cA H1 hK1 hP1 hD1 hS1 => ?_)
  obtain ⟨-, -, -, -, -, e1⟩ := (hK.2 t0 _ ht).2
  obtain ⟨-, -, -, -, -, e2⟩ := (hK1.2 ty.length (cA, .object "DayKnown$Town") (by simp)).2
  obtain rfl : cI = cA := Option.some.inj (e1.symm.trans e2)
  exact W.widen hkc hks (kk q H1 hP1 hD1 hS1)
end CC
