/-! the words in one list; links of nest mates; what every method is told -/
section CB
def va_AOA (t : FieldType) (U : State) : Prop := (Cond.arrayOver (.array t)).before #[] U = true
theorem va_AOA.use {t : FieldType} {A : Array Value} {U : State} (h : va_AOA t U) : (Cond.arrayOver (.array t)).before A U = true := h
theorem va_AOA.moved {t : FieldType} {u U : State} (hvm : u.vm.Alike U.vm) (h : va_AOA t u) : va_AOA t U := over_moved (a := #[]) (a' := #[]) hvm h
def isNest : Cond → Bool
  | .fieldLinkNest .. => true
  | .methodLinkNest .. => true
  | _ => false
def WALL : List Cond := lw_tbl.filter goodWord
theorem wall {w : Cond} (k : Nat) (h : lw_tbl[k]? = some w) (hg : goodWord w = true) : w ∈ WALL := List.mem_filter.mpr ⟨List.mem_of_getElem? h, hg⟩
theorem wall_in {w : Cond} (h : w ∈ WALL) : GoodIn WALL (w :: WALL) := by
  intro v hv
  have hv : v ∈ WALL := by
    rcases List.mem_cons.mp hv with rfl | hv
    · exact h
    · exact hv
  exact ⟨hv, good_of_word (List.mem_filter.mp hv).2⟩
def NW (U : State) : Prop := (∀ w ∈ lw_tbl, isNest w = true → va_Nw w U) ∧ va_AO "DayKnown$Town" U ∧ va_AOA .int U
theorem NW.warm {s U : State} (hW : s.WarmedH U.vm) (h : NW s) : NW U := by
  refine ⟨fun w hw hn => ?_, va_AO.moved hW.alike h.2.1, va_AOA.moved hW.alike h.2.2⟩
  have h1 := h.1 w hw hn
  cases w <;> first | (simp [isNest] at hn; done) | exact va_Nw.warmF hW h1 | exact va_Nw.warmM hW h1
theorem NW.same {u U : State} (hv : u.vm = U.vm) (h : NW u) : NW U := by
  refine ⟨fun w hw hn => ?_, va_AO.moved (by rw [hv]; exact Vm.Alike.refl _) h.2.1, va_AOA.moved (by rw [hv]; exact Vm.Alike.refl _) h.2.2⟩
  have h1 := h.1 w hw hn
  cases w <;> first | (simp [isNest] at hn; done) | exact va_Nw.same rfl hv h1
theorem NW.get {U : State} (h : NW U) {w : Cond} (k : Nat) (hk : lw_tbl[k]? = some w) (hn : isNest w = true) : va_Nw w U := h.1 w (List.mem_of_getElem? hk) hn
/-- the classes whose objects the worlds hold -/
abbrev CL : List vw_C := [(RX0, TX0, 5), (RX1, TX1, 12), (RX2, TX2, 6), (RX3, TX3, 6), (RX4, TX4, 9), (RX5, TX5, 9), (RX6, TX6, 28)]
abbrev XT : Type := (Nat → Prop) → State → Heap → Prop
/-- facts of what nobody writes: they stand while the machine goes on, and hold for a smaller part -/
def XOK (X : XT) : Prop := (∀ (A : Nat → Prop) (u U : State) (H : Heap), u.WarmedH U.vm → X A u H → X A U H) ∧ (∀ (A : Nat → Prop) (U : State) (H H1 : Heap), (∀ a : Nat, a < H.size → ¬ A a → H1[a]? = H[a]?) → X A U H → X A U H1) ∧ (∀ (A B : Nat → Prop) (U : State) (H : Heap), (∀ q, B q → A q) → X A U H → X B U H)
def wB (D : va_G) (ty : List (ClassId × FieldType)) (X : XT) (sz : Nat) (ws : va_W) : State → Prop := fun U => U.heap.size = sz ∧ va_P D CL ws U.heap ∧ va_K D CL ty U ∧ va_D (fun _ => True) ws ∧ NW U ∧ X (va_A ws sz) U U.heap
def wE (D : va_G) (ty : List (ClassId × FieldType)) (A : Nat → Prop) (ws : va_W) : State → Prop := fun t => va_P D CL ws t.heap ∧ va_K D CL ty t ∧ va_D A ws
theorem wB.blind {D : va_G} {ty : List (ClassId × FieldType)} {X : XT} (hX : XOK X) {sz : Nat} {ws : va_W} (av : List Value) : FrameBlind (va_Pc av (wB D ty X sz ws)) := fun a U g mk q => by
  obtain ⟨q0, q1, qP, qK, qD, qN, qX⟩ := q
  exact ⟨q0, q1, qP, va_K.moved (u := U) (U := U.calling g mk a) (Vm.Alike.refl U.vm) qK, qD, NW.same (u := U) (U := U.calling g mk a) rfl qN, hX.1 _ U (U.calling g mk a) _ (State.WarmedH.refl U) qX⟩
def MetI (l : Launch) (y : MethodName) (cc : ByteArray) (n : Nat) (rt : FieldType) (rm : Room) (av : List Value) (D : va_G) (ty : List (ClassId × FieldType)) (X : XT) (sz : Nat) (ws : va_W) {S : Type} (post : Int32 → S → Prop) (w1 : S → va_W) : Prop :=
  Met l y (.code y cc n (some rt) :: WALL) rm (va_Pc av (wB D ty X sz ws)) (va_Qi post (fun u => wE D ty (va_A ws sz) (w1 u)) (va_A ws sz)) rm.cells rm.slots (va_A ws sz)
def MetV (l : Launch) (y : MethodName) (cc : ByteArray) (n : Nat) (rm : Room) (av : List Value) (D : va_G) (ty : List (ClassId × FieldType)) (X : XT) (sz : Nat) (ws : va_W) {S : Type} (post : S → Prop) (w1 : S → va_W) : Prop :=
  Met l y (.code y cc n none :: WALL) rm (va_Pc av (wB D ty X sz ws)) (va_Qv post (fun u => wE D ty (va_A ws sz) (w1 u)) (va_A ws sz)) rm.cells rm.slots (va_A ws sz)
/-- an answer that is the cell at ra -/
def MetR (l : Launch) (y : MethodName) (cc : ByteArray) (n : Nat) (rt : FieldType) (rm : Room) (av : List Value) (D : va_G) (ty : List (ClassId × FieldType)) (X : XT) (sz : Nat) (ws : va_W) (ra : Nat) {S : Type} (post : S → Prop) (w1 : S → va_W) : Prop :=
  Met l y (.code y cc n (some rt) :: WALL) rm (va_Pc av (wB D ty X sz ws)) (va_Qr post (fun u a t => a = ra ∧ wE D ty (va_A ws sz) (w1 u) t) (va_A ws sz)) rm.cells rm.slots (va_A ws sz)
/-- what holds in a method's body from its entry on -/
def Ctx (p : Program) (s : State) (m : MethodId) (args : Array Value) (meth : Method) (c : Code) (y : MethodName) (cc : ByteArray) (n : Nat) (rt : Option FieldType) (D : va_G) (ty : List (ClassId × FieldType)) (A : Nat → Prop) : Prop :=
  p.tables.exec = Jvm.exec ∧ c.code = cc ∧ meth.sig.returnType = rt ∧ c.maxLocals = n ∧ s.vm.findClass y.cls = some m.cls ∧ meth.locks = false ∧ (y.name = "<init>" → meth.name = "<init>") ∧ (∀ w ∈ WALL, w.before args s = true) ∧ NW s ∧ va_K D CL ty s ∧ ∀ q, s.heap.size ≤ q → A q
theorem MetI.mk {l : Launch} {y : MethodName} {cc : ByteArray} {n : Nat} {rt : FieldType} {rm : Room} {av : List Value} {D : va_G} {ty : List (ClassId × FieldType)} {X : XT} {sz : Nat} {ws : va_W} {S : Type} {post : Int32 → S → Prop} {w1 : S → va_W}
    (hy : plainName y.cls = true) (hn : (lg_sl av).length ≤ n) {lv : List (Nat × Value)} (hlv : lv_args 0 av = lv)
    (body : ∀ (p : Program) (e : Env) (s : State) (m : MethodId) (below : List Frame) (meth : Method) (c : Code) (A : Nat → Prop) (ls : Array Slot), Ctx p s m av.toArray meth c y cc n (some rt) D ty A → va_P D CL ws s.heap → va_D A ws → va_S A s.heap s.heap [] → X A s s.heap → lv_has ls n lv →
      W p l e rm s m av.toArray below meth c s.heap [] 0 0 (MQ below (va_Qi post (fun u => wE D ty A (w1 u)) A) av.toArray s rm.cells rm.slots A) (F0 m 0 ls [])) : MetI l y cc n rt rm av D ty X sz ws post w1 := by
  refine Met.ofW (cc := cc) (maxL := n) (ret := some rt) hy rfl ?_
  intro p e s m args below meth c s₁ B hml hv
  obtain ⟨rfl, hsz, hP, hK, hD0, hN, hX⟩ := hv
  have hts := atoms_spec (ws := .code y cc n (some rt) :: WALL) B.pre
  subst hsz
  have hD := hD0.self (sz := s.heap.size)
  have hl := lv_entry av (n := n) hn
  rw [lg_entry_eq]
  rw [hlv] at hl
  exact body p e s m below meth c _ _ ⟨B.exec, B.bytes, B.returns, hml, findClass_of_methodNamed B.named, B.notSynchronized, fun h => (name_of_methodNamed B.named B.method).1.trans h, fun w h => hts w (List.mem_cons_of_mem _ h), hN, hK, fun q h => Or.inr h⟩ hP hD va_S.rf hX hl
theorem MetV.mk {l : Launch} {y : MethodName} {cc : ByteArray} {n : Nat} {rm : Room} {av : List Value} {D : va_G} {ty : List (ClassId × FieldType)} {X : XT} {sz : Nat} {ws : va_W} {S : Type} {post : S → Prop} {w1 : S → va_W}
    (hy : plainName y.cls = true) (hn : (lg_sl av).length ≤ n) {lv : List (Nat × Value)} (hlv : lv_args 0 av = lv)
    (body : ∀ (p : Program) (e : Env) (s : State) (m : MethodId) (below : List Frame) (meth : Method) (c : Code) (A : Nat → Prop) (ls : Array Slot), Ctx p s m av.toArray meth c y cc n none D ty A → va_P D CL ws s.heap → va_D A ws → va_S A s.heap s.heap [] → X A s s.heap → lv_has ls n lv →
      W p l e rm s m av.toArray below meth c s.heap [] 0 0 (MQ below (va_Qv post (fun u => wE D ty A (w1 u)) A) av.toArray s rm.cells rm.slots A) (F0 m 0 ls [])) : MetV l y cc n rm av D ty X sz ws post w1 := by
  refine Met.ofW (cc := cc) (maxL := n) (ret := none) hy rfl ?_
  intro p e s m args below meth c s₁ B hml hv
  obtain ⟨rfl, hsz, hP, hK, hD0, hN, hX⟩ := hv
  have hts := atoms_spec (ws := .code y cc n none :: WALL) B.pre
  subst hsz
  have hD := hD0.self (sz := s.heap.size)
  have hl := lv_entry av (n := n) hn
  rw [lg_entry_eq]
  rw [hlv] at hl
  exact body p e s m below meth c _ _ ⟨B.exec, B.bytes, B.returns, hml, findClass_of_methodNamed B.named, B.notSynchronized, fun h => (name_of_methodNamed B.named B.method).1.trans h, fun w h => hts w (List.mem_cons_of_mem _ h), hN, hK, fun q h => Or.inr h⟩ hP hD va_S.rf hX hl
theorem MetR.mk {l : Launch} {y : MethodName} {cc : ByteArray} {n : Nat} {rt : FieldType} {rm : Room} {av : List Value} {D : va_G} {ty : List (ClassId × FieldType)} {X : XT} {sz : Nat} {ws : va_W} {ra : Nat} {S : Type} {post : S → Prop} {w1 : S → va_W}
    (hy : plainName y.cls = true) (hn : (lg_sl av).length ≤ n) {lv : List (Nat × Value)} (hlv : lv_args 0 av = lv)
    (body : ∀ (p : Program) (e : Env) (s : State) (m : MethodId) (below : List Frame) (meth : Method) (c : Code) (A : Nat → Prop) (ls : Array Slot), Ctx p s m av.toArray meth c y cc n (some rt) D ty A → va_P D CL ws s.heap → va_D A ws → va_S A s.heap s.heap [] → X A s s.heap → lv_has ls n lv →
      W p l e rm s m av.toArray below meth c s.heap [] 0 0 (MQ below (va_Qr post (fun u a t => a = ra ∧ wE D ty A (w1 u) t) A) av.toArray s rm.cells rm.slots A) (F0 m 0 ls [])) : MetR l y cc n rt rm av D ty X sz ws ra post w1 := by
  refine Met.ofW (cc := cc) (maxL := n) (ret := some rt) hy rfl ?_
  intro p e s m args below meth c s₁ B hml hv
  obtain ⟨rfl, hsz, hP, hK, hD0, hN, hX⟩ := hv
  have hts := atoms_spec (ws := .code y cc n (some rt) :: WALL) B.pre
  subst hsz
  have hD := hD0.self (sz := s.heap.size)
  have hl := lv_entry av (n := n) hn
  rw [lg_entry_eq]
  rw [hlv] at hl
  exact body p e s m below meth c _ _ ⟨B.exec, B.bytes, B.returns, hml, findClass_of_methodNamed B.named, B.notSynchronized, fun h => (name_of_methodNamed B.named B.method).1.trans h, fun w h => hts w (List.mem_cons_of_mem _ h), hN, hK, fun q h => Or.inr h⟩ hP hD va_S.rf hX hl
section RET
variable {p : Program} {l : Launch} {e : Env} {R : Room} {s : State} {m : MethodId} {args : Array Value} {below : List Frame} {meth : Method} {c : Code} {H : Heap} {locs : List Loc} {cells slots : Nat} {Q : State → Prop}
variable {y : MethodName} {cc : ByteArray} {n : Nat} {D : va_G} {ty : List (ClassId × FieldType)} {A : Nat → Prop} {pc mc ms : Nat} {ls : Array Slot} {S : Type} {w1 : S → va_W}
theorem retI {rt : FieldType} {post : Int32 → S → Prop} {v : Int32} (C0 : Ctx p s m args meth c y cc n (some rt) D ty A) (hn : narrow rt (.int v) = .int v) (u : S) (hp : post v u) (hP : va_P D CL (w1 u) H) (hD : va_D A (w1 u)) (hS : va_S A s.heap H locs) (hc : cells ≤ mc) (hs : slots ≤ ms) (hdg : decode cc pc = .ok (.ireturn, 1)) :
    W p l e R s m args below meth c H locs cells slots (MQ below (va_Qi post (fun u => wE D ty A (w1 u)) A) args s mc ms A) (F0 m pc ls [.int v]) := by
  obtain ⟨hx, hb, hr, hml, hown, hlocks, hname, hT, hN, hK, hA⟩ := C0
  refine W.widen (k := mc) (n := ms) hc hs ?_
  exact W.zret hx hb hr hn (fun t ht hW => ⟨⟨v, u, rfl, hp, by rw [ht]; exact hP, va_K.moved hW.alike hK, hD⟩, hS.F ht⟩) hS.2.2 hdg (hlocks := hlocks)
theorem retV {post : S → Prop} (C0 : Ctx p s m args meth c y cc n none D ty A) (u : S) (hp : post u) (hP : va_P D CL (w1 u) H) (hD : va_D A (w1 u)) (hS : va_S A s.heap H locs) (hc : cells ≤ mc) (hs : slots ≤ ms) (hdg : decode cc pc = .ok (.return_, 1)) :
    W p l e R s m args below meth c H locs cells slots (MQ below (va_Qv post (fun u => wE D ty A (w1 u)) A) args s mc ms A) (F0 m pc ls []) := by
  obtain ⟨hx, hb, hr, hml, hown, hlocks, hname, hT, hN, hK, hA⟩ := C0
  refine W.widen (k := mc) (n := ms) hc hs ?_
  exact W.vret hx hb hr (fun t ht hW => ⟨⟨u, rfl, hp, by rw [ht]; exact hP, va_K.moved hW.alike hK, hD⟩, hS.F ht⟩) hS.2.2 hdg (hlocks := hlocks)
theorem retR {rt : FieldType} {post : S → Prop} {ra : Nat} (C0 : Ctx p s m args meth c y cc n (some rt) D ty A) (hrt : ∃ n, rt = .object n) (u : S) (hp : post u) (hP : va_P D CL (w1 u) H) (hD : va_D A (w1 u)) (hS : va_S A s.heap H locs) (hc : cells ≤ mc) (hs : slots ≤ ms) (hdg : decode cc pc = .ok (.areturn, 1)) :
    W p l e R s m args below meth c H locs cells slots (MQ below (va_Qr post (fun u a t => a = ra ∧ wE D ty A (w1 u) t) A) args s mc ms A) (F0 m pc ls [.ref ra]) := by
  obtain ⟨hx, hb, hr, hml, hown, hlocks, hname, hT, hN, hK, hA⟩ := C0
  refine W.widen (k := mc) (n := ms) hc hs ?_
  exact W.aret hx hb hr (Or.inl hrt) (Or.inr ⟨ra, rfl⟩) (fun t ht hW => ⟨⟨u, ra, rfl, hp, rfl, by rw [ht]; exact hP, va_K.moved hW.alike hK, hD⟩, hS.F ht⟩) hS.2.2 hdg (hlocks := hlocks)
/-- a concrete number under another spelling -/
theorem lv_ci {x : Int32} {rest : List Value} (z : Int32) (h : x = z) (k : W p l e R s m args below meth c H locs cells slots Q (F0 m pc ls (.int z :: rest))) : W p l e R s m args below meth c H locs cells slots Q (F0 m pc ls (.int x :: rest)) := h ▸ k
end RET
end CB
/-! calls out of a body: the callee's cells are cut out, and what came back is put beside the rest; new arrays of known classes -/
section CC
theorem fm_of {α β : Type} {f : α → Option β} : ∀ {is : List α} {w : List β}, is.map f = w.map some → is.filterMap f = w
  | [], [], _ => rfl
  | [], _ :: _, h => by cases h
  | _ :: _, [], h => by cases h
  | a :: is, b :: w, h => by
    rw [List.map_cons, List.map_cons, List.cons.injEq] at h
    rw [List.filterMap_cons, h.1]
    exact congrArg (b :: ·) (fm_of h.2)
variable {p : Program} {l : Launch} {e : Env} {R : Room} {s : State} {m : MethodId} {args : Array Value} {below : List Frame} {meth : Method} {c : Code} {H : Heap} {locs : List Loc} {cells slots : Nat} {Q : State → Prop}
variable {y : MethodName} {cc : ByteArray} {n : Nat} {rt : Option FieldType} {D : va_G} {ty : List (ClassId × FieldType)} {A : Nat → Prop} {pc : Nat} {ls : Array Slot} {rest st0 : List Value} {ws wc wr : va_W}
theorem pre_of {X : XT} (C0 : Ctx p s m args meth c y cc n rt D ty A) (hP : va_P D CL ws H) (hD : va_D A ws) (hS : va_S A s.heap H locs) (hX : XOK X) (hXs : X A s s.heap) (isC : List Nat) (hC : isC.map (fun i => ws[i]?) = wc.map some) (hn : va_nd isC = true) :
    ∀ U : State, U.heap = H → s.WarmedH U.vm → wB D ty X H.size wc U := by
  obtain ⟨hx, hb, hr, hml, hown, hlocks, hname, hT, hN, hK, hA⟩ := C0
  intro U hU hW
  refine ⟨by rw [hU], by rw [hU]; exact hP.sub isC (fm_of hC), va_K.moved hW.alike hK, (hD.sub isC hn hC).weaken (fun _ _ _ _ => trivial), NW.warm hW hN, ?_⟩
  rw [hU]
  exact hX.2.2 A _ _ _ (va_free hD hS hA isC hC) (hX.1 _ s U _ hW (hX.2.1 A s s.heap H hS.2.1 hXs))
theorem runV {y' : MethodName} {bytes : ByteArray} {maxL k index : Nat} {ret : Option FieldType} {rm : Room} {Qc : Array Value → State → Outcome → State → Prop} {b : Nat} {As : List Value} {X : XT}
    (C0 : Ctx p s m args meth c y cc n rt D ty A) (hM : Met l y' (.code y' bytes maxL ret :: WALL) rm (va_Pc (.ref b :: As) (wB D ty X H.size wc)) Qc rm.cells rm.slots (va_A wc H.size))
    (hcode : Cond.code y' bytes maxL ret ∈ WALL) (hlk : Cond.methodLink y.cls index y' ∈ WALL) (hin : Cond.instanceMethod y' ∈ WALL) (hse : Cond.selects y'.cls y' y' ∈ WALL) (hini : Cond.initialized y'.cls ∈ WALL)
    (hd : y'.cls ≠ "java/lang/invoke/MethodHandle" ∧ y'.cls ≠ "java/lang/invoke/VarHandle" ∧ (parseMethodDescriptor y'.desc).map (fun d => d.parameters.length) = some k) (hR : rm.frames + 1 ≤ R.frames ∧ 8 + (maxL + 11) + rm.locals ≤ R.locals)
    (hP : va_P D CL ws H) (hD : va_D A ws) (hS : va_S A s.heap H locs) (hX : XOK X) (hXs : X A s s.heap) (isC : List Nat) (hC : isC.map (fun i => ws[i]?) = wc.map some) (hnd : va_nd isC = true)
    (q0 : Nat) {ci : Nat} {fs : List Value} {q : vw_C} (he : ws[q0]? = some (b, .inr (ci, fs))) (hc : CL[ci]? = some q) (hq : q.1 = y'.cls)
    (hk : As.length = k) (hsize : ls.size = n) (hst : st0 = As.reverse ++ .ref b :: rest) (hW : (rest.map fun v => v.category).sum ≤ 8) (hdg : decode cc pc = .ok (.invokevirtual index, 3)) (hf : cells + rm.cells ≤ R.cells ∧ slots + rm.slots ≤ R.slots) :
    va_Run p l e R s m args below meth c H locs cells slots rm.cells rm.slots (F0 m pc ls st0) rest (Qc (Value.ref b :: As).toArray) (va_A wc H.size) := by
  have hpre := pre_of C0 hP hD hS hX hXs isC hC hnd
  obtain ⟨hx, hb, hr, hml, hown, hlocks, hname, hT, hN, hK, hA⟩ := C0
  have hG : GoodIn WALL (wsV y.cls index y'.cls y' (.code y' bytes maxL ret :: WALL)) := by
    intro w hw
    rcases List.mem_append.mp hw with hw | hw
    · have hw : w ∈ WALL := by
        simp only [List.mem_cons, List.not_mem_nil, or_false] at hw
        rcases hw with rfl | rfl | rfl | rfl <;> assumption
      exact ⟨hw, good_of_word (List.mem_filter.mp hw).2⟩
    · exact wall_in hcode w hw
  have hrec := va_recv hK hP hc he
  rw [hq] at hrec
  exact va_runV (As := As) (rest := rest) (C := y'.cls) ⟨hx, hb, hml, hown, hT⟩ hM (cwV k hT hG rfl rfl rfl ⟨rfl, hd⟩ hR) ⟨wB.blind hX _, hrec, fun U hU hW => ⟨rfl, hpre U hU hW⟩⟩ rfl hk hsize hst (lv_room hW) hdg hf
theorem runVN {y' : MethodName} {bytes : ByteArray} {maxL k index : Nat} {ret : Option FieldType} {rm : Room} {Qc : Array Value → State → Outcome → State → Prop} {b : Nat} {As : List Value} {X : XT} (host : String) (kN : Nat)
    (C0 : Ctx p s m args meth c y cc n rt D ty A) (hM : Met l y' (.code y' bytes maxL ret :: WALL) rm (va_Pc (.ref b :: As) (wB D ty X H.size wc)) Qc rm.cells rm.slots (va_A wc H.size))
    (hcode : Cond.code y' bytes maxL ret ∈ WALL) (hlk : lw_tbl[kN]? = some (Cond.methodLinkNest y.cls index y' host)) (hin : Cond.instanceMethod y' ∈ WALL) (hse : Cond.selects y'.cls y' y' ∈ WALL) (hini : Cond.initialized y'.cls ∈ WALL)
    (hd : y'.cls ≠ "java/lang/invoke/MethodHandle" ∧ y'.cls ≠ "java/lang/invoke/VarHandle" ∧ (parseMethodDescriptor y'.desc).map (fun d => d.parameters.length) = some k) (hR : rm.frames + 1 ≤ R.frames ∧ 8 + (maxL + 11) + rm.locals ≤ R.locals)
    (hP : va_P D CL ws H) (hD : va_D A ws) (hS : va_S A s.heap H locs) (hX : XOK X) (hXs : X A s s.heap) (isC : List Nat) (hC : isC.map (fun i => ws[i]?) = wc.map some) (hnd : va_nd isC = true)
    (q0 : Nat) {ci : Nat} {fs : List Value} {q : vw_C} (he : ws[q0]? = some (b, .inr (ci, fs))) (hc : CL[ci]? = some q) (hq : q.1 = y'.cls)
    (hk : As.length = k) (hsize : ls.size = n) (hst : st0 = As.reverse ++ .ref b :: rest) (hW : (rest.map fun v => v.category).sum ≤ 8) (hdg : decode cc pc = .ok (.invokevirtual index, 3)) (hf : cells + rm.cells ≤ R.cells ∧ slots + rm.slots ≤ R.slots) :
    va_Run p l e R s m args below meth c H locs cells slots rm.cells rm.slots (F0 m pc ls st0) rest (Qc (Value.ref b :: As).toArray) (va_A wc H.size) := by
  have hpre := pre_of C0 hP hD hS hX hXs isC hC hnd
  obtain ⟨hx, hb, hr, hml, hown, hlocks, hname, hT, hN, hK, hA⟩ := C0
  have hrec := va_recv hK hP hc he
  rw [hq] at hrec
  exact va_runVN (As := As) (rest := rest) (C := y'.cls) (host := host) ⟨hx, hb, hml, hown, hT⟩ hM ⟨va_cnB k hT (wall_in hcode) rfl rfl rfl (hN.get kN hlk rfl) (hT _ hini) hd hR, hT _ hin, hT _ hse⟩ ⟨wB.blind hX _, hrec, fun U hU hW => ⟨rfl, hpre U hU hW⟩⟩ rfl hk hsize hst (lv_room hW) hdg hf
theorem runS {y' : MethodName} {bytes : ByteArray} {maxL k index : Nat} {ret : Option FieldType} {rm : Room} {Qc : Array Value → State → Outcome → State → Prop} {As : List Value} {X : XT}
    (C0 : Ctx p s m args meth c y cc n rt D ty A) (hM : Met l y' (.code y' bytes maxL ret :: WALL) rm (va_Pc As (wB D ty X H.size wc)) Qc rm.cells rm.slots (va_A wc H.size))
    (hcode : Cond.code y' bytes maxL ret ∈ WALL) (hlk : Cond.methodLink y.cls index y' ∈ WALL) (hsc : Cond.static y' ∈ WALL) (hini : Cond.initialized y'.cls ∈ WALL)
    (hd : y'.cls ≠ "java/lang/invoke/MethodHandle" ∧ y'.cls ≠ "java/lang/invoke/VarHandle" ∧ (parseMethodDescriptor y'.desc).map (fun d => d.parameters.length) = some k) (hR : rm.frames + 1 ≤ R.frames ∧ 8 + (maxL + 11) + rm.locals ≤ R.locals)
    (hP : va_P D CL ws H) (hD : va_D A ws) (hS : va_S A s.heap H locs) (hX : XOK X) (hXs : X A s s.heap) (isC : List Nat) (hC : isC.map (fun i => ws[i]?) = wc.map some) (hnd : va_nd isC = true)
    (hk : As.length = k) (hsize : ls.size = n) (hst : st0 = As.reverse ++ rest) (hW : (rest.map fun v => v.category).sum ≤ 8) (hdg : decode cc pc = .ok (.invokestatic index, 3)) (hf : cells + rm.cells ≤ R.cells ∧ slots + rm.slots ≤ R.slots) :
    va_Run p l e R s m args below meth c H locs cells slots rm.cells rm.slots (F0 m pc ls st0) rest (Qc As.toArray) (va_A wc H.size) := by
  have hpre := pre_of C0 hP hD hS hX hXs isC hC hnd
  obtain ⟨hx, hb, hr, hml, hown, hlocks, hname, hT, hN, hK, hA⟩ := C0
  have hG : GoodIn WALL (va_wsS y.cls index y' (.code y' bytes maxL ret :: WALL)) := by
    intro w hw
    rcases List.mem_append.mp hw with hw | hw
    · have hw : w ∈ WALL := by
        simp only [List.mem_cons, List.not_mem_nil, or_false] at hw
        rcases hw with rfl | rfl | rfl <;> assumption
      exact ⟨hw, good_of_word (List.mem_filter.mp hw).2⟩
    · exact wall_in hcode w hw
  exact va_runS (As := As) (rest := rest) ⟨hx, hb, hml, hown, hT⟩ hM (va_cwS k hT hG rfl rfl rfl hd hR) ⟨wB.blind hX _, fun U hU hW => ⟨rfl, hpre U hU hW⟩⟩ rfl hk hsize hst (lv_room hW) hdg hf
theorem runSN {y' : MethodName} {bytes : ByteArray} {maxL k index : Nat} {ret : Option FieldType} {rm : Room} {Qc : Array Value → State → Outcome → State → Prop} {As : List Value} {X : XT} (host : String) (kN : Nat)
    (C0 : Ctx p s m args meth c y cc n rt D ty A) (hM : Met l y' (.code y' bytes maxL ret :: WALL) rm (va_Pc As (wB D ty X H.size wc)) Qc rm.cells rm.slots (va_A wc H.size))
    (hcode : Cond.code y' bytes maxL ret ∈ WALL) (hlk : lw_tbl[kN]? = some (Cond.methodLinkNest y.cls index y' host)) (hsc : Cond.static y' ∈ WALL) (hini : Cond.initialized y'.cls ∈ WALL)
    (hd : y'.cls ≠ "java/lang/invoke/MethodHandle" ∧ y'.cls ≠ "java/lang/invoke/VarHandle" ∧ (parseMethodDescriptor y'.desc).map (fun d => d.parameters.length) = some k) (hR : rm.frames + 1 ≤ R.frames ∧ 8 + (maxL + 11) + rm.locals ≤ R.locals)
    (hP : va_P D CL ws H) (hD : va_D A ws) (hS : va_S A s.heap H locs) (hX : XOK X) (hXs : X A s s.heap) (isC : List Nat) (hC : isC.map (fun i => ws[i]?) = wc.map some) (hnd : va_nd isC = true)
    (hk : As.length = k) (hsize : ls.size = n) (hst : st0 = As.reverse ++ rest) (hW : (rest.map fun v => v.category).sum ≤ 8) (hdg : decode cc pc = .ok (.invokestatic index, 3)) (hf : cells + rm.cells ≤ R.cells ∧ slots + rm.slots ≤ R.slots) :
    va_Run p l e R s m args below meth c H locs cells slots rm.cells rm.slots (F0 m pc ls st0) rest (Qc As.toArray) (va_A wc H.size) := by
  have hpre := pre_of C0 hP hD hS hX hXs isC hC hnd
  obtain ⟨hx, hb, hr, hml, hown, hlocks, hname, hT, hN, hK, hA⟩ := C0
  exact va_runSN (As := As) (rest := rest) (host := host) ⟨hx, hb, hml, hown, hT⟩ hM ⟨va_cnB k hT (wall_in hcode) rfl rfl rfl (hN.get kN hlk rfl) (hT _ hini) hd hR, hT _ hsc, trivial⟩ ⟨wB.blind hX _, fun U hU hW => ⟨rfl, hpre U hU hW⟩⟩ rfl hk hsize hst (lv_room hW) hdg hf
theorem runI {y' : MethodName} {bytes : ByteArray} {maxL k index : Nat} {rm : Room} {Qc : Array Value → State → Outcome → State → Prop} {b : Nat} {As : List Value} {X : XT}
    (C0 : Ctx p s m args meth c y cc n rt D ty A) (hM : Met l y' (.code y' bytes maxL none :: WALL) rm (va_Pc (.ref b :: As) (wB D ty X H.size wc)) Qc rm.cells rm.slots (va_A wc H.size))
    (hcode : Cond.code y' bytes maxL none ∈ WALL) (hlk : Cond.methodLink y.cls index y' ∈ WALL) (hin : Cond.instanceMethod y' ∈ WALL) (hini : Cond.initialized y'.cls ∈ WALL) (hnm : y'.name = "<init>")
    (hd : y'.cls ≠ "java/lang/invoke/MethodHandle" ∧ y'.cls ≠ "java/lang/invoke/VarHandle" ∧ (parseMethodDescriptor y'.desc).map (fun d => d.parameters.length) = some k) (hR : rm.frames + 1 ≤ R.frames ∧ 8 + (maxL + 11) + rm.locals ≤ R.locals)
    (hP : va_P D CL ws H) (hD : va_D A ws) (hS : va_S A s.heap H locs) (hX : XOK X) (hXs : X A s s.heap) (isC : List Nat) (hC : isC.map (fun i => ws[i]?) = wc.map some) (hnd : va_nd isC = true)
    (hk : As.length = k) (hsize : ls.size = n) (hst : st0 = As.reverse ++ .ref b :: rest) (hW : (rest.map fun v => v.category).sum ≤ 8) (hdg : decode cc pc = .ok (.invokespecial index, 3)) (hf : cells + rm.cells ≤ R.cells ∧ slots + rm.slots ≤ R.slots) :
    va_Run p l e R s m args below meth c H locs cells slots rm.cells rm.slots (F0 m pc ls st0) rest (Qc (Value.ref b :: As).toArray) (va_A wc H.size) := by
  have hpre := pre_of C0 hP hD hS hX hXs isC hC hnd
  obtain ⟨hx, hb, hr, hml, hown, hlocks, hname, hT, hN, hK, hA⟩ := C0
  exact va_runI (As := As) (rest := rest) ⟨hx, hb, hml, hown, hT⟩ hM (cwI k hT (wall_in hcode) rfl rfl rfl (hT _ hini) (hT _ hlk) (hT _ hin) hnm hd hR) ⟨wB.blind hX _, fun U hU hW => ⟨rfl, hpre U hU hW⟩⟩ rfl hk hsize hst (lv_room hW) hdg hf
theorem runIN {y' : MethodName} {bytes : ByteArray} {maxL k index : Nat} {rm : Room} {Qc : Array Value → State → Outcome → State → Prop} {b : Nat} {As : List Value} {X : XT} (host : String) (kN : Nat)
    (C0 : Ctx p s m args meth c y cc n rt D ty A) (hM : Met l y' (.code y' bytes maxL none :: WALL) rm (va_Pc (.ref b :: As) (wB D ty X H.size wc)) Qc rm.cells rm.slots (va_A wc H.size))
    (hcode : Cond.code y' bytes maxL none ∈ WALL) (hlk : lw_tbl[kN]? = some (Cond.methodLinkNest y.cls index y' host)) (hin : Cond.instanceMethod y' ∈ WALL) (hini : Cond.initialized y'.cls ∈ WALL) (hnm : y'.name = "<init>")
    (hd : y'.cls ≠ "java/lang/invoke/MethodHandle" ∧ y'.cls ≠ "java/lang/invoke/VarHandle" ∧ (parseMethodDescriptor y'.desc).map (fun d => d.parameters.length) = some k) (hR : rm.frames + 1 ≤ R.frames ∧ 8 + (maxL + 11) + rm.locals ≤ R.locals)
    (hP : va_P D CL ws H) (hD : va_D A ws) (hS : va_S A s.heap H locs) (hX : XOK X) (hXs : X A s s.heap) (isC : List Nat) (hC : isC.map (fun i => ws[i]?) = wc.map some) (hnd : va_nd isC = true)
    (hk : As.length = k) (hsize : ls.size = n) (hst : st0 = As.reverse ++ .ref b :: rest) (hW : (rest.map fun v => v.category).sum ≤ 8) (hdg : decode cc pc = .ok (.invokespecial index, 3)) (hf : cells + rm.cells ≤ R.cells ∧ slots + rm.slots ≤ R.slots) :
    va_Run p l e R s m args below meth c H locs cells slots rm.cells rm.slots (F0 m pc ls st0) rest (Qc (Value.ref b :: As).toArray) (va_A wc H.size) := by
  have hpre := pre_of C0 hP hD hS hX hXs isC hC hnd
  obtain ⟨hx, hb, hr, hml, hown, hlocks, hname, hT, hN, hK, hA⟩ := C0
  exact va_runIN (As := As) (rest := rest) (host := host) ⟨hx, hb, hml, hown, hT⟩ hM ⟨va_cnB k hT (wall_in hcode) rfl rfl rfl (hN.get kN hlk rfl) (hT _ hini) hd hR, hnm, hT _ hin⟩ ⟨wB.blind hX _, fun U hU hW => ⟨rfl, hpre U hU hW⟩⟩ rfl hk hsize hst (lv_room hW) hdg hf
section CONT
variable {S : Type} {w1 : S → va_W} {rm : Room} {a : Array Value}
theorem contI {post : Int32 → S → Prop} (C0 : Ctx p s m args meth c y cc n rt D ty A) (hP : va_P D CL ws H) (hD : va_D A ws) (hS : va_S A s.heap H locs) (isC isR : List Nat) (hC : isC.map (fun i => ws[i]?) = wc.map some) (hR : isR.map (fun i => ws[i]?) = wr.map some) (hn : va_nd isR = true) (hdis : ∀ i ∈ isR, i ∉ isC) (kc ks : Nat) (hkc : cells + rm.cells ≤ kc) (hks : slots + rm.slots ≤ ks)
    (hr : va_Run p l e R s m args below meth c H locs cells slots rm.cells rm.slots (F0 m pc ls st0) rest (va_Qi post (fun u => wE D ty (va_A wc H.size) (w1 u)) (va_A wc H.size) a) (va_A wc H.size))
    (kk : ∀ (r : Int32) (u : S) (H1 : Heap) (locs1 : List Loc), post r u → va_P D CL (wr ++ w1 u) H1 → va_D A (wr ++ w1 u) → va_S A s.heap H1 locs1 → W p l e R s m args below meth c H1 locs1 kc ks Q (F0 m (pc + 3) ls (.int r :: rest))) : W p l e R s m args below meth c H locs cells slots Q (F0 m pc ls st0) := by
  obtain ⟨hx, hb, hrr, hml, hown, hlocks, hname, hT, hN, hK, hA⟩ := C0
  have hF := va_free (wc := wc) hD hS hA isC hC
  refine va_calli hr hS (fun q _ h => hF q h) hF (fun r u t H1 locs1 ht hvm hw hB hz1 hk1 hS1 => ?_)
  obtain ⟨hP1, -, hD1⟩ := hB
  rw [ht] at hP1
  obtain ⟨hP2, hD2⟩ := va_join (wr := wr) (w1 := w1 u) hP hD isC isR hC hR hn hdis hk1 hF hP1 hD1
  exact W.widen hkc hks (kk r u H1 locs1 hw hP2 hD2 hS1)
theorem contV {post : S → Prop} (C0 : Ctx p s m args meth c y cc n rt D ty A) (hP : va_P D CL ws H) (hD : va_D A ws) (hS : va_S A s.heap H locs) (isC isR : List Nat) (hC : isC.map (fun i => ws[i]?) = wc.map some) (hR : isR.map (fun i => ws[i]?) = wr.map some) (hn : va_nd isR = true) (hdis : ∀ i ∈ isR, i ∉ isC) (kc ks : Nat) (hkc : cells + rm.cells ≤ kc) (hks : slots + rm.slots ≤ ks)
    (hr : va_Run p l e R s m args below meth c H locs cells slots rm.cells rm.slots (F0 m pc ls st0) rest (va_Qv post (fun u => wE D ty (va_A wc H.size) (w1 u)) (va_A wc H.size) a) (va_A wc H.size))
    (kk : ∀ (u : S) (H1 : Heap) (locs1 : List Loc), post u → va_P D CL (wr ++ w1 u) H1 → va_D A (wr ++ w1 u) → va_S A s.heap H1 locs1 → W p l e R s m args below meth c H1 locs1 kc ks Q (F0 m (pc + 3) ls rest)) : W p l e R s m args below meth c H locs cells slots Q (F0 m pc ls st0) := by
  obtain ⟨hx, hb, hrr, hml, hown, hlocks, hname, hT, hN, hK, hA⟩ := C0
  have hF := va_free (wc := wc) hD hS hA isC hC
  refine va_callv hr hS (fun q _ h => hF q h) hF (fun u t H1 locs1 ht hvm hw hB hz1 hk1 hS1 => ?_)
  obtain ⟨hP1, -, hD1⟩ := hB
  rw [ht] at hP1
  obtain ⟨hP2, hD2⟩ := va_join (wr := wr) (w1 := w1 u) hP hD isC isR hC hR hn hdis hk1 hF hP1 hD1
  exact W.widen hkc hks (kk u H1 locs1 hw hP2 hD2 hS1)
theorem contR {post : S → Prop} {ra : Nat} (C0 : Ctx p s m args meth c y cc n rt D ty A) (hP : va_P D CL ws H) (hD : va_D A ws) (hS : va_S A s.heap H locs) (isC isR : List Nat) (hC : isC.map (fun i => ws[i]?) = wc.map some) (hR : isR.map (fun i => ws[i]?) = wr.map some) (hn : va_nd isR = true) (hdis : ∀ i ∈ isR, i ∉ isC) (kc ks : Nat) (hkc : cells + rm.cells ≤ kc) (hks : slots + rm.slots ≤ ks)
    (hr : va_Run p l e R s m args below meth c H locs cells slots rm.cells rm.slots (F0 m pc ls st0) rest (va_Qr post (fun u x t => x = ra ∧ wE D ty (va_A wc H.size) (w1 u) t) (va_A wc H.size) a) (va_A wc H.size))
    (kk : ∀ (u : S) (H1 : Heap) (locs1 : List Loc), post u → va_P D CL (wr ++ w1 u) H1 → va_D A (wr ++ w1 u) → va_S A s.heap H1 locs1 → W p l e R s m args below meth c H1 locs1 kc ks Q (F0 m (pc + 3) ls (.ref ra :: rest))) : W p l e R s m args below meth c H locs cells slots Q (F0 m pc ls st0) := by
  obtain ⟨hx, hb, hrr, hml, hown, hlocks, hname, hT, hN, hK, hA⟩ := C0
  have hF := va_free (wc := wc) hD hS hA isC hC
  refine va_callr hr hS (fun q _ h => hF q h) hF (fun u x t H1 locs1 ht hvm hw hB hz1 hk1 hS1 => ?_)
  obtain ⟨rfl, hP1, -, hD1⟩ := hB
  rw [ht] at hP1
  obtain ⟨hP2, hD2⟩ := va_join (wr := wr) (w1 := w1 u) hP hD isC isR hC hR hn hdis hk1 hF hP1 hD1
  exact W.widen hkc hks (kk u H1 locs1 hw hP2 hD2 hS1)
end CONT
theorem newI (C0 : Ctx p s m args meth c y cc n rt D ty A) (hw : Cond.arrayClass .int ∈ WALL) {cI : ClassId} (t0 : Nat) (ht : ty[t0]? = some (cI, .int)) (hP : va_P D CL ws H) (hD : va_D A ws) (hS : va_S A s.heap H locs) {i : Int32} {N : Nat} (hn : ¬ i < 0) (hN : i.toNatClampNeg = N) (hbytes : N * 4 ≤ 536870912) (kc ks : Nat) (hkc : cells + 1 ≤ kc) (hks : slots + N ≤ ks) (hcR : kc ≤ R.cells) (hsR : ks ≤ R.slots) (hdg : decode cc pc = .ok (.newarray .int, 2))
    (kk : ∀ (q : Nat) (H1 : Heap), va_P D CL (ws ++ [(q, .inl (cI, N, .inl (fun _ => 0)))]) H1 → va_D A (ws ++ [(q, .inl (cI, N, .inl (fun _ => 0)))]) → va_S A s.heap H1 locs → W p l e R s m args below meth c H1 locs kc ks Q (F0 m (pc + 2) ls (.ref q :: rest))) : W p l e R s m args below meth c H locs cells slots Q (F0 m pc ls (.int i :: rest)) := by
  obtain ⟨hx, hb, hrr, hml, hown, hlocks, hname, hT, hNW, hK, hA⟩ := C0
  refine va_newa (atype := .int) (ty := .int) (a0 := (N, .inl (fun _ => 0))) hx hb (hT _ hw) rfl hK hP hD hS hA (fun cA => rfl) hn hN hbytes (Nat.le_trans hkc hcR) (Nat.le_trans hks hsR) hdg (fun q cA H1 hK1 hP1 hD1 hS1 => ?_)
  have e1 : s.vm.findClass ("[" ++ FieldType.int.toString) = some cI := (hK.2 t0 _ ht).2
  have e2 : s.vm.findClass ("[" ++ FieldType.int.toString) = some cA := (hK1.2 ty.length (cA, .int) (by simp)).2
  obtain rfl : cI = cA := Option.some.inj (e1.symm.trans e2)
  exact W.widen hkc hks (kk q H1 hP1 hD1 hS1)
theorem newZ (C0 : Ctx p s m args meth c y cc n rt D ty A) (hw : Cond.arrayClass .boolean ∈ WALL) {cI : ClassId} (t0 : Nat) (ht : ty[t0]? = some (cI, .boolean)) (hP : va_P D CL ws H) (hD : va_D A ws) (hS : va_S A s.heap H locs) {i : Int32} {N : Nat} (hn : ¬ i < 0) (hN : i.toNatClampNeg = N) (hbytes : N * 1 ≤ 536870912) (kc ks : Nat) (hkc : cells + 1 ≤ kc) (hks : slots + N ≤ ks) (hcR : kc ≤ R.cells) (hsR : ks ≤ R.slots) (hdg : decode cc pc = .ok (.newarray .boolean, 2))
    (kk : ∀ (q : Nat) (H1 : Heap), va_P D CL (ws ++ [(q, .inl (cI, N, .inl (fun _ => 0)))]) H1 → va_D A (ws ++ [(q, .inl (cI, N, .inl (fun _ => 0)))]) → va_S A s.heap H1 locs → W p l e R s m args below meth c H1 locs kc ks Q (F0 m (pc + 2) ls (.ref q :: rest))) : W p l e R s m args below meth c H locs cells slots Q (F0 m pc ls (.int i :: rest)) := by
  obtain ⟨hx, hb, hrr, hml, hown, hlocks, hname, hT, hNW, hK, hA⟩ := C0
  refine va_newa (atype := .boolean) (ty := .boolean) (a0 := (N, .inl (fun _ => 0))) hx hb (hT _ hw) rfl hK hP hD hS hA (fun cA => rfl) hn hN hbytes (Nat.le_trans hkc hcR) (Nat.le_trans hks hsR) hdg (fun q cA H1 hK1 hP1 hD1 hS1 => ?_)
  have e1 : s.vm.findClass ("[" ++ FieldType.boolean.toString) = some cI := (hK.2 t0 _ ht).2
  have e2 : s.vm.findClass ("[" ++ FieldType.boolean.toString) = some cA := (hK1.2 ty.length (cA, .boolean) (by simp)).2
  obtain rfl : cI = cA := Option.some.inj (e1.symm.trans e2)
  exact W.widen hkc hks (kk q H1 hP1 hD1 hS1)
theorem newT (C0 : Ctx p s m args meth c y cc n rt D ty A) {index : Nat} (hw : Cond.classLink y.cls index "DayKnown$Town" ∈ WALL) {cI : ClassId} (t0 : Nat) (ht : ty[t0]? = some (cI, .object "DayKnown$Town")) (hP : va_P D CL ws H) (hD : va_D A ws) (hS : va_S A s.heap H locs) {i : Int32} {N : Nat} (hn : ¬ i < 0) (hN : i.toNatClampNeg = N) (hbytes : N * 4 ≤ 536870912) (kc ks : Nat) (hkc : cells + 1 ≤ kc) (hks : slots + N ≤ ks) (hcR : kc ≤ R.cells) (hsR : ks ≤ R.slots) (hdg : decode cc pc = .ok (.anewarray index, 3))
    (kk : ∀ (q : Nat) (H1 : Heap), va_P D CL (ws ++ [(q, .inl (cI, N, .inr (.inr (.inr (.inr (fun _ => none))))))]) H1 → va_D A (ws ++ [(q, .inl (cI, N, .inr (.inr (.inr (.inr (fun _ => none))))))]) → va_S A s.heap H1 locs → W p l e R s m args below meth c H1 locs kc ks Q (F0 m (pc + 3) ls (.ref q :: rest))) : W p l e R s m args below meth c H locs cells slots Q (F0 m pc ls (.int i :: rest)) := by
  obtain ⟨hx, hb, hrr, hml, hown, hlocks, hname, hT, hNW, hK, hA⟩ := C0
  refine va_newq hx hb hown (hT _ hw) hNW.2.1 hK hP hD hS hA hn hN hbytes (Nat.le_trans hkc hcR) (Nat.le_trans hks hsR) hdg (fun q cA H1 hK1 hP1 hD1 hS1 => ?_)
  obtain ⟨-, -, -, -, -, e1⟩ := (hK.2 t0 _ ht).2
  obtain ⟨-, -, -, -, -, e2⟩ := (hK1.2 ty.length (cA, .object "DayKnown$Town") (by simp)).2
  obtain rfl : cI = cA := Option.some.inj (e1.symm.trans e2)
  exact W.widen hkc hks (kk q H1 hP1 hD1 hS1)
end CC
/-! facts of statics and String constants, which nobody writes -/
section CF
/-- the String at q, of len signs f, its bytes at t -/
def SO (q t len : Nat) (f : Nat → Int32) : XT := fun A U H => va_O "java/lang/String" q A U H ∧ va_OF "java/lang/String" "coder" "B" (.int 0) q A U H ∧ va_OF "java/lang/String" "value" "[B" (.ref t) q A U H ∧ va_T .byte t len (fun j => .int (f j)) A U H
theorem SO.ok {q t len : Nat} {f : Nat → Int32} : XOK (SO q t len f) :=
  ⟨fun A u U H hW h => ⟨va_O.moved hW.alike h.1, va_OF.moved hW.alike h.2.1, va_OF.moved hW.alike h.2.2.1, va_T.moved hW.alike h.2.2.2⟩,
   fun A U H H1 hq h => ⟨h.1.kept hq, h.2.1.kept hq, h.2.2.1.kept hq, h.2.2.2.kept hq⟩,
   fun A B U H hAB h => ⟨h.1.narrow hAB, h.2.1.narrow hAB, h.2.2.1.narrow hAB, h.2.2.2.narrow hAB⟩⟩
/-- String's switches, as the launch has them -/
def CS : XT := fun A U H => va_Z "java/lang/String" "COMPACT_STRINGS" "Z" (.int 1) A U H ∧ va_Zq "jdk/internal/util/Preconditions" "SIOOBE_FORMATTER" "Ljava/util/function/BiFunction;" A U H
theorem CS.ok : XOK CS :=
  ⟨fun A u U H hW h => ⟨va_Z.moved hW.alike h.1, va_Zq.moved hW.alike h.2⟩, fun A U H H1 hq h => ⟨h.1.kept hq, h.2.kept hq⟩, fun A B U H hAB h => ⟨h.1.narrow hAB, h.2.narrow hAB⟩⟩
/-- the constant of a class's pool -/
def SK (own : String) (k : Nat) (tx : String) (len : Nat) (f : Nat → Int32) : XT := fun A U H => ∃ q t : Nat, vk_R own k tx q U ∧ SO q t len f A U H
theorem SK.ok {own : String} {k : Nat} {tx : String} {len : Nat} {f : Nat → Int32} : XOK (SK own k tx len f) :=
  ⟨fun A u U H hW h => by obtain ⟨q, t, h1, h2⟩ := h; exact ⟨q, t, vk_R.warm hW h1, SO.ok.1 A u U H hW h2⟩,
   fun A U H H1 hq h => by obtain ⟨q, t, h1, h2⟩ := h; exact ⟨q, t, h1, SO.ok.2.1 A U H H1 hq h2⟩,
   fun A B U H hAB h => by obtain ⟨q, t, h1, h2⟩ := h; exact ⟨q, t, h1, SO.ok.2.2 A B U H hAB h2⟩⟩
/-- a static array of ints -/
def ST (C n : String) (len : Nat) (f : Nat → Int32) : XT := fun A U H => ∃ t : Nat, va_Z C n "[I" (.ref t) A U H ∧ va_T .int t len (fun j => .int (f j)) A U H
theorem ST.ok {C n : String} {len : Nat} {f : Nat → Int32} : XOK (ST C n len f) :=
  ⟨fun A u U H hW h => by obtain ⟨t, h1, h2⟩ := h; exact ⟨t, va_Z.moved hW.alike h1, va_T.moved hW.alike h2⟩,
   fun A U H H1 hq h => by obtain ⟨t, h1, h2⟩ := h; exact ⟨t, h1.kept hq, h2.kept hq⟩,
   fun A B U H hAB h => by obtain ⟨t, h1, h2⟩ := h; exact ⟨t, h1.narrow hAB, h2.narrow hAB⟩⟩
def andX (X Y : XT) : XT := fun A U H => X A U H ∧ Y A U H
theorem andX.ok {X Y : XT} (hX : XOK X) (hY : XOK Y) : XOK (andX X Y) :=
  ⟨fun A u U H hW h => ⟨hX.1 A u U H hW h.1, hY.1 A u U H hW h.2⟩, fun A U H H1 hq h => ⟨hX.2.1 A U H H1 hq h.1, hY.2.1 A U H H1 hq h.2⟩, fun A B U H hAB h => ⟨hX.2.2 A B U H hAB h.1, hY.2.2 A B U H hAB h.2⟩⟩
def li (l : List Int32) : Nat → Int32 := fun j => l.getD j 0
def EF : XT := andX CS (andX (ST "DayKnown" "KIND_ABOVE" 7 (li [-1, 0, 0, 0, 2, 3, 3])) (andX (ST "DayKnown$Acts" "BODY" 21 (li [1, 2, 3, 11, 0, 0, 0, 21, 0, 0, 0, 31, 0, 0, 41, 51, 0, 0, 0, 61, 0]))
  (andX (SK "DayKnown$Town" 76 "note" 4 (li [110, 111, 116, 101])) (andX (SK "DayKnown$Town" 78 "harm" 4 (li [104, 97, 114, 109])) (andX (SK "DayKnown$Town" 80 "good" 4 (li [103, 111, 111, 100]))
  (andX (SK "DayKnown$Town" 96 "0123456789" 10 (li [48, 49, 50, 51, 52, 53, 54, 55, 56, 57])) (andX (SK "DayKnown$Town" 114 "hpmnyk" 6 (li [104, 112, 109, 110, 121, 107])) (andX (SK "DayKnown$Town" 116 "<=>" 3 (li [60, 61, 62]))
  (andX (SK "DayKnownModel" 112 "good " 5 (li [103, 111, 111, 100, 32])) (andX (SK "DayKnownModel" 94 "hpmnyk" 6 (li [104, 112, 109, 110, 121, 107])) (andX (SK "DayKnownModel" 100 "<=>" 3 (li [60, 61, 62]))
  (andX (SK "DayKnownModel" 118 "harm " 5 (li [104, 97, 114, 109, 32])) (SK "DayKnownModel" 120 "note " 5 (li [110, 111, 116, 101, 32]))))))))))))))
theorem EF.ok : XOK EF := andX.ok CS.ok (andX.ok ST.ok (andX.ok ST.ok (andX.ok SK.ok (andX.ok SK.ok (andX.ok SK.ok (andX.ok SK.ok (andX.ok SK.ok (andX.ok SK.ok (andX.ok SK.ok (andX.ok SK.ok (andX.ok SK.ok (andX.ok SK.ok SK.ok))))))))))))
variable {p : Program} {l : Launch} {e : Env} {R : Room} {s : State} {m : MethodId} {args : Array Value} {below : List Frame} {meth : Method} {c : Code} {H : Heap} {locs : List Loc} {cells slots : Nat} {Q : State → Prop}
variable {y : MethodName} {cc : ByteArray} {n : Nat} {rt : Option FieldType} {D : va_G} {ty : List (ClassId × FieldType)} {A : Nat → Prop} {pc : Nat} {ls : Array Slot} {rest st0 : List Value} {ws wc wr : va_W}
theorem objI (C0 : Ctx p s m args meth c y cc n rt D ty A) {idx a : Nat} (hlk : Cond.methodLink y.cls idx Lib.objectInit ∈ WALL) (hin : Cond.instanceMethod Lib.objectInit ∈ WALL) (hcode : Cond.code Lib.objectInit ⟨#[0xb1]⟩ 1 none ∈ WALL) (hsize : ls.size = n) (hfr : 1 ≤ R.frames) (hlo : (rest.map fun v => v.category).sum + 12 ≤ R.locals) (hdg : decode cc pc = .ok (.invokespecial idx, 3))
    (k : W p l e R s m args below meth c H locs cells slots Q (F0 m (pc + 3) ls rest)) : W p l e R s m args below meth c H locs cells slots Q (F0 m pc ls (.ref a :: rest)) := by
  obtain ⟨hx, hb, hrr, hml, hown, hlocks, hname, hT, hNW, hK, hA⟩ := C0
  exact W.objInit (g := F0 m pc ls (.ref a :: rest)) hx hb hown (hT _ hlk) (hT _ hin) (hT _ hcode) rfl (by rw [hml]; exact hsize) rfl hdg hfr (by show 2 * 0 + _ + 12 ≤ _; omega) k
end CF
section CM
theorem vin (i : Int32) (n : Nat) (h : decide (¬ (i < 0 ∨ n ≤ i.toNatClampNeg)) = true) : vp_in i n := by
  unfold vp_in
  exact of_decide_eq_true h
theorem ne_toInt {x z : Int32} {k : Int} (h : ¬ x = z) (hk : z.toInt = k) : x.toInt ≠ k := fun e => h (Int32.toInt_inj.mp (e.trans hk.symm))
abbrev TYS (cI cZ cQ cT : ClassId) : List (ClassId × FieldType) := [(cI, .int), (cZ, .boolean), (cQ, .array .int), (cT, .object "DayKnown$Town")]
variable {p : Program} {l : Launch} {e : Env} {R : Room} {s : State} {m : MethodId} {args : Array Value} {below : List Frame} {meth : Method} {c : Code} {H : Heap} {locs : List Loc} {cells slots : Nat} {Q : State → Prop}
variable {y : MethodName} {cc : ByteArray} {n : Nat} {rt : Option FieldType} {D : va_G} {ty : List (ClassId × FieldType)} {A : Nat → Prop} {pc : Nat} {ls : Array Slot} {rest st0 : List Value} {ws wc wr : va_W}
/-- a new int[N][K] whose rows nobody looks at again: the old cells stand -/
theorem newQ (C0 : Ctx p s m args meth c y cc n rt D ty A) {index : Nat} (hw : Cond.classLink y.cls index "[[I" ∈ WALL) (ha : Cond.arrayClass .int ∈ WALL) {cI cQ : ClassId} (t0 t2 : Nat) (ht : ty[t0]? = some (cI, .int)) (ht2 : ty[t2]? = some (cQ, .array .int)) (hP : va_P D CL ws H) (hD : va_D A ws) (hS : va_S A s.heap H locs) {i j : Int32} {N K : Nat} (hn : ¬ i < 0) (hk : ¬ j < 0) (hN : i.toNatClampNeg = N) (hK : j.toNatClampNeg = K) (hb1 : N * 4 ≤ 536870912) (hb2 : K * 4 ≤ 536870912) (hb3 : K ≤ 536870912) (kc ks : Nat) (hkc : cells + (1 + N) ≤ kc) (hks : slots + (N + N * K) ≤ ks) (hcR : kc ≤ R.cells) (hsR : ks ≤ R.slots) (hdg : decode cc pc = .ok (.multianewarray index 2, 4))
    (kk : ∀ (q : Nat) (H1 : Heap), va_P D CL ws H1 → va_D A ws → va_S A s.heap H1 locs → W p l e R s m args below meth c H1 locs kc ks Q (F0 m (pc + 4) ls (.ref q :: rest))) : W p l e R s m args below meth c H locs cells slots Q (F0 m pc ls (.int j :: .int i :: rest)) := by
  obtain ⟨hx, hb, hrr, hml, hown, hlocks, hname, hT, hNW, hKK, hA⟩ := C0
  subst hN
  subst hK
  intro T hTT Xs
  obtain ⟨vm₁, cA, comp, -, fA, fC, hO, -, X', step⟩ := Jvm.Stand.multianewarray2F Xs hx (index := index) (ty := .int) hown (hT _ hw) (va_AOA.use hNW.2.2) (hT _ ha) (g := F0 m pc ls (.int j :: .int i :: rest)) rfl (by rw [hb]; exact hdg) rfl hn hk hb1 hb2 hb3 rfl rfl (Nat.le_trans hkc hcR) (Nat.le_trans hks hsR)
  generalize hF : Jvm.Free.Multi.fill (T.setVm vm₁) cA comp i.toNatClampNeg j.toNatClampNeg (defaultValue .int) i.toNatClampNeg = F at X' step
  have hTh : (T.setVm vm₁).heap = H := hTT
  obtain ⟨f1, -, -, -⟩ := Jvm.Free.Multi.fill_facts (T.setVm vm₁) cA comp i.toNatClampNeg j.toNatClampNeg (defaultValue .int) i.toNatClampNeg
  rw [hF, hTh] at f1
  have hold : ∀ x : Nat, x < H.size → F.heap[x]? = H[x]? := fun x hx => by
    have := Jvm.Free.Multi.fill_old (T.setVm vm₁) cA comp i.toNatClampNeg j.toNatClampNeg (defaultValue .int) (a := x) (by rw [hTh]; exact hx) i.toNatClampNeg
    rw [hF, hTh] at this
    exact this
  obtain ⟨t, a1, b1⟩ := kk H.size F.heap (hP.kept (fun k9 x hx => hold x.1 ((hP k9 x hx).lt))) hD ⟨by rw [f1]; have := hS.1; omega, fun x h1 h2 => (hold x (Nat.lt_of_lt_of_le h1 hS.1)).trans (hS.2.1 x h1 h2), hS.2.2⟩ F rfl (stand_widen X' (by omega) (by omega))
  refine ⟨t, step t ?_, b1⟩
  have e : T.heap.size = H.size := by rw [hTT]
  rw [e]
  exact a1
theorem le_i {a b : Int32} : a ≤ b ↔ a.toInt ≤ b.toInt := Int32.le_iff_toInt_le
theorem lt_i {a b : Int32} : a < b ↔ a.toInt < b.toInt := Int32.lt_iff_toInt_lt
theorem eq_i {a b : Int32} : a = b ↔ a.toInt = b.toInt := Int32.toInt_inj.symm
theorem li_n (k : Nat) (h : k < 2147483648) : (OfNat.ofNat k : Int32).toInt = (k : Int) := by
  rw [← show (nI k) = (OfNat.ofNat k : Int32) from rfl]
  exact nI_toInt h
theorem upd_id {f : Nat → Int32} {k : Nat} {v : Int32} (h : f k = v) : upd f k v = f := by
  funext j
  by_cases e : j = k
  · subst e; rw [pk_us]; exact h.symm
  · rw [pk_un e]
theorem runVX {y' : MethodName} {bytes : ByteArray} {maxL k index : Nat} {ret : Option FieldType} {rm : Room} {Qc : Array Value → State → Outcome → State → Prop} {b : Nat} {As : List Value} {X : XT}
    (C0 : Ctx p s m args meth c y cc n rt D ty A) (hM : Met l y' (.code y' bytes maxL ret :: WALL) rm (va_Pc (.ref b :: As) (wB D ty X H.size wc)) Qc rm.cells rm.slots (va_A wc H.size))
    (hcode : Cond.code y' bytes maxL ret ∈ WALL) (hlk : Cond.methodLink y.cls index y' ∈ WALL) (hin : Cond.instanceMethod y' ∈ WALL) (hse : Cond.selects y'.cls y' y' ∈ WALL) (hini : Cond.initialized y'.cls ∈ WALL)
    (hd : y'.cls ≠ "java/lang/invoke/MethodHandle" ∧ y'.cls ≠ "java/lang/invoke/VarHandle" ∧ (parseMethodDescriptor y'.desc).map (fun d => d.parameters.length) = some k) (hR : rm.frames + 1 ≤ R.frames ∧ 8 + (maxL + 11) + rm.locals ≤ R.locals)
    (hP : va_P D CL ws H) (hD : va_D A ws) (hS : va_S A s.heap H locs) (hX : XOK X) (hXs : X A s s.heap) (isC : List Nat) (hC : isC.map (fun i => ws[i]?) = wc.map some) (hnd : va_nd isC = true)
    (hrec : ∃ cell : Cell, H[b]? = some cell ∧ cell.vm.isStatics = false ∧ s.vm.findClass y'.cls = some cell.cls)
    (hk : As.length = k) (hsize : ls.size = n) (hst : st0 = As.reverse ++ .ref b :: rest) (hW : (rest.map fun v => v.category).sum ≤ 8) (hdg : decode cc pc = .ok (.invokevirtual index, 3)) (hf : cells + rm.cells ≤ R.cells ∧ slots + rm.slots ≤ R.slots) :
    va_Run p l e R s m args below meth c H locs cells slots rm.cells rm.slots (F0 m pc ls st0) rest (Qc (Value.ref b :: As).toArray) (va_A wc H.size) := by
  have hpre := pre_of C0 hP hD hS hX hXs isC hC hnd
  obtain ⟨hx, hb, hr, hml, hown, hlocks, hname, hT, hN, hK, hA⟩ := C0
  have hG : GoodIn WALL (wsV y.cls index y'.cls y' (.code y' bytes maxL ret :: WALL)) := by
    intro w hw
    rcases List.mem_append.mp hw with hw | hw
    · have hw : w ∈ WALL := by
        simp only [List.mem_cons, List.not_mem_nil, or_false] at hw
        rcases hw with rfl | rfl | rfl | rfl <;> assumption
      exact ⟨hw, good_of_word (List.mem_filter.mp hw).2⟩
    · exact wall_in hcode w hw
  exact va_runV (As := As) (rest := rest) (C := y'.cls) ⟨hx, hb, hml, hown, hT⟩ hM (cwV k hT hG rfl rfl rfl ⟨rfl, hd⟩ hR) ⟨wB.blind hX _, hrec, fun U hU hW => ⟨rfl, hpre U hU hW⟩⟩ rfl hk hsize hst (lv_room hW) hdg hf
theorem SO.recv {q t len : Nat} {f : Nat → Int32} (h : SO q t len f A s s.heap) (hS : va_S A s.heap H locs) : ∃ cell : Cell, H[q]? = some cell ∧ cell.vm.isStatics = false ∧ s.vm.findClass yJ0_length_8abf5.cls = some cell.cls := by
  obtain ⟨cell, h1, h2, h3, -⟩ := h.1.kept hS.2.1
  exact ⟨cell, h1, h2, h3⟩
theorem shr0 (x : Int32) : x >>> ((0 : Int32) &&& 31) = x := by
  have h : ((0 : Int32) &&& 31) = 0 := by decide +kernel
  rw [h]
  simp
theorem lt_of_in {i : Int32} {n : Nat} (hi : vp_in i n) (hn : n < 2 ^ 31) : i < nI n := by
  obtain ⟨j, h1, h2⟩ := vp_in_of hi hn
  rw [h2]
  exact nI_lt h1 hn
end CM
