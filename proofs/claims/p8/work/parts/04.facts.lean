/-! facts of statics and String constants, which nobody writes -/
section CF
/-- the String at q, of len signs f, its bytes at t -/
def SO (q t len : Nat) (f : Nat → Int32) : XT := fun A U H => va_O "java/lang/String" q A U H ∧ va_OF "java/lang/String" "coder" "B" (.int 0) q A U H ∧ va_OF "java/lang/String" "value" "[B" (.ref t) q A U H ∧ va_T .byte t len (fun j => .int (f j)) A U H
theorem SO.ok {q t len : Nat} {f : Nat → Int32} : XOK (SO q t len f) :=
  ⟨fun A u U H hW h => ⟨va_O.moved hW.alike h.1, va_OF.moved hW.alike h.2.1, va_OF.moved hW.alike h.2.2.1, va_T.moved hW.alike h.2.2.2⟩,
   fun A U H H1 hq h => ⟨h.1.kept hq, h.2.1.kept hq, h.2.2.1.kept hq, h.2.2.2.kept hq⟩,
   fun A B U H hAB h => ⟨h.1.narrow hAB, h.2.1.narrow hAB, h.2.2.1.narrow hAB, h.2.2.2.narrow hAB⟩⟩
/-- String's switches, as the launch has them -/
def CS : XT := fun A U H => va_Z "java/lang/String" "COMPACT_STRINGS" "Z" (.int 1) A U H ∧ va_Zq "jdk/internal/util/Preconditions" "SIOOBE_FORMATTER" "Ljava/util/function/BiFunction;" A U H
theorem CS.ok : XOK CS :=
  ⟨fun A u U H hW h => ⟨va_Z.moved hW.alike h.1, va_Zq.moved hW.alike h.2⟩, fun A U H H1 hq h => ⟨h.1.kept hq, h.2.kept hq⟩, fun A B U H hAB h => ⟨h.1.narrow hAB, h.2.narrow hAB⟩⟩
/-- the constant of a class's pool -/
def SK (own : String) (k : Nat) (tx : String) (len : Nat) (f : Nat → Int32) : XT := fun A U H => ∃ q t : Nat, vk_R own k tx q U ∧ SO q t len f A U H
theorem SK.ok {own : String} {k : Nat} {tx : String} {len : Nat} {f : Nat → Int32} : XOK (SK own k tx len f) :=
  ⟨fun A u U H hW h => by obtain ⟨q, t, h1, h2⟩ := h; exact ⟨q, t, vk_R.warm hW h1, SO.ok.1 A u U H hW h2⟩,
   fun A U H H1 hq h => by obtain ⟨q, t, h1, h2⟩ := h; exact ⟨q, t, h1, SO.ok.2.1 A U H H1 hq h2⟩,
   fun A B U H hAB h => by obtain ⟨q, t, h1, h2⟩ := h; exact ⟨q, t, h1, SO.ok.2.2 A B U H hAB h2⟩⟩
/-- a static array of ints -/
def ST (C n : String) (len : Nat) (f : Nat → Int32) : XT := fun A U H => ∃ t : Nat, va_Z C n "[I" (.ref t) A U H ∧ va_T .int t len (fun j => .int (f j)) A U H
theorem ST.ok {C n : String} {len : Nat} {f : Nat → Int32} : XOK (ST C n len f) :=
  ⟨fun A u U H hW h => by obtain ⟨t, h1, h2⟩ := h; exact ⟨t, va_Z.moved hW.alike h1, va_T.moved hW.alike h2⟩,
   fun A U H H1 hq h => by obtain ⟨t, h1, h2⟩ := h; exact ⟨t, h1.kept hq, h2.kept hq⟩,
   fun A B U H hAB h => by obtain ⟨t, h1, h2⟩ := h; exact ⟨t, h1.narrow hAB, h2.narrow hAB⟩⟩
def andX (X Y : XT) : XT := fun A U H => X A U H ∧ Y A U H
theorem andX.ok {X Y : XT} (hX : XOK X) (hY : XOK Y) : XOK (andX X Y) :=
  ⟨fun A u U H hW h => ⟨hX.1 A u U H hW h.1, hY.1 A u U H hW h.2⟩, fun A U H H1 hq h => ⟨hX.2.1 A U H H1 hq h.1, hY.2.1 A U H H1 hq h.2⟩, fun A B U H hAB h => ⟨hX.2.2 A B U H hAB h.1, hY.2.2 A B U H hAB h.2⟩⟩
def li (l : List Int32) : Nat → Int32 := fun j => l.getD j 0
def EF : XT := andX CS (andX (ST "DayKnown" "KIND_ABOVE" 7 (li [-1, 0, 0, 0, 2, 3, 3])) (andX (ST "DayKnown$Acts" "BODY" 21 (li [1, 2, 3, 11, 0, 0, 0, 21, 0, 0, 0, 31, 0, 0, 41, 51, 0, 0, 0, 61, 0]))
  (andX (SK "DayKnown$Town" 76 "note" 4 (li [110, 111, 116, 101])) (andX (SK "DayKnown$Town" 78 "harm" 4 (li [104, 97, 114, 109])) (andX (SK "DayKnown$Town" 80 "good" 4 (li [103, 111, 111, 100]))
  (andX (SK "DayKnown$Town" 96 "0123456789" 10 (li [48, 49, 50, 51, 52, 53, 54, 55, 56, 57])) (andX (SK "DayKnown$Town" 114 "hpmnyk" 6 (li [104, 112, 109, 110, 121, 107])) (andX (SK "DayKnown$Town" 116 "<=>" 3 (li [60, 61, 62]))
  (andX (SK "DayKnownModel" 112 "good " 5 (li [103, 111, 111, 100, 32])) (andX (SK "DayKnownModel" 94 "hpmnyk" 6 (li [104, 112, 109, 110, 121, 107])) (andX (SK "DayKnownModel" 100 "<=>" 3 (li [60, 61, 62]))
  (andX (SK "DayKnownModel" 118 "harm " 5 (li [104, 97, 114, 109, 32])) (SK "DayKnownModel" 120 "note " 5 (li [110, 111, 116, 101, 32]))))))))))))))
theorem EF.ok : XOK EF := andX.ok CS.ok (andX.ok ST.ok (andX.ok ST.ok (andX.ok SK.ok (andX.ok SK.ok (andX.ok SK.ok (andX.ok SK.ok (andX.ok SK.ok (andX.ok SK.ok (andX.ok SK.ok (andX.ok SK.ok (andX.ok SK.ok (andX.ok SK.ok SK.ok))))))))))))
variable {p : Program} {l : Launch} {e : Env} {R : Room} {s : State} {m : MethodId} {args : Array Value} {below : List Frame} {meth : Method} {c : Code} {H : Heap} {locs : List Loc} {cells slots : Nat} {Q : State → Prop}
variable {y : MethodName} {cc : ByteArray} {n : Nat} {rt : Option FieldType} {D : va_G} {ty : List (ClassId × FieldType)} {A : Nat → Prop} {pc : Nat} {ls : Array Slot} {rest st0 : List Value} {ws wc wr : va_W}
theorem objI (C0 : Ctx p s m args meth c y cc n rt D ty A) {idx a : Nat} (hlk : Cond.methodLink y.cls idx Lib.objectInit ∈ WALL) (hin : Cond.instanceMethod Lib.objectInit ∈ WALL) (hcode : Cond.code Lib.objectInit ⟨#[0xb1]⟩ 1 none ∈ WALL) (hsize : ls.size = n) (hfr : 1 ≤ R.frames) (hlo : (rest.map fun v => v.category).sum + 12 ≤ R.locals) (hdg : decode cc pc = .ok (.invokespecial idx, 3))
    (k : W p l e R s m args below meth c H locs cells slots Q (F0 m (pc + 3) ls rest)) : W p l e R s m args below meth c H locs cells slots Q (F0 m pc ls (.ref a :: rest)) := by
  obtain ⟨hx, hb, hrr, hml, hown, hlocks, hname, hT, hNW, hK, hA⟩ := C0
  exact W.objInit (g := F0 m pc ls (.ref a :: rest)) hx hb hown (hT _ hlk) (hT _ hin) (hT _ hcode) rfl (by rw [hml]; exact hsize) rfl hdg hfr (by show 2 * 0 + _ + 12 ≤ _; omega) k
end CF
