/-! THE CLAIM OUT OF ONE WALK OF THE LAW'S BODY. Your part is whole_start (and what it stands on); all else here is the same for every law, but numbers. -/
def R_law : String := "DayKnownLaw"
def lw_P (b : Addr) (xs : List Int32) (args : Array Value) (s : State) : Prop := args = #[.ref b] ∧ s.IntsAt b xs ∧ xs.length ≤ 2560 ∧ (Jvm.Cond.and given_1 narrow_1).before args s = true
def lw_Q (_ : Array Value) (s : State) (o : Outcome) (t : State) : Prop := o = .returned (some (.int 1)) ∧ Framed s o t [] 600000 7302250
def lw_Z (below : List Frame) (a : Array Value) (s : State) : State → Prop := fun t => ∃ o, t.status = .running ∧ Ended t below o ∧ lw_Q a s o t
/-- the law's own end, with 1 on the stack, nothing written that was there before, its room as the claim has it -/
theorem lw_ret {p : Program} {l : Launch} {e : Env} {s : State} {m : MethodId} {below : List Frame} {meth : Method} {c : Code} {b : Nat} (hx : p.tables.exec = Jvm.exec) (hb : c.code = code) (hr : meth.sig.returnType = ret) (hlocks : meth.locks = false) {pc : Nat} {H : Heap} {ls : Array Slot} (hdg : decode code pc = .ok (.ireturn, 1)) : W p l e room_1 s m #[Value.ref b] below meth c H [] 600000 7302250 (lw_Z below #[Value.ref b] s) (F0 m pc ls [.int 1]) := by
  intro T hT X
  obtain ⟨fs, hret, hrun, hended, hW, hframe⟩ := X.leave (v := some (.int 1)) (hlocks := hlocks) (fun h => by rw [hr] at h; cases h)
  have hmeth' : T.vm.method? m = some meth := X.method'
  refine ⟨T.setFrames fs, ?_, .returned (some (.int 1)), hrun, hended, rfl, ⟨_, rfl⟩, hW, hframe⟩
  jvm_step X.here [X.here.top, hx, hb, hdg, hmeth', hr, ret, narrow_b1]
  (try refine ⟨rfl, ?_⟩); (try refine ⟨rfl, ?_⟩)
  first | (intro acts; rw [hret _ acts rfl rfl rfl]) | rw [hret _ _ rfl rfl rfl]
  exact Steps.refl _
/-- what holds at the law's entry: the machine, the code, the tables' words (any of lw_tbl by 'hts w (by decide +kernel)'), the script of L ints xs at the cell b, what the Statement gives of the start (any of its parts by flat_of_before) -/
def lw_At (p : Program) (s : State) (m : MethodId) (meth : Method) (c : Code) (b L : Nat) (xs : Nat → Int32) : Prop :=
  p.tables.exec = Jvm.exec ∧ c.code = code ∧ meth.sig.returnType = ret ∧ c.maxLocals = 4 ∧ s.vm.findClass R_law = some m.cls ∧ (∀ w ∈ lw_tbl, w.before #[Value.ref b] s = true) ∧ va_X b L xs s s.heap ∧ b < s.heap.size ∧ meth.locks = false ∧ (Jvm.Cond.and given_1 narrow_1).before #[Value.ref b] s = true
section CEN
theorem nestOn {w : Cond} (h : isNest w = true) : w.onTables = true := by
  cases w <;> first | rfl | (simp [isNest] at h; done)
theorem sk_of {args : Array Value} {s : State} {A : Nat → Prop} {own : String} {k : Nat} {tx : String} {len : Nat} {bytes : List Int32} (hA : ∀ a : Nat, a < s.heap.size → ¬ A a) (hl : len < 2 ^ 31) (h1 : (Cond.stringRef own k tx).before args s = true) (hex : (Cond.exactly (.string own k) "java/lang/String").before args s = true)
    (hco : (Cond.eq (.field (.string own k) "java/lang/String" "coder" "B") (.int 0)).before args s = true) (har : (Cond.arrayOf (.field (.string own k) "java/lang/String" "value" "[B") .byte).before args s = true) (hle : (Cond.eq (.length (.field (.string own k) "java/lang/String" "value" "[B")) (.int (Int32.ofNat len))).before args s = true)
    (hel : ∀ j : Nat, j < len → (Cond.eq (.elem (.field (.string own k) "java/lang/String" "value" "[B") (.int (Int32.ofNat j))) (.int (bytes.getD j 0))).before args s = true) : SK own k tx len (li bytes) A s s.heap := by
  obtain ⟨adK, adV, hS, hE⟩ := vk_Sof (N := 1) (tm := fun _ => .string own k) (len := [len]) (byt := [bytes]) (A := A) (fun i hi => by rw [show i = 0 by omega]; exact hl) (fun i _ => hex) (fun i _ => hco) (fun i _ => har) (fun i hi => by rw [show i = 0 by omega]; exact hle) (fun i hi j hj => by rw [show i = 0 by omega] at hj ⊢; exact hel j hj) (fun i j hi hj h => absurd (show i = j by omega) h) hA
  obtain ⟨h2, h3, h4, h5⟩ := hS.1 0 (by omega)
  exact ⟨adK 0, adV 0, vk_R.of (by exact h1) (hE 0 (by omega)), h2, h3, h4, h5⟩
theorem arr_prim {s : State} {ty : FieldType} {args : Array Value} (hp : ∀ C, ty ≠ .object C) (h : (Cond.arrayClass ty).before args s = true) : ∃ c : ClassId, ArrOfT s c ty ∧ s.vm.findClass ("[" ++ ty.toString) = some c := by
  obtain ⟨c, k, comp, h1, h2, h3⟩ := Cond.arrayClass_spec h
  exact ⟨c, fun n z => ⟨fun q hq => (by cases hq), k, h2, comp, h3⟩, h1⟩
theorem arr_arr {s : State} {t : FieldType} {args : Array Value} (h : (Cond.arrayOver (.array t)).before args s = true) : ∃ c : ClassId, ArrOfT s c (.array t) ∧ s.vm.findClass ("[" ++ (FieldType.array t).toString) = some c := by
  obtain ⟨comp, c, k, -, -, h3, h4, h5⟩ := Jvm.Stand.arrayOver_specB h
  exact ⟨c, fun n z => ⟨fun q hq => (by cases hq), k, h3, comp, h4⟩, h5⟩
theorem arr_obj {s : State} {C : String} {args : Array Value} (h : (Cond.arrayOver (.object C)).before args s = true) : ∃ c : ClassId, ArrOfT s c (.object C) ∧ va_RA s c (.object C) := by
  obtain ⟨comp, c, k, h1, -, h3, h4, h5⟩ := Cond.arrayOver_spec h
  exact ⟨c, fun n z => ⟨fun q hq => (by cases hq), k, h3, comp, h4⟩, k, comp, h3, h4, h1, h5⟩
set_option maxHeartbeats 4000000 in
set_option maxRecDepth 100000 in
theorem law_facts {s : State} {args : Array Value} (hts : ∀ w ∈ lw_tbl, w.before args s = true) (hg : (Jvm.Cond.and given_1 narrow_1).before args s = true) : EF (fun q => s.heap.size ≤ q) s s.heap := by
  have hf := flat_of_before _ hg
  have hA : ∀ a : Nat, a < s.heap.size → ¬ (fun q => s.heap.size ≤ q) a := fun a h => Nat.not_le.mpr h
  have hKIND_ABOVE : ST "DayKnown" "KIND_ABOVE" 7 (li [-1, 0, 0, 0, 2, 3, 3]) (fun q => s.heap.size ≤ q) s s.heap := by
    obtain ⟨t, ht, hT⟩ := va_Tof (tm := .static "DayKnown" "KIND_ABOVE" "[I") (ty := .int) (N := 7) (f := fun j => .int (li [-1, 0, 0, 0, 2, 3, 3] j)) (A := fun q => s.heap.size ≤ q) (by decide) (hf (.arrayOf (.static "DayKnown" "KIND_ABOVE" "[I") .int) (by decide +kernel)) (va_eqt (hf (.eq (.length (.static "DayKnown" "KIND_ABOVE" "[I")) (.int 7)) (by decide +kernel))) (fun j hj => by
      rcases (show j = 0 ∨ j = 1 ∨ j = 2 ∨ j = 3 ∨ j = 4 ∨ j = 5 ∨ j = 6 by omega) with rfl | rfl | rfl | rfl | rfl | rfl | rfl
      · exact va_eqt (hf (.eq (.elem (.static "DayKnown" "KIND_ABOVE" "[I") (.int 0)) (.int (-1))) (by decide +kernel))
      · exact va_eqt (hf (.eq (.elem (.static "DayKnown" "KIND_ABOVE" "[I") (.int 1)) (.int 0)) (by decide +kernel))
      · exact va_eqt (hf (.eq (.elem (.static "DayKnown" "KIND_ABOVE" "[I") (.int 2)) (.int 0)) (by decide +kernel))
      · exact va_eqt (hf (.eq (.elem (.static "DayKnown" "KIND_ABOVE" "[I") (.int 3)) (.int 0)) (by decide +kernel))
      · exact va_eqt (hf (.eq (.elem (.static "DayKnown" "KIND_ABOVE" "[I") (.int 4)) (.int 2)) (by decide +kernel))
      · exact va_eqt (hf (.eq (.elem (.static "DayKnown" "KIND_ABOVE" "[I") (.int 5)) (.int 3)) (by decide +kernel))
      · exact va_eqt (hf (.eq (.elem (.static "DayKnown" "KIND_ABOVE" "[I") (.int 6)) (.int 3)) (by decide +kernel))) hA
    exact ⟨t, va_Zref (hts (.laysStatic "DayKnown" "KIND_ABOVE" "[I") (by decide +kernel)) (hts (.initialized "DayKnown") (by decide +kernel)) ht hA, hT⟩
  have hBODY : ST "DayKnown$Acts" "BODY" 21 (li [1, 2, 3, 11, 0, 0, 0, 21, 0, 0, 0, 31, 0, 0, 41, 51, 0, 0, 0, 61, 0]) (fun q => s.heap.size ≤ q) s s.heap := by
    obtain ⟨t, ht, hT⟩ := va_Tof (tm := .static "DayKnown$Acts" "BODY" "[I") (ty := .int) (N := 21) (f := fun j => .int (li [1, 2, 3, 11, 0, 0, 0, 21, 0, 0, 0, 31, 0, 0, 41, 51, 0, 0, 0, 61, 0] j)) (A := fun q => s.heap.size ≤ q) (by decide) (hf (.arrayOf (.static "DayKnown$Acts" "BODY" "[I") .int) (by decide +kernel)) (va_eqt (hf (.eq (.length (.static "DayKnown$Acts" "BODY" "[I")) (.int 21)) (by decide +kernel))) (fun j hj => by
      rcases (show j = 0 ∨ j = 1 ∨ j = 2 ∨ j = 3 ∨ j = 4 ∨ j = 5 ∨ j = 6 ∨ j = 7 ∨ j = 8 ∨ j = 9 ∨ j = 10 ∨ j = 11 ∨ j = 12 ∨ j = 13 ∨ j = 14 ∨ j = 15 ∨ j = 16 ∨ j = 17 ∨ j = 18 ∨ j = 19 ∨ j = 20 by omega) with rfl | rfl | rfl | rfl | rfl | rfl | rfl | rfl | rfl | rfl | rfl | rfl | rfl | rfl | rfl | rfl | rfl | rfl | rfl | rfl | rfl
      · exact va_eqt (hf (.eq (.elem (.static "DayKnown$Acts" "BODY" "[I") (.int 0)) (.int 1)) (by decide +kernel))
      · exact va_eqt (hf (.eq (.elem (.static "DayKnown$Acts" "BODY" "[I") (.int 1)) (.int 2)) (by decide +kernel))
      · exact va_eqt (hf (.eq (.elem (.static "DayKnown$Acts" "BODY" "[I") (.int 2)) (.int 3)) (by decide +kernel))
      · exact va_eqt (hf (.eq (.elem (.static "DayKnown$Acts" "BODY" "[I") (.int 3)) (.int 11)) (by decide +kernel))
      · exact va_eqt (hf (.eq (.elem (.static "DayKnown$Acts" "BODY" "[I") (.int 4)) (.int 0)) (by decide +kernel))
      · exact va_eqt (hf (.eq (.elem (.static "DayKnown$Acts" "BODY" "[I") (.int 5)) (.int 0)) (by decide +kernel))
      · exact va_eqt (hf (.eq (.elem (.static "DayKnown$Acts" "BODY" "[I") (.int 6)) (.int 0)) (by decide +kernel))
      · exact va_eqt (hf (.eq (.elem (.static "DayKnown$Acts" "BODY" "[I") (.int 7)) (.int 21)) (by decide +kernel))
      · exact va_eqt (hf (.eq (.elem (.static "DayKnown$Acts" "BODY" "[I") (.int 8)) (.int 0)) (by decide +kernel))
      · exact va_eqt (hf (.eq (.elem (.static "DayKnown$Acts" "BODY" "[I") (.int 9)) (.int 0)) (by decide +kernel))
      · exact va_eqt (hf (.eq (.elem (.static "DayKnown$Acts" "BODY" "[I") (.int 10)) (.int 0)) (by decide +kernel))
      · exact va_eqt (hf (.eq (.elem (.static "DayKnown$Acts" "BODY" "[I") (.int 11)) (.int 31)) (by decide +kernel))
      · exact va_eqt (hf (.eq (.elem (.static "DayKnown$Acts" "BODY" "[I") (.int 12)) (.int 0)) (by decide +kernel))
      · exact va_eqt (hf (.eq (.elem (.static "DayKnown$Acts" "BODY" "[I") (.int 13)) (.int 0)) (by decide +kernel))
      · exact va_eqt (hf (.eq (.elem (.static "DayKnown$Acts" "BODY" "[I") (.int 14)) (.int 41)) (by decide +kernel))
      · exact va_eqt (hf (.eq (.elem (.static "DayKnown$Acts" "BODY" "[I") (.int 15)) (.int 51)) (by decide +kernel))
      · exact va_eqt (hf (.eq (.elem (.static "DayKnown$Acts" "BODY" "[I") (.int 16)) (.int 0)) (by decide +kernel))
      · exact va_eqt (hf (.eq (.elem (.static "DayKnown$Acts" "BODY" "[I") (.int 17)) (.int 0)) (by decide +kernel))
      · exact va_eqt (hf (.eq (.elem (.static "DayKnown$Acts" "BODY" "[I") (.int 18)) (.int 0)) (by decide +kernel))
      · exact va_eqt (hf (.eq (.elem (.static "DayKnown$Acts" "BODY" "[I") (.int 19)) (.int 61)) (by decide +kernel))
      · exact va_eqt (hf (.eq (.elem (.static "DayKnown$Acts" "BODY" "[I") (.int 20)) (.int 0)) (by decide +kernel))) hA
    exact ⟨t, va_Zref (hts (.laysStatic "DayKnown$Acts" "BODY" "[I") (by decide +kernel)) (hts (.initialized "DayKnown$Acts") (by decide +kernel)) ht hA, hT⟩
  have hs0 : SK "DayKnown$Town" 76 "note" 4 (li [110, 111, 116, 101]) (fun q => s.heap.size ≤ q) s s.heap := sk_of hA (by decide) (hts (.stringRef "DayKnown$Town" 76 "note") (by decide +kernel)) (hf (.exactly (.string "DayKnown$Town" 76) "java/lang/String") (by decide +kernel)) (hf (.eq (.field (.string "DayKnown$Town" 76) "java/lang/String" "coder" "B") (.int 0)) (by decide +kernel)) (hf (.arrayOf (.field (.string "DayKnown$Town" 76) "java/lang/String" "value" "[B") .byte) (by decide +kernel)) (hf (.eq (.length (.field (.string "DayKnown$Town" 76) "java/lang/String" "value" "[B")) (.int 4)) (by decide +kernel)) (fun j hj => by
      rcases (show j = 0 ∨ j = 1 ∨ j = 2 ∨ j = 3 by omega) with rfl | rfl | rfl | rfl
      · exact hf (.eq (.elem (.field (.string "DayKnown$Town" 76) "java/lang/String" "value" "[B") (.int 0)) (.int 110)) (by decide +kernel)
      · exact hf (.eq (.elem (.field (.string "DayKnown$Town" 76) "java/lang/String" "value" "[B") (.int 1)) (.int 111)) (by decide +kernel)
      · exact hf (.eq (.elem (.field (.string "DayKnown$Town" 76) "java/lang/String" "value" "[B") (.int 2)) (.int 116)) (by decide +kernel)
      · exact hf (.eq (.elem (.field (.string "DayKnown$Town" 76) "java/lang/String" "value" "[B") (.int 3)) (.int 101)) (by decide +kernel))
  have hs1 : SK "DayKnown$Town" 78 "harm" 4 (li [104, 97, 114, 109]) (fun q => s.heap.size ≤ q) s s.heap := sk_of hA (by decide) (hts (.stringRef "DayKnown$Town" 78 "harm") (by decide +kernel)) (hf (.exactly (.string "DayKnown$Town" 78) "java/lang/String") (by decide +kernel)) (hf (.eq (.field (.string "DayKnown$Town" 78) "java/lang/String" "coder" "B") (.int 0)) (by decide +kernel)) (hf (.arrayOf (.field (.string "DayKnown$Town" 78) "java/lang/String" "value" "[B") .byte) (by decide +kernel)) (hf (.eq (.length (.field (.string "DayKnown$Town" 78) "java/lang/String" "value" "[B")) (.int 4)) (by decide +kernel)) (fun j hj => by
      rcases (show j = 0 ∨ j = 1 ∨ j = 2 ∨ j = 3 by omega) with rfl | rfl | rfl | rfl
      · exact hf (.eq (.elem (.field (.string "DayKnown$Town" 78) "java/lang/String" "value" "[B") (.int 0)) (.int 104)) (by decide +kernel)
      · exact hf (.eq (.elem (.field (.string "DayKnown$Town" 78) "java/lang/String" "value" "[B") (.int 1)) (.int 97)) (by decide +kernel)
      · exact hf (.eq (.elem (.field (.string "DayKnown$Town" 78) "java/lang/String" "value" "[B") (.int 2)) (.int 114)) (by decide +kernel)
      · exact hf (.eq (.elem (.field (.string "DayKnown$Town" 78) "java/lang/String" "value" "[B") (.int 3)) (.int 109)) (by decide +kernel))
  have hs2 : SK "DayKnown$Town" 80 "good" 4 (li [103, 111, 111, 100]) (fun q => s.heap.size ≤ q) s s.heap := sk_of hA (by decide) (hts (.stringRef "DayKnown$Town" 80 "good") (by decide +kernel)) (hf (.exactly (.string "DayKnown$Town" 80) "java/lang/String") (by decide +kernel)) (hf (.eq (.field (.string "DayKnown$Town" 80) "java/lang/String" "coder" "B") (.int 0)) (by decide +kernel)) (hf (.arrayOf (.field (.string "DayKnown$Town" 80) "java/lang/String" "value" "[B") .byte) (by decide +kernel)) (hf (.eq (.length (.field (.string "DayKnown$Town" 80) "java/lang/String" "value" "[B")) (.int 4)) (by decide +kernel)) (fun j hj => by
      rcases (show j = 0 ∨ j = 1 ∨ j = 2 ∨ j = 3 by omega) with rfl | rfl | rfl | rfl
      · exact hf (.eq (.elem (.field (.string "DayKnown$Town" 80) "java/lang/String" "value" "[B") (.int 0)) (.int 103)) (by decide +kernel)
      · exact hf (.eq (.elem (.field (.string "DayKnown$Town" 80) "java/lang/String" "value" "[B") (.int 1)) (.int 111)) (by decide +kernel)
      · exact hf (.eq (.elem (.field (.string "DayKnown$Town" 80) "java/lang/String" "value" "[B") (.int 2)) (.int 111)) (by decide +kernel)
      · exact hf (.eq (.elem (.field (.string "DayKnown$Town" 80) "java/lang/String" "value" "[B") (.int 3)) (.int 100)) (by decide +kernel))
  have hs3 : SK "DayKnown$Town" 96 "0123456789" 10 (li [48, 49, 50, 51, 52, 53, 54, 55, 56, 57]) (fun q => s.heap.size ≤ q) s s.heap := sk_of hA (by decide) (hts (.stringRef "DayKnown$Town" 96 "0123456789") (by decide +kernel)) (hf (.exactly (.string "DayKnown$Town" 96) "java/lang/String") (by decide +kernel)) (hf (.eq (.field (.string "DayKnown$Town" 96) "java/lang/String" "coder" "B") (.int 0)) (by decide +kernel)) (hf (.arrayOf (.field (.string "DayKnown$Town" 96) "java/lang/String" "value" "[B") .byte) (by decide +kernel)) (hf (.eq (.length (.field (.string "DayKnown$Town" 96) "java/lang/String" "value" "[B")) (.int 10)) (by decide +kernel)) (fun j hj => by
      rcases (show j = 0 ∨ j = 1 ∨ j = 2 ∨ j = 3 ∨ j = 4 ∨ j = 5 ∨ j = 6 ∨ j = 7 ∨ j = 8 ∨ j = 9 by omega) with rfl | rfl | rfl | rfl | rfl | rfl | rfl | rfl | rfl | rfl
      · exact hf (.eq (.elem (.field (.string "DayKnown$Town" 96) "java/lang/String" "value" "[B") (.int 0)) (.int 48)) (by decide +kernel)
      · exact hf (.eq (.elem (.field (.string "DayKnown$Town" 96) "java/lang/String" "value" "[B") (.int 1)) (.int 49)) (by decide +kernel)
      · exact hf (.eq (.elem (.field (.string "DayKnown$Town" 96) "java/lang/String" "value" "[B") (.int 2)) (.int 50)) (by decide +kernel)
      · exact hf (.eq (.elem (.field (.string "DayKnown$Town" 96) "java/lang/String" "value" "[B") (.int 3)) (.int 51)) (by decide +kernel)
      · exact hf (.eq (.elem (.field (.string "DayKnown$Town" 96) "java/lang/String" "value" "[B") (.int 4)) (.int 52)) (by decide +kernel)
      · exact hf (.eq (.elem (.field (.string "DayKnown$Town" 96) "java/lang/String" "value" "[B") (.int 5)) (.int 53)) (by decide +kernel)
      · exact hf (.eq (.elem (.field (.string "DayKnown$Town" 96) "java/lang/String" "value" "[B") (.int 6)) (.int 54)) (by decide +kernel)
      · exact hf (.eq (.elem (.field (.string "DayKnown$Town" 96) "java/lang/String" "value" "[B") (.int 7)) (.int 55)) (by decide +kernel)
      · exact hf (.eq (.elem (.field (.string "DayKnown$Town" 96) "java/lang/String" "value" "[B") (.int 8)) (.int 56)) (by decide +kernel)
      · exact hf (.eq (.elem (.field (.string "DayKnown$Town" 96) "java/lang/String" "value" "[B") (.int 9)) (.int 57)) (by decide +kernel))
  have hs4 : SK "DayKnown$Town" 114 "hpmnyk" 6 (li [104, 112, 109, 110, 121, 107]) (fun q => s.heap.size ≤ q) s s.heap := sk_of hA (by decide) (hts (.stringRef "DayKnown$Town" 114 "hpmnyk") (by decide +kernel)) (hf (.exactly (.string "DayKnown$Town" 114) "java/lang/String") (by decide +kernel)) (hf (.eq (.field (.string "DayKnown$Town" 114) "java/lang/String" "coder" "B") (.int 0)) (by decide +kernel)) (hf (.arrayOf (.field (.string "DayKnown$Town" 114) "java/lang/String" "value" "[B") .byte) (by decide +kernel)) (hf (.eq (.length (.field (.string "DayKnown$Town" 114) "java/lang/String" "value" "[B")) (.int 6)) (by decide +kernel)) (fun j hj => by
      rcases (show j = 0 ∨ j = 1 ∨ j = 2 ∨ j = 3 ∨ j = 4 ∨ j = 5 by omega) with rfl | rfl | rfl | rfl | rfl | rfl
      · exact hf (.eq (.elem (.field (.string "DayKnown$Town" 114) "java/lang/String" "value" "[B") (.int 0)) (.int 104)) (by decide +kernel)
      · exact hf (.eq (.elem (.field (.string "DayKnown$Town" 114) "java/lang/String" "value" "[B") (.int 1)) (.int 112)) (by decide +kernel)
      · exact hf (.eq (.elem (.field (.string "DayKnown$Town" 114) "java/lang/String" "value" "[B") (.int 2)) (.int 109)) (by decide +kernel)
      · exact hf (.eq (.elem (.field (.string "DayKnown$Town" 114) "java/lang/String" "value" "[B") (.int 3)) (.int 110)) (by decide +kernel)
      · exact hf (.eq (.elem (.field (.string "DayKnown$Town" 114) "java/lang/String" "value" "[B") (.int 4)) (.int 121)) (by decide +kernel)
      · exact hf (.eq (.elem (.field (.string "DayKnown$Town" 114) "java/lang/String" "value" "[B") (.int 5)) (.int 107)) (by decide +kernel))
  have hs5 : SK "DayKnown$Town" 116 "<=>" 3 (li [60, 61, 62]) (fun q => s.heap.size ≤ q) s s.heap := sk_of hA (by decide) (hts (.stringRef "DayKnown$Town" 116 "<=>") (by decide +kernel)) (hf (.exactly (.string "DayKnown$Town" 116) "java/lang/String") (by decide +kernel)) (hf (.eq (.field (.string "DayKnown$Town" 116) "java/lang/String" "coder" "B") (.int 0)) (by decide +kernel)) (hf (.arrayOf (.field (.string "DayKnown$Town" 116) "java/lang/String" "value" "[B") .byte) (by decide +kernel)) (hf (.eq (.length (.field (.string "DayKnown$Town" 116) "java/lang/String" "value" "[B")) (.int 3)) (by decide +kernel)) (fun j hj => by
      rcases (show j = 0 ∨ j = 1 ∨ j = 2 by omega) with rfl | rfl | rfl
      · exact hf (.eq (.elem (.field (.string "DayKnown$Town" 116) "java/lang/String" "value" "[B") (.int 0)) (.int 60)) (by decide +kernel)
      · exact hf (.eq (.elem (.field (.string "DayKnown$Town" 116) "java/lang/String" "value" "[B") (.int 1)) (.int 61)) (by decide +kernel)
      · exact hf (.eq (.elem (.field (.string "DayKnown$Town" 116) "java/lang/String" "value" "[B") (.int 2)) (.int 62)) (by decide +kernel))
  have hs6 : SK "DayKnownModel" 112 "good " 5 (li [103, 111, 111, 100, 32]) (fun q => s.heap.size ≤ q) s s.heap := sk_of hA (by decide) (hts (.stringRef "DayKnownModel" 112 "good ") (by decide +kernel)) (hf (.exactly (.string "DayKnownModel" 112) "java/lang/String") (by decide +kernel)) (hf (.eq (.field (.string "DayKnownModel" 112) "java/lang/String" "coder" "B") (.int 0)) (by decide +kernel)) (hf (.arrayOf (.field (.string "DayKnownModel" 112) "java/lang/String" "value" "[B") .byte) (by decide +kernel)) (hf (.eq (.length (.field (.string "DayKnownModel" 112) "java/lang/String" "value" "[B")) (.int 5)) (by decide +kernel)) (fun j hj => by
      rcases (show j = 0 ∨ j = 1 ∨ j = 2 ∨ j = 3 ∨ j = 4 by omega) with rfl | rfl | rfl | rfl | rfl
      · exact hf (.eq (.elem (.field (.string "DayKnownModel" 112) "java/lang/String" "value" "[B") (.int 0)) (.int 103)) (by decide +kernel)
      · exact hf (.eq (.elem (.field (.string "DayKnownModel" 112) "java/lang/String" "value" "[B") (.int 1)) (.int 111)) (by decide +kernel)
      · exact hf (.eq (.elem (.field (.string "DayKnownModel" 112) "java/lang/String" "value" "[B") (.int 2)) (.int 111)) (by decide +kernel)
      · exact hf (.eq (.elem (.field (.string "DayKnownModel" 112) "java/lang/String" "value" "[B") (.int 3)) (.int 100)) (by decide +kernel)
      · exact hf (.eq (.elem (.field (.string "DayKnownModel" 112) "java/lang/String" "value" "[B") (.int 4)) (.int 32)) (by decide +kernel))
  have hs7 : SK "DayKnownModel" 94 "hpmnyk" 6 (li [104, 112, 109, 110, 121, 107]) (fun q => s.heap.size ≤ q) s s.heap := sk_of hA (by decide) (hts (.stringRef "DayKnownModel" 94 "hpmnyk") (by decide +kernel)) (hf (.exactly (.string "DayKnownModel" 94) "java/lang/String") (by decide +kernel)) (hf (.eq (.field (.string "DayKnownModel" 94) "java/lang/String" "coder" "B") (.int 0)) (by decide +kernel)) (hf (.arrayOf (.field (.string "DayKnownModel" 94) "java/lang/String" "value" "[B") .byte) (by decide +kernel)) (hf (.eq (.length (.field (.string "DayKnownModel" 94) "java/lang/String" "value" "[B")) (.int 6)) (by decide +kernel)) (fun j hj => by
      rcases (show j = 0 ∨ j = 1 ∨ j = 2 ∨ j = 3 ∨ j = 4 ∨ j = 5 by omega) with rfl | rfl | rfl | rfl | rfl | rfl
      · exact hf (.eq (.elem (.field (.string "DayKnownModel" 94) "java/lang/String" "value" "[B") (.int 0)) (.int 104)) (by decide +kernel)
      · exact hf (.eq (.elem (.field (.string "DayKnownModel" 94) "java/lang/String" "value" "[B") (.int 1)) (.int 112)) (by decide +kernel)
      · exact hf (.eq (.elem (.field (.string "DayKnownModel" 94) "java/lang/String" "value" "[B") (.int 2)) (.int 109)) (by decide +kernel)
      · exact hf (.eq (.elem (.field (.string "DayKnownModel" 94) "java/lang/String" "value" "[B") (.int 3)) (.int 110)) (by decide +kernel)
      · exact hf (.eq (.elem (.field (.string "DayKnownModel" 94) "java/lang/String" "value" "[B") (.int 4)) (.int 121)) (by decide +kernel)
      · exact hf (.eq (.elem (.field (.string "DayKnownModel" 94) "java/lang/String" "value" "[B") (.int 5)) (.int 107)) (by decide +kernel))
  have hs8 : SK "DayKnownModel" 100 "<=>" 3 (li [60, 61, 62]) (fun q => s.heap.size ≤ q) s s.heap := sk_of hA (by decide) (hts (.stringRef "DayKnownModel" 100 "<=>") (by decide +kernel)) (hf (.exactly (.string "DayKnownModel" 100) "java/lang/String") (by decide +kernel)) (hf (.eq (.field (.string "DayKnownModel" 100) "java/lang/String" "coder" "B") (.int 0)) (by decide +kernel)) (hf (.arrayOf (.field (.string "DayKnownModel" 100) "java/lang/String" "value" "[B") .byte) (by decide +kernel)) (hf (.eq (.length (.field (.string "DayKnownModel" 100) "java/lang/String" "value" "[B")) (.int 3)) (by decide +kernel)) (fun j hj => by
      rcases (show j = 0 ∨ j = 1 ∨ j = 2 by omega) with rfl | rfl | rfl
      · exact hf (.eq (.elem (.field (.string "DayKnownModel" 100) "java/lang/String" "value" "[B") (.int 0)) (.int 60)) (by decide +kernel)
      · exact hf (.eq (.elem (.field (.string "DayKnownModel" 100) "java/lang/String" "value" "[B") (.int 1)) (.int 61)) (by decide +kernel)
      · exact hf (.eq (.elem (.field (.string "DayKnownModel" 100) "java/lang/String" "value" "[B") (.int 2)) (.int 62)) (by decide +kernel))
  have hs9 : SK "DayKnownModel" 118 "harm " 5 (li [104, 97, 114, 109, 32]) (fun q => s.heap.size ≤ q) s s.heap := sk_of hA (by decide) (hts (.stringRef "DayKnownModel" 118 "harm ") (by decide +kernel)) (hf (.exactly (.string "DayKnownModel" 118) "java/lang/String") (by decide +kernel)) (hf (.eq (.field (.string "DayKnownModel" 118) "java/lang/String" "coder" "B") (.int 0)) (by decide +kernel)) (hf (.arrayOf (.field (.string "DayKnownModel" 118) "java/lang/String" "value" "[B") .byte) (by decide +kernel)) (hf (.eq (.length (.field (.string "DayKnownModel" 118) "java/lang/String" "value" "[B")) (.int 5)) (by decide +kernel)) (fun j hj => by
      rcases (show j = 0 ∨ j = 1 ∨ j = 2 ∨ j = 3 ∨ j = 4 by omega) with rfl | rfl | rfl | rfl | rfl
      · exact hf (.eq (.elem (.field (.string "DayKnownModel" 118) "java/lang/String" "value" "[B") (.int 0)) (.int 104)) (by decide +kernel)
      · exact hf (.eq (.elem (.field (.string "DayKnownModel" 118) "java/lang/String" "value" "[B") (.int 1)) (.int 97)) (by decide +kernel)
      · exact hf (.eq (.elem (.field (.string "DayKnownModel" 118) "java/lang/String" "value" "[B") (.int 2)) (.int 114)) (by decide +kernel)
      · exact hf (.eq (.elem (.field (.string "DayKnownModel" 118) "java/lang/String" "value" "[B") (.int 3)) (.int 109)) (by decide +kernel)
      · exact hf (.eq (.elem (.field (.string "DayKnownModel" 118) "java/lang/String" "value" "[B") (.int 4)) (.int 32)) (by decide +kernel))
  have hs10 : SK "DayKnownModel" 120 "note " 5 (li [110, 111, 116, 101, 32]) (fun q => s.heap.size ≤ q) s s.heap := sk_of hA (by decide) (hts (.stringRef "DayKnownModel" 120 "note ") (by decide +kernel)) (hf (.exactly (.string "DayKnownModel" 120) "java/lang/String") (by decide +kernel)) (hf (.eq (.field (.string "DayKnownModel" 120) "java/lang/String" "coder" "B") (.int 0)) (by decide +kernel)) (hf (.arrayOf (.field (.string "DayKnownModel" 120) "java/lang/String" "value" "[B") .byte) (by decide +kernel)) (hf (.eq (.length (.field (.string "DayKnownModel" 120) "java/lang/String" "value" "[B")) (.int 5)) (by decide +kernel)) (fun j hj => by
      rcases (show j = 0 ∨ j = 1 ∨ j = 2 ∨ j = 3 ∨ j = 4 by omega) with rfl | rfl | rfl | rfl | rfl
      · exact hf (.eq (.elem (.field (.string "DayKnownModel" 120) "java/lang/String" "value" "[B") (.int 0)) (.int 110)) (by decide +kernel)
      · exact hf (.eq (.elem (.field (.string "DayKnownModel" 120) "java/lang/String" "value" "[B") (.int 1)) (.int 111)) (by decide +kernel)
      · exact hf (.eq (.elem (.field (.string "DayKnownModel" 120) "java/lang/String" "value" "[B") (.int 2)) (.int 116)) (by decide +kernel)
      · exact hf (.eq (.elem (.field (.string "DayKnownModel" 120) "java/lang/String" "value" "[B") (.int 3)) (.int 101)) (by decide +kernel)
      · exact hf (.eq (.elem (.field (.string "DayKnownModel" 120) "java/lang/String" "value" "[B") (.int 4)) (.int 32)) (by decide +kernel))
  exact ⟨⟨va_Zof (hts (.laysStatic "java/lang/String" "COMPACT_STRINGS" "Z") (by decide +kernel)) (hts (.initialized "java/lang/String") (by decide +kernel)) (va_eqi (hf (.eq (.static "java/lang/String" "COMPACT_STRINGS" "Z") (.int 1)) (by decide +kernel))) hA, va_Zqof (hts (.laysStatic "jdk/internal/util/Preconditions" "SIOOBE_FORMATTER" "Ljava/util/function/BiFunction;") (by decide +kernel)) (hts (.initialized "jdk/internal/util/Preconditions") (by decide +kernel)) (hf (.isRef (.static "jdk/internal/util/Preconditions" "SIOOBE_FORMATTER" "Ljava/util/function/BiFunction;")) (by decide +kernel)) hA⟩, hKIND_ABOVE, hBODY, hs0, hs1, hs2, hs3, hs4, hs5, hs6, hs7, hs8, hs9, hs10⟩
set_option maxHeartbeats 4000000 in
set_option maxRecDepth 100000 in
theorem law_ctx {p : Program} {s : State} {m : MethodId} {meth : Method} {c : Code} {b L : Nat} {xs : Nat → Int32} (C0 : lw_At p s m meth c b L xs) : ∃ (D : va_G) (cI cZ cQ cT : ClassId), Ctx p s m #[Value.ref b] meth c yL_law code 4 ret D (TYS cI cZ cQ cT) (fun q => s.heap.size ≤ q) ∧ EF (fun q => s.heap.size ≤ q) s s.heap := by
  obtain ⟨hx, hb, hr, hml, hown, hts, hX, hbl, hlocks, hgv⟩ := id C0
  have hT : ∀ w ∈ WALL, w.before #[Value.ref b] s = true := fun w h => hts w (List.mem_filter.mp h).1

  obtain ⟨c0, iS0, hKn0⟩ := u_known (C := RX0) (T := TX0) (N := 5) (n := 5) hT wu_X0 (hT _ wn_X0)
  obtain ⟨c1, iS1, hKn1⟩ := u_known (C := RX1) (T := TX1) (N := 12) (n := 12) hT wu_X1 (hT _ wn_X1)
  obtain ⟨c2, iS2, hKn2⟩ := u_known (C := RX2) (T := TX2) (N := 6) (n := 6) hT wu_X2 (hT _ wn_X2)
  obtain ⟨c3, iS3, hKn3⟩ := u_known (C := RX3) (T := TX3) (N := 6) (n := 6) hT wu_X3 (hT _ wn_X3)
  obtain ⟨c4, iS4, hKn4⟩ := u_known (C := RX4) (T := TX4) (N := 9) (n := 9) hT wu_X4 (hT _ wn_X4)
  obtain ⟨c5, iS5, hKn5⟩ := u_known (C := RX5) (T := TX5) (N := 9) (n := 9) hT wu_X5 (hT _ wn_X5)
  obtain ⟨c6, iS6, hKn6⟩ := u_known (C := RX6) (T := TX6) (N := 28) (n := 28) hT wu_X6 (hT _ wn_X6)
  obtain ⟨D, hKc⟩ : ∃ D : va_G, ∀ (k : Nat) (q : vw_C), CL[k]? = some q → u_Kn s q.1 q.2.1 q.2.2 (D.1 k) (D.2 k) := by
    refine ⟨(fun k => match k with | 0 => c0 | 1 => c1 | 2 => c2 | 3 => c3 | 4 => c4 | 5 => c5 | _ => c6, fun k => match k with | 0 => iS0 | 1 => iS1 | 2 => iS2 | 3 => iS3 | 4 => iS4 | 5 => iS5 | _ => iS6), ?_⟩
    intro k q hq
    match k, hq with
    | 0, hq => cases hq; exact hKn0
    | 1, hq => cases hq; exact hKn1
    | 2, hq => cases hq; exact hKn2
    | 3, hq => cases hq; exact hKn3
    | 4, hq => cases hq; exact hKn4
    | 5, hq => cases hq; exact hKn5
    | 6, hq => cases hq; exact hKn6
    | k + 7, hq => simp [CL] at hq
  obtain ⟨cI, hI1, hI2⟩ := arr_prim (ty := .int) (fun C h => by cases h) (hT _ wa_int)
  obtain ⟨cZ, hZ1, hZ2⟩ := arr_prim (ty := .boolean) (fun C h => by cases h) (hT _ wa_boolean)
  have hoA : (Cond.arrayOver (.array .int)).before #[Value.ref b] s = true := hts _ (List.mem_of_getElem? (i := 234) (by decide +kernel))
  have hoT : (Cond.arrayOver (.object "DayKnown$Town")).before #[Value.ref b] s = true := hts _ (List.mem_of_getElem? (i := 226) (by decide +kernel))
  obtain ⟨cQ, hQ1, hQ2⟩ := arr_arr hoA
  obtain ⟨cT, hT1, hT2⟩ := arr_obj hoT
  refine ⟨D, cI, cZ, cQ, cT, ⟨hx, hb, hr, hml, hown, hlocks, fun h => absurd h (by decide), hT, ⟨fun w hw hn => va_Nw.of (nestOn hn) (hts w hw), va_AO.of hoT, hoA⟩, ⟨hKc, fun k q hk => ?_⟩, fun q h => h⟩, law_facts hts hgv⟩
  match k, hk with
  | 0, hk => cases hk; exact ⟨hI1, hI2⟩
  | 1, hk => cases hk; exact ⟨hZ1, hZ2⟩
  | 2, hk => cases hk; exact ⟨hQ1, hQ2⟩
  | 3, hk => cases hk; exact ⟨hT1, hT2⟩
  | k + 4, hk => simp [TYS] at hk
end CEN
