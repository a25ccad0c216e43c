section CNQ
variable {p : Program} {l : Launch} {e : Env} {R : Room} {s : State} {m : MethodId} {args : Array Value} {below : List Frame} {meth : Method} {c : Code} {H : Heap} {locs : List Loc} {cells slots : Nat} {Q : State → Prop}
variable {y : MethodName} {cc : ByteArray} {n : Nat} {rt : Option FieldType} {D : va_G} {ty : List (ClassId × FieldType)} {A : Nat → Prop} {pc : Nat} {ls : Array Slot} {rest st0 : List Value} {ws wc wr : va_W}
theorem outer4 (cA : ClassId) (h : Nat) : Jvm.Free.Multi.outerC cA 4 h 4 = vp_cell cA (4, .inr (.inr (.inr (.inr (rf4 (h + 1) (h + 2) (h + 3) (h + 4)))))) := by
  rw [vp_cell_q]
  rfl
theorem inner0 (cI : ClassId) (K : Nat) : Jvm.Free.Multi.innerC cI K (.int 0) = vp_cell cI (K, .inl (fun _ => 0)) := by
  show ({ cls := cI, slots := Array.replicate K (.int 0), vm := .none } : Cell) = arrV cI K (fun _ => .int 0)
  exact arrV_new cI K _
/-- a new int[4][K], its rows kept -/
theorem newQR (C0 : Ctx p s m args meth c y cc n rt D ty A) {index : Nat} (hw : Cond.classLink y.cls index "[[I" ∈ WALL) (ha : Cond.arrayClass .int ∈ WALL) {cI cQ : ClassId} (t0 t2 : Nat) (ht : ty[t0]? = some (cI, .int)) (ht2 : ty[t2]? = some (cQ, .array .int)) (hP : va_P D CL ws H) (hD : va_D A ws) (hS : va_S A s.heap H locs) {i j : Int32} {K : Nat} (hn : ¬ i < 0) (hk : ¬ j < 0) (hN : i.toNatClampNeg = 4) (hK : j.toNatClampNeg = K) (hb2 : K * 4 ≤ 536870912) (hb3 : K ≤ 536870912) (kc ks : Nat) (hkc : cells + (1 + 4) ≤ kc) (hks : slots + (4 + 4 * K) ≤ ks) (hcR : kc ≤ R.cells) (hsR : ks ≤ R.slots) (hdg : decode cc pc = .ok (.multianewarray index 2, 4))
    (kk : ∀ (q r0 r1 r2 r3 : Nat) (H1 : Heap), va_P D CL (ws ++ [(q, .inl (cQ, 4, .inr (.inr (.inr (.inr (rf4 r0 r1 r2 r3)))))), (r0, .inl (cI, K, .inl (fun _ => 0))), (r1, .inl (cI, K, .inl (fun _ => 0))), (r2, .inl (cI, K, .inl (fun _ => 0))), (r3, .inl (cI, K, .inl (fun _ => 0)))]) H1 → va_D A (ws ++ [(q, .inl (cQ, 4, .inr (.inr (.inr (.inr (rf4 r0 r1 r2 r3)))))), (r0, .inl (cI, K, .inl (fun _ => 0))), (r1, .inl (cI, K, .inl (fun _ => 0))), (r2, .inl (cI, K, .inl (fun _ => 0))), (r3, .inl (cI, K, .inl (fun _ => 0)))]) → va_S A s.heap H1 locs → W p l e R s m args below meth c H1 locs kc ks Q (F0 m (pc + 4) ls (.ref q :: rest))) : W p l e R s m args below meth c H locs cells slots Q (F0 m pc ls (.int j :: .int i :: rest)) := by
  obtain ⟨hx, hb, hrr, hml, hown, hlocks, hname, hT, hNW, hKK, hA⟩ := C0
  subst hK
  intro T hTT Xs
  have h4 : i.toNatClampNeg * 4 ≤ 536870912 := by rw [hN]; decide
  obtain ⟨vm₁, cA, comp, -, fA, fC, hO, -, X', step⟩ := Jvm.Stand.multianewarray2F Xs hx (index := index) (ty := .int) hown (hT _ hw) (va_AOA.use hNW.2.2) (hT _ ha) (g := F0 m pc ls (.int j :: .int i :: rest)) rfl (by rw [hb]; exact hdg) rfl hn hk h4 hb2 hb3 rfl rfl (by rw [hN]; exact Nat.le_trans hkc hcR) (by rw [hN]; exact Nat.le_trans hks hsR)
  rw [hN] at X' step
  generalize hF : Jvm.Free.Multi.fill (T.setVm vm₁) cA comp 4 j.toNatClampNeg (defaultValue .int) 4 = F at X' step
  have hTh : (T.setVm vm₁).heap = H := hTT
  obtain ⟨f1, f2, -, -⟩ := Jvm.Free.Multi.fill_facts (T.setVm vm₁) cA comp 4 j.toNatClampNeg (defaultValue .int) 4
  rw [hF, hTh] at f1 f2
  have hold : ∀ x : Nat, x < H.size → F.heap[x]? = H[x]? := fun x hx => by
    have := Jvm.Free.Multi.fill_old (T.setVm vm₁) cA comp 4 j.toNatClampNeg (defaultValue .int) (a := x) (by rw [hTh]; exact hx) 4
    rw [hF, hTh] at this
    exact this
  have hin : ∀ x : Nat, x < 4 → F.heap[H.size + 1 + x]? = some (Jvm.Free.Multi.innerC comp j.toNatClampNeg (.int 0)) := fun x hx => by
    have := Jvm.Free.Multi.fill_inner (T.setVm vm₁) cA comp 4 j.toNatClampNeg (defaultValue .int) 4 x hx
    rw [hF, hTh] at this
    exact this
  have eI : comp = cI := Option.some.inj (fC.symm.trans (hKK.2 t0 _ ht).2)
  have eQ : cA = cQ := Option.some.inj (fA.symm.trans (hKK.2 t2 _ ht2).2)
  subst eI
  subst eQ
  rw [outer4] at f2
  simp only [inner0] at hin
  have hP1 : va_P D CL ws F.heap := hP.kept (fun k9 x hx => hold x.1 ((hP k9 x hx).lt))
  have hP2 : va_P D CL [(H.size, .inl (cA, 4, .inr (.inr (.inr (.inr (rf4 (H.size + 1) (H.size + 2) (H.size + 3) (H.size + 4))))))), (H.size + 1, .inl (comp, j.toNatClampNeg, .inl (fun _ => 0))), (H.size + 2, .inl (comp, j.toNatClampNeg, .inl (fun _ => 0))), (H.size + 3, .inl (comp, j.toNatClampNeg, .inl (fun _ => 0))), (H.size + 4, .inl (comp, j.toNatClampNeg, .inl (fun _ => 0)))] F.heap := by
    intro k q hk
    match k, hk with
    | 0, hk => cases hk; exact f2
    | 1, hk => cases hk; exact hin 0 (by decide)
    | 2, hk => cases hk; exact hin 1 (by decide)
    | 3, hk => cases hk; exact hin 2 (by decide)
    | 4, hk => cases hk; exact hin 3 (by decide)
    | k + 5, hk => simp at hk
  have key : ∀ (k : Nat) (q : Nat × va_E), [((H.size, .inl (cA, 4, .inr (.inr (.inr (.inr (rf4 (H.size + 1) (H.size + 2) (H.size + 3) (H.size + 4))))))) : Nat × va_E), (H.size + 1, .inl (comp, j.toNatClampNeg, .inl (fun _ => 0))), (H.size + 2, .inl (comp, j.toNatClampNeg, .inl (fun _ => 0))), (H.size + 3, .inl (comp, j.toNatClampNeg, .inl (fun _ => 0))), (H.size + 4, .inl (comp, j.toNatClampNeg, .inl (fun _ => 0)))][k]? = some q → q.1 = H.size + k := by
    intro k q hk
    match k, hk with
    | 0, hk => cases hk; rfl
    | 1, hk => cases hk; rfl
    | 2, hk => cases hk; rfl
    | 3, hk => cases hk; rfl
    | 4, hk => cases hk; rfl
    | k + 5, hk => simp at hk
  have hD2 := va_D.app hD (w2 := [((H.size, .inl (cA, 4, .inr (.inr (.inr (.inr (rf4 (H.size + 1) (H.size + 2) (H.size + 3) (H.size + 4))))))) : Nat × va_E), (H.size + 1, .inl (comp, j.toNatClampNeg, .inl (fun _ => 0))), (H.size + 2, .inl (comp, j.toNatClampNeg, .inl (fun _ => 0))), (H.size + 3, .inl (comp, j.toNatClampNeg, .inl (fun _ => 0))), (H.size + 4, .inl (comp, j.toNatClampNeg, .inl (fun _ => 0)))])
    ⟨fun i j p q hp hq e => by have := key i p hp; have := key j q hq; omega, fun k q hk => hA _ (by have := key k q hk; have := hS.1; omega)⟩
    (fun i j p q hp hq e => by have h1 : p.1 < H.size := (hP i p hp).lt; have := key j q hq; omega)
  obtain ⟨t, a1, b1⟩ := kk H.size (H.size + 1) (H.size + 2) (H.size + 3) (H.size + 4) F.heap (hP1.app hP2) hD2 ⟨by rw [f1]; have := hS.1; omega, fun x h1 h2 => (hold x (Nat.lt_of_lt_of_le h1 hS.1)).trans (hS.2.1 x h1 h2), hS.2.2⟩ F rfl (stand_widen X' (by omega) (by omega))
  refine ⟨t, step t ?_, b1⟩
  have e : T.heap.size = H.size := by rw [hTT]
  rw [e]
  exact a1
theorem MI.init {f : Nat → Int32} (h4 : f 4 = -1) (h : ∀ i, i ≠ 4 → f i = 0) : MI f 0 0 0 0 0 :=
  ⟨⟨h 0 (by decide), by decide⟩, ⟨h 1 (by decide), by decide⟩, ⟨h 2 (by decide), by decide⟩, ⟨h 3 (by decide), by decide⟩, h4.trans (by decide), ⟨h 5 (by decide), by decide⟩, fun j hj => ⟨0, by decide, h _ (by omega)⟩, fun j hj => ⟨0, by decide, h _ (by omega)⟩, fun j hj => ⟨0, by decide, h _ (by omega)⟩, fun j hj => ⟨0, by decide, h _ (by omega)⟩, fun j hj => absurd hj (by omega), fun j hj => absurd hj (by omega)⟩
end CNQ
