section CN
theorem nI_add0 (b : Nat) : nI 0 + nI b = nI b := by rw [nI_add, Nat.zero_add]
theorem nb01 {r : Int32} (h : r = 0 ∨ r = 1) : narrow .boolean (.int r) = .int r := by
  rcases h with rfl | rfl <;> rfl
/-- 8 to the P: how many days P people have -/
def d8 (P : Nat) : Nat := 8 ^ P
theorem d8_le {P : Nat} (h : P ≤ 4) : d8 P ≤ 4096 := by
  unfold d8
  exact (Nat.pow_le_pow_right (by decide) h : 8 ^ P ≤ 8 ^ 4)
theorem d8_pos (P : Nat) : 0 < d8 P := by
  unfold d8
  exact Nat.pow_pos (by decide)
theorem shl8 : ∀ P : Nat, P < 5 → (1 : Int32) <<< ((3 * nI P) &&& 31) = nI (d8 P) := by decide +kernel
/-- a number between 0 and n -/
theorem nat_of {x : Int32} {n : Nat} (h : 0 ≤ x ∧ x < nI n) (hn : n < 2 ^ 31) : ∃ j : Nat, j < n ∧ x = nI j := by
  obtain ⟨j, hj, rfl⟩ := nI_of (x := x) (fun h0 => by
    have := lt_i.mp h0
    have := le_i.mp h.1
    omega)
  refine ⟨j, ?_, rfl⟩
  exact (nI_ltI hj hn).mp h.2
variable {p : Program} {l : Launch} {e : Env} {R : Room} {s : State} {m : MethodId} {args : Array Value} {below : List Frame} {meth : Method} {c : Code} {H : Heap} {locs : List Loc} {cells slots : Nat} {Q : State → Prop}
variable {cc : ByteArray} {pc : Nat} {ls : Array Slot} {rest : List Value} {D : va_G} {cl : List vw_C} {A : Nat → Prop} {a : Nat} {tys : List (ClassId × FieldType)} {ws : va_W} {H0 : Heap}
/-- aaload of an int[][] -/
theorem aldQ (hexec : p.tables.exec = Jvm.exec) (hb : c.code = cc) (hK : va_K D cl tys s) (hP : va_P D cl ws H) (q0 t0 : Nat) {cA : ClassId} {n : Nat} {f : Nat → Option Nat} (ha : ws[q0]? = some (a, .inl (cA, n, .inr (.inr (.inr (.inr f)))))) (ht : tys[t0]? = some (cA, .array .int)) {i : Int32} (hin : vp_in i n) (hdg : decode cc pc = .ok (.aaload, 1))
    (kk : W p l e R s m args below meth c H locs cells slots Q (F0 m (pc + 1) ls (va_rf (f i.toNatClampNeg) :: rest))) : W p l e R s m args below meth c H locs cells slots Q (F0 m pc ls (.int i :: .ref a :: rest)) := by
  have hlt : i.toNatClampNeg < n := Nat.not_le.mp fun q => hin (Or.inr q)
  exact W.aald (v := va_rf (f i.toNatClampNeg)) (ty := .array .int) hexec hb (hP q0 _ ha) ((hK.2 t0 _ ht).1 n (fun j => va_rf (f j))) rfl (fun q => by cases q) (by show ¬ (i < 0 ∨ (arrV _ _ _).slots.size ≤ _); rw [arrV_size]; exact hin) (by show (arrV _ _ _).slots[_]? = _; rw [arrV_read _ _ hlt]) rfl rfl hdg kk
/-- the refs of four rows -/
def rf4 (a b c d : Nat) : Nat → Option Nat := fun i => match i with
  | 0 => some a
  | 1 => some b
  | 2 => some c
  | 3 => some d
  | _ => none
end CN
/-! what the reference's row of numbers holds, at all times -/
section CI
def MI (f : Nat → Int32) (P T B S Y : Nat) : Prop :=
  (f 0 = nI P ∧ P ≤ 4) ∧ (f 1 = nI T ∧ T ≤ 5) ∧ (f 2 = nI B ∧ B ≤ 10) ∧ (f 3 = nI S ∧ S ≤ 100) ∧ f 4 = nI T + (-1) ∧ (f 5 = nI Y ∧ Y < d8 P) ∧
  (∀ j, j < 4 → ∃ k : Nat, k < 7 ∧ f (110 + j) = nI k) ∧ (∀ j, j < 4 → ∃ k : Nat, k < 10 ∧ f (114 + j) = nI k) ∧ (∀ j, j < 4 → ∃ k : Nat, k < 8 ∧ f (118 + j) = nI k) ∧ (∀ j, j < 4 → ∃ k : Nat, k < 2 ∧ f (122 + j) = nI k) ∧
  (∀ j, j < B → ∃ k : Nat, k < d8 P ∧ f (126 + j) = nI k) ∧ ∀ j, j < T → ∃ k : Nat, k < 100 ∧ f (136 + j) = nI k
theorem MI.h0 {f : Nat → Int32} {P T B S Y : Nat} (h : MI f P T B S Y) : f 0 = nI P := h.1.1
theorem MI.P4 {f : Nat → Int32} {P T B S Y : Nat} (h : MI f P T B S Y) : P ≤ 4 := h.1.2
theorem MI.h1 {f : Nat → Int32} {P T B S Y : Nat} (h : MI f P T B S Y) : f 1 = nI T := h.2.1.1
theorem MI.T5 {f : Nat → Int32} {P T B S Y : Nat} (h : MI f P T B S Y) : T ≤ 5 := h.2.1.2
theorem MI.h2 {f : Nat → Int32} {P T B S Y : Nat} (h : MI f P T B S Y) : f 2 = nI B := h.2.2.1.1
theorem MI.B10 {f : Nat → Int32} {P T B S Y : Nat} (h : MI f P T B S Y) : B ≤ 10 := h.2.2.1.2
theorem MI.h3 {f : Nat → Int32} {P T B S Y : Nat} (h : MI f P T B S Y) : f 3 = nI S := h.2.2.2.1.1
theorem MI.S100 {f : Nat → Int32} {P T B S Y : Nat} (h : MI f P T B S Y) : S ≤ 100 := h.2.2.2.1.2
theorem MI.h4 {f : Nat → Int32} {P T B S Y : Nat} (h : MI f P T B S Y) : f 4 = nI T + (-1) := h.2.2.2.2.1
theorem MI.h5 {f : Nat → Int32} {P T B S Y : Nat} (h : MI f P T B S Y) : f 5 = nI Y := h.2.2.2.2.2.1.1
theorem MI.Yd {f : Nat → Int32} {P T B S Y : Nat} (h : MI f P T B S Y) : Y < d8 P := h.2.2.2.2.2.1.2
theorem MI.kind {f : Nat → Int32} {P T B S Y : Nat} (h : MI f P T B S Y) (j : Nat) (hj : j < 4) : ∃ k : Nat, k < 7 ∧ f (110 + j) = nI k := h.2.2.2.2.2.2.1 j hj
theorem MI.v {f : Nat → Int32} {P T B S Y : Nat} (h : MI f P T B S Y) (j : Nat) (hj : j < 4) : ∃ k : Nat, k < 10 ∧ f (114 + j) = nI k := h.2.2.2.2.2.2.2.1 j hj
theorem MI.row {f : Nat → Int32} {P T B S Y : Nat} (h : MI f P T B S Y) (j : Nat) (hj : j < 4) : ∃ k : Nat, k < 8 ∧ f (118 + j) = nI k := h.2.2.2.2.2.2.2.2.1 j hj
theorem MI.note {f : Nat → Int32} {P T B S Y : Nat} (h : MI f P T B S Y) (j : Nat) (hj : j < 4) : ∃ k : Nat, k < 2 ∧ f (122 + j) = nI k := h.2.2.2.2.2.2.2.2.2.1 j hj
theorem MI.book {f : Nat → Int32} {P T B S Y : Nat} (h : MI f P T B S Y) (j : Nat) (hj : j < B) : ∃ k : Nat, k < d8 P ∧ f (126 + j) = nI k := h.2.2.2.2.2.2.2.2.2.2.1 j hj
theorem MI.notes {f : Nat → Int32} {P T B S Y : Nat} (h : MI f P T B S Y) (j : Nat) (hj : j < T) : ∃ k : Nat, k < 100 ∧ f (136 + j) = nI k := h.2.2.2.2.2.2.2.2.2.2.2 j hj
theorem un_ {f : Nat → Int32} {k j : Nat} {x y : Int32} (h : j ≠ k) (e : f j = y) : upd f k x j = y := (pk_un h).trans e
theorem unE {f : Nat → Int32} {k j n : Nat} {x : Int32} (h : j ≠ k) (e : ∃ m : Nat, m < n ∧ f j = nI m) : ∃ m : Nat, m < n ∧ upd f k x j = nI m := by
  obtain ⟨m, h1, h2⟩ := e
  exact ⟨m, h1, (pk_un h).trans h2⟩
theorem usE {f : Nat → Int32} {k j n m : Nat} (hm : m < n) (h : ∃ q : Nat, q < n ∧ f j = nI q) : ∃ q : Nat, q < n ∧ upd f k (nI m) j = nI q := by
  by_cases e : j = k
  · subst e; exact ⟨m, hm, pk_us⟩
  · exact unE e h
section
variable {f : Nat → Int32} {P T B S Y : Nat}
theorem MI.setKind (h : MI f P T B S Y) {j k : Nat} (hj : j < 4) (hk : k < 7) : MI (upd f (110 + j) (nI k)) P T B S Y := by
  have := h.P4; have := h.T5; have := h.B10
  exact ⟨⟨un_ (by omega) h.h0, h.P4⟩, ⟨un_ (by omega) h.h1, h.T5⟩, ⟨un_ (by omega) h.h2, h.B10⟩, ⟨un_ (by omega) h.h3, h.S100⟩, un_ (by omega) h.h4, ⟨un_ (by omega) h.h5, h.Yd⟩, fun i hi => usE hk (h.kind i hi), fun i hi => unE (by omega) (h.v i hi), fun i hi => unE (by omega) (h.row i hi), fun i hi => unE (by omega) (h.note i hi), fun i hi => unE (by omega) (h.book i hi), fun i hi => unE (by omega) (h.notes i hi)⟩
theorem MI.setV (h : MI f P T B S Y) {j k : Nat} (hj : j < 4) (hk : k < 10) : MI (upd f (114 + j) (nI k)) P T B S Y := by
  have := h.P4; have := h.T5; have := h.B10
  exact ⟨⟨un_ (by omega) h.h0, h.P4⟩, ⟨un_ (by omega) h.h1, h.T5⟩, ⟨un_ (by omega) h.h2, h.B10⟩, ⟨un_ (by omega) h.h3, h.S100⟩, un_ (by omega) h.h4, ⟨un_ (by omega) h.h5, h.Yd⟩, fun i hi => unE (by omega) (h.kind i hi), fun i hi => usE hk (h.v i hi), fun i hi => unE (by omega) (h.row i hi), fun i hi => unE (by omega) (h.note i hi), fun i hi => unE (by omega) (h.book i hi), fun i hi => unE (by omega) (h.notes i hi)⟩
theorem MI.setRow (h : MI f P T B S Y) {j k : Nat} (hj : j < 4) (hk : k < 8) : MI (upd f (118 + j) (nI k)) P T B S Y := by
  have := h.P4; have := h.T5; have := h.B10
  exact ⟨⟨un_ (by omega) h.h0, h.P4⟩, ⟨un_ (by omega) h.h1, h.T5⟩, ⟨un_ (by omega) h.h2, h.B10⟩, ⟨un_ (by omega) h.h3, h.S100⟩, un_ (by omega) h.h4, ⟨un_ (by omega) h.h5, h.Yd⟩, fun i hi => unE (by omega) (h.kind i hi), fun i hi => unE (by omega) (h.v i hi), fun i hi => usE hk (h.row i hi), fun i hi => unE (by omega) (h.note i hi), fun i hi => unE (by omega) (h.book i hi), fun i hi => unE (by omega) (h.notes i hi)⟩
theorem MI.setNote (h : MI f P T B S Y) {j k : Nat} (hj : j < 4) (hk : k < 2) : MI (upd f (122 + j) (nI k)) P T B S Y := by
  have := h.P4; have := h.T5; have := h.B10
  exact ⟨⟨un_ (by omega) h.h0, h.P4⟩, ⟨un_ (by omega) h.h1, h.T5⟩, ⟨un_ (by omega) h.h2, h.B10⟩, ⟨un_ (by omega) h.h3, h.S100⟩, un_ (by omega) h.h4, ⟨un_ (by omega) h.h5, h.Yd⟩, fun i hi => unE (by omega) (h.kind i hi), fun i hi => unE (by omega) (h.v i hi), fun i hi => unE (by omega) (h.row i hi), fun i hi => usE hk (h.note i hi), fun i hi => unE (by omega) (h.book i hi), fun i hi => unE (by omega) (h.notes i hi)⟩
theorem MI.setY (h : MI f P T B S Y) {y : Nat} (hy : y < d8 P) : MI (upd f 5 (nI y)) P T B S y := by
  have := h.P4; have := h.T5; have := h.B10
  exact ⟨⟨un_ (by omega) h.h0, h.P4⟩, ⟨un_ (by omega) h.h1, h.T5⟩, ⟨un_ (by omega) h.h2, h.B10⟩, ⟨un_ (by omega) h.h3, h.S100⟩, un_ (by omega) h.h4, ⟨pk_us, hy⟩, fun i hi => unE (by omega) (h.kind i hi), fun i hi => unE (by omega) (h.v i hi), fun i hi => unE (by omega) (h.row i hi), fun i hi => unE (by omega) (h.note i hi), fun i hi => unE (by omega) (h.book i hi), fun i hi => unE (by omega) (h.notes i hi)⟩
theorem d8_mono (P : Nat) : d8 P ≤ d8 (P + 1) := by
  unfold d8
  exact Nat.pow_le_pow_right (by decide) (by omega)
theorem MI.setP (h : MI f P T B S Y) (hP : P < 4) : MI (upd f 0 (nI (P + 1))) (P + 1) T B S Y := by
  have := h.P4; have := h.T5; have := h.B10; have hm := d8_mono P
  exact ⟨⟨pk_us, by omega⟩, ⟨un_ (by omega) h.h1, h.T5⟩, ⟨un_ (by omega) h.h2, h.B10⟩, ⟨un_ (by omega) h.h3, h.S100⟩, un_ (by omega) h.h4, ⟨un_ (by omega) h.h5, Nat.lt_of_lt_of_le h.Yd hm⟩, fun i hi => unE (by omega) (h.kind i hi), fun i hi => unE (by omega) (h.v i hi), fun i hi => unE (by omega) (h.row i hi), fun i hi => unE (by omega) (h.note i hi), fun i hi => by obtain ⟨k, h1, h2⟩ := h.book i hi; exact ⟨k, Nat.lt_of_lt_of_le h1 hm, un_ (by omega) h2⟩, fun i hi => unE (by omega) (h.notes i hi)⟩
theorem MI.setS (h : MI f P T B S Y) {k : Nat} (hk : k ≤ 100) : MI (upd f 3 (nI k)) P T B k Y := by
  have := h.P4; have := h.T5; have := h.B10
  exact ⟨⟨un_ (by omega) h.h0, h.P4⟩, ⟨un_ (by omega) h.h1, h.T5⟩, ⟨un_ (by omega) h.h2, h.B10⟩, ⟨pk_us, hk⟩, un_ (by omega) h.h4, ⟨un_ (by omega) h.h5, h.Yd⟩, fun i hi => unE (by omega) (h.kind i hi), fun i hi => unE (by omega) (h.v i hi), fun i hi => unE (by omega) (h.row i hi), fun i hi => unE (by omega) (h.note i hi), fun i hi => unE (by omega) (h.book i hi), fun i hi => unE (by omega) (h.notes i hi)⟩
theorem MI.setTape (h : MI f P T B S Y) {j : Nat} {x : Int32} (hj : j < 100) : MI (upd f (10 + j) x) P T B S Y := by
  have := h.P4; have := h.T5; have := h.B10
  exact ⟨⟨un_ (by omega) h.h0, h.P4⟩, ⟨un_ (by omega) h.h1, h.T5⟩, ⟨un_ (by omega) h.h2, h.B10⟩, ⟨un_ (by omega) h.h3, h.S100⟩, un_ (by omega) h.h4, ⟨un_ (by omega) h.h5, h.Yd⟩, fun i hi => unE (by omega) (h.kind i hi), fun i hi => unE (by omega) (h.v i hi), fun i hi => unE (by omega) (h.row i hi), fun i hi => unE (by omega) (h.note i hi), fun i hi => unE (by omega) (h.book i hi), fun i hi => unE (by omega) (h.notes i hi)⟩
theorem MI.setBook (h : MI f P T B S Y) {j k : Nat} (hj : j < 10) (hk : k < d8 P) : MI (upd f (126 + j) (nI k)) P T B S Y := by
  have := h.P4; have := h.T5; have := h.B10
  exact ⟨⟨un_ (by omega) h.h0, h.P4⟩, ⟨un_ (by omega) h.h1, h.T5⟩, ⟨un_ (by omega) h.h2, h.B10⟩, ⟨un_ (by omega) h.h3, h.S100⟩, un_ (by omega) h.h4, ⟨un_ (by omega) h.h5, h.Yd⟩, fun i hi => unE (by omega) (h.kind i hi), fun i hi => unE (by omega) (h.v i hi), fun i hi => unE (by omega) (h.row i hi), fun i hi => unE (by omega) (h.note i hi), fun i hi => usE hk (h.book i hi), fun i hi => unE (by omega) (h.notes i hi)⟩
theorem MI.setB (h : MI f P T B S Y) {k : Nat} (hk : k ≤ 10) (hb : ∀ j, j < k → ∃ d : Nat, d < d8 P ∧ f (126 + j) = nI d) : MI (upd f 2 (nI k)) P T k S Y := by
  have := h.P4; have := h.T5; have := h.B10
  exact ⟨⟨un_ (by omega) h.h0, h.P4⟩, ⟨un_ (by omega) h.h1, h.T5⟩, ⟨pk_us, hk⟩, ⟨un_ (by omega) h.h3, h.S100⟩, un_ (by omega) h.h4, ⟨un_ (by omega) h.h5, h.Yd⟩, fun i hi => unE (by omega) (h.kind i hi), fun i hi => unE (by omega) (h.v i hi), fun i hi => unE (by omega) (h.row i hi), fun i hi => unE (by omega) (h.note i hi), fun i hi => unE (by omega) (hb i hi), fun i hi => unE (by omega) (h.notes i hi)⟩
/-- in the place of a town that isn't there yet -/
theorem MI.setFree (h : MI f P T B S Y) {k : Nat} {x : Int32} (hk : (∃ a, T ≤ a ∧ a < 5 ∧ (k = 136 + a ∨ k = 141 + a ∨ (146 + 140 * a ≤ k ∧ k < 286 + 140 * a)))) : MI (upd f k x) P T B S Y := by
  obtain ⟨a, h1, h2, h3⟩ := hk
  have := h.P4; have := h.T5; have := h.B10
  exact ⟨⟨un_ (by omega) h.h0, h.P4⟩, ⟨un_ (by omega) h.h1, h.T5⟩, ⟨un_ (by omega) h.h2, h.B10⟩, ⟨un_ (by omega) h.h3, h.S100⟩, un_ (by omega) h.h4, ⟨un_ (by omega) h.h5, h.Yd⟩, fun i hi => unE (by omega) (h.kind i hi), fun i hi => unE (by omega) (h.v i hi), fun i hi => unE (by omega) (h.row i hi), fun i hi => unE (by omega) (h.note i hi), fun i hi => unE (by omega) (h.book i hi), fun i hi => unE (by omega) (h.notes i hi)⟩
end
theorem per_iff {x : Int32} {P : Nat} (hP : P ≤ 4) : (0 ≤ x ∧ x ≤ nI P - 1) ↔ (0 ≤ x ∧ x < nI P) := by
  have h : (nI P - 1).toInt = (P : Int) - 1 := pk_sub_toInt (a := P) (b := 1) (by omega) (by decide)
  have h2 : (nI P).toInt = P := nI_toInt (by omega)
  simp only [le_i, lt_i, h, h2]
  have : (0 : Int32).toInt = 0 := by decide
  omega
theorem day_iff {x : Int32} {P : Nat} (hP : P ≤ 4) : (0 ≤ x ∧ x ≤ nI (d8 P) - 1) ↔ (0 ≤ x ∧ x < nI (d8 P)) := by
  have h0 := d8_le hP
  have h : (nI (d8 P) - 1).toInt = (d8 P : Int) - 1 := pk_sub_toInt (a := d8 P) (b := 1) (by omega) (by decide)
  have h2 : (nI (d8 P)).toInt = d8 P := nI_toInt (by omega)
  simp only [le_i, lt_i, h, h2]
  have : (0 : Int32).toInt = 0 := by decide
  omega
end CI
section CI2
theorem MI.hold {f : Nat → Int32} {P T B S Y : Nat} (h : MI f P T B S Y) : (T = 0 ∧ f 4 = -1) ∨ ∃ t : Nat, T = t + 1 ∧ f 4 = nI t := by
  have e := h.h4
  cases T with
  | zero => exact Or.inl ⟨rfl, e.trans (by decide +kernel)⟩
  | succ t => exact Or.inr ⟨t, rfl, e.trans (pk_m1 t)⟩
theorem nx_or (a b : Nat) : nI a ||| nI b = nI (a ||| b) := by
  apply Int32.toBitVec_inj.mp
  show (nI a).toBitVec ||| (nI b).toBitVec = (nI (a ||| b)).toBitVec
  show BitVec.ofNat 32 a ||| BitVec.ofNat 32 b = BitVec.ofNat 32 (a ||| b)
  apply BitVec.eq_of_toNat_eq
  simp [BitVec.toNat_or, Nat.or_mod_two_pow]
theorem nx_and' (a b : Nat) : nI a &&& nI b = nI (a &&& b) := by
  apply Int32.toBitVec_inj.mp
  show BitVec.ofNat 32 a &&& BitVec.ofNat 32 b = BitVec.ofNat 32 (a &&& b)
  apply BitVec.eq_of_toNat_eq
  simp [BitVec.toNat_and, Nat.and_mod_two_pow]
theorem nx_xor' (a b : Nat) : nI a ^^^ nI b = nI (a ^^^ b) := by
  apply Int32.toBitVec_inj.mp
  show BitVec.ofNat 32 a ^^^ BitVec.ofNat 32 b = BitVec.ofNat 32 (a ^^^ b)
  apply BitVec.eq_of_toNat_eq
  simp [BitVec.toNat_xor, Nat.xor_mod_two_pow]
theorem sh3 : ∀ p : Fin 4, ∀ o : Fin 8, nI o.val <<< ((3 * nI p.val) &&& 31) = nI (o.val * 8 ^ p.val) ∧ o.val * 8 ^ p.val < 4096 := by decide +kernel
theorem msk3 : ∀ p : Fin 4, ((7 : Int32) <<< ((3 * nI p.val) &&& 31)) ^^^ (-1) = nI (4294967295 - 7 * 8 ^ p.val) := by decide +kernel
/-- a day with one's own hours set -/
theorem own_lt {d p o : Nat} (hd : d < 4096) (hp : p < 4) (ho : o < 8) : ∃ w : Nat, w < 4096 ∧ (nI d &&& (((7 : Int32) <<< ((3 * nI p) &&& 31)) ^^^ (-1))) ||| (nI o <<< ((3 * nI p) &&& 31)) = nI w := by
  have h1 := sh3 ⟨p, hp⟩ ⟨o, ho⟩
  have h2 := msk3 ⟨p, hp⟩
  simp only at h1 h2
  rw [h1.1, h2, nx_and', nx_or]
  refine ⟨_, ?_, rfl⟩
  exact Nat.or_lt_two_pow (n := 12) (Nat.lt_of_le_of_lt (Nat.and_le_left) hd) h1.2
/-- an answer grows by one bit -/
theorem ans_lt {a k : Nat} (h : a < 2 ^ k) : a ||| 2 ^ k < 2 ^ (k + 1) := Nat.or_lt_two_pow (Nat.lt_of_lt_of_le h (Nat.pow_le_pow_right (by decide) (by omega))) (Nat.pow_lt_pow_right (by decide) (by omega))
theorem bit_sh : ∀ k : Fin 12, (1 : Int32) <<< ((nI k.val) &&& 31) = nI (2 ^ k.val) := by decide +kernel
theorem d8_two (P : Nat) : 2 ^ (3 * P) = d8 P := by
  unfold d8
  rw [Nat.pow_mul]
theorem hour_iff {x : Int32} : ((0 : Int32) ≤ x ∧ x ≤ (2 : Int32)) ↔ ((0 : Int32) ≤ x ∧ x < nI 3) := by
  have h2 : (nI 3).toInt = 3 := by decide +kernel
  have h3 : (2 : Int32).toInt = 2 := by decide +kernel
  simp only [le_i, lt_i, h2, h3]
  omega
theorem nI_dec {n : Nat} (h : 1 ≤ n) : nI n + Int32.ofInt (-1) = nI (n - 1) := by
  obtain ⟨k, rfl⟩ : ∃ k, n = k + 1 := ⟨n - 1, by omega⟩
  rw [Nat.add_sub_cancel]
  exact pk_m1 k
theorem or0 (x : Int32) : x ||| 0 = x := by
  apply Int32.toBitVec_inj.mp
  show x.toBitVec ||| 0#32 = x.toBitVec
  simp
theorem MI.hold0 {f : Nat → Int32} {P T B S Y : Nat} (h : MI f P T B S Y) (h0 : T = 0) : f 4 = -1 := by
  rcases h.hold with ⟨-, e⟩ | ⟨t, e1, e⟩
  · exact e
  · omega
theorem MI.hold1 {f : Nat → Int32} {P T B S Y t : Nat} (h : MI f P T B S Y) (h0 : T = t + 1) : f 4 = nI t := by
  rcases h.hold with ⟨e1, -⟩ | ⟨t', e1, e⟩
  · omega
  · rw [e]; congr 1; omega
theorem nat_toInt_neg {n : Nat} (h : n < 2 ^ 31) {z : Int32} (hz : z < 0) : z.toInt < (nI n).toInt := by
  have := lt_i.mp hz
  have e : (0 : Int32).toInt = 0 := by decide
  rw [nI_toInt h]
  omega
theorem nat_ne_neg {n : Nat} (h : n < 2 ^ 31) {z : Int32} (hz : z < 0) : ¬ nI n = z := fun e => by
  have := nat_toInt_neg h hz
  rw [e] at this
  omega
theorem nat_gt_neg {n : Nat} (h : n < 2 ^ 31) {z : Int32} (hz : z < 0) : z < nI n := lt_i.mpr (nat_toInt_neg h hz)
theorem nat_ge_neg {n : Nat} (h : n < 2 ^ 31) {z : Int32} (hz : z < 0) : z ≤ nI n := le_i.mpr (by have := nat_toInt_neg h hz; omega)
theorem nat_nlt_neg {n : Nat} (h : n < 2 ^ 31) {z : Int32} (hz : z < 0) : ¬ nI n < z := fun e => by
  have := nat_toInt_neg h hz
  have := lt_i.mp e
  omega
theorem nat_nle_neg {n : Nat} (h : n < 2 ^ 31) {z : Int32} (hz : z < 0) : ¬ nI n ≤ z := fun e => by
  have := nat_toInt_neg h hz
  have := le_i.mp e
  omega
/-- but for yesterday and the notes the rows are the same -/
def EqN (f g : Nat → Int32) : Prop := ∀ i, i ≠ 5 → (i < 122 ∨ 126 ≤ i) → f i = g i
theorem EqN.setY {f : Nat → Int32} (x : Int32) : EqN (upd f 5 x) f := fun i h _ => pk_un h
theorem EqN.set {f g : Nat → Int32} {j : Nat} (h : EqN f g) (x : Int32) (hj : j < 4) : EqN (upd f (122 + j) x) g := fun i h1 h2 => (pk_un (by omega)).trans (h i h1 h2)
theorem EqN.trans {f g k : Nat → Int32} (h : EqN f g) (h2 : EqN g k) : EqN f k := fun i a b => (h i a b).trans (h2 i a b)
end CI2
section CI3
theorem xor_lt {a k : Nat} (ha : a < 4096) (hk : k < 12) : a ^^^ 2 ^ k < 4096 := Nat.xor_lt_two_pow (n := 12) ha (Nat.pow_lt_pow_right (by decide) hk)
/-- the first n places hold days -/
def CD (f : Nat → Int32) (n : Nat) : Prop := ∀ j, j < n → ∃ c : Nat, c < 4096 ∧ f j = nI c
theorem CD.first {f : Nat → Int32} {d : Nat} (h : d < 4096) : CD (upd f 0 (nI d)) 1 := fun j hj => ⟨d, h, by rw [show j = 0 by omega, pk_us]⟩
theorem CD.push {f : Nat → Int32} {n d : Nat} (hf : CD f n) (h : d < 4096) : CD (upd f n (nI d)) (n + 1) := fun j hj => by
  by_cases e : j = n
  · rw [e, pk_us]; exact ⟨d, h, rfl⟩
  · rw [pk_un e]; exact hf j (by omega)
/-- what keeps() has kept -/
def KF (k f : Nat → Int32) : Prop := (∀ j, j < 4 → k j = f (110 + j)) ∧ (∀ j, j < 4 → k (4 + j) = f (114 + j)) ∧ ∀ j, j < 4 → k (8 + j) = f (118 + j)
theorem kf_mk (k f : Nat → Int32) : KF (upd (upd (upd (upd (upd (upd (upd (upd (upd (upd (upd (upd k 0 (f 110)) 4 (f 114)) 8 (f 118)) 1 (f 111)) 5 (f 115)) 9 (f 119)) 2 (f 112)) 6 (f 116)) 10 (f 120)) 3 (f 113)) 7 (f 117)) 11 (f 121)) f := by
  refine ⟨fun j hj => ?_, fun j hj => ?_, fun j hj => ?_⟩ <;> rcases (show j = 0 ∨ j = 1 ∨ j = 2 ∨ j = 3 by omega) with rfl | rfl | rfl | rfl <;> simp [upd]
/-- but for kinds, vs and rows the rows are the same -/
def EqX (f g : Nat → Int32) : Prop := ∀ i, (i < 110 ∨ 122 ≤ i) → f i = g i
theorem EqX.rf {f : Nat → Int32} : EqX f f := fun _ _ => rfl
theorem EqX.set {f g : Nat → Int32} {i : Nat} (h : EqX f g) (x : Int32) (h1 : 110 ≤ i) (h2 : i < 122) : EqX (upd f i x) g := fun j hj => (pk_un (by omega)).trans (h j hj)
theorem gb_eq {k f g : Nat → Int32} (hk : KF k g) (h : EqX f g) : (upd (upd (upd (upd (upd (upd (upd (upd (upd (upd (upd (upd f 110 (k 0)) 114 (k 4)) 118 (k 8)) 111 (k 1)) 115 (k 5)) 119 (k 9)) 112 (k 2)) 116 (k 6)) 120 (k 10)) 113 (k 3)) 117 (k 7)) 121 (k 11)) = g := by
  have a0 := hk.1 0 (by omega); have a1 := hk.1 1 (by omega); have a2 := hk.1 2 (by omega); have a3 := hk.1 3 (by omega)
  have b0 := hk.2.1 0 (by omega); have b1 := hk.2.1 1 (by omega); have b2 := hk.2.1 2 (by omega); have b3 := hk.2.1 3 (by omega)
  have c0 := hk.2.2 0 (by omega); have c1 := hk.2.2 1 (by omega); have c2 := hk.2.2 2 (by omega); have c3 := hk.2.2 3 (by omega)
  funext i
  by_cases hi : i < 110 ∨ 122 ≤ i
  · simp only [pk_un (show i ≠ 110 by omega), pk_un (show i ≠ 111 by omega), pk_un (show i ≠ 112 by omega), pk_un (show i ≠ 113 by omega), pk_un (show i ≠ 114 by omega), pk_un (show i ≠ 115 by omega), pk_un (show i ≠ 116 by omega), pk_un (show i ≠ 117 by omega), pk_un (show i ≠ 118 by omega), pk_un (show i ≠ 119 by omega), pk_un (show i ≠ 120 by omega), pk_un (show i ≠ 121 by omega)]
    exact h i hi
  · rcases (show i = 110 ∨ i = 111 ∨ i = 112 ∨ i = 113 ∨ i = 114 ∨ i = 115 ∨ i = 116 ∨ i = 117 ∨ i = 118 ∨ i = 119 ∨ i = 120 ∨ i = 121 by omega) with rfl | rfl | rfl | rfl | rfl | rfl | rfl | rfl | rfl | rfl | rfl | rfl <;> simp [upd, *]
theorem MI.congr {f g : Nat → Int32} {P T B S Y : Nat} (h : MI f P T B S Y) (e : ∀ i, i < 846 → g i = f i) : MI g P T B S Y := by
  have hP := h.P4; have hT := h.T5; have hB := h.B10
  refine ⟨⟨(e 0 (by omega)).trans h.h0, h.P4⟩, ⟨(e 1 (by omega)).trans h.h1, h.T5⟩, ⟨(e 2 (by omega)).trans h.h2, h.B10⟩, ⟨(e 3 (by omega)).trans h.h3, h.S100⟩, (e 4 (by omega)).trans h.h4, ⟨(e 5 (by omega)).trans h.h5, h.Yd⟩, fun i hi => ?_, fun i hi => ?_, fun i hi => ?_, fun i hi => ?_, fun i hi => ?_, fun i hi => ?_⟩
  · rw [e _ (by omega)]; exact h.kind i hi
  · rw [e _ (by omega)]; exact h.v i hi
  · rw [e _ (by omega)]; exact h.row i hi
  · rw [e _ (by omega)]; exact h.note i hi
  · rw [e _ (by omega)]; exact h.book i hi
  · rw [e _ (by omega)]; exact h.notes i hi
end CI3
theorem own_lt' {d p o : Nat} (hd : d < 4096) (hp : p < 4) (ho : o < 8) : ∃ w : Nat, w < 4096 ∧ (nI d &&& (((7 : Int32) <<< ((nI (3 * p)) &&& 31)) ^^^ (-1))) ||| (nI o <<< ((nI (3 * p)) &&& 31)) = nI w := by
  have e : nI (3 * p) = 3 * nI p := (pk_mul 3 p).symm
  rw [e]
  exact own_lt hd hp ho
section CI4
theorem nat_ofle {x : Int32} {n : Nat} (h : 0 ≤ x ∧ x ≤ nI n) (hn : n < 2 ^ 31) : ∃ j : Nat, j ≤ n ∧ x = nI j := by
  have h2 : (nI n).toInt = n := nI_toInt hn
  have h0 : (0 : Int32).toInt = 0 := by decide
  have a := le_i.mp h.1
  have b := le_i.mp h.2
  obtain ⟨j, hj, rfl⟩ := nI_of (x := x) (fun q => by have := lt_i.mp q; omega)
  have h3 : (nI j).toInt = j := nI_toInt hj
  exact ⟨j, by omega, rfl⟩
theorem nat_ofle1 {x : Int32} {n : Nat} (h : 1 ≤ x ∧ x ≤ nI n) (hn : n < 2 ^ 31) : ∃ j : Nat, j ≤ n ∧ x = nI j := by
  have h0 : (0 : Int32).toInt = 0 := by decide
  have h1 : (1 : Int32).toInt = 1 := by decide
  exact nat_ofle ⟨le_i.mpr (by have := le_i.mp h.1; omega), h.2⟩ hn
theorem EqN.rf {f : Nat → Int32} : EqN f f := fun _ _ _ => rfl
end CI4
theorem sh1 : ∀ P : Nat, P < 5 → (1 : Int32) <<< (nI P &&& 31) = nI (2 ^ P) ∧ 2 ^ P ≤ 16 := by decide +kernel
theorem s31 : ∀ n : Nat, n < 32 → ((nI n &&& 31).toBitVec.smod 32).toNat = n := by decide +kernel
theorem shrN {a k : Nat} (ha : a < 2 ^ 31) (hk : k < 32) : nI a >>> (nI k &&& 31) = nI (a / 2 ^ k) := pk_shrN ha _ k (s31 k hk)
theorem agr_s {f g : Nat → Int32} {j : Nat} (h : ∀ i, i < j → f i = g i) : ∀ i, i < j + 1 → upd f j (g j) i = g i := fun i hi => by
  by_cases e : i = j
  · rw [e, pk_us]
  · rw [pk_un e]; exact h i (by omega)
theorem trc1 {x : Int32} {r : Nat} (h : 0 ≤ x ∧ x ≤ nI r - 1) (hr : r < 20) : vp_in x 20 := by
  have h1 : (nI r - 1).toInt = (r : Int) - 1 := pk_sub_toInt (a := r) (b := 1) (by omega) (by decide)
  have h0 : (0 : Int32).toInt = 0 := by decide
  have a := le_i.mp h.1
  have b := le_i.mp h.2
  exact vp_in_iff.mpr (by omega)
theorem trc2 {x : Int32} (h : 0 ≤ x ∧ x ≤ (19 : Int32)) : vp_in x 20 := by
  have h1 : (19 : Int32).toInt = 19 := by decide
  have h0 : (0 : Int32).toInt = 0 := by decide
  have a := le_i.mp h.1
  have b := le_i.mp h.2
  exact vp_in_iff.mpr (by omega)
/-! what both sides hold, as numbers: kinds, vs, rows; what a call makes of them, and what it answers -/
section CA
abbrev Fk : Type := (Nat → Nat) × (Nat → Nat) × (Nat → Nat)
def fS (f : Nat → Nat) (k v : Nat) : Nat → Nat := fun j => if j = k then v else f j
theorem fS_s {f : Nat → Nat} {k v : Nat} : fS f k v k = v := if_pos rfl
theorem fS_n {f : Nat → Nat} {k v j : Nat} (h : j ≠ k) : fS f k v j = f j := if_neg h
theorem fS_lt {f : Nat → Nat} {k v n : Nat} (h : ∀ j, j < 4 → f j < n) (hv : v < n) : ∀ j, j < 4 → fS f k v j < n := fun j hj => by
  by_cases e : j = k
  · subst e; rw [fS_s]; exact hv
  · rw [fS_n e]; exact h j hj
/-- four ints from a place on are these numbers -/
def A4 (g : Nat → Int32) (b : Nat) (f : Nat → Nat) : Prop := ∀ j, j < 4 → g (b + j) = nI (f j)
theorem A4.cong {g h : Nat → Int32} {b : Nat} {f : Nat → Nat} (a : A4 g b f) (e : ∀ i, b ≤ i → i < b + 4 → h i = g i) : A4 h b f := fun j hj => (e _ (by omega) (by omega)).trans (a j hj)
theorem A4.put {g : Nat → Int32} {b k v : Nat} {f : Nat → Nat} (a : A4 g b f) : A4 (upd g (b + k) (nI v)) b (fS f k v) := fun j hj => by
  by_cases e : j = k
  · subst e; rw [pk_us, fS_s]
  · rw [pk_un (by omega), fS_n e]; exact a j hj
theorem A4.un {g : Nat → Int32} {b k : Nat} {x : Int32} {f : Nat → Nat} (a : A4 g b f) (h : k < b ∨ b + 4 ≤ k) : A4 (upd g k x) b f := a.cong (fun i h1 h2 => pk_un (by omega))
theorem A4.put0 {g : Nat → Int32} {k v : Nat} {f : Nat → Nat} (a : A4 g 0 f) : A4 (upd g k (nI v)) 0 (fS f k v) := by
  have h := a.put (k := k) (v := v)
  rwa [Nat.zero_add] at h
theorem A4.g0 {g : Nat → Int32} {f : Nat → Nat} (a : A4 g 0 f) {j : Nat} (hj : j < 4) : g j = nI (f j) := by
  have h := a j hj
  rwa [Nat.zero_add] at h
theorem A4.same {g h : Nat → Int32} {f : Nat → Nat} (a : A4 g 0 f) (e : ∀ i, i < 4 → h i = g i) : A4 h 0 f := a.cong (fun i _ h2 => e i (by omega))
def AF (sv : Nat → Int32) (F : Fk) : Prop := A4 sv 110 F.1 ∧ A4 sv 114 F.2.1 ∧ A4 sv 118 F.2.2
def CF (fk fv fr : Nat → Int32) (F : Fk) : Prop := A4 fk 0 F.1 ∧ A4 fv 0 F.2.1 ∧ A4 fr 0 F.2.2
def FB (F : Fk) : Prop := (∀ j, j < 4 → F.1 j < 7) ∧ (∀ j, j < 4 → F.2.1 j < 10) ∧ ∀ j, j < 4 → F.2.2 j < 8
theorem AF.cong {g h : Nat → Int32} {F : Fk} (a : AF g F) (e : ∀ i, 110 ≤ i → i < 122 → h i = g i) : AF h F := ⟨a.1.cong (fun i _ _ => e i (by omega) (by omega)), a.2.1.cong (fun i _ _ => e i (by omega) (by omega)), a.2.2.cong (fun i _ _ => e i (by omega) (by omega))⟩
theorem AF.un {g : Nat → Int32} {F : Fk} {k : Nat} {x : Int32} (a : AF g F) (h : k < 110 ∨ 122 ≤ k) : AF (upd g k x) F := a.cong (fun i h1 h2 => pk_un (by omega))
theorem CF.same {fk fv fr gk gv gr : Nat → Int32} {F : Fk} (a : CF fk fv fr F) (e1 : ∀ i, i < 4 → gk i = fk i) (e2 : ∀ i, i < 4 → gv i = fv i) (e3 : ∀ i, i < 4 → gr i = fr i) : CF gk gv gr F := ⟨a.1.same e1, a.2.1.same e2, a.2.2.same e3⟩
def F0k : Fk := (fun _ => 0, fun _ => 0, fun _ => 0)
theorem FB.zero : FB F0k := ⟨fun _ _ => Nat.zero_lt_succ 6, fun _ _ => Nat.zero_lt_succ 9, fun _ _ => Nat.zero_lt_succ 7⟩
/-- person -/
def perF (P : Nat) (F : Fk) (x y : Int32) : Fk := if (0 : Int32) ≤ x ∧ x ≤ (6 : Int32) then (if (0 : Int32) ≤ y ∧ y ≤ (9 : Int32) then (if nI P = (4 : Int32) then F else (fS F.1 P x.toNatClampNeg, fS F.2.1 P y.toNatClampNeg, fS F.2.2 P 0)) else F) else F
theorem perF_1 {P : Nat} {F : Fk} {x y : Int32} (h : ¬ ((0 : Int32) ≤ x ∧ x ≤ (6 : Int32))) : perF P F x y = F := if_neg h
theorem perF_2 {P : Nat} {F : Fk} {x y : Int32} (h : (0 : Int32) ≤ x ∧ x ≤ (6 : Int32)) (h2 : ¬ ((0 : Int32) ≤ y ∧ y ≤ (9 : Int32))) : perF P F x y = F := (if_pos h).trans (if_neg h2)
theorem perF_3 {P : Nat} {F : Fk} {x y : Int32} (h : (0 : Int32) ≤ x ∧ x ≤ (6 : Int32)) (h2 : (0 : Int32) ≤ y ∧ y ≤ (9 : Int32)) (h3 : P = 4) : perF P F x y = F := (if_pos h).trans ((if_pos h2).trans (if_pos (congrArg nI h3)))
theorem nle_6 {a : Nat} (h : a ≤ 6) : (0 : Int32) ≤ nI a ∧ nI a ≤ (6 : Int32) := ⟨nI_pos' (by omega), nI_le h (by decide)⟩
theorem nle_9 {a : Nat} (h : a ≤ 9) : (0 : Int32) ≤ nI a ∧ nI a ≤ (9 : Int32) := ⟨nI_pos' (by omega), nI_le h (by decide)⟩
theorem nle_7 {a : Nat} (h : a ≤ 7) : (0 : Int32) ≤ nI a ∧ nI a ≤ (7 : Int32) := ⟨nI_pos' (by omega), nI_le h (by decide)⟩
theorem n4_ne {P : Nat} (h : P < 4) : ¬ nI P = (4 : Int32) := fun e => by
  have := (nI_eq (a := P) (b := 4) (by omega) (by decide)).mp e
  omega
theorem perF_4 {P : Nat} {F : Fk} {a b : Nat} (h : a ≤ 6) (h2 : b ≤ 9) (h3 : P < 4) : perF P F (nI a) (nI b) = (fS F.1 P a, fS F.2.1 P b, fS F.2.2 P 0) := by
  refine ((if_pos (nle_6 h)).trans ((if_pos (nle_9 h2)).trans (if_neg (n4_ne h3)))).trans ?_
  rw [nI_clamp (n := a) (by omega), nI_clamp (n := b) (by omega)]
theorem perF.B {P : Nat} {F : Fk} {x y : Int32} (B : FB F) : FB (perF P F x y) := by
  unfold perF
  split
  · rename_i h
    split
    · rename_i h2
      split
      · exact B
      · obtain ⟨a, ha, rfl⟩ := nat_ofle (n := 6) h (by decide)
        obtain ⟨b, hb, rfl⟩ := nat_ofle (n := 9) h2 (by decide)
        rw [nI_clamp (n := a) (by omega), nI_clamp (n := b) (by omega)]
        exact ⟨fS_lt B.1 (by omega), fS_lt B.2.1 (by omega), fS_lt B.2.2 (by omega)⟩
    · exact B
  · exact B
theorem AF.per {sv : Nat → Int32} {F : Fk} {P a b : Nat} (h : AF sv F) (hP : P < 4) : AF (upd (upd (upd (upd (upd sv (110 + P) (nI a)) (114 + P) (nI b)) (118 + P) 0) (122 + P) 0) 0 (nI (P + 1))) (fS F.1 P a, fS F.2.1 P b, fS F.2.2 P 0) :=
  ⟨((((h.1.put).un (by omega)).un (by omega)).un (by omega)).un (by omega), ((((h.2.1.un (by omega)).put).un (by omega)).un (by omega)).un (by omega), (((((h.2.2.un (by omega)).un (by omega)).put (v := 0)).un (by omega)).un (by omega))⟩
theorem per_fr {sv : Nat → Int32} {P i : Nat} {x y z w q : Int32} (hP : P < 4) (h0 : i ≠ 0) (h1 : i < 110 ∨ 126 ≤ i) : upd (upd (upd (upd (upd sv (110 + P) x) (114 + P) y) (118 + P) z) (122 + P) w) 0 q i = sv i := by
  rw [pk_un (by omega), pk_un (by omega), pk_un (by omega), pk_un (by omega), pk_un (by omega)]
/-- row -/
def rowA (P : Nat) (F : Fk) (x y : Int32) : Int32 := if (0 : Int32) ≤ x ∧ x < nI P then (if (0 : Int32) ≤ y ∧ y ≤ (7 : Int32) then (if F.1 x.toNatClampNeg = 6 then nI (F.2.2 x.toNatClampNeg) else (-3)) else (-2)) else (-1)
def rowF (P : Nat) (F : Fk) (x y : Int32) : Fk := if (0 : Int32) ≤ x ∧ x < nI P then (if (0 : Int32) ≤ y ∧ y ≤ (7 : Int32) then (if F.1 x.toNatClampNeg = 6 then (F.1, F.2.1, fS F.2.2 x.toNatClampNeg y.toNatClampNeg) else F) else F) else F
theorem npe {P p : Nat} (h : p < P) (h4 : P ≤ 4) : (0 : Int32) ≤ nI p ∧ nI p < nI P := ⟨nI_pos' (by omega), nI_lt h (by omega)⟩
theorem row_1 {P : Nat} {F : Fk} {x y : Int32} (h : ¬ ((0 : Int32) ≤ x ∧ x < nI P)) : rowA P F x y = (-1) ∧ rowF P F x y = F := ⟨if_neg h, if_neg h⟩
theorem row_2 {P p : Nat} {F : Fk} {y : Int32} (h : p < P) (h4 : P ≤ 4) (h2 : ¬ ((0 : Int32) ≤ y ∧ y ≤ (7 : Int32))) : rowA P F (nI p) y = (-2) ∧ rowF P F (nI p) y = F := ⟨(if_pos (npe h h4)).trans (if_neg h2), (if_pos (npe h h4)).trans (if_neg h2)⟩
theorem row_3 {P p a : Nat} {F : Fk} (h : p < P) (h4 : P ≤ 4) (h2 : a ≤ 7) (h3 : ¬ F.1 p = 6) : rowA P F (nI p) (nI a) = (-3) ∧ rowF P F (nI p) (nI a) = F := by
  have e : ¬ F.1 (nI p).toNatClampNeg = 6 := by rw [nI_clamp (n := p) (by omega)]; exact h3
  exact ⟨(if_pos (npe h h4)).trans ((if_pos (nle_7 h2)).trans (if_neg e)), (if_pos (npe h h4)).trans ((if_pos (nle_7 h2)).trans (if_neg e))⟩
theorem row_4 {P p a : Nat} {F : Fk} (h : p < P) (h4 : P ≤ 4) (h2 : a ≤ 7) (h3 : F.1 p = 6) : rowA P F (nI p) (nI a) = nI (F.2.2 p) ∧ rowF P F (nI p) (nI a) = (F.1, F.2.1, fS F.2.2 p a) := by
  have e : F.1 (nI p).toNatClampNeg = 6 := by rw [nI_clamp (n := p) (by omega)]; exact h3
  refine ⟨((if_pos (npe h h4)).trans ((if_pos (nle_7 h2)).trans (if_pos e))).trans ?_, ((if_pos (npe h h4)).trans ((if_pos (nle_7 h2)).trans (if_pos e))).trans ?_⟩
  · rw [nI_clamp (n := p) (by omega)]
  · rw [nI_clamp (n := p) (by omega), nI_clamp (n := a) (by omega)]
theorem rowF.B {P : Nat} {F : Fk} {x y : Int32} (B : FB F) : FB (rowF P F x y) := by
  unfold rowF
  split
  · split
    · rename_i h2
      split
      · obtain ⟨b, hb, rfl⟩ := nat_ofle (n := 7) h2 (by decide)
        rw [nI_clamp (n := b) (by omega)]
        exact ⟨B.1, B.2.1, fS_lt B.2.2 (by omega)⟩
      · exact B
    · exact B
  · exact B
theorem AF.row {sv : Nat → Int32} {F : Fk} {p a : Nat} (h : AF sv F) (hp : p < 4) : AF (upd sv (118 + p) (nI a)) (F.1, F.2.1, fS F.2.2 p a) := ⟨h.1.un (by omega), h.2.1.un (by omega), h.2.2.put⟩
theorem CF.row {fk fv fr : Nat → Int32} {F : Fk} {p a : Nat} (h : CF fk fv fr F) : CF fk fv (upd fr p (nI a)) (F.1, F.2.1, fS F.2.2 p a) := ⟨h.1, h.2.1, h.2.2.put0⟩
theorem CF.per {fk fv fr : Nat → Int32} {F : Fk} {P a b : Nat} (h : CF fk fv fr F) : CF (upd fk P (nI a)) (upd fv P (nI b)) (upd fr P 0) (fS F.1 P a, fS F.2.1 P b, fS F.2.2 P 0) := ⟨h.1.put0, h.2.1.put0, h.2.2.put0 (v := 0)⟩
/-- as -/
def asA (P : Nat) (F : Fk) (x y : Int32) : Int32 := if (0 : Int32) ≤ x ∧ x < nI P then (if (0 : Int32) ≤ y ∧ y ≤ (6 : Int32) then (if y.toNatClampNeg = 0 ∨ y.toNatClampNeg = F.1 x.toNatClampNeg ∨ (y.toNatClampNeg = 2 ∧ F.1 x.toNatClampNeg = 4) ∨ (y.toNatClampNeg = 3 ∧ 4 < F.1 x.toNatClampNeg) then nI (F.2.1 x.toNatClampNeg) else (-6)) else (-1)) else (-1)
theorem as_1 {P : Nat} {F : Fk} {x y : Int32} (h : ¬ ((0 : Int32) ≤ x ∧ x < nI P)) : asA P F x y = (-1) := if_neg h
theorem as_2 {P p : Nat} {F : Fk} {y : Int32} (h : p < P) (h4 : P ≤ 4) (h2 : ¬ ((0 : Int32) ≤ y ∧ y ≤ (6 : Int32))) : asA P F (nI p) y = (-1) := (if_pos (npe h h4)).trans (if_neg h2)
theorem as_3 {P p a : Nat} {F : Fk} (h : p < P) (h4 : P ≤ 4) (h2 : a ≤ 6) (h3 : a = 0 ∨ a = F.1 p ∨ (a = 2 ∧ F.1 p = 4) ∨ (a = 3 ∧ 4 < F.1 p)) : asA P F (nI p) (nI a) = nI (F.2.1 p) := by
  unfold asA
  rw [nI_clamp (n := p) (by omega), nI_clamp (n := a) (by omega)]
  exact (if_pos (npe h h4)).trans ((if_pos (nle_6 h2)).trans (if_pos h3))
theorem as_4 {P p a : Nat} {F : Fk} (h : p < P) (h4 : P ≤ 4) (h2 : a ≤ 6) (h3 : ¬ (a = 0 ∨ a = F.1 p ∨ (a = 2 ∧ F.1 p = 4) ∨ (a = 3 ∧ 4 < F.1 p))) : asA P F (nI p) (nI a) = (-6) := by
  unfold asA
  rw [nI_clamp (n := p) (by omega), nI_clamp (n := a) (by omega)]
  exact (if_pos (npe h h4)).trans ((if_pos (nle_6 h2)).trans (if_neg h3))
/-- book -/
def bookB (P B : Nat) (x : Int32) : Nat := if x = (-1 : Int32) then 0 else (if (0 : Int32) ≤ x ∧ x < nI (d8 P) then (if B = 10 then B else B + 1) else B)
def bookA (P B : Nat) (x : Int32) : Int32 := if x = (-1 : Int32) then 0 else (if (0 : Int32) ≤ x ∧ x < nI (d8 P) then (if B = 10 then (-4) else nI (B + 1)) else (-2))
def bookV (sv : Nat → Int32) (P B : Nat) (x : Int32) : Nat → Int32 := if x = (-1 : Int32) then upd sv 2 0 else (if (0 : Int32) ≤ x ∧ x < nI (d8 P) then (if B = 10 then sv else upd (upd sv (126 + B) x) 2 (nI (B + 1))) else sv)
def bookC (fb : Nat → Int32) (P B : Nat) (x : Int32) : Nat → Int32 := if x = (-1 : Int32) then fb else (if (0 : Int32) ≤ x ∧ x < nI (d8 P) then (if B = 10 then fb else upd fb B x) else fb)
section
variable {P B : Nat} {x : Int32} {sv fb : Nat → Int32}
theorem book_1 (h : x = (-1 : Int32)) : bookA P B x = 0 ∧ bookB P B x = 0 ∧ bookV sv P B x = upd sv 2 0 ∧ bookC fb P B x = fb := ⟨if_pos h, if_pos h, if_pos h, if_pos h⟩
theorem book_2 (h : ¬ x = (-1 : Int32)) (h2 : ¬ ((0 : Int32) ≤ x ∧ x < nI (d8 P))) : bookA P B x = (-2) ∧ bookB P B x = B ∧ bookV sv P B x = sv ∧ bookC fb P B x = fb := ⟨(if_neg h).trans (if_neg h2), (if_neg h).trans (if_neg h2), (if_neg h).trans (if_neg h2), (if_neg h).trans (if_neg h2)⟩
theorem book_3 (h : ¬ x = (-1 : Int32)) (h2 : (0 : Int32) ≤ x ∧ x < nI (d8 P)) (h3 : B = 10) : bookA P B x = (-4) ∧ bookB P B x = B ∧ bookV sv P B x = sv ∧ bookC fb P B x = fb := ⟨(if_neg h).trans ((if_pos h2).trans (if_pos h3)), (if_neg h).trans ((if_pos h2).trans (if_pos h3)), (if_neg h).trans ((if_pos h2).trans (if_pos h3)), (if_neg h).trans ((if_pos h2).trans (if_pos h3))⟩
theorem book_4 (h : ¬ x = (-1 : Int32)) (h2 : (0 : Int32) ≤ x ∧ x < nI (d8 P)) (h3 : ¬ B = 10) : bookA P B x = nI (B + 1) ∧ bookB P B x = B + 1 ∧ bookV sv P B x = upd (upd sv (126 + B) x) 2 (nI (B + 1)) ∧ bookC fb P B x = upd fb B x := ⟨(if_neg h).trans ((if_pos h2).trans (if_neg h3)), (if_neg h).trans ((if_pos h2).trans (if_neg h3)), (if_neg h).trans ((if_pos h2).trans (if_neg h3)), (if_neg h).trans ((if_pos h2).trans (if_neg h3))⟩
theorem bookV.fr (hB : B ≤ 10) {i : Nat} (h : i ≠ 2) (h2 : i < 126 ∨ 136 ≤ i) : bookV sv P B x i = sv i := by
  unfold bookV
  split
  · rw [pk_un h]
  · split
    · split
      · rfl
      · rw [pk_un h, pk_un (by omega)]
    · rfl
theorem bookB.le (hB : B ≤ 10) : bookB P B x ≤ 10 := by
  unfold bookB
  split
  · omega
  · split
    · split <;> omega
    · exact hB
/-- the days of the book are the same -/
def BKr (fb sv : Nat → Int32) (B : Nat) : Prop := ∀ j, j < B → fb j = sv (126 + j)
theorem BKr.cong {fb gb sv sw : Nat → Int32} {B : Nat} (h : BKr fb sv B) (e1 : ∀ i, i < B → gb i = fb i) (e2 : ∀ i, 126 ≤ i → i < 126 + B → sw i = sv i) : BKr gb sw B := fun j hj => (e1 j hj).trans ((h j hj).trans (e2 _ (by omega) (by omega)).symm)
theorem BKr.zero {fb sv : Nat → Int32} : BKr fb sv 0 := fun j hj => absurd hj (Nat.not_lt_zero j)
theorem BKr.book (hB : B ≤ 10) (h : BKr fb sv B) : BKr (bookC fb P B x) (bookV sv P B x) (bookB P B x) := by
  unfold bookC bookV bookB
  split
  · exact BKr.zero
  · split
    · split
      · exact h
      · intro j hj
        by_cases e : j = B
        · subst e; rw [pk_us, pk_un (by omega), pk_us]
        · rw [pk_un e, pk_un (by omega), pk_un (by omega)]; exact h j (by omega)
    · exact h
end
/-- acts: what the bodies make, and which ran -/
def akn (k : Nat) (i x : Int32) : Int32 := if k = 1 then (x * 3) + i else (if k = 5 then (x + i) ^^^ i else x + i)
def ado (k : Nat) (i v x : Int32) : Int32 := if k = 2 ∨ k = 4 then -(akn k i x - v) else (if k = 6 then (akn k i x - v) + v else akn k i x - v)
def ate (k : Nat) (i v x : Int32) : Int32 := if k = 3 ∨ 4 < k then (ado k i v x * 2) ^^^ 7 else (if k = 4 then (ado k i v (x - 1) * 2) + akn k i 2 else ado k i v x * 2)
def actE (k a : Nat) (i v x : Int32) : Int32 := if a = 0 then akn k i x else (if a = 1 then ado k i v x else ate k i v x)
def bkn (k : Nat) : List Int32 := if k = 1 then [11, 1] else (if k = 5 then [51, 1] else [1])
def bdo (k : Nat) : List Int32 := if k = 2 ∨ k = 4 then 21 :: 2 :: bkn k else (if k = 6 then 61 :: 2 :: bkn k else 2 :: bkn k)
def bte (k : Nat) : List Int32 := if k = 3 ∨ 4 < k then 31 :: 3 :: bdo k else (if k = 4 then 41 :: 3 :: (bdo k ++ bkn k) else 3 :: bdo k)
def actB (k a : Nat) : List Int32 := if a = 0 then bkn k else (if a = 1 then bdo k else bte k)
def actA (P : Nat) (F : Fk) (x y z : Int32) : Int32 := if (0 : Int32) ≤ x ∧ x < nI P then (if (0 : Int32) ≤ y ∧ y ≤ (2 : Int32) then actE (F.1 x.toNatClampNeg) y.toNatClampNeg x (nI (F.2.1 x.toNatClampNeg)) z else 0) else 0
def actL (P : Nat) (F : Fk) (x y : Int32) : List Int32 := if (0 : Int32) ≤ x ∧ x < nI P then (if (0 : Int32) ≤ y ∧ y ≤ (2 : Int32) then actB (F.1 x.toNatClampNeg) y.toNatClampNeg else []) else []
section
variable {P p : Nat} {F : Fk} {x y z : Int32}
theorem act_1 (h : ¬ ((0 : Int32) ≤ x ∧ x < nI P)) : actA P F x y z = 0 ∧ actL P F x y = [] := ⟨if_neg h, if_neg h⟩
theorem act_2 (h : p < P) (h4 : P ≤ 4) (h2 : ¬ ((0 : Int32) ≤ y ∧ y ≤ (2 : Int32))) : actA P F (nI p) y z = 0 ∧ actL P F (nI p) y = [] := ⟨(if_pos (npe h h4)).trans (if_neg h2), (if_pos (npe h h4)).trans (if_neg h2)⟩
theorem act_3 {k a : Nat} (h : p < P) (h4 : P ≤ 4) (h2 : a < 3) (h3 : F.1 p = k) : actA P F (nI p) (nI a) z = actE k a (nI p) (nI (F.2.1 p)) z ∧ actL P F (nI p) (nI a) = actB k a := by
  have e : (0 : Int32) ≤ nI a ∧ nI a ≤ (2 : Int32) := ⟨nI_pos' (by omega), nI_le (show a ≤ 2 by omega) (by decide)⟩
  unfold actA actL
  rw [nI_clamp (n := p) (by omega), nI_clamp (n := a) (by omega), h3]
  exact ⟨(if_pos (npe h h4)).trans (if_pos e), (if_pos (npe h h4)).trans (if_pos e)⟩
end
theorem actB_len : ∀ k, k < 7 → ∀ a, a < 3 → (actB k a).length ≤ 6 := by decide
theorem actL.len {P : Nat} {F : Fk} {x y : Int32} (B : FB F) (h4 : P ≤ 4) : (actL P F x y).length ≤ 6 := by
  unfold actL
  split
  · rename_i h
    split
    · rename_i h2
      obtain ⟨b, hb, rfl⟩ := nat_ofle (n := 2) h2 (by decide)
      obtain ⟨a, ha, rfl⟩ := nat_of (n := P) h (by omega)
      rw [nI_clamp (n := b) (by omega), nI_clamp (n := a) (by omega)]
      exact actB_len _ (B.1 a (by omega)) b (by omega)
    · exact Nat.zero_le _
  · exact Nat.zero_le _
/-- the trace is this list -/
def TL (f : Nat → Int32) (l : List Int32) : Prop := ∀ i, i < l.length → f i = l.getD i 0
theorem TL.nil {f : Nat → Int32} : TL f [] := fun i h => absurd h (Nat.not_lt_zero i)
def trA (rl : Nat) (l : List Int32) (x : Int32) : Int32 := if (0 : Int32) ≤ x ∧ x < nI rl then l.getD x.toNatClampNeg 0 else (-1)
theorem tr_1 {rl : Nat} {l : List Int32} {x : Int32} (h : ¬ ((0 : Int32) ≤ x ∧ x < nI rl)) : trA rl l x = (-1) := if_neg h
theorem tr_2 {rl : Nat} {l : List Int32} {f : Nat → Int32} {a : Nat} (h : TL f l) (hr : rl = l.length) (h2 : a < rl) (h3 : rl ≤ 6) : f a = trA rl l (nI a) := by
  unfold trA
  rw [nI_clamp (n := a) (by omega), if_pos ⟨nI_pos' (by omega), nI_lt h2 (by omega)⟩]
  exact h a (by omega)
theorem trc_n {x : Int32} {r : Nat} (h : 0 ≤ x ∧ x ≤ nI r - 1) (hr : r < 20) : ∃ a : Nat, a < r ∧ x = nI a := by
  have h1 : (nI r - 1).toInt = (r : Int) - 1 := pk_sub_toInt (a := r) (b := 1) (by omega) (by decide)
  have h0 : (0 : Int32).toInt = 0 := by decide
  have a := le_i.mp h.1
  have b := le_i.mp h.2
  obtain ⟨j, hj, rfl⟩ := nI_of (x := x) (fun q => by have := lt_i.mp q; omega)
  have h3 : (nI j).toInt = j := nI_toInt hj
  exact ⟨j, by omega, rfl⟩
theorem trc_m {x : Int32} {r : Nat} (h : ¬ (0 ≤ x ∧ x ≤ nI r - 1)) (hr : r < 20) : ¬ ((0 : Int32) ≤ x ∧ x < nI r) := fun q => by
  obtain ⟨a, ha, rfl⟩ := nat_of q (by omega)
  apply h
  refine ⟨q.1, le_i.mpr ?_⟩
  have h1 : (nI r - 1).toInt = (r : Int) - 1 := pk_sub_toInt (a := r) (b := 1) (by omega) (by decide)
  have h3 : (nI a).toInt = a := nI_toInt (by omega)
  omega
theorem npd {d P : Nat} (h : d < d8 P) (h4 : d8 P ≤ 4096) : (0 : Int32) ≤ nI d ∧ nI d < nI (d8 P) := ⟨nI_pos' (by omega), nI_lt h (by omega)⟩
theorem tl_0_0 (f : Nat → Int32) : TL (upd f 0 1) (actB 0 0) := fun i h => by
  have h : i < 1 := h
  rcases (show i = 0 by omega) with rfl <;> rfl
theorem tl_0_1 (f : Nat → Int32) : TL (upd (upd f 0 2) 1 1) (actB 0 1) := fun i h => by
  have h : i < 2 := h
  rcases (show i = 0 ∨ i = 1 by omega) with rfl | rfl <;> rfl
theorem tl_0_2 (f : Nat → Int32) : TL (upd (upd (upd f 0 3) 1 2) 2 1) (actB 0 2) := fun i h => by
  have h : i < 3 := h
  rcases (show i = 0 ∨ i = 1 ∨ i = 2 by omega) with rfl | rfl | rfl <;> rfl
theorem tl_1_0 (f : Nat → Int32) : TL (upd (upd f 0 11) 1 1) (actB 1 0) := fun i h => by
  have h : i < 2 := h
  rcases (show i = 0 ∨ i = 1 by omega) with rfl | rfl <;> rfl
theorem tl_1_1 (f : Nat → Int32) : TL (upd (upd (upd f 0 2) 1 11) 2 1) (actB 1 1) := fun i h => by
  have h : i < 3 := h
  rcases (show i = 0 ∨ i = 1 ∨ i = 2 by omega) with rfl | rfl | rfl <;> rfl
theorem tl_1_2 (f : Nat → Int32) : TL (upd (upd (upd (upd f 0 3) 1 2) 2 11) 3 1) (actB 1 2) := fun i h => by
  have h : i < 4 := h
  rcases (show i = 0 ∨ i = 1 ∨ i = 2 ∨ i = 3 by omega) with rfl | rfl | rfl | rfl <;> rfl
theorem tl_2_0 (f : Nat → Int32) : TL (upd f 0 1) (actB 2 0) := fun i h => by
  have h : i < 1 := h
  rcases (show i = 0 by omega) with rfl <;> rfl
theorem tl_2_1 (f : Nat → Int32) : TL (upd (upd (upd f 0 21) 1 2) 2 1) (actB 2 1) := fun i h => by
  have h : i < 3 := h
  rcases (show i = 0 ∨ i = 1 ∨ i = 2 by omega) with rfl | rfl | rfl <;> rfl
theorem tl_2_2 (f : Nat → Int32) : TL (upd (upd (upd (upd f 0 3) 1 21) 2 2) 3 1) (actB 2 2) := fun i h => by
  have h : i < 4 := h
  rcases (show i = 0 ∨ i = 1 ∨ i = 2 ∨ i = 3 by omega) with rfl | rfl | rfl | rfl <;> rfl
theorem tl_3_0 (f : Nat → Int32) : TL (upd f 0 1) (actB 3 0) := fun i h => by
  have h : i < 1 := h
  rcases (show i = 0 by omega) with rfl <;> rfl
theorem tl_3_1 (f : Nat → Int32) : TL (upd (upd f 0 2) 1 1) (actB 3 1) := fun i h => by
  have h : i < 2 := h
  rcases (show i = 0 ∨ i = 1 by omega) with rfl | rfl <;> rfl
theorem tl_3_2 (f : Nat → Int32) : TL (upd (upd (upd (upd f 0 31) 1 3) 2 2) 3 1) (actB 3 2) := fun i h => by
  have h : i < 4 := h
  rcases (show i = 0 ∨ i = 1 ∨ i = 2 ∨ i = 3 by omega) with rfl | rfl | rfl | rfl <;> rfl
theorem tl_4_0 (f : Nat → Int32) : TL (upd f 0 1) (actB 4 0) := fun i h => by
  have h : i < 1 := h
  rcases (show i = 0 by omega) with rfl <;> rfl
theorem tl_4_1 (f : Nat → Int32) : TL (upd (upd (upd f 0 21) 1 2) 2 1) (actB 4 1) := fun i h => by
  have h : i < 3 := h
  rcases (show i = 0 ∨ i = 1 ∨ i = 2 by omega) with rfl | rfl | rfl <;> rfl
theorem tl_4_2 (f : Nat → Int32) : TL (upd (upd (upd (upd (upd (upd f 0 41) 1 3) 2 21) 3 2) 4 1) 5 1) (actB 4 2) := fun i h => by
  have h : i < 6 := h
  rcases (show i = 0 ∨ i = 1 ∨ i = 2 ∨ i = 3 ∨ i = 4 ∨ i = 5 by omega) with rfl | rfl | rfl | rfl | rfl | rfl <;> rfl
theorem tl_5_0 (f : Nat → Int32) : TL (upd (upd f 0 51) 1 1) (actB 5 0) := fun i h => by
  have h : i < 2 := h
  rcases (show i = 0 ∨ i = 1 by omega) with rfl | rfl <;> rfl
theorem tl_5_1 (f : Nat → Int32) : TL (upd (upd (upd f 0 2) 1 51) 2 1) (actB 5 1) := fun i h => by
  have h : i < 3 := h
  rcases (show i = 0 ∨ i = 1 ∨ i = 2 by omega) with rfl | rfl | rfl <;> rfl
theorem tl_5_2 (f : Nat → Int32) : TL (upd (upd (upd (upd (upd f 0 31) 1 3) 2 2) 3 51) 4 1) (actB 5 2) := fun i h => by
  have h : i < 5 := h
  rcases (show i = 0 ∨ i = 1 ∨ i = 2 ∨ i = 3 ∨ i = 4 by omega) with rfl | rfl | rfl | rfl | rfl <;> rfl
theorem tl_6_0 (f : Nat → Int32) : TL (upd f 0 1) (actB 6 0) := fun i h => by
  have h : i < 1 := h
  rcases (show i = 0 by omega) with rfl <;> rfl
theorem tl_6_1 (f : Nat → Int32) : TL (upd (upd (upd f 0 61) 1 2) 2 1) (actB 6 1) := fun i h => by
  have h : i < 3 := h
  rcases (show i = 0 ∨ i = 1 ∨ i = 2 by omega) with rfl | rfl | rfl <;> rfl
theorem tl_6_2 (f : Nat → Int32) : TL (upd (upd (upd (upd (upd f 0 31) 1 3) 2 61) 3 2) 4 1) (actB 6 2) := fun i h => by
  have h : i < 5 := h
  rcases (show i = 0 ∨ i = 1 ∨ i = 2 ∨ i = 3 ∨ i = 4 by omega) with rfl | rfl | rfl | rfl | rfl <;> rfl
end CA
/-! the grammar, as a function of the signs; what a town's steps make -/
section CPZ
abbrev PR : Type := Bool × Nat × List Int32
def LT6 : List Int32 := [104, 112, 109, 110, 121, 107]
def LT3 : List Int32 := [60, 61, 62]
def oneOf : List Int32 → Int32 → Nat
  | [], _ => 0
  | x :: t, c => if c = x then 0 else oneOf t c + 1
theorem oneOf_le : ∀ (l : List Int32) (c : Int32), oneOf l c ≤ l.length
  | [], _ => Nat.le_refl _
  | x :: t, c => by
    unfold oneOf
    split
    · exact Nat.zero_le _
    · exact Nat.succ_le_succ (oneOf_le t c)
theorem one6_no {c : Int32} (h0 : ¬ c = 104) (h1 : ¬ c = 112) (h2 : ¬ c = 109) (h3 : ¬ c = 110) (h4 : ¬ c = 121) (h5 : ¬ c = 107) : oneOf LT6 c = 6 := by
  unfold LT6 oneOf oneOf oneOf oneOf oneOf oneOf oneOf
  rw [if_neg h0, if_neg h1, if_neg h2, if_neg h3, if_neg h4, if_neg h5]
theorem one3_no {c : Int32} (h0 : ¬ c = 60) (h1 : ¬ c = 61) (h2 : ¬ c = 62) : oneOf LT3 c = 3 := by
  unfold LT3 oneOf oneOf oneOf oneOf
  rw [if_neg h0, if_neg h1, if_neg h2]
theorem one_is {l : List Int32} {c x : Int32} {k : Nat} (h : c = x) (e : oneOf l x = k) : oneOf l c = k := by rw [h]; exact e
/-- a figure's number; 10: none -/
def dg (c : Int32) : Nat := if (48 : Int32) ≤ c ∧ c ≤ (57 : Int32) then (c - 48).toNatClampNeg else 10
theorem dg_no {c : Int32} (h : ¬ ((48 : Int32) ≤ c ∧ c ≤ (57 : Int32))) : dg c = 10 := if_neg h
theorem dg_of {c : Int32} {d : Nat} (hd : d ≤ 9) (h : c = nI (48 + d)) : dg c = d := by
  subst h
  rcases (show d = 0 ∨ d = 1 ∨ d = 2 ∨ d = 3 ∨ d = 4 ∨ d = 5 ∨ d = 6 ∨ d = 7 ∨ d = 8 ∨ d = 9 by omega) with rfl | rfl | rfl | rfl | rfl | rfl | rfl | rfl | rfl | rfl <;> decide +kernel
theorem dg_is {c x : Int32} {k : Nat} (h : c = x) (e : dg x = k) : dg c = k := by rw [h]; exact e
theorem dg_no10 {c : Int32} (h0 : ¬ c = 48) (h1 : ¬ c = 49) (h2 : ¬ c = 50) (h3 : ¬ c = 51) (h4 : ¬ c = 52) (h5 : ¬ c = 53) (h6 : ¬ c = 54) (h7 : ¬ c = 55) (h8 : ¬ c = 56) (h9 : ¬ c = 57) : dg c = 10 := by
  refine dg_no (fun h => ?_)
  have a : (48 : Int32).toInt = 48 := by decide
  have b : (57 : Int32).toInt = 57 := by decide
  have q1 := le_i.mp h.1
  have q2 := le_i.mp h.2
  have z : (0 : Int32).toInt = 0 := by decide
  obtain ⟨j, hj, e⟩ := nI_of (x := c) (fun q => by have := lt_i.mp q; omega)
  have hji : (nI j).toInt = j := nI_toInt hj
  rw [e, hji] at q1 q2
  rcases (show j = 48 ∨ j = 49 ∨ j = 50 ∨ j = 51 ∨ j = 52 ∨ j = 53 ∨ j = 54 ∨ j = 55 ∨ j = 56 ∨ j = 57 by omega) with rfl | rfl | rfl | rfl | rfl | rfl | rfl | rfl | rfl | rfl
  · exact h0 e
  · exact h1 e
  · exact h2 e
  · exact h3 e
  · exact h4 e
  · exact h5 e
  · exact h6 e
  · exact h7 e
  · exact h8 e
  · exact h9 e
variable {Z : Nat → Int32} {i j k : Nat} {L L2 : List Int32}
/-- a number: one figure or two -/
def pNum (Z : Nat → Int32) (i : Nat) : Bool × Nat × Nat := if dg (Z i) = 10 then (false, i, 0) else (if dg (Z i) = 0 then (true, i + 1, 0) else (if dg (Z (i + 1)) = 10 then (true, i + 1, dg (Z i)) else (true, i + 2, 10 * dg (Z i) + dg (Z (i + 1)))))
theorem pNum_f (h : dg (Z i) = 10) : pNum Z i = (false, i, 0) := if_pos h
theorem pNum_0 (h : dg (Z i) = 0) : pNum Z i = (true, i + 1, 0) := (if_neg (by omega)).trans (if_pos h)
theorem pNum_1 {a : Nat} (h : dg (Z i) = a) (h1 : a ≠ 10) (h2 : dg (Z (i + 1)) = 10) : pNum Z i = (true, i + 1, a) := by
  subst h
  by_cases h0 : dg (Z i) = 0
  · rw [pNum_0 h0, h0]
  · exact (if_neg h1).trans ((if_neg h0).trans (if_pos h2))
theorem pNum_2 {a b : Nat} (h : dg (Z i) = a) (h1 : a ≠ 10) (h0 : a ≠ 0) (h2 : dg (Z (i + 1)) = b) (h3 : b ≠ 10) : pNum Z i = (true, i + 2, 10 * a + b) := by
  subst h; subst h2
  exact (if_neg h1).trans ((if_neg h0).trans (if_neg h3))
theorem pn_eq {x : Bool × Nat × Nat} {b : Bool} {i j v w : Nat} (h : x = (b, i, v)) (hi : i = j) (hv : v = w) : x = (b, j, w) := by rw [h, hi, hv]
theorem pr_eq {x : PR} {b : Bool} {i j : Nat} {L M : List Int32} (h : x = (b, i, L)) (hi : i = j) (hv : L = M) : x = (b, j, M) := by rw [h, hi, hv]
theorem pr_eq2 {x : PR} {b : Bool} {i j : Nat} {L : List Int32} (h : x = (b, i, L)) (hi : i = j) : x = (b, j, L) := by rw [h, hi]
theorem pr_inj {j k : Nat} {L M : List Int32} (h : ((true, j, L) : PR) = (true, k, M)) : j = k ∧ L = M := by cases h; exact ⟨rfl, rfl⟩
theorem pr_bad {P : Prop} {j k : Nat} {L M : List Int32} (h : ((false, j, L) : PR) = (true, k, M)) : P := by cases h
/-- a test -/
def pTest (Z : Nat → Int32) (i : Nat) : PR := if oneOf LT6 (Z i) = 6 then (false, i, []) else (if oneOf LT3 (Z (i + 1)) = 3 then (false, i + 1, []) else (if (pNum Z (i + 2)).1 = true then (true, (pNum Z (i + 2)).2.1, [nI (oneOf LT6 (Z i) + 8 * oneOf LT3 (Z (i + 1)) + 32 * (pNum Z (i + 2)).2.2)]) else (false, (pNum Z (i + 2)).2.1, [])))
theorem pTest_1 (h : oneOf LT6 (Z i) = 6) : pTest Z i = (false, i, []) := if_pos h
theorem pTest_2 {w : Nat} (h : oneOf LT6 (Z i) = w) (hw : w < 6) (h2 : oneOf LT3 (Z (i + 1)) = 3) : pTest Z i = (false, i + 1, []) := (if_neg (by omega)).trans (if_pos h2)
theorem pTest_3 {w q v : Nat} (h : oneOf LT6 (Z i) = w) (hw : w < 6) (h2 : oneOf LT3 (Z (i + 1)) = q) (hq : q < 3) (h3 : pNum Z (i + 2) = (false, j, v)) : pTest Z i = (false, j, []) := by
  refine (if_neg (by omega)).trans ((if_neg (by omega)).trans ?_)
  rw [h3]
  rfl
theorem pTest_4 {w q v : Nat} (h : oneOf LT6 (Z i) = w) (hw : w < 6) (h2 : oneOf LT3 (Z (i + 1)) = q) (hq : q < 3) (h3 : pNum Z (i + 2) = (true, j, v)) : pTest Z i = (true, j, [nI (w + 8 * q + 32 * v)]) := by
  refine (if_neg (by omega)).trans ((if_neg (by omega)).trans ?_)
  rw [h3, h, h2]
  rfl
/-- more of them behind a sign -/
def pLoop (sub : Nat → PR) (c op : Int32) (Z : Nat → Int32) : Nat → Nat → List Int32 → PR
  | 0, j, L => (true, j, L)
  | n + 1, j, L => if Z j = c then (if (sub (j + 1)).1 = true then pLoop sub c op Z n (sub (j + 1)).2.1 (L ++ (sub (j + 1)).2.2 ++ [op]) else (false, (sub (j + 1)).2.1, [])) else (true, j, L)
def pSeq (sub : Nat → PR) (c op : Int32) (Z : Nat → Int32) (i : Nat) : PR := if (sub i).1 = true then pLoop sub c op Z 101 (sub i).2.1 (sub i).2.2 else (false, (sub i).2.1, [])
section
variable {sub : Nat → PR} {c op : Int32} {n : Nat}
theorem pSeq_f (h : sub i = (false, j, L)) : pSeq sub c op Z i = (false, j, []) := by
  unfold pSeq
  rw [h]
  rfl
theorem pSeq_s (h : sub i = (true, j, L)) : pSeq sub c op Z i = pLoop sub c op Z 101 j L := by
  unfold pSeq
  rw [h]
  rfl
theorem pLoop_e (h : ¬ Z j = c) : pLoop sub c op Z n j L = (true, j, L) := by
  cases n with
  | zero => rfl
  | succ n => exact if_neg h
theorem pLoop_f (hn : 0 < n) (h : Z j = c) (h2 : sub (j + 1) = (false, k, L2)) : pLoop sub c op Z n j L = (false, k, []) := by
  obtain ⟨n, rfl⟩ : ∃ m, n = m + 1 := ⟨n - 1, by omega⟩
  refine (if_pos h).trans ?_
  rw [h2]
  rfl
theorem pLoop_s (hn : 0 < n) (h : Z j = c) (h2 : sub (j + 1) = (true, k, L2)) : pLoop sub c op Z n j L = pLoop sub c op Z (n - 1) k (L ++ L2 ++ [op]) := by
  obtain ⟨n, rfl⟩ : ∃ m, n = m + 1 := ⟨n - 1, by omega⟩
  refine (if_pos h).trans ?_
  rw [h2]
  rfl
end
def pFac (Z : Nat → Int32) : Nat → Nat → PR
  | 0 => fun i => if Z i = 40 ∨ Z i = 33 then (false, i, []) else pTest Z i
  | r + 1 => fun i =>
    if Z i = 40 then (if (pSeq (pSeq (pFac Z r) 38 (-2) Z) 124 (-3) Z (i + 1)).1 = true then (if Z (pSeq (pSeq (pFac Z r) 38 (-2) Z) 124 (-3) Z (i + 1)).2.1 = 41 then (true, (pSeq (pSeq (pFac Z r) 38 (-2) Z) 124 (-3) Z (i + 1)).2.1 + 1, (pSeq (pSeq (pFac Z r) 38 (-2) Z) 124 (-3) Z (i + 1)).2.2) else (false, (pSeq (pSeq (pFac Z r) 38 (-2) Z) 124 (-3) Z (i + 1)).2.1, [])) else (false, (pSeq (pSeq (pFac Z r) 38 (-2) Z) 124 (-3) Z (i + 1)).2.1, []))
    else (if Z i = 33 then (if (pFac Z r (i + 1)).1 = true then (true, (pFac Z r (i + 1)).2.1, (pFac Z r (i + 1)).2.2 ++ [-1]) else (false, (pFac Z r (i + 1)).2.1, [])) else pTest Z i)
def pBoth (Z : Nat → Int32) (r : Nat) : Nat → PR := pSeq (pFac Z r) 38 (-2) Z
def pAny (Z : Nat → Int32) (r : Nat) : Nat → PR := pSeq (pBoth Z r) 124 (-3) Z
theorem pFac_t {r : Nat} (h1 : ¬ Z i = 33) (h2 : ¬ Z i = 40) : pFac Z r i = pTest Z i := by
  cases r with
  | zero => exact if_neg (fun h => h.elim h2 h1)
  | succ r => exact (if_neg h2).trans (if_neg h1)
theorem pFac_d (h : Z i = 40 ∨ Z i = 33) : pFac Z 0 i = (false, i, []) := if_pos h
theorem pFac_p1 {r : Nat} (h : Z i = 40) (h2 : pAny Z r (i + 1) = (false, j, L)) : pFac Z (r + 1) i = (false, j, []) := by
  refine (if_pos h).trans ?_
  unfold pAny pBoth at h2
  rw [h2]
  rfl
theorem pFac_p2 {r : Nat} (h : Z i = 40) (h2 : pAny Z r (i + 1) = (true, j, L)) (h3 : ¬ Z j = 41) : pFac Z (r + 1) i = (false, j, []) := by
  refine (if_pos h).trans ?_
  unfold pAny pBoth at h2
  rw [h2]
  exact (if_pos rfl).trans (if_neg h3)
theorem pFac_p3 {r : Nat} (h : Z i = 40) (h2 : pAny Z r (i + 1) = (true, j, L)) (h3 : Z j = 41) : pFac Z (r + 1) i = (true, j + 1, L) := by
  refine (if_pos h).trans ?_
  unfold pAny pBoth at h2
  rw [h2]
  exact (if_pos rfl).trans (if_pos h3)
theorem ne40 (h : Z i = 33) : ¬ Z i = 40 := fun e => absurd (h.symm.trans e) (by decide)
theorem pFac_n1 {r : Nat} (h : Z i = 33) (h2 : pFac Z r (i + 1) = (false, j, L)) : pFac Z (r + 1) i = (false, j, []) := by
  refine (if_neg (ne40 h)).trans ((if_pos h).trans ?_)
  rw [h2]
  rfl
theorem pFac_n2 {r : Nat} (h : Z i = 33) (h2 : pFac Z r (i + 1) = (true, j, L)) : pFac Z (r + 1) i = (true, j, L ++ [-1]) := by
  refine (if_neg (ne40 h)).trans ((if_pos h).trans ?_)
  rw [h2]
  rfl
/-- a step that can be taken at a depth, and the depth behind it -/
def tok (x : Int32) (d : Nat) : Prop := (∃ w h v : Nat, w < 6 ∧ h < 3 ∧ v < 100 ∧ x = nI (w + 8 * h + 32 * v) ∧ d < 30) ∨ (x = -1 ∧ 1 ≤ d) ∨ ((x = -2 ∨ x = -3) ∧ 2 ≤ d)
def dst (x : Int32) (d : Nat) : Nat := if 0 ≤ x then d + 1 else if x = -1 then d else d - 1
def dfin (d : Nat) (L : List Int32) : Nat := L.foldl (fun d x => dst x d) d
def wfT : Nat → List Int32 → Prop
  | _, [] => True
  | d, x :: t => tok x d ∧ wfT (dst x d) t
theorem wfT_app : ∀ (L M : List Int32) (d : Nat), wfT d L → wfT (dfin d L) M → wfT d (L ++ M)
  | [], _, _, _, h => h
  | x :: t, M, d, h, h2 => ⟨h.1, wfT_app t M (dst x d) h.2 h2⟩
theorem dfin_app (L M : List Int32) (d : Nat) : dfin d (L ++ M) = dfin (dfin d L) M := List.foldl_append
theorem dst_n {n d : Nat} (h : n < 2 ^ 31) : dst (nI n) d = d + 1 := if_pos (nI_pos' h)
theorem dst_1 (d : Nat) : dst (-1) d = d := (if_neg (by decide)).trans (if_pos rfl)
theorem dst_2 {x : Int32} {d : Nat} (h : x = -2 ∨ x = -3) : dst x d = d - 1 := by
  rcases h with rfl | rfl
  · exact (if_neg (by decide)).trans (if_neg (by decide))
  · exact (if_neg (by decide)).trans (if_neg (by decide))
def WFO (sub : Nat → PR) (N : Nat) : Prop := ∀ i j L d, sub i = (true, j, L) → d ≤ N → wfT d L ∧ dfin d L = d + 1
theorem pNum_lt {v : Nat} {b : Bool} (h : pNum Z i = (b, j, v)) : v < 100 := by
  unfold pNum at h
  have q : ∀ c, dg c ≤ 10 := fun c => by
    by_cases e : (48 : Int32) ≤ c ∧ c ≤ (57 : Int32)
    · have a : (48 : Int32).toInt = 48 := by decide
      have b : (57 : Int32).toInt = 57 := by decide
      have q1 := le_i.mp e.1
      have q2 := le_i.mp e.2
      have z : (0 : Int32).toInt = 0 := by decide
      obtain ⟨j, hj, e2⟩ := nI_of (x := c) (fun q => by have := lt_i.mp q; omega)
      have hji : (nI j).toInt = j := nI_toInt hj
      rw [e2, hji] at q1 q2
      rw [dg_of (d := j - 48) (by omega) (by rw [e2]; congr 1; omega)]
      omega
    · rw [dg_no e]; exact Nat.le_refl _
  have q1 := q (Z i)
  have q2 := q (Z (i + 1))
  split at h
  · cases h; omega
  · split at h
    · cases h; omega
    · split at h
      · cases h; omega
      · cases h; omega
theorem pTest_wf {N : Nat} (hN : N < 30) : WFO (pTest Z) N := by
  intro i j L d h hd
  unfold pTest at h
  have h6 := oneOf_le LT6 (Z i)
  have h3 := oneOf_le LT3 (Z (i + 1))
  have e6 : LT6.length = 6 := rfl
  have e3 : LT3.length = 3 := rfl
  split at h
  · exact pr_bad h
  · split at h
    · exact pr_bad h
    · split at h
      · have hv := pNum_lt (Z := Z) (i := i + 2) (b := (pNum Z (i + 2)).1) (j := (pNum Z (i + 2)).2.1) (v := (pNum Z (i + 2)).2.2) rfl
        obtain ⟨rfl, rfl⟩ := pr_inj h
        refine ⟨⟨Or.inl ⟨oneOf LT6 (Z i), oneOf LT3 (Z (i + 1)), (pNum Z (i + 2)).2.2, by omega, by omega, hv, rfl, by omega⟩, trivial⟩, ?_⟩
        exact dst_n (by omega)
      · exact pr_bad h
theorem pSeq_wf {sub : Nat → PR} {c op : Int32} {N : Nat} (hs : WFO sub (N + 1)) (ho : op = -2 ∨ op = -3) : WFO (pSeq sub c op Z) N := by
  have loop : ∀ (n : Nat) (j k : Nat) (L M : List Int32) (d : Nat), pLoop sub c op Z n j L = (true, k, M) → d ≤ N → wfT d L → dfin d L = d + 1 → wfT d M ∧ dfin d M = d + 1 := by
    intro n
    induction n with
    | zero =>
      intro j k L M d h hd h1 h2
      obtain ⟨rfl, rfl⟩ := pr_inj h
      exact ⟨h1, h2⟩
    | succ n ih =>
      intro j k L M d h hd h1 h2
      by_cases e : Z j = c
      · rcases hsub : sub (j + 1) with ⟨b, q, L2⟩
        cases b with
        | false => rw [pLoop_f (Nat.succ_pos n) e hsub] at h; exact pr_bad h
        | true =>
          rw [pLoop_s (Nat.succ_pos n) e hsub] at h
          obtain ⟨w1, w2⟩ := hs (j + 1) q L2 (d + 1) hsub (by omega)
          refine ih q k _ M d h hd ?_ ?_
          · refine wfT_app _ _ d (wfT_app _ _ d h1 (by rw [h2]; exact w1)) ?_
            rw [dfin_app, h2, w2]
            exact ⟨Or.inr (Or.inr ⟨ho, by omega⟩), trivial⟩
          · rw [dfin_app, dfin_app, h2, w2]
            show dst op (d + 1 + 1) = d + 1
            rw [dst_2 ho]
            omega
      · rw [pLoop_e e] at h
        obtain ⟨rfl, rfl⟩ := pr_inj h
        exact ⟨h1, h2⟩
  intro i j L d h hd
  rcases hsub : sub i with ⟨b, q, L2⟩
  cases b with
  | false => rw [pSeq_f hsub] at h; exact pr_bad h
  | true =>
    rw [pSeq_s hsub] at h
    obtain ⟨w1, w2⟩ := hs i q L2 d hsub (by omega)
    exact loop 101 q j L2 L d h hd w1 w2
theorem pFac_wf : ∀ r : Nat, r ≤ 5 → WFO (pFac Z r) (12 - 2 * r)
  | 0, _ => by
    intro i j L d h hd
    by_cases e : Z i = 40 ∨ Z i = 33
    · rw [pFac_d e] at h; exact pr_bad h
    · rw [pFac_t (fun q => e (Or.inr q)) (fun q => e (Or.inl q))] at h
      exact pTest_wf (N := 12) (by omega) i j L d h hd
  | r + 1, hr => by
    have ih := pFac_wf r (by omega)
    have hany : WFO (pAny Z r) (12 - 2 * r - 2) := by
      refine pSeq_wf (N := 12 - 2 * r - 2) (op := -3) ?_ (Or.inr rfl)
      refine pSeq_wf (N := 12 - 2 * r - 2 + 1) (op := -2) ?_ (Or.inl rfl)
      rw [show 12 - 2 * r - 2 + 1 + 1 = 12 - 2 * r by omega]
      exact ih
    intro i j L d h hd
    by_cases e : Z i = 40
    · rcases hsub : pAny Z r (i + 1) with ⟨b, q, L2⟩
      cases b with
      | false => rw [pFac_p1 e hsub] at h; exact pr_bad h
      | true =>
        by_cases e2 : Z q = 41
        · rw [pFac_p3 e hsub e2] at h
          obtain ⟨rfl, rfl⟩ := pr_inj h
          exact hany (i + 1) q L2 d hsub (by omega)
        · rw [pFac_p2 e hsub e2] at h; exact pr_bad h
    · by_cases e2 : Z i = 33
      · rcases hsub : pFac Z r (i + 1) with ⟨b, q, L2⟩
        cases b with
        | false => rw [pFac_n1 e2 hsub] at h; exact pr_bad h
        | true =>
          rw [pFac_n2 e2 hsub] at h
          obtain ⟨rfl, rfl⟩ := pr_inj h
          obtain ⟨w1, w2⟩ := ih (i + 1) q L2 d hsub (by omega)
          refine ⟨wfT_app _ _ d w1 (by rw [w2]; exact ⟨Or.inr (Or.inl ⟨rfl, by omega⟩), trivial⟩), ?_⟩
          rw [dfin_app, w2]
          exact dst_1 _
      · rw [pFac_t e2 e] at h
        exact pTest_wf (N := 12) (by omega) i j L d h (by omega)
theorem pAny_wf {r : Nat} (hr : r ≤ 5) : WFO (pAny Z r) (10 - 2 * r) := by
  refine pSeq_wf (N := 10 - 2 * r) (op := -3) ?_ (Or.inr rfl)
  refine pSeq_wf (N := 10 - 2 * r + 1) (op := -2) ?_ (Or.inl rfl)
  rw [show 10 - 2 * r + 1 + 1 = 12 - 2 * r by omega]
  exact pFac_wf r hr
/-- words -/
def pWord (Z : Nat → Int32) : List Int32 → Nat → Bool × Nat
  | [], i => (true, i)
  | c :: t, i => if Z i = c then pWord Z t (i + 1) else (false, i)
theorem pWord_f {c : Int32} {t : List Int32} (h : ¬ Z i = c) : pWord Z (c :: t) i = (false, i) := if_neg h
theorem pWord_s {c : Int32} {t : List Int32} (h : Z i = c) : pWord Z (c :: t) i = pWord Z t (i + 1) := if_pos h
def WNOTE : List Int32 := [110, 111, 116, 101, 32]
def WHARM : List Int32 := [104, 97, 114, 109, 32]
def WGOOD : List Int32 := [103, 111, 111, 100, 32]
/-- a clause: whether it goes, how far, the note that it gives (100: none), its end (0 for a note), its steps -/
abbrev CR : Type := Bool × Nat × Nat × Int32 × List Int32
def pMuch (Z : Nat → Int32) (ws : List Int32) (k : Int32) (i : Nat) : CR :=
  if (pWord Z ws i).1 = true then (if (pNum Z (pWord Z ws i).2).1 = true then (if Z (pNum Z (pWord Z ws i).2).2.1 = 32 then (if (pAny Z 5 ((pNum Z (pWord Z ws i).2).2.1 + 1)).1 = true then (true, (pAny Z 5 ((pNum Z (pWord Z ws i).2).2.1 + 1)).2.1, 100, k - nI (pNum Z (pWord Z ws i).2).2.2, (pAny Z 5 ((pNum Z (pWord Z ws i).2).2.1 + 1)).2.2) else (false, (pAny Z 5 ((pNum Z (pWord Z ws i).2).2.1 + 1)).2.1, 0, 0, [])) else (false, (pNum Z (pWord Z ws i).2).2.1, 0, 0, [])) else (false, (pNum Z (pWord Z ws i).2).2.1, 0, 0, [])) else (false, (pWord Z ws i).2, 0, 0, [])
def pNote (Z : Nat → Int32) (i : Nat) : CR :=
  if (pWord Z WNOTE i).1 = true then (if (pNum Z (pWord Z WNOTE i).2).1 = true then (true, (pNum Z (pWord Z WNOTE i).2).2.1, (pNum Z (pWord Z WNOTE i).2).2.2, 0, []) else (false, (pNum Z (pWord Z WNOTE i).2).2.1, 0, 0, [])) else (false, (pWord Z WNOTE i).2, 0, 0, [])
def pClause (Z : Nat → Int32) (i : Nat) : CR := if Z i = 110 then pNote Z i else (if Z i = 104 then pMuch Z WHARM (-200) i else pMuch Z WGOOD (-10) i)
section
variable {ws : List Int32} {k0 : Int32} {q n v : Nat}
theorem pMuch_1 (h : pWord Z ws i = (false, j)) : pMuch Z ws k0 i = (false, j, 0, 0, []) := by
  unfold pMuch; rw [h]; rfl
theorem pMuch_2 (h : pWord Z ws i = (true, q)) (h2 : pNum Z q = (false, j, v)) : pMuch Z ws k0 i = (false, j, 0, 0, []) := by
  unfold pMuch; rw [h]; show (if (pNum Z q).1 = true then _ else _) = _; rw [h2]; rfl
theorem pMuch_3 (h : pWord Z ws i = (true, q)) (h2 : pNum Z q = (true, j, v)) (h3 : ¬ Z j = 32) : pMuch Z ws k0 i = (false, j, 0, 0, []) := by
  unfold pMuch; rw [h]; show (if (pNum Z q).1 = true then _ else _) = _; rw [h2]; exact (if_pos rfl).trans (if_neg h3)
theorem pMuch_4 (h : pWord Z ws i = (true, q)) (h2 : pNum Z q = (true, n, v)) (h3 : Z n = 32) (h4 : pAny Z 5 (n + 1) = (false, j, L)) : pMuch Z ws k0 i = (false, j, 0, 0, []) := by
  unfold pMuch; rw [h]; show (if (pNum Z q).1 = true then _ else _) = _; rw [h2]; refine (if_pos rfl).trans ((if_pos h3).trans ?_); rw [h4]; rfl
theorem pMuch_5 (h : pWord Z ws i = (true, q)) (h2 : pNum Z q = (true, n, v)) (h3 : Z n = 32) (h4 : pAny Z 5 (n + 1) = (true, j, L)) : pMuch Z ws k0 i = (true, j, 100, k0 - nI v, L) := by
  unfold pMuch; rw [h]; show (if (pNum Z q).1 = true then _ else _) = _; rw [h2]; refine (if_pos rfl).trans ((if_pos h3).trans ?_); rw [h4]; rfl
theorem pNote_1 (h : pWord Z WNOTE i = (false, j)) : pNote Z i = (false, j, 0, 0, []) := by
  unfold pNote; rw [h]; rfl
theorem pNote_2 (h : pWord Z WNOTE i = (true, q)) (h2 : pNum Z q = (false, j, v)) : pNote Z i = (false, j, 0, 0, []) := by
  unfold pNote; rw [h]; show (if (pNum Z q).1 = true then _ else _) = _; rw [h2]; rfl
theorem pNote_3 (h : pWord Z WNOTE i = (true, q)) (h2 : pNum Z q = (true, j, v)) : pNote Z i = (true, j, v, 0, []) := by
  unfold pNote; rw [h]; show (if (pNum Z q).1 = true then _ else _) = _; rw [h2]; rfl
theorem pClause_n (h : Z i = 110) : pClause Z i = pNote Z i := if_pos h
theorem pClause_h (h : Z i = 104) : pClause Z i = pMuch Z WHARM (-200) i := (if_neg (fun e => absurd (h.symm.trans e) (by decide))).trans (if_pos h)
theorem pClause_g (h : ¬ Z i = 110) (h2 : ¬ Z i = 104) : pClause Z i = pMuch Z WGOOD (-10) i := (if_neg h).trans (if_neg h2)
theorem pClause_x (h : ¬ Z i = 110) (h2 : ¬ Z i = 104) (h3 : ¬ Z i = 103) : pClause Z i = (false, i, 0, 0, []) := (pClause_g h h2).trans (pMuch_1 (pWord_f h3))
end
/-- a town: its note hours, and its clauses: the end of each, and its steps -/
abbrev TWN : Type := Nat × List (Int32 × List Int32)
def addC (t : TWN) (n : Nat) (e : Int32) (L : List Int32) : TWN := if n = 100 then (t.1, t.2 ++ [(e, L)]) else (n, t.2)
/-- n more clauses from i on -/
def pTown (Z : Nat → Int32) (en : Nat) : Nat → Nat → TWN → Bool × Nat × TWN
  | 0, i, t => (false, i, t)
  | n + 1, i, t =>
    if (pClause Z i).1 = true then (if (pClause Z i).2.1 = en then (true, (pClause Z i).2.1, addC t (pClause Z i).2.2.1 (pClause Z i).2.2.2.1 (pClause Z i).2.2.2.2) else (if n = 0 then (false, (pClause Z i).2.1, addC t (pClause Z i).2.2.1 (pClause Z i).2.2.2.1 (pClause Z i).2.2.2.2) else (if Z (pClause Z i).2.1 = 59 then pTown Z en n ((pClause Z i).2.1 + 1) (addC t (pClause Z i).2.2.1 (pClause Z i).2.2.2.1 (pClause Z i).2.2.2.2) else (false, (pClause Z i).2.1, addC t (pClause Z i).2.2.1 (pClause Z i).2.2.2.1 (pClause Z i).2.2.2.2))))
    else (false, (pClause Z i).2.1, t)
/-- behind a clause, n more may come -/
def pTail (Z : Nat → Int32) (en n j : Nat) (t : TWN) : Bool × Nat × TWN := if j = en then (true, j, t) else (if n = 0 then (false, j, t) else (if Z j = 59 then pTown Z en n (j + 1) t else (false, j, t)))
section
variable {en n nn : Nat} {t : TWN} {e : Int32}
theorem pTown_f (h : pClause Z i = (false, j, nn, e, L)) : pTown Z en (n + 1) i t = (false, j, t) := by
  unfold pTown; rw [h]; rfl
theorem pTown_s (h : pClause Z i = (true, j, nn, e, L)) : pTown Z en (n + 1) i t = pTail Z en n j (addC t nn e L) := by
  unfold pTown; rw [h]; rfl
theorem pTown_ff (hn : 0 < n) (h : pClause Z i = (false, j, nn, e, L)) : pTown Z en n i t = (false, j, t) := by
  obtain ⟨n, rfl⟩ : ∃ m, n = m + 1 := ⟨n - 1, by omega⟩
  exact pTown_f h
theorem pTown_ss (hn : 0 < n) (h : pClause Z i = (true, j, nn, e, L)) : pTown Z en n i t = pTail Z en (n - 1) j (addC t nn e L) := by
  obtain ⟨n, rfl⟩ : ∃ m, n = m + 1 := ⟨n - 1, by omega⟩
  exact pTown_s h
theorem pTail_e (h : j = en) : pTail Z en n j t = (true, j, t) := if_pos h
theorem pTail_0 (h : ¬ j = en) (h2 : n = 0) : pTail Z en n j t = (false, j, t) := (if_neg h).trans (if_pos h2)
theorem pTail_n (h : ¬ j = en) (h2 : ¬ Z j = 59) : pTail Z en n j t = (false, j, t) := by
  by_cases h3 : n = 0
  · exact pTail_0 h h3
  · exact (if_neg h).trans ((if_neg h3).trans (if_neg h2))
theorem pTail_s (h : ¬ j = en) (h2 : 0 < n) (h3 : Z j = 59) : pTail Z en n j t = pTown Z en n (j + 1) t := (if_neg h).trans ((if_neg (by omega)).trans (if_pos h3))
end
theorem gd_l {α : Type} {L M : List α} {i : Nat} {d : α} (h : i < L.length) : (L ++ M).getD i d = L.getD i d := by
  rw [List.getD_eq_getElem?_getD, List.getD_eq_getElem?_getD, List.getElem?_append_left h]
theorem gd_r {α : Type} {L M : List α} {i : Nat} {d : α} (h : L.length ≤ i) : (L ++ M).getD i d = M.getD (i - L.length) d := by
  rw [List.getD_eq_getElem?_getD, List.getD_eq_getElem?_getD, List.getElem?_append_right h]
/-- an array grows by a list at a place -/
def AP (g f : Nat → Int32) (b n : Nat) (L : List Int32) : Prop := (∀ i, i < n → g (b + i) = f (b + i)) ∧ ∀ i, i < L.length → g (b + n + i) = L.getD i 0
theorem AP.nil {f : Nat → Int32} {b n : Nat} : AP f f b n [] := ⟨fun _ _ => rfl, fun i h => absurd h (Nat.not_lt_zero i)⟩
theorem AP.trans {h g f : Nat → Int32} {b n : Nat} {L M : List Int32} (a : AP h g b (n + L.length) M) (c : AP g f b n L) : AP h f b n (L ++ M) := by
  refine ⟨fun i hi => (a.1 i (by omega)).trans (c.1 i hi), fun i hi => ?_⟩
  rw [List.length_append] at hi
  by_cases e : i < L.length
  · have h1 := a.1 (n + i) (by omega)
    rw [← Nat.add_assoc] at h1
    rw [h1, c.2 i e, gd_l e]
  · have h1 := a.2 (i - L.length) (by omega)
    rw [show b + (n + L.length) + (i - L.length) = b + n + i by omega] at h1
    rw [h1, gd_r (by omega)]
theorem AP.one {f : Nat → Int32} {b n : Nat} {x : Int32} : AP (upd f (b + n) x) f b n [x] := ⟨fun i hi => pk_un (by omega), fun i hi => by
  have hi : i < 1 := hi
  rw [show i = 0 by omega]
  exact pk_us⟩
theorem AP.cong {h g f : Nat → Int32} {b n : Nat} {L : List Int32} (a : AP g f b n L) (e : ∀ i, i < n + L.length → h (b + i) = g (b + i)) : AP h f b n L :=
  ⟨fun i hi => (e i (by omega)).trans (a.1 i hi), fun i hi => by
    have h1 := e (n + i) (by omega)
    rw [← Nat.add_assoc] at h1
    exact h1.trans (a.2 i hi)⟩
end CPZ
/-! what a town's clauses make, of the facts -/
section CEV
abbrev Ev : Type := Nat → Nat → Nat → Nat → Nat → Nat → Int32
def bI (b : Bool) : Int32 := if b = true then 1 else 0
def bN (b : Bool) : Nat := if b = true then 1 else 0
theorem bN_lt (b : Bool) : bN b < 2 := by cases b <;> decide
/-- a test, of its number -/
def tstN (f : Nat → Int32) (n : Nat) : Bool := if n / 8 % 4 = 0 then decide (f (n % 8) < nI (n / 32)) else (if n / 8 % 4 = 1 then decide (f (n % 8) = nI (n / 32)) else decide (nI (n / 32) < f (n % 8)))
section
variable {f : Nat → Int32} {n : Nat}
theorem tst_0t (h : n / 8 % 4 = 0) (h2 : f (n % 8) < nI (n / 32)) : tstN f n = true := (if_pos h).trans (decide_eq_true h2)
theorem tst_0f (h : n / 8 % 4 = 0) (h2 : ¬ f (n % 8) < nI (n / 32)) : tstN f n = false := (if_pos h).trans (decide_eq_false h2)
theorem tst_1t (h : n / 8 % 4 = 1) (h2 : f (n % 8) = nI (n / 32)) : tstN f n = true := (if_neg (by omega)).trans ((if_pos h).trans (decide_eq_true h2))
theorem tst_1f (h : n / 8 % 4 = 1) (h2 : ¬ f (n % 8) = nI (n / 32)) : tstN f n = false := (if_neg (by omega)).trans ((if_pos h).trans (decide_eq_false h2))
theorem tst_2t (h : ¬ n / 8 % 4 = 0) (h0 : ¬ n / 8 % 4 = 1) (h2 : nI (n / 32) < f (n % 8)) : tstN f n = true := (if_neg h).trans ((if_neg h0).trans (decide_eq_true h2))
theorem tst_2f (h : ¬ n / 8 % 4 = 0) (h0 : ¬ n / 8 % 4 = 1) (h2 : ¬ nI (n / 32) < f (n % 8)) : tstN f n = false := (if_neg h).trans ((if_neg h0).trans (decide_eq_false h2))
end
def notS : List Bool → List Bool
  | [] => []
  | b :: t => (!b) :: t
def twoS (x : Int32) : List Bool → List Bool
  | b :: a :: t => (if x = -2 then (a && b) else (a || b)) :: t
  | s => s
def tstep (f : Nat → Int32) (x : Int32) (s : List Bool) : List Bool := if 0 ≤ x then tstN f x.toNatClampNeg :: s else (if x = -1 then notS s else twoS x s)
theorem tstep_n {f : Nat → Int32} {n : Nat} {s : List Bool} (h : n < 2 ^ 31) : tstep f (nI n) s = tstN f n :: s := by
  unfold tstep
  rw [if_pos (nI_pos' h), nI_clamp h]
theorem tstep_neg {f : Nat → Int32} {x : Int32} {s : List Bool} (h : ¬ 0 ≤ x) : tstep f x s = (if x = -1 then notS s else twoS x s) := if_neg h
theorem tstep_1 {f : Nat → Int32} {b : Bool} {s : List Bool} : tstep f (-1) (b :: s) = (!b) :: s := (if_neg (by decide)).trans (if_pos rfl)
theorem tstep_2 {f : Nat → Int32} {x : Int32} {b a : Bool} {s : List Bool} (h : x = -2 ∨ x = -3) : tstep f x (b :: a :: s) = (if x = -2 then (a && b) else (a || b)) :: s := by
  rcases h with rfl | rfl
  · exact (if_neg (by decide)).trans (if_neg (by decide))
  · exact (if_neg (by decide)).trans (if_neg (by decide))
theorem tstep_len {f : Nat → Int32} {x : Int32} {s : List Bool} (h : tok x s.length) : (tstep f x s).length = dst x s.length := by
  rcases h with ⟨w, q, v, h1, h2, h3, rfl, -⟩ | ⟨rfl, h1⟩ | ⟨h1, h2⟩
  · rw [tstep_n (by omega), dst_n (by omega)]; rfl
  · rcases s with _ | ⟨b, s⟩
    · simp at h1
    · rw [tstep_1, dst_1]; rfl
  · rcases s with _ | ⟨b, _ | ⟨a, s⟩⟩
    · simp at h2
    · simp at h2
    · rw [tstep_2 h1, dst_2 h1]; rfl
def evL (f : Nat → Int32) (L : List Int32) : Bool := (L.foldl (fun s x => tstep f x s) []).headD false
def valE (e : Int32) : Int32 := if (-200 : Int32) < e then (-10) - e else e - (-200)
def evT (f : Nat → Int32) (cl : List (Int32 × List Int32)) : Int32 := cl.foldl (fun s c => s + (if evL f c.2 = true then valE c.1 else 0)) 0
/-- the clauses are in order -/
def WFC (cl : List (Int32 × List Int32)) : Prop := ∀ c ∈ cl, wfT 0 c.2 ∧ dfin 0 c.2 = 1 ∧ ∃ k : Nat, k < 100 ∧ (c.1 = (-10) - nI k ∨ c.1 = (-200) - nI k)
theorem end_le {c : Int32} {k : Nat} (hk : k < 100) (h : c = (-10) - nI k ∨ c = (-200) - nI k) : c ≤ -10 := by
  have e : (nI k).toInt = k := nI_toInt (by omega)
  have a : ((-10 : Int32) - nI k).toInt = -10 - k := by
    rw [Int32.toInt_sub, e]
    have : (-10 : Int32).toInt = -10 := by decide
    rw [this]
    rw [Int.bmod_eq_of_le] <;> omega
  have b : ((-200 : Int32) - nI k).toInt = -200 - k := by
    rw [Int32.toInt_sub, e]
    have : (-200 : Int32).toInt = -200 := by decide
    rw [this]
    rw [Int.bmod_eq_of_le] <;> omega
  have z : (-10 : Int32).toInt = -10 := by decide
  rcases h with rfl | rfl
  · exact le_i.mpr (by omega)
  · exact le_i.mpr (by omega)
theorem tok_gt {x : Int32} {d : Nat} (h : tok x d) : ¬ x ≤ -10 := by
  rcases h with ⟨w, q, v, h1, h2, h3, rfl, -⟩ | ⟨rfl, -⟩ | ⟨rfl | rfl, -⟩
  · exact nat_nle_neg (by omega) (by decide)
  · decide
  · decide
  · decide
/-- a step of the flat row: sum and truths -/
def estep (f : Nat → Int32) (st : Int32 × List Bool) (x : Int32) : Int32 × List Bool := if x ≤ -10 then (st.1 + (if st.2.headD false = true then valE x else 0), []) else (st.1, tstep f x st.2)
def fl (cl : List (Int32 × List Int32)) : List Int32 := cl.flatMap (fun c => c.2 ++ [c.1])
/-- the flat row is in order, from a depth on -/
def wfF : Nat → List Int32 → Prop
  | d, [] => d = 0
  | d, x :: t => (x ≤ -10 ∧ d = 1 ∧ wfF 0 t) ∨ (tok x d ∧ wfF (dst x d) t)
theorem wfF_app : ∀ (L R : List Int32) (d : Nat), wfT d L → wfF (dfin d L) R → wfF d (L ++ R)
  | [], _, _, _, h => h
  | x :: t, R, d, h, h2 => Or.inr ⟨h.1, wfF_app t R (dst x d) h.2 h2⟩
theorem fl_wf : ∀ cl : List (Int32 × List Int32), WFC cl → wfF 0 (fl cl)
  | [], _ => rfl
  | c :: t, h => by
    have h1 := h c List.mem_cons_self
    have h2 := fl_wf t (fun q hq => h q (List.mem_cons_of_mem _ hq))
    obtain ⟨k, hk, hc⟩ := h1.2.2
    show wfF 0 ((c.2 ++ [c.1]) ++ fl t)
    rw [List.append_assoc]
    refine wfF_app _ _ 0 h1.1 ?_
    rw [h1.2.1]
    exact Or.inl ⟨end_le hk hc, rfl, h2⟩
theorem run_tok {f : Nat → Int32} : ∀ (L : List Int32) (s : Int32) (k : List Bool), wfT k.length L → L.foldl (estep f) (s, k) = (s, L.foldl (fun s x => tstep f x s) k)
  | [], _, _, _ => rfl
  | x :: t, s, k, h => by
    show t.foldl (estep f) (estep f (s, k) x) = (s, t.foldl _ (tstep f x k))
    have e : estep f (s, k) x = (s, tstep f x k) := if_neg (tok_gt h.1)
    rw [e]
    exact run_tok t s (tstep f x k) (by rw [tstep_len h.1]; exact h.2)
theorem run_fl {f : Nat → Int32} : ∀ (cl : List (Int32 × List Int32)) (s : Int32), WFC cl → (fl cl).foldl (estep f) (s, []) = (cl.foldl (fun s c => s + (if evL f c.2 = true then valE c.1 else 0)) s, [])
  | [], _, _ => rfl
  | c :: t, s, h => by
    have h1 := h c List.mem_cons_self
    obtain ⟨k, hk, hc⟩ := h1.2.2
    show ((c.2 ++ [c.1]) ++ fl t).foldl (estep f) (s, []) = _
    rw [List.foldl_append, List.foldl_append, run_tok c.2 s [] h1.1]
    have e : [c.1].foldl (estep f) (s, c.2.foldl (fun s x => tstep f x s) []) = (s + (if evL f c.2 = true then valE c.1 else 0), []) := if_pos (end_le hk hc)
    rw [e]
    exact run_fl t _ (fun q hq => h q (List.mem_cons_of_mem _ hq))
theorem evT_run {f : Nat → Int32} {cl : List (Int32 × List Int32)} (h : WFC cl) : (fl cl).foldl (estep f) (0, []) = (evT f cl, []) := run_fl cl 0 h
/-- the reference's loop: sum x, depth d, truths tr behind j steps of the flat row -/
def WI (f : Nat → Int32) (cl : List (Int32 × List Int32)) (j : Nat) (x : Int32) (d : Nat) (tr : Nat → Int32) : Prop :=
  ∃ k : List Bool, d = k.length ∧ d ≤ 30 ∧ (∀ i, i < d → tr i = bI (k.getD (d - 1 - i) false)) ∧ wfF d ((fl cl).drop j) ∧ ((fl cl).drop j).foldl (estep f) (x, k) = (evT f cl, [])
theorem WI.start {f : Nat → Int32} {cl : List (Int32 × List Int32)} {tr : Nat → Int32} (h : WFC cl) : WI f cl 0 0 0 tr := ⟨[], rfl, by omega, fun i hi => absurd hi (Nat.not_lt_zero i), fl_wf cl h, evT_run h⟩
theorem WI.done {f : Nat → Int32} {cl : List (Int32 × List Int32)} {j d : Nat} {x : Int32} {tr : Nat → Int32} (h : WI f cl j x d tr) (hj : (fl cl).length ≤ j) : x = evT f cl := by
  obtain ⟨k, h1, -, h3, h4, h5⟩ := h
  rw [List.drop_eq_nil_of_le hj] at h5
  exact congrArg Prod.fst h5
theorem drop_at {L : List Int32} {j : Nat} (h : j < L.length) : L.drop j = L.getD j 0 :: L.drop (j + 1) := by
  rw [List.getD_eq_getElem?_getD, List.getElem?_eq_getElem h]
  exact List.drop_eq_getElem_cons h
section
variable {f : Nat → Int32} {cl : List (Int32 × List Int32)} {j d : Nat} {x : Int32} {tr : Nat → Int32}
/-- what can be at a step -/
theorem WI.ok (h : WI f cl j x d tr) (hj : j < (fl cl).length) : ((fl cl).getD j 0 ≤ -10 ∧ d = 1) ∨ tok ((fl cl).getD j 0) d := by
  obtain ⟨k, h1, h2, h3, h4, h5⟩ := h
  rw [drop_at hj] at h4
  rcases h4 with ⟨a, b, -⟩ | ⟨a, -⟩
  · exact Or.inl ⟨a, b⟩
  · exact Or.inr a
theorem WI.next (h : WI f cl j x d tr) (hj : j < (fl cl).length) (ht : tok ((fl cl).getD j 0) d) {d2 : Nat} {tr2 : Nat → Int32} (hd : d2 = dst ((fl cl).getD j 0) d) (hd30 : d2 ≤ 30)
    (htr : ∀ k : List Bool, d = k.length → (∀ i, i < d → tr i = bI (k.getD (d - 1 - i) false)) → ∀ i, i < d2 → tr2 i = bI ((tstep f ((fl cl).getD j 0) k).getD (d2 - 1 - i) false)) : WI f cl (j + 1) x d2 tr2 := by
  obtain ⟨k, h1, h2, h3, h4, h5⟩ := h
  rw [drop_at hj] at h4 h5
  refine ⟨tstep f ((fl cl).getD j 0) k, ?_, hd30, htr k h1 h3, ?_, ?_⟩
  · rw [tstep_len (by rw [← h1]; exact ht), ← h1]; exact hd
  · rcases h4 with ⟨a, -, -⟩ | ⟨-, a⟩
    · exact absurd a (tok_gt ht)
    · rw [hd]; exact a
  · have e : estep f (x, k) ((fl cl).getD j 0) = (x, tstep f ((fl cl).getD j 0) k) := if_neg (tok_gt ht)
    rw [← e]
    exact h5
theorem WI.push (h : WI f cl j x d tr) (hj : j < (fl cl).length) {n : Nat} (hx : (fl cl).getD j 0 = nI n) (hn : n < 2 ^ 31) (hd : d < 30) {b : Bool} (hb : tstN f n = b) : WI f cl (j + 1) x (d + 1) (upd tr d (bI b)) := by
  have ht : tok ((fl cl).getD j 0) d := by
    rcases h.ok hj with ⟨a, -⟩ | a
    · rw [hx] at a; exact absurd a (nat_nle_neg hn (by decide))
    · exact a
  refine h.next hj ht (by rw [hx, dst_n hn]) (by omega) (fun k h1 h3 i hi => ?_)
  rw [hx, tstep_n hn, hb]
  by_cases e : i = d
  · subst e; rw [pk_us, show i + 1 - 1 - i = 0 by omega]; rfl
  · rw [pk_un e, h3 i (by omega), show d + 1 - 1 - i = (d - 1 - i) + 1 by omega]; rfl
theorem WI.not (h : WI f cl j x d tr) (hj : j < (fl cl).length) (hx : (fl cl).getD j 0 = -1) {b : Bool} (hb : tr (d - 1) = bI b) : WI f cl (j + 1) x d (upd tr (d - 1) (bI (!b))) := by
  have ht : tok ((fl cl).getD j 0) d := by
    rcases h.ok hj with ⟨a, -⟩ | a
    · rw [hx] at a; exact absurd a (by decide)
    · exact a
  have hd1 : 1 ≤ d ∧ d ≤ 30 := by
    obtain ⟨k, h1, h2, h3, -⟩ := h
    rw [hx] at ht
    rcases ht with ⟨w, q, v, h1, h2, h3, h4, -⟩ | ⟨-, h1⟩ | ⟨h1 | h1, -⟩
    · exact absurd h4.symm (nat_ne_neg (by omega) (by decide))
    · omega
    · exact absurd h1 (by decide)
    · exact absurd h1 (by decide)
  refine h.next hj ht (by rw [hx, dst_1]) hd1.2 (fun k h1 h3 i hi => ?_)
  rcases k with _ | ⟨c, k⟩
  · simp at h1; omega
  · have hc : bI c = bI b := by
      have := h3 (d - 1) (by omega)
      rw [show d - 1 - (d - 1) = 0 by omega] at this
      exact this.symm.trans hb
    have hcb : c = b := by cases c <;> cases b <;> first | rfl | exact absurd hc (by decide)
    rw [hx, tstep_1]
    by_cases e : i = d - 1
    · subst e; rw [pk_us, show d - 1 - (d - 1) = 0 by omega, hcb]; rfl
    · rw [pk_un e, h3 i hi, show d - 1 - i = (d - 2 - i) + 1 by omega]; rfl
theorem WI.two (h : WI f cl j x d tr) (hj : j < (fl cl).length) (hx : (fl cl).getD j 0 = -2 ∨ (fl cl).getD j 0 = -3) {a b : Bool} (ha : tr (d - 1 - 1) = bI a) (hb : tr (d - 1) = bI b) : WI f cl (j + 1) x (d - 1) (upd tr (d - 1 - 1) (bI (if (fl cl).getD j 0 = -2 then (a && b) else (a || b)))) := by
  have ht : tok ((fl cl).getD j 0) d := by
    rcases h.ok hj with ⟨a, -⟩ | a
    · rcases hx with e | e <;> (rw [e] at a; exact absurd a (by decide))
    · exact a
  have hd1 : 2 ≤ d ∧ d ≤ 30 := by
    obtain ⟨k, h1, h2, h3, -⟩ := h
    rcases ht with ⟨w, q, v, h1, h2, h3, h4, -⟩ | ⟨h0, h1⟩ | ⟨-, h1⟩
    · rcases hx with e | e
      · exact absurd (h4.symm.trans e) (nat_ne_neg (by omega) (by decide))
      · exact absurd (h4.symm.trans e) (nat_ne_neg (by omega) (by decide))
    · rcases hx with e | e
      · exact absurd (h0.symm.trans e) (by decide)
      · exact absurd (h0.symm.trans e) (by decide)
    · omega
  refine h.next hj ht (by rw [dst_2 hx]) (by omega) (fun k h1 h3 i hi => ?_)
  rcases k with _ | ⟨c, _ | ⟨c2, k⟩⟩
  · simp at h1; omega
  · simp at h1; omega
  · have hc : bI c = bI b := by
      have := h3 (d - 1) (by omega)
      rw [show d - 1 - (d - 1) = 0 by omega] at this
      exact this.symm.trans hb
    have hcb : c = b := by cases c <;> cases b <;> first | rfl | exact absurd hc (by decide)
    have hc2 : bI c2 = bI a := by
      have := h3 (d - 1 - 1) (by omega)
      rw [show d - 1 - (d - 1 - 1) = 1 by omega] at this
      exact this.symm.trans ha
    have hcb2 : c2 = a := by cases c2 <;> cases a <;> first | rfl | exact absurd hc2 (by decide)
    rw [tstep_2 hx]
    by_cases e : i = d - 1 - 1
    · subst e; rw [pk_us, show d - 1 - 1 - (d - 1 - 1) = 0 by omega, hcb, hcb2]; rfl
    · rw [pk_un e, h3 i (by omega), show d - 1 - i = (d - 1 - 1 - i) + 1 by omega, show d - 1 - 1 - i = (d - 1 - 1 - 1 - i) + 1 by omega]; rfl
theorem WI.fin (h : WI f cl j x d tr) (hj : j < (fl cl).length) (hx : (fl cl).getD j 0 ≤ -10) {b : Bool} (hb : tr 0 = bI b) : WI f cl (j + 1) (x + (if b = true then valE ((fl cl).getD j 0) else 0)) 0 tr := by
  have hd : d = 1 := by
    rcases h.ok hj with ⟨-, a⟩ | a
    · exact a
    · exact absurd hx (tok_gt a)
  obtain ⟨k, h1, h2, h3, h4, h5⟩ := h
  rw [drop_at hj] at h4 h5
  rcases k with _ | ⟨c, k⟩
  · simp at h1; omega
  · have hc : bI c = bI b := by
      have := h3 0 (by omega)
      rw [show d - 1 - 0 = 0 by omega] at this
      exact this.symm.trans hb
    have hcb : c = b := by cases c <;> cases b <;> first | rfl | exact absurd hc (by decide)
    refine ⟨[], rfl, by omega, fun i hi => absurd hi (Nat.not_lt_zero i), ?_, ?_⟩
    · rcases h4 with ⟨-, -, a⟩ | ⟨a, -⟩
      · exact a
      · exact absurd hx (tok_gt a)
    · have e : estep f (x, c :: k) ((fl cl).getD j 0) = (x + (if c = true then valE ((fl cl).getD j 0) else 0), []) := if_pos hx
      rw [← hcb, ← e]
      exact h5
/-- truths are 0 or 1 -/
theorem WI.bit (h : WI f cl j x d tr) {i : Nat} (hi : i < d) : ∃ b : Bool, tr i = bI b := by
  obtain ⟨k, h1, h2, h3, -⟩ := h
  exact ⟨_, h3 i hi⟩
theorem bit_z {y : Int32} {b : Bool} (e : y = bI b) (h : y = 0) : y = bI false := h
theorem bit_o {y : Int32} (e : ∃ b : Bool, y = bI b) (h : ¬ y = 0) : y = bI true := by
  obtain ⟨b, rfl⟩ := e
  cases b
  · exact absurd rfl h
  · rfl
end
/-- clauses that are read are in order -/
def CWF (nn : Nat) (e : Int32) (L : List Int32) : Prop := nn < 100 ∨ (nn = 100 ∧ wfT 0 L ∧ dfin 0 L = 1 ∧ ∃ k : Nat, k < 100 ∧ (e = (-10) - nI k ∨ e = (-200) - nI k))
theorem pMuch_wf {Z : Nat → Int32} {ws : List Int32} {k0 : Int32} (hk : k0 = -10 ∨ k0 = -200) {i j nn : Nat} {e : Int32} {L : List Int32} (h : pMuch Z ws k0 i = (true, j, nn, e, L)) : CWF nn e L := by
  rcases h1 : pWord Z ws i with ⟨b1, q⟩
  cases b1 with
  | false => rw [pMuch_1 h1] at h; cases h
  | true =>
    rcases h2 : pNum Z q with ⟨b2, n, v⟩
    cases b2 with
    | false => rw [pMuch_2 h1 h2] at h; cases h
    | true =>
      by_cases h3 : Z n = 32
      · rcases h4 : pAny Z 5 (n + 1) with ⟨b4, j2, L2⟩
        cases b4 with
        | false => rw [pMuch_4 h1 h2 h3 h4] at h; cases h
        | true =>
          rw [pMuch_5 h1 h2 h3 h4] at h
          have hw := pAny_wf (r := 5) (by omega) (n + 1) j2 L2 0 h4 (by omega)
          have hv := pNum_lt h2
          cases h
          refine Or.inr ⟨rfl, hw.1, hw.2, v, hv, ?_⟩
          rcases hk with rfl | rfl
          · exact Or.inl rfl
          · exact Or.inr rfl
      · rw [pMuch_3 h1 h2 h3] at h; cases h
theorem pNote_wf {Z : Nat → Int32} {i j nn : Nat} {e : Int32} {L : List Int32} (h : pNote Z i = (true, j, nn, e, L)) : CWF nn e L := by
  rcases h1 : pWord Z WNOTE i with ⟨b1, q⟩
  cases b1 with
  | false => rw [pNote_1 h1] at h; cases h
  | true =>
    rcases h2 : pNum Z q with ⟨b2, n, v⟩
    cases b2 with
    | false => rw [pNote_2 h1 h2] at h; cases h
    | true =>
      rw [pNote_3 h1 h2] at h
      have hv := pNum_lt h2
      cases h
      exact Or.inl hv
theorem pClause_wf {Z : Nat → Int32} {i j nn : Nat} {e : Int32} {L : List Int32} (h : pClause Z i = (true, j, nn, e, L)) : CWF nn e L := by
  by_cases h1 : Z i = 110
  · rw [pClause_n h1] at h; exact pNote_wf h
  · by_cases h2 : Z i = 104
    · rw [pClause_h h2] at h; exact pMuch_wf (Or.inr rfl) h
    · rw [pClause_g h1 h2] at h; exact pMuch_wf (Or.inl rfl) h
theorem WFC.add {t : TWN} {nn : Nat} {e : Int32} {L : List Int32} (h : WFC t.2) (c : CWF nn e L) : WFC (addC t nn e L).2 := by
  unfold addC
  split
  · rename_i hn
    rcases c with c | ⟨-, c⟩
    · omega
    · intro q hq
      rcases List.mem_append.mp hq with hq | hq
      · exact h q hq
      · rw [List.mem_singleton.mp hq]; exact c
  · exact h
theorem fl_app (a b : List (Int32 × List Int32)) : fl (a ++ b) = fl a ++ fl b := List.flatMap_append
theorem fl_one (e : Int32) (L : List Int32) : fl [(e, L)] = L ++ [e] := by
  show (L ++ [e]) ++ [] = _
  rw [List.append_nil]
/-- the town of the row's place T -/
def TP (f : Nat → Int32) (T : Nat) (t : TWN) : Prop := f (136 + T) = nI t.1 ∧ f (141 + T) = nI (fl t.2).length ∧ ∀ i, i < (fl t.2).length → f (146 + 140 * T + i) = (fl t.2).getD i 0
theorem TP.cong {f g : Nat → Int32} {T : Nat} {t : TWN} (a : TP f T t) (h1 : g (136 + T) = f (136 + T)) (h2 : g (141 + T) = f (141 + T)) (h3 : ∀ i, i < (fl t.2).length → g (146 + 140 * T + i) = f (146 + 140 * T + i)) : TP g T t := ⟨h1.trans a.1, h2.trans a.2.1, fun i hi => (h3 i hi).trans (a.2.2 i hi)⟩
theorem TP.addc {f g : Nat → Int32} {T : Nat} {t : TWN} {e : Int32} {L : List Int32} (a : TP f T t) (h1 : g (136 + T) = f (136 + T)) (h2 : g (141 + T) = nI ((fl t.2).length + (L ++ [e]).length)) (h3 : AP g f (146 + 140 * T) (fl t.2).length (L ++ [e])) : TP g T (addC t 100 e L) := by
  have e1 : fl (t.2 ++ [(e, L)]) = fl t.2 ++ (L ++ [e]) := by rw [fl_app, fl_one]
  refine ⟨h1.trans a.1, ?_, ?_⟩
  · show g (141 + T) = nI (fl (t.2 ++ [(e, L)])).length
    rw [e1, List.length_append]; exact h2
  · show ∀ i, i < (fl (t.2 ++ [(e, L)])).length → g (146 + 140 * T + i) = (fl (t.2 ++ [(e, L)])).getD i 0
    rw [e1, List.length_append]
    intro i hi
    by_cases q : i < (fl t.2).length
    · rw [h3.1 i q, a.2.2 i q, gd_l q]
    · have := h3.2 (i - (fl t.2).length) (by omega)
      rw [show 146 + 140 * T + (fl t.2).length + (i - (fl t.2).length) = 146 + 140 * T + i by omega] at this
      rw [this]
      exact (gd_r (by omega)).symm
theorem TP.addn {f : Nat → Int32} {T : Nat} {t : TWN} {n : Nat} {e : Int32} {L : List Int32} (a : TP f T t) (hn : n < 100) (hT : T < 5) : TP (upd f (136 + T) (nI n)) T (addC t n e L) := by
  have e1 : addC t n e L = (n, t.2) := if_neg (by omega)
  rw [e1]
  exact ⟨pk_us, (pk_un (by omega)).trans a.2.1, fun i hi => (pk_un (by omega)).trans (a.2.2 i hi)⟩
theorem TP.zero {f : Nat → Int32} {T : Nat} (h1 : f (136 + T) = nI 0) (h2 : f (141 + T) = nI 0) : TP f T (0, []) := ⟨h1, h2, fun i hi => absurd hi (Nat.not_lt_zero i)⟩
/-- the facts of a case: hour, person, m, n, y, kind -/
def byF (h p m n y k : Nat) : Nat → Int32 := fun i => match i with
  | 0 => nI h
  | 1 => nI p
  | 2 => nI m
  | 3 => nI n
  | 4 => nI y
  | _ => nI k
def EvW (cl : List (Int32 × List Int32)) : Ev := fun p k h m n y => evT (byF h p m n y k) cl
theorem tstN_cong {f g : Nat → Int32} {n : Nat} (h : f (n % 8) = g (n % 8)) : tstN f n = tstN g n := by
  unfold tstN
  rw [h]
theorem tstep_cong {f g : Nat → Int32} (e : ∀ i, i < 6 → f i = g i) {x : Int32} {d : Nat} (h : tok x d) (s : List Bool) : tstep f x s = tstep g x s := by
  rcases h with ⟨w, q, v, h1, h2, h3, rfl, -⟩ | ⟨rfl, -⟩ | ⟨rfl | rfl, -⟩
  · rw [tstep_n (by omega), tstep_n (by omega), tstN_cong (e _ (by omega))]
  · exact (tstep_neg (by decide)).trans (tstep_neg (by decide)).symm
  · exact (tstep_neg (by decide)).trans (tstep_neg (by decide)).symm
  · exact (tstep_neg (by decide)).trans (tstep_neg (by decide)).symm
theorem run_cong {f g : Nat → Int32} (e : ∀ i, i < 6 → f i = g i) (L : List Int32) : ∀ (s : List Bool) (d : Nat), wfT d L → L.foldl (fun s x => tstep f x s) s = L.foldl (fun s x => tstep g x s) s := by
  induction L with
  | nil => intro s d h; rw [List.foldl_nil, List.foldl_nil]
  | cons x t ih =>
    intro s d h
    rw [List.foldl_cons, List.foldl_cons, tstep_cong e h.1 s]
    exact ih _ _ h.2
theorem evT_go {f g : Nat → Int32} (e : ∀ i, i < 6 → f i = g i) (cl : List (Int32 × List Int32)) : ∀ s : Int32, WFC cl → cl.foldl (fun s c => s + (if evL f c.2 = true then valE c.1 else 0)) s = cl.foldl (fun s c => s + (if evL g c.2 = true then valE c.1 else 0)) s := by
  induction cl with
  | nil => intro s h; rw [List.foldl_nil, List.foldl_nil]
  | cons c t ih =>
    intro s h
    have h1 := h c List.mem_cons_self
    have q : evL f c.2 = evL g c.2 := by unfold evL; rw [run_cong e c.2 [] 0 h1.1]
    rw [List.foldl_cons, List.foldl_cons, q]
    exact ih _ (fun q hq => h q (List.mem_cons_of_mem _ hq))
theorem evT_cong {f g : Nat → Int32} (e : ∀ i, i < 6 → f i = g i) (cl : List (Int32 × List Int32)) (h : WFC cl) : evT f cl = evT g cl := evT_go e cl 0 h
end CEV
section CEW
variable {f : Nat → Int32} {cl : List (Int32 × List Int32)} {j d : Nat} {x : Int32} {tr : Nat → Int32}
theorem WI.d30 (h : WI f cl j x d tr) : d ≤ 30 := by
  obtain ⟨k, h1, h2, -⟩ := h
  exact h2
/-- a step from 0 on is a test -/
theorem WI.isn (h : WI f cl j x d tr) (hj : j < (fl cl).length) (hs : ¬ (fl cl).getD j 0 < 0) : ∃ w q v : Nat, w < 6 ∧ q < 3 ∧ v < 100 ∧ (fl cl).getD j 0 = nI (w + 8 * q + 32 * v) ∧ d < 30 := by
  rcases h.ok hj with ⟨a, -⟩ | ⟨w, q, v, h1, h2, h3, h4, h5⟩ | ⟨h1, -⟩ | ⟨h1 | h1, -⟩
  · exact absurd (Int32.lt_of_le_of_lt a (by decide)) hs
  · exact ⟨w, q, v, h1, h2, h3, h4, h5⟩
  · rw [h1] at hs; exact absurd (by decide) hs
  · rw [h1] at hs; exact absurd (by decide) hs
  · rw [h1] at hs; exact absurd (by decide) hs
theorem WI.ge1 (h : WI f cl j x d tr) (hj : j < (fl cl).length) (hx : (fl cl).getD j 0 = -1) : 1 ≤ d := by
  rcases h.ok hj with ⟨a, -⟩ | ⟨w, q, v, h1, h2, h3, h4, h5⟩ | ⟨-, h1⟩ | ⟨h1 | h1, -⟩
  · rw [hx] at a; exact absurd a (by decide)
  · exact absurd (h4.symm.trans hx) (nat_ne_neg (by omega) (by decide))
  · exact h1
  · exact absurd (h1.symm.trans hx) (by decide)
  · exact absurd (h1.symm.trans hx) (by decide)
theorem WI.ge2 (h : WI f cl j x d tr) (hj : j < (fl cl).length) (h0 : (fl cl).getD j 0 < 0) (h1 : ¬ (fl cl).getD j 0 = -1) (h2 : ¬ (fl cl).getD j 0 ≤ -10) : 2 ≤ d ∧ ((fl cl).getD j 0 = -2 ∨ (fl cl).getD j 0 = -3) := by
  rcases h.ok hj with ⟨a, -⟩ | ⟨w, q, v, a1, a2, a3, a4, -⟩ | ⟨a1, -⟩ | ⟨a1, a2⟩
  · exact absurd a h2
  · rw [a4] at h0; exact absurd h0 (nI_pos (by omega))
  · exact absurd a1 h1
  · exact ⟨a2, a1⟩
theorem WI.end1 (h : WI f cl j x d tr) (hj : j < (fl cl).length) (hx : (fl cl).getD j 0 ≤ -10) : d = 1 := by
  rcases h.ok hj with ⟨-, a⟩ | a
  · exact a
  · exact absurd hx (tok_gt a)
theorem WI.not0 (h : WI f cl j x d tr) (hj : j < (fl cl).length) (hx : (fl cl).getD j 0 = -1) (hb : tr (d - 1) = 0) : WI f cl (j + 1) x d (upd tr (d - 1) 1) := h.not hj hx (b := false) hb
theorem WI.not1 (h : WI f cl j x d tr) (hj : j < (fl cl).length) (hx : (fl cl).getD j 0 = -1) (hb : ¬ tr (d - 1) = 0) : WI f cl (j + 1) x d (upd tr (d - 1) 0) := h.not hj hx (b := true) (bit_o (h.bit (by have := h.ge1 hj hx; omega)) hb)
section
theorem WI.and0 (h : WI f cl j x d tr) (hj : j < (fl cl).length) (hx : (fl cl).getD j 0 = -2 ∨ (fl cl).getD j 0 = -3) (h2 : 2 ≤ d) (hc : (fl cl).getD j 0 = -2) (ha : tr (d - 1 - 1) = 0) : WI f cl (j + 1) x (d - 1) (upd tr (d - 1 - 1) 0) := by
  obtain ⟨b, hb⟩ := h.bit (i := d - 1) (by omega)
  have := h.two hj hx (a := false) ha hb
  rw [if_pos hc] at this
  exact this
theorem WI.and10 (h : WI f cl j x d tr) (hj : j < (fl cl).length) (hx : (fl cl).getD j 0 = -2 ∨ (fl cl).getD j 0 = -3) (h2 : 2 ≤ d) (hc : (fl cl).getD j 0 = -2) (ha : ¬ tr (d - 1 - 1) = 0) (hb : tr (d - 1) = 0) : WI f cl (j + 1) x (d - 1) (upd tr (d - 1 - 1) 0) := by
  have := h.two hj hx (bit_o (h.bit (by omega)) ha) (b := false) hb
  rw [if_pos hc] at this
  exact this
theorem WI.and11 (h : WI f cl j x d tr) (hj : j < (fl cl).length) (hx : (fl cl).getD j 0 = -2 ∨ (fl cl).getD j 0 = -3) (h2 : 2 ≤ d) (hc : (fl cl).getD j 0 = -2) (ha : ¬ tr (d - 1 - 1) = 0) (hb : ¬ tr (d - 1) = 0) : WI f cl (j + 1) x (d - 1) (upd tr (d - 1 - 1) 1) := by
  have := h.two hj hx (bit_o (h.bit (by omega)) ha) (bit_o (h.bit (by omega)) hb)
  rw [if_pos hc] at this
  exact this
theorem WI.or1 (h : WI f cl j x d tr) (hj : j < (fl cl).length) (hx : (fl cl).getD j 0 = -2 ∨ (fl cl).getD j 0 = -3) (h2 : 2 ≤ d) (hc : ¬ (fl cl).getD j 0 = -2) (ha : ¬ tr (d - 1 - 1) = 0) : WI f cl (j + 1) x (d - 1) (upd tr (d - 1 - 1) 1) := by
  obtain ⟨b, hb⟩ := h.bit (i := d - 1) (by omega)
  have := h.two hj hx (bit_o (h.bit (by omega)) ha) hb
  rw [if_neg hc] at this
  exact this
theorem WI.or01 (h : WI f cl j x d tr) (hj : j < (fl cl).length) (hx : (fl cl).getD j 0 = -2 ∨ (fl cl).getD j 0 = -3) (h2 : 2 ≤ d) (hc : ¬ (fl cl).getD j 0 = -2) (ha : tr (d - 1 - 1) = 0) (hb : ¬ tr (d - 1) = 0) : WI f cl (j + 1) x (d - 1) (upd tr (d - 1 - 1) 1) := by
  have := h.two hj hx (a := false) ha (bit_o (h.bit (by omega)) hb)
  rw [if_neg hc] at this
  exact this
theorem WI.or00 (h : WI f cl j x d tr) (hj : j < (fl cl).length) (hx : (fl cl).getD j 0 = -2 ∨ (fl cl).getD j 0 = -3) (h2 : 2 ≤ d) (hc : ¬ (fl cl).getD j 0 = -2) (ha : tr (d - 1 - 1) = 0) (hb : tr (d - 1) = 0) : WI f cl (j + 1) x (d - 1) (upd tr (d - 1 - 1) 0) := by
  have := h.two hj hx (a := false) ha (b := false) hb
  rw [if_neg hc] at this
  exact this
end
theorem WI.end0 (h : WI f cl j x d tr) (hj : j < (fl cl).length) (hx : (fl cl).getD j 0 ≤ -10) (hb : tr 0 = 0) : WI f cl (j + 1) x 0 tr := by
  have := h.fin hj hx (b := false) hb
  rw [if_neg (by decide), Int32.add_zero] at this
  exact this
theorem WI.end1a (h : WI f cl j x d tr) (hj : j < (fl cl).length) (hx : (fl cl).getD j 0 ≤ -10) (hb : ¬ tr 0 = 0) (hc : (-200 : Int32) < (fl cl).getD j 0) : WI f cl (j + 1) (x + ((-10 : Int32) - (fl cl).getD j 0)) 0 tr := by
  have := h.fin hj hx (bit_o (h.bit (by have := h.end1 hj hx; omega)) hb)
  rw [if_pos rfl] at this
  unfold valE at this
  rw [if_pos hc] at this
  exact this
theorem WI.end1b (h : WI f cl j x d tr) (hj : j < (fl cl).length) (hx : (fl cl).getD j 0 ≤ -10) (hb : ¬ tr 0 = 0) (hc : ¬ (-200 : Int32) < (fl cl).getD j 0) : WI f cl (j + 1) (x + ((fl cl).getD j 0 - (-200 : Int32))) 0 tr := by
  have := h.fin hj hx (bit_o (h.bit (by have := h.end1 hj hx; omega)) hb)
  rw [if_pos rfl] at this
  unfold valE at this
  rw [if_neg hc] at this
  exact this
/-- the town that holds has these clauses -/
def CW (sv : Nat → Int32) (T : Nat) (cw : List (Int32 × List Int32)) : Prop := WFC cw ∧ (fl cw).length ≤ 100 ∧ ((T = 0 ∧ cw = []) ∨ ∃ t n : Nat, T = t + 1 ∧ TP sv t (n, cw))
theorem CW.at0 {sv : Nat → Int32} {T : Nat} {cw : List (Int32 × List Int32)} (h : CW sv T cw) (h0 : T = 0) : cw = [] := by
  rcases h.2.2 with ⟨-, a⟩ | ⟨t, n, a, -⟩
  · exact a
  · omega
theorem CW.at1 {sv : Nat → Int32} {T t : Nat} {cw : List (Int32 × List Int32)} (h : CW sv T cw) (h0 : T = t + 1) : ∃ n : Nat, TP sv t (n, cw) := by
  rcases h.2.2 with ⟨a, -⟩ | ⟨t', n, a, b⟩
  · omega
  · exact ⟨n, by rw [show t = t' by omega]; exact b⟩
/-- the table of one: its first n cases -/
def TBX (tbl : Nat → Int32) (E : Ev) (F : Fk) (p n : Nat) : Prop := ∀ k, k < n → tbl (96 * p + k) = E p (F.1 p) (k / 32) (k / 8 % 4) (k / 2 % 4) (k % 2)
def TBr (tbl : Nat → Int32) (P : Nat) (F : Fk) (E : Ev) : Prop := ∀ p, p < P → TBX tbl E F p 96
theorem TBr.at {tbl : Nat → Int32} {P : Nat} {F : Fk} {E : Ev} (T : TBr tbl P F E) {i p h m n y : Nat} (hp : p < P) (hh : h < 3) (hm : m < 4) (hn : n < 4) (hy : y < 2) (hi : i = 96 * p + 32 * h + 8 * m + 2 * n + y) : tbl i = E p (F.1 p) h m n y := by
  have := T p hp (32 * h + 8 * m + 2 * n + y) (by omega)
  rw [show 96 * p + (32 * h + 8 * m + 2 * n + y) = i by omega] at this
  rw [this]
  rw [show (32 * h + 8 * m + 2 * n + y) / 32 = h by omega, show (32 * h + 8 * m + 2 * n + y) / 8 % 4 = m by omega, show (32 * h + 8 * m + 2 * n + y) / 2 % 4 = n by omega, show (32 * h + 8 * m + 2 * n + y) % 2 = y by omega]
end CEW
