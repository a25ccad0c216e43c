/-! what the reference's row of numbers holds, at all times -/
section CI
def MI (f : Nat → Int32) (P T B S Y : Nat) : Prop :=
  (f 0 = nI P ∧ P ≤ 4) ∧ (f 1 = nI T ∧ T ≤ 5) ∧ (f 2 = nI B ∧ B ≤ 10) ∧ (f 3 = nI S ∧ S ≤ 100) ∧ f 4 = nI T + (-1) ∧ (f 5 = nI Y ∧ Y < d8 P) ∧
  (∀ j, j < 4 → ∃ k : Nat, k < 7 ∧ f (110 + j) = nI k) ∧ (∀ j, j < 4 → ∃ k : Nat, k < 10 ∧ f (114 + j) = nI k) ∧ (∀ j, j < 4 → ∃ k : Nat, k < 8 ∧ f (118 + j) = nI k) ∧ (∀ j, j < 4 → ∃ k : Nat, k < 2 ∧ f (122 + j) = nI k) ∧
  (∀ j, j < B → ∃ k : Nat, k < d8 P ∧ f (126 + j) = nI k) ∧ ∀ j, j < T → ∃ k : Nat, k < 100 ∧ f (136 + j) = nI k
theorem MI.h0 {f : Nat → Int32} {P T B S Y : Nat} (h : MI f P T B S Y) : f 0 = nI P := h.1.1
theorem MI.P4 {f : Nat → Int32} {P T B S Y : Nat} (h : MI f P T B S Y) : P ≤ 4 := h.1.2
theorem MI.h1 {f : Nat → Int32} {P T B S Y : Nat} (h : MI f P T B S Y) : f 1 = nI T := h.2.1.1
theorem MI.T5 {f : Nat → Int32} {P T B S Y : Nat} (h : MI f P T B S Y) : T ≤ 5 := h.2.1.2
theorem MI.h2 {f : Nat → Int32} {P T B S Y : Nat} (h : MI f P T B S Y) : f 2 = nI B := h.2.2.1.1
theorem MI.B10 {f : Nat → Int32} {P T B S Y : Nat} (h : MI f P T B S Y) : B ≤ 10 := h.2.2.1.2
theorem MI.h3 {f : Nat → Int32} {P T B S Y : Nat} (h : MI f P T B S Y) : f 3 = nI S := h.2.2.2.1.1
theorem MI.S100 {f : Nat → Int32} {P T B S Y : Nat} (h : MI f P T B S Y) : S ≤ 100 := h.2.2.2.1.2
theorem MI.h4 {f : Nat → Int32} {P T B S Y : Nat} (h : MI f P T B S Y) : f 4 = nI T + (-1) := h.2.2.2.2.1
theorem MI.h5 {f : Nat → Int32} {P T B S Y : Nat} (h : MI f P T B S Y) : f 5 = nI Y := h.2.2.2.2.2.1.1
theorem MI.Yd {f : Nat → Int32} {P T B S Y : Nat} (h : MI f P T B S Y) : Y < d8 P := h.2.2.2.2.2.1.2
theorem MI.kind {f : Nat → Int32} {P T B S Y : Nat} (h : MI f P T B S Y) (j : Nat) (hj : j < 4) : ∃ k : Nat, k < 7 ∧ f (110 + j) = nI k := h.2.2.2.2.2.2.1 j hj
theorem MI.v {f : Nat → Int32} {P T B S Y : Nat} (h : MI f P T B S Y) (j : Nat) (hj : j < 4) : ∃ k : Nat, k < 10 ∧ f (114 + j) = nI k := h.2.2.2.2.2.2.2.1 j hj
theorem MI.row {f : Nat → Int32} {P T B S Y : Nat} (h : MI f P T B S Y) (j : Nat) (hj : j < 4) : ∃ k : Nat, k < 8 ∧ f (118 + j) = nI k := h.2.2.2.2.2.2.2.2.1 j hj
theorem MI.note {f : Nat → Int32} {P T B S Y : Nat} (h : MI f P T B S Y) (j : Nat) (hj : j < 4) : ∃ k : Nat, k < 2 ∧ f (122 + j) = nI k := h.2.2.2.2.2.2.2.2.2.1 j hj
theorem MI.book {f : Nat → Int32} {P T B S Y : Nat} (h : MI f P T B S Y) (j : Nat) (hj : j < B) : ∃ k : Nat, k < d8 P ∧ f (126 + j) = nI k := h.2.2.2.2.2.2.2.2.2.2.1 j hj
theorem MI.notes {f : Nat → Int32} {P T B S Y : Nat} (h : MI f P T B S Y) (j : Nat) (hj : j < T) : ∃ k : Nat, k < 100 ∧ f (136 + j) = nI k := h.2.2.2.2.2.2.2.2.2.2.2 j hj
theorem un_ {f : Nat → Int32} {k j : Nat} {x y : Int32} (h : j ≠ k) (e : f j = y) : upd f k x j = y := (pk_un h).trans e
theorem unE {f : Nat → Int32} {k j n : Nat} {x : Int32} (h : j ≠ k) (e : ∃ m : Nat, m < n ∧ f j = nI m) : ∃ m : Nat, m < n ∧ upd f k x j = nI m := by
  obtain ⟨m, h1, h2⟩ := e
  exact ⟨m, h1, (pk_un h).trans h2⟩
theorem usE {f : Nat → Int32} {k j n m : Nat} (hm : m < n) (h : ∃ q : Nat, q < n ∧ f j = nI q) : ∃ q : Nat, q < n ∧ upd f k (nI m) j = nI q := by
  by_cases e : j = k
  · subst e; exact ⟨m, hm, pk_us⟩
  · exact unE e h
section
variable {f : Nat → Int32} {P T B S Y : Nat}
theorem MI.setKind (h : MI f P T B S Y) {j k : Nat} (hj : j < 4) (hk : k < 7) : MI (upd f (110 + j) (nI k)) P T B S Y := by
  have := h.P4; have := h.T5; have := h.B10
  exact ⟨⟨un_ (by omega) h.h0, h.P4⟩, ⟨un_ (by omega) h.h1, h.T5⟩, ⟨un_ (by omega) h.h2, h.B10⟩, ⟨un_ (by omega) h.h3, h.S100⟩, un_ (by omega) h.h4, ⟨un_ (by omega) h.h5, h.Yd⟩, fun i hi => usE hk (h.kind i hi), fun i hi => unE (by omega) (h.v i hi), fun i hi => unE (by omega) (h.row i hi), fun i hi => unE (by omega) (h.note i hi), fun i hi => unE (by omega) (h.book i hi), fun i hi => unE (by omega) (h.notes i hi)⟩
theorem MI.setV (h : MI f P T B S Y) {j k : Nat} (hj : j < 4) (hk : k < 10) : MI (upd f (114 + j) (nI k)) P T B S Y := by
  have := h.P4; have := h.T5; have := h.B10
  exact ⟨⟨un_ (by omega) h.h0, h.P4⟩, ⟨un_ (by omega) h.h1, h.T5⟩, ⟨un_ (by omega) h.h2, h.B10⟩, ⟨un_ (by omega) h.h3, h.S100⟩, un_ (by omega) h.h4, ⟨un_ (by omega) h.h5, h.Yd⟩, fun i hi => unE (by omega) (h.kind i hi), fun i hi => usE hk (h.v i hi), fun i hi => unE (by omega) (h.row i hi), fun i hi => unE (by omega) (h.note i hi), fun i hi => unE (by omega) (h.book i hi), fun i hi => unE (by omega) (h.notes i hi)⟩
theorem MI.setRow (h : MI f P T B S Y) {j k : Nat} (hj : j < 4) (hk : k < 8) : MI (upd f (118 + j) (nI k)) P T B S Y := by
  have := h.P4; have := h.T5; have := h.B10
  exact ⟨⟨un_ (by omega) h.h0, h.P4⟩, ⟨un_ (by omega) h.h1, h.T5⟩, ⟨un_ (by omega) h.h2, h.B10⟩, ⟨un_ (by omega) h.h3, h.S100⟩, un_ (by omega) h.h4, ⟨un_ (by omega) h.h5, h.Yd⟩, fun i hi => unE (by omega) (h.kind i hi), fun i hi => unE (by omega) (h.v i hi), fun i hi => usE hk (h.row i hi), fun i hi => unE (by omega) (h.note i hi), fun i hi => unE (by omega) (h.book i hi), fun i hi => unE (by omega) (h.notes i hi)⟩
theorem MI.setNote (h : MI f P T B S Y) {j k : Nat} (hj : j < 4) (hk : k < 2) : MI (upd f (122 + j) (nI k)) P T B S Y := by
  have := h.P4; have := h.T5; have := h.B10
  exact ⟨⟨un_ (by omega) h.h0, h.P4⟩, ⟨un_ (by omega) h.h1, h.T5⟩, ⟨un_ (by omega) h.h2, h.B10⟩, ⟨un_ (by omega) h.h3, h.S100⟩, un_ (by omega) h.h4, ⟨un_ (by omega) h.h5, h.Yd⟩, fun i hi => unE (by omega) (h.kind i hi), fun i hi => unE (by omega) (h.v i hi), fun i hi => unE (by omega) (h.row i hi), fun i hi => usE hk (h.note i hi), fun i hi => unE (by omega) (h.book i hi), fun i hi => unE (by omega) (h.notes i hi)⟩
theorem MI.setY (h : MI f P T B S Y) {y : Nat} (hy : y < d8 P) : MI (upd f 5 (nI y)) P T B S y := by
  have := h.P4; have := h.T5; have := h.B10
  exact ⟨⟨un_ (by omega) h.h0, h.P4⟩, ⟨un_ (by omega) h.h1, h.T5⟩, ⟨un_ (by omega) h.h2, h.B10⟩, ⟨un_ (by omega) h.h3, h.S100⟩, un_ (by omega) h.h4, ⟨pk_us, hy⟩, fun i hi => unE (by omega) (h.kind i hi), fun i hi => unE (by omega) (h.v i hi), fun i hi => unE (by omega) (h.row i hi), fun i hi => unE (by omega) (h.note i hi), fun i hi => unE (by omega) (h.book i hi), fun i hi => unE (by omega) (h.notes i hi)⟩
theorem d8_mono (P : Nat) : d8 P ≤ d8 (P + 1) := by
  unfold d8
  exact Nat.pow_le_pow_right (by decide) (by omega)
theorem MI.setP (h : MI f P T B S Y) (hP : P < 4) : MI (upd f 0 (nI (P + 1))) (P + 1) T B S Y := by
  have := h.P4; have := h.T5; have := h.B10; have hm := d8_mono P
  exact ⟨⟨pk_us, by omega⟩, ⟨un_ (by omega) h.h1, h.T5⟩, ⟨un_ (by omega) h.h2, h.B10⟩, ⟨un_ (by omega) h.h3, h.S100⟩, un_ (by omega) h.h4, ⟨un_ (by omega) h.h5, Nat.lt_of_lt_of_le h.Yd hm⟩, fun i hi => unE (by omega) (h.kind i hi), fun i hi => unE (by omega) (h.v i hi), fun i hi => unE (by omega) (h.row i hi), fun i hi => unE (by omega) (h.note i hi), fun i hi => by obtain ⟨k, h1, h2⟩ := h.book i hi; exact ⟨k, Nat.lt_of_lt_of_le h1 hm, un_ (by omega) h2⟩, fun i hi => unE (by omega) (h.notes i hi)⟩
theorem MI.setS (h : MI f P T B S Y) {k : Nat} (hk : k ≤ 100) : MI (upd f 3 (nI k)) P T B k Y := by
  have := h.P4; have := h.T5; have := h.B10
  exact ⟨⟨un_ (by omega) h.h0, h.P4⟩, ⟨un_ (by omega) h.h1, h.T5⟩, ⟨un_ (by omega) h.h2, h.B10⟩, ⟨pk_us, hk⟩, un_ (by omega) h.h4, ⟨un_ (by omega) h.h5, h.Yd⟩, fun i hi => unE (by omega) (h.kind i hi), fun i hi => unE (by omega) (h.v i hi), fun i hi => unE (by omega) (h.row i hi), fun i hi => unE (by omega) (h.note i hi), fun i hi => unE (by omega) (h.book i hi), fun i hi => unE (by omega) (h.notes i hi)⟩
theorem MI.setTape (h : MI f P T B S Y) {j : Nat} {x : Int32} (hj : j < 100) : MI (upd f (10 + j) x) P T B S Y := by
  have := h.P4; have := h.T5; have := h.B10
  exact ⟨⟨un_ (by omega) h.h0, h.P4⟩, ⟨un_ (by omega) h.h1, h.T5⟩, ⟨un_ (by omega) h.h2, h.B10⟩, ⟨un_ (by omega) h.h3, h.S100⟩, un_ (by omega) h.h4, ⟨un_ (by omega) h.h5, h.Yd⟩, fun i hi => unE (by omega) (h.kind i hi), fun i hi => unE (by omega) (h.v i hi), fun i hi => unE (by omega) (h.row i hi), fun i hi => unE (by omega) (h.note i hi), fun i hi => unE (by omega) (h.book i hi), fun i hi => unE (by omega) (h.notes i hi)⟩
theorem MI.setBook (h : MI f P T B S Y) {j k : Nat} (hj : j < 10) (hk : k < d8 P) : MI (upd f (126 + j) (nI k)) P T B S Y := by
  have := h.P4; have := h.T5; have := h.B10
  exact ⟨⟨un_ (by omega) h.h0, h.P4⟩, ⟨un_ (by omega) h.h1, h.T5⟩, ⟨un_ (by omega) h.h2, h.B10⟩, ⟨un_ (by omega) h.h3, h.S100⟩, un_ (by omega) h.h4, ⟨un_ (by omega) h.h5, h.Yd⟩, fun i hi => unE (by omega) (h.kind i hi), fun i hi => unE (by omega) (h.v i hi), fun i hi => unE (by omega) (h.row i hi), fun i hi => unE (by omega) (h.note i hi), fun i hi => usE hk (h.book i hi), fun i hi => unE (by omega) (h.notes i hi)⟩
theorem MI.setB (h : MI f P T B S Y) {k : Nat} (hk : k ≤ 10) (hb : ∀ j, j < k → ∃ d : Nat, d < d8 P ∧ f (126 + j) = nI d) : MI (upd f 2 (nI k)) P T k S Y := by
  have := h.P4; have := h.T5; have := h.B10
  exact ⟨⟨un_ (by omega) h.h0, h.P4⟩, ⟨un_ (by omega) h.h1, h.T5⟩, ⟨pk_us, hk⟩, ⟨un_ (by omega) h.h3, h.S100⟩, un_ (by omega) h.h4, ⟨un_ (by omega) h.h5, h.Yd⟩, fun i hi => unE (by omega) (h.kind i hi), fun i hi => unE (by omega) (h.v i hi), fun i hi => unE (by omega) (h.row i hi), fun i hi => unE (by omega) (h.note i hi), fun i hi => unE (by omega) (hb i hi), fun i hi => unE (by omega) (h.notes i hi)⟩
/-- in the place of a town that isn't there yet -/
theorem MI.setFree (h : MI f P T B S Y) {k : Nat} {x : Int32} (hk : (∃ a, T ≤ a ∧ a < 5 ∧ (k = 136 + a ∨ k = 141 + a ∨ (146 + 140 * a ≤ k ∧ k < 286 + 140 * a)))) : MI (upd f k x) P T B S Y := by
  obtain ⟨a, h1, h2, h3⟩ := hk
  have := h.P4; have := h.T5; have := h.B10
  exact ⟨⟨un_ (by omega) h.h0, h.P4⟩, ⟨un_ (by omega) h.h1, h.T5⟩, ⟨un_ (by omega) h.h2, h.B10⟩, ⟨un_ (by omega) h.h3, h.S100⟩, un_ (by omega) h.h4, ⟨un_ (by omega) h.h5, h.Yd⟩, fun i hi => unE (by omega) (h.kind i hi), fun i hi => unE (by omega) (h.v i hi), fun i hi => unE (by omega) (h.row i hi), fun i hi => unE (by omega) (h.note i hi), fun i hi => unE (by omega) (h.book i hi), fun i hi => unE (by omega) (h.notes i hi)⟩
end
theorem per_iff {x : Int32} {P : Nat} (hP : P ≤ 4) : (0 ≤ x ∧ x ≤ nI P - 1) ↔ (0 ≤ x ∧ x < nI P) := by
  have h : (nI P - 1).toInt = (P : Int) - 1 := pk_sub_toInt (a := P) (b := 1) (by omega) (by decide)
  have h2 : (nI P).toInt = P := nI_toInt (by omega)
  simp only [le_i, lt_i, h, h2]
  have : (0 : Int32).toInt = 0 := by decide
  omega
theorem day_iff {x : Int32} {P : Nat} (hP : P ≤ 4) : (0 ≤ x ∧ x ≤ nI (d8 P) - 1) ↔ (0 ≤ x ∧ x < nI (d8 P)) := by
  have h0 := d8_le hP
  have h : (nI (d8 P) - 1).toInt = (d8 P : Int) - 1 := pk_sub_toInt (a := d8 P) (b := 1) (by omega) (by decide)
  have h2 : (nI (d8 P)).toInt = d8 P := nI_toInt (by omega)
  simp only [le_i, lt_i, h, h2]
  have : (0 : Int32).toInt = 0 := by decide
  omega
end CI
section CI2
theorem MI.hold {f : Nat → Int32} {P T B S Y : Nat} (h : MI f P T B S Y) : (T = 0 ∧ f 4 = -1) ∨ ∃ t : Nat, T = t + 1 ∧ f 4 = nI t := by
  have e := h.h4
  cases T with
  | zero => exact Or.inl ⟨rfl, e.trans (by decide +kernel)⟩
  | succ t => exact Or.inr ⟨t, rfl, e.trans (pk_m1 t)⟩
theorem nx_or (a b : Nat) : nI a ||| nI b = nI (a ||| b) := by
  apply Int32.toBitVec_inj.mp
  show (nI a).toBitVec ||| (nI b).toBitVec = (nI (a ||| b)).toBitVec
  show BitVec.ofNat 32 a ||| BitVec.ofNat 32 b = BitVec.ofNat 32 (a ||| b)
  apply BitVec.eq_of_toNat_eq
  simp [BitVec.toNat_or, Nat.or_mod_two_pow]
theorem nx_and' (a b : Nat) : nI a &&& nI b = nI (a &&& b) := by
  apply Int32.toBitVec_inj.mp
  show BitVec.ofNat 32 a &&& BitVec.ofNat 32 b = BitVec.ofNat 32 (a &&& b)
  apply BitVec.eq_of_toNat_eq
  simp [BitVec.toNat_and, Nat.and_mod_two_pow]
theorem nx_xor' (a b : Nat) : nI a ^^^ nI b = nI (a ^^^ b) := by
  apply Int32.toBitVec_inj.mp
  show BitVec.ofNat 32 a ^^^ BitVec.ofNat 32 b = BitVec.ofNat 32 (a ^^^ b)
  apply BitVec.eq_of_toNat_eq
  simp [BitVec.toNat_xor, Nat.xor_mod_two_pow]
theorem sh3 : ∀ p : Fin 4, ∀ o : Fin 8, nI o.val <<< ((3 * nI p.val) &&& 31) = nI (o.val * 8 ^ p.val) ∧ o.val * 8 ^ p.val < 4096 := by decide +kernel
theorem msk3 : ∀ p : Fin 4, ((7 : Int32) <<< ((3 * nI p.val) &&& 31)) ^^^ (-1) = nI (4294967295 - 7 * 8 ^ p.val) := by decide +kernel
/-- a day with one's own hours set -/
theorem own_lt {d p o : Nat} (hd : d < 4096) (hp : p < 4) (ho : o < 8) : ∃ w : Nat, w < 4096 ∧ (nI d &&& (((7 : Int32) <<< ((3 * nI p) &&& 31)) ^^^ (-1))) ||| (nI o <<< ((3 * nI p) &&& 31)) = nI w := by
  have h1 := sh3 ⟨p, hp⟩ ⟨o, ho⟩
  have h2 := msk3 ⟨p, hp⟩
  simp only at h1 h2
  rw [h1.1, h2, nx_and', nx_or]
  refine ⟨_, ?_, rfl⟩
  exact Nat.or_lt_two_pow (n := 12) (Nat.lt_of_le_of_lt (Nat.and_le_left) hd) h1.2
/-- an answer grows by one bit -/
theorem ans_lt {a k : Nat} (h : a < 2 ^ k) : a ||| 2 ^ k < 2 ^ (k + 1) := Nat.or_lt_two_pow (Nat.lt_of_lt_of_le h (Nat.pow_le_pow_right (by decide) (by omega))) (Nat.pow_lt_pow_right (by decide) (by omega))
theorem bit_sh : ∀ k : Fin 12, (1 : Int32) <<< ((nI k.val) &&& 31) = nI (2 ^ k.val) := by decide +kernel
theorem d8_two (P : Nat) : 2 ^ (3 * P) = d8 P := by
  unfold d8
  rw [Nat.pow_mul]
theorem hour_iff {x : Int32} : ((0 : Int32) ≤ x ∧ x ≤ (2 : Int32)) ↔ ((0 : Int32) ≤ x ∧ x < nI 3) := by
  have h2 : (nI 3).toInt = 3 := by decide +kernel
  have h3 : (2 : Int32).toInt = 2 := by decide +kernel
  simp only [le_i, lt_i, h2, h3]
  omega
theorem nI_dec {n : Nat} (h : 1 ≤ n) : nI n + Int32.ofInt (-1) = nI (n - 1) := by
  obtain ⟨k, rfl⟩ : ∃ k, n = k + 1 := ⟨n - 1, by omega⟩
  rw [Nat.add_sub_cancel]
  exact pk_m1 k
theorem or0 (x : Int32) : x ||| 0 = x := by
  apply Int32.toBitVec_inj.mp
  show x.toBitVec ||| 0#32 = x.toBitVec
  simp
theorem MI.hold0 {f : Nat → Int32} {P T B S Y : Nat} (h : MI f P T B S Y) (h0 : T = 0) : f 4 = -1 := by
  rcases h.hold with ⟨-, e⟩ | ⟨t, e1, e⟩
  · exact e
  · omega
theorem MI.hold1 {f : Nat → Int32} {P T B S Y t : Nat} (h : MI f P T B S Y) (h0 : T = t + 1) : f 4 = nI t := by
  rcases h.hold with ⟨e1, -⟩ | ⟨t', e1, e⟩
  · omega
  · rw [e]; congr 1; omega
theorem nat_toInt_neg {n : Nat} (h : n < 2 ^ 31) {z : Int32} (hz : z < 0) : z.toInt < (nI n).toInt := by
  have := lt_i.mp hz
  have e : (0 : Int32).toInt = 0 := by decide
  rw [nI_toInt h]
  omega
theorem nat_ne_neg {n : Nat} (h : n < 2 ^ 31) {z : Int32} (hz : z < 0) : ¬ nI n = z := fun e => by
  have := nat_toInt_neg h hz
  rw [e] at this
  omega
theorem nat_gt_neg {n : Nat} (h : n < 2 ^ 31) {z : Int32} (hz : z < 0) : z < nI n := lt_i.mpr (nat_toInt_neg h hz)
theorem nat_ge_neg {n : Nat} (h : n < 2 ^ 31) {z : Int32} (hz : z < 0) : z ≤ nI n := le_i.mpr (by have := nat_toInt_neg h hz; omega)
theorem nat_nlt_neg {n : Nat} (h : n < 2 ^ 31) {z : Int32} (hz : z < 0) : ¬ nI n < z := fun e => by
  have := nat_toInt_neg h hz
  have := lt_i.mp e
  omega
theorem nat_nle_neg {n : Nat} (h : n < 2 ^ 31) {z : Int32} (hz : z < 0) : ¬ nI n ≤ z := fun e => by
  have := nat_toInt_neg h hz
  have := le_i.mp e
  omega
/-- but for yesterday and the notes the rows are the same -/
def EqN (f g : Nat → Int32) : Prop := ∀ i, i ≠ 5 → (i < 122 ∨ 126 ≤ i) → f i = g i
theorem EqN.setY {f : Nat → Int32} (x : Int32) : EqN (upd f 5 x) f := fun i h _ => pk_un h
theorem EqN.set {f g : Nat → Int32} {j : Nat} (h : EqN f g) (x : Int32) (hj : j < 4) : EqN (upd f (122 + j) x) g := fun i h1 h2 => (pk_un (by omega)).trans (h i h1 h2)
theorem EqN.trans {f g k : Nat → Int32} (h : EqN f g) (h2 : EqN g k) : EqN f k := fun i a b => (h i a b).trans (h2 i a b)
end CI2
section CI3
theorem xor_lt {a k : Nat} (ha : a < 4096) (hk : k < 12) : a ^^^ 2 ^ k < 4096 := Nat.xor_lt_two_pow (n := 12) ha (Nat.pow_lt_pow_right (by decide) hk)
/-- the first n places hold days -/
def CD (f : Nat → Int32) (n : Nat) : Prop := ∀ j, j < n → ∃ c : Nat, c < 4096 ∧ f j = nI c
theorem CD.first {f : Nat → Int32} {d : Nat} (h : d < 4096) : CD (upd f 0 (nI d)) 1 := fun j hj => ⟨d, h, by rw [show j = 0 by omega, pk_us]⟩
theorem CD.push {f : Nat → Int32} {n d : Nat} (hf : CD f n) (h : d < 4096) : CD (upd f n (nI d)) (n + 1) := fun j hj => by
  by_cases e : j = n
  · rw [e, pk_us]; exact ⟨d, h, rfl⟩
  · rw [pk_un e]; exact hf j (by omega)
/-- what keeps() has kept -/
def KF (k f : Nat → Int32) : Prop := (∀ j, j < 4 → k j = f (110 + j)) ∧ (∀ j, j < 4 → k (4 + j) = f (114 + j)) ∧ ∀ j, j < 4 → k (8 + j) = f (118 + j)
theorem kf_mk (k f : Nat → Int32) : KF (upd (upd (upd (upd (upd (upd (upd (upd (upd (upd (upd (upd k 0 (f 110)) 4 (f 114)) 8 (f 118)) 1 (f 111)) 5 (f 115)) 9 (f 119)) 2 (f 112)) 6 (f 116)) 10 (f 120)) 3 (f 113)) 7 (f 117)) 11 (f 121)) f := by
  refine ⟨fun j hj => ?_, fun j hj => ?_, fun j hj => ?_⟩ <;> rcases (show j = 0 ∨ j = 1 ∨ j = 2 ∨ j = 3 by omega) with rfl | rfl | rfl | rfl <;> simp [upd]
/-- but for kinds, vs and rows the rows are the same -/
def EqX (f g : Nat → Int32) : Prop := ∀ i, (i < 110 ∨ 122 ≤ i) → f i = g i
theorem EqX.rf {f : Nat → Int32} : EqX f f := fun _ _ => rfl
theorem EqX.set {f g : Nat → Int32} {i : Nat} (h : EqX f g) (x : Int32) (h1 : 110 ≤ i) (h2 : i < 122) : EqX (upd f i x) g := fun j hj => (pk_un (by omega)).trans (h j hj)
theorem gb_eq {k f g : Nat → Int32} (hk : KF k g) (h : EqX f g) : (upd (upd (upd (upd (upd (upd (upd (upd (upd (upd (upd (upd f 110 (k 0)) 114 (k 4)) 118 (k 8)) 111 (k 1)) 115 (k 5)) 119 (k 9)) 112 (k 2)) 116 (k 6)) 120 (k 10)) 113 (k 3)) 117 (k 7)) 121 (k 11)) = g := by
  have a0 := hk.1 0 (by omega); have a1 := hk.1 1 (by omega); have a2 := hk.1 2 (by omega); have a3 := hk.1 3 (by omega)
  have b0 := hk.2.1 0 (by omega); have b1 := hk.2.1 1 (by omega); have b2 := hk.2.1 2 (by omega); have b3 := hk.2.1 3 (by omega)
  have c0 := hk.2.2 0 (by omega); have c1 := hk.2.2 1 (by omega); have c2 := hk.2.2 2 (by omega); have c3 := hk.2.2 3 (by omega)
  funext i
  by_cases hi : i < 110 ∨ 122 ≤ i
  · simp only [pk_un (show i ≠ 110 by omega), pk_un (show i ≠ 111 by omega), pk_un (show i ≠ 112 by omega), pk_un (show i ≠ 113 by omega), pk_un (show i ≠ 114 by omega), pk_un (show i ≠ 115 by omega), pk_un (show i ≠ 116 by omega), pk_un (show i ≠ 117 by omega), pk_un (show i ≠ 118 by omega), pk_un (show i ≠ 119 by omega), pk_un (show i ≠ 120 by omega), pk_un (show i ≠ 121 by omega)]
    exact h i hi
  · rcases (show i = 110 ∨ i = 111 ∨ i = 112 ∨ i = 113 ∨ i = 114 ∨ i = 115 ∨ i = 116 ∨ i = 117 ∨ i = 118 ∨ i = 119 ∨ i = 120 ∨ i = 121 by omega) with rfl | rfl | rfl | rfl | rfl | rfl | rfl | rfl | rfl | rfl | rfl | rfl <;> simp [upd, *]
theorem MI.congr {f g : Nat → Int32} {P T B S Y : Nat} (h : MI f P T B S Y) (e : ∀ i, i < 846 → g i = f i) : MI g P T B S Y := by
  have hP := h.P4; have hT := h.T5; have hB := h.B10
  refine ⟨⟨(e 0 (by omega)).trans h.h0, h.P4⟩, ⟨(e 1 (by omega)).trans h.h1, h.T5⟩, ⟨(e 2 (by omega)).trans h.h2, h.B10⟩, ⟨(e 3 (by omega)).trans h.h3, h.S100⟩, (e 4 (by omega)).trans h.h4, ⟨(e 5 (by omega)).trans h.h5, h.Yd⟩, fun i hi => ?_, fun i hi => ?_, fun i hi => ?_, fun i hi => ?_, fun i hi => ?_, fun i hi => ?_⟩
  · rw [e _ (by omega)]; exact h.kind i hi
  · rw [e _ (by omega)]; exact h.v i hi
  · rw [e _ (by omega)]; exact h.row i hi
  · rw [e _ (by omega)]; exact h.note i hi
  · rw [e _ (by omega)]; exact h.book i hi
  · rw [e _ (by omega)]; exact h.notes i hi
end CI3
theorem own_lt' {d p o : Nat} (hd : d < 4096) (hp : p < 4) (ho : o < 8) : ∃ w : Nat, w < 4096 ∧ (nI d &&& (((7 : Int32) <<< ((nI (3 * p)) &&& 31)) ^^^ (-1))) ||| (nI o <<< ((nI (3 * p)) &&& 31)) = nI w := by
  have e : nI (3 * p) = 3 * nI p := (pk_mul 3 p).symm
  rw [e]
  exact own_lt hd hp ho
