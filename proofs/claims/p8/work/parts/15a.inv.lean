section CP
/-- the sign at a place of the tape -/
def hereF (f : Nat → Int32) (sp en : Nat) : Int32 := if sp < en then f (10 + sp) else -1
theorem here_lt {f : Nat → Int32} {sp en c : Nat} (hc : c < 2 ^ 31) (h : hereF f sp en = nI c) : sp < en := by
  unfold hereF at h
  split at h
  · assumption
  · exact absurd h.symm (nat_ne_neg hc (by decide))
theorem here_dig {f : Nat → Int32} {sp en : Nat} (h : (48 : Int32) ≤ hereF f sp en ∧ hereF f sp en ≤ (57 : Int32)) : sp < en ∧ ∃ d : Nat, d ≤ 9 ∧ hereF f sp en = nI (48 + d) := by
  have a : (48 : Int32).toInt = 48 := by decide
  have b : (57 : Int32).toInt = 57 := by decide
  have h1 := le_i.mp h.1
  have h2 := le_i.mp h.2
  have z : (0 : Int32).toInt = 0 := by decide
  obtain ⟨j, hj, e⟩ := nI_of (x := hereF f sp en) (fun q => by have := lt_i.mp q; omega)
  have hji : (nI j).toInt = j := nI_toInt hj
  rw [e, hji] at h1 h2
  refine ⟨here_lt hj e, j - 48, by omega, ?_⟩
  rw [e]
  congr 1
  omega
theorem hereT {f g : Nat → Int32} {en : Nat} {Z : Nat → Int32} (q : ∀ i, 10 ≤ i → i < 110 → f i = g i) (h : ∀ i, hereF g i en = Z i) (hen : en ≤ 100) : ∀ i, hereF f i en = Z i := fun i => by
  rw [← h i]
  unfold hereF
  split
  · exact q _ (by omega) (by omega)
  · rfl
theorem zend {f Z : Nat → Int32} {en : Nat} (h : ∀ i, hereF f i en = Z i) : ∀ i, en ≤ i → Z i = -1 := fun i hi => (h i).symm.trans (if_neg (by omega))
theorem zlt {Z : Nat → Int32} {en i c : Nat} (h : ∀ i, en ≤ i → Z i = -1) (hc : c < 2 ^ 31) (e : Z i = nI c) : i < en := by
  rcases Nat.lt_or_ge i en with q | q
  · exact q
  · exact absurd (e.symm.trans (h i q)) (nat_ne_neg hc (by decide))
theorem z_dig {Z : Nat → Int32} {en i : Nat} (hz : ∀ i, en ≤ i → Z i = -1) (h : (48 : Int32) ≤ Z i ∧ Z i ≤ (57 : Int32)) : i < en ∧ ∃ d : Nat, d ≤ 9 ∧ Z i = nI (48 + d) := by
  have a : (48 : Int32).toInt = 48 := by decide
  have b : (57 : Int32).toInt = 57 := by decide
  have h1 := le_i.mp h.1
  have h2 := le_i.mp h.2
  have z : (0 : Int32).toInt = 0 := by decide
  obtain ⟨j, hj, e⟩ := nI_of (x := Z i) (fun q => by have := lt_i.mp q; omega)
  have hji : (nI j).toInt = j := nI_toInt hj
  rw [e, hji] at h1 h2
  refine ⟨zlt hz hj e, j - 48, by omega, ?_⟩
  rw [e]
  congr 1
  omega
/-- the number of the steps so far of the town that is read -/
def PW (f : Nat → Int32) (a m : Nat) : Prop := f (141 + a) = nI m
theorem PW.push {f : Nat → Int32} {a m : Nat} {x : Int32} : PW (upd (upd f (146 + 140 * a + m) x) (141 + a) (nI (m + 1))) a (m + 1) := pk_us
theorem AP.push {f : Nat → Int32} {a m : Nat} {x y : Int32} : AP (upd (upd f (146 + 140 * a + m) x) (141 + a) y) f (146 + 140 * a) m [x] := AP.one.cong (fun i hi => pk_un (by omega))
/-- the town's note hours while it is read -/
def NT (f : Nat → Int32) (a : Nat) : Prop := ∃ n : Nat, n < 100 ∧ f (136 + a) = nI n
theorem NT.step {f : Nat → Int32} {a m : Nat} {x y : Int32} (h : NT f a) (ha : a < 5) : NT (upd (upd f (146 + 140 * a + m) x) (141 + a) y) a := by
  obtain ⟨n, h1, h2⟩ := h
  exact ⟨n, h1, by rw [pk_un (by omega), pk_un (by omega)]; exact h2⟩
theorem MI.step {f : Nat → Int32} {P T B S Y m : Nat} {x y : Int32} (h : MI f P T B S Y) (hT : T < 5) (hm : m < 140) : MI (upd (upd f (146 + 140 * T + m) x) (141 + T) y) P T B S Y := (h.setFree ⟨T, Nat.le_refl _, hT, by omega⟩).setFree ⟨T, Nat.le_refl _, hT, by omega⟩
/-- a new town: the count, and which one holds -/
theorem MI.addTown {f : Nat → Int32} {P T B S Y : Nat} (h : MI f P T B S Y) (hT : T < 5) (hn : NT f T) : MI (upd (upd f 1 (nI (T + 1))) 4 (nI T)) P (T + 1) B S Y := by
  have h4 := h.P4; have h10 := h.B10
  refine ⟨⟨un_ (by omega) (un_ (by omega) h.h0), h.P4⟩, ⟨un_ (by omega) pk_us, by omega⟩, ⟨un_ (by omega) (un_ (by omega) h.h2), h.B10⟩, ⟨un_ (by omega) (un_ (by omega) h.h3), h.S100⟩, ?_, ⟨un_ (by omega) (un_ (by omega) h.h5), h.Yd⟩, fun i hi => unE (by omega) (unE (by omega) (h.kind i hi)), fun i hi => unE (by omega) (unE (by omega) (h.v i hi)), fun i hi => unE (by omega) (unE (by omega) (h.row i hi)), fun i hi => unE (by omega) (unE (by omega) (h.note i hi)), fun i hi => unE (by omega) (unE (by omega) (h.book i hi)), fun i hi => ?_⟩
  · rw [pk_us]; exact (pk_m1 T).symm
  · rcases Nat.lt_or_ge i T with q | q
    · exact unE (by omega) (unE (by omega) (h.notes i q))
    · rw [show i = T by omega]; exact unE (by omega) (unE (by omega) hn)
theorem and255 (x : Int32) : ∃ c : Nat, c < 256 ∧ x &&& 255 = nI c := pk_andE x 8 (by decide +kernel)
end CP
