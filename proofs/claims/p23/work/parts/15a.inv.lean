section CP
/-- the sign at a place of the tape -/
def hereF (f : Nat → Int32) (sp en : Nat) : Int32 := if sp < en then f (10 + sp) else -1
theorem here_lt {f : Nat → Int32} {sp en c : Nat} (hc : c < 2 ^ 31) (h : hereF f sp en = nI c) : sp < en := by
  unfold hereF at h
  split at h
  · assumption
  · exact absurd h.symm (nat_ne_neg hc (by decide))
theorem here_dig {f : Nat → Int32} {sp en : Nat} (h : (48 : Int32) ≤ hereF f sp en ∧ hereF f sp en ≤ (57 : Int32)) : sp < en ∧ ∃ d : Nat, d ≤ 9 ∧ hereF f sp en = nI (48 + d) := by
  have a : (48 : Int32).toInt = 48 := by decide
  have b : (57 : Int32).toInt = 57 := by decide
  have h1 := le_i.mp h.1
  have h2 := le_i.mp h.2
  have z : (0 : Int32).toInt = 0 := by decide
  obtain ⟨j, hj, e⟩ := nI_of (x := hereF f sp en) (fun q => by have := lt_i.mp q; omega)
  have hji : (nI j).toInt = j := nI_toInt hj
  rw [e, hji] at h1 h2
  refine ⟨here_lt hj e, j - 48, by omega, ?_⟩
  rw [e]
  congr 1
  omega
/-- the steps so far of the town that is read: m of them, of depth d -/
def PW (f : Nat → Int32) (a m d : Nat) : Prop := f (141 + a) = nI m ∧ wf (fun i => f (146 + 140 * a + i)) m ∧ d = dep (fun i => f (146 + 140 * a + i)) m
theorem PW.push {f : Nat → Int32} {a m d : Nat} {x : Int32} (h : PW f a m d) (hx : dok x d) : PW (upd (upd f (146 + 140 * a + m) x) (141 + a) (nI (m + 1))) a (m + 1) (dstep x d) := by
  obtain ⟨h1, h2, h3⟩ := h
  have ea : ∀ i, i < m → f (146 + 140 * a + i) = upd (upd f (146 + 140 * a + m) x) (141 + a) (nI (m + 1)) (146 + 140 * a + i) := fun i hi => by
    rw [pk_un (by omega), pk_un (by omega)]
  have eb : upd (upd f (146 + 140 * a + m) x) (141 + a) (nI (m + 1)) (146 + 140 * a + m) = x := by
    rw [pk_un (by omega), pk_us]
  have ed : dep (fun i => upd (upd f (146 + 140 * a + m) x) (141 + a) (nI (m + 1)) (146 + 140 * a + i)) m = d := by
    rw [h3]
    exact (dep_congr m ea).symm
  refine ⟨pk_us, wf_s (wf_congr ea h2) ?_, ?_⟩
  · show dok (upd (upd f (146 + 140 * a + m) x) (141 + a) (nI (m + 1)) (146 + 140 * a + m)) _
    rw [eb, ed]; exact hx
  · show _ = dstep (upd (upd f (146 + 140 * a + m) x) (141 + a) (nI (m + 1)) (146 + 140 * a + m)) _
    rw [eb, ed]
theorem PW.notes {f : Nat → Int32} {a m d : Nat} {x : Int32} (h : PW f a m d) (ha : a < 5) : PW (upd f (136 + a) x) a m d := by
  obtain ⟨h1, h2, h3⟩ := h
  have ea : ∀ i, i < m → f (146 + 140 * a + i) = upd f (136 + a) x (146 + 140 * a + i) := fun i hi => by rw [pk_un (by omega)]
  exact ⟨by rw [pk_un (by omega)]; exact h1, wf_congr ea h2, h3.trans (dep_congr m ea)⟩
theorem PW.zero {f : Nat → Int32} {a : Nat} (h : f (141 + a) = nI 0) : PW f a 0 0 := ⟨h, wf_0, rfl⟩
/-- the town's note hours while it is read -/
def NT (f : Nat → Int32) (a : Nat) : Prop := ∃ n : Nat, n < 100 ∧ f (136 + a) = nI n
theorem NT.step {f : Nat → Int32} {a m : Nat} {x y : Int32} (h : NT f a) (ha : a < 5) : NT (upd (upd f (146 + 140 * a + m) x) (141 + a) y) a := by
  obtain ⟨n, h1, h2⟩ := h
  exact ⟨n, h1, by rw [pk_un (by omega), pk_un (by omega)]; exact h2⟩
theorem MI.step {f : Nat → Int32} {P T B S Y m : Nat} {x y : Int32} (h : MI f P T B S Y) (hT : T < 5) (hm : m < 140) : MI (upd (upd f (146 + 140 * T + m) x) (141 + T) y) P T B S Y := (h.setFree ⟨T, Nat.le_refl _, hT, by omega⟩).setFree ⟨T, Nat.le_refl _, hT, by omega⟩
theorem dok_not {d : Nat} (h : 1 ≤ d) : dok (-1) d := ⟨fun h0 => absurd h0 (by decide), fun _ => h, fun _ h1 => absurd rfl h1⟩
theorem dok_two {d : Nat} {x : Int32} (hx : x = -2 ∨ x = -3) (h : 2 ≤ d) : dok x d := by
  rcases hx with rfl | rfl
  · exact ⟨fun h0 => absurd h0 (by decide), fun h1 => absurd h1 (by decide), fun _ _ _ => h⟩
  · exact ⟨fun h0 => absurd h0 (by decide), fun h1 => absurd h1 (by decide), fun _ _ _ => h⟩
theorem dok_test {d w h v : Nat} (hd : d < 60) (hw : w < 6) (hh : h < 4) (hv : v < 100) : dok (nI (w + 8 * h + 32 * v)) d :=
  ⟨fun _ => ⟨hd, w, h, v, hw, hh, hv, rfl⟩, fun e => absurd e (nat_ne_neg (by omega) (by decide)), fun e => absurd e (nI_pos (by omega))⟩
theorem end_lt : ∀ n : Nat, n < 100 → ((-10 : Int32) - nI n < 0 ∧ ¬ (-10 : Int32) - nI n = -1 ∧ ¬ (-10 : Int32) < (-10 : Int32) - nI n) ∧ ((-200 : Int32) - nI n < 0 ∧ ¬ (-200 : Int32) - nI n = -1 ∧ ¬ (-10 : Int32) < (-200 : Int32) - nI n) := by decide +kernel
theorem dok_end {d : Nat} {x : Int32} (h : x < 0 ∧ ¬ x = -1 ∧ ¬ (-10 : Int32) < x) : dok x d := ⟨fun h0 => absurd h.1 (Int32.not_lt.mpr h0), fun e => absurd e h.2.1, fun _ _ e => absurd e h.2.2⟩
theorem ds_test {d n : Nat} (h : n < 2 ^ 31) : dstep (nI n) d = d + 1 := by
  unfold dstep
  rw [if_pos (nI_pos' h)]
theorem ds_not (d : Nat) : dstep (-1) d = d := by
  unfold dstep
  rw [if_neg (by decide), if_pos rfl]
theorem ds_two {d : Nat} {x : Int32} (hx : x = -2 ∨ x = -3) : dstep x d = d - 1 := by
  unfold dstep
  rcases hx with rfl | rfl
  · rw [if_neg (by decide), if_neg (by decide), if_pos (by decide)]
  · rw [if_neg (by decide), if_neg (by decide), if_pos (by decide)]
theorem ds_end {d : Nat} {x : Int32} (h : x < 0 ∧ ¬ x = -1 ∧ ¬ (-10 : Int32) < x) : dstep x d = 0 := by
  unfold dstep
  rw [if_neg (Int32.not_le.mpr h.1), if_neg h.2.1, if_neg h.2.2]
/-- a new town: the count, and which one holds -/
theorem MI.addTown {f : Nat → Int32} {P T B S Y m d : Nat} (h : MI f P T B S Y) (hT : T < 5) (hp : PW f T m d) (hm : m ≤ 100) (hn : NT f T) : MI (upd (upd f 1 (nI (T + 1))) 4 (nI T)) P (T + 1) B S Y := by
  have h4 := h.P4; have h10 := h.B10
  have hw : WT f T := ⟨m, hm, hp.1, hp.2.1⟩
  refine ⟨⟨un_ (by omega) (un_ (by omega) h.h0), h.P4⟩, ⟨un_ (by omega) pk_us, by omega⟩, ⟨un_ (by omega) (un_ (by omega) h.h2), h.B10⟩, ⟨un_ (by omega) (un_ (by omega) h.h3), h.S100⟩, ?_, ⟨un_ (by omega) (un_ (by omega) h.h5), h.Yd⟩, fun i hi => unE (by omega) (unE (by omega) (h.kind i hi)), fun i hi => unE (by omega) (unE (by omega) (h.v i hi)), fun i hi => unE (by omega) (unE (by omega) (h.row i hi)), fun i hi => unE (by omega) (unE (by omega) (h.note i hi)), fun i hi => unE (by omega) (unE (by omega) (h.book i hi)), fun i hi => ?_, fun i hi => ?_⟩
  · rw [pk_us]; exact (pk_m1 T).symm
  · rcases Nat.lt_or_ge i T with q | q
    · exact unE (by omega) (unE (by omega) (h.notes i q))
    · rw [show i = T by omega]; exact unE (by omega) (unE (by omega) hn)
  · rcases Nat.lt_or_ge i T with q | q
    · exact ((h.wt i q).put (by omega) (by omega)).put (by omega) (by omega)
    · rw [show i = T by omega]; exact (hw.put (by omega) (by omega)).put (by omega) (by omega)
theorem and255 (x : Int32) : ∃ c : Nat, c < 256 ∧ x &&& 255 = nI c := pk_andE x 8 (by decide +kernel)
end CP
