/-! the class's days: what its methods need -/
section CL2
theorem msk_o : ∀ p : Nat, p < 4 → (585 : Int32) &&& (((1 : Int32) <<< ((nI (3 * p)) &&& 31)) ^^^ (-1)) = nI (mskO p) := by decide +kernel
theorem nge4 {p : Nat} (h : p < 4) : ¬ (4 : Int32) ≤ nI p := fun q => by
  have := (nI_leI (a := 4) (b := p) (by decide) (by omega)).mp q
  omega
theorem nlt3 {h : Nat} (hh : h < 3) : nI h < (3 : Int32) := (nI_ltI (a := h) (b := 3) (by omega) (by decide)).mpr hh
theorem nge_n {a n : Nat} (hn : n < 2 ^ 31) (h : a < n) : ¬ nI n ≤ nI a := fun q => by
  have := (nI_leI (a := n) (b := a) hn (by omega)).mp q
  omega
theorem nlt_n {a n : Nat} (hn : n < 2 ^ 31) (h : a < n) : nI a < nI n := (nI_ltI (a := a) (b := n) (by omega) hn).mpr h
theorem nge_c {a n : Nat} {z : Int32} (e : nI n = z) (hn : n < 2 ^ 31) (h : a < n) : ¬ z ≤ nI a := by
  rw [← e]; exact nge_n hn h
theorem nlt_c {a n : Nat} {z : Int32} (e : nI n = z) (hn : n < 2 ^ 31) (h : a < n) : nI a < z := by
  rw [← e]; exact nlt_n hn h
section
variable {a b c d f : Nat → Int32} {E : Ev} {p k s h i : Nat} {O : Nat → Nat}
theorem WR.a0 (W : WR (s4 a b c d p) E p k) (h : p = 0) : WR a E p k := by
  have e : s4 a b c d p = a := by rw [h]; rfl
  rw [e] at W; exact W
theorem WR.a1 (W : WR (s4 a b c d p) E p k) (h : p = 1) : WR b E p k := by
  have e : s4 a b c d p = b := by rw [h]; rfl
  rw [e] at W; exact W
theorem WR.a2 (W : WR (s4 a b c d p) E p k) (h : p = 2) : WR c E p k := by
  have e : s4 a b c d p = c := by rw [h]; rfl
  rw [e] at W; exact W
theorem WR.a3 (W : WR (s4 a b c d p) E p k) (h : p = 3) : WR d E p k := by
  have e : s4 a b c d p = d := by rw [h]; rfl
  rw [e] at W; exact W
theorem wc_z (W : WR f E p k) (hO : O p < 2) (hh : h = 0) (hi : i = 8 * (s / 8 % 4) + O p) : f i = wS E k O p s h := by
  rw [hh]; exact wc_0 W hO hi
theorem wc_s (W : WR f E p k) (hh : ¬ h = 0) (h3 : h < 3) (hi : i = 2 * (16 * h + s / 2 ^ (3 + 2 * (h - 1)) % 16) + s / 2 ^ (h - 1) % 2) : f i = wS E k O p s h := by
  rcases (show h = 1 ∨ h = 2 by omega) with rfl | rfl
  · have e1 : (2 : Nat) ^ (3 + 2 * (1 - 1)) = 8 := rfl
    have e2 : (2 : Nat) ^ (1 - 1) = 1 := rfl
    rw [e1, e2] at hi
    exact wc_1 W (by omega)
  · have e1 : (2 : Nat) ^ (3 + 2 * (2 - 1)) = 32 := rfl
    have e2 : (2 : Nat) ^ (2 - 1) = 2 := rfl
    rw [e1, e2] at hi
    exact wc_2 W (by omega)
end
theorem pr_or {F : Fk} {O : Nat → Nat} {E : Ev} {p s ps h : Nat} (e : ¬ wd F O E p s ps h = 0) : prN F O E p s ps h ||| 2 ^ h = prN F O E p s ps (h + 1) := by
  have l := prN_lt (F := F) (O := O) (E := E) (p := p) (s := s) (ps := ps) h
  have hw := wd_lt (F := F) (O := O) (E := E) (p := p) (s := s) (ps := ps) (h := h)
  have := Nat.two_pow_add_eq_or_of_lt l 1
  rw [Nat.mul_one] at this
  rw [Nat.or_comm, ← this]
  show _ = prN F O E p s ps h + wd F O E p s ps h * 2 ^ h
  rw [show wd F O E p s ps h = 1 by omega, Nat.one_mul, Nat.add_comm]
theorem pr_0 {F : Fk} {O : Nat → Nat} {E : Ev} {p s ps h : Nat} (e : wd F O E p s ps h = 0) : prN F O E p s ps h = prN F O E p s ps (h + 1) := by
  show _ = prN F O E p s ps h + wd F O E p s ps h * 2 ^ h
  rw [e, Nat.zero_mul]; rfl
theorem pr_lt8 {F : Fk} {O : Nat → Nat} {E : Ev} {p s ps h : Nat} (hh : h ≤ 3) : prN F O E p s ps h < 8 := Nat.lt_of_lt_of_le (prN_lt h) (Nat.pow_le_pow_right (n := 2) (i := h) (j := 3) (by decide) hh)
theorem bN_is0 {b : Bool} (h : bN b = 0) : ¬ b = true := fun e => by
  rw [e] at h; exact absurd h (by decide)
theorem bN_not0 {b : Bool} (h : ¬ bN b = 0) : b = true := by
  cases b with
  | true => rfl
  | false => exact absurd rfl h
theorem no_2p : ∀ p : Nat, p < 4 → nI (2 ^ p) ^^^ (-1) = nI (4294967295 - 2 ^ p) := by decide +kernel
section
variable {r o h : Nat}
theorem xo_8 : ∀ r o : Fin 8, r.val ^^^ o.val < 8 := by decide +kernel
theorem x_lt (hr : r < 8) (ho : o < 8) : r ^^^ o < 8 := xo_8 ⟨r, hr⟩ ⟨o, ho⟩
theorem p2_0 (x : Nat) : x / 2 ^ 0 % 2 = x % 2 := by rw [Nat.pow_zero, Nat.div_one]
theorem fo_zero (hr : r < 8) (ho : o < 8) (e : r ^^^ o = 0) : hD r o = 3 := (fo_xx hr ho rfl).2.1 e
theorem fo_hit (hr : r < 8) (ho : o < 8) (hh : h < 3) (inv : ∀ i, i < h → ¬ (r ^^^ o) / 2 ^ i % 2 = 1) (b : (r ^^^ o) / 2 ^ h % 2 = 1) : hD r o = h := by
  obtain ⟨-, -, a0, a1, a2, -⟩ := fo_xx hr ho (x := r ^^^ o) rfl
  rcases (show h = 0 ∨ h = 1 ∨ h = 2 by omega) with rfl | rfl | rfl
  · rw [p2_0] at b; exact a0 b
  · have i0 := inv 0 (by omega); rw [p2_0] at i0
    exact a1 i0 b
  · have i0 := inv 0 (by omega); rw [p2_0] at i0
    exact a2 i0 (inv 1 (by omega)) b
theorem fo_miss (hr : r < 8) (ho : o < 8) (inv : ∀ i, i < 3 → ¬ (r ^^^ o) / 2 ^ i % 2 = 1) : hD r o = 3 := by
  obtain ⟨-, -, -, -, -, a3⟩ := fo_xx hr ho (x := r ^^^ o) rfl
  have i0 := inv 0 (by omega); rw [p2_0] at i0
  exact a3 i0 (inv 1 (by omega)) (inv 2 (by omega))
end
/-- what was found, but for how many -/
def SEq (i8 i9 i10 i11 : Int32) (s : SR) : Prop := i8 = s.2.1 ∧ i9 = s.2.2.1 ∧ i10 = s.2.2.2.1 ∧ (0 < s.1 → i11 = s.2.2.2.2)
section
variable {P : Nat} {F : Fk} {O : Nat → Nat} {Y : Nat} {E : Ev} {d st : Nat} {i5 i6 i7 i8 i9 i10 i11 : Int32} {wk a b c e ya yb yc yd : Nat → Int32}
theorem SEq.start : SEq (-5) (-5) (-5) i11 (seN P F O Y E 0) := ⟨rfl, rfl, rfl, fun h => absurd h (Nat.not_lt_zero 0)⟩
theorem SEq.skip (h : ¬ foD P F O Y E d = -5) (q : SEq i8 i9 i10 i11 (seN P F O Y E d)) : SEq i8 i9 i10 i11 (seN P F O Y E (d + 1)) := by
  rw [seN_0 h]; exact q
theorem SEq.add0 (h : foD P F O Y E d = -5) (z : (seN P F O Y E d).1 = 0) : SEq (nI d) (nI d) (nI d) (gaN P F O E d P) (seN P F O Y E (d + 1)) := by
  rw [seN_1 h z]; exact ⟨rfl, rfl, rfl, fun _ => rfl⟩
theorem SEq.add1 (q : SEq i8 i9 i10 i11 (seN P F O Y E d)) (h : foD P F O Y E d = -5) (z : ¬ (seN P F O Y E d).1 = 0) (g : i11 < gaN P F O E d P) : SEq i8 (nI d) (nI d) (gaN P F O E d P) (seN P F O Y E (d + 1)) := by
  have g2 := q.2.2.2 (Nat.pos_of_ne_zero z)
  rw [seN_2 h z (by rw [← g2]; exact g)]; exact ⟨q.1, rfl, rfl, fun _ => rfl⟩
theorem SEq.add2 (q : SEq i8 i9 i10 i11 (seN P F O Y E d)) (h : foD P F O Y E d = -5) (z : ¬ (seN P F O Y E d).1 = 0) (g : ¬ i11 < gaN P F O E d P) : SEq i8 (nI d) i10 i11 (seN P F O Y E (d + 1)) := by
  have g2 := q.2.2.2 (Nat.pos_of_ne_zero z)
  rw [seN_3 h z (by rw [← g2]; exact g)]; exact ⟨q.1, rfl, q.2.2.1, fun _ => g2⟩
theorem se_up (h : foD P F O Y E d = -5) (s : st = (seN P F O Y E d).1) : st + 1 = (seN P F O Y E (d + 1)).1 := by rw [seN_s1 h, s]
theorem se_st (h : ¬ foD P F O Y E d = -5) (s : st = (seN P F O Y E d).1) : st = (seN P F O Y E (d + 1)).1 := by rw [seN_0 h, s]
theorem DST.k (h : DST i5 i6 i7 i8 i9 i10 i11 wk a b c e ya yb yc yd P F O Y E) : WKr wk a b c e E := h.1
theorem one_ne0 : ¬ (1 : Int32) = 0 := by decide
theorem DST.kk (h : DST 1 i6 i7 i8 i9 i10 i11 wk a b c e ya yb yc yd P F O Y E) : ∀ p, p < P → wk p = nI (F.1 p) := by
  rcases h.2.1 with q | q
  · exact absurd q one_ne0
  · exact q.2.1
theorem DST.r (h : DST 1 i6 i7 i8 i9 i10 i11 wk a b c e ya yb yc yd P F O Y E) : RPs ya yb yc yd P F O Y E P := by
  rcases h.2.1 with q | q
  · exact absurd q one_ne0
  · exact q.2.2
theorem DST.w (h : DST 1 i6 i7 i8 i9 i10 i11 wk a b c e ya yb yc yd P F O Y E) (B : FB F) (h4 : P ≤ 4) : WRs a b c e P F E := h.1.s B h4 h.kk
theorem DST.s (h : DST 1 1 i7 i8 i9 i10 i11 wk a b c e ya yb yc yd P F O Y E) : SEr i7 i8 i9 i10 i11 (seD P F O Y E) := by
  rcases h.2.2 with q | q
  · exact absurd q one_ne0
  · exact q.2.2
theorem DST.ready (K : WKr wk a b c e E) (k : ∀ p, p < P → wk p = nI (F.1 p)) (R : RPs ya yb yc yd P F O Y E P) (h6 : i6 = 0 ∨ (i6 = 1 ∧ SEr i7 i8 i9 i10 i11 (seD P F O Y E))) : DST 1 i6 i7 i8 i9 i10 i11 wk a b c e ya yb yc yd P F O Y E :=
  ⟨K, Or.inr ⟨rfl, k, R⟩, h6.elim Or.inl (fun q => Or.inr ⟨q.1, rfl, q.2⟩)⟩
theorem DST.found (h : DST 1 i6 i7 i8 i9 i10 i11 wk a b c e ya yb yc yd P F O Y E) {j7 j8 j9 j10 j11 : Int32} (s : SEr j7 j8 j9 j10 j11 (seD P F O Y E)) : DST 1 1 j7 j8 j9 j10 j11 wk a b c e ya yb yc yd P F O Y E :=
  ⟨h.1, Or.inr ⟨rfl, h.kk, h.r⟩, Or.inr ⟨rfl, rfl, s⟩⟩
theorem SEr.mk (h : st = (seD P F O Y E).1) (q : SEq i8 i9 i10 i11 (seD P F O Y E)) : SEr (nI st) i8 i9 i10 i11 (seD P F O Y E) := ⟨congrArg nI h, q.1, q.2.1, q.2.2.1, q.2.2.2⟩
theorem SEr.q (h : SEr i7 i8 i9 i10 i11 (seD P F O Y E)) : SEq i8 i9 i10 i11 (seD P F O Y E) := h.2
theorem sq_done (q : SEq i8 i9 i10 i11 (seN P F O Y E d)) (e : d = d8 P) : SEq i8 i9 i10 i11 (seD P F O Y E) := by
  subst e; exact q
theorem st_done (q : st = (seN P F O Y E d).1) (e : d = d8 P) : st = (seD P F O Y E).1 := by
  subst e; exact q
end
/-- the six towns' codes: none yet, and those there are -/
def hoT (T : Nat) (tf : Nat → TWN) : TWN := if T = 0 then (0, []) else tf (T - 1)
theorem hoT_0 {T : Nat} {tf : Nat → TWN} (h : T = 0) : hoT T tf = (0, []) := if_pos h
theorem hoT_s {T n : Nat} {tf : Nat → TWN} (h : T = n + 1) : hoT T tf = tf n := by
  subst h
  exact if_neg (Nat.succ_ne_zero n)
def TQ6 (T : Nat) (tf : Nat → TWN) (Q0 Q1 Q2 Q3 Q4 Q5 : TWN → Prop) : Prop := Q0 (0, []) ∧ (0 < T → Q1 (tf 0)) ∧ (1 < T → Q2 (tf 1)) ∧ (2 < T → Q3 (tf 2)) ∧ (3 < T → Q4 (tf 3)) ∧ (4 < T → Q5 (tf 4))
section
variable {T an t1 t2 t3 t4 t5 : Nat} {tf : Nat → TWN} {Q0 Q1 Q2 Q3 Q4 Q5 : TWN → Prop}
theorem TQ6.now (h : TQ6 T tf Q0 Q1 Q2 Q3 Q4 Q5) (hT : T ≤ 5) : (nwT (nI T) an t1 t2 t3 t4 t5 = an ∧ Q0 (hoT T tf)) ∨ (nwT (nI T) an t1 t2 t3 t4 t5 = t1 ∧ Q1 (hoT T tf)) ∨ (nwT (nI T) an t1 t2 t3 t4 t5 = t2 ∧ Q2 (hoT T tf)) ∨ (nwT (nI T) an t1 t2 t3 t4 t5 = t3 ∧ Q3 (hoT T tf)) ∨ (nwT (nI T) an t1 t2 t3 t4 t5 = t4 ∧ Q4 (hoT T tf)) ∨ (nwT (nI T) an t1 t2 t3 t4 t5 = t5 ∧ Q5 (hoT T tf)) := by
  obtain ⟨h0, h1, h2, h3, h4, h5⟩ := h
  rcases (show T = 0 ∨ T = 1 ∨ T = 2 ∨ T = 3 ∨ T = 4 ∨ T = 5 by omega) with rfl | rfl | rfl | rfl | rfl | rfl
  · exact Or.inl ⟨nwT_lo (by decide +kernel), h0⟩
  · exact Or.inr (Or.inl ⟨nwT_0 (by decide +kernel), h1 (by decide)⟩)
  · exact Or.inr (Or.inr (Or.inl ⟨nwT_1 (by decide +kernel), h2 (by decide)⟩))
  · exact Or.inr (Or.inr (Or.inr (Or.inl ⟨nwT_2 (by decide +kernel), h3 (by decide)⟩)))
  · exact Or.inr (Or.inr (Or.inr (Or.inr (Or.inl ⟨nwT_3 (by decide +kernel), h4 (by decide)⟩))))
  · exact Or.inr (Or.inr (Or.inr (Or.inr (Or.inr ⟨nwT_4 (by decide +kernel), h5 (by decide)⟩))))
end
/-- the clauses read are in order -/
theorem tst1800 {w q v : Nat} (hw : w < 6) (hq : q < 3) (hv : v < 100) : (w * 3 + q) * 100 + v < 1800 := by omega
theorem ho_n {d p : Nat} : bcE (nI (d / 8 ^ p % 8)) = nI (hoN d p 3) := by
  have l : d / 8 ^ p % 8 < 8 := Nat.mod_lt _ (by decide)
  rw [bc_n (by omega), ho_bits]
theorem rw_sh {r j : Nat} (hr : r < 8) (hj : j < 4) : r * 2 ^ (3 * j) ≤ 3584 := by
  have : r * 2 ^ (3 * j) ≤ 7 * 2 ^ 9 := Nat.mul_le_mul (by omega) (Nat.pow_le_pow_right (by decide) (by omega))
  omega
theorem rw_sh8 {r j : Nat} (hr : r < 8) (hj : j < 8) : r * 2 ^ (3 * j) ≤ 14680064 := by
  have : r * 2 ^ (3 * j) ≤ 7 * 2 ^ 21 := Nat.mul_le_mul (by omega) (Nat.pow_le_pow_right (by decide) (by omega))
  omega
theorem si_sh {r h : Nat} (hr : r ≤ 3) (hh : h < 3) : r * 2 ^ (3 + 2 * h) ≤ 384 := by
  have : r * 2 ^ (3 + 2 * h) ≤ 3 * 2 ^ 7 := Nat.mul_le_mul hr (Nat.pow_le_pow_right (by decide) (by omega))
  omega
theorem pk_24 {g : Nat → Nat} (h : ∀ o, g o < 8) {n : Nat} (hn : n ≤ 8) : pkR g n ≤ 16777215 := by
  have a := pkR_lt h n
  have b : (8 : Nat) ^ n ≤ 8 ^ 8 := Nat.pow_le_pow_right (by decide) hn
  omega
end CL2
section CL3
theorem hoT_ok {T : Nat} {tf : Nat → TWN} (h : ∀ i, i < T → WFC (tf i).2 ∧ (tf i).1 < 100) : WFC (hoT T tf).2 ∧ (hoT T tf).1 < 100 := by
  rcases Nat.eq_zero_or_pos T with h0 | h0
  · rw [hoT_0 h0]
    exact ⟨fun c hc => absurd hc List.not_mem_nil, (by decide)⟩
  · obtain ⟨n, rfl⟩ : ∃ n, T = n + 1 := ⟨T - 1, by omega⟩
    rw [hoT_s rfl]
    exact h n (by omega)
section
variable {fk fv fr : Nat → Int32} {F : Fk} {c s q : Nat}
theorem tlF_up1 (e : s / 2 ^ q % 2 = 1) : (fS (tlF F c s q).1 q 6, F.2.1, fS (tlF F c s q).2.2 q (c / 8 ^ q % 8)) = tlF F c s (q + 1) := by
  unfold tlF
  have e1 : fS (fun p => if p < q ∧ s / 2 ^ p % 2 = 1 then 6 else F.1 p) q 6 = fun p => if p < q + 1 ∧ s / 2 ^ p % 2 = 1 then 6 else F.1 p := by
    funext p
    by_cases h : p = q
    · subst h; rw [fS_s]; exact (if_pos ⟨Nat.lt_succ_self p, e⟩).symm
    · rw [fS_n h]
      by_cases l : p < q ∧ s / 2 ^ p % 2 = 1
      · have l2 : p < q + 1 ∧ s / 2 ^ p % 2 = 1 := ⟨by omega, l.2⟩
        rw [if_pos l, if_pos l2]
      · have l2 : ¬ (p < q + 1 ∧ s / 2 ^ p % 2 = 1) := fun z => l ⟨by omega, z.2⟩
        rw [if_neg l, if_neg l2]
  have e2 : fS (fun p => if p < q ∧ s / 2 ^ p % 2 = 1 then c / 8 ^ p % 8 else F.2.2 p) q (c / 8 ^ q % 8) = fun p => if p < q + 1 ∧ s / 2 ^ p % 2 = 1 then c / 8 ^ p % 8 else F.2.2 p := by
    funext p
    by_cases h : p = q
    · subst h; rw [fS_s]; exact (if_pos ⟨Nat.lt_succ_self p, e⟩).symm
    · rw [fS_n h]
      by_cases l : p < q ∧ s / 2 ^ p % 2 = 1
      · have l2 : p < q + 1 ∧ s / 2 ^ p % 2 = 1 := ⟨by omega, l.2⟩
        rw [if_pos l, if_pos l2]
      · have l2 : ¬ (p < q + 1 ∧ s / 2 ^ p % 2 = 1) := fun z => l ⟨by omega, z.2⟩
        rw [if_neg l, if_neg l2]
  rw [e1, e2]
theorem tlF_up0 (e : ¬ s / 2 ^ q % 2 = 1) : tlF F c s q = tlF F c s (q + 1) := by
  unfold tlF
  have e1 : (fun p => if p < q ∧ s / 2 ^ p % 2 = 1 then 6 else F.1 p) = fun p => if p < q + 1 ∧ s / 2 ^ p % 2 = 1 then 6 else F.1 p := by
    funext p
    by_cases l : p < q ∧ s / 2 ^ p % 2 = 1
    · have l2 : p < q + 1 ∧ s / 2 ^ p % 2 = 1 := ⟨by omega, l.2⟩
      rw [if_pos l, if_pos l2]
    · have l2 : ¬ (p < q + 1 ∧ s / 2 ^ p % 2 = 1) := fun z => by
        by_cases h : p = q
        · subst h; exact e z.2
        · exact l ⟨by omega, z.2⟩
      rw [if_neg l, if_neg l2]
  have e2 : (fun p => if p < q ∧ s / 2 ^ p % 2 = 1 then c / 8 ^ p % 8 else F.2.2 p) = fun p => if p < q + 1 ∧ s / 2 ^ p % 2 = 1 then c / 8 ^ p % 8 else F.2.2 p := by
    funext p
    by_cases l : p < q ∧ s / 2 ^ p % 2 = 1
    · have l2 : p < q + 1 ∧ s / 2 ^ p % 2 = 1 := ⟨by omega, l.2⟩
      rw [if_pos l, if_pos l2]
    · have l2 : ¬ (p < q + 1 ∧ s / 2 ^ p % 2 = 1) := fun z => by
        by_cases h : p = q
        · subst h; exact e z.2
        · exact l ⟨by omega, z.2⟩
      rw [if_neg l, if_neg l2]
  rw [e1, e2]
theorem CF.tl1 (h : CF fk fv fr (tlF F c s q)) (e : s / 2 ^ q % 2 = 1) : CF (upd fk q (nI 6)) fv (upd fr q (nI (c / 8 ^ q % 8))) (tlF F c s (q + 1)) := by
  rw [← tlF_up1 e]
  exact ⟨h.1.put0, h.2.1, h.2.2.put0⟩
theorem CF.tl0 (h : CF fk fv fr (tlF F c s q)) (e : ¬ s / 2 ^ q % 2 = 1) : CF fk fv fr (tlF F c s (q + 1)) := by
  rw [← tlF_up0 e]; exact h
theorem CF.putK0 {p : Nat} (h : CF fk fv fr F) : CF (upd fk p (nI 3)) fv fr (scF F p) := ⟨h.1.put0, h.2.1, h.2.2⟩
theorem exF_B {a b : Nat} (B : FB F) (ha : a < 4) (hb : b < 4) : FB (fS (fS F.1 a (F.1 b)) b (F.1 a), fS (fS F.2.1 a (F.2.1 b)) b (F.2.1 a), F.2.2) := ⟨fS_lt (fS_lt B.1 (B.1 b hb)) (B.1 a ha), fS_lt (fS_lt B.2.1 (B.2.1 b hb)) (B.2.1 a ha), B.2.2⟩
end
/-- how few: what the class keeps beside the set -/
def SUr (u : Nat) (r w : Int32) : Prop := (u = 16 ∧ r = -5 ∧ w = 5) ∨ (u < 16 ∧ r = nI u ∧ w = nI (bN4 u))
theorem SUr.w {u : Nat} {r w : Int32} (h : SUr u r w) : ∃ k : Nat, k ≤ 5 ∧ w = nI k ∧ ∀ s, bN4 s < k ↔ (u = 16 ∨ bN4 s < bN4 u) := by
  rcases h with ⟨a, -, c⟩ | ⟨a, -, c⟩
  · refine ⟨5, Nat.le_refl 5, c, fun s => ?_⟩
    have := bN4_le s
    omega
  · refine ⟨bN4 u, by have := bN4_le u; omega, c, fun s => ?_⟩
    omega
theorem bc_s {s : Nat} (h : s < 16) : bcE (nI s) = nI (bN4 s) := bc_n h
/-- the place on the path -/
theorem xc_bits {a b p : Nat} : bcE (nI (b / 8 ^ p % 8 ^^^ a / 8 ^ p % 8)) = nI (dfN a b p 3) := by
  have h := df_bits (a := a) (b := b) (p := p)
  rw [Nat.xor_comm, bc_n (by omega), h.1]
theorem nh_le {n : Nat} (h : n < 100) : n < 2147483648 := by omega
end CL3
section CL4
def fT (tf : Nat → TWN) (T : Nat) (t : TWN) : Nat → TWN := fun i => if i = T then t else tf i
theorem fT_s {tf : Nat → TWN} {T k : Nat} {t : TWN} (h : T = k) : fT tf T t k = t := if_pos h.symm
theorem fT_n {tf : Nat → TWN} {T k : Nat} {t : TWN} (h : k ≠ T) : fT tf T t k = tf k := if_neg h
theorem TC.zero {fb fc fd : Nat → Int32} : TC 0 0 0 fb fc fd (0, []) := ⟨rfl, rfl, CT.zero, (by decide), (by decide)⟩
end CL4
theorem nle0 {p : Nat} (hp : p < 2 ^ 31) (h : 1 ≤ p) : ¬ nI p ≤ (0 : Int32) := fun q => by
  have := (nI_leI (a := p) (b := 0) hp (by decide)).mp q
  omega
