/-! days: what the reference's methods need -/
section CDL
theorem wo_0 {tbl : Nat → Int32} {P : Nat} {F : Fk} {E : Ev} {O : Nat → Nat} {d p h i : Nat} (T : TBr tbl P F E) (hp : p < P) (hP : P ≤ 4) (hO : O p < 2) (hh : h = 0) (hi : i = 96 * p + 32 * h + 2 * oN d p h P + O p) : tbl i = wS E (F.1 p) O p (siN P d p) h := by
  subst hh
  have a := oN_3 (d := d) (h := 0) hp hP
  rw [wS_0, si_n hp hP (by decide)]
  exact T.at hp (by decide) (by decide) (by omega) hO (by omega)
theorem wo_1 {tbl : Nat → Int32} {P : Nat} {F : Fk} {E : Ev} {O : Nat → Nat} {d p h i : Nat} (T : TBr tbl P F E) (hp : p < P) (hP : P ≤ 4) (hh : ¬ h = 0) (h3 : h < 3) (hb : dB d (3 * p + (h - 1)) = 1) (hi : i = 96 * p + 32 * h + 8 * oN d p (h - 1) P + 2 * oN d p h P + 1) : tbl i = wS E (F.1 p) O p (siN P d p) h := by
  have a := oN_3 (d := d) (h := h) hp hP
  have b := oN_3 (d := d) (h := h - 1) hp hP
  rw [wS_s hh, si_n hp hP h3, si_n hp hP (by omega), si_own (by omega), hb]
  exact T.at hp h3 (by omega) (by omega) (by decide) (by omega)
theorem wo_2 {tbl : Nat → Int32} {P : Nat} {F : Fk} {E : Ev} {O : Nat → Nat} {d p h i : Nat} (T : TBr tbl P F E) (hp : p < P) (hP : P ≤ 4) (hh : ¬ h = 0) (h3 : h < 3) (hb : ¬ dB d (3 * p + (h - 1)) = 1) (hi : i = 96 * p + 32 * h + 8 * oN d p (h - 1) P + 2 * oN d p h P) : tbl i = wS E (F.1 p) O p (siN P d p) h := by
  have a := oN_3 (d := d) (h := h) hp hP
  have b := oN_3 (d := d) (h := h - 1) hp hP
  have c := dB_lt d (3 * p + (h - 1))
  rw [wS_s hh, si_n hp hP h3, si_n hp hP (by omega), si_own (by omega), show dB d (3 * p + (h - 1)) = 0 by omega]
  exact T.at hp h3 (by omega) (by omega) (by decide) (by omega)
theorem mask4' : ∀ p : Fin 4, ∀ a : Fin 64, ∀ b : Fin 64, (64 * a.val + b.val) &&& (4294967295 - 7 * 8 ^ p.val) = (64 * a.val + b.val) - (64 * a.val + b.val) / 8 ^ p.val % 8 * 8 ^ p.val := by decide +kernel
theorem mask4 (p : Fin 4) (d : Fin 4096) : d.val &&& (4294967295 - 7 * 8 ^ p.val) = d.val - d.val / 8 ^ p.val % 8 * 8 ^ p.val := by
  have h := mask4' p ⟨d.val / 64, by have := d.isLt; omega⟩ ⟨d.val % 64, Nat.mod_lt _ (by decide)⟩
  simp only at h
  rw [show 64 * (d.val / 64) + d.val % 64 = d.val by omega] at h
  exact h
theorem or8 {x o p : Nat} (ho : o < 8) (h : x / 8 ^ p % 8 = 0) : x ||| o * 8 ^ p = x + o * 8 ^ p := by
  have h0 : 0 < 8 ^ p := Nat.pow_pos (by decide)
  obtain ⟨A, B, hB, e⟩ : ∃ A B : Nat, B < 8 ^ p ∧ x = A * 8 ^ (p + 1) + B := by
    refine ⟨x / 8 ^ p / 8, x % 8 ^ p, Nat.mod_lt _ h0, ?_⟩
    have e1 := Nat.div_add_mod x (8 ^ p)
    have e2 : x / 8 ^ p = x / 8 ^ p / 8 * 8 := by omega
    rw [Nat.pow_succ]
    conv => lhs; rw [← e1, e2]
    rw [Nat.mul_comm (8 ^ p), Nat.mul_assoc, Nat.mul_comm 8]
  have e8 : 8 ^ p = 2 ^ (3 * p) := eight p
  have q1 : B ||| o * 8 ^ p = B + o * 8 ^ p := by
    have := Nat.two_pow_add_eq_or_of_lt (i := 3 * p) (b := B) (by rw [← e8]; exact hB) o
    rw [← e8] at this
    rw [Nat.or_comm, Nat.mul_comm o, ← this, Nat.add_comm]
  have hlt : B + o * 8 ^ p < 2 ^ (3 * (p + 1)) := by
    rw [← eight, Nat.pow_succ]
    have : o * 8 ^ p ≤ 7 * 8 ^ p := Nat.mul_le_mul_right _ (by omega)
    omega
  have hlt2 : B < 2 ^ (3 * (p + 1)) := by omega
  have a1 := Nat.two_pow_add_eq_or_of_lt (i := 3 * (p + 1)) (b := B) hlt2 A
  have a2 := Nat.two_pow_add_eq_or_of_lt (i := 3 * (p + 1)) (b := B + o * 8 ^ p) hlt A
  rw [← eight, Nat.mul_comm] at a1 a2
  rw [e, a1, Nat.or_assoc, q1, ← a2, ← a1, Nat.add_assoc]
theorem wO_eq {d p o : Nat} (hd : d < 4096) (hp : p < 4) (ho : o < 8) : (nI d &&& (((7 : Int32) <<< ((nI (3 * p)) &&& 31)) ^^^ (-1))) ||| (nI o <<< ((nI (3 * p)) &&& 31)) = nI (wO d p o) := by
  have h1 := sh3 ⟨p, hp⟩ ⟨o, ho⟩
  have h2 := msk3 ⟨p, hp⟩
  have h3 := mask4 ⟨p, hp⟩ ⟨d, hd⟩
  simp only at h1 h2 h3
  rw [show nI (3 * p) = 3 * nI p from (pk_mul 3 p).symm, h1.1, h2, nx_and', nx_or, h3]
  congr 1
  have hz : (d - d / 8 ^ p % 8 * 8 ^ p) / 8 ^ p % 8 = 0 := by
    have := wO_own (d := d) (p := p) (o := 0) (by decide)
    unfold wO at this
    rw [Nat.zero_mul, Nat.add_zero] at this
    exact this
  exact or8 ho hz
/-- the kept best rows: those of this time are right -/
def BX (f : Nat → Int32) (tm : Nat) (G : Nat → Nat) : Prop := ∀ a, a < 16384 → ∃ b : Nat, f a = nI b ∧ b < 8 * tm + 8 ∧ (8 * tm ≤ b → b = 8 * tm + G a)
def BG (P : Nat) (F : Fk) (O : Nat → Nat) (E : Ev) : Nat → Nat := fun a => besN E (F.1 (a / 4096)) O (a / 4096) (siN P (a % 4096) (a / 4096) / 8)
theorem BX.next {f : Nat → Int32} {tm : Nat} {G G2 : Nat → Nat} (h : BX f tm G) : BX f (tm + 1) G2 := fun a ha => by
  obtain ⟨b, e, h1, -⟩ := h a ha
  exact ⟨b, e, by omega, fun q => by omega⟩
theorem BX.later {f : Nat → Int32} {tm tm2 : Nat} {G G2 : Nat → Nat} (h : BX f tm G) (ht : tm < tm2) : BX f tm2 G2 := fun a ha => by
  obtain ⟨b, e, h1, -⟩ := h a ha
  exact ⟨b, e, by omega, fun q => by omega⟩
theorem BX.put {f : Nat → Int32} {tm a b : Nat} {G : Nat → Nat} (h : BX f tm G) (hb : b = G a) (h8 : b < 8) : BX (upd f a (nI (8 * tm + b))) tm G := fun i hi => by
  by_cases e : i = a
  · subst e; exact ⟨8 * tm + b, pk_us, by omega, fun _ => by rw [hb]⟩
  · rw [pk_un e]; exact h i hi
theorem BG_at {P : Nat} {F : Fk} {O : Nat → Nat} {E : Ev} {d p : Nat} (hp : p < P) (hP : P ≤ 4) (hd : d < 4096) : besN E (F.1 p) O p (siN P d p / 8) = BG P F O E (4096 * p + wO d p 0) := by
  have hw := wO_lt (o := 0) hd (show p < 4 by omega) (by decide)
  unfold BG
  rw [show (4096 * p + wO d p 0) / 4096 = p by omega, show (4096 * p + wO d p 0) % 4096 = wO d p 0 by omega, si_wO hp hP (by decide)]
  rw [show (8 * (siN P d p / 8) + 0) / 8 = siN P d p / 8 by omega]
theorem bx_hit {b tm g a : Nat} {G : Nat → Nat} (h1 : b < 8 * tm + 8) (h2 : 8 * tm ≤ b → b = 8 * tm + G a) (h3 : b / 8 = tm) (hg : g = G a) (hg8 : g < 8) : b % 8 = g := by
  have := h2 (by omega)
  omega
/-- the first hours of one's row -/
def prN (F : Fk) (O : Nat → Nat) (E : Ev) (p s ps : Nat) : Nat → Nat
  | 0 => 0
  | h + 1 => prN F O E p s ps h + wd F O E p s ps h * 2 ^ h
theorem prN_3 {F : Fk} {O : Nat → Nat} {E : Ev} {p s ps : Nat} : prN F O E p s ps 3 = rwN F O E p s ps := by
  have h3 : prN F O E p s ps 3 = prN F O E p s ps 2 + wd F O E p s ps 2 * 2 ^ 2 := rfl
  have h2 : prN F O E p s ps 2 = prN F O E p s ps 1 + wd F O E p s ps 1 * 2 ^ 1 := rfl
  have h1 : prN F O E p s ps 1 = prN F O E p s ps 0 + wd F O E p s ps 0 * 2 ^ 0 := rfl
  have h0 : prN F O E p s ps 0 = 0 := rfl
  unfold rwN
  omega
theorem prN_lt {F : Fk} {O : Nat → Nat} {E : Ev} {p s ps : Nat} : ∀ h : Nat, prN F O E p s ps h < 2 ^ h
  | 0 => by show (0 : Nat) < _; exact Nat.pow_pos (by decide)
  | h + 1 => by
    have ih := prN_lt (F := F) (O := O) (E := E) (p := p) (s := s) (ps := ps) h
    have hw := wd_lt (F := F) (O := O) (E := E) (p := p) (s := s) (ps := ps) (h := h)
    show _ + _ * 2 ^ h < _
    rw [Nat.pow_succ]
    have : wd F O E p s ps h * 2 ^ h ≤ 1 * 2 ^ h := Nat.mul_le_mul_right _ (by omega)
    omega
section
variable {P : Nat} {F : Fk} {O : Nat → Nat} {Y : Nat} {E : Ev} {d p h : Nat}
theorem an_row : anN P F O Y E d p + prN F O E p (siN P d p) (siN P Y p) 3 * 8 ^ p = anN P F O Y E d (p + 1) := by
  rw [prN_3]; rfl
theorem an_bit_s : anN P F O Y E d p + prN F O E p (siN P d p) (siN P Y p) 0 * 8 ^ p = anN P F O Y E d p := by
  show _ + 0 * _ = _
  rw [Nat.zero_mul]; rfl
theorem an_bit_0 (hp : p < 4) (hh : h < 3) (e : wd F O E p (siN P d p) (siN P Y p) h = 0) : anN P F O Y E d p + prN F O E p (siN P d p) (siN P Y p) h * 8 ^ p = anN P F O Y E d p + prN F O E p (siN P d p) (siN P Y p) (h + 1) * 8 ^ p := by
  have q : prN F O E p (siN P d p) (siN P Y p) (h + 1) = prN F O E p (siN P d p) (siN P Y p) h := by
    show _ + _ * _ = _
    rw [e, Nat.zero_mul]; rfl
  rw [q]
theorem an_part_lt : anN P F O Y E d p + prN F O E p (siN P d p) (siN P Y p) h * 8 ^ p < 2 ^ (3 * p + h) := by
  have a := anN_lt (P := P) (F := F) (O := O) (Y := Y) (E := E) (d := d) p
  have b := prN_lt (F := F) (O := O) (E := E) (p := p) (s := siN P d p) (ps := siN P Y p) h
  rw [Nat.pow_add, ← eight]
  generalize 8 ^ p = X at *
  generalize 2 ^ h = Z at *
  generalize prN F O E p (siN P d p) (siN P Y p) h = r at *
  have : (r + 1) * X ≤ Z * X := Nat.mul_le_mul_right X b
  rw [Nat.add_mul, Nat.one_mul] at this
  rw [Nat.mul_comm X Z]
  omega
theorem an_bit_1 (hp : p < 4) (hh : h < 3) (e : ¬ wd F O E p (siN P d p) (siN P Y p) h = 0) : (anN P F O Y E d p + prN F O E p (siN P d p) (siN P Y p) h * 8 ^ p) ||| 2 ^ (3 * p + h) = anN P F O Y E d p + prN F O E p (siN P d p) (siN P Y p) (h + 1) * 8 ^ p := by
  have hw := wd_lt (F := F) (O := O) (E := E) (p := p) (s := siN P d p) (ps := siN P Y p) (h := h)
  have q : prN F O E p (siN P d p) (siN P Y p) (h + 1) = prN F O E p (siN P d p) (siN P Y p) h + 2 ^ h := by
    show _ + _ * _ = _
    rw [show wd F O E p (siN P d p) (siN P Y p) h = 1 by omega, Nat.one_mul]
  have l := an_part_lt (P := P) (F := F) (O := O) (Y := Y) (E := E) (d := d) (p := p) (h := h)
  have r := Nat.two_pow_add_eq_or_of_lt l 1
  rw [Nat.mul_one] at r
  rw [q, Nat.or_comm, ← r, Nat.add_mul, ← Nat.add_assoc, Nat.add_comm, Nat.pow_add, ← eight, Nat.mul_comm (8 ^ p)]
  omega
theorem fo_bit (hh : h < 3) : rwD P F O Y E d p / 2 ^ h % 2 = d / 8 ^ p % 8 / 2 ^ h % 2 ↔ wd F O E p (siN P d p) (siN P Y p) h = dB d (3 * p + h) := by
  unfold rwD
  rw [rwN_bit hh, dB_own d p h hh]
end
theorem tbx_put {tbl : Nat → Int32} {E : Ev} {F : Fk} {p k : Nat} {x : Int32} (h : TBX tbl E F p k) (e : x = E p (F.1 p) (k / 32) (k / 8 % 4) (k / 2 % 4) (k % 2)) : TBX (upd tbl (96 * p + k) x) E F p (k + 1) := fun i hi => by
  by_cases q : i = k
  · subst q; rw [pk_us]; exact e
  · rw [pk_un (by omega)]; exact h i (by omega)
theorem by_six {f : Nat → Int32} {a p b c e k : Nat} (h1 : f 1 = nI p) (h5 : f 5 = nI k) : ∀ i, i < 6 → upd (upd (upd (upd f 0 (nI a)) 2 (nI b)) 3 (nI c)) 4 (nI e) i = byF a p b c e k i := fun i hi => by
  rcases (show i = 0 ∨ i = 1 ∨ i = 2 ∨ i = 3 ∨ i = 4 ∨ i = 5 by omega) with rfl | rfl | rfl | rfl | rfl | rfl
  · rw [pk_un (by decide), pk_un (by decide), pk_un (by decide), pk_us]; rfl
  · rw [pk_un (by decide), pk_un (by decide), pk_un (by decide), pk_un (by decide), h1]; rfl
  · rw [pk_un (by decide), pk_un (by decide), pk_us]; rfl
  · rw [pk_un (by decide), pk_us]; rfl
  · rw [pk_us]; rfl
  · rw [pk_un (by decide), pk_un (by decide), pk_un (by decide), pk_un (by decide), h5]; rfl
end CDL
