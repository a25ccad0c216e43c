/-! what both sides hold, as numbers: kinds, vs, rows; what a call makes of them, and what it answers -/
section CA
abbrev Fk : Type := (Nat → Nat) × (Nat → Nat) × (Nat → Nat)
def fS (f : Nat → Nat) (k v : Nat) : Nat → Nat := fun j => if j = k then v else f j
theorem fS_s {f : Nat → Nat} {k v : Nat} : fS f k v k = v := if_pos rfl
theorem fS_n {f : Nat → Nat} {k v j : Nat} (h : j ≠ k) : fS f k v j = f j := if_neg h
theorem fS_lt {f : Nat → Nat} {k v n : Nat} (h : ∀ j, j < 4 → f j < n) (hv : v < n) : ∀ j, j < 4 → fS f k v j < n := fun j hj => by
  by_cases e : j = k
  · subst e; rw [fS_s]; exact hv
  · rw [fS_n e]; exact h j hj
/-- four ints from a place on are these numbers -/
def A4 (g : Nat → Int32) (b : Nat) (f : Nat → Nat) : Prop := ∀ j, j < 4 → g (b + j) = nI (f j)
theorem A4.cong {g h : Nat → Int32} {b : Nat} {f : Nat → Nat} (a : A4 g b f) (e : ∀ i, b ≤ i → i < b + 4 → h i = g i) : A4 h b f := fun j hj => (e _ (by omega) (by omega)).trans (a j hj)
theorem A4.put {g : Nat → Int32} {b k v : Nat} {f : Nat → Nat} (a : A4 g b f) : A4 (upd g (b + k) (nI v)) b (fS f k v) := fun j hj => by
  by_cases e : j = k
  · subst e; rw [pk_us, fS_s]
  · rw [pk_un (by omega), fS_n e]; exact a j hj
theorem A4.un {g : Nat → Int32} {b k : Nat} {x : Int32} {f : Nat → Nat} (a : A4 g b f) (h : k < b ∨ b + 4 ≤ k) : A4 (upd g k x) b f := a.cong (fun i h1 h2 => pk_un (by omega))
theorem A4.put0 {g : Nat → Int32} {k v : Nat} {f : Nat → Nat} (a : A4 g 0 f) : A4 (upd g k (nI v)) 0 (fS f k v) := by
  have h := a.put (k := k) (v := v)
  rwa [Nat.zero_add] at h
theorem A4.g0 {g : Nat → Int32} {f : Nat → Nat} (a : A4 g 0 f) {j : Nat} (hj : j < 4) : g j = nI (f j) := by
  have h := a j hj
  rwa [Nat.zero_add] at h
theorem A4.same {g h : Nat → Int32} {f : Nat → Nat} (a : A4 g 0 f) (e : ∀ i, i < 4 → h i = g i) : A4 h 0 f := a.cong (fun i _ h2 => e i (by omega))
def AF (sv : Nat → Int32) (F : Fk) : Prop := A4 sv 110 F.1 ∧ A4 sv 114 F.2.1 ∧ A4 sv 118 F.2.2
def CF (fk fv fr : Nat → Int32) (F : Fk) : Prop := A4 fk 0 F.1 ∧ A4 fv 0 F.2.1 ∧ A4 fr 0 F.2.2
def FB (F : Fk) : Prop := (∀ j, j < 4 → F.1 j < 7) ∧ (∀ j, j < 4 → F.2.1 j < 10) ∧ ∀ j, j < 4 → F.2.2 j < 8
theorem AF.cong {g h : Nat → Int32} {F : Fk} (a : AF g F) (e : ∀ i, 110 ≤ i → i < 122 → h i = g i) : AF h F := ⟨a.1.cong (fun i _ _ => e i (by omega) (by omega)), a.2.1.cong (fun i _ _ => e i (by omega) (by omega)), a.2.2.cong (fun i _ _ => e i (by omega) (by omega))⟩
theorem AF.un {g : Nat → Int32} {F : Fk} {k : Nat} {x : Int32} (a : AF g F) (h : k < 110 ∨ 122 ≤ k) : AF (upd g k x) F := a.cong (fun i h1 h2 => pk_un (by omega))
theorem CF.same {fk fv fr gk gv gr : Nat → Int32} {F : Fk} (a : CF fk fv fr F) (e1 : ∀ i, i < 4 → gk i = fk i) (e2 : ∀ i, i < 4 → gv i = fv i) (e3 : ∀ i, i < 4 → gr i = fr i) : CF gk gv gr F := ⟨a.1.same e1, a.2.1.same e2, a.2.2.same e3⟩
def F0k : Fk := (fun _ => 0, fun _ => 0, fun _ => 0)
theorem FB.zero : FB F0k := ⟨fun _ _ => Nat.zero_lt_succ 6, fun _ _ => Nat.zero_lt_succ 9, fun _ _ => Nat.zero_lt_succ 7⟩
/-- person -/
def perF (P : Nat) (F : Fk) (x y : Int32) : Fk := if (0 : Int32) ≤ x ∧ x ≤ (6 : Int32) then (if (0 : Int32) ≤ y ∧ y ≤ (9 : Int32) then (if nI P = (4 : Int32) then F else (fS F.1 P x.toNatClampNeg, fS F.2.1 P y.toNatClampNeg, fS F.2.2 P 0)) else F) else F
theorem perF_1 {P : Nat} {F : Fk} {x y : Int32} (h : ¬ ((0 : Int32) ≤ x ∧ x ≤ (6 : Int32))) : perF P F x y = F := if_neg h
theorem perF_2 {P : Nat} {F : Fk} {x y : Int32} (h : (0 : Int32) ≤ x ∧ x ≤ (6 : Int32)) (h2 : ¬ ((0 : Int32) ≤ y ∧ y ≤ (9 : Int32))) : perF P F x y = F := (if_pos h).trans (if_neg h2)
theorem perF_3 {P : Nat} {F : Fk} {x y : Int32} (h : (0 : Int32) ≤ x ∧ x ≤ (6 : Int32)) (h2 : (0 : Int32) ≤ y ∧ y ≤ (9 : Int32)) (h3 : P = 4) : perF P F x y = F := (if_pos h).trans ((if_pos h2).trans (if_pos (congrArg nI h3)))
theorem nle_6 {a : Nat} (h : a ≤ 6) : (0 : Int32) ≤ nI a ∧ nI a ≤ (6 : Int32) := ⟨nI_pos' (by omega), nI_le h (by decide)⟩
theorem nle_9 {a : Nat} (h : a ≤ 9) : (0 : Int32) ≤ nI a ∧ nI a ≤ (9 : Int32) := ⟨nI_pos' (by omega), nI_le h (by decide)⟩
theorem nle_7 {a : Nat} (h : a ≤ 7) : (0 : Int32) ≤ nI a ∧ nI a ≤ (7 : Int32) := ⟨nI_pos' (by omega), nI_le h (by decide)⟩
theorem n4_ne {P : Nat} (h : P < 4) : ¬ nI P = (4 : Int32) := fun e => by
  have := (nI_eq (a := P) (b := 4) (by omega) (by decide)).mp e
  omega
theorem perF_4 {P : Nat} {F : Fk} {a b : Nat} (h : a ≤ 6) (h2 : b ≤ 9) (h3 : P < 4) : perF P F (nI a) (nI b) = (fS F.1 P a, fS F.2.1 P b, fS F.2.2 P 0) := by
  refine ((if_pos (nle_6 h)).trans ((if_pos (nle_9 h2)).trans (if_neg (n4_ne h3)))).trans ?_
  rw [nI_clamp (n := a) (by omega), nI_clamp (n := b) (by omega)]
theorem perF.B {P : Nat} {F : Fk} {x y : Int32} (B : FB F) : FB (perF P F x y) := by
  unfold perF
  split
  · rename_i h
    split
    · rename_i h2
      split
      · exact B
      · obtain ⟨a, ha, rfl⟩ := nat_ofle (n := 6) h (by decide)
        obtain ⟨b, hb, rfl⟩ := nat_ofle (n := 9) h2 (by decide)
        rw [nI_clamp (n := a) (by omega), nI_clamp (n := b) (by omega)]
        exact ⟨fS_lt B.1 (by omega), fS_lt B.2.1 (by omega), fS_lt B.2.2 (by omega)⟩
    · exact B
  · exact B
theorem AF.per {sv : Nat → Int32} {F : Fk} {P a b : Nat} (h : AF sv F) (hP : P < 4) : AF (upd (upd (upd (upd (upd sv (110 + P) (nI a)) (114 + P) (nI b)) (118 + P) 0) (122 + P) 0) 0 (nI (P + 1))) (fS F.1 P a, fS F.2.1 P b, fS F.2.2 P 0) :=
  ⟨((((h.1.put).un (by omega)).un (by omega)).un (by omega)).un (by omega), ((((h.2.1.un (by omega)).put).un (by omega)).un (by omega)).un (by omega), (((((h.2.2.un (by omega)).un (by omega)).put (v := 0)).un (by omega)).un (by omega))⟩
theorem per_fr {sv : Nat → Int32} {P i : Nat} {x y z w q : Int32} (hP : P < 4) (h0 : i ≠ 0) (h1 : i < 110 ∨ 126 ≤ i) : upd (upd (upd (upd (upd sv (110 + P) x) (114 + P) y) (118 + P) z) (122 + P) w) 0 q i = sv i := by
  rw [pk_un (by omega), pk_un (by omega), pk_un (by omega), pk_un (by omega), pk_un (by omega)]
/-- row -/
def rowA (P : Nat) (F : Fk) (x y : Int32) : Int32 := if (0 : Int32) ≤ x ∧ x < nI P then (if (0 : Int32) ≤ y ∧ y ≤ (7 : Int32) then (if F.1 x.toNatClampNeg = 6 then nI (F.2.2 x.toNatClampNeg) else (-3)) else (-2)) else (-1)
def rowF (P : Nat) (F : Fk) (x y : Int32) : Fk := if (0 : Int32) ≤ x ∧ x < nI P then (if (0 : Int32) ≤ y ∧ y ≤ (7 : Int32) then (if F.1 x.toNatClampNeg = 6 then (F.1, F.2.1, fS F.2.2 x.toNatClampNeg y.toNatClampNeg) else F) else F) else F
theorem npe {P p : Nat} (h : p < P) (h4 : P ≤ 4) : (0 : Int32) ≤ nI p ∧ nI p < nI P := ⟨nI_pos' (by omega), nI_lt h (by omega)⟩
theorem row_1 {P : Nat} {F : Fk} {x y : Int32} (h : ¬ ((0 : Int32) ≤ x ∧ x < nI P)) : rowA P F x y = (-1) ∧ rowF P F x y = F := ⟨if_neg h, if_neg h⟩
theorem row_2 {P p : Nat} {F : Fk} {y : Int32} (h : p < P) (h4 : P ≤ 4) (h2 : ¬ ((0 : Int32) ≤ y ∧ y ≤ (7 : Int32))) : rowA P F (nI p) y = (-2) ∧ rowF P F (nI p) y = F := ⟨(if_pos (npe h h4)).trans (if_neg h2), (if_pos (npe h h4)).trans (if_neg h2)⟩
theorem row_3 {P p a : Nat} {F : Fk} (h : p < P) (h4 : P ≤ 4) (h2 : a ≤ 7) (h3 : ¬ F.1 p = 6) : rowA P F (nI p) (nI a) = (-3) ∧ rowF P F (nI p) (nI a) = F := by
  have e : ¬ F.1 (nI p).toNatClampNeg = 6 := by rw [nI_clamp (n := p) (by omega)]; exact h3
  exact ⟨(if_pos (npe h h4)).trans ((if_pos (nle_7 h2)).trans (if_neg e)), (if_pos (npe h h4)).trans ((if_pos (nle_7 h2)).trans (if_neg e))⟩
theorem row_4 {P p a : Nat} {F : Fk} (h : p < P) (h4 : P ≤ 4) (h2 : a ≤ 7) (h3 : F.1 p = 6) : rowA P F (nI p) (nI a) = nI (F.2.2 p) ∧ rowF P F (nI p) (nI a) = (F.1, F.2.1, fS F.2.2 p a) := by
  have e : F.1 (nI p).toNatClampNeg = 6 := by rw [nI_clamp (n := p) (by omega)]; exact h3
  refine ⟨((if_pos (npe h h4)).trans ((if_pos (nle_7 h2)).trans (if_pos e))).trans ?_, ((if_pos (npe h h4)).trans ((if_pos (nle_7 h2)).trans (if_pos e))).trans ?_⟩
  · rw [nI_clamp (n := p) (by omega)]
  · rw [nI_clamp (n := p) (by omega), nI_clamp (n := a) (by omega)]
theorem rowF.B {P : Nat} {F : Fk} {x y : Int32} (B : FB F) : FB (rowF P F x y) := by
  unfold rowF
  split
  · split
    · rename_i h2
      split
      · obtain ⟨b, hb, rfl⟩ := nat_ofle (n := 7) h2 (by decide)
        rw [nI_clamp (n := b) (by omega)]
        exact ⟨B.1, B.2.1, fS_lt B.2.2 (by omega)⟩
      · exact B
    · exact B
  · exact B
theorem AF.row {sv : Nat → Int32} {F : Fk} {p a : Nat} (h : AF sv F) (hp : p < 4) : AF (upd sv (118 + p) (nI a)) (F.1, F.2.1, fS F.2.2 p a) := ⟨h.1.un (by omega), h.2.1.un (by omega), h.2.2.put⟩
theorem CF.row {fk fv fr : Nat → Int32} {F : Fk} {p a : Nat} (h : CF fk fv fr F) : CF fk fv (upd fr p (nI a)) (F.1, F.2.1, fS F.2.2 p a) := ⟨h.1, h.2.1, h.2.2.put0⟩
theorem CF.per {fk fv fr : Nat → Int32} {F : Fk} {P a b : Nat} (h : CF fk fv fr F) : CF (upd fk P (nI a)) (upd fv P (nI b)) (upd fr P 0) (fS F.1 P a, fS F.2.1 P b, fS F.2.2 P 0) := ⟨h.1.put0, h.2.1.put0, h.2.2.put0 (v := 0)⟩
/-- as -/
def asA (P : Nat) (F : Fk) (x y : Int32) : Int32 := if (0 : Int32) ≤ x ∧ x < nI P then (if (0 : Int32) ≤ y ∧ y ≤ (6 : Int32) then (if y.toNatClampNeg = 0 ∨ y.toNatClampNeg = F.1 x.toNatClampNeg ∨ (y.toNatClampNeg = 2 ∧ F.1 x.toNatClampNeg = 4) ∨ (y.toNatClampNeg = 3 ∧ 4 < F.1 x.toNatClampNeg) then nI (F.2.1 x.toNatClampNeg) else (-6)) else (-1)) else (-1)
theorem as_1 {P : Nat} {F : Fk} {x y : Int32} (h : ¬ ((0 : Int32) ≤ x ∧ x < nI P)) : asA P F x y = (-1) := if_neg h
theorem as_2 {P p : Nat} {F : Fk} {y : Int32} (h : p < P) (h4 : P ≤ 4) (h2 : ¬ ((0 : Int32) ≤ y ∧ y ≤ (6 : Int32))) : asA P F (nI p) y = (-1) := (if_pos (npe h h4)).trans (if_neg h2)
theorem as_3 {P p a : Nat} {F : Fk} (h : p < P) (h4 : P ≤ 4) (h2 : a ≤ 6) (h3 : a = 0 ∨ a = F.1 p ∨ (a = 2 ∧ F.1 p = 4) ∨ (a = 3 ∧ 4 < F.1 p)) : asA P F (nI p) (nI a) = nI (F.2.1 p) := by
  unfold asA
  rw [nI_clamp (n := p) (by omega), nI_clamp (n := a) (by omega)]
  exact (if_pos (npe h h4)).trans ((if_pos (nle_6 h2)).trans (if_pos h3))
theorem as_4 {P p a : Nat} {F : Fk} (h : p < P) (h4 : P ≤ 4) (h2 : a ≤ 6) (h3 : ¬ (a = 0 ∨ a = F.1 p ∨ (a = 2 ∧ F.1 p = 4) ∨ (a = 3 ∧ 4 < F.1 p))) : asA P F (nI p) (nI a) = (-6) := by
  unfold asA
  rw [nI_clamp (n := p) (by omega), nI_clamp (n := a) (by omega)]
  exact (if_pos (npe h h4)).trans ((if_pos (nle_6 h2)).trans (if_neg h3))
/-- book -/
def bookB (P B : Nat) (x : Int32) : Nat := if x = (-1 : Int32) then 0 else (if (0 : Int32) ≤ x ∧ x < nI (d8 P) then (if B = 10 then B else B + 1) else B)
def bookA (P B : Nat) (x : Int32) : Int32 := if x = (-1 : Int32) then 0 else (if (0 : Int32) ≤ x ∧ x < nI (d8 P) then (if B = 10 then (-4) else nI (B + 1)) else (-2))
def bookV (sv : Nat → Int32) (P B : Nat) (x : Int32) : Nat → Int32 := if x = (-1 : Int32) then upd sv 2 0 else (if (0 : Int32) ≤ x ∧ x < nI (d8 P) then (if B = 10 then sv else upd (upd sv (126 + B) x) 2 (nI (B + 1))) else sv)
def bookC (fb : Nat → Int32) (P B : Nat) (x : Int32) : Nat → Int32 := if x = (-1 : Int32) then fb else (if (0 : Int32) ≤ x ∧ x < nI (d8 P) then (if B = 10 then fb else upd fb B x) else fb)
section
variable {P B : Nat} {x : Int32} {sv fb : Nat → Int32}
theorem book_1 (h : x = (-1 : Int32)) : bookA P B x = 0 ∧ bookB P B x = 0 ∧ bookV sv P B x = upd sv 2 0 ∧ bookC fb P B x = fb := ⟨if_pos h, if_pos h, if_pos h, if_pos h⟩
theorem book_2 (h : ¬ x = (-1 : Int32)) (h2 : ¬ ((0 : Int32) ≤ x ∧ x < nI (d8 P))) : bookA P B x = (-2) ∧ bookB P B x = B ∧ bookV sv P B x = sv ∧ bookC fb P B x = fb := ⟨(if_neg h).trans (if_neg h2), (if_neg h).trans (if_neg h2), (if_neg h).trans (if_neg h2), (if_neg h).trans (if_neg h2)⟩
theorem book_3 (h : ¬ x = (-1 : Int32)) (h2 : (0 : Int32) ≤ x ∧ x < nI (d8 P)) (h3 : B = 10) : bookA P B x = (-4) ∧ bookB P B x = B ∧ bookV sv P B x = sv ∧ bookC fb P B x = fb := ⟨(if_neg h).trans ((if_pos h2).trans (if_pos h3)), (if_neg h).trans ((if_pos h2).trans (if_pos h3)), (if_neg h).trans ((if_pos h2).trans (if_pos h3)), (if_neg h).trans ((if_pos h2).trans (if_pos h3))⟩
theorem book_4 (h : ¬ x = (-1 : Int32)) (h2 : (0 : Int32) ≤ x ∧ x < nI (d8 P)) (h3 : ¬ B = 10) : bookA P B x = nI (B + 1) ∧ bookB P B x = B + 1 ∧ bookV sv P B x = upd (upd sv (126 + B) x) 2 (nI (B + 1)) ∧ bookC fb P B x = upd fb B x := ⟨(if_neg h).trans ((if_pos h2).trans (if_neg h3)), (if_neg h).trans ((if_pos h2).trans (if_neg h3)), (if_neg h).trans ((if_pos h2).trans (if_neg h3)), (if_neg h).trans ((if_pos h2).trans (if_neg h3))⟩
theorem bookV.fr (hB : B ≤ 10) {i : Nat} (h : i ≠ 2) (h2 : i < 126 ∨ 136 ≤ i) : bookV sv P B x i = sv i := by
  unfold bookV
  split
  · rw [pk_un h]
  · split
    · split
      · rfl
      · rw [pk_un h, pk_un (by omega)]
    · rfl
theorem bookB.le (hB : B ≤ 10) : bookB P B x ≤ 10 := by
  unfold bookB
  split
  · omega
  · split
    · split <;> omega
    · exact hB
/-- the days of the book are the same -/
def BKr (fb sv : Nat → Int32) (B : Nat) : Prop := ∀ j, j < B → fb j = sv (126 + j)
theorem BKr.cong {fb gb sv sw : Nat → Int32} {B : Nat} (h : BKr fb sv B) (e1 : ∀ i, i < B → gb i = fb i) (e2 : ∀ i, 126 ≤ i → i < 126 + B → sw i = sv i) : BKr gb sw B := fun j hj => (e1 j hj).trans ((h j hj).trans (e2 _ (by omega) (by omega)).symm)
theorem BKr.zero {fb sv : Nat → Int32} : BKr fb sv 0 := fun j hj => absurd hj (Nat.not_lt_zero j)
theorem BKr.book (hB : B ≤ 10) (h : BKr fb sv B) : BKr (bookC fb P B x) (bookV sv P B x) (bookB P B x) := by
  unfold bookC bookV bookB
  split
  · exact BKr.zero
  · split
    · split
      · exact h
      · intro j hj
        by_cases e : j = B
        · subst e; rw [pk_us, pk_un (by omega), pk_us]
        · rw [pk_un e, pk_un (by omega), pk_un (by omega)]; exact h j (by omega)
    · exact h
end
/-- acts: what the bodies make, and which ran -/
def akn (k : Nat) (i x : Int32) : Int32 := if k = 1 then (x * 3) + i else (if k = 5 then (x + i) ^^^ i else x + i)
def ado (k : Nat) (i v x : Int32) : Int32 := if k = 2 ∨ k = 4 then -(akn k i x - v) else (if k = 6 then (akn k i x - v) + v else akn k i x - v)
def ate (k : Nat) (i v x : Int32) : Int32 := if k = 3 ∨ 4 < k then (ado k i v x * 2) ^^^ 7 else (if k = 4 then (ado k i v (x - 1) * 2) + akn k i 2 else ado k i v x * 2)
def actE (k a : Nat) (i v x : Int32) : Int32 := if a = 0 then akn k i x else (if a = 1 then ado k i v x else ate k i v x)
def bkn (k : Nat) : List Int32 := if k = 1 then [11, 1] else (if k = 5 then [51, 1] else [1])
def bdo (k : Nat) : List Int32 := if k = 2 ∨ k = 4 then 21 :: 2 :: bkn k else (if k = 6 then 61 :: 2 :: bkn k else 2 :: bkn k)
def bte (k : Nat) : List Int32 := if k = 3 ∨ 4 < k then 31 :: 3 :: bdo k else (if k = 4 then 41 :: 3 :: (bdo k ++ bkn k) else 3 :: bdo k)
def actB (k a : Nat) : List Int32 := if a = 0 then bkn k else (if a = 1 then bdo k else bte k)
def actA (P : Nat) (F : Fk) (x y z : Int32) : Int32 := if (0 : Int32) ≤ x ∧ x < nI P then (if (0 : Int32) ≤ y ∧ y ≤ (2 : Int32) then actE (F.1 x.toNatClampNeg) y.toNatClampNeg x (nI (F.2.1 x.toNatClampNeg)) z else 0) else 0
def actL (P : Nat) (F : Fk) (x y : Int32) : List Int32 := if (0 : Int32) ≤ x ∧ x < nI P then (if (0 : Int32) ≤ y ∧ y ≤ (2 : Int32) then actB (F.1 x.toNatClampNeg) y.toNatClampNeg else []) else []
section
variable {P p : Nat} {F : Fk} {x y z : Int32}
theorem act_1 (h : ¬ ((0 : Int32) ≤ x ∧ x < nI P)) : actA P F x y z = 0 ∧ actL P F x y = [] := ⟨if_neg h, if_neg h⟩
theorem act_2 (h : p < P) (h4 : P ≤ 4) (h2 : ¬ ((0 : Int32) ≤ y ∧ y ≤ (2 : Int32))) : actA P F (nI p) y z = 0 ∧ actL P F (nI p) y = [] := ⟨(if_pos (npe h h4)).trans (if_neg h2), (if_pos (npe h h4)).trans (if_neg h2)⟩
theorem act_3 {k a : Nat} (h : p < P) (h4 : P ≤ 4) (h2 : a < 3) (h3 : F.1 p = k) : actA P F (nI p) (nI a) z = actE k a (nI p) (nI (F.2.1 p)) z ∧ actL P F (nI p) (nI a) = actB k a := by
  have e : (0 : Int32) ≤ nI a ∧ nI a ≤ (2 : Int32) := ⟨nI_pos' (by omega), nI_le (show a ≤ 2 by omega) (by decide)⟩
  unfold actA actL
  rw [nI_clamp (n := p) (by omega), nI_clamp (n := a) (by omega), h3]
  exact ⟨(if_pos (npe h h4)).trans (if_pos e), (if_pos (npe h h4)).trans (if_pos e)⟩
end
theorem actB_len : ∀ k, k < 7 → ∀ a, a < 3 → (actB k a).length ≤ 6 := by decide
theorem actL.len {P : Nat} {F : Fk} {x y : Int32} (B : FB F) (h4 : P ≤ 4) : (actL P F x y).length ≤ 6 := by
  unfold actL
  split
  · rename_i h
    split
    · rename_i h2
      obtain ⟨b, hb, rfl⟩ := nat_ofle (n := 2) h2 (by decide)
      obtain ⟨a, ha, rfl⟩ := nat_of (n := P) h (by omega)
      rw [nI_clamp (n := b) (by omega), nI_clamp (n := a) (by omega)]
      exact actB_len _ (B.1 a (by omega)) b (by omega)
    · exact Nat.zero_le _
  · exact Nat.zero_le _
/-- the trace is this list -/
def TL (f : Nat → Int32) (l : List Int32) : Prop := ∀ i, i < l.length → f i = l.getD i 0
theorem TL.nil {f : Nat → Int32} : TL f [] := fun i h => absurd h (Nat.not_lt_zero i)
def trA (rl : Nat) (l : List Int32) (x : Int32) : Int32 := if (0 : Int32) ≤ x ∧ x < nI rl then l.getD x.toNatClampNeg 0 else (-1)
theorem tr_1 {rl : Nat} {l : List Int32} {x : Int32} (h : ¬ ((0 : Int32) ≤ x ∧ x < nI rl)) : trA rl l x = (-1) := if_neg h
theorem tr_2 {rl : Nat} {l : List Int32} {f : Nat → Int32} {a : Nat} (h : TL f l) (hr : rl = l.length) (h2 : a < rl) (h3 : rl ≤ 6) : f a = trA rl l (nI a) := by
  unfold trA
  rw [nI_clamp (n := a) (by omega), if_pos ⟨nI_pos' (by omega), nI_lt h2 (by omega)⟩]
  exact h a (by omega)
theorem trc_n {x : Int32} {r : Nat} (h : 0 ≤ x ∧ x ≤ nI r - 1) (hr : r < 20) : ∃ a : Nat, a < r ∧ x = nI a := by
  have h1 : (nI r - 1).toInt = (r : Int) - 1 := pk_sub_toInt (a := r) (b := 1) (by omega) (by decide)
  have h0 : (0 : Int32).toInt = 0 := by decide
  have a := le_i.mp h.1
  have b := le_i.mp h.2
  obtain ⟨j, hj, rfl⟩ := nI_of (x := x) (fun q => by have := lt_i.mp q; omega)
  have h3 : (nI j).toInt = j := nI_toInt hj
  exact ⟨j, by omega, rfl⟩
theorem trc_m {x : Int32} {r : Nat} (h : ¬ (0 ≤ x ∧ x ≤ nI r - 1)) (hr : r < 20) : ¬ ((0 : Int32) ≤ x ∧ x < nI r) := fun q => by
  obtain ⟨a, ha, rfl⟩ := nat_of q (by omega)
  apply h
  refine ⟨q.1, le_i.mpr ?_⟩
  have h1 : (nI r - 1).toInt = (r : Int) - 1 := pk_sub_toInt (a := r) (b := 1) (by omega) (by decide)
  have h3 : (nI a).toInt = a := nI_toInt (by omega)
  omega
theorem npd {d P : Nat} (h : d < d8 P) (h4 : d8 P ≤ 4096) : (0 : Int32) ≤ nI d ∧ nI d < nI (d8 P) := ⟨nI_pos' (by omega), nI_lt h (by omega)⟩
theorem tl_0_0 (f : Nat → Int32) : TL (upd f 0 1) (actB 0 0) := fun i h => by
  have h : i < 1 := h
  rcases (show i = 0 by omega) with rfl <;> rfl
theorem tl_0_1 (f : Nat → Int32) : TL (upd (upd f 0 2) 1 1) (actB 0 1) := fun i h => by
  have h : i < 2 := h
  rcases (show i = 0 ∨ i = 1 by omega) with rfl | rfl <;> rfl
theorem tl_0_2 (f : Nat → Int32) : TL (upd (upd (upd f 0 3) 1 2) 2 1) (actB 0 2) := fun i h => by
  have h : i < 3 := h
  rcases (show i = 0 ∨ i = 1 ∨ i = 2 by omega) with rfl | rfl | rfl <;> rfl
theorem tl_1_0 (f : Nat → Int32) : TL (upd (upd f 0 11) 1 1) (actB 1 0) := fun i h => by
  have h : i < 2 := h
  rcases (show i = 0 ∨ i = 1 by omega) with rfl | rfl <;> rfl
theorem tl_1_1 (f : Nat → Int32) : TL (upd (upd (upd f 0 2) 1 11) 2 1) (actB 1 1) := fun i h => by
  have h : i < 3 := h
  rcases (show i = 0 ∨ i = 1 ∨ i = 2 by omega) with rfl | rfl | rfl <;> rfl
theorem tl_1_2 (f : Nat → Int32) : TL (upd (upd (upd (upd f 0 3) 1 2) 2 11) 3 1) (actB 1 2) := fun i h => by
  have h : i < 4 := h
  rcases (show i = 0 ∨ i = 1 ∨ i = 2 ∨ i = 3 by omega) with rfl | rfl | rfl | rfl <;> rfl
theorem tl_2_0 (f : Nat → Int32) : TL (upd f 0 1) (actB 2 0) := fun i h => by
  have h : i < 1 := h
  rcases (show i = 0 by omega) with rfl <;> rfl
theorem tl_2_1 (f : Nat → Int32) : TL (upd (upd (upd f 0 21) 1 2) 2 1) (actB 2 1) := fun i h => by
  have h : i < 3 := h
  rcases (show i = 0 ∨ i = 1 ∨ i = 2 by omega) with rfl | rfl | rfl <;> rfl
theorem tl_2_2 (f : Nat → Int32) : TL (upd (upd (upd (upd f 0 3) 1 21) 2 2) 3 1) (actB 2 2) := fun i h => by
  have h : i < 4 := h
  rcases (show i = 0 ∨ i = 1 ∨ i = 2 ∨ i = 3 by omega) with rfl | rfl | rfl | rfl <;> rfl
theorem tl_3_0 (f : Nat → Int32) : TL (upd f 0 1) (actB 3 0) := fun i h => by
  have h : i < 1 := h
  rcases (show i = 0 by omega) with rfl <;> rfl
theorem tl_3_1 (f : Nat → Int32) : TL (upd (upd f 0 2) 1 1) (actB 3 1) := fun i h => by
  have h : i < 2 := h
  rcases (show i = 0 ∨ i = 1 by omega) with rfl | rfl <;> rfl
theorem tl_3_2 (f : Nat → Int32) : TL (upd (upd (upd (upd f 0 31) 1 3) 2 2) 3 1) (actB 3 2) := fun i h => by
  have h : i < 4 := h
  rcases (show i = 0 ∨ i = 1 ∨ i = 2 ∨ i = 3 by omega) with rfl | rfl | rfl | rfl <;> rfl
theorem tl_4_0 (f : Nat → Int32) : TL (upd f 0 1) (actB 4 0) := fun i h => by
  have h : i < 1 := h
  rcases (show i = 0 by omega) with rfl <;> rfl
theorem tl_4_1 (f : Nat → Int32) : TL (upd (upd (upd f 0 21) 1 2) 2 1) (actB 4 1) := fun i h => by
  have h : i < 3 := h
  rcases (show i = 0 ∨ i = 1 ∨ i = 2 by omega) with rfl | rfl | rfl <;> rfl
theorem tl_4_2 (f : Nat → Int32) : TL (upd (upd (upd (upd (upd (upd f 0 41) 1 3) 2 21) 3 2) 4 1) 5 1) (actB 4 2) := fun i h => by
  have h : i < 6 := h
  rcases (show i = 0 ∨ i = 1 ∨ i = 2 ∨ i = 3 ∨ i = 4 ∨ i = 5 by omega) with rfl | rfl | rfl | rfl | rfl | rfl <;> rfl
theorem tl_5_0 (f : Nat → Int32) : TL (upd (upd f 0 51) 1 1) (actB 5 0) := fun i h => by
  have h : i < 2 := h
  rcases (show i = 0 ∨ i = 1 by omega) with rfl | rfl <;> rfl
theorem tl_5_1 (f : Nat → Int32) : TL (upd (upd (upd f 0 2) 1 51) 2 1) (actB 5 1) := fun i h => by
  have h : i < 3 := h
  rcases (show i = 0 ∨ i = 1 ∨ i = 2 by omega) with rfl | rfl | rfl <;> rfl
theorem tl_5_2 (f : Nat → Int32) : TL (upd (upd (upd (upd (upd f 0 31) 1 3) 2 2) 3 51) 4 1) (actB 5 2) := fun i h => by
  have h : i < 5 := h
  rcases (show i = 0 ∨ i = 1 ∨ i = 2 ∨ i = 3 ∨ i = 4 by omega) with rfl | rfl | rfl | rfl | rfl <;> rfl
theorem tl_6_0 (f : Nat → Int32) : TL (upd f 0 1) (actB 6 0) := fun i h => by
  have h : i < 1 := h
  rcases (show i = 0 by omega) with rfl <;> rfl
theorem tl_6_1 (f : Nat → Int32) : TL (upd (upd (upd f 0 61) 1 2) 2 1) (actB 6 1) := fun i h => by
  have h : i < 3 := h
  rcases (show i = 0 ∨ i = 1 ∨ i = 2 by omega) with rfl | rfl | rfl <;> rfl
theorem tl_6_2 (f : Nat → Int32) : TL (upd (upd (upd (upd (upd f 0 31) 1 3) 2 61) 3 2) 4 1) (actB 6 2) := fun i h => by
  have h : i < 5 := h
  rcases (show i = 0 ∨ i = 1 ∨ i = 2 ∨ i = 3 ∨ i = 4 by omega) with rfl | rfl | rfl | rfl | rfl <;> rfl
end CA
