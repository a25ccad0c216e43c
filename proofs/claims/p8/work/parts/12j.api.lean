/-! what each call answers, of its own numbers -/
section CAP
def gP (n : Nat) (x : Int32) (f : Nat → Int32) (e : Int32) : Int32 := if (0 : Int32) ≤ x ∧ x < nI n then f x.toNatClampNeg else e
def gL (n : Nat) (x : Int32) (f : Nat → Int32) (e : Int32) : Int32 := if (0 : Int32) ≤ x ∧ x ≤ nI n then f x.toNatClampNeg else e
def gN (n : Nat) (x : Int32) (f : Nat → Int32) (e : Int32) : Int32 := if (1 : Int32) ≤ x ∧ x ≤ nI n then f x.toNatClampNeg else e
section
variable {n a : Nat} {x e : Int32} {f : Nat → Int32}
theorem gP_y (h : a < n) (hn : n ≤ 1000000) : gP n (nI a) f e = f a := by
  unfold gP
  rw [if_pos ⟨nI_pos' (by omega), nI_lt h (by omega)⟩, nI_clamp (n := a) (by omega)]
theorem gP_n (h : ¬ ((0 : Int32) ≤ x ∧ x < nI n)) : gP n x f e = e := if_neg h
theorem gL_y (h : a ≤ n) (hn : n ≤ 1000000) : gL n (nI a) f e = f a := by
  unfold gL
  rw [if_pos ⟨nI_pos' (by omega), nI_le h (by omega)⟩, nI_clamp (n := a) (by omega)]
theorem gL_n (h : ¬ ((0 : Int32) ≤ x ∧ x ≤ nI n)) : gL n x f e = e := if_neg h
theorem gN_y (h0 : 1 ≤ a) (h : a ≤ n) (hn : n ≤ 1000000) : gN n (nI a) f e = f a := by
  unfold gN
  have h1 : (1 : Int32) ≤ nI a := nI_le h0 (by omega)
  rw [if_pos ⟨h1, nI_le h (by omega)⟩, nI_clamp (n := a) (by omega)]
theorem gN_n (h : ¬ ((1 : Int32) ≤ x ∧ x ≤ nI n)) : gN n x f e = e := if_neg h
theorem part_iff : (x = 0 ∨ x = 1) ↔ ((0 : Int32) ≤ x ∧ x ≤ nI 1) := by
  constructor
  · rintro (rfl | rfl)
    · exact ⟨by decide, by decide +kernel⟩
    · exact ⟨by decide, by decide +kernel⟩
  · intro h
    obtain ⟨j, hj, rfl⟩ := nat_ofle h (by decide)
    rcases (show j = 0 ∨ j = 1 by omega) with rfl | rfl
    · exact Or.inl rfl
    · exact Or.inr rfl
theorem part_nat (h : x = 0 ∨ x = 1) : ∃ j : Nat, j ≤ 1 ∧ x = nI j := nat_ofle (part_iff.mp h) (by decide)
theorem nat_ofn {x : Int32} {n : Nat} (h : (1 : Int32) ≤ x ∧ x ≤ nI n) (hn : n < 2 ^ 31) : ∃ j : Nat, 1 ≤ j ∧ j ≤ n ∧ x = nI j := by
  obtain ⟨j, hj, rfl⟩ := nat_ofle1 h hn
  have h1 : (1 : Int32) ≤ nI j := h.1
  exact ⟨j, (nI_leI (a := 1) (b := j) (by decide) (by omega)).mp h1, hj, rfl⟩
end
/-- the notes as bits -/
def ntN (O : Nat → Nat) : Nat → Nat
  | 0 => 0
  | p + 1 => ntN O p + O p * 2 ^ p
theorem ntN_lt {O : Nat → Nat} (h : ∀ j, j < 4 → O j < 2) : ∀ q : Nat, q ≤ 4 → ntN O q < 2 ^ q
  | 0, _ => Nat.lt_of_lt_of_le (Nat.zero_lt_succ 0) (Nat.le_refl 1)
  | q + 1, hq => by
    have ih := ntN_lt h q (by omega)
    have ho := h q (by omega)
    show _ + _ * 2 ^ q < 2 ^ (q + 1)
    have : O q * 2 ^ q ≤ 1 * 2 ^ q := Nat.mul_le_mul_right _ (by omega)
    rw [Nat.pow_succ]
    omega
theorem ntN_cong {O O2 : Nat → Nat} : ∀ q : Nat, (∀ j, j < q → O j = O2 j) → ntN O q = ntN O2 q
  | 0, _ => rfl
  | q + 1, h => by
    show _ + O q * _ = _ + O2 q * _
    rw [h q (by omega), ntN_cong q (fun j hj => h j (by omega))]
theorem ntN_bit {O : Nat → Nat} (h : ∀ j, j < 4 → O j < 2) : ∀ q : Nat, q ≤ 4 → ∀ p, p < q → ntN O q / 2 ^ p % 2 = O p
  | 0, _, p, hp => absurd hp (Nat.not_lt_zero p)
  | q + 1, hq, p, hp => by
    have l := ntN_lt h q (by omega)
    have ho := h q (by omega)
    by_cases e : p = q
    · subst e
      show (ntN O p + O p * 2 ^ p) / 2 ^ p % 2 = O p
      rw [Nat.add_mul_div_right _ _ (Nat.pow_pos (by decide)), Nat.div_eq_of_lt l]
      omega
    · have ih := ntN_bit h q (by omega) p (by omega)
      show (ntN O q + O q * 2 ^ q) / 2 ^ p % 2 = O p
      obtain ⟨m, rfl⟩ : ∃ m, q = p + 1 + m := ⟨q - (p + 1), by omega⟩
      have e2 : O (p + 1 + m) * 2 ^ (p + 1 + m) = (O (p + 1 + m) * 2 ^ m * 2) * 2 ^ p := by
        rw [Nat.pow_add, Nat.pow_succ]
        simp only [Nat.mul_assoc, Nat.mul_comm, Nat.mul_left_comm]
      rw [e2, Nat.add_mul_div_right _ _ (Nat.pow_pos (by decide)), Nat.add_mul_mod_self_right]
      exact ih
theorem xor_d8 {P a k : Nat} (hP : P ≤ 4) (ha : a < d8 P) (hk : k < 3 * P) (h4 : k < 12) : a ^^^ 2 ^ k < d8 P := by
  rw [← d8_two] at *
  exact Nat.xor_lt_two_pow ha (Nat.pow_lt_pow_right (by decide) hk)
/-- the first n places are these numbers -/
def CDn (f : Nat → Int32) (g : Nat → Nat) (n : Nat) : Prop := ∀ j, j < n → f j = nI (g j)
theorem CDn.first {f : Nat → Int32} {g : Nat → Nat} : CDn (upd f 0 (nI (g 0))) g 1 := fun j hj => by rw [show j = 0 by omega, pk_us]
theorem CDn.push {f : Nat → Int32} {g : Nat → Nat} {n d : Nat} (h : CDn f g n) (e : d = g n) : CDn (upd f n (nI d)) g (n + 1) := fun j hj => by
  by_cases q : j = n
  · rw [q, pk_us, e]
  · rw [pk_un q]; exact h j (by omega)
theorem gcd_step (x y : Nat) : Nat.gcd x y = Nat.gcd y (x % y) := by
  rw [Nat.gcd_comm x y, Nat.gcd_rec y x, Nat.gcd_comm]
theorem gcd_ok {a b : Nat} (h : 0 < a) : 0 < Nat.gcd a b ∧ Nat.gcd a b ≤ a := ⟨Nat.gcd_pos_of_pos_left b h, Nat.gcd_le_left b h⟩
theorem CW.cong {f g : Nat → Int32} {T : Nat} {cw : List (Int32 × List Int32)} (h : CW g T cw) (e : ∀ i, 126 ≤ i → f i = g i) : CW f T cw := by
  refine ⟨h.1, h.2.1, ?_⟩
  rcases h.2.2 with a | ⟨t, n, a, b⟩
  · exact Or.inl a
  · exact Or.inr ⟨t, n, a, b.cong (e _ (by omega)) (e _ (by omega)) (fun i hi => e _ (by omega))⟩
theorem yr_eq {f g : Nat → Int32} {Y : Nat} {O : Nat → Nat} (h5 : g 5 = nI Y) (hO : A4 g 122 O) (e : EqN f g) : upd (upd (upd (upd (upd f 5 (nI Y)) 122 (nI (O 0))) 123 (nI (O 1))) 124 (nI (O 2))) 125 (nI (O 3)) = g := by
  funext i
  by_cases h1 : i = 125
  · subst h1; rw [pk_us]; exact (hO 3 (by omega)).symm
  · rw [pk_un h1]
    by_cases h2 : i = 124
    · subst h2; rw [pk_us]; exact (hO 2 (by omega)).symm
    · rw [pk_un h2]
      by_cases h3 : i = 123
      · subst h3; rw [pk_us]; exact (hO 1 (by omega)).symm
      · rw [pk_un h3]
        by_cases h4 : i = 122
        · subst h4; rw [pk_us]; exact (hO 0 (by omega)).symm
        · rw [pk_un h4]
          by_cases h6 : i = 5
          · subst h6; rw [pk_us]; exact h5.symm
          · rw [pk_un h6]; exact e i h6 (by omega)
/-- the calls -/
def tdA (P : Nat) (O : Nat → Nat) (Y nh : Nat) (x : Int32) : Int32 := gL 2 x (fun w => if w = 0 then nI nh else (if w = 1 then nI Y else nI (ntN O P))) (-1)
def ofA (P : Nat) (F : Fk) (O : Nat → Nat) (x y : Int32) : Int32 := gP P x (fun p => gL 3 y (fun w => if w = 0 then nI (F.1 p) else (if w = 1 then nI (F.2.1 p) else (if w = 2 then (if F.1 p = 6 then nI (F.2.2 p) else -5) else nI (O p)))) (-1)) (-1)
def ntA (P : Nat) (O : Nat → Nat) (x : Int32) : Int32 := gP P x (fun p => nI (O p)) (-1)
def ntF (P : Nat) (O : Nat → Nat) (x y : Int32) : Nat → Nat := if (0 : Int32) ≤ x ∧ x < nI P then fS O x.toNatClampNeg (if y = 0 then 0 else 1) else O
theorem ntF_n {P : Nat} {O : Nat → Nat} {x y : Int32} (h : ¬ ((0 : Int32) ≤ x ∧ x < nI P)) : ntF P O x y = O := if_neg h
theorem ntF_y {P p v : Nat} {O : Nat → Nat} {y : Int32} (h : p < P) (h4 : P ≤ 4) (hv : v = (if y = 0 then 0 else 1)) : ntF P O (nI p) y = fS O p v := by
  unfold ntF
  rw [if_pos (npe h h4), nI_clamp (n := p) (by omega), hv]
theorem ntF_lt {P : Nat} {O : Nat → Nat} {x y : Int32} (h : ∀ j, j < 4 → O j < 2) : ∀ j, j < 4 → ntF P O x y j < 2 := by
  unfold ntF
  split
  · exact fS_lt h (by split <;> omega)
  · exact h
def ydA (P Y : Nat) (x : Int32) : Int32 := gP (d8 P) x (fun _ => nI Y) (-2)
def ydY (P Y : Nat) (x : Int32) : Nat := if (0 : Int32) ≤ x ∧ x < nI (d8 P) then x.toNatClampNeg else Y
theorem ydY_n {P Y : Nat} {x : Int32} (h : ¬ ((0 : Int32) ≤ x ∧ x < nI (d8 P))) : ydY P Y x = Y := if_neg h
theorem ydY_y {P Y d : Nat} (h : d < d8 P) (h4 : P ≤ 4) : ydY P Y (nI d) = d := by
  have := d8_le h4
  unfold ydY
  rw [if_pos (npd h this), nI_clamp (n := d) (by omega)]
theorem ydY_lt {P Y : Nat} {x : Int32} (h4 : P ≤ 4) (h : Y < d8 P) : ydY P Y x < d8 P := by
  have := d8_le h4
  unfold ydY
  split
  · rename_i q
    obtain ⟨j, hj, rfl⟩ := nat_of q (by omega)
    rw [nI_clamp (n := j) (by omega)]; exact hj
  · exact h
section
variable (P : Nat) (F : Fk) (O : Nat → Nat) (Y : Nat) (E : Ev)
def byA (d p h w : Int32) : Int32 := gP P p (fun p => gP 3 h (fun h => gL 2 w (fun w => gP (d8 P) d (fun d => if w = 0 then wS E (F.1 p) O p (siN P d p) h else (if w = 1 then nI (wd F O E p (siN P d p) (siN P Y p) h) else gS E (F.1 p) O p (siN P d p) 3)) (-10002)) (-10001)) (-10001)) (-10001)
def dyA (d w : Int32) : Int32 := gL 2 w (fun w => gP (d8 P) d (fun d => if w = 0 then foD P F O Y E d else (if w = 1 then nI (anN P F O Y E d P) else gaN P F O E d P)) (-10002)) (-10001)
def alA (w : Int32) : Int32 := gL 4 w (fun w => if w = 0 then nI (seD P F O Y E).1 else (if w = 1 then (seD P F O Y E).2.1 else (if w = 2 then (seD P F O Y E).2.2.1 else (if w = 3 then (seD P F O Y E).2.2.2.1 else (if (seD P F O Y E).1 = 0 then -5 else (seD P F O Y E).2.2.2.2))))) (-10001)
def onA (d p h w : Int32) : Int32 := gP P p (fun p => gP 3 h (fun h => gL 1 w (fun w => gP (d8 P) d (fun d => onN P F O Y E w 61 0 (d ^^^ 2 ^ (3 * p + h))) (-2)) (-1)) (-1)) (-1)
def agA (d w : Int32) : Int32 := gL 1 w (fun w => gP (d8 P) d (fun d => agN P F O Y E d w 200 1) (-2)) (-1)
def yrA (nh : Nat) (n w : Int32) : Int32 := gL 1 w (fun w => gN 30 n (fun n => if w = 0 then (yrN P F O Y E nh n).2.2.1 else nI (yrN P F O Y E nh n).2.2.2) (-10002)) (-10001)
def btA (p h w : Int32) : Int32 := gP P p (fun p => gP 3 h (fun h => gL 1 w (fun w => beN P F O Y E (3 * p + h) w) (-1)) (-1)) (-1)
def seA (p w : Int32) : Int32 := gP P p (fun p => gL 1 w (fun w => scA P F O Y E p w) (-1)) (-1)
end
end CAP
