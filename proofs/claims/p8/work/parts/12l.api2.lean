/-! more of what the calls answer -/
section CAQ
theorem out2 {x : Int32} (h0 : ¬ x = (0 : Int32)) (h1 : ¬ x = (1 : Int32)) (h2 : ¬ x = (2 : Int32)) : ¬ ((0 : Int32) ≤ x ∧ x ≤ nI 2) := fun h => by
  obtain ⟨j, hj, rfl⟩ := nat_ofle h (by decide)
  rcases (show j = 0 ∨ j = 1 ∨ j = 2 by omega) with rfl | rfl | rfl
  · exact h0 rfl
  · exact h1 rfl
  · exact h2 rfl
theorem out3 {x : Int32} (h0 : ¬ x = (0 : Int32)) (h1 : ¬ x = (1 : Int32)) (h2 : ¬ x = (2 : Int32)) (h3 : ¬ x = (3 : Int32)) : ¬ ((0 : Int32) ≤ x ∧ x ≤ nI 3) := fun h => by
  obtain ⟨j, hj, rfl⟩ := nat_ofle h (by decide)
  rcases (show j = 0 ∨ j = 1 ∨ j = 2 ∨ j = 3 by omega) with rfl | rfl | rfl | rfl
  · exact h0 rfl
  · exact h1 rfl
  · exact h2 rfl
  · exact h3 rfl
theorem out4 {x : Int32} (h0 : ¬ x = (0 : Int32)) (h1 : ¬ x = (1 : Int32)) (h2 : ¬ x = (2 : Int32)) (h3 : ¬ x = (3 : Int32)) (h4 : ¬ x = (4 : Int32)) : ¬ ((0 : Int32) ≤ x ∧ x ≤ nI 4) := fun h => by
  obtain ⟨j, hj, rfl⟩ := nat_ofle h (by decide)
  rcases (show j = 0 ∨ j = 1 ∨ j = 2 ∨ j = 3 ∨ j = 4 by omega) with rfl | rfl | rfl | rfl | rfl
  · exact h0 rfl
  · exact h1 rfl
  · exact h2 rfl
  · exact h3 rfl
  · exact h4 rfl
/-- count -/
def cntA (P T B S rl : Nat) (x : Int32) : Int32 := gL 4 x (fun w => if w = 0 then nI P else (if w = 1 then nI T else (if w = 2 then nI B else (if w = 3 then nI S else nI rl)))) (-1)
/-- feed -/
def fdA (S : Nat) (x : Int32) : Int32 := if (0 : Int32) ≤ x ∧ x ≤ (127 : Int32) then (if S = 100 then (-4) else nI (S + 1)) else (-2)
def fdS (S : Nat) (x : Int32) : Nat := if (0 : Int32) ≤ x ∧ x ≤ (127 : Int32) then (if S = 100 then S else S + 1) else S
def fdV (sv : Nat → Int32) (S : Nat) (x : Int32) : Nat → Int32 := if (0 : Int32) ≤ x ∧ x ≤ (127 : Int32) then (if S = 100 then sv else upd (upd sv (10 + S) x) 3 (nI (S + 1))) else sv
def fdC (ft : Nat → Int32) (S : Nat) (x : Int32) : Nat → Int32 := if (0 : Int32) ≤ x ∧ x ≤ (127 : Int32) then (if S = 100 then ft else upd ft S x) else ft
section
variable {S : Nat} {x : Int32} {sv ft : Nat → Int32}
theorem fd_1 (h : ¬ ((0 : Int32) ≤ x ∧ x ≤ (127 : Int32))) : fdA S x = (-2) ∧ fdS S x = S ∧ fdV sv S x = sv ∧ fdC ft S x = ft := ⟨if_neg h, if_neg h, if_neg h, if_neg h⟩
theorem fd_2 (h : (0 : Int32) ≤ x ∧ x ≤ (127 : Int32)) (h2 : S = 100) : fdA S x = (-4) ∧ fdS S x = S ∧ fdV sv S x = sv ∧ fdC ft S x = ft := ⟨(if_pos h).trans (if_pos h2), (if_pos h).trans (if_pos h2), (if_pos h).trans (if_pos h2), (if_pos h).trans (if_pos h2)⟩
theorem fd_3 (h : (0 : Int32) ≤ x ∧ x ≤ (127 : Int32)) (h2 : ¬ S = 100) : fdA S x = nI (S + 1) ∧ fdS S x = S + 1 ∧ fdV sv S x = upd (upd sv (10 + S) x) 3 (nI (S + 1)) ∧ fdC ft S x = upd ft S x := ⟨(if_pos h).trans (if_neg h2), (if_pos h).trans (if_neg h2), (if_pos h).trans (if_neg h2), (if_pos h).trans (if_neg h2)⟩
theorem nle_127 {a : Nat} (h : a ≤ 127) : (0 : Int32) ≤ nI a ∧ nI a ≤ (127 : Int32) := ⟨nI_pos' (by omega), nI_le h (by decide)⟩
theorem fdS_le (h : S ≤ 100) : fdS S x ≤ 100 := by
  unfold fdS
  split
  · split <;> omega
  · exact h
theorem fdV_fr (hS : S ≤ 100) {i : Nat} (h : i ≠ 3) (h2 : i < 10 ∨ 110 ≤ i) : fdV sv S x i = sv i := by
  unfold fdV
  split
  · split
    · rfl
    · rw [pk_un h, pk_un (by omega)]
  · rfl
/-- the tapes are the same -/
def TPr (ft sv : Nat → Int32) (S : Nat) : Prop := ∀ i, i < S → ft i = sv (10 + i)
theorem TPr.feed (hS : S ≤ 100) (h : TPr ft sv S) : TPr (fdC ft S x) (fdV sv S x) (fdS S x) := by
  unfold fdC fdV fdS
  split
  · split
    · exact h
    · intro j hj
      by_cases e : j = S
      · subst e; rw [pk_us, pk_un (by omega), pk_us]
      · rw [pk_un e, pk_un (by omega), pk_un (by omega)]; exact h j (by omega)
  · exact h
theorem TPr.cong {ft gt sv sw : Nat → Int32} {S : Nat} (h : TPr ft sv S) (e1 : ∀ i, i < S → gt i = ft i) (e2 : ∀ i, 10 ≤ i → i < 10 + S → sw i = sv i) : TPr gt sw S := fun j hj => (e1 j hj).trans ((h j hj).trans (e2 _ (by omega) (by omega)).symm)
end
/-- a new one's note -/
def perO (P : Nat) (O : Nat → Nat) (x y : Int32) : Nat → Nat := if (0 : Int32) ≤ x ∧ x ≤ (6 : Int32) then (if (0 : Int32) ≤ y ∧ y ≤ (9 : Int32) then (if nI P = (4 : Int32) then O else fS O P 0) else O) else O
theorem perO_1 {P : Nat} {O : Nat → Nat} {x y : Int32} (h : ¬ ((0 : Int32) ≤ x ∧ x ≤ (6 : Int32))) : perO P O x y = O := if_neg h
theorem perO_2 {P : Nat} {O : Nat → Nat} {x y : Int32} (h : (0 : Int32) ≤ x ∧ x ≤ (6 : Int32)) (h2 : ¬ ((0 : Int32) ≤ y ∧ y ≤ (9 : Int32))) : perO P O x y = O := (if_pos h).trans (if_neg h2)
theorem perO_3 {P : Nat} {O : Nat → Nat} {x y : Int32} (h : (0 : Int32) ≤ x ∧ x ≤ (6 : Int32)) (h2 : (0 : Int32) ≤ y ∧ y ≤ (9 : Int32)) (h3 : P = 4) : perO P O x y = O := (if_pos h).trans ((if_pos h2).trans (if_pos (congrArg nI h3)))
theorem perO_4 {P : Nat} {O : Nat → Nat} {a b : Nat} (h : a ≤ 6) (h2 : b ≤ 9) (h3 : P < 4) : perO P O (nI a) (nI b) = fS O P 0 := (if_pos (nle_6 h)).trans ((if_pos (nle_9 h2)).trans (if_neg (n4_ne h3)))
theorem perO_lt {P : Nat} {O : Nat → Nat} {x y : Int32} (h : ∀ j, j < 4 → O j < 2) : ∀ j, j < 4 → perO P O x y j < 2 := by
  unfold perO
  split
  · split
    · split
      · exact h
      · exact fS_lt h (by decide)
    · exact h
  · exact h
theorem A4.per {sv : Nat → Int32} {O : Nat → Nat} {P : Nat} {x y z w : Int32} (h : A4 sv 122 O) (hP : P < 4) : A4 (upd (upd (upd (upd (upd sv (110 + P) x) (114 + P) y) (118 + P) z) (122 + P) (nI 0)) 0 w) 122 (fS O P 0) := ((((h.un (by omega)).un (by omega)).un (by omega)).put (v := 0)).un (by omega)
theorem shn : ∀ a : Fin 2, ∀ k : Fin 4, nI a.val <<< (nI k.val &&& 31) = nI (a.val * 2 ^ k.val) := by decide +kernel
theorem or_note {n o q : Nat} (hn : n < 2 ^ q) : n ||| o * 2 ^ q = n + o * 2 ^ q := by
  have := Nat.two_pow_add_eq_or_of_lt hn o
  rw [Nat.or_comm, Nat.mul_comm o, ← this, Nat.add_comm]
theorem ntN_s {O : Nat → Nat} (h : ∀ j, j < 4 → O j < 2) {q : Nat} (hq : q < 4) : ntN O q ||| O q * 2 ^ q = ntN O (q + 1) := or_note (ntN_lt h q (by omega))
end CAQ
theorem gL_c {n a : Nat} {x e : Int32} {f : Nat → Int32} (hx : x = nI a) (h : a ≤ n) (hn : n ≤ 1000000) : gL n x f e = f a := by
  rw [hx]; exact gL_y h hn
