section CXL
theorem vin_of2 {i k : Int32} {n : Nat} (hk : k.toInt = n) (h0 : (0 : Int32) ≤ i) (h1 : i < k) : vp_in i n := by
  have z : (0 : Int32).toInt = 0 := by decide
  have a := le_i.mp h0
  have b := lt_i.mp h1
  obtain ⟨j, hj, rfl⟩ := nI_of (x := i) (fun q => by have := lt_i.mp q; omega)
  rw [nI_toInt hj] at b
  have hk2 := Int32.toInt_lt k
  exact vp_in_nI (n := j) (by omega) (by omega)
theorem max1_ne (x : Int32) : (if x < (1 : Int32) then (1 : Int32) else x) ≠ 0 := by
  split
  · decide
  · rename_i h
    intro e
    rw [e] at h
    exact h (by decide)
theorem per_n4 {P : Nat} {x : Int32} (hP4 : P ≤ 4) (c : ¬ nI P ≤ x) : ¬ (4 : Int32) ≤ x := by
  have z : (4 : Int32).toInt = 4 := by decide
  have hp : (nI P).toInt = P := nI_toInt (by omega)
  intro h
  have a := le_i.mp h
  exact c (le_i.mpr (by omega))
theorem has_t {x y : Int32} (c0 : ¬ x < 0) (c1 : ¬ y ≤ x) : 0 ≤ x ∧ x < y := ⟨Int32.not_lt.mp c0, Int32.not_le.mp c1⟩
theorem has_f1 {x y : Int32} (c : x < 0) : ¬ (0 ≤ x ∧ x < y) := fun h => Int32.not_le.mpr c h.1
theorem has_f2 {x y : Int32} (c : y ≤ x) : ¬ (0 ≤ x ∧ x < y) := fun h => Int32.not_lt.mpr c h.2
theorem max0_nat (x : Int32) : ∃ n : Nat, n < 2147483648 ∧ (if x < (0 : Int32) then (0 : Int32) else x) = nI n := by
  split
  · exact ⟨0, by decide, rfl⟩
  · rename_i h
    obtain ⟨j, hj, e⟩ := nI_of (x := x) h
    exact ⟨j, hj, e⟩
theorem cpy0 {f g : Nat → Int32} {i : Nat} (h : i < 4) : va_cpy f g ((0 : Int32)).toNatClampNeg ((0 : Int32)).toNatClampNeg ((4 : Int32)).toNatClampNeg i = f i := by
  show (if _ then _ else _) = _
  rw [if_pos ⟨Nat.zero_le _, (by exact h)⟩]
  simp
def rf5 (t1 t2 t3 t4 t5 : Nat) : Nat → Option Nat := va_up (va_up (va_up (va_up (va_up (fun _ => none) ((0 : Int32)).toNatClampNeg (some t1)) ((1 : Int32)).toNatClampNeg (some t2)) ((2 : Int32)).toNatClampNeg (some t3)) ((3 : Int32)).toNatClampNeg (some t4)) ((4 : Int32)).toNatClampNeg (some t5)
/-- the town that holds -/
def nwT (tw : Int32) (an t1 t2 t3 t4 t5 : Nat) : Nat := if tw - 1 = 0 then t1 else if tw - 1 = 1 then t2 else if tw - 1 = 2 then t3 else if tw - 1 = 3 then t4 else if tw - 1 = 4 then t5 else an
theorem nwT_or (tw : Int32) (an t1 t2 t3 t4 t5 : Nat) : an = nwT tw an t1 t2 t3 t4 t5 ∨ t1 = nwT tw an t1 t2 t3 t4 t5 ∨ t2 = nwT tw an t1 t2 t3 t4 t5 ∨ t3 = nwT tw an t1 t2 t3 t4 t5 ∨ t4 = nwT tw an t1 t2 t3 t4 t5 ∨ t5 = nwT tw an t1 t2 t3 t4 t5 := by
  unfold nwT
  split
  · exact Or.inr (Or.inl rfl)
  split
  · exact Or.inr (Or.inr (Or.inl rfl))
  split
  · exact Or.inr (Or.inr (Or.inr (Or.inl rfl)))
  split
  · exact Or.inr (Or.inr (Or.inr (Or.inr (Or.inl rfl))))
  split
  · exact Or.inr (Or.inr (Or.inr (Or.inr (Or.inr rfl))))
  · exact Or.inl rfl
theorem nwT_0 {tw : Int32} {an t1 t2 t3 t4 t5 : Nat} (e : tw - 1 = 0) : nwT tw an t1 t2 t3 t4 t5 = t1 := if_pos e
theorem nwT_1 {tw : Int32} {an t1 t2 t3 t4 t5 : Nat} (e : tw - 1 = 1) : nwT tw an t1 t2 t3 t4 t5 = t2 := by unfold nwT; rw [if_neg (by rw [e]; decide), if_pos e]
theorem nwT_2 {tw : Int32} {an t1 t2 t3 t4 t5 : Nat} (e : tw - 1 = 2) : nwT tw an t1 t2 t3 t4 t5 = t3 := by unfold nwT; rw [if_neg (by rw [e]; decide), if_neg (by rw [e]; decide), if_pos e]
theorem nwT_3 {tw : Int32} {an t1 t2 t3 t4 t5 : Nat} (e : tw - 1 = 3) : nwT tw an t1 t2 t3 t4 t5 = t4 := by unfold nwT; rw [if_neg (by rw [e]; decide), if_neg (by rw [e]; decide), if_neg (by rw [e]; decide), if_pos e]
theorem nwT_4 {tw : Int32} {an t1 t2 t3 t4 t5 : Nat} (e : tw - 1 = 4) : nwT tw an t1 t2 t3 t4 t5 = t5 := by unfold nwT; rw [if_neg (by rw [e]; decide), if_neg (by rw [e]; decide), if_neg (by rw [e]; decide), if_neg (by rw [e]; decide), if_pos e]
theorem nwT_lo {tw : Int32} {an t1 t2 t3 t4 t5 : Nat} (h : tw - 1 < 0) : nwT tw an t1 t2 t3 t4 t5 = an := by
  have q : ∀ k : Int32, 0 ≤ k → ¬ tw - 1 = k := fun k hk e => Int32.not_le.mpr (e ▸ h) hk
  unfold nwT
  rw [if_neg (q 0 (by decide)), if_neg (q 1 (by decide)), if_neg (q 2 (by decide)), if_neg (q 3 (by decide)), if_neg (q 4 (by decide))]
theorem nwT_hi {tw : Int32} {an t1 t2 t3 t4 t5 : Nat} (h : (5 : Int32) ≤ tw - 1) : nwT tw an t1 t2 t3 t4 t5 = an := by
  have q : ∀ k : Int32, k < 5 → ¬ tw - 1 = k := fun k hk e => Int32.not_lt.mpr (e ▸ h) hk
  unfold nwT
  rw [if_neg (q 0 (by decide)), if_neg (q 1 (by decide)), if_neg (q 2 (by decide)), if_neg (q 3 (by decide)), if_neg (q 4 (by decide))]
end CXL
section CXM
theorem cpy10 {f g : Nat → Int32} {i : Nat} (h : i < 10) : va_cpy f g ((0 : Int32)).toNatClampNeg ((0 : Int32)).toNatClampNeg ((10 : Int32)).toNatClampNeg i = f i := by
  show (if _ then _ else _) = _
  rw [if_pos ⟨Nat.zero_le _, (by exact h)⟩]
  simp
theorem cpy100 {f g : Nat → Int32} {i : Nat} (h : i < 100) : va_cpy f g ((0 : Int32)).toNatClampNeg ((0 : Int32)).toNatClampNeg ((100 : Int32)).toNatClampNeg i = f i := by
  show (if _ then _ else _) = _
  rw [if_pos ⟨Nat.zero_le _, (by exact h)⟩]
  simp
theorem AF.init {f : Nat → Int32} (h : ∀ i, i ≠ 4 → f i = 0) : AF f F0k := ⟨fun j hj => h _ (by omega), fun j hj => h _ (by omega), fun j hj => h _ (by omega)⟩
theorem CF.zero : CF (fun _ => 0) (fun _ => 0) (fun _ => 0) F0k := ⟨fun _ _ => rfl, fun _ _ => rfl, fun _ _ => rfl⟩
end CXM
