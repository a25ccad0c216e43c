section CP
theorem dig_in {d : Nat} (h : d ≤ 9) : (48 : Int32) ≤ nI (48 + d) ∧ nI (48 + d) ≤ (57 : Int32) := by
  have a : (48 : Int32).toInt = 48 := by decide
  have b : (57 : Int32).toInt = 57 := by decide
  have hj : (nI (48 + d)).toInt = ((48 + d : Nat) : Int) := nI_toInt (by omega)
  refine ⟨le_i.mpr ?_, le_i.mpr ?_⟩
  · rw [a, hj]; omega
  · rw [hj, b]; omega
end CP
section CQT
/-- but for the tape's count and the town that is read the rows are the same -/
def EqT (f g : Nat → Int32) (T : Nat) : Prop := ∀ i, i ≠ 1 → i ≠ 3 → i ≠ 4 → i ≠ 136 + T → i ≠ 141 + T → (i < 146 + 140 * T ∨ 286 + 140 * T ≤ i) → f i = g i
theorem EqT.rf {f : Nat → Int32} {T : Nat} : EqT f f T := fun _ _ _ _ _ _ _ => rfl
theorem EqT.trans {f g h : Nat → Int32} {T : Nat} (a : EqT f g T) (b : EqT g h T) : EqT f h T := fun i h1 h2 h3 h4 h5 h6 => (a i h1 h2 h3 h4 h5 h6).trans (b i h1 h2 h3 h4 h5 h6)
theorem EqT.step {f g : Nat → Int32} {T m : Nat} {x y : Int32} (a : EqT f g T) (hm : m < 140) : EqT (upd (upd f (146 + 140 * T + m) x) (141 + T) y) g T := fun i h1 h2 h3 h4 h5 h6 => (pk_un h5).trans ((pk_un (by omega)).trans (a i h1 h2 h3 h4 h5 h6))
theorem EqT.notes {f g : Nat → Int32} {T : Nat} {x : Int32} (a : EqT f g T) : EqT (upd f (136 + T) x) g T := fun i h1 h2 h3 h4 h5 h6 => (pk_un h4).trans (a i h1 h2 h3 h4 h5 h6)
theorem EqT.many {f g : Nat → Int32} {T : Nat} {x : Int32} (a : EqT f g T) : EqT (upd f (141 + T) x) g T := fun i h1 h2 h3 h4 h5 h6 => (pk_un h5).trans (a i h1 h2 h3 h4 h5 h6)
theorem EqT.three {f g : Nat → Int32} {T : Nat} {x : Int32} (a : EqT f g T) : EqT (upd f 3 x) g T := fun i h1 h2 h3 h4 h5 h6 => (pk_un h2).trans (a i h1 h2 h3 h4 h5 h6)
theorem EqT.two {f g : Nat → Int32} {T : Nat} {x y : Int32} (a : EqT f g T) : EqT (upd (upd f 1 x) 4 y) g T := fun i h1 h2 h3 h4 h5 h6 => (pk_un h3).trans ((pk_un h1).trans (a i h1 h2 h3 h4 h5 h6))
theorem EqT.tape {f g : Nat → Int32} {T : Nat} (a : EqT f g T) : ∀ i, 10 ≤ i → i < 110 → f i = g i := fun i h1 h2 => a i (by omega) (by omega) (by omega) (by omega) (by omega) (by omega)
end CQT
