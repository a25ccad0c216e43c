section CP
theorem dig_in {d : Nat} (h : d ≤ 9) : (48 : Int32) ≤ nI (48 + d) ∧ nI (48 + d) ≤ (57 : Int32) := by
  have a : (48 : Int32).toInt = 48 := by decide
  have b : (57 : Int32).toInt = 57 := by decide
  have hj : (nI (48 + d)).toInt = ((48 + d : Nat) : Int) := nI_toInt (by omega)
  refine ⟨le_i.mpr ?_, le_i.mpr ?_⟩
  · rw [a, hj]; omega
  · rw [hj, b]; omega
end CP
