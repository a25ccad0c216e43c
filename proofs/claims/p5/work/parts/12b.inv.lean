section CI4
theorem nat_ofle {x : Int32} {n : Nat} (h : 0 ≤ x ∧ x ≤ nI n) (hn : n < 2 ^ 31) : ∃ j : Nat, j ≤ n ∧ x = nI j := by
  have h2 : (nI n).toInt = n := nI_toInt hn
  have h0 : (0 : Int32).toInt = 0 := by decide
  have a := le_i.mp h.1
  have b := le_i.mp h.2
  obtain ⟨j, hj, rfl⟩ := nI_of (x := x) (fun q => by have := lt_i.mp q; omega)
  have h3 : (nI j).toInt = j := nI_toInt hj
  exact ⟨j, by omega, rfl⟩
theorem nat_ofle1 {x : Int32} {n : Nat} (h : 1 ≤ x ∧ x ≤ nI n) (hn : n < 2 ^ 31) : ∃ j : Nat, j ≤ n ∧ x = nI j := by
  have h0 : (0 : Int32).toInt = 0 := by decide
  have h1 : (1 : Int32).toInt = 1 := by decide
  exact nat_ofle ⟨le_i.mpr (by have := le_i.mp h.1; omega), h.2⟩ hn
theorem EqN.rf {f : Nat → Int32} : EqN f f := fun _ _ _ => rfl
end CI4
