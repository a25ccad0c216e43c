section CI4
theorem nat_ofle {x : Int32} {n : Nat} (h : 0 ≤ x ∧ x ≤ nI n) (hn : n < 2 ^ 31) : ∃ j : Nat, j ≤ n ∧ x = nI j := by
  have h2 : (nI n).toInt = n := nI_toInt hn
  have h0 : (0 : Int32).toInt = 0 := by decide
  have a := le_i.mp h.1
  have b := le_i.mp h.2
  obtain ⟨j, hj, rfl⟩ := nI_of (x := x) (fun q => by have := lt_i.mp q; omega)
  have h3 : (nI j).toInt = j := nI_toInt hj
  exact ⟨j, by omega, rfl⟩
theorem nat_ofle1 {x : Int32} {n : Nat} (h : 1 ≤ x ∧ x ≤ nI n) (hn : n < 2 ^ 31) : ∃ j : Nat, j ≤ n ∧ x = nI j := by
  have h0 : (0 : Int32).toInt = 0 := by decide
  have h1 : (1 : Int32).toInt = 1 := by decide
  exact nat_ofle ⟨le_i.mpr (by have := le_i.mp h.1; omega), h.2⟩ hn
theorem EqN.rf {f : Nat → Int32} : EqN f f := fun _ _ _ => rfl
end CI4
theorem sh1 : ∀ P : Nat, P < 5 → (1 : Int32) <<< (nI P &&& 31) = nI (2 ^ P) ∧ 2 ^ P ≤ 16 := by decide +kernel
theorem s31 : ∀ n : Nat, n < 32 → ((nI n &&& 31).toBitVec.smod 32).toNat = n := by decide +kernel
theorem shrN {a k : Nat} (ha : a < 2 ^ 31) (hk : k < 32) : nI a >>> (nI k &&& 31) = nI (a / 2 ^ k) := pk_shrN ha _ k (s31 k hk)
theorem agr_s {f g : Nat → Int32} {j : Nat} (h : ∀ i, i < j → f i = g i) : ∀ i, i < j + 1 → upd f j (g j) i = g i := fun i hi => by
  by_cases e : i = j
  · rw [e, pk_us]
  · rw [pk_un e]; exact h i (by omega)
theorem trc1 {x : Int32} {r : Nat} (h : 0 ≤ x ∧ x ≤ nI r - 1) (hr : r < 20) : vp_in x 20 := by
  have h1 : (nI r - 1).toInt = (r : Int) - 1 := pk_sub_toInt (a := r) (b := 1) (by omega) (by decide)
  have h0 : (0 : Int32).toInt = 0 := by decide
  have a := le_i.mp h.1
  have b := le_i.mp h.2
  exact vp_in_iff.mpr (by omega)
theorem trc2 {x : Int32} (h : 0 ≤ x ∧ x ≤ (19 : Int32)) : vp_in x 20 := by
  have h1 : (19 : Int32).toInt = 19 := by decide
  have h0 : (0 : Int32).toInt = 0 := by decide
  have a := le_i.mp h.1
  have b := le_i.mp h.2
  exact vp_in_iff.mpr (by omega)
