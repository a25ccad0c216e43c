/-! kinds, vs and rows that are set for a while -/
section CSU
def kS (F : Fk) (j k : Nat) : Fk := (fS F.1 j k, F.2.1, F.2.2)
def vS (F : Fk) (j k : Nat) : Fk := (F.1, fS F.2.1 j k, F.2.2)
def rS (F : Fk) (j k : Nat) : Fk := (F.1, F.2.1, fS F.2.2 j k)
section
variable {f : Nat → Int32} {F : Fk} {j k : Nat}
theorem AF.putK (h : AF f F) (hj : j < 4) : AF (upd f (110 + j) (nI k)) (kS F j k) := ⟨h.1.put, h.2.1.un (by omega), h.2.2.un (by omega)⟩
theorem AF.putV (h : AF f F) (hj : j < 4) : AF (upd f (114 + j) (nI k)) (vS F j k) := ⟨h.1.un (by omega), h.2.1.put, h.2.2.un (by omega)⟩
theorem AF.putR (h : AF f F) (hj : j < 4) : AF (upd f (118 + j) (nI k)) (rS F j k) := ⟨h.1.un (by omega), h.2.1.un (by omega), h.2.2.put⟩
theorem FB.putK (h : FB F) (hk : k < 7) : FB (kS F j k) := ⟨fS_lt h.1 hk, h.2.1, h.2.2⟩
theorem FB.putV (h : FB F) (hk : k < 10) : FB (vS F j k) := ⟨h.1, fS_lt h.2.1 hk, h.2.2⟩
theorem FB.putR (h : FB F) (hk : k < 8) : FB (rS F j k) := ⟨h.1, h.2.1, fS_lt h.2.2 hk⟩
end
/-- of those whose bit is set the row is told, the first q are done -/
def SUk (f : Nat → Int32) (P : Nat) (F : Fk) (c s q : Nat) : Prop := A4 f 114 F.2.1 ∧ ∀ j, j < 4 → (j < q ∨ P ≤ j) → f (110 + j) = nI ((tlF F c s P).1 j) ∧ f (118 + j) = nI ((tlF F c s P).2.2 j)
section
variable {f : Nat → Int32} {P : Nat} {F : Fk} {c s q : Nat}
theorem tlF_hi {j : Nat} (h : P ≤ j) : (tlF F c s P).1 j = F.1 j ∧ (tlF F c s P).2.2 j = F.2.2 j := ⟨if_neg (fun e => by omega), if_neg (fun e => by omega)⟩
theorem tlF_1 {j : Nat} (h : j < P) (e : s / 2 ^ j % 2 = 1) : (tlF F c s P).1 j = 6 ∧ (tlF F c s P).2.2 j = c / 2 ^ (3 * j) % 8 := by
  have e2 : (tlF F c s P).2.2 j = c / 8 ^ j % 8 := if_pos ⟨h, e⟩
  rw [e2, eight]
  exact ⟨if_pos ⟨h, e⟩, rfl⟩
theorem tlF_n {j : Nat} (e : ¬ s / 2 ^ j % 2 = 1) : (tlF F c s P).1 j = F.1 j ∧ (tlF F c s P).2.2 j = F.2.2 j := ⟨if_neg (fun h => e h.2), if_neg (fun h => e h.2)⟩
theorem SUk.zero (h : AF f F) : SUk f P F c s 0 := ⟨h.2.1, fun j hj h2 => by
  have e := tlF_hi (F := F) (c := c) (s := s) (P := P) (j := j) (by omega)
  rw [e.1, e.2]
  exact ⟨h.1 j hj, h.2.2 j hj⟩⟩
theorem SUk.re {s2 : Nat} (h : SUk f P F c s q) : SUk f P F c s2 0 := ⟨h.1, fun j hj h2 => by
  have e := tlF_hi (F := F) (c := c) (s := s) (P := P) (j := j) (by omega)
  have e2 := tlF_hi (F := F) (c := c) (s := s2) (P := P) (j := j) (by omega)
  have a := h.2 j hj (by omega)
  rw [e2.1, e2.2]
  rw [e.1, e.2] at a
  exact a⟩
theorem SUk.put1 (h : SUk f P F c s q) (hq : q < P) (h4 : P ≤ 4) (e : s / 2 ^ q % 2 = 1) : SUk (upd (upd f (110 + q) (nI 6)) (118 + q) (nI (c / 2 ^ (3 * q) % 8))) P F c s (q + 1) := by
  refine ⟨(h.1.un (by omega)).un (by omega), fun j hj h2 => ?_⟩
  by_cases n : j = q
  · subst n
    have t := tlF_1 (F := F) (c := c) hq e
    rw [t.1, t.2, pk_un (by omega), pk_us, pk_us]
    exact ⟨rfl, rfl⟩
  · rw [pk_un (by omega), pk_un (by omega), pk_un (by omega), pk_un (by omega)]
    exact h.2 j hj (by omega)
theorem SUk.put0 (h : SUk f P F c s q) (hq : q < P) (h4 : P ≤ 4) (e : ¬ s / 2 ^ q % 2 = 1) : SUk (upd (upd f (110 + q) (nI (F.1 q))) (118 + q) (nI (F.2.2 q))) P F c s (q + 1) := by
  refine ⟨(h.1.un (by omega)).un (by omega), fun j hj h2 => ?_⟩
  by_cases n : j = q
  · subst n
    have t := tlF_n (F := F) (c := c) (P := P) e
    rw [t.1, t.2, pk_un (by omega), pk_us, pk_us]
    exact ⟨rfl, rfl⟩
  · rw [pk_un (by omega), pk_un (by omega), pk_un (by omega), pk_un (by omega)]
    exact h.2 j hj (by omega)
theorem SUk.done (h : SUk f P F c s P) : AF f (tlF F c s P) := ⟨fun j hj => (h.2 j hj (by omega)).1, h.1, fun j hj => (h.2 j hj (by omega)).2⟩
end
theorem cnt_eq {x : Nat} : x / 2 ^ 0 % 2 + x / 2 ^ 1 % 2 + x / 2 ^ 2 % 2 + x / 2 ^ 3 % 2 = bN4 x := by
  show x / 1 % 2 + x / 2 % 2 + x / 4 % 2 + x / 8 % 2 = _
  rw [Nat.div_one]
  rfl
theorem bN4_le (x : Nat) : bN4 x ≤ 4 := by
  unfold bN4
  omega
theorem dB_00 {a b k l : Nat} (h : ¬ dB a k = 1) (h2 : ¬ dB b l = 1) : dB a k = dB b l := by
  have := dB_lt a k
  have := dB_lt b l
  omega
theorem scF_k {F : Fk} {p : Nat} : kS F p 3 = scF F p := rfl
end CSU
