/-! days: what each would do, which stand -/
section CDY
def dB (d k : Nat) : Nat := d / 2 ^ k % 2
theorem dB_lt (d k : Nat) : dB d k < 2 := Nat.mod_lt _ (by decide)
/-- how many of the first q others do it -/
def oN (d p h : Nat) : Nat → Nat
  | 0 => 0
  | q + 1 => oN d p h q + (if q = p then 0 else dB d (3 * q + h))
section
variable {d p h q : Nat}
theorem oN_0 (e : q = p) : oN d p h (q + 1) = oN d p h q := by
  show _ + _ = _
  rw [if_pos e]; rfl
theorem oN_1 (e : ¬ q = p) (e2 : dB d (3 * q + h) = 1) : oN d p h (q + 1) = oN d p h q + 1 := by
  show _ + _ = _
  rw [if_neg e, e2]
theorem oN_2 (e : ¬ q = p) (e2 : ¬ dB d (3 * q + h) = 1) : oN d p h (q + 1) = oN d p h q := by
  show _ + _ = _
  have := dB_lt d (3 * q + h)
  rw [if_neg e, show dB d (3 * q + h) = 0 by omega]; rfl
end
theorem oN_le (d p h : Nat) : ∀ q : Nat, oN d p h q ≤ q ∧ (p < q → oN d p h q + 1 ≤ q)
  | 0 => ⟨Nat.le_refl _, fun h => absurd h (Nat.not_lt_zero p)⟩
  | q + 1 => by
    have ih := oN_le d p h q
    have hb := dB_lt d (3 * q + h)
    show oN d p h q + (if q = p then 0 else dB d (3 * q + h)) ≤ q + 1 ∧ (p < q + 1 → oN d p h q + (if q = p then 0 else dB d (3 * q + h)) + 1 ≤ q + 1)
    split
    · omega
    · omega
theorem oN_3 {d p h P : Nat} (hp : p < P) (hP : P ≤ 4) : oN d p h P ≤ 3 := by
  have := (oN_le d p h P).2 hp
  omega
/-- all that a day tells one: own hours, and how many others do it at each hour -/
def siN (P d p : Nat) : Nat := d / 8 ^ p % 8 + 8 * oN d p 0 P + 32 * oN d p 1 P + 128 * oN d p 2 P
def sO (s h : Nat) : Nat := s / 2 ^ h % 2
def sN (s h : Nat) : Nat := s / 2 ^ (3 + 2 * h) % 4
theorem eight (p : Nat) : 8 ^ p = 2 ^ (3 * p) := by rw [Nat.pow_mul]
theorem dB_own (d p h : Nat) (hh : h < 3) : d / 8 ^ p % 8 / 2 ^ h % 2 = dB d (3 * p + h) := by
  unfold dB
  rw [eight, Nat.pow_add, ← Nat.div_div_eq_div_mul]
  generalize d / 2 ^ (3 * p) = x
  rcases (show h = 0 ∨ h = 1 ∨ h = 2 by omega) with rfl | rfl | rfl
  · omega
  · omega
  · omega
theorem si_lt {P d p : Nat} (hp : p < P) (hP : P ≤ 4) : siN P d p < 512 := by
  have a := oN_3 (d := d) (h := 0) hp hP
  have b := oN_3 (d := d) (h := 1) hp hP
  have c := oN_3 (d := d) (h := 2) hp hP
  unfold siN
  omega
theorem si_own {P d p h : Nat} (hh : h < 3) : sO (siN P d p) h = dB d (3 * p + h) := by
  rw [← dB_own d p h hh]
  unfold sO siN
  rcases (show h = 0 ∨ h = 1 ∨ h = 2 by omega) with rfl | rfl | rfl
  · omega
  · omega
  · omega
theorem si_n {P d p h : Nat} (hp : p < P) (hP : P ≤ 4) (hh : h < 3) : sN (siN P d p) h = oN d p h P := by
  have a := oN_3 (d := d) (h := 0) hp hP
  have b := oN_3 (d := d) (h := 1) hp hP
  have c := oN_3 (d := d) (h := 2) hp hP
  unfold sN siN
  rcases (show h = 0 ∨ h = 1 ∨ h = 2 by omega) with rfl | rfl | rfl
  · show _ / 8 % 4 = _
    omega
  · show _ / 32 % 4 = _
    omega
  · show _ / 128 % 4 = _
    omega
theorem sO_lt (s h : Nat) : sO s h < 2 := Nat.mod_lt _ (by decide)
theorem sN_lt (s h : Nat) : sN s h < 4 := Nat.mod_lt _ (by decide)
/-- what doing it is worth, by a sight -/
def wS (E : Ev) (k : Nat) (O : Nat → Nat) (p s h : Nat) : Int32 := E p k h (if h = 0 then 0 else sN s (h - 1)) (sN s h) (if h = 0 then O p else sO s (h - 1))
theorem wS_0 {E : Ev} {k : Nat} {O : Nat → Nat} {p s : Nat} : wS E k O p s 0 = E p k 0 0 (sN s 0) (O p) := rfl
theorem wS_s {E : Ev} {k : Nat} {O : Nat → Nat} {p s h : Nat} (hh : h ≠ 0) : wS E k O p s h = E p k h (sN s (h - 1)) (sN s h) (sO s (h - 1)) := by
  unfold wS
  rw [if_neg hh, if_neg hh]
/-- the gain of the first h hours -/
def gS (E : Ev) (k : Nat) (O : Nat → Nat) (p s : Nat) : Nat → Int32
  | 0 => 0
  | h + 1 => gS E k O p s h + (if sO s h = 1 then wS E k O p s h else 0)
theorem gS_1 {E : Ev} {k : Nat} {O : Nat → Nat} {p s h : Nat} (e : sO s h = 1) : gS E k O p s (h + 1) = gS E k O p s h + wS E k O p s h := by
  show _ + _ = _
  rw [if_pos e]
theorem gS_0 {E : Ev} {k : Nat} {O : Nat → Nat} {p s h : Nat} (e : ¬ sO s h = 1) : gS E k O p s (h + 1) = gS E k O p s h := by
  show _ + _ = _
  rw [if_neg e, Int32.add_zero]
/-- the best of the first o rows of one's own beside what the others do, and its gain -/
def bS (E : Ev) (k : Nat) (O : Nat → Nat) (p c : Nat) : Nat → Nat × Int32
  | 0 => (0, 0)
  | o + 1 => if o = 0 ∨ (bS E k O p c o).2 < gS E k O p (8 * c + o) 3 then (o, gS E k O p (8 * c + o) 3) else bS E k O p c o
theorem bS_1 {E : Ev} {k : Nat} {O : Nat → Nat} {p c o : Nat} (e : o = 0 ∨ (bS E k O p c o).2 < gS E k O p (8 * c + o) 3) : bS E k O p c (o + 1) = (o, gS E k O p (8 * c + o) 3) := if_pos e
theorem bS_0 {E : Ev} {k : Nat} {O : Nat → Nat} {p c o : Nat} (e : ¬ o = 0) (e2 : ¬ (bS E k O p c o).2 < gS E k O p (8 * c + o) 3) : bS E k O p c (o + 1) = bS E k O p c o := if_neg (fun q => q.elim e e2)
theorem bS_lt {E : Ev} {k : Nat} {O : Nat → Nat} {p c : Nat} : ∀ o : Nat, (bS E k O p c o).1 ≤ o - 1
  | 0 => Nat.le_refl _
  | o + 1 => by
    have ih := bS_lt (E := E) (k := k) (O := O) (p := p) (c := c) o
    by_cases e : o = 0 ∨ (bS E k O p c o).2 < gS E k O p (8 * c + o) 3
    · rw [bS_1 e]; exact Nat.le_refl _
    · rw [bS_0 (fun q => e (Or.inl q)) (fun q => e (Or.inr q))]; omega
theorem gS_own0 {E : Ev} {k : Nat} {O : Nat → Nat} {p c : Nat} : gS E k O p (8 * c + 0) 3 = 0 := by
  rw [gS_0, gS_0, gS_0]
  · rfl
  · unfold sO; omega
  · unfold sO; omega
  · unfold sO; omega
theorem bS_one {E : Ev} {k : Nat} {O : Nat → Nat} {p c : Nat} : bS E k O p c 1 = (0, 0) := by
  rw [bS_1 (Or.inl rfl), gS_own0]
def besN (E : Ev) (k : Nat) (O : Nat → Nat) (p c : Nat) : Nat := (bS E k O p c 8).1
theorem besN_lt {E : Ev} {k : Nat} {O : Nat → Nat} {p c : Nat} : besN E k O p c < 8 := by
  have := bS_lt (E := E) (k := k) (O := O) (p := p) (c := c) 8
  unfold besN
  omega
/-- whether one would do it at an hour: its sight s, yesterday's ps -/
def wd (F : Fk) (O : Nat → Nat) (E : Ev) (p s ps h : Nat) : Nat :=
  if F.1 p = 1 then besN E (F.1 p) O p (s / 8) / 2 ^ h % 2
  else if F.1 p = 2 then (if sO s h = 1 ∧ -nI (F.2.1 p) ≤ wS E (F.1 p) O p s h then 1 else 0)
  else if F.1 p = 3 then (if (0 : Int32) < wS E (F.1 p) O p ps h then 1 else 0)
  else if F.1 p = 4 then (if F.2.1 p ≤ sN s h ∨ (sO s h = 1 ∧ -nI (F.2.1 p) ≤ wS E (F.1 p) O p s h) then 1 else 0)
  else if F.1 p = 5 then (if h = F.2.1 p % 3 then 1 - sO s h else (if (0 : Int32) < wS E (F.1 p) O p ps h then 1 else 0))
  else if F.1 p = 6 then F.2.2 p / 2 ^ h % 2
  else (if (0 : Int32) < wS E (F.1 p) O p s h then 1 else 0)
section
variable {F : Fk} {O : Nat → Nat} {E : Ev} {p s ps h : Nat}
theorem wd_k0 (k : F.1 p = 0) : wd F O E p s ps h = (if (0 : Int32) < wS E (F.1 p) O p s h then 1 else 0) := by
  unfold wd
  rw [if_neg (by omega), if_neg (by omega), if_neg (by omega), if_neg (by omega), if_neg (by omega), if_neg (by omega)]
theorem wd_k1 (k : F.1 p = 1) : wd F O E p s ps h = besN E (F.1 p) O p (s / 8) / 2 ^ h % 2 := if_pos k
theorem wd_k2 (k : F.1 p = 2) : wd F O E p s ps h = (if sO s h = 1 ∧ -nI (F.2.1 p) ≤ wS E (F.1 p) O p s h then 1 else 0) := by
  unfold wd
  rw [if_neg (by omega), if_pos k]
theorem wd_k3 (k : F.1 p = 3) : wd F O E p s ps h = (if (0 : Int32) < wS E (F.1 p) O p ps h then 1 else 0) := by
  unfold wd
  rw [if_neg (by omega), if_neg (by omega), if_pos k]
theorem wd_k4 (k : F.1 p = 4) : wd F O E p s ps h = (if F.2.1 p ≤ sN s h ∨ (sO s h = 1 ∧ -nI (F.2.1 p) ≤ wS E (F.1 p) O p s h) then 1 else 0) := by
  unfold wd
  rw [if_neg (by omega), if_neg (by omega), if_neg (by omega), if_pos k]
theorem wd_k5 (k : F.1 p = 5) : wd F O E p s ps h = (if h = F.2.1 p % 3 then 1 - sO s h else (if (0 : Int32) < wS E (F.1 p) O p ps h then 1 else 0)) := by
  unfold wd
  rw [if_neg (by omega), if_neg (by omega), if_neg (by omega), if_neg (by omega), if_pos k]
theorem wd_k6 (k : F.1 p = 6) : wd F O E p s ps h = F.2.2 p / 2 ^ h % 2 := by
  unfold wd
  rw [if_neg (by omega), if_neg (by omega), if_neg (by omega), if_neg (by omega), if_neg (by omega), if_pos k]
theorem wd_lt : wd F O E p s ps h < 2 := by
  unfold wd
  have a := sO_lt s h
  split
  · exact Nat.mod_lt _ (by decide)
  split
  · split <;> omega
  split
  · split <;> omega
  split
  · split <;> omega
  split
  · split
    · omega
    · split <;> omega
  split
  · exact Nat.mod_lt _ (by decide)
  · split <;> omega
end
/-- one's row -/
def rwN (F : Fk) (O : Nat → Nat) (E : Ev) (p s ps : Nat) : Nat := wd F O E p s ps 0 + 2 * wd F O E p s ps 1 + 4 * wd F O E p s ps 2
theorem rwN_lt {F : Fk} {O : Nat → Nat} {E : Ev} {p s ps : Nat} : rwN F O E p s ps < 8 := by
  have a := wd_lt (F := F) (O := O) (E := E) (p := p) (s := s) (ps := ps) (h := 0)
  have b := wd_lt (F := F) (O := O) (E := E) (p := p) (s := s) (ps := ps) (h := 1)
  have c := wd_lt (F := F) (O := O) (E := E) (p := p) (s := s) (ps := ps) (h := 2)
  unfold rwN
  omega
theorem rwN_bit {F : Fk} {O : Nat → Nat} {E : Ev} {p s ps h : Nat} (hh : h < 3) : rwN F O E p s ps / 2 ^ h % 2 = wd F O E p s ps h := by
  have a := wd_lt (F := F) (O := O) (E := E) (p := p) (s := s) (ps := ps) (h := 0)
  have b := wd_lt (F := F) (O := O) (E := E) (p := p) (s := s) (ps := ps) (h := 1)
  have c := wd_lt (F := F) (O := O) (E := E) (p := p) (s := s) (ps := ps) (h := 2)
  unfold rwN
  rcases (show h = 0 ∨ h = 1 ∨ h = 2 by omega) with rfl | rfl | rfl
  · show _ / 1 % 2 = _
    omega
  · show _ / 2 % 2 = _
    omega
  · show _ / 4 % 2 = _
    omega
theorem bits8 {x : Nat} (h : x < 8) : x / 2 ^ 0 % 2 + 2 * (x / 2 ^ 1 % 2) + 4 * (x / 2 ^ 2 % 2) = x := by
  show x / 1 % 2 + 2 * (x / 2 % 2) + 4 * (x / 4 % 2) = x
  omega
theorem rwN_best {F : Fk} {O : Nat → Nat} {E : Ev} {p s ps : Nat} (k : F.1 p = 1) : rwN F O E p s ps = besN E (F.1 p) O p (s / 8) := by
  unfold rwN
  rw [wd_k1 k, wd_k1 k, wd_k1 k]
  exact bits8 besN_lt
theorem rwN_told {F : Fk} {O : Nat → Nat} {E : Ev} {p s ps : Nat} (k : F.1 p = 6) (h : F.2.2 p < 8) : rwN F O E p s ps = F.2.2 p := by
  unfold rwN
  rw [wd_k6 k, wd_k6 k, wd_k6 k]
  exact bits8 h
/-- one's row by a day -/
def rwD (P : Nat) (F : Fk) (O : Nat → Nat) (Y : Nat) (E : Ev) (d p : Nat) : Nat := rwN F O E p (siN P d p) (siN P Y p)
theorem rwD_lt {P : Nat} {F : Fk} {O : Nat → Nat} {Y : Nat} {E : Ev} {d p : Nat} : rwD P F O Y E d p < 8 := rwN_lt
/-- the answer to a day: of the first q people -/
def anN (P : Nat) (F : Fk) (O : Nat → Nat) (Y : Nat) (E : Ev) (d : Nat) : Nat → Nat
  | 0 => 0
  | q + 1 => anN P F O Y E d q + rwD P F O Y E d q * 8 ^ q
theorem anN_lt {P : Nat} {F : Fk} {O : Nat → Nat} {Y : Nat} {E : Ev} {d : Nat} : ∀ q : Nat, anN P F O Y E d q < 8 ^ q
  | 0 => Nat.lt_of_lt_of_le (Nat.zero_lt_succ 0) (Nat.le_refl 1)
  | q + 1 => by
    have ih := anN_lt (P := P) (F := F) (O := O) (Y := Y) (E := E) (d := d) q
    have h := rwD_lt (P := P) (F := F) (O := O) (Y := Y) (E := E) (d := d) (p := q)
    show _ + _ * 8 ^ q < 8 ^ (q + 1)
    rw [Nat.pow_succ]
    generalize 8 ^ q = X at *
    generalize rwD P F O Y E d q = r at *
    have : r * X ≤ 7 * X := Nat.mul_le_mul_right X (by omega)
    omega
/-- the hour at which two rows first differ; 3: none -/
def hD (r o : Nat) : Nat := if ¬ r % 2 = o % 2 then 0 else (if ¬ r / 2 % 2 = o / 2 % 2 then 1 else (if ¬ r / 4 % 2 = o / 4 % 2 then 2 else 3))
theorem hD_3 {r o : Nat} (hr : r < 8) (ho : o < 8) : hD r o = 3 ↔ r = o := by
  unfold hD
  constructor
  · intro h
    split at h
    · omega
    · split at h
      · omega
      · split at h
        · omega
        · omega
  · rintro rfl
    rw [if_neg (by omega), if_neg (by omega), if_neg (by omega)]
theorem hD_le {r o : Nat} : hD r o ≤ 3 := by
  unfold hD
  split
  · omega
  · split
    · omega
    · split <;> omega
theorem hD_at {r o h : Nat} (hh : h < 3) (a : ∀ i, i < h → r / 2 ^ i % 2 = o / 2 ^ i % 2) (b : ¬ r / 2 ^ h % 2 = o / 2 ^ h % 2) : hD r o = h := by
  have e1 : ∀ x : Nat, x / 2 ^ 0 % 2 = x % 2 := fun x => by rw [Nat.pow_zero, Nat.div_one]
  rcases (show h = 0 ∨ h = 1 ∨ h = 2 by omega) with rfl | rfl | rfl
  · rw [e1, e1] at b; exact if_pos b
  · have a0 := a 0 (by omega); rw [e1, e1] at a0
    exact (if_neg (fun q => q a0)).trans (if_pos b)
  · have a0 := a 0 (by omega); rw [e1, e1] at a0
    have a1 := a 1 (by omega)
    exact (if_neg (fun q => q a0)).trans ((if_neg (fun q => q a1)).trans (if_pos b))
theorem hD_no {r o : Nat} (a : ∀ i, i < 3 → r / 2 ^ i % 2 = o / 2 ^ i % 2) : hD r o = 3 := by
  have e1 : ∀ x : Nat, x / 2 ^ 0 % 2 = x % 2 := fun x => by rw [Nat.pow_zero, Nat.div_one]
  have a0 := a 0 (by omega); rw [e1, e1] at a0
  have a1 := a 1 (by omega)
  have a2 := a 2 (by omega)
  exact (if_neg (fun q => q a0)).trans ((if_neg (fun q => q a1)).trans (if_neg (fun q => q a2)))
/-- who would do otherwise first: of n people from p on -/
def foN (P : Nat) (F : Fk) (O : Nat → Nat) (Y : Nat) (E : Ev) (d : Nat) : Nat → Nat → Int32
  | 0, _ => -5
  | n + 1, p => if hD (rwD P F O Y E d p) (d / 8 ^ p % 8) = 3 then foN P F O Y E d n (p + 1) else nI (10 * p + hD (rwD P F O Y E d p) (d / 8 ^ p % 8))
def foD (P : Nat) (F : Fk) (O : Nat → Nat) (Y : Nat) (E : Ev) (d : Nat) : Int32 := foN P F O Y E d P 0
theorem foN_e {P : Nat} {F : Fk} {O : Nat → Nat} {Y : Nat} {E : Ev} {d p q : Nat} (hq : q = 0) : foN P F O Y E d q p = -5 := by subst hq; rfl
theorem foN_s {P : Nat} {F : Fk} {O : Nat → Nat} {Y : Nat} {E : Ev} {d p n : Nat} (hn : 0 < n) (h : hD (rwD P F O Y E d p) (d / 8 ^ p % 8) = 3) : foN P F O Y E d n p = foN P F O Y E d (n - 1) (p + 1) := by
  obtain ⟨n, rfl⟩ : ∃ m, n = m + 1 := ⟨n - 1, by omega⟩
  exact if_pos h
theorem foN_h {P : Nat} {F : Fk} {O : Nat → Nat} {Y : Nat} {E : Ev} {d p n h : Nat} (hn : 0 < n) (h3 : h < 3) (hh : hD (rwD P F O Y E d p) (d / 8 ^ p % 8) = h) : foN P F O Y E d n p = nI (10 * p + h) := by
  obtain ⟨n, rfl⟩ : ∃ m, n = m + 1 := ⟨n - 1, by omega⟩
  subst hh
  exact if_neg (by omega)
/-- a day stands -/
def stD (P : Nat) (F : Fk) (O : Nat → Nat) (Y : Nat) (E : Ev) (d : Nat) : Prop := foD P F O Y E d = -5
theorem foN_iff {P : Nat} {F : Fk} {O : Nat → Nat} {Y : Nat} {E : Ev} {d : Nat} : ∀ n p : Nat, p + n ≤ 4 → (foN P F O Y E d n p = -5 ↔ ∀ q, p ≤ q → q < p + n → rwD P F O Y E d q = d / 8 ^ q % 8)
  | 0, p, _ => ⟨fun _ q h1 h2 => absurd h2 (by omega), fun _ => rfl⟩
  | n + 1, p, hp => by
    have ih := foN_iff (P := P) (F := F) (O := O) (Y := Y) (E := E) (d := d) n (p + 1) (by omega)
    have hr := rwD_lt (P := P) (F := F) (O := O) (Y := Y) (E := E) (d := d) (p := p)
    have ho : d / 8 ^ p % 8 < 8 := Nat.mod_lt _ (by decide)
    by_cases h : hD (rwD P F O Y E d p) (d / 8 ^ p % 8) = 3
    · rw [foN_s (Nat.succ_pos n) h]
      show foN P F O Y E d n (p + 1) = -5 ↔ _
      rw [ih]
      have e := (hD_3 hr ho).mp h
      constructor
      · intro a q h1 h2
        by_cases eq : q = p
        · rw [eq]; exact e
        · exact a q (by omega) (by omega)
      · intro a q h1 h2
        exact a q (by omega) (by omega)
    · have hle := hD_le (r := rwD P F O Y E d p) (o := d / 8 ^ p % 8)
      rw [foN_h (Nat.succ_pos n) (h := hD (rwD P F O Y E d p) (d / 8 ^ p % 8)) (by omega) rfl]
      constructor
      · intro a
        exact absurd a (nat_ne_neg (by omega) (by decide))
      · intro a
        exact absurd ((hD_3 hr ho).mpr (a p (by omega) (by omega))) h
/-- a day by its rows -/
theorem day_sum (d : Nat) : ∀ q : Nat, d % 8 ^ (q + 1) = d % 8 ^ q + d / 8 ^ q % 8 * 8 ^ q := fun q => by
  rw [Nat.pow_succ, Nat.mod_mul, Nat.mul_comm (8 ^ q)]
theorem anN_eq {P : Nat} {F : Fk} {O : Nat → Nat} {Y : Nat} {E : Ev} {d : Nat} : ∀ q : Nat, (anN P F O Y E d q = d % 8 ^ q ↔ ∀ p, p < q → rwD P F O Y E d p = d / 8 ^ p % 8)
  | 0 => ⟨fun _ p h => absurd h (Nat.not_lt_zero p), fun _ => by rw [Nat.pow_zero, Nat.mod_one]; rfl⟩
  | q + 1 => by
    have ih := anN_eq (P := P) (F := F) (O := O) (Y := Y) (E := E) (d := d) q
    have l1 := anN_lt (P := P) (F := F) (O := O) (Y := Y) (E := E) (d := d) q
    have l2 : d % 8 ^ q < 8 ^ q := Nat.mod_lt _ (Nat.pow_pos (by decide))
    have hd := day_sum d q
    have ha : anN P F O Y E d (q + 1) = anN P F O Y E d q + rwD P F O Y E d q * 8 ^ q := rfl
    constructor
    · intro h
      rw [ha, hd] at h
      have e1 : anN P F O Y E d q = d % 8 ^ q := by
        have := congrArg (fun x => x % 8 ^ q) h
        simpa only [Nat.add_mul_mod_self_right, Nat.mod_eq_of_lt l1, Nat.mod_eq_of_lt l2] using this
      have e2 : rwD P F O Y E d q = d / 8 ^ q % 8 := by
        rw [e1] at h
        exact Nat.eq_of_mul_eq_mul_right (Nat.pow_pos (by decide)) (Nat.add_left_cancel h)
      intro p hp
      by_cases e : p = q
      · rw [e]; exact e2
      · exact ih.mp e1 p (by omega)
    · intro h
      rw [ha, hd, ih.mpr (fun p hp => h p (by omega)), h q (by omega)]
theorem st_iff {P : Nat} {F : Fk} {O : Nat → Nat} {Y : Nat} {E : Ev} {d : Nat} (hP : P ≤ 4) (hd : d < d8 P) : anN P F O Y E d P = d ↔ stD P F O Y E d := by
  have a := anN_eq (P := P) (F := F) (O := O) (Y := Y) (E := E) (d := d) P
  have b := foN_iff (P := P) (F := F) (O := O) (Y := Y) (E := E) (d := d) P 0 (by omega)
  unfold d8 at hd
  rw [Nat.mod_eq_of_lt hd] at a
  rw [a]
  unfold stD foD
  rw [b]
  exact ⟨fun h q _ h2 => h q (by omega), fun h q h2 => h q (Nat.zero_le _) (by omega)⟩
/-- the gain of all together, of the first q people -/
def gaN (P : Nat) (F : Fk) (O : Nat → Nat) (E : Ev) (d : Nat) : Nat → Int32
  | 0 => 0
  | q + 1 => gaN P F O E d q + gS E (F.1 q) O q (siN P d q) 3
/-- the search of the first d days: how many stand, the least, the greatest, the chosen one, its gain -/
abbrev SR : Type := Nat × Int32 × Int32 × Int32 × Int32
def seN (P : Nat) (F : Fk) (O : Nat → Nat) (Y : Nat) (E : Ev) : Nat → SR
  | 0 => (0, -5, -5, -5, 0)
  | d + 1 => if foD P F O Y E d = -5 then ((seN P F O Y E d).1 + 1, (if (seN P F O Y E d).1 = 0 then nI d else (seN P F O Y E d).2.1), nI d, (if (seN P F O Y E d).1 = 0 ∨ (seN P F O Y E d).2.2.2.2 < gaN P F O E d P then nI d else (seN P F O Y E d).2.2.2.1), (if (seN P F O Y E d).1 = 0 ∨ (seN P F O Y E d).2.2.2.2 < gaN P F O E d P then gaN P F O E d P else (seN P F O Y E d).2.2.2.2)) else seN P F O Y E d
section
variable {P : Nat} {F : Fk} {O : Nat → Nat} {Y : Nat} {E : Ev} {d : Nat}
theorem seN_0 (h : ¬ foD P F O Y E d = -5) : seN P F O Y E (d + 1) = seN P F O Y E d := if_neg h
theorem seN_1 (h : foD P F O Y E d = -5) (h2 : (seN P F O Y E d).1 = 0) : seN P F O Y E (d + 1) = ((seN P F O Y E d).1 + 1, nI d, nI d, nI d, gaN P F O E d P) := by
  refine (if_pos h).trans ?_
  rw [if_pos h2, if_pos (Or.inl h2), if_pos (Or.inl h2)]
theorem seN_2 (h : foD P F O Y E d = -5) (h2 : ¬ (seN P F O Y E d).1 = 0) (h3 : (seN P F O Y E d).2.2.2.2 < gaN P F O E d P) : seN P F O Y E (d + 1) = ((seN P F O Y E d).1 + 1, (seN P F O Y E d).2.1, nI d, nI d, gaN P F O E d P) := by
  refine (if_pos h).trans ?_
  rw [if_neg h2, if_pos (Or.inr h3), if_pos (Or.inr h3)]
theorem seN_3 (h : foD P F O Y E d = -5) (h2 : ¬ (seN P F O Y E d).1 = 0) (h3 : ¬ (seN P F O Y E d).2.2.2.2 < gaN P F O E d P) : seN P F O Y E (d + 1) = ((seN P F O Y E d).1 + 1, (seN P F O Y E d).2.1, nI d, (seN P F O Y E d).2.2.2.1, (seN P F O Y E d).2.2.2.2) := by
  refine (if_pos h).trans ?_
  rw [if_neg h2, if_neg (fun q => q.elim h2 h3), if_neg (fun q => q.elim h2 h3)]
theorem seN_inv : ∀ d : Nat, (seN P F O Y E d).1 ≤ d ∧ ((seN P F O Y E d).1 = 0 → seN P F O Y E d = (0, -5, -5, -5, 0)) ∧ (0 < (seN P F O Y E d).1 → ∃ c : Nat, c < d ∧ (seN P F O Y E d).2.2.2.1 = nI c)
  | 0 => ⟨Nat.le_refl _, fun _ => rfl, fun h => absurd h (Nat.not_lt_zero 0)⟩
  | d + 1 => by
    obtain ⟨i1, i2, i3⟩ := seN_inv d
    by_cases h : foD P F O Y E d = -5
    · by_cases h2 : (seN P F O Y E d).1 = 0
      · rw [seN_1 h h2]
        exact ⟨Nat.succ_le_succ i1, fun q => absurd q (Nat.succ_ne_zero _), fun _ => ⟨d, Nat.lt_succ_self d, rfl⟩⟩
      · by_cases h3 : (seN P F O Y E d).2.2.2.2 < gaN P F O E d P
        · rw [seN_2 h h2 h3]
          exact ⟨Nat.succ_le_succ i1, fun q => absurd q (Nat.succ_ne_zero _), fun _ => ⟨d, Nat.lt_succ_self d, rfl⟩⟩
        · rw [seN_3 h h2 h3]
          obtain ⟨c, hc, e⟩ := i3 (by omega)
          exact ⟨Nat.succ_le_succ i1, fun q => absurd q (Nat.succ_ne_zero _), fun _ => ⟨c, by omega, e⟩⟩
    · rw [seN_0 h]
      refine ⟨by omega, i2, fun q => ?_⟩
      obtain ⟨c, hc, e⟩ := i3 q
      exact ⟨c, by omega, e⟩
end
def seD (P : Nat) (F : Fk) (O : Nat → Nat) (Y : Nat) (E : Ev) : SR := seN P F O Y E (d8 P)
/-- with another row of one's own -/
def wO (d p o : Nat) : Nat := d - d / 8 ^ p % 8 * 8 ^ p + o * 8 ^ p
theorem dB_lo {x y n k : Nat} (h : x % 2 ^ n = y % 2 ^ n) (hk : k < n) : dB x k = dB y k := by
  have e : ∀ z : Nat, dB z k = dB (z % 2 ^ n) k := fun z => by
    unfold dB
    obtain ⟨m, rfl⟩ : ∃ m, n = k + 1 + m := ⟨n - (k + 1), by omega⟩
    rw [Nat.pow_add, Nat.pow_succ, Nat.mul_assoc, Nat.mod_mul_right_div_self, Nat.mod_mul_right_mod]
  rw [e x, e y, h]
theorem dB_hi {x y n k : Nat} (h : x / 2 ^ n = y / 2 ^ n) (hk : n ≤ k) : dB x k = dB y k := by
  unfold dB
  obtain ⟨m, rfl⟩ : ∃ m, k = n + m := ⟨k - n, by omega⟩
  rw [Nat.pow_add, ← Nat.div_div_eq_div_mul, ← Nat.div_div_eq_div_mul, h]
theorem wO_parts {d p o : Nat} : ∃ A B D : Nat, B < 8 ^ p ∧ D < 8 ∧ d = (A * 8 + D) * 8 ^ p + B ∧ d / 8 ^ p % 8 = D ∧ wO d p o = (A * 8 + o) * 8 ^ p + B := by
  have h0 : 0 < 8 ^ p := Nat.pow_pos (by decide)
  refine ⟨d / 8 ^ p / 8, d % 8 ^ p, d / 8 ^ p % 8, Nat.mod_lt _ h0, Nat.mod_lt _ (by decide), ?_, rfl, ?_⟩
  · have e : d / 8 ^ p / 8 * 8 + d / 8 ^ p % 8 = d / 8 ^ p := by omega
    rw [e, Nat.mul_comm]
    exact (Nat.div_add_mod d (8 ^ p)).symm
  · unfold wO
    have e : d = (d / 8 ^ p / 8 * 8 + d / 8 ^ p % 8) * 8 ^ p + d % 8 ^ p := by
      have e : d / 8 ^ p / 8 * 8 + d / 8 ^ p % 8 = d / 8 ^ p := by omega
      rw [e, Nat.mul_comm]
      exact (Nat.div_add_mod d (8 ^ p)).symm
    generalize d / 8 ^ p / 8 = A at *
    generalize d / 8 ^ p % 8 = D at *
    generalize d % 8 ^ p = B at *
    generalize 8 ^ p = X at *
    subst e
    rw [Nat.add_mul, Nat.add_mul]
    omega
theorem wO_own {d p o : Nat} (ho : o < 8) : wO d p o / 8 ^ p % 8 = o := by
  obtain ⟨A, B, D, hB, hD, -, -, e⟩ := wO_parts (d := d) (p := p) (o := o)
  have h0 : 0 < 8 ^ p := Nat.pow_pos (by decide)
  rw [e, Nat.mul_comm, Nat.mul_add_div h0, Nat.div_eq_of_lt hB]
  omega
theorem wO_bit {d p o q h : Nat} (ho : o < 8) (hq : q ≠ p) (hh : h < 3) : dB (wO d p o) (3 * q + h) = dB d (3 * q + h) := by
  obtain ⟨A, B, D, hB, hD, e1, -, e2⟩ := wO_parts (d := d) (p := p) (o := o)
  have h0 : 0 < 8 ^ p := Nat.pow_pos (by decide)
  rcases Nat.lt_or_gt_of_ne hq with hlt | hgt
  · refine dB_lo (n := 3 * p) ?_ (by omega)
    rw [← eight, e2]
    conv => rhs; rw [e1]
    rw [Nat.mul_add_mod_self_right, Nat.mul_add_mod_self_right]
  · refine dB_hi (n := 3 * (p + 1)) ?_ (by omega)
    rw [← eight, Nat.pow_succ, ← Nat.div_div_eq_div_mul, ← Nat.div_div_eq_div_mul, e2]
    conv => rhs; rw [e1]
    rw [Nat.mul_comm _ (8 ^ p), Nat.mul_add_div h0, Nat.mul_comm _ (8 ^ p), Nat.mul_add_div h0, Nat.div_eq_of_lt hB]
    omega
theorem wO_on {d p o h : Nat} (ho : o < 8) (hh : h < 3) : ∀ q : Nat, oN (wO d p o) p h q = oN d p h q
  | 0 => rfl
  | q + 1 => by
    show oN (wO d p o) p h q + (if q = p then 0 else dB (wO d p o) (3 * q + h)) = oN d p h q + (if q = p then 0 else dB d (3 * q + h))
    rw [wO_on ho hh q]
    by_cases e : q = p
    · rw [if_pos e, if_pos e]
    · rw [if_neg e, if_neg e, wO_bit ho e hh]
theorem si_wO {P d p o : Nat} (hp : p < P) (hP : P ≤ 4) (ho : o < 8) : siN P (wO d p o) p = 8 * (siN P d p / 8) + o := by
  unfold siN
  rw [wO_own ho, wO_on ho (by decide), wO_on ho (by decide), wO_on ho (by decide)]
  omega
theorem wO_lt {d p o : Nat} (hd : d < 4096) (hp : p < 4) (ho : o < 8) : wO d p o < 4096 := by
  obtain ⟨A, B, D, hB, hD, e1, -, e2⟩ := wO_parts (d := d) (p := p) (o := o)
  rw [e2]
  rcases (show p = 0 ∨ p = 1 ∨ p = 2 ∨ p = 3 by omega) with rfl | rfl | rfl | rfl
  · simp only [Nat.pow_zero] at *; omega
  · rw [show (8 : Nat) ^ 1 = 8 by rfl] at *; omega
  · rw [show (8 : Nat) ^ 2 = 64 by rfl] at *; omega
  · rw [show (8 : Nat) ^ 3 = 512 by rfl] at *; omega
end CDY
/-! the class's code of a town -/
section CCD
def cod (x : Int32) : Int32 := if 0 ≤ x then nI ((x.toNatClampNeg % 8 * 3 + x.toNatClampNeg / 8 % 4) * 100 + x.toNatClampNeg / 32) else (if x = -1 then -3 else (if x = -3 then -1 else x))
theorem cod_test {w h v : Nat} (hw : w < 6) (hh : h < 3) (hv : v < 100) : cod (nI (w + 8 * h + 32 * v)) = nI ((w * 3 + h) * 100 + v) := by
  unfold cod
  rw [if_pos (nI_pos' (by omega)), nI_clamp (n := w + 8 * h + 32 * v) (by omega)]
  congr 1
  have a : (w + 8 * h + 32 * v) % 8 = w := by omega
  have b : (w + 8 * h + 32 * v) / 8 % 4 = h := by omega
  have c : (w + 8 * h + 32 * v) / 32 = v := by omega
  rw [a, b, c]
theorem cod_not : cod (-1) = -3 := by decide +kernel
theorem cod_and : cod (-2) = -2 := by decide +kernel
theorem cod_or : cod (-3) = -1 := by decide +kernel
/-- the code grows by these steps -/
def CP (g f : Nat → Int32) (n : Nat) (L : List Int32) : Prop := (∀ i, i < n → g i = f i) ∧ ∀ i, i < L.length → g (n + i) = cod (L.getD i 0)
theorem CP.nil {f : Nat → Int32} {n : Nat} : CP f f n [] := ⟨fun _ _ => rfl, fun i h => absurd h (Nat.not_lt_zero i)⟩
theorem CP.trans {h g f : Nat → Int32} {n k : Nat} {L M : List Int32} (hk : k = n + L.length) (a : CP h g k M) (c : CP g f n L) : CP h f n (L ++ M) := by
  subst hk
  refine ⟨fun i hi => (a.1 i (by omega)).trans (c.1 i hi), fun i hi => ?_⟩
  rw [List.length_append] at hi
  by_cases e : i < L.length
  · rw [a.1 (n + i) (by omega), c.2 i e, gd_l e]
  · have h1 := a.2 (i - L.length) (by omega)
    rw [show n + L.length + (i - L.length) = n + i by omega] at h1
    rw [h1, gd_r (by omega)]
theorem CP.one {f : Nat → Int32} {n : Nat} {x y : Int32} (h : cod x = y) : CP (upd f n y) f n [x] := ⟨fun i hi => pk_un (by omega), fun i hi => by
  have hi : i < 1 := hi
  rw [show i = 0 by omega]
  exact pk_us.trans h.symm⟩
/-- the code of all clauses, and where each ends -/
def cdl (cl : List (Int32 × List Int32)) : List Int32 := cl.flatMap (fun c => c.2)
def offs (cl : List (Int32 × List Int32)) (c : Nat) : Nat := (cdl (cl.take c)).length
def CT (fb fc fd : Nat → Int32) (nh : Int32) (t : TWN) : Prop := (∀ i, i < (cdl t.2).length → fb i = cod ((cdl t.2).getD i 0)) ∧ (∀ c, c < t.2.length → fc c = valE (t.2.getD c (0, [])).1 ∧ fd c = nI (offs t.2 (c + 1))) ∧ nh = nI t.1
def TC (nk nl nh : Int32) (fb fc fd : Nat → Int32) (t : TWN) : Prop := nk = nI (cdl t.2).length ∧ nl = nI t.2.length ∧ CT fb fc fd nh t ∧ (cdl t.2).length ≤ 100 ∧ t.2.length ≤ 8
theorem cdl_app (a b : List (Int32 × List Int32)) : cdl (a ++ b) = cdl a ++ cdl b := List.flatMap_append
theorem cdl_one (e : Int32) (L : List Int32) : cdl [(e, L)] = L := List.append_nil L
theorem cdl_add {t : TWN} {e : Int32} {L : List Int32} : cdl (addC t 100 e L).2 = cdl t.2 ++ L := by
  show cdl (t.2 ++ [(e, L)]) = _
  rw [cdl_app, cdl_one]
theorem CT.zero {fb fc fd : Nat → Int32} : CT fb fc fd 0 (0, []) := ⟨fun i h => absurd h (Nat.not_lt_zero i), fun i h => absurd h (Nat.not_lt_zero i), rfl⟩
theorem offs_app {a b : List (Int32 × List Int32)} {c : Nat} (h : c ≤ a.length) : offs (a ++ b) c = offs a c := by
  unfold offs
  rw [List.take_append_of_le_length h]
theorem offs_all (a : List (Int32 × List Int32)) : offs a a.length = (cdl a).length := by
  unfold offs
  rw [List.take_length]
theorem CT.add {fb fc fd gb : Nat → Int32} {nh y z : Int32} {t : TWN} {e : Int32} {L : List Int32} (h : CT fb fc fd nh t) (hb : CP gb fb (cdl t.2).length L) (hy : y = valE e) (hz : z = nI ((cdl t.2).length + L.length)) : CT gb (upd fc t.2.length y) (upd fd t.2.length z) nh (addC t 100 e L) := by
  refine ⟨?_, ?_, h.2.2⟩
  · rw [cdl_add, List.length_append]
    intro i hi
    by_cases q : i < (cdl t.2).length
    · rw [hb.1 i q, h.1 i q, gd_l q]
    · have := hb.2 (i - (cdl t.2).length) (by omega)
      rw [show (cdl t.2).length + (i - (cdl t.2).length) = i by omega] at this
      rw [this, gd_r (by omega)]
  · show ∀ c, c < (t.2 ++ [(e, L)]).length → upd fc t.2.length y c = valE ((t.2 ++ [(e, L)]).getD c (0, [])).1 ∧ upd fd t.2.length z c = nI (offs (t.2 ++ [(e, L)]) (c + 1))
    intro c hc
    rw [List.length_append] at hc
    have hc : c < t.2.length + 1 := hc
    by_cases q : c = t.2.length
    · subst q
      rw [pk_us, pk_us, gd_r (Nat.le_refl _), Nat.sub_self]
      refine ⟨hy, ?_⟩
      have e1 : offs (t.2 ++ [(e, L)]) (t.2.length + 1) = (cdl t.2).length + L.length := by
        have := offs_all (t.2 ++ [(e, L)])
        rw [List.length_append, cdl_app, cdl_one, List.length_append] at this
        exact this
      rw [e1]; exact hz
    · rw [pk_un q, pk_un q, gd_l (by omega), offs_app (by omega)]
      exact h.2.1 c (by omega)
theorem CT.note {fb fc fd : Nat → Int32} {nh : Int32} {t : TWN} {n : Nat} {e : Int32} {L : List Int32} (h : CT fb fc fd nh t) (hn : n < 100) : CT fb fc fd (nI n) (addC t n e L) := by
  have e1 : addC t n e L = (n, t.2) := if_neg (by omega)
  rw [e1]
  exact ⟨h.1, h.2.1, rfl⟩
theorem val_h : ∀ n : Nat, n < 100 → -nI n = valE ((-200) - nI n) := by decide +kernel
theorem val_g : ∀ n : Nat, n < 100 → nI n = valE ((-10) - nI n) := by decide +kernel
theorem addC_n {t : TWN} {n : Nat} {e : Int32} {L : List Int32} (h : n < 100) : (addC t n e L).2 = t.2 := by
  unfold addC
  rw [if_neg (by omega)]
theorem addC_len {t : TWN} {n : Nat} {e : Int32} {L : List Int32} : (addC t n e L).2.length ≤ t.2.length + 1 := by
  unfold addC
  split
  · show (t.2 ++ [(e, L)]).length ≤ _
    rw [List.length_append]; exact Nat.le_refl _
  · exact Nat.le_succ _
theorem tapeZ {f g Z : Nat → Int32} {S : Nat} (hS : S ≤ 100) (h : ∀ i, (if i < S then f i else (-1 : Int32)) = Z i) : ∀ i, (if i < S then va_cpy f g ((0 : Int32)).toNatClampNeg ((0 : Int32)).toNatClampNeg ((100 : Int32)).toNatClampNeg i else (-1 : Int32)) = Z i := fun i => by
  rw [← h i]
  split
  · show (if _ then _ else _) = _
    rw [if_pos ⟨Nat.zero_le _, (show i < 0 + 100 by omega)⟩]
    simp
  · rfl
theorem zendC {f Z : Nat → Int32} {S : Nat} (h : ∀ i, (if i < S then f i else (-1 : Int32)) = Z i) : ∀ i, S ≤ i → Z i = -1 := fun i hi => (h i).symm.trans (if_neg (by omega))
theorem min100 {S : Nat} (h : S ≤ 100) : (if (100 : Int32) < nI S then (100 : Int32) else nI S) = nI S := by
  by_cases e : (100 : Int32) < nI S
  · exact absurd ((nI_ltI (a := 100) (b := S) (by decide) (by omega)).mp e) (by omega)
  · exact if_neg e
theorem max0_n {S : Nat} (h : S < 2 ^ 31) : (if (0 : Int32) < nI S then nI S else (0 : Int32)) = nI S := by
  by_cases e : (0 : Int32) < nI S
  · exact if_pos e
  · rw [if_neg e]
    have : ¬ 0 < S := fun q => e ((nI_ltI (a := 0) (b := S) (by decide) h).mpr q)
    rw [show S = 0 by omega]
    rfl
end CCD
/-! days: what the reference's methods need -/
section CDL
theorem wo_0 {tbl : Nat → Int32} {P : Nat} {F : Fk} {E : Ev} {O : Nat → Nat} {d p h i : Nat} (T : TBr tbl P F E) (hp : p < P) (hP : P ≤ 4) (hO : O p < 2) (hh : h = 0) (hi : i = 96 * p + 32 * h + 2 * oN d p h P + O p) : tbl i = wS E (F.1 p) O p (siN P d p) h := by
  subst hh
  have a := oN_3 (d := d) (h := 0) hp hP
  rw [wS_0, si_n hp hP (by decide)]
  exact T.at hp (by decide) (by decide) (by omega) hO (by omega)
theorem wo_1 {tbl : Nat → Int32} {P : Nat} {F : Fk} {E : Ev} {O : Nat → Nat} {d p h i : Nat} (T : TBr tbl P F E) (hp : p < P) (hP : P ≤ 4) (hh : ¬ h = 0) (h3 : h < 3) (hb : dB d (3 * p + (h - 1)) = 1) (hi : i = 96 * p + 32 * h + 8 * oN d p (h - 1) P + 2 * oN d p h P + 1) : tbl i = wS E (F.1 p) O p (siN P d p) h := by
  have a := oN_3 (d := d) (h := h) hp hP
  have b := oN_3 (d := d) (h := h - 1) hp hP
  rw [wS_s hh, si_n hp hP h3, si_n hp hP (by omega), si_own (by omega), hb]
  exact T.at hp h3 (by omega) (by omega) (by decide) (by omega)
theorem wo_2 {tbl : Nat → Int32} {P : Nat} {F : Fk} {E : Ev} {O : Nat → Nat} {d p h i : Nat} (T : TBr tbl P F E) (hp : p < P) (hP : P ≤ 4) (hh : ¬ h = 0) (h3 : h < 3) (hb : ¬ dB d (3 * p + (h - 1)) = 1) (hi : i = 96 * p + 32 * h + 8 * oN d p (h - 1) P + 2 * oN d p h P) : tbl i = wS E (F.1 p) O p (siN P d p) h := by
  have a := oN_3 (d := d) (h := h) hp hP
  have b := oN_3 (d := d) (h := h - 1) hp hP
  have c := dB_lt d (3 * p + (h - 1))
  rw [wS_s hh, si_n hp hP h3, si_n hp hP (by omega), si_own (by omega), show dB d (3 * p + (h - 1)) = 0 by omega]
  exact T.at hp h3 (by omega) (by omega) (by decide) (by omega)
theorem mask4' : ∀ p : Fin 4, ∀ a : Fin 64, ∀ b : Fin 64, (64 * a.val + b.val) &&& (4294967295 - 7 * 8 ^ p.val) = (64 * a.val + b.val) - (64 * a.val + b.val) / 8 ^ p.val % 8 * 8 ^ p.val := by decide +kernel
theorem mask4 (p : Fin 4) (d : Fin 4096) : d.val &&& (4294967295 - 7 * 8 ^ p.val) = d.val - d.val / 8 ^ p.val % 8 * 8 ^ p.val := by
  have h := mask4' p ⟨d.val / 64, by have := d.isLt; omega⟩ ⟨d.val % 64, Nat.mod_lt _ (by decide)⟩
  simp only at h
  rw [show 64 * (d.val / 64) + d.val % 64 = d.val by omega] at h
  exact h
theorem or8 {x o p : Nat} (ho : o < 8) (h : x / 8 ^ p % 8 = 0) : x ||| o * 8 ^ p = x + o * 8 ^ p := by
  have h0 : 0 < 8 ^ p := Nat.pow_pos (by decide)
  obtain ⟨A, B, hB, e⟩ : ∃ A B : Nat, B < 8 ^ p ∧ x = A * 8 ^ (p + 1) + B := by
    refine ⟨x / 8 ^ p / 8, x % 8 ^ p, Nat.mod_lt _ h0, ?_⟩
    have e1 := Nat.div_add_mod x (8 ^ p)
    have e2 : x / 8 ^ p = x / 8 ^ p / 8 * 8 := by omega
    rw [Nat.pow_succ]
    conv => lhs; rw [← e1, e2]
    rw [Nat.mul_comm (8 ^ p), Nat.mul_assoc, Nat.mul_comm 8]
  have e8 : 8 ^ p = 2 ^ (3 * p) := eight p
  have q1 : B ||| o * 8 ^ p = B + o * 8 ^ p := by
    have := Nat.two_pow_add_eq_or_of_lt (i := 3 * p) (b := B) (by rw [← e8]; exact hB) o
    rw [← e8] at this
    rw [Nat.or_comm, Nat.mul_comm o, ← this, Nat.add_comm]
  have hlt : B + o * 8 ^ p < 2 ^ (3 * (p + 1)) := by
    rw [← eight, Nat.pow_succ]
    have : o * 8 ^ p ≤ 7 * 8 ^ p := Nat.mul_le_mul_right _ (by omega)
    omega
  have hlt2 : B < 2 ^ (3 * (p + 1)) := by omega
  have a1 := Nat.two_pow_add_eq_or_of_lt (i := 3 * (p + 1)) (b := B) hlt2 A
  have a2 := Nat.two_pow_add_eq_or_of_lt (i := 3 * (p + 1)) (b := B + o * 8 ^ p) hlt A
  rw [← eight, Nat.mul_comm] at a1 a2
  rw [e, a1, Nat.or_assoc, q1, ← a2, ← a1, Nat.add_assoc]
theorem wO_eq {d p o : Nat} (hd : d < 4096) (hp : p < 4) (ho : o < 8) : (nI d &&& (((7 : Int32) <<< ((nI (3 * p)) &&& 31)) ^^^ (-1))) ||| (nI o <<< ((nI (3 * p)) &&& 31)) = nI (wO d p o) := by
  have h1 := sh3 ⟨p, hp⟩ ⟨o, ho⟩
  have h2 := msk3 ⟨p, hp⟩
  have h3 := mask4 ⟨p, hp⟩ ⟨d, hd⟩
  simp only at h1 h2 h3
  rw [show nI (3 * p) = 3 * nI p from (pk_mul 3 p).symm, h1.1, h2, nx_and', nx_or, h3]
  congr 1
  have hz : (d - d / 8 ^ p % 8 * 8 ^ p) / 8 ^ p % 8 = 0 := by
    have := wO_own (d := d) (p := p) (o := 0) (by decide)
    unfold wO at this
    rw [Nat.zero_mul, Nat.add_zero] at this
    exact this
  exact or8 ho hz
/-- the kept best rows: those of this time are right -/
def BX (f : Nat → Int32) (tm : Nat) (G : Nat → Nat) : Prop := ∀ a, a < 16384 → ∃ b : Nat, f a = nI b ∧ b < 8 * tm + 8 ∧ (8 * tm ≤ b → b = 8 * tm + G a)
def BG (P : Nat) (F : Fk) (O : Nat → Nat) (E : Ev) : Nat → Nat := fun a => besN E (F.1 (a / 4096)) O (a / 4096) (siN P (a % 4096) (a / 4096) / 8)
theorem BX.next {f : Nat → Int32} {tm : Nat} {G G2 : Nat → Nat} (h : BX f tm G) : BX f (tm + 1) G2 := fun a ha => by
  obtain ⟨b, e, h1, -⟩ := h a ha
  exact ⟨b, e, by omega, fun q => by omega⟩
theorem BX.later {f : Nat → Int32} {tm tm2 : Nat} {G G2 : Nat → Nat} (h : BX f tm G) (ht : tm < tm2) : BX f tm2 G2 := fun a ha => by
  obtain ⟨b, e, h1, -⟩ := h a ha
  exact ⟨b, e, by omega, fun q => by omega⟩
theorem BX.put {f : Nat → Int32} {tm a b : Nat} {G : Nat → Nat} (h : BX f tm G) (hb : b = G a) (h8 : b < 8) : BX (upd f a (nI (8 * tm + b))) tm G := fun i hi => by
  by_cases e : i = a
  · subst e; exact ⟨8 * tm + b, pk_us, by omega, fun _ => by rw [hb]⟩
  · rw [pk_un e]; exact h i hi
theorem BG_at {P : Nat} {F : Fk} {O : Nat → Nat} {E : Ev} {d p : Nat} (hp : p < P) (hP : P ≤ 4) (hd : d < 4096) : besN E (F.1 p) O p (siN P d p / 8) = BG P F O E (4096 * p + wO d p 0) := by
  have hw := wO_lt (o := 0) hd (show p < 4 by omega) (by decide)
  unfold BG
  rw [show (4096 * p + wO d p 0) / 4096 = p by omega, show (4096 * p + wO d p 0) % 4096 = wO d p 0 by omega, si_wO hp hP (by decide)]
  rw [show (8 * (siN P d p / 8) + 0) / 8 = siN P d p / 8 by omega]
theorem bx_hit {b tm g a : Nat} {G : Nat → Nat} (h1 : b < 8 * tm + 8) (h2 : 8 * tm ≤ b → b = 8 * tm + G a) (h3 : b / 8 = tm) (hg : g = G a) (hg8 : g < 8) : b % 8 = g := by
  have := h2 (by omega)
  omega
/-- the first hours of one's row -/
def prN (F : Fk) (O : Nat → Nat) (E : Ev) (p s ps : Nat) : Nat → Nat
  | 0 => 0
  | h + 1 => prN F O E p s ps h + wd F O E p s ps h * 2 ^ h
theorem prN_3 {F : Fk} {O : Nat → Nat} {E : Ev} {p s ps : Nat} : prN F O E p s ps 3 = rwN F O E p s ps := by
  have h3 : prN F O E p s ps 3 = prN F O E p s ps 2 + wd F O E p s ps 2 * 2 ^ 2 := rfl
  have h2 : prN F O E p s ps 2 = prN F O E p s ps 1 + wd F O E p s ps 1 * 2 ^ 1 := rfl
  have h1 : prN F O E p s ps 1 = prN F O E p s ps 0 + wd F O E p s ps 0 * 2 ^ 0 := rfl
  have h0 : prN F O E p s ps 0 = 0 := rfl
  unfold rwN
  omega
theorem prN_lt {F : Fk} {O : Nat → Nat} {E : Ev} {p s ps : Nat} : ∀ h : Nat, prN F O E p s ps h < 2 ^ h
  | 0 => by show (0 : Nat) < _; exact Nat.pow_pos (by decide)
  | h + 1 => by
    have ih := prN_lt (F := F) (O := O) (E := E) (p := p) (s := s) (ps := ps) h
    have hw := wd_lt (F := F) (O := O) (E := E) (p := p) (s := s) (ps := ps) (h := h)
    show _ + _ * 2 ^ h < _
    rw [Nat.pow_succ]
    have : wd F O E p s ps h * 2 ^ h ≤ 1 * 2 ^ h := Nat.mul_le_mul_right _ (by omega)
    omega
section
variable {P : Nat} {F : Fk} {O : Nat → Nat} {Y : Nat} {E : Ev} {d p h : Nat}
theorem an_row : anN P F O Y E d p + prN F O E p (siN P d p) (siN P Y p) 3 * 8 ^ p = anN P F O Y E d (p + 1) := by
  rw [prN_3]; rfl
theorem an_bit_s : anN P F O Y E d p + prN F O E p (siN P d p) (siN P Y p) 0 * 8 ^ p = anN P F O Y E d p := by
  show _ + 0 * _ = _
  rw [Nat.zero_mul]; rfl
theorem an_bit_0 (hp : p < 4) (hh : h < 3) (e : wd F O E p (siN P d p) (siN P Y p) h = 0) : anN P F O Y E d p + prN F O E p (siN P d p) (siN P Y p) h * 8 ^ p = anN P F O Y E d p + prN F O E p (siN P d p) (siN P Y p) (h + 1) * 8 ^ p := by
  have q : prN F O E p (siN P d p) (siN P Y p) (h + 1) = prN F O E p (siN P d p) (siN P Y p) h := by
    show _ + _ * _ = _
    rw [e, Nat.zero_mul]; rfl
  rw [q]
theorem an_part_lt : anN P F O Y E d p + prN F O E p (siN P d p) (siN P Y p) h * 8 ^ p < 2 ^ (3 * p + h) := by
  have a := anN_lt (P := P) (F := F) (O := O) (Y := Y) (E := E) (d := d) p
  have b := prN_lt (F := F) (O := O) (E := E) (p := p) (s := siN P d p) (ps := siN P Y p) h
  rw [Nat.pow_add, ← eight]
  generalize 8 ^ p = X at *
  generalize 2 ^ h = Z at *
  generalize prN F O E p (siN P d p) (siN P Y p) h = r at *
  have : (r + 1) * X ≤ Z * X := Nat.mul_le_mul_right X b
  rw [Nat.add_mul, Nat.one_mul] at this
  rw [Nat.mul_comm X Z]
  omega
theorem an_bit_1 (hp : p < 4) (hh : h < 3) (e : ¬ wd F O E p (siN P d p) (siN P Y p) h = 0) : (anN P F O Y E d p + prN F O E p (siN P d p) (siN P Y p) h * 8 ^ p) ||| 2 ^ (3 * p + h) = anN P F O Y E d p + prN F O E p (siN P d p) (siN P Y p) (h + 1) * 8 ^ p := by
  have hw := wd_lt (F := F) (O := O) (E := E) (p := p) (s := siN P d p) (ps := siN P Y p) (h := h)
  have q : prN F O E p (siN P d p) (siN P Y p) (h + 1) = prN F O E p (siN P d p) (siN P Y p) h + 2 ^ h := by
    show _ + _ * _ = _
    rw [show wd F O E p (siN P d p) (siN P Y p) h = 1 by omega, Nat.one_mul]
  have l := an_part_lt (P := P) (F := F) (O := O) (Y := Y) (E := E) (d := d) (p := p) (h := h)
  have r := Nat.two_pow_add_eq_or_of_lt l 1
  rw [Nat.mul_one] at r
  rw [q, Nat.or_comm, ← r, Nat.add_mul, ← Nat.add_assoc, Nat.add_comm, Nat.pow_add, ← eight, Nat.mul_comm (8 ^ p)]
  omega
theorem fo_bit (hh : h < 3) : rwD P F O Y E d p / 2 ^ h % 2 = d / 8 ^ p % 8 / 2 ^ h % 2 ↔ wd F O E p (siN P d p) (siN P Y p) h = dB d (3 * p + h) := by
  unfold rwD
  rw [rwN_bit hh, dB_own d p h hh]
end
theorem tbx_put {tbl : Nat → Int32} {E : Ev} {F : Fk} {p k : Nat} {x : Int32} (h : TBX tbl E F p k) (e : x = E p (F.1 p) (k / 32) (k / 8 % 4) (k / 2 % 4) (k % 2)) : TBX (upd tbl (96 * p + k) x) E F p (k + 1) := fun i hi => by
  by_cases q : i = k
  · subst q; rw [pk_us]; exact e
  · rw [pk_un (by omega)]; exact h i (by omega)
theorem by_six {f : Nat → Int32} {a p b c e k : Nat} (h1 : f 1 = nI p) (h5 : f 5 = nI k) : ∀ i, i < 6 → upd (upd (upd (upd f 0 (nI a)) 2 (nI b)) 3 (nI c)) 4 (nI e) i = byF a p b c e k i := fun i hi => by
  rcases (show i = 0 ∨ i = 1 ∨ i = 2 ∨ i = 3 ∨ i = 4 ∨ i = 5 by omega) with rfl | rfl | rfl | rfl | rfl | rfl
  · rw [pk_un (by decide), pk_un (by decide), pk_un (by decide), pk_us]; rfl
  · rw [pk_un (by decide), pk_un (by decide), pk_un (by decide), pk_un (by decide), h1]; rfl
  · rw [pk_un (by decide), pk_un (by decide), pk_us]; rfl
  · rw [pk_un (by decide), pk_us]; rfl
  · rw [pk_us]; rfl
  · rw [pk_un (by decide), pk_un (by decide), pk_un (by decide), pk_un (by decide), h5]; rfl
end CDL
/-! what the calls about days answer -/
section CCA
theorem se_inj {s s2 : Nat} {a b c d a2 b2 c2 d2 : Int32} (h : ((s, a, b, c, d) : SR) = (s2, a2, b2, c2, d2)) : a = a2 ∧ b = b2 ∧ c = c2 ∧ d = d2 := by cases h; exact ⟨rfl, rfl, rfl, rfl⟩
theorem hnh_cong {f g : Nat → Int32} {T nh : Nat} (h : (T = 0 → nh = 0) ∧ ∀ t, T = t + 1 → g (136 + t) = nI nh) (e : ∀ i, 126 ≤ i → f i = g i) : (T = 0 → nh = 0) ∧ ∀ t, T = t + 1 → f (136 + t) = nI nh := ⟨h.1, fun t q => (e _ (by omega)).trans (h.2 t q)⟩
section
variable (P : Nat) (F : Fk) (O : Nat → Nat) (Y : Nat) (E : Ev)
/-- the chosen day, as a number -/
def chN : Nat := (seD P F O Y E).2.2.2.1.toNatClampNeg
/-- the day that comes -/
def cmN : Nat := if (seD P F O Y E).1 = 0 then anN P F O Y E Y P else chN P F O Y E
end
section
variable {P : Nat} {F : Fk} {O : Nat → Nat} {Y : Nat} {E : Ev}
theorem se_0 (h : (seD P F O Y E).1 = 0) : seD P F O Y E = (0, -5, -5, -5, 0) := (seN_inv (d8 P)).2.1 h
theorem se_1 (hP : P ≤ 4) (h : 0 < (seD P F O Y E).1) : (seD P F O Y E).2.2.2.1 = nI (chN P F O Y E) ∧ chN P F O Y E < d8 P := by
  obtain ⟨c, hc, e⟩ := (seN_inv (P := P) (F := F) (O := O) (Y := Y) (E := E) (d8 P)).2.2 h
  have e' : (seD P F O Y E).2.2.2.1 = nI c := e
  have hd := d8_le hP
  have q : chN P F O Y E = c := by
    unfold chN
    rw [e', nI_clamp (n := c) (by omega)]
  rw [q]
  exact ⟨e', hc⟩
theorem lt_cases (hP : P ≤ 4) {s : Nat} {l g c q : Int32} (h : seD P F O Y E = (s, l, g, c, q)) : (s = 0 ∧ c = -5 ∧ (seD P F O Y E).1 = 0) ∨ (0 < s ∧ c = nI (chN P F O Y E) ∧ chN P F O Y E < d8 P ∧ 0 < (seD P F O Y E).1) := by
  have e1 : (seD P F O Y E).1 = s := by rw [h]
  have e2 : (seD P F O Y E).2.2.2.1 = c := by rw [h]
  rcases Nat.eq_zero_or_pos s with h0 | h1
  · refine Or.inl ⟨h0, ?_, by omega⟩
    rw [← e2, se_0 (by omega)]
  · obtain ⟨a, b⟩ := se_1 (F := F) (O := O) (Y := Y) (E := E) hP (by omega)
    exact Or.inr ⟨h1, by rw [← e2]; exact a, b, by omega⟩
theorem se_le (hP : P ≤ 4) : (seD P F O Y E).1 ≤ 4096 := Nat.le_trans (seN_inv (d8 P)).1 (d8_le hP)
theorem cmN_0 (h : (seD P F O Y E).1 = 0) : cmN P F O Y E = anN P F O Y E Y P := if_pos h
theorem cmN_1 (h : 0 < (seD P F O Y E).1) : cmN P F O Y E = chN P F O Y E := if_neg (by omega)
theorem cmN_lt (hP : P ≤ 4) : cmN P F O Y E < d8 P := by
  by_cases h : (seD P F O Y E).1 = 0
  · rw [cmN_0 h]; exact anN_lt P
  · rw [cmN_1 (by omega)]; exact (se_1 hP (by omega)).2
end
/-- for how many hours one does it -/
def hoN (d p : Nat) : Nat → Nat
  | 0 => 0
  | h + 1 => hoN d p h + dB d (3 * p + h)
theorem hoN_le (d p : Nat) : ∀ h : Nat, hoN d p h ≤ h
  | 0 => Nat.le_refl _
  | h + 1 => by
    have a := hoN_le d p h
    have b := dB_lt d (3 * p + h)
    show _ + _ ≤ _
    omega
theorem hoN_1 {d p h : Nat} (e : dB d (3 * p + h) = 1) : hoN d p (h + 1) = hoN d p h + 1 := by
  show _ + _ = _
  rw [e]
theorem hoN_0 {d p h : Nat} (e : ¬ dB d (3 * p + h) = 1) : hoN d p (h + 1) = hoN d p h := by
  have := dB_lt d (3 * p + h)
  show _ + _ = _
  rw [show dB d (3 * p + h) = 0 by omega]; rfl
/-- the notes of the first q people behind a morning -/
def moO (O : Nat → Nat) (d nh : Nat) (q : Nat) : Nat → Nat := fun p => if p < q then (if nh ≤ hoN d p 3 then 1 else 0) else O p
theorem moO_0 {O : Nat → Nat} {d nh : Nat} : moO O d nh 0 = O := funext fun p => if_neg (Nat.not_lt_zero p)
theorem moO_s {O : Nat → Nat} {d nh q v : Nat} (h : v = (if nh ≤ hoN d q 3 then 1 else 0)) : fS (moO O d nh q) q v = moO O d nh (q + 1) := by
  funext p
  by_cases e : p = q
  · subst e
    rw [fS_s, h]
    exact (if_pos (Nat.lt_succ_self p)).symm
  · rw [fS_n e]
    unfold moO
    by_cases l : p < q
    · have l2 : p < q + 1 := by omega
      rw [if_pos l, if_pos l2]
    · have l2 : ¬ p < q + 1 := by omega
      rw [if_neg l, if_neg l2]
theorem moO_lt {O : Nat → Nat} {d nh q : Nat} (h : ∀ j, j < 4 → O j < 2) : ∀ j, j < 4 → moO O d nh q j < 2 := fun j hj => by
  unfold moO
  split
  · split <;> omega
  · exact h j hj
/-- a year: yesterday, notes, gain, on how many none stood -/
abbrev YS : Type := Nat × (Nat → Nat) × Int32 × Nat
def yrS (P : Nat) (F : Fk) (E : Ev) (nh : Nat) (s : YS) : YS := (cmN P F s.2.1 s.1 E, moO s.2.1 (cmN P F s.2.1 s.1 E) nh P, s.2.2.1 + gaN P F s.2.1 E (cmN P F s.2.1 s.1 E) P, s.2.2.2 + (if (seD P F s.2.1 s.1 E).1 = 0 then 1 else 0))
def yrN (P : Nat) (F : Fk) (O : Nat → Nat) (Y : Nat) (E : Ev) (nh : Nat) : Nat → YS
  | 0 => (Y, O, 0, 0)
  | n + 1 => yrS P F E nh (yrN P F O Y E nh n)
theorem yrN_ok {P : Nat} {F : Fk} {O : Nat → Nat} {Y : Nat} {E : Ev} {nh : Nat} (hP : P ≤ 4) (hY : Y < d8 P) (hO : ∀ j, j < 4 → O j < 2) : ∀ n : Nat, (yrN P F O Y E nh n).1 < d8 P ∧ (∀ j, j < 4 → (yrN P F O Y E nh n).2.1 j < 2) ∧ (yrN P F O Y E nh n).2.2.2 ≤ n
  | 0 => ⟨hY, hO, Nat.le_refl _⟩
  | n + 1 => by
    obtain ⟨a, b, c⟩ := yrN_ok (F := F) (E := E) (nh := nh) hP hY hO n
    refine ⟨cmN_lt hP, moO_lt b, ?_⟩
    show _ + _ ≤ _
    split <;> omega
/-- once: fuel, how many on, the day -/
def onN (P : Nat) (F : Fk) (O : Nat → Nat) (Y : Nat) (E : Ev) (w : Nat) : Nat → Nat → Nat → Int32
  | 0, _, _ => -5
  | n + 1, k, d => if foD P F O Y E d = -5 then (if w = 0 then nI k else nI d) else onN P F O Y E w n (k + 1) (anN P F O Y E d P)
section
variable {P : Nat} {F : Fk} {O : Nat → Nat} {Y : Nat} {E : Ev} {w n k d : Nat}
theorem onN_e (h : n = 0) : onN P F O Y E w n k d = -5 := by subst h; rfl
theorem onN_s (h : 0 < n) (h2 : ¬ foD P F O Y E d = -5) : onN P F O Y E w n k d = onN P F O Y E w (n - 1) (k + 1) (anN P F O Y E d P) := by
  obtain ⟨n, rfl⟩ : ∃ m, n = m + 1 := ⟨n - 1, by omega⟩
  exact if_neg h2
theorem onN_0 (h : 0 < n) (h2 : foD P F O Y E d = -5) (h3 : w = 0) : onN P F O Y E w n k d = nI k := by
  obtain ⟨n, rfl⟩ : ∃ m, n = m + 1 := ⟨n - 1, by omega⟩
  exact (if_pos h2).trans (if_pos h3)
theorem onN_1 (h : 0 < n) (h2 : foD P F O Y E d = -5) (h3 : ¬ w = 0) : onN P F O Y E w n k d = nI d := by
  obtain ⟨n, rfl⟩ : ∃ m, n = m + 1 := ⟨n - 1, by omega⟩
  exact (if_pos h2).trans (if_neg h3)
end
/-- again: the days on from d -/
def caN (P : Nat) (F : Fk) (O : Nat → Nat) (Y : Nat) (E : Ev) (d : Nat) : Nat → Nat
  | 0 => d
  | k + 1 => anN P F O Y E (caN P F O Y E d k) P
theorem caN_lt {P : Nat} {F : Fk} {O : Nat → Nat} {Y : Nat} {E : Ev} {d : Nat} (hd : d < d8 P) : ∀ k : Nat, caN P F O Y E d k < d8 P
  | 0 => hd
  | k + 1 => anN_lt P
/-- the first place from j on, of n, where f is x; else j + n -/
def fjN (f : Nat → Nat) (x : Nat) : Nat → Nat → Nat
  | 0, j => j
  | n + 1, j => if f j = x then j else fjN f x n (j + 1)
theorem fjN_e {f : Nat → Nat} {x n j : Nat} (h : n = 0) : fjN f x n j = j := by subst h; rfl
theorem fjN_y {f : Nat → Nat} {x n j : Nat} (hn : 0 < n) (h : f j = x) : fjN f x n j = j := by
  obtain ⟨n, rfl⟩ : ∃ m, n = m + 1 := ⟨n - 1, by omega⟩
  exact if_pos h
theorem fjN_n {f : Nat → Nat} {x n j : Nat} (hn : 0 < n) (h : ¬ f j = x) : fjN f x n j = fjN f x (n - 1) (j + 1) := by
  obtain ⟨n, rfl⟩ : ∃ m, n = m + 1 := ⟨n - 1, by omega⟩
  exact if_neg h
def agN (P : Nat) (F : Fk) (O : Nat → Nat) (Y : Nat) (E : Ev) (d w : Nat) : Nat → Nat → Int32
  | 0, _ => -5
  | n + 1, k => if fjN (caN P F O Y E d) (caN P F O Y E d k) k 0 < k then (if w = 0 then nI k else nI (k - fjN (caN P F O Y E d) (caN P F O Y E d k) k 0)) else agN P F O Y E d w n (k + 1)
section
variable {P : Nat} {F : Fk} {O : Nat → Nat} {Y : Nat} {E : Ev} {d w n k j : Nat}
theorem agN_e (h : n = 0) : agN P F O Y E d w n k = -5 := by subst h; rfl
theorem agN_s (hn : 0 < n) (h : fjN (caN P F O Y E d) (caN P F O Y E d k) k 0 = k) : agN P F O Y E d w n k = agN P F O Y E d w (n - 1) (k + 1) := by
  obtain ⟨n, rfl⟩ : ∃ m, n = m + 1 := ⟨n - 1, by omega⟩
  exact if_neg (by omega)
theorem agN_0 (hn : 0 < n) (h : fjN (caN P F O Y E d) (caN P F O Y E d k) k 0 = j) (hj : j < k) (hw : w = 0) : agN P F O Y E d w n k = nI k := by
  obtain ⟨n, rfl⟩ : ∃ m, n = m + 1 := ⟨n - 1, by omega⟩
  exact (if_pos (by omega)).trans (if_pos hw)
theorem agN_1 (hn : 0 < n) (h : fjN (caN P F O Y E d) (caN P F O Y E d k) k 0 = j) (hj : j < k) (hw : ¬ w = 0) : agN P F O Y E d w n k = nI (k - j) := by
  obtain ⟨n, rfl⟩ : ∃ m, n = m + 1 := ⟨n - 1, by omega⟩
  refine (if_pos (by omega)).trans ((if_neg hw).trans ?_)
  rw [h]
end
/-- bet: of the first d days that stand, in how many the place is done -/
def upN (P : Nat) (F : Fk) (O : Nat → Nat) (Y : Nat) (E : Ev) (pl : Nat) : Nat → Nat
  | 0 => 0
  | d + 1 => upN P F O Y E pl d + (if foD P F O Y E d = -5 ∧ dB d pl = 1 then 1 else 0)
section
variable {P : Nat} {F : Fk} {O : Nat → Nat} {Y : Nat} {E : Ev} {pl d : Nat}
theorem upN_1 (h : foD P F O Y E d = -5) (h2 : dB d pl = 1) : upN P F O Y E pl (d + 1) = upN P F O Y E pl d + 1 := by
  show _ + _ = _
  rw [if_pos ⟨h, h2⟩]
theorem upN_0 (h : ¬ (foD P F O Y E d = -5 ∧ dB d pl = 1)) : upN P F O Y E pl (d + 1) = upN P F O Y E pl d := by
  show _ + _ = _
  rw [if_neg h]; rfl
theorem seN_s1 (h : foD P F O Y E d = -5) : (seN P F O Y E (d + 1)).1 = (seN P F O Y E d).1 + 1 := by
  by_cases h2 : (seN P F O Y E d).1 = 0
  · rw [seN_1 h h2]
  · by_cases h3 : (seN P F O Y E d).2.2.2.2 < gaN P F O E d P
    · rw [seN_2 h h2 h3]
    · rw [seN_3 h h2 h3]
theorem upN_le : ∀ d : Nat, upN P F O Y E pl d ≤ (seN P F O Y E d).1
  | 0 => Nat.le_refl _
  | d + 1 => by
    have ih := upN_le d
    by_cases h : foD P F O Y E d = -5
    · rw [seN_s1 h]
      by_cases h2 : dB d pl = 1
      · rw [upN_1 h h2]; omega
      · rw [upN_0 (fun q => h2 q.2)]; omega
    · rw [seN_0 h, upN_0 (fun q => h q.1)]; exact ih
end
def beN (P : Nat) (F : Fk) (O : Nat → Nat) (Y : Nat) (E : Ev) (pl w : Nat) : Int32 := if upN P F O Y E pl (d8 P) = 0 then nI w else (if w = 0 then nI (upN P F O Y E pl (d8 P) / Nat.gcd (upN P F O Y E pl (d8 P)) (seD P F O Y E).1) else nI ((seD P F O Y E).1 / Nat.gcd (upN P F O Y E pl (d8 P)) (seD P F O Y E).1))
/-- sure -/
def bN4 (s : Nat) : Nat := s % 2 + s / 2 % 2 + s / 4 % 2 + s / 8 % 2
def tlF (F : Fk) (c s q : Nat) : Fk := (fun p => if p < q ∧ s / 2 ^ p % 2 = 1 then 6 else F.1 p, F.2.1, fun p => if p < q ∧ s / 2 ^ p % 2 = 1 then c / 8 ^ p % 8 else F.2.2 p)
def suN (P : Nat) (F : Fk) (O : Nat → Nat) (Y : Nat) (E : Ev) : Nat → Nat
  | 0 => 16
  | s + 1 => if suN P F O Y E s = 16 ∨ bN4 s < bN4 (suN P F O Y E s) then (if (seD P (tlF F (chN P F O Y E) s P) O Y E).1 = 1 then s else suN P F O Y E s) else suN P F O Y E s
section
variable {P : Nat} {F : Fk} {O : Nat → Nat} {Y : Nat} {E : Ev} {s : Nat}
theorem suN_0 (h : ¬ suN P F O Y E s = 16) (h2 : ¬ bN4 s < bN4 (suN P F O Y E s)) : suN P F O Y E (s + 1) = suN P F O Y E s := if_neg (fun q => q.elim h h2)
theorem suN_1 (h : suN P F O Y E s = 16 ∨ bN4 s < bN4 (suN P F O Y E s)) (h2 : (seD P (tlF F (chN P F O Y E) s P) O Y E).1 = 1) : suN P F O Y E (s + 1) = s := (if_pos h).trans (if_pos h2)
theorem suN_2 (h : suN P F O Y E s = 16 ∨ bN4 s < bN4 (suN P F O Y E s)) (h2 : ¬ (seD P (tlF F (chN P F O Y E) s P) O Y E).1 = 1) : suN P F O Y E (s + 1) = suN P F O Y E s := (if_pos h).trans (if_neg h2)
theorem suN_le : ∀ s : Nat, suN P F O Y E s = 16 ∨ suN P F O Y E s < s
  | 0 => Or.inl rfl
  | s + 1 => by
    have ih := suN_le s
    by_cases h : suN P F O Y E s = 16 ∨ bN4 s < bN4 (suN P F O Y E s)
    · by_cases h2 : (seD P (tlF F (chN P F O Y E) s P) O Y E).1 = 1
      · rw [suN_1 h h2]; exact Or.inr (Nat.lt_succ_self s)
      · rw [suN_2 h h2]; omega
    · rw [suN_0 (fun q => h (Or.inl q)) (fun q => h (Or.inr q))]; omega
end
def suA (P : Nat) (F : Fk) (O : Nat → Nat) (Y : Nat) (E : Ev) : Int32 := if (seD P F O Y E).1 = 0 then -5 else (if suN P F O Y E (2 ^ P) = 16 then -5 else nI (suN P F O Y E (2 ^ P)))
theorem tlF_0 {F : Fk} {c s : Nat} : tlF F c s 0 = F := by
  unfold tlF
  have e1 : (fun p => if p < 0 ∧ s / 2 ^ p % 2 = 1 then 6 else F.1 p) = F.1 := funext fun p => if_neg (fun h => Nat.not_lt_zero p h.1)
  have e2 : (fun p => if p < 0 ∧ s / 2 ^ p % 2 = 1 then c / 8 ^ p % 8 else F.2.2 p) = F.2.2 := funext fun p => if_neg (fun h => Nat.not_lt_zero p h.1)
  rw [e1, e2]
theorem tlF_B {F : Fk} {c s q : Nat} (B : FB F) : FB (tlF F c s q) := by
  refine ⟨fun j hj => ?_, B.2.1, fun j hj => ?_⟩
  · show (if _ then _ else _) < 7
    split
    · omega
    · exact B.1 j hj
  · show (if _ then _ else _) < 8
    split
    · exact Nat.mod_lt _ (by decide)
    · exact B.2.2 j hj
/-- secret -/
def scF (F : Fk) (p : Nat) : Fk := (fS F.1 p 3, F.2.1, F.2.2)
theorem scF_B {F : Fk} {p : Nat} (B : FB F) : FB (scF F p) := ⟨fS_lt B.1 (by decide), B.2.1, B.2.2⟩
/-- at how many of the first h hours two days tell otherwise of one -/
def dfN (a b p : Nat) : Nat → Nat
  | 0 => 0
  | h + 1 => dfN a b p h + (if dB a (3 * p + h) = dB b (3 * p + h) then 0 else 1)
theorem dfN_0 {a b p h : Nat} (e : dB a (3 * p + h) = dB b (3 * p + h)) : dfN a b p (h + 1) = dfN a b p h := by
  show _ + _ = _
  rw [if_pos e]; rfl
theorem dfN_1 {a b p h : Nat} (e : ¬ dB a (3 * p + h) = dB b (3 * p + h)) : dfN a b p (h + 1) = dfN a b p h + 1 := by
  show _ + _ = _
  rw [if_neg e]
def scA (P : Nat) (F : Fk) (O : Nat → Nat) (Y : Nat) (E : Ev) (p w : Nat) : Int32 := if w = 0 then (seD P (scF F p) O Y E).2.2.2.1 else (if (seD P F O Y E).1 = 0 ∨ (seD P (scF F p) O Y E).1 = 0 then -5 else nI (dfN (chN P F O Y E) (chN P (scF F p) O Y E) p 3))
end CCA
/-! what each call answers, of its own numbers -/
section CAP
def gP (n : Nat) (x : Int32) (f : Nat → Int32) (e : Int32) : Int32 := if (0 : Int32) ≤ x ∧ x < nI n then f x.toNatClampNeg else e
def gL (n : Nat) (x : Int32) (f : Nat → Int32) (e : Int32) : Int32 := if (0 : Int32) ≤ x ∧ x ≤ nI n then f x.toNatClampNeg else e
def gN (n : Nat) (x : Int32) (f : Nat → Int32) (e : Int32) : Int32 := if (1 : Int32) ≤ x ∧ x ≤ nI n then f x.toNatClampNeg else e
section
variable {n a : Nat} {x e : Int32} {f : Nat → Int32}
theorem gP_y (h : a < n) (hn : n ≤ 1000000) : gP n (nI a) f e = f a := by
  unfold gP
  rw [if_pos ⟨nI_pos' (by omega), nI_lt h (by omega)⟩, nI_clamp (n := a) (by omega)]
theorem gP_n (h : ¬ ((0 : Int32) ≤ x ∧ x < nI n)) : gP n x f e = e := if_neg h
theorem gL_y (h : a ≤ n) (hn : n ≤ 1000000) : gL n (nI a) f e = f a := by
  unfold gL
  rw [if_pos ⟨nI_pos' (by omega), nI_le h (by omega)⟩, nI_clamp (n := a) (by omega)]
theorem gL_n (h : ¬ ((0 : Int32) ≤ x ∧ x ≤ nI n)) : gL n x f e = e := if_neg h
theorem gN_y (h0 : 1 ≤ a) (h : a ≤ n) (hn : n ≤ 1000000) : gN n (nI a) f e = f a := by
  unfold gN
  have h1 : (1 : Int32) ≤ nI a := nI_le h0 (by omega)
  rw [if_pos ⟨h1, nI_le h (by omega)⟩, nI_clamp (n := a) (by omega)]
theorem gN_n (h : ¬ ((1 : Int32) ≤ x ∧ x ≤ nI n)) : gN n x f e = e := if_neg h
theorem part_iff : (x = 0 ∨ x = 1) ↔ ((0 : Int32) ≤ x ∧ x ≤ nI 1) := by
  constructor
  · rintro (rfl | rfl)
    · exact ⟨by decide, by decide +kernel⟩
    · exact ⟨by decide, by decide +kernel⟩
  · intro h
    obtain ⟨j, hj, rfl⟩ := nat_ofle h (by decide)
    rcases (show j = 0 ∨ j = 1 by omega) with rfl | rfl
    · exact Or.inl rfl
    · exact Or.inr rfl
theorem part_nat (h : x = 0 ∨ x = 1) : ∃ j : Nat, j ≤ 1 ∧ x = nI j := nat_ofle (part_iff.mp h) (by decide)
theorem nat_ofn {x : Int32} {n : Nat} (h : (1 : Int32) ≤ x ∧ x ≤ nI n) (hn : n < 2 ^ 31) : ∃ j : Nat, 1 ≤ j ∧ j ≤ n ∧ x = nI j := by
  obtain ⟨j, hj, rfl⟩ := nat_ofle1 h hn
  have h1 : (1 : Int32) ≤ nI j := h.1
  exact ⟨j, (nI_leI (a := 1) (b := j) (by decide) (by omega)).mp h1, hj, rfl⟩
end
/-- the notes as bits -/
def ntN (O : Nat → Nat) : Nat → Nat
  | 0 => 0
  | p + 1 => ntN O p + O p * 2 ^ p
theorem ntN_lt {O : Nat → Nat} (h : ∀ j, j < 4 → O j < 2) : ∀ q : Nat, q ≤ 4 → ntN O q < 2 ^ q
  | 0, _ => Nat.lt_of_lt_of_le (Nat.zero_lt_succ 0) (Nat.le_refl 1)
  | q + 1, hq => by
    have ih := ntN_lt h q (by omega)
    have ho := h q (by omega)
    show _ + _ * 2 ^ q < 2 ^ (q + 1)
    have : O q * 2 ^ q ≤ 1 * 2 ^ q := Nat.mul_le_mul_right _ (by omega)
    rw [Nat.pow_succ]
    omega
theorem ntN_cong {O O2 : Nat → Nat} : ∀ q : Nat, (∀ j, j < q → O j = O2 j) → ntN O q = ntN O2 q
  | 0, _ => rfl
  | q + 1, h => by
    show _ + O q * _ = _ + O2 q * _
    rw [h q (by omega), ntN_cong q (fun j hj => h j (by omega))]
theorem ntN_bit {O : Nat → Nat} (h : ∀ j, j < 4 → O j < 2) : ∀ q : Nat, q ≤ 4 → ∀ p, p < q → ntN O q / 2 ^ p % 2 = O p
  | 0, _, p, hp => absurd hp (Nat.not_lt_zero p)
  | q + 1, hq, p, hp => by
    have l := ntN_lt h q (by omega)
    have ho := h q (by omega)
    by_cases e : p = q
    · subst e
      show (ntN O p + O p * 2 ^ p) / 2 ^ p % 2 = O p
      rw [Nat.add_mul_div_right _ _ (Nat.pow_pos (by decide)), Nat.div_eq_of_lt l]
      omega
    · have ih := ntN_bit h q (by omega) p (by omega)
      show (ntN O q + O q * 2 ^ q) / 2 ^ p % 2 = O p
      obtain ⟨m, rfl⟩ : ∃ m, q = p + 1 + m := ⟨q - (p + 1), by omega⟩
      have e2 : O (p + 1 + m) * 2 ^ (p + 1 + m) = (O (p + 1 + m) * 2 ^ m * 2) * 2 ^ p := by
        rw [Nat.pow_add, Nat.pow_succ]
        simp only [Nat.mul_assoc, Nat.mul_comm, Nat.mul_left_comm]
      rw [e2, Nat.add_mul_div_right _ _ (Nat.pow_pos (by decide)), Nat.add_mul_mod_self_right]
      exact ih
theorem xor_d8 {P a k : Nat} (hP : P ≤ 4) (ha : a < d8 P) (hk : k < 3 * P) (h4 : k < 12) : a ^^^ 2 ^ k < d8 P := by
  rw [← d8_two] at *
  exact Nat.xor_lt_two_pow ha (Nat.pow_lt_pow_right (by decide) hk)
/-- the first n places are these numbers -/
def CDn (f : Nat → Int32) (g : Nat → Nat) (n : Nat) : Prop := ∀ j, j < n → f j = nI (g j)
theorem CDn.first {f : Nat → Int32} {g : Nat → Nat} : CDn (upd f 0 (nI (g 0))) g 1 := fun j hj => by rw [show j = 0 by omega, pk_us]
theorem CDn.push {f : Nat → Int32} {g : Nat → Nat} {n d : Nat} (h : CDn f g n) (e : d = g n) : CDn (upd f n (nI d)) g (n + 1) := fun j hj => by
  by_cases q : j = n
  · rw [q, pk_us, e]
  · rw [pk_un q]; exact h j (by omega)
theorem gcd_step (x y : Nat) : Nat.gcd x y = Nat.gcd y (x % y) := by
  rw [Nat.gcd_comm x y, Nat.gcd_rec y x, Nat.gcd_comm]
theorem gcd_ok {a b : Nat} (h : 0 < a) : 0 < Nat.gcd a b ∧ Nat.gcd a b ≤ a := ⟨Nat.gcd_pos_of_pos_left b h, Nat.gcd_le_left b h⟩
theorem CW.cong {f g : Nat → Int32} {T : Nat} {cw : List (Int32 × List Int32)} (h : CW g T cw) (e : ∀ i, 126 ≤ i → f i = g i) : CW f T cw := by
  refine ⟨h.1, h.2.1, ?_⟩
  rcases h.2.2 with a | ⟨t, n, a, b⟩
  · exact Or.inl a
  · exact Or.inr ⟨t, n, a, b.cong (e _ (by omega)) (e _ (by omega)) (fun i hi => e _ (by omega))⟩
theorem yr_eq {f g : Nat → Int32} {Y : Nat} {O : Nat → Nat} (h5 : g 5 = nI Y) (hO : A4 g 122 O) (e : EqN f g) : upd (upd (upd (upd (upd f 5 (nI Y)) 122 (nI (O 0))) 123 (nI (O 1))) 124 (nI (O 2))) 125 (nI (O 3)) = g := by
  funext i
  by_cases h1 : i = 125
  · subst h1; rw [pk_us]; exact (hO 3 (by omega)).symm
  · rw [pk_un h1]
    by_cases h2 : i = 124
    · subst h2; rw [pk_us]; exact (hO 2 (by omega)).symm
    · rw [pk_un h2]
      by_cases h3 : i = 123
      · subst h3; rw [pk_us]; exact (hO 1 (by omega)).symm
      · rw [pk_un h3]
        by_cases h4 : i = 122
        · subst h4; rw [pk_us]; exact (hO 0 (by omega)).symm
        · rw [pk_un h4]
          by_cases h6 : i = 5
          · subst h6; rw [pk_us]; exact h5.symm
          · rw [pk_un h6]; exact e i h6 (by omega)
/-- the calls -/
def tdA (P : Nat) (O : Nat → Nat) (Y nh : Nat) (x : Int32) : Int32 := gL 2 x (fun w => if w = 0 then nI nh else (if w = 1 then nI Y else nI (ntN O P))) (-1)
def ofA (P : Nat) (F : Fk) (O : Nat → Nat) (x y : Int32) : Int32 := gP P x (fun p => gL 3 y (fun w => if w = 0 then nI (F.1 p) else (if w = 1 then nI (F.2.1 p) else (if w = 2 then (if F.1 p = 6 then nI (F.2.2 p) else -5) else nI (O p)))) (-1)) (-1)
def ntA (P : Nat) (O : Nat → Nat) (x : Int32) : Int32 := gP P x (fun p => nI (O p)) (-1)
def ntF (P : Nat) (O : Nat → Nat) (x y : Int32) : Nat → Nat := if (0 : Int32) ≤ x ∧ x < nI P then fS O x.toNatClampNeg (if y = 0 then 0 else 1) else O
theorem ntF_n {P : Nat} {O : Nat → Nat} {x y : Int32} (h : ¬ ((0 : Int32) ≤ x ∧ x < nI P)) : ntF P O x y = O := if_neg h
theorem ntF_y {P p v : Nat} {O : Nat → Nat} {y : Int32} (h : p < P) (h4 : P ≤ 4) (hv : v = (if y = 0 then 0 else 1)) : ntF P O (nI p) y = fS O p v := by
  unfold ntF
  rw [if_pos (npe h h4), nI_clamp (n := p) (by omega), hv]
theorem ntF_lt {P : Nat} {O : Nat → Nat} {x y : Int32} (h : ∀ j, j < 4 → O j < 2) : ∀ j, j < 4 → ntF P O x y j < 2 := by
  unfold ntF
  split
  · exact fS_lt h (by split <;> omega)
  · exact h
def ydA (P Y : Nat) (x : Int32) : Int32 := gP (d8 P) x (fun _ => nI Y) (-2)
def ydY (P Y : Nat) (x : Int32) : Nat := if (0 : Int32) ≤ x ∧ x < nI (d8 P) then x.toNatClampNeg else Y
theorem ydY_n {P Y : Nat} {x : Int32} (h : ¬ ((0 : Int32) ≤ x ∧ x < nI (d8 P))) : ydY P Y x = Y := if_neg h
theorem ydY_y {P Y d : Nat} (h : d < d8 P) (h4 : P ≤ 4) : ydY P Y (nI d) = d := by
  have := d8_le h4
  unfold ydY
  rw [if_pos (npd h this), nI_clamp (n := d) (by omega)]
theorem ydY_lt {P Y : Nat} {x : Int32} (h4 : P ≤ 4) (h : Y < d8 P) : ydY P Y x < d8 P := by
  have := d8_le h4
  unfold ydY
  split
  · rename_i q
    obtain ⟨j, hj, rfl⟩ := nat_of q (by omega)
    rw [nI_clamp (n := j) (by omega)]; exact hj
  · exact h
section
variable (P : Nat) (F : Fk) (O : Nat → Nat) (Y : Nat) (E : Ev)
def byA (d p h w : Int32) : Int32 := gP P p (fun p => gP 3 h (fun h => gL 2 w (fun w => gP (d8 P) d (fun d => if w = 0 then wS E (F.1 p) O p (siN P d p) h else (if w = 1 then nI (wd F O E p (siN P d p) (siN P Y p) h) else gS E (F.1 p) O p (siN P d p) 3)) (-10002)) (-10001)) (-10001)) (-10001)
def dyA (d w : Int32) : Int32 := gL 2 w (fun w => gP (d8 P) d (fun d => if w = 0 then foD P F O Y E d else (if w = 1 then nI (anN P F O Y E d P) else gaN P F O E d P)) (-10002)) (-10001)
def alA (w : Int32) : Int32 := gL 4 w (fun w => if w = 0 then nI (seD P F O Y E).1 else (if w = 1 then (seD P F O Y E).2.1 else (if w = 2 then (seD P F O Y E).2.2.1 else (if w = 3 then (seD P F O Y E).2.2.2.1 else (if (seD P F O Y E).1 = 0 then -5 else (seD P F O Y E).2.2.2.2))))) (-10001)
def onA (d p h w : Int32) : Int32 := gP P p (fun p => gP 3 h (fun h => gL 1 w (fun w => gP (d8 P) d (fun d => onN P F O Y E w 61 0 (d ^^^ 2 ^ (3 * p + h))) (-2)) (-1)) (-1)) (-1)
def agA (d w : Int32) : Int32 := gL 1 w (fun w => gP (d8 P) d (fun d => agN P F O Y E d w 200 1) (-2)) (-1)
def yrA (nh : Nat) (n w : Int32) : Int32 := gL 1 w (fun w => gN 30 n (fun n => if w = 0 then (yrN P F O Y E nh n).2.2.1 else nI (yrN P F O Y E nh n).2.2.2) (-10002)) (-10001)
def btA (p h w : Int32) : Int32 := gP P p (fun p => gP 3 h (fun h => gL 1 w (fun w => beN P F O Y E (3 * p + h) w) (-1)) (-1)) (-1)
def seA (p w : Int32) : Int32 := gP P p (fun p => gL 1 w (fun w => scA P F O Y E p w) (-1)) (-1)
end
end CAP
/-! kinds, vs and rows that are set for a while -/
section CSU
def kS (F : Fk) (j k : Nat) : Fk := (fS F.1 j k, F.2.1, F.2.2)
def vS (F : Fk) (j k : Nat) : Fk := (F.1, fS F.2.1 j k, F.2.2)
def rS (F : Fk) (j k : Nat) : Fk := (F.1, F.2.1, fS F.2.2 j k)
section
variable {f : Nat → Int32} {F : Fk} {j k : Nat}
theorem AF.putK (h : AF f F) (hj : j < 4) : AF (upd f (110 + j) (nI k)) (kS F j k) := ⟨h.1.put, h.2.1.un (by omega), h.2.2.un (by omega)⟩
theorem AF.putV (h : AF f F) (hj : j < 4) : AF (upd f (114 + j) (nI k)) (vS F j k) := ⟨h.1.un (by omega), h.2.1.put, h.2.2.un (by omega)⟩
theorem AF.putR (h : AF f F) (hj : j < 4) : AF (upd f (118 + j) (nI k)) (rS F j k) := ⟨h.1.un (by omega), h.2.1.un (by omega), h.2.2.put⟩
theorem FB.putK (h : FB F) (hk : k < 7) : FB (kS F j k) := ⟨fS_lt h.1 hk, h.2.1, h.2.2⟩
theorem FB.putV (h : FB F) (hk : k < 10) : FB (vS F j k) := ⟨h.1, fS_lt h.2.1 hk, h.2.2⟩
theorem FB.putR (h : FB F) (hk : k < 8) : FB (rS F j k) := ⟨h.1, h.2.1, fS_lt h.2.2 hk⟩
end
/-- of those whose bit is set the row is told, the first q are done -/
def SUk (f : Nat → Int32) (P : Nat) (F : Fk) (c s q : Nat) : Prop := A4 f 114 F.2.1 ∧ ∀ j, j < 4 → (j < q ∨ P ≤ j) → f (110 + j) = nI ((tlF F c s P).1 j) ∧ f (118 + j) = nI ((tlF F c s P).2.2 j)
section
variable {f : Nat → Int32} {P : Nat} {F : Fk} {c s q : Nat}
theorem tlF_hi {j : Nat} (h : P ≤ j) : (tlF F c s P).1 j = F.1 j ∧ (tlF F c s P).2.2 j = F.2.2 j := ⟨if_neg (fun e => by omega), if_neg (fun e => by omega)⟩
theorem tlF_1 {j : Nat} (h : j < P) (e : s / 2 ^ j % 2 = 1) : (tlF F c s P).1 j = 6 ∧ (tlF F c s P).2.2 j = c / 2 ^ (3 * j) % 8 := by
  have e2 : (tlF F c s P).2.2 j = c / 8 ^ j % 8 := if_pos ⟨h, e⟩
  rw [e2, eight]
  exact ⟨if_pos ⟨h, e⟩, rfl⟩
theorem tlF_n {j : Nat} (e : ¬ s / 2 ^ j % 2 = 1) : (tlF F c s P).1 j = F.1 j ∧ (tlF F c s P).2.2 j = F.2.2 j := ⟨if_neg (fun h => e h.2), if_neg (fun h => e h.2)⟩
theorem SUk.zero (h : AF f F) : SUk f P F c s 0 := ⟨h.2.1, fun j hj h2 => by
  have e := tlF_hi (F := F) (c := c) (s := s) (P := P) (j := j) (by omega)
  rw [e.1, e.2]
  exact ⟨h.1 j hj, h.2.2 j hj⟩⟩
theorem SUk.re {s2 : Nat} (h : SUk f P F c s q) : SUk f P F c s2 0 := ⟨h.1, fun j hj h2 => by
  have e := tlF_hi (F := F) (c := c) (s := s) (P := P) (j := j) (by omega)
  have e2 := tlF_hi (F := F) (c := c) (s := s2) (P := P) (j := j) (by omega)
  have a := h.2 j hj (by omega)
  rw [e2.1, e2.2]
  rw [e.1, e.2] at a
  exact a⟩
theorem SUk.put1 (h : SUk f P F c s q) (hq : q < P) (h4 : P ≤ 4) (e : s / 2 ^ q % 2 = 1) : SUk (upd (upd f (110 + q) (nI 6)) (118 + q) (nI (c / 2 ^ (3 * q) % 8))) P F c s (q + 1) := by
  refine ⟨(h.1.un (by omega)).un (by omega), fun j hj h2 => ?_⟩
  by_cases n : j = q
  · subst n
    have t := tlF_1 (F := F) (c := c) hq e
    rw [t.1, t.2, pk_un (by omega), pk_us, pk_us]
    exact ⟨rfl, rfl⟩
  · rw [pk_un (by omega), pk_un (by omega), pk_un (by omega), pk_un (by omega)]
    exact h.2 j hj (by omega)
theorem SUk.put0 (h : SUk f P F c s q) (hq : q < P) (h4 : P ≤ 4) (e : ¬ s / 2 ^ q % 2 = 1) : SUk (upd (upd f (110 + q) (nI (F.1 q))) (118 + q) (nI (F.2.2 q))) P F c s (q + 1) := by
  refine ⟨(h.1.un (by omega)).un (by omega), fun j hj h2 => ?_⟩
  by_cases n : j = q
  · subst n
    have t := tlF_n (F := F) (c := c) (P := P) e
    rw [t.1, t.2, pk_un (by omega), pk_us, pk_us]
    exact ⟨rfl, rfl⟩
  · rw [pk_un (by omega), pk_un (by omega), pk_un (by omega), pk_un (by omega)]
    exact h.2 j hj (by omega)
theorem SUk.done (h : SUk f P F c s P) : AF f (tlF F c s P) := ⟨fun j hj => (h.2 j hj (by omega)).1, h.1, fun j hj => (h.2 j hj (by omega)).2⟩
end
theorem cnt_eq {x : Nat} : x / 2 ^ 0 % 2 + x / 2 ^ 1 % 2 + x / 2 ^ 2 % 2 + x / 2 ^ 3 % 2 = bN4 x := by
  show x / 1 % 2 + x / 2 % 2 + x / 4 % 2 + x / 8 % 2 = _
  rw [Nat.div_one]
  rfl
theorem bN4_le (x : Nat) : bN4 x ≤ 4 := by
  unfold bN4
  omega
theorem dB_00 {a b k l : Nat} (h : ¬ dB a k = 1) (h2 : ¬ dB b l = 1) : dB a k = dB b l := by
  have := dB_lt a k
  have := dB_lt b l
  omega
theorem scF_k {F : Fk} {p : Nat} : kS F p 3 = scF F p := rfl
end CSU
/-! more of what the calls answer -/
section CAQ
theorem out2 {x : Int32} (h0 : ¬ x = (0 : Int32)) (h1 : ¬ x = (1 : Int32)) (h2 : ¬ x = (2 : Int32)) : ¬ ((0 : Int32) ≤ x ∧ x ≤ nI 2) := fun h => by
  obtain ⟨j, hj, rfl⟩ := nat_ofle h (by decide)
  rcases (show j = 0 ∨ j = 1 ∨ j = 2 by omega) with rfl | rfl | rfl
  · exact h0 rfl
  · exact h1 rfl
  · exact h2 rfl
theorem out3 {x : Int32} (h0 : ¬ x = (0 : Int32)) (h1 : ¬ x = (1 : Int32)) (h2 : ¬ x = (2 : Int32)) (h3 : ¬ x = (3 : Int32)) : ¬ ((0 : Int32) ≤ x ∧ x ≤ nI 3) := fun h => by
  obtain ⟨j, hj, rfl⟩ := nat_ofle h (by decide)
  rcases (show j = 0 ∨ j = 1 ∨ j = 2 ∨ j = 3 by omega) with rfl | rfl | rfl | rfl
  · exact h0 rfl
  · exact h1 rfl
  · exact h2 rfl
  · exact h3 rfl
theorem out4 {x : Int32} (h0 : ¬ x = (0 : Int32)) (h1 : ¬ x = (1 : Int32)) (h2 : ¬ x = (2 : Int32)) (h3 : ¬ x = (3 : Int32)) (h4 : ¬ x = (4 : Int32)) : ¬ ((0 : Int32) ≤ x ∧ x ≤ nI 4) := fun h => by
  obtain ⟨j, hj, rfl⟩ := nat_ofle h (by decide)
  rcases (show j = 0 ∨ j = 1 ∨ j = 2 ∨ j = 3 ∨ j = 4 by omega) with rfl | rfl | rfl | rfl | rfl
  · exact h0 rfl
  · exact h1 rfl
  · exact h2 rfl
  · exact h3 rfl
  · exact h4 rfl
/-- count -/
def cntA (P T B S rl : Nat) (x : Int32) : Int32 := gL 4 x (fun w => if w = 0 then nI P else (if w = 1 then nI T else (if w = 2 then nI B else (if w = 3 then nI S else nI rl)))) (-1)
/-- feed -/
def fdA (S : Nat) (x : Int32) : Int32 := if (0 : Int32) ≤ x ∧ x ≤ (127 : Int32) then (if S = 100 then (-4) else nI (S + 1)) else (-2)
def fdS (S : Nat) (x : Int32) : Nat := if (0 : Int32) ≤ x ∧ x ≤ (127 : Int32) then (if S = 100 then S else S + 1) else S
def fdV (sv : Nat → Int32) (S : Nat) (x : Int32) : Nat → Int32 := if (0 : Int32) ≤ x ∧ x ≤ (127 : Int32) then (if S = 100 then sv else upd (upd sv (10 + S) x) 3 (nI (S + 1))) else sv
def fdC (ft : Nat → Int32) (S : Nat) (x : Int32) : Nat → Int32 := if (0 : Int32) ≤ x ∧ x ≤ (127 : Int32) then (if S = 100 then ft else upd ft S x) else ft
section
variable {S : Nat} {x : Int32} {sv ft : Nat → Int32}
theorem fd_1 (h : ¬ ((0 : Int32) ≤ x ∧ x ≤ (127 : Int32))) : fdA S x = (-2) ∧ fdS S x = S ∧ fdV sv S x = sv ∧ fdC ft S x = ft := ⟨if_neg h, if_neg h, if_neg h, if_neg h⟩
theorem fd_2 (h : (0 : Int32) ≤ x ∧ x ≤ (127 : Int32)) (h2 : S = 100) : fdA S x = (-4) ∧ fdS S x = S ∧ fdV sv S x = sv ∧ fdC ft S x = ft := ⟨(if_pos h).trans (if_pos h2), (if_pos h).trans (if_pos h2), (if_pos h).trans (if_pos h2), (if_pos h).trans (if_pos h2)⟩
theorem fd_3 (h : (0 : Int32) ≤ x ∧ x ≤ (127 : Int32)) (h2 : ¬ S = 100) : fdA S x = nI (S + 1) ∧ fdS S x = S + 1 ∧ fdV sv S x = upd (upd sv (10 + S) x) 3 (nI (S + 1)) ∧ fdC ft S x = upd ft S x := ⟨(if_pos h).trans (if_neg h2), (if_pos h).trans (if_neg h2), (if_pos h).trans (if_neg h2), (if_pos h).trans (if_neg h2)⟩
theorem nle_127 {a : Nat} (h : a ≤ 127) : (0 : Int32) ≤ nI a ∧ nI a ≤ (127 : Int32) := ⟨nI_pos' (by omega), nI_le h (by decide)⟩
theorem fdS_le (h : S ≤ 100) : fdS S x ≤ 100 := by
  unfold fdS
  split
  · split <;> omega
  · exact h
theorem fdV_fr (hS : S ≤ 100) {i : Nat} (h : i ≠ 3) (h2 : i < 10 ∨ 110 ≤ i) : fdV sv S x i = sv i := by
  unfold fdV
  split
  · split
    · rfl
    · rw [pk_un h, pk_un (by omega)]
  · rfl
/-- the tapes are the same -/
def TPr (ft sv : Nat → Int32) (S : Nat) : Prop := ∀ i, i < S → ft i = sv (10 + i)
theorem TPr.feed (hS : S ≤ 100) (h : TPr ft sv S) : TPr (fdC ft S x) (fdV sv S x) (fdS S x) := by
  unfold fdC fdV fdS
  split
  · split
    · exact h
    · intro j hj
      by_cases e : j = S
      · subst e; rw [pk_us, pk_un (by omega), pk_us]
      · rw [pk_un e, pk_un (by omega), pk_un (by omega)]; exact h j (by omega)
  · exact h
theorem TPr.cong {ft gt sv sw : Nat → Int32} {S : Nat} (h : TPr ft sv S) (e1 : ∀ i, i < S → gt i = ft i) (e2 : ∀ i, 10 ≤ i → i < 10 + S → sw i = sv i) : TPr gt sw S := fun j hj => (e1 j hj).trans ((h j hj).trans (e2 _ (by omega) (by omega)).symm)
end
/-- a new one's note -/
def perO (P : Nat) (O : Nat → Nat) (x y : Int32) : Nat → Nat := if (0 : Int32) ≤ x ∧ x ≤ (6 : Int32) then (if (0 : Int32) ≤ y ∧ y ≤ (9 : Int32) then (if nI P = (4 : Int32) then O else fS O P 0) else O) else O
theorem perO_1 {P : Nat} {O : Nat → Nat} {x y : Int32} (h : ¬ ((0 : Int32) ≤ x ∧ x ≤ (6 : Int32))) : perO P O x y = O := if_neg h
theorem perO_2 {P : Nat} {O : Nat → Nat} {x y : Int32} (h : (0 : Int32) ≤ x ∧ x ≤ (6 : Int32)) (h2 : ¬ ((0 : Int32) ≤ y ∧ y ≤ (9 : Int32))) : perO P O x y = O := (if_pos h).trans (if_neg h2)
theorem perO_3 {P : Nat} {O : Nat → Nat} {x y : Int32} (h : (0 : Int32) ≤ x ∧ x ≤ (6 : Int32)) (h2 : (0 : Int32) ≤ y ∧ y ≤ (9 : Int32)) (h3 : P = 4) : perO P O x y = O := (if_pos h).trans ((if_pos h2).trans (if_pos (congrArg nI h3)))
theorem perO_4 {P : Nat} {O : Nat → Nat} {a b : Nat} (h : a ≤ 6) (h2 : b ≤ 9) (h3 : P < 4) : perO P O (nI a) (nI b) = fS O P 0 := (if_pos (nle_6 h)).trans ((if_pos (nle_9 h2)).trans (if_neg (n4_ne h3)))
theorem perO_lt {P : Nat} {O : Nat → Nat} {x y : Int32} (h : ∀ j, j < 4 → O j < 2) : ∀ j, j < 4 → perO P O x y j < 2 := by
  unfold perO
  split
  · split
    · split
      · exact h
      · exact fS_lt h (by decide)
    · exact h
  · exact h
theorem A4.per {sv : Nat → Int32} {O : Nat → Nat} {P : Nat} {x y z w : Int32} (h : A4 sv 122 O) (hP : P < 4) : A4 (upd (upd (upd (upd (upd sv (110 + P) x) (114 + P) y) (118 + P) z) (122 + P) (nI 0)) 0 w) 122 (fS O P 0) := ((((h.un (by omega)).un (by omega)).un (by omega)).put (v := 0)).un (by omega)
theorem shn : ∀ a : Fin 2, ∀ k : Fin 4, nI a.val <<< (nI k.val &&& 31) = nI (a.val * 2 ^ k.val) := by decide +kernel
theorem or_note {n o q : Nat} (hn : n < 2 ^ q) : n ||| o * 2 ^ q = n + o * 2 ^ q := by
  have := Nat.two_pow_add_eq_or_of_lt hn o
  rw [Nat.or_comm, Nat.mul_comm o, ← this, Nat.add_comm]
theorem ntN_s {O : Nat → Nat} (h : ∀ j, j < 4 → O j < 2) {q : Nat} (hq : q < 4) : ntN O q ||| O q * 2 ^ q = ntN O (q + 1) := or_note (ntN_lt h q (by omega))
end CAQ
theorem gL_c {n a : Nat} {x e : Int32} {f : Nat → Int32} (hx : x = nI a) (h : a ≤ n) (hn : n ≤ 1000000) : gL n x f e = f a := by
  rw [hx]; exact gL_y h hn
