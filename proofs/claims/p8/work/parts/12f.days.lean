/-! days: what each would do, which stand -/
section CDY
def dB (d k : Nat) : Nat := d / 2 ^ k % 2
theorem dB_lt (d k : Nat) : dB d k < 2 := Nat.mod_lt _ (by decide)
/-- how many of the first q others do it -/
def oN (d p h : Nat) : Nat → Nat
  | 0 => 0
  | q + 1 => oN d p h q + (if q = p then 0 else dB d (3 * q + h))
section
variable {d p h q : Nat}
theorem oN_0 (e : q = p) : oN d p h (q + 1) = oN d p h q := by
  show _ + _ = _
  rw [if_pos e]; rfl
theorem oN_1 (e : ¬ q = p) (e2 : dB d (3 * q + h) = 1) : oN d p h (q + 1) = oN d p h q + 1 := by
  show _ + _ = _
  rw [if_neg e, e2]
theorem oN_2 (e : ¬ q = p) (e2 : ¬ dB d (3 * q + h) = 1) : oN d p h (q + 1) = oN d p h q := by
  show _ + _ = _
  have := dB_lt d (3 * q + h)
  rw [if_neg e, show dB d (3 * q + h) = 0 by omega]; rfl
end
theorem oN_le (d p h : Nat) : ∀ q : Nat, oN d p h q ≤ q ∧ (p < q → oN d p h q + 1 ≤ q)
  | 0 => ⟨Nat.le_refl _, fun h => absurd h (Nat.not_lt_zero p)⟩
  | q + 1 => by
    have ih := oN_le d p h q
    have hb := dB_lt d (3 * q + h)
    show oN d p h q + (if q = p then 0 else dB d (3 * q + h)) ≤ q + 1 ∧ (p < q + 1 → oN d p h q + (if q = p then 0 else dB d (3 * q + h)) + 1 ≤ q + 1)
    split
    · omega
    · omega
theorem oN_3 {d p h P : Nat} (hp : p < P) (hP : P ≤ 4) : oN d p h P ≤ 3 := by
  have := (oN_le d p h P).2 hp
  omega
/-- all that a day tells one: own hours, and how many others do it at each hour -/
def siN (P d p : Nat) : Nat := d / 8 ^ p % 8 + 8 * oN d p 0 P + 32 * oN d p 1 P + 128 * oN d p 2 P
def sO (s h : Nat) : Nat := s / 2 ^ h % 2
def sN (s h : Nat) : Nat := s / 2 ^ (3 + 2 * h) % 4
theorem eight (p : Nat) : 8 ^ p = 2 ^ (3 * p) := by rw [Nat.pow_mul]
theorem dB_own (d p h : Nat) (hh : h < 3) : d / 8 ^ p % 8 / 2 ^ h % 2 = dB d (3 * p + h) := by
  unfold dB
  rw [eight, Nat.pow_add, ← Nat.div_div_eq_div_mul]
  generalize d / 2 ^ (3 * p) = x
  rcases (show h = 0 ∨ h = 1 ∨ h = 2 by omega) with rfl | rfl | rfl
  · omega
  · omega
  · omega
theorem si_lt {P d p : Nat} (hp : p < P) (hP : P ≤ 4) : siN P d p < 512 := by
  have a := oN_3 (d := d) (h := 0) hp hP
  have b := oN_3 (d := d) (h := 1) hp hP
  have c := oN_3 (d := d) (h := 2) hp hP
  unfold siN
  omega
theorem si_own {P d p h : Nat} (hh : h < 3) : sO (siN P d p) h = dB d (3 * p + h) := by
  rw [← dB_own d p h hh]
  unfold sO siN
  rcases (show h = 0 ∨ h = 1 ∨ h = 2 by omega) with rfl | rfl | rfl
  · omega
  · omega
  · omega
theorem si_n {P d p h : Nat} (hp : p < P) (hP : P ≤ 4) (hh : h < 3) : sN (siN P d p) h = oN d p h P := by
  have a := oN_3 (d := d) (h := 0) hp hP
  have b := oN_3 (d := d) (h := 1) hp hP
  have c := oN_3 (d := d) (h := 2) hp hP
  unfold sN siN
  rcases (show h = 0 ∨ h = 1 ∨ h = 2 by omega) with rfl | rfl | rfl
  · show _ / 8 % 4 = _
    omega
  · show _ / 32 % 4 = _
    omega
  · show _ / 128 % 4 = _
    omega
theorem sO_lt (s h : Nat) : sO s h < 2 := Nat.mod_lt _ (by decide)
theorem sN_lt (s h : Nat) : sN s h < 4 := Nat.mod_lt _ (by decide)
/-- what doing it is worth, by a sight -/
def wS (E : Ev) (k : Nat) (O : Nat → Nat) (p s h : Nat) : Int32 := E p k h (if h = 0 then 0 else sN s (h - 1)) (sN s h) (if h = 0 then O p else sO s (h - 1))
theorem wS_0 {E : Ev} {k : Nat} {O : Nat → Nat} {p s : Nat} : wS E k O p s 0 = E p k 0 0 (sN s 0) (O p) := rfl
theorem wS_s {E : Ev} {k : Nat} {O : Nat → Nat} {p s h : Nat} (hh : h ≠ 0) : wS E k O p s h = E p k h (sN s (h - 1)) (sN s h) (sO s (h - 1)) := by
  unfold wS
  rw [if_neg hh, if_neg hh]
/-- the gain of the first h hours -/
def gS (E : Ev) (k : Nat) (O : Nat → Nat) (p s : Nat) : Nat → Int32
  | 0 => 0
  | h + 1 => gS E k O p s h + (if sO s h = 1 then wS E k O p s h else 0)
theorem gS_1 {E : Ev} {k : Nat} {O : Nat → Nat} {p s h : Nat} (e : sO s h = 1) : gS E k O p s (h + 1) = gS E k O p s h + wS E k O p s h := by
  show _ + _ = _
  rw [if_pos e]
theorem gS_0 {E : Ev} {k : Nat} {O : Nat → Nat} {p s h : Nat} (e : ¬ sO s h = 1) : gS E k O p s (h + 1) = gS E k O p s h := by
  show _ + _ = _
  rw [if_neg e, Int32.add_zero]
/-- the best of the first o rows of one's own beside what the others do, and its gain -/
def bS (E : Ev) (k : Nat) (O : Nat → Nat) (p c : Nat) : Nat → Nat × Int32
  | 0 => (0, 0)
  | o + 1 => if o = 0 ∨ (bS E k O p c o).2 < gS E k O p (8 * c + o) 3 then (o, gS E k O p (8 * c + o) 3) else bS E k O p c o
theorem bS_1 {E : Ev} {k : Nat} {O : Nat → Nat} {p c o : Nat} (e : o = 0 ∨ (bS E k O p c o).2 < gS E k O p (8 * c + o) 3) : bS E k O p c (o + 1) = (o, gS E k O p (8 * c + o) 3) := if_pos e
theorem bS_0 {E : Ev} {k : Nat} {O : Nat → Nat} {p c o : Nat} (e : ¬ o = 0) (e2 : ¬ (bS E k O p c o).2 < gS E k O p (8 * c + o) 3) : bS E k O p c (o + 1) = bS E k O p c o := if_neg (fun q => q.elim e e2)
theorem bS_lt {E : Ev} {k : Nat} {O : Nat → Nat} {p c : Nat} : ∀ o : Nat, (bS E k O p c o).1 ≤ o - 1
  | 0 => Nat.le_refl _
  | o + 1 => by
    have ih := bS_lt (E := E) (k := k) (O := O) (p := p) (c := c) o
    by_cases e : o = 0 ∨ (bS E k O p c o).2 < gS E k O p (8 * c + o) 3
    · rw [bS_1 e]; exact Nat.le_refl _
    · rw [bS_0 (fun q => e (Or.inl q)) (fun q => e (Or.inr q))]; omega
theorem gS_own0 {E : Ev} {k : Nat} {O : Nat → Nat} {p c : Nat} : gS E k O p (8 * c + 0) 3 = 0 := by
  rw [gS_0, gS_0, gS_0]
  · rfl
  · unfold sO; omega
  · unfold sO; omega
  · unfold sO; omega
theorem bS_one {E : Ev} {k : Nat} {O : Nat → Nat} {p c : Nat} : bS E k O p c 1 = (0, 0) := by
  rw [bS_1 (Or.inl rfl), gS_own0]
def besN (E : Ev) (k : Nat) (O : Nat → Nat) (p c : Nat) : Nat := (bS E k O p c 8).1
theorem besN_lt {E : Ev} {k : Nat} {O : Nat → Nat} {p c : Nat} : besN E k O p c < 8 := by
  have := bS_lt (E := E) (k := k) (O := O) (p := p) (c := c) 8
  unfold besN
  omega
/-- whether one would do it at an hour: its sight s, yesterday's ps -/
def wd (F : Fk) (O : Nat → Nat) (E : Ev) (p s ps h : Nat) : Nat :=
  if F.1 p = 1 then besN E (F.1 p) O p (s / 8) / 2 ^ h % 2
  else if F.1 p = 2 then (if sO s h = 1 ∧ -nI (F.2.1 p) ≤ wS E (F.1 p) O p s h then 1 else 0)
  else if F.1 p = 3 then (if (0 : Int32) < wS E (F.1 p) O p ps h then 1 else 0)
  else if F.1 p = 4 then (if F.2.1 p ≤ sN s h ∨ (sO s h = 1 ∧ -nI (F.2.1 p) ≤ wS E (F.1 p) O p s h) then 1 else 0)
  else if F.1 p = 5 then (if h = F.2.1 p % 3 then 1 - sO s h else (if (0 : Int32) < wS E (F.1 p) O p ps h then 1 else 0))
  else if F.1 p = 6 then F.2.2 p / 2 ^ h % 2
  else (if (0 : Int32) < wS E (F.1 p) O p s h then 1 else 0)
section
variable {F : Fk} {O : Nat → Nat} {E : Ev} {p s ps h : Nat}
theorem wd_k0 (k : F.1 p = 0) : wd F O E p s ps h = (if (0 : Int32) < wS E (F.1 p) O p s h then 1 else 0) := by
  unfold wd
  rw [if_neg (by omega), if_neg (by omega), if_neg (by omega), if_neg (by omega), if_neg (by omega), if_neg (by omega)]
theorem wd_k1 (k : F.1 p = 1) : wd F O E p s ps h = besN E (F.1 p) O p (s / 8) / 2 ^ h % 2 := if_pos k
theorem wd_k2 (k : F.1 p = 2) : wd F O E p s ps h = (if sO s h = 1 ∧ -nI (F.2.1 p) ≤ wS E (F.1 p) O p s h then 1 else 0) := by
  unfold wd
  rw [if_neg (by omega), if_pos k]
theorem wd_k3 (k : F.1 p = 3) : wd F O E p s ps h = (if (0 : Int32) < wS E (F.1 p) O p ps h then 1 else 0) := by
  unfold wd
  rw [if_neg (by omega), if_neg (by omega), if_pos k]
theorem wd_k4 (k : F.1 p = 4) : wd F O E p s ps h = (if F.2.1 p ≤ sN s h ∨ (sO s h = 1 ∧ -nI (F.2.1 p) ≤ wS E (F.1 p) O p s h) then 1 else 0) := by
  unfold wd
  rw [if_neg (by omega), if_neg (by omega), if_neg (by omega), if_pos k]
theorem wd_k5 (k : F.1 p = 5) : wd F O E p s ps h = (if h = F.2.1 p % 3 then 1 - sO s h else (if (0 : Int32) < wS E (F.1 p) O p ps h then 1 else 0)) := by
  unfold wd
  rw [if_neg (by omega), if_neg (by omega), if_neg (by omega), if_neg (by omega), if_pos k]
theorem wd_k6 (k : F.1 p = 6) : wd F O E p s ps h = F.2.2 p / 2 ^ h % 2 := by
  unfold wd
  rw [if_neg (by omega), if_neg (by omega), if_neg (by omega), if_neg (by omega), if_neg (by omega), if_pos k]
theorem wd_lt : wd F O E p s ps h < 2 := by
  unfold wd
  have a := sO_lt s h
  split
  · exact Nat.mod_lt _ (by decide)
  split
  · split <;> omega
  split
  · split <;> omega
  split
  · split <;> omega
  split
  · split
    · omega
    · split <;> omega
  split
  · exact Nat.mod_lt _ (by decide)
  · split <;> omega
end
/-- one's row -/
def rwN (F : Fk) (O : Nat → Nat) (E : Ev) (p s ps : Nat) : Nat := wd F O E p s ps 0 + 2 * wd F O E p s ps 1 + 4 * wd F O E p s ps 2
theorem rwN_lt {F : Fk} {O : Nat → Nat} {E : Ev} {p s ps : Nat} : rwN F O E p s ps < 8 := by
  have a := wd_lt (F := F) (O := O) (E := E) (p := p) (s := s) (ps := ps) (h := 0)
  have b := wd_lt (F := F) (O := O) (E := E) (p := p) (s := s) (ps := ps) (h := 1)
  have c := wd_lt (F := F) (O := O) (E := E) (p := p) (s := s) (ps := ps) (h := 2)
  unfold rwN
  omega
theorem rwN_bit {F : Fk} {O : Nat → Nat} {E : Ev} {p s ps h : Nat} (hh : h < 3) : rwN F O E p s ps / 2 ^ h % 2 = wd F O E p s ps h := by
  have a := wd_lt (F := F) (O := O) (E := E) (p := p) (s := s) (ps := ps) (h := 0)
  have b := wd_lt (F := F) (O := O) (E := E) (p := p) (s := s) (ps := ps) (h := 1)
  have c := wd_lt (F := F) (O := O) (E := E) (p := p) (s := s) (ps := ps) (h := 2)
  unfold rwN
  rcases (show h = 0 ∨ h = 1 ∨ h = 2 by omega) with rfl | rfl | rfl
  · show _ / 1 % 2 = _
    omega
  · show _ / 2 % 2 = _
    omega
  · show _ / 4 % 2 = _
    omega
theorem bits8 {x : Nat} (h : x < 8) : x / 2 ^ 0 % 2 + 2 * (x / 2 ^ 1 % 2) + 4 * (x / 2 ^ 2 % 2) = x := by
  show x / 1 % 2 + 2 * (x / 2 % 2) + 4 * (x / 4 % 2) = x
  omega
theorem rwN_best {F : Fk} {O : Nat → Nat} {E : Ev} {p s ps : Nat} (k : F.1 p = 1) : rwN F O E p s ps = besN E (F.1 p) O p (s / 8) := by
  unfold rwN
  rw [wd_k1 k, wd_k1 k, wd_k1 k]
  exact bits8 besN_lt
theorem rwN_told {F : Fk} {O : Nat → Nat} {E : Ev} {p s ps : Nat} (k : F.1 p = 6) (h : F.2.2 p < 8) : rwN F O E p s ps = F.2.2 p := by
  unfold rwN
  rw [wd_k6 k, wd_k6 k, wd_k6 k]
  exact bits8 h
/-- one's row by a day -/
def rwD (P : Nat) (F : Fk) (O : Nat → Nat) (Y : Nat) (E : Ev) (d p : Nat) : Nat := rwN F O E p (siN P d p) (siN P Y p)
theorem rwD_lt {P : Nat} {F : Fk} {O : Nat → Nat} {Y : Nat} {E : Ev} {d p : Nat} : rwD P F O Y E d p < 8 := rwN_lt
/-- the answer to a day: of the first q people -/
def anN (P : Nat) (F : Fk) (O : Nat → Nat) (Y : Nat) (E : Ev) (d : Nat) : Nat → Nat
  | 0 => 0
  | q + 1 => anN P F O Y E d q + rwD P F O Y E d q * 8 ^ q
theorem anN_lt {P : Nat} {F : Fk} {O : Nat → Nat} {Y : Nat} {E : Ev} {d : Nat} : ∀ q : Nat, anN P F O Y E d q < 8 ^ q
  | 0 => Nat.lt_of_lt_of_le (Nat.zero_lt_succ 0) (Nat.le_refl 1)
  | q + 1 => by
    have ih := anN_lt (P := P) (F := F) (O := O) (Y := Y) (E := E) (d := d) q
    have h := rwD_lt (P := P) (F := F) (O := O) (Y := Y) (E := E) (d := d) (p := q)
    show _ + _ * 8 ^ q < 8 ^ (q + 1)
    rw [Nat.pow_succ]
    generalize 8 ^ q = X at *
    generalize rwD P F O Y E d q = r at *
    have : r * X ≤ 7 * X := Nat.mul_le_mul_right X (by omega)
    omega
/-- the hour at which two rows first differ; 3: none -/
def hD (r o : Nat) : Nat := if ¬ r % 2 = o % 2 then 0 else (if ¬ r / 2 % 2 = o / 2 % 2 then 1 else (if ¬ r / 4 % 2 = o / 4 % 2 then 2 else 3))
theorem hD_3 {r o : Nat} (hr : r < 8) (ho : o < 8) : hD r o = 3 ↔ r = o := by
  unfold hD
  constructor
  · intro h
    split at h
    · omega
    · split at h
      · omega
      · split at h
        · omega
        · omega
  · rintro rfl
    rw [if_neg (by omega), if_neg (by omega), if_neg (by omega)]
theorem hD_le {r o : Nat} : hD r o ≤ 3 := by
  unfold hD
  split
  · omega
  · split
    · omega
    · split <;> omega
theorem hD_at {r o h : Nat} (hh : h < 3) (a : ∀ i, i < h → r / 2 ^ i % 2 = o / 2 ^ i % 2) (b : ¬ r / 2 ^ h % 2 = o / 2 ^ h % 2) : hD r o = h := by
  have e1 : ∀ x : Nat, x / 2 ^ 0 % 2 = x % 2 := fun x => by rw [Nat.pow_zero, Nat.div_one]
  rcases (show h = 0 ∨ h = 1 ∨ h = 2 by omega) with rfl | rfl | rfl
  · rw [e1, e1] at b; exact if_pos b
  · have a0 := a 0 (by omega); rw [e1, e1] at a0
    exact (if_neg (fun q => q a0)).trans (if_pos b)
  · have a0 := a 0 (by omega); rw [e1, e1] at a0
    have a1 := a 1 (by omega)
    exact (if_neg (fun q => q a0)).trans ((if_neg (fun q => q a1)).trans (if_pos b))
theorem hD_no {r o : Nat} (a : ∀ i, i < 3 → r / 2 ^ i % 2 = o / 2 ^ i % 2) : hD r o = 3 := by
  have e1 : ∀ x : Nat, x / 2 ^ 0 % 2 = x % 2 := fun x => by rw [Nat.pow_zero, Nat.div_one]
  have a0 := a 0 (by omega); rw [e1, e1] at a0
  have a1 := a 1 (by omega)
  have a2 := a 2 (by omega)
  exact (if_neg (fun q => q a0)).trans ((if_neg (fun q => q a1)).trans (if_neg (fun q => q a2)))
/-- who would do otherwise first: of n people from p on -/
def foN (P : Nat) (F : Fk) (O : Nat → Nat) (Y : Nat) (E : Ev) (d : Nat) : Nat → Nat → Int32
  | 0, _ => -5
  | n + 1, p => if hD (rwD P F O Y E d p) (d / 8 ^ p % 8) = 3 then foN P F O Y E d n (p + 1) else nI (10 * p + hD (rwD P F O Y E d p) (d / 8 ^ p % 8))
def foD (P : Nat) (F : Fk) (O : Nat → Nat) (Y : Nat) (E : Ev) (d : Nat) : Int32 := foN P F O Y E d P 0
theorem foN_e {P : Nat} {F : Fk} {O : Nat → Nat} {Y : Nat} {E : Ev} {d p q : Nat} (hq : q = 0) : foN P F O Y E d q p = -5 := by subst hq; rfl
theorem foN_s {P : Nat} {F : Fk} {O : Nat → Nat} {Y : Nat} {E : Ev} {d p n : Nat} (hn : 0 < n) (h : hD (rwD P F O Y E d p) (d / 8 ^ p % 8) = 3) : foN P F O Y E d n p = foN P F O Y E d (n - 1) (p + 1) := by
  obtain ⟨n, rfl⟩ : ∃ m, n = m + 1 := ⟨n - 1, by omega⟩
  exact if_pos h
theorem foN_h {P : Nat} {F : Fk} {O : Nat → Nat} {Y : Nat} {E : Ev} {d p n h : Nat} (hn : 0 < n) (h3 : h < 3) (hh : hD (rwD P F O Y E d p) (d / 8 ^ p % 8) = h) : foN P F O Y E d n p = nI (10 * p + h) := by
  obtain ⟨n, rfl⟩ : ∃ m, n = m + 1 := ⟨n - 1, by omega⟩
  subst hh
  exact if_neg (by omega)
/-- a day stands -/
def stD (P : Nat) (F : Fk) (O : Nat → Nat) (Y : Nat) (E : Ev) (d : Nat) : Prop := foD P F O Y E d = -5
theorem foN_iff {P : Nat} {F : Fk} {O : Nat → Nat} {Y : Nat} {E : Ev} {d : Nat} : ∀ n p : Nat, p + n ≤ 4 → (foN P F O Y E d n p = -5 ↔ ∀ q, p ≤ q → q < p + n → rwD P F O Y E d q = d / 8 ^ q % 8)
  | 0, p, _ => ⟨fun _ q h1 h2 => absurd h2 (by omega), fun _ => rfl⟩
  | n + 1, p, hp => by
    have ih := foN_iff (P := P) (F := F) (O := O) (Y := Y) (E := E) (d := d) n (p + 1) (by omega)
    have hr := rwD_lt (P := P) (F := F) (O := O) (Y := Y) (E := E) (d := d) (p := p)
    have ho : d / 8 ^ p % 8 < 8 := Nat.mod_lt _ (by decide)
    by_cases h : hD (rwD P F O Y E d p) (d / 8 ^ p % 8) = 3
    · rw [foN_s (Nat.succ_pos n) h]
      show foN P F O Y E d n (p + 1) = -5 ↔ _
      rw [ih]
      have e := (hD_3 hr ho).mp h
      constructor
      · intro a q h1 h2
        by_cases eq : q = p
        · rw [eq]; exact e
        · exact a q (by omega) (by omega)
      · intro a q h1 h2
        exact a q (by omega) (by omega)
    · have hle := hD_le (r := rwD P F O Y E d p) (o := d / 8 ^ p % 8)
      rw [foN_h (Nat.succ_pos n) (h := hD (rwD P F O Y E d p) (d / 8 ^ p % 8)) (by omega) rfl]
      constructor
      · intro a
        exact absurd a (nat_ne_neg (by omega) (by decide))
      · intro a
        exact absurd ((hD_3 hr ho).mpr (a p (by omega) (by omega))) h
/-- a day by its rows -/
theorem day_sum (d : Nat) : ∀ q : Nat, d % 8 ^ (q + 1) = d % 8 ^ q + d / 8 ^ q % 8 * 8 ^ q := fun q => by
  rw [Nat.pow_succ, Nat.mod_mul, Nat.mul_comm (8 ^ q)]
theorem anN_eq {P : Nat} {F : Fk} {O : Nat → Nat} {Y : Nat} {E : Ev} {d : Nat} : ∀ q : Nat, (anN P F O Y E d q = d % 8 ^ q ↔ ∀ p, p < q → rwD P F O Y E d p = d / 8 ^ p % 8)
  | 0 => ⟨fun _ p h => absurd h (Nat.not_lt_zero p), fun _ => by rw [Nat.pow_zero, Nat.mod_one]; rfl⟩
  | q + 1 => by
    have ih := anN_eq (P := P) (F := F) (O := O) (Y := Y) (E := E) (d := d) q
    have l1 := anN_lt (P := P) (F := F) (O := O) (Y := Y) (E := E) (d := d) q
    have l2 : d % 8 ^ q < 8 ^ q := Nat.mod_lt _ (Nat.pow_pos (by decide))
    have hd := day_sum d q
    have ha : anN P F O Y E d (q + 1) = anN P F O Y E d q + rwD P F O Y E d q * 8 ^ q := rfl
    constructor
    · intro h
      rw [ha, hd] at h
      have e1 : anN P F O Y E d q = d % 8 ^ q := by
        have := congrArg (fun x => x % 8 ^ q) h
        simpa only [Nat.add_mul_mod_self_right, Nat.mod_eq_of_lt l1, Nat.mod_eq_of_lt l2] using this
      have e2 : rwD P F O Y E d q = d / 8 ^ q % 8 := by
        rw [e1] at h
        exact Nat.eq_of_mul_eq_mul_right (Nat.pow_pos (by decide)) (Nat.add_left_cancel h)
      intro p hp
      by_cases e : p = q
      · rw [e]; exact e2
      · exact ih.mp e1 p (by omega)
    · intro h
      rw [ha, hd, ih.mpr (fun p hp => h p (by omega)), h q (by omega)]
theorem st_iff {P : Nat} {F : Fk} {O : Nat → Nat} {Y : Nat} {E : Ev} {d : Nat} (hP : P ≤ 4) (hd : d < d8 P) : anN P F O Y E d P = d ↔ stD P F O Y E d := by
  have a := anN_eq (P := P) (F := F) (O := O) (Y := Y) (E := E) (d := d) P
  have b := foN_iff (P := P) (F := F) (O := O) (Y := Y) (E := E) (d := d) P 0 (by omega)
  unfold d8 at hd
  rw [Nat.mod_eq_of_lt hd] at a
  rw [a]
  unfold stD foD
  rw [b]
  exact ⟨fun h q _ h2 => h q (by omega), fun h q h2 => h q (Nat.zero_le _) (by omega)⟩
/-- the gain of all together, of the first q people -/
def gaN (P : Nat) (F : Fk) (O : Nat → Nat) (E : Ev) (d : Nat) : Nat → Int32
  | 0 => 0
  | q + 1 => gaN P F O E d q + gS E (F.1 q) O q (siN P d q) 3
/-- the search of the first d days: how many stand, the least, the greatest, the chosen one, its gain -/
abbrev SR : Type := Nat × Int32 × Int32 × Int32 × Int32
def seN (P : Nat) (F : Fk) (O : Nat → Nat) (Y : Nat) (E : Ev) : Nat → SR
  | 0 => (0, -5, -5, -5, 0)
  | d + 1 => if foD P F O Y E d = -5 then ((seN P F O Y E d).1 + 1, (if (seN P F O Y E d).1 = 0 then nI d else (seN P F O Y E d).2.1), nI d, (if (seN P F O Y E d).1 = 0 ∨ (seN P F O Y E d).2.2.2.2 < gaN P F O E d P then nI d else (seN P F O Y E d).2.2.2.1), (if (seN P F O Y E d).1 = 0 ∨ (seN P F O Y E d).2.2.2.2 < gaN P F O E d P then gaN P F O E d P else (seN P F O Y E d).2.2.2.2)) else seN P F O Y E d
section
variable {P : Nat} {F : Fk} {O : Nat → Nat} {Y : Nat} {E : Ev} {d : Nat}
theorem seN_0 (h : ¬ foD P F O Y E d = -5) : seN P F O Y E (d + 1) = seN P F O Y E d := if_neg h
theorem seN_1 (h : foD P F O Y E d = -5) (h2 : (seN P F O Y E d).1 = 0) : seN P F O Y E (d + 1) = ((seN P F O Y E d).1 + 1, nI d, nI d, nI d, gaN P F O E d P) := by
  refine (if_pos h).trans ?_
  rw [if_pos h2, if_pos (Or.inl h2), if_pos (Or.inl h2)]
theorem seN_2 (h : foD P F O Y E d = -5) (h2 : ¬ (seN P F O Y E d).1 = 0) (h3 : (seN P F O Y E d).2.2.2.2 < gaN P F O E d P) : seN P F O Y E (d + 1) = ((seN P F O Y E d).1 + 1, (seN P F O Y E d).2.1, nI d, nI d, gaN P F O E d P) := by
  refine (if_pos h).trans ?_
  rw [if_neg h2, if_pos (Or.inr h3), if_pos (Or.inr h3)]
theorem seN_3 (h : foD P F O Y E d = -5) (h2 : ¬ (seN P F O Y E d).1 = 0) (h3 : ¬ (seN P F O Y E d).2.2.2.2 < gaN P F O E d P) : seN P F O Y E (d + 1) = ((seN P F O Y E d).1 + 1, (seN P F O Y E d).2.1, nI d, (seN P F O Y E d).2.2.2.1, (seN P F O Y E d).2.2.2.2) := by
  refine (if_pos h).trans ?_
  rw [if_neg h2, if_neg (fun q => q.elim h2 h3), if_neg (fun q => q.elim h2 h3)]
theorem seN_inv : ∀ d : Nat, (seN P F O Y E d).1 ≤ d ∧ ((seN P F O Y E d).1 = 0 → seN P F O Y E d = (0, -5, -5, -5, 0)) ∧ (0 < (seN P F O Y E d).1 → ∃ c : Nat, c < d ∧ (seN P F O Y E d).2.2.2.1 = nI c)
  | 0 => ⟨Nat.le_refl _, fun _ => rfl, fun h => absurd h (Nat.not_lt_zero 0)⟩
  | d + 1 => by
    obtain ⟨i1, i2, i3⟩ := seN_inv d
    by_cases h : foD P F O Y E d = -5
    · by_cases h2 : (seN P F O Y E d).1 = 0
      · rw [seN_1 h h2]
        exact ⟨Nat.succ_le_succ i1, fun q => absurd q (Nat.succ_ne_zero _), fun _ => ⟨d, Nat.lt_succ_self d, rfl⟩⟩
      · by_cases h3 : (seN P F O Y E d).2.2.2.2 < gaN P F O E d P
        · rw [seN_2 h h2 h3]
          exact ⟨Nat.succ_le_succ i1, fun q => absurd q (Nat.succ_ne_zero _), fun _ => ⟨d, Nat.lt_succ_self d, rfl⟩⟩
        · rw [seN_3 h h2 h3]
          obtain ⟨c, hc, e⟩ := i3 (by omega)
          exact ⟨Nat.succ_le_succ i1, fun q => absurd q (Nat.succ_ne_zero _), fun _ => ⟨c, by omega, e⟩⟩
    · rw [seN_0 h]
      refine ⟨by omega, i2, fun q => ?_⟩
      obtain ⟨c, hc, e⟩ := i3 q
      exact ⟨c, by omega, e⟩
end
def seD (P : Nat) (F : Fk) (O : Nat → Nat) (Y : Nat) (E : Ev) : SR := seN P F O Y E (d8 P)
/-- with another row of one's own -/
def wO (d p o : Nat) : Nat := d - d / 8 ^ p % 8 * 8 ^ p + o * 8 ^ p
theorem dB_lo {x y n k : Nat} (h : x % 2 ^ n = y % 2 ^ n) (hk : k < n) : dB x k = dB y k := by
  have e : ∀ z : Nat, dB z k = dB (z % 2 ^ n) k := fun z => by
    unfold dB
    obtain ⟨m, rfl⟩ : ∃ m, n = k + 1 + m := ⟨n - (k + 1), by omega⟩
    rw [Nat.pow_add, Nat.pow_succ, Nat.mul_assoc, Nat.mod_mul_right_div_self, Nat.mod_mul_right_mod]
  rw [e x, e y, h]
theorem dB_hi {x y n k : Nat} (h : x / 2 ^ n = y / 2 ^ n) (hk : n ≤ k) : dB x k = dB y k := by
  unfold dB
  obtain ⟨m, rfl⟩ : ∃ m, k = n + m := ⟨k - n, by omega⟩
  rw [Nat.pow_add, ← Nat.div_div_eq_div_mul, ← Nat.div_div_eq_div_mul, h]
theorem wO_parts {d p o : Nat} : ∃ A B D : Nat, B < 8 ^ p ∧ D < 8 ∧ d = (A * 8 + D) * 8 ^ p + B ∧ d / 8 ^ p % 8 = D ∧ wO d p o = (A * 8 + o) * 8 ^ p + B := by
  have h0 : 0 < 8 ^ p := Nat.pow_pos (by decide)
  refine ⟨d / 8 ^ p / 8, d % 8 ^ p, d / 8 ^ p % 8, Nat.mod_lt _ h0, Nat.mod_lt _ (by decide), ?_, rfl, ?_⟩
  · have e : d / 8 ^ p / 8 * 8 + d / 8 ^ p % 8 = d / 8 ^ p := by omega
    rw [e, Nat.mul_comm]
    exact (Nat.div_add_mod d (8 ^ p)).symm
  · unfold wO
    have e : d = (d / 8 ^ p / 8 * 8 + d / 8 ^ p % 8) * 8 ^ p + d % 8 ^ p := by
      have e : d / 8 ^ p / 8 * 8 + d / 8 ^ p % 8 = d / 8 ^ p := by omega
      rw [e, Nat.mul_comm]
      exact (Nat.div_add_mod d (8 ^ p)).symm
    generalize d / 8 ^ p / 8 = A at *
    generalize d / 8 ^ p % 8 = D at *
    generalize d % 8 ^ p = B at *
    generalize 8 ^ p = X at *
    subst e
    rw [Nat.add_mul, Nat.add_mul]
    omega
theorem wO_own {d p o : Nat} (ho : o < 8) : wO d p o / 8 ^ p % 8 = o := by
  obtain ⟨A, B, D, hB, hD, -, -, e⟩ := wO_parts (d := d) (p := p) (o := o)
  have h0 : 0 < 8 ^ p := Nat.pow_pos (by decide)
  rw [e, Nat.mul_comm, Nat.mul_add_div h0, Nat.div_eq_of_lt hB]
  omega
theorem wO_bit {d p o q h : Nat} (ho : o < 8) (hq : q ≠ p) (hh : h < 3) : dB (wO d p o) (3 * q + h) = dB d (3 * q + h) := by
  obtain ⟨A, B, D, hB, hD, e1, -, e2⟩ := wO_parts (d := d) (p := p) (o := o)
  have h0 : 0 < 8 ^ p := Nat.pow_pos (by decide)
  rcases Nat.lt_or_gt_of_ne hq with hlt | hgt
  · refine dB_lo (n := 3 * p) ?_ (by omega)
    rw [← eight, e2]
    conv => rhs; rw [e1]
    rw [Nat.mul_add_mod_self_right, Nat.mul_add_mod_self_right]
  · refine dB_hi (n := 3 * (p + 1)) ?_ (by omega)
    rw [← eight, Nat.pow_succ, ← Nat.div_div_eq_div_mul, ← Nat.div_div_eq_div_mul, e2]
    conv => rhs; rw [e1]
    rw [Nat.mul_comm _ (8 ^ p), Nat.mul_add_div h0, Nat.mul_comm _ (8 ^ p), Nat.mul_add_div h0, Nat.div_eq_of_lt hB]
    omega
theorem wO_on {d p o h : Nat} (ho : o < 8) (hh : h < 3) : ∀ q : Nat, oN (wO d p o) p h q = oN d p h q
  | 0 => rfl
  | q + 1 => by
    show oN (wO d p o) p h q + (if q = p then 0 else dB (wO d p o) (3 * q + h)) = oN d p h q + (if q = p then 0 else dB d (3 * q + h))
    rw [wO_on ho hh q]
    by_cases e : q = p
    · rw [if_pos e, if_pos e]
    · rw [if_neg e, if_neg e, wO_bit ho e hh]
theorem si_wO {P d p o : Nat} (hp : p < P) (hP : P ≤ 4) (ho : o < 8) : siN P (wO d p o) p = 8 * (siN P d p / 8) + o := by
  unfold siN
  rw [wO_own ho, wO_on ho (by decide), wO_on ho (by decide), wO_on ho (by decide)]
  omega
theorem wO_lt {d p o : Nat} (hd : d < 4096) (hp : p < 4) (ho : o < 8) : wO d p o < 4096 := by
  obtain ⟨A, B, D, hB, hD, e1, -, e2⟩ := wO_parts (d := d) (p := p) (o := o)
  rw [e2]
  rcases (show p = 0 ∨ p = 1 ∨ p = 2 ∨ p = 3 by omega) with rfl | rfl | rfl | rfl
  · simp only [Nat.pow_zero] at *; omega
  · rw [show (8 : Nat) ^ 1 = 8 by rfl] at *; omega
  · rw [show (8 : Nat) ^ 2 = 64 by rfl] at *; omega
  · rw [show (8 : Nat) ^ 3 = 512 by rfl] at *; omega
end CDY
