/-! what the calls about days answer -/
section CCA
theorem se_inj {s s2 : Nat} {a b c d a2 b2 c2 d2 : Int32} (h : ((s, a, b, c, d) : SR) = (s2, a2, b2, c2, d2)) : a = a2 ∧ b = b2 ∧ c = c2 ∧ d = d2 := by cases h; exact ⟨rfl, rfl, rfl, rfl⟩
theorem hnh_cong {f g : Nat → Int32} {T nh : Nat} (h : (T = 0 → nh = 0) ∧ ∀ t, T = t + 1 → g (136 + t) = nI nh) (e : ∀ i, 126 ≤ i → f i = g i) : (T = 0 → nh = 0) ∧ ∀ t, T = t + 1 → f (136 + t) = nI nh := ⟨h.1, fun t q => (e _ (by omega)).trans (h.2 t q)⟩
section
variable (P : Nat) (F : Fk) (O : Nat → Nat) (Y : Nat) (E : Ev)
/-- the chosen day, as a number -/
def chN : Nat := (seD P F O Y E).2.2.2.1.toNatClampNeg
/-- the day that comes -/
def cmN : Nat := if (seD P F O Y E).1 = 0 then anN P F O Y E Y P else chN P F O Y E
end
section
variable {P : Nat} {F : Fk} {O : Nat → Nat} {Y : Nat} {E : Ev}
theorem se_0 (h : (seD P F O Y E).1 = 0) : seD P F O Y E = (0, -5, -5, -5, 0) := (seN_inv (d8 P)).2.1 h
theorem se_1 (hP : P ≤ 4) (h : 0 < (seD P F O Y E).1) : (seD P F O Y E).2.2.2.1 = nI (chN P F O Y E) ∧ chN P F O Y E < d8 P := by
  obtain ⟨c, hc, e⟩ := (seN_inv (P := P) (F := F) (O := O) (Y := Y) (E := E) (d8 P)).2.2 h
  have e' : (seD P F O Y E).2.2.2.1 = nI c := e
  have hd := d8_le hP
  have q : chN P F O Y E = c := by
    unfold chN
    rw [e', nI_clamp (n := c) (by omega)]
  rw [q]
  exact ⟨e', hc⟩
theorem lt_cases (hP : P ≤ 4) {s : Nat} {l g c q : Int32} (h : seD P F O Y E = (s, l, g, c, q)) : (s = 0 ∧ c = -5 ∧ (seD P F O Y E).1 = 0) ∨ (0 < s ∧ c = nI (chN P F O Y E) ∧ chN P F O Y E < d8 P ∧ 0 < (seD P F O Y E).1) := by
  have e1 : (seD P F O Y E).1 = s := by rw [h]
  have e2 : (seD P F O Y E).2.2.2.1 = c := by rw [h]
  rcases Nat.eq_zero_or_pos s with h0 | h1
  · refine Or.inl ⟨h0, ?_, by omega⟩
    rw [← e2, se_0 (by omega)]
  · obtain ⟨a, b⟩ := se_1 (F := F) (O := O) (Y := Y) (E := E) hP (by omega)
    exact Or.inr ⟨h1, by rw [← e2]; exact a, b, by omega⟩
theorem se_le (hP : P ≤ 4) : (seD P F O Y E).1 ≤ 4096 := Nat.le_trans (seN_inv (d8 P)).1 (d8_le hP)
theorem cmN_0 (h : (seD P F O Y E).1 = 0) : cmN P F O Y E = anN P F O Y E Y P := if_pos h
theorem cmN_1 (h : 0 < (seD P F O Y E).1) : cmN P F O Y E = chN P F O Y E := if_neg (by omega)
theorem cmN_lt (hP : P ≤ 4) : cmN P F O Y E < d8 P := by
  by_cases h : (seD P F O Y E).1 = 0
  · rw [cmN_0 h]; exact anN_lt P
  · rw [cmN_1 (by omega)]; exact (se_1 hP (by omega)).2
end
/-- for how many hours one does it -/
def hoN (d p : Nat) : Nat → Nat
  | 0 => 0
  | h + 1 => hoN d p h + dB d (3 * p + h)
theorem hoN_le (d p : Nat) : ∀ h : Nat, hoN d p h ≤ h
  | 0 => Nat.le_refl _
  | h + 1 => by
    have a := hoN_le d p h
    have b := dB_lt d (3 * p + h)
    show _ + _ ≤ _
    omega
theorem hoN_1 {d p h : Nat} (e : dB d (3 * p + h) = 1) : hoN d p (h + 1) = hoN d p h + 1 := by
  show _ + _ = _
  rw [e]
theorem hoN_0 {d p h : Nat} (e : ¬ dB d (3 * p + h) = 1) : hoN d p (h + 1) = hoN d p h := by
  have := dB_lt d (3 * p + h)
  show _ + _ = _
  rw [show dB d (3 * p + h) = 0 by omega]; rfl
/-- the notes of the first q people behind a morning -/
def moO (O : Nat → Nat) (d nh : Nat) (q : Nat) : Nat → Nat := fun p => if p < q then (if nh ≤ hoN d p 3 then 1 else 0) else O p
theorem moO_0 {O : Nat → Nat} {d nh : Nat} : moO O d nh 0 = O := funext fun p => if_neg (Nat.not_lt_zero p)
theorem moO_s {O : Nat → Nat} {d nh q v : Nat} (h : v = (if nh ≤ hoN d q 3 then 1 else 0)) : fS (moO O d nh q) q v = moO O d nh (q + 1) := by
  funext p
  by_cases e : p = q
  · subst e
    rw [fS_s, h]
    exact (if_pos (Nat.lt_succ_self p)).symm
  · rw [fS_n e]
    unfold moO
    by_cases l : p < q
    · have l2 : p < q + 1 := by omega
      rw [if_pos l, if_pos l2]
    · have l2 : ¬ p < q + 1 := by omega
      rw [if_neg l, if_neg l2]
theorem moO_lt {O : Nat → Nat} {d nh q : Nat} (h : ∀ j, j < 4 → O j < 2) : ∀ j, j < 4 → moO O d nh q j < 2 := fun j hj => by
  unfold moO
  split
  · split <;> omega
  · exact h j hj
/-- a year: yesterday, notes, gain, on how many none stood -/
abbrev YS : Type := Nat × (Nat → Nat) × Int32 × Nat
def yrS (P : Nat) (F : Fk) (E : Ev) (nh : Nat) (s : YS) : YS := (cmN P F s.2.1 s.1 E, moO s.2.1 (cmN P F s.2.1 s.1 E) nh P, s.2.2.1 + gaN P F s.2.1 E (cmN P F s.2.1 s.1 E) P, s.2.2.2 + (if (seD P F s.2.1 s.1 E).1 = 0 then 1 else 0))
def yrN (P : Nat) (F : Fk) (O : Nat → Nat) (Y : Nat) (E : Ev) (nh : Nat) : Nat → YS
  | 0 => (Y, O, 0, 0)
  | n + 1 => yrS P F E nh (yrN P F O Y E nh n)
theorem yrN_ok {P : Nat} {F : Fk} {O : Nat → Nat} {Y : Nat} {E : Ev} {nh : Nat} (hP : P ≤ 4) (hY : Y < d8 P) (hO : ∀ j, j < 4 → O j < 2) : ∀ n : Nat, (yrN P F O Y E nh n).1 < d8 P ∧ (∀ j, j < 4 → (yrN P F O Y E nh n).2.1 j < 2) ∧ (yrN P F O Y E nh n).2.2.2 ≤ n
  | 0 => ⟨hY, hO, Nat.le_refl _⟩
  | n + 1 => by
    obtain ⟨a, b, c⟩ := yrN_ok (F := F) (E := E) (nh := nh) hP hY hO n
    refine ⟨cmN_lt hP, moO_lt b, ?_⟩
    show _ + _ ≤ _
    split <;> omega
/-- once: fuel, how many on, the day -/
def onN (P : Nat) (F : Fk) (O : Nat → Nat) (Y : Nat) (E : Ev) (w : Nat) : Nat → Nat → Nat → Int32
  | 0, _, _ => -5
  | n + 1, k, d => if foD P F O Y E d = -5 then (if w = 0 then nI k else nI d) else onN P F O Y E w n (k + 1) (anN P F O Y E d P)
section
variable {P : Nat} {F : Fk} {O : Nat → Nat} {Y : Nat} {E : Ev} {w n k d : Nat}
theorem onN_e (h : n = 0) : onN P F O Y E w n k d = -5 := by subst h; rfl
theorem onN_s (h : 0 < n) (h2 : ¬ foD P F O Y E d = -5) : onN P F O Y E w n k d = onN P F O Y E w (n - 1) (k + 1) (anN P F O Y E d P) := by
  obtain ⟨n, rfl⟩ : ∃ m, n = m + 1 := ⟨n - 1, by omega⟩
  exact if_neg h2
theorem onN_0 (h : 0 < n) (h2 : foD P F O Y E d = -5) (h3 : w = 0) : onN P F O Y E w n k d = nI k := by
  obtain ⟨n, rfl⟩ : ∃ m, n = m + 1 := ⟨n - 1, by omega⟩
  exact (if_pos h2).trans (if_pos h3)
theorem onN_1 (h : 0 < n) (h2 : foD P F O Y E d = -5) (h3 : ¬ w = 0) : onN P F O Y E w n k d = nI d := by
  obtain ⟨n, rfl⟩ : ∃ m, n = m + 1 := ⟨n - 1, by omega⟩
  exact (if_pos h2).trans (if_neg h3)
end
/-- again: the days on from d -/
def caN (P : Nat) (F : Fk) (O : Nat → Nat) (Y : Nat) (E : Ev) (d : Nat) : Nat → Nat
  | 0 => d
  | k + 1 => anN P F O Y E (caN P F O Y E d k) P
theorem caN_lt {P : Nat} {F : Fk} {O : Nat → Nat} {Y : Nat} {E : Ev} {d : Nat} (hd : d < d8 P) : ∀ k : Nat, caN P F O Y E d k < d8 P
  | 0 => hd
  | k + 1 => anN_lt P
/-- the first place from j on, of n, where f is x; else j + n -/
def fjN (f : Nat → Nat) (x : Nat) : Nat → Nat → Nat
  | 0, j => j
  | n + 1, j => if f j = x then j else fjN f x n (j + 1)
theorem fjN_e {f : Nat → Nat} {x n j : Nat} (h : n = 0) : fjN f x n j = j := by subst h; rfl
theorem fjN_y {f : Nat → Nat} {x n j : Nat} (hn : 0 < n) (h : f j = x) : fjN f x n j = j := by
  obtain ⟨n, rfl⟩ : ∃ m, n = m + 1 := ⟨n - 1, by omega⟩
  exact if_pos h
theorem fjN_n {f : Nat → Nat} {x n j : Nat} (hn : 0 < n) (h : ¬ f j = x) : fjN f x n j = fjN f x (n - 1) (j + 1) := by
  obtain ⟨n, rfl⟩ : ∃ m, n = m + 1 := ⟨n - 1, by omega⟩
  exact if_neg h
def agN (P : Nat) (F : Fk) (O : Nat → Nat) (Y : Nat) (E : Ev) (d w : Nat) : Nat → Nat → Int32
  | 0, _ => -5
  | n + 1, k => if fjN (caN P F O Y E d) (caN P F O Y E d k) k 0 < k then (if w = 0 then nI k else nI (k - fjN (caN P F O Y E d) (caN P F O Y E d k) k 0)) else agN P F O Y E d w n (k + 1)
section
variable {P : Nat} {F : Fk} {O : Nat → Nat} {Y : Nat} {E : Ev} {d w n k j : Nat}
theorem agN_e (h : n = 0) : agN P F O Y E d w n k = -5 := by subst h; rfl
theorem agN_s (hn : 0 < n) (h : fjN (caN P F O Y E d) (caN P F O Y E d k) k 0 = k) : agN P F O Y E d w n k = agN P F O Y E d w (n - 1) (k + 1) := by
  obtain ⟨n, rfl⟩ : ∃ m, n = m + 1 := ⟨n - 1, by omega⟩
  exact if_neg (by omega)
theorem agN_0 (hn : 0 < n) (h : fjN (caN P F O Y E d) (caN P F O Y E d k) k 0 = j) (hj : j < k) (hw : w = 0) : agN P F O Y E d w n k = nI k := by
  obtain ⟨n, rfl⟩ : ∃ m, n = m + 1 := ⟨n - 1, by omega⟩
  exact (if_pos (by omega)).trans (if_pos hw)
theorem agN_1 (hn : 0 < n) (h : fjN (caN P F O Y E d) (caN P F O Y E d k) k 0 = j) (hj : j < k) (hw : ¬ w = 0) : agN P F O Y E d w n k = nI (k - j) := by
  obtain ⟨n, rfl⟩ : ∃ m, n = m + 1 := ⟨n - 1, by omega⟩
  refine (if_pos (by omega)).trans ((if_neg hw).trans ?_)
  rw [h]
end
/-- bet: of the first d days that stand, in how many the place is done -/
def upN (P : Nat) (F : Fk) (O : Nat → Nat) (Y : Nat) (E : Ev) (pl : Nat) : Nat → Nat
  | 0 => 0
  | d + 1 => upN P F O Y E pl d + (if foD P F O Y E d = -5 ∧ dB d pl = 1 then 1 else 0)
section
variable {P : Nat} {F : Fk} {O : Nat → Nat} {Y : Nat} {E : Ev} {pl d : Nat}
theorem upN_1 (h : foD P F O Y E d = -5) (h2 : dB d pl = 1) : upN P F O Y E pl (d + 1) = upN P F O Y E pl d + 1 := by
  show _ + _ = _
  rw [if_pos ⟨h, h2⟩]
theorem upN_0 (h : ¬ (foD P F O Y E d = -5 ∧ dB d pl = 1)) : upN P F O Y E pl (d + 1) = upN P F O Y E pl d := by
  show _ + _ = _
  rw [if_neg h]; rfl
theorem seN_s1 (h : foD P F O Y E d = -5) : (seN P F O Y E (d + 1)).1 = (seN P F O Y E d).1 + 1 := by
  by_cases h2 : (seN P F O Y E d).1 = 0
  · rw [seN_1 h h2]
  · by_cases h3 : (seN P F O Y E d).2.2.2.2 < gaN P F O E d P
    · rw [seN_2 h h2 h3]
    · rw [seN_3 h h2 h3]
theorem upN_le : ∀ d : Nat, upN P F O Y E pl d ≤ (seN P F O Y E d).1
  | 0 => Nat.le_refl _
  | d + 1 => by
    have ih := upN_le d
    by_cases h : foD P F O Y E d = -5
    · rw [seN_s1 h]
      by_cases h2 : dB d pl = 1
      · rw [upN_1 h h2]; omega
      · rw [upN_0 (fun q => h2 q.2)]; omega
    · rw [seN_0 h, upN_0 (fun q => h q.1)]; exact ih
end
def beN (P : Nat) (F : Fk) (O : Nat → Nat) (Y : Nat) (E : Ev) (pl w : Nat) : Int32 := if upN P F O Y E pl (d8 P) = 0 then nI w else (if w = 0 then nI (upN P F O Y E pl (d8 P) / Nat.gcd (upN P F O Y E pl (d8 P)) (seD P F O Y E).1) else nI ((seD P F O Y E).1 / Nat.gcd (upN P F O Y E pl (d8 P)) (seD P F O Y E).1))
/-- sure -/
def bN4 (s : Nat) : Nat := s % 2 + s / 2 % 2 + s / 4 % 2 + s / 8 % 2
def tlF (F : Fk) (c s q : Nat) : Fk := (fun p => if p < q ∧ s / 2 ^ p % 2 = 1 then 6 else F.1 p, F.2.1, fun p => if p < q ∧ s / 2 ^ p % 2 = 1 then c / 8 ^ p % 8 else F.2.2 p)
def suN (P : Nat) (F : Fk) (O : Nat → Nat) (Y : Nat) (E : Ev) : Nat → Nat
  | 0 => 16
  | s + 1 => if suN P F O Y E s = 16 ∨ bN4 s < bN4 (suN P F O Y E s) then (if (seD P (tlF F (chN P F O Y E) s P) O Y E).1 = 1 then s else suN P F O Y E s) else suN P F O Y E s
section
variable {P : Nat} {F : Fk} {O : Nat → Nat} {Y : Nat} {E : Ev} {s : Nat}
theorem suN_0 (h : ¬ suN P F O Y E s = 16) (h2 : ¬ bN4 s < bN4 (suN P F O Y E s)) : suN P F O Y E (s + 1) = suN P F O Y E s := if_neg (fun q => q.elim h h2)
theorem suN_1 (h : suN P F O Y E s = 16 ∨ bN4 s < bN4 (suN P F O Y E s)) (h2 : (seD P (tlF F (chN P F O Y E) s P) O Y E).1 = 1) : suN P F O Y E (s + 1) = s := (if_pos h).trans (if_pos h2)
theorem suN_2 (h : suN P F O Y E s = 16 ∨ bN4 s < bN4 (suN P F O Y E s)) (h2 : ¬ (seD P (tlF F (chN P F O Y E) s P) O Y E).1 = 1) : suN P F O Y E (s + 1) = suN P F O Y E s := (if_pos h).trans (if_neg h2)
theorem suN_le : ∀ s : Nat, suN P F O Y E s = 16 ∨ suN P F O Y E s < s
  | 0 => Or.inl rfl
  | s + 1 => by
    have ih := suN_le s
    by_cases h : suN P F O Y E s = 16 ∨ bN4 s < bN4 (suN P F O Y E s)
    · by_cases h2 : (seD P (tlF F (chN P F O Y E) s P) O Y E).1 = 1
      · rw [suN_1 h h2]; exact Or.inr (Nat.lt_succ_self s)
      · rw [suN_2 h h2]; omega
    · rw [suN_0 (fun q => h (Or.inl q)) (fun q => h (Or.inr q))]; omega
end
def suA (P : Nat) (F : Fk) (O : Nat → Nat) (Y : Nat) (E : Ev) : Int32 := if (seD P F O Y E).1 = 0 then -5 else (if suN P F O Y E (2 ^ P) = 16 then -5 else nI (suN P F O Y E (2 ^ P)))
theorem tlF_0 {F : Fk} {c s : Nat} : tlF F c s 0 = F := by
  unfold tlF
  have e1 : (fun p => if p < 0 ∧ s / 2 ^ p % 2 = 1 then 6 else F.1 p) = F.1 := funext fun p => if_neg (fun h => Nat.not_lt_zero p h.1)
  have e2 : (fun p => if p < 0 ∧ s / 2 ^ p % 2 = 1 then c / 8 ^ p % 8 else F.2.2 p) = F.2.2 := funext fun p => if_neg (fun h => Nat.not_lt_zero p h.1)
  rw [e1, e2]
theorem tlF_B {F : Fk} {c s q : Nat} (B : FB F) : FB (tlF F c s q) := by
  refine ⟨fun j hj => ?_, B.2.1, fun j hj => ?_⟩
  · show (if _ then _ else _) < 7
    split
    · omega
    · exact B.1 j hj
  · show (if _ then _ else _) < 8
    split
    · exact Nat.mod_lt _ (by decide)
    · exact B.2.2 j hj
/-- secret -/
def scF (F : Fk) (p : Nat) : Fk := (fS F.1 p 3, F.2.1, F.2.2)
theorem scF_B {F : Fk} {p : Nat} (B : FB F) : FB (scF F p) := ⟨fS_lt B.1 (by decide), B.2.1, B.2.2⟩
/-- at how many of the first h hours two days tell otherwise of one -/
def dfN (a b p : Nat) : Nat → Nat
  | 0 => 0
  | h + 1 => dfN a b p h + (if dB a (3 * p + h) = dB b (3 * p + h) then 0 else 1)
theorem dfN_0 {a b p h : Nat} (e : dB a (3 * p + h) = dB b (3 * p + h)) : dfN a b p (h + 1) = dfN a b p h := by
  show _ + _ = _
  rw [if_pos e]; rfl
theorem dfN_1 {a b p h : Nat} (e : ¬ dB a (3 * p + h) = dB b (3 * p + h)) : dfN a b p (h + 1) = dfN a b p h + 1 := by
  show _ + _ = _
  rw [if_neg e]
def scA (P : Nat) (F : Fk) (O : Nat → Nat) (Y : Nat) (E : Ev) (p w : Nat) : Int32 := if w = 0 then (seD P (scF F p) O Y E).2.2.2.1 else (if (seD P F O Y E).1 = 0 ∨ (seD P (scF F p) O Y E).1 = 0 then -5 else nI (dfN (chN P F O Y E) (chN P (scF F p) O Y E) p 3))
end CCA
