/-! the class's days -/
section CLS
def s4 (a b c d : Nat → Int32) (p : Nat) : Nat → Int32 := if p = 0 then a else (if p = 1 then b else (if p = 2 then c else d))
/-- one's worths are those of a kind -/
def WR (f : Nat → Int32) (E : Ev) (p k : Nat) : Prop := ∀ i, i < 96 → f i = E p k (i / 32) (i / 2 % 4) (i / 8 % 4) (i % 2)
def WRs (a b c d : Nat → Int32) (P : Nat) (F : Fk) (E : Ev) : Prop := ∀ p, p < P → WR (s4 a b c d p) E p (F.1 p)
def WKr (w a b c d : Nat → Int32) (E : Ev) : Prop := ∀ p, p < 4 → ∀ k, k < 7 → w p = nI k → WR (s4 a b c d p) E p k
section
variable {a b c d w : Nat → Int32} {P p : Nat} {F : Fk} {E : Ev}
theorem WRs.a0 (W : WRs a b c d P F E) (hp : p < P) (h : p = 0) : WR a E p (F.1 p) := by
  have e : s4 a b c d p = a := by rw [h]; rfl
  rw [← e]; exact W p hp
theorem WRs.a1 (W : WRs a b c d P F E) (hp : p < P) (h : p = 1) : WR b E p (F.1 p) := by
  have e : s4 a b c d p = b := by rw [h]; rfl
  rw [← e]; exact W p hp
theorem WRs.a2 (W : WRs a b c d P F E) (hp : p < P) (h : p = 2) : WR c E p (F.1 p) := by
  have e : s4 a b c d p = c := by rw [h]; rfl
  rw [← e]; exact W p hp
theorem WRs.a3 (W : WRs a b c d P F E) (hp : p < P) (h : p = 3) : WR d E p (F.1 p) := by
  have e : s4 a b c d p = d := by rw [h]; rfl
  rw [← e]; exact W p hp
theorem WKr.s (K : WKr w a b c d E) (B : FB F) (h4 : P ≤ 4) (h : ∀ p, p < P → w p = nI (F.1 p)) : WRs a b c d P F E := fun p hp => K p (by omega) (F.1 p) (B.1 p (by omega)) (h p hp)
theorem WKr.none (h : ∀ p, p < 4 → w p = (-1 : Int32)) : WKr w a b c d E := fun p hp k hk e => absurd ((h p hp).symm.trans e) (fun q => nat_ne_neg (n := k) (by omega) (z := -1) (by decide) q.symm)
theorem WKr.cong {w2 : Nat → Int32} (K : WKr w a b c d E) (h : ∀ p, p < 4 → w2 p = w p) : WKr w2 a b c d E := fun p hp k hk e => K p hp k hk ((h p hp).symm.trans e)
end
section
variable {f : Nat → Int32} {E : Ev} {p k s i : Nat} {O : Nat → Nat}
theorem wc_0 (W : WR f E p k) (hO : O p < 2) (hi : i = 8 * (s / 8 % 4) + O p) : f i = wS E k O p s 0 := by
  rw [wS_0, W i (by omega)]
  have e1 : i / 32 = 0 := by omega
  have e2 : i / 2 % 4 = 0 := by omega
  have e3 : i / 8 % 4 = sN s 0 := by show _ = s / 8 % 4; omega
  have e4 : i % 2 = O p := by omega
  rw [e1, e2, e3, e4]
theorem wc_1 (W : WR f E p k) (hi : i = 32 + 2 * (s / 8 % 16) + s % 2) : f i = wS E k O p s 1 := by
  rw [wS_s (by decide), W i (by omega)]
  have e1 : i / 32 = 1 := by omega
  have e2 : i / 2 % 4 = sN s (1 - 1) := by show _ = s / 8 % 4; omega
  have a0 : ∀ q : Nat, q % 16 / 4 = q / 4 % 4 := fun q => by omega
  have a1 : i / 8 = 4 + s / 8 % 16 / 4 := by omega
  have a2 : s / 32 = s / 8 / 4 := by omega
  have a3 := a0 (s / 8)
  have e3 : i / 8 % 4 = sN s 1 := by show _ = s / 32 % 4; rw [a1, a2, a3]; omega
  have e4 : i % 2 = sO s (1 - 1) := by show _ = s / 1 % 2; omega
  rw [e1, e2, e3, e4]
theorem wc_2 (W : WR f E p k) (hi : i = 64 + 2 * (s / 32 % 16) + s / 2 % 2) : f i = wS E k O p s 2 := by
  rw [wS_s (by decide), W i (by omega)]
  have e1 : i / 32 = 2 := by omega
  have e2 : i / 2 % 4 = sN s (2 - 1) := by show _ = s / 32 % 4; omega
  have a0 : ∀ q : Nat, q % 16 / 4 = q / 4 % 4 := fun q => by omega
  have a1 : i / 8 = 8 + s / 32 % 16 / 4 := by omega
  have a2 : s / 128 = s / 32 / 4 := by omega
  have a3 := a0 (s / 32)
  have e3 : i / 8 % 4 = sN s 2 := by show _ = s / 128 % 4; rw [a1, a2, a3]; omega
  have e4 : i % 2 = sO s (2 - 1) := by show _ = s / 2 % 2; omega
  rw [e1, e2, e3, e4]
end
theorem shlN {a k : Nat} (h : a * 2 ^ k < 2 ^ 32) (hk : k < 32) : nI a <<< (nI k &&& 31) = nI (a * 2 ^ k) := pk_shlN _ k (s31 k hk) h
theorem and12' : ∀ a : Fin 64, (a.val * 4) &&& 12 = 4 * (a.val % 4) := by decide +kernel
theorem and12 {a : Nat} (h : a < 64) : nI (a * 4) &&& 12 = nI (4 * (a % 4)) := by
  rw [show (12 : Int32) = nI 12 by decide +kernel, nx_and']
  exact congrArg nI (and12' ⟨a, h⟩)
theorem and511 {s : Nat} (h : s < 512) : nI s &&& 511 = nI s := by
  have := pk_andN (n := s) (by omega) (m := 511) 9 (by decide +kernel)
  rw [this, Nat.mod_eq_of_lt (by omega)]
theorem and8 {s : Nat} (h : s < 512) : nI s &&& (-8) = nI (8 * (s / 8)) := by
  have e : ∀ a : Fin 512, a.val &&& 4294967288 = 8 * (a.val / 8) := by decide +kernel
  rw [show (-8 : Int32) = nI 4294967288 by decide +kernel, nx_and']
  exact congrArg nI (e ⟨s, h⟩)
theorem or_lo {c o : Nat} (ho : o < 8) : nI (8 * c) ||| nI o = nI (8 * c + o) := by
  have := Nat.two_pow_add_eq_or_of_lt (i := 3) (b := o) ho c
  rw [nx_or]
  exact congrArg nI this.symm
/-- bits, counted -/
def us (x k : Int32) : Int32 := ((x).toUInt32 >>> ((k).toUInt32 &&& Int32.toUInt32 31)).toInt32
def bcA (x : Int32) : Int32 := x - (us x 1 &&& (1431655765 : Int32))
def bcB (x : Int32) : Int32 := (x &&& (858993459 : Int32)) + (us x 2 &&& (858993459 : Int32))
def bcC (x : Int32) : Int32 := (x + us x 4) &&& (252645135 : Int32)
def bcE (x : Int32) : Int32 := (let y := bcC (bcB (bcA x)); let z := y + us y 8; z + us z 16) &&& (63 : Int32)
theorem bc_16 : ∀ a : Fin 16, bcE (nI a.val) = nI (bN4 a.val) := by decide +kernel
theorem bc_4 : ∀ a b c d : Fin 2, bcE (nI (a.val + 8 * b.val + 64 * c.val + 512 * d.val)) = nI (a.val + b.val + c.val + d.val) := by decide +kernel
theorem bc_n {a : Nat} (h : a < 16) : bcE (nI a) = nI (bN4 a) := bc_16 ⟨a, h⟩
/-- the others' bits -/
def mskO (p : Nat) : Nat := if p = 0 then 584 else (if p = 1 then 577 else (if p = 2 then 521 else 73))
def o4b (x p : Nat) : Nat := (if p = 0 then 0 else x % 2) + 8 * (if p = 1 then 0 else x / 8 % 2) + 64 * (if p = 2 then 0 else x / 64 % 2) + 512 * (if p = 3 then 0 else x / 512 % 2)
def o4n (x p : Nat) : Nat := (if p = 0 then 0 else x % 2) + (if p = 1 then 0 else x / 8 % 2) + (if p = 2 then 0 else x / 64 % 2) + (if p = 3 then 0 else x / 512 % 2)
theorem o4_and' : ∀ p : Fin 4, ∀ a : Fin 64, ∀ b : Fin 64, (64 * a.val + b.val) &&& mskO p.val = o4b (64 * a.val + b.val) p.val := by decide +kernel
theorem o4_and {x p : Nat} (hx : x < 4096) (hp : p < 4) : x &&& mskO p = o4b x p := by
  have h := o4_and' ⟨p, hp⟩ ⟨x / 64, by omega⟩ ⟨x % 64, Nat.mod_lt _ (by decide)⟩
  simp only at h
  rw [show 64 * (x / 64) + x % 64 = x by omega] at h
  exact h
theorem o4_bc {x p : Nat} : bcE (nI (o4b x p)) = nI (o4n x p) := by
  have l : ∀ (c : Prop) [Decidable c] (y : Nat), (if c then 0 else y % 2) < 2 := fun c _ y => by split <;> omega
  exact bc_4 ⟨_, l (p = 0) x⟩ ⟨_, l (p = 1) (x / 8)⟩ ⟨_, l (p = 2) (x / 64)⟩ ⟨_, l (p = 3) (x / 512)⟩
theorem dB_z {P d k : Nat} (hd : d < d8 P) (hk : 3 * P ≤ k) : dB d k = 0 := by
  unfold dB
  have : d < 2 ^ k := Nat.lt_of_lt_of_le (by rw [d8_two]; exact hd) (Nat.pow_le_pow_right (by decide) hk)
  rw [Nat.div_eq_of_lt this]
theorem oN_up {P d p h : Nat} (hd : d < d8 P) : ∀ n : Nat, oN d p h (P + n) = oN d p h P
  | 0 => rfl
  | n + 1 => by
    have ih := oN_up (p := p) (h := h) hd n
    show oN d p h (P + n) + (if P + n = p then 0 else dB d (3 * (P + n) + h)) = _
    rw [dB_z hd (by omega), ih]
    split <;> rfl
theorem o4_on {P d p h : Nat} (hd : d < d8 P) (hP : P ≤ 4) : o4n (d / 2 ^ h) p = oN d p h P := by
  have e := oN_up (p := p) (h := h) hd (4 - P)
  rw [show P + (4 - P) = 4 by omega] at e
  rw [← e]
  show _ = 0 + (if 0 = p then 0 else dB d (3 * 0 + h)) + (if 1 = p then 0 else dB d (3 * 1 + h)) + (if 2 = p then 0 else dB d (3 * 2 + h)) + (if 3 = p then 0 else dB d (3 * 3 + h))
  have q : ∀ k : Nat, d / 2 ^ h / 2 ^ k % 2 = dB d (k + h) := fun k => by
    unfold dB
    rw [Nat.div_div_eq_div_mul, ← Nat.pow_add, Nat.add_comm]
  have q0 := q 0
  have q1 := q 3
  have q2 := q 6
  have q3 := q 9
  rw [Nat.pow_zero, Nat.div_one] at q0
  unfold o4n
  rw [show (8 : Nat) = 2 ^ 3 by rfl, show (64 : Nat) = 2 ^ 6 by rfl, show (512 : Nat) = 2 ^ 9 by rfl, q0, q1, q2, q3]
  have z0 : 3 * 0 + h = h := by omega
  have z1 : 3 * 1 + h = 3 + h := by omega
  have z2 : 3 * 2 + h = 6 + h := by omega
  have z3 : 3 * 3 + h = 9 + h := by omega
  simp only [eq_comm (b := p), Nat.zero_add, z0, z1, z2, z3]
theorem sg_n {P d p h : Nat} (hd : d < d8 P) (hP : P ≤ 4) (hp : p < 4) : bcE (nI (d / 2 ^ h) &&& nI (mskO p)) = nI (oN d p h P) := by
  have := d8_le hP
  have l : d / 2 ^ h ≤ d := Nat.div_le_self _ _
  rw [nx_and', o4_and (by omega) hp, o4_bc, o4_on hd hP]
/-- the sight, hour by hour -/
def snP (P d p : Nat) : Nat → Nat
  | 0 => d / 8 ^ p % 8
  | h + 1 => snP P d p h + oN d p h P * 2 ^ (3 + 2 * h)
theorem snP_3 {P d p : Nat} : snP P d p 3 = siN P d p := by
  show d / 8 ^ p % 8 + oN d p 0 P * 8 + oN d p 1 P * 32 + oN d p 2 P * 128 = _
  unfold siN
  omega
theorem snP_lt {P d p : Nat} (hp : p < P) (hP : P ≤ 4) : ∀ h : Nat, snP P d p h < 2 ^ (3 + 2 * h)
  | 0 => Nat.mod_lt _ (by decide)
  | h + 1 => by
    have ih := snP_lt (d := d) hp hP h
    have a := oN_3 (d := d) (h := h) hp hP
    show _ + _ * 2 ^ (3 + 2 * h) < 2 ^ (3 + 2 * (h + 1))
    rw [show 3 + 2 * (h + 1) = 3 + 2 * h + 2 by omega, Nat.pow_add _ _ 2]
    have : oN d p h P * 2 ^ (3 + 2 * h) ≤ 3 * 2 ^ (3 + 2 * h) := Nat.mul_le_mul_right _ a
    omega
theorem snP_s {P d p h : Nat} (hp : p < P) (hP : P ≤ 4) : snP P d p h ||| oN d p h P * 2 ^ (3 + 2 * h) = snP P d p (h + 1) := by
  have l := snP_lt (d := d) hp hP h
  have := Nat.two_pow_add_eq_or_of_lt l (oN d p h P)
  rw [Nat.or_comm, Nat.mul_comm, ← this, Nat.add_comm, Nat.mul_comm]
  rfl
/-- rows, packed -/
def pkR (g : Nat → Nat) : Nat → Nat
  | 0 => 0
  | o + 1 => pkR g o + g o * 8 ^ o
theorem pkR_lt {g : Nat → Nat} (h : ∀ o, g o < 8) : ∀ n : Nat, pkR g n < 8 ^ n
  | 0 => Nat.lt_of_lt_of_le (Nat.zero_lt_succ 0) (Nat.le_refl 1)
  | n + 1 => by
    have ih := pkR_lt h n
    have hg := h n
    show _ + _ * 8 ^ n < 8 ^ (n + 1)
    rw [Nat.pow_succ]
    have : g n * 8 ^ n ≤ 7 * 8 ^ n := Nat.mul_le_mul_right _ (by omega)
    omega
theorem pkR_or {g : Nat → Nat} (h : ∀ o, g o < 8) {n x : Nat} (e : x = g n) : pkR g n ||| x * 2 ^ (3 * n) = pkR g (n + 1) := by
  have l := pkR_lt h n
  have l2 : pkR g n < 2 ^ (3 * n) := by rw [← eight]; exact l
  have := Nat.two_pow_add_eq_or_of_lt l2 (g n)
  rw [e, Nat.or_comm, Nat.mul_comm (g n), ← this, Nat.add_comm, ← eight, Nat.mul_comm]
  rfl
theorem pkR_get {g : Nat → Nat} (h : ∀ o, g o < 8) : ∀ n o : Nat, o < n → pkR g n / 8 ^ o % 8 = g o
  | 0, o, ho => absurd ho (Nat.not_lt_zero o)
  | n + 1, o, ho => by
    by_cases e : o = n
    · subst e
      show (pkR g o + g o * 8 ^ o) / 8 ^ o % 8 = g o
      rw [Nat.add_mul_div_right _ _ (Nat.pow_pos (by decide)), Nat.div_eq_of_lt (pkR_lt h o)]
      have := h o
      omega
    · have ih := pkR_get h n o (by omega)
      show (pkR g n + g n * 8 ^ n) / 8 ^ o % 8 = g o
      obtain ⟨m, rfl⟩ : ∃ m, n = o + 1 + m := ⟨n - (o + 1), by omega⟩
      have e2 : g (o + 1 + m) * 8 ^ (o + 1 + m) = (g (o + 1 + m) * 8 ^ m * 8) * 8 ^ o := by
        rw [Nat.pow_add, Nat.pow_succ]
        simp only [Nat.mul_assoc, Nat.mul_comm, Nat.mul_left_comm]
      rw [e2, Nat.add_mul_div_right _ _ (Nat.pow_pos (by decide)), Nat.add_mul_mod_self_right]
      exact ih
/-- what one would do, by the others' counts -/
def rpN (P : Nat) (F : Fk) (O : Nat → Nat) (Y : Nat) (E : Ev) (p c : Nat) : Nat → Nat := fun o => rwN F O E p (8 * c + o) (siN P Y p)
def RP1 (f : Nat → Int32) (P : Nat) (F : Fk) (O : Nat → Nat) (Y : Nat) (E : Ev) (p n : Nat) : Prop := ∀ c, c < n → f c = nI (pkR (rpN P F O Y E p c) 8)
def RPs (a b c d : Nat → Int32) (P : Nat) (F : Fk) (O : Nat → Nat) (Y : Nat) (E : Ev) (q : Nat) : Prop := ∀ p, p < q → RP1 (s4 a b c d p) P F O Y E p 64
section
variable {a b c d f : Nat → Int32} {P p q : Nat} {F : Fk} {O : Nat → Nat} {Y : Nat} {E : Ev}
theorem rpN_lt (c : Nat) : ∀ o, rpN P F O Y E p c o < 8 := fun o => rwN_lt
theorem RPs.a0 (W : RPs a b c d P F O Y E q) (hp : p < q) (h : p = 0) : RP1 a P F O Y E p 64 := by
  have e : s4 a b c d p = a := by rw [h]; rfl
  rw [← e]; exact W p hp
theorem RPs.a1 (W : RPs a b c d P F O Y E q) (hp : p < q) (h : p = 1) : RP1 b P F O Y E p 64 := by
  have e : s4 a b c d p = b := by rw [h]; rfl
  rw [← e]; exact W p hp
theorem RPs.a2 (W : RPs a b c d P F O Y E q) (hp : p < q) (h : p = 2) : RP1 c P F O Y E p 64 := by
  have e : s4 a b c d p = c := by rw [h]; rfl
  rw [← e]; exact W p hp
theorem RPs.a3 (W : RPs a b c d P F O Y E q) (hp : p < q) (h : p = 3) : RP1 d P F O Y E p 64 := by
  have e : s4 a b c d p = d := by rw [h]; rfl
  rw [← e]; exact W p hp
theorem s4_ne {x y z w x2 y2 z2 w2 : Nat → Int32} {p : Nat} (h0 : p = 0 → x2 = x) (h1 : p = 1 → y2 = y) (h2 : p = 2 → z2 = z) (h3 : ¬ p = 0 → ¬ p = 1 → ¬ p = 2 → w2 = w) : s4 x2 y2 z2 w2 p = s4 x y z w p := by
  unfold s4
  split
  · rename_i e; exact h0 e
  · split
    · rename_i e; exact h1 e
    · split
      · rename_i e; exact h2 e
      · rename_i e0 e1 e2; exact h3 e0 e1 e2
theorem RPs.s0 {f : Nat → Int32} (W : RPs a b c d P F O Y E q) (h : q = 0) (R : RP1 f P F O Y E q 64) : RPs f b c d P F O Y E (q + 1) := fun p hp => by
  by_cases e : p = q
  · rw [e]; have e2 : s4 f b c d q = f := by rw [h]; rfl
    rw [e2]; exact R
  · rw [s4_ne (x := a) (y := b) (z := c) (w := d) (fun z => absurd z (by omega)) (fun _ => rfl) (fun _ => rfl) (fun _ _ _ => rfl)]; exact W p (by omega)
theorem RPs.s1 {f : Nat → Int32} (W : RPs a b c d P F O Y E q) (h : q = 1) (R : RP1 f P F O Y E q 64) : RPs a f c d P F O Y E (q + 1) := fun p hp => by
  by_cases e : p = q
  · rw [e]; have e2 : s4 a f c d q = f := by rw [h]; rfl
    rw [e2]; exact R
  · rw [s4_ne (x := a) (y := b) (z := c) (w := d) (fun _ => rfl) (fun z => absurd z (by omega)) (fun _ => rfl) (fun _ _ _ => rfl)]; exact W p (by omega)
theorem RPs.s2 {f : Nat → Int32} (W : RPs a b c d P F O Y E q) (h : q = 2) (R : RP1 f P F O Y E q 64) : RPs a b f d P F O Y E (q + 1) := fun p hp => by
  by_cases e : p = q
  · rw [e]; have e2 : s4 a b f d q = f := by rw [h]; rfl
    rw [e2]; exact R
  · rw [s4_ne (x := a) (y := b) (z := c) (w := d) (fun _ => rfl) (fun _ => rfl) (fun z => absurd z (by omega)) (fun _ _ _ => rfl)]; exact W p (by omega)
theorem RPs.s3 {f : Nat → Int32} (W : RPs a b c d P F O Y E q) (h : q = 3) (R : RP1 f P F O Y E q 64) : RPs a b c f P F O Y E (q + 1) := fun p hp => by
  by_cases e : p = q
  · rw [e]; have e2 : s4 a b c f q = f := by rw [h]; rfl
    rw [e2]; exact R
  · rw [s4_ne (x := a) (y := b) (z := c) (w := d) (fun _ => rfl) (fun _ => rfl) (fun _ => rfl) (fun a0 a1 a2 => absurd hp (by omega))]; exact W p (by omega)
theorem RP1.put {v : Nat} (R : RP1 f P F O Y E p q) (h : v = pkR (rpN P F O Y E p q) 8) : RP1 (upd f q (nI v)) P F O Y E p (q + 1) := fun i hi => by
  by_cases e : i = q
  · rw [e, pk_us, h]
  · rw [pk_un e]; exact R i (by omega)
/-- one's answer -/
theorem ans_1 {D s : Nat} (R : RP1 f P F O Y E p 64) (hs : siN P D p = s) (h5 : s < 512) : f (s / 8) = nI (pkR (rpN P F O Y E p (s / 8)) 8) ∧ pkR (rpN P F O Y E p (s / 8)) 8 < 16777216 ∧ pkR (rpN P F O Y E p (s / 8)) 8 / 2 ^ (3 * (s % 8)) % 8 = rwD P F O Y E D p := by
  have g := pkR_get (rpN_lt (P := P) (F := F) (O := O) (Y := Y) (E := E) (p := p) (s / 8)) 8 (s % 8) (Nat.mod_lt _ (by decide))
  refine ⟨R _ (by omega), pkR_lt (rpN_lt (P := P) (F := F) (O := O) (Y := Y) (E := E) (p := p) (s / 8)) 8, ?_⟩
  rw [← eight, g]
  unfold rpN rwD
  rw [hs, show 8 * (s / 8) + s % 8 = s by omega]
end
theorem fo_x : ∀ r o : Fin 8, (r.val ^^^ o.val < 8) ∧ (r.val ^^^ o.val = 0 ↔ hD r.val o.val = 3) ∧ ((r.val ^^^ o.val) % 2 = 1 → hD r.val o.val = 0) ∧ (¬ (r.val ^^^ o.val) % 2 = 1 → (r.val ^^^ o.val) / 2 % 2 = 1 → hD r.val o.val = 1) ∧ (¬ (r.val ^^^ o.val) % 2 = 1 → ¬ (r.val ^^^ o.val) / 2 % 2 = 1 → (r.val ^^^ o.val) / 4 % 2 = 1 → hD r.val o.val = 2) ∧ (¬ (r.val ^^^ o.val) % 2 = 1 → ¬ (r.val ^^^ o.val) / 2 % 2 = 1 → ¬ (r.val ^^^ o.val) / 4 % 2 = 1 → r.val ^^^ o.val = 0) := by decide +kernel
theorem fo_xx {r o x : Nat} (hr : r < 8) (ho : o < 8) (hx : x = r ^^^ o) : (x < 8) ∧ (x = 0 → hD r o = 3) ∧ (x % 2 = 1 → hD r o = 0) ∧ (¬ x % 2 = 1 → x / 2 % 2 = 1 → hD r o = 1) ∧ (¬ x % 2 = 1 → ¬ x / 2 % 2 = 1 → x / 4 % 2 = 1 → hD r o = 2) ∧ (¬ x % 2 = 1 → ¬ x / 2 % 2 = 1 → ¬ x / 4 % 2 = 1 → hD r o = 3) := by
  subst hx
  obtain ⟨a, b, c, d, e, f⟩ := fo_x ⟨r, hr⟩ ⟨o, ho⟩
  exact ⟨a, b.mp, c, d, e, fun x y z => b.mp (f x y z)⟩
theorem an_or {P : Nat} {F : Fk} {O : Nat → Nat} {Y : Nat} {E : Ev} {d p : Nat} : anN P F O Y E d p ||| rwD P F O Y E d p * 2 ^ (3 * p) = anN P F O Y E d (p + 1) := by
  have l := anN_lt (P := P) (F := F) (O := O) (Y := Y) (E := E) (d := d) p
  have l2 : anN P F O Y E d p < 2 ^ (3 * p) := by rw [← eight]; exact l
  have := Nat.two_pow_add_eq_or_of_lt l2 (rwD P F O Y E d p)
  rw [Nat.or_comm, Nat.mul_comm (rwD P F O Y E d p), ← this, Nat.add_comm, ← eight, Nat.mul_comm]
  rfl
/-- what was found, in fields -/
def SEr (i7 i8 i9 i10 i11 : Int32) (s : SR) : Prop := i7 = nI s.1 ∧ i8 = s.2.1 ∧ i9 = s.2.2.1 ∧ i10 = s.2.2.2.1 ∧ (0 < s.1 → i11 = s.2.2.2.2)
/-- what Days has kept -/
def DST (i5 i6 i7 i8 i9 i10 i11 : Int32) (w a b c d ya yb yc yd : Nat → Int32) (P : Nat) (F : Fk) (O : Nat → Nat) (Y : Nat) (E : Ev) : Prop :=
  WKr w a b c d E ∧ (i5 = 0 ∨ (i5 = 1 ∧ (∀ p, p < P → w p = nI (F.1 p)) ∧ RPs ya yb yc yd P F O Y E P)) ∧ (i6 = 0 ∨ (i6 = 1 ∧ i5 = 1 ∧ SEr i7 i8 i9 i10 i11 (seD P F O Y E)))
section
variable {i5 i6 i7 i8 i9 i10 i11 : Int32} {w a b c d ya yb yc yd : Nat → Int32} {P : Nat} {F : Fk} {O : Nat → Nat} {Y : Nat} {E : Ev}
theorem DST.zero (K : WKr w a b c d E) : DST 0 0 i7 i8 i9 i10 i11 w a b c d ya yb yc yd P F O Y E := ⟨K, Or.inl rfl, Or.inl rfl⟩
theorem SEr.st (h : SEr i7 i8 i9 i10 i11 (seD P F O Y E)) : ∃ s : Nat, s = (seD P F O Y E).1 ∧ i7 = nI s := ⟨_, rfl, h.1⟩
/-- notes -/
theorem nt_16 (h : ∀ j, j < 4 → O j < 2) (hP : P ≤ 4) : ntN O P < 16 := Nat.lt_of_lt_of_le (ntN_lt h P hP) (Nat.pow_le_pow_right (n := 2) (i := P) (j := 4) (by decide) hP)
theorem ntN_put {v : Nat} {p : Nat} : ∀ q : Nat, p < q → ntN (fS O p v) q + O p * 2 ^ p = ntN O q + v * 2 ^ p
  | 0, h => absurd h (Nat.not_lt_zero p)
  | q + 1, h => by
    show ntN (fS O p v) q + fS O p v q * 2 ^ q + O p * 2 ^ p = ntN O q + O q * 2 ^ q + v * 2 ^ p
    by_cases e : p = q
    · subst e
      rw [fS_s, ntN_cong (O := fS O p v) (O2 := O) p (fun j hj => fS_n (by omega))]
      omega
    · have ih := ntN_put (v := v) (p := p) q (by omega)
      rw [fS_n (Ne.symm e)]
      omega
theorem or_16 : ∀ x : Fin 16, ∀ p : Fin 4, (x.val ||| 2 ^ p.val) + x.val / 2 ^ p.val % 2 * 2 ^ p.val = x.val + 2 ^ p.val := by decide +kernel
theorem an_16 : ∀ x : Fin 16, ∀ p : Fin 4, (x.val &&& (4294967295 - 2 ^ p.val)) + x.val / 2 ^ p.val % 2 * 2 ^ p.val = x.val := by decide +kernel
theorem no_16 : ∀ p : Fin 4, ((1 : Int32) <<< (nI p.val &&& 31)) ^^^ (-1) = nI (4294967295 - 2 ^ p.val) := by decide +kernel
theorem nt_or {p : Nat} (h : ∀ j, j < 4 → O j < 2) (hP : P ≤ 4) (hp : p < P) : ntN O P ||| 2 ^ p = ntN (fS O p 1) P := by
  have a := or_16 ⟨ntN O P, nt_16 h hP⟩ ⟨p, by omega⟩
  have b := ntN_bit h P hP p hp
  have c := ntN_put (O := O) (v := 1) P hp
  simp only at a
  rw [b] at a
  omega
theorem nt_and {p : Nat} (h : ∀ j, j < 4 → O j < 2) (hP : P ≤ 4) (hp : p < P) : ntN O P &&& (4294967295 - 2 ^ p) = ntN (fS O p 0) P := by
  have a := an_16 ⟨ntN O P, nt_16 h hP⟩ ⟨p, by omega⟩
  have b := ntN_bit h P hP p hp
  have c := ntN_put (O := O) (v := 0) P hp
  simp only at a
  rw [b] at a
  omega
theorem nt_new (h : ∀ j, j < 4 → O j < 2) (hP : P < 4) : ntN O P &&& (4294967295 - 2 ^ P) = ntN O P := by
  have a := an_16 ⟨ntN O P, nt_16 h (by omega)⟩ ⟨P, hP⟩
  have b := ntN_lt h P (by omega)
  simp only at a
  rw [Nat.div_eq_of_lt b] at a
  omega
theorem nt_join : ntN (fS O P 0) (P + 1) = ntN O P := by
  show ntN (fS O P 0) P + fS O P 0 P * 2 ^ P = _
  rw [fS_s, Nat.zero_mul, Nat.add_zero]
  exact ntN_cong P (fun j hj => fS_n (by omega))
end
/-- how many hours: bits of one's own -/
theorem ho_bits {d p : Nat} : bN4 (d / 8 ^ p % 8) = hoN d p 3 := by
  have a := dB_own d p 0 (by decide)
  have b := dB_own d p 1 (by decide)
  have c := dB_own d p 2 (by decide)
  have e : hoN d p 3 = 0 + dB d (3 * p + 0) + dB d (3 * p + 1) + dB d (3 * p + 2) := rfl
  have l : d / 8 ^ p % 8 < 8 := Nat.mod_lt _ (by decide)
  rw [e, ← a, ← b, ← c]
  generalize d / 8 ^ p % 8 = x at *
  unfold bN4
  omega
theorem df_x : ∀ r o : Fin 8, bN4 (r.val ^^^ o.val) = (if r.val / 2 ^ 0 % 2 = o.val / 2 ^ 0 % 2 then 0 else 1) + (if r.val / 2 ^ 1 % 2 = o.val / 2 ^ 1 % 2 then 0 else 1) + (if r.val / 2 ^ 2 % 2 = o.val / 2 ^ 2 % 2 then 0 else 1) ∧ r.val ^^^ o.val < 8 := by decide +kernel
theorem df_bits {a b p : Nat} : bN4 (a / 8 ^ p % 8 ^^^ b / 8 ^ p % 8) = dfN a b p 3 ∧ a / 8 ^ p % 8 ^^^ b / 8 ^ p % 8 < 8 := by
  have h := df_x ⟨a / 8 ^ p % 8, Nat.mod_lt _ (by decide)⟩ ⟨b / 8 ^ p % 8, Nat.mod_lt _ (by decide)⟩
  simp only [dB_own a p 0 (by decide), dB_own a p 1 (by decide), dB_own a p 2 (by decide), dB_own b p 0 (by decide), dB_own b p 1 (by decide), dB_own b p 2 (by decide)] at h
  refine ⟨?_, h.2⟩
  rw [h.1]
  show _ = 0 + (if dB a (3 * p + 0) = dB b (3 * p + 0) then 0 else 1) + (if dB a (3 * p + 1) = dB b (3 * p + 1) then 0 else 1) + (if dB a (3 * p + 2) = dB b (3 * p + 2) then 0 else 1)
  omega
/-- the greatest common divisor, within 100 steps -/
def GB (x y s : Nat) : Prop := (s = 0 ∧ x ≤ 4096 ∧ y ≤ 4096) ∨ (y < x ∧ x ≤ 4096 ∧ x * y * 2 ^ s ≤ 2 ^ 25)
theorem GB.le {x y s : Nat} (h : GB x y s) : x ≤ 4096 ∧ y ≤ 4096 := by
  rcases h with ⟨-, a, b⟩ | ⟨a, b, -⟩
  · exact ⟨a, b⟩
  · omega
theorem GB.step {x y s : Nat} (h : GB x y s) (hy : 0 < y) : GB y (x % y) (s + 1) := by
  have l : x % y < y := Nat.mod_lt _ hy
  refine Or.inr ⟨l, (h.le).2, ?_⟩
  rcases h with ⟨rfl, a, b⟩ | ⟨a, b, c⟩
  · have : y * (x % y) ≤ 4096 * 4096 := Nat.mul_le_mul b (by omega)
    show y * (x % y) * 2 ≤ _
    omega
  · have d := Nat.div_add_mod x y
    have q : 1 ≤ x / y := (Nat.one_le_div_iff hy).mpr (by omega)
    have q2 : y * 1 ≤ y * (x / y) := Nat.mul_le_mul_left y q
    have e : 2 * (x % y) ≤ x := by omega
    have f : y * (x % y) * 2 ≤ x * y := by
      rw [Nat.mul_assoc, Nat.mul_comm x y]
      exact Nat.mul_le_mul_left y (by omega)
    have g : y * (x % y) * 2 ^ (s + 1) = y * (x % y) * 2 * 2 ^ s := by rw [Nat.pow_succ, Nat.mul_comm (2 ^ s) 2, ← Nat.mul_assoc]
    rw [g]
    exact Nat.le_trans (Nat.mul_le_mul_right _ f) c
theorem GB.done {x y : Nat} (h : GB x y 100) : y = 0 := by
  rcases h with ⟨a, -⟩ | ⟨a, -, c⟩
  · omega
  · rcases Nat.eq_zero_or_pos y with e | e
    · exact e
    · exfalso
      have : 1 * 2 ^ 100 ≤ x * y * 2 ^ 100 := Nat.mul_le_mul_right _ (Nat.mul_pos (by omega) e)
      have := Nat.le_trans this c
      exact absurd this (by decide)
theorem max1_n {g : Nat} (h : 0 < g) (h2 : g < 2 ^ 31) : (if nI g < (1 : Int32) then (1 : Int32) else nI g) = nI g := if_neg (fun q => by
  have := (nI_ltI (a := g) (b := 1) h2 (by decide)).mp q
  omega)
end CLS
/-! the class's truths, as bits -/
section CSK
def stN : List Bool → Nat
  | [] => 0
  | b :: t => bN b + 2 * stN t
theorem stN_lt : ∀ k : List Bool, stN k < 2 ^ k.length
  | [] => Nat.lt_of_lt_of_le (Nat.zero_lt_succ 0) (Nat.le_refl 1)
  | b :: t => by
    have ih := stN_lt t
    have hb := bN_lt b
    show bN b + 2 * stN t < 2 ^ (t.length + 1)
    rw [Nat.pow_succ]; omega
theorem stN_top : ∀ k : List Bool, stN k % 2 = bN (k.headD false)
  | [] => rfl
  | b :: t => by
    have hb := bN_lt b
    show (bN b + 2 * stN t) % 2 = bN b
    omega
theorem or_1 (v x : Nat) (hx : x < 2) : (2 * v + x) ||| 1 = 2 * v + 1 := by
  have a := Nat.two_pow_add_eq_or_of_lt (i := 1) (b := x) (by omega) v
  have b := Nat.two_pow_add_eq_or_of_lt (i := 1) (b := 1) (by omega) v
  have a' : 2 * v + x = 2 * v ||| x := a
  have b' : 2 * v + 1 = 2 * v ||| 1 := b
  rw [a', Nat.or_assoc, b']
  rcases (show x = 0 ∨ x = 1 by omega) with rfl | rfl
  · rfl
  · rfl
theorem xor_1 (v : Nat) : (2 * v) ^^^ 1 = 2 * v + 1 := by
  apply Nat.eq_of_testBit_eq
  intro i
  rw [Nat.testBit_xor]
  cases i with
  | zero =>
    rw [Nat.testBit_zero, Nat.testBit_zero, Nat.testBit_zero, show 2 * v % 2 = 0 by omega, show (2 * v + 1) % 2 = 1 by omega]
    rfl
  | succ i =>
    rw [Nat.testBit_succ, Nat.testBit_succ, Nat.testBit_succ, show 2 * v / 2 = v by omega, show (2 * v + 1) / 2 = v by omega, show 1 / 2 = 0 by rfl, Nat.zero_testBit, Bool.xor_false]
theorem xor_11 (v : Nat) : (2 * v + 1) ^^^ 1 = 2 * v := by
  rw [← xor_1 v, Nat.xor_assoc, Nat.xor_self, Nat.xor_zero]
theorem stN_not {b : Bool} {t : List Bool} : stN (b :: t) ^^^ 1 = stN ((!b) :: t) := by
  show (bN b + 2 * stN t) ^^^ 1 = bN (!b) + 2 * stN t
  cases b
  · rw [show bN false + 2 * stN t = 2 * stN t by show 0 + _ = _; omega, xor_1]
    show _ = 1 + _
    omega
  · rw [show bN true + 2 * stN t = 2 * stN t + 1 by show 1 + _ = _; omega, xor_11]
    show _ = 0 + _
    omega
theorem stN_half {b : Bool} {t : List Bool} : stN (b :: t) / 2 ^ 1 = stN t ∧ stN (b :: t) % 2 = bN b := by
  have hb := bN_lt b
  constructor
  · show (bN b + 2 * stN t) / 2 = _
    omega
  · show (bN b + 2 * stN t) % 2 = _
    omega
theorem stN_or {b a : Bool} {t : List Bool} : stN (b :: a :: t) / 2 ^ 1 ||| stN (b :: a :: t) % 2 = stN ((a || b) :: t) := by
  rw [stN_half.1, stN_half.2]
  have ha := bN_lt a
  show (bN a + 2 * stN t) ||| bN b = bN (a || b) + 2 * stN t
  cases b
  · show _ ||| 0 = _
    rw [Nat.or_zero, Bool.or_false]
  · show _ ||| 1 = _
    rw [Nat.add_comm (bN a), or_1 _ _ ha, Bool.or_true]
    show _ = 1 + _
    omega
theorem stN_and {b a : Bool} {t : List Bool} (h : stN (b :: a :: t) < 2 ^ 31) : stN (b :: a :: t) / 2 ^ 1 &&& (stN (b :: a :: t) ||| 4294967294) = stN ((a && b) :: t) := by
  have q := stN_half (b := b) (t := a :: t)
  have q2 := stN_half (b := a) (t := t)
  have l : stN t < 2 ^ 29 := by
    have : stN (b :: a :: t) = bN b + 2 * (bN a + 2 * stN t) := rfl
    omega
  apply Nat.eq_of_testBit_eq
  intro i
  rw [Nat.testBit_and, Nat.testBit_or, q.1]
  cases i with
  | zero =>
    have hr : stN ((a && b) :: t) % 2 = bN (a && b) := stN_half.2
    rw [Nat.testBit_zero, Nat.testBit_zero, Nat.testBit_zero, Nat.testBit_zero, q.2, q2.2, hr]
    cases a <;> cases b <;> rfl
  | succ i =>
    have hr : stN ((a && b) :: t) / 2 = stN t := stN_half.1
    have h2 : stN (a :: t) / 2 = stN t := q2.1
    rw [Nat.testBit_succ, Nat.testBit_succ, Nat.testBit_succ, Nat.testBit_succ, hr, h2]
    by_cases hi : i < 31
    · have : (4294967294 / 2 : Nat) = 2 ^ 31 - 1 := by decide
      rw [this, Nat.testBit_two_pow_sub_one, decide_eq_true hi, Bool.or_true, Bool.and_true]
    · have : (stN t).testBit i = false := Nat.testBit_lt_two_pow (Nat.lt_of_lt_of_le l (Nat.pow_le_pow_right (by decide) (by omega)))
      rw [this, Bool.false_and]
/-- the class's loop over one clause's code -/
def HIv (f : Nat → Int32) (L : List Int32) (m s : Nat) : Prop := ∃ k : List Bool, s = stN k ∧ k.length ≤ 30 ∧ wfT k.length (L.drop m) ∧ (L.drop m).foldl (fun s x => tstep f x s) k = L.foldl (fun s x => tstep f x s) []
section
variable {f : Nat → Int32} {L : List Int32} {m s : Nat}
theorem HIv.start (h : wfT 0 L) : HIv f L 0 0 := ⟨[], rfl, by decide, h, rfl⟩
theorem HIv.lt (h : HIv f L m s) : s < 1073741824 := by
  obtain ⟨k, h1, h2, -, -⟩ := h
  have := stN_lt k
  rw [h1]
  exact Nat.lt_of_lt_of_le this (Nat.pow_le_pow_right (n := 2) (i := k.length) (j := 30) (by decide) h2)
theorem HIv.done (h : HIv f L m s) (hm : L.length ≤ m) : s % 2 = bN (evL f L) := by
  obtain ⟨k, h1, -, -, h4⟩ := h
  rw [List.drop_eq_nil_of_le hm] at h4
  have h4 : k = _ := h4
  rw [h1, stN_top, h4]
  rfl
theorem HIv.cls (h : HIv f L m s) (hm : m < L.length) : (cod (L.getD m 0) = -3 ∧ L.getD m 0 = -1) ∨ (cod (L.getD m 0) = -1 ∧ L.getD m 0 = -3) ∨ (cod (L.getD m 0) = -2 ∧ L.getD m 0 = -2) ∨ ∃ w q v : Nat, w < 6 ∧ q < 3 ∧ v < 100 ∧ L.getD m 0 = nI (w + 8 * q + 32 * v) ∧ cod (L.getD m 0) = nI ((w * 3 + q) * 100 + v) := by
  obtain ⟨k, h1, h2, h3, h4⟩ := h
  rw [drop_at hm] at h3
  rcases h3.1 with ⟨w, q, v, a, b, c, e, -⟩ | ⟨e, -⟩ | ⟨e | e, -⟩
  · exact Or.inr (Or.inr (Or.inr ⟨w, q, v, a, b, c, e, by rw [e]; exact cod_test a b c⟩))
  · exact Or.inl ⟨by rw [e]; exact cod_not, e⟩
  · exact Or.inr (Or.inr (Or.inl ⟨by rw [e]; exact cod_and, e⟩))
  · exact Or.inr (Or.inl ⟨by rw [e]; exact cod_or, e⟩)
theorem HIv.go {s2 : Nat} (h : HIv f L m s) (hm : m < L.length) (g : ∀ k : List Bool, s = stN k → tok (L.getD m 0) k.length → k.length ≤ 30 → s2 = stN (tstep f (L.getD m 0) k) ∧ (tstep f (L.getD m 0) k).length ≤ 30) : HIv f L (m + 1) s2 := by
  obtain ⟨k, h1, h2, h3, h4⟩ := h
  rw [drop_at hm] at h3 h4
  obtain ⟨a, b⟩ := g k h1 h3.1 h2
  refine ⟨tstep f (L.getD m 0) k, a, b, ?_, h4⟩
  rw [tstep_len h3.1]
  exact h3.2
theorem HIv.push {n : Nat} {b : Bool} (h : HIv f L m s) (hm : m < L.length) (hx : L.getD m 0 = nI n) (hn : n < 2 ^ 31) (hb : tstN f n = b) : HIv f L (m + 1) (s * 2 ^ 1 + bN b) := h.go hm (fun k hk ht hl => by
  rcases ht with ⟨w, q, v, a1, a2, a3, e, hd⟩ | ⟨e, -⟩ | ⟨e | e, -⟩
  · rw [hx, tstep_n hn, hb]
    refine ⟨?_, by show k.length + 1 ≤ 30; omega⟩
    show _ = bN b + 2 * stN k
    rw [hk]; omega
  · rw [hx] at e; exact absurd e (nat_ne_neg hn (by decide))
  · rw [hx] at e; exact absurd e (nat_ne_neg hn (by decide))
  · rw [hx] at e; exact absurd e (nat_ne_neg hn (by decide)))
theorem tok_1 {x : Int32} {d : Nat} (h : tok x d) (e : x = -1) : 1 ≤ d := by
  rcases h with ⟨w, q, v, a1, a2, a3, e2, -⟩ | ⟨-, h⟩ | ⟨e2 | e2, h⟩
  · rw [e2] at e; exact absurd e (nat_ne_neg (by omega) (by decide))
  · exact h
  · rw [e2] at e; exact absurd e (by decide)
  · rw [e2] at e; exact absurd e (by decide)
theorem tok_2 {x : Int32} {d : Nat} (h : tok x d) (e : x = -2 ∨ x = -3) : 2 ≤ d := by
  rcases h with ⟨w, q, v, a1, a2, a3, e2, -⟩ | ⟨e2, -⟩ | ⟨-, h⟩
  · exfalso; rcases e with e | e
    · rw [e2] at e; exact absurd e (nat_ne_neg (by omega) (by decide))
    · rw [e2] at e; exact absurd e (nat_ne_neg (by omega) (by decide))
  · exfalso; rcases e with e | e
    · rw [e2] at e; exact absurd e (by decide)
    · rw [e2] at e; exact absurd e (by decide)
  · exact h
theorem HIv.not (h : HIv f L m s) (hm : m < L.length) (hx : L.getD m 0 = -1) : HIv f L (m + 1) (s ^^^ 1) := h.go hm (fun k hk ht hl => by
  have l := tok_1 ht hx
  rcases k with _ | ⟨b, t⟩
  · simp at l
  · rw [hx, tstep_1, hk, stN_not]
    exact ⟨rfl, hl⟩)
theorem HIv.two (h : HIv f L m s) (hm : m < L.length) (hx : L.getD m 0 = -2 ∨ L.getD m 0 = -3) {s2 : Nat} (g : ∀ (b a : Bool) (t : List Bool), s = stN (b :: a :: t) → s2 = stN ((if L.getD m 0 = -2 then (a && b) else (a || b)) :: t)) : HIv f L (m + 1) s2 := h.go hm (fun k hk ht hl => by
  have l := tok_2 ht hx
  rcases k with _ | ⟨b, _ | ⟨a, t⟩⟩
  · simp at l
  · simp at l
  · rw [tstep_2 hx]
    have hl : t.length + 1 + 1 ≤ 30 := hl
    exact ⟨g b a t hk, by show t.length + 1 ≤ 30; omega⟩)
theorem HIv.or (h : HIv f L m s) (hm : m < L.length) (hx : L.getD m 0 = -3) : HIv f L (m + 1) (s / 2 ^ 1 ||| s % 2) := h.two hm (Or.inr hx) (fun b a t e => by
  rw [hx, e, stN_or]
  rfl)
theorem HIv.and (h : HIv f L m s) (hm : m < L.length) (hx : L.getD m 0 = -2) : HIv f L (m + 1) (s / 2 ^ 1 &&& (s ||| 4294967294)) := h.two hm (Or.inl hx) (fun b a t e => by
  have l := h.lt
  rw [e] at l
  rw [hx, e, stN_and (by omega)]
  rfl)
end
/-- a test, of the class's number for it -/
def tcN (f : Nat → Int32) (n : Nat) : Bool := if n / 100 % 3 = 0 then decide (f (n / 100 / 3) < nI (n % 100)) else (if n / 100 % 3 = 1 then decide (f (n / 100 / 3) = nI (n % 100)) else decide (nI (n % 100) < f (n / 100 / 3)))
theorem tcN_eq {f : Nat → Int32} {w q v : Nat} (hw : w < 6) (hq : q < 3) (hv : v < 100) : tcN f ((w * 3 + q) * 100 + v) = tstN f (w + 8 * q + 32 * v) := by
  unfold tcN tstN
  rw [show ((w * 3 + q) * 100 + v) / 100 % 3 = q by omega, show ((w * 3 + q) * 100 + v) / 100 / 3 = w by omega, show ((w * 3 + q) * 100 + v) % 100 = v by omega, show (w + 8 * q + 32 * v) / 8 % 4 = q by omega, show (w + 8 * q + 32 * v) % 8 = w by omega, show (w + 8 * q + 32 * v) / 32 = v by omega]
section
variable {f : Nat → Int32} {n : Nat}
theorem tc_0t (h : n / 100 % 3 = 0) (h2 : f (n / 100 / 3) < nI (n % 100)) : tcN f n = true := (if_pos h).trans (decide_eq_true h2)
theorem tc_0f (h : n / 100 % 3 = 0) (h2 : ¬ f (n / 100 / 3) < nI (n % 100)) : ¬ tcN f n = true := fun e => by rw [show tcN f n = false from (if_pos h).trans (decide_eq_false h2)] at e; exact Bool.noConfusion e
theorem tc_1t (h : n / 100 % 3 = 1) (h2 : f (n / 100 / 3) = nI (n % 100)) : tcN f n = true := (if_neg (by omega)).trans ((if_pos h).trans (decide_eq_true h2))
theorem tc_1f (h : n / 100 % 3 = 1) (h2 : ¬ f (n / 100 / 3) = nI (n % 100)) : ¬ tcN f n = true := fun e => by rw [show tcN f n = false from (if_neg (by omega)).trans ((if_pos h).trans (decide_eq_false h2))] at e; exact Bool.noConfusion e
theorem tc_2t (h : n / 100 % 3 = 2) (h2 : nI (n % 100) < f (n / 100 / 3)) : tcN f n = true := (if_neg (by omega)).trans ((if_neg (by omega)).trans (decide_eq_true h2))
theorem tc_2f (h : n / 100 % 3 = 2) (h2 : ¬ nI (n % 100) < f (n / 100 / 3)) : ¬ tcN f n = true := fun e => by rw [show tcN f n = false from (if_neg (by omega)).trans ((if_neg (by omega)).trans (decide_eq_false h2))] at e; exact Bool.noConfusion e
end
theorem bN_t {b : Bool} (h : b = true) : bN b = 1 := by rw [h]; rfl
theorem bN_f {b : Bool} (h : ¬ b = true) : bN b = 0 := by cases b with
  | true => exact absurd rfl h
  | false => rfl
theorem ev_1 {b : Bool} {s : Nat} (e : s % 2 = bN b) (h : s % 2 = 1) : b = true := by
  cases b with
  | true => rfl
  | false => rw [e] at h; exact absurd h (by decide)
theorem ev_0 {b : Bool} {s : Nat} (e : s % 2 = bN b) (h : ¬ s % 2 = 1) : ¬ b = true := fun q => by
  rw [q] at e
  exact h e
theorem or_10 (s : Nat) : nI (s * 2 ^ 1) ||| (1 : Int32) = nI (s * 2 ^ 1 + 1) := by
  rw [show (1 : Int32) = nI 1 by decide +kernel, nx_or]
  have := or_1 s 0 (by decide)
  rw [Nat.add_zero] at this
  rw [show s * 2 ^ 1 = 2 * s by omega, this]
theorem or_00 (s : Nat) : nI (s * 2 ^ 1) ||| (0 : Int32) = nI (s * 2 ^ 1 + 0) := by rw [or0]; rfl
theorem or_m2 (s : Nat) : nI s ||| (-2 : Int32) = nI (s ||| 4294967294) := by
  rw [show (-2 : Int32) = nI 4294967294 by decide +kernel, nx_or]
theorem xr_1 (s : Nat) : nI s ^^^ (1 : Int32) = nI (s ^^^ 1) := by
  rw [show (1 : Int32) = nI 1 by decide +kernel, nx_xor']
theorem ush1 {s : Nat} (h : s < 1073741824) : ((nI s).toUInt32 >>> (((1 : Int32)).toUInt32 &&& Int32.toUInt32 31)).toInt32 = nI (s / 2 ^ 1) := pk_ushrN (by omega) 1 1 (by decide +kernel)
section
variable {cl : List (Int32 × List Int32)} {c : Nat}
theorem take_s (h : c < cl.length) : cl.take (c + 1) = cl.take c ++ [cl.getD c (0, [])] := by
  rw [List.getD_eq_getElem?_getD, List.getElem?_eq_getElem h]
  exact (List.take_append_getElem h).symm
theorem split_c (h : c < cl.length) : cl = cl.take c ++ (cl.getD c (0, []) :: cl.drop (c + 1)) := by
  have e : cl.drop c = cl.getD c (0, []) :: cl.drop (c + 1) := by
    rw [List.getD_eq_getElem?_getD, List.getElem?_eq_getElem h]
    exact List.drop_eq_getElem_cons h
  rw [← e, List.take_append_drop]
theorem offs_0 : offs cl 0 = 0 := rfl
theorem offs_s (h : c < cl.length) : offs cl (c + 1) = offs cl c + (cl.getD c (0, [])).2.length := by
  unfold offs
  rw [take_s h, cdl_app, List.length_append]
  show _ + (cdl [((cl.getD c (0, [])).1, (cl.getD c (0, [])).2)]).length = _
  rw [cdl_one]
theorem cdl_c (h : c < cl.length) : cdl cl = cdl (cl.take c) ++ ((cl.getD c (0, [])).2 ++ cdl (cl.drop (c + 1))) := by
  have e : cdl cl = cdl (cl.take c ++ (cl.getD c (0, []) :: cl.drop (c + 1))) := congrArg cdl (split_c h)
  rw [e, cdl_app]
  rfl
theorem offs_le (h : c < cl.length) : offs cl c + (cl.getD c (0, [])).2.length ≤ (cdl cl).length := by
  rw [cdl_c h, List.length_append, List.length_append]
  unfold offs
  omega
theorem cdl_at {i : Nat} (h : c < cl.length) (hi : i < (cl.getD c (0, [])).2.length) : (cdl cl).getD (offs cl c + i) 0 = (cl.getD c (0, [])).2.getD i 0 := by
  rw [cdl_c h, gd_r (by unfold offs; omega), show offs cl c + i - (cdl (cl.take c)).length = i by unfold offs; omega, gd_l hi]
/-- the first c clauses' sum -/
def evP (f : Nat → Int32) (cl : List (Int32 × List Int32)) (c : Nat) : Int32 := evT f (cl.take c)
theorem evP_s {f : Nat → Int32} (h : c < cl.length) : evP f cl (c + 1) = evP f cl c + (if evL f (cl.getD c (0, [])).2 = true then valE (cl.getD c (0, [])).1 else 0) := by
  unfold evP evT
  rw [take_s h, List.foldl_append]
  rfl
theorem evP_1 {f : Nat → Int32} (h : c < cl.length) (e : evL f (cl.getD c (0, [])).2 = true) : evP f cl (c + 1) = evP f cl c + valE (cl.getD c (0, [])).1 := by rw [evP_s h, if_pos e]
theorem evP_0 {f : Nat → Int32} (h : c < cl.length) (e : ¬ evL f (cl.getD c (0, [])).2 = true) : evP f cl (c + 1) = evP f cl c := by rw [evP_s h, if_neg e, Int32.add_zero]
theorem evP_all {f : Nat → Int32} (h : cl.length ≤ c) : evP f cl c = evT f cl := by
  unfold evP
  rw [List.take_of_length_le h]
theorem WFC.at (h : WFC cl) (hc : c < cl.length) : wfT 0 (cl.getD c (0, [])).2 := by
  have e : cl.getD c (0, []) = cl[c] := by rw [List.getD_eq_getElem?_getD, List.getElem?_eq_getElem hc]; rfl
  rw [e]
  exact (h _ (List.getElem_mem hc)).1
end
theorem TC.code {nk nl nh : Int32} {fb fc fd : Nat → Int32} {t : TWN} (h : TC nk nl nh fb fc fd t) {c i : Nat} (hc : c < t.2.length) (hi : i < (t.2.getD c (0, [])).2.length) : fb (offs t.2 c + i) = cod ((t.2.getD c (0, [])).2.getD i 0) := by
  have l := offs_le hc
  rw [← cdl_at hc hi]
  exact h.2.2.1.1 _ (by omega)
theorem max0 {S : Nat} (h : S < 2 ^ 31) : (if nI S < (0 : Int32) then (0 : Int32) else nI S) = nI S := if_neg (fun q => nI_pos h q)
theorem nw6 {T an t1 t2 t3 t4 t5 : Nat} {Q0 Q1 Q2 Q3 Q4 Q5 : Prop} (hT : T ≤ 5) (h : (T = 0 → Q0) ∧ (T = 1 → Q1) ∧ (T = 2 → Q2) ∧ (T = 3 → Q3) ∧ (T = 4 → Q4) ∧ (T = 5 → Q5)) {r : Nat} (e0 : T = 0 → r = an) (e1 : T = 1 → r = t1) (e2 : T = 2 → r = t2) (e3 : T = 3 → r = t3) (e4 : T = 4 → r = t4) (e5 : T = 5 → r = t5) : (r = an ∧ Q0) ∨ (r = t1 ∧ Q1) ∨ (r = t2 ∧ Q2) ∨ (r = t3 ∧ Q3) ∨ (r = t4 ∧ Q4) ∨ (r = t5 ∧ Q5) := by
  obtain ⟨h0, h1, h2, h3, h4, h5⟩ := h
  rcases (show T = 0 ∨ T = 1 ∨ T = 2 ∨ T = 3 ∨ T = 4 ∨ T = 5 by omega) with q | q | q | q | q | q
  · exact Or.inl ⟨e0 q, h0 q⟩
  · exact Or.inr (Or.inl ⟨e1 q, h1 q⟩)
  · exact Or.inr (Or.inr (Or.inl ⟨e2 q, h2 q⟩))
  · exact Or.inr (Or.inr (Or.inr (Or.inl ⟨e3 q, h3 q⟩)))
  · exact Or.inr (Or.inr (Or.inr (Or.inr (Or.inl ⟨e4 q, h4 q⟩))))
  · exact Or.inr (Or.inr (Or.inr (Or.inr (Or.inr ⟨e5 q, h5 q⟩))))
theorem fx_six {f : Nat → Int32} {a p b c e k : Nat} (h1 : f 1 = nI p) (h5 : f 5 = nI k) : ∀ i, i < 6 → upd (upd (upd (upd f 0 (nI a)) 3 (nI c)) 2 (nI b)) 4 (nI e) i = byF a p b c e k i := fun i hi => by
  rcases (show i = 0 ∨ i = 1 ∨ i = 2 ∨ i = 3 ∨ i = 4 ∨ i = 5 by omega) with rfl | rfl | rfl | rfl | rfl | rfl
  · rw [pk_un (by decide), pk_un (by decide), pk_un (by decide), pk_us]; rfl
  · rw [pk_un (by decide), pk_un (by decide), pk_un (by decide), pk_un (by decide), h1]; rfl
  · rw [pk_un (by decide), pk_us]; rfl
  · rw [pk_un (by decide), pk_un (by decide), pk_us]; rfl
  · rw [pk_us]; rfl
  · rw [pk_un (by decide), pk_un (by decide), pk_un (by decide), pk_un (by decide), h5]; rfl
/-- worths that are being filled -/
def WKx (w a b c d : Nat → Int32) (E : Ev) (p k n : Nat) : Prop := (∀ q, q < 4 → q ≠ p → ∀ j, j < 7 → w q = nI j → WR (s4 a b c d q) E q j) ∧ ∀ i, i < n → s4 a b c d p i = E p k (i / 32) (i / 2 % 4) (i / 8 % 4) (i % 2)
section
variable {w a b c d : Nat → Int32} {E : Ev} {p k n : Nat} {x : Int32}
theorem WKx.start (K : WKr w a b c d E) : WKx w a b c d E p k 0 := ⟨fun q hq _ j hj e => K q hq j hj e, fun i hi => absurd hi (Nat.not_lt_zero i)⟩
theorem WKx.put {a2 b2 c2 d2 : Nat → Int32} (W : WKx w a b c d E p k n) (e1 : ∀ q, q < 4 → q ≠ p → s4 a2 b2 c2 d2 q = s4 a b c d q) (e2 : s4 a2 b2 c2 d2 p = upd (s4 a b c d p) n x) (e : x = E p k (n / 32) (n / 2 % 4) (n / 8 % 4) (n % 2)) : WKx w a2 b2 c2 d2 E p k (n + 1) := ⟨fun q hq hn j hj h => by rw [e1 q hq hn]; exact W.1 q hq hn j hj h, fun i hi => by
  rw [e2]
  by_cases q : i = n
  · rw [q, pk_us, e]
  · rw [pk_un q]; exact W.2 i (by omega)⟩
theorem WKx.p0 (W : WKx w a b c d E p k n) (h : p = 0) (e : x = E p k (n / 32) (n / 2 % 4) (n / 8 % 4) (n % 2)) : WKx w (upd a n x) b c d E p k (n + 1) := W.put (fun q hq hn => s4_ne (fun z => absurd z (by omega)) (fun _ => rfl) (fun _ => rfl) (fun _ _ _ => rfl)) (by rw [h]; rfl) e
theorem WKx.p1 (W : WKx w a b c d E p k n) (h : p = 1) (e : x = E p k (n / 32) (n / 2 % 4) (n / 8 % 4) (n % 2)) : WKx w a (upd b n x) c d E p k (n + 1) := W.put (fun q hq hn => s4_ne (fun _ => rfl) (fun z => absurd z (by omega)) (fun _ => rfl) (fun _ _ _ => rfl)) (by rw [h]; rfl) e
theorem WKx.p2 (W : WKx w a b c d E p k n) (h : p = 2) (e : x = E p k (n / 32) (n / 2 % 4) (n / 8 % 4) (n % 2)) : WKx w a b (upd c n x) d E p k (n + 1) := W.put (fun q hq hn => s4_ne (fun _ => rfl) (fun _ => rfl) (fun z => absurd z (by omega)) (fun _ _ _ => rfl)) (by rw [h]; rfl) e
theorem WKx.p3 (W : WKx w a b c d E p k n) (h : p = 3) (e : x = E p k (n / 32) (n / 2 % 4) (n / 8 % 4) (n % 2)) : WKx w a b c (upd d n x) E p k (n + 1) := W.put (fun q hq hn => s4_ne (fun _ => rfl) (fun _ => rfl) (fun _ => rfl) (fun z0 z1 z2 => absurd hn (by omega))) (by rw [h]; rfl) e
theorem WKx.done (W : WKx w a b c d E p k 96) (hk : k < 7) : WKr (upd w p (nI k)) a b c d E := fun q hq j hj e => by
  by_cases h : q = p
  · rw [h, pk_us] at e
    rw [h, ← (nI_eq (a := k) (b := j) (by omega) (by omega)).mp e]
    exact fun i hi => W.2 i hi
  · rw [pk_un h] at e
    exact W.1 q hq h j hj e
end
/-- replies that are being filled -/
def RQ (a b c d : Nat → Int32) (P : Nat) (F : Fk) (O : Nat → Nat) (Y : Nat) (E : Ev) (q n : Nat) : Prop := RPs a b c d P F O Y E q ∧ RP1 (s4 a b c d q) P F O Y E q n
section
variable {a b c d : Nat → Int32} {P q n v : Nat} {F : Fk} {O : Nat → Nat} {Y : Nat} {E : Ev}
theorem RPs.zero : RPs a b c d P F O Y E 0 := fun p hp => absurd hp (Nat.not_lt_zero p)
theorem RQ.start (h : RPs a b c d P F O Y E q) : RQ a b c d P F O Y E q 0 := ⟨h, fun i hi => absurd hi (Nat.not_lt_zero i)⟩
theorem RQ.up (h : RQ a b c d P F O Y E q 64) : RPs a b c d P F O Y E (q + 1) := fun p hp => by
  by_cases e : p = q
  · rw [e]; exact h.2
  · exact h.1 p (by omega)
theorem RQ.put {a2 b2 c2 d2 : Nat → Int32} (h : RQ a b c d P F O Y E q n) (e1 : ∀ p, p < q → s4 a2 b2 c2 d2 p = s4 a b c d p) (e2 : s4 a2 b2 c2 d2 q = upd (s4 a b c d q) n (nI v)) (e : v = pkR (rpN P F O Y E q n) 8) : RQ a2 b2 c2 d2 P F O Y E q (n + 1) := ⟨fun p hp => by rw [e1 p hp]; exact h.1 p hp, by rw [e2]; exact h.2.put e⟩
theorem RQ.p0 (h : RQ a b c d P F O Y E q n) (z : q = 0) (e : v = pkR (rpN P F O Y E q n) 8) : RQ (upd a n (nI v)) b c d P F O Y E q (n + 1) := h.put (fun p hp => s4_ne (fun y => absurd y (by omega)) (fun _ => rfl) (fun _ => rfl) (fun _ _ _ => rfl)) (by rw [z]; rfl) e
theorem RQ.p1 (h : RQ a b c d P F O Y E q n) (z : q = 1) (e : v = pkR (rpN P F O Y E q n) 8) : RQ a (upd b n (nI v)) c d P F O Y E q (n + 1) := h.put (fun p hp => s4_ne (fun _ => rfl) (fun y => absurd y (by omega)) (fun _ => rfl) (fun _ _ _ => rfl)) (by rw [z]; rfl) e
theorem RQ.p2 (h : RQ a b c d P F O Y E q n) (z : q = 2) (e : v = pkR (rpN P F O Y E q n) 8) : RQ a b (upd c n (nI v)) d P F O Y E q (n + 1) := h.put (fun p hp => s4_ne (fun _ => rfl) (fun _ => rfl) (fun y => absurd y (by omega)) (fun _ _ _ => rfl)) (by rw [z]; rfl) e
theorem RQ.p3 (h : RQ a b c d P F O Y E q n) (z : q = 3) (e : v = pkR (rpN P F O Y E q n) 8) : RQ a b c (upd d n (nI v)) P F O Y E q (n + 1) := h.put (fun p hp => s4_ne (fun _ => rfl) (fun _ => rfl) (fun _ => rfl) (fun y0 y1 y2 => absurd hp (by omega))) (by rw [z]; rfl) e
end
theorem rp_best {P : Nat} {F : Fk} {O : Nat → Nat} {Y : Nat} {E : Ev} {p c o : Nat} (k : F.1 p = 1) (h0 : 0 < o) (ho : o < 8) : rpN P F O Y E p c (o - 1) = rpN P F O Y E p c o := by
  unfold rpN
  rw [rwN_best k, rwN_best k, show (8 * c + (o - 1)) / 8 = c by omega, show (8 * c + o) / 8 = c by omega]
end CSK
section CP
/-- the sign at a place of the tape -/
def hereF (f : Nat → Int32) (sp en : Nat) : Int32 := if sp < en then f (10 + sp) else -1
theorem here_lt {f : Nat → Int32} {sp en c : Nat} (hc : c < 2 ^ 31) (h : hereF f sp en = nI c) : sp < en := by
  unfold hereF at h
  split at h
  · assumption
  · exact absurd h.symm (nat_ne_neg hc (by decide))
theorem here_dig {f : Nat → Int32} {sp en : Nat} (h : (48 : Int32) ≤ hereF f sp en ∧ hereF f sp en ≤ (57 : Int32)) : sp < en ∧ ∃ d : Nat, d ≤ 9 ∧ hereF f sp en = nI (48 + d) := by
  have a : (48 : Int32).toInt = 48 := by decide
  have b : (57 : Int32).toInt = 57 := by decide
  have h1 := le_i.mp h.1
  have h2 := le_i.mp h.2
  have z : (0 : Int32).toInt = 0 := by decide
  obtain ⟨j, hj, e⟩ := nI_of (x := hereF f sp en) (fun q => by have := lt_i.mp q; omega)
  have hji : (nI j).toInt = j := nI_toInt hj
  rw [e, hji] at h1 h2
  refine ⟨here_lt hj e, j - 48, by omega, ?_⟩
  rw [e]
  congr 1
  omega
theorem hereT {f g : Nat → Int32} {en : Nat} {Z : Nat → Int32} (q : ∀ i, 10 ≤ i → i < 110 → f i = g i) (h : ∀ i, hereF g i en = Z i) (hen : en ≤ 100) : ∀ i, hereF f i en = Z i := fun i => by
  rw [← h i]
  unfold hereF
  split
  · exact q _ (by omega) (by omega)
  · rfl
theorem zend {f Z : Nat → Int32} {en : Nat} (h : ∀ i, hereF f i en = Z i) : ∀ i, en ≤ i → Z i = -1 := fun i hi => (h i).symm.trans (if_neg (by omega))
theorem zlt {Z : Nat → Int32} {en i c : Nat} (h : ∀ i, en ≤ i → Z i = -1) (hc : c < 2 ^ 31) (e : Z i = nI c) : i < en := by
  rcases Nat.lt_or_ge i en with q | q
  · exact q
  · exact absurd (e.symm.trans (h i q)) (nat_ne_neg hc (by decide))
theorem z_dig {Z : Nat → Int32} {en i : Nat} (hz : ∀ i, en ≤ i → Z i = -1) (h : (48 : Int32) ≤ Z i ∧ Z i ≤ (57 : Int32)) : i < en ∧ ∃ d : Nat, d ≤ 9 ∧ Z i = nI (48 + d) := by
  have a : (48 : Int32).toInt = 48 := by decide
  have b : (57 : Int32).toInt = 57 := by decide
  have h1 := le_i.mp h.1
  have h2 := le_i.mp h.2
  have z : (0 : Int32).toInt = 0 := by decide
  obtain ⟨j, hj, e⟩ := nI_of (x := Z i) (fun q => by have := lt_i.mp q; omega)
  have hji : (nI j).toInt = j := nI_toInt hj
  rw [e, hji] at h1 h2
  refine ⟨zlt hz hj e, j - 48, by omega, ?_⟩
  rw [e]
  congr 1
  omega
/-- the number of the steps so far of the town that is read -/
def PW (f : Nat → Int32) (a m : Nat) : Prop := f (141 + a) = nI m
theorem PW.push {f : Nat → Int32} {a m : Nat} {x : Int32} : PW (upd (upd f (146 + 140 * a + m) x) (141 + a) (nI (m + 1))) a (m + 1) := pk_us
theorem AP.push {f : Nat → Int32} {a m : Nat} {x y : Int32} : AP (upd (upd f (146 + 140 * a + m) x) (141 + a) y) f (146 + 140 * a) m [x] := AP.one.cong (fun i hi => pk_un (by omega))
/-- the town's note hours while it is read -/
def NT (f : Nat → Int32) (a : Nat) : Prop := ∃ n : Nat, n < 100 ∧ f (136 + a) = nI n
theorem NT.step {f : Nat → Int32} {a m : Nat} {x y : Int32} (h : NT f a) (ha : a < 5) : NT (upd (upd f (146 + 140 * a + m) x) (141 + a) y) a := by
  obtain ⟨n, h1, h2⟩ := h
  exact ⟨n, h1, by rw [pk_un (by omega), pk_un (by omega)]; exact h2⟩
theorem MI.step {f : Nat → Int32} {P T B S Y m : Nat} {x y : Int32} (h : MI f P T B S Y) (hT : T < 5) (hm : m < 140) : MI (upd (upd f (146 + 140 * T + m) x) (141 + T) y) P T B S Y := (h.setFree ⟨T, Nat.le_refl _, hT, by omega⟩).setFree ⟨T, Nat.le_refl _, hT, by omega⟩
/-- a new town: the count, and which one holds -/
theorem MI.addTown {f : Nat → Int32} {P T B S Y : Nat} (h : MI f P T B S Y) (hT : T < 5) (hn : NT f T) : MI (upd (upd f 1 (nI (T + 1))) 4 (nI T)) P (T + 1) B S Y := by
  have h4 := h.P4; have h10 := h.B10
  refine ⟨⟨un_ (by omega) (un_ (by omega) h.h0), h.P4⟩, ⟨un_ (by omega) pk_us, by omega⟩, ⟨un_ (by omega) (un_ (by omega) h.h2), h.B10⟩, ⟨un_ (by omega) (un_ (by omega) h.h3), h.S100⟩, ?_, ⟨un_ (by omega) (un_ (by omega) h.h5), h.Yd⟩, fun i hi => unE (by omega) (unE (by omega) (h.kind i hi)), fun i hi => unE (by omega) (unE (by omega) (h.v i hi)), fun i hi => unE (by omega) (unE (by omega) (h.row i hi)), fun i hi => unE (by omega) (unE (by omega) (h.note i hi)), fun i hi => unE (by omega) (unE (by omega) (h.book i hi)), fun i hi => ?_⟩
  · rw [pk_us]; exact (pk_m1 T).symm
  · rcases Nat.lt_or_ge i T with q | q
    · exact unE (by omega) (unE (by omega) (h.notes i q))
    · rw [show i = T by omega]; exact unE (by omega) (unE (by omega) hn)
theorem and255 (x : Int32) : ∃ c : Nat, c < 256 ∧ x &&& 255 = nI c := pk_andE x 8 (by decide +kernel)
end CP
section CP
theorem dig_in {d : Nat} (h : d ≤ 9) : (48 : Int32) ≤ nI (48 + d) ∧ nI (48 + d) ≤ (57 : Int32) := by
  have a : (48 : Int32).toInt = 48 := by decide
  have b : (57 : Int32).toInt = 57 := by decide
  have hj : (nI (48 + d)).toInt = ((48 + d : Nat) : Int) := nI_toInt (by omega)
  refine ⟨le_i.mpr ?_, le_i.mpr ?_⟩
  · rw [a, hj]; omega
  · rw [hj, b]; omega
end CP
section CQT
/-- but for the tape's count and the town that is read the rows are the same -/
def EqT (f g : Nat → Int32) (T : Nat) : Prop := ∀ i, i ≠ 1 → i ≠ 3 → i ≠ 4 → i ≠ 136 + T → i ≠ 141 + T → (i < 146 + 140 * T ∨ 286 + 140 * T ≤ i) → f i = g i
theorem EqT.rf {f : Nat → Int32} {T : Nat} : EqT f f T := fun _ _ _ _ _ _ _ => rfl
theorem EqT.trans {f g h : Nat → Int32} {T : Nat} (a : EqT f g T) (b : EqT g h T) : EqT f h T := fun i h1 h2 h3 h4 h5 h6 => (a i h1 h2 h3 h4 h5 h6).trans (b i h1 h2 h3 h4 h5 h6)
theorem EqT.step {f g : Nat → Int32} {T m : Nat} {x y : Int32} (a : EqT f g T) (hm : m < 140) : EqT (upd (upd f (146 + 140 * T + m) x) (141 + T) y) g T := fun i h1 h2 h3 h4 h5 h6 => (pk_un h5).trans ((pk_un (by omega)).trans (a i h1 h2 h3 h4 h5 h6))
theorem EqT.notes {f g : Nat → Int32} {T : Nat} {x : Int32} (a : EqT f g T) : EqT (upd f (136 + T) x) g T := fun i h1 h2 h3 h4 h5 h6 => (pk_un h4).trans (a i h1 h2 h3 h4 h5 h6)
theorem EqT.many {f g : Nat → Int32} {T : Nat} {x : Int32} (a : EqT f g T) : EqT (upd f (141 + T) x) g T := fun i h1 h2 h3 h4 h5 h6 => (pk_un h5).trans (a i h1 h2 h3 h4 h5 h6)
theorem EqT.three {f g : Nat → Int32} {T : Nat} {x : Int32} (a : EqT f g T) : EqT (upd f 3 x) g T := fun i h1 h2 h3 h4 h5 h6 => (pk_un h2).trans (a i h1 h2 h3 h4 h5 h6)
theorem EqT.two {f g : Nat → Int32} {T : Nat} {x y : Int32} (a : EqT f g T) : EqT (upd (upd f 1 x) 4 y) g T := fun i h1 h2 h3 h4 h5 h6 => (pk_un h3).trans ((pk_un h1).trans (a i h1 h2 h3 h4 h5 h6))
theorem EqT.tape {f g : Nat → Int32} {T : Nat} (a : EqT f g T) : ∀ i, 10 ≤ i → i < 110 → f i = g i := fun i h1 h2 => a i (by omega) (by omega) (by omega) (by omega) (by omega) (by omega)
end CQT
section CI9
theorem addC_1 {t : TWN} {nn : Nat} {e : Int32} {L : List Int32} (h : t.1 < 100) (c : CWF nn e L) : (addC t nn e L).1 < 100 := by
  unfold addC
  rcases c with c | c
  · rw [if_neg (by omega)]; exact c
  · rw [if_pos c.1]; exact h
end CI9
