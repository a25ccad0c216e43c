/-! the class's days -/
section CLS
def s4 (a b c d : Nat → Int32) (p : Nat) : Nat → Int32 := if p = 0 then a else (if p = 1 then b else (if p = 2 then c else d))
/-- one's worths are those of a kind -/
def WR (f : Nat → Int32) (E : Ev) (p k : Nat) : Prop := ∀ i, i < 96 → f i = E p k (i / 32) (i / 2 % 4) (i / 8 % 4) (i % 2)
def WRs (a b c d : Nat → Int32) (P : Nat) (F : Fk) (E : Ev) : Prop := ∀ p, p < P → WR (s4 a b c d p) E p (F.1 p)
def WKr (w a b c d : Nat → Int32) (E : Ev) : Prop := ∀ p, p < 4 → ∀ k, k < 7 → w p = nI k → WR (s4 a b c d p) E p k
section
variable {a b c d w : Nat → Int32} {P p : Nat} {F : Fk} {E : Ev}
theorem WRs.a0 (W : WRs a b c d P F E) (hp : p < P) (h : p = 0) : WR a E p (F.1 p) := by
  have e : s4 a b c d p = a := by rw [h]; rfl
  rw [← e]; exact W p hp
theorem WRs.a1 (W : WRs a b c d P F E) (hp : p < P) (h : p = 1) : WR b E p (F.1 p) := by
  have e : s4 a b c d p = b := by rw [h]; rfl
  rw [← e]; exact W p hp
theorem WRs.a2 (W : WRs a b c d P F E) (hp : p < P) (h : p = 2) : WR c E p (F.1 p) := by
  have e : s4 a b c d p = c := by rw [h]; rfl
  rw [← e]; exact W p hp
theorem WRs.a3 (W : WRs a b c d P F E) (hp : p < P) (h : p = 3) : WR d E p (F.1 p) := by
  have e : s4 a b c d p = d := by rw [h]; rfl
  rw [← e]; exact W p hp
theorem WKr.s (K : WKr w a b c d E) (B : FB F) (h4 : P ≤ 4) (h : ∀ p, p < P → w p = nI (F.1 p)) : WRs a b c d P F E := fun p hp => K p (by omega) (F.1 p) (B.1 p (by omega)) (h p hp)
theorem WKr.none (h : ∀ p, p < 4 → w p = (-1 : Int32)) : WKr w a b c d E := fun p hp k hk e => absurd ((h p hp).symm.trans e) (fun q => nat_ne_neg (n := k) (by omega) (z := -1) (by decide) q.symm)
theorem WKr.cong {w2 : Nat → Int32} (K : WKr w a b c d E) (h : ∀ p, p < 4 → w2 p = w p) : WKr w2 a b c d E := fun p hp k hk e => K p hp k hk ((h p hp).symm.trans e)
end
section
variable {f : Nat → Int32} {E : Ev} {p k s i : Nat} {O : Nat → Nat}
theorem wc_0 (W : WR f E p k) (hO : O p < 2) (hi : i = 8 * (s / 8 % 4) + O p) : f i = wS E k O p s 0 := by
  rw [wS_0, W i (by omega)]
  have e1 : i / 32 = 0 := by omega
  have e2 : i / 2 % 4 = 0 := by omega
  have e3 : i / 8 % 4 = sN s 0 := by show _ = s / 8 % 4; omega
  have e4 : i % 2 = O p := by omega
  rw [e1, e2, e3, e4]
theorem wc_1 (W : WR f E p k) (hi : i = 32 + 2 * (s / 8 % 16) + s % 2) : f i = wS E k O p s 1 := by
  rw [wS_s (by decide), W i (by omega)]
  have e1 : i / 32 = 1 := by omega
  have e2 : i / 2 % 4 = sN s (1 - 1) := by show _ = s / 8 % 4; omega
  have a0 : ∀ q : Nat, q % 16 / 4 = q / 4 % 4 := fun q => by omega
  have a1 : i / 8 = 4 + s / 8 % 16 / 4 := by omega
  have a2 : s / 32 = s / 8 / 4 := by omega
  have a3 := a0 (s / 8)
  have e3 : i / 8 % 4 = sN s 1 := by show _ = s / 32 % 4; rw [a1, a2, a3]; omega
  have e4 : i % 2 = sO s (1 - 1) := by show _ = s / 1 % 2; omega
  rw [e1, e2, e3, e4]
theorem wc_2 (W : WR f E p k) (hi : i = 64 + 2 * (s / 32 % 16) + s / 2 % 2) : f i = wS E k O p s 2 := by
  rw [wS_s (by decide), W i (by omega)]
  have e1 : i / 32 = 2 := by omega
  have e2 : i / 2 % 4 = sN s (2 - 1) := by show _ = s / 32 % 4; omega
  have a0 : ∀ q : Nat, q % 16 / 4 = q / 4 % 4 := fun q => by omega
  have a1 : i / 8 = 8 + s / 32 % 16 / 4 := by omega
  have a2 : s / 128 = s / 32 / 4 := by omega
  have a3 := a0 (s / 32)
  have e3 : i / 8 % 4 = sN s 2 := by show _ = s / 128 % 4; rw [a1, a2, a3]; omega
  have e4 : i % 2 = sO s (2 - 1) := by show _ = s / 2 % 2; omega
  rw [e1, e2, e3, e4]
end
theorem shlN {a k : Nat} (h : a * 2 ^ k < 2 ^ 32) (hk : k < 32) : nI a <<< (nI k &&& 31) = nI (a * 2 ^ k) := pk_shlN _ k (s31 k hk) h
theorem and12' : ∀ a : Fin 64, (a.val * 4) &&& 12 = 4 * (a.val % 4) := by decide +kernel
theorem and12 {a : Nat} (h : a < 64) : nI (a * 4) &&& 12 = nI (4 * (a % 4)) := by
  rw [show (12 : Int32) = nI 12 by decide +kernel, nx_and']
  exact congrArg nI (and12' ⟨a, h⟩)
theorem and511 {s : Nat} (h : s < 512) : nI s &&& 511 = nI s := by
  have := pk_andN (n := s) (by omega) (m := 511) 9 (by decide +kernel)
  rw [this, Nat.mod_eq_of_lt (by omega)]
theorem and8 {s : Nat} (h : s < 512) : nI s &&& (-8) = nI (8 * (s / 8)) := by
  have e : ∀ a : Fin 512, a.val &&& 4294967288 = 8 * (a.val / 8) := by decide +kernel
  rw [show (-8 : Int32) = nI 4294967288 by decide +kernel, nx_and']
  exact congrArg nI (e ⟨s, h⟩)
theorem or_lo {c o : Nat} (ho : o < 8) : nI (8 * c) ||| nI o = nI (8 * c + o) := by
  have := Nat.two_pow_add_eq_or_of_lt (i := 3) (b := o) ho c
  rw [nx_or]
  exact congrArg nI this.symm
/-- bits, counted -/
def us (x k : Int32) : Int32 := ((x).toUInt32 >>> ((k).toUInt32 &&& Int32.toUInt32 31)).toInt32
def bcA (x : Int32) : Int32 := x - (us x 1 &&& (1431655765 : Int32))
def bcB (x : Int32) : Int32 := (x &&& (858993459 : Int32)) + (us x 2 &&& (858993459 : Int32))
def bcC (x : Int32) : Int32 := (x + us x 4) &&& (252645135 : Int32)
def bcE (x : Int32) : Int32 := (let y := bcC (bcB (bcA x)); let z := y + us y 8; z + us z 16) &&& (63 : Int32)
theorem bc_16 : ∀ a : Fin 16, bcE (nI a.val) = nI (bN4 a.val) := by decide +kernel
theorem bc_4 : ∀ a b c d : Fin 2, bcE (nI (a.val + 8 * b.val + 64 * c.val + 512 * d.val)) = nI (a.val + b.val + c.val + d.val) := by decide +kernel
theorem bc_n {a : Nat} (h : a < 16) : bcE (nI a) = nI (bN4 a) := bc_16 ⟨a, h⟩
/-- the others' bits -/
def mskO (p : Nat) : Nat := if p = 0 then 584 else (if p = 1 then 577 else (if p = 2 then 521 else 73))
def o4b (x p : Nat) : Nat := (if p = 0 then 0 else x % 2) + 8 * (if p = 1 then 0 else x / 8 % 2) + 64 * (if p = 2 then 0 else x / 64 % 2) + 512 * (if p = 3 then 0 else x / 512 % 2)
def o4n (x p : Nat) : Nat := (if p = 0 then 0 else x % 2) + (if p = 1 then 0 else x / 8 % 2) + (if p = 2 then 0 else x / 64 % 2) + (if p = 3 then 0 else x / 512 % 2)
theorem o4_and' : ∀ p : Fin 4, ∀ a : Fin 64, ∀ b : Fin 64, (64 * a.val + b.val) &&& mskO p.val = o4b (64 * a.val + b.val) p.val := by decide +kernel
theorem o4_and {x p : Nat} (hx : x < 4096) (hp : p < 4) : x &&& mskO p = o4b x p := by
  have h := o4_and' ⟨p, hp⟩ ⟨x / 64, by omega⟩ ⟨x % 64, Nat.mod_lt _ (by decide)⟩
  simp only at h
  rw [show 64 * (x / 64) + x % 64 = x by omega] at h
  exact h
theorem o4_bc {x p : Nat} : bcE (nI (o4b x p)) = nI (o4n x p) := by
  have l : ∀ (c : Prop) [Decidable c] (y : Nat), (if c then 0 else y % 2) < 2 := fun c _ y => by split <;> omega
  exact bc_4 ⟨_, l (p = 0) x⟩ ⟨_, l (p = 1) (x / 8)⟩ ⟨_, l (p = 2) (x / 64)⟩ ⟨_, l (p = 3) (x / 512)⟩
theorem dB_z {P d k : Nat} (hd : d < d8 P) (hk : 3 * P ≤ k) : dB d k = 0 := by
  unfold dB
  have : d < 2 ^ k := Nat.lt_of_lt_of_le (by rw [d8_two]; exact hd) (Nat.pow_le_pow_right (by decide) hk)
  rw [Nat.div_eq_of_lt this]
theorem oN_up {P d p h : Nat} (hd : d < d8 P) : ∀ n : Nat, oN d p h (P + n) = oN d p h P
  | 0 => rfl
  | n + 1 => by
    have ih := oN_up (p := p) (h := h) hd n
    show oN d p h (P + n) + (if P + n = p then 0 else dB d (3 * (P + n) + h)) = _
    rw [dB_z hd (by omega), ih]
    split <;> rfl
theorem o4_on {P d p h : Nat} (hd : d < d8 P) (hP : P ≤ 4) : o4n (d / 2 ^ h) p = oN d p h P := by
  have e := oN_up (p := p) (h := h) hd (4 - P)
  rw [show P + (4 - P) = 4 by omega] at e
  rw [← e]
  show _ = 0 + (if 0 = p then 0 else dB d (3 * 0 + h)) + (if 1 = p then 0 else dB d (3 * 1 + h)) + (if 2 = p then 0 else dB d (3 * 2 + h)) + (if 3 = p then 0 else dB d (3 * 3 + h))
  have q : ∀ k : Nat, d / 2 ^ h / 2 ^ k % 2 = dB d (k + h) := fun k => by
    unfold dB
    rw [Nat.div_div_eq_div_mul, ← Nat.pow_add, Nat.add_comm]
  have q0 := q 0
  have q1 := q 3
  have q2 := q 6
  have q3 := q 9
  rw [Nat.pow_zero, Nat.div_one] at q0
  unfold o4n
  rw [show (8 : Nat) = 2 ^ 3 by rfl, show (64 : Nat) = 2 ^ 6 by rfl, show (512 : Nat) = 2 ^ 9 by rfl, q0, q1, q2, q3]
  have z0 : 3 * 0 + h = h := by omega
  have z1 : 3 * 1 + h = 3 + h := by omega
  have z2 : 3 * 2 + h = 6 + h := by omega
  have z3 : 3 * 3 + h = 9 + h := by omega
  simp only [eq_comm (b := p), Nat.zero_add, z0, z1, z2, z3]
theorem sg_n {P d p h : Nat} (hd : d < d8 P) (hP : P ≤ 4) (hp : p < 4) : bcE (nI (d / 2 ^ h) &&& nI (mskO p)) = nI (oN d p h P) := by
  have := d8_le hP
  have l : d / 2 ^ h ≤ d := Nat.div_le_self _ _
  rw [nx_and', o4_and (by omega) hp, o4_bc, o4_on hd hP]
/-- the sight, hour by hour -/
def snP (P d p : Nat) : Nat → Nat
  | 0 => d / 8 ^ p % 8
  | h + 1 => snP P d p h + oN d p h P * 2 ^ (3 + 2 * h)
theorem snP_3 {P d p : Nat} : snP P d p 3 = siN P d p := by
  show d / 8 ^ p % 8 + oN d p 0 P * 8 + oN d p 1 P * 32 + oN d p 2 P * 128 = _
  unfold siN
  omega
theorem snP_lt {P d p : Nat} (hp : p < P) (hP : P ≤ 4) : ∀ h : Nat, snP P d p h < 2 ^ (3 + 2 * h)
  | 0 => Nat.mod_lt _ (by decide)
  | h + 1 => by
    have ih := snP_lt (d := d) hp hP h
    have a := oN_3 (d := d) (h := h) hp hP
    show _ + _ * 2 ^ (3 + 2 * h) < 2 ^ (3 + 2 * (h + 1))
    rw [show 3 + 2 * (h + 1) = 3 + 2 * h + 2 by omega, Nat.pow_add _ _ 2]
    have : oN d p h P * 2 ^ (3 + 2 * h) ≤ 3 * 2 ^ (3 + 2 * h) := Nat.mul_le_mul_right _ a
    omega
theorem snP_s {P d p h : Nat} (hp : p < P) (hP : P ≤ 4) : snP P d p h ||| oN d p h P * 2 ^ (3 + 2 * h) = snP P d p (h + 1) := by
  have l := snP_lt (d := d) hp hP h
  have := Nat.two_pow_add_eq_or_of_lt l (oN d p h P)
  rw [Nat.or_comm, Nat.mul_comm, ← this, Nat.add_comm, Nat.mul_comm]
  rfl
/-- rows, packed -/
def pkR (g : Nat → Nat) : Nat → Nat
  | 0 => 0
  | o + 1 => pkR g o + g o * 8 ^ o
theorem pkR_lt {g : Nat → Nat} (h : ∀ o, g o < 8) : ∀ n : Nat, pkR g n < 8 ^ n
  | 0 => Nat.lt_of_lt_of_le (Nat.zero_lt_succ 0) (Nat.le_refl 1)
  | n + 1 => by
    have ih := pkR_lt h n
    have hg := h n
    show _ + _ * 8 ^ n < 8 ^ (n + 1)
    rw [Nat.pow_succ]
    have : g n * 8 ^ n ≤ 7 * 8 ^ n := Nat.mul_le_mul_right _ (by omega)
    omega
theorem pkR_or {g : Nat → Nat} (h : ∀ o, g o < 8) {n x : Nat} (e : x = g n) : pkR g n ||| x * 2 ^ (3 * n) = pkR g (n + 1) := by
  have l := pkR_lt h n
  have l2 : pkR g n < 2 ^ (3 * n) := by rw [← eight]; exact l
  have := Nat.two_pow_add_eq_or_of_lt l2 (g n)
  rw [e, Nat.or_comm, Nat.mul_comm (g n), ← this, Nat.add_comm, ← eight, Nat.mul_comm]
  rfl
theorem pkR_get {g : Nat → Nat} (h : ∀ o, g o < 8) : ∀ n o : Nat, o < n → pkR g n / 8 ^ o % 8 = g o
  | 0, o, ho => absurd ho (Nat.not_lt_zero o)
  | n + 1, o, ho => by
    by_cases e : o = n
    · subst e
      show (pkR g o + g o * 8 ^ o) / 8 ^ o % 8 = g o
      rw [Nat.add_mul_div_right _ _ (Nat.pow_pos (by decide)), Nat.div_eq_of_lt (pkR_lt h o)]
      have := h o
      omega
    · have ih := pkR_get h n o (by omega)
      show (pkR g n + g n * 8 ^ n) / 8 ^ o % 8 = g o
      obtain ⟨m, rfl⟩ : ∃ m, n = o + 1 + m := ⟨n - (o + 1), by omega⟩
      have e2 : g (o + 1 + m) * 8 ^ (o + 1 + m) = (g (o + 1 + m) * 8 ^ m * 8) * 8 ^ o := by
        rw [Nat.pow_add, Nat.pow_succ]
        simp only [Nat.mul_assoc, Nat.mul_comm, Nat.mul_left_comm]
      rw [e2, Nat.add_mul_div_right _ _ (Nat.pow_pos (by decide)), Nat.add_mul_mod_self_right]
      exact ih
/-- what one would do, by the others' counts -/
def rpN (P : Nat) (F : Fk) (O : Nat → Nat) (Y : Nat) (E : Ev) (p c : Nat) : Nat → Nat := fun o => rwN F O E p (8 * c + o) (siN P Y p)
def RP1 (f : Nat → Int32) (P : Nat) (F : Fk) (O : Nat → Nat) (Y : Nat) (E : Ev) (p n : Nat) : Prop := ∀ c, c < n → f c = nI (pkR (rpN P F O Y E p c) 8)
def RPs (a b c d : Nat → Int32) (P : Nat) (F : Fk) (O : Nat → Nat) (Y : Nat) (E : Ev) (q : Nat) : Prop := ∀ p, p < q → RP1 (s4 a b c d p) P F O Y E p 64
section
variable {a b c d f : Nat → Int32} {P p q : Nat} {F : Fk} {O : Nat → Nat} {Y : Nat} {E : Ev}
theorem rpN_lt (c : Nat) : ∀ o, rpN P F O Y E p c o < 8 := fun o => rwN_lt
theorem RPs.a0 (W : RPs a b c d P F O Y E q) (hp : p < q) (h : p = 0) : RP1 a P F O Y E p 64 := by
  have e : s4 a b c d p = a := by rw [h]; rfl
  rw [← e]; exact W p hp
theorem RPs.a1 (W : RPs a b c d P F O Y E q) (hp : p < q) (h : p = 1) : RP1 b P F O Y E p 64 := by
  have e : s4 a b c d p = b := by rw [h]; rfl
  rw [← e]; exact W p hp
theorem RPs.a2 (W : RPs a b c d P F O Y E q) (hp : p < q) (h : p = 2) : RP1 c P F O Y E p 64 := by
  have e : s4 a b c d p = c := by rw [h]; rfl
  rw [← e]; exact W p hp
theorem RPs.a3 (W : RPs a b c d P F O Y E q) (hp : p < q) (h : p = 3) : RP1 d P F O Y E p 64 := by
  have e : s4 a b c d p = d := by rw [h]; rfl
  rw [← e]; exact W p hp
theorem s4_ne {x y z w x2 y2 z2 w2 : Nat → Int32} {p : Nat} (h0 : p = 0 → x2 = x) (h1 : p = 1 → y2 = y) (h2 : p = 2 → z2 = z) (h3 : ¬ p = 0 → ¬ p = 1 → ¬ p = 2 → w2 = w) : s4 x2 y2 z2 w2 p = s4 x y z w p := by
  unfold s4
  split
  · rename_i e; exact h0 e
  · split
    · rename_i e; exact h1 e
    · split
      · rename_i e; exact h2 e
      · rename_i e0 e1 e2; exact h3 e0 e1 e2
theorem RPs.s0 {f : Nat → Int32} (W : RPs a b c d P F O Y E q) (h : q = 0) (R : RP1 f P F O Y E q 64) : RPs f b c d P F O Y E (q + 1) := fun p hp => by
  by_cases e : p = q
  · rw [e]; have e2 : s4 f b c d q = f := by rw [h]; rfl
    rw [e2]; exact R
  · rw [s4_ne (x := a) (y := b) (z := c) (w := d) (fun z => absurd z (by omega)) (fun _ => rfl) (fun _ => rfl) (fun _ _ _ => rfl)]; exact W p (by omega)
theorem RPs.s1 {f : Nat → Int32} (W : RPs a b c d P F O Y E q) (h : q = 1) (R : RP1 f P F O Y E q 64) : RPs a f c d P F O Y E (q + 1) := fun p hp => by
  by_cases e : p = q
  · rw [e]; have e2 : s4 a f c d q = f := by rw [h]; rfl
    rw [e2]; exact R
  · rw [s4_ne (x := a) (y := b) (z := c) (w := d) (fun _ => rfl) (fun z => absurd z (by omega)) (fun _ => rfl) (fun _ _ _ => rfl)]; exact W p (by omega)
theorem RPs.s2 {f : Nat → Int32} (W : RPs a b c d P F O Y E q) (h : q = 2) (R : RP1 f P F O Y E q 64) : RPs a b f d P F O Y E (q + 1) := fun p hp => by
  by_cases e : p = q
  · rw [e]; have e2 : s4 a b f d q = f := by rw [h]; rfl
    rw [e2]; exact R
  · rw [s4_ne (x := a) (y := b) (z := c) (w := d) (fun _ => rfl) (fun _ => rfl) (fun z => absurd z (by omega)) (fun _ _ _ => rfl)]; exact W p (by omega)
theorem RPs.s3 {f : Nat → Int32} (W : RPs a b c d P F O Y E q) (h : q = 3) (R : RP1 f P F O Y E q 64) : RPs a b c f P F O Y E (q + 1) := fun p hp => by
  by_cases e : p = q
  · rw [e]; have e2 : s4 a b c f q = f := by rw [h]; rfl
    rw [e2]; exact R
  · rw [s4_ne (x := a) (y := b) (z := c) (w := d) (fun _ => rfl) (fun _ => rfl) (fun _ => rfl) (fun a0 a1 a2 => absurd hp (by omega))]; exact W p (by omega)
theorem RP1.put {v : Nat} (R : RP1 f P F O Y E p q) (h : v = pkR (rpN P F O Y E p q) 8) : RP1 (upd f q (nI v)) P F O Y E p (q + 1) := fun i hi => by
  by_cases e : i = q
  · rw [e, pk_us, h]
  · rw [pk_un e]; exact R i (by omega)
/-- one's answer -/
theorem ans_1 {D s : Nat} (R : RP1 f P F O Y E p 64) (hs : siN P D p = s) (h5 : s < 512) : f (s / 8) = nI (pkR (rpN P F O Y E p (s / 8)) 8) ∧ pkR (rpN P F O Y E p (s / 8)) 8 < 16777216 ∧ pkR (rpN P F O Y E p (s / 8)) 8 / 2 ^ (3 * (s % 8)) % 8 = rwD P F O Y E D p := by
  have g := pkR_get (rpN_lt (P := P) (F := F) (O := O) (Y := Y) (E := E) (p := p) (s / 8)) 8 (s % 8) (Nat.mod_lt _ (by decide))
  refine ⟨R _ (by omega), pkR_lt (rpN_lt (P := P) (F := F) (O := O) (Y := Y) (E := E) (p := p) (s / 8)) 8, ?_⟩
  rw [← eight, g]
  unfold rpN rwD
  rw [hs, show 8 * (s / 8) + s % 8 = s by omega]
end
theorem fo_x : ∀ r o : Fin 8, (r.val ^^^ o.val < 8) ∧ (r.val ^^^ o.val = 0 ↔ hD r.val o.val = 3) ∧ ((r.val ^^^ o.val) % 2 = 1 → hD r.val o.val = 0) ∧ (¬ (r.val ^^^ o.val) % 2 = 1 → (r.val ^^^ o.val) / 2 % 2 = 1 → hD r.val o.val = 1) ∧ (¬ (r.val ^^^ o.val) % 2 = 1 → ¬ (r.val ^^^ o.val) / 2 % 2 = 1 → (r.val ^^^ o.val) / 4 % 2 = 1 → hD r.val o.val = 2) ∧ (¬ (r.val ^^^ o.val) % 2 = 1 → ¬ (r.val ^^^ o.val) / 2 % 2 = 1 → ¬ (r.val ^^^ o.val) / 4 % 2 = 1 → r.val ^^^ o.val = 0) := by decide +kernel
theorem fo_xx {r o x : Nat} (hr : r < 8) (ho : o < 8) (hx : x = r ^^^ o) : (x < 8) ∧ (x = 0 → hD r o = 3) ∧ (x % 2 = 1 → hD r o = 0) ∧ (¬ x % 2 = 1 → x / 2 % 2 = 1 → hD r o = 1) ∧ (¬ x % 2 = 1 → ¬ x / 2 % 2 = 1 → x / 4 % 2 = 1 → hD r o = 2) ∧ (¬ x % 2 = 1 → ¬ x / 2 % 2 = 1 → ¬ x / 4 % 2 = 1 → hD r o = 3) := by
  subst hx
  obtain ⟨a, b, c, d, e, f⟩ := fo_x ⟨r, hr⟩ ⟨o, ho⟩
  exact ⟨a, b.mp, c, d, e, fun x y z => b.mp (f x y z)⟩
theorem an_or {P : Nat} {F : Fk} {O : Nat → Nat} {Y : Nat} {E : Ev} {d p : Nat} : anN P F O Y E d p ||| rwD P F O Y E d p * 2 ^ (3 * p) = anN P F O Y E d (p + 1) := by
  have l := anN_lt (P := P) (F := F) (O := O) (Y := Y) (E := E) (d := d) p
  have l2 : anN P F O Y E d p < 2 ^ (3 * p) := by rw [← eight]; exact l
  have := Nat.two_pow_add_eq_or_of_lt l2 (rwD P F O Y E d p)
  rw [Nat.or_comm, Nat.mul_comm (rwD P F O Y E d p), ← this, Nat.add_comm, ← eight, Nat.mul_comm]
  rfl
/-- what was found, in fields -/
def SEr (i7 i8 i9 i10 i11 : Int32) (s : SR) : Prop := i7 = nI s.1 ∧ i8 = s.2.1 ∧ i9 = s.2.2.1 ∧ i10 = s.2.2.2.1 ∧ (0 < s.1 → i11 = s.2.2.2.2)
/-- what Days has kept -/
def DST (i5 i6 i7 i8 i9 i10 i11 : Int32) (w a b c d ya yb yc yd : Nat → Int32) (P : Nat) (F : Fk) (O : Nat → Nat) (Y : Nat) (E : Ev) : Prop :=
  WKr w a b c d E ∧ (i5 = 0 ∨ (i5 = 1 ∧ (∀ p, p < P → w p = nI (F.1 p)) ∧ RPs ya yb yc yd P F O Y E P)) ∧ (i6 = 0 ∨ (i6 = 1 ∧ i5 = 1 ∧ SEr i7 i8 i9 i10 i11 (seD P F O Y E)))
section
variable {i5 i6 i7 i8 i9 i10 i11 : Int32} {w a b c d ya yb yc yd : Nat → Int32} {P : Nat} {F : Fk} {O : Nat → Nat} {Y : Nat} {E : Ev}
theorem DST.zero (K : WKr w a b c d E) : DST 0 0 i7 i8 i9 i10 i11 w a b c d ya yb yc yd P F O Y E := ⟨K, Or.inl rfl, Or.inl rfl⟩
theorem SEr.st (h : SEr i7 i8 i9 i10 i11 (seD P F O Y E)) : ∃ s : Nat, s = (seD P F O Y E).1 ∧ i7 = nI s := ⟨_, rfl, h.1⟩
/-- notes -/
theorem nt_16 (h : ∀ j, j < 4 → O j < 2) (hP : P ≤ 4) : ntN O P < 16 := Nat.lt_of_lt_of_le (ntN_lt h P hP) (Nat.pow_le_pow_right (n := 2) (i := P) (j := 4) (by decide) hP)
theorem ntN_put {v : Nat} {p : Nat} : ∀ q : Nat, p < q → ntN (fS O p v) q + O p * 2 ^ p = ntN O q + v * 2 ^ p
  | 0, h => absurd h (Nat.not_lt_zero p)
  | q + 1, h => by
    show ntN (fS O p v) q + fS O p v q * 2 ^ q + O p * 2 ^ p = ntN O q + O q * 2 ^ q + v * 2 ^ p
    by_cases e : p = q
    · subst e
      rw [fS_s, ntN_cong (O := fS O p v) (O2 := O) p (fun j hj => fS_n (by omega))]
      omega
    · have ih := ntN_put (v := v) (p := p) q (by omega)
      rw [fS_n (Ne.symm e)]
      omega
theorem or_16 : ∀ x : Fin 16, ∀ p : Fin 4, (x.val ||| 2 ^ p.val) + x.val / 2 ^ p.val % 2 * 2 ^ p.val = x.val + 2 ^ p.val := by decide +kernel
theorem an_16 : ∀ x : Fin 16, ∀ p : Fin 4, (x.val &&& (4294967295 - 2 ^ p.val)) + x.val / 2 ^ p.val % 2 * 2 ^ p.val = x.val := by decide +kernel
theorem no_16 : ∀ p : Fin 4, ((1 : Int32) <<< (nI p.val &&& 31)) ^^^ (-1) = nI (4294967295 - 2 ^ p.val) := by decide +kernel
theorem nt_or {p : Nat} (h : ∀ j, j < 4 → O j < 2) (hP : P ≤ 4) (hp : p < P) : ntN O P ||| 2 ^ p = ntN (fS O p 1) P := by
  have a := or_16 ⟨ntN O P, nt_16 h hP⟩ ⟨p, by omega⟩
  have b := ntN_bit h P hP p hp
  have c := ntN_put (O := O) (v := 1) P hp
  simp only at a
  rw [b] at a
  omega
theorem nt_and {p : Nat} (h : ∀ j, j < 4 → O j < 2) (hP : P ≤ 4) (hp : p < P) : ntN O P &&& (4294967295 - 2 ^ p) = ntN (fS O p 0) P := by
  have a := an_16 ⟨ntN O P, nt_16 h hP⟩ ⟨p, by omega⟩
  have b := ntN_bit h P hP p hp
  have c := ntN_put (O := O) (v := 0) P hp
  simp only at a
  rw [b] at a
  omega
theorem nt_new (h : ∀ j, j < 4 → O j < 2) (hP : P < 4) : ntN O P &&& (4294967295 - 2 ^ P) = ntN O P := by
  have a := an_16 ⟨ntN O P, nt_16 h (by omega)⟩ ⟨P, hP⟩
  have b := ntN_lt h P (by omega)
  simp only at a
  rw [Nat.div_eq_of_lt b] at a
  omega
theorem nt_join : ntN (fS O P 0) (P + 1) = ntN O P := by
  show ntN (fS O P 0) P + fS O P 0 P * 2 ^ P = _
  rw [fS_s, Nat.zero_mul, Nat.add_zero]
  exact ntN_cong P (fun j hj => fS_n (by omega))
end
/-- how many hours: bits of one's own -/
theorem ho_bits {d p : Nat} : bN4 (d / 8 ^ p % 8) = hoN d p 3 := by
  have a := dB_own d p 0 (by decide)
  have b := dB_own d p 1 (by decide)
  have c := dB_own d p 2 (by decide)
  have e : hoN d p 3 = 0 + dB d (3 * p + 0) + dB d (3 * p + 1) + dB d (3 * p + 2) := rfl
  have l : d / 8 ^ p % 8 < 8 := Nat.mod_lt _ (by decide)
  rw [e, ← a, ← b, ← c]
  generalize d / 8 ^ p % 8 = x at *
  unfold bN4
  omega
theorem df_x : ∀ r o : Fin 8, bN4 (r.val ^^^ o.val) = (if r.val / 2 ^ 0 % 2 = o.val / 2 ^ 0 % 2 then 0 else 1) + (if r.val / 2 ^ 1 % 2 = o.val / 2 ^ 1 % 2 then 0 else 1) + (if r.val / 2 ^ 2 % 2 = o.val / 2 ^ 2 % 2 then 0 else 1) ∧ r.val ^^^ o.val < 8 := by decide +kernel
theorem df_bits {a b p : Nat} : bN4 (a / 8 ^ p % 8 ^^^ b / 8 ^ p % 8) = dfN a b p 3 ∧ a / 8 ^ p % 8 ^^^ b / 8 ^ p % 8 < 8 := by
  have h := df_x ⟨a / 8 ^ p % 8, Nat.mod_lt _ (by decide)⟩ ⟨b / 8 ^ p % 8, Nat.mod_lt _ (by decide)⟩
  simp only [dB_own a p 0 (by decide), dB_own a p 1 (by decide), dB_own a p 2 (by decide), dB_own b p 0 (by decide), dB_own b p 1 (by decide), dB_own b p 2 (by decide)] at h
  refine ⟨?_, h.2⟩
  rw [h.1]
  show _ = 0 + (if dB a (3 * p + 0) = dB b (3 * p + 0) then 0 else 1) + (if dB a (3 * p + 1) = dB b (3 * p + 1) then 0 else 1) + (if dB a (3 * p + 2) = dB b (3 * p + 2) then 0 else 1)
  omega
/-- the greatest common divisor, within 100 steps -/
def GB (x y s : Nat) : Prop := (s = 0 ∧ x ≤ 4096 ∧ y ≤ 4096) ∨ (y < x ∧ x ≤ 4096 ∧ x * y * 2 ^ s ≤ 2 ^ 25)
theorem GB.le {x y s : Nat} (h : GB x y s) : x ≤ 4096 ∧ y ≤ 4096 := by
  rcases h with ⟨-, a, b⟩ | ⟨a, b, -⟩
  · exact ⟨a, b⟩
  · omega
theorem GB.step {x y s : Nat} (h : GB x y s) (hy : 0 < y) : GB y (x % y) (s + 1) := by
  have l : x % y < y := Nat.mod_lt _ hy
  refine Or.inr ⟨l, (h.le).2, ?_⟩
  rcases h with ⟨rfl, a, b⟩ | ⟨a, b, c⟩
  · have : y * (x % y) ≤ 4096 * 4096 := Nat.mul_le_mul b (by omega)
    show y * (x % y) * 2 ≤ _
    omega
  · have d := Nat.div_add_mod x y
    have q : 1 ≤ x / y := (Nat.one_le_div_iff hy).mpr (by omega)
    have q2 : y * 1 ≤ y * (x / y) := Nat.mul_le_mul_left y q
    have e : 2 * (x % y) ≤ x := by omega
    have f : y * (x % y) * 2 ≤ x * y := by
      rw [Nat.mul_assoc, Nat.mul_comm x y]
      exact Nat.mul_le_mul_left y (by omega)
    have g : y * (x % y) * 2 ^ (s + 1) = y * (x % y) * 2 * 2 ^ s := by rw [Nat.pow_succ, Nat.mul_comm (2 ^ s) 2, ← Nat.mul_assoc]
    rw [g]
    exact Nat.le_trans (Nat.mul_le_mul_right _ f) c
theorem GB.done {x y : Nat} (h : GB x y 100) : y = 0 := by
  rcases h with ⟨a, -⟩ | ⟨a, -, c⟩
  · omega
  · rcases Nat.eq_zero_or_pos y with e | e
    · exact e
    · exfalso
      have : 1 * 2 ^ 100 ≤ x * y * 2 ^ 100 := Nat.mul_le_mul_right _ (Nat.mul_pos (by omega) e)
      have := Nat.le_trans this c
      exact absurd this (by decide)
theorem max1_n {g : Nat} (h : 0 < g) (h2 : g < 2 ^ 31) : (if nI g < (1 : Int32) then (1 : Int32) else nI g) = nI g := if_neg (fun q => by
  have := (nI_ltI (a := g) (b := 1) h2 (by decide)).mp q
  omega)
end CLS
