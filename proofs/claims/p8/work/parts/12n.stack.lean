/-! the class's truths, as bits -/
section CSK
def stN : List Bool → Nat
  | [] => 0
  | b :: t => bN b + 2 * stN t
theorem stN_lt : ∀ k : List Bool, stN k < 2 ^ k.length
  | [] => Nat.lt_of_lt_of_le (Nat.zero_lt_succ 0) (Nat.le_refl 1)
  | b :: t => by
    have ih := stN_lt t
    have hb := bN_lt b
    show bN b + 2 * stN t < 2 ^ (t.length + 1)
    rw [Nat.pow_succ]; omega
theorem stN_top : ∀ k : List Bool, stN k % 2 = bN (k.headD false)
  | [] => rfl
  | b :: t => by
    have hb := bN_lt b
    show (bN b + 2 * stN t) % 2 = bN b
    omega
theorem or_1 (v x : Nat) (hx : x < 2) : (2 * v + x) ||| 1 = 2 * v + 1 := by
  have a := Nat.two_pow_add_eq_or_of_lt (i := 1) (b := x) (by omega) v
  have b := Nat.two_pow_add_eq_or_of_lt (i := 1) (b := 1) (by omega) v
  have a' : 2 * v + x = 2 * v ||| x := a
  have b' : 2 * v + 1 = 2 * v ||| 1 := b
  rw [a', Nat.or_assoc, b']
  rcases (show x = 0 ∨ x = 1 by omega) with rfl | rfl
  · rfl
  · rfl
theorem xor_1 (v : Nat) : (2 * v) ^^^ 1 = 2 * v + 1 := by
  apply Nat.eq_of_testBit_eq
  intro i
  rw [Nat.testBit_xor]
  cases i with
  | zero =>
    rw [Nat.testBit_zero, Nat.testBit_zero, Nat.testBit_zero, show 2 * v % 2 = 0 by omega, show (2 * v + 1) % 2 = 1 by omega]
    rfl
  | succ i =>
    rw [Nat.testBit_succ, Nat.testBit_succ, Nat.testBit_succ, show 2 * v / 2 = v by omega, show (2 * v + 1) / 2 = v by omega, show 1 / 2 = 0 by rfl, Nat.zero_testBit, Bool.xor_false]
theorem xor_11 (v : Nat) : (2 * v + 1) ^^^ 1 = 2 * v := by
  rw [← xor_1 v, Nat.xor_assoc, Nat.xor_self, Nat.xor_zero]
theorem stN_not {b : Bool} {t : List Bool} : stN (b :: t) ^^^ 1 = stN ((!b) :: t) := by
  show (bN b + 2 * stN t) ^^^ 1 = bN (!b) + 2 * stN t
  cases b
  · rw [show bN false + 2 * stN t = 2 * stN t by show 0 + _ = _; omega, xor_1]
    show _ = 1 + _
    omega
  · rw [show bN true + 2 * stN t = 2 * stN t + 1 by show 1 + _ = _; omega, xor_11]
    show _ = 0 + _
    omega
theorem stN_half {b : Bool} {t : List Bool} : stN (b :: t) / 2 ^ 1 = stN t ∧ stN (b :: t) % 2 = bN b := by
  have hb := bN_lt b
  constructor
  · show (bN b + 2 * stN t) / 2 = _
    omega
  · show (bN b + 2 * stN t) % 2 = _
    omega
theorem stN_or {b a : Bool} {t : List Bool} : stN (b :: a :: t) / 2 ^ 1 ||| stN (b :: a :: t) % 2 = stN ((a || b) :: t) := by
  rw [stN_half.1, stN_half.2]
  have ha := bN_lt a
  show (bN a + 2 * stN t) ||| bN b = bN (a || b) + 2 * stN t
  cases b
  · show _ ||| 0 = _
    rw [Nat.or_zero, Bool.or_false]
  · show _ ||| 1 = _
    rw [Nat.add_comm (bN a), or_1 _ _ ha, Bool.or_true]
    show _ = 1 + _
    omega
theorem stN_and {b a : Bool} {t : List Bool} (h : stN (b :: a :: t) < 2 ^ 31) : stN (b :: a :: t) / 2 ^ 1 &&& (stN (b :: a :: t) ||| 4294967294) = stN ((a && b) :: t) := by
  have q := stN_half (b := b) (t := a :: t)
  have q2 := stN_half (b := a) (t := t)
  have l : stN t < 2 ^ 29 := by
    have : stN (b :: a :: t) = bN b + 2 * (bN a + 2 * stN t) := rfl
    omega
  apply Nat.eq_of_testBit_eq
  intro i
  rw [Nat.testBit_and, Nat.testBit_or, q.1]
  cases i with
  | zero =>
    have hr : stN ((a && b) :: t) % 2 = bN (a && b) := stN_half.2
    rw [Nat.testBit_zero, Nat.testBit_zero, Nat.testBit_zero, Nat.testBit_zero, q.2, q2.2, hr]
    cases a <;> cases b <;> rfl
  | succ i =>
    have hr : stN ((a && b) :: t) / 2 = stN t := stN_half.1
    have h2 : stN (a :: t) / 2 = stN t := q2.1
    rw [Nat.testBit_succ, Nat.testBit_succ, Nat.testBit_succ, Nat.testBit_succ, hr, h2]
    by_cases hi : i < 31
    · have : (4294967294 / 2 : Nat) = 2 ^ 31 - 1 := by decide
      rw [this, Nat.testBit_two_pow_sub_one, decide_eq_true hi, Bool.or_true, Bool.and_true]
    · have : (stN t).testBit i = false := Nat.testBit_lt_two_pow (Nat.lt_of_lt_of_le l (Nat.pow_le_pow_right (by decide) (by omega)))
      rw [this, Bool.false_and]
/-- the class's loop over one clause's code -/
def HIv (f : Nat → Int32) (L : List Int32) (m s : Nat) : Prop := ∃ k : List Bool, s = stN k ∧ k.length ≤ 30 ∧ wfT k.length (L.drop m) ∧ (L.drop m).foldl (fun s x => tstep f x s) k = L.foldl (fun s x => tstep f x s) []
section
variable {f : Nat → Int32} {L : List Int32} {m s : Nat}
theorem HIv.start (h : wfT 0 L) : HIv f L 0 0 := ⟨[], rfl, by decide, h, rfl⟩
theorem HIv.lt (h : HIv f L m s) : s < 1073741824 := by
  obtain ⟨k, h1, h2, -, -⟩ := h
  have := stN_lt k
  rw [h1]
  exact Nat.lt_of_lt_of_le this (Nat.pow_le_pow_right (n := 2) (i := k.length) (j := 30) (by decide) h2)
theorem HIv.done (h : HIv f L m s) (hm : L.length ≤ m) : s % 2 = bN (evL f L) := by
  obtain ⟨k, h1, -, -, h4⟩ := h
  rw [List.drop_eq_nil_of_le hm] at h4
  have h4 : k = _ := h4
  rw [h1, stN_top, h4]
  rfl
theorem HIv.cls (h : HIv f L m s) (hm : m < L.length) : (cod (L.getD m 0) = -3 ∧ L.getD m 0 = -1) ∨ (cod (L.getD m 0) = -1 ∧ L.getD m 0 = -3) ∨ (cod (L.getD m 0) = -2 ∧ L.getD m 0 = -2) ∨ ∃ w q v : Nat, w < 6 ∧ q < 3 ∧ v < 100 ∧ L.getD m 0 = nI (w + 8 * q + 32 * v) ∧ cod (L.getD m 0) = nI ((w * 3 + q) * 100 + v) := by
  obtain ⟨k, h1, h2, h3, h4⟩ := h
  rw [drop_at hm] at h3
  rcases h3.1 with ⟨w, q, v, a, b, c, e, -⟩ | ⟨e, -⟩ | ⟨e | e, -⟩
  · exact Or.inr (Or.inr (Or.inr ⟨w, q, v, a, b, c, e, by rw [e]; exact cod_test a b c⟩))
  · exact Or.inl ⟨by rw [e]; exact cod_not, e⟩
  · exact Or.inr (Or.inr (Or.inl ⟨by rw [e]; exact cod_and, e⟩))
  · exact Or.inr (Or.inl ⟨by rw [e]; exact cod_or, e⟩)
theorem HIv.go {s2 : Nat} (h : HIv f L m s) (hm : m < L.length) (g : ∀ k : List Bool, s = stN k → tok (L.getD m 0) k.length → k.length ≤ 30 → s2 = stN (tstep f (L.getD m 0) k) ∧ (tstep f (L.getD m 0) k).length ≤ 30) : HIv f L (m + 1) s2 := by
  obtain ⟨k, h1, h2, h3, h4⟩ := h
  rw [drop_at hm] at h3 h4
  obtain ⟨a, b⟩ := g k h1 h3.1 h2
  refine ⟨tstep f (L.getD m 0) k, a, b, ?_, h4⟩
  rw [tstep_len h3.1]
  exact h3.2
theorem HIv.push {n : Nat} {b : Bool} (h : HIv f L m s) (hm : m < L.length) (hx : L.getD m 0 = nI n) (hn : n < 2 ^ 31) (hb : tstN f n = b) : HIv f L (m + 1) (s * 2 ^ 1 + bN b) := h.go hm (fun k hk ht hl => by
  rcases ht with ⟨w, q, v, a1, a2, a3, e, hd⟩ | ⟨e, -⟩ | ⟨e | e, -⟩
  · rw [hx, tstep_n hn, hb]
    refine ⟨?_, by show k.length + 1 ≤ 30; omega⟩
    show _ = bN b + 2 * stN k
    rw [hk]; omega
  · rw [hx] at e; exact absurd e (nat_ne_neg hn (by decide))
  · rw [hx] at e; exact absurd e (nat_ne_neg hn (by decide))
  · rw [hx] at e; exact absurd e (nat_ne_neg hn (by decide)))
theorem tok_1 {x : Int32} {d : Nat} (h : tok x d) (e : x = -1) : 1 ≤ d := by
  rcases h with ⟨w, q, v, a1, a2, a3, e2, -⟩ | ⟨-, h⟩ | ⟨e2 | e2, h⟩
  · rw [e2] at e; exact absurd e (nat_ne_neg (by omega) (by decide))
  · exact h
  · rw [e2] at e; exact absurd e (by decide)
  · rw [e2] at e; exact absurd e (by decide)
theorem tok_2 {x : Int32} {d : Nat} (h : tok x d) (e : x = -2 ∨ x = -3) : 2 ≤ d := by
  rcases h with ⟨w, q, v, a1, a2, a3, e2, -⟩ | ⟨e2, -⟩ | ⟨-, h⟩
  · exfalso; rcases e with e | e
    · rw [e2] at e; exact absurd e (nat_ne_neg (by omega) (by decide))
    · rw [e2] at e; exact absurd e (nat_ne_neg (by omega) (by decide))
  · exfalso; rcases e with e | e
    · rw [e2] at e; exact absurd e (by decide)
    · rw [e2] at e; exact absurd e (by decide)
  · exact h
theorem HIv.not (h : HIv f L m s) (hm : m < L.length) (hx : L.getD m 0 = -1) : HIv f L (m + 1) (s ^^^ 1) := h.go hm (fun k hk ht hl => by
  have l := tok_1 ht hx
  rcases k with _ | ⟨b, t⟩
  · simp at l
  · rw [hx, tstep_1, hk, stN_not]
    exact ⟨rfl, hl⟩)
theorem HIv.two (h : HIv f L m s) (hm : m < L.length) (hx : L.getD m 0 = -2 ∨ L.getD m 0 = -3) {s2 : Nat} (g : ∀ (b a : Bool) (t : List Bool), s = stN (b :: a :: t) → s2 = stN ((if L.getD m 0 = -2 then (a && b) else (a || b)) :: t)) : HIv f L (m + 1) s2 := h.go hm (fun k hk ht hl => by
  have l := tok_2 ht hx
  rcases k with _ | ⟨b, _ | ⟨a, t⟩⟩
  · simp at l
  · simp at l
  · rw [tstep_2 hx]
    have hl : t.length + 1 + 1 ≤ 30 := hl
    exact ⟨g b a t hk, by show t.length + 1 ≤ 30; omega⟩)
theorem HIv.or (h : HIv f L m s) (hm : m < L.length) (hx : L.getD m 0 = -3) : HIv f L (m + 1) (s / 2 ^ 1 ||| s % 2) := h.two hm (Or.inr hx) (fun b a t e => by
  rw [hx, e, stN_or]
  rfl)
theorem HIv.and (h : HIv f L m s) (hm : m < L.length) (hx : L.getD m 0 = -2) : HIv f L (m + 1) (s / 2 ^ 1 &&& (s ||| 4294967294)) := h.two hm (Or.inl hx) (fun b a t e => by
  have l := h.lt
  rw [e] at l
  rw [hx, e, stN_and (by omega)]
  rfl)
end
/-- a test, of the class's number for it -/
def tcN (f : Nat → Int32) (n : Nat) : Bool := if n / 100 % 3 = 0 then decide (f (n / 100 / 3) < nI (n % 100)) else (if n / 100 % 3 = 1 then decide (f (n / 100 / 3) = nI (n % 100)) else decide (nI (n % 100) < f (n / 100 / 3)))
theorem tcN_eq {f : Nat → Int32} {w q v : Nat} (hw : w < 6) (hq : q < 3) (hv : v < 100) : tcN f ((w * 3 + q) * 100 + v) = tstN f (w + 8 * q + 32 * v) := by
  unfold tcN tstN
  rw [show ((w * 3 + q) * 100 + v) / 100 % 3 = q by omega, show ((w * 3 + q) * 100 + v) / 100 / 3 = w by omega, show ((w * 3 + q) * 100 + v) % 100 = v by omega, show (w + 8 * q + 32 * v) / 8 % 4 = q by omega, show (w + 8 * q + 32 * v) % 8 = w by omega, show (w + 8 * q + 32 * v) / 32 = v by omega]
section
variable {f : Nat → Int32} {n : Nat}
theorem tc_0t (h : n / 100 % 3 = 0) (h2 : f (n / 100 / 3) < nI (n % 100)) : tcN f n = true := (if_pos h).trans (decide_eq_true h2)
theorem tc_0f (h : n / 100 % 3 = 0) (h2 : ¬ f (n / 100 / 3) < nI (n % 100)) : ¬ tcN f n = true := fun e => by rw [show tcN f n = false from (if_pos h).trans (decide_eq_false h2)] at e; exact Bool.noConfusion e
theorem tc_1t (h : n / 100 % 3 = 1) (h2 : f (n / 100 / 3) = nI (n % 100)) : tcN f n = true := (if_neg (by omega)).trans ((if_pos h).trans (decide_eq_true h2))
theorem tc_1f (h : n / 100 % 3 = 1) (h2 : ¬ f (n / 100 / 3) = nI (n % 100)) : ¬ tcN f n = true := fun e => by rw [show tcN f n = false from (if_neg (by omega)).trans ((if_pos h).trans (decide_eq_false h2))] at e; exact Bool.noConfusion e
theorem tc_2t (h : n / 100 % 3 = 2) (h2 : nI (n % 100) < f (n / 100 / 3)) : tcN f n = true := (if_neg (by omega)).trans ((if_neg (by omega)).trans (decide_eq_true h2))
theorem tc_2f (h : n / 100 % 3 = 2) (h2 : ¬ nI (n % 100) < f (n / 100 / 3)) : ¬ tcN f n = true := fun e => by rw [show tcN f n = false from (if_neg (by omega)).trans ((if_neg (by omega)).trans (decide_eq_false h2))] at e; exact Bool.noConfusion e
end
theorem bN_t {b : Bool} (h : b = true) : bN b = 1 := by rw [h]; rfl
theorem bN_f {b : Bool} (h : ¬ b = true) : bN b = 0 := by cases b with
  | true => exact absurd rfl h
  | false => rfl
theorem ev_1 {b : Bool} {s : Nat} (e : s % 2 = bN b) (h : s % 2 = 1) : b = true := by
  cases b with
  | true => rfl
  | false => rw [e] at h; exact absurd h (by decide)
theorem ev_0 {b : Bool} {s : Nat} (e : s % 2 = bN b) (h : ¬ s % 2 = 1) : ¬ b = true := fun q => by
  rw [q] at e
  exact h e
theorem or_10 (s : Nat) : nI (s * 2 ^ 1) ||| (1 : Int32) = nI (s * 2 ^ 1 + 1) := by
  rw [show (1 : Int32) = nI 1 by decide +kernel, nx_or]
  have := or_1 s 0 (by decide)
  rw [Nat.add_zero] at this
  rw [show s * 2 ^ 1 = 2 * s by omega, this]
theorem or_00 (s : Nat) : nI (s * 2 ^ 1) ||| (0 : Int32) = nI (s * 2 ^ 1 + 0) := by rw [or0]; rfl
theorem or_m2 (s : Nat) : nI s ||| (-2 : Int32) = nI (s ||| 4294967294) := by
  rw [show (-2 : Int32) = nI 4294967294 by decide +kernel, nx_or]
theorem xr_1 (s : Nat) : nI s ^^^ (1 : Int32) = nI (s ^^^ 1) := by
  rw [show (1 : Int32) = nI 1 by decide +kernel, nx_xor']
theorem ush1 {s : Nat} (h : s < 1073741824) : ((nI s).toUInt32 >>> (((1 : Int32)).toUInt32 &&& Int32.toUInt32 31)).toInt32 = nI (s / 2 ^ 1) := pk_ushrN (by omega) 1 1 (by decide +kernel)
section
variable {cl : List (Int32 × List Int32)} {c : Nat}
theorem take_s (h : c < cl.length) : cl.take (c + 1) = cl.take c ++ [cl.getD c (0, [])] := by
  rw [List.getD_eq_getElem?_getD, List.getElem?_eq_getElem h]
  exact (List.take_append_getElem h).symm
theorem split_c (h : c < cl.length) : cl = cl.take c ++ (cl.getD c (0, []) :: cl.drop (c + 1)) := by
  have e : cl.drop c = cl.getD c (0, []) :: cl.drop (c + 1) := by
    rw [List.getD_eq_getElem?_getD, List.getElem?_eq_getElem h]
    exact List.drop_eq_getElem_cons h
  rw [← e, List.take_append_drop]
theorem offs_0 : offs cl 0 = 0 := rfl
theorem offs_s (h : c < cl.length) : offs cl (c + 1) = offs cl c + (cl.getD c (0, [])).2.length := by
  unfold offs
  rw [take_s h, cdl_app, List.length_append]
  show _ + (cdl [((cl.getD c (0, [])).1, (cl.getD c (0, [])).2)]).length = _
  rw [cdl_one]
theorem cdl_c (h : c < cl.length) : cdl cl = cdl (cl.take c) ++ ((cl.getD c (0, [])).2 ++ cdl (cl.drop (c + 1))) := by
  have e : cdl cl = cdl (cl.take c ++ (cl.getD c (0, []) :: cl.drop (c + 1))) := congrArg cdl (split_c h)
  rw [e, cdl_app]
  rfl
theorem offs_le (h : c < cl.length) : offs cl c + (cl.getD c (0, [])).2.length ≤ (cdl cl).length := by
  rw [cdl_c h, List.length_append, List.length_append]
  unfold offs
  omega
theorem cdl_at {i : Nat} (h : c < cl.length) (hi : i < (cl.getD c (0, [])).2.length) : (cdl cl).getD (offs cl c + i) 0 = (cl.getD c (0, [])).2.getD i 0 := by
  rw [cdl_c h, gd_r (by unfold offs; omega), show offs cl c + i - (cdl (cl.take c)).length = i by unfold offs; omega, gd_l hi]
/-- the first c clauses' sum -/
def evP (f : Nat → Int32) (cl : List (Int32 × List Int32)) (c : Nat) : Int32 := evT f (cl.take c)
theorem evP_s {f : Nat → Int32} (h : c < cl.length) : evP f cl (c + 1) = evP f cl c + (if evL f (cl.getD c (0, [])).2 = true then valE (cl.getD c (0, [])).1 else 0) := by
  unfold evP evT
  rw [take_s h, List.foldl_append]
  rfl
theorem evP_1 {f : Nat → Int32} (h : c < cl.length) (e : evL f (cl.getD c (0, [])).2 = true) : evP f cl (c + 1) = evP f cl c + valE (cl.getD c (0, [])).1 := by rw [evP_s h, if_pos e]
theorem evP_0 {f : Nat → Int32} (h : c < cl.length) (e : ¬ evL f (cl.getD c (0, [])).2 = true) : evP f cl (c + 1) = evP f cl c := by rw [evP_s h, if_neg e, Int32.add_zero]
theorem evP_all {f : Nat → Int32} (h : cl.length ≤ c) : evP f cl c = evT f cl := by
  unfold evP
  rw [List.take_of_length_le h]
theorem WFC.at (h : WFC cl) (hc : c < cl.length) : wfT 0 (cl.getD c (0, [])).2 := by
  have e : cl.getD c (0, []) = cl[c] := by rw [List.getD_eq_getElem?_getD, List.getElem?_eq_getElem hc]; rfl
  rw [e]
  exact (h _ (List.getElem_mem hc)).1
end
theorem TC.code {nk nl nh : Int32} {fb fc fd : Nat → Int32} {t : TWN} (h : TC nk nl nh fb fc fd t) {c i : Nat} (hc : c < t.2.length) (hi : i < (t.2.getD c (0, [])).2.length) : fb (offs t.2 c + i) = cod ((t.2.getD c (0, [])).2.getD i 0) := by
  have l := offs_le hc
  rw [← cdl_at hc hi]
  exact h.2.2.1.1 _ (by omega)
theorem max0 {S : Nat} (h : S < 2 ^ 31) : (if nI S < (0 : Int32) then (0 : Int32) else nI S) = nI S := if_neg (fun q => nI_pos h q)
theorem nw6 {T an t1 t2 t3 t4 t5 : Nat} {Q0 Q1 Q2 Q3 Q4 Q5 : Prop} (hT : T ≤ 5) (h : (T = 0 → Q0) ∧ (T = 1 → Q1) ∧ (T = 2 → Q2) ∧ (T = 3 → Q3) ∧ (T = 4 → Q4) ∧ (T = 5 → Q5)) {r : Nat} (e0 : T = 0 → r = an) (e1 : T = 1 → r = t1) (e2 : T = 2 → r = t2) (e3 : T = 3 → r = t3) (e4 : T = 4 → r = t4) (e5 : T = 5 → r = t5) : (r = an ∧ Q0) ∨ (r = t1 ∧ Q1) ∨ (r = t2 ∧ Q2) ∨ (r = t3 ∧ Q3) ∨ (r = t4 ∧ Q4) ∨ (r = t5 ∧ Q5) := by
  obtain ⟨h0, h1, h2, h3, h4, h5⟩ := h
  rcases (show T = 0 ∨ T = 1 ∨ T = 2 ∨ T = 3 ∨ T = 4 ∨ T = 5 by omega) with q | q | q | q | q | q
  · exact Or.inl ⟨e0 q, h0 q⟩
  · exact Or.inr (Or.inl ⟨e1 q, h1 q⟩)
  · exact Or.inr (Or.inr (Or.inl ⟨e2 q, h2 q⟩))
  · exact Or.inr (Or.inr (Or.inr (Or.inl ⟨e3 q, h3 q⟩)))
  · exact Or.inr (Or.inr (Or.inr (Or.inr (Or.inl ⟨e4 q, h4 q⟩))))
  · exact Or.inr (Or.inr (Or.inr (Or.inr (Or.inr ⟨e5 q, h5 q⟩))))
theorem fx_six {f : Nat → Int32} {a p b c e k : Nat} (h1 : f 1 = nI p) (h5 : f 5 = nI k) : ∀ i, i < 6 → upd (upd (upd (upd f 0 (nI a)) 3 (nI c)) 2 (nI b)) 4 (nI e) i = byF a p b c e k i := fun i hi => by
  rcases (show i = 0 ∨ i = 1 ∨ i = 2 ∨ i = 3 ∨ i = 4 ∨ i = 5 by omega) with rfl | rfl | rfl | rfl | rfl | rfl
  · rw [pk_un (by decide), pk_un (by decide), pk_un (by decide), pk_us]; rfl
  · rw [pk_un (by decide), pk_un (by decide), pk_un (by decide), pk_un (by decide), h1]; rfl
  · rw [pk_un (by decide), pk_us]; rfl
  · rw [pk_un (by decide), pk_un (by decide), pk_us]; rfl
  · rw [pk_us]; rfl
  · rw [pk_un (by decide), pk_un (by decide), pk_un (by decide), pk_un (by decide), h5]; rfl
/-- worths that are being filled -/
def WKx (w a b c d : Nat → Int32) (E : Ev) (p k n : Nat) : Prop := (∀ q, q < 4 → q ≠ p → ∀ j, j < 7 → w q = nI j → WR (s4 a b c d q) E q j) ∧ ∀ i, i < n → s4 a b c d p i = E p k (i / 32) (i / 2 % 4) (i / 8 % 4) (i % 2)
section
variable {w a b c d : Nat → Int32} {E : Ev} {p k n : Nat} {x : Int32}
theorem WKx.start (K : WKr w a b c d E) : WKx w a b c d E p k 0 := ⟨fun q hq _ j hj e => K q hq j hj e, fun i hi => absurd hi (Nat.not_lt_zero i)⟩
theorem WKx.put {a2 b2 c2 d2 : Nat → Int32} (W : WKx w a b c d E p k n) (e1 : ∀ q, q < 4 → q ≠ p → s4 a2 b2 c2 d2 q = s4 a b c d q) (e2 : s4 a2 b2 c2 d2 p = upd (s4 a b c d p) n x) (e : x = E p k (n / 32) (n / 2 % 4) (n / 8 % 4) (n % 2)) : WKx w a2 b2 c2 d2 E p k (n + 1) := ⟨fun q hq hn j hj h => by rw [e1 q hq hn]; exact W.1 q hq hn j hj h, fun i hi => by
  rw [e2]
  by_cases q : i = n
  · rw [q, pk_us, e]
  · rw [pk_un q]; exact W.2 i (by omega)⟩
theorem WKx.p0 (W : WKx w a b c d E p k n) (h : p = 0) (e : x = E p k (n / 32) (n / 2 % 4) (n / 8 % 4) (n % 2)) : WKx w (upd a n x) b c d E p k (n + 1) := W.put (fun q hq hn => s4_ne (fun z => absurd z (by omega)) (fun _ => rfl) (fun _ => rfl) (fun _ _ _ => rfl)) (by rw [h]; rfl) e
theorem WKx.p1 (W : WKx w a b c d E p k n) (h : p = 1) (e : x = E p k (n / 32) (n / 2 % 4) (n / 8 % 4) (n % 2)) : WKx w a (upd b n x) c d E p k (n + 1) := W.put (fun q hq hn => s4_ne (fun _ => rfl) (fun z => absurd z (by omega)) (fun _ => rfl) (fun _ _ _ => rfl)) (by rw [h]; rfl) e
theorem WKx.p2 (W : WKx w a b c d E p k n) (h : p = 2) (e : x = E p k (n / 32) (n / 2 % 4) (n / 8 % 4) (n % 2)) : WKx w a b (upd c n x) d E p k (n + 1) := W.put (fun q hq hn => s4_ne (fun _ => rfl) (fun _ => rfl) (fun z => absurd z (by omega)) (fun _ _ _ => rfl)) (by rw [h]; rfl) e
theorem WKx.p3 (W : WKx w a b c d E p k n) (h : p = 3) (e : x = E p k (n / 32) (n / 2 % 4) (n / 8 % 4) (n % 2)) : WKx w a b c (upd d n x) E p k (n + 1) := W.put (fun q hq hn => s4_ne (fun _ => rfl) (fun _ => rfl) (fun _ => rfl) (fun z0 z1 z2 => absurd hn (by omega))) (by rw [h]; rfl) e
theorem WKx.done (W : WKx w a b c d E p k 96) (hk : k < 7) : WKr (upd w p (nI k)) a b c d E := fun q hq j hj e => by
  by_cases h : q = p
  · rw [h, pk_us] at e
    rw [h, ← (nI_eq (a := k) (b := j) (by omega) (by omega)).mp e]
    exact fun i hi => W.2 i hi
  · rw [pk_un h] at e
    exact W.1 q hq h j hj e
end
/-- replies that are being filled -/
def RQ (a b c d : Nat → Int32) (P : Nat) (F : Fk) (O : Nat → Nat) (Y : Nat) (E : Ev) (q n : Nat) : Prop := RPs a b c d P F O Y E q ∧ RP1 (s4 a b c d q) P F O Y E q n
section
variable {a b c d : Nat → Int32} {P q n v : Nat} {F : Fk} {O : Nat → Nat} {Y : Nat} {E : Ev}
theorem RPs.zero : RPs a b c d P F O Y E 0 := fun p hp => absurd hp (Nat.not_lt_zero p)
theorem RQ.start (h : RPs a b c d P F O Y E q) : RQ a b c d P F O Y E q 0 := ⟨h, fun i hi => absurd hi (Nat.not_lt_zero i)⟩
theorem RQ.up (h : RQ a b c d P F O Y E q 64) : RPs a b c d P F O Y E (q + 1) := fun p hp => by
  by_cases e : p = q
  · rw [e]; exact h.2
  · exact h.1 p (by omega)
theorem RQ.put {a2 b2 c2 d2 : Nat → Int32} (h : RQ a b c d P F O Y E q n) (e1 : ∀ p, p < q → s4 a2 b2 c2 d2 p = s4 a b c d p) (e2 : s4 a2 b2 c2 d2 q = upd (s4 a b c d q) n (nI v)) (e : v = pkR (rpN P F O Y E q n) 8) : RQ a2 b2 c2 d2 P F O Y E q (n + 1) := ⟨fun p hp => by rw [e1 p hp]; exact h.1 p hp, by rw [e2]; exact h.2.put e⟩
theorem RQ.p0 (h : RQ a b c d P F O Y E q n) (z : q = 0) (e : v = pkR (rpN P F O Y E q n) 8) : RQ (upd a n (nI v)) b c d P F O Y E q (n + 1) := h.put (fun p hp => s4_ne (fun y => absurd y (by omega)) (fun _ => rfl) (fun _ => rfl) (fun _ _ _ => rfl)) (by rw [z]; rfl) e
theorem RQ.p1 (h : RQ a b c d P F O Y E q n) (z : q = 1) (e : v = pkR (rpN P F O Y E q n) 8) : RQ a (upd b n (nI v)) c d P F O Y E q (n + 1) := h.put (fun p hp => s4_ne (fun _ => rfl) (fun y => absurd y (by omega)) (fun _ => rfl) (fun _ _ _ => rfl)) (by rw [z]; rfl) e
theorem RQ.p2 (h : RQ a b c d P F O Y E q n) (z : q = 2) (e : v = pkR (rpN P F O Y E q n) 8) : RQ a b (upd c n (nI v)) d P F O Y E q (n + 1) := h.put (fun p hp => s4_ne (fun _ => rfl) (fun _ => rfl) (fun y => absurd y (by omega)) (fun _ _ _ => rfl)) (by rw [z]; rfl) e
theorem RQ.p3 (h : RQ a b c d P F O Y E q n) (z : q = 3) (e : v = pkR (rpN P F O Y E q n) 8) : RQ a b c (upd d n (nI v)) P F O Y E q (n + 1) := h.put (fun p hp => s4_ne (fun _ => rfl) (fun _ => rfl) (fun _ => rfl) (fun y0 y1 y2 => absurd hp (by omega))) (by rw [z]; rfl) e
end
theorem rp_best {P : Nat} {F : Fk} {O : Nat → Nat} {Y : Nat} {E : Ev} {p c o : Nat} (k : F.1 p = 1) (h0 : 0 < o) (ho : o < 8) : rpN P F O Y E p c (o - 1) = rpN P F O Y E p c o := by
  unfold rpN
  rw [rwN_best k, rwN_best k, show (8 * c + (o - 1)) / 8 = c by omega, show (8 * c + o) / 8 = c by omega]
end CSK
