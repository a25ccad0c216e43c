/-! the grammar, as a function of the signs; what a town's steps make -/
section CPZ
abbrev PR : Type := Bool × Nat × List Int32
def LT6 : List Int32 := [104, 112, 109, 110, 121, 107]
def LT3 : List Int32 := [60, 61, 62]
def oneOf : List Int32 → Int32 → Nat
  | [], _ => 0
  | x :: t, c => if c = x then 0 else oneOf t c + 1
theorem oneOf_le : ∀ (l : List Int32) (c : Int32), oneOf l c ≤ l.length
  | [], _ => Nat.le_refl _
  | x :: t, c => by
    unfold oneOf
    split
    · exact Nat.zero_le _
    · exact Nat.succ_le_succ (oneOf_le t c)
theorem one6_no {c : Int32} (h0 : ¬ c = 104) (h1 : ¬ c = 112) (h2 : ¬ c = 109) (h3 : ¬ c = 110) (h4 : ¬ c = 121) (h5 : ¬ c = 107) : oneOf LT6 c = 6 := by
  unfold LT6 oneOf oneOf oneOf oneOf oneOf oneOf oneOf
  rw [if_neg h0, if_neg h1, if_neg h2, if_neg h3, if_neg h4, if_neg h5]
theorem one3_no {c : Int32} (h0 : ¬ c = 60) (h1 : ¬ c = 61) (h2 : ¬ c = 62) : oneOf LT3 c = 3 := by
  unfold LT3 oneOf oneOf oneOf oneOf
  rw [if_neg h0, if_neg h1, if_neg h2]
theorem one_is {l : List Int32} {c x : Int32} {k : Nat} (h : c = x) (e : oneOf l x = k) : oneOf l c = k := by rw [h]; exact e
/-- a figure's number; 10: none -/
def dg (c : Int32) : Nat := if (48 : Int32) ≤ c ∧ c ≤ (57 : Int32) then (c - 48).toNatClampNeg else 10
theorem dg_no {c : Int32} (h : ¬ ((48 : Int32) ≤ c ∧ c ≤ (57 : Int32))) : dg c = 10 := if_neg h
theorem dg_of {c : Int32} {d : Nat} (hd : d ≤ 9) (h : c = nI (48 + d)) : dg c = d := by
  subst h
  rcases (show d = 0 ∨ d = 1 ∨ d = 2 ∨ d = 3 ∨ d = 4 ∨ d = 5 ∨ d = 6 ∨ d = 7 ∨ d = 8 ∨ d = 9 by omega) with rfl | rfl | rfl | rfl | rfl | rfl | rfl | rfl | rfl | rfl <;> decide +kernel
theorem dg_is {c x : Int32} {k : Nat} (h : c = x) (e : dg x = k) : dg c = k := by rw [h]; exact e
theorem dg_no10 {c : Int32} (h0 : ¬ c = 48) (h1 : ¬ c = 49) (h2 : ¬ c = 50) (h3 : ¬ c = 51) (h4 : ¬ c = 52) (h5 : ¬ c = 53) (h6 : ¬ c = 54) (h7 : ¬ c = 55) (h8 : ¬ c = 56) (h9 : ¬ c = 57) : dg c = 10 := by
  refine dg_no (fun h => ?_)
  have a : (48 : Int32).toInt = 48 := by decide
  have b : (57 : Int32).toInt = 57 := by decide
  have q1 := le_i.mp h.1
  have q2 := le_i.mp h.2
  have z : (0 : Int32).toInt = 0 := by decide
  obtain ⟨j, hj, e⟩ := nI_of (x := c) (fun q => by have := lt_i.mp q; omega)
  have hji : (nI j).toInt = j := nI_toInt hj
  rw [e, hji] at q1 q2
  rcases (show j = 48 ∨ j = 49 ∨ j = 50 ∨ j = 51 ∨ j = 52 ∨ j = 53 ∨ j = 54 ∨ j = 55 ∨ j = 56 ∨ j = 57 by omega) with rfl | rfl | rfl | rfl | rfl | rfl | rfl | rfl | rfl | rfl
  · exact h0 e
  · exact h1 e
  · exact h2 e
  · exact h3 e
  · exact h4 e
  · exact h5 e
  · exact h6 e
  · exact h7 e
  · exact h8 e
  · exact h9 e
variable {Z : Nat → Int32} {i j k : Nat} {L L2 : List Int32}
/-- a number: one figure or two -/
def pNum (Z : Nat → Int32) (i : Nat) : Bool × Nat × Nat := if dg (Z i) = 10 then (false, i, 0) else (if dg (Z i) = 0 then (true, i + 1, 0) else (if dg (Z (i + 1)) = 10 then (true, i + 1, dg (Z i)) else (true, i + 2, 10 * dg (Z i) + dg (Z (i + 1)))))
theorem pNum_f (h : dg (Z i) = 10) : pNum Z i = (false, i, 0) := if_pos h
theorem pNum_0 (h : dg (Z i) = 0) : pNum Z i = (true, i + 1, 0) := (if_neg (by omega)).trans (if_pos h)
theorem pNum_1 {a : Nat} (h : dg (Z i) = a) (h1 : a ≠ 10) (h2 : dg (Z (i + 1)) = 10) : pNum Z i = (true, i + 1, a) := by
  subst h
  by_cases h0 : dg (Z i) = 0
  · rw [pNum_0 h0, h0]
  · exact (if_neg h1).trans ((if_neg h0).trans (if_pos h2))
theorem pNum_2 {a b : Nat} (h : dg (Z i) = a) (h1 : a ≠ 10) (h0 : a ≠ 0) (h2 : dg (Z (i + 1)) = b) (h3 : b ≠ 10) : pNum Z i = (true, i + 2, 10 * a + b) := by
  subst h; subst h2
  exact (if_neg h1).trans ((if_neg h0).trans (if_neg h3))
theorem pn_eq {x : Bool × Nat × Nat} {b : Bool} {i j v w : Nat} (h : x = (b, i, v)) (hi : i = j) (hv : v = w) : x = (b, j, w) := by rw [h, hi, hv]
theorem pr_eq {x : PR} {b : Bool} {i j : Nat} {L M : List Int32} (h : x = (b, i, L)) (hi : i = j) (hv : L = M) : x = (b, j, M) := by rw [h, hi, hv]
theorem pr_eq2 {x : PR} {b : Bool} {i j : Nat} {L : List Int32} (h : x = (b, i, L)) (hi : i = j) : x = (b, j, L) := by rw [h, hi]
theorem pr_inj {j k : Nat} {L M : List Int32} (h : ((true, j, L) : PR) = (true, k, M)) : j = k ∧ L = M := by cases h; exact ⟨rfl, rfl⟩
theorem pr_bad {P : Prop} {j k : Nat} {L M : List Int32} (h : ((false, j, L) : PR) = (true, k, M)) : P := by cases h
/-- a test -/
def pTest (Z : Nat → Int32) (i : Nat) : PR := if oneOf LT6 (Z i) = 6 then (false, i, []) else (if oneOf LT3 (Z (i + 1)) = 3 then (false, i + 1, []) else (if (pNum Z (i + 2)).1 = true then (true, (pNum Z (i + 2)).2.1, [nI (oneOf LT6 (Z i) + 8 * oneOf LT3 (Z (i + 1)) + 32 * (pNum Z (i + 2)).2.2)]) else (false, (pNum Z (i + 2)).2.1, [])))
theorem pTest_1 (h : oneOf LT6 (Z i) = 6) : pTest Z i = (false, i, []) := if_pos h
theorem pTest_2 {w : Nat} (h : oneOf LT6 (Z i) = w) (hw : w < 6) (h2 : oneOf LT3 (Z (i + 1)) = 3) : pTest Z i = (false, i + 1, []) := (if_neg (by omega)).trans (if_pos h2)
theorem pTest_3 {w q v : Nat} (h : oneOf LT6 (Z i) = w) (hw : w < 6) (h2 : oneOf LT3 (Z (i + 1)) = q) (hq : q < 3) (h3 : pNum Z (i + 2) = (false, j, v)) : pTest Z i = (false, j, []) := by
  refine (if_neg (by omega)).trans ((if_neg (by omega)).trans ?_)
  rw [h3]
  rfl
theorem pTest_4 {w q v : Nat} (h : oneOf LT6 (Z i) = w) (hw : w < 6) (h2 : oneOf LT3 (Z (i + 1)) = q) (hq : q < 3) (h3 : pNum Z (i + 2) = (true, j, v)) : pTest Z i = (true, j, [nI (w + 8 * q + 32 * v)]) := by
  refine (if_neg (by omega)).trans ((if_neg (by omega)).trans ?_)
  rw [h3, h, h2]
  rfl
/-- more of them behind a sign -/
def pLoop (sub : Nat → PR) (c op : Int32) (Z : Nat → Int32) : Nat → Nat → List Int32 → PR
  | 0, j, L => (true, j, L)
  | n + 1, j, L => if Z j = c then (if (sub (j + 1)).1 = true then pLoop sub c op Z n (sub (j + 1)).2.1 (L ++ (sub (j + 1)).2.2 ++ [op]) else (false, (sub (j + 1)).2.1, [])) else (true, j, L)
def pSeq (sub : Nat → PR) (c op : Int32) (Z : Nat → Int32) (i : Nat) : PR := if (sub i).1 = true then pLoop sub c op Z 101 (sub i).2.1 (sub i).2.2 else (false, (sub i).2.1, [])
section
variable {sub : Nat → PR} {c op : Int32} {n : Nat}
theorem pSeq_f (h : sub i = (false, j, L)) : pSeq sub c op Z i = (false, j, []) := by
  unfold pSeq
  rw [h]
  rfl
theorem pSeq_s (h : sub i = (true, j, L)) : pSeq sub c op Z i = pLoop sub c op Z 101 j L := by
  unfold pSeq
  rw [h]
  rfl
theorem pLoop_e (h : ¬ Z j = c) : pLoop sub c op Z n j L = (true, j, L) := by
  cases n with
  | zero => rfl
  | succ n => exact if_neg h
theorem pLoop_f (hn : 0 < n) (h : Z j = c) (h2 : sub (j + 1) = (false, k, L2)) : pLoop sub c op Z n j L = (false, k, []) := by
  obtain ⟨n, rfl⟩ : ∃ m, n = m + 1 := ⟨n - 1, by omega⟩
  refine (if_pos h).trans ?_
  rw [h2]
  rfl
theorem pLoop_s (hn : 0 < n) (h : Z j = c) (h2 : sub (j + 1) = (true, k, L2)) : pLoop sub c op Z n j L = pLoop sub c op Z (n - 1) k (L ++ L2 ++ [op]) := by
  obtain ⟨n, rfl⟩ : ∃ m, n = m + 1 := ⟨n - 1, by omega⟩
  refine (if_pos h).trans ?_
  rw [h2]
  rfl
end
def pFac (Z : Nat → Int32) : Nat → Nat → PR
  | 0 => fun i => if Z i = 40 ∨ Z i = 33 then (false, i, []) else pTest Z i
  | r + 1 => fun i =>
    if Z i = 40 then (if (pSeq (pSeq (pFac Z r) 38 (-2) Z) 124 (-3) Z (i + 1)).1 = true then (if Z (pSeq (pSeq (pFac Z r) 38 (-2) Z) 124 (-3) Z (i + 1)).2.1 = 41 then (true, (pSeq (pSeq (pFac Z r) 38 (-2) Z) 124 (-3) Z (i + 1)).2.1 + 1, (pSeq (pSeq (pFac Z r) 38 (-2) Z) 124 (-3) Z (i + 1)).2.2) else (false, (pSeq (pSeq (pFac Z r) 38 (-2) Z) 124 (-3) Z (i + 1)).2.1, [])) else (false, (pSeq (pSeq (pFac Z r) 38 (-2) Z) 124 (-3) Z (i + 1)).2.1, []))
    else (if Z i = 33 then (if (pFac Z r (i + 1)).1 = true then (true, (pFac Z r (i + 1)).2.1, (pFac Z r (i + 1)).2.2 ++ [-1]) else (false, (pFac Z r (i + 1)).2.1, [])) else pTest Z i)
def pBoth (Z : Nat → Int32) (r : Nat) : Nat → PR := pSeq (pFac Z r) 38 (-2) Z
def pAny (Z : Nat → Int32) (r : Nat) : Nat → PR := pSeq (pBoth Z r) 124 (-3) Z
theorem pFac_t {r : Nat} (h1 : ¬ Z i = 33) (h2 : ¬ Z i = 40) : pFac Z r i = pTest Z i := by
  cases r with
  | zero => exact if_neg (fun h => h.elim h2 h1)
  | succ r => exact (if_neg h2).trans (if_neg h1)
theorem pFac_d (h : Z i = 40 ∨ Z i = 33) : pFac Z 0 i = (false, i, []) := if_pos h
theorem pFac_p1 {r : Nat} (h : Z i = 40) (h2 : pAny Z r (i + 1) = (false, j, L)) : pFac Z (r + 1) i = (false, j, []) := by
  refine (if_pos h).trans ?_
  unfold pAny pBoth at h2
  rw [h2]
  rfl
theorem pFac_p2 {r : Nat} (h : Z i = 40) (h2 : pAny Z r (i + 1) = (true, j, L)) (h3 : ¬ Z j = 41) : pFac Z (r + 1) i = (false, j, []) := by
  refine (if_pos h).trans ?_
  unfold pAny pBoth at h2
  rw [h2]
  exact (if_pos rfl).trans (if_neg h3)
theorem pFac_p3 {r : Nat} (h : Z i = 40) (h2 : pAny Z r (i + 1) = (true, j, L)) (h3 : Z j = 41) : pFac Z (r + 1) i = (true, j + 1, L) := by
  refine (if_pos h).trans ?_
  unfold pAny pBoth at h2
  rw [h2]
  exact (if_pos rfl).trans (if_pos h3)
theorem ne40 (h : Z i = 33) : ¬ Z i = 40 := fun e => absurd (h.symm.trans e) (by decide)
theorem pFac_n1 {r : Nat} (h : Z i = 33) (h2 : pFac Z r (i + 1) = (false, j, L)) : pFac Z (r + 1) i = (false, j, []) := by
  refine (if_neg (ne40 h)).trans ((if_pos h).trans ?_)
  rw [h2]
  rfl
theorem pFac_n2 {r : Nat} (h : Z i = 33) (h2 : pFac Z r (i + 1) = (true, j, L)) : pFac Z (r + 1) i = (true, j, L ++ [-1]) := by
  refine (if_neg (ne40 h)).trans ((if_pos h).trans ?_)
  rw [h2]
  rfl
/-- a step that can be taken at a depth, and the depth behind it -/
def tok (x : Int32) (d : Nat) : Prop := (∃ w h v : Nat, w < 6 ∧ h < 3 ∧ v < 100 ∧ x = nI (w + 8 * h + 32 * v) ∧ d < 30) ∨ (x = -1 ∧ 1 ≤ d) ∨ ((x = -2 ∨ x = -3) ∧ 2 ≤ d)
def dst (x : Int32) (d : Nat) : Nat := if 0 ≤ x then d + 1 else if x = -1 then d else d - 1
def dfin (d : Nat) (L : List Int32) : Nat := L.foldl (fun d x => dst x d) d
def wfT : Nat → List Int32 → Prop
  | _, [] => True
  | d, x :: t => tok x d ∧ wfT (dst x d) t
theorem wfT_app : ∀ (L M : List Int32) (d : Nat), wfT d L → wfT (dfin d L) M → wfT d (L ++ M)
  | [], _, _, _, h => h
  | x :: t, M, d, h, h2 => ⟨h.1, wfT_app t M (dst x d) h.2 h2⟩
theorem dfin_app (L M : List Int32) (d : Nat) : dfin d (L ++ M) = dfin (dfin d L) M := List.foldl_append
theorem dst_n {n d : Nat} (h : n < 2 ^ 31) : dst (nI n) d = d + 1 := if_pos (nI_pos' h)
theorem dst_1 (d : Nat) : dst (-1) d = d := (if_neg (by decide)).trans (if_pos rfl)
theorem dst_2 {x : Int32} {d : Nat} (h : x = -2 ∨ x = -3) : dst x d = d - 1 := by
  rcases h with rfl | rfl
  · exact (if_neg (by decide)).trans (if_neg (by decide))
  · exact (if_neg (by decide)).trans (if_neg (by decide))
def WFO (sub : Nat → PR) (N : Nat) : Prop := ∀ i j L d, sub i = (true, j, L) → d ≤ N → wfT d L ∧ dfin d L = d + 1
theorem pNum_lt {v : Nat} {b : Bool} (h : pNum Z i = (b, j, v)) : v < 100 := by
  unfold pNum at h
  have q : ∀ c, dg c ≤ 10 := fun c => by
    by_cases e : (48 : Int32) ≤ c ∧ c ≤ (57 : Int32)
    · have a : (48 : Int32).toInt = 48 := by decide
      have b : (57 : Int32).toInt = 57 := by decide
      have q1 := le_i.mp e.1
      have q2 := le_i.mp e.2
      have z : (0 : Int32).toInt = 0 := by decide
      obtain ⟨j, hj, e2⟩ := nI_of (x := c) (fun q => by have := lt_i.mp q; omega)
      have hji : (nI j).toInt = j := nI_toInt hj
      rw [e2, hji] at q1 q2
      rw [dg_of (d := j - 48) (by omega) (by rw [e2]; congr 1; omega)]
      omega
    · rw [dg_no e]; exact Nat.le_refl _
  have q1 := q (Z i)
  have q2 := q (Z (i + 1))
  split at h
  · cases h; omega
  · split at h
    · cases h; omega
    · split at h
      · cases h; omega
      · cases h; omega
theorem pTest_wf {N : Nat} (hN : N < 30) : WFO (pTest Z) N := by
  intro i j L d h hd
  unfold pTest at h
  have h6 := oneOf_le LT6 (Z i)
  have h3 := oneOf_le LT3 (Z (i + 1))
  have e6 : LT6.length = 6 := rfl
  have e3 : LT3.length = 3 := rfl
  split at h
  · exact pr_bad h
  · split at h
    · exact pr_bad h
    · split at h
      · have hv := pNum_lt (Z := Z) (i := i + 2) (b := (pNum Z (i + 2)).1) (j := (pNum Z (i + 2)).2.1) (v := (pNum Z (i + 2)).2.2) rfl
        obtain ⟨rfl, rfl⟩ := pr_inj h
        refine ⟨⟨Or.inl ⟨oneOf LT6 (Z i), oneOf LT3 (Z (i + 1)), (pNum Z (i + 2)).2.2, by omega, by omega, hv, rfl, by omega⟩, trivial⟩, ?_⟩
        exact dst_n (by omega)
      · exact pr_bad h
theorem pSeq_wf {sub : Nat → PR} {c op : Int32} {N : Nat} (hs : WFO sub (N + 1)) (ho : op = -2 ∨ op = -3) : WFO (pSeq sub c op Z) N := by
  have loop : ∀ (n : Nat) (j k : Nat) (L M : List Int32) (d : Nat), pLoop sub c op Z n j L = (true, k, M) → d ≤ N → wfT d L → dfin d L = d + 1 → wfT d M ∧ dfin d M = d + 1 := by
    intro n
    induction n with
    | zero =>
      intro j k L M d h hd h1 h2
      obtain ⟨rfl, rfl⟩ := pr_inj h
      exact ⟨h1, h2⟩
    | succ n ih =>
      intro j k L M d h hd h1 h2
      by_cases e : Z j = c
      · rcases hsub : sub (j + 1) with ⟨b, q, L2⟩
        cases b with
        | false => rw [pLoop_f (Nat.succ_pos n) e hsub] at h; exact pr_bad h
        | true =>
          rw [pLoop_s (Nat.succ_pos n) e hsub] at h
          obtain ⟨w1, w2⟩ := hs (j + 1) q L2 (d + 1) hsub (by omega)
          refine ih q k _ M d h hd ?_ ?_
          · refine wfT_app _ _ d (wfT_app _ _ d h1 (by rw [h2]; exact w1)) ?_
            rw [dfin_app, h2, w2]
            exact ⟨Or.inr (Or.inr ⟨ho, by omega⟩), trivial⟩
          · rw [dfin_app, dfin_app, h2, w2]
            show dst op (d + 1 + 1) = d + 1
            rw [dst_2 ho]
            omega
      · rw [pLoop_e e] at h
        obtain ⟨rfl, rfl⟩ := pr_inj h
        exact ⟨h1, h2⟩
  intro i j L d h hd
  rcases hsub : sub i with ⟨b, q, L2⟩
  cases b with
  | false => rw [pSeq_f hsub] at h; exact pr_bad h
  | true =>
    rw [pSeq_s hsub] at h
    obtain ⟨w1, w2⟩ := hs i q L2 d hsub (by omega)
    exact loop 101 q j L2 L d h hd w1 w2
theorem pFac_wf : ∀ r : Nat, r ≤ 5 → WFO (pFac Z r) (12 - 2 * r)
  | 0, _ => by
    intro i j L d h hd
    by_cases e : Z i = 40 ∨ Z i = 33
    · rw [pFac_d e] at h; exact pr_bad h
    · rw [pFac_t (fun q => e (Or.inr q)) (fun q => e (Or.inl q))] at h
      exact pTest_wf (N := 12) (by omega) i j L d h hd
  | r + 1, hr => by
    have ih := pFac_wf r (by omega)
    have hany : WFO (pAny Z r) (12 - 2 * r - 2) := by
      refine pSeq_wf (N := 12 - 2 * r - 2) (op := -3) ?_ (Or.inr rfl)
      refine pSeq_wf (N := 12 - 2 * r - 2 + 1) (op := -2) ?_ (Or.inl rfl)
      rw [show 12 - 2 * r - 2 + 1 + 1 = 12 - 2 * r by omega]
      exact ih
    intro i j L d h hd
    by_cases e : Z i = 40
    · rcases hsub : pAny Z r (i + 1) with ⟨b, q, L2⟩
      cases b with
      | false => rw [pFac_p1 e hsub] at h; exact pr_bad h
      | true =>
        by_cases e2 : Z q = 41
        · rw [pFac_p3 e hsub e2] at h
          obtain ⟨rfl, rfl⟩ := pr_inj h
          exact hany (i + 1) q L2 d hsub (by omega)
        · rw [pFac_p2 e hsub e2] at h; exact pr_bad h
    · by_cases e2 : Z i = 33
      · rcases hsub : pFac Z r (i + 1) with ⟨b, q, L2⟩
        cases b with
        | false => rw [pFac_n1 e2 hsub] at h; exact pr_bad h
        | true =>
          rw [pFac_n2 e2 hsub] at h
          obtain ⟨rfl, rfl⟩ := pr_inj h
          obtain ⟨w1, w2⟩ := ih (i + 1) q L2 d hsub (by omega)
          refine ⟨wfT_app _ _ d w1 (by rw [w2]; exact ⟨Or.inr (Or.inl ⟨rfl, by omega⟩), trivial⟩), ?_⟩
          rw [dfin_app, w2]
          exact dst_1 _
      · rw [pFac_t e2 e] at h
        exact pTest_wf (N := 12) (by omega) i j L d h (by omega)
theorem pAny_wf {r : Nat} (hr : r ≤ 5) : WFO (pAny Z r) (10 - 2 * r) := by
  refine pSeq_wf (N := 10 - 2 * r) (op := -3) ?_ (Or.inr rfl)
  refine pSeq_wf (N := 10 - 2 * r + 1) (op := -2) ?_ (Or.inl rfl)
  rw [show 10 - 2 * r + 1 + 1 = 12 - 2 * r by omega]
  exact pFac_wf r hr
/-- words -/
def pWord (Z : Nat → Int32) : List Int32 → Nat → Bool × Nat
  | [], i => (true, i)
  | c :: t, i => if Z i = c then pWord Z t (i + 1) else (false, i)
theorem pWord_f {c : Int32} {t : List Int32} (h : ¬ Z i = c) : pWord Z (c :: t) i = (false, i) := if_neg h
theorem pWord_s {c : Int32} {t : List Int32} (h : Z i = c) : pWord Z (c :: t) i = pWord Z t (i + 1) := if_pos h
def WNOTE : List Int32 := [110, 111, 116, 101, 32]
def WHARM : List Int32 := [104, 97, 114, 109, 32]
def WGOOD : List Int32 := [103, 111, 111, 100, 32]
/-- a clause: whether it goes, how far, the note that it gives (100: none), its end (0 for a note), its steps -/
abbrev CR : Type := Bool × Nat × Nat × Int32 × List Int32
def pMuch (Z : Nat → Int32) (ws : List Int32) (k : Int32) (i : Nat) : CR :=
  if (pWord Z ws i).1 = true then (if (pNum Z (pWord Z ws i).2).1 = true then (if Z (pNum Z (pWord Z ws i).2).2.1 = 32 then (if (pAny Z 5 ((pNum Z (pWord Z ws i).2).2.1 + 1)).1 = true then (true, (pAny Z 5 ((pNum Z (pWord Z ws i).2).2.1 + 1)).2.1, 100, k - nI (pNum Z (pWord Z ws i).2).2.2, (pAny Z 5 ((pNum Z (pWord Z ws i).2).2.1 + 1)).2.2) else (false, (pAny Z 5 ((pNum Z (pWord Z ws i).2).2.1 + 1)).2.1, 0, 0, [])) else (false, (pNum Z (pWord Z ws i).2).2.1, 0, 0, [])) else (false, (pNum Z (pWord Z ws i).2).2.1, 0, 0, [])) else (false, (pWord Z ws i).2, 0, 0, [])
def pNote (Z : Nat → Int32) (i : Nat) : CR :=
  if (pWord Z WNOTE i).1 = true then (if (pNum Z (pWord Z WNOTE i).2).1 = true then (true, (pNum Z (pWord Z WNOTE i).2).2.1, (pNum Z (pWord Z WNOTE i).2).2.2, 0, []) else (false, (pNum Z (pWord Z WNOTE i).2).2.1, 0, 0, [])) else (false, (pWord Z WNOTE i).2, 0, 0, [])
def pClause (Z : Nat → Int32) (i : Nat) : CR := if Z i = 110 then pNote Z i else (if Z i = 104 then pMuch Z WHARM (-200) i else pMuch Z WGOOD (-10) i)
section
variable {ws : List Int32} {k0 : Int32} {q n v : Nat}
theorem pMuch_1 (h : pWord Z ws i = (false, j)) : pMuch Z ws k0 i = (false, j, 0, 0, []) := by
  unfold pMuch; rw [h]; rfl
theorem pMuch_2 (h : pWord Z ws i = (true, q)) (h2 : pNum Z q = (false, j, v)) : pMuch Z ws k0 i = (false, j, 0, 0, []) := by
  unfold pMuch; rw [h]; show (if (pNum Z q).1 = true then _ else _) = _; rw [h2]; rfl
theorem pMuch_3 (h : pWord Z ws i = (true, q)) (h2 : pNum Z q = (true, j, v)) (h3 : ¬ Z j = 32) : pMuch Z ws k0 i = (false, j, 0, 0, []) := by
  unfold pMuch; rw [h]; show (if (pNum Z q).1 = true then _ else _) = _; rw [h2]; exact (if_pos rfl).trans (if_neg h3)
theorem pMuch_4 (h : pWord Z ws i = (true, q)) (h2 : pNum Z q = (true, n, v)) (h3 : Z n = 32) (h4 : pAny Z 5 (n + 1) = (false, j, L)) : pMuch Z ws k0 i = (false, j, 0, 0, []) := by
  unfold pMuch; rw [h]; show (if (pNum Z q).1 = true then _ else _) = _; rw [h2]; refine (if_pos rfl).trans ((if_pos h3).trans ?_); rw [h4]; rfl
theorem pMuch_5 (h : pWord Z ws i = (true, q)) (h2 : pNum Z q = (true, n, v)) (h3 : Z n = 32) (h4 : pAny Z 5 (n + 1) = (true, j, L)) : pMuch Z ws k0 i = (true, j, 100, k0 - nI v, L) := by
  unfold pMuch; rw [h]; show (if (pNum Z q).1 = true then _ else _) = _; rw [h2]; refine (if_pos rfl).trans ((if_pos h3).trans ?_); rw [h4]; rfl
theorem pNote_1 (h : pWord Z WNOTE i = (false, j)) : pNote Z i = (false, j, 0, 0, []) := by
  unfold pNote; rw [h]; rfl
theorem pNote_2 (h : pWord Z WNOTE i = (true, q)) (h2 : pNum Z q = (false, j, v)) : pNote Z i = (false, j, 0, 0, []) := by
  unfold pNote; rw [h]; show (if (pNum Z q).1 = true then _ else _) = _; rw [h2]; rfl
theorem pNote_3 (h : pWord Z WNOTE i = (true, q)) (h2 : pNum Z q = (true, j, v)) : pNote Z i = (true, j, v, 0, []) := by
  unfold pNote; rw [h]; show (if (pNum Z q).1 = true then _ else _) = _; rw [h2]; rfl
theorem pClause_n (h : Z i = 110) : pClause Z i = pNote Z i := if_pos h
theorem pClause_h (h : Z i = 104) : pClause Z i = pMuch Z WHARM (-200) i := (if_neg (fun e => absurd (h.symm.trans e) (by decide))).trans (if_pos h)
theorem pClause_g (h : ¬ Z i = 110) (h2 : ¬ Z i = 104) : pClause Z i = pMuch Z WGOOD (-10) i := (if_neg h).trans (if_neg h2)
theorem pClause_x (h : ¬ Z i = 110) (h2 : ¬ Z i = 104) (h3 : ¬ Z i = 103) : pClause Z i = (false, i, 0, 0, []) := (pClause_g h h2).trans (pMuch_1 (pWord_f h3))
end
/-- a town: its note hours, and its clauses: the end of each, and its steps -/
abbrev TWN : Type := Nat × List (Int32 × List Int32)
def addC (t : TWN) (n : Nat) (e : Int32) (L : List Int32) : TWN := if n = 100 then (t.1, t.2 ++ [(e, L)]) else (n, t.2)
/-- n more clauses from i on -/
def pTown (Z : Nat → Int32) (en : Nat) : Nat → Nat → TWN → Bool × Nat × TWN
  | 0, i, t => (false, i, t)
  | n + 1, i, t =>
    if (pClause Z i).1 = true then (if (pClause Z i).2.1 = en then (true, (pClause Z i).2.1, addC t (pClause Z i).2.2.1 (pClause Z i).2.2.2.1 (pClause Z i).2.2.2.2) else (if n = 0 then (false, (pClause Z i).2.1, addC t (pClause Z i).2.2.1 (pClause Z i).2.2.2.1 (pClause Z i).2.2.2.2) else (if Z (pClause Z i).2.1 = 59 then pTown Z en n ((pClause Z i).2.1 + 1) (addC t (pClause Z i).2.2.1 (pClause Z i).2.2.2.1 (pClause Z i).2.2.2.2) else (false, (pClause Z i).2.1, addC t (pClause Z i).2.2.1 (pClause Z i).2.2.2.1 (pClause Z i).2.2.2.2))))
    else (false, (pClause Z i).2.1, t)
/-- behind a clause, n more may come -/
def pTail (Z : Nat → Int32) (en n j : Nat) (t : TWN) : Bool × Nat × TWN := if j = en then (true, j, t) else (if n = 0 then (false, j, t) else (if Z j = 59 then pTown Z en n (j + 1) t else (false, j, t)))
section
variable {en n nn : Nat} {t : TWN} {e : Int32}
theorem pTown_f (h : pClause Z i = (false, j, nn, e, L)) : pTown Z en (n + 1) i t = (false, j, t) := by
  unfold pTown; rw [h]; rfl
theorem pTown_s (h : pClause Z i = (true, j, nn, e, L)) : pTown Z en (n + 1) i t = pTail Z en n j (addC t nn e L) := by
  unfold pTown; rw [h]; rfl
theorem pTown_ff (hn : 0 < n) (h : pClause Z i = (false, j, nn, e, L)) : pTown Z en n i t = (false, j, t) := by
  obtain ⟨n, rfl⟩ : ∃ m, n = m + 1 := ⟨n - 1, by omega⟩
  exact pTown_f h
theorem pTown_ss (hn : 0 < n) (h : pClause Z i = (true, j, nn, e, L)) : pTown Z en n i t = pTail Z en (n - 1) j (addC t nn e L) := by
  obtain ⟨n, rfl⟩ : ∃ m, n = m + 1 := ⟨n - 1, by omega⟩
  exact pTown_s h
theorem pTail_e (h : j = en) : pTail Z en n j t = (true, j, t) := if_pos h
theorem pTail_0 (h : ¬ j = en) (h2 : n = 0) : pTail Z en n j t = (false, j, t) := (if_neg h).trans (if_pos h2)
theorem pTail_n (h : ¬ j = en) (h2 : ¬ Z j = 59) : pTail Z en n j t = (false, j, t) := by
  by_cases h3 : n = 0
  · exact pTail_0 h h3
  · exact (if_neg h).trans ((if_neg h3).trans (if_neg h2))
theorem pTail_s (h : ¬ j = en) (h2 : 0 < n) (h3 : Z j = 59) : pTail Z en n j t = pTown Z en n (j + 1) t := (if_neg h).trans ((if_neg (by omega)).trans (if_pos h3))
end
theorem gd_l {α : Type} {L M : List α} {i : Nat} {d : α} (h : i < L.length) : (L ++ M).getD i d = L.getD i d := by
  rw [List.getD_eq_getElem?_getD, List.getD_eq_getElem?_getD, List.getElem?_append_left h]
theorem gd_r {α : Type} {L M : List α} {i : Nat} {d : α} (h : L.length ≤ i) : (L ++ M).getD i d = M.getD (i - L.length) d := by
  rw [List.getD_eq_getElem?_getD, List.getD_eq_getElem?_getD, List.getElem?_append_right h]
/-- an array grows by a list at a place -/
def AP (g f : Nat → Int32) (b n : Nat) (L : List Int32) : Prop := (∀ i, i < n → g (b + i) = f (b + i)) ∧ ∀ i, i < L.length → g (b + n + i) = L.getD i 0
theorem AP.nil {f : Nat → Int32} {b n : Nat} : AP f f b n [] := ⟨fun _ _ => rfl, fun i h => absurd h (Nat.not_lt_zero i)⟩
theorem AP.trans {h g f : Nat → Int32} {b n : Nat} {L M : List Int32} (a : AP h g b (n + L.length) M) (c : AP g f b n L) : AP h f b n (L ++ M) := by
  refine ⟨fun i hi => (a.1 i (by omega)).trans (c.1 i hi), fun i hi => ?_⟩
  rw [List.length_append] at hi
  by_cases e : i < L.length
  · have h1 := a.1 (n + i) (by omega)
    rw [← Nat.add_assoc] at h1
    rw [h1, c.2 i e, gd_l e]
  · have h1 := a.2 (i - L.length) (by omega)
    rw [show b + (n + L.length) + (i - L.length) = b + n + i by omega] at h1
    rw [h1, gd_r (by omega)]
theorem AP.one {f : Nat → Int32} {b n : Nat} {x : Int32} : AP (upd f (b + n) x) f b n [x] := ⟨fun i hi => pk_un (by omega), fun i hi => by
  have hi : i < 1 := hi
  rw [show i = 0 by omega]
  exact pk_us⟩
theorem AP.cong {h g f : Nat → Int32} {b n : Nat} {L : List Int32} (a : AP g f b n L) (e : ∀ i, i < n + L.length → h (b + i) = g (b + i)) : AP h f b n L :=
  ⟨fun i hi => (e i (by omega)).trans (a.1 i hi), fun i hi => by
    have h1 := e (n + i) (by omega)
    rw [← Nat.add_assoc] at h1
    exact h1.trans (a.2 i hi)⟩
end CPZ
