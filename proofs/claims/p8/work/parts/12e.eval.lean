/-! what a town's clauses make, of the facts -/
section CEV
abbrev Ev : Type := Nat → Nat → Nat → Nat → Nat → Nat → Int32
def bI (b : Bool) : Int32 := if b = true then 1 else 0
def bN (b : Bool) : Nat := if b = true then 1 else 0
theorem bN_lt (b : Bool) : bN b < 2 := by cases b <;> decide
/-- a test, of its number -/
def tstN (f : Nat → Int32) (n : Nat) : Bool := if n / 8 % 4 = 0 then decide (f (n % 8) < nI (n / 32)) else (if n / 8 % 4 = 1 then decide (f (n % 8) = nI (n / 32)) else decide (nI (n / 32) < f (n % 8)))
section
variable {f : Nat → Int32} {n : Nat}
theorem tst_0t (h : n / 8 % 4 = 0) (h2 : f (n % 8) < nI (n / 32)) : tstN f n = true := (if_pos h).trans (decide_eq_true h2)
theorem tst_0f (h : n / 8 % 4 = 0) (h2 : ¬ f (n % 8) < nI (n / 32)) : tstN f n = false := (if_pos h).trans (decide_eq_false h2)
theorem tst_1t (h : n / 8 % 4 = 1) (h2 : f (n % 8) = nI (n / 32)) : tstN f n = true := (if_neg (by omega)).trans ((if_pos h).trans (decide_eq_true h2))
theorem tst_1f (h : n / 8 % 4 = 1) (h2 : ¬ f (n % 8) = nI (n / 32)) : tstN f n = false := (if_neg (by omega)).trans ((if_pos h).trans (decide_eq_false h2))
theorem tst_2t (h : ¬ n / 8 % 4 = 0) (h0 : ¬ n / 8 % 4 = 1) (h2 : nI (n / 32) < f (n % 8)) : tstN f n = true := (if_neg h).trans ((if_neg h0).trans (decide_eq_true h2))
theorem tst_2f (h : ¬ n / 8 % 4 = 0) (h0 : ¬ n / 8 % 4 = 1) (h2 : ¬ nI (n / 32) < f (n % 8)) : tstN f n = false := (if_neg h).trans ((if_neg h0).trans (decide_eq_false h2))
end
def notS : List Bool → List Bool
  | [] => []
  | b :: t => (!b) :: t
def twoS (x : Int32) : List Bool → List Bool
  | b :: a :: t => (if x = -2 then (a && b) else (a || b)) :: t
  | s => s
def tstep (f : Nat → Int32) (x : Int32) (s : List Bool) : List Bool := if 0 ≤ x then tstN f x.toNatClampNeg :: s else (if x = -1 then notS s else twoS x s)
theorem tstep_n {f : Nat → Int32} {n : Nat} {s : List Bool} (h : n < 2 ^ 31) : tstep f (nI n) s = tstN f n :: s := by
  unfold tstep
  rw [if_pos (nI_pos' h), nI_clamp h]
theorem tstep_neg {f : Nat → Int32} {x : Int32} {s : List Bool} (h : ¬ 0 ≤ x) : tstep f x s = (if x = -1 then notS s else twoS x s) := if_neg h
theorem tstep_1 {f : Nat → Int32} {b : Bool} {s : List Bool} : tstep f (-1) (b :: s) = (!b) :: s := (if_neg (by decide)).trans (if_pos rfl)
theorem tstep_2 {f : Nat → Int32} {x : Int32} {b a : Bool} {s : List Bool} (h : x = -2 ∨ x = -3) : tstep f x (b :: a :: s) = (if x = -2 then (a && b) else (a || b)) :: s := by
  rcases h with rfl | rfl
  · exact (if_neg (by decide)).trans (if_neg (by decide))
  · exact (if_neg (by decide)).trans (if_neg (by decide))
theorem tstep_len {f : Nat → Int32} {x : Int32} {s : List Bool} (h : tok x s.length) : (tstep f x s).length = dst x s.length := by
  rcases h with ⟨w, q, v, h1, h2, h3, rfl, -⟩ | ⟨rfl, h1⟩ | ⟨h1, h2⟩
  · rw [tstep_n (by omega), dst_n (by omega)]; rfl
  · rcases s with _ | ⟨b, s⟩
    · simp at h1
    · rw [tstep_1, dst_1]; rfl
  · rcases s with _ | ⟨b, _ | ⟨a, s⟩⟩
    · simp at h2
    · simp at h2
    · rw [tstep_2 h1, dst_2 h1]; rfl
def evL (f : Nat → Int32) (L : List Int32) : Bool := (L.foldl (fun s x => tstep f x s) []).headD false
def valE (e : Int32) : Int32 := if (-200 : Int32) < e then (-10) - e else e - (-200)
def evT (f : Nat → Int32) (cl : List (Int32 × List Int32)) : Int32 := cl.foldl (fun s c => s + (if evL f c.2 = true then valE c.1 else 0)) 0
/-- the clauses are in order -/
def WFC (cl : List (Int32 × List Int32)) : Prop := ∀ c ∈ cl, wfT 0 c.2 ∧ dfin 0 c.2 = 1 ∧ ∃ k : Nat, k < 100 ∧ (c.1 = (-10) - nI k ∨ c.1 = (-200) - nI k)
theorem end_le {c : Int32} {k : Nat} (hk : k < 100) (h : c = (-10) - nI k ∨ c = (-200) - nI k) : c ≤ -10 := by
  have e : (nI k).toInt = k := nI_toInt (by omega)
  have a : ((-10 : Int32) - nI k).toInt = -10 - k := by
    rw [Int32.toInt_sub, e]
    have : (-10 : Int32).toInt = -10 := by decide
    rw [this]
    rw [Int.bmod_eq_of_le] <;> omega
  have b : ((-200 : Int32) - nI k).toInt = -200 - k := by
    rw [Int32.toInt_sub, e]
    have : (-200 : Int32).toInt = -200 := by decide
    rw [this]
    rw [Int.bmod_eq_of_le] <;> omega
  have z : (-10 : Int32).toInt = -10 := by decide
  rcases h with rfl | rfl
  · exact le_i.mpr (by omega)
  · exact le_i.mpr (by omega)
theorem tok_gt {x : Int32} {d : Nat} (h : tok x d) : ¬ x ≤ -10 := by
  rcases h with ⟨w, q, v, h1, h2, h3, rfl, -⟩ | ⟨rfl, -⟩ | ⟨rfl | rfl, -⟩
  · exact nat_nle_neg (by omega) (by decide)
  · decide
  · decide
  · decide
/-- a step of the flat row: sum and truths -/
def estep (f : Nat → Int32) (st : Int32 × List Bool) (x : Int32) : Int32 × List Bool := if x ≤ -10 then (st.1 + (if st.2.headD false = true then valE x else 0), []) else (st.1, tstep f x st.2)
def fl (cl : List (Int32 × List Int32)) : List Int32 := cl.flatMap (fun c => c.2 ++ [c.1])
/-- the flat row is in order, from a depth on -/
def wfF : Nat → List Int32 → Prop
  | d, [] => d = 0
  | d, x :: t => (x ≤ -10 ∧ d = 1 ∧ wfF 0 t) ∨ (tok x d ∧ wfF (dst x d) t)
theorem wfF_app : ∀ (L R : List Int32) (d : Nat), wfT d L → wfF (dfin d L) R → wfF d (L ++ R)
  | [], _, _, _, h => h
  | x :: t, R, d, h, h2 => Or.inr ⟨h.1, wfF_app t R (dst x d) h.2 h2⟩
theorem fl_wf : ∀ cl : List (Int32 × List Int32), WFC cl → wfF 0 (fl cl)
  | [], _ => rfl
  | c :: t, h => by
    have h1 := h c List.mem_cons_self
    have h2 := fl_wf t (fun q hq => h q (List.mem_cons_of_mem _ hq))
    obtain ⟨k, hk, hc⟩ := h1.2.2
    show wfF 0 ((c.2 ++ [c.1]) ++ fl t)
    rw [List.append_assoc]
    refine wfF_app _ _ 0 h1.1 ?_
    rw [h1.2.1]
    exact Or.inl ⟨end_le hk hc, rfl, h2⟩
theorem run_tok {f : Nat → Int32} : ∀ (L : List Int32) (s : Int32) (k : List Bool), wfT k.length L → L.foldl (estep f) (s, k) = (s, L.foldl (fun s x => tstep f x s) k)
  | [], _, _, _ => rfl
  | x :: t, s, k, h => by
    show t.foldl (estep f) (estep f (s, k) x) = (s, t.foldl _ (tstep f x k))
    have e : estep f (s, k) x = (s, tstep f x k) := if_neg (tok_gt h.1)
    rw [e]
    exact run_tok t s (tstep f x k) (by rw [tstep_len h.1]; exact h.2)
theorem run_fl {f : Nat → Int32} : ∀ (cl : List (Int32 × List Int32)) (s : Int32), WFC cl → (fl cl).foldl (estep f) (s, []) = (cl.foldl (fun s c => s + (if evL f c.2 = true then valE c.1 else 0)) s, [])
  | [], _, _ => rfl
  | c :: t, s, h => by
    have h1 := h c List.mem_cons_self
    obtain ⟨k, hk, hc⟩ := h1.2.2
    show ((c.2 ++ [c.1]) ++ fl t).foldl (estep f) (s, []) = _
    rw [List.foldl_append, List.foldl_append, run_tok c.2 s [] h1.1]
    have e : [c.1].foldl (estep f) (s, c.2.foldl (fun s x => tstep f x s) []) = (s + (if evL f c.2 = true then valE c.1 else 0), []) := if_pos (end_le hk hc)
    rw [e]
    exact run_fl t _ (fun q hq => h q (List.mem_cons_of_mem _ hq))
theorem evT_run {f : Nat → Int32} {cl : List (Int32 × List Int32)} (h : WFC cl) : (fl cl).foldl (estep f) (0, []) = (evT f cl, []) := run_fl cl 0 h
/-- the reference's loop: sum x, depth d, truths tr behind j steps of the flat row -/
def WI (f : Nat → Int32) (cl : List (Int32 × List Int32)) (j : Nat) (x : Int32) (d : Nat) (tr : Nat → Int32) : Prop :=
  ∃ k : List Bool, d = k.length ∧ d ≤ 30 ∧ (∀ i, i < d → tr i = bI (k.getD (d - 1 - i) false)) ∧ wfF d ((fl cl).drop j) ∧ ((fl cl).drop j).foldl (estep f) (x, k) = (evT f cl, [])
theorem WI.start {f : Nat → Int32} {cl : List (Int32 × List Int32)} {tr : Nat → Int32} (h : WFC cl) : WI f cl 0 0 0 tr := ⟨[], rfl, by omega, fun i hi => absurd hi (Nat.not_lt_zero i), fl_wf cl h, evT_run h⟩
theorem WI.done {f : Nat → Int32} {cl : List (Int32 × List Int32)} {j d : Nat} {x : Int32} {tr : Nat → Int32} (h : WI f cl j x d tr) (hj : (fl cl).length ≤ j) : x = evT f cl := by
  obtain ⟨k, h1, -, h3, h4, h5⟩ := h
  rw [List.drop_eq_nil_of_le hj] at h5
  exact congrArg Prod.fst h5
theorem drop_at {L : List Int32} {j : Nat} (h : j < L.length) : L.drop j = L.getD j 0 :: L.drop (j + 1) := by
  rw [List.getD_eq_getElem?_getD, List.getElem?_eq_getElem h]
  exact List.drop_eq_getElem_cons h
section
variable {f : Nat → Int32} {cl : List (Int32 × List Int32)} {j d : Nat} {x : Int32} {tr : Nat → Int32}
/-- what can be at a step -/
theorem WI.ok (h : WI f cl j x d tr) (hj : j < (fl cl).length) : ((fl cl).getD j 0 ≤ -10 ∧ d = 1) ∨ tok ((fl cl).getD j 0) d := by
  obtain ⟨k, h1, h2, h3, h4, h5⟩ := h
  rw [drop_at hj] at h4
  rcases h4 with ⟨a, b, -⟩ | ⟨a, -⟩
  · exact Or.inl ⟨a, b⟩
  · exact Or.inr a
theorem WI.next (h : WI f cl j x d tr) (hj : j < (fl cl).length) (ht : tok ((fl cl).getD j 0) d) {d2 : Nat} {tr2 : Nat → Int32} (hd : d2 = dst ((fl cl).getD j 0) d) (hd30 : d2 ≤ 30)
    (htr : ∀ k : List Bool, d = k.length → (∀ i, i < d → tr i = bI (k.getD (d - 1 - i) false)) → ∀ i, i < d2 → tr2 i = bI ((tstep f ((fl cl).getD j 0) k).getD (d2 - 1 - i) false)) : WI f cl (j + 1) x d2 tr2 := by
  obtain ⟨k, h1, h2, h3, h4, h5⟩ := h
  rw [drop_at hj] at h4 h5
  refine ⟨tstep f ((fl cl).getD j 0) k, ?_, hd30, htr k h1 h3, ?_, ?_⟩
  · rw [tstep_len (by rw [← h1]; exact ht), ← h1]; exact hd
  · rcases h4 with ⟨a, -, -⟩ | ⟨-, a⟩
    · exact absurd a (tok_gt ht)
    · rw [hd]; exact a
  · have e : estep f (x, k) ((fl cl).getD j 0) = (x, tstep f ((fl cl).getD j 0) k) := if_neg (tok_gt ht)
    rw [← e]
    exact h5
theorem WI.push (h : WI f cl j x d tr) (hj : j < (fl cl).length) {n : Nat} (hx : (fl cl).getD j 0 = nI n) (hn : n < 2 ^ 31) (hd : d < 30) {b : Bool} (hb : tstN f n = b) : WI f cl (j + 1) x (d + 1) (upd tr d (bI b)) := by
  have ht : tok ((fl cl).getD j 0) d := by
    rcases h.ok hj with ⟨a, -⟩ | a
    · rw [hx] at a; exact absurd a (nat_nle_neg hn (by decide))
    · exact a
  refine h.next hj ht (by rw [hx, dst_n hn]) (by omega) (fun k h1 h3 i hi => ?_)
  rw [hx, tstep_n hn, hb]
  by_cases e : i = d
  · subst e; rw [pk_us, show i + 1 - 1 - i = 0 by omega]; rfl
  · rw [pk_un e, h3 i (by omega), show d + 1 - 1 - i = (d - 1 - i) + 1 by omega]; rfl
theorem WI.not (h : WI f cl j x d tr) (hj : j < (fl cl).length) (hx : (fl cl).getD j 0 = -1) {b : Bool} (hb : tr (d - 1) = bI b) : WI f cl (j + 1) x d (upd tr (d - 1) (bI (!b))) := by
  have ht : tok ((fl cl).getD j 0) d := by
    rcases h.ok hj with ⟨a, -⟩ | a
    · rw [hx] at a; exact absurd a (by decide)
    · exact a
  have hd1 : 1 ≤ d ∧ d ≤ 30 := by
    obtain ⟨k, h1, h2, h3, -⟩ := h
    rw [hx] at ht
    rcases ht with ⟨w, q, v, h1, h2, h3, h4, -⟩ | ⟨-, h1⟩ | ⟨h1 | h1, -⟩
    · exact absurd h4.symm (nat_ne_neg (by omega) (by decide))
    · omega
    · exact absurd h1 (by decide)
    · exact absurd h1 (by decide)
  refine h.next hj ht (by rw [hx, dst_1]) hd1.2 (fun k h1 h3 i hi => ?_)
  rcases k with _ | ⟨c, k⟩
  · simp at h1; omega
  · have hc : bI c = bI b := by
      have := h3 (d - 1) (by omega)
      rw [show d - 1 - (d - 1) = 0 by omega] at this
      exact this.symm.trans hb
    have hcb : c = b := by cases c <;> cases b <;> first | rfl | exact absurd hc (by decide)
    rw [hx, tstep_1]
    by_cases e : i = d - 1
    · subst e; rw [pk_us, show d - 1 - (d - 1) = 0 by omega, hcb]; rfl
    · rw [pk_un e, h3 i hi, show d - 1 - i = (d - 2 - i) + 1 by omega]; rfl
theorem WI.two (h : WI f cl j x d tr) (hj : j < (fl cl).length) (hx : (fl cl).getD j 0 = -2 ∨ (fl cl).getD j 0 = -3) {a b : Bool} (ha : tr (d - 1 - 1) = bI a) (hb : tr (d - 1) = bI b) : WI f cl (j + 1) x (d - 1) (upd tr (d - 1 - 1) (bI (if (fl cl).getD j 0 = -2 then (a && b) else (a || b)))) := by
  have ht : tok ((fl cl).getD j 0) d := by
    rcases h.ok hj with ⟨a, -⟩ | a
    · rcases hx with e | e <;> (rw [e] at a; exact absurd a (by decide))
    · exact a
  have hd1 : 2 ≤ d ∧ d ≤ 30 := by
    obtain ⟨k, h1, h2, h3, -⟩ := h
    rcases ht with ⟨w, q, v, h1, h2, h3, h4, -⟩ | ⟨h0, h1⟩ | ⟨-, h1⟩
    · rcases hx with e | e
      · exact absurd (h4.symm.trans e) (nat_ne_neg (by omega) (by decide))
      · exact absurd (h4.symm.trans e) (nat_ne_neg (by omega) (by decide))
    · rcases hx with e | e
      · exact absurd (h0.symm.trans e) (by decide)
      · exact absurd (h0.symm.trans e) (by decide)
    · omega
  refine h.next hj ht (by rw [dst_2 hx]) (by omega) (fun k h1 h3 i hi => ?_)
  rcases k with _ | ⟨c, _ | ⟨c2, k⟩⟩
  · simp at h1; omega
  · simp at h1; omega
  · have hc : bI c = bI b := by
      have := h3 (d - 1) (by omega)
      rw [show d - 1 - (d - 1) = 0 by omega] at this
      exact this.symm.trans hb
    have hcb : c = b := by cases c <;> cases b <;> first | rfl | exact absurd hc (by decide)
    have hc2 : bI c2 = bI a := by
      have := h3 (d - 1 - 1) (by omega)
      rw [show d - 1 - (d - 1 - 1) = 1 by omega] at this
      exact this.symm.trans ha
    have hcb2 : c2 = a := by cases c2 <;> cases a <;> first | rfl | exact absurd hc2 (by decide)
    rw [tstep_2 hx]
    by_cases e : i = d - 1 - 1
    · subst e; rw [pk_us, show d - 1 - 1 - (d - 1 - 1) = 0 by omega, hcb, hcb2]; rfl
    · rw [pk_un e, h3 i (by omega), show d - 1 - i = (d - 1 - 1 - i) + 1 by omega, show d - 1 - 1 - i = (d - 1 - 1 - 1 - i) + 1 by omega]; rfl
theorem WI.fin (h : WI f cl j x d tr) (hj : j < (fl cl).length) (hx : (fl cl).getD j 0 ≤ -10) {b : Bool} (hb : tr 0 = bI b) : WI f cl (j + 1) (x + (if b = true then valE ((fl cl).getD j 0) else 0)) 0 tr := by
  have hd : d = 1 := by
    rcases h.ok hj with ⟨-, a⟩ | a
    · exact a
    · exact absurd hx (tok_gt a)
  obtain ⟨k, h1, h2, h3, h4, h5⟩ := h
  rw [drop_at hj] at h4 h5
  rcases k with _ | ⟨c, k⟩
  · simp at h1; omega
  · have hc : bI c = bI b := by
      have := h3 0 (by omega)
      rw [show d - 1 - 0 = 0 by omega] at this
      exact this.symm.trans hb
    have hcb : c = b := by cases c <;> cases b <;> first | rfl | exact absurd hc (by decide)
    refine ⟨[], rfl, by omega, fun i hi => absurd hi (Nat.not_lt_zero i), ?_, ?_⟩
    · rcases h4 with ⟨-, -, a⟩ | ⟨a, -⟩
      · exact a
      · exact absurd hx (tok_gt a)
    · have e : estep f (x, c :: k) ((fl cl).getD j 0) = (x + (if c = true then valE ((fl cl).getD j 0) else 0), []) := if_pos hx
      rw [← hcb, ← e]
      exact h5
/-- truths are 0 or 1 -/
theorem WI.bit (h : WI f cl j x d tr) {i : Nat} (hi : i < d) : ∃ b : Bool, tr i = bI b := by
  obtain ⟨k, h1, h2, h3, -⟩ := h
  exact ⟨_, h3 i hi⟩
theorem bit_z {y : Int32} {b : Bool} (e : y = bI b) (h : y = 0) : y = bI false := h
theorem bit_o {y : Int32} (e : ∃ b : Bool, y = bI b) (h : ¬ y = 0) : y = bI true := by
  obtain ⟨b, rfl⟩ := e
  cases b
  · exact absurd rfl h
  · rfl
end
/-- clauses that are read are in order -/
def CWF (nn : Nat) (e : Int32) (L : List Int32) : Prop := nn < 100 ∨ (nn = 100 ∧ wfT 0 L ∧ dfin 0 L = 1 ∧ ∃ k : Nat, k < 100 ∧ (e = (-10) - nI k ∨ e = (-200) - nI k))
theorem pMuch_wf {Z : Nat → Int32} {ws : List Int32} {k0 : Int32} (hk : k0 = -10 ∨ k0 = -200) {i j nn : Nat} {e : Int32} {L : List Int32} (h : pMuch Z ws k0 i = (true, j, nn, e, L)) : CWF nn e L := by
  rcases h1 : pWord Z ws i with ⟨b1, q⟩
  cases b1 with
  | false => rw [pMuch_1 h1] at h; cases h
  | true =>
    rcases h2 : pNum Z q with ⟨b2, n, v⟩
    cases b2 with
    | false => rw [pMuch_2 h1 h2] at h; cases h
    | true =>
      by_cases h3 : Z n = 32
      · rcases h4 : pAny Z 5 (n + 1) with ⟨b4, j2, L2⟩
        cases b4 with
        | false => rw [pMuch_4 h1 h2 h3 h4] at h; cases h
        | true =>
          rw [pMuch_5 h1 h2 h3 h4] at h
          have hw := pAny_wf (r := 5) (by omega) (n + 1) j2 L2 0 h4 (by omega)
          have hv := pNum_lt h2
          cases h
          refine Or.inr ⟨rfl, hw.1, hw.2, v, hv, ?_⟩
          rcases hk with rfl | rfl
          · exact Or.inl rfl
          · exact Or.inr rfl
      · rw [pMuch_3 h1 h2 h3] at h; cases h
theorem pNote_wf {Z : Nat → Int32} {i j nn : Nat} {e : Int32} {L : List Int32} (h : pNote Z i = (true, j, nn, e, L)) : CWF nn e L := by
  rcases h1 : pWord Z WNOTE i with ⟨b1, q⟩
  cases b1 with
  | false => rw [pNote_1 h1] at h; cases h
  | true =>
    rcases h2 : pNum Z q with ⟨b2, n, v⟩
    cases b2 with
    | false => rw [pNote_2 h1 h2] at h; cases h
    | true =>
      rw [pNote_3 h1 h2] at h
      have hv := pNum_lt h2
      cases h
      exact Or.inl hv
theorem pClause_wf {Z : Nat → Int32} {i j nn : Nat} {e : Int32} {L : List Int32} (h : pClause Z i = (true, j, nn, e, L)) : CWF nn e L := by
  by_cases h1 : Z i = 110
  · rw [pClause_n h1] at h; exact pNote_wf h
  · by_cases h2 : Z i = 104
    · rw [pClause_h h2] at h; exact pMuch_wf (Or.inr rfl) h
    · rw [pClause_g h1 h2] at h; exact pMuch_wf (Or.inl rfl) h
theorem WFC.add {t : TWN} {nn : Nat} {e : Int32} {L : List Int32} (h : WFC t.2) (c : CWF nn e L) : WFC (addC t nn e L).2 := by
  unfold addC
  split
  · rename_i hn
    rcases c with c | ⟨-, c⟩
    · omega
    · intro q hq
      rcases List.mem_append.mp hq with hq | hq
      · exact h q hq
      · rw [List.mem_singleton.mp hq]; exact c
  · exact h
theorem fl_app (a b : List (Int32 × List Int32)) : fl (a ++ b) = fl a ++ fl b := List.flatMap_append
theorem fl_one (e : Int32) (L : List Int32) : fl [(e, L)] = L ++ [e] := by
  show (L ++ [e]) ++ [] = _
  rw [List.append_nil]
/-- the town of the row's place T -/
def TP (f : Nat → Int32) (T : Nat) (t : TWN) : Prop := f (136 + T) = nI t.1 ∧ f (141 + T) = nI (fl t.2).length ∧ ∀ i, i < (fl t.2).length → f (146 + 140 * T + i) = (fl t.2).getD i 0
theorem TP.cong {f g : Nat → Int32} {T : Nat} {t : TWN} (a : TP f T t) (h1 : g (136 + T) = f (136 + T)) (h2 : g (141 + T) = f (141 + T)) (h3 : ∀ i, i < (fl t.2).length → g (146 + 140 * T + i) = f (146 + 140 * T + i)) : TP g T t := ⟨h1.trans a.1, h2.trans a.2.1, fun i hi => (h3 i hi).trans (a.2.2 i hi)⟩
theorem TP.addc {f g : Nat → Int32} {T : Nat} {t : TWN} {e : Int32} {L : List Int32} (a : TP f T t) (h1 : g (136 + T) = f (136 + T)) (h2 : g (141 + T) = nI ((fl t.2).length + (L ++ [e]).length)) (h3 : AP g f (146 + 140 * T) (fl t.2).length (L ++ [e])) : TP g T (addC t 100 e L) := by
  have e1 : fl (t.2 ++ [(e, L)]) = fl t.2 ++ (L ++ [e]) := by rw [fl_app, fl_one]
  refine ⟨h1.trans a.1, ?_, ?_⟩
  · show g (141 + T) = nI (fl (t.2 ++ [(e, L)])).length
    rw [e1, List.length_append]; exact h2
  · show ∀ i, i < (fl (t.2 ++ [(e, L)])).length → g (146 + 140 * T + i) = (fl (t.2 ++ [(e, L)])).getD i 0
    rw [e1, List.length_append]
    intro i hi
    by_cases q : i < (fl t.2).length
    · rw [h3.1 i q, a.2.2 i q, gd_l q]
    · have := h3.2 (i - (fl t.2).length) (by omega)
      rw [show 146 + 140 * T + (fl t.2).length + (i - (fl t.2).length) = 146 + 140 * T + i by omega] at this
      rw [this]
      exact (gd_r (by omega)).symm
theorem TP.addn {f : Nat → Int32} {T : Nat} {t : TWN} {n : Nat} {e : Int32} {L : List Int32} (a : TP f T t) (hn : n < 100) (hT : T < 5) : TP (upd f (136 + T) (nI n)) T (addC t n e L) := by
  have e1 : addC t n e L = (n, t.2) := if_neg (by omega)
  rw [e1]
  exact ⟨pk_us, (pk_un (by omega)).trans a.2.1, fun i hi => (pk_un (by omega)).trans (a.2.2 i hi)⟩
theorem TP.zero {f : Nat → Int32} {T : Nat} (h1 : f (136 + T) = nI 0) (h2 : f (141 + T) = nI 0) : TP f T (0, []) := ⟨h1, h2, fun i hi => absurd hi (Nat.not_lt_zero i)⟩
/-- the facts of a case: hour, person, m, n, y, kind -/
def byF (h p m n y k : Nat) : Nat → Int32 := fun i => match i with
  | 0 => nI h
  | 1 => nI p
  | 2 => nI m
  | 3 => nI n
  | 4 => nI y
  | _ => nI k
def EvW (cl : List (Int32 × List Int32)) : Ev := fun p k h m n y => evT (byF h p m n y k) cl
theorem tstN_cong {f g : Nat → Int32} {n : Nat} (h : f (n % 8) = g (n % 8)) : tstN f n = tstN g n := by
  unfold tstN
  rw [h]
theorem tstep_cong {f g : Nat → Int32} (e : ∀ i, i < 6 → f i = g i) {x : Int32} {d : Nat} (h : tok x d) (s : List Bool) : tstep f x s = tstep g x s := by
  rcases h with ⟨w, q, v, h1, h2, h3, rfl, -⟩ | ⟨rfl, -⟩ | ⟨rfl | rfl, -⟩
  · rw [tstep_n (by omega), tstep_n (by omega), tstN_cong (e _ (by omega))]
  · exact (tstep_neg (by decide)).trans (tstep_neg (by decide)).symm
  · exact (tstep_neg (by decide)).trans (tstep_neg (by decide)).symm
  · exact (tstep_neg (by decide)).trans (tstep_neg (by decide)).symm
theorem run_cong {f g : Nat → Int32} (e : ∀ i, i < 6 → f i = g i) (L : List Int32) : ∀ (s : List Bool) (d : Nat), wfT d L → L.foldl (fun s x => tstep f x s) s = L.foldl (fun s x => tstep g x s) s := by
  induction L with
  | nil => intro s d h; rw [List.foldl_nil, List.foldl_nil]
  | cons x t ih =>
    intro s d h
    rw [List.foldl_cons, List.foldl_cons, tstep_cong e h.1 s]
    exact ih _ _ h.2
theorem evT_go {f g : Nat → Int32} (e : ∀ i, i < 6 → f i = g i) (cl : List (Int32 × List Int32)) : ∀ s : Int32, WFC cl → cl.foldl (fun s c => s + (if evL f c.2 = true then valE c.1 else 0)) s = cl.foldl (fun s c => s + (if evL g c.2 = true then valE c.1 else 0)) s := by
  induction cl with
  | nil => intro s h; rw [List.foldl_nil, List.foldl_nil]
  | cons c t ih =>
    intro s h
    have h1 := h c List.mem_cons_self
    have q : evL f c.2 = evL g c.2 := by unfold evL; rw [run_cong e c.2 [] 0 h1.1]
    rw [List.foldl_cons, List.foldl_cons, q]
    exact ih _ (fun q hq => h q (List.mem_cons_of_mem _ hq))
theorem evT_cong {f g : Nat → Int32} (e : ∀ i, i < 6 → f i = g i) (cl : List (Int32 × List Int32)) (h : WFC cl) : evT f cl = evT g cl := evT_go e cl 0 h
end CEV
section CEW
variable {f : Nat → Int32} {cl : List (Int32 × List Int32)} {j d : Nat} {x : Int32} {tr : Nat → Int32}
theorem WI.d30 (h : WI f cl j x d tr) : d ≤ 30 := by
  obtain ⟨k, h1, h2, -⟩ := h
  exact h2
/-- a step from 0 on is a test -/
theorem WI.isn (h : WI f cl j x d tr) (hj : j < (fl cl).length) (hs : ¬ (fl cl).getD j 0 < 0) : ∃ w q v : Nat, w < 6 ∧ q < 3 ∧ v < 100 ∧ (fl cl).getD j 0 = nI (w + 8 * q + 32 * v) ∧ d < 30 := by
  rcases h.ok hj with ⟨a, -⟩ | ⟨w, q, v, h1, h2, h3, h4, h5⟩ | ⟨h1, -⟩ | ⟨h1 | h1, -⟩
  · exact absurd (Int32.lt_of_le_of_lt a (by decide)) hs
  · exact ⟨w, q, v, h1, h2, h3, h4, h5⟩
  · rw [h1] at hs; exact absurd (by decide) hs
  · rw [h1] at hs; exact absurd (by decide) hs
  · rw [h1] at hs; exact absurd (by decide) hs
theorem WI.ge1 (h : WI f cl j x d tr) (hj : j < (fl cl).length) (hx : (fl cl).getD j 0 = -1) : 1 ≤ d := by
  rcases h.ok hj with ⟨a, -⟩ | ⟨w, q, v, h1, h2, h3, h4, h5⟩ | ⟨-, h1⟩ | ⟨h1 | h1, -⟩
  · rw [hx] at a; exact absurd a (by decide)
  · exact absurd (h4.symm.trans hx) (nat_ne_neg (by omega) (by decide))
  · exact h1
  · exact absurd (h1.symm.trans hx) (by decide)
  · exact absurd (h1.symm.trans hx) (by decide)
theorem WI.ge2 (h : WI f cl j x d tr) (hj : j < (fl cl).length) (h0 : (fl cl).getD j 0 < 0) (h1 : ¬ (fl cl).getD j 0 = -1) (h2 : ¬ (fl cl).getD j 0 ≤ -10) : 2 ≤ d ∧ ((fl cl).getD j 0 = -2 ∨ (fl cl).getD j 0 = -3) := by
  rcases h.ok hj with ⟨a, -⟩ | ⟨w, q, v, a1, a2, a3, a4, -⟩ | ⟨a1, -⟩ | ⟨a1, a2⟩
  · exact absurd a h2
  · rw [a4] at h0; exact absurd h0 (nI_pos (by omega))
  · exact absurd a1 h1
  · exact ⟨a2, a1⟩
theorem WI.end1 (h : WI f cl j x d tr) (hj : j < (fl cl).length) (hx : (fl cl).getD j 0 ≤ -10) : d = 1 := by
  rcases h.ok hj with ⟨-, a⟩ | a
  · exact a
  · exact absurd hx (tok_gt a)
theorem WI.not0 (h : WI f cl j x d tr) (hj : j < (fl cl).length) (hx : (fl cl).getD j 0 = -1) (hb : tr (d - 1) = 0) : WI f cl (j + 1) x d (upd tr (d - 1) 1) := h.not hj hx (b := false) hb
theorem WI.not1 (h : WI f cl j x d tr) (hj : j < (fl cl).length) (hx : (fl cl).getD j 0 = -1) (hb : ¬ tr (d - 1) = 0) : WI f cl (j + 1) x d (upd tr (d - 1) 0) := h.not hj hx (b := true) (bit_o (h.bit (by have := h.ge1 hj hx; omega)) hb)
section
theorem WI.and0 (h : WI f cl j x d tr) (hj : j < (fl cl).length) (hx : (fl cl).getD j 0 = -2 ∨ (fl cl).getD j 0 = -3) (h2 : 2 ≤ d) (hc : (fl cl).getD j 0 = -2) (ha : tr (d - 1 - 1) = 0) : WI f cl (j + 1) x (d - 1) (upd tr (d - 1 - 1) 0) := by
  obtain ⟨b, hb⟩ := h.bit (i := d - 1) (by omega)
  have := h.two hj hx (a := false) ha hb
  rw [if_pos hc] at this
  exact this
theorem WI.and10 (h : WI f cl j x d tr) (hj : j < (fl cl).length) (hx : (fl cl).getD j 0 = -2 ∨ (fl cl).getD j 0 = -3) (h2 : 2 ≤ d) (hc : (fl cl).getD j 0 = -2) (ha : ¬ tr (d - 1 - 1) = 0) (hb : tr (d - 1) = 0) : WI f cl (j + 1) x (d - 1) (upd tr (d - 1 - 1) 0) := by
  have := h.two hj hx (bit_o (h.bit (by omega)) ha) (b := false) hb
  rw [if_pos hc] at this
  exact this
theorem WI.and11 (h : WI f cl j x d tr) (hj : j < (fl cl).length) (hx : (fl cl).getD j 0 = -2 ∨ (fl cl).getD j 0 = -3) (h2 : 2 ≤ d) (hc : (fl cl).getD j 0 = -2) (ha : ¬ tr (d - 1 - 1) = 0) (hb : ¬ tr (d - 1) = 0) : WI f cl (j + 1) x (d - 1) (upd tr (d - 1 - 1) 1) := by
  have := h.two hj hx (bit_o (h.bit (by omega)) ha) (bit_o (h.bit (by omega)) hb)
  rw [if_pos hc] at this
  exact this
theorem WI.or1 (h : WI f cl j x d tr) (hj : j < (fl cl).length) (hx : (fl cl).getD j 0 = -2 ∨ (fl cl).getD j 0 = -3) (h2 : 2 ≤ d) (hc : ¬ (fl cl).getD j 0 = -2) (ha : ¬ tr (d - 1 - 1) = 0) : WI f cl (j + 1) x (d - 1) (upd tr (d - 1 - 1) 1) := by
  obtain ⟨b, hb⟩ := h.bit (i := d - 1) (by omega)
  have := h.two hj hx (bit_o (h.bit (by omega)) ha) hb
  rw [if_neg hc] at this
  exact this
theorem WI.or01 (h : WI f cl j x d tr) (hj : j < (fl cl).length) (hx : (fl cl).getD j 0 = -2 ∨ (fl cl).getD j 0 = -3) (h2 : 2 ≤ d) (hc : ¬ (fl cl).getD j 0 = -2) (ha : tr (d - 1 - 1) = 0) (hb : ¬ tr (d - 1) = 0) : WI f cl (j + 1) x (d - 1) (upd tr (d - 1 - 1) 1) := by
  have := h.two hj hx (a := false) ha (bit_o (h.bit (by omega)) hb)
  rw [if_neg hc] at this
  exact this
theorem WI.or00 (h : WI f cl j x d tr) (hj : j < (fl cl).length) (hx : (fl cl).getD j 0 = -2 ∨ (fl cl).getD j 0 = -3) (h2 : 2 ≤ d) (hc : ¬ (fl cl).getD j 0 = -2) (ha : tr (d - 1 - 1) = 0) (hb : tr (d - 1) = 0) : WI f cl (j + 1) x (d - 1) (upd tr (d - 1 - 1) 0) := by
  have := h.two hj hx (a := false) ha (b := false) hb
  rw [if_neg hc] at this
  exact this
end
theorem WI.end0 (h : WI f cl j x d tr) (hj : j < (fl cl).length) (hx : (fl cl).getD j 0 ≤ -10) (hb : tr 0 = 0) : WI f cl (j + 1) x 0 tr := by
  have := h.fin hj hx (b := false) hb
  rw [if_neg (by decide), Int32.add_zero] at this
  exact this
theorem WI.end1a (h : WI f cl j x d tr) (hj : j < (fl cl).length) (hx : (fl cl).getD j 0 ≤ -10) (hb : ¬ tr 0 = 0) (hc : (-200 : Int32) < (fl cl).getD j 0) : WI f cl (j + 1) (x + ((-10 : Int32) - (fl cl).getD j 0)) 0 tr := by
  have := h.fin hj hx (bit_o (h.bit (by have := h.end1 hj hx; omega)) hb)
  rw [if_pos rfl] at this
  unfold valE at this
  rw [if_pos hc] at this
  exact this
theorem WI.end1b (h : WI f cl j x d tr) (hj : j < (fl cl).length) (hx : (fl cl).getD j 0 ≤ -10) (hb : ¬ tr 0 = 0) (hc : ¬ (-200 : Int32) < (fl cl).getD j 0) : WI f cl (j + 1) (x + ((fl cl).getD j 0 - (-200 : Int32))) 0 tr := by
  have := h.fin hj hx (bit_o (h.bit (by have := h.end1 hj hx; omega)) hb)
  rw [if_pos rfl] at this
  unfold valE at this
  rw [if_neg hc] at this
  exact this
/-- the town that holds has these clauses -/
def CW (sv : Nat → Int32) (T : Nat) (cw : List (Int32 × List Int32)) : Prop := WFC cw ∧ (fl cw).length ≤ 100 ∧ ((T = 0 ∧ cw = []) ∨ ∃ t n : Nat, T = t + 1 ∧ TP sv t (n, cw))
theorem CW.at0 {sv : Nat → Int32} {T : Nat} {cw : List (Int32 × List Int32)} (h : CW sv T cw) (h0 : T = 0) : cw = [] := by
  rcases h.2.2 with ⟨-, a⟩ | ⟨t, n, a, -⟩
  · exact a
  · omega
theorem CW.at1 {sv : Nat → Int32} {T t : Nat} {cw : List (Int32 × List Int32)} (h : CW sv T cw) (h0 : T = t + 1) : ∃ n : Nat, TP sv t (n, cw) := by
  rcases h.2.2 with ⟨a, -⟩ | ⟨t', n, a, b⟩
  · omega
  · exact ⟨n, by rw [show t = t' by omega]; exact b⟩
/-- the table of one: its first n cases -/
def TBX (tbl : Nat → Int32) (E : Ev) (F : Fk) (p n : Nat) : Prop := ∀ k, k < n → tbl (96 * p + k) = E p (F.1 p) (k / 32) (k / 8 % 4) (k / 2 % 4) (k % 2)
def TBr (tbl : Nat → Int32) (P : Nat) (F : Fk) (E : Ev) : Prop := ∀ p, p < P → TBX tbl E F p 96
theorem TBr.at {tbl : Nat → Int32} {P : Nat} {F : Fk} {E : Ev} (T : TBr tbl P F E) {i p h m n y : Nat} (hp : p < P) (hh : h < 3) (hm : m < 4) (hn : n < 4) (hy : y < 2) (hi : i = 96 * p + 32 * h + 8 * m + 2 * n + y) : tbl i = E p (F.1 p) h m n y := by
  have := T p hp (32 * h + 8 * m + 2 * n + y) (by omega)
  rw [show 96 * p + (32 * h + 8 * m + 2 * n + y) = i by omega] at this
  rw [this]
  rw [show (32 * h + 8 * m + 2 * n + y) / 32 = h by omega, show (32 * h + 8 * m + 2 * n + y) / 8 % 4 = m by omega, show (32 * h + 8 * m + 2 * n + y) / 2 % 4 = n by omega, show (32 * h + 8 * m + 2 * n + y) % 2 = y by omega]
end CEW
