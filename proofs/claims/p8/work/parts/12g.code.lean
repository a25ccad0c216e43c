/-! the class's code of a town -/
section CCD
def cod (x : Int32) : Int32 := if 0 ≤ x then nI ((x.toNatClampNeg % 8 * 3 + x.toNatClampNeg / 8 % 4) * 100 + x.toNatClampNeg / 32) else (if x = -1 then -3 else (if x = -3 then -1 else x))
theorem cod_test {w h v : Nat} (hw : w < 6) (hh : h < 3) (hv : v < 100) : cod (nI (w + 8 * h + 32 * v)) = nI ((w * 3 + h) * 100 + v) := by
  unfold cod
  rw [if_pos (nI_pos' (by omega)), nI_clamp (n := w + 8 * h + 32 * v) (by omega)]
  congr 1
  have a : (w + 8 * h + 32 * v) % 8 = w := by omega
  have b : (w + 8 * h + 32 * v) / 8 % 4 = h := by omega
  have c : (w + 8 * h + 32 * v) / 32 = v := by omega
  rw [a, b, c]
theorem cod_not : cod (-1) = -3 := by decide +kernel
theorem cod_and : cod (-2) = -2 := by decide +kernel
theorem cod_or : cod (-3) = -1 := by decide +kernel
/-- the code grows by these steps -/
def CP (g f : Nat → Int32) (n : Nat) (L : List Int32) : Prop := (∀ i, i < n → g i = f i) ∧ ∀ i, i < L.length → g (n + i) = cod (L.getD i 0)
theorem CP.nil {f : Nat → Int32} {n : Nat} : CP f f n [] := ⟨fun _ _ => rfl, fun i h => absurd h (Nat.not_lt_zero i)⟩
theorem CP.trans {h g f : Nat → Int32} {n k : Nat} {L M : List Int32} (hk : k = n + L.length) (a : CP h g k M) (c : CP g f n L) : CP h f n (L ++ M) := by
  subst hk
  refine ⟨fun i hi => (a.1 i (by omega)).trans (c.1 i hi), fun i hi => ?_⟩
  rw [List.length_append] at hi
  by_cases e : i < L.length
  · rw [a.1 (n + i) (by omega), c.2 i e, gd_l e]
  · have h1 := a.2 (i - L.length) (by omega)
    rw [show n + L.length + (i - L.length) = n + i by omega] at h1
    rw [h1, gd_r (by omega)]
theorem CP.one {f : Nat → Int32} {n : Nat} {x y : Int32} (h : cod x = y) : CP (upd f n y) f n [x] := ⟨fun i hi => pk_un (by omega), fun i hi => by
  have hi : i < 1 := hi
  rw [show i = 0 by omega]
  exact pk_us.trans h.symm⟩
/-- the code of all clauses, and where each ends -/
def cdl (cl : List (Int32 × List Int32)) : List Int32 := cl.flatMap (fun c => c.2)
def offs (cl : List (Int32 × List Int32)) (c : Nat) : Nat := (cdl (cl.take c)).length
def CT (fb fc fd : Nat → Int32) (nh : Int32) (t : TWN) : Prop := (∀ i, i < (cdl t.2).length → fb i = cod ((cdl t.2).getD i 0)) ∧ (∀ c, c < t.2.length → fc c = valE (t.2.getD c (0, [])).1 ∧ fd c = nI (offs t.2 (c + 1))) ∧ nh = nI t.1
def TC (nk nl nh : Int32) (fb fc fd : Nat → Int32) (t : TWN) : Prop := nk = nI (cdl t.2).length ∧ nl = nI t.2.length ∧ CT fb fc fd nh t ∧ (cdl t.2).length ≤ 100 ∧ t.2.length ≤ 8
theorem cdl_app (a b : List (Int32 × List Int32)) : cdl (a ++ b) = cdl a ++ cdl b := List.flatMap_append
theorem cdl_one (e : Int32) (L : List Int32) : cdl [(e, L)] = L := List.append_nil L
theorem cdl_add {t : TWN} {e : Int32} {L : List Int32} : cdl (addC t 100 e L).2 = cdl t.2 ++ L := by
  show cdl (t.2 ++ [(e, L)]) = _
  rw [cdl_app, cdl_one]
theorem CT.zero {fb fc fd : Nat → Int32} : CT fb fc fd 0 (0, []) := ⟨fun i h => absurd h (Nat.not_lt_zero i), fun i h => absurd h (Nat.not_lt_zero i), rfl⟩
theorem offs_app {a b : List (Int32 × List Int32)} {c : Nat} (h : c ≤ a.length) : offs (a ++ b) c = offs a c := by
  unfold offs
  rw [List.take_append_of_le_length h]
theorem offs_all (a : List (Int32 × List Int32)) : offs a a.length = (cdl a).length := by
  unfold offs
  rw [List.take_length]
theorem CT.add {fb fc fd gb : Nat → Int32} {nh y z : Int32} {t : TWN} {e : Int32} {L : List Int32} (h : CT fb fc fd nh t) (hb : CP gb fb (cdl t.2).length L) (hy : y = valE e) (hz : z = nI ((cdl t.2).length + L.length)) : CT gb (upd fc t.2.length y) (upd fd t.2.length z) nh (addC t 100 e L) := by
  refine ⟨?_, ?_, h.2.2⟩
  · rw [cdl_add, List.length_append]
    intro i hi
    by_cases q : i < (cdl t.2).length
    · rw [hb.1 i q, h.1 i q, gd_l q]
    · have := hb.2 (i - (cdl t.2).length) (by omega)
      rw [show (cdl t.2).length + (i - (cdl t.2).length) = i by omega] at this
      rw [this, gd_r (by omega)]
  · show ∀ c, c < (t.2 ++ [(e, L)]).length → upd fc t.2.length y c = valE ((t.2 ++ [(e, L)]).getD c (0, [])).1 ∧ upd fd t.2.length z c = nI (offs (t.2 ++ [(e, L)]) (c + 1))
    intro c hc
    rw [List.length_append] at hc
    have hc : c < t.2.length + 1 := hc
    by_cases q : c = t.2.length
    · subst q
      rw [pk_us, pk_us, gd_r (Nat.le_refl _), Nat.sub_self]
      refine ⟨hy, ?_⟩
      have e1 : offs (t.2 ++ [(e, L)]) (t.2.length + 1) = (cdl t.2).length + L.length := by
        have := offs_all (t.2 ++ [(e, L)])
        rw [List.length_append, cdl_app, cdl_one, List.length_append] at this
        exact this
      rw [e1]; exact hz
    · rw [pk_un q, pk_un q, gd_l (by omega), offs_app (by omega)]
      exact h.2.1 c (by omega)
theorem CT.note {fb fc fd : Nat → Int32} {nh : Int32} {t : TWN} {n : Nat} {e : Int32} {L : List Int32} (h : CT fb fc fd nh t) (hn : n < 100) : CT fb fc fd (nI n) (addC t n e L) := by
  have e1 : addC t n e L = (n, t.2) := if_neg (by omega)
  rw [e1]
  exact ⟨h.1, h.2.1, rfl⟩
theorem val_h : ∀ n : Nat, n < 100 → -nI n = valE ((-200) - nI n) := by decide +kernel
theorem val_g : ∀ n : Nat, n < 100 → nI n = valE ((-10) - nI n) := by decide +kernel
theorem addC_n {t : TWN} {n : Nat} {e : Int32} {L : List Int32} (h : n < 100) : (addC t n e L).2 = t.2 := by
  unfold addC
  rw [if_neg (by omega)]
theorem addC_len {t : TWN} {n : Nat} {e : Int32} {L : List Int32} : (addC t n e L).2.length ≤ t.2.length + 1 := by
  unfold addC
  split
  · show (t.2 ++ [(e, L)]).length ≤ _
    rw [List.length_append]; exact Nat.le_refl _
  · exact Nat.le_succ _
theorem tapeZ {f g Z : Nat → Int32} {S : Nat} (hS : S ≤ 100) (h : ∀ i, (if i < S then f i else (-1 : Int32)) = Z i) : ∀ i, (if i < S then va_cpy f g ((0 : Int32)).toNatClampNeg ((0 : Int32)).toNatClampNeg ((100 : Int32)).toNatClampNeg i else (-1 : Int32)) = Z i := fun i => by
  rw [← h i]
  split
  · show (if _ then _ else _) = _
    rw [if_pos ⟨Nat.zero_le _, (show i < 0 + 100 by omega)⟩]
    simp
  · rfl
theorem zendC {f Z : Nat → Int32} {S : Nat} (h : ∀ i, (if i < S then f i else (-1 : Int32)) = Z i) : ∀ i, S ≤ i → Z i = -1 := fun i hi => (h i).symm.trans (if_neg (by omega))
theorem min100 {S : Nat} (h : S ≤ 100) : (if (100 : Int32) < nI S then (100 : Int32) else nI S) = nI S := by
  by_cases e : (100 : Int32) < nI S
  · exact absurd ((nI_ltI (a := 100) (b := S) (by decide) (by omega)).mp e) (by omega)
  · exact if_neg e
theorem max0_n {S : Nat} (h : S < 2 ^ 31) : (if (0 : Int32) < nI S then nI S else (0 : Int32)) = nI S := by
  by_cases e : (0 : Int32) < nI S
  · exact if_pos e
  · rw [if_neg e]
    have : ¬ 0 < S := fun q => e ((nI_ltI (a := 0) (b := S) (by decide) h).mpr q)
    rw [show S = 0 by omega]
    rfl
end CCD
