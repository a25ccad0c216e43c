/-! what the law keeps of both -/
section CLL
def RT (f : Nat → Int32) (T : Nat) (tf : Nat → TWN) : Prop := ∀ i, i < T → TP f i (tf i) ∧ (fl (tf i).2).length ≤ 100
section
variable {f g : Nat → Int32} {T U : Nat} {tf : Nat → TWN} {t : TWN}
theorem RT.zero : RT f 0 tf := fun i hi => absurd hi (Nat.not_lt_zero i)
theorem RT.le (h : RT f T tf) (hq : U ≤ T) : RT f U tf := fun i hi => h i (by omega)
theorem RT.cong (h : RT f T tf) (e : ∀ i, 136 ≤ i → g i = f i) : RT g T tf := fun i hi => ⟨(h i hi).1.cong (e _ (by omega)) (e _ (by omega)) (fun k _ => e _ (by omega)), (h i hi).2⟩
theorem RT.img (h : RT f T tf) (hT : T ≤ 5) (e : ∀ i, i < 846 → g i = f i) : RT g T tf := fun i hi => ⟨(h i hi).1.cong (e _ (by omega)) (e _ (by omega)) (fun k hk => e _ (by have := (h i hi).2; omega)), (h i hi).2⟩
theorem RT.grow (h : RT f U tf) (hU : U ≤ T) : RT f U (fT tf T t) := fun i hi => by
  rw [fT_n (show i ≠ T by omega)]; exact h i hi
theorem RT.add (h : RT f T tf) (hT : T < 5) (q : EqT g f T) (ht : TP g T t) (l : (fl t.2).length ≤ 100) : RT g (T + 1) (fT tf T t) := fun i hi => by
  by_cases e : i = T
  · subst e
    rw [fT_s rfl]; exact ⟨ht, l⟩
  · rw [fT_n e]
    have hh := h i (by omega)
    have hl := hh.2
    exact ⟨hh.1.cong (q _ (by omega) (by omega) (by omega) (by omega) (by omega) (by omega)) (q _ (by omega) (by omega) (by omega) (by omega) (by omega) (by omega)) (fun k hk => q _ (by omega) (by omega) (by omega) (by omega) (by omega) (by omega)), hl⟩
theorem WF.grow (h : ∀ i, i < T → WFC (tf i).2 ∧ (tf i).1 < 100) (a : WFC t.2) (b : t.1 < 100) : ∀ i, i < T + 1 → WFC (fT tf T t i).2 ∧ (fT tf T t i).1 < 100 := fun i hi => by
  by_cases e : i = T
  · rw [fT_s e.symm]; exact ⟨a, b⟩
  · rw [fT_n e]; exact h i (by omega)
theorem RT.cw (h : RT f T tf) (w : ∀ i, i < T → WFC (tf i).2 ∧ (tf i).1 < 100) : CW f T (hoT T tf).2 := by
  rcases Nat.eq_zero_or_pos T with h0 | h0
  · rw [hoT_0 h0]
    exact ⟨fun c hc => absurd hc List.not_mem_nil, Nat.zero_le _, Or.inl ⟨h0, rfl⟩⟩
  · obtain ⟨n, rfl⟩ : ∃ n, T = n + 1 := ⟨T - 1, by omega⟩
    rw [hoT_s rfl]
    exact ⟨(w n (by omega)).1, (h n (by omega)).2, Or.inr ⟨n, (tf n).1, rfl, (h n (by omega)).1⟩⟩
theorem RT.nh (h : RT f T tf) : (T = 0 → (hoT T tf).1 = 0) ∧ ∀ t, T = t + 1 → f (136 + t) = nI (hoT T tf).1 := by
  refine ⟨fun h0 => by rw [hoT_0 h0], fun n hn => ?_⟩
  subst hn
  rw [hoT_s rfl]
  exact (h n (by omega)).1.1
end
section
variable {T U : Nat} {tf : Nat → TWN} {Q0 Q1 Q2 Q3 Q4 Q5 : TWN → Prop}
theorem TQ6.le (h : TQ6 T tf Q0 Q1 Q2 Q3 Q4 Q5) (hq : U ≤ T) : TQ6 U tf Q0 Q1 Q2 Q3 Q4 Q5 := ⟨h.1, fun q => h.2.1 (by omega), fun q => h.2.2.1 (by omega), fun q => h.2.2.2.1 (by omega), fun q => h.2.2.2.2.1 (by omega), fun q => h.2.2.2.2.2 (by omega)⟩
theorem TQ6.zero (h : Q0 (0, [])) : TQ6 0 tf Q0 Q1 Q2 Q3 Q4 Q5 := ⟨h, fun q => absurd q (Nat.lt_irrefl 0), fun q => absurd q (by decide), fun q => absurd q (by decide), fun q => absurd q (by decide), fun q => absurd q (by decide)⟩
end
theorem hz_eq {ft sv : Nat → Int32} {S : Nat} (h : TPr ft sv S) : ∀ i, (if i < S then ft i else (-1 : Int32)) = hereF sv i S := fun i => by
  unfold hereF
  split
  · rename_i q; exact h i q
  · rfl
theorem pr3 {a a2 : Bool} {b b2 : Nat} {c c2 : TWN} (h : (a, b, c) = (a2, b2, c2)) : b = b2 ∧ c = c2 := by
  cases h; exact ⟨rfl, rfl⟩
theorem pr_ft {b b2 : Nat} {c c2 : TWN} (h : ((false, b, c) : Bool × Nat × TWN) = (true, b2, c2)) : False := by cases h
theorem pr_tf {b b2 : Nat} {c c2 : TWN} (h : ((true, b, c) : Bool × Nat × TWN) = (false, b2, c2)) : False := by cases h
theorem bk_days {fb sv : Nat → Int32} {P T B S Y : Nat} (h : BKr fb sv B) (m : MI sv P T B S Y) : ∀ j, j < B → ∃ d : Nat, d < d8 P ∧ fb j = nI d := fun j hj => by
  obtain ⟨d, h1, h2⟩ := m.book j hj
  exact ⟨d, h1, (h j hj).trans h2⟩
theorem BX.start : BX (fun _ => 0) 0 (fun _ => 0) := fun a _ => ⟨0, rfl, (by decide), fun _ => rfl⟩
theorem perO_n (O : Nat → Nat) : True := trivial
end CLL
