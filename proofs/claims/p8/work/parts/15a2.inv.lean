section CI9
theorem addC_1 {t : TWN} {nn : Nat} {e : Int32} {L : List Int32} (h : t.1 < 100) (c : CWF nn e L) : (addC t nn e L).1 < 100 := by
  unfold addC
  rcases c with c | c
  · rw [if_neg (by omega)]; exact c
  · rw [if_pos c.1]; exact h
end CI9
