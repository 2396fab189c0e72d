/-! THE THIEF: his row, in the class -/
/-- when he hears an echo -/
def tv (D : Ld) (x y hX hY : Int32) (n : Nat) : Int32 := (rtD x y (fX D x n) (fY D y n) + rtD (fX D x n) (fY D y n) hX hY) / aI D - rtD x y hX hY / aI D
def tLs (D : Ld) (x y hX hY : Int32) (L : List Nat) : List Int32 := (L.filter (fHd D 0 x y 0 0 (hE D))).map (tv D x y hX hY)
theorem tLs_app {D : Ld} {x y hX hY : Int32} {L : List Nat} {n : Nat} : tLs D x y hX hY (L ++ [n]) = tLs D x y hX hY L ++ (if fHd D 0 x y 0 0 (hE D) n then [tv D x y hX hY n] else []) := by
  unfold tLs
  rw [List.filter_append, List.map_append]
  by_cases c : fHd D 0 x y 0 0 (hE D) n = true
  · simp [c]
  · simp [c]
theorem tLs_len (D : Ld) (x y hX hY : Int32) (L : List Nat) : (tLs D x y hX hY L).length ≤ L.length := by
  unfold tLs
  rw [List.length_map]
  exact List.length_filter_le _ _
theorem num_in {D : Ld} {aw tn n : Nat} {x y yr : Int32} (h : stE D aw x y yr tn n ≠ -1) (hn : n < 16) : (n < 8 ∧ n < nW D) ∨ (8 ≤ n ∧ n < 8 + nB D) := by
  unfold stE at h
  by_cases e8 : n < 8
  · rw [if_pos e8] at h
    by_cases ew : n < nW D
    · exact Or.inl ⟨e8, ew⟩
    · rw [if_neg ew] at h; exact absurd rfl h
  · rw [if_neg e8, if_pos hn] at h
    by_cases eb : n - 8 < nB D
    · exact Or.inr ⟨by omega, by omega⟩
    · rw [if_neg eb] at h; exact absurd rfl h
