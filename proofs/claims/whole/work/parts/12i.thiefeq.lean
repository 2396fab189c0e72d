/-! THE THIEF: the two sides' rows are one -/
theorem tl_perm {D : Ld} {x y hX hY : Int32} {L : List Nat} (hn : L.Nodup) (hm : ∀ k, k ∈ L ↔ k < 80 ∧ stE D 0 x y 0 0 k ≠ -1) : (tLs D x y hX hY L).Perm (uLs D x y hX hY 16) := by
  unfold tLs uLs
  refine List.Perm.map _ ?_
  rw [List.perm_ext_iff_of_nodup (hn.filter _) (List.nodup_range.filter _)]
  intro e
  rw [List.mem_filter, List.mem_filter, List.mem_range, hm]
  unfold fHd mHd
  simp only [Bool.and_eq_true, Bool.not_eq_true', decide_eq_true_eq, decide_eq_false_iff_not]
  constructor
  · rintro ⟨⟨h1, h2⟩, h3, h4⟩
    exact ⟨h3, h2, h4⟩
  · rintro ⟨h1, h2, h3⟩
    exact ⟨⟨by omega, h2⟩, h1, h3⟩
