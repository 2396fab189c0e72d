theorem V_all : ∀ G, okG G → ∀ (b L : Nat) (xs : Nat → Int32), L ≤ 3584 → V_start G b L xs := by
  sorry
