theorem V_all : ∀ G, okG G → ∀ (b L : Nat) (xs : Nat → Int32), L ≤ 3584 → V_start G b L xs := by
  intro G hG b L xs hL
  obtain ⟨h1, h2, h3, h4⟩ := hG
  have hl : LY G (gz G) := h4
  have b0 : ∀ a, blk u00 a := fun a j => ⟨rfl, rfl, rfl⟩
  show V_X11_init G (gz G) 1 u00 (fun u1 => blk u1 (gz G + 476) ∧ V_X12_init G (gz G + 476) 477 u1 (fun u2 => blk u2 (gz G + 516) ∧ V_L_law_23 G b L xs 513 (gz G) (gz G + 476) (gz G + 516) (nI (7 * 0)) u2))
  refine n_class hl h2 rfl (fun a _ _ => b0 a) (fun u1 r1 R1 => ⟨r1.blk (Or.inr (by omega)) (b0 _), n_model hl h2 rfl rfl (fun a q1 q2 => r1.blk (Or.inr q1) (b0 _)) (fun u2 r2 M2 => ⟨r2.blk (Or.inr (by omega)) (r1.blk (Or.inr (by omega)) (b0 _)), ?_⟩)⟩)
  have z516 : KL G (gz G + 516) 15 1 := hl.at (k := 516) rfl (by omega) (by decide +kernel)
  refine q_all hL z516.1 z516.2 513 0 u2 (fun i => i) S0 rfl (by omega) S0_ok ?_ M2
  exact R1.keep S0_ok (fun a j q1 q2 _ => (r2 a j (Or.inl q2)).1) (fun a j q1 q2 _ => (r2 a j (Or.inl q2)).2.1)
