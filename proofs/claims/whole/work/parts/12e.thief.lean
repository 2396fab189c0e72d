/-! THE THIEF: the way over an echo's foot -/
def fX (D : Ld) (x : Int32) (n : Nat) : Int32 := if n < 8 then ftX D n x else dB D (n - 8) 0
def fY (D : Ld) (y : Int32) (n : Nat) : Int32 := if n < 8 then ftY D n y else dB D (n - 8) 1
section THIEF2
variable {G : Gx}
theorem s_X3_thiefRoots {Q : Int32 → Mm → Prop} {u : Mm} {D : Ld} (hD : okD D) {a s n : Nat} {x y hX hY : Int32} (hL : LR G u a) (hC : CL u a D) (hk : kd G s = 6) (hsx : gI u s 0 = x) (hsy : gI u s 1 = y) (hx : btw 0 40 x) (hy : btw 0 40 y) (h1 : btw 0 40 hX) (h2 : btw 0 40 hY) (hn : (n < 8 ∧ n < nW D) ∨ (8 ≤ n ∧ n < 8 + nB D)) (hQ : Q (rtD x y (fX D x n) (fY D y n) + rtD (fX D x n) (fY D y n) hX hY) u) : V_X3_thiefRoots G s a (nI n) hX hY u Q := by
  have d1 := hD.1
  have d2 := hD.2.1
  obtain ⟨l0, lk, l1, l1n, l1r, l2, l2n, l2r, l3, l3n, l3r, lw, lo⟩ := hL
  have fin : ∀ fx fy : Int32, fx = fX D x n → fy = fY D y n → btw 0 40 fx → btw 0 40 fy → V_X3_thiefRoots_64 G Q s hX hY fx fy u := by
    intro fx fy e1 e2 b1 b2
    subst e1 e2
    unfold V_X3_thiefRoots_64 V_X11_distanceSquare
    rw [hsx, hsy]
    exact ⟨hk, c_rootD hx hy b1 b2 (c_rootD b1 b2 h1 h2 hQ)⟩
  unfold V_X3_thiefRoots
  refine ⟨fun c => ?_, fun c => ?_⟩
  · have c' : n < 8 := (nI_ltI (a := n) (b := 8) (by omega) (by omega)).mp c
    have hw : n < nW D := by omega
    obtain ⟨q1, q2, _⟩ := lw n (by omega)
    obtain ⟨w0, w1⟩ := hC.2.2.2.2.2.1 n hw
    obtain ⟨_, bat, _⟩ := hD.2.2.2.2.2.1 n hw
    rw [l1r, l1, l1n, nI_clamp (show n < 2 ^ 31 by omega), q2]
    refine ⟨lk, by omega, rfl, vp_in_nI (by omega) (by omega), by omega, fun p hp => ?_⟩
    subst hp
    refine ⟨hk, q1, s_X9_footX q1 (s_X9_footY q1 ?_)⟩
    rw [w0, w1 1 (by decide) (by decide), hsx, hsy]
    by_cases g : dW D n 0 = 1
    · rw [if_pos g, if_pos rfl, if_pos rfl]
      exact fin _ _ (by unfold fX ftX; rw [if_pos c', if_pos g]) (by unfold fY ftY; rw [if_pos c', if_pos g]) hx bat
    · rw [if_neg g, if_neg (by decide), if_neg (by decide)]
      exact fin _ _ (by unfold fX ftX; rw [if_pos c', if_neg g]) (by unfold fY ftY; rw [if_pos c', if_neg g]) bat hy
  · have c' : ¬ n < 8 := mt (nI_ltI (a := n) (b := 8) (by omega) (by omega)).mpr c
    have hb : n - 8 < nB D := by omega
    obtain ⟨_, _, q1, q2⟩ := lw (n - 8) (by omega)
    have w1 := hC.2.2.2.2.2.2.1 (n - 8) hb
    obtain ⟨b0, b1, _⟩ := hD.2.2.2.2.2.2.1 (n - 8) hb
    rw [show nI n - (8 : Int32) = nI (n - 8) from pk_sub (a := n) (b := 8) (by omega), l2r, l2, l2n, nI_clamp (show n - 8 < 2 ^ 31 by omega), q2]
    refine ⟨lk, by omega, rfl, vp_in_nI (by omega) (by omega), by omega, fun p hp => ?_⟩
    subst hp
    refine ⟨q1, fun fx e1 fy e2 => ?_⟩
    rw [w1 0 (by decide)] at e1
    rw [w1 1 (by decide)] at e2
    subst e1 e2
    exact fin _ _ (by unfold fX; rw [if_neg c']) (by unfold fY; rw [if_neg c']) b0 b1
end THIEF2
