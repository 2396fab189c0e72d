section THIEF3
variable {G : Gx}
theorem ot_loop {Q : Mm → Prop} {u0 : Mm} {D : Ld} (hD : okD D) {a s e p : Nat} {x y hX hY : Int32} {L : List Nat} (hL : LR G u0 a) (hC : CL u0 a D) (hk : kd G s = 6) (hsx : gI u0 s 0 = x) (hsy : gI u0 s 1 = y) (hx : btw 0 40 x) (hy : btw 0 40 y) (h1 : btw 0 40 hX) (h2 : btw 0 40 hY) (hEr : ER G u0 e) (hEL : EC D 0 x y 0 0 e L u0) (hm : ∀ k, k ∈ L ↔ k < 80 ∧ stE D 0 x y 0 0 k ≠ -1) (hl : L.length ≤ 16) (has : a + 24 ≤ s) (hse : s + 7 ≤ e) (hep : e + 6 ≤ p) (hpk : kd G p = 13) (hpl : ln G p = 16) (hQ : ∀ u', Fx (fun b _ => b = p) u0 u' → Rw u' p 0 (tLs D x y hX hY L) → Q u') : ∀ (n i : Nat) (u : Mm), i + n = L.length → Fx (fun b _ => b = p) u0 u → Rw u p 0 (tLs D x y hX hY (L.take i)) → V_X3_orderForThief_32 G Q (n + 1) e s a hX hY p (rtD x y hX hY / aI D) (nI (tLs D x y hX hY (L.take i)).length) (nI i) u := by
  intro n
  induction n with
  | zero =>
    intro i u hi hF hR
    have hE' := hEL.same (hF.2 e 0 (by omega)) (fun b j q1 q2 => hF.2 b j (by omega))
    show V_X3_orderForThief_32_B G Q (V_X3_orderForThief_32 G Q 0) e s a hX hY p _ _ (nI i) u
    unfold V_X3_orderForThief_32_B
    rw [hE'.1]
    refine ⟨hEr.2.1, fun _ => hQ u hF ?_, fun c => absurd (nI_le (by omega) (by omega)) c⟩
    rw [List.take_of_length_le (by omega)] at hR
    exact hR
  | succ n ih =>
    intro i u hi hF hR
    have hE' := hEL.same (hF.2 e 0 (by omega)) (fun b j q1 q2 => hF.2 b j (by omega))
    have hC' := hC.fx hD hF (fun b j q => by omega)
    have hL' := hF.kLR hL
    obtain ⟨e0, ek, ⟨a1, a2, a3⟩, _, ⟨c1, c2, c3⟩, _⟩ := hF.kER hEr
    obtain ⟨g1, _, g3⟩ := hE'.2 i (by omega)
    obtain ⟨hlt, hst⟩ := (hm _).mp (gd_mem (show i < L.length by omega))
    have ei : (nI i).toNatClampNeg = i := nI_clamp (by omega)
    have hlen := tLs_len D x y hX hY (L.take i)
    rw [List.length_take] at hlen
    have no : fHd D 0 x y 0 0 (hE D) (L.getD i 0) = false → V_X3_orderForThief_126 G Q (V_X3_orderForThief_32 G Q (n + 1)) e s a hX hY p (rtD x y hX hY / aI D) (nI (tLs D x y hX hY (L.take i)).length) (nI i) u := by
      intro hh
      unfold V_X3_orderForThief_126
      intro z hz
      rw [hz, nI_1]
      have st := ih (i + 1) u (by omega) hF
      rw [tk_s (show i < L.length by omega), tLs_app, hh] at st
      simp only [Bool.false_eq_true, if_false, List.append_nil] at st
      exact st hR
    show V_X3_orderForThief_32_B G Q (V_X3_orderForThief_32 G Q (n + 1)) e s a hX hY p _ _ (nI i) u
    unfold V_X3_orderForThief_32_B V_X3_orderForThief_58
    rw [hE'.1, a3, a1, a2, c3, c1, c2, ei, g1, g3, hC'.2.2.2.1, hpl]
    refine ⟨ek, fun c => ?_, fun _ => ⟨by omega, rfl, vp_in_nI (by omega) (by omega), fun c => ⟨fun _ => no ?_, fun q => absurd rfl q⟩, fun c => ⟨fun q => absurd q (by decide), fun _ => ⟨ek, by omega, rfl, vp_in_nI (by omega) (by omega), hL.2.1, fun c2 => no ?_, fun c2 => ⟨hpk, fun c3 => ?_, fun _ => ⟨by omega, rfl, vp_in_nI (by omega) (by omega), ?_⟩⟩⟩⟩⟩⟩
    · rw [nI_leI (by omega) (by omega)] at c
      omega
    · have := (nI_leI (a := 16) (b := L.getD i 0) (by omega) (by omega)).mp c
      unfold fHd
      rw [decide_eq_false (by omega)]
      rfl
    · unfold fHd
      rw [decide_eq_true c2]
      simp
    · rw [nI_leI (by omega) (by omega)] at c3
      omega
    · have c' : ¬ 16 ≤ L.getD i 0 := mt (nI_leI (a := 16) (b := L.getD i 0) (by omega) (by omega)).mpr c
      have hh : fHd D 0 x y 0 0 (hE D) (L.getD i 0) = true := by
        unfold fHd
        rw [decide_eq_true (show L.getD i 0 < 16 by omega), decide_eq_false c2]
        rfl
      refine s_X3_thiefRoots hD hL' hC' hk (by rw [hF.2 _ _ (by omega)]; exact hsx) (by rw [hF.2 _ _ (by omega)]; exact hsy) hx hy h1 h2 (num_in hst (by omega)) ?_
      rw [hC'.2.2.2.2.1]
      refine s_X11_byAir hD.2.2.2.2.1 (s_X11_insert hpk (by omega) (by omega) hR (fun u' f' r' => ?_))
      intro z hz
      unfold V_X3_orderForThief_126
      intro z2 hz2
      rw [hz2, hz, nI_1, nI_1]
      have st := ih (i + 1) u' (by omega) (hF.trans (f'.mono (fun b j q => q.1)))
      rw [tk_s (show i < L.length by omega), tLs_app, if_pos hh, List.length_append] at st
      exact st (r'.perm (List.perm_append_singleton _ _).symm)
end THIEF3
