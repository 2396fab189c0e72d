section THEADS
variable {G : Gx}
theorem s_X3_orderForThief {Q : Mm → Prop} {u : Mm} {D : Ld} (hD : okD D) {a s e p : Nat} {x y hX hY : Int32} {L : List Nat} (hL : LR G u a) (hC : CL u a D) (hk : kd G s = 6) (hsx : gI u s 0 = x) (hsy : gI u s 1 = y) (hx : btw 0 40 x) (hy : btw 0 40 y) (h1 : btw 0 40 hX) (h2 : btw 0 40 hY) (hEr : ER G u e) (hEL : EC D 0 x y 0 0 e L u) (hm : ∀ k, k ∈ L ↔ k < 80 ∧ stE D 0 x y 0 0 k ≠ -1) (hl : L.length ≤ 16) (has : a + 24 ≤ s) (hse : s + 7 ≤ e) (hep : e + 6 ≤ p) (hpk : kd G p = 13) (hpl : ln G p = 16) (hQ : ∀ u', Fx (fun b _ => b = p) u u' → Rw u' p 0 (tLs D x y hX hY L) → Q u') : V_X3_orderForThief G e s a hX hY p u Q := by
  unfold V_X3_orderForThief V_X11_distanceSquare
  rw [hsx, hsy]
  refine ⟨hk, c_rootD hx hy h1 h2 ⟨hL.2.1, ?_⟩⟩
  rw [hC.2.2.2.2.1]
  refine s_X11_byAir hD.2.2.2.2.1 ⟨L.length + 1, ?_⟩
  exact ot_loop hD hL hC hk hsx hsy hx hy h1 h2 hEr hEL hm hl has hse hep hpk hpl hQ L.length 0 u (by omega) Fx.rfl' (fun i hi => absurd hi (by simp [tLs]))
theorem s_X12_tellThief {Q : Mm → Prop} {u : Mm} {D : Ld} (hD : okD D) {m l : Nat} {x y hX hY : Int32} (hM : MR G u m) (hM2 : MR2 G u m) (hl : l < 7) (hC : ML u m l D) (hx : btw 0 40 x) (hy : btw 0 40 y) (h1 : btw 0 40 hX) (h2 : btw 0 40 hY) (hQ : ∀ u', Fx (inT m) u u' → gI u' m 26 = nI (uLs D x y hX hY 16).length → Rw u' (m + 14) 0 (uLs D x y hX hY 16) → Q u') : V_X12_tellThief G m (nI l) x y hX hY u Q := by
  have hv : aI D ≠ 0 := by
    intro c
    have := hD.2.2.2.2.1
    rw [c] at this
    exact absurd this.1 (by decide)
  refine ⟨hM.2.1, s_X12_tellEchoes (aw := 0) (tn := 0) hM hM2 hl hD hC hx hy (by decide) (by decide) (fun u1 f1 t1 w hw => s_X12_far hx hy h1 h2 ?_)⟩
  subst hw
  have F0 : Fx (inT m) u (sI u1 m 26 0) := (f1.mono (fun b j c => by unfold inT; omega)).trans (Fx.put (by unfold inT; omega))
  obtain ⟨m0, mk, _, _, _, _, ⟨a1, a2, a3⟩, _⟩ := F0.kMR hM
  have hC' := hC.fx F0 (fun a j c => by unfold inT at c; omega)
  rw [a3, a1, a2, nI_clamp (show l < 2 ^ 31 by omega), hC'.2.2.2.2.1]
  refine ⟨by omega, rfl, vp_in_nI hl (by omega), hv, fun z hz => ⟨17, ?_⟩⟩
  subst hz
  exact tt_loop hD hM hM2 hl hC hx hy h1 h2 hQ 16 0 _ (by omega) F0 (t1.same (fun b j q => by rw [gI_sI, if_neg (by omega)])) (by rw [gI_sI, if_pos ⟨rfl, rfl⟩]; rfl) (fun i hi => absurd hi (by simp [uLs]))
end THEADS
