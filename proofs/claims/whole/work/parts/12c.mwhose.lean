/-! WHOSE, as the model tells it -/
section MWHOSE
variable {G : Gx}
theorem wh_loop {Q : Int32 → Mm → Prop} {u : Mm} {D : Ld} (hD : okD D) {aw tn m l s i : Nat} {x y yr t what : Int32} (hM : MR G u m) (hM2 : MR2 G u m) (hM3 : MR3 G u m) (hl : l < 7) (hs : s < 20) (hi : i < 12) (hC : ML u m l D) (hT : TT D aw x y yr tn m u) (hx : btw 0 40 x) (hy : btw 0 40 y) (ht : gI u (m + 21) (12 * s + i) = t) (hQ0 : what = 0 → Q (nI (hitN D aw x y yr tn t)) u) (hQ1 : ¬ what = 0 → ∀ r, hitL D aw x y yr tn t r → Q r u) : ∀ (k cnt : Nat) (r w : Int32), k ≤ 80 → (w = nI k + (-1)) → cnt + ((List.range k).filter (hit D aw x y yr tn t)).length = hitN D aw x y yr tn t → ((r = -1 ∧ ∀ j, k ≤ j → j < 80 → hit D aw x y yr tn t j = false) ∨ ∃ b, k ≤ b ∧ b < 80 ∧ r = nI b ∧ hit D aw x y yr tn t b = true ∧ ∀ j, k ≤ j → j < b → hit D aw x y yr tn t j = false) → V_X12_whose_101 G Q (k + 1) m (nI l) (nI s) (nI i) what (nI cnt) r w u := by
  have hM' := hM
  obtain ⟨m0, mk, _, _, _, _, ⟨a1, a2, a3⟩, _⟩ := hM'
  have hM3' := hM3
  obtain ⟨_, _, _, _, _, _, _, ⟨t1, t2, t3⟩, _⟩ := hM3'
  have el : (nI l).toNatClampNeg = l := nI_clamp (by omega)
  have e1 : (12 : Int32) * nI s + nI i = nI (12 * s + i) := by
    rw [show (12 : Int32) * nI s = nI (12 * s) from pk_mul 12 s, nI_add]
  have e2 : (nI (12 * s + i)).toNatClampNeg = 12 * s + i := nI_clamp (by omega)
  have hv : aI D ≠ 0 := by
    intro c
    have := hD.2.2.2.2.1
    rw [c] at this
    exact absurd this.1 (by decide)
  intro k
  induction k with
  | zero =>
    intro cnt r w hk hw hc hr
    show V_X12_whose_101_B G Q (V_X12_whose_101 G Q 0) m (nI l) (nI s) (nI i) what (nI cnt) r w u
    unfold V_X12_whose_101_B
    have ew : w = -1 := by rw [hw]; decide
    subst ew
    refine ⟨fun _ => ⟨fun c => ?_, fun c => hQ1 c r ?_⟩, fun c => absurd (by decide) c⟩
    · have : cnt = hitN D aw x y yr tn t := by simpa using hc
      rw [this]
      exact hQ0 c
    · rcases hr with ⟨h1, h2⟩ | ⟨b, h1, h2, h3, h4, h5⟩
      · exact Or.inl ⟨h1, fun j hj => h2 j (by omega) hj⟩
      · exact Or.inr ⟨b, h2, h3, h4, fun j hj => h5 j (by omega) hj⟩
  | succ k ih =>
    intro cnt r w hk hw hc hr
    rw [pk_m1] at hw
    subst hw
    rw [List.range_succ, List.filter_append, List.length_append] at hc
    have no : hit D aw x y yr tn t k = false → V_X12_whose_152 G Q (V_X12_whose_101 G Q (k + 1)) m (nI l) (nI s) (nI i) what (nI cnt) r (nI k) u := by
      intro hh
      unfold V_X12_whose_152
      intro z hz
      rw [List.filter_cons_of_neg (by rw [hh]; decide), List.filter_nil] at hc
      refine ih cnt r z (by omega) hz (by simpa using hc) ?_
      rcases hr with ⟨h1, h2⟩ | ⟨b, h1, h2, h3, h4, h5⟩
      · refine Or.inl ⟨h1, fun j h3 h4 => ?_⟩
        by_cases q : j = k
        · rw [q]; exact hh
        · exact h2 j (by omega) h4
      · refine Or.inr ⟨b, by omega, h2, h3, h4, fun j h6 h7 => ?_⟩
        by_cases q : j = k
        · rw [q]; exact hh
        · exact h5 j (by omega) h7
    show V_X12_whose_101_B G Q (V_X12_whose_101 G Q (k + 1)) m (nI l) (nI s) (nI i) what (nI cnt) r (nI k) u
    unfold V_X12_whose_101_B
    refine ⟨fun c => absurd c (nI_pos (by omega)), fun _ => ⟨mk, s_X12_isHeard hM hM2 hl hC hT (by omega) ⟨fun c => ?_, fun c => ?_⟩⟩⟩
    · rw [bI_0] at c
      exact no (by unfold hit; rw [c]; rfl)
    · have c' : mHd D aw x y yr tn (hE D) k = true := by
        cases q : mHd D aw x y yr tn (hE D) k
        · exact absurd (bI_0.mpr q) c
        · rfl
      have hst : stE D aw x y yr tn k ≠ -1 := by
        intro q
        unfold mHd at c'
        simp [q] at c'
      rw [a3, a1, a2, el, hC.2.2.2.2.1]
      refine ⟨by omega, rfl, vp_in_nI hl (by omega), s_X12_tickOf hD hM hM2 hT hx hy (by omega) hst hv ?_⟩
      rw [t3, t1, t2, e1, e2, ht]
      refine ⟨by omega, rfl, vp_in_nI (by omega) (by omega), fun c2 z hz => ?_, fun c2 => no (by unfold hit; rw [c']; simp [c2])⟩
      have hh : hit D aw x y yr tn t k = true := by unfold hit; rw [c']; simp [c2]
      unfold V_X12_whose_152
      intro z2 hz2
      rw [hz, nI_1]
      rw [List.filter_cons_of_pos hh, List.filter_nil] at hc
      refine ih (cnt + 1) (nI k) z2 (by omega) hz2 ?_ (Or.inr ⟨k, Nat.le_refl _, by omega, rfl, hh, fun j h1 h2 => absurd h2 (by omega)⟩)
      simp only [List.length_singleton] at hc
      omega
end MWHOSE
