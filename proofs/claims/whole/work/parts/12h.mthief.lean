/-! THE THIEF: his row, in the model -/
def uLs (D : Ld) (x y hX hY : Int32) (n : Nat) : List Int32 := ((List.range n).filter (mHd D 0 x y 0 0 (hE D))).map (tv D x y hX hY)
theorem uLs_s {D : Ld} {x y hX hY : Int32} {n : Nat} : uLs D x y hX hY (n + 1) = uLs D x y hX hY n ++ (if mHd D 0 x y 0 0 (hE D) n then [tv D x y hX hY n] else []) := by
  unfold uLs
  rw [List.range_succ, List.filter_append, List.map_append]
  by_cases c : mHd D 0 x y 0 0 (hE D) n = true
  · simp [c]
  · simp [c]
theorem uLs_len (D : Ld) (x y hX hY : Int32) (n : Nat) : (uLs D x y hX hY n).length ≤ n := by
  unfold uLs
  rw [List.length_map]
  have := List.length_filter_le (mHd D 0 x y 0 0 (hE D)) (List.range n)
  rw [List.length_range] at this
  exact this
section MTHIEF
variable {G : Gx}
theorem tt_loop {Q : Mm → Prop} {u0 : Mm} {D : Ld} (hD : okD D) {m l : Nat} {x y hX hY : Int32} (hM : MR G u0 m) (hM2 : MR2 G u0 m) (hl : l < 7) (hC : ML u0 m l D) (hx : btw 0 40 x) (hy : btw 0 40 y) (h1 : btw 0 40 hX) (h2 : btw 0 40 hY) (hQ : ∀ u', Fx (inT m) u0 u' → gI u' m 26 = nI (uLs D x y hX hY 16).length → Rw u' (m + 14) 0 (uLs D x y hX hY 16) → Q u') : ∀ (n k : Nat) (u : Mm), k + n = 16 → Fx (inT m) u0 u → TT D 0 x y 0 0 m u → gI u m 26 = nI (uLs D x y hX hY k).length → Rw u (m + 14) 0 (uLs D x y hX hY k) → V_X12_tellThief_36 G Q (n + 1) m (nI l) x y hX hY (rtD x y hX hY / aI D) (nI k) u := by
  have hv : aI D ≠ 0 := by
    intro c
    have := hD.2.2.2.2.1
    rw [c] at this
    exact absurd this.1 (by decide)
  intro n
  induction n with
  | zero =>
    intro k u hk hF hT h26 hR
    show V_X12_tellThief_36_B G Q (V_X12_tellThief_36 G Q 0) m (nI l) x y hX hY _ (nI k) u
    unfold V_X12_tellThief_36_B
    rw [show k = 16 by omega] at *
    exact ⟨fun _ => hQ u hF h26 hR, fun c => absurd (nI_le (a := 16) (b := 16) (by omega) (by omega)) c⟩
  | succ n ih =>
    intro k u hk hF hT h26 hR
    have hM' := hF.kMR hM
    have hM2' := hF.kMR2 hM2
    have hC' := hC.fx hF (fun a j c => by unfold inT at c; omega)
    have hM'' := hM'
    obtain ⟨m0, mk, _, _, _, _, ⟨a1, a2, a3⟩, _⟩ := hM''
    have el : (nI l).toNatClampNeg = l := nI_clamp (by omega)
    have hlen := uLs_len D x y hX hY k
    show V_X12_tellThief_36_B G Q (V_X12_tellThief_36 G Q (n + 1)) m (nI l) x y hX hY _ (nI k) u
    unfold V_X12_tellThief_36_B
    refine ⟨fun c => ?_, fun _ => ⟨mk, s_X12_isHeard hM' hM2' hl hC' hT (by omega) ⟨fun c => ?_, fun c => ?_⟩⟩⟩
    · have := (nI_leI (a := 16) (b := k) (by omega) (by omega)).mp c
      omega
    · rw [bI_0] at c
      unfold V_X12_tellThief_197
      intro z hz
      rw [hz, nI_1]
      have st := ih (k + 1) u (by omega) hF hT
      rw [uLs_s, c] at st
      simp only [Bool.false_eq_true, if_false, List.append_nil] at st
      exact st h26 hR
    · have c' : mHd D 0 x y 0 0 (hE D) k = true := by
        cases q : mHd D 0 x y 0 0 (hE D) k
        · exact absurd (bI_0.mpr q) c
        · rfl
      have hst : stE D 0 x y 0 0 k ≠ -1 := by
        intro q
        unfold mHd at c'
        simp [q] at c'
      have fin : ∀ fx fy : Int32, fx = fX D x k → fy = fY D y k → btw 0 40 fx → btw 0 40 fy → V_X12_tellThief_160 G Q (V_X12_tellThief_36 G Q (n + 1)) m (nI l) x y hX hY (rtD x y hX hY / aI D) (nI k) fx fy u := by
        intro fx fy e1 e2 b1 b2
        subst e1 e2
        unfold V_X12_tellThief_160
        refine s_X12_far hx hy b1 b2 (s_X12_far b1 b2 h1 h2 ?_)
        rw [a3, a1, a2, el, hC'.2.2.2.2.1]
        refine ⟨mk, by omega, rfl, vp_in_nI hl (by omega), hv, s_X12_lay hM' hM2' (by omega) h26 hR (fun u' f' g' r' => ?_)⟩
        unfold V_X12_tellThief_197
        intro z hz
        rw [hz, nI_1]
        have st := ih (k + 1) u' (by omega) (hF.trans (f'.mono (fun b j q => by unfold inT; omega))) (hT.same (fun b j q => f'.2 b j (by omega)))
        rw [uLs_s, if_pos c', List.length_append] at st
        exact st g' (r'.perm (List.perm_append_singleton _ _).symm)
      rcases num_in hst (by omega) with ⟨k8, kw⟩ | ⟨k8, kb⟩
      · obtain ⟨_, bat, _⟩ := hD.2.2.2.2.2.1 k kw
        have lt8 : nI k < (8 : Int32) := nI_lt (b := 8) k8 (by omega)
        refine ⟨fun q => absurd ((nI_leI (a := 8) (b := k) (by omega) (by omega)).mp q) (by omega), fun _ => m_wall (f := 0) hM' hl hD hC' kw (by decide) ⟨fun g => ?_, fun g => ?_⟩⟩
        · unfold V_X12_tellThief_80 V_X12_tellThief_120
          exact ⟨fun _ => ⟨fun q => absurd q (by decide), fun _ => ⟨fun _ => ⟨fun q => absurd q (by decide), fun _ => ⟨mk, m_wall (f := 1) hM' hl hD hC' kw (by decide) (fin _ _ (by unfold fX ftX; rw [if_pos k8, if_pos g]) (by unfold fY ftY; rw [if_pos k8, if_pos g]) hx bat)⟩⟩, fun q => absurd lt8 q⟩⟩, fun q => absurd lt8 q⟩
        · unfold V_X12_tellThief_79 V_X12_tellThief_80 V_X12_tellThief_120
          exact ⟨fun _ => ⟨fun _ => ⟨mk, m_wall (f := 1) hM' hl hD hC' kw (by decide) ⟨fun _ => ⟨fun _ => fin _ _ (by unfold fX ftX; rw [if_pos k8, if_neg g]) (by unfold fY ftY; rw [if_pos k8, if_neg g]) bat hy, fun q => absurd rfl q⟩, fun q => absurd lt8 q⟩⟩, fun q => absurd rfl q⟩, fun q => absurd lt8 q⟩
      · obtain ⟨b0, b1, _⟩ := hD.2.2.2.2.2.2.1 (k - 8) (by omega)
        have ge8 : ¬ nI k < (8 : Int32) := nI_nlt (b := 8) k8 (by omega)
        have ek : nI k - (8 : Int32) = nI (k - 8) := pk_sub (a := k) (b := 8) k8
        refine ⟨fun _ => ?_, fun q => absurd (nI_le (a := 8) k8 (by omega)) q⟩
        unfold V_X12_tellThief_79 V_X12_tellThief_80 V_X12_tellThief_120
        rw [ek]
        exact ⟨fun q => absurd q ge8, fun _ => ⟨mk, m_barn (f := 0) hM' hl hD hC' (by omega) (by decide) ⟨fun q => absurd q ge8, fun _ => ⟨mk, m_barn (f := 1) hM' hl hD hC' (by omega) (by decide) (fin _ _ (by unfold fX; rw [if_neg (by omega)]) (by unfold fY; rw [if_neg (by omega)]) b0 b1)⟩⟩⟩⟩
end MTHIEF
