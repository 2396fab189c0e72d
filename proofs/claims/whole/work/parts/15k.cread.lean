/-! A TEXT read whole, by the class -/
section CREAD
variable {G : Gx} {u : Mm} {c : Nat → Nat} {n : Nat}
theorem c_line {K : Mm → Prop} {z a : Nat} {t : Tk} {D : Ld} {hb ab : Bool} (h : HC0 G u z) (hn : n ≤ 700) (hc : ∀ i, c i < 256) (hT : CT z c n t u) (h0 : kC t = 0) (ra : gR u (z + 1) 3 = a) (ha : z + 3 ≤ a) (hL : LR G u a) (hC : CL u a D) (hD : okD D) (h4 : gI u (z + 1) 4 = bI hb) (h5 : gI u (z + 1) 5 = bI ab) (hQ : ∀ u', Fx (inL4 z a) u u' → CT z c n (lnT c n D hb ab t) u' → (kC (lnT c n D hb ab t) = 0 → CL u' a (lnD c n D t) ∧ gI u' (z + 1) 4 = bI (lnH c n hb t) ∧ gI u' (z + 1) 5 = bI (lnA c n ab t)) → K u') :
    V_X8_isWord G (z + 1) (gS G 2) u (fun (v_81 : Int32) (u_81 : Mm) => ((v_81 = 0 → V_X8_isWord G (z + 1) (gS G 4) u_81 (fun (v_98 : Int32) (u_98 : Mm) => ((v_98 = 0 → V_X8_isWord G (z + 1) (gS G 5) u_98 (fun (v_115 : Int32) (u_115 : Mm) => ((v_115 = 0 → V_X8_isWord G (z + 1) (gS G 7) u_115 (fun (v_131 : Int32) (u_131 : Mm) => ((v_131 = 0 → V_X8_isWord G (z + 1) (gS G 8) u_131 (fun (v_147 : Int32) (u_147 : Mm) => ((v_147 = 0 → V_X8_isWord G (z + 1) (gS G 9) u_147 (fun (v_163 : Int32) (u_163 : Mm) => ((v_163 = 0 → V_X8_refuse G (z + 1) (1 : Int32) u_163 (fun (u_178 : Mm) => K u_178)) ∧ (¬ v_163 = 0 → V_X8_readAir G (z + 1) u_163 (fun (u_170 : Mm) => K u_170))))) ∧ (¬ v_147 = 0 → V_X8_readHears G (z + 1) u_147 (fun (u_154 : Mm) => K u_154))))) ∧ (¬ v_131 = 0 → V_X8_readWood G (z + 1) u_131 (fun (u_138 : Mm) => K u_138))))) ∧ (¬ v_115 = 0 → V_X8_readBarn G (z + 1) u_115 (fun (u_122 : Mm) => K u_122))))) ∧ (¬ v_98 = 0 → V_X8_readWall G (z + 1) (0 : Int32) u_98 (fun (u_106 : Mm) => K u_106))))) ∧ (¬ v_81 = 0 → V_X8_readWall G (z + 1) (1 : Int32) u_81 (fun (u_89 : Mm) => K u_89)))) := by
  have e := wh_eq (c := c) (n := n) (t := t)
  have LtoL4 : ∀ b i, inL z a b i → inL4 z a b i := fun b i q => by unfold inL at q; unfold inL4; omega
  -- a line of a thing
  have thing : ∀ k D', wh c n t = k → k < 4 → lnD c n D t = D' → ∀ u', Fx (inL z a) u u' → CT z c n (lnT c n D hb ab t) u' → (kC (lnT c n D hb ab t) = 0 → CL u' a D') → K u' := by
    intro k D' ek k4 eD u' f T L
    refine hQ u' (f.mono LtoL4) T (fun q => ⟨by rw [eD]; exact L q, ?_, ?_⟩)
    · unfold lnH
      rw [if_neg (by omega), f.2 _ _ (by unfold inL; omega)]; exact h4
    · unfold lnA
      rw [if_neg (by omega), f.2 _ _ (by unfold inL; omega)]; exact h5
  refine c_isWord (by omega) h hn hc hT (fun w0 => ⟨fun r => absurd r (by decide), fun _ => ?_⟩) (fun w0 => ⟨fun _ => ?_, fun r => absurd rfl r⟩)
  · rw [if_pos w0] at e
    have eT : lnT c n D hb ab t = ln0 c n D t := by unfold lnT; rw [e]; rfl
    have eD : lnD c n D t = ldW D (wlV c n (nI 0) (nxt c n t)) := by unfold lnD; rw [e]; rfl
    rw [eT] at thing
    exact c_readWall (lv := nI 0) h hn hc hT h0 ra ha hL hC hD (by decide) (thing 0 _ e (by omega) eD)
  rw [if_neg (by rw [w0]; decide)] at e
  refine c_isWord (by omega) h hn hc hT (fun w0 => ⟨fun r => absurd r (by decide), fun _ => ?_⟩) (fun w0 => ⟨fun _ => ?_, fun r => absurd rfl r⟩)
  · rw [if_pos w0] at e
    have eT : lnT c n D hb ab t = ln0 c n D t := by unfold lnT; rw [e]; rfl
    have eD : lnD c n D t = ldW D (wlV c n (nI 1) (nxt c n t)) := by unfold lnD; rw [e]; rfl
    rw [eT] at thing
    exact c_readWall (lv := nI 1) h hn hc hT h0 ra ha hL hC hD (by decide) (thing 1 _ e (by omega) eD)
  rw [if_neg (by rw [w0]; decide)] at e
  refine c_isWord (by omega) h hn hc hT (fun w0 => ⟨fun r => absurd r (by decide), fun _ => ?_⟩) (fun w0 => ⟨fun _ => ?_, fun r => absurd rfl r⟩)
  · rw [if_pos w0] at e
    have eT : lnT c n D hb ab t = ln2 c n D t := by unfold lnT; rw [e]; rfl
    have eD : lnD c n D t = ldB D (bnV c n (nxt c n t)) := by unfold lnD; rw [e]; rfl
    rw [eT] at thing
    exact c_readBarn h hn hc hT h0 ra ha hL hC hD (thing 2 _ e (by omega) eD)
  rw [if_neg (by rw [w0]; decide)] at e
  refine c_isWord (by omega) h hn hc hT (fun w0 => ⟨fun r => absurd r (by decide), fun _ => ?_⟩) (fun w0 => ⟨fun _ => ?_, fun r => absurd rfl r⟩)
  · rw [if_pos w0] at e
    have eT : lnT c n D hb ab t = ln3 c n D t := by unfold lnT; rw [e]; rfl
    have eD : lnD c n D t = ldO D (wdVs c n (nxt c n t)) := by unfold lnD; rw [e]; rfl
    rw [eT] at thing
    exact c_readWood h hn hc hT h0 ra ha hL hC hD (thing 3 _ e (by omega) eD)
  rw [if_neg (by rw [w0]; decide)] at e
  refine c_isWord (by omega) h hn hc hT (fun w0 => ⟨fun r => absurd r (by decide), fun _ => ?_⟩) (fun w0 => ⟨fun _ => ?_, fun r => absurd rfl r⟩)
  · rw [if_pos w0] at e
    have eT : lnT c n D hb ab t = ln4 c n hb t := by unfold lnT; rw [e]; rfl
    have eD : lnD c n D t = ldH D (nI (rdV c n (nxt c n t))) := by unfold lnD; rw [e]; rfl
    rw [eT] at hQ
    refine c_readHears (b := hb) h hn hc hT h0 ra ha hL hC hD h4 (fun u' f T L => hQ u' f T (fun q => ⟨by rw [eD]; exact (L q).1, ?_, ?_⟩))
    · unfold lnH
      rw [if_pos e]; exact (L q).2.1
    · unfold lnA
      rw [if_neg (by omega), (L q).2.2]; exact h5
  rw [if_neg (by rw [w0]; decide)] at e
  refine c_isWord (by omega) h hn hc hT (fun w0 => ⟨fun r => absurd r (by decide), fun _ => ?_⟩) (fun w0 => ⟨fun _ => ?_, fun r => absurd rfl r⟩)
  · rw [if_pos w0] at e
    have eT : lnT c n D hb ab t = ln5 c n ab t := by unfold lnT; rw [e]; rfl
    have eD : lnD c n D t = ldA D (nI (rdV c n (nxt c n t))) := by unfold lnD; rw [e]; rfl
    rw [eT] at hQ
    refine c_readAir (b := ab) h hn hc hT h0 ra ha hL hC hD h5 (fun u' f T L => hQ u' f T (fun q => ⟨by rw [eD]; exact (L q).1, ?_, ?_⟩))
    · unfold lnH
      rw [if_neg (by omega), (L q).2.2]; exact h4
    · unfold lnA
      rw [if_pos e]; exact (L q).2.1
  rw [if_neg (by rw [w0]; decide)] at e
  have eT : lnT c n D hb ab t = flt4 c n 1 t := by unfold lnT; rw [e]; rfl
  rw [eT] at hQ
  exact c_refuse (k := 1) h hT h0 (by omega) (by omega) (fun u' f T => hQ u' (f.mono (fun b i q => by unfold inC6 at q; unfold inL4; omega)) T (fun r => absurd r (by unfold kC flt4; omega)))
theorem c_lines {Q : Int32 → Mm → Prop} {z a : Nat} (h : HC0 G u z) (hn : n ≤ 700) (hc : ∀ i, c i < 256) (ra : gR u (z + 1) 3 = a) (ha : z + 3 ≤ a) (hL : LR G u a) : ∀ (f : Nat) (t : Tk) (D : Ld) (hb ab : Bool) (i : Nat) (w : Mm), 1 ≤ f → i ≤ n + 1 → Fx (inL4 z a) u w → CT z c n t w → (kC t = 0 → CL w a D ∧ okD D ∧ gI w (z + 1) 4 = bI hb ∧ gI w (z + 1) 5 = bI ab ∧ n < kE t + f ∧ i ≤ kE t) → (∀ w', Fx (inL4 z a) u w' → CT z c n (rdF c n f t D hb ab).1 w' → (kC (rdF c n f t D hb ab).1 = 0 → CL w' a (rdF c n f t D hb ab).2 ∧ okD (rdF c n f t D hb ab).2) → Q (nI (kC (rdF c n f t D hb ab).1)) w') → V_X8_readLand_55 G Q f (z + 1) (nI i) w := by
  intro f
  induction f with
  | zero => intro t D hb ab i w h1; omega
  | succ f ih =>
    intro t D hb ab i w _ hi F T h' hQ
    show V_X8_readLand_55_B G Q (V_X8_readLand_55 G Q f) (z + 1) (nI i) w
    unfold V_X8_readLand_55_B
    unfold rdF at hQ
    have ok := T.2.1
    have k4 := tK_le c n (kE t)
    have k8 : kd G (z + 1) = 8 := h.2.1.2.1
    rw [T.1.1, T.2.2.1]
    by_cases q0 : kC t = 0
    · obtain ⟨L, hD, b4, b5, lt, le⟩ := h' q0
      obtain ⟨_, g2, _⟩ := T.2.2.2.2 q0
      rw [g2]
      refine ⟨k8, fun q => ?_, fun _ => ⟨fun q => ?_, fun q => ⟨fun _ => ?_, fun r => absurd (by rw [q0]; rfl) r⟩⟩⟩
      · have := (nI_ltI (by omega) (by omega)).mp q
        have := ok.1
        omega
      · have e4 : tK c n (kE t) = 4 := nI_inj (b := 4) (by omega) (by omega) q
        rw [if_neg (by omega)] at hQ
        exact hQ w F T (fun _ => ⟨L, hD⟩)
      · have n4 : tK c n (kE t) ≠ 4 := fun r => q (by rw [r]; rfl)
        rw [if_pos ⟨q0, n4⟩] at hQ
        have lt2 : kE t < n := by
          have : tS c n (kE t) < n := by
            unfold tK at n4
            split at n4
            · assumption
            · exact absurd rfl n4
          exact Nat.lt_of_le_of_lt (tS_bd ok.1).1 this
        refine c_line (K := fun w2 => V_X8_readLand_181 G Q (V_X8_readLand_55 G Q f) (z + 1) (nI i) w2) (h.fx F) hn hc T q0 (by rw [F.gR]; exact ra) ha (hL.keep (fun b j _ _ => F.gR b j)) L hD b4 b5 (fun u' f' T' L' => ?_)
        unfold V_X8_readLand_181
        intro y hy
        rw [hy, nI_1]
        refine ih _ _ _ _ (i + 1) u' (by omega) (by omega) (F.trans f') T' (fun r => ⟨(L' r).1, lnD_ok hD r, (L' r).2.1, (L' r).2.2, ?_, ?_⟩) hQ
        · have := lnT_up ok r
          omega
        · have := lnT_up ok r
          omega
    · rw [if_neg (fun r => q0 r.1)] at hQ
      have fin := hQ w F T (fun r => absurd r q0)
      exact ⟨k8, fun _ => fin, fun _ => ⟨fun _ => fin, fun _ => ⟨fun r => absurd (nI_inj (b := 0) (by have := ok.2.1; omega) (by omega) r) q0, fun _ => fin⟩⟩⟩
end CREAD
