/-! LINES of a text: woods, HEARS and AIR, in the class -/
def ln4 (c : Nat → Nat) (n : Nat) (b : Bool) (t : Tk) : Tk := if b then flt4 c n 4 t else sgT c n (rdT c n 0 1000 0 (nxt c n t))
def ln5 (c : Nat → Nat) (n : Nat) (b : Bool) (t : Tk) : Tk := if b then flt4 c n 4 t else sgT c n (rdT c n 50 150 50 (nxt c n t))
section LINES2
variable {G : Gx} {u : Mm} {c : Nat → Nat} {n : Nat}
theorem c_readWood {Q : Mm → Prop} {z a : Nat} {t : Tk} {D : Ld} (h : HC0 G u z) (hn : n ≤ 700) (hc : ∀ i, c i < 256) (hT : CT z c n t u) (h0 : kC t = 0) (ra : gR u (z + 1) 3 = a) (ha : z + 3 ≤ a) (hL : LR G u a) (hC : CL u a D) (hD : okD D) (hQ : ∀ u', Fx (inL z a) u u' → CT z c n (ln3 c n D t) u' → (kC (ln3 c n D t) = 0 → CL u' a (ldO D (wdVs c n (nxt c n t)))) → Q u') : V_X8_readWood G (z + 1) u Q := by
  have k8 : kd G (z + 1) = 8 := h.2.1.2.1
  obtain ⟨l0, lk, l1, l1n, l1r, l2, l2n, l2r, l3, l3n, l3r, lw, lo⟩ := id hL
  have cnt := hC.2.2.1
  have n6 := hD.2.2.1
  refine ⟨k8, by rw [ra]; omega, by rw [ra]; exact lk, ?_⟩
  rw [ra, cnt]
  refine ⟨fun q => ?_, fun q => ?_⟩
  · have q : nO D < 4 := (nI_ltI (b := 4) (by omega) (by omega)).mp q
    unfold ln3 at hQ
    rw [if_pos q] at hQ
    obtain ⟨w1, w2, w3, w4, w5⟩ := lo (nO D) q
    refine c_step h hn hc hT h0 (fun u1 f1 T1 => ?_)
    have e1 : gI u1 a 5 = nI (nO D) := by rw [f1.2 _ _ (by unfold inC6; omega)]; exact cnt
    rw [f1.gR, ra, f1.gR, l3r, e1, f1.gR, nI_clamp (by omega), w2]
    refine ⟨by omega, lk, by omega, l3, by rw [l3n]; exact vp_in_nI (by omega) (by omega), by omega, fun x hx => ?_⟩
    subst hx
    have F2 : Fx (inX z (a + 16 + 2 * nO D)) u u1 := f1.mono c6_X
    refine c_num (x := a + 16 + 2 * nO D) (lo := 0) (hi := 40) (fl := 0) (b := 0) (j := 0) (V := wdVs c n (nxt c n t)) (h.fx F2) hn hc T1 rfl rfl (by omega) (by omega) (fun _ v _ hv => nI_fl (fl := 0) (by omega) hv) (fun _ f hf => absurd hf (by omega)) rfl (by omega) rfl (fun v _ _ go1 => ⟨w1, fun u3 e3 => ?_⟩)
    obtain ⟨f3, T3, H3⟩ := go1 u3 e3
    have F3 := F2.trans (f3.mono sto_X)
    clear go1 e3 f3
    refine c_num (x := a + 16 + 2 * nO D) (lo := 0) (hi := 40) (fl := 0) (b := 0) (j := 1) (V := wdVs c n (nxt c n t)) (h.fx F3) hn hc T3 rfl rfl (by omega) (by omega) (fun _ v _ hv => nI_fl (fl := 0) (by omega) hv) H3 rfl (by omega) rfl (fun v _ _ go1 u4 e4 => ?_)
    obtain ⟨f4, T4, H4⟩ := go1 u4 e4
    have F4 := F3.trans (f4.mono sto_X)
    clear go1 e4 f4
    refine c_num (x := a + 16 + 2 * nO D) (lo := 0) (hi := 40) (fl := rdV c n (nxt c n t)) (b := 0) (j := 2) (V := wdVs c n (nxt c n t)) (h.fx F4) hn hc T4 rfl rfl (by omega) (by omega) (fun q1 v _ hv => ?_) H4 rfl (by omega) rfl (fun v _ _ go1 u5 e5 => ?_)
    · have v4 : gI u4 (a + 16 + 2 * nO D) 0 = nI (rdV c n (nxt c n t)) := H4 q1 0 (by omega)
      rw [v4]
      have : rdV c n (nxt c n t) ≤ 40 := (rdT_0 (rdT_0 q1).1).2.2.1
      exact nI_fl (by omega) hv
    obtain ⟨f5, T5, H5⟩ := go1 u5 e5
    have F5 := F4.trans (f5.mono sto_X)
    clear go1 e5 f5
    refine c_num (x := a + 16 + 2 * nO D) (lo := 0) (hi := 40) (fl := rdV c n (wd1 c n (nxt c n t))) (b := 0) (j := 3) (V := wdVs c n (nxt c n t)) (h.fx F5) hn hc T5 rfl rfl (by omega) (by omega) (fun q1 v _ hv => ?_) H5 rfl (by omega) rfl (fun v _ _ go1 u6 e6 => ?_)
    · have v4 : gI u5 (a + 16 + 2 * nO D) 1 = nI (rdV c n (wd1 c n (nxt c n t))) := H5 q1 1 (by omega)
      rw [v4]
      have : rdV c n (wd1 c n (nxt c n t)) ≤ 40 := (rdT_0 (rdT_0 q1).1).2.2.1
      exact nI_fl (by omega) hv
    obtain ⟨f6, T6, H6⟩ := go1 u6 e6
    have F6 := F5.trans (f6.mono sto_X)
    clear go1 e6 f6
    have T6 : CT z c n (wdI c n (nxt c n t) 0) u6 := T6
    suffices go : ∀ (k j : Nat) (w : Mm), j + k = 3 → Fx (fun b i => inX z (a + 17 + 2 * nO D) b i) u6 w → CT z c n (wdI c n (nxt c n t) j) w → (kC (wdI c n (nxt c n t) j) = 0 → kC (wdI c n (nxt c n t) 0) = 0 ∧ Hd w (a + 17 + 2 * nO D) 0 j (fun f => wdVs c n (nxt c n t) (4 + f))) → V_X8_readWood_93 G Q (k + 1) (z + 1) (a + 16 + 2 * nO D) (nI j) w from ⟨4, go 3 0 u6 rfl Fx.rfl' T6 (fun q0 => ⟨q0, fun f hf => absurd hf (by omega)⟩)⟩
    intro k
    induction k with
    | zero =>
      intro j w hj f T H
      have hj : j = 3 := by omega
      subst hj
      show V_X8_readWood_93_B G Q (V_X8_readWood_93 G Q 0) (z + 1) (a + 16 + 2 * nO D) (nI 3) w
      unfold V_X8_readWood_93_B
      refine ⟨fun _ => ⟨k8, ?_⟩, fun r => absurd (nI_le (a := 3) (b := 3) (by omega) (by omega)) r⟩
      refine c_readSign ((h.fx F6).fx f) hn hc T (fun u7 f7 T7 => ?_)
      have g7 : ∀ b i, gR u7 b i = gR u b i := fun b i => by rw [f7.gR, f.gR, F6.gR]
      rw [g7, ra]
      refine ⟨by omega, lk, fun u8 e8 => ?_⟩
      have y3 : gI u7 a 5 = nI (nO D) := by rw [f7.2 _ _ (by unfold inC6; omega), f.2 _ _ (by unfold inX inC6; omega), F6.2 _ _ (by unfold inX inC6; omega)]; exact cnt
      rw [y3, nI_1] at e8
      have f8 : Fx (fun b i => b = a ∧ i = 5) u7 u8 := by rw [e8]; exact Fx.put ⟨rfl, rfl⟩
      refine hQ u8 (((F6.mono (fun b i q => by unfold inX inC6 at q; unfold inL; omega)).trans (f.mono (fun b i q => by unfold inX inC6 at q; unfold inL; omega))).trans ((f7.mono c6_L).trans (f8.mono (fun b i q => by unfold inL; omega)))) (T7.fx f8 (fun b i q => by omega)) (fun q0 => ?_)
      obtain ⟨qa, H7⟩ := H (sgT_0 q0)
      refine hC.addO hD q (fun b i g1 g2 g3 g4 g5 => ?_) ?_ (fun f' g1 => ?_) (fun f' g1 => ?_)
      · rw [f8.2 _ _ (by omega), f7.2 _ _ (by unfold inC6; omega), f.2 _ _ (by unfold inX inC6; omega), F6.2 _ _ (by unfold inX inC6; omega)]
      · rw [e8, gI_sI, if_pos ⟨rfl, rfl⟩]
      · rw [f8.2 _ _ (by omega), f7.2 _ _ (by unfold inC6; omega), f.2 _ _ (by unfold inX inC6; omega)]
        have : gI u6 (a + 16 + 2 * nO D) (0 + f') = wdVs c n (nxt c n t) f' := H6 qa f' g1
        rw [Nat.zero_add] at this
        exact this
      · rw [f8.2 _ _ (by omega), f7.2 _ _ (by unfold inC6; omega)]
        have : gI w (a + 17 + 2 * nO D) (0 + f') = wdVs c n (nxt c n t) (4 + f') := H7 f' g1
        rw [Nat.zero_add] at this
        exact this
    | succ k ih =>
      intro j w hj f T H
      show V_X8_readWood_93_B G Q (V_X8_readWood_93 G Q (k + 1)) (z + 1) (a + 16 + 2 * nO D) (nI j) w
      unfold V_X8_readWood_93_B
      have gw : gR w (a + 16 + 2 * nO D) 4 = a + 17 + 2 * nO D := by rw [f.gR, F6.gR]; exact w3
      refine ⟨fun r => absurd ((nI_leI (a := 3) (by omega) (by omega)).mp r) (by omega), fun _ => ⟨w1, by omega, k8, ?_⟩⟩
      rw [gw, nI_clamp (by omega)]
      refine c_num (x := a + 17 + 2 * nO D) (lo := 0) (hi := 100) (fl := 0) (b := 0) (j := j) (V := fun f => wdVs c n (nxt c n t) (4 + f)) ((h.fx F6).fx f) hn hc T rfl rfl (by omega) (by omega) (fun _ v _ hv => nI_fl (fl := 0) (by omega) hv) (fun q0 => (H q0).2) ?_ (by omega) (Nat.zero_add j).symm (fun v _ _ go1 => ⟨w4, by rw [w5]; exact vp_in_nI (by omega) (by omega), fun u7 e7 y hy => ?_⟩)
      · show wdVs c n (nxt c n t) (4 + j) = _
        unfold wdVs
        rw [if_neg (by omega), if_neg (by omega), if_neg (by omega), if_neg (by omega), show 4 + j - 4 = j by omega]
      · obtain ⟨f7, T7, H7⟩ := go1 u7 e7
        rw [hy, nI_1]
        exact ih (j + 1) u7 (by omega) (f.trans (f7.mono sto_X)) T7 (fun q0 => ⟨(H (rdT_0 q0).1).1, H7 q0⟩)
  · unfold ln3 at hQ
    have q : ¬ nO D < 4 := fun r => q ((nI_ltI (b := 4) (by omega) (by omega)).mpr r)
    rw [if_neg q] at hQ
    exact c_refuse (k := 2) h hT h0 (by omega) (by omega) (fun u' f T => hQ u' (f.mono c6_L) T (fun r => absurd r (by unfold kC flt4; omega)))
def inL4 (z a : Nat) : Nat → Nat → Prop := fun b j => (b = z + 1 ∧ 4 ≤ j ∧ j ≤ 11) ∨ (a ≤ b ∧ b < a + 24)
theorem CL.setH {a : Nat} {v : Mm} {D : Ld} {x : Int32} (h : CL u a D) (hD : okD D) (f : ∀ b j, a ≤ b → b < a + 24 → ¬ (b = a ∧ j = 6) → gI v b j = gI u b j) (h3 : gI v a 6 = x) : CL v a (ldH D x) := by
  obtain ⟨h1, h2, h3', h4, h5, hw, hb, ho⟩ := h
  obtain ⟨c1, c2, c3, _⟩ := hD
  refine ⟨?_, ?_, ?_, h3, ?_, fun k hk => ?_, fun k hk g hg => ?_, fun k hk => ?_⟩
  · rw [f _ _ (by omega) (by omega) (by omega)]; exact h1
  · rw [f _ _ (by omega) (by omega) (by omega)]; exact h2
  · rw [f _ _ (by omega) (by omega) (by omega)]; exact h3'
  · rw [f _ _ (by omega) (by omega) (by omega)]; exact h5
  · have hk : k < nW D := hk
    refine ⟨?_, fun g g1 g2 => ?_⟩
    · rw [f _ _ (by omega) (by omega) (by omega)]; exact (hw k hk).1
    · rw [f _ _ (by omega) (by omega) (by omega)]; exact (hw k hk).2 g g1 g2
  · have hk : k < nB D := hk
    rw [f _ _ (by omega) (by omega) (by omega)]; exact hb k hk g hg
  · have hk : k < nO D := hk
    refine ⟨fun g hg => ?_, fun g hg => ?_⟩
    · rw [f _ _ (by omega) (by omega) (by omega)]; exact (ho k hk).1 g hg
    · rw [f _ _ (by omega) (by omega) (by omega)]; exact (ho k hk).2 g hg
theorem CL.setA {a : Nat} {v : Mm} {D : Ld} {x : Int32} (h : CL u a D) (hD : okD D) (f : ∀ b j, a ≤ b → b < a + 24 → ¬ (b = a ∧ j = 7) → gI v b j = gI u b j) (h3 : gI v a 7 = x) : CL v a (ldA D x) := by
  obtain ⟨h1, h2, h3', h4, h5, hw, hb, ho⟩ := h
  obtain ⟨c1, c2, c3, _⟩ := hD
  refine ⟨?_, ?_, ?_, ?_, h3, fun k hk => ?_, fun k hk g hg => ?_, fun k hk => ?_⟩
  · rw [f _ _ (by omega) (by omega) (by omega)]; exact h1
  · rw [f _ _ (by omega) (by omega) (by omega)]; exact h2
  · rw [f _ _ (by omega) (by omega) (by omega)]; exact h3'
  · rw [f _ _ (by omega) (by omega) (by omega)]; exact h4
  · have hk : k < nW D := hk
    refine ⟨?_, fun g g1 g2 => ?_⟩
    · rw [f _ _ (by omega) (by omega) (by omega)]; exact (hw k hk).1
    · rw [f _ _ (by omega) (by omega) (by omega)]; exact (hw k hk).2 g g1 g2
  · have hk : k < nB D := hk
    rw [f _ _ (by omega) (by omega) (by omega)]; exact hb k hk g hg
  · have hk : k < nO D := hk
    refine ⟨fun g hg => ?_, fun g hg => ?_⟩
    · rw [f _ _ (by omega) (by omega) (by omega)]; exact (ho k hk).1 g hg
    · rw [f _ _ (by omega) (by omega) (by omega)]; exact (ho k hk).2 g hg
theorem c_readHears {Q : Mm → Prop} {z a : Nat} {t : Tk} {D : Ld} {b : Bool} (h : HC0 G u z) (hn : n ≤ 700) (hc : ∀ i, c i < 256) (hT : CT z c n t u) (h0 : kC t = 0) (ra : gR u (z + 1) 3 = a) (ha : z + 3 ≤ a) (hL : LR G u a) (hC : CL u a D) (hD : okD D) (hb : gI u (z + 1) 4 = bI b) (hQ : ∀ u', Fx (inL4 z a) u u' → CT z c n (ln4 c n b t) u' → (kC (ln4 c n b t) = 0 → CL u' a (ldH D (nI (rdV c n (nxt c n t)))) ∧ gI u' (z + 1) 4 = 1 ∧ gI u' (z + 1) 5 = gI u (z + 1) 5) → Q u') : V_X8_readHears G (z + 1) u Q := by
  have k8 : kd G (z + 1) = 8 := h.2.1.2.1
  have lk := hL.2.1
  refine ⟨k8, ?_⟩
  rw [hb]
  unfold ln4 at hQ
  refine ⟨fun q u1 e1 => ?_, fun q => ?_⟩
  · have eb : b = false := bI_0.mp q
    rw [if_neg (by rw [eb]; decide)] at hQ
    have f1 : Fx (fun b i => b = z + 1 ∧ i = 4) u u1 := by rw [e1]; exact Fx.put ⟨rfl, rfl⟩
    have T1 := hT.fx f1 (fun b i q => by omega)
    refine c_step (h.fx f1) hn hc T1 h0 (fun u2 f2 T2 => ?_)
    rw [f2.gR, f1.gR, ra]
    refine ⟨by omega, c_readNumber (lo := 0) (hi := 1000) (fl := 0) ((h.fx f1).fx f2) hn hc T2 rfl rfl (by omega) (by omega) (fun _ v _ hv => nI_fl (fl := 0) (by omega) hv) (fun v u3 f3 T3 e3 => ⟨lk, fun u4 e4 => ?_⟩)⟩
    have f4 : Fx (fun b i => b = a ∧ i = 6) u3 u4 := by rw [e4]; exact Fx.put ⟨rfl, rfl⟩
    have T4 := T3.fx f4 (fun b i q => by omega)
    refine c_readSign ((((h.fx f1).fx f2).fx f3).fx f4) hn hc T4 (fun u5 f5 T5 => ?_)
    refine hQ u5 (((f1.mono (fun b i q => by unfold inL4; omega)).trans ((f2.trans f3).mono (fun b i q => by unfold inC6 at q; unfold inL4; omega))).trans ((f4.mono (fun b i q => by unfold inL4; omega)).trans (f5.mono (fun b i q => by unfold inC6 at q; unfold inL4; omega)))) T5 (fun q0 => ⟨hC.setH hD (fun b i g1 g2 g3 => ?_) ?_, ?_, ?_⟩)
    · rw [f5.2 _ _ (by unfold inC6; omega), f4.2 _ _ (by omega), f3.2 _ _ (by unfold inC6; omega), f2.2 _ _ (by unfold inC6; omega), f1.2 _ _ (by omega)]
    · rw [f5.2 _ _ (by unfold inC6; omega), e4, gI_sI, if_pos ⟨rfl, rfl⟩]
      exact e3 (sgT_0 q0)
    · rw [f5.2 _ _ (by unfold inC6; omega), f4.2 _ _ (by omega), f3.2 _ _ (by unfold inC6; omega), f2.2 _ _ (by unfold inC6; omega), e1, gI_sI, if_pos ⟨rfl, rfl⟩]
    · rw [f5.2 _ _ (by unfold inC6; omega), f4.2 _ _ (by omega), f3.2 _ _ (by unfold inC6; omega), f2.2 _ _ (by unfold inC6; omega), f1.2 _ _ (by omega)]
  · have eb : b = true := by cases b; exact absurd rfl q; rfl
    rw [if_pos eb] at hQ
    exact c_refuse (k := 4) h hT h0 (by omega) (by omega) (fun u' f T => hQ u' (f.mono (fun b i q => by unfold inC6 at q; unfold inL4; omega)) T (fun r => absurd r (by unfold kC flt4; omega)))
theorem c_readAir {Q : Mm → Prop} {z a : Nat} {t : Tk} {D : Ld} {b : Bool} (h : HC0 G u z) (hn : n ≤ 700) (hc : ∀ i, c i < 256) (hT : CT z c n t u) (h0 : kC t = 0) (ra : gR u (z + 1) 3 = a) (ha : z + 3 ≤ a) (hL : LR G u a) (hC : CL u a D) (hD : okD D) (hb : gI u (z + 1) 5 = bI b) (hQ : ∀ u', Fx (inL4 z a) u u' → CT z c n (ln5 c n b t) u' → (kC (ln5 c n b t) = 0 → CL u' a (ldA D (nI (rdV c n (nxt c n t)))) ∧ gI u' (z + 1) 5 = 1 ∧ gI u' (z + 1) 4 = gI u (z + 1) 4) → Q u') : V_X8_readAir G (z + 1) u Q := by
  have k8 : kd G (z + 1) = 8 := h.2.1.2.1
  have lk := hL.2.1
  refine ⟨k8, ?_⟩
  rw [hb]
  unfold ln5 at hQ
  refine ⟨fun q u1 e1 => ?_, fun q => ?_⟩
  · have eb : b = false := bI_0.mp q
    rw [if_neg (by rw [eb]; decide)] at hQ
    have f1 : Fx (fun b i => b = z + 1 ∧ i = 5) u u1 := by rw [e1]; exact Fx.put ⟨rfl, rfl⟩
    have T1 := hT.fx f1 (fun b i q => by omega)
    refine c_step (h.fx f1) hn hc T1 h0 (fun u2 f2 T2 => ?_)
    rw [f2.gR, f1.gR, ra]
    refine ⟨by omega, c_readNumber (lo := 50) (hi := 150) (fl := 50) ((h.fx f1).fx f2) hn hc T2 rfl rfl (by omega) (by omega) (fun _ v _ hv => nI_fl (fl := 50) (by omega) hv) (fun v u3 f3 T3 e3 => ⟨lk, fun u4 e4 => ?_⟩)⟩
    have f4 : Fx (fun b i => b = a ∧ i = 7) u3 u4 := by rw [e4]; exact Fx.put ⟨rfl, rfl⟩
    have T4 := T3.fx f4 (fun b i q => by omega)
    refine c_readSign ((((h.fx f1).fx f2).fx f3).fx f4) hn hc T4 (fun u5 f5 T5 => ?_)
    refine hQ u5 (((f1.mono (fun b i q => by unfold inL4; omega)).trans ((f2.trans f3).mono (fun b i q => by unfold inC6 at q; unfold inL4; omega))).trans ((f4.mono (fun b i q => by unfold inL4; omega)).trans (f5.mono (fun b i q => by unfold inC6 at q; unfold inL4; omega)))) T5 (fun q0 => ⟨hC.setA hD (fun b i g1 g2 g3 => ?_) ?_, ?_, ?_⟩)
    · rw [f5.2 _ _ (by unfold inC6; omega), f4.2 _ _ (by omega), f3.2 _ _ (by unfold inC6; omega), f2.2 _ _ (by unfold inC6; omega), f1.2 _ _ (by omega)]
    · rw [f5.2 _ _ (by unfold inC6; omega), e4, gI_sI, if_pos ⟨rfl, rfl⟩]
      exact e3 (sgT_0 q0)
    · rw [f5.2 _ _ (by unfold inC6; omega), f4.2 _ _ (by omega), f3.2 _ _ (by unfold inC6; omega), f2.2 _ _ (by unfold inC6; omega), e1, gI_sI, if_pos ⟨rfl, rfl⟩]
    · rw [f5.2 _ _ (by unfold inC6; omega), f4.2 _ _ (by omega), f3.2 _ _ (by unfold inC6; omega), f2.2 _ _ (by unfold inC6; omega), f1.2 _ _ (by omega)]
  · have eb : b = true := by cases b; exact absurd rfl q; rfl
    rw [if_pos eb] at hQ
    exact c_refuse (k := 4) h hT h0 (by omega) (by omega) (fun u' f T => hQ u' (f.mono (fun b i q => by unfold inC6 at q; unfold inL4; omega)) T (fun r => absurd r (by unfold kC flt4; omega)))
end LINES2
