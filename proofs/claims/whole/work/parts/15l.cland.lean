/-! LAND, in the class -/
def cY (S : St) : Nat → Nat := fun i => if i < sN S then (sY S i).toNatClampNeg else 0
theorem cY_in {S : St} (hS : okS S) {i : Nat} (hi : i < sN S) : cY S i < 256 ∧ nI (cY S i) = sY S i := by
  have b := hS.2.2.2.2 i hi
  unfold btw at b
  obtain ⟨k, hk, e⟩ := (inN_iff (n := 256) (by omega)).mpr ⟨b.1, by omega⟩
  unfold cY
  rw [if_pos hi, e, nI_clamp (by omega)]
  exact ⟨hk, rfl⟩
theorem cY_lt {S : St} (hS : okS S) (i : Nat) : cY S i < 256 := by
  by_cases hi : i < sN S
  · exact (cY_in hS hi).1
  · unfold cY
    rw [if_neg hi]
    omega
def D0 : Ld := (fun _ => 0, 100, 100, fun _ _ => 0, fun _ _ => 0, fun _ _ => 0)
theorem D0_ok : okD D0 := ⟨Nat.zero_le _, Nat.zero_le _, Nat.zero_le _, by unfold btw hE D0; decide, by unfold btw aI D0; decide, fun k hk => absurd hk (Nat.not_lt_zero _), fun k hk => absurd hk (Nat.not_lt_zero _), fun k hk => absurd hk (Nat.not_lt_zero _)⟩
def t00 : Tk := (0, 0, 0)
def ldR (S : St) (N : Nat) : Tk × Ld := rdF (cY S) N (N + 1) t00 D0 false false
def setL (S : St) (F : Int32) : St := (sD S, sB S, sX S, 0, sY S, F)
def setD (S : St) (k : Nat) (D : Ld) : St := (fun l => if l = k then D else sD S l, sB S, sX S, sN S, sY S, sF S)
def ldS (S : St) (k N : Nat) : St := if kC (ldR S N).1 = 0 then setD (setL S (-1)) k (ldR S N).2 else setB (setL S (nI (kP (ldR S N).1))) (incR (sB S) 0)
theorem setL_ok {S : St} {F : Int32} (h : okS S) : okS (setL S F) := ⟨h.1, h.2.1, h.2.2.1, Nat.zero_le _, fun i hi => absurd hi (Nat.not_lt_zero _)⟩
theorem setD_ok {S : St} {k : Nat} {D : Ld} (h : okS S) (hD : okD D) : okS (setD S k D) := by
  refine ⟨fun l hl => ?_, h.2.1, h.2.2.1, h.2.2.2.1, h.2.2.2.2⟩
  show okD (if l = k then D else sD S l)
  split
  · exact hD
  · exact h.1 l hl
/-- the class's memory at its tape and at the land that is read into -/
def inLL (z a : Nat) : Nat → Nat → Prop := fun b j => (b = z + 1 ∧ j ≤ 11) ∨ (a ≤ b ∧ b < a + 24)
theorem RC.toL {G : Gx} {u v : Mm} {z : Nat} {o : Nat → Nat} {S : St} {F : Int32} (h : RC G u z o S) (hS : okS S) (f : Fx (inLL z (lnd z (o 6))) u v) (hN : gI v (z + 1) 1 = 0) (hF : gI v (z + 1) 11 = F) : RC G v z o (setL S F) := by
  obtain ⟨h1, ⟨i1, i2, i3, i4⟩, h3, h4, h5, h6, h7, h8⟩ := h
  have q6 := lnd_bd (z := z) (i3 6 (by omega))
  refine ⟨h1.fx f, ⟨fun k hk => ?_, ?_, i3, i4⟩, fun l hl => ?_, ?_, ?_, hN, fun i hi => absurd hi (Nat.not_lt_zero _), hF⟩
  · rw [f.gR]; exact i1 k hk
  · rw [f.gR]; exact i2
  · have q := lnd_bd (z := z) (i3 l (by omega))
    have d := lnd_off (z := z) (i3 l (by omega)) (i3 6 (by omega)) (fun e => absurd (i4 l 6 (by omega) (by omega) e) (by omega))
    exact (h3 l hl).same (hS.1 l hl) (fun b j q1 q2 => f.2 b j (by unfold inLL; omega))
  · exact h4.keep hS.2.1 (fun a j q1 q2 _ => f.2 a j (by unfold inLL; omega))
  · show XC v z (sX S)
    cases hx : sX S with
    | none =>
      rw [hx] at h5
      show gI v z 4 = 0
      rw [f.2 _ _ (by unfold inLL; omega)]
      exact h5
    | some B =>
      rw [hx] at h5
      refine ⟨?_, h5.2.keep (hS.2.2.1 B hx) (fun a j q1 q2 _ => f.2 a j (by unfold inLL; omega))⟩
      rw [f.2 _ _ (by unfold inLL; omega)]
      exact h5.1
def swp (o : Nat → Nat) (k : Nat) : Nat → Nat := fun i => if i = k then o 6 else if i = 6 then o k else o i
theorem RC.swap {G : Gx} {w v : Mm} {z k : Nat} {o : Nat → Nat} {S : St} {D : Ld} (h : RC G w z o S) (hk : k < 6) (hD : CL w (lnd z (o 6)) D) (ev : v = sR (sR w (z + 1) 3 (lnd z (o k))) (z + 27) k (lnd z (o 6))) : RC G v z (swp o k) (setD S k D) := by
  obtain ⟨h1, ⟨i1, i2, i3, i4⟩, h3, h4, h5, h6, h7, h8⟩ := h
  have ei : ∀ a j, gI v a j = gI w a j := fun a j => by rw [ev]; rfl
  refine ⟨h1.keep (fun a j _ _ _ _ q5 q6 => ?_), ⟨fun i hi => ?_, ?_, fun i hi => ?_, fun i j hi hj e => ?_⟩, fun l hl => ?_, ?_, ?_, ?_, fun i hi => ?_, ?_⟩
  · rw [ev, gR_sR, if_neg (by omega), gR_sR, if_neg (by omega)]
  · rw [ev, gR_sR]
    show _ = lnd z (if i = k then o 6 else if i = 6 then o k else o i)
    by_cases e : i = k
    · rw [if_pos ⟨rfl, e⟩, if_pos e]
    · rw [if_neg (by omega), if_neg e, if_neg (by omega), gR_sR, if_neg (by omega)]; exact i1 i hi
  · rw [ev, gR_sR, if_neg (by omega), gR_sR, if_pos ⟨rfl, rfl⟩]
    show _ = lnd z (if 6 = k then o 6 else if 6 = 6 then o k else o 6)
    rw [if_neg (by omega), if_pos rfl]
  · show (if i = k then o 6 else if i = 6 then o k else o i) < 7
    split
    · exact i3 6 (by omega)
    · split
      · exact i3 k (by omega)
      · exact i3 i hi
  · have e : (if i = k then o 6 else if i = 6 then o k else o i) = (if j = k then o 6 else if j = 6 then o k else o j) := e
    by_cases a1 : i = k
    · rw [if_pos a1] at e
      by_cases b1 : j = k
      · omega
      · rw [if_neg b1] at e
        by_cases b2 : j = 6
        · rw [if_pos b2] at e
          exact absurd (i4 6 k (by omega) (by omega) e) (by omega)
        · rw [if_neg b2] at e
          exact absurd (i4 6 j (by omega) (by omega) e) (by omega)
    · rw [if_neg a1] at e
      by_cases a2 : i = 6
      · rw [if_pos a2] at e
        by_cases b1 : j = k
        · rw [if_pos b1] at e
          exact absurd (i4 k 6 (by omega) (by omega) e) (by omega)
        · rw [if_neg b1] at e
          by_cases b2 : j = 6
          · omega
          · rw [if_neg b2] at e
            exact absurd (i4 k j (by omega) (by omega) e) (by omega)
      · rw [if_neg a2] at e
        by_cases b1 : j = k
        · rw [if_pos b1] at e
          exact absurd (i4 i 6 (by omega) (by omega) e) (by omega)
        · rw [if_neg b1] at e
          by_cases b2 : j = 6
          · rw [if_pos b2] at e
            exact absurd (i4 i k (by omega) (by omega) e) (by omega)
          · rw [if_neg b2] at e
            exact i4 i j hi hj e
  · show CL v (lnd z (if l = k then o 6 else if l = 6 then o k else o l)) (if l = k then D else sD S l)
    by_cases e : l = k
    · rw [if_pos e, if_pos e]
      unfold CL at *
      simp only [ei]
      exact hD
    · rw [if_neg e, if_neg e, if_neg (by omega)]
      have := h3 l hl
      unfold CL at *
      simp only [ei]
      exact this
  · show BC v (z + 172) (sB S)
    unfold BC Rw at *
    simp only [ei]
    exact h4
  · show XC v z (sX S)
    cases hx : sX S with
    | none =>
      rw [hx] at h5
      show gI v z 4 = 0
      rw [ei]; exact h5
    | some B =>
      rw [hx] at h5
      obtain ⟨q1, q2⟩ := h5
      refine ⟨by rw [ei]; exact q1, ?_⟩
      unfold BC Rw at *
      simp only [ei]
      exact q2
  · rw [ei]; exact h6
  · rw [ei]; exact h7 i hi
  · rw [ei]; exact h8
section CLAND
variable {G : Gx} {u : Mm}
theorem c_empty {Q : Mm → Prop} {z a : Nat} (hk : kd G a = 4) (hQ : ∀ u', Fx (fun b j => a ≤ b ∧ b < a + 24) u u' → CL u' a D0 → Q u') : V_X4_empty G a u Q := by
  refine ⟨hk, fun u1 e1 u2 e2 u3 e3 u4 e4 u5 e5 => ?_⟩
  refine hQ u5 ?_ ⟨?_, ?_, ?_, ?_, ?_, fun k hk => absurd hk (Nat.not_lt_zero _), fun k hk => absurd hk (Nat.not_lt_zero _), fun k hk => absurd hk (Nat.not_lt_zero _)⟩
  · rw [e5, e4, e3, e2, e1]
    exact (Fx.put (by omega)).trans ((Fx.put (by omega)).trans ((Fx.put (by omega)).trans ((Fx.put (by omega)).trans (Fx.put (by omega)))))
  · rw [e5, gI_sI, if_neg (by omega), e4, gI_sI, if_neg (by omega), e3, gI_sI, if_neg (by omega), e2, gI_sI, if_neg (by omega), e1, gI_sI, if_pos ⟨rfl, rfl⟩]; rfl
  · rw [e5, gI_sI, if_neg (by omega), e4, gI_sI, if_neg (by omega), e3, gI_sI, if_neg (by omega), e2, gI_sI, if_pos ⟨rfl, rfl⟩]; rfl
  · rw [e5, gI_sI, if_neg (by omega), e4, gI_sI, if_neg (by omega), e3, gI_sI, if_pos ⟨rfl, rfl⟩]; rfl
  · rw [e5, gI_sI, if_neg (by omega), e4, gI_sI, if_pos ⟨rfl, rfl⟩]; rfl
  · rw [e5, gI_sI, if_pos ⟨rfl, rfl⟩]; rfl
theorem c_readLand {Q : Int32 → Mm → Prop} {z N : Nat} {o : Nat → Nat} {S : St} (hR : RC G u z o S) (hS : okS S) (hN : N ≤ sN S) (hQ : ∀ u', RC G u' z o (setL S (if kC (ldR S N).1 = 0 then -1 else nI (kP (ldR S N).1))) → Fx (inLL z (lnd z (o 6))) u u' → (kC (ldR S N).1 = 0 → CL u' (lnd z (o 6)) (ldR S N).2 ∧ okD (ldR S N).2) → kC (ldR S N).1 ≤ 4 → Q (nI (kC (ldR S N).1)) u') : V_X8_readLand G (z + 1) (nI N) u Q := by
  obtain ⟨h1, ⟨i1, i2, i3, i4⟩, h3, h4, h5, h6, h7, h8⟩ := id hR
  have n700 := hS.2.2.2.1
  have q6 := lnd_bd (z := z) (i3 6 (by omega))
  have hL := h1.lr (i3 6 (by omega))
  have k8 : kd G (z + 1) = 8 := h1.2.1.2.1
  have emn : mn (nI N) (nI (sN S)) = nI N := by rw [mn_N (by omega) (by omega), Nat.min_eq_left hN]
  refine ⟨k8, ?_⟩
  rw [h6, emn]
  intro u1 e1 u2 e2
  have f2 : Fx (inLL z (lnd z (o 6))) u u2 := by
    rw [e2, e1]
    exact (Fx.put (by unfold inLL; omega)).trans (Fx.put (by unfold inLL; omega))
  rw [f2.gR, i2]
  refine ⟨by omega, hL.2.1, c_empty (z := z) hL.2.1 (fun u3 f3 c3 u4 e4 u5 e5 u6 e6 u7 e7 u8 e8 => ?_)⟩
  have F3 : Fx (inLL z (lnd z (o 6))) u u3 := f2.trans (f3.mono (fun b j q => Or.inr q))
  have f8 : Fx (fun b j => b = z + 1 ∧ 4 ≤ j ∧ j ≤ 11) u3 u8 := by
    rw [e8, e7, e6, e5, e4]
    exact (Fx.put (by omega)).trans ((Fx.put (by omega)).trans ((Fx.put (by omega)).trans ((Fx.put (by omega)).trans (Fx.put (by omega)))))
  have F8 : Fx (inLL z (lnd z (o 6))) u u8 := F3.trans (f8.mono (fun b j q => by unfold inLL; omega))
  have g4 : gI u8 (z + 1) 4 = 0 := by rw [e8, gI_sI, if_neg (by omega), e7, gI_sI, if_neg (by omega), e6, gI_sI, if_neg (by omega), e5, gI_sI, if_neg (by omega), e4, gI_sI, if_pos ⟨rfl, rfl⟩]
  have g5 : gI u8 (z + 1) 5 = 0 := by rw [e8, gI_sI, if_neg (by omega), e7, gI_sI, if_neg (by omega), e6, gI_sI, if_neg (by omega), e5, gI_sI, if_pos ⟨rfl, rfl⟩]
  have g10 : gI u8 (z + 1) 10 = 0 := by rw [e8, gI_sI, if_neg (by omega), e7, gI_sI, if_neg (by omega), e6, gI_sI, if_pos ⟨rfl, rfl⟩]
  have g11 : gI u8 (z + 1) 11 = -1 := by rw [e8, gI_sI, if_neg (by omega), e7, gI_sI, if_pos ⟨rfl, rfl⟩]
  have g8 : gI u8 (z + 1) 8 = nI 0 := by rw [e8, gI_sI, if_pos ⟨rfl, rfl⟩]; rfl
  have g1 : gI u8 (z + 1) 1 = 0 := by rw [f8.2 _ _ (by omega), f3.2 _ _ (by omega), e2, gI_sI, if_pos ⟨rfl, rfl⟩]
  have g2 : gI u8 (z + 1) 2 = nI N := by rw [f8.2 _ _ (by omega), f3.2 _ _ (by omega), e2, gI_sI, if_neg (by omega), e1, gI_sI, if_pos ⟨rfl, rfl⟩]
  have C8 : CL u8 (lnd z (o 6)) D0 := c3.same D0_ok (fun b j q1 q2 => f8.2 _ _ (by omega))
  have T8 : TB z (cY S) N u8 := ⟨g2, fun i hi => by rw [F8.2 _ _ (by unfold inLL; omega), h7 i (by omega), (cY_in hS (i := i) (by omega)).2]⟩
  clear e1 e2 e4 e5 e6 e7 e8
  refine c_takeToken (h1.fx F8) (by omega) (cY_lt hS) T8 (Nat.zero_le _) g8 (fun u9 f9 a6 a7 a8 a9 => ?_)
  have F9 : Fx (inLL z (lnd z (o 6))) u u9 := F8.trans (f9.mono (fun b j q => by unfold inK2 at q; unfold inLL; omega))
  have T9 : CT z (cY S) N t00 u9 := ⟨T8.fx f9, ⟨Nat.zero_le _, Nat.zero_le _, Nat.zero_le _⟩, by rw [f9.2 _ _ (by unfold inK2; omega)]; exact g10, fun q => absurd rfl q, fun _ => ⟨by rw [f9.2 _ _ (by unfold inK2; omega)]; exact g11, a6, a7, a8, a9⟩⟩
  refine ⟨N + 1, c_lines (a := lnd z (o 6)) (h1.fx F9) (by omega) (cY_lt hS) (by rw [F9.gR]; exact i2) (by omega) (hL.keep (fun b j _ _ => F9.gR b j)) (N + 1) t00 D0 false false 0 u9 (by omega) (by omega) Fx.rfl' T9 (fun _ => ⟨C8.same D0_ok (fun b j q1 q2 => f9.2 _ _ (by unfold inK2; omega)), D0_ok, by rw [f9.2 _ _ (by unfold inK2; omega)]; exact g4, by rw [f9.2 _ _ (by unfold inK2; omega)]; exact g5, by show N < 0 + (N + 1); omega, Nat.zero_le _⟩) (fun w f10 T10 L10 => ?_)⟩
  have F10 : Fx (inLL z (lnd z (o 6))) u w := F9.trans (f10.mono (fun b j q => by unfold inL4 at q; unfold inLL; omega))
  refine hQ w (hR.toL hS F10 ?_ ?_) F10 L10 T10.2.1.2.1
  · rw [f10.2 _ _ (by unfold inL4; omega), f9.2 _ _ (by unfold inK2; omega)]; exact g1
  · by_cases q : kC (ldR S N).1 = 0
    · rw [if_pos q]; exact (T10.2.2.2.2 q).1
    · rw [if_neg q]; exact T10.2.2.2.1 q
theorem c_land {Q : Int32 → Mm → Prop} {X : String → Mm → Prop} {z : Nat} {o : Nat → Nat} {S : St} {l p : Int32} (hR : RC G u z o S) (hS : okS S) (h0 : ∀ k N, k < 6 → l = nI k → N ≤ sN S → p = nI N → ∀ u' o', RC G u' z o' (ldS S k N) → (∀ a j, z + 476 ≤ a → gI u' a j = gI u a j ∧ gR u' a j = gR u a j) → Q (nI (kC (ldR S N).1)) u') (h1 : ¬ inN 6 l → X "java/util/NoSuchElementException" u) (h2 : inN 6 l → ¬ inN (sN S + 1) p → X "java/lang/IllegalArgumentException" u) : V_X11_land G z l p u Q X := by
  obtain ⟨g1, ⟨i1, i2, i3, i4⟩, g3, g4, g5, g6, g7, g8⟩ := id hR
  have n700 := hS.2.2.2.1
  have q6 := lnd_bd (z := z) (i3 6 (by omega))
  refine ⟨g1.k, c_needLand g1 hR.2.1 (fun k hk ek => ⟨fun q => ?_, fun q => ?_⟩) h1⟩
  · unfold V_X11_land_21
    refine h2 ⟨k, hk, ek⟩ (fun r => ?_)
    have := (inN_iff (by omega)).mp r
    have q := Int32.lt_iff_toInt_lt.mp q
    have e0 : (0 : Int32).toInt = 0 := by decide
    rw [e0] at q
    omega
  · rw [g1.2.1.1, g6]
    refine ⟨by omega, g1.2.1.2.1, fun q2 => ?_, fun q2 => ?_⟩
    · have ge : 0 ≤ p.toInt := by
        rcases Int.lt_or_le p.toInt 0 with r | r
        · refine absurd (Int32.lt_iff_toInt_lt.mpr ?_) q
          exact r
        · exact r
      have le := Int32.le_iff_toInt_le.mp q2
      rw [nI_toInt (by omega)] at le
      obtain ⟨N, hN, eN⟩ := (inN_iff (n := sN S + 1) (by omega)).mpr ⟨ge, by omega⟩
      have h0 := h0 k N hk ek (by omega) eN
      rw [eN]
      refine c_readLand hR hS (by omega) (fun u1 R1 f1 L1 c4 => ⟨fun q3 => ?_, fun q3 => ?_⟩)
      · have kc : kC (ldR S N).1 = 0 := nI_inj (b := 0) (by omega) (by omega) q3
        rw [if_pos kc] at R1
        obtain ⟨L2, D2⟩ := L1 kc
        unfold ldS at h0
        rw [if_pos kc, kc] at h0
        rw [f1.gR, g1.2.2.1.1, f1.gR, g1.2.1.1]
        refine ⟨by omega, by omega, g1.2.1.2.1, ?_⟩
        refine ⟨g1.2.1.2.1, by rw [f1.gR, i2]; omega, fun x hx => ⟨?_, fun u2 e2 => ⟨g1.2.2.1.2.1, ?_, ?_, fun u3 e3 => ?_⟩⟩⟩
        · have := lnd_bd (z := z) (i3 k (by omega))
          omega
        · rw [g1.2.2.1.2.2, ek]; exact vp_in_nI (by omega) (by omega)
        · rw [hx, f1.gR, i2]; exact (g1.lr (i3 6 (by omega))).2.1
        · rw [f1.gR, i2] at hx
          rw [e2, ek, nI_clamp (by omega), hx] at e3
          refine h0 u3 (swp o k) (R1.swap hk L2 e3) (fun a j ha => ⟨?_, ?_⟩)
          · rw [e3]
            show gI u1 a j = _
            rw [f1.2 _ _ (by unfold inLL; omega)]
          · rw [e3, gR_sR, if_neg (by omega), gR_sR, if_neg (by omega), f1.gR]
      · have kc : kC (ldR S N).1 ≠ 0 := fun r => q3 (by rw [r]; rfl)
        rw [if_neg kc] at R1
        unfold ldS at h0
        rw [if_neg kc] at h0
        obtain ⟨_, b1, _, _, ⟨b2, b3, b4⟩, _⟩ := id g1.bk.2
        rw [f1.gR, g1.bk.1, f1.gR, b4]
        refine ⟨by omega, b1, by omega, b2, by rw [b3]; exact vp_in_nI (n := 0) (by omega) (by omega), fun u2 e2 => ?_⟩
        have e2 : u2 = sI u1 (z + 172 + 3) 0 (gI u1 (z + 172 + 3) 0 + 1) := e2
        have f2 : Fx (fun a j => a = z + 172 + 3) u1 u2 := by rw [e2]; exact Fx.put rfl
        refine h0 u2 o (R1.toB (setL_ok hS) (f2.mono (fun a j q => by omega)) (by rw [e2]; exact R1.2.2.2.1.inc hS.2.1 (by omega))) (fun a j ha => ⟨?_, ?_⟩)
        · rw [f2.2 _ _ (by omega), f1.2 _ _ (by unfold inLL; omega)]
        · rw [f2.gR, f1.gR]
    · unfold V_X11_land_21
      refine h2 ⟨k, hk, ek⟩ (fun r => q2 ?_)
      obtain ⟨N, hN, eN⟩ := r
      rw [eN]
      exact nI_le (by omega) (by omega)
end CLAND
