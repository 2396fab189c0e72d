/-! A LINE read by the model, and by the class -/
theorem ML.setH {u v : Mm} {m : Nat} {D : Ld} {x : Int32} (h : ML u m 6 D) (f : ∀ b j, m + 2 ≤ b → b ≤ m + 9 → ¬ (b = m + 5 ∧ j = 6) → gI v b j = gI u b j) (h3 : gI v (m + 5) 6 = x) : ML v m 6 (ldH D x) := by
  obtain ⟨h1, h2, h3', h4, h5, hw, hb, ho⟩ := h
  refine ⟨?_, ?_, ?_, h3, ?_, fun k hk g hg => ?_, fun k hk g hg => ?_, fun k hk g hg => ?_⟩
  · rw [f _ _ (by omega) (by omega) (by omega)]; exact h1
  · rw [f _ _ (by omega) (by omega) (by omega)]; exact h2
  · rw [f _ _ (by omega) (by omega) (by omega)]; exact h3'
  · rw [f _ _ (by omega) (by omega) (by omega)]; exact h5
  · rw [f _ _ (by omega) (by omega) (by omega)]; exact hw k hk g hg
  · rw [f _ _ (by omega) (by omega) (by omega)]; exact hb k hk g hg
  · rw [f _ _ (by omega) (by omega) (by omega)]; exact ho k hk g hg
theorem ML.setA {u v : Mm} {m : Nat} {D : Ld} {x : Int32} (h : ML u m 6 D) (f : ∀ b j, m + 2 ≤ b → b ≤ m + 9 → ¬ (b = m + 6 ∧ j = 6) → gI v b j = gI u b j) (h3 : gI v (m + 6) 6 = x) : ML v m 6 (ldA D x) := by
  obtain ⟨h1, h2, h3', h4, h5, hw, hb, ho⟩ := h
  refine ⟨?_, ?_, ?_, ?_, h3, fun k hk g hg => ?_, fun k hk g hg => ?_, fun k hk g hg => ?_⟩
  · rw [f _ _ (by omega) (by omega) (by omega)]; exact h1
  · rw [f _ _ (by omega) (by omega) (by omega)]; exact h2
  · rw [f _ _ (by omega) (by omega) (by omega)]; exact h3'
  · rw [f _ _ (by omega) (by omega) (by omega)]; exact h4
  · rw [f _ _ (by omega) (by omega) (by omega)]; exact hw k hk g hg
  · rw [f _ _ (by omega) (by omega) (by omega)]; exact hb k hk g hg
  · rw [f _ _ (by omega) (by omega) (by omega)]; exact ho k hk g hg
theorem ML.keep6 {u v : Mm} {m : Nat} {D : Ld} (h : ML u m 6 D) (f : Fx (inM6 m) u v) : ML v m 6 D := h.same (fun b j q1 q2 => f.2 _ _ (by unfold inM6; omega))
section MREAD
variable {G : Gx} {u : Mm} {c : Nat → Nat} {n : Nat}
theorem m_186 {Q : Int32 → Mm → Prop} {m k : Nat} {t : Tk} {D : Ld} {p : Int32} {hb ab : Bool} (h : R11 G u m) (hn : n ≤ 700) (hc : ∀ i, c i < 256) (hT : MTk m c n t u) (hk : k < 6) (hp : TD p hb ab) (hL : kC t = 0 → ML u m 6 D) (hQ : ∀ p' u', Fx (inM6 m) u u' → MTk m c n (sgT c n t) u' → TD p' (if k = 4 then true else hb) (if k = 5 then true else ab) → (kC (sgT c n t) = 0 → ML u' m 6 D) → Q p' u') : V_X12_readLine_186 G Q m p (nI k) u := by
  unfold V_X12_readLine_186
  refine ⟨h.2.1, m_semi h hn hc hT (fun u' f T => hQ _ u' f T ?_ (fun q => (hL (sgT_0 q)).keep6 f))⟩
  obtain ⟨q, q64, e, a1, a2⟩ := hp
  obtain ⟨r, r64, er, b1, b2⟩ := td_or q q64 k hk
  refine ⟨r, r64, by rw [e, er], ?_, ?_⟩
  · rw [b1]
    by_cases g : k = 4
    · rw [if_pos g]; exact ⟨fun _ => rfl, fun _ => Or.inl g⟩
    · rw [if_neg g, ← a1]
      exact ⟨fun r => r.elim (fun r => absurd r g) (fun r => r), Or.inr⟩
  · rw [b2]
    by_cases g : k = 5
    · rw [if_pos g]; exact ⟨fun _ => rfl, fun _ => Or.inl g⟩
    · rw [if_neg g, ← a2]
      exact ⟨fun r => r.elim (fun r => absurd r g) (fun r => r), Or.inr⟩
theorem m_readLine {Q : Int32 → Mm → Prop} {m : Nat} {t : Tk} {D : Ld} {p : Int32} {hb ab : Bool} (hH : HM G u m) (hn : n ≤ 700) (hc : ∀ i, c i < 256) (hT : MTk m c n t u) (h0 : kC t = 0) (hC : ML u m 6 D) (hD : okD D) (hp : TD p hb ab) (hQ : ∀ p' u', Fx (inML m) u u' → MTk m c n (lnT c n D hb ab t) u' → (kC (lnT c n D hb ab t) = 0 → TD p' (lnH c n hb t) (lnA c n ab t) ∧ ML u' m 6 (lnD c n D t)) → Q p' u') : V_X12_readLine G m p u Q := by
  have h : R11 G u m := ⟨hH.1.1, hH.1.2.1, hH.2.2.1.2.1⟩
  have hM := hH.1
  obtain ⟨m0, mk, ⟨k2, n2, r2⟩, ⟨k3, n3, r3⟩, ⟨k4, n4, r4⟩, ⟨k5, n5, r5⟩, ⟨k6, n6, r6⟩, _⟩ := id hM
  obtain ⟨d1, d2, d3, _⟩ := id hD
  have b6 := (whF_bd (c := c) (n := n) (t := t) 6 0).2
  have b6 : wh c n t ≤ 6 := b6
  -- a fault
  have bad : ∀ k, 1 ≤ k → k ≤ 4 → lnT c n D hb ab t = flt4 c n k t → ∀ v, V_X12_wrong G m (nI k) u (fun w => V_X12_readLine_95 G Q m p v w) := by
    intro k k1 k4 e v
    refine m_wrong h hT h0 k1 k4 (fun u' f T => ?_)
    unfold V_X12_readLine_95
    rw [T.2.2.1]
    refine ⟨mk, fun r => ?_, fun _ => hQ p u' (f.mono (fun b i q => Or.inl q)) (by rw [e]; exact T) (fun r => ?_)⟩
    · have := nI_inj (a := k) (b := 0) (by omega) (by omega) r
      omega
    · rw [e] at r
      exact absurd r (by unfold kC flt4; omega)
  have bad2 : lnT c n D hb ab t = flt4 c n 2 t → ∀ v, V_X12_readLine_68 G Q m p v u := by
    intro e v
    unfold V_X12_readLine_68
    exact ⟨mk, bad 2 (by omega) (by omega) e v⟩
  -- the line itself
  have step : ∀ k, k < 6 → (∀ u1, Fx (inM6 m) u u1 → MTk m c n (nxt c n t) u1 → ML u1 m 6 D → ((2 : Int32) ≤ nI k → ((nI k = (2 : Int32) → V_X12_readBarn G m u1 (fun (u_127 : Mm) => V_X12_readLine_186 G Q m p (nI k) u_127)) ∧ (¬ nI k = (2 : Int32) → ((nI k = (3 : Int32) → V_X12_readWood G m u1 (fun (u_139 : Mm) => V_X12_readLine_186 G Q m p (nI k) u_139)) ∧ (¬ nI k = (3 : Int32) → ((nI k = (4 : Int32) → (gR u1 m 5) ≠ 0 ∧ V_X12_readNumber G m (0 : Int32) (1000 : Int32) (-1 : Int32) u1 (fun (v_162 : Int32) (u_162 : Mm) => kd G (gR u1 m 5) = 13 ∧ vp_in (6 : Int32) (ln G (gR u1 m 5)) ∧ ∀ u_165 : Mm, u_165 = sI u_162 (gR u1 m 5) (6 : Int32).toNatClampNeg v_162 → V_X12_readLine_186 G Q m p (nI k) u_165)) ∧ (¬ nI k = (4 : Int32) → (gR u1 m 6) ≠ 0 ∧ V_X12_readNumber G m (50 : Int32) (150 : Int32) (-1 : Int32) u1 (fun (v_182 : Int32) (u_182 : Mm) => kd G (gR u1 m 6) = 13 ∧ vp_in (6 : Int32) (ln G (gR u1 m 6)) ∧ ∀ u_185 : Mm, u_185 = sI u_182 (gR u1 m 6) (6 : Int32).toNatClampNeg v_182 → V_X12_readLine_186 G Q m p (nI k) u_185)))))))) ∧ (¬ (2 : Int32) ≤ nI k → V_X12_readWall G m (nI k) u1 (fun (u_115 : Mm) => V_X12_readLine_186 G Q m p (nI k) u_115))) → V_X12_readLine_95 G Q m p (nI k) u := by
    intro k hk go
    unfold V_X12_readLine_95
    rw [hT.2.2.1, h0]
    exact ⟨mk, fun _ => m_step h hn hc hT h0 (fun u1 f T => go u1 f T (hC.keep6 f)), fun r => absurd rfl r⟩
  refine ⟨mk, m_which hH hn hT (fun w6 => ⟨fun r => ?_, fun _ => ?_⟩) (fun w6 => ⟨fun _ => ?_, fun r => absurd rfl r⟩)⟩
  · exfalso
    have := congrArg Int32.toInt r
    rw [nI_toInt (by omega)] at this
    have e2 : (-1 : Int32).toInt = -1 := by decide
    rw [e2] at this
    omega
  · generalize hw : wh c n t = k at *
    have eq2 : (nI k = (2 : Int32)) ↔ k = 2 := nI_eq (b := 2) (by omega) (by omega)
    have eq3 : (nI k = (3 : Int32)) ↔ k = 3 := nI_eq (b := 3) (by omega) (by omega)
    have eq4 : (nI k = (4 : Int32)) ↔ k = 4 := nI_eq (b := 4) (by omega) (by omega)
    have le2 : ((2 : Int32) ≤ nI k) ↔ 2 ≤ k := nI_leI (a := 2) (by omega) (by omega)
    have le3 : (nI k ≤ (3 : Int32)) ↔ k ≤ 3 := nI_leI (b := 3) (by omega) (by omega)
    have hTk : lnT c n D hb ab t = if k < 2 then ln0 c n D t else if k = 2 then ln2 c n D t else if k = 3 then ln3 c n D t else if k = 4 then ln4 c n hb t else if k = 5 then ln5 c n ab t else flt4 c n 1 t := by unfold lnT; rw [hw]
    have hDk : lnD c n D t = if k < 2 then ldW D (wlV c n (nI k) (nxt c n t)) else if k = 2 then ldB D (bnV c n (nxt c n t)) else if k = 3 then ldO D (wdVs c n (nxt c n t)) else if k = 4 then ldH D (nI (rdV c n (nxt c n t))) else if k = 5 then ldA D (nI (rdV c n (nxt c n t))) else D := by unfold lnD; rw [hw]
    have hHk : lnH c n hb t = if k = 4 then true else hb := by unfold lnH; rw [hw]
    have hAk : lnA c n ab t = if k = 5 then true else ab := by unfold lnA; rw [hw]
    have n0 : kC (nxt c n t) = 0 := rfl
    -- the end of a line
    have fin : ∀ u1 t1 D1, Fx (inML m) u u1 → MTk m c n t1 u1 → (kC t1 = 0 → ML u1 m 6 D1) → lnT c n D hb ab t = sgT c n t1 → lnD c n D t = D1 → V_X12_readLine_186 G Q m p (nI k) u1 := by
      intro u1 t1 D1 f T L eT eD
      refine m_186 (h.fx f) hn hc T w6 hp L (fun p' u' f' T' P' L' => hQ p' u' (f.trans (f'.mono (fun b i q => Or.inl q))) (by rw [eT]; exact T') (fun q => ⟨by rw [hHk, hAk]; exact P', by rw [eD]; rw [eT] at q; exact L' q⟩))
    have to95 : V_X12_readLine_95 G Q m p (nI k) u → V_X12_readLine_76 G Q m p (nI k) u → True := fun _ _ => trivial
    by_cases g2 : k < 2
    · refine ⟨fun r => absurd (le2.mp r) (by omega), fun _ => ?_⟩
      rw [r2, c6_6, hC.1]
      refine ⟨by omega, k2, by rw [n2]; exact vp_67, fun q => ?_, fun q => ?_⟩
      · have q : nW D = 6 := nI_inj (b := 6) (by omega) (by omega) q
        refine bad2 ?_ _
        rw [hTk, if_pos g2]
        unfold ln0
        rw [if_neg (by omega)]
      · have q : nW D < 6 := by
          rcases Nat.lt_or_ge (nW D) 6 with r | r
          · exact r
          · exact absurd (by rw [show nW D = 6 by omega]; rfl) q
        unfold V_X12_readLine_35 V_X12_readLine_52 V_X12_readLine_76
        refine ⟨fun r => absurd (eq2.mp r) (by omega), fun _ => ⟨fun r => absurd (eq3.mp r) (by omega), fun _ => ⟨fun _ => ?_, fun r => absurd (le3.mpr (by omega)) r⟩⟩⟩
        refine step k w6 (fun u1 f1 T1 L1 => ⟨fun r => absurd (le2.mp r) (by omega), fun _ => ?_⟩)
        refine m_readWall (h.fx f1) (f1.kMR hM) hn hc T1 n0 L1 q (fun u2 f2 T2 L2 => ?_)
        refine fin u2 _ _ ((f1.mono (fun b i q => Or.inl q)).trans f2) T2 L2 ?_ ?_
        · rw [hTk, if_pos g2]
          unfold ln0
          rw [if_pos q]
        · rw [hDk, if_pos g2]
    · refine ⟨fun _ => ?_, fun r => absurd (le2.mpr (by omega)) r⟩
      unfold V_X12_readLine_35
      by_cases g3 : k = 2
      · refine ⟨fun _ => ?_, fun r => absurd (eq2.mpr g3) r⟩
        rw [r3, c6_6, hC.2.1]
        refine ⟨mk, by omega, k3, by rw [n3]; exact vp_67, fun q => ?_, fun q => ?_⟩
        · have q : nB D = 6 := nI_inj (b := 6) (by omega) (by omega) q
          refine bad2 ?_ _
          rw [hTk, if_neg g2, if_pos g3]
          unfold ln2
          rw [if_neg (by omega)]
        · have q : nB D < 6 := by
            rcases Nat.lt_or_ge (nB D) 6 with r | r
            · exact r
            · exact absurd (by rw [show nB D = 6 by omega]; rfl) q
          unfold V_X12_readLine_52 V_X12_readLine_76
          refine ⟨fun r => absurd (eq3.mp r) (by omega), fun _ => ⟨fun _ => ?_, fun r => absurd (le3.mpr (by omega)) r⟩⟩
          refine step k w6 (fun u1 f1 T1 L1 => ⟨fun _ => ⟨fun _ => ?_, fun r => absurd (eq2.mpr g3) r⟩, fun r => absurd (le2.mpr (by omega)) r⟩)
          refine m_readBarn (h.fx f1) (f1.kMR hM) hn hc T1 n0 L1 q (fun u2 f2 T2 L2 => ?_)
          refine fin u2 _ _ ((f1.mono (fun b i q => Or.inl q)).trans f2) T2 L2 ?_ ?_
          · rw [hTk, if_neg g2, if_pos g3]
            unfold ln2
            rw [if_pos q]
          · rw [hDk, if_neg g2, if_pos g3]
      · refine ⟨fun r => absurd (eq2.mp r) g3, fun _ => ?_⟩
        unfold V_X12_readLine_52
        by_cases g4 : k = 3
        · refine ⟨fun _ => ?_, fun r => absurd (eq3.mpr g4) r⟩
          rw [r4, c6_6, hC.2.2.1]
          refine ⟨mk, by omega, k4, by rw [n4]; exact vp_67, fun q => ?_, fun q => ?_⟩
          · have q : nO D = 4 := nI_inj (b := 4) (by omega) (by omega) q
            refine bad2 ?_ _
            rw [hTk, if_neg g2, if_neg g3, if_pos g4]
            unfold ln3
            rw [if_neg (by omega)]
          · have q : nO D < 4 := by
              rcases Nat.lt_or_ge (nO D) 4 with r | r
              · exact r
              · exact absurd (by rw [show nO D = 4 by omega]; rfl) q
            unfold V_X12_readLine_76
            refine ⟨fun _ => ?_, fun r => absurd (le3.mpr (by omega)) r⟩
            refine step k w6 (fun u1 f1 T1 L1 => ⟨fun _ => ⟨fun r => absurd (eq2.mp r) g3, fun _ => ⟨fun _ => ?_, fun r => absurd (eq3.mpr g4) r⟩⟩, fun r => absurd (le2.mpr (by omega)) r⟩)
            refine m_readWood (h.fx f1) (f1.kMR hM) hn hc T1 n0 L1 q (fun u2 f2 T2 L2 => ?_)
            refine fin u2 _ _ ((f1.mono (fun b i q => Or.inl q)).trans f2) T2 L2 ?_ ?_
            · rw [hTk, if_neg g2, if_neg g3, if_pos g4]
              unfold ln3
              rw [if_pos q]
            · rw [hDk, if_neg g2, if_neg g3, if_pos g4]
        · refine ⟨fun r => absurd (eq3.mp r) g4, fun _ => ?_⟩
          unfold V_X12_readLine_76
          refine ⟨fun r => absurd (le3.mp r) (by omega), fun _ => ?_⟩
          obtain ⟨q, q64, ep, a1, a2⟩ := id hp
          obtain ⟨t1, t2⟩ := td_bit q q64
          by_cases g5 : k = 4
          · have e4 : nI k = nI 4 := by rw [g5]
            refine ⟨fun r => ⟨mk, bad 4 (by omega) (by omega) ?_ _⟩, fun r => ?_⟩
            · rw [ep, e4, t1, a1] at r
              rw [hTk, if_neg g2, if_neg g3, if_neg g4, if_pos g5]
              unfold ln4
              rw [if_pos r]
            · rw [ep, e4, t1, a1] at r
              refine step k w6 (fun u1 f1 T1 L1 => ⟨fun _ => ⟨fun r => absurd (eq2.mp r) g3, fun _ => ⟨fun r => absurd (eq3.mp r) g4, fun _ => ⟨fun _ => ?_, fun r => absurd (eq4.mpr g5) r⟩⟩⟩, fun r => absurd (le2.mpr (by omega)) r⟩)
              rw [f1.gR, r5, c6_6]
              refine ⟨by omega, m_readNumber (lo := 0) (hi := 1000) (fl := 0) (h.fx f1) hn hc T1 rfl rfl (by omega) (by omega) (fun _ v _ hv => m1_fl hv) (fun v u2 f2 T2 e2 => ⟨k5, by rw [n5]; exact vp_67, fun u3 e3 => ?_⟩)⟩
              have f3 : Fx (fun b i => b = m + 5 ∧ i = 6) u2 u3 := by rw [e3]; exact Fx.put ⟨rfl, rfl⟩
              refine fin u3 _ _ (((f1.trans f2).mono (fun b i q => Or.inl q)).trans (f3.mono (fun b i q => Or.inr (Or.inl ⟨by omega, by omega, q.2⟩)))) (T2.fx f3 (fun b i q => by omega)) (fun q0 => L1.setH (x := nI (rdV c n (nxt c n t))) (fun b i g1 g2 g3 => ?_) ?_) ?_ ?_
              · rw [f3.2 _ _ g3, f2.2 _ _ (by unfold inM6; omega)]
              · rw [e3, gI_sI, if_pos ⟨rfl, rfl⟩]; exact e2 q0
              · rw [hTk, if_neg g2, if_neg g3, if_neg g4, if_pos g5]
                unfold ln4
                rw [if_neg r]
              · rw [hDk, if_neg g2, if_neg g3, if_neg g4, if_pos g5]
          · have g6 : k = 5 := by omega
            have e5 : nI k = nI 5 := by rw [g6]
            refine ⟨fun r => ⟨mk, bad 4 (by omega) (by omega) ?_ _⟩, fun r => ?_⟩
            · rw [ep, e5, t2, a2] at r
              rw [hTk, if_neg g2, if_neg g3, if_neg g4, if_neg g5, if_pos g6]
              unfold ln5
              rw [if_pos r]
            · rw [ep, e5, t2, a2] at r
              refine step k w6 (fun u1 f1 T1 L1 => ⟨fun _ => ⟨fun r => absurd (eq2.mp r) g3, fun _ => ⟨fun r => absurd (eq3.mp r) g4, fun _ => ⟨fun r => absurd (eq4.mp r) g5, fun _ => ?_⟩⟩⟩, fun r => absurd (le2.mpr (by omega)) r⟩)
              rw [f1.gR, r6, c6_6]
              refine ⟨by omega, m_readNumber (lo := 50) (hi := 150) (fl := 50) (h.fx f1) hn hc T1 rfl rfl (by omega) (by omega) (fun _ v hv0 hv => ⟨fun _ => hv0, fun _ => (m1_fl hv).mpr (by omega)⟩) (fun v u2 f2 T2 e2 => ⟨k6, by rw [n6]; exact vp_67, fun u3 e3 => ?_⟩)⟩
              have f3 : Fx (fun b i => b = m + 6 ∧ i = 6) u2 u3 := by rw [e3]; exact Fx.put ⟨rfl, rfl⟩
              refine fin u3 _ _ (((f1.trans f2).mono (fun b i q => Or.inl q)).trans (f3.mono (fun b i q => Or.inr (Or.inl ⟨by omega, by omega, q.2⟩)))) (T2.fx f3 (fun b i q => by omega)) (fun q0 => L1.setA (x := nI (rdV c n (nxt c n t))) (fun b i g1 g2 g3 => ?_) ?_) ?_ ?_
              · rw [f3.2 _ _ g3, f2.2 _ _ (by unfold inM6; omega)]
              · rw [e3, gI_sI, if_pos ⟨rfl, rfl⟩]; exact e2 q0
              · rw [hTk, if_neg g2, if_neg g3, if_neg g4, if_neg g5, if_pos g6]
                unfold ln5
                rw [if_neg r]
              · rw [hDk, if_neg g2, if_neg g3, if_neg g4, if_neg g5, if_pos g6]
  · refine bad 1 (by omega) (by omega) ?_ _
    unfold lnT
    rw [w6]
    rfl
end MREAD
