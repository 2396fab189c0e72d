/-! THE LAW, call by call -/
/-- what the law asks after a call: its code was c -/
def lwC (G : Gx) (z : Nat) (VM : Mm → (Int32 → Mm → Prop) → Prop) (K : Mm → Prop) (c : Int32) (u : Mm) : Prop :=
  kd G (z + 476) = 12 ∧ VM u (fun w u3 => V_X12_thrown G (z + 476) u3 (fun t u4 => ((t = c → ((c = 0 → kd G (z + 516) = 15 ∧ vp_in (0 : Int32) (ln G (z + 516)) ∧ (((lg_cmp (gL u4 (z + 516) (0 : Int32).toNatClampNeg) (w.toInt64)) = 0 → K u4) ∧ (¬ (lg_cmp (gL u4 (z + 516) (0 : Int32).toNatClampNeg) (w.toInt64)) = 0 → False))) ∧ (¬ c = 0 → K u4))) ∧ (¬ t = c → False))))
theorem lw_0 {G : Gx} {z : Nat} {VM : Mm → (Int32 → Mm → Prop) → Prop} {K : Mm → Prop} {u : Mm} {val : Int32} (mk : kd G (z + 476) = 12) (hz : kd G (z + 516) = 15) (hzl : ln G (z + 516) = 1) (hL : gL u (z + 516) (0 : Int32).toNatClampNeg = val.toInt64) (hm : ∀ Q : Int32 → Mm → Prop, (∀ u', u'.2.2 = u.2.2 → gI u' (z + 476) 1 = 0 → K u' → Q val u') → VM u Q) : lwC G z VM K 0 u := by
  refine ⟨mk, hm _ (fun u' e c hK => ⟨mk, fun _ => ⟨fun _ => ⟨hz, by rw [hzl]; exact vp_01, fun _ => hK, fun n => n ?_⟩, fun n => absurd rfl n⟩, fun n => n c⟩)⟩
  have e2 : gL u' (z + 516) (0 : Int32).toNatClampNeg = val.toInt64 := by
    show u'.2.2 (z + 516) (0 : Int32).toNatClampNeg = val.toInt64
    rw [e]
    exact hL
  rw [e2]
  exact lg_same _
theorem lw_c {G : Gx} {z : Nat} {VM : Mm → (Int32 → Mm → Prop) → Prop} {K : Mm → Prop} {u : Mm} {c : Int32} (mk : kd G (z + 476) = 12) (hc : c ≠ 0) (hm : ∀ Q : Int32 → Mm → Prop, (∀ u' w, gI u' (z + 476) 1 = c → K u' → Q w u') → VM u Q) : lwC G z VM K c u :=
  ⟨mk, hm _ (fun u' _ e hK => ⟨mk, fun _ => ⟨fun n => absurd n hc, fun _ => hK⟩, fun n => n e⟩)⟩
theorem fx_L {P : Nat → Nat → Prop} {u v : Mm} (f : Fx P u v) : v.2.2 = u.2.2 := by rw [f.1]
theorem sL_at {u : Mm} {a : Nat} {v : Int64} : gL (sL u a (0 : Int32).toNatClampNeg v) a (0 : Int32).toNatClampNeg = v := by rw [gL_sL, if_pos ⟨rfl, rfl⟩]
section LAW
variable {G : Gx} {b L : Nat} {xs : Nat → Int32} {k : Nat → Nat → Nat → Int32 → Mm → Prop} {z : Nat} {x : Int32} {u : Mm} {o : Nat → Nat} {S : St}
def hKs (G : Gx) (b L : Nat) (xs : Nat → Int32) (k : Nat → Nat → Nat → Int32 → Mm → Prop) (z : Nat) (x : Int32) : Prop := ∀ u' o' S', okS S' → RC G u' z o' S' → RM G u' (z + 476) S' → V_L_law_1694 G b L xs k z (z + 476) (z + 516) x u'
def hVs (L : Nat) (x : Int32) : Prop := vp_in (x + 1) L ∧ vp_in (x + 2) L ∧ vp_in (x + 3) L ∧ vp_in (x + 4) L ∧ vp_in (x + 5) L ∧ vp_in (x + 6) L
theorem q_302 (hK : hKs G b L xs k z x) (hv : hVs L x) (hR : RC G u z o S) (hM : RM G u (z + 476) S) (hS : okS S) (hz : kd G (z + 516) = 15) (hzl : ln G (z + 516) = 1) : V_L_law_302 G b L xs k z (z + 476) (z + 516) x u := by
  have k11 := hR.1.k
  unfold V_L_law_302 V_L_count
  exact ⟨hv.1, k11, law_r (VC := fun Q X => V_X11_count G z (xs (x + 1).toNatClampNeg) u Q X) (VM := fun w Q => V_X12_count G (z + 476) (xs (x + 1).toNatClampNeg) w Q) (ok := inN 7 (xs (x + 1).toNatClampNeg)) (Vl := fun v => v = cntV S (xs (x + 1).toNatClampNeg)) (K := fun u' => V_L_law_1694 G b L xs k z (z + 476) (z + 516) x u') hR hM hS hz hzl (fun v w e1 e2 => e1.trans e2.symm)
    (fun Q X q1 q2 => c_count hR (fun o1 => q1 o1 u _ rfl Kc.rfl') (fun o1 => q2 o1 u Kc.rfl'))
    (fun w hw Q q1 q2 => m_count hw (fun o1 u' f c => q1 o1 u' _ rfl f c) q2) (fun u' r m => hK u' o S hS r m)⟩
theorem q_358 (hK : hKs G b L xs k z x) (hv : hVs L x) (hR : RC G u z o S) (hM : RM G u (z + 476) S) (hS : okS S) (hz : kd G (z + 516) = 15) (hzl : ln G (z + 516) = 1) : V_L_law_358 G b L xs k z (z + 476) (z + 516) x u := by
  have k11 := hR.1.k
  unfold V_L_law_358 V_L_about
  exact ⟨hv.1, hv.2.1, k11, law_r (VC := fun Q X => V_X11_about G z (xs (x + 1).toNatClampNeg) (xs (x + 2).toNatClampNeg) u Q X) (VM := fun w Q => V_X12_about G (z + 476) (xs (x + 1).toNatClampNeg) (xs (x + 2).toNatClampNeg) w Q) (ok := inN 6 (xs (x + 1).toNatClampNeg) ∧ inN 5 (xs (x + 2).toNatClampNeg)) (Vl := fun v => v = abtV S (xs (x + 1).toNatClampNeg) (xs (x + 2).toNatClampNeg)) (K := fun u' => V_L_law_1694 G b L xs k z (z + 476) (z + 516) x u') hR hM hS hz hzl (fun v w e1 e2 => e1.trans e2.symm)
    (fun Q X q1 q2 => c_about hR (fun o1 => q1 o1 u _ rfl Kc.rfl') (fun o1 => q2 o1 u Kc.rfl'))
    (fun w hw Q q1 q2 => m_about hw (fun o1 u' f c => q1 o1 u' _ rfl f c) q2) (fun u' r m => hK u' o S hS r m)⟩
theorem q_426 (hK : hKs G b L xs k z x) (hv : hVs L x) (hR : RC G u z o S) (hM : RM G u (z + 476) S) (hS : okS S) (hz : kd G (z + 516) = 15) (hzl : ln G (z + 516) = 1) : V_L_law_426 G b L xs k z (z + 476) (z + 516) x u := by
  have k11 := hR.1.k
  unfold V_L_law_426 V_L_clap
  exact ⟨hv.1, hv.2.1, hv.2.2.1, hv.2.2.2.1, hv.2.2.2.2.1, hv.2.2.2.2.2, k11, law_r (VC := fun Q X => V_X11_clap G z (xs (x + 1).toNatClampNeg) (xs (x + 2).toNatClampNeg) (xs (x + 3).toNatClampNeg) (xs (x + 4).toNatClampNeg) (xs (x + 5).toNatClampNeg) (xs (x + 6).toNatClampNeg) u Q X) (VM := fun w Q => V_X12_clap G (z + 476) (xs (x + 1).toNatClampNeg) (xs (x + 2).toNatClampNeg) (xs (x + 3).toNatClampNeg) (xs (x + 4).toNatClampNeg) (xs (x + 5).toNatClampNeg) (xs (x + 6).toNatClampNeg) w Q) (ok := clO S (xs (x + 1).toNatClampNeg) (xs (x + 2).toNatClampNeg) (xs (x + 3).toNatClampNeg) (xs (x + 4).toNatClampNeg) (xs (x + 5).toNatClampNeg) (xs (x + 6).toNatClampNeg)) (Vl := fun v => v = clV S (xs (x + 1).toNatClampNeg) (xs (x + 2).toNatClampNeg) (xs (x + 3).toNatClampNeg) (xs (x + 4).toNatClampNeg) (xs (x + 5).toNatClampNeg) (xs (x + 6).toNatClampNeg)) (K := fun u' => V_L_law_1694 G b L xs k z (z + 476) (z + 516) x u') hR hM hS hz hzl (fun v w e1 e2 => e1.trans e2.symm)
    (fun Q X q1 q2 => c_clap hR hS (fun o1 u' f => q1 o1 u' _ rfl (Kc.of f)) (fun o1 u' f => q2 o1 u' (Kc.of f)))
    (fun w hw Q q1 q2 => m_clap hw hS (fun o1 u' f c => q1 o1 u' _ rfl f c) q2) (fun u' r m => hK u' o S hS r m)⟩
theorem q_544 (hK : hKs G b L xs k z x) (hv : hVs L x) (hR : RC G u z o S) (hM : RM G u (z + 476) S) (hS : okS S) (hz : kd G (z + 516) = 15) (hzl : ln G (z + 516) = 1) : V_L_law_544 G b L xs k z (z + 476) (z + 516) x u := by
  have k11 := hR.1.k
  unfold V_L_law_544 V_L_strength
  exact ⟨hv.1, hv.2.1, hv.2.2.1, hv.2.2.2.1, hv.2.2.2.2.1, hv.2.2.2.2.2, k11, law_r (VC := fun Q X => V_X11_strength G z (xs (x + 1).toNatClampNeg) (xs (x + 2).toNatClampNeg) (xs (x + 3).toNatClampNeg) (xs (x + 4).toNatClampNeg) (xs (x + 5).toNatClampNeg) (xs (x + 6).toNatClampNeg) u Q X) (VM := fun w Q => V_X12_strength G (z + 476) (xs (x + 1).toNatClampNeg) (xs (x + 2).toNatClampNeg) (xs (x + 3).toNatClampNeg) (xs (x + 4).toNatClampNeg) (xs (x + 5).toNatClampNeg) (xs (x + 6).toNatClampNeg) w Q) (ok := sgO (xs (x + 1).toNatClampNeg) (xs (x + 2).toNatClampNeg) (xs (x + 3).toNatClampNeg) (xs (x + 4).toNatClampNeg) (xs (x + 5).toNatClampNeg) (xs (x + 6).toNatClampNeg)) (Vl := fun v => v = sgV S (xs (x + 1).toNatClampNeg) (xs (x + 2).toNatClampNeg) (xs (x + 3).toNatClampNeg) (xs (x + 4).toNatClampNeg) (xs (x + 5).toNatClampNeg) (xs (x + 6).toNatClampNeg)) (K := fun u' => V_L_law_1694 G b L xs k z (z + 476) (z + 516) x u') hR hM hS hz hzl (fun v w e1 e2 => e1.trans e2.symm)
    (fun Q X q1 q2 => c_strength hR hS (fun o1 u' f => q1 o1 u' _ rfl (Kc.of f)) (fun o1 u' f => q2 o1 u' (Kc.of f)))
    (fun w hw Q q1 q2 => m_strength hw hS (fun o1 u' f c => q1 o1 u' _ rfl f c) q2) (fun u' r m => hK u' o S hS r m)⟩
theorem q_791 (hK : hKs G b L xs k z x) (hv : hVs L x) (hR : RC G u z o S) (hM : RM G u (z + 476) S) (hS : okS S) (hz : kd G (z + 516) = 15) (hzl : ln G (z + 516) = 1) : V_L_law_791 G b L xs k z (z + 476) (z + 516) x u := by
  have k11 := hR.1.k
  unfold V_L_law_791 V_L_told
  exact ⟨hv.1, hv.2.1, k11, law_r (VC := fun Q X => V_X11_told G z (xs (x + 1).toNatClampNeg) (xs (x + 2).toNatClampNeg) u Q X) (VM := fun w Q => V_X12_told G (z + 476) (xs (x + 1).toNatClampNeg) (xs (x + 2).toNatClampNeg) w Q) (ok := tolO S (xs (x + 1).toNatClampNeg) (xs (x + 2).toNatClampNeg)) (Vl := fun v => v = tolV S (xs (x + 1).toNatClampNeg) (xs (x + 2).toNatClampNeg)) (K := fun u' => V_L_law_1694 G b L xs k z (z + 476) (z + 516) x u') hR hM hS hz hzl (fun v w e1 e2 => e1.trans e2.symm)
    (fun Q X q1 q2 => c_told hR hS (fun o1 => q1 o1 u _ rfl Kc.rfl') (fun o1 => q2 o1 u Kc.rfl'))
    (fun w hw Q q1 q2 => m_told hw hS (fun o1 u' f c => q1 o1 u' _ rfl f c) q2) (fun u' r m => hK u' o S hS r m)⟩
theorem q_934 (hK : hKs G b L xs k z x) (hv : hVs L x) (hR : RC G u z o S) (hM : RM G u (z + 476) S) (hS : okS S) (hz : kd G (z + 516) = 15) (hzl : ln G (z + 516) = 1) : V_L_law_934 G b L xs k z (z + 476) (z + 516) x u := by
  have k11 := hR.1.k
  unfold V_L_law_934 V_L_where
  exact ⟨hv.1, hv.2.1, hv.2.2.1, k11, law_r (VC := fun Q X => V_X11_where G z (xs (x + 1).toNatClampNeg) (xs (x + 2).toNatClampNeg) (xs (x + 3).toNatClampNeg) u Q X) (VM := fun w Q => V_X12_where G (z + 476) (xs (x + 1).toNatClampNeg) (xs (x + 2).toNatClampNeg) (xs (x + 3).toNatClampNeg) w Q) (ok := whO S (xs (x + 1).toNatClampNeg) (xs (x + 2).toNatClampNeg) (xs (x + 3).toNatClampNeg)) (Vl := fun v => v = whV S (xs (x + 1).toNatClampNeg) (xs (x + 2).toNatClampNeg) (xs (x + 3).toNatClampNeg)) (K := fun u' => V_L_law_1694 G b L xs k z (z + 476) (z + 516) x u') hR hM hS hz hzl (fun v w e1 e2 => e1.trans e2.symm)
    (fun Q X q1 q2 => c_where hR hS (fun o1 u' f => q1 o1 u' _ rfl (Kc.of f)) (fun o1 u' f => q2 o1 u' (Kc.of f)))
    (fun w hw Q q1 q2 => m_where hw hS (fun o1 u' f c => q1 o1 u' _ rfl f c) q2) (fun u' r m => hK u' o S hS r m)⟩
theorem q_1014 (hK : hKs G b L xs k z x) (hv : hVs L x) (hR : RC G u z o S) (hM : RM G u (z + 476) S) (hS : okS S) (hz : kd G (z + 516) = 15) (hzl : ln G (z + 516) = 1) : V_L_law_1014 G b L xs k z (z + 476) (z + 516) x u := by
  have k11 := hR.1.k
  unfold V_L_law_1014 V_L_airs
  exact ⟨hv.1, hv.2.1, hv.2.2.1, k11, law_r (VC := fun Q X => V_X11_airs G z (xs (x + 1).toNatClampNeg) (xs (x + 2).toNatClampNeg) (xs (x + 3).toNatClampNeg) u Q X) (VM := fun w Q => V_X12_airs G (z + 476) (xs (x + 1).toNatClampNeg) (xs (x + 2).toNatClampNeg) (xs (x + 3).toNatClampNeg) w Q) (ok := arO S (xs (x + 1).toNatClampNeg) (xs (x + 2).toNatClampNeg) (xs (x + 3).toNatClampNeg)) (Vl := fun v => v = arV S (xs (x + 1).toNatClampNeg) (xs (x + 2).toNatClampNeg) (xs (x + 3).toNatClampNeg)) (K := fun u' => V_L_law_1694 G b L xs k z (z + 476) (z + 516) x u') hR hM hS hz hzl (fun v w e1 e2 => e1.trans e2.symm)
    (fun Q X q1 q2 => c_airs hR hS (fun o1 u' f => q1 o1 u' _ rfl (Kc.of f)) (fun o1 u' f => q2 o1 u' (Kc.of f)))
    (fun w hw Q q1 q2 => m_airs hw hS (fun o1 u' f c => q1 o1 u' _ rfl f c) q2) (fun u' r m => hK u' o S hS r m)⟩
theorem q_1463 (hK : hKs G b L xs k z x) (hv : hVs L x) (hR : RC G u z o S) (hM : RM G u (z + 476) S) (hS : okS S) (hz : kd G (z + 516) = 15) (hzl : ln G (z + 516) = 1) : V_L_law_1463 G b L xs k z (z + 476) (z + 516) x u := by
  have k11 := hR.1.k
  unfold V_L_law_1463 V_L_knows
  exact ⟨hv.1, hv.2.1, hv.2.2.1, hv.2.2.2.1, hv.2.2.2.2.1, k11, law_r (VC := fun Q X => V_X11_knows G z (xs (x + 1).toNatClampNeg) (xs (x + 2).toNatClampNeg) (xs (x + 3).toNatClampNeg) (xs (x + 4).toNatClampNeg) (xs (x + 5).toNatClampNeg) u Q X) (VM := fun w Q => V_X12_knows G (z + 476) (xs (x + 1).toNatClampNeg) (xs (x + 2).toNatClampNeg) (xs (x + 3).toNatClampNeg) (xs (x + 4).toNatClampNeg) (xs (x + 5).toNatClampNeg) w Q) (ok := knO (xs (x + 1).toNatClampNeg) (xs (x + 2).toNatClampNeg) (xs (x + 3).toNatClampNeg) (xs (x + 4).toNatClampNeg) (xs (x + 5).toNatClampNeg)) (Vl := fun v => v = knV S (xs (x + 1).toNatClampNeg) (xs (x + 2).toNatClampNeg) (xs (x + 3).toNatClampNeg) (xs (x + 4).toNatClampNeg) (xs (x + 5).toNatClampNeg)) (K := fun u' => V_L_law_1694 G b L xs k z (z + 476) (z + 516) x u') hR hM hS hz hzl (fun v w e1 e2 => e1.trans e2.symm)
    (fun Q X q1 q2 => c_knows hR hS (fun o1 u' f => q1 o1 u' _ rfl (Kc.of f)) (fun o1 u' f => q2 o1 u' (Kc.of f)))
    (fun w hw Q q1 q2 => m_knows hw hS (fun o1 u' f c => q1 o1 u' _ rfl f c) q2) (fun u' r m => hK u' o S hS r m)⟩
theorem q_1567 (hK : hKs G b L xs k z x) (hv : hVs L x) (hR : RC G u z o S) (hM : RM G u (z + 476) S) (hS : okS S) (hz : kd G (z + 516) = 15) (hzl : ln G (z + 516) = 1) : V_L_law_1567 G b L xs k z (z + 476) (z + 516) x u := by
  have k11 := hR.1.k
  unfold V_L_law_1567 V_L_word
  exact ⟨hv.1, hv.2.1, hv.2.2.1, hv.2.2.2.1, k11, law_r (VC := fun Q X => V_X11_word G z (xs (x + 1).toNatClampNeg) (xs (x + 2).toNatClampNeg) (xs (x + 3).toNatClampNeg) (xs (x + 4).toNatClampNeg) u Q X) (VM := fun w Q => V_X12_word G (z + 476) (xs (x + 1).toNatClampNeg) (xs (x + 2).toNatClampNeg) (xs (x + 3).toNatClampNeg) (xs (x + 4).toNatClampNeg) w Q) (ok := wdO (xs (x + 1).toNatClampNeg) (xs (x + 2).toNatClampNeg) (xs (x + 3).toNatClampNeg) (xs (x + 4).toNatClampNeg)) (Vl := fun v => v = wdV S (xs (x + 1).toNatClampNeg) (xs (x + 2).toNatClampNeg) (xs (x + 3).toNatClampNeg) (xs (x + 4).toNatClampNeg)) (K := fun u' => V_L_law_1694 G b L xs k z (z + 476) (z + 516) x u') hR hM hS hz hzl (fun v w e1 e2 => e1.trans e2.symm)
    (fun Q X q1 q2 => c_word hR hS (fun o1 => q1 o1 u _ rfl Kc.rfl') (fun o1 => q2 o1 u Kc.rfl'))
    (fun w hw Q q1 q2 => m_word hw hS (fun o1 u' f c => q1 o1 u' _ rfl f c) q2) (fun u' r m => hK u' o S hS r m)⟩
theorem q_1094 (hK : hKs G b L xs k z x) (hv : hVs L x) (hR : RC G u z o S) (hM : RM G u (z + 476) S) (hS : okS S) (hz : kd G (z + 516) = 15) (hzl : ln G (z + 516) = 1) : V_L_law_1094 G b L xs k z (z + 476) (z + 516) x u := by
  have k11 := hR.1.k
  unfold V_L_law_1094 V_L_whose
  exact ⟨hv.1, hv.2.1, hv.2.2.1, hv.2.2.2.1, k11, law_r (VC := fun Q X => V_X11_whose G z (xs (x + 1).toNatClampNeg) (xs (x + 2).toNatClampNeg) (xs (x + 3).toNatClampNeg) (xs (x + 4).toNatClampNeg) u Q X) (VM := fun w Q => V_X12_whose G (z + 476) (xs (x + 1).toNatClampNeg) (xs (x + 2).toNatClampNeg) (xs (x + 3).toNatClampNeg) (xs (x + 4).toNatClampNeg) w Q) (ok := wsO S (xs (x + 1).toNatClampNeg) (xs (x + 2).toNatClampNeg) (xs (x + 3).toNatClampNeg) (xs (x + 4).toNatClampNeg)) (Vl := fun v => wsP S (xs (x + 1).toNatClampNeg) (xs (x + 2).toNatClampNeg) (xs (x + 3).toNatClampNeg) (xs (x + 4).toNatClampNeg) v) (K := fun u' => V_L_law_1694 G b L xs k z (z + 476) (z + 516) x u') hR hM hS hz hzl (fun v w e1 e2 => wsP_one e1 e2)
    (fun Q X q1 q2 => c_whose hR hS (fun o1 u' v p f => q1 o1 u' v p (Kc.of f)) (fun o1 u' f => q2 o1 u' (Kc.of f)))
    (fun w hw Q q1 q2 => m_whose hw hS q1 q2) (fun u' r m => hK u' o S hS r m)⟩
theorem q_1186 (hK : hKs G b L xs k z x) (hv : hVs L x) (hR : RC G u z o S) (hM : RM G u (z + 476) S) (hS : okS S) (hz : kd G (z + 516) = 15) (hzl : ln G (z + 516) = 1) : V_L_law_1186 G b L xs k z (z + 476) (z + 516) x u := by
  have k11 := hR.1.k
  unfold V_L_law_1186 V_L_gone
  exact ⟨hv.1, hv.2.1, k11, law_r (VC := fun Q X => V_X11_gone G z (xs (x + 1).toNatClampNeg) (xs (x + 2).toNatClampNeg) u Q X) (VM := fun w Q => V_X12_gone G (z + 476) (xs (x + 1).toNatClampNeg) (xs (x + 2).toNatClampNeg) w Q) (ok := gnO (xs (x + 1).toNatClampNeg) (xs (x + 2).toNatClampNeg)) (Vl := fun v => inN 6 (xs (x + 1).toNatClampNeg) ∧ gnP S (xs (x + 1).toNatClampNeg).toNatClampNeg (xs (x + 2).toNatClampNeg) v) (K := fun u' => V_L_law_1694 G b L xs k z (z + 476) (z + 516) x u') hR hM hS hz hzl (fun v w e1 e2 => gnP_one hS (by obtain ⟨j, hj, e⟩ := e1.1; rw [e, nI_clamp (by omega)]; exact hj) e1.2 e2.2)
    (fun Q X q1 q2 => c_gone hR hS (fun o1 u' v p f => q1 o1 u' v ⟨o1.1, p⟩ f) q2)
    (fun w hw Q q1 q2 => m_gone hw hS (fun o1 u' v p f c => q1 o1 u' v ⟨o1.1, p⟩ f c) q2) (fun u' r m => hK u' o S hS r m)⟩
theorem q_723 (hK : hKs G b L xs k z x) (hv : hVs L x) (hR : RC G u z o S) (hM : RM G u (z + 476) S) (hS : okS S) (hz : kd G (z + 516) = 15) (hzl : ln G (z + 516) = 1) : V_L_law_723 G b L xs k z (z + 476) (z + 516) x u := by
  have k11 := hR.1.k
  unfold V_L_law_723 V_L_tick
  exact ⟨hv.1, hv.2.1, k11, law_t (VC := fun Q X => V_X11_tick G z (xs (x + 1).toNatClampNeg) (xs (x + 2).toNatClampNeg) u Q X) (VM := fun w Q => V_X12_tick G (z + 476) (xs (x + 1).toNatClampNeg) (xs (x + 2).toNatClampNeg) w Q) (ok := inN (bkN (sB S)) (xs (x + 1).toNatClampNeg)) (S' := tkS S (xs (x + 1).toNatClampNeg).toNatClampNeg (xs (x + 2).toNatClampNeg)) (val := tkV S (xs (x + 1).toNatClampNeg).toNatClampNeg (xs (x + 2).toNatClampNeg)) (K := fun u' => V_L_law_1694 G b L xs k z (z + 476) (z + 516) x u') hR hM hS (tkS_ok hS) hz hzl
    (fun Q X q1 q2 => c_tick hR hS q1 q2) (fun w hw Q q1 q2 => m_tick hw hS q1 q2) (fun u' S2 ok r m => hK u' o S2 ok r m)⟩
theorem q_1254 (hK : hKs G b L xs k z x) (hv : hVs L x) (hR : RC G u z o S) (hM : RM G u (z + 476) S) (hS : okS S) (hz : kd G (z + 516) = 15) (hzl : ln G (z + 516) = 1) : V_L_law_1254 G b L xs k z (z + 476) (z + 516) x u := by
  have k11 := hR.1.k
  have mk : kd G (z + 476) = 12 := hM.1.1.2.1
  unfold V_L_law_1254 V_L_plans
  refine ⟨hv.1, hv.2.1, hv.2.2.1, k11, c_plans hR hS (fun u1 kc => ⟨fun e0 => ⟨hz, by rw [hzl]; exact vp_01, fun u2 e2 => ?_⟩, fun e1 => Or.inl ⟨rfl, ?_⟩, fun e1 => Or.inr ⟨rfl, ?_⟩⟩)⟩
  · have r2 : RC G u2 z o S := by rw [e2]; exact (hR.kc hS kc).wL hS
    have m2 : RM G u2 (z + 476) S := by rw [e2]; exact (hM.kc kc).wL
    exact lw_0 (VM := fun w Q => V_X12_plans G (z + 476) (xs (x + 1).toNatClampNeg) (xs (x + 2).toNatClampNeg) (xs (x + 3).toNatClampNeg) w Q) (K := fun u' => V_L_law_1694 G b L xs k z (z + 476) (z + 516) x u') (val := plV S (xs (x + 1).toNatClampNeg) (xs (x + 2).toNatClampNeg) (xs (x + 3).toNatClampNeg)) mk hz hzl (by rw [e2]; exact sL_at) (fun Q q => m_plans m2 hS (fun u' w f c v => by rw [v e0]; exact q u' (fx_L f) (c.trans e0) (hK u' o S hS (r2.ms hS f) (m2.ms f))))
  · have r2 := hR.kc hS kc
    have m2 := hM.kc kc
    exact lw_c (VM := fun w Q => V_X12_plans G (z + 476) (xs (x + 1).toNatClampNeg) (xs (x + 2).toNatClampNeg) (xs (x + 3).toNatClampNeg) w Q) (K := fun u' => V_L_law_1694 G b L xs k z (z + 476) (z + 516) x u') (c := 1) mk (by decide) (fun Q q => m_plans m2 hS (fun u' w f c v => q u' w (c.trans e1) (hK u' o S hS (r2.ms hS f) (m2.ms f))))
  · have r2 := hR.kc hS kc
    have m2 := hM.kc kc
    exact lw_c (VM := fun w Q => V_X12_plans G (z + 476) (xs (x + 1).toNatClampNeg) (xs (x + 2).toNatClampNeg) (xs (x + 3).toNatClampNeg) w Q) (K := fun u' => V_L_law_1694 G b L xs k z (z + 476) (z + 516) x u') (c := 2) mk (by decide) (fun Q q => m_plans m2 hS (fun u' w f c v => q u' w (c.trans e1) (hK u' o S hS (r2.ms hS f) (m2.ms f))))
theorem q_1371 (hK : hKs G b L xs k z x) (hv : hVs L x) (hR : RC G u z o S) (hM : RM G u (z + 476) S) (hS : okS S) (hz : kd G (z + 516) = 15) (hzl : ln G (z + 516) = 1) : V_L_law_1371 G b L xs k z (z + 476) (z + 516) x u := by
  have k11 := hR.1.k
  have mk : kd G (z + 476) = 12 := hM.1.1.2.1
  unfold V_L_law_1371 V_L_next
  refine ⟨hv.1, hv.2.1, hv.2.2.1, hv.2.2.2.1, k11, c_next hR hS (fun u1 kc => ⟨fun e0 => ⟨hz, by rw [hzl]; exact vp_01, fun u2 e2 => ?_⟩, fun e1 => Or.inl ⟨rfl, ?_⟩, fun e1 => Or.inr ⟨rfl, ?_⟩⟩)⟩
  · have r2 : RC G u2 z o S := by rw [e2]; exact (hR.kc hS kc).wL hS
    have m2 : RM G u2 (z + 476) S := by rw [e2]; exact (hM.kc kc).wL
    exact lw_0 (VM := fun w Q => V_X12_next G (z + 476) (xs (x + 1).toNatClampNeg) (xs (x + 2).toNatClampNeg) (xs (x + 3).toNatClampNeg) (xs (x + 4).toNatClampNeg) w Q) (K := fun u' => V_L_law_1694 G b L xs k z (z + 476) (z + 516) x u') (val := nxV S (xs (x + 1).toNatClampNeg) (xs (x + 2).toNatClampNeg) (xs (x + 3).toNatClampNeg) (xs (x + 4).toNatClampNeg)) mk hz hzl (by rw [e2]; exact sL_at) (fun Q q => m_next m2 hS (fun u' w f c v => by rw [v e0]; exact q u' (fx_L f) (c.trans e0) (hK u' o S hS (r2.ms hS f) (m2.ms f))))
  · have r2 := hR.kc hS kc
    have m2 := hM.kc kc
    exact lw_c (VM := fun w Q => V_X12_next G (z + 476) (xs (x + 1).toNatClampNeg) (xs (x + 2).toNatClampNeg) (xs (x + 3).toNatClampNeg) (xs (x + 4).toNatClampNeg) w Q) (K := fun u' => V_L_law_1694 G b L xs k z (z + 476) (z + 516) x u') (c := 1) mk (by decide) (fun Q q => m_next m2 hS (fun u' w f c v => q u' w (c.trans e1) (hK u' o S hS (r2.ms hS f) (m2.ms f))))
  · have r2 := hR.kc hS kc
    have m2 := hM.kc kc
    exact lw_c (VM := fun w Q => V_X12_next G (z + 476) (xs (x + 1).toNatClampNeg) (xs (x + 2).toNatClampNeg) (xs (x + 3).toNatClampNeg) (xs (x + 4).toNatClampNeg) w Q) (K := fun u' => V_L_law_1694 G b L xs k z (z + 476) (z + 516) x u') (c := 2) mk (by decide) (fun Q q => m_next m2 hS (fun u' w f c v => q u' w (c.trans e1) (hK u' o S hS (r2.ms hS f) (m2.ms f))))
theorem q_221 (hK : hKs G b L xs k z x) (hv : hVs L x) (hR : RC G u z o S) (hM : RM G u (z + 476) S) (hS : okS S) (hz : kd G (z + 516) = 15) (hzl : ln G (z + 516) = 1) : V_L_law_221 G b L xs k z (z + 476) (z + 516) x u := by
  have k11 := hR.1.k
  have mk : kd G (z + 476) = 12 := hM.1.1.2.1
  have n700 := hS.2.2.2.1
  unfold V_L_law_221 V_L_land
  refine ⟨hv.1, hv.2.1, k11, c_land hR hS (fun j N hj ej hN eN u1 o1 r1 f1 => ⟨hz, by rw [hzl]; exact vp_01, fun u2 e2 => ?_⟩) (fun n1 => Or.inl ⟨rfl, ?_⟩) (fun i1 n2 => Or.inr ⟨rfl, ?_⟩)⟩
  · have m2 : RM G u2 (z + 476) S := by
      rw [e2]
      exact (hM.keep (fun a j q1 q2 _ => (f1 a j q1).1) (fun a j q1 q2 => (f1 a j q1).2)).wL
    refine lw_0 (VM := fun w Q => V_X12_land G (z + 476) (xs (x + 1).toNatClampNeg) (xs (x + 2).toNatClampNeg) w Q) (K := fun u' => V_L_law_1694 G b L xs k z (z + 476) (z + 516) x u') (val := nI (kC (ldR S N).1)) mk hz hzl (by rw [e2]; exact sL_at) (fun Q q => m_land m2 hS (fun j' N' hj' ej' hN' eN' u' r' ok f c => ?_) (fun n => absurd ⟨j, hj, ej⟩ n) (fun _ n => absurd ⟨N, by omega, eN⟩ n))
    have a1 : j' = j := nI_inj (by omega) (by omega) (ej'.symm.trans ej)
    have a2 : N' = N := nI_inj (by omega) (by omega) (eN'.symm.trans eN)
    subst a1 a2
    have r2 : RC G u2 z o1 (ldS S j' N') := by rw [e2]; exact r1.wL ok
    exact q u' (fx_L f) c (hK u' o1 _ ok (r2.kr ok (f.mono (fun a j q => q.1))) r')
  · exact lw_c (VM := fun w Q => V_X12_land G (z + 476) (xs (x + 1).toNatClampNeg) (xs (x + 2).toNatClampNeg) w Q) (K := fun u' => V_L_law_1694 G b L xs k z (z + 476) (z + 516) x u') (c := 1) mk (by decide) (fun Q q => m_land hM hS (fun j N hj ej => absurd ⟨j, hj, ej⟩ n1) (fun _ u' w f c => q u' w c (hK u' o S hS (hR.ms hS f) (hM.ms f))) (fun i => absurd i n1))
  · exact lw_c (VM := fun w Q => V_X12_land G (z + 476) (xs (x + 1).toNatClampNeg) (xs (x + 2).toNatClampNeg) w Q) (K := fun u' => V_L_law_1694 G b L xs k z (z + 476) (z + 516) x u') (c := 2) mk (by decide) (fun Q q => m_land hM hS (fun j N hj ej hN eN => absurd ⟨N, by omega, eN⟩ n2) (fun n => absurd i1 n) (fun _ _ u' w f c => q u' w c (hK u' o S hS (hR.ms hS f) (hM.ms f))))
theorem q_859 (hK : hKs G b L xs k z x) (hv : hVs L x) (hR : RC G u z o S) (hM : RM G u (z + 476) S) (hS : okS S) (hz : kd G (z + 516) = 15) (hzl : ln G (z + 516) = 1) : V_L_law_859 G b L xs k z (z + 476) (z + 516) x u := by
  have k11 := hR.1.k
  have mk : kd G (z + 476) = 12 := hM.1.1.2.1
  unfold V_L_law_859 V_L_fits
  have same : ∀ u2 : Mm, ∀ a c : Int64, a = c → RC G u2 z o S → RM G u2 (z + 476) S → V_L_law_925 G b L xs k z (z + 476) (z + 516) x a c u2 := by
    intro u2 a c e r m
    unfold V_L_law_925
    exact ⟨fun _ => hK u2 o S hS r m, fun n => n (by rw [e]; exact lg_same _)⟩
  refine ⟨hv.1, hv.2.1, k11, c_fits hR hS (fun o1 u1 f1 => ⟨hz, by rw [hzl]; exact vp_01, fun e u2 e2 => ⟨mk, ?_⟩, fun e u2 e2 => ⟨mk, ?_⟩⟩) (fun o1 u1 f1 => ⟨rfl, mk, ?_⟩)⟩
  · have r2 : RC G u2 z o S := by rw [e2]; exact (hR.kc hS (Kc.of f1)).wL hS
    have m2 : RM G u2 (z + 476) S := by rw [e2]; exact (hM.kc (Kc.of f1)).wL
    refine m_fits m2 hS (fun _ u3 f3 c3 => ⟨mk, fun _ => ⟨fun _ => ⟨hz, by rw [hzl]; exact vp_01, fun _ => same u3 _ _ ?_ (r2.ms hS f3) (m2.ms f3), fun n => absurd e n⟩, fun n => absurd rfl n⟩, fun n => n c3⟩) (fun n => absurd o1 n)
    show u3.2.2 (z + 516) (0 : Int32).toNatClampNeg = 0
    rw [fx_L f3, e2]
    exact sL_at
  · have r2 : RC G u2 z o S := by rw [e2]; exact (hR.kc hS (Kc.of f1)).wL hS
    have m2 : RM G u2 (z + 476) S := by rw [e2]; exact (hM.kc (Kc.of f1)).wL
    refine m_fits m2 hS (fun _ u3 f3 c3 => ⟨mk, fun _ => ⟨fun _ => ⟨hz, by rw [hzl]; exact vp_01, fun n => absurd n e, fun _ => same u3 _ _ ?_ (r2.ms hS f3) (m2.ms f3)⟩, fun n => absurd rfl n⟩, fun n => n c3⟩) (fun n => absurd o1 n)
    show u3.2.2 (z + 516) (0 : Int32).toNatClampNeg = 1
    rw [fx_L f3, e2]
    exact sL_at
  · have r2 := hR.kc hS (Kc.of f1)
    have m2 := hM.kc (Kc.of f1)
    exact m_fits m2 hS (fun n => absurd n o1) (fun _ u3 w f3 c3 => ⟨mk, fun _ => ⟨fun n => absurd n (by decide), fun _ => hK u3 o S hS (r2.ms hS f3) (m2.ms f3)⟩, fun n => n c3⟩)
theorem q_148 (hK : hKs G b L xs k z x) (hv : hVs L x) (hR : RC G u z o S) (hM : RM G u (z + 476) S) (hS : okS S) (hz : kd G (z + 516) = 15) (hzl : ln G (z + 516) = 1) : V_L_law_148 G b L xs k z (z + 476) (z + 516) x u := by
  have mk : kd G (z + 476) = 12 := hM.1.1.2.1
  unfold V_L_law_148
  exact ⟨hv.1, hv.2.1, hv.2.2.1, hv.2.2.2.1, hv.2.2.2.2.1, hR.1.k, c_feed hR hS (fun le u1 r1 f1 => ⟨mk, m_feed (hM.kr f1) hS (fun _ u2 m2 f2 => ⟨fun _ => hK u2 o _ (fd_ok hS le) (r1.kr (fd_ok hS le) (f2.mono (fun a j q => q.1))) m2, fun n => n rfl⟩) (fun n => absurd le n)⟩) (fun n => ⟨mk, m_feed hM hS (fun le => absurd le n) (fun _ u2 m2 f2 => ⟨fun _ => hK u2 o S hS (hR.kr hS (f2.mono (fun a j q => q.1))) m2, fun n => n rfl⟩)⟩)⟩
theorem q_289 (hK : hKs G b L xs k z x) (hv : hVs L x) (hR : RC G u z o S) (hM : RM G u (z + 476) S) (hS : okS S) (hz : kd G (z + 516) = 15) (hzl : ln G (z + 516) = 1) : V_L_law_289 G b L xs k z (z + 476) (z + 516) x u := by
  have mk : kd G (z + 476) = 12 := hM.1.1.2.1
  unfold V_L_law_289
  exact ⟨hR.1.k, c_fault hR ⟨mk, m_fault hM ⟨fun _ => hK _ o S hS (hR.kr hS (Fx.put (by omega))) hM.put, fun n => n rfl⟩⟩⟩
theorem q_662 (hK : hKs G b L xs k z x) (hv : hVs L x) (hR : RC G u z o S) (hM : RM G u (z + 476) S) (hS : okS S) (hz : kd G (z + 516) = 15) (hzl : ln G (z + 516) = 1) : V_L_law_662 G b L xs k z (z + 476) (z + 516) x u := by
  have mk : kd G (z + 476) = 12 := hM.1.1.2.1
  unfold V_L_law_662
  exact ⟨hv.1, hv.2.1, hv.2.2.1, hv.2.2.2.1, hR.1.k, c_station hR hS (fun ok u1 r1 f1 => ⟨mk, m_station (hM.kr f1) hS (fun _ u2 m2 f2 => ⟨fun _ => hK u2 o _ (setB_ok hS (addS_ok hS.2.1 ok)) (r1.kr (setB_ok hS (addS_ok hS.2.1 ok)) (f2.mono (fun a j q => by unfold mbk msc at q; omega))) m2, fun n => n rfl⟩) (fun n => absurd ok n)⟩) (fun ok u1 r1 f1 => ⟨mk, m_station (hM.kr f1) hS (fun n => absurd n ok) (fun _ u2 m2 f2 => ⟨fun _ => hK u2 o _ (setB_ok hS (incR_ok hS.2.1)) (r1.kr (setB_ok hS (incR_ok hS.2.1)) (f2.mono (fun a j q => by unfold mbk msc at q; omega))) m2, fun n => n rfl⟩)⟩)⟩
theorem q_1334 (hK : hKs G b L xs k z x) (hv : hVs L x) (hR : RC G u z o S) (hM : RM G u (z + 476) S) (hS : okS S) (hz : kd G (z + 516) = 15) (hzl : ln G (z + 516) = 1) : V_L_law_1334 G b L xs k z (z + 476) (z + 516) x u := by
  have mk : kd G (z + 476) = 12 := hM.1.1.2.1
  unfold V_L_law_1334
  exact ⟨hv.1, hv.2.1, hR.1.k, c_spot hR hS (fun ok u1 r1 f1 => ⟨mk, m_spot (hM.kr f1) hS (fun _ u2 m2 f2 => ⟨fun _ => hK u2 o _ (setB_ok hS (addP_ok hS.2.1 ok)) (r1.kr (setB_ok hS (addP_ok hS.2.1 ok)) (f2.mono (fun a j q => by unfold mbk msc at q; omega))) m2, fun n => n rfl⟩) (fun n => absurd ok n)⟩) (fun ok u1 r1 f1 => ⟨mk, m_spot (hM.kr f1) hS (fun n => absurd n ok) (fun _ u2 m2 f2 => ⟨fun _ => hK u2 o _ (setB_ok hS (incR_ok hS.2.1)) (r1.kr (setB_ok hS (incR_ok hS.2.1)) (f2.mono (fun a j q => by unfold mbk msc at q; omega))) m2, fun n => n rfl⟩)⟩)⟩
theorem q_1659 (hK : hKs G b L xs k z x) (hv : hVs L x) (hR : RC G u z o S) (hM : RM G u (z + 476) S) (hS : okS S) (hz : kd G (z + 516) = 15) (hzl : ln G (z + 516) = 1) : V_L_law_1659 G b L xs k z (z + 476) (z + 516) x u := by
  have mk : kd G (z + 476) = 12 := hM.1.1.2.1
  unfold V_L_law_1659
  exact ⟨hR.1.k, c_clear hR hS (fun u1 r1 f1 => ⟨mk, m_clear (hM.kr f1) (fun u2 m2 f2 => hK u2 o _ (setB_ok hS clrB_ok) (r1.kr (setB_ok hS clrB_ok) (f2.mono (fun a j q => by unfold mbk msc at q; omega))) m2)⟩)⟩
theorem q_1670 (hK : hKs G b L xs k z x) (hv : hVs L x) (hR : RC G u z o S) (hM : RM G u (z + 476) S) (hS : okS S) (hz : kd G (z + 516) = 15) (hzl : ln G (z + 516) = 1) : V_L_law_1670 G b L xs k z (z + 476) (z + 516) x u := by
  have mk : kd G (z + 476) = 12 := hM.1.1.2.1
  unfold V_L_law_1670
  exact ⟨hR.1.k, c_image hR hS (fun u1 r1 f1 => ⟨mk, m_image (hM.kr f1) hS (fun u2 m2 f2 => hK u2 o _ (setX_ok hS hS.2.1) (r1.kr (setX_ok hS hS.2.1) (f2.mono (fun a j q => q.1))) m2)⟩)⟩
theorem q_1681 (hK : hKs G b L xs k z x) (hv : hVs L x) (hR : RC G u z o S) (hM : RM G u (z + 476) S) (hS : okS S) (hz : kd G (z + 516) = 15) (hzl : ln G (z + 516) = 1) : V_L_law_1681 G b L xs k z (z + 476) (z + 516) x u := by
  have mk : kd G (z + 476) = 12 := hM.1.1.2.1
  unfold V_L_law_1681
  refine ⟨hR.1.k, c_restore hR hS (fun e => ⟨mk, m_restore hM hS (fun _ u2 m2 f2 => ⟨fun _ => hK u2 o S hS (hR.kr hS (f2.mono (fun a j q => by unfold mbk msc at q; omega))) m2, fun n => n rfl⟩) (fun B e2 => absurd (e.symm.trans e2) (fun n => nomatch n))⟩) (fun B e u1 r1 f1 => ⟨mk, m_restore (hM.kr f1) hS (fun e2 => absurd (e2.symm.trans e) (fun n => nomatch n)) (fun B2 e2 u2 m2 f2 => ?_)⟩)⟩
  have eB : B2 = B := Option.some.inj (e2.symm.trans e)
  subst eB
  exact ⟨fun _ => hK u2 o _ (setB_ok hS (hS.2.2.1 _ e)) (r1.kr (setB_ok hS (hS.2.2.1 _ e)) (f2.mono (fun a j q => by unfold mbk msc at q; omega))) m2, fun n => n rfl⟩
end LAW
theorem q_all {G : Gx} {b L : Nat} {xs : Nat → Int32} {z : Nat} (hL : L ≤ 3584) (hz : kd G (z + 516) = 15) (hzl : ln G (z + 516) = 1) : ∀ (f i : Nat) (u : Mm) (o : Nat → Nat) (S : St), i + f = 513 → 1 ≤ f → okS S → RC G u z o S → RM G u (z + 476) S → V_L_law_23 G b L xs f z (z + 476) (z + 516) (nI (7 * i)) u := by
  intro f
  induction f with
  | zero => intro i u o S hi h1; omega
  | succ f ih =>
    intro i u o S hi _ hS hR hM
    show V_L_law_23_B G b L xs (V_L_law_23 G b L xs f) z (z + 476) (z + 516) (nI (7 * i)) u
    unfold V_L_law_23_B
    refine ⟨fun _ => trivial, fun q => ?_⟩
    have le : 7 * i + 7 ≤ L := by
      rcases Nat.lt_or_ge L (7 * i + 7) with r | r
      · refine absurd ?_ q
        rw [Int32.lt_iff_toInt_lt, nI_toInt (by omega)]
        have e7 : (7 : Int32).toInt = 7 := by decide
        have e : (nI L - 7).toInt = (L : Int) - 7 := by
          rw [Int32.toInt_sub, nI_toInt (by omega), e7]
          exact Int.bmod_eq_of_le (by omega) (by omega)
        rw [e]
        omega
      · exact r
    have hK : hKs G b L xs (V_L_law_23 G b L xs f) z (nI (7 * i)) := by
      intro u' o' S' h1 h2 h3
      unfold V_L_law_1694
      intro y hy
      have e7 : nI (7 * i) + 7 = nI (7 * i + 7) := nI_litA 7 _
      rw [hy, e7, show 7 * i + 7 = 7 * (i + 1) by omega]
      exact ih (i + 1) u' o' S' (by omega) (by omega) h1 h2 h3
    have hv : hVs L (nI (7 * i)) := by
      have e1 : nI (7 * i) + 1 = nI (7 * i + 1) := nI_litA 1 _
      have e2 : nI (7 * i) + 2 = nI (7 * i + 2) := nI_litA 2 _
      have e3 : nI (7 * i) + 3 = nI (7 * i + 3) := nI_litA 3 _
      have e4 : nI (7 * i) + 4 = nI (7 * i + 4) := nI_litA 4 _
      have e5 : nI (7 * i) + 5 = nI (7 * i + 5) := nI_litA 5 _
      have e6 : nI (7 * i) + 6 = nI (7 * i + 6) := nI_litA 6 _
      unfold hVs
      rw [e1, e2, e3, e4, e5, e6]
      exact ⟨vp_in_nI (by omega) (by omega), vp_in_nI (by omega) (by omega), vp_in_nI (by omega) (by omega), vp_in_nI (by omega) (by omega), vp_in_nI (by omega) (by omega), vp_in_nI (by omega) (by omega)⟩
    refine ⟨vp_in_nI (by omega) (by omega), fun _ => q_148 hK hv hR hM hS hz hzl, fun _ => q_221 hK hv hR hM hS hz hzl, fun _ => q_289 hK hv hR hM hS hz hzl, fun _ => q_302 hK hv hR hM hS hz hzl, fun _ => q_358 hK hv hR hM hS hz hzl, fun _ => q_426 hK hv hR hM hS hz hzl, fun _ => q_544 hK hv hR hM hS hz hzl, fun _ => q_662 hK hv hR hM hS hz hzl, fun _ => q_723 hK hv hR hM hS hz hzl, fun _ => q_791 hK hv hR hM hS hz hzl, fun _ => q_859 hK hv hR hM hS hz hzl, fun _ => q_934 hK hv hR hM hS hz hzl, fun _ => q_1014 hK hv hR hM hS hz hzl, fun _ => q_1094 hK hv hR hM hS hz hzl, fun _ => q_1186 hK hv hR hM hS hz hzl, fun _ => q_1254 hK hv hR hM hS hz hzl, fun _ => q_1334 hK hv hR hM hS hz hzl, fun _ => q_1371 hK hv hR hM hS hz hzl, fun _ => q_1463 hK hv hR hM hS hz hzl, fun _ => q_1567 hK hv hR hM hS hz hzl, fun _ => q_1659 hK hv hR hM hS hz hzl, fun _ => q_1670 hK hv hR hM hS hz hzl, fun _ => q_1681 hK hv hR hM hS hz hzl, fun _ => hK u o S hS hR hM⟩
