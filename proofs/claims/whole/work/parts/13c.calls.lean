/-! A CALL on both sides -/
def cst (z : Nat) : Nat → Nat → Prop := fun a _ => z + 304 ≤ a ∧ a ≤ z + 475
def Kc (z : Nat) (u v : Mm) : Prop := (∀ a j, ¬ csc z a j → gI v a j = gI u a j) ∧ (∀ a j, a ≠ z + 177 → gR v a j = gR u a j) ∧ v.2.2 = u.2.2
theorem Kc.rfl' {z : Nat} {u : Mm} : Kc z u u := ⟨fun _ _ _ => rfl, fun _ _ _ => rfl, rfl⟩
theorem Kc.of {z : Nat} {u v : Mm} (h : Fx (cst z) u v) : Kc z u v := ⟨fun a j q => h.2 a j (fun c => q (Or.inl c)), fun a j _ => h.gR a j, by rw [h.1]⟩
theorem RC.kc {G : Gx} {u v : Mm} {z : Nat} {o : Nat → Nat} {S : St} (h : RC G u z o S) (hS : okS S) (k : Kc z u v) : RC G v z o S := h.keep hS (fun a j _ _ q => k.1 a j q) (fun a j _ _ q => k.2.1 a j q)
theorem RM.kc {G : Gx} {u v : Mm} {z : Nat} {S : St} (h : RM G u (z + 476) S) (k : Kc z u v) : RM G v (z + 476) S := h.keep (fun a j q1 q2 _ => k.1 a j (by unfold csc; omega)) (fun a j q1 _ => k.2.1 a j (by omega))
theorem RC.ms {G : Gx} {u v : Mm} {z : Nat} {o : Nat → Nat} {S : St} (h : RC G u z o S) (hS : okS S) (f : Fx (msc (z + 476)) u v) : RC G v z o S := h.fx hS f (fun a j q => Or.inr (Or.inr (by unfold msc at q; omega)))
theorem RM.ms {G : Gx} {u v : Mm} {m : Nat} {S : St} (h : RM G u m S) (f : Fx (msc m) u v) : RM G v m S := h.fx f (fun a j q => Or.inl q)
theorem lg_same (x : Int64) : lg_cmp x x = 0 := by
  unfold lg_cmp
  rw [if_neg (fun h : x > x => Int64.lt_irrefl h), if_pos rfl]
theorem vp_01 : vp_in (0 : Int32) 1 := by unfold vp_in; decide
/-- a call that answers, or throws one way -/
theorem law_r {G : Gx} {u : Mm} {z : Nat} {o : Nat → Nat} {S : St} {VC : (Int32 → Mm → Prop) → (String → Mm → Prop) → Prop} {VM : Mm → (Int32 → Mm → Prop) → Prop} {ok : Prop} {Vl : Int32 → Prop} {K : Mm → Prop}
    (hR : RC G u z o S) (hM : RM G u (z + 476) S) (hS : okS S) (hz : kd G (z + 516) = 15) (hzl : ln G (z + 516) = 1) (one : ∀ v w, Vl v → Vl w → v = w)
    (hc : ∀ (Q : Int32 → Mm → Prop) (X : String → Mm → Prop), (ok → ∀ u' v, Vl v → Kc z u u' → Q v u') → (¬ ok → ∀ u', Kc z u u' → X "java/util/NoSuchElementException" u') → VC Q X)
    (hm : ∀ u1, RM G u1 (z + 476) S → ∀ (Q : Int32 → Mm → Prop), (ok → ∀ u' v, Vl v → Fx (msc (z + 476)) u1 u' → gI u' (z + 476) 1 = 0 → Q v u') → (¬ ok → ∀ u' v, Fx (msc (z + 476)) u1 u' → gI u' (z + 476) 1 = 1 → Q v u') → VM u1 Q)
    (hK : ∀ u', RC G u' z o S → RM G u' (z + 476) S → K u') :
    VC (fun v u1 => kd G (z + 516) = 15 ∧ vp_in 0 (ln G (z + 516)) ∧ ∀ u2 : Mm, u2 = sL u1 (z + 516) (0 : Int32).toNatClampNeg v.toInt64 → kd G (z + 476) = 12 ∧ VM u2 (fun w u3 => V_X12_thrown G (z + 476) u3 (fun t u4 => ((t = (0 : Int32) → (((0 : Int32) = 0 → kd G (z + 516) = 15 ∧ vp_in (0 : Int32) (ln G (z + 516)) ∧ (((lg_cmp (gL u4 (z + 516) (0 : Int32).toNatClampNeg) (w.toInt64)) = 0 → K u4) ∧ (¬ (lg_cmp (gL u4 (z + 516) (0 : Int32).toNatClampNeg) (w.toInt64)) = 0 → False))) ∧ (¬ (0 : Int32) = 0 → K u4))) ∧ (¬ t = (0 : Int32) → False)))))
      (fun E u1 => E = "java/util/NoSuchElementException" ∧ kd G (z + 476) = 12 ∧ VM u1 (fun w u3 => V_X12_thrown G (z + 476) u3 (fun t u4 => ((t = (1 : Int32) → (((1 : Int32) = 0 → kd G (z + 516) = 15 ∧ vp_in (0 : Int32) (ln G (z + 516)) ∧ (((lg_cmp (gL u4 (z + 516) (0 : Int32).toNatClampNeg) (w.toInt64)) = 0 → K u4) ∧ (¬ (lg_cmp (gL u4 (z + 516) (0 : Int32).toNatClampNeg) (w.toInt64)) = 0 → False))) ∧ (¬ (1 : Int32) = 0 → K u4))) ∧ (¬ t = (1 : Int32) → False))))) := by
  have mk : kd G (z + 476) = 12 := hM.1.1.2.1
  refine hc _ _ (fun o1 u1 v1 p1 k1 => ⟨hz, by rw [hzl]; exact vp_01, fun u2 e2 => ⟨mk, ?_⟩⟩) (fun o1 u1 k1 => ⟨rfl, mk, ?_⟩)
  · subst e2
    have hR1 := (hR.kc hS k1).wL (a := z + 516) (j := (0 : Int32).toNatClampNeg) (v := v1.toInt64) hS
    have hM1 := (hM.kc k1).wL (a := z + 516) (j := (0 : Int32).toNatClampNeg) (v := v1.toInt64)
    refine hm _ hM1 _ (fun _ u3 v2 p2 f3 c3 => ⟨mk, fun _ => ⟨fun _ => ⟨hz, by rw [hzl]; exact vp_01, fun _ => hK u3 (hR1.ms hS f3) (hM1.ms f3), fun c => c ?_⟩, fun c => absurd rfl c⟩, fun c => c c3⟩) (fun n => absurd o1 n)
    have e : gL u3 (z + 516) (0 : Int32).toNatClampNeg = v1.toInt64 := by
      show u3.2.2 (z + 516) (0 : Int32).toNatClampNeg = v1.toInt64
      rw [f3.1]
      show gL (sL u1 (z + 516) (0 : Int32).toNatClampNeg v1.toInt64) (z + 516) (0 : Int32).toNatClampNeg = v1.toInt64
      rw [gL_sL, if_pos ⟨rfl, rfl⟩]
    rw [e, one v1 v2 p1 p2]
    exact lg_same _
  · have hR1 := hR.kc hS k1
    have hM1 := hM.kc k1
    exact hm _ hM1 _ (fun n => absurd n o1) (fun _ u3 v f3 c3 => ⟨mk, fun _ => ⟨fun c => absurd c (by decide), fun _ => hK u3 (hR1.ms hS f3) (hM1.ms f3)⟩, fun c => c c3⟩)
/-! count, about, told -/
def cntV (S : St) (p : Int32) : Int32 := if p = 0 then nI (sN S) else if p = 1 then nI (bkN (sB S)) else if p = 2 then nI (bkS (sB S)) else bkR (sB S) (p.toNatClampNeg - 3)
section CALLS
variable {G : Gx} {u : Mm}
theorem c_count {Q : Int32 → Mm → Prop} {X : String → Mm → Prop} {z : Nat} {o : Nat → Nat} {S : St} {p : Int32} (hR : RC G u z o S) (h1 : inN 7 p → Q (cntV S p) u) (h0 : ¬ inN 7 p → X "java/util/NoSuchElementException" u) : V_X11_count G z p u Q X := by
  obtain ⟨h, _, _, hB, _, hn, _, _⟩ := hR
  obtain ⟨t1, t2, _⟩ := h.2.1
  obtain ⟨c1, b0, bk, _, _, ⟨r1, r2, r3⟩, _⟩ := h.bk
  have hk := h.k
  unfold V_X11_count
  rw [t1, c1, r3, r1, r2, hn, hB.1, hB.2.1]
  refine ⟨fun e => ?_, fun e => ?_, fun e => ?_, fun e => ?_, fun e => ?_, fun e => ?_, fun e => ?_, fun e => h0 (fun g => ?_)⟩
  · subst e
    exact ⟨hk, by omega, t2, h1 ⟨0, by omega, rfl⟩⟩
  · subst e
    exact ⟨hk, by omega, bk, h1 ⟨1, by omega, rfl⟩⟩
  · subst e
    exact ⟨hk, by omega, bk, h1 ⟨2, by omega, rfl⟩⟩
  · subst e
    refine ⟨hk, by omega, bk, by omega, rfl, vp_in_nI (n := 0) (by omega) (by omega), ?_⟩
    have := h1 ⟨3, by omega, rfl⟩
    rw [show (0 : Int32).toNatClampNeg = 0 from rfl, hB.2.2.2.2 0 (by omega)]
    exact this
  · subst e
    refine ⟨hk, by omega, bk, by omega, rfl, vp_in_nI (n := 1) (by omega) (by omega), ?_⟩
    have := h1 ⟨4, by omega, rfl⟩
    rw [show (1 : Int32).toNatClampNeg = 1 from rfl, hB.2.2.2.2 1 (by omega)]
    exact this
  · subst e
    refine ⟨hk, by omega, bk, by omega, rfl, vp_in_nI (n := 2) (by omega) (by omega), ?_⟩
    have := h1 ⟨5, by omega, rfl⟩
    rw [show (2 : Int32).toNatClampNeg = 2 from rfl, hB.2.2.2.2 2 (by omega)]
    exact this
  · subst e
    refine ⟨hk, by omega, bk, by omega, rfl, vp_in_nI (n := 3) (by omega) (by omega), ?_⟩
    have := h1 ⟨6, by omega, rfl⟩
    rw [show (3 : Int32).toNatClampNeg = 3 from rfl, hB.2.2.2.2 3 (by omega)]
    exact this
  · obtain ⟨k, hk7, rfl⟩ := g
    have e7 : k = 0 ∨ k = 1 ∨ k = 2 ∨ k = 3 ∨ k = 4 ∨ k = 5 ∨ k = 6 := by omega
    obtain ⟨q0, q1, q2, q3, q4, q5, q6⟩ := e
    rcases e7 with rfl | rfl | rfl | rfl | rfl | rfl | rfl
    · exact q0 rfl
    · exact q1 rfl
    · exact q2 rfl
    · exact q3 rfl
    · exact q4 rfl
    · exact q5 rfl
    · exact q6 rfl
theorem m_count {Q : Int32 → Mm → Prop} {m : Nat} {S : St} {p : Int32} (hR : RM G u m S) (h1 : inN 7 p → ∀ u', Fx (msc m) u u' → gI u' m 1 = 0 → Q (cntV S p) u') (h0 : ¬ inN 7 p → ∀ u' v, Fx (msc m) u u' → gI u' m 1 = 1 → Q v u') : V_X12_count G m p u Q := by
  have mk : kd G m = 12 := hR.1.1.2.1
  have m0 : 0 < m := hR.1.1.1
  refine ⟨mk, fun w hw => ?_⟩
  subst hw
  obtain ⟨hH, _, hB, _, hn, _, _⟩ := hR.put (c := 0)
  obtain ⟨_, _, ⟨⟨a1, a2, a3⟩, _⟩, _⟩ := hH
  have F0 : Fx (msc m) u (sI u m 1 0) := Fx.code0
  have C0 : gI (sI u m 1 0) m 1 = 0 := gI_code
  rw [hn, hB.1, hB.2.1]
  refine ⟨fun e => ?_, fun e0 => ⟨fun e => ?_, fun e1 => ⟨fun e => ?_, fun e2 => m_isIn (fun a b => ⟨fun c => absurd c (by decide), fun _ => ?_⟩) (fun g => ⟨fun _ => m_fail mk (h0 (fun q => g ?_) _ _ F0.code gI_code), fun c => absurd rfl c⟩)⟩⟩⟩
  · subst e; exact h1 ⟨0, by omega, rfl⟩ _ F0 C0
  · subst e; exact h1 ⟨1, by omega, rfl⟩ _ F0 C0
  · subst e; exact h1 ⟨2, by omega, rfl⟩ _ F0 C0
  · rw [li_3] at a
    rw [li_6] at b
    have hN : inN 7 p := (inN_iff (by omega)).mpr (by omega)
    have hN' := hN
    obtain ⟨k, hk7, rfl⟩ := hN
    rw [nI_toInt (by omega)] at a
    have e3 : nI k - (3 : Int32) = nI (k - 3) := pk_sub (a := k) (b := 3) (by omega)
    rw [a3, a1, a2, e3, nI_clamp (by omega), hB.2.2.2.2 (k - 3) (by omega)]
    refine ⟨by omega, rfl, vp_in_nI (by omega) (by omega), ?_⟩
    have := h1 hN' _ F0 C0
    unfold cntV at this
    rw [if_neg e0, if_neg e1, if_neg e2, nI_clamp (by omega)] at this
    exact this
  · rw [inN_iff (by omega)] at q
    rw [li_3, li_6]
    have z0 : p.toInt ≠ 0 := fun c => e0 (Int32.toInt_inj.mp (by rw [c]; rfl))
    have z1 : p.toInt ≠ 1 := fun c => e1 (Int32.toInt_inj.mp (by rw [c]; rfl))
    have z2 : p.toInt ≠ 2 := fun c => e2 (Int32.toInt_inj.mp (by rw [c]; rfl))
    omega
def abtV (S : St) (l p : Int32) : Int32 := if p = 0 then nI (nW (sD S l.toNatClampNeg)) else if p = 1 then nI (nB (sD S l.toNatClampNeg)) else if p = 2 then nI (nO (sD S l.toNatClampNeg)) else if p = 3 then hE (sD S l.toNatClampNeg) else aI (sD S l.toNatClampNeg)
theorem c_about {Q : Int32 → Mm → Prop} {X : String → Mm → Prop} {z : Nat} {o : Nat → Nat} {S : St} {l p : Int32} (hR : RC G u z o S) (h1 : inN 6 l ∧ inN 5 p → Q (abtV S l p) u) (h0 : ¬ (inN 6 l ∧ inN 5 p) → X "java/util/NoSuchElementException" u) : V_X11_about G z l p u Q X := by
  obtain ⟨h, hL, hC, _⟩ := hR
  refine ⟨h.k, c_needLand h hL (fun k hk e => ?_) (fun g => h0 (fun q => g q.1))⟩
  subst e
  have kl : kd G (lnd z (o k)) = 4 := (h.lr (hL.2.2.1 k (by omega))).2.1
  obtain ⟨d1, d2, d3, d4, d5, _⟩ := hC k hk
  rw [d1, d2, d3, d4, d5]
  have el : (nI k).toNatClampNeg = k := nI_clamp (by omega)
  unfold abtV at h1
  rw [el] at h1
  refine ⟨fun e => ⟨kl, ?_⟩, fun e => ⟨kl, ?_⟩, fun e => ⟨kl, ?_⟩, fun e => ⟨kl, ?_⟩, fun e => ⟨kl, ?_⟩, fun e => h0 (fun g => ?_)⟩
  · subst e; exact h1 ⟨⟨k, hk, rfl⟩, 0, by omega, rfl⟩
  · subst e; exact h1 ⟨⟨k, hk, rfl⟩, 1, by omega, rfl⟩
  · subst e; exact h1 ⟨⟨k, hk, rfl⟩, 2, by omega, rfl⟩
  · subst e; exact h1 ⟨⟨k, hk, rfl⟩, 3, by omega, rfl⟩
  · subst e; exact h1 ⟨⟨k, hk, rfl⟩, 4, by omega, rfl⟩
  · obtain ⟨_, j, hj, rfl⟩ := g
    have e7 : j = 0 ∨ j = 1 ∨ j = 2 ∨ j = 3 ∨ j = 4 := by omega
    obtain ⟨q0, q1, q2, q3, q4⟩ := e
    rcases e7 with rfl | rfl | rfl | rfl | rfl
    · exact q0 rfl
    · exact q1 rfl
    · exact q2 rfl
    · exact q3 rfl
    · exact q4 rfl
theorem m_about {Q : Int32 → Mm → Prop} {m : Nat} {S : St} {l p : Int32} (hR : RM G u m S) (h1 : inN 6 l ∧ inN 5 p → ∀ u', Fx (msc m) u u' → gI u' m 1 = 0 → Q (abtV S l p) u') (h0 : ¬ (inN 6 l ∧ inN 5 p) → ∀ u' v, Fx (msc m) u u' → gI u' m 1 = 1 → Q v u') : V_X12_about G m l p u Q := by
  have mk : kd G m = 12 := hR.1.1.2.1
  have m0 : 0 < m := hR.1.1.1
  refine ⟨mk, fun w hw => ?_⟩
  subst hw
  obtain ⟨hH, hD, _⟩ := hR.put (c := 0)
  obtain ⟨⟨_, _, ⟨a1, a2, a3⟩, ⟨b1, b2, b3⟩, ⟨c1, c2, c3⟩, ⟨d1, d2, d3⟩, ⟨e1, e2, e3⟩, _⟩, _⟩ := hH
  have F0 : Fx (msc m) u (sI u m 1 0) := Fx.code0
  have C0 : gI (sI u m 1 0) m 1 = 0 := gI_code
  refine m_isLand (fun k hk e => ⟨fun c => absurd c (by decide), fun _ => ?_⟩) (fun g => ⟨fun _ => m_fail mk (h0 (fun q => g q.1) _ _ F0.code gI_code), fun c => absurd rfl c⟩)
  subst e
  have el : (nI k).toNatClampNeg = k := nI_clamp (by omega)
  have hv : vp_in (nI k) 7 := vp_in_nI (by omega) (by omega)
  obtain ⟨f1, f2, f3, f4, f5, _⟩ := hD k hk
  rw [a3, a1, a2, b3, b1, b2, c3, c1, c2, d3, d1, d2, e3, e1, e2, el, f1, f2, f3, f4, f5]
  unfold abtV at h1
  rw [el] at h1
  refine ⟨fun e => ⟨by omega, rfl, hv, ?_⟩, fun g0 => ⟨fun e => ⟨by omega, rfl, hv, ?_⟩, fun g1 => ⟨fun e => ⟨by omega, rfl, hv, ?_⟩, fun g2 => ⟨fun e => ⟨by omega, rfl, hv, ?_⟩, fun g3 => ⟨fun e => ⟨by omega, rfl, hv, ?_⟩, fun g4 => m_fail mk (h0 (fun q => ?_) _ _ F0.code gI_code)⟩⟩⟩⟩⟩
  · subst e; exact h1 ⟨⟨k, hk, rfl⟩, 0, by omega, rfl⟩ _ F0 C0
  · subst e; exact h1 ⟨⟨k, hk, rfl⟩, 1, by omega, rfl⟩ _ F0 C0
  · subst e; exact h1 ⟨⟨k, hk, rfl⟩, 2, by omega, rfl⟩ _ F0 C0
  · subst e; exact h1 ⟨⟨k, hk, rfl⟩, 3, by omega, rfl⟩ _ F0 C0
  · subst e; exact h1 ⟨⟨k, hk, rfl⟩, 4, by omega, rfl⟩ _ F0 C0
  · obtain ⟨_, j, hj, rfl⟩ := q
    have e7 : j = 0 ∨ j = 1 ∨ j = 2 ∨ j = 3 ∨ j = 4 := by omega
    rcases e7 with rfl | rfl | rfl | rfl | rfl
    · exact g0 rfl
    · exact g1 rfl
    · exact g2 rfl
    · exact g3 rfl
    · exact g4 rfl
def tolO (S : St) (s p : Int32) : Prop := inN (bkN (sB S)) s ∧ (inN 5 p ∨ ∃ i, i < (bkT (sB S) s.toNatClampNeg).length ∧ p = nI (10 + i))
def tolV (S : St) (s p : Int32) : Int32 := if p < 10 then (if p = 4 then nI (bkT (sB S) s.toNatClampNeg).length else bkF (sB S) s.toNatClampNeg p.toNatClampNeg) else (bkT (sB S) s.toNatClampNeg).getD (p.toNatClampNeg - 10) 0
theorem c_writtenTick {Q : Int32 → Mm → Prop} {X : String → Mm → Prop} {z s : Nat} {B : Bk} {i : Int32} (h : HC0 G u z) (hB : BC u (z + 172) B) (hk : okB B) (hs : s < bkN B) (h1 : ∀ j, j < (bkT B s).length → i = nI j → Q ((bkT B s).getD j 0) u) (h0 : ¬ inN (bkT B s).length i → X "java/util/NoSuchElementException" u) : V_X11_writtenTick G (z + 172 + 6 + 3 * s) i u Q X := by
  obtain ⟨_, _, b1, _, _, _, _, _, b11⟩ := h.bk
  have n20 := hk.1
  have l12 := (hk.2.2.1 s hs).2.2.2
  obtain ⟨_, t0, tk, ⟨w1, w2, w3⟩, _⟩ := b11 s (by omega)
  obtain ⟨_, g1, g2, _⟩ := hB.2.2.1 s hs
  unfold V_X11_writtenTick V_X11_writtenTick_12
  rw [g1, w3, w1, w2]
  refine ⟨fun c => h0 (fun g => ?_), fun c => ⟨tk, fun c2 => ?_, fun c2 => h0 (fun g => ?_)⟩⟩
  · rw [inN_iff (by omega)] at g
    simp only [fa_lt, li_0] at c
    omega
  · obtain ⟨j, hj, e⟩ := (inN_iff (n := (bkT B s).length) (x := i) (by omega)).mpr (by rw [fa_lt, nI_toInt (by omega)] at c2; simp only [fa_lt, li_0] at c; omega)
    subst e
    rw [nI_clamp (by omega), show z + 172 + 6 + 3 * s + 1 = z + 172 + 7 + 3 * s by omega, g2 j hj]
    exact ⟨by omega, rfl, vp_in_nI (by omega) (by omega), h1 j hj rfl⟩
  · rw [inN_iff (by omega)] at g
    rw [fa_lt, nI_toInt (by omega)] at c2
    omega
theorem p_small {p : Int32} (h : ¬ p = 0 ∧ ¬ p = 1 ∧ ¬ p = 2 ∧ ¬ p = 3 ∧ ¬ p = 4) : ¬ inN 5 p := by
  rintro ⟨j, hj, rfl⟩
  obtain ⟨q0, q1, q2, q3, q4⟩ := h
  have e7 : j = 0 ∨ j = 1 ∨ j = 2 ∨ j = 3 ∨ j = 4 := by omega
  rcases e7 with rfl | rfl | rfl | rfl | rfl
  · exact q0 rfl
  · exact q1 rfl
  · exact q2 rfl
  · exact q3 rfl
  · exact q4 rfl
theorem c_told {Q : Int32 → Mm → Prop} {X : String → Mm → Prop} {z : Nat} {o : Nat → Nat} {S : St} {s p : Int32} (hR : RC G u z o S) (hS : okS S) (h1 : tolO S s p → Q (tolV S s p) u) (h0 : ¬ tolO S s p → X "java/util/NoSuchElementException" u) : V_X11_told G z s p u Q X := by
  obtain ⟨h, _, _, hB, _⟩ := hR
  have hk := hS.2.1
  have n20 := hk.1
  refine ⟨h.k, c_needStation h hB hk (fun k hks e => ?_) (fun g => h0 (fun q => g q.1))⟩
  subst e
  have kt := (h.bk.2.2.2.2.2.2.2.2 k (by omega)).2.2.1
  have l12 := (hk.2.2.1 k hks).2.2.2
  obtain ⟨f, g1, _, _⟩ := hB.2.2.1 k hks
  have el : (nI k).toNatClampNeg = k := nI_clamp (by omega)
  unfold tolV at h1
  unfold tolO at h1 h0
  rw [el] at h1 h0
  rw [f 0 (by omega), f 1 (by omega), f 2 (by omega), f 3 (by omega), g1]
  refine ⟨fun e => ⟨kt, ?_⟩, fun e => ⟨kt, ?_⟩, fun e => ⟨kt, ?_⟩, fun e => ⟨kt, ?_⟩, fun e => ⟨kt, ?_⟩, fun e => ⟨fun c => ?_, fun c => ?_⟩⟩
  · subst e; exact h1 ⟨⟨k, hks, rfl⟩, Or.inl ⟨0, by omega, rfl⟩⟩
  · subst e; exact h1 ⟨⟨k, hks, rfl⟩, Or.inl ⟨1, by omega, rfl⟩⟩
  · subst e; exact h1 ⟨⟨k, hks, rfl⟩, Or.inl ⟨2, by omega, rfl⟩⟩
  · subst e; exact h1 ⟨⟨k, hks, rfl⟩, Or.inl ⟨3, by omega, rfl⟩⟩
  · subst e; exact h1 ⟨⟨k, hks, rfl⟩, Or.inl ⟨4, by omega, rfl⟩⟩
  · have c' : 10 ≤ p.toInt := by rw [fa_le, li_10] at c; exact c
    have ep : (p - 10).toInt = p.toInt - 10 := by
      rw [fb_subI (by rw [li_10]; omega) (by rw [li_10]; have := fb_rng p; omega), li_10]
    refine c_writtenTick h hB hk hks (fun j hj e2 => ?_) (fun g => h0 (fun q => ?_))
    · have e3 : p = nI (10 + j) := by
        apply Int32.toInt_inj.mp
        rw [nI_toInt (by omega)]
        have := congrArg Int32.toInt e2
        rw [nI_toInt (by omega), ep] at this
        omega
      have := h1 ⟨⟨k, hks, rfl⟩, Or.inr ⟨j, hj, e3⟩⟩
      rw [if_neg (by rw [fa_lt, li_10]; omega), e3, nI_clamp (by omega), Nat.add_sub_cancel_left] at this
      exact this
    · rcases q.2 with q | ⟨i, hi, e3⟩
      · exact p_small e q
      · refine g ⟨i, hi, ?_⟩
        rw [e3]
        have := pk_sub (a := 10 + i) (b := 10) (by omega)
        rw [Nat.add_sub_cancel_left] at this
        exact this
  · refine c_writtenTick h hB hk hks (fun j hj e2 => absurd e2.symm (nI_m1 (by omega))) (fun g => h0 (fun q => ?_))
    rcases q.2 with q | ⟨i, hi, e3⟩
    · exact p_small e q
    · rw [e3, fa_le, li_10, nI_toInt (by omega)] at c
      omega
theorem m_told {Q : Int32 → Mm → Prop} {m : Nat} {S : St} {s p : Int32} (hR : RM G u m S) (hS : okS S) (h1 : tolO S s p → ∀ u', Fx (msc m) u u' → gI u' m 1 = 0 → Q (tolV S s p) u') (h0 : ¬ tolO S s p → ∀ u' v, Fx (msc m) u u' → gI u' m 1 = 1 → Q v u') : V_X12_told G m s p u Q := by
  have mk : kd G m = 12 := hR.1.1.2.1
  have m0 : 0 < m := hR.1.1.1
  have hk := hS.2.1
  have n20 := hk.1
  refine ⟨mk, fun w hw => ?_⟩
  subst hw
  obtain ⟨hH, _, hB, _⟩ := hR.put (c := 0)
  obtain ⟨_, _, ⟨_, _, ⟨a1, a2, a3⟩, ⟨b1, b2, b3⟩, ⟨c1, c2, c3⟩, ⟨d1, d2, d3⟩, ⟨e1, e2, e3⟩, ⟨t1, t2, t3⟩, _⟩, _⟩ := hH
  have F0 : Fx (msc m) u (sI u m 1 0) := Fx.code0
  have C0 : gI (sI u m 1 0) m 1 = 0 := gI_code
  refine m_isStation mk n20 hB.1 (fun k hks e => ⟨fun c => absurd c (by decide), fun _ => ?_⟩) (fun g => ⟨fun _ => m_fail mk (h0 (fun q => g q.1) _ _ F0.code gI_code), fun c => absurd rfl c⟩)
  subst e
  have l12 := (hk.2.2.1 k hks).2.2.2
  have el : (nI k).toNatClampNeg = k := nI_clamp (by omega)
  have hv : vp_in (nI k) 20 := vp_in_nI (by omega) (by omega)
  obtain ⟨f, g1, g2, _⟩ := hB.2.2.1 k hks
  have f0 := f 0 (by omega)
  have f1 := f 1 (by omega)
  have f2 := f 2 (by omega)
  have f3 := f 3 (by omega)
  simp only [Nat.add_assoc, Nat.reduceAdd] at f0 f1 f2 f3 g1 g2
  rw [a3, a1, a2, b3, b1, b2, c3, c1, c2, d3, d1, d2, e3, e1, e2, el, f0, f1, f2, f3, g1]
  unfold tolV at h1
  unfold tolO at h1 h0
  rw [el] at h1 h0
  refine ⟨fun lt => ?_, fun nlt => ?_⟩
  · refine ⟨fun e => ⟨by omega, rfl, hv, ?_⟩, fun e => ⟨by omega, rfl, hv, ?_⟩, fun e => ⟨by omega, rfl, hv, ?_⟩, fun e => ⟨by omega, rfl, hv, ?_⟩, fun e => ⟨by omega, rfl, hv, ?_⟩, fun e => m_fail mk (h0 (fun q => ?_) _ _ F0.code gI_code)⟩
    · subst e; exact h1 ⟨⟨k, hks, rfl⟩, Or.inl ⟨0, by omega, rfl⟩⟩ _ F0 C0
    · subst e; exact h1 ⟨⟨k, hks, rfl⟩, Or.inl ⟨1, by omega, rfl⟩⟩ _ F0 C0
    · subst e; exact h1 ⟨⟨k, hks, rfl⟩, Or.inl ⟨2, by omega, rfl⟩⟩ _ F0 C0
    · subst e; exact h1 ⟨⟨k, hks, rfl⟩, Or.inl ⟨3, by omega, rfl⟩⟩ _ F0 C0
    · subst e; exact h1 ⟨⟨k, hks, rfl⟩, Or.inl ⟨4, by omega, rfl⟩⟩ _ F0 C0
    · rcases q.2 with q | ⟨i, hi, e3⟩
      · exact p_small e q
      · rw [e3, fa_lt, li_10, nI_toInt (by omega)] at lt
        omega
  · rw [fa_lt, li_10] at nlt
    have ep : (p - 10).toInt = p.toInt - 10 := by
      rw [fb_subI (by rw [li_10]; omega) (by rw [li_10]; have := fb_rng p; omega), li_10]
    refine ⟨by omega, rfl, hv, fun c => m_fail mk (h0 (fun q => ?_) _ _ F0.code gI_code), fun c => ?_⟩
    · rcases q.2 with q | ⟨i, hi, e3⟩
      · rw [inN_iff (by omega)] at q
        omega
      · rw [fa_le, nI_toInt (by omega), ep, e3, nI_toInt (by omega)] at c
        omega
    · rw [fa_le, nI_toInt (by omega), ep] at c
      obtain ⟨j, hj, e4⟩ := (inN_iff (n := 10 + (bkT (sB S) k).length) (x := p) (by omega)).mpr (by omega)
      subst e4
      rw [nI_toInt (by omega)] at nlt
      have e5 : (((12 : Int32) * nI k) + nI j) - (10 : Int32) = nI (12 * k + (j - 10)) := by
        rw [nI_litM, nI_add]
        have := pk_sub (a := 12 * k + j) (b := 10) (by omega)
        rw [show 12 * k + j - 10 = 12 * k + (j - 10) by omega] at this
        exact this
      rw [t3, t1, t2, e5, nI_clamp (by omega), g2 (j - 10) (by omega)]
      refine ⟨by omega, rfl, vp_in_nI (by omega) (by omega), ?_⟩
      have := h1 ⟨⟨k, hks, rfl⟩, Or.inr ⟨j - 10, by omega, by rw [show 10 + (j - 10) = j by omega]⟩⟩ _ F0 C0
      rw [if_neg (by rw [fa_lt, li_10, nI_toInt (by omega)]; omega), nI_clamp (by omega)] at this
      exact this
end CALLS
