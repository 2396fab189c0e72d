/-! THE CLASS: strengths of a scene, the nearest walls -/
def ER (G : Gx) (u : Mm) (e : Nat) : Prop := 0 < e ∧ kd G e = 3 ∧ AR G u e 1 1 16 ∧ AR G u e 2 2 16 ∧ AR G u e 3 3 16 ∧ AR G u e 4 4 4 ∧ AR G u e 6 5 16
theorem Fx.kER {S : Nat → Nat → Prop} {G : Gx} {u v : Mm} {s : Nat} (h : Fx S u v) (hM : ER G u s) : ER G v s := by
  obtain ⟨a, b, c1, c2, c3, c4, c5⟩ := hM
  exact ⟨a, b, h.kAR c1, h.kAR c2, h.kAR c3, h.kAR c4, h.kAR c5⟩
theorem SC.same {D : Ld} {x y yr : Int32} {tn s w b : Nat} {u v : Mm} (h : SC D x y yr tn s w b u) (e : ∀ a j, s ≤ a → a < s + 7 → gI v a j = gI u a j) : SC D x y yr tn s w b v := by
  obtain ⟨h1, h2, h3, h4, h5⟩ := h
  refine ⟨by rw [e _ _ (by omega) (by omega)]; exact h1, by rw [e _ _ (by omega) (by omega)]; exact h2, by rw [e _ _ (by omega) (by omega)]; exact h3, fun k hk => ?_, fun k hk => ?_⟩
  · rw [e _ _ (by omega) (by omega), e _ _ (by omega) (by omega), e _ _ (by omega) (by omega)]
    exact h4 k hk
  · rw [e _ _ (by omega) (by omega), e _ _ (by omega) (by omega), e _ _ (by omega) (by omega)]
    exact h5 k hk
theorem SC.fx {S : Nat → Nat → Prop} {D : Ld} {x y yr : Int32} {tn s w b : Nat} {u v : Mm} (h : SC D x y yr tn s w b u) (hf : Fx S u v) (hs : ∀ a j, S a j → a < s ∨ s + 7 ≤ a) : SC D x y yr tn s w b v := h.same (fun a j h1 h2 => hf.2 a j (fun c => by have := hs a j c; omega))
theorem SC.putW {D : Ld} {x y yr : Int32} {tn s k : Nat} {u : Mm} (h : SC D x y yr tn s (nW D) (nB D) u) : SC D x y yr tn s (nW D) (nB D) (sI u (s + 5) k (fS D k x y tn)) := by
  obtain ⟨h1, h2, h3, h4, h5⟩ := h
  refine ⟨by rw [gI_sI, if_neg (by omega)]; exact h1, by rw [gI_sI, if_neg (by omega)]; exact h2, by rw [gI_sI, if_neg (by omega)]; exact h3, fun i hi => ?_, fun i hi => ?_⟩
  · rw [gI_sI, if_neg (by omega), gI_sI, if_neg (by omega), gI_sI]
    refine ⟨(h4 i hi).1, (h4 i hi).2.1, ?_⟩
    by_cases g : i = k
    · rw [if_pos ⟨rfl, g⟩, g]
      exact Or.inr rfl
    · rw [if_neg (fun q => g q.2)]
      exact (h4 i hi).2.2
  · rw [gI_sI, if_neg (by omega), gI_sI, if_neg (by omega), gI_sI, if_neg (by omega)]
    exact h5 i hi
theorem SC.putB {D : Ld} {x y yr : Int32} {tn s k : Nat} {u : Mm} (h : SC D x y yr tn s (nW D) (nB D) u) : SC D x y yr tn s (nW D) (nB D) (sI u (s + 6) k (bS D k x y tn)) := by
  obtain ⟨h1, h2, h3, h4, h5⟩ := h
  refine ⟨by rw [gI_sI, if_neg (by omega)]; exact h1, by rw [gI_sI, if_neg (by omega)]; exact h2, by rw [gI_sI, if_neg (by omega)]; exact h3, fun i hi => ?_, fun i hi => ?_⟩
  · rw [gI_sI, if_neg (by omega), gI_sI, if_neg (by omega), gI_sI, if_neg (by omega)]
    exact h4 i hi
  · rw [gI_sI, if_neg (by omega), gI_sI, if_neg (by omega), gI_sI]
    refine ⟨(h5 i hi).1, (h5 i hi).2.1, ?_⟩
    by_cases g : i = k
    · rw [if_pos ⟨rfl, g⟩, g]
      exact Or.inr rfl
    · rw [if_neg (fun q => g q.2)]
      exact (h5 i hi).2.2
section NEAR
variable {G : Gx}
theorem s_X6_wallStrength {u : Mm} {Q : Int32 → Mm → Prop} {a s w tn : Nat} {D : Ld} {x y yr : Int32} (hD : okD D) (hL : LR G u a) (hC : CL u a D) (hS : SR G u s) (hc : SC D x y yr tn s (nW D) (nB D) u) (ht : tn < 3) (hw : w < nW D) (has : a + 24 ≤ s) (hQ : ∀ u', u' = u ∨ u' = sI u (s + 5) w (fS D w x y tn) → gI u' (s + 5) w = fS D w x y tn → Q (fS D w x y tn) u') : V_X6_wallStrength G s a (nI w) u Q := by
  have d1 := hD.1
  obtain ⟨s0, sk, _, _, _, _, ⟨v1, v2, v3⟩, _⟩ := hS
  have hL' := hL
  obtain ⟨l0, lk, l1, l1n, l1r, l2, l2n, l2r, l3, l3n, l3r, lw, lo⟩ := hL'
  obtain ⟨q1, q2, _, _⟩ := lw w (by omega)
  obtain ⟨w0, w1⟩ := hC.2.2.2.2.2.1 w hw
  have ew : (nI w).toNatClampNeg = w := nI_clamp (by omega)
  obtain ⟨hx, hy, htn, hws, hbs⟩ := hc
  obtain ⟨_, _, hcache⟩ := hws w hw
  unfold V_X6_wallStrength
  rw [v3, v1, v2, ew, l1r, l1, l1n, q2]
  refine ⟨sk, by omega, rfl, vp_in_nI (by omega) (by omega), fun c => ⟨lk, by omega, rfl, vp_in_nI (by omega) (by omega), by omega, fun p hp => ?_⟩, fun c => ?_⟩
  · subst hp
    refine ⟨q1, s_X9_footX q1 (s_X9_footY q1 ?_)⟩
    rw [hx, hy, htn, w1 4 (by decide) (by decide), w1 1 (by decide) (by decide), w0]
    refine s_X4_strengthAlong (times := 2) hD hL hC ht (by decide) (fun z hz => ?_)
    have ef : wds D x y (if (if dW D w 0 = 1 then (0 : Int32) else 1) = 0 then x else dW D w 1) (if (if dW D w 0 = 1 then (0 : Int32) else 1) = 0 then dW D w 1 else y) tn 2 (nO D) (1000 * (100 - dW D w 4) / 100) = fS D w x y tn := by
      unfold fS ftX ftY
      by_cases g : dW D w 0 = 1
      · simp [g]
      · simp [g]
    rw [ef] at hz
    subst hz
    unfold V_X6_wallStrength_60
    rw [gR_sI, v3, v1, v2, ew, gI_sI, if_pos ⟨rfl, rfl⟩]
    refine ⟨sk, by omega, rfl, vp_in_nI (by omega) (by omega), hQ _ (Or.inr rfl) ?_⟩
    rw [gI_sI, if_pos ⟨rfl, rfl⟩]
  · have e := hcache.resolve_left c
    unfold V_X6_wallStrength_60
    rw [v3, v1, v2, ew, e]
    exact ⟨sk, by omega, rfl, vp_in_nI (by omega) (by omega), hQ u (Or.inl rfl) e⟩
theorem s_X6_barnStrength {u : Mm} {Q : Int32 → Mm → Prop} {a s w tn : Nat} {D : Ld} {x y yr : Int32} (hD : okD D) (hL : LR G u a) (hC : CL u a D) (hS : SR G u s) (hc : SC D x y yr tn s (nW D) (nB D) u) (ht : tn < 3) (hw : w < nB D) (has : a + 24 ≤ s) (hQ : ∀ u', u' = u ∨ u' = sI u (s + 6) w (bS D w x y tn) → Q (bS D w x y tn) u') : V_X6_barnStrength G s a (nI w) u Q := by
  have d1 := hD.2.1
  obtain ⟨s0, sk, _, _, _, _, _, ⟨v1, v2, v3⟩⟩ := hS
  have hL' := hL
  obtain ⟨l0, lk, l1, l1n, l1r, l2, l2n, l2r, l3, l3n, l3r, lw, lo⟩ := hL'
  obtain ⟨_, _, q1, q2⟩ := lw w (by omega)
  have w1 := hC.2.2.2.2.2.2.1 w hw
  have ew : (nI w).toNatClampNeg = w := nI_clamp (by omega)
  obtain ⟨hx, hy, htn, hws, hbs⟩ := hc
  obtain ⟨_, _, hcache⟩ := hbs w hw
  unfold V_X6_barnStrength
  rw [v3, v1, v2, ew, l2r, l2, l2n, q2]
  refine ⟨sk, by omega, rfl, vp_in_nI (by omega) (by omega), fun c => ⟨lk, by omega, rfl, vp_in_nI (by omega) (by omega), by omega, fun p hp => ?_⟩, fun c => ?_⟩
  · subst hp
    rw [hx, hy, htn, w1 0 (by decide), w1 1 (by decide), w1 2 (by decide)]
    refine ⟨q1, s_X4_strengthAlong (times := 2) hD hL hC ht (by decide) (fun z hz => ?_)⟩
    have hz : z = sI u (s + 6) w (bS D w x y tn) := hz
    subst hz
    unfold V_X6_barnStrength_52
    rw [gR_sI, v3, v1, v2, ew, gI_sI, if_pos ⟨rfl, rfl⟩]
    exact ⟨sk, by omega, rfl, vp_in_nI (by omega) (by omega), hQ _ (Or.inr rfl)⟩
  · have e := hcache.resolve_left c
    unfold V_X6_barnStrength_52
    rw [v3, v1, v2, ew, e]
    exact ⟨sk, by omega, rfl, vp_in_nI (by omega) (by omega), hQ u (Or.inl rfl)⟩
/-- a wall of a side that isn't gone; how far it is -/
def cnd (D : Ld) (aw : Nat) (x y : Int32) (sd o : Nat) : Prop := sdC D o x y = nI sd ∧ aw.testBit (8 + o) = false
def dst (D : Ld) (x y : Int32) (o : Nat) : Int := (ab (rch D o x y)).toInt
def bst (D : Ld) (aw : Nat) (x y : Int32) (sd w b : Nat) : Prop := b < w ∧ cnd D aw x y sd b ∧ ∀ o, o < w → cnd D aw x y sd o → o = b ∨ dst D x y b < dst D x y o ∨ (dst D x y b = dst D x y o ∧ b < o)
/-- the nearest walls of the four sides, of walls below w -/
def NI (D : Ld) (aw : Nat) (x y : Int32) (e w : Nat) (u : Mm) : Prop := ∀ sd, sd < 4 → (gI u (e + 4) sd = -1 ∧ ∀ o, o < w → ¬ cnd D aw x y sd o) ∨ ∃ b, gI u (e + 4) sd = nI b ∧ bst D aw x y sd w b
theorem sdC_cases (D : Ld) (k : Nat) (x y : Int32) : sdC D k x y = -1 ∨ ∃ sd, sd < 4 ∧ sdC D k x y = nI sd := by
  unfold sdC
  split
  · exact Or.inl rfl
  · split
    · split
      · exact Or.inr ⟨3, by decide, rfl⟩
      · exact Or.inr ⟨2, by decide, rfl⟩
    · split
      · exact Or.inr ⟨1, by decide, rfl⟩
      · exact Or.inr ⟨0, by decide, rfl⟩
theorem nI_m1 {k : Nat} (h : k < 2 ^ 31) : nI k ≠ -1 := btw_ne (nI_btw (n := k) (Nat.le_refl k) h)
theorem fn_w {Q : Mm → Prop} {u0 : Mm} {a s e aw tn : Nat} {D : Ld} {x y yr : Int32} (hD : okD D) (hS : SR G u0 s) (hE : ER G u0 e) (hc : SC D x y yr tn s (nW D) (nB D) u0) (hse : s + 7 ≤ e) (ha : aw < 2 ^ 31) (hQ : ∀ u, Fx (fun b _ => b = e + 4) u0 u → NI D aw x y e (nW D) u → Q u) : ∀ (n w : Nat) (u : Mm), w + n = nW D → Fx (fun b _ => b = e + 4) u0 u → NI D aw x y e w u → V_X3_findNearest_26 G Q (n + 1) e s (nI (nW D)) (nI (aw / 2 ^ 8)) (nI w) u := by
  have d1 := hD.1
  intro n
  induction n with
  | zero =>
    intro w u hw hF hN
    show V_X3_findNearest_26_B G Q (V_X3_findNearest_26 G Q 0) e s (nI (nW D)) (nI (aw / 2 ^ 8)) (nI w) u
    unfold V_X3_findNearest_26_B
    refine ⟨fun _ => ?_, fun c => absurd (nI_le (by omega) (by omega)) c⟩
    rw [show w = nW D by omega] at hN
    exact hQ u hF hN
  | succ n ih =>
    intro w u hw hF hN
    obtain ⟨s0, sk, ⟨t1, t2, t3⟩, ⟨r1, r2, r3⟩, _⟩ := hF.kSR hS
    obtain ⟨e0, ek, _, _, _, ⟨n1, n2, n3⟩, _⟩ := hF.kER hE
    obtain ⟨hx, hy, htn, hws, hbs⟩ := hc.fx hF (fun a j h => by omega)
    obtain ⟨g1, g2, g3⟩ := hws w (by omega)
    have ew : (nI w).toNatClampNeg = w := nI_clamp (by omega)
    have go : (∀ sd, sd < 4 → ¬ cnd D aw x y sd w) → V_X3_findNearest_97 G Q (V_X3_findNearest_26 G Q (n + 1)) e s (nI (nW D)) (nI (aw / 2 ^ 8)) (nI w) u := by
      intro hn
      unfold V_X3_findNearest_97
      intro z hz
      rw [hz, nI_1]
      refine ih (w + 1) u (by omega) hF (fun sd hsd => ?_)
      rcases hN sd hsd with h | ⟨b, h1, h2, h3, h4⟩
      · refine Or.inl ⟨h.1, fun o ho => ?_⟩
        by_cases q : o = w
        · rw [q]; exact hn sd hsd
        · exact h.2 o (by omega)
      · refine Or.inr ⟨b, h1, by omega, h3, fun o ho hco => ?_⟩
        by_cases q : o = w
        · rw [q] at hco; exact absurd hco (hn sd hsd)
        · exact h4 o (by omega) hco
    show V_X3_findNearest_26_B G Q (V_X3_findNearest_26 G Q (n + 1)) e s (nI (nW D)) (nI (aw / 2 ^ 8)) (nI w) u
    unfold V_X3_findNearest_26_B
    refine ⟨fun c => ?_, fun _ => ?_⟩
    · rw [nI_leI (by omega) (by omega)] at c
      omega
    · rw [t3, t1, t2, ew, g1]
      refine ⟨sk, by omega, rfl, vp_in_nI (by omega) (by omega), fun z hz => ?_⟩
      subst hz
      refine ⟨fun c => go (fun sd hsd w' => ?_), fun c => ?_⟩
      · rw [w'.1] at c
        exact nI_m1 (by omega) c
      · rw [bit_u (Nat.lt_of_le_of_lt (Nat.div_le_self _ _) ha) (by omega), Nat.testBit_div_two_pow, Nat.add_comm w 8]
        obtain ⟨sd, hsd, esd⟩ := (sdC_cases D w x y).resolve_left c
        rw [esd]
        have esdc : (nI sd).toNatClampNeg = sd := nI_clamp (by omega)
        have g2' := g2 c
        rw [n3, n1, n2, esdc, r3, r1, r2, g2']
        have only : ∀ sd', sd' ≠ sd → sd' < 4 → ¬ cnd D aw x y sd' w := by
          intro sd' h1 h2 h3
          have := h3.1
          rw [esd, nI_eq (by omega) (by omega)] at this
          omega
        refine ⟨fun q => ⟨ek, by omega, rfl, vp_in_nI (by omega) (by omega), fun z hz => ?_⟩, fun q => go (fun sd' h1 h2 => ?_)⟩
        · have q' : aw.testBit (8 + w) = false := by
            cases q2 : aw.testBit (8 + w)
            · rfl
            · rw [q2] at q
              exact absurd q (by decide)
          have put : (∀ o, o < w → cnd D aw x y sd o → dst D x y w < dst D x y o) → V_X3_findNearest_88 G Q (V_X3_findNearest_26 G Q (n + 1)) e s (nI (nW D)) (nI (aw / 2 ^ 8)) (nI w) (nI sd) u := by
            intro hlt
            unfold V_X3_findNearest_88 V_X3_findNearest_97
            rw [n3, n1, n2, esdc]
            refine ⟨ek, by omega, rfl, vp_in_nI (by omega) (by omega), fun z hz y' hy' => ?_⟩
            rw [hy', nI_1, hz]
            refine ih (w + 1) _ (by omega) (hF.trans (Fx.put rfl)) (fun sd' hsd' => ?_)
            rw [gI_sI]
            by_cases g : sd' = sd
            · rw [if_pos ⟨rfl, g⟩, g]
              refine Or.inr ⟨w, rfl, by omega, ⟨esd, q'⟩, fun o ho hco => ?_⟩
              by_cases q3 : o = w
              · exact Or.inl q3
              · exact Or.inr (Or.inl (hlt o (by omega) hco))
            · rw [if_neg (fun q => g q.2)]
              rcases hN sd' hsd' with h | ⟨b, h1, h2, h3, h4⟩
              · refine Or.inl ⟨h.1, fun o ho => ?_⟩
                by_cases q3 : o = w
                · rw [q3]; exact only sd' g hsd'
                · exact h.2 o (by omega)
              · refine Or.inr ⟨b, h1, by omega, h3, fun o ho hco => ?_⟩
                by_cases q3 : o = w
                · rw [q3] at hco; exact absurd hco (only sd' g hsd')
                · exact h4 o (by omega) hco
          rcases hN sd hsd with h | ⟨b, h1, h2, h3, h4⟩
          · rw [h.1] at hz
            subst hz
            exact ⟨fun _ => put (fun o ho hco => absurd hco (h.2 o ho)), fun c => absurd rfl c⟩
          · rw [h1] at hz
            subst hz
            have eb : (nI b).toNatClampNeg = b := nI_clamp (by omega)
            have gb := (hws b (by omega)).2.1 (by rw [h3.1]; exact nI_m1 (by omega))
            refine ⟨fun c => absurd c (nI_m1 (by omega)), fun _ => ⟨by omega, rfl, vp_in_nI (by omega) (by omega), vp_in_nI (by omega) (by omega), ?_⟩⟩
            rw [eb, gb]
            refine ⟨fun c => ?_, fun c => put (fun o ho hco => ?_)⟩
            · rw [fa_le] at c
              unfold V_X3_findNearest_97
              intro z hz
              rw [hz, nI_1]
              refine ih (w + 1) u (by omega) hF (fun sd' hsd' => ?_)
              by_cases g : sd' = sd
              · subst g
                refine Or.inr ⟨b, h1, by omega, h3, fun o ho hco => ?_⟩
                by_cases q3 : o = w
                · subst q3
                  unfold dst
                  omega
                · exact h4 o (by omega) hco
              · rcases hN sd' hsd' with h | ⟨b, h1, h2, h3, h4⟩
                · refine Or.inl ⟨h.1, fun o ho => ?_⟩
                  by_cases q3 : o = w
                  · rw [q3]; exact only sd' g hsd'
                  · exact h.2 o (by omega)
                · refine Or.inr ⟨b, h1, by omega, h3, fun o ho hco => ?_⟩
                  by_cases q3 : o = w
                  · rw [q3] at hco; exact absurd hco (only sd' g hsd')
                  · exact h4 o (by omega) hco
            · rw [fa_le] at c
              have := h4 o ho hco
              unfold dst at *
              by_cases q3 : o = b
              · subst q3; omega
              · omega
        · have q' : aw.testBit (8 + w) = true := by
            cases q2 : aw.testBit (8 + w)
            · rw [q2] at q
              exact absurd rfl q
            · rfl
          rw [h2.2] at q'
          exact absurd q' (by decide)
theorem fn_0 {Q : Mm → Prop} {u0 : Mm} {s e aw tn : Nat} {D : Ld} {x y yr : Int32} (hD : okD D) (hS : SR G u0 s) (hE : ER G u0 e) (hc : SC D x y yr tn s (nW D) (nB D) u0) (hse : s + 7 ≤ e) (ha : aw < 2 ^ 31) (hQ : ∀ u, Fx (fun b _ => b = e + 4) u0 u → NI D aw x y e (nW D) u → Q u) : ∀ (n k : Nat) (u : Mm), k + n = 4 → Fx (fun b _ => b = e + 4) u0 u → (∀ sd, sd < k → gI u (e + 4) sd = -1) → V_X3_findNearest_3 G Q (n + 1) e s (nI (nW D)) (nI (aw / 2 ^ 8)) (nI k) u := by
  intro n
  induction n with
  | zero =>
    intro k u hk hF hN
    show V_X3_findNearest_3_B G Q (V_X3_findNearest_3 G Q 0) e s (nI (nW D)) (nI (aw / 2 ^ 8)) (nI k) u
    unfold V_X3_findNearest_3_B
    refine ⟨fun _ => ?_, fun c => absurd (nI_le (a := 4) (by omega) (by omega)) c⟩
    exact ⟨nW D + 1, fn_w (a := 0) hD hS hE hc hse ha hQ (nW D) 0 u (by omega) hF (fun sd hsd => Or.inl ⟨hN sd (by omega), fun o ho => absurd ho (by omega)⟩)⟩
  | succ n ih =>
    intro k u hk hF hN
    obtain ⟨e0, ek, _, _, _, ⟨n1, n2, n3⟩, _⟩ := hF.kER hE
    have ekk : (nI k).toNatClampNeg = k := nI_clamp (by omega)
    show V_X3_findNearest_3_B G Q (V_X3_findNearest_3 G Q (n + 1)) e s (nI (nW D)) (nI (aw / 2 ^ 8)) (nI k) u
    unfold V_X3_findNearest_3_B
    rw [n3, n1, n2, ekk]
    refine ⟨fun c => ?_, fun _ => ⟨ek, by omega, rfl, vp_in_nI (by omega) (by omega), fun z hz y' hy' => ?_⟩⟩
    · have := (nI_leI (a := 4) (by omega) (by omega)).mp c
      omega
    · rw [hy', nI_1, hz]
      refine ih (k + 1) _ (by omega) (hF.trans (Fx.put rfl)) (fun sd hsd => ?_)
      rw [gI_sI]
      by_cases g : sd = k
      · rw [if_pos ⟨rfl, g⟩]
      · rw [if_neg (fun q => g q.2)]
        exact hN sd (by omega)
theorem s_X3_findNearest {Q : Mm → Prop} {u : Mm} {s e aw tn : Nat} {D : Ld} {x y yr : Int32} (hD : okD D) (hS : SR G u s) (hE : ER G u e) (hc : SC D x y yr tn s (nW D) (nB D) u) (hse : s + 7 ≤ e) (ha : aw < 2 ^ 31) (hQ : ∀ u', Fx (fun b _ => b = e + 4) u u' → NI D aw x y e (nW D) u' → Q u') : V_X3_findNearest G e s (nI (nW D)) (nI (aw / 2 ^ 8)) u Q :=
  ⟨5, fn_0 hD hS hE hc hse ha hQ 4 0 u (by omega) Fx.rfl' (fun sd h => absurd h (by omega))⟩
end NEAR
