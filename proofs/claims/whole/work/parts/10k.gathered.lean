/-! THE CLASS: all echoes gathered -/
theorem hid_bits : ∀ B, B < 64 → ∀ g, g < 64 → ((nI B &&& (nI g ^^^ (-1 : Int32))) = 0 ↔ ∀ j, j < 6 → B.testBit j = true → g.testBit j = true) := by decide +kernel
theorem hid_iff {D : Ld} (hD : okD D) {aw : Nat} (ha : aw < 16384) (x y x2 y2 : Int32) : (nI (bts (fun w => hidW D w x y x2 y2) (nW D)) &&& (nI (aw / 2 ^ 8) ^^^ (-1 : Int32))) = 0 ↔ hdn D aw x y x2 y2 = false := by
  have d1 := hD.1
  have hb := bts_lt (fun w => hidW D w x y x2 y2) (nW D)
  have hp : 2 ^ nW D ≤ 2 ^ 6 := Nat.pow_le_pow_right (by decide) d1
  rw [hid_bits _ (by omega) _ (by omega)]
  unfold hdn
  rw [List.any_eq_false]
  constructor
  · intro h k hk
    rw [List.mem_range] at hk
    have := h k (by omega)
    rw [bts_bit, Nat.testBit_div_two_pow, Nat.add_comm] at this
    simp only [hk, decide_true, Bool.true_and] at this
    cases q : hidW D k x y x2 y2
    · simp
    · rw [this q]; simp
  · intro h j hj hB
    rw [bts_bit] at hB
    simp only [Bool.and_eq_true, decide_eq_true_eq] at hB
    have := h j (List.mem_range.mpr hB.1)
    rw [hB.2] at this
    rw [Nat.testBit_div_two_pow, Nat.add_comm]
    simpa using this
theorem sq_zero {a b : Int} : a * a + b * b = 0 ↔ a = 0 ∧ b = 0 := by
  constructor
  · intro h
    have e1 := Int.natAbs_mul_self (a := a)
    have e2 := Int.natAbs_mul_self (a := b)
    have h2 : a.natAbs * a.natAbs + b.natAbs * b.natAbs = 0 := by omega
    have h3 : a.natAbs * a.natAbs = 0 := by omega
    have h4 : b.natAbs * b.natAbs = 0 := by omega
    rw [Nat.mul_eq_zero] at h3 h4
    omega
  · rintro ⟨rfl, rfl⟩
    rfl
theorem dsq_bd {x y x2 y2 : Int32} (hx : btw 0 40 x) (hy : btw 0 40 y) (hx2 : btw 0 40 x2) (hy2 : btw 0 40 y2) : ((x2 - x) * (x2 - x) + (y2 - y) * (y2 - y)).toInt = (x2.toInt - x.toInt) * (x2.toInt - x.toInt) + (y2.toInt - y.toInt) * (y2.toInt - y.toInt) ∧ btw 0 3200 ((x2 - x) * (x2 - x) + (y2 - y) * (y2 - y)) := by
  obtain ⟨e1, f1⟩ := btw_sub hx2 hx (by decide) (by decide)
  obtain ⟨e2, f2⟩ := btw_sub hy2 hy (by decide) (by decide)
  obtain ⟨g1, k1⟩ := mulI_bd (n := 40) e1 e1 (by decide) (by decide)
  obtain ⟨g2, k2⟩ := mulI_bd (n := 40) e2 e2 (by decide) (by decide)
  unfold btw at k1 k2
  have s := fb_addI (x := (x2 - x) * (x2 - x)) (y := (y2 - y) * (y2 - y)) (by omega) (by omega)
  have p1 := Int.natAbs_mul_self (a := (x2 - x).toInt)
  have p2 := Int.natAbs_mul_self (a := (y2 - y).toInt)
  refine ⟨by rw [s, g1, g2, f1, f2], ?_⟩
  unfold btw
  omega
theorem bsq_iff {D : Ld} (hD : okD D) {k : Nat} {x y yr : Int32} (hk : k < nB D) (hx : btw 0 40 x) (hy : btw 0 40 y) : bsq D x y yr k ≠ 0 ↔ ¬ yr < dB D k 3 ∧ ¬ dB D k 4 < yr ∧ ¬ (dB D k 0 = x ∧ dB D k 1 = y) := by
  obtain ⟨b0, b1, b2⟩ := hD.2.2.2.2.2.2.1 k hk
  unfold bsq
  by_cases c1 : yr < dB D k 3
  · simp [c1]
  · by_cases c2 : dB D k 4 < yr
    · simp [c1, c2]
    · rw [if_neg c1, if_neg c2, Ne, fa_eq, (dsq_bd hx hy b0 b1).1, z32, sq_zero, fa_eq, fa_eq]
      constructor
      · intro h
        exact ⟨c1, c2, fun q => h (by omega)⟩
      · intro h q
        exact h.2.2 (by omega)
section GD
variable {G : Gx}
theorem GI.putW {D : Ld} {aw : Nat} {x y yr : Int32} {tn s e w : Nat} {v : Nat → Int32} {u0 u : Mm} {sd : Nat} {L : List Nat} (h : GI D aw x y yr tn s e v u0 sd L u) (hse : s + 7 ≤ e) : GI D aw x y yr tn s e v u0 sd L (sI u (s + 5) w (fS D w x y tn)) := by
  obtain ⟨h1, h2, h3, h4, h5⟩ := h
  refine ⟨h1.trans (Fx.put (Or.inl (by unfold inS; omega))), h2.putW, h3.same (by rw [gI_sI, if_neg (by omega)]) (fun a j q1 q2 => by rw [gI_sI, if_neg (by omega)]), fun k hk => ?_, fun k o hk ho => ?_⟩
  · rw [gI_sI, if_neg (by omega)]; exact h4 k hk
  · rw [gI_sI]
    by_cases g : o = w
    · rw [if_pos ⟨rfl, g⟩, g]
    · rw [if_neg (fun q => g q.2)]; exact h5 k o hk ho
theorem GI.putB {D : Ld} {aw : Nat} {x y yr : Int32} {tn s e w : Nat} {v : Nat → Int32} {u0 u : Mm} {sd : Nat} {L : List Nat} (h : GI D aw x y yr tn s e v u0 sd L u) (hse : s + 7 ≤ e) : GI D aw x y yr tn s e v u0 sd L (sI u (s + 6) w (bS D w x y tn)) := by
  obtain ⟨h1, h2, h3, h4, h5⟩ := h
  refine ⟨h1.trans (Fx.put (Or.inl (by unfold inS; omega))), h2.putB, h3.same (by rw [gI_sI, if_neg (by omega)]) (fun a j q1 q2 => by rw [gI_sI, if_neg (by omega)]), fun k hk => ?_, fun k o hk ho => ?_⟩
  · rw [gI_sI, if_neg (by omega)]; exact h4 k hk
  · rw [gI_sI, if_neg (by omega)]; exact h5 k o hk ho
theorem ga_b {Q : Mm → Prop} {u0 : Mm} {D : Ld} {aw : Nat} {x y yr : Int32} {tn a s e : Nat} {v : Nat → Int32} (hD : okD D) (ht : tn < 3) (hx : btw 0 40 x) (hy : btw 0 40 y) (ha : aw < 16384) (hL : LR G u0 a) (hC : CL u0 a D) (hS : SR G u0 s) (hE : ER G u0 e) (has : a + 24 ≤ s) (hse : s + 7 ≤ e) (hQ : ∀ u, GI D aw x y yr tn s e v u0 4 (ecs D aw x y yr (nrO v)) u → Q u) : ∀ (n k : Nat) (u : Mm), k + n = nB D → GI D aw x y yr tn s e v u0 4 (lst (nrO v) 4 ++ brn D aw x y yr k) u → V_X3_gather_105 G Q (n + 1) e s a (nI aw) (nI (aw / 2 ^ 8)) (nI k) u := by
  have d2 := hD.2.1
  intro n
  induction n with
  | zero =>
    intro k u hk h
    have hC' := hC.fx hD h.1 (fun b j c => by unfold inS inE at c; omega)
    show V_X3_gather_105_B G Q (V_X3_gather_105 G Q 0) e s a (nI aw) (nI (aw / 2 ^ 8)) (nI k) u
    unfold V_X3_gather_105_B
    rw [hC'.2.1]
    refine ⟨hL.2.1, fun _ => hQ u ?_, fun c => absurd (nI_le (by omega) (by omega)) c⟩
    rw [show k = nB D by omega] at h
    exact h
  | succ n ih =>
    intro k u hk h
    have hC' := hC.fx hD h.1 (fun b j c => by unfold inS inE at c; omega)
    have hS' := h.1.kSR hS
    have hS'' := hS'
    obtain ⟨s0, sk, _, _, ⟨t1, t2, t3⟩, ⟨r1, r2, r3⟩, _⟩ := hS''
    obtain ⟨q1, q2, _⟩ := h.2.1.2.2.2.2 k (by omega)
    have ek : (nI k).toNatClampNeg = k := nI_clamp (by omega)
    have go : ∀ u', GI D aw x y yr tn s e v u0 4 (lst (nrO v) 4 ++ brn D aw x y yr (k + 1)) u' → V_X3_gather_185 G Q (V_X3_gather_105 G Q (n + 1)) e s a (nI aw) (nI (aw / 2 ^ 8)) (nI k) u' := by
      intro u' h'
      unfold V_X3_gather_185
      intro z hz
      rw [hz, nI_1]
      exact ih (k + 1) u' (by omega) h'
    have skip : thB D aw x y yr k = false → V_X3_gather_185 G Q (V_X3_gather_105 G Q (n + 1)) e s a (nI aw) (nI (aw / 2 ^ 8)) (nI k) u := by
      intro hn
      refine go u ?_
      rw [brn, hn]
      simpa using h
    show V_X3_gather_105_B G Q (V_X3_gather_105 G Q (n + 1)) e s a (nI aw) (nI (aw / 2 ^ 8)) (nI k) u
    unfold V_X3_gather_105_B
    rw [hC'.2.1, r3, r1, r2, ek, q2]
    have body : ∀ t : Int32, (bsq D x y yr k ≠ 0 → (t = 0 ↔ hdn D aw x y (dB D k 0) (dB D k 1) = false)) → V_X3_gather_134 G Q (V_X3_gather_105 G Q (n + 1)) e s a (nI aw) (nI (aw / 2 ^ 8)) (nI k) t u := by
      intro t hT
      unfold V_X3_gather_134
      rw [t3, t1, t2, ek, q1, bit_u (by omega) (by omega), l8_add]
      refine ⟨sk, by omega, rfl, vp_in_nI (by omega) (by omega), fun c => skip ?_, fun c => ⟨fun c2 => ⟨fun c3 => ?_, fun c3 => skip ?_⟩, fun c2 => skip ?_⟩⟩
      · refine decide_eq_false (fun w => ?_)
        exact (bsq_iff hD (show k < nB D by omega) hx hy).mpr ⟨w.2.1, w.2.2.1, w.2.2.2.1⟩ c
      · have g1 := (bsq_iff hD (show k < nB D by omega) hx hy).mp c
        have g2 : aw.testBit k = false := by
          cases q : aw.testBit k
          · rfl
          · rw [q] at c2
            exact absurd c2 (by decide)
        have th : thB D aw x y yr k = true := decide_eq_true ⟨g2, g1.1, g1.2.1, g1.2.2, (hT c).mp c3⟩
        have hl : (lst (nrO v) 4 ++ brn D aw x y yr k).length < 16 := by
          have b1 := lst_len (nrO v) 4
          have b2 := brn_len D aw x y yr k
          rw [List.length_append]
          omega
        have fin : ∀ u', GI D aw x y yr tn s e v u0 4 (lst (nrO v) 4 ++ brn D aw x y yr k) u' → V_X3_add G e (nI (8 + k)) (4 * bsq D x y yr k) (bS D k x y tn) u' (fun u_182 => V_X3_gather_185 G Q (V_X3_gather_105 G Q (n + 1)) e s a (nI aw) (nI (aw / 2 ^ 8)) (nI k) u_182) := by
          intro u' h'
          refine s_X3_add (h'.1.kER hE) h'.2.2.1 hl ?_ ?_ (fun u2 f2 l2 => go u2 ?_)
          · unfold sqE sqB bsq
            rw [if_neg g1.1, if_neg g1.2.1, if_neg (show ¬ 8 + k < 8 by omega), if_pos (show 8 + k < 16 by omega), show 8 + k - 8 = k by omega]
          · unfold stE stB
            rw [if_neg (by omega), if_pos (by omega), if_pos (by omega), show 8 + k - 8 = k by omega, if_pos th]
          · rw [brn, if_pos th, ← List.append_assoc]
            exact h'.add hse f2 l2
        refine s_X6_barnStrength hD (h.1.kLR hL) hC' hS' h.2.1 ht (by omega) has (fun u' hu' => ⟨hE.2.1, ?_⟩)
        rcases hu' with hu' | hu'
        · rw [hu']; exact fin u h
        · rw [hu']; exact fin _ (h.putB hse)
      · exact decide_eq_false (fun w => c3 ((hT c).mpr w.2.2.2.2))
      · refine decide_eq_false (fun w => ?_)
        rw [w.1] at c2
        exact c2 rfl
    refine ⟨hL.2.1, fun c => ?_, fun _ => ⟨sk, by omega, rfl, vp_in_nI (by omega) (by omega), fun c => body 0 (fun hb => ?_), fun c => body 1 (fun hb => ?_)⟩⟩
    · rw [nI_leI (by omega) (by omega)] at c
      omega
    · unfold hds at c
      rw [if_neg hb, hid_iff hD ha] at c
      simp [c]
    · unfold hds at c
      rw [if_neg hb, hid_iff hD ha] at c
      simp only [c, iff_false]
      decide
theorem ga_s {Q : Mm → Prop} {u0 : Mm} {D : Ld} {aw : Nat} {x y yr : Int32} {tn a s e : Nat} {v : Nat → Int32} (hD : okD D) (ht : tn < 3) (hx : btw 0 40 x) (hy : btw 0 40 y) (ha : aw < 16384) (hL : LR G u0 a) (hC : CL u0 a D) (hS : SR G u0 s) (hE : ER G u0 e) (has : a + 24 ≤ s) (hse : s + 7 ≤ e) (hnr : nrP D aw x y (nrO v)) (hnv : nrV v) (hQ : ∀ u, GI D aw x y yr tn s e v u0 4 (ecs D aw x y yr (nrO v)) u → Q u) : ∀ (n sd : Nat) (u : Mm), sd + n = 4 → GI D aw x y yr tn s e v u0 sd (lst (nrO v) sd) u → V_X3_gather_25 G Q (n + 1) e s a (nI aw) (nI (aw / 2 ^ 8)) (nI sd) u := by
  have d1 := hD.1
  intro n
  induction n with
  | zero =>
    intro sd u hsd h
    show V_X3_gather_25_B G Q (V_X3_gather_25 G Q 0) e s a (nI aw) (nI (aw / 2 ^ 8)) (nI sd) u
    unfold V_X3_gather_25_B
    rw [show sd = 4 by omega] at *
    refine ⟨fun _ => ⟨nB D + 1, ga_b hD ht hx hy ha hL hC hS hE has hse hQ (nB D) 0 u (by omega) ?_⟩, fun c => absurd (nI_le (a := 4) (b := 4) (by omega) (by omega)) c⟩
    rw [brn, List.append_nil]
    exact h
  | succ n ih =>
    intro sd u hsd h
    have hC' := hC.fx hD h.1 (fun b j c => by unfold inS inE at c; omega)
    have hS' := h.1.kSR hS
    have hS'' := hS'
    obtain ⟨s0, sk, _, ⟨r1, r2, r3⟩, _⟩ := hS''
    obtain ⟨e0, ek, _, _, _, ⟨n1, n2, n3⟩, _⟩ := h.1.kER hE
    have esd : (nI sd).toNatClampNeg = sd := nI_clamp (by omega)
    show V_X3_gather_25_B G Q (V_X3_gather_25 G Q (n + 1)) e s a (nI aw) (nI (aw / 2 ^ 8)) (nI sd) u
    unfold V_X3_gather_25_B
    rw [n3, n1, n2, esd, h.2.2.2.1 sd (by omega)]
    refine ⟨fun c => ?_, fun _ => ⟨ek, by omega, rfl, vp_in_nI (by omega) (by omega), fun z hz => ?_⟩⟩
    · have := (nI_leI (a := 4) (b := sd) (by omega) (by omega)).mp c
      omega
    · rcases hnv sd (by omega) with ⟨g1, g2⟩ | ⟨w, g1, g2⟩
      · rw [g2] at hz
        subst hz
        refine ⟨fun _ => ?_, fun c => absurd rfl c⟩
        unfold V_X3_gather_96
        intro z hz
        rw [hz, nI_1]
        refine ih (sd + 1) u (by omega) ?_
        rw [lst, g1, List.append_nil]
        refine ⟨h.1, h.2.1, h.2.2.1, h.2.2.2.1, fun k o hk ho => ?_⟩
        by_cases q : k = sd
        · rw [q, g1] at ho; cases ho
        · exact h.2.2.2.2 k o (by omega) ho
      · rw [g2] at hz
        subst hz
        obtain ⟨w1, w2, w3, w4⟩ := hnr.got (by omega) g1
        have ew : (nI w).toNatClampNeg = w := nI_clamp (by omega)
        have sw := (sdC_iff (show sd < 4 by omega)).mpr ⟨w2, w3⟩
        have dw := (h.2.1.2.2.2.1 w w1).2.1 (by rw [sw]; exact nI_m1 (by omega))
        rw [r3, r1, r2, ew, dw]
        refine ⟨fun c => absurd c (nI_m1 (by omega)), fun _ => ⟨sk, by omega, rfl, vp_in_nI (by omega) (by omega), ?_⟩⟩
        unfold V_X3_square
        refine s_X6_wallStrength hD (h.1.kLR hL) hC' hS' h.2.1 ht w1 has (fun u' hu' hg' => ?_)
        have h' : GI D aw x y yr tn s e v u0 sd (lst (nrO v) sd) u' := by
          rcases hu' with hu' | hu'
          · rw [hu']; exact h
          · rw [hu']; exact h.putW hse
        have h'' : GI D aw x y yr tn s e v u0 (sd + 1) (lst (nrO v) sd) u' := by
          refine ⟨h'.1, h'.2.1, h'.2.2.1, h'.2.2.2.1, fun k o hk ho => ?_⟩
          by_cases q : k = sd
          · rw [q, g1] at ho
            rw [← Option.some.inj ho]
            exact hg'
          · exact h'.2.2.2.2 k o (by omega) ho
        have b1 := lst_len (nrO v) sd
        have b3 : sd * (sd + 1) ≤ 3 * 4 := Nat.mul_le_mul (by omega) (by omega)
        refine s_X3_add (h'.1.kER hE) h'.2.2.1 (by omega) ?_ ?_ (fun u2 f2 l2 => ⟨sd + 1, ga_j hD ht hS hE hse hnr hnv (by omega) g1 (fun u3 h3 => ih (sd + 1) u3 (by omega) h3) sd 0 u2 (by omega) ?_⟩)
        · unfold sqE sqF
          rw [if_pos (by omega)]
          have := ab_sq (rch D w x y)
          grind
        · unfold stE stF
          rw [if_pos (by omega), if_pos (by omega), w4]
          rfl
        · exact h''.add hse f2 l2
/-- what is gathered -/
def inG (s e : Nat) : Nat → Nat → Prop := fun b j => inS s b j ∨ (b = e ∧ j = 0) ∨ (e + 1 ≤ b ∧ b ≤ e + 4)
theorem s_X3_gather {Q : Mm → Prop} {u : Mm} {D : Ld} {aw : Nat} {x y yr : Int32} {tn a s e : Nat} (hD : okD D) (ht : tn < 3) (hx : btw 0 40 x) (hy : btw 0 40 y) (ha : aw < 16384) (hL : LR G u a) (hC : CL u a D) (hS : SR G u s) (hE : ER G u e) (has : a + 24 ≤ s) (hse : s + 7 ≤ e) (hc : SC D x y yr tn s (nW D) (nB D) u) (hQ : ∀ u' L, Fx (inG s e) u u' → SC D x y yr tn s (nW D) (nB D) u' → EC D aw x y yr tn e L u' → L.Nodup → (∀ k, k ∈ L ↔ k < 80 ∧ stE D aw x y yr tn k ≠ -1) → L.length ≤ 16 → Q u') : V_X3_gather G e s a (nI aw) u Q := by
  unfold V_X3_gather
  refine ⟨hE.2.1, fun w hw z hz => ⟨hL.2.1, ?_⟩⟩
  subst hw
  have ez : z = nI (aw / 2 ^ 8) := by rw [hz]; exact ush_N (j := 8) (by omega) (by decide)
  subst ez
  have F0 : Fx (inG s e) u (sI u e 0 0) := Fx.put (by unfold inG; omega)
  have hc0 : SC D x y yr tn s (nW D) (nB D) (sI u e 0 0) := hc.same (fun b j q1 q2 => by rw [gI_sI, if_neg (by omega)])
  have hC0 : CL (sI u e 0 0) a D := hC.same hD (fun b j q1 q2 => by rw [gI_sI, if_neg (by omega)])
  rw [hC0.1]
  refine s_X3_findNearest hD hS hE hc0 hse (by omega) (fun u1 f1 ni => ⟨5, ?_⟩)
  have hnr := ni.nr hD hx hy
  refine ga_s (v := gI u1 (e + 4)) (u0 := u1) (x := x) (y := y) (yr := yr) hD ht hx hy ha (f1.kLR hL) (hC0.fx hD f1 (fun b j c => by omega)) (f1.kSR hS) (f1.kER hE) has hse hnr (ni.nv hD) (fun u' h' => ?_) 4 0 u1 (by omega) ⟨Fx.rfl', hc0.fx f1 (fun b j c => by omega), ⟨?_, fun i hi => absurd hi (by simp [lst])⟩, fun k _ => rfl, fun k o hk => absurd hk (by omega)⟩
  · refine hQ u' _ ((F0.trans (f1.mono ?_)).trans (h'.1.mono ?_)) h'.2.1 h'.2.2.1 (nodup_ecs hD hnr) (mem_ecs hD ht hnr) ?_
    · intro b j c; unfold inG; omega
    · intro b j c; unfold inG inS; unfold inS inE at c; omega
    · have b1 := lst_len (nrO (gI u1 (e + 4))) 4
      have b2 := brn_len D aw x y yr (nB D)
      have d2 := hD.2.1
      unfold ecs
      rw [List.length_append]
      omega
  · rw [f1.2 e 0 (by omega), gI_sI, if_pos ⟨rfl, rfl⟩]
    rfl
end GD
