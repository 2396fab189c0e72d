/-! THE CLASS: gathering the echoes -/
def EC (D : Ld) (aw : Nat) (x y yr : Int32) (tn e : Nat) (L : List Nat) (u : Mm) : Prop := gI u e 0 = nI L.length ∧ ∀ i, i < L.length → gI u (e + 1) i = nI (L.getD i 0) ∧ gI u (e + 2) i = sqE D x y (L.getD i 0) ∧ gI u (e + 3) i = stE D aw x y yr tn (L.getD i 0)
theorem EC.same {D : Ld} {aw : Nat} {x y yr : Int32} {tn e : Nat} {L : List Nat} {u v : Mm} (h : EC D aw x y yr tn e L u) (h0 : gI v e 0 = gI u e 0) (hs : ∀ a j, e + 1 ≤ a → a ≤ e + 3 → gI v a j = gI u a j) : EC D aw x y yr tn e L v := by
  refine ⟨by rw [h0]; exact h.1, fun i hi => ?_⟩
  rw [hs _ _ (by omega) (by omega), hs _ _ (by omega) (by omega), hs _ _ (by omega) (by omega)]
  exact h.2 i hi
def inE (e : Nat) : Nat → Nat → Prop := fun b j => (b = e ∧ j = 0) ∨ (e + 1 ≤ b ∧ b ≤ e + 3)
theorem gd_l {L M : List Nat} {i : Nat} (h : i < L.length) : (L ++ M).getD i 0 = L.getD i 0 := by
  rw [List.getD_eq_getElem?_getD, List.getD_eq_getElem?_getD, List.getElem?_append_left h]
theorem gd_r {L : List Nat} {n : Nat} : (L ++ [n]).getD L.length 0 = n := by
  rw [List.getD_eq_getElem?_getD, List.getElem?_append_right (Nat.le_refl _)]
  simp
/-- a row of nearest walls holds numbers of walls, or -1 -/
def nrV (v : Nat → Int32) : Prop := ∀ sd, sd < 4 → (nrO v sd = none ∧ v sd = -1) ∨ ∃ b, nrO v sd = some b ∧ v sd = nI b
theorem NI.nv {D : Ld} (hD : okD D) {aw e : Nat} {x y : Int32} {u : Mm} (h : NI D aw x y e (nW D) u) : nrV (gI u (e + 4)) := by
  have d1 := hD.1
  intro sd hsd
  unfold nrO
  rcases h sd hsd with ⟨h1, h2⟩ | ⟨b, h1, h2⟩
  · exact Or.inl ⟨by rw [if_pos h1], h1⟩
  · have hb := h2.1
    exact Or.inr ⟨b, by rw [h1, if_neg (nI_m1 (by omega)), nI_clamp (by omega)], h1⟩
theorem nrV.got {v : Nat → Int32} (h : nrV v) {sd b : Nat} (hs : sd < 4) (hb : nrO v sd = some b) : v sd = nI b := by
  rcases h sd hs with g | ⟨c, g1, g2⟩
  · rw [g.1] at hb; cases hb
  · rw [g1] at hb; cases hb; exact g2
section GATH
variable {G : Gx}
theorem s_X3_add {u : Mm} {Q : Mm → Prop} {D : Ld} {aw : Nat} {x y yr : Int32} {tn e n : Nat} {L : List Nat} {sq st : Int32} (hE : ER G u e) (hL : EC D aw x y yr tn e L u) (hl : L.length < 16) (h1 : sq = sqE D x y n) (h2 : st = stE D aw x y yr tn n) (hQ : ∀ u', Fx (inE e) u u' → EC D aw x y yr tn e (L ++ [n]) u' → Q u') : V_X3_add G e (nI n) sq st u Q := by
  obtain ⟨e0, ek, ⟨a1, a2, a3⟩, ⟨b1, b2, b3⟩, ⟨c1, c2, c3⟩, _⟩ := hE
  have el : (nI L.length).toNatClampNeg = L.length := nI_clamp (by omega)
  unfold V_X3_add
  rw [hL.1, a3, a1, a2, el]
  refine ⟨ek, fun _ => ⟨by omega, rfl, vp_in_nI (by omega) (by omega), fun w1 hw1 => ?_⟩, fun c => ?_⟩
  · subst hw1
    have g1 : gI (sI u (e + 1) L.length (nI n)) e 0 = nI L.length := by rw [gI_sI, if_neg (by omega)]; exact hL.1
    rw [g1, gR_sI, b3, b1, b2, el]
    refine ⟨by omega, rfl, vp_in_nI (by omega) (by omega), fun w2 hw2 => ?_⟩
    subst hw2
    have g2 : gI (sI (sI u (e + 1) L.length (nI n)) (e + 2) L.length sq) e 0 = nI L.length := by rw [gI_sI, if_neg (by omega)]; exact g1
    rw [g2, gR_sI, gR_sI, c3, c1, c2, el]
    refine ⟨by omega, rfl, vp_in_nI (by omega) (by omega), fun w3 hw3 w4 hw4 => ?_⟩
    subst hw3
    have g3 : gI (sI (sI (sI u (e + 1) L.length (nI n)) (e + 2) L.length sq) (e + 3) L.length st) e 0 = nI L.length := by rw [gI_sI, if_neg (by omega)]; exact g2
    rw [g3, nI_1] at hw4
    subst hw4
    refine hQ _ ((((Fx.rfl'.trans (Fx.put ?_)).trans (Fx.put ?_)).trans (Fx.put ?_)).trans (Fx.put ?_)) ⟨?_, fun i hi => ?_⟩
    · unfold inE; omega
    · unfold inE; omega
    · unfold inE; omega
    · unfold inE; omega
    · rw [gI_sI, if_pos ⟨rfl, rfl⟩, List.length_append]; rfl
    · rw [List.length_append] at hi
      simp only [List.length_singleton] at hi
      simp only [gI_sI]
      by_cases g : i = L.length
      · subst g
        rw [gd_r]
        rw [if_neg (by omega), if_neg (by omega), if_neg (by omega), if_pos (by simp), if_neg (by omega), if_neg (by omega), if_pos (by simp), if_neg (by omega), if_pos (by simp)]
        simp [h1, h2]
      · rw [gd_l (by omega)]
        rw [if_neg (by omega), if_neg (by omega), if_neg (by omega), if_neg (by omega), if_neg (by omega), if_neg (by omega), if_neg (by omega), if_neg (by omega), if_neg (by omega), if_neg (by omega), if_neg (by omega), if_neg (by omega)]
        exact hL.2 i (by omega)
  · exact absurd (nI_lt (a := L.length) (b := 16) (by omega) (by omega)) c
theorem mn_N {a b : Nat} (ha : a < 2 ^ 31) (hb : b < 2 ^ 31) : mn (nI a) (nI b) = nI (min a b) := by
  rw [fa_eq, mn_I, nI_toInt ha, nI_toInt hb, nI_toInt (by omega)]
  omega
theorem mx_N {a b : Nat} (ha : a < 2 ^ 31) (hb : b < 2 ^ 31) : mx (nI a) (nI b) = nI (max a b) := by
  rw [fa_eq, mx_I, nI_toInt ha, nI_toInt hb, nI_toInt (by omega)]
  omega
/-- what holds while the echoes are gathered: walls of the first sides have their strengths -/
def GI (D : Ld) (aw : Nat) (x y yr : Int32) (tn s e : Nat) (v : Nat → Int32) (u0 : Mm) (sd : Nat) (L : List Nat) (u : Mm) : Prop :=
  Fx (fun b j => inS s b j ∨ inE e b j) u0 u ∧ SC D x y yr tn s (nW D) (nB D) u ∧ EC D aw x y yr tn e L u ∧ (∀ k, k < 4 → gI u (e + 4) k = v k) ∧ ∀ k o, k < sd → nrO v k = some o → gI u (s + 5) o = fS D o x y tn
theorem GI.add {D : Ld} {aw : Nat} {x y yr : Int32} {tn s e : Nat} {v : Nat → Int32} {u0 u u' : Mm} {sd : Nat} {L L' : List Nat} (h : GI D aw x y yr tn s e v u0 sd L u) (hse : s + 7 ≤ e) (hF : Fx (inE e) u u') (hL : EC D aw x y yr tn e L' u') : GI D aw x y yr tn s e v u0 sd L' u' := by
  obtain ⟨h1, h2, h3, h4, h5⟩ := h
  refine ⟨h1.trans (hF.mono (fun a j c => Or.inr c)), h2.fx hF (fun a j c => by unfold inE at c; omega), hL, fun k hk => ?_, fun k o hk ho => ?_⟩
  · rw [hF.2 _ _ (by unfold inE; omega)]; exact h4 k hk
  · rw [hF.2 _ _ (by unfold inE; omega)]; exact h5 k o hk ho
theorem s_X3_addSecond {u0 u : Mm} {Q : Mm → Prop} {D : Ld} {aw : Nat} {x y yr : Int32} {tn s e ea sd w : Nat} {v : Nat → Int32} {L : List Nat} (hD : okD D) (ht : tn < 3) (hS : SR G u0 s) (hE : ER G u0 e) (hse : s + 7 ≤ e) (hnr : nrP D aw x y (nrO v)) (hnv : nrV v) (hea : ea < sd) (hsd : sd < 4) (hw : nrO v sd = some w) (h : GI D aw x y yr tn s e v u0 (sd + 1) L u) (hl : L.length < 16) (hQ0 : nrO v ea = none → Q u) (hQ1 : ∀ o, nrO v ea = some o → ∀ u', GI D aw x y yr tn s e v u0 (sd + 1) (L ++ [prn o w]) u' → Q u') : V_X3_addSecond G e s (nI ea) (nI sd) u Q := by
  have d1 := hD.1
  have h' := h
  obtain ⟨hF, hc, hL, hv, hst⟩ := h'
  have hE' := hF.kER hE
  have hE'' := hE'
  obtain ⟨e0, ek, _, _, _, ⟨n1, n2, n3⟩, _⟩ := hE''
  obtain ⟨s0, sk, _, ⟨r1, r2, r3⟩, _, _, ⟨v1, v2, v3⟩, _⟩ := hF.kSR hS
  obtain ⟨w1, w2, w3, w4⟩ := hnr.got hsd hw
  have ews : (nI w).toNatClampNeg = w := nI_clamp (by omega)
  have eea : (nI ea).toNatClampNeg = ea := nI_clamp (by omega)
  have esd : (nI sd).toNatClampNeg = sd := nI_clamp (by omega)
  have sw := (sdC_iff hsd).mpr ⟨w2, w3⟩
  have dw := (hc.2.2.2.1 w w1).2.1 (by rw [sw]; exact nI_m1 (by omega))
  have fw := hst sd w (by omega) hw
  unfold V_X3_addSecond
  rw [n3, n1, n2, eea, esd, hv ea (by omega), hv sd hsd, hnv.got hsd hw]
  refine ⟨ek, by omega, rfl, vp_in_nI (by omega) (by omega), fun z hz => ⟨vp_in_nI (by omega) (by omega), fun z2 hz2 => ?_⟩⟩
  subst hz2
  rcases hnv ea (by omega) with ⟨g1, g2⟩ | ⟨o, g1, g2⟩
  · rw [g2] at hz
    subst hz
    exact ⟨fun _ => hQ0 g1, fun c => absurd rfl c⟩
  · rw [g2] at hz
    subst hz
    obtain ⟨o1, o2, o3, o4⟩ := hnr.got (by omega) g1
    have eos : (nI o).toNatClampNeg = o := nI_clamp (by omega)
    have so := (sdC_iff (show ea < 4 by omega)).mpr ⟨o2, o3⟩
    have dd := (hc.2.2.2.1 o o1).2.1 (by rw [so]; exact nI_m1 (by omega))
    have fo := hst ea o (by omega) g1
    refine ⟨fun c => absurd c (nI_m1 (by omega)), fun _ => ⟨fun c => absurd c (nI_m1 (by omega)), fun _ => ?_⟩⟩
    rw [r3, r1, r2, ews, eos, dd, dw]
    refine ⟨sk, by omega, rfl, vp_in_nI (by omega) (by omega), fun z hz => ⟨vp_in_nI (by omega) (by omega), fun z2 hz2 => ?_⟩⟩
    subst hz hz2
    have hcd : cdS D o x y ≠ cdS D w x y := by omega
    have p95 : ∀ t : Int32, t = sqS D x y o w → V_X3_addSecond_95 G Q e s (nI o) (nI w) t u := by
      intro t hT
      unfold V_X3_addSecond_95
      intro z hz
      have ez : z = nI (prn o w) := by
        rw [hz, mn_N (by omega) (by omega), mx_N (by omega) (by omega), show (8 : Int32) * nI (min o w) = nI (8 * min o w) from pk_mul 8 _, show (16 : Int32) + nI (8 * min o w) = nI (16 + 8 * min o w) from nI_add 16 _, nI_add]
        rfl
      subst ez
      rw [v3, v1, v2, eos, ews, fo, fw]
      refine ⟨sk, by omega, rfl, vp_in_nI (by omega) (by omega), vp_in_nI (by omega) (by omega), ek, s_X3_add hE' hL hl ?_ ?_ (fun u' f' l' => ?_)⟩
      · rw [hT, sqE_pr (by omega) (by omega)]
      · rw [stE_pr hD ht o1 w1 o4 w4 hcd]
      · exact hQ1 o g1 u' (h.add hse f' l')
    have lvs : dW D o 0 = dW D w 0 ↔ (sd = 1 ∨ ea = 2) := by
      have l1 := (hD.2.2.2.2.2.1 o o1).1
      have l2 := (hD.2.2.2.2.2.1 w w1).1
      unfold cdS at o3 w3
      rcases l1 with l1 | l1 <;> rcases l2 with l2 | l2 <;> rw [l1] at o3 <;> rw [l2] at w3 <;> rw [l1, l2]
      · simp only [show ((0 : Int32) = 1) = False from by decide, if_false] at o3 w3
        simp only [true_iff]
        split at o3 <;> split at w3 <;> omega
      · simp only [show ((0 : Int32) = 1) = False from by decide, if_false, if_true] at o3 w3
        simp only [show ((0 : Int32) = 1) = False from by decide, false_iff]
        split at o3 <;> split at w3 <;> omega
      · simp only [show ((0 : Int32) = 1) = False from by decide, if_false, if_true] at o3 w3
        simp only [show ((1 : Int32) = 0) = False from by decide, false_iff]
        split at o3 <;> split at w3 <;> omega
      · simp only [if_true] at o3 w3
        simp only [true_iff]
        split at o3 <;> split at w3 <;> omega
    have q2 : ∀ r : Int32, (2 * ab r) * (2 * ab r) = 4 * r * r := by
      intro r
      have := ab_sq r
      grind
    have yes : dW D o 0 = dW D w 0 → V_X3_addSecond_61 G Q e s (nI o) (nI w) (2 * ab (rch D o x y)) (2 * ab (rch D w x y)) u := by
      intro hl
      unfold V_X3_addSecond_61 V_X3_addSecond_66 V_X3_square
      refine ⟨fun c => absurd c (by decide), fun _ => p95 _ ?_⟩
      unfold sqS
      rw [if_pos hl]
    refine ⟨fun c => yes (lvs.mpr (Or.inl ?_)), fun c => ⟨fun c2 => yes (lvs.mpr (Or.inr ?_)), fun c2 => ?_⟩⟩
    · exact (nI_eq (a := sd) (b := 1) (by omega) (by omega)).mp c
    · exact (nI_eq (a := ea) (b := 2) (by omega) (by omega)).mp c2
    · unfold V_X3_addSecond_66 V_X3_square
      refine ⟨fun _ => p95 _ ?_, fun c => absurd rfl c⟩
      have hn : ¬ dW D o 0 = dW D w 0 := by
        intro q
        rcases lvs.mp q with q | q
        · exact c (by rw [q]; rfl)
        · exact c2 (by rw [q]; rfl)
      unfold sqS sqF
      rw [if_neg hn, q2, q2]
theorem ga_j {Q : Mm → Prop} {K : Nat → Nat → Nat → Int32 → Int32 → Int32 → Mm → Prop} {u0 : Mm} {D : Ld} {aw : Nat} {x y yr : Int32} {tn a s e sd w : Nat} {v : Nat → Int32} (hD : okD D) (ht : tn < 3) (hS : SR G u0 s) (hE : ER G u0 e) (hse : s + 7 ≤ e) (hnr : nrP D aw x y (nrO v)) (hnv : nrV v) (hsd : sd < 4) (hw : nrO v sd = some w) (hK : ∀ u, GI D aw x y yr tn s e v u0 (sd + 1) (lst (nrO v) (sd + 1)) u → K e s a (nI aw) (nI (aw / 2 ^ 8)) (nI (sd + 1)) u) : ∀ (n ea : Nat) (u : Mm), ea + n = sd → GI D aw x y yr tn s e v u0 (sd + 1) (lst (nrO v) sd ++ (w :: sec (nrO v) w ea)) u → V_X3_gather_74 G Q K (n + 1) e s a (nI aw) (nI (aw / 2 ^ 8)) (nI sd) (nI ea) u := by
  intro n
  induction n with
  | zero =>
    intro ea u hea h
    show V_X3_gather_74_B G Q K (V_X3_gather_74 G Q K 0) e s a (nI aw) (nI (aw / 2 ^ 8)) (nI sd) (nI ea) u
    unfold V_X3_gather_74_B V_X3_gather_96
    refine ⟨fun _ z hz => ?_, fun c => absurd (nI_le (by omega) (by omega)) c⟩
    rw [hz, nI_1]
    refine hK u ?_
    rw [lst, hw]
    rw [show ea = sd by omega] at h
    exact h
  | succ n ih =>
    intro ea u hea h
    show V_X3_gather_74_B G Q K (V_X3_gather_74 G Q K (n + 1)) e s a (nI aw) (nI (aw / 2 ^ 8)) (nI sd) (nI ea) u
    unfold V_X3_gather_74_B
    have b1 := lst_len (nrO v) sd
    have b2 := sec_len (nrO v) w ea
    have b3 : sd * (sd + 1) ≤ 3 * 4 := Nat.mul_le_mul (by omega) (by omega)
    refine ⟨fun c => ?_, fun _ => ⟨hE.2.1, s_X3_addSecond hD ht hS hE hse hnr hnv (by omega) hsd hw h ?_ (fun hn => ?_) (fun o ho u' h' => ?_)⟩⟩
    · rw [nI_leI (by omega) (by omega)] at c
      omega
    · rw [List.length_append, List.length_cons]
      omega
    · intro z hz
      rw [hz, nI_1]
      refine ih (ea + 1) u (by omega) ?_
      rw [sec, hn]
      simpa using h
    · intro z hz
      rw [hz, nI_1]
      refine ih (ea + 1) u' (by omega) ?_
      rw [sec, ho]
      simpa using h'
end GATH
