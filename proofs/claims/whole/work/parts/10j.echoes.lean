/-! THE CLASS: gathering the echoes -/
def EC (D : Ld) (aw : Nat) (x y yr : Int32) (tn e : Nat) (L : List Nat) (u : Mm) : Prop := gI u e 0 = nI L.length ∧ ∀ i, i < L.length → gI u (e + 1) i = nI (L.getD i 0) ∧ gI u (e + 2) i = sqE D x y (L.getD i 0) ∧ gI u (e + 3) i = stE D aw x y yr tn (L.getD i 0)
theorem EC.same {D : Ld} {aw : Nat} {x y yr : Int32} {tn e : Nat} {L : List Nat} {u v : Mm} (h : EC D aw x y yr tn e L u) (h0 : gI v e 0 = gI u e 0) (hs : ∀ a j, e + 1 ≤ a → a ≤ e + 3 → gI v a j = gI u a j) : EC D aw x y yr tn e L v := by
  refine ⟨by rw [h0]; exact h.1, fun i hi => ?_⟩
  rw [hs _ _ (by omega) (by omega), hs _ _ (by omega) (by omega), hs _ _ (by omega) (by omega)]
  exact h.2 i hi
def inE (e : Nat) : Nat → Nat → Prop := fun b j => (b = e ∧ j = 0) ∨ (e + 1 ≤ b ∧ b ≤ e + 3)
section GATH
variable {G : Gx}
theorem s_X3_add {u : Mm} {Q : Mm → Prop} {D : Ld} {aw : Nat} {x y yr : Int32} {tn e n : Nat} {L : List Nat} {sq st : Int32} (hE : ER G u e) (hL : EC D aw x y yr tn e L u) (hl : L.length < 16) (h1 : sq = sqE D x y n) (h2 : st = stE D aw x y yr tn n) (hQ : ∀ u', Fx (inE e) u u' → EC D aw x y yr tn e (L ++ [n]) u' → Q u') : V_X3_add G e (nI n) sq st u Q := by
  obtain ⟨e0, ek, ⟨a1, a2, a3⟩, ⟨b1, b2, b3⟩, ⟨c1, c2, c3⟩, _⟩ := hE
  have el : (nI L.length).toNatClampNeg = L.length := nI_clamp (by omega)
  unfold V_X3_add
  rw [hL.1, a3, a1, a2, el]
  refine ⟨ek, fun _ => ⟨by omega, rfl, vp_in_nI (by omega) (by omega), fun w1 hw1 => ?_⟩, fun c => ?_⟩
  · subst hw1
    have g1 : gI (sI u (e + 1) L.length (nI n)) e 0 = nI L.length := by rw [gI_sI, if_neg (by omega)]; exact hL.1
    rw [g1, gR_sI, b3, b1, b2, el]
    refine ⟨by omega, rfl, vp_in_nI (by omega) (by omega), fun w2 hw2 => ?_⟩
    subst hw2
    have g2 : gI (sI (sI u (e + 1) L.length (nI n)) (e + 2) L.length sq) e 0 = nI L.length := by rw [gI_sI, if_neg (by omega)]; exact g1
    rw [g2, gR_sI, gR_sI, c3, c1, c2, el]
    refine ⟨by omega, rfl, vp_in_nI (by omega) (by omega), fun w3 hw3 w4 hw4 => ?_⟩
    subst hw3
    have g3 : gI (sI (sI (sI u (e + 1) L.length (nI n)) (e + 2) L.length sq) (e + 3) L.length st) e 0 = nI L.length := by rw [gI_sI, if_neg (by omega)]; exact g2
    rw [g3, nI_1] at hw4
    subst hw4
    refine hQ _ ((((Fx.rfl'.trans (Fx.put ?_)).trans (Fx.put ?_)).trans (Fx.put ?_)).trans (Fx.put ?_)) ⟨?_, fun i hi => ?_⟩
    · unfold inE; omega
    · unfold inE; omega
    · unfold inE; omega
    · unfold inE; omega
    · rw [gI_sI, if_pos ⟨rfl, rfl⟩, List.length_append]; rfl
    · rw [List.length_append] at hi
      simp only [List.length_singleton] at hi
      simp only [gI_sI]
      by_cases g : i = L.length
      · subst g
        rw [List.getD_append_right _ _ _ _ (Nat.le_refl _)]
        rw [if_neg (by omega), if_neg (by omega), if_neg (by omega), if_pos (by simp), if_neg (by omega), if_neg (by omega), if_pos (by simp), if_neg (by omega), if_pos (by simp)]
        simp [h1, h2]
      · rw [List.getD_append _ _ _ _ (by omega)]
        rw [if_neg (by omega), if_neg (by omega), if_neg (by omega), if_neg (by omega), if_neg (by omega), if_neg (by omega), if_neg (by omega), if_neg (by omega), if_neg (by omega), if_neg (by omega), if_neg (by omega), if_neg (by omega)]
        exact hL.2 i (by omega)
  · exact absurd (nI_lt (a := L.length) (b := 16) (by omega) (by omega)) c
theorem mn_N {a b : Nat} (ha : a < 2 ^ 31) (hb : b < 2 ^ 31) : mn (nI a) (nI b) = nI (min a b) := by
  rw [fa_eq, mn_I, nI_toInt ha, nI_toInt hb, nI_toInt (by omega)]
  omega
theorem mx_N {a b : Nat} (ha : a < 2 ^ 31) (hb : b < 2 ^ 31) : mx (nI a) (nI b) = nI (max a b) := by
  rw [fa_eq, mx_I, nI_toInt ha, nI_toInt hb, nI_toInt (by omega)]
  omega
/-- what holds while the echoes are gathered: walls of the first sides have their strengths -/
def GI (D : Ld) (aw : Nat) (x y yr : Int32) (tn s e : Nat) (v : Nat → Int32) (u0 : Mm) (sd : Nat) (L : List Nat) (u : Mm) : Prop :=
  Fx (fun b j => inS s b j ∨ inE e b j) u0 u ∧ SC D x y yr tn s (nW D) (nB D) u ∧ EC D aw x y yr tn e L u ∧ (∀ k, k < 4 → gI u (e + 4) k = v k) ∧ ∀ k o, k < sd → nrO v k = some o → gI u (s + 5) o = fS D o x y tn
theorem GI.add {D : Ld} {aw : Nat} {x y yr : Int32} {tn s e : Nat} {v : Nat → Int32} {u0 u u' : Mm} {sd : Nat} {L L' : List Nat} (h : GI D aw x y yr tn s e v u0 sd L u) (hse : s + 7 ≤ e) (hF : Fx (inE e) u u') (hL : EC D aw x y yr tn e L' u') : GI D aw x y yr tn s e v u0 sd L' u' := by
  obtain ⟨h1, h2, h3, h4, h5⟩ := h
  refine ⟨h1.trans (hF.mono (fun a j c => Or.inr c)), h2.fx hF (fun a j c => by unfold inE at c; omega), hL, fun k hk => ?_, fun k o hk ho => ?_⟩
  · rw [hF.2 _ _ (by unfold inE; omega)]; exact h4 k hk
  · rw [hF.2 _ _ (by unfold inE; omega)]; exact h5 k o hk ho
theorem s_X3_addSecond {u0 u : Mm} {Q : Mm → Prop} {D : Ld} {aw : Nat} {x y yr : Int32} {tn s e ea sd w : Nat} {v : Nat → Int32} {L : List Nat} (hD : okD D) (ht : tn < 3) (hS : SR G u0 s) (hE : ER G u0 e) (hse : s + 7 ≤ e) (hnr : nrP D aw x y (nrO v)) (hea : ea < sd) (hsd : sd < 4) (hw : nrO v sd = some w) (h : GI D aw x y yr tn s e v u0 (sd + 1) L u) (hl : L.length < 16) (hQ : ∀ u', GI D aw x y yr tn s e v u0 (sd + 1) (L ++ (match nrO v ea with | none => [] | some o => [prn o w])) u' → Q u') : V_X3_addSecond G e s (nI ea) (nI sd) u Q := by
  have d1 := hD.1
  have h' := h
  obtain ⟨hF, hc, hL, hv, hst⟩ := h'
  have hE' := hF.kER hE
  have hE'' := hE'
  obtain ⟨e0, ek, _, _, _, ⟨n1, n2, n3⟩, _⟩ := hE''
  obtain ⟨s0, sk, _, ⟨r1, r2, r3⟩, _, _, ⟨v1, v2, v3⟩, _⟩ := hF.kSR hS
  obtain ⟨w1, w2, w3, w4⟩ := hnr.got hsd hw
  have ews : (nI w).toNatClampNeg = w := nI_clamp (by omega)
  have vw : v sd = nI w := by
    unfold nrO at hw
    split at hw
    · cases hw
    · rename_i q
      have hv2 := hv sd hsd
      rcases hnr sd hsd with g | ⟨b, g1, g2, g3, _⟩
      · rw [nrO, if_neg q] at g; cases g.1
      · injection hw with hw
        rw [nrO, if_neg q] at g1
        sorry
  sorry
end GATH
