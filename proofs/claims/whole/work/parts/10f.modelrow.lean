/-! THE MODEL: the second echoes, all echoes -/
theorem btw_nI {n : Nat} {x : Int32} (h : btw 0 n x) : ∃ a : Nat, a ≤ n ∧ x = nI a := by
  unfold btw at h
  have := fb_rng x
  refine ⟨x.toInt.toNat, by omega, ?_⟩
  rw [fa_eq, nI_toInt (by omega)]
  omega
theorem nI_btw {n a : Nat} (h : a ≤ n) (hn : n < 2 ^ 31) : btw 0 n (nI a) := by
  unfold btw
  rw [nI_toInt (by omega)]
  omega
theorem pct_bd {N : Nat} {v t : Int32} (hN : N * 100 < 2 ^ 31) (hv : btw 0 N v) (ht : btw 0 100 t) : btw 0 N (v * (100 - t) / 100) := by
  obtain ⟨a, ha, rfl⟩ := btw_nI hv
  obtain ⟨b, hb, rfl⟩ := btw_nI (n := 100) ht
  have e1 : (100 : Int32) - nI b = nI (100 - b) := pk_sub (a := 100) hb
  have e2 : nI (a * (100 - b)) / (100 : Int32) = nI (a * (100 - b) / 100) := by
    refine pk_div (d := 100) ?_ (by decide) (by decide)
    have := Nat.mul_le_mul ha (show 100 - b ≤ 100 by omega)
    omega
  rw [e1, pk_mul, e2]
  refine nI_btw ?_ (by omega)
  have := Nat.mul_le_mul ha (show 100 - b ≤ 100 by omega)
  omega
theorem thr_bd {t : Int32} (ht : btw 0 100 t) : ∀ (n : Nat) (v : Int32), btw 0 1000 v → btw 0 1000 (thr t n v)
  | 0, v, h => h
  | n + 1, v, h => thr_bd ht n _ (pct_bd (N := 1000) (by decide) h ht)
theorem wds_bd {D : Ld} (hD : okD D) {x y x2 y2 v : Int32} {tn times : Nat} (ht : tn < 3) (hv : btw 0 1000 v) : ∀ n, n ≤ nO D → btw 0 1000 (wds D x y x2 y2 tn times n v)
  | 0, _ => hv
  | n + 1, h => by
    have ih := wds_bd hD (x := x) (y := y) (x2 := x2) (y2 := y2) (times := times) ht hv n (by omega)
    show btw 0 1000 (if mtW D n x y x2 y2 then thr (dO D n (4 + tn)) times (wds D x y x2 y2 tn times n v) else wds D x y x2 y2 tn times n v)
    split
    · exact thr_bd ((hD.2.2.2.2.2.2.2 n (by omega)).2.2.2.2 tn ht) _ _ ih
    · exact ih
theorem loss_bd {t : Int32} (ht : btw 0 100 t) : btw 0 1000 (1000 * (100 - t) / 100) := pct_bd (N := 1000) (by decide) (by unfold btw; decide) ht
theorem fS_bd {D : Ld} (hD : okD D) {x y : Int32} {k tn : Nat} (ht : tn < 3) (hk : k < nW D) : btw 0 1000 (fS D k x y tn) := wds_bd hD ht (loss_bd (hD.2.2.2.2.2.1 k hk).2.2.2.2) _ (Nat.le_refl _)
theorem bS_bd {D : Ld} (hD : okD D) {x y : Int32} {k tn : Nat} (ht : tn < 3) (hk : k < nB D) : btw 0 1000 (bS D k x y tn) := wds_bd hD ht (loss_bd (hD.2.2.2.2.2.2.1 k hk).2.2) _ (Nat.le_refl _)
theorem btw_ne {n : Int} {x : Int32} (h : btw 0 n x) : x ≠ -1 := by
  intro e
  rw [e] at h
  exact absurd h.1 (by decide)
theorem stF_no {D : Ld} (hD : okD D) {aw : Nat} {x y : Int32} {tn k : Nat} (ht : tn < 3) (hk : k < nW D) : stF D aw x y tn k = -1 ↔ isO D aw k x y = true := by
  unfold stF
  constructor
  · intro h
    cases q : isO D aw k x y
    · rw [q] at h
      exact absurd h (btw_ne (fS_bd hD ht hk))
    · rfl
  · intro h
    rw [if_pos h]
/-- two walls of which no second echo comes -/
def noS (D : Ld) (aw : Nat) (x y : Int32) (tn i j : Nat) : Prop := stF D aw x y tn i = -1 ∨ stF D aw x y tn j = -1 ∨ (dW D i 0 = dW D j 0 ∧ (rch D i x y ≤ 0 ↔ rch D j x y ≤ 0))
section MRow
variable {G : Gx}
theorem s_X12_secondOf {u : Mm} {Q : Mm → Prop} {m l i j aw tn : Nat} {D : Ld} {x y : Int32} (hM : MR G u m) (hM2 : MR2 G u m) (hl : l < 7) (hD : okD D) (hC : ML u m l D) (hi : i < nW D) (hj : j < nW D) (e1 : gI u (m + 12) i = stF D aw x y tn i) (e2 : gI u (m + 12) j = stF D aw x y tn j) (f1 : stF D aw x y tn i ≠ -1 → gI u (m + 13) i = sqF D x y i) (f2 : stF D aw x y tn j ≠ -1 → gI u (m + 13) j = sqF D x y j) (hQ0 : noS D aw x y tn i j → Q u) (hQ1 : ¬ noS D aw x y tn i j → Q (sI (sI u (m + 13) (16 + 8 * i + j) (sqS D x y i j)) (m + 12) (16 + 8 * i + j) (stF D aw x y tn i * stF D aw x y tn j / 1000))) : V_X12_secondOf G m (nI l) (nI i) (nI j) x y u Q := by
  have d1 := hD.1
  have mk := hM.2.1
  have m0 := hM.1
  obtain ⟨⟨s1, s2, s3⟩, ⟨q1, q2, q3⟩, _⟩ := hM2
  have ei : (nI i).toNatClampNeg = i := nI_clamp (by omega)
  have ej : (nI j).toNatClampNeg = j := nI_clamp (by omega)
  have ee : (16 : Int32) + 8 * nI i + nI j = nI (16 + 8 * i + j) := by
    rw [show (8 : Int32) * nI i = nI (8 * i) from pk_mul 8 i, show (16 : Int32) + nI (8 * i) = nI (16 + 8 * i) from nI_add 16 (8 * i), nI_add]
  have en : (nI (16 + 8 * i + j)).toNatClampNeg = 16 + 8 * i + j := nI_clamp (by omega)
  unfold V_X12_secondOf
  refine ⟨mk, s_X12_reach hM hl hD hC hi (s_X12_reach hM hl hD hC hj (m_wall (f := 0) hM hl hD hC hi (by decide) (m_wall (f := 0) hM hl hD hC hj (by decide) ?_)))⟩
  have put : ¬ noS D aw x y tn i j → ∀ sq : Int32, sq = sqS D x y i j → V_X12_secondOf_153 G Q m (nI i) (nI j) (m + 13) (nI (16 + 8 * i + j)) sq u := by
    intro hn sq hsq
    unfold V_X12_secondOf_153
    rw [q1, q2, en]
    refine ⟨rfl, vp_in_nI (by omega) (by omega), fun w hw => ?_⟩
    subst hw
    rw [gR_sI, s3, s1, s2, ee, en, ei, ej, gI_sI, gI_sI, if_neg (by omega), if_neg (by omega), e1, e2]
    refine ⟨mk, by omega, rfl, vp_in_nI (by omega) (by omega), vp_in_nI (by omega) (by omega), vp_in_nI (by omega) (by omega), fun w hw => ?_⟩
    rw [hw, hsq]
    exact hQ1 hn
  have big : ∀ t : Int32, (t = 0 ∧ ¬ dW D i 0 = dW D j 0) ∨ (¬ t = 0 ∧ dW D i 0 = dW D j 0) → V_X12_secondOf_46 G Q m (nI i) (nI j) (rch D i x y) (rch D j x y) t u := by
    intro t hT
    unfold V_X12_secondOf_46
    rw [s3, s1, s2, ei, ej, e1, e2]
    refine ⟨mk, by omega, rfl, vp_in_nI (by omega) (by omega), fun c => hQ0 (Or.inl c), fun c => ⟨vp_in_nI (by omega) (by omega), fun c2 => hQ0 (Or.inr (Or.inl c2)), fun c2 => ?_⟩⟩
    have p97 : ¬ noS D aw x y tn i j → V_X12_secondOf_97 G Q m (nI i) (nI j) (rch D i x y) (rch D j x y) t u := by
      intro hn
      unfold V_X12_secondOf_97
      intro w hw
      subst hw
      rw [q3, ee, q1, q2, ei, ej, f1 c, f2 c2]
      refine ⟨mk, by omega, fun t0 => ⟨rfl, vp_in_nI (by omega) (by omega), vp_in_nI (by omega) (by omega), put hn _ ?_⟩, fun t0 => put hn _ ?_⟩
      · unfold sqS
        rcases hT with h | h
        · rw [if_neg h.2]
        · exact absurd t0 h.1
      · unfold sqS
        rcases hT with h | h
        · exact absurd h.1 t0
        · rw [if_pos h.2]
    have p93 : ∀ a b : Int32, ((a = b) ↔ (rch D i x y ≤ 0 ↔ rch D j x y ≤ 0)) → dW D i 0 = dW D j 0 → V_X12_secondOf_93 G Q m (nI i) (nI j) (rch D i x y) (rch D j x y) t a b u := by
      intro a b hab hd
      unfold V_X12_secondOf_93
      refine ⟨fun g => hQ0 (Or.inr (Or.inr ⟨hd, hab.mp g⟩)), fun g => p97 (fun w => ?_)⟩
      rcases w with w | w | w
      · exact c w
      · exact c2 w
      · exact g (hab.mpr w.2)
    rcases hT with ⟨t0, hd⟩ | ⟨t0, hd⟩
    · refine ⟨fun _ => p97 (fun w => ?_), fun g => absurd t0 g⟩
      rcases w with w | w | w
      · exact c w
      · exact c2 w
      · exact hd w.1
    · unfold V_X12_secondOf_83
      refine ⟨fun g => absurd g t0, fun _ => ⟨fun g1 => ⟨fun g2 => p93 0 0 ?_ hd, fun g2 => p93 0 1 ?_ hd⟩, fun g1 => ⟨fun g2 => p93 1 0 ?_ hd, fun g2 => p93 1 1 ?_ hd⟩⟩⟩
      · simp [g1, g2]
      · simp only [g1, g2]; decide
      · simp only [g1, g2]; decide
      · simp [g1, g2]
  exact ⟨fun c => big 1 (Or.inr ⟨by decide, c⟩), fun c => big 0 (Or.inl ⟨rfl, c⟩)⟩
/-- echoes told so far -/
def TE (D : Ld) (aw : Nat) (x y yr : Int32) (tn m : Nat) (u0 u : Mm) (S : Nat → Prop) : Prop := Fx (fun a _ => a = m + 12 ∨ a = m + 13) u0 u ∧ ∀ e, e < 80 → (S e → gI u (m + 12) e = stE D aw x y yr tn e ∧ (stE D aw x y yr tn e ≠ -1 → gI u (m + 13) e = sqE D x y e)) ∧ (¬ S e → gI u (m + 12) e = -1)
theorem TE.put {D : Ld} {aw : Nat} {x y yr : Int32} {tn m : Nat} {u0 u : Mm} {S T : Nat → Prop} (h : TE D aw x y yr tn m u0 u S) {e : Nat} {sq st : Int32} (h1 : sq = sqE D x y e) (h2 : st = stE D aw x y yr tn e) (hT : ∀ i, i < 80 → (T i ↔ S i ∨ i = e)) : TE D aw x y yr tn m u0 (sI (sI u (m + 13) e sq) (m + 12) e st) T := by
  refine ⟨(h.1.trans (Fx.put (Or.inr rfl))).trans (Fx.put (Or.inl rfl)), fun i hi => ?_⟩
  have hh := h.2 i hi
  simp only [gI_sI]
  rw [hT i hi]
  by_cases g : i = e
  · subst g
    refine ⟨fun _ => ⟨by simp [h2], fun _ => by simp [h1]⟩, fun c => absurd (Or.inr rfl) c⟩
  · refine ⟨fun c => ?_, fun c => ?_⟩
    · have := hh.1 (c.resolve_right g)
      refine ⟨?_, fun w => ?_⟩
      · rw [if_neg (fun q => g q.2), if_neg (fun q => g q.2)]; exact this.1
      · rw [if_neg (fun q => g q.2), if_neg (fun q => g q.2)]; exact this.2 w
    · rw [if_neg (fun q => g q.2), if_neg (fun q => g q.2)]
      exact hh.2 (fun w => c (Or.inl w))
theorem TE.skip {D : Ld} {aw : Nat} {x y yr : Int32} {tn m : Nat} {u0 u : Mm} {S T : Nat → Prop} (h : TE D aw x y yr tn m u0 u S) {e : Nat} (h1 : stE D aw x y yr tn e = -1) (hn : ¬ S e) (hT : ∀ i, i < 80 → (T i ↔ S i ∨ i = e)) : TE D aw x y yr tn m u0 u T := by
  refine ⟨h.1, fun i hi => ?_⟩
  have hh := h.2 i hi
  rw [hT i hi]
  by_cases g : i = e
  · subst g
    exact ⟨fun _ => ⟨by rw [hh.2 hn, h1], fun c => absurd h1 c⟩, fun c => absurd (Or.inr rfl) c⟩
  · exact ⟨fun c => hh.1 (c.resolve_right g), fun c => hh.2 (fun w => c (Or.inl w))⟩
theorem TE.cong {D : Ld} {aw : Nat} {x y yr : Int32} {tn m : Nat} {u0 u : Mm} {S T : Nat → Prop} (h : TE D aw x y yr tn m u0 u S) (hT : ∀ i, i < 80 → (T i ↔ S i)) : TE D aw x y yr tn m u0 u T := by
  refine ⟨h.1, fun i hi => ?_⟩
  rw [hT i hi]
  exact h.2 i hi
def S8 (D : Ld) (i : Nat) : Nat → Prop := fun e => e < nW D ∨ (8 ≤ e ∧ e < 8 + nB D) ∨ (16 ≤ e ∧ (e - 16) / 8 < i ∧ (e - 16) / 8 < (e - 16) % 8 ∧ (e - 16) % 8 < nW D)
def S9 (D : Ld) (i j : Nat) : Nat → Prop := fun e => S8 D i e ∨ (16 ≤ e ∧ (e - 16) / 8 = i ∧ i < (e - 16) % 8 ∧ (e - 16) % 8 < j)
theorem ML.fx {S : Nat → Nat → Prop} {u v : Mm} {m l : Nat} {D : Ld} (h : ML u m l D) (hf : Fx S u v) (hs : ∀ a j, S a j → a < m + 2 ∨ m + 10 ≤ a) : ML v m l D := h.same (fun b j h1 h2 => hf.2 b j (fun c => by have := hs b j c; omega))
theorem te_j {Q : Mm → Prop} {K : Nat → Int32 → Int32 → Int32 → Int32 → Mm → Prop} {u0 : Mm} {m l i aw tn : Nat} {D : Ld} {x y yr : Int32} (hM : MR G u0 m) (hM2 : MR2 G u0 m) (hl : l < 7) (hD : okD D) (hC : ML u0 m l D) (ht : tn < 3) (hi : i < nW D) (hK : ∀ u, TE D aw x y yr tn m u0 u (S8 D (i + 1)) → K m (nI l) x y (nI (i + 1)) u) : ∀ (n j : Nat) (u : Mm), j + n = nW D → i < j → TE D aw x y yr tn m u0 u (S9 D i j) → V_X12_tellEchoes_125 G Q K (n + 1) m (nI l) x y (nI i) (nI j) u := by
  have d1 := hD.1
  have d2 := hD.2.1
  have el : (nI l).toNatClampNeg = l := nI_clamp (by omega)
  intro n
  induction n with
  | zero =>
    intro j u hj hij hT
    have hM' := hT.1.kMR hM
    have hC' := hC.fx hT.1 (fun a j h => by omega)
    obtain ⟨m0, mk, ⟨a1, a2, a3⟩, _⟩ := hM'
    show V_X12_tellEchoes_125_B G Q K (V_X12_tellEchoes_125 G Q K 0) m (nI l) x y (nI i) (nI j) u
    unfold V_X12_tellEchoes_125_B
    rw [a3, a1, a2, el, hC'.1]
    refine ⟨mk, by omega, rfl, vp_in_nI hl (by omega), fun _ w hw => ?_, fun c => absurd (nI_le (by omega) (by omega)) c⟩
    rw [hw, nI_1]
    refine hK u (hT.cong (fun e he => ?_))
    unfold S9 S8
    omega
  | succ n ih =>
    intro j u hj hij hT
    have hM' := hT.1.kMR hM
    have hC' := hC.fx hT.1 (fun a j h => by omega)
    have hM'2 := hT.1.kMR2 hM2
    have hM'' := hM'
    obtain ⟨m0, mk, ⟨a1, a2, a3⟩, _⟩ := hM''
    show V_X12_tellEchoes_125_B G Q K (V_X12_tellEchoes_125 G Q K (n + 1)) m (nI l) x y (nI i) (nI j) u
    unfold V_X12_tellEchoes_125_B
    rw [a3, a1, a2, el, hC'.1]
    refine ⟨mk, by omega, rfl, vp_in_nI hl (by omega), fun c => ?_, fun _ => ?_⟩
    · rw [nI_leI (by omega) (by omega)] at c
      omega
    · have gi := (hT.2 i (by omega)).1 (by unfold S9 S8; omega)
      have gj := (hT.2 j (by omega)).1 (by unfold S9 S8; omega)
      have xi : stE D aw x y yr tn i = stF D aw x y tn i := by unfold stE; rw [if_pos (by omega), if_pos hi]
      have xj : stE D aw x y yr tn j = stF D aw x y tn j := by unfold stE; rw [if_pos (by omega), if_pos (by omega)]
      have wi : sqE D x y i = sqF D x y i := by unfold sqE; rw [if_pos (by omega)]
      have wj : sqE D x y j = sqF D x y j := by unfold sqE; rw [if_pos (by omega)]
      rw [xi, wi] at gi
      rw [xj, wj] at gj
      have xe : stE D aw x y yr tn (16 + 8 * i + j) = stS D aw x y tn i j := by
        unfold stE
        rw [if_neg (by omega), if_neg (by omega), if_pos (by omega), show (16 + 8 * i + j - 16) / 8 = i by omega, show (16 + 8 * i + j - 16) % 8 = j by omega]
      have we : sqE D x y (16 + 8 * i + j) = sqS D x y i j := by
        unfold sqE
        rw [if_neg (by omega), if_neg (by omega), show (16 + 8 * i + j - 16) / 8 = i by omega, show (16 + 8 * i + j - 16) % 8 = j by omega]
      have nx : ∀ e, e < 80 → (S9 D i (j + 1) e ↔ S9 D i j e ∨ e = 16 + 8 * i + j) := by
        intro e he
        unfold S9 S8
        omega
      refine s_X12_secondOf (aw := aw) (tn := tn) hM' hM'2 hl hD hC' hi (by omega) gi.1 gj.1 gi.2 gj.2 (fun hn => ?_) (fun hn => ?_)
      · intro w hw
        rw [hw, nI_1]
        refine ih (j + 1) u (by omega) (by omega) (hT.skip (e := 16 + 8 * i + j) ?_ (by unfold S9 S8; omega) nx)
        rw [xe]
        unfold stS
        exact if_pos hn
      · intro w hw
        rw [hw, nI_1]
        refine ih (j + 1) _ (by omega) (by omega) (hT.put (e := 16 + 8 * i + j) we.symm ?_ nx)
        rw [xe]
        unfold stS
        exact (if_neg hn).symm
theorem te_i {Q : Mm → Prop} {u0 : Mm} {m l aw tn : Nat} {D : Ld} {x y yr : Int32} (hM : MR G u0 m) (hM2 : MR2 G u0 m) (hl : l < 7) (hD : okD D) (hC : ML u0 m l D) (ht : tn < 3) (hQ : ∀ u, TE D aw x y yr tn m u0 u (S8 D (nW D)) → Q u) : ∀ (n i : Nat) (u : Mm), i + n = nW D → TE D aw x y yr tn m u0 u (S8 D i) → V_X12_tellEchoes_108 G Q (n + 1) m (nI l) x y (nI i) u := by
  have d1 := hD.1
  have el : (nI l).toNatClampNeg = l := nI_clamp (by omega)
  intro n
  induction n with
  | zero =>
    intro i u hi hT
    have hM' := hT.1.kMR hM
    have hC' := hC.fx hT.1 (fun a j h => by omega)
    obtain ⟨m0, mk, ⟨a1, a2, a3⟩, _⟩ := hM'
    show V_X12_tellEchoes_108_B G Q (V_X12_tellEchoes_108 G Q 0) m (nI l) x y (nI i) u
    unfold V_X12_tellEchoes_108_B
    rw [a3, a1, a2, el, hC'.1]
    refine ⟨mk, by omega, rfl, vp_in_nI hl (by omega), fun _ => ?_, fun c => absurd (nI_le (by omega) (by omega)) c⟩
    rw [show i = nW D by omega] at hT
    exact hQ u hT
  | succ n ih =>
    intro i u hi hT
    have hM' := hT.1.kMR hM
    have hC' := hC.fx hT.1 (fun a j h => by omega)
    obtain ⟨m0, mk, ⟨a1, a2, a3⟩, _⟩ := hM'
    show V_X12_tellEchoes_108_B G Q (V_X12_tellEchoes_108 G Q (n + 1)) m (nI l) x y (nI i) u
    unfold V_X12_tellEchoes_108_B
    rw [a3, a1, a2, el, hC'.1]
    refine ⟨mk, by omega, rfl, vp_in_nI hl (by omega), fun c => ?_, fun _ w hw => ?_⟩
    · rw [nI_leI (by omega) (by omega)] at c
      omega
    · rw [hw, nI_1]
      refine ⟨n + 1, te_j hM hM2 hl hD hC ht (by omega) (fun u' h' => ih (i + 1) u' (by omega) h') n (i + 1) u (by omega) (by omega) (hT.cong (fun e he => ?_))⟩
      unfold S9 S8
      omega
theorem te_b {Q : Mm → Prop} {u0 : Mm} {m l aw tn : Nat} {D : Ld} {x y yr : Int32} (hM : MR G u0 m) (hM2 : MR2 G u0 m) (hl : l < 7) (hD : okD D) (hC : ML u0 m l D) (hx : btw 0 40 x) (hy : btw 0 40 y) (ht : tn < 3) (ha : aw < 2 ^ 31) (hQ : ∀ u, TE D aw x y yr tn m u0 u (S8 D (nW D)) → Q u) : ∀ (n k : Nat) (u : Mm), k + n = nB D → TE D aw x y yr tn m u0 u (fun e => e < nW D ∨ (8 ≤ e ∧ e < 8 + k)) → V_X12_tellEchoes_73 G Q (n + 1) m (nI l) (nI aw) x y yr (nI tn) (nI k) u := by
  have d1 := hD.1
  have d2 := hD.2.1
  have el : (nI l).toNatClampNeg = l := nI_clamp (by omega)
  intro n
  induction n with
  | zero =>
    intro k u hk hT
    have hM' := hT.1.kMR hM
    have hC' := hC.fx hT.1 (fun a j h => by omega)
    obtain ⟨m0, mk, _, ⟨a1, a2, a3⟩, _⟩ := hM'
    show V_X12_tellEchoes_73_B G Q (V_X12_tellEchoes_73 G Q 0) m (nI l) (nI aw) x y yr (nI tn) (nI k) u
    unfold V_X12_tellEchoes_73_B
    rw [a3, a1, a2, el, hC'.2.1]
    refine ⟨mk, by omega, rfl, vp_in_nI hl (by omega), fun _ => ?_, fun c => absurd (nI_le (by omega) (by omega)) c⟩
    refine ⟨nW D + 1, te_i hM hM2 hl hD hC ht hQ (nW D) 0 u (by omega) (hT.cong (fun e he => ?_))⟩
    unfold S8
    omega
  | succ n ih =>
    intro k u hk hT
    have hM' := hT.1.kMR hM
    have hC' := hC.fx hT.1 (fun a j h => by omega)
    have hM'2 := hT.1.kMR2 hM2
    have hM'' := hM'
    obtain ⟨m0, mk, _, ⟨a1, a2, a3⟩, _⟩ := hM''
    show V_X12_tellEchoes_73_B G Q (V_X12_tellEchoes_73 G Q (n + 1)) m (nI l) (nI aw) x y yr (nI tn) (nI k) u
    unfold V_X12_tellEchoes_73_B
    rw [a3, a1, a2, el, hC'.2.1]
    have xe : stE D aw x y yr tn (8 + k) = stB D aw x y yr tn k := by
      unfold stE
      rw [if_neg (by omega), if_pos (by omega), if_pos (by omega), show 8 + k - 8 = k by omega]
    have we : sqE D x y (8 + k) = sqB D x y k := by
      unfold sqE
      rw [if_neg (by omega), if_pos (by omega), show 8 + k - 8 = k by omega]
    refine ⟨mk, by omega, rfl, vp_in_nI hl (by omega), fun c => ?_, fun _ => s_X12_barnOf hM' hM'2 hl hD hC' hx hy ht ha (by omega) (fun hn => ?_) (fun hn => ?_)⟩
    · rw [nI_leI (by omega) (by omega)] at c
      omega
    · intro w hw
      rw [hw, nI_1]
      refine ih (k + 1) _ (by omega) (hT.put (e := 8 + k) we.symm ?_ (fun e he => by omega))
      rw [xe]
      unfold stB
      rw [if_pos hn]
    · intro w hw
      rw [hw, nI_1]
      refine ih (k + 1) _ (by omega) (hT.skip (e := 8 + k) ?_ (by omega) (fun e he => by omega))
      rw [xe]
      unfold stB
      rw [if_neg (by rw [hn]; decide)]
theorem te_w {Q : Mm → Prop} {u0 : Mm} {m l aw tn : Nat} {D : Ld} {x y yr : Int32} (hM : MR G u0 m) (hM2 : MR2 G u0 m) (hl : l < 7) (hD : okD D) (hC : ML u0 m l D) (hx : btw 0 40 x) (hy : btw 0 40 y) (ht : tn < 3) (ha : aw < 2 ^ 31) (hQ : ∀ u, TE D aw x y yr tn m u0 u (S8 D (nW D)) → Q u) : ∀ (n k : Nat) (u : Mm), k + n = nW D → TE D aw x y yr tn m u0 u (fun e => e < k) → V_X12_tellEchoes_27 G Q (n + 1) m (nI l) (nI aw) x y yr (nI tn) (nI k) u := by
  have d1 := hD.1
  have el : (nI l).toNatClampNeg = l := nI_clamp (by omega)
  intro n
  induction n with
  | zero =>
    intro k u hk hT
    have hM' := hT.1.kMR hM
    have hC' := hC.fx hT.1 (fun a j h => by omega)
    obtain ⟨m0, mk, ⟨a1, a2, a3⟩, _⟩ := hM'
    show V_X12_tellEchoes_27_B G Q (V_X12_tellEchoes_27 G Q 0) m (nI l) (nI aw) x y yr (nI tn) (nI k) u
    unfold V_X12_tellEchoes_27_B
    rw [a3, a1, a2, el, hC'.1]
    refine ⟨mk, by omega, rfl, vp_in_nI hl (by omega), fun _ => ?_, fun c => absurd (nI_le (by omega) (by omega)) c⟩
    exact ⟨nB D + 1, te_b hM hM2 hl hD hC hx hy ht ha hQ (nB D) 0 u (by omega) (hT.cong (fun e he => by omega))⟩
  | succ n ih =>
    intro k u hk hT
    have hM' := hT.1.kMR hM
    have hC' := hC.fx hT.1 (fun a j h => by omega)
    have hM'2 := hT.1.kMR2 hM2
    have hM'' := hM'
    obtain ⟨m0, mk, ⟨a1, a2, a3⟩, _⟩ := hM''
    show V_X12_tellEchoes_27_B G Q (V_X12_tellEchoes_27 G Q (n + 1)) m (nI l) (nI aw) x y yr (nI tn) (nI k) u
    unfold V_X12_tellEchoes_27_B
    rw [a3, a1, a2, el, hC'.1]
    have xe : stE D aw x y yr tn k = stF D aw x y tn k := by
      unfold stE
      rw [if_pos (by omega), if_pos (by omega)]
    have we : sqE D x y k = sqF D x y k := by
      unfold sqE
      rw [if_pos (by omega)]
    refine ⟨mk, by omega, rfl, vp_in_nI hl (by omega), fun c => ?_, fun _ => s_X12_isOut hM' hl hD hC' ha (by omega) ⟨fun c => ?_, fun c => ?_⟩⟩
    · rw [nI_leI (by omega) (by omega)] at c
      omega
    · rw [bI_0] at c
      refine s_X12_firstOf hM' hM'2 hl hD hC' hx hy ht (by omega) ?_
      unfold V_X12_tellEchoes_64
      intro w hw
      rw [hw, nI_1]
      refine ih (k + 1) _ (by omega) (hT.put (e := k) we.symm ?_ (fun e he => by omega))
      rw [xe]
      unfold stF
      rw [if_neg (by rw [c]; decide)]
    · unfold V_X12_tellEchoes_64
      intro w hw
      rw [hw, nI_1]
      refine ih (k + 1) _ (by omega) (hT.skip (e := k) ?_ (by omega) (fun e he => by omega))
      rw [xe]
      unfold stF
      cases q : isO D aw k x y
      · exact absurd (bI_0.mpr q) c
      · rfl
theorem te_0 {Q : Mm → Prop} {u0 : Mm} {m l aw tn : Nat} {D : Ld} {x y yr : Int32} (hM : MR G u0 m) (hM2 : MR2 G u0 m) (hl : l < 7) (hD : okD D) (hC : ML u0 m l D) (hx : btw 0 40 x) (hy : btw 0 40 y) (ht : tn < 3) (ha : aw < 2 ^ 31) (hQ : ∀ u, TE D aw x y yr tn m u0 u (S8 D (nW D)) → Q u) : ∀ (n k : Nat) (u : Mm), k + n = 80 → Fx (fun a _ => a = m + 12 ∨ a = m + 13) u0 u → (∀ e, e < k → gI u (m + 12) e = -1) → V_X12_tellEchoes_3 G Q (n + 1) m (nI l) (nI aw) x y yr (nI tn) (nI k) u := by
  intro n
  induction n with
  | zero =>
    intro k u hk hF hE
    show V_X12_tellEchoes_3_B G Q (V_X12_tellEchoes_3 G Q 0) m (nI l) (nI aw) x y yr (nI tn) (nI k) u
    unfold V_X12_tellEchoes_3_B
    refine ⟨fun _ => ?_, fun c => absurd (nI_le (a := 80) (by omega) (by omega)) c⟩
    exact ⟨nW D + 1, te_w hM hM2 hl hD hC hx hy ht ha hQ (nW D) 0 u (by omega) ⟨hF, fun e he => ⟨fun c => absurd c (by omega), fun _ => hE e (by omega)⟩⟩⟩
  | succ n ih =>
    intro k u hk hF hE
    obtain ⟨s1, s2, s3⟩ := (hF.kMR2 hM2).1
    have ek : (nI k).toNatClampNeg = k := nI_clamp (by omega)
    have m0 := hM.1
    show V_X12_tellEchoes_3_B G Q (V_X12_tellEchoes_3 G Q (n + 1)) m (nI l) (nI aw) x y yr (nI tn) (nI k) u
    unfold V_X12_tellEchoes_3_B
    rw [s3, s1, s2, ek]
    refine ⟨fun c => ?_, fun _ => ⟨hM.2.1, by omega, rfl, vp_in_nI (by omega) (by omega), fun w hw z hz => ?_⟩⟩
    · have := (nI_leI (a := 80) (by omega) (by omega)).mp c
      omega
    · rw [hz, nI_1, hw]
      refine ih (k + 1) _ (by omega) (hF.trans (Fx.put (Or.inl rfl))) (fun e he => ?_)
      rw [gI_sI]
      by_cases g : e = k
      · rw [if_pos ⟨rfl, g⟩]
      · rw [if_neg (fun q => g q.2)]
        exact hE e (by omega)
/-- the echoes of a clap, told by the model -/
def TT (D : Ld) (aw : Nat) (x y yr : Int32) (tn m : Nat) (u : Mm) : Prop := ∀ e, e < 80 → gI u (m + 12) e = stE D aw x y yr tn e ∧ (stE D aw x y yr tn e ≠ -1 → gI u (m + 13) e = sqE D x y e)
theorem s_X12_tellEchoes {Q : Mm → Prop} {u : Mm} {m l aw tn : Nat} {D : Ld} {x y yr : Int32} (hM : MR G u m) (hM2 : MR2 G u m) (hl : l < 7) (hD : okD D) (hC : ML u m l D) (hx : btw 0 40 x) (hy : btw 0 40 y) (ht : tn < 3) (ha : aw < 2 ^ 31) (hQ : ∀ u', Fx (fun a _ => a = m + 12 ∨ a = m + 13) u u' → TT D aw x y yr tn m u' → Q u') : V_X12_tellEchoes G m (nI l) (nI aw) x y yr (nI tn) u Q := by
  refine ⟨81, te_0 hM hM2 hl hD hC hx hy ht ha (fun u' h => hQ u' h.1 (fun e he => ?_)) 80 0 u (by omega) Fx.rfl' (fun e he => absurd he (by omega))⟩
  have hh := h.2 e he
  by_cases g : S8 D (nW D) e
  · exact hh.1 g
  · have z : stE D aw x y yr tn e = -1 := by
      have d1 := hD.1
      have d2 := hD.2.1
      unfold S8 at g
      unfold stE
      by_cases e8 : e < 8
      · rw [if_pos e8, if_neg (by omega)]
      · rw [if_neg e8]
        by_cases e16 : e < 16
        · rw [if_pos e16, if_neg (by omega)]
        · rw [if_neg e16, if_neg (by omega)]
    exact ⟨by rw [hh.2 g, z], fun c => absurd z c⟩
end MRow
