/-! the model's words of reading -/
def inM6 (m : Nat) : Nat → Nat → Prop := fun a j => a = m ∧ 13 ≤ j ∧ j ≤ 20 ∧ j ≠ 14
def MTk (m : Nat) (c : Nat → Nat) (n : Nat) (t : Tk) (u : Mm) : Prop := MB m c n u ∧ okT n t ∧ gI u m 19 = nI (kC t) ∧ (kC t ≠ 0 → gI u m 20 = nI (kP t))
  ∧ (kC t = 0 → gI u m 13 = nI (tE c n (kE t)) ∧ gI u m 15 = nI (tkM (tK c n (kE t))) ∧ gI u m 17 = nI (tS c n (kE t)) ∧ gI u m 18 = nI (tE c n (kE t)) ∧ (tK c n (kE t) = 1 → tE c n (kE t) - tS c n (kE t) ≤ 4 → gI u m 16 = nI (tV c n (kE t))))
theorem MTk.fx {m n : Nat} {c : Nat → Nat} {t : Tk} {u v : Mm} {P : Nat → Nat → Prop} (h : MTk m c n t u) (f : Fx P u v) (hp : ∀ a j, P a j → a ≠ m ∧ a ≠ m + 11) : MTk m c n t v := by
  have e1 : ∀ j, gI v m j = gI u m j := fun j => f.2 _ _ (fun q => (hp _ _ q).1 rfl)
  have e2 : ∀ j, gI v (m + 11) j = gI u (m + 11) j := fun j => f.2 _ _ (fun q => (hp _ _ q).2 rfl)
  unfold MTk MB at *
  simp only [e1, e2]
  exact h
def lsT (c : Nat → Nat) (n : Nat) (t : Tk) : Tk := if isW c n 3 t then rdT c n 0 100 0 (nxt c n t) else t
def lsV (c : Nat → Nat) (n : Nat) (t : Tk) : Nat := if isW c n 3 t then rdV c n (nxt c n t) else 0
theorem lsT_0 {c : Nat → Nat} {n : Nat} {t : Tk} (h : kC (lsT c n t) = 0) : kC t = 0 ∧ lsV c n t ≤ 100 := by
  unfold lsT at h
  unfold lsV
  by_cases w : isW c n 3 t = true
  · rw [if_pos w] at h ⊢
    refine ⟨?_, (rdT_0 h).2.2.1⟩
    unfold isW at w
    exact (of_decide_eq_true w).1
  · rw [if_neg w] at h ⊢
    exact ⟨h, by omega⟩
theorem isW_0 {c : Nat → Nat} {n i : Nat} {t : Tk} (h : isW c n i t = true) : kC t = 0 := by
  unfold isW at h
  exact (of_decide_eq_true h).1
section MST
variable {G : Gx} {u : Mm} {c : Nat → Nat} {n : Nat}
theorem c_readLoss {Q : Int32 → Mm → Prop} {z : Nat} {t : Tk} (h : HC0 G u z) (hn : n ≤ 700) (hc : ∀ i, c i < 256) (hT : CT z c n t u) (hQ : ∀ v u', Fx (inC6 z) u u' → CT z c n (lsT c n t) u' → (kC (lsT c n t) = 0 → v = nI (lsV c n t)) → Q v u') : V_X8_readLoss G (z + 1) u Q := by
  refine ⟨h.2.1.2.1, c_isWord (by omega) h hn hc hT (fun w => ⟨fun r => absurd r (by decide), fun _ => ?_⟩) (fun w => ⟨fun _ => ?_, fun r => absurd rfl r⟩)⟩
  · unfold lsT lsV at hQ
    rw [if_pos w, if_pos w] at hQ
    refine c_step h hn hc hT (isW_0 w) (fun u1 f1 T1 => c_readNumber (lo := 0) (hi := 100) (fl := 0) (h.fx f1) hn hc T1 rfl rfl (by omega) (by omega) (fun _ v _ hv => ⟨fun _ => by omega, fun _ => nI_le (a := 0) (by omega) (by omega)⟩) (fun v u' f2 T2 e => ?_))
    exact hQ v u' (f1.trans f2) T2 e
  · unfold lsT lsV at hQ
    rw [if_neg (by rw [w]; decide), if_neg (by rw [w]; decide)] at hQ
    exact hQ _ u Fx.rfl' hT (fun _ => rfl)
theorem m_step {Q : Mm → Prop} {m : Nat} {t : Tk} (h : R11 G u m) (hn : n ≤ 700) (hc : ∀ i, c i < 256) (hT : MTk m c n t u) (h0 : kC t = 0) (hQ : ∀ u', Fx (inM6 m) u u' → MTk m c n (nxt c n t) u' → Q u') : V_X12_stepOn G m u Q := by
  obtain ⟨h1, h2, h3, h4, h5⟩ := id hT
  obtain ⟨g1, g2, g3, g4, g5⟩ := h5 h0
  refine m_stepOn h hn hc h1 (tE_bd h2.1).2.1 g1 (fun u' f v13 v15 v17 v18 v16 => ?_)
  refine hQ u' (f.mono (fun a j q => by unfold inM2 at q; unfold inM6; omega)) ⟨h1.fx f, nxt_ok h2, ?_, fun q => absurd rfl q, fun _ => ⟨v13, v15, v17, v18, v16⟩⟩
  rw [f.2 _ _ (by unfold inM2; omega), h3, h0]; rfl
theorem m_wrong {Q : Mm → Prop} {m k : Nat} {t : Tk} (h : R11 G u m) (hT : MTk m c n t u) (h0 : kC t = 0) (hk : 1 ≤ k) (hk4 : k ≤ 4) (hQ : ∀ u', Fx (inM6 m) u u' → MTk m c n (flt4 c n k t) u' → Q u') : V_X12_wrong G m (nI k) u Q := by
  obtain ⟨⟨b1, b2⟩, h2, h3, h4, h5⟩ := id hT
  obtain ⟨g1, g2, g3, g4, g5⟩ := h5 h0
  refine ⟨h.2.1, fun _ w e w2 e2 => ?_, fun q => absurd (by rw [h3, h0]; rfl) q⟩
  have e7 : gI w m 17 = nI (tS c n (kE t)) := by rw [e, gI_sI, if_neg (by omega)]; exact g3
  rw [e7] at e2
  have f : Fx (inM6 m) u w2 := by rw [e2, e]; exact (Fx.put (by unfold inM6; omega)).trans (Fx.put (by unfold inM6; omega))
  refine hQ w2 f ⟨⟨?_, fun i hi => ?_⟩, flt4_ok h2 hk4, ?_, fun _ => ?_, fun q => absurd q (by unfold kC flt4; omega)⟩
  · rw [f.2 _ _ (by unfold inM6; omega)]; exact b1
  · rw [f.2 _ _ (by unfold inM6; omega)]; exact b2 i hi
  · rw [e2, gI_sI, if_neg (by omega), e, gI_sI, if_pos ⟨rfl, rfl⟩]; rfl
  · rw [e2, gI_sI, if_pos ⟨rfl, rfl⟩]; rfl
theorem m_is {Q : Int32 → Mm → Prop} {m i : Nat} {t : Tk} (hi : i < 36) (h : R11 G u m) (hn : n ≤ 700) (hT : MTk m c n t u) (h1 : isW c n i t = true → Q 1 u) (h0 : isW c n i t = false → Q 0 u) : V_X12_is G m (gS G i) u Q := by
  obtain ⟨⟨b1, b2⟩, ok, t3, t4, t5⟩ := id hT
  obtain ⟨m0, mk, r2, r3, r1⟩ := id h
  have hE := tE_bd (c := c) ok.1
  have hl := kLen_ok i hi
  have no : isW c n i t = false → V_X12_is_35 G Q m (gS G i) u := by
    intro q
    unfold V_X12_is_35 V_X12_is_36
    refine ⟨1, ?_⟩
    show V_X12_is_39_B G Q (V_X12_is_39 G Q 0) m (gS G i) 0 0 u
    unfold V_X12_is_39_B
    exact ⟨fun _ => ⟨Or.inl rfl, h0 q⟩, fun r => absurd rfl r⟩
  refine ⟨mk, ?_⟩
  rw [t3]
  refine ⟨fun q => ?_, fun q => no ?_⟩
  · have q0 : kC t = 0 := nI_inj (b := 0) (by have := ok.2.1; omega) (by omega) q
    obtain ⟨g1, g2, g3, g4, g5⟩ := t5 q0
    rw [g2]
    refine ⟨fun q => ?_, fun q => no ?_⟩
    · have qk : tK c n (kE t) = 0 := by
        have k4 := tK_le c n (kE t)
        have := nI_inj (b := 1) (by unfold tkM; omega) (by omega) q
        unfold tkM at this
        omega
      refine ⟨i, hi, rfl, ?_⟩
      show (_ = gI u m 18 - gI u m 17 → _) ∧ (¬ _ = gI u m 18 - gI u m 17 → _)
      rw [g3, g4, pk_sub hE.1]
      refine ⟨fun q => ?_, fun q => no ?_⟩
      · have ql : tE c n (kE t) - tS c n (kE t) = kLen i := (nI_inj (by omega) (by omega) q).symm
        unfold V_X12_is_36
        suffices go : ∀ f j, j + f = kLen i → (∀ k, k < j → nI (c (tS c n (kE t) + k)) = (kByt i).getD k 0) → V_X12_is_39 G Q (f + 1) m (gS G i) 1 (nI j) u from ⟨kLen i + 1, go _ 0 (by omega) (fun k hk => absurd hk (by omega))⟩
        intro f
        induction f with
        | zero =>
          intro j hj hh
          have hj : j = kLen i := by omega
          show V_X12_is_39_B G Q (V_X12_is_39 G Q 0) m (gS G i) 1 (nI j) u
          unfold V_X12_is_39_B
          refine ⟨fun r => absurd r (by decide), fun _ => ⟨i, hi, rfl, fun _ => ⟨Or.inr rfl, h1 ?_⟩, fun q => absurd (nI_le (by omega) (by omega)) q⟩⟩
          unfold isW
          rw [hj] at hh
          exact decide_eq_true ⟨q0, qk, ql, hh⟩
        | succ f ih =>
          intro j hj hh
          show V_X12_is_39_B G Q (V_X12_is_39 G Q (f + 1)) m (gS G i) 1 (nI j) u
          unfold V_X12_is_39_B
          refine ⟨fun r => absurd r (by decide), fun _ => ⟨i, hi, rfl, fun q => absurd ((nI_leI (by omega) (by omega)).mp q) (by omega), fun _ => ⟨i, hi, rfl, vp_in_nI (by omega) (by omega), ?_⟩⟩⟩
          show kd G m = 12 ∧ gR u m 11 ≠ 0 ∧ kd G (gR u m 11) = 13 ∧ vp_in (gI u m 17 + nI j) (ln G (gR u m 11)) ∧ ((_ = gI u (gR u m 11) (gI u m 17 + nI j).toNatClampNeg → _) ∧ (¬ _ = gI u (gR u m 11) (gI u m 17 + nI j).toNatClampNeg → _))
          rw [g3, nI_add, r1, r2, r3, nI_clamp (by omega), nI_clamp (by omega), b2 _ (by omega)]
          refine ⟨mk, by omega, rfl, vp_in_nI (by omega) (by omega), fun q => ?_, fun q => ?_⟩
          · unfold V_X12_is_75
            intro y hy
            rw [hy, nI_1]
            refine ih (j + 1) (by omega) (fun k hk => ?_)
            by_cases e : k = j
            · rw [e]; exact q.symm
            · exact hh k (by omega)
          · unfold V_X12_is_75
            intro y hy
            show V_X12_is_39_B G Q (V_X12_is_39 G Q f) m (gS G i) 0 y u
            unfold V_X12_is_39_B
            refine ⟨fun _ => ⟨Or.inl rfl, h0 ?_⟩, fun r => absurd rfl r⟩
            unfold isW
            exact decide_eq_false (fun r => q (r.2.2.2 j (by omega)).symm)
      · unfold isW
        exact decide_eq_false (fun r => q (by rw [r.2.2.1]))
    · unfold isW
      exact decide_eq_false (fun r => q (by rw [r.2.1]; rfl))
  · unfold isW
    exact decide_eq_false (fun r => q (by rw [r.1]; rfl))
theorem m_passes {Q : Int32 → Mm → Prop} {m i : Nat} {t : Tk} (hi : i < 36) (h : R11 G u m) (hn : n ≤ 700) (hc : ∀ i, c i < 256) (hT : MTk m c n t u) (h1 : isW c n i t = true → ∀ u', Fx (inM6 m) u u' → MTk m c n (nxt c n t) u' → Q 1 u') (h0 : isW c n i t = false → Q 0 u) : V_X12_passes G m (gS G i) u Q :=
  ⟨h.2.1, m_is hi h hn hT (fun w => ⟨fun r => absurd r (by decide), fun _ => m_step h hn hc hT (isW_0 w) (fun u' f T => ⟨Or.inr rfl, h1 w u' f T⟩)⟩) (fun w => ⟨fun _ => ⟨Or.inl rfl, h0 w⟩, fun r => absurd rfl r⟩)⟩
theorem m_rd75 {Q : Int32 → Mm → Prop} {m : Nat} {t : Tk} (h : R11 G u m) (hT : MTk m c n t u) (h0 : kC t ≠ 0) (hQ : ∀ v, Q v u) : V_X12_readNumber_75 G Q m u := by
  unfold V_X12_readNumber_75
  refine ⟨h.2.1, fun y _ => ⟨fun q => ?_, fun _ => hQ _⟩⟩
  rw [hT.2.2.1] at q
  exact absurd (nI_inj (b := 0) (by have := hT.2.1.2.1; omega) (by omega) q) h0
theorem m_readNumber {Q : Int32 → Mm → Prop} {m lo hi fl : Nat} {t : Tk} {p1 p2 p3 : Int32} (h : R11 G u m) (hn : n ≤ 700) (hc : ∀ i, c i < 256) (hT : MTk m c n t u) (hp1 : p1 = nI lo) (hp2 : p2 = nI hi) (hlo : lo < 10000) (hhi : hi < 10000) (hfl : kC t = 0 → ∀ v, lo ≤ v → v < 10000 → (p3 ≤ nI v ↔ fl ≤ v)) (hQ : ∀ v u', Fx (inM6 m) u u' → MTk m c n (rdT c n lo hi fl t) u' → (kC (rdT c n lo hi fl t) = 0 → v = nI (rdV c n t)) → Q v u') : V_X12_readNumber G m p1 p2 p3 u Q := by
  obtain ⟨⟨b1, b2⟩, ok, t3, t4, t5⟩ := id hT
  obtain ⟨m0, mk, _⟩ := id h
  refine ⟨mk, ?_⟩
  rw [t3]
  refine ⟨fun q => ?_, fun q => ?_⟩
  · have q0 : kC t = 0 := nI_inj (b := 0) (by have := ok.2.1; omega) (by omega) q
    obtain ⟨g1, g2, g3, g4, g5⟩ := t5 q0
    have hfl := hfl q0
    have k4 := tK_le c n (kE t)
    have hE := tE_bd (c := c) ok.1
    have bad : ∀ k, 1 ≤ k → k ≤ 4 → rdT c n lo hi fl t = flt4 c n k t → V_X12_wrong G m (nI k) u (fun w => V_X12_readNumber_75 G Q m w) := by
      intro k k1 k4 e
      refine m_wrong h hT q0 k1 k4 (fun u' f T' => m_rd75 (h.fx f) T' (by unfold kC flt4; omega) (fun v => hQ v u' f (by rw [e]; exact T') (fun r => ?_)))
      rw [e] at r
      exact absurd r (by unfold kC flt4; omega)
    rw [g2]
    refine ⟨fun q => ?_, fun q => ?_⟩
    · have k1 : tK c n (kE t) = 1 := by
        have := nI_inj (b := 2) (by unfold tkM; omega) (by omega) q
        unfold tkM at this
        omega
      have vc := vC_cases (c := c) (s := tS c n (kE t)) (j := tE c n (kE t) - tS c n (kE t)) (fun i hi => (tok_in (by omega) (by omega) (by omega)).trans k1)
      have two : ¬ (tE c n (kE t) - tS c n (kE t) ≤ 4 ∧ lo ≤ rdV c n t ∧ rdV c n t ≤ hi) → V_X12_readNumber_54 G Q m u := by
        intro r
        unfold V_X12_readNumber_54
        exact ⟨mk, bad 2 (by omega) (by omega) (by unfold rdT; rw [if_pos q0, if_pos k1, if_neg r])⟩
      rw [g3, g4, pk_sub hE.1, hp1, hp2]
      refine ⟨fun q => two (fun r => ?_), fun q => ?_⟩
      · have := (nI_ltI (a := 4) (by omega) (by omega)).mp q
        omega
      · have l4 : tE c n (kE t) - tS c n (kE t) ≤ 4 := Nat.le_of_not_lt (fun r => q ((nI_ltI (a := 4) (by omega) (by omega)).mpr r))
        have v1 : gI u m 16 = nI (rdV c n t) := g5 k1 l4
        have v2 : rdV c n t < 10000 := (vc.1 l4).2
        rw [v1]
        refine ⟨fun q => two (fun r => ?_), fun ql => ⟨fun qh => ⟨fun qf => ?_, fun qf => ?_⟩, fun q => two (fun r => q (nI_le r.2.2 (by omega)))⟩⟩
        · have := (nI_ltI (by omega) (by omega)).mp q
          have := r.2.1
          omega
        · have l1 : lo ≤ rdV c n t := Nat.le_of_not_lt (fun r => ql ((nI_ltI (by omega) (by omega)).mpr r))
          have l2 : rdV c n t ≤ hi := (nI_leI (by omega) (by omega)).mp qh
          have l3 : fl ≤ rdV c n t := (hfl _ l1 v2).mp qf
          have e : rdT c n lo hi fl t = nxt c n t := by unfold rdT; rw [if_pos q0, if_pos k1, if_pos ⟨l4, l1, l2⟩, if_pos l3]
          unfold V_X12_readNumber_75
          rw [t3, v1]
          refine ⟨mk, fun y hy => ⟨fun _ => m_step h hn hc hT q0 (fun u' f T' => hQ _ u' f (by rw [e]; exact T') (fun _ => hy)), fun r => absurd (by rw [q0]; rfl) r⟩⟩
        · have l1 : lo ≤ rdV c n t := Nat.le_of_not_lt (fun r => ql ((nI_ltI (by omega) (by omega)).mpr r))
          have l2 : rdV c n t ≤ hi := (nI_leI (by omega) (by omega)).mp qh
          have l3 : ¬ fl ≤ rdV c n t := fun r => qf ((hfl _ l1 v2).mpr r)
          exact bad 3 (by omega) (by omega) (by unfold rdT; rw [if_pos q0, if_pos k1, if_pos ⟨l4, l1, l2⟩, if_neg l3])
    · refine bad 1 (by omega) (by omega) ?_
      unfold rdT
      rw [if_pos q0, if_neg (fun r => q (by rw [r]; rfl))]
  · have n0 : kC t ≠ 0 := fun r => q (by rw [r]; rfl)
    have e : rdT c n lo hi fl t = t := by unfold rdT; rw [if_neg n0]
    exact hQ _ u Fx.rfl' (by rw [e]; exact hT) (fun r => absurd (e ▸ r) n0)
theorem m_perhaps {Q : Int32 → Mm → Prop} {m : Nat} {t : Tk} (h : R11 G u m) (hn : n ≤ 700) (hc : ∀ i, c i < 256) (hT : MTk m c n t u) (hQ : ∀ v u', Fx (inM6 m) u u' → MTk m c n (lsT c n t) u' → (kC (lsT c n t) = 0 → v = nI (lsV c n t)) → Q v u') : V_X12_perhaps G m (gS G 34) 100 u Q := by
  have e : isW c n 34 t = isW c n 3 t := rfl
  refine ⟨h.2.1, m_passes (by omega) h hn hc hT (fun w u1 f1 T1 => ⟨fun r => absurd r (by decide), fun _ => ?_⟩) (fun w => ⟨fun _ => ?_, fun r => absurd rfl r⟩)⟩
  · unfold lsT lsV at hQ
    rw [e] at w
    rw [if_pos w, if_pos w] at hQ
    exact m_readNumber (lo := 0) (hi := 100) (fl := 0) (h.fx f1) hn hc T1 rfl rfl (by omega) (by omega) (fun _ v _ hv => ⟨fun _ => by omega, fun _ => by rw [Int32.le_iff_toInt_le, nI_toInt (by omega)]; show (-1 : Int) ≤ _; omega⟩) (fun v u' f2 T2 e => hQ v u' (f1.trans f2) T2 e)
  · unfold lsT lsV at hQ
    rw [e] at w
    rw [if_neg (by rw [w]; decide), if_neg (by rw [w]; decide)] at hQ
    exact hQ _ u Fx.rfl' hT (fun _ => rfl)
theorem m_semi {Q : Mm → Prop} {m : Nat} {t : Tk} (h : R11 G u m) (hn : n ≤ 700) (hc : ∀ i, c i < 256) (hT : MTk m c n t u) (hQ : ∀ u', Fx (inM6 m) u u' → MTk m c n (sgT c n t) u' → Q u') : V_X12_semi G m u Q := by
  obtain ⟨⟨b1, b2⟩, ok, t3, t4, t5⟩ := id hT
  obtain ⟨m0, mk, _⟩ := id h
  have k4 := tK_le c n (kE t)
  have out : ∀ w, Fx (inM6 m) u w → ∀ t2, sgT c n t = t2 → kC t2 ≠ 0 → MTk m c n t2 w → V_X12_semi_20 G Q m w := by
    intro w f t2 e2 n2 T2
    unfold V_X12_semi_20
    refine ⟨mk, fun q => ?_, fun _ => hQ w f (by rw [e2]; exact T2)⟩
    rw [T2.2.2.1] at q
    exact absurd (nI_inj (b := 0) (by have := T2.2.1.2.1; omega) (by omega) q) n2
  refine ⟨mk, ?_⟩
  rw [t3]
  refine ⟨fun q => ?_, fun q => ?_⟩
  · have q0 : kC t = 0 := nI_inj (b := 0) (by have := ok.2.1; omega) (by omega) q
    obtain ⟨g1, g2, g3, g4, g5⟩ := t5 q0
    rw [g2]
    refine ⟨fun q => ?_, fun q => ?_⟩
    · have k2 : tK c n (kE t) = 2 := by
        have := nI_inj (b := 3) (by unfold tkM; omega) (by omega) q
        unfold tkM at this
        omega
      have e : sgT c n t = nxt c n t := by unfold sgT; rw [if_pos q0, if_pos k2]
      unfold V_X12_semi_20
      rw [t3]
      exact ⟨mk, fun _ => m_step h hn hc hT q0 (by rw [← e]; exact hQ), fun r => absurd (by rw [q0]; rfl) r⟩
    · have e : sgT c n t = flt4 c n 1 t := by unfold sgT; rw [if_pos q0, if_neg (fun r => q (by rw [r]; rfl))]
      exact m_wrong (k := 1) h hT q0 (by omega) (by omega) (fun u' f T' => out u' f _ e (by unfold kC flt4; omega) T')
  · have n0 : kC t ≠ 0 := fun r => q (by rw [r]; rfl)
    exact out u Fx.rfl' t (by unfold sgT; rw [if_neg n0]) n0 hT
end MST
