/-! LINES of a text, in the model -/
def inML (m : Nat) : Nat → Nat → Prop := fun b j => inM6 m b j ∨ (m + 2 ≤ b ∧ b ≤ m + 6 ∧ j = 6) ∨ ((b = m + 7 ∨ b = m + 8) ∧ 240 ≤ j) ∨ (b = m + 9 ∧ 168 ≤ j)
def mto (m x p : Nat) : Nat → Nat → Prop := fun b i => inM6 m b i ∨ (b = x ∧ i = p)
def inMY (m x B w : Nat) : Nat → Nat → Prop := fun b i => inM6 m b i ∨ (b = x ∧ B ≤ i ∧ i < B + w)
theorem mto_Y {m x p B w : Nat} (h1 : B ≤ p) (h2 : p < B + w) : ∀ b i, mto m x p b i → inMY m x B w b i := by
  intro b i q
  unfold mto at q
  unfold inMY
  rcases q with q | q
  · exact Or.inl q
  · exact Or.inr ⟨q.1, by omega, by omega⟩
theorem vp_67 : vp_in (6 : Int32) 7 := vp_in_nI (n := 6) (by omega) (by omega)
theorem c6_6 : (6 : Int32).toNatClampNeg = 6 := by decide
section MLINES
variable {G : Gx} {u : Mm} {c : Nat → Nat} {n : Nat}
theorem ML.addW {m : Nat} {v : Mm} {D : Ld} {V : Nat → Int32} (h : ML u m 6 D) (f : ∀ b j, m + 2 ≤ b → b ≤ m + 9 → ¬ (b = m + 2 ∧ j = 6) → ¬ (b = m + 7 ∧ (48 + nW D) * 5 ≤ j) → gI v b j = gI u b j) (h3 : gI v (m + 2) 6 = nI (nW D + 1)) (hv : ∀ f, f < 5 → gI v (m + 7) ((48 + nW D) * 5 + f) = V f) : ML v m 6 (ldW D V) := by
  obtain ⟨h1, h2, h3', h4, h5, hw, hb, ho⟩ := h
  refine ⟨h3, ?_, ?_, ?_, ?_, fun k hk g hg => ?_, fun k hk g hg => ?_, fun k hk g hg => ?_⟩
  · rw [f _ _ (by omega) (by omega) (by omega) (by omega)]; exact h2
  · rw [f _ _ (by omega) (by omega) (by omega) (by omega)]; exact h3'
  · rw [f _ _ (by omega) (by omega) (by omega) (by omega)]; exact h4
  · rw [f _ _ (by omega) (by omega) (by omega) (by omega)]; exact h5
  · have hk : k < nW D + 1 := hk
    show gI v (m + 7) ((8 * 6 + k) * 5 + g) = (if k = nW D then V else dW D k) g
    by_cases e : k = nW D
    · rw [if_pos e, e]
      exact hv g hg
    · rw [if_neg e, f _ _ (by omega) (by omega) (by omega) (by omega)]; exact hw k (by omega) g hg
  · rw [f _ _ (by omega) (by omega) (by omega) (by omega)]; exact hb k hk g hg
  · rw [f _ _ (by omega) (by omega) (by omega) (by omega)]; exact ho k hk g hg
theorem ML.addB {m : Nat} {v : Mm} {D : Ld} {V : Nat → Int32} (h : ML u m 6 D) (f : ∀ b j, m + 2 ≤ b → b ≤ m + 9 → ¬ (b = m + 3 ∧ j = 6) → ¬ (b = m + 8 ∧ (48 + nB D) * 5 ≤ j) → gI v b j = gI u b j) (h3 : gI v (m + 3) 6 = nI (nB D + 1)) (hv : ∀ f, f < 5 → gI v (m + 8) ((48 + nB D) * 5 + f) = V f) : ML v m 6 (ldB D V) := by
  obtain ⟨h1, h2, h3', h4, h5, hw, hb, ho⟩ := h
  refine ⟨?_, h3, ?_, ?_, ?_, fun k hk g hg => ?_, fun k hk g hg => ?_, fun k hk g hg => ?_⟩
  · rw [f _ _ (by omega) (by omega) (by omega) (by omega)]; exact h1
  · rw [f _ _ (by omega) (by omega) (by omega) (by omega)]; exact h3'
  · rw [f _ _ (by omega) (by omega) (by omega) (by omega)]; exact h4
  · rw [f _ _ (by omega) (by omega) (by omega) (by omega)]; exact h5
  · rw [f _ _ (by omega) (by omega) (by omega) (by omega)]; exact hw k hk g hg
  · have hk : k < nB D + 1 := hk
    show gI v (m + 8) ((8 * 6 + k) * 5 + g) = (if k = nB D then V else dB D k) g
    by_cases e : k = nB D
    · rw [if_pos e, e]
      exact hv g hg
    · rw [if_neg e, f _ _ (by omega) (by omega) (by omega) (by omega)]; exact hb k (by omega) g hg
  · rw [f _ _ (by omega) (by omega) (by omega) (by omega)]; exact ho k hk g hg
theorem ML.addO {m : Nat} {v : Mm} {D : Ld} {V : Nat → Int32} (h : ML u m 6 D) (f : ∀ b j, m + 2 ≤ b → b ≤ m + 9 → ¬ (b = m + 4 ∧ j = 6) → ¬ (b = m + 9 ∧ (24 + nO D) * 7 ≤ j) → gI v b j = gI u b j) (h3 : gI v (m + 4) 6 = nI (nO D + 1)) (hv : ∀ f, f < 7 → gI v (m + 9) ((24 + nO D) * 7 + f) = V f) : ML v m 6 (ldO D V) := by
  obtain ⟨h1, h2, h3', h4, h5, hw, hb, ho⟩ := h
  refine ⟨?_, ?_, h3, ?_, ?_, fun k hk g hg => ?_, fun k hk g hg => ?_, fun k hk g hg => ?_⟩
  · rw [f _ _ (by omega) (by omega) (by omega) (by omega)]; exact h1
  · rw [f _ _ (by omega) (by omega) (by omega) (by omega)]; exact h2
  · rw [f _ _ (by omega) (by omega) (by omega) (by omega)]; exact h4
  · rw [f _ _ (by omega) (by omega) (by omega) (by omega)]; exact h5
  · rw [f _ _ (by omega) (by omega) (by omega) (by omega)]; exact hw k hk g hg
  · rw [f _ _ (by omega) (by omega) (by omega) (by omega)]; exact hb k hk g hg
  · have hk : k < nO D + 1 := hk
    show gI v (m + 9) ((4 * 6 + k) * 7 + g) = (if k = nO D then V else dO D k) g
    by_cases e : k = nO D
    · rw [if_pos e, e]
      exact hv g hg
    · rw [if_neg e, f _ _ (by omega) (by omega) (by omega) (by omega)]; exact ho k (by omega) g hg
theorem m_num {Q : Int32 → Mm → Prop} {m lo hi fl x b j p : Nat} {t : Tk} {p1 p2 p3 : Int32} {V : Nat → Int32} (h : R11 G u m) (hn : n ≤ 700) (hc : ∀ i, c i < 256) (hT : MTk m c n t u) (hp1 : p1 = nI lo) (hp2 : p2 = nI hi) (hlo : lo < 10000) (hhi : hi < 10000) (hfl : kC t = 0 → ∀ v, lo ≤ v → v < 10000 → (p3 ≤ nI v ↔ fl ≤ v)) (hH : kC t = 0 → Hd u x b j V) (hV : V j = nI (rdV c n t)) (hx : m + 2 ≤ x) (hx2 : x ≤ m + 9) (hp : p = b + j) (hQ : ∀ v u1, Fx (inM6 m) u u1 → (∀ u2, u2 = sI u1 x p v → Fx (mto m x p) u u2 ∧ MTk m c n (rdT c n lo hi fl t) u2 ∧ (kC (rdT c n lo hi fl t) = 0 → Hd u2 x b (j + 1) V)) → Q v u1) : V_X12_readNumber G m p1 p2 p3 u Q := by
  refine m_readNumber h hn hc hT hp1 hp2 hlo hhi hfl (fun v u1 f1 T1 e1 => hQ v u1 f1 (fun u2 e2 => ?_))
  have f2 : Fx (fun b i => b = x ∧ i = p) u1 u2 := by rw [e2]; exact Fx.put ⟨rfl, rfl⟩
  refine ⟨(f1.mono (fun a j q => Or.inl q)).trans (f2.mono (fun a j q => Or.inr q)), T1.fx f2 (fun a j q => by omega), fun q f hf => ?_⟩
  by_cases e : f = j
  · rw [e2, gI_sI, if_pos ⟨rfl, by omega⟩, e1 q, e, hV]
  · rw [e2, gI_sI, if_neg (by omega), f1.2 _ _ (by unfold inM6; omega)]
    exact hH (rdT_0 q).1 f (by omega)
theorem m_loss {Q : Int32 → Mm → Prop} {m x b j p : Nat} {t : Tk} {V : Nat → Int32} (h : R11 G u m) (hn : n ≤ 700) (hc : ∀ i, c i < 256) (hT : MTk m c n t u) (hH : kC t = 0 → Hd u x b j V) (hV : V j = nI (lsV c n t)) (hx : m + 2 ≤ x) (hx2 : x ≤ m + 9) (hp : p = b + j) (hQ : ∀ v u1, Fx (inM6 m) u u1 → (∀ u2, u2 = sI u1 x p v → Fx (mto m x p) u u2 ∧ MTk m c n (lsT c n t) u2 ∧ (kC (lsT c n t) = 0 → Hd u2 x b (j + 1) V)) → Q v u1) : V_X12_perhaps G m (gS G 34) 100 u Q := by
  refine m_perhaps h hn hc hT (fun v u1 f1 T1 e1 => hQ v u1 f1 (fun u2 e2 => ?_))
  have f2 : Fx (fun b i => b = x ∧ i = p) u1 u2 := by rw [e2]; exact Fx.put ⟨rfl, rfl⟩
  refine ⟨(f1.mono (fun a j q => Or.inl q)).trans (f2.mono (fun a j q => Or.inr q)), T1.fx f2 (fun a j q => by omega), fun q f hf => ?_⟩
  by_cases e : f = j
  · rw [e2, gI_sI, if_pos ⟨rfl, by omega⟩, e1 q, e, hV]
  · rw [e2, gI_sI, if_neg (by omega), f1.2 _ _ (by unfold inM6; omega)]
    exact hH (lsT_0 q).1 f (by omega)
theorem m_readWall {Q : Mm → Prop} {m : Nat} {t : Tk} {D : Ld} {lv : Int32} (h : R11 G u m) (hM : MR G u m) (hn : n ≤ 700) (hc : ∀ i, c i < 256) (hT : MTk m c n t u) (h0 : kC t = 0) (hC : ML u m 6 D) (h6 : nW D < 6) (hQ : ∀ u', Fx (inML m) u u' → MTk m c n (wl4 c n t) u' → (kC (wl4 c n t) = 0 → ML u' m 6 (ldW D (wlV c n lv t))) → Q u') : V_X12_readWall G m lv u Q := by
  obtain ⟨m0, mk, ⟨k2, n2, r2⟩, _, _, _, _, ⟨k7, n7, r7⟩, _, _⟩ := id hM
  have cnt := hC.1
  have eB : ((48 : Int32) + nI (nW D)) * 5 = nI ((48 + nW D) * 5) := by rw [nI_litS]; exact nI_litR 5 _
  unfold V_X12_readWall
  rw [r2, r7, c6_6, cnt, eB]
  refine ⟨mk, by omega, k2, by rw [n2]; exact vp_67, fun x hx => ?_⟩
  subst hx
  generalize hB : (48 + nW D) * 5 = B at *
  have p1 : nI B + 1 = nI (B + 1) := nI_1 _
  have p2 : nI B + 2 = nI (B + 2) := nI_litA 2 _
  have p3 : nI B + 3 = nI (B + 3) := nI_litA 3 _
  have p4 : nI B + 4 = nI (B + 4) := nI_litA 4 _
  have d0 : (nI B).toNatClampNeg = B := nI_clamp (by omega)
  have d1 : (nI (B + 1)).toNatClampNeg = B + 1 := nI_clamp (by omega)
  have d2 : (nI (B + 2)).toNatClampNeg = B + 2 := nI_clamp (by omega)
  have d3 : (nI (B + 3)).toNatClampNeg = B + 3 := nI_clamp (by omega)
  have d4 : (nI (B + 4)).toNatClampNeg = B + 4 := nI_clamp (by omega)
  simp only [p1, p2, p3, p4, d0, d1, d2, d3, d4, c6_6]
  refine ⟨by omega, k7, by rw [n7]; exact vp_in_nI (by omega) (by omega), fun u1 e1 => ?_⟩
  have f1 : Fx (fun b i => b = m + 7 ∧ i = B) u u1 := by rw [e1]; exact Fx.put ⟨rfl, rfl⟩
  have F1 : Fx (inMY m (m + 7) B 5) u u1 := f1.mono (fun b i q => Or.inr ⟨q.1, by omega, by omega⟩)
  have T1 := hT.fx f1 (fun b i q => by omega)
  have H1 : Hd u1 (m + 7) B 1 (wlV c n lv t) := fun f hf => by
    rw [show f = 0 by omega, e1, gI_sI, if_pos ⟨rfl, by omega⟩]; rfl
  clear e1 f1
  rw [F1.gR, r7]
  refine ⟨by omega, ?_⟩
  refine m_num (x := m + 7) (lo := 0) (hi := 40) (fl := 0) (b := B) (j := 1) (V := wlV c n lv t) (h.fx F1) hn hc T1 rfl rfl (by omega) (by omega) (fun _ v _ hv => m1_fl hv) (fun _ => H1) rfl (by omega) (by omega) rfl (fun v _ _ go1 => ⟨k7, by rw [n7]; exact vp_in_nI (by omega) (by omega), fun u3 e3 => ?_⟩)
  obtain ⟨f3, T3, H3⟩ := go1 u3 e3
  have F3 := F1.trans (f3.mono (mto_Y (by omega) (by omega)))
  clear go1 e3 f3
  rw [F3.gR, r7]
  refine ⟨by omega, ?_⟩
  refine m_num (x := m + 7) (lo := 0) (hi := 40) (fl := 0) (b := B) (j := 2) (V := wlV c n lv t) (h.fx F3) hn hc T3 rfl rfl (by omega) (by omega) (fun _ v _ hv => m1_fl hv) H3 rfl (by omega) (by omega) rfl (fun v _ _ go1 => ⟨k7, by rw [n7]; exact vp_in_nI (by omega) (by omega), fun u4 e4 => ?_⟩)
  obtain ⟨f4, T4, H4⟩ := go1 u4 e4
  have F4 := F3.trans (f4.mono (mto_Y (by omega) (by omega)))
  clear go1 e4 f4
  rw [F4.gR, r7]
  refine ⟨by omega, k7, by rw [n7]; exact vp_in_nI (by omega) (by omega), ?_⟩
  refine m_num (x := m + 7) (lo := 0) (hi := 40) (fl := rdV c n (wl1 c n t) + 1) (b := B) (j := 3) (V := wlV c n lv t) (h.fx F4) hn hc T4 rfl rfl (by omega) (by omega) (fun q0 v _ hv => ?_) H4 rfl (by omega) (by omega) rfl (fun v _ _ go1 => ⟨by rw [n7]; exact vp_in_nI (by omega) (by omega), fun u5 e5 => ?_⟩)
  · have v4 : gI u4 (m + 7) (B + 2) = nI (rdV c n (wl1 c n t)) := H4 q0 2 (by omega)
    rw [v4, nI_1]
    have : rdV c n (wl1 c n t) ≤ 40 := (rdT_0 q0).2.2.1
    exact nI_fl (by omega) hv
  obtain ⟨f5, T5, H5⟩ := go1 u5 e5
  have F5 := F4.trans (f5.mono (mto_Y (by omega) (by omega)))
  clear go1 e5 f5
  rw [F5.gR, r7]
  refine ⟨by omega, ?_⟩
  refine m_loss (x := m + 7) (b := B) (j := 4) (V := wlV c n lv t) (h.fx F5) hn hc T5 H5 rfl (by omega) (by omega) rfl (fun v _ _ go1 => ⟨k7, by rw [n7]; exact vp_in_nI (by omega) (by omega), fun u6 e6 => ?_⟩)
  obtain ⟨f6, T6, H6⟩ := go1 u6 e6
  have F6 := F5.trans (f6.mono (mto_Y (by omega) (by omega)))
  clear go1 e6 f6
  have y3 : gI u6 (m + 2) 6 = nI (nW D) := by rw [F6.2 _ _ (by unfold inMY inM6; omega)]; exact cnt
  rw [F6.gR, r2, y3, nI_1]
  refine ⟨by omega, k2, by rw [n2]; exact vp_67, fun u8 e8 => ?_⟩
  have f8 : Fx (fun b i => b = m + 2 ∧ i = 6) u6 u8 := by rw [e8]; exact Fx.put ⟨rfl, rfl⟩
  refine hQ u8 ((F6.mono (fun b i q => by unfold inMY at q; unfold inML; rcases q with q | q; exact Or.inl q; omega)).trans (f8.mono (fun b i q => Or.inr (Or.inl ⟨by omega, by omega, q.2⟩)))) (T6.fx f8 (fun b i q => by omega)) (fun q0 => ?_)
  refine hC.addW (fun b i g1 g2 g3 g4 => ?_) ?_ (fun f g1 => ?_)
  · rw [f8.2 _ _ (by omega), F6.2 _ _ (by unfold inMY inM6; omega)]
  · rw [e8, gI_sI, if_pos ⟨rfl, rfl⟩]
  · rw [hB, f8.2 _ _ (by omega)]
    exact H6 q0 f g1
theorem m_readBarn {Q : Mm → Prop} {m : Nat} {t : Tk} {D : Ld} (h : R11 G u m) (hM : MR G u m) (hn : n ≤ 700) (hc : ∀ i, c i < 256) (hT : MTk m c n t u) (h0 : kC t = 0) (hC : ML u m 6 D) (h6 : nB D < 6) (hQ : ∀ u', Fx (inML m) u u' → MTk m c n (bn6 c n t) u' → (kC (bn6 c n t) = 0 → ML u' m 6 (ldB D (bnV c n t))) → Q u') : V_X12_readBarn G m u Q := by
  obtain ⟨m0, mk, _, ⟨k2, n2, r2⟩, _, _, _, _, ⟨k7, n7, r7⟩, _⟩ := id hM
  have cnt := hC.2.1
  have eB : ((48 : Int32) + nI (nB D)) * 5 = nI ((48 + nB D) * 5) := by rw [nI_litS]; exact nI_litR 5 _
  unfold V_X12_readBarn
  rw [r2, r7, c6_6, cnt, eB]
  refine ⟨mk, by omega, k2, by rw [n2]; exact vp_67, fun x hx => ?_⟩
  subst hx
  generalize hB : (48 + nB D) * 5 = B at *
  have p1 : nI B + 1 = nI (B + 1) := nI_1 _
  have p2 : nI B + 2 = nI (B + 2) := nI_litA 2 _
  have p3 : nI B + 3 = nI (B + 3) := nI_litA 3 _
  have p4 : nI B + 4 = nI (B + 4) := nI_litA 4 _
  have d0 : (nI B).toNatClampNeg = B := nI_clamp (by omega)
  have d1 : (nI (B + 1)).toNatClampNeg = B + 1 := nI_clamp (by omega)
  have d2 : (nI (B + 2)).toNatClampNeg = B + 2 := nI_clamp (by omega)
  have d3 : (nI (B + 3)).toNatClampNeg = B + 3 := nI_clamp (by omega)
  have d4 : (nI (B + 4)).toNatClampNeg = B + 4 := nI_clamp (by omega)
  simp only [p1, p2, p3, p4, d0, d1, d2, d3, d4, c6_6]
  have in0 : ∀ i, i < 5 → vp_in (nI (B + i)) (ln G (m + 8)) := fun i hi => by rw [n7]; exact vp_in_nI (by omega) (by omega)
  -- the count
  have last : ∀ w, Fx (inMY m (m + 8) B 5) u w → MTk m c n (bn6 c n t) w → (kC (bn6 c n t) = 0 → Hd w (m + 8) B 5 (bnV c n t)) → V_X12_readBarn_126 G Q m w := by
    intro w F6 T6 H6
    unfold V_X12_readBarn_126
    have y3 : gI w (m + 3) 6 = nI (nB D) := by rw [F6.2 _ _ (by unfold inMY inM6; omega)]; exact cnt
    rw [F6.gR, r2, c6_6, y3, nI_1]
    refine ⟨mk, by omega, k2, by rw [n2]; exact vp_67, fun u8 e8 => ?_⟩
    have f8 : Fx (fun b i => b = m + 3 ∧ i = 6) w u8 := by rw [e8]; exact Fx.put ⟨rfl, rfl⟩
    refine hQ u8 ((F6.mono (fun b i q => by unfold inMY at q; unfold inML; rcases q with q | q; exact Or.inl q; omega)).trans (f8.mono (fun b i q => Or.inr (Or.inl ⟨by omega, by omega, q.2⟩)))) (T6.fx f8 (fun b i q => by omega)) (fun q0 => ?_)
    refine hC.addB (fun b i g1 g2 g3 g4 => ?_) ?_ (fun f g1 => ?_)
    · rw [f8.2 _ _ (by omega), F6.2 _ _ (by unfold inMY inM6; omega)]
    · rw [e8, gI_sI, if_pos ⟨rfl, rfl⟩]
    · rw [hB, f8.2 _ _ (by omega)]
      exact H6 q0 f g1
  refine ⟨by omega, ?_⟩
  refine m_num (x := m + 8) (lo := 0) (hi := 40) (fl := 0) (b := B) (j := 0) (V := bnV c n t) h hn hc hT rfl rfl (by omega) (by omega) (fun _ v _ hv => m1_fl hv) (fun _ f hf => absurd hf (by omega)) rfl (by omega) (by omega) rfl (fun v _ _ go1 => ⟨k7, in0 0 (by omega), fun u3 e3 => ?_⟩)
  obtain ⟨f3, T3, H3⟩ := go1 u3 e3
  have F3 : Fx (inMY m (m + 8) B 5) u u3 := f3.mono (mto_Y (by omega) (by omega))
  clear go1 e3 f3
  rw [F3.gR, r7]
  refine ⟨by omega, ?_⟩
  refine m_num (x := m + 8) (lo := 0) (hi := 40) (fl := 0) (b := B) (j := 1) (V := bnV c n t) (h.fx F3) hn hc T3 rfl rfl (by omega) (by omega) (fun _ v _ hv => m1_fl hv) H3 rfl (by omega) (by omega) rfl (fun v _ _ go1 => ⟨k7, in0 1 (by omega), fun u4 e4 => ?_⟩)
  obtain ⟨f4, T4, H4⟩ := go1 u4 e4
  have F4 := F3.trans (f4.mono (mto_Y (by omega) (by omega)))
  clear go1 e4 f4
  rw [F4.gR, r7]
  refine ⟨by omega, ?_⟩
  refine m_loss (x := m + 8) (b := B) (j := 2) (V := bnV c n t) (h.fx F4) hn hc T4 H4 rfl (by omega) (by omega) rfl (fun v _ _ go1 => ⟨k7, in0 2 (by omega), fun u5 e5 => ?_⟩)
  obtain ⟨f5, T5, H5⟩ := go1 u5 e5
  have F5 := F4.trans (f5.mono (mto_Y (by omega) (by omega)))
  clear go1 e5 f5
  rw [F5.gR, r7]
  refine ⟨by omega, k7, in0 3 (by omega), fun u6 e6 => ?_⟩
  have f6 : Fx (fun b i => b = m + 8 ∧ i = B + 3) u5 u6 := by rw [e6]; exact Fx.put ⟨rfl, rfl⟩
  rw [f6.gR, F5.gR, r7]
  refine ⟨by omega, k7, in0 4 (by omega), fun u7 e7 => ?_⟩
  have f7 : Fx (fun b i => b = m + 8 ∧ B + 3 ≤ i ∧ i < B + 5) u5 u7 := by
    rw [e7]
    exact (f6.mono (fun b i q => by omega)).trans (Fx.put (by omega))
  have F7 : Fx (inMY m (m + 8) B 5) u u7 := F5.trans (f7.mono (fun b i q => Or.inr ⟨q.1, by omega, by omega⟩))
  have T7 : MTk m c n (bn3 c n t) u7 := T5.fx f7 (fun b i q => by omega)
  have H7 : kC (bn3 c n t) = 0 → Hd u7 (m + 8) B 3 (bnV c n t) := fun q0 f hf => by rw [f7.2 _ _ (by omega)]; exact H5 q0 f hf
  have ew : isW c n 35 (bn3 c n t) = isW c n 6 (bn3 c n t) := rfl
  refine m_passes (by omega) (h.fx F7) hn hc T7 (fun w u8 f8 T8 => ⟨fun r => absurd r (by decide), fun _ => ?_⟩) (fun w => ⟨fun _ => ?_, fun r => absurd rfl r⟩)
  · rw [ew] at w
    have eb : bn6 c n t = bn5 c n t := by
      unfold bn6
      rw [if_pos w]
    rw [eb] at last
    have hv3 : bnV c n t 3 = nI (rdV c n (nxt c n (bn3 c n t))) := by
      show (if isW c n 6 (bn3 c n t) = true then _ else _) = _
      rw [if_pos w]
    have hv4 : bnV c n t 4 = nI (rdV c n (bn4 c n t)) := by
      show (if isW c n 6 (bn3 c n t) = true then _ else _) = _
      rw [if_pos w]
    have q0 := isW_0 w
    have F8 : Fx (inMY m (m + 8) B 5) u u8 := F7.trans (f8.mono (fun b i q => Or.inl q))
    rw [F8.gR, r7]
    refine ⟨by omega, ?_⟩
    refine m_num (x := m + 8) (lo := 0) (hi := 99) (fl := 0) (b := B) (j := 3) (V := bnV c n t) (h.fx F8) hn hc T8 rfl rfl (by omega) (by omega) (fun _ v _ hv => m1_fl hv) (fun _ f hf => by rw [f8.2 _ _ (by unfold inM6; omega)]; exact H7 q0 f hf) hv3 (by omega) (by omega) rfl (fun v _ _ go1 => ⟨k7, in0 3 (by omega), fun u9 e9 => ?_⟩)
    obtain ⟨f9, T9, H9⟩ := go1 u9 e9
    have F9 := F8.trans (f9.mono (mto_Y (by omega) (by omega)))
    clear go1 e9 f9
    rw [F9.gR, r7]
    refine ⟨by omega, k7, in0 3 (by omega), ?_⟩
    refine m_num (x := m + 8) (lo := 0) (hi := 99) (fl := rdV c n (nxt c n (bn3 c n t))) (b := B) (j := 4) (V := bnV c n t) (h.fx F9) hn hc T9 rfl rfl (by omega) (by omega) (fun q1 v _ hv => ?_) H9 hv4 (by omega) (by omega) rfl (fun v _ _ go1 => ⟨in0 4 (by omega), fun u10 e10 => ?_⟩)
    · have v4 : gI u9 (m + 8) (B + 3) = nI (rdV c n (nxt c n (bn3 c n t))) := (H9 q1 3 (by omega)).trans hv3
      rw [v4]
      have : rdV c n (nxt c n (bn3 c n t)) ≤ 99 := (rdT_0 q1).2.2.1
      exact nI_fl (by omega) hv
    · obtain ⟨f10, T10, H10⟩ := go1 u10 e10
      exact last u10 (F9.trans (f10.mono (mto_Y (by omega) (by omega)))) T10 H10
  · rw [ew] at w
    have eb : bn6 c n t = bn3 c n t := by
      unfold bn6
      rw [if_neg (by rw [w]; decide)]
    rw [eb] at last
    refine last u7 F7 T7 (fun q0 f hf => ?_)
    by_cases g : f < 3
    · exact H7 q0 f g
    · by_cases g3 : f = 3
      · rw [g3, e7, gI_sI, if_neg (by omega), e6, gI_sI, if_pos ⟨rfl, rfl⟩]
        show _ = (if isW c n 6 (bn3 c n t) = true then _ else _)
        rw [if_neg (by rw [w]; decide)]
      · rw [show f = 4 by omega, e7, gI_sI, if_pos ⟨rfl, rfl⟩]
        show _ = (if isW c n 6 (bn3 c n t) = true then _ else _)
        rw [if_neg (by rw [w]; decide)]
end MLINES
