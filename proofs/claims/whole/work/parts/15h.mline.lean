/-! ONE LINE, whole -/
def whF (c : Nat → Nat) (n : Nat) (t : Tk) : Nat → Nat → Nat
  | 0, i => i
  | f + 1, i => if isW c n (28 + i) t then i else whF c n t f (i + 1)
def wh (c : Nat → Nat) (n : Nat) (t : Tk) : Nat := whF c n t 6 0
theorem whF_bd {c : Nat → Nat} {n : Nat} {t : Tk} : ∀ f i, i ≤ whF c n t f i ∧ whF c n t f i ≤ i + f
  | 0, i => ⟨Nat.le_refl _, Nat.le_refl _⟩
  | f + 1, i => by
    unfold whF
    split
    · omega
    · have := whF_bd (c := c) (n := n) (t := t) f (i + 1); omega
theorem whF_is {c : Nat → Nat} {n : Nat} {t : Tk} : ∀ f i, whF c n t f i < i + f → isW c n (28 + whF c n t f i) t = true
  | 0, i, h => by unfold whF at h; omega
  | f + 1, i, h => by
    unfold whF at h ⊢
    by_cases w : isW c n (28 + i) t = true
    · rw [if_pos w]; exact w
    · rw [if_neg w] at h ⊢
      exact whF_is f (i + 1) (by omega)
def lnT (c : Nat → Nat) (n : Nat) (D : Ld) (hb ab : Bool) (t : Tk) : Tk := if wh c n t < 2 then ln0 c n D t else if wh c n t = 2 then ln2 c n D t else if wh c n t = 3 then ln3 c n D t else if wh c n t = 4 then ln4 c n hb t else if wh c n t = 5 then ln5 c n ab t else flt4 c n 1 t
def lnD (c : Nat → Nat) (n : Nat) (D : Ld) (t : Tk) : Ld := if wh c n t < 2 then ldW D (wlV c n (nI (wh c n t)) (nxt c n t)) else if wh c n t = 2 then ldB D (bnV c n (nxt c n t)) else if wh c n t = 3 then ldO D (wdVs c n (nxt c n t)) else if wh c n t = 4 then ldH D (nI (rdV c n (nxt c n t))) else if wh c n t = 5 then ldA D (nI (rdV c n (nxt c n t))) else D
def lnH (c : Nat → Nat) (n : Nat) (hb : Bool) (t : Tk) : Bool := if wh c n t = 4 then true else hb
def lnA (c : Nat → Nat) (n : Nat) (ab : Bool) (t : Tk) : Bool := if wh c n t = 5 then true else ab
/-- what was told, as the model's bits -/
def TD (p : Int32) (hb ab : Bool) : Prop := ∃ q, q < 64 ∧ p = nI q ∧ (q / 16 % 2 = 1 ↔ hb = true) ∧ (q / 32 % 2 = 1 ↔ ab = true)
theorem td_or : ∀ q, q < 64 → ∀ k, k < 6 → ∃ r, r < 64 ∧ nI q ||| shl 1 (nI k) = nI r ∧ (r / 16 % 2 = 1 ↔ (k = 4 ∨ q / 16 % 2 = 1)) ∧ (r / 32 % 2 = 1 ↔ (k = 5 ∨ q / 32 % 2 = 1)) := by
  have all : ∀ q, q < 64 → ∀ k, k < 6 → nI q ||| shl 1 (nI k) = nI (q ||| 2 ^ k) ∧ (q ||| 2 ^ k) < 64 ∧ ((q ||| 2 ^ k) / 16 % 2 = 1 ↔ (k = 4 ∨ q / 16 % 2 = 1)) ∧ ((q ||| 2 ^ k) / 32 % 2 = 1 ↔ (k = 5 ∨ q / 32 % 2 = 1)) := by decide +kernel
  intro q hq k hk
  obtain ⟨a1, a2, a3, a4⟩ := all q hq k hk
  exact ⟨_, a2, a1, a3, a4⟩
theorem td_bit : ∀ q, q < 64 → ((shr (nI q) (nI 4) &&& 1 = 1) ↔ q / 16 % 2 = 1) ∧ ((shr (nI q) (nI 5) &&& 1 = 1) ↔ q / 32 % 2 = 1) := by decide +kernel
section MLINE
variable {G : Gx} {u : Mm} {c : Nat → Nat} {n : Nat}
theorem m_readWood {Q : Mm → Prop} {m : Nat} {t : Tk} {D : Ld} (h : R11 G u m) (hM : MR G u m) (hn : n ≤ 700) (hc : ∀ i, c i < 256) (hT : MTk m c n t u) (h0 : kC t = 0) (hC : ML u m 6 D) (h6 : nO D < 4) (hQ : ∀ u', Fx (inML m) u u' → MTk m c n (wdI c n t 3) u' → (kC (wdI c n t 3) = 0 → ML u' m 6 (ldO D (wdVs c n t))) → Q u') : V_X12_readWood G m u Q := by
  obtain ⟨m0, mk, _, _, ⟨k2, n2, r2⟩, _, _, _, _, ⟨k7, n7, r7⟩⟩ := id hM
  have cnt := hC.2.2.1
  have eB : ((24 : Int32) + nI (nO D)) * 7 = nI ((24 + nO D) * 7) := by rw [nI_litS]; exact nI_litR 7 _
  unfold V_X12_readWood
  rw [r2, r7, c6_6, cnt, eB]
  refine ⟨mk, by omega, k2, by rw [n2]; exact vp_67, fun x hx => ?_⟩
  subst hx
  generalize hB : (24 + nO D) * 7 = B at *
  have p1 : nI B + 1 = nI (B + 1) := nI_1 _
  have p2 : nI B + 2 = nI (B + 2) := nI_litA 2 _
  have p3 : nI B + 3 = nI (B + 3) := nI_litA 3 _
  have d0 : (nI B).toNatClampNeg = B := nI_clamp (by omega)
  have d1 : (nI (B + 1)).toNatClampNeg = B + 1 := nI_clamp (by omega)
  have d2 : (nI (B + 2)).toNatClampNeg = B + 2 := nI_clamp (by omega)
  have d3 : (nI (B + 3)).toNatClampNeg = B + 3 := nI_clamp (by omega)
  simp only [p1, p2, p3, d0, d1, d2, d3]
  have in0 : ∀ i, i < 7 → vp_in (nI (B + i)) (ln G (m + 9)) := fun i hi => by rw [n7]; exact vp_in_nI (by omega) (by omega)
  refine ⟨by omega, ?_⟩
  refine m_num (x := m + 9) (lo := 0) (hi := 40) (fl := 0) (b := B) (j := 0) (V := wdVs c n t) h hn hc hT rfl rfl (by omega) (by omega) (fun _ v _ hv => m1_fl hv) (fun _ f hf => absurd hf (by omega)) rfl (by omega) (by omega) rfl (fun v _ _ go1 => ⟨k7, in0 0 (by omega), fun u3 e3 => ?_⟩)
  obtain ⟨f3, T3, H3⟩ := go1 u3 e3
  have F3 : Fx (inMY m (m + 9) B 7) u u3 := f3.mono (mto_Y (by omega) (by omega))
  clear go1 e3 f3
  rw [F3.gR, r7]
  refine ⟨by omega, ?_⟩
  refine m_num (x := m + 9) (lo := 0) (hi := 40) (fl := 0) (b := B) (j := 1) (V := wdVs c n t) (h.fx F3) hn hc T3 rfl rfl (by omega) (by omega) (fun _ v _ hv => m1_fl hv) H3 rfl (by omega) (by omega) rfl (fun v _ _ go1 => ⟨k7, in0 1 (by omega), fun u4 e4 => ?_⟩)
  obtain ⟨f4, T4, H4⟩ := go1 u4 e4
  have F4 := F3.trans (f4.mono (mto_Y (by omega) (by omega)))
  clear go1 e4 f4
  rw [F4.gR, r7]
  refine ⟨by omega, k7, in0 0 (by omega), ?_⟩
  refine m_num (x := m + 9) (lo := 0) (hi := 40) (fl := rdV c n t) (b := B) (j := 2) (V := wdVs c n t) (h.fx F4) hn hc T4 rfl rfl (by omega) (by omega) (fun q1 v _ hv => ?_) H4 rfl (by omega) (by omega) rfl (fun v _ _ go1 => ⟨in0 2 (by omega), fun u5 e5 => ?_⟩)
  · have v4 : gI u4 (m + 9) B = nI (rdV c n t) := H4 q1 0 (by omega)
    rw [v4]
    have : rdV c n t ≤ 40 := (rdT_0 (rdT_0 q1).1).2.2.1
    exact nI_fl (by omega) hv
  obtain ⟨f5, T5, H5⟩ := go1 u5 e5
  have F5 := F4.trans (f5.mono (mto_Y (by omega) (by omega)))
  clear go1 e5 f5
  rw [F5.gR, r7]
  refine ⟨by omega, k7, in0 1 (by omega), ?_⟩
  refine m_num (x := m + 9) (lo := 0) (hi := 40) (fl := rdV c n (wd1 c n t)) (b := B) (j := 3) (V := wdVs c n t) (h.fx F5) hn hc T5 rfl rfl (by omega) (by omega) (fun q1 v _ hv => ?_) H5 rfl (by omega) (by omega) rfl (fun v _ _ go1 => ⟨in0 3 (by omega), fun u6 e6 => ?_⟩)
  · have v4 : gI u5 (m + 9) (B + 1) = nI (rdV c n (wd1 c n t)) := H5 q1 1 (by omega)
    rw [v4]
    have : rdV c n (wd1 c n t) ≤ 40 := (rdT_0 (rdT_0 q1).1).2.2.1
    exact nI_fl (by omega) hv
  obtain ⟨f6, T6, H6⟩ := go1 u6 e6
  have F6 := F5.trans (f6.mono (mto_Y (by omega) (by omega)))
  clear go1 e6 f6
  have T6 : MTk m c n (wdI c n t 0) u6 := T6
  suffices go : ∀ (k j : Nat) (w : Mm), j + k = 3 → Fx (inMY m (m + 9) B 7) u w → MTk m c n (wdI c n t j) w → (kC (wdI c n t j) = 0 → Hd w (m + 9) B (4 + j) (wdVs c n t)) → V_X12_readWood_90 G Q (k + 1) m (nI B) (nI (4 + j)) w from ⟨4, go 3 0 u6 rfl F6 T6 H6⟩
  intro k
  induction k with
  | zero =>
    intro j w hj F T H
    have hj : j = 3 := by omega
    subst hj
    show V_X12_readWood_90_B G Q (V_X12_readWood_90 G Q 0) m (nI B) (nI 7) w
    unfold V_X12_readWood_90_B
    have y3 : gI w (m + 4) 6 = nI (nO D) := by rw [F.2 _ _ (by unfold inMY inM6; omega)]; exact cnt
    refine ⟨fun _ => ?_, fun r => absurd (nI_le (a := 7) (b := 7) (by omega) (by omega)) r⟩
    rw [F.gR, r2, c6_6, y3, nI_1]
    refine ⟨mk, by omega, k2, by rw [n2]; exact vp_67, fun u8 e8 => ?_⟩
    have f8 : Fx (fun b i => b = m + 4 ∧ i = 6) w u8 := by rw [e8]; exact Fx.put ⟨rfl, rfl⟩
    refine hQ u8 ((F.mono (fun b i q => by unfold inMY at q; unfold inML; rcases q with q | q; exact Or.inl q; omega)).trans (f8.mono (fun b i q => Or.inr (Or.inl ⟨by omega, by omega, q.2⟩)))) (T.fx f8 (fun b i q => by omega)) (fun q0 => ?_)
    refine hC.addO (fun b i g1 g2 g3 g4 => ?_) ?_ (fun f g1 => ?_)
    · rw [f8.2 _ _ (by omega), F.2 _ _ (by unfold inMY inM6; omega)]
    · rw [e8, gI_sI, if_pos ⟨rfl, rfl⟩]
    · rw [hB, f8.2 _ _ (by omega)]
      exact H q0 f g1
  | succ k ih =>
    intro j w hj F T H
    show V_X12_readWood_90_B G Q (V_X12_readWood_90 G Q (k + 1)) m (nI B) (nI (4 + j)) w
    unfold V_X12_readWood_90_B
    refine ⟨fun r => absurd ((nI_leI (a := 7) (by omega) (by omega)).mp r) (by omega), fun _ => ?_⟩
    rw [F.gR, r7, nI_add, nI_clamp (by omega)]
    refine ⟨mk, by omega, ?_⟩
    refine m_num (x := m + 9) (lo := 0) (hi := 100) (fl := 0) (b := B) (j := 4 + j) (V := wdVs c n t) (h.fx F) hn hc T rfl rfl (by omega) (by omega) (fun _ v _ hv => m1_fl hv) H ?_ (by omega) (by omega) rfl (fun v _ _ go1 => ⟨k7, in0 _ (by omega), fun u7 e7 y hy => ?_⟩)
    · unfold wdVs
      rw [if_neg (by omega), if_neg (by omega), if_neg (by omega), if_neg (by omega), show 4 + j - 4 = j by omega]
    · obtain ⟨f7, T7, H7⟩ := go1 u7 e7
      rw [hy, nI_1]
      exact ih (j + 1) u7 (by omega) (F.trans (f7.mono (mto_Y (by omega) (by omega)))) T7 H7
theorem m_which {Q : Int32 → Mm → Prop} {m : Nat} {t : Tk} (hH : HM G u m) (hn : n ≤ 700) (hT : MTk m c n t u) (h1 : wh c n t < 6 → Q (nI (wh c n t)) u) (h0 : wh c n t = 6 → Q (-1) u) : V_X12_which G m u Q := by
  have h : R11 G u m := ⟨hH.1.1, hH.1.2.1, hH.2.2.1.2.1⟩
  obtain ⟨_, _, _, _, _, _, _, _, _, _, _, ⟨k1, n1, r1⟩, hw⟩ := id hH.2.2.2
  have mk := h.2.1
  suffices go : ∀ f i, i + f = 6 → whF c n t f i = wh c n t → V_X12_which_2 G Q (f + 1) m (nI i) u from ⟨7, go 6 0 rfl rfl⟩
  intro f
  induction f with
  | zero =>
    intro i hi hw'
    have hw' : i = wh c n t := hw'
    show V_X12_which_2_B G Q (V_X12_which_2 G Q 0) m (nI i) u
    unfold V_X12_which_2_B
    rw [r1, n1]
    exact ⟨mk, by omega, k1, fun _ => h0 (by omega), fun q => absurd (nI_le (by omega) (by omega)) q⟩
  | succ f ih =>
    intro i hi hw'
    show V_X12_which_2_B G Q (V_X12_which_2 G Q (f + 1)) m (nI i) u
    unfold V_X12_which_2_B
    rw [r1, n1, nI_clamp (by omega), hw i (by omega), show 29 + i - 1 = 28 + i by omega]
    unfold whF at hw'
    refine ⟨mk, by omega, k1, fun q => absurd ((nI_leI (by omega) (by omega)).mp q) (by omega), fun _ => ⟨vp_in_nI (by omega) (by omega), by omega, m_is (by omega) h hn hT (fun w => ⟨fun r => absurd r (by decide), fun _ => ?_⟩) (fun w => ⟨fun _ y hy => ?_, fun r => absurd rfl r⟩)⟩⟩
    · rw [if_pos w] at hw'
      rw [hw']
      exact h1 (by omega)
    · rw [if_neg (by rw [w]; decide)] at hw'
      rw [hy, nI_1]
      exact ih (i + 1) (by omega) hw'
end MLINE
