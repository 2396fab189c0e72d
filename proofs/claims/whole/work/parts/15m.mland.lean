/-! LAND, in the model -/
def inLM (m : Nat) : Nat → Nat → Prop := fun b j => (b = m ∧ (j = 1 ∨ (12 ≤ j ∧ j ≤ 21))) ∨ (m + 2 ≤ b ∧ b ≤ m + 6 ∧ j = 6) ∨ ((b = m + 7 ∨ b = m + 8) ∧ 240 ≤ j) ∨ (b = m + 9 ∧ 168 ≤ j)
def inCP (m k : Nat) : Nat → Nat → Prop := fun b j => (m + 2 ≤ b ∧ b ≤ m + 6 ∧ j = k) ∨ ((b = m + 7 ∨ b = m + 8) ∧ 40 * k ≤ j ∧ j < 40 * k + 40) ∨ (b = m + 9 ∧ 28 * k ≤ j ∧ j < 28 * k + 28)
theorem ML.at {u v : Mm} {m l : Nat} {D : Ld} (h : ML u m l D) (hD : okD D) (e : ∀ b j, (m + 2 ≤ b ∧ b ≤ m + 6 ∧ j = l) ∨ ((b = m + 7 ∨ b = m + 8) ∧ 40 * l ≤ j ∧ j < 40 * l + 40) ∨ (b = m + 9 ∧ 28 * l ≤ j ∧ j < 28 * l + 28) → gI v b j = gI u b j) : ML v m l D := by
  obtain ⟨h1, h2, h3, h4, h5, hw, hb, ho⟩ := h
  obtain ⟨c1, c2, c3, _⟩ := hD
  refine ⟨?_, ?_, ?_, ?_, ?_, fun k hk f hf => ?_, fun k hk f hf => ?_, fun k hk f hf => ?_⟩
  · rw [e _ _ (by omega)]; exact h1
  · rw [e _ _ (by omega)]; exact h2
  · rw [e _ _ (by omega)]; exact h3
  · rw [e _ _ (by omega)]; exact h4
  · rw [e _ _ (by omega)]; exact h5
  · rw [e _ _ (by omega)]; exact hw k hk f hf
  · rw [e _ _ (by omega)]; exact hb k hk f hf
  · rw [e _ _ (by omega)]; exact ho k hk f hf
theorem RM.toL {G : Gx} {u v : Mm} {m : Nat} {S : St} {F : Int32} (h : RM G u m S) (hS : okS S) (f : Fx (inLM m) u v) (hN : gI v m 12 = 0) (hF : gI v m 21 = F) : RM G v m (setL S F) := by
  obtain ⟨h1, h2, h3, h4, h5, h6, h7⟩ := h
  have f3 : ∀ a j, m + 10 ≤ a → gI v a j = gI u a j := fun a j q => f.2 a j (by unfold inLM; omega)
  have f4 : ∀ j, ¬ (j = 1 ∨ (12 ≤ j ∧ j ≤ 21)) → gI v m j = gI u m j := fun j q => f.2 m j (by unfold inLM; omega)
  refine ⟨h1.keep (fun a j _ _ => f.gR a j), fun l hl => (h2 l hl).at (hS.1 l hl) (fun b j q => f.2 b j (by unfold inLM; omega)), ?_, ?_, hN, fun i hi => absurd hi (Nat.not_lt_zero _), hF⟩
  · exact h3.keep (f4 _ (by omega)) (f4 _ (by omega)) (fun j => f3 _ _ (by omega)) (fun c j q1 q2 => f3 _ _ (by omega))
  · show XM v m (sX S)
    cases hx : sX S with
    | none =>
      rw [hx] at h4
      show gI v m 45 = 0
      rw [f4 _ (by omega)]
      exact h4
    | some B2 =>
      rw [hx] at h4
      exact ⟨(f4 _ (by omega)).trans h4.1, h4.2.keep (f4 _ (by omega)) (f4 _ (by omega)) (fun j => f3 _ _ (by omega)) (fun c j q1 q2 => f3 _ _ (by omega))⟩
theorem RM.copy {G : Gx} {u v : Mm} {m k : Nat} {S : St} {D : Ld} (h : RM G u m S) (hS : okS S) (hk : k < 6) (f : Fx (inCP m k) u v) (hD : ML v m k D) : RM G v m (setD S k D) := by
  obtain ⟨h1, h2, h3, h4, h5, h6, h7⟩ := h
  have f3 : ∀ a j, m + 10 ≤ a → gI v a j = gI u a j := fun a j q => f.2 a j (by unfold inCP; omega)
  have f4 : ∀ j, gI v m j = gI u m j := fun j => f.2 m j (by unfold inCP; omega)
  refine ⟨h1.keep (fun a j _ _ => f.gR a j), fun l hl => ?_, ?_, ?_, (f4 _).trans h5, fun i hi => (f3 _ _ (by omega)).trans (h6 i hi), (f4 _).trans h7⟩
  · show ML v m l (if l = k then D else sD S l)
    by_cases e : l = k
    · rw [if_pos e, e]; exact hD
    · rw [if_neg e]
      exact (h2 l hl).at (hS.1 l hl) (fun b j q => f.2 b j (by unfold inCP; omega))
  · exact h3.keep (f4 _) (f4 _) (fun j => f3 _ _ (by omega)) (fun c j q1 q2 => f3 _ _ (by omega))
  · show XM v m (sX S)
    cases hx : sX S with
    | none =>
      rw [hx] at h4
      show gI v m 45 = 0
      rw [f4 _]
      exact h4
    | some B2 =>
      rw [hx] at h4
      exact ⟨(f4 _).trans h4.1, h4.2.keep (f4 _) (f4 _) (fun j => f3 _ _ (by omega)) (fun c j q1 q2 => f3 _ _ (by omega))⟩
section MLAND
variable {G : Gx} {u : Mm}
theorem m_cp194 {Q : Int32 → Mm → Prop} {m k : Nat} (hM : MR G u m) (hk : k < 6) (hQ : ∀ v, Fx (fun b j => b = m + 7 ∧ 40 * k ≤ j ∧ j < 40 * k + 40) u v → (∀ f, f < 40 → gI v (m + 7) (40 * k + f) = gI u (m + 7) (240 + f)) → ∃ n : Nat, V_X12_land_233 G Q n m (nI k) 0 v) : ∃ n : Nat, V_X12_land_194 G Q n m (nI k) 0 u := by
  obtain ⟨m0, mk, _, _, _, _, _, r7, r8, r9⟩ := id hM
  obtain ⟨c1, c2, c3⟩ := id r7
  suffices go : ∀ (n i : Nat) (v : Mm), i + n = 40 → Fx (fun b j => b = m + 7 ∧ 40 * k ≤ j ∧ j < 40 * k + 40) u v → (∀ f, f < i → gI v (m + 7) (40 * k + f) = gI u (m + 7) (240 + f)) → V_X12_land_194 G Q (n + 1) m (nI k) (nI i) v from ⟨40 + 1, go 40 0 u (by omega) Fx.rfl' (fun f hf => absurd hf (by omega))⟩
  intro n
  induction n with
  | zero =>
    intro i v hi F H
    have hi : i = 40 := by omega
    subst hi
    show V_X12_land_194_B G Q (V_X12_land_194 G Q 0) m (nI k) (nI 40) v
    unfold V_X12_land_194_B
    exact ⟨fun _ => hQ v F H, fun r => absurd (nI_le (a := 40) (b := 40) (by omega) (by omega)) r⟩
  | succ n ih =>
    intro i v hi F H
    show V_X12_land_194_B G Q (V_X12_land_194 G Q (n + 1)) m (nI k) (nI i) v
    unfold V_X12_land_194_B
    have e1 : (240 : Int32) + nI i = nI (240 + i) := nI_litS 240 _
    have e2 : (40 : Int32) * nI k = nI (40 * k) := nI_litM 40 _
    refine ⟨fun r => absurd ((nI_leI (a := 40) (by omega) (by omega)).mp r) (by omega), fun _ => ?_⟩
    rw [F.gR, c3, c1, c2, e1, e2, nI_add, nI_clamp (by omega), nI_clamp (by omega)]
    refine ⟨mk, by omega, rfl, vp_in_nI (by omega) (by omega), vp_in_nI (by omega) (by omega), fun v2 ev y hy => ?_⟩
    rw [hy, nI_1]
    refine ih (i + 1) v2 (by omega) (by rw [ev]; exact F.trans (Fx.put (by omega))) (fun f hf => ?_)
    by_cases e : f = i
    · rw [e, ev, gI_sI, if_pos ⟨rfl, rfl⟩, F.2 _ _ (by omega)]
    · rw [ev, gI_sI, if_neg (by omega)]
      exact H f (by omega)
theorem m_cp233 {Q : Int32 → Mm → Prop} {m k : Nat} (hM : MR G u m) (hk : k < 6) (hQ : ∀ v, Fx (fun b j => b = m + 8 ∧ 40 * k ≤ j ∧ j < 40 * k + 40) u v → (∀ f, f < 40 → gI v (m + 8) (40 * k + f) = gI u (m + 8) (240 + f)) → ∃ n : Nat, V_X12_land_272 G Q n m (nI k) 0 v) : ∃ n : Nat, V_X12_land_233 G Q n m (nI k) 0 u := by
  obtain ⟨m0, mk, _, _, _, _, _, r7, r8, r9⟩ := id hM
  obtain ⟨c1, c2, c3⟩ := id r8
  suffices go : ∀ (n i : Nat) (v : Mm), i + n = 40 → Fx (fun b j => b = m + 8 ∧ 40 * k ≤ j ∧ j < 40 * k + 40) u v → (∀ f, f < i → gI v (m + 8) (40 * k + f) = gI u (m + 8) (240 + f)) → V_X12_land_233 G Q (n + 1) m (nI k) (nI i) v from ⟨40 + 1, go 40 0 u (by omega) Fx.rfl' (fun f hf => absurd hf (by omega))⟩
  intro n
  induction n with
  | zero =>
    intro i v hi F H
    have hi : i = 40 := by omega
    subst hi
    show V_X12_land_233_B G Q (V_X12_land_233 G Q 0) m (nI k) (nI 40) v
    unfold V_X12_land_233_B
    exact ⟨fun _ => hQ v F H, fun r => absurd (nI_le (a := 40) (b := 40) (by omega) (by omega)) r⟩
  | succ n ih =>
    intro i v hi F H
    show V_X12_land_233_B G Q (V_X12_land_233 G Q (n + 1)) m (nI k) (nI i) v
    unfold V_X12_land_233_B
    have e1 : (240 : Int32) + nI i = nI (240 + i) := nI_litS 240 _
    have e2 : (40 : Int32) * nI k = nI (40 * k) := nI_litM 40 _
    refine ⟨fun r => absurd ((nI_leI (a := 40) (by omega) (by omega)).mp r) (by omega), fun _ => ?_⟩
    rw [F.gR, c3, c1, c2, e1, e2, nI_add, nI_clamp (by omega), nI_clamp (by omega)]
    refine ⟨mk, by omega, rfl, vp_in_nI (by omega) (by omega), vp_in_nI (by omega) (by omega), fun v2 ev y hy => ?_⟩
    rw [hy, nI_1]
    refine ih (i + 1) v2 (by omega) (by rw [ev]; exact F.trans (Fx.put (by omega))) (fun f hf => ?_)
    by_cases e : f = i
    · rw [e, ev, gI_sI, if_pos ⟨rfl, rfl⟩, F.2 _ _ (by omega)]
    · rw [ev, gI_sI, if_neg (by omega)]
      exact H f (by omega)
theorem m_cp272 {Q : Int32 → Mm → Prop} {m k : Nat} (hM : MR G u m) (hk : k < 6) (hQ : ∀ v, Fx (fun b j => b = m + 9 ∧ 28 * k ≤ j ∧ j < 28 * k + 28) u v → (∀ f, f < 28 → gI v (m + 9) (28 * k + f) = gI u (m + 9) (168 + f)) → Q 0 v) : ∃ n : Nat, V_X12_land_272 G Q n m (nI k) 0 u := by
  obtain ⟨m0, mk, _, _, _, _, _, r7, r8, r9⟩ := id hM
  obtain ⟨c1, c2, c3⟩ := id r9
  suffices go : ∀ (n i : Nat) (v : Mm), i + n = 28 → Fx (fun b j => b = m + 9 ∧ 28 * k ≤ j ∧ j < 28 * k + 28) u v → (∀ f, f < i → gI v (m + 9) (28 * k + f) = gI u (m + 9) (168 + f)) → V_X12_land_272 G Q (n + 1) m (nI k) (nI i) v from ⟨28 + 1, go 28 0 u (by omega) Fx.rfl' (fun f hf => absurd hf (by omega))⟩
  intro n
  induction n with
  | zero =>
    intro i v hi F H
    have hi : i = 28 := by omega
    subst hi
    show V_X12_land_272_B G Q (V_X12_land_272 G Q 0) m (nI k) (nI 28) v
    unfold V_X12_land_272_B
    exact ⟨fun _ => hQ v F H, fun r => absurd (nI_le (a := 28) (b := 28) (by omega) (by omega)) r⟩
  | succ n ih =>
    intro i v hi F H
    show V_X12_land_272_B G Q (V_X12_land_272 G Q (n + 1)) m (nI k) (nI i) v
    unfold V_X12_land_272_B
    have e1 : (168 : Int32) + nI i = nI (168 + i) := nI_litS 168 _
    have e2 : (28 : Int32) * nI k = nI (28 * k) := nI_litM 28 _
    refine ⟨fun r => absurd ((nI_leI (a := 28) (by omega) (by omega)).mp r) (by omega), fun _ => ?_⟩
    rw [F.gR, c3, c1, c2, e1, e2, nI_add, nI_clamp (by omega), nI_clamp (by omega)]
    refine ⟨mk, by omega, rfl, vp_in_nI (by omega) (by omega), vp_in_nI (by omega) (by omega), fun v2 ev y hy => ?_⟩
    rw [hy, nI_1]
    refine ih (i + 1) v2 (by omega) (by rw [ev]; exact F.trans (Fx.put (by omega))) (fun f hf => ?_)
    by_cases e : f = i
    · rw [e, ev, gI_sI, if_pos ⟨rfl, rfl⟩, F.2 _ _ (by omega)]
    · rw [ev, gI_sI, if_neg (by omega)]
      exact H f (by omega)
theorem m_atFirst {Q : Mm → Prop} {m : Nat} (hM : MR G u m) (hQ : ∀ v, Fx (fun b j => m + 2 ≤ b ∧ b ≤ m + 6 ∧ j = 6) u v → ML v m 6 D0 → Q v) : V_X12_atFirst G m 6 u Q := by
  obtain ⟨m0, mk, ⟨k2, n2, r2⟩, ⟨k3, n3, r3⟩, ⟨k4, n4, r4⟩, ⟨k5, n5, r5⟩, ⟨k6, n6, r6⟩, _⟩ := id hM
  unfold V_X12_atFirst
  rw [r2, c6_6]
  refine ⟨mk, by omega, k2, by rw [n2]; exact vp_67, fun u1 e1 => ?_⟩
  have f1 : Fx (fun b j => m + 2 ≤ b ∧ b ≤ m + 6 ∧ j = 6) u u1 := by rw [e1]; exact Fx.put (by omega)
  rw [f1.gR, r3]
  refine ⟨by omega, k3, by rw [n3]; exact vp_67, fun u2 e2 => ?_⟩
  have f2 : Fx (fun b j => m + 2 ≤ b ∧ b ≤ m + 6 ∧ j = 6) u u2 := by rw [e2]; exact f1.trans (Fx.put (by omega))
  rw [f2.gR, r4]
  refine ⟨by omega, k4, by rw [n4]; exact vp_67, fun u3 e3 => ?_⟩
  have f3 : Fx (fun b j => m + 2 ≤ b ∧ b ≤ m + 6 ∧ j = 6) u u3 := by rw [e3]; exact f2.trans (Fx.put (by omega))
  rw [f3.gR, r5]
  refine ⟨by omega, k5, by rw [n5]; exact vp_67, fun u4 e4 => ?_⟩
  have f4 : Fx (fun b j => m + 2 ≤ b ∧ b ≤ m + 6 ∧ j = 6) u u4 := by rw [e4]; exact f3.trans (Fx.put (by omega))
  rw [f4.gR, r6]
  refine ⟨by omega, k6, by rw [n6]; exact vp_67, fun u5 e5 => ?_⟩
  have f5 : Fx (fun b j => m + 2 ≤ b ∧ b ≤ m + 6 ∧ j = 6) u u5 := by rw [e5]; exact f4.trans (Fx.put (by omega))
  refine hQ u5 f5 ⟨?_, ?_, ?_, ?_, ?_, fun k hk => absurd hk (Nat.not_lt_zero _), fun k hk => absurd hk (Nat.not_lt_zero _), fun k hk => absurd hk (Nat.not_lt_zero _)⟩
  · rw [e5, gI_sI, if_neg (by omega), e4, gI_sI, if_neg (by omega), e3, gI_sI, if_neg (by omega), e2, gI_sI, if_neg (by omega), e1, gI_sI, if_pos ⟨rfl, rfl⟩]; rfl
  · rw [e5, gI_sI, if_neg (by omega), e4, gI_sI, if_neg (by omega), e3, gI_sI, if_neg (by omega), e2, gI_sI, if_pos ⟨rfl, rfl⟩]; rfl
  · rw [e5, gI_sI, if_neg (by omega), e4, gI_sI, if_neg (by omega), e3, gI_sI, if_pos ⟨rfl, rfl⟩]; rfl
  · rw [e5, gI_sI, if_neg (by omega), e4, gI_sI, if_pos ⟨rfl, rfl⟩]; rfl
  · rw [e5, gI_sI, if_pos ⟨rfl, rfl⟩]; rfl
/-- the copy of what was read -/
theorem m_copy {Q : Int32 → Mm → Prop} {m k : Nat} {D : Ld} (hM : MR G u m) (hk : k < 6) (h19 : gI u m 19 = 0) (hC : ML u m 6 D) (hD : okD D) (hQ : ∀ v, Fx (inCP m k) u v → ML v m k D → Q 0 v) : V_X12_land_96 G Q m (nI k) u := by
  obtain ⟨m0, mk, ⟨k2, n2, r2⟩, ⟨k3, n3, r3⟩, ⟨k4, n4, r4⟩, ⟨k5, n5, r5⟩, ⟨k6, n6, r6⟩, _⟩ := id hM
  obtain ⟨a1, a2, a3, a4, a5, aw, ab, ao⟩ := id hC
  obtain ⟨c1, c2, c3, _⟩ := id hD
  have vk : vp_in (nI k) 7 := vp_in_nI (by omega) (by omega)
  unfold V_X12_land_96
  rw [h19, r2, c6_6, nI_clamp (by omega), a1]
  refine ⟨mk, fun _ => ⟨by omega, k2, by rw [n2]; exact vp_67, by rw [n2]; exact vk, fun u1 e1 => ?_⟩, fun r => absurd rfl r⟩
  have f1 : Fx (inCP m k) u u1 := by rw [e1]; exact Fx.put (by unfold inCP; omega)
  rw [f1.gR, r3, f1.2 _ _ (by unfold inCP; omega), a2]
  refine ⟨by omega, k3, by rw [n3]; exact vp_67, by rw [n3]; exact vk, fun u2 e2 => ?_⟩
  have f2 : Fx (inCP m k) u u2 := by rw [e2]; exact f1.trans (Fx.put (by unfold inCP; omega))
  rw [f2.gR, r4, f2.2 _ _ (by unfold inCP; omega), a3]
  refine ⟨by omega, k4, by rw [n4]; exact vp_67, by rw [n4]; exact vk, fun u3 e3 => ?_⟩
  have f3 : Fx (inCP m k) u u3 := by rw [e3]; exact f2.trans (Fx.put (by unfold inCP; omega))
  rw [f3.gR, r5, f3.2 _ _ (by unfold inCP; omega), a4]
  refine ⟨by omega, k5, by rw [n5]; exact vp_67, by rw [n5]; exact vk, fun u4 e4 => ?_⟩
  have f4 : Fx (inCP m k) u u4 := by rw [e4]; exact f3.trans (Fx.put (by unfold inCP; omega))
  rw [f4.gR, r6, f4.2 _ _ (by unfold inCP; omega), a5]
  refine ⟨by omega, k6, by rw [n6]; exact vp_67, by rw [n6]; exact vk, fun u5 e5 => ?_⟩
  have f5 : Fx (inCP m k) u u5 := by rw [e5]; exact f4.trans (Fx.put (by unfold inCP; omega))
  have g2 : gI u5 (m + 2) k = nI (nW D) := by rw [e5, gI_sI, if_neg (by omega), e4, gI_sI, if_neg (by omega), e3, gI_sI, if_neg (by omega), e2, gI_sI, if_neg (by omega), e1, gI_sI, if_pos ⟨rfl, rfl⟩]
  have g3 : gI u5 (m + 3) k = nI (nB D) := by rw [e5, gI_sI, if_neg (by omega), e4, gI_sI, if_neg (by omega), e3, gI_sI, if_neg (by omega), e2, gI_sI, if_pos ⟨rfl, rfl⟩]
  have g4 : gI u5 (m + 4) k = nI (nO D) := by rw [e5, gI_sI, if_neg (by omega), e4, gI_sI, if_neg (by omega), e3, gI_sI, if_pos ⟨rfl, rfl⟩]
  have g5 : gI u5 (m + 5) k = hE D := by rw [e5, gI_sI, if_neg (by omega), e4, gI_sI, if_pos ⟨rfl, rfl⟩]
  have g6 : gI u5 (m + 6) k = aI D := by rw [e5, gI_sI, if_pos ⟨rfl, rfl⟩]
  have same7 : ∀ j, 240 ≤ j → gI u5 (m + 7) j = gI u (m + 7) j := fun j hj => f5.2 _ _ (by unfold inCP; omega)
  have same8 : ∀ j, 240 ≤ j → gI u5 (m + 8) j = gI u (m + 8) j := fun j hj => f5.2 _ _ (by unfold inCP; omega)
  have same9 : ∀ j, 168 ≤ j → gI u5 (m + 9) j = gI u (m + 9) j := fun j hj => f5.2 _ _ (by unfold inCP; omega)
  clear e1 e2 e3 e4 e5
  refine m_cp194 (f5.kMR hM) hk (fun v1 F1 H1 => m_cp233 ((f5.trans (F1.mono (fun b j q => by unfold inCP; omega))).kMR hM) hk (fun v2 F2 H2 => m_cp272 (((f5.trans (F1.mono (fun b j q => by unfold inCP; omega))).trans (F2.mono (fun b j q => by unfold inCP; omega))).kMR hM) hk (fun v3 F3 H3 => ?_)))
  refine hQ v3 (((f5.trans (F1.mono (fun b j q => by unfold inCP; omega))).trans (F2.mono (fun b j q => by unfold inCP; omega))).trans (F3.mono (fun b j q => by unfold inCP; omega))) ?_
  have lo : ∀ b j, m + 2 ≤ b → b ≤ m + 6 → gI v3 b j = gI u5 b j := fun b j q1 q2 => by rw [F3.2 _ _ (by omega), F2.2 _ _ (by omega), F1.2 _ _ (by omega)]
  refine ⟨?_, ?_, ?_, ?_, ?_, fun i hi f hf => ?_, fun i hi f hf => ?_, fun i hi f hf => ?_⟩
  · rw [lo _ _ (by omega) (by omega)]; exact g2
  · rw [lo _ _ (by omega) (by omega)]; exact g3
  · rw [lo _ _ (by omega) (by omega)]; exact g4
  · rw [lo _ _ (by omega) (by omega)]; exact g5
  · rw [lo _ _ (by omega) (by omega)]; exact g6
  · rw [F3.2 _ _ (by omega), F2.2 _ _ (by omega), show (8 * k + i) * 5 + f = 40 * k + (5 * i + f) by omega, H1 _ (by omega), same7 _ (by omega), show 240 + (5 * i + f) = (8 * 6 + i) * 5 + f by omega]
    exact aw i hi f hf
  · rw [F3.2 _ _ (by omega), show (8 * k + i) * 5 + f = 40 * k + (5 * i + f) by omega, H2 _ (by omega), F1.2 _ _ (by omega), same8 _ (by omega), show 240 + (5 * i + f) = (8 * 6 + i) * 5 + f by omega]
    exact ab i hi f hf
  · rw [show (4 * k + i) * 7 + f = 28 * k + (7 * i + f) by omega, H3 _ (by omega), F2.2 _ _ (by omega), F1.2 _ _ (by omega), same9 _ (by omega), show 168 + (7 * i + f) = (4 * 6 + i) * 7 + f by omega]
    exact ao i hi f hf
theorem m_land {Q : Int32 → Mm → Prop} {m : Nat} {S : St} {l p : Int32} (hR : RM G u m S) (hS : okS S) (h0 : ∀ k N, k < 6 → l = nI k → N ≤ sN S → p = nI N → ∀ u', RM G u' m (ldS S k N) → okS (ldS S k N) → Fx (fun a _ => m ≤ a ∧ a < m + 40) u u' → gI u' m 1 = 0 → Q (nI (kC (ldR S N).1)) u') (h1 : ¬ inN 6 l → ∀ u' v, Fx (msc m) u u' → gI u' m 1 = 1 → Q v u') (h2 : inN 6 l → ¬ inN (sN S + 1) p → ∀ u' v, Fx (msc m) u u' → gI u' m 1 = 2 → Q v u') : V_X12_land G m l p u Q := by
  have n700 := hS.2.2.2.1
  have hM := hR.1.1
  have m0 := hM.1
  have mk := hM.2.1
  refine ⟨mk, fun u1 e1 => ?_⟩
  have f1 : Fx (fun a j => a = m ∧ j = 1) u u1 := by rw [e1]; exact Fx.put ⟨rfl, rfl⟩
  have f1m : Fx (msc m) u u1 := f1.mono (fun a j q => by unfold msc; omega)
  have c1 : gI u1 m 1 = 0 := by rw [e1, gI_sI, if_pos ⟨rfl, rfl⟩]
  have R1 : RM G u1 m S := by rw [e1]; exact hR.put
  clear e1
  obtain ⟨hH, hLs, hB, hX, hN, hY, hF⟩ := id R1
  refine m_isLand (fun k hk ek => ⟨fun r => absurd r (by decide), fun _ => ?_⟩) (fun q => ⟨fun _ => ?_, fun r => absurd rfl r⟩)
  · have bad2 : ¬ inN (sN S + 1) p → V_X12_land_30 G Q m u1 := by
      intro q
      unfold V_X12_land_30
      refine ⟨mk, m_fail mk (h2 ⟨k, hk, ek⟩ q _ _ (f1m.trans (Fx.put (by unfold msc; omega))) ?_)⟩
      rw [gI_sI, if_pos ⟨rfl, rfl⟩]
    refine ⟨fun q => bad2 (fun r => ?_), fun q => ?_⟩
    · have := (inN_iff (by omega)).mp r
      have q := Int32.lt_iff_toInt_lt.mp q
      have e0 : (0 : Int32).toInt = 0 := by decide
      rw [e0] at q
      omega
    · rw [hN]
      refine ⟨fun q2 => ?_, fun q2 => bad2 (fun r => q2 ?_)⟩
      · have ge : 0 ≤ p.toInt := by
          rcases Int.lt_or_le p.toInt 0 with r | r
          · refine absurd (Int32.lt_iff_toInt_lt.mpr ?_) q
            exact r
          · exact r
        have le := Int32.le_iff_toInt_le.mp q2
        rw [nI_toInt (by omega)] at le
        obtain ⟨N, hN', eN⟩ := (inN_iff (n := sN S + 1) (by omega)).mpr ⟨ge, by omega⟩
        have h0 := h0 k N hk ek (by omega) eN
        rw [eN, ek]
        intro u2 e2 u3 e3 u4 e4 u5 e5 u6 e6
        have f6 : Fx (fun a j => a = m ∧ 12 ≤ j ∧ j ≤ 21) u1 u6 := by
          rw [e6, e5, e4, e3, e2]
          exact (Fx.put (by omega)).trans ((Fx.put (by omega)).trans ((Fx.put (by omega)).trans ((Fx.put (by omega)).trans (Fx.put (by omega)))))
        have g12 : gI u6 m 12 = 0 := by rw [e6, gI_sI, if_neg (by omega), e5, gI_sI, if_neg (by omega), e4, gI_sI, if_neg (by omega), e3, gI_sI, if_neg (by omega), e2, gI_sI, if_pos ⟨rfl, rfl⟩]
        have g14 : gI u6 m 14 = nI N := by rw [e6, gI_sI, if_neg (by omega), e5, gI_sI, if_neg (by omega), e4, gI_sI, if_neg (by omega), e3, gI_sI, if_pos ⟨rfl, rfl⟩]
        have g13 : gI u6 m 13 = nI 0 := by rw [e6, gI_sI, if_neg (by omega), e5, gI_sI, if_neg (by omega), e4, gI_sI, if_pos ⟨rfl, rfl⟩]; rfl
        have g19 : gI u6 m 19 = 0 := by rw [e6, gI_sI, if_neg (by omega), e5, gI_sI, if_pos ⟨rfl, rfl⟩]
        have g21 : gI u6 m 21 = -1 := by rw [e6, gI_sI, if_pos ⟨rfl, rfl⟩]
        clear e2 e3 e4 e5 e6
        have F6 : Fx (inLM m) u1 u6 := f6.mono (fun a j q => by unfold inLM; omega)
        refine m_atFirst (f6.kMR hH.1) (fun u7 f7 L7 => ?_)
        have F7 : Fx (inLM m) u1 u7 := F6.trans (f7.mono (fun a j q => by unfold inLM; omega))
        have R11' : R11 G u7 m := ⟨m0, mk, (F7.kMR3 hH.2.2.1).2.1⟩
        have B7 : MB m (cY S) N u7 := ⟨by rw [f7.2 _ _ (by omega)]; exact g14, fun i hi => by rw [F7.2 _ _ (by unfold inLM; omega), hY i (by omega), (cY_in hS (i := i) (by omega)).2]⟩
        refine m_stepOn R11' (by omega) (cY_lt hS) B7 (Nat.zero_le _) (by rw [f7.2 _ _ (by omega)]; exact g13) (fun u8 f8 a13 a15 a17 a18 a16 => ?_)
        have F8 : Fx (inLM m) u1 u8 := F7.trans (f8.mono (fun b j q => by unfold inM2 at q; unfold inLM; omega))
        have T8 : MTk m (cY S) N t00 u8 := ⟨B7.fx f8, ⟨Nat.zero_le _, Nat.zero_le _, Nat.zero_le _⟩, by rw [f8.2 _ _ (by unfold inM2; omega), f7.2 _ _ (by omega)]; exact g19, fun q => absurd rfl q, fun _ => ⟨a13, a15, a17, a18, a16⟩⟩
        have hH8 : HM G u8 m := hH.keep (fun a j _ _ => F8.gR a j)
        refine ⟨N + 1, m_lines hH8 (by omega) (cY_lt hS) (N + 1) t00 D0 false false 0 u8 (by omega) Fx.rfl' T8 (fun _ => ⟨L7.same (fun b j q1 q2 => f8.2 _ _ (by unfold inM2; omega)), D0_ok, ⟨0, by omega, rfl, by decide, by decide⟩, by show N < 0 + (N + 1); omega⟩) (fun w f9 T9 L9 => ?_)⟩
        have F9 : Fx (inLM m) u1 w := F8.trans (f9.mono (fun b j q => by unfold inML inM6 at q; unfold inLM; omega))
        have k1 : gI w m 1 = 0 := by rw [f9.2 _ _ (by unfold inML inM6; omega), f8.2 _ _ (by unfold inM2; omega), f7.2 _ _ (by omega), f6.2 _ _ (by omega)]; exact c1
        have k12 : gI w m 12 = 0 := by rw [f9.2 _ _ (by unfold inML inM6; omega), f8.2 _ _ (by unfold inM2; omega), f7.2 _ _ (by omega)]; exact g12
        have k21 : gI w m 21 = -1 := by rw [f9.2 _ _ (by unfold inML inM6; omega), f8.2 _ _ (by unfold inM2; omega), f7.2 _ _ (by omega)]; exact g21
        have all : Fx (fun a _ => m ≤ a ∧ a < m + 40) u w := (f1.mono (fun a j q => by omega)).trans (F9.mono (fun a j q => by unfold inLM at q; omega))
        by_cases kc : kC (ldR S N).1 = 0
        · unfold ldS at h0
          rw [if_pos kc, kc] at h0
          obtain ⟨L10, D10⟩ := L9 kc
          have k19 : gI w m 19 = 0 := T9.2.2.1.trans (by rw [show kC (rdF (cY S) N (N + 1) t00 D0 false false).1 = 0 from kc]; rfl)
          refine m_copy (F9.kMR hH.1) hk k19 L10 D10 (fun v fv Lv => ?_)
          refine h0 v ((R1.toL hS F9 k12 k21).copy (setL_ok hS) hk fv Lv) (setD_ok (setL_ok hS) D10) (all.trans (fv.mono (fun a j q => by unfold inCP at q; omega))) ?_
          rw [fv.2 _ _ (by unfold inCP; omega)]; exact k1
        · unfold ldS at h0
          rw [if_neg kc] at h0
          have k19 : gI w m 19 = nI (kC (ldR S N).1) := T9.2.2.1
          have k20 : gI w m 20 = nI (kP (ldR S N).1) := T9.2.2.2.1 kc
          have c4 : kC (ldR S N).1 ≤ 4 := T9.2.1.2.1
          obtain ⟨b1, b2, b3⟩ := (F9.kMR3 hH.2.2.1).1
          unfold V_X12_land_96
          rw [k19, k20]
          refine ⟨mk, fun r => absurd (nI_inj (b := 0) (by omega) (by omega) r) kc, fun _ v1 e1 => ?_⟩
          have fv : Fx (fun a j => a = m ∧ j = 21) w v1 := by rw [e1]; exact Fx.put ⟨rfl, rfl⟩
          have v21 : gI v1 m 21 = nI (kP (ldR S N).1) := by rw [e1, gI_sI, if_pos ⟨rfl, rfl⟩]
          rw [fv.gR, b3]
          refine ⟨by omega, b1, by rw [b2]; exact vp_in_nI (n := 0) (by omega) (by omega), fun v2 e2 => ?_⟩
          have e2 : v2 = sI v1 (m + 10) 0 (gI v1 (m + 10) 0 + 1) := e2
          have f2 : Fx (fun a j => a = m + 10) v1 v2 := by rw [e2]; exact Fx.put rfl
          have Rv : RM G v1 m (setL S (nI (kP (ldR S N).1))) := R1.toL hS (F9.trans (fv.mono (fun a j q => by unfold inLM; omega))) (by rw [fv.2 _ _ (by omega)]; exact k12) v21
          have v19 : gI v2 m 19 = nI (kC (ldR S N).1) := by rw [f2.2 _ _ (by omega), fv.2 _ _ (by omega)]; exact k19
          rw [v19]
          refine h0 v2 (Rv.toB (f2.mono (fun a j q => by unfold mbk; omega)) (by rw [e2]; exact Rv.2.2.1.inc (by omega))) ?_ (all.trans ((fv.mono (fun a j q => by omega)).trans (f2.mono (fun a j q => by omega)))) ?_
          · have ok := setL_ok (F := nI (kP (ldR S N).1)) hS
            exact ⟨ok.1, incR_ok hS.2.1, ok.2.2.1, ok.2.2.2.1, ok.2.2.2.2⟩
          · rw [f2.2 _ _ (by omega), fv.2 _ _ (by omega)]; exact k1
      · obtain ⟨N, hN', eN⟩ := r
        rw [eN]
        exact nI_le (by omega) (by omega)
  · refine m_fail mk (h1 q _ _ (f1m.trans (Fx.put (by unfold msc; omega))) ?_)
    rw [gI_sI, if_pos ⟨rfl, rfl⟩]
end MLAND
